abbrev rmX8_prime : Room := { frames := 4, cells := 0, slots := 0, locals := 93 }
set_option maxRecDepth 100000 in
set_option maxHeartbeats 40000000 in
theorem cX8_prime_met (l : Launch) (D : va_G) (c : Nat → ClassId) (tb : Nat) (sa sv : Nat → Nat) (a : Nat → Nat → Nat) (p0 : Int32) (X : XS) (r0 : Int32) (z0 : XS) (h : fX8_prime p0 X = some (r0, z0)) : gM l yX8_prime wsX8_prime rmX8_prime D (gY c) (xE tb sa sv) [.ref (a 0 0), .int p0] (wX a c X) (some (.int r0)) (wX a c z0) := by
  unfold fX8_prime at h
  refine gM.I (cc := cX8_prime) (maxL := 2) (by decide) rfl (Nat.le_of_ble_eq_true rfl) ?_
  intro p e s m args below meth cd hx hb hml hown hts A hA ls hl hP hK hD hS hE Q KR0
  have hfX4 : ∀ w ∈ u_ws RX4 TX4 5, w.before args s = true := fun w hw => hts w (List.mem_cons_of_mem _ (List.mem_append_left _ (List.mem_append_right _ hw)))
  have hfX8 : ∀ w ∈ u_ws RX8 TX8 12, w.before args s = true := fun w hw => hts w (List.mem_cons_of_mem _ (List.mem_append_left _ (List.mem_append_left _ (List.mem_append_right _ hw))))
  have lk0 := hts (.fieldLink RX8 50 "GlitchNets" "primes" "LGlitchNets$Primes;") (List.mem_of_getElem? (i := 1) rfl)
  have lk1 := hts (.fieldLink RX8 43 "GlitchNets" "cover" "LGlitchNets$Cover;") (List.mem_of_getElem? (i := 2) rfl)
  have lk2 := hts (.fieldLink RX8 230 "GlitchNets$Primes" "size" "I") (List.mem_of_getElem? (i := 3) rfl)
  have lk3 := hts (.fieldLink RX8 231 "GlitchNets$Primes" "cares" "[I") (List.mem_of_getElem? (i := 4) rfl)
  have lk4 := hts (.fieldLink RX8 232 "GlitchNets$Primes" "wants" "[I") (List.mem_of_getElem? (i := 5) rfl)
  have hP := XP_iff.mp hP
  have hD := XD_of hD
  have KR : ∀ (v : Int32) (w0 : XS) (H : Heap) (locs : List Loc) (pc : Nat) (ls : Array Slot), some (v, w0) = some (r0, z0) → narrow .int (.int v) = .int v → XP D a c w0 H → va_S A s.heap H locs → decode cX8_prime pc = .ok (.ireturn, 1) → W p l e rmX8_prime s m args below meth cd H locs 0 0 Q (F0 m pc ls [.int v]) := by
    intro v w0 H locs pc ls hr hn hP hS hd
    cases hr
    exact KR0 _ H locs pc ls rfl hn (XP_iff.mpr hP) (hD.all c _) hS hd
  have hl : lv_has ls 2 [(0, .ref (a 0 0)), (1, .int p0)] := hl
  refine lv_aload_n (pc := 0) hx hb dX8_prime_0 rfl (lv_at hl 0 rfl) ?_
  refine va_get (D := D) (ci := 8) (v := .ref ((a 7) 0)) (C := RX8) (T := TX8) (N := 12) (pc := 1) hx hb hfX8 (fun _ h9 => h9) hown hK (show va_P D vwCl (wX8 a c (X 0)) _ from hP 0 (by decide)) 0 rfl rfl 6 (by decide) lk0 (fun _ h9 => h9) rfl dX8_prime_1 ?_
  refine lv_aload_n (pc := 4) hx hb dX8_prime_4 rfl (lv_at hl 0 rfl) ?_
  refine va_get (D := D) (ci := 8) (v := .ref ((a 6) 0)) (C := RX8) (T := TX8) (N := 12) (pc := 5) hx hb hfX8 (fun _ h9 => h9) hown hK (show va_P D vwCl (wX8 a c (X 0)) _ from hP 0 (by decide)) 0 rfl rfl 5 (by decide) lk1 (fun _ h9 => h9) rfl dX8_prime_5 ?_
  obtain ⟨r8, hc8, h⟩ := b1_i h
  have hw : (wX0 (a 6) c (X 6)).map (·.1) = [6].flatMap (uA a) := rfl
  have hPc : va_P D vwCl (wX0 (a 6) c (X 6)) _ := hP 6 (by decide)
  have hDc : va_D A (wX0 (a 6) c (X 6)) := hD.of_addr (by decide) (by decide) hw
  refine g_X (X' := X) (st1 := [.int r8, .ref ((a 7) 0)]) (gr_V (n := 0) (rest := [.ref ((a 7) 0)]) (pc := 8) hx hb hml hown hts (cX0_stands_met l D c tb sa sv (a 6) (X 6) _ hc8) gX8_prime_X0_stands rfl rfl rfl (by decide +kernel) rfl ⟨Nat.le_of_ble_eq_true rfl, Nat.le_of_ble_eq_true rfl⟩ ⟨Nat.zero_le _, Nat.zero_le _⟩ 0 0 rfl rfl rfl xE_ok hPc hDc hK (xE_ok.tr hE hS (g_freeX hD hS hA (by decide) (addr0 hw))) hl.1 (Nat.le_of_ble_eq_true rfl) dX8_prime_8 rfl) hP hD hS hA (ks := [6]) (by decide) (addr0 hw) (fun k9 _ hk9 => rfl) (fun H1 hw1 => (List.forall_mem_cons.mpr ⟨hw1, (fun _ h9 => absurd h9 List.not_mem_nil)⟩)) rfl (fun H locs hP hS => ?_)
  obtain ⟨t0_11, hc11, h⟩ := b1_i h
  have hw : (wX4 (a 7) c (X 7)).map (·.1) = [7].flatMap (uA a) := rfl
  have hPc : va_P D vwCl (wX4 (a 7) c (X 7)) _ := hP 7 (by decide)
  have hDc : va_D A (wX4 (a 7) c (X 7)) := hD.of_addr (by decide) (by decide) hw
  refine g_X (X' := (xs X 7 t0_11)) (st1 := []) (gr_V (n := 1) (rest := []) (pc := 11) hx hb hml hown hts (cX4_find_met l D c tb sa sv (a 7) r8 (X 7) _ hc11) gX8_prime_X4_find rfl rfl rfl (by decide +kernel) rfl ⟨Nat.le_of_ble_eq_true rfl, Nat.le_of_ble_eq_true rfl⟩ ⟨Nat.zero_le _, Nat.zero_le _⟩ 0 4 rfl rfl rfl xE_ok hPc hDc hK (xE_ok.tr hE hS (g_freeX hD hS hA (by decide) (addr0 hw))) hl.1 (Nat.le_of_ble_eq_true rfl) dX8_prime_11 rfl) hP hD hS hA (ks := [7]) (by decide) (addr0 hw) (fun k9 _ hk9 => (xs_o hk9 (j := 7) (by decide))) (fun H1 hw1 => (List.forall_mem_cons.mpr ⟨hw1, (fun _ h9 => absurd h9 List.not_mem_nil)⟩)) rfl (fun H locs hP hS => ?_)
  refine lv_iload_n (pc := 14) hx hb dX8_prime_14 rfl (lv_at hl 1 rfl) ?_
  refine lv_iconst (v := -1) (pc := 15) hx hb dX8_prime_15 (by decide) ?_
  refine lv_icmp_ne (tgt := 27) (pc := 16) hx hb dX8_prime_16 (by decide) (fun c16 => ?_) (fun c16 => ?_)
  · replace h := it_f c16 h
    refine lv_iload_n (pc := 27) hx hb dX8_prime_27 rfl (lv_at hl 1 rfl) ?_
    refine lv_iconst (v := 0) (pc := 28) hx hb dX8_prime_28 (by decide) ?_
    refine lv_aload_n (pc := 29) hx hb dX8_prime_29 rfl (lv_at hl 0 rfl) ?_
    refine va_get (D := D) (ci := 8) (v := .ref ((a 7) 0)) (C := RX8) (T := TX8) (N := 12) (pc := 30) hx hb hfX8 (fun _ h9 => h9) hown hK (show va_P D vwCl (wX8 a c ((xs X 7 t0_11) 0)) _ from hP 0 (by decide)) 0 rfl rfl 6 (by decide) lk0 (fun _ h9 => h9) rfl dX8_prime_30 ?_
    refine va_get (D := D) (ci := 4) (v := .int (((xs X 7 t0_11) 7).1 2 0)) (C := RX4) (T := TX4) (N := 5) (pc := 33) hx hb hfX4 (fun _ h9 => h9) hown hK (show va_P D vwCl (wX4 (a 7) c ((xs X 7 t0_11) 7)) _ from hP 7 (by decide)) 0 rfl rfl 2 (by decide) lk2 (fun _ h9 => h9) rfl dX8_prime_33 ?_
    refine lv_iconst (v := 1) (pc := 36) hx hb dX8_prime_36 (by decide) ?_
    refine lv_isub (pc := 37) hx hb dX8_prime_37 ?_
    obtain ⟨r38, hc38, h⟩ := b1_i h
    refine g_noneX (st1 := [.int r38]) (gr_S (n := 3) (rest := []) (pc := 38) hx hb hml hown hts (cX8_isWithin_met l D c tb sa sv p0 (0 : Int32) (((((xs X 7 t0_11) 7).1 2 0) - (1 : Int32))) _ hc38) gX8_prime_X8_isWithin rfl rfl rfl (by decide +kernel) rfl ⟨Nat.le_of_ble_eq_true rfl, Nat.le_of_ble_eq_true rfl⟩ ⟨Nat.zero_le _, Nat.zero_le _⟩ xE_ok g_P0 (g_D0 (A := A)) hK (xE_ok.tr hE hS (g_free0 hS hA)) hl.1 (Nat.le_of_ble_eq_true rfl) dX8_prime_38 rfl) hP hS hA rfl (fun H locs hP hS => ?_)
    refine lv_if_ne (tgt := 47) (pc := 41) hx hb dX8_prime_41 (by decide) (fun c41 => ?_) (fun c41 => ?_)
    · replace h := it_f c41 h
      refine lv_bipush (v := 16) (pc := 47) hx hb dX8_prime_47 (by decide) ?_
      refine lv_aload_n (pc := 49) hx hb dX8_prime_49 rfl (lv_at hl 0 rfl) ?_
      refine va_get (D := D) (ci := 8) (v := .ref ((a 7) 0)) (C := RX8) (T := TX8) (N := 12) (pc := 50) hx hb hfX8 (fun _ h9 => h9) hown hK (show va_P D vwCl (wX8 a c ((xs X 7 t0_11) 0)) _ from hP 0 (by decide)) 0 rfl rfl 6 (by decide) lk0 (fun _ h9 => h9) rfl dX8_prime_50 ?_
      refine va_get (D := D) (ci := 4) (v := .ref ((a 7) 1)) (C := RX4) (T := TX4) (N := 5) (pc := 53) hx hb hfX4 (fun _ h9 => h9) hown hK (show va_P D vwCl (wX4 (a 7) c ((xs X 7 t0_11) 7)) _ from hP 7 (by decide)) 0 rfl rfl 0 (by decide) lk3 (fun _ h9 => h9) rfl dX8_prime_53 ?_
      refine lv_iload_n (pc := 56) hx hb dX8_prime_56 rfl (lv_at hl 1 rfl) ?_
      obtain ⟨hk57, h⟩ := ckI_i h
      refine va_iald (D := D) (f := (((xs X 7 t0_11) 7).1 0)) (pc := 57) hx hb hK (show va_P D vwCl (wX4 (a 7) c ((xs X 7 t0_11) 7)) _ from hP 7 (by decide)) 1 0 rfl rfl hk57 dX8_prime_57 ?_
      refine lv_imul (pc := 58) hx hb dX8_prime_58 ?_
      refine lv_aload_n (pc := 59) hx hb dX8_prime_59 rfl (lv_at hl 0 rfl) ?_
      refine va_get (D := D) (ci := 8) (v := .ref ((a 7) 0)) (C := RX8) (T := TX8) (N := 12) (pc := 60) hx hb hfX8 (fun _ h9 => h9) hown hK (show va_P D vwCl (wX8 a c ((xs X 7 t0_11) 0)) _ from hP 0 (by decide)) 0 rfl rfl 6 (by decide) lk0 (fun _ h9 => h9) rfl dX8_prime_60 ?_
      refine va_get (D := D) (ci := 4) (v := .ref ((a 7) 2)) (C := RX4) (T := TX4) (N := 5) (pc := 63) hx hb hfX4 (fun _ h9 => h9) hown hK (show va_P D vwCl (wX4 (a 7) c ((xs X 7 t0_11) 7)) _ from hP 7 (by decide)) 0 rfl rfl 1 (by decide) lk4 (fun _ h9 => h9) rfl dX8_prime_63 ?_
      refine lv_iload_n (pc := 66) hx hb dX8_prime_66 rfl (lv_at hl 1 rfl) ?_
      obtain ⟨hk67, h⟩ := ckI_i h
      refine va_iald (D := D) (f := (((xs X 7 t0_11) 7).1 1)) (pc := 67) hx hb hK (show va_P D vwCl (wX4 (a 7) c ((xs X 7 t0_11) 7)) _ from hP 7 (by decide)) 2 0 rfl rfl hk67 dX8_prime_67 ?_
      refine lv_iadd (pc := 68) hx hb dX8_prime_68 ?_
      have kr := KR (((16 : Int32) * ((((xs X 7 t0_11) 7).1 0) (p0).toNatClampNeg)) + ((((xs X 7 t0_11) 7).1 1) (p0).toNatClampNeg)) (xs X 7 t0_11) _ _ 69 ls h rfl hP hS dX8_prime_69
      exact kr
    · replace h := it_t c41 h
      refine lv_bipush (v := -12) (pc := 44) hx hb dX8_prime_44 (by decide) ?_
      have kr := KR (-12 : Int32) (xs X 7 t0_11) _ _ 46 ls h rfl hP hS dX8_prime_46
      exact kr
  · replace h := it_t c16 h
    refine lv_aload_n (pc := 19) hx hb dX8_prime_19 rfl (lv_at hl 0 rfl) ?_
    refine va_get (D := D) (ci := 8) (v := .ref ((a 7) 0)) (C := RX8) (T := TX8) (N := 12) (pc := 20) hx hb hfX8 (fun _ h9 => h9) hown hK (show va_P D vwCl (wX8 a c ((xs X 7 t0_11) 0)) _ from hP 0 (by decide)) 0 rfl rfl 6 (by decide) lk0 (fun _ h9 => h9) rfl dX8_prime_20 ?_
    refine va_get (D := D) (ci := 4) (v := .int (((xs X 7 t0_11) 7).1 2 0)) (C := RX4) (T := TX4) (N := 5) (pc := 23) hx hb hfX4 (fun _ h9 => h9) hown hK (show va_P D vwCl (wX4 (a 7) c ((xs X 7 t0_11) 7)) _ from hP 7 (by decide)) 0 rfl rfl 2 (by decide) lk2 (fun _ h9 => h9) rfl dX8_prime_23 ?_
    have kr := KR (((xs X 7 t0_11) 7).1 2 0) (xs X 7 t0_11) _ _ 26 ls h rfl hP hS dX8_prime_26
    exact kr
abbrev rmX4_leastSet (n : Nat) : Room := { frames := 0 + n, cells := 0, slots := 0, locals := 0 + 30 * n }
set_option maxRecDepth 100000 in
set_option maxHeartbeats 40000000 in
theorem cX4_leastSet_met (l : Launch) (D : va_G) (c : Nat → ClassId) (tb : Nat) (sa sv : Nat → Nat) : ∀ (a0 : Nat) (a1 : Nat) (n : Nat) (p2 : Int32) (p3 : Int32) (p4 : Int64) (s0 : (Nat → Int64)) (s1 : (Nat → Int64)) (r0 : Int64), fX4_leastSet n p2 p3 p4 s0 s1 = some r0 → gM l yX4_leastSet wsX4_leastSet (rmX4_leastSet n) D (gY c) (xE tb sa sv) [.ref a0, .ref a1, .int p2, .int p3, .long p4] (wRL a0 32 c s0 ++ wRL a1 33 c s1) (some (.long r0)) (wRL a0 32 c s0 ++ wRL a1 33 c s1) := by
  intro a0 a1 n
  induction n with
  | zero =>
    intro p2 p3 p4 s0 s1 r0 h
    cases (show (none : Option (Int64)) = some _ from h)
  | succ n ihn =>
    intro p2 p3 p4 s0 s1 r0 h
    rw [fX4_leastSet] at h
    refine gM.L (cc := cX4_leastSet) (maxL := 11) (by decide) rfl (Nat.le_of_ble_eq_true rfl) ?_
    intro p e s m args below meth cd hx hb hml hown hts A hA ls hl hP hK hD hS hE Q KR0
    have lk0 := hts (.constantLong RX4 52 (-1)) (List.mem_of_getElem? (i := 1) rfl)
    have KR : ∀ (v : Int64)  (H : Heap) (locs : List Loc) (pc : Nat) (ls : Array Slot), some v = some r0 → va_P D vwCl (wRL a0 32 c s0 ++ wRL a1 33 c s1) H → va_D A (wRL a0 32 c s0 ++ wRL a1 33 c s1) → va_S A s.heap H locs → decode cX4_leastSet pc = .ok (.lreturn, 1) → W p l e (rmX4_leastSet (n + 1)) s m args below meth cd H locs 0 0 Q (F0 m pc ls [.long v]) := by
      intro v  H locs pc ls hr hP hD hS hd
      cases hr
      exact KR0 _ H locs pc ls rfl hP hD hS hd
    have hl : lv_has ls 11 [(0, .ref a0), (1, .ref a1), (2, .int p2), (3, .int p3), (4, .long p4)] := hl
    refine lv_lload (pc := 0) hx hb dX4_leastSet_0 (lv_at hl 4 rfl) ?_
    refine lv_lconst (v := 0) (pc := 2) hx hb dX4_leastSet_2 (by decide) ?_
    refine W.lcmp (pc := 3) hx hb dX4_leastSet_3 ?_
    refine lv_if_ne (tgt := 9) (pc := 4) hx hb dX4_leastSet_4 (by decide) (fun c4 => ?_) (fun c4 => ?_)
    · replace h := it_f c4 h
      refine lv_iload_n (pc := 9) hx hb dX4_leastSet_9 rfl (lv_at hl 2 rfl) ?_
      refine lv_if_le (tgt := 38) (pc := 10) hx hb dX4_leastSet_10 (by decide) (fun c10 => ?_) (fun c10 => ?_)
      · replace h := it_t c10 h
        refine lv_ldc2 (v := -1) (pc := 38) hx hb hown lk0 dX4_leastSet_38 ?_
        have kr := KR (-1 : Int64)  _ _ 41 ls h hP hD hS dX4_leastSet_41
        exact kr
      · replace h := it_f c10 h
        refine lv_iload_n (pc := 13) hx hb dX4_leastSet_13 rfl (lv_at hl 2 rfl) ?_
        refine lv_bipush (v := 32) (pc := 14) hx hb dX4_leastSet_14 (by decide) ?_
        refine lv_icmp_gt (tgt := 38) (pc := 16) hx hb dX4_leastSet_16 (by decide) (fun c16 => ?_) (fun c16 => ?_)
        · replace h := it_t c16 h
          refine lv_ldc2 (v := -1) (pc := 38) hx hb hown lk0 dX4_leastSet_38 ?_
          have kr := KR (-1 : Int64)  _ _ 41 ls h hP hD hS dX4_leastSet_41
          exact kr
        · replace h := it_f c16 h
          refine lv_iload_n (pc := 19) hx hb dX4_leastSet_19 rfl (lv_at hl 3 rfl) ?_
          refine lv_if_le (tgt := 38) (pc := 20) hx hb dX4_leastSet_20 (by decide) (fun c20 => ?_) (fun c20 => ?_)
          · replace h := it_t c20 h
            refine lv_ldc2 (v := -1) (pc := 38) hx hb hown lk0 dX4_leastSet_38 ?_
            have kr := KR (-1 : Int64)  _ _ 41 ls h hP hD hS dX4_leastSet_41
            exact kr
          · replace h := it_f c20 h
            refine lv_lload (pc := 23) hx hb dX4_leastSet_23 (lv_at hl 4 rfl) ?_
            refine lv_aload_n (pc := 25) hx hb dX4_leastSet_25 rfl (lv_at hl 1 rfl) ?_
            refine lv_iload_n (pc := 26) hx hb dX4_leastSet_26 rfl (lv_at hl 2 rfl) ?_
            obtain ⟨hk27, h⟩ := ckI_i h
            refine va_lald (D := D) (f := s1) (pc := 27) hx hb hK hP 1 1 rfl rfl hk27 dX4_leastSet_27 ?_
            refine lv_ldc2 (v := -1) (pc := 28) hx hb hown lk0 dX4_leastSet_28 ?_
            refine lv_lxor (pc := 31) hx hb dX4_leastSet_31 ?_
            refine lv_land (pc := 32) hx hb dX4_leastSet_32 ?_
            refine lv_lconst (v := 0) (pc := 33) hx hb dX4_leastSet_33 (by decide) ?_
            refine W.lcmp (pc := 34) hx hb dX4_leastSet_34 ?_
            refine lv_if_eq (tgt := 42) (pc := 35) hx hb dX4_leastSet_35 (by decide) (fun c35 => ?_) (fun c35 => ?_)
            · replace h := it_t c35 h
              refine lv_iload_n (pc := 42) hx hb dX4_leastSet_42 rfl (lv_at hl 2 rfl) ?_
              refine lv_iconst (v := 1) (pc := 43) hx hb dX4_leastSet_43 (by decide) ?_
              refine lv_isub (pc := 44) hx hb dX4_leastSet_44 ?_
              refine lv_topi (fun v6_45 ev6_45 => ?_)
              replace h := lt_e ev6_45 h
              refine lv_istore (lv' := [(6, .int v6_45), (0, .ref a0), (1, .ref a1), (2, .int p2), (3, .int p3), (4, .long p4)]) (pc := 45) hx hb dX4_leastSet_45 hl (by decide) rfl (fun ls hl => ?_)
              refine lv_aload_n (pc := 47) hx hb dX4_leastSet_47 rfl (lv_at hl 1 rfl) ?_
              refine lv_aload_n (pc := 48) hx hb dX4_leastSet_48 rfl (lv_at hl 2 rfl) ?_
              refine lv_iload (pc := 49) hx hb dX4_leastSet_49 (lv_at hl 0 rfl) ?_
              refine lv_iload_n (pc := 51) hx hb dX4_leastSet_51 rfl (lv_at hl 4 rfl) ?_
              refine lv_lload (pc := 52) hx hb dX4_leastSet_52 (lv_at hl 5 rfl) ?_
              obtain ⟨r54, hc54, h⟩ := b1_i h
              refine g_all (st1 := [.long r54]) (gr_S (n := 5) (rest := []) (pc := 54) hx hb hml hown hts (ihn v6_45 p3 p4 s0 s1 _ hc54) gX4_leastSet_X4_leastSet rfl rfl rfl (by decide +kernel) rfl ⟨by show 0 + n + 1 ≤ 0 + (n + 1); omega, by show 8 + (11 + 11) + (0 + 30 * n) ≤ 0 + 30 * (n + 1); omega⟩ ⟨Nat.zero_le _, Nat.zero_le _⟩ xE_ok hP hD hK (xE_ok.tr hE hS (g_free hD hS hA)) hl.1 (Nat.le_of_ble_eq_true rfl) dX4_leastSet_54 rfl) hD hS hA rfl (fun H locs hP hD hS => ?_)
              refine lv_lstore (lv' := [(7, .long r54), (6, .int v6_45), (0, .ref a0), (1, .ref a1), (2, .int p2), (3, .int p3), (4, .long p4)]) (pc := 57) hx hb dX4_leastSet_57 hl (by decide) rfl (fun ls hl => ?_)
              refine lv_lload (pc := 59) hx hb dX4_leastSet_59 (lv_at hl 0 rfl) ?_
              refine lv_ldc2 (v := -1) (pc := 61) hx hb hown lk0 dX4_leastSet_61 ?_
              refine W.lcmp (pc := 64) hx hb dX4_leastSet_64 ?_
              refine lv_if_eq (tgt := 71) (pc := 65) hx hb dX4_leastSet_65 (by decide) (fun c65 => ?_) (fun c65 => ?_)
              · replace h := it_t c65 h
                refine lv_aload_n (pc := 71) hx hb dX4_leastSet_71 rfl (lv_at hl 2 rfl) ?_
                refine lv_aload_n (pc := 72) hx hb dX4_leastSet_72 rfl (lv_at hl 3 rfl) ?_
                refine lv_iload (pc := 73) hx hb dX4_leastSet_73 (lv_at hl 1 rfl) ?_
                refine lv_iload_n (pc := 75) hx hb dX4_leastSet_75 rfl (lv_at hl 5 rfl) ?_
                refine lv_iconst (v := 1) (pc := 76) hx hb dX4_leastSet_76 (by decide) ?_
                refine lv_isub (pc := 77) hx hb dX4_leastSet_77 ?_
                refine lv_lload (pc := 78) hx hb dX4_leastSet_78 (lv_at hl 6 rfl) ?_
                refine lv_aload_n (pc := 80) hx hb dX4_leastSet_80 rfl (lv_at hl 2 rfl) ?_
                refine lv_iload (pc := 81) hx hb dX4_leastSet_81 (lv_at hl 1 rfl) ?_
                obtain ⟨hk83, h⟩ := ckI_i h
                refine va_lald (D := D) (f := s0) (pc := 83) hx hb hK hP 0 1 rfl rfl hk83 dX4_leastSet_83 ?_
                refine lv_ldc2 (v := -1) (pc := 84) hx hb hown lk0 dX4_leastSet_84 ?_
                refine lv_lxor (pc := 87) hx hb dX4_leastSet_87 ?_
                refine lv_land (pc := 88) hx hb dX4_leastSet_88 ?_
                obtain ⟨r89, hc89, h⟩ := b1_i h
                refine g_all (st1 := [.long r89]) (gr_S (n := 5) (rest := []) (pc := 89) hx hb hml hown hts (ihn v6_45 ((p3 - (1 : Int32))) ((p4 &&& ((s0 (v6_45).toNatClampNeg) ^^^ (-1 : Int64)))) s0 s1 _ hc89) gX4_leastSet_X4_leastSet rfl rfl rfl (by decide +kernel) rfl ⟨by show 0 + n + 1 ≤ 0 + (n + 1); omega, by show 8 + (11 + 11) + (0 + 30 * n) ≤ 0 + 30 * (n + 1); omega⟩ ⟨Nat.zero_le _, Nat.zero_le _⟩ xE_ok hP hD hK (xE_ok.tr hE hS (g_free hD hS hA)) hl.1 (Nat.le_of_ble_eq_true rfl) dX4_leastSet_89 rfl) hD hS hA rfl (fun H locs hP hD hS => ?_)
                refine lv_lstore (lv' := [(9, .long r89), (7, .long r54), (6, .int v6_45), (0, .ref a0), (1, .ref a1), (2, .int p2), (3, .int p3), (4, .long p4)]) (pc := 92) hx hb dX4_leastSet_92 hl (by decide) rfl (fun ls hl => ?_)
                refine lv_lload (pc := 94) hx hb dX4_leastSet_94 (lv_at hl 0 rfl) ?_
                refine lv_ldc2 (v := -1) (pc := 96) hx hb hown lk0 dX4_leastSet_96 ?_
                refine W.lcmp (pc := 99) hx hb dX4_leastSet_99 ?_
                refine lv_if_ne (tgt := 109) (pc := 100) hx hb dX4_leastSet_100 (by decide) (fun c100 => ?_) (fun c100 => ?_)
                · replace h := it_f c100 h
                  refine lv_lload (pc := 109) hx hb dX4_leastSet_109 (lv_at hl 0 rfl) ?_
                  refine lv_lconst (v := 1) (pc := 111) hx hb dX4_leastSet_111 (by decide) ?_
                  refine lv_iload (pc := 112) hx hb dX4_leastSet_112 (lv_at hl 2 rfl) ?_
                  refine lv_lshl (v := (jlshl (1 : Int64) v6_45)) (pc := 114) hx hb dX4_leastSet_114 rfl ?_
                  refine lv_lor (pc := 115) hx hb dX4_leastSet_115 ?_
                  have kr := KR (r89 ||| (jlshl (1 : Int64) v6_45))  _ _ 116 ls h hP hD hS dX4_leastSet_116
                  exact kr
                · replace h := it_t c100 h
                  refine lv_ldc2 (v := -1) (pc := 103) hx hb hown lk0 dX4_leastSet_103 ?_
                  refine lv_goto (tgt := 116) (pc := 106) hx hb dX4_leastSet_106 (by decide) ?_
                  have kr := KR (-1 : Int64)  _ _ 116 ls h hP hD hS dX4_leastSet_116
                  exact kr
              · replace h := it_f c65 h
                refine lv_lload (pc := 68) hx hb dX4_leastSet_68 (lv_at hl 0 rfl) ?_
                have kr := KR r54  _ _ 70 ls h hP hD hS dX4_leastSet_70
                exact kr
            · replace h := it_f c35 h
              refine lv_ldc2 (v := -1) (pc := 38) hx hb hown lk0 dX4_leastSet_38 ?_
              have kr := KR (-1 : Int64)  _ _ 41 ls h hP hD hS dX4_leastSet_41
              exact kr
    · replace h := it_t c4 h
      refine lv_lconst (v := 0) (pc := 7) hx hb dX4_leastSet_7 (by decide) ?_
      have kr := KR (0 : Int64)  _ _ 8 ls h hP hD hS dX4_leastSet_8
      exact kr
abbrev rmX4_fewestHolding : Room := { frames := 41, cells := 0, slots := 0, locals := 1230 }
set_option maxRecDepth 100000 in
set_option maxHeartbeats 40000000 in
theorem cX4_fewestHolding_met (l : Launch) (D : va_G) (c : Nat → ClassId) (tb : Nat) (sa sv : Nat → Nat) (a0 : Nat → Nat) (p0 : Int64) (s0 : Mem) (r0 : Int64) (h : fX4_fewestHolding p0 s0 = some r0) : gM l yX4_fewestHolding wsX4_fewestHolding rmX4_fewestHolding D (gY c) (xE tb sa sv) [.ref (a0 0), .long p0] (wX4 a0 c s0) (some (.long r0)) (wX4 a0 c s0) := by
  unfold fX4_fewestHolding at h
  refine gM.L (cc := cX4_fewestHolding) (maxL := 6) (by decide) rfl (Nat.le_of_ble_eq_true rfl) ?_
  intro p e s m args below meth cd hx hb hml hown hts A hA ls hl hP hK hD hS hE Q KR0
  have hfX4 : ∀ w ∈ u_ws RX4 TX4 5, w.before args s = true := fun w hw => hts w (List.mem_cons_of_mem _ (List.mem_append_right _ hw))
  have lk0 := hts (.fieldLink RX4 25 "GlitchNets$Primes" "size" "I") (List.mem_of_getElem? (i := 1) rfl)
  have lk1 := hts (.fieldLink RX4 18 "GlitchNets$Primes" "pairs" "[J") (List.mem_of_getElem? (i := 2) rfl)
  have lk2 := hts (.fieldLink RX4 22 "GlitchNets$Primes" "reach" "[J") (List.mem_of_getElem? (i := 3) rfl)
  have lk3 := hts (.constantLong RX4 52 (-1)) (List.mem_of_getElem? (i := 4) rfl)
  have KR : ∀ (v : Int64)  (H : Heap) (locs : List Loc) (pc : Nat) (ls : Array Slot), some v = some r0 → va_P D vwCl (wX4 a0 c s0) H → va_D A (wX4 a0 c s0) → va_S A s.heap H locs → decode cX4_fewestHolding pc = .ok (.lreturn, 1) → W p l e rmX4_fewestHolding s m args below meth cd H locs 0 0 Q (F0 m pc ls [.long v]) := by
    intro v  H locs pc ls hr hP hD hS hd
    cases hr
    exact KR0 _ H locs pc ls rfl hP hD hS hd
  have hl : lv_has ls 6 [(0, .ref (a0 0)), (1, .long p0)] := hl
  have J2 : ∀ (n : Nat) (x1 : Int64) (x3 : Int32) (H : Heap) (locs : List Loc) (ls : Array Slot), fX4_fewestHolding_b2 s0 n x1 x3 = some r0 → va_P D vwCl (wX4 a0 c s0) H → va_D A (wX4 a0 c s0) → va_S A s.heap H locs → lv_has ls 6 [(0, .ref (a0 0)), (1, .long x1), (3, .int x3)] → W p l e rmX4_fewestHolding s m args below meth cd H locs 0 0 Q (F0 m 2 ls []) := by
    intro n
    induction n with
    | zero =>
      intro x1 x3 H locs ls h _ _ _ _
      cases (show (none : Option (Int64)) = some _ from h)
    | succ n K2h =>
      intro x1 x3 H locs ls h hP hD hS hl
      rw [fX4_fewestHolding_b2] at h
      refine lv_iload_n (pc := 2) hx hb dX4_fewestHolding_2 rfl (lv_at hl 2 rfl) ?_
      refine lv_aload_n (pc := 3) hx hb dX4_fewestHolding_3 rfl (lv_at hl 0 rfl) ?_
      refine va_get (D := D) (ci := 4) (v := .int (s0.1 2 0)) (C := RX4) (T := TX4) (N := 5) (pc := 4) hx hb hfX4 (fun _ h9 => h9) hown hK hP 0 rfl rfl 2 (by decide) lk0 (fun _ h9 => h9) rfl dX4_fewestHolding_4 ?_
      refine lv_icmp_gt (tgt := 47) (pc := 7) hx hb dX4_fewestHolding_7 (by decide) (fun c7 => ?_) (fun c7 => ?_)
      · replace h := it_t c7 h
        refine lv_lconst (v := 0) (pc := 47) hx hb dX4_fewestHolding_47 (by decide) ?_
        have kr := KR (0 : Int64)  _ _ 48 ls h hP hD hS dX4_fewestHolding_48
        exact kr
      · replace h := it_f c7 h
        refine lv_aload_n (pc := 10) hx hb dX4_fewestHolding_10 rfl (lv_at hl 0 rfl) ?_
        refine va_get (D := D) (ci := 4) (v := .ref (a0 3)) (C := RX4) (T := TX4) (N := 5) (pc := 11) hx hb hfX4 (fun _ h9 => h9) hown hK hP 0 rfl rfl 3 (by decide) lk1 (fun _ h9 => h9) rfl dX4_fewestHolding_11 ?_
        refine lv_aload_n (pc := 14) hx hb dX4_fewestHolding_14 rfl (lv_at hl 0 rfl) ?_
        refine va_get (D := D) (ci := 4) (v := .ref (a0 4)) (C := RX4) (T := TX4) (N := 5) (pc := 15) hx hb hfX4 (fun _ h9 => h9) hown hK hP 0 rfl rfl 4 (by decide) lk2 (fun _ h9 => h9) rfl dX4_fewestHolding_15 ?_
        refine lv_aload_n (pc := 18) hx hb dX4_fewestHolding_18 rfl (lv_at hl 0 rfl) ?_
        refine va_get (D := D) (ci := 4) (v := .int (s0.1 2 0)) (C := RX4) (T := TX4) (N := 5) (pc := 19) hx hb hfX4 (fun _ h9 => h9) hown hK hP 0 rfl rfl 2 (by decide) lk0 (fun _ h9 => h9) rfl dX4_fewestHolding_19 ?_
        refine lv_iload_n (pc := 22) hx hb dX4_fewestHolding_22 rfl (lv_at hl 2 rfl) ?_
        refine lv_lload_n (pc := 23) hx hb dX4_fewestHolding_23 rfl (lv_at hl 1 rfl) ?_
        obtain ⟨r24, hc24, h⟩ := b1_i h
        have hPc := g_cutP (w0 := wRL (a0 3) 32 c (s0.2 3) ++ wRL (a0 4) 33 c (s0.2 4)) hP [3, 4] rfl
        have hDc : va_D A (wRL (a0 3) 32 c (s0.2 3) ++ wRL (a0 4) 33 c (s0.2 4)) := hD.sub [3, 4] (by decide) rfl
        have hFc := va_free (wc := wRL (a0 3) 32 c (s0.2 3) ++ wRL (a0 4) 33 c (s0.2 4)) hD hS hA [3, 4] rfl
        refine g_sub (st1 := [.long r24]) (wr := [(a0 0, .inr (4, [.ref (a0 1), .ref (a0 2), .int (s0.1 2 0), .ref (a0 3), .ref (a0 4)])), (a0 1, .inl (c 0, 32, .inl (s0.1 0))), (a0 2, .inl (c 0, 32, .inl (s0.1 1)))]) (wn := wX4 a0 c s0) (gr_S (n := 5) (rest := []) (pc := 24) hx hb hml hown hts (cX4_leastSet_met l D c tb sa sv (a0 3) (a0 4) 40 ((s0.1 2 0)) x3 x1 (s0.2 3) (s0.2 4) _ hc24) gX4_fewestHolding_X4_leastSet rfl rfl rfl (by decide +kernel) rfl ⟨Nat.le_of_ble_eq_true rfl, Nat.le_of_ble_eq_true rfl⟩ ⟨Nat.zero_le _, Nat.zero_le _⟩ xE_ok hPc hDc hK (xE_ok.tr hE hS hFc) hl.1 (Nat.le_of_ble_eq_true rfl) dX4_fewestHolding_24 rfl) hP hD hS hA [3, 4] [0, 1, 2] [0, 1, 2, 3, 4] rfl rfl (by decide) (by decide) (by decide) rfl rfl (fun H locs hP hD hS => ?_)
        refine lv_lstore (lv' := [(4, .long r24), (0, .ref (a0 0)), (1, .long x1), (3, .int x3)]) (pc := 27) hx hb dX4_fewestHolding_27 hl (by decide) rfl (fun ls hl => ?_)
        refine lv_lload (pc := 29) hx hb dX4_fewestHolding_29 (lv_at hl 0 rfl) ?_
        refine lv_ldc2 (v := -1) (pc := 31) hx hb hown lk3 dX4_fewestHolding_31 ?_
        refine W.lcmp (pc := 34) hx hb dX4_fewestHolding_34 ?_
        refine lv_if_eq (tgt := 41) (pc := 35) hx hb dX4_fewestHolding_35 (by decide) (fun c35 => ?_) (fun c35 => ?_)
        · replace h := it_t c35 h
          obtain ⟨v3_41, ev3_41, h⟩ := lt_i h
          refine lv_iinc (v := v3_41) (lv' := [(3, .int v3_41), (4, .long r24), (0, .ref (a0 0)), (1, .long x1)]) (pc := 41) hx hb dX4_fewestHolding_41 hl (k := 3) rfl (by rw [ev3_41]; rfl) (by decide) rfl (fun ls hl => ?_)
          refine lv_goto (tgt := 2) (pc := 44) hx hb dX4_fewestHolding_44 (by decide) ?_
          have jr := K2h x1 v3_41 _ _ ls h hP hD hS (lv_sub hl [2, 3, 0] rfl)
          exact jr
        · replace h := it_f c35 h
          refine lv_lload (pc := 38) hx hb dX4_fewestHolding_38 (lv_at hl 0 rfl) ?_
          have kr := KR r24  _ _ 40 ls h hP hD hS dX4_fewestHolding_40
          exact kr
  refine lv_iconst (v := 0) (pc := 0) hx hb dX4_fewestHolding_0 (by decide) ?_
  refine lv_istore_n (lv' := [(3, .int (0 : Int32)), (0, .ref (a0 0)), (1, .long p0)]) (pc := 1) hx hb dX4_fewestHolding_1 rfl hl (by decide) rfl (fun ls hl => ?_)
  have jr := J2 FU p0 (0 : Int32) _ _ ls h hP hD hS (lv_sub hl [1, 2, 0] rfl)
  exact jr
abbrev rmX8_added : Room := { frames := 42, cells := 0, slots := 0, locals := 1255 }
set_option maxRecDepth 100000 in
set_option maxHeartbeats 40000000 in
theorem cX8_added_met (l : Launch) (D : va_G) (c : Nat → ClassId) (tb : Nat) (sa sv : Nat → Nat) (a : Nat → Nat → Nat) (p0 : Int32) (X : XS) (r0 : Int64) (z0 : XS) (h : fX8_added p0 X = some (r0, z0)) : gM l yX8_added wsX8_added rmX8_added D (gY c) (xE tb sa sv) [.ref (a 0 0), .int p0] (wX a c X) (some (.long r0)) (wX a c z0) := by
  unfold fX8_added at h
  refine gM.L (cc := cX8_added) (maxL := 4) (by decide) rfl (Nat.le_of_ble_eq_true rfl) ?_
  intro p e s m args below meth cd hx hb hml hown hts A hA ls hl hP hK hD hS hE Q KR0
  have hfX8 : ∀ w ∈ u_ws RX8 TX8 12, w.before args s = true := fun w hw => hts w (List.mem_cons_of_mem _ (List.mem_append_left _ (List.mem_append_left _ (List.mem_append_right _ hw))))
  have lk0 := hts (.fieldLink RX8 50 "GlitchNets" "primes" "LGlitchNets$Primes;") (List.mem_of_getElem? (i := 2) rfl)
  have lk1 := hts (.fieldLink RX8 43 "GlitchNets" "cover" "LGlitchNets$Cover;") (List.mem_of_getElem? (i := 3) rfl)
  have lk2 := hts (.constantLong RX8 233 (-2)) (List.mem_of_getElem? (i := 1) rfl)
  have hP := XP_iff.mp hP
  have hD := XD_of hD
  have KR : ∀ (v : Int64) (w0 : XS) (H : Heap) (locs : List Loc) (pc : Nat) (ls : Array Slot), some (v, w0) = some (r0, z0) → XP D a c w0 H → va_S A s.heap H locs → decode cX8_added pc = .ok (.lreturn, 1) → W p l e rmX8_added s m args below meth cd H locs 0 0 Q (F0 m pc ls [.long v]) := by
    intro v w0 H locs pc ls hr hP hS hd
    cases hr
    exact KR0 _ H locs pc ls rfl (XP_iff.mpr hP) (hD.all c _) hS hd
  have hl : lv_has ls 4 [(0, .ref (a 0 0)), (1, .int p0)] := hl
  refine lv_iload_n (pc := 0) hx hb dX8_added_0 rfl (lv_at hl 1 rfl) ?_
  refine lv_iconst (v := 0) (pc := 1) hx hb dX8_added_1 (by decide) ?_
  refine lv_iconst (v := 1) (pc := 2) hx hb dX8_added_2 (by decide) ?_
  obtain ⟨r3, hc3, h⟩ := b1_i h
  refine g_noneX (st1 := [.int r3]) (gr_S (n := 3) (rest := []) (pc := 3) hx hb hml hown hts (cX8_isWithin_met l D c tb sa sv p0 (0 : Int32) (1 : Int32) _ hc3) gX8_added_X8_isWithin rfl rfl rfl (by decide +kernel) rfl ⟨Nat.le_of_ble_eq_true rfl, Nat.le_of_ble_eq_true rfl⟩ ⟨Nat.zero_le _, Nat.zero_le _⟩ xE_ok g_P0 (g_D0 (A := A)) hK (xE_ok.tr hE hS (g_free0 hS hA)) hl.1 (Nat.le_of_ble_eq_true rfl) dX8_added_3 rfl) hP hS hA rfl (fun H locs hP hS => ?_)
  refine lv_if_ne (tgt := 13) (pc := 6) hx hb dX8_added_6 (by decide) (fun c6 => ?_) (fun c6 => ?_)
  · replace h := it_f c6 h
    refine lv_aload_n (pc := 13) hx hb dX8_added_13 rfl (lv_at hl 0 rfl) ?_
    refine va_get (D := D) (ci := 8) (v := .ref ((a 7) 0)) (C := RX8) (T := TX8) (N := 12) (pc := 14) hx hb hfX8 (fun _ h9 => h9) hown hK (show va_P D vwCl (wX8 a c (X 0)) _ from hP 0 (by decide)) 0 rfl rfl 6 (by decide) lk0 (fun _ h9 => h9) rfl dX8_added_14 ?_
    refine lv_aload_n (pc := 17) hx hb dX8_added_17 rfl (lv_at hl 0 rfl) ?_
    refine va_get (D := D) (ci := 8) (v := .ref ((a 6) 0)) (C := RX8) (T := TX8) (N := 12) (pc := 18) hx hb hfX8 (fun _ h9 => h9) hown hK (show va_P D vwCl (wX8 a c (X 0)) _ from hP 0 (by decide)) 0 rfl rfl 5 (by decide) lk1 (fun _ h9 => h9) rfl dX8_added_18 ?_
    obtain ⟨r21, hc21, h⟩ := b1_i h
    have hw : (wX0 (a 6) c (X 6)).map (·.1) = [6].flatMap (uA a) := rfl
    have hPc : va_P D vwCl (wX0 (a 6) c (X 6)) _ := hP 6 (by decide)
    have hDc : va_D A (wX0 (a 6) c (X 6)) := hD.of_addr (by decide) (by decide) hw
    refine g_X (X' := X) (st1 := [.int r21, .ref ((a 7) 0)]) (gr_V (n := 0) (rest := [.ref ((a 7) 0)]) (pc := 21) hx hb hml hown hts (cX0_stands_met l D c tb sa sv (a 6) (X 6) _ hc21) gX8_added_X0_stands rfl rfl rfl (by decide +kernel) rfl ⟨Nat.le_of_ble_eq_true rfl, Nat.le_of_ble_eq_true rfl⟩ ⟨Nat.zero_le _, Nat.zero_le _⟩ 0 0 rfl rfl rfl xE_ok hPc hDc hK (xE_ok.tr hE hS (g_freeX hD hS hA (by decide) (addr0 hw))) hl.1 (Nat.le_of_ble_eq_true rfl) dX8_added_21 rfl) hP hD hS hA (ks := [6]) (by decide) (addr0 hw) (fun k9 _ hk9 => rfl) (fun H1 hw1 => (List.forall_mem_cons.mpr ⟨hw1, (fun _ h9 => absurd h9 List.not_mem_nil)⟩)) rfl (fun H locs hP hS => ?_)
    obtain ⟨t0_24, hc24, h⟩ := b1_i h
    have hw : (wX4 (a 7) c (X 7)).map (·.1) = [7].flatMap (uA a) := rfl
    have hPc : va_P D vwCl (wX4 (a 7) c (X 7)) _ := hP 7 (by decide)
    have hDc : va_D A (wX4 (a 7) c (X 7)) := hD.of_addr (by decide) (by decide) hw
    refine g_X (X' := (xs X 7 t0_24)) (st1 := []) (gr_V (n := 1) (rest := []) (pc := 24) hx hb hml hown hts (cX4_find_met l D c tb sa sv (a 7) r21 (X 7) _ hc24) gX8_added_X4_find rfl rfl rfl (by decide +kernel) rfl ⟨Nat.le_of_ble_eq_true rfl, Nat.le_of_ble_eq_true rfl⟩ ⟨Nat.zero_le _, Nat.zero_le _⟩ 0 4 rfl rfl rfl xE_ok hPc hDc hK (xE_ok.tr hE hS (g_freeX hD hS hA (by decide) (addr0 hw))) hl.1 (Nat.le_of_ble_eq_true rfl) dX8_added_24 rfl) hP hD hS hA (ks := [7]) (by decide) (addr0 hw) (fun k9 _ hk9 => (xs_o hk9 (j := 7) (by decide))) (fun H1 hw1 => (List.forall_mem_cons.mpr ⟨hw1, (fun _ h9 => absurd h9 List.not_mem_nil)⟩)) rfl (fun H locs hP hS => ?_)
    refine lv_aload_n (pc := 27) hx hb dX8_added_27 rfl (lv_at hl 0 rfl) ?_
    refine va_get (D := D) (ci := 8) (v := .ref ((a 7) 0)) (C := RX8) (T := TX8) (N := 12) (pc := 28) hx hb hfX8 (fun _ h9 => h9) hown hK (show va_P D vwCl (wX8 a c ((xs X 7 t0_24) 0)) _ from hP 0 (by decide)) 0 rfl rfl 6 (by decide) lk0 (fun _ h9 => h9) rfl dX8_added_28 ?_
    refine lv_aload_n (pc := 31) hx hb dX8_added_31 rfl (lv_at hl 0 rfl) ?_
    refine va_get (D := D) (ci := 8) (v := .ref ((a 6) 0)) (C := RX8) (T := TX8) (N := 12) (pc := 32) hx hb hfX8 (fun _ h9 => h9) hown hK (show va_P D vwCl (wX8 a c ((xs X 7 t0_24) 0)) _ from hP 0 (by decide)) 0 rfl rfl 5 (by decide) lk1 (fun _ h9 => h9) rfl dX8_added_32 ?_
    obtain ⟨r35, hc35, h⟩ := b1_i h
    have hw : (wX0 (a 6) c ((xs X 7 t0_24) 6)).map (·.1) = [6].flatMap (uA a) := rfl
    have hPc : va_P D vwCl (wX0 (a 6) c ((xs X 7 t0_24) 6)) _ := hP 6 (by decide)
    have hDc : va_D A (wX0 (a 6) c ((xs X 7 t0_24) 6)) := hD.of_addr (by decide) (by decide) hw
    refine g_X (X' := (xs X 7 t0_24)) (st1 := [.long r35, .ref ((a 7) 0)]) (gr_V (n := 0) (rest := [.ref ((a 7) 0)]) (pc := 35) hx hb hml hown hts (cX0_openPairs_met l D c tb sa sv (a 6) ((xs X 7 t0_24) 6) _ hc35) gX8_added_X0_openPairs rfl rfl rfl (by decide +kernel) rfl ⟨Nat.le_of_ble_eq_true rfl, Nat.le_of_ble_eq_true rfl⟩ ⟨Nat.zero_le _, Nat.zero_le _⟩ 0 0 rfl rfl rfl xE_ok hPc hDc hK (xE_ok.tr hE hS (g_freeX hD hS hA (by decide) (addr0 hw))) hl.1 (Nat.le_of_ble_eq_true rfl) dX8_added_35 rfl) hP hD hS hA (ks := [6]) (by decide) (addr0 hw) (fun k9 _ hk9 => rfl) (fun H1 hw1 => (List.forall_mem_cons.mpr ⟨hw1, (fun _ h9 => absurd h9 List.not_mem_nil)⟩)) rfl (fun H locs hP hS => ?_)
    obtain ⟨r38, hc38, h⟩ := b1_i h
    have hw : (wX4 (a 7) c ((xs X 7 t0_24) 7)).map (·.1) = [7].flatMap (uA a) := rfl
    have hPc : va_P D vwCl (wX4 (a 7) c ((xs X 7 t0_24) 7)) _ := hP 7 (by decide)
    have hDc : va_D A (wX4 (a 7) c ((xs X 7 t0_24) 7)) := hD.of_addr (by decide) (by decide) hw
    refine g_X (X' := (xs X 7 t0_24)) (st1 := [.long r38]) (gr_V (n := 1) (rest := []) (pc := 38) hx hb hml hown hts (cX4_fewestHolding_met l D c tb sa sv (a 7) r35 ((xs X 7 t0_24) 7) _ hc38) gX8_added_X4_fewestHolding rfl rfl rfl (by decide +kernel) rfl ⟨Nat.le_of_ble_eq_true rfl, Nat.le_of_ble_eq_true rfl⟩ ⟨Nat.zero_le _, Nat.zero_le _⟩ 0 4 rfl rfl rfl xE_ok hPc hDc hK (xE_ok.tr hE hS (g_freeX hD hS hA (by decide) (addr0 hw))) hl.1 (Nat.le_of_ble_eq_true rfl) dX8_added_38 rfl) hP hD hS hA (ks := [7]) (by decide) (addr0 hw) (fun k9 _ hk9 => rfl) (fun H1 hw1 => (List.forall_mem_cons.mpr ⟨hw1, (fun _ h9 => absurd h9 List.not_mem_nil)⟩)) rfl (fun H locs hP hS => ?_)
    refine lv_lstore_n (lv' := [(2, .long r38), (0, .ref (a 0 0)), (1, .int p0)]) (pc := 41) hx hb dX8_added_41 rfl hl (by decide) rfl (fun ls hl => ?_)
    refine lv_iload_n (pc := 42) hx hb dX8_added_42 rfl (lv_at hl 2 rfl) ?_
    refine lv_if_ne (tgt := 54) (pc := 43) hx hb dX8_added_43 (by decide) (fun c43 => ?_) (fun c43 => ?_)
    · replace h := it_f c43 h
      refine lv_lload_n (pc := 54) hx hb dX8_added_54 rfl (lv_at hl 0 rfl) ?_
      have kr := KR r38 (xs X 7 t0_24) _ _ 55 ls h hP hS dX8_added_55
      exact kr
    · replace h := it_t c43 h
      refine lv_lload_n (pc := 46) hx hb dX8_added_46 rfl (lv_at hl 0 rfl) ?_
      obtain ⟨r47, hc47, h⟩ := b1_i h
      refine g_noneX (st1 := [.int r47]) (gr_S (n := 1) (rest := []) (pc := 47) hx hb hml hown hts (cJ13_bitCount_95d88_met l D c r38 _ hc47) gX8_added_J13_bitCount_95d88 rfl rfl rfl (by decide +kernel) rfl ⟨Nat.le_of_ble_eq_true rfl, Nat.le_of_ble_eq_true rfl⟩ ⟨Nat.zero_le _, Nat.zero_le _⟩ gT_ok g_P0 (g_D0 (A := A)) hK (fun _ _ _ => trivial) hl.1 (Nat.le_of_ble_eq_true rfl) dX8_added_47 rfl) hP hS hA rfl (fun H locs hP hS => ?_)
      refine lv_i2l (v := ((r47).toInt64)) (pc := 50) hx hb dX8_added_50 rfl ?_
      refine lv_goto (tgt := 55) (pc := 51) hx hb dX8_added_51 (by decide) ?_
      have kr := KR ((r47).toInt64) (xs X 7 t0_24) _ _ 55 ls h hP hS dX8_added_55
      exact kr
  · replace h := it_t c6 h
    refine lv_ldc2 (v := -2) (pc := 9) hx hb hown lk2 dX8_added_9 ?_
    have kr := KR (-2 : Int64) X _ _ 12 ls h hP hS dX8_added_12
    exact kr
abbrev rmX8_isSheet : Room := { frames := 1, cells := 0, slots := 0, locals := 22 }
set_option maxRecDepth 100000 in
set_option maxHeartbeats 40000000 in
theorem cX8_isSheet_met (l : Launch) (D : va_G) (c : Nat → ClassId) (tb : Nat) (sa sv : Nat → Nat)  (p0 : Int32) (r0 : Int32) (h : fX8_isSheet p0 = some r0) : gM l yX8_isSheet wsX8_isSheet rmX8_isSheet D (gY c) (xE tb sa sv) [.int p0] ([]) (some (.int r0)) ([]) := by
  unfold fX8_isSheet at h
  refine gM.I (cc := cX8_isSheet) (maxL := 1) (by decide) rfl (Nat.le_of_ble_eq_true rfl) ?_
  intro p e s m args below meth cd hx hb hml hown hts A hA ls hl hP hK hD hS hE Q KR0
  have KR : ∀ (v : Int32)  (H : Heap) (locs : List Loc) (pc : Nat) (ls : Array Slot), some v = some r0 → narrow .boolean (.int v) = .int v → va_P D vwCl ([]) H → va_D A ([]) → va_S A s.heap H locs → decode cX8_isSheet pc = .ok (.ireturn, 1) → W p l e rmX8_isSheet s m args below meth cd H locs 0 0 Q (F0 m pc ls [.int v]) := by
    intro v  H locs pc ls hr hn hP hD hS hd
    cases hr
    exact KR0 _ H locs pc ls rfl hn hP hD hS hd
  have hl : lv_has ls 1 [(0, .int p0)] := hl
  refine lv_iload_n (pc := 0) hx hb dX8_isSheet_0 rfl (lv_at hl 0 rfl) ?_
  refine lv_iconst (v := 0) (pc := 1) hx hb dX8_isSheet_1 (by decide) ?_
  refine lv_iconst (v := 3) (pc := 2) hx hb dX8_isSheet_2 (by decide) ?_
  obtain ⟨r3, hc3, h⟩ := b1_i h
  refine g_none (st1 := [.int r3]) (gr_S (n := 3) (rest := []) (pc := 3) hx hb hml hown hts (cX8_isWithin_met l D c tb sa sv p0 (0 : Int32) (3 : Int32) _ hc3) gX8_isSheet_X8_isWithin rfl rfl rfl (by decide +kernel) rfl ⟨Nat.le_of_ble_eq_true rfl, Nat.le_of_ble_eq_true rfl⟩ ⟨Nat.zero_le _, Nat.zero_le _⟩ xE_ok g_P0 (g_D0 (A := A)) hK (xE_ok.tr hE hS (g_free0 hS hA)) hl.1 (Nat.le_of_ble_eq_true rfl) dX8_isSheet_3 rfl) hP hS hA rfl (fun H locs hP hS => ?_)
  obtain ⟨hz6, h⟩ := ckZ_i h
  have kr := KR r3  _ _ 6 ls h hz6 hP hD hS dX8_isSheet_6
  exact kr
abbrev rmX8_xFrom : Room := { frames := 0, cells := 0, slots := 0, locals := 0 }
set_option maxRecDepth 100000 in
set_option maxHeartbeats 40000000 in
theorem cX8_xFrom_met (l : Launch) (D : va_G) (c : Nat → ClassId) (tb : Nat) (sa sv : Nat → Nat)  (p0 : Int32) (r0 : Int32) (h : fX8_xFrom p0 = some r0) : gM l yX8_xFrom wsX8_xFrom rmX8_xFrom D (gY c) (xE tb sa sv) [.int p0] ([]) (some (.int r0)) ([]) := by
  unfold fX8_xFrom at h
  refine gM.I (cc := cX8_xFrom) (maxL := 1) (by decide) rfl (Nat.le_of_ble_eq_true rfl) ?_
  intro p e s m args below meth cd hx hb hml hown hts A hA ls hl hP hK hD hS hE Q KR0
  have KR : ∀ (v : Int32)  (H : Heap) (locs : List Loc) (pc : Nat) (ls : Array Slot), some v = some r0 → narrow .int (.int v) = .int v → va_P D vwCl ([]) H → va_D A ([]) → va_S A s.heap H locs → decode cX8_xFrom pc = .ok (.ireturn, 1) → W p l e rmX8_xFrom s m args below meth cd H locs 0 0 Q (F0 m pc ls [.int v]) := by
    intro v  H locs pc ls hr hn hP hD hS hd
    cases hr
    exact KR0 _ H locs pc ls rfl hn hP hD hS hd
  have hl : lv_has ls 1 [(0, .int p0)] := hl
  refine lv_iload_n (pc := 0) hx hb dX8_xFrom_0 rfl (lv_at hl 0 rfl) ?_
  refine lv_iconst (v := 4) (pc := 1) hx hb dX8_xFrom_1 (by decide) ?_
  refine lv_ishr (pc := 2) hx hb dX8_xFrom_2 ?_
  have kr := KR (p0 >>> ((4 : Int32) &&& 31))  _ _ 3 ls h rfl hP hD hS dX8_xFrom_3
  exact kr
abbrev rmX8_yFrom : Room := { frames := 0, cells := 0, slots := 0, locals := 0 }
set_option maxRecDepth 100000 in
set_option maxHeartbeats 40000000 in
theorem cX8_yFrom_met (l : Launch) (D : va_G) (c : Nat → ClassId) (tb : Nat) (sa sv : Nat → Nat)  (p0 : Int32) (r0 : Int32) (h : fX8_yFrom p0 = some r0) : gM l yX8_yFrom wsX8_yFrom rmX8_yFrom D (gY c) (xE tb sa sv) [.int p0] ([]) (some (.int r0)) ([]) := by
  unfold fX8_yFrom at h
  refine gM.I (cc := cX8_yFrom) (maxL := 1) (by decide) rfl (Nat.le_of_ble_eq_true rfl) ?_
  intro p e s m args below meth cd hx hb hml hown hts A hA ls hl hP hK hD hS hE Q KR0
  have KR : ∀ (v : Int32)  (H : Heap) (locs : List Loc) (pc : Nat) (ls : Array Slot), some v = some r0 → narrow .int (.int v) = .int v → va_P D vwCl ([]) H → va_D A ([]) → va_S A s.heap H locs → decode cX8_yFrom pc = .ok (.ireturn, 1) → W p l e rmX8_yFrom s m args below meth cd H locs 0 0 Q (F0 m pc ls [.int v]) := by
    intro v  H locs pc ls hr hn hP hD hS hd
    cases hr
    exact KR0 _ H locs pc ls rfl hn hP hD hS hd
  have hl : lv_has ls 1 [(0, .int p0)] := hl
  refine lv_iload_n (pc := 0) hx hb dX8_yFrom_0 rfl (lv_at hl 0 rfl) ?_
  refine lv_bipush (v := 15) (pc := 1) hx hb dX8_yFrom_1 (by decide) ?_
  refine lv_iand (pc := 3) hx hb dX8_yFrom_3 ?_
  have kr := KR (p0 &&& (15 : Int32))  _ _ 4 ls h rfl hP hD hS dX8_yFrom_4
  exact kr
abbrev rmX8_isChangeCode : Room := { frames := 1, cells := 0, slots := 0, locals := 22 }
set_option maxRecDepth 100000 in
set_option maxHeartbeats 40000000 in
theorem cX8_isChangeCode_met (l : Launch) (D : va_G) (c : Nat → ClassId) (tb : Nat) (sa sv : Nat → Nat)  (p0 : Int32) (r0 : Int32) (h : fX8_isChangeCode p0 = some r0) : gM l yX8_isChangeCode wsX8_isChangeCode rmX8_isChangeCode D (gY c) (xE tb sa sv) [.int p0] ([]) (some (.int r0)) ([]) := by
  unfold fX8_isChangeCode at h
  refine gM.I (cc := cX8_isChangeCode) (maxL := 1) (by decide) rfl (Nat.le_of_ble_eq_true rfl) ?_
  intro p e s m args below meth cd hx hb hml hown hts A hA ls hl hP hK hD hS hE Q KR0
  have KR : ∀ (v : Int32)  (H : Heap) (locs : List Loc) (pc : Nat) (ls : Array Slot), some v = some r0 → narrow .boolean (.int v) = .int v → va_P D vwCl ([]) H → va_D A ([]) → va_S A s.heap H locs → decode cX8_isChangeCode pc = .ok (.ireturn, 1) → W p l e rmX8_isChangeCode s m args below meth cd H locs 0 0 Q (F0 m pc ls [.int v]) := by
    intro v  H locs pc ls hr hn hP hD hS hd
    cases hr
    exact KR0 _ H locs pc ls rfl hn hP hD hS hd
  have hl : lv_has ls 1 [(0, .int p0)] := hl
  refine lv_iload_n (pc := 0) hx hb dX8_isChangeCode_0 rfl (lv_at hl 0 rfl) ?_
  refine lv_iconst (v := 0) (pc := 1) hx hb dX8_isChangeCode_1 (by decide) ?_
  refine lv_sipush (v := 255) (pc := 2) hx hb dX8_isChangeCode_2 (by decide) ?_
  obtain ⟨r5, hc5, h⟩ := b1_i h
  refine g_none (st1 := [.int r5]) (gr_S (n := 3) (rest := []) (pc := 5) hx hb hml hown hts (cX8_isWithin_met l D c tb sa sv p0 (0 : Int32) (255 : Int32) _ hc5) gX8_isChangeCode_X8_isWithin rfl rfl rfl (by decide +kernel) rfl ⟨Nat.le_of_ble_eq_true rfl, Nat.le_of_ble_eq_true rfl⟩ ⟨Nat.zero_le _, Nat.zero_le _⟩ xE_ok g_P0 (g_D0 (A := A)) hK (xE_ok.tr hE hS (g_free0 hS hA)) hl.1 (Nat.le_of_ble_eq_true rfl) dX8_isChangeCode_5 rfl) hP hS hA rfl (fun H locs hP hS => ?_)
  refine lv_if_eq (tgt := 26) (pc := 8) hx hb dX8_isChangeCode_8 (by decide) (fun c8 => ?_) (fun c8 => ?_)
  · replace h := it_t c8 h
    refine lv_iconst (v := 0) (pc := 26) hx hb dX8_isChangeCode_26 (by decide) ?_
    have kr := KR (0 : Int32)  _ _ 27 ls h rfl hP hD hS dX8_isChangeCode_27
    exact kr
  · replace h := it_f c8 h
    refine lv_iload_n (pc := 11) hx hb dX8_isChangeCode_11 rfl (lv_at hl 0 rfl) ?_
    obtain ⟨r12, hc12, h⟩ := b1_i h
    refine g_none (st1 := [.int r12]) (gr_S (n := 1) (rest := []) (pc := 12) hx hb hml hown hts (cX8_xFrom_met l D c tb sa sv p0 _ hc12) gX8_isChangeCode_X8_xFrom rfl rfl rfl (by decide +kernel) rfl ⟨Nat.le_of_ble_eq_true rfl, Nat.le_of_ble_eq_true rfl⟩ ⟨Nat.zero_le _, Nat.zero_le _⟩ xE_ok g_P0 (g_D0 (A := A)) hK (xE_ok.tr hE hS (g_free0 hS hA)) hl.1 (Nat.le_of_ble_eq_true rfl) dX8_isChangeCode_12 rfl) hP hS hA rfl (fun H locs hP hS => ?_)
    refine lv_iload_n (pc := 15) hx hb dX8_isChangeCode_15 rfl (lv_at hl 0 rfl) ?_
    obtain ⟨r16, hc16, h⟩ := b1_i h
    refine g_none (st1 := [.int r16, .int r12]) (gr_S (n := 1) (rest := [.int r12]) (pc := 16) hx hb hml hown hts (cX8_yFrom_met l D c tb sa sv p0 _ hc16) gX8_isChangeCode_X8_yFrom rfl rfl rfl (by decide +kernel) rfl ⟨Nat.le_of_ble_eq_true rfl, Nat.le_of_ble_eq_true rfl⟩ ⟨Nat.zero_le _, Nat.zero_le _⟩ xE_ok g_P0 (g_D0 (A := A)) hK (xE_ok.tr hE hS (g_free0 hS hA)) hl.1 (Nat.le_of_ble_eq_true rfl) dX8_isChangeCode_16 rfl) hP hS hA rfl (fun H locs hP hS => ?_)
    refine lv_icmp_eq (tgt := 26) (pc := 19) hx hb dX8_isChangeCode_19 (by decide) (fun c19 => ?_) (fun c19 => ?_)
    · replace h := it_t c19 h
      refine lv_iconst (v := 0) (pc := 26) hx hb dX8_isChangeCode_26 (by decide) ?_
      have kr := KR (0 : Int32)  _ _ 27 ls h rfl hP hD hS dX8_isChangeCode_27
      exact kr
    · replace h := it_f c19 h
      refine lv_iconst (v := 1) (pc := 22) hx hb dX8_isChangeCode_22 (by decide) ?_
      refine lv_goto (tgt := 27) (pc := 23) hx hb dX8_isChangeCode_23 (by decide) ?_
      have kr := KR (1 : Int32)  _ _ 27 ls h rfl hP hD hS dX8_isChangeCode_27
      exact kr
abbrev rmX5_isMissing : Room := { frames := 0, cells := 0, slots := 0, locals := 0 }
set_option maxRecDepth 100000 in
set_option maxHeartbeats 40000000 in
theorem cX5_isMissing_met (l : Launch) (D : va_G) (c : Nat → ClassId) (tb : Nat) (sa sv : Nat → Nat) (a0 : Nat → Nat) (s0 : Mem) (r0 : Int32) (h : fX5_isMissing s0 = some r0) : gM l yX5_isMissing wsX5_isMissing rmX5_isMissing D (gY c) (xE tb sa sv) [.ref (a0 0)] (wX5 a0 c s0) (some (.int r0)) (wX5 a0 c s0) := by
  unfold fX5_isMissing at h
  refine gM.I (cc := cX5_isMissing) (maxL := 1) (by decide) rfl (Nat.le_of_ble_eq_true rfl) ?_
  intro p e s m args below meth cd hx hb hml hown hts A hA ls hl hP hK hD hS hE Q KR0
  have hfX5 : ∀ w ∈ u_ws RX5 TX5 3, w.before args s = true := fun w hw => hts w (List.mem_cons_of_mem _ (List.mem_append_right _ hw))
  have lk0 := hts (.fieldLink RX5 15 "GlitchNets$Sheet" "sort" "I") (List.mem_of_getElem? (i := 1) rfl)
  have KR : ∀ (v : Int32)  (H : Heap) (locs : List Loc) (pc : Nat) (ls : Array Slot), some v = some r0 → narrow .boolean (.int v) = .int v → va_P D vwCl (wX5 a0 c s0) H → va_D A (wX5 a0 c s0) → va_S A s.heap H locs → decode cX5_isMissing pc = .ok (.ireturn, 1) → W p l e rmX5_isMissing s m args below meth cd H locs 0 0 Q (F0 m pc ls [.int v]) := by
    intro v  H locs pc ls hr hn hP hD hS hd
    cases hr
    exact KR0 _ H locs pc ls rfl hn hP hD hS hd
  have hl : lv_has ls 1 [(0, .ref (a0 0))] := hl
  refine lv_aload_n (pc := 0) hx hb dX5_isMissing_0 rfl (lv_at hl 0 rfl) ?_
  refine va_get (D := D) (ci := 5) (v := .int (s0.1 1 0)) (C := RX5) (T := TX5) (N := 3) (pc := 1) hx hb hfX5 (fun _ h9 => h9) hown hK hP 0 rfl rfl 1 (by decide) lk0 (fun _ h9 => h9) rfl dX5_isMissing_1 ?_
  refine lv_iconst (v := -1) (pc := 4) hx hb dX5_isMissing_4 (by decide) ?_
  refine lv_icmp_ne (tgt := 12) (pc := 5) hx hb dX5_isMissing_5 (by decide) (fun c5 => ?_) (fun c5 => ?_)
  · replace h := it_f c5 h
    refine lv_iconst (v := 0) (pc := 12) hx hb dX5_isMissing_12 (by decide) ?_
    have kr := KR (0 : Int32)  _ _ 13 ls h rfl hP hD hS dX5_isMissing_13
    exact kr
  · replace h := it_t c5 h
    refine lv_iconst (v := 1) (pc := 8) hx hb dX5_isMissing_8 (by decide) ?_
    refine lv_goto (tgt := 13) (pc := 9) hx hb dX5_isMissing_9 (by decide) ?_
    have kr := KR (1 : Int32)  _ _ 13 ls h rfl hP hD hS dX5_isMissing_13
    exact kr
abbrev rmX8_firstUnlike : Room := { frames := 3, cells := 0, slots := 0, locals := 76 }
set_option maxRecDepth 100000 in
set_option maxHeartbeats 40000000 in
theorem cX8_firstUnlike_met (l : Launch) (D : va_G) (c : Nat → ClassId) (tb : Nat) (sa sv : Nat → Nat) (a : Nat → Nat → Nat) (a2 : Nat → Nat) (a3 : Nat → Nat) (p2 : Int32) (s0 : Mem) (s1 : Mem) (s2 : Mem) (s3 : Mem) (r0 : Int32) (z1 : Mem) (z3 : Mem) (h : fX8_firstUnlike p2 s0 s1 s2 s3 = some (r0, z1, z3)) : gM l yX8_firstUnlike wsX8_firstUnlike rmX8_firstUnlike D (gY c) (xE tb sa sv) [.ref (a 0 0), .ref (a2 0), .ref (a3 0), .int p2] (wX8 a c s0 ++ wX7 (a 5) c s1 ++ wX5 a2 c s2 ++ wX3 a3 c s3) (some (.int r0)) (wX8 a c s0 ++ wX7 (a 5) c z1 ++ wX5 a2 c s2 ++ wX3 a3 c z3) := by
  unfold fX8_firstUnlike at h
  refine gM.I (cc := cX8_firstUnlike) (maxL := 5) (by decide) rfl (Nat.le_of_ble_eq_true rfl) ?_
  intro p e s m args below meth cd hx hb hml hown hts A hA ls hl hP hK hD hS hE Q KR0
  have hfX5 : ∀ w ∈ u_ws RX5 TX5 3, w.before args s = true := fun w hw => hts w (List.mem_cons_of_mem _ (List.mem_append_left _ (List.mem_append_left _ (List.mem_append_right _ hw))))
  have hfX8 : ∀ w ∈ u_ws RX8 TX8 12, w.before args s = true := fun w hw => hts w (List.mem_cons_of_mem _ (List.mem_append_left _ (List.mem_append_left _ (List.mem_append_left _ (List.mem_append_right _ hw)))))
  have lk0 := hts (.fieldLink RX8 36 "GlitchNets" "outputWave" "LGlitchNets$Wave;") (List.mem_of_getElem? (i := 1) rfl)
  have lk1 := hts (.fieldLink RX8 320 "GlitchNets$Sheet" "size" "I") (List.mem_of_getElem? (i := 2) rfl)
  have lk2 := hts (.fieldLink RX8 310 "GlitchNets$Sheet" "items" "[I") (List.mem_of_getElem? (i := 3) rfl)
  have KR : ∀ (v : Int32) (w1 : Mem) (w3 : Mem) (H : Heap) (locs : List Loc) (pc : Nat) (ls : Array Slot), some (v, w1, w3) = some (r0, z1, z3) → narrow .int (.int v) = .int v → va_P D vwCl (wX8 a c s0 ++ wX7 (a 5) c w1 ++ wX5 a2 c s2 ++ wX3 a3 c w3) H → va_D A (wX8 a c s0 ++ wX7 (a 5) c w1 ++ wX5 a2 c s2 ++ wX3 a3 c w3) → va_S A s.heap H locs → decode cX8_firstUnlike pc = .ok (.ireturn, 1) → W p l e rmX8_firstUnlike s m args below meth cd H locs 0 0 Q (F0 m pc ls [.int v]) := by
    intro v w1 w3 H locs pc ls hr hn hP hD hS hd
    cases hr
    exact KR0 _ H locs pc ls rfl hn hP hD hS hd
  have hl : lv_has ls 5 [(0, .ref (a 0 0)), (1, .ref (a2 0)), (2, .ref (a3 0)), (3, .int p2)] := hl
  have J19 : ∀ (n : Nat) (x4 : Int32) (s1 : Mem) (s3 : Mem) (H : Heap) (locs : List Loc) (ls : Array Slot), fX8_firstUnlike_b19 s0 s2 n x4 s1 s3 = some (r0, z1, z3) → va_P D vwCl (wX8 a c s0 ++ wX7 (a 5) c s1 ++ wX5 a2 c s2 ++ wX3 a3 c s3) H → va_D A (wX8 a c s0 ++ wX7 (a 5) c s1 ++ wX5 a2 c s2 ++ wX3 a3 c s3) → va_S A s.heap H locs → lv_has ls 5 [(0, .ref (a 0 0)), (1, .ref (a2 0)), (4, .int x4)] → W p l e rmX8_firstUnlike s m args below meth cd H locs 0 0 Q (F0 m 19 ls []) := by
    intro n
    induction n with
    | zero =>
      intro x4 s1 s3 H locs ls h _ _ _ _
      cases (show (none : Option (Int32 × Mem × Mem)) = some _ from h)
    | succ n K19h =>
      intro x4 s1 s3 H locs ls h hP hD hS hl
      rw [fX8_firstUnlike_b19] at h
      refine lv_iload (pc := 19) hx hb dX8_firstUnlike_19 (lv_at hl 2 rfl) ?_
      refine lv_aload_n (pc := 21) hx hb dX8_firstUnlike_21 rfl (lv_at hl 1 rfl) ?_
      refine va_get (D := D) (ci := 5) (v := .int (s2.1 2 0)) (C := RX5) (T := TX5) (N := 3) (pc := 22) hx hb hfX5 (fun _ h9 => h9) hown hK hP 5 rfl rfl 2 (by decide) lk1 (fun _ h9 => h9) rfl dX8_firstUnlike_22 ?_
      refine lv_icmp_ge (tgt := 56) (pc := 25) hx hb dX8_firstUnlike_25 (by decide) (fun c25 => ?_) (fun c25 => ?_)
      · replace h := it_t c25 h
        refine lv_iconst (v := -1) (pc := 56) hx hb dX8_firstUnlike_56 (by decide) ?_
        have kr := KR (-1 : Int32) s1 s3 _ _ 57 ls h rfl hP hD hS dX8_firstUnlike_57
        exact kr
      · replace h := it_f c25 h
        refine lv_aload_n (pc := 28) hx hb dX8_firstUnlike_28 rfl (lv_at hl 1 rfl) ?_
        refine va_get (D := D) (ci := 5) (v := .ref (a2 1)) (C := RX5) (T := TX5) (N := 3) (pc := 29) hx hb hfX5 (fun _ h9 => h9) hown hK hP 5 rfl rfl 0 (by decide) lk2 (fun _ h9 => h9) rfl dX8_firstUnlike_29 ?_
        refine lv_iload (pc := 32) hx hb dX8_firstUnlike_32 (lv_at hl 2 rfl) ?_
        obtain ⟨hk34, h⟩ := ckI_i h
        refine va_iald (D := D) (f := (s2.1 0)) (pc := 34) hx hb hK hP 6 0 rfl rfl hk34 dX8_firstUnlike_34 ?_
        refine lv_aload_n (pc := 35) hx hb dX8_firstUnlike_35 rfl (lv_at hl 0 rfl) ?_
        refine va_get (D := D) (ci := 8) (v := .ref ((a 5) 0)) (C := RX8) (T := TX8) (N := 12) (pc := 36) hx hb hfX8 (fun _ h9 => h9) hown hK hP 0 rfl rfl 4 (by decide) lk0 (fun _ h9 => h9) rfl dX8_firstUnlike_36 ?_
        refine lv_iload (pc := 39) hx hb dX8_firstUnlike_39 (lv_at hl 2 rfl) ?_
        obtain ⟨r41, hc41, h⟩ := b1_i h
        have hPc := g_cutP (w0 := wX7 (a 5) c s1) hP [2, 3, 4] rfl
        have hDc : va_D A (wX7 (a 5) c s1) := hD.sub [2, 3, 4] (by decide) rfl
        have hFc := va_free (wc := wX7 (a 5) c s1) hD hS hA [2, 3, 4] rfl
        refine g_sub (st1 := [.int r41, .int ((s2.1 0) (x4).toNatClampNeg)]) (wr := wX8 a c s0 ++ wX5 a2 c s2 ++ wX3 a3 c s3) (wn := wX8 a c s0 ++ wX7 (a 5) c s1 ++ wX5 a2 c s2 ++ wX3 a3 c s3) (gr_V (n := 1) (rest := [.int ((s2.1 0) (x4).toNatClampNeg)]) (pc := 41) hx hb hml hown hts (cX7_at_met l D c tb sa sv (a 5) x4 s1 _ hc41) gX8_firstUnlike_X7_at rfl rfl rfl (by decide +kernel) rfl ⟨Nat.le_of_ble_eq_true rfl, Nat.le_of_ble_eq_true rfl⟩ ⟨Nat.zero_le _, Nat.zero_le _⟩ 0 7 rfl rfl rfl xE_ok hPc hDc hK (xE_ok.tr hE hS hFc) hl.1 (Nat.le_of_ble_eq_true rfl) dX8_firstUnlike_41 rfl) hP hD hS hA [2, 3, 4] [0, 1, 5, 6, 7, 8, 9, 10, 11, 12, 13] [0, 1, 11, 12, 13, 2, 3, 4, 5, 6, 7, 8, 9, 10] rfl rfl (by decide) (by decide) (by decide) rfl rfl (fun H locs hP hD hS => ?_)
        refine lv_icmp_eq (tgt := 50) (pc := 44) hx hb dX8_firstUnlike_44 (by decide) (fun c44 => ?_) (fun c44 => ?_)
        · replace h := it_t c44 h
          obtain ⟨v4_50, ev4_50, h⟩ := lt_i h
          refine lv_iinc (v := v4_50) (lv' := [(4, .int v4_50), (0, .ref (a 0 0)), (1, .ref (a2 0))]) (pc := 50) hx hb dX8_firstUnlike_50 hl (k := 2) rfl (by rw [ev4_50]; rfl) (by decide) rfl (fun ls hl => ?_)
          refine lv_goto (tgt := 19) (pc := 53) hx hb dX8_firstUnlike_53 (by decide) ?_
          have jr := K19h v4_50 s1 s3 _ _ ls h hP hD hS (lv_sub hl [1, 2, 0] rfl)
          exact jr
        · replace h := it_f c44 h
          refine lv_iload (pc := 47) hx hb dX8_firstUnlike_47 (lv_at hl 2 rfl) ?_
          have kr := KR x4 s1 s3 _ _ 49 ls h rfl hP hD hS dX8_firstUnlike_49
          exact kr
  refine lv_aload_n (pc := 0) hx hb dX8_firstUnlike_0 rfl (lv_at hl 0 rfl) ?_
  refine va_get (D := D) (ci := 8) (v := .ref ((a 5) 0)) (C := RX8) (T := TX8) (N := 12) (pc := 1) hx hb hfX8 (fun _ h9 => h9) hown hK hP 0 rfl rfl 4 (by decide) lk0 (fun _ h9 => h9) rfl dX8_firstUnlike_1 ?_
  refine lv_aload_n (pc := 4) hx hb dX8_firstUnlike_4 rfl (lv_at hl 2 rfl) ?_
  refine lv_iload_n (pc := 5) hx hb dX8_firstUnlike_5 rfl (lv_at hl 3 rfl) ?_
  obtain ⟨r6, hc6, h⟩ := b1_i h
  refine g_none (st1 := [.int r6, .ref (a3 0), .ref ((a 5) 0)]) (gr_S (n := 1) (rest := [.ref (a3 0), .ref ((a 5) 0)]) (pc := 6) hx hb hml hown hts (cX8_xFrom_met l D c tb sa sv p2 _ hc6) gX8_firstUnlike_X8_xFrom rfl rfl rfl (by decide +kernel) rfl ⟨Nat.le_of_ble_eq_true rfl, Nat.le_of_ble_eq_true rfl⟩ ⟨Nat.zero_le _, Nat.zero_le _⟩ xE_ok g_P0 (g_D0 (A := A)) hK (xE_ok.tr hE hS (g_free0 hS hA)) hl.1 (Nat.le_of_ble_eq_true rfl) dX8_firstUnlike_6 rfl) hP hS hA rfl (fun H locs hP hS => ?_)
  refine lv_iload_n (pc := 9) hx hb dX8_firstUnlike_9 rfl (lv_at hl 3 rfl) ?_
  obtain ⟨r10, hc10, h⟩ := b1_i h
  refine g_none (st1 := [.int r10, .int r6, .ref (a3 0), .ref ((a 5) 0)]) (gr_S (n := 1) (rest := [.int r6, .ref (a3 0), .ref ((a 5) 0)]) (pc := 10) hx hb hml hown hts (cX8_yFrom_met l D c tb sa sv p2 _ hc10) gX8_firstUnlike_X8_yFrom rfl rfl rfl (by decide +kernel) rfl ⟨Nat.le_of_ble_eq_true rfl, Nat.le_of_ble_eq_true rfl⟩ ⟨Nat.zero_le _, Nat.zero_le _⟩ xE_ok g_P0 (g_D0 (A := A)) hK (xE_ok.tr hE hS (g_free0 hS hA)) hl.1 (Nat.le_of_ble_eq_true rfl) dX8_firstUnlike_10 rfl) hP hS hA rfl (fun H locs hP hS => ?_)
  obtain ⟨t0_13, t1_13, hc13, h⟩ := b2_i h
  have hPc := g_cutP (w0 := wX7 (a 5) c s1 ++ wX3 a3 c s3) hP [2, 3, 4, 7, 8, 9, 10, 11, 12, 13] rfl
  have hDc : va_D A (wX7 (a 5) c s1 ++ wX3 a3 c s3) := hD.sub [2, 3, 4, 7, 8, 9, 10, 11, 12, 13] (by decide) rfl
  have hFc := va_free (wc := wX7 (a 5) c s1 ++ wX3 a3 c s3) hD hS hA [2, 3, 4, 7, 8, 9, 10, 11, 12, 13] rfl
  refine g_sub (st1 := []) (wr := wX8 a c s0 ++ wX5 a2 c s2) (wn := wX8 a c s0 ++ wX7 (a 5) c t0_13 ++ wX5 a2 c s2 ++ wX3 a3 c t1_13) (gr_V (n := 3) (rest := []) (pc := 13) hx hb hml hown hts (cX7_run_met l D c tb sa sv (a 5) a3 r6 r10 s1 s3 _ _ hc13) gX8_firstUnlike_X7_run rfl rfl rfl (by decide +kernel) rfl ⟨Nat.le_of_ble_eq_true rfl, Nat.le_of_ble_eq_true rfl⟩ ⟨Nat.zero_le _, Nat.zero_le _⟩ 0 7 rfl rfl rfl xE_ok hPc hDc hK (xE_ok.tr hE hS hFc) hl.1 (Nat.le_of_ble_eq_true rfl) dX8_firstUnlike_13 rfl) hP hD hS hA [2, 3, 4, 7, 8, 9, 10, 11, 12, 13] [0, 1, 5, 6] [0, 1, 4, 5, 6, 2, 3, 7, 8, 9, 10, 11, 12, 13] rfl rfl (by decide) (by decide) (by decide) rfl rfl (fun H locs hP hD hS => ?_)
  refine lv_iconst (v := 0) (pc := 16) hx hb dX8_firstUnlike_16 (by decide) ?_
  refine lv_istore (lv' := [(4, .int (0 : Int32)), (0, .ref (a 0 0)), (1, .ref (a2 0)), (2, .ref (a3 0)), (3, .int p2)]) (pc := 17) hx hb dX8_firstUnlike_17 hl (by decide) rfl (fun ls hl => ?_)
  have jr := J19 FU (0 : Int32) t0_13 t1_13 _ _ ls h hP hD hS (lv_sub hl [1, 2, 0] rfl)
  exact jr
abbrev rmX3_become : Room := { frames := 1, cells := 0, slots := 0, locals := 40 }
set_option maxRecDepth 100000 in
set_option maxHeartbeats 40000000 in
theorem cX3_become_met (l : Launch) (D : va_G) (c : Nat → ClassId) (tb : Nat) (sa sv : Nat → Nat) (a0 : Nat → Nat) (a1 : Nat → Nat) (s0 : Mem) (s1 : Mem) (z0 : Mem) (h : fX3_become s0 s1 = some z0) : gM l yX3_become wsX3_become rmX3_become D (gY c) (xE tb sa sv) [.ref (a0 0), .ref (a1 0)] (wX3 a0 c s0 ++ wX3 a1 c s1) none (wX3 a0 c z0 ++ wX3 a1 c s1) := by
  unfold fX3_become at h
  refine gM.V (cc := cX3_become) (maxL := 2) (by decide) rfl (Nat.le_of_ble_eq_true rfl) ?_
  intro p e s m args below meth cd hx hb hml hown hts A hA ls hl hP hK hD hS hE Q KR0
  have hfX3 : ∀ w ∈ u_ws RX3 TX3 7, w.before args s = true := fun w hw => hts w (List.mem_cons_of_mem _ (List.mem_append_right _ hw))
  have lk0 := hts (.fieldLink RX3 11 "GlitchNets$Net" "kinds" "[I") (List.mem_of_getElem? (i := 1) rfl)
  have lk1 := hts (.methodLink RX3 45 arraycopyName) (List.mem_of_getElem? (i := 2) rfl)
  have lk2 := hts (.native arraycopyName) (List.mem_of_getElem? (i := 3) rfl)
  have lk3 := hts (.static arraycopyName) (List.mem_of_getElem? (i := 4) rfl)
  have lk4 := hts (.initialized "java/lang/System") (List.mem_of_getElem? (i := 5) rfl)
  have lk5 := hts (.fieldLink RX3 15 "GlitchNets$Net" "firsts" "[I") (List.mem_of_getElem? (i := 6) rfl)
  have lk6 := hts (.fieldLink RX3 18 "GlitchNets$Net" "seconds" "[I") (List.mem_of_getElem? (i := 7) rfl)
  have lk7 := hts (.fieldLink RX3 21 "GlitchNets$Net" "delays" "[I") (List.mem_of_getElem? (i := 8) rfl)
  have lk8 := hts (.fieldLink RX3 33 "GlitchNets$Net" "size" "I") (List.mem_of_getElem? (i := 9) rfl)
  have KR : ∀ (w0 : Mem) (H : Heap) (locs : List Loc) (pc : Nat) (ls : Array Slot), some w0 = some z0 → va_P D vwCl (wX3 a0 c w0 ++ wX3 a1 c s1) H → va_D A (wX3 a0 c w0 ++ wX3 a1 c s1) → va_S A s.heap H locs → decode cX3_become pc = .ok (.return_, 1) → W p l e rmX3_become s m args below meth cd H locs 0 0 Q (F0 m pc ls []) := by
    intro w0 H locs pc ls hr hP hD hS hd
    cases hr
    exact KR0 H locs pc ls hP hD hS hd
  have hl : lv_has ls 2 [(0, .ref (a0 0)), (1, .ref (a1 0))] := hl
  refine lv_aload_n (pc := 0) hx hb dX3_become_0 rfl (lv_at hl 1 rfl) ?_
  refine va_get (D := D) (ci := 3) (v := .ref (a1 1)) (C := RX3) (T := TX3) (N := 7) (pc := 1) hx hb hfX3 (fun _ h9 => h9) hown hK hP 7 rfl rfl 0 (by decide) lk0 (fun _ h9 => h9) rfl dX3_become_1 ?_
  refine lv_iconst (v := 0) (pc := 4) hx hb dX3_become_4 (by decide) ?_
  refine lv_aload_n (pc := 5) hx hb dX3_become_5 rfl (lv_at hl 0 rfl) ?_
  refine va_get (D := D) (ci := 3) (v := .ref (a0 1)) (C := RX3) (T := TX3) (N := 7) (pc := 6) hx hb hfX3 (fun _ h9 => h9) hown hK hP 0 rfl rfl 0 (by decide) lk0 (fun _ h9 => h9) rfl dX3_become_6 ?_
  refine lv_iconst (v := 0) (pc := 9) hx hb dX3_become_9 (by decide) ?_
  refine lv_bipush (v := 12) (pc := 10) hx hb dX3_become_10 (by decide) ?_
  obtain ⟨hk12, h⟩ := ckP_i h
  obtain ⟨z1, z2, z3, z4, z5⟩ := of_decide_eq_true hk12
  refine va_copyi (f := (s1.1 0)) (g := (s0.1 0)) (ty := .int) (pc := 12) hx hb (by rw [hml]; exact hl.1.symm) hown lk1 lk2 lk3 lk4 hK hP hD hS 8 1 0 0 rfl rfl rfl rfl rfl z1 z2 z3 z4 z5 (fun _ _ => rfl) (Nat.le_of_ble_eq_true rfl) (Nat.le_of_ble_eq_true (by decide +kernel)) dX3_become_12 (fun H locs hP hD hS => ?_)
  have hP : va_P D vwCl (wX3 a0 c (mr s0 0 (va_cpy (s1.1 0) (s0.1 0) ((0 : Int32)).toNatClampNeg ((0 : Int32)).toNatClampNeg ((12 : Int32)).toNatClampNeg)) ++ wX3 a1 c s1) H := hP
  have hD : va_D A (wX3 a0 c (mr s0 0 (va_cpy (s1.1 0) (s0.1 0) ((0 : Int32)).toNatClampNeg ((0 : Int32)).toNatClampNeg ((12 : Int32)).toNatClampNeg)) ++ wX3 a1 c s1) := hD
  refine lv_aload_n (pc := 15) hx hb dX3_become_15 rfl (lv_at hl 1 rfl) ?_
  refine va_get (D := D) (ci := 3) (v := .ref (a1 2)) (C := RX3) (T := TX3) (N := 7) (pc := 16) hx hb hfX3 (fun _ h9 => h9) hown hK hP 7 rfl rfl 1 (by decide) lk5 (fun _ h9 => h9) rfl dX3_become_16 ?_
  refine lv_iconst (v := 0) (pc := 19) hx hb dX3_become_19 (by decide) ?_
  refine lv_aload_n (pc := 20) hx hb dX3_become_20 rfl (lv_at hl 0 rfl) ?_
  refine va_get (D := D) (ci := 3) (v := .ref (a0 2)) (C := RX3) (T := TX3) (N := 7) (pc := 21) hx hb hfX3 (fun _ h9 => h9) hown hK hP 0 rfl rfl 1 (by decide) lk5 (fun _ h9 => h9) rfl dX3_become_21 ?_
  refine lv_iconst (v := 0) (pc := 24) hx hb dX3_become_24 (by decide) ?_
  refine lv_bipush (v := 12) (pc := 25) hx hb dX3_become_25 (by decide) ?_
  obtain ⟨hk27, h⟩ := ckP_i h
  obtain ⟨z1, z2, z3, z4, z5⟩ := of_decide_eq_true hk27
  refine va_copyi (f := (s1.1 1)) (g := ((mr s0 0 (va_cpy (s1.1 0) (s0.1 0) ((0 : Int32)).toNatClampNeg ((0 : Int32)).toNatClampNeg ((12 : Int32)).toNatClampNeg)).1 1)) (ty := .int) (pc := 27) hx hb (by rw [hml]; exact hl.1.symm) hown lk1 lk2 lk3 lk4 hK hP hD hS 9 2 0 0 rfl rfl rfl rfl rfl z1 z2 z3 z4 z5 (fun _ _ => rfl) (Nat.le_of_ble_eq_true rfl) (Nat.le_of_ble_eq_true (by decide +kernel)) dX3_become_27 (fun H locs hP hD hS => ?_)
  obtain ⟨m0_27, em0_27, h⟩ := lt_i h
  have hP : va_P D vwCl (wX3 a0 c m0_27 ++ wX3 a1 c s1) H := by rw [em0_27]; exact hP
  have hD : va_D A (wX3 a0 c m0_27 ++ wX3 a1 c s1) := by rw [em0_27]; exact hD
  refine lv_aload_n (pc := 30) hx hb dX3_become_30 rfl (lv_at hl 1 rfl) ?_
  refine va_get (D := D) (ci := 3) (v := .ref (a1 3)) (C := RX3) (T := TX3) (N := 7) (pc := 31) hx hb hfX3 (fun _ h9 => h9) hown hK hP 7 rfl rfl 2 (by decide) lk6 (fun _ h9 => h9) rfl dX3_become_31 ?_
  refine lv_iconst (v := 0) (pc := 34) hx hb dX3_become_34 (by decide) ?_
  refine lv_aload_n (pc := 35) hx hb dX3_become_35 rfl (lv_at hl 0 rfl) ?_
  refine va_get (D := D) (ci := 3) (v := .ref (a0 3)) (C := RX3) (T := TX3) (N := 7) (pc := 36) hx hb hfX3 (fun _ h9 => h9) hown hK hP 0 rfl rfl 2 (by decide) lk6 (fun _ h9 => h9) rfl dX3_become_36 ?_
  refine lv_iconst (v := 0) (pc := 39) hx hb dX3_become_39 (by decide) ?_
  refine lv_bipush (v := 12) (pc := 40) hx hb dX3_become_40 (by decide) ?_
  obtain ⟨hk42, h⟩ := ckP_i h
  obtain ⟨z1, z2, z3, z4, z5⟩ := of_decide_eq_true hk42
  refine va_copyi (f := (s1.1 2)) (g := (m0_27.1 2)) (ty := .int) (pc := 42) hx hb (by rw [hml]; exact hl.1.symm) hown lk1 lk2 lk3 lk4 hK hP hD hS 10 3 0 0 rfl rfl rfl rfl rfl z1 z2 z3 z4 z5 (fun _ _ => rfl) (Nat.le_of_ble_eq_true rfl) (Nat.le_of_ble_eq_true (by decide +kernel)) dX3_become_42 (fun H locs hP hD hS => ?_)
  have hP : va_P D vwCl (wX3 a0 c (mr m0_27 2 (va_cpy (s1.1 2) (m0_27.1 2) ((0 : Int32)).toNatClampNeg ((0 : Int32)).toNatClampNeg ((12 : Int32)).toNatClampNeg)) ++ wX3 a1 c s1) H := hP
  have hD : va_D A (wX3 a0 c (mr m0_27 2 (va_cpy (s1.1 2) (m0_27.1 2) ((0 : Int32)).toNatClampNeg ((0 : Int32)).toNatClampNeg ((12 : Int32)).toNatClampNeg)) ++ wX3 a1 c s1) := hD
  refine lv_aload_n (pc := 45) hx hb dX3_become_45 rfl (lv_at hl 1 rfl) ?_
  refine va_get (D := D) (ci := 3) (v := .ref (a1 4)) (C := RX3) (T := TX3) (N := 7) (pc := 46) hx hb hfX3 (fun _ h9 => h9) hown hK hP 7 rfl rfl 3 (by decide) lk7 (fun _ h9 => h9) rfl dX3_become_46 ?_
  refine lv_iconst (v := 0) (pc := 49) hx hb dX3_become_49 (by decide) ?_
  refine lv_aload_n (pc := 50) hx hb dX3_become_50 rfl (lv_at hl 0 rfl) ?_
  refine va_get (D := D) (ci := 3) (v := .ref (a0 4)) (C := RX3) (T := TX3) (N := 7) (pc := 51) hx hb hfX3 (fun _ h9 => h9) hown hK hP 0 rfl rfl 3 (by decide) lk7 (fun _ h9 => h9) rfl dX3_become_51 ?_
  refine lv_iconst (v := 0) (pc := 54) hx hb dX3_become_54 (by decide) ?_
  refine lv_bipush (v := 12) (pc := 55) hx hb dX3_become_55 (by decide) ?_
  obtain ⟨hk57, h⟩ := ckP_i h
  obtain ⟨z1, z2, z3, z4, z5⟩ := of_decide_eq_true hk57
  refine va_copyi (f := (s1.1 3)) (g := ((mr m0_27 2 (va_cpy (s1.1 2) (m0_27.1 2) ((0 : Int32)).toNatClampNeg ((0 : Int32)).toNatClampNeg ((12 : Int32)).toNatClampNeg)).1 3)) (ty := .int) (pc := 57) hx hb (by rw [hml]; exact hl.1.symm) hown lk1 lk2 lk3 lk4 hK hP hD hS 11 4 0 0 rfl rfl rfl rfl rfl z1 z2 z3 z4 z5 (fun _ _ => rfl) (Nat.le_of_ble_eq_true rfl) (Nat.le_of_ble_eq_true (by decide +kernel)) dX3_become_57 (fun H locs hP hD hS => ?_)
  obtain ⟨m0_57, em0_57, h⟩ := lt_i h
  have hP : va_P D vwCl (wX3 a0 c m0_57 ++ wX3 a1 c s1) H := by rw [em0_57]; exact hP
  have hD : va_D A (wX3 a0 c m0_57 ++ wX3 a1 c s1) := by rw [em0_57]; exact hD
  refine lv_aload_n (pc := 60) hx hb dX3_become_60 rfl (lv_at hl 0 rfl) ?_
  refine lv_aload_n (pc := 61) hx hb dX3_become_61 rfl (lv_at hl 1 rfl) ?_
  refine va_get (D := D) (ci := 3) (v := .int (s1.1 4 0)) (C := RX3) (T := TX3) (N := 7) (pc := 62) hx hb hfX3 (fun _ h9 => h9) hown hK hP 7 rfl rfl 4 (by decide) lk8 (fun _ h9 => h9) rfl dX3_become_62 ?_
  refine va_put (D := D) (ci := 3) (v := .int (s1.1 4 0)) (ty := .int) (C := RX3) (T := TX3) (N := 7) (pc := 65) hx hb hfX3 (fun _ h9 => h9) tyX3 tyX3_ok nmX3 hown hK hP hD hS 0 rfl rfl 4 (by decide) lk8 (fun _ h9 => h9) rfl (by decide +kernel) rfl rfl (Nat.le_of_ble_eq_true rfl) dX3_become_65 (fun H locs hP hD hS => ?_)
  have hP : va_P D vwCl (wX3 a0 c (mi m0_57 4 0 (s1.1 4 0)) ++ wX3 a1 c s1) H := hP
  have hD : va_D A (wX3 a0 c (mi m0_57 4 0 (s1.1 4 0)) ++ wX3 a1 c s1) := hD
  have kr := KR (mi m0_57 4 0 (s1.1 4 0)) _ _ 68 ls h hP hD hS dX3_become_68
  exact kr
abbrev rmX3_setDelay : Room := { frames := 1, cells := 0, slots := 0, locals := 21 }
set_option maxRecDepth 100000 in
set_option maxHeartbeats 40000000 in
theorem cX3_setDelay_met (l : Launch) (D : va_G) (c : Nat → ClassId) (tb : Nat) (sa sv : Nat → Nat) (a0 : Nat → Nat) (p0 : Int32) (p1 : Int32) (s0 : Mem) (z0 : Mem) (h : fX3_setDelay p0 p1 s0 = some z0) : gM l yX3_setDelay wsX3_setDelay rmX3_setDelay D (gY c) (xE tb sa sv) [.ref (a0 0), .int p0, .int p1] (wX3 a0 c s0) none (wX3 a0 c z0) := by
  unfold fX3_setDelay at h
  refine gM.V (cc := cX3_setDelay) (maxL := 3) (by decide) rfl (Nat.le_of_ble_eq_true rfl) ?_
  intro p e s m args below meth cd hx hb hml hown hts A hA ls hl hP hK hD hS hE Q KR0
  have hfX3 : ∀ w ∈ u_ws RX3 TX3 7, w.before args s = true := fun w hw => hts w (List.mem_cons_of_mem _ (List.mem_append_right _ hw))
  have lk0 := hts (.fieldLink RX3 21 "GlitchNets$Net" "delays" "[I") (List.mem_of_getElem? (i := 1) rfl)
  have KR : ∀ (w0 : Mem) (H : Heap) (locs : List Loc) (pc : Nat) (ls : Array Slot), some w0 = some z0 → va_P D vwCl (wX3 a0 c w0) H → va_D A (wX3 a0 c w0) → va_S A s.heap H locs → decode cX3_setDelay pc = .ok (.return_, 1) → W p l e rmX3_setDelay s m args below meth cd H locs 0 0 Q (F0 m pc ls []) := by
    intro w0 H locs pc ls hr hP hD hS hd
    cases hr
    exact KR0 H locs pc ls hP hD hS hd
  have hl : lv_has ls 3 [(0, .ref (a0 0)), (1, .int p0), (2, .int p1)] := hl
  refine lv_aload_n (pc := 0) hx hb dX3_setDelay_0 rfl (lv_at hl 0 rfl) ?_
  refine lv_iload_n (pc := 1) hx hb dX3_setDelay_1 rfl (lv_at hl 1 rfl) ?_
  obtain ⟨r2, hc2, h⟩ := b1_i h
  refine g_all (st1 := [.int r2]) (gr_V (n := 1) (rest := []) (pc := 2) hx hb hml hown hts (cX3_has_met l D c tb sa sv a0 p0 s0 _ hc2) gX3_setDelay_X3_has rfl rfl rfl (by decide +kernel) rfl ⟨Nat.le_of_ble_eq_true rfl, Nat.le_of_ble_eq_true rfl⟩ ⟨Nat.zero_le _, Nat.zero_le _⟩ 0 3 rfl rfl rfl xE_ok hP hD hK (xE_ok.tr hE hS (g_free hD hS hA)) hl.1 (Nat.le_of_ble_eq_true rfl) dX3_setDelay_2 rfl) hD hS hA rfl (fun H locs hP hD hS => ?_)
  refine lv_if_eq (tgt := 15) (pc := 5) hx hb dX3_setDelay_5 (by decide) (fun c5 => ?_) (fun c5 => ?_)
  · replace h := it_t c5 h
    have kr := KR s0 _ _ 15 ls h hP hD hS dX3_setDelay_15
    exact kr
  · replace h := it_f c5 h
    refine lv_aload_n (pc := 8) hx hb dX3_setDelay_8 rfl (lv_at hl 0 rfl) ?_
    refine va_get (D := D) (ci := 3) (v := .ref (a0 4)) (C := RX3) (T := TX3) (N := 7) (pc := 9) hx hb hfX3 (fun _ h9 => h9) hown hK hP 0 rfl rfl 3 (by decide) lk0 (fun _ h9 => h9) rfl dX3_setDelay_9 ?_
    refine lv_iload_n (pc := 12) hx hb dX3_setDelay_12 rfl (lv_at hl 1 rfl) ?_
    refine lv_iload_n (pc := 13) hx hb dX3_setDelay_13 rfl (lv_at hl 2 rfl) ?_
    obtain ⟨hk14, h⟩ := ckI_i h
    refine va_iast (D := D) (f := (s0.1 3)) (pc := 14) hx hb hK hP hD hS 4 0 rfl rfl hk14 dX3_setDelay_14 (fun H locs hP hD hS => ?_)
    have hP : va_P D vwCl (wX3 a0 c (mi s0 3 (p0).toNatClampNeg p1)) H := hP
    have hD : va_D A (wX3 a0 c (mi s0 3 (p0).toNatClampNeg p1)) := hD
    have kr := KR (mi s0 3 (p0).toNatClampNeg p1) _ _ 15 ls h hP hD hS dX3_setDelay_15
    exact kr
abbrev rmX8_fittingDelays : Room := { frames := 4, cells := 0, slots := 0, locals := 100 }
set_option maxRecDepth 100000 in
set_option maxHeartbeats 40000000 in
theorem cX8_fittingDelays_met (l : Launch) (D : va_G) (c : Nat → ClassId) (tb : Nat) (sa sv : Nat → Nat) (a : Nat → Nat → Nat) (a2 : Nat → Nat) (p1 : Int32) (p2 : Int32) (s0 : Mem) (s1 : Mem) (s2 : Mem) (s3 : Mem) (s4 : Mem) (r0 : Int32) (z1 : Mem) (z4 : Mem) (h : fX8_fittingDelays p1 p2 s0 s1 s2 s3 s4 = some (r0, z1, z4)) : gM l yX8_fittingDelays wsX8_fittingDelays rmX8_fittingDelays D (gY c) (xE tb sa sv) [.ref (a 0 0), .ref (a2 0), .int p1, .int p2] (wX8 a c s0 ++ wX7 (a 5) c s1 ++ wX5 a2 c s2 ++ wX3 (a 3) c s3 ++ wX3 (a 4) c s4) (some (.int r0)) (wX8 a c s0 ++ wX7 (a 5) c z1 ++ wX5 a2 c s2 ++ wX3 (a 3) c s3 ++ wX3 (a 4) c z4) := by
  unfold fX8_fittingDelays at h
  refine gM.I (cc := cX8_fittingDelays) (maxL := 6) (by decide) rfl (Nat.le_of_ble_eq_true rfl) ?_
  intro p e s m args below meth cd hx hb hml hown hts A hA ls hl hP hK hD hS hE Q KR0
  have hfX8 : ∀ w ∈ u_ws RX8 TX8 12, w.before args s = true := fun w hw => hts w (List.mem_cons_of_mem _ (List.mem_append_left _ (List.mem_append_left _ (List.mem_append_left _ (List.mem_append_right _ hw)))))
  have lk0 := hts (.fieldLink RX8 30 "GlitchNets" "trial" "LGlitchNets$Net;") (List.mem_of_getElem? (i := 1) rfl)
  have lk1 := hts (.fieldLink RX8 26 "GlitchNets" "net" "LGlitchNets$Net;") (List.mem_of_getElem? (i := 2) rfl)
  have KR : ∀ (v : Int32) (w1 : Mem) (w4 : Mem) (H : Heap) (locs : List Loc) (pc : Nat) (ls : Array Slot), some (v, w1, w4) = some (r0, z1, z4) → narrow .int (.int v) = .int v → va_P D vwCl (wX8 a c s0 ++ wX7 (a 5) c w1 ++ wX5 a2 c s2 ++ wX3 (a 3) c s3 ++ wX3 (a 4) c w4) H → va_D A (wX8 a c s0 ++ wX7 (a 5) c w1 ++ wX5 a2 c s2 ++ wX3 (a 3) c s3 ++ wX3 (a 4) c w4) → va_S A s.heap H locs → decode cX8_fittingDelays pc = .ok (.ireturn, 1) → W p l e rmX8_fittingDelays s m args below meth cd H locs 0 0 Q (F0 m pc ls [.int v]) := by
    intro v w1 w4 H locs pc ls hr hn hP hD hS hd
    cases hr
    exact KR0 _ H locs pc ls rfl hn hP hD hS hd
  have hl : lv_has ls 6 [(0, .ref (a 0 0)), (1, .ref (a2 0)), (2, .int p1), (3, .int p2)] := hl
  have J57 : ∀ (K17 : Int32 → Int32 → Int32 → Int32 → Mem → Mem → Option (Int32 × Mem × Mem)) (K17h : ∀ (x2 : Int32) (x3 : Int32) (x4 : Int32) (x5 : Int32) (s1 : Mem) (s4 : Mem) (H : Heap) (locs : List Loc) (ls : Array Slot), K17 x2 x3 x4 x5 s1 s4 = some (r0, z1, z4) → va_P D vwCl (wX8 a c s0 ++ wX7 (a 5) c s1 ++ wX5 a2 c s2 ++ wX3 (a 3) c s3 ++ wX3 (a 4) c s4) H → va_D A (wX8 a c s0 ++ wX7 (a 5) c s1 ++ wX5 a2 c s2 ++ wX3 (a 3) c s3 ++ wX3 (a 4) c s4) → va_S A s.heap H locs → lv_has ls 6 [(0, .ref (a 0 0)), (1, .ref (a2 0)), (2, .int x2), (3, .int x3), (4, .int x4), (5, .int x5)] → W p l e rmX8_fittingDelays s m args below meth cd H locs 0 0 Q (F0 m 17 ls [])) (x2 : Int32) (x3 : Int32) (x4 : Int32) (x5 : Int32) (s1 : Mem) (s4 : Mem) (H : Heap) (locs : List Loc) (ls : Array Slot), fX8_fittingDelays_b57 K17 s0 s2 s3 x2 x3 x4 x5 s1 s4 = some (r0, z1, z4) → va_P D vwCl (wX8 a c s0 ++ wX7 (a 5) c s1 ++ wX5 a2 c s2 ++ wX3 (a 3) c s3 ++ wX3 (a 4) c s4) H → va_D A (wX8 a c s0 ++ wX7 (a 5) c s1 ++ wX5 a2 c s2 ++ wX3 (a 3) c s3 ++ wX3 (a 4) c s4) → va_S A s.heap H locs → lv_has ls 6 [(0, .ref (a 0 0)), (1, .ref (a2 0)), (2, .int x2), (3, .int x3), (4, .int x4), (5, .int x5)] → W p l e rmX8_fittingDelays s m args below meth cd H locs 0 0 Q (F0 m 57 ls []) := by
    intro K17 K17h x2 x3 x4 x5 s1 s4 H locs ls h hP hD hS hl
    unfold fX8_fittingDelays_b57 at h
    obtain ⟨v5_57, ev5_57, h⟩ := lt_i h
    refine lv_iinc (v := v5_57) (lv' := [(5, .int v5_57), (0, .ref (a 0 0)), (1, .ref (a2 0)), (2, .int x2), (3, .int x3), (4, .int x4)]) (pc := 57) hx hb dX8_fittingDelays_57 hl (k := 5) rfl (by rw [ev5_57]; rfl) (by decide) rfl (fun ls hl => ?_)
    refine lv_goto (tgt := 17) (pc := 60) hx hb dX8_fittingDelays_60 (by decide) ?_
    have jr := K17h x2 x3 x4 v5_57 s1 s4 _ _ ls h hP hD hS (lv_sub hl [1, 2, 3, 4, 5, 0] rfl)
    exact jr
  have J17 : ∀ (n : Nat) (x2 : Int32) (x3 : Int32) (x4 : Int32) (x5 : Int32) (s1 : Mem) (s4 : Mem) (H : Heap) (locs : List Loc) (ls : Array Slot), fX8_fittingDelays_b17 s0 s2 s3 n x2 x3 x4 x5 s1 s4 = some (r0, z1, z4) → va_P D vwCl (wX8 a c s0 ++ wX7 (a 5) c s1 ++ wX5 a2 c s2 ++ wX3 (a 3) c s3 ++ wX3 (a 4) c s4) H → va_D A (wX8 a c s0 ++ wX7 (a 5) c s1 ++ wX5 a2 c s2 ++ wX3 (a 3) c s3 ++ wX3 (a 4) c s4) → va_S A s.heap H locs → lv_has ls 6 [(0, .ref (a 0 0)), (1, .ref (a2 0)), (2, .int x2), (3, .int x3), (4, .int x4), (5, .int x5)] → W p l e rmX8_fittingDelays s m args below meth cd H locs 0 0 Q (F0 m 17 ls []) := by
    intro n
    induction n with
    | zero =>
      intro x2 x3 x4 x5 s1 s4 H locs ls h _ _ _ _
      cases (show (none : Option (Int32 × Mem × Mem)) = some _ from h)
    | succ n K17h =>
      intro x2 x3 x4 x5 s1 s4 H locs ls h hP hD hS hl
      rw [fX8_fittingDelays_b17] at h
      refine lv_iload (pc := 17) hx hb dX8_fittingDelays_17 (lv_at hl 5 rfl) ?_
      refine lv_bipush (v := 9) (pc := 19) hx hb dX8_fittingDelays_19 (by decide) ?_
      refine lv_icmp_gt (tgt := 63) (pc := 21) hx hb dX8_fittingDelays_21 (by decide) (fun c21 => ?_) (fun c21 => ?_)
      · replace h := it_t c21 h
        refine lv_iload (pc := 63) hx hb dX8_fittingDelays_63 (lv_at hl 4 rfl) ?_
        have kr := KR x4 s1 s4 _ _ 65 ls h rfl hP hD hS dX8_fittingDelays_65
        exact kr
      · replace h := it_f c21 h
        refine lv_aload_n (pc := 24) hx hb dX8_fittingDelays_24 rfl (lv_at hl 0 rfl) ?_
        refine va_get (D := D) (ci := 8) (v := .ref ((a 4) 0)) (C := RX8) (T := TX8) (N := 12) (pc := 25) hx hb hfX8 (fun _ h9 => h9) hown hK hP 0 rfl rfl 3 (by decide) lk0 (fun _ h9 => h9) rfl dX8_fittingDelays_25 ?_
        refine lv_iload_n (pc := 28) hx hb dX8_fittingDelays_28 rfl (lv_at hl 3 rfl) ?_
        refine lv_iload (pc := 29) hx hb dX8_fittingDelays_29 (lv_at hl 5 rfl) ?_
        obtain ⟨t0_31, hc31, h⟩ := b1_i h
        have hPc := g_cutP (w0 := wX3 (a 4) c s4) hP [14, 15, 16, 17, 18, 19, 20] rfl
        have hDc : va_D A (wX3 (a 4) c s4) := hD.sub [14, 15, 16, 17, 18, 19, 20] (by decide) rfl
        have hFc := va_free (wc := wX3 (a 4) c s4) hD hS hA [14, 15, 16, 17, 18, 19, 20] rfl
        refine g_sub (st1 := []) (wr := wX8 a c s0 ++ wX7 (a 5) c s1 ++ wX5 a2 c s2 ++ wX3 (a 3) c s3) (wn := wX8 a c s0 ++ wX7 (a 5) c s1 ++ wX5 a2 c s2 ++ wX3 (a 3) c s3 ++ wX3 (a 4) c t0_31) (gr_V (n := 2) (rest := []) (pc := 31) hx hb hml hown hts (cX3_setDelay_met l D c tb sa sv (a 4) x3 x5 s4 _ hc31) gX8_fittingDelays_X3_setDelay rfl rfl rfl (by decide +kernel) rfl ⟨Nat.le_of_ble_eq_true rfl, Nat.le_of_ble_eq_true rfl⟩ ⟨Nat.zero_le _, Nat.zero_le _⟩ 0 3 rfl rfl rfl xE_ok hPc hDc hK (xE_ok.tr hE hS hFc) hl.1 (Nat.le_of_ble_eq_true rfl) dX8_fittingDelays_31 rfl) hP hD hS hA [14, 15, 16, 17, 18, 19, 20] [0, 1, 2, 3, 4, 5, 6, 7, 8, 9, 10, 11, 12, 13] [0, 1, 2, 3, 4, 5, 6, 7, 8, 9, 10, 11, 12, 13, 14, 15, 16, 17, 18, 19, 20] rfl rfl (by decide) (by decide) (by decide) rfl rfl (fun H locs hP hD hS => ?_)
        refine lv_aload_n (pc := 34) hx hb dX8_fittingDelays_34 rfl (lv_at hl 0 rfl) ?_
        refine lv_aload_n (pc := 35) hx hb dX8_fittingDelays_35 rfl (lv_at hl 1 rfl) ?_
        refine lv_aload_n (pc := 36) hx hb dX8_fittingDelays_36 rfl (lv_at hl 0 rfl) ?_
        refine va_get (D := D) (ci := 8) (v := .ref ((a 4) 0)) (C := RX8) (T := TX8) (N := 12) (pc := 37) hx hb hfX8 (fun _ h9 => h9) hown hK hP 0 rfl rfl 3 (by decide) lk0 (fun _ h9 => h9) rfl dX8_fittingDelays_37 ?_
        refine lv_iload_n (pc := 40) hx hb dX8_fittingDelays_40 rfl (lv_at hl 2 rfl) ?_
        obtain ⟨r41, t1_41, t3_41, hc41, h⟩ := b3_i h
        have hPc := g_cutP (w0 := wX8 a c s0 ++ wX7 (a 5) c s1 ++ wX5 a2 c s2 ++ wX3 (a 4) c t0_31) hP [0, 1, 2, 3, 4, 5, 6, 14, 15, 16, 17, 18, 19, 20] rfl
        have hDc : va_D A (wX8 a c s0 ++ wX7 (a 5) c s1 ++ wX5 a2 c s2 ++ wX3 (a 4) c t0_31) := hD.sub [0, 1, 2, 3, 4, 5, 6, 14, 15, 16, 17, 18, 19, 20] (by decide) rfl
        have hFc := va_free (wc := wX8 a c s0 ++ wX7 (a 5) c s1 ++ wX5 a2 c s2 ++ wX3 (a 4) c t0_31) hD hS hA [0, 1, 2, 3, 4, 5, 6, 14, 15, 16, 17, 18, 19, 20] rfl
        refine g_sub (st1 := [.int r41]) (wr := wX3 (a 3) c s3) (wn := wX8 a c s0 ++ wX7 (a 5) c t1_41 ++ wX5 a2 c s2 ++ wX3 (a 3) c s3 ++ wX3 (a 4) c t3_41) (gr_V (n := 3) (rest := []) (pc := 41) hx hb hml hown hts (cX8_firstUnlike_met l D c tb sa sv a a2 (a 4) x2 s0 s1 s2 t0_31 _ _ _ hc41) gX8_fittingDelays_X8_firstUnlike rfl rfl rfl (by decide +kernel) rfl ⟨Nat.le_of_ble_eq_true rfl, Nat.le_of_ble_eq_true rfl⟩ ⟨Nat.zero_le _, Nat.zero_le _⟩ 0 8 rfl rfl rfl xE_ok hPc hDc hK (xE_ok.tr hE hS hFc) hl.1 (Nat.le_of_ble_eq_true rfl) dX8_fittingDelays_41 rfl) hP hD hS hA [0, 1, 2, 3, 4, 5, 6, 14, 15, 16, 17, 18, 19, 20] [7, 8, 9, 10, 11, 12, 13] [7, 8, 9, 10, 11, 12, 13, 0, 1, 2, 3, 4, 5, 6, 14, 15, 16, 17, 18, 19, 20] rfl rfl (by decide) (by decide) (by decide) rfl rfl (fun H locs hP hD hS => ?_)
        refine lv_iconst (v := -1) (pc := 44) hx hb dX8_fittingDelays_44 (by decide) ?_
        refine lv_icmp_ne (tgt := 57) (pc := 45) hx hb dX8_fittingDelays_45 (by decide) (fun c45 => ?_) (fun c45 => ?_)
        · replace h := it_f c45 h
          have jr := J57 (fX8_fittingDelays_b17 s0 s2 s3 n) K17h x2 x3 x4 x5 t1_41 t3_41 _ _ ls h hP hD hS hl
          exact jr
        · replace h := it_t c45 h
          refine lv_iload (pc := 48) hx hb dX8_fittingDelays_48 (lv_at hl 4 rfl) ?_
          refine lv_iconst (v := 1) (pc := 50) hx hb dX8_fittingDelays_50 (by decide) ?_
          refine lv_iload (pc := 51) hx hb dX8_fittingDelays_51 (lv_at hl 5 rfl) ?_
          refine lv_ishl (pc := 53) hx hb dX8_fittingDelays_53 ?_
          refine lv_ior (pc := 54) hx hb dX8_fittingDelays_54 ?_
          refine lv_topi (fun v4_55 ev4_55 => ?_)
          replace h := lt_e ev4_55 h
          refine lv_istore (lv' := [(4, .int v4_55), (0, .ref (a 0 0)), (1, .ref (a2 0)), (2, .int x2), (3, .int x3), (5, .int x5)]) (pc := 55) hx hb dX8_fittingDelays_55 hl (by decide) rfl (fun ls hl => ?_)
          have jr := J57 (fX8_fittingDelays_b17 s0 s2 s3 n) K17h x2 x3 v4_55 x5 t1_41 t3_41 _ _ ls h hP hD hS (lv_sub hl [1, 2, 3, 4, 0, 5] rfl)
          exact jr
  refine lv_iconst (v := 0) (pc := 0) hx hb dX8_fittingDelays_0 (by decide) ?_
  refine lv_istore (lv' := [(4, .int (0 : Int32)), (0, .ref (a 0 0)), (1, .ref (a2 0)), (2, .int p1), (3, .int p2)]) (pc := 1) hx hb dX8_fittingDelays_1 hl (by decide) rfl (fun ls hl => ?_)
  refine lv_aload_n (pc := 3) hx hb dX8_fittingDelays_3 rfl (lv_at hl 1 rfl) ?_
  refine va_get (D := D) (ci := 8) (v := .ref ((a 4) 0)) (C := RX8) (T := TX8) (N := 12) (pc := 4) hx hb hfX8 (fun _ h9 => h9) hown hK hP 0 rfl rfl 3 (by decide) lk0 (fun _ h9 => h9) rfl dX8_fittingDelays_4 ?_
  refine lv_aload_n (pc := 7) hx hb dX8_fittingDelays_7 rfl (lv_at hl 1 rfl) ?_
  refine va_get (D := D) (ci := 8) (v := .ref ((a 3) 0)) (C := RX8) (T := TX8) (N := 12) (pc := 8) hx hb hfX8 (fun _ h9 => h9) hown hK hP 0 rfl rfl 2 (by decide) lk1 (fun _ h9 => h9) rfl dX8_fittingDelays_8 ?_
  obtain ⟨t0_11, hc11, h⟩ := b1_i h
  have hPc := g_cutP (w0 := wX3 (a 4) c s4 ++ wX3 (a 3) c s3) hP [14, 15, 16, 17, 18, 19, 20, 7, 8, 9, 10, 11, 12, 13] rfl
  have hDc : va_D A (wX3 (a 4) c s4 ++ wX3 (a 3) c s3) := hD.sub [14, 15, 16, 17, 18, 19, 20, 7, 8, 9, 10, 11, 12, 13] (by decide) rfl
  have hFc := va_free (wc := wX3 (a 4) c s4 ++ wX3 (a 3) c s3) hD hS hA [14, 15, 16, 17, 18, 19, 20, 7, 8, 9, 10, 11, 12, 13] rfl
  refine g_sub (st1 := []) (wr := wX8 a c s0 ++ wX7 (a 5) c s1 ++ wX5 a2 c s2) (wn := wX8 a c s0 ++ wX7 (a 5) c s1 ++ wX5 a2 c s2 ++ wX3 (a 3) c s3 ++ wX3 (a 4) c t0_11) (gr_V (n := 1) (rest := []) (pc := 11) hx hb hml hown hts (cX3_become_met l D c tb sa sv (a 4) (a 3) s4 s3 _ hc11) gX8_fittingDelays_X3_become rfl rfl rfl (by decide +kernel) rfl ⟨Nat.le_of_ble_eq_true rfl, Nat.le_of_ble_eq_true rfl⟩ ⟨Nat.zero_le _, Nat.zero_le _⟩ 0 3 rfl rfl rfl xE_ok hPc hDc hK (xE_ok.tr hE hS hFc) hl.1 (Nat.le_of_ble_eq_true rfl) dX8_fittingDelays_11 rfl) hP hD hS hA [14, 15, 16, 17, 18, 19, 20, 7, 8, 9, 10, 11, 12, 13] [0, 1, 2, 3, 4, 5, 6] [0, 1, 2, 3, 4, 5, 6, 14, 15, 16, 17, 18, 19, 20, 7, 8, 9, 10, 11, 12, 13] rfl rfl (by decide) (by decide) (by decide) rfl rfl (fun H locs hP hD hS => ?_)
  refine lv_iconst (v := 1) (pc := 14) hx hb dX8_fittingDelays_14 (by decide) ?_
  refine lv_istore (lv' := [(5, .int (1 : Int32)), (4, .int (0 : Int32)), (0, .ref (a 0 0)), (1, .ref (a2 0)), (2, .int p1), (3, .int p2)]) (pc := 15) hx hb dX8_fittingDelays_15 hl (by decide) rfl (fun ls hl => ?_)
  have jr := J17 FU p1 p2 (0 : Int32) (1 : Int32) s1 t0_11 _ _ ls h hP hD hS (lv_sub hl [2, 3, 4, 5, 1, 0] rfl)
  exact jr
abbrev rmX3_setKind : Room := { frames := 1, cells := 0, slots := 0, locals := 21 }
set_option maxRecDepth 100000 in
set_option maxHeartbeats 40000000 in
theorem cX3_setKind_met (l : Launch) (D : va_G) (c : Nat → ClassId) (tb : Nat) (sa sv : Nat → Nat) (a0 : Nat → Nat) (p0 : Int32) (p1 : Int32) (s0 : Mem) (z0 : Mem) (h : fX3_setKind p0 p1 s0 = some z0) : gM l yX3_setKind wsX3_setKind rmX3_setKind D (gY c) (xE tb sa sv) [.ref (a0 0), .int p0, .int p1] (wX3 a0 c s0) none (wX3 a0 c z0) := by
  unfold fX3_setKind at h
  refine gM.V (cc := cX3_setKind) (maxL := 3) (by decide) rfl (Nat.le_of_ble_eq_true rfl) ?_
  intro p e s m args below meth cd hx hb hml hown hts A hA ls hl hP hK hD hS hE Q KR0
  have hfX3 : ∀ w ∈ u_ws RX3 TX3 7, w.before args s = true := fun w hw => hts w (List.mem_cons_of_mem _ (List.mem_append_right _ hw))
  have lk0 := hts (.fieldLink RX3 11 "GlitchNets$Net" "kinds" "[I") (List.mem_of_getElem? (i := 1) rfl)
  have KR : ∀ (w0 : Mem) (H : Heap) (locs : List Loc) (pc : Nat) (ls : Array Slot), some w0 = some z0 → va_P D vwCl (wX3 a0 c w0) H → va_D A (wX3 a0 c w0) → va_S A s.heap H locs → decode cX3_setKind pc = .ok (.return_, 1) → W p l e rmX3_setKind s m args below meth cd H locs 0 0 Q (F0 m pc ls []) := by
    intro w0 H locs pc ls hr hP hD hS hd
    cases hr
    exact KR0 H locs pc ls hP hD hS hd
  have hl : lv_has ls 3 [(0, .ref (a0 0)), (1, .int p0), (2, .int p1)] := hl
  refine lv_aload_n (pc := 0) hx hb dX3_setKind_0 rfl (lv_at hl 0 rfl) ?_
  refine lv_iload_n (pc := 1) hx hb dX3_setKind_1 rfl (lv_at hl 1 rfl) ?_
  obtain ⟨r2, hc2, h⟩ := b1_i h
  refine g_all (st1 := [.int r2]) (gr_V (n := 1) (rest := []) (pc := 2) hx hb hml hown hts (cX3_has_met l D c tb sa sv a0 p0 s0 _ hc2) gX3_setKind_X3_has rfl rfl rfl (by decide +kernel) rfl ⟨Nat.le_of_ble_eq_true rfl, Nat.le_of_ble_eq_true rfl⟩ ⟨Nat.zero_le _, Nat.zero_le _⟩ 0 3 rfl rfl rfl xE_ok hP hD hK (xE_ok.tr hE hS (g_free hD hS hA)) hl.1 (Nat.le_of_ble_eq_true rfl) dX3_setKind_2 rfl) hD hS hA rfl (fun H locs hP hD hS => ?_)
  refine lv_if_eq (tgt := 15) (pc := 5) hx hb dX3_setKind_5 (by decide) (fun c5 => ?_) (fun c5 => ?_)
  · replace h := it_t c5 h
    have kr := KR s0 _ _ 15 ls h hP hD hS dX3_setKind_15
    exact kr
  · replace h := it_f c5 h
    refine lv_aload_n (pc := 8) hx hb dX3_setKind_8 rfl (lv_at hl 0 rfl) ?_
    refine va_get (D := D) (ci := 3) (v := .ref (a0 1)) (C := RX3) (T := TX3) (N := 7) (pc := 9) hx hb hfX3 (fun _ h9 => h9) hown hK hP 0 rfl rfl 0 (by decide) lk0 (fun _ h9 => h9) rfl dX3_setKind_9 ?_
    refine lv_iload_n (pc := 12) hx hb dX3_setKind_12 rfl (lv_at hl 1 rfl) ?_
    refine lv_iload_n (pc := 13) hx hb dX3_setKind_13 rfl (lv_at hl 2 rfl) ?_
    obtain ⟨hk14, h⟩ := ckI_i h
    refine va_iast (D := D) (f := (s0.1 0)) (pc := 14) hx hb hK hP hD hS 1 0 rfl rfl hk14 dX3_setKind_14 (fun H locs hP hD hS => ?_)
    have hP : va_P D vwCl (wX3 a0 c (mi s0 0 (p0).toNatClampNeg p1)) H := hP
    have hD : va_D A (wX3 a0 c (mi s0 0 (p0).toNatClampNeg p1)) := hD
    have kr := KR (mi s0 0 (p0).toNatClampNeg p1) _ _ 15 ls h hP hD hS dX3_setKind_15
    exact kr
abbrev rmX8_fittingKinds : Room := { frames := 4, cells := 0, slots := 0, locals := 100 }
set_option maxRecDepth 100000 in
set_option maxHeartbeats 40000000 in
theorem cX8_fittingKinds_met (l : Launch) (D : va_G) (c : Nat → ClassId) (tb : Nat) (sa sv : Nat → Nat) (a : Nat → Nat → Nat) (a2 : Nat → Nat) (p1 : Int32) (p2 : Int32) (s0 : Mem) (s1 : Mem) (s2 : Mem) (s3 : Mem) (s4 : Mem) (r0 : Int32) (z1 : Mem) (z4 : Mem) (h : fX8_fittingKinds p1 p2 s0 s1 s2 s3 s4 = some (r0, z1, z4)) : gM l yX8_fittingKinds wsX8_fittingKinds rmX8_fittingKinds D (gY c) (xE tb sa sv) [.ref (a 0 0), .ref (a2 0), .int p1, .int p2] (wX8 a c s0 ++ wX7 (a 5) c s1 ++ wX5 a2 c s2 ++ wX3 (a 3) c s3 ++ wX3 (a 4) c s4) (some (.int r0)) (wX8 a c s0 ++ wX7 (a 5) c z1 ++ wX5 a2 c s2 ++ wX3 (a 3) c s3 ++ wX3 (a 4) c z4) := by
  unfold fX8_fittingKinds at h
  refine gM.I (cc := cX8_fittingKinds) (maxL := 6) (by decide) rfl (Nat.le_of_ble_eq_true rfl) ?_
  intro p e s m args below meth cd hx hb hml hown hts A hA ls hl hP hK hD hS hE Q KR0
  have hfX8 : ∀ w ∈ u_ws RX8 TX8 12, w.before args s = true := fun w hw => hts w (List.mem_cons_of_mem _ (List.mem_append_left _ (List.mem_append_left _ (List.mem_append_left _ (List.mem_append_right _ hw)))))
  have lk0 := hts (.fieldLink RX8 30 "GlitchNets" "trial" "LGlitchNets$Net;") (List.mem_of_getElem? (i := 1) rfl)
  have lk1 := hts (.fieldLink RX8 26 "GlitchNets" "net" "LGlitchNets$Net;") (List.mem_of_getElem? (i := 2) rfl)
  have KR : ∀ (v : Int32) (w1 : Mem) (w4 : Mem) (H : Heap) (locs : List Loc) (pc : Nat) (ls : Array Slot), some (v, w1, w4) = some (r0, z1, z4) → narrow .int (.int v) = .int v → va_P D vwCl (wX8 a c s0 ++ wX7 (a 5) c w1 ++ wX5 a2 c s2 ++ wX3 (a 3) c s3 ++ wX3 (a 4) c w4) H → va_D A (wX8 a c s0 ++ wX7 (a 5) c w1 ++ wX5 a2 c s2 ++ wX3 (a 3) c s3 ++ wX3 (a 4) c w4) → va_S A s.heap H locs → decode cX8_fittingKinds pc = .ok (.ireturn, 1) → W p l e rmX8_fittingKinds s m args below meth cd H locs 0 0 Q (F0 m pc ls [.int v]) := by
    intro v w1 w4 H locs pc ls hr hn hP hD hS hd
    cases hr
    exact KR0 _ H locs pc ls rfl hn hP hD hS hd
  have hl : lv_has ls 6 [(0, .ref (a 0 0)), (1, .ref (a2 0)), (2, .int p1), (3, .int p2)] := hl
  have J57 : ∀ (K17 : Int32 → Int32 → Int32 → Int32 → Mem → Mem → Option (Int32 × Mem × Mem)) (K17h : ∀ (x2 : Int32) (x3 : Int32) (x4 : Int32) (x5 : Int32) (s1 : Mem) (s4 : Mem) (H : Heap) (locs : List Loc) (ls : Array Slot), K17 x2 x3 x4 x5 s1 s4 = some (r0, z1, z4) → va_P D vwCl (wX8 a c s0 ++ wX7 (a 5) c s1 ++ wX5 a2 c s2 ++ wX3 (a 3) c s3 ++ wX3 (a 4) c s4) H → va_D A (wX8 a c s0 ++ wX7 (a 5) c s1 ++ wX5 a2 c s2 ++ wX3 (a 3) c s3 ++ wX3 (a 4) c s4) → va_S A s.heap H locs → lv_has ls 6 [(0, .ref (a 0 0)), (1, .ref (a2 0)), (2, .int x2), (3, .int x3), (4, .int x4), (5, .int x5)] → W p l e rmX8_fittingKinds s m args below meth cd H locs 0 0 Q (F0 m 17 ls [])) (x2 : Int32) (x3 : Int32) (x4 : Int32) (x5 : Int32) (s1 : Mem) (s4 : Mem) (H : Heap) (locs : List Loc) (ls : Array Slot), fX8_fittingKinds_b57 K17 s0 s2 s3 x2 x3 x4 x5 s1 s4 = some (r0, z1, z4) → va_P D vwCl (wX8 a c s0 ++ wX7 (a 5) c s1 ++ wX5 a2 c s2 ++ wX3 (a 3) c s3 ++ wX3 (a 4) c s4) H → va_D A (wX8 a c s0 ++ wX7 (a 5) c s1 ++ wX5 a2 c s2 ++ wX3 (a 3) c s3 ++ wX3 (a 4) c s4) → va_S A s.heap H locs → lv_has ls 6 [(0, .ref (a 0 0)), (1, .ref (a2 0)), (2, .int x2), (3, .int x3), (4, .int x4), (5, .int x5)] → W p l e rmX8_fittingKinds s m args below meth cd H locs 0 0 Q (F0 m 57 ls []) := by
    intro K17 K17h x2 x3 x4 x5 s1 s4 H locs ls h hP hD hS hl
    unfold fX8_fittingKinds_b57 at h
    obtain ⟨v5_57, ev5_57, h⟩ := lt_i h
    refine lv_iinc (v := v5_57) (lv' := [(5, .int v5_57), (0, .ref (a 0 0)), (1, .ref (a2 0)), (2, .int x2), (3, .int x3), (4, .int x4)]) (pc := 57) hx hb dX8_fittingKinds_57 hl (k := 5) rfl (by rw [ev5_57]; rfl) (by decide) rfl (fun ls hl => ?_)
    refine lv_goto (tgt := 17) (pc := 60) hx hb dX8_fittingKinds_60 (by decide) ?_
    have jr := K17h x2 x3 x4 v5_57 s1 s4 _ _ ls h hP hD hS (lv_sub hl [1, 2, 3, 4, 5, 0] rfl)
    exact jr
  have J17 : ∀ (n : Nat) (x2 : Int32) (x3 : Int32) (x4 : Int32) (x5 : Int32) (s1 : Mem) (s4 : Mem) (H : Heap) (locs : List Loc) (ls : Array Slot), fX8_fittingKinds_b17 s0 s2 s3 n x2 x3 x4 x5 s1 s4 = some (r0, z1, z4) → va_P D vwCl (wX8 a c s0 ++ wX7 (a 5) c s1 ++ wX5 a2 c s2 ++ wX3 (a 3) c s3 ++ wX3 (a 4) c s4) H → va_D A (wX8 a c s0 ++ wX7 (a 5) c s1 ++ wX5 a2 c s2 ++ wX3 (a 3) c s3 ++ wX3 (a 4) c s4) → va_S A s.heap H locs → lv_has ls 6 [(0, .ref (a 0 0)), (1, .ref (a2 0)), (2, .int x2), (3, .int x3), (4, .int x4), (5, .int x5)] → W p l e rmX8_fittingKinds s m args below meth cd H locs 0 0 Q (F0 m 17 ls []) := by
    intro n
    induction n with
    | zero =>
      intro x2 x3 x4 x5 s1 s4 H locs ls h _ _ _ _
      cases (show (none : Option (Int32 × Mem × Mem)) = some _ from h)
    | succ n K17h =>
      intro x2 x3 x4 x5 s1 s4 H locs ls h hP hD hS hl
      rw [fX8_fittingKinds_b17] at h
      refine lv_iload (pc := 17) hx hb dX8_fittingKinds_17 (lv_at hl 5 rfl) ?_
      refine lv_bipush (v := 6) (pc := 19) hx hb dX8_fittingKinds_19 (by decide) ?_
      refine lv_icmp_ge (tgt := 63) (pc := 21) hx hb dX8_fittingKinds_21 (by decide) (fun c21 => ?_) (fun c21 => ?_)
      · replace h := it_t c21 h
        refine lv_iload (pc := 63) hx hb dX8_fittingKinds_63 (lv_at hl 4 rfl) ?_
        have kr := KR x4 s1 s4 _ _ 65 ls h rfl hP hD hS dX8_fittingKinds_65
        exact kr
      · replace h := it_f c21 h
        refine lv_aload_n (pc := 24) hx hb dX8_fittingKinds_24 rfl (lv_at hl 0 rfl) ?_
        refine va_get (D := D) (ci := 8) (v := .ref ((a 4) 0)) (C := RX8) (T := TX8) (N := 12) (pc := 25) hx hb hfX8 (fun _ h9 => h9) hown hK hP 0 rfl rfl 3 (by decide) lk0 (fun _ h9 => h9) rfl dX8_fittingKinds_25 ?_
        refine lv_iload_n (pc := 28) hx hb dX8_fittingKinds_28 rfl (lv_at hl 3 rfl) ?_
        refine lv_iload (pc := 29) hx hb dX8_fittingKinds_29 (lv_at hl 5 rfl) ?_
        obtain ⟨t0_31, hc31, h⟩ := b1_i h
        have hPc := g_cutP (w0 := wX3 (a 4) c s4) hP [14, 15, 16, 17, 18, 19, 20] rfl
        have hDc : va_D A (wX3 (a 4) c s4) := hD.sub [14, 15, 16, 17, 18, 19, 20] (by decide) rfl
        have hFc := va_free (wc := wX3 (a 4) c s4) hD hS hA [14, 15, 16, 17, 18, 19, 20] rfl
        refine g_sub (st1 := []) (wr := wX8 a c s0 ++ wX7 (a 5) c s1 ++ wX5 a2 c s2 ++ wX3 (a 3) c s3) (wn := wX8 a c s0 ++ wX7 (a 5) c s1 ++ wX5 a2 c s2 ++ wX3 (a 3) c s3 ++ wX3 (a 4) c t0_31) (gr_V (n := 2) (rest := []) (pc := 31) hx hb hml hown hts (cX3_setKind_met l D c tb sa sv (a 4) x3 x5 s4 _ hc31) gX8_fittingKinds_X3_setKind rfl rfl rfl (by decide +kernel) rfl ⟨Nat.le_of_ble_eq_true rfl, Nat.le_of_ble_eq_true rfl⟩ ⟨Nat.zero_le _, Nat.zero_le _⟩ 0 3 rfl rfl rfl xE_ok hPc hDc hK (xE_ok.tr hE hS hFc) hl.1 (Nat.le_of_ble_eq_true rfl) dX8_fittingKinds_31 rfl) hP hD hS hA [14, 15, 16, 17, 18, 19, 20] [0, 1, 2, 3, 4, 5, 6, 7, 8, 9, 10, 11, 12, 13] [0, 1, 2, 3, 4, 5, 6, 7, 8, 9, 10, 11, 12, 13, 14, 15, 16, 17, 18, 19, 20] rfl rfl (by decide) (by decide) (by decide) rfl rfl (fun H locs hP hD hS => ?_)
        refine lv_aload_n (pc := 34) hx hb dX8_fittingKinds_34 rfl (lv_at hl 0 rfl) ?_
        refine lv_aload_n (pc := 35) hx hb dX8_fittingKinds_35 rfl (lv_at hl 1 rfl) ?_
        refine lv_aload_n (pc := 36) hx hb dX8_fittingKinds_36 rfl (lv_at hl 0 rfl) ?_
        refine va_get (D := D) (ci := 8) (v := .ref ((a 4) 0)) (C := RX8) (T := TX8) (N := 12) (pc := 37) hx hb hfX8 (fun _ h9 => h9) hown hK hP 0 rfl rfl 3 (by decide) lk0 (fun _ h9 => h9) rfl dX8_fittingKinds_37 ?_
        refine lv_iload_n (pc := 40) hx hb dX8_fittingKinds_40 rfl (lv_at hl 2 rfl) ?_
        obtain ⟨r41, t1_41, t3_41, hc41, h⟩ := b3_i h
        have hPc := g_cutP (w0 := wX8 a c s0 ++ wX7 (a 5) c s1 ++ wX5 a2 c s2 ++ wX3 (a 4) c t0_31) hP [0, 1, 2, 3, 4, 5, 6, 14, 15, 16, 17, 18, 19, 20] rfl
        have hDc : va_D A (wX8 a c s0 ++ wX7 (a 5) c s1 ++ wX5 a2 c s2 ++ wX3 (a 4) c t0_31) := hD.sub [0, 1, 2, 3, 4, 5, 6, 14, 15, 16, 17, 18, 19, 20] (by decide) rfl
        have hFc := va_free (wc := wX8 a c s0 ++ wX7 (a 5) c s1 ++ wX5 a2 c s2 ++ wX3 (a 4) c t0_31) hD hS hA [0, 1, 2, 3, 4, 5, 6, 14, 15, 16, 17, 18, 19, 20] rfl
        refine g_sub (st1 := [.int r41]) (wr := wX3 (a 3) c s3) (wn := wX8 a c s0 ++ wX7 (a 5) c t1_41 ++ wX5 a2 c s2 ++ wX3 (a 3) c s3 ++ wX3 (a 4) c t3_41) (gr_V (n := 3) (rest := []) (pc := 41) hx hb hml hown hts (cX8_firstUnlike_met l D c tb sa sv a a2 (a 4) x2 s0 s1 s2 t0_31 _ _ _ hc41) gX8_fittingKinds_X8_firstUnlike rfl rfl rfl (by decide +kernel) rfl ⟨Nat.le_of_ble_eq_true rfl, Nat.le_of_ble_eq_true rfl⟩ ⟨Nat.zero_le _, Nat.zero_le _⟩ 0 8 rfl rfl rfl xE_ok hPc hDc hK (xE_ok.tr hE hS hFc) hl.1 (Nat.le_of_ble_eq_true rfl) dX8_fittingKinds_41 rfl) hP hD hS hA [0, 1, 2, 3, 4, 5, 6, 14, 15, 16, 17, 18, 19, 20] [7, 8, 9, 10, 11, 12, 13] [7, 8, 9, 10, 11, 12, 13, 0, 1, 2, 3, 4, 5, 6, 14, 15, 16, 17, 18, 19, 20] rfl rfl (by decide) (by decide) (by decide) rfl rfl (fun H locs hP hD hS => ?_)
        refine lv_iconst (v := -1) (pc := 44) hx hb dX8_fittingKinds_44 (by decide) ?_
        refine lv_icmp_ne (tgt := 57) (pc := 45) hx hb dX8_fittingKinds_45 (by decide) (fun c45 => ?_) (fun c45 => ?_)
        · replace h := it_f c45 h
          have jr := J57 (fX8_fittingKinds_b17 s0 s2 s3 n) K17h x2 x3 x4 x5 t1_41 t3_41 _ _ ls h hP hD hS hl
          exact jr
        · replace h := it_t c45 h
          refine lv_iload (pc := 48) hx hb dX8_fittingKinds_48 (lv_at hl 4 rfl) ?_
          refine lv_iconst (v := 1) (pc := 50) hx hb dX8_fittingKinds_50 (by decide) ?_
          refine lv_iload (pc := 51) hx hb dX8_fittingKinds_51 (lv_at hl 5 rfl) ?_
          refine lv_ishl (pc := 53) hx hb dX8_fittingKinds_53 ?_
          refine lv_ior (pc := 54) hx hb dX8_fittingKinds_54 ?_
          refine lv_topi (fun v4_55 ev4_55 => ?_)
          replace h := lt_e ev4_55 h
          refine lv_istore (lv' := [(4, .int v4_55), (0, .ref (a 0 0)), (1, .ref (a2 0)), (2, .int x2), (3, .int x3), (5, .int x5)]) (pc := 55) hx hb dX8_fittingKinds_55 hl (by decide) rfl (fun ls hl => ?_)
          have jr := J57 (fX8_fittingKinds_b17 s0 s2 s3 n) K17h x2 x3 v4_55 x5 t1_41 t3_41 _ _ ls h hP hD hS (lv_sub hl [1, 2, 3, 4, 0, 5] rfl)
          exact jr
  refine lv_iconst (v := 0) (pc := 0) hx hb dX8_fittingKinds_0 (by decide) ?_
  refine lv_istore (lv' := [(4, .int (0 : Int32)), (0, .ref (a 0 0)), (1, .ref (a2 0)), (2, .int p1), (3, .int p2)]) (pc := 1) hx hb dX8_fittingKinds_1 hl (by decide) rfl (fun ls hl => ?_)
  refine lv_aload_n (pc := 3) hx hb dX8_fittingKinds_3 rfl (lv_at hl 1 rfl) ?_
  refine va_get (D := D) (ci := 8) (v := .ref ((a 4) 0)) (C := RX8) (T := TX8) (N := 12) (pc := 4) hx hb hfX8 (fun _ h9 => h9) hown hK hP 0 rfl rfl 3 (by decide) lk0 (fun _ h9 => h9) rfl dX8_fittingKinds_4 ?_
  refine lv_aload_n (pc := 7) hx hb dX8_fittingKinds_7 rfl (lv_at hl 1 rfl) ?_
  refine va_get (D := D) (ci := 8) (v := .ref ((a 3) 0)) (C := RX8) (T := TX8) (N := 12) (pc := 8) hx hb hfX8 (fun _ h9 => h9) hown hK hP 0 rfl rfl 2 (by decide) lk1 (fun _ h9 => h9) rfl dX8_fittingKinds_8 ?_
  obtain ⟨t0_11, hc11, h⟩ := b1_i h
  have hPc := g_cutP (w0 := wX3 (a 4) c s4 ++ wX3 (a 3) c s3) hP [14, 15, 16, 17, 18, 19, 20, 7, 8, 9, 10, 11, 12, 13] rfl
  have hDc : va_D A (wX3 (a 4) c s4 ++ wX3 (a 3) c s3) := hD.sub [14, 15, 16, 17, 18, 19, 20, 7, 8, 9, 10, 11, 12, 13] (by decide) rfl
  have hFc := va_free (wc := wX3 (a 4) c s4 ++ wX3 (a 3) c s3) hD hS hA [14, 15, 16, 17, 18, 19, 20, 7, 8, 9, 10, 11, 12, 13] rfl
  refine g_sub (st1 := []) (wr := wX8 a c s0 ++ wX7 (a 5) c s1 ++ wX5 a2 c s2) (wn := wX8 a c s0 ++ wX7 (a 5) c s1 ++ wX5 a2 c s2 ++ wX3 (a 3) c s3 ++ wX3 (a 4) c t0_11) (gr_V (n := 1) (rest := []) (pc := 11) hx hb hml hown hts (cX3_become_met l D c tb sa sv (a 4) (a 3) s4 s3 _ hc11) gX8_fittingKinds_X3_become rfl rfl rfl (by decide +kernel) rfl ⟨Nat.le_of_ble_eq_true rfl, Nat.le_of_ble_eq_true rfl⟩ ⟨Nat.zero_le _, Nat.zero_le _⟩ 0 3 rfl rfl rfl xE_ok hPc hDc hK (xE_ok.tr hE hS hFc) hl.1 (Nat.le_of_ble_eq_true rfl) dX8_fittingKinds_11 rfl) hP hD hS hA [14, 15, 16, 17, 18, 19, 20, 7, 8, 9, 10, 11, 12, 13] [0, 1, 2, 3, 4, 5, 6] [0, 1, 2, 3, 4, 5, 6, 14, 15, 16, 17, 18, 19, 20, 7, 8, 9, 10, 11, 12, 13] rfl rfl (by decide) (by decide) (by decide) rfl rfl (fun H locs hP hD hS => ?_)
  refine lv_iconst (v := 0) (pc := 14) hx hb dX8_fittingKinds_14 (by decide) ?_
  refine lv_istore (lv' := [(5, .int (0 : Int32)), (4, .int (0 : Int32)), (0, .ref (a 0 0)), (1, .ref (a2 0)), (2, .int p1), (3, .int p2)]) (pc := 15) hx hb dX8_fittingKinds_15 hl (by decide) rfl (fun ls hl => ?_)
  have jr := J17 FU p1 p2 (0 : Int32) (0 : Int32) s1 t0_11 _ _ ls h hP hD hS (lv_sub hl [2, 3, 4, 5, 1, 0] rfl)
  exact jr
abbrev rmX8_told : Room := { frames := 5, cells := 0, slots := 0, locals := 125 }
set_option maxRecDepth 100000 in
set_option maxHeartbeats 40000000 in
theorem cX8_told_met (l : Launch) (D : va_G) (c : Nat → ClassId) (tb : Nat) (sa sv : Nat → Nat) (a : Nat → Nat → Nat) (p0 : Int32) (p1 : Int32) (p2 : Int32) (p3 : Int32) (X : XS) (r0 : Int32) (z0 : XS) (h : fX8_told p0 p1 p2 p3 X = some (r0, z0)) : gM l yX8_told wsX8_told rmX8_told D (gY c) (xE tb sa sv) [.ref (a 0 0), .int p0, .int p1, .int p2, .int p3] (wX a c X) (some (.int r0)) (wX a c z0) := by
  unfold fX8_told at h
  refine gM.I (cc := cX8_told) (maxL := 6) (by decide) rfl (Nat.le_of_ble_eq_true rfl) ?_
  intro p e s m args below meth cd hx hb hml hown hts A hA ls hl hP hK hD hS hE Q KR0
  have hfX8 : ∀ w ∈ u_ws RX8 TX8 12, w.before args s = true := fun w hw => hts w (List.mem_cons_of_mem _ (List.mem_append_left _ (List.mem_append_left _ (List.mem_append_left _ (List.mem_append_right _ hw)))))
  have lk0 := hts (.fieldLink RX8 26 "GlitchNets" "net" "LGlitchNets$Net;") (List.mem_of_getElem? (i := 1) rfl)
  have lk1 := hts (.fieldLink RX8 69 "GlitchNets" "sheets" "[LGlitchNets$Sheet;") (List.mem_of_getElem? (i := 2) rfl)
  have hP := XP_iff.mp hP
  have hD := XD_of hD
  have KR : ∀ (v : Int32) (w0 : XS) (H : Heap) (locs : List Loc) (pc : Nat) (ls : Array Slot), some (v, w0) = some (r0, z0) → narrow .int (.int v) = .int v → XP D a c w0 H → va_S A s.heap H locs → decode cX8_told pc = .ok (.ireturn, 1) → W p l e rmX8_told s m args below meth cd H locs 0 0 Q (F0 m pc ls [.int v]) := by
    intro v w0 H locs pc ls hr hn hP hS hd
    cases hr
    exact KR0 _ H locs pc ls rfl hn (XP_iff.mpr hP) (hD.all c _) hS hd
  have hl : lv_has ls 6 [(0, .ref (a 0 0)), (1, .int p0), (2, .int p1), (3, .int p2), (4, .int p3)] := hl
  have J43 : ∀ (x1 : Int32) (x2 : Int32) (x3 : Int32) (x4 : Int32) (X : XS) (H : Heap) (locs : List Loc) (ls : Array Slot), fX8_told_b43 x1 x2 x3 x4 X = some (r0, z0) → XP D a c X H → va_S A s.heap H locs → lv_has ls 6 [(0, .ref (a 0 0)), (1, .int x1), (2, .int x2), (3, .int x3), (4, .int x4)] → W p l e rmX8_told s m args below meth cd H locs 0 0 Q (F0 m 43 ls []) := by
    intro x1 x2 x3 x4 X H locs ls h hP hS hl
    unfold fX8_told_b43 at h
    refine lv_aload_n (pc := 43) hx hb dX8_told_43 rfl (lv_at hl 0 rfl) ?_
    refine va_get (D := D) (ci := 8) (v := .ref ((a 3) 0)) (C := RX8) (T := TX8) (N := 12) (pc := 44) hx hb hfX8 (fun _ h9 => h9) hown hK (show va_P D vwCl (wX8 a c (X 0)) _ from hP 0 (by decide)) 0 rfl rfl 2 (by decide) lk0 (fun _ h9 => h9) rfl dX8_told_44 ?_
    obtain ⟨r47, hc47, h⟩ := b1_i h
    have hw : (wX3 (a 3) c (X 3)).map (·.1) = [3].flatMap (uA a) := rfl
    have hPc : va_P D vwCl (wX3 (a 3) c (X 3)) _ := hP 3 (by decide)
    have hDc : va_D A (wX3 (a 3) c (X 3)) := hD.of_addr (by decide) (by decide) hw
    refine g_X (X' := X) (st1 := [.int r47]) (gr_V (n := 0) (rest := []) (pc := 47) hx hb hml hown hts (cX3_isEmpty_met l D c tb sa sv (a 3) (X 3) _ hc47) gX8_told_X3_isEmpty rfl rfl rfl (by decide +kernel) rfl ⟨Nat.le_of_ble_eq_true rfl, Nat.le_of_ble_eq_true rfl⟩ ⟨Nat.zero_le _, Nat.zero_le _⟩ 0 3 rfl rfl rfl xE_ok hPc hDc hK (xE_ok.tr hE hS (g_freeX hD hS hA (by decide) (addr0 hw))) hl.1 (Nat.le_of_ble_eq_true rfl) dX8_told_47 rfl) hP hD hS hA (ks := [3]) (by decide) (addr0 hw) (fun k9 _ hk9 => rfl) (fun H1 hw1 => (List.forall_mem_cons.mpr ⟨hw1, (fun _ h9 => absurd h9 List.not_mem_nil)⟩)) rfl (fun H locs hP hS => ?_)
    refine lv_if_eq (tgt := 56) (pc := 50) hx hb dX8_told_50 (by decide) (fun c50 => ?_) (fun c50 => ?_)
    · replace h := it_t c50 h
      refine lv_aload_n (pc := 56) hx hb dX8_told_56 rfl (lv_at hl 0 rfl) ?_
      refine va_get (D := D) (ci := 8) (v := .ref (a 0 1)) (C := RX8) (T := TX8) (N := 12) (pc := 57) hx hb hfX8 (fun _ h9 => h9) hown hK (show va_P D vwCl (wX8 a c (X 0)) _ from hP 0 (by decide)) 0 rfl rfl 11 (by decide) lk1 (fun _ h9 => h9) rfl dX8_told_57 ?_
      refine lv_iload_n (pc := 60) hx hb dX8_told_60 rfl (lv_at hl 1 rfl) ?_
      obtain ⟨hk61, h⟩ := ckI_i h
      obtain ⟨k61, ek61, h⟩ := lt_i h
      rcases g_four (by rw [ek61]; exact g_inlt hk61 : k61 < 4) with rfl | rfl | rfl | rfl
      · refine g_aald (v := a 11 0) (pc := 61) hx hb hK (show va_P D vwCl (wX8 a c (X 0)) _ from hP 0 (by decide)) 1 3 rfl rfl hk61 ek61 rfl dX8_told_61 ?_
        refine lv_astore (lv' := [(5, .ref ((a 11) 0)), (0, .ref (a 0 0)), (1, .int x1), (2, .int x2), (3, .int x3), (4, .int x4)]) (pc := 62) hx hb dX8_told_62 hl (by decide) rfl (fun ls hl => ?_)
        refine lv_aload (pc := 64) hx hb dX8_told_64 (lv_at hl 0 rfl) ?_
        obtain ⟨r66, hc66, h⟩ := b1_i h
        have hw : (wX5 (a 11) c (X (11 + 0))).map (·.1) = [11].flatMap (uA a) := rfl
        have hPc : va_P D vwCl (wX5 (a 11) c (X (11 + 0))) _ := hP 11 (by decide)
        have hDc : va_D A (wX5 (a 11) c (X (11 + 0))) := hD.of_addr (by decide) (by decide) hw
        refine g_X (X' := X) (st1 := [.int r66]) (gr_V (n := 0) (rest := []) (pc := 66) hx hb hml hown hts (cX5_isMissing_met l D c tb sa sv (a 11) (X (11 + 0)) _ hc66) gX8_told_X5_isMissing rfl rfl rfl (by decide +kernel) rfl ⟨Nat.le_of_ble_eq_true rfl, Nat.le_of_ble_eq_true rfl⟩ ⟨Nat.zero_le _, Nat.zero_le _⟩ 0 5 rfl rfl rfl xE_ok hPc hDc hK (xE_ok.tr hE hS (g_freeX hD hS hA (by decide) (addr0 hw))) hl.1 (Nat.le_of_ble_eq_true rfl) dX8_told_66 rfl) hP hD hS hA (ks := [11]) (by decide) (addr0 hw) (fun k9 _ hk9 => rfl) (fun H1 hw1 => (List.forall_mem_cons.mpr ⟨hw1, (fun _ h9 => absurd h9 List.not_mem_nil)⟩)) rfl (fun H locs hP hS => ?_)
        refine lv_if_eq (tgt := 75) (pc := 69) hx hb dX8_told_69 (by decide) (fun c69 => ?_) (fun c69 => ?_)
        · replace h := it_t c69 h
          refine lv_iload (pc := 75) hx hb dX8_told_75 (lv_at hl 5 rfl) ?_
          by_cases c77_0 : x4 = (0 : Int32)
          · replace h := it_t c77_0 h
            refine lv_lookup (tgt := 104) (off := 27) (pc := 77) hx hb dX8_told_77 (by decide) (by rw [c77_0]; rfl) (by decide) ?_
            refine lv_aload_n (pc := 104) hx hb dX8_told_104 rfl (lv_at hl 1 rfl) ?_
            refine lv_aload (pc := 105) hx hb dX8_told_105 (lv_at hl 0 rfl) ?_
            refine lv_aload_n (pc := 107) hx hb dX8_told_107 rfl (lv_at hl 1 rfl) ?_
            refine va_get (D := D) (ci := 8) (v := .ref ((a 3) 0)) (C := RX8) (T := TX8) (N := 12) (pc := 108) hx hb hfX8 (fun _ h9 => h9) hown hK (show va_P D vwCl (wX8 a c (X 0)) _ from hP 0 (by decide)) 0 rfl rfl 2 (by decide) lk0 (fun _ h9 => h9) rfl dX8_told_108 ?_
            refine lv_iload_n (pc := 111) hx hb dX8_told_111 rfl (lv_at hl 3 rfl) ?_
            obtain ⟨r112, t1_112, t3_112, hc112, h⟩ := b3_i h
            have hw : (wX8 a c (X 0) ++ wX7 (a 5) c (X 5) ++ wX5 (a 11) c (X (11 + 0)) ++ wX3 (a 3) c (X 3)).map (·.1) = [0, 5, 11, 3].flatMap (uA a) := rfl
            have hPc : va_P D vwCl (wX8 a c (X 0) ++ wX7 (a 5) c (X 5) ++ wX5 (a 11) c (X (11 + 0)) ++ wX3 (a 3) c (X 3)) _ := (((hP 0 (by decide)).app (hP 5 (by decide))).app (hP 11 (by decide))).app (hP 3 (by decide))
            have hDc : va_D A (wX8 a c (X 0) ++ wX7 (a 5) c (X 5) ++ wX5 (a 11) c (X (11 + 0)) ++ wX3 (a 3) c (X 3)) := hD.of_addr (by decide) (by decide) hw
            refine g_X (X' := (xs (xs X 5 t1_112) 3 t3_112)) (st1 := [.int r112]) (gr_V (n := 3) (rest := []) (pc := 112) hx hb hml hown hts (cX8_firstUnlike_met l D c tb sa sv a (a 11) (a 3) x2 (X 0) (X 5) (X (11 + 0)) (X 3) _ _ _ hc112) gX8_told_X8_firstUnlike rfl rfl rfl (by decide +kernel) rfl ⟨Nat.le_of_ble_eq_true rfl, Nat.le_of_ble_eq_true rfl⟩ ⟨Nat.zero_le _, Nat.zero_le _⟩ 0 8 rfl rfl rfl xE_ok hPc hDc hK (xE_ok.tr hE hS (g_freeX hD hS hA (by decide) (addr0 hw))) hl.1 (Nat.le_of_ble_eq_true rfl) dX8_told_112 rfl) hP hD hS hA (ks := [0, 5, 11, 3]) (by decide) (addr0 hw) (fun k9 _ hk9 => ((xs_o hk9 (j := 3) (by decide))).trans (xs_o hk9 (j := 5) (by decide))) (fun H1 hw1 => (List.forall_mem_cons.mpr ⟨(vP_l (vP_l (vP_l hw1))), (List.forall_mem_cons.mpr ⟨(vP_r (vP_l (vP_l hw1))), (List.forall_mem_cons.mpr ⟨(vP_r (vP_l hw1)), (List.forall_mem_cons.mpr ⟨(vP_r hw1), (fun _ h9 => absurd h9 List.not_mem_nil)⟩)⟩)⟩)⟩)) rfl (fun H locs hP hS => ?_)
            have kr := KR r112 (xs (xs X 5 t1_112) 3 t3_112) _ _ 115 ls h rfl hP hS dX8_told_115
            exact kr
          · replace h := it_f c77_0 h
            by_cases c77_1 : x4 = (1 : Int32)
            · replace h := it_t c77_1 h
              refine lv_lookup (tgt := 116) (off := 39) (pc := 77) hx hb dX8_told_77 (by decide) (by rw [c77_1]; rfl) (by decide) ?_
              refine lv_aload_n (pc := 116) hx hb dX8_told_116 rfl (lv_at hl 1 rfl) ?_
              refine lv_aload (pc := 117) hx hb dX8_told_117 (lv_at hl 0 rfl) ?_
              refine lv_iload_n (pc := 119) hx hb dX8_told_119 rfl (lv_at hl 3 rfl) ?_
              refine lv_iload_n (pc := 120) hx hb dX8_told_120 rfl (lv_at hl 4 rfl) ?_
              obtain ⟨r121, t1_121, t4_121, hc121, h⟩ := b3_i h
              have hw : (wX8 a c (X 0) ++ wX7 (a 5) c (X 5) ++ wX5 (a 11) c (X (11 + 0)) ++ wX3 (a 3) c (X 3) ++ wX3 (a 4) c (X 4)).map (·.1) = [0, 5, 11, 3, 4].flatMap (uA a) := rfl
              have hPc : va_P D vwCl (wX8 a c (X 0) ++ wX7 (a 5) c (X 5) ++ wX5 (a 11) c (X (11 + 0)) ++ wX3 (a 3) c (X 3) ++ wX3 (a 4) c (X 4)) _ := ((((hP 0 (by decide)).app (hP 5 (by decide))).app (hP 11 (by decide))).app (hP 3 (by decide))).app (hP 4 (by decide))
              have hDc : va_D A (wX8 a c (X 0) ++ wX7 (a 5) c (X 5) ++ wX5 (a 11) c (X (11 + 0)) ++ wX3 (a 3) c (X 3) ++ wX3 (a 4) c (X 4)) := hD.of_addr (by decide) (by decide) hw
              refine g_X (X' := (xs (xs X 5 t1_121) 4 t4_121)) (st1 := [.int r121]) (gr_V (n := 3) (rest := []) (pc := 121) hx hb hml hown hts (cX8_fittingDelays_met l D c tb sa sv a (a 11) x2 x3 (X 0) (X 5) (X (11 + 0)) (X 3) (X 4) _ _ _ hc121) gX8_told_X8_fittingDelays rfl rfl rfl (by decide +kernel) rfl ⟨Nat.le_of_ble_eq_true rfl, Nat.le_of_ble_eq_true rfl⟩ ⟨Nat.zero_le _, Nat.zero_le _⟩ 0 8 rfl rfl rfl xE_ok hPc hDc hK (xE_ok.tr hE hS (g_freeX hD hS hA (by decide) (addr0 hw))) hl.1 (Nat.le_of_ble_eq_true rfl) dX8_told_121 rfl) hP hD hS hA (ks := [0, 5, 11, 3, 4]) (by decide) (addr0 hw) (fun k9 _ hk9 => ((xs_o hk9 (j := 4) (by decide))).trans (xs_o hk9 (j := 5) (by decide))) (fun H1 hw1 => (List.forall_mem_cons.mpr ⟨(vP_l (vP_l (vP_l (vP_l hw1)))), (List.forall_mem_cons.mpr ⟨(vP_r (vP_l (vP_l (vP_l hw1)))), (List.forall_mem_cons.mpr ⟨(vP_r (vP_l (vP_l hw1))), (List.forall_mem_cons.mpr ⟨(vP_r (vP_l hw1)), (List.forall_mem_cons.mpr ⟨(vP_r hw1), (fun _ h9 => absurd h9 List.not_mem_nil)⟩)⟩)⟩)⟩)⟩)) rfl (fun H locs hP hS => ?_)
              have kr := KR r121 (xs (xs X 5 t1_121) 4 t4_121) _ _ 124 ls h rfl hP hS dX8_told_124
              exact kr
            · replace h := it_f c77_1 h
              refine lv_lookup (tgt := 125) (off := 48) (pc := 77) hx hb dX8_told_77 (by decide) (by show Op.lookupswitch.offset [(0, 27), (1, 39)] _ _ = _; rw [lv_osw c77_0 (by decide), lv_osw c77_1 (by decide)]; rfl) (by decide) ?_
              refine lv_aload_n (pc := 125) hx hb dX8_told_125 rfl (lv_at hl 1 rfl) ?_
              refine lv_aload (pc := 126) hx hb dX8_told_126 (lv_at hl 0 rfl) ?_
              refine lv_iload_n (pc := 128) hx hb dX8_told_128 rfl (lv_at hl 3 rfl) ?_
              refine lv_iload_n (pc := 129) hx hb dX8_told_129 rfl (lv_at hl 4 rfl) ?_
              obtain ⟨r130, t1_130, t4_130, hc130, h⟩ := b3_i h
              have hw : (wX8 a c (X 0) ++ wX7 (a 5) c (X 5) ++ wX5 (a 11) c (X (11 + 0)) ++ wX3 (a 3) c (X 3) ++ wX3 (a 4) c (X 4)).map (·.1) = [0, 5, 11, 3, 4].flatMap (uA a) := rfl
              have hPc : va_P D vwCl (wX8 a c (X 0) ++ wX7 (a 5) c (X 5) ++ wX5 (a 11) c (X (11 + 0)) ++ wX3 (a 3) c (X 3) ++ wX3 (a 4) c (X 4)) _ := ((((hP 0 (by decide)).app (hP 5 (by decide))).app (hP 11 (by decide))).app (hP 3 (by decide))).app (hP 4 (by decide))
              have hDc : va_D A (wX8 a c (X 0) ++ wX7 (a 5) c (X 5) ++ wX5 (a 11) c (X (11 + 0)) ++ wX3 (a 3) c (X 3) ++ wX3 (a 4) c (X 4)) := hD.of_addr (by decide) (by decide) hw
              refine g_X (X' := (xs (xs X 5 t1_130) 4 t4_130)) (st1 := [.int r130]) (gr_V (n := 3) (rest := []) (pc := 130) hx hb hml hown hts (cX8_fittingKinds_met l D c tb sa sv a (a 11) x2 x3 (X 0) (X 5) (X (11 + 0)) (X 3) (X 4) _ _ _ hc130) gX8_told_X8_fittingKinds rfl rfl rfl (by decide +kernel) rfl ⟨Nat.le_of_ble_eq_true rfl, Nat.le_of_ble_eq_true rfl⟩ ⟨Nat.zero_le _, Nat.zero_le _⟩ 0 8 rfl rfl rfl xE_ok hPc hDc hK (xE_ok.tr hE hS (g_freeX hD hS hA (by decide) (addr0 hw))) hl.1 (Nat.le_of_ble_eq_true rfl) dX8_told_130 rfl) hP hD hS hA (ks := [0, 5, 11, 3, 4]) (by decide) (addr0 hw) (fun k9 _ hk9 => ((xs_o hk9 (j := 4) (by decide))).trans (xs_o hk9 (j := 5) (by decide))) (fun H1 hw1 => (List.forall_mem_cons.mpr ⟨(vP_l (vP_l (vP_l (vP_l hw1)))), (List.forall_mem_cons.mpr ⟨(vP_r (vP_l (vP_l (vP_l hw1)))), (List.forall_mem_cons.mpr ⟨(vP_r (vP_l (vP_l hw1))), (List.forall_mem_cons.mpr ⟨(vP_r (vP_l hw1)), (List.forall_mem_cons.mpr ⟨(vP_r hw1), (fun _ h9 => absurd h9 List.not_mem_nil)⟩)⟩)⟩)⟩)⟩)) rfl (fun H locs hP hS => ?_)
              have kr := KR r130 (xs (xs X 5 t1_130) 4 t4_130) _ _ 133 ls h rfl hP hS dX8_told_133
              exact kr
        · replace h := it_f c69 h
          refine lv_bipush (v := -11) (pc := 72) hx hb dX8_told_72 (by decide) ?_
          have kr := KR (-11 : Int32) X _ _ 74 ls h rfl hP hS dX8_told_74
          exact kr
      · refine g_aald (v := a 12 0) (pc := 61) hx hb hK (show va_P D vwCl (wX8 a c (X 0)) _ from hP 0 (by decide)) 1 3 rfl rfl hk61 ek61 rfl dX8_told_61 ?_
        refine lv_astore (lv' := [(5, .ref ((a 12) 0)), (0, .ref (a 0 0)), (1, .int x1), (2, .int x2), (3, .int x3), (4, .int x4)]) (pc := 62) hx hb dX8_told_62 hl (by decide) rfl (fun ls hl => ?_)
        refine lv_aload (pc := 64) hx hb dX8_told_64 (lv_at hl 0 rfl) ?_
        obtain ⟨r66, hc66, h⟩ := b1_i h
        have hw : (wX5 (a 12) c (X (11 + 1))).map (·.1) = [12].flatMap (uA a) := rfl
        have hPc : va_P D vwCl (wX5 (a 12) c (X (11 + 1))) _ := hP 12 (by decide)
        have hDc : va_D A (wX5 (a 12) c (X (11 + 1))) := hD.of_addr (by decide) (by decide) hw
        refine g_X (X' := X) (st1 := [.int r66]) (gr_V (n := 0) (rest := []) (pc := 66) hx hb hml hown hts (cX5_isMissing_met l D c tb sa sv (a 12) (X (11 + 1)) _ hc66) gX8_told_X5_isMissing rfl rfl rfl (by decide +kernel) rfl ⟨Nat.le_of_ble_eq_true rfl, Nat.le_of_ble_eq_true rfl⟩ ⟨Nat.zero_le _, Nat.zero_le _⟩ 0 5 rfl rfl rfl xE_ok hPc hDc hK (xE_ok.tr hE hS (g_freeX hD hS hA (by decide) (addr0 hw))) hl.1 (Nat.le_of_ble_eq_true rfl) dX8_told_66 rfl) hP hD hS hA (ks := [12]) (by decide) (addr0 hw) (fun k9 _ hk9 => rfl) (fun H1 hw1 => (List.forall_mem_cons.mpr ⟨hw1, (fun _ h9 => absurd h9 List.not_mem_nil)⟩)) rfl (fun H locs hP hS => ?_)
        refine lv_if_eq (tgt := 75) (pc := 69) hx hb dX8_told_69 (by decide) (fun c69 => ?_) (fun c69 => ?_)
        · replace h := it_t c69 h
          refine lv_iload (pc := 75) hx hb dX8_told_75 (lv_at hl 5 rfl) ?_
          by_cases c77_0 : x4 = (0 : Int32)
          · replace h := it_t c77_0 h
            refine lv_lookup (tgt := 104) (off := 27) (pc := 77) hx hb dX8_told_77 (by decide) (by rw [c77_0]; rfl) (by decide) ?_
            refine lv_aload_n (pc := 104) hx hb dX8_told_104 rfl (lv_at hl 1 rfl) ?_
            refine lv_aload (pc := 105) hx hb dX8_told_105 (lv_at hl 0 rfl) ?_
            refine lv_aload_n (pc := 107) hx hb dX8_told_107 rfl (lv_at hl 1 rfl) ?_
            refine va_get (D := D) (ci := 8) (v := .ref ((a 3) 0)) (C := RX8) (T := TX8) (N := 12) (pc := 108) hx hb hfX8 (fun _ h9 => h9) hown hK (show va_P D vwCl (wX8 a c (X 0)) _ from hP 0 (by decide)) 0 rfl rfl 2 (by decide) lk0 (fun _ h9 => h9) rfl dX8_told_108 ?_
            refine lv_iload_n (pc := 111) hx hb dX8_told_111 rfl (lv_at hl 3 rfl) ?_
            obtain ⟨r112, t1_112, t3_112, hc112, h⟩ := b3_i h
            have hw : (wX8 a c (X 0) ++ wX7 (a 5) c (X 5) ++ wX5 (a 12) c (X (11 + 1)) ++ wX3 (a 3) c (X 3)).map (·.1) = [0, 5, 12, 3].flatMap (uA a) := rfl
            have hPc : va_P D vwCl (wX8 a c (X 0) ++ wX7 (a 5) c (X 5) ++ wX5 (a 12) c (X (11 + 1)) ++ wX3 (a 3) c (X 3)) _ := (((hP 0 (by decide)).app (hP 5 (by decide))).app (hP 12 (by decide))).app (hP 3 (by decide))
            have hDc : va_D A (wX8 a c (X 0) ++ wX7 (a 5) c (X 5) ++ wX5 (a 12) c (X (11 + 1)) ++ wX3 (a 3) c (X 3)) := hD.of_addr (by decide) (by decide) hw
            refine g_X (X' := (xs (xs X 5 t1_112) 3 t3_112)) (st1 := [.int r112]) (gr_V (n := 3) (rest := []) (pc := 112) hx hb hml hown hts (cX8_firstUnlike_met l D c tb sa sv a (a 12) (a 3) x2 (X 0) (X 5) (X (11 + 1)) (X 3) _ _ _ hc112) gX8_told_X8_firstUnlike rfl rfl rfl (by decide +kernel) rfl ⟨Nat.le_of_ble_eq_true rfl, Nat.le_of_ble_eq_true rfl⟩ ⟨Nat.zero_le _, Nat.zero_le _⟩ 0 8 rfl rfl rfl xE_ok hPc hDc hK (xE_ok.tr hE hS (g_freeX hD hS hA (by decide) (addr0 hw))) hl.1 (Nat.le_of_ble_eq_true rfl) dX8_told_112 rfl) hP hD hS hA (ks := [0, 5, 12, 3]) (by decide) (addr0 hw) (fun k9 _ hk9 => ((xs_o hk9 (j := 3) (by decide))).trans (xs_o hk9 (j := 5) (by decide))) (fun H1 hw1 => (List.forall_mem_cons.mpr ⟨(vP_l (vP_l (vP_l hw1))), (List.forall_mem_cons.mpr ⟨(vP_r (vP_l (vP_l hw1))), (List.forall_mem_cons.mpr ⟨(vP_r (vP_l hw1)), (List.forall_mem_cons.mpr ⟨(vP_r hw1), (fun _ h9 => absurd h9 List.not_mem_nil)⟩)⟩)⟩)⟩)) rfl (fun H locs hP hS => ?_)
            have kr := KR r112 (xs (xs X 5 t1_112) 3 t3_112) _ _ 115 ls h rfl hP hS dX8_told_115
            exact kr
          · replace h := it_f c77_0 h
            by_cases c77_1 : x4 = (1 : Int32)
            · replace h := it_t c77_1 h
              refine lv_lookup (tgt := 116) (off := 39) (pc := 77) hx hb dX8_told_77 (by decide) (by rw [c77_1]; rfl) (by decide) ?_
              refine lv_aload_n (pc := 116) hx hb dX8_told_116 rfl (lv_at hl 1 rfl) ?_
              refine lv_aload (pc := 117) hx hb dX8_told_117 (lv_at hl 0 rfl) ?_
              refine lv_iload_n (pc := 119) hx hb dX8_told_119 rfl (lv_at hl 3 rfl) ?_
              refine lv_iload_n (pc := 120) hx hb dX8_told_120 rfl (lv_at hl 4 rfl) ?_
              obtain ⟨r121, t1_121, t4_121, hc121, h⟩ := b3_i h
              have hw : (wX8 a c (X 0) ++ wX7 (a 5) c (X 5) ++ wX5 (a 12) c (X (11 + 1)) ++ wX3 (a 3) c (X 3) ++ wX3 (a 4) c (X 4)).map (·.1) = [0, 5, 12, 3, 4].flatMap (uA a) := rfl
              have hPc : va_P D vwCl (wX8 a c (X 0) ++ wX7 (a 5) c (X 5) ++ wX5 (a 12) c (X (11 + 1)) ++ wX3 (a 3) c (X 3) ++ wX3 (a 4) c (X 4)) _ := ((((hP 0 (by decide)).app (hP 5 (by decide))).app (hP 12 (by decide))).app (hP 3 (by decide))).app (hP 4 (by decide))
              have hDc : va_D A (wX8 a c (X 0) ++ wX7 (a 5) c (X 5) ++ wX5 (a 12) c (X (11 + 1)) ++ wX3 (a 3) c (X 3) ++ wX3 (a 4) c (X 4)) := hD.of_addr (by decide) (by decide) hw
              refine g_X (X' := (xs (xs X 5 t1_121) 4 t4_121)) (st1 := [.int r121]) (gr_V (n := 3) (rest := []) (pc := 121) hx hb hml hown hts (cX8_fittingDelays_met l D c tb sa sv a (a 12) x2 x3 (X 0) (X 5) (X (11 + 1)) (X 3) (X 4) _ _ _ hc121) gX8_told_X8_fittingDelays rfl rfl rfl (by decide +kernel) rfl ⟨Nat.le_of_ble_eq_true rfl, Nat.le_of_ble_eq_true rfl⟩ ⟨Nat.zero_le _, Nat.zero_le _⟩ 0 8 rfl rfl rfl xE_ok hPc hDc hK (xE_ok.tr hE hS (g_freeX hD hS hA (by decide) (addr0 hw))) hl.1 (Nat.le_of_ble_eq_true rfl) dX8_told_121 rfl) hP hD hS hA (ks := [0, 5, 12, 3, 4]) (by decide) (addr0 hw) (fun k9 _ hk9 => ((xs_o hk9 (j := 4) (by decide))).trans (xs_o hk9 (j := 5) (by decide))) (fun H1 hw1 => (List.forall_mem_cons.mpr ⟨(vP_l (vP_l (vP_l (vP_l hw1)))), (List.forall_mem_cons.mpr ⟨(vP_r (vP_l (vP_l (vP_l hw1)))), (List.forall_mem_cons.mpr ⟨(vP_r (vP_l (vP_l hw1))), (List.forall_mem_cons.mpr ⟨(vP_r (vP_l hw1)), (List.forall_mem_cons.mpr ⟨(vP_r hw1), (fun _ h9 => absurd h9 List.not_mem_nil)⟩)⟩)⟩)⟩)⟩)) rfl (fun H locs hP hS => ?_)
              have kr := KR r121 (xs (xs X 5 t1_121) 4 t4_121) _ _ 124 ls h rfl hP hS dX8_told_124
              exact kr
            · replace h := it_f c77_1 h
              refine lv_lookup (tgt := 125) (off := 48) (pc := 77) hx hb dX8_told_77 (by decide) (by show Op.lookupswitch.offset [(0, 27), (1, 39)] _ _ = _; rw [lv_osw c77_0 (by decide), lv_osw c77_1 (by decide)]; rfl) (by decide) ?_
              refine lv_aload_n (pc := 125) hx hb dX8_told_125 rfl (lv_at hl 1 rfl) ?_
              refine lv_aload (pc := 126) hx hb dX8_told_126 (lv_at hl 0 rfl) ?_
              refine lv_iload_n (pc := 128) hx hb dX8_told_128 rfl (lv_at hl 3 rfl) ?_
              refine lv_iload_n (pc := 129) hx hb dX8_told_129 rfl (lv_at hl 4 rfl) ?_
              obtain ⟨r130, t1_130, t4_130, hc130, h⟩ := b3_i h
              have hw : (wX8 a c (X 0) ++ wX7 (a 5) c (X 5) ++ wX5 (a 12) c (X (11 + 1)) ++ wX3 (a 3) c (X 3) ++ wX3 (a 4) c (X 4)).map (·.1) = [0, 5, 12, 3, 4].flatMap (uA a) := rfl
              have hPc : va_P D vwCl (wX8 a c (X 0) ++ wX7 (a 5) c (X 5) ++ wX5 (a 12) c (X (11 + 1)) ++ wX3 (a 3) c (X 3) ++ wX3 (a 4) c (X 4)) _ := ((((hP 0 (by decide)).app (hP 5 (by decide))).app (hP 12 (by decide))).app (hP 3 (by decide))).app (hP 4 (by decide))
              have hDc : va_D A (wX8 a c (X 0) ++ wX7 (a 5) c (X 5) ++ wX5 (a 12) c (X (11 + 1)) ++ wX3 (a 3) c (X 3) ++ wX3 (a 4) c (X 4)) := hD.of_addr (by decide) (by decide) hw
              refine g_X (X' := (xs (xs X 5 t1_130) 4 t4_130)) (st1 := [.int r130]) (gr_V (n := 3) (rest := []) (pc := 130) hx hb hml hown hts (cX8_fittingKinds_met l D c tb sa sv a (a 12) x2 x3 (X 0) (X 5) (X (11 + 1)) (X 3) (X 4) _ _ _ hc130) gX8_told_X8_fittingKinds rfl rfl rfl (by decide +kernel) rfl ⟨Nat.le_of_ble_eq_true rfl, Nat.le_of_ble_eq_true rfl⟩ ⟨Nat.zero_le _, Nat.zero_le _⟩ 0 8 rfl rfl rfl xE_ok hPc hDc hK (xE_ok.tr hE hS (g_freeX hD hS hA (by decide) (addr0 hw))) hl.1 (Nat.le_of_ble_eq_true rfl) dX8_told_130 rfl) hP hD hS hA (ks := [0, 5, 12, 3, 4]) (by decide) (addr0 hw) (fun k9 _ hk9 => ((xs_o hk9 (j := 4) (by decide))).trans (xs_o hk9 (j := 5) (by decide))) (fun H1 hw1 => (List.forall_mem_cons.mpr ⟨(vP_l (vP_l (vP_l (vP_l hw1)))), (List.forall_mem_cons.mpr ⟨(vP_r (vP_l (vP_l (vP_l hw1)))), (List.forall_mem_cons.mpr ⟨(vP_r (vP_l (vP_l hw1))), (List.forall_mem_cons.mpr ⟨(vP_r (vP_l hw1)), (List.forall_mem_cons.mpr ⟨(vP_r hw1), (fun _ h9 => absurd h9 List.not_mem_nil)⟩)⟩)⟩)⟩)⟩)) rfl (fun H locs hP hS => ?_)
              have kr := KR r130 (xs (xs X 5 t1_130) 4 t4_130) _ _ 133 ls h rfl hP hS dX8_told_133
              exact kr
        · replace h := it_f c69 h
          refine lv_bipush (v := -11) (pc := 72) hx hb dX8_told_72 (by decide) ?_
          have kr := KR (-11 : Int32) X _ _ 74 ls h rfl hP hS dX8_told_74
          exact kr
      · refine g_aald (v := a 13 0) (pc := 61) hx hb hK (show va_P D vwCl (wX8 a c (X 0)) _ from hP 0 (by decide)) 1 3 rfl rfl hk61 ek61 rfl dX8_told_61 ?_
        refine lv_astore (lv' := [(5, .ref ((a 13) 0)), (0, .ref (a 0 0)), (1, .int x1), (2, .int x2), (3, .int x3), (4, .int x4)]) (pc := 62) hx hb dX8_told_62 hl (by decide) rfl (fun ls hl => ?_)
        refine lv_aload (pc := 64) hx hb dX8_told_64 (lv_at hl 0 rfl) ?_
        obtain ⟨r66, hc66, h⟩ := b1_i h
        have hw : (wX5 (a 13) c (X (11 + 2))).map (·.1) = [13].flatMap (uA a) := rfl
        have hPc : va_P D vwCl (wX5 (a 13) c (X (11 + 2))) _ := hP 13 (by decide)
        have hDc : va_D A (wX5 (a 13) c (X (11 + 2))) := hD.of_addr (by decide) (by decide) hw
        refine g_X (X' := X) (st1 := [.int r66]) (gr_V (n := 0) (rest := []) (pc := 66) hx hb hml hown hts (cX5_isMissing_met l D c tb sa sv (a 13) (X (11 + 2)) _ hc66) gX8_told_X5_isMissing rfl rfl rfl (by decide +kernel) rfl ⟨Nat.le_of_ble_eq_true rfl, Nat.le_of_ble_eq_true rfl⟩ ⟨Nat.zero_le _, Nat.zero_le _⟩ 0 5 rfl rfl rfl xE_ok hPc hDc hK (xE_ok.tr hE hS (g_freeX hD hS hA (by decide) (addr0 hw))) hl.1 (Nat.le_of_ble_eq_true rfl) dX8_told_66 rfl) hP hD hS hA (ks := [13]) (by decide) (addr0 hw) (fun k9 _ hk9 => rfl) (fun H1 hw1 => (List.forall_mem_cons.mpr ⟨hw1, (fun _ h9 => absurd h9 List.not_mem_nil)⟩)) rfl (fun H locs hP hS => ?_)
        refine lv_if_eq (tgt := 75) (pc := 69) hx hb dX8_told_69 (by decide) (fun c69 => ?_) (fun c69 => ?_)
        · replace h := it_t c69 h
          refine lv_iload (pc := 75) hx hb dX8_told_75 (lv_at hl 5 rfl) ?_
          by_cases c77_0 : x4 = (0 : Int32)
          · replace h := it_t c77_0 h
            refine lv_lookup (tgt := 104) (off := 27) (pc := 77) hx hb dX8_told_77 (by decide) (by rw [c77_0]; rfl) (by decide) ?_
            refine lv_aload_n (pc := 104) hx hb dX8_told_104 rfl (lv_at hl 1 rfl) ?_
            refine lv_aload (pc := 105) hx hb dX8_told_105 (lv_at hl 0 rfl) ?_
            refine lv_aload_n (pc := 107) hx hb dX8_told_107 rfl (lv_at hl 1 rfl) ?_
            refine va_get (D := D) (ci := 8) (v := .ref ((a 3) 0)) (C := RX8) (T := TX8) (N := 12) (pc := 108) hx hb hfX8 (fun _ h9 => h9) hown hK (show va_P D vwCl (wX8 a c (X 0)) _ from hP 0 (by decide)) 0 rfl rfl 2 (by decide) lk0 (fun _ h9 => h9) rfl dX8_told_108 ?_
            refine lv_iload_n (pc := 111) hx hb dX8_told_111 rfl (lv_at hl 3 rfl) ?_
            obtain ⟨r112, t1_112, t3_112, hc112, h⟩ := b3_i h
            have hw : (wX8 a c (X 0) ++ wX7 (a 5) c (X 5) ++ wX5 (a 13) c (X (11 + 2)) ++ wX3 (a 3) c (X 3)).map (·.1) = [0, 5, 13, 3].flatMap (uA a) := rfl
            have hPc : va_P D vwCl (wX8 a c (X 0) ++ wX7 (a 5) c (X 5) ++ wX5 (a 13) c (X (11 + 2)) ++ wX3 (a 3) c (X 3)) _ := (((hP 0 (by decide)).app (hP 5 (by decide))).app (hP 13 (by decide))).app (hP 3 (by decide))
            have hDc : va_D A (wX8 a c (X 0) ++ wX7 (a 5) c (X 5) ++ wX5 (a 13) c (X (11 + 2)) ++ wX3 (a 3) c (X 3)) := hD.of_addr (by decide) (by decide) hw
            refine g_X (X' := (xs (xs X 5 t1_112) 3 t3_112)) (st1 := [.int r112]) (gr_V (n := 3) (rest := []) (pc := 112) hx hb hml hown hts (cX8_firstUnlike_met l D c tb sa sv a (a 13) (a 3) x2 (X 0) (X 5) (X (11 + 2)) (X 3) _ _ _ hc112) gX8_told_X8_firstUnlike rfl rfl rfl (by decide +kernel) rfl ⟨Nat.le_of_ble_eq_true rfl, Nat.le_of_ble_eq_true rfl⟩ ⟨Nat.zero_le _, Nat.zero_le _⟩ 0 8 rfl rfl rfl xE_ok hPc hDc hK (xE_ok.tr hE hS (g_freeX hD hS hA (by decide) (addr0 hw))) hl.1 (Nat.le_of_ble_eq_true rfl) dX8_told_112 rfl) hP hD hS hA (ks := [0, 5, 13, 3]) (by decide) (addr0 hw) (fun k9 _ hk9 => ((xs_o hk9 (j := 3) (by decide))).trans (xs_o hk9 (j := 5) (by decide))) (fun H1 hw1 => (List.forall_mem_cons.mpr ⟨(vP_l (vP_l (vP_l hw1))), (List.forall_mem_cons.mpr ⟨(vP_r (vP_l (vP_l hw1))), (List.forall_mem_cons.mpr ⟨(vP_r (vP_l hw1)), (List.forall_mem_cons.mpr ⟨(vP_r hw1), (fun _ h9 => absurd h9 List.not_mem_nil)⟩)⟩)⟩)⟩)) rfl (fun H locs hP hS => ?_)
            have kr := KR r112 (xs (xs X 5 t1_112) 3 t3_112) _ _ 115 ls h rfl hP hS dX8_told_115
            exact kr
          · replace h := it_f c77_0 h
            by_cases c77_1 : x4 = (1 : Int32)
            · replace h := it_t c77_1 h
              refine lv_lookup (tgt := 116) (off := 39) (pc := 77) hx hb dX8_told_77 (by decide) (by rw [c77_1]; rfl) (by decide) ?_
              refine lv_aload_n (pc := 116) hx hb dX8_told_116 rfl (lv_at hl 1 rfl) ?_
              refine lv_aload (pc := 117) hx hb dX8_told_117 (lv_at hl 0 rfl) ?_
              refine lv_iload_n (pc := 119) hx hb dX8_told_119 rfl (lv_at hl 3 rfl) ?_
              refine lv_iload_n (pc := 120) hx hb dX8_told_120 rfl (lv_at hl 4 rfl) ?_
              obtain ⟨r121, t1_121, t4_121, hc121, h⟩ := b3_i h
              have hw : (wX8 a c (X 0) ++ wX7 (a 5) c (X 5) ++ wX5 (a 13) c (X (11 + 2)) ++ wX3 (a 3) c (X 3) ++ wX3 (a 4) c (X 4)).map (·.1) = [0, 5, 13, 3, 4].flatMap (uA a) := rfl
              have hPc : va_P D vwCl (wX8 a c (X 0) ++ wX7 (a 5) c (X 5) ++ wX5 (a 13) c (X (11 + 2)) ++ wX3 (a 3) c (X 3) ++ wX3 (a 4) c (X 4)) _ := ((((hP 0 (by decide)).app (hP 5 (by decide))).app (hP 13 (by decide))).app (hP 3 (by decide))).app (hP 4 (by decide))
              have hDc : va_D A (wX8 a c (X 0) ++ wX7 (a 5) c (X 5) ++ wX5 (a 13) c (X (11 + 2)) ++ wX3 (a 3) c (X 3) ++ wX3 (a 4) c (X 4)) := hD.of_addr (by decide) (by decide) hw
              refine g_X (X' := (xs (xs X 5 t1_121) 4 t4_121)) (st1 := [.int r121]) (gr_V (n := 3) (rest := []) (pc := 121) hx hb hml hown hts (cX8_fittingDelays_met l D c tb sa sv a (a 13) x2 x3 (X 0) (X 5) (X (11 + 2)) (X 3) (X 4) _ _ _ hc121) gX8_told_X8_fittingDelays rfl rfl rfl (by decide +kernel) rfl ⟨Nat.le_of_ble_eq_true rfl, Nat.le_of_ble_eq_true rfl⟩ ⟨Nat.zero_le _, Nat.zero_le _⟩ 0 8 rfl rfl rfl xE_ok hPc hDc hK (xE_ok.tr hE hS (g_freeX hD hS hA (by decide) (addr0 hw))) hl.1 (Nat.le_of_ble_eq_true rfl) dX8_told_121 rfl) hP hD hS hA (ks := [0, 5, 13, 3, 4]) (by decide) (addr0 hw) (fun k9 _ hk9 => ((xs_o hk9 (j := 4) (by decide))).trans (xs_o hk9 (j := 5) (by decide))) (fun H1 hw1 => (List.forall_mem_cons.mpr ⟨(vP_l (vP_l (vP_l (vP_l hw1)))), (List.forall_mem_cons.mpr ⟨(vP_r (vP_l (vP_l (vP_l hw1)))), (List.forall_mem_cons.mpr ⟨(vP_r (vP_l (vP_l hw1))), (List.forall_mem_cons.mpr ⟨(vP_r (vP_l hw1)), (List.forall_mem_cons.mpr ⟨(vP_r hw1), (fun _ h9 => absurd h9 List.not_mem_nil)⟩)⟩)⟩)⟩)⟩)) rfl (fun H locs hP hS => ?_)
              have kr := KR r121 (xs (xs X 5 t1_121) 4 t4_121) _ _ 124 ls h rfl hP hS dX8_told_124
              exact kr
            · replace h := it_f c77_1 h
              refine lv_lookup (tgt := 125) (off := 48) (pc := 77) hx hb dX8_told_77 (by decide) (by show Op.lookupswitch.offset [(0, 27), (1, 39)] _ _ = _; rw [lv_osw c77_0 (by decide), lv_osw c77_1 (by decide)]; rfl) (by decide) ?_
              refine lv_aload_n (pc := 125) hx hb dX8_told_125 rfl (lv_at hl 1 rfl) ?_
              refine lv_aload (pc := 126) hx hb dX8_told_126 (lv_at hl 0 rfl) ?_
              refine lv_iload_n (pc := 128) hx hb dX8_told_128 rfl (lv_at hl 3 rfl) ?_
              refine lv_iload_n (pc := 129) hx hb dX8_told_129 rfl (lv_at hl 4 rfl) ?_
              obtain ⟨r130, t1_130, t4_130, hc130, h⟩ := b3_i h
              have hw : (wX8 a c (X 0) ++ wX7 (a 5) c (X 5) ++ wX5 (a 13) c (X (11 + 2)) ++ wX3 (a 3) c (X 3) ++ wX3 (a 4) c (X 4)).map (·.1) = [0, 5, 13, 3, 4].flatMap (uA a) := rfl
              have hPc : va_P D vwCl (wX8 a c (X 0) ++ wX7 (a 5) c (X 5) ++ wX5 (a 13) c (X (11 + 2)) ++ wX3 (a 3) c (X 3) ++ wX3 (a 4) c (X 4)) _ := ((((hP 0 (by decide)).app (hP 5 (by decide))).app (hP 13 (by decide))).app (hP 3 (by decide))).app (hP 4 (by decide))
              have hDc : va_D A (wX8 a c (X 0) ++ wX7 (a 5) c (X 5) ++ wX5 (a 13) c (X (11 + 2)) ++ wX3 (a 3) c (X 3) ++ wX3 (a 4) c (X 4)) := hD.of_addr (by decide) (by decide) hw
              refine g_X (X' := (xs (xs X 5 t1_130) 4 t4_130)) (st1 := [.int r130]) (gr_V (n := 3) (rest := []) (pc := 130) hx hb hml hown hts (cX8_fittingKinds_met l D c tb sa sv a (a 13) x2 x3 (X 0) (X 5) (X (11 + 2)) (X 3) (X 4) _ _ _ hc130) gX8_told_X8_fittingKinds rfl rfl rfl (by decide +kernel) rfl ⟨Nat.le_of_ble_eq_true rfl, Nat.le_of_ble_eq_true rfl⟩ ⟨Nat.zero_le _, Nat.zero_le _⟩ 0 8 rfl rfl rfl xE_ok hPc hDc hK (xE_ok.tr hE hS (g_freeX hD hS hA (by decide) (addr0 hw))) hl.1 (Nat.le_of_ble_eq_true rfl) dX8_told_130 rfl) hP hD hS hA (ks := [0, 5, 13, 3, 4]) (by decide) (addr0 hw) (fun k9 _ hk9 => ((xs_o hk9 (j := 4) (by decide))).trans (xs_o hk9 (j := 5) (by decide))) (fun H1 hw1 => (List.forall_mem_cons.mpr ⟨(vP_l (vP_l (vP_l (vP_l hw1)))), (List.forall_mem_cons.mpr ⟨(vP_r (vP_l (vP_l (vP_l hw1)))), (List.forall_mem_cons.mpr ⟨(vP_r (vP_l (vP_l hw1))), (List.forall_mem_cons.mpr ⟨(vP_r (vP_l hw1)), (List.forall_mem_cons.mpr ⟨(vP_r hw1), (fun _ h9 => absurd h9 List.not_mem_nil)⟩)⟩)⟩)⟩)⟩)) rfl (fun H locs hP hS => ?_)
              have kr := KR r130 (xs (xs X 5 t1_130) 4 t4_130) _ _ 133 ls h rfl hP hS dX8_told_133
              exact kr
        · replace h := it_f c69 h
          refine lv_bipush (v := -11) (pc := 72) hx hb dX8_told_72 (by decide) ?_
          have kr := KR (-11 : Int32) X _ _ 74 ls h rfl hP hS dX8_told_74
          exact kr
      · refine g_aald (v := a 14 0) (pc := 61) hx hb hK (show va_P D vwCl (wX8 a c (X 0)) _ from hP 0 (by decide)) 1 3 rfl rfl hk61 ek61 rfl dX8_told_61 ?_
        refine lv_astore (lv' := [(5, .ref ((a 14) 0)), (0, .ref (a 0 0)), (1, .int x1), (2, .int x2), (3, .int x3), (4, .int x4)]) (pc := 62) hx hb dX8_told_62 hl (by decide) rfl (fun ls hl => ?_)
        refine lv_aload (pc := 64) hx hb dX8_told_64 (lv_at hl 0 rfl) ?_
        obtain ⟨r66, hc66, h⟩ := b1_i h
        have hw : (wX5 (a 14) c (X (11 + 3))).map (·.1) = [14].flatMap (uA a) := rfl
        have hPc : va_P D vwCl (wX5 (a 14) c (X (11 + 3))) _ := hP 14 (by decide)
        have hDc : va_D A (wX5 (a 14) c (X (11 + 3))) := hD.of_addr (by decide) (by decide) hw
        refine g_X (X' := X) (st1 := [.int r66]) (gr_V (n := 0) (rest := []) (pc := 66) hx hb hml hown hts (cX5_isMissing_met l D c tb sa sv (a 14) (X (11 + 3)) _ hc66) gX8_told_X5_isMissing rfl rfl rfl (by decide +kernel) rfl ⟨Nat.le_of_ble_eq_true rfl, Nat.le_of_ble_eq_true rfl⟩ ⟨Nat.zero_le _, Nat.zero_le _⟩ 0 5 rfl rfl rfl xE_ok hPc hDc hK (xE_ok.tr hE hS (g_freeX hD hS hA (by decide) (addr0 hw))) hl.1 (Nat.le_of_ble_eq_true rfl) dX8_told_66 rfl) hP hD hS hA (ks := [14]) (by decide) (addr0 hw) (fun k9 _ hk9 => rfl) (fun H1 hw1 => (List.forall_mem_cons.mpr ⟨hw1, (fun _ h9 => absurd h9 List.not_mem_nil)⟩)) rfl (fun H locs hP hS => ?_)
        refine lv_if_eq (tgt := 75) (pc := 69) hx hb dX8_told_69 (by decide) (fun c69 => ?_) (fun c69 => ?_)
        · replace h := it_t c69 h
          refine lv_iload (pc := 75) hx hb dX8_told_75 (lv_at hl 5 rfl) ?_
          by_cases c77_0 : x4 = (0 : Int32)
          · replace h := it_t c77_0 h
            refine lv_lookup (tgt := 104) (off := 27) (pc := 77) hx hb dX8_told_77 (by decide) (by rw [c77_0]; rfl) (by decide) ?_
            refine lv_aload_n (pc := 104) hx hb dX8_told_104 rfl (lv_at hl 1 rfl) ?_
            refine lv_aload (pc := 105) hx hb dX8_told_105 (lv_at hl 0 rfl) ?_
            refine lv_aload_n (pc := 107) hx hb dX8_told_107 rfl (lv_at hl 1 rfl) ?_
            refine va_get (D := D) (ci := 8) (v := .ref ((a 3) 0)) (C := RX8) (T := TX8) (N := 12) (pc := 108) hx hb hfX8 (fun _ h9 => h9) hown hK (show va_P D vwCl (wX8 a c (X 0)) _ from hP 0 (by decide)) 0 rfl rfl 2 (by decide) lk0 (fun _ h9 => h9) rfl dX8_told_108 ?_
            refine lv_iload_n (pc := 111) hx hb dX8_told_111 rfl (lv_at hl 3 rfl) ?_
            obtain ⟨r112, t1_112, t3_112, hc112, h⟩ := b3_i h
            have hw : (wX8 a c (X 0) ++ wX7 (a 5) c (X 5) ++ wX5 (a 14) c (X (11 + 3)) ++ wX3 (a 3) c (X 3)).map (·.1) = [0, 5, 14, 3].flatMap (uA a) := rfl
            have hPc : va_P D vwCl (wX8 a c (X 0) ++ wX7 (a 5) c (X 5) ++ wX5 (a 14) c (X (11 + 3)) ++ wX3 (a 3) c (X 3)) _ := (((hP 0 (by decide)).app (hP 5 (by decide))).app (hP 14 (by decide))).app (hP 3 (by decide))
            have hDc : va_D A (wX8 a c (X 0) ++ wX7 (a 5) c (X 5) ++ wX5 (a 14) c (X (11 + 3)) ++ wX3 (a 3) c (X 3)) := hD.of_addr (by decide) (by decide) hw
            refine g_X (X' := (xs (xs X 5 t1_112) 3 t3_112)) (st1 := [.int r112]) (gr_V (n := 3) (rest := []) (pc := 112) hx hb hml hown hts (cX8_firstUnlike_met l D c tb sa sv a (a 14) (a 3) x2 (X 0) (X 5) (X (11 + 3)) (X 3) _ _ _ hc112) gX8_told_X8_firstUnlike rfl rfl rfl (by decide +kernel) rfl ⟨Nat.le_of_ble_eq_true rfl, Nat.le_of_ble_eq_true rfl⟩ ⟨Nat.zero_le _, Nat.zero_le _⟩ 0 8 rfl rfl rfl xE_ok hPc hDc hK (xE_ok.tr hE hS (g_freeX hD hS hA (by decide) (addr0 hw))) hl.1 (Nat.le_of_ble_eq_true rfl) dX8_told_112 rfl) hP hD hS hA (ks := [0, 5, 14, 3]) (by decide) (addr0 hw) (fun k9 _ hk9 => ((xs_o hk9 (j := 3) (by decide))).trans (xs_o hk9 (j := 5) (by decide))) (fun H1 hw1 => (List.forall_mem_cons.mpr ⟨(vP_l (vP_l (vP_l hw1))), (List.forall_mem_cons.mpr ⟨(vP_r (vP_l (vP_l hw1))), (List.forall_mem_cons.mpr ⟨(vP_r (vP_l hw1)), (List.forall_mem_cons.mpr ⟨(vP_r hw1), (fun _ h9 => absurd h9 List.not_mem_nil)⟩)⟩)⟩)⟩)) rfl (fun H locs hP hS => ?_)
            have kr := KR r112 (xs (xs X 5 t1_112) 3 t3_112) _ _ 115 ls h rfl hP hS dX8_told_115
            exact kr
          · replace h := it_f c77_0 h
            by_cases c77_1 : x4 = (1 : Int32)
            · replace h := it_t c77_1 h
              refine lv_lookup (tgt := 116) (off := 39) (pc := 77) hx hb dX8_told_77 (by decide) (by rw [c77_1]; rfl) (by decide) ?_
              refine lv_aload_n (pc := 116) hx hb dX8_told_116 rfl (lv_at hl 1 rfl) ?_
              refine lv_aload (pc := 117) hx hb dX8_told_117 (lv_at hl 0 rfl) ?_
              refine lv_iload_n (pc := 119) hx hb dX8_told_119 rfl (lv_at hl 3 rfl) ?_
              refine lv_iload_n (pc := 120) hx hb dX8_told_120 rfl (lv_at hl 4 rfl) ?_
              obtain ⟨r121, t1_121, t4_121, hc121, h⟩ := b3_i h
              have hw : (wX8 a c (X 0) ++ wX7 (a 5) c (X 5) ++ wX5 (a 14) c (X (11 + 3)) ++ wX3 (a 3) c (X 3) ++ wX3 (a 4) c (X 4)).map (·.1) = [0, 5, 14, 3, 4].flatMap (uA a) := rfl
              have hPc : va_P D vwCl (wX8 a c (X 0) ++ wX7 (a 5) c (X 5) ++ wX5 (a 14) c (X (11 + 3)) ++ wX3 (a 3) c (X 3) ++ wX3 (a 4) c (X 4)) _ := ((((hP 0 (by decide)).app (hP 5 (by decide))).app (hP 14 (by decide))).app (hP 3 (by decide))).app (hP 4 (by decide))
              have hDc : va_D A (wX8 a c (X 0) ++ wX7 (a 5) c (X 5) ++ wX5 (a 14) c (X (11 + 3)) ++ wX3 (a 3) c (X 3) ++ wX3 (a 4) c (X 4)) := hD.of_addr (by decide) (by decide) hw
              refine g_X (X' := (xs (xs X 5 t1_121) 4 t4_121)) (st1 := [.int r121]) (gr_V (n := 3) (rest := []) (pc := 121) hx hb hml hown hts (cX8_fittingDelays_met l D c tb sa sv a (a 14) x2 x3 (X 0) (X 5) (X (11 + 3)) (X 3) (X 4) _ _ _ hc121) gX8_told_X8_fittingDelays rfl rfl rfl (by decide +kernel) rfl ⟨Nat.le_of_ble_eq_true rfl, Nat.le_of_ble_eq_true rfl⟩ ⟨Nat.zero_le _, Nat.zero_le _⟩ 0 8 rfl rfl rfl xE_ok hPc hDc hK (xE_ok.tr hE hS (g_freeX hD hS hA (by decide) (addr0 hw))) hl.1 (Nat.le_of_ble_eq_true rfl) dX8_told_121 rfl) hP hD hS hA (ks := [0, 5, 14, 3, 4]) (by decide) (addr0 hw) (fun k9 _ hk9 => ((xs_o hk9 (j := 4) (by decide))).trans (xs_o hk9 (j := 5) (by decide))) (fun H1 hw1 => (List.forall_mem_cons.mpr ⟨(vP_l (vP_l (vP_l (vP_l hw1)))), (List.forall_mem_cons.mpr ⟨(vP_r (vP_l (vP_l (vP_l hw1)))), (List.forall_mem_cons.mpr ⟨(vP_r (vP_l (vP_l hw1))), (List.forall_mem_cons.mpr ⟨(vP_r (vP_l hw1)), (List.forall_mem_cons.mpr ⟨(vP_r hw1), (fun _ h9 => absurd h9 List.not_mem_nil)⟩)⟩)⟩)⟩)⟩)) rfl (fun H locs hP hS => ?_)
              have kr := KR r121 (xs (xs X 5 t1_121) 4 t4_121) _ _ 124 ls h rfl hP hS dX8_told_124
              exact kr
            · replace h := it_f c77_1 h
              refine lv_lookup (tgt := 125) (off := 48) (pc := 77) hx hb dX8_told_77 (by decide) (by show Op.lookupswitch.offset [(0, 27), (1, 39)] _ _ = _; rw [lv_osw c77_0 (by decide), lv_osw c77_1 (by decide)]; rfl) (by decide) ?_
              refine lv_aload_n (pc := 125) hx hb dX8_told_125 rfl (lv_at hl 1 rfl) ?_
              refine lv_aload (pc := 126) hx hb dX8_told_126 (lv_at hl 0 rfl) ?_
              refine lv_iload_n (pc := 128) hx hb dX8_told_128 rfl (lv_at hl 3 rfl) ?_
              refine lv_iload_n (pc := 129) hx hb dX8_told_129 rfl (lv_at hl 4 rfl) ?_
              obtain ⟨r130, t1_130, t4_130, hc130, h⟩ := b3_i h
              have hw : (wX8 a c (X 0) ++ wX7 (a 5) c (X 5) ++ wX5 (a 14) c (X (11 + 3)) ++ wX3 (a 3) c (X 3) ++ wX3 (a 4) c (X 4)).map (·.1) = [0, 5, 14, 3, 4].flatMap (uA a) := rfl
              have hPc : va_P D vwCl (wX8 a c (X 0) ++ wX7 (a 5) c (X 5) ++ wX5 (a 14) c (X (11 + 3)) ++ wX3 (a 3) c (X 3) ++ wX3 (a 4) c (X 4)) _ := ((((hP 0 (by decide)).app (hP 5 (by decide))).app (hP 14 (by decide))).app (hP 3 (by decide))).app (hP 4 (by decide))
              have hDc : va_D A (wX8 a c (X 0) ++ wX7 (a 5) c (X 5) ++ wX5 (a 14) c (X (11 + 3)) ++ wX3 (a 3) c (X 3) ++ wX3 (a 4) c (X 4)) := hD.of_addr (by decide) (by decide) hw
              refine g_X (X' := (xs (xs X 5 t1_130) 4 t4_130)) (st1 := [.int r130]) (gr_V (n := 3) (rest := []) (pc := 130) hx hb hml hown hts (cX8_fittingKinds_met l D c tb sa sv a (a 14) x2 x3 (X 0) (X 5) (X (11 + 3)) (X 3) (X 4) _ _ _ hc130) gX8_told_X8_fittingKinds rfl rfl rfl (by decide +kernel) rfl ⟨Nat.le_of_ble_eq_true rfl, Nat.le_of_ble_eq_true rfl⟩ ⟨Nat.zero_le _, Nat.zero_le _⟩ 0 8 rfl rfl rfl xE_ok hPc hDc hK (xE_ok.tr hE hS (g_freeX hD hS hA (by decide) (addr0 hw))) hl.1 (Nat.le_of_ble_eq_true rfl) dX8_told_130 rfl) hP hD hS hA (ks := [0, 5, 14, 3, 4]) (by decide) (addr0 hw) (fun k9 _ hk9 => ((xs_o hk9 (j := 4) (by decide))).trans (xs_o hk9 (j := 5) (by decide))) (fun H1 hw1 => (List.forall_mem_cons.mpr ⟨(vP_l (vP_l (vP_l (vP_l hw1)))), (List.forall_mem_cons.mpr ⟨(vP_r (vP_l (vP_l (vP_l hw1)))), (List.forall_mem_cons.mpr ⟨(vP_r (vP_l (vP_l hw1))), (List.forall_mem_cons.mpr ⟨(vP_r (vP_l hw1)), (List.forall_mem_cons.mpr ⟨(vP_r hw1), (fun _ h9 => absurd h9 List.not_mem_nil)⟩)⟩)⟩)⟩)⟩)) rfl (fun H locs hP hS => ?_)
              have kr := KR r130 (xs (xs X 5 t1_130) 4 t4_130) _ _ 133 ls h rfl hP hS dX8_told_133
              exact kr
        · replace h := it_f c69 h
          refine lv_bipush (v := -11) (pc := 72) hx hb dX8_told_72 (by decide) ?_
          have kr := KR (-11 : Int32) X _ _ 74 ls h rfl hP hS dX8_told_74
          exact kr
    · replace h := it_f c50 h
      refine lv_bipush (v := -3) (pc := 53) hx hb dX8_told_53 (by decide) ?_
      have kr := KR (-3 : Int32) X _ _ 55 ls h rfl hP hS dX8_told_55
      exact kr
  refine lv_iload_n (pc := 0) hx hb dX8_told_0 rfl (lv_at hl 1 rfl) ?_
  obtain ⟨r1, hc1, h⟩ := b1_i h
  refine g_noneX (st1 := [.int r1]) (gr_S (n := 1) (rest := []) (pc := 1) hx hb hml hown hts (cX8_isSheet_met l D c tb sa sv p0 _ hc1) gX8_told_X8_isSheet rfl rfl rfl (by decide +kernel) rfl ⟨Nat.le_of_ble_eq_true rfl, Nat.le_of_ble_eq_true rfl⟩ ⟨Nat.zero_le _, Nat.zero_le _⟩ xE_ok g_P0 (g_D0 (A := A)) hK (xE_ok.tr hE hS (g_free0 hS hA)) hl.1 (Nat.le_of_ble_eq_true rfl) dX8_told_1 rfl) hP hS hA rfl (fun H locs hP hS => ?_)
  refine lv_if_eq (tgt := 40) (pc := 4) hx hb dX8_told_4 (by decide) (fun c4 => ?_) (fun c4 => ?_)
  · replace h := it_t c4 h
    refine lv_bipush (v := -2) (pc := 40) hx hb dX8_told_40 (by decide) ?_
    have kr := KR (-2 : Int32) X _ _ 42 ls h rfl hP hS dX8_told_42
    exact kr
  · replace h := it_f c4 h
    refine lv_iload_n (pc := 7) hx hb dX8_told_7 rfl (lv_at hl 2 rfl) ?_
    obtain ⟨r8, hc8, h⟩ := b1_i h
    refine g_noneX (st1 := [.int r8]) (gr_S (n := 1) (rest := []) (pc := 8) hx hb hml hown hts (cX8_isChangeCode_met l D c tb sa sv p1 _ hc8) gX8_told_X8_isChangeCode rfl rfl rfl (by decide +kernel) rfl ⟨Nat.le_of_ble_eq_true rfl, Nat.le_of_ble_eq_true rfl⟩ ⟨Nat.zero_le _, Nat.zero_le _⟩ xE_ok g_P0 (g_D0 (A := A)) hK (xE_ok.tr hE hS (g_free0 hS hA)) hl.1 (Nat.le_of_ble_eq_true rfl) dX8_told_8 rfl) hP hS hA rfl (fun H locs hP hS => ?_)
    refine lv_if_eq (tgt := 40) (pc := 11) hx hb dX8_told_11 (by decide) (fun c11 => ?_) (fun c11 => ?_)
    · replace h := it_t c11 h
      refine lv_bipush (v := -2) (pc := 40) hx hb dX8_told_40 (by decide) ?_
      have kr := KR (-2 : Int32) X _ _ 42 ls h rfl hP hS dX8_told_42
      exact kr
    · replace h := it_f c11 h
      refine lv_iload (pc := 14) hx hb dX8_told_14 (lv_at hl 4 rfl) ?_
      refine lv_iconst (v := 0) (pc := 16) hx hb dX8_told_16 (by decide) ?_
      refine lv_iconst (v := 2) (pc := 17) hx hb dX8_told_17 (by decide) ?_
      obtain ⟨r18, hc18, h⟩ := b1_i h
      refine g_noneX (st1 := [.int r18]) (gr_S (n := 3) (rest := []) (pc := 18) hx hb hml hown hts (cX8_isWithin_met l D c tb sa sv p3 (0 : Int32) (2 : Int32) _ hc18) gX8_told_X8_isWithin rfl rfl rfl (by decide +kernel) rfl ⟨Nat.le_of_ble_eq_true rfl, Nat.le_of_ble_eq_true rfl⟩ ⟨Nat.zero_le _, Nat.zero_le _⟩ xE_ok g_P0 (g_D0 (A := A)) hK (xE_ok.tr hE hS (g_free0 hS hA)) hl.1 (Nat.le_of_ble_eq_true rfl) dX8_told_18 rfl) hP hS hA rfl (fun H locs hP hS => ?_)
      refine lv_if_eq (tgt := 40) (pc := 21) hx hb dX8_told_21 (by decide) (fun c21 => ?_) (fun c21 => ?_)
      · replace h := it_t c21 h
        refine lv_bipush (v := -2) (pc := 40) hx hb dX8_told_40 (by decide) ?_
        have kr := KR (-2 : Int32) X _ _ 42 ls h rfl hP hS dX8_told_42
        exact kr
      · replace h := it_f c21 h
        refine lv_iload (pc := 24) hx hb dX8_told_24 (lv_at hl 4 rfl) ?_
        refine lv_if_eq (tgt := 43) (pc := 26) hx hb dX8_told_26 (by decide) (fun c26 => ?_) (fun c26 => ?_)
        · replace h := it_t c26 h
          have jr := J43 p0 p1 p2 p3 X _ _ ls h hP hS hl
          exact jr
        · replace h := it_f c26 h
          refine lv_aload_n (pc := 29) hx hb dX8_told_29 rfl (lv_at hl 0 rfl) ?_
          refine va_get (D := D) (ci := 8) (v := .ref ((a 3) 0)) (C := RX8) (T := TX8) (N := 12) (pc := 30) hx hb hfX8 (fun _ h9 => h9) hown hK (show va_P D vwCl (wX8 a c (X 0)) _ from hP 0 (by decide)) 0 rfl rfl 2 (by decide) lk0 (fun _ h9 => h9) rfl dX8_told_30 ?_
          refine lv_iload_n (pc := 33) hx hb dX8_told_33 rfl (lv_at hl 3 rfl) ?_
          obtain ⟨r34, hc34, h⟩ := b1_i h
          have hw : (wX3 (a 3) c (X 3)).map (·.1) = [3].flatMap (uA a) := rfl
          have hPc : va_P D vwCl (wX3 (a 3) c (X 3)) _ := hP 3 (by decide)
          have hDc : va_D A (wX3 (a 3) c (X 3)) := hD.of_addr (by decide) (by decide) hw
          refine g_X (X' := X) (st1 := [.int r34]) (gr_V (n := 1) (rest := []) (pc := 34) hx hb hml hown hts (cX3_has_met l D c tb sa sv (a 3) p2 (X 3) _ hc34) gX8_told_X3_has rfl rfl rfl (by decide +kernel) rfl ⟨Nat.le_of_ble_eq_true rfl, Nat.le_of_ble_eq_true rfl⟩ ⟨Nat.zero_le _, Nat.zero_le _⟩ 0 3 rfl rfl rfl xE_ok hPc hDc hK (xE_ok.tr hE hS (g_freeX hD hS hA (by decide) (addr0 hw))) hl.1 (Nat.le_of_ble_eq_true rfl) dX8_told_34 rfl) hP hD hS hA (ks := [3]) (by decide) (addr0 hw) (fun k9 _ hk9 => rfl) (fun H1 hw1 => (List.forall_mem_cons.mpr ⟨hw1, (fun _ h9 => absurd h9 List.not_mem_nil)⟩)) rfl (fun H locs hP hS => ?_)
          refine lv_if_ne (tgt := 43) (pc := 37) hx hb dX8_told_37 (by decide) (fun c37 => ?_) (fun c37 => ?_)
          · replace h := it_f c37 h
            have jr := J43 p0 p1 p2 p3 X _ _ ls h hP hS hl
            exact jr
          · replace h := it_t c37 h
            refine lv_bipush (v := -2) (pc := 40) hx hb dX8_told_40 (by decide) ?_
            have kr := KR (-2 : Int32) X _ _ 42 ls h rfl hP hS dX8_told_42
            exact kr
abbrev rmX5_become : Room := { frames := 0, cells := 0, slots := 0, locals := 0 }
set_option maxRecDepth 100000 in
set_option maxHeartbeats 40000000 in
theorem cX5_become_met (l : Launch) (D : va_G) (c : Nat → ClassId) (tb : Nat) (sa sv : Nat → Nat) (a0 : Nat → Nat) (p0 : Int32) (p1 : Int32) (s0 : Mem) (z0 : Mem) (h : fX5_become p0 p1 s0 = some z0) : gM l yX5_become wsX5_become rmX5_become D (gY c) (xE tb sa sv) [.ref (a0 0), .int p0, .int p1] (wX5 a0 c s0) none (wX5 a0 c z0) := by
  unfold fX5_become at h
  refine gM.V (cc := cX5_become) (maxL := 4) (by decide) rfl (Nat.le_of_ble_eq_true rfl) ?_
  intro p e s m args below meth cd hx hb hml hown hts A hA ls hl hP hK hD hS hE Q KR0
  have hfX5 : ∀ w ∈ u_ws RX5 TX5 3, w.before args s = true := fun w hw => hts w (List.mem_cons_of_mem _ (List.mem_append_right _ hw))
  have lk0 := hts (.fieldLink RX5 15 "GlitchNets$Sheet" "sort" "I") (List.mem_of_getElem? (i := 1) rfl)
  have lk1 := hts (.fieldLink RX5 19 "GlitchNets$Sheet" "size" "I") (List.mem_of_getElem? (i := 2) rfl)
  have lk2 := hts (.fieldLink RX5 11 "GlitchNets$Sheet" "items" "[I") (List.mem_of_getElem? (i := 3) rfl)
  have KR : ∀ (w0 : Mem) (H : Heap) (locs : List Loc) (pc : Nat) (ls : Array Slot), some w0 = some z0 → va_P D vwCl (wX5 a0 c w0) H → va_D A (wX5 a0 c w0) → va_S A s.heap H locs → decode cX5_become pc = .ok (.return_, 1) → W p l e rmX5_become s m args below meth cd H locs 0 0 Q (F0 m pc ls []) := by
    intro w0 H locs pc ls hr hP hD hS hd
    cases hr
    exact KR0 H locs pc ls hP hD hS hd
  have hl : lv_has ls 4 [(0, .ref (a0 0)), (1, .int p0), (2, .int p1)] := hl
  have J23 : ∀ (n : Nat) (x3 : Int32) (s0 : Mem) (H : Heap) (locs : List Loc) (ls : Array Slot), fX5_become_b23 n x3 s0 = some z0 → va_P D vwCl (wX5 a0 c s0) H → va_D A (wX5 a0 c s0) → va_S A s.heap H locs → lv_has ls 4 [(0, .ref (a0 0)), (3, .int x3)] → W p l e rmX5_become s m args below meth cd H locs 0 0 Q (F0 m 23 ls []) := by
    intro n
    induction n with
    | zero =>
      intro x3 s0 H locs ls h _ _ _ _
      cases (show (none : Option (Mem)) = some _ from h)
    | succ n K23h =>
      intro x3 s0 H locs ls h hP hD hS hl
      rw [fX5_become_b23] at h
      refine lv_iload_n (pc := 23) hx hb dX5_become_23 rfl (lv_at hl 1 rfl) ?_
      refine lv_aload_n (pc := 24) hx hb dX5_become_24 rfl (lv_at hl 0 rfl) ?_
      refine va_get (D := D) (ci := 5) (v := .int (s0.1 2 0)) (C := RX5) (T := TX5) (N := 3) (pc := 25) hx hb hfX5 (fun _ h9 => h9) hown hK hP 0 rfl rfl 2 (by decide) lk1 (fun _ h9 => h9) rfl dX5_become_25 ?_
      refine lv_icmp_ge (tgt := 44) (pc := 28) hx hb dX5_become_28 (by decide) (fun c28 => ?_) (fun c28 => ?_)
      · replace h := it_t c28 h
        have kr := KR s0 _ _ 44 ls h hP hD hS dX5_become_44
        exact kr
      · replace h := it_f c28 h
        refine lv_aload_n (pc := 31) hx hb dX5_become_31 rfl (lv_at hl 0 rfl) ?_
        refine va_get (D := D) (ci := 5) (v := .ref (a0 1)) (C := RX5) (T := TX5) (N := 3) (pc := 32) hx hb hfX5 (fun _ h9 => h9) hown hK hP 0 rfl rfl 0 (by decide) lk2 (fun _ h9 => h9) rfl dX5_become_32 ?_
        refine lv_iload_n (pc := 35) hx hb dX5_become_35 rfl (lv_at hl 1 rfl) ?_
        refine lv_iconst (v := 0) (pc := 36) hx hb dX5_become_36 (by decide) ?_
        obtain ⟨hk37, h⟩ := ckI_i h
        refine va_iast (D := D) (f := (s0.1 0)) (pc := 37) hx hb hK hP hD hS 1 0 rfl rfl hk37 dX5_become_37 (fun H locs hP hD hS => ?_)
        have hP : va_P D vwCl (wX5 a0 c (mi s0 0 (x3).toNatClampNeg (0 : Int32))) H := hP
        have hD : va_D A (wX5 a0 c (mi s0 0 (x3).toNatClampNeg (0 : Int32))) := hD
        obtain ⟨v3_38, ev3_38, h⟩ := lt_i h
        refine lv_iinc (v := v3_38) (lv' := [(3, .int v3_38), (0, .ref (a0 0))]) (pc := 38) hx hb dX5_become_38 hl (k := 1) rfl (by rw [ev3_38]; rfl) (by decide) rfl (fun ls hl => ?_)
        refine lv_goto (tgt := 23) (pc := 41) hx hb dX5_become_41 (by decide) ?_
        have jr := K23h v3_38 ((mi s0 0 (x3).toNatClampNeg (0 : Int32))) _ _ ls h hP hD hS (lv_sub hl [1, 0] rfl)
        exact jr
  refine lv_iload_n (pc := 0) hx hb dX5_become_0 rfl (lv_at hl 2 rfl) ?_
  refine lv_if_lt (tgt := 10) (pc := 1) hx hb dX5_become_1 (by decide) (fun c1 => ?_) (fun c1 => ?_)
  · replace h := it_t c1 h
    have kr := KR s0 _ _ 10 ls h hP hD hS dX5_become_10
    exact kr
  · replace h := it_f c1 h
    refine lv_iload_n (pc := 4) hx hb dX5_become_4 rfl (lv_at hl 2 rfl) ?_
    refine lv_bipush (v := 40) (pc := 5) hx hb dX5_become_5 (by decide) ?_
    refine lv_icmp_le (tgt := 11) (pc := 7) hx hb dX5_become_7 (by decide) (fun c7 => ?_) (fun c7 => ?_)
    · replace h := it_t c7 h
      refine lv_aload_n (pc := 11) hx hb dX5_become_11 rfl (lv_at hl 0 rfl) ?_
      refine lv_iload_n (pc := 12) hx hb dX5_become_12 rfl (lv_at hl 1 rfl) ?_
      refine va_put (D := D) (ci := 5) (v := .int p0) (ty := .int) (C := RX5) (T := TX5) (N := 3) (pc := 13) hx hb hfX5 (fun _ h9 => h9) tyX5 tyX5_ok nmX5 hown hK hP hD hS 0 rfl rfl 1 (by decide) lk0 (fun _ h9 => h9) rfl (by decide +kernel) rfl rfl (Nat.le_of_ble_eq_true rfl) dX5_become_13 (fun H locs hP hD hS => ?_)
      have hP : va_P D vwCl (wX5 a0 c (mi s0 1 0 p0)) H := hP
      have hD : va_D A (wX5 a0 c (mi s0 1 0 p0)) := hD
      refine lv_aload_n (pc := 16) hx hb dX5_become_16 rfl (lv_at hl 0 rfl) ?_
      refine lv_iload_n (pc := 17) hx hb dX5_become_17 rfl (lv_at hl 2 rfl) ?_
      refine va_put (D := D) (ci := 5) (v := .int p1) (ty := .int) (C := RX5) (T := TX5) (N := 3) (pc := 18) hx hb hfX5 (fun _ h9 => h9) tyX5 tyX5_ok nmX5 hown hK hP hD hS 0 rfl rfl 2 (by decide) lk1 (fun _ h9 => h9) rfl (by decide +kernel) rfl rfl (Nat.le_of_ble_eq_true rfl) dX5_become_18 (fun H locs hP hD hS => ?_)
      obtain ⟨m0_18, em0_18, h⟩ := lt_i h
      have hP : va_P D vwCl (wX5 a0 c m0_18) H := by rw [em0_18]; exact hP
      have hD : va_D A (wX5 a0 c m0_18) := by rw [em0_18]; exact hD
      refine lv_iconst (v := 0) (pc := 21) hx hb dX5_become_21 (by decide) ?_
      refine lv_istore_n (lv' := [(3, .int (0 : Int32)), (0, .ref (a0 0)), (1, .int p0), (2, .int p1)]) (pc := 22) hx hb dX5_become_22 rfl hl (by decide) rfl (fun ls hl => ?_)
      have jr := J23 FU (0 : Int32) m0_18 _ _ ls h hP hD hS (lv_sub hl [1, 0] rfl)
      exact jr
    · replace h := it_f c7 h
      have kr := KR s0 _ _ 10 ls h hP hD hS dX5_become_10
      exact kr
abbrev rmX5_has : Room := { frames := 0, cells := 0, slots := 0, locals := 0 }
set_option maxRecDepth 100000 in
set_option maxHeartbeats 40000000 in
theorem cX5_has_met (l : Launch) (D : va_G) (c : Nat → ClassId) (tb : Nat) (sa sv : Nat → Nat) (a0 : Nat → Nat) (p0 : Int32) (s0 : Mem) (r0 : Int32) (h : fX5_has p0 s0 = some r0) : gM l yX5_has wsX5_has rmX5_has D (gY c) (xE tb sa sv) [.ref (a0 0), .int p0] (wX5 a0 c s0) (some (.int r0)) (wX5 a0 c s0) := by
  unfold fX5_has at h
  refine gM.I (cc := cX5_has) (maxL := 2) (by decide) rfl (Nat.le_of_ble_eq_true rfl) ?_
  intro p e s m args below meth cd hx hb hml hown hts A hA ls hl hP hK hD hS hE Q KR0
  have hfX5 : ∀ w ∈ u_ws RX5 TX5 3, w.before args s = true := fun w hw => hts w (List.mem_cons_of_mem _ (List.mem_append_right _ hw))
  have lk0 := hts (.fieldLink RX5 19 "GlitchNets$Sheet" "size" "I") (List.mem_of_getElem? (i := 1) rfl)
  have KR : ∀ (v : Int32)  (H : Heap) (locs : List Loc) (pc : Nat) (ls : Array Slot), some v = some r0 → narrow .boolean (.int v) = .int v → va_P D vwCl (wX5 a0 c s0) H → va_D A (wX5 a0 c s0) → va_S A s.heap H locs → decode cX5_has pc = .ok (.ireturn, 1) → W p l e rmX5_has s m args below meth cd H locs 0 0 Q (F0 m pc ls [.int v]) := by
    intro v  H locs pc ls hr hn hP hD hS hd
    cases hr
    exact KR0 _ H locs pc ls rfl hn hP hD hS hd
  have hl : lv_has ls 2 [(0, .ref (a0 0)), (1, .int p0)] := hl
  refine lv_iload_n (pc := 0) hx hb dX5_has_0 rfl (lv_at hl 1 rfl) ?_
  refine lv_if_lt (tgt := 16) (pc := 1) hx hb dX5_has_1 (by decide) (fun c1 => ?_) (fun c1 => ?_)
  · replace h := it_t c1 h
    refine lv_iconst (v := 0) (pc := 16) hx hb dX5_has_16 (by decide) ?_
    have kr := KR (0 : Int32)  _ _ 17 ls h rfl hP hD hS dX5_has_17
    exact kr
  · replace h := it_f c1 h
    refine lv_iload_n (pc := 4) hx hb dX5_has_4 rfl (lv_at hl 1 rfl) ?_
    refine lv_aload_n (pc := 5) hx hb dX5_has_5 rfl (lv_at hl 0 rfl) ?_
    refine va_get (D := D) (ci := 5) (v := .int (s0.1 2 0)) (C := RX5) (T := TX5) (N := 3) (pc := 6) hx hb hfX5 (fun _ h9 => h9) hown hK hP 0 rfl rfl 2 (by decide) lk0 (fun _ h9 => h9) rfl dX5_has_6 ?_
    refine lv_icmp_ge (tgt := 16) (pc := 9) hx hb dX5_has_9 (by decide) (fun c9 => ?_) (fun c9 => ?_)
    · replace h := it_t c9 h
      refine lv_iconst (v := 0) (pc := 16) hx hb dX5_has_16 (by decide) ?_
      have kr := KR (0 : Int32)  _ _ 17 ls h rfl hP hD hS dX5_has_17
      exact kr
    · replace h := it_f c9 h
      refine lv_iconst (v := 1) (pc := 12) hx hb dX5_has_12 (by decide) ?_
      refine lv_goto (tgt := 17) (pc := 13) hx hb dX5_has_13 (by decide) ?_
      have kr := KR (1 : Int32)  _ _ 17 ls h rfl hP hD hS dX5_has_17
      exact kr
abbrev rmX5_set : Room := { frames := 1, cells := 0, slots := 0, locals := 21 }
set_option maxRecDepth 100000 in
set_option maxHeartbeats 40000000 in
theorem cX5_set_met (l : Launch) (D : va_G) (c : Nat → ClassId) (tb : Nat) (sa sv : Nat → Nat) (a0 : Nat → Nat) (p0 : Int32) (p1 : Int32) (s0 : Mem) (z0 : Mem) (h : fX5_set p0 p1 s0 = some z0) : gM l yX5_set wsX5_set rmX5_set D (gY c) (xE tb sa sv) [.ref (a0 0), .int p0, .int p1] (wX5 a0 c s0) none (wX5 a0 c z0) := by
  unfold fX5_set at h
  refine gM.V (cc := cX5_set) (maxL := 3) (by decide) rfl (Nat.le_of_ble_eq_true rfl) ?_
  intro p e s m args below meth cd hx hb hml hown hts A hA ls hl hP hK hD hS hE Q KR0
  have hfX5 : ∀ w ∈ u_ws RX5 TX5 3, w.before args s = true := fun w hw => hts w (List.mem_cons_of_mem _ (List.mem_append_right _ hw))
  have lk0 := hts (.fieldLink RX5 11 "GlitchNets$Sheet" "items" "[I") (List.mem_of_getElem? (i := 1) rfl)
  have lk1 := hts (.fieldLink RX5 15 "GlitchNets$Sheet" "sort" "I") (List.mem_of_getElem? (i := 2) rfl)
  have KR : ∀ (w0 : Mem) (H : Heap) (locs : List Loc) (pc : Nat) (ls : Array Slot), some w0 = some z0 → va_P D vwCl (wX5 a0 c w0) H → va_D A (wX5 a0 c w0) → va_S A s.heap H locs → decode cX5_set pc = .ok (.return_, 1) → W p l e rmX5_set s m args below meth cd H locs 0 0 Q (F0 m pc ls []) := by
    intro w0 H locs pc ls hr hP hD hS hd
    cases hr
    exact KR0 H locs pc ls hP hD hS hd
  have hl : lv_has ls 3 [(0, .ref (a0 0)), (1, .int p0), (2, .int p1)] := hl
  have J29 : ∀ (y0 : Int32) (y1 : Int32) (s0 : Mem) (H : Heap) (locs : List Loc) (ls : Array Slot), fX5_set_b29 y0 y1 s0 = some z0 → va_P D vwCl (wX5 a0 c s0) H → va_D A (wX5 a0 c s0) → va_S A s.heap H locs → lv_has ls 3 [] → W p l e rmX5_set s m args below meth cd H locs 0 0 Q (F0 m 29 ls [.int y0, .int y1, .ref (a0 1)]) := by
    intro y0 y1 s0 H locs ls h hP hD hS hl
    unfold fX5_set_b29 at h
    obtain ⟨hk29, h⟩ := ckI_i h
    refine va_iast (D := D) (f := (s0.1 0)) (pc := 29) hx hb hK hP hD hS 1 0 rfl rfl hk29 dX5_set_29 (fun H locs hP hD hS => ?_)
    have hP : va_P D vwCl (wX5 a0 c (mi s0 0 (y1).toNatClampNeg y0)) H := hP
    have hD : va_D A (wX5 a0 c (mi s0 0 (y1).toNatClampNeg y0)) := hD
    have kr := KR (mi s0 0 (y1).toNatClampNeg y0) _ _ 30 ls h hP hD hS dX5_set_30
    exact kr
  refine lv_aload_n (pc := 0) hx hb dX5_set_0 rfl (lv_at hl 0 rfl) ?_
  refine lv_iload_n (pc := 1) hx hb dX5_set_1 rfl (lv_at hl 1 rfl) ?_
  obtain ⟨r2, hc2, h⟩ := b1_i h
  refine g_all (st1 := [.int r2]) (gr_V (n := 1) (rest := []) (pc := 2) hx hb hml hown hts (cX5_has_met l D c tb sa sv a0 p0 s0 _ hc2) gX5_set_X5_has rfl rfl rfl (by decide +kernel) rfl ⟨Nat.le_of_ble_eq_true rfl, Nat.le_of_ble_eq_true rfl⟩ ⟨Nat.zero_le _, Nat.zero_le _⟩ 0 5 rfl rfl rfl xE_ok hP hD hK (xE_ok.tr hE hS (g_free hD hS hA)) hl.1 (Nat.le_of_ble_eq_true rfl) dX5_set_2 rfl) hD hS hA rfl (fun H locs hP hD hS => ?_)
  refine lv_if_eq (tgt := 30) (pc := 5) hx hb dX5_set_5 (by decide) (fun c5 => ?_) (fun c5 => ?_)
  · replace h := it_t c5 h
    have kr := KR s0 _ _ 30 ls h hP hD hS dX5_set_30
    exact kr
  · replace h := it_f c5 h
    refine lv_aload_n (pc := 8) hx hb dX5_set_8 rfl (lv_at hl 0 rfl) ?_
    refine va_get (D := D) (ci := 5) (v := .ref (a0 1)) (C := RX5) (T := TX5) (N := 3) (pc := 9) hx hb hfX5 (fun _ h9 => h9) hown hK hP 0 rfl rfl 0 (by decide) lk0 (fun _ h9 => h9) rfl dX5_set_9 ?_
    refine lv_iload_n (pc := 12) hx hb dX5_set_12 rfl (lv_at hl 1 rfl) ?_
    refine lv_aload_n (pc := 13) hx hb dX5_set_13 rfl (lv_at hl 0 rfl) ?_
    refine va_get (D := D) (ci := 5) (v := .int (s0.1 1 0)) (C := RX5) (T := TX5) (N := 3) (pc := 14) hx hb hfX5 (fun _ h9 => h9) hown hK hP 0 rfl rfl 1 (by decide) lk1 (fun _ h9 => h9) rfl dX5_set_14 ?_
    refine lv_if_ne (tgt := 28) (pc := 17) hx hb dX5_set_17 (by decide) (fun c17 => ?_) (fun c17 => ?_)
    · replace h := it_f c17 h
      refine lv_iload_n (pc := 28) hx hb dX5_set_28 rfl (lv_at hl 2 rfl) ?_
      have jr := J29 p1 p0 s0 _ _ ls h hP hD hS (lv_sub hl [] rfl)
      exact jr
    · replace h := it_t c17 h
      refine lv_iload_n (pc := 20) hx hb dX5_set_20 rfl (lv_at hl 2 rfl) ?_
      refine lv_sipush (v := 255) (pc := 21) hx hb dX5_set_21 (by decide) ?_
      refine lv_iand (pc := 24) hx hb dX5_set_24 ?_
      refine lv_goto (tgt := 29) (pc := 25) hx hb dX5_set_25 (by decide) ?_
      have jr := J29 ((p1 &&& (255 : Int32))) p0 s0 _ _ ls h hP hD hS (lv_sub hl [] rfl)
      exact jr
abbrev rmX8_film : Room := { frames := 3, cells := 0, slots := 0, locals := 76 }
set_option maxRecDepth 100000 in
set_option maxHeartbeats 40000000 in
theorem cX8_film_met (l : Launch) (D : va_G) (c : Nat → ClassId) (tb : Nat) (sa sv : Nat → Nat) (a : Nat → Nat → Nat) (p0 : Int32) (p1 : Int32) (p2 : Int32) (X : XS) (r0 : Int32) (z0 : XS) (h : fX8_film p0 p1 p2 X = some (r0, z0)) : gM l yX8_film wsX8_film rmX8_film D (gY c) (xE tb sa sv) [.ref (a 0 0), .int p0, .int p1, .int p2] (wX a c X) (some (.int r0)) (wX a c z0) := by
  unfold fX8_film at h
  refine gM.I (cc := cX8_film) (maxL := 6) (by decide) rfl (Nat.le_of_ble_eq_true rfl) ?_
  intro p e s m args below meth cd hx hb hml hown hts A hA ls hl hP hK hD hS hE Q KR0
  have hfX8 : ∀ w ∈ u_ws RX8 TX8 12, w.before args s = true := fun w hw => hts w (List.mem_cons_of_mem _ (List.mem_append_left _ (List.mem_append_left _ (List.mem_append_left _ (List.mem_append_right _ hw)))))
  have lk0 := hts (.fieldLink RX8 26 "GlitchNets" "net" "LGlitchNets$Net;") (List.mem_of_getElem? (i := 1) rfl)
  have lk1 := hts (.fieldLink RX8 69 "GlitchNets" "sheets" "[LGlitchNets$Sheet;") (List.mem_of_getElem? (i := 2) rfl)
  have lk2 := hts (.fieldLink RX8 36 "GlitchNets" "outputWave" "LGlitchNets$Wave;") (List.mem_of_getElem? (i := 3) rfl)
  have hP := XP_iff.mp hP
  have hD := XD_of hD
  have KR : ∀ (v : Int32) (w0 : XS) (H : Heap) (locs : List Loc) (pc : Nat) (ls : Array Slot), some (v, w0) = some (r0, z0) → narrow .int (.int v) = .int v → XP D a c w0 H → va_S A s.heap H locs → decode cX8_film pc = .ok (.ireturn, 1) → W p l e rmX8_film s m args below meth cd H locs 0 0 Q (F0 m pc ls [.int v]) := by
    intro v w0 H locs pc ls hr hn hP hS hd
    cases hr
    exact KR0 _ H locs pc ls rfl hn (XP_iff.mpr hP) (hD.all c _) hS hd
  have hl : lv_has ls 6 [(0, .ref (a 0 0)), (1, .int p0), (2, .int p1), (3, .int p2)] := hl
  have J77_0 : ∀ (n : Nat) (x3 : Int32) (x5 : Int32) (X : XS) (H : Heap) (locs : List Loc) (ls : Array Slot), fX8_film_b77 0 n x3 x5 X = some (r0, z0) → XP D a c X H → va_S A s.heap H locs → lv_has ls 6 [(0, .ref (a 0 0)), (3, .int x3), (4, .ref ((a 11) 0)), (5, .int x5)] → W p l e rmX8_film s m args below meth cd H locs 0 0 Q (F0 m 77 ls []) := by
    intro n
    induction n with
    | zero =>
      intro x3 x5 X H locs ls h _ _ _
      cases (show (none : Option (Int32 × XS)) = some _ from h)
    | succ n K77h =>
      intro x3 x5 X H locs ls h hP hS hl
      rw [fX8_film_b77] at h
      refine lv_iload (pc := 77) hx hb dX8_film_77 (lv_at hl 3 rfl) ?_
      refine lv_iload_n (pc := 79) hx hb dX8_film_79 rfl (lv_at hl 1 rfl) ?_
      refine lv_icmp_ge (tgt := 105) (pc := 80) hx hb dX8_film_80 (by decide) (fun c80 => ?_) (fun c80 => ?_)
      · replace h := it_t c80 h
        refine lv_iload_n (pc := 105) hx hb dX8_film_105 rfl (lv_at hl 1 rfl) ?_
        have kr := KR x3 X _ _ 106 ls h rfl hP hS dX8_film_106
        exact kr
      · replace h := it_f c80 h
        refine lv_aload (pc := 83) hx hb dX8_film_83 (lv_at hl 2 rfl) ?_
        refine lv_iload (pc := 85) hx hb dX8_film_85 (lv_at hl 3 rfl) ?_
        refine lv_aload_n (pc := 87) hx hb dX8_film_87 rfl (lv_at hl 0 rfl) ?_
        refine va_get (D := D) (ci := 8) (v := .ref ((a 5) 0)) (C := RX8) (T := TX8) (N := 12) (pc := 88) hx hb hfX8 (fun _ h9 => h9) hown hK (show va_P D vwCl (wX8 a c (X 0)) _ from hP 0 (by decide)) 0 rfl rfl 4 (by decide) lk2 (fun _ h9 => h9) rfl dX8_film_88 ?_
        refine lv_iload (pc := 91) hx hb dX8_film_91 (lv_at hl 3 rfl) ?_
        obtain ⟨r93, hc93, h⟩ := b1_i h
        have hw : (wX7 (a 5) c (X 5)).map (·.1) = [5].flatMap (uA a) := rfl
        have hPc : va_P D vwCl (wX7 (a 5) c (X 5)) _ := hP 5 (by decide)
        have hDc : va_D A (wX7 (a 5) c (X 5)) := hD.of_addr (by decide) (by decide) hw
        refine g_X (X' := X) (st1 := [.int r93, .int x5, .ref ((a 11) 0)]) (gr_V (n := 1) (rest := [.int x5, .ref ((a 11) 0)]) (pc := 93) hx hb hml hown hts (cX7_at_met l D c tb sa sv (a 5) x5 (X 5) _ hc93) gX8_film_X7_at rfl rfl rfl (by decide +kernel) rfl ⟨Nat.le_of_ble_eq_true rfl, Nat.le_of_ble_eq_true rfl⟩ ⟨Nat.zero_le _, Nat.zero_le _⟩ 0 7 rfl rfl rfl xE_ok hPc hDc hK (xE_ok.tr hE hS (g_freeX hD hS hA (by decide) (addr0 hw))) hl.1 (Nat.le_of_ble_eq_true rfl) dX8_film_93 rfl) hP hD hS hA (ks := [5]) (by decide) (addr0 hw) (fun k9 _ hk9 => rfl) (fun H1 hw1 => (List.forall_mem_cons.mpr ⟨hw1, (fun _ h9 => absurd h9 List.not_mem_nil)⟩)) rfl (fun H locs hP hS => ?_)
        obtain ⟨t0_96, hc96, h⟩ := b1_i h
        have hw : (wX5 (a 11) c (X (11 + 0))).map (·.1) = [11].flatMap (uA a) := rfl
        have hPc : va_P D vwCl (wX5 (a 11) c (X (11 + 0))) _ := hP 11 (by decide)
        have hDc : va_D A (wX5 (a 11) c (X (11 + 0))) := hD.of_addr (by decide) (by decide) hw
        refine g_X (X' := (xs X (11 + 0) t0_96)) (st1 := []) (gr_V (n := 2) (rest := []) (pc := 96) hx hb hml hown hts (cX5_set_met l D c tb sa sv (a 11) x5 r93 (X (11 + 0)) _ hc96) gX8_film_X5_set rfl rfl rfl (by decide +kernel) rfl ⟨Nat.le_of_ble_eq_true rfl, Nat.le_of_ble_eq_true rfl⟩ ⟨Nat.zero_le _, Nat.zero_le _⟩ 0 5 rfl rfl rfl xE_ok hPc hDc hK (xE_ok.tr hE hS (g_freeX hD hS hA (by decide) (addr0 hw))) hl.1 (Nat.le_of_ble_eq_true rfl) dX8_film_96 rfl) hP hD hS hA (ks := [11]) (by decide) (addr0 hw) (fun k9 _ hk9 => (xs_o hk9 (j := (11 + 0)) (by decide))) (fun H1 hw1 => (List.forall_mem_cons.mpr ⟨hw1, (fun _ h9 => absurd h9 List.not_mem_nil)⟩)) rfl (fun H locs hP hS => ?_)
        obtain ⟨v5_99, ev5_99, h⟩ := lt_i h
        refine lv_iinc (v := v5_99) (lv' := [(5, .int v5_99), (0, .ref (a 0 0)), (3, .int x3), (4, .ref ((a 11) 0))]) (pc := 99) hx hb dX8_film_99 hl (k := 3) rfl (by rw [ev5_99]; rfl) (by decide) rfl (fun ls hl => ?_)
        refine lv_goto (tgt := 77) (pc := 102) hx hb dX8_film_102 (by decide) ?_
        have jr := K77h x3 v5_99 ((xs X (11 + 0) t0_96)) _ _ ls h hP hS (lv_sub hl [1, 2, 3, 0] rfl)
        exact jr
  have J77_1 : ∀ (n : Nat) (x3 : Int32) (x5 : Int32) (X : XS) (H : Heap) (locs : List Loc) (ls : Array Slot), fX8_film_b77 1 n x3 x5 X = some (r0, z0) → XP D a c X H → va_S A s.heap H locs → lv_has ls 6 [(0, .ref (a 0 0)), (3, .int x3), (4, .ref ((a 12) 0)), (5, .int x5)] → W p l e rmX8_film s m args below meth cd H locs 0 0 Q (F0 m 77 ls []) := by
    intro n
    induction n with
    | zero =>
      intro x3 x5 X H locs ls h _ _ _
      cases (show (none : Option (Int32 × XS)) = some _ from h)
    | succ n K77h =>
      intro x3 x5 X H locs ls h hP hS hl
      rw [fX8_film_b77] at h
      refine lv_iload (pc := 77) hx hb dX8_film_77 (lv_at hl 3 rfl) ?_
      refine lv_iload_n (pc := 79) hx hb dX8_film_79 rfl (lv_at hl 1 rfl) ?_
      refine lv_icmp_ge (tgt := 105) (pc := 80) hx hb dX8_film_80 (by decide) (fun c80 => ?_) (fun c80 => ?_)
      · replace h := it_t c80 h
        refine lv_iload_n (pc := 105) hx hb dX8_film_105 rfl (lv_at hl 1 rfl) ?_
        have kr := KR x3 X _ _ 106 ls h rfl hP hS dX8_film_106
        exact kr
      · replace h := it_f c80 h
        refine lv_aload (pc := 83) hx hb dX8_film_83 (lv_at hl 2 rfl) ?_
        refine lv_iload (pc := 85) hx hb dX8_film_85 (lv_at hl 3 rfl) ?_
        refine lv_aload_n (pc := 87) hx hb dX8_film_87 rfl (lv_at hl 0 rfl) ?_
        refine va_get (D := D) (ci := 8) (v := .ref ((a 5) 0)) (C := RX8) (T := TX8) (N := 12) (pc := 88) hx hb hfX8 (fun _ h9 => h9) hown hK (show va_P D vwCl (wX8 a c (X 0)) _ from hP 0 (by decide)) 0 rfl rfl 4 (by decide) lk2 (fun _ h9 => h9) rfl dX8_film_88 ?_
        refine lv_iload (pc := 91) hx hb dX8_film_91 (lv_at hl 3 rfl) ?_
        obtain ⟨r93, hc93, h⟩ := b1_i h
        have hw : (wX7 (a 5) c (X 5)).map (·.1) = [5].flatMap (uA a) := rfl
        have hPc : va_P D vwCl (wX7 (a 5) c (X 5)) _ := hP 5 (by decide)
        have hDc : va_D A (wX7 (a 5) c (X 5)) := hD.of_addr (by decide) (by decide) hw
        refine g_X (X' := X) (st1 := [.int r93, .int x5, .ref ((a 12) 0)]) (gr_V (n := 1) (rest := [.int x5, .ref ((a 12) 0)]) (pc := 93) hx hb hml hown hts (cX7_at_met l D c tb sa sv (a 5) x5 (X 5) _ hc93) gX8_film_X7_at rfl rfl rfl (by decide +kernel) rfl ⟨Nat.le_of_ble_eq_true rfl, Nat.le_of_ble_eq_true rfl⟩ ⟨Nat.zero_le _, Nat.zero_le _⟩ 0 7 rfl rfl rfl xE_ok hPc hDc hK (xE_ok.tr hE hS (g_freeX hD hS hA (by decide) (addr0 hw))) hl.1 (Nat.le_of_ble_eq_true rfl) dX8_film_93 rfl) hP hD hS hA (ks := [5]) (by decide) (addr0 hw) (fun k9 _ hk9 => rfl) (fun H1 hw1 => (List.forall_mem_cons.mpr ⟨hw1, (fun _ h9 => absurd h9 List.not_mem_nil)⟩)) rfl (fun H locs hP hS => ?_)
        obtain ⟨t0_96, hc96, h⟩ := b1_i h
        have hw : (wX5 (a 12) c (X (11 + 1))).map (·.1) = [12].flatMap (uA a) := rfl
        have hPc : va_P D vwCl (wX5 (a 12) c (X (11 + 1))) _ := hP 12 (by decide)
        have hDc : va_D A (wX5 (a 12) c (X (11 + 1))) := hD.of_addr (by decide) (by decide) hw
        refine g_X (X' := (xs X (11 + 1) t0_96)) (st1 := []) (gr_V (n := 2) (rest := []) (pc := 96) hx hb hml hown hts (cX5_set_met l D c tb sa sv (a 12) x5 r93 (X (11 + 1)) _ hc96) gX8_film_X5_set rfl rfl rfl (by decide +kernel) rfl ⟨Nat.le_of_ble_eq_true rfl, Nat.le_of_ble_eq_true rfl⟩ ⟨Nat.zero_le _, Nat.zero_le _⟩ 0 5 rfl rfl rfl xE_ok hPc hDc hK (xE_ok.tr hE hS (g_freeX hD hS hA (by decide) (addr0 hw))) hl.1 (Nat.le_of_ble_eq_true rfl) dX8_film_96 rfl) hP hD hS hA (ks := [12]) (by decide) (addr0 hw) (fun k9 _ hk9 => (xs_o hk9 (j := (11 + 1)) (by decide))) (fun H1 hw1 => (List.forall_mem_cons.mpr ⟨hw1, (fun _ h9 => absurd h9 List.not_mem_nil)⟩)) rfl (fun H locs hP hS => ?_)
        obtain ⟨v5_99, ev5_99, h⟩ := lt_i h
        refine lv_iinc (v := v5_99) (lv' := [(5, .int v5_99), (0, .ref (a 0 0)), (3, .int x3), (4, .ref ((a 12) 0))]) (pc := 99) hx hb dX8_film_99 hl (k := 3) rfl (by rw [ev5_99]; rfl) (by decide) rfl (fun ls hl => ?_)
        refine lv_goto (tgt := 77) (pc := 102) hx hb dX8_film_102 (by decide) ?_
        have jr := K77h x3 v5_99 ((xs X (11 + 1) t0_96)) _ _ ls h hP hS (lv_sub hl [1, 2, 3, 0] rfl)
        exact jr
  have J77_2 : ∀ (n : Nat) (x3 : Int32) (x5 : Int32) (X : XS) (H : Heap) (locs : List Loc) (ls : Array Slot), fX8_film_b77 2 n x3 x5 X = some (r0, z0) → XP D a c X H → va_S A s.heap H locs → lv_has ls 6 [(0, .ref (a 0 0)), (3, .int x3), (4, .ref ((a 13) 0)), (5, .int x5)] → W p l e rmX8_film s m args below meth cd H locs 0 0 Q (F0 m 77 ls []) := by
    intro n
    induction n with
    | zero =>
      intro x3 x5 X H locs ls h _ _ _
      cases (show (none : Option (Int32 × XS)) = some _ from h)
    | succ n K77h =>
      intro x3 x5 X H locs ls h hP hS hl
      rw [fX8_film_b77] at h
      refine lv_iload (pc := 77) hx hb dX8_film_77 (lv_at hl 3 rfl) ?_
      refine lv_iload_n (pc := 79) hx hb dX8_film_79 rfl (lv_at hl 1 rfl) ?_
      refine lv_icmp_ge (tgt := 105) (pc := 80) hx hb dX8_film_80 (by decide) (fun c80 => ?_) (fun c80 => ?_)
      · replace h := it_t c80 h
        refine lv_iload_n (pc := 105) hx hb dX8_film_105 rfl (lv_at hl 1 rfl) ?_
        have kr := KR x3 X _ _ 106 ls h rfl hP hS dX8_film_106
        exact kr
      · replace h := it_f c80 h
        refine lv_aload (pc := 83) hx hb dX8_film_83 (lv_at hl 2 rfl) ?_
        refine lv_iload (pc := 85) hx hb dX8_film_85 (lv_at hl 3 rfl) ?_
        refine lv_aload_n (pc := 87) hx hb dX8_film_87 rfl (lv_at hl 0 rfl) ?_
        refine va_get (D := D) (ci := 8) (v := .ref ((a 5) 0)) (C := RX8) (T := TX8) (N := 12) (pc := 88) hx hb hfX8 (fun _ h9 => h9) hown hK (show va_P D vwCl (wX8 a c (X 0)) _ from hP 0 (by decide)) 0 rfl rfl 4 (by decide) lk2 (fun _ h9 => h9) rfl dX8_film_88 ?_
        refine lv_iload (pc := 91) hx hb dX8_film_91 (lv_at hl 3 rfl) ?_
        obtain ⟨r93, hc93, h⟩ := b1_i h
        have hw : (wX7 (a 5) c (X 5)).map (·.1) = [5].flatMap (uA a) := rfl
        have hPc : va_P D vwCl (wX7 (a 5) c (X 5)) _ := hP 5 (by decide)
        have hDc : va_D A (wX7 (a 5) c (X 5)) := hD.of_addr (by decide) (by decide) hw
        refine g_X (X' := X) (st1 := [.int r93, .int x5, .ref ((a 13) 0)]) (gr_V (n := 1) (rest := [.int x5, .ref ((a 13) 0)]) (pc := 93) hx hb hml hown hts (cX7_at_met l D c tb sa sv (a 5) x5 (X 5) _ hc93) gX8_film_X7_at rfl rfl rfl (by decide +kernel) rfl ⟨Nat.le_of_ble_eq_true rfl, Nat.le_of_ble_eq_true rfl⟩ ⟨Nat.zero_le _, Nat.zero_le _⟩ 0 7 rfl rfl rfl xE_ok hPc hDc hK (xE_ok.tr hE hS (g_freeX hD hS hA (by decide) (addr0 hw))) hl.1 (Nat.le_of_ble_eq_true rfl) dX8_film_93 rfl) hP hD hS hA (ks := [5]) (by decide) (addr0 hw) (fun k9 _ hk9 => rfl) (fun H1 hw1 => (List.forall_mem_cons.mpr ⟨hw1, (fun _ h9 => absurd h9 List.not_mem_nil)⟩)) rfl (fun H locs hP hS => ?_)
        obtain ⟨t0_96, hc96, h⟩ := b1_i h
        have hw : (wX5 (a 13) c (X (11 + 2))).map (·.1) = [13].flatMap (uA a) := rfl
        have hPc : va_P D vwCl (wX5 (a 13) c (X (11 + 2))) _ := hP 13 (by decide)
        have hDc : va_D A (wX5 (a 13) c (X (11 + 2))) := hD.of_addr (by decide) (by decide) hw
        refine g_X (X' := (xs X (11 + 2) t0_96)) (st1 := []) (gr_V (n := 2) (rest := []) (pc := 96) hx hb hml hown hts (cX5_set_met l D c tb sa sv (a 13) x5 r93 (X (11 + 2)) _ hc96) gX8_film_X5_set rfl rfl rfl (by decide +kernel) rfl ⟨Nat.le_of_ble_eq_true rfl, Nat.le_of_ble_eq_true rfl⟩ ⟨Nat.zero_le _, Nat.zero_le _⟩ 0 5 rfl rfl rfl xE_ok hPc hDc hK (xE_ok.tr hE hS (g_freeX hD hS hA (by decide) (addr0 hw))) hl.1 (Nat.le_of_ble_eq_true rfl) dX8_film_96 rfl) hP hD hS hA (ks := [13]) (by decide) (addr0 hw) (fun k9 _ hk9 => (xs_o hk9 (j := (11 + 2)) (by decide))) (fun H1 hw1 => (List.forall_mem_cons.mpr ⟨hw1, (fun _ h9 => absurd h9 List.not_mem_nil)⟩)) rfl (fun H locs hP hS => ?_)
        obtain ⟨v5_99, ev5_99, h⟩ := lt_i h
        refine lv_iinc (v := v5_99) (lv' := [(5, .int v5_99), (0, .ref (a 0 0)), (3, .int x3), (4, .ref ((a 13) 0))]) (pc := 99) hx hb dX8_film_99 hl (k := 3) rfl (by rw [ev5_99]; rfl) (by decide) rfl (fun ls hl => ?_)
        refine lv_goto (tgt := 77) (pc := 102) hx hb dX8_film_102 (by decide) ?_
        have jr := K77h x3 v5_99 ((xs X (11 + 2) t0_96)) _ _ ls h hP hS (lv_sub hl [1, 2, 3, 0] rfl)
        exact jr
  have J77_3 : ∀ (n : Nat) (x3 : Int32) (x5 : Int32) (X : XS) (H : Heap) (locs : List Loc) (ls : Array Slot), fX8_film_b77 3 n x3 x5 X = some (r0, z0) → XP D a c X H → va_S A s.heap H locs → lv_has ls 6 [(0, .ref (a 0 0)), (3, .int x3), (4, .ref ((a 14) 0)), (5, .int x5)] → W p l e rmX8_film s m args below meth cd H locs 0 0 Q (F0 m 77 ls []) := by
    intro n
    induction n with
    | zero =>
      intro x3 x5 X H locs ls h _ _ _
      cases (show (none : Option (Int32 × XS)) = some _ from h)
    | succ n K77h =>
      intro x3 x5 X H locs ls h hP hS hl
      rw [fX8_film_b77] at h
      refine lv_iload (pc := 77) hx hb dX8_film_77 (lv_at hl 3 rfl) ?_
      refine lv_iload_n (pc := 79) hx hb dX8_film_79 rfl (lv_at hl 1 rfl) ?_
      refine lv_icmp_ge (tgt := 105) (pc := 80) hx hb dX8_film_80 (by decide) (fun c80 => ?_) (fun c80 => ?_)
      · replace h := it_t c80 h
        refine lv_iload_n (pc := 105) hx hb dX8_film_105 rfl (lv_at hl 1 rfl) ?_
        have kr := KR x3 X _ _ 106 ls h rfl hP hS dX8_film_106
        exact kr
      · replace h := it_f c80 h
        refine lv_aload (pc := 83) hx hb dX8_film_83 (lv_at hl 2 rfl) ?_
        refine lv_iload (pc := 85) hx hb dX8_film_85 (lv_at hl 3 rfl) ?_
        refine lv_aload_n (pc := 87) hx hb dX8_film_87 rfl (lv_at hl 0 rfl) ?_
        refine va_get (D := D) (ci := 8) (v := .ref ((a 5) 0)) (C := RX8) (T := TX8) (N := 12) (pc := 88) hx hb hfX8 (fun _ h9 => h9) hown hK (show va_P D vwCl (wX8 a c (X 0)) _ from hP 0 (by decide)) 0 rfl rfl 4 (by decide) lk2 (fun _ h9 => h9) rfl dX8_film_88 ?_
        refine lv_iload (pc := 91) hx hb dX8_film_91 (lv_at hl 3 rfl) ?_
        obtain ⟨r93, hc93, h⟩ := b1_i h
        have hw : (wX7 (a 5) c (X 5)).map (·.1) = [5].flatMap (uA a) := rfl
        have hPc : va_P D vwCl (wX7 (a 5) c (X 5)) _ := hP 5 (by decide)
        have hDc : va_D A (wX7 (a 5) c (X 5)) := hD.of_addr (by decide) (by decide) hw
        refine g_X (X' := X) (st1 := [.int r93, .int x5, .ref ((a 14) 0)]) (gr_V (n := 1) (rest := [.int x5, .ref ((a 14) 0)]) (pc := 93) hx hb hml hown hts (cX7_at_met l D c tb sa sv (a 5) x5 (X 5) _ hc93) gX8_film_X7_at rfl rfl rfl (by decide +kernel) rfl ⟨Nat.le_of_ble_eq_true rfl, Nat.le_of_ble_eq_true rfl⟩ ⟨Nat.zero_le _, Nat.zero_le _⟩ 0 7 rfl rfl rfl xE_ok hPc hDc hK (xE_ok.tr hE hS (g_freeX hD hS hA (by decide) (addr0 hw))) hl.1 (Nat.le_of_ble_eq_true rfl) dX8_film_93 rfl) hP hD hS hA (ks := [5]) (by decide) (addr0 hw) (fun k9 _ hk9 => rfl) (fun H1 hw1 => (List.forall_mem_cons.mpr ⟨hw1, (fun _ h9 => absurd h9 List.not_mem_nil)⟩)) rfl (fun H locs hP hS => ?_)
        obtain ⟨t0_96, hc96, h⟩ := b1_i h
        have hw : (wX5 (a 14) c (X (11 + 3))).map (·.1) = [14].flatMap (uA a) := rfl
        have hPc : va_P D vwCl (wX5 (a 14) c (X (11 + 3))) _ := hP 14 (by decide)
        have hDc : va_D A (wX5 (a 14) c (X (11 + 3))) := hD.of_addr (by decide) (by decide) hw
        refine g_X (X' := (xs X (11 + 3) t0_96)) (st1 := []) (gr_V (n := 2) (rest := []) (pc := 96) hx hb hml hown hts (cX5_set_met l D c tb sa sv (a 14) x5 r93 (X (11 + 3)) _ hc96) gX8_film_X5_set rfl rfl rfl (by decide +kernel) rfl ⟨Nat.le_of_ble_eq_true rfl, Nat.le_of_ble_eq_true rfl⟩ ⟨Nat.zero_le _, Nat.zero_le _⟩ 0 5 rfl rfl rfl xE_ok hPc hDc hK (xE_ok.tr hE hS (g_freeX hD hS hA (by decide) (addr0 hw))) hl.1 (Nat.le_of_ble_eq_true rfl) dX8_film_96 rfl) hP hD hS hA (ks := [14]) (by decide) (addr0 hw) (fun k9 _ hk9 => (xs_o hk9 (j := (11 + 3)) (by decide))) (fun H1 hw1 => (List.forall_mem_cons.mpr ⟨hw1, (fun _ h9 => absurd h9 List.not_mem_nil)⟩)) rfl (fun H locs hP hS => ?_)
        obtain ⟨v5_99, ev5_99, h⟩ := lt_i h
        refine lv_iinc (v := v5_99) (lv' := [(5, .int v5_99), (0, .ref (a 0 0)), (3, .int x3), (4, .ref ((a 14) 0))]) (pc := 99) hx hb dX8_film_99 hl (k := 3) rfl (by rw [ev5_99]; rfl) (by decide) rfl (fun ls hl => ?_)
        refine lv_goto (tgt := 77) (pc := 102) hx hb dX8_film_102 (by decide) ?_
        have jr := K77h x3 v5_99 ((xs X (11 + 3) t0_96)) _ _ ls h hP hS (lv_sub hl [1, 2, 3, 0] rfl)
        exact jr
  refine lv_iload_n (pc := 0) hx hb dX8_film_0 rfl (lv_at hl 1 rfl) ?_
  obtain ⟨r1, hc1, h⟩ := b1_i h
  refine g_noneX (st1 := [.int r1]) (gr_S (n := 1) (rest := []) (pc := 1) hx hb hml hown hts (cX8_isSheet_met l D c tb sa sv p0 _ hc1) gX8_film_X8_isSheet rfl rfl rfl (by decide +kernel) rfl ⟨Nat.le_of_ble_eq_true rfl, Nat.le_of_ble_eq_true rfl⟩ ⟨Nat.zero_le _, Nat.zero_le _⟩ xE_ok g_P0 (g_D0 (A := A)) hK (xE_ok.tr hE hS (g_free0 hS hA)) hl.1 (Nat.le_of_ble_eq_true rfl) dX8_film_1 rfl) hP hS hA rfl (fun H locs hP hS => ?_)
  refine lv_if_eq (tgt := 24) (pc := 4) hx hb dX8_film_4 (by decide) (fun c4 => ?_) (fun c4 => ?_)
  · replace h := it_t c4 h
    refine lv_bipush (v := -2) (pc := 24) hx hb dX8_film_24 (by decide) ?_
    have kr := KR (-2 : Int32) X _ _ 26 ls h rfl hP hS dX8_film_26
    exact kr
  · replace h := it_f c4 h
    refine lv_iload_n (pc := 7) hx hb dX8_film_7 rfl (lv_at hl 2 rfl) ?_
    obtain ⟨r8, hc8, h⟩ := b1_i h
    refine g_noneX (st1 := [.int r8]) (gr_S (n := 1) (rest := []) (pc := 8) hx hb hml hown hts (cX8_isChangeCode_met l D c tb sa sv p1 _ hc8) gX8_film_X8_isChangeCode rfl rfl rfl (by decide +kernel) rfl ⟨Nat.le_of_ble_eq_true rfl, Nat.le_of_ble_eq_true rfl⟩ ⟨Nat.zero_le _, Nat.zero_le _⟩ xE_ok g_P0 (g_D0 (A := A)) hK (xE_ok.tr hE hS (g_free0 hS hA)) hl.1 (Nat.le_of_ble_eq_true rfl) dX8_film_8 rfl) hP hS hA rfl (fun H locs hP hS => ?_)
    refine lv_if_eq (tgt := 24) (pc := 11) hx hb dX8_film_11 (by decide) (fun c11 => ?_) (fun c11 => ?_)
    · replace h := it_t c11 h
      refine lv_bipush (v := -2) (pc := 24) hx hb dX8_film_24 (by decide) ?_
      have kr := KR (-2 : Int32) X _ _ 26 ls h rfl hP hS dX8_film_26
      exact kr
    · replace h := it_f c11 h
      refine lv_iload_n (pc := 14) hx hb dX8_film_14 rfl (lv_at hl 3 rfl) ?_
      refine lv_iconst (v := 0) (pc := 15) hx hb dX8_film_15 (by decide) ?_
      refine lv_bipush (v := 40) (pc := 16) hx hb dX8_film_16 (by decide) ?_
      obtain ⟨r18, hc18, h⟩ := b1_i h
      refine g_noneX (st1 := [.int r18]) (gr_S (n := 3) (rest := []) (pc := 18) hx hb hml hown hts (cX8_isWithin_met l D c tb sa sv p2 (0 : Int32) (40 : Int32) _ hc18) gX8_film_X8_isWithin rfl rfl rfl (by decide +kernel) rfl ⟨Nat.le_of_ble_eq_true rfl, Nat.le_of_ble_eq_true rfl⟩ ⟨Nat.zero_le _, Nat.zero_le _⟩ xE_ok g_P0 (g_D0 (A := A)) hK (xE_ok.tr hE hS (g_free0 hS hA)) hl.1 (Nat.le_of_ble_eq_true rfl) dX8_film_18 rfl) hP hS hA rfl (fun H locs hP hS => ?_)
      refine lv_if_ne (tgt := 27) (pc := 21) hx hb dX8_film_21 (by decide) (fun c21 => ?_) (fun c21 => ?_)
      · replace h := it_f c21 h
        refine lv_aload_n (pc := 27) hx hb dX8_film_27 rfl (lv_at hl 0 rfl) ?_
        refine va_get (D := D) (ci := 8) (v := .ref ((a 3) 0)) (C := RX8) (T := TX8) (N := 12) (pc := 28) hx hb hfX8 (fun _ h9 => h9) hown hK (show va_P D vwCl (wX8 a c (X 0)) _ from hP 0 (by decide)) 0 rfl rfl 2 (by decide) lk0 (fun _ h9 => h9) rfl dX8_film_28 ?_
        obtain ⟨r31, hc31, h⟩ := b1_i h
        have hw : (wX3 (a 3) c (X 3)).map (·.1) = [3].flatMap (uA a) := rfl
        have hPc : va_P D vwCl (wX3 (a 3) c (X 3)) _ := hP 3 (by decide)
        have hDc : va_D A (wX3 (a 3) c (X 3)) := hD.of_addr (by decide) (by decide) hw
        refine g_X (X' := X) (st1 := [.int r31]) (gr_V (n := 0) (rest := []) (pc := 31) hx hb hml hown hts (cX3_isEmpty_met l D c tb sa sv (a 3) (X 3) _ hc31) gX8_film_X3_isEmpty rfl rfl rfl (by decide +kernel) rfl ⟨Nat.le_of_ble_eq_true rfl, Nat.le_of_ble_eq_true rfl⟩ ⟨Nat.zero_le _, Nat.zero_le _⟩ 0 3 rfl rfl rfl xE_ok hPc hDc hK (xE_ok.tr hE hS (g_freeX hD hS hA (by decide) (addr0 hw))) hl.1 (Nat.le_of_ble_eq_true rfl) dX8_film_31 rfl) hP hD hS hA (ks := [3]) (by decide) (addr0 hw) (fun k9 _ hk9 => rfl) (fun H1 hw1 => (List.forall_mem_cons.mpr ⟨hw1, (fun _ h9 => absurd h9 List.not_mem_nil)⟩)) rfl (fun H locs hP hS => ?_)
        refine lv_if_eq (tgt := 40) (pc := 34) hx hb dX8_film_34 (by decide) (fun c34 => ?_) (fun c34 => ?_)
        · replace h := it_t c34 h
          refine lv_aload_n (pc := 40) hx hb dX8_film_40 rfl (lv_at hl 0 rfl) ?_
          refine va_get (D := D) (ci := 8) (v := .ref (a 0 1)) (C := RX8) (T := TX8) (N := 12) (pc := 41) hx hb hfX8 (fun _ h9 => h9) hown hK (show va_P D vwCl (wX8 a c (X 0)) _ from hP 0 (by decide)) 0 rfl rfl 11 (by decide) lk1 (fun _ h9 => h9) rfl dX8_film_41 ?_
          refine lv_iload_n (pc := 44) hx hb dX8_film_44 rfl (lv_at hl 1 rfl) ?_
          obtain ⟨hk45, h⟩ := ckI_i h
          obtain ⟨k45, ek45, h⟩ := lt_i h
          rcases g_four (by rw [ek45]; exact g_inlt hk45 : k45 < 4) with rfl | rfl | rfl | rfl
          · refine g_aald (v := a 11 0) (pc := 45) hx hb hK (show va_P D vwCl (wX8 a c (X 0)) _ from hP 0 (by decide)) 1 3 rfl rfl hk45 ek45 rfl dX8_film_45 ?_
            refine lv_astore (lv' := [(4, .ref ((a 11) 0)), (0, .ref (a 0 0)), (1, .int p0), (2, .int p1), (3, .int p2)]) (pc := 46) hx hb dX8_film_46 hl (by decide) rfl (fun ls hl => ?_)
            refine lv_aload (pc := 48) hx hb dX8_film_48 (lv_at hl 0 rfl) ?_
            refine lv_iconst (v := 0) (pc := 50) hx hb dX8_film_50 (by decide) ?_
            refine lv_iload_n (pc := 51) hx hb dX8_film_51 rfl (lv_at hl 4 rfl) ?_
            obtain ⟨t0_52, hc52, h⟩ := b1_i h
            have hw : (wX5 (a 11) c (X (11 + 0))).map (·.1) = [11].flatMap (uA a) := rfl
            have hPc : va_P D vwCl (wX5 (a 11) c (X (11 + 0))) _ := hP 11 (by decide)
            have hDc : va_D A (wX5 (a 11) c (X (11 + 0))) := hD.of_addr (by decide) (by decide) hw
            refine g_X (X' := (xs X (11 + 0) t0_52)) (st1 := []) (gr_V (n := 2) (rest := []) (pc := 52) hx hb hml hown hts (cX5_become_met l D c tb sa sv (a 11) (0 : Int32) p2 (X (11 + 0)) _ hc52) gX8_film_X5_become rfl rfl rfl (by decide +kernel) rfl ⟨Nat.le_of_ble_eq_true rfl, Nat.le_of_ble_eq_true rfl⟩ ⟨Nat.zero_le _, Nat.zero_le _⟩ 0 5 rfl rfl rfl xE_ok hPc hDc hK (xE_ok.tr hE hS (g_freeX hD hS hA (by decide) (addr0 hw))) hl.1 (Nat.le_of_ble_eq_true rfl) dX8_film_52 rfl) hP hD hS hA (ks := [11]) (by decide) (addr0 hw) (fun k9 _ hk9 => (xs_o hk9 (j := (11 + 0)) (by decide))) (fun H1 hw1 => (List.forall_mem_cons.mpr ⟨hw1, (fun _ h9 => absurd h9 List.not_mem_nil)⟩)) rfl (fun H locs hP hS => ?_)
            refine lv_aload_n (pc := 55) hx hb dX8_film_55 rfl (lv_at hl 1 rfl) ?_
            refine va_get (D := D) (ci := 8) (v := .ref ((a 5) 0)) (C := RX8) (T := TX8) (N := 12) (pc := 56) hx hb hfX8 (fun _ h9 => h9) hown hK (show va_P D vwCl (wX8 a c ((xs X (11 + 0) t0_52) 0)) _ from hP 0 (by decide)) 0 rfl rfl 4 (by decide) lk2 (fun _ h9 => h9) rfl dX8_film_56 ?_
            refine lv_aload_n (pc := 59) hx hb dX8_film_59 rfl (lv_at hl 1 rfl) ?_
            refine va_get (D := D) (ci := 8) (v := .ref ((a 3) 0)) (C := RX8) (T := TX8) (N := 12) (pc := 60) hx hb hfX8 (fun _ h9 => h9) hown hK (show va_P D vwCl (wX8 a c ((xs X (11 + 0) t0_52) 0)) _ from hP 0 (by decide)) 0 rfl rfl 2 (by decide) lk0 (fun _ h9 => h9) rfl dX8_film_60 ?_
            refine lv_iload_n (pc := 63) hx hb dX8_film_63 rfl (lv_at hl 3 rfl) ?_
            obtain ⟨r64, hc64, h⟩ := b1_i h
            refine g_noneX (st1 := [.int r64, .ref ((a 3) 0), .ref ((a 5) 0)]) (gr_S (n := 1) (rest := [.ref ((a 3) 0), .ref ((a 5) 0)]) (pc := 64) hx hb hml hown hts (cX8_xFrom_met l D c tb sa sv p1 _ hc64) gX8_film_X8_xFrom rfl rfl rfl (by decide +kernel) rfl ⟨Nat.le_of_ble_eq_true rfl, Nat.le_of_ble_eq_true rfl⟩ ⟨Nat.zero_le _, Nat.zero_le _⟩ xE_ok g_P0 (g_D0 (A := A)) hK (xE_ok.tr hE hS (g_free0 hS hA)) hl.1 (Nat.le_of_ble_eq_true rfl) dX8_film_64 rfl) hP hS hA rfl (fun H locs hP hS => ?_)
            refine lv_iload_n (pc := 67) hx hb dX8_film_67 rfl (lv_at hl 3 rfl) ?_
            obtain ⟨r68, hc68, h⟩ := b1_i h
            refine g_noneX (st1 := [.int r68, .int r64, .ref ((a 3) 0), .ref ((a 5) 0)]) (gr_S (n := 1) (rest := [.int r64, .ref ((a 3) 0), .ref ((a 5) 0)]) (pc := 68) hx hb hml hown hts (cX8_yFrom_met l D c tb sa sv p1 _ hc68) gX8_film_X8_yFrom rfl rfl rfl (by decide +kernel) rfl ⟨Nat.le_of_ble_eq_true rfl, Nat.le_of_ble_eq_true rfl⟩ ⟨Nat.zero_le _, Nat.zero_le _⟩ xE_ok g_P0 (g_D0 (A := A)) hK (xE_ok.tr hE hS (g_free0 hS hA)) hl.1 (Nat.le_of_ble_eq_true rfl) dX8_film_68 rfl) hP hS hA rfl (fun H locs hP hS => ?_)
            obtain ⟨t0_71, t1_71, hc71, h⟩ := b2_i h
            have hw : (wX7 (a 5) c ((xs X (11 + 0) t0_52) 5) ++ wX3 (a 3) c ((xs X (11 + 0) t0_52) 3)).map (·.1) = [5, 3].flatMap (uA a) := rfl
            have hPc : va_P D vwCl (wX7 (a 5) c ((xs X (11 + 0) t0_52) 5) ++ wX3 (a 3) c ((xs X (11 + 0) t0_52) 3)) _ := (hP 5 (by decide)).app (hP 3 (by decide))
            have hDc : va_D A (wX7 (a 5) c ((xs X (11 + 0) t0_52) 5) ++ wX3 (a 3) c ((xs X (11 + 0) t0_52) 3)) := hD.of_addr (by decide) (by decide) hw
            refine g_X (X' := (xs (xs (xs X (11 + 0) t0_52) 5 t0_71) 3 t1_71)) (st1 := []) (gr_V (n := 3) (rest := []) (pc := 71) hx hb hml hown hts (cX7_run_met l D c tb sa sv (a 5) (a 3) r64 r68 ((xs X (11 + 0) t0_52) 5) ((xs X (11 + 0) t0_52) 3) _ _ hc71) gX8_film_X7_run rfl rfl rfl (by decide +kernel) rfl ⟨Nat.le_of_ble_eq_true rfl, Nat.le_of_ble_eq_true rfl⟩ ⟨Nat.zero_le _, Nat.zero_le _⟩ 0 7 rfl rfl rfl xE_ok hPc hDc hK (xE_ok.tr hE hS (g_freeX hD hS hA (by decide) (addr0 hw))) hl.1 (Nat.le_of_ble_eq_true rfl) dX8_film_71 rfl) hP hD hS hA (ks := [5, 3]) (by decide) (addr0 hw) (fun k9 _ hk9 => ((xs_o hk9 (j := 3) (by decide))).trans (xs_o hk9 (j := 5) (by decide))) (fun H1 hw1 => (List.forall_mem_cons.mpr ⟨(vP_l hw1), (List.forall_mem_cons.mpr ⟨(vP_r hw1), (fun _ h9 => absurd h9 List.not_mem_nil)⟩)⟩)) rfl (fun H locs hP hS => ?_)
            refine lv_iconst (v := 0) (pc := 74) hx hb dX8_film_74 (by decide) ?_
            refine lv_istore (lv' := [(5, .int (0 : Int32)), (4, .ref ((a 11) 0)), (0, .ref (a 0 0)), (1, .int p0), (2, .int p1), (3, .int p2)]) (pc := 75) hx hb dX8_film_75 hl (by decide) rfl (fun ls hl => ?_)
            have jr := J77_0 FU p2 (0 : Int32) ((xs (xs (xs X (11 + 0) t0_52) 5 t0_71) 3 t1_71)) _ _ ls h hP hS (lv_sub hl [2, 5, 1, 0] rfl)
            exact jr
          · refine g_aald (v := a 12 0) (pc := 45) hx hb hK (show va_P D vwCl (wX8 a c (X 0)) _ from hP 0 (by decide)) 1 3 rfl rfl hk45 ek45 rfl dX8_film_45 ?_
            refine lv_astore (lv' := [(4, .ref ((a 12) 0)), (0, .ref (a 0 0)), (1, .int p0), (2, .int p1), (3, .int p2)]) (pc := 46) hx hb dX8_film_46 hl (by decide) rfl (fun ls hl => ?_)
            refine lv_aload (pc := 48) hx hb dX8_film_48 (lv_at hl 0 rfl) ?_
            refine lv_iconst (v := 0) (pc := 50) hx hb dX8_film_50 (by decide) ?_
            refine lv_iload_n (pc := 51) hx hb dX8_film_51 rfl (lv_at hl 4 rfl) ?_
            obtain ⟨t0_52, hc52, h⟩ := b1_i h
            have hw : (wX5 (a 12) c (X (11 + 1))).map (·.1) = [12].flatMap (uA a) := rfl
            have hPc : va_P D vwCl (wX5 (a 12) c (X (11 + 1))) _ := hP 12 (by decide)
            have hDc : va_D A (wX5 (a 12) c (X (11 + 1))) := hD.of_addr (by decide) (by decide) hw
            refine g_X (X' := (xs X (11 + 1) t0_52)) (st1 := []) (gr_V (n := 2) (rest := []) (pc := 52) hx hb hml hown hts (cX5_become_met l D c tb sa sv (a 12) (0 : Int32) p2 (X (11 + 1)) _ hc52) gX8_film_X5_become rfl rfl rfl (by decide +kernel) rfl ⟨Nat.le_of_ble_eq_true rfl, Nat.le_of_ble_eq_true rfl⟩ ⟨Nat.zero_le _, Nat.zero_le _⟩ 0 5 rfl rfl rfl xE_ok hPc hDc hK (xE_ok.tr hE hS (g_freeX hD hS hA (by decide) (addr0 hw))) hl.1 (Nat.le_of_ble_eq_true rfl) dX8_film_52 rfl) hP hD hS hA (ks := [12]) (by decide) (addr0 hw) (fun k9 _ hk9 => (xs_o hk9 (j := (11 + 1)) (by decide))) (fun H1 hw1 => (List.forall_mem_cons.mpr ⟨hw1, (fun _ h9 => absurd h9 List.not_mem_nil)⟩)) rfl (fun H locs hP hS => ?_)
            refine lv_aload_n (pc := 55) hx hb dX8_film_55 rfl (lv_at hl 1 rfl) ?_
            refine va_get (D := D) (ci := 8) (v := .ref ((a 5) 0)) (C := RX8) (T := TX8) (N := 12) (pc := 56) hx hb hfX8 (fun _ h9 => h9) hown hK (show va_P D vwCl (wX8 a c ((xs X (11 + 1) t0_52) 0)) _ from hP 0 (by decide)) 0 rfl rfl 4 (by decide) lk2 (fun _ h9 => h9) rfl dX8_film_56 ?_
            refine lv_aload_n (pc := 59) hx hb dX8_film_59 rfl (lv_at hl 1 rfl) ?_
            refine va_get (D := D) (ci := 8) (v := .ref ((a 3) 0)) (C := RX8) (T := TX8) (N := 12) (pc := 60) hx hb hfX8 (fun _ h9 => h9) hown hK (show va_P D vwCl (wX8 a c ((xs X (11 + 1) t0_52) 0)) _ from hP 0 (by decide)) 0 rfl rfl 2 (by decide) lk0 (fun _ h9 => h9) rfl dX8_film_60 ?_
            refine lv_iload_n (pc := 63) hx hb dX8_film_63 rfl (lv_at hl 3 rfl) ?_
            obtain ⟨r64, hc64, h⟩ := b1_i h
            refine g_noneX (st1 := [.int r64, .ref ((a 3) 0), .ref ((a 5) 0)]) (gr_S (n := 1) (rest := [.ref ((a 3) 0), .ref ((a 5) 0)]) (pc := 64) hx hb hml hown hts (cX8_xFrom_met l D c tb sa sv p1 _ hc64) gX8_film_X8_xFrom rfl rfl rfl (by decide +kernel) rfl ⟨Nat.le_of_ble_eq_true rfl, Nat.le_of_ble_eq_true rfl⟩ ⟨Nat.zero_le _, Nat.zero_le _⟩ xE_ok g_P0 (g_D0 (A := A)) hK (xE_ok.tr hE hS (g_free0 hS hA)) hl.1 (Nat.le_of_ble_eq_true rfl) dX8_film_64 rfl) hP hS hA rfl (fun H locs hP hS => ?_)
            refine lv_iload_n (pc := 67) hx hb dX8_film_67 rfl (lv_at hl 3 rfl) ?_
            obtain ⟨r68, hc68, h⟩ := b1_i h
            refine g_noneX (st1 := [.int r68, .int r64, .ref ((a 3) 0), .ref ((a 5) 0)]) (gr_S (n := 1) (rest := [.int r64, .ref ((a 3) 0), .ref ((a 5) 0)]) (pc := 68) hx hb hml hown hts (cX8_yFrom_met l D c tb sa sv p1 _ hc68) gX8_film_X8_yFrom rfl rfl rfl (by decide +kernel) rfl ⟨Nat.le_of_ble_eq_true rfl, Nat.le_of_ble_eq_true rfl⟩ ⟨Nat.zero_le _, Nat.zero_le _⟩ xE_ok g_P0 (g_D0 (A := A)) hK (xE_ok.tr hE hS (g_free0 hS hA)) hl.1 (Nat.le_of_ble_eq_true rfl) dX8_film_68 rfl) hP hS hA rfl (fun H locs hP hS => ?_)
            obtain ⟨t0_71, t1_71, hc71, h⟩ := b2_i h
            have hw : (wX7 (a 5) c ((xs X (11 + 1) t0_52) 5) ++ wX3 (a 3) c ((xs X (11 + 1) t0_52) 3)).map (·.1) = [5, 3].flatMap (uA a) := rfl
            have hPc : va_P D vwCl (wX7 (a 5) c ((xs X (11 + 1) t0_52) 5) ++ wX3 (a 3) c ((xs X (11 + 1) t0_52) 3)) _ := (hP 5 (by decide)).app (hP 3 (by decide))
            have hDc : va_D A (wX7 (a 5) c ((xs X (11 + 1) t0_52) 5) ++ wX3 (a 3) c ((xs X (11 + 1) t0_52) 3)) := hD.of_addr (by decide) (by decide) hw
            refine g_X (X' := (xs (xs (xs X (11 + 1) t0_52) 5 t0_71) 3 t1_71)) (st1 := []) (gr_V (n := 3) (rest := []) (pc := 71) hx hb hml hown hts (cX7_run_met l D c tb sa sv (a 5) (a 3) r64 r68 ((xs X (11 + 1) t0_52) 5) ((xs X (11 + 1) t0_52) 3) _ _ hc71) gX8_film_X7_run rfl rfl rfl (by decide +kernel) rfl ⟨Nat.le_of_ble_eq_true rfl, Nat.le_of_ble_eq_true rfl⟩ ⟨Nat.zero_le _, Nat.zero_le _⟩ 0 7 rfl rfl rfl xE_ok hPc hDc hK (xE_ok.tr hE hS (g_freeX hD hS hA (by decide) (addr0 hw))) hl.1 (Nat.le_of_ble_eq_true rfl) dX8_film_71 rfl) hP hD hS hA (ks := [5, 3]) (by decide) (addr0 hw) (fun k9 _ hk9 => ((xs_o hk9 (j := 3) (by decide))).trans (xs_o hk9 (j := 5) (by decide))) (fun H1 hw1 => (List.forall_mem_cons.mpr ⟨(vP_l hw1), (List.forall_mem_cons.mpr ⟨(vP_r hw1), (fun _ h9 => absurd h9 List.not_mem_nil)⟩)⟩)) rfl (fun H locs hP hS => ?_)
            refine lv_iconst (v := 0) (pc := 74) hx hb dX8_film_74 (by decide) ?_
            refine lv_istore (lv' := [(5, .int (0 : Int32)), (4, .ref ((a 12) 0)), (0, .ref (a 0 0)), (1, .int p0), (2, .int p1), (3, .int p2)]) (pc := 75) hx hb dX8_film_75 hl (by decide) rfl (fun ls hl => ?_)
            have jr := J77_1 FU p2 (0 : Int32) ((xs (xs (xs X (11 + 1) t0_52) 5 t0_71) 3 t1_71)) _ _ ls h hP hS (lv_sub hl [2, 5, 1, 0] rfl)
            exact jr
          · refine g_aald (v := a 13 0) (pc := 45) hx hb hK (show va_P D vwCl (wX8 a c (X 0)) _ from hP 0 (by decide)) 1 3 rfl rfl hk45 ek45 rfl dX8_film_45 ?_
            refine lv_astore (lv' := [(4, .ref ((a 13) 0)), (0, .ref (a 0 0)), (1, .int p0), (2, .int p1), (3, .int p2)]) (pc := 46) hx hb dX8_film_46 hl (by decide) rfl (fun ls hl => ?_)
            refine lv_aload (pc := 48) hx hb dX8_film_48 (lv_at hl 0 rfl) ?_
            refine lv_iconst (v := 0) (pc := 50) hx hb dX8_film_50 (by decide) ?_
            refine lv_iload_n (pc := 51) hx hb dX8_film_51 rfl (lv_at hl 4 rfl) ?_
            obtain ⟨t0_52, hc52, h⟩ := b1_i h
            have hw : (wX5 (a 13) c (X (11 + 2))).map (·.1) = [13].flatMap (uA a) := rfl
            have hPc : va_P D vwCl (wX5 (a 13) c (X (11 + 2))) _ := hP 13 (by decide)
            have hDc : va_D A (wX5 (a 13) c (X (11 + 2))) := hD.of_addr (by decide) (by decide) hw
            refine g_X (X' := (xs X (11 + 2) t0_52)) (st1 := []) (gr_V (n := 2) (rest := []) (pc := 52) hx hb hml hown hts (cX5_become_met l D c tb sa sv (a 13) (0 : Int32) p2 (X (11 + 2)) _ hc52) gX8_film_X5_become rfl rfl rfl (by decide +kernel) rfl ⟨Nat.le_of_ble_eq_true rfl, Nat.le_of_ble_eq_true rfl⟩ ⟨Nat.zero_le _, Nat.zero_le _⟩ 0 5 rfl rfl rfl xE_ok hPc hDc hK (xE_ok.tr hE hS (g_freeX hD hS hA (by decide) (addr0 hw))) hl.1 (Nat.le_of_ble_eq_true rfl) dX8_film_52 rfl) hP hD hS hA (ks := [13]) (by decide) (addr0 hw) (fun k9 _ hk9 => (xs_o hk9 (j := (11 + 2)) (by decide))) (fun H1 hw1 => (List.forall_mem_cons.mpr ⟨hw1, (fun _ h9 => absurd h9 List.not_mem_nil)⟩)) rfl (fun H locs hP hS => ?_)
            refine lv_aload_n (pc := 55) hx hb dX8_film_55 rfl (lv_at hl 1 rfl) ?_
            refine va_get (D := D) (ci := 8) (v := .ref ((a 5) 0)) (C := RX8) (T := TX8) (N := 12) (pc := 56) hx hb hfX8 (fun _ h9 => h9) hown hK (show va_P D vwCl (wX8 a c ((xs X (11 + 2) t0_52) 0)) _ from hP 0 (by decide)) 0 rfl rfl 4 (by decide) lk2 (fun _ h9 => h9) rfl dX8_film_56 ?_
            refine lv_aload_n (pc := 59) hx hb dX8_film_59 rfl (lv_at hl 1 rfl) ?_
            refine va_get (D := D) (ci := 8) (v := .ref ((a 3) 0)) (C := RX8) (T := TX8) (N := 12) (pc := 60) hx hb hfX8 (fun _ h9 => h9) hown hK (show va_P D vwCl (wX8 a c ((xs X (11 + 2) t0_52) 0)) _ from hP 0 (by decide)) 0 rfl rfl 2 (by decide) lk0 (fun _ h9 => h9) rfl dX8_film_60 ?_
            refine lv_iload_n (pc := 63) hx hb dX8_film_63 rfl (lv_at hl 3 rfl) ?_
            obtain ⟨r64, hc64, h⟩ := b1_i h
            refine g_noneX (st1 := [.int r64, .ref ((a 3) 0), .ref ((a 5) 0)]) (gr_S (n := 1) (rest := [.ref ((a 3) 0), .ref ((a 5) 0)]) (pc := 64) hx hb hml hown hts (cX8_xFrom_met l D c tb sa sv p1 _ hc64) gX8_film_X8_xFrom rfl rfl rfl (by decide +kernel) rfl ⟨Nat.le_of_ble_eq_true rfl, Nat.le_of_ble_eq_true rfl⟩ ⟨Nat.zero_le _, Nat.zero_le _⟩ xE_ok g_P0 (g_D0 (A := A)) hK (xE_ok.tr hE hS (g_free0 hS hA)) hl.1 (Nat.le_of_ble_eq_true rfl) dX8_film_64 rfl) hP hS hA rfl (fun H locs hP hS => ?_)
            refine lv_iload_n (pc := 67) hx hb dX8_film_67 rfl (lv_at hl 3 rfl) ?_
            obtain ⟨r68, hc68, h⟩ := b1_i h
            refine g_noneX (st1 := [.int r68, .int r64, .ref ((a 3) 0), .ref ((a 5) 0)]) (gr_S (n := 1) (rest := [.int r64, .ref ((a 3) 0), .ref ((a 5) 0)]) (pc := 68) hx hb hml hown hts (cX8_yFrom_met l D c tb sa sv p1 _ hc68) gX8_film_X8_yFrom rfl rfl rfl (by decide +kernel) rfl ⟨Nat.le_of_ble_eq_true rfl, Nat.le_of_ble_eq_true rfl⟩ ⟨Nat.zero_le _, Nat.zero_le _⟩ xE_ok g_P0 (g_D0 (A := A)) hK (xE_ok.tr hE hS (g_free0 hS hA)) hl.1 (Nat.le_of_ble_eq_true rfl) dX8_film_68 rfl) hP hS hA rfl (fun H locs hP hS => ?_)
            obtain ⟨t0_71, t1_71, hc71, h⟩ := b2_i h
            have hw : (wX7 (a 5) c ((xs X (11 + 2) t0_52) 5) ++ wX3 (a 3) c ((xs X (11 + 2) t0_52) 3)).map (·.1) = [5, 3].flatMap (uA a) := rfl
            have hPc : va_P D vwCl (wX7 (a 5) c ((xs X (11 + 2) t0_52) 5) ++ wX3 (a 3) c ((xs X (11 + 2) t0_52) 3)) _ := (hP 5 (by decide)).app (hP 3 (by decide))
            have hDc : va_D A (wX7 (a 5) c ((xs X (11 + 2) t0_52) 5) ++ wX3 (a 3) c ((xs X (11 + 2) t0_52) 3)) := hD.of_addr (by decide) (by decide) hw
            refine g_X (X' := (xs (xs (xs X (11 + 2) t0_52) 5 t0_71) 3 t1_71)) (st1 := []) (gr_V (n := 3) (rest := []) (pc := 71) hx hb hml hown hts (cX7_run_met l D c tb sa sv (a 5) (a 3) r64 r68 ((xs X (11 + 2) t0_52) 5) ((xs X (11 + 2) t0_52) 3) _ _ hc71) gX8_film_X7_run rfl rfl rfl (by decide +kernel) rfl ⟨Nat.le_of_ble_eq_true rfl, Nat.le_of_ble_eq_true rfl⟩ ⟨Nat.zero_le _, Nat.zero_le _⟩ 0 7 rfl rfl rfl xE_ok hPc hDc hK (xE_ok.tr hE hS (g_freeX hD hS hA (by decide) (addr0 hw))) hl.1 (Nat.le_of_ble_eq_true rfl) dX8_film_71 rfl) hP hD hS hA (ks := [5, 3]) (by decide) (addr0 hw) (fun k9 _ hk9 => ((xs_o hk9 (j := 3) (by decide))).trans (xs_o hk9 (j := 5) (by decide))) (fun H1 hw1 => (List.forall_mem_cons.mpr ⟨(vP_l hw1), (List.forall_mem_cons.mpr ⟨(vP_r hw1), (fun _ h9 => absurd h9 List.not_mem_nil)⟩)⟩)) rfl (fun H locs hP hS => ?_)
            refine lv_iconst (v := 0) (pc := 74) hx hb dX8_film_74 (by decide) ?_
            refine lv_istore (lv' := [(5, .int (0 : Int32)), (4, .ref ((a 13) 0)), (0, .ref (a 0 0)), (1, .int p0), (2, .int p1), (3, .int p2)]) (pc := 75) hx hb dX8_film_75 hl (by decide) rfl (fun ls hl => ?_)
            have jr := J77_2 FU p2 (0 : Int32) ((xs (xs (xs X (11 + 2) t0_52) 5 t0_71) 3 t1_71)) _ _ ls h hP hS (lv_sub hl [2, 5, 1, 0] rfl)
            exact jr
          · refine g_aald (v := a 14 0) (pc := 45) hx hb hK (show va_P D vwCl (wX8 a c (X 0)) _ from hP 0 (by decide)) 1 3 rfl rfl hk45 ek45 rfl dX8_film_45 ?_
            refine lv_astore (lv' := [(4, .ref ((a 14) 0)), (0, .ref (a 0 0)), (1, .int p0), (2, .int p1), (3, .int p2)]) (pc := 46) hx hb dX8_film_46 hl (by decide) rfl (fun ls hl => ?_)
            refine lv_aload (pc := 48) hx hb dX8_film_48 (lv_at hl 0 rfl) ?_
            refine lv_iconst (v := 0) (pc := 50) hx hb dX8_film_50 (by decide) ?_
            refine lv_iload_n (pc := 51) hx hb dX8_film_51 rfl (lv_at hl 4 rfl) ?_
            obtain ⟨t0_52, hc52, h⟩ := b1_i h
            have hw : (wX5 (a 14) c (X (11 + 3))).map (·.1) = [14].flatMap (uA a) := rfl
            have hPc : va_P D vwCl (wX5 (a 14) c (X (11 + 3))) _ := hP 14 (by decide)
            have hDc : va_D A (wX5 (a 14) c (X (11 + 3))) := hD.of_addr (by decide) (by decide) hw
            refine g_X (X' := (xs X (11 + 3) t0_52)) (st1 := []) (gr_V (n := 2) (rest := []) (pc := 52) hx hb hml hown hts (cX5_become_met l D c tb sa sv (a 14) (0 : Int32) p2 (X (11 + 3)) _ hc52) gX8_film_X5_become rfl rfl rfl (by decide +kernel) rfl ⟨Nat.le_of_ble_eq_true rfl, Nat.le_of_ble_eq_true rfl⟩ ⟨Nat.zero_le _, Nat.zero_le _⟩ 0 5 rfl rfl rfl xE_ok hPc hDc hK (xE_ok.tr hE hS (g_freeX hD hS hA (by decide) (addr0 hw))) hl.1 (Nat.le_of_ble_eq_true rfl) dX8_film_52 rfl) hP hD hS hA (ks := [14]) (by decide) (addr0 hw) (fun k9 _ hk9 => (xs_o hk9 (j := (11 + 3)) (by decide))) (fun H1 hw1 => (List.forall_mem_cons.mpr ⟨hw1, (fun _ h9 => absurd h9 List.not_mem_nil)⟩)) rfl (fun H locs hP hS => ?_)
            refine lv_aload_n (pc := 55) hx hb dX8_film_55 rfl (lv_at hl 1 rfl) ?_
            refine va_get (D := D) (ci := 8) (v := .ref ((a 5) 0)) (C := RX8) (T := TX8) (N := 12) (pc := 56) hx hb hfX8 (fun _ h9 => h9) hown hK (show va_P D vwCl (wX8 a c ((xs X (11 + 3) t0_52) 0)) _ from hP 0 (by decide)) 0 rfl rfl 4 (by decide) lk2 (fun _ h9 => h9) rfl dX8_film_56 ?_
            refine lv_aload_n (pc := 59) hx hb dX8_film_59 rfl (lv_at hl 1 rfl) ?_
            refine va_get (D := D) (ci := 8) (v := .ref ((a 3) 0)) (C := RX8) (T := TX8) (N := 12) (pc := 60) hx hb hfX8 (fun _ h9 => h9) hown hK (show va_P D vwCl (wX8 a c ((xs X (11 + 3) t0_52) 0)) _ from hP 0 (by decide)) 0 rfl rfl 2 (by decide) lk0 (fun _ h9 => h9) rfl dX8_film_60 ?_
            refine lv_iload_n (pc := 63) hx hb dX8_film_63 rfl (lv_at hl 3 rfl) ?_
            obtain ⟨r64, hc64, h⟩ := b1_i h
            refine g_noneX (st1 := [.int r64, .ref ((a 3) 0), .ref ((a 5) 0)]) (gr_S (n := 1) (rest := [.ref ((a 3) 0), .ref ((a 5) 0)]) (pc := 64) hx hb hml hown hts (cX8_xFrom_met l D c tb sa sv p1 _ hc64) gX8_film_X8_xFrom rfl rfl rfl (by decide +kernel) rfl ⟨Nat.le_of_ble_eq_true rfl, Nat.le_of_ble_eq_true rfl⟩ ⟨Nat.zero_le _, Nat.zero_le _⟩ xE_ok g_P0 (g_D0 (A := A)) hK (xE_ok.tr hE hS (g_free0 hS hA)) hl.1 (Nat.le_of_ble_eq_true rfl) dX8_film_64 rfl) hP hS hA rfl (fun H locs hP hS => ?_)
            refine lv_iload_n (pc := 67) hx hb dX8_film_67 rfl (lv_at hl 3 rfl) ?_
            obtain ⟨r68, hc68, h⟩ := b1_i h
            refine g_noneX (st1 := [.int r68, .int r64, .ref ((a 3) 0), .ref ((a 5) 0)]) (gr_S (n := 1) (rest := [.int r64, .ref ((a 3) 0), .ref ((a 5) 0)]) (pc := 68) hx hb hml hown hts (cX8_yFrom_met l D c tb sa sv p1 _ hc68) gX8_film_X8_yFrom rfl rfl rfl (by decide +kernel) rfl ⟨Nat.le_of_ble_eq_true rfl, Nat.le_of_ble_eq_true rfl⟩ ⟨Nat.zero_le _, Nat.zero_le _⟩ xE_ok g_P0 (g_D0 (A := A)) hK (xE_ok.tr hE hS (g_free0 hS hA)) hl.1 (Nat.le_of_ble_eq_true rfl) dX8_film_68 rfl) hP hS hA rfl (fun H locs hP hS => ?_)
            obtain ⟨t0_71, t1_71, hc71, h⟩ := b2_i h
            have hw : (wX7 (a 5) c ((xs X (11 + 3) t0_52) 5) ++ wX3 (a 3) c ((xs X (11 + 3) t0_52) 3)).map (·.1) = [5, 3].flatMap (uA a) := rfl
            have hPc : va_P D vwCl (wX7 (a 5) c ((xs X (11 + 3) t0_52) 5) ++ wX3 (a 3) c ((xs X (11 + 3) t0_52) 3)) _ := (hP 5 (by decide)).app (hP 3 (by decide))
            have hDc : va_D A (wX7 (a 5) c ((xs X (11 + 3) t0_52) 5) ++ wX3 (a 3) c ((xs X (11 + 3) t0_52) 3)) := hD.of_addr (by decide) (by decide) hw
            refine g_X (X' := (xs (xs (xs X (11 + 3) t0_52) 5 t0_71) 3 t1_71)) (st1 := []) (gr_V (n := 3) (rest := []) (pc := 71) hx hb hml hown hts (cX7_run_met l D c tb sa sv (a 5) (a 3) r64 r68 ((xs X (11 + 3) t0_52) 5) ((xs X (11 + 3) t0_52) 3) _ _ hc71) gX8_film_X7_run rfl rfl rfl (by decide +kernel) rfl ⟨Nat.le_of_ble_eq_true rfl, Nat.le_of_ble_eq_true rfl⟩ ⟨Nat.zero_le _, Nat.zero_le _⟩ 0 7 rfl rfl rfl xE_ok hPc hDc hK (xE_ok.tr hE hS (g_freeX hD hS hA (by decide) (addr0 hw))) hl.1 (Nat.le_of_ble_eq_true rfl) dX8_film_71 rfl) hP hD hS hA (ks := [5, 3]) (by decide) (addr0 hw) (fun k9 _ hk9 => ((xs_o hk9 (j := 3) (by decide))).trans (xs_o hk9 (j := 5) (by decide))) (fun H1 hw1 => (List.forall_mem_cons.mpr ⟨(vP_l hw1), (List.forall_mem_cons.mpr ⟨(vP_r hw1), (fun _ h9 => absurd h9 List.not_mem_nil)⟩)⟩)) rfl (fun H locs hP hS => ?_)
            refine lv_iconst (v := 0) (pc := 74) hx hb dX8_film_74 (by decide) ?_
            refine lv_istore (lv' := [(5, .int (0 : Int32)), (4, .ref ((a 14) 0)), (0, .ref (a 0 0)), (1, .int p0), (2, .int p1), (3, .int p2)]) (pc := 75) hx hb dX8_film_75 hl (by decide) rfl (fun ls hl => ?_)
            have jr := J77_3 FU p2 (0 : Int32) ((xs (xs (xs X (11 + 3) t0_52) 5 t0_71) 3 t1_71)) _ _ ls h hP hS (lv_sub hl [2, 5, 1, 0] rfl)
            exact jr
        · replace h := it_f c34 h
          refine lv_bipush (v := -3) (pc := 37) hx hb dX8_film_37 (by decide) ?_
          have kr := KR (-3 : Int32) X _ _ 39 ls h rfl hP hS dX8_film_39
          exact kr
      · replace h := it_t c21 h
        refine lv_bipush (v := -2) (pc := 24) hx hb dX8_film_24 (by decide) ?_
        have kr := KR (-2 : Int32) X _ _ 26 ls h rfl hP hS dX8_film_26
        exact kr
abbrev rmX1_takeLatest : Room := { frames := 0, cells := 0, slots := 0, locals := 0 }
set_option maxRecDepth 100000 in
set_option maxHeartbeats 40000000 in
theorem cX1_takeLatest_met (l : Launch) (D : va_G) (c : Nat → ClassId) (tb : Nat) (sa sv : Nat → Nat) (a0 : Nat → Nat) (s0 : Mem) (r0 : Int32) (z0 : Mem) (h : fX1_takeLatest s0 = some (r0, z0)) : gM l yX1_takeLatest wsX1_takeLatest rmX1_takeLatest D (gY c) (xE tb sa sv) [.ref (a0 0)] (wX1 a0 c s0) (some (.int r0)) (wX1 a0 c z0) := by
  unfold fX1_takeLatest at h
  refine gM.I (cc := cX1_takeLatest) (maxL := 1) (by decide) rfl (Nat.le_of_ble_eq_true rfl) ?_
  intro p e s m args below meth cd hx hb hml hown hts A hA ls hl hP hK hD hS hE Q KR0
  have hfX1 : ∀ w ∈ u_ws RX1 TX1 5, w.before args s = true := fun w hw => hts w (List.mem_cons_of_mem _ (List.mem_append_right _ hw))
  have lk0 := hts (.fieldLink RX1 22 "GlitchNets$Deeds" "size" "I") (List.mem_of_getElem? (i := 1) rfl)
  have KR : ∀ (v : Int32) (w0 : Mem) (H : Heap) (locs : List Loc) (pc : Nat) (ls : Array Slot), some (v, w0) = some (r0, z0) → narrow .int (.int v) = .int v → va_P D vwCl (wX1 a0 c w0) H → va_D A (wX1 a0 c w0) → va_S A s.heap H locs → decode cX1_takeLatest pc = .ok (.ireturn, 1) → W p l e rmX1_takeLatest s m args below meth cd H locs 0 0 Q (F0 m pc ls [.int v]) := by
    intro v w0 H locs pc ls hr hn hP hD hS hd
    cases hr
    exact KR0 _ H locs pc ls rfl hn hP hD hS hd
  have hl : lv_has ls 1 [(0, .ref (a0 0))] := hl
  refine lv_aload_n (pc := 0) hx hb dX1_takeLatest_0 rfl (lv_at hl 0 rfl) ?_
  refine va_get (D := D) (ci := 1) (v := .int (s0.1 4 0)) (C := RX1) (T := TX1) (N := 5) (pc := 1) hx hb hfX1 (fun _ h9 => h9) hown hK hP 0 rfl rfl 4 (by decide) lk0 (fun _ h9 => h9) rfl dX1_takeLatest_1 ?_
  refine lv_if_le (tgt := 17) (pc := 4) hx hb dX1_takeLatest_4 (by decide) (fun c4 => ?_) (fun c4 => ?_)
  · replace h := it_t c4 h
    refine lv_aload_n (pc := 17) hx hb dX1_takeLatest_17 rfl (lv_at hl 0 rfl) ?_
    refine va_get (D := D) (ci := 1) (v := .int (s0.1 4 0)) (C := RX1) (T := TX1) (N := 5) (pc := 18) hx hb hfX1 (fun _ h9 => h9) hown hK hP 0 rfl rfl 4 (by decide) lk0 (fun _ h9 => h9) rfl dX1_takeLatest_18 ?_
    have kr := KR (s0.1 4 0) s0 _ _ 21 ls h rfl hP hD hS dX1_takeLatest_21
    exact kr
  · replace h := it_f c4 h
    refine lv_aload_n (pc := 7) hx hb dX1_takeLatest_7 rfl (lv_at hl 0 rfl) ?_
    refine lv_dup (pc := 8) hx hb dX1_takeLatest_8 rfl ?_
    refine va_get (D := D) (ci := 1) (v := .int (s0.1 4 0)) (C := RX1) (T := TX1) (N := 5) (pc := 9) hx hb hfX1 (fun _ h9 => h9) hown hK hP 0 rfl rfl 4 (by decide) lk0 (fun _ h9 => h9) rfl dX1_takeLatest_9 ?_
    refine lv_iconst (v := 1) (pc := 12) hx hb dX1_takeLatest_12 (by decide) ?_
    refine lv_isub (pc := 13) hx hb dX1_takeLatest_13 ?_
    refine va_put (D := D) (ci := 1) (v := .int ((s0.1 4 0) - (1 : Int32))) (ty := .int) (C := RX1) (T := TX1) (N := 5) (pc := 14) hx hb hfX1 (fun _ h9 => h9) tyX1 tyX1_ok nmX1 hown hK hP hD hS 0 rfl rfl 4 (by decide) lk0 (fun _ h9 => h9) rfl (by decide +kernel) rfl rfl (Nat.le_of_ble_eq_true rfl) dX1_takeLatest_14 (fun H locs hP hD hS => ?_)
    have hP : va_P D vwCl (wX1 a0 c (mi s0 4 0 ((s0.1 4 0) - (1 : Int32)))) H := hP
    have hD : va_D A (wX1 a0 c (mi s0 4 0 ((s0.1 4 0) - (1 : Int32)))) := hD
    refine lv_aload_n (pc := 17) hx hb dX1_takeLatest_17 rfl (lv_at hl 0 rfl) ?_
    refine va_get (D := D) (ci := 1) (v := .int ((mi s0 4 0 ((s0.1 4 0) - (1 : Int32))).1 4 0)) (C := RX1) (T := TX1) (N := 5) (pc := 18) hx hb hfX1 (fun _ h9 => h9) hown hK hP 0 rfl rfl 4 (by decide) lk0 (fun _ h9 => h9) rfl dX1_takeLatest_18 ?_
    have kr := KR ((mi s0 4 0 ((s0.1 4 0) - (1 : Int32))).1 4 0) (mi s0 4 0 ((s0.1 4 0) - (1 : Int32))) _ _ 21 ls h rfl hP hD hS dX1_takeLatest_21
    exact kr
abbrev rmX8_undo : Room := { frames := 2, cells := 0, slots := 0, locals := 44 }
set_option maxRecDepth 100000 in
set_option maxHeartbeats 40000000 in
theorem cX8_undo_met (l : Launch) (D : va_G) (c : Nat → ClassId) (tb : Nat) (sa sv : Nat → Nat) (a : Nat → Nat → Nat) (X : XS) (r0 : Int32) (z0 : XS) (h : fX8_undo X = some (r0, z0)) : gM l yX8_undo wsX8_undo rmX8_undo D (gY c) (xE tb sa sv) [.ref (a 0 0)] (wX a c X) (some (.int r0)) (wX a c z0) := by
  unfold fX8_undo at h
  refine gM.I (cc := cX8_undo) (maxL := 3) (by decide) rfl (Nat.le_of_ble_eq_true rfl) ?_
  intro p e s m args below meth cd hx hb hml hown hts A hA ls hl hP hK hD hS hE Q KR0
  have hfX1 : ∀ w ∈ u_ws RX1 TX1 5, w.before args s = true := fun w hw => hts w (List.mem_cons_of_mem _ (List.mem_append_left _ (List.mem_append_left _ (List.mem_append_right _ hw))))
  have hfX8 : ∀ w ∈ u_ws RX8 TX8 12, w.before args s = true := fun w hw => hts w (List.mem_cons_of_mem _ (List.mem_append_left _ (List.mem_append_left _ (List.mem_append_left _ (List.mem_append_right _ hw)))))
  have lk0 := hts (.fieldLink RX8 57 "GlitchNets" "deeds" "LGlitchNets$Deeds;") (List.mem_of_getElem? (i := 1) rfl)
  have lk1 := hts (.fieldLink RX8 137 "GlitchNets$Deeds" "size" "I") (List.mem_of_getElem? (i := 2) rfl)
  have lk2 := hts (.fieldLink RX8 275 "GlitchNets$Deeds" "places" "[I") (List.mem_of_getElem? (i := 3) rfl)
  have lk3 := hts (.fieldLink RX8 278 "GlitchNets$Deeds" "sorts" "[I") (List.mem_of_getElem? (i := 4) rfl)
  have lk4 := hts (.fieldLink RX8 43 "GlitchNets" "cover" "LGlitchNets$Cover;") (List.mem_of_getElem? (i := 7) rfl)
  have lk5 := hts (.fieldLink RX8 281 "GlitchNets$Deeds" "firsts" "[I") (List.mem_of_getElem? (i := 6) rfl)
  have lk6 := hts (.fieldLink RX8 285 "GlitchNets$Deeds" "seconds" "[I") (List.mem_of_getElem? (i := 8) rfl)
  have lk7 := hts (.fieldLink RX8 26 "GlitchNets" "net" "LGlitchNets$Net;") (List.mem_of_getElem? (i := 5) rfl)
  have hP := XP_iff.mp hP
  have hD := XD_of hD
  have KR : ∀ (v : Int32) (w0 : XS) (H : Heap) (locs : List Loc) (pc : Nat) (ls : Array Slot), some (v, w0) = some (r0, z0) → narrow .int (.int v) = .int v → XP D a c w0 H → va_S A s.heap H locs → decode cX8_undo pc = .ok (.ireturn, 1) → W p l e rmX8_undo s m args below meth cd H locs 0 0 Q (F0 m pc ls [.int v]) := by
    intro v w0 H locs pc ls hr hn hP hS hd
    cases hr
    exact KR0 _ H locs pc ls rfl hn (XP_iff.mpr hP) (hD.all c _) hS hd
  have hl : lv_has ls 3 [(0, .ref (a 0 0))] := hl
  refine lv_aload_n (pc := 0) hx hb dX8_undo_0 rfl (lv_at hl 0 rfl) ?_
  refine va_get (D := D) (ci := 8) (v := .ref ((a 8) 0)) (C := RX8) (T := TX8) (N := 12) (pc := 1) hx hb hfX8 (fun _ h9 => h9) hown hK (show va_P D vwCl (wX8 a c (X 0)) _ from hP 0 (by decide)) 0 rfl rfl 7 (by decide) lk0 (fun _ h9 => h9) rfl dX8_undo_1 ?_
  refine va_get (D := D) (ci := 1) (v := .int ((X 8).1 4 0)) (C := RX1) (T := TX1) (N := 5) (pc := 4) hx hb hfX1 (fun _ h9 => h9) hown hK (show va_P D vwCl (wX1 (a 8) c (X 8)) _ from hP 8 (by decide)) 0 rfl rfl 4 (by decide) lk1 (fun _ h9 => h9) rfl dX8_undo_4 ?_
  refine lv_if_ne (tgt := 13) (pc := 7) hx hb dX8_undo_7 (by decide) (fun c7 => ?_) (fun c7 => ?_)
  · replace h := it_f c7 h
    refine lv_aload_n (pc := 13) hx hb dX8_undo_13 rfl (lv_at hl 0 rfl) ?_
    refine va_get (D := D) (ci := 8) (v := .ref ((a 8) 0)) (C := RX8) (T := TX8) (N := 12) (pc := 14) hx hb hfX8 (fun _ h9 => h9) hown hK (show va_P D vwCl (wX8 a c (X 0)) _ from hP 0 (by decide)) 0 rfl rfl 7 (by decide) lk0 (fun _ h9 => h9) rfl dX8_undo_14 ?_
    obtain ⟨r17, t0_17, hc17, h⟩ := b2_i h
    have hw : (wX1 (a 8) c (X 8)).map (·.1) = [8].flatMap (uA a) := rfl
    have hPc : va_P D vwCl (wX1 (a 8) c (X 8)) _ := hP 8 (by decide)
    have hDc : va_D A (wX1 (a 8) c (X 8)) := hD.of_addr (by decide) (by decide) hw
    refine g_X (X' := (xs X 8 t0_17)) (st1 := [.int r17]) (gr_V (n := 0) (rest := []) (pc := 17) hx hb hml hown hts (cX1_takeLatest_met l D c tb sa sv (a 8) (X 8) _ _ hc17) gX8_undo_X1_takeLatest rfl rfl rfl (by decide +kernel) rfl ⟨Nat.le_of_ble_eq_true rfl, Nat.le_of_ble_eq_true rfl⟩ ⟨Nat.zero_le _, Nat.zero_le _⟩ 0 1 rfl rfl rfl xE_ok hPc hDc hK (xE_ok.tr hE hS (g_freeX hD hS hA (by decide) (addr0 hw))) hl.1 (Nat.le_of_ble_eq_true rfl) dX8_undo_17 rfl) hP hD hS hA (ks := [8]) (by decide) (addr0 hw) (fun k9 _ hk9 => (xs_o hk9 (j := 8) (by decide))) (fun H1 hw1 => (List.forall_mem_cons.mpr ⟨hw1, (fun _ h9 => absurd h9 List.not_mem_nil)⟩)) rfl (fun H locs hP hS => ?_)
    refine lv_istore_n (lv' := [(1, .int r17), (0, .ref (a 0 0))]) (pc := 20) hx hb dX8_undo_20 rfl hl (by decide) rfl (fun ls hl => ?_)
    refine lv_aload_n (pc := 21) hx hb dX8_undo_21 rfl (lv_at hl 1 rfl) ?_
    refine va_get (D := D) (ci := 8) (v := .ref ((a 8) 0)) (C := RX8) (T := TX8) (N := 12) (pc := 22) hx hb hfX8 (fun _ h9 => h9) hown hK (show va_P D vwCl (wX8 a c ((xs X 8 t0_17) 0)) _ from hP 0 (by decide)) 0 rfl rfl 7 (by decide) lk0 (fun _ h9 => h9) rfl dX8_undo_22 ?_
    refine va_get (D := D) (ci := 1) (v := .ref ((a 8) 2)) (C := RX1) (T := TX1) (N := 5) (pc := 25) hx hb hfX1 (fun _ h9 => h9) hown hK (show va_P D vwCl (wX1 (a 8) c ((xs X 8 t0_17) 8)) _ from hP 8 (by decide)) 0 rfl rfl 1 (by decide) lk2 (fun _ h9 => h9) rfl dX8_undo_25 ?_
    refine lv_iload_n (pc := 28) hx hb dX8_undo_28 rfl (lv_at hl 0 rfl) ?_
    obtain ⟨hk29, h⟩ := ckI_i h
    refine va_iald (D := D) (f := (((xs X 8 t0_17) 8).1 1)) (pc := 29) hx hb hK (show va_P D vwCl (wX1 (a 8) c ((xs X 8 t0_17) 8)) _ from hP 8 (by decide)) 2 0 rfl rfl hk29 dX8_undo_29 ?_
    refine lv_topi (fun v2_30 ev2_30 => ?_)
    replace h := lt_e ev2_30 h
    refine lv_istore_n (lv' := [(2, .int v2_30), (1, .int r17), (0, .ref (a 0 0))]) (pc := 30) hx hb dX8_undo_30 rfl hl (by decide) rfl (fun ls hl => ?_)
    refine lv_aload_n (pc := 31) hx hb dX8_undo_31 rfl (lv_at hl 2 rfl) ?_
    refine va_get (D := D) (ci := 8) (v := .ref ((a 8) 0)) (C := RX8) (T := TX8) (N := 12) (pc := 32) hx hb hfX8 (fun _ h9 => h9) hown hK (show va_P D vwCl (wX8 a c ((xs X 8 t0_17) 0)) _ from hP 0 (by decide)) 0 rfl rfl 7 (by decide) lk0 (fun _ h9 => h9) rfl dX8_undo_32 ?_
    refine va_get (D := D) (ci := 1) (v := .ref ((a 8) 1)) (C := RX1) (T := TX1) (N := 5) (pc := 35) hx hb hfX1 (fun _ h9 => h9) hown hK (show va_P D vwCl (wX1 (a 8) c ((xs X 8 t0_17) 8)) _ from hP 8 (by decide)) 0 rfl rfl 0 (by decide) lk3 (fun _ h9 => h9) rfl dX8_undo_35 ?_
    refine lv_iload_n (pc := 38) hx hb dX8_undo_38 rfl (lv_at hl 1 rfl) ?_
    obtain ⟨hk39, h⟩ := ckI_i h
    refine va_iald (D := D) (f := (((xs X 8 t0_17) 8).1 0)) (pc := 39) hx hb hK (show va_P D vwCl (wX1 (a 8) c ((xs X 8 t0_17) 8)) _ from hP 8 (by decide)) 1 0 rfl rfl hk39 dX8_undo_39 ?_
    by_cases c40_0 : ((((xs X 8 t0_17) 8).1 0) (r17).toNatClampNeg) = (0 : Int32)
    · replace h := it_t c40_0 h
      refine lv_tableIn (tgt := 68) (off := 28) (pc := 40) hx hb dX8_undo_40 (by rw [c40_0]; decide) (by rw [c40_0]; decide) (by rw [c40_0]; rfl) (by decide) ?_
      refine lv_aload_n (pc := 68) hx hb dX8_undo_68 rfl (lv_at hl 2 rfl) ?_
      refine va_get (D := D) (ci := 8) (v := .ref ((a 3) 0)) (C := RX8) (T := TX8) (N := 12) (pc := 69) hx hb hfX8 (fun _ h9 => h9) hown hK (show va_P D vwCl (wX8 a c ((xs X 8 t0_17) 0)) _ from hP 0 (by decide)) 0 rfl rfl 2 (by decide) lk7 (fun _ h9 => h9) rfl dX8_undo_69 ?_
      obtain ⟨t0_72, hc72, h⟩ := b1_i h
      have hw : (wX3 (a 3) c ((xs X 8 t0_17) 3)).map (·.1) = [3].flatMap (uA a) := rfl
      have hPc : va_P D vwCl (wX3 (a 3) c ((xs X 8 t0_17) 3)) _ := hP 3 (by decide)
      have hDc : va_D A (wX3 (a 3) c ((xs X 8 t0_17) 3)) := hD.of_addr (by decide) (by decide) hw
      refine g_X (X' := (xs (xs X 8 t0_17) 3 t0_72)) (st1 := []) (gr_V (n := 0) (rest := []) (pc := 72) hx hb hml hown hts (cX3_removeLast_met l D c tb sa sv (a 3) ((xs X 8 t0_17) 3) _ hc72) gX8_undo_X3_removeLast rfl rfl rfl (by decide +kernel) rfl ⟨Nat.le_of_ble_eq_true rfl, Nat.le_of_ble_eq_true rfl⟩ ⟨Nat.zero_le _, Nat.zero_le _⟩ 0 3 rfl rfl rfl xE_ok hPc hDc hK (xE_ok.tr hE hS (g_freeX hD hS hA (by decide) (addr0 hw))) hl.1 (Nat.le_of_ble_eq_true rfl) dX8_undo_72 rfl) hP hD hS hA (ks := [3]) (by decide) (addr0 hw) (fun k9 _ hk9 => (xs_o hk9 (j := 3) (by decide))) (fun H1 hw1 => (List.forall_mem_cons.mpr ⟨hw1, (fun _ h9 => absurd h9 List.not_mem_nil)⟩)) rfl (fun H locs hP hS => ?_)
      refine lv_goto (tgt := 135) (pc := 75) hx hb dX8_undo_75 (by decide) ?_
      refine lv_aload_n (pc := 135) hx hb dX8_undo_135 rfl (lv_at hl 2 rfl) ?_
      refine va_get (D := D) (ci := 8) (v := .ref ((a 8) 0)) (C := RX8) (T := TX8) (N := 12) (pc := 136) hx hb hfX8 (fun _ h9 => h9) hown hK (show va_P D vwCl (wX8 a c ((xs (xs X 8 t0_17) 3 t0_72) 0)) _ from hP 0 (by decide)) 0 rfl rfl 7 (by decide) lk0 (fun _ h9 => h9) rfl dX8_undo_136 ?_
      refine va_get (D := D) (ci := 1) (v := .int (((xs (xs X 8 t0_17) 3 t0_72) 8).1 4 0)) (C := RX1) (T := TX1) (N := 5) (pc := 139) hx hb hfX1 (fun _ h9 => h9) hown hK (show va_P D vwCl (wX1 (a 8) c ((xs (xs X 8 t0_17) 3 t0_72) 8)) _ from hP 8 (by decide)) 0 rfl rfl 4 (by decide) lk1 (fun _ h9 => h9) rfl dX8_undo_139 ?_
      have kr := KR (((xs (xs X 8 t0_17) 3 t0_72) 8).1 4 0) (xs (xs X 8 t0_17) 3 t0_72) _ _ 142 ls h rfl hP hS dX8_undo_142
      exact kr
    · replace h := it_f c40_0 h
      by_cases c40_1 : ((((xs X 8 t0_17) 8).1 0) (r17).toNatClampNeg) = (1 : Int32)
      · replace h := it_t c40_1 h
        refine lv_tableIn (tgt := 78) (off := 38) (pc := 40) hx hb dX8_undo_40 (by rw [c40_1]; decide) (by rw [c40_1]; decide) (by rw [c40_1]; rfl) (by decide) ?_
        refine lv_aload_n (pc := 78) hx hb dX8_undo_78 rfl (lv_at hl 2 rfl) ?_
        refine va_get (D := D) (ci := 8) (v := .ref ((a 3) 0)) (C := RX8) (T := TX8) (N := 12) (pc := 79) hx hb hfX8 (fun _ h9 => h9) hown hK (show va_P D vwCl (wX8 a c ((xs X 8 t0_17) 0)) _ from hP 0 (by decide)) 0 rfl rfl 2 (by decide) lk7 (fun _ h9 => h9) rfl dX8_undo_79 ?_
        refine lv_iload_n (pc := 82) hx hb dX8_undo_82 rfl (lv_at hl 0 rfl) ?_
        refine lv_aload_n (pc := 83) hx hb dX8_undo_83 rfl (lv_at hl 2 rfl) ?_
        refine va_get (D := D) (ci := 8) (v := .ref ((a 8) 0)) (C := RX8) (T := TX8) (N := 12) (pc := 84) hx hb hfX8 (fun _ h9 => h9) hown hK (show va_P D vwCl (wX8 a c ((xs X 8 t0_17) 0)) _ from hP 0 (by decide)) 0 rfl rfl 7 (by decide) lk0 (fun _ h9 => h9) rfl dX8_undo_84 ?_
        refine va_get (D := D) (ci := 1) (v := .ref ((a 8) 3)) (C := RX1) (T := TX1) (N := 5) (pc := 87) hx hb hfX1 (fun _ h9 => h9) hown hK (show va_P D vwCl (wX1 (a 8) c ((xs X 8 t0_17) 8)) _ from hP 8 (by decide)) 0 rfl rfl 2 (by decide) lk5 (fun _ h9 => h9) rfl dX8_undo_87 ?_
        refine lv_iload_n (pc := 90) hx hb dX8_undo_90 rfl (lv_at hl 1 rfl) ?_
        obtain ⟨hk91, h⟩ := ckI_i h
        refine va_iald (D := D) (f := (((xs X 8 t0_17) 8).1 2)) (pc := 91) hx hb hK (show va_P D vwCl (wX1 (a 8) c ((xs X 8 t0_17) 8)) _ from hP 8 (by decide)) 3 0 rfl rfl hk91 dX8_undo_91 ?_
        obtain ⟨t0_92, hc92, h⟩ := b1_i h
        have hw : (wX3 (a 3) c ((xs X 8 t0_17) 3)).map (·.1) = [3].flatMap (uA a) := rfl
        have hPc : va_P D vwCl (wX3 (a 3) c ((xs X 8 t0_17) 3)) _ := hP 3 (by decide)
        have hDc : va_D A (wX3 (a 3) c ((xs X 8 t0_17) 3)) := hD.of_addr (by decide) (by decide) hw
        refine g_X (X' := (xs (xs X 8 t0_17) 3 t0_92)) (st1 := []) (gr_V (n := 2) (rest := []) (pc := 92) hx hb hml hown hts (cX3_setDelay_met l D c tb sa sv (a 3) v2_30 (((((xs X 8 t0_17) 8).1 2) (r17).toNatClampNeg)) ((xs X 8 t0_17) 3) _ hc92) gX8_undo_X3_setDelay rfl rfl rfl (by decide +kernel) rfl ⟨Nat.le_of_ble_eq_true rfl, Nat.le_of_ble_eq_true rfl⟩ ⟨Nat.zero_le _, Nat.zero_le _⟩ 0 3 rfl rfl rfl xE_ok hPc hDc hK (xE_ok.tr hE hS (g_freeX hD hS hA (by decide) (addr0 hw))) hl.1 (Nat.le_of_ble_eq_true rfl) dX8_undo_92 rfl) hP hD hS hA (ks := [3]) (by decide) (addr0 hw) (fun k9 _ hk9 => (xs_o hk9 (j := 3) (by decide))) (fun H1 hw1 => (List.forall_mem_cons.mpr ⟨hw1, (fun _ h9 => absurd h9 List.not_mem_nil)⟩)) rfl (fun H locs hP hS => ?_)
        refine lv_goto (tgt := 135) (pc := 95) hx hb dX8_undo_95 (by decide) ?_
        refine lv_aload_n (pc := 135) hx hb dX8_undo_135 rfl (lv_at hl 2 rfl) ?_
        refine va_get (D := D) (ci := 8) (v := .ref ((a 8) 0)) (C := RX8) (T := TX8) (N := 12) (pc := 136) hx hb hfX8 (fun _ h9 => h9) hown hK (show va_P D vwCl (wX8 a c ((xs (xs X 8 t0_17) 3 t0_92) 0)) _ from hP 0 (by decide)) 0 rfl rfl 7 (by decide) lk0 (fun _ h9 => h9) rfl dX8_undo_136 ?_
        refine va_get (D := D) (ci := 1) (v := .int (((xs (xs X 8 t0_17) 3 t0_92) 8).1 4 0)) (C := RX1) (T := TX1) (N := 5) (pc := 139) hx hb hfX1 (fun _ h9 => h9) hown hK (show va_P D vwCl (wX1 (a 8) c ((xs (xs X 8 t0_17) 3 t0_92) 8)) _ from hP 8 (by decide)) 0 rfl rfl 4 (by decide) lk1 (fun _ h9 => h9) rfl dX8_undo_139 ?_
        have kr := KR (((xs (xs X 8 t0_17) 3 t0_92) 8).1 4 0) (xs (xs X 8 t0_17) 3 t0_92) _ _ 142 ls h rfl hP hS dX8_undo_142
        exact kr
      · replace h := it_f c40_1 h
        by_cases c40_2 : ((((xs X 8 t0_17) 8).1 0) (r17).toNatClampNeg) = (2 : Int32)
        · replace h := it_t c40_2 h
          refine lv_tableIn (tgt := 98) (off := 58) (pc := 40) hx hb dX8_undo_40 (by rw [c40_2]; decide) (by rw [c40_2]; decide) (by rw [c40_2]; rfl) (by decide) ?_
          refine lv_aload_n (pc := 98) hx hb dX8_undo_98 rfl (lv_at hl 2 rfl) ?_
          refine va_get (D := D) (ci := 8) (v := .ref ((a 6) 0)) (C := RX8) (T := TX8) (N := 12) (pc := 99) hx hb hfX8 (fun _ h9 => h9) hown hK (show va_P D vwCl (wX8 a c ((xs X 8 t0_17) 0)) _ from hP 0 (by decide)) 0 rfl rfl 5 (by decide) lk4 (fun _ h9 => h9) rfl dX8_undo_99 ?_
          refine lv_iload_n (pc := 102) hx hb dX8_undo_102 rfl (lv_at hl 0 rfl) ?_
          obtain ⟨t0_103, hc103, h⟩ := b1_i h
          have hw : (wX0 (a 6) c ((xs X 8 t0_17) 6)).map (·.1) = [6].flatMap (uA a) := rfl
          have hPc : va_P D vwCl (wX0 (a 6) c ((xs X 8 t0_17) 6)) _ := hP 6 (by decide)
          have hDc : va_D A (wX0 (a 6) c ((xs X 8 t0_17) 6)) := hD.of_addr (by decide) (by decide) hw
          refine g_X (X' := (xs (xs X 8 t0_17) 6 t0_103)) (st1 := []) (gr_V (n := 1) (rest := []) (pc := 103) hx hb hml hown hts (cX0_remove_met l D c tb sa sv (a 6) v2_30 ((xs X 8 t0_17) 6) _ hc103) gX8_undo_X0_remove rfl rfl rfl (by decide +kernel) rfl ⟨Nat.le_of_ble_eq_true rfl, Nat.le_of_ble_eq_true rfl⟩ ⟨Nat.zero_le _, Nat.zero_le _⟩ 0 0 rfl rfl rfl xE_ok hPc hDc hK (xE_ok.tr hE hS (g_freeX hD hS hA (by decide) (addr0 hw))) hl.1 (Nat.le_of_ble_eq_true rfl) dX8_undo_103 rfl) hP hD hS hA (ks := [6]) (by decide) (addr0 hw) (fun k9 _ hk9 => (xs_o hk9 (j := 6) (by decide))) (fun H1 hw1 => (List.forall_mem_cons.mpr ⟨hw1, (fun _ h9 => absurd h9 List.not_mem_nil)⟩)) rfl (fun H locs hP hS => ?_)
          refine lv_goto (tgt := 135) (pc := 106) hx hb dX8_undo_106 (by decide) ?_
          refine lv_aload_n (pc := 135) hx hb dX8_undo_135 rfl (lv_at hl 2 rfl) ?_
          refine va_get (D := D) (ci := 8) (v := .ref ((a 8) 0)) (C := RX8) (T := TX8) (N := 12) (pc := 136) hx hb hfX8 (fun _ h9 => h9) hown hK (show va_P D vwCl (wX8 a c ((xs (xs X 8 t0_17) 6 t0_103) 0)) _ from hP 0 (by decide)) 0 rfl rfl 7 (by decide) lk0 (fun _ h9 => h9) rfl dX8_undo_136 ?_
          refine va_get (D := D) (ci := 1) (v := .int (((xs (xs X 8 t0_17) 6 t0_103) 8).1 4 0)) (C := RX1) (T := TX1) (N := 5) (pc := 139) hx hb hfX1 (fun _ h9 => h9) hown hK (show va_P D vwCl (wX1 (a 8) c ((xs (xs X 8 t0_17) 6 t0_103) 8)) _ from hP 8 (by decide)) 0 rfl rfl 4 (by decide) lk1 (fun _ h9 => h9) rfl dX8_undo_139 ?_
          have kr := KR (((xs (xs X 8 t0_17) 6 t0_103) 8).1 4 0) (xs (xs X 8 t0_17) 6 t0_103) _ _ 142 ls h rfl hP hS dX8_undo_142
          exact kr
        · replace h := it_f c40_2 h
          have hsw : (((((xs X 8 t0_17) 8).1 0) (r17).toNatClampNeg)).toInt < 0 ∨ 2 < (((((xs X 8 t0_17) 8).1 0) (r17).toNatClampNeg)).toInt := by
            have z0 := lv_neT c40_0 (a := 0) (by decide)
            have z1 := lv_neT c40_1 (a := 1) (by decide)
            have z2 := lv_neT c40_2 (a := 2) (by decide)
            omega
          refine lv_tableOut (tgt := 109) (pc := 40) hx hb dX8_undo_40 hsw (by decide) ?_
          refine lv_aload_n (pc := 109) hx hb dX8_undo_109 rfl (lv_at hl 2 rfl) ?_
          refine va_get (D := D) (ci := 8) (v := .ref ((a 6) 0)) (C := RX8) (T := TX8) (N := 12) (pc := 110) hx hb hfX8 (fun _ h9 => h9) hown hK (show va_P D vwCl (wX8 a c ((xs X 8 t0_17) 0)) _ from hP 0 (by decide)) 0 rfl rfl 5 (by decide) lk4 (fun _ h9 => h9) rfl dX8_undo_110 ?_
          refine lv_iload_n (pc := 113) hx hb dX8_undo_113 rfl (lv_at hl 0 rfl) ?_
          refine lv_aload_n (pc := 114) hx hb dX8_undo_114 rfl (lv_at hl 2 rfl) ?_
          refine va_get (D := D) (ci := 8) (v := .ref ((a 8) 0)) (C := RX8) (T := TX8) (N := 12) (pc := 115) hx hb hfX8 (fun _ h9 => h9) hown hK (show va_P D vwCl (wX8 a c ((xs X 8 t0_17) 0)) _ from hP 0 (by decide)) 0 rfl rfl 7 (by decide) lk0 (fun _ h9 => h9) rfl dX8_undo_115 ?_
          refine va_get (D := D) (ci := 1) (v := .ref ((a 8) 3)) (C := RX1) (T := TX1) (N := 5) (pc := 118) hx hb hfX1 (fun _ h9 => h9) hown hK (show va_P D vwCl (wX1 (a 8) c ((xs X 8 t0_17) 8)) _ from hP 8 (by decide)) 0 rfl rfl 2 (by decide) lk5 (fun _ h9 => h9) rfl dX8_undo_118 ?_
          refine lv_iload_n (pc := 121) hx hb dX8_undo_121 rfl (lv_at hl 1 rfl) ?_
          obtain ⟨hk122, h⟩ := ckI_i h
          refine va_iald (D := D) (f := (((xs X 8 t0_17) 8).1 2)) (pc := 122) hx hb hK (show va_P D vwCl (wX1 (a 8) c ((xs X 8 t0_17) 8)) _ from hP 8 (by decide)) 3 0 rfl rfl hk122 dX8_undo_122 ?_
          refine lv_aload_n (pc := 123) hx hb dX8_undo_123 rfl (lv_at hl 2 rfl) ?_
          refine va_get (D := D) (ci := 8) (v := .ref ((a 8) 0)) (C := RX8) (T := TX8) (N := 12) (pc := 124) hx hb hfX8 (fun _ h9 => h9) hown hK (show va_P D vwCl (wX8 a c ((xs X 8 t0_17) 0)) _ from hP 0 (by decide)) 0 rfl rfl 7 (by decide) lk0 (fun _ h9 => h9) rfl dX8_undo_124 ?_
          refine va_get (D := D) (ci := 1) (v := .ref ((a 8) 4)) (C := RX1) (T := TX1) (N := 5) (pc := 127) hx hb hfX1 (fun _ h9 => h9) hown hK (show va_P D vwCl (wX1 (a 8) c ((xs X 8 t0_17) 8)) _ from hP 8 (by decide)) 0 rfl rfl 3 (by decide) lk6 (fun _ h9 => h9) rfl dX8_undo_127 ?_
          refine lv_iload_n (pc := 130) hx hb dX8_undo_130 rfl (lv_at hl 1 rfl) ?_
          obtain ⟨hk131, h⟩ := ckI_i h
          refine va_iald (D := D) (f := (((xs X 8 t0_17) 8).1 3)) (pc := 131) hx hb hK (show va_P D vwCl (wX1 (a 8) c ((xs X 8 t0_17) 8)) _ from hP 8 (by decide)) 4 0 rfl rfl hk131 dX8_undo_131 ?_
          obtain ⟨t0_132, hc132, h⟩ := b1_i h
          have hw : (wX0 (a 6) c ((xs X 8 t0_17) 6)).map (·.1) = [6].flatMap (uA a) := rfl
          have hPc : va_P D vwCl (wX0 (a 6) c ((xs X 8 t0_17) 6)) _ := hP 6 (by decide)
          have hDc : va_D A (wX0 (a 6) c ((xs X 8 t0_17) 6)) := hD.of_addr (by decide) (by decide) hw
          refine g_X (X' := (xs (xs X 8 t0_17) 6 t0_132)) (st1 := []) (gr_V (n := 3) (rest := []) (pc := 132) hx hb hml hown hts (cX0_insert_met l D c tb sa sv (a 6) v2_30 (((((xs X 8 t0_17) 8).1 2) (r17).toNatClampNeg)) (((((xs X 8 t0_17) 8).1 3) (r17).toNatClampNeg)) ((xs X 8 t0_17) 6) _ hc132) gX8_undo_X0_insert rfl rfl rfl (by decide +kernel) rfl ⟨Nat.le_of_ble_eq_true rfl, Nat.le_of_ble_eq_true rfl⟩ ⟨Nat.zero_le _, Nat.zero_le _⟩ 0 0 rfl rfl rfl xE_ok hPc hDc hK (xE_ok.tr hE hS (g_freeX hD hS hA (by decide) (addr0 hw))) hl.1 (Nat.le_of_ble_eq_true rfl) dX8_undo_132 rfl) hP hD hS hA (ks := [6]) (by decide) (addr0 hw) (fun k9 _ hk9 => (xs_o hk9 (j := 6) (by decide))) (fun H1 hw1 => (List.forall_mem_cons.mpr ⟨hw1, (fun _ h9 => absurd h9 List.not_mem_nil)⟩)) rfl (fun H locs hP hS => ?_)
          refine lv_aload_n (pc := 135) hx hb dX8_undo_135 rfl (lv_at hl 2 rfl) ?_
          refine va_get (D := D) (ci := 8) (v := .ref ((a 8) 0)) (C := RX8) (T := TX8) (N := 12) (pc := 136) hx hb hfX8 (fun _ h9 => h9) hown hK (show va_P D vwCl (wX8 a c ((xs (xs X 8 t0_17) 6 t0_132) 0)) _ from hP 0 (by decide)) 0 rfl rfl 7 (by decide) lk0 (fun _ h9 => h9) rfl dX8_undo_136 ?_
          refine va_get (D := D) (ci := 1) (v := .int (((xs (xs X 8 t0_17) 6 t0_132) 8).1 4 0)) (C := RX1) (T := TX1) (N := 5) (pc := 139) hx hb hfX1 (fun _ h9 => h9) hown hK (show va_P D vwCl (wX1 (a 8) c ((xs (xs X 8 t0_17) 6 t0_132) 8)) _ from hP 8 (by decide)) 0 rfl rfl 4 (by decide) lk1 (fun _ h9 => h9) rfl dX8_undo_139 ?_
          have kr := KR (((xs (xs X 8 t0_17) 6 t0_132) 8).1 4 0) (xs (xs X 8 t0_17) 6 t0_132) _ _ 142 ls h rfl hP hS dX8_undo_142
          exact kr
  · replace h := it_t c7 h
    refine lv_bipush (v := -3) (pc := 10) hx hb dX8_undo_10 (by decide) ?_
    have kr := KR (-3 : Int32) X _ _ 12 ls h rfl hP hS dX8_undo_12
    exact kr
