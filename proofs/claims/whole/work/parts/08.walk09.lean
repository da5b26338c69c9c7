abbrev rmX9_isPrime : Room := { frames := 2, cells := 0, slots := 0, locals := 45 }
set_option maxRecDepth 100000 in
set_option maxHeartbeats 40000000 in
theorem cX9_isPrime_met (l : Launch) (D : va_G) (c : Nat → ClassId)  (p0 : Int32) (p1 : Int32) (p2 : Int32) (r0 : Int32) (h : fX9_isPrime p0 p1 p2 = some r0) : gM l yX9_isPrime wsX9_isPrime rmX9_isPrime D (gY c) gT [.int p0, .int p1, .int p2] ([]) (some (.int r0)) ([]) := by
  unfold fX9_isPrime at h
  refine gM.I (cc := cX9_isPrime) (maxL := 4) (by decide) rfl (Nat.le_of_ble_eq_true rfl) ?_
  intro p e s m args below meth cd hx hb hml hown hts A hA ls hl hP hK hD hS hE Q KR0
  have KR : ∀ (v : Int32)  (H : Heap) (locs : List Loc) (pc : Nat) (ls : Array Slot), some v = some r0 → narrow .boolean (.int v) = .int v → va_P D vwCl ([]) H → va_D A ([]) → va_S A s.heap H locs → decode cX9_isPrime pc = .ok (.ireturn, 1) → W p l e rmX9_isPrime s m args below meth cd H locs 0 0 Q (F0 m pc ls [.int v]) := by
    intro v  H locs pc ls hr hn hP hD hS hd
    cases hr
    exact KR0 _ H locs pc ls rfl hn hP hD hS hd
  have hl : lv_has ls 4 [(0, .int p0), (1, .int p1), (2, .int p2)] := hl
  have J39 : ∀ (K13 : Int32 → Int32 → Int32 → Int32 → Option (Int32)) (K13h : ∀ (x0 : Int32) (x1 : Int32) (x2 : Int32) (x3 : Int32) (H : Heap) (locs : List Loc) (ls : Array Slot), K13 x0 x1 x2 x3 = some r0 → va_P D vwCl ([]) H → va_D A ([]) → va_S A s.heap H locs → lv_has ls 4 [(0, .int x0), (1, .int x1), (2, .int x2), (3, .int x3)] → W p l e rmX9_isPrime s m args below meth cd H locs 0 0 Q (F0 m 13 ls [])) (x0 : Int32) (x1 : Int32) (x2 : Int32) (x3 : Int32) (H : Heap) (locs : List Loc) (ls : Array Slot), fX9_isPrime_b39 K13 x0 x1 x2 x3 = some r0 → va_P D vwCl ([]) H → va_D A ([]) → va_S A s.heap H locs → lv_has ls 4 [(0, .int x0), (1, .int x1), (2, .int x2), (3, .int x3)] → W p l e rmX9_isPrime s m args below meth cd H locs 0 0 Q (F0 m 39 ls []) := by
    intro K13 K13h x0 x1 x2 x3 H locs ls h hP hD hS hl
    unfold fX9_isPrime_b39 at h
    obtain ⟨v3_39, ev3_39, h⟩ := lt_i h
    refine lv_iinc (v := v3_39) (lv' := [(3, .int v3_39), (0, .int x0), (1, .int x1), (2, .int x2)]) (pc := 39) hx hb dX9_isPrime_39 hl (k := 3) rfl (by rw [ev3_39]; rfl) (by decide) rfl (fun ls hl => ?_)
    refine lv_goto (tgt := 13) (pc := 42) hx hb dX9_isPrime_42 (by decide) ?_
    have jr := K13h x0 x1 x2 v3_39 _ _ ls h hP hD hS (lv_sub hl [1, 2, 3, 0] rfl)
    exact jr
  have J13 : ∀ (n : Nat) (x0 : Int32) (x1 : Int32) (x2 : Int32) (x3 : Int32) (H : Heap) (locs : List Loc) (ls : Array Slot), fX9_isPrime_b13 n x0 x1 x2 x3 = some r0 → va_P D vwCl ([]) H → va_D A ([]) → va_S A s.heap H locs → lv_has ls 4 [(0, .int x0), (1, .int x1), (2, .int x2), (3, .int x3)] → W p l e rmX9_isPrime s m args below meth cd H locs 0 0 Q (F0 m 13 ls []) := by
    intro n
    induction n with
    | zero =>
      intro x0 x1 x2 x3 H locs ls h _ _ _ _
      cases (show (none : Option (Int32)) = some _ from h)
    | succ n K13h =>
      intro x0 x1 x2 x3 H locs ls h hP hD hS hl
      rw [fX9_isPrime_b13] at h
      refine lv_iload_n (pc := 13) hx hb dX9_isPrime_13 rfl (lv_at hl 3 rfl) ?_
      refine lv_iload_n (pc := 14) hx hb dX9_isPrime_14 rfl (lv_at hl 0 rfl) ?_
      refine lv_icmp_ge (tgt := 45) (pc := 15) hx hb dX9_isPrime_15 (by decide) (fun c15 => ?_) (fun c15 => ?_)
      · replace h := it_t c15 h
        refine lv_iconst (v := 1) (pc := 45) hx hb dX9_isPrime_45 (by decide) ?_
        have kr := KR (1 : Int32)  _ _ 46 ls h rfl hP hD hS dX9_isPrime_46
        exact kr
      · replace h := it_f c15 h
        refine lv_iload_n (pc := 18) hx hb dX9_isPrime_18 rfl (lv_at hl 3 rfl) ?_
        refine lv_iload_n (pc := 19) hx hb dX9_isPrime_19 rfl (lv_at hl 0 rfl) ?_
        refine lv_iconst (v := -1) (pc := 20) hx hb dX9_isPrime_20 (by decide) ?_
        refine lv_ixor (pc := 21) hx hb dX9_isPrime_21 ?_
        refine lv_iand (pc := 22) hx hb dX9_isPrime_22 ?_
        refine lv_if_ne (tgt := 39) (pc := 23) hx hb dX9_isPrime_23 (by decide) (fun c23 => ?_) (fun c23 => ?_)
        · replace h := it_f c23 h
          have jr := J39 (fX9_isPrime_b13 n) K13h x0 x1 x2 x3 _ _ ls h hP hD hS hl
          exact jr
        · replace h := it_t c23 h
          refine lv_iload_n (pc := 26) hx hb dX9_isPrime_26 rfl (lv_at hl 3 rfl) ?_
          refine lv_iload_n (pc := 27) hx hb dX9_isPrime_27 rfl (lv_at hl 1 rfl) ?_
          refine lv_iload_n (pc := 28) hx hb dX9_isPrime_28 rfl (lv_at hl 3 rfl) ?_
          refine lv_iand (pc := 29) hx hb dX9_isPrime_29 ?_
          refine lv_iload_n (pc := 30) hx hb dX9_isPrime_30 rfl (lv_at hl 2 rfl) ?_
          obtain ⟨r31, hc31, h⟩ := b1_i h
          refine g_none (st1 := [.int r31]) (gr_S (n := 3) (rest := []) (pc := 31) hx hb hml hown hts (cX9_isWithin_met l D c x3 ((x1 &&& x3)) x2 _ hc31) gX9_isPrime_X9_isWithin rfl rfl rfl (by decide +kernel) rfl ⟨Nat.le_of_ble_eq_true rfl, Nat.le_of_ble_eq_true rfl⟩ ⟨Nat.zero_le _, Nat.zero_le _⟩ gT_ok g_P0 (g_D0 (A := A)) hK (fun _ _ _ => trivial) hl.1 (Nat.le_of_ble_eq_true rfl) dX9_isPrime_31 rfl) hP hS hA rfl (fun H locs hP hS => ?_)
          refine lv_if_eq (tgt := 39) (pc := 34) hx hb dX9_isPrime_34 (by decide) (fun c34 => ?_) (fun c34 => ?_)
          · replace h := it_t c34 h
            have jr := J39 (fX9_isPrime_b13 n) K13h x0 x1 x2 x3 _ _ ls h hP hD hS hl
            exact jr
          · replace h := it_f c34 h
            refine lv_iconst (v := 0) (pc := 37) hx hb dX9_isPrime_37 (by decide) ?_
            have kr := KR (0 : Int32)  _ _ 38 ls h rfl hP hD hS dX9_isPrime_38
            exact kr
  refine lv_iload_n (pc := 0) hx hb dX9_isPrime_0 rfl (lv_at hl 0 rfl) ?_
  refine lv_iload_n (pc := 1) hx hb dX9_isPrime_1 rfl (lv_at hl 1 rfl) ?_
  refine lv_iload_n (pc := 2) hx hb dX9_isPrime_2 rfl (lv_at hl 2 rfl) ?_
  obtain ⟨r3, hc3, h⟩ := b1_i h
  refine g_none (st1 := [.int r3]) (gr_S (n := 3) (rest := []) (pc := 3) hx hb hml hown hts (cX9_isWithin_met l D c p0 p1 p2 _ hc3) gX9_isPrime_X9_isWithin rfl rfl rfl (by decide +kernel) rfl ⟨Nat.le_of_ble_eq_true rfl, Nat.le_of_ble_eq_true rfl⟩ ⟨Nat.zero_le _, Nat.zero_le _⟩ gT_ok g_P0 (g_D0 (A := A)) hK (fun _ _ _ => trivial) hl.1 (Nat.le_of_ble_eq_true rfl) dX9_isPrime_3 rfl) hP hS hA rfl (fun H locs hP hS => ?_)
  refine lv_if_ne (tgt := 11) (pc := 6) hx hb dX9_isPrime_6 (by decide) (fun c6 => ?_) (fun c6 => ?_)
  · replace h := it_f c6 h
    refine lv_iconst (v := 0) (pc := 11) hx hb dX9_isPrime_11 (by decide) ?_
    refine lv_istore_n (lv' := [(3, .int (0 : Int32)), (0, .int p0), (1, .int p1), (2, .int p2)]) (pc := 12) hx hb dX9_isPrime_12 rfl hl (by decide) rfl (fun ls hl => ?_)
    have jr := J13 FU p0 p1 p2 (0 : Int32) _ _ ls h hP hD hS (lv_sub hl [1, 2, 3, 0] rfl)
    exact jr
  · replace h := it_t c6 h
    refine lv_iconst (v := 0) (pc := 9) hx hb dX9_isPrime_9 (by decide) ?_
    have kr := KR (0 : Int32)  _ _ 10 ls h rfl hP hD hS dX9_isPrime_10
    exact kr
abbrev rmX9_primesAll : Room := { frames := 3, cells := 0, slots := 0, locals := 68 }
set_option maxRecDepth 100000 in
set_option maxHeartbeats 40000000 in
theorem cX9_primesAll_met (l : Launch) (D : va_G) (c : Nat → ClassId) (a0 : Nat → Nat) (s0 : Mem) (z0 : Mem) (h : fX9_primesAll s0 = some z0) : gM l yX9_primesAll wsX9_primesAll rmX9_primesAll D (gY c) gT [.ref (a0 0)] (wX9 a0 c s0) none (wX9 a0 c z0) := by
  unfold fX9_primesAll at h
  refine gM.V (cc := cX9_primesAll) (maxL := 4) (by decide) rfl (Nat.le_of_ble_eq_true rfl) ?_
  intro p e s m args below meth cd hx hb hml hown hts A hA ls hl hP hK hD hS hE Q KR0
  have hfX9 : ∀ w ∈ u_ws RX9 TX9 24, w.before args s = true := fun w hw => hts w (List.mem_cons_of_mem _ (List.mem_append_right _ hw))
  have lk0 := hts (.fieldLink RX9 210 "GlitchNetsModel" "primes" "I") (List.mem_of_getElem? (i := 1) rfl)
  have lk1 := hts (.fieldLink RX9 38 "GlitchNetsModel" "prime" "[I") (List.mem_of_getElem? (i := 2) rfl)
  have KR : ∀ (w0 : Mem) (H : Heap) (locs : List Loc) (pc : Nat) (ls : Array Slot), some w0 = some z0 → va_P D vwCl (wX9 a0 c w0) H → va_D A (wX9 a0 c w0) → va_S A s.heap H locs → decode cX9_primesAll pc = .ok (.return_, 1) → W p l e rmX9_primesAll s m args below meth cd H locs 0 0 Q (F0 m pc ls []) := by
    intro w0 H locs pc ls hr hP hD hS hd
    cases hr
    exact KR0 H locs pc ls hP hD hS hd
  have hl : lv_has ls 4 [(0, .ref (a0 0))] := hl
  have J70 : ∀ (K20 : Int32 → Int32 → Int32 → Mem → Option (Mem)) (K20h : ∀ (x1 : Int32) (x2 : Int32) (x3 : Int32) (s0 : Mem) (H : Heap) (locs : List Loc) (ls : Array Slot), K20 x1 x2 x3 s0 = some z0 → va_P D vwCl (wX9 a0 c s0) H → va_D A (wX9 a0 c s0) → va_S A s.heap H locs → lv_has ls 4 [(0, .ref (a0 0)), (1, .int x1), (2, .int x2), (3, .int x3)] → W p l e rmX9_primesAll s m args below meth cd H locs 0 0 Q (F0 m 20 ls [])) (x1 : Int32) (x2 : Int32) (x3 : Int32) (s0 : Mem) (H : Heap) (locs : List Loc) (ls : Array Slot), fX9_primesAll_b70 K20 x1 x2 x3 s0 = some z0 → va_P D vwCl (wX9 a0 c s0) H → va_D A (wX9 a0 c s0) → va_S A s.heap H locs → lv_has ls 4 [(0, .ref (a0 0)), (1, .int x1), (2, .int x2), (3, .int x3)] → W p l e rmX9_primesAll s m args below meth cd H locs 0 0 Q (F0 m 70 ls []) := by
    intro K20 K20h x1 x2 x3 s0 H locs ls h hP hD hS hl
    unfold fX9_primesAll_b70 at h
    obtain ⟨v3_70, ev3_70, h⟩ := lt_i h
    refine lv_iinc (v := v3_70) (lv' := [(3, .int v3_70), (0, .ref (a0 0)), (1, .int x1), (2, .int x2)]) (pc := 70) hx hb dX9_primesAll_70 hl (k := 3) rfl (by rw [ev3_70]; rfl) (by decide) rfl (fun ls hl => ?_)
    refine lv_goto (tgt := 20) (pc := 73) hx hb dX9_primesAll_73 (by decide) ?_
    have jr := K20h x1 x2 v3_70 s0 _ _ ls h hP hD hS (lv_sub hl [1, 2, 3, 0] rfl)
    exact jr
  have J20 : ∀ (K12 : Int32 → Int32 → Mem → Option (Mem)) (K12h : ∀ (x1 : Int32) (x2 : Int32) (s0 : Mem) (H : Heap) (locs : List Loc) (ls : Array Slot), K12 x1 x2 s0 = some z0 → va_P D vwCl (wX9 a0 c s0) H → va_D A (wX9 a0 c s0) → va_S A s.heap H locs → lv_has ls 4 [(0, .ref (a0 0)), (1, .int x1), (2, .int x2)] → W p l e rmX9_primesAll s m args below meth cd H locs 0 0 Q (F0 m 12 ls [])) (n : Nat) (x1 : Int32) (x2 : Int32) (x3 : Int32) (s0 : Mem) (H : Heap) (locs : List Loc) (ls : Array Slot), fX9_primesAll_b20 K12 n x1 x2 x3 s0 = some z0 → va_P D vwCl (wX9 a0 c s0) H → va_D A (wX9 a0 c s0) → va_S A s.heap H locs → lv_has ls 4 [(0, .ref (a0 0)), (1, .int x1), (2, .int x2), (3, .int x3)] → W p l e rmX9_primesAll s m args below meth cd H locs 0 0 Q (F0 m 20 ls []) := by
    intro K12 K12h n
    induction n with
    | zero =>
      intro x1 x2 x3 s0 H locs ls h _ _ _ _
      cases (show (none : Option (Mem)) = some _ from h)
    | succ n K20h =>
      intro x1 x2 x3 s0 H locs ls h hP hD hS hl
      rw [fX9_primesAll_b20] at h
      refine lv_iload_n (pc := 20) hx hb dX9_primesAll_20 rfl (lv_at hl 3 rfl) ?_
      refine lv_iload_n (pc := 21) hx hb dX9_primesAll_21 rfl (lv_at hl 2 rfl) ?_
      refine lv_icmp_gt (tgt := 76) (pc := 22) hx hb dX9_primesAll_22 (by decide) (fun c22 => ?_) (fun c22 => ?_)
      · replace h := it_t c22 h
        obtain ⟨v2_76, ev2_76, h⟩ := lt_i h
        refine lv_iinc (v := v2_76) (lv' := [(2, .int v2_76), (0, .ref (a0 0)), (1, .int x1), (3, .int x3)]) (pc := 76) hx hb dX9_primesAll_76 hl (k := 2) rfl (by rw [ev2_76]; rfl) (by decide) rfl (fun ls hl => ?_)
        refine lv_goto (tgt := 12) (pc := 79) hx hb dX9_primesAll_79 (by decide) ?_
        have jr := K12h x1 v2_76 s0 _ _ ls h hP hD hS (lv_sub hl [1, 2, 0] rfl)
        exact jr
      · replace h := it_f c22 h
        refine lv_iload_n (pc := 25) hx hb dX9_primesAll_25 rfl (lv_at hl 3 rfl) ?_
        refine lv_iload_n (pc := 26) hx hb dX9_primesAll_26 rfl (lv_at hl 2 rfl) ?_
        refine lv_iconst (v := -1) (pc := 27) hx hb dX9_primesAll_27 (by decide) ?_
        refine lv_ixor (pc := 28) hx hb dX9_primesAll_28 ?_
        refine lv_iand (pc := 29) hx hb dX9_primesAll_29 ?_
        refine lv_if_ne (tgt := 70) (pc := 30) hx hb dX9_primesAll_30 (by decide) (fun c30 => ?_) (fun c30 => ?_)
        · replace h := it_f c30 h
          have jr := J70 (fX9_primesAll_b20 K12 n) K20h x1 x2 x3 s0 _ _ ls h hP hD hS hl
          exact jr
        · replace h := it_t c30 h
          refine lv_iload_n (pc := 33) hx hb dX9_primesAll_33 rfl (lv_at hl 2 rfl) ?_
          refine lv_iload_n (pc := 34) hx hb dX9_primesAll_34 rfl (lv_at hl 3 rfl) ?_
          refine lv_iload_n (pc := 35) hx hb dX9_primesAll_35 rfl (lv_at hl 1 rfl) ?_
          obtain ⟨r36, hc36, h⟩ := b1_i h
          refine g_none (st1 := [.int r36]) (gr_S (n := 3) (rest := []) (pc := 36) hx hb hml hown hts (cX9_isPrime_met l D c x2 x3 x1 _ hc36) gX9_primesAll_X9_isPrime rfl rfl rfl (by decide +kernel) rfl ⟨Nat.le_of_ble_eq_true rfl, Nat.le_of_ble_eq_true rfl⟩ ⟨Nat.zero_le _, Nat.zero_le _⟩ gT_ok g_P0 (g_D0 (A := A)) hK (fun _ _ _ => trivial) hl.1 (Nat.le_of_ble_eq_true rfl) dX9_primesAll_36 rfl) hP hS hA rfl (fun H locs hP hS => ?_)
          refine lv_if_ne (tgt := 45) (pc := 39) hx hb dX9_primesAll_39 (by decide) (fun c39 => ?_) (fun c39 => ?_)
          · replace h := it_f c39 h
            refine lv_aload_n (pc := 45) hx hb dX9_primesAll_45 rfl (lv_at hl 0 rfl) ?_
            refine va_get (D := D) (ci := 9) (v := .ref (a0 10)) (C := RX9) (T := TX9) (N := 24) (pc := 46) hx hb hfX9 (fun _ h9 => h9) hown hK hP 0 rfl rfl 18 (by decide) lk1 (fun _ h9 => h9) rfl dX9_primesAll_46 ?_
            refine lv_aload_n (pc := 49) hx hb dX9_primesAll_49 rfl (lv_at hl 0 rfl) ?_
            refine va_get (D := D) (ci := 9) (v := .int (s0.1 19 0)) (C := RX9) (T := TX9) (N := 24) (pc := 50) hx hb hfX9 (fun _ h9 => h9) hown hK hP 0 rfl rfl 19 (by decide) lk0 (fun _ h9 => h9) rfl dX9_primesAll_50 ?_
            refine lv_bipush (v := 16) (pc := 53) hx hb dX9_primesAll_53 (by decide) ?_
            refine lv_iload_n (pc := 55) hx hb dX9_primesAll_55 rfl (lv_at hl 2 rfl) ?_
            refine lv_imul (pc := 56) hx hb dX9_primesAll_56 ?_
            refine lv_iload_n (pc := 57) hx hb dX9_primesAll_57 rfl (lv_at hl 3 rfl) ?_
            refine lv_iadd (pc := 58) hx hb dX9_primesAll_58 ?_
            obtain ⟨hk59, h⟩ := ckI_i h
            refine va_iast (D := D) (f := (s0.1 18)) (pc := 59) hx hb hK hP hD hS 10 0 rfl rfl hk59 dX9_primesAll_59 (fun H locs hP hD hS => ?_)
            obtain ⟨m0_59, em0_59, h⟩ := lt_i h
            have hP : va_P D vwCl (wX9 a0 c m0_59) H := by rw [em0_59]; exact hP
            have hD : va_D A (wX9 a0 c m0_59) := by rw [em0_59]; exact hD
            refine lv_aload_n (pc := 60) hx hb dX9_primesAll_60 rfl (lv_at hl 0 rfl) ?_
            refine lv_dup (pc := 61) hx hb dX9_primesAll_61 rfl ?_
            refine va_get (D := D) (ci := 9) (v := .int (m0_59.1 19 0)) (C := RX9) (T := TX9) (N := 24) (pc := 62) hx hb hfX9 (fun _ h9 => h9) hown hK hP 0 rfl rfl 19 (by decide) lk0 (fun _ h9 => h9) rfl dX9_primesAll_62 ?_
            refine lv_iconst (v := 1) (pc := 65) hx hb dX9_primesAll_65 (by decide) ?_
            refine lv_iadd (pc := 66) hx hb dX9_primesAll_66 ?_
            refine va_put (D := D) (ci := 9) (v := .int ((m0_59.1 19 0) + (1 : Int32))) (ty := .int) (C := RX9) (T := TX9) (N := 24) (pc := 67) hx hb hfX9 (fun _ h9 => h9) tyX9 tyX9_ok nmX9 hown hK hP hD hS 0 rfl rfl 19 (by decide) lk0 (fun _ h9 => h9) rfl (by decide +kernel) rfl rfl (Nat.le_of_ble_eq_true rfl) dX9_primesAll_67 (fun H locs hP hD hS => ?_)
            obtain ⟨m0_67, em0_67, h⟩ := lt_i h
            have hP : va_P D vwCl (wX9 a0 c m0_67) H := by rw [em0_67]; exact hP
            have hD : va_D A (wX9 a0 c m0_67) := by rw [em0_67]; exact hD
            have jr := J70 (fX9_primesAll_b20 K12 n) K20h x1 x2 x3 m0_67 _ _ ls h hP hD hS hl
            exact jr
          · replace h := it_t c39 h
            refine lv_goto (tgt := 70) (pc := 42) hx hb dX9_primesAll_42 (by decide) ?_
            have jr := J70 (fX9_primesAll_b20 K12 n) K20h x1 x2 x3 s0 _ _ ls h hP hD hS hl
            exact jr
  have J12 : ∀ (n : Nat) (x1 : Int32) (x2 : Int32) (s0 : Mem) (H : Heap) (locs : List Loc) (ls : Array Slot), fX9_primesAll_b12 n x1 x2 s0 = some z0 → va_P D vwCl (wX9 a0 c s0) H → va_D A (wX9 a0 c s0) → va_S A s.heap H locs → lv_has ls 4 [(0, .ref (a0 0)), (1, .int x1), (2, .int x2)] → W p l e rmX9_primesAll s m args below meth cd H locs 0 0 Q (F0 m 12 ls []) := by
    intro n
    induction n with
    | zero =>
      intro x1 x2 s0 H locs ls h _ _ _ _
      cases (show (none : Option (Mem)) = some _ from h)
    | succ n K12h =>
      intro x1 x2 s0 H locs ls h hP hD hS hl
      rw [fX9_primesAll_b12] at h
      refine lv_iload_n (pc := 12) hx hb dX9_primesAll_12 rfl (lv_at hl 2 rfl) ?_
      refine lv_bipush (v := 16) (pc := 13) hx hb dX9_primesAll_13 (by decide) ?_
      refine lv_icmp_ge (tgt := 82) (pc := 15) hx hb dX9_primesAll_15 (by decide) (fun c15 => ?_) (fun c15 => ?_)
      · replace h := it_t c15 h
        have kr := KR s0 _ _ 82 ls h hP hD hS dX9_primesAll_82
        exact kr
      · replace h := it_f c15 h
        refine lv_iconst (v := 0) (pc := 18) hx hb dX9_primesAll_18 (by decide) ?_
        refine lv_istore_n (lv' := [(3, .int (0 : Int32)), (0, .ref (a0 0)), (1, .int x1), (2, .int x2)]) (pc := 19) hx hb dX9_primesAll_19 rfl hl (by decide) rfl (fun ls hl => ?_)
        have jr := J20 (fX9_primesAll_b12 n) K12h FU x1 x2 (0 : Int32) s0 _ _ ls h hP hD hS (lv_sub hl [1, 2, 3, 0] rfl)
        exact jr
  refine lv_aload_n (pc := 0) hx hb dX9_primesAll_0 rfl (lv_at hl 0 rfl) ?_
  obtain ⟨r1, hc1, h⟩ := b1_i h
  refine g_all (st1 := [.int r1]) (gr_V (n := 0) (rest := []) (pc := 1) hx hb hml hown hts (cX9_coveredSet_met l D c a0 s0 _ hc1) gX9_primesAll_X9_coveredSet rfl rfl rfl (by decide +kernel) rfl ⟨Nat.le_of_ble_eq_true rfl, Nat.le_of_ble_eq_true rfl⟩ ⟨Nat.zero_le _, Nat.zero_le _⟩ 0 9 rfl rfl rfl gT_ok hP hD hK (fun _ _ _ => trivial) hl.1 (Nat.le_of_ble_eq_true rfl) dX9_primesAll_1 rfl) hD hS hA rfl (fun H locs hP hD hS => ?_)
  refine lv_istore_n (lv' := [(1, .int r1), (0, .ref (a0 0))]) (pc := 4) hx hb dX9_primesAll_4 rfl hl (by decide) rfl (fun ls hl => ?_)
  refine lv_aload_n (pc := 5) hx hb dX9_primesAll_5 rfl (lv_at hl 1 rfl) ?_
  refine lv_iconst (v := 0) (pc := 6) hx hb dX9_primesAll_6 (by decide) ?_
  refine va_put (D := D) (ci := 9) (v := .int (0 : Int32)) (ty := .int) (C := RX9) (T := TX9) (N := 24) (pc := 7) hx hb hfX9 (fun _ h9 => h9) tyX9 tyX9_ok nmX9 hown hK hP hD hS 0 rfl rfl 19 (by decide) lk0 (fun _ h9 => h9) rfl (by decide +kernel) rfl rfl (Nat.le_of_ble_eq_true rfl) dX9_primesAll_7 (fun H locs hP hD hS => ?_)
  obtain ⟨m0_7, em0_7, h⟩ := lt_i h
  have hP : va_P D vwCl (wX9 a0 c m0_7) H := by rw [em0_7]; exact hP
  have hD : va_D A (wX9 a0 c m0_7) := by rw [em0_7]; exact hD
  refine lv_iconst (v := 0) (pc := 10) hx hb dX9_primesAll_10 (by decide) ?_
  refine lv_istore_n (lv' := [(2, .int (0 : Int32)), (1, .int r1), (0, .ref (a0 0))]) (pc := 11) hx hb dX9_primesAll_11 rfl hl (by decide) rfl (fun ls hl => ?_)
  have jr := J12 FU r1 (0 : Int32) m0_7 _ _ ls h hP hD hS (lv_sub hl [2, 1, 0] rfl)
  exact jr
abbrev rmX9_prime : Room := { frames := 4, cells := 0, slots := 0, locals := 91 }
set_option maxRecDepth 100000 in
set_option maxHeartbeats 40000000 in
theorem cX9_prime_met (l : Launch) (D : va_G) (c : Nat → ClassId) (a0 : Nat → Nat) (p0 : Int32) (s0 : Mem) (r0 : Int32) (z0 : Mem) (h : fX9_prime p0 s0 = some (r0, z0)) : gM l yX9_prime wsX9_prime rmX9_prime D (gY c) gT [.ref (a0 0), .int p0] (wX9 a0 c s0) (some (.int r0)) (wX9 a0 c z0) := by
  unfold fX9_prime at h
  refine gM.I (cc := cX9_prime) (maxL := 2) (by decide) rfl (Nat.le_of_ble_eq_true rfl) ?_
  intro p e s m args below meth cd hx hb hml hown hts A hA ls hl hP hK hD hS hE Q KR0
  have hfX9 : ∀ w ∈ u_ws RX9 TX9 24, w.before args s = true := fun w hw => hts w (List.mem_cons_of_mem _ (List.mem_append_right _ hw))
  have lk0 := hts (.fieldLink RX9 210 "GlitchNetsModel" "primes" "I") (List.mem_of_getElem? (i := 1) rfl)
  have lk1 := hts (.fieldLink RX9 38 "GlitchNetsModel" "prime" "[I") (List.mem_of_getElem? (i := 2) rfl)
  have KR : ∀ (v : Int32) (w0 : Mem) (H : Heap) (locs : List Loc) (pc : Nat) (ls : Array Slot), some (v, w0) = some (r0, z0) → narrow .int (.int v) = .int v → va_P D vwCl (wX9 a0 c w0) H → va_D A (wX9 a0 c w0) → va_S A s.heap H locs → decode cX9_prime pc = .ok (.ireturn, 1) → W p l e rmX9_prime s m args below meth cd H locs 0 0 Q (F0 m pc ls [.int v]) := by
    intro v w0 H locs pc ls hr hn hP hD hS hd
    cases hr
    exact KR0 _ H locs pc ls rfl hn hP hD hS hd
  have hl : lv_has ls 2 [(0, .ref (a0 0)), (1, .int p0)] := hl
  refine lv_aload_n (pc := 0) hx hb dX9_prime_0 rfl (lv_at hl 0 rfl) ?_
  obtain ⟨t0_1, hc1, h⟩ := b1_i h
  refine g_all (st1 := []) (gr_V (n := 0) (rest := []) (pc := 1) hx hb hml hown hts (cX9_primesAll_met l D c a0 s0 _ hc1) gX9_prime_X9_primesAll rfl rfl rfl (by decide +kernel) rfl ⟨Nat.le_of_ble_eq_true rfl, Nat.le_of_ble_eq_true rfl⟩ ⟨Nat.zero_le _, Nat.zero_le _⟩ 0 9 rfl rfl rfl gT_ok hP hD hK (fun _ _ _ => trivial) hl.1 (Nat.le_of_ble_eq_true rfl) dX9_prime_1 rfl) hD hS hA rfl (fun H locs hP hD hS => ?_)
  refine lv_iload_n (pc := 4) hx hb dX9_prime_4 rfl (lv_at hl 1 rfl) ?_
  refine lv_iconst (v := -1) (pc := 5) hx hb dX9_prime_5 (by decide) ?_
  refine lv_icmp_ne (tgt := 16) (pc := 6) hx hb dX9_prime_6 (by decide) (fun c6 => ?_) (fun c6 => ?_)
  · replace h := it_f c6 h
    refine lv_iload_n (pc := 16) hx hb dX9_prime_16 rfl (lv_at hl 1 rfl) ?_
    refine lv_iconst (v := 0) (pc := 17) hx hb dX9_prime_17 (by decide) ?_
    refine lv_aload_n (pc := 18) hx hb dX9_prime_18 rfl (lv_at hl 0 rfl) ?_
    refine va_get (D := D) (ci := 9) (v := .int (t0_1.1 19 0)) (C := RX9) (T := TX9) (N := 24) (pc := 19) hx hb hfX9 (fun _ h9 => h9) hown hK hP 0 rfl rfl 19 (by decide) lk0 (fun _ h9 => h9) rfl dX9_prime_19 ?_
    refine lv_iconst (v := 1) (pc := 22) hx hb dX9_prime_22 (by decide) ?_
    refine lv_isub (pc := 23) hx hb dX9_prime_23 ?_
    obtain ⟨r24, hc24, h⟩ := b1_i h
    refine g_none (st1 := [.int r24]) (gr_S (n := 3) (rest := []) (pc := 24) hx hb hml hown hts (cX9_isIn_met l D c p0 (0 : Int32) (((t0_1.1 19 0) - (1 : Int32))) _ hc24) gX9_prime_X9_isIn rfl rfl rfl (by decide +kernel) rfl ⟨Nat.le_of_ble_eq_true rfl, Nat.le_of_ble_eq_true rfl⟩ ⟨Nat.zero_le _, Nat.zero_le _⟩ gT_ok g_P0 (g_D0 (A := A)) hK (fun _ _ _ => trivial) hl.1 (Nat.le_of_ble_eq_true rfl) dX9_prime_24 rfl) hP hS hA rfl (fun H locs hP hS => ?_)
    refine lv_if_eq (tgt := 39) (pc := 27) hx hb dX9_prime_27 (by decide) (fun c27 => ?_) (fun c27 => ?_)
    · replace h := it_t c27 h
      refine lv_bipush (v := -12) (pc := 39) hx hb dX9_prime_39 (by decide) ?_
      have kr := KR (-12 : Int32) t0_1 _ _ 41 ls h rfl hP hD hS dX9_prime_41
      exact kr
    · replace h := it_f c27 h
      refine lv_aload_n (pc := 30) hx hb dX9_prime_30 rfl (lv_at hl 0 rfl) ?_
      refine va_get (D := D) (ci := 9) (v := .ref (a0 10)) (C := RX9) (T := TX9) (N := 24) (pc := 31) hx hb hfX9 (fun _ h9 => h9) hown hK hP 0 rfl rfl 18 (by decide) lk1 (fun _ h9 => h9) rfl dX9_prime_31 ?_
      refine lv_iload_n (pc := 34) hx hb dX9_prime_34 rfl (lv_at hl 1 rfl) ?_
      obtain ⟨hk35, h⟩ := ckI_i h
      refine va_iald (D := D) (f := (t0_1.1 18)) (pc := 35) hx hb hK hP 10 0 rfl rfl hk35 dX9_prime_35 ?_
      refine lv_goto (tgt := 41) (pc := 36) hx hb dX9_prime_36 (by decide) ?_
      have kr := KR ((t0_1.1 18) (p0).toNatClampNeg) t0_1 _ _ 41 ls h rfl hP hD hS dX9_prime_41
      exact kr
  · replace h := it_t c6 h
    refine lv_aload_n (pc := 9) hx hb dX9_prime_9 rfl (lv_at hl 0 rfl) ?_
    refine va_get (D := D) (ci := 9) (v := .int (t0_1.1 19 0)) (C := RX9) (T := TX9) (N := 24) (pc := 10) hx hb hfX9 (fun _ h9 => h9) hown hK hP 0 rfl rfl 19 (by decide) lk0 (fun _ h9 => h9) rfl dX9_prime_10 ?_
    refine lv_goto (tgt := 41) (pc := 13) hx hb dX9_prime_13 (by decide) ?_
    have kr := KR (t0_1.1 19 0) t0_1 _ _ 41 ls h rfl hP hD hS dX9_prime_41
    exact kr
abbrev rmX9_helds : Room := { frames := 4, cells := 0, slots := 0, locals := 91 }
set_option maxRecDepth 100000 in
set_option maxHeartbeats 40000000 in
theorem cX9_helds_met (l : Launch) (D : va_G) (c : Nat → ClassId) (a0 : Nat → Nat) (s0 : Mem) (z0 : Mem) (h : fX9_helds s0 = some z0) : gM l yX9_helds wsX9_helds rmX9_helds D (gY c) gT [.ref (a0 0)] (wX9 a0 c s0) none (wX9 a0 c z0) := by
  unfold fX9_helds at h
  refine gM.V (cc := cX9_helds) (maxL := 3) (by decide) rfl (Nat.le_of_ble_eq_true rfl) ?_
  intro p e s m args below meth cd hx hb hml hown hts A hA ls hl hP hK hD hS hE Q KR0
  have hfX9 : ∀ w ∈ u_ws RX9 TX9 24, w.before args s = true := fun w hw => hts w (List.mem_cons_of_mem _ (List.mem_append_right _ hw))
  have lk0 := hts (.fieldLink RX9 192 "GlitchNetsModel" "opens" "I") (List.mem_of_getElem? (i := 1) rfl)
  have lk1 := hts (.fieldLink RX9 41 "GlitchNetsModel" "held" "[I") (List.mem_of_getElem? (i := 2) rfl)
  have lk2 := hts (.fieldLink RX9 210 "GlitchNetsModel" "primes" "I") (List.mem_of_getElem? (i := 3) rfl)
  have lk3 := hts (.fieldLink RX9 35 "GlitchNetsModel" "open" "[I") (List.mem_of_getElem? (i := 4) rfl)
  have lk4 := hts (.fieldLink RX9 38 "GlitchNetsModel" "prime" "[I") (List.mem_of_getElem? (i := 5) rfl)
  have KR : ∀ (w0 : Mem) (H : Heap) (locs : List Loc) (pc : Nat) (ls : Array Slot), some w0 = some z0 → va_P D vwCl (wX9 a0 c w0) H → va_D A (wX9 a0 c w0) → va_S A s.heap H locs → decode cX9_helds pc = .ok (.return_, 1) → W p l e rmX9_helds s m args below meth cd H locs 0 0 Q (F0 m pc ls []) := by
    intro w0 H locs pc ls hr hP hD hS hd
    cases hr
    exact KR0 H locs pc ls hP hD hS hd
  have hl : lv_has ls 3 [(0, .ref (a0 0))] := hl
  have J85 : ∀ (K27 : Int32 → Int32 → Mem → Option (Mem)) (K27h : ∀ (x1 : Int32) (x2 : Int32) (s0 : Mem) (H : Heap) (locs : List Loc) (ls : Array Slot), K27 x1 x2 s0 = some z0 → va_P D vwCl (wX9 a0 c s0) H → va_D A (wX9 a0 c s0) → va_S A s.heap H locs → lv_has ls 3 [(0, .ref (a0 0)), (1, .int x1), (2, .int x2)] → W p l e rmX9_helds s m args below meth cd H locs 0 0 Q (F0 m 27 ls [])) (x1 : Int32) (x2 : Int32) (y0 : Int32) (y1 : Int32) (y2 : Int32) (s0 : Mem) (H : Heap) (locs : List Loc) (ls : Array Slot), fX9_helds_b85 K27 x1 x2 y0 y1 y2 s0 = some z0 → va_P D vwCl (wX9 a0 c s0) H → va_D A (wX9 a0 c s0) → va_S A s.heap H locs → lv_has ls 3 [(0, .ref (a0 0)), (1, .int x1), (2, .int x2)] → W p l e rmX9_helds s m args below meth cd H locs 0 0 Q (F0 m 85 ls [.int y0, .int y1, .int y2, .ref (a0 11)]) := by
    intro K27 K27h x1 x2 y0 y1 y2 s0 H locs ls h hP hD hS hl
    unfold fX9_helds_b85 at h
    refine lv_ior (pc := 85) hx hb dX9_helds_85 ?_
    obtain ⟨hk86, h⟩ := ckI_i h
    refine va_iast (D := D) (f := (s0.1 20)) (pc := 86) hx hb hK hP hD hS 11 0 rfl rfl hk86 dX9_helds_86 (fun H locs hP hD hS => ?_)
    obtain ⟨m0_86, em0_86, h⟩ := lt_i h
    have hP : va_P D vwCl (wX9 a0 c m0_86) H := by rw [em0_86]; exact hP
    have hD : va_D A (wX9 a0 c m0_86) := by rw [em0_86]; exact hD
    obtain ⟨v2_87, ev2_87, h⟩ := lt_i h
    refine lv_iinc (v := v2_87) (lv' := [(2, .int v2_87), (0, .ref (a0 0)), (1, .int x1)]) (pc := 87) hx hb dX9_helds_87 hl (k := 2) rfl (by rw [ev2_87]; rfl) (by decide) rfl (fun ls hl => ?_)
    refine lv_goto (tgt := 27) (pc := 90) hx hb dX9_helds_90 (by decide) ?_
    have jr := K27h x1 v2_87 m0_86 _ _ ls h hP hD hS (lv_sub hl [1, 2, 0] rfl)
    exact jr
  have J27 : ∀ (K10 : Int32 → Mem → Option (Mem)) (K10h : ∀ (x1 : Int32) (s0 : Mem) (H : Heap) (locs : List Loc) (ls : Array Slot), K10 x1 s0 = some z0 → va_P D vwCl (wX9 a0 c s0) H → va_D A (wX9 a0 c s0) → va_S A s.heap H locs → lv_has ls 3 [(0, .ref (a0 0)), (1, .int x1)] → W p l e rmX9_helds s m args below meth cd H locs 0 0 Q (F0 m 10 ls [])) (n : Nat) (x1 : Int32) (x2 : Int32) (s0 : Mem) (H : Heap) (locs : List Loc) (ls : Array Slot), fX9_helds_b27 K10 n x1 x2 s0 = some z0 → va_P D vwCl (wX9 a0 c s0) H → va_D A (wX9 a0 c s0) → va_S A s.heap H locs → lv_has ls 3 [(0, .ref (a0 0)), (1, .int x1), (2, .int x2)] → W p l e rmX9_helds s m args below meth cd H locs 0 0 Q (F0 m 27 ls []) := by
    intro K10 K10h n
    induction n with
    | zero =>
      intro x1 x2 s0 H locs ls h _ _ _ _
      cases (show (none : Option (Mem)) = some _ from h)
    | succ n K27h =>
      intro x1 x2 s0 H locs ls h hP hD hS hl
      rw [fX9_helds_b27] at h
      refine lv_iload_n (pc := 27) hx hb dX9_helds_27 rfl (lv_at hl 2 rfl) ?_
      refine lv_aload_n (pc := 28) hx hb dX9_helds_28 rfl (lv_at hl 0 rfl) ?_
      refine va_get (D := D) (ci := 9) (v := .int (s0.1 19 0)) (C := RX9) (T := TX9) (N := 24) (pc := 29) hx hb hfX9 (fun _ h9 => h9) hown hK hP 0 rfl rfl 19 (by decide) lk2 (fun _ h9 => h9) rfl dX9_helds_29 ?_
      refine lv_icmp_ge (tgt := 93) (pc := 32) hx hb dX9_helds_32 (by decide) (fun c32 => ?_) (fun c32 => ?_)
      · replace h := it_t c32 h
        obtain ⟨v1_93, ev1_93, h⟩ := lt_i h
        refine lv_iinc (v := v1_93) (lv' := [(1, .int v1_93), (0, .ref (a0 0)), (2, .int x2)]) (pc := 93) hx hb dX9_helds_93 hl (k := 1) rfl (by rw [ev1_93]; rfl) (by decide) rfl (fun ls hl => ?_)
        refine lv_goto (tgt := 10) (pc := 96) hx hb dX9_helds_96 (by decide) ?_
        have jr := K10h v1_93 s0 _ _ ls h hP hD hS (lv_sub hl [1, 0] rfl)
        exact jr
      · replace h := it_f c32 h
        refine lv_aload_n (pc := 35) hx hb dX9_helds_35 rfl (lv_at hl 0 rfl) ?_
        refine va_get (D := D) (ci := 9) (v := .ref (a0 11)) (C := RX9) (T := TX9) (N := 24) (pc := 36) hx hb hfX9 (fun _ h9 => h9) hown hK hP 0 rfl rfl 20 (by decide) lk1 (fun _ h9 => h9) rfl dX9_helds_36 ?_
        refine lv_iload_n (pc := 39) hx hb dX9_helds_39 rfl (lv_at hl 1 rfl) ?_
        refine lv_dup2_11 (pc := 40) hx hb dX9_helds_40 rfl rfl ?_
        obtain ⟨hk41, h⟩ := ckI_i h
        refine va_iald (D := D) (f := (s0.1 20)) (pc := 41) hx hb hK hP 11 0 rfl rfl hk41 dX9_helds_41 ?_
        refine lv_aload_n (pc := 42) hx hb dX9_helds_42 rfl (lv_at hl 0 rfl) ?_
        refine va_get (D := D) (ci := 9) (v := .ref (a0 9)) (C := RX9) (T := TX9) (N := 24) (pc := 43) hx hb hfX9 (fun _ h9 => h9) hown hK hP 0 rfl rfl 16 (by decide) lk3 (fun _ h9 => h9) rfl dX9_helds_43 ?_
        refine lv_iload_n (pc := 46) hx hb dX9_helds_46 rfl (lv_at hl 1 rfl) ?_
        obtain ⟨hk47, h⟩ := ckI_i h
        refine va_iald (D := D) (f := (s0.1 16)) (pc := 47) hx hb hK hP 9 0 rfl rfl hk47 dX9_helds_47 ?_
        obtain ⟨r48, hc48, h⟩ := b1_i h
        refine g_none (st1 := [.int r48, .int ((s0.1 20) (x1).toNatClampNeg), .int x1, .ref (a0 11)]) (gr_S (n := 1) (rest := [.int ((s0.1 20) (x1).toNatClampNeg), .int x1, .ref (a0 11)]) (pc := 48) hx hb hml hown hts (cX9_pairOf_met l D c (((s0.1 16) (x1).toNatClampNeg)) _ hc48) gX9_helds_X9_pairOf rfl rfl rfl (by decide +kernel) rfl ⟨Nat.le_of_ble_eq_true rfl, Nat.le_of_ble_eq_true rfl⟩ ⟨Nat.zero_le _, Nat.zero_le _⟩ gT_ok g_P0 (g_D0 (A := A)) hK (fun _ _ _ => trivial) hl.1 (Nat.le_of_ble_eq_true rfl) dX9_helds_48 rfl) hP hS hA rfl (fun H locs hP hS => ?_)
        refine lv_aload_n (pc := 51) hx hb dX9_helds_51 rfl (lv_at hl 0 rfl) ?_
        refine va_get (D := D) (ci := 9) (v := .ref (a0 10)) (C := RX9) (T := TX9) (N := 24) (pc := 52) hx hb hfX9 (fun _ h9 => h9) hown hK hP 0 rfl rfl 18 (by decide) lk4 (fun _ h9 => h9) rfl dX9_helds_52 ?_
        refine lv_iload_n (pc := 55) hx hb dX9_helds_55 rfl (lv_at hl 2 rfl) ?_
        obtain ⟨hk56, h⟩ := ckI_i h
        refine va_iald (D := D) (f := (s0.1 18)) (pc := 56) hx hb hK hP 10 0 rfl rfl hk56 dX9_helds_56 ?_
        refine lv_bipush (v := 16) (pc := 57) hx hb dX9_helds_57 (by decide) ?_
        obtain ⟨hz59, h⟩ := ck0_i h
        refine lv_idiv (pc := 59) hx hb dX9_helds_59 hz59 ?_
        refine lv_aload_n (pc := 60) hx hb dX9_helds_60 rfl (lv_at hl 0 rfl) ?_
        refine va_get (D := D) (ci := 9) (v := .ref (a0 10)) (C := RX9) (T := TX9) (N := 24) (pc := 61) hx hb hfX9 (fun _ h9 => h9) hown hK hP 0 rfl rfl 18 (by decide) lk4 (fun _ h9 => h9) rfl dX9_helds_61 ?_
        refine lv_iload_n (pc := 64) hx hb dX9_helds_64 rfl (lv_at hl 2 rfl) ?_
        obtain ⟨hk65, h⟩ := ckI_i h
        refine va_iald (D := D) (f := (s0.1 18)) (pc := 65) hx hb hK hP 10 0 rfl rfl hk65 dX9_helds_65 ?_
        refine lv_bipush (v := 16) (pc := 66) hx hb dX9_helds_66 (by decide) ?_
        obtain ⟨hz68, h⟩ := ck0_i h
        refine lv_irem (pc := 68) hx hb dX9_helds_68 hz68 ?_
        obtain ⟨r69, hc69, h⟩ := b1_i h
        refine g_none (st1 := [.int r69, .int r48, .int ((s0.1 20) (x1).toNatClampNeg), .int x1, .ref (a0 11)]) (gr_S (n := 2) (rest := [.int r48, .int ((s0.1 20) (x1).toNatClampNeg), .int x1, .ref (a0 11)]) (pc := 69) hx hb hml hown hts (cX9_holdsBy_met l D c ((((s0.1 18) (x2).toNatClampNeg) / (16 : Int32))) ((((s0.1 18) (x2).toNatClampNeg) - ((s0.1 18) (x2).toNatClampNeg) / (16 : Int32) * (16 : Int32))) _ hc69) gX9_helds_X9_holdsBy rfl rfl rfl (by decide +kernel) rfl ⟨Nat.le_of_ble_eq_true rfl, Nat.le_of_ble_eq_true rfl⟩ ⟨Nat.zero_le _, Nat.zero_le _⟩ gT_ok g_P0 (g_D0 (A := A)) hK (fun _ _ _ => trivial) hl.1 (Nat.le_of_ble_eq_true rfl) dX9_helds_69 rfl) hP hS hA rfl (fun H locs hP hS => ?_)
        refine lv_iconst (v := -1) (pc := 72) hx hb dX9_helds_72 (by decide) ?_
        refine lv_ixor (pc := 73) hx hb dX9_helds_73 ?_
        refine lv_iand (pc := 74) hx hb dX9_helds_74 ?_
        refine lv_if_ne (tgt := 84) (pc := 75) hx hb dX9_helds_75 (by decide) (fun c75 => ?_) (fun c75 => ?_)
        · replace h := it_f c75 h
          refine lv_iconst (v := 0) (pc := 84) hx hb dX9_helds_84 (by decide) ?_
          have jr := J85 (fX9_helds_b27 K10 n) K27h x1 x2 (0 : Int32) (((s0.1 20) (x1).toNatClampNeg)) x1 s0 _ _ ls h hP hD hS hl
          exact jr
        · replace h := it_t c75 h
          refine lv_iconst (v := 1) (pc := 78) hx hb dX9_helds_78 (by decide) ?_
          refine lv_iload_n (pc := 79) hx hb dX9_helds_79 rfl (lv_at hl 2 rfl) ?_
          refine lv_ishl (pc := 80) hx hb dX9_helds_80 ?_
          refine lv_goto (tgt := 85) (pc := 81) hx hb dX9_helds_81 (by decide) ?_
          have jr := J85 (fX9_helds_b27 K10 n) K27h x1 x2 (((1 : Int32) <<< (x2 &&& 31))) (((s0.1 20) (x1).toNatClampNeg)) x1 s0 _ _ ls h hP hD hS hl
          exact jr
  have J10 : ∀ (n : Nat) (x1 : Int32) (s0 : Mem) (H : Heap) (locs : List Loc) (ls : Array Slot), fX9_helds_b10 n x1 s0 = some z0 → va_P D vwCl (wX9 a0 c s0) H → va_D A (wX9 a0 c s0) → va_S A s.heap H locs → lv_has ls 3 [(0, .ref (a0 0)), (1, .int x1)] → W p l e rmX9_helds s m args below meth cd H locs 0 0 Q (F0 m 10 ls []) := by
    intro n
    induction n with
    | zero =>
      intro x1 s0 H locs ls h _ _ _ _
      cases (show (none : Option (Mem)) = some _ from h)
    | succ n K10h =>
      intro x1 s0 H locs ls h hP hD hS hl
      rw [fX9_helds_b10] at h
      refine lv_iload_n (pc := 10) hx hb dX9_helds_10 rfl (lv_at hl 1 rfl) ?_
      refine lv_aload_n (pc := 11) hx hb dX9_helds_11 rfl (lv_at hl 0 rfl) ?_
      refine va_get (D := D) (ci := 9) (v := .int (s0.1 17 0)) (C := RX9) (T := TX9) (N := 24) (pc := 12) hx hb hfX9 (fun _ h9 => h9) hown hK hP 0 rfl rfl 17 (by decide) lk0 (fun _ h9 => h9) rfl dX9_helds_12 ?_
      refine lv_icmp_ge (tgt := 99) (pc := 15) hx hb dX9_helds_15 (by decide) (fun c15 => ?_) (fun c15 => ?_)
      · replace h := it_t c15 h
        have kr := KR s0 _ _ 99 ls h hP hD hS dX9_helds_99
        exact kr
      · replace h := it_f c15 h
        refine lv_aload_n (pc := 18) hx hb dX9_helds_18 rfl (lv_at hl 0 rfl) ?_
        refine va_get (D := D) (ci := 9) (v := .ref (a0 11)) (C := RX9) (T := TX9) (N := 24) (pc := 19) hx hb hfX9 (fun _ h9 => h9) hown hK hP 0 rfl rfl 20 (by decide) lk1 (fun _ h9 => h9) rfl dX9_helds_19 ?_
        refine lv_iload_n (pc := 22) hx hb dX9_helds_22 rfl (lv_at hl 1 rfl) ?_
        refine lv_iconst (v := 0) (pc := 23) hx hb dX9_helds_23 (by decide) ?_
        obtain ⟨hk24, h⟩ := ckI_i h
        refine va_iast (D := D) (f := (s0.1 20)) (pc := 24) hx hb hK hP hD hS 11 0 rfl rfl hk24 dX9_helds_24 (fun H locs hP hD hS => ?_)
        obtain ⟨m0_24, em0_24, h⟩ := lt_i h
        have hP : va_P D vwCl (wX9 a0 c m0_24) H := by rw [em0_24]; exact hP
        have hD : va_D A (wX9 a0 c m0_24) := by rw [em0_24]; exact hD
        refine lv_iconst (v := 0) (pc := 25) hx hb dX9_helds_25 (by decide) ?_
        refine lv_istore_n (lv' := [(2, .int (0 : Int32)), (0, .ref (a0 0)), (1, .int x1)]) (pc := 26) hx hb dX9_helds_26 rfl hl (by decide) rfl (fun ls hl => ?_)
        have jr := J27 (fX9_helds_b10 n) K10h FU x1 (0 : Int32) m0_24 _ _ ls h hP hD hS (lv_sub hl [1, 2, 0] rfl)
        exact jr
  refine lv_aload_n (pc := 0) hx hb dX9_helds_0 rfl (lv_at hl 0 rfl) ?_
  obtain ⟨t0_1, hc1, h⟩ := b1_i h
  refine g_all (st1 := []) (gr_V (n := 0) (rest := []) (pc := 1) hx hb hml hown hts (cX9_primesAll_met l D c a0 s0 _ hc1) gX9_helds_X9_primesAll rfl rfl rfl (by decide +kernel) rfl ⟨Nat.le_of_ble_eq_true rfl, Nat.le_of_ble_eq_true rfl⟩ ⟨Nat.zero_le _, Nat.zero_le _⟩ 0 9 rfl rfl rfl gT_ok hP hD hK (fun _ _ _ => trivial) hl.1 (Nat.le_of_ble_eq_true rfl) dX9_helds_1 rfl) hD hS hA rfl (fun H locs hP hD hS => ?_)
  refine lv_aload_n (pc := 4) hx hb dX9_helds_4 rfl (lv_at hl 0 rfl) ?_
  obtain ⟨t0_5, hc5, h⟩ := b1_i h
  refine g_all (st1 := []) (gr_V (n := 0) (rest := []) (pc := 5) hx hb hml hown hts (cX9_opensAll_met l D c a0 t0_1 _ hc5) gX9_helds_X9_opensAll rfl rfl rfl (by decide +kernel) rfl ⟨Nat.le_of_ble_eq_true rfl, Nat.le_of_ble_eq_true rfl⟩ ⟨Nat.zero_le _, Nat.zero_le _⟩ 0 9 rfl rfl rfl gT_ok hP hD hK (fun _ _ _ => trivial) hl.1 (Nat.le_of_ble_eq_true rfl) dX9_helds_5 rfl) hD hS hA rfl (fun H locs hP hD hS => ?_)
  refine lv_iconst (v := 0) (pc := 8) hx hb dX9_helds_8 (by decide) ?_
  refine lv_istore_n (lv' := [(1, .int (0 : Int32)), (0, .ref (a0 0))]) (pc := 9) hx hb dX9_helds_9 rfl hl (by decide) rfl (fun ls hl => ?_)
  have jr := J10 FU (0 : Int32) t0_5 _ _ ls h hP hD hS (lv_sub hl [1, 0] rfl)
  exact jr
abbrev rmX9_areAllHeld : Room := { frames := 0, cells := 0, slots := 0, locals := 0 }
set_option maxRecDepth 100000 in
set_option maxHeartbeats 40000000 in
theorem cX9_areAllHeld_met (l : Launch) (D : va_G) (c : Nat → ClassId) (a0 : Nat → Nat) (p0 : Int32) (s0 : Mem) (r0 : Int32) (h : fX9_areAllHeld p0 s0 = some r0) : gM l yX9_areAllHeld wsX9_areAllHeld rmX9_areAllHeld D (gY c) gT [.ref (a0 0), .int p0] (wX9 a0 c s0) (some (.int r0)) (wX9 a0 c s0) := by
  unfold fX9_areAllHeld at h
  refine gM.I (cc := cX9_areAllHeld) (maxL := 3) (by decide) rfl (Nat.le_of_ble_eq_true rfl) ?_
  intro p e s m args below meth cd hx hb hml hown hts A hA ls hl hP hK hD hS hE Q KR0
  have hfX9 : ∀ w ∈ u_ws RX9 TX9 24, w.before args s = true := fun w hw => hts w (List.mem_cons_of_mem _ (List.mem_append_right _ hw))
  have lk0 := hts (.fieldLink RX9 192 "GlitchNetsModel" "opens" "I") (List.mem_of_getElem? (i := 1) rfl)
  have lk1 := hts (.fieldLink RX9 41 "GlitchNetsModel" "held" "[I") (List.mem_of_getElem? (i := 2) rfl)
  have KR : ∀ (v : Int32)  (H : Heap) (locs : List Loc) (pc : Nat) (ls : Array Slot), some v = some r0 → narrow .boolean (.int v) = .int v → va_P D vwCl (wX9 a0 c s0) H → va_D A (wX9 a0 c s0) → va_S A s.heap H locs → decode cX9_areAllHeld pc = .ok (.ireturn, 1) → W p l e rmX9_areAllHeld s m args below meth cd H locs 0 0 Q (F0 m pc ls [.int v]) := by
    intro v  H locs pc ls hr hn hP hD hS hd
    cases hr
    exact KR0 _ H locs pc ls rfl hn hP hD hS hd
  have hl : lv_has ls 3 [(0, .ref (a0 0)), (1, .int p0)] := hl
  have J2 : ∀ (n : Nat) (x1 : Int32) (x2 : Int32) (H : Heap) (locs : List Loc) (ls : Array Slot), fX9_areAllHeld_b2 s0 n x1 x2 = some r0 → va_P D vwCl (wX9 a0 c s0) H → va_D A (wX9 a0 c s0) → va_S A s.heap H locs → lv_has ls 3 [(0, .ref (a0 0)), (1, .int x1), (2, .int x2)] → W p l e rmX9_areAllHeld s m args below meth cd H locs 0 0 Q (F0 m 2 ls []) := by
    intro n
    induction n with
    | zero =>
      intro x1 x2 H locs ls h _ _ _ _
      cases (show (none : Option (Int32)) = some _ from h)
    | succ n K2h =>
      intro x1 x2 H locs ls h hP hD hS hl
      rw [fX9_areAllHeld_b2] at h
      refine lv_iload_n (pc := 2) hx hb dX9_areAllHeld_2 rfl (lv_at hl 2 rfl) ?_
      refine lv_aload_n (pc := 3) hx hb dX9_areAllHeld_3 rfl (lv_at hl 0 rfl) ?_
      refine va_get (D := D) (ci := 9) (v := .int (s0.1 17 0)) (C := RX9) (T := TX9) (N := 24) (pc := 4) hx hb hfX9 (fun _ h9 => h9) hown hK hP 0 rfl rfl 17 (by decide) lk0 (fun _ h9 => h9) rfl dX9_areAllHeld_4 ?_
      refine lv_icmp_ge (tgt := 29) (pc := 7) hx hb dX9_areAllHeld_7 (by decide) (fun c7 => ?_) (fun c7 => ?_)
      · replace h := it_t c7 h
        refine lv_iconst (v := 1) (pc := 29) hx hb dX9_areAllHeld_29 (by decide) ?_
        have kr := KR (1 : Int32)  _ _ 30 ls h rfl hP hD hS dX9_areAllHeld_30
        exact kr
      · replace h := it_f c7 h
        refine lv_aload_n (pc := 10) hx hb dX9_areAllHeld_10 rfl (lv_at hl 0 rfl) ?_
        refine va_get (D := D) (ci := 9) (v := .ref (a0 11)) (C := RX9) (T := TX9) (N := 24) (pc := 11) hx hb hfX9 (fun _ h9 => h9) hown hK hP 0 rfl rfl 20 (by decide) lk1 (fun _ h9 => h9) rfl dX9_areAllHeld_11 ?_
        refine lv_iload_n (pc := 14) hx hb dX9_areAllHeld_14 rfl (lv_at hl 2 rfl) ?_
        obtain ⟨hk15, h⟩ := ckI_i h
        refine va_iald (D := D) (f := (s0.1 20)) (pc := 15) hx hb hK hP 11 0 rfl rfl hk15 dX9_areAllHeld_15 ?_
        refine lv_iload_n (pc := 16) hx hb dX9_areAllHeld_16 rfl (lv_at hl 1 rfl) ?_
        refine lv_iand (pc := 17) hx hb dX9_areAllHeld_17 ?_
        refine lv_if_ne (tgt := 23) (pc := 18) hx hb dX9_areAllHeld_18 (by decide) (fun c18 => ?_) (fun c18 => ?_)
        · replace h := it_f c18 h
          obtain ⟨v2_23, ev2_23, h⟩ := lt_i h
          refine lv_iinc (v := v2_23) (lv' := [(2, .int v2_23), (0, .ref (a0 0)), (1, .int x1)]) (pc := 23) hx hb dX9_areAllHeld_23 hl (k := 2) rfl (by rw [ev2_23]; rfl) (by decide) rfl (fun ls hl => ?_)
          refine lv_goto (tgt := 2) (pc := 26) hx hb dX9_areAllHeld_26 (by decide) ?_
          have jr := K2h x1 v2_23 _ _ ls h hP hD hS (lv_sub hl [1, 2, 0] rfl)
          exact jr
        · replace h := it_t c18 h
          refine lv_iconst (v := 0) (pc := 21) hx hb dX9_areAllHeld_21 (by decide) ?_
          have kr := KR (0 : Int32)  _ _ 22 ls h rfl hP hD hS dX9_areAllHeld_22
          exact kr
  refine lv_iconst (v := 0) (pc := 0) hx hb dX9_areAllHeld_0 (by decide) ?_
  refine lv_istore_n (lv' := [(2, .int (0 : Int32)), (0, .ref (a0 0)), (1, .int p0)]) (pc := 1) hx hb dX9_areAllHeld_1 rfl hl (by decide) rfl (fun ls hl => ?_)
  have jr := J2 FU p0 (0 : Int32) _ _ ls h hP hD hS (lv_sub hl [1, 2, 0] rfl)
  exact jr
abbrev rmX9_added : Room := { frames := 5, cells := 0, slots := 0, locals := 113 }
set_option maxRecDepth 100000 in
set_option maxHeartbeats 40000000 in
theorem cX9_added_met (l : Launch) (D : va_G) (c : Nat → ClassId) (a0 : Nat → Nat) (p0 : Int32) (s0 : Mem) (r0 : Int64) (z0 : Mem) (h : fX9_added p0 s0 = some (r0, z0)) : gM l yX9_added wsX9_added rmX9_added D (gY c) gT [.ref (a0 0), .int p0] (wX9 a0 c s0) (some (.long r0)) (wX9 a0 c z0) := by
  unfold fX9_added at h
  refine gM.L (cc := cX9_added) (maxL := 4) (by decide) rfl (Nat.le_of_ble_eq_true rfl) ?_
  intro p e s m args below meth cd hx hb hml hown hts A hA ls hl hP hK hD hS hE Q KR0
  have hfX9 : ∀ w ∈ u_ws RX9 TX9 24, w.before args s = true := fun w hw => hts w (List.mem_cons_of_mem _ (List.mem_append_right _ hw))
  have lk0 := hts (.fieldLink RX9 210 "GlitchNetsModel" "primes" "I") (List.mem_of_getElem? (i := 2) rfl)
  have lk1 := hts (.constantLong RX9 219 (-2)) (List.mem_of_getElem? (i := 1) rfl)
  have KR : ∀ (v : Int64) (w0 : Mem) (H : Heap) (locs : List Loc) (pc : Nat) (ls : Array Slot), some (v, w0) = some (r0, z0) → va_P D vwCl (wX9 a0 c w0) H → va_D A (wX9 a0 c w0) → va_S A s.heap H locs → decode cX9_added pc = .ok (.lreturn, 1) → W p l e rmX9_added s m args below meth cd H locs 0 0 Q (F0 m pc ls [.long v]) := by
    intro v w0 H locs pc ls hr hP hD hS hd
    cases hr
    exact KR0 _ H locs pc ls rfl hP hD hS hd
  have hl : lv_has ls 4 [(0, .ref (a0 0)), (1, .int p0)] := hl
  have J59 : ∀ (K21 : Int32 → Int32 → Int32 → Mem → Option (Int64 × Mem)) (K21h : ∀ (x1 : Int32) (x2 : Int32) (x3 : Int32) (s0 : Mem) (H : Heap) (locs : List Loc) (ls : Array Slot), K21 x1 x2 x3 s0 = some (r0, z0) → va_P D vwCl (wX9 a0 c s0) H → va_D A (wX9 a0 c s0) → va_S A s.heap H locs → lv_has ls 4 [(0, .ref (a0 0)), (1, .int x1), (2, .int x2), (3, .int x3)] → W p l e rmX9_added s m args below meth cd H locs 0 0 Q (F0 m 21 ls [])) (x1 : Int32) (x2 : Int32) (x3 : Int32) (s0 : Mem) (H : Heap) (locs : List Loc) (ls : Array Slot), fX9_added_b59 K21 x1 x2 x3 s0 = some (r0, z0) → va_P D vwCl (wX9 a0 c s0) H → va_D A (wX9 a0 c s0) → va_S A s.heap H locs → lv_has ls 4 [(0, .ref (a0 0)), (1, .int x1), (2, .int x2), (3, .int x3)] → W p l e rmX9_added s m args below meth cd H locs 0 0 Q (F0 m 59 ls []) := by
    intro K21 K21h x1 x2 x3 s0 H locs ls h hP hD hS hl
    unfold fX9_added_b59 at h
    obtain ⟨v3_59, ev3_59, h⟩ := lt_i h
    refine lv_iinc (v := v3_59) (lv' := [(3, .int v3_59), (0, .ref (a0 0)), (1, .int x1), (2, .int x2)]) (pc := 59) hx hb dX9_added_59 hl (k := 3) rfl (by rw [ev3_59]; rfl) (by decide) rfl (fun ls hl => ?_)
    refine lv_goto (tgt := 21) (pc := 62) hx hb dX9_added_62 (by decide) ?_
    have jr := K21h x1 x2 v3_59 s0 _ _ ls h hP hD hS (lv_sub hl [1, 2, 3, 0] rfl)
    exact jr
  have J49 : ∀ (K21 : Int32 → Int32 → Int32 → Mem → Option (Int64 × Mem)) (K21h : ∀ (x1 : Int32) (x2 : Int32) (x3 : Int32) (s0 : Mem) (H : Heap) (locs : List Loc) (ls : Array Slot), K21 x1 x2 x3 s0 = some (r0, z0) → va_P D vwCl (wX9 a0 c s0) H → va_D A (wX9 a0 c s0) → va_S A s.heap H locs → lv_has ls 4 [(0, .ref (a0 0)), (1, .int x1), (2, .int x2), (3, .int x3)] → W p l e rmX9_added s m args below meth cd H locs 0 0 Q (F0 m 21 ls [])) (x1 : Int32) (x2 : Int32) (x3 : Int32) (s0 : Mem) (H : Heap) (locs : List Loc) (ls : Array Slot), fX9_added_b49 K21 x1 x2 x3 s0 = some (r0, z0) → va_P D vwCl (wX9 a0 c s0) H → va_D A (wX9 a0 c s0) → va_S A s.heap H locs → lv_has ls 4 [(0, .ref (a0 0)), (1, .int x1), (2, .int x2), (3, .int x3)] → W p l e rmX9_added s m args below meth cd H locs 0 0 Q (F0 m 49 ls []) := by
    intro K21 K21h x1 x2 x3 s0 H locs ls h hP hD hS hl
    unfold fX9_added_b49 at h
    refine lv_aload_n (pc := 49) hx hb dX9_added_49 rfl (lv_at hl 0 rfl) ?_
    refine lv_iload_n (pc := 50) hx hb dX9_added_50 rfl (lv_at hl 3 rfl) ?_
    obtain ⟨r51, hc51, h⟩ := b1_i h
    refine g_all (st1 := [.int r51]) (gr_V (n := 1) (rest := []) (pc := 51) hx hb hml hown hts (cX9_areAllHeld_met l D c a0 x3 s0 _ hc51) gX9_added_X9_areAllHeld rfl rfl rfl (by decide +kernel) rfl ⟨Nat.le_of_ble_eq_true rfl, Nat.le_of_ble_eq_true rfl⟩ ⟨Nat.zero_le _, Nat.zero_le _⟩ 0 9 rfl rfl rfl gT_ok hP hD hK (fun _ _ _ => trivial) hl.1 (Nat.le_of_ble_eq_true rfl) dX9_added_51 rfl) hD hS hA rfl (fun H locs hP hD hS => ?_)
    refine lv_if_eq (tgt := 59) (pc := 54) hx hb dX9_added_54 (by decide) (fun c54 => ?_) (fun c54 => ?_)
    · replace h := it_t c54 h
      have jr := J59 K21 K21h x1 x2 x3 s0 _ _ ls h hP hD hS hl
      exact jr
    · replace h := it_f c54 h
      refine lv_iload_n (pc := 57) hx hb dX9_added_57 rfl (lv_at hl 3 rfl) ?_
      refine lv_istore_n (lv' := [(2, .int x3), (0, .ref (a0 0)), (1, .int x1), (3, .int x3)]) (pc := 58) hx hb dX9_added_58 rfl hl (by decide) rfl (fun ls hl => ?_)
      have jr := J59 K21 K21h x1 x3 x3 s0 _ _ ls h hP hD hS (lv_sub hl [1, 2, 0, 3] rfl)
      exact jr
  have J21 : ∀ (n : Nat) (x1 : Int32) (x2 : Int32) (x3 : Int32) (s0 : Mem) (H : Heap) (locs : List Loc) (ls : Array Slot), fX9_added_b21 n x1 x2 x3 s0 = some (r0, z0) → va_P D vwCl (wX9 a0 c s0) H → va_D A (wX9 a0 c s0) → va_S A s.heap H locs → lv_has ls 4 [(0, .ref (a0 0)), (1, .int x1), (2, .int x2), (3, .int x3)] → W p l e rmX9_added s m args below meth cd H locs 0 0 Q (F0 m 21 ls []) := by
    intro n
    induction n with
    | zero =>
      intro x1 x2 x3 s0 H locs ls h _ _ _ _
      cases (show (none : Option (Int64 × Mem)) = some _ from h)
    | succ n K21h =>
      intro x1 x2 x3 s0 H locs ls h hP hD hS hl
      rw [fX9_added_b21] at h
      refine lv_iload_n (pc := 21) hx hb dX9_added_21 rfl (lv_at hl 3 rfl) ?_
      refine lv_iconst (v := 1) (pc := 22) hx hb dX9_added_22 (by decide) ?_
      refine lv_aload_n (pc := 23) hx hb dX9_added_23 rfl (lv_at hl 0 rfl) ?_
      refine va_get (D := D) (ci := 9) (v := .int (s0.1 19 0)) (C := RX9) (T := TX9) (N := 24) (pc := 24) hx hb hfX9 (fun _ h9 => h9) hown hK hP 0 rfl rfl 19 (by decide) lk0 (fun _ h9 => h9) rfl dX9_added_24 ?_
      refine lv_ishl (pc := 27) hx hb dX9_added_27 ?_
      refine lv_icmp_ge (tgt := 65) (pc := 28) hx hb dX9_added_28 (by decide) (fun c28 => ?_) (fun c28 => ?_)
      · replace h := it_t c28 h
        refine lv_iload_n (pc := 65) hx hb dX9_added_65 rfl (lv_at hl 1 rfl) ?_
        refine lv_if_ne (tgt := 78) (pc := 66) hx hb dX9_added_66 (by decide) (fun c66 => ?_) (fun c66 => ?_)
        · replace h := it_f c66 h
          refine lv_iload_n (pc := 78) hx hb dX9_added_78 rfl (lv_at hl 2 rfl) ?_
          refine lv_i2l (v := ((x2).toInt64)) (pc := 79) hx hb dX9_added_79 rfl ?_
          have kr := KR ((x2).toInt64) s0 _ _ 80 ls h hP hD hS dX9_added_80
          exact kr
        · replace h := it_t c66 h
          refine lv_iload_n (pc := 69) hx hb dX9_added_69 rfl (lv_at hl 2 rfl) ?_
          refine lv_i2l (v := ((x2).toInt64)) (pc := 70) hx hb dX9_added_70 rfl ?_
          obtain ⟨r71, hc71, h⟩ := b1_i h
          refine g_none (st1 := [.int r71]) (gr_S (n := 1) (rest := []) (pc := 71) hx hb hml hown hts (cX9_bits_met l D c (((x2).toInt64)) _ hc71) gX9_added_X9_bits rfl rfl rfl (by decide +kernel) rfl ⟨Nat.le_of_ble_eq_true rfl, Nat.le_of_ble_eq_true rfl⟩ ⟨Nat.zero_le _, Nat.zero_le _⟩ gT_ok g_P0 (g_D0 (A := A)) hK (fun _ _ _ => trivial) hl.1 (Nat.le_of_ble_eq_true rfl) dX9_added_71 rfl) hP hS hA rfl (fun H locs hP hS => ?_)
          refine lv_i2l (v := ((r71).toInt64)) (pc := 74) hx hb dX9_added_74 rfl ?_
          refine lv_goto (tgt := 80) (pc := 75) hx hb dX9_added_75 (by decide) ?_
          have kr := KR ((r71).toInt64) s0 _ _ 80 ls h hP hD hS dX9_added_80
          exact kr
      · replace h := it_f c28 h
        refine lv_iload_n (pc := 31) hx hb dX9_added_31 rfl (lv_at hl 2 rfl) ?_
        refine lv_iconst (v := -1) (pc := 32) hx hb dX9_added_32 (by decide) ?_
        refine lv_icmp_eq (tgt := 49) (pc := 33) hx hb dX9_added_33 (by decide) (fun c33 => ?_) (fun c33 => ?_)
        · replace h := it_t c33 h
          have jr := J49 (fX9_added_b21 n) K21h x1 x2 x3 s0 _ _ ls h hP hD hS hl
          exact jr
        · replace h := it_f c33 h
          refine lv_iload_n (pc := 36) hx hb dX9_added_36 rfl (lv_at hl 3 rfl) ?_
          refine lv_i2l (v := ((x3).toInt64)) (pc := 37) hx hb dX9_added_37 rfl ?_
          obtain ⟨r38, hc38, h⟩ := b1_i h
          refine g_none (st1 := [.int r38]) (gr_S (n := 1) (rest := []) (pc := 38) hx hb hml hown hts (cX9_bits_met l D c (((x3).toInt64)) _ hc38) gX9_added_X9_bits rfl rfl rfl (by decide +kernel) rfl ⟨Nat.le_of_ble_eq_true rfl, Nat.le_of_ble_eq_true rfl⟩ ⟨Nat.zero_le _, Nat.zero_le _⟩ gT_ok g_P0 (g_D0 (A := A)) hK (fun _ _ _ => trivial) hl.1 (Nat.le_of_ble_eq_true rfl) dX9_added_38 rfl) hP hS hA rfl (fun H locs hP hS => ?_)
          refine lv_iload_n (pc := 41) hx hb dX9_added_41 rfl (lv_at hl 2 rfl) ?_
          refine lv_i2l (v := ((x2).toInt64)) (pc := 42) hx hb dX9_added_42 rfl ?_
          obtain ⟨r43, hc43, h⟩ := b1_i h
          refine g_none (st1 := [.int r43, .int r38]) (gr_S (n := 1) (rest := [.int r38]) (pc := 43) hx hb hml hown hts (cX9_bits_met l D c (((x2).toInt64)) _ hc43) gX9_added_X9_bits rfl rfl rfl (by decide +kernel) rfl ⟨Nat.le_of_ble_eq_true rfl, Nat.le_of_ble_eq_true rfl⟩ ⟨Nat.zero_le _, Nat.zero_le _⟩ gT_ok g_P0 (g_D0 (A := A)) hK (fun _ _ _ => trivial) hl.1 (Nat.le_of_ble_eq_true rfl) dX9_added_43 rfl) hP hS hA rfl (fun H locs hP hS => ?_)
          refine lv_icmp_ge (tgt := 59) (pc := 46) hx hb dX9_added_46 (by decide) (fun c46 => ?_) (fun c46 => ?_)
          · replace h := it_t c46 h
            have jr := J59 (fX9_added_b21 n) K21h x1 x2 x3 s0 _ _ ls h hP hD hS hl
            exact jr
          · replace h := it_f c46 h
            have jr := J49 (fX9_added_b21 n) K21h x1 x2 x3 s0 _ _ ls h hP hD hS hl
            exact jr
  refine lv_iload_n (pc := 0) hx hb dX9_added_0 rfl (lv_at hl 1 rfl) ?_
  refine lv_iconst (v := 0) (pc := 1) hx hb dX9_added_1 (by decide) ?_
  refine lv_iconst (v := 1) (pc := 2) hx hb dX9_added_2 (by decide) ?_
  obtain ⟨r3, hc3, h⟩ := b1_i h
  refine g_none (st1 := [.int r3]) (gr_S (n := 3) (rest := []) (pc := 3) hx hb hml hown hts (cX9_isIn_met l D c p0 (0 : Int32) (1 : Int32) _ hc3) gX9_added_X9_isIn rfl rfl rfl (by decide +kernel) rfl ⟨Nat.le_of_ble_eq_true rfl, Nat.le_of_ble_eq_true rfl⟩ ⟨Nat.zero_le _, Nat.zero_le _⟩ gT_ok g_P0 (g_D0 (A := A)) hK (fun _ _ _ => trivial) hl.1 (Nat.le_of_ble_eq_true rfl) dX9_added_3 rfl) hP hS hA rfl (fun H locs hP hS => ?_)
  refine lv_if_ne (tgt := 13) (pc := 6) hx hb dX9_added_6 (by decide) (fun c6 => ?_) (fun c6 => ?_)
  · replace h := it_f c6 h
    refine lv_aload_n (pc := 13) hx hb dX9_added_13 rfl (lv_at hl 0 rfl) ?_
    obtain ⟨t0_14, hc14, h⟩ := b1_i h
    refine g_all (st1 := []) (gr_V (n := 0) (rest := []) (pc := 14) hx hb hml hown hts (cX9_helds_met l D c a0 s0 _ hc14) gX9_added_X9_helds rfl rfl rfl (by decide +kernel) rfl ⟨Nat.le_of_ble_eq_true rfl, Nat.le_of_ble_eq_true rfl⟩ ⟨Nat.zero_le _, Nat.zero_le _⟩ 0 9 rfl rfl rfl gT_ok hP hD hK (fun _ _ _ => trivial) hl.1 (Nat.le_of_ble_eq_true rfl) dX9_added_14 rfl) hD hS hA rfl (fun H locs hP hD hS => ?_)
    refine lv_iconst (v := -1) (pc := 17) hx hb dX9_added_17 (by decide) ?_
    refine lv_istore_n (lv' := [(2, .int (-1 : Int32)), (0, .ref (a0 0)), (1, .int p0)]) (pc := 18) hx hb dX9_added_18 rfl hl (by decide) rfl (fun ls hl => ?_)
    refine lv_iconst (v := 0) (pc := 19) hx hb dX9_added_19 (by decide) ?_
    refine lv_istore_n (lv' := [(3, .int (0 : Int32)), (2, .int (-1 : Int32)), (0, .ref (a0 0)), (1, .int p0)]) (pc := 20) hx hb dX9_added_20 rfl hl (by decide) rfl (fun ls hl => ?_)
    have jr := J21 FU p0 (-1 : Int32) (0 : Int32) t0_14 _ _ ls h hP hD hS (lv_sub hl [2, 3, 1, 0] rfl)
    exact jr
  · replace h := it_t c6 h
    refine lv_ldc2 (v := -2) (pc := 9) hx hb hown lk1 dX9_added_9 ?_
    have kr := KR (-2 : Int64) s0 _ _ 12 ls h hP hD hS dX9_added_12
    exact kr
abbrev rmX9_isSheet : Room := { frames := 1, cells := 0, slots := 0, locals := 22 }
set_option maxRecDepth 100000 in
set_option maxHeartbeats 40000000 in
theorem cX9_isSheet_met (l : Launch) (D : va_G) (c : Nat → ClassId)  (p0 : Int32) (r0 : Int32) (h : fX9_isSheet p0 = some r0) : gM l yX9_isSheet wsX9_isSheet rmX9_isSheet D (gY c) gT [.int p0] ([]) (some (.int r0)) ([]) := by
  unfold fX9_isSheet at h
  refine gM.I (cc := cX9_isSheet) (maxL := 1) (by decide) rfl (Nat.le_of_ble_eq_true rfl) ?_
  intro p e s m args below meth cd hx hb hml hown hts A hA ls hl hP hK hD hS hE Q KR0
  have KR : ∀ (v : Int32)  (H : Heap) (locs : List Loc) (pc : Nat) (ls : Array Slot), some v = some r0 → narrow .boolean (.int v) = .int v → va_P D vwCl ([]) H → va_D A ([]) → va_S A s.heap H locs → decode cX9_isSheet pc = .ok (.ireturn, 1) → W p l e rmX9_isSheet s m args below meth cd H locs 0 0 Q (F0 m pc ls [.int v]) := by
    intro v  H locs pc ls hr hn hP hD hS hd
    cases hr
    exact KR0 _ H locs pc ls rfl hn hP hD hS hd
  have hl : lv_has ls 1 [(0, .int p0)] := hl
  refine lv_iload_n (pc := 0) hx hb dX9_isSheet_0 rfl (lv_at hl 0 rfl) ?_
  refine lv_iconst (v := 0) (pc := 1) hx hb dX9_isSheet_1 (by decide) ?_
  refine lv_iconst (v := 3) (pc := 2) hx hb dX9_isSheet_2 (by decide) ?_
  obtain ⟨r3, hc3, h⟩ := b1_i h
  refine g_none (st1 := [.int r3]) (gr_S (n := 3) (rest := []) (pc := 3) hx hb hml hown hts (cX9_isIn_met l D c p0 (0 : Int32) (3 : Int32) _ hc3) gX9_isSheet_X9_isIn rfl rfl rfl (by decide +kernel) rfl ⟨Nat.le_of_ble_eq_true rfl, Nat.le_of_ble_eq_true rfl⟩ ⟨Nat.zero_le _, Nat.zero_le _⟩ gT_ok g_P0 (g_D0 (A := A)) hK (fun _ _ _ => trivial) hl.1 (Nat.le_of_ble_eq_true rfl) dX9_isSheet_3 rfl) hP hS hA rfl (fun H locs hP hS => ?_)
  obtain ⟨hz6, h⟩ := ckZ_i h
  have kr := KR r3  _ _ 6 ls h hz6 hP hD hS dX9_isSheet_6
  exact kr
abbrev rmX9_firstOther : Room := { frames := 3, cells := 0, slots := 0, locals := 69 }
set_option maxRecDepth 100000 in
set_option maxHeartbeats 40000000 in
theorem cX9_firstOther_met (l : Launch) (D : va_G) (c : Nat → ClassId) (a0 : Nat → Nat) (p0 : Int32) (p1 : Int32) (p2 : Int32) (s0 : Mem) (r0 : Int32) (z0 : Mem) (h : fX9_firstOther p0 p1 p2 s0 = some (r0, z0)) : gM l yX9_firstOther wsX9_firstOther rmX9_firstOther D (gY c) gT [.ref (a0 0), .int p0, .int p1, .int p2] (wX9 a0 c s0) (some (.int r0)) (wX9 a0 c z0) := by
  unfold fX9_firstOther at h
  refine gM.I (cc := cX9_firstOther) (maxL := 5) (by decide) rfl (Nat.le_of_ble_eq_true rfl) ?_
  intro p e s m args below meth cd hx hb hml hown hts A hA ls hl hP hK hD hS hE Q KR0
  have hfX9 : ∀ w ∈ u_ws RX9 TX9 24, w.before args s = true := fun w hw => hts w (List.mem_cons_of_mem _ (List.mem_append_right _ hw))
  have lk0 := hts (.fieldLink RX9 47 "GlitchNetsModel" "sheetSize" "[I") (List.mem_of_getElem? (i := 1) rfl)
  have lk1 := hts (.fieldLink RX9 50 "GlitchNetsModel" "item" "[I") (List.mem_of_getElem? (i := 2) rfl)
  have KR : ∀ (v : Int32) (w0 : Mem) (H : Heap) (locs : List Loc) (pc : Nat) (ls : Array Slot), some (v, w0) = some (r0, z0) → narrow .int (.int v) = .int v → va_P D vwCl (wX9 a0 c w0) H → va_D A (wX9 a0 c w0) → va_S A s.heap H locs → decode cX9_firstOther pc = .ok (.ireturn, 1) → W p l e rmX9_firstOther s m args below meth cd H locs 0 0 Q (F0 m pc ls [.int v]) := by
    intro v w0 H locs pc ls hr hn hP hD hS hd
    cases hr
    exact KR0 _ H locs pc ls rfl hn hP hD hS hd
  have hl : lv_has ls 5 [(0, .ref (a0 0)), (1, .int p0), (2, .int p1), (3, .int p2)] := hl
  have J9 : ∀ (n : Nat) (x1 : Int32) (x4 : Int32) (s0 : Mem) (H : Heap) (locs : List Loc) (ls : Array Slot), fX9_firstOther_b9 n x1 x4 s0 = some (r0, z0) → va_P D vwCl (wX9 a0 c s0) H → va_D A (wX9 a0 c s0) → va_S A s.heap H locs → lv_has ls 5 [(0, .ref (a0 0)), (1, .int x1), (4, .int x4)] → W p l e rmX9_firstOther s m args below meth cd H locs 0 0 Q (F0 m 9 ls []) := by
    intro n
    induction n with
    | zero =>
      intro x1 x4 s0 H locs ls h _ _ _ _
      cases (show (none : Option (Int32 × Mem)) = some _ from h)
    | succ n K9h =>
      intro x1 x4 s0 H locs ls h hP hD hS hl
      rw [fX9_firstOther_b9] at h
      refine lv_iload (pc := 9) hx hb dX9_firstOther_9 (lv_at hl 2 rfl) ?_
      refine lv_aload_n (pc := 11) hx hb dX9_firstOther_11 rfl (lv_at hl 0 rfl) ?_
      refine va_get (D := D) (ci := 9) (v := .ref (a0 13)) (C := RX9) (T := TX9) (N := 24) (pc := 12) hx hb hfX9 (fun _ h9 => h9) hown hK hP 0 rfl rfl 22 (by decide) lk0 (fun _ h9 => h9) rfl dX9_firstOther_12 ?_
      refine lv_iload_n (pc := 15) hx hb dX9_firstOther_15 rfl (lv_at hl 1 rfl) ?_
      obtain ⟨hk16, h⟩ := ckI_i h
      refine va_iald (D := D) (f := (s0.1 22)) (pc := 16) hx hb hK hP 13 0 rfl rfl hk16 dX9_firstOther_16 ?_
      refine lv_icmp_ge (tgt := 50) (pc := 17) hx hb dX9_firstOther_17 (by decide) (fun c17 => ?_) (fun c17 => ?_)
      · replace h := it_t c17 h
        refine lv_iconst (v := -1) (pc := 50) hx hb dX9_firstOther_50 (by decide) ?_
        have kr := KR (-1 : Int32) s0 _ _ 51 ls h rfl hP hD hS dX9_firstOther_51
        exact kr
      · replace h := it_f c17 h
        refine lv_aload_n (pc := 20) hx hb dX9_firstOther_20 rfl (lv_at hl 0 rfl) ?_
        refine va_get (D := D) (ci := 9) (v := .ref (a0 14)) (C := RX9) (T := TX9) (N := 24) (pc := 21) hx hb hfX9 (fun _ h9 => h9) hown hK hP 0 rfl rfl 23 (by decide) lk1 (fun _ h9 => h9) rfl dX9_firstOther_21 ?_
        refine lv_bipush (v := 40) (pc := 24) hx hb dX9_firstOther_24 (by decide) ?_
        refine lv_iload_n (pc := 26) hx hb dX9_firstOther_26 rfl (lv_at hl 1 rfl) ?_
        refine lv_imul (pc := 27) hx hb dX9_firstOther_27 ?_
        refine lv_iload (pc := 28) hx hb dX9_firstOther_28 (lv_at hl 2 rfl) ?_
        refine lv_iadd (pc := 30) hx hb dX9_firstOther_30 ?_
        obtain ⟨hk31, h⟩ := ckI_i h
        refine va_iald (D := D) (f := (s0.1 23)) (pc := 31) hx hb hK hP 14 0 rfl rfl hk31 dX9_firstOther_31 ?_
        refine lv_aload_n (pc := 32) hx hb dX9_firstOther_32 rfl (lv_at hl 0 rfl) ?_
        refine lv_iload (pc := 33) hx hb dX9_firstOther_33 (lv_at hl 2 rfl) ?_
        obtain ⟨r35, hc35, h⟩ := b1_i h
        refine g_all (st1 := [.int r35, .int ((s0.1 23) ((((40 : Int32) * x1) + x4)).toNatClampNeg)]) (gr_V (n := 1) (rest := [.int ((s0.1 23) ((((40 : Int32) * x1) + x4)).toNatClampNeg)]) (pc := 35) hx hb hml hown hts (cX9_outAt_met l D c a0 x4 s0 _ hc35) gX9_firstOther_X9_outAt rfl rfl rfl (by decide +kernel) rfl ⟨Nat.le_of_ble_eq_true rfl, Nat.le_of_ble_eq_true rfl⟩ ⟨Nat.zero_le _, Nat.zero_le _⟩ 0 9 rfl rfl rfl gT_ok hP hD hK (fun _ _ _ => trivial) hl.1 (Nat.le_of_ble_eq_true rfl) dX9_firstOther_35 rfl) hD hS hA rfl (fun H locs hP hD hS => ?_)
        refine lv_icmp_eq (tgt := 44) (pc := 38) hx hb dX9_firstOther_38 (by decide) (fun c38 => ?_) (fun c38 => ?_)
        · replace h := it_t c38 h
          obtain ⟨v4_44, ev4_44, h⟩ := lt_i h
          refine lv_iinc (v := v4_44) (lv' := [(4, .int v4_44), (0, .ref (a0 0)), (1, .int x1)]) (pc := 44) hx hb dX9_firstOther_44 hl (k := 2) rfl (by rw [ev4_44]; rfl) (by decide) rfl (fun ls hl => ?_)
          refine lv_goto (tgt := 9) (pc := 47) hx hb dX9_firstOther_47 (by decide) ?_
          have jr := K9h x1 v4_44 s0 _ _ ls h hP hD hS (lv_sub hl [1, 2, 0] rfl)
          exact jr
        · replace h := it_f c38 h
          refine lv_iload (pc := 41) hx hb dX9_firstOther_41 (lv_at hl 2 rfl) ?_
          have kr := KR x4 s0 _ _ 43 ls h rfl hP hD hS dX9_firstOther_43
          exact kr
  refine lv_aload_n (pc := 0) hx hb dX9_firstOther_0 rfl (lv_at hl 0 rfl) ?_
  refine lv_iload_n (pc := 1) hx hb dX9_firstOther_1 rfl (lv_at hl 2 rfl) ?_
  refine lv_iload_n (pc := 2) hx hb dX9_firstOther_2 rfl (lv_at hl 3 rfl) ?_
  obtain ⟨t0_3, hc3, h⟩ := b1_i h
  refine g_all (st1 := []) (gr_V (n := 2) (rest := []) (pc := 3) hx hb hml hown hts (cX9_waves_met l D c a0 p1 p2 s0 _ hc3) gX9_firstOther_X9_waves rfl rfl rfl (by decide +kernel) rfl ⟨Nat.le_of_ble_eq_true rfl, Nat.le_of_ble_eq_true rfl⟩ ⟨Nat.zero_le _, Nat.zero_le _⟩ 0 9 rfl rfl rfl gT_ok hP hD hK (fun _ _ _ => trivial) hl.1 (Nat.le_of_ble_eq_true rfl) dX9_firstOther_3 rfl) hD hS hA rfl (fun H locs hP hD hS => ?_)
  refine lv_iconst (v := 0) (pc := 6) hx hb dX9_firstOther_6 (by decide) ?_
  refine lv_istore (lv' := [(4, .int (0 : Int32)), (0, .ref (a0 0)), (1, .int p0), (2, .int p1), (3, .int p2)]) (pc := 7) hx hb dX9_firstOther_7 hl (by decide) rfl (fun ls hl => ?_)
  have jr := J9 FU p0 (0 : Int32) t0_3 _ _ ls h hP hD hS (lv_sub hl [1, 2, 0] rfl)
  exact jr
abbrev rmX9_soBy : Room := { frames := 4, cells := 0, slots := 0, locals := 93 }
set_option maxRecDepth 100000 in
set_option maxHeartbeats 40000000 in
theorem cX9_soBy_met (l : Launch) (D : va_G) (c : Nat → ClassId) (a0 : Nat → Nat) (p0 : Int32) (p1 : Int32) (p2 : Int32) (p3 : Int32) (p4 : Int32) (p5 : Int32) (p6 : Int32) (s0 : Mem) (r0 : Int32) (z0 : Mem) (h : fX9_soBy p0 p1 p2 p3 p4 p5 p6 s0 = some (r0, z0)) : gM l yX9_soBy wsX9_soBy rmX9_soBy D (gY c) gT [.ref (a0 0), .int p0, .int p1, .int p2, .int p3, .int p4, .int p5, .int p6] (wX9 a0 c s0) (some (.int r0)) (wX9 a0 c z0) := by
  unfold fX9_soBy at h
  refine gM.I (cc := cX9_soBy) (maxL := 11) (by decide) rfl (Nat.le_of_ble_eq_true rfl) ?_
  intro p e s m args below meth cd hx hb hml hown hts A hA ls hl hP hK hD hS hE Q KR0
  have KR : ∀ (v : Int32) (w0 : Mem) (H : Heap) (locs : List Loc) (pc : Nat) (ls : Array Slot), some (v, w0) = some (r0, z0) → narrow .int (.int v) = .int v → va_P D vwCl (wX9 a0 c w0) H → va_D A (wX9 a0 c w0) → va_S A s.heap H locs → decode cX9_soBy pc = .ok (.ireturn, 1) → W p l e rmX9_soBy s m args below meth cd H locs 0 0 Q (F0 m pc ls [.int v]) := by
    intro v w0 H locs pc ls hr hn hP hD hS hd
    cases hr
    exact KR0 _ H locs pc ls rfl hn hP hD hS hd
  have hl : lv_has ls 11 [(0, .ref (a0 0)), (1, .int p0), (2, .int p1), (3, .int p2), (4, .int p3), (5, .int p4), (6, .int p5), (7, .int p6)] := hl
  have J56 : ∀ (K17 : Int32 → Int32 → Int32 → Int32 → Int32 → Int32 → Int32 → Int32 → Int32 → Mem → Option (Int32 × Mem)) (K17h : ∀ (x1 : Int32) (x2 : Int32) (x3 : Int32) (x4 : Int32) (x5 : Int32) (x7 : Int32) (x8 : Int32) (x9 : Int32) (x10 : Int32) (s0 : Mem) (H : Heap) (locs : List Loc) (ls : Array Slot), K17 x1 x2 x3 x4 x5 x7 x8 x9 x10 s0 = some (r0, z0) → va_P D vwCl (wX9 a0 c s0) H → va_D A (wX9 a0 c s0) → va_S A s.heap H locs → lv_has ls 11 [(0, .ref (a0 0)), (1, .int x1), (2, .int x2), (3, .int x3), (4, .int x4), (5, .int x5), (7, .int x7), (8, .int x8), (9, .int x9), (10, .int x10)] → W p l e rmX9_soBy s m args below meth cd H locs 0 0 Q (F0 m 17 ls [])) (x1 : Int32) (x2 : Int32) (x3 : Int32) (x4 : Int32) (x5 : Int32) (x7 : Int32) (x8 : Int32) (x10 : Int32) (y0 : Int32) (y1 : Int32) (s0 : Mem) (H : Heap) (locs : List Loc) (ls : Array Slot), fX9_soBy_b56 K17 x1 x2 x3 x4 x5 x7 x8 x10 y0 y1 s0 = some (r0, z0) → va_P D vwCl (wX9 a0 c s0) H → va_D A (wX9 a0 c s0) → va_S A s.heap H locs → lv_has ls 11 [(0, .ref (a0 0)), (1, .int x1), (2, .int x2), (3, .int x3), (4, .int x4), (5, .int x5), (7, .int x7), (8, .int x8), (10, .int x10)] → W p l e rmX9_soBy s m args below meth cd H locs 0 0 Q (F0 m 56 ls [.int y0, .int y1]) := by
    intro K17 K17h x1 x2 x3 x4 x5 x7 x8 x10 y0 y1 s0 H locs ls h hP hD hS hl
    unfold fX9_soBy_b56 at h
    refine lv_ior (pc := 56) hx hb dX9_soBy_56 ?_
    refine lv_topi (fun v9_57 ev9_57 => ?_)
    replace h := lt_e ev9_57 h
    refine lv_istore (lv' := [(9, .int v9_57), (0, .ref (a0 0)), (1, .int x1), (2, .int x2), (3, .int x3), (4, .int x4), (5, .int x5), (7, .int x7), (8, .int x8), (10, .int x10)]) (pc := 57) hx hb dX9_soBy_57 hl (by decide) rfl (fun ls hl => ?_)
    obtain ⟨v10_59, ev10_59, h⟩ := lt_i h
    refine lv_iinc (v := v10_59) (lv' := [(10, .int v10_59), (9, .int v9_57), (0, .ref (a0 0)), (1, .int x1), (2, .int x2), (3, .int x3), (4, .int x4), (5, .int x5), (7, .int x7), (8, .int x8)]) (pc := 59) hx hb dX9_soBy_59 hl (k := 9) rfl (by rw [ev10_59]; rfl) (by decide) rfl (fun ls hl => ?_)
    refine lv_goto (tgt := 17) (pc := 62) hx hb dX9_soBy_62 (by decide) ?_
    have jr := K17h x1 x2 x3 x4 x5 x7 x8 v9_57 v10_59 s0 _ _ ls h hP hD hS (lv_sub hl [2, 3, 4, 5, 6, 7, 8, 9, 1, 0] rfl)
    exact jr
  have J17 : ∀ (n : Nat) (x1 : Int32) (x2 : Int32) (x3 : Int32) (x4 : Int32) (x5 : Int32) (x7 : Int32) (x8 : Int32) (x9 : Int32) (x10 : Int32) (s0 : Mem) (H : Heap) (locs : List Loc) (ls : Array Slot), fX9_soBy_b17 n x1 x2 x3 x4 x5 x7 x8 x9 x10 s0 = some (r0, z0) → va_P D vwCl (wX9 a0 c s0) H → va_D A (wX9 a0 c s0) → va_S A s.heap H locs → lv_has ls 11 [(0, .ref (a0 0)), (1, .int x1), (2, .int x2), (3, .int x3), (4, .int x4), (5, .int x5), (7, .int x7), (8, .int x8), (9, .int x9), (10, .int x10)] → W p l e rmX9_soBy s m args below meth cd H locs 0 0 Q (F0 m 17 ls []) := by
    intro n
    induction n with
    | zero =>
      intro x1 x2 x3 x4 x5 x7 x8 x9 x10 s0 H locs ls h _ _ _ _
      cases (show (none : Option (Int32 × Mem)) = some _ from h)
    | succ n K17h =>
      intro x1 x2 x3 x4 x5 x7 x8 x9 x10 s0 H locs ls h hP hD hS hl
      rw [fX9_soBy_b17] at h
      refine lv_iload (pc := 17) hx hb dX9_soBy_17 (lv_at hl 9 rfl) ?_
      refine lv_iload (pc := 19) hx hb dX9_soBy_19 (lv_at hl 6 rfl) ?_
      refine lv_icmp_gt (tgt := 65) (pc := 21) hx hb dX9_soBy_21 (by decide) (fun c21 => ?_) (fun c21 => ?_)
      · replace h := it_t c21 h
        refine lv_aload_n (pc := 65) hx hb dX9_soBy_65 rfl (lv_at hl 0 rfl) ?_
        refine lv_iload (pc := 66) hx hb dX9_soBy_66 (lv_at hl 4 rfl) ?_
        refine lv_iload (pc := 68) hx hb dX9_soBy_68 (lv_at hl 5 rfl) ?_
        refine lv_iload (pc := 70) hx hb dX9_soBy_70 (lv_at hl 7 rfl) ?_
        obtain ⟨r72, t0_72, hc72, h⟩ := b2_i h
        refine g_all (st1 := [.int r72]) (gr_V (n := 3) (rest := []) (pc := 72) hx hb hml hown hts (cX9_sets_met l D c a0 x4 x5 x8 s0 _ _ hc72) gX9_soBy_X9_sets rfl rfl rfl (by decide +kernel) rfl ⟨Nat.le_of_ble_eq_true rfl, Nat.le_of_ble_eq_true rfl⟩ ⟨Nat.zero_le _, Nat.zero_le _⟩ 0 9 rfl rfl rfl gT_ok hP hD hK (fun _ _ _ => trivial) hl.1 (Nat.le_of_ble_eq_true rfl) dX9_soBy_72 rfl) hD hS hA rfl (fun H locs hP hD hS => ?_)
        refine lv_pop (pc := 75) hx hb dX9_soBy_75 rfl ?_
        refine lv_iload (pc := 76) hx hb dX9_soBy_76 (lv_at hl 8 rfl) ?_
        have kr := KR x9 t0_72 _ _ 78 ls h rfl hP hD hS dX9_soBy_78
        exact kr
      · replace h := it_f c21 h
        refine lv_aload_n (pc := 24) hx hb dX9_soBy_24 rfl (lv_at hl 0 rfl) ?_
        refine lv_iload (pc := 25) hx hb dX9_soBy_25 (lv_at hl 4 rfl) ?_
        refine lv_iload (pc := 27) hx hb dX9_soBy_27 (lv_at hl 5 rfl) ?_
        refine lv_iload (pc := 29) hx hb dX9_soBy_29 (lv_at hl 9 rfl) ?_
        obtain ⟨r31, t0_31, hc31, h⟩ := b2_i h
        refine g_all (st1 := [.int r31]) (gr_V (n := 3) (rest := []) (pc := 31) hx hb hml hown hts (cX9_sets_met l D c a0 x4 x5 x10 s0 _ _ hc31) gX9_soBy_X9_sets rfl rfl rfl (by decide +kernel) rfl ⟨Nat.le_of_ble_eq_true rfl, Nat.le_of_ble_eq_true rfl⟩ ⟨Nat.zero_le _, Nat.zero_le _⟩ 0 9 rfl rfl rfl gT_ok hP hD hK (fun _ _ _ => trivial) hl.1 (Nat.le_of_ble_eq_true rfl) dX9_soBy_31 rfl) hD hS hA rfl (fun H locs hP hD hS => ?_)
        refine lv_pop (pc := 34) hx hb dX9_soBy_34 rfl ?_
        refine lv_iload (pc := 35) hx hb dX9_soBy_35 (lv_at hl 8 rfl) ?_
        refine lv_aload_n (pc := 37) hx hb dX9_soBy_37 rfl (lv_at hl 0 rfl) ?_
        refine lv_iload_n (pc := 38) hx hb dX9_soBy_38 rfl (lv_at hl 1 rfl) ?_
        refine lv_iload_n (pc := 39) hx hb dX9_soBy_39 rfl (lv_at hl 2 rfl) ?_
        refine lv_iload_n (pc := 40) hx hb dX9_soBy_40 rfl (lv_at hl 3 rfl) ?_
        obtain ⟨r41, t0_41, hc41, h⟩ := b2_i h
        refine g_all (st1 := [.int r41, .int x9]) (gr_V (n := 3) (rest := [.int x9]) (pc := 41) hx hb hml hown hts (cX9_firstOther_met l D c a0 x1 x2 x3 t0_31 _ _ hc41) gX9_soBy_X9_firstOther rfl rfl rfl (by decide +kernel) rfl ⟨Nat.le_of_ble_eq_true rfl, Nat.le_of_ble_eq_true rfl⟩ ⟨Nat.zero_le _, Nat.zero_le _⟩ 0 9 rfl rfl rfl gT_ok hP hD hK (fun _ _ _ => trivial) hl.1 (Nat.le_of_ble_eq_true rfl) dX9_soBy_41 rfl) hD hS hA rfl (fun H locs hP hD hS => ?_)
        refine lv_iconst (v := -1) (pc := 44) hx hb dX9_soBy_44 (by decide) ?_
        refine lv_icmp_ne (tgt := 55) (pc := 45) hx hb dX9_soBy_45 (by decide) (fun c45 => ?_) (fun c45 => ?_)
        · replace h := it_f c45 h
          refine lv_iconst (v := 0) (pc := 55) hx hb dX9_soBy_55 (by decide) ?_
          have jr := J56 (fX9_soBy_b17 n) K17h x1 x2 x3 x4 x5 x7 x8 x10 (0 : Int32) x9 t0_41 _ _ ls h hP hD hS (lv_sub hl [0, 1, 2, 3, 4, 5, 6, 7, 9] rfl)
          exact jr
        · replace h := it_t c45 h
          refine lv_iconst (v := 1) (pc := 48) hx hb dX9_soBy_48 (by decide) ?_
          refine lv_iload (pc := 49) hx hb dX9_soBy_49 (lv_at hl 9 rfl) ?_
          refine lv_ishl (pc := 51) hx hb dX9_soBy_51 ?_
          refine lv_goto (tgt := 56) (pc := 52) hx hb dX9_soBy_52 (by decide) ?_
          have jr := J56 (fX9_soBy_b17 n) K17h x1 x2 x3 x4 x5 x7 x8 x10 (((1 : Int32) <<< (x10 &&& 31))) x9 t0_41 _ _ ls h hP hD hS (lv_sub hl [0, 1, 2, 3, 4, 5, 6, 7, 9] rfl)
          exact jr
  refine lv_aload_n (pc := 0) hx hb dX9_soBy_0 rfl (lv_at hl 0 rfl) ?_
  refine lv_iload (pc := 1) hx hb dX9_soBy_1 (lv_at hl 4 rfl) ?_
  refine lv_iload (pc := 3) hx hb dX9_soBy_3 (lv_at hl 5 rfl) ?_
  obtain ⟨r5, hc5, h⟩ := b1_i h
  refine g_all (st1 := [.int r5]) (gr_V (n := 2) (rest := []) (pc := 5) hx hb hml hown hts (cX9_of_met l D c a0 p3 p4 s0 _ hc5) gX9_soBy_X9_of rfl rfl rfl (by decide +kernel) rfl ⟨Nat.le_of_ble_eq_true rfl, Nat.le_of_ble_eq_true rfl⟩ ⟨Nat.zero_le _, Nat.zero_le _⟩ 0 9 rfl rfl rfl gT_ok hP hD hK (fun _ _ _ => trivial) hl.1 (Nat.le_of_ble_eq_true rfl) dX9_soBy_5 rfl) hD hS hA rfl (fun H locs hP hD hS => ?_)
  refine lv_istore (lv' := [(8, .int r5), (0, .ref (a0 0)), (1, .int p0), (2, .int p1), (3, .int p2), (4, .int p3), (5, .int p4), (6, .int p5), (7, .int p6)]) (pc := 8) hx hb dX9_soBy_8 hl (by decide) rfl (fun ls hl => ?_)
  refine lv_iconst (v := 0) (pc := 10) hx hb dX9_soBy_10 (by decide) ?_
  refine lv_istore (lv' := [(9, .int (0 : Int32)), (8, .int r5), (0, .ref (a0 0)), (1, .int p0), (2, .int p1), (3, .int p2), (4, .int p3), (5, .int p4), (6, .int p5), (7, .int p6)]) (pc := 11) hx hb dX9_soBy_11 hl (by decide) rfl (fun ls hl => ?_)
  refine lv_iload (pc := 13) hx hb dX9_soBy_13 (lv_at hl 8 rfl) ?_
  refine lv_istore (lv' := [(10, .int p5), (9, .int (0 : Int32)), (8, .int r5), (0, .ref (a0 0)), (1, .int p0), (2, .int p1), (3, .int p2), (4, .int p3), (5, .int p4), (6, .int p5), (7, .int p6)]) (pc := 15) hx hb dX9_soBy_15 hl (by decide) rfl (fun ls hl => ?_)
  have jr := J17 FU p0 p1 p2 p3 p4 p6 r5 (0 : Int32) p5 s0 _ _ ls h hP hD hS (lv_sub hl [3, 4, 5, 6, 7, 8, 10, 2, 1, 0] rfl)
  exact jr
abbrev rmX9_isXy : Room := { frames := 1, cells := 0, slots := 0, locals := 22 }
set_option maxRecDepth 100000 in
set_option maxHeartbeats 40000000 in
theorem cX9_isXy_met (l : Launch) (D : va_G) (c : Nat → ClassId)  (p0 : Int32) (r0 : Int32) (h : fX9_isXy p0 = some r0) : gM l yX9_isXy wsX9_isXy rmX9_isXy D (gY c) gT [.int p0] ([]) (some (.int r0)) ([]) := by
  unfold fX9_isXy at h
  refine gM.I (cc := cX9_isXy) (maxL := 1) (by decide) rfl (Nat.le_of_ble_eq_true rfl) ?_
  intro p e s m args below meth cd hx hb hml hown hts A hA ls hl hP hK hD hS hE Q KR0
  have KR : ∀ (v : Int32)  (H : Heap) (locs : List Loc) (pc : Nat) (ls : Array Slot), some v = some r0 → narrow .boolean (.int v) = .int v → va_P D vwCl ([]) H → va_D A ([]) → va_S A s.heap H locs → decode cX9_isXy pc = .ok (.ireturn, 1) → W p l e rmX9_isXy s m args below meth cd H locs 0 0 Q (F0 m pc ls [.int v]) := by
    intro v  H locs pc ls hr hn hP hD hS hd
    cases hr
    exact KR0 _ H locs pc ls rfl hn hP hD hS hd
  have hl : lv_has ls 1 [(0, .int p0)] := hl
  refine lv_iload_n (pc := 0) hx hb dX9_isXy_0 rfl (lv_at hl 0 rfl) ?_
  refine lv_iconst (v := 0) (pc := 1) hx hb dX9_isXy_1 (by decide) ?_
  refine lv_sipush (v := 255) (pc := 2) hx hb dX9_isXy_2 (by decide) ?_
  obtain ⟨r5, hc5, h⟩ := b1_i h
  refine g_none (st1 := [.int r5]) (gr_S (n := 3) (rest := []) (pc := 5) hx hb hml hown hts (cX9_isIn_met l D c p0 (0 : Int32) (255 : Int32) _ hc5) gX9_isXy_X9_isIn rfl rfl rfl (by decide +kernel) rfl ⟨Nat.le_of_ble_eq_true rfl, Nat.le_of_ble_eq_true rfl⟩ ⟨Nat.zero_le _, Nat.zero_le _⟩ gT_ok g_P0 (g_D0 (A := A)) hK (fun _ _ _ => trivial) hl.1 (Nat.le_of_ble_eq_true rfl) dX9_isXy_5 rfl) hP hS hA rfl (fun H locs hP hS => ?_)
  refine lv_if_eq (tgt := 26) (pc := 8) hx hb dX9_isXy_8 (by decide) (fun c8 => ?_) (fun c8 => ?_)
  · replace h := it_t c8 h
    refine lv_iconst (v := 0) (pc := 26) hx hb dX9_isXy_26 (by decide) ?_
    have kr := KR (0 : Int32)  _ _ 27 ls h rfl hP hD hS dX9_isXy_27
    exact kr
  · replace h := it_f c8 h
    refine lv_iload_n (pc := 11) hx hb dX9_isXy_11 rfl (lv_at hl 0 rfl) ?_
    refine lv_bipush (v := 16) (pc := 12) hx hb dX9_isXy_12 (by decide) ?_
    obtain ⟨hz14, h⟩ := ck0_i h
    refine lv_idiv (pc := 14) hx hb dX9_isXy_14 hz14 ?_
    refine lv_iload_n (pc := 15) hx hb dX9_isXy_15 rfl (lv_at hl 0 rfl) ?_
    refine lv_bipush (v := 16) (pc := 16) hx hb dX9_isXy_16 (by decide) ?_
    obtain ⟨hz18, h⟩ := ck0_i h
    refine lv_irem (pc := 18) hx hb dX9_isXy_18 hz18 ?_
    refine lv_icmp_eq (tgt := 26) (pc := 19) hx hb dX9_isXy_19 (by decide) (fun c19 => ?_) (fun c19 => ?_)
    · replace h := it_t c19 h
      refine lv_iconst (v := 0) (pc := 26) hx hb dX9_isXy_26 (by decide) ?_
      have kr := KR (0 : Int32)  _ _ 27 ls h rfl hP hD hS dX9_isXy_27
      exact kr
    · replace h := it_f c19 h
      refine lv_iconst (v := 1) (pc := 22) hx hb dX9_isXy_22 (by decide) ?_
      refine lv_goto (tgt := 27) (pc := 23) hx hb dX9_isXy_23 (by decide) ?_
      have kr := KR (1 : Int32)  _ _ 27 ls h rfl hP hD hS dX9_isXy_27
      exact kr
abbrev rmX9_told_ : Room := { frames := 5, cells := 0, slots := 0, locals := 123 }
set_option maxRecDepth 100000 in
set_option maxHeartbeats 40000000 in
theorem cX9_told__met (l : Launch) (D : va_G) (c : Nat → ClassId) (a0 : Nat → Nat) (p0 : Int32) (p1 : Int32) (p2 : Int32) (p3 : Int32) (s0 : Mem) (r0 : Int32) (z0 : Mem) (h : fX9_told_ p0 p1 p2 p3 s0 = some (r0, z0)) : gM l yX9_told_ wsX9_told_ rmX9_told_ D (gY c) gT [.ref (a0 0), .int p0, .int p1, .int p2, .int p3] (wX9 a0 c s0) (some (.int r0)) (wX9 a0 c z0) := by
  unfold fX9_told_ at h
  refine gM.I (cc := cX9_told_) (maxL := 7) (by decide) rfl (Nat.le_of_ble_eq_true rfl) ?_
  intro p e s m args below meth cd hx hb hml hown hts A hA ls hl hP hK hD hS hE Q KR0
  have hfX9 : ∀ w ∈ u_ws RX9 TX9 24, w.before args s = true := fun w hw => hts w (List.mem_cons_of_mem _ (List.mem_append_right _ hw))
  have lk0 := hts (.fieldLink RX9 9 "GlitchNetsModel" "s" "[I") (List.mem_of_getElem? (i := 1) rfl)
  have lk1 := hts (.fieldLink RX9 44 "GlitchNetsModel" "sheetSort" "[I") (List.mem_of_getElem? (i := 2) rfl)
  have KR : ∀ (v : Int32) (w0 : Mem) (H : Heap) (locs : List Loc) (pc : Nat) (ls : Array Slot), some (v, w0) = some (r0, z0) → narrow .int (.int v) = .int v → va_P D vwCl (wX9 a0 c w0) H → va_D A (wX9 a0 c w0) → va_S A s.heap H locs → decode cX9_told_ pc = .ok (.ireturn, 1) → W p l e rmX9_told_ s m args below meth cd H locs 0 0 Q (F0 m pc ls [.int v]) := by
    intro v w0 H locs pc ls hr hn hP hD hS hd
    cases hr
    exact KR0 _ H locs pc ls rfl hn hP hD hS hd
  have hl : lv_has ls 7 [(0, .ref (a0 0)), (1, .int p0), (2, .int p1), (3, .int p2), (4, .int p3)] := hl
  have J40 : ∀ (x1 : Int32) (x2 : Int32) (x3 : Int32) (x4 : Int32) (s0 : Mem) (H : Heap) (locs : List Loc) (ls : Array Slot), fX9_told__b40 x1 x2 x3 x4 s0 = some (r0, z0) → va_P D vwCl (wX9 a0 c s0) H → va_D A (wX9 a0 c s0) → va_S A s.heap H locs → lv_has ls 7 [(0, .ref (a0 0)), (1, .int x1), (2, .int x2), (3, .int x3), (4, .int x4)] → W p l e rmX9_told_ s m args below meth cd H locs 0 0 Q (F0 m 40 ls []) := by
    intro x1 x2 x3 x4 s0 H locs ls h hP hD hS hl
    unfold fX9_told__b40 at h
    refine lv_aload_n (pc := 40) hx hb dX9_told__40 rfl (lv_at hl 0 rfl) ?_
    refine va_get (D := D) (ci := 9) (v := .ref (a0 1)) (C := RX9) (T := TX9) (N := 24) (pc := 41) hx hb hfX9 (fun _ h9 => h9) hown hK hP 0 rfl rfl 0 (by decide) lk0 (fun _ h9 => h9) rfl dX9_told__41 ?_
    refine lv_iconst (v := 0) (pc := 44) hx hb dX9_told__44 (by decide) ?_
    obtain ⟨hk45, h⟩ := ckI_i h
    refine va_iald (D := D) (f := (s0.1 0)) (pc := 45) hx hb hK hP 1 0 rfl rfl hk45 dX9_told__45 ?_
    refine lv_if_ne (tgt := 52) (pc := 46) hx hb dX9_told__46 (by decide) (fun c46 => ?_) (fun c46 => ?_)
    · replace h := it_f c46 h
      refine lv_aload_n (pc := 52) hx hb dX9_told__52 rfl (lv_at hl 0 rfl) ?_
      refine va_get (D := D) (ci := 9) (v := .ref (a0 12)) (C := RX9) (T := TX9) (N := 24) (pc := 53) hx hb hfX9 (fun _ h9 => h9) hown hK hP 0 rfl rfl 21 (by decide) lk1 (fun _ h9 => h9) rfl dX9_told__53 ?_
      refine lv_iload_n (pc := 56) hx hb dX9_told__56 rfl (lv_at hl 1 rfl) ?_
      obtain ⟨hk57, h⟩ := ckI_i h
      refine va_iald (D := D) (f := (s0.1 21)) (pc := 57) hx hb hK hP 12 0 rfl rfl hk57 dX9_told__57 ?_
      refine lv_iconst (v := -1) (pc := 58) hx hb dX9_told__58 (by decide) ?_
      refine lv_icmp_ne (tgt := 65) (pc := 59) hx hb dX9_told__59 (by decide) (fun c59 => ?_) (fun c59 => ?_)
      · replace h := it_f c59 h
        refine lv_iload_n (pc := 65) hx hb dX9_told__65 rfl (lv_at hl 2 rfl) ?_
        refine lv_bipush (v := 16) (pc := 66) hx hb dX9_told__66 (by decide) ?_
        obtain ⟨hz68, h⟩ := ck0_i h
        refine lv_idiv (pc := 68) hx hb dX9_told__68 hz68 ?_
        refine lv_topi (fun v5_69 ev5_69 => ?_)
        replace h := lt_e ev5_69 h
        refine lv_istore (lv' := [(5, .int v5_69), (0, .ref (a0 0)), (1, .int x1), (2, .int x2), (3, .int x3), (4, .int x4)]) (pc := 69) hx hb dX9_told__69 hl (by decide) rfl (fun ls hl => ?_)
        refine lv_iload_n (pc := 71) hx hb dX9_told__71 rfl (lv_at hl 3 rfl) ?_
        refine lv_bipush (v := 16) (pc := 72) hx hb dX9_told__72 (by decide) ?_
        obtain ⟨hz74, h⟩ := ck0_i h
        refine lv_irem (pc := 74) hx hb dX9_told__74 hz74 ?_
        refine lv_topi (fun v6_75 ev6_75 => ?_)
        replace h := lt_e ev6_75 h
        refine lv_istore (lv' := [(6, .int v6_75), (5, .int v5_69), (0, .ref (a0 0)), (1, .int x1), (2, .int x2), (3, .int x3), (4, .int x4)]) (pc := 75) hx hb dX9_told__75 hl (by decide) rfl (fun ls hl => ?_)
        refine lv_iload (pc := 77) hx hb dX9_told__77 (lv_at hl 6 rfl) ?_
        refine lv_if_ne (tgt := 94) (pc := 79) hx hb dX9_told__79 (by decide) (fun c79 => ?_) (fun c79 => ?_)
        · replace h := it_f c79 h
          refine lv_iload (pc := 94) hx hb dX9_told__94 (lv_at hl 6 rfl) ?_
          refine lv_iconst (v := 1) (pc := 96) hx hb dX9_told__96 (by decide) ?_
          refine lv_icmp_ne (tgt := 117) (pc := 97) hx hb dX9_told__97 (by decide) (fun c97 => ?_) (fun c97 => ?_)
          · replace h := it_f c97 h
            refine lv_aload_n (pc := 117) hx hb dX9_told__117 rfl (lv_at hl 2 rfl) ?_
            refine lv_iload_n (pc := 118) hx hb dX9_told__118 rfl (lv_at hl 3 rfl) ?_
            refine lv_iload (pc := 119) hx hb dX9_told__119 (lv_at hl 1 rfl) ?_
            refine lv_iload (pc := 121) hx hb dX9_told__121 (lv_at hl 0 rfl) ?_
            refine lv_iload_n (pc := 123) hx hb dX9_told__123 rfl (lv_at hl 5 rfl) ?_
            refine lv_iconst (v := 0) (pc := 124) hx hb dX9_told__124 (by decide) ?_
            refine lv_iconst (v := 0) (pc := 125) hx hb dX9_told__125 (by decide) ?_
            refine lv_iconst (v := 5) (pc := 126) hx hb dX9_told__126 (by decide) ?_
            obtain ⟨r127, t0_127, hc127, h⟩ := b2_i h
            refine g_all (st1 := [.int r127]) (gr_V (n := 7) (rest := []) (pc := 127) hx hb hml hown hts (cX9_soBy_met l D c a0 x1 v5_69 v6_75 x3 (0 : Int32) (0 : Int32) (5 : Int32) s0 _ _ hc127) gX9_told__X9_soBy rfl rfl rfl (by decide +kernel) rfl ⟨Nat.le_of_ble_eq_true rfl, Nat.le_of_ble_eq_true rfl⟩ ⟨Nat.zero_le _, Nat.zero_le _⟩ 0 9 rfl rfl rfl gT_ok hP hD hK (fun _ _ _ => trivial) hl.1 (Nat.le_of_ble_eq_true rfl) dX9_told__127 rfl) hD hS hA rfl (fun H locs hP hD hS => ?_)
            have kr := KR r127 t0_127 _ _ 130 ls h rfl hP hD hS dX9_told__130
            exact kr
          · replace h := it_t c97 h
            refine lv_aload_n (pc := 100) hx hb dX9_told__100 rfl (lv_at hl 2 rfl) ?_
            refine lv_iload_n (pc := 101) hx hb dX9_told__101 rfl (lv_at hl 3 rfl) ?_
            refine lv_iload (pc := 102) hx hb dX9_told__102 (lv_at hl 1 rfl) ?_
            refine lv_iload (pc := 104) hx hb dX9_told__104 (lv_at hl 0 rfl) ?_
            refine lv_iload_n (pc := 106) hx hb dX9_told__106 rfl (lv_at hl 5 rfl) ?_
            refine lv_iconst (v := 3) (pc := 107) hx hb dX9_told__107 (by decide) ?_
            refine lv_iconst (v := 1) (pc := 108) hx hb dX9_told__108 (by decide) ?_
            refine lv_bipush (v := 9) (pc := 109) hx hb dX9_told__109 (by decide) ?_
            obtain ⟨r111, t0_111, hc111, h⟩ := b2_i h
            refine g_all (st1 := [.int r111]) (gr_V (n := 7) (rest := []) (pc := 111) hx hb hml hown hts (cX9_soBy_met l D c a0 x1 v5_69 v6_75 x3 (3 : Int32) (1 : Int32) (9 : Int32) s0 _ _ hc111) gX9_told__X9_soBy rfl rfl rfl (by decide +kernel) rfl ⟨Nat.le_of_ble_eq_true rfl, Nat.le_of_ble_eq_true rfl⟩ ⟨Nat.zero_le _, Nat.zero_le _⟩ 0 9 rfl rfl rfl gT_ok hP hD hK (fun _ _ _ => trivial) hl.1 (Nat.le_of_ble_eq_true rfl) dX9_told__111 rfl) hD hS hA rfl (fun H locs hP hD hS => ?_)
            refine lv_goto (tgt := 130) (pc := 114) hx hb dX9_told__114 (by decide) ?_
            have kr := KR r111 t0_111 _ _ 130 ls h rfl hP hD hS dX9_told__130
            exact kr
        · replace h := it_t c79 h
          refine lv_aload_n (pc := 82) hx hb dX9_told__82 rfl (lv_at hl 2 rfl) ?_
          refine lv_iload_n (pc := 83) hx hb dX9_told__83 rfl (lv_at hl 3 rfl) ?_
          refine lv_iload (pc := 84) hx hb dX9_told__84 (lv_at hl 1 rfl) ?_
          refine lv_iload (pc := 86) hx hb dX9_told__86 (lv_at hl 0 rfl) ?_
          obtain ⟨r88, t0_88, hc88, h⟩ := b2_i h
          refine g_all (st1 := [.int r88]) (gr_V (n := 3) (rest := []) (pc := 88) hx hb hml hown hts (cX9_firstOther_met l D c a0 x1 v5_69 v6_75 s0 _ _ hc88) gX9_told__X9_firstOther rfl rfl rfl (by decide +kernel) rfl ⟨Nat.le_of_ble_eq_true rfl, Nat.le_of_ble_eq_true rfl⟩ ⟨Nat.zero_le _, Nat.zero_le _⟩ 0 9 rfl rfl rfl gT_ok hP hD hK (fun _ _ _ => trivial) hl.1 (Nat.le_of_ble_eq_true rfl) dX9_told__88 rfl) hD hS hA rfl (fun H locs hP hD hS => ?_)
          refine lv_goto (tgt := 130) (pc := 91) hx hb dX9_told__91 (by decide) ?_
          have kr := KR r88 t0_88 _ _ 130 ls h rfl hP hD hS dX9_told__130
          exact kr
      · replace h := it_t c59 h
        refine lv_bipush (v := -11) (pc := 62) hx hb dX9_told__62 (by decide) ?_
        have kr := KR (-11 : Int32) s0 _ _ 64 ls h rfl hP hD hS dX9_told__64
        exact kr
    · replace h := it_t c46 h
      refine lv_bipush (v := -3) (pc := 49) hx hb dX9_told__49 (by decide) ?_
      have kr := KR (-3 : Int32) s0 _ _ 51 ls h rfl hP hD hS dX9_told__51
      exact kr
  refine lv_iload_n (pc := 0) hx hb dX9_told__0 rfl (lv_at hl 1 rfl) ?_
  obtain ⟨r1, hc1, h⟩ := b1_i h
  refine g_none (st1 := [.int r1]) (gr_S (n := 1) (rest := []) (pc := 1) hx hb hml hown hts (cX9_isSheet_met l D c p0 _ hc1) gX9_told__X9_isSheet rfl rfl rfl (by decide +kernel) rfl ⟨Nat.le_of_ble_eq_true rfl, Nat.le_of_ble_eq_true rfl⟩ ⟨Nat.zero_le _, Nat.zero_le _⟩ gT_ok g_P0 (g_D0 (A := A)) hK (fun _ _ _ => trivial) hl.1 (Nat.le_of_ble_eq_true rfl) dX9_told__1 rfl) hP hS hA rfl (fun H locs hP hS => ?_)
  refine lv_if_eq (tgt := 37) (pc := 4) hx hb dX9_told__4 (by decide) (fun c4 => ?_) (fun c4 => ?_)
  · replace h := it_t c4 h
    refine lv_bipush (v := -2) (pc := 37) hx hb dX9_told__37 (by decide) ?_
    have kr := KR (-2 : Int32) s0 _ _ 39 ls h rfl hP hD hS dX9_told__39
    exact kr
  · replace h := it_f c4 h
    refine lv_iload_n (pc := 7) hx hb dX9_told__7 rfl (lv_at hl 2 rfl) ?_
    obtain ⟨r8, hc8, h⟩ := b1_i h
    refine g_none (st1 := [.int r8]) (gr_S (n := 1) (rest := []) (pc := 8) hx hb hml hown hts (cX9_isXy_met l D c p1 _ hc8) gX9_told__X9_isXy rfl rfl rfl (by decide +kernel) rfl ⟨Nat.le_of_ble_eq_true rfl, Nat.le_of_ble_eq_true rfl⟩ ⟨Nat.zero_le _, Nat.zero_le _⟩ gT_ok g_P0 (g_D0 (A := A)) hK (fun _ _ _ => trivial) hl.1 (Nat.le_of_ble_eq_true rfl) dX9_told__8 rfl) hP hS hA rfl (fun H locs hP hS => ?_)
    refine lv_if_eq (tgt := 37) (pc := 11) hx hb dX9_told__11 (by decide) (fun c11 => ?_) (fun c11 => ?_)
    · replace h := it_t c11 h
      refine lv_bipush (v := -2) (pc := 37) hx hb dX9_told__37 (by decide) ?_
      have kr := KR (-2 : Int32) s0 _ _ 39 ls h rfl hP hD hS dX9_told__39
      exact kr
    · replace h := it_f c11 h
      refine lv_iload (pc := 14) hx hb dX9_told__14 (lv_at hl 4 rfl) ?_
      refine lv_iconst (v := 0) (pc := 16) hx hb dX9_told__16 (by decide) ?_
      refine lv_iconst (v := 2) (pc := 17) hx hb dX9_told__17 (by decide) ?_
      obtain ⟨r18, hc18, h⟩ := b1_i h
      refine g_none (st1 := [.int r18]) (gr_S (n := 3) (rest := []) (pc := 18) hx hb hml hown hts (cX9_isIn_met l D c p3 (0 : Int32) (2 : Int32) _ hc18) gX9_told__X9_isIn rfl rfl rfl (by decide +kernel) rfl ⟨Nat.le_of_ble_eq_true rfl, Nat.le_of_ble_eq_true rfl⟩ ⟨Nat.zero_le _, Nat.zero_le _⟩ gT_ok g_P0 (g_D0 (A := A)) hK (fun _ _ _ => trivial) hl.1 (Nat.le_of_ble_eq_true rfl) dX9_told__18 rfl) hP hS hA rfl (fun H locs hP hS => ?_)
      refine lv_if_eq (tgt := 37) (pc := 21) hx hb dX9_told__21 (by decide) (fun c21 => ?_) (fun c21 => ?_)
      · replace h := it_t c21 h
        refine lv_bipush (v := -2) (pc := 37) hx hb dX9_told__37 (by decide) ?_
        have kr := KR (-2 : Int32) s0 _ _ 39 ls h rfl hP hD hS dX9_told__39
        exact kr
      · replace h := it_f c21 h
        refine lv_iload (pc := 24) hx hb dX9_told__24 (lv_at hl 4 rfl) ?_
        refine lv_if_le (tgt := 40) (pc := 26) hx hb dX9_told__26 (by decide) (fun c26 => ?_) (fun c26 => ?_)
        · replace h := it_t c26 h
          have jr := J40 p0 p1 p2 p3 s0 _ _ ls h hP hD hS hl
          exact jr
        · replace h := it_f c26 h
          refine lv_aload_n (pc := 29) hx hb dX9_told__29 rfl (lv_at hl 0 rfl) ?_
          refine lv_iload_n (pc := 30) hx hb dX9_told__30 rfl (lv_at hl 3 rfl) ?_
          obtain ⟨r31, hc31, h⟩ := b1_i h
          refine g_all (st1 := [.int r31]) (gr_V (n := 1) (rest := []) (pc := 31) hx hb hml hown hts (cX9_isGate_met l D c a0 p2 s0 _ hc31) gX9_told__X9_isGate rfl rfl rfl (by decide +kernel) rfl ⟨Nat.le_of_ble_eq_true rfl, Nat.le_of_ble_eq_true rfl⟩ ⟨Nat.zero_le _, Nat.zero_le _⟩ 0 9 rfl rfl rfl gT_ok hP hD hK (fun _ _ _ => trivial) hl.1 (Nat.le_of_ble_eq_true rfl) dX9_told__31 rfl) hD hS hA rfl (fun H locs hP hD hS => ?_)
          refine lv_if_ne (tgt := 40) (pc := 34) hx hb dX9_told__34 (by decide) (fun c34 => ?_) (fun c34 => ?_)
          · replace h := it_f c34 h
            have jr := J40 p0 p1 p2 p3 s0 _ _ ls h hP hD hS hl
            exact jr
          · replace h := it_t c34 h
            refine lv_bipush (v := -2) (pc := 37) hx hb dX9_told__37 (by decide) ?_
            have kr := KR (-2 : Int32) s0 _ _ 39 ls h rfl hP hD hS dX9_told__39
            exact kr
abbrev rmX9_becomes : Room := { frames := 0, cells := 0, slots := 0, locals := 0 }
set_option maxRecDepth 100000 in
set_option maxHeartbeats 40000000 in
theorem cX9_becomes_met (l : Launch) (D : va_G) (c : Nat → ClassId) (a0 : Nat → Nat) (p0 : Int32) (p1 : Int32) (p2 : Int32) (s0 : Mem) (z0 : Mem) (h : fX9_becomes p0 p1 p2 s0 = some z0) : gM l yX9_becomes wsX9_becomes rmX9_becomes D (gY c) gT [.ref (a0 0), .int p0, .int p1, .int p2] (wX9 a0 c s0) none (wX9 a0 c z0) := by
  unfold fX9_becomes at h
  refine gM.V (cc := cX9_becomes) (maxL := 5) (by decide) rfl (Nat.le_of_ble_eq_true rfl) ?_
  intro p e s m args below meth cd hx hb hml hown hts A hA ls hl hP hK hD hS hE Q KR0
  have hfX9 : ∀ w ∈ u_ws RX9 TX9 24, w.before args s = true := fun w hw => hts w (List.mem_cons_of_mem _ (List.mem_append_right _ hw))
  have lk0 := hts (.fieldLink RX9 44 "GlitchNetsModel" "sheetSort" "[I") (List.mem_of_getElem? (i := 1) rfl)
  have lk1 := hts (.fieldLink RX9 47 "GlitchNetsModel" "sheetSize" "[I") (List.mem_of_getElem? (i := 2) rfl)
  have lk2 := hts (.fieldLink RX9 50 "GlitchNetsModel" "item" "[I") (List.mem_of_getElem? (i := 3) rfl)
  have KR : ∀ (w0 : Mem) (H : Heap) (locs : List Loc) (pc : Nat) (ls : Array Slot), some w0 = some z0 → va_P D vwCl (wX9 a0 c w0) H → va_D A (wX9 a0 c w0) → va_S A s.heap H locs → decode cX9_becomes pc = .ok (.return_, 1) → W p l e rmX9_becomes s m args below meth cd H locs 0 0 Q (F0 m pc ls []) := by
    intro w0 H locs pc ls hr hP hD hS hd
    cases hr
    exact KR0 H locs pc ls hP hD hS hd
  have hl : lv_has ls 5 [(0, .ref (a0 0)), (1, .int p0), (2, .int p1), (3, .int p2)] := hl
  have J26 : ∀ (n : Nat) (x1 : Int32) (x4 : Int32) (s0 : Mem) (H : Heap) (locs : List Loc) (ls : Array Slot), fX9_becomes_b26 n x1 x4 s0 = some z0 → va_P D vwCl (wX9 a0 c s0) H → va_D A (wX9 a0 c s0) → va_S A s.heap H locs → lv_has ls 5 [(0, .ref (a0 0)), (1, .int x1), (4, .int x4)] → W p l e rmX9_becomes s m args below meth cd H locs 0 0 Q (F0 m 26 ls []) := by
    intro n
    induction n with
    | zero =>
      intro x1 x4 s0 H locs ls h _ _ _ _
      cases (show (none : Option (Mem)) = some _ from h)
    | succ n K26h =>
      intro x1 x4 s0 H locs ls h hP hD hS hl
      rw [fX9_becomes_b26] at h
      refine lv_iload (pc := 26) hx hb dX9_becomes_26 (lv_at hl 2 rfl) ?_
      refine lv_bipush (v := 40) (pc := 28) hx hb dX9_becomes_28 (by decide) ?_
      refine lv_icmp_ge (tgt := 52) (pc := 30) hx hb dX9_becomes_30 (by decide) (fun c30 => ?_) (fun c30 => ?_)
      · replace h := it_t c30 h
        have kr := KR s0 _ _ 52 ls h hP hD hS dX9_becomes_52
        exact kr
      · replace h := it_f c30 h
        refine lv_aload_n (pc := 33) hx hb dX9_becomes_33 rfl (lv_at hl 0 rfl) ?_
        refine va_get (D := D) (ci := 9) (v := .ref (a0 14)) (C := RX9) (T := TX9) (N := 24) (pc := 34) hx hb hfX9 (fun _ h9 => h9) hown hK hP 0 rfl rfl 23 (by decide) lk2 (fun _ h9 => h9) rfl dX9_becomes_34 ?_
        refine lv_bipush (v := 40) (pc := 37) hx hb dX9_becomes_37 (by decide) ?_
        refine lv_iload_n (pc := 39) hx hb dX9_becomes_39 rfl (lv_at hl 1 rfl) ?_
        refine lv_imul (pc := 40) hx hb dX9_becomes_40 ?_
        refine lv_iload (pc := 41) hx hb dX9_becomes_41 (lv_at hl 2 rfl) ?_
        refine lv_iadd (pc := 43) hx hb dX9_becomes_43 ?_
        refine lv_iconst (v := 0) (pc := 44) hx hb dX9_becomes_44 (by decide) ?_
        obtain ⟨hk45, h⟩ := ckI_i h
        refine va_iast (D := D) (f := (s0.1 23)) (pc := 45) hx hb hK hP hD hS 14 0 rfl rfl hk45 dX9_becomes_45 (fun H locs hP hD hS => ?_)
        obtain ⟨m0_45, em0_45, h⟩ := lt_i h
        have hP : va_P D vwCl (wX9 a0 c m0_45) H := by rw [em0_45]; exact hP
        have hD : va_D A (wX9 a0 c m0_45) := by rw [em0_45]; exact hD
        obtain ⟨v4_46, ev4_46, h⟩ := lt_i h
        refine lv_iinc (v := v4_46) (lv' := [(4, .int v4_46), (0, .ref (a0 0)), (1, .int x1)]) (pc := 46) hx hb dX9_becomes_46 hl (k := 2) rfl (by rw [ev4_46]; rfl) (by decide) rfl (fun ls hl => ?_)
        refine lv_goto (tgt := 26) (pc := 49) hx hb dX9_becomes_49 (by decide) ?_
        have jr := K26h x1 v4_46 m0_45 _ _ ls h hP hD hS (lv_sub hl [1, 2, 0] rfl)
        exact jr
  have J22 : ∀ (x1 : Int32) (y0 : Int32) (y1 : Int32) (s0 : Mem) (H : Heap) (locs : List Loc) (ls : Array Slot), fX9_becomes_b22 x1 y0 y1 s0 = some z0 → va_P D vwCl (wX9 a0 c s0) H → va_D A (wX9 a0 c s0) → va_S A s.heap H locs → lv_has ls 5 [(0, .ref (a0 0)), (1, .int x1)] → W p l e rmX9_becomes s m args below meth cd H locs 0 0 Q (F0 m 22 ls [.int y0, .int y1, .ref (a0 13)]) := by
    intro x1 y0 y1 s0 H locs ls h hP hD hS hl
    unfold fX9_becomes_b22 at h
    obtain ⟨hk22, h⟩ := ckI_i h
    refine va_iast (D := D) (f := (s0.1 22)) (pc := 22) hx hb hK hP hD hS 13 0 rfl rfl hk22 dX9_becomes_22 (fun H locs hP hD hS => ?_)
    obtain ⟨m0_22, em0_22, h⟩ := lt_i h
    have hP : va_P D vwCl (wX9 a0 c m0_22) H := by rw [em0_22]; exact hP
    have hD : va_D A (wX9 a0 c m0_22) := by rw [em0_22]; exact hD
    refine lv_iconst (v := 0) (pc := 23) hx hb dX9_becomes_23 (by decide) ?_
    refine lv_istore (lv' := [(4, .int (0 : Int32)), (0, .ref (a0 0)), (1, .int x1)]) (pc := 24) hx hb dX9_becomes_24 hl (by decide) rfl (fun ls hl => ?_)
    have jr := J26 FU x1 (0 : Int32) m0_22 _ _ ls h hP hD hS (lv_sub hl [1, 2, 0] rfl)
    exact jr
  refine lv_aload_n (pc := 0) hx hb dX9_becomes_0 rfl (lv_at hl 0 rfl) ?_
  refine va_get (D := D) (ci := 9) (v := .ref (a0 12)) (C := RX9) (T := TX9) (N := 24) (pc := 1) hx hb hfX9 (fun _ h9 => h9) hown hK hP 0 rfl rfl 21 (by decide) lk0 (fun _ h9 => h9) rfl dX9_becomes_1 ?_
  refine lv_iload_n (pc := 4) hx hb dX9_becomes_4 rfl (lv_at hl 1 rfl) ?_
  refine lv_iload_n (pc := 5) hx hb dX9_becomes_5 rfl (lv_at hl 2 rfl) ?_
  obtain ⟨hk6, h⟩ := ckI_i h
  refine va_iast (D := D) (f := (s0.1 21)) (pc := 6) hx hb hK hP hD hS 12 0 rfl rfl hk6 dX9_becomes_6 (fun H locs hP hD hS => ?_)
  obtain ⟨m0_6, em0_6, h⟩ := lt_i h
  have hP : va_P D vwCl (wX9 a0 c m0_6) H := by rw [em0_6]; exact hP
  have hD : va_D A (wX9 a0 c m0_6) := by rw [em0_6]; exact hD
  refine lv_aload_n (pc := 7) hx hb dX9_becomes_7 rfl (lv_at hl 0 rfl) ?_
  refine va_get (D := D) (ci := 9) (v := .ref (a0 13)) (C := RX9) (T := TX9) (N := 24) (pc := 8) hx hb hfX9 (fun _ h9 => h9) hown hK hP 0 rfl rfl 22 (by decide) lk1 (fun _ h9 => h9) rfl dX9_becomes_8 ?_
  refine lv_iload_n (pc := 11) hx hb dX9_becomes_11 rfl (lv_at hl 1 rfl) ?_
  refine lv_iload_n (pc := 12) hx hb dX9_becomes_12 rfl (lv_at hl 2 rfl) ?_
  refine lv_iconst (v := -1) (pc := 13) hx hb dX9_becomes_13 (by decide) ?_
  refine lv_icmp_ne (tgt := 21) (pc := 14) hx hb dX9_becomes_14 (by decide) (fun c14 => ?_) (fun c14 => ?_)
  · replace h := it_f c14 h
    refine lv_iload_n (pc := 21) hx hb dX9_becomes_21 rfl (lv_at hl 3 rfl) ?_
    have jr := J22 p0 p2 p0 m0_6 _ _ ls h hP hD hS (lv_sub hl [0, 1] rfl)
    exact jr
  · replace h := it_t c14 h
    refine lv_iconst (v := 0) (pc := 17) hx hb dX9_becomes_17 (by decide) ?_
    refine lv_goto (tgt := 22) (pc := 18) hx hb dX9_becomes_18 (by decide) ?_
    have jr := J22 p0 (0 : Int32) p0 m0_6 _ _ ls h hP hD hS (lv_sub hl [0, 1] rfl)
    exact jr
abbrev rmX9_film : Room := { frames := 3, cells := 0, slots := 0, locals := 69 }
set_option maxRecDepth 100000 in
set_option maxHeartbeats 40000000 in
theorem cX9_film_met (l : Launch) (D : va_G) (c : Nat → ClassId) (a0 : Nat → Nat) (p0 : Int32) (p1 : Int32) (p2 : Int32) (s0 : Mem) (r0 : Int32) (z0 : Mem) (h : fX9_film p0 p1 p2 s0 = some (r0, z0)) : gM l yX9_film wsX9_film rmX9_film D (gY c) gT [.ref (a0 0), .int p0, .int p1, .int p2] (wX9 a0 c s0) (some (.int r0)) (wX9 a0 c z0) := by
  unfold fX9_film at h
  refine gM.I (cc := cX9_film) (maxL := 5) (by decide) rfl (Nat.le_of_ble_eq_true rfl) ?_
  intro p e s m args below meth cd hx hb hml hown hts A hA ls hl hP hK hD hS hE Q KR0
  have hfX9 : ∀ w ∈ u_ws RX9 TX9 24, w.before args s = true := fun w hw => hts w (List.mem_cons_of_mem _ (List.mem_append_right _ hw))
  have lk0 := hts (.fieldLink RX9 9 "GlitchNetsModel" "s" "[I") (List.mem_of_getElem? (i := 1) rfl)
  have lk1 := hts (.fieldLink RX9 50 "GlitchNetsModel" "item" "[I") (List.mem_of_getElem? (i := 2) rfl)
  have KR : ∀ (v : Int32) (w0 : Mem) (H : Heap) (locs : List Loc) (pc : Nat) (ls : Array Slot), some (v, w0) = some (r0, z0) → narrow .int (.int v) = .int v → va_P D vwCl (wX9 a0 c w0) H → va_D A (wX9 a0 c w0) → va_S A s.heap H locs → decode cX9_film pc = .ok (.ireturn, 1) → W p l e rmX9_film s m args below meth cd H locs 0 0 Q (F0 m pc ls [.int v]) := by
    intro v w0 H locs pc ls hr hn hP hD hS hd
    cases hr
    exact KR0 _ H locs pc ls rfl hn hP hD hS hd
  have hl : lv_has ls 5 [(0, .ref (a0 0)), (1, .int p0), (2, .int p1), (3, .int p2)] := hl
  have J61 : ∀ (n : Nat) (x1 : Int32) (x3 : Int32) (x4 : Int32) (s0 : Mem) (H : Heap) (locs : List Loc) (ls : Array Slot), fX9_film_b61 n x1 x3 x4 s0 = some (r0, z0) → va_P D vwCl (wX9 a0 c s0) H → va_D A (wX9 a0 c s0) → va_S A s.heap H locs → lv_has ls 5 [(0, .ref (a0 0)), (1, .int x1), (3, .int x3), (4, .int x4)] → W p l e rmX9_film s m args below meth cd H locs 0 0 Q (F0 m 61 ls []) := by
    intro n
    induction n with
    | zero =>
      intro x1 x3 x4 s0 H locs ls h _ _ _ _
      cases (show (none : Option (Int32 × Mem)) = some _ from h)
    | succ n K61h =>
      intro x1 x3 x4 s0 H locs ls h hP hD hS hl
      rw [fX9_film_b61] at h
      refine lv_iload (pc := 61) hx hb dX9_film_61 (lv_at hl 3 rfl) ?_
      refine lv_iload_n (pc := 63) hx hb dX9_film_63 rfl (lv_at hl 2 rfl) ?_
      refine lv_icmp_ge (tgt := 91) (pc := 64) hx hb dX9_film_64 (by decide) (fun c64 => ?_) (fun c64 => ?_)
      · replace h := it_t c64 h
        refine lv_iload_n (pc := 91) hx hb dX9_film_91 rfl (lv_at hl 2 rfl) ?_
        have kr := KR x3 s0 _ _ 92 ls h rfl hP hD hS dX9_film_92
        exact kr
      · replace h := it_f c64 h
        refine lv_aload_n (pc := 67) hx hb dX9_film_67 rfl (lv_at hl 0 rfl) ?_
        refine va_get (D := D) (ci := 9) (v := .ref (a0 14)) (C := RX9) (T := TX9) (N := 24) (pc := 68) hx hb hfX9 (fun _ h9 => h9) hown hK hP 0 rfl rfl 23 (by decide) lk1 (fun _ h9 => h9) rfl dX9_film_68 ?_
        refine lv_bipush (v := 40) (pc := 71) hx hb dX9_film_71 (by decide) ?_
        refine lv_iload_n (pc := 73) hx hb dX9_film_73 rfl (lv_at hl 1 rfl) ?_
        refine lv_imul (pc := 74) hx hb dX9_film_74 ?_
        refine lv_iload (pc := 75) hx hb dX9_film_75 (lv_at hl 3 rfl) ?_
        refine lv_iadd (pc := 77) hx hb dX9_film_77 ?_
        refine lv_aload_n (pc := 78) hx hb dX9_film_78 rfl (lv_at hl 0 rfl) ?_
        refine lv_iload (pc := 79) hx hb dX9_film_79 (lv_at hl 3 rfl) ?_
        obtain ⟨r81, hc81, h⟩ := b1_i h
        refine g_all (st1 := [.int r81, .int (((40 : Int32) * x1) + x4), .ref (a0 14)]) (gr_V (n := 1) (rest := [.int (((40 : Int32) * x1) + x4), .ref (a0 14)]) (pc := 81) hx hb hml hown hts (cX9_outAt_met l D c a0 x4 s0 _ hc81) gX9_film_X9_outAt rfl rfl rfl (by decide +kernel) rfl ⟨Nat.le_of_ble_eq_true rfl, Nat.le_of_ble_eq_true rfl⟩ ⟨Nat.zero_le _, Nat.zero_le _⟩ 0 9 rfl rfl rfl gT_ok hP hD hK (fun _ _ _ => trivial) hl.1 (Nat.le_of_ble_eq_true rfl) dX9_film_81 rfl) hD hS hA rfl (fun H locs hP hD hS => ?_)
        obtain ⟨hk84, h⟩ := ckI_i h
        refine va_iast (D := D) (f := (s0.1 23)) (pc := 84) hx hb hK hP hD hS 14 0 rfl rfl hk84 dX9_film_84 (fun H locs hP hD hS => ?_)
        obtain ⟨m0_84, em0_84, h⟩ := lt_i h
        have hP : va_P D vwCl (wX9 a0 c m0_84) H := by rw [em0_84]; exact hP
        have hD : va_D A (wX9 a0 c m0_84) := by rw [em0_84]; exact hD
        obtain ⟨v4_85, ev4_85, h⟩ := lt_i h
        refine lv_iinc (v := v4_85) (lv' := [(4, .int v4_85), (0, .ref (a0 0)), (1, .int x1), (3, .int x3)]) (pc := 85) hx hb dX9_film_85 hl (k := 3) rfl (by rw [ev4_85]; rfl) (by decide) rfl (fun ls hl => ?_)
        refine lv_goto (tgt := 61) (pc := 88) hx hb dX9_film_88 (by decide) ?_
        have jr := K61h x1 x3 v4_85 m0_84 _ _ ls h hP hD hS (lv_sub hl [1, 2, 3, 0] rfl)
        exact jr
  refine lv_iload_n (pc := 0) hx hb dX9_film_0 rfl (lv_at hl 1 rfl) ?_
  obtain ⟨r1, hc1, h⟩ := b1_i h
  refine g_none (st1 := [.int r1]) (gr_S (n := 1) (rest := []) (pc := 1) hx hb hml hown hts (cX9_isSheet_met l D c p0 _ hc1) gX9_film_X9_isSheet rfl rfl rfl (by decide +kernel) rfl ⟨Nat.le_of_ble_eq_true rfl, Nat.le_of_ble_eq_true rfl⟩ ⟨Nat.zero_le _, Nat.zero_le _⟩ gT_ok g_P0 (g_D0 (A := A)) hK (fun _ _ _ => trivial) hl.1 (Nat.le_of_ble_eq_true rfl) dX9_film_1 rfl) hP hS hA rfl (fun H locs hP hS => ?_)
  refine lv_if_eq (tgt := 24) (pc := 4) hx hb dX9_film_4 (by decide) (fun c4 => ?_) (fun c4 => ?_)
  · replace h := it_t c4 h
    refine lv_bipush (v := -2) (pc := 24) hx hb dX9_film_24 (by decide) ?_
    have kr := KR (-2 : Int32) s0 _ _ 26 ls h rfl hP hD hS dX9_film_26
    exact kr
  · replace h := it_f c4 h
    refine lv_iload_n (pc := 7) hx hb dX9_film_7 rfl (lv_at hl 2 rfl) ?_
    obtain ⟨r8, hc8, h⟩ := b1_i h
    refine g_none (st1 := [.int r8]) (gr_S (n := 1) (rest := []) (pc := 8) hx hb hml hown hts (cX9_isXy_met l D c p1 _ hc8) gX9_film_X9_isXy rfl rfl rfl (by decide +kernel) rfl ⟨Nat.le_of_ble_eq_true rfl, Nat.le_of_ble_eq_true rfl⟩ ⟨Nat.zero_le _, Nat.zero_le _⟩ gT_ok g_P0 (g_D0 (A := A)) hK (fun _ _ _ => trivial) hl.1 (Nat.le_of_ble_eq_true rfl) dX9_film_8 rfl) hP hS hA rfl (fun H locs hP hS => ?_)
    refine lv_if_eq (tgt := 24) (pc := 11) hx hb dX9_film_11 (by decide) (fun c11 => ?_) (fun c11 => ?_)
    · replace h := it_t c11 h
      refine lv_bipush (v := -2) (pc := 24) hx hb dX9_film_24 (by decide) ?_
      have kr := KR (-2 : Int32) s0 _ _ 26 ls h rfl hP hD hS dX9_film_26
      exact kr
    · replace h := it_f c11 h
      refine lv_iload_n (pc := 14) hx hb dX9_film_14 rfl (lv_at hl 3 rfl) ?_
      refine lv_iconst (v := 0) (pc := 15) hx hb dX9_film_15 (by decide) ?_
      refine lv_bipush (v := 40) (pc := 16) hx hb dX9_film_16 (by decide) ?_
      obtain ⟨r18, hc18, h⟩ := b1_i h
      refine g_none (st1 := [.int r18]) (gr_S (n := 3) (rest := []) (pc := 18) hx hb hml hown hts (cX9_isIn_met l D c p2 (0 : Int32) (40 : Int32) _ hc18) gX9_film_X9_isIn rfl rfl rfl (by decide +kernel) rfl ⟨Nat.le_of_ble_eq_true rfl, Nat.le_of_ble_eq_true rfl⟩ ⟨Nat.zero_le _, Nat.zero_le _⟩ gT_ok g_P0 (g_D0 (A := A)) hK (fun _ _ _ => trivial) hl.1 (Nat.le_of_ble_eq_true rfl) dX9_film_18 rfl) hP hS hA rfl (fun H locs hP hS => ?_)
      refine lv_if_ne (tgt := 27) (pc := 21) hx hb dX9_film_21 (by decide) (fun c21 => ?_) (fun c21 => ?_)
      · replace h := it_f c21 h
        refine lv_aload_n (pc := 27) hx hb dX9_film_27 rfl (lv_at hl 0 rfl) ?_
        refine va_get (D := D) (ci := 9) (v := .ref (a0 1)) (C := RX9) (T := TX9) (N := 24) (pc := 28) hx hb hfX9 (fun _ h9 => h9) hown hK hP 0 rfl rfl 0 (by decide) lk0 (fun _ h9 => h9) rfl dX9_film_28 ?_
        refine lv_iconst (v := 0) (pc := 31) hx hb dX9_film_31 (by decide) ?_
        obtain ⟨hk32, h⟩ := ckI_i h
        refine va_iald (D := D) (f := (s0.1 0)) (pc := 32) hx hb hK hP 1 0 rfl rfl hk32 dX9_film_32 ?_
        refine lv_if_ne (tgt := 39) (pc := 33) hx hb dX9_film_33 (by decide) (fun c33 => ?_) (fun c33 => ?_)
        · replace h := it_f c33 h
          refine lv_aload_n (pc := 39) hx hb dX9_film_39 rfl (lv_at hl 0 rfl) ?_
          refine lv_iload_n (pc := 40) hx hb dX9_film_40 rfl (lv_at hl 2 rfl) ?_
          refine lv_bipush (v := 16) (pc := 41) hx hb dX9_film_41 (by decide) ?_
          obtain ⟨hz43, h⟩ := ck0_i h
          refine lv_idiv (pc := 43) hx hb dX9_film_43 hz43 ?_
          refine lv_iload_n (pc := 44) hx hb dX9_film_44 rfl (lv_at hl 2 rfl) ?_
          refine lv_bipush (v := 16) (pc := 45) hx hb dX9_film_45 (by decide) ?_
          obtain ⟨hz47, h⟩ := ck0_i h
          refine lv_irem (pc := 47) hx hb dX9_film_47 hz47 ?_
          obtain ⟨t0_48, hc48, h⟩ := b1_i h
          refine g_all (st1 := []) (gr_V (n := 2) (rest := []) (pc := 48) hx hb hml hown hts (cX9_waves_met l D c a0 ((p1 / (16 : Int32))) ((p1 - p1 / (16 : Int32) * (16 : Int32))) s0 _ hc48) gX9_film_X9_waves rfl rfl rfl (by decide +kernel) rfl ⟨Nat.le_of_ble_eq_true rfl, Nat.le_of_ble_eq_true rfl⟩ ⟨Nat.zero_le _, Nat.zero_le _⟩ 0 9 rfl rfl rfl gT_ok hP hD hK (fun _ _ _ => trivial) hl.1 (Nat.le_of_ble_eq_true rfl) dX9_film_48 rfl) hD hS hA rfl (fun H locs hP hD hS => ?_)
          refine lv_aload_n (pc := 51) hx hb dX9_film_51 rfl (lv_at hl 0 rfl) ?_
          refine lv_iload_n (pc := 52) hx hb dX9_film_52 rfl (lv_at hl 1 rfl) ?_
          refine lv_iconst (v := 0) (pc := 53) hx hb dX9_film_53 (by decide) ?_
          refine lv_iload_n (pc := 54) hx hb dX9_film_54 rfl (lv_at hl 3 rfl) ?_
          obtain ⟨t0_55, hc55, h⟩ := b1_i h
          refine g_all (st1 := []) (gr_V (n := 3) (rest := []) (pc := 55) hx hb hml hown hts (cX9_becomes_met l D c a0 p0 (0 : Int32) p2 t0_48 _ hc55) gX9_film_X9_becomes rfl rfl rfl (by decide +kernel) rfl ⟨Nat.le_of_ble_eq_true rfl, Nat.le_of_ble_eq_true rfl⟩ ⟨Nat.zero_le _, Nat.zero_le _⟩ 0 9 rfl rfl rfl gT_ok hP hD hK (fun _ _ _ => trivial) hl.1 (Nat.le_of_ble_eq_true rfl) dX9_film_55 rfl) hD hS hA rfl (fun H locs hP hD hS => ?_)
          refine lv_iconst (v := 0) (pc := 58) hx hb dX9_film_58 (by decide) ?_
          refine lv_istore (lv' := [(4, .int (0 : Int32)), (0, .ref (a0 0)), (1, .int p0), (2, .int p1), (3, .int p2)]) (pc := 59) hx hb dX9_film_59 hl (by decide) rfl (fun ls hl => ?_)
          have jr := J61 FU p0 p2 (0 : Int32) t0_55 _ _ ls h hP hD hS (lv_sub hl [1, 2, 4, 0] rfl)
          exact jr
        · replace h := it_t c33 h
          refine lv_bipush (v := -3) (pc := 36) hx hb dX9_film_36 (by decide) ?_
          have kr := KR (-3 : Int32) s0 _ _ 38 ls h rfl hP hD hS dX9_film_38
          exact kr
      · replace h := it_t c21 h
        refine lv_bipush (v := -2) (pc := 24) hx hb dX9_film_24 (by decide) ?_
        have kr := KR (-2 : Int32) s0 _ _ 26 ls h rfl hP hD hS dX9_film_26
        exact kr
abbrev rmX9_image : Room := { frames := 1, cells := 0, slots := 0, locals := 22 }
set_option maxRecDepth 100000 in
set_option maxHeartbeats 40000000 in
theorem cX9_image_met (l : Launch) (D : va_G) (c : Nat → ClassId) (a0 : Nat → Nat) (s0 : Mem) (r0 : Int32) (z0 : Mem) (h : fX9_image s0 = some (r0, z0)) : gM l yX9_image wsX9_image rmX9_image D (gY c) gT [.ref (a0 0)] (wX9 a0 c s0) (some (.int r0)) (wX9 a0 c z0) := by
  unfold fX9_image at h
  refine gM.I (cc := cX9_image) (maxL := 1) (by decide) rfl (Nat.le_of_ble_eq_true rfl) ?_
  intro p e s m args below meth cd hx hb hml hown hts A hA ls hl hP hK hD hS hE Q KR0
  have hfX9 : ∀ w ∈ u_ws RX9 TX9 24, w.before args s = true := fun w hw => hts w (List.mem_cons_of_mem _ (List.mem_append_right _ hw))
  have lk0 := hts (.fieldLink RX9 9 "GlitchNetsModel" "s" "[I") (List.mem_of_getElem? (i := 1) rfl)
  have lk1 := hts (.fieldLink RX9 13 "GlitchNetsModel" "kept" "[I") (List.mem_of_getElem? (i := 2) rfl)
  have lk2 := hts (.fieldLink RX9 251 "GlitchNetsModel" "isKept" "Z") (List.mem_of_getElem? (i := 3) rfl)
  have KR : ∀ (v : Int32) (w0 : Mem) (H : Heap) (locs : List Loc) (pc : Nat) (ls : Array Slot), some (v, w0) = some (r0, z0) → narrow .int (.int v) = .int v → va_P D vwCl (wX9 a0 c w0) H → va_D A (wX9 a0 c w0) → va_S A s.heap H locs → decode cX9_image pc = .ok (.ireturn, 1) → W p l e rmX9_image s m args below meth cd H locs 0 0 Q (F0 m pc ls [.int v]) := by
    intro v w0 H locs pc ls hr hn hP hD hS hd
    cases hr
    exact KR0 _ H locs pc ls rfl hn hP hD hS hd
  have hl : lv_has ls 1 [(0, .ref (a0 0))] := hl
  refine lv_aload_n (pc := 0) hx hb dX9_image_0 rfl (lv_at hl 0 rfl) ?_
  refine va_get (D := D) (ci := 9) (v := .ref (a0 1)) (C := RX9) (T := TX9) (N := 24) (pc := 1) hx hb hfX9 (fun _ h9 => h9) hown hK hP 0 rfl rfl 0 (by decide) lk0 (fun _ h9 => h9) rfl dX9_image_1 ?_
  refine lv_aload_n (pc := 4) hx hb dX9_image_4 rfl (lv_at hl 0 rfl) ?_
  refine va_get (D := D) (ci := 9) (v := .ref (a0 2)) (C := RX9) (T := TX9) (N := 24) (pc := 5) hx hb hfX9 (fun _ h9 => h9) hown hK hP 0 rfl rfl 1 (by decide) lk1 (fun _ h9 => h9) rfl dX9_image_5 ?_
  obtain ⟨t1_8, hc8, h⟩ := b1_i h
  have hPc := g_cutP (w0 := wRI (a0 1) 66 c (s0.1 0) ++ wRI (a0 2) 66 c (s0.1 1)) hP [1, 2] rfl
  have hDc : va_D A (wRI (a0 1) 66 c (s0.1 0) ++ wRI (a0 2) 66 c (s0.1 1)) := hD.sub [1, 2] (by decide) rfl
  have hFc := va_free (wc := wRI (a0 1) 66 c (s0.1 0) ++ wRI (a0 2) 66 c (s0.1 1)) hD hS hA [1, 2] rfl
  refine g_sub (st1 := []) (wr := [(a0 0, .inr (9, [.ref (a0 1), .ref (a0 2), .int (s0.1 2 0), .ref (a0 3), .int (s0.1 4 0), .ref (a0 4), .int (s0.1 6 0), .int (s0.1 7 0), .int (s0.1 8 0), .int (s0.1 9 0), .ref (a0 5), .ref (a0 6), .ref (a0 7), .ref (a0 8), .int (s0.1 14 0), .int (s0.1 15 0), .ref (a0 9), .int (s0.1 17 0), .ref (a0 10), .int (s0.1 19 0), .ref (a0 11), .ref (a0 12), .ref (a0 13), .ref (a0 14)])), (a0 3, .inl (c 0, 24, .inl (s0.1 3))), (a0 4, .inl (c 0, 30, .inl (s0.1 5))), (a0 5, .inl (c 2, 24, .inl (s0.1 10))), (a0 6, .inl (c 0, 4, .inl (s0.1 11))), (a0 7, .inl (c 0, 12, .inl (s0.1 12))), (a0 8, .inl (c 0, 1308, .inl (s0.1 13))), (a0 9, .inl (c 0, 32, .inl (s0.1 16))), (a0 10, .inl (c 0, 32, .inl (s0.1 18))), (a0 11, .inl (c 0, 32, .inl (s0.1 20))), (a0 12, .inl (c 0, 4, .inl (s0.1 21))), (a0 13, .inl (c 0, 4, .inl (s0.1 22))), (a0 14, .inl (c 0, 160, .inl (s0.1 23)))]) (wn := wX9 a0 c (mr s0 1 t1_8)) (gr_S (n := 2) (rest := []) (pc := 8) hx hb hml hown hts (cX9_copies_met l D c (a0 1) (a0 2) (s0.1 0) (s0.1 1) _ hc8) gX9_image_X9_copies rfl rfl rfl (by decide +kernel) rfl ⟨Nat.le_of_ble_eq_true rfl, Nat.le_of_ble_eq_true rfl⟩ ⟨Nat.zero_le _, Nat.zero_le _⟩ gT_ok hPc hDc hK (fun _ _ _ => trivial) hl.1 (Nat.le_of_ble_eq_true rfl) dX9_image_8 rfl) hP hD hS hA [1, 2] [0, 3, 4, 5, 6, 7, 8, 9, 10, 11, 12, 13, 14] [0, 13, 14, 1, 2, 3, 4, 5, 6, 7, 8, 9, 10, 11, 12] rfl rfl (by decide) (by decide) (by decide) rfl rfl (fun H locs hP hD hS => ?_)
  refine lv_aload_n (pc := 11) hx hb dX9_image_11 rfl (lv_at hl 0 rfl) ?_
  refine lv_iconst (v := 1) (pc := 12) hx hb dX9_image_12 (by decide) ?_
  refine va_put (D := D) (ci := 9) (v := .int (1 : Int32)) (ty := .boolean) (C := RX9) (T := TX9) (N := 24) (pc := 13) hx hb hfX9 (fun _ h9 => h9) tyX9 tyX9_ok nmX9 hown hK hP hD hS 0 rfl rfl 2 (by decide) lk2 (fun _ h9 => h9) rfl (by decide +kernel) rfl rfl (Nat.le_of_ble_eq_true rfl) dX9_image_13 (fun H locs hP hD hS => ?_)
  obtain ⟨m0_13, em0_13, h⟩ := lt_i h
  have hP : va_P D vwCl (wX9 a0 c m0_13) H := by rw [em0_13]; exact hP
  have hD : va_D A (wX9 a0 c m0_13) := by rw [em0_13]; exact hD
  refine lv_aload_n (pc := 16) hx hb dX9_image_16 rfl (lv_at hl 0 rfl) ?_
  refine va_get (D := D) (ci := 9) (v := .ref (a0 1)) (C := RX9) (T := TX9) (N := 24) (pc := 17) hx hb hfX9 (fun _ h9 => h9) hown hK hP 0 rfl rfl 0 (by decide) lk0 (fun _ h9 => h9) rfl dX9_image_17 ?_
  refine lv_iconst (v := 0) (pc := 20) hx hb dX9_image_20 (by decide) ?_
  obtain ⟨hk21, h⟩ := ckI_i h
  refine va_iald (D := D) (f := (m0_13.1 0)) (pc := 21) hx hb hK hP 1 0 rfl rfl hk21 dX9_image_21 ?_
  have kr := KR ((m0_13.1 0) ((0 : Int32)).toNatClampNeg) m0_13 _ _ 22 ls h rfl hP hD hS dX9_image_22
  exact kr
abbrev rmX9_back : Room := { frames := 1, cells := 0, slots := 0, locals := 22 }
set_option maxRecDepth 100000 in
set_option maxHeartbeats 40000000 in
theorem cX9_back_met (l : Launch) (D : va_G) (c : Nat → ClassId) (a0 : Nat → Nat) (s0 : Mem) (r0 : Int32) (z0 : Mem) (h : fX9_back s0 = some (r0, z0)) : gM l yX9_back wsX9_back rmX9_back D (gY c) gT [.ref (a0 0)] (wX9 a0 c s0) (some (.int r0)) (wX9 a0 c z0) := by
  unfold fX9_back at h
  refine gM.I (cc := cX9_back) (maxL := 1) (by decide) rfl (Nat.le_of_ble_eq_true rfl) ?_
  intro p e s m args below meth cd hx hb hml hown hts A hA ls hl hP hK hD hS hE Q KR0
  have hfX9 : ∀ w ∈ u_ws RX9 TX9 24, w.before args s = true := fun w hw => hts w (List.mem_cons_of_mem _ (List.mem_append_right _ hw))
  have lk0 := hts (.fieldLink RX9 251 "GlitchNetsModel" "isKept" "Z") (List.mem_of_getElem? (i := 1) rfl)
  have lk1 := hts (.fieldLink RX9 13 "GlitchNetsModel" "kept" "[I") (List.mem_of_getElem? (i := 2) rfl)
  have lk2 := hts (.fieldLink RX9 9 "GlitchNetsModel" "s" "[I") (List.mem_of_getElem? (i := 3) rfl)
  have lk3 := hts (.fieldLink RX9 61 "GlitchNetsModel" "deeds" "I") (List.mem_of_getElem? (i := 4) rfl)
  have KR : ∀ (v : Int32) (w0 : Mem) (H : Heap) (locs : List Loc) (pc : Nat) (ls : Array Slot), some (v, w0) = some (r0, z0) → narrow .int (.int v) = .int v → va_P D vwCl (wX9 a0 c w0) H → va_D A (wX9 a0 c w0) → va_S A s.heap H locs → decode cX9_back pc = .ok (.ireturn, 1) → W p l e rmX9_back s m args below meth cd H locs 0 0 Q (F0 m pc ls [.int v]) := by
    intro v w0 H locs pc ls hr hn hP hD hS hd
    cases hr
    exact KR0 _ H locs pc ls rfl hn hP hD hS hd
  have hl : lv_has ls 1 [(0, .ref (a0 0))] := hl
  refine lv_aload_n (pc := 0) hx hb dX9_back_0 rfl (lv_at hl 0 rfl) ?_
  refine va_get (D := D) (ci := 9) (v := .int (s0.1 2 0)) (C := RX9) (T := TX9) (N := 24) (pc := 1) hx hb hfX9 (fun _ h9 => h9) hown hK hP 0 rfl rfl 2 (by decide) lk0 (fun _ h9 => h9) rfl dX9_back_1 ?_
  refine lv_if_ne (tgt := 10) (pc := 4) hx hb dX9_back_4 (by decide) (fun c4 => ?_) (fun c4 => ?_)
  · replace h := it_f c4 h
    refine lv_aload_n (pc := 10) hx hb dX9_back_10 rfl (lv_at hl 0 rfl) ?_
    refine va_get (D := D) (ci := 9) (v := .ref (a0 2)) (C := RX9) (T := TX9) (N := 24) (pc := 11) hx hb hfX9 (fun _ h9 => h9) hown hK hP 0 rfl rfl 1 (by decide) lk1 (fun _ h9 => h9) rfl dX9_back_11 ?_
    refine lv_aload_n (pc := 14) hx hb dX9_back_14 rfl (lv_at hl 0 rfl) ?_
    refine va_get (D := D) (ci := 9) (v := .ref (a0 1)) (C := RX9) (T := TX9) (N := 24) (pc := 15) hx hb hfX9 (fun _ h9 => h9) hown hK hP 0 rfl rfl 0 (by decide) lk2 (fun _ h9 => h9) rfl dX9_back_15 ?_
    obtain ⟨t1_18, hc18, h⟩ := b1_i h
    have hPc := g_cutP (w0 := wRI (a0 2) 66 c (s0.1 1) ++ wRI (a0 1) 66 c (s0.1 0)) hP [2, 1] rfl
    have hDc : va_D A (wRI (a0 2) 66 c (s0.1 1) ++ wRI (a0 1) 66 c (s0.1 0)) := hD.sub [2, 1] (by decide) rfl
    have hFc := va_free (wc := wRI (a0 2) 66 c (s0.1 1) ++ wRI (a0 1) 66 c (s0.1 0)) hD hS hA [2, 1] rfl
    refine g_sub (st1 := []) (wr := [(a0 0, .inr (9, [.ref (a0 1), .ref (a0 2), .int (s0.1 2 0), .ref (a0 3), .int (s0.1 4 0), .ref (a0 4), .int (s0.1 6 0), .int (s0.1 7 0), .int (s0.1 8 0), .int (s0.1 9 0), .ref (a0 5), .ref (a0 6), .ref (a0 7), .ref (a0 8), .int (s0.1 14 0), .int (s0.1 15 0), .ref (a0 9), .int (s0.1 17 0), .ref (a0 10), .int (s0.1 19 0), .ref (a0 11), .ref (a0 12), .ref (a0 13), .ref (a0 14)])), (a0 3, .inl (c 0, 24, .inl (s0.1 3))), (a0 4, .inl (c 0, 30, .inl (s0.1 5))), (a0 5, .inl (c 2, 24, .inl (s0.1 10))), (a0 6, .inl (c 0, 4, .inl (s0.1 11))), (a0 7, .inl (c 0, 12, .inl (s0.1 12))), (a0 8, .inl (c 0, 1308, .inl (s0.1 13))), (a0 9, .inl (c 0, 32, .inl (s0.1 16))), (a0 10, .inl (c 0, 32, .inl (s0.1 18))), (a0 11, .inl (c 0, 32, .inl (s0.1 20))), (a0 12, .inl (c 0, 4, .inl (s0.1 21))), (a0 13, .inl (c 0, 4, .inl (s0.1 22))), (a0 14, .inl (c 0, 160, .inl (s0.1 23)))]) (wn := wX9 a0 c (mr s0 0 t1_18)) (gr_S (n := 2) (rest := []) (pc := 18) hx hb hml hown hts (cX9_copies_met l D c (a0 2) (a0 1) (s0.1 1) (s0.1 0) _ hc18) gX9_back_X9_copies rfl rfl rfl (by decide +kernel) rfl ⟨Nat.le_of_ble_eq_true rfl, Nat.le_of_ble_eq_true rfl⟩ ⟨Nat.zero_le _, Nat.zero_le _⟩ gT_ok hPc hDc hK (fun _ _ _ => trivial) hl.1 (Nat.le_of_ble_eq_true rfl) dX9_back_18 rfl) hP hD hS hA [2, 1] [0, 3, 4, 5, 6, 7, 8, 9, 10, 11, 12, 13, 14] [0, 14, 13, 1, 2, 3, 4, 5, 6, 7, 8, 9, 10, 11, 12] rfl rfl (by decide) (by decide) (by decide) rfl rfl (fun H locs hP hD hS => ?_)
    refine lv_aload_n (pc := 21) hx hb dX9_back_21 rfl (lv_at hl 0 rfl) ?_
    refine lv_iconst (v := 0) (pc := 22) hx hb dX9_back_22 (by decide) ?_
    refine va_put (D := D) (ci := 9) (v := .int (0 : Int32)) (ty := .int) (C := RX9) (T := TX9) (N := 24) (pc := 23) hx hb hfX9 (fun _ h9 => h9) tyX9 tyX9_ok nmX9 hown hK hP hD hS 0 rfl rfl 4 (by decide) lk3 (fun _ h9 => h9) rfl (by decide +kernel) rfl rfl (Nat.le_of_ble_eq_true rfl) dX9_back_23 (fun H locs hP hD hS => ?_)
    obtain ⟨m0_23, em0_23, h⟩ := lt_i h
    have hP : va_P D vwCl (wX9 a0 c m0_23) H := by rw [em0_23]; exact hP
    have hD : va_D A (wX9 a0 c m0_23) := by rw [em0_23]; exact hD
    refine lv_aload_n (pc := 26) hx hb dX9_back_26 rfl (lv_at hl 0 rfl) ?_
    refine va_get (D := D) (ci := 9) (v := .ref (a0 1)) (C := RX9) (T := TX9) (N := 24) (pc := 27) hx hb hfX9 (fun _ h9 => h9) hown hK hP 0 rfl rfl 0 (by decide) lk2 (fun _ h9 => h9) rfl dX9_back_27 ?_
    refine lv_iconst (v := 0) (pc := 30) hx hb dX9_back_30 (by decide) ?_
    obtain ⟨hk31, h⟩ := ckI_i h
    refine va_iald (D := D) (f := (m0_23.1 0)) (pc := 31) hx hb hK hP 1 0 rfl rfl hk31 dX9_back_31 ?_
    have kr := KR ((m0_23.1 0) ((0 : Int32)).toNatClampNeg) m0_23 _ _ 32 ls h rfl hP hD hS dX9_back_32
    exact kr
  · replace h := it_t c4 h
    refine lv_bipush (v := -3) (pc := 7) hx hb dX9_back_7 (by decide) ?_
    have kr := KR (-3 : Int32) s0 _ _ 9 ls h rfl hP hD hS dX9_back_9
    exact kr
abbrev rmX9_count : Room := { frames := 0, cells := 0, slots := 0, locals := 0 }
set_option maxRecDepth 100000 in
set_option maxHeartbeats 40000000 in
theorem cX9_count_met (l : Launch) (D : va_G) (c : Nat → ClassId) (a0 : Nat → Nat) (p0 : Int32) (s0 : Mem) (r0 : Int32) (h : fX9_count p0 s0 = some r0) : gM l yX9_count wsX9_count rmX9_count D (gY c) gT [.ref (a0 0), .int p0] (wX9 a0 c s0) (some (.int r0)) (wX9 a0 c s0) := by
  unfold fX9_count at h
  refine gM.I (cc := cX9_count) (maxL := 2) (by decide) rfl (Nat.le_of_ble_eq_true rfl) ?_
  intro p e s m args below meth cd hx hb hml hown hts A hA ls hl hP hK hD hS hE Q KR0
  have hfX9 : ∀ w ∈ u_ws RX9 TX9 24, w.before args s = true := fun w hw => hts w (List.mem_cons_of_mem _ (List.mem_append_right _ hw))
  have lk0 := hts (.fieldLink RX9 73 "GlitchNetsModel" "fed" "I") (List.mem_of_getElem? (i := 3) rfl)
  have lk1 := hts (.fieldLink RX9 61 "GlitchNetsModel" "deeds" "I") (List.mem_of_getElem? (i := 2) rfl)
  have lk2 := hts (.fieldLink RX9 9 "GlitchNetsModel" "s" "[I") (List.mem_of_getElem? (i := 1) rfl)
  have KR : ∀ (v : Int32)  (H : Heap) (locs : List Loc) (pc : Nat) (ls : Array Slot), some v = some r0 → narrow .int (.int v) = .int v → va_P D vwCl (wX9 a0 c s0) H → va_D A (wX9 a0 c s0) → va_S A s.heap H locs → decode cX9_count pc = .ok (.ireturn, 1) → W p l e rmX9_count s m args below meth cd H locs 0 0 Q (F0 m pc ls [.int v]) := by
    intro v  H locs pc ls hr hn hP hD hS hd
    cases hr
    exact KR0 _ H locs pc ls rfl hn hP hD hS hd
  have hl : lv_has ls 2 [(0, .ref (a0 0)), (1, .int p0)] := hl
  refine lv_iload_n (pc := 0) hx hb dX9_count_0 rfl (lv_at hl 1 rfl) ?_
  by_cases c1_0 : p0 = (0 : Int32)
  · replace h := it_t c1_0 h
    refine lv_tableIn (tgt := 32) (off := 31) (pc := 1) hx hb dX9_count_1 (by rw [c1_0]; decide) (by rw [c1_0]; decide) (by rw [c1_0]; rfl) (by decide) ?_
    refine lv_aload_n (pc := 32) hx hb dX9_count_32 rfl (lv_at hl 0 rfl) ?_
    refine va_get (D := D) (ci := 9) (v := .ref (a0 1)) (C := RX9) (T := TX9) (N := 24) (pc := 33) hx hb hfX9 (fun _ h9 => h9) hown hK hP 0 rfl rfl 0 (by decide) lk2 (fun _ h9 => h9) rfl dX9_count_33 ?_
    refine lv_iconst (v := 0) (pc := 36) hx hb dX9_count_36 (by decide) ?_
    obtain ⟨hk37, h⟩ := ckI_i h
    refine va_iald (D := D) (f := (s0.1 0)) (pc := 37) hx hb hK hP 1 0 rfl rfl hk37 dX9_count_37 ?_
    have kr := KR ((s0.1 0) ((0 : Int32)).toNatClampNeg)  _ _ 38 ls h rfl hP hD hS dX9_count_38
    exact kr
  · replace h := it_f c1_0 h
    by_cases c1_1 : p0 = (1 : Int32)
    · replace h := it_t c1_1 h
      refine lv_tableIn (tgt := 39) (off := 38) (pc := 1) hx hb dX9_count_1 (by rw [c1_1]; decide) (by rw [c1_1]; decide) (by rw [c1_1]; rfl) (by decide) ?_
      refine lv_aload_n (pc := 39) hx hb dX9_count_39 rfl (lv_at hl 0 rfl) ?_
      refine va_get (D := D) (ci := 9) (v := .ref (a0 1)) (C := RX9) (T := TX9) (N := 24) (pc := 40) hx hb hfX9 (fun _ h9 => h9) hown hK hP 0 rfl rfl 0 (by decide) lk2 (fun _ h9 => h9) rfl dX9_count_40 ?_
      refine lv_iconst (v := 1) (pc := 43) hx hb dX9_count_43 (by decide) ?_
      obtain ⟨hk44, h⟩ := ckI_i h
      refine va_iald (D := D) (f := (s0.1 0)) (pc := 44) hx hb hK hP 1 0 rfl rfl hk44 dX9_count_44 ?_
      have kr := KR ((s0.1 0) ((1 : Int32)).toNatClampNeg)  _ _ 45 ls h rfl hP hD hS dX9_count_45
      exact kr
    · replace h := it_f c1_1 h
      by_cases c1_2 : p0 = (2 : Int32)
      · replace h := it_t c1_2 h
        refine lv_tableIn (tgt := 46) (off := 45) (pc := 1) hx hb dX9_count_1 (by rw [c1_2]; decide) (by rw [c1_2]; decide) (by rw [c1_2]; rfl) (by decide) ?_
        refine lv_aload_n (pc := 46) hx hb dX9_count_46 rfl (lv_at hl 0 rfl) ?_
        refine va_get (D := D) (ci := 9) (v := .int (s0.1 4 0)) (C := RX9) (T := TX9) (N := 24) (pc := 47) hx hb hfX9 (fun _ h9 => h9) hown hK hP 0 rfl rfl 4 (by decide) lk1 (fun _ h9 => h9) rfl dX9_count_47 ?_
        have kr := KR (s0.1 4 0)  _ _ 50 ls h rfl hP hD hS dX9_count_50
        exact kr
      · replace h := it_f c1_2 h
        by_cases c1_3 : p0 = (3 : Int32)
        · replace h := it_t c1_3 h
          refine lv_tableIn (tgt := 51) (off := 50) (pc := 1) hx hb dX9_count_1 (by rw [c1_3]; decide) (by rw [c1_3]; decide) (by rw [c1_3]; rfl) (by decide) ?_
          refine lv_aload_n (pc := 51) hx hb dX9_count_51 rfl (lv_at hl 0 rfl) ?_
          refine va_get (D := D) (ci := 9) (v := .int (s0.1 6 0)) (C := RX9) (T := TX9) (N := 24) (pc := 52) hx hb hfX9 (fun _ h9 => h9) hown hK hP 0 rfl rfl 6 (by decide) lk0 (fun _ h9 => h9) rfl dX9_count_52 ?_
          have kr := KR (s0.1 6 0)  _ _ 55 ls h rfl hP hD hS dX9_count_55
          exact kr
        · replace h := it_f c1_3 h
          have hsw : (p0).toInt < 0 ∨ 3 < (p0).toInt := by
            have z0 := lv_neT c1_0 (a := 0) (by decide)
            have z1 := lv_neT c1_1 (a := 1) (by decide)
            have z2 := lv_neT c1_2 (a := 2) (by decide)
            have z3 := lv_neT c1_3 (a := 3) (by decide)
            omega
          refine lv_tableOut (tgt := 56) (pc := 1) hx hb dX9_count_1 hsw (by decide) ?_
          refine lv_bipush (v := -2) (pc := 56) hx hb dX9_count_56 (by decide) ?_
          have kr := KR (-2 : Int32)  _ _ 58 ls h rfl hP hD hS dX9_count_58
          exact kr
abbrev rmX9_sheet : Room := { frames := 2, cells := 0, slots := 0, locals := 42 }
set_option maxRecDepth 100000 in
set_option maxHeartbeats 40000000 in
theorem cX9_sheet_met (l : Launch) (D : va_G) (c : Nat → ClassId) (a0 : Nat → Nat) (p0 : Int32) (p1 : Int32) (p2 : Int32) (s0 : Mem) (r0 : Int32) (z0 : Mem) (h : fX9_sheet p0 p1 p2 s0 = some (r0, z0)) : gM l yX9_sheet wsX9_sheet rmX9_sheet D (gY c) gT [.ref (a0 0), .int p0, .int p1, .int p2] (wX9 a0 c s0) (some (.int r0)) (wX9 a0 c z0) := by
  unfold fX9_sheet at h
  refine gM.I (cc := cX9_sheet) (maxL := 4) (by decide) rfl (Nat.le_of_ble_eq_true rfl) ?_
  intro p e s m args below meth cd hx hb hml hown hts A hA ls hl hP hK hD hS hE Q KR0
  have KR : ∀ (v : Int32) (w0 : Mem) (H : Heap) (locs : List Loc) (pc : Nat) (ls : Array Slot), some (v, w0) = some (r0, z0) → narrow .int (.int v) = .int v → va_P D vwCl (wX9 a0 c w0) H → va_D A (wX9 a0 c w0) → va_S A s.heap H locs → decode cX9_sheet pc = .ok (.ireturn, 1) → W p l e rmX9_sheet s m args below meth cd H locs 0 0 Q (F0 m pc ls [.int v]) := by
    intro v w0 H locs pc ls hr hn hP hD hS hd
    cases hr
    exact KR0 _ H locs pc ls rfl hn hP hD hS hd
  have hl : lv_has ls 4 [(0, .ref (a0 0)), (1, .int p0), (2, .int p1), (3, .int p2)] := hl
  have J42 : ∀ (x1 : Int32) (x2 : Int32) (x3 : Int32) (s0 : Mem) (H : Heap) (locs : List Loc) (ls : Array Slot), fX9_sheet_b42 x1 x2 x3 s0 = some (r0, z0) → va_P D vwCl (wX9 a0 c s0) H → va_D A (wX9 a0 c s0) → va_S A s.heap H locs → lv_has ls 4 [(0, .ref (a0 0)), (1, .int x1), (2, .int x2), (3, .int x3)] → W p l e rmX9_sheet s m args below meth cd H locs 0 0 Q (F0 m 42 ls []) := by
    intro x1 x2 x3 s0 H locs ls h hP hD hS hl
    unfold fX9_sheet_b42 at h
    refine lv_aload_n (pc := 42) hx hb dX9_sheet_42 rfl (lv_at hl 0 rfl) ?_
    refine lv_iload_n (pc := 43) hx hb dX9_sheet_43 rfl (lv_at hl 1 rfl) ?_
    refine lv_iload_n (pc := 44) hx hb dX9_sheet_44 rfl (lv_at hl 2 rfl) ?_
    refine lv_iload_n (pc := 45) hx hb dX9_sheet_45 rfl (lv_at hl 3 rfl) ?_
    obtain ⟨t0_46, hc46, h⟩ := b1_i h
    refine g_all (st1 := []) (gr_V (n := 3) (rest := []) (pc := 46) hx hb hml hown hts (cX9_becomes_met l D c a0 x1 x2 x3 s0 _ hc46) gX9_sheet_X9_becomes rfl rfl rfl (by decide +kernel) rfl ⟨Nat.le_of_ble_eq_true rfl, Nat.le_of_ble_eq_true rfl⟩ ⟨Nat.zero_le _, Nat.zero_le _⟩ 0 9 rfl rfl rfl gT_ok hP hD hK (fun _ _ _ => trivial) hl.1 (Nat.le_of_ble_eq_true rfl) dX9_sheet_46 rfl) hD hS hA rfl (fun H locs hP hD hS => ?_)
    refine lv_iconst (v := 1) (pc := 49) hx hb dX9_sheet_49 (by decide) ?_
    have kr := KR (1 : Int32) t0_46 _ _ 50 ls h rfl hP hD hS dX9_sheet_50
    exact kr
  have J30 : ∀ (x1 : Int32) (x2 : Int32) (x3 : Int32) (s0 : Mem) (H : Heap) (locs : List Loc) (ls : Array Slot), fX9_sheet_b30 x1 x2 x3 s0 = some (r0, z0) → va_P D vwCl (wX9 a0 c s0) H → va_D A (wX9 a0 c s0) → va_S A s.heap H locs → lv_has ls 4 [(0, .ref (a0 0)), (1, .int x1), (2, .int x2), (3, .int x3)] → W p l e rmX9_sheet s m args below meth cd H locs 0 0 Q (F0 m 30 ls []) := by
    intro x1 x2 x3 s0 H locs ls h hP hD hS hl
    unfold fX9_sheet_b30 at h
    refine lv_iload_n (pc := 30) hx hb dX9_sheet_30 rfl (lv_at hl 2 rfl) ?_
    refine lv_iconst (v := -1) (pc := 31) hx hb dX9_sheet_31 (by decide) ?_
    refine lv_icmp_eq (tgt := 42) (pc := 32) hx hb dX9_sheet_32 (by decide) (fun c32 => ?_) (fun c32 => ?_)
    · replace h := it_t c32 h
      have jr := J42 x1 x2 x3 s0 _ _ ls h hP hD hS hl
      exact jr
    · replace h := it_f c32 h
      refine lv_iload_n (pc := 35) hx hb dX9_sheet_35 rfl (lv_at hl 3 rfl) ?_
      refine lv_if_ge (tgt := 42) (pc := 36) hx hb dX9_sheet_36 (by decide) (fun c36 => ?_) (fun c36 => ?_)
      · replace h := it_t c36 h
        have jr := J42 x1 x2 x3 s0 _ _ ls h hP hD hS hl
        exact jr
      · replace h := it_f c36 h
        refine lv_bipush (v := -14) (pc := 39) hx hb dX9_sheet_39 (by decide) ?_
        have kr := KR (-14 : Int32) s0 _ _ 41 ls h rfl hP hD hS dX9_sheet_41
        exact kr
  refine lv_iload_n (pc := 0) hx hb dX9_sheet_0 rfl (lv_at hl 1 rfl) ?_
  obtain ⟨r1, hc1, h⟩ := b1_i h
  refine g_none (st1 := [.int r1]) (gr_S (n := 1) (rest := []) (pc := 1) hx hb hml hown hts (cX9_isSheet_met l D c p0 _ hc1) gX9_sheet_X9_isSheet rfl rfl rfl (by decide +kernel) rfl ⟨Nat.le_of_ble_eq_true rfl, Nat.le_of_ble_eq_true rfl⟩ ⟨Nat.zero_le _, Nat.zero_le _⟩ gT_ok g_P0 (g_D0 (A := A)) hK (fun _ _ _ => trivial) hl.1 (Nat.le_of_ble_eq_true rfl) dX9_sheet_1 rfl) hP hS hA rfl (fun H locs hP hS => ?_)
  refine lv_if_eq (tgt := 27) (pc := 4) hx hb dX9_sheet_4 (by decide) (fun c4 => ?_) (fun c4 => ?_)
  · replace h := it_t c4 h
    refine lv_bipush (v := -2) (pc := 27) hx hb dX9_sheet_27 (by decide) ?_
    have kr := KR (-2 : Int32) s0 _ _ 29 ls h rfl hP hD hS dX9_sheet_29
    exact kr
  · replace h := it_f c4 h
    refine lv_iload_n (pc := 7) hx hb dX9_sheet_7 rfl (lv_at hl 2 rfl) ?_
    refine lv_iconst (v := -1) (pc := 8) hx hb dX9_sheet_8 (by decide) ?_
    refine lv_iconst (v := 1) (pc := 9) hx hb dX9_sheet_9 (by decide) ?_
    obtain ⟨r10, hc10, h⟩ := b1_i h
    refine g_none (st1 := [.int r10]) (gr_S (n := 3) (rest := []) (pc := 10) hx hb hml hown hts (cX9_isIn_met l D c p1 (-1 : Int32) (1 : Int32) _ hc10) gX9_sheet_X9_isIn rfl rfl rfl (by decide +kernel) rfl ⟨Nat.le_of_ble_eq_true rfl, Nat.le_of_ble_eq_true rfl⟩ ⟨Nat.zero_le _, Nat.zero_le _⟩ gT_ok g_P0 (g_D0 (A := A)) hK (fun _ _ _ => trivial) hl.1 (Nat.le_of_ble_eq_true rfl) dX9_sheet_10 rfl) hP hS hA rfl (fun H locs hP hS => ?_)
    refine lv_if_eq (tgt := 27) (pc := 13) hx hb dX9_sheet_13 (by decide) (fun c13 => ?_) (fun c13 => ?_)
    · replace h := it_t c13 h
      refine lv_bipush (v := -2) (pc := 27) hx hb dX9_sheet_27 (by decide) ?_
      have kr := KR (-2 : Int32) s0 _ _ 29 ls h rfl hP hD hS dX9_sheet_29
      exact kr
    · replace h := it_f c13 h
      refine lv_iload_n (pc := 16) hx hb dX9_sheet_16 rfl (lv_at hl 2 rfl) ?_
      refine lv_iconst (v := -1) (pc := 17) hx hb dX9_sheet_17 (by decide) ?_
      refine lv_icmp_eq (tgt := 30) (pc := 18) hx hb dX9_sheet_18 (by decide) (fun c18 => ?_) (fun c18 => ?_)
      · replace h := it_t c18 h
        have jr := J30 p0 p1 p2 s0 _ _ ls h hP hD hS hl
        exact jr
      · replace h := it_f c18 h
        refine lv_iload_n (pc := 21) hx hb dX9_sheet_21 rfl (lv_at hl 3 rfl) ?_
        refine lv_bipush (v := 40) (pc := 22) hx hb dX9_sheet_22 (by decide) ?_
        refine lv_icmp_le (tgt := 30) (pc := 24) hx hb dX9_sheet_24 (by decide) (fun c24 => ?_) (fun c24 => ?_)
        · replace h := it_t c24 h
          have jr := J30 p0 p1 p2 s0 _ _ ls h hP hD hS hl
          exact jr
        · replace h := it_f c24 h
          refine lv_bipush (v := -2) (pc := 27) hx hb dX9_sheet_27 (by decide) ?_
          have kr := KR (-2 : Int32) s0 _ _ 29 ls h rfl hP hD hS dX9_sheet_29
          exact kr
