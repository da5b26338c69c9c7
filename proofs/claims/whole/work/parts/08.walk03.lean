abbrev rmX0_insert : Room := { frames := 1, cells := 0, slots := 0, locals := 20 }
set_option maxRecDepth 100000 in
set_option maxHeartbeats 40000000 in
theorem cX0_insert_met (l : Launch) (D : va_G) (c : Nat → ClassId) (tb : Nat) (sa sv : Nat → Nat) (a0 : Nat → Nat) (p0 : Int32) (p1 : Int32) (p2 : Int32) (s0 : Mem) (z0 : Mem) (h : fX0_insert p0 p1 p2 s0 = some z0) : gM l yX0_insert wsX0_insert rmX0_insert D (gY c) (xE tb sa sv) [.ref (a0 0), .int p0, .int p1, .int p2] (wX0 a0 c s0) none (wX0 a0 c z0) := by
  unfold fX0_insert at h
  refine gM.V (cc := cX0_insert) (maxL := 5) (by decide) rfl (Nat.le_of_ble_eq_true rfl) ?_
  intro p e s m args below meth cd hx hb hml hown hts A hA ls hl hP hK hD hS hE Q KR0
  have hfX0 : ∀ w ∈ u_ws RX0 TX0 3, w.before args s = true := fun w hw => hts w (List.mem_cons_of_mem _ (List.mem_append_right _ hw))
  have lk0 := hts (.fieldLink RX0 16 "GlitchNets$Cover" "size" "I") (List.mem_of_getElem? (i := 1) rfl)
  have lk1 := hts (.fieldLink RX0 9 "GlitchNets$Cover" "cares" "[I") (List.mem_of_getElem? (i := 2) rfl)
  have lk2 := hts (.fieldLink RX0 13 "GlitchNets$Cover" "wants" "[I") (List.mem_of_getElem? (i := 3) rfl)
  have KR : ∀ (w0 : Mem) (H : Heap) (locs : List Loc) (pc : Nat) (ls : Array Slot), some w0 = some z0 → va_P D vwCl (wX0 a0 c w0) H → va_D A (wX0 a0 c w0) → va_S A s.heap H locs → decode cX0_insert pc = .ok (.return_, 1) → W p l e rmX0_insert s m args below meth cd H locs 0 0 Q (F0 m pc ls []) := by
    intro w0 H locs pc ls hr hP hD hS hd
    cases hr
    exact KR0 H locs pc ls hP hD hS hd
  have hl : lv_has ls 5 [(0, .ref (a0 0)), (1, .int p0), (2, .int p1), (3, .int p2)] := hl
  have J26 : ∀ (n : Nat) (x1 : Int32) (x2 : Int32) (x3 : Int32) (x4 : Int32) (s0 : Mem) (H : Heap) (locs : List Loc) (ls : Array Slot), fX0_insert_b26 n x1 x2 x3 x4 s0 = some z0 → va_P D vwCl (wX0 a0 c s0) H → va_D A (wX0 a0 c s0) → va_S A s.heap H locs → lv_has ls 5 [(0, .ref (a0 0)), (1, .int x1), (2, .int x2), (3, .int x3), (4, .int x4)] → W p l e rmX0_insert s m args below meth cd H locs 0 0 Q (F0 m 26 ls []) := by
    intro n
    induction n with
    | zero =>
      intro x1 x2 x3 x4 s0 H locs ls h _ _ _ _
      cases (show (none : Option (Mem)) = some _ from h)
    | succ n K26h =>
      intro x1 x2 x3 x4 s0 H locs ls h hP hD hS hl
      rw [fX0_insert_b26] at h
      refine lv_iload (pc := 26) hx hb dX0_insert_26 (lv_at hl 4 rfl) ?_
      refine lv_iload_n (pc := 28) hx hb dX0_insert_28 rfl (lv_at hl 1 rfl) ?_
      refine lv_icmp_le (tgt := 70) (pc := 29) hx hb dX0_insert_29 (by decide) (fun c29 => ?_) (fun c29 => ?_)
      · replace h := it_t c29 h
        refine lv_aload_n (pc := 70) hx hb dX0_insert_70 rfl (lv_at hl 0 rfl) ?_
        refine va_get (D := D) (ci := 0) (v := .ref (a0 1)) (C := RX0) (T := TX0) (N := 3) (pc := 71) hx hb hfX0 (fun _ h9 => h9) hown hK hP 0 rfl rfl 0 (by decide) lk1 (fun _ h9 => h9) rfl dX0_insert_71 ?_
        refine lv_iload_n (pc := 74) hx hb dX0_insert_74 rfl (lv_at hl 1 rfl) ?_
        refine lv_iload_n (pc := 75) hx hb dX0_insert_75 rfl (lv_at hl 2 rfl) ?_
        obtain ⟨hk76, h⟩ := ckI_i h
        refine va_iast (D := D) (f := (s0.1 0)) (pc := 76) hx hb hK hP hD hS 1 0 rfl rfl hk76 dX0_insert_76 (fun H locs hP hD hS => ?_)
        have hP : va_P D vwCl (wX0 a0 c (mi s0 0 (x1).toNatClampNeg x2)) H := hP
        have hD : va_D A (wX0 a0 c (mi s0 0 (x1).toNatClampNeg x2)) := hD
        refine lv_aload_n (pc := 77) hx hb dX0_insert_77 rfl (lv_at hl 0 rfl) ?_
        refine va_get (D := D) (ci := 0) (v := .ref (a0 2)) (C := RX0) (T := TX0) (N := 3) (pc := 78) hx hb hfX0 (fun _ h9 => h9) hown hK hP 0 rfl rfl 1 (by decide) lk2 (fun _ h9 => h9) rfl dX0_insert_78 ?_
        refine lv_iload_n (pc := 81) hx hb dX0_insert_81 rfl (lv_at hl 1 rfl) ?_
        refine lv_iload_n (pc := 82) hx hb dX0_insert_82 rfl (lv_at hl 3 rfl) ?_
        obtain ⟨hk83, h⟩ := ckI_i h
        refine va_iast (D := D) (f := ((mi s0 0 (x1).toNatClampNeg x2).1 1)) (pc := 83) hx hb hK hP hD hS 2 0 rfl rfl hk83 dX0_insert_83 (fun H locs hP hD hS => ?_)
        obtain ⟨m0_83, em0_83, h⟩ := lt_i h
        have hP : va_P D vwCl (wX0 a0 c m0_83) H := by rw [em0_83]; exact hP
        have hD : va_D A (wX0 a0 c m0_83) := by rw [em0_83]; exact hD
        refine lv_aload_n (pc := 84) hx hb dX0_insert_84 rfl (lv_at hl 0 rfl) ?_
        refine lv_dup (pc := 85) hx hb dX0_insert_85 rfl ?_
        refine va_get (D := D) (ci := 0) (v := .int (m0_83.1 2 0)) (C := RX0) (T := TX0) (N := 3) (pc := 86) hx hb hfX0 (fun _ h9 => h9) hown hK hP 0 rfl rfl 2 (by decide) lk0 (fun _ h9 => h9) rfl dX0_insert_86 ?_
        refine lv_iconst (v := 1) (pc := 89) hx hb dX0_insert_89 (by decide) ?_
        refine lv_iadd (pc := 90) hx hb dX0_insert_90 ?_
        refine va_put (D := D) (ci := 0) (v := .int ((m0_83.1 2 0) + (1 : Int32))) (ty := .int) (C := RX0) (T := TX0) (N := 3) (pc := 91) hx hb hfX0 (fun _ h9 => h9) tyX0 tyX0_ok nmX0 hown hK hP hD hS 0 rfl rfl 2 (by decide) lk0 (fun _ h9 => h9) rfl (by decide +kernel) rfl rfl (Nat.le_of_ble_eq_true rfl) dX0_insert_91 (fun H locs hP hD hS => ?_)
        have hP : va_P D vwCl (wX0 a0 c (mi m0_83 2 0 ((m0_83.1 2 0) + (1 : Int32)))) H := hP
        have hD : va_D A (wX0 a0 c (mi m0_83 2 0 ((m0_83.1 2 0) + (1 : Int32)))) := hD
        have kr := KR (mi m0_83 2 0 ((m0_83.1 2 0) + (1 : Int32))) _ _ 94 ls h hP hD hS dX0_insert_94
        exact kr
      · replace h := it_f c29 h
        refine lv_aload_n (pc := 32) hx hb dX0_insert_32 rfl (lv_at hl 0 rfl) ?_
        refine va_get (D := D) (ci := 0) (v := .ref (a0 1)) (C := RX0) (T := TX0) (N := 3) (pc := 33) hx hb hfX0 (fun _ h9 => h9) hown hK hP 0 rfl rfl 0 (by decide) lk1 (fun _ h9 => h9) rfl dX0_insert_33 ?_
        refine lv_iload (pc := 36) hx hb dX0_insert_36 (lv_at hl 4 rfl) ?_
        refine lv_aload_n (pc := 38) hx hb dX0_insert_38 rfl (lv_at hl 0 rfl) ?_
        refine va_get (D := D) (ci := 0) (v := .ref (a0 1)) (C := RX0) (T := TX0) (N := 3) (pc := 39) hx hb hfX0 (fun _ h9 => h9) hown hK hP 0 rfl rfl 0 (by decide) lk1 (fun _ h9 => h9) rfl dX0_insert_39 ?_
        refine lv_iload (pc := 42) hx hb dX0_insert_42 (lv_at hl 4 rfl) ?_
        refine lv_iconst (v := 1) (pc := 44) hx hb dX0_insert_44 (by decide) ?_
        refine lv_isub (pc := 45) hx hb dX0_insert_45 ?_
        obtain ⟨hk46, h⟩ := ckI_i h
        refine va_iald (D := D) (f := (s0.1 0)) (pc := 46) hx hb hK hP 1 0 rfl rfl hk46 dX0_insert_46 ?_
        obtain ⟨hk47, h⟩ := ckI_i h
        refine va_iast (D := D) (f := (s0.1 0)) (pc := 47) hx hb hK hP hD hS 1 0 rfl rfl hk47 dX0_insert_47 (fun H locs hP hD hS => ?_)
        have hP : va_P D vwCl (wX0 a0 c (mi s0 0 (x4).toNatClampNeg ((s0.1 0) ((x4 - (1 : Int32))).toNatClampNeg))) H := hP
        have hD : va_D A (wX0 a0 c (mi s0 0 (x4).toNatClampNeg ((s0.1 0) ((x4 - (1 : Int32))).toNatClampNeg))) := hD
        refine lv_aload_n (pc := 48) hx hb dX0_insert_48 rfl (lv_at hl 0 rfl) ?_
        refine va_get (D := D) (ci := 0) (v := .ref (a0 2)) (C := RX0) (T := TX0) (N := 3) (pc := 49) hx hb hfX0 (fun _ h9 => h9) hown hK hP 0 rfl rfl 1 (by decide) lk2 (fun _ h9 => h9) rfl dX0_insert_49 ?_
        refine lv_iload (pc := 52) hx hb dX0_insert_52 (lv_at hl 4 rfl) ?_
        refine lv_aload_n (pc := 54) hx hb dX0_insert_54 rfl (lv_at hl 0 rfl) ?_
        refine va_get (D := D) (ci := 0) (v := .ref (a0 2)) (C := RX0) (T := TX0) (N := 3) (pc := 55) hx hb hfX0 (fun _ h9 => h9) hown hK hP 0 rfl rfl 1 (by decide) lk2 (fun _ h9 => h9) rfl dX0_insert_55 ?_
        refine lv_iload (pc := 58) hx hb dX0_insert_58 (lv_at hl 4 rfl) ?_
        refine lv_iconst (v := 1) (pc := 60) hx hb dX0_insert_60 (by decide) ?_
        refine lv_isub (pc := 61) hx hb dX0_insert_61 ?_
        obtain ⟨hk62, h⟩ := ckI_i h
        refine va_iald (D := D) (f := ((mi s0 0 (x4).toNatClampNeg ((s0.1 0) ((x4 - (1 : Int32))).toNatClampNeg)).1 1)) (pc := 62) hx hb hK hP 2 0 rfl rfl hk62 dX0_insert_62 ?_
        obtain ⟨hk63, h⟩ := ckI_i h
        refine va_iast (D := D) (f := ((mi s0 0 (x4).toNatClampNeg ((s0.1 0) ((x4 - (1 : Int32))).toNatClampNeg)).1 1)) (pc := 63) hx hb hK hP hD hS 2 0 rfl rfl hk63 dX0_insert_63 (fun H locs hP hD hS => ?_)
        obtain ⟨m0_63, em0_63, h⟩ := lt_i h
        have hP : va_P D vwCl (wX0 a0 c m0_63) H := by rw [em0_63]; exact hP
        have hD : va_D A (wX0 a0 c m0_63) := by rw [em0_63]; exact hD
        obtain ⟨v4_64, ev4_64, h⟩ := lt_i h
        refine lv_iinc (v := v4_64) (lv' := [(4, .int v4_64), (0, .ref (a0 0)), (1, .int x1), (2, .int x2), (3, .int x3)]) (pc := 64) hx hb dX0_insert_64 hl (k := 4) rfl (by rw [ev4_64]; rfl) (by decide) rfl (fun ls hl => ?_)
        refine lv_goto (tgt := 26) (pc := 67) hx hb dX0_insert_67 (by decide) ?_
        have jr := K26h x1 x2 x3 v4_64 m0_63 _ _ ls h hP hD hS (lv_sub hl [1, 2, 3, 4, 0] rfl)
        exact jr
  refine lv_aload_n (pc := 0) hx hb dX0_insert_0 rfl (lv_at hl 0 rfl) ?_
  obtain ⟨r1, hc1, h⟩ := b1_i h
  refine g_all (st1 := [.int r1]) (gr_V (n := 0) (rest := []) (pc := 1) hx hb hml hown hts (cX0_isFull_met l D c tb sa sv a0 s0 _ hc1) gX0_insert_X0_isFull rfl rfl rfl (by decide +kernel) rfl ⟨Nat.le_of_ble_eq_true rfl, Nat.le_of_ble_eq_true rfl⟩ ⟨Nat.zero_le _, Nat.zero_le _⟩ 0 0 rfl rfl rfl xE_ok hP hD hK (xE_ok.tr hE hS (g_free hD hS hA)) hl.1 (Nat.le_of_ble_eq_true rfl) dX0_insert_1 rfl) hD hS hA rfl (fun H locs hP hD hS => ?_)
  refine lv_if_ne (tgt := 19) (pc := 4) hx hb dX0_insert_4 (by decide) (fun c4 => ?_) (fun c4 => ?_)
  · replace h := it_f c4 h
    have kr := KR s0 _ _ 19 ls h hP hD hS dX0_insert_19
    exact kr
  · replace h := it_t c4 h
    refine lv_iload_n (pc := 7) hx hb dX0_insert_7 rfl (lv_at hl 1 rfl) ?_
    refine lv_if_lt (tgt := 19) (pc := 8) hx hb dX0_insert_8 (by decide) (fun c8 => ?_) (fun c8 => ?_)
    · replace h := it_t c8 h
      have kr := KR s0 _ _ 19 ls h hP hD hS dX0_insert_19
      exact kr
    · replace h := it_f c8 h
      refine lv_iload_n (pc := 11) hx hb dX0_insert_11 rfl (lv_at hl 1 rfl) ?_
      refine lv_aload_n (pc := 12) hx hb dX0_insert_12 rfl (lv_at hl 0 rfl) ?_
      refine va_get (D := D) (ci := 0) (v := .int (s0.1 2 0)) (C := RX0) (T := TX0) (N := 3) (pc := 13) hx hb hfX0 (fun _ h9 => h9) hown hK hP 0 rfl rfl 2 (by decide) lk0 (fun _ h9 => h9) rfl dX0_insert_13 ?_
      refine lv_icmp_le (tgt := 20) (pc := 16) hx hb dX0_insert_16 (by decide) (fun c16 => ?_) (fun c16 => ?_)
      · replace h := it_t c16 h
        refine lv_aload_n (pc := 20) hx hb dX0_insert_20 rfl (lv_at hl 0 rfl) ?_
        refine va_get (D := D) (ci := 0) (v := .int (s0.1 2 0)) (C := RX0) (T := TX0) (N := 3) (pc := 21) hx hb hfX0 (fun _ h9 => h9) hown hK hP 0 rfl rfl 2 (by decide) lk0 (fun _ h9 => h9) rfl dX0_insert_21 ?_
        refine lv_topi (fun v4_24 ev4_24 => ?_)
        replace h := lt_e ev4_24 h
        refine lv_istore (lv' := [(4, .int v4_24), (0, .ref (a0 0)), (1, .int p0), (2, .int p1), (3, .int p2)]) (pc := 24) hx hb dX0_insert_24 hl (by decide) rfl (fun ls hl => ?_)
        have jr := J26 FU p0 p1 p2 v4_24 s0 _ _ ls h hP hD hS (lv_sub hl [1, 2, 3, 4, 0] rfl)
        exact jr
      · replace h := it_f c16 h
        have kr := KR s0 _ _ 19 ls h hP hD hS dX0_insert_19
        exact kr
abbrev rmX8_addTerm : Room := { frames := 2, cells := 0, slots := 0, locals := 45 }
set_option maxRecDepth 100000 in
set_option maxHeartbeats 40000000 in
theorem cX8_addTerm_met (l : Launch) (D : va_G) (c : Nat → ClassId) (tb : Nat) (sa sv : Nat → Nat) (a : Nat → Nat → Nat) (p0 : Int32) (p1 : Int32) (X : XS) (r0 : Int32) (z0 : XS) (h : fX8_addTerm p0 p1 X = some (r0, z0)) : gM l yX8_addTerm wsX8_addTerm rmX8_addTerm D (gY c) (xE tb sa sv) [.ref (a 0 0), .int p0, .int p1] (wX a c X) (some (.int r0)) (wX a c z0) := by
  unfold fX8_addTerm at h
  refine gM.I (cc := cX8_addTerm) (maxL := 4) (by decide) rfl (Nat.le_of_ble_eq_true rfl) ?_
  intro p e s m args below meth cd hx hb hml hown hts A hA ls hl hP hK hD hS hE Q KR0
  have hfX0 : ∀ w ∈ u_ws RX0 TX0 3, w.before args s = true := fun w hw => hts w (List.mem_cons_of_mem _ (List.mem_append_left _ (List.mem_append_right _ hw)))
  have hfX8 : ∀ w ∈ u_ws RX8 TX8 12, w.before args s = true := fun w hw => hts w (List.mem_cons_of_mem _ (List.mem_append_left _ (List.mem_append_left _ (List.mem_append_right _ hw))))
  have lk0 := hts (.fieldLink RX8 43 "GlitchNets" "cover" "LGlitchNets$Cover;") (List.mem_of_getElem? (i := 1) rfl)
  have lk1 := hts (.fieldLink RX8 206 "GlitchNets$Cover" "size" "I") (List.mem_of_getElem? (i := 2) rfl)
  have lk2 := hts (.fieldLink RX8 57 "GlitchNets" "deeds" "LGlitchNets$Deeds;") (List.mem_of_getElem? (i := 3) rfl)
  have hP := XP_iff.mp hP
  have hD := XD_of hD
  have KR : ∀ (v : Int32) (w0 : XS) (H : Heap) (locs : List Loc) (pc : Nat) (ls : Array Slot), some (v, w0) = some (r0, z0) → narrow .int (.int v) = .int v → XP D a c w0 H → va_S A s.heap H locs → decode cX8_addTerm pc = .ok (.ireturn, 1) → W p l e rmX8_addTerm s m args below meth cd H locs 0 0 Q (F0 m pc ls [.int v]) := by
    intro v w0 H locs pc ls hr hn hP hS hd
    cases hr
    exact KR0 _ H locs pc ls rfl hn (XP_iff.mpr hP) (hD.all c _) hS hd
  have hl : lv_has ls 4 [(0, .ref (a 0 0)), (1, .int p0), (2, .int p1)] := hl
  refine lv_iload_n (pc := 0) hx hb dX8_addTerm_0 rfl (lv_at hl 1 rfl) ?_
  obtain ⟨r1, hc1, h⟩ := b1_i h
  refine g_noneX (st1 := [.int r1]) (gr_S (n := 1) (rest := []) (pc := 1) hx hb hml hown hts (cX8_isStand_met l D c tb sa sv p0 _ hc1) gX8_addTerm_X8_isStand rfl rfl rfl (by decide +kernel) rfl ⟨Nat.le_of_ble_eq_true rfl, Nat.le_of_ble_eq_true rfl⟩ ⟨Nat.zero_le _, Nat.zero_le _⟩ xE_ok g_P0 (g_D0 (A := A)) hK (xE_ok.tr hE hS (g_free0 hS hA)) hl.1 (Nat.le_of_ble_eq_true rfl) dX8_addTerm_1 rfl) hP hS hA rfl (fun H locs hP hS => ?_)
  refine lv_if_eq (tgt := 15) (pc := 4) hx hb dX8_addTerm_4 (by decide) (fun c4 => ?_) (fun c4 => ?_)
  · replace h := it_t c4 h
    refine lv_bipush (v := -2) (pc := 15) hx hb dX8_addTerm_15 (by decide) ?_
    have kr := KR (-2 : Int32) X _ _ 17 ls h rfl hP hS dX8_addTerm_17
    exact kr
  · replace h := it_f c4 h
    refine lv_iload_n (pc := 7) hx hb dX8_addTerm_7 rfl (lv_at hl 2 rfl) ?_
    refine lv_iload_n (pc := 8) hx hb dX8_addTerm_8 rfl (lv_at hl 1 rfl) ?_
    refine lv_iconst (v := -1) (pc := 9) hx hb dX8_addTerm_9 (by decide) ?_
    refine lv_ixor (pc := 10) hx hb dX8_addTerm_10 ?_
    refine lv_iand (pc := 11) hx hb dX8_addTerm_11 ?_
    refine lv_if_eq (tgt := 18) (pc := 12) hx hb dX8_addTerm_12 (by decide) (fun c12 => ?_) (fun c12 => ?_)
    · replace h := it_t c12 h
      refine lv_aload_n (pc := 18) hx hb dX8_addTerm_18 rfl (lv_at hl 0 rfl) ?_
      refine va_get (D := D) (ci := 8) (v := .ref ((a 6) 0)) (C := RX8) (T := TX8) (N := 12) (pc := 19) hx hb hfX8 (fun _ h9 => h9) hown hK (show va_P D vwCl (wX8 a c (X 0)) _ from hP 0 (by decide)) 0 rfl rfl 5 (by decide) lk0 (fun _ h9 => h9) rfl dX8_addTerm_19 ?_
      obtain ⟨r22, hc22, h⟩ := b1_i h
      have hw : (wX0 (a 6) c (X 6)).map (·.1) = [6].flatMap (uA a) := rfl
      have hPc : va_P D vwCl (wX0 (a 6) c (X 6)) _ := hP 6 (by decide)
      have hDc : va_D A (wX0 (a 6) c (X 6)) := hD.of_addr (by decide) (by decide) hw
      refine g_X (X' := X) (st1 := [.int r22]) (gr_V (n := 0) (rest := []) (pc := 22) hx hb hml hown hts (cX0_isFull_met l D c tb sa sv (a 6) (X 6) _ hc22) gX8_addTerm_X0_isFull rfl rfl rfl (by decide +kernel) rfl ⟨Nat.le_of_ble_eq_true rfl, Nat.le_of_ble_eq_true rfl⟩ ⟨Nat.zero_le _, Nat.zero_le _⟩ 0 0 rfl rfl rfl xE_ok hPc hDc hK (xE_ok.tr hE hS (g_freeX hD hS hA (by decide) (addr0 hw))) hl.1 (Nat.le_of_ble_eq_true rfl) dX8_addTerm_22 rfl) hP hD hS hA (ks := [6]) (by decide) (addr0 hw) (fun k9 _ hk9 => rfl) (fun H1 hw1 => (List.forall_mem_cons.mpr ⟨hw1, (fun _ h9 => absurd h9 List.not_mem_nil)⟩)) rfl (fun H locs hP hS => ?_)
      refine lv_if_eq (tgt := 31) (pc := 25) hx hb dX8_addTerm_25 (by decide) (fun c25 => ?_) (fun c25 => ?_)
      · replace h := it_t c25 h
        refine lv_aload_n (pc := 31) hx hb dX8_addTerm_31 rfl (lv_at hl 0 rfl) ?_
        refine va_get (D := D) (ci := 8) (v := .ref ((a 6) 0)) (C := RX8) (T := TX8) (N := 12) (pc := 32) hx hb hfX8 (fun _ h9 => h9) hown hK (show va_P D vwCl (wX8 a c (X 0)) _ from hP 0 (by decide)) 0 rfl rfl 5 (by decide) lk0 (fun _ h9 => h9) rfl dX8_addTerm_32 ?_
        refine va_get (D := D) (ci := 0) (v := .int ((X 6).1 2 0)) (C := RX0) (T := TX0) (N := 3) (pc := 35) hx hb hfX0 (fun _ h9 => h9) hown hK (show va_P D vwCl (wX0 (a 6) c (X 6)) _ from hP 6 (by decide)) 0 rfl rfl 2 (by decide) lk1 (fun _ h9 => h9) rfl dX8_addTerm_35 ?_
        refine lv_topi (fun v3_38 ev3_38 => ?_)
        replace h := lt_e ev3_38 h
        refine lv_istore_n (lv' := [(3, .int v3_38), (0, .ref (a 0 0)), (1, .int p0), (2, .int p1)]) (pc := 38) hx hb dX8_addTerm_38 rfl hl (by decide) rfl (fun ls hl => ?_)
        refine lv_aload_n (pc := 39) hx hb dX8_addTerm_39 rfl (lv_at hl 1 rfl) ?_
        refine va_get (D := D) (ci := 8) (v := .ref ((a 6) 0)) (C := RX8) (T := TX8) (N := 12) (pc := 40) hx hb hfX8 (fun _ h9 => h9) hown hK (show va_P D vwCl (wX8 a c (X 0)) _ from hP 0 (by decide)) 0 rfl rfl 5 (by decide) lk0 (fun _ h9 => h9) rfl dX8_addTerm_40 ?_
        refine lv_iload_n (pc := 43) hx hb dX8_addTerm_43 rfl (lv_at hl 0 rfl) ?_
        refine lv_iload_n (pc := 44) hx hb dX8_addTerm_44 rfl (lv_at hl 2 rfl) ?_
        refine lv_iload_n (pc := 45) hx hb dX8_addTerm_45 rfl (lv_at hl 3 rfl) ?_
        obtain ⟨t0_46, hc46, h⟩ := b1_i h
        have hw : (wX0 (a 6) c (X 6)).map (·.1) = [6].flatMap (uA a) := rfl
        have hPc : va_P D vwCl (wX0 (a 6) c (X 6)) _ := hP 6 (by decide)
        have hDc : va_D A (wX0 (a 6) c (X 6)) := hD.of_addr (by decide) (by decide) hw
        refine g_X (X' := (xs X 6 t0_46)) (st1 := []) (gr_V (n := 3) (rest := []) (pc := 46) hx hb hml hown hts (cX0_insert_met l D c tb sa sv (a 6) v3_38 p0 p1 (X 6) _ hc46) gX8_addTerm_X0_insert rfl rfl rfl (by decide +kernel) rfl ⟨Nat.le_of_ble_eq_true rfl, Nat.le_of_ble_eq_true rfl⟩ ⟨Nat.zero_le _, Nat.zero_le _⟩ 0 0 rfl rfl rfl xE_ok hPc hDc hK (xE_ok.tr hE hS (g_freeX hD hS hA (by decide) (addr0 hw))) hl.1 (Nat.le_of_ble_eq_true rfl) dX8_addTerm_46 rfl) hP hD hS hA (ks := [6]) (by decide) (addr0 hw) (fun k9 _ hk9 => (xs_o hk9 (j := 6) (by decide))) (fun H1 hw1 => (List.forall_mem_cons.mpr ⟨hw1, (fun _ h9 => absurd h9 List.not_mem_nil)⟩)) rfl (fun H locs hP hS => ?_)
        refine lv_aload_n (pc := 49) hx hb dX8_addTerm_49 rfl (lv_at hl 1 rfl) ?_
        refine va_get (D := D) (ci := 8) (v := .ref ((a 8) 0)) (C := RX8) (T := TX8) (N := 12) (pc := 50) hx hb hfX8 (fun _ h9 => h9) hown hK (show va_P D vwCl (wX8 a c ((xs X 6 t0_46) 0)) _ from hP 0 (by decide)) 0 rfl rfl 7 (by decide) lk2 (fun _ h9 => h9) rfl dX8_addTerm_50 ?_
        refine lv_iconst (v := 2) (pc := 53) hx hb dX8_addTerm_53 (by decide) ?_
        refine lv_iload_n (pc := 54) hx hb dX8_addTerm_54 rfl (lv_at hl 0 rfl) ?_
        refine lv_iconst (v := 0) (pc := 55) hx hb dX8_addTerm_55 (by decide) ?_
        refine lv_iconst (v := 0) (pc := 56) hx hb dX8_addTerm_56 (by decide) ?_
        obtain ⟨t0_57, hc57, h⟩ := b1_i h
        have hw : (wX1 (a 8) c ((xs X 6 t0_46) 8)).map (·.1) = [8].flatMap (uA a) := rfl
        have hPc : va_P D vwCl (wX1 (a 8) c ((xs X 6 t0_46) 8)) _ := hP 8 (by decide)
        have hDc : va_D A (wX1 (a 8) c ((xs X 6 t0_46) 8)) := hD.of_addr (by decide) (by decide) hw
        refine g_X (X' := (xs (xs X 6 t0_46) 8 t0_57)) (st1 := []) (gr_V (n := 4) (rest := []) (pc := 57) hx hb hml hown hts (cX1_note_met l D c tb sa sv (a 8) (2 : Int32) v3_38 (0 : Int32) (0 : Int32) ((xs X 6 t0_46) 8) _ hc57) gX8_addTerm_X1_note rfl rfl rfl (by decide +kernel) rfl ⟨Nat.le_of_ble_eq_true rfl, Nat.le_of_ble_eq_true rfl⟩ ⟨Nat.zero_le _, Nat.zero_le _⟩ 0 1 rfl rfl rfl xE_ok hPc hDc hK (xE_ok.tr hE hS (g_freeX hD hS hA (by decide) (addr0 hw))) hl.1 (Nat.le_of_ble_eq_true rfl) dX8_addTerm_57 rfl) hP hD hS hA (ks := [8]) (by decide) (addr0 hw) (fun k9 _ hk9 => (xs_o hk9 (j := 8) (by decide))) (fun H1 hw1 => (List.forall_mem_cons.mpr ⟨hw1, (fun _ h9 => absurd h9 List.not_mem_nil)⟩)) rfl (fun H locs hP hS => ?_)
        refine lv_iload_n (pc := 60) hx hb dX8_addTerm_60 rfl (lv_at hl 0 rfl) ?_
        have kr := KR v3_38 (xs (xs X 6 t0_46) 8 t0_57) _ _ 61 ls h rfl hP hS dX8_addTerm_61
        exact kr
      · replace h := it_f c25 h
        refine lv_bipush (v := -4) (pc := 28) hx hb dX8_addTerm_28 (by decide) ?_
        have kr := KR (-4 : Int32) X _ _ 30 ls h rfl hP hS dX8_addTerm_30
        exact kr
    · replace h := it_f c12 h
      refine lv_bipush (v := -2) (pc := 15) hx hb dX8_addTerm_15 (by decide) ?_
      have kr := KR (-2 : Int32) X _ _ 17 ls h rfl hP hS dX8_addTerm_17
      exact kr
abbrev rmX8_term : Room := { frames := 3, cells := 0, slots := 0, locals := 68 }
set_option maxRecDepth 100000 in
set_option maxHeartbeats 40000000 in
theorem cX8_term_met (l : Launch) (D : va_G) (c : Nat → ClassId) (tb : Nat) (sa sv : Nat → Nat) (a : Nat → Nat → Nat) (p0 : Int32) (p1 : Int32) (X : XS) (r0 : Int32) (z0 : XS) (h : fX8_term p0 p1 X = some (r0, z0)) : gM l yX8_term wsX8_term rmX8_term D (gY c) (xE tb sa sv) [.ref (a 0 0), .int p0, .int p1] (wX a c X) (some (.int r0)) (wX a c z0) := by
  unfold fX8_term at h
  refine gM.I (cc := cX8_term) (maxL := 3) (by decide) rfl (Nat.le_of_ble_eq_true rfl) ?_
  intro p e s m args below meth cd hx hb hml hown hts A hA ls hl hP hK hD hS hE Q KR0
  have hP := XP_iff.mp hP
  have hD := XD_of hD
  have KR : ∀ (v : Int32) (w0 : XS) (H : Heap) (locs : List Loc) (pc : Nat) (ls : Array Slot), some (v, w0) = some (r0, z0) → narrow .int (.int v) = .int v → XP D a c w0 H → va_S A s.heap H locs → decode cX8_term pc = .ok (.ireturn, 1) → W p l e rmX8_term s m args below meth cd H locs 0 0 Q (F0 m pc ls [.int v]) := by
    intro v w0 H locs pc ls hr hn hP hS hd
    cases hr
    exact KR0 _ H locs pc ls rfl hn (XP_iff.mpr hP) (hD.all c _) hS hd
  have hl : lv_has ls 3 [(0, .ref (a 0 0)), (1, .int p0), (2, .int p1)] := hl
  refine lv_aload_n (pc := 0) hx hb dX8_term_0 rfl (lv_at hl 0 rfl) ?_
  refine lv_iload_n (pc := 1) hx hb dX8_term_1 rfl (lv_at hl 1 rfl) ?_
  refine lv_iload_n (pc := 2) hx hb dX8_term_2 rfl (lv_at hl 2 rfl) ?_
  obtain ⟨r3, t0_3, hc3, h⟩ := b2_i h
  refine g_allX (st1 := [.int r3]) (gr_V (n := 2) (rest := []) (pc := 3) hx hb hml hown hts (cX8_addTerm_met l D c tb sa sv a p0 p1 X _ _ hc3) gX8_term_X8_addTerm rfl rfl rfl (by decide +kernel) rfl ⟨Nat.le_of_ble_eq_true rfl, Nat.le_of_ble_eq_true rfl⟩ ⟨Nat.zero_le _, Nat.zero_le _⟩ 0 8 rfl rfl rfl xE_ok (XP_iff.mpr hP) (hD.all c X) hK (xE_ok.tr hE hS (g_free (hD.all c X) hS hA)) hl.1 (Nat.le_of_ble_eq_true rfl) dX8_term_3 rfl) hD hS hA rfl (fun H locs hP hS => ?_)
  have kr := KR r3 t0_3 _ _ 6 ls h rfl hP hS dX8_term_6
  exact kr
abbrev rmX0_has : Room := { frames := 0, cells := 0, slots := 0, locals := 0 }
set_option maxRecDepth 100000 in
set_option maxHeartbeats 40000000 in
theorem cX0_has_met (l : Launch) (D : va_G) (c : Nat → ClassId) (tb : Nat) (sa sv : Nat → Nat) (a0 : Nat → Nat) (p0 : Int32) (s0 : Mem) (r0 : Int32) (h : fX0_has p0 s0 = some r0) : gM l yX0_has wsX0_has rmX0_has D (gY c) (xE tb sa sv) [.ref (a0 0), .int p0] (wX0 a0 c s0) (some (.int r0)) (wX0 a0 c s0) := by
  unfold fX0_has at h
  refine gM.I (cc := cX0_has) (maxL := 2) (by decide) rfl (Nat.le_of_ble_eq_true rfl) ?_
  intro p e s m args below meth cd hx hb hml hown hts A hA ls hl hP hK hD hS hE Q KR0
  have hfX0 : ∀ w ∈ u_ws RX0 TX0 3, w.before args s = true := fun w hw => hts w (List.mem_cons_of_mem _ (List.mem_append_right _ hw))
  have lk0 := hts (.fieldLink RX0 16 "GlitchNets$Cover" "size" "I") (List.mem_of_getElem? (i := 1) rfl)
  have KR : ∀ (v : Int32)  (H : Heap) (locs : List Loc) (pc : Nat) (ls : Array Slot), some v = some r0 → narrow .boolean (.int v) = .int v → va_P D vwCl (wX0 a0 c s0) H → va_D A (wX0 a0 c s0) → va_S A s.heap H locs → decode cX0_has pc = .ok (.ireturn, 1) → W p l e rmX0_has s m args below meth cd H locs 0 0 Q (F0 m pc ls [.int v]) := by
    intro v  H locs pc ls hr hn hP hD hS hd
    cases hr
    exact KR0 _ H locs pc ls rfl hn hP hD hS hd
  have hl : lv_has ls 2 [(0, .ref (a0 0)), (1, .int p0)] := hl
  refine lv_iload_n (pc := 0) hx hb dX0_has_0 rfl (lv_at hl 1 rfl) ?_
  refine lv_if_lt (tgt := 16) (pc := 1) hx hb dX0_has_1 (by decide) (fun c1 => ?_) (fun c1 => ?_)
  · replace h := it_t c1 h
    refine lv_iconst (v := 0) (pc := 16) hx hb dX0_has_16 (by decide) ?_
    have kr := KR (0 : Int32)  _ _ 17 ls h rfl hP hD hS dX0_has_17
    exact kr
  · replace h := it_f c1 h
    refine lv_iload_n (pc := 4) hx hb dX0_has_4 rfl (lv_at hl 1 rfl) ?_
    refine lv_aload_n (pc := 5) hx hb dX0_has_5 rfl (lv_at hl 0 rfl) ?_
    refine va_get (D := D) (ci := 0) (v := .int (s0.1 2 0)) (C := RX0) (T := TX0) (N := 3) (pc := 6) hx hb hfX0 (fun _ h9 => h9) hown hK hP 0 rfl rfl 2 (by decide) lk0 (fun _ h9 => h9) rfl dX0_has_6 ?_
    refine lv_icmp_ge (tgt := 16) (pc := 9) hx hb dX0_has_9 (by decide) (fun c9 => ?_) (fun c9 => ?_)
    · replace h := it_t c9 h
      refine lv_iconst (v := 0) (pc := 16) hx hb dX0_has_16 (by decide) ?_
      have kr := KR (0 : Int32)  _ _ 17 ls h rfl hP hD hS dX0_has_17
      exact kr
    · replace h := it_f c9 h
      refine lv_iconst (v := 1) (pc := 12) hx hb dX0_has_12 (by decide) ?_
      refine lv_goto (tgt := 17) (pc := 13) hx hb dX0_has_13 (by decide) ?_
      have kr := KR (1 : Int32)  _ _ 17 ls h rfl hP hD hS dX0_has_17
      exact kr
abbrev rmX0_remove : Room := { frames := 1, cells := 0, slots := 0, locals := 21 }
set_option maxRecDepth 100000 in
set_option maxHeartbeats 40000000 in
theorem cX0_remove_met (l : Launch) (D : va_G) (c : Nat → ClassId) (tb : Nat) (sa sv : Nat → Nat) (a0 : Nat → Nat) (p0 : Int32) (s0 : Mem) (z0 : Mem) (h : fX0_remove p0 s0 = some z0) : gM l yX0_remove wsX0_remove rmX0_remove D (gY c) (xE tb sa sv) [.ref (a0 0), .int p0] (wX0 a0 c s0) none (wX0 a0 c z0) := by
  unfold fX0_remove at h
  refine gM.V (cc := cX0_remove) (maxL := 3) (by decide) rfl (Nat.le_of_ble_eq_true rfl) ?_
  intro p e s m args below meth cd hx hb hml hown hts A hA ls hl hP hK hD hS hE Q KR0
  have hfX0 : ∀ w ∈ u_ws RX0 TX0 3, w.before args s = true := fun w hw => hts w (List.mem_cons_of_mem _ (List.mem_append_right _ hw))
  have lk0 := hts (.fieldLink RX0 16 "GlitchNets$Cover" "size" "I") (List.mem_of_getElem? (i := 1) rfl)
  have lk1 := hts (.fieldLink RX0 9 "GlitchNets$Cover" "cares" "[I") (List.mem_of_getElem? (i := 2) rfl)
  have lk2 := hts (.fieldLink RX0 13 "GlitchNets$Cover" "wants" "[I") (List.mem_of_getElem? (i := 3) rfl)
  have KR : ∀ (w0 : Mem) (H : Heap) (locs : List Loc) (pc : Nat) (ls : Array Slot), some w0 = some z0 → va_P D vwCl (wX0 a0 c w0) H → va_D A (wX0 a0 c w0) → va_S A s.heap H locs → decode cX0_remove pc = .ok (.return_, 1) → W p l e rmX0_remove s m args below meth cd H locs 0 0 Q (F0 m pc ls []) := by
    intro w0 H locs pc ls hr hP hD hS hd
    cases hr
    exact KR0 H locs pc ls hP hD hS hd
  have hl : lv_has ls 3 [(0, .ref (a0 0)), (1, .int p0)] := hl
  have J21 : ∀ (n : Nat) (x2 : Int32) (s0 : Mem) (H : Heap) (locs : List Loc) (ls : Array Slot), fX0_remove_b21 n x2 s0 = some z0 → va_P D vwCl (wX0 a0 c s0) H → va_D A (wX0 a0 c s0) → va_S A s.heap H locs → lv_has ls 3 [(0, .ref (a0 0)), (2, .int x2)] → W p l e rmX0_remove s m args below meth cd H locs 0 0 Q (F0 m 21 ls []) := by
    intro n
    induction n with
    | zero =>
      intro x2 s0 H locs ls h _ _ _ _
      cases (show (none : Option (Mem)) = some _ from h)
    | succ n K21h =>
      intro x2 s0 H locs ls h hP hD hS hl
      rw [fX0_remove_b21] at h
      refine lv_iload_n (pc := 21) hx hb dX0_remove_21 rfl (lv_at hl 1 rfl) ?_
      refine lv_aload_n (pc := 22) hx hb dX0_remove_22 rfl (lv_at hl 0 rfl) ?_
      refine va_get (D := D) (ci := 0) (v := .int (s0.1 2 0)) (C := RX0) (T := TX0) (N := 3) (pc := 23) hx hb hfX0 (fun _ h9 => h9) hown hK hP 0 rfl rfl 2 (by decide) lk0 (fun _ h9 => h9) rfl dX0_remove_23 ?_
      refine lv_icmp_ge (tgt := 63) (pc := 26) hx hb dX0_remove_26 (by decide) (fun c26 => ?_) (fun c26 => ?_)
      · replace h := it_t c26 h
        have kr := KR s0 _ _ 63 ls h hP hD hS dX0_remove_63
        exact kr
      · replace h := it_f c26 h
        refine lv_aload_n (pc := 29) hx hb dX0_remove_29 rfl (lv_at hl 0 rfl) ?_
        refine va_get (D := D) (ci := 0) (v := .ref (a0 1)) (C := RX0) (T := TX0) (N := 3) (pc := 30) hx hb hfX0 (fun _ h9 => h9) hown hK hP 0 rfl rfl 0 (by decide) lk1 (fun _ h9 => h9) rfl dX0_remove_30 ?_
        refine lv_iload_n (pc := 33) hx hb dX0_remove_33 rfl (lv_at hl 1 rfl) ?_
        refine lv_aload_n (pc := 34) hx hb dX0_remove_34 rfl (lv_at hl 0 rfl) ?_
        refine va_get (D := D) (ci := 0) (v := .ref (a0 1)) (C := RX0) (T := TX0) (N := 3) (pc := 35) hx hb hfX0 (fun _ h9 => h9) hown hK hP 0 rfl rfl 0 (by decide) lk1 (fun _ h9 => h9) rfl dX0_remove_35 ?_
        refine lv_iload_n (pc := 38) hx hb dX0_remove_38 rfl (lv_at hl 1 rfl) ?_
        refine lv_iconst (v := 1) (pc := 39) hx hb dX0_remove_39 (by decide) ?_
        refine lv_iadd (pc := 40) hx hb dX0_remove_40 ?_
        obtain ⟨hk41, h⟩ := ckI_i h
        refine va_iald (D := D) (f := (s0.1 0)) (pc := 41) hx hb hK hP 1 0 rfl rfl hk41 dX0_remove_41 ?_
        obtain ⟨hk42, h⟩ := ckI_i h
        refine va_iast (D := D) (f := (s0.1 0)) (pc := 42) hx hb hK hP hD hS 1 0 rfl rfl hk42 dX0_remove_42 (fun H locs hP hD hS => ?_)
        have hP : va_P D vwCl (wX0 a0 c (mi s0 0 (x2).toNatClampNeg ((s0.1 0) ((x2 + (1 : Int32))).toNatClampNeg))) H := hP
        have hD : va_D A (wX0 a0 c (mi s0 0 (x2).toNatClampNeg ((s0.1 0) ((x2 + (1 : Int32))).toNatClampNeg))) := hD
        refine lv_aload_n (pc := 43) hx hb dX0_remove_43 rfl (lv_at hl 0 rfl) ?_
        refine va_get (D := D) (ci := 0) (v := .ref (a0 2)) (C := RX0) (T := TX0) (N := 3) (pc := 44) hx hb hfX0 (fun _ h9 => h9) hown hK hP 0 rfl rfl 1 (by decide) lk2 (fun _ h9 => h9) rfl dX0_remove_44 ?_
        refine lv_iload_n (pc := 47) hx hb dX0_remove_47 rfl (lv_at hl 1 rfl) ?_
        refine lv_aload_n (pc := 48) hx hb dX0_remove_48 rfl (lv_at hl 0 rfl) ?_
        refine va_get (D := D) (ci := 0) (v := .ref (a0 2)) (C := RX0) (T := TX0) (N := 3) (pc := 49) hx hb hfX0 (fun _ h9 => h9) hown hK hP 0 rfl rfl 1 (by decide) lk2 (fun _ h9 => h9) rfl dX0_remove_49 ?_
        refine lv_iload_n (pc := 52) hx hb dX0_remove_52 rfl (lv_at hl 1 rfl) ?_
        refine lv_iconst (v := 1) (pc := 53) hx hb dX0_remove_53 (by decide) ?_
        refine lv_iadd (pc := 54) hx hb dX0_remove_54 ?_
        obtain ⟨hk55, h⟩ := ckI_i h
        refine va_iald (D := D) (f := ((mi s0 0 (x2).toNatClampNeg ((s0.1 0) ((x2 + (1 : Int32))).toNatClampNeg)).1 1)) (pc := 55) hx hb hK hP 2 0 rfl rfl hk55 dX0_remove_55 ?_
        obtain ⟨hk56, h⟩ := ckI_i h
        refine va_iast (D := D) (f := ((mi s0 0 (x2).toNatClampNeg ((s0.1 0) ((x2 + (1 : Int32))).toNatClampNeg)).1 1)) (pc := 56) hx hb hK hP hD hS 2 0 rfl rfl hk56 dX0_remove_56 (fun H locs hP hD hS => ?_)
        obtain ⟨m0_56, em0_56, h⟩ := lt_i h
        have hP : va_P D vwCl (wX0 a0 c m0_56) H := by rw [em0_56]; exact hP
        have hD : va_D A (wX0 a0 c m0_56) := by rw [em0_56]; exact hD
        obtain ⟨v2_57, ev2_57, h⟩ := lt_i h
        refine lv_iinc (v := v2_57) (lv' := [(2, .int v2_57), (0, .ref (a0 0))]) (pc := 57) hx hb dX0_remove_57 hl (k := 1) rfl (by rw [ev2_57]; rfl) (by decide) rfl (fun ls hl => ?_)
        refine lv_goto (tgt := 21) (pc := 60) hx hb dX0_remove_60 (by decide) ?_
        have jr := K21h v2_57 m0_56 _ _ ls h hP hD hS (lv_sub hl [1, 0] rfl)
        exact jr
  refine lv_aload_n (pc := 0) hx hb dX0_remove_0 rfl (lv_at hl 0 rfl) ?_
  refine lv_iload_n (pc := 1) hx hb dX0_remove_1 rfl (lv_at hl 1 rfl) ?_
  obtain ⟨r2, hc2, h⟩ := b1_i h
  refine g_all (st1 := [.int r2]) (gr_V (n := 1) (rest := []) (pc := 2) hx hb hml hown hts (cX0_has_met l D c tb sa sv a0 p0 s0 _ hc2) gX0_remove_X0_has rfl rfl rfl (by decide +kernel) rfl ⟨Nat.le_of_ble_eq_true rfl, Nat.le_of_ble_eq_true rfl⟩ ⟨Nat.zero_le _, Nat.zero_le _⟩ 0 0 rfl rfl rfl xE_ok hP hD hK (xE_ok.tr hE hS (g_free hD hS hA)) hl.1 (Nat.le_of_ble_eq_true rfl) dX0_remove_2 rfl) hD hS hA rfl (fun H locs hP hD hS => ?_)
  refine lv_if_ne (tgt := 9) (pc := 5) hx hb dX0_remove_5 (by decide) (fun c5 => ?_) (fun c5 => ?_)
  · replace h := it_f c5 h
    refine lv_aload_n (pc := 9) hx hb dX0_remove_9 rfl (lv_at hl 0 rfl) ?_
    refine lv_dup (pc := 10) hx hb dX0_remove_10 rfl ?_
    refine va_get (D := D) (ci := 0) (v := .int (s0.1 2 0)) (C := RX0) (T := TX0) (N := 3) (pc := 11) hx hb hfX0 (fun _ h9 => h9) hown hK hP 0 rfl rfl 2 (by decide) lk0 (fun _ h9 => h9) rfl dX0_remove_11 ?_
    refine lv_iconst (v := 1) (pc := 14) hx hb dX0_remove_14 (by decide) ?_
    refine lv_isub (pc := 15) hx hb dX0_remove_15 ?_
    refine va_put (D := D) (ci := 0) (v := .int ((s0.1 2 0) - (1 : Int32))) (ty := .int) (C := RX0) (T := TX0) (N := 3) (pc := 16) hx hb hfX0 (fun _ h9 => h9) tyX0 tyX0_ok nmX0 hown hK hP hD hS 0 rfl rfl 2 (by decide) lk0 (fun _ h9 => h9) rfl (by decide +kernel) rfl rfl (Nat.le_of_ble_eq_true rfl) dX0_remove_16 (fun H locs hP hD hS => ?_)
    have hP : va_P D vwCl (wX0 a0 c (mi s0 2 0 ((s0.1 2 0) - (1 : Int32)))) H := hP
    have hD : va_D A (wX0 a0 c (mi s0 2 0 ((s0.1 2 0) - (1 : Int32)))) := hD
    refine lv_iload_n (pc := 19) hx hb dX0_remove_19 rfl (lv_at hl 1 rfl) ?_
    refine lv_istore_n (lv' := [(2, .int p0), (0, .ref (a0 0)), (1, .int p0)]) (pc := 20) hx hb dX0_remove_20 rfl hl (by decide) rfl (fun ls hl => ?_)
    have jr := J21 FU p0 ((mi s0 2 0 ((s0.1 2 0) - (1 : Int32)))) _ _ ls h hP hD hS (lv_sub hl [1, 0] rfl)
    exact jr
  · replace h := it_t c5 h
    have kr := KR s0 _ _ 8 ls h hP hD hS dX0_remove_8
    exact kr
abbrev rmX8_off : Room := { frames := 2, cells := 0, slots := 0, locals := 45 }
set_option maxRecDepth 100000 in
set_option maxHeartbeats 40000000 in
theorem cX8_off_met (l : Launch) (D : va_G) (c : Nat → ClassId) (tb : Nat) (sa sv : Nat → Nat) (a : Nat → Nat → Nat) (p0 : Int32) (X : XS) (r0 : Int32) (z0 : XS) (h : fX8_off p0 X = some (r0, z0)) : gM l yX8_off wsX8_off rmX8_off D (gY c) (xE tb sa sv) [.ref (a 0 0), .int p0] (wX a c X) (some (.int r0)) (wX a c z0) := by
  unfold fX8_off at h
  refine gM.I (cc := cX8_off) (maxL := 2) (by decide) rfl (Nat.le_of_ble_eq_true rfl) ?_
  intro p e s m args below meth cd hx hb hml hown hts A hA ls hl hP hK hD hS hE Q KR0
  have hfX0 : ∀ w ∈ u_ws RX0 TX0 3, w.before args s = true := fun w hw => hts w (List.mem_cons_of_mem _ (List.mem_append_left _ (List.mem_append_right _ hw)))
  have hfX8 : ∀ w ∈ u_ws RX8 TX8 12, w.before args s = true := fun w hw => hts w (List.mem_cons_of_mem _ (List.mem_append_left _ (List.mem_append_left _ (List.mem_append_right _ hw))))
  have lk0 := hts (.fieldLink RX8 43 "GlitchNets" "cover" "LGlitchNets$Cover;") (List.mem_of_getElem? (i := 1) rfl)
  have lk1 := hts (.fieldLink RX8 57 "GlitchNets" "deeds" "LGlitchNets$Deeds;") (List.mem_of_getElem? (i := 2) rfl)
  have lk2 := hts (.fieldLink RX8 197 "GlitchNets$Cover" "cares" "[I") (List.mem_of_getElem? (i := 3) rfl)
  have lk3 := hts (.fieldLink RX8 200 "GlitchNets$Cover" "wants" "[I") (List.mem_of_getElem? (i := 4) rfl)
  have lk4 := hts (.fieldLink RX8 206 "GlitchNets$Cover" "size" "I") (List.mem_of_getElem? (i := 5) rfl)
  have hP := XP_iff.mp hP
  have hD := XD_of hD
  have KR : ∀ (v : Int32) (w0 : XS) (H : Heap) (locs : List Loc) (pc : Nat) (ls : Array Slot), some (v, w0) = some (r0, z0) → narrow .int (.int v) = .int v → XP D a c w0 H → va_S A s.heap H locs → decode cX8_off pc = .ok (.ireturn, 1) → W p l e rmX8_off s m args below meth cd H locs 0 0 Q (F0 m pc ls [.int v]) := by
    intro v w0 H locs pc ls hr hn hP hS hd
    cases hr
    exact KR0 _ H locs pc ls rfl hn (XP_iff.mpr hP) (hD.all c _) hS hd
  have hl : lv_has ls 2 [(0, .ref (a 0 0)), (1, .int p0)] := hl
  refine lv_aload_n (pc := 0) hx hb dX8_off_0 rfl (lv_at hl 0 rfl) ?_
  refine va_get (D := D) (ci := 8) (v := .ref ((a 6) 0)) (C := RX8) (T := TX8) (N := 12) (pc := 1) hx hb hfX8 (fun _ h9 => h9) hown hK (show va_P D vwCl (wX8 a c (X 0)) _ from hP 0 (by decide)) 0 rfl rfl 5 (by decide) lk0 (fun _ h9 => h9) rfl dX8_off_1 ?_
  refine lv_iload_n (pc := 4) hx hb dX8_off_4 rfl (lv_at hl 1 rfl) ?_
  obtain ⟨r5, hc5, h⟩ := b1_i h
  have hw : (wX0 (a 6) c (X 6)).map (·.1) = [6].flatMap (uA a) := rfl
  have hPc : va_P D vwCl (wX0 (a 6) c (X 6)) _ := hP 6 (by decide)
  have hDc : va_D A (wX0 (a 6) c (X 6)) := hD.of_addr (by decide) (by decide) hw
  refine g_X (X' := X) (st1 := [.int r5]) (gr_V (n := 1) (rest := []) (pc := 5) hx hb hml hown hts (cX0_has_met l D c tb sa sv (a 6) p0 (X 6) _ hc5) gX8_off_X0_has rfl rfl rfl (by decide +kernel) rfl ⟨Nat.le_of_ble_eq_true rfl, Nat.le_of_ble_eq_true rfl⟩ ⟨Nat.zero_le _, Nat.zero_le _⟩ 0 0 rfl rfl rfl xE_ok hPc hDc hK (xE_ok.tr hE hS (g_freeX hD hS hA (by decide) (addr0 hw))) hl.1 (Nat.le_of_ble_eq_true rfl) dX8_off_5 rfl) hP hD hS hA (ks := [6]) (by decide) (addr0 hw) (fun k9 _ hk9 => rfl) (fun H1 hw1 => (List.forall_mem_cons.mpr ⟨hw1, (fun _ h9 => absurd h9 List.not_mem_nil)⟩)) rfl (fun H locs hP hS => ?_)
  refine lv_if_ne (tgt := 14) (pc := 8) hx hb dX8_off_8 (by decide) (fun c8 => ?_) (fun c8 => ?_)
  · replace h := it_f c8 h
    refine lv_aload_n (pc := 14) hx hb dX8_off_14 rfl (lv_at hl 0 rfl) ?_
    refine va_get (D := D) (ci := 8) (v := .ref ((a 8) 0)) (C := RX8) (T := TX8) (N := 12) (pc := 15) hx hb hfX8 (fun _ h9 => h9) hown hK (show va_P D vwCl (wX8 a c (X 0)) _ from hP 0 (by decide)) 0 rfl rfl 7 (by decide) lk1 (fun _ h9 => h9) rfl dX8_off_15 ?_
    refine lv_iconst (v := 3) (pc := 18) hx hb dX8_off_18 (by decide) ?_
    refine lv_iload_n (pc := 19) hx hb dX8_off_19 rfl (lv_at hl 1 rfl) ?_
    refine lv_aload_n (pc := 20) hx hb dX8_off_20 rfl (lv_at hl 0 rfl) ?_
    refine va_get (D := D) (ci := 8) (v := .ref ((a 6) 0)) (C := RX8) (T := TX8) (N := 12) (pc := 21) hx hb hfX8 (fun _ h9 => h9) hown hK (show va_P D vwCl (wX8 a c (X 0)) _ from hP 0 (by decide)) 0 rfl rfl 5 (by decide) lk0 (fun _ h9 => h9) rfl dX8_off_21 ?_
    refine va_get (D := D) (ci := 0) (v := .ref ((a 6) 1)) (C := RX0) (T := TX0) (N := 3) (pc := 24) hx hb hfX0 (fun _ h9 => h9) hown hK (show va_P D vwCl (wX0 (a 6) c (X 6)) _ from hP 6 (by decide)) 0 rfl rfl 0 (by decide) lk2 (fun _ h9 => h9) rfl dX8_off_24 ?_
    refine lv_iload_n (pc := 27) hx hb dX8_off_27 rfl (lv_at hl 1 rfl) ?_
    obtain ⟨hk28, h⟩ := ckI_i h
    refine va_iald (D := D) (f := ((X 6).1 0)) (pc := 28) hx hb hK (show va_P D vwCl (wX0 (a 6) c (X 6)) _ from hP 6 (by decide)) 1 0 rfl rfl hk28 dX8_off_28 ?_
    refine lv_aload_n (pc := 29) hx hb dX8_off_29 rfl (lv_at hl 0 rfl) ?_
    refine va_get (D := D) (ci := 8) (v := .ref ((a 6) 0)) (C := RX8) (T := TX8) (N := 12) (pc := 30) hx hb hfX8 (fun _ h9 => h9) hown hK (show va_P D vwCl (wX8 a c (X 0)) _ from hP 0 (by decide)) 0 rfl rfl 5 (by decide) lk0 (fun _ h9 => h9) rfl dX8_off_30 ?_
    refine va_get (D := D) (ci := 0) (v := .ref ((a 6) 2)) (C := RX0) (T := TX0) (N := 3) (pc := 33) hx hb hfX0 (fun _ h9 => h9) hown hK (show va_P D vwCl (wX0 (a 6) c (X 6)) _ from hP 6 (by decide)) 0 rfl rfl 1 (by decide) lk3 (fun _ h9 => h9) rfl dX8_off_33 ?_
    refine lv_iload_n (pc := 36) hx hb dX8_off_36 rfl (lv_at hl 1 rfl) ?_
    obtain ⟨hk37, h⟩ := ckI_i h
    refine va_iald (D := D) (f := ((X 6).1 1)) (pc := 37) hx hb hK (show va_P D vwCl (wX0 (a 6) c (X 6)) _ from hP 6 (by decide)) 2 0 rfl rfl hk37 dX8_off_37 ?_
    obtain ⟨t0_38, hc38, h⟩ := b1_i h
    have hw : (wX1 (a 8) c (X 8)).map (·.1) = [8].flatMap (uA a) := rfl
    have hPc : va_P D vwCl (wX1 (a 8) c (X 8)) _ := hP 8 (by decide)
    have hDc : va_D A (wX1 (a 8) c (X 8)) := hD.of_addr (by decide) (by decide) hw
    refine g_X (X' := (xs X 8 t0_38)) (st1 := []) (gr_V (n := 4) (rest := []) (pc := 38) hx hb hml hown hts (cX1_note_met l D c tb sa sv (a 8) (3 : Int32) p0 ((((X 6).1 0) (p0).toNatClampNeg)) ((((X 6).1 1) (p0).toNatClampNeg)) (X 8) _ hc38) gX8_off_X1_note rfl rfl rfl (by decide +kernel) rfl ⟨Nat.le_of_ble_eq_true rfl, Nat.le_of_ble_eq_true rfl⟩ ⟨Nat.zero_le _, Nat.zero_le _⟩ 0 1 rfl rfl rfl xE_ok hPc hDc hK (xE_ok.tr hE hS (g_freeX hD hS hA (by decide) (addr0 hw))) hl.1 (Nat.le_of_ble_eq_true rfl) dX8_off_38 rfl) hP hD hS hA (ks := [8]) (by decide) (addr0 hw) (fun k9 _ hk9 => (xs_o hk9 (j := 8) (by decide))) (fun H1 hw1 => (List.forall_mem_cons.mpr ⟨hw1, (fun _ h9 => absurd h9 List.not_mem_nil)⟩)) rfl (fun H locs hP hS => ?_)
    refine lv_aload_n (pc := 41) hx hb dX8_off_41 rfl (lv_at hl 0 rfl) ?_
    refine va_get (D := D) (ci := 8) (v := .ref ((a 6) 0)) (C := RX8) (T := TX8) (N := 12) (pc := 42) hx hb hfX8 (fun _ h9 => h9) hown hK (show va_P D vwCl (wX8 a c ((xs X 8 t0_38) 0)) _ from hP 0 (by decide)) 0 rfl rfl 5 (by decide) lk0 (fun _ h9 => h9) rfl dX8_off_42 ?_
    refine lv_iload_n (pc := 45) hx hb dX8_off_45 rfl (lv_at hl 1 rfl) ?_
    obtain ⟨t0_46, hc46, h⟩ := b1_i h
    have hw : (wX0 (a 6) c ((xs X 8 t0_38) 6)).map (·.1) = [6].flatMap (uA a) := rfl
    have hPc : va_P D vwCl (wX0 (a 6) c ((xs X 8 t0_38) 6)) _ := hP 6 (by decide)
    have hDc : va_D A (wX0 (a 6) c ((xs X 8 t0_38) 6)) := hD.of_addr (by decide) (by decide) hw
    refine g_X (X' := (xs (xs X 8 t0_38) 6 t0_46)) (st1 := []) (gr_V (n := 1) (rest := []) (pc := 46) hx hb hml hown hts (cX0_remove_met l D c tb sa sv (a 6) p0 ((xs X 8 t0_38) 6) _ hc46) gX8_off_X0_remove rfl rfl rfl (by decide +kernel) rfl ⟨Nat.le_of_ble_eq_true rfl, Nat.le_of_ble_eq_true rfl⟩ ⟨Nat.zero_le _, Nat.zero_le _⟩ 0 0 rfl rfl rfl xE_ok hPc hDc hK (xE_ok.tr hE hS (g_freeX hD hS hA (by decide) (addr0 hw))) hl.1 (Nat.le_of_ble_eq_true rfl) dX8_off_46 rfl) hP hD hS hA (ks := [6]) (by decide) (addr0 hw) (fun k9 _ hk9 => (xs_o hk9 (j := 6) (by decide))) (fun H1 hw1 => (List.forall_mem_cons.mpr ⟨hw1, (fun _ h9 => absurd h9 List.not_mem_nil)⟩)) rfl (fun H locs hP hS => ?_)
    refine lv_aload_n (pc := 49) hx hb dX8_off_49 rfl (lv_at hl 0 rfl) ?_
    refine va_get (D := D) (ci := 8) (v := .ref ((a 6) 0)) (C := RX8) (T := TX8) (N := 12) (pc := 50) hx hb hfX8 (fun _ h9 => h9) hown hK (show va_P D vwCl (wX8 a c ((xs (xs X 8 t0_38) 6 t0_46) 0)) _ from hP 0 (by decide)) 0 rfl rfl 5 (by decide) lk0 (fun _ h9 => h9) rfl dX8_off_50 ?_
    refine va_get (D := D) (ci := 0) (v := .int (((xs (xs X 8 t0_38) 6 t0_46) 6).1 2 0)) (C := RX0) (T := TX0) (N := 3) (pc := 53) hx hb hfX0 (fun _ h9 => h9) hown hK (show va_P D vwCl (wX0 (a 6) c ((xs (xs X 8 t0_38) 6 t0_46) 6)) _ from hP 6 (by decide)) 0 rfl rfl 2 (by decide) lk4 (fun _ h9 => h9) rfl dX8_off_53 ?_
    have kr := KR (((xs (xs X 8 t0_38) 6 t0_46) 6).1 2 0) (xs (xs X 8 t0_38) 6 t0_46) _ _ 56 ls h rfl hP hS dX8_off_56
    exact kr
  · replace h := it_t c8 h
    refine lv_bipush (v := -2) (pc := 11) hx hb dX8_off_11 (by decide) ?_
    have kr := KR (-2 : Int32) X _ _ 13 ls h rfl hP hS dX8_off_13
    exact kr
abbrev rmX8_held : Room := { frames := 0, cells := 0, slots := 0, locals := 0 }
set_option maxRecDepth 100000 in
set_option maxHeartbeats 40000000 in
theorem cX8_held_met (l : Launch) (D : va_G) (c : Nat → ClassId) (tb : Nat) (sa sv : Nat → Nat)  (p0 : Int32) (p1 : Int32) (r0 : Int32) (h : fX8_held p0 p1 = some r0) : gM l yX8_held wsX8_held rmX8_held D (gY c) (xE tb sa sv) [.int p0, .int p1] ([]) (some (.int r0)) ([]) := by
  unfold fX8_held at h
  refine gM.I (cc := cX8_held) (maxL := 5) (by decide) rfl (Nat.le_of_ble_eq_true rfl) ?_
  intro p e s m args below meth cd hx hb hml hown hts A hA ls hl hP hK hD hS hE Q KR0
  have lk0 := hts (.constant RX8 342 (65535)) (List.mem_of_getElem? (i := 1) rfl)
  have lk1 := hts (.fieldLink RX8 343 "GlitchNets" "INPUT_TABLES" "[I") (List.mem_of_getElem? (i := 2) rfl)
  have KR : ∀ (v : Int32)  (H : Heap) (locs : List Loc) (pc : Nat) (ls : Array Slot), some v = some r0 → narrow .int (.int v) = .int v → va_P D vwCl ([]) H → va_D A ([]) → va_S A s.heap H locs → decode cX8_held pc = .ok (.ireturn, 1) → W p l e rmX8_held s m args below meth cd H locs 0 0 Q (F0 m pc ls [.int v]) := by
    intro v  H locs pc ls hr hn hP hD hS hd
    cases hr
    exact KR0 _ H locs pc ls rfl hn hP hD hS hd
  have hl : lv_has ls 5 [(0, .int p0), (1, .int p1)] := hl
  have J60 : ∀ (K6 : Int32 → Int32 → Int32 → Int32 → Option (Int32)) (K6h : ∀ (x0 : Int32) (x1 : Int32) (x2 : Int32) (x3 : Int32) (H : Heap) (locs : List Loc) (ls : Array Slot), K6 x0 x1 x2 x3 = some r0 → va_P D vwCl ([]) H → va_D A ([]) → va_S A s.heap H locs → lv_has ls 5 [(0, .int x0), (1, .int x1), (2, .int x2), (3, .int x3)] → W p l e rmX8_held s m args below meth cd H locs 0 0 Q (F0 m 6 ls [])) (x0 : Int32) (x1 : Int32) (x2 : Int32) (x3 : Int32) (H : Heap) (locs : List Loc) (ls : Array Slot), fX8_held_b60 K6 x0 x1 x2 x3 = some r0 → va_P D vwCl ([]) H → va_D A ([]) → va_S A s.heap H locs → lv_has ls 5 [(0, .int x0), (1, .int x1), (2, .int x2), (3, .int x3)] → W p l e rmX8_held s m args below meth cd H locs 0 0 Q (F0 m 60 ls []) := by
    intro K6 K6h x0 x1 x2 x3 H locs ls h hP hD hS hl
    unfold fX8_held_b60 at h
    obtain ⟨v3_60, ev3_60, h⟩ := lt_i h
    refine lv_iinc (v := v3_60) (lv' := [(3, .int v3_60), (0, .int x0), (1, .int x1), (2, .int x2)]) (pc := 60) hx hb dX8_held_60 hl (k := 3) rfl (by rw [ev3_60]; rfl) (by decide) rfl (fun ls hl => ?_)
    refine lv_goto (tgt := 6) (pc := 63) hx hb dX8_held_63 (by decide) ?_
    have jr := K6h x0 x1 x2 v3_60 _ _ ls h hP hD hS (lv_sub hl [1, 2, 3, 0] rfl)
    exact jr
  have J58 : ∀ (K6 : Int32 → Int32 → Int32 → Int32 → Option (Int32)) (K6h : ∀ (x0 : Int32) (x1 : Int32) (x2 : Int32) (x3 : Int32) (H : Heap) (locs : List Loc) (ls : Array Slot), K6 x0 x1 x2 x3 = some r0 → va_P D vwCl ([]) H → va_D A ([]) → va_S A s.heap H locs → lv_has ls 5 [(0, .int x0), (1, .int x1), (2, .int x2), (3, .int x3)] → W p l e rmX8_held s m args below meth cd H locs 0 0 Q (F0 m 6 ls [])) (x0 : Int32) (x1 : Int32) (x3 : Int32) (y0 : Int32) (y1 : Int32) (H : Heap) (locs : List Loc) (ls : Array Slot), fX8_held_b58 K6 x0 x1 x3 y0 y1 = some r0 → va_P D vwCl ([]) H → va_D A ([]) → va_S A s.heap H locs → lv_has ls 5 [(0, .int x0), (1, .int x1), (3, .int x3)] → W p l e rmX8_held s m args below meth cd H locs 0 0 Q (F0 m 58 ls [.int y0, .int y1]) := by
    intro K6 K6h x0 x1 x3 y0 y1 H locs ls h hP hD hS hl
    unfold fX8_held_b58 at h
    refine lv_iand (pc := 58) hx hb dX8_held_58 ?_
    refine lv_topi (fun v2_59 ev2_59 => ?_)
    replace h := lt_e ev2_59 h
    refine lv_istore_n (lv' := [(2, .int v2_59), (0, .int x0), (1, .int x1), (3, .int x3)]) (pc := 59) hx hb dX8_held_59 rfl hl (by decide) rfl (fun ls hl => ?_)
    have jr := J60 K6 K6h x0 x1 v2_59 x3 _ _ ls h hP hD hS (lv_sub hl [1, 2, 0, 3] rfl)
    exact jr
  have J35 : ∀ (K6 : Int32 → Int32 → Int32 → Int32 → Option (Int32)) (K6h : ∀ (x0 : Int32) (x1 : Int32) (x2 : Int32) (x3 : Int32) (H : Heap) (locs : List Loc) (ls : Array Slot), K6 x0 x1 x2 x3 = some r0 → va_P D vwCl ([]) H → va_D A ([]) → va_S A s.heap H locs → lv_has ls 5 [(0, .int x0), (1, .int x1), (2, .int x2), (3, .int x3)] → W p l e rmX8_held s m args below meth cd H locs 0 0 Q (F0 m 6 ls [])) (x0 : Int32) (x1 : Int32) (x2 : Int32) (x3 : Int32) (y0 : Int32) (H : Heap) (locs : List Loc) (ls : Array Slot), fX8_held_b35 K6 x0 x1 x2 x3 y0 = some r0 → va_P D vwCl ([]) H → va_D A ([]) → va_S A s.heap H locs → lv_has ls 5 [(0, .int x0), (1, .int x1), (2, .int x2), (3, .int x3)] → W p l e rmX8_held s m args below meth cd H locs 0 0 Q (F0 m 35 ls [.int y0]) := by
    intro K6 K6h x0 x1 x2 x3 y0 H locs ls h hP hD hS hl
    unfold fX8_held_b35 at h
    refine lv_istore (lv' := [(4, .int y0), (0, .int x0), (1, .int x1), (2, .int x2), (3, .int x3)]) (pc := 35) hx hb dX8_held_35 hl (by decide) rfl (fun ls hl => ?_)
    refine lv_iload_n (pc := 37) hx hb dX8_held_37 rfl (lv_at hl 3 rfl) ?_
    refine lv_iload (pc := 38) hx hb dX8_held_38 (lv_at hl 0 rfl) ?_
    refine lv_if_eq (tgt := 51) (pc := 40) hx hb dX8_held_40 (by decide) (fun c40 => ?_) (fun c40 => ?_)
    · replace h := it_t c40 h
      refine va_gets (pc := 51) hx hb (xE_tab hE) hS hown lk1 (fun _ h9 => h9) dX8_held_51 ?_
      refine lv_iload_n (pc := 54) hx hb dX8_held_54 rfl (lv_at hl 4 rfl) ?_
      obtain ⟨hk55, h⟩ := ckI_i h
      refine va_ti (v := .int (itab (x3).toNatClampNeg)) (pc := 55) hx hb (xE_itab hE) hS hk55 rfl dX8_held_55 ?_
      refine lv_iconst (v := -1) (pc := 56) hx hb dX8_held_56 (by decide) ?_
      refine lv_ixor (pc := 57) hx hb dX8_held_57 ?_
      have jr := J58 K6 K6h x0 x1 x3 (((itab (x3).toNatClampNeg) ^^^ (-1 : Int32))) x2 _ _ ls h hP hD hS (lv_sub hl [1, 2, 4] rfl)
      exact jr
    · replace h := it_f c40 h
      refine va_gets (pc := 43) hx hb (xE_tab hE) hS hown lk1 (fun _ h9 => h9) dX8_held_43 ?_
      refine lv_iload_n (pc := 46) hx hb dX8_held_46 rfl (lv_at hl 4 rfl) ?_
      obtain ⟨hk47, h⟩ := ckI_i h
      refine va_ti (v := .int (itab (x3).toNatClampNeg)) (pc := 47) hx hb (xE_itab hE) hS hk47 rfl dX8_held_47 ?_
      refine lv_goto (tgt := 58) (pc := 48) hx hb dX8_held_48 (by decide) ?_
      have jr := J58 K6 K6h x0 x1 x3 ((itab (x3).toNatClampNeg)) x2 _ _ ls h hP hD hS (lv_sub hl [1, 2, 4] rfl)
      exact jr
  have J6 : ∀ (n : Nat) (x0 : Int32) (x1 : Int32) (x2 : Int32) (x3 : Int32) (H : Heap) (locs : List Loc) (ls : Array Slot), fX8_held_b6 n x0 x1 x2 x3 = some r0 → va_P D vwCl ([]) H → va_D A ([]) → va_S A s.heap H locs → lv_has ls 5 [(0, .int x0), (1, .int x1), (2, .int x2), (3, .int x3)] → W p l e rmX8_held s m args below meth cd H locs 0 0 Q (F0 m 6 ls []) := by
    intro n
    induction n with
    | zero =>
      intro x0 x1 x2 x3 H locs ls h _ _ _ _
      cases (show (none : Option (Int32)) = some _ from h)
    | succ n K6h =>
      intro x0 x1 x2 x3 H locs ls h hP hD hS hl
      rw [fX8_held_b6] at h
      refine lv_iload_n (pc := 6) hx hb dX8_held_6 rfl (lv_at hl 3 rfl) ?_
      refine lv_iconst (v := 4) (pc := 7) hx hb dX8_held_7 (by decide) ?_
      refine lv_icmp_ge (tgt := 66) (pc := 8) hx hb dX8_held_8 (by decide) (fun c8 => ?_) (fun c8 => ?_)
      · replace h := it_t c8 h
        refine lv_iload_n (pc := 66) hx hb dX8_held_66 rfl (lv_at hl 2 rfl) ?_
        have kr := KR x2  _ _ 67 ls h rfl hP hD hS dX8_held_67
        exact kr
      · replace h := it_f c8 h
        refine lv_iload_n (pc := 11) hx hb dX8_held_11 rfl (lv_at hl 0 rfl) ?_
        refine lv_iload_n (pc := 12) hx hb dX8_held_12 rfl (lv_at hl 3 rfl) ?_
        refine lv_ishr (pc := 13) hx hb dX8_held_13 ?_
        refine lv_iconst (v := 1) (pc := 14) hx hb dX8_held_14 (by decide) ?_
        refine lv_iand (pc := 15) hx hb dX8_held_15 ?_
        refine lv_if_ne (tgt := 22) (pc := 16) hx hb dX8_held_16 (by decide) (fun c16 => ?_) (fun c16 => ?_)
        · replace h := it_f c16 h
          refine lv_iload_n (pc := 22) hx hb dX8_held_22 rfl (lv_at hl 1 rfl) ?_
          refine lv_iload_n (pc := 23) hx hb dX8_held_23 rfl (lv_at hl 3 rfl) ?_
          refine lv_ishr (pc := 24) hx hb dX8_held_24 ?_
          refine lv_iconst (v := 1) (pc := 25) hx hb dX8_held_25 (by decide) ?_
          refine lv_iand (pc := 26) hx hb dX8_held_26 ?_
          refine lv_if_eq (tgt := 34) (pc := 27) hx hb dX8_held_27 (by decide) (fun c27 => ?_) (fun c27 => ?_)
          · replace h := it_t c27 h
            refine lv_iconst (v := 0) (pc := 34) hx hb dX8_held_34 (by decide) ?_
            have jr := J35 (fX8_held_b6 n) K6h x0 x1 x2 x3 (0 : Int32) _ _ ls h hP hD hS hl
            exact jr
          · replace h := it_f c27 h
            refine lv_iconst (v := 1) (pc := 30) hx hb dX8_held_30 (by decide) ?_
            refine lv_goto (tgt := 35) (pc := 31) hx hb dX8_held_31 (by decide) ?_
            have jr := J35 (fX8_held_b6 n) K6h x0 x1 x2 x3 (1 : Int32) _ _ ls h hP hD hS hl
            exact jr
        · replace h := it_t c16 h
          refine lv_goto (tgt := 60) (pc := 19) hx hb dX8_held_19 (by decide) ?_
          have jr := J60 (fX8_held_b6 n) K6h x0 x1 x2 x3 _ _ ls h hP hD hS hl
          exact jr
  refine lv_ldcw (v := 65535) (pc := 0) hx hb hown lk0 dX8_held_0 ?_
  refine lv_istore_n (lv' := [(2, .int (65535 : Int32)), (0, .int p0), (1, .int p1)]) (pc := 3) hx hb dX8_held_3 rfl hl (by decide) rfl (fun ls hl => ?_)
  refine lv_iconst (v := 0) (pc := 4) hx hb dX8_held_4 (by decide) ?_
  refine lv_istore_n (lv' := [(3, .int (0 : Int32)), (2, .int (65535 : Int32)), (0, .int p0), (1, .int p1)]) (pc := 5) hx hb dX8_held_5 rfl hl (by decide) rfl (fun ls hl => ?_)
  have jr := J6 FU p0 p1 (65535 : Int32) (0 : Int32) _ _ ls h hP hD hS (lv_sub hl [2, 3, 1, 0] rfl)
  exact jr
abbrev rmX8_termOf : Room := { frames := 1, cells := 0, slots := 0, locals := 24 }
set_option maxRecDepth 100000 in
set_option maxHeartbeats 40000000 in
theorem cX8_termOf_met (l : Launch) (D : va_G) (c : Nat → ClassId) (tb : Nat) (sa sv : Nat → Nat) (a : Nat → Nat → Nat) (p0 : Int32) (p1 : Int32) (X : XS) (r0 : Int32) (h : fX8_termOf p0 p1 X = some r0) : gM l yX8_termOf wsX8_termOf rmX8_termOf D (gY c) (xE tb sa sv) [.ref (a 0 0), .int p0, .int p1] (wX a c X) (some (.int r0)) (wX a c X) := by
  unfold fX8_termOf at h
  refine gM.I (cc := cX8_termOf) (maxL := 3) (by decide) rfl (Nat.le_of_ble_eq_true rfl) ?_
  intro p e s m args below meth cd hx hb hml hown hts A hA ls hl hP hK hD hS hE Q KR0
  have hfX0 : ∀ w ∈ u_ws RX0 TX0 3, w.before args s = true := fun w hw => hts w (List.mem_cons_of_mem _ (List.mem_append_right _ hw))
  have hfX8 : ∀ w ∈ u_ws RX8 TX8 12, w.before args s = true := fun w hw => hts w (List.mem_cons_of_mem _ (List.mem_append_left _ (List.mem_append_right _ hw)))
  have lk0 := hts (.fieldLink RX8 43 "GlitchNets" "cover" "LGlitchNets$Cover;") (List.mem_of_getElem? (i := 1) rfl)
  have lk1 := hts (.fieldLink RX8 197 "GlitchNets$Cover" "cares" "[I") (List.mem_of_getElem? (i := 2) rfl)
  have lk2 := hts (.fieldLink RX8 200 "GlitchNets$Cover" "wants" "[I") (List.mem_of_getElem? (i := 3) rfl)
  have hP := XP_iff.mp hP
  have hD := XD_of hD
  have KR : ∀ (v : Int32)  (H : Heap) (locs : List Loc) (pc : Nat) (ls : Array Slot), some v = some r0 → narrow .int (.int v) = .int v → XP D a c X H → va_S A s.heap H locs → decode cX8_termOf pc = .ok (.ireturn, 1) → W p l e rmX8_termOf s m args below meth cd H locs 0 0 Q (F0 m pc ls [.int v]) := by
    intro v  H locs pc ls hr hn hP hS hd
    cases hr
    exact KR0 _ H locs pc ls rfl hn (XP_iff.mpr hP) (hD.all c _) hS hd
  have hl : lv_has ls 3 [(0, .ref (a 0 0)), (1, .int p0), (2, .int p1)] := hl
  refine lv_aload_n (pc := 0) hx hb dX8_termOf_0 rfl (lv_at hl 0 rfl) ?_
  refine va_get (D := D) (ci := 8) (v := .ref ((a 6) 0)) (C := RX8) (T := TX8) (N := 12) (pc := 1) hx hb hfX8 (fun _ h9 => h9) hown hK (show va_P D vwCl (wX8 a c (X 0)) _ from hP 0 (by decide)) 0 rfl rfl 5 (by decide) lk0 (fun _ h9 => h9) rfl dX8_termOf_1 ?_
  refine lv_iload_n (pc := 4) hx hb dX8_termOf_4 rfl (lv_at hl 1 rfl) ?_
  obtain ⟨r5, hc5, h⟩ := b1_i h
  have hw : (wX0 (a 6) c (X 6)).map (·.1) = [6].flatMap (uA a) := rfl
  have hPc : va_P D vwCl (wX0 (a 6) c (X 6)) _ := hP 6 (by decide)
  have hDc : va_D A (wX0 (a 6) c (X 6)) := hD.of_addr (by decide) (by decide) hw
  refine g_X (X' := X) (st1 := [.int r5]) (gr_V (n := 1) (rest := []) (pc := 5) hx hb hml hown hts (cX0_has_met l D c tb sa sv (a 6) p0 (X 6) _ hc5) gX8_termOf_X0_has rfl rfl rfl (by decide +kernel) rfl ⟨Nat.le_of_ble_eq_true rfl, Nat.le_of_ble_eq_true rfl⟩ ⟨Nat.zero_le _, Nat.zero_le _⟩ 0 0 rfl rfl rfl xE_ok hPc hDc hK (xE_ok.tr hE hS (g_freeX hD hS hA (by decide) (addr0 hw))) hl.1 (Nat.le_of_ble_eq_true rfl) dX8_termOf_5 rfl) hP hD hS hA (ks := [6]) (by decide) (addr0 hw) (fun k9 _ hk9 => rfl) (fun H1 hw1 => (List.forall_mem_cons.mpr ⟨hw1, (fun _ h9 => absurd h9 List.not_mem_nil)⟩)) rfl (fun H locs hP hS => ?_)
  refine lv_if_ne (tgt := 14) (pc := 8) hx hb dX8_termOf_8 (by decide) (fun c8 => ?_) (fun c8 => ?_)
  · replace h := it_f c8 h
    refine lv_iload_n (pc := 14) hx hb dX8_termOf_14 rfl (lv_at hl 2 rfl) ?_
    by_cases c15_0 : p1 = (0 : Int32)
    · replace h := it_t c15_0 h
      refine lv_tableIn (tgt := 40) (off := 25) (pc := 15) hx hb dX8_termOf_15 (by rw [c15_0]; decide) (by rw [c15_0]; decide) (by rw [c15_0]; rfl) (by decide) ?_
      refine lv_aload_n (pc := 40) hx hb dX8_termOf_40 rfl (lv_at hl 0 rfl) ?_
      refine va_get (D := D) (ci := 8) (v := .ref ((a 6) 0)) (C := RX8) (T := TX8) (N := 12) (pc := 41) hx hb hfX8 (fun _ h9 => h9) hown hK (show va_P D vwCl (wX8 a c (X 0)) _ from hP 0 (by decide)) 0 rfl rfl 5 (by decide) lk0 (fun _ h9 => h9) rfl dX8_termOf_41 ?_
      refine va_get (D := D) (ci := 0) (v := .ref ((a 6) 1)) (C := RX0) (T := TX0) (N := 3) (pc := 44) hx hb hfX0 (fun _ h9 => h9) hown hK (show va_P D vwCl (wX0 (a 6) c (X 6)) _ from hP 6 (by decide)) 0 rfl rfl 0 (by decide) lk1 (fun _ h9 => h9) rfl dX8_termOf_44 ?_
      refine lv_iload_n (pc := 47) hx hb dX8_termOf_47 rfl (lv_at hl 1 rfl) ?_
      obtain ⟨hk48, h⟩ := ckI_i h
      refine va_iald (D := D) (f := ((X 6).1 0)) (pc := 48) hx hb hK (show va_P D vwCl (wX0 (a 6) c (X 6)) _ from hP 6 (by decide)) 1 0 rfl rfl hk48 dX8_termOf_48 ?_
      have kr := KR (((X 6).1 0) (p0).toNatClampNeg)  _ _ 49 ls h rfl hP hS dX8_termOf_49
      exact kr
    · replace h := it_f c15_0 h
      by_cases c15_1 : p1 = (1 : Int32)
      · replace h := it_t c15_1 h
        refine lv_tableIn (tgt := 50) (off := 35) (pc := 15) hx hb dX8_termOf_15 (by rw [c15_1]; decide) (by rw [c15_1]; decide) (by rw [c15_1]; rfl) (by decide) ?_
        refine lv_aload_n (pc := 50) hx hb dX8_termOf_50 rfl (lv_at hl 0 rfl) ?_
        refine va_get (D := D) (ci := 8) (v := .ref ((a 6) 0)) (C := RX8) (T := TX8) (N := 12) (pc := 51) hx hb hfX8 (fun _ h9 => h9) hown hK (show va_P D vwCl (wX8 a c (X 0)) _ from hP 0 (by decide)) 0 rfl rfl 5 (by decide) lk0 (fun _ h9 => h9) rfl dX8_termOf_51 ?_
        refine va_get (D := D) (ci := 0) (v := .ref ((a 6) 2)) (C := RX0) (T := TX0) (N := 3) (pc := 54) hx hb hfX0 (fun _ h9 => h9) hown hK (show va_P D vwCl (wX0 (a 6) c (X 6)) _ from hP 6 (by decide)) 0 rfl rfl 1 (by decide) lk2 (fun _ h9 => h9) rfl dX8_termOf_54 ?_
        refine lv_iload_n (pc := 57) hx hb dX8_termOf_57 rfl (lv_at hl 1 rfl) ?_
        obtain ⟨hk58, h⟩ := ckI_i h
        refine va_iald (D := D) (f := ((X 6).1 1)) (pc := 58) hx hb hK (show va_P D vwCl (wX0 (a 6) c (X 6)) _ from hP 6 (by decide)) 2 0 rfl rfl hk58 dX8_termOf_58 ?_
        have kr := KR (((X 6).1 1) (p0).toNatClampNeg)  _ _ 59 ls h rfl hP hS dX8_termOf_59
        exact kr
      · replace h := it_f c15_1 h
        by_cases c15_2 : p1 = (2 : Int32)
        · replace h := it_t c15_2 h
          refine lv_tableIn (tgt := 60) (off := 45) (pc := 15) hx hb dX8_termOf_15 (by rw [c15_2]; decide) (by rw [c15_2]; decide) (by rw [c15_2]; rfl) (by decide) ?_
          refine lv_aload_n (pc := 60) hx hb dX8_termOf_60 rfl (lv_at hl 0 rfl) ?_
          refine va_get (D := D) (ci := 8) (v := .ref ((a 6) 0)) (C := RX8) (T := TX8) (N := 12) (pc := 61) hx hb hfX8 (fun _ h9 => h9) hown hK (show va_P D vwCl (wX8 a c (X 0)) _ from hP 0 (by decide)) 0 rfl rfl 5 (by decide) lk0 (fun _ h9 => h9) rfl dX8_termOf_61 ?_
          refine va_get (D := D) (ci := 0) (v := .ref ((a 6) 1)) (C := RX0) (T := TX0) (N := 3) (pc := 64) hx hb hfX0 (fun _ h9 => h9) hown hK (show va_P D vwCl (wX0 (a 6) c (X 6)) _ from hP 6 (by decide)) 0 rfl rfl 0 (by decide) lk1 (fun _ h9 => h9) rfl dX8_termOf_64 ?_
          refine lv_iload_n (pc := 67) hx hb dX8_termOf_67 rfl (lv_at hl 1 rfl) ?_
          obtain ⟨hk68, h⟩ := ckI_i h
          refine va_iald (D := D) (f := ((X 6).1 0)) (pc := 68) hx hb hK (show va_P D vwCl (wX0 (a 6) c (X 6)) _ from hP 6 (by decide)) 1 0 rfl rfl hk68 dX8_termOf_68 ?_
          refine lv_aload_n (pc := 69) hx hb dX8_termOf_69 rfl (lv_at hl 0 rfl) ?_
          refine va_get (D := D) (ci := 8) (v := .ref ((a 6) 0)) (C := RX8) (T := TX8) (N := 12) (pc := 70) hx hb hfX8 (fun _ h9 => h9) hown hK (show va_P D vwCl (wX8 a c (X 0)) _ from hP 0 (by decide)) 0 rfl rfl 5 (by decide) lk0 (fun _ h9 => h9) rfl dX8_termOf_70 ?_
          refine va_get (D := D) (ci := 0) (v := .ref ((a 6) 2)) (C := RX0) (T := TX0) (N := 3) (pc := 73) hx hb hfX0 (fun _ h9 => h9) hown hK (show va_P D vwCl (wX0 (a 6) c (X 6)) _ from hP 6 (by decide)) 0 rfl rfl 1 (by decide) lk2 (fun _ h9 => h9) rfl dX8_termOf_73 ?_
          refine lv_iload_n (pc := 76) hx hb dX8_termOf_76 rfl (lv_at hl 1 rfl) ?_
          obtain ⟨hk77, h⟩ := ckI_i h
          refine va_iald (D := D) (f := ((X 6).1 1)) (pc := 77) hx hb hK (show va_P D vwCl (wX0 (a 6) c (X 6)) _ from hP 6 (by decide)) 2 0 rfl rfl hk77 dX8_termOf_77 ?_
          obtain ⟨r78, hc78, h⟩ := b1_i h
          refine g_noneX (st1 := [.int r78]) (gr_S (n := 2) (rest := []) (pc := 78) hx hb hml hown hts (cX8_held_met l D c tb sa sv ((((X 6).1 0) (p0).toNatClampNeg)) ((((X 6).1 1) (p0).toNatClampNeg)) _ hc78) gX8_termOf_X8_held rfl rfl rfl (by decide +kernel) rfl ⟨Nat.le_of_ble_eq_true rfl, Nat.le_of_ble_eq_true rfl⟩ ⟨Nat.zero_le _, Nat.zero_le _⟩ xE_ok g_P0 (g_D0 (A := A)) hK (xE_ok.tr hE hS (g_free0 hS hA)) hl.1 (Nat.le_of_ble_eq_true rfl) dX8_termOf_78 rfl) hP hS hA rfl (fun H locs hP hS => ?_)
          have kr := KR r78  _ _ 81 ls h rfl hP hS dX8_termOf_81
          exact kr
        · replace h := it_f c15_2 h
          have hsw : (p1).toInt < 0 ∨ 2 < (p1).toInt := by
            have z0 := lv_neT c15_0 (a := 0) (by decide)
            have z1 := lv_neT c15_1 (a := 1) (by decide)
            have z2 := lv_neT c15_2 (a := 2) (by decide)
            omega
          refine lv_tableOut (tgt := 82) (pc := 15) hx hb dX8_termOf_15 hsw (by decide) ?_
          refine lv_bipush (v := -2) (pc := 82) hx hb dX8_termOf_82 (by decide) ?_
          have kr := KR (-2 : Int32)  _ _ 84 ls h rfl hP hS dX8_termOf_84
          exact kr
  · replace h := it_t c8 h
    refine lv_bipush (v := -2) (pc := 11) hx hb dX8_termOf_11 (by decide) ?_
    have kr := KR (-2 : Int32)  _ _ 13 ls h rfl hP hS dX8_termOf_13
    exact kr
abbrev rmX0_stands : Room := { frames := 1, cells := 0, slots := 0, locals := 24 }
set_option maxRecDepth 100000 in
set_option maxHeartbeats 40000000 in
theorem cX0_stands_met (l : Launch) (D : va_G) (c : Nat → ClassId) (tb : Nat) (sa sv : Nat → Nat) (a0 : Nat → Nat) (s0 : Mem) (r0 : Int32) (h : fX0_stands s0 = some r0) : gM l yX0_stands wsX0_stands rmX0_stands D (gY c) (xE tb sa sv) [.ref (a0 0)] (wX0 a0 c s0) (some (.int r0)) (wX0 a0 c s0) := by
  unfold fX0_stands at h
  refine gM.I (cc := cX0_stands) (maxL := 3) (by decide) rfl (Nat.le_of_ble_eq_true rfl) ?_
  intro p e s m args below meth cd hx hb hml hown hts A hA ls hl hP hK hD hS hE Q KR0
  have hfX0 : ∀ w ∈ u_ws RX0 TX0 3, w.before args s = true := fun w hw => hts w (List.mem_cons_of_mem _ (List.mem_append_right _ hw))
  have lk0 := hts (.fieldLink RX0 16 "GlitchNets$Cover" "size" "I") (List.mem_of_getElem? (i := 1) rfl)
  have lk1 := hts (.fieldLink RX0 9 "GlitchNets$Cover" "cares" "[I") (List.mem_of_getElem? (i := 2) rfl)
  have lk2 := hts (.fieldLink RX0 13 "GlitchNets$Cover" "wants" "[I") (List.mem_of_getElem? (i := 3) rfl)
  have lk3 := hts (.initialized RX8) (List.mem_of_getElem? (i := 5) rfl)
  have lk4 := hts (.static yX8_held) (List.mem_of_getElem? (i := 4) rfl)
  have KR : ∀ (v : Int32)  (H : Heap) (locs : List Loc) (pc : Nat) (ls : Array Slot), some v = some r0 → narrow .int (.int v) = .int v → va_P D vwCl (wX0 a0 c s0) H → va_D A (wX0 a0 c s0) → va_S A s.heap H locs → decode cX0_stands pc = .ok (.ireturn, 1) → W p l e rmX0_stands s m args below meth cd H locs 0 0 Q (F0 m pc ls [.int v]) := by
    intro v  H locs pc ls hr hn hP hD hS hd
    cases hr
    exact KR0 _ H locs pc ls rfl hn hP hD hS hd
  have hl : lv_has ls 3 [(0, .ref (a0 0))] := hl
  have J4 : ∀ (n : Nat) (x1 : Int32) (x2 : Int32) (H : Heap) (locs : List Loc) (ls : Array Slot), fX0_stands_b4 s0 n x1 x2 = some r0 → va_P D vwCl (wX0 a0 c s0) H → va_D A (wX0 a0 c s0) → va_S A s.heap H locs → lv_has ls 3 [(0, .ref (a0 0)), (1, .int x1), (2, .int x2)] → W p l e rmX0_stands s m args below meth cd H locs 0 0 Q (F0 m 4 ls []) := by
    intro n
    induction n with
    | zero =>
      intro x1 x2 H locs ls h _ _ _ _
      cases (show (none : Option (Int32)) = some _ from h)
    | succ n K4h =>
      intro x1 x2 H locs ls h hP hD hS hl
      rw [fX0_stands_b4] at h
      refine lv_iload_n (pc := 4) hx hb dX0_stands_4 rfl (lv_at hl 2 rfl) ?_
      refine lv_aload_n (pc := 5) hx hb dX0_stands_5 rfl (lv_at hl 0 rfl) ?_
      refine va_get (D := D) (ci := 0) (v := .int (s0.1 2 0)) (C := RX0) (T := TX0) (N := 3) (pc := 6) hx hb hfX0 (fun _ h9 => h9) hown hK hP 0 rfl rfl 2 (by decide) lk0 (fun _ h9 => h9) rfl dX0_stands_6 ?_
      refine lv_icmp_ge (tgt := 36) (pc := 9) hx hb dX0_stands_9 (by decide) (fun c9 => ?_) (fun c9 => ?_)
      · replace h := it_t c9 h
        refine lv_iload_n (pc := 36) hx hb dX0_stands_36 rfl (lv_at hl 1 rfl) ?_
        have kr := KR x1  _ _ 37 ls h rfl hP hD hS dX0_stands_37
        exact kr
      · replace h := it_f c9 h
        refine lv_iload_n (pc := 12) hx hb dX0_stands_12 rfl (lv_at hl 1 rfl) ?_
        refine lv_aload_n (pc := 13) hx hb dX0_stands_13 rfl (lv_at hl 0 rfl) ?_
        refine va_get (D := D) (ci := 0) (v := .ref (a0 1)) (C := RX0) (T := TX0) (N := 3) (pc := 14) hx hb hfX0 (fun _ h9 => h9) hown hK hP 0 rfl rfl 0 (by decide) lk1 (fun _ h9 => h9) rfl dX0_stands_14 ?_
        refine lv_iload_n (pc := 17) hx hb dX0_stands_17 rfl (lv_at hl 2 rfl) ?_
        obtain ⟨hk18, h⟩ := ckI_i h
        refine va_iald (D := D) (f := (s0.1 0)) (pc := 18) hx hb hK hP 1 0 rfl rfl hk18 dX0_stands_18 ?_
        refine lv_aload_n (pc := 19) hx hb dX0_stands_19 rfl (lv_at hl 0 rfl) ?_
        refine va_get (D := D) (ci := 0) (v := .ref (a0 2)) (C := RX0) (T := TX0) (N := 3) (pc := 20) hx hb hfX0 (fun _ h9 => h9) hown hK hP 0 rfl rfl 1 (by decide) lk2 (fun _ h9 => h9) rfl dX0_stands_20 ?_
        refine lv_iload_n (pc := 23) hx hb dX0_stands_23 rfl (lv_at hl 2 rfl) ?_
        obtain ⟨hk24, h⟩ := ckI_i h
        refine va_iald (D := D) (f := (s0.1 1)) (pc := 24) hx hb hK hP 2 0 rfl rfl hk24 dX0_stands_24 ?_
        obtain ⟨r25, hc25, h⟩ := b1_i h
        refine g_none (st1 := [.int r25, .int x1]) (gr_SN (n := 2) (rest := [.int x1]) (pc := 25) hx hb hml hown hts (cX8_held_met l D c tb sa sv (((s0.1 0) (x2).toNatClampNeg)) (((s0.1 1) (x2).toNatClampNeg)) _ hc25) gX0_stands_X8_held_n34 rfl rfl rfl (xE_n11 hE) lk3 lk4 (by decide +kernel) rfl ⟨Nat.le_of_ble_eq_true rfl, Nat.le_of_ble_eq_true rfl⟩ ⟨Nat.zero_le _, Nat.zero_le _⟩ xE_ok g_P0 (g_D0 (A := A)) hK (xE_ok.tr hE hS (g_free0 hS hA)) hl.1 (Nat.le_of_ble_eq_true rfl) dX0_stands_25 rfl) hP hS hA rfl (fun H locs hP hS => ?_)
        refine lv_ior (pc := 28) hx hb dX0_stands_28 ?_
        refine lv_topi (fun v1_29 ev1_29 => ?_)
        replace h := lt_e ev1_29 h
        refine lv_istore_n (lv' := [(1, .int v1_29), (0, .ref (a0 0)), (2, .int x2)]) (pc := 29) hx hb dX0_stands_29 rfl hl (by decide) rfl (fun ls hl => ?_)
        obtain ⟨v2_30, ev2_30, h⟩ := lt_i h
        refine lv_iinc (v := v2_30) (lv' := [(2, .int v2_30), (1, .int v1_29), (0, .ref (a0 0))]) (pc := 30) hx hb dX0_stands_30 hl (k := 2) rfl (by rw [ev2_30]; rfl) (by decide) rfl (fun ls hl => ?_)
        refine lv_goto (tgt := 4) (pc := 33) hx hb dX0_stands_33 (by decide) ?_
        have jr := K4h v1_29 v2_30 _ _ ls h hP hD hS (lv_sub hl [2, 1, 0] rfl)
        exact jr
  refine lv_iconst (v := 0) (pc := 0) hx hb dX0_stands_0 (by decide) ?_
  refine lv_istore_n (lv' := [(1, .int (0 : Int32)), (0, .ref (a0 0))]) (pc := 1) hx hb dX0_stands_1 rfl hl (by decide) rfl (fun ls hl => ?_)
  refine lv_iconst (v := 0) (pc := 2) hx hb dX0_stands_2 (by decide) ?_
  refine lv_istore_n (lv' := [(2, .int (0 : Int32)), (1, .int (0 : Int32)), (0, .ref (a0 0))]) (pc := 3) hx hb dX0_stands_3 rfl hl (by decide) rfl (fun ls hl => ?_)
  have jr := J4 FU (0 : Int32) (0 : Int32) _ _ ls h hP hD hS (lv_sub hl [2, 1, 0] rfl)
  exact jr
abbrev rmX8_covered : Room := { frames := 3, cells := 0, slots := 0, locals := 70 }
set_option maxRecDepth 100000 in
set_option maxHeartbeats 40000000 in
theorem cX8_covered_met (l : Launch) (D : va_G) (c : Nat → ClassId) (tb : Nat) (sa sv : Nat → Nat) (a : Nat → Nat → Nat) (p0 : Int32) (X : XS) (r0 : Int32) (z0 : XS) (h : fX8_covered p0 X = some (r0, z0)) : gM l yX8_covered wsX8_covered rmX8_covered D (gY c) (xE tb sa sv) [.ref (a 0 0), .int p0] (wX a c X) (some (.int r0)) (wX a c z0) := by
  unfold fX8_covered at h
  refine gM.I (cc := cX8_covered) (maxL := 2) (by decide) rfl (Nat.le_of_ble_eq_true rfl) ?_
  intro p e s m args below meth cd hx hb hml hown hts A hA ls hl hP hK hD hS hE Q KR0
  have hfX8 : ∀ w ∈ u_ws RX8 TX8 12, w.before args s = true := fun w hw => hts w (List.mem_cons_of_mem _ (List.mem_append_left _ (List.mem_append_left _ (List.mem_append_right _ hw))))
  have lk0 := hts (.fieldLink RX8 26 "GlitchNets" "net" "LGlitchNets$Net;") (List.mem_of_getElem? (i := 2) rfl)
  have lk1 := hts (.fieldLink RX8 43 "GlitchNets" "cover" "LGlitchNets$Cover;") (List.mem_of_getElem? (i := 1) rfl)
  have hP := XP_iff.mp hP
  have hD := XD_of hD
  have KR : ∀ (v : Int32) (w0 : XS) (H : Heap) (locs : List Loc) (pc : Nat) (ls : Array Slot), some (v, w0) = some (r0, z0) → narrow .int (.int v) = .int v → XP D a c w0 H → va_S A s.heap H locs → decode cX8_covered pc = .ok (.ireturn, 1) → W p l e rmX8_covered s m args below meth cd H locs 0 0 Q (F0 m pc ls [.int v]) := by
    intro v w0 H locs pc ls hr hn hP hS hd
    cases hr
    exact KR0 _ H locs pc ls rfl hn (XP_iff.mpr hP) (hD.all c _) hS hd
  have hl : lv_has ls 2 [(0, .ref (a 0 0)), (1, .int p0)] := hl
  refine lv_iload_n (pc := 0) hx hb dX8_covered_0 rfl (lv_at hl 1 rfl) ?_
  refine lv_iconst (v := 0) (pc := 1) hx hb dX8_covered_1 (by decide) ?_
  refine lv_iconst (v := 1) (pc := 2) hx hb dX8_covered_2 (by decide) ?_
  obtain ⟨r3, hc3, h⟩ := b1_i h
  refine g_noneX (st1 := [.int r3]) (gr_S (n := 3) (rest := []) (pc := 3) hx hb hml hown hts (cX8_isWithin_met l D c tb sa sv p0 (0 : Int32) (1 : Int32) _ hc3) gX8_covered_X8_isWithin rfl rfl rfl (by decide +kernel) rfl ⟨Nat.le_of_ble_eq_true rfl, Nat.le_of_ble_eq_true rfl⟩ ⟨Nat.zero_le _, Nat.zero_le _⟩ xE_ok g_P0 (g_D0 (A := A)) hK (xE_ok.tr hE hS (g_free0 hS hA)) hl.1 (Nat.le_of_ble_eq_true rfl) dX8_covered_3 rfl) hP hS hA rfl (fun H locs hP hS => ?_)
  refine lv_if_ne (tgt := 12) (pc := 6) hx hb dX8_covered_6 (by decide) (fun c6 => ?_) (fun c6 => ?_)
  · replace h := it_f c6 h
    refine lv_iload_n (pc := 12) hx hb dX8_covered_12 rfl (lv_at hl 1 rfl) ?_
    refine lv_if_ne (tgt := 24) (pc := 13) hx hb dX8_covered_13 (by decide) (fun c13 => ?_) (fun c13 => ?_)
    · replace h := it_f c13 h
      refine lv_aload_n (pc := 24) hx hb dX8_covered_24 rfl (lv_at hl 0 rfl) ?_
      refine va_get (D := D) (ci := 8) (v := .ref ((a 3) 0)) (C := RX8) (T := TX8) (N := 12) (pc := 25) hx hb hfX8 (fun _ h9 => h9) hown hK (show va_P D vwCl (wX8 a c (X 0)) _ from hP 0 (by decide)) 0 rfl rfl 2 (by decide) lk0 (fun _ h9 => h9) rfl dX8_covered_25 ?_
      obtain ⟨r28, hc28, h⟩ := b1_i h
      have hw : (wX3 (a 3) c (X 3)).map (·.1) = [3].flatMap (uA a) := rfl
      have hPc : va_P D vwCl (wX3 (a 3) c (X 3)) _ := hP 3 (by decide)
      have hDc : va_D A (wX3 (a 3) c (X 3)) := hD.of_addr (by decide) (by decide) hw
      refine g_X (X' := X) (st1 := [.int r28]) (gr_V (n := 0) (rest := []) (pc := 28) hx hb hml hown hts (cX3_isEmpty_met l D c tb sa sv (a 3) (X 3) _ hc28) gX8_covered_X3_isEmpty rfl rfl rfl (by decide +kernel) rfl ⟨Nat.le_of_ble_eq_true rfl, Nat.le_of_ble_eq_true rfl⟩ ⟨Nat.zero_le _, Nat.zero_le _⟩ 0 3 rfl rfl rfl xE_ok hPc hDc hK (xE_ok.tr hE hS (g_freeX hD hS hA (by decide) (addr0 hw))) hl.1 (Nat.le_of_ble_eq_true rfl) dX8_covered_28 rfl) hP hD hS hA (ks := [3]) (by decide) (addr0 hw) (fun k9 _ hk9 => rfl) (fun H1 hw1 => (List.forall_mem_cons.mpr ⟨hw1, (fun _ h9 => absurd h9 List.not_mem_nil)⟩)) rfl (fun H locs hP hS => ?_)
      refine lv_if_eq (tgt := 37) (pc := 31) hx hb dX8_covered_31 (by decide) (fun c31 => ?_) (fun c31 => ?_)
      · replace h := it_t c31 h
        refine lv_aload_n (pc := 37) hx hb dX8_covered_37 rfl (lv_at hl 0 rfl) ?_
        refine va_get (D := D) (ci := 8) (v := .ref ((a 6) 0)) (C := RX8) (T := TX8) (N := 12) (pc := 38) hx hb hfX8 (fun _ h9 => h9) hown hK (show va_P D vwCl (wX8 a c (X 0)) _ from hP 0 (by decide)) 0 rfl rfl 5 (by decide) lk1 (fun _ h9 => h9) rfl dX8_covered_38 ?_
        obtain ⟨r41, hc41, h⟩ := b1_i h
        have hw : (wX0 (a 6) c (X 6)).map (·.1) = [6].flatMap (uA a) := rfl
        have hPc : va_P D vwCl (wX0 (a 6) c (X 6)) _ := hP 6 (by decide)
        have hDc : va_D A (wX0 (a 6) c (X 6)) := hD.of_addr (by decide) (by decide) hw
        refine g_X (X' := X) (st1 := [.int r41]) (gr_V (n := 0) (rest := []) (pc := 41) hx hb hml hown hts (cX0_stands_met l D c tb sa sv (a 6) (X 6) _ hc41) gX8_covered_X0_stands rfl rfl rfl (by decide +kernel) rfl ⟨Nat.le_of_ble_eq_true rfl, Nat.le_of_ble_eq_true rfl⟩ ⟨Nat.zero_le _, Nat.zero_le _⟩ 0 0 rfl rfl rfl xE_ok hPc hDc hK (xE_ok.tr hE hS (g_freeX hD hS hA (by decide) (addr0 hw))) hl.1 (Nat.le_of_ble_eq_true rfl) dX8_covered_41 rfl) hP hD hS hA (ks := [6]) (by decide) (addr0 hw) (fun k9 _ hk9 => rfl) (fun H1 hw1 => (List.forall_mem_cons.mpr ⟨hw1, (fun _ h9 => absurd h9 List.not_mem_nil)⟩)) rfl (fun H locs hP hS => ?_)
        refine lv_aload_n (pc := 44) hx hb dX8_covered_44 rfl (lv_at hl 0 rfl) ?_
        refine va_get (D := D) (ci := 8) (v := .ref ((a 3) 0)) (C := RX8) (T := TX8) (N := 12) (pc := 45) hx hb hfX8 (fun _ h9 => h9) hown hK (show va_P D vwCl (wX8 a c (X 0)) _ from hP 0 (by decide)) 0 rfl rfl 2 (by decide) lk0 (fun _ h9 => h9) rfl dX8_covered_45 ?_
        refine lv_aload_n (pc := 48) hx hb dX8_covered_48 rfl (lv_at hl 0 rfl) ?_
        refine va_get (D := D) (ci := 8) (v := .ref ((a 3) 0)) (C := RX8) (T := TX8) (N := 12) (pc := 49) hx hb hfX8 (fun _ h9 => h9) hown hK (show va_P D vwCl (wX8 a c (X 0)) _ from hP 0 (by decide)) 0 rfl rfl 2 (by decide) lk0 (fun _ h9 => h9) rfl dX8_covered_49 ?_
        obtain ⟨r52, hc52, h⟩ := b1_i h
        have hw : (wX3 (a 3) c (X 3)).map (·.1) = [3].flatMap (uA a) := rfl
        have hPc : va_P D vwCl (wX3 (a 3) c (X 3)) _ := hP 3 (by decide)
        have hDc : va_D A (wX3 (a 3) c (X 3)) := hD.of_addr (by decide) (by decide) hw
        refine g_X (X' := X) (st1 := [.int r52, .ref ((a 3) 0), .int r41]) (gr_V (n := 0) (rest := [.ref ((a 3) 0), .int r41]) (pc := 52) hx hb hml hown hts (cX3_output_met l D c tb sa sv (a 3) (X 3) _ hc52) gX8_covered_X3_output rfl rfl rfl (by decide +kernel) rfl ⟨Nat.le_of_ble_eq_true rfl, Nat.le_of_ble_eq_true rfl⟩ ⟨Nat.zero_le _, Nat.zero_le _⟩ 0 3 rfl rfl rfl xE_ok hPc hDc hK (xE_ok.tr hE hS (g_freeX hD hS hA (by decide) (addr0 hw))) hl.1 (Nat.le_of_ble_eq_true rfl) dX8_covered_52 rfl) hP hD hS hA (ks := [3]) (by decide) (addr0 hw) (fun k9 _ hk9 => rfl) (fun H1 hw1 => (List.forall_mem_cons.mpr ⟨hw1, (fun _ h9 => absurd h9 List.not_mem_nil)⟩)) rfl (fun H locs hP hS => ?_)
        obtain ⟨r55, t0_55, hc55, h⟩ := b2_i h
        have hw : (wX3 (a 3) c (X 3)).map (·.1) = [3].flatMap (uA a) := rfl
        have hPc : va_P D vwCl (wX3 (a 3) c (X 3)) _ := hP 3 (by decide)
        have hDc : va_D A (wX3 (a 3) c (X 3)) := hD.of_addr (by decide) (by decide) hw
        refine g_X (X' := (xs X 3 t0_55)) (st1 := [.int r55, .int r41]) (gr_V (n := 1) (rest := [.int r41]) (pc := 55) hx hb hml hown hts (cX3_tableOf_met l D c tb sa sv (a 3) r52 (X 3) _ _ hc55) gX8_covered_X3_tableOf rfl rfl rfl (by decide +kernel) rfl ⟨Nat.le_of_ble_eq_true rfl, Nat.le_of_ble_eq_true rfl⟩ ⟨Nat.zero_le _, Nat.zero_le _⟩ 0 3 rfl rfl rfl xE_ok hPc hDc hK (xE_ok.tr hE hS (g_freeX hD hS hA (by decide) (addr0 hw))) hl.1 (Nat.le_of_ble_eq_true rfl) dX8_covered_55 rfl) hP hD hS hA (ks := [3]) (by decide) (addr0 hw) (fun k9 _ hk9 => (xs_o hk9 (j := 3) (by decide))) (fun H1 hw1 => (List.forall_mem_cons.mpr ⟨hw1, (fun _ h9 => absurd h9 List.not_mem_nil)⟩)) rfl (fun H locs hP hS => ?_)
        refine lv_icmp_ne (tgt := 65) (pc := 58) hx hb dX8_covered_58 (by decide) (fun c58 => ?_) (fun c58 => ?_)
        · replace h := it_f c58 h
          refine lv_iconst (v := 0) (pc := 65) hx hb dX8_covered_65 (by decide) ?_
          have kr := KR (0 : Int32) (xs X 3 t0_55) _ _ 66 ls h rfl hP hS dX8_covered_66
          exact kr
        · replace h := it_t c58 h
          refine lv_iconst (v := 1) (pc := 61) hx hb dX8_covered_61 (by decide) ?_
          refine lv_goto (tgt := 66) (pc := 62) hx hb dX8_covered_62 (by decide) ?_
          have kr := KR (1 : Int32) (xs X 3 t0_55) _ _ 66 ls h rfl hP hS dX8_covered_66
          exact kr
      · replace h := it_f c31 h
        refine lv_bipush (v := -3) (pc := 34) hx hb dX8_covered_34 (by decide) ?_
        have kr := KR (-3 : Int32) X _ _ 36 ls h rfl hP hS dX8_covered_36
        exact kr
    · replace h := it_t c13 h
      refine lv_aload_n (pc := 16) hx hb dX8_covered_16 rfl (lv_at hl 0 rfl) ?_
      refine va_get (D := D) (ci := 8) (v := .ref ((a 6) 0)) (C := RX8) (T := TX8) (N := 12) (pc := 17) hx hb hfX8 (fun _ h9 => h9) hown hK (show va_P D vwCl (wX8 a c (X 0)) _ from hP 0 (by decide)) 0 rfl rfl 5 (by decide) lk1 (fun _ h9 => h9) rfl dX8_covered_17 ?_
      obtain ⟨r20, hc20, h⟩ := b1_i h
      have hw : (wX0 (a 6) c (X 6)).map (·.1) = [6].flatMap (uA a) := rfl
      have hPc : va_P D vwCl (wX0 (a 6) c (X 6)) _ := hP 6 (by decide)
      have hDc : va_D A (wX0 (a 6) c (X 6)) := hD.of_addr (by decide) (by decide) hw
      refine g_X (X' := X) (st1 := [.int r20]) (gr_V (n := 0) (rest := []) (pc := 20) hx hb hml hown hts (cX0_stands_met l D c tb sa sv (a 6) (X 6) _ hc20) gX8_covered_X0_stands rfl rfl rfl (by decide +kernel) rfl ⟨Nat.le_of_ble_eq_true rfl, Nat.le_of_ble_eq_true rfl⟩ ⟨Nat.zero_le _, Nat.zero_le _⟩ 0 0 rfl rfl rfl xE_ok hPc hDc hK (xE_ok.tr hE hS (g_freeX hD hS hA (by decide) (addr0 hw))) hl.1 (Nat.le_of_ble_eq_true rfl) dX8_covered_20 rfl) hP hD hS hA (ks := [6]) (by decide) (addr0 hw) (fun k9 _ hk9 => rfl) (fun H1 hw1 => (List.forall_mem_cons.mpr ⟨hw1, (fun _ h9 => absurd h9 List.not_mem_nil)⟩)) rfl (fun H locs hP hS => ?_)
      have kr := KR r20 X _ _ 23 ls h rfl hP hS dX8_covered_23
      exact kr
  · replace h := it_t c6 h
    refine lv_bipush (v := -2) (pc := 9) hx hb dX8_covered_9 (by decide) ?_
    have kr := KR (-2 : Int32) X _ _ 11 ls h rfl hP hS dX8_covered_11
    exact kr
abbrev rmX8_pairsAmong : Room := { frames := 0, cells := 0, slots := 0, locals := 0 }
set_option maxRecDepth 100000 in
set_option maxHeartbeats 40000000 in
theorem cX8_pairsAmong_met (l : Launch) (D : va_G) (c : Nat → ClassId) (tb : Nat) (sa sv : Nat → Nat)  (p0 : Int32) (r0 : Int64) (h : fX8_pairsAmong p0 = some r0) : gM l yX8_pairsAmong wsX8_pairsAmong rmX8_pairsAmong D (gY c) (xE tb sa sv) [.int p0] ([]) (some (.long r0)) ([]) := by
  unfold fX8_pairsAmong at h
  refine gM.L (cc := cX8_pairsAmong) (maxL := 7) (by decide) rfl (Nat.le_of_ble_eq_true rfl) ?_
  intro p e s m args below meth cd hx hb hml hown hts A hA ls hl hP hK hD hS hE Q KR0
  have lk0 := hts (.fieldLink RX8 343 "GlitchNets" "INPUT_TABLES" "[I") (List.mem_of_getElem? (i := 1) rfl)
  have KR : ∀ (v : Int64)  (H : Heap) (locs : List Loc) (pc : Nat) (ls : Array Slot), some v = some r0 → va_P D vwCl ([]) H → va_D A ([]) → va_S A s.heap H locs → decode cX8_pairsAmong pc = .ok (.lreturn, 1) → W p l e rmX8_pairsAmong s m args below meth cd H locs 0 0 Q (F0 m pc ls [.long v]) := by
    intro v  H locs pc ls hr hP hD hS hd
    cases hr
    exact KR0 _ H locs pc ls rfl hP hD hS hd
  have hl : lv_has ls 7 [(0, .int p0)] := hl
  have J4 : ∀ (n : Nat) (x0 : Int32) (x1 : Int64) (x3 : Int32) (H : Heap) (locs : List Loc) (ls : Array Slot), fX8_pairsAmong_b4 n x0 x1 x3 = some r0 → va_P D vwCl ([]) H → va_D A ([]) → va_S A s.heap H locs → lv_has ls 7 [(0, .int x0), (1, .long x1), (3, .int x3)] → W p l e rmX8_pairsAmong s m args below meth cd H locs 0 0 Q (F0 m 4 ls []) := by
    intro n
    induction n with
    | zero =>
      intro x0 x1 x3 H locs ls h _ _ _ _
      cases (show (none : Option (Int64)) = some _ from h)
    | succ n K4h =>
      intro x0 x1 x3 H locs ls h hP hD hS hl
      rw [fX8_pairsAmong_b4] at h
      refine lv_iload_n (pc := 4) hx hb dX8_pairsAmong_4 rfl (lv_at hl 2 rfl) ?_
      refine lv_iconst (v := 4) (pc := 5) hx hb dX8_pairsAmong_5 (by decide) ?_
      refine lv_icmp_ge (tgt := 47) (pc := 6) hx hb dX8_pairsAmong_6 (by decide) (fun c6 => ?_) (fun c6 => ?_)
      · replace h := it_t c6 h
        refine lv_lload_n (pc := 47) hx hb dX8_pairsAmong_47 rfl (lv_at hl 1 rfl) ?_
        have kr := KR x1  _ _ 48 ls h hP hD hS dX8_pairsAmong_48
        exact kr
      · replace h := it_f c6 h
        refine lv_iload_n (pc := 9) hx hb dX8_pairsAmong_9 rfl (lv_at hl 0 rfl) ?_
        refine lv_iconst (v := 1) (pc := 10) hx hb dX8_pairsAmong_10 (by decide) ?_
        refine lv_iload_n (pc := 11) hx hb dX8_pairsAmong_11 rfl (lv_at hl 2 rfl) ?_
        refine lv_ishl (pc := 12) hx hb dX8_pairsAmong_12 ?_
        refine lv_ishr (pc := 13) hx hb dX8_pairsAmong_13 ?_
        refine lv_topi (fun v4_14 ev4_14 => ?_)
        replace h := lt_e ev4_14 h
        refine lv_istore (lv' := [(4, .int v4_14), (0, .int x0), (1, .long x1), (3, .int x3)]) (pc := 14) hx hb dX8_pairsAmong_14 hl (by decide) rfl (fun ls hl => ?_)
        refine lv_iload_n (pc := 16) hx hb dX8_pairsAmong_16 rfl (lv_at hl 1 rfl) ?_
        refine lv_iload (pc := 17) hx hb dX8_pairsAmong_17 (lv_at hl 0 rfl) ?_
        refine lv_iand (pc := 19) hx hb dX8_pairsAmong_19 ?_
        refine va_gets (pc := 20) hx hb (xE_tab hE) hS hown lk0 (fun _ h9 => h9) dX8_pairsAmong_20 ?_
        refine lv_iload_n (pc := 23) hx hb dX8_pairsAmong_23 rfl (lv_at hl 3 rfl) ?_
        obtain ⟨hk24, h⟩ := ckI_i h
        refine va_ti (v := .int (itab (x3).toNatClampNeg)) (pc := 24) hx hb (xE_itab hE) hS hk24 rfl dX8_pairsAmong_24 ?_
        refine lv_iconst (v := -1) (pc := 25) hx hb dX8_pairsAmong_25 (by decide) ?_
        refine lv_ixor (pc := 26) hx hb dX8_pairsAmong_26 ?_
        refine lv_iand (pc := 27) hx hb dX8_pairsAmong_27 ?_
        refine lv_i2l (v := ((((x0 &&& v4_14) &&& ((itab (x3).toNatClampNeg) ^^^ (-1 : Int32)))).toInt64)) (pc := 28) hx hb dX8_pairsAmong_28 rfl ?_
        refine lv_topl (fun v5_29 ev5_29 => ?_)
        replace h := lt_e ev5_29 h
        refine lv_lstore (lv' := [(5, .long v5_29), (4, .int v4_14), (0, .int x0), (1, .long x1), (3, .int x3)]) (pc := 29) hx hb dX8_pairsAmong_29 hl (by decide) rfl (fun ls hl => ?_)
        refine lv_lload_n (pc := 31) hx hb dX8_pairsAmong_31 rfl (lv_at hl 3 rfl) ?_
        refine lv_lload (pc := 32) hx hb dX8_pairsAmong_32 (lv_at hl 0 rfl) ?_
        refine lv_bipush (v := 16) (pc := 34) hx hb dX8_pairsAmong_34 (by decide) ?_
        refine lv_iload_n (pc := 36) hx hb dX8_pairsAmong_36 rfl (lv_at hl 4 rfl) ?_
        refine lv_imul (pc := 37) hx hb dX8_pairsAmong_37 ?_
        refine lv_lshl (v := (jlshl v5_29 ((16 : Int32) * x3))) (pc := 38) hx hb dX8_pairsAmong_38 rfl ?_
        refine lv_lor (pc := 39) hx hb dX8_pairsAmong_39 ?_
        refine lv_topl (fun v1_40 ev1_40 => ?_)
        replace h := lt_e ev1_40 h
        refine lv_lstore_n (lv' := [(1, .long v1_40), (5, .long v5_29), (4, .int v4_14), (0, .int x0), (3, .int x3)]) (pc := 40) hx hb dX8_pairsAmong_40 rfl hl (by decide) rfl (fun ls hl => ?_)
        obtain ⟨v3_41, ev3_41, h⟩ := lt_i h
        refine lv_iinc (v := v3_41) (lv' := [(3, .int v3_41), (1, .long v1_40), (5, .long v5_29), (4, .int v4_14), (0, .int x0)]) (pc := 41) hx hb dX8_pairsAmong_41 hl (k := 4) rfl (by rw [ev3_41]; rfl) (by decide) rfl (fun ls hl => ?_)
        refine lv_goto (tgt := 4) (pc := 44) hx hb dX8_pairsAmong_44 (by decide) ?_
        have jr := K4h x0 v1_40 v3_41 _ _ ls h hP hD hS (lv_sub hl [4, 1, 0] rfl)
        exact jr
  refine lv_lconst (v := 0) (pc := 0) hx hb dX8_pairsAmong_0 (by decide) ?_
  refine lv_lstore_n (lv' := [(1, .long (0 : Int64)), (0, .int p0)]) (pc := 1) hx hb dX8_pairsAmong_1 rfl hl (by decide) rfl (fun ls hl => ?_)
  refine lv_iconst (v := 0) (pc := 2) hx hb dX8_pairsAmong_2 (by decide) ?_
  refine lv_istore_n (lv' := [(3, .int (0 : Int32)), (1, .long (0 : Int64)), (0, .int p0)]) (pc := 3) hx hb dX8_pairsAmong_3 rfl hl (by decide) rfl (fun ls hl => ?_)
  have jr := J4 FU p0 (0 : Int64) (0 : Int32) _ _ ls h hP hD hS (lv_sub hl [2, 1, 0] rfl)
  exact jr
abbrev rmX0_openPairs : Room := { frames := 2, cells := 0, slots := 0, locals := 46 }
set_option maxRecDepth 100000 in
set_option maxHeartbeats 40000000 in
theorem cX0_openPairs_met (l : Launch) (D : va_G) (c : Nat → ClassId) (tb : Nat) (sa sv : Nat → Nat) (a0 : Nat → Nat) (s0 : Mem) (r0 : Int64) (h : fX0_openPairs s0 = some r0) : gM l yX0_openPairs wsX0_openPairs rmX0_openPairs D (gY c) (xE tb sa sv) [.ref (a0 0)] (wX0 a0 c s0) (some (.long r0)) (wX0 a0 c s0) := by
  unfold fX0_openPairs at h
  refine gM.L (cc := cX0_openPairs) (maxL := 4) (by decide) rfl (Nat.le_of_ble_eq_true rfl) ?_
  intro p e s m args below meth cd hx hb hml hown hts A hA ls hl hP hK hD hS hE Q KR0
  have hfX0 : ∀ w ∈ u_ws RX0 TX0 3, w.before args s = true := fun w hw => hts w (List.mem_cons_of_mem _ (List.mem_append_right _ hw))
  have lk0 := hts (.initialized RX8) (List.mem_of_getElem? (i := 11) rfl)
  have lk1 := hts (.static yX8_pairsAmong) (List.mem_of_getElem? (i := 15) rfl)
  have lk2 := hts (.fieldLink RX0 16 "GlitchNets$Cover" "size" "I") (List.mem_of_getElem? (i := 1) rfl)
  have lk3 := hts (.fieldLink RX0 9 "GlitchNets$Cover" "cares" "[I") (List.mem_of_getElem? (i := 2) rfl)
  have lk4 := hts (.fieldLink RX0 13 "GlitchNets$Cover" "wants" "[I") (List.mem_of_getElem? (i := 3) rfl)
  have lk5 := hts (.static yX8_held) (List.mem_of_getElem? (i := 10) rfl)
  have lk6 := hts (.constantLong RX0 48 (-1)) (List.mem_of_getElem? (i := 4) rfl)
  have KR : ∀ (v : Int64)  (H : Heap) (locs : List Loc) (pc : Nat) (ls : Array Slot), some v = some r0 → va_P D vwCl (wX0 a0 c s0) H → va_D A (wX0 a0 c s0) → va_S A s.heap H locs → decode cX0_openPairs pc = .ok (.lreturn, 1) → W p l e rmX0_openPairs s m args below meth cd H locs 0 0 Q (F0 m pc ls [.long v]) := by
    intro v  H locs pc ls hr hP hD hS hd
    cases hr
    exact KR0 _ H locs pc ls rfl hP hD hS hd
  have hl : lv_has ls 4 [(0, .ref (a0 0))] := hl
  have J10 : ∀ (n : Nat) (x1 : Int64) (x3 : Int32) (H : Heap) (locs : List Loc) (ls : Array Slot), fX0_openPairs_b10 s0 n x1 x3 = some r0 → va_P D vwCl (wX0 a0 c s0) H → va_D A (wX0 a0 c s0) → va_S A s.heap H locs → lv_has ls 4 [(0, .ref (a0 0)), (1, .long x1), (3, .int x3)] → W p l e rmX0_openPairs s m args below meth cd H locs 0 0 Q (F0 m 10 ls []) := by
    intro n
    induction n with
    | zero =>
      intro x1 x3 H locs ls h _ _ _ _
      cases (show (none : Option (Int64)) = some _ from h)
    | succ n K10h =>
      intro x1 x3 H locs ls h hP hD hS hl
      rw [fX0_openPairs_b10] at h
      refine lv_iload_n (pc := 10) hx hb dX0_openPairs_10 rfl (lv_at hl 2 rfl) ?_
      refine lv_aload_n (pc := 11) hx hb dX0_openPairs_11 rfl (lv_at hl 0 rfl) ?_
      refine va_get (D := D) (ci := 0) (v := .int (s0.1 2 0)) (C := RX0) (T := TX0) (N := 3) (pc := 12) hx hb hfX0 (fun _ h9 => h9) hown hK hP 0 rfl rfl 2 (by decide) lk2 (fun _ h9 => h9) rfl dX0_openPairs_12 ?_
      refine lv_icmp_ge (tgt := 49) (pc := 15) hx hb dX0_openPairs_15 (by decide) (fun c15 => ?_) (fun c15 => ?_)
      · replace h := it_t c15 h
        refine lv_lload_n (pc := 49) hx hb dX0_openPairs_49 rfl (lv_at hl 1 rfl) ?_
        have kr := KR x1  _ _ 50 ls h hP hD hS dX0_openPairs_50
        exact kr
      · replace h := it_f c15 h
        refine lv_lload_n (pc := 18) hx hb dX0_openPairs_18 rfl (lv_at hl 1 rfl) ?_
        refine lv_aload_n (pc := 19) hx hb dX0_openPairs_19 rfl (lv_at hl 0 rfl) ?_
        refine va_get (D := D) (ci := 0) (v := .ref (a0 1)) (C := RX0) (T := TX0) (N := 3) (pc := 20) hx hb hfX0 (fun _ h9 => h9) hown hK hP 0 rfl rfl 0 (by decide) lk3 (fun _ h9 => h9) rfl dX0_openPairs_20 ?_
        refine lv_iload_n (pc := 23) hx hb dX0_openPairs_23 rfl (lv_at hl 2 rfl) ?_
        obtain ⟨hk24, h⟩ := ckI_i h
        refine va_iald (D := D) (f := (s0.1 0)) (pc := 24) hx hb hK hP 1 0 rfl rfl hk24 dX0_openPairs_24 ?_
        refine lv_aload_n (pc := 25) hx hb dX0_openPairs_25 rfl (lv_at hl 0 rfl) ?_
        refine va_get (D := D) (ci := 0) (v := .ref (a0 2)) (C := RX0) (T := TX0) (N := 3) (pc := 26) hx hb hfX0 (fun _ h9 => h9) hown hK hP 0 rfl rfl 1 (by decide) lk4 (fun _ h9 => h9) rfl dX0_openPairs_26 ?_
        refine lv_iload_n (pc := 29) hx hb dX0_openPairs_29 rfl (lv_at hl 2 rfl) ?_
        obtain ⟨hk30, h⟩ := ckI_i h
        refine va_iald (D := D) (f := (s0.1 1)) (pc := 30) hx hb hK hP 2 0 rfl rfl hk30 dX0_openPairs_30 ?_
        obtain ⟨r31, hc31, h⟩ := b1_i h
        refine g_none (st1 := [.int r31, .long x1]) (gr_SN (n := 2) (rest := [.long x1]) (pc := 31) hx hb hml hown hts (cX8_held_met l D c tb sa sv (((s0.1 0) (x3).toNatClampNeg)) (((s0.1 1) (x3).toNatClampNeg)) _ hc31) gX0_openPairs_X8_held_n34 rfl rfl rfl (xE_n11 hE) lk0 lk5 (by decide +kernel) rfl ⟨Nat.le_of_ble_eq_true rfl, Nat.le_of_ble_eq_true rfl⟩ ⟨Nat.zero_le _, Nat.zero_le _⟩ xE_ok g_P0 (g_D0 (A := A)) hK (xE_ok.tr hE hS (g_free0 hS hA)) hl.1 (Nat.le_of_ble_eq_true rfl) dX0_openPairs_31 rfl) hP hS hA rfl (fun H locs hP hS => ?_)
        obtain ⟨r34, hc34, h⟩ := b1_i h
        refine g_none (st1 := [.long r34, .long x1]) (gr_SN (n := 1) (rest := [.long x1]) (pc := 34) hx hb hml hown hts (cX8_pairsAmong_met l D c tb sa sv r31 _ hc34) gX0_openPairs_X8_pairsAmong_n44 rfl rfl rfl (xE_n12 hE) lk0 lk1 (by decide +kernel) rfl ⟨Nat.le_of_ble_eq_true rfl, Nat.le_of_ble_eq_true rfl⟩ ⟨Nat.zero_le _, Nat.zero_le _⟩ xE_ok g_P0 (g_D0 (A := A)) hK (xE_ok.tr hE hS (g_free0 hS hA)) hl.1 (Nat.le_of_ble_eq_true rfl) dX0_openPairs_34 rfl) hP hS hA rfl (fun H locs hP hS => ?_)
        refine lv_ldc2 (v := -1) (pc := 37) hx hb hown lk6 dX0_openPairs_37 ?_
        refine lv_lxor (pc := 40) hx hb dX0_openPairs_40 ?_
        refine lv_land (pc := 41) hx hb dX0_openPairs_41 ?_
        refine lv_topl (fun v1_42 ev1_42 => ?_)
        replace h := lt_e ev1_42 h
        refine lv_lstore_n (lv' := [(1, .long v1_42), (0, .ref (a0 0)), (3, .int x3)]) (pc := 42) hx hb dX0_openPairs_42 rfl hl (by decide) rfl (fun ls hl => ?_)
        obtain ⟨v3_43, ev3_43, h⟩ := lt_i h
        refine lv_iinc (v := v3_43) (lv' := [(3, .int v3_43), (1, .long v1_42), (0, .ref (a0 0))]) (pc := 43) hx hb dX0_openPairs_43 hl (k := 2) rfl (by rw [ev3_43]; rfl) (by decide) rfl (fun ls hl => ?_)
        refine lv_goto (tgt := 10) (pc := 46) hx hb dX0_openPairs_46 (by decide) ?_
        have jr := K10h v1_42 v3_43 _ _ ls h hP hD hS (lv_sub hl [2, 1, 0] rfl)
        exact jr
  refine lv_aload_n (pc := 0) hx hb dX0_openPairs_0 rfl (lv_at hl 0 rfl) ?_
  obtain ⟨r1, hc1, h⟩ := b1_i h
  refine g_all (st1 := [.int r1]) (gr_V (n := 0) (rest := []) (pc := 1) hx hb hml hown hts (cX0_stands_met l D c tb sa sv a0 s0 _ hc1) gX0_openPairs_X0_stands rfl rfl rfl (by decide +kernel) rfl ⟨Nat.le_of_ble_eq_true rfl, Nat.le_of_ble_eq_true rfl⟩ ⟨Nat.zero_le _, Nat.zero_le _⟩ 0 0 rfl rfl rfl xE_ok hP hD hK (xE_ok.tr hE hS (g_free hD hS hA)) hl.1 (Nat.le_of_ble_eq_true rfl) dX0_openPairs_1 rfl) hD hS hA rfl (fun H locs hP hD hS => ?_)
  obtain ⟨r4, hc4, h⟩ := b1_i h
  refine g_none (st1 := [.long r4]) (gr_SN (n := 1) (rest := []) (pc := 4) hx hb hml hown hts (cX8_pairsAmong_met l D c tb sa sv r1 _ hc4) gX0_openPairs_X8_pairsAmong_n44 rfl rfl rfl (xE_n12 hE) lk0 lk1 (by decide +kernel) rfl ⟨Nat.le_of_ble_eq_true rfl, Nat.le_of_ble_eq_true rfl⟩ ⟨Nat.zero_le _, Nat.zero_le _⟩ xE_ok g_P0 (g_D0 (A := A)) hK (xE_ok.tr hE hS (g_free0 hS hA)) hl.1 (Nat.le_of_ble_eq_true rfl) dX0_openPairs_4 rfl) hP hS hA rfl (fun H locs hP hS => ?_)
  refine lv_lstore_n (lv' := [(1, .long r4), (0, .ref (a0 0))]) (pc := 7) hx hb dX0_openPairs_7 rfl hl (by decide) rfl (fun ls hl => ?_)
  refine lv_iconst (v := 0) (pc := 8) hx hb dX0_openPairs_8 (by decide) ?_
  refine lv_istore_n (lv' := [(3, .int (0 : Int32)), (1, .long r4), (0, .ref (a0 0))]) (pc := 9) hx hb dX0_openPairs_9 rfl hl (by decide) rfl (fun ls hl => ?_)
  have jr := J10 FU r4 (0 : Int32) _ _ ls h hP hD hS (lv_sub hl [2, 1, 0] rfl)
  exact jr
abbrev rmX8_hasPair : Room := { frames := 0, cells := 0, slots := 0, locals := 0 }
set_option maxRecDepth 100000 in
set_option maxHeartbeats 40000000 in
theorem cX8_hasPair_met (l : Launch) (D : va_G) (c : Nat → ClassId) (tb : Nat) (sa sv : Nat → Nat)  (p0 : Int64) (p1 : Int32) (p2 : Int32) (r0 : Int32) (h : fX8_hasPair p0 p1 p2 = some r0) : gM l yX8_hasPair wsX8_hasPair rmX8_hasPair D (gY c) (xE tb sa sv) [.long p0, .int p1, .int p2] ([]) (some (.int r0)) ([]) := by
  unfold fX8_hasPair at h
  refine gM.I (cc := cX8_hasPair) (maxL := 4) (by decide) rfl (Nat.le_of_ble_eq_true rfl) ?_
  intro p e s m args below meth cd hx hb hml hown hts A hA ls hl hP hK hD hS hE Q KR0
  have KR : ∀ (v : Int32)  (H : Heap) (locs : List Loc) (pc : Nat) (ls : Array Slot), some v = some r0 → narrow .boolean (.int v) = .int v → va_P D vwCl ([]) H → va_D A ([]) → va_S A s.heap H locs → decode cX8_hasPair pc = .ok (.ireturn, 1) → W p l e rmX8_hasPair s m args below meth cd H locs 0 0 Q (F0 m pc ls [.int v]) := by
    intro v  H locs pc ls hr hn hP hD hS hd
    cases hr
    exact KR0 _ H locs pc ls rfl hn hP hD hS hd
  have hl : lv_has ls 4 [(0, .long p0), (2, .int p1), (3, .int p2)] := hl
  refine lv_lload_n (pc := 0) hx hb dX8_hasPair_0 rfl (lv_at hl 0 rfl) ?_
  refine lv_bipush (v := 16) (pc := 1) hx hb dX8_hasPair_1 (by decide) ?_
  refine lv_iload_n (pc := 3) hx hb dX8_hasPair_3 rfl (lv_at hl 2 rfl) ?_
  refine lv_imul (pc := 4) hx hb dX8_hasPair_4 ?_
  refine lv_iload_n (pc := 5) hx hb dX8_hasPair_5 rfl (lv_at hl 1 rfl) ?_
  refine lv_iadd (pc := 6) hx hb dX8_hasPair_6 ?_
  refine lv_lushr (v := (jlushr p0 (((16 : Int32) * p2) + p1))) (pc := 7) hx hb dX8_hasPair_7 rfl ?_
  refine lv_lconst (v := 1) (pc := 8) hx hb dX8_hasPair_8 (by decide) ?_
  refine lv_land (pc := 9) hx hb dX8_hasPair_9 ?_
  refine lv_lconst (v := 0) (pc := 10) hx hb dX8_hasPair_10 (by decide) ?_
  refine W.lcmp (pc := 11) hx hb dX8_hasPair_11 ?_
  refine lv_if_eq (tgt := 19) (pc := 12) hx hb dX8_hasPair_12 (by decide) (fun c12 => ?_) (fun c12 => ?_)
  · replace h := it_t c12 h
    refine lv_iconst (v := 0) (pc := 19) hx hb dX8_hasPair_19 (by decide) ?_
    have kr := KR (0 : Int32)  _ _ 20 ls h rfl hP hD hS dX8_hasPair_20
    exact kr
  · replace h := it_f c12 h
    refine lv_iconst (v := 1) (pc := 15) hx hb dX8_hasPair_15 (by decide) ?_
    refine lv_goto (tgt := 20) (pc := 16) hx hb dX8_hasPair_16 (by decide) ?_
    have kr := KR (1 : Int32)  _ _ 20 ls h rfl hP hD hS dX8_hasPair_20
    exact kr
abbrev rmX8_open : Room := { frames := 3, cells := 0, slots := 0, locals := 69 }
set_option maxRecDepth 100000 in
set_option maxHeartbeats 40000000 in
theorem cX8_open_met (l : Launch) (D : va_G) (c : Nat → ClassId) (tb : Nat) (sa sv : Nat → Nat) (a : Nat → Nat → Nat) (p0 : Int32) (X : XS) (r0 : Int32) (h : fX8_open p0 X = some r0) : gM l yX8_open wsX8_open rmX8_open D (gY c) (xE tb sa sv) [.ref (a 0 0), .int p0] (wX a c X) (some (.int r0)) (wX a c X) := by
  unfold fX8_open at h
  refine gM.I (cc := cX8_open) (maxL := 7) (by decide) rfl (Nat.le_of_ble_eq_true rfl) ?_
  intro p e s m args below meth cd hx hb hml hown hts A hA ls hl hP hK hD hS hE Q KR0
  have hfX8 : ∀ w ∈ u_ws RX8 TX8 12, w.before args s = true := fun w hw => hts w (List.mem_cons_of_mem _ (List.mem_append_left _ (List.mem_append_right _ hw)))
  have lk0 := hts (.fieldLink RX8 43 "GlitchNets" "cover" "LGlitchNets$Cover;") (List.mem_of_getElem? (i := 1) rfl)
  have hP := XP_iff.mp hP
  have hD := XD_of hD
  have KR : ∀ (v : Int32)  (H : Heap) (locs : List Loc) (pc : Nat) (ls : Array Slot), some v = some r0 → narrow .int (.int v) = .int v → XP D a c X H → va_S A s.heap H locs → decode cX8_open pc = .ok (.ireturn, 1) → W p l e rmX8_open s m args below meth cd H locs 0 0 Q (F0 m pc ls [.int v]) := by
    intro v  H locs pc ls hr hn hP hS hd
    cases hr
    exact KR0 _ H locs pc ls rfl hn (XP_iff.mpr hP) (hD.all c _) hS hd
  have hl : lv_has ls 7 [(0, .ref (a 0 0)), (1, .int p0)] := hl
  have J72 : ∀ (K34 : Int32 → Int64 → Int32 → Int32 → Int32 → Option (Int32)) (K34h : ∀ (x1 : Int32) (x2 : Int64) (x4 : Int32) (x5 : Int32) (x6 : Int32) (H : Heap) (locs : List Loc) (ls : Array Slot), K34 x1 x2 x4 x5 x6 = some r0 → XP D a c X H → va_S A s.heap H locs → lv_has ls 7 [(1, .int x1), (2, .long x2), (4, .int x4), (5, .int x5), (6, .int x6)] → W p l e rmX8_open s m args below meth cd H locs 0 0 Q (F0 m 34 ls [])) (x1 : Int32) (x2 : Int64) (x4 : Int32) (x5 : Int32) (x6 : Int32) (H : Heap) (locs : List Loc) (ls : Array Slot), fX8_open_b72 K34 X x1 x2 x4 x5 x6 = some r0 → XP D a c X H → va_S A s.heap H locs → lv_has ls 7 [(1, .int x1), (2, .long x2), (4, .int x4), (5, .int x5), (6, .int x6)] → W p l e rmX8_open s m args below meth cd H locs 0 0 Q (F0 m 72 ls []) := by
    intro K34 K34h x1 x2 x4 x5 x6 H locs ls h hP hS hl
    unfold fX8_open_b72 at h
    obtain ⟨v6_72, ev6_72, h⟩ := lt_i h
    refine lv_iinc (v := v6_72) (lv' := [(6, .int v6_72), (1, .int x1), (2, .long x2), (4, .int x4), (5, .int x5)]) (pc := 72) hx hb dX8_open_72 hl (k := 4) rfl (by rw [ev6_72]; rfl) (by decide) rfl (fun ls hl => ?_)
    refine lv_goto (tgt := 34) (pc := 75) hx hb dX8_open_75 (by decide) ?_
    have jr := K34h x1 x2 x4 x5 v6_72 _ _ ls h hP hS (lv_sub hl [1, 2, 3, 4, 0] rfl)
    exact jr
  have J34 : ∀ (K24 : Int32 → Int64 → Int32 → Int32 → Option (Int32)) (K24h : ∀ (x1 : Int32) (x2 : Int64) (x4 : Int32) (x5 : Int32) (H : Heap) (locs : List Loc) (ls : Array Slot), K24 x1 x2 x4 x5 = some r0 → XP D a c X H → va_S A s.heap H locs → lv_has ls 7 [(1, .int x1), (2, .long x2), (4, .int x4), (5, .int x5)] → W p l e rmX8_open s m args below meth cd H locs 0 0 Q (F0 m 24 ls [])) (n : Nat) (x1 : Int32) (x2 : Int64) (x4 : Int32) (x5 : Int32) (x6 : Int32) (H : Heap) (locs : List Loc) (ls : Array Slot), fX8_open_b34 K24 X n x1 x2 x4 x5 x6 = some r0 → XP D a c X H → va_S A s.heap H locs → lv_has ls 7 [(1, .int x1), (2, .long x2), (4, .int x4), (5, .int x5), (6, .int x6)] → W p l e rmX8_open s m args below meth cd H locs 0 0 Q (F0 m 34 ls []) := by
    intro K24 K24h n
    induction n with
    | zero =>
      intro x1 x2 x4 x5 x6 H locs ls h _ _ _
      cases (show (none : Option (Int32)) = some _ from h)
    | succ n K34h =>
      intro x1 x2 x4 x5 x6 H locs ls h hP hS hl
      rw [fX8_open_b34] at h
      refine lv_iload (pc := 34) hx hb dX8_open_34 (lv_at hl 4 rfl) ?_
      refine lv_iconst (v := 4) (pc := 36) hx hb dX8_open_36 (by decide) ?_
      refine lv_icmp_ge (tgt := 78) (pc := 37) hx hb dX8_open_37 (by decide) (fun c37 => ?_) (fun c37 => ?_)
      · replace h := it_t c37 h
        obtain ⟨v5_78, ev5_78, h⟩ := lt_i h
        refine lv_iinc (v := v5_78) (lv' := [(5, .int v5_78), (1, .int x1), (2, .long x2), (4, .int x4), (6, .int x6)]) (pc := 78) hx hb dX8_open_78 hl (k := 3) rfl (by rw [ev5_78]; rfl) (by decide) rfl (fun ls hl => ?_)
        refine lv_goto (tgt := 24) (pc := 81) hx hb dX8_open_81 (by decide) ?_
        have jr := K24h x1 x2 x4 v5_78 _ _ ls h hP hS (lv_sub hl [1, 2, 3, 0] rfl)
        exact jr
      · replace h := it_f c37 h
        refine lv_lload_n (pc := 40) hx hb dX8_open_40 rfl (lv_at hl 1 rfl) ?_
        refine lv_iload (pc := 41) hx hb dX8_open_41 (lv_at hl 3 rfl) ?_
        refine lv_iload (pc := 43) hx hb dX8_open_43 (lv_at hl 4 rfl) ?_
        obtain ⟨r45, hc45, h⟩ := b1_i h
        refine g_noneX (st1 := [.int r45]) (gr_S (n := 3) (rest := []) (pc := 45) hx hb hml hown hts (cX8_hasPair_met l D c tb sa sv x2 x5 x6 _ hc45) gX8_open_X8_hasPair rfl rfl rfl (by decide +kernel) rfl ⟨Nat.le_of_ble_eq_true rfl, Nat.le_of_ble_eq_true rfl⟩ ⟨Nat.zero_le _, Nat.zero_le _⟩ xE_ok g_P0 (g_D0 (A := A)) hK (xE_ok.tr hE hS (g_free0 hS hA)) hl.1 (Nat.le_of_ble_eq_true rfl) dX8_open_45 rfl) hP hS hA rfl (fun H locs hP hS => ?_)
        refine lv_if_ne (tgt := 54) (pc := 48) hx hb dX8_open_48 (by decide) (fun c48 => ?_) (fun c48 => ?_)
        · replace h := it_f c48 h
          refine lv_iload (pc := 54) hx hb dX8_open_54 (lv_at hl 2 rfl) ?_
          refine lv_iload_n (pc := 56) hx hb dX8_open_56 rfl (lv_at hl 0 rfl) ?_
          refine lv_icmp_ne (tgt := 69) (pc := 57) hx hb dX8_open_57 (by decide) (fun c57 => ?_) (fun c57 => ?_)
          · replace h := it_f c57 h
            obtain ⟨v4_69, ev4_69, h⟩ := lt_i h
            refine lv_iinc (v := v4_69) (lv' := [(4, .int v4_69), (1, .int x1), (2, .long x2), (5, .int x5), (6, .int x6)]) (pc := 69) hx hb dX8_open_69 hl (k := 2) rfl (by rw [ev4_69]; rfl) (by decide) rfl (fun ls hl => ?_)
            have jr := J72 (fX8_open_b34 K24 X n) K34h x1 x2 v4_69 x5 x6 _ _ ls h hP hS (lv_sub hl [1, 2, 0, 3, 4] rfl)
            exact jr
          · replace h := it_t c57 h
            refine lv_bipush (v := 16) (pc := 60) hx hb dX8_open_60 (by decide) ?_
            refine lv_iload (pc := 62) hx hb dX8_open_62 (lv_at hl 3 rfl) ?_
            refine lv_imul (pc := 64) hx hb dX8_open_64 ?_
            refine lv_iload (pc := 65) hx hb dX8_open_65 (lv_at hl 4 rfl) ?_
            refine lv_iadd (pc := 67) hx hb dX8_open_67 ?_
            have kr := KR (((16 : Int32) * x5) + x6)  _ _ 68 ls h rfl hP hS dX8_open_68
            exact kr
        · replace h := it_t c48 h
          refine lv_goto (tgt := 72) (pc := 51) hx hb dX8_open_51 (by decide) ?_
          have jr := J72 (fX8_open_b34 K24 X n) K34h x1 x2 x4 x5 x6 _ _ ls h hP hS hl
          exact jr
  have J24 : ∀ (n : Nat) (x1 : Int32) (x2 : Int64) (x4 : Int32) (x5 : Int32) (H : Heap) (locs : List Loc) (ls : Array Slot), fX8_open_b24 X n x1 x2 x4 x5 = some r0 → XP D a c X H → va_S A s.heap H locs → lv_has ls 7 [(1, .int x1), (2, .long x2), (4, .int x4), (5, .int x5)] → W p l e rmX8_open s m args below meth cd H locs 0 0 Q (F0 m 24 ls []) := by
    intro n
    induction n with
    | zero =>
      intro x1 x2 x4 x5 H locs ls h _ _ _
      cases (show (none : Option (Int32)) = some _ from h)
    | succ n K24h =>
      intro x1 x2 x4 x5 H locs ls h hP hS hl
      rw [fX8_open_b24] at h
      refine lv_iload (pc := 24) hx hb dX8_open_24 (lv_at hl 3 rfl) ?_
      refine lv_bipush (v := 16) (pc := 26) hx hb dX8_open_26 (by decide) ?_
      refine lv_icmp_ge (tgt := 84) (pc := 28) hx hb dX8_open_28 (by decide) (fun c28 => ?_) (fun c28 => ?_)
      · replace h := it_t c28 h
        refine lv_bipush (v := -12) (pc := 84) hx hb dX8_open_84 (by decide) ?_
        have kr := KR (-12 : Int32)  _ _ 86 ls h rfl hP hS dX8_open_86
        exact kr
      · replace h := it_f c28 h
        refine lv_iconst (v := 0) (pc := 31) hx hb dX8_open_31 (by decide) ?_
        refine lv_istore (lv' := [(6, .int (0 : Int32)), (1, .int x1), (2, .long x2), (4, .int x4), (5, .int x5)]) (pc := 32) hx hb dX8_open_32 hl (by decide) rfl (fun ls hl => ?_)
        have jr := J34 (fX8_open_b24 X n) K24h FU x1 x2 x4 x5 (0 : Int32) _ _ ls h hP hS (lv_sub hl [1, 2, 3, 4, 0] rfl)
        exact jr
  refine lv_aload_n (pc := 0) hx hb dX8_open_0 rfl (lv_at hl 0 rfl) ?_
  refine va_get (D := D) (ci := 8) (v := .ref ((a 6) 0)) (C := RX8) (T := TX8) (N := 12) (pc := 1) hx hb hfX8 (fun _ h9 => h9) hown hK (show va_P D vwCl (wX8 a c (X 0)) _ from hP 0 (by decide)) 0 rfl rfl 5 (by decide) lk0 (fun _ h9 => h9) rfl dX8_open_1 ?_
  obtain ⟨r4, hc4, h⟩ := b1_i h
  have hw : (wX0 (a 6) c (X 6)).map (·.1) = [6].flatMap (uA a) := rfl
  have hPc : va_P D vwCl (wX0 (a 6) c (X 6)) _ := hP 6 (by decide)
  have hDc : va_D A (wX0 (a 6) c (X 6)) := hD.of_addr (by decide) (by decide) hw
  refine g_X (X' := X) (st1 := [.long r4]) (gr_V (n := 0) (rest := []) (pc := 4) hx hb hml hown hts (cX0_openPairs_met l D c tb sa sv (a 6) (X 6) _ hc4) gX8_open_X0_openPairs rfl rfl rfl (by decide +kernel) rfl ⟨Nat.le_of_ble_eq_true rfl, Nat.le_of_ble_eq_true rfl⟩ ⟨Nat.zero_le _, Nat.zero_le _⟩ 0 0 rfl rfl rfl xE_ok hPc hDc hK (xE_ok.tr hE hS (g_freeX hD hS hA (by decide) (addr0 hw))) hl.1 (Nat.le_of_ble_eq_true rfl) dX8_open_4 rfl) hP hD hS hA (ks := [6]) (by decide) (addr0 hw) (fun k9 _ hk9 => rfl) (fun H1 hw1 => (List.forall_mem_cons.mpr ⟨hw1, (fun _ h9 => absurd h9 List.not_mem_nil)⟩)) rfl (fun H locs hP hS => ?_)
  refine lv_lstore_n (lv' := [(2, .long r4), (0, .ref (a 0 0)), (1, .int p0)]) (pc := 7) hx hb dX8_open_7 rfl hl (by decide) rfl (fun ls hl => ?_)
  refine lv_iload_n (pc := 8) hx hb dX8_open_8 rfl (lv_at hl 2 rfl) ?_
  refine lv_iconst (v := -1) (pc := 9) hx hb dX8_open_9 (by decide) ?_
  refine lv_icmp_ne (tgt := 18) (pc := 10) hx hb dX8_open_10 (by decide) (fun c10 => ?_) (fun c10 => ?_)
  · replace h := it_f c10 h
    refine lv_iconst (v := 0) (pc := 18) hx hb dX8_open_18 (by decide) ?_
    refine lv_istore (lv' := [(4, .int (0 : Int32)), (2, .long r4), (0, .ref (a 0 0)), (1, .int p0)]) (pc := 19) hx hb dX8_open_19 hl (by decide) rfl (fun ls hl => ?_)
    refine lv_iconst (v := 0) (pc := 21) hx hb dX8_open_21 (by decide) ?_
    refine lv_istore (lv' := [(5, .int (0 : Int32)), (4, .int (0 : Int32)), (2, .long r4), (0, .ref (a 0 0)), (1, .int p0)]) (pc := 22) hx hb dX8_open_22 hl (by decide) rfl (fun ls hl => ?_)
    have jr := J24 FU p0 r4 (0 : Int32) (0 : Int32) _ _ ls h hP hS (lv_sub hl [4, 2, 1, 0] rfl)
    exact jr
  · replace h := it_t c10 h
    refine lv_lload_n (pc := 13) hx hb dX8_open_13 rfl (lv_at hl 0 rfl) ?_
    obtain ⟨r14, hc14, h⟩ := b1_i h
    refine g_noneX (st1 := [.int r14]) (gr_S (n := 1) (rest := []) (pc := 14) hx hb hml hown hts (cJ13_bitCount_95d88_met l D c r4 _ hc14) gX8_open_J13_bitCount_95d88 rfl rfl rfl (by decide +kernel) rfl ⟨Nat.le_of_ble_eq_true rfl, Nat.le_of_ble_eq_true rfl⟩ ⟨Nat.zero_le _, Nat.zero_le _⟩ gT_ok g_P0 (g_D0 (A := A)) hK (fun _ _ _ => trivial) hl.1 (Nat.le_of_ble_eq_true rfl) dX8_open_14 rfl) hP hS hA rfl (fun H locs hP hS => ?_)
    have kr := KR r14  _ _ 17 ls h rfl hP hS dX8_open_17
    exact kr
abbrev rmX4_holdsOnly : Room := { frames := 1, cells := 0, slots := 0, locals := 24 }
set_option maxRecDepth 100000 in
set_option maxHeartbeats 40000000 in
theorem cX4_holdsOnly_met (l : Launch) (D : va_G) (c : Nat → ClassId) (tb : Nat) (sa sv : Nat → Nat)  (p0 : Int32) (p1 : Int32) (p2 : Int32) (r0 : Int32) (h : fX4_holdsOnly p0 p1 p2 = some r0) : gM l yX4_holdsOnly wsX4_holdsOnly rmX4_holdsOnly D (gY c) (xE tb sa sv) [.int p0, .int p1, .int p2] ([]) (some (.int r0)) ([]) := by
  unfold fX4_holdsOnly at h
  refine gM.I (cc := cX4_holdsOnly) (maxL := 3) (by decide) rfl (Nat.le_of_ble_eq_true rfl) ?_
  intro p e s m args below meth cd hx hb hml hown hts A hA ls hl hP hK hD hS hE Q KR0
  have lk0 := hts (.initialized RX8) (List.mem_of_getElem? (i := 2) rfl)
  have lk1 := hts (.static yX8_held) (List.mem_of_getElem? (i := 1) rfl)
  have KR : ∀ (v : Int32)  (H : Heap) (locs : List Loc) (pc : Nat) (ls : Array Slot), some v = some r0 → narrow .boolean (.int v) = .int v → va_P D vwCl ([]) H → va_D A ([]) → va_S A s.heap H locs → decode cX4_holdsOnly pc = .ok (.ireturn, 1) → W p l e rmX4_holdsOnly s m args below meth cd H locs 0 0 Q (F0 m pc ls [.int v]) := by
    intro v  H locs pc ls hr hn hP hD hS hd
    cases hr
    exact KR0 _ H locs pc ls rfl hn hP hD hS hd
  have hl : lv_has ls 3 [(0, .int p0), (1, .int p1), (2, .int p2)] := hl
  refine lv_iload_n (pc := 0) hx hb dX4_holdsOnly_0 rfl (lv_at hl 0 rfl) ?_
  refine lv_iload_n (pc := 1) hx hb dX4_holdsOnly_1 rfl (lv_at hl 1 rfl) ?_
  obtain ⟨r2, hc2, h⟩ := b1_i h
  refine g_none (st1 := [.int r2]) (gr_SN (n := 2) (rest := []) (pc := 2) hx hb hml hown hts (cX8_held_met l D c tb sa sv p0 p1 _ hc2) gX4_holdsOnly_X8_held_n40 rfl rfl rfl (xE_n13 hE) lk0 lk1 (by decide +kernel) rfl ⟨Nat.le_of_ble_eq_true rfl, Nat.le_of_ble_eq_true rfl⟩ ⟨Nat.zero_le _, Nat.zero_le _⟩ xE_ok g_P0 (g_D0 (A := A)) hK (xE_ok.tr hE hS (g_free0 hS hA)) hl.1 (Nat.le_of_ble_eq_true rfl) dX4_holdsOnly_2 rfl) hP hS hA rfl (fun H locs hP hS => ?_)
  refine lv_iload_n (pc := 5) hx hb dX4_holdsOnly_5 rfl (lv_at hl 2 rfl) ?_
  refine lv_iconst (v := -1) (pc := 6) hx hb dX4_holdsOnly_6 (by decide) ?_
  refine lv_ixor (pc := 7) hx hb dX4_holdsOnly_7 ?_
  refine lv_iand (pc := 8) hx hb dX4_holdsOnly_8 ?_
  refine lv_if_ne (tgt := 16) (pc := 9) hx hb dX4_holdsOnly_9 (by decide) (fun c9 => ?_) (fun c9 => ?_)
  · replace h := it_f c9 h
    refine lv_iconst (v := 0) (pc := 16) hx hb dX4_holdsOnly_16 (by decide) ?_
    have kr := KR (0 : Int32)  _ _ 17 ls h rfl hP hD hS dX4_holdsOnly_17
    exact kr
  · replace h := it_t c9 h
    refine lv_iconst (v := 1) (pc := 12) hx hb dX4_holdsOnly_12 (by decide) ?_
    refine lv_goto (tgt := 17) (pc := 13) hx hb dX4_holdsOnly_13 (by decide) ?_
    have kr := KR (1 : Int32)  _ _ 17 ls h rfl hP hD hS dX4_holdsOnly_17
    exact kr
abbrev rmX4_isPrime : Room := { frames := 2, cells := 0, slots := 0, locals := 46 }
set_option maxRecDepth 100000 in
set_option maxHeartbeats 40000000 in
theorem cX4_isPrime_met (l : Launch) (D : va_G) (c : Nat → ClassId) (tb : Nat) (sa sv : Nat → Nat)  (p0 : Int32) (p1 : Int32) (p2 : Int32) (r0 : Int32) (h : fX4_isPrime p0 p1 p2 = some r0) : gM l yX4_isPrime wsX4_isPrime rmX4_isPrime D (gY c) (xE tb sa sv) [.int p0, .int p1, .int p2] ([]) (some (.int r0)) ([]) := by
  unfold fX4_isPrime at h
  refine gM.I (cc := cX4_isPrime) (maxL := 5) (by decide) rfl (Nat.le_of_ble_eq_true rfl) ?_
  intro p e s m args below meth cd hx hb hml hown hts A hA ls hl hP hK hD hS hE Q KR0
  have KR : ∀ (v : Int32)  (H : Heap) (locs : List Loc) (pc : Nat) (ls : Array Slot), some v = some r0 → narrow .boolean (.int v) = .int v → va_P D vwCl ([]) H → va_D A ([]) → va_S A s.heap H locs → decode cX4_isPrime pc = .ok (.ireturn, 1) → W p l e rmX4_isPrime s m args below meth cd H locs 0 0 Q (F0 m pc ls [.int v]) := by
    intro v  H locs pc ls hr hn hP hD hS hd
    cases hr
    exact KR0 _ H locs pc ls rfl hn hP hD hS hd
  have hl : lv_has ls 5 [(0, .int p0), (1, .int p1), (2, .int p2)] := hl
  have J48 : ∀ (K13 : Int32 → Int32 → Int32 → Int32 → Option (Int32)) (K13h : ∀ (x0 : Int32) (x1 : Int32) (x2 : Int32) (x3 : Int32) (H : Heap) (locs : List Loc) (ls : Array Slot), K13 x0 x1 x2 x3 = some r0 → va_P D vwCl ([]) H → va_D A ([]) → va_S A s.heap H locs → lv_has ls 5 [(0, .int x0), (1, .int x1), (2, .int x2), (3, .int x3)] → W p l e rmX4_isPrime s m args below meth cd H locs 0 0 Q (F0 m 13 ls [])) (x0 : Int32) (x1 : Int32) (x2 : Int32) (x3 : Int32) (H : Heap) (locs : List Loc) (ls : Array Slot), fX4_isPrime_b48 K13 x0 x1 x2 x3 = some r0 → va_P D vwCl ([]) H → va_D A ([]) → va_S A s.heap H locs → lv_has ls 5 [(0, .int x0), (1, .int x1), (2, .int x2), (3, .int x3)] → W p l e rmX4_isPrime s m args below meth cd H locs 0 0 Q (F0 m 48 ls []) := by
    intro K13 K13h x0 x1 x2 x3 H locs ls h hP hD hS hl
    unfold fX4_isPrime_b48 at h
    obtain ⟨v3_48, ev3_48, h⟩ := lt_i h
    refine lv_iinc (v := v3_48) (lv' := [(3, .int v3_48), (0, .int x0), (1, .int x1), (2, .int x2)]) (pc := 48) hx hb dX4_isPrime_48 hl (k := 3) rfl (by rw [ev3_48]; rfl) (by decide) rfl (fun ls hl => ?_)
    refine lv_goto (tgt := 13) (pc := 51) hx hb dX4_isPrime_51 (by decide) ?_
    have jr := K13h x0 x1 x2 v3_48 _ _ ls h hP hD hS (lv_sub hl [1, 2, 3, 0] rfl)
    exact jr
  have J13 : ∀ (n : Nat) (x0 : Int32) (x1 : Int32) (x2 : Int32) (x3 : Int32) (H : Heap) (locs : List Loc) (ls : Array Slot), fX4_isPrime_b13 n x0 x1 x2 x3 = some r0 → va_P D vwCl ([]) H → va_D A ([]) → va_S A s.heap H locs → lv_has ls 5 [(0, .int x0), (1, .int x1), (2, .int x2), (3, .int x3)] → W p l e rmX4_isPrime s m args below meth cd H locs 0 0 Q (F0 m 13 ls []) := by
    intro n
    induction n with
    | zero =>
      intro x0 x1 x2 x3 H locs ls h _ _ _ _
      cases (show (none : Option (Int32)) = some _ from h)
    | succ n K13h =>
      intro x0 x1 x2 x3 H locs ls h hP hD hS hl
      rw [fX4_isPrime_b13] at h
      refine lv_iload_n (pc := 13) hx hb dX4_isPrime_13 rfl (lv_at hl 3 rfl) ?_
      refine lv_iconst (v := 4) (pc := 14) hx hb dX4_isPrime_14 (by decide) ?_
      refine lv_icmp_ge (tgt := 54) (pc := 15) hx hb dX4_isPrime_15 (by decide) (fun c15 => ?_) (fun c15 => ?_)
      · replace h := it_t c15 h
        refine lv_iconst (v := 1) (pc := 54) hx hb dX4_isPrime_54 (by decide) ?_
        have kr := KR (1 : Int32)  _ _ 55 ls h rfl hP hD hS dX4_isPrime_55
        exact kr
      · replace h := it_f c15 h
        refine lv_iload_n (pc := 18) hx hb dX4_isPrime_18 rfl (lv_at hl 0 rfl) ?_
        refine lv_iconst (v := 1) (pc := 19) hx hb dX4_isPrime_19 (by decide) ?_
        refine lv_iload_n (pc := 20) hx hb dX4_isPrime_20 rfl (lv_at hl 3 rfl) ?_
        refine lv_ishl (pc := 21) hx hb dX4_isPrime_21 ?_
        refine lv_iconst (v := -1) (pc := 22) hx hb dX4_isPrime_22 (by decide) ?_
        refine lv_ixor (pc := 23) hx hb dX4_isPrime_23 ?_
        refine lv_iand (pc := 24) hx hb dX4_isPrime_24 ?_
        refine lv_topi (fun v4_25 ev4_25 => ?_)
        replace h := lt_e ev4_25 h
        refine lv_istore (lv' := [(4, .int v4_25), (0, .int x0), (1, .int x1), (2, .int x2), (3, .int x3)]) (pc := 25) hx hb dX4_isPrime_25 hl (by decide) rfl (fun ls hl => ?_)
        refine lv_iload (pc := 27) hx hb dX4_isPrime_27 (lv_at hl 0 rfl) ?_
        refine lv_iload_n (pc := 29) hx hb dX4_isPrime_29 rfl (lv_at hl 1 rfl) ?_
        refine lv_icmp_eq (tgt := 48) (pc := 30) hx hb dX4_isPrime_30 (by decide) (fun c30 => ?_) (fun c30 => ?_)
        · replace h := it_t c30 h
          have jr := J48 (fX4_isPrime_b13 n) K13h x0 x1 x2 x3 _ _ ls h hP hD hS (lv_sub hl [1, 2, 3, 4] rfl)
          exact jr
        · replace h := it_f c30 h
          refine lv_iload (pc := 33) hx hb dX4_isPrime_33 (lv_at hl 0 rfl) ?_
          refine lv_iload_n (pc := 35) hx hb dX4_isPrime_35 rfl (lv_at hl 2 rfl) ?_
          refine lv_iload (pc := 36) hx hb dX4_isPrime_36 (lv_at hl 0 rfl) ?_
          refine lv_iand (pc := 38) hx hb dX4_isPrime_38 ?_
          refine lv_iload_n (pc := 39) hx hb dX4_isPrime_39 rfl (lv_at hl 3 rfl) ?_
          obtain ⟨r40, hc40, h⟩ := b1_i h
          refine g_none (st1 := [.int r40]) (gr_S (n := 3) (rest := []) (pc := 40) hx hb hml hown hts (cX4_holdsOnly_met l D c tb sa sv v4_25 ((x1 &&& v4_25)) x2 _ hc40) gX4_isPrime_X4_holdsOnly rfl rfl rfl (by decide +kernel) rfl ⟨Nat.le_of_ble_eq_true rfl, Nat.le_of_ble_eq_true rfl⟩ ⟨Nat.zero_le _, Nat.zero_le _⟩ xE_ok g_P0 (g_D0 (A := A)) hK (xE_ok.tr hE hS (g_free0 hS hA)) hl.1 (Nat.le_of_ble_eq_true rfl) dX4_isPrime_40 rfl) hP hS hA rfl (fun H locs hP hS => ?_)
          refine lv_if_eq (tgt := 48) (pc := 43) hx hb dX4_isPrime_43 (by decide) (fun c43 => ?_) (fun c43 => ?_)
          · replace h := it_t c43 h
            have jr := J48 (fX4_isPrime_b13 n) K13h x0 x1 x2 x3 _ _ ls h hP hD hS (lv_sub hl [1, 2, 3, 4] rfl)
            exact jr
          · replace h := it_f c43 h
            refine lv_iconst (v := 0) (pc := 46) hx hb dX4_isPrime_46 (by decide) ?_
            have kr := KR (0 : Int32)  _ _ 47 ls h rfl hP hD hS dX4_isPrime_47
            exact kr
  refine lv_iload_n (pc := 0) hx hb dX4_isPrime_0 rfl (lv_at hl 0 rfl) ?_
  refine lv_iload_n (pc := 1) hx hb dX4_isPrime_1 rfl (lv_at hl 1 rfl) ?_
  refine lv_iload_n (pc := 2) hx hb dX4_isPrime_2 rfl (lv_at hl 2 rfl) ?_
  obtain ⟨r3, hc3, h⟩ := b1_i h
  refine g_none (st1 := [.int r3]) (gr_S (n := 3) (rest := []) (pc := 3) hx hb hml hown hts (cX4_holdsOnly_met l D c tb sa sv p0 p1 p2 _ hc3) gX4_isPrime_X4_holdsOnly rfl rfl rfl (by decide +kernel) rfl ⟨Nat.le_of_ble_eq_true rfl, Nat.le_of_ble_eq_true rfl⟩ ⟨Nat.zero_le _, Nat.zero_le _⟩ xE_ok g_P0 (g_D0 (A := A)) hK (xE_ok.tr hE hS (g_free0 hS hA)) hl.1 (Nat.le_of_ble_eq_true rfl) dX4_isPrime_3 rfl) hP hS hA rfl (fun H locs hP hS => ?_)
  refine lv_if_ne (tgt := 11) (pc := 6) hx hb dX4_isPrime_6 (by decide) (fun c6 => ?_) (fun c6 => ?_)
  · replace h := it_f c6 h
    refine lv_iconst (v := 0) (pc := 11) hx hb dX4_isPrime_11 (by decide) ?_
    refine lv_istore_n (lv' := [(3, .int (0 : Int32)), (0, .int p0), (1, .int p1), (2, .int p2)]) (pc := 12) hx hb dX4_isPrime_12 rfl hl (by decide) rfl (fun ls hl => ?_)
    have jr := J13 FU p0 p1 p2 (0 : Int32) _ _ ls h hP hD hS (lv_sub hl [1, 2, 3, 0] rfl)
    exact jr
  · replace h := it_t c6 h
    refine lv_iconst (v := 0) (pc := 9) hx hb dX4_isPrime_9 (by decide) ?_
    have kr := KR (0 : Int32)  _ _ 10 ls h rfl hP hD hS dX4_isPrime_10
    exact kr
abbrev rmX4_append : Room := { frames := 1, cells := 0, slots := 0, locals := 26 }
set_option maxRecDepth 100000 in
set_option maxHeartbeats 40000000 in
theorem cX4_append_met (l : Launch) (D : va_G) (c : Nat → ClassId) (tb : Nat) (sa sv : Nat → Nat) (a0 : Nat → Nat) (p0 : Int32) (p1 : Int32) (s0 : Mem) (z0 : Mem) (h : fX4_append p0 p1 s0 = some z0) : gM l yX4_append wsX4_append rmX4_append D (gY c) (xE tb sa sv) [.ref (a0 0), .int p0, .int p1] (wX4 a0 c s0) none (wX4 a0 c z0) := by
  unfold fX4_append at h
  refine gM.V (cc := cX4_append) (maxL := 3) (by decide) rfl (Nat.le_of_ble_eq_true rfl) ?_
  intro p e s m args below meth cd hx hb hml hown hts A hA ls hl hP hK hD hS hE Q KR0
  have hfX4 : ∀ w ∈ u_ws RX4 TX4 5, w.before args s = true := fun w hw => hts w (List.mem_cons_of_mem _ (List.mem_append_right _ hw))
  have lk0 := hts (.fieldLink RX4 25 "GlitchNets$Primes" "size" "I") (List.mem_of_getElem? (i := 1) rfl)
  have lk1 := hts (.fieldLink RX4 11 "GlitchNets$Primes" "cares" "[I") (List.mem_of_getElem? (i := 2) rfl)
  have lk2 := hts (.fieldLink RX4 15 "GlitchNets$Primes" "wants" "[I") (List.mem_of_getElem? (i := 3) rfl)
  have lk3 := hts (.fieldLink RX4 18 "GlitchNets$Primes" "pairs" "[J") (List.mem_of_getElem? (i := 4) rfl)
  have lk4 := hts (.initialized RX8) (List.mem_of_getElem? (i := 7) rfl)
  have lk5 := hts (.static yX8_held) (List.mem_of_getElem? (i := 6) rfl)
  have lk6 := hts (.static yX8_pairsAmong) (List.mem_of_getElem? (i := 11) rfl)
  have lk7 := hts (.fieldLink RX4 22 "GlitchNets$Primes" "reach" "[J") (List.mem_of_getElem? (i := 5) rfl)
  have KR : ∀ (w0 : Mem) (H : Heap) (locs : List Loc) (pc : Nat) (ls : Array Slot), some w0 = some z0 → va_P D vwCl (wX4 a0 c w0) H → va_D A (wX4 a0 c w0) → va_S A s.heap H locs → decode cX4_append pc = .ok (.return_, 1) → W p l e rmX4_append s m args below meth cd H locs 0 0 Q (F0 m pc ls []) := by
    intro w0 H locs pc ls hr hP hD hS hd
    cases hr
    exact KR0 H locs pc ls hP hD hS hd
  have hl : lv_has ls 3 [(0, .ref (a0 0)), (1, .int p0), (2, .int p1)] := hl
  refine lv_aload_n (pc := 0) hx hb dX4_append_0 rfl (lv_at hl 0 rfl) ?_
  refine va_get (D := D) (ci := 4) (v := .int (s0.1 2 0)) (C := RX4) (T := TX4) (N := 5) (pc := 1) hx hb hfX4 (fun _ h9 => h9) hown hK hP 0 rfl rfl 2 (by decide) lk0 (fun _ h9 => h9) rfl dX4_append_1 ?_
  refine lv_bipush (v := 32) (pc := 4) hx hb dX4_append_4 (by decide) ?_
  refine lv_icmp_lt (tgt := 10) (pc := 6) hx hb dX4_append_6 (by decide) (fun c6 => ?_) (fun c6 => ?_)
  · replace h := it_t c6 h
    refine lv_aload_n (pc := 10) hx hb dX4_append_10 rfl (lv_at hl 0 rfl) ?_
    refine va_get (D := D) (ci := 4) (v := .ref (a0 1)) (C := RX4) (T := TX4) (N := 5) (pc := 11) hx hb hfX4 (fun _ h9 => h9) hown hK hP 0 rfl rfl 0 (by decide) lk1 (fun _ h9 => h9) rfl dX4_append_11 ?_
    refine lv_aload_n (pc := 14) hx hb dX4_append_14 rfl (lv_at hl 0 rfl) ?_
    refine va_get (D := D) (ci := 4) (v := .int (s0.1 2 0)) (C := RX4) (T := TX4) (N := 5) (pc := 15) hx hb hfX4 (fun _ h9 => h9) hown hK hP 0 rfl rfl 2 (by decide) lk0 (fun _ h9 => h9) rfl dX4_append_15 ?_
    refine lv_iload_n (pc := 18) hx hb dX4_append_18 rfl (lv_at hl 1 rfl) ?_
    obtain ⟨hk19, h⟩ := ckI_i h
    refine va_iast (D := D) (f := (s0.1 0)) (pc := 19) hx hb hK hP hD hS 1 0 rfl rfl hk19 dX4_append_19 (fun H locs hP hD hS => ?_)
    have hP : va_P D vwCl (wX4 a0 c (mi s0 0 ((s0.1 2 0)).toNatClampNeg p0)) H := hP
    have hD : va_D A (wX4 a0 c (mi s0 0 ((s0.1 2 0)).toNatClampNeg p0)) := hD
    refine lv_aload_n (pc := 20) hx hb dX4_append_20 rfl (lv_at hl 0 rfl) ?_
    refine va_get (D := D) (ci := 4) (v := .ref (a0 2)) (C := RX4) (T := TX4) (N := 5) (pc := 21) hx hb hfX4 (fun _ h9 => h9) hown hK hP 0 rfl rfl 1 (by decide) lk2 (fun _ h9 => h9) rfl dX4_append_21 ?_
    refine lv_aload_n (pc := 24) hx hb dX4_append_24 rfl (lv_at hl 0 rfl) ?_
    refine va_get (D := D) (ci := 4) (v := .int ((mi s0 0 ((s0.1 2 0)).toNatClampNeg p0).1 2 0)) (C := RX4) (T := TX4) (N := 5) (pc := 25) hx hb hfX4 (fun _ h9 => h9) hown hK hP 0 rfl rfl 2 (by decide) lk0 (fun _ h9 => h9) rfl dX4_append_25 ?_
    refine lv_iload_n (pc := 28) hx hb dX4_append_28 rfl (lv_at hl 2 rfl) ?_
    obtain ⟨hk29, h⟩ := ckI_i h
    refine va_iast (D := D) (f := ((mi s0 0 ((s0.1 2 0)).toNatClampNeg p0).1 1)) (pc := 29) hx hb hK hP hD hS 2 0 rfl rfl hk29 dX4_append_29 (fun H locs hP hD hS => ?_)
    obtain ⟨m0_29, em0_29, h⟩ := lt_i h
    have hP : va_P D vwCl (wX4 a0 c m0_29) H := by rw [em0_29]; exact hP
    have hD : va_D A (wX4 a0 c m0_29) := by rw [em0_29]; exact hD
    refine lv_aload_n (pc := 30) hx hb dX4_append_30 rfl (lv_at hl 0 rfl) ?_
    refine va_get (D := D) (ci := 4) (v := .ref (a0 3)) (C := RX4) (T := TX4) (N := 5) (pc := 31) hx hb hfX4 (fun _ h9 => h9) hown hK hP 0 rfl rfl 3 (by decide) lk3 (fun _ h9 => h9) rfl dX4_append_31 ?_
    refine lv_aload_n (pc := 34) hx hb dX4_append_34 rfl (lv_at hl 0 rfl) ?_
    refine va_get (D := D) (ci := 4) (v := .int (m0_29.1 2 0)) (C := RX4) (T := TX4) (N := 5) (pc := 35) hx hb hfX4 (fun _ h9 => h9) hown hK hP 0 rfl rfl 2 (by decide) lk0 (fun _ h9 => h9) rfl dX4_append_35 ?_
    refine lv_iload_n (pc := 38) hx hb dX4_append_38 rfl (lv_at hl 1 rfl) ?_
    refine lv_iload_n (pc := 39) hx hb dX4_append_39 rfl (lv_at hl 2 rfl) ?_
    obtain ⟨r40, hc40, h⟩ := b1_i h
    refine g_none (st1 := [.int r40, .int (m0_29.1 2 0), .ref (a0 3)]) (gr_SN (n := 2) (rest := [.int (m0_29.1 2 0), .ref (a0 3)]) (pc := 40) hx hb hml hown hts (cX8_held_met l D c tb sa sv p0 p1 _ hc40) gX4_append_X8_held_n40 rfl rfl rfl (xE_n13 hE) lk4 lk5 (by decide +kernel) rfl ⟨Nat.le_of_ble_eq_true rfl, Nat.le_of_ble_eq_true rfl⟩ ⟨Nat.zero_le _, Nat.zero_le _⟩ xE_ok g_P0 (g_D0 (A := A)) hK (xE_ok.tr hE hS (g_free0 hS hA)) hl.1 (Nat.le_of_ble_eq_true rfl) dX4_append_40 rfl) hP hS hA rfl (fun H locs hP hS => ?_)
    obtain ⟨r43, hc43, h⟩ := b1_i h
    refine g_none (st1 := [.long r43, .int (m0_29.1 2 0), .ref (a0 3)]) (gr_SN (n := 1) (rest := [.int (m0_29.1 2 0), .ref (a0 3)]) (pc := 43) hx hb hml hown hts (cX8_pairsAmong_met l D c tb sa sv r40 _ hc43) gX4_append_X8_pairsAmong_n44 rfl rfl rfl (xE_n14 hE) lk4 lk6 (by decide +kernel) rfl ⟨Nat.le_of_ble_eq_true rfl, Nat.le_of_ble_eq_true rfl⟩ ⟨Nat.zero_le _, Nat.zero_le _⟩ xE_ok g_P0 (g_D0 (A := A)) hK (xE_ok.tr hE hS (g_free0 hS hA)) hl.1 (Nat.le_of_ble_eq_true rfl) dX4_append_43 rfl) hP hS hA rfl (fun H locs hP hS => ?_)
    obtain ⟨hk46, h⟩ := ckI_i h
    refine va_last (D := D) (f := (m0_29.2 3)) (pc := 46) hx hb hK hP hD hS 3 1 rfl rfl hk46 dX4_append_46 (fun H locs hP hD hS => ?_)
    have hP : va_P D vwCl (wX4 a0 c (ml m0_29 3 ((m0_29.1 2 0)).toNatClampNeg r43)) H := hP
    have hD : va_D A (wX4 a0 c (ml m0_29 3 ((m0_29.1 2 0)).toNatClampNeg r43)) := hD
    refine lv_aload_n (pc := 47) hx hb dX4_append_47 rfl (lv_at hl 0 rfl) ?_
    refine va_get (D := D) (ci := 4) (v := .ref (a0 4)) (C := RX4) (T := TX4) (N := 5) (pc := 48) hx hb hfX4 (fun _ h9 => h9) hown hK hP 0 rfl rfl 4 (by decide) lk7 (fun _ h9 => h9) rfl dX4_append_48 ?_
    refine lv_aload_n (pc := 51) hx hb dX4_append_51 rfl (lv_at hl 0 rfl) ?_
    refine va_get (D := D) (ci := 4) (v := .int ((ml m0_29 3 ((m0_29.1 2 0)).toNatClampNeg r43).1 2 0)) (C := RX4) (T := TX4) (N := 5) (pc := 52) hx hb hfX4 (fun _ h9 => h9) hown hK hP 0 rfl rfl 2 (by decide) lk0 (fun _ h9 => h9) rfl dX4_append_52 ?_
    refine lv_iconst (v := 1) (pc := 55) hx hb dX4_append_55 (by decide) ?_
    refine lv_iadd (pc := 56) hx hb dX4_append_56 ?_
    refine lv_aload_n (pc := 57) hx hb dX4_append_57 rfl (lv_at hl 0 rfl) ?_
    refine va_get (D := D) (ci := 4) (v := .ref (a0 4)) (C := RX4) (T := TX4) (N := 5) (pc := 58) hx hb hfX4 (fun _ h9 => h9) hown hK hP 0 rfl rfl 4 (by decide) lk7 (fun _ h9 => h9) rfl dX4_append_58 ?_
    refine lv_aload_n (pc := 61) hx hb dX4_append_61 rfl (lv_at hl 0 rfl) ?_
    refine va_get (D := D) (ci := 4) (v := .int ((ml m0_29 3 ((m0_29.1 2 0)).toNatClampNeg r43).1 2 0)) (C := RX4) (T := TX4) (N := 5) (pc := 62) hx hb hfX4 (fun _ h9 => h9) hown hK hP 0 rfl rfl 2 (by decide) lk0 (fun _ h9 => h9) rfl dX4_append_62 ?_
    obtain ⟨hk65, h⟩ := ckI_i h
    refine va_lald (D := D) (f := ((ml m0_29 3 ((m0_29.1 2 0)).toNatClampNeg r43).2 4)) (pc := 65) hx hb hK hP 4 1 rfl rfl hk65 dX4_append_65 ?_
    refine lv_aload_n (pc := 66) hx hb dX4_append_66 rfl (lv_at hl 0 rfl) ?_
    refine va_get (D := D) (ci := 4) (v := .ref (a0 3)) (C := RX4) (T := TX4) (N := 5) (pc := 67) hx hb hfX4 (fun _ h9 => h9) hown hK hP 0 rfl rfl 3 (by decide) lk3 (fun _ h9 => h9) rfl dX4_append_67 ?_
    refine lv_aload_n (pc := 70) hx hb dX4_append_70 rfl (lv_at hl 0 rfl) ?_
    refine va_get (D := D) (ci := 4) (v := .int ((ml m0_29 3 ((m0_29.1 2 0)).toNatClampNeg r43).1 2 0)) (C := RX4) (T := TX4) (N := 5) (pc := 71) hx hb hfX4 (fun _ h9 => h9) hown hK hP 0 rfl rfl 2 (by decide) lk0 (fun _ h9 => h9) rfl dX4_append_71 ?_
    obtain ⟨hk74, h⟩ := ckI_i h
    refine va_lald (D := D) (f := ((ml m0_29 3 ((m0_29.1 2 0)).toNatClampNeg r43).2 3)) (pc := 74) hx hb hK hP 3 1 rfl rfl hk74 dX4_append_74 ?_
    refine lv_lor (pc := 75) hx hb dX4_append_75 ?_
    obtain ⟨hk76, h⟩ := ckI_i h
    refine va_last (D := D) (f := ((ml m0_29 3 ((m0_29.1 2 0)).toNatClampNeg r43).2 4)) (pc := 76) hx hb hK hP hD hS 4 1 rfl rfl hk76 dX4_append_76 (fun H locs hP hD hS => ?_)
    obtain ⟨m0_76, em0_76, h⟩ := lt_i h
    have hP : va_P D vwCl (wX4 a0 c m0_76) H := by rw [em0_76]; exact hP
    have hD : va_D A (wX4 a0 c m0_76) := by rw [em0_76]; exact hD
    refine lv_aload_n (pc := 77) hx hb dX4_append_77 rfl (lv_at hl 0 rfl) ?_
    refine lv_dup (pc := 78) hx hb dX4_append_78 rfl ?_
    refine va_get (D := D) (ci := 4) (v := .int (m0_76.1 2 0)) (C := RX4) (T := TX4) (N := 5) (pc := 79) hx hb hfX4 (fun _ h9 => h9) hown hK hP 0 rfl rfl 2 (by decide) lk0 (fun _ h9 => h9) rfl dX4_append_79 ?_
    refine lv_iconst (v := 1) (pc := 82) hx hb dX4_append_82 (by decide) ?_
    refine lv_iadd (pc := 83) hx hb dX4_append_83 ?_
    refine va_put (D := D) (ci := 4) (v := .int ((m0_76.1 2 0) + (1 : Int32))) (ty := .int) (C := RX4) (T := TX4) (N := 5) (pc := 84) hx hb hfX4 (fun _ h9 => h9) tyX4 tyX4_ok nmX4 hown hK hP hD hS 0 rfl rfl 2 (by decide) lk0 (fun _ h9 => h9) rfl (by decide +kernel) rfl rfl (Nat.le_of_ble_eq_true rfl) dX4_append_84 (fun H locs hP hD hS => ?_)
    have hP : va_P D vwCl (wX4 a0 c (mi m0_76 2 0 ((m0_76.1 2 0) + (1 : Int32)))) H := hP
    have hD : va_D A (wX4 a0 c (mi m0_76 2 0 ((m0_76.1 2 0) + (1 : Int32)))) := hD
    have kr := KR (mi m0_76 2 0 ((m0_76.1 2 0) + (1 : Int32))) _ _ 87 ls h hP hD hS dX4_append_87
    exact kr
  · replace h := it_f c6 h
    have kr := KR s0 _ _ 9 ls h hP hD hS dX4_append_9
    exact kr
abbrev rmX4_find : Room := { frames := 3, cells := 0, slots := 0, locals := 70 }
set_option maxRecDepth 100000 in
set_option maxHeartbeats 40000000 in
theorem cX4_find_met (l : Launch) (D : va_G) (c : Nat → ClassId) (tb : Nat) (sa sv : Nat → Nat) (a0 : Nat → Nat) (p0 : Int32) (s0 : Mem) (z0 : Mem) (h : fX4_find p0 s0 = some z0) : gM l yX4_find wsX4_find rmX4_find D (gY c) (xE tb sa sv) [.ref (a0 0), .int p0] (wX4 a0 c s0) none (wX4 a0 c z0) := by
  unfold fX4_find at h
  refine gM.V (cc := cX4_find) (maxL := 4) (by decide) rfl (Nat.le_of_ble_eq_true rfl) ?_
  intro p e s m args below meth cd hx hb hml hown hts A hA ls hl hP hK hD hS hE Q KR0
  have hfX4 : ∀ w ∈ u_ws RX4 TX4 5, w.before args s = true := fun w hw => hts w (List.mem_cons_of_mem _ (List.mem_append_right _ hw))
  have lk0 := hts (.fieldLink RX4 25 "GlitchNets$Primes" "size" "I") (List.mem_of_getElem? (i := 1) rfl)
  have KR : ∀ (w0 : Mem) (H : Heap) (locs : List Loc) (pc : Nat) (ls : Array Slot), some w0 = some z0 → va_P D vwCl (wX4 a0 c w0) H → va_D A (wX4 a0 c w0) → va_S A s.heap H locs → decode cX4_find pc = .ok (.return_, 1) → W p l e rmX4_find s m args below meth cd H locs 0 0 Q (F0 m pc ls []) := by
    intro w0 H locs pc ls hr hP hD hS hd
    cases hr
    exact KR0 H locs pc ls hP hD hS hd
  have hl : lv_has ls 4 [(0, .ref (a0 0)), (1, .int p0)] := hl
  have J43 : ∀ (K15 : Int32 → Int32 → Int32 → Mem → Option (Mem)) (K15h : ∀ (x1 : Int32) (x2 : Int32) (x3 : Int32) (s0 : Mem) (H : Heap) (locs : List Loc) (ls : Array Slot), K15 x1 x2 x3 s0 = some z0 → va_P D vwCl (wX4 a0 c s0) H → va_D A (wX4 a0 c s0) → va_S A s.heap H locs → lv_has ls 4 [(0, .ref (a0 0)), (1, .int x1), (2, .int x2), (3, .int x3)] → W p l e rmX4_find s m args below meth cd H locs 0 0 Q (F0 m 15 ls [])) (x1 : Int32) (x2 : Int32) (x3 : Int32) (s0 : Mem) (H : Heap) (locs : List Loc) (ls : Array Slot), fX4_find_b43 K15 x1 x2 x3 s0 = some z0 → va_P D vwCl (wX4 a0 c s0) H → va_D A (wX4 a0 c s0) → va_S A s.heap H locs → lv_has ls 4 [(0, .ref (a0 0)), (1, .int x1), (2, .int x2), (3, .int x3)] → W p l e rmX4_find s m args below meth cd H locs 0 0 Q (F0 m 43 ls []) := by
    intro K15 K15h x1 x2 x3 s0 H locs ls h hP hD hS hl
    unfold fX4_find_b43 at h
    obtain ⟨v3_43, ev3_43, h⟩ := lt_i h
    refine lv_iinc (v := v3_43) (lv' := [(3, .int v3_43), (0, .ref (a0 0)), (1, .int x1), (2, .int x2)]) (pc := 43) hx hb dX4_find_43 hl (k := 3) rfl (by rw [ev3_43]; rfl) (by decide) rfl (fun ls hl => ?_)
    refine lv_goto (tgt := 15) (pc := 46) hx hb dX4_find_46 (by decide) ?_
    have jr := K15h x1 x2 v3_43 s0 _ _ ls h hP hD hS (lv_sub hl [1, 2, 3, 0] rfl)
    exact jr
  have J15 : ∀ (K7 : Int32 → Int32 → Mem → Option (Mem)) (K7h : ∀ (x1 : Int32) (x2 : Int32) (s0 : Mem) (H : Heap) (locs : List Loc) (ls : Array Slot), K7 x1 x2 s0 = some z0 → va_P D vwCl (wX4 a0 c s0) H → va_D A (wX4 a0 c s0) → va_S A s.heap H locs → lv_has ls 4 [(0, .ref (a0 0)), (1, .int x1), (2, .int x2)] → W p l e rmX4_find s m args below meth cd H locs 0 0 Q (F0 m 7 ls [])) (n : Nat) (x1 : Int32) (x2 : Int32) (x3 : Int32) (s0 : Mem) (H : Heap) (locs : List Loc) (ls : Array Slot), fX4_find_b15 K7 n x1 x2 x3 s0 = some z0 → va_P D vwCl (wX4 a0 c s0) H → va_D A (wX4 a0 c s0) → va_S A s.heap H locs → lv_has ls 4 [(0, .ref (a0 0)), (1, .int x1), (2, .int x2), (3, .int x3)] → W p l e rmX4_find s m args below meth cd H locs 0 0 Q (F0 m 15 ls []) := by
    intro K7 K7h n
    induction n with
    | zero =>
      intro x1 x2 x3 s0 H locs ls h _ _ _ _
      cases (show (none : Option (Mem)) = some _ from h)
    | succ n K15h =>
      intro x1 x2 x3 s0 H locs ls h hP hD hS hl
      rw [fX4_find_b15] at h
      refine lv_iload_n (pc := 15) hx hb dX4_find_15 rfl (lv_at hl 3 rfl) ?_
      refine lv_iload_n (pc := 16) hx hb dX4_find_16 rfl (lv_at hl 2 rfl) ?_
      refine lv_icmp_gt (tgt := 49) (pc := 17) hx hb dX4_find_17 (by decide) (fun c17 => ?_) (fun c17 => ?_)
      · replace h := it_t c17 h
        obtain ⟨v2_49, ev2_49, h⟩ := lt_i h
        refine lv_iinc (v := v2_49) (lv' := [(2, .int v2_49), (0, .ref (a0 0)), (1, .int x1), (3, .int x3)]) (pc := 49) hx hb dX4_find_49 hl (k := 2) rfl (by rw [ev2_49]; rfl) (by decide) rfl (fun ls hl => ?_)
        refine lv_goto (tgt := 7) (pc := 52) hx hb dX4_find_52 (by decide) ?_
        have jr := K7h x1 v2_49 s0 _ _ ls h hP hD hS (lv_sub hl [1, 2, 0] rfl)
        exact jr
      · replace h := it_f c17 h
        refine lv_iload_n (pc := 20) hx hb dX4_find_20 rfl (lv_at hl 3 rfl) ?_
        refine lv_iload_n (pc := 21) hx hb dX4_find_21 rfl (lv_at hl 2 rfl) ?_
        refine lv_iconst (v := -1) (pc := 22) hx hb dX4_find_22 (by decide) ?_
        refine lv_ixor (pc := 23) hx hb dX4_find_23 ?_
        refine lv_iand (pc := 24) hx hb dX4_find_24 ?_
        refine lv_if_ne (tgt := 43) (pc := 25) hx hb dX4_find_25 (by decide) (fun c25 => ?_) (fun c25 => ?_)
        · replace h := it_f c25 h
          have jr := J43 (fX4_find_b15 K7 n) K15h x1 x2 x3 s0 _ _ ls h hP hD hS hl
          exact jr
        · replace h := it_t c25 h
          refine lv_iload_n (pc := 28) hx hb dX4_find_28 rfl (lv_at hl 2 rfl) ?_
          refine lv_iload_n (pc := 29) hx hb dX4_find_29 rfl (lv_at hl 3 rfl) ?_
          refine lv_iload_n (pc := 30) hx hb dX4_find_30 rfl (lv_at hl 1 rfl) ?_
          obtain ⟨r31, hc31, h⟩ := b1_i h
          refine g_none (st1 := [.int r31]) (gr_S (n := 3) (rest := []) (pc := 31) hx hb hml hown hts (cX4_isPrime_met l D c tb sa sv x2 x3 x1 _ hc31) gX4_find_X4_isPrime rfl rfl rfl (by decide +kernel) rfl ⟨Nat.le_of_ble_eq_true rfl, Nat.le_of_ble_eq_true rfl⟩ ⟨Nat.zero_le _, Nat.zero_le _⟩ xE_ok g_P0 (g_D0 (A := A)) hK (xE_ok.tr hE hS (g_free0 hS hA)) hl.1 (Nat.le_of_ble_eq_true rfl) dX4_find_31 rfl) hP hS hA rfl (fun H locs hP hS => ?_)
          refine lv_if_eq (tgt := 43) (pc := 34) hx hb dX4_find_34 (by decide) (fun c34 => ?_) (fun c34 => ?_)
          · replace h := it_t c34 h
            have jr := J43 (fX4_find_b15 K7 n) K15h x1 x2 x3 s0 _ _ ls h hP hD hS hl
            exact jr
          · replace h := it_f c34 h
            refine lv_aload_n (pc := 37) hx hb dX4_find_37 rfl (lv_at hl 0 rfl) ?_
            refine lv_iload_n (pc := 38) hx hb dX4_find_38 rfl (lv_at hl 2 rfl) ?_
            refine lv_iload_n (pc := 39) hx hb dX4_find_39 rfl (lv_at hl 3 rfl) ?_
            obtain ⟨t0_40, hc40, h⟩ := b1_i h
            refine g_all (st1 := []) (gr_V (n := 2) (rest := []) (pc := 40) hx hb hml hown hts (cX4_append_met l D c tb sa sv a0 x2 x3 s0 _ hc40) gX4_find_X4_append rfl rfl rfl (by decide +kernel) rfl ⟨Nat.le_of_ble_eq_true rfl, Nat.le_of_ble_eq_true rfl⟩ ⟨Nat.zero_le _, Nat.zero_le _⟩ 0 4 rfl rfl rfl xE_ok hP hD hK (xE_ok.tr hE hS (g_free hD hS hA)) hl.1 (Nat.le_of_ble_eq_true rfl) dX4_find_40 rfl) hD hS hA rfl (fun H locs hP hD hS => ?_)
            have jr := J43 (fX4_find_b15 K7 n) K15h x1 x2 x3 t0_40 _ _ ls h hP hD hS hl
            exact jr
  have J7 : ∀ (n : Nat) (x1 : Int32) (x2 : Int32) (s0 : Mem) (H : Heap) (locs : List Loc) (ls : Array Slot), fX4_find_b7 n x1 x2 s0 = some z0 → va_P D vwCl (wX4 a0 c s0) H → va_D A (wX4 a0 c s0) → va_S A s.heap H locs → lv_has ls 4 [(0, .ref (a0 0)), (1, .int x1), (2, .int x2)] → W p l e rmX4_find s m args below meth cd H locs 0 0 Q (F0 m 7 ls []) := by
    intro n
    induction n with
    | zero =>
      intro x1 x2 s0 H locs ls h _ _ _ _
      cases (show (none : Option (Mem)) = some _ from h)
    | succ n K7h =>
      intro x1 x2 s0 H locs ls h hP hD hS hl
      rw [fX4_find_b7] at h
      refine lv_iload_n (pc := 7) hx hb dX4_find_7 rfl (lv_at hl 2 rfl) ?_
      refine lv_bipush (v := 16) (pc := 8) hx hb dX4_find_8 (by decide) ?_
      refine lv_icmp_ge (tgt := 55) (pc := 10) hx hb dX4_find_10 (by decide) (fun c10 => ?_) (fun c10 => ?_)
      · replace h := it_t c10 h
        have kr := KR s0 _ _ 55 ls h hP hD hS dX4_find_55
        exact kr
      · replace h := it_f c10 h
        refine lv_iconst (v := 0) (pc := 13) hx hb dX4_find_13 (by decide) ?_
        refine lv_istore_n (lv' := [(3, .int (0 : Int32)), (0, .ref (a0 0)), (1, .int x1), (2, .int x2)]) (pc := 14) hx hb dX4_find_14 rfl hl (by decide) rfl (fun ls hl => ?_)
        have jr := J15 (fX4_find_b7 n) K7h FU x1 x2 (0 : Int32) s0 _ _ ls h hP hD hS (lv_sub hl [1, 2, 3, 0] rfl)
        exact jr
  refine lv_aload_n (pc := 0) hx hb dX4_find_0 rfl (lv_at hl 0 rfl) ?_
  refine lv_iconst (v := 0) (pc := 1) hx hb dX4_find_1 (by decide) ?_
  refine va_put (D := D) (ci := 4) (v := .int (0 : Int32)) (ty := .int) (C := RX4) (T := TX4) (N := 5) (pc := 2) hx hb hfX4 (fun _ h9 => h9) tyX4 tyX4_ok nmX4 hown hK hP hD hS 0 rfl rfl 2 (by decide) lk0 (fun _ h9 => h9) rfl (by decide +kernel) rfl rfl (Nat.le_of_ble_eq_true rfl) dX4_find_2 (fun H locs hP hD hS => ?_)
  have hP : va_P D vwCl (wX4 a0 c (mi s0 2 0 (0 : Int32))) H := hP
  have hD : va_D A (wX4 a0 c (mi s0 2 0 (0 : Int32))) := hD
  refine lv_iconst (v := 0) (pc := 5) hx hb dX4_find_5 (by decide) ?_
  refine lv_istore_n (lv' := [(2, .int (0 : Int32)), (0, .ref (a0 0)), (1, .int p0)]) (pc := 6) hx hb dX4_find_6 rfl hl (by decide) rfl (fun ls hl => ?_)
  have jr := J7 FU p0 (0 : Int32) ((mi s0 2 0 (0 : Int32))) _ _ ls h hP hD hS (lv_sub hl [1, 2, 0] rfl)
  exact jr
