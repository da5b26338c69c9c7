abbrev rmX7_runGate : Room := { frames := 1, cells := 0, slots := 0, locals := 25 }
set_option maxRecDepth 100000 in
set_option maxHeartbeats 40000000 in
theorem cX7_runGate_met (l : Launch) (D : va_G) (c : Nat → ClassId) (tb : Nat) (sa sv : Nat → Nat) (a0 : Nat → Nat) (a1 : Nat → Nat) (p1 : Int32) (p2 : Int32) (s0 : Mem) (s1 : Mem) (z0 : Mem) (h : fX7_runGate p1 p2 s0 s1 = some z0) : gM l yX7_runGate wsX7_runGate rmX7_runGate D (gY c) (xE tb sa sv) [.ref (a0 0), .ref (a1 0), .int p1, .int p2] (wX7 a0 c s0 ++ wX3 a1 c s1) none (wX7 a0 c z0 ++ wX3 a1 c s1) := by
  unfold fX7_runGate at h
  refine gM.V (cc := cX7_runGate) (maxL := 8) (by decide) rfl (Nat.le_of_ble_eq_true rfl) ?_
  intro p e s m args below meth cd hx hb hml hown hts A hA ls hl hP hK hD hS hE Q KR0
  have hfX3 : ∀ w ∈ u_ws RX3 TX3 7, w.before args s = true := fun w hw => hts w (List.mem_cons_of_mem _ (List.mem_append_left _ (List.mem_append_right _ hw)))
  have hfX7 : ∀ w ∈ u_ws RX7 TX7 4, w.before args s = true := fun w hw => hts w (List.mem_cons_of_mem _ (List.mem_append_right _ hw))
  have lk0 := hts (.fieldLink RX7 44 "GlitchNets$Net" "kinds" "[I") (List.mem_of_getElem? (i := 1) rfl)
  have lk1 := hts (.fieldLink RX7 48 "GlitchNets$Net" "delays" "[I") (List.mem_of_getElem? (i := 2) rfl)
  have lk2 := hts (.fieldLink RX7 51 "GlitchNets$Net" "firsts" "[I") (List.mem_of_getElem? (i := 3) rfl)
  have lk3 := hts (.fieldLink RX7 54 "GlitchNets$Net" "seconds" "[I") (List.mem_of_getElem? (i := 4) rfl)
  have lk4 := hts (.fieldLink RX7 11 "GlitchNets$Wave" "lows" "[J") (List.mem_of_getElem? (i := 5) rfl)
  have lk5 := hts (.initialized RX8) (List.mem_of_getElem? (i := 19) rfl)
  have lk6 := hts (.static yX8_combined) (List.mem_of_getElem? (i := 18) rfl)
  have lk7 := hts (.fieldLink RX7 17 "GlitchNets$Wave" "highs" "[J") (List.mem_of_getElem? (i := 6) rfl)
  have KR : ∀ (w0 : Mem) (H : Heap) (locs : List Loc) (pc : Nat) (ls : Array Slot), some w0 = some z0 → va_P D vwCl (wX7 a0 c w0 ++ wX3 a1 c s1) H → va_D A (wX7 a0 c w0 ++ wX3 a1 c s1) → va_S A s.heap H locs → decode cX7_runGate pc = .ok (.return_, 1) → W p l e rmX7_runGate s m args below meth cd H locs 0 0 Q (F0 m pc ls []) := by
    intro w0 H locs pc ls hr hP hD hS hd
    cases hr
    exact KR0 H locs pc ls hP hD hS hd
  have hl : lv_has ls 8 [(0, .ref (a0 0)), (1, .ref (a1 0)), (2, .int p1), (3, .int p2)] := hl
  refine lv_aload_n (pc := 0) hx hb dX7_runGate_0 rfl (lv_at hl 1 rfl) ?_
  refine va_get (D := D) (ci := 3) (v := .ref (a1 1)) (C := RX3) (T := TX3) (N := 7) (pc := 1) hx hb hfX3 (fun _ h9 => h9) hown hK hP 3 rfl rfl 0 (by decide) lk0 (fun _ h9 => h9) rfl dX7_runGate_1 ?_
  refine lv_iload_n (pc := 4) hx hb dX7_runGate_4 rfl (lv_at hl 2 rfl) ?_
  obtain ⟨hk5, h⟩ := ckI_i h
  refine va_iald (D := D) (f := (s1.1 0)) (pc := 5) hx hb hK hP 4 0 rfl rfl hk5 dX7_runGate_5 ?_
  refine lv_topi (fun v4_6 ev4_6 => ?_)
  replace h := lt_e ev4_6 h
  refine lv_istore (lv' := [(4, .int v4_6), (0, .ref (a0 0)), (1, .ref (a1 0)), (2, .int p1), (3, .int p2)]) (pc := 6) hx hb dX7_runGate_6 hl (by decide) rfl (fun ls hl => ?_)
  refine lv_aload_n (pc := 8) hx hb dX7_runGate_8 rfl (lv_at hl 2 rfl) ?_
  refine va_get (D := D) (ci := 3) (v := .ref (a1 4)) (C := RX3) (T := TX3) (N := 7) (pc := 9) hx hb hfX3 (fun _ h9 => h9) hown hK hP 3 rfl rfl 3 (by decide) lk1 (fun _ h9 => h9) rfl dX7_runGate_9 ?_
  refine lv_iload_n (pc := 12) hx hb dX7_runGate_12 rfl (lv_at hl 3 rfl) ?_
  obtain ⟨hk13, h⟩ := ckI_i h
  refine va_iald (D := D) (f := (s1.1 3)) (pc := 13) hx hb hK hP 7 0 rfl rfl hk13 dX7_runGate_13 ?_
  refine lv_topi (fun v5_14 ev5_14 => ?_)
  replace h := lt_e ev5_14 h
  refine lv_istore (lv' := [(5, .int v5_14), (4, .int v4_6), (0, .ref (a0 0)), (1, .ref (a1 0)), (2, .int p1), (3, .int p2)]) (pc := 14) hx hb dX7_runGate_14 hl (by decide) rfl (fun ls hl => ?_)
  refine lv_iconst (v := 4) (pc := 16) hx hb dX7_runGate_16 (by decide) ?_
  refine lv_aload_n (pc := 17) hx hb dX7_runGate_17 rfl (lv_at hl 3 rfl) ?_
  refine va_get (D := D) (ci := 3) (v := .ref (a1 2)) (C := RX3) (T := TX3) (N := 7) (pc := 18) hx hb hfX3 (fun _ h9 => h9) hown hK hP 3 rfl rfl 1 (by decide) lk2 (fun _ h9 => h9) rfl dX7_runGate_18 ?_
  refine lv_iload_n (pc := 21) hx hb dX7_runGate_21 rfl (lv_at hl 4 rfl) ?_
  obtain ⟨hk22, h⟩ := ckI_i h
  refine va_iald (D := D) (f := (s1.1 1)) (pc := 22) hx hb hK hP 5 0 rfl rfl hk22 dX7_runGate_22 ?_
  refine lv_iadd (pc := 23) hx hb dX7_runGate_23 ?_
  refine lv_topi (fun v6_24 ev6_24 => ?_)
  replace h := lt_e ev6_24 h
  refine lv_istore (lv' := [(6, .int v6_24), (5, .int v5_14), (4, .int v4_6), (0, .ref (a0 0)), (1, .ref (a1 0)), (2, .int p1), (3, .int p2)]) (pc := 24) hx hb dX7_runGate_24 hl (by decide) rfl (fun ls hl => ?_)
  refine lv_iconst (v := 4) (pc := 26) hx hb dX7_runGate_26 (by decide) ?_
  refine lv_aload_n (pc := 27) hx hb dX7_runGate_27 rfl (lv_at hl 4 rfl) ?_
  refine va_get (D := D) (ci := 3) (v := .ref (a1 3)) (C := RX3) (T := TX3) (N := 7) (pc := 28) hx hb hfX3 (fun _ h9 => h9) hown hK hP 3 rfl rfl 2 (by decide) lk3 (fun _ h9 => h9) rfl dX7_runGate_28 ?_
  refine lv_iload_n (pc := 31) hx hb dX7_runGate_31 rfl (lv_at hl 5 rfl) ?_
  obtain ⟨hk32, h⟩ := ckI_i h
  refine va_iald (D := D) (f := (s1.1 2)) (pc := 32) hx hb hK hP 6 0 rfl rfl hk32 dX7_runGate_32 ?_
  refine lv_iadd (pc := 33) hx hb dX7_runGate_33 ?_
  refine lv_topi (fun v7_34 ev7_34 => ?_)
  replace h := lt_e ev7_34 h
  refine lv_istore (lv' := [(7, .int v7_34), (6, .int v6_24), (5, .int v5_14), (4, .int v4_6), (0, .ref (a0 0)), (1, .ref (a1 0)), (2, .int p1), (3, .int p2)]) (pc := 34) hx hb dX7_runGate_34 hl (by decide) rfl (fun ls hl => ?_)
  refine lv_aload_n (pc := 36) hx hb dX7_runGate_36 rfl (lv_at hl 4 rfl) ?_
  refine va_get (D := D) (ci := 7) (v := .ref (a0 1)) (C := RX7) (T := TX7) (N := 4) (pc := 37) hx hb hfX7 (fun _ h9 => h9) hown hK hP 0 rfl rfl 0 (by decide) lk4 (fun _ h9 => h9) rfl dX7_runGate_37 ?_
  refine lv_iconst (v := 4) (pc := 40) hx hb dX7_runGate_40 (by decide) ?_
  refine lv_iload_n (pc := 41) hx hb dX7_runGate_41 rfl (lv_at hl 6 rfl) ?_
  refine lv_iadd (pc := 42) hx hb dX7_runGate_42 ?_
  refine lv_iload (pc := 43) hx hb dX7_runGate_43 (lv_at hl 3 rfl) ?_
  refine lv_aload_n (pc := 45) hx hb dX7_runGate_45 rfl (lv_at hl 4 rfl) ?_
  refine lv_iload (pc := 46) hx hb dX7_runGate_46 (lv_at hl 1 rfl) ?_
  refine lv_iload (pc := 48) hx hb dX7_runGate_48 (lv_at hl 2 rfl) ?_
  refine lv_aload_n (pc := 50) hx hb dX7_runGate_50 rfl (lv_at hl 5 rfl) ?_
  refine lv_iload (pc := 51) hx hb dX7_runGate_51 (lv_at hl 1 rfl) ?_
  refine lv_iload_n (pc := 53) hx hb dX7_runGate_53 rfl (lv_at hl 7 rfl) ?_
  obtain ⟨r54, hc54, h⟩ := b1_i h
  have hPc := g_cutP (w0 := wX3 a1 c s1) hP [3, 4, 5, 6, 7, 8, 9] rfl
  have hDc : va_D A (wX3 a1 c s1) := hD.sub [3, 4, 5, 6, 7, 8, 9] (by decide) rfl
  have hFc := va_free (wc := wX3 a1 c s1) hD hS hA [3, 4, 5, 6, 7, 8, 9] rfl
  refine g_sub (st1 := [.int r54, .int v5_14, .int v6_24, .ref (a0 0), .int v4_6, .int ((4 : Int32) + p1), .ref (a0 1)]) (wr := wX7 a0 c s0) (wn := wX7 a0 c s0 ++ wX3 a1 c s1) (gr_V (n := 2) (rest := [.int v5_14, .int v6_24, .ref (a0 0), .int v4_6, .int ((4 : Int32) + p1), .ref (a0 1)]) (pc := 54) hx hb hml hown hts (cX3_rowTells_met l D c tb sa sv a1 v6_24 p2 s1 _ hc54) gX7_runGate_X3_rowTells rfl rfl rfl (by decide +kernel) rfl ⟨Nat.le_of_ble_eq_true rfl, Nat.le_of_ble_eq_true rfl⟩ ⟨Nat.zero_le _, Nat.zero_le _⟩ 0 3 rfl rfl rfl xE_ok hPc hDc hK (xE_ok.tr hE hS hFc) hl.1 (Nat.le_of_ble_eq_true rfl) dX7_runGate_54 rfl) hP hD hS hA [3, 4, 5, 6, 7, 8, 9] [0, 1, 2] [0, 1, 2, 3, 4, 5, 6, 7, 8, 9] rfl rfl (by decide) (by decide) (by decide) rfl rfl (fun H locs hP hD hS => ?_)
  obtain ⟨r57, hc57, h⟩ := b1_i h
  have hPc := g_cutP (w0 := wX7 a0 c s0) hP [0, 1, 2] rfl
  have hDc : va_D A (wX7 a0 c s0) := hD.sub [0, 1, 2] (by decide) rfl
  have hFc := va_free (wc := wX7 a0 c s0) hD hS hA [0, 1, 2] rfl
  refine g_sub (st1 := [.long r57, .int v4_6, .int ((4 : Int32) + p1), .ref (a0 1)]) (wr := wX3 a1 c s1) (wn := wX7 a0 c s0 ++ wX3 a1 c s1) (gr_V (n := 3) (rest := [.int v4_6, .int ((4 : Int32) + p1), .ref (a0 1)]) (pc := 57) hx hb hml hown hts (cX7_lateLow_met l D c tb sa sv a0 v6_24 v5_14 r54 s0 _ hc57) gX7_runGate_X7_lateLow rfl rfl rfl (by decide +kernel) rfl ⟨Nat.le_of_ble_eq_true rfl, Nat.le_of_ble_eq_true rfl⟩ ⟨Nat.zero_le _, Nat.zero_le _⟩ 0 7 rfl rfl rfl xE_ok hPc hDc hK (xE_ok.tr hE hS hFc) hl.1 (Nat.le_of_ble_eq_true rfl) dX7_runGate_57 rfl) hP hD hS hA [0, 1, 2] [3, 4, 5, 6, 7, 8, 9] [7, 8, 9, 0, 1, 2, 3, 4, 5, 6] rfl rfl (by decide) (by decide) (by decide) rfl rfl (fun H locs hP hD hS => ?_)
  refine lv_aload_n (pc := 60) hx hb dX7_runGate_60 rfl (lv_at hl 4 rfl) ?_
  refine lv_iload (pc := 61) hx hb dX7_runGate_61 (lv_at hl 0 rfl) ?_
  refine lv_iload (pc := 63) hx hb dX7_runGate_63 (lv_at hl 2 rfl) ?_
  refine lv_aload_n (pc := 65) hx hb dX7_runGate_65 rfl (lv_at hl 5 rfl) ?_
  refine lv_iload (pc := 66) hx hb dX7_runGate_66 (lv_at hl 0 rfl) ?_
  refine lv_iload_n (pc := 68) hx hb dX7_runGate_68 rfl (lv_at hl 7 rfl) ?_
  obtain ⟨r69, hc69, h⟩ := b1_i h
  have hPc := g_cutP (w0 := wX3 a1 c s1) hP [3, 4, 5, 6, 7, 8, 9] rfl
  have hDc : va_D A (wX3 a1 c s1) := hD.sub [3, 4, 5, 6, 7, 8, 9] (by decide) rfl
  have hFc := va_free (wc := wX3 a1 c s1) hD hS hA [3, 4, 5, 6, 7, 8, 9] rfl
  refine g_sub (st1 := [.int r69, .int v5_14, .int v7_34, .ref (a0 0), .long r57, .int v4_6, .int ((4 : Int32) + p1), .ref (a0 1)]) (wr := wX7 a0 c s0) (wn := wX7 a0 c s0 ++ wX3 a1 c s1) (gr_V (n := 2) (rest := [.int v5_14, .int v7_34, .ref (a0 0), .long r57, .int v4_6, .int ((4 : Int32) + p1), .ref (a0 1)]) (pc := 69) hx hb hml hown hts (cX3_rowTells_met l D c tb sa sv a1 v7_34 p2 s1 _ hc69) gX7_runGate_X3_rowTells rfl rfl rfl (by decide +kernel) rfl ⟨Nat.le_of_ble_eq_true rfl, Nat.le_of_ble_eq_true rfl⟩ ⟨Nat.zero_le _, Nat.zero_le _⟩ 0 3 rfl rfl rfl xE_ok hPc hDc hK (xE_ok.tr hE hS hFc) hl.1 (Nat.le_of_ble_eq_true rfl) dX7_runGate_69 rfl) hP hD hS hA [3, 4, 5, 6, 7, 8, 9] [0, 1, 2] [0, 1, 2, 3, 4, 5, 6, 7, 8, 9] rfl rfl (by decide) (by decide) (by decide) rfl rfl (fun H locs hP hD hS => ?_)
  obtain ⟨r72, hc72, h⟩ := b1_i h
  have hPc := g_cutP (w0 := wX7 a0 c s0) hP [0, 1, 2] rfl
  have hDc : va_D A (wX7 a0 c s0) := hD.sub [0, 1, 2] (by decide) rfl
  have hFc := va_free (wc := wX7 a0 c s0) hD hS hA [0, 1, 2] rfl
  refine g_sub (st1 := [.long r72, .long r57, .int v4_6, .int ((4 : Int32) + p1), .ref (a0 1)]) (wr := wX3 a1 c s1) (wn := wX7 a0 c s0 ++ wX3 a1 c s1) (gr_V (n := 3) (rest := [.long r57, .int v4_6, .int ((4 : Int32) + p1), .ref (a0 1)]) (pc := 72) hx hb hml hown hts (cX7_lateLow_met l D c tb sa sv a0 v7_34 v5_14 r69 s0 _ hc72) gX7_runGate_X7_lateLow rfl rfl rfl (by decide +kernel) rfl ⟨Nat.le_of_ble_eq_true rfl, Nat.le_of_ble_eq_true rfl⟩ ⟨Nat.zero_le _, Nat.zero_le _⟩ 0 7 rfl rfl rfl xE_ok hPc hDc hK (xE_ok.tr hE hS hFc) hl.1 (Nat.le_of_ble_eq_true rfl) dX7_runGate_72 rfl) hP hD hS hA [0, 1, 2] [3, 4, 5, 6, 7, 8, 9] [7, 8, 9, 0, 1, 2, 3, 4, 5, 6] rfl rfl (by decide) (by decide) (by decide) rfl rfl (fun H locs hP hD hS => ?_)
  obtain ⟨r75, hc75, h⟩ := b1_i h
  refine g_none (st1 := [.long r75, .int ((4 : Int32) + p1), .ref (a0 1)]) (gr_SN (n := 3) (rest := [.int ((4 : Int32) + p1), .ref (a0 1)]) (pc := 75) hx hb hml hown hts (cX8_combined_met l D c tb sa sv v4_6 r57 r72 _ hc75) gX7_runGate_X8_combined_n61 rfl rfl rfl (xE_n10 hE) lk5 lk6 (by decide +kernel) rfl ⟨Nat.le_of_ble_eq_true rfl, Nat.le_of_ble_eq_true rfl⟩ ⟨Nat.zero_le _, Nat.zero_le _⟩ xE_ok g_P0 (g_D0 (A := A)) hK (xE_ok.tr hE hS (g_free0 hS hA)) hl.1 (Nat.le_of_ble_eq_true rfl) dX7_runGate_75 rfl) hP hS hA rfl (fun H locs hP hS => ?_)
  obtain ⟨hk78, h⟩ := ckI_i h
  refine va_last (D := D) (f := (s0.2 0)) (pc := 78) hx hb hK hP hD hS 1 1 rfl rfl hk78 dX7_runGate_78 (fun H locs hP hD hS => ?_)
  have hP : va_P D vwCl (wX7 a0 c (ml s0 0 (((4 : Int32) + p1)).toNatClampNeg r75) ++ wX3 a1 c s1) H := hP
  have hD : va_D A (wX7 a0 c (ml s0 0 (((4 : Int32) + p1)).toNatClampNeg r75) ++ wX3 a1 c s1) := hD
  refine lv_aload_n (pc := 79) hx hb dX7_runGate_79 rfl (lv_at hl 4 rfl) ?_
  refine va_get (D := D) (ci := 7) (v := .ref (a0 2)) (C := RX7) (T := TX7) (N := 4) (pc := 80) hx hb hfX7 (fun _ h9 => h9) hown hK hP 0 rfl rfl 1 (by decide) lk7 (fun _ h9 => h9) rfl dX7_runGate_80 ?_
  refine lv_iconst (v := 4) (pc := 83) hx hb dX7_runGate_83 (by decide) ?_
  refine lv_iload_n (pc := 84) hx hb dX7_runGate_84 rfl (lv_at hl 6 rfl) ?_
  refine lv_iadd (pc := 85) hx hb dX7_runGate_85 ?_
  refine lv_iload (pc := 86) hx hb dX7_runGate_86 (lv_at hl 3 rfl) ?_
  refine lv_aload_n (pc := 88) hx hb dX7_runGate_88 rfl (lv_at hl 4 rfl) ?_
  refine lv_iload (pc := 89) hx hb dX7_runGate_89 (lv_at hl 1 rfl) ?_
  refine lv_iload (pc := 91) hx hb dX7_runGate_91 (lv_at hl 2 rfl) ?_
  obtain ⟨r93, hc93, h⟩ := b1_i h
  have hPc := g_cutP (w0 := wX7 a0 c (ml s0 0 (((4 : Int32) + p1)).toNatClampNeg r75)) hP [0, 1, 2] rfl
  have hDc : va_D A (wX7 a0 c (ml s0 0 (((4 : Int32) + p1)).toNatClampNeg r75)) := hD.sub [0, 1, 2] (by decide) rfl
  have hFc := va_free (wc := wX7 a0 c (ml s0 0 (((4 : Int32) + p1)).toNatClampNeg r75)) hD hS hA [0, 1, 2] rfl
  refine g_sub (st1 := [.long r93, .int v4_6, .int ((4 : Int32) + p1), .ref (a0 2)]) (wr := wX3 a1 c s1) (wn := wX7 a0 c (ml s0 0 (((4 : Int32) + p1)).toNatClampNeg r75) ++ wX3 a1 c s1) (gr_V (n := 2) (rest := [.int v4_6, .int ((4 : Int32) + p1), .ref (a0 2)]) (pc := 93) hx hb hml hown hts (cX7_lateHigh_met l D c tb sa sv a0 v6_24 v5_14 (ml s0 0 (((4 : Int32) + p1)).toNatClampNeg r75) _ hc93) gX7_runGate_X7_lateHigh rfl rfl rfl (by decide +kernel) rfl ⟨Nat.le_of_ble_eq_true rfl, Nat.le_of_ble_eq_true rfl⟩ ⟨Nat.zero_le _, Nat.zero_le _⟩ 0 7 rfl rfl rfl xE_ok hPc hDc hK (xE_ok.tr hE hS hFc) hl.1 (Nat.le_of_ble_eq_true rfl) dX7_runGate_93 rfl) hP hD hS hA [0, 1, 2] [3, 4, 5, 6, 7, 8, 9] [7, 8, 9, 0, 1, 2, 3, 4, 5, 6] rfl rfl (by decide) (by decide) (by decide) rfl rfl (fun H locs hP hD hS => ?_)
  refine lv_aload_n (pc := 96) hx hb dX7_runGate_96 rfl (lv_at hl 4 rfl) ?_
  refine lv_iload (pc := 97) hx hb dX7_runGate_97 (lv_at hl 0 rfl) ?_
  refine lv_iload (pc := 99) hx hb dX7_runGate_99 (lv_at hl 2 rfl) ?_
  obtain ⟨r101, hc101, h⟩ := b1_i h
  have hPc := g_cutP (w0 := wX7 a0 c (ml s0 0 (((4 : Int32) + p1)).toNatClampNeg r75)) hP [0, 1, 2] rfl
  have hDc : va_D A (wX7 a0 c (ml s0 0 (((4 : Int32) + p1)).toNatClampNeg r75)) := hD.sub [0, 1, 2] (by decide) rfl
  have hFc := va_free (wc := wX7 a0 c (ml s0 0 (((4 : Int32) + p1)).toNatClampNeg r75)) hD hS hA [0, 1, 2] rfl
  refine g_sub (st1 := [.long r101, .long r93, .int v4_6, .int ((4 : Int32) + p1), .ref (a0 2)]) (wr := wX3 a1 c s1) (wn := wX7 a0 c (ml s0 0 (((4 : Int32) + p1)).toNatClampNeg r75) ++ wX3 a1 c s1) (gr_V (n := 2) (rest := [.long r93, .int v4_6, .int ((4 : Int32) + p1), .ref (a0 2)]) (pc := 101) hx hb hml hown hts (cX7_lateHigh_met l D c tb sa sv a0 v7_34 v5_14 (ml s0 0 (((4 : Int32) + p1)).toNatClampNeg r75) _ hc101) gX7_runGate_X7_lateHigh rfl rfl rfl (by decide +kernel) rfl ⟨Nat.le_of_ble_eq_true rfl, Nat.le_of_ble_eq_true rfl⟩ ⟨Nat.zero_le _, Nat.zero_le _⟩ 0 7 rfl rfl rfl xE_ok hPc hDc hK (xE_ok.tr hE hS hFc) hl.1 (Nat.le_of_ble_eq_true rfl) dX7_runGate_101 rfl) hP hD hS hA [0, 1, 2] [3, 4, 5, 6, 7, 8, 9] [7, 8, 9, 0, 1, 2, 3, 4, 5, 6] rfl rfl (by decide) (by decide) (by decide) rfl rfl (fun H locs hP hD hS => ?_)
  obtain ⟨r104, hc104, h⟩ := b1_i h
  refine g_none (st1 := [.long r104, .int ((4 : Int32) + p1), .ref (a0 2)]) (gr_SN (n := 3) (rest := [.int ((4 : Int32) + p1), .ref (a0 2)]) (pc := 104) hx hb hml hown hts (cX8_combined_met l D c tb sa sv v4_6 r93 r101 _ hc104) gX7_runGate_X8_combined_n61 rfl rfl rfl (xE_n10 hE) lk5 lk6 (by decide +kernel) rfl ⟨Nat.le_of_ble_eq_true rfl, Nat.le_of_ble_eq_true rfl⟩ ⟨Nat.zero_le _, Nat.zero_le _⟩ xE_ok g_P0 (g_D0 (A := A)) hK (xE_ok.tr hE hS (g_free0 hS hA)) hl.1 (Nat.le_of_ble_eq_true rfl) dX7_runGate_104 rfl) hP hS hA rfl (fun H locs hP hS => ?_)
  obtain ⟨hk107, h⟩ := ckI_i h
  refine va_last (D := D) (f := ((ml s0 0 (((4 : Int32) + p1)).toNatClampNeg r75).2 1)) (pc := 107) hx hb hK hP hD hS 2 1 rfl rfl hk107 dX7_runGate_107 (fun H locs hP hD hS => ?_)
  obtain ⟨m0_107, em0_107, h⟩ := lt_i h
  have hP : va_P D vwCl (wX7 a0 c m0_107 ++ wX3 a1 c s1) H := by rw [em0_107]; exact hP
  have hD : va_D A (wX7 a0 c m0_107 ++ wX3 a1 c s1) := by rw [em0_107]; exact hD
  have kr := KR m0_107 _ _ 108 ls h hP hD hS dX7_runGate_108
  exact kr
abbrev rmX7_run : Room := { frames := 2, cells := 0, slots := 0, locals := 52 }
set_option maxRecDepth 100000 in
set_option maxHeartbeats 40000000 in
theorem cX7_run_met (l : Launch) (D : va_G) (c : Nat → ClassId) (tb : Nat) (sa sv : Nat → Nat) (a0 : Nat → Nat) (a1 : Nat → Nat) (p1 : Int32) (p2 : Int32) (s0 : Mem) (s1 : Mem) (z0 : Mem) (z1 : Mem) (h : fX7_run p1 p2 s0 s1 = some (z0, z1)) : gM l yX7_run wsX7_run rmX7_run D (gY c) (xE tb sa sv) [.ref (a0 0), .ref (a1 0), .int p1, .int p2] (wX7 a0 c s0 ++ wX3 a1 c s1) none (wX7 a0 c z0 ++ wX3 a1 c z1) := by
  unfold fX7_run at h
  refine gM.V (cc := cX7_run) (maxL := 5) (by decide) rfl (Nat.le_of_ble_eq_true rfl) ?_
  intro p e s m args below meth cd hx hb hml hown hts A hA ls hl hP hK hD hS hE Q KR0
  have hfX3 : ∀ w ∈ u_ws RX3 TX3 7, w.before args s = true := fun w hw => hts w (List.mem_cons_of_mem _ (List.mem_append_right _ hw))
  have hfX7 : ∀ w ∈ u_ws RX7 TX7 4, w.before args s = true := fun w hw => hts w (List.mem_cons_of_mem _ (List.mem_append_left _ (List.mem_append_right _ hw)))
  have lk0 := hts (.fieldLink RX7 27 "GlitchNets$Net" "size" "I") (List.mem_of_getElem? (i := 3) rfl)
  have lk1 := hts (.fieldLink RX7 39 "GlitchNets$Wave" "output" "I") (List.mem_of_getElem? (i := 4) rfl)
  have lk2 := hts (.fieldLink RX7 41 "GlitchNets$Wave" "ahead" "I") (List.mem_of_getElem? (i := 5) rfl)
  have lk3 := hts (.fieldLink RX7 11 "GlitchNets$Wave" "lows" "[J") (List.mem_of_getElem? (i := 1) rfl)
  have lk4 := hts (.fieldLink RX7 17 "GlitchNets$Wave" "highs" "[J") (List.mem_of_getElem? (i := 2) rfl)
  have KR : ∀ (w0 : Mem) (w1 : Mem) (H : Heap) (locs : List Loc) (pc : Nat) (ls : Array Slot), some (w0, w1) = some (z0, z1) → va_P D vwCl (wX7 a0 c w0 ++ wX3 a1 c w1) H → va_D A (wX7 a0 c w0 ++ wX3 a1 c w1) → va_S A s.heap H locs → decode cX7_run pc = .ok (.return_, 1) → W p l e rmX7_run s m args below meth cd H locs 0 0 Q (F0 m pc ls []) := by
    intro w0 w1 H locs pc ls hr hP hD hS hd
    cases hr
    exact KR0 H locs pc ls hP hD hS hd
  have hl : lv_has ls 5 [(0, .ref (a0 0)), (1, .ref (a1 0)), (2, .int p1), (3, .int p2)] := hl
  have J52 : ∀ (n : Nat) (x2 : Int32) (x4 : Int32) (s0 : Mem) (s1 : Mem) (H : Heap) (locs : List Loc) (ls : Array Slot), fX7_run_b52 n x2 x4 s0 s1 = some (z0, z1) → va_P D vwCl (wX7 a0 c s0 ++ wX3 a1 c s1) H → va_D A (wX7 a0 c s0 ++ wX3 a1 c s1) → va_S A s.heap H locs → lv_has ls 5 [(0, .ref (a0 0)), (1, .ref (a1 0)), (2, .int x2), (4, .int x4)] → W p l e rmX7_run s m args below meth cd H locs 0 0 Q (F0 m 52 ls []) := by
    intro n
    induction n with
    | zero =>
      intro x2 x4 s0 s1 H locs ls h _ _ _ _
      cases (show (none : Option (Mem × Mem)) = some _ from h)
    | succ n K52h =>
      intro x2 x4 s0 s1 H locs ls h hP hD hS hl
      rw [fX7_run_b52] at h
      refine lv_iload (pc := 52) hx hb dX7_run_52 (lv_at hl 3 rfl) ?_
      refine lv_aload_n (pc := 54) hx hb dX7_run_54 rfl (lv_at hl 1 rfl) ?_
      refine va_get (D := D) (ci := 3) (v := .int (s1.1 4 0)) (C := RX3) (T := TX3) (N := 7) (pc := 55) hx hb hfX3 (fun _ h9 => h9) hown hK hP 3 rfl rfl 4 (by decide) lk0 (fun _ h9 => h9) rfl dX7_run_55 ?_
      refine lv_icmp_ge (tgt := 75) (pc := 58) hx hb dX7_run_58 (by decide) (fun c58 => ?_) (fun c58 => ?_)
      · replace h := it_t c58 h
        refine lv_aload_n (pc := 75) hx hb dX7_run_75 rfl (lv_at hl 0 rfl) ?_
        refine lv_iconst (v := 4) (pc := 76) hx hb dX7_run_76 (by decide) ?_
        refine lv_aload_n (pc := 77) hx hb dX7_run_77 rfl (lv_at hl 1 rfl) ?_
        obtain ⟨r78, hc78, h⟩ := b1_i h
        have hPc := g_cutP (w0 := wX3 a1 c s1) hP [3, 4, 5, 6, 7, 8, 9] rfl
        have hDc : va_D A (wX3 a1 c s1) := hD.sub [3, 4, 5, 6, 7, 8, 9] (by decide) rfl
        have hFc := va_free (wc := wX3 a1 c s1) hD hS hA [3, 4, 5, 6, 7, 8, 9] rfl
        refine g_sub (st1 := [.int r78, .int (4 : Int32), .ref (a0 0)]) (wr := wX7 a0 c s0) (wn := wX7 a0 c s0 ++ wX3 a1 c s1) (gr_V (n := 0) (rest := [.int (4 : Int32), .ref (a0 0)]) (pc := 78) hx hb hml hown hts (cX3_output_met l D c tb sa sv a1 s1 _ hc78) gX7_run_X3_output rfl rfl rfl (by decide +kernel) rfl ⟨Nat.le_of_ble_eq_true rfl, Nat.le_of_ble_eq_true rfl⟩ ⟨Nat.zero_le _, Nat.zero_le _⟩ 0 3 rfl rfl rfl xE_ok hPc hDc hK (xE_ok.tr hE hS hFc) hl.1 (Nat.le_of_ble_eq_true rfl) dX7_run_78 rfl) hP hD hS hA [3, 4, 5, 6, 7, 8, 9] [0, 1, 2] [0, 1, 2, 3, 4, 5, 6, 7, 8, 9] rfl rfl (by decide) (by decide) (by decide) rfl rfl (fun H locs hP hD hS => ?_)
        refine lv_iadd (pc := 81) hx hb dX7_run_81 ?_
        refine va_put (D := D) (ci := 7) (v := .int ((4 : Int32) + r78)) (ty := .int) (C := RX7) (T := TX7) (N := 4) (pc := 82) hx hb hfX7 (fun _ h9 => h9) tyX7 tyX7_ok nmX7 hown hK hP hD hS 0 rfl rfl 2 (by decide) lk1 (fun _ h9 => h9) rfl (by decide +kernel) rfl rfl (Nat.le_of_ble_eq_true rfl) dX7_run_82 (fun H locs hP hD hS => ?_)
        have hP : va_P D vwCl (wX7 a0 c (mi s0 2 0 ((4 : Int32) + r78)) ++ wX3 a1 c s1) H := hP
        have hD : va_D A (wX7 a0 c (mi s0 2 0 ((4 : Int32) + r78)) ++ wX3 a1 c s1) := hD
        refine lv_aload_n (pc := 85) hx hb dX7_run_85 rfl (lv_at hl 0 rfl) ?_
        refine lv_aload_n (pc := 86) hx hb dX7_run_86 rfl (lv_at hl 1 rfl) ?_
        refine lv_aload_n (pc := 87) hx hb dX7_run_87 rfl (lv_at hl 0 rfl) ?_
        refine va_get (D := D) (ci := 7) (v := .int ((mi s0 2 0 ((4 : Int32) + r78)).1 2 0)) (C := RX7) (T := TX7) (N := 4) (pc := 88) hx hb hfX7 (fun _ h9 => h9) hown hK hP 0 rfl rfl 2 (by decide) lk1 (fun _ h9 => h9) rfl dX7_run_88 ?_
        refine lv_iload_n (pc := 91) hx hb dX7_run_91 rfl (lv_at hl 2 rfl) ?_
        obtain ⟨r92, hc92, h⟩ := b1_i h
        have hPc := g_cutP (w0 := wX3 a1 c s1) hP [3, 4, 5, 6, 7, 8, 9] rfl
        have hDc : va_D A (wX3 a1 c s1) := hD.sub [3, 4, 5, 6, 7, 8, 9] (by decide) rfl
        have hFc := va_free (wc := wX3 a1 c s1) hD hS hA [3, 4, 5, 6, 7, 8, 9] rfl
        refine g_sub (st1 := [.int r92, .ref (a0 0)]) (wr := wX7 a0 c (mi s0 2 0 ((4 : Int32) + r78))) (wn := wX7 a0 c (mi s0 2 0 ((4 : Int32) + r78)) ++ wX3 a1 c s1) (gr_V (n := 2) (rest := [.ref (a0 0)]) (pc := 92) hx hb hml hown hts (cX3_rowTells_met l D c tb sa sv a1 (((mi s0 2 0 ((4 : Int32) + r78)).1 2 0)) x2 s1 _ hc92) gX7_run_X3_rowTells rfl rfl rfl (by decide +kernel) rfl ⟨Nat.le_of_ble_eq_true rfl, Nat.le_of_ble_eq_true rfl⟩ ⟨Nat.zero_le _, Nat.zero_le _⟩ 0 3 rfl rfl rfl xE_ok hPc hDc hK (xE_ok.tr hE hS hFc) hl.1 (Nat.le_of_ble_eq_true rfl) dX7_run_92 rfl) hP hD hS hA [3, 4, 5, 6, 7, 8, 9] [0, 1, 2] [0, 1, 2, 3, 4, 5, 6, 7, 8, 9] rfl rfl (by decide) (by decide) (by decide) rfl rfl (fun H locs hP hD hS => ?_)
        refine va_put (D := D) (ci := 7) (v := .int r92) (ty := .int) (C := RX7) (T := TX7) (N := 4) (pc := 95) hx hb hfX7 (fun _ h9 => h9) tyX7 tyX7_ok nmX7 hown hK hP hD hS 0 rfl rfl 3 (by decide) lk2 (fun _ h9 => h9) rfl (by decide +kernel) rfl rfl (Nat.le_of_ble_eq_true rfl) dX7_run_95 (fun H locs hP hD hS => ?_)
        obtain ⟨m0_95, em0_95, h⟩ := lt_i h
        have hP : va_P D vwCl (wX7 a0 c m0_95 ++ wX3 a1 c s1) H := by rw [em0_95]; exact hP
        have hD : va_D A (wX7 a0 c m0_95 ++ wX3 a1 c s1) := by rw [em0_95]; exact hD
        have kr := KR m0_95 s1 _ _ 98 ls h hP hD hS dX7_run_98
        exact kr
      · replace h := it_f c58 h
        refine lv_aload_n (pc := 61) hx hb dX7_run_61 rfl (lv_at hl 0 rfl) ?_
        refine lv_aload_n (pc := 62) hx hb dX7_run_62 rfl (lv_at hl 1 rfl) ?_
        refine lv_iload (pc := 63) hx hb dX7_run_63 (lv_at hl 3 rfl) ?_
        refine lv_iload_n (pc := 65) hx hb dX7_run_65 rfl (lv_at hl 2 rfl) ?_
        obtain ⟨t0_66, hc66, h⟩ := b1_i h
        refine g_all (st1 := []) (gr_V (n := 3) (rest := []) (pc := 66) hx hb hml hown hts (cX7_runGate_met l D c tb sa sv a0 a1 x4 x2 s0 s1 _ hc66) gX7_run_X7_runGate rfl rfl rfl (by decide +kernel) rfl ⟨Nat.le_of_ble_eq_true rfl, Nat.le_of_ble_eq_true rfl⟩ ⟨Nat.zero_le _, Nat.zero_le _⟩ 0 7 rfl rfl rfl xE_ok hP hD hK (xE_ok.tr hE hS (g_free hD hS hA)) hl.1 (Nat.le_of_ble_eq_true rfl) dX7_run_66 rfl) hD hS hA rfl (fun H locs hP hD hS => ?_)
        obtain ⟨v4_69, ev4_69, h⟩ := lt_i h
        refine lv_iinc (v := v4_69) (lv' := [(4, .int v4_69), (0, .ref (a0 0)), (1, .ref (a1 0)), (2, .int x2)]) (pc := 69) hx hb dX7_run_69 hl (k := 3) rfl (by rw [ev4_69]; rfl) (by decide) rfl (fun ls hl => ?_)
        refine lv_goto (tgt := 52) (pc := 72) hx hb dX7_run_72 (by decide) ?_
        have jr := K52h x2 v4_69 t0_66 s1 _ _ ls h hP hD hS (lv_sub hl [1, 2, 3, 0] rfl)
        exact jr
  have J7 : ∀ (n : Nat) (x2 : Int32) (x3 : Int32) (x4 : Int32) (s0 : Mem) (s1 : Mem) (H : Heap) (locs : List Loc) (ls : Array Slot), fX7_run_b7 n x2 x3 x4 s0 s1 = some (z0, z1) → va_P D vwCl (wX7 a0 c s0 ++ wX3 a1 c s1) H → va_D A (wX7 a0 c s0 ++ wX3 a1 c s1) → va_S A s.heap H locs → lv_has ls 5 [(0, .ref (a0 0)), (1, .ref (a1 0)), (2, .int x2), (3, .int x3), (4, .int x4)] → W p l e rmX7_run s m args below meth cd H locs 0 0 Q (F0 m 7 ls []) := by
    intro n
    induction n with
    | zero =>
      intro x2 x3 x4 s0 s1 H locs ls h _ _ _ _
      cases (show (none : Option (Mem × Mem)) = some _ from h)
    | succ n K7h =>
      intro x2 x3 x4 s0 s1 H locs ls h hP hD hS hl
      rw [fX7_run_b7] at h
      refine lv_iload (pc := 7) hx hb dX7_run_7 (lv_at hl 4 rfl) ?_
      refine lv_iconst (v := 4) (pc := 9) hx hb dX7_run_9 (by decide) ?_
      refine lv_icmp_ge (tgt := 49) (pc := 10) hx hb dX7_run_10 (by decide) (fun c10 => ?_) (fun c10 => ?_)
      · replace h := it_t c10 h
        refine lv_iconst (v := 0) (pc := 49) hx hb dX7_run_49 (by decide) ?_
        refine lv_istore (lv' := [(4, .int (0 : Int32)), (0, .ref (a0 0)), (1, .ref (a1 0)), (2, .int x2), (3, .int x3)]) (pc := 50) hx hb dX7_run_50 hl (by decide) rfl (fun ls hl => ?_)
        have jr := J52 FU x2 (0 : Int32) s0 s1 _ _ ls h hP hD hS (lv_sub hl [1, 2, 3, 0] rfl)
        exact jr
      · replace h := it_f c10 h
        refine lv_aload_n (pc := 13) hx hb dX7_run_13 rfl (lv_at hl 0 rfl) ?_
        refine va_get (D := D) (ci := 7) (v := .ref (a0 1)) (C := RX7) (T := TX7) (N := 4) (pc := 14) hx hb hfX7 (fun _ h9 => h9) hown hK hP 0 rfl rfl 0 (by decide) lk3 (fun _ h9 => h9) rfl dX7_run_14 ?_
        refine lv_iload (pc := 17) hx hb dX7_run_17 (lv_at hl 4 rfl) ?_
        refine lv_aload_n (pc := 19) hx hb dX7_run_19 rfl (lv_at hl 1 rfl) ?_
        refine lv_iload (pc := 20) hx hb dX7_run_20 (lv_at hl 4 rfl) ?_
        refine lv_iload_n (pc := 22) hx hb dX7_run_22 rfl (lv_at hl 3 rfl) ?_
        obtain ⟨r23, hc23, h⟩ := b1_i h
        have hPc := g_cutP (w0 := wX3 a1 c s1) hP [3, 4, 5, 6, 7, 8, 9] rfl
        have hDc : va_D A (wX3 a1 c s1) := hD.sub [3, 4, 5, 6, 7, 8, 9] (by decide) rfl
        have hFc := va_free (wc := wX3 a1 c s1) hD hS hA [3, 4, 5, 6, 7, 8, 9] rfl
        refine g_sub (st1 := [.int r23, .int x4, .ref (a0 1)]) (wr := wX7 a0 c s0) (wn := wX7 a0 c s0 ++ wX3 a1 c s1) (gr_V (n := 2) (rest := [.int x4, .ref (a0 1)]) (pc := 23) hx hb hml hown hts (cX3_rowTells_met l D c tb sa sv a1 x4 x3 s1 _ hc23) gX7_run_X3_rowTells rfl rfl rfl (by decide +kernel) rfl ⟨Nat.le_of_ble_eq_true rfl, Nat.le_of_ble_eq_true rfl⟩ ⟨Nat.zero_le _, Nat.zero_le _⟩ 0 3 rfl rfl rfl xE_ok hPc hDc hK (xE_ok.tr hE hS hFc) hl.1 (Nat.le_of_ble_eq_true rfl) dX7_run_23 rfl) hP hD hS hA [3, 4, 5, 6, 7, 8, 9] [0, 1, 2] [0, 1, 2, 3, 4, 5, 6, 7, 8, 9] rfl rfl (by decide) (by decide) (by decide) rfl rfl (fun H locs hP hD hS => ?_)
        refine lv_ineg (pc := 26) hx hb dX7_run_26 ?_
        refine lv_i2l (v := (((-r23)).toInt64)) (pc := 27) hx hb dX7_run_27 rfl ?_
        obtain ⟨hk28, h⟩ := ckI_i h
        refine va_last (D := D) (f := (s0.2 0)) (pc := 28) hx hb hK hP hD hS 1 1 rfl rfl hk28 dX7_run_28 (fun H locs hP hD hS => ?_)
        have hP : va_P D vwCl (wX7 a0 c (ml s0 0 (x4).toNatClampNeg (((-r23)).toInt64)) ++ wX3 a1 c s1) H := hP
        have hD : va_D A (wX7 a0 c (ml s0 0 (x4).toNatClampNeg (((-r23)).toInt64)) ++ wX3 a1 c s1) := hD
        refine lv_aload_n (pc := 29) hx hb dX7_run_29 rfl (lv_at hl 0 rfl) ?_
        refine va_get (D := D) (ci := 7) (v := .ref (a0 2)) (C := RX7) (T := TX7) (N := 4) (pc := 30) hx hb hfX7 (fun _ h9 => h9) hown hK hP 0 rfl rfl 1 (by decide) lk4 (fun _ h9 => h9) rfl dX7_run_30 ?_
        refine lv_iload (pc := 33) hx hb dX7_run_33 (lv_at hl 4 rfl) ?_
        refine lv_aload_n (pc := 35) hx hb dX7_run_35 rfl (lv_at hl 0 rfl) ?_
        refine va_get (D := D) (ci := 7) (v := .ref (a0 1)) (C := RX7) (T := TX7) (N := 4) (pc := 36) hx hb hfX7 (fun _ h9 => h9) hown hK hP 0 rfl rfl 0 (by decide) lk3 (fun _ h9 => h9) rfl dX7_run_36 ?_
        refine lv_iload (pc := 39) hx hb dX7_run_39 (lv_at hl 4 rfl) ?_
        obtain ⟨hk41, h⟩ := ckI_i h
        refine va_lald (D := D) (f := ((ml s0 0 (x4).toNatClampNeg (((-r23)).toInt64)).2 0)) (pc := 41) hx hb hK hP 1 1 rfl rfl hk41 dX7_run_41 ?_
        obtain ⟨hk42, h⟩ := ckI_i h
        refine va_last (D := D) (f := ((ml s0 0 (x4).toNatClampNeg (((-r23)).toInt64)).2 1)) (pc := 42) hx hb hK hP hD hS 2 1 rfl rfl hk42 dX7_run_42 (fun H locs hP hD hS => ?_)
        obtain ⟨m0_42, em0_42, h⟩ := lt_i h
        have hP : va_P D vwCl (wX7 a0 c m0_42 ++ wX3 a1 c s1) H := by rw [em0_42]; exact hP
        have hD : va_D A (wX7 a0 c m0_42 ++ wX3 a1 c s1) := by rw [em0_42]; exact hD
        obtain ⟨v4_43, ev4_43, h⟩ := lt_i h
        refine lv_iinc (v := v4_43) (lv' := [(4, .int v4_43), (0, .ref (a0 0)), (1, .ref (a1 0)), (2, .int x2), (3, .int x3)]) (pc := 43) hx hb dX7_run_43 hl (k := 4) rfl (by rw [ev4_43]; rfl) (by decide) rfl (fun ls hl => ?_)
        refine lv_goto (tgt := 7) (pc := 46) hx hb dX7_run_46 (by decide) ?_
        have jr := K7h x2 x3 v4_43 m0_42 s1 _ _ ls h hP hD hS (lv_sub hl [1, 2, 3, 4, 0] rfl)
        exact jr
  refine lv_aload_n (pc := 0) hx hb dX7_run_0 rfl (lv_at hl 1 rfl) ?_
  obtain ⟨t0_1, hc1, h⟩ := b1_i h
  have hPc := g_cutP (w0 := wX3 a1 c s1) hP [3, 4, 5, 6, 7, 8, 9] rfl
  have hDc : va_D A (wX3 a1 c s1) := hD.sub [3, 4, 5, 6, 7, 8, 9] (by decide) rfl
  have hFc := va_free (wc := wX3 a1 c s1) hD hS hA [3, 4, 5, 6, 7, 8, 9] rfl
  refine g_sub (st1 := []) (wr := wX7 a0 c s0) (wn := wX7 a0 c s0 ++ wX3 a1 c t0_1) (gr_V (n := 0) (rest := []) (pc := 1) hx hb hml hown hts (cX3_findTables_met l D c tb sa sv a1 s1 _ hc1) gX7_run_X3_findTables rfl rfl rfl (by decide +kernel) rfl ⟨Nat.le_of_ble_eq_true rfl, Nat.le_of_ble_eq_true rfl⟩ ⟨Nat.zero_le _, Nat.zero_le _⟩ 0 3 rfl rfl rfl xE_ok hPc hDc hK (xE_ok.tr hE hS hFc) hl.1 (Nat.le_of_ble_eq_true rfl) dX7_run_1 rfl) hP hD hS hA [3, 4, 5, 6, 7, 8, 9] [0, 1, 2] [0, 1, 2, 3, 4, 5, 6, 7, 8, 9] rfl rfl (by decide) (by decide) (by decide) rfl rfl (fun H locs hP hD hS => ?_)
  refine lv_iconst (v := 0) (pc := 4) hx hb dX7_run_4 (by decide) ?_
  refine lv_istore (lv' := [(4, .int (0 : Int32)), (0, .ref (a0 0)), (1, .ref (a1 0)), (2, .int p1), (3, .int p2)]) (pc := 5) hx hb dX7_run_5 hl (by decide) rfl (fun ls hl => ?_)
  have jr := J7 FU p1 p2 (0 : Int32) s0 t0_1 _ _ ls h hP hD hS (lv_sub hl [1, 2, 3, 4, 0] rfl)
  exact jr
abbrev rmX7_at : Room := { frames := 0, cells := 0, slots := 0, locals := 0 }
set_option maxRecDepth 100000 in
set_option maxHeartbeats 40000000 in
theorem cX7_at_met (l : Launch) (D : va_G) (c : Nat → ClassId) (tb : Nat) (sa sv : Nat → Nat) (a0 : Nat → Nat) (p0 : Int32) (s0 : Mem) (r0 : Int32) (h : fX7_at p0 s0 = some r0) : gM l yX7_at wsX7_at rmX7_at D (gY c) (xE tb sa sv) [.ref (a0 0), .int p0] (wX7 a0 c s0) (some (.int r0)) (wX7 a0 c s0) := by
  unfold fX7_at at h
  refine gM.I (cc := cX7_at) (maxL := 4) (by decide) rfl (Nat.le_of_ble_eq_true rfl) ?_
  intro p e s m args below meth cd hx hb hml hown hts A hA ls hl hP hK hD hS hE Q KR0
  have hfX7 : ∀ w ∈ u_ws RX7 TX7 4, w.before args s = true := fun w hw => hts w (List.mem_cons_of_mem _ (List.mem_append_right _ hw))
  have lk0 := hts (.fieldLink RX7 17 "GlitchNets$Wave" "highs" "[J") (List.mem_of_getElem? (i := 4) rfl)
  have lk1 := hts (.fieldLink RX7 39 "GlitchNets$Wave" "output" "I") (List.mem_of_getElem? (i := 3) rfl)
  have lk2 := hts (.fieldLink RX7 11 "GlitchNets$Wave" "lows" "[J") (List.mem_of_getElem? (i := 2) rfl)
  have lk3 := hts (.fieldLink RX7 41 "GlitchNets$Wave" "ahead" "I") (List.mem_of_getElem? (i := 1) rfl)
  have KR : ∀ (v : Int32)  (H : Heap) (locs : List Loc) (pc : Nat) (ls : Array Slot), some v = some r0 → narrow .int (.int v) = .int v → va_P D vwCl (wX7 a0 c s0) H → va_D A (wX7 a0 c s0) → va_S A s.heap H locs → decode cX7_at pc = .ok (.ireturn, 1) → W p l e rmX7_at s m args below meth cd H locs 0 0 Q (F0 m pc ls [.int v]) := by
    intro v  H locs pc ls hr hn hP hD hS hd
    cases hr
    exact KR0 _ H locs pc ls rfl hn hP hD hS hd
  have hl : lv_has ls 4 [(0, .ref (a0 0)), (1, .int p0)] := hl
  refine lv_iload_n (pc := 0) hx hb dX7_at_0 rfl (lv_at hl 1 rfl) ?_
  refine lv_if_ge (tgt := 9) (pc := 1) hx hb dX7_at_1 (by decide) (fun c1 => ?_) (fun c1 => ?_)
  · replace h := it_t c1 h
    refine lv_iload_n (pc := 9) hx hb dX7_at_9 rfl (lv_at hl 1 rfl) ?_
    refine lv_bipush (v := 64) (pc := 10) hx hb dX7_at_10 (by decide) ?_
    refine lv_icmp_ge (tgt := 29) (pc := 12) hx hb dX7_at_12 (by decide) (fun c12 => ?_) (fun c12 => ?_)
    · replace h := it_t c12 h
      refine lv_aload_n (pc := 29) hx hb dX7_at_29 rfl (lv_at hl 0 rfl) ?_
      refine va_get (D := D) (ci := 7) (v := .ref (a0 2)) (C := RX7) (T := TX7) (N := 4) (pc := 30) hx hb hfX7 (fun _ h9 => h9) hown hK hP 0 rfl rfl 1 (by decide) lk0 (fun _ h9 => h9) rfl dX7_at_30 ?_
      refine lv_aload_n (pc := 33) hx hb dX7_at_33 rfl (lv_at hl 0 rfl) ?_
      refine va_get (D := D) (ci := 7) (v := .int (s0.1 2 0)) (C := RX7) (T := TX7) (N := 4) (pc := 34) hx hb hfX7 (fun _ h9 => h9) hown hK hP 0 rfl rfl 2 (by decide) lk1 (fun _ h9 => h9) rfl dX7_at_34 ?_
      obtain ⟨hk37, h⟩ := ckI_i h
      refine va_lald (D := D) (f := (s0.2 1)) (pc := 37) hx hb hK hP 2 1 rfl rfl hk37 dX7_at_37 ?_
      refine lv_iload_n (pc := 38) hx hb dX7_at_38 rfl (lv_at hl 1 rfl) ?_
      refine lv_bipush (v := 64) (pc := 39) hx hb dX7_at_39 (by decide) ?_
      refine lv_isub (pc := 41) hx hb dX7_at_41 ?_
      refine lv_lushr (v := (jlushr ((s0.2 1) ((s0.1 2 0)).toNatClampNeg) (p0 - (64 : Int32)))) (pc := 42) hx hb dX7_at_42 rfl ?_
      refine lv_topl (fun v2_43 ev2_43 => ?_)
      replace h := lt_e ev2_43 h
      refine lv_lstore_n (lv' := [(2, .long v2_43), (0, .ref (a0 0)), (1, .int p0)]) (pc := 43) hx hb dX7_at_43 rfl hl (by decide) rfl (fun ls hl => ?_)
      refine lv_lload_n (pc := 44) hx hb dX7_at_44 rfl (lv_at hl 0 rfl) ?_
      refine lv_lconst (v := 1) (pc := 45) hx hb dX7_at_45 (by decide) ?_
      refine lv_land (pc := 46) hx hb dX7_at_46 ?_
      refine lv_l2i (v := (((v2_43 &&& (1 : Int64))).toInt32)) (pc := 47) hx hb dX7_at_47 rfl ?_
      have kr := KR (((v2_43 &&& (1 : Int64))).toInt32)  _ _ 48 ls h rfl hP hD hS dX7_at_48
      exact kr
    · replace h := it_f c12 h
      refine lv_aload_n (pc := 15) hx hb dX7_at_15 rfl (lv_at hl 0 rfl) ?_
      refine va_get (D := D) (ci := 7) (v := .ref (a0 1)) (C := RX7) (T := TX7) (N := 4) (pc := 16) hx hb hfX7 (fun _ h9 => h9) hown hK hP 0 rfl rfl 0 (by decide) lk2 (fun _ h9 => h9) rfl dX7_at_16 ?_
      refine lv_aload_n (pc := 19) hx hb dX7_at_19 rfl (lv_at hl 0 rfl) ?_
      refine va_get (D := D) (ci := 7) (v := .int (s0.1 2 0)) (C := RX7) (T := TX7) (N := 4) (pc := 20) hx hb hfX7 (fun _ h9 => h9) hown hK hP 0 rfl rfl 2 (by decide) lk1 (fun _ h9 => h9) rfl dX7_at_20 ?_
      obtain ⟨hk23, h⟩ := ckI_i h
      refine va_lald (D := D) (f := (s0.2 0)) (pc := 23) hx hb hK hP 1 1 rfl rfl hk23 dX7_at_23 ?_
      refine lv_iload_n (pc := 24) hx hb dX7_at_24 rfl (lv_at hl 1 rfl) ?_
      refine lv_lushr (v := (jlushr ((s0.2 0) ((s0.1 2 0)).toNatClampNeg) p0)) (pc := 25) hx hb dX7_at_25 rfl ?_
      refine lv_goto (tgt := 43) (pc := 26) hx hb dX7_at_26 (by decide) ?_
      refine lv_topl (fun v2_43 ev2_43 => ?_)
      replace h := lt_e ev2_43 h
      refine lv_lstore_n (lv' := [(2, .long v2_43), (0, .ref (a0 0)), (1, .int p0)]) (pc := 43) hx hb dX7_at_43 rfl hl (by decide) rfl (fun ls hl => ?_)
      refine lv_lload_n (pc := 44) hx hb dX7_at_44 rfl (lv_at hl 0 rfl) ?_
      refine lv_lconst (v := 1) (pc := 45) hx hb dX7_at_45 (by decide) ?_
      refine lv_land (pc := 46) hx hb dX7_at_46 ?_
      refine lv_l2i (v := (((v2_43 &&& (1 : Int64))).toInt32)) (pc := 47) hx hb dX7_at_47 rfl ?_
      have kr := KR (((v2_43 &&& (1 : Int64))).toInt32)  _ _ 48 ls h rfl hP hD hS dX7_at_48
      exact kr
  · replace h := it_f c1 h
    refine lv_aload_n (pc := 4) hx hb dX7_at_4 rfl (lv_at hl 0 rfl) ?_
    refine va_get (D := D) (ci := 7) (v := .int (s0.1 3 0)) (C := RX7) (T := TX7) (N := 4) (pc := 5) hx hb hfX7 (fun _ h9 => h9) hown hK hP 0 rfl rfl 3 (by decide) lk3 (fun _ h9 => h9) rfl dX7_at_5 ?_
    have kr := KR (s0.1 3 0)  _ _ 8 ls h rfl hP hD hS dX7_at_8
    exact kr
abbrev rmX8_wave : Room := { frames := 3, cells := 0, slots := 0, locals := 76 }
set_option maxRecDepth 100000 in
set_option maxHeartbeats 40000000 in
theorem cX8_wave_met (l : Launch) (D : va_G) (c : Nat → ClassId) (tb : Nat) (sa sv : Nat → Nat) (a : Nat → Nat → Nat) (p0 : Int32) (p1 : Int32) (p2 : Int32) (X : XS) (r0 : Int32) (z0 : XS) (h : fX8_wave p0 p1 p2 X = some (r0, z0)) : gM l yX8_wave wsX8_wave rmX8_wave D (gY c) (xE tb sa sv) [.ref (a 0 0), .int p0, .int p1, .int p2] (wX a c X) (some (.int r0)) (wX a c z0) := by
  unfold fX8_wave at h
  refine gM.I (cc := cX8_wave) (maxL := 4) (by decide) rfl (Nat.le_of_ble_eq_true rfl) ?_
  intro p e s m args below meth cd hx hb hml hown hts A hA ls hl hP hK hD hS hE Q KR0
  have hfX8 : ∀ w ∈ u_ws RX8 TX8 12, w.before args s = true := fun w hw => hts w (List.mem_cons_of_mem _ (List.mem_append_left _ (List.mem_append_left _ (List.mem_append_right _ hw))))
  have lk0 := hts (.fieldLink RX8 26 "GlitchNets" "net" "LGlitchNets$Net;") (List.mem_of_getElem? (i := 1) rfl)
  have lk1 := hts (.fieldLink RX8 36 "GlitchNets" "outputWave" "LGlitchNets$Wave;") (List.mem_of_getElem? (i := 2) rfl)
  have hP := XP_iff.mp hP
  have hD := XD_of hD
  have KR : ∀ (v : Int32) (w0 : XS) (H : Heap) (locs : List Loc) (pc : Nat) (ls : Array Slot), some (v, w0) = some (r0, z0) → narrow .int (.int v) = .int v → XP D a c w0 H → va_S A s.heap H locs → decode cX8_wave pc = .ok (.ireturn, 1) → W p l e rmX8_wave s m args below meth cd H locs 0 0 Q (F0 m pc ls [.int v]) := by
    intro v w0 H locs pc ls hr hn hP hS hd
    cases hr
    exact KR0 _ H locs pc ls rfl hn (XP_iff.mpr hP) (hD.all c _) hS hd
  have hl : lv_has ls 4 [(0, .ref (a 0 0)), (1, .int p0), (2, .int p1), (3, .int p2)] := hl
  refine lv_iload_n (pc := 0) hx hb dX8_wave_0 rfl (lv_at hl 1 rfl) ?_
  refine lv_iload_n (pc := 1) hx hb dX8_wave_1 rfl (lv_at hl 2 rfl) ?_
  obtain ⟨r2, hc2, h⟩ := b1_i h
  refine g_noneX (st1 := [.int r2]) (gr_S (n := 2) (rest := []) (pc := 2) hx hb hml hown hts (cX8_isChange_met l D c tb sa sv p0 p1 _ hc2) gX8_wave_X8_isChange rfl rfl rfl (by decide +kernel) rfl ⟨Nat.le_of_ble_eq_true rfl, Nat.le_of_ble_eq_true rfl⟩ ⟨Nat.zero_le _, Nat.zero_le _⟩ xE_ok g_P0 (g_D0 (A := A)) hK (xE_ok.tr hE hS (g_free0 hS hA)) hl.1 (Nat.le_of_ble_eq_true rfl) dX8_wave_2 rfl) hP hS hA rfl (fun H locs hP hS => ?_)
  refine lv_if_eq (tgt := 18) (pc := 5) hx hb dX8_wave_5 (by decide) (fun c5 => ?_) (fun c5 => ?_)
  · replace h := it_t c5 h
    refine lv_bipush (v := -2) (pc := 18) hx hb dX8_wave_18 (by decide) ?_
    have kr := KR (-2 : Int32) X _ _ 20 ls h rfl hP hS dX8_wave_20
    exact kr
  · replace h := it_f c5 h
    refine lv_iload_n (pc := 8) hx hb dX8_wave_8 rfl (lv_at hl 3 rfl) ?_
    refine lv_iconst (v := 0) (pc := 9) hx hb dX8_wave_9 (by decide) ?_
    refine lv_bipush (v := 108) (pc := 10) hx hb dX8_wave_10 (by decide) ?_
    obtain ⟨r12, hc12, h⟩ := b1_i h
    refine g_noneX (st1 := [.int r12]) (gr_S (n := 3) (rest := []) (pc := 12) hx hb hml hown hts (cX8_isWithin_met l D c tb sa sv p2 (0 : Int32) (108 : Int32) _ hc12) gX8_wave_X8_isWithin rfl rfl rfl (by decide +kernel) rfl ⟨Nat.le_of_ble_eq_true rfl, Nat.le_of_ble_eq_true rfl⟩ ⟨Nat.zero_le _, Nat.zero_le _⟩ xE_ok g_P0 (g_D0 (A := A)) hK (xE_ok.tr hE hS (g_free0 hS hA)) hl.1 (Nat.le_of_ble_eq_true rfl) dX8_wave_12 rfl) hP hS hA rfl (fun H locs hP hS => ?_)
    refine lv_if_ne (tgt := 21) (pc := 15) hx hb dX8_wave_15 (by decide) (fun c15 => ?_) (fun c15 => ?_)
    · replace h := it_f c15 h
      refine lv_aload_n (pc := 21) hx hb dX8_wave_21 rfl (lv_at hl 0 rfl) ?_
      refine va_get (D := D) (ci := 8) (v := .ref ((a 3) 0)) (C := RX8) (T := TX8) (N := 12) (pc := 22) hx hb hfX8 (fun _ h9 => h9) hown hK (show va_P D vwCl (wX8 a c (X 0)) _ from hP 0 (by decide)) 0 rfl rfl 2 (by decide) lk0 (fun _ h9 => h9) rfl dX8_wave_22 ?_
      obtain ⟨r25, hc25, h⟩ := b1_i h
      have hw : (wX3 (a 3) c (X 3)).map (·.1) = [3].flatMap (uA a) := rfl
      have hPc : va_P D vwCl (wX3 (a 3) c (X 3)) _ := hP 3 (by decide)
      have hDc : va_D A (wX3 (a 3) c (X 3)) := hD.of_addr (by decide) (by decide) hw
      refine g_X (X' := X) (st1 := [.int r25]) (gr_V (n := 0) (rest := []) (pc := 25) hx hb hml hown hts (cX3_isEmpty_met l D c tb sa sv (a 3) (X 3) _ hc25) gX8_wave_X3_isEmpty rfl rfl rfl (by decide +kernel) rfl ⟨Nat.le_of_ble_eq_true rfl, Nat.le_of_ble_eq_true rfl⟩ ⟨Nat.zero_le _, Nat.zero_le _⟩ 0 3 rfl rfl rfl xE_ok hPc hDc hK (xE_ok.tr hE hS (g_freeX hD hS hA (by decide) (addr0 hw))) hl.1 (Nat.le_of_ble_eq_true rfl) dX8_wave_25 rfl) hP hD hS hA (ks := [3]) (by decide) (addr0 hw) (fun k9 _ hk9 => rfl) (fun H1 hw1 => (List.forall_mem_cons.mpr ⟨hw1, (fun _ h9 => absurd h9 List.not_mem_nil)⟩)) rfl (fun H locs hP hS => ?_)
      refine lv_if_eq (tgt := 34) (pc := 28) hx hb dX8_wave_28 (by decide) (fun c28 => ?_) (fun c28 => ?_)
      · replace h := it_t c28 h
        refine lv_aload_n (pc := 34) hx hb dX8_wave_34 rfl (lv_at hl 0 rfl) ?_
        refine va_get (D := D) (ci := 8) (v := .ref ((a 5) 0)) (C := RX8) (T := TX8) (N := 12) (pc := 35) hx hb hfX8 (fun _ h9 => h9) hown hK (show va_P D vwCl (wX8 a c (X 0)) _ from hP 0 (by decide)) 0 rfl rfl 4 (by decide) lk1 (fun _ h9 => h9) rfl dX8_wave_35 ?_
        refine lv_aload_n (pc := 38) hx hb dX8_wave_38 rfl (lv_at hl 0 rfl) ?_
        refine va_get (D := D) (ci := 8) (v := .ref ((a 3) 0)) (C := RX8) (T := TX8) (N := 12) (pc := 39) hx hb hfX8 (fun _ h9 => h9) hown hK (show va_P D vwCl (wX8 a c (X 0)) _ from hP 0 (by decide)) 0 rfl rfl 2 (by decide) lk0 (fun _ h9 => h9) rfl dX8_wave_39 ?_
        refine lv_iload_n (pc := 42) hx hb dX8_wave_42 rfl (lv_at hl 1 rfl) ?_
        refine lv_iload_n (pc := 43) hx hb dX8_wave_43 rfl (lv_at hl 2 rfl) ?_
        obtain ⟨t0_44, t1_44, hc44, h⟩ := b2_i h
        have hw : (wX7 (a 5) c (X 5) ++ wX3 (a 3) c (X 3)).map (·.1) = [5, 3].flatMap (uA a) := rfl
        have hPc : va_P D vwCl (wX7 (a 5) c (X 5) ++ wX3 (a 3) c (X 3)) _ := (hP 5 (by decide)).app (hP 3 (by decide))
        have hDc : va_D A (wX7 (a 5) c (X 5) ++ wX3 (a 3) c (X 3)) := hD.of_addr (by decide) (by decide) hw
        refine g_X (X' := (xs (xs X 5 t0_44) 3 t1_44)) (st1 := []) (gr_V (n := 3) (rest := []) (pc := 44) hx hb hml hown hts (cX7_run_met l D c tb sa sv (a 5) (a 3) p0 p1 (X 5) (X 3) _ _ hc44) gX8_wave_X7_run rfl rfl rfl (by decide +kernel) rfl ⟨Nat.le_of_ble_eq_true rfl, Nat.le_of_ble_eq_true rfl⟩ ⟨Nat.zero_le _, Nat.zero_le _⟩ 0 7 rfl rfl rfl xE_ok hPc hDc hK (xE_ok.tr hE hS (g_freeX hD hS hA (by decide) (addr0 hw))) hl.1 (Nat.le_of_ble_eq_true rfl) dX8_wave_44 rfl) hP hD hS hA (ks := [5, 3]) (by decide) (addr0 hw) (fun k9 _ hk9 => ((xs_o hk9 (j := 3) (by decide))).trans (xs_o hk9 (j := 5) (by decide))) (fun H1 hw1 => (List.forall_mem_cons.mpr ⟨(vP_l hw1), (List.forall_mem_cons.mpr ⟨(vP_r hw1), (fun _ h9 => absurd h9 List.not_mem_nil)⟩)⟩)) rfl (fun H locs hP hS => ?_)
        refine lv_aload_n (pc := 47) hx hb dX8_wave_47 rfl (lv_at hl 0 rfl) ?_
        refine va_get (D := D) (ci := 8) (v := .ref ((a 5) 0)) (C := RX8) (T := TX8) (N := 12) (pc := 48) hx hb hfX8 (fun _ h9 => h9) hown hK (show va_P D vwCl (wX8 a c ((xs (xs X 5 t0_44) 3 t1_44) 0)) _ from hP 0 (by decide)) 0 rfl rfl 4 (by decide) lk1 (fun _ h9 => h9) rfl dX8_wave_48 ?_
        refine lv_iload_n (pc := 51) hx hb dX8_wave_51 rfl (lv_at hl 3 rfl) ?_
        obtain ⟨r52, hc52, h⟩ := b1_i h
        have hw : (wX7 (a 5) c ((xs (xs X 5 t0_44) 3 t1_44) 5)).map (·.1) = [5].flatMap (uA a) := rfl
        have hPc : va_P D vwCl (wX7 (a 5) c ((xs (xs X 5 t0_44) 3 t1_44) 5)) _ := hP 5 (by decide)
        have hDc : va_D A (wX7 (a 5) c ((xs (xs X 5 t0_44) 3 t1_44) 5)) := hD.of_addr (by decide) (by decide) hw
        refine g_X (X' := (xs (xs X 5 t0_44) 3 t1_44)) (st1 := [.int r52]) (gr_V (n := 1) (rest := []) (pc := 52) hx hb hml hown hts (cX7_at_met l D c tb sa sv (a 5) p2 ((xs (xs X 5 t0_44) 3 t1_44) 5) _ hc52) gX8_wave_X7_at rfl rfl rfl (by decide +kernel) rfl ⟨Nat.le_of_ble_eq_true rfl, Nat.le_of_ble_eq_true rfl⟩ ⟨Nat.zero_le _, Nat.zero_le _⟩ 0 7 rfl rfl rfl xE_ok hPc hDc hK (xE_ok.tr hE hS (g_freeX hD hS hA (by decide) (addr0 hw))) hl.1 (Nat.le_of_ble_eq_true rfl) dX8_wave_52 rfl) hP hD hS hA (ks := [5]) (by decide) (addr0 hw) (fun k9 _ hk9 => rfl) (fun H1 hw1 => (List.forall_mem_cons.mpr ⟨hw1, (fun _ h9 => absurd h9 List.not_mem_nil)⟩)) rfl (fun H locs hP hS => ?_)
        have kr := KR r52 (xs (xs X 5 t0_44) 3 t1_44) _ _ 55 ls h rfl hP hS dX8_wave_55
        exact kr
      · replace h := it_f c28 h
        refine lv_bipush (v := -3) (pc := 31) hx hb dX8_wave_31 (by decide) ?_
        have kr := KR (-3 : Int32) X _ _ 33 ls h rfl hP hS dX8_wave_33
        exact kr
    · replace h := it_t c15 h
      refine lv_bipush (v := -2) (pc := 18) hx hb dX8_wave_18 (by decide) ?_
      have kr := KR (-2 : Int32) X _ _ 20 ls h rfl hP hS dX8_wave_20
      exact kr
abbrev rmJ13_bitCount_95d88 : Room := { frames := 0, cells := 0, slots := 0, locals := 0 }
set_option maxRecDepth 100000 in
set_option maxHeartbeats 40000000 in
theorem cJ13_bitCount_95d88_met (l : Launch) (D : va_G) (c : Nat → ClassId)  (p0 : Int64) (r0 : Int32) (h : fJ13_bitCount_95d88 p0 = some r0) : gM l yJ13_bitCount_95d88 wsJ13_bitCount_95d88 rmJ13_bitCount_95d88 D (gY c) gT [.long p0] ([]) (some (.int r0)) ([]) := by
  unfold fJ13_bitCount_95d88 at h
  refine gM.I (cc := cJ13_bitCount_95d88) (maxL := 2) (by decide) rfl (Nat.le_of_ble_eq_true rfl) ?_
  intro p e s m args below meth cd hx hb hml hown hts A hA ls hl hP hK hD hS hE Q KR0
  have lk0 := hts (.constantLong RJ13 314 (6148914691236517205)) (List.mem_of_getElem? (i := 1) rfl)
  have lk1 := hts (.constantLong RJ13 316 (3689348814741910323)) (List.mem_of_getElem? (i := 2) rfl)
  have lk2 := hts (.constantLong RJ13 318 (1085102592571150095)) (List.mem_of_getElem? (i := 3) rfl)
  have KR : ∀ (v : Int32)  (H : Heap) (locs : List Loc) (pc : Nat) (ls : Array Slot), some v = some r0 → narrow .int (.int v) = .int v → va_P D vwCl ([]) H → va_D A ([]) → va_S A s.heap H locs → decode cJ13_bitCount_95d88 pc = .ok (.ireturn, 1) → W p l e rmJ13_bitCount_95d88 s m args below meth cd H locs 0 0 Q (F0 m pc ls [.int v]) := by
    intro v  H locs pc ls hr hn hP hD hS hd
    cases hr
    exact KR0 _ H locs pc ls rfl hn hP hD hS hd
  have hl : lv_has ls 2 [(0, .long p0)] := hl
  refine lv_lload_n (pc := 0) hx hb dJ13_bitCount_95d88_0 rfl (lv_at hl 0 rfl) ?_
  refine lv_lload_n (pc := 1) hx hb dJ13_bitCount_95d88_1 rfl (lv_at hl 0 rfl) ?_
  refine lv_iconst (v := 1) (pc := 2) hx hb dJ13_bitCount_95d88_2 (by decide) ?_
  refine lv_lushr (v := (jlushr p0 (1 : Int32))) (pc := 3) hx hb dJ13_bitCount_95d88_3 rfl ?_
  refine lv_ldc2 (v := 6148914691236517205) (pc := 4) hx hb hown lk0 dJ13_bitCount_95d88_4 ?_
  refine lv_land (pc := 7) hx hb dJ13_bitCount_95d88_7 ?_
  refine lv_lsub (pc := 8) hx hb dJ13_bitCount_95d88_8 ?_
  refine lv_topl (fun v0_9 ev0_9 => ?_)
  replace h := lt_e ev0_9 h
  refine lv_lstore_n (lv' := [(0, .long v0_9)]) (pc := 9) hx hb dJ13_bitCount_95d88_9 rfl hl (by decide) rfl (fun ls hl => ?_)
  refine lv_lload_n (pc := 10) hx hb dJ13_bitCount_95d88_10 rfl (lv_at hl 0 rfl) ?_
  refine lv_ldc2 (v := 3689348814741910323) (pc := 11) hx hb hown lk1 dJ13_bitCount_95d88_11 ?_
  refine lv_land (pc := 14) hx hb dJ13_bitCount_95d88_14 ?_
  refine lv_lload_n (pc := 15) hx hb dJ13_bitCount_95d88_15 rfl (lv_at hl 0 rfl) ?_
  refine lv_iconst (v := 2) (pc := 16) hx hb dJ13_bitCount_95d88_16 (by decide) ?_
  refine lv_lushr (v := (jlushr v0_9 (2 : Int32))) (pc := 17) hx hb dJ13_bitCount_95d88_17 rfl ?_
  refine lv_ldc2 (v := 3689348814741910323) (pc := 18) hx hb hown lk1 dJ13_bitCount_95d88_18 ?_
  refine lv_land (pc := 21) hx hb dJ13_bitCount_95d88_21 ?_
  refine lv_ladd (pc := 22) hx hb dJ13_bitCount_95d88_22 ?_
  refine lv_topl (fun v0_23 ev0_23 => ?_)
  replace h := lt_e ev0_23 h
  refine lv_lstore_n (lv' := [(0, .long v0_23)]) (pc := 23) hx hb dJ13_bitCount_95d88_23 rfl hl (by decide) rfl (fun ls hl => ?_)
  refine lv_lload_n (pc := 24) hx hb dJ13_bitCount_95d88_24 rfl (lv_at hl 0 rfl) ?_
  refine lv_lload_n (pc := 25) hx hb dJ13_bitCount_95d88_25 rfl (lv_at hl 0 rfl) ?_
  refine lv_iconst (v := 4) (pc := 26) hx hb dJ13_bitCount_95d88_26 (by decide) ?_
  refine lv_lushr (v := (jlushr v0_23 (4 : Int32))) (pc := 27) hx hb dJ13_bitCount_95d88_27 rfl ?_
  refine lv_ladd (pc := 28) hx hb dJ13_bitCount_95d88_28 ?_
  refine lv_ldc2 (v := 1085102592571150095) (pc := 29) hx hb hown lk2 dJ13_bitCount_95d88_29 ?_
  refine lv_land (pc := 32) hx hb dJ13_bitCount_95d88_32 ?_
  refine lv_topl (fun v0_33 ev0_33 => ?_)
  replace h := lt_e ev0_33 h
  refine lv_lstore_n (lv' := [(0, .long v0_33)]) (pc := 33) hx hb dJ13_bitCount_95d88_33 rfl hl (by decide) rfl (fun ls hl => ?_)
  refine lv_lload_n (pc := 34) hx hb dJ13_bitCount_95d88_34 rfl (lv_at hl 0 rfl) ?_
  refine lv_lload_n (pc := 35) hx hb dJ13_bitCount_95d88_35 rfl (lv_at hl 0 rfl) ?_
  refine lv_bipush (v := 8) (pc := 36) hx hb dJ13_bitCount_95d88_36 (by decide) ?_
  refine lv_lushr (v := (jlushr v0_33 (8 : Int32))) (pc := 38) hx hb dJ13_bitCount_95d88_38 rfl ?_
  refine lv_ladd (pc := 39) hx hb dJ13_bitCount_95d88_39 ?_
  refine lv_topl (fun v0_40 ev0_40 => ?_)
  replace h := lt_e ev0_40 h
  refine lv_lstore_n (lv' := [(0, .long v0_40)]) (pc := 40) hx hb dJ13_bitCount_95d88_40 rfl hl (by decide) rfl (fun ls hl => ?_)
  refine lv_lload_n (pc := 41) hx hb dJ13_bitCount_95d88_41 rfl (lv_at hl 0 rfl) ?_
  refine lv_lload_n (pc := 42) hx hb dJ13_bitCount_95d88_42 rfl (lv_at hl 0 rfl) ?_
  refine lv_bipush (v := 16) (pc := 43) hx hb dJ13_bitCount_95d88_43 (by decide) ?_
  refine lv_lushr (v := (jlushr v0_40 (16 : Int32))) (pc := 45) hx hb dJ13_bitCount_95d88_45 rfl ?_
  refine lv_ladd (pc := 46) hx hb dJ13_bitCount_95d88_46 ?_
  refine lv_topl (fun v0_47 ev0_47 => ?_)
  replace h := lt_e ev0_47 h
  refine lv_lstore_n (lv' := [(0, .long v0_47)]) (pc := 47) hx hb dJ13_bitCount_95d88_47 rfl hl (by decide) rfl (fun ls hl => ?_)
  refine lv_lload_n (pc := 48) hx hb dJ13_bitCount_95d88_48 rfl (lv_at hl 0 rfl) ?_
  refine lv_lload_n (pc := 49) hx hb dJ13_bitCount_95d88_49 rfl (lv_at hl 0 rfl) ?_
  refine lv_bipush (v := 32) (pc := 50) hx hb dJ13_bitCount_95d88_50 (by decide) ?_
  refine lv_lushr (v := (jlushr v0_47 (32 : Int32))) (pc := 52) hx hb dJ13_bitCount_95d88_52 rfl ?_
  refine lv_ladd (pc := 53) hx hb dJ13_bitCount_95d88_53 ?_
  refine lv_topl (fun v0_54 ev0_54 => ?_)
  replace h := lt_e ev0_54 h
  refine lv_lstore_n (lv' := [(0, .long v0_54)]) (pc := 54) hx hb dJ13_bitCount_95d88_54 rfl hl (by decide) rfl (fun ls hl => ?_)
  refine lv_lload_n (pc := 55) hx hb dJ13_bitCount_95d88_55 rfl (lv_at hl 0 rfl) ?_
  refine lv_l2i (v := ((v0_54).toInt32)) (pc := 56) hx hb dJ13_bitCount_95d88_56 rfl ?_
  refine lv_bipush (v := 127) (pc := 57) hx hb dJ13_bitCount_95d88_57 (by decide) ?_
  refine lv_iand (pc := 59) hx hb dJ13_bitCount_95d88_59 ?_
  have kr := KR (((v0_54).toInt32) &&& (127 : Int32))  _ _ 60 ls h rfl hP hD hS dJ13_bitCount_95d88_60
  exact kr
abbrev rmX7_flips : Room := { frames := 1, cells := 0, slots := 0, locals := 21 }
set_option maxRecDepth 100000 in
set_option maxHeartbeats 40000000 in
theorem cX7_flips_met (l : Launch) (D : va_G) (c : Nat → ClassId) (tb : Nat) (sa sv : Nat → Nat) (a0 : Nat → Nat) (s0 : Mem) (r0 : Int32) (h : fX7_flips s0 = some r0) : gM l yX7_flips wsX7_flips rmX7_flips D (gY c) (xE tb sa sv) [.ref (a0 0)] (wX7 a0 c s0) (some (.int r0)) (wX7 a0 c s0) := by
  unfold fX7_flips at h
  refine gM.I (cc := cX7_flips) (maxL := 5) (by decide) rfl (Nat.le_of_ble_eq_true rfl) ?_
  intro p e s m args below meth cd hx hb hml hown hts A hA ls hl hP hK hD hS hE Q KR0
  have hfX7 : ∀ w ∈ u_ws RX7 TX7 4, w.before args s = true := fun w hw => hts w (List.mem_cons_of_mem _ (List.mem_append_right _ hw))
  have lk0 := hts (.fieldLink RX7 11 "GlitchNets$Wave" "lows" "[J") (List.mem_of_getElem? (i := 1) rfl)
  have lk1 := hts (.fieldLink RX7 39 "GlitchNets$Wave" "output" "I") (List.mem_of_getElem? (i := 2) rfl)
  have lk2 := hts (.fieldLink RX7 17 "GlitchNets$Wave" "highs" "[J") (List.mem_of_getElem? (i := 3) rfl)
  have lk3 := hts (.fieldLink RX7 41 "GlitchNets$Wave" "ahead" "I") (List.mem_of_getElem? (i := 4) rfl)
  have KR : ∀ (v : Int32)  (H : Heap) (locs : List Loc) (pc : Nat) (ls : Array Slot), some v = some r0 → narrow .int (.int v) = .int v → va_P D vwCl (wX7 a0 c s0) H → va_D A (wX7 a0 c s0) → va_S A s.heap H locs → decode cX7_flips pc = .ok (.ireturn, 1) → W p l e rmX7_flips s m args below meth cd H locs 0 0 Q (F0 m pc ls [.int v]) := by
    intro v  H locs pc ls hr hn hP hD hS hd
    cases hr
    exact KR0 _ H locs pc ls rfl hn hP hD hS hd
  have hl : lv_has ls 5 [(0, .ref (a0 0))] := hl
  refine lv_aload_n (pc := 0) hx hb dX7_flips_0 rfl (lv_at hl 0 rfl) ?_
  refine va_get (D := D) (ci := 7) (v := .ref (a0 1)) (C := RX7) (T := TX7) (N := 4) (pc := 1) hx hb hfX7 (fun _ h9 => h9) hown hK hP 0 rfl rfl 0 (by decide) lk0 (fun _ h9 => h9) rfl dX7_flips_1 ?_
  refine lv_aload_n (pc := 4) hx hb dX7_flips_4 rfl (lv_at hl 0 rfl) ?_
  refine va_get (D := D) (ci := 7) (v := .int (s0.1 2 0)) (C := RX7) (T := TX7) (N := 4) (pc := 5) hx hb hfX7 (fun _ h9 => h9) hown hK hP 0 rfl rfl 2 (by decide) lk1 (fun _ h9 => h9) rfl dX7_flips_5 ?_
  obtain ⟨hk8, h⟩ := ckI_i h
  refine va_lald (D := D) (f := (s0.2 0)) (pc := 8) hx hb hK hP 1 1 rfl rfl hk8 dX7_flips_8 ?_
  refine lv_topl (fun v1_9 ev1_9 => ?_)
  replace h := lt_e ev1_9 h
  refine lv_lstore_n (lv' := [(1, .long v1_9), (0, .ref (a0 0))]) (pc := 9) hx hb dX7_flips_9 rfl hl (by decide) rfl (fun ls hl => ?_)
  refine lv_aload_n (pc := 10) hx hb dX7_flips_10 rfl (lv_at hl 1 rfl) ?_
  refine va_get (D := D) (ci := 7) (v := .ref (a0 2)) (C := RX7) (T := TX7) (N := 4) (pc := 11) hx hb hfX7 (fun _ h9 => h9) hown hK hP 0 rfl rfl 1 (by decide) lk2 (fun _ h9 => h9) rfl dX7_flips_11 ?_
  refine lv_aload_n (pc := 14) hx hb dX7_flips_14 rfl (lv_at hl 1 rfl) ?_
  refine va_get (D := D) (ci := 7) (v := .int (s0.1 2 0)) (C := RX7) (T := TX7) (N := 4) (pc := 15) hx hb hfX7 (fun _ h9 => h9) hown hK hP 0 rfl rfl 2 (by decide) lk1 (fun _ h9 => h9) rfl dX7_flips_15 ?_
  obtain ⟨hk18, h⟩ := ckI_i h
  refine va_lald (D := D) (f := (s0.2 1)) (pc := 18) hx hb hK hP 2 1 rfl rfl hk18 dX7_flips_18 ?_
  refine lv_topl (fun v3_19 ev3_19 => ?_)
  replace h := lt_e ev3_19 h
  refine lv_lstore_n (lv' := [(3, .long v3_19), (1, .long v1_9), (0, .ref (a0 0))]) (pc := 19) hx hb dX7_flips_19 rfl hl (by decide) rfl (fun ls hl => ?_)
  refine lv_lload_n (pc := 20) hx hb dX7_flips_20 rfl (lv_at hl 1 rfl) ?_
  refine lv_lload_n (pc := 21) hx hb dX7_flips_21 rfl (lv_at hl 1 rfl) ?_
  refine lv_iconst (v := 1) (pc := 22) hx hb dX7_flips_22 (by decide) ?_
  refine lv_lshl (v := (jlshl v1_9 (1 : Int32))) (pc := 23) hx hb dX7_flips_23 rfl ?_
  refine lv_aload_n (pc := 24) hx hb dX7_flips_24 rfl (lv_at hl 2 rfl) ?_
  refine va_get (D := D) (ci := 7) (v := .int (s0.1 3 0)) (C := RX7) (T := TX7) (N := 4) (pc := 25) hx hb hfX7 (fun _ h9 => h9) hown hK hP 0 rfl rfl 3 (by decide) lk3 (fun _ h9 => h9) rfl dX7_flips_25 ?_
  refine lv_i2l (v := (((s0.1 3 0)).toInt64)) (pc := 28) hx hb dX7_flips_28 rfl ?_
  refine lv_lor (pc := 29) hx hb dX7_flips_29 ?_
  refine lv_lxor (pc := 30) hx hb dX7_flips_30 ?_
  obtain ⟨r31, hc31, h⟩ := b1_i h
  refine g_none (st1 := [.int r31]) (gr_S (n := 1) (rest := []) (pc := 31) hx hb hml hown hts (cJ13_bitCount_95d88_met l D c ((v1_9 ^^^ ((jlshl v1_9 (1 : Int32)) ||| (((s0.1 3 0)).toInt64)))) _ hc31) gX7_flips_J13_bitCount_95d88 rfl rfl rfl (by decide +kernel) rfl ⟨Nat.le_of_ble_eq_true rfl, Nat.le_of_ble_eq_true rfl⟩ ⟨Nat.zero_le _, Nat.zero_le _⟩ gT_ok g_P0 (g_D0 (A := A)) hK (fun _ _ _ => trivial) hl.1 (Nat.le_of_ble_eq_true rfl) dX7_flips_31 rfl) hP hS hA rfl (fun H locs hP hS => ?_)
  refine lv_lload_n (pc := 34) hx hb dX7_flips_34 rfl (lv_at hl 0 rfl) ?_
  refine lv_lload_n (pc := 35) hx hb dX7_flips_35 rfl (lv_at hl 0 rfl) ?_
  refine lv_iconst (v := 1) (pc := 36) hx hb dX7_flips_36 (by decide) ?_
  refine lv_lshl (v := (jlshl v3_19 (1 : Int32))) (pc := 37) hx hb dX7_flips_37 rfl ?_
  refine lv_lload_n (pc := 38) hx hb dX7_flips_38 rfl (lv_at hl 1 rfl) ?_
  refine lv_bipush (v := 63) (pc := 39) hx hb dX7_flips_39 (by decide) ?_
  refine lv_lushr (v := (jlushr v1_9 (63 : Int32))) (pc := 41) hx hb dX7_flips_41 rfl ?_
  refine lv_lor (pc := 42) hx hb dX7_flips_42 ?_
  refine lv_lxor (pc := 43) hx hb dX7_flips_43 ?_
  obtain ⟨r44, hc44, h⟩ := b1_i h
  refine g_none (st1 := [.int r44, .int r31]) (gr_S (n := 1) (rest := [.int r31]) (pc := 44) hx hb hml hown hts (cJ13_bitCount_95d88_met l D c ((v3_19 ^^^ ((jlshl v3_19 (1 : Int32)) ||| (jlushr v1_9 (63 : Int32))))) _ hc44) gX7_flips_J13_bitCount_95d88 rfl rfl rfl (by decide +kernel) rfl ⟨Nat.le_of_ble_eq_true rfl, Nat.le_of_ble_eq_true rfl⟩ ⟨Nat.zero_le _, Nat.zero_le _⟩ gT_ok g_P0 (g_D0 (A := A)) hK (fun _ _ _ => trivial) hl.1 (Nat.le_of_ble_eq_true rfl) dX7_flips_44 rfl) hP hS hA rfl (fun H locs hP hS => ?_)
  refine lv_iadd (pc := 47) hx hb dX7_flips_47 ?_
  have kr := KR (r31 + r44)  _ _ 48 ls h rfl hP hD hS dX7_flips_48
  exact kr
abbrev rmX7_glitch : Room := { frames := 2, cells := 0, slots := 0, locals := 45 }
set_option maxRecDepth 100000 in
set_option maxHeartbeats 40000000 in
theorem cX7_glitch_met (l : Launch) (D : va_G) (c : Nat → ClassId) (tb : Nat) (sa sv : Nat → Nat) (a0 : Nat → Nat) (s0 : Mem) (r0 : Int32) (h : fX7_glitch s0 = some r0) : gM l yX7_glitch wsX7_glitch rmX7_glitch D (gY c) (xE tb sa sv) [.ref (a0 0)] (wX7 a0 c s0) (some (.int r0)) (wX7 a0 c s0) := by
  unfold fX7_glitch at h
  refine gM.I (cc := cX7_glitch) (maxL := 2) (by decide) rfl (Nat.le_of_ble_eq_true rfl) ?_
  intro p e s m args below meth cd hx hb hml hown hts A hA ls hl hP hK hD hS hE Q KR0
  have hfX7 : ∀ w ∈ u_ws RX7 TX7 4, w.before args s = true := fun w hw => hts w (List.mem_cons_of_mem _ (List.mem_append_right _ hw))
  have lk0 := hts (.fieldLink RX7 41 "GlitchNets$Wave" "ahead" "I") (List.mem_of_getElem? (i := 1) rfl)
  have KR : ∀ (v : Int32)  (H : Heap) (locs : List Loc) (pc : Nat) (ls : Array Slot), some v = some r0 → narrow .int (.int v) = .int v → va_P D vwCl (wX7 a0 c s0) H → va_D A (wX7 a0 c s0) → va_S A s.heap H locs → decode cX7_glitch pc = .ok (.ireturn, 1) → W p l e rmX7_glitch s m args below meth cd H locs 0 0 Q (F0 m pc ls [.int v]) := by
    intro v  H locs pc ls hr hn hP hD hS hd
    cases hr
    exact KR0 _ H locs pc ls rfl hn hP hD hS hd
  have hl : lv_has ls 2 [(0, .ref (a0 0))] := hl
  refine lv_aload_n (pc := 0) hx hb dX7_glitch_0 rfl (lv_at hl 0 rfl) ?_
  obtain ⟨r1, hc1, h⟩ := b1_i h
  refine g_all (st1 := [.int r1]) (gr_V (n := 0) (rest := []) (pc := 1) hx hb hml hown hts (cX7_flips_met l D c tb sa sv a0 s0 _ hc1) gX7_glitch_X7_flips rfl rfl rfl (by decide +kernel) rfl ⟨Nat.le_of_ble_eq_true rfl, Nat.le_of_ble_eq_true rfl⟩ ⟨Nat.zero_le _, Nat.zero_le _⟩ 0 7 rfl rfl rfl xE_ok hP hD hK (xE_ok.tr hE hS (g_free hD hS hA)) hl.1 (Nat.le_of_ble_eq_true rfl) dX7_glitch_1 rfl) hD hS hA rfl (fun H locs hP hD hS => ?_)
  refine lv_istore_n (lv' := [(1, .int r1), (0, .ref (a0 0))]) (pc := 4) hx hb dX7_glitch_4 rfl hl (by decide) rfl (fun ls hl => ?_)
  refine lv_aload_n (pc := 5) hx hb dX7_glitch_5 rfl (lv_at hl 1 rfl) ?_
  refine lv_bipush (v := 108) (pc := 6) hx hb dX7_glitch_6 (by decide) ?_
  obtain ⟨r8, hc8, h⟩ := b1_i h
  refine g_all (st1 := [.int r8]) (gr_V (n := 1) (rest := []) (pc := 8) hx hb hml hown hts (cX7_at_met l D c tb sa sv a0 (108 : Int32) s0 _ hc8) gX7_glitch_X7_at rfl rfl rfl (by decide +kernel) rfl ⟨Nat.le_of_ble_eq_true rfl, Nat.le_of_ble_eq_true rfl⟩ ⟨Nat.zero_le _, Nat.zero_le _⟩ 0 7 rfl rfl rfl xE_ok hP hD hK (xE_ok.tr hE hS (g_free hD hS hA)) hl.1 (Nat.le_of_ble_eq_true rfl) dX7_glitch_8 rfl) hD hS hA rfl (fun H locs hP hD hS => ?_)
  refine lv_aload_n (pc := 11) hx hb dX7_glitch_11 rfl (lv_at hl 1 rfl) ?_
  refine va_get (D := D) (ci := 7) (v := .int (s0.1 3 0)) (C := RX7) (T := TX7) (N := 4) (pc := 12) hx hb hfX7 (fun _ h9 => h9) hown hK hP 0 rfl rfl 3 (by decide) lk0 (fun _ h9 => h9) rfl dX7_glitch_12 ?_
  refine lv_icmp_ne (tgt := 28) (pc := 15) hx hb dX7_glitch_15 (by decide) (fun c15 => ?_) (fun c15 => ?_)
  · replace h := it_f c15 h
    refine lv_iload_n (pc := 28) hx hb dX7_glitch_28 rfl (lv_at hl 0 rfl) ?_
    refine lv_iconst (v := 1) (pc := 29) hx hb dX7_glitch_29 (by decide) ?_
    refine lv_icmp_le (tgt := 37) (pc := 30) hx hb dX7_glitch_30 (by decide) (fun c30 => ?_) (fun c30 => ?_)
    · replace h := it_t c30 h
      refine lv_iconst (v := 0) (pc := 37) hx hb dX7_glitch_37 (by decide) ?_
      have kr := KR (0 : Int32)  _ _ 38 ls h rfl hP hD hS dX7_glitch_38
      exact kr
    · replace h := it_f c30 h
      refine lv_iconst (v := 2) (pc := 33) hx hb dX7_glitch_33 (by decide) ?_
      refine lv_goto (tgt := 38) (pc := 34) hx hb dX7_glitch_34 (by decide) ?_
      have kr := KR (2 : Int32)  _ _ 38 ls h rfl hP hD hS dX7_glitch_38
      exact kr
  · replace h := it_t c15 h
    refine lv_iload_n (pc := 18) hx hb dX7_glitch_18 rfl (lv_at hl 0 rfl) ?_
    refine lv_if_le (tgt := 26) (pc := 19) hx hb dX7_glitch_19 (by decide) (fun c19 => ?_) (fun c19 => ?_)
    · replace h := it_t c19 h
      refine lv_iconst (v := 0) (pc := 26) hx hb dX7_glitch_26 (by decide) ?_
      have kr := KR (0 : Int32)  _ _ 27 ls h rfl hP hD hS dX7_glitch_27
      exact kr
    · replace h := it_f c19 h
      refine lv_iconst (v := 1) (pc := 22) hx hb dX7_glitch_22 (by decide) ?_
      refine lv_goto (tgt := 27) (pc := 23) hx hb dX7_glitch_23 (by decide) ?_
      have kr := KR (1 : Int32)  _ _ 27 ls h rfl hP hD hS dX7_glitch_27
      exact kr
abbrev rmX7_settles : Room := { frames := 1, cells := 0, slots := 0, locals := 23 }
set_option maxRecDepth 100000 in
set_option maxHeartbeats 40000000 in
theorem cX7_settles_met (l : Launch) (D : va_G) (c : Nat → ClassId) (tb : Nat) (sa sv : Nat → Nat) (a0 : Nat → Nat) (s0 : Mem) (r0 : Int32) (h : fX7_settles s0 = some r0) : gM l yX7_settles wsX7_settles rmX7_settles D (gY c) (xE tb sa sv) [.ref (a0 0)] (wX7 a0 c s0) (some (.int r0)) (wX7 a0 c s0) := by
  unfold fX7_settles at h
  refine gM.I (cc := cX7_settles) (maxL := 2) (by decide) rfl (Nat.le_of_ble_eq_true rfl) ?_
  intro p e s m args below meth cd hx hb hml hown hts A hA ls hl hP hK hD hS hE Q KR0
  have KR : ∀ (v : Int32)  (H : Heap) (locs : List Loc) (pc : Nat) (ls : Array Slot), some v = some r0 → narrow .int (.int v) = .int v → va_P D vwCl (wX7 a0 c s0) H → va_D A (wX7 a0 c s0) → va_S A s.heap H locs → decode cX7_settles pc = .ok (.ireturn, 1) → W p l e rmX7_settles s m args below meth cd H locs 0 0 Q (F0 m pc ls [.int v]) := by
    intro v  H locs pc ls hr hn hP hD hS hd
    cases hr
    exact KR0 _ H locs pc ls rfl hn hP hD hS hd
  have hl : lv_has ls 2 [(0, .ref (a0 0))] := hl
  have J3 : ∀ (n : Nat) (x1 : Int32) (H : Heap) (locs : List Loc) (ls : Array Slot), fX7_settles_b3 s0 n x1 = some r0 → va_P D vwCl (wX7 a0 c s0) H → va_D A (wX7 a0 c s0) → va_S A s.heap H locs → lv_has ls 2 [(0, .ref (a0 0)), (1, .int x1)] → W p l e rmX7_settles s m args below meth cd H locs 0 0 Q (F0 m 3 ls []) := by
    intro n
    induction n with
    | zero =>
      intro x1 H locs ls h _ _ _ _
      cases (show (none : Option (Int32)) = some _ from h)
    | succ n K3h =>
      intro x1 H locs ls h hP hD hS hl
      rw [fX7_settles_b3] at h
      refine lv_iload_n (pc := 3) hx hb dX7_settles_3 rfl (lv_at hl 1 rfl) ?_
      refine lv_if_lt (tgt := 30) (pc := 4) hx hb dX7_settles_4 (by decide) (fun c4 => ?_) (fun c4 => ?_)
      · replace h := it_t c4 h
        refine lv_iconst (v := -1) (pc := 30) hx hb dX7_settles_30 (by decide) ?_
        have kr := KR (-1 : Int32)  _ _ 31 ls h rfl hP hD hS dX7_settles_31
        exact kr
      · replace h := it_f c4 h
        refine lv_aload_n (pc := 7) hx hb dX7_settles_7 rfl (lv_at hl 0 rfl) ?_
        refine lv_iload_n (pc := 8) hx hb dX7_settles_8 rfl (lv_at hl 1 rfl) ?_
        obtain ⟨r9, hc9, h⟩ := b1_i h
        refine g_all (st1 := [.int r9]) (gr_V (n := 1) (rest := []) (pc := 9) hx hb hml hown hts (cX7_at_met l D c tb sa sv a0 x1 s0 _ hc9) gX7_settles_X7_at rfl rfl rfl (by decide +kernel) rfl ⟨Nat.le_of_ble_eq_true rfl, Nat.le_of_ble_eq_true rfl⟩ ⟨Nat.zero_le _, Nat.zero_le _⟩ 0 7 rfl rfl rfl xE_ok hP hD hK (xE_ok.tr hE hS (g_free hD hS hA)) hl.1 (Nat.le_of_ble_eq_true rfl) dX7_settles_9 rfl) hD hS hA rfl (fun H locs hP hD hS => ?_)
        refine lv_aload_n (pc := 12) hx hb dX7_settles_12 rfl (lv_at hl 0 rfl) ?_
        refine lv_iload_n (pc := 13) hx hb dX7_settles_13 rfl (lv_at hl 1 rfl) ?_
        refine lv_iconst (v := 1) (pc := 14) hx hb dX7_settles_14 (by decide) ?_
        refine lv_isub (pc := 15) hx hb dX7_settles_15 ?_
        obtain ⟨r16, hc16, h⟩ := b1_i h
        refine g_all (st1 := [.int r16, .int r9]) (gr_V (n := 1) (rest := [.int r9]) (pc := 16) hx hb hml hown hts (cX7_at_met l D c tb sa sv a0 ((x1 - (1 : Int32))) s0 _ hc16) gX7_settles_X7_at rfl rfl rfl (by decide +kernel) rfl ⟨Nat.le_of_ble_eq_true rfl, Nat.le_of_ble_eq_true rfl⟩ ⟨Nat.zero_le _, Nat.zero_le _⟩ 0 7 rfl rfl rfl xE_ok hP hD hK (xE_ok.tr hE hS (g_free hD hS hA)) hl.1 (Nat.le_of_ble_eq_true rfl) dX7_settles_16 rfl) hD hS hA rfl (fun H locs hP hD hS => ?_)
        refine lv_icmp_eq (tgt := 24) (pc := 19) hx hb dX7_settles_19 (by decide) (fun c19 => ?_) (fun c19 => ?_)
        · replace h := it_t c19 h
          obtain ⟨v1_24, ev1_24, h⟩ := lt_i h
          refine lv_iinc (v := v1_24) (lv' := [(1, .int v1_24), (0, .ref (a0 0))]) (pc := 24) hx hb dX7_settles_24 hl (k := 1) rfl (by rw [ev1_24]; rfl) (by decide) rfl (fun ls hl => ?_)
          refine lv_goto (tgt := 3) (pc := 27) hx hb dX7_settles_27 (by decide) ?_
          have jr := K3h v1_24 _ _ ls h hP hD hS (lv_sub hl [1, 0] rfl)
          exact jr
        · replace h := it_f c19 h
          refine lv_iload_n (pc := 22) hx hb dX7_settles_22 rfl (lv_at hl 1 rfl) ?_
          have kr := KR x1  _ _ 23 ls h rfl hP hD hS dX7_settles_23
          exact kr
  refine lv_bipush (v := 108) (pc := 0) hx hb dX7_settles_0 (by decide) ?_
  refine lv_istore_n (lv' := [(1, .int (108 : Int32)), (0, .ref (a0 0))]) (pc := 2) hx hb dX7_settles_2 rfl hl (by decide) rfl (fun ls hl => ?_)
  have jr := J3 FU (108 : Int32) _ _ ls h hP hD hS (lv_sub hl [1, 0] rfl)
  exact jr
abbrev rmX8_change : Room := { frames := 3, cells := 0, slots := 0, locals := 76 }
set_option maxRecDepth 100000 in
set_option maxHeartbeats 40000000 in
theorem cX8_change_met (l : Launch) (D : va_G) (c : Nat → ClassId) (tb : Nat) (sa sv : Nat → Nat) (a : Nat → Nat → Nat) (p0 : Int32) (p1 : Int32) (p2 : Int32) (X : XS) (r0 : Int32) (z0 : XS) (h : fX8_change p0 p1 p2 X = some (r0, z0)) : gM l yX8_change wsX8_change rmX8_change D (gY c) (xE tb sa sv) [.ref (a 0 0), .int p0, .int p1, .int p2] (wX a c X) (some (.int r0)) (wX a c z0) := by
  unfold fX8_change at h
  refine gM.I (cc := cX8_change) (maxL := 4) (by decide) rfl (Nat.le_of_ble_eq_true rfl) ?_
  intro p e s m args below meth cd hx hb hml hown hts A hA ls hl hP hK hD hS hE Q KR0
  have hfX8 : ∀ w ∈ u_ws RX8 TX8 12, w.before args s = true := fun w hw => hts w (List.mem_cons_of_mem _ (List.mem_append_left _ (List.mem_append_left _ (List.mem_append_right _ hw))))
  have lk0 := hts (.fieldLink RX8 26 "GlitchNets" "net" "LGlitchNets$Net;") (List.mem_of_getElem? (i := 1) rfl)
  have lk1 := hts (.fieldLink RX8 36 "GlitchNets" "outputWave" "LGlitchNets$Wave;") (List.mem_of_getElem? (i := 2) rfl)
  have hP := XP_iff.mp hP
  have hD := XD_of hD
  have KR : ∀ (v : Int32) (w0 : XS) (H : Heap) (locs : List Loc) (pc : Nat) (ls : Array Slot), some (v, w0) = some (r0, z0) → narrow .int (.int v) = .int v → XP D a c w0 H → va_S A s.heap H locs → decode cX8_change pc = .ok (.ireturn, 1) → W p l e rmX8_change s m args below meth cd H locs 0 0 Q (F0 m pc ls [.int v]) := by
    intro v w0 H locs pc ls hr hn hP hS hd
    cases hr
    exact KR0 _ H locs pc ls rfl hn (XP_iff.mpr hP) (hD.all c _) hS hd
  have hl : lv_has ls 4 [(0, .ref (a 0 0)), (1, .int p0), (2, .int p1), (3, .int p2)] := hl
  refine lv_iload_n (pc := 0) hx hb dX8_change_0 rfl (lv_at hl 1 rfl) ?_
  refine lv_iload_n (pc := 1) hx hb dX8_change_1 rfl (lv_at hl 2 rfl) ?_
  obtain ⟨r2, hc2, h⟩ := b1_i h
  refine g_noneX (st1 := [.int r2]) (gr_S (n := 2) (rest := []) (pc := 2) hx hb hml hown hts (cX8_isChange_met l D c tb sa sv p0 p1 _ hc2) gX8_change_X8_isChange rfl rfl rfl (by decide +kernel) rfl ⟨Nat.le_of_ble_eq_true rfl, Nat.le_of_ble_eq_true rfl⟩ ⟨Nat.zero_le _, Nat.zero_le _⟩ xE_ok g_P0 (g_D0 (A := A)) hK (xE_ok.tr hE hS (g_free0 hS hA)) hl.1 (Nat.le_of_ble_eq_true rfl) dX8_change_2 rfl) hP hS hA rfl (fun H locs hP hS => ?_)
  refine lv_if_eq (tgt := 17) (pc := 5) hx hb dX8_change_5 (by decide) (fun c5 => ?_) (fun c5 => ?_)
  · replace h := it_t c5 h
    refine lv_bipush (v := -2) (pc := 17) hx hb dX8_change_17 (by decide) ?_
    have kr := KR (-2 : Int32) X _ _ 19 ls h rfl hP hS dX8_change_19
    exact kr
  · replace h := it_f c5 h
    refine lv_iload_n (pc := 8) hx hb dX8_change_8 rfl (lv_at hl 3 rfl) ?_
    refine lv_iconst (v := 0) (pc := 9) hx hb dX8_change_9 (by decide) ?_
    refine lv_iconst (v := 2) (pc := 10) hx hb dX8_change_10 (by decide) ?_
    obtain ⟨r11, hc11, h⟩ := b1_i h
    refine g_noneX (st1 := [.int r11]) (gr_S (n := 3) (rest := []) (pc := 11) hx hb hml hown hts (cX8_isWithin_met l D c tb sa sv p2 (0 : Int32) (2 : Int32) _ hc11) gX8_change_X8_isWithin rfl rfl rfl (by decide +kernel) rfl ⟨Nat.le_of_ble_eq_true rfl, Nat.le_of_ble_eq_true rfl⟩ ⟨Nat.zero_le _, Nat.zero_le _⟩ xE_ok g_P0 (g_D0 (A := A)) hK (xE_ok.tr hE hS (g_free0 hS hA)) hl.1 (Nat.le_of_ble_eq_true rfl) dX8_change_11 rfl) hP hS hA rfl (fun H locs hP hS => ?_)
    refine lv_if_ne (tgt := 20) (pc := 14) hx hb dX8_change_14 (by decide) (fun c14 => ?_) (fun c14 => ?_)
    · replace h := it_f c14 h
      refine lv_aload_n (pc := 20) hx hb dX8_change_20 rfl (lv_at hl 0 rfl) ?_
      refine va_get (D := D) (ci := 8) (v := .ref ((a 3) 0)) (C := RX8) (T := TX8) (N := 12) (pc := 21) hx hb hfX8 (fun _ h9 => h9) hown hK (show va_P D vwCl (wX8 a c (X 0)) _ from hP 0 (by decide)) 0 rfl rfl 2 (by decide) lk0 (fun _ h9 => h9) rfl dX8_change_21 ?_
      obtain ⟨r24, hc24, h⟩ := b1_i h
      have hw : (wX3 (a 3) c (X 3)).map (·.1) = [3].flatMap (uA a) := rfl
      have hPc : va_P D vwCl (wX3 (a 3) c (X 3)) _ := hP 3 (by decide)
      have hDc : va_D A (wX3 (a 3) c (X 3)) := hD.of_addr (by decide) (by decide) hw
      refine g_X (X' := X) (st1 := [.int r24]) (gr_V (n := 0) (rest := []) (pc := 24) hx hb hml hown hts (cX3_isEmpty_met l D c tb sa sv (a 3) (X 3) _ hc24) gX8_change_X3_isEmpty rfl rfl rfl (by decide +kernel) rfl ⟨Nat.le_of_ble_eq_true rfl, Nat.le_of_ble_eq_true rfl⟩ ⟨Nat.zero_le _, Nat.zero_le _⟩ 0 3 rfl rfl rfl xE_ok hPc hDc hK (xE_ok.tr hE hS (g_freeX hD hS hA (by decide) (addr0 hw))) hl.1 (Nat.le_of_ble_eq_true rfl) dX8_change_24 rfl) hP hD hS hA (ks := [3]) (by decide) (addr0 hw) (fun k9 _ hk9 => rfl) (fun H1 hw1 => (List.forall_mem_cons.mpr ⟨hw1, (fun _ h9 => absurd h9 List.not_mem_nil)⟩)) rfl (fun H locs hP hS => ?_)
      refine lv_if_eq (tgt := 33) (pc := 27) hx hb dX8_change_27 (by decide) (fun c27 => ?_) (fun c27 => ?_)
      · replace h := it_t c27 h
        refine lv_aload_n (pc := 33) hx hb dX8_change_33 rfl (lv_at hl 0 rfl) ?_
        refine va_get (D := D) (ci := 8) (v := .ref ((a 5) 0)) (C := RX8) (T := TX8) (N := 12) (pc := 34) hx hb hfX8 (fun _ h9 => h9) hown hK (show va_P D vwCl (wX8 a c (X 0)) _ from hP 0 (by decide)) 0 rfl rfl 4 (by decide) lk1 (fun _ h9 => h9) rfl dX8_change_34 ?_
        refine lv_aload_n (pc := 37) hx hb dX8_change_37 rfl (lv_at hl 0 rfl) ?_
        refine va_get (D := D) (ci := 8) (v := .ref ((a 3) 0)) (C := RX8) (T := TX8) (N := 12) (pc := 38) hx hb hfX8 (fun _ h9 => h9) hown hK (show va_P D vwCl (wX8 a c (X 0)) _ from hP 0 (by decide)) 0 rfl rfl 2 (by decide) lk0 (fun _ h9 => h9) rfl dX8_change_38 ?_
        refine lv_iload_n (pc := 41) hx hb dX8_change_41 rfl (lv_at hl 1 rfl) ?_
        refine lv_iload_n (pc := 42) hx hb dX8_change_42 rfl (lv_at hl 2 rfl) ?_
        obtain ⟨t0_43, t1_43, hc43, h⟩ := b2_i h
        have hw : (wX7 (a 5) c (X 5) ++ wX3 (a 3) c (X 3)).map (·.1) = [5, 3].flatMap (uA a) := rfl
        have hPc : va_P D vwCl (wX7 (a 5) c (X 5) ++ wX3 (a 3) c (X 3)) _ := (hP 5 (by decide)).app (hP 3 (by decide))
        have hDc : va_D A (wX7 (a 5) c (X 5) ++ wX3 (a 3) c (X 3)) := hD.of_addr (by decide) (by decide) hw
        refine g_X (X' := (xs (xs X 5 t0_43) 3 t1_43)) (st1 := []) (gr_V (n := 3) (rest := []) (pc := 43) hx hb hml hown hts (cX7_run_met l D c tb sa sv (a 5) (a 3) p0 p1 (X 5) (X 3) _ _ hc43) gX8_change_X7_run rfl rfl rfl (by decide +kernel) rfl ⟨Nat.le_of_ble_eq_true rfl, Nat.le_of_ble_eq_true rfl⟩ ⟨Nat.zero_le _, Nat.zero_le _⟩ 0 7 rfl rfl rfl xE_ok hPc hDc hK (xE_ok.tr hE hS (g_freeX hD hS hA (by decide) (addr0 hw))) hl.1 (Nat.le_of_ble_eq_true rfl) dX8_change_43 rfl) hP hD hS hA (ks := [5, 3]) (by decide) (addr0 hw) (fun k9 _ hk9 => ((xs_o hk9 (j := 3) (by decide))).trans (xs_o hk9 (j := 5) (by decide))) (fun H1 hw1 => (List.forall_mem_cons.mpr ⟨(vP_l hw1), (List.forall_mem_cons.mpr ⟨(vP_r hw1), (fun _ h9 => absurd h9 List.not_mem_nil)⟩)⟩)) rfl (fun H locs hP hS => ?_)
        refine lv_iload_n (pc := 46) hx hb dX8_change_46 rfl (lv_at hl 3 rfl) ?_
        by_cases c47_0 : p2 = (0 : Int32)
        · replace h := it_t c47_0 h
          refine lv_lookup (tgt := 72) (off := 25) (pc := 47) hx hb dX8_change_47 (by decide) (by rw [c47_0]; rfl) (by decide) ?_
          refine lv_aload_n (pc := 72) hx hb dX8_change_72 rfl (lv_at hl 0 rfl) ?_
          refine va_get (D := D) (ci := 8) (v := .ref ((a 5) 0)) (C := RX8) (T := TX8) (N := 12) (pc := 73) hx hb hfX8 (fun _ h9 => h9) hown hK (show va_P D vwCl (wX8 a c ((xs (xs X 5 t0_43) 3 t1_43) 0)) _ from hP 0 (by decide)) 0 rfl rfl 4 (by decide) lk1 (fun _ h9 => h9) rfl dX8_change_73 ?_
          obtain ⟨r76, hc76, h⟩ := b1_i h
          have hw : (wX7 (a 5) c ((xs (xs X 5 t0_43) 3 t1_43) 5)).map (·.1) = [5].flatMap (uA a) := rfl
          have hPc : va_P D vwCl (wX7 (a 5) c ((xs (xs X 5 t0_43) 3 t1_43) 5)) _ := hP 5 (by decide)
          have hDc : va_D A (wX7 (a 5) c ((xs (xs X 5 t0_43) 3 t1_43) 5)) := hD.of_addr (by decide) (by decide) hw
          refine g_X (X' := (xs (xs X 5 t0_43) 3 t1_43)) (st1 := [.int r76]) (gr_V (n := 0) (rest := []) (pc := 76) hx hb hml hown hts (cX7_flips_met l D c tb sa sv (a 5) ((xs (xs X 5 t0_43) 3 t1_43) 5) _ hc76) gX8_change_X7_flips rfl rfl rfl (by decide +kernel) rfl ⟨Nat.le_of_ble_eq_true rfl, Nat.le_of_ble_eq_true rfl⟩ ⟨Nat.zero_le _, Nat.zero_le _⟩ 0 7 rfl rfl rfl xE_ok hPc hDc hK (xE_ok.tr hE hS (g_freeX hD hS hA (by decide) (addr0 hw))) hl.1 (Nat.le_of_ble_eq_true rfl) dX8_change_76 rfl) hP hD hS hA (ks := [5]) (by decide) (addr0 hw) (fun k9 _ hk9 => rfl) (fun H1 hw1 => (List.forall_mem_cons.mpr ⟨hw1, (fun _ h9 => absurd h9 List.not_mem_nil)⟩)) rfl (fun H locs hP hS => ?_)
          have kr := KR r76 (xs (xs X 5 t0_43) 3 t1_43) _ _ 79 ls h rfl hP hS dX8_change_79
          exact kr
        · replace h := it_f c47_0 h
          by_cases c47_1 : p2 = (1 : Int32)
          · replace h := it_t c47_1 h
            refine lv_lookup (tgt := 80) (off := 33) (pc := 47) hx hb dX8_change_47 (by decide) (by rw [c47_1]; rfl) (by decide) ?_
            refine lv_aload_n (pc := 80) hx hb dX8_change_80 rfl (lv_at hl 0 rfl) ?_
            refine va_get (D := D) (ci := 8) (v := .ref ((a 5) 0)) (C := RX8) (T := TX8) (N := 12) (pc := 81) hx hb hfX8 (fun _ h9 => h9) hown hK (show va_P D vwCl (wX8 a c ((xs (xs X 5 t0_43) 3 t1_43) 0)) _ from hP 0 (by decide)) 0 rfl rfl 4 (by decide) lk1 (fun _ h9 => h9) rfl dX8_change_81 ?_
            obtain ⟨r84, hc84, h⟩ := b1_i h
            have hw : (wX7 (a 5) c ((xs (xs X 5 t0_43) 3 t1_43) 5)).map (·.1) = [5].flatMap (uA a) := rfl
            have hPc : va_P D vwCl (wX7 (a 5) c ((xs (xs X 5 t0_43) 3 t1_43) 5)) _ := hP 5 (by decide)
            have hDc : va_D A (wX7 (a 5) c ((xs (xs X 5 t0_43) 3 t1_43) 5)) := hD.of_addr (by decide) (by decide) hw
            refine g_X (X' := (xs (xs X 5 t0_43) 3 t1_43)) (st1 := [.int r84]) (gr_V (n := 0) (rest := []) (pc := 84) hx hb hml hown hts (cX7_glitch_met l D c tb sa sv (a 5) ((xs (xs X 5 t0_43) 3 t1_43) 5) _ hc84) gX8_change_X7_glitch rfl rfl rfl (by decide +kernel) rfl ⟨Nat.le_of_ble_eq_true rfl, Nat.le_of_ble_eq_true rfl⟩ ⟨Nat.zero_le _, Nat.zero_le _⟩ 0 7 rfl rfl rfl xE_ok hPc hDc hK (xE_ok.tr hE hS (g_freeX hD hS hA (by decide) (addr0 hw))) hl.1 (Nat.le_of_ble_eq_true rfl) dX8_change_84 rfl) hP hD hS hA (ks := [5]) (by decide) (addr0 hw) (fun k9 _ hk9 => rfl) (fun H1 hw1 => (List.forall_mem_cons.mpr ⟨hw1, (fun _ h9 => absurd h9 List.not_mem_nil)⟩)) rfl (fun H locs hP hS => ?_)
            have kr := KR r84 (xs (xs X 5 t0_43) 3 t1_43) _ _ 87 ls h rfl hP hS dX8_change_87
            exact kr
          · replace h := it_f c47_1 h
            refine lv_lookup (tgt := 88) (off := 41) (pc := 47) hx hb dX8_change_47 (by decide) (by show Op.lookupswitch.offset [(0, 25), (1, 33)] _ _ = _; rw [lv_osw c47_0 (by decide), lv_osw c47_1 (by decide)]; rfl) (by decide) ?_
            refine lv_aload_n (pc := 88) hx hb dX8_change_88 rfl (lv_at hl 0 rfl) ?_
            refine va_get (D := D) (ci := 8) (v := .ref ((a 5) 0)) (C := RX8) (T := TX8) (N := 12) (pc := 89) hx hb hfX8 (fun _ h9 => h9) hown hK (show va_P D vwCl (wX8 a c ((xs (xs X 5 t0_43) 3 t1_43) 0)) _ from hP 0 (by decide)) 0 rfl rfl 4 (by decide) lk1 (fun _ h9 => h9) rfl dX8_change_89 ?_
            obtain ⟨r92, hc92, h⟩ := b1_i h
            have hw : (wX7 (a 5) c ((xs (xs X 5 t0_43) 3 t1_43) 5)).map (·.1) = [5].flatMap (uA a) := rfl
            have hPc : va_P D vwCl (wX7 (a 5) c ((xs (xs X 5 t0_43) 3 t1_43) 5)) _ := hP 5 (by decide)
            have hDc : va_D A (wX7 (a 5) c ((xs (xs X 5 t0_43) 3 t1_43) 5)) := hD.of_addr (by decide) (by decide) hw
            refine g_X (X' := (xs (xs X 5 t0_43) 3 t1_43)) (st1 := [.int r92]) (gr_V (n := 0) (rest := []) (pc := 92) hx hb hml hown hts (cX7_settles_met l D c tb sa sv (a 5) ((xs (xs X 5 t0_43) 3 t1_43) 5) _ hc92) gX8_change_X7_settles rfl rfl rfl (by decide +kernel) rfl ⟨Nat.le_of_ble_eq_true rfl, Nat.le_of_ble_eq_true rfl⟩ ⟨Nat.zero_le _, Nat.zero_le _⟩ 0 7 rfl rfl rfl xE_ok hPc hDc hK (xE_ok.tr hE hS (g_freeX hD hS hA (by decide) (addr0 hw))) hl.1 (Nat.le_of_ble_eq_true rfl) dX8_change_92 rfl) hP hD hS hA (ks := [5]) (by decide) (addr0 hw) (fun k9 _ hk9 => rfl) (fun H1 hw1 => (List.forall_mem_cons.mpr ⟨hw1, (fun _ h9 => absurd h9 List.not_mem_nil)⟩)) rfl (fun H locs hP hS => ?_)
            have kr := KR r92 (xs (xs X 5 t0_43) 3 t1_43) _ _ 95 ls h rfl hP hS dX8_change_95
            exact kr
      · replace h := it_f c27 h
        refine lv_bipush (v := -3) (pc := 30) hx hb dX8_change_30 (by decide) ?_
        have kr := KR (-3 : Int32) X _ _ 32 ls h rfl hP hS dX8_change_32
        exact kr
    · replace h := it_t c14 h
      refine lv_bipush (v := -2) (pc := 17) hx hb dX8_change_17 (by decide) ?_
      have kr := KR (-2 : Int32) X _ _ 19 ls h rfl hP hS dX8_change_19
      exact kr
abbrev rmJ6_bitCount_0f7a4 : Room := { frames := 0, cells := 0, slots := 0, locals := 0 }
set_option maxRecDepth 100000 in
set_option maxHeartbeats 40000000 in
theorem cJ6_bitCount_0f7a4_met (l : Launch) (D : va_G) (c : Nat → ClassId)  (p0 : Int32) (r0 : Int32) (h : fJ6_bitCount_0f7a4 p0 = some r0) : gM l yJ6_bitCount_0f7a4 wsJ6_bitCount_0f7a4 rmJ6_bitCount_0f7a4 D (gY c) gT [.int p0] ([]) (some (.int r0)) ([]) := by
  unfold fJ6_bitCount_0f7a4 at h
  refine gM.I (cc := cJ6_bitCount_0f7a4) (maxL := 1) (by decide) rfl (Nat.le_of_ble_eq_true rfl) ?_
  intro p e s m args below meth cd hx hb hml hown hts A hA ls hl hP hK hD hS hE Q KR0
  have lk0 := hts (.constant RJ6 265 (1431655765)) (List.mem_of_getElem? (i := 1) rfl)
  have lk1 := hts (.constant RJ6 266 (858993459)) (List.mem_of_getElem? (i := 2) rfl)
  have lk2 := hts (.constant RJ6 267 (252645135)) (List.mem_of_getElem? (i := 3) rfl)
  have KR : ∀ (v : Int32)  (H : Heap) (locs : List Loc) (pc : Nat) (ls : Array Slot), some v = some r0 → narrow .int (.int v) = .int v → va_P D vwCl ([]) H → va_D A ([]) → va_S A s.heap H locs → decode cJ6_bitCount_0f7a4 pc = .ok (.ireturn, 1) → W p l e rmJ6_bitCount_0f7a4 s m args below meth cd H locs 0 0 Q (F0 m pc ls [.int v]) := by
    intro v  H locs pc ls hr hn hP hD hS hd
    cases hr
    exact KR0 _ H locs pc ls rfl hn hP hD hS hd
  have hl : lv_has ls 1 [(0, .int p0)] := hl
  refine lv_iload_n (pc := 0) hx hb dJ6_bitCount_0f7a4_0 rfl (lv_at hl 0 rfl) ?_
  refine lv_iload_n (pc := 1) hx hb dJ6_bitCount_0f7a4_1 rfl (lv_at hl 0 rfl) ?_
  refine lv_iconst (v := 1) (pc := 2) hx hb dJ6_bitCount_0f7a4_2 (by decide) ?_
  refine lv_iushr (v := (jiushr p0 (1 : Int32))) (pc := 3) hx hb dJ6_bitCount_0f7a4_3 rfl ?_
  refine lv_ldcw (v := 1431655765) (pc := 4) hx hb hown lk0 dJ6_bitCount_0f7a4_4 ?_
  refine lv_iand (pc := 7) hx hb dJ6_bitCount_0f7a4_7 ?_
  refine lv_isub (pc := 8) hx hb dJ6_bitCount_0f7a4_8 ?_
  refine lv_topi (fun v0_9 ev0_9 => ?_)
  replace h := lt_e ev0_9 h
  refine lv_istore_n (lv' := [(0, .int v0_9)]) (pc := 9) hx hb dJ6_bitCount_0f7a4_9 rfl hl (by decide) rfl (fun ls hl => ?_)
  refine lv_iload_n (pc := 10) hx hb dJ6_bitCount_0f7a4_10 rfl (lv_at hl 0 rfl) ?_
  refine lv_ldcw (v := 858993459) (pc := 11) hx hb hown lk1 dJ6_bitCount_0f7a4_11 ?_
  refine lv_iand (pc := 14) hx hb dJ6_bitCount_0f7a4_14 ?_
  refine lv_iload_n (pc := 15) hx hb dJ6_bitCount_0f7a4_15 rfl (lv_at hl 0 rfl) ?_
  refine lv_iconst (v := 2) (pc := 16) hx hb dJ6_bitCount_0f7a4_16 (by decide) ?_
  refine lv_iushr (v := (jiushr v0_9 (2 : Int32))) (pc := 17) hx hb dJ6_bitCount_0f7a4_17 rfl ?_
  refine lv_ldcw (v := 858993459) (pc := 18) hx hb hown lk1 dJ6_bitCount_0f7a4_18 ?_
  refine lv_iand (pc := 21) hx hb dJ6_bitCount_0f7a4_21 ?_
  refine lv_iadd (pc := 22) hx hb dJ6_bitCount_0f7a4_22 ?_
  refine lv_topi (fun v0_23 ev0_23 => ?_)
  replace h := lt_e ev0_23 h
  refine lv_istore_n (lv' := [(0, .int v0_23)]) (pc := 23) hx hb dJ6_bitCount_0f7a4_23 rfl hl (by decide) rfl (fun ls hl => ?_)
  refine lv_iload_n (pc := 24) hx hb dJ6_bitCount_0f7a4_24 rfl (lv_at hl 0 rfl) ?_
  refine lv_iload_n (pc := 25) hx hb dJ6_bitCount_0f7a4_25 rfl (lv_at hl 0 rfl) ?_
  refine lv_iconst (v := 4) (pc := 26) hx hb dJ6_bitCount_0f7a4_26 (by decide) ?_
  refine lv_iushr (v := (jiushr v0_23 (4 : Int32))) (pc := 27) hx hb dJ6_bitCount_0f7a4_27 rfl ?_
  refine lv_iadd (pc := 28) hx hb dJ6_bitCount_0f7a4_28 ?_
  refine lv_ldcw (v := 252645135) (pc := 29) hx hb hown lk2 dJ6_bitCount_0f7a4_29 ?_
  refine lv_iand (pc := 32) hx hb dJ6_bitCount_0f7a4_32 ?_
  refine lv_topi (fun v0_33 ev0_33 => ?_)
  replace h := lt_e ev0_33 h
  refine lv_istore_n (lv' := [(0, .int v0_33)]) (pc := 33) hx hb dJ6_bitCount_0f7a4_33 rfl hl (by decide) rfl (fun ls hl => ?_)
  refine lv_iload_n (pc := 34) hx hb dJ6_bitCount_0f7a4_34 rfl (lv_at hl 0 rfl) ?_
  refine lv_iload_n (pc := 35) hx hb dJ6_bitCount_0f7a4_35 rfl (lv_at hl 0 rfl) ?_
  refine lv_bipush (v := 8) (pc := 36) hx hb dJ6_bitCount_0f7a4_36 (by decide) ?_
  refine lv_iushr (v := (jiushr v0_33 (8 : Int32))) (pc := 38) hx hb dJ6_bitCount_0f7a4_38 rfl ?_
  refine lv_iadd (pc := 39) hx hb dJ6_bitCount_0f7a4_39 ?_
  refine lv_topi (fun v0_40 ev0_40 => ?_)
  replace h := lt_e ev0_40 h
  refine lv_istore_n (lv' := [(0, .int v0_40)]) (pc := 40) hx hb dJ6_bitCount_0f7a4_40 rfl hl (by decide) rfl (fun ls hl => ?_)
  refine lv_iload_n (pc := 41) hx hb dJ6_bitCount_0f7a4_41 rfl (lv_at hl 0 rfl) ?_
  refine lv_iload_n (pc := 42) hx hb dJ6_bitCount_0f7a4_42 rfl (lv_at hl 0 rfl) ?_
  refine lv_bipush (v := 16) (pc := 43) hx hb dJ6_bitCount_0f7a4_43 (by decide) ?_
  refine lv_iushr (v := (jiushr v0_40 (16 : Int32))) (pc := 45) hx hb dJ6_bitCount_0f7a4_45 rfl ?_
  refine lv_iadd (pc := 46) hx hb dJ6_bitCount_0f7a4_46 ?_
  refine lv_topi (fun v0_47 ev0_47 => ?_)
  replace h := lt_e ev0_47 h
  refine lv_istore_n (lv' := [(0, .int v0_47)]) (pc := 47) hx hb dJ6_bitCount_0f7a4_47 rfl hl (by decide) rfl (fun ls hl => ?_)
  refine lv_iload_n (pc := 48) hx hb dJ6_bitCount_0f7a4_48 rfl (lv_at hl 0 rfl) ?_
  refine lv_bipush (v := 63) (pc := 49) hx hb dJ6_bitCount_0f7a4_49 (by decide) ?_
  refine lv_iand (pc := 51) hx hb dJ6_bitCount_0f7a4_51 ?_
  have kr := KR (v0_47 &&& (63 : Int32))  _ _ 52 ls h rfl hP hD hS dJ6_bitCount_0f7a4_52
  exact kr
abbrev rmX8_isOneInputChange : Room := { frames := 1, cells := 0, slots := 0, locals := 20 }
set_option maxRecDepth 100000 in
set_option maxHeartbeats 40000000 in
theorem cX8_isOneInputChange_met (l : Launch) (D : va_G) (c : Nat → ClassId) (tb : Nat) (sa sv : Nat → Nat)  (p0 : Int32) (p1 : Int32) (r0 : Int32) (h : fX8_isOneInputChange p0 p1 = some r0) : gM l yX8_isOneInputChange wsX8_isOneInputChange rmX8_isOneInputChange D (gY c) (xE tb sa sv) [.int p0, .int p1] ([]) (some (.int r0)) ([]) := by
  unfold fX8_isOneInputChange at h
  refine gM.I (cc := cX8_isOneInputChange) (maxL := 2) (by decide) rfl (Nat.le_of_ble_eq_true rfl) ?_
  intro p e s m args below meth cd hx hb hml hown hts A hA ls hl hP hK hD hS hE Q KR0
  have KR : ∀ (v : Int32)  (H : Heap) (locs : List Loc) (pc : Nat) (ls : Array Slot), some v = some r0 → narrow .boolean (.int v) = .int v → va_P D vwCl ([]) H → va_D A ([]) → va_S A s.heap H locs → decode cX8_isOneInputChange pc = .ok (.ireturn, 1) → W p l e rmX8_isOneInputChange s m args below meth cd H locs 0 0 Q (F0 m pc ls [.int v]) := by
    intro v  H locs pc ls hr hn hP hD hS hd
    cases hr
    exact KR0 _ H locs pc ls rfl hn hP hD hS hd
  have hl : lv_has ls 2 [(0, .int p0), (1, .int p1)] := hl
  refine lv_iload_n (pc := 0) hx hb dX8_isOneInputChange_0 rfl (lv_at hl 0 rfl) ?_
  refine lv_iload_n (pc := 1) hx hb dX8_isOneInputChange_1 rfl (lv_at hl 1 rfl) ?_
  refine lv_ixor (pc := 2) hx hb dX8_isOneInputChange_2 ?_
  obtain ⟨r3, hc3, h⟩ := b1_i h
  refine g_none (st1 := [.int r3]) (gr_S (n := 1) (rest := []) (pc := 3) hx hb hml hown hts (cJ6_bitCount_0f7a4_met l D c ((p0 ^^^ p1)) _ hc3) gX8_isOneInputChange_J6_bitCount_0f7a4 rfl rfl rfl (by decide +kernel) rfl ⟨Nat.le_of_ble_eq_true rfl, Nat.le_of_ble_eq_true rfl⟩ ⟨Nat.zero_le _, Nat.zero_le _⟩ gT_ok g_P0 (g_D0 (A := A)) hK (fun _ _ _ => trivial) hl.1 (Nat.le_of_ble_eq_true rfl) dX8_isOneInputChange_3 rfl) hP hS hA rfl (fun H locs hP hS => ?_)
  refine lv_iconst (v := 1) (pc := 6) hx hb dX8_isOneInputChange_6 (by decide) ?_
  refine lv_icmp_ne (tgt := 14) (pc := 7) hx hb dX8_isOneInputChange_7 (by decide) (fun c7 => ?_) (fun c7 => ?_)
  · replace h := it_f c7 h
    refine lv_iconst (v := 0) (pc := 14) hx hb dX8_isOneInputChange_14 (by decide) ?_
    have kr := KR (0 : Int32)  _ _ 15 ls h rfl hP hD hS dX8_isOneInputChange_15
    exact kr
  · replace h := it_t c7 h
    refine lv_iconst (v := 1) (pc := 10) hx hb dX8_isOneInputChange_10 (by decide) ?_
    refine lv_goto (tgt := 15) (pc := 11) hx hb dX8_isOneInputChange_11 (by decide) ?_
    have kr := KR (1 : Int32)  _ _ 15 ls h rfl hP hD hS dX8_isOneInputChange_15
    exact kr
abbrev rmX8_worst : Room := { frames := 3, cells := 0, slots := 0, locals := 76 }
set_option maxRecDepth 100000 in
set_option maxHeartbeats 40000000 in
theorem cX8_worst_met (l : Launch) (D : va_G) (c : Nat → ClassId) (tb : Nat) (sa sv : Nat → Nat) (a : Nat → Nat → Nat) (p0 : Int32) (X : XS) (r0 : Int32) (z0 : XS) (h : fX8_worst p0 X = some (r0, z0)) : gM l yX8_worst wsX8_worst rmX8_worst D (gY c) (xE tb sa sv) [.ref (a 0 0), .int p0] (wX a c X) (some (.int r0)) (wX a c z0) := by
  unfold fX8_worst at h
  refine gM.I (cc := cX8_worst) (maxL := 8) (by decide) rfl (Nat.le_of_ble_eq_true rfl) ?_
  intro p e s m args below meth cd hx hb hml hown hts A hA ls hl hP hK hD hS hE Q KR0
  have hfX8 : ∀ w ∈ u_ws RX8 TX8 12, w.before args s = true := fun w hw => hts w (List.mem_cons_of_mem _ (List.mem_append_left _ (List.mem_append_left _ (List.mem_append_right _ hw))))
  have lk0 := hts (.fieldLink RX8 26 "GlitchNets" "net" "LGlitchNets$Net;") (List.mem_of_getElem? (i := 1) rfl)
  have lk1 := hts (.fieldLink RX8 36 "GlitchNets" "outputWave" "LGlitchNets$Wave;") (List.mem_of_getElem? (i := 2) rfl)
  have hP := XP_iff.mp hP
  have hD := XD_of hD
  have KR : ∀ (v : Int32) (w0 : XS) (H : Heap) (locs : List Loc) (pc : Nat) (ls : Array Slot), some (v, w0) = some (r0, z0) → narrow .int (.int v) = .int v → XP D a c w0 H → va_S A s.heap H locs → decode cX8_worst pc = .ok (.ireturn, 1) → W p l e rmX8_worst s m args below meth cd H locs 0 0 Q (F0 m pc ls [.int v]) := by
    intro v w0 H locs pc ls hr hn hP hS hd
    cases hr
    exact KR0 _ H locs pc ls rfl hn (XP_iff.mpr hP) (hD.all c _) hS hd
  have hl : lv_has ls 8 [(0, .ref (a 0 0)), (1, .int p0)] := hl
  have J106 : ∀ (K45 : Int32 → Int32 → Int32 → Int32 → Int32 → Int32 → XS → Option (Int32 × XS)) (K45h : ∀ (x1 : Int32) (x2 : Int32) (x3 : Int32) (x4 : Int32) (x5 : Int32) (x6 : Int32) (X : XS) (H : Heap) (locs : List Loc) (ls : Array Slot), K45 x1 x2 x3 x4 x5 x6 X = some (r0, z0) → XP D a c X H → va_S A s.heap H locs → lv_has ls 8 [(0, .ref (a 0 0)), (1, .int x1), (2, .int x2), (3, .int x3), (4, .int x4), (5, .int x5), (6, .int x6)] → W p l e rmX8_worst s m args below meth cd H locs 0 0 Q (F0 m 45 ls [])) (x1 : Int32) (x2 : Int32) (x3 : Int32) (x4 : Int32) (x5 : Int32) (x6 : Int32) (X : XS) (H : Heap) (locs : List Loc) (ls : Array Slot), fX8_worst_b106 K45 x1 x2 x3 x4 x5 x6 X = some (r0, z0) → XP D a c X H → va_S A s.heap H locs → lv_has ls 8 [(0, .ref (a 0 0)), (1, .int x1), (2, .int x2), (3, .int x3), (4, .int x4), (5, .int x5), (6, .int x6)] → W p l e rmX8_worst s m args below meth cd H locs 0 0 Q (F0 m 106 ls []) := by
    intro K45 K45h x1 x2 x3 x4 x5 x6 X H locs ls h hP hS hl
    unfold fX8_worst_b106 at h
    obtain ⟨v6_106, ev6_106, h⟩ := lt_i h
    refine lv_iinc (v := v6_106) (lv' := [(6, .int v6_106), (0, .ref (a 0 0)), (1, .int x1), (2, .int x2), (3, .int x3), (4, .int x4), (5, .int x5)]) (pc := 106) hx hb dX8_worst_106 hl (k := 6) rfl (by rw [ev6_106]; rfl) (by decide) rfl (fun ls hl => ?_)
    refine lv_goto (tgt := 45) (pc := 109) hx hb dX8_worst_109 (by decide) ?_
    have jr := K45h x1 x2 x3 x4 x5 v6_106 X _ _ ls h hP hS (lv_sub hl [1, 2, 3, 4, 5, 6, 0] rfl)
    exact jr
  have J45 : ∀ (K35 : Int32 → Int32 → Int32 → Int32 → Int32 → XS → Option (Int32 × XS)) (K35h : ∀ (x1 : Int32) (x2 : Int32) (x3 : Int32) (x4 : Int32) (x5 : Int32) (X : XS) (H : Heap) (locs : List Loc) (ls : Array Slot), K35 x1 x2 x3 x4 x5 X = some (r0, z0) → XP D a c X H → va_S A s.heap H locs → lv_has ls 8 [(0, .ref (a 0 0)), (1, .int x1), (2, .int x2), (3, .int x3), (4, .int x4), (5, .int x5)] → W p l e rmX8_worst s m args below meth cd H locs 0 0 Q (F0 m 35 ls [])) (n : Nat) (x1 : Int32) (x2 : Int32) (x3 : Int32) (x4 : Int32) (x5 : Int32) (x6 : Int32) (X : XS) (H : Heap) (locs : List Loc) (ls : Array Slot), fX8_worst_b45 K35 n x1 x2 x3 x4 x5 x6 X = some (r0, z0) → XP D a c X H → va_S A s.heap H locs → lv_has ls 8 [(0, .ref (a 0 0)), (1, .int x1), (2, .int x2), (3, .int x3), (4, .int x4), (5, .int x5), (6, .int x6)] → W p l e rmX8_worst s m args below meth cd H locs 0 0 Q (F0 m 45 ls []) := by
    intro K35 K35h n
    induction n with
    | zero =>
      intro x1 x2 x3 x4 x5 x6 X H locs ls h _ _ _
      cases (show (none : Option (Int32 × XS)) = some _ from h)
    | succ n K45h =>
      intro x1 x2 x3 x4 x5 x6 X H locs ls h hP hS hl
      rw [fX8_worst_b45] at h
      refine lv_iload (pc := 45) hx hb dX8_worst_45 (lv_at hl 6 rfl) ?_
      refine lv_bipush (v := 16) (pc := 47) hx hb dX8_worst_47 (by decide) ?_
      refine lv_icmp_ge (tgt := 112) (pc := 49) hx hb dX8_worst_49 (by decide) (fun c49 => ?_) (fun c49 => ?_)
      · replace h := it_t c49 h
        obtain ⟨v5_112, ev5_112, h⟩ := lt_i h
        refine lv_iinc (v := v5_112) (lv' := [(5, .int v5_112), (0, .ref (a 0 0)), (1, .int x1), (2, .int x2), (3, .int x3), (4, .int x4), (6, .int x6)]) (pc := 112) hx hb dX8_worst_112 hl (k := 5) rfl (by rw [ev5_112]; rfl) (by decide) rfl (fun ls hl => ?_)
        refine lv_goto (tgt := 35) (pc := 115) hx hb dX8_worst_115 (by decide) ?_
        have jr := K35h x1 x2 x3 x4 v5_112 X _ _ ls h hP hS (lv_sub hl [1, 2, 3, 4, 5, 0] rfl)
        exact jr
      · replace h := it_f c49 h
        refine lv_iload (pc := 52) hx hb dX8_worst_52 (lv_at hl 5 rfl) ?_
        refine lv_iload (pc := 54) hx hb dX8_worst_54 (lv_at hl 6 rfl) ?_
        obtain ⟨r56, hc56, h⟩ := b1_i h
        refine g_noneX (st1 := [.int r56]) (gr_S (n := 2) (rest := []) (pc := 56) hx hb hml hown hts (cX8_isOneInputChange_met l D c tb sa sv x5 x6 _ hc56) gX8_worst_X8_isOneInputChange rfl rfl rfl (by decide +kernel) rfl ⟨Nat.le_of_ble_eq_true rfl, Nat.le_of_ble_eq_true rfl⟩ ⟨Nat.zero_le _, Nat.zero_le _⟩ xE_ok g_P0 (g_D0 (A := A)) hK (xE_ok.tr hE hS (g_free0 hS hA)) hl.1 (Nat.le_of_ble_eq_true rfl) dX8_worst_56 rfl) hP hS hA rfl (fun H locs hP hS => ?_)
        refine lv_if_ne (tgt := 65) (pc := 59) hx hb dX8_worst_59 (by decide) (fun c59 => ?_) (fun c59 => ?_)
        · replace h := it_f c59 h
          refine lv_aload_n (pc := 65) hx hb dX8_worst_65 rfl (lv_at hl 0 rfl) ?_
          refine va_get (D := D) (ci := 8) (v := .ref ((a 5) 0)) (C := RX8) (T := TX8) (N := 12) (pc := 66) hx hb hfX8 (fun _ h9 => h9) hown hK (show va_P D vwCl (wX8 a c (X 0)) _ from hP 0 (by decide)) 0 rfl rfl 4 (by decide) lk1 (fun _ h9 => h9) rfl dX8_worst_66 ?_
          refine lv_aload_n (pc := 69) hx hb dX8_worst_69 rfl (lv_at hl 0 rfl) ?_
          refine va_get (D := D) (ci := 8) (v := .ref ((a 3) 0)) (C := RX8) (T := TX8) (N := 12) (pc := 70) hx hb hfX8 (fun _ h9 => h9) hown hK (show va_P D vwCl (wX8 a c (X 0)) _ from hP 0 (by decide)) 0 rfl rfl 2 (by decide) lk0 (fun _ h9 => h9) rfl dX8_worst_70 ?_
          refine lv_iload (pc := 73) hx hb dX8_worst_73 (lv_at hl 5 rfl) ?_
          refine lv_iload (pc := 75) hx hb dX8_worst_75 (lv_at hl 6 rfl) ?_
          obtain ⟨t0_77, t1_77, hc77, h⟩ := b2_i h
          have hw : (wX7 (a 5) c (X 5) ++ wX3 (a 3) c (X 3)).map (·.1) = [5, 3].flatMap (uA a) := rfl
          have hPc : va_P D vwCl (wX7 (a 5) c (X 5) ++ wX3 (a 3) c (X 3)) _ := (hP 5 (by decide)).app (hP 3 (by decide))
          have hDc : va_D A (wX7 (a 5) c (X 5) ++ wX3 (a 3) c (X 3)) := hD.of_addr (by decide) (by decide) hw
          refine g_X (X' := (xs (xs X 5 t0_77) 3 t1_77)) (st1 := []) (gr_V (n := 3) (rest := []) (pc := 77) hx hb hml hown hts (cX7_run_met l D c tb sa sv (a 5) (a 3) x5 x6 (X 5) (X 3) _ _ hc77) gX8_worst_X7_run rfl rfl rfl (by decide +kernel) rfl ⟨Nat.le_of_ble_eq_true rfl, Nat.le_of_ble_eq_true rfl⟩ ⟨Nat.zero_le _, Nat.zero_le _⟩ 0 7 rfl rfl rfl xE_ok hPc hDc hK (xE_ok.tr hE hS (g_freeX hD hS hA (by decide) (addr0 hw))) hl.1 (Nat.le_of_ble_eq_true rfl) dX8_worst_77 rfl) hP hD hS hA (ks := [5, 3]) (by decide) (addr0 hw) (fun k9 _ hk9 => ((xs_o hk9 (j := 3) (by decide))).trans (xs_o hk9 (j := 5) (by decide))) (fun H1 hw1 => (List.forall_mem_cons.mpr ⟨(vP_l hw1), (List.forall_mem_cons.mpr ⟨(vP_r hw1), (fun _ h9 => absurd h9 List.not_mem_nil)⟩)⟩)) rfl (fun H locs hP hS => ?_)
          refine lv_aload_n (pc := 80) hx hb dX8_worst_80 rfl (lv_at hl 0 rfl) ?_
          refine va_get (D := D) (ci := 8) (v := .ref ((a 5) 0)) (C := RX8) (T := TX8) (N := 12) (pc := 81) hx hb hfX8 (fun _ h9 => h9) hown hK (show va_P D vwCl (wX8 a c ((xs (xs X 5 t0_77) 3 t1_77) 0)) _ from hP 0 (by decide)) 0 rfl rfl 4 (by decide) lk1 (fun _ h9 => h9) rfl dX8_worst_81 ?_
          obtain ⟨r84, hc84, h⟩ := b1_i h
          have hw : (wX7 (a 5) c ((xs (xs X 5 t0_77) 3 t1_77) 5)).map (·.1) = [5].flatMap (uA a) := rfl
          have hPc : va_P D vwCl (wX7 (a 5) c ((xs (xs X 5 t0_77) 3 t1_77) 5)) _ := hP 5 (by decide)
          have hDc : va_D A (wX7 (a 5) c ((xs (xs X 5 t0_77) 3 t1_77) 5)) := hD.of_addr (by decide) (by decide) hw
          refine g_X (X' := (xs (xs X 5 t0_77) 3 t1_77)) (st1 := [.int r84]) (gr_V (n := 0) (rest := []) (pc := 84) hx hb hml hown hts (cX7_flips_met l D c tb sa sv (a 5) ((xs (xs X 5 t0_77) 3 t1_77) 5) _ hc84) gX8_worst_X7_flips rfl rfl rfl (by decide +kernel) rfl ⟨Nat.le_of_ble_eq_true rfl, Nat.le_of_ble_eq_true rfl⟩ ⟨Nat.zero_le _, Nat.zero_le _⟩ 0 7 rfl rfl rfl xE_ok hPc hDc hK (xE_ok.tr hE hS (g_freeX hD hS hA (by decide) (addr0 hw))) hl.1 (Nat.le_of_ble_eq_true rfl) dX8_worst_84 rfl) hP hD hS hA (ks := [5]) (by decide) (addr0 hw) (fun k9 _ hk9 => rfl) (fun H1 hw1 => (List.forall_mem_cons.mpr ⟨hw1, (fun _ h9 => absurd h9 List.not_mem_nil)⟩)) rfl (fun H locs hP hS => ?_)
          refine lv_istore (lv' := [(7, .int r84), (0, .ref (a 0 0)), (1, .int x1), (2, .int x2), (3, .int x3), (4, .int x4), (5, .int x5), (6, .int x6)]) (pc := 87) hx hb dX8_worst_87 hl (by decide) rfl (fun ls hl => ?_)
          refine lv_iload (pc := 89) hx hb dX8_worst_89 (lv_at hl 0 rfl) ?_
          refine lv_iload (pc := 91) hx hb dX8_worst_91 (lv_at hl 5 rfl) ?_
          refine lv_icmp_le (tgt := 106) (pc := 93) hx hb dX8_worst_93 (by decide) (fun c93 => ?_) (fun c93 => ?_)
          · replace h := it_t c93 h
            have jr := J106 (fX8_worst_b45 K35 n) K45h x1 x2 x3 x4 x5 x6 ((xs (xs X 5 t0_77) 3 t1_77)) _ _ ls h hP hS (lv_sub hl [1, 2, 3, 4, 5, 6, 7] rfl)
            exact jr
          · replace h := it_f c93 h
            refine lv_iload (pc := 96) hx hb dX8_worst_96 (lv_at hl 0 rfl) ?_
            refine lv_istore (lv' := [(4, .int r84), (7, .int r84), (0, .ref (a 0 0)), (1, .int x1), (2, .int x2), (3, .int x3), (5, .int x5), (6, .int x6)]) (pc := 98) hx hb dX8_worst_98 hl (by decide) rfl (fun ls hl => ?_)
            refine lv_iload (pc := 100) hx hb dX8_worst_100 (lv_at hl 6 rfl) ?_
            refine lv_istore_n (lv' := [(2, .int x5), (4, .int r84), (7, .int r84), (0, .ref (a 0 0)), (1, .int x1), (3, .int x3), (5, .int x5), (6, .int x6)]) (pc := 102) hx hb dX8_worst_102 rfl hl (by decide) rfl (fun ls hl => ?_)
            refine lv_iload (pc := 103) hx hb dX8_worst_103 (lv_at hl 7 rfl) ?_
            refine lv_istore_n (lv' := [(3, .int x6), (2, .int x5), (4, .int r84), (7, .int r84), (0, .ref (a 0 0)), (1, .int x1), (5, .int x5), (6, .int x6)]) (pc := 105) hx hb dX8_worst_105 rfl hl (by decide) rfl (fun ls hl => ?_)
            have jr := J106 (fX8_worst_b45 K35 n) K45h x1 x5 x6 r84 x5 x6 ((xs (xs X 5 t0_77) 3 t1_77)) _ _ ls h hP hS (lv_sub hl [4, 5, 1, 0, 2, 6, 7] rfl)
            exact jr
        · replace h := it_t c59 h
          refine lv_goto (tgt := 106) (pc := 62) hx hb dX8_worst_62 (by decide) ?_
          have jr := J106 (fX8_worst_b45 K35 n) K45h x1 x2 x3 x4 x5 x6 X _ _ ls h hP hS hl
          exact jr
  have J35 : ∀ (n : Nat) (x1 : Int32) (x2 : Int32) (x3 : Int32) (x4 : Int32) (x5 : Int32) (X : XS) (H : Heap) (locs : List Loc) (ls : Array Slot), fX8_worst_b35 n x1 x2 x3 x4 x5 X = some (r0, z0) → XP D a c X H → va_S A s.heap H locs → lv_has ls 8 [(0, .ref (a 0 0)), (1, .int x1), (2, .int x2), (3, .int x3), (4, .int x4), (5, .int x5)] → W p l e rmX8_worst s m args below meth cd H locs 0 0 Q (F0 m 35 ls []) := by
    intro n
    induction n with
    | zero =>
      intro x1 x2 x3 x4 x5 X H locs ls h _ _ _
      cases (show (none : Option (Int32 × XS)) = some _ from h)
    | succ n K35h =>
      intro x1 x2 x3 x4 x5 X H locs ls h hP hS hl
      rw [fX8_worst_b35] at h
      refine lv_iload (pc := 35) hx hb dX8_worst_35 (lv_at hl 5 rfl) ?_
      refine lv_bipush (v := 16) (pc := 37) hx hb dX8_worst_37 (by decide) ?_
      refine lv_icmp_ge (tgt := 118) (pc := 39) hx hb dX8_worst_39 (by decide) (fun c39 => ?_) (fun c39 => ?_)
      · replace h := it_t c39 h
        refine lv_iload_n (pc := 118) hx hb dX8_worst_118 rfl (lv_at hl 1 rfl) ?_
        by_cases c119_0 : x1 = (0 : Int32)
        · replace h := it_t c119_0 h
          refine lv_lookup (tgt := 144) (off := 25) (pc := 119) hx hb dX8_worst_119 (by decide) (by rw [c119_0]; rfl) (by decide) ?_
          refine lv_iload_n (pc := 144) hx hb dX8_worst_144 rfl (lv_at hl 2 rfl) ?_
          have kr := KR x2 X _ _ 145 ls h rfl hP hS dX8_worst_145
          exact kr
        · replace h := it_f c119_0 h
          by_cases c119_1 : x1 = (1 : Int32)
          · replace h := it_t c119_1 h
            refine lv_lookup (tgt := 146) (off := 27) (pc := 119) hx hb dX8_worst_119 (by decide) (by rw [c119_1]; rfl) (by decide) ?_
            refine lv_iload_n (pc := 146) hx hb dX8_worst_146 rfl (lv_at hl 3 rfl) ?_
            have kr := KR x3 X _ _ 147 ls h rfl hP hS dX8_worst_147
            exact kr
          · replace h := it_f c119_1 h
            refine lv_lookup (tgt := 148) (off := 29) (pc := 119) hx hb dX8_worst_119 (by decide) (by show Op.lookupswitch.offset [(0, 25), (1, 27)] _ _ = _; rw [lv_osw c119_0 (by decide), lv_osw c119_1 (by decide)]; rfl) (by decide) ?_
            refine lv_iload (pc := 148) hx hb dX8_worst_148 (lv_at hl 4 rfl) ?_
            have kr := KR x4 X _ _ 150 ls h rfl hP hS dX8_worst_150
            exact kr
      · replace h := it_f c39 h
        refine lv_iconst (v := 0) (pc := 42) hx hb dX8_worst_42 (by decide) ?_
        refine lv_istore (lv' := [(6, .int (0 : Int32)), (0, .ref (a 0 0)), (1, .int x1), (2, .int x2), (3, .int x3), (4, .int x4), (5, .int x5)]) (pc := 43) hx hb dX8_worst_43 hl (by decide) rfl (fun ls hl => ?_)
        have jr := J45 (fX8_worst_b35 n) K35h FU x1 x2 x3 x4 x5 (0 : Int32) X _ _ ls h hP hS (lv_sub hl [1, 2, 3, 4, 5, 6, 0] rfl)
        exact jr
  refine lv_iload_n (pc := 0) hx hb dX8_worst_0 rfl (lv_at hl 1 rfl) ?_
  refine lv_iconst (v := 0) (pc := 1) hx hb dX8_worst_1 (by decide) ?_
  refine lv_iconst (v := 2) (pc := 2) hx hb dX8_worst_2 (by decide) ?_
  obtain ⟨r3, hc3, h⟩ := b1_i h
  refine g_noneX (st1 := [.int r3]) (gr_S (n := 3) (rest := []) (pc := 3) hx hb hml hown hts (cX8_isWithin_met l D c tb sa sv p0 (0 : Int32) (2 : Int32) _ hc3) gX8_worst_X8_isWithin rfl rfl rfl (by decide +kernel) rfl ⟨Nat.le_of_ble_eq_true rfl, Nat.le_of_ble_eq_true rfl⟩ ⟨Nat.zero_le _, Nat.zero_le _⟩ xE_ok g_P0 (g_D0 (A := A)) hK (xE_ok.tr hE hS (g_free0 hS hA)) hl.1 (Nat.le_of_ble_eq_true rfl) dX8_worst_3 rfl) hP hS hA rfl (fun H locs hP hS => ?_)
  refine lv_if_ne (tgt := 12) (pc := 6) hx hb dX8_worst_6 (by decide) (fun c6 => ?_) (fun c6 => ?_)
  · replace h := it_f c6 h
    refine lv_aload_n (pc := 12) hx hb dX8_worst_12 rfl (lv_at hl 0 rfl) ?_
    refine va_get (D := D) (ci := 8) (v := .ref ((a 3) 0)) (C := RX8) (T := TX8) (N := 12) (pc := 13) hx hb hfX8 (fun _ h9 => h9) hown hK (show va_P D vwCl (wX8 a c (X 0)) _ from hP 0 (by decide)) 0 rfl rfl 2 (by decide) lk0 (fun _ h9 => h9) rfl dX8_worst_13 ?_
    obtain ⟨r16, hc16, h⟩ := b1_i h
    have hw : (wX3 (a 3) c (X 3)).map (·.1) = [3].flatMap (uA a) := rfl
    have hPc : va_P D vwCl (wX3 (a 3) c (X 3)) _ := hP 3 (by decide)
    have hDc : va_D A (wX3 (a 3) c (X 3)) := hD.of_addr (by decide) (by decide) hw
    refine g_X (X' := X) (st1 := [.int r16]) (gr_V (n := 0) (rest := []) (pc := 16) hx hb hml hown hts (cX3_isEmpty_met l D c tb sa sv (a 3) (X 3) _ hc16) gX8_worst_X3_isEmpty rfl rfl rfl (by decide +kernel) rfl ⟨Nat.le_of_ble_eq_true rfl, Nat.le_of_ble_eq_true rfl⟩ ⟨Nat.zero_le _, Nat.zero_le _⟩ 0 3 rfl rfl rfl xE_ok hPc hDc hK (xE_ok.tr hE hS (g_freeX hD hS hA (by decide) (addr0 hw))) hl.1 (Nat.le_of_ble_eq_true rfl) dX8_worst_16 rfl) hP hD hS hA (ks := [3]) (by decide) (addr0 hw) (fun k9 _ hk9 => rfl) (fun H1 hw1 => (List.forall_mem_cons.mpr ⟨hw1, (fun _ h9 => absurd h9 List.not_mem_nil)⟩)) rfl (fun H locs hP hS => ?_)
    refine lv_if_eq (tgt := 25) (pc := 19) hx hb dX8_worst_19 (by decide) (fun c19 => ?_) (fun c19 => ?_)
    · replace h := it_t c19 h
      refine lv_iconst (v := 0) (pc := 25) hx hb dX8_worst_25 (by decide) ?_
      refine lv_istore_n (lv' := [(2, .int (0 : Int32)), (0, .ref (a 0 0)), (1, .int p0)]) (pc := 26) hx hb dX8_worst_26 rfl hl (by decide) rfl (fun ls hl => ?_)
      refine lv_iconst (v := 0) (pc := 27) hx hb dX8_worst_27 (by decide) ?_
      refine lv_istore_n (lv' := [(3, .int (0 : Int32)), (2, .int (0 : Int32)), (0, .ref (a 0 0)), (1, .int p0)]) (pc := 28) hx hb dX8_worst_28 rfl hl (by decide) rfl (fun ls hl => ?_)
      refine lv_iconst (v := -1) (pc := 29) hx hb dX8_worst_29 (by decide) ?_
      refine lv_istore (lv' := [(4, .int (-1 : Int32)), (3, .int (0 : Int32)), (2, .int (0 : Int32)), (0, .ref (a 0 0)), (1, .int p0)]) (pc := 30) hx hb dX8_worst_30 hl (by decide) rfl (fun ls hl => ?_)
      refine lv_iconst (v := 0) (pc := 32) hx hb dX8_worst_32 (by decide) ?_
      refine lv_istore (lv' := [(5, .int (0 : Int32)), (4, .int (-1 : Int32)), (3, .int (0 : Int32)), (2, .int (0 : Int32)), (0, .ref (a 0 0)), (1, .int p0)]) (pc := 33) hx hb dX8_worst_33 hl (by decide) rfl (fun ls hl => ?_)
      have jr := J35 FU p0 (0 : Int32) (0 : Int32) (-1 : Int32) (0 : Int32) X _ _ ls h hP hS (lv_sub hl [4, 5, 3, 2, 1, 0] rfl)
      exact jr
    · replace h := it_f c19 h
      refine lv_bipush (v := -3) (pc := 22) hx hb dX8_worst_22 (by decide) ?_
      have kr := KR (-3 : Int32) X _ _ 24 ls h rfl hP hS dX8_worst_24
      exact kr
  · replace h := it_t c6 h
    refine lv_bipush (v := -2) (pc := 9) hx hb dX8_worst_9 (by decide) ?_
    have kr := KR (-2 : Int32) X _ _ 11 ls h rfl hP hS dX8_worst_11
    exact kr
abbrev rmX8_glitches : Room := { frames := 3, cells := 0, slots := 0, locals := 76 }
set_option maxRecDepth 100000 in
set_option maxHeartbeats 40000000 in
theorem cX8_glitches_met (l : Launch) (D : va_G) (c : Nat → ClassId) (tb : Nat) (sa sv : Nat → Nat) (a : Nat → Nat → Nat) (p0 : Int32) (X : XS) (r0 : Int32) (z0 : XS) (h : fX8_glitches p0 X = some (r0, z0)) : gM l yX8_glitches wsX8_glitches rmX8_glitches D (gY c) (xE tb sa sv) [.ref (a 0 0), .int p0] (wX a c X) (some (.int r0)) (wX a c z0) := by
  unfold fX8_glitches at h
  refine gM.I (cc := cX8_glitches) (maxL := 5) (by decide) rfl (Nat.le_of_ble_eq_true rfl) ?_
  intro p e s m args below meth cd hx hb hml hown hts A hA ls hl hP hK hD hS hE Q KR0
  have hfX8 : ∀ w ∈ u_ws RX8 TX8 12, w.before args s = true := fun w hw => hts w (List.mem_cons_of_mem _ (List.mem_append_left _ (List.mem_append_left _ (List.mem_append_right _ hw))))
  have lk0 := hts (.fieldLink RX8 26 "GlitchNets" "net" "LGlitchNets$Net;") (List.mem_of_getElem? (i := 1) rfl)
  have lk1 := hts (.fieldLink RX8 36 "GlitchNets" "outputWave" "LGlitchNets$Wave;") (List.mem_of_getElem? (i := 2) rfl)
  have hP := XP_iff.mp hP
  have hD := XD_of hD
  have KR : ∀ (v : Int32) (w0 : XS) (H : Heap) (locs : List Loc) (pc : Nat) (ls : Array Slot), some (v, w0) = some (r0, z0) → narrow .int (.int v) = .int v → XP D a c w0 H → va_S A s.heap H locs → decode cX8_glitches pc = .ok (.ireturn, 1) → W p l e rmX8_glitches s m args below meth cd H locs 0 0 Q (F0 m pc ls [.int v]) := by
    intro v w0 H locs pc ls hr hn hP hS hd
    cases hr
    exact KR0 _ H locs pc ls rfl hn (XP_iff.mpr hP) (hD.all c _) hS hd
  have hl : lv_has ls 5 [(0, .ref (a 0 0)), (1, .int p0)] := hl
  have J85 : ∀ (K38 : Int32 → Int32 → Int32 → Int32 → XS → Option (Int32 × XS)) (K38h : ∀ (x1 : Int32) (x2 : Int32) (x3 : Int32) (x4 : Int32) (X : XS) (H : Heap) (locs : List Loc) (ls : Array Slot), K38 x1 x2 x3 x4 X = some (r0, z0) → XP D a c X H → va_S A s.heap H locs → lv_has ls 5 [(0, .ref (a 0 0)), (1, .int x1), (2, .int x2), (3, .int x3), (4, .int x4)] → W p l e rmX8_glitches s m args below meth cd H locs 0 0 Q (F0 m 38 ls [])) (x1 : Int32) (x2 : Int32) (x3 : Int32) (x4 : Int32) (X : XS) (H : Heap) (locs : List Loc) (ls : Array Slot), fX8_glitches_b85 K38 x1 x2 x3 x4 X = some (r0, z0) → XP D a c X H → va_S A s.heap H locs → lv_has ls 5 [(0, .ref (a 0 0)), (1, .int x1), (2, .int x2), (3, .int x3), (4, .int x4)] → W p l e rmX8_glitches s m args below meth cd H locs 0 0 Q (F0 m 85 ls []) := by
    intro K38 K38h x1 x2 x3 x4 X H locs ls h hP hS hl
    unfold fX8_glitches_b85 at h
    obtain ⟨v4_85, ev4_85, h⟩ := lt_i h
    refine lv_iinc (v := v4_85) (lv' := [(4, .int v4_85), (0, .ref (a 0 0)), (1, .int x1), (2, .int x2), (3, .int x3)]) (pc := 85) hx hb dX8_glitches_85 hl (k := 4) rfl (by rw [ev4_85]; rfl) (by decide) rfl (fun ls hl => ?_)
    refine lv_goto (tgt := 38) (pc := 88) hx hb dX8_glitches_88 (by decide) ?_
    have jr := K38h x1 x2 x3 v4_85 X _ _ ls h hP hS (lv_sub hl [1, 2, 3, 4, 0] rfl)
    exact jr
  have J38 : ∀ (K29 : Int32 → Int32 → Int32 → XS → Option (Int32 × XS)) (K29h : ∀ (x1 : Int32) (x2 : Int32) (x3 : Int32) (X : XS) (H : Heap) (locs : List Loc) (ls : Array Slot), K29 x1 x2 x3 X = some (r0, z0) → XP D a c X H → va_S A s.heap H locs → lv_has ls 5 [(0, .ref (a 0 0)), (1, .int x1), (2, .int x2), (3, .int x3)] → W p l e rmX8_glitches s m args below meth cd H locs 0 0 Q (F0 m 29 ls [])) (n : Nat) (x1 : Int32) (x2 : Int32) (x3 : Int32) (x4 : Int32) (X : XS) (H : Heap) (locs : List Loc) (ls : Array Slot), fX8_glitches_b38 K29 n x1 x2 x3 x4 X = some (r0, z0) → XP D a c X H → va_S A s.heap H locs → lv_has ls 5 [(0, .ref (a 0 0)), (1, .int x1), (2, .int x2), (3, .int x3), (4, .int x4)] → W p l e rmX8_glitches s m args below meth cd H locs 0 0 Q (F0 m 38 ls []) := by
    intro K29 K29h n
    induction n with
    | zero =>
      intro x1 x2 x3 x4 X H locs ls h _ _ _
      cases (show (none : Option (Int32 × XS)) = some _ from h)
    | succ n K38h =>
      intro x1 x2 x3 x4 X H locs ls h hP hS hl
      rw [fX8_glitches_b38] at h
      refine lv_iload (pc := 38) hx hb dX8_glitches_38 (lv_at hl 4 rfl) ?_
      refine lv_bipush (v := 16) (pc := 40) hx hb dX8_glitches_40 (by decide) ?_
      refine lv_icmp_ge (tgt := 91) (pc := 42) hx hb dX8_glitches_42 (by decide) (fun c42 => ?_) (fun c42 => ?_)
      · replace h := it_t c42 h
        obtain ⟨v3_91, ev3_91, h⟩ := lt_i h
        refine lv_iinc (v := v3_91) (lv' := [(3, .int v3_91), (0, .ref (a 0 0)), (1, .int x1), (2, .int x2), (4, .int x4)]) (pc := 91) hx hb dX8_glitches_91 hl (k := 3) rfl (by rw [ev3_91]; rfl) (by decide) rfl (fun ls hl => ?_)
        refine lv_goto (tgt := 29) (pc := 94) hx hb dX8_glitches_94 (by decide) ?_
        have jr := K29h x1 x2 v3_91 X _ _ ls h hP hS (lv_sub hl [1, 2, 3, 0] rfl)
        exact jr
      · replace h := it_f c42 h
        refine lv_iload_n (pc := 45) hx hb dX8_glitches_45 rfl (lv_at hl 3 rfl) ?_
        refine lv_iload (pc := 46) hx hb dX8_glitches_46 (lv_at hl 4 rfl) ?_
        obtain ⟨r48, hc48, h⟩ := b1_i h
        refine g_noneX (st1 := [.int r48]) (gr_S (n := 2) (rest := []) (pc := 48) hx hb hml hown hts (cX8_isOneInputChange_met l D c tb sa sv x3 x4 _ hc48) gX8_glitches_X8_isOneInputChange rfl rfl rfl (by decide +kernel) rfl ⟨Nat.le_of_ble_eq_true rfl, Nat.le_of_ble_eq_true rfl⟩ ⟨Nat.zero_le _, Nat.zero_le _⟩ xE_ok g_P0 (g_D0 (A := A)) hK (xE_ok.tr hE hS (g_free0 hS hA)) hl.1 (Nat.le_of_ble_eq_true rfl) dX8_glitches_48 rfl) hP hS hA rfl (fun H locs hP hS => ?_)
        refine lv_if_ne (tgt := 57) (pc := 51) hx hb dX8_glitches_51 (by decide) (fun c51 => ?_) (fun c51 => ?_)
        · replace h := it_f c51 h
          refine lv_aload_n (pc := 57) hx hb dX8_glitches_57 rfl (lv_at hl 0 rfl) ?_
          refine va_get (D := D) (ci := 8) (v := .ref ((a 5) 0)) (C := RX8) (T := TX8) (N := 12) (pc := 58) hx hb hfX8 (fun _ h9 => h9) hown hK (show va_P D vwCl (wX8 a c (X 0)) _ from hP 0 (by decide)) 0 rfl rfl 4 (by decide) lk1 (fun _ h9 => h9) rfl dX8_glitches_58 ?_
          refine lv_aload_n (pc := 61) hx hb dX8_glitches_61 rfl (lv_at hl 0 rfl) ?_
          refine va_get (D := D) (ci := 8) (v := .ref ((a 3) 0)) (C := RX8) (T := TX8) (N := 12) (pc := 62) hx hb hfX8 (fun _ h9 => h9) hown hK (show va_P D vwCl (wX8 a c (X 0)) _ from hP 0 (by decide)) 0 rfl rfl 2 (by decide) lk0 (fun _ h9 => h9) rfl dX8_glitches_62 ?_
          refine lv_iload_n (pc := 65) hx hb dX8_glitches_65 rfl (lv_at hl 3 rfl) ?_
          refine lv_iload (pc := 66) hx hb dX8_glitches_66 (lv_at hl 4 rfl) ?_
          obtain ⟨t0_68, t1_68, hc68, h⟩ := b2_i h
          have hw : (wX7 (a 5) c (X 5) ++ wX3 (a 3) c (X 3)).map (·.1) = [5, 3].flatMap (uA a) := rfl
          have hPc : va_P D vwCl (wX7 (a 5) c (X 5) ++ wX3 (a 3) c (X 3)) _ := (hP 5 (by decide)).app (hP 3 (by decide))
          have hDc : va_D A (wX7 (a 5) c (X 5) ++ wX3 (a 3) c (X 3)) := hD.of_addr (by decide) (by decide) hw
          refine g_X (X' := (xs (xs X 5 t0_68) 3 t1_68)) (st1 := []) (gr_V (n := 3) (rest := []) (pc := 68) hx hb hml hown hts (cX7_run_met l D c tb sa sv (a 5) (a 3) x3 x4 (X 5) (X 3) _ _ hc68) gX8_glitches_X7_run rfl rfl rfl (by decide +kernel) rfl ⟨Nat.le_of_ble_eq_true rfl, Nat.le_of_ble_eq_true rfl⟩ ⟨Nat.zero_le _, Nat.zero_le _⟩ 0 7 rfl rfl rfl xE_ok hPc hDc hK (xE_ok.tr hE hS (g_freeX hD hS hA (by decide) (addr0 hw))) hl.1 (Nat.le_of_ble_eq_true rfl) dX8_glitches_68 rfl) hP hD hS hA (ks := [5, 3]) (by decide) (addr0 hw) (fun k9 _ hk9 => ((xs_o hk9 (j := 3) (by decide))).trans (xs_o hk9 (j := 5) (by decide))) (fun H1 hw1 => (List.forall_mem_cons.mpr ⟨(vP_l hw1), (List.forall_mem_cons.mpr ⟨(vP_r hw1), (fun _ h9 => absurd h9 List.not_mem_nil)⟩)⟩)) rfl (fun H locs hP hS => ?_)
          refine lv_aload_n (pc := 71) hx hb dX8_glitches_71 rfl (lv_at hl 0 rfl) ?_
          refine va_get (D := D) (ci := 8) (v := .ref ((a 5) 0)) (C := RX8) (T := TX8) (N := 12) (pc := 72) hx hb hfX8 (fun _ h9 => h9) hown hK (show va_P D vwCl (wX8 a c ((xs (xs X 5 t0_68) 3 t1_68) 0)) _ from hP 0 (by decide)) 0 rfl rfl 4 (by decide) lk1 (fun _ h9 => h9) rfl dX8_glitches_72 ?_
          obtain ⟨r75, hc75, h⟩ := b1_i h
          have hw : (wX7 (a 5) c ((xs (xs X 5 t0_68) 3 t1_68) 5)).map (·.1) = [5].flatMap (uA a) := rfl
          have hPc : va_P D vwCl (wX7 (a 5) c ((xs (xs X 5 t0_68) 3 t1_68) 5)) _ := hP 5 (by decide)
          have hDc : va_D A (wX7 (a 5) c ((xs (xs X 5 t0_68) 3 t1_68) 5)) := hD.of_addr (by decide) (by decide) hw
          refine g_X (X' := (xs (xs X 5 t0_68) 3 t1_68)) (st1 := [.int r75]) (gr_V (n := 0) (rest := []) (pc := 75) hx hb hml hown hts (cX7_glitch_met l D c tb sa sv (a 5) ((xs (xs X 5 t0_68) 3 t1_68) 5) _ hc75) gX8_glitches_X7_glitch rfl rfl rfl (by decide +kernel) rfl ⟨Nat.le_of_ble_eq_true rfl, Nat.le_of_ble_eq_true rfl⟩ ⟨Nat.zero_le _, Nat.zero_le _⟩ 0 7 rfl rfl rfl xE_ok hPc hDc hK (xE_ok.tr hE hS (g_freeX hD hS hA (by decide) (addr0 hw))) hl.1 (Nat.le_of_ble_eq_true rfl) dX8_glitches_75 rfl) hP hD hS hA (ks := [5]) (by decide) (addr0 hw) (fun k9 _ hk9 => rfl) (fun H1 hw1 => (List.forall_mem_cons.mpr ⟨hw1, (fun _ h9 => absurd h9 List.not_mem_nil)⟩)) rfl (fun H locs hP hS => ?_)
          refine lv_iload_n (pc := 78) hx hb dX8_glitches_78 rfl (lv_at hl 1 rfl) ?_
          refine lv_icmp_ne (tgt := 85) (pc := 79) hx hb dX8_glitches_79 (by decide) (fun c79 => ?_) (fun c79 => ?_)
          · replace h := it_f c79 h
            have jr := J85 (fX8_glitches_b38 K29 n) K38h x1 x2 x3 x4 ((xs (xs X 5 t0_68) 3 t1_68)) _ _ ls h hP hS hl
            exact jr
          · replace h := it_t c79 h
            obtain ⟨v2_82, ev2_82, h⟩ := lt_i h
            refine lv_iinc (v := v2_82) (lv' := [(2, .int v2_82), (0, .ref (a 0 0)), (1, .int x1), (3, .int x3), (4, .int x4)]) (pc := 82) hx hb dX8_glitches_82 hl (k := 2) rfl (by rw [ev2_82]; rfl) (by decide) rfl (fun ls hl => ?_)
            have jr := J85 (fX8_glitches_b38 K29 n) K38h x1 v2_82 x3 x4 ((xs (xs X 5 t0_68) 3 t1_68)) _ _ ls h hP hS (lv_sub hl [1, 2, 0, 3, 4] rfl)
            exact jr
        · replace h := it_t c51 h
          refine lv_goto (tgt := 85) (pc := 54) hx hb dX8_glitches_54 (by decide) ?_
          have jr := J85 (fX8_glitches_b38 K29 n) K38h x1 x2 x3 x4 X _ _ ls h hP hS hl
          exact jr
  have J29 : ∀ (n : Nat) (x1 : Int32) (x2 : Int32) (x3 : Int32) (X : XS) (H : Heap) (locs : List Loc) (ls : Array Slot), fX8_glitches_b29 n x1 x2 x3 X = some (r0, z0) → XP D a c X H → va_S A s.heap H locs → lv_has ls 5 [(0, .ref (a 0 0)), (1, .int x1), (2, .int x2), (3, .int x3)] → W p l e rmX8_glitches s m args below meth cd H locs 0 0 Q (F0 m 29 ls []) := by
    intro n
    induction n with
    | zero =>
      intro x1 x2 x3 X H locs ls h _ _ _
      cases (show (none : Option (Int32 × XS)) = some _ from h)
    | succ n K29h =>
      intro x1 x2 x3 X H locs ls h hP hS hl
      rw [fX8_glitches_b29] at h
      refine lv_iload_n (pc := 29) hx hb dX8_glitches_29 rfl (lv_at hl 3 rfl) ?_
      refine lv_bipush (v := 16) (pc := 30) hx hb dX8_glitches_30 (by decide) ?_
      refine lv_icmp_ge (tgt := 97) (pc := 32) hx hb dX8_glitches_32 (by decide) (fun c32 => ?_) (fun c32 => ?_)
      · replace h := it_t c32 h
        refine lv_iload_n (pc := 97) hx hb dX8_glitches_97 rfl (lv_at hl 2 rfl) ?_
        have kr := KR x2 X _ _ 98 ls h rfl hP hS dX8_glitches_98
        exact kr
      · replace h := it_f c32 h
        refine lv_iconst (v := 0) (pc := 35) hx hb dX8_glitches_35 (by decide) ?_
        refine lv_istore (lv' := [(4, .int (0 : Int32)), (0, .ref (a 0 0)), (1, .int x1), (2, .int x2), (3, .int x3)]) (pc := 36) hx hb dX8_glitches_36 hl (by decide) rfl (fun ls hl => ?_)
        have jr := J38 (fX8_glitches_b29 n) K29h FU x1 x2 x3 (0 : Int32) X _ _ ls h hP hS (lv_sub hl [1, 2, 3, 4, 0] rfl)
        exact jr
  refine lv_iload_n (pc := 0) hx hb dX8_glitches_0 rfl (lv_at hl 1 rfl) ?_
  refine lv_iconst (v := 0) (pc := 1) hx hb dX8_glitches_1 (by decide) ?_
  refine lv_iconst (v := 2) (pc := 2) hx hb dX8_glitches_2 (by decide) ?_
  obtain ⟨r3, hc3, h⟩ := b1_i h
  refine g_noneX (st1 := [.int r3]) (gr_S (n := 3) (rest := []) (pc := 3) hx hb hml hown hts (cX8_isWithin_met l D c tb sa sv p0 (0 : Int32) (2 : Int32) _ hc3) gX8_glitches_X8_isWithin rfl rfl rfl (by decide +kernel) rfl ⟨Nat.le_of_ble_eq_true rfl, Nat.le_of_ble_eq_true rfl⟩ ⟨Nat.zero_le _, Nat.zero_le _⟩ xE_ok g_P0 (g_D0 (A := A)) hK (xE_ok.tr hE hS (g_free0 hS hA)) hl.1 (Nat.le_of_ble_eq_true rfl) dX8_glitches_3 rfl) hP hS hA rfl (fun H locs hP hS => ?_)
  refine lv_if_ne (tgt := 12) (pc := 6) hx hb dX8_glitches_6 (by decide) (fun c6 => ?_) (fun c6 => ?_)
  · replace h := it_f c6 h
    refine lv_aload_n (pc := 12) hx hb dX8_glitches_12 rfl (lv_at hl 0 rfl) ?_
    refine va_get (D := D) (ci := 8) (v := .ref ((a 3) 0)) (C := RX8) (T := TX8) (N := 12) (pc := 13) hx hb hfX8 (fun _ h9 => h9) hown hK (show va_P D vwCl (wX8 a c (X 0)) _ from hP 0 (by decide)) 0 rfl rfl 2 (by decide) lk0 (fun _ h9 => h9) rfl dX8_glitches_13 ?_
    obtain ⟨r16, hc16, h⟩ := b1_i h
    have hw : (wX3 (a 3) c (X 3)).map (·.1) = [3].flatMap (uA a) := rfl
    have hPc : va_P D vwCl (wX3 (a 3) c (X 3)) _ := hP 3 (by decide)
    have hDc : va_D A (wX3 (a 3) c (X 3)) := hD.of_addr (by decide) (by decide) hw
    refine g_X (X' := X) (st1 := [.int r16]) (gr_V (n := 0) (rest := []) (pc := 16) hx hb hml hown hts (cX3_isEmpty_met l D c tb sa sv (a 3) (X 3) _ hc16) gX8_glitches_X3_isEmpty rfl rfl rfl (by decide +kernel) rfl ⟨Nat.le_of_ble_eq_true rfl, Nat.le_of_ble_eq_true rfl⟩ ⟨Nat.zero_le _, Nat.zero_le _⟩ 0 3 rfl rfl rfl xE_ok hPc hDc hK (xE_ok.tr hE hS (g_freeX hD hS hA (by decide) (addr0 hw))) hl.1 (Nat.le_of_ble_eq_true rfl) dX8_glitches_16 rfl) hP hD hS hA (ks := [3]) (by decide) (addr0 hw) (fun k9 _ hk9 => rfl) (fun H1 hw1 => (List.forall_mem_cons.mpr ⟨hw1, (fun _ h9 => absurd h9 List.not_mem_nil)⟩)) rfl (fun H locs hP hS => ?_)
    refine lv_if_eq (tgt := 25) (pc := 19) hx hb dX8_glitches_19 (by decide) (fun c19 => ?_) (fun c19 => ?_)
    · replace h := it_t c19 h
      refine lv_iconst (v := 0) (pc := 25) hx hb dX8_glitches_25 (by decide) ?_
      refine lv_istore_n (lv' := [(2, .int (0 : Int32)), (0, .ref (a 0 0)), (1, .int p0)]) (pc := 26) hx hb dX8_glitches_26 rfl hl (by decide) rfl (fun ls hl => ?_)
      refine lv_iconst (v := 0) (pc := 27) hx hb dX8_glitches_27 (by decide) ?_
      refine lv_istore_n (lv' := [(3, .int (0 : Int32)), (2, .int (0 : Int32)), (0, .ref (a 0 0)), (1, .int p0)]) (pc := 28) hx hb dX8_glitches_28 rfl hl (by decide) rfl (fun ls hl => ?_)
      have jr := J29 FU p0 (0 : Int32) (0 : Int32) X _ _ ls h hP hS (lv_sub hl [2, 3, 1, 0] rfl)
      exact jr
    · replace h := it_f c19 h
      refine lv_bipush (v := -3) (pc := 22) hx hb dX8_glitches_22 (by decide) ?_
      have kr := KR (-3 : Int32) X _ _ 24 ls h rfl hP hS dX8_glitches_24
      exact kr
  · replace h := it_t c6 h
    refine lv_bipush (v := -2) (pc := 9) hx hb dX8_glitches_9 (by decide) ?_
    have kr := KR (-2 : Int32) X _ _ 11 ls h rfl hP hS dX8_glitches_11
    exact kr
abbrev rmX3_backOnPath : Room := { frames := 1, cells := 0, slots := 0, locals := 21 }
set_option maxRecDepth 100000 in
set_option maxHeartbeats 40000000 in
theorem cX3_backOnPath_met (l : Launch) (D : va_G) (c : Nat → ClassId) (tb : Nat) (sa sv : Nat → Nat) (a0 : Nat → Nat) (p0 : Int32) (s0 : Mem) (r0 : Int32) (h : fX3_backOnPath p0 s0 = some r0) : gM l yX3_backOnPath wsX3_backOnPath rmX3_backOnPath D (gY c) (xE tb sa sv) [.ref (a0 0), .int p0] (wX3 a0 c s0) (some (.int r0)) (wX3 a0 c s0) := by
  unfold fX3_backOnPath at h
  refine gM.I (cc := cX3_backOnPath) (maxL := 5) (by decide) rfl (Nat.le_of_ble_eq_true rfl) ?_
  intro p e s m args below meth cd hx hb hml hown hts A hA ls hl hP hK hD hS hE Q KR0
  have hfX3 : ∀ w ∈ u_ws RX3 TX3 7, w.before args s = true := fun w hw => hts w (List.mem_cons_of_mem _ (List.mem_append_right _ hw))
  have lk0 := hts (.fieldLink RX3 15 "GlitchNets$Net" "firsts" "[I") (List.mem_of_getElem? (i := 1) rfl)
  have lk1 := hts (.fieldLink RX3 18 "GlitchNets$Net" "seconds" "[I") (List.mem_of_getElem? (i := 2) rfl)
  have lk2 := hts (.fieldLink RX3 27 "GlitchNets$Net" "paths" "[I") (List.mem_of_getElem? (i := 3) rfl)
  have KR : ∀ (v : Int32)  (H : Heap) (locs : List Loc) (pc : Nat) (ls : Array Slot), some v = some r0 → narrow .int (.int v) = .int v → va_P D vwCl (wX3 a0 c s0) H → va_D A (wX3 a0 c s0) → va_S A s.heap H locs → decode cX3_backOnPath pc = .ok (.ireturn, 1) → W p l e rmX3_backOnPath s m args below meth cd H locs 0 0 Q (F0 m pc ls [.int v]) := by
    intro v  H locs pc ls hr hn hP hD hS hd
    cases hr
    exact KR0 _ H locs pc ls rfl hn hP hD hS hd
  have hl : lv_has ls 5 [(0, .ref (a0 0)), (1, .int p0)] := hl
  have J48 : ∀ (y0 : Int32) (H : Heap) (locs : List Loc) (ls : Array Slot), fX3_backOnPath_b48 s0 y0 = some r0 → va_P D vwCl (wX3 a0 c s0) H → va_D A (wX3 a0 c s0) → va_S A s.heap H locs → lv_has ls 5 [(0, .ref (a0 0))] → W p l e rmX3_backOnPath s m args below meth cd H locs 0 0 Q (F0 m 48 ls [.int y0]) := by
    intro y0 H locs ls h hP hD hS hl
    unfold fX3_backOnPath_b48 at h
    refine lv_istore (lv' := [(4, .int y0), (0, .ref (a0 0))]) (pc := 48) hx hb dX3_backOnPath_48 hl (by decide) rfl (fun ls hl => ?_)
    refine lv_aload_n (pc := 50) hx hb dX3_backOnPath_50 rfl (lv_at hl 1 rfl) ?_
    refine lv_iload (pc := 51) hx hb dX3_backOnPath_51 (lv_at hl 0 rfl) ?_
    obtain ⟨r53, hc53, h⟩ := b1_i h
    refine g_all (st1 := [.int r53]) (gr_V (n := 1) (rest := []) (pc := 53) hx hb hml hown hts (cX3_has_met l D c tb sa sv a0 y0 s0 _ hc53) gX3_backOnPath_X3_has rfl rfl rfl (by decide +kernel) rfl ⟨Nat.le_of_ble_eq_true rfl, Nat.le_of_ble_eq_true rfl⟩ ⟨Nat.zero_le _, Nat.zero_le _⟩ 0 3 rfl rfl rfl xE_ok hP hD hK (xE_ok.tr hE hS (g_free hD hS hA)) hl.1 (Nat.le_of_ble_eq_true rfl) dX3_backOnPath_53 rfl) hD hS hA rfl (fun H locs hP hD hS => ?_)
    refine lv_if_eq (tgt := 64) (pc := 56) hx hb dX3_backOnPath_56 (by decide) (fun c56 => ?_) (fun c56 => ?_)
    · replace h := it_t c56 h
      refine lv_iconst (v := -1) (pc := 64) hx hb dX3_backOnPath_64 (by decide) ?_
      have kr := KR (-1 : Int32)  _ _ 65 ls h rfl hP hD hS dX3_backOnPath_65
      exact kr
    · replace h := it_f c56 h
      refine lv_iload (pc := 59) hx hb dX3_backOnPath_59 (lv_at hl 0 rfl) ?_
      refine lv_goto (tgt := 65) (pc := 61) hx hb dX3_backOnPath_61 (by decide) ?_
      have kr := KR y0  _ _ 65 ls h rfl hP hD hS dX3_backOnPath_65
      exact kr
  refine lv_aload_n (pc := 0) hx hb dX3_backOnPath_0 rfl (lv_at hl 0 rfl) ?_
  refine lv_iload_n (pc := 1) hx hb dX3_backOnPath_1 rfl (lv_at hl 1 rfl) ?_
  obtain ⟨r2, hc2, h⟩ := b1_i h
  refine g_all (st1 := [.int r2]) (gr_V (n := 1) (rest := []) (pc := 2) hx hb hml hown hts (cX3_has_met l D c tb sa sv a0 p0 s0 _ hc2) gX3_backOnPath_X3_has rfl rfl rfl (by decide +kernel) rfl ⟨Nat.le_of_ble_eq_true rfl, Nat.le_of_ble_eq_true rfl⟩ ⟨Nat.zero_le _, Nat.zero_le _⟩ 0 3 rfl rfl rfl xE_ok hP hD hK (xE_ok.tr hE hS (g_free hD hS hA)) hl.1 (Nat.le_of_ble_eq_true rfl) dX3_backOnPath_2 rfl) hD hS hA rfl (fun H locs hP hD hS => ?_)
  refine lv_if_ne (tgt := 10) (pc := 5) hx hb dX3_backOnPath_5 (by decide) (fun c5 => ?_) (fun c5 => ?_)
  · replace h := it_f c5 h
    refine lv_aload_n (pc := 10) hx hb dX3_backOnPath_10 rfl (lv_at hl 0 rfl) ?_
    refine va_get (D := D) (ci := 3) (v := .ref (a0 2)) (C := RX3) (T := TX3) (N := 7) (pc := 11) hx hb hfX3 (fun _ h9 => h9) hown hK hP 0 rfl rfl 1 (by decide) lk0 (fun _ h9 => h9) rfl dX3_backOnPath_11 ?_
    refine lv_iload_n (pc := 14) hx hb dX3_backOnPath_14 rfl (lv_at hl 1 rfl) ?_
    obtain ⟨hk15, h⟩ := ckI_i h
    refine va_iald (D := D) (f := (s0.1 1)) (pc := 15) hx hb hK hP 2 0 rfl rfl hk15 dX3_backOnPath_15 ?_
    refine lv_topi (fun v2_16 ev2_16 => ?_)
    replace h := lt_e ev2_16 h
    refine lv_istore_n (lv' := [(2, .int v2_16), (0, .ref (a0 0)), (1, .int p0)]) (pc := 16) hx hb dX3_backOnPath_16 rfl hl (by decide) rfl (fun ls hl => ?_)
    refine lv_aload_n (pc := 17) hx hb dX3_backOnPath_17 rfl (lv_at hl 1 rfl) ?_
    refine va_get (D := D) (ci := 3) (v := .ref (a0 3)) (C := RX3) (T := TX3) (N := 7) (pc := 18) hx hb hfX3 (fun _ h9 => h9) hown hK hP 0 rfl rfl 2 (by decide) lk1 (fun _ h9 => h9) rfl dX3_backOnPath_18 ?_
    refine lv_iload_n (pc := 21) hx hb dX3_backOnPath_21 rfl (lv_at hl 2 rfl) ?_
    obtain ⟨hk22, h⟩ := ckI_i h
    refine va_iald (D := D) (f := (s0.1 2)) (pc := 22) hx hb hK hP 3 0 rfl rfl hk22 dX3_backOnPath_22 ?_
    refine lv_topi (fun v3_23 ev3_23 => ?_)
    replace h := lt_e ev3_23 h
    refine lv_istore_n (lv' := [(3, .int v3_23), (2, .int v2_16), (0, .ref (a0 0)), (1, .int p0)]) (pc := 23) hx hb dX3_backOnPath_23 rfl hl (by decide) rfl (fun ls hl => ?_)
    refine lv_aload_n (pc := 24) hx hb dX3_backOnPath_24 rfl (lv_at hl 2 rfl) ?_
    refine va_get (D := D) (ci := 3) (v := .ref (a0 6)) (C := RX3) (T := TX3) (N := 7) (pc := 25) hx hb hfX3 (fun _ h9 => h9) hown hK hP 0 rfl rfl 6 (by decide) lk2 (fun _ h9 => h9) rfl dX3_backOnPath_25 ?_
    refine lv_iconst (v := 4) (pc := 28) hx hb dX3_backOnPath_28 (by decide) ?_
    refine lv_iload_n (pc := 29) hx hb dX3_backOnPath_29 rfl (lv_at hl 0 rfl) ?_
    refine lv_iadd (pc := 30) hx hb dX3_backOnPath_30 ?_
    obtain ⟨hk31, h⟩ := ckI_i h
    refine va_iald (D := D) (f := (s0.1 6)) (pc := 31) hx hb hK hP 6 0 rfl rfl hk31 dX3_backOnPath_31 ?_
    refine lv_aload_n (pc := 32) hx hb dX3_backOnPath_32 rfl (lv_at hl 2 rfl) ?_
    refine va_get (D := D) (ci := 3) (v := .ref (a0 6)) (C := RX3) (T := TX3) (N := 7) (pc := 33) hx hb hfX3 (fun _ h9 => h9) hown hK hP 0 rfl rfl 6 (by decide) lk2 (fun _ h9 => h9) rfl dX3_backOnPath_33 ?_
    refine lv_iconst (v := 4) (pc := 36) hx hb dX3_backOnPath_36 (by decide) ?_
    refine lv_iload_n (pc := 37) hx hb dX3_backOnPath_37 rfl (lv_at hl 1 rfl) ?_
    refine lv_iadd (pc := 38) hx hb dX3_backOnPath_38 ?_
    obtain ⟨hk39, h⟩ := ckI_i h
    refine va_iald (D := D) (f := (s0.1 6)) (pc := 39) hx hb hK hP 6 0 rfl rfl hk39 dX3_backOnPath_39 ?_
    refine lv_icmp_le (tgt := 47) (pc := 40) hx hb dX3_backOnPath_40 (by decide) (fun c40 => ?_) (fun c40 => ?_)
    · replace h := it_t c40 h
      refine lv_iload_n (pc := 47) hx hb dX3_backOnPath_47 rfl (lv_at hl 1 rfl) ?_
      have jr := J48 v2_16 _ _ ls h hP hD hS (lv_sub hl [2] rfl)
      exact jr
    · replace h := it_f c40 h
      refine lv_iload_n (pc := 43) hx hb dX3_backOnPath_43 rfl (lv_at hl 0 rfl) ?_
      refine lv_goto (tgt := 48) (pc := 44) hx hb dX3_backOnPath_44 (by decide) ?_
      have jr := J48 v3_23 _ _ ls h hP hD hS (lv_sub hl [2] rfl)
      exact jr
  · replace h := it_t c5 h
    refine lv_iconst (v := -1) (pc := 8) hx hb dX3_backOnPath_8 (by decide) ?_
    have kr := KR (-1 : Int32)  _ _ 9 ls h rfl hP hD hS dX3_backOnPath_9
    exact kr
abbrev rmX8_path : Room := { frames := 2, cells := 0, slots := 0, locals := 45 }
set_option maxRecDepth 100000 in
set_option maxHeartbeats 40000000 in
theorem cX8_path_met (l : Launch) (D : va_G) (c : Nat → ClassId) (tb : Nat) (sa sv : Nat → Nat) (a : Nat → Nat → Nat) (p0 : Int32) (X : XS) (r0 : Int32) (z0 : XS) (h : fX8_path p0 X = some (r0, z0)) : gM l yX8_path wsX8_path rmX8_path D (gY c) (xE tb sa sv) [.ref (a 0 0), .int p0] (wX a c X) (some (.int r0)) (wX a c z0) := by
  unfold fX8_path at h
  refine gM.I (cc := cX8_path) (maxL := 4) (by decide) rfl (Nat.le_of_ble_eq_true rfl) ?_
  intro p e s m args below meth cd hx hb hml hown hts A hA ls hl hP hK hD hS hE Q KR0
  have hfX8 : ∀ w ∈ u_ws RX8 TX8 12, w.before args s = true := fun w hw => hts w (List.mem_cons_of_mem _ (List.mem_append_left _ (List.mem_append_right _ hw)))
  have lk0 := hts (.fieldLink RX8 26 "GlitchNets" "net" "LGlitchNets$Net;") (List.mem_of_getElem? (i := 1) rfl)
  have hP := XP_iff.mp hP
  have hD := XD_of hD
  have KR : ∀ (v : Int32) (w0 : XS) (H : Heap) (locs : List Loc) (pc : Nat) (ls : Array Slot), some (v, w0) = some (r0, z0) → narrow .int (.int v) = .int v → XP D a c w0 H → va_S A s.heap H locs → decode cX8_path pc = .ok (.ireturn, 1) → W p l e rmX8_path s m args below meth cd H locs 0 0 Q (F0 m pc ls [.int v]) := by
    intro v w0 H locs pc ls hr hn hP hS hd
    cases hr
    exact KR0 _ H locs pc ls rfl hn (XP_iff.mpr hP) (hD.all c _) hS hd
  have hl : lv_has ls 4 [(0, .ref (a 0 0)), (1, .int p0)] := hl
  have J37 : ∀ (n : Nat) (x1 : Int32) (x2 : Int32) (x3 : Int32) (X : XS) (H : Heap) (locs : List Loc) (ls : Array Slot), fX8_path_b37 n x1 x2 x3 X = some (r0, z0) → XP D a c X H → va_S A s.heap H locs → lv_has ls 4 [(0, .ref (a 0 0)), (1, .int x1), (2, .int x2), (3, .int x3)] → W p l e rmX8_path s m args below meth cd H locs 0 0 Q (F0 m 37 ls []) := by
    intro n
    induction n with
    | zero =>
      intro x1 x2 x3 X H locs ls h _ _ _
      cases (show (none : Option (Int32 × XS)) = some _ from h)
    | succ n K37h =>
      intro x1 x2 x3 X H locs ls h hP hS hl
      rw [fX8_path_b37] at h
      refine lv_iload_n (pc := 37) hx hb dX8_path_37 rfl (lv_at hl 3 rfl) ?_
      refine lv_iload_n (pc := 38) hx hb dX8_path_38 rfl (lv_at hl 1 rfl) ?_
      refine lv_icmp_ge (tgt := 62) (pc := 39) hx hb dX8_path_39 (by decide) (fun c39 => ?_) (fun c39 => ?_)
      · replace h := it_t c39 h
        refine lv_iload_n (pc := 62) hx hb dX8_path_62 rfl (lv_at hl 2 rfl) ?_
        have kr := KR x2 X _ _ 63 ls h rfl hP hS dX8_path_63
        exact kr
      · replace h := it_f c39 h
        refine lv_iload_n (pc := 42) hx hb dX8_path_42 rfl (lv_at hl 2 rfl) ?_
        refine lv_iconst (v := -1) (pc := 43) hx hb dX8_path_43 (by decide) ?_
        refine lv_icmp_eq (tgt := 62) (pc := 44) hx hb dX8_path_44 (by decide) (fun c44 => ?_) (fun c44 => ?_)
        · replace h := it_t c44 h
          refine lv_iload_n (pc := 62) hx hb dX8_path_62 rfl (lv_at hl 2 rfl) ?_
          have kr := KR x2 X _ _ 63 ls h rfl hP hS dX8_path_63
          exact kr
        · replace h := it_f c44 h
          refine lv_aload_n (pc := 47) hx hb dX8_path_47 rfl (lv_at hl 0 rfl) ?_
          refine va_get (D := D) (ci := 8) (v := .ref ((a 3) 0)) (C := RX8) (T := TX8) (N := 12) (pc := 48) hx hb hfX8 (fun _ h9 => h9) hown hK (show va_P D vwCl (wX8 a c (X 0)) _ from hP 0 (by decide)) 0 rfl rfl 2 (by decide) lk0 (fun _ h9 => h9) rfl dX8_path_48 ?_
          refine lv_iload_n (pc := 51) hx hb dX8_path_51 rfl (lv_at hl 2 rfl) ?_
          obtain ⟨r52, hc52, h⟩ := b1_i h
          have hw : (wX3 (a 3) c (X 3)).map (·.1) = [3].flatMap (uA a) := rfl
          have hPc : va_P D vwCl (wX3 (a 3) c (X 3)) _ := hP 3 (by decide)
          have hDc : va_D A (wX3 (a 3) c (X 3)) := hD.of_addr (by decide) (by decide) hw
          refine g_X (X' := X) (st1 := [.int r52]) (gr_V (n := 1) (rest := []) (pc := 52) hx hb hml hown hts (cX3_backOnPath_met l D c tb sa sv (a 3) x2 (X 3) _ hc52) gX8_path_X3_backOnPath rfl rfl rfl (by decide +kernel) rfl ⟨Nat.le_of_ble_eq_true rfl, Nat.le_of_ble_eq_true rfl⟩ ⟨Nat.zero_le _, Nat.zero_le _⟩ 0 3 rfl rfl rfl xE_ok hPc hDc hK (xE_ok.tr hE hS (g_freeX hD hS hA (by decide) (addr0 hw))) hl.1 (Nat.le_of_ble_eq_true rfl) dX8_path_52 rfl) hP hD hS hA (ks := [3]) (by decide) (addr0 hw) (fun k9 _ hk9 => rfl) (fun H1 hw1 => (List.forall_mem_cons.mpr ⟨hw1, (fun _ h9 => absurd h9 List.not_mem_nil)⟩)) rfl (fun H locs hP hS => ?_)
          refine lv_istore_n (lv' := [(2, .int r52), (0, .ref (a 0 0)), (1, .int x1), (3, .int x3)]) (pc := 55) hx hb dX8_path_55 rfl hl (by decide) rfl (fun ls hl => ?_)
          obtain ⟨v3_56, ev3_56, h⟩ := lt_i h
          refine lv_iinc (v := v3_56) (lv' := [(3, .int v3_56), (2, .int r52), (0, .ref (a 0 0)), (1, .int x1)]) (pc := 56) hx hb dX8_path_56 hl (k := 3) rfl (by rw [ev3_56]; rfl) (by decide) rfl (fun ls hl => ?_)
          refine lv_goto (tgt := 37) (pc := 59) hx hb dX8_path_59 (by decide) ?_
          have jr := K37h x1 r52 v3_56 X _ _ ls h hP hS (lv_sub hl [2, 3, 1, 0] rfl)
          exact jr
  refine lv_iload_n (pc := 0) hx hb dX8_path_0 rfl (lv_at hl 1 rfl) ?_
  refine lv_if_ge (tgt := 7) (pc := 1) hx hb dX8_path_1 (by decide) (fun c1 => ?_) (fun c1 => ?_)
  · replace h := it_t c1 h
    refine lv_aload_n (pc := 7) hx hb dX8_path_7 rfl (lv_at hl 0 rfl) ?_
    refine va_get (D := D) (ci := 8) (v := .ref ((a 3) 0)) (C := RX8) (T := TX8) (N := 12) (pc := 8) hx hb hfX8 (fun _ h9 => h9) hown hK (show va_P D vwCl (wX8 a c (X 0)) _ from hP 0 (by decide)) 0 rfl rfl 2 (by decide) lk0 (fun _ h9 => h9) rfl dX8_path_8 ?_
    obtain ⟨r11, hc11, h⟩ := b1_i h
    have hw : (wX3 (a 3) c (X 3)).map (·.1) = [3].flatMap (uA a) := rfl
    have hPc : va_P D vwCl (wX3 (a 3) c (X 3)) _ := hP 3 (by decide)
    have hDc : va_D A (wX3 (a 3) c (X 3)) := hD.of_addr (by decide) (by decide) hw
    refine g_X (X' := X) (st1 := [.int r11]) (gr_V (n := 0) (rest := []) (pc := 11) hx hb hml hown hts (cX3_isEmpty_met l D c tb sa sv (a 3) (X 3) _ hc11) gX8_path_X3_isEmpty rfl rfl rfl (by decide +kernel) rfl ⟨Nat.le_of_ble_eq_true rfl, Nat.le_of_ble_eq_true rfl⟩ ⟨Nat.zero_le _, Nat.zero_le _⟩ 0 3 rfl rfl rfl xE_ok hPc hDc hK (xE_ok.tr hE hS (g_freeX hD hS hA (by decide) (addr0 hw))) hl.1 (Nat.le_of_ble_eq_true rfl) dX8_path_11 rfl) hP hD hS hA (ks := [3]) (by decide) (addr0 hw) (fun k9 _ hk9 => rfl) (fun H1 hw1 => (List.forall_mem_cons.mpr ⟨hw1, (fun _ h9 => absurd h9 List.not_mem_nil)⟩)) rfl (fun H locs hP hS => ?_)
    refine lv_if_eq (tgt := 20) (pc := 14) hx hb dX8_path_14 (by decide) (fun c14 => ?_) (fun c14 => ?_)
    · replace h := it_t c14 h
      refine lv_aload_n (pc := 20) hx hb dX8_path_20 rfl (lv_at hl 0 rfl) ?_
      refine va_get (D := D) (ci := 8) (v := .ref ((a 3) 0)) (C := RX8) (T := TX8) (N := 12) (pc := 21) hx hb hfX8 (fun _ h9 => h9) hown hK (show va_P D vwCl (wX8 a c (X 0)) _ from hP 0 (by decide)) 0 rfl rfl 2 (by decide) lk0 (fun _ h9 => h9) rfl dX8_path_21 ?_
      obtain ⟨t0_24, hc24, h⟩ := b1_i h
      have hw : (wX3 (a 3) c (X 3)).map (·.1) = [3].flatMap (uA a) := rfl
      have hPc : va_P D vwCl (wX3 (a 3) c (X 3)) _ := hP 3 (by decide)
      have hDc : va_D A (wX3 (a 3) c (X 3)) := hD.of_addr (by decide) (by decide) hw
      refine g_X (X' := (xs X 3 t0_24)) (st1 := []) (gr_V (n := 0) (rest := []) (pc := 24) hx hb hml hown hts (cX3_findPaths_met l D c tb sa sv (a 3) (X 3) _ hc24) gX8_path_X3_findPaths rfl rfl rfl (by decide +kernel) rfl ⟨Nat.le_of_ble_eq_true rfl, Nat.le_of_ble_eq_true rfl⟩ ⟨Nat.zero_le _, Nat.zero_le _⟩ 0 3 rfl rfl rfl xE_ok hPc hDc hK (xE_ok.tr hE hS (g_freeX hD hS hA (by decide) (addr0 hw))) hl.1 (Nat.le_of_ble_eq_true rfl) dX8_path_24 rfl) hP hD hS hA (ks := [3]) (by decide) (addr0 hw) (fun k9 _ hk9 => (xs_o hk9 (j := 3) (by decide))) (fun H1 hw1 => (List.forall_mem_cons.mpr ⟨hw1, (fun _ h9 => absurd h9 List.not_mem_nil)⟩)) rfl (fun H locs hP hS => ?_)
      refine lv_aload_n (pc := 27) hx hb dX8_path_27 rfl (lv_at hl 0 rfl) ?_
      refine va_get (D := D) (ci := 8) (v := .ref ((a 3) 0)) (C := RX8) (T := TX8) (N := 12) (pc := 28) hx hb hfX8 (fun _ h9 => h9) hown hK (show va_P D vwCl (wX8 a c ((xs X 3 t0_24) 0)) _ from hP 0 (by decide)) 0 rfl rfl 2 (by decide) lk0 (fun _ h9 => h9) rfl dX8_path_28 ?_
      obtain ⟨r31, hc31, h⟩ := b1_i h
      have hw : (wX3 (a 3) c ((xs X 3 t0_24) 3)).map (·.1) = [3].flatMap (uA a) := rfl
      have hPc : va_P D vwCl (wX3 (a 3) c ((xs X 3 t0_24) 3)) _ := hP 3 (by decide)
      have hDc : va_D A (wX3 (a 3) c ((xs X 3 t0_24) 3)) := hD.of_addr (by decide) (by decide) hw
      refine g_X (X' := (xs X 3 t0_24)) (st1 := [.int r31]) (gr_V (n := 0) (rest := []) (pc := 31) hx hb hml hown hts (cX3_output_met l D c tb sa sv (a 3) ((xs X 3 t0_24) 3) _ hc31) gX8_path_X3_output rfl rfl rfl (by decide +kernel) rfl ⟨Nat.le_of_ble_eq_true rfl, Nat.le_of_ble_eq_true rfl⟩ ⟨Nat.zero_le _, Nat.zero_le _⟩ 0 3 rfl rfl rfl xE_ok hPc hDc hK (xE_ok.tr hE hS (g_freeX hD hS hA (by decide) (addr0 hw))) hl.1 (Nat.le_of_ble_eq_true rfl) dX8_path_31 rfl) hP hD hS hA (ks := [3]) (by decide) (addr0 hw) (fun k9 _ hk9 => rfl) (fun H1 hw1 => (List.forall_mem_cons.mpr ⟨hw1, (fun _ h9 => absurd h9 List.not_mem_nil)⟩)) rfl (fun H locs hP hS => ?_)
      refine lv_istore_n (lv' := [(2, .int r31), (0, .ref (a 0 0)), (1, .int p0)]) (pc := 34) hx hb dX8_path_34 rfl hl (by decide) rfl (fun ls hl => ?_)
      refine lv_iconst (v := 0) (pc := 35) hx hb dX8_path_35 (by decide) ?_
      refine lv_istore_n (lv' := [(3, .int (0 : Int32)), (2, .int r31), (0, .ref (a 0 0)), (1, .int p0)]) (pc := 36) hx hb dX8_path_36 rfl hl (by decide) rfl (fun ls hl => ?_)
      have jr := J37 FU p0 r31 (0 : Int32) ((xs X 3 t0_24)) _ _ ls h hP hS (lv_sub hl [2, 3, 1, 0] rfl)
      exact jr
    · replace h := it_f c14 h
      refine lv_bipush (v := -3) (pc := 17) hx hb dX8_path_17 (by decide) ?_
      have kr := KR (-3 : Int32) X _ _ 19 ls h rfl hP hS dX8_path_19
      exact kr
  · replace h := it_f c1 h
    refine lv_bipush (v := -2) (pc := 4) hx hb dX8_path_4 (by decide) ?_
    have kr := KR (-2 : Int32) X _ _ 6 ls h rfl hP hS dX8_path_6
    exact kr
abbrev rmX0_isFull : Room := { frames := 0, cells := 0, slots := 0, locals := 0 }
set_option maxRecDepth 100000 in
set_option maxHeartbeats 40000000 in
theorem cX0_isFull_met (l : Launch) (D : va_G) (c : Nat → ClassId) (tb : Nat) (sa sv : Nat → Nat) (a0 : Nat → Nat) (s0 : Mem) (r0 : Int32) (h : fX0_isFull s0 = some r0) : gM l yX0_isFull wsX0_isFull rmX0_isFull D (gY c) (xE tb sa sv) [.ref (a0 0)] (wX0 a0 c s0) (some (.int r0)) (wX0 a0 c s0) := by
  unfold fX0_isFull at h
  refine gM.I (cc := cX0_isFull) (maxL := 1) (by decide) rfl (Nat.le_of_ble_eq_true rfl) ?_
  intro p e s m args below meth cd hx hb hml hown hts A hA ls hl hP hK hD hS hE Q KR0
  have hfX0 : ∀ w ∈ u_ws RX0 TX0 3, w.before args s = true := fun w hw => hts w (List.mem_cons_of_mem _ (List.mem_append_right _ hw))
  have lk0 := hts (.fieldLink RX0 16 "GlitchNets$Cover" "size" "I") (List.mem_of_getElem? (i := 1) rfl)
  have KR : ∀ (v : Int32)  (H : Heap) (locs : List Loc) (pc : Nat) (ls : Array Slot), some v = some r0 → narrow .boolean (.int v) = .int v → va_P D vwCl (wX0 a0 c s0) H → va_D A (wX0 a0 c s0) → va_S A s.heap H locs → decode cX0_isFull pc = .ok (.ireturn, 1) → W p l e rmX0_isFull s m args below meth cd H locs 0 0 Q (F0 m pc ls [.int v]) := by
    intro v  H locs pc ls hr hn hP hD hS hd
    cases hr
    exact KR0 _ H locs pc ls rfl hn hP hD hS hd
  have hl : lv_has ls 1 [(0, .ref (a0 0))] := hl
  refine lv_aload_n (pc := 0) hx hb dX0_isFull_0 rfl (lv_at hl 0 rfl) ?_
  refine va_get (D := D) (ci := 0) (v := .int (s0.1 2 0)) (C := RX0) (T := TX0) (N := 3) (pc := 1) hx hb hfX0 (fun _ h9 => h9) hown hK hP 0 rfl rfl 2 (by decide) lk0 (fun _ h9 => h9) rfl dX0_isFull_1 ?_
  refine lv_bipush (v := 8) (pc := 4) hx hb dX0_isFull_4 (by decide) ?_
  refine lv_icmp_lt (tgt := 13) (pc := 6) hx hb dX0_isFull_6 (by decide) (fun c6 => ?_) (fun c6 => ?_)
  · replace h := it_t c6 h
    refine lv_iconst (v := 0) (pc := 13) hx hb dX0_isFull_13 (by decide) ?_
    have kr := KR (0 : Int32)  _ _ 14 ls h rfl hP hD hS dX0_isFull_14
    exact kr
  · replace h := it_f c6 h
    refine lv_iconst (v := 1) (pc := 9) hx hb dX0_isFull_9 (by decide) ?_
    refine lv_goto (tgt := 14) (pc := 10) hx hb dX0_isFull_10 (by decide) ?_
    have kr := KR (1 : Int32)  _ _ 14 ls h rfl hP hD hS dX0_isFull_14
    exact kr
