abbrev rmX0_become : Room := { frames := 1, cells := 0, slots := 0, locals := 40 }
set_option maxRecDepth 100000 in
set_option maxHeartbeats 40000000 in
theorem cX0_become_met (l : Launch) (D : va_G) (c : Nat → ClassId) (tb : Nat) (sa sv : Nat → Nat) (a0 : Nat → Nat) (a1 : Nat → Nat) (s0 : Mem) (s1 : Mem) (z0 : Mem) (h : fX0_become s0 s1 = some z0) : gM l yX0_become wsX0_become rmX0_become D (gY c) (xE tb sa sv) [.ref (a0 0), .ref (a1 0)] (wX0 a0 c s0 ++ wX0 a1 c s1) none (wX0 a0 c z0 ++ wX0 a1 c s1) := by
  unfold fX0_become at h
  refine gM.V (cc := cX0_become) (maxL := 2) (by decide) rfl (Nat.le_of_ble_eq_true rfl) ?_
  intro p e s m args below meth cd hx hb hml hown hts A hA ls hl hP hK hD hS hE Q KR0
  have hfX0 : ∀ w ∈ u_ws RX0 TX0 3, w.before args s = true := fun w hw => hts w (List.mem_cons_of_mem _ (List.mem_append_right _ hw))
  have lk0 := hts (.fieldLink RX0 9 "GlitchNets$Cover" "cares" "[I") (List.mem_of_getElem? (i := 1) rfl)
  have lk1 := hts (.methodLink RX0 28 arraycopyName) (List.mem_of_getElem? (i := 2) rfl)
  have lk2 := hts (.native arraycopyName) (List.mem_of_getElem? (i := 3) rfl)
  have lk3 := hts (.static arraycopyName) (List.mem_of_getElem? (i := 4) rfl)
  have lk4 := hts (.initialized "java/lang/System") (List.mem_of_getElem? (i := 5) rfl)
  have lk5 := hts (.fieldLink RX0 13 "GlitchNets$Cover" "wants" "[I") (List.mem_of_getElem? (i := 6) rfl)
  have lk6 := hts (.fieldLink RX0 16 "GlitchNets$Cover" "size" "I") (List.mem_of_getElem? (i := 7) rfl)
  have KR : ∀ (w0 : Mem) (H : Heap) (locs : List Loc) (pc : Nat) (ls : Array Slot), some w0 = some z0 → va_P D vwCl (wX0 a0 c w0 ++ wX0 a1 c s1) H → va_D A (wX0 a0 c w0 ++ wX0 a1 c s1) → va_S A s.heap H locs → decode cX0_become pc = .ok (.return_, 1) → W p l e rmX0_become s m args below meth cd H locs 0 0 Q (F0 m pc ls []) := by
    intro w0 H locs pc ls hr hP hD hS hd
    cases hr
    exact KR0 H locs pc ls hP hD hS hd
  have hl : lv_has ls 2 [(0, .ref (a0 0)), (1, .ref (a1 0))] := hl
  refine lv_aload_n (pc := 0) hx hb dX0_become_0 rfl (lv_at hl 1 rfl) ?_
  refine va_get (D := D) (ci := 0) (v := .ref (a1 1)) (C := RX0) (T := TX0) (N := 3) (pc := 1) hx hb hfX0 (fun _ h9 => h9) hown hK hP 3 rfl rfl 0 (by decide) lk0 (fun _ h9 => h9) rfl dX0_become_1 ?_
  refine lv_iconst (v := 0) (pc := 4) hx hb dX0_become_4 (by decide) ?_
  refine lv_aload_n (pc := 5) hx hb dX0_become_5 rfl (lv_at hl 0 rfl) ?_
  refine va_get (D := D) (ci := 0) (v := .ref (a0 1)) (C := RX0) (T := TX0) (N := 3) (pc := 6) hx hb hfX0 (fun _ h9 => h9) hown hK hP 0 rfl rfl 0 (by decide) lk0 (fun _ h9 => h9) rfl dX0_become_6 ?_
  refine lv_iconst (v := 0) (pc := 9) hx hb dX0_become_9 (by decide) ?_
  refine lv_bipush (v := 8) (pc := 10) hx hb dX0_become_10 (by decide) ?_
  obtain ⟨hk12, h⟩ := ckP_i h
  obtain ⟨z1, z2, z3, z4, z5⟩ := of_decide_eq_true hk12
  refine va_copyi (f := (s1.1 0)) (g := (s0.1 0)) (ty := .int) (pc := 12) hx hb (by rw [hml]; exact hl.1.symm) hown lk1 lk2 lk3 lk4 hK hP hD hS 4 1 0 0 rfl rfl rfl rfl rfl z1 z2 z3 z4 z5 (fun _ _ => rfl) (Nat.le_of_ble_eq_true rfl) (Nat.le_of_ble_eq_true (by decide +kernel)) dX0_become_12 (fun H locs hP hD hS => ?_)
  have hP : va_P D vwCl (wX0 a0 c (mr s0 0 (va_cpy (s1.1 0) (s0.1 0) ((0 : Int32)).toNatClampNeg ((0 : Int32)).toNatClampNeg ((8 : Int32)).toNatClampNeg)) ++ wX0 a1 c s1) H := hP
  have hD : va_D A (wX0 a0 c (mr s0 0 (va_cpy (s1.1 0) (s0.1 0) ((0 : Int32)).toNatClampNeg ((0 : Int32)).toNatClampNeg ((8 : Int32)).toNatClampNeg)) ++ wX0 a1 c s1) := hD
  refine lv_aload_n (pc := 15) hx hb dX0_become_15 rfl (lv_at hl 1 rfl) ?_
  refine va_get (D := D) (ci := 0) (v := .ref (a1 2)) (C := RX0) (T := TX0) (N := 3) (pc := 16) hx hb hfX0 (fun _ h9 => h9) hown hK hP 3 rfl rfl 1 (by decide) lk5 (fun _ h9 => h9) rfl dX0_become_16 ?_
  refine lv_iconst (v := 0) (pc := 19) hx hb dX0_become_19 (by decide) ?_
  refine lv_aload_n (pc := 20) hx hb dX0_become_20 rfl (lv_at hl 0 rfl) ?_
  refine va_get (D := D) (ci := 0) (v := .ref (a0 2)) (C := RX0) (T := TX0) (N := 3) (pc := 21) hx hb hfX0 (fun _ h9 => h9) hown hK hP 0 rfl rfl 1 (by decide) lk5 (fun _ h9 => h9) rfl dX0_become_21 ?_
  refine lv_iconst (v := 0) (pc := 24) hx hb dX0_become_24 (by decide) ?_
  refine lv_bipush (v := 8) (pc := 25) hx hb dX0_become_25 (by decide) ?_
  obtain ⟨hk27, h⟩ := ckP_i h
  obtain ⟨z1, z2, z3, z4, z5⟩ := of_decide_eq_true hk27
  refine va_copyi (f := (s1.1 1)) (g := ((mr s0 0 (va_cpy (s1.1 0) (s0.1 0) ((0 : Int32)).toNatClampNeg ((0 : Int32)).toNatClampNeg ((8 : Int32)).toNatClampNeg)).1 1)) (ty := .int) (pc := 27) hx hb (by rw [hml]; exact hl.1.symm) hown lk1 lk2 lk3 lk4 hK hP hD hS 5 2 0 0 rfl rfl rfl rfl rfl z1 z2 z3 z4 z5 (fun _ _ => rfl) (Nat.le_of_ble_eq_true rfl) (Nat.le_of_ble_eq_true (by decide +kernel)) dX0_become_27 (fun H locs hP hD hS => ?_)
  obtain ⟨m0_27, em0_27, h⟩ := lt_i h
  have hP : va_P D vwCl (wX0 a0 c m0_27 ++ wX0 a1 c s1) H := by rw [em0_27]; exact hP
  have hD : va_D A (wX0 a0 c m0_27 ++ wX0 a1 c s1) := by rw [em0_27]; exact hD
  refine lv_aload_n (pc := 30) hx hb dX0_become_30 rfl (lv_at hl 0 rfl) ?_
  refine lv_aload_n (pc := 31) hx hb dX0_become_31 rfl (lv_at hl 1 rfl) ?_
  refine va_get (D := D) (ci := 0) (v := .int (s1.1 2 0)) (C := RX0) (T := TX0) (N := 3) (pc := 32) hx hb hfX0 (fun _ h9 => h9) hown hK hP 3 rfl rfl 2 (by decide) lk6 (fun _ h9 => h9) rfl dX0_become_32 ?_
  refine va_put (D := D) (ci := 0) (v := .int (s1.1 2 0)) (ty := .int) (C := RX0) (T := TX0) (N := 3) (pc := 35) hx hb hfX0 (fun _ h9 => h9) tyX0 tyX0_ok nmX0 hown hK hP hD hS 0 rfl rfl 2 (by decide) lk6 (fun _ h9 => h9) rfl (by decide +kernel) rfl rfl (Nat.le_of_ble_eq_true rfl) dX0_become_35 (fun H locs hP hD hS => ?_)
  have hP : va_P D vwCl (wX0 a0 c (mi m0_27 2 0 (s1.1 2 0)) ++ wX0 a1 c s1) H := hP
  have hD : va_D A (wX0 a0 c (mi m0_27 2 0 (s1.1 2 0)) ++ wX0 a1 c s1) := hD
  have kr := KR (mi m0_27 2 0 (s1.1 2 0)) _ _ 38 ls h hP hD hS dX0_become_38
  exact kr
abbrev rmX8_image : Room := { frames := 2, cells := 0, slots := 0, locals := 61 }
set_option maxRecDepth 100000 in
set_option maxHeartbeats 40000000 in
theorem cX8_image_met (l : Launch) (D : va_G) (c : Nat → ClassId) (tb : Nat) (sa sv : Nat → Nat) (a : Nat → Nat → Nat) (X : XS) (r0 : Int32) (z0 : XS) (h : fX8_image X = some (r0, z0)) : gM l yX8_image wsX8_image rmX8_image D (gY c) (xE tb sa sv) [.ref (a 0 0)] (wX a c X) (some (.int r0)) (wX a c z0) := by
  unfold fX8_image at h
  refine gM.I (cc := cX8_image) (maxL := 1) (by decide) rfl (Nat.le_of_ble_eq_true rfl) ?_
  intro p e s m args below meth cd hx hb hml hown hts A hA ls hl hP hK hD hS hE Q KR0
  have hfX3 : ∀ w ∈ u_ws RX3 TX3 7, w.before args s = true := fun w hw => hts w (List.mem_cons_of_mem _ (List.mem_append_left _ (List.mem_append_right _ hw)))
  have hfX8 : ∀ w ∈ u_ws RX8 TX8 12, w.before args s = true := fun w hw => hts w (List.mem_cons_of_mem _ (List.mem_append_left _ (List.mem_append_left _ (List.mem_append_right _ hw))))
  have lk0 := hts (.fieldLink RX8 61 "GlitchNets" "keptNet" "LGlitchNets$Net;") (List.mem_of_getElem? (i := 1) rfl)
  have lk1 := hts (.fieldLink RX8 26 "GlitchNets" "net" "LGlitchNets$Net;") (List.mem_of_getElem? (i := 2) rfl)
  have lk2 := hts (.fieldLink RX8 64 "GlitchNets" "keptCover" "LGlitchNets$Cover;") (List.mem_of_getElem? (i := 3) rfl)
  have lk3 := hts (.fieldLink RX8 43 "GlitchNets" "cover" "LGlitchNets$Cover;") (List.mem_of_getElem? (i := 4) rfl)
  have lk4 := hts (.fieldLink RX8 296 "GlitchNets" "imageKept" "Z") (List.mem_of_getElem? (i := 5) rfl)
  have lk5 := hts (.fieldLink RX8 94 "GlitchNets$Net" "size" "I") (List.mem_of_getElem? (i := 6) rfl)
  have hP := XP_iff.mp hP
  have hD := XD_of hD
  have KR : ∀ (v : Int32) (w0 : XS) (H : Heap) (locs : List Loc) (pc : Nat) (ls : Array Slot), some (v, w0) = some (r0, z0) → narrow .int (.int v) = .int v → XP D a c w0 H → va_S A s.heap H locs → decode cX8_image pc = .ok (.ireturn, 1) → W p l e rmX8_image s m args below meth cd H locs 0 0 Q (F0 m pc ls [.int v]) := by
    intro v w0 H locs pc ls hr hn hP hS hd
    cases hr
    exact KR0 _ H locs pc ls rfl hn (XP_iff.mpr hP) (hD.all c _) hS hd
  have hl : lv_has ls 1 [(0, .ref (a 0 0))] := hl
  refine lv_aload_n (pc := 0) hx hb dX8_image_0 rfl (lv_at hl 0 rfl) ?_
  refine va_get (D := D) (ci := 8) (v := .ref ((a 9) 0)) (C := RX8) (T := TX8) (N := 12) (pc := 1) hx hb hfX8 (fun _ h9 => h9) hown hK (show va_P D vwCl (wX8 a c (X 0)) _ from hP 0 (by decide)) 0 rfl rfl 8 (by decide) lk0 (fun _ h9 => h9) rfl dX8_image_1 ?_
  refine lv_aload_n (pc := 4) hx hb dX8_image_4 rfl (lv_at hl 0 rfl) ?_
  refine va_get (D := D) (ci := 8) (v := .ref ((a 3) 0)) (C := RX8) (T := TX8) (N := 12) (pc := 5) hx hb hfX8 (fun _ h9 => h9) hown hK (show va_P D vwCl (wX8 a c (X 0)) _ from hP 0 (by decide)) 0 rfl rfl 2 (by decide) lk1 (fun _ h9 => h9) rfl dX8_image_5 ?_
  obtain ⟨t0_8, hc8, h⟩ := b1_i h
  have hw : (wX3 (a 9) c (X 9) ++ wX3 (a 3) c (X 3)).map (·.1) = [9, 3].flatMap (uA a) := rfl
  have hPc : va_P D vwCl (wX3 (a 9) c (X 9) ++ wX3 (a 3) c (X 3)) _ := (hP 9 (by decide)).app (hP 3 (by decide))
  have hDc : va_D A (wX3 (a 9) c (X 9) ++ wX3 (a 3) c (X 3)) := hD.of_addr (by decide) (by decide) hw
  refine g_X (X' := (xs X 9 t0_8)) (st1 := []) (gr_V (n := 1) (rest := []) (pc := 8) hx hb hml hown hts (cX3_become_met l D c tb sa sv (a 9) (a 3) (X 9) (X 3) _ hc8) gX8_image_X3_become rfl rfl rfl (by decide +kernel) rfl ⟨Nat.le_of_ble_eq_true rfl, Nat.le_of_ble_eq_true rfl⟩ ⟨Nat.zero_le _, Nat.zero_le _⟩ 0 3 rfl rfl rfl xE_ok hPc hDc hK (xE_ok.tr hE hS (g_freeX hD hS hA (by decide) (addr0 hw))) hl.1 (Nat.le_of_ble_eq_true rfl) dX8_image_8 rfl) hP hD hS hA (ks := [9, 3]) (by decide) (addr0 hw) (fun k9 _ hk9 => (xs_o hk9 (j := 9) (by decide))) (fun H1 hw1 => (List.forall_mem_cons.mpr ⟨(vP_l hw1), (List.forall_mem_cons.mpr ⟨(vP_r hw1), (fun _ h9 => absurd h9 List.not_mem_nil)⟩)⟩)) rfl (fun H locs hP hS => ?_)
  refine lv_aload_n (pc := 11) hx hb dX8_image_11 rfl (lv_at hl 0 rfl) ?_
  refine va_get (D := D) (ci := 8) (v := .ref ((a 10) 0)) (C := RX8) (T := TX8) (N := 12) (pc := 12) hx hb hfX8 (fun _ h9 => h9) hown hK (show va_P D vwCl (wX8 a c ((xs X 9 t0_8) 0)) _ from hP 0 (by decide)) 0 rfl rfl 9 (by decide) lk2 (fun _ h9 => h9) rfl dX8_image_12 ?_
  refine lv_aload_n (pc := 15) hx hb dX8_image_15 rfl (lv_at hl 0 rfl) ?_
  refine va_get (D := D) (ci := 8) (v := .ref ((a 6) 0)) (C := RX8) (T := TX8) (N := 12) (pc := 16) hx hb hfX8 (fun _ h9 => h9) hown hK (show va_P D vwCl (wX8 a c ((xs X 9 t0_8) 0)) _ from hP 0 (by decide)) 0 rfl rfl 5 (by decide) lk3 (fun _ h9 => h9) rfl dX8_image_16 ?_
  obtain ⟨t0_19, hc19, h⟩ := b1_i h
  have hw : (wX0 (a 10) c ((xs X 9 t0_8) 10) ++ wX0 (a 6) c ((xs X 9 t0_8) 6)).map (·.1) = [10, 6].flatMap (uA a) := rfl
  have hPc : va_P D vwCl (wX0 (a 10) c ((xs X 9 t0_8) 10) ++ wX0 (a 6) c ((xs X 9 t0_8) 6)) _ := (hP 10 (by decide)).app (hP 6 (by decide))
  have hDc : va_D A (wX0 (a 10) c ((xs X 9 t0_8) 10) ++ wX0 (a 6) c ((xs X 9 t0_8) 6)) := hD.of_addr (by decide) (by decide) hw
  refine g_X (X' := (xs (xs X 9 t0_8) 10 t0_19)) (st1 := []) (gr_V (n := 1) (rest := []) (pc := 19) hx hb hml hown hts (cX0_become_met l D c tb sa sv (a 10) (a 6) ((xs X 9 t0_8) 10) ((xs X 9 t0_8) 6) _ hc19) gX8_image_X0_become rfl rfl rfl (by decide +kernel) rfl ⟨Nat.le_of_ble_eq_true rfl, Nat.le_of_ble_eq_true rfl⟩ ⟨Nat.zero_le _, Nat.zero_le _⟩ 0 0 rfl rfl rfl xE_ok hPc hDc hK (xE_ok.tr hE hS (g_freeX hD hS hA (by decide) (addr0 hw))) hl.1 (Nat.le_of_ble_eq_true rfl) dX8_image_19 rfl) hP hD hS hA (ks := [10, 6]) (by decide) (addr0 hw) (fun k9 _ hk9 => (xs_o hk9 (j := 10) (by decide))) (fun H1 hw1 => (List.forall_mem_cons.mpr ⟨(vP_l hw1), (List.forall_mem_cons.mpr ⟨(vP_r hw1), (fun _ h9 => absurd h9 List.not_mem_nil)⟩)⟩)) rfl (fun H locs hP hS => ?_)
  refine lv_aload_n (pc := 22) hx hb dX8_image_22 rfl (lv_at hl 0 rfl) ?_
  refine lv_iconst (v := 1) (pc := 23) hx hb dX8_image_23 (by decide) ?_
  have hP1 := hP.one 0 (by decide)
  have hD1 := hD.one c (xs (xs X 9 t0_8) 10 t0_19) 0 (by decide) ((xs (xs X 9 t0_8) 10 t0_19) 0)
  refine va_put (D := D) (ci := 8) (v := .int (1 : Int32)) (ty := .boolean) (C := RX8) (T := TX8) (N := 12) (pc := 24) hx hb hfX8 (fun _ h9 => h9) tyX8 tyX8_ok nmX8 hown hK hP1 hD1 hS 0 rfl rfl 10 (by decide) lk4 (fun _ h9 => h9) rfl (by decide +kernel) rfl rfl (Nat.le_of_ble_eq_true rfl) dX8_image_24 (fun H locs hP _ hS => ?_)
  have hP : XP D a c (xs (xs (xs X 9 t0_8) 10 t0_19) 0 (mi ((xs (xs X 9 t0_8) 10 t0_19) 0) 10 0 (1 : Int32))) H := XP.back (X := (xs (xs X 9 t0_8) 10 t0_19)) (k := 0) (σ := (mi ((xs (xs X 9 t0_8) 10 t0_19) 0) 10 0 (1 : Int32))) hP
  refine lv_aload_n (pc := 27) hx hb dX8_image_27 rfl (lv_at hl 0 rfl) ?_
  refine va_get (D := D) (ci := 8) (v := .ref ((a 3) 0)) (C := RX8) (T := TX8) (N := 12) (pc := 28) hx hb hfX8 (fun _ h9 => h9) hown hK (show va_P D vwCl (wX8 a c ((xs (xs (xs X 9 t0_8) 10 t0_19) 0 (mi ((xs (xs X 9 t0_8) 10 t0_19) 0) 10 0 (1 : Int32))) 0)) _ from hP 0 (by decide)) 0 rfl rfl 2 (by decide) lk1 (fun _ h9 => h9) rfl dX8_image_28 ?_
  refine va_get (D := D) (ci := 3) (v := .int (((xs (xs (xs X 9 t0_8) 10 t0_19) 0 (mi ((xs (xs X 9 t0_8) 10 t0_19) 0) 10 0 (1 : Int32))) 3).1 4 0)) (C := RX3) (T := TX3) (N := 7) (pc := 31) hx hb hfX3 (fun _ h9 => h9) hown hK (show va_P D vwCl (wX3 (a 3) c ((xs (xs (xs X 9 t0_8) 10 t0_19) 0 (mi ((xs (xs X 9 t0_8) 10 t0_19) 0) 10 0 (1 : Int32))) 3)) _ from hP 3 (by decide)) 0 rfl rfl 4 (by decide) lk5 (fun _ h9 => h9) rfl dX8_image_31 ?_
  have kr := KR (((xs (xs (xs X 9 t0_8) 10 t0_19) 0 (mi ((xs (xs X 9 t0_8) 10 t0_19) 0) 10 0 (1 : Int32))) 3).1 4 0) (xs (xs (xs X 9 t0_8) 10 t0_19) 0 (mi ((xs (xs X 9 t0_8) 10 t0_19) 0) 10 0 (1 : Int32))) _ _ 34 ls h rfl hP hS dX8_image_34
  exact kr
abbrev rmX8_back : Room := { frames := 2, cells := 0, slots := 0, locals := 61 }
set_option maxRecDepth 100000 in
set_option maxHeartbeats 40000000 in
theorem cX8_back_met (l : Launch) (D : va_G) (c : Nat → ClassId) (tb : Nat) (sa sv : Nat → Nat) (a : Nat → Nat → Nat) (X : XS) (r0 : Int32) (z0 : XS) (h : fX8_back X = some (r0, z0)) : gM l yX8_back wsX8_back rmX8_back D (gY c) (xE tb sa sv) [.ref (a 0 0)] (wX a c X) (some (.int r0)) (wX a c z0) := by
  unfold fX8_back at h
  refine gM.I (cc := cX8_back) (maxL := 1) (by decide) rfl (Nat.le_of_ble_eq_true rfl) ?_
  intro p e s m args below meth cd hx hb hml hown hts A hA ls hl hP hK hD hS hE Q KR0
  have hfX1 : ∀ w ∈ u_ws RX1 TX1 5, w.before args s = true := fun w hw => hts w (List.mem_cons_of_mem _ (List.mem_append_left _ (List.mem_append_left _ (List.mem_append_right _ hw))))
  have hfX3 : ∀ w ∈ u_ws RX3 TX3 7, w.before args s = true := fun w hw => hts w (List.mem_cons_of_mem _ (List.mem_append_left _ (List.mem_append_right _ hw)))
  have hfX8 : ∀ w ∈ u_ws RX8 TX8 12, w.before args s = true := fun w hw => hts w (List.mem_cons_of_mem _ (List.mem_append_left _ (List.mem_append_left _ (List.mem_append_left _ (List.mem_append_right _ hw)))))
  have lk0 := hts (.fieldLink RX8 296 "GlitchNets" "imageKept" "Z") (List.mem_of_getElem? (i := 1) rfl)
  have lk1 := hts (.fieldLink RX8 26 "GlitchNets" "net" "LGlitchNets$Net;") (List.mem_of_getElem? (i := 2) rfl)
  have lk2 := hts (.fieldLink RX8 61 "GlitchNets" "keptNet" "LGlitchNets$Net;") (List.mem_of_getElem? (i := 3) rfl)
  have lk3 := hts (.fieldLink RX8 43 "GlitchNets" "cover" "LGlitchNets$Cover;") (List.mem_of_getElem? (i := 4) rfl)
  have lk4 := hts (.fieldLink RX8 64 "GlitchNets" "keptCover" "LGlitchNets$Cover;") (List.mem_of_getElem? (i := 5) rfl)
  have lk5 := hts (.fieldLink RX8 57 "GlitchNets" "deeds" "LGlitchNets$Deeds;") (List.mem_of_getElem? (i := 6) rfl)
  have lk6 := hts (.fieldLink RX8 137 "GlitchNets$Deeds" "size" "I") (List.mem_of_getElem? (i := 7) rfl)
  have lk7 := hts (.fieldLink RX8 94 "GlitchNets$Net" "size" "I") (List.mem_of_getElem? (i := 8) rfl)
  have hP := XP_iff.mp hP
  have hD := XD_of hD
  have KR : ∀ (v : Int32) (w0 : XS) (H : Heap) (locs : List Loc) (pc : Nat) (ls : Array Slot), some (v, w0) = some (r0, z0) → narrow .int (.int v) = .int v → XP D a c w0 H → va_S A s.heap H locs → decode cX8_back pc = .ok (.ireturn, 1) → W p l e rmX8_back s m args below meth cd H locs 0 0 Q (F0 m pc ls [.int v]) := by
    intro v w0 H locs pc ls hr hn hP hS hd
    cases hr
    exact KR0 _ H locs pc ls rfl hn (XP_iff.mpr hP) (hD.all c _) hS hd
  have hl : lv_has ls 1 [(0, .ref (a 0 0))] := hl
  refine lv_aload_n (pc := 0) hx hb dX8_back_0 rfl (lv_at hl 0 rfl) ?_
  refine va_get (D := D) (ci := 8) (v := .int ((X 0).1 10 0)) (C := RX8) (T := TX8) (N := 12) (pc := 1) hx hb hfX8 (fun _ h9 => h9) hown hK (show va_P D vwCl (wX8 a c (X 0)) _ from hP 0 (by decide)) 0 rfl rfl 10 (by decide) lk0 (fun _ h9 => h9) rfl dX8_back_1 ?_
  refine lv_if_ne (tgt := 10) (pc := 4) hx hb dX8_back_4 (by decide) (fun c4 => ?_) (fun c4 => ?_)
  · replace h := it_f c4 h
    refine lv_aload_n (pc := 10) hx hb dX8_back_10 rfl (lv_at hl 0 rfl) ?_
    refine va_get (D := D) (ci := 8) (v := .ref ((a 3) 0)) (C := RX8) (T := TX8) (N := 12) (pc := 11) hx hb hfX8 (fun _ h9 => h9) hown hK (show va_P D vwCl (wX8 a c (X 0)) _ from hP 0 (by decide)) 0 rfl rfl 2 (by decide) lk1 (fun _ h9 => h9) rfl dX8_back_11 ?_
    refine lv_aload_n (pc := 14) hx hb dX8_back_14 rfl (lv_at hl 0 rfl) ?_
    refine va_get (D := D) (ci := 8) (v := .ref ((a 9) 0)) (C := RX8) (T := TX8) (N := 12) (pc := 15) hx hb hfX8 (fun _ h9 => h9) hown hK (show va_P D vwCl (wX8 a c (X 0)) _ from hP 0 (by decide)) 0 rfl rfl 8 (by decide) lk2 (fun _ h9 => h9) rfl dX8_back_15 ?_
    obtain ⟨t0_18, hc18, h⟩ := b1_i h
    have hw : (wX3 (a 3) c (X 3) ++ wX3 (a 9) c (X 9)).map (·.1) = [3, 9].flatMap (uA a) := rfl
    have hPc : va_P D vwCl (wX3 (a 3) c (X 3) ++ wX3 (a 9) c (X 9)) _ := (hP 3 (by decide)).app (hP 9 (by decide))
    have hDc : va_D A (wX3 (a 3) c (X 3) ++ wX3 (a 9) c (X 9)) := hD.of_addr (by decide) (by decide) hw
    refine g_X (X' := (xs X 3 t0_18)) (st1 := []) (gr_V (n := 1) (rest := []) (pc := 18) hx hb hml hown hts (cX3_become_met l D c tb sa sv (a 3) (a 9) (X 3) (X 9) _ hc18) gX8_back_X3_become rfl rfl rfl (by decide +kernel) rfl ⟨Nat.le_of_ble_eq_true rfl, Nat.le_of_ble_eq_true rfl⟩ ⟨Nat.zero_le _, Nat.zero_le _⟩ 0 3 rfl rfl rfl xE_ok hPc hDc hK (xE_ok.tr hE hS (g_freeX hD hS hA (by decide) (addr0 hw))) hl.1 (Nat.le_of_ble_eq_true rfl) dX8_back_18 rfl) hP hD hS hA (ks := [3, 9]) (by decide) (addr0 hw) (fun k9 _ hk9 => (xs_o hk9 (j := 3) (by decide))) (fun H1 hw1 => (List.forall_mem_cons.mpr ⟨(vP_l hw1), (List.forall_mem_cons.mpr ⟨(vP_r hw1), (fun _ h9 => absurd h9 List.not_mem_nil)⟩)⟩)) rfl (fun H locs hP hS => ?_)
    refine lv_aload_n (pc := 21) hx hb dX8_back_21 rfl (lv_at hl 0 rfl) ?_
    refine va_get (D := D) (ci := 8) (v := .ref ((a 6) 0)) (C := RX8) (T := TX8) (N := 12) (pc := 22) hx hb hfX8 (fun _ h9 => h9) hown hK (show va_P D vwCl (wX8 a c ((xs X 3 t0_18) 0)) _ from hP 0 (by decide)) 0 rfl rfl 5 (by decide) lk3 (fun _ h9 => h9) rfl dX8_back_22 ?_
    refine lv_aload_n (pc := 25) hx hb dX8_back_25 rfl (lv_at hl 0 rfl) ?_
    refine va_get (D := D) (ci := 8) (v := .ref ((a 10) 0)) (C := RX8) (T := TX8) (N := 12) (pc := 26) hx hb hfX8 (fun _ h9 => h9) hown hK (show va_P D vwCl (wX8 a c ((xs X 3 t0_18) 0)) _ from hP 0 (by decide)) 0 rfl rfl 9 (by decide) lk4 (fun _ h9 => h9) rfl dX8_back_26 ?_
    obtain ⟨t0_29, hc29, h⟩ := b1_i h
    have hw : (wX0 (a 6) c ((xs X 3 t0_18) 6) ++ wX0 (a 10) c ((xs X 3 t0_18) 10)).map (·.1) = [6, 10].flatMap (uA a) := rfl
    have hPc : va_P D vwCl (wX0 (a 6) c ((xs X 3 t0_18) 6) ++ wX0 (a 10) c ((xs X 3 t0_18) 10)) _ := (hP 6 (by decide)).app (hP 10 (by decide))
    have hDc : va_D A (wX0 (a 6) c ((xs X 3 t0_18) 6) ++ wX0 (a 10) c ((xs X 3 t0_18) 10)) := hD.of_addr (by decide) (by decide) hw
    refine g_X (X' := (xs (xs X 3 t0_18) 6 t0_29)) (st1 := []) (gr_V (n := 1) (rest := []) (pc := 29) hx hb hml hown hts (cX0_become_met l D c tb sa sv (a 6) (a 10) ((xs X 3 t0_18) 6) ((xs X 3 t0_18) 10) _ hc29) gX8_back_X0_become rfl rfl rfl (by decide +kernel) rfl ⟨Nat.le_of_ble_eq_true rfl, Nat.le_of_ble_eq_true rfl⟩ ⟨Nat.zero_le _, Nat.zero_le _⟩ 0 0 rfl rfl rfl xE_ok hPc hDc hK (xE_ok.tr hE hS (g_freeX hD hS hA (by decide) (addr0 hw))) hl.1 (Nat.le_of_ble_eq_true rfl) dX8_back_29 rfl) hP hD hS hA (ks := [6, 10]) (by decide) (addr0 hw) (fun k9 _ hk9 => (xs_o hk9 (j := 6) (by decide))) (fun H1 hw1 => (List.forall_mem_cons.mpr ⟨(vP_l hw1), (List.forall_mem_cons.mpr ⟨(vP_r hw1), (fun _ h9 => absurd h9 List.not_mem_nil)⟩)⟩)) rfl (fun H locs hP hS => ?_)
    refine lv_aload_n (pc := 32) hx hb dX8_back_32 rfl (lv_at hl 0 rfl) ?_
    refine va_get (D := D) (ci := 8) (v := .ref ((a 8) 0)) (C := RX8) (T := TX8) (N := 12) (pc := 33) hx hb hfX8 (fun _ h9 => h9) hown hK (show va_P D vwCl (wX8 a c ((xs (xs X 3 t0_18) 6 t0_29) 0)) _ from hP 0 (by decide)) 0 rfl rfl 7 (by decide) lk5 (fun _ h9 => h9) rfl dX8_back_33 ?_
    refine lv_iconst (v := 0) (pc := 36) hx hb dX8_back_36 (by decide) ?_
    have hP1 := hP.one 8 (by decide)
    have hD1 := hD.one c (xs (xs X 3 t0_18) 6 t0_29) 8 (by decide) ((xs (xs X 3 t0_18) 6 t0_29) 8)
    refine va_put (D := D) (ci := 1) (v := .int (0 : Int32)) (ty := .int) (C := RX1) (T := TX1) (N := 5) (pc := 37) hx hb hfX1 (fun _ h9 => h9) tyX1 tyX1_ok nmX1 hown hK hP1 hD1 hS 0 rfl rfl 4 (by decide) lk6 (fun _ h9 => h9) rfl (by decide +kernel) rfl rfl (Nat.le_of_ble_eq_true rfl) dX8_back_37 (fun H locs hP _ hS => ?_)
    have hP : XP D a c (xs (xs (xs X 3 t0_18) 6 t0_29) 8 (mi ((xs (xs X 3 t0_18) 6 t0_29) 8) 4 0 (0 : Int32))) H := XP.back (X := (xs (xs X 3 t0_18) 6 t0_29)) (k := 8) (σ := (mi ((xs (xs X 3 t0_18) 6 t0_29) 8) 4 0 (0 : Int32))) hP
    refine lv_aload_n (pc := 40) hx hb dX8_back_40 rfl (lv_at hl 0 rfl) ?_
    refine va_get (D := D) (ci := 8) (v := .ref ((a 3) 0)) (C := RX8) (T := TX8) (N := 12) (pc := 41) hx hb hfX8 (fun _ h9 => h9) hown hK (show va_P D vwCl (wX8 a c ((xs (xs (xs X 3 t0_18) 6 t0_29) 8 (mi ((xs (xs X 3 t0_18) 6 t0_29) 8) 4 0 (0 : Int32))) 0)) _ from hP 0 (by decide)) 0 rfl rfl 2 (by decide) lk1 (fun _ h9 => h9) rfl dX8_back_41 ?_
    refine va_get (D := D) (ci := 3) (v := .int (((xs (xs (xs X 3 t0_18) 6 t0_29) 8 (mi ((xs (xs X 3 t0_18) 6 t0_29) 8) 4 0 (0 : Int32))) 3).1 4 0)) (C := RX3) (T := TX3) (N := 7) (pc := 44) hx hb hfX3 (fun _ h9 => h9) hown hK (show va_P D vwCl (wX3 (a 3) c ((xs (xs (xs X 3 t0_18) 6 t0_29) 8 (mi ((xs (xs X 3 t0_18) 6 t0_29) 8) 4 0 (0 : Int32))) 3)) _ from hP 3 (by decide)) 0 rfl rfl 4 (by decide) lk7 (fun _ h9 => h9) rfl dX8_back_44 ?_
    have kr := KR (((xs (xs (xs X 3 t0_18) 6 t0_29) 8 (mi ((xs (xs X 3 t0_18) 6 t0_29) 8) 4 0 (0 : Int32))) 3).1 4 0) (xs (xs (xs X 3 t0_18) 6 t0_29) 8 (mi ((xs (xs X 3 t0_18) 6 t0_29) 8) 4 0 (0 : Int32))) _ _ 47 ls h rfl hP hS dX8_back_47
    exact kr
  · replace h := it_t c4 h
    refine lv_bipush (v := -3) (pc := 7) hx hb dX8_back_7 (by decide) ?_
    have kr := KR (-3 : Int32) X _ _ 9 ls h rfl hP hS dX8_back_9
    exact kr
abbrev rmX8_count : Room := { frames := 0, cells := 0, slots := 0, locals := 0 }
set_option maxRecDepth 100000 in
set_option maxHeartbeats 40000000 in
theorem cX8_count_met (l : Launch) (D : va_G) (c : Nat → ClassId) (tb : Nat) (sa sv : Nat → Nat) (a : Nat → Nat → Nat) (p0 : Int32) (X : XS) (r0 : Int32) (h : fX8_count p0 X = some r0) : gM l yX8_count wsX8_count rmX8_count D (gY c) (xE tb sa sv) [.ref (a 0 0), .int p0] (wX a c X) (some (.int r0)) (wX a c X) := by
  unfold fX8_count at h
  refine gM.I (cc := cX8_count) (maxL := 2) (by decide) rfl (Nat.le_of_ble_eq_true rfl) ?_
  intro p e s m args below meth cd hx hb hml hown hts A hA ls hl hP hK hD hS hE Q KR0
  have hfX0 : ∀ w ∈ u_ws RX0 TX0 3, w.before args s = true := fun w hw => hts w (List.mem_cons_of_mem _ (List.mem_append_left _ (List.mem_append_left _ (List.mem_append_right _ hw))))
  have hfX1 : ∀ w ∈ u_ws RX1 TX1 5, w.before args s = true := fun w hw => hts w (List.mem_cons_of_mem _ (List.mem_append_left _ (List.mem_append_right _ hw)))
  have hfX3 : ∀ w ∈ u_ws RX3 TX3 7, w.before args s = true := fun w hw => hts w (List.mem_cons_of_mem _ (List.mem_append_left _ (List.mem_append_left _ (List.mem_append_left _ (List.mem_append_right _ hw)))))
  have hfX6 : ∀ w ∈ u_ws RX6 TX6 2, w.before args s = true := fun w hw => hts w (List.mem_cons_of_mem _ (List.mem_append_right _ hw))
  have hfX8 : ∀ w ∈ u_ws RX8 TX8 12, w.before args s = true := fun w hw => hts w (List.mem_cons_of_mem _ (List.mem_append_left _ (List.mem_append_left _ (List.mem_append_left _ (List.mem_append_left _ (List.mem_append_right _ hw))))))
  have lk0 := hts (.fieldLink RX8 10 "GlitchNets" "tape" "LGlitchNets$Tape;") (List.mem_of_getElem? (i := 7) rfl)
  have lk1 := hts (.fieldLink RX8 90 "GlitchNets$Tape" "size" "I") (List.mem_of_getElem? (i := 8) rfl)
  have lk2 := hts (.fieldLink RX8 57 "GlitchNets" "deeds" "LGlitchNets$Deeds;") (List.mem_of_getElem? (i := 5) rfl)
  have lk3 := hts (.fieldLink RX8 137 "GlitchNets$Deeds" "size" "I") (List.mem_of_getElem? (i := 6) rfl)
  have lk4 := hts (.fieldLink RX8 43 "GlitchNets" "cover" "LGlitchNets$Cover;") (List.mem_of_getElem? (i := 3) rfl)
  have lk5 := hts (.fieldLink RX8 206 "GlitchNets$Cover" "size" "I") (List.mem_of_getElem? (i := 4) rfl)
  have lk6 := hts (.fieldLink RX8 26 "GlitchNets" "net" "LGlitchNets$Net;") (List.mem_of_getElem? (i := 1) rfl)
  have lk7 := hts (.fieldLink RX8 94 "GlitchNets$Net" "size" "I") (List.mem_of_getElem? (i := 2) rfl)
  have hP := XP_iff.mp hP
  have hD := XD_of hD
  have KR : ∀ (v : Int32)  (H : Heap) (locs : List Loc) (pc : Nat) (ls : Array Slot), some v = some r0 → narrow .int (.int v) = .int v → XP D a c X H → va_S A s.heap H locs → decode cX8_count pc = .ok (.ireturn, 1) → W p l e rmX8_count s m args below meth cd H locs 0 0 Q (F0 m pc ls [.int v]) := by
    intro v  H locs pc ls hr hn hP hS hd
    cases hr
    exact KR0 _ H locs pc ls rfl hn (XP_iff.mpr hP) (hD.all c _) hS hd
  have hl : lv_has ls 2 [(0, .ref (a 0 0)), (1, .int p0)] := hl
  refine lv_iload_n (pc := 0) hx hb dX8_count_0 rfl (lv_at hl 1 rfl) ?_
  by_cases c1_0 : p0 = (0 : Int32)
  · replace h := it_t c1_0 h
    refine lv_tableIn (tgt := 32) (off := 31) (pc := 1) hx hb dX8_count_1 (by rw [c1_0]; decide) (by rw [c1_0]; decide) (by rw [c1_0]; rfl) (by decide) ?_
    refine lv_aload_n (pc := 32) hx hb dX8_count_32 rfl (lv_at hl 0 rfl) ?_
    refine va_get (D := D) (ci := 8) (v := .ref ((a 3) 0)) (C := RX8) (T := TX8) (N := 12) (pc := 33) hx hb hfX8 (fun _ h9 => h9) hown hK (show va_P D vwCl (wX8 a c (X 0)) _ from hP 0 (by decide)) 0 rfl rfl 2 (by decide) lk6 (fun _ h9 => h9) rfl dX8_count_33 ?_
    refine va_get (D := D) (ci := 3) (v := .int ((X 3).1 4 0)) (C := RX3) (T := TX3) (N := 7) (pc := 36) hx hb hfX3 (fun _ h9 => h9) hown hK (show va_P D vwCl (wX3 (a 3) c (X 3)) _ from hP 3 (by decide)) 0 rfl rfl 4 (by decide) lk7 (fun _ h9 => h9) rfl dX8_count_36 ?_
    have kr := KR ((X 3).1 4 0)  _ _ 39 ls h rfl hP hS dX8_count_39
    exact kr
  · replace h := it_f c1_0 h
    by_cases c1_1 : p0 = (1 : Int32)
    · replace h := it_t c1_1 h
      refine lv_tableIn (tgt := 40) (off := 39) (pc := 1) hx hb dX8_count_1 (by rw [c1_1]; decide) (by rw [c1_1]; decide) (by rw [c1_1]; rfl) (by decide) ?_
      refine lv_aload_n (pc := 40) hx hb dX8_count_40 rfl (lv_at hl 0 rfl) ?_
      refine va_get (D := D) (ci := 8) (v := .ref ((a 6) 0)) (C := RX8) (T := TX8) (N := 12) (pc := 41) hx hb hfX8 (fun _ h9 => h9) hown hK (show va_P D vwCl (wX8 a c (X 0)) _ from hP 0 (by decide)) 0 rfl rfl 5 (by decide) lk4 (fun _ h9 => h9) rfl dX8_count_41 ?_
      refine va_get (D := D) (ci := 0) (v := .int ((X 6).1 2 0)) (C := RX0) (T := TX0) (N := 3) (pc := 44) hx hb hfX0 (fun _ h9 => h9) hown hK (show va_P D vwCl (wX0 (a 6) c (X 6)) _ from hP 6 (by decide)) 0 rfl rfl 2 (by decide) lk5 (fun _ h9 => h9) rfl dX8_count_44 ?_
      have kr := KR ((X 6).1 2 0)  _ _ 47 ls h rfl hP hS dX8_count_47
      exact kr
    · replace h := it_f c1_1 h
      by_cases c1_2 : p0 = (2 : Int32)
      · replace h := it_t c1_2 h
        refine lv_tableIn (tgt := 48) (off := 47) (pc := 1) hx hb dX8_count_1 (by rw [c1_2]; decide) (by rw [c1_2]; decide) (by rw [c1_2]; rfl) (by decide) ?_
        refine lv_aload_n (pc := 48) hx hb dX8_count_48 rfl (lv_at hl 0 rfl) ?_
        refine va_get (D := D) (ci := 8) (v := .ref ((a 8) 0)) (C := RX8) (T := TX8) (N := 12) (pc := 49) hx hb hfX8 (fun _ h9 => h9) hown hK (show va_P D vwCl (wX8 a c (X 0)) _ from hP 0 (by decide)) 0 rfl rfl 7 (by decide) lk2 (fun _ h9 => h9) rfl dX8_count_49 ?_
        refine va_get (D := D) (ci := 1) (v := .int ((X 8).1 4 0)) (C := RX1) (T := TX1) (N := 5) (pc := 52) hx hb hfX1 (fun _ h9 => h9) hown hK (show va_P D vwCl (wX1 (a 8) c (X 8)) _ from hP 8 (by decide)) 0 rfl rfl 4 (by decide) lk3 (fun _ h9 => h9) rfl dX8_count_52 ?_
        have kr := KR ((X 8).1 4 0)  _ _ 55 ls h rfl hP hS dX8_count_55
        exact kr
      · replace h := it_f c1_2 h
        by_cases c1_3 : p0 = (3 : Int32)
        · replace h := it_t c1_3 h
          refine lv_tableIn (tgt := 56) (off := 55) (pc := 1) hx hb dX8_count_1 (by rw [c1_3]; decide) (by rw [c1_3]; decide) (by rw [c1_3]; rfl) (by decide) ?_
          refine lv_aload_n (pc := 56) hx hb dX8_count_56 rfl (lv_at hl 0 rfl) ?_
          refine va_get (D := D) (ci := 8) (v := .ref ((a 1) 0)) (C := RX8) (T := TX8) (N := 12) (pc := 57) hx hb hfX8 (fun _ h9 => h9) hown hK (show va_P D vwCl (wX8 a c (X 0)) _ from hP 0 (by decide)) 0 rfl rfl 0 (by decide) lk0 (fun _ h9 => h9) rfl dX8_count_57 ?_
          refine va_get (D := D) (ci := 6) (v := .int ((X 1).1 1 0)) (C := RX6) (T := TX6) (N := 2) (pc := 60) hx hb hfX6 (fun _ h9 => h9) hown hK (show va_P D vwCl (wX6 (a 1) c (X 1)) _ from hP 1 (by decide)) 0 rfl rfl 1 (by decide) lk1 (fun _ h9 => h9) rfl dX8_count_60 ?_
          have kr := KR ((X 1).1 1 0)  _ _ 63 ls h rfl hP hS dX8_count_63
          exact kr
        · replace h := it_f c1_3 h
          have hsw : (p0).toInt < 0 ∨ 3 < (p0).toInt := by
            have z0 := lv_neT c1_0 (a := 0) (by decide)
            have z1 := lv_neT c1_1 (a := 1) (by decide)
            have z2 := lv_neT c1_2 (a := 2) (by decide)
            have z3 := lv_neT c1_3 (a := 3) (by decide)
            omega
          refine lv_tableOut (tgt := 64) (pc := 1) hx hb dX8_count_1 hsw (by decide) ?_
          refine lv_bipush (v := -2) (pc := 64) hx hb dX8_count_64 (by decide) ?_
          have kr := KR (-2 : Int32)  _ _ 66 ls h rfl hP hS dX8_count_66
          exact kr
abbrev rmX8_isSort : Room := { frames := 0, cells := 0, slots := 0, locals := 0 }
set_option maxRecDepth 100000 in
set_option maxHeartbeats 40000000 in
theorem cX8_isSort_met (l : Launch) (D : va_G) (c : Nat → ClassId) (tb : Nat) (sa sv : Nat → Nat)  (p0 : Int32) (r0 : Int32) (h : fX8_isSort p0 = some r0) : gM l yX8_isSort wsX8_isSort rmX8_isSort D (gY c) (xE tb sa sv) [.int p0] ([]) (some (.int r0)) ([]) := by
  unfold fX8_isSort at h
  refine gM.I (cc := cX8_isSort) (maxL := 1) (by decide) rfl (Nat.le_of_ble_eq_true rfl) ?_
  intro p e s m args below meth cd hx hb hml hown hts A hA ls hl hP hK hD hS hE Q KR0
  have KR : ∀ (v : Int32)  (H : Heap) (locs : List Loc) (pc : Nat) (ls : Array Slot), some v = some r0 → narrow .boolean (.int v) = .int v → va_P D vwCl ([]) H → va_D A ([]) → va_S A s.heap H locs → decode cX8_isSort pc = .ok (.ireturn, 1) → W p l e rmX8_isSort s m args below meth cd H locs 0 0 Q (F0 m pc ls [.int v]) := by
    intro v  H locs pc ls hr hn hP hD hS hd
    cases hr
    exact KR0 _ H locs pc ls rfl hn hP hD hS hd
  have hl : lv_has ls 1 [(0, .int p0)] := hl
  refine lv_iload_n (pc := 0) hx hb dX8_isSort_0 rfl (lv_at hl 0 rfl) ?_
  refine lv_if_eq (tgt := 9) (pc := 1) hx hb dX8_isSort_1 (by decide) (fun c1 => ?_) (fun c1 => ?_)
  · replace h := it_t c1 h
    refine lv_iconst (v := 1) (pc := 9) hx hb dX8_isSort_9 (by decide) ?_
    refine lv_goto (tgt := 14) (pc := 10) hx hb dX8_isSort_10 (by decide) ?_
    have kr := KR (1 : Int32)  _ _ 14 ls h rfl hP hD hS dX8_isSort_14
    exact kr
  · replace h := it_f c1 h
    refine lv_iload_n (pc := 4) hx hb dX8_isSort_4 rfl (lv_at hl 0 rfl) ?_
    refine lv_iconst (v := 1) (pc := 5) hx hb dX8_isSort_5 (by decide) ?_
    refine lv_icmp_ne (tgt := 13) (pc := 6) hx hb dX8_isSort_6 (by decide) (fun c6 => ?_) (fun c6 => ?_)
    · replace h := it_f c6 h
      refine lv_iconst (v := 0) (pc := 13) hx hb dX8_isSort_13 (by decide) ?_
      have kr := KR (0 : Int32)  _ _ 14 ls h rfl hP hD hS dX8_isSort_14
      exact kr
    · replace h := it_t c6 h
      refine lv_iconst (v := 1) (pc := 9) hx hb dX8_isSort_9 (by decide) ?_
      refine lv_goto (tgt := 14) (pc := 10) hx hb dX8_isSort_10 (by decide) ?_
      have kr := KR (1 : Int32)  _ _ 14 ls h rfl hP hD hS dX8_isSort_14
      exact kr
abbrev rmX8_sheet : Room := { frames := 2, cells := 0, slots := 0, locals := 42 }
set_option maxRecDepth 100000 in
set_option maxHeartbeats 40000000 in
theorem cX8_sheet_met (l : Launch) (D : va_G) (c : Nat → ClassId) (tb : Nat) (sa sv : Nat → Nat) (a : Nat → Nat → Nat) (p0 : Int32) (p1 : Int32) (p2 : Int32) (X : XS) (r0 : Int32) (z0 : XS) (h : fX8_sheet p0 p1 p2 X = some (r0, z0)) : gM l yX8_sheet wsX8_sheet rmX8_sheet D (gY c) (xE tb sa sv) [.ref (a 0 0), .int p0, .int p1, .int p2] (wX a c X) (some (.int r0)) (wX a c z0) := by
  unfold fX8_sheet at h
  refine gM.I (cc := cX8_sheet) (maxL := 4) (by decide) rfl (Nat.le_of_ble_eq_true rfl) ?_
  intro p e s m args below meth cd hx hb hml hown hts A hA ls hl hP hK hD hS hE Q KR0
  have hfX8 : ∀ w ∈ u_ws RX8 TX8 12, w.before args s = true := fun w hw => hts w (List.mem_cons_of_mem _ (List.mem_append_left _ (List.mem_append_right _ hw)))
  have lk0 := hts (.fieldLink RX8 69 "GlitchNets" "sheets" "[LGlitchNets$Sheet;") (List.mem_of_getElem? (i := 1) rfl)
  have hP := XP_iff.mp hP
  have hD := XD_of hD
  have KR : ∀ (v : Int32) (w0 : XS) (H : Heap) (locs : List Loc) (pc : Nat) (ls : Array Slot), some (v, w0) = some (r0, z0) → narrow .int (.int v) = .int v → XP D a c w0 H → va_S A s.heap H locs → decode cX8_sheet pc = .ok (.ireturn, 1) → W p l e rmX8_sheet s m args below meth cd H locs 0 0 Q (F0 m pc ls [.int v]) := by
    intro v w0 H locs pc ls hr hn hP hS hd
    cases hr
    exact KR0 _ H locs pc ls rfl hn (XP_iff.mpr hP) (hD.all c _) hS hd
  have hl : lv_has ls 4 [(0, .ref (a 0 0)), (1, .int p0), (2, .int p1), (3, .int p2)] := hl
  refine lv_iload_n (pc := 0) hx hb dX8_sheet_0 rfl (lv_at hl 1 rfl) ?_
  obtain ⟨r1, hc1, h⟩ := b1_i h
  refine g_noneX (st1 := [.int r1]) (gr_S (n := 1) (rest := []) (pc := 1) hx hb hml hown hts (cX8_isSheet_met l D c tb sa sv p0 _ hc1) gX8_sheet_X8_isSheet rfl rfl rfl (by decide +kernel) rfl ⟨Nat.le_of_ble_eq_true rfl, Nat.le_of_ble_eq_true rfl⟩ ⟨Nat.zero_le _, Nat.zero_le _⟩ xE_ok g_P0 (g_D0 (A := A)) hK (xE_ok.tr hE hS (g_free0 hS hA)) hl.1 (Nat.le_of_ble_eq_true rfl) dX8_sheet_1 rfl) hP hS hA rfl (fun H locs hP hS => ?_)
  refine lv_if_ne (tgt := 10) (pc := 4) hx hb dX8_sheet_4 (by decide) (fun c4 => ?_) (fun c4 => ?_)
  · replace h := it_f c4 h
    refine lv_iload_n (pc := 10) hx hb dX8_sheet_10 rfl (lv_at hl 2 rfl) ?_
    refine lv_iconst (v := -1) (pc := 11) hx hb dX8_sheet_11 (by decide) ?_
    refine lv_icmp_ne (tgt := 28) (pc := 12) hx hb dX8_sheet_12 (by decide) (fun c12 => ?_) (fun c12 => ?_)
    · replace h := it_f c12 h
      refine lv_iload_n (pc := 28) hx hb dX8_sheet_28 rfl (lv_at hl 2 rfl) ?_
      obtain ⟨r29, hc29, h⟩ := b1_i h
      refine g_noneX (st1 := [.int r29]) (gr_S (n := 1) (rest := []) (pc := 29) hx hb hml hown hts (cX8_isSort_met l D c tb sa sv p1 _ hc29) gX8_sheet_X8_isSort rfl rfl rfl (by decide +kernel) rfl ⟨Nat.le_of_ble_eq_true rfl, Nat.le_of_ble_eq_true rfl⟩ ⟨Nat.zero_le _, Nat.zero_le _⟩ xE_ok g_P0 (g_D0 (A := A)) hK (xE_ok.tr hE hS (g_free0 hS hA)) hl.1 (Nat.le_of_ble_eq_true rfl) dX8_sheet_29 rfl) hP hS hA rfl (fun H locs hP hS => ?_)
      refine lv_if_eq (tgt := 41) (pc := 32) hx hb dX8_sheet_32 (by decide) (fun c32 => ?_) (fun c32 => ?_)
      · replace h := it_t c32 h
        refine lv_bipush (v := -2) (pc := 41) hx hb dX8_sheet_41 (by decide) ?_
        have kr := KR (-2 : Int32) X _ _ 43 ls h rfl hP hS dX8_sheet_43
        exact kr
      · replace h := it_f c32 h
        refine lv_iload_n (pc := 35) hx hb dX8_sheet_35 rfl (lv_at hl 3 rfl) ?_
        refine lv_bipush (v := 40) (pc := 36) hx hb dX8_sheet_36 (by decide) ?_
        refine lv_icmp_le (tgt := 44) (pc := 38) hx hb dX8_sheet_38 (by decide) (fun c38 => ?_) (fun c38 => ?_)
        · replace h := it_t c38 h
          refine lv_iload_n (pc := 44) hx hb dX8_sheet_44 rfl (lv_at hl 3 rfl) ?_
          refine lv_if_ge (tgt := 51) (pc := 45) hx hb dX8_sheet_45 (by decide) (fun c45 => ?_) (fun c45 => ?_)
          · replace h := it_t c45 h
            refine lv_aload_n (pc := 51) hx hb dX8_sheet_51 rfl (lv_at hl 0 rfl) ?_
            refine va_get (D := D) (ci := 8) (v := .ref (a 0 1)) (C := RX8) (T := TX8) (N := 12) (pc := 52) hx hb hfX8 (fun _ h9 => h9) hown hK (show va_P D vwCl (wX8 a c (X 0)) _ from hP 0 (by decide)) 0 rfl rfl 11 (by decide) lk0 (fun _ h9 => h9) rfl dX8_sheet_52 ?_
            refine lv_iload_n (pc := 55) hx hb dX8_sheet_55 rfl (lv_at hl 1 rfl) ?_
            obtain ⟨hk56, h⟩ := ckI_i h
            obtain ⟨k56, ek56, h⟩ := lt_i h
            rcases g_four (by rw [ek56]; exact g_inlt hk56 : k56 < 4) with rfl | rfl | rfl | rfl
            · refine g_aald (v := a 11 0) (pc := 56) hx hb hK (show va_P D vwCl (wX8 a c (X 0)) _ from hP 0 (by decide)) 1 3 rfl rfl hk56 ek56 rfl dX8_sheet_56 ?_
              refine lv_iload_n (pc := 57) hx hb dX8_sheet_57 rfl (lv_at hl 2 rfl) ?_
              refine lv_iload_n (pc := 58) hx hb dX8_sheet_58 rfl (lv_at hl 3 rfl) ?_
              obtain ⟨t0_59, hc59, h⟩ := b1_i h
              have hw : (wX5 (a 11) c (X (11 + 0))).map (·.1) = [11].flatMap (uA a) := rfl
              have hPc : va_P D vwCl (wX5 (a 11) c (X (11 + 0))) _ := hP 11 (by decide)
              have hDc : va_D A (wX5 (a 11) c (X (11 + 0))) := hD.of_addr (by decide) (by decide) hw
              refine g_X (X' := (xs X (11 + 0) t0_59)) (st1 := []) (gr_V (n := 2) (rest := []) (pc := 59) hx hb hml hown hts (cX5_become_met l D c tb sa sv (a 11) p1 p2 (X (11 + 0)) _ hc59) gX8_sheet_X5_become rfl rfl rfl (by decide +kernel) rfl ⟨Nat.le_of_ble_eq_true rfl, Nat.le_of_ble_eq_true rfl⟩ ⟨Nat.zero_le _, Nat.zero_le _⟩ 0 5 rfl rfl rfl xE_ok hPc hDc hK (xE_ok.tr hE hS (g_freeX hD hS hA (by decide) (addr0 hw))) hl.1 (Nat.le_of_ble_eq_true rfl) dX8_sheet_59 rfl) hP hD hS hA (ks := [11]) (by decide) (addr0 hw) (fun k9 _ hk9 => (xs_o hk9 (j := (11 + 0)) (by decide))) (fun H1 hw1 => (List.forall_mem_cons.mpr ⟨hw1, (fun _ h9 => absurd h9 List.not_mem_nil)⟩)) rfl (fun H locs hP hS => ?_)
              refine lv_iconst (v := 1) (pc := 62) hx hb dX8_sheet_62 (by decide) ?_
              have kr := KR (1 : Int32) (xs X (11 + 0) t0_59) _ _ 63 ls h rfl hP hS dX8_sheet_63
              exact kr
            · refine g_aald (v := a 12 0) (pc := 56) hx hb hK (show va_P D vwCl (wX8 a c (X 0)) _ from hP 0 (by decide)) 1 3 rfl rfl hk56 ek56 rfl dX8_sheet_56 ?_
              refine lv_iload_n (pc := 57) hx hb dX8_sheet_57 rfl (lv_at hl 2 rfl) ?_
              refine lv_iload_n (pc := 58) hx hb dX8_sheet_58 rfl (lv_at hl 3 rfl) ?_
              obtain ⟨t0_59, hc59, h⟩ := b1_i h
              have hw : (wX5 (a 12) c (X (11 + 1))).map (·.1) = [12].flatMap (uA a) := rfl
              have hPc : va_P D vwCl (wX5 (a 12) c (X (11 + 1))) _ := hP 12 (by decide)
              have hDc : va_D A (wX5 (a 12) c (X (11 + 1))) := hD.of_addr (by decide) (by decide) hw
              refine g_X (X' := (xs X (11 + 1) t0_59)) (st1 := []) (gr_V (n := 2) (rest := []) (pc := 59) hx hb hml hown hts (cX5_become_met l D c tb sa sv (a 12) p1 p2 (X (11 + 1)) _ hc59) gX8_sheet_X5_become rfl rfl rfl (by decide +kernel) rfl ⟨Nat.le_of_ble_eq_true rfl, Nat.le_of_ble_eq_true rfl⟩ ⟨Nat.zero_le _, Nat.zero_le _⟩ 0 5 rfl rfl rfl xE_ok hPc hDc hK (xE_ok.tr hE hS (g_freeX hD hS hA (by decide) (addr0 hw))) hl.1 (Nat.le_of_ble_eq_true rfl) dX8_sheet_59 rfl) hP hD hS hA (ks := [12]) (by decide) (addr0 hw) (fun k9 _ hk9 => (xs_o hk9 (j := (11 + 1)) (by decide))) (fun H1 hw1 => (List.forall_mem_cons.mpr ⟨hw1, (fun _ h9 => absurd h9 List.not_mem_nil)⟩)) rfl (fun H locs hP hS => ?_)
              refine lv_iconst (v := 1) (pc := 62) hx hb dX8_sheet_62 (by decide) ?_
              have kr := KR (1 : Int32) (xs X (11 + 1) t0_59) _ _ 63 ls h rfl hP hS dX8_sheet_63
              exact kr
            · refine g_aald (v := a 13 0) (pc := 56) hx hb hK (show va_P D vwCl (wX8 a c (X 0)) _ from hP 0 (by decide)) 1 3 rfl rfl hk56 ek56 rfl dX8_sheet_56 ?_
              refine lv_iload_n (pc := 57) hx hb dX8_sheet_57 rfl (lv_at hl 2 rfl) ?_
              refine lv_iload_n (pc := 58) hx hb dX8_sheet_58 rfl (lv_at hl 3 rfl) ?_
              obtain ⟨t0_59, hc59, h⟩ := b1_i h
              have hw : (wX5 (a 13) c (X (11 + 2))).map (·.1) = [13].flatMap (uA a) := rfl
              have hPc : va_P D vwCl (wX5 (a 13) c (X (11 + 2))) _ := hP 13 (by decide)
              have hDc : va_D A (wX5 (a 13) c (X (11 + 2))) := hD.of_addr (by decide) (by decide) hw
              refine g_X (X' := (xs X (11 + 2) t0_59)) (st1 := []) (gr_V (n := 2) (rest := []) (pc := 59) hx hb hml hown hts (cX5_become_met l D c tb sa sv (a 13) p1 p2 (X (11 + 2)) _ hc59) gX8_sheet_X5_become rfl rfl rfl (by decide +kernel) rfl ⟨Nat.le_of_ble_eq_true rfl, Nat.le_of_ble_eq_true rfl⟩ ⟨Nat.zero_le _, Nat.zero_le _⟩ 0 5 rfl rfl rfl xE_ok hPc hDc hK (xE_ok.tr hE hS (g_freeX hD hS hA (by decide) (addr0 hw))) hl.1 (Nat.le_of_ble_eq_true rfl) dX8_sheet_59 rfl) hP hD hS hA (ks := [13]) (by decide) (addr0 hw) (fun k9 _ hk9 => (xs_o hk9 (j := (11 + 2)) (by decide))) (fun H1 hw1 => (List.forall_mem_cons.mpr ⟨hw1, (fun _ h9 => absurd h9 List.not_mem_nil)⟩)) rfl (fun H locs hP hS => ?_)
              refine lv_iconst (v := 1) (pc := 62) hx hb dX8_sheet_62 (by decide) ?_
              have kr := KR (1 : Int32) (xs X (11 + 2) t0_59) _ _ 63 ls h rfl hP hS dX8_sheet_63
              exact kr
            · refine g_aald (v := a 14 0) (pc := 56) hx hb hK (show va_P D vwCl (wX8 a c (X 0)) _ from hP 0 (by decide)) 1 3 rfl rfl hk56 ek56 rfl dX8_sheet_56 ?_
              refine lv_iload_n (pc := 57) hx hb dX8_sheet_57 rfl (lv_at hl 2 rfl) ?_
              refine lv_iload_n (pc := 58) hx hb dX8_sheet_58 rfl (lv_at hl 3 rfl) ?_
              obtain ⟨t0_59, hc59, h⟩ := b1_i h
              have hw : (wX5 (a 14) c (X (11 + 3))).map (·.1) = [14].flatMap (uA a) := rfl
              have hPc : va_P D vwCl (wX5 (a 14) c (X (11 + 3))) _ := hP 14 (by decide)
              have hDc : va_D A (wX5 (a 14) c (X (11 + 3))) := hD.of_addr (by decide) (by decide) hw
              refine g_X (X' := (xs X (11 + 3) t0_59)) (st1 := []) (gr_V (n := 2) (rest := []) (pc := 59) hx hb hml hown hts (cX5_become_met l D c tb sa sv (a 14) p1 p2 (X (11 + 3)) _ hc59) gX8_sheet_X5_become rfl rfl rfl (by decide +kernel) rfl ⟨Nat.le_of_ble_eq_true rfl, Nat.le_of_ble_eq_true rfl⟩ ⟨Nat.zero_le _, Nat.zero_le _⟩ 0 5 rfl rfl rfl xE_ok hPc hDc hK (xE_ok.tr hE hS (g_freeX hD hS hA (by decide) (addr0 hw))) hl.1 (Nat.le_of_ble_eq_true rfl) dX8_sheet_59 rfl) hP hD hS hA (ks := [14]) (by decide) (addr0 hw) (fun k9 _ hk9 => (xs_o hk9 (j := (11 + 3)) (by decide))) (fun H1 hw1 => (List.forall_mem_cons.mpr ⟨hw1, (fun _ h9 => absurd h9 List.not_mem_nil)⟩)) rfl (fun H locs hP hS => ?_)
              refine lv_iconst (v := 1) (pc := 62) hx hb dX8_sheet_62 (by decide) ?_
              have kr := KR (1 : Int32) (xs X (11 + 3) t0_59) _ _ 63 ls h rfl hP hS dX8_sheet_63
              exact kr
          · replace h := it_f c45 h
            refine lv_bipush (v := -14) (pc := 48) hx hb dX8_sheet_48 (by decide) ?_
            have kr := KR (-14 : Int32) X _ _ 50 ls h rfl hP hS dX8_sheet_50
            exact kr
        · replace h := it_f c38 h
          refine lv_bipush (v := -2) (pc := 41) hx hb dX8_sheet_41 (by decide) ?_
          have kr := KR (-2 : Int32) X _ _ 43 ls h rfl hP hS dX8_sheet_43
          exact kr
    · replace h := it_t c12 h
      refine lv_aload_n (pc := 15) hx hb dX8_sheet_15 rfl (lv_at hl 0 rfl) ?_
      refine va_get (D := D) (ci := 8) (v := .ref (a 0 1)) (C := RX8) (T := TX8) (N := 12) (pc := 16) hx hb hfX8 (fun _ h9 => h9) hown hK (show va_P D vwCl (wX8 a c (X 0)) _ from hP 0 (by decide)) 0 rfl rfl 11 (by decide) lk0 (fun _ h9 => h9) rfl dX8_sheet_16 ?_
      refine lv_iload_n (pc := 19) hx hb dX8_sheet_19 rfl (lv_at hl 1 rfl) ?_
      obtain ⟨hk20, h⟩ := ckI_i h
      obtain ⟨k20, ek20, h⟩ := lt_i h
      rcases g_four (by rw [ek20]; exact g_inlt hk20 : k20 < 4) with rfl | rfl | rfl | rfl
      · refine g_aald (v := a 11 0) (pc := 20) hx hb hK (show va_P D vwCl (wX8 a c (X 0)) _ from hP 0 (by decide)) 1 3 rfl rfl hk20 ek20 rfl dX8_sheet_20 ?_
        refine lv_iconst (v := -1) (pc := 21) hx hb dX8_sheet_21 (by decide) ?_
        refine lv_iconst (v := 0) (pc := 22) hx hb dX8_sheet_22 (by decide) ?_
        obtain ⟨t0_23, hc23, h⟩ := b1_i h
        have hw : (wX5 (a 11) c (X (11 + 0))).map (·.1) = [11].flatMap (uA a) := rfl
        have hPc : va_P D vwCl (wX5 (a 11) c (X (11 + 0))) _ := hP 11 (by decide)
        have hDc : va_D A (wX5 (a 11) c (X (11 + 0))) := hD.of_addr (by decide) (by decide) hw
        refine g_X (X' := (xs X (11 + 0) t0_23)) (st1 := []) (gr_V (n := 2) (rest := []) (pc := 23) hx hb hml hown hts (cX5_become_met l D c tb sa sv (a 11) (-1 : Int32) (0 : Int32) (X (11 + 0)) _ hc23) gX8_sheet_X5_become rfl rfl rfl (by decide +kernel) rfl ⟨Nat.le_of_ble_eq_true rfl, Nat.le_of_ble_eq_true rfl⟩ ⟨Nat.zero_le _, Nat.zero_le _⟩ 0 5 rfl rfl rfl xE_ok hPc hDc hK (xE_ok.tr hE hS (g_freeX hD hS hA (by decide) (addr0 hw))) hl.1 (Nat.le_of_ble_eq_true rfl) dX8_sheet_23 rfl) hP hD hS hA (ks := [11]) (by decide) (addr0 hw) (fun k9 _ hk9 => (xs_o hk9 (j := (11 + 0)) (by decide))) (fun H1 hw1 => (List.forall_mem_cons.mpr ⟨hw1, (fun _ h9 => absurd h9 List.not_mem_nil)⟩)) rfl (fun H locs hP hS => ?_)
        refine lv_iconst (v := 1) (pc := 26) hx hb dX8_sheet_26 (by decide) ?_
        have kr := KR (1 : Int32) (xs X (11 + 0) t0_23) _ _ 27 ls h rfl hP hS dX8_sheet_27
        exact kr
      · refine g_aald (v := a 12 0) (pc := 20) hx hb hK (show va_P D vwCl (wX8 a c (X 0)) _ from hP 0 (by decide)) 1 3 rfl rfl hk20 ek20 rfl dX8_sheet_20 ?_
        refine lv_iconst (v := -1) (pc := 21) hx hb dX8_sheet_21 (by decide) ?_
        refine lv_iconst (v := 0) (pc := 22) hx hb dX8_sheet_22 (by decide) ?_
        obtain ⟨t0_23, hc23, h⟩ := b1_i h
        have hw : (wX5 (a 12) c (X (11 + 1))).map (·.1) = [12].flatMap (uA a) := rfl
        have hPc : va_P D vwCl (wX5 (a 12) c (X (11 + 1))) _ := hP 12 (by decide)
        have hDc : va_D A (wX5 (a 12) c (X (11 + 1))) := hD.of_addr (by decide) (by decide) hw
        refine g_X (X' := (xs X (11 + 1) t0_23)) (st1 := []) (gr_V (n := 2) (rest := []) (pc := 23) hx hb hml hown hts (cX5_become_met l D c tb sa sv (a 12) (-1 : Int32) (0 : Int32) (X (11 + 1)) _ hc23) gX8_sheet_X5_become rfl rfl rfl (by decide +kernel) rfl ⟨Nat.le_of_ble_eq_true rfl, Nat.le_of_ble_eq_true rfl⟩ ⟨Nat.zero_le _, Nat.zero_le _⟩ 0 5 rfl rfl rfl xE_ok hPc hDc hK (xE_ok.tr hE hS (g_freeX hD hS hA (by decide) (addr0 hw))) hl.1 (Nat.le_of_ble_eq_true rfl) dX8_sheet_23 rfl) hP hD hS hA (ks := [12]) (by decide) (addr0 hw) (fun k9 _ hk9 => (xs_o hk9 (j := (11 + 1)) (by decide))) (fun H1 hw1 => (List.forall_mem_cons.mpr ⟨hw1, (fun _ h9 => absurd h9 List.not_mem_nil)⟩)) rfl (fun H locs hP hS => ?_)
        refine lv_iconst (v := 1) (pc := 26) hx hb dX8_sheet_26 (by decide) ?_
        have kr := KR (1 : Int32) (xs X (11 + 1) t0_23) _ _ 27 ls h rfl hP hS dX8_sheet_27
        exact kr
      · refine g_aald (v := a 13 0) (pc := 20) hx hb hK (show va_P D vwCl (wX8 a c (X 0)) _ from hP 0 (by decide)) 1 3 rfl rfl hk20 ek20 rfl dX8_sheet_20 ?_
        refine lv_iconst (v := -1) (pc := 21) hx hb dX8_sheet_21 (by decide) ?_
        refine lv_iconst (v := 0) (pc := 22) hx hb dX8_sheet_22 (by decide) ?_
        obtain ⟨t0_23, hc23, h⟩ := b1_i h
        have hw : (wX5 (a 13) c (X (11 + 2))).map (·.1) = [13].flatMap (uA a) := rfl
        have hPc : va_P D vwCl (wX5 (a 13) c (X (11 + 2))) _ := hP 13 (by decide)
        have hDc : va_D A (wX5 (a 13) c (X (11 + 2))) := hD.of_addr (by decide) (by decide) hw
        refine g_X (X' := (xs X (11 + 2) t0_23)) (st1 := []) (gr_V (n := 2) (rest := []) (pc := 23) hx hb hml hown hts (cX5_become_met l D c tb sa sv (a 13) (-1 : Int32) (0 : Int32) (X (11 + 2)) _ hc23) gX8_sheet_X5_become rfl rfl rfl (by decide +kernel) rfl ⟨Nat.le_of_ble_eq_true rfl, Nat.le_of_ble_eq_true rfl⟩ ⟨Nat.zero_le _, Nat.zero_le _⟩ 0 5 rfl rfl rfl xE_ok hPc hDc hK (xE_ok.tr hE hS (g_freeX hD hS hA (by decide) (addr0 hw))) hl.1 (Nat.le_of_ble_eq_true rfl) dX8_sheet_23 rfl) hP hD hS hA (ks := [13]) (by decide) (addr0 hw) (fun k9 _ hk9 => (xs_o hk9 (j := (11 + 2)) (by decide))) (fun H1 hw1 => (List.forall_mem_cons.mpr ⟨hw1, (fun _ h9 => absurd h9 List.not_mem_nil)⟩)) rfl (fun H locs hP hS => ?_)
        refine lv_iconst (v := 1) (pc := 26) hx hb dX8_sheet_26 (by decide) ?_
        have kr := KR (1 : Int32) (xs X (11 + 2) t0_23) _ _ 27 ls h rfl hP hS dX8_sheet_27
        exact kr
      · refine g_aald (v := a 14 0) (pc := 20) hx hb hK (show va_P D vwCl (wX8 a c (X 0)) _ from hP 0 (by decide)) 1 3 rfl rfl hk20 ek20 rfl dX8_sheet_20 ?_
        refine lv_iconst (v := -1) (pc := 21) hx hb dX8_sheet_21 (by decide) ?_
        refine lv_iconst (v := 0) (pc := 22) hx hb dX8_sheet_22 (by decide) ?_
        obtain ⟨t0_23, hc23, h⟩ := b1_i h
        have hw : (wX5 (a 14) c (X (11 + 3))).map (·.1) = [14].flatMap (uA a) := rfl
        have hPc : va_P D vwCl (wX5 (a 14) c (X (11 + 3))) _ := hP 14 (by decide)
        have hDc : va_D A (wX5 (a 14) c (X (11 + 3))) := hD.of_addr (by decide) (by decide) hw
        refine g_X (X' := (xs X (11 + 3) t0_23)) (st1 := []) (gr_V (n := 2) (rest := []) (pc := 23) hx hb hml hown hts (cX5_become_met l D c tb sa sv (a 14) (-1 : Int32) (0 : Int32) (X (11 + 3)) _ hc23) gX8_sheet_X5_become rfl rfl rfl (by decide +kernel) rfl ⟨Nat.le_of_ble_eq_true rfl, Nat.le_of_ble_eq_true rfl⟩ ⟨Nat.zero_le _, Nat.zero_le _⟩ 0 5 rfl rfl rfl xE_ok hPc hDc hK (xE_ok.tr hE hS (g_freeX hD hS hA (by decide) (addr0 hw))) hl.1 (Nat.le_of_ble_eq_true rfl) dX8_sheet_23 rfl) hP hD hS hA (ks := [14]) (by decide) (addr0 hw) (fun k9 _ hk9 => (xs_o hk9 (j := (11 + 3)) (by decide))) (fun H1 hw1 => (List.forall_mem_cons.mpr ⟨hw1, (fun _ h9 => absurd h9 List.not_mem_nil)⟩)) rfl (fun H locs hP hS => ?_)
        refine lv_iconst (v := 1) (pc := 26) hx hb dX8_sheet_26 (by decide) ?_
        have kr := KR (1 : Int32) (xs X (11 + 3) t0_23) _ _ 27 ls h rfl hP hS dX8_sheet_27
        exact kr
  · replace h := it_t c4 h
    refine lv_bipush (v := -2) (pc := 7) hx hb dX8_sheet_7 (by decide) ?_
    have kr := KR (-2 : Int32) X _ _ 9 ls h rfl hP hS dX8_sheet_9
    exact kr
abbrev rmX8_put : Room := { frames := 2, cells := 0, slots := 0, locals := 43 }
set_option maxRecDepth 100000 in
set_option maxHeartbeats 40000000 in
theorem cX8_put_met (l : Launch) (D : va_G) (c : Nat → ClassId) (tb : Nat) (sa sv : Nat → Nat) (a : Nat → Nat → Nat) (p0 : Int32) (p1 : Int32) (p2 : Int32) (X : XS) (r0 : Int32) (z0 : XS) (h : fX8_put p0 p1 p2 X = some (r0, z0)) : gM l yX8_put wsX8_put rmX8_put D (gY c) (xE tb sa sv) [.ref (a 0 0), .int p0, .int p1, .int p2] (wX a c X) (some (.int r0)) (wX a c z0) := by
  unfold fX8_put at h
  refine gM.I (cc := cX8_put) (maxL := 5) (by decide) rfl (Nat.le_of_ble_eq_true rfl) ?_
  intro p e s m args below meth cd hx hb hml hown hts A hA ls hl hP hK hD hS hE Q KR0
  have hfX8 : ∀ w ∈ u_ws RX8 TX8 12, w.before args s = true := fun w hw => hts w (List.mem_cons_of_mem _ (List.mem_append_left _ (List.mem_append_right _ hw)))
  have lk0 := hts (.fieldLink RX8 69 "GlitchNets" "sheets" "[LGlitchNets$Sheet;") (List.mem_of_getElem? (i := 1) rfl)
  have hP := XP_iff.mp hP
  have hD := XD_of hD
  have KR : ∀ (v : Int32) (w0 : XS) (H : Heap) (locs : List Loc) (pc : Nat) (ls : Array Slot), some (v, w0) = some (r0, z0) → narrow .int (.int v) = .int v → XP D a c w0 H → va_S A s.heap H locs → decode cX8_put pc = .ok (.ireturn, 1) → W p l e rmX8_put s m args below meth cd H locs 0 0 Q (F0 m pc ls [.int v]) := by
    intro v w0 H locs pc ls hr hn hP hS hd
    cases hr
    exact KR0 _ H locs pc ls rfl hn (XP_iff.mpr hP) (hD.all c _) hS hd
  have hl : lv_has ls 5 [(0, .ref (a 0 0)), (1, .int p0), (2, .int p1), (3, .int p2)] := hl
  refine lv_iload_n (pc := 0) hx hb dX8_put_0 rfl (lv_at hl 1 rfl) ?_
  obtain ⟨r1, hc1, h⟩ := b1_i h
  refine g_noneX (st1 := [.int r1]) (gr_S (n := 1) (rest := []) (pc := 1) hx hb hml hown hts (cX8_isSheet_met l D c tb sa sv p0 _ hc1) gX8_put_X8_isSheet rfl rfl rfl (by decide +kernel) rfl ⟨Nat.le_of_ble_eq_true rfl, Nat.le_of_ble_eq_true rfl⟩ ⟨Nat.zero_le _, Nat.zero_le _⟩ xE_ok g_P0 (g_D0 (A := A)) hK (xE_ok.tr hE hS (g_free0 hS hA)) hl.1 (Nat.le_of_ble_eq_true rfl) dX8_put_1 rfl) hP hS hA rfl (fun H locs hP hS => ?_)
  refine lv_if_ne (tgt := 10) (pc := 4) hx hb dX8_put_4 (by decide) (fun c4 => ?_) (fun c4 => ?_)
  · replace h := it_f c4 h
    refine lv_aload_n (pc := 10) hx hb dX8_put_10 rfl (lv_at hl 0 rfl) ?_
    refine va_get (D := D) (ci := 8) (v := .ref (a 0 1)) (C := RX8) (T := TX8) (N := 12) (pc := 11) hx hb hfX8 (fun _ h9 => h9) hown hK (show va_P D vwCl (wX8 a c (X 0)) _ from hP 0 (by decide)) 0 rfl rfl 11 (by decide) lk0 (fun _ h9 => h9) rfl dX8_put_11 ?_
    refine lv_iload_n (pc := 14) hx hb dX8_put_14 rfl (lv_at hl 1 rfl) ?_
    obtain ⟨hk15, h⟩ := ckI_i h
    obtain ⟨k15, ek15, h⟩ := lt_i h
    rcases g_four (by rw [ek15]; exact g_inlt hk15 : k15 < 4) with rfl | rfl | rfl | rfl
    · refine g_aald (v := a 11 0) (pc := 15) hx hb hK (show va_P D vwCl (wX8 a c (X 0)) _ from hP 0 (by decide)) 1 3 rfl rfl hk15 ek15 rfl dX8_put_15 ?_
      refine lv_astore (lv' := [(4, .ref ((a 11) 0)), (0, .ref (a 0 0)), (1, .int p0), (2, .int p1), (3, .int p2)]) (pc := 16) hx hb dX8_put_16 hl (by decide) rfl (fun ls hl => ?_)
      refine lv_aload (pc := 18) hx hb dX8_put_18 (lv_at hl 0 rfl) ?_
      obtain ⟨r20, hc20, h⟩ := b1_i h
      have hw : (wX5 (a 11) c (X (11 + 0))).map (·.1) = [11].flatMap (uA a) := rfl
      have hPc : va_P D vwCl (wX5 (a 11) c (X (11 + 0))) _ := hP 11 (by decide)
      have hDc : va_D A (wX5 (a 11) c (X (11 + 0))) := hD.of_addr (by decide) (by decide) hw
      refine g_X (X' := X) (st1 := [.int r20]) (gr_V (n := 0) (rest := []) (pc := 20) hx hb hml hown hts (cX5_isMissing_met l D c tb sa sv (a 11) (X (11 + 0)) _ hc20) gX8_put_X5_isMissing rfl rfl rfl (by decide +kernel) rfl ⟨Nat.le_of_ble_eq_true rfl, Nat.le_of_ble_eq_true rfl⟩ ⟨Nat.zero_le _, Nat.zero_le _⟩ 0 5 rfl rfl rfl xE_ok hPc hDc hK (xE_ok.tr hE hS (g_freeX hD hS hA (by decide) (addr0 hw))) hl.1 (Nat.le_of_ble_eq_true rfl) dX8_put_20 rfl) hP hD hS hA (ks := [11]) (by decide) (addr0 hw) (fun k9 _ hk9 => rfl) (fun H1 hw1 => (List.forall_mem_cons.mpr ⟨hw1, (fun _ h9 => absurd h9 List.not_mem_nil)⟩)) rfl (fun H locs hP hS => ?_)
      refine lv_if_eq (tgt := 29) (pc := 23) hx hb dX8_put_23 (by decide) (fun c23 => ?_) (fun c23 => ?_)
      · replace h := it_t c23 h
        refine lv_aload (pc := 29) hx hb dX8_put_29 (lv_at hl 0 rfl) ?_
        refine lv_iload_n (pc := 31) hx hb dX8_put_31 rfl (lv_at hl 3 rfl) ?_
        obtain ⟨r32, hc32, h⟩ := b1_i h
        have hw : (wX5 (a 11) c (X (11 + 0))).map (·.1) = [11].flatMap (uA a) := rfl
        have hPc : va_P D vwCl (wX5 (a 11) c (X (11 + 0))) _ := hP 11 (by decide)
        have hDc : va_D A (wX5 (a 11) c (X (11 + 0))) := hD.of_addr (by decide) (by decide) hw
        refine g_X (X' := X) (st1 := [.int r32]) (gr_V (n := 1) (rest := []) (pc := 32) hx hb hml hown hts (cX5_has_met l D c tb sa sv (a 11) p1 (X (11 + 0)) _ hc32) gX8_put_X5_has rfl rfl rfl (by decide +kernel) rfl ⟨Nat.le_of_ble_eq_true rfl, Nat.le_of_ble_eq_true rfl⟩ ⟨Nat.zero_le _, Nat.zero_le _⟩ 0 5 rfl rfl rfl xE_ok hPc hDc hK (xE_ok.tr hE hS (g_freeX hD hS hA (by decide) (addr0 hw))) hl.1 (Nat.le_of_ble_eq_true rfl) dX8_put_32 rfl) hP hD hS hA (ks := [11]) (by decide) (addr0 hw) (fun k9 _ hk9 => rfl) (fun H1 hw1 => (List.forall_mem_cons.mpr ⟨hw1, (fun _ h9 => absurd h9 List.not_mem_nil)⟩)) rfl (fun H locs hP hS => ?_)
        refine lv_if_ne (tgt := 41) (pc := 35) hx hb dX8_put_35 (by decide) (fun c35 => ?_) (fun c35 => ?_)
        · replace h := it_f c35 h
          refine lv_aload (pc := 41) hx hb dX8_put_41 (lv_at hl 0 rfl) ?_
          refine lv_iload_n (pc := 43) hx hb dX8_put_43 rfl (lv_at hl 3 rfl) ?_
          refine lv_iload_n (pc := 44) hx hb dX8_put_44 rfl (lv_at hl 4 rfl) ?_
          obtain ⟨t0_45, hc45, h⟩ := b1_i h
          have hw : (wX5 (a 11) c (X (11 + 0))).map (·.1) = [11].flatMap (uA a) := rfl
          have hPc : va_P D vwCl (wX5 (a 11) c (X (11 + 0))) _ := hP 11 (by decide)
          have hDc : va_D A (wX5 (a 11) c (X (11 + 0))) := hD.of_addr (by decide) (by decide) hw
          refine g_X (X' := (xs X (11 + 0) t0_45)) (st1 := []) (gr_V (n := 2) (rest := []) (pc := 45) hx hb hml hown hts (cX5_set_met l D c tb sa sv (a 11) p1 p2 (X (11 + 0)) _ hc45) gX8_put_X5_set rfl rfl rfl (by decide +kernel) rfl ⟨Nat.le_of_ble_eq_true rfl, Nat.le_of_ble_eq_true rfl⟩ ⟨Nat.zero_le _, Nat.zero_le _⟩ 0 5 rfl rfl rfl xE_ok hPc hDc hK (xE_ok.tr hE hS (g_freeX hD hS hA (by decide) (addr0 hw))) hl.1 (Nat.le_of_ble_eq_true rfl) dX8_put_45 rfl) hP hD hS hA (ks := [11]) (by decide) (addr0 hw) (fun k9 _ hk9 => (xs_o hk9 (j := (11 + 0)) (by decide))) (fun H1 hw1 => (List.forall_mem_cons.mpr ⟨hw1, (fun _ h9 => absurd h9 List.not_mem_nil)⟩)) rfl (fun H locs hP hS => ?_)
          refine lv_iconst (v := 1) (pc := 48) hx hb dX8_put_48 (by decide) ?_
          have kr := KR (1 : Int32) (xs X (11 + 0) t0_45) _ _ 49 ls h rfl hP hS dX8_put_49
          exact kr
        · replace h := it_t c35 h
          refine lv_bipush (v := -12) (pc := 38) hx hb dX8_put_38 (by decide) ?_
          have kr := KR (-12 : Int32) X _ _ 40 ls h rfl hP hS dX8_put_40
          exact kr
      · replace h := it_f c23 h
        refine lv_bipush (v := -11) (pc := 26) hx hb dX8_put_26 (by decide) ?_
        have kr := KR (-11 : Int32) X _ _ 28 ls h rfl hP hS dX8_put_28
        exact kr
    · refine g_aald (v := a 12 0) (pc := 15) hx hb hK (show va_P D vwCl (wX8 a c (X 0)) _ from hP 0 (by decide)) 1 3 rfl rfl hk15 ek15 rfl dX8_put_15 ?_
      refine lv_astore (lv' := [(4, .ref ((a 12) 0)), (0, .ref (a 0 0)), (1, .int p0), (2, .int p1), (3, .int p2)]) (pc := 16) hx hb dX8_put_16 hl (by decide) rfl (fun ls hl => ?_)
      refine lv_aload (pc := 18) hx hb dX8_put_18 (lv_at hl 0 rfl) ?_
      obtain ⟨r20, hc20, h⟩ := b1_i h
      have hw : (wX5 (a 12) c (X (11 + 1))).map (·.1) = [12].flatMap (uA a) := rfl
      have hPc : va_P D vwCl (wX5 (a 12) c (X (11 + 1))) _ := hP 12 (by decide)
      have hDc : va_D A (wX5 (a 12) c (X (11 + 1))) := hD.of_addr (by decide) (by decide) hw
      refine g_X (X' := X) (st1 := [.int r20]) (gr_V (n := 0) (rest := []) (pc := 20) hx hb hml hown hts (cX5_isMissing_met l D c tb sa sv (a 12) (X (11 + 1)) _ hc20) gX8_put_X5_isMissing rfl rfl rfl (by decide +kernel) rfl ⟨Nat.le_of_ble_eq_true rfl, Nat.le_of_ble_eq_true rfl⟩ ⟨Nat.zero_le _, Nat.zero_le _⟩ 0 5 rfl rfl rfl xE_ok hPc hDc hK (xE_ok.tr hE hS (g_freeX hD hS hA (by decide) (addr0 hw))) hl.1 (Nat.le_of_ble_eq_true rfl) dX8_put_20 rfl) hP hD hS hA (ks := [12]) (by decide) (addr0 hw) (fun k9 _ hk9 => rfl) (fun H1 hw1 => (List.forall_mem_cons.mpr ⟨hw1, (fun _ h9 => absurd h9 List.not_mem_nil)⟩)) rfl (fun H locs hP hS => ?_)
      refine lv_if_eq (tgt := 29) (pc := 23) hx hb dX8_put_23 (by decide) (fun c23 => ?_) (fun c23 => ?_)
      · replace h := it_t c23 h
        refine lv_aload (pc := 29) hx hb dX8_put_29 (lv_at hl 0 rfl) ?_
        refine lv_iload_n (pc := 31) hx hb dX8_put_31 rfl (lv_at hl 3 rfl) ?_
        obtain ⟨r32, hc32, h⟩ := b1_i h
        have hw : (wX5 (a 12) c (X (11 + 1))).map (·.1) = [12].flatMap (uA a) := rfl
        have hPc : va_P D vwCl (wX5 (a 12) c (X (11 + 1))) _ := hP 12 (by decide)
        have hDc : va_D A (wX5 (a 12) c (X (11 + 1))) := hD.of_addr (by decide) (by decide) hw
        refine g_X (X' := X) (st1 := [.int r32]) (gr_V (n := 1) (rest := []) (pc := 32) hx hb hml hown hts (cX5_has_met l D c tb sa sv (a 12) p1 (X (11 + 1)) _ hc32) gX8_put_X5_has rfl rfl rfl (by decide +kernel) rfl ⟨Nat.le_of_ble_eq_true rfl, Nat.le_of_ble_eq_true rfl⟩ ⟨Nat.zero_le _, Nat.zero_le _⟩ 0 5 rfl rfl rfl xE_ok hPc hDc hK (xE_ok.tr hE hS (g_freeX hD hS hA (by decide) (addr0 hw))) hl.1 (Nat.le_of_ble_eq_true rfl) dX8_put_32 rfl) hP hD hS hA (ks := [12]) (by decide) (addr0 hw) (fun k9 _ hk9 => rfl) (fun H1 hw1 => (List.forall_mem_cons.mpr ⟨hw1, (fun _ h9 => absurd h9 List.not_mem_nil)⟩)) rfl (fun H locs hP hS => ?_)
        refine lv_if_ne (tgt := 41) (pc := 35) hx hb dX8_put_35 (by decide) (fun c35 => ?_) (fun c35 => ?_)
        · replace h := it_f c35 h
          refine lv_aload (pc := 41) hx hb dX8_put_41 (lv_at hl 0 rfl) ?_
          refine lv_iload_n (pc := 43) hx hb dX8_put_43 rfl (lv_at hl 3 rfl) ?_
          refine lv_iload_n (pc := 44) hx hb dX8_put_44 rfl (lv_at hl 4 rfl) ?_
          obtain ⟨t0_45, hc45, h⟩ := b1_i h
          have hw : (wX5 (a 12) c (X (11 + 1))).map (·.1) = [12].flatMap (uA a) := rfl
          have hPc : va_P D vwCl (wX5 (a 12) c (X (11 + 1))) _ := hP 12 (by decide)
          have hDc : va_D A (wX5 (a 12) c (X (11 + 1))) := hD.of_addr (by decide) (by decide) hw
          refine g_X (X' := (xs X (11 + 1) t0_45)) (st1 := []) (gr_V (n := 2) (rest := []) (pc := 45) hx hb hml hown hts (cX5_set_met l D c tb sa sv (a 12) p1 p2 (X (11 + 1)) _ hc45) gX8_put_X5_set rfl rfl rfl (by decide +kernel) rfl ⟨Nat.le_of_ble_eq_true rfl, Nat.le_of_ble_eq_true rfl⟩ ⟨Nat.zero_le _, Nat.zero_le _⟩ 0 5 rfl rfl rfl xE_ok hPc hDc hK (xE_ok.tr hE hS (g_freeX hD hS hA (by decide) (addr0 hw))) hl.1 (Nat.le_of_ble_eq_true rfl) dX8_put_45 rfl) hP hD hS hA (ks := [12]) (by decide) (addr0 hw) (fun k9 _ hk9 => (xs_o hk9 (j := (11 + 1)) (by decide))) (fun H1 hw1 => (List.forall_mem_cons.mpr ⟨hw1, (fun _ h9 => absurd h9 List.not_mem_nil)⟩)) rfl (fun H locs hP hS => ?_)
          refine lv_iconst (v := 1) (pc := 48) hx hb dX8_put_48 (by decide) ?_
          have kr := KR (1 : Int32) (xs X (11 + 1) t0_45) _ _ 49 ls h rfl hP hS dX8_put_49
          exact kr
        · replace h := it_t c35 h
          refine lv_bipush (v := -12) (pc := 38) hx hb dX8_put_38 (by decide) ?_
          have kr := KR (-12 : Int32) X _ _ 40 ls h rfl hP hS dX8_put_40
          exact kr
      · replace h := it_f c23 h
        refine lv_bipush (v := -11) (pc := 26) hx hb dX8_put_26 (by decide) ?_
        have kr := KR (-11 : Int32) X _ _ 28 ls h rfl hP hS dX8_put_28
        exact kr
    · refine g_aald (v := a 13 0) (pc := 15) hx hb hK (show va_P D vwCl (wX8 a c (X 0)) _ from hP 0 (by decide)) 1 3 rfl rfl hk15 ek15 rfl dX8_put_15 ?_
      refine lv_astore (lv' := [(4, .ref ((a 13) 0)), (0, .ref (a 0 0)), (1, .int p0), (2, .int p1), (3, .int p2)]) (pc := 16) hx hb dX8_put_16 hl (by decide) rfl (fun ls hl => ?_)
      refine lv_aload (pc := 18) hx hb dX8_put_18 (lv_at hl 0 rfl) ?_
      obtain ⟨r20, hc20, h⟩ := b1_i h
      have hw : (wX5 (a 13) c (X (11 + 2))).map (·.1) = [13].flatMap (uA a) := rfl
      have hPc : va_P D vwCl (wX5 (a 13) c (X (11 + 2))) _ := hP 13 (by decide)
      have hDc : va_D A (wX5 (a 13) c (X (11 + 2))) := hD.of_addr (by decide) (by decide) hw
      refine g_X (X' := X) (st1 := [.int r20]) (gr_V (n := 0) (rest := []) (pc := 20) hx hb hml hown hts (cX5_isMissing_met l D c tb sa sv (a 13) (X (11 + 2)) _ hc20) gX8_put_X5_isMissing rfl rfl rfl (by decide +kernel) rfl ⟨Nat.le_of_ble_eq_true rfl, Nat.le_of_ble_eq_true rfl⟩ ⟨Nat.zero_le _, Nat.zero_le _⟩ 0 5 rfl rfl rfl xE_ok hPc hDc hK (xE_ok.tr hE hS (g_freeX hD hS hA (by decide) (addr0 hw))) hl.1 (Nat.le_of_ble_eq_true rfl) dX8_put_20 rfl) hP hD hS hA (ks := [13]) (by decide) (addr0 hw) (fun k9 _ hk9 => rfl) (fun H1 hw1 => (List.forall_mem_cons.mpr ⟨hw1, (fun _ h9 => absurd h9 List.not_mem_nil)⟩)) rfl (fun H locs hP hS => ?_)
      refine lv_if_eq (tgt := 29) (pc := 23) hx hb dX8_put_23 (by decide) (fun c23 => ?_) (fun c23 => ?_)
      · replace h := it_t c23 h
        refine lv_aload (pc := 29) hx hb dX8_put_29 (lv_at hl 0 rfl) ?_
        refine lv_iload_n (pc := 31) hx hb dX8_put_31 rfl (lv_at hl 3 rfl) ?_
        obtain ⟨r32, hc32, h⟩ := b1_i h
        have hw : (wX5 (a 13) c (X (11 + 2))).map (·.1) = [13].flatMap (uA a) := rfl
        have hPc : va_P D vwCl (wX5 (a 13) c (X (11 + 2))) _ := hP 13 (by decide)
        have hDc : va_D A (wX5 (a 13) c (X (11 + 2))) := hD.of_addr (by decide) (by decide) hw
        refine g_X (X' := X) (st1 := [.int r32]) (gr_V (n := 1) (rest := []) (pc := 32) hx hb hml hown hts (cX5_has_met l D c tb sa sv (a 13) p1 (X (11 + 2)) _ hc32) gX8_put_X5_has rfl rfl rfl (by decide +kernel) rfl ⟨Nat.le_of_ble_eq_true rfl, Nat.le_of_ble_eq_true rfl⟩ ⟨Nat.zero_le _, Nat.zero_le _⟩ 0 5 rfl rfl rfl xE_ok hPc hDc hK (xE_ok.tr hE hS (g_freeX hD hS hA (by decide) (addr0 hw))) hl.1 (Nat.le_of_ble_eq_true rfl) dX8_put_32 rfl) hP hD hS hA (ks := [13]) (by decide) (addr0 hw) (fun k9 _ hk9 => rfl) (fun H1 hw1 => (List.forall_mem_cons.mpr ⟨hw1, (fun _ h9 => absurd h9 List.not_mem_nil)⟩)) rfl (fun H locs hP hS => ?_)
        refine lv_if_ne (tgt := 41) (pc := 35) hx hb dX8_put_35 (by decide) (fun c35 => ?_) (fun c35 => ?_)
        · replace h := it_f c35 h
          refine lv_aload (pc := 41) hx hb dX8_put_41 (lv_at hl 0 rfl) ?_
          refine lv_iload_n (pc := 43) hx hb dX8_put_43 rfl (lv_at hl 3 rfl) ?_
          refine lv_iload_n (pc := 44) hx hb dX8_put_44 rfl (lv_at hl 4 rfl) ?_
          obtain ⟨t0_45, hc45, h⟩ := b1_i h
          have hw : (wX5 (a 13) c (X (11 + 2))).map (·.1) = [13].flatMap (uA a) := rfl
          have hPc : va_P D vwCl (wX5 (a 13) c (X (11 + 2))) _ := hP 13 (by decide)
          have hDc : va_D A (wX5 (a 13) c (X (11 + 2))) := hD.of_addr (by decide) (by decide) hw
          refine g_X (X' := (xs X (11 + 2) t0_45)) (st1 := []) (gr_V (n := 2) (rest := []) (pc := 45) hx hb hml hown hts (cX5_set_met l D c tb sa sv (a 13) p1 p2 (X (11 + 2)) _ hc45) gX8_put_X5_set rfl rfl rfl (by decide +kernel) rfl ⟨Nat.le_of_ble_eq_true rfl, Nat.le_of_ble_eq_true rfl⟩ ⟨Nat.zero_le _, Nat.zero_le _⟩ 0 5 rfl rfl rfl xE_ok hPc hDc hK (xE_ok.tr hE hS (g_freeX hD hS hA (by decide) (addr0 hw))) hl.1 (Nat.le_of_ble_eq_true rfl) dX8_put_45 rfl) hP hD hS hA (ks := [13]) (by decide) (addr0 hw) (fun k9 _ hk9 => (xs_o hk9 (j := (11 + 2)) (by decide))) (fun H1 hw1 => (List.forall_mem_cons.mpr ⟨hw1, (fun _ h9 => absurd h9 List.not_mem_nil)⟩)) rfl (fun H locs hP hS => ?_)
          refine lv_iconst (v := 1) (pc := 48) hx hb dX8_put_48 (by decide) ?_
          have kr := KR (1 : Int32) (xs X (11 + 2) t0_45) _ _ 49 ls h rfl hP hS dX8_put_49
          exact kr
        · replace h := it_t c35 h
          refine lv_bipush (v := -12) (pc := 38) hx hb dX8_put_38 (by decide) ?_
          have kr := KR (-12 : Int32) X _ _ 40 ls h rfl hP hS dX8_put_40
          exact kr
      · replace h := it_f c23 h
        refine lv_bipush (v := -11) (pc := 26) hx hb dX8_put_26 (by decide) ?_
        have kr := KR (-11 : Int32) X _ _ 28 ls h rfl hP hS dX8_put_28
        exact kr
    · refine g_aald (v := a 14 0) (pc := 15) hx hb hK (show va_P D vwCl (wX8 a c (X 0)) _ from hP 0 (by decide)) 1 3 rfl rfl hk15 ek15 rfl dX8_put_15 ?_
      refine lv_astore (lv' := [(4, .ref ((a 14) 0)), (0, .ref (a 0 0)), (1, .int p0), (2, .int p1), (3, .int p2)]) (pc := 16) hx hb dX8_put_16 hl (by decide) rfl (fun ls hl => ?_)
      refine lv_aload (pc := 18) hx hb dX8_put_18 (lv_at hl 0 rfl) ?_
      obtain ⟨r20, hc20, h⟩ := b1_i h
      have hw : (wX5 (a 14) c (X (11 + 3))).map (·.1) = [14].flatMap (uA a) := rfl
      have hPc : va_P D vwCl (wX5 (a 14) c (X (11 + 3))) _ := hP 14 (by decide)
      have hDc : va_D A (wX5 (a 14) c (X (11 + 3))) := hD.of_addr (by decide) (by decide) hw
      refine g_X (X' := X) (st1 := [.int r20]) (gr_V (n := 0) (rest := []) (pc := 20) hx hb hml hown hts (cX5_isMissing_met l D c tb sa sv (a 14) (X (11 + 3)) _ hc20) gX8_put_X5_isMissing rfl rfl rfl (by decide +kernel) rfl ⟨Nat.le_of_ble_eq_true rfl, Nat.le_of_ble_eq_true rfl⟩ ⟨Nat.zero_le _, Nat.zero_le _⟩ 0 5 rfl rfl rfl xE_ok hPc hDc hK (xE_ok.tr hE hS (g_freeX hD hS hA (by decide) (addr0 hw))) hl.1 (Nat.le_of_ble_eq_true rfl) dX8_put_20 rfl) hP hD hS hA (ks := [14]) (by decide) (addr0 hw) (fun k9 _ hk9 => rfl) (fun H1 hw1 => (List.forall_mem_cons.mpr ⟨hw1, (fun _ h9 => absurd h9 List.not_mem_nil)⟩)) rfl (fun H locs hP hS => ?_)
      refine lv_if_eq (tgt := 29) (pc := 23) hx hb dX8_put_23 (by decide) (fun c23 => ?_) (fun c23 => ?_)
      · replace h := it_t c23 h
        refine lv_aload (pc := 29) hx hb dX8_put_29 (lv_at hl 0 rfl) ?_
        refine lv_iload_n (pc := 31) hx hb dX8_put_31 rfl (lv_at hl 3 rfl) ?_
        obtain ⟨r32, hc32, h⟩ := b1_i h
        have hw : (wX5 (a 14) c (X (11 + 3))).map (·.1) = [14].flatMap (uA a) := rfl
        have hPc : va_P D vwCl (wX5 (a 14) c (X (11 + 3))) _ := hP 14 (by decide)
        have hDc : va_D A (wX5 (a 14) c (X (11 + 3))) := hD.of_addr (by decide) (by decide) hw
        refine g_X (X' := X) (st1 := [.int r32]) (gr_V (n := 1) (rest := []) (pc := 32) hx hb hml hown hts (cX5_has_met l D c tb sa sv (a 14) p1 (X (11 + 3)) _ hc32) gX8_put_X5_has rfl rfl rfl (by decide +kernel) rfl ⟨Nat.le_of_ble_eq_true rfl, Nat.le_of_ble_eq_true rfl⟩ ⟨Nat.zero_le _, Nat.zero_le _⟩ 0 5 rfl rfl rfl xE_ok hPc hDc hK (xE_ok.tr hE hS (g_freeX hD hS hA (by decide) (addr0 hw))) hl.1 (Nat.le_of_ble_eq_true rfl) dX8_put_32 rfl) hP hD hS hA (ks := [14]) (by decide) (addr0 hw) (fun k9 _ hk9 => rfl) (fun H1 hw1 => (List.forall_mem_cons.mpr ⟨hw1, (fun _ h9 => absurd h9 List.not_mem_nil)⟩)) rfl (fun H locs hP hS => ?_)
        refine lv_if_ne (tgt := 41) (pc := 35) hx hb dX8_put_35 (by decide) (fun c35 => ?_) (fun c35 => ?_)
        · replace h := it_f c35 h
          refine lv_aload (pc := 41) hx hb dX8_put_41 (lv_at hl 0 rfl) ?_
          refine lv_iload_n (pc := 43) hx hb dX8_put_43 rfl (lv_at hl 3 rfl) ?_
          refine lv_iload_n (pc := 44) hx hb dX8_put_44 rfl (lv_at hl 4 rfl) ?_
          obtain ⟨t0_45, hc45, h⟩ := b1_i h
          have hw : (wX5 (a 14) c (X (11 + 3))).map (·.1) = [14].flatMap (uA a) := rfl
          have hPc : va_P D vwCl (wX5 (a 14) c (X (11 + 3))) _ := hP 14 (by decide)
          have hDc : va_D A (wX5 (a 14) c (X (11 + 3))) := hD.of_addr (by decide) (by decide) hw
          refine g_X (X' := (xs X (11 + 3) t0_45)) (st1 := []) (gr_V (n := 2) (rest := []) (pc := 45) hx hb hml hown hts (cX5_set_met l D c tb sa sv (a 14) p1 p2 (X (11 + 3)) _ hc45) gX8_put_X5_set rfl rfl rfl (by decide +kernel) rfl ⟨Nat.le_of_ble_eq_true rfl, Nat.le_of_ble_eq_true rfl⟩ ⟨Nat.zero_le _, Nat.zero_le _⟩ 0 5 rfl rfl rfl xE_ok hPc hDc hK (xE_ok.tr hE hS (g_freeX hD hS hA (by decide) (addr0 hw))) hl.1 (Nat.le_of_ble_eq_true rfl) dX8_put_45 rfl) hP hD hS hA (ks := [14]) (by decide) (addr0 hw) (fun k9 _ hk9 => (xs_o hk9 (j := (11 + 3)) (by decide))) (fun H1 hw1 => (List.forall_mem_cons.mpr ⟨hw1, (fun _ h9 => absurd h9 List.not_mem_nil)⟩)) rfl (fun H locs hP hS => ?_)
          refine lv_iconst (v := 1) (pc := 48) hx hb dX8_put_48 (by decide) ?_
          have kr := KR (1 : Int32) (xs X (11 + 3) t0_45) _ _ 49 ls h rfl hP hS dX8_put_49
          exact kr
        · replace h := it_t c35 h
          refine lv_bipush (v := -12) (pc := 38) hx hb dX8_put_38 (by decide) ?_
          have kr := KR (-12 : Int32) X _ _ 40 ls h rfl hP hS dX8_put_40
          exact kr
      · replace h := it_f c23 h
        refine lv_bipush (v := -11) (pc := 26) hx hb dX8_put_26 (by decide) ?_
        have kr := KR (-11 : Int32) X _ _ 28 ls h rfl hP hS dX8_put_28
        exact kr
  · replace h := it_t c4 h
    refine lv_bipush (v := -2) (pc := 7) hx hb dX8_put_7 (by decide) ?_
    have kr := KR (-2 : Int32) X _ _ 9 ls h rfl hP hS dX8_put_9
    exact kr
abbrev rmX5_hasRun : Room := { frames := 0, cells := 0, slots := 0, locals := 0 }
set_option maxRecDepth 100000 in
set_option maxHeartbeats 40000000 in
theorem cX5_hasRun_met (l : Launch) (D : va_G) (c : Nat → ClassId) (tb : Nat) (sa sv : Nat → Nat) (a0 : Nat → Nat) (p0 : Int32) (p1 : Int32) (s0 : Mem) (r0 : Int32) (h : fX5_hasRun p0 p1 s0 = some r0) : gM l yX5_hasRun wsX5_hasRun rmX5_hasRun D (gY c) (xE tb sa sv) [.ref (a0 0), .int p0, .int p1] (wX5 a0 c s0) (some (.int r0)) (wX5 a0 c s0) := by
  unfold fX5_hasRun at h
  refine gM.I (cc := cX5_hasRun) (maxL := 3) (by decide) rfl (Nat.le_of_ble_eq_true rfl) ?_
  intro p e s m args below meth cd hx hb hml hown hts A hA ls hl hP hK hD hS hE Q KR0
  have hfX5 : ∀ w ∈ u_ws RX5 TX5 3, w.before args s = true := fun w hw => hts w (List.mem_cons_of_mem _ (List.mem_append_right _ hw))
  have lk0 := hts (.fieldLink RX5 19 "GlitchNets$Sheet" "size" "I") (List.mem_of_getElem? (i := 1) rfl)
  have KR : ∀ (v : Int32)  (H : Heap) (locs : List Loc) (pc : Nat) (ls : Array Slot), some v = some r0 → narrow .boolean (.int v) = .int v → va_P D vwCl (wX5 a0 c s0) H → va_D A (wX5 a0 c s0) → va_S A s.heap H locs → decode cX5_hasRun pc = .ok (.ireturn, 1) → W p l e rmX5_hasRun s m args below meth cd H locs 0 0 Q (F0 m pc ls [.int v]) := by
    intro v  H locs pc ls hr hn hP hD hS hd
    cases hr
    exact KR0 _ H locs pc ls rfl hn hP hD hS hd
  have hl : lv_has ls 3 [(0, .ref (a0 0)), (1, .int p0), (2, .int p1)] := hl
  refine lv_iload_n (pc := 0) hx hb dX5_hasRun_0 rfl (lv_at hl 1 rfl) ?_
  refine lv_if_lt (tgt := 22) (pc := 1) hx hb dX5_hasRun_1 (by decide) (fun c1 => ?_) (fun c1 => ?_)
  · replace h := it_t c1 h
    refine lv_iconst (v := 0) (pc := 22) hx hb dX5_hasRun_22 (by decide) ?_
    have kr := KR (0 : Int32)  _ _ 23 ls h rfl hP hD hS dX5_hasRun_23
    exact kr
  · replace h := it_f c1 h
    refine lv_iload_n (pc := 4) hx hb dX5_hasRun_4 rfl (lv_at hl 2 rfl) ?_
    refine lv_if_lt (tgt := 22) (pc := 5) hx hb dX5_hasRun_5 (by decide) (fun c5 => ?_) (fun c5 => ?_)
    · replace h := it_t c5 h
      refine lv_iconst (v := 0) (pc := 22) hx hb dX5_hasRun_22 (by decide) ?_
      have kr := KR (0 : Int32)  _ _ 23 ls h rfl hP hD hS dX5_hasRun_23
      exact kr
    · replace h := it_f c5 h
      refine lv_iload_n (pc := 8) hx hb dX5_hasRun_8 rfl (lv_at hl 1 rfl) ?_
      refine lv_aload_n (pc := 9) hx hb dX5_hasRun_9 rfl (lv_at hl 0 rfl) ?_
      refine va_get (D := D) (ci := 5) (v := .int (s0.1 2 0)) (C := RX5) (T := TX5) (N := 3) (pc := 10) hx hb hfX5 (fun _ h9 => h9) hown hK hP 0 rfl rfl 2 (by decide) lk0 (fun _ h9 => h9) rfl dX5_hasRun_10 ?_
      refine lv_iload_n (pc := 13) hx hb dX5_hasRun_13 rfl (lv_at hl 2 rfl) ?_
      refine lv_isub (pc := 14) hx hb dX5_hasRun_14 ?_
      refine lv_icmp_gt (tgt := 22) (pc := 15) hx hb dX5_hasRun_15 (by decide) (fun c15 => ?_) (fun c15 => ?_)
      · replace h := it_t c15 h
        refine lv_iconst (v := 0) (pc := 22) hx hb dX5_hasRun_22 (by decide) ?_
        have kr := KR (0 : Int32)  _ _ 23 ls h rfl hP hD hS dX5_hasRun_23
        exact kr
      · replace h := it_f c15 h
        refine lv_iconst (v := 1) (pc := 18) hx hb dX5_hasRun_18 (by decide) ?_
        refine lv_goto (tgt := 23) (pc := 19) hx hb dX5_hasRun_19 (by decide) ?_
        have kr := KR (1 : Int32)  _ _ 23 ls h rfl hP hD hS dX5_hasRun_23
        exact kr
abbrev rmX8_copy : Room := { frames := 2, cells := 0, slots := 0, locals := 42 }
set_option maxRecDepth 100000 in
set_option maxHeartbeats 40000000 in
theorem cX8_copy_met (l : Launch) (D : va_G) (c : Nat → ClassId) (tb : Nat) (sa sv : Nat → Nat) (a : Nat → Nat → Nat) (p0 : Int32) (p1 : Int32) (p2 : Int32) (p3 : Int32) (p4 : Int32) (X : XS) (r0 : Int32) (z0 : XS) (h : fX8_copy p0 p1 p2 p3 p4 X = some (r0, z0)) : gM l yX8_copy wsX8_copy rmX8_copy D (gY c) (xE tb sa sv) [.ref (a 0 0), .int p0, .int p1, .int p2, .int p3, .int p4] (wX a c X) (some (.int r0)) (wX a c z0) := by
  unfold fX8_copy at h
  refine gM.I (cc := cX8_copy) (maxL := 8) (by decide) rfl (Nat.le_of_ble_eq_true rfl) ?_
  intro p e s m args below meth cd hx hb hml hown hts A hA ls hl hP hK hD hS hE Q KR0
  have hfX5 : ∀ w ∈ u_ws RX5 TX5 3, w.before args s = true := fun w hw => hts w (List.mem_cons_of_mem _ (List.mem_append_right _ hw))
  have hfX8 : ∀ w ∈ u_ws RX8 TX8 12, w.before args s = true := fun w hw => hts w (List.mem_cons_of_mem _ (List.mem_append_left _ (List.mem_append_right _ hw)))
  have lk0 := hts (.fieldLink RX8 69 "GlitchNets" "sheets" "[LGlitchNets$Sheet;") (List.mem_of_getElem? (i := 1) rfl)
  have lk1 := hts (.fieldLink RX8 304 "GlitchNets$Sheet" "sort" "I") (List.mem_of_getElem? (i := 2) rfl)
  have lk2 := hts (.fieldLink RX8 310 "GlitchNets$Sheet" "items" "[I") (List.mem_of_getElem? (i := 3) rfl)
  have lk3 := hts (.methodLink RX8 313 arraycopyName) (List.mem_of_getElem? (i := 4) rfl)
  have lk4 := hts (.native arraycopyName) (List.mem_of_getElem? (i := 5) rfl)
  have lk5 := hts (.static arraycopyName) (List.mem_of_getElem? (i := 6) rfl)
  have lk6 := hts (.initialized "java/lang/System") (List.mem_of_getElem? (i := 7) rfl)
  have hP := XP_iff.mp hP
  have hD := XD_of hD
  have KR : ∀ (v : Int32) (w0 : XS) (H : Heap) (locs : List Loc) (pc : Nat) (ls : Array Slot), some (v, w0) = some (r0, z0) → narrow .int (.int v) = .int v → XP D a c w0 H → va_S A s.heap H locs → decode cX8_copy pc = .ok (.ireturn, 1) → W p l e rmX8_copy s m args below meth cd H locs 0 0 Q (F0 m pc ls [.int v]) := by
    intro v w0 H locs pc ls hr hn hP hS hd
    cases hr
    exact KR0 _ H locs pc ls rfl hn (XP_iff.mpr hP) (hD.all c _) hS hd
  have hl : lv_has ls 8 [(0, .ref (a 0 0)), (1, .int p0), (2, .int p1), (3, .int p2), (4, .int p3), (5, .int p4)] := hl
  refine lv_iload_n (pc := 0) hx hb dX8_copy_0 rfl (lv_at hl 1 rfl) ?_
  obtain ⟨r1, hc1, h⟩ := b1_i h
  refine g_noneX (st1 := [.int r1]) (gr_S (n := 1) (rest := []) (pc := 1) hx hb hml hown hts (cX8_isSheet_met l D c tb sa sv p0 _ hc1) gX8_copy_X8_isSheet rfl rfl rfl (by decide +kernel) rfl ⟨Nat.le_of_ble_eq_true rfl, Nat.le_of_ble_eq_true rfl⟩ ⟨Nat.zero_le _, Nat.zero_le _⟩ xE_ok g_P0 (g_D0 (A := A)) hK (xE_ok.tr hE hS (g_free0 hS hA)) hl.1 (Nat.le_of_ble_eq_true rfl) dX8_copy_1 rfl) hP hS hA rfl (fun H locs hP hS => ?_)
  refine lv_if_eq (tgt := 14) (pc := 4) hx hb dX8_copy_4 (by decide) (fun c4 => ?_) (fun c4 => ?_)
  · replace h := it_t c4 h
    refine lv_bipush (v := -2) (pc := 14) hx hb dX8_copy_14 (by decide) ?_
    have kr := KR (-2 : Int32) X _ _ 16 ls h rfl hP hS dX8_copy_16
    exact kr
  · replace h := it_f c4 h
    refine lv_iload_n (pc := 7) hx hb dX8_copy_7 rfl (lv_at hl 3 rfl) ?_
    obtain ⟨r8, hc8, h⟩ := b1_i h
    refine g_noneX (st1 := [.int r8]) (gr_S (n := 1) (rest := []) (pc := 8) hx hb hml hown hts (cX8_isSheet_met l D c tb sa sv p2 _ hc8) gX8_copy_X8_isSheet rfl rfl rfl (by decide +kernel) rfl ⟨Nat.le_of_ble_eq_true rfl, Nat.le_of_ble_eq_true rfl⟩ ⟨Nat.zero_le _, Nat.zero_le _⟩ xE_ok g_P0 (g_D0 (A := A)) hK (xE_ok.tr hE hS (g_free0 hS hA)) hl.1 (Nat.le_of_ble_eq_true rfl) dX8_copy_8 rfl) hP hS hA rfl (fun H locs hP hS => ?_)
    refine lv_if_ne (tgt := 17) (pc := 11) hx hb dX8_copy_11 (by decide) (fun c11 => ?_) (fun c11 => ?_)
    · replace h := it_f c11 h
      refine lv_aload_n (pc := 17) hx hb dX8_copy_17 rfl (lv_at hl 0 rfl) ?_
      refine va_get (D := D) (ci := 8) (v := .ref (a 0 1)) (C := RX8) (T := TX8) (N := 12) (pc := 18) hx hb hfX8 (fun _ h9 => h9) hown hK (show va_P D vwCl (wX8 a c (X 0)) _ from hP 0 (by decide)) 0 rfl rfl 11 (by decide) lk0 (fun _ h9 => h9) rfl dX8_copy_18 ?_
      refine lv_iload_n (pc := 21) hx hb dX8_copy_21 rfl (lv_at hl 1 rfl) ?_
      obtain ⟨hk22, h⟩ := ckI_i h
      obtain ⟨k22, ek22, h⟩ := lt_i h
      rcases g_four (by rw [ek22]; exact g_inlt hk22 : k22 < 4) with rfl | rfl | rfl | rfl
      · refine g_aald (v := a 11 0) (pc := 22) hx hb hK (show va_P D vwCl (wX8 a c (X 0)) _ from hP 0 (by decide)) 1 3 rfl rfl hk22 ek22 rfl dX8_copy_22 ?_
        refine lv_astore (lv' := [(6, .ref ((a 11) 0)), (0, .ref (a 0 0)), (1, .int p0), (2, .int p1), (3, .int p2), (4, .int p3), (5, .int p4)]) (pc := 23) hx hb dX8_copy_23 hl (by decide) rfl (fun ls hl => ?_)
        refine lv_aload_n (pc := 25) hx hb dX8_copy_25 rfl (lv_at hl 1 rfl) ?_
        refine va_get (D := D) (ci := 8) (v := .ref (a 0 1)) (C := RX8) (T := TX8) (N := 12) (pc := 26) hx hb hfX8 (fun _ h9 => h9) hown hK (show va_P D vwCl (wX8 a c (X 0)) _ from hP 0 (by decide)) 0 rfl rfl 11 (by decide) lk0 (fun _ h9 => h9) rfl dX8_copy_26 ?_
        refine lv_iload_n (pc := 29) hx hb dX8_copy_29 rfl (lv_at hl 4 rfl) ?_
        obtain ⟨hk30, h⟩ := ckI_i h
        obtain ⟨k30, ek30, h⟩ := lt_i h
        rcases g_four (by rw [ek30]; exact g_inlt hk30 : k30 < 4) with rfl | rfl | rfl | rfl
        · refine g_aald (v := a 11 0) (pc := 30) hx hb hK (show va_P D vwCl (wX8 a c (X 0)) _ from hP 0 (by decide)) 1 3 rfl rfl hk30 ek30 rfl dX8_copy_30 ?_
          refine lv_astore (lv' := [(7, .ref ((a 11) 0)), (6, .ref ((a 11) 0)), (0, .ref (a 0 0)), (1, .int p0), (2, .int p1), (3, .int p2), (4, .int p3), (5, .int p4)]) (pc := 31) hx hb dX8_copy_31 hl (by decide) rfl (fun ls hl => ?_)
          refine lv_aload (pc := 33) hx hb dX8_copy_33 (lv_at hl 1 rfl) ?_
          obtain ⟨r35, hc35, h⟩ := b1_i h
          have hw : (wX5 (a 11) c (X (11 + 0))).map (·.1) = [11].flatMap (uA a) := rfl
          have hPc : va_P D vwCl (wX5 (a 11) c (X (11 + 0))) _ := hP 11 (by decide)
          have hDc : va_D A (wX5 (a 11) c (X (11 + 0))) := hD.of_addr (by decide) (by decide) hw
          refine g_X (X' := X) (st1 := [.int r35]) (gr_V (n := 0) (rest := []) (pc := 35) hx hb hml hown hts (cX5_isMissing_met l D c tb sa sv (a 11) (X (11 + 0)) _ hc35) gX8_copy_X5_isMissing rfl rfl rfl (by decide +kernel) rfl ⟨Nat.le_of_ble_eq_true rfl, Nat.le_of_ble_eq_true rfl⟩ ⟨Nat.zero_le _, Nat.zero_le _⟩ 0 5 rfl rfl rfl xE_ok hPc hDc hK (xE_ok.tr hE hS (g_freeX hD hS hA (by decide) (addr0 hw))) hl.1 (Nat.le_of_ble_eq_true rfl) dX8_copy_35 rfl) hP hD hS hA (ks := [11]) (by decide) (addr0 hw) (fun k9 _ hk9 => rfl) (fun H1 hw1 => (List.forall_mem_cons.mpr ⟨hw1, (fun _ h9 => absurd h9 List.not_mem_nil)⟩)) rfl (fun H locs hP hS => ?_)
          refine lv_if_ne (tgt := 49) (pc := 38) hx hb dX8_copy_38 (by decide) (fun c38 => ?_) (fun c38 => ?_)
          · replace h := it_f c38 h
            refine lv_bipush (v := -11) (pc := 49) hx hb dX8_copy_49 (by decide) ?_
            have kr := KR (-11 : Int32) X _ _ 51 ls h rfl hP hS dX8_copy_51
            exact kr
          · replace h := it_t c38 h
            refine lv_aload (pc := 41) hx hb dX8_copy_41 (lv_at hl 0 rfl) ?_
            obtain ⟨r43, hc43, h⟩ := b1_i h
            have hw : (wX5 (a 11) c (X (11 + 0))).map (·.1) = [11].flatMap (uA a) := rfl
            have hPc : va_P D vwCl (wX5 (a 11) c (X (11 + 0))) _ := hP 11 (by decide)
            have hDc : va_D A (wX5 (a 11) c (X (11 + 0))) := hD.of_addr (by decide) (by decide) hw
            refine g_X (X' := X) (st1 := [.int r43]) (gr_V (n := 0) (rest := []) (pc := 43) hx hb hml hown hts (cX5_isMissing_met l D c tb sa sv (a 11) (X (11 + 0)) _ hc43) gX8_copy_X5_isMissing rfl rfl rfl (by decide +kernel) rfl ⟨Nat.le_of_ble_eq_true rfl, Nat.le_of_ble_eq_true rfl⟩ ⟨Nat.zero_le _, Nat.zero_le _⟩ 0 5 rfl rfl rfl xE_ok hPc hDc hK (xE_ok.tr hE hS (g_freeX hD hS hA (by decide) (addr0 hw))) hl.1 (Nat.le_of_ble_eq_true rfl) dX8_copy_43 rfl) hP hD hS hA (ks := [11]) (by decide) (addr0 hw) (fun k9 _ hk9 => rfl) (fun H1 hw1 => (List.forall_mem_cons.mpr ⟨hw1, (fun _ h9 => absurd h9 List.not_mem_nil)⟩)) rfl (fun H locs hP hS => ?_)
            refine lv_if_eq (tgt := 52) (pc := 46) hx hb dX8_copy_46 (by decide) (fun c46 => ?_) (fun c46 => ?_)
            · replace h := it_t c46 h
              refine lv_aload (pc := 52) hx hb dX8_copy_52 (lv_at hl 1 rfl) ?_
              refine va_get (D := D) (ci := 5) (v := .int ((X (11 + 0)).1 1 0)) (C := RX5) (T := TX5) (N := 3) (pc := 54) hx hb hfX5 (fun _ h9 => h9) hown hK (show va_P D vwCl (wX5 (a 11) c (X (11 + 0))) _ from hP 11 (by decide)) 0 rfl rfl 1 (by decide) lk1 (fun _ h9 => h9) rfl dX8_copy_54 ?_
              refine lv_aload (pc := 57) hx hb dX8_copy_57 (lv_at hl 0 rfl) ?_
              refine va_get (D := D) (ci := 5) (v := .int ((X (11 + 0)).1 1 0)) (C := RX5) (T := TX5) (N := 3) (pc := 59) hx hb hfX5 (fun _ h9 => h9) hown hK (show va_P D vwCl (wX5 (a 11) c (X (11 + 0))) _ from hP 11 (by decide)) 0 rfl rfl 1 (by decide) lk1 (fun _ h9 => h9) rfl dX8_copy_59 ?_
              refine lv_icmp_eq (tgt := 68) (pc := 62) hx hb dX8_copy_62 (by decide) (fun c62 => ?_) (fun c62 => ?_)
              · replace h := it_t c62 h
                refine lv_aload (pc := 68) hx hb dX8_copy_68 (lv_at hl 1 rfl) ?_
                refine lv_iload_n (pc := 70) hx hb dX8_copy_70 rfl (lv_at hl 4 rfl) ?_
                refine lv_iload (pc := 71) hx hb dX8_copy_71 (lv_at hl 7 rfl) ?_
                obtain ⟨r73, hc73, h⟩ := b1_i h
                have hw : (wX5 (a 11) c (X (11 + 0))).map (·.1) = [11].flatMap (uA a) := rfl
                have hPc : va_P D vwCl (wX5 (a 11) c (X (11 + 0))) _ := hP 11 (by decide)
                have hDc : va_D A (wX5 (a 11) c (X (11 + 0))) := hD.of_addr (by decide) (by decide) hw
                refine g_X (X' := X) (st1 := [.int r73]) (gr_V (n := 2) (rest := []) (pc := 73) hx hb hml hown hts (cX5_hasRun_met l D c tb sa sv (a 11) p1 p4 (X (11 + 0)) _ hc73) gX8_copy_X5_hasRun rfl rfl rfl (by decide +kernel) rfl ⟨Nat.le_of_ble_eq_true rfl, Nat.le_of_ble_eq_true rfl⟩ ⟨Nat.zero_le _, Nat.zero_le _⟩ 0 5 rfl rfl rfl xE_ok hPc hDc hK (xE_ok.tr hE hS (g_freeX hD hS hA (by decide) (addr0 hw))) hl.1 (Nat.le_of_ble_eq_true rfl) dX8_copy_73 rfl) hP hD hS hA (ks := [11]) (by decide) (addr0 hw) (fun k9 _ hk9 => rfl) (fun H1 hw1 => (List.forall_mem_cons.mpr ⟨hw1, (fun _ h9 => absurd h9 List.not_mem_nil)⟩)) rfl (fun H locs hP hS => ?_)
                refine lv_if_eq (tgt := 91) (pc := 76) hx hb dX8_copy_76 (by decide) (fun c76 => ?_) (fun c76 => ?_)
                · replace h := it_t c76 h
                  refine lv_bipush (v := -12) (pc := 91) hx hb dX8_copy_91 (by decide) ?_
                  have kr := KR (-12 : Int32) X _ _ 93 ls h rfl hP hS dX8_copy_93
                  exact kr
                · replace h := it_f c76 h
                  refine lv_aload (pc := 79) hx hb dX8_copy_79 (lv_at hl 0 rfl) ?_
                  refine lv_iload (pc := 81) hx hb dX8_copy_81 (lv_at hl 6 rfl) ?_
                  refine lv_iload (pc := 83) hx hb dX8_copy_83 (lv_at hl 7 rfl) ?_
                  obtain ⟨r85, hc85, h⟩ := b1_i h
                  have hw : (wX5 (a 11) c (X (11 + 0))).map (·.1) = [11].flatMap (uA a) := rfl
                  have hPc : va_P D vwCl (wX5 (a 11) c (X (11 + 0))) _ := hP 11 (by decide)
                  have hDc : va_D A (wX5 (a 11) c (X (11 + 0))) := hD.of_addr (by decide) (by decide) hw
                  refine g_X (X' := X) (st1 := [.int r85]) (gr_V (n := 2) (rest := []) (pc := 85) hx hb hml hown hts (cX5_hasRun_met l D c tb sa sv (a 11) p3 p4 (X (11 + 0)) _ hc85) gX8_copy_X5_hasRun rfl rfl rfl (by decide +kernel) rfl ⟨Nat.le_of_ble_eq_true rfl, Nat.le_of_ble_eq_true rfl⟩ ⟨Nat.zero_le _, Nat.zero_le _⟩ 0 5 rfl rfl rfl xE_ok hPc hDc hK (xE_ok.tr hE hS (g_freeX hD hS hA (by decide) (addr0 hw))) hl.1 (Nat.le_of_ble_eq_true rfl) dX8_copy_85 rfl) hP hD hS hA (ks := [11]) (by decide) (addr0 hw) (fun k9 _ hk9 => rfl) (fun H1 hw1 => (List.forall_mem_cons.mpr ⟨hw1, (fun _ h9 => absurd h9 List.not_mem_nil)⟩)) rfl (fun H locs hP hS => ?_)
                  refine lv_if_ne (tgt := 94) (pc := 88) hx hb dX8_copy_88 (by decide) (fun c88 => ?_) (fun c88 => ?_)
                  · replace h := it_f c88 h
                    refine lv_aload (pc := 94) hx hb dX8_copy_94 (lv_at hl 1 rfl) ?_
                    refine va_get (D := D) (ci := 5) (v := .ref ((a 11) 1)) (C := RX5) (T := TX5) (N := 3) (pc := 96) hx hb hfX5 (fun _ h9 => h9) hown hK (show va_P D vwCl (wX5 (a 11) c (X (11 + 0))) _ from hP 11 (by decide)) 0 rfl rfl 0 (by decide) lk2 (fun _ h9 => h9) rfl dX8_copy_96 ?_
                    refine lv_iload_n (pc := 99) hx hb dX8_copy_99 rfl (lv_at hl 4 rfl) ?_
                    refine lv_aload (pc := 100) hx hb dX8_copy_100 (lv_at hl 0 rfl) ?_
                    refine va_get (D := D) (ci := 5) (v := .ref ((a 11) 1)) (C := RX5) (T := TX5) (N := 3) (pc := 102) hx hb hfX5 (fun _ h9 => h9) hown hK (show va_P D vwCl (wX5 (a 11) c (X (11 + 0))) _ from hP 11 (by decide)) 0 rfl rfl 0 (by decide) lk2 (fun _ h9 => h9) rfl dX8_copy_102 ?_
                    refine lv_iload (pc := 105) hx hb dX8_copy_105 (lv_at hl 6 rfl) ?_
                    refine lv_iload (pc := 107) hx hb dX8_copy_107 (lv_at hl 7 rfl) ?_
                    obtain ⟨hk109, h⟩ := ckP_i h
                    obtain ⟨z1, z2, z3, z4, z5⟩ := of_decide_eq_true hk109
                    have hP1 := hP.one (11 + 0) (by decide)
                    have hD1 := hD.one c X (11 + 0) (by decide) (X (11 + 0))
                    refine va_copyi (f := ((X (11 + 0)).1 0)) (g := ((X (11 + 0)).1 0)) (ty := .int) (pc := 109) hx hb (by rw [hml]; exact hl.1.symm) hown lk3 lk4 lk5 lk6 hK hP1 hD1 hS 1 1 0 0 (g_atS a c (X (11 + 0)) _ 0 (by decide)) (g_atS a c (X (11 + 0)) _ 0 (by decide)) rfl rfl rfl z1 z2 z3 z4 z5 (fun _ _ => rfl) (Nat.le_of_ble_eq_true rfl) (Nat.le_of_ble_eq_true (by decide +kernel)) dX8_copy_109 (fun H locs hP _ hS => ?_)
                    have hP : XP D a c (xs X (11 + 0) (mr (X (11 + 0)) 0 (va_cpy ((X (11 + 0)).1 0) ((X (11 + 0)).1 0) (p1).toNatClampNeg (p3).toNatClampNeg (p4).toNatClampNeg))) H := XP.setS (k := 0) (by decide) hP
                    refine lv_iload (pc := 112) hx hb dX8_copy_112 (lv_at hl 7 rfl) ?_
                    have kr := KR p4 (xs X (11 + 0) (mr (X (11 + 0)) 0 (va_cpy ((X (11 + 0)).1 0) ((X (11 + 0)).1 0) (p1).toNatClampNeg (p3).toNatClampNeg (p4).toNatClampNeg))) _ _ 114 ls h rfl hP hS dX8_copy_114
                    exact kr
                  · replace h := it_t c88 h
                    refine lv_bipush (v := -12) (pc := 91) hx hb dX8_copy_91 (by decide) ?_
                    have kr := KR (-12 : Int32) X _ _ 93 ls h rfl hP hS dX8_copy_93
                    exact kr
              · replace h := it_f c62 h
                refine lv_bipush (v := -13) (pc := 65) hx hb dX8_copy_65 (by decide) ?_
                have kr := KR (-13 : Int32) X _ _ 67 ls h rfl hP hS dX8_copy_67
                exact kr
            · replace h := it_f c46 h
              refine lv_bipush (v := -11) (pc := 49) hx hb dX8_copy_49 (by decide) ?_
              have kr := KR (-11 : Int32) X _ _ 51 ls h rfl hP hS dX8_copy_51
              exact kr
        · refine g_aald (v := a 12 0) (pc := 30) hx hb hK (show va_P D vwCl (wX8 a c (X 0)) _ from hP 0 (by decide)) 1 3 rfl rfl hk30 ek30 rfl dX8_copy_30 ?_
          refine lv_astore (lv' := [(7, .ref ((a 12) 0)), (6, .ref ((a 11) 0)), (0, .ref (a 0 0)), (1, .int p0), (2, .int p1), (3, .int p2), (4, .int p3), (5, .int p4)]) (pc := 31) hx hb dX8_copy_31 hl (by decide) rfl (fun ls hl => ?_)
          refine lv_aload (pc := 33) hx hb dX8_copy_33 (lv_at hl 1 rfl) ?_
          obtain ⟨r35, hc35, h⟩ := b1_i h
          have hw : (wX5 (a 11) c (X (11 + 0))).map (·.1) = [11].flatMap (uA a) := rfl
          have hPc : va_P D vwCl (wX5 (a 11) c (X (11 + 0))) _ := hP 11 (by decide)
          have hDc : va_D A (wX5 (a 11) c (X (11 + 0))) := hD.of_addr (by decide) (by decide) hw
          refine g_X (X' := X) (st1 := [.int r35]) (gr_V (n := 0) (rest := []) (pc := 35) hx hb hml hown hts (cX5_isMissing_met l D c tb sa sv (a 11) (X (11 + 0)) _ hc35) gX8_copy_X5_isMissing rfl rfl rfl (by decide +kernel) rfl ⟨Nat.le_of_ble_eq_true rfl, Nat.le_of_ble_eq_true rfl⟩ ⟨Nat.zero_le _, Nat.zero_le _⟩ 0 5 rfl rfl rfl xE_ok hPc hDc hK (xE_ok.tr hE hS (g_freeX hD hS hA (by decide) (addr0 hw))) hl.1 (Nat.le_of_ble_eq_true rfl) dX8_copy_35 rfl) hP hD hS hA (ks := [11]) (by decide) (addr0 hw) (fun k9 _ hk9 => rfl) (fun H1 hw1 => (List.forall_mem_cons.mpr ⟨hw1, (fun _ h9 => absurd h9 List.not_mem_nil)⟩)) rfl (fun H locs hP hS => ?_)
          refine lv_if_ne (tgt := 49) (pc := 38) hx hb dX8_copy_38 (by decide) (fun c38 => ?_) (fun c38 => ?_)
          · replace h := it_f c38 h
            refine lv_bipush (v := -11) (pc := 49) hx hb dX8_copy_49 (by decide) ?_
            have kr := KR (-11 : Int32) X _ _ 51 ls h rfl hP hS dX8_copy_51
            exact kr
          · replace h := it_t c38 h
            refine lv_aload (pc := 41) hx hb dX8_copy_41 (lv_at hl 0 rfl) ?_
            obtain ⟨r43, hc43, h⟩ := b1_i h
            have hw : (wX5 (a 12) c (X (11 + 1))).map (·.1) = [12].flatMap (uA a) := rfl
            have hPc : va_P D vwCl (wX5 (a 12) c (X (11 + 1))) _ := hP 12 (by decide)
            have hDc : va_D A (wX5 (a 12) c (X (11 + 1))) := hD.of_addr (by decide) (by decide) hw
            refine g_X (X' := X) (st1 := [.int r43]) (gr_V (n := 0) (rest := []) (pc := 43) hx hb hml hown hts (cX5_isMissing_met l D c tb sa sv (a 12) (X (11 + 1)) _ hc43) gX8_copy_X5_isMissing rfl rfl rfl (by decide +kernel) rfl ⟨Nat.le_of_ble_eq_true rfl, Nat.le_of_ble_eq_true rfl⟩ ⟨Nat.zero_le _, Nat.zero_le _⟩ 0 5 rfl rfl rfl xE_ok hPc hDc hK (xE_ok.tr hE hS (g_freeX hD hS hA (by decide) (addr0 hw))) hl.1 (Nat.le_of_ble_eq_true rfl) dX8_copy_43 rfl) hP hD hS hA (ks := [12]) (by decide) (addr0 hw) (fun k9 _ hk9 => rfl) (fun H1 hw1 => (List.forall_mem_cons.mpr ⟨hw1, (fun _ h9 => absurd h9 List.not_mem_nil)⟩)) rfl (fun H locs hP hS => ?_)
            refine lv_if_eq (tgt := 52) (pc := 46) hx hb dX8_copy_46 (by decide) (fun c46 => ?_) (fun c46 => ?_)
            · replace h := it_t c46 h
              refine lv_aload (pc := 52) hx hb dX8_copy_52 (lv_at hl 1 rfl) ?_
              refine va_get (D := D) (ci := 5) (v := .int ((X (11 + 0)).1 1 0)) (C := RX5) (T := TX5) (N := 3) (pc := 54) hx hb hfX5 (fun _ h9 => h9) hown hK (show va_P D vwCl (wX5 (a 11) c (X (11 + 0))) _ from hP 11 (by decide)) 0 rfl rfl 1 (by decide) lk1 (fun _ h9 => h9) rfl dX8_copy_54 ?_
              refine lv_aload (pc := 57) hx hb dX8_copy_57 (lv_at hl 0 rfl) ?_
              refine va_get (D := D) (ci := 5) (v := .int ((X (11 + 1)).1 1 0)) (C := RX5) (T := TX5) (N := 3) (pc := 59) hx hb hfX5 (fun _ h9 => h9) hown hK (show va_P D vwCl (wX5 (a 12) c (X (11 + 1))) _ from hP 12 (by decide)) 0 rfl rfl 1 (by decide) lk1 (fun _ h9 => h9) rfl dX8_copy_59 ?_
              refine lv_icmp_eq (tgt := 68) (pc := 62) hx hb dX8_copy_62 (by decide) (fun c62 => ?_) (fun c62 => ?_)
              · replace h := it_t c62 h
                refine lv_aload (pc := 68) hx hb dX8_copy_68 (lv_at hl 1 rfl) ?_
                refine lv_iload_n (pc := 70) hx hb dX8_copy_70 rfl (lv_at hl 4 rfl) ?_
                refine lv_iload (pc := 71) hx hb dX8_copy_71 (lv_at hl 7 rfl) ?_
                obtain ⟨r73, hc73, h⟩ := b1_i h
                have hw : (wX5 (a 11) c (X (11 + 0))).map (·.1) = [11].flatMap (uA a) := rfl
                have hPc : va_P D vwCl (wX5 (a 11) c (X (11 + 0))) _ := hP 11 (by decide)
                have hDc : va_D A (wX5 (a 11) c (X (11 + 0))) := hD.of_addr (by decide) (by decide) hw
                refine g_X (X' := X) (st1 := [.int r73]) (gr_V (n := 2) (rest := []) (pc := 73) hx hb hml hown hts (cX5_hasRun_met l D c tb sa sv (a 11) p1 p4 (X (11 + 0)) _ hc73) gX8_copy_X5_hasRun rfl rfl rfl (by decide +kernel) rfl ⟨Nat.le_of_ble_eq_true rfl, Nat.le_of_ble_eq_true rfl⟩ ⟨Nat.zero_le _, Nat.zero_le _⟩ 0 5 rfl rfl rfl xE_ok hPc hDc hK (xE_ok.tr hE hS (g_freeX hD hS hA (by decide) (addr0 hw))) hl.1 (Nat.le_of_ble_eq_true rfl) dX8_copy_73 rfl) hP hD hS hA (ks := [11]) (by decide) (addr0 hw) (fun k9 _ hk9 => rfl) (fun H1 hw1 => (List.forall_mem_cons.mpr ⟨hw1, (fun _ h9 => absurd h9 List.not_mem_nil)⟩)) rfl (fun H locs hP hS => ?_)
                refine lv_if_eq (tgt := 91) (pc := 76) hx hb dX8_copy_76 (by decide) (fun c76 => ?_) (fun c76 => ?_)
                · replace h := it_t c76 h
                  refine lv_bipush (v := -12) (pc := 91) hx hb dX8_copy_91 (by decide) ?_
                  have kr := KR (-12 : Int32) X _ _ 93 ls h rfl hP hS dX8_copy_93
                  exact kr
                · replace h := it_f c76 h
                  refine lv_aload (pc := 79) hx hb dX8_copy_79 (lv_at hl 0 rfl) ?_
                  refine lv_iload (pc := 81) hx hb dX8_copy_81 (lv_at hl 6 rfl) ?_
                  refine lv_iload (pc := 83) hx hb dX8_copy_83 (lv_at hl 7 rfl) ?_
                  obtain ⟨r85, hc85, h⟩ := b1_i h
                  have hw : (wX5 (a 12) c (X (11 + 1))).map (·.1) = [12].flatMap (uA a) := rfl
                  have hPc : va_P D vwCl (wX5 (a 12) c (X (11 + 1))) _ := hP 12 (by decide)
                  have hDc : va_D A (wX5 (a 12) c (X (11 + 1))) := hD.of_addr (by decide) (by decide) hw
                  refine g_X (X' := X) (st1 := [.int r85]) (gr_V (n := 2) (rest := []) (pc := 85) hx hb hml hown hts (cX5_hasRun_met l D c tb sa sv (a 12) p3 p4 (X (11 + 1)) _ hc85) gX8_copy_X5_hasRun rfl rfl rfl (by decide +kernel) rfl ⟨Nat.le_of_ble_eq_true rfl, Nat.le_of_ble_eq_true rfl⟩ ⟨Nat.zero_le _, Nat.zero_le _⟩ 0 5 rfl rfl rfl xE_ok hPc hDc hK (xE_ok.tr hE hS (g_freeX hD hS hA (by decide) (addr0 hw))) hl.1 (Nat.le_of_ble_eq_true rfl) dX8_copy_85 rfl) hP hD hS hA (ks := [12]) (by decide) (addr0 hw) (fun k9 _ hk9 => rfl) (fun H1 hw1 => (List.forall_mem_cons.mpr ⟨hw1, (fun _ h9 => absurd h9 List.not_mem_nil)⟩)) rfl (fun H locs hP hS => ?_)
                  refine lv_if_ne (tgt := 94) (pc := 88) hx hb dX8_copy_88 (by decide) (fun c88 => ?_) (fun c88 => ?_)
                  · replace h := it_f c88 h
                    refine lv_aload (pc := 94) hx hb dX8_copy_94 (lv_at hl 1 rfl) ?_
                    refine va_get (D := D) (ci := 5) (v := .ref ((a 11) 1)) (C := RX5) (T := TX5) (N := 3) (pc := 96) hx hb hfX5 (fun _ h9 => h9) hown hK (show va_P D vwCl (wX5 (a 11) c (X (11 + 0))) _ from hP 11 (by decide)) 0 rfl rfl 0 (by decide) lk2 (fun _ h9 => h9) rfl dX8_copy_96 ?_
                    refine lv_iload_n (pc := 99) hx hb dX8_copy_99 rfl (lv_at hl 4 rfl) ?_
                    refine lv_aload (pc := 100) hx hb dX8_copy_100 (lv_at hl 0 rfl) ?_
                    refine va_get (D := D) (ci := 5) (v := .ref ((a 12) 1)) (C := RX5) (T := TX5) (N := 3) (pc := 102) hx hb hfX5 (fun _ h9 => h9) hown hK (show va_P D vwCl (wX5 (a 12) c (X (11 + 1))) _ from hP 12 (by decide)) 0 rfl rfl 0 (by decide) lk2 (fun _ h9 => h9) rfl dX8_copy_102 ?_
                    refine lv_iload (pc := 105) hx hb dX8_copy_105 (lv_at hl 6 rfl) ?_
                    refine lv_iload (pc := 107) hx hb dX8_copy_107 (lv_at hl 7 rfl) ?_
                    obtain ⟨hk109, h⟩ := ckP_i h
                    obtain ⟨z1, z2, z3, z4, z5⟩ := of_decide_eq_true hk109
                    have hP1 := hP.one (11 + 1) (by decide)
                    have hD1 := hD.one c X (11 + 1) (by decide) (X (11 + 1))
                    obtain ⟨q109, hq109⟩ := XR.mem (c := c) (X := X) (σ := (X (11 + 1))) (j := (11 + 0)) (k := (11 + 1)) (by decide) (by decide) (q := (a (11 + 0) 1, .inl (c 0, 40, .inl ((X (11 + 0)).1 0)))) (g_memS a c (X (11 + 0)) 0 (by decide))
                    refine va_copyi (f := ((X (11 + 0)).1 0)) (g := ((X (11 + 1)).1 0)) (ty := .int) (pc := 109) hx hb (by rw [hml]; exact hl.1.symm) hown lk3 lk4 lk5 lk6 hK hP1 hD1 hS q109 1 0 0 hq109 (g_atS a c (X (11 + 1)) _ 1 (by decide)) rfl rfl rfl z1 z2 z3 z4 z5 (fun _ _ => rfl) (Nat.le_of_ble_eq_true rfl) (Nat.le_of_ble_eq_true (by decide +kernel)) dX8_copy_109 (fun H locs hP _ hS => ?_)
                    have hP : XP D a c (xs X (11 + 1) (mr (X (11 + 1)) 0 (va_cpy ((X (11 + 0)).1 0) ((X (11 + 1)).1 0) (p1).toNatClampNeg (p3).toNatClampNeg (p4).toNatClampNeg))) H := XP.setS (k := 1) (by decide) hP
                    refine lv_iload (pc := 112) hx hb dX8_copy_112 (lv_at hl 7 rfl) ?_
                    have kr := KR p4 (xs X (11 + 1) (mr (X (11 + 1)) 0 (va_cpy ((X (11 + 0)).1 0) ((X (11 + 1)).1 0) (p1).toNatClampNeg (p3).toNatClampNeg (p4).toNatClampNeg))) _ _ 114 ls h rfl hP hS dX8_copy_114
                    exact kr
                  · replace h := it_t c88 h
                    refine lv_bipush (v := -12) (pc := 91) hx hb dX8_copy_91 (by decide) ?_
                    have kr := KR (-12 : Int32) X _ _ 93 ls h rfl hP hS dX8_copy_93
                    exact kr
              · replace h := it_f c62 h
                refine lv_bipush (v := -13) (pc := 65) hx hb dX8_copy_65 (by decide) ?_
                have kr := KR (-13 : Int32) X _ _ 67 ls h rfl hP hS dX8_copy_67
                exact kr
            · replace h := it_f c46 h
              refine lv_bipush (v := -11) (pc := 49) hx hb dX8_copy_49 (by decide) ?_
              have kr := KR (-11 : Int32) X _ _ 51 ls h rfl hP hS dX8_copy_51
              exact kr
        · refine g_aald (v := a 13 0) (pc := 30) hx hb hK (show va_P D vwCl (wX8 a c (X 0)) _ from hP 0 (by decide)) 1 3 rfl rfl hk30 ek30 rfl dX8_copy_30 ?_
          refine lv_astore (lv' := [(7, .ref ((a 13) 0)), (6, .ref ((a 11) 0)), (0, .ref (a 0 0)), (1, .int p0), (2, .int p1), (3, .int p2), (4, .int p3), (5, .int p4)]) (pc := 31) hx hb dX8_copy_31 hl (by decide) rfl (fun ls hl => ?_)
          refine lv_aload (pc := 33) hx hb dX8_copy_33 (lv_at hl 1 rfl) ?_
          obtain ⟨r35, hc35, h⟩ := b1_i h
          have hw : (wX5 (a 11) c (X (11 + 0))).map (·.1) = [11].flatMap (uA a) := rfl
          have hPc : va_P D vwCl (wX5 (a 11) c (X (11 + 0))) _ := hP 11 (by decide)
          have hDc : va_D A (wX5 (a 11) c (X (11 + 0))) := hD.of_addr (by decide) (by decide) hw
          refine g_X (X' := X) (st1 := [.int r35]) (gr_V (n := 0) (rest := []) (pc := 35) hx hb hml hown hts (cX5_isMissing_met l D c tb sa sv (a 11) (X (11 + 0)) _ hc35) gX8_copy_X5_isMissing rfl rfl rfl (by decide +kernel) rfl ⟨Nat.le_of_ble_eq_true rfl, Nat.le_of_ble_eq_true rfl⟩ ⟨Nat.zero_le _, Nat.zero_le _⟩ 0 5 rfl rfl rfl xE_ok hPc hDc hK (xE_ok.tr hE hS (g_freeX hD hS hA (by decide) (addr0 hw))) hl.1 (Nat.le_of_ble_eq_true rfl) dX8_copy_35 rfl) hP hD hS hA (ks := [11]) (by decide) (addr0 hw) (fun k9 _ hk9 => rfl) (fun H1 hw1 => (List.forall_mem_cons.mpr ⟨hw1, (fun _ h9 => absurd h9 List.not_mem_nil)⟩)) rfl (fun H locs hP hS => ?_)
          refine lv_if_ne (tgt := 49) (pc := 38) hx hb dX8_copy_38 (by decide) (fun c38 => ?_) (fun c38 => ?_)
          · replace h := it_f c38 h
            refine lv_bipush (v := -11) (pc := 49) hx hb dX8_copy_49 (by decide) ?_
            have kr := KR (-11 : Int32) X _ _ 51 ls h rfl hP hS dX8_copy_51
            exact kr
          · replace h := it_t c38 h
            refine lv_aload (pc := 41) hx hb dX8_copy_41 (lv_at hl 0 rfl) ?_
            obtain ⟨r43, hc43, h⟩ := b1_i h
            have hw : (wX5 (a 13) c (X (11 + 2))).map (·.1) = [13].flatMap (uA a) := rfl
            have hPc : va_P D vwCl (wX5 (a 13) c (X (11 + 2))) _ := hP 13 (by decide)
            have hDc : va_D A (wX5 (a 13) c (X (11 + 2))) := hD.of_addr (by decide) (by decide) hw
            refine g_X (X' := X) (st1 := [.int r43]) (gr_V (n := 0) (rest := []) (pc := 43) hx hb hml hown hts (cX5_isMissing_met l D c tb sa sv (a 13) (X (11 + 2)) _ hc43) gX8_copy_X5_isMissing rfl rfl rfl (by decide +kernel) rfl ⟨Nat.le_of_ble_eq_true rfl, Nat.le_of_ble_eq_true rfl⟩ ⟨Nat.zero_le _, Nat.zero_le _⟩ 0 5 rfl rfl rfl xE_ok hPc hDc hK (xE_ok.tr hE hS (g_freeX hD hS hA (by decide) (addr0 hw))) hl.1 (Nat.le_of_ble_eq_true rfl) dX8_copy_43 rfl) hP hD hS hA (ks := [13]) (by decide) (addr0 hw) (fun k9 _ hk9 => rfl) (fun H1 hw1 => (List.forall_mem_cons.mpr ⟨hw1, (fun _ h9 => absurd h9 List.not_mem_nil)⟩)) rfl (fun H locs hP hS => ?_)
            refine lv_if_eq (tgt := 52) (pc := 46) hx hb dX8_copy_46 (by decide) (fun c46 => ?_) (fun c46 => ?_)
            · replace h := it_t c46 h
              refine lv_aload (pc := 52) hx hb dX8_copy_52 (lv_at hl 1 rfl) ?_
              refine va_get (D := D) (ci := 5) (v := .int ((X (11 + 0)).1 1 0)) (C := RX5) (T := TX5) (N := 3) (pc := 54) hx hb hfX5 (fun _ h9 => h9) hown hK (show va_P D vwCl (wX5 (a 11) c (X (11 + 0))) _ from hP 11 (by decide)) 0 rfl rfl 1 (by decide) lk1 (fun _ h9 => h9) rfl dX8_copy_54 ?_
              refine lv_aload (pc := 57) hx hb dX8_copy_57 (lv_at hl 0 rfl) ?_
              refine va_get (D := D) (ci := 5) (v := .int ((X (11 + 2)).1 1 0)) (C := RX5) (T := TX5) (N := 3) (pc := 59) hx hb hfX5 (fun _ h9 => h9) hown hK (show va_P D vwCl (wX5 (a 13) c (X (11 + 2))) _ from hP 13 (by decide)) 0 rfl rfl 1 (by decide) lk1 (fun _ h9 => h9) rfl dX8_copy_59 ?_
              refine lv_icmp_eq (tgt := 68) (pc := 62) hx hb dX8_copy_62 (by decide) (fun c62 => ?_) (fun c62 => ?_)
              · replace h := it_t c62 h
                refine lv_aload (pc := 68) hx hb dX8_copy_68 (lv_at hl 1 rfl) ?_
                refine lv_iload_n (pc := 70) hx hb dX8_copy_70 rfl (lv_at hl 4 rfl) ?_
                refine lv_iload (pc := 71) hx hb dX8_copy_71 (lv_at hl 7 rfl) ?_
                obtain ⟨r73, hc73, h⟩ := b1_i h
                have hw : (wX5 (a 11) c (X (11 + 0))).map (·.1) = [11].flatMap (uA a) := rfl
                have hPc : va_P D vwCl (wX5 (a 11) c (X (11 + 0))) _ := hP 11 (by decide)
                have hDc : va_D A (wX5 (a 11) c (X (11 + 0))) := hD.of_addr (by decide) (by decide) hw
                refine g_X (X' := X) (st1 := [.int r73]) (gr_V (n := 2) (rest := []) (pc := 73) hx hb hml hown hts (cX5_hasRun_met l D c tb sa sv (a 11) p1 p4 (X (11 + 0)) _ hc73) gX8_copy_X5_hasRun rfl rfl rfl (by decide +kernel) rfl ⟨Nat.le_of_ble_eq_true rfl, Nat.le_of_ble_eq_true rfl⟩ ⟨Nat.zero_le _, Nat.zero_le _⟩ 0 5 rfl rfl rfl xE_ok hPc hDc hK (xE_ok.tr hE hS (g_freeX hD hS hA (by decide) (addr0 hw))) hl.1 (Nat.le_of_ble_eq_true rfl) dX8_copy_73 rfl) hP hD hS hA (ks := [11]) (by decide) (addr0 hw) (fun k9 _ hk9 => rfl) (fun H1 hw1 => (List.forall_mem_cons.mpr ⟨hw1, (fun _ h9 => absurd h9 List.not_mem_nil)⟩)) rfl (fun H locs hP hS => ?_)
                refine lv_if_eq (tgt := 91) (pc := 76) hx hb dX8_copy_76 (by decide) (fun c76 => ?_) (fun c76 => ?_)
                · replace h := it_t c76 h
                  refine lv_bipush (v := -12) (pc := 91) hx hb dX8_copy_91 (by decide) ?_
                  have kr := KR (-12 : Int32) X _ _ 93 ls h rfl hP hS dX8_copy_93
                  exact kr
                · replace h := it_f c76 h
                  refine lv_aload (pc := 79) hx hb dX8_copy_79 (lv_at hl 0 rfl) ?_
                  refine lv_iload (pc := 81) hx hb dX8_copy_81 (lv_at hl 6 rfl) ?_
                  refine lv_iload (pc := 83) hx hb dX8_copy_83 (lv_at hl 7 rfl) ?_
                  obtain ⟨r85, hc85, h⟩ := b1_i h
                  have hw : (wX5 (a 13) c (X (11 + 2))).map (·.1) = [13].flatMap (uA a) := rfl
                  have hPc : va_P D vwCl (wX5 (a 13) c (X (11 + 2))) _ := hP 13 (by decide)
                  have hDc : va_D A (wX5 (a 13) c (X (11 + 2))) := hD.of_addr (by decide) (by decide) hw
                  refine g_X (X' := X) (st1 := [.int r85]) (gr_V (n := 2) (rest := []) (pc := 85) hx hb hml hown hts (cX5_hasRun_met l D c tb sa sv (a 13) p3 p4 (X (11 + 2)) _ hc85) gX8_copy_X5_hasRun rfl rfl rfl (by decide +kernel) rfl ⟨Nat.le_of_ble_eq_true rfl, Nat.le_of_ble_eq_true rfl⟩ ⟨Nat.zero_le _, Nat.zero_le _⟩ 0 5 rfl rfl rfl xE_ok hPc hDc hK (xE_ok.tr hE hS (g_freeX hD hS hA (by decide) (addr0 hw))) hl.1 (Nat.le_of_ble_eq_true rfl) dX8_copy_85 rfl) hP hD hS hA (ks := [13]) (by decide) (addr0 hw) (fun k9 _ hk9 => rfl) (fun H1 hw1 => (List.forall_mem_cons.mpr ⟨hw1, (fun _ h9 => absurd h9 List.not_mem_nil)⟩)) rfl (fun H locs hP hS => ?_)
                  refine lv_if_ne (tgt := 94) (pc := 88) hx hb dX8_copy_88 (by decide) (fun c88 => ?_) (fun c88 => ?_)
                  · replace h := it_f c88 h
                    refine lv_aload (pc := 94) hx hb dX8_copy_94 (lv_at hl 1 rfl) ?_
                    refine va_get (D := D) (ci := 5) (v := .ref ((a 11) 1)) (C := RX5) (T := TX5) (N := 3) (pc := 96) hx hb hfX5 (fun _ h9 => h9) hown hK (show va_P D vwCl (wX5 (a 11) c (X (11 + 0))) _ from hP 11 (by decide)) 0 rfl rfl 0 (by decide) lk2 (fun _ h9 => h9) rfl dX8_copy_96 ?_
                    refine lv_iload_n (pc := 99) hx hb dX8_copy_99 rfl (lv_at hl 4 rfl) ?_
                    refine lv_aload (pc := 100) hx hb dX8_copy_100 (lv_at hl 0 rfl) ?_
                    refine va_get (D := D) (ci := 5) (v := .ref ((a 13) 1)) (C := RX5) (T := TX5) (N := 3) (pc := 102) hx hb hfX5 (fun _ h9 => h9) hown hK (show va_P D vwCl (wX5 (a 13) c (X (11 + 2))) _ from hP 13 (by decide)) 0 rfl rfl 0 (by decide) lk2 (fun _ h9 => h9) rfl dX8_copy_102 ?_
                    refine lv_iload (pc := 105) hx hb dX8_copy_105 (lv_at hl 6 rfl) ?_
                    refine lv_iload (pc := 107) hx hb dX8_copy_107 (lv_at hl 7 rfl) ?_
                    obtain ⟨hk109, h⟩ := ckP_i h
                    obtain ⟨z1, z2, z3, z4, z5⟩ := of_decide_eq_true hk109
                    have hP1 := hP.one (11 + 2) (by decide)
                    have hD1 := hD.one c X (11 + 2) (by decide) (X (11 + 2))
                    obtain ⟨q109, hq109⟩ := XR.mem (c := c) (X := X) (σ := (X (11 + 2))) (j := (11 + 0)) (k := (11 + 2)) (by decide) (by decide) (q := (a (11 + 0) 1, .inl (c 0, 40, .inl ((X (11 + 0)).1 0)))) (g_memS a c (X (11 + 0)) 0 (by decide))
                    refine va_copyi (f := ((X (11 + 0)).1 0)) (g := ((X (11 + 2)).1 0)) (ty := .int) (pc := 109) hx hb (by rw [hml]; exact hl.1.symm) hown lk3 lk4 lk5 lk6 hK hP1 hD1 hS q109 1 0 0 hq109 (g_atS a c (X (11 + 2)) _ 2 (by decide)) rfl rfl rfl z1 z2 z3 z4 z5 (fun _ _ => rfl) (Nat.le_of_ble_eq_true rfl) (Nat.le_of_ble_eq_true (by decide +kernel)) dX8_copy_109 (fun H locs hP _ hS => ?_)
                    have hP : XP D a c (xs X (11 + 2) (mr (X (11 + 2)) 0 (va_cpy ((X (11 + 0)).1 0) ((X (11 + 2)).1 0) (p1).toNatClampNeg (p3).toNatClampNeg (p4).toNatClampNeg))) H := XP.setS (k := 2) (by decide) hP
                    refine lv_iload (pc := 112) hx hb dX8_copy_112 (lv_at hl 7 rfl) ?_
                    have kr := KR p4 (xs X (11 + 2) (mr (X (11 + 2)) 0 (va_cpy ((X (11 + 0)).1 0) ((X (11 + 2)).1 0) (p1).toNatClampNeg (p3).toNatClampNeg (p4).toNatClampNeg))) _ _ 114 ls h rfl hP hS dX8_copy_114
                    exact kr
                  · replace h := it_t c88 h
                    refine lv_bipush (v := -12) (pc := 91) hx hb dX8_copy_91 (by decide) ?_
                    have kr := KR (-12 : Int32) X _ _ 93 ls h rfl hP hS dX8_copy_93
                    exact kr
              · replace h := it_f c62 h
                refine lv_bipush (v := -13) (pc := 65) hx hb dX8_copy_65 (by decide) ?_
                have kr := KR (-13 : Int32) X _ _ 67 ls h rfl hP hS dX8_copy_67
                exact kr
            · replace h := it_f c46 h
              refine lv_bipush (v := -11) (pc := 49) hx hb dX8_copy_49 (by decide) ?_
              have kr := KR (-11 : Int32) X _ _ 51 ls h rfl hP hS dX8_copy_51
              exact kr
        · refine g_aald (v := a 14 0) (pc := 30) hx hb hK (show va_P D vwCl (wX8 a c (X 0)) _ from hP 0 (by decide)) 1 3 rfl rfl hk30 ek30 rfl dX8_copy_30 ?_
          refine lv_astore (lv' := [(7, .ref ((a 14) 0)), (6, .ref ((a 11) 0)), (0, .ref (a 0 0)), (1, .int p0), (2, .int p1), (3, .int p2), (4, .int p3), (5, .int p4)]) (pc := 31) hx hb dX8_copy_31 hl (by decide) rfl (fun ls hl => ?_)
          refine lv_aload (pc := 33) hx hb dX8_copy_33 (lv_at hl 1 rfl) ?_
          obtain ⟨r35, hc35, h⟩ := b1_i h
          have hw : (wX5 (a 11) c (X (11 + 0))).map (·.1) = [11].flatMap (uA a) := rfl
          have hPc : va_P D vwCl (wX5 (a 11) c (X (11 + 0))) _ := hP 11 (by decide)
          have hDc : va_D A (wX5 (a 11) c (X (11 + 0))) := hD.of_addr (by decide) (by decide) hw
          refine g_X (X' := X) (st1 := [.int r35]) (gr_V (n := 0) (rest := []) (pc := 35) hx hb hml hown hts (cX5_isMissing_met l D c tb sa sv (a 11) (X (11 + 0)) _ hc35) gX8_copy_X5_isMissing rfl rfl rfl (by decide +kernel) rfl ⟨Nat.le_of_ble_eq_true rfl, Nat.le_of_ble_eq_true rfl⟩ ⟨Nat.zero_le _, Nat.zero_le _⟩ 0 5 rfl rfl rfl xE_ok hPc hDc hK (xE_ok.tr hE hS (g_freeX hD hS hA (by decide) (addr0 hw))) hl.1 (Nat.le_of_ble_eq_true rfl) dX8_copy_35 rfl) hP hD hS hA (ks := [11]) (by decide) (addr0 hw) (fun k9 _ hk9 => rfl) (fun H1 hw1 => (List.forall_mem_cons.mpr ⟨hw1, (fun _ h9 => absurd h9 List.not_mem_nil)⟩)) rfl (fun H locs hP hS => ?_)
          refine lv_if_ne (tgt := 49) (pc := 38) hx hb dX8_copy_38 (by decide) (fun c38 => ?_) (fun c38 => ?_)
          · replace h := it_f c38 h
            refine lv_bipush (v := -11) (pc := 49) hx hb dX8_copy_49 (by decide) ?_
            have kr := KR (-11 : Int32) X _ _ 51 ls h rfl hP hS dX8_copy_51
            exact kr
          · replace h := it_t c38 h
            refine lv_aload (pc := 41) hx hb dX8_copy_41 (lv_at hl 0 rfl) ?_
            obtain ⟨r43, hc43, h⟩ := b1_i h
            have hw : (wX5 (a 14) c (X (11 + 3))).map (·.1) = [14].flatMap (uA a) := rfl
            have hPc : va_P D vwCl (wX5 (a 14) c (X (11 + 3))) _ := hP 14 (by decide)
            have hDc : va_D A (wX5 (a 14) c (X (11 + 3))) := hD.of_addr (by decide) (by decide) hw
            refine g_X (X' := X) (st1 := [.int r43]) (gr_V (n := 0) (rest := []) (pc := 43) hx hb hml hown hts (cX5_isMissing_met l D c tb sa sv (a 14) (X (11 + 3)) _ hc43) gX8_copy_X5_isMissing rfl rfl rfl (by decide +kernel) rfl ⟨Nat.le_of_ble_eq_true rfl, Nat.le_of_ble_eq_true rfl⟩ ⟨Nat.zero_le _, Nat.zero_le _⟩ 0 5 rfl rfl rfl xE_ok hPc hDc hK (xE_ok.tr hE hS (g_freeX hD hS hA (by decide) (addr0 hw))) hl.1 (Nat.le_of_ble_eq_true rfl) dX8_copy_43 rfl) hP hD hS hA (ks := [14]) (by decide) (addr0 hw) (fun k9 _ hk9 => rfl) (fun H1 hw1 => (List.forall_mem_cons.mpr ⟨hw1, (fun _ h9 => absurd h9 List.not_mem_nil)⟩)) rfl (fun H locs hP hS => ?_)
            refine lv_if_eq (tgt := 52) (pc := 46) hx hb dX8_copy_46 (by decide) (fun c46 => ?_) (fun c46 => ?_)
            · replace h := it_t c46 h
              refine lv_aload (pc := 52) hx hb dX8_copy_52 (lv_at hl 1 rfl) ?_
              refine va_get (D := D) (ci := 5) (v := .int ((X (11 + 0)).1 1 0)) (C := RX5) (T := TX5) (N := 3) (pc := 54) hx hb hfX5 (fun _ h9 => h9) hown hK (show va_P D vwCl (wX5 (a 11) c (X (11 + 0))) _ from hP 11 (by decide)) 0 rfl rfl 1 (by decide) lk1 (fun _ h9 => h9) rfl dX8_copy_54 ?_
              refine lv_aload (pc := 57) hx hb dX8_copy_57 (lv_at hl 0 rfl) ?_
              refine va_get (D := D) (ci := 5) (v := .int ((X (11 + 3)).1 1 0)) (C := RX5) (T := TX5) (N := 3) (pc := 59) hx hb hfX5 (fun _ h9 => h9) hown hK (show va_P D vwCl (wX5 (a 14) c (X (11 + 3))) _ from hP 14 (by decide)) 0 rfl rfl 1 (by decide) lk1 (fun _ h9 => h9) rfl dX8_copy_59 ?_
              refine lv_icmp_eq (tgt := 68) (pc := 62) hx hb dX8_copy_62 (by decide) (fun c62 => ?_) (fun c62 => ?_)
              · replace h := it_t c62 h
                refine lv_aload (pc := 68) hx hb dX8_copy_68 (lv_at hl 1 rfl) ?_
                refine lv_iload_n (pc := 70) hx hb dX8_copy_70 rfl (lv_at hl 4 rfl) ?_
                refine lv_iload (pc := 71) hx hb dX8_copy_71 (lv_at hl 7 rfl) ?_
                obtain ⟨r73, hc73, h⟩ := b1_i h
                have hw : (wX5 (a 11) c (X (11 + 0))).map (·.1) = [11].flatMap (uA a) := rfl
                have hPc : va_P D vwCl (wX5 (a 11) c (X (11 + 0))) _ := hP 11 (by decide)
                have hDc : va_D A (wX5 (a 11) c (X (11 + 0))) := hD.of_addr (by decide) (by decide) hw
                refine g_X (X' := X) (st1 := [.int r73]) (gr_V (n := 2) (rest := []) (pc := 73) hx hb hml hown hts (cX5_hasRun_met l D c tb sa sv (a 11) p1 p4 (X (11 + 0)) _ hc73) gX8_copy_X5_hasRun rfl rfl rfl (by decide +kernel) rfl ⟨Nat.le_of_ble_eq_true rfl, Nat.le_of_ble_eq_true rfl⟩ ⟨Nat.zero_le _, Nat.zero_le _⟩ 0 5 rfl rfl rfl xE_ok hPc hDc hK (xE_ok.tr hE hS (g_freeX hD hS hA (by decide) (addr0 hw))) hl.1 (Nat.le_of_ble_eq_true rfl) dX8_copy_73 rfl) hP hD hS hA (ks := [11]) (by decide) (addr0 hw) (fun k9 _ hk9 => rfl) (fun H1 hw1 => (List.forall_mem_cons.mpr ⟨hw1, (fun _ h9 => absurd h9 List.not_mem_nil)⟩)) rfl (fun H locs hP hS => ?_)
                refine lv_if_eq (tgt := 91) (pc := 76) hx hb dX8_copy_76 (by decide) (fun c76 => ?_) (fun c76 => ?_)
                · replace h := it_t c76 h
                  refine lv_bipush (v := -12) (pc := 91) hx hb dX8_copy_91 (by decide) ?_
                  have kr := KR (-12 : Int32) X _ _ 93 ls h rfl hP hS dX8_copy_93
                  exact kr
                · replace h := it_f c76 h
                  refine lv_aload (pc := 79) hx hb dX8_copy_79 (lv_at hl 0 rfl) ?_
                  refine lv_iload (pc := 81) hx hb dX8_copy_81 (lv_at hl 6 rfl) ?_
                  refine lv_iload (pc := 83) hx hb dX8_copy_83 (lv_at hl 7 rfl) ?_
                  obtain ⟨r85, hc85, h⟩ := b1_i h
                  have hw : (wX5 (a 14) c (X (11 + 3))).map (·.1) = [14].flatMap (uA a) := rfl
                  have hPc : va_P D vwCl (wX5 (a 14) c (X (11 + 3))) _ := hP 14 (by decide)
                  have hDc : va_D A (wX5 (a 14) c (X (11 + 3))) := hD.of_addr (by decide) (by decide) hw
                  refine g_X (X' := X) (st1 := [.int r85]) (gr_V (n := 2) (rest := []) (pc := 85) hx hb hml hown hts (cX5_hasRun_met l D c tb sa sv (a 14) p3 p4 (X (11 + 3)) _ hc85) gX8_copy_X5_hasRun rfl rfl rfl (by decide +kernel) rfl ⟨Nat.le_of_ble_eq_true rfl, Nat.le_of_ble_eq_true rfl⟩ ⟨Nat.zero_le _, Nat.zero_le _⟩ 0 5 rfl rfl rfl xE_ok hPc hDc hK (xE_ok.tr hE hS (g_freeX hD hS hA (by decide) (addr0 hw))) hl.1 (Nat.le_of_ble_eq_true rfl) dX8_copy_85 rfl) hP hD hS hA (ks := [14]) (by decide) (addr0 hw) (fun k9 _ hk9 => rfl) (fun H1 hw1 => (List.forall_mem_cons.mpr ⟨hw1, (fun _ h9 => absurd h9 List.not_mem_nil)⟩)) rfl (fun H locs hP hS => ?_)
                  refine lv_if_ne (tgt := 94) (pc := 88) hx hb dX8_copy_88 (by decide) (fun c88 => ?_) (fun c88 => ?_)
                  · replace h := it_f c88 h
                    refine lv_aload (pc := 94) hx hb dX8_copy_94 (lv_at hl 1 rfl) ?_
                    refine va_get (D := D) (ci := 5) (v := .ref ((a 11) 1)) (C := RX5) (T := TX5) (N := 3) (pc := 96) hx hb hfX5 (fun _ h9 => h9) hown hK (show va_P D vwCl (wX5 (a 11) c (X (11 + 0))) _ from hP 11 (by decide)) 0 rfl rfl 0 (by decide) lk2 (fun _ h9 => h9) rfl dX8_copy_96 ?_
                    refine lv_iload_n (pc := 99) hx hb dX8_copy_99 rfl (lv_at hl 4 rfl) ?_
                    refine lv_aload (pc := 100) hx hb dX8_copy_100 (lv_at hl 0 rfl) ?_
                    refine va_get (D := D) (ci := 5) (v := .ref ((a 14) 1)) (C := RX5) (T := TX5) (N := 3) (pc := 102) hx hb hfX5 (fun _ h9 => h9) hown hK (show va_P D vwCl (wX5 (a 14) c (X (11 + 3))) _ from hP 14 (by decide)) 0 rfl rfl 0 (by decide) lk2 (fun _ h9 => h9) rfl dX8_copy_102 ?_
                    refine lv_iload (pc := 105) hx hb dX8_copy_105 (lv_at hl 6 rfl) ?_
                    refine lv_iload (pc := 107) hx hb dX8_copy_107 (lv_at hl 7 rfl) ?_
                    obtain ⟨hk109, h⟩ := ckP_i h
                    obtain ⟨z1, z2, z3, z4, z5⟩ := of_decide_eq_true hk109
                    have hP1 := hP.one (11 + 3) (by decide)
                    have hD1 := hD.one c X (11 + 3) (by decide) (X (11 + 3))
                    obtain ⟨q109, hq109⟩ := XR.mem (c := c) (X := X) (σ := (X (11 + 3))) (j := (11 + 0)) (k := (11 + 3)) (by decide) (by decide) (q := (a (11 + 0) 1, .inl (c 0, 40, .inl ((X (11 + 0)).1 0)))) (g_memS a c (X (11 + 0)) 0 (by decide))
                    refine va_copyi (f := ((X (11 + 0)).1 0)) (g := ((X (11 + 3)).1 0)) (ty := .int) (pc := 109) hx hb (by rw [hml]; exact hl.1.symm) hown lk3 lk4 lk5 lk6 hK hP1 hD1 hS q109 1 0 0 hq109 (g_atS a c (X (11 + 3)) _ 3 (by decide)) rfl rfl rfl z1 z2 z3 z4 z5 (fun _ _ => rfl) (Nat.le_of_ble_eq_true rfl) (Nat.le_of_ble_eq_true (by decide +kernel)) dX8_copy_109 (fun H locs hP _ hS => ?_)
                    have hP : XP D a c (xs X (11 + 3) (mr (X (11 + 3)) 0 (va_cpy ((X (11 + 0)).1 0) ((X (11 + 3)).1 0) (p1).toNatClampNeg (p3).toNatClampNeg (p4).toNatClampNeg))) H := XP.setS (k := 3) (by decide) hP
                    refine lv_iload (pc := 112) hx hb dX8_copy_112 (lv_at hl 7 rfl) ?_
                    have kr := KR p4 (xs X (11 + 3) (mr (X (11 + 3)) 0 (va_cpy ((X (11 + 0)).1 0) ((X (11 + 3)).1 0) (p1).toNatClampNeg (p3).toNatClampNeg (p4).toNatClampNeg))) _ _ 114 ls h rfl hP hS dX8_copy_114
                    exact kr
                  · replace h := it_t c88 h
                    refine lv_bipush (v := -12) (pc := 91) hx hb dX8_copy_91 (by decide) ?_
                    have kr := KR (-12 : Int32) X _ _ 93 ls h rfl hP hS dX8_copy_93
                    exact kr
              · replace h := it_f c62 h
                refine lv_bipush (v := -13) (pc := 65) hx hb dX8_copy_65 (by decide) ?_
                have kr := KR (-13 : Int32) X _ _ 67 ls h rfl hP hS dX8_copy_67
                exact kr
            · replace h := it_f c46 h
              refine lv_bipush (v := -11) (pc := 49) hx hb dX8_copy_49 (by decide) ?_
              have kr := KR (-11 : Int32) X _ _ 51 ls h rfl hP hS dX8_copy_51
              exact kr
      · refine g_aald (v := a 12 0) (pc := 22) hx hb hK (show va_P D vwCl (wX8 a c (X 0)) _ from hP 0 (by decide)) 1 3 rfl rfl hk22 ek22 rfl dX8_copy_22 ?_
        refine lv_astore (lv' := [(6, .ref ((a 12) 0)), (0, .ref (a 0 0)), (1, .int p0), (2, .int p1), (3, .int p2), (4, .int p3), (5, .int p4)]) (pc := 23) hx hb dX8_copy_23 hl (by decide) rfl (fun ls hl => ?_)
        refine lv_aload_n (pc := 25) hx hb dX8_copy_25 rfl (lv_at hl 1 rfl) ?_
        refine va_get (D := D) (ci := 8) (v := .ref (a 0 1)) (C := RX8) (T := TX8) (N := 12) (pc := 26) hx hb hfX8 (fun _ h9 => h9) hown hK (show va_P D vwCl (wX8 a c (X 0)) _ from hP 0 (by decide)) 0 rfl rfl 11 (by decide) lk0 (fun _ h9 => h9) rfl dX8_copy_26 ?_
        refine lv_iload_n (pc := 29) hx hb dX8_copy_29 rfl (lv_at hl 4 rfl) ?_
        obtain ⟨hk30, h⟩ := ckI_i h
        obtain ⟨k30, ek30, h⟩ := lt_i h
        rcases g_four (by rw [ek30]; exact g_inlt hk30 : k30 < 4) with rfl | rfl | rfl | rfl
        · refine g_aald (v := a 11 0) (pc := 30) hx hb hK (show va_P D vwCl (wX8 a c (X 0)) _ from hP 0 (by decide)) 1 3 rfl rfl hk30 ek30 rfl dX8_copy_30 ?_
          refine lv_astore (lv' := [(7, .ref ((a 11) 0)), (6, .ref ((a 12) 0)), (0, .ref (a 0 0)), (1, .int p0), (2, .int p1), (3, .int p2), (4, .int p3), (5, .int p4)]) (pc := 31) hx hb dX8_copy_31 hl (by decide) rfl (fun ls hl => ?_)
          refine lv_aload (pc := 33) hx hb dX8_copy_33 (lv_at hl 1 rfl) ?_
          obtain ⟨r35, hc35, h⟩ := b1_i h
          have hw : (wX5 (a 12) c (X (11 + 1))).map (·.1) = [12].flatMap (uA a) := rfl
          have hPc : va_P D vwCl (wX5 (a 12) c (X (11 + 1))) _ := hP 12 (by decide)
          have hDc : va_D A (wX5 (a 12) c (X (11 + 1))) := hD.of_addr (by decide) (by decide) hw
          refine g_X (X' := X) (st1 := [.int r35]) (gr_V (n := 0) (rest := []) (pc := 35) hx hb hml hown hts (cX5_isMissing_met l D c tb sa sv (a 12) (X (11 + 1)) _ hc35) gX8_copy_X5_isMissing rfl rfl rfl (by decide +kernel) rfl ⟨Nat.le_of_ble_eq_true rfl, Nat.le_of_ble_eq_true rfl⟩ ⟨Nat.zero_le _, Nat.zero_le _⟩ 0 5 rfl rfl rfl xE_ok hPc hDc hK (xE_ok.tr hE hS (g_freeX hD hS hA (by decide) (addr0 hw))) hl.1 (Nat.le_of_ble_eq_true rfl) dX8_copy_35 rfl) hP hD hS hA (ks := [12]) (by decide) (addr0 hw) (fun k9 _ hk9 => rfl) (fun H1 hw1 => (List.forall_mem_cons.mpr ⟨hw1, (fun _ h9 => absurd h9 List.not_mem_nil)⟩)) rfl (fun H locs hP hS => ?_)
          refine lv_if_ne (tgt := 49) (pc := 38) hx hb dX8_copy_38 (by decide) (fun c38 => ?_) (fun c38 => ?_)
          · replace h := it_f c38 h
            refine lv_bipush (v := -11) (pc := 49) hx hb dX8_copy_49 (by decide) ?_
            have kr := KR (-11 : Int32) X _ _ 51 ls h rfl hP hS dX8_copy_51
            exact kr
          · replace h := it_t c38 h
            refine lv_aload (pc := 41) hx hb dX8_copy_41 (lv_at hl 0 rfl) ?_
            obtain ⟨r43, hc43, h⟩ := b1_i h
            have hw : (wX5 (a 11) c (X (11 + 0))).map (·.1) = [11].flatMap (uA a) := rfl
            have hPc : va_P D vwCl (wX5 (a 11) c (X (11 + 0))) _ := hP 11 (by decide)
            have hDc : va_D A (wX5 (a 11) c (X (11 + 0))) := hD.of_addr (by decide) (by decide) hw
            refine g_X (X' := X) (st1 := [.int r43]) (gr_V (n := 0) (rest := []) (pc := 43) hx hb hml hown hts (cX5_isMissing_met l D c tb sa sv (a 11) (X (11 + 0)) _ hc43) gX8_copy_X5_isMissing rfl rfl rfl (by decide +kernel) rfl ⟨Nat.le_of_ble_eq_true rfl, Nat.le_of_ble_eq_true rfl⟩ ⟨Nat.zero_le _, Nat.zero_le _⟩ 0 5 rfl rfl rfl xE_ok hPc hDc hK (xE_ok.tr hE hS (g_freeX hD hS hA (by decide) (addr0 hw))) hl.1 (Nat.le_of_ble_eq_true rfl) dX8_copy_43 rfl) hP hD hS hA (ks := [11]) (by decide) (addr0 hw) (fun k9 _ hk9 => rfl) (fun H1 hw1 => (List.forall_mem_cons.mpr ⟨hw1, (fun _ h9 => absurd h9 List.not_mem_nil)⟩)) rfl (fun H locs hP hS => ?_)
            refine lv_if_eq (tgt := 52) (pc := 46) hx hb dX8_copy_46 (by decide) (fun c46 => ?_) (fun c46 => ?_)
            · replace h := it_t c46 h
              refine lv_aload (pc := 52) hx hb dX8_copy_52 (lv_at hl 1 rfl) ?_
              refine va_get (D := D) (ci := 5) (v := .int ((X (11 + 1)).1 1 0)) (C := RX5) (T := TX5) (N := 3) (pc := 54) hx hb hfX5 (fun _ h9 => h9) hown hK (show va_P D vwCl (wX5 (a 12) c (X (11 + 1))) _ from hP 12 (by decide)) 0 rfl rfl 1 (by decide) lk1 (fun _ h9 => h9) rfl dX8_copy_54 ?_
              refine lv_aload (pc := 57) hx hb dX8_copy_57 (lv_at hl 0 rfl) ?_
              refine va_get (D := D) (ci := 5) (v := .int ((X (11 + 0)).1 1 0)) (C := RX5) (T := TX5) (N := 3) (pc := 59) hx hb hfX5 (fun _ h9 => h9) hown hK (show va_P D vwCl (wX5 (a 11) c (X (11 + 0))) _ from hP 11 (by decide)) 0 rfl rfl 1 (by decide) lk1 (fun _ h9 => h9) rfl dX8_copy_59 ?_
              refine lv_icmp_eq (tgt := 68) (pc := 62) hx hb dX8_copy_62 (by decide) (fun c62 => ?_) (fun c62 => ?_)
              · replace h := it_t c62 h
                refine lv_aload (pc := 68) hx hb dX8_copy_68 (lv_at hl 1 rfl) ?_
                refine lv_iload_n (pc := 70) hx hb dX8_copy_70 rfl (lv_at hl 4 rfl) ?_
                refine lv_iload (pc := 71) hx hb dX8_copy_71 (lv_at hl 7 rfl) ?_
                obtain ⟨r73, hc73, h⟩ := b1_i h
                have hw : (wX5 (a 12) c (X (11 + 1))).map (·.1) = [12].flatMap (uA a) := rfl
                have hPc : va_P D vwCl (wX5 (a 12) c (X (11 + 1))) _ := hP 12 (by decide)
                have hDc : va_D A (wX5 (a 12) c (X (11 + 1))) := hD.of_addr (by decide) (by decide) hw
                refine g_X (X' := X) (st1 := [.int r73]) (gr_V (n := 2) (rest := []) (pc := 73) hx hb hml hown hts (cX5_hasRun_met l D c tb sa sv (a 12) p1 p4 (X (11 + 1)) _ hc73) gX8_copy_X5_hasRun rfl rfl rfl (by decide +kernel) rfl ⟨Nat.le_of_ble_eq_true rfl, Nat.le_of_ble_eq_true rfl⟩ ⟨Nat.zero_le _, Nat.zero_le _⟩ 0 5 rfl rfl rfl xE_ok hPc hDc hK (xE_ok.tr hE hS (g_freeX hD hS hA (by decide) (addr0 hw))) hl.1 (Nat.le_of_ble_eq_true rfl) dX8_copy_73 rfl) hP hD hS hA (ks := [12]) (by decide) (addr0 hw) (fun k9 _ hk9 => rfl) (fun H1 hw1 => (List.forall_mem_cons.mpr ⟨hw1, (fun _ h9 => absurd h9 List.not_mem_nil)⟩)) rfl (fun H locs hP hS => ?_)
                refine lv_if_eq (tgt := 91) (pc := 76) hx hb dX8_copy_76 (by decide) (fun c76 => ?_) (fun c76 => ?_)
                · replace h := it_t c76 h
                  refine lv_bipush (v := -12) (pc := 91) hx hb dX8_copy_91 (by decide) ?_
                  have kr := KR (-12 : Int32) X _ _ 93 ls h rfl hP hS dX8_copy_93
                  exact kr
                · replace h := it_f c76 h
                  refine lv_aload (pc := 79) hx hb dX8_copy_79 (lv_at hl 0 rfl) ?_
                  refine lv_iload (pc := 81) hx hb dX8_copy_81 (lv_at hl 6 rfl) ?_
                  refine lv_iload (pc := 83) hx hb dX8_copy_83 (lv_at hl 7 rfl) ?_
                  obtain ⟨r85, hc85, h⟩ := b1_i h
                  have hw : (wX5 (a 11) c (X (11 + 0))).map (·.1) = [11].flatMap (uA a) := rfl
                  have hPc : va_P D vwCl (wX5 (a 11) c (X (11 + 0))) _ := hP 11 (by decide)
                  have hDc : va_D A (wX5 (a 11) c (X (11 + 0))) := hD.of_addr (by decide) (by decide) hw
                  refine g_X (X' := X) (st1 := [.int r85]) (gr_V (n := 2) (rest := []) (pc := 85) hx hb hml hown hts (cX5_hasRun_met l D c tb sa sv (a 11) p3 p4 (X (11 + 0)) _ hc85) gX8_copy_X5_hasRun rfl rfl rfl (by decide +kernel) rfl ⟨Nat.le_of_ble_eq_true rfl, Nat.le_of_ble_eq_true rfl⟩ ⟨Nat.zero_le _, Nat.zero_le _⟩ 0 5 rfl rfl rfl xE_ok hPc hDc hK (xE_ok.tr hE hS (g_freeX hD hS hA (by decide) (addr0 hw))) hl.1 (Nat.le_of_ble_eq_true rfl) dX8_copy_85 rfl) hP hD hS hA (ks := [11]) (by decide) (addr0 hw) (fun k9 _ hk9 => rfl) (fun H1 hw1 => (List.forall_mem_cons.mpr ⟨hw1, (fun _ h9 => absurd h9 List.not_mem_nil)⟩)) rfl (fun H locs hP hS => ?_)
                  refine lv_if_ne (tgt := 94) (pc := 88) hx hb dX8_copy_88 (by decide) (fun c88 => ?_) (fun c88 => ?_)
                  · replace h := it_f c88 h
                    refine lv_aload (pc := 94) hx hb dX8_copy_94 (lv_at hl 1 rfl) ?_
                    refine va_get (D := D) (ci := 5) (v := .ref ((a 12) 1)) (C := RX5) (T := TX5) (N := 3) (pc := 96) hx hb hfX5 (fun _ h9 => h9) hown hK (show va_P D vwCl (wX5 (a 12) c (X (11 + 1))) _ from hP 12 (by decide)) 0 rfl rfl 0 (by decide) lk2 (fun _ h9 => h9) rfl dX8_copy_96 ?_
                    refine lv_iload_n (pc := 99) hx hb dX8_copy_99 rfl (lv_at hl 4 rfl) ?_
                    refine lv_aload (pc := 100) hx hb dX8_copy_100 (lv_at hl 0 rfl) ?_
                    refine va_get (D := D) (ci := 5) (v := .ref ((a 11) 1)) (C := RX5) (T := TX5) (N := 3) (pc := 102) hx hb hfX5 (fun _ h9 => h9) hown hK (show va_P D vwCl (wX5 (a 11) c (X (11 + 0))) _ from hP 11 (by decide)) 0 rfl rfl 0 (by decide) lk2 (fun _ h9 => h9) rfl dX8_copy_102 ?_
                    refine lv_iload (pc := 105) hx hb dX8_copy_105 (lv_at hl 6 rfl) ?_
                    refine lv_iload (pc := 107) hx hb dX8_copy_107 (lv_at hl 7 rfl) ?_
                    obtain ⟨hk109, h⟩ := ckP_i h
                    obtain ⟨z1, z2, z3, z4, z5⟩ := of_decide_eq_true hk109
                    have hP1 := hP.one (11 + 0) (by decide)
                    have hD1 := hD.one c X (11 + 0) (by decide) (X (11 + 0))
                    obtain ⟨q109, hq109⟩ := XR.mem (c := c) (X := X) (σ := (X (11 + 0))) (j := (11 + 1)) (k := (11 + 0)) (by decide) (by decide) (q := (a (11 + 1) 1, .inl (c 0, 40, .inl ((X (11 + 1)).1 0)))) (g_memS a c (X (11 + 1)) 1 (by decide))
                    refine va_copyi (f := ((X (11 + 1)).1 0)) (g := ((X (11 + 0)).1 0)) (ty := .int) (pc := 109) hx hb (by rw [hml]; exact hl.1.symm) hown lk3 lk4 lk5 lk6 hK hP1 hD1 hS q109 1 0 0 hq109 (g_atS a c (X (11 + 0)) _ 0 (by decide)) rfl rfl rfl z1 z2 z3 z4 z5 (fun _ _ => rfl) (Nat.le_of_ble_eq_true rfl) (Nat.le_of_ble_eq_true (by decide +kernel)) dX8_copy_109 (fun H locs hP _ hS => ?_)
                    have hP : XP D a c (xs X (11 + 0) (mr (X (11 + 0)) 0 (va_cpy ((X (11 + 1)).1 0) ((X (11 + 0)).1 0) (p1).toNatClampNeg (p3).toNatClampNeg (p4).toNatClampNeg))) H := XP.setS (k := 0) (by decide) hP
                    refine lv_iload (pc := 112) hx hb dX8_copy_112 (lv_at hl 7 rfl) ?_
                    have kr := KR p4 (xs X (11 + 0) (mr (X (11 + 0)) 0 (va_cpy ((X (11 + 1)).1 0) ((X (11 + 0)).1 0) (p1).toNatClampNeg (p3).toNatClampNeg (p4).toNatClampNeg))) _ _ 114 ls h rfl hP hS dX8_copy_114
                    exact kr
                  · replace h := it_t c88 h
                    refine lv_bipush (v := -12) (pc := 91) hx hb dX8_copy_91 (by decide) ?_
                    have kr := KR (-12 : Int32) X _ _ 93 ls h rfl hP hS dX8_copy_93
                    exact kr
              · replace h := it_f c62 h
                refine lv_bipush (v := -13) (pc := 65) hx hb dX8_copy_65 (by decide) ?_
                have kr := KR (-13 : Int32) X _ _ 67 ls h rfl hP hS dX8_copy_67
                exact kr
            · replace h := it_f c46 h
              refine lv_bipush (v := -11) (pc := 49) hx hb dX8_copy_49 (by decide) ?_
              have kr := KR (-11 : Int32) X _ _ 51 ls h rfl hP hS dX8_copy_51
              exact kr
        · refine g_aald (v := a 12 0) (pc := 30) hx hb hK (show va_P D vwCl (wX8 a c (X 0)) _ from hP 0 (by decide)) 1 3 rfl rfl hk30 ek30 rfl dX8_copy_30 ?_
          refine lv_astore (lv' := [(7, .ref ((a 12) 0)), (6, .ref ((a 12) 0)), (0, .ref (a 0 0)), (1, .int p0), (2, .int p1), (3, .int p2), (4, .int p3), (5, .int p4)]) (pc := 31) hx hb dX8_copy_31 hl (by decide) rfl (fun ls hl => ?_)
          refine lv_aload (pc := 33) hx hb dX8_copy_33 (lv_at hl 1 rfl) ?_
          obtain ⟨r35, hc35, h⟩ := b1_i h
          have hw : (wX5 (a 12) c (X (11 + 1))).map (·.1) = [12].flatMap (uA a) := rfl
          have hPc : va_P D vwCl (wX5 (a 12) c (X (11 + 1))) _ := hP 12 (by decide)
          have hDc : va_D A (wX5 (a 12) c (X (11 + 1))) := hD.of_addr (by decide) (by decide) hw
          refine g_X (X' := X) (st1 := [.int r35]) (gr_V (n := 0) (rest := []) (pc := 35) hx hb hml hown hts (cX5_isMissing_met l D c tb sa sv (a 12) (X (11 + 1)) _ hc35) gX8_copy_X5_isMissing rfl rfl rfl (by decide +kernel) rfl ⟨Nat.le_of_ble_eq_true rfl, Nat.le_of_ble_eq_true rfl⟩ ⟨Nat.zero_le _, Nat.zero_le _⟩ 0 5 rfl rfl rfl xE_ok hPc hDc hK (xE_ok.tr hE hS (g_freeX hD hS hA (by decide) (addr0 hw))) hl.1 (Nat.le_of_ble_eq_true rfl) dX8_copy_35 rfl) hP hD hS hA (ks := [12]) (by decide) (addr0 hw) (fun k9 _ hk9 => rfl) (fun H1 hw1 => (List.forall_mem_cons.mpr ⟨hw1, (fun _ h9 => absurd h9 List.not_mem_nil)⟩)) rfl (fun H locs hP hS => ?_)
          refine lv_if_ne (tgt := 49) (pc := 38) hx hb dX8_copy_38 (by decide) (fun c38 => ?_) (fun c38 => ?_)
          · replace h := it_f c38 h
            refine lv_bipush (v := -11) (pc := 49) hx hb dX8_copy_49 (by decide) ?_
            have kr := KR (-11 : Int32) X _ _ 51 ls h rfl hP hS dX8_copy_51
            exact kr
          · replace h := it_t c38 h
            refine lv_aload (pc := 41) hx hb dX8_copy_41 (lv_at hl 0 rfl) ?_
            obtain ⟨r43, hc43, h⟩ := b1_i h
            have hw : (wX5 (a 12) c (X (11 + 1))).map (·.1) = [12].flatMap (uA a) := rfl
            have hPc : va_P D vwCl (wX5 (a 12) c (X (11 + 1))) _ := hP 12 (by decide)
            have hDc : va_D A (wX5 (a 12) c (X (11 + 1))) := hD.of_addr (by decide) (by decide) hw
            refine g_X (X' := X) (st1 := [.int r43]) (gr_V (n := 0) (rest := []) (pc := 43) hx hb hml hown hts (cX5_isMissing_met l D c tb sa sv (a 12) (X (11 + 1)) _ hc43) gX8_copy_X5_isMissing rfl rfl rfl (by decide +kernel) rfl ⟨Nat.le_of_ble_eq_true rfl, Nat.le_of_ble_eq_true rfl⟩ ⟨Nat.zero_le _, Nat.zero_le _⟩ 0 5 rfl rfl rfl xE_ok hPc hDc hK (xE_ok.tr hE hS (g_freeX hD hS hA (by decide) (addr0 hw))) hl.1 (Nat.le_of_ble_eq_true rfl) dX8_copy_43 rfl) hP hD hS hA (ks := [12]) (by decide) (addr0 hw) (fun k9 _ hk9 => rfl) (fun H1 hw1 => (List.forall_mem_cons.mpr ⟨hw1, (fun _ h9 => absurd h9 List.not_mem_nil)⟩)) rfl (fun H locs hP hS => ?_)
            refine lv_if_eq (tgt := 52) (pc := 46) hx hb dX8_copy_46 (by decide) (fun c46 => ?_) (fun c46 => ?_)
            · replace h := it_t c46 h
              refine lv_aload (pc := 52) hx hb dX8_copy_52 (lv_at hl 1 rfl) ?_
              refine va_get (D := D) (ci := 5) (v := .int ((X (11 + 1)).1 1 0)) (C := RX5) (T := TX5) (N := 3) (pc := 54) hx hb hfX5 (fun _ h9 => h9) hown hK (show va_P D vwCl (wX5 (a 12) c (X (11 + 1))) _ from hP 12 (by decide)) 0 rfl rfl 1 (by decide) lk1 (fun _ h9 => h9) rfl dX8_copy_54 ?_
              refine lv_aload (pc := 57) hx hb dX8_copy_57 (lv_at hl 0 rfl) ?_
              refine va_get (D := D) (ci := 5) (v := .int ((X (11 + 1)).1 1 0)) (C := RX5) (T := TX5) (N := 3) (pc := 59) hx hb hfX5 (fun _ h9 => h9) hown hK (show va_P D vwCl (wX5 (a 12) c (X (11 + 1))) _ from hP 12 (by decide)) 0 rfl rfl 1 (by decide) lk1 (fun _ h9 => h9) rfl dX8_copy_59 ?_
              refine lv_icmp_eq (tgt := 68) (pc := 62) hx hb dX8_copy_62 (by decide) (fun c62 => ?_) (fun c62 => ?_)
              · replace h := it_t c62 h
                refine lv_aload (pc := 68) hx hb dX8_copy_68 (lv_at hl 1 rfl) ?_
                refine lv_iload_n (pc := 70) hx hb dX8_copy_70 rfl (lv_at hl 4 rfl) ?_
                refine lv_iload (pc := 71) hx hb dX8_copy_71 (lv_at hl 7 rfl) ?_
                obtain ⟨r73, hc73, h⟩ := b1_i h
                have hw : (wX5 (a 12) c (X (11 + 1))).map (·.1) = [12].flatMap (uA a) := rfl
                have hPc : va_P D vwCl (wX5 (a 12) c (X (11 + 1))) _ := hP 12 (by decide)
                have hDc : va_D A (wX5 (a 12) c (X (11 + 1))) := hD.of_addr (by decide) (by decide) hw
                refine g_X (X' := X) (st1 := [.int r73]) (gr_V (n := 2) (rest := []) (pc := 73) hx hb hml hown hts (cX5_hasRun_met l D c tb sa sv (a 12) p1 p4 (X (11 + 1)) _ hc73) gX8_copy_X5_hasRun rfl rfl rfl (by decide +kernel) rfl ⟨Nat.le_of_ble_eq_true rfl, Nat.le_of_ble_eq_true rfl⟩ ⟨Nat.zero_le _, Nat.zero_le _⟩ 0 5 rfl rfl rfl xE_ok hPc hDc hK (xE_ok.tr hE hS (g_freeX hD hS hA (by decide) (addr0 hw))) hl.1 (Nat.le_of_ble_eq_true rfl) dX8_copy_73 rfl) hP hD hS hA (ks := [12]) (by decide) (addr0 hw) (fun k9 _ hk9 => rfl) (fun H1 hw1 => (List.forall_mem_cons.mpr ⟨hw1, (fun _ h9 => absurd h9 List.not_mem_nil)⟩)) rfl (fun H locs hP hS => ?_)
                refine lv_if_eq (tgt := 91) (pc := 76) hx hb dX8_copy_76 (by decide) (fun c76 => ?_) (fun c76 => ?_)
                · replace h := it_t c76 h
                  refine lv_bipush (v := -12) (pc := 91) hx hb dX8_copy_91 (by decide) ?_
                  have kr := KR (-12 : Int32) X _ _ 93 ls h rfl hP hS dX8_copy_93
                  exact kr
                · replace h := it_f c76 h
                  refine lv_aload (pc := 79) hx hb dX8_copy_79 (lv_at hl 0 rfl) ?_
                  refine lv_iload (pc := 81) hx hb dX8_copy_81 (lv_at hl 6 rfl) ?_
                  refine lv_iload (pc := 83) hx hb dX8_copy_83 (lv_at hl 7 rfl) ?_
                  obtain ⟨r85, hc85, h⟩ := b1_i h
                  have hw : (wX5 (a 12) c (X (11 + 1))).map (·.1) = [12].flatMap (uA a) := rfl
                  have hPc : va_P D vwCl (wX5 (a 12) c (X (11 + 1))) _ := hP 12 (by decide)
                  have hDc : va_D A (wX5 (a 12) c (X (11 + 1))) := hD.of_addr (by decide) (by decide) hw
                  refine g_X (X' := X) (st1 := [.int r85]) (gr_V (n := 2) (rest := []) (pc := 85) hx hb hml hown hts (cX5_hasRun_met l D c tb sa sv (a 12) p3 p4 (X (11 + 1)) _ hc85) gX8_copy_X5_hasRun rfl rfl rfl (by decide +kernel) rfl ⟨Nat.le_of_ble_eq_true rfl, Nat.le_of_ble_eq_true rfl⟩ ⟨Nat.zero_le _, Nat.zero_le _⟩ 0 5 rfl rfl rfl xE_ok hPc hDc hK (xE_ok.tr hE hS (g_freeX hD hS hA (by decide) (addr0 hw))) hl.1 (Nat.le_of_ble_eq_true rfl) dX8_copy_85 rfl) hP hD hS hA (ks := [12]) (by decide) (addr0 hw) (fun k9 _ hk9 => rfl) (fun H1 hw1 => (List.forall_mem_cons.mpr ⟨hw1, (fun _ h9 => absurd h9 List.not_mem_nil)⟩)) rfl (fun H locs hP hS => ?_)
                  refine lv_if_ne (tgt := 94) (pc := 88) hx hb dX8_copy_88 (by decide) (fun c88 => ?_) (fun c88 => ?_)
                  · replace h := it_f c88 h
                    refine lv_aload (pc := 94) hx hb dX8_copy_94 (lv_at hl 1 rfl) ?_
                    refine va_get (D := D) (ci := 5) (v := .ref ((a 12) 1)) (C := RX5) (T := TX5) (N := 3) (pc := 96) hx hb hfX5 (fun _ h9 => h9) hown hK (show va_P D vwCl (wX5 (a 12) c (X (11 + 1))) _ from hP 12 (by decide)) 0 rfl rfl 0 (by decide) lk2 (fun _ h9 => h9) rfl dX8_copy_96 ?_
                    refine lv_iload_n (pc := 99) hx hb dX8_copy_99 rfl (lv_at hl 4 rfl) ?_
                    refine lv_aload (pc := 100) hx hb dX8_copy_100 (lv_at hl 0 rfl) ?_
                    refine va_get (D := D) (ci := 5) (v := .ref ((a 12) 1)) (C := RX5) (T := TX5) (N := 3) (pc := 102) hx hb hfX5 (fun _ h9 => h9) hown hK (show va_P D vwCl (wX5 (a 12) c (X (11 + 1))) _ from hP 12 (by decide)) 0 rfl rfl 0 (by decide) lk2 (fun _ h9 => h9) rfl dX8_copy_102 ?_
                    refine lv_iload (pc := 105) hx hb dX8_copy_105 (lv_at hl 6 rfl) ?_
                    refine lv_iload (pc := 107) hx hb dX8_copy_107 (lv_at hl 7 rfl) ?_
                    obtain ⟨hk109, h⟩ := ckP_i h
                    obtain ⟨z1, z2, z3, z4, z5⟩ := of_decide_eq_true hk109
                    have hP1 := hP.one (11 + 1) (by decide)
                    have hD1 := hD.one c X (11 + 1) (by decide) (X (11 + 1))
                    refine va_copyi (f := ((X (11 + 1)).1 0)) (g := ((X (11 + 1)).1 0)) (ty := .int) (pc := 109) hx hb (by rw [hml]; exact hl.1.symm) hown lk3 lk4 lk5 lk6 hK hP1 hD1 hS 1 1 0 0 (g_atS a c (X (11 + 1)) _ 1 (by decide)) (g_atS a c (X (11 + 1)) _ 1 (by decide)) rfl rfl rfl z1 z2 z3 z4 z5 (fun _ _ => rfl) (Nat.le_of_ble_eq_true rfl) (Nat.le_of_ble_eq_true (by decide +kernel)) dX8_copy_109 (fun H locs hP _ hS => ?_)
                    have hP : XP D a c (xs X (11 + 1) (mr (X (11 + 1)) 0 (va_cpy ((X (11 + 1)).1 0) ((X (11 + 1)).1 0) (p1).toNatClampNeg (p3).toNatClampNeg (p4).toNatClampNeg))) H := XP.setS (k := 1) (by decide) hP
                    refine lv_iload (pc := 112) hx hb dX8_copy_112 (lv_at hl 7 rfl) ?_
                    have kr := KR p4 (xs X (11 + 1) (mr (X (11 + 1)) 0 (va_cpy ((X (11 + 1)).1 0) ((X (11 + 1)).1 0) (p1).toNatClampNeg (p3).toNatClampNeg (p4).toNatClampNeg))) _ _ 114 ls h rfl hP hS dX8_copy_114
                    exact kr
                  · replace h := it_t c88 h
                    refine lv_bipush (v := -12) (pc := 91) hx hb dX8_copy_91 (by decide) ?_
                    have kr := KR (-12 : Int32) X _ _ 93 ls h rfl hP hS dX8_copy_93
                    exact kr
              · replace h := it_f c62 h
                refine lv_bipush (v := -13) (pc := 65) hx hb dX8_copy_65 (by decide) ?_
                have kr := KR (-13 : Int32) X _ _ 67 ls h rfl hP hS dX8_copy_67
                exact kr
            · replace h := it_f c46 h
              refine lv_bipush (v := -11) (pc := 49) hx hb dX8_copy_49 (by decide) ?_
              have kr := KR (-11 : Int32) X _ _ 51 ls h rfl hP hS dX8_copy_51
              exact kr
        · refine g_aald (v := a 13 0) (pc := 30) hx hb hK (show va_P D vwCl (wX8 a c (X 0)) _ from hP 0 (by decide)) 1 3 rfl rfl hk30 ek30 rfl dX8_copy_30 ?_
          refine lv_astore (lv' := [(7, .ref ((a 13) 0)), (6, .ref ((a 12) 0)), (0, .ref (a 0 0)), (1, .int p0), (2, .int p1), (3, .int p2), (4, .int p3), (5, .int p4)]) (pc := 31) hx hb dX8_copy_31 hl (by decide) rfl (fun ls hl => ?_)
          refine lv_aload (pc := 33) hx hb dX8_copy_33 (lv_at hl 1 rfl) ?_
          obtain ⟨r35, hc35, h⟩ := b1_i h
          have hw : (wX5 (a 12) c (X (11 + 1))).map (·.1) = [12].flatMap (uA a) := rfl
          have hPc : va_P D vwCl (wX5 (a 12) c (X (11 + 1))) _ := hP 12 (by decide)
          have hDc : va_D A (wX5 (a 12) c (X (11 + 1))) := hD.of_addr (by decide) (by decide) hw
          refine g_X (X' := X) (st1 := [.int r35]) (gr_V (n := 0) (rest := []) (pc := 35) hx hb hml hown hts (cX5_isMissing_met l D c tb sa sv (a 12) (X (11 + 1)) _ hc35) gX8_copy_X5_isMissing rfl rfl rfl (by decide +kernel) rfl ⟨Nat.le_of_ble_eq_true rfl, Nat.le_of_ble_eq_true rfl⟩ ⟨Nat.zero_le _, Nat.zero_le _⟩ 0 5 rfl rfl rfl xE_ok hPc hDc hK (xE_ok.tr hE hS (g_freeX hD hS hA (by decide) (addr0 hw))) hl.1 (Nat.le_of_ble_eq_true rfl) dX8_copy_35 rfl) hP hD hS hA (ks := [12]) (by decide) (addr0 hw) (fun k9 _ hk9 => rfl) (fun H1 hw1 => (List.forall_mem_cons.mpr ⟨hw1, (fun _ h9 => absurd h9 List.not_mem_nil)⟩)) rfl (fun H locs hP hS => ?_)
          refine lv_if_ne (tgt := 49) (pc := 38) hx hb dX8_copy_38 (by decide) (fun c38 => ?_) (fun c38 => ?_)
          · replace h := it_f c38 h
            refine lv_bipush (v := -11) (pc := 49) hx hb dX8_copy_49 (by decide) ?_
            have kr := KR (-11 : Int32) X _ _ 51 ls h rfl hP hS dX8_copy_51
            exact kr
          · replace h := it_t c38 h
            refine lv_aload (pc := 41) hx hb dX8_copy_41 (lv_at hl 0 rfl) ?_
            obtain ⟨r43, hc43, h⟩ := b1_i h
            have hw : (wX5 (a 13) c (X (11 + 2))).map (·.1) = [13].flatMap (uA a) := rfl
            have hPc : va_P D vwCl (wX5 (a 13) c (X (11 + 2))) _ := hP 13 (by decide)
            have hDc : va_D A (wX5 (a 13) c (X (11 + 2))) := hD.of_addr (by decide) (by decide) hw
            refine g_X (X' := X) (st1 := [.int r43]) (gr_V (n := 0) (rest := []) (pc := 43) hx hb hml hown hts (cX5_isMissing_met l D c tb sa sv (a 13) (X (11 + 2)) _ hc43) gX8_copy_X5_isMissing rfl rfl rfl (by decide +kernel) rfl ⟨Nat.le_of_ble_eq_true rfl, Nat.le_of_ble_eq_true rfl⟩ ⟨Nat.zero_le _, Nat.zero_le _⟩ 0 5 rfl rfl rfl xE_ok hPc hDc hK (xE_ok.tr hE hS (g_freeX hD hS hA (by decide) (addr0 hw))) hl.1 (Nat.le_of_ble_eq_true rfl) dX8_copy_43 rfl) hP hD hS hA (ks := [13]) (by decide) (addr0 hw) (fun k9 _ hk9 => rfl) (fun H1 hw1 => (List.forall_mem_cons.mpr ⟨hw1, (fun _ h9 => absurd h9 List.not_mem_nil)⟩)) rfl (fun H locs hP hS => ?_)
            refine lv_if_eq (tgt := 52) (pc := 46) hx hb dX8_copy_46 (by decide) (fun c46 => ?_) (fun c46 => ?_)
            · replace h := it_t c46 h
              refine lv_aload (pc := 52) hx hb dX8_copy_52 (lv_at hl 1 rfl) ?_
              refine va_get (D := D) (ci := 5) (v := .int ((X (11 + 1)).1 1 0)) (C := RX5) (T := TX5) (N := 3) (pc := 54) hx hb hfX5 (fun _ h9 => h9) hown hK (show va_P D vwCl (wX5 (a 12) c (X (11 + 1))) _ from hP 12 (by decide)) 0 rfl rfl 1 (by decide) lk1 (fun _ h9 => h9) rfl dX8_copy_54 ?_
              refine lv_aload (pc := 57) hx hb dX8_copy_57 (lv_at hl 0 rfl) ?_
              refine va_get (D := D) (ci := 5) (v := .int ((X (11 + 2)).1 1 0)) (C := RX5) (T := TX5) (N := 3) (pc := 59) hx hb hfX5 (fun _ h9 => h9) hown hK (show va_P D vwCl (wX5 (a 13) c (X (11 + 2))) _ from hP 13 (by decide)) 0 rfl rfl 1 (by decide) lk1 (fun _ h9 => h9) rfl dX8_copy_59 ?_
              refine lv_icmp_eq (tgt := 68) (pc := 62) hx hb dX8_copy_62 (by decide) (fun c62 => ?_) (fun c62 => ?_)
              · replace h := it_t c62 h
                refine lv_aload (pc := 68) hx hb dX8_copy_68 (lv_at hl 1 rfl) ?_
                refine lv_iload_n (pc := 70) hx hb dX8_copy_70 rfl (lv_at hl 4 rfl) ?_
                refine lv_iload (pc := 71) hx hb dX8_copy_71 (lv_at hl 7 rfl) ?_
                obtain ⟨r73, hc73, h⟩ := b1_i h
                have hw : (wX5 (a 12) c (X (11 + 1))).map (·.1) = [12].flatMap (uA a) := rfl
                have hPc : va_P D vwCl (wX5 (a 12) c (X (11 + 1))) _ := hP 12 (by decide)
                have hDc : va_D A (wX5 (a 12) c (X (11 + 1))) := hD.of_addr (by decide) (by decide) hw
                refine g_X (X' := X) (st1 := [.int r73]) (gr_V (n := 2) (rest := []) (pc := 73) hx hb hml hown hts (cX5_hasRun_met l D c tb sa sv (a 12) p1 p4 (X (11 + 1)) _ hc73) gX8_copy_X5_hasRun rfl rfl rfl (by decide +kernel) rfl ⟨Nat.le_of_ble_eq_true rfl, Nat.le_of_ble_eq_true rfl⟩ ⟨Nat.zero_le _, Nat.zero_le _⟩ 0 5 rfl rfl rfl xE_ok hPc hDc hK (xE_ok.tr hE hS (g_freeX hD hS hA (by decide) (addr0 hw))) hl.1 (Nat.le_of_ble_eq_true rfl) dX8_copy_73 rfl) hP hD hS hA (ks := [12]) (by decide) (addr0 hw) (fun k9 _ hk9 => rfl) (fun H1 hw1 => (List.forall_mem_cons.mpr ⟨hw1, (fun _ h9 => absurd h9 List.not_mem_nil)⟩)) rfl (fun H locs hP hS => ?_)
                refine lv_if_eq (tgt := 91) (pc := 76) hx hb dX8_copy_76 (by decide) (fun c76 => ?_) (fun c76 => ?_)
                · replace h := it_t c76 h
                  refine lv_bipush (v := -12) (pc := 91) hx hb dX8_copy_91 (by decide) ?_
                  have kr := KR (-12 : Int32) X _ _ 93 ls h rfl hP hS dX8_copy_93
                  exact kr
                · replace h := it_f c76 h
                  refine lv_aload (pc := 79) hx hb dX8_copy_79 (lv_at hl 0 rfl) ?_
                  refine lv_iload (pc := 81) hx hb dX8_copy_81 (lv_at hl 6 rfl) ?_
                  refine lv_iload (pc := 83) hx hb dX8_copy_83 (lv_at hl 7 rfl) ?_
                  obtain ⟨r85, hc85, h⟩ := b1_i h
                  have hw : (wX5 (a 13) c (X (11 + 2))).map (·.1) = [13].flatMap (uA a) := rfl
                  have hPc : va_P D vwCl (wX5 (a 13) c (X (11 + 2))) _ := hP 13 (by decide)
                  have hDc : va_D A (wX5 (a 13) c (X (11 + 2))) := hD.of_addr (by decide) (by decide) hw
                  refine g_X (X' := X) (st1 := [.int r85]) (gr_V (n := 2) (rest := []) (pc := 85) hx hb hml hown hts (cX5_hasRun_met l D c tb sa sv (a 13) p3 p4 (X (11 + 2)) _ hc85) gX8_copy_X5_hasRun rfl rfl rfl (by decide +kernel) rfl ⟨Nat.le_of_ble_eq_true rfl, Nat.le_of_ble_eq_true rfl⟩ ⟨Nat.zero_le _, Nat.zero_le _⟩ 0 5 rfl rfl rfl xE_ok hPc hDc hK (xE_ok.tr hE hS (g_freeX hD hS hA (by decide) (addr0 hw))) hl.1 (Nat.le_of_ble_eq_true rfl) dX8_copy_85 rfl) hP hD hS hA (ks := [13]) (by decide) (addr0 hw) (fun k9 _ hk9 => rfl) (fun H1 hw1 => (List.forall_mem_cons.mpr ⟨hw1, (fun _ h9 => absurd h9 List.not_mem_nil)⟩)) rfl (fun H locs hP hS => ?_)
                  refine lv_if_ne (tgt := 94) (pc := 88) hx hb dX8_copy_88 (by decide) (fun c88 => ?_) (fun c88 => ?_)
                  · replace h := it_f c88 h
                    refine lv_aload (pc := 94) hx hb dX8_copy_94 (lv_at hl 1 rfl) ?_
                    refine va_get (D := D) (ci := 5) (v := .ref ((a 12) 1)) (C := RX5) (T := TX5) (N := 3) (pc := 96) hx hb hfX5 (fun _ h9 => h9) hown hK (show va_P D vwCl (wX5 (a 12) c (X (11 + 1))) _ from hP 12 (by decide)) 0 rfl rfl 0 (by decide) lk2 (fun _ h9 => h9) rfl dX8_copy_96 ?_
                    refine lv_iload_n (pc := 99) hx hb dX8_copy_99 rfl (lv_at hl 4 rfl) ?_
                    refine lv_aload (pc := 100) hx hb dX8_copy_100 (lv_at hl 0 rfl) ?_
                    refine va_get (D := D) (ci := 5) (v := .ref ((a 13) 1)) (C := RX5) (T := TX5) (N := 3) (pc := 102) hx hb hfX5 (fun _ h9 => h9) hown hK (show va_P D vwCl (wX5 (a 13) c (X (11 + 2))) _ from hP 13 (by decide)) 0 rfl rfl 0 (by decide) lk2 (fun _ h9 => h9) rfl dX8_copy_102 ?_
                    refine lv_iload (pc := 105) hx hb dX8_copy_105 (lv_at hl 6 rfl) ?_
                    refine lv_iload (pc := 107) hx hb dX8_copy_107 (lv_at hl 7 rfl) ?_
                    obtain ⟨hk109, h⟩ := ckP_i h
                    obtain ⟨z1, z2, z3, z4, z5⟩ := of_decide_eq_true hk109
                    have hP1 := hP.one (11 + 2) (by decide)
                    have hD1 := hD.one c X (11 + 2) (by decide) (X (11 + 2))
                    obtain ⟨q109, hq109⟩ := XR.mem (c := c) (X := X) (σ := (X (11 + 2))) (j := (11 + 1)) (k := (11 + 2)) (by decide) (by decide) (q := (a (11 + 1) 1, .inl (c 0, 40, .inl ((X (11 + 1)).1 0)))) (g_memS a c (X (11 + 1)) 1 (by decide))
                    refine va_copyi (f := ((X (11 + 1)).1 0)) (g := ((X (11 + 2)).1 0)) (ty := .int) (pc := 109) hx hb (by rw [hml]; exact hl.1.symm) hown lk3 lk4 lk5 lk6 hK hP1 hD1 hS q109 1 0 0 hq109 (g_atS a c (X (11 + 2)) _ 2 (by decide)) rfl rfl rfl z1 z2 z3 z4 z5 (fun _ _ => rfl) (Nat.le_of_ble_eq_true rfl) (Nat.le_of_ble_eq_true (by decide +kernel)) dX8_copy_109 (fun H locs hP _ hS => ?_)
                    have hP : XP D a c (xs X (11 + 2) (mr (X (11 + 2)) 0 (va_cpy ((X (11 + 1)).1 0) ((X (11 + 2)).1 0) (p1).toNatClampNeg (p3).toNatClampNeg (p4).toNatClampNeg))) H := XP.setS (k := 2) (by decide) hP
                    refine lv_iload (pc := 112) hx hb dX8_copy_112 (lv_at hl 7 rfl) ?_
                    have kr := KR p4 (xs X (11 + 2) (mr (X (11 + 2)) 0 (va_cpy ((X (11 + 1)).1 0) ((X (11 + 2)).1 0) (p1).toNatClampNeg (p3).toNatClampNeg (p4).toNatClampNeg))) _ _ 114 ls h rfl hP hS dX8_copy_114
                    exact kr
                  · replace h := it_t c88 h
                    refine lv_bipush (v := -12) (pc := 91) hx hb dX8_copy_91 (by decide) ?_
                    have kr := KR (-12 : Int32) X _ _ 93 ls h rfl hP hS dX8_copy_93
                    exact kr
              · replace h := it_f c62 h
                refine lv_bipush (v := -13) (pc := 65) hx hb dX8_copy_65 (by decide) ?_
                have kr := KR (-13 : Int32) X _ _ 67 ls h rfl hP hS dX8_copy_67
                exact kr
            · replace h := it_f c46 h
              refine lv_bipush (v := -11) (pc := 49) hx hb dX8_copy_49 (by decide) ?_
              have kr := KR (-11 : Int32) X _ _ 51 ls h rfl hP hS dX8_copy_51
              exact kr
        · refine g_aald (v := a 14 0) (pc := 30) hx hb hK (show va_P D vwCl (wX8 a c (X 0)) _ from hP 0 (by decide)) 1 3 rfl rfl hk30 ek30 rfl dX8_copy_30 ?_
          refine lv_astore (lv' := [(7, .ref ((a 14) 0)), (6, .ref ((a 12) 0)), (0, .ref (a 0 0)), (1, .int p0), (2, .int p1), (3, .int p2), (4, .int p3), (5, .int p4)]) (pc := 31) hx hb dX8_copy_31 hl (by decide) rfl (fun ls hl => ?_)
          refine lv_aload (pc := 33) hx hb dX8_copy_33 (lv_at hl 1 rfl) ?_
          obtain ⟨r35, hc35, h⟩ := b1_i h
          have hw : (wX5 (a 12) c (X (11 + 1))).map (·.1) = [12].flatMap (uA a) := rfl
          have hPc : va_P D vwCl (wX5 (a 12) c (X (11 + 1))) _ := hP 12 (by decide)
          have hDc : va_D A (wX5 (a 12) c (X (11 + 1))) := hD.of_addr (by decide) (by decide) hw
          refine g_X (X' := X) (st1 := [.int r35]) (gr_V (n := 0) (rest := []) (pc := 35) hx hb hml hown hts (cX5_isMissing_met l D c tb sa sv (a 12) (X (11 + 1)) _ hc35) gX8_copy_X5_isMissing rfl rfl rfl (by decide +kernel) rfl ⟨Nat.le_of_ble_eq_true rfl, Nat.le_of_ble_eq_true rfl⟩ ⟨Nat.zero_le _, Nat.zero_le _⟩ 0 5 rfl rfl rfl xE_ok hPc hDc hK (xE_ok.tr hE hS (g_freeX hD hS hA (by decide) (addr0 hw))) hl.1 (Nat.le_of_ble_eq_true rfl) dX8_copy_35 rfl) hP hD hS hA (ks := [12]) (by decide) (addr0 hw) (fun k9 _ hk9 => rfl) (fun H1 hw1 => (List.forall_mem_cons.mpr ⟨hw1, (fun _ h9 => absurd h9 List.not_mem_nil)⟩)) rfl (fun H locs hP hS => ?_)
          refine lv_if_ne (tgt := 49) (pc := 38) hx hb dX8_copy_38 (by decide) (fun c38 => ?_) (fun c38 => ?_)
          · replace h := it_f c38 h
            refine lv_bipush (v := -11) (pc := 49) hx hb dX8_copy_49 (by decide) ?_
            have kr := KR (-11 : Int32) X _ _ 51 ls h rfl hP hS dX8_copy_51
            exact kr
          · replace h := it_t c38 h
            refine lv_aload (pc := 41) hx hb dX8_copy_41 (lv_at hl 0 rfl) ?_
            obtain ⟨r43, hc43, h⟩ := b1_i h
            have hw : (wX5 (a 14) c (X (11 + 3))).map (·.1) = [14].flatMap (uA a) := rfl
            have hPc : va_P D vwCl (wX5 (a 14) c (X (11 + 3))) _ := hP 14 (by decide)
            have hDc : va_D A (wX5 (a 14) c (X (11 + 3))) := hD.of_addr (by decide) (by decide) hw
            refine g_X (X' := X) (st1 := [.int r43]) (gr_V (n := 0) (rest := []) (pc := 43) hx hb hml hown hts (cX5_isMissing_met l D c tb sa sv (a 14) (X (11 + 3)) _ hc43) gX8_copy_X5_isMissing rfl rfl rfl (by decide +kernel) rfl ⟨Nat.le_of_ble_eq_true rfl, Nat.le_of_ble_eq_true rfl⟩ ⟨Nat.zero_le _, Nat.zero_le _⟩ 0 5 rfl rfl rfl xE_ok hPc hDc hK (xE_ok.tr hE hS (g_freeX hD hS hA (by decide) (addr0 hw))) hl.1 (Nat.le_of_ble_eq_true rfl) dX8_copy_43 rfl) hP hD hS hA (ks := [14]) (by decide) (addr0 hw) (fun k9 _ hk9 => rfl) (fun H1 hw1 => (List.forall_mem_cons.mpr ⟨hw1, (fun _ h9 => absurd h9 List.not_mem_nil)⟩)) rfl (fun H locs hP hS => ?_)
            refine lv_if_eq (tgt := 52) (pc := 46) hx hb dX8_copy_46 (by decide) (fun c46 => ?_) (fun c46 => ?_)
            · replace h := it_t c46 h
              refine lv_aload (pc := 52) hx hb dX8_copy_52 (lv_at hl 1 rfl) ?_
              refine va_get (D := D) (ci := 5) (v := .int ((X (11 + 1)).1 1 0)) (C := RX5) (T := TX5) (N := 3) (pc := 54) hx hb hfX5 (fun _ h9 => h9) hown hK (show va_P D vwCl (wX5 (a 12) c (X (11 + 1))) _ from hP 12 (by decide)) 0 rfl rfl 1 (by decide) lk1 (fun _ h9 => h9) rfl dX8_copy_54 ?_
              refine lv_aload (pc := 57) hx hb dX8_copy_57 (lv_at hl 0 rfl) ?_
              refine va_get (D := D) (ci := 5) (v := .int ((X (11 + 3)).1 1 0)) (C := RX5) (T := TX5) (N := 3) (pc := 59) hx hb hfX5 (fun _ h9 => h9) hown hK (show va_P D vwCl (wX5 (a 14) c (X (11 + 3))) _ from hP 14 (by decide)) 0 rfl rfl 1 (by decide) lk1 (fun _ h9 => h9) rfl dX8_copy_59 ?_
              refine lv_icmp_eq (tgt := 68) (pc := 62) hx hb dX8_copy_62 (by decide) (fun c62 => ?_) (fun c62 => ?_)
              · replace h := it_t c62 h
                refine lv_aload (pc := 68) hx hb dX8_copy_68 (lv_at hl 1 rfl) ?_
                refine lv_iload_n (pc := 70) hx hb dX8_copy_70 rfl (lv_at hl 4 rfl) ?_
                refine lv_iload (pc := 71) hx hb dX8_copy_71 (lv_at hl 7 rfl) ?_
                obtain ⟨r73, hc73, h⟩ := b1_i h
                have hw : (wX5 (a 12) c (X (11 + 1))).map (·.1) = [12].flatMap (uA a) := rfl
                have hPc : va_P D vwCl (wX5 (a 12) c (X (11 + 1))) _ := hP 12 (by decide)
                have hDc : va_D A (wX5 (a 12) c (X (11 + 1))) := hD.of_addr (by decide) (by decide) hw
                refine g_X (X' := X) (st1 := [.int r73]) (gr_V (n := 2) (rest := []) (pc := 73) hx hb hml hown hts (cX5_hasRun_met l D c tb sa sv (a 12) p1 p4 (X (11 + 1)) _ hc73) gX8_copy_X5_hasRun rfl rfl rfl (by decide +kernel) rfl ⟨Nat.le_of_ble_eq_true rfl, Nat.le_of_ble_eq_true rfl⟩ ⟨Nat.zero_le _, Nat.zero_le _⟩ 0 5 rfl rfl rfl xE_ok hPc hDc hK (xE_ok.tr hE hS (g_freeX hD hS hA (by decide) (addr0 hw))) hl.1 (Nat.le_of_ble_eq_true rfl) dX8_copy_73 rfl) hP hD hS hA (ks := [12]) (by decide) (addr0 hw) (fun k9 _ hk9 => rfl) (fun H1 hw1 => (List.forall_mem_cons.mpr ⟨hw1, (fun _ h9 => absurd h9 List.not_mem_nil)⟩)) rfl (fun H locs hP hS => ?_)
                refine lv_if_eq (tgt := 91) (pc := 76) hx hb dX8_copy_76 (by decide) (fun c76 => ?_) (fun c76 => ?_)
                · replace h := it_t c76 h
                  refine lv_bipush (v := -12) (pc := 91) hx hb dX8_copy_91 (by decide) ?_
                  have kr := KR (-12 : Int32) X _ _ 93 ls h rfl hP hS dX8_copy_93
                  exact kr
                · replace h := it_f c76 h
                  refine lv_aload (pc := 79) hx hb dX8_copy_79 (lv_at hl 0 rfl) ?_
                  refine lv_iload (pc := 81) hx hb dX8_copy_81 (lv_at hl 6 rfl) ?_
                  refine lv_iload (pc := 83) hx hb dX8_copy_83 (lv_at hl 7 rfl) ?_
                  obtain ⟨r85, hc85, h⟩ := b1_i h
                  have hw : (wX5 (a 14) c (X (11 + 3))).map (·.1) = [14].flatMap (uA a) := rfl
                  have hPc : va_P D vwCl (wX5 (a 14) c (X (11 + 3))) _ := hP 14 (by decide)
                  have hDc : va_D A (wX5 (a 14) c (X (11 + 3))) := hD.of_addr (by decide) (by decide) hw
                  refine g_X (X' := X) (st1 := [.int r85]) (gr_V (n := 2) (rest := []) (pc := 85) hx hb hml hown hts (cX5_hasRun_met l D c tb sa sv (a 14) p3 p4 (X (11 + 3)) _ hc85) gX8_copy_X5_hasRun rfl rfl rfl (by decide +kernel) rfl ⟨Nat.le_of_ble_eq_true rfl, Nat.le_of_ble_eq_true rfl⟩ ⟨Nat.zero_le _, Nat.zero_le _⟩ 0 5 rfl rfl rfl xE_ok hPc hDc hK (xE_ok.tr hE hS (g_freeX hD hS hA (by decide) (addr0 hw))) hl.1 (Nat.le_of_ble_eq_true rfl) dX8_copy_85 rfl) hP hD hS hA (ks := [14]) (by decide) (addr0 hw) (fun k9 _ hk9 => rfl) (fun H1 hw1 => (List.forall_mem_cons.mpr ⟨hw1, (fun _ h9 => absurd h9 List.not_mem_nil)⟩)) rfl (fun H locs hP hS => ?_)
                  refine lv_if_ne (tgt := 94) (pc := 88) hx hb dX8_copy_88 (by decide) (fun c88 => ?_) (fun c88 => ?_)
                  · replace h := it_f c88 h
                    refine lv_aload (pc := 94) hx hb dX8_copy_94 (lv_at hl 1 rfl) ?_
                    refine va_get (D := D) (ci := 5) (v := .ref ((a 12) 1)) (C := RX5) (T := TX5) (N := 3) (pc := 96) hx hb hfX5 (fun _ h9 => h9) hown hK (show va_P D vwCl (wX5 (a 12) c (X (11 + 1))) _ from hP 12 (by decide)) 0 rfl rfl 0 (by decide) lk2 (fun _ h9 => h9) rfl dX8_copy_96 ?_
                    refine lv_iload_n (pc := 99) hx hb dX8_copy_99 rfl (lv_at hl 4 rfl) ?_
                    refine lv_aload (pc := 100) hx hb dX8_copy_100 (lv_at hl 0 rfl) ?_
                    refine va_get (D := D) (ci := 5) (v := .ref ((a 14) 1)) (C := RX5) (T := TX5) (N := 3) (pc := 102) hx hb hfX5 (fun _ h9 => h9) hown hK (show va_P D vwCl (wX5 (a 14) c (X (11 + 3))) _ from hP 14 (by decide)) 0 rfl rfl 0 (by decide) lk2 (fun _ h9 => h9) rfl dX8_copy_102 ?_
                    refine lv_iload (pc := 105) hx hb dX8_copy_105 (lv_at hl 6 rfl) ?_
                    refine lv_iload (pc := 107) hx hb dX8_copy_107 (lv_at hl 7 rfl) ?_
                    obtain ⟨hk109, h⟩ := ckP_i h
                    obtain ⟨z1, z2, z3, z4, z5⟩ := of_decide_eq_true hk109
                    have hP1 := hP.one (11 + 3) (by decide)
                    have hD1 := hD.one c X (11 + 3) (by decide) (X (11 + 3))
                    obtain ⟨q109, hq109⟩ := XR.mem (c := c) (X := X) (σ := (X (11 + 3))) (j := (11 + 1)) (k := (11 + 3)) (by decide) (by decide) (q := (a (11 + 1) 1, .inl (c 0, 40, .inl ((X (11 + 1)).1 0)))) (g_memS a c (X (11 + 1)) 1 (by decide))
                    refine va_copyi (f := ((X (11 + 1)).1 0)) (g := ((X (11 + 3)).1 0)) (ty := .int) (pc := 109) hx hb (by rw [hml]; exact hl.1.symm) hown lk3 lk4 lk5 lk6 hK hP1 hD1 hS q109 1 0 0 hq109 (g_atS a c (X (11 + 3)) _ 3 (by decide)) rfl rfl rfl z1 z2 z3 z4 z5 (fun _ _ => rfl) (Nat.le_of_ble_eq_true rfl) (Nat.le_of_ble_eq_true (by decide +kernel)) dX8_copy_109 (fun H locs hP _ hS => ?_)
                    have hP : XP D a c (xs X (11 + 3) (mr (X (11 + 3)) 0 (va_cpy ((X (11 + 1)).1 0) ((X (11 + 3)).1 0) (p1).toNatClampNeg (p3).toNatClampNeg (p4).toNatClampNeg))) H := XP.setS (k := 3) (by decide) hP
                    refine lv_iload (pc := 112) hx hb dX8_copy_112 (lv_at hl 7 rfl) ?_
                    have kr := KR p4 (xs X (11 + 3) (mr (X (11 + 3)) 0 (va_cpy ((X (11 + 1)).1 0) ((X (11 + 3)).1 0) (p1).toNatClampNeg (p3).toNatClampNeg (p4).toNatClampNeg))) _ _ 114 ls h rfl hP hS dX8_copy_114
                    exact kr
                  · replace h := it_t c88 h
                    refine lv_bipush (v := -12) (pc := 91) hx hb dX8_copy_91 (by decide) ?_
                    have kr := KR (-12 : Int32) X _ _ 93 ls h rfl hP hS dX8_copy_93
                    exact kr
              · replace h := it_f c62 h
                refine lv_bipush (v := -13) (pc := 65) hx hb dX8_copy_65 (by decide) ?_
                have kr := KR (-13 : Int32) X _ _ 67 ls h rfl hP hS dX8_copy_67
                exact kr
            · replace h := it_f c46 h
              refine lv_bipush (v := -11) (pc := 49) hx hb dX8_copy_49 (by decide) ?_
              have kr := KR (-11 : Int32) X _ _ 51 ls h rfl hP hS dX8_copy_51
              exact kr
      · refine g_aald (v := a 13 0) (pc := 22) hx hb hK (show va_P D vwCl (wX8 a c (X 0)) _ from hP 0 (by decide)) 1 3 rfl rfl hk22 ek22 rfl dX8_copy_22 ?_
        refine lv_astore (lv' := [(6, .ref ((a 13) 0)), (0, .ref (a 0 0)), (1, .int p0), (2, .int p1), (3, .int p2), (4, .int p3), (5, .int p4)]) (pc := 23) hx hb dX8_copy_23 hl (by decide) rfl (fun ls hl => ?_)
        refine lv_aload_n (pc := 25) hx hb dX8_copy_25 rfl (lv_at hl 1 rfl) ?_
        refine va_get (D := D) (ci := 8) (v := .ref (a 0 1)) (C := RX8) (T := TX8) (N := 12) (pc := 26) hx hb hfX8 (fun _ h9 => h9) hown hK (show va_P D vwCl (wX8 a c (X 0)) _ from hP 0 (by decide)) 0 rfl rfl 11 (by decide) lk0 (fun _ h9 => h9) rfl dX8_copy_26 ?_
        refine lv_iload_n (pc := 29) hx hb dX8_copy_29 rfl (lv_at hl 4 rfl) ?_
        obtain ⟨hk30, h⟩ := ckI_i h
        obtain ⟨k30, ek30, h⟩ := lt_i h
        rcases g_four (by rw [ek30]; exact g_inlt hk30 : k30 < 4) with rfl | rfl | rfl | rfl
        · refine g_aald (v := a 11 0) (pc := 30) hx hb hK (show va_P D vwCl (wX8 a c (X 0)) _ from hP 0 (by decide)) 1 3 rfl rfl hk30 ek30 rfl dX8_copy_30 ?_
          refine lv_astore (lv' := [(7, .ref ((a 11) 0)), (6, .ref ((a 13) 0)), (0, .ref (a 0 0)), (1, .int p0), (2, .int p1), (3, .int p2), (4, .int p3), (5, .int p4)]) (pc := 31) hx hb dX8_copy_31 hl (by decide) rfl (fun ls hl => ?_)
          refine lv_aload (pc := 33) hx hb dX8_copy_33 (lv_at hl 1 rfl) ?_
          obtain ⟨r35, hc35, h⟩ := b1_i h
          have hw : (wX5 (a 13) c (X (11 + 2))).map (·.1) = [13].flatMap (uA a) := rfl
          have hPc : va_P D vwCl (wX5 (a 13) c (X (11 + 2))) _ := hP 13 (by decide)
          have hDc : va_D A (wX5 (a 13) c (X (11 + 2))) := hD.of_addr (by decide) (by decide) hw
          refine g_X (X' := X) (st1 := [.int r35]) (gr_V (n := 0) (rest := []) (pc := 35) hx hb hml hown hts (cX5_isMissing_met l D c tb sa sv (a 13) (X (11 + 2)) _ hc35) gX8_copy_X5_isMissing rfl rfl rfl (by decide +kernel) rfl ⟨Nat.le_of_ble_eq_true rfl, Nat.le_of_ble_eq_true rfl⟩ ⟨Nat.zero_le _, Nat.zero_le _⟩ 0 5 rfl rfl rfl xE_ok hPc hDc hK (xE_ok.tr hE hS (g_freeX hD hS hA (by decide) (addr0 hw))) hl.1 (Nat.le_of_ble_eq_true rfl) dX8_copy_35 rfl) hP hD hS hA (ks := [13]) (by decide) (addr0 hw) (fun k9 _ hk9 => rfl) (fun H1 hw1 => (List.forall_mem_cons.mpr ⟨hw1, (fun _ h9 => absurd h9 List.not_mem_nil)⟩)) rfl (fun H locs hP hS => ?_)
          refine lv_if_ne (tgt := 49) (pc := 38) hx hb dX8_copy_38 (by decide) (fun c38 => ?_) (fun c38 => ?_)
          · replace h := it_f c38 h
            refine lv_bipush (v := -11) (pc := 49) hx hb dX8_copy_49 (by decide) ?_
            have kr := KR (-11 : Int32) X _ _ 51 ls h rfl hP hS dX8_copy_51
            exact kr
          · replace h := it_t c38 h
            refine lv_aload (pc := 41) hx hb dX8_copy_41 (lv_at hl 0 rfl) ?_
            obtain ⟨r43, hc43, h⟩ := b1_i h
            have hw : (wX5 (a 11) c (X (11 + 0))).map (·.1) = [11].flatMap (uA a) := rfl
            have hPc : va_P D vwCl (wX5 (a 11) c (X (11 + 0))) _ := hP 11 (by decide)
            have hDc : va_D A (wX5 (a 11) c (X (11 + 0))) := hD.of_addr (by decide) (by decide) hw
            refine g_X (X' := X) (st1 := [.int r43]) (gr_V (n := 0) (rest := []) (pc := 43) hx hb hml hown hts (cX5_isMissing_met l D c tb sa sv (a 11) (X (11 + 0)) _ hc43) gX8_copy_X5_isMissing rfl rfl rfl (by decide +kernel) rfl ⟨Nat.le_of_ble_eq_true rfl, Nat.le_of_ble_eq_true rfl⟩ ⟨Nat.zero_le _, Nat.zero_le _⟩ 0 5 rfl rfl rfl xE_ok hPc hDc hK (xE_ok.tr hE hS (g_freeX hD hS hA (by decide) (addr0 hw))) hl.1 (Nat.le_of_ble_eq_true rfl) dX8_copy_43 rfl) hP hD hS hA (ks := [11]) (by decide) (addr0 hw) (fun k9 _ hk9 => rfl) (fun H1 hw1 => (List.forall_mem_cons.mpr ⟨hw1, (fun _ h9 => absurd h9 List.not_mem_nil)⟩)) rfl (fun H locs hP hS => ?_)
            refine lv_if_eq (tgt := 52) (pc := 46) hx hb dX8_copy_46 (by decide) (fun c46 => ?_) (fun c46 => ?_)
            · replace h := it_t c46 h
              refine lv_aload (pc := 52) hx hb dX8_copy_52 (lv_at hl 1 rfl) ?_
              refine va_get (D := D) (ci := 5) (v := .int ((X (11 + 2)).1 1 0)) (C := RX5) (T := TX5) (N := 3) (pc := 54) hx hb hfX5 (fun _ h9 => h9) hown hK (show va_P D vwCl (wX5 (a 13) c (X (11 + 2))) _ from hP 13 (by decide)) 0 rfl rfl 1 (by decide) lk1 (fun _ h9 => h9) rfl dX8_copy_54 ?_
              refine lv_aload (pc := 57) hx hb dX8_copy_57 (lv_at hl 0 rfl) ?_
              refine va_get (D := D) (ci := 5) (v := .int ((X (11 + 0)).1 1 0)) (C := RX5) (T := TX5) (N := 3) (pc := 59) hx hb hfX5 (fun _ h9 => h9) hown hK (show va_P D vwCl (wX5 (a 11) c (X (11 + 0))) _ from hP 11 (by decide)) 0 rfl rfl 1 (by decide) lk1 (fun _ h9 => h9) rfl dX8_copy_59 ?_
              refine lv_icmp_eq (tgt := 68) (pc := 62) hx hb dX8_copy_62 (by decide) (fun c62 => ?_) (fun c62 => ?_)
              · replace h := it_t c62 h
                refine lv_aload (pc := 68) hx hb dX8_copy_68 (lv_at hl 1 rfl) ?_
                refine lv_iload_n (pc := 70) hx hb dX8_copy_70 rfl (lv_at hl 4 rfl) ?_
                refine lv_iload (pc := 71) hx hb dX8_copy_71 (lv_at hl 7 rfl) ?_
                obtain ⟨r73, hc73, h⟩ := b1_i h
                have hw : (wX5 (a 13) c (X (11 + 2))).map (·.1) = [13].flatMap (uA a) := rfl
                have hPc : va_P D vwCl (wX5 (a 13) c (X (11 + 2))) _ := hP 13 (by decide)
                have hDc : va_D A (wX5 (a 13) c (X (11 + 2))) := hD.of_addr (by decide) (by decide) hw
                refine g_X (X' := X) (st1 := [.int r73]) (gr_V (n := 2) (rest := []) (pc := 73) hx hb hml hown hts (cX5_hasRun_met l D c tb sa sv (a 13) p1 p4 (X (11 + 2)) _ hc73) gX8_copy_X5_hasRun rfl rfl rfl (by decide +kernel) rfl ⟨Nat.le_of_ble_eq_true rfl, Nat.le_of_ble_eq_true rfl⟩ ⟨Nat.zero_le _, Nat.zero_le _⟩ 0 5 rfl rfl rfl xE_ok hPc hDc hK (xE_ok.tr hE hS (g_freeX hD hS hA (by decide) (addr0 hw))) hl.1 (Nat.le_of_ble_eq_true rfl) dX8_copy_73 rfl) hP hD hS hA (ks := [13]) (by decide) (addr0 hw) (fun k9 _ hk9 => rfl) (fun H1 hw1 => (List.forall_mem_cons.mpr ⟨hw1, (fun _ h9 => absurd h9 List.not_mem_nil)⟩)) rfl (fun H locs hP hS => ?_)
                refine lv_if_eq (tgt := 91) (pc := 76) hx hb dX8_copy_76 (by decide) (fun c76 => ?_) (fun c76 => ?_)
                · replace h := it_t c76 h
                  refine lv_bipush (v := -12) (pc := 91) hx hb dX8_copy_91 (by decide) ?_
                  have kr := KR (-12 : Int32) X _ _ 93 ls h rfl hP hS dX8_copy_93
                  exact kr
                · replace h := it_f c76 h
                  refine lv_aload (pc := 79) hx hb dX8_copy_79 (lv_at hl 0 rfl) ?_
                  refine lv_iload (pc := 81) hx hb dX8_copy_81 (lv_at hl 6 rfl) ?_
                  refine lv_iload (pc := 83) hx hb dX8_copy_83 (lv_at hl 7 rfl) ?_
                  obtain ⟨r85, hc85, h⟩ := b1_i h
                  have hw : (wX5 (a 11) c (X (11 + 0))).map (·.1) = [11].flatMap (uA a) := rfl
                  have hPc : va_P D vwCl (wX5 (a 11) c (X (11 + 0))) _ := hP 11 (by decide)
                  have hDc : va_D A (wX5 (a 11) c (X (11 + 0))) := hD.of_addr (by decide) (by decide) hw
                  refine g_X (X' := X) (st1 := [.int r85]) (gr_V (n := 2) (rest := []) (pc := 85) hx hb hml hown hts (cX5_hasRun_met l D c tb sa sv (a 11) p3 p4 (X (11 + 0)) _ hc85) gX8_copy_X5_hasRun rfl rfl rfl (by decide +kernel) rfl ⟨Nat.le_of_ble_eq_true rfl, Nat.le_of_ble_eq_true rfl⟩ ⟨Nat.zero_le _, Nat.zero_le _⟩ 0 5 rfl rfl rfl xE_ok hPc hDc hK (xE_ok.tr hE hS (g_freeX hD hS hA (by decide) (addr0 hw))) hl.1 (Nat.le_of_ble_eq_true rfl) dX8_copy_85 rfl) hP hD hS hA (ks := [11]) (by decide) (addr0 hw) (fun k9 _ hk9 => rfl) (fun H1 hw1 => (List.forall_mem_cons.mpr ⟨hw1, (fun _ h9 => absurd h9 List.not_mem_nil)⟩)) rfl (fun H locs hP hS => ?_)
                  refine lv_if_ne (tgt := 94) (pc := 88) hx hb dX8_copy_88 (by decide) (fun c88 => ?_) (fun c88 => ?_)
                  · replace h := it_f c88 h
                    refine lv_aload (pc := 94) hx hb dX8_copy_94 (lv_at hl 1 rfl) ?_
                    refine va_get (D := D) (ci := 5) (v := .ref ((a 13) 1)) (C := RX5) (T := TX5) (N := 3) (pc := 96) hx hb hfX5 (fun _ h9 => h9) hown hK (show va_P D vwCl (wX5 (a 13) c (X (11 + 2))) _ from hP 13 (by decide)) 0 rfl rfl 0 (by decide) lk2 (fun _ h9 => h9) rfl dX8_copy_96 ?_
                    refine lv_iload_n (pc := 99) hx hb dX8_copy_99 rfl (lv_at hl 4 rfl) ?_
                    refine lv_aload (pc := 100) hx hb dX8_copy_100 (lv_at hl 0 rfl) ?_
                    refine va_get (D := D) (ci := 5) (v := .ref ((a 11) 1)) (C := RX5) (T := TX5) (N := 3) (pc := 102) hx hb hfX5 (fun _ h9 => h9) hown hK (show va_P D vwCl (wX5 (a 11) c (X (11 + 0))) _ from hP 11 (by decide)) 0 rfl rfl 0 (by decide) lk2 (fun _ h9 => h9) rfl dX8_copy_102 ?_
                    refine lv_iload (pc := 105) hx hb dX8_copy_105 (lv_at hl 6 rfl) ?_
                    refine lv_iload (pc := 107) hx hb dX8_copy_107 (lv_at hl 7 rfl) ?_
                    obtain ⟨hk109, h⟩ := ckP_i h
                    obtain ⟨z1, z2, z3, z4, z5⟩ := of_decide_eq_true hk109
                    have hP1 := hP.one (11 + 0) (by decide)
                    have hD1 := hD.one c X (11 + 0) (by decide) (X (11 + 0))
                    obtain ⟨q109, hq109⟩ := XR.mem (c := c) (X := X) (σ := (X (11 + 0))) (j := (11 + 2)) (k := (11 + 0)) (by decide) (by decide) (q := (a (11 + 2) 1, .inl (c 0, 40, .inl ((X (11 + 2)).1 0)))) (g_memS a c (X (11 + 2)) 2 (by decide))
                    refine va_copyi (f := ((X (11 + 2)).1 0)) (g := ((X (11 + 0)).1 0)) (ty := .int) (pc := 109) hx hb (by rw [hml]; exact hl.1.symm) hown lk3 lk4 lk5 lk6 hK hP1 hD1 hS q109 1 0 0 hq109 (g_atS a c (X (11 + 0)) _ 0 (by decide)) rfl rfl rfl z1 z2 z3 z4 z5 (fun _ _ => rfl) (Nat.le_of_ble_eq_true rfl) (Nat.le_of_ble_eq_true (by decide +kernel)) dX8_copy_109 (fun H locs hP _ hS => ?_)
                    have hP : XP D a c (xs X (11 + 0) (mr (X (11 + 0)) 0 (va_cpy ((X (11 + 2)).1 0) ((X (11 + 0)).1 0) (p1).toNatClampNeg (p3).toNatClampNeg (p4).toNatClampNeg))) H := XP.setS (k := 0) (by decide) hP
                    refine lv_iload (pc := 112) hx hb dX8_copy_112 (lv_at hl 7 rfl) ?_
                    have kr := KR p4 (xs X (11 + 0) (mr (X (11 + 0)) 0 (va_cpy ((X (11 + 2)).1 0) ((X (11 + 0)).1 0) (p1).toNatClampNeg (p3).toNatClampNeg (p4).toNatClampNeg))) _ _ 114 ls h rfl hP hS dX8_copy_114
                    exact kr
                  · replace h := it_t c88 h
                    refine lv_bipush (v := -12) (pc := 91) hx hb dX8_copy_91 (by decide) ?_
                    have kr := KR (-12 : Int32) X _ _ 93 ls h rfl hP hS dX8_copy_93
                    exact kr
              · replace h := it_f c62 h
                refine lv_bipush (v := -13) (pc := 65) hx hb dX8_copy_65 (by decide) ?_
                have kr := KR (-13 : Int32) X _ _ 67 ls h rfl hP hS dX8_copy_67
                exact kr
            · replace h := it_f c46 h
              refine lv_bipush (v := -11) (pc := 49) hx hb dX8_copy_49 (by decide) ?_
              have kr := KR (-11 : Int32) X _ _ 51 ls h rfl hP hS dX8_copy_51
              exact kr
        · refine g_aald (v := a 12 0) (pc := 30) hx hb hK (show va_P D vwCl (wX8 a c (X 0)) _ from hP 0 (by decide)) 1 3 rfl rfl hk30 ek30 rfl dX8_copy_30 ?_
          refine lv_astore (lv' := [(7, .ref ((a 12) 0)), (6, .ref ((a 13) 0)), (0, .ref (a 0 0)), (1, .int p0), (2, .int p1), (3, .int p2), (4, .int p3), (5, .int p4)]) (pc := 31) hx hb dX8_copy_31 hl (by decide) rfl (fun ls hl => ?_)
          refine lv_aload (pc := 33) hx hb dX8_copy_33 (lv_at hl 1 rfl) ?_
          obtain ⟨r35, hc35, h⟩ := b1_i h
          have hw : (wX5 (a 13) c (X (11 + 2))).map (·.1) = [13].flatMap (uA a) := rfl
          have hPc : va_P D vwCl (wX5 (a 13) c (X (11 + 2))) _ := hP 13 (by decide)
          have hDc : va_D A (wX5 (a 13) c (X (11 + 2))) := hD.of_addr (by decide) (by decide) hw
          refine g_X (X' := X) (st1 := [.int r35]) (gr_V (n := 0) (rest := []) (pc := 35) hx hb hml hown hts (cX5_isMissing_met l D c tb sa sv (a 13) (X (11 + 2)) _ hc35) gX8_copy_X5_isMissing rfl rfl rfl (by decide +kernel) rfl ⟨Nat.le_of_ble_eq_true rfl, Nat.le_of_ble_eq_true rfl⟩ ⟨Nat.zero_le _, Nat.zero_le _⟩ 0 5 rfl rfl rfl xE_ok hPc hDc hK (xE_ok.tr hE hS (g_freeX hD hS hA (by decide) (addr0 hw))) hl.1 (Nat.le_of_ble_eq_true rfl) dX8_copy_35 rfl) hP hD hS hA (ks := [13]) (by decide) (addr0 hw) (fun k9 _ hk9 => rfl) (fun H1 hw1 => (List.forall_mem_cons.mpr ⟨hw1, (fun _ h9 => absurd h9 List.not_mem_nil)⟩)) rfl (fun H locs hP hS => ?_)
          refine lv_if_ne (tgt := 49) (pc := 38) hx hb dX8_copy_38 (by decide) (fun c38 => ?_) (fun c38 => ?_)
          · replace h := it_f c38 h
            refine lv_bipush (v := -11) (pc := 49) hx hb dX8_copy_49 (by decide) ?_
            have kr := KR (-11 : Int32) X _ _ 51 ls h rfl hP hS dX8_copy_51
            exact kr
          · replace h := it_t c38 h
            refine lv_aload (pc := 41) hx hb dX8_copy_41 (lv_at hl 0 rfl) ?_
            obtain ⟨r43, hc43, h⟩ := b1_i h
            have hw : (wX5 (a 12) c (X (11 + 1))).map (·.1) = [12].flatMap (uA a) := rfl
            have hPc : va_P D vwCl (wX5 (a 12) c (X (11 + 1))) _ := hP 12 (by decide)
            have hDc : va_D A (wX5 (a 12) c (X (11 + 1))) := hD.of_addr (by decide) (by decide) hw
            refine g_X (X' := X) (st1 := [.int r43]) (gr_V (n := 0) (rest := []) (pc := 43) hx hb hml hown hts (cX5_isMissing_met l D c tb sa sv (a 12) (X (11 + 1)) _ hc43) gX8_copy_X5_isMissing rfl rfl rfl (by decide +kernel) rfl ⟨Nat.le_of_ble_eq_true rfl, Nat.le_of_ble_eq_true rfl⟩ ⟨Nat.zero_le _, Nat.zero_le _⟩ 0 5 rfl rfl rfl xE_ok hPc hDc hK (xE_ok.tr hE hS (g_freeX hD hS hA (by decide) (addr0 hw))) hl.1 (Nat.le_of_ble_eq_true rfl) dX8_copy_43 rfl) hP hD hS hA (ks := [12]) (by decide) (addr0 hw) (fun k9 _ hk9 => rfl) (fun H1 hw1 => (List.forall_mem_cons.mpr ⟨hw1, (fun _ h9 => absurd h9 List.not_mem_nil)⟩)) rfl (fun H locs hP hS => ?_)
            refine lv_if_eq (tgt := 52) (pc := 46) hx hb dX8_copy_46 (by decide) (fun c46 => ?_) (fun c46 => ?_)
            · replace h := it_t c46 h
              refine lv_aload (pc := 52) hx hb dX8_copy_52 (lv_at hl 1 rfl) ?_
              refine va_get (D := D) (ci := 5) (v := .int ((X (11 + 2)).1 1 0)) (C := RX5) (T := TX5) (N := 3) (pc := 54) hx hb hfX5 (fun _ h9 => h9) hown hK (show va_P D vwCl (wX5 (a 13) c (X (11 + 2))) _ from hP 13 (by decide)) 0 rfl rfl 1 (by decide) lk1 (fun _ h9 => h9) rfl dX8_copy_54 ?_
              refine lv_aload (pc := 57) hx hb dX8_copy_57 (lv_at hl 0 rfl) ?_
              refine va_get (D := D) (ci := 5) (v := .int ((X (11 + 1)).1 1 0)) (C := RX5) (T := TX5) (N := 3) (pc := 59) hx hb hfX5 (fun _ h9 => h9) hown hK (show va_P D vwCl (wX5 (a 12) c (X (11 + 1))) _ from hP 12 (by decide)) 0 rfl rfl 1 (by decide) lk1 (fun _ h9 => h9) rfl dX8_copy_59 ?_
              refine lv_icmp_eq (tgt := 68) (pc := 62) hx hb dX8_copy_62 (by decide) (fun c62 => ?_) (fun c62 => ?_)
              · replace h := it_t c62 h
                refine lv_aload (pc := 68) hx hb dX8_copy_68 (lv_at hl 1 rfl) ?_
                refine lv_iload_n (pc := 70) hx hb dX8_copy_70 rfl (lv_at hl 4 rfl) ?_
                refine lv_iload (pc := 71) hx hb dX8_copy_71 (lv_at hl 7 rfl) ?_
                obtain ⟨r73, hc73, h⟩ := b1_i h
                have hw : (wX5 (a 13) c (X (11 + 2))).map (·.1) = [13].flatMap (uA a) := rfl
                have hPc : va_P D vwCl (wX5 (a 13) c (X (11 + 2))) _ := hP 13 (by decide)
                have hDc : va_D A (wX5 (a 13) c (X (11 + 2))) := hD.of_addr (by decide) (by decide) hw
                refine g_X (X' := X) (st1 := [.int r73]) (gr_V (n := 2) (rest := []) (pc := 73) hx hb hml hown hts (cX5_hasRun_met l D c tb sa sv (a 13) p1 p4 (X (11 + 2)) _ hc73) gX8_copy_X5_hasRun rfl rfl rfl (by decide +kernel) rfl ⟨Nat.le_of_ble_eq_true rfl, Nat.le_of_ble_eq_true rfl⟩ ⟨Nat.zero_le _, Nat.zero_le _⟩ 0 5 rfl rfl rfl xE_ok hPc hDc hK (xE_ok.tr hE hS (g_freeX hD hS hA (by decide) (addr0 hw))) hl.1 (Nat.le_of_ble_eq_true rfl) dX8_copy_73 rfl) hP hD hS hA (ks := [13]) (by decide) (addr0 hw) (fun k9 _ hk9 => rfl) (fun H1 hw1 => (List.forall_mem_cons.mpr ⟨hw1, (fun _ h9 => absurd h9 List.not_mem_nil)⟩)) rfl (fun H locs hP hS => ?_)
                refine lv_if_eq (tgt := 91) (pc := 76) hx hb dX8_copy_76 (by decide) (fun c76 => ?_) (fun c76 => ?_)
                · replace h := it_t c76 h
                  refine lv_bipush (v := -12) (pc := 91) hx hb dX8_copy_91 (by decide) ?_
                  have kr := KR (-12 : Int32) X _ _ 93 ls h rfl hP hS dX8_copy_93
                  exact kr
                · replace h := it_f c76 h
                  refine lv_aload (pc := 79) hx hb dX8_copy_79 (lv_at hl 0 rfl) ?_
                  refine lv_iload (pc := 81) hx hb dX8_copy_81 (lv_at hl 6 rfl) ?_
                  refine lv_iload (pc := 83) hx hb dX8_copy_83 (lv_at hl 7 rfl) ?_
                  obtain ⟨r85, hc85, h⟩ := b1_i h
                  have hw : (wX5 (a 12) c (X (11 + 1))).map (·.1) = [12].flatMap (uA a) := rfl
                  have hPc : va_P D vwCl (wX5 (a 12) c (X (11 + 1))) _ := hP 12 (by decide)
                  have hDc : va_D A (wX5 (a 12) c (X (11 + 1))) := hD.of_addr (by decide) (by decide) hw
                  refine g_X (X' := X) (st1 := [.int r85]) (gr_V (n := 2) (rest := []) (pc := 85) hx hb hml hown hts (cX5_hasRun_met l D c tb sa sv (a 12) p3 p4 (X (11 + 1)) _ hc85) gX8_copy_X5_hasRun rfl rfl rfl (by decide +kernel) rfl ⟨Nat.le_of_ble_eq_true rfl, Nat.le_of_ble_eq_true rfl⟩ ⟨Nat.zero_le _, Nat.zero_le _⟩ 0 5 rfl rfl rfl xE_ok hPc hDc hK (xE_ok.tr hE hS (g_freeX hD hS hA (by decide) (addr0 hw))) hl.1 (Nat.le_of_ble_eq_true rfl) dX8_copy_85 rfl) hP hD hS hA (ks := [12]) (by decide) (addr0 hw) (fun k9 _ hk9 => rfl) (fun H1 hw1 => (List.forall_mem_cons.mpr ⟨hw1, (fun _ h9 => absurd h9 List.not_mem_nil)⟩)) rfl (fun H locs hP hS => ?_)
                  refine lv_if_ne (tgt := 94) (pc := 88) hx hb dX8_copy_88 (by decide) (fun c88 => ?_) (fun c88 => ?_)
                  · replace h := it_f c88 h
                    refine lv_aload (pc := 94) hx hb dX8_copy_94 (lv_at hl 1 rfl) ?_
                    refine va_get (D := D) (ci := 5) (v := .ref ((a 13) 1)) (C := RX5) (T := TX5) (N := 3) (pc := 96) hx hb hfX5 (fun _ h9 => h9) hown hK (show va_P D vwCl (wX5 (a 13) c (X (11 + 2))) _ from hP 13 (by decide)) 0 rfl rfl 0 (by decide) lk2 (fun _ h9 => h9) rfl dX8_copy_96 ?_
                    refine lv_iload_n (pc := 99) hx hb dX8_copy_99 rfl (lv_at hl 4 rfl) ?_
                    refine lv_aload (pc := 100) hx hb dX8_copy_100 (lv_at hl 0 rfl) ?_
                    refine va_get (D := D) (ci := 5) (v := .ref ((a 12) 1)) (C := RX5) (T := TX5) (N := 3) (pc := 102) hx hb hfX5 (fun _ h9 => h9) hown hK (show va_P D vwCl (wX5 (a 12) c (X (11 + 1))) _ from hP 12 (by decide)) 0 rfl rfl 0 (by decide) lk2 (fun _ h9 => h9) rfl dX8_copy_102 ?_
                    refine lv_iload (pc := 105) hx hb dX8_copy_105 (lv_at hl 6 rfl) ?_
                    refine lv_iload (pc := 107) hx hb dX8_copy_107 (lv_at hl 7 rfl) ?_
                    obtain ⟨hk109, h⟩ := ckP_i h
                    obtain ⟨z1, z2, z3, z4, z5⟩ := of_decide_eq_true hk109
                    have hP1 := hP.one (11 + 1) (by decide)
                    have hD1 := hD.one c X (11 + 1) (by decide) (X (11 + 1))
                    obtain ⟨q109, hq109⟩ := XR.mem (c := c) (X := X) (σ := (X (11 + 1))) (j := (11 + 2)) (k := (11 + 1)) (by decide) (by decide) (q := (a (11 + 2) 1, .inl (c 0, 40, .inl ((X (11 + 2)).1 0)))) (g_memS a c (X (11 + 2)) 2 (by decide))
                    refine va_copyi (f := ((X (11 + 2)).1 0)) (g := ((X (11 + 1)).1 0)) (ty := .int) (pc := 109) hx hb (by rw [hml]; exact hl.1.symm) hown lk3 lk4 lk5 lk6 hK hP1 hD1 hS q109 1 0 0 hq109 (g_atS a c (X (11 + 1)) _ 1 (by decide)) rfl rfl rfl z1 z2 z3 z4 z5 (fun _ _ => rfl) (Nat.le_of_ble_eq_true rfl) (Nat.le_of_ble_eq_true (by decide +kernel)) dX8_copy_109 (fun H locs hP _ hS => ?_)
                    have hP : XP D a c (xs X (11 + 1) (mr (X (11 + 1)) 0 (va_cpy ((X (11 + 2)).1 0) ((X (11 + 1)).1 0) (p1).toNatClampNeg (p3).toNatClampNeg (p4).toNatClampNeg))) H := XP.setS (k := 1) (by decide) hP
                    refine lv_iload (pc := 112) hx hb dX8_copy_112 (lv_at hl 7 rfl) ?_
                    have kr := KR p4 (xs X (11 + 1) (mr (X (11 + 1)) 0 (va_cpy ((X (11 + 2)).1 0) ((X (11 + 1)).1 0) (p1).toNatClampNeg (p3).toNatClampNeg (p4).toNatClampNeg))) _ _ 114 ls h rfl hP hS dX8_copy_114
                    exact kr
                  · replace h := it_t c88 h
                    refine lv_bipush (v := -12) (pc := 91) hx hb dX8_copy_91 (by decide) ?_
                    have kr := KR (-12 : Int32) X _ _ 93 ls h rfl hP hS dX8_copy_93
                    exact kr
              · replace h := it_f c62 h
                refine lv_bipush (v := -13) (pc := 65) hx hb dX8_copy_65 (by decide) ?_
                have kr := KR (-13 : Int32) X _ _ 67 ls h rfl hP hS dX8_copy_67
                exact kr
            · replace h := it_f c46 h
              refine lv_bipush (v := -11) (pc := 49) hx hb dX8_copy_49 (by decide) ?_
              have kr := KR (-11 : Int32) X _ _ 51 ls h rfl hP hS dX8_copy_51
              exact kr
        · refine g_aald (v := a 13 0) (pc := 30) hx hb hK (show va_P D vwCl (wX8 a c (X 0)) _ from hP 0 (by decide)) 1 3 rfl rfl hk30 ek30 rfl dX8_copy_30 ?_
          refine lv_astore (lv' := [(7, .ref ((a 13) 0)), (6, .ref ((a 13) 0)), (0, .ref (a 0 0)), (1, .int p0), (2, .int p1), (3, .int p2), (4, .int p3), (5, .int p4)]) (pc := 31) hx hb dX8_copy_31 hl (by decide) rfl (fun ls hl => ?_)
          refine lv_aload (pc := 33) hx hb dX8_copy_33 (lv_at hl 1 rfl) ?_
          obtain ⟨r35, hc35, h⟩ := b1_i h
          have hw : (wX5 (a 13) c (X (11 + 2))).map (·.1) = [13].flatMap (uA a) := rfl
          have hPc : va_P D vwCl (wX5 (a 13) c (X (11 + 2))) _ := hP 13 (by decide)
          have hDc : va_D A (wX5 (a 13) c (X (11 + 2))) := hD.of_addr (by decide) (by decide) hw
          refine g_X (X' := X) (st1 := [.int r35]) (gr_V (n := 0) (rest := []) (pc := 35) hx hb hml hown hts (cX5_isMissing_met l D c tb sa sv (a 13) (X (11 + 2)) _ hc35) gX8_copy_X5_isMissing rfl rfl rfl (by decide +kernel) rfl ⟨Nat.le_of_ble_eq_true rfl, Nat.le_of_ble_eq_true rfl⟩ ⟨Nat.zero_le _, Nat.zero_le _⟩ 0 5 rfl rfl rfl xE_ok hPc hDc hK (xE_ok.tr hE hS (g_freeX hD hS hA (by decide) (addr0 hw))) hl.1 (Nat.le_of_ble_eq_true rfl) dX8_copy_35 rfl) hP hD hS hA (ks := [13]) (by decide) (addr0 hw) (fun k9 _ hk9 => rfl) (fun H1 hw1 => (List.forall_mem_cons.mpr ⟨hw1, (fun _ h9 => absurd h9 List.not_mem_nil)⟩)) rfl (fun H locs hP hS => ?_)
          refine lv_if_ne (tgt := 49) (pc := 38) hx hb dX8_copy_38 (by decide) (fun c38 => ?_) (fun c38 => ?_)
          · replace h := it_f c38 h
            refine lv_bipush (v := -11) (pc := 49) hx hb dX8_copy_49 (by decide) ?_
            have kr := KR (-11 : Int32) X _ _ 51 ls h rfl hP hS dX8_copy_51
            exact kr
          · replace h := it_t c38 h
            refine lv_aload (pc := 41) hx hb dX8_copy_41 (lv_at hl 0 rfl) ?_
            obtain ⟨r43, hc43, h⟩ := b1_i h
            have hw : (wX5 (a 13) c (X (11 + 2))).map (·.1) = [13].flatMap (uA a) := rfl
            have hPc : va_P D vwCl (wX5 (a 13) c (X (11 + 2))) _ := hP 13 (by decide)
            have hDc : va_D A (wX5 (a 13) c (X (11 + 2))) := hD.of_addr (by decide) (by decide) hw
            refine g_X (X' := X) (st1 := [.int r43]) (gr_V (n := 0) (rest := []) (pc := 43) hx hb hml hown hts (cX5_isMissing_met l D c tb sa sv (a 13) (X (11 + 2)) _ hc43) gX8_copy_X5_isMissing rfl rfl rfl (by decide +kernel) rfl ⟨Nat.le_of_ble_eq_true rfl, Nat.le_of_ble_eq_true rfl⟩ ⟨Nat.zero_le _, Nat.zero_le _⟩ 0 5 rfl rfl rfl xE_ok hPc hDc hK (xE_ok.tr hE hS (g_freeX hD hS hA (by decide) (addr0 hw))) hl.1 (Nat.le_of_ble_eq_true rfl) dX8_copy_43 rfl) hP hD hS hA (ks := [13]) (by decide) (addr0 hw) (fun k9 _ hk9 => rfl) (fun H1 hw1 => (List.forall_mem_cons.mpr ⟨hw1, (fun _ h9 => absurd h9 List.not_mem_nil)⟩)) rfl (fun H locs hP hS => ?_)
            refine lv_if_eq (tgt := 52) (pc := 46) hx hb dX8_copy_46 (by decide) (fun c46 => ?_) (fun c46 => ?_)
            · replace h := it_t c46 h
              refine lv_aload (pc := 52) hx hb dX8_copy_52 (lv_at hl 1 rfl) ?_
              refine va_get (D := D) (ci := 5) (v := .int ((X (11 + 2)).1 1 0)) (C := RX5) (T := TX5) (N := 3) (pc := 54) hx hb hfX5 (fun _ h9 => h9) hown hK (show va_P D vwCl (wX5 (a 13) c (X (11 + 2))) _ from hP 13 (by decide)) 0 rfl rfl 1 (by decide) lk1 (fun _ h9 => h9) rfl dX8_copy_54 ?_
              refine lv_aload (pc := 57) hx hb dX8_copy_57 (lv_at hl 0 rfl) ?_
              refine va_get (D := D) (ci := 5) (v := .int ((X (11 + 2)).1 1 0)) (C := RX5) (T := TX5) (N := 3) (pc := 59) hx hb hfX5 (fun _ h9 => h9) hown hK (show va_P D vwCl (wX5 (a 13) c (X (11 + 2))) _ from hP 13 (by decide)) 0 rfl rfl 1 (by decide) lk1 (fun _ h9 => h9) rfl dX8_copy_59 ?_
              refine lv_icmp_eq (tgt := 68) (pc := 62) hx hb dX8_copy_62 (by decide) (fun c62 => ?_) (fun c62 => ?_)
              · replace h := it_t c62 h
                refine lv_aload (pc := 68) hx hb dX8_copy_68 (lv_at hl 1 rfl) ?_
                refine lv_iload_n (pc := 70) hx hb dX8_copy_70 rfl (lv_at hl 4 rfl) ?_
                refine lv_iload (pc := 71) hx hb dX8_copy_71 (lv_at hl 7 rfl) ?_
                obtain ⟨r73, hc73, h⟩ := b1_i h
                have hw : (wX5 (a 13) c (X (11 + 2))).map (·.1) = [13].flatMap (uA a) := rfl
                have hPc : va_P D vwCl (wX5 (a 13) c (X (11 + 2))) _ := hP 13 (by decide)
                have hDc : va_D A (wX5 (a 13) c (X (11 + 2))) := hD.of_addr (by decide) (by decide) hw
                refine g_X (X' := X) (st1 := [.int r73]) (gr_V (n := 2) (rest := []) (pc := 73) hx hb hml hown hts (cX5_hasRun_met l D c tb sa sv (a 13) p1 p4 (X (11 + 2)) _ hc73) gX8_copy_X5_hasRun rfl rfl rfl (by decide +kernel) rfl ⟨Nat.le_of_ble_eq_true rfl, Nat.le_of_ble_eq_true rfl⟩ ⟨Nat.zero_le _, Nat.zero_le _⟩ 0 5 rfl rfl rfl xE_ok hPc hDc hK (xE_ok.tr hE hS (g_freeX hD hS hA (by decide) (addr0 hw))) hl.1 (Nat.le_of_ble_eq_true rfl) dX8_copy_73 rfl) hP hD hS hA (ks := [13]) (by decide) (addr0 hw) (fun k9 _ hk9 => rfl) (fun H1 hw1 => (List.forall_mem_cons.mpr ⟨hw1, (fun _ h9 => absurd h9 List.not_mem_nil)⟩)) rfl (fun H locs hP hS => ?_)
                refine lv_if_eq (tgt := 91) (pc := 76) hx hb dX8_copy_76 (by decide) (fun c76 => ?_) (fun c76 => ?_)
                · replace h := it_t c76 h
                  refine lv_bipush (v := -12) (pc := 91) hx hb dX8_copy_91 (by decide) ?_
                  have kr := KR (-12 : Int32) X _ _ 93 ls h rfl hP hS dX8_copy_93
                  exact kr
                · replace h := it_f c76 h
                  refine lv_aload (pc := 79) hx hb dX8_copy_79 (lv_at hl 0 rfl) ?_
                  refine lv_iload (pc := 81) hx hb dX8_copy_81 (lv_at hl 6 rfl) ?_
                  refine lv_iload (pc := 83) hx hb dX8_copy_83 (lv_at hl 7 rfl) ?_
                  obtain ⟨r85, hc85, h⟩ := b1_i h
                  have hw : (wX5 (a 13) c (X (11 + 2))).map (·.1) = [13].flatMap (uA a) := rfl
                  have hPc : va_P D vwCl (wX5 (a 13) c (X (11 + 2))) _ := hP 13 (by decide)
                  have hDc : va_D A (wX5 (a 13) c (X (11 + 2))) := hD.of_addr (by decide) (by decide) hw
                  refine g_X (X' := X) (st1 := [.int r85]) (gr_V (n := 2) (rest := []) (pc := 85) hx hb hml hown hts (cX5_hasRun_met l D c tb sa sv (a 13) p3 p4 (X (11 + 2)) _ hc85) gX8_copy_X5_hasRun rfl rfl rfl (by decide +kernel) rfl ⟨Nat.le_of_ble_eq_true rfl, Nat.le_of_ble_eq_true rfl⟩ ⟨Nat.zero_le _, Nat.zero_le _⟩ 0 5 rfl rfl rfl xE_ok hPc hDc hK (xE_ok.tr hE hS (g_freeX hD hS hA (by decide) (addr0 hw))) hl.1 (Nat.le_of_ble_eq_true rfl) dX8_copy_85 rfl) hP hD hS hA (ks := [13]) (by decide) (addr0 hw) (fun k9 _ hk9 => rfl) (fun H1 hw1 => (List.forall_mem_cons.mpr ⟨hw1, (fun _ h9 => absurd h9 List.not_mem_nil)⟩)) rfl (fun H locs hP hS => ?_)
                  refine lv_if_ne (tgt := 94) (pc := 88) hx hb dX8_copy_88 (by decide) (fun c88 => ?_) (fun c88 => ?_)
                  · replace h := it_f c88 h
                    refine lv_aload (pc := 94) hx hb dX8_copy_94 (lv_at hl 1 rfl) ?_
                    refine va_get (D := D) (ci := 5) (v := .ref ((a 13) 1)) (C := RX5) (T := TX5) (N := 3) (pc := 96) hx hb hfX5 (fun _ h9 => h9) hown hK (show va_P D vwCl (wX5 (a 13) c (X (11 + 2))) _ from hP 13 (by decide)) 0 rfl rfl 0 (by decide) lk2 (fun _ h9 => h9) rfl dX8_copy_96 ?_
                    refine lv_iload_n (pc := 99) hx hb dX8_copy_99 rfl (lv_at hl 4 rfl) ?_
                    refine lv_aload (pc := 100) hx hb dX8_copy_100 (lv_at hl 0 rfl) ?_
                    refine va_get (D := D) (ci := 5) (v := .ref ((a 13) 1)) (C := RX5) (T := TX5) (N := 3) (pc := 102) hx hb hfX5 (fun _ h9 => h9) hown hK (show va_P D vwCl (wX5 (a 13) c (X (11 + 2))) _ from hP 13 (by decide)) 0 rfl rfl 0 (by decide) lk2 (fun _ h9 => h9) rfl dX8_copy_102 ?_
                    refine lv_iload (pc := 105) hx hb dX8_copy_105 (lv_at hl 6 rfl) ?_
                    refine lv_iload (pc := 107) hx hb dX8_copy_107 (lv_at hl 7 rfl) ?_
                    obtain ⟨hk109, h⟩ := ckP_i h
                    obtain ⟨z1, z2, z3, z4, z5⟩ := of_decide_eq_true hk109
                    have hP1 := hP.one (11 + 2) (by decide)
                    have hD1 := hD.one c X (11 + 2) (by decide) (X (11 + 2))
                    refine va_copyi (f := ((X (11 + 2)).1 0)) (g := ((X (11 + 2)).1 0)) (ty := .int) (pc := 109) hx hb (by rw [hml]; exact hl.1.symm) hown lk3 lk4 lk5 lk6 hK hP1 hD1 hS 1 1 0 0 (g_atS a c (X (11 + 2)) _ 2 (by decide)) (g_atS a c (X (11 + 2)) _ 2 (by decide)) rfl rfl rfl z1 z2 z3 z4 z5 (fun _ _ => rfl) (Nat.le_of_ble_eq_true rfl) (Nat.le_of_ble_eq_true (by decide +kernel)) dX8_copy_109 (fun H locs hP _ hS => ?_)
                    have hP : XP D a c (xs X (11 + 2) (mr (X (11 + 2)) 0 (va_cpy ((X (11 + 2)).1 0) ((X (11 + 2)).1 0) (p1).toNatClampNeg (p3).toNatClampNeg (p4).toNatClampNeg))) H := XP.setS (k := 2) (by decide) hP
                    refine lv_iload (pc := 112) hx hb dX8_copy_112 (lv_at hl 7 rfl) ?_
                    have kr := KR p4 (xs X (11 + 2) (mr (X (11 + 2)) 0 (va_cpy ((X (11 + 2)).1 0) ((X (11 + 2)).1 0) (p1).toNatClampNeg (p3).toNatClampNeg (p4).toNatClampNeg))) _ _ 114 ls h rfl hP hS dX8_copy_114
                    exact kr
                  · replace h := it_t c88 h
                    refine lv_bipush (v := -12) (pc := 91) hx hb dX8_copy_91 (by decide) ?_
                    have kr := KR (-12 : Int32) X _ _ 93 ls h rfl hP hS dX8_copy_93
                    exact kr
              · replace h := it_f c62 h
                refine lv_bipush (v := -13) (pc := 65) hx hb dX8_copy_65 (by decide) ?_
                have kr := KR (-13 : Int32) X _ _ 67 ls h rfl hP hS dX8_copy_67
                exact kr
            · replace h := it_f c46 h
              refine lv_bipush (v := -11) (pc := 49) hx hb dX8_copy_49 (by decide) ?_
              have kr := KR (-11 : Int32) X _ _ 51 ls h rfl hP hS dX8_copy_51
              exact kr
        · refine g_aald (v := a 14 0) (pc := 30) hx hb hK (show va_P D vwCl (wX8 a c (X 0)) _ from hP 0 (by decide)) 1 3 rfl rfl hk30 ek30 rfl dX8_copy_30 ?_
          refine lv_astore (lv' := [(7, .ref ((a 14) 0)), (6, .ref ((a 13) 0)), (0, .ref (a 0 0)), (1, .int p0), (2, .int p1), (3, .int p2), (4, .int p3), (5, .int p4)]) (pc := 31) hx hb dX8_copy_31 hl (by decide) rfl (fun ls hl => ?_)
          refine lv_aload (pc := 33) hx hb dX8_copy_33 (lv_at hl 1 rfl) ?_
          obtain ⟨r35, hc35, h⟩ := b1_i h
          have hw : (wX5 (a 13) c (X (11 + 2))).map (·.1) = [13].flatMap (uA a) := rfl
          have hPc : va_P D vwCl (wX5 (a 13) c (X (11 + 2))) _ := hP 13 (by decide)
          have hDc : va_D A (wX5 (a 13) c (X (11 + 2))) := hD.of_addr (by decide) (by decide) hw
          refine g_X (X' := X) (st1 := [.int r35]) (gr_V (n := 0) (rest := []) (pc := 35) hx hb hml hown hts (cX5_isMissing_met l D c tb sa sv (a 13) (X (11 + 2)) _ hc35) gX8_copy_X5_isMissing rfl rfl rfl (by decide +kernel) rfl ⟨Nat.le_of_ble_eq_true rfl, Nat.le_of_ble_eq_true rfl⟩ ⟨Nat.zero_le _, Nat.zero_le _⟩ 0 5 rfl rfl rfl xE_ok hPc hDc hK (xE_ok.tr hE hS (g_freeX hD hS hA (by decide) (addr0 hw))) hl.1 (Nat.le_of_ble_eq_true rfl) dX8_copy_35 rfl) hP hD hS hA (ks := [13]) (by decide) (addr0 hw) (fun k9 _ hk9 => rfl) (fun H1 hw1 => (List.forall_mem_cons.mpr ⟨hw1, (fun _ h9 => absurd h9 List.not_mem_nil)⟩)) rfl (fun H locs hP hS => ?_)
          refine lv_if_ne (tgt := 49) (pc := 38) hx hb dX8_copy_38 (by decide) (fun c38 => ?_) (fun c38 => ?_)
          · replace h := it_f c38 h
            refine lv_bipush (v := -11) (pc := 49) hx hb dX8_copy_49 (by decide) ?_
            have kr := KR (-11 : Int32) X _ _ 51 ls h rfl hP hS dX8_copy_51
            exact kr
          · replace h := it_t c38 h
            refine lv_aload (pc := 41) hx hb dX8_copy_41 (lv_at hl 0 rfl) ?_
            obtain ⟨r43, hc43, h⟩ := b1_i h
            have hw : (wX5 (a 14) c (X (11 + 3))).map (·.1) = [14].flatMap (uA a) := rfl
            have hPc : va_P D vwCl (wX5 (a 14) c (X (11 + 3))) _ := hP 14 (by decide)
            have hDc : va_D A (wX5 (a 14) c (X (11 + 3))) := hD.of_addr (by decide) (by decide) hw
            refine g_X (X' := X) (st1 := [.int r43]) (gr_V (n := 0) (rest := []) (pc := 43) hx hb hml hown hts (cX5_isMissing_met l D c tb sa sv (a 14) (X (11 + 3)) _ hc43) gX8_copy_X5_isMissing rfl rfl rfl (by decide +kernel) rfl ⟨Nat.le_of_ble_eq_true rfl, Nat.le_of_ble_eq_true rfl⟩ ⟨Nat.zero_le _, Nat.zero_le _⟩ 0 5 rfl rfl rfl xE_ok hPc hDc hK (xE_ok.tr hE hS (g_freeX hD hS hA (by decide) (addr0 hw))) hl.1 (Nat.le_of_ble_eq_true rfl) dX8_copy_43 rfl) hP hD hS hA (ks := [14]) (by decide) (addr0 hw) (fun k9 _ hk9 => rfl) (fun H1 hw1 => (List.forall_mem_cons.mpr ⟨hw1, (fun _ h9 => absurd h9 List.not_mem_nil)⟩)) rfl (fun H locs hP hS => ?_)
            refine lv_if_eq (tgt := 52) (pc := 46) hx hb dX8_copy_46 (by decide) (fun c46 => ?_) (fun c46 => ?_)
            · replace h := it_t c46 h
              refine lv_aload (pc := 52) hx hb dX8_copy_52 (lv_at hl 1 rfl) ?_
              refine va_get (D := D) (ci := 5) (v := .int ((X (11 + 2)).1 1 0)) (C := RX5) (T := TX5) (N := 3) (pc := 54) hx hb hfX5 (fun _ h9 => h9) hown hK (show va_P D vwCl (wX5 (a 13) c (X (11 + 2))) _ from hP 13 (by decide)) 0 rfl rfl 1 (by decide) lk1 (fun _ h9 => h9) rfl dX8_copy_54 ?_
              refine lv_aload (pc := 57) hx hb dX8_copy_57 (lv_at hl 0 rfl) ?_
              refine va_get (D := D) (ci := 5) (v := .int ((X (11 + 3)).1 1 0)) (C := RX5) (T := TX5) (N := 3) (pc := 59) hx hb hfX5 (fun _ h9 => h9) hown hK (show va_P D vwCl (wX5 (a 14) c (X (11 + 3))) _ from hP 14 (by decide)) 0 rfl rfl 1 (by decide) lk1 (fun _ h9 => h9) rfl dX8_copy_59 ?_
              refine lv_icmp_eq (tgt := 68) (pc := 62) hx hb dX8_copy_62 (by decide) (fun c62 => ?_) (fun c62 => ?_)
              · replace h := it_t c62 h
                refine lv_aload (pc := 68) hx hb dX8_copy_68 (lv_at hl 1 rfl) ?_
                refine lv_iload_n (pc := 70) hx hb dX8_copy_70 rfl (lv_at hl 4 rfl) ?_
                refine lv_iload (pc := 71) hx hb dX8_copy_71 (lv_at hl 7 rfl) ?_
                obtain ⟨r73, hc73, h⟩ := b1_i h
                have hw : (wX5 (a 13) c (X (11 + 2))).map (·.1) = [13].flatMap (uA a) := rfl
                have hPc : va_P D vwCl (wX5 (a 13) c (X (11 + 2))) _ := hP 13 (by decide)
                have hDc : va_D A (wX5 (a 13) c (X (11 + 2))) := hD.of_addr (by decide) (by decide) hw
                refine g_X (X' := X) (st1 := [.int r73]) (gr_V (n := 2) (rest := []) (pc := 73) hx hb hml hown hts (cX5_hasRun_met l D c tb sa sv (a 13) p1 p4 (X (11 + 2)) _ hc73) gX8_copy_X5_hasRun rfl rfl rfl (by decide +kernel) rfl ⟨Nat.le_of_ble_eq_true rfl, Nat.le_of_ble_eq_true rfl⟩ ⟨Nat.zero_le _, Nat.zero_le _⟩ 0 5 rfl rfl rfl xE_ok hPc hDc hK (xE_ok.tr hE hS (g_freeX hD hS hA (by decide) (addr0 hw))) hl.1 (Nat.le_of_ble_eq_true rfl) dX8_copy_73 rfl) hP hD hS hA (ks := [13]) (by decide) (addr0 hw) (fun k9 _ hk9 => rfl) (fun H1 hw1 => (List.forall_mem_cons.mpr ⟨hw1, (fun _ h9 => absurd h9 List.not_mem_nil)⟩)) rfl (fun H locs hP hS => ?_)
                refine lv_if_eq (tgt := 91) (pc := 76) hx hb dX8_copy_76 (by decide) (fun c76 => ?_) (fun c76 => ?_)
                · replace h := it_t c76 h
                  refine lv_bipush (v := -12) (pc := 91) hx hb dX8_copy_91 (by decide) ?_
                  have kr := KR (-12 : Int32) X _ _ 93 ls h rfl hP hS dX8_copy_93
                  exact kr
                · replace h := it_f c76 h
                  refine lv_aload (pc := 79) hx hb dX8_copy_79 (lv_at hl 0 rfl) ?_
                  refine lv_iload (pc := 81) hx hb dX8_copy_81 (lv_at hl 6 rfl) ?_
                  refine lv_iload (pc := 83) hx hb dX8_copy_83 (lv_at hl 7 rfl) ?_
                  obtain ⟨r85, hc85, h⟩ := b1_i h
                  have hw : (wX5 (a 14) c (X (11 + 3))).map (·.1) = [14].flatMap (uA a) := rfl
                  have hPc : va_P D vwCl (wX5 (a 14) c (X (11 + 3))) _ := hP 14 (by decide)
                  have hDc : va_D A (wX5 (a 14) c (X (11 + 3))) := hD.of_addr (by decide) (by decide) hw
                  refine g_X (X' := X) (st1 := [.int r85]) (gr_V (n := 2) (rest := []) (pc := 85) hx hb hml hown hts (cX5_hasRun_met l D c tb sa sv (a 14) p3 p4 (X (11 + 3)) _ hc85) gX8_copy_X5_hasRun rfl rfl rfl (by decide +kernel) rfl ⟨Nat.le_of_ble_eq_true rfl, Nat.le_of_ble_eq_true rfl⟩ ⟨Nat.zero_le _, Nat.zero_le _⟩ 0 5 rfl rfl rfl xE_ok hPc hDc hK (xE_ok.tr hE hS (g_freeX hD hS hA (by decide) (addr0 hw))) hl.1 (Nat.le_of_ble_eq_true rfl) dX8_copy_85 rfl) hP hD hS hA (ks := [14]) (by decide) (addr0 hw) (fun k9 _ hk9 => rfl) (fun H1 hw1 => (List.forall_mem_cons.mpr ⟨hw1, (fun _ h9 => absurd h9 List.not_mem_nil)⟩)) rfl (fun H locs hP hS => ?_)
                  refine lv_if_ne (tgt := 94) (pc := 88) hx hb dX8_copy_88 (by decide) (fun c88 => ?_) (fun c88 => ?_)
                  · replace h := it_f c88 h
                    refine lv_aload (pc := 94) hx hb dX8_copy_94 (lv_at hl 1 rfl) ?_
                    refine va_get (D := D) (ci := 5) (v := .ref ((a 13) 1)) (C := RX5) (T := TX5) (N := 3) (pc := 96) hx hb hfX5 (fun _ h9 => h9) hown hK (show va_P D vwCl (wX5 (a 13) c (X (11 + 2))) _ from hP 13 (by decide)) 0 rfl rfl 0 (by decide) lk2 (fun _ h9 => h9) rfl dX8_copy_96 ?_
                    refine lv_iload_n (pc := 99) hx hb dX8_copy_99 rfl (lv_at hl 4 rfl) ?_
                    refine lv_aload (pc := 100) hx hb dX8_copy_100 (lv_at hl 0 rfl) ?_
                    refine va_get (D := D) (ci := 5) (v := .ref ((a 14) 1)) (C := RX5) (T := TX5) (N := 3) (pc := 102) hx hb hfX5 (fun _ h9 => h9) hown hK (show va_P D vwCl (wX5 (a 14) c (X (11 + 3))) _ from hP 14 (by decide)) 0 rfl rfl 0 (by decide) lk2 (fun _ h9 => h9) rfl dX8_copy_102 ?_
                    refine lv_iload (pc := 105) hx hb dX8_copy_105 (lv_at hl 6 rfl) ?_
                    refine lv_iload (pc := 107) hx hb dX8_copy_107 (lv_at hl 7 rfl) ?_
                    obtain ⟨hk109, h⟩ := ckP_i h
                    obtain ⟨z1, z2, z3, z4, z5⟩ := of_decide_eq_true hk109
                    have hP1 := hP.one (11 + 3) (by decide)
                    have hD1 := hD.one c X (11 + 3) (by decide) (X (11 + 3))
                    obtain ⟨q109, hq109⟩ := XR.mem (c := c) (X := X) (σ := (X (11 + 3))) (j := (11 + 2)) (k := (11 + 3)) (by decide) (by decide) (q := (a (11 + 2) 1, .inl (c 0, 40, .inl ((X (11 + 2)).1 0)))) (g_memS a c (X (11 + 2)) 2 (by decide))
                    refine va_copyi (f := ((X (11 + 2)).1 0)) (g := ((X (11 + 3)).1 0)) (ty := .int) (pc := 109) hx hb (by rw [hml]; exact hl.1.symm) hown lk3 lk4 lk5 lk6 hK hP1 hD1 hS q109 1 0 0 hq109 (g_atS a c (X (11 + 3)) _ 3 (by decide)) rfl rfl rfl z1 z2 z3 z4 z5 (fun _ _ => rfl) (Nat.le_of_ble_eq_true rfl) (Nat.le_of_ble_eq_true (by decide +kernel)) dX8_copy_109 (fun H locs hP _ hS => ?_)
                    have hP : XP D a c (xs X (11 + 3) (mr (X (11 + 3)) 0 (va_cpy ((X (11 + 2)).1 0) ((X (11 + 3)).1 0) (p1).toNatClampNeg (p3).toNatClampNeg (p4).toNatClampNeg))) H := XP.setS (k := 3) (by decide) hP
                    refine lv_iload (pc := 112) hx hb dX8_copy_112 (lv_at hl 7 rfl) ?_
                    have kr := KR p4 (xs X (11 + 3) (mr (X (11 + 3)) 0 (va_cpy ((X (11 + 2)).1 0) ((X (11 + 3)).1 0) (p1).toNatClampNeg (p3).toNatClampNeg (p4).toNatClampNeg))) _ _ 114 ls h rfl hP hS dX8_copy_114
                    exact kr
                  · replace h := it_t c88 h
                    refine lv_bipush (v := -12) (pc := 91) hx hb dX8_copy_91 (by decide) ?_
                    have kr := KR (-12 : Int32) X _ _ 93 ls h rfl hP hS dX8_copy_93
                    exact kr
              · replace h := it_f c62 h
                refine lv_bipush (v := -13) (pc := 65) hx hb dX8_copy_65 (by decide) ?_
                have kr := KR (-13 : Int32) X _ _ 67 ls h rfl hP hS dX8_copy_67
                exact kr
            · replace h := it_f c46 h
              refine lv_bipush (v := -11) (pc := 49) hx hb dX8_copy_49 (by decide) ?_
              have kr := KR (-11 : Int32) X _ _ 51 ls h rfl hP hS dX8_copy_51
              exact kr
      · refine g_aald (v := a 14 0) (pc := 22) hx hb hK (show va_P D vwCl (wX8 a c (X 0)) _ from hP 0 (by decide)) 1 3 rfl rfl hk22 ek22 rfl dX8_copy_22 ?_
        refine lv_astore (lv' := [(6, .ref ((a 14) 0)), (0, .ref (a 0 0)), (1, .int p0), (2, .int p1), (3, .int p2), (4, .int p3), (5, .int p4)]) (pc := 23) hx hb dX8_copy_23 hl (by decide) rfl (fun ls hl => ?_)
        refine lv_aload_n (pc := 25) hx hb dX8_copy_25 rfl (lv_at hl 1 rfl) ?_
        refine va_get (D := D) (ci := 8) (v := .ref (a 0 1)) (C := RX8) (T := TX8) (N := 12) (pc := 26) hx hb hfX8 (fun _ h9 => h9) hown hK (show va_P D vwCl (wX8 a c (X 0)) _ from hP 0 (by decide)) 0 rfl rfl 11 (by decide) lk0 (fun _ h9 => h9) rfl dX8_copy_26 ?_
        refine lv_iload_n (pc := 29) hx hb dX8_copy_29 rfl (lv_at hl 4 rfl) ?_
        obtain ⟨hk30, h⟩ := ckI_i h
        obtain ⟨k30, ek30, h⟩ := lt_i h
        rcases g_four (by rw [ek30]; exact g_inlt hk30 : k30 < 4) with rfl | rfl | rfl | rfl
        · refine g_aald (v := a 11 0) (pc := 30) hx hb hK (show va_P D vwCl (wX8 a c (X 0)) _ from hP 0 (by decide)) 1 3 rfl rfl hk30 ek30 rfl dX8_copy_30 ?_
          refine lv_astore (lv' := [(7, .ref ((a 11) 0)), (6, .ref ((a 14) 0)), (0, .ref (a 0 0)), (1, .int p0), (2, .int p1), (3, .int p2), (4, .int p3), (5, .int p4)]) (pc := 31) hx hb dX8_copy_31 hl (by decide) rfl (fun ls hl => ?_)
          refine lv_aload (pc := 33) hx hb dX8_copy_33 (lv_at hl 1 rfl) ?_
          obtain ⟨r35, hc35, h⟩ := b1_i h
          have hw : (wX5 (a 14) c (X (11 + 3))).map (·.1) = [14].flatMap (uA a) := rfl
          have hPc : va_P D vwCl (wX5 (a 14) c (X (11 + 3))) _ := hP 14 (by decide)
          have hDc : va_D A (wX5 (a 14) c (X (11 + 3))) := hD.of_addr (by decide) (by decide) hw
          refine g_X (X' := X) (st1 := [.int r35]) (gr_V (n := 0) (rest := []) (pc := 35) hx hb hml hown hts (cX5_isMissing_met l D c tb sa sv (a 14) (X (11 + 3)) _ hc35) gX8_copy_X5_isMissing rfl rfl rfl (by decide +kernel) rfl ⟨Nat.le_of_ble_eq_true rfl, Nat.le_of_ble_eq_true rfl⟩ ⟨Nat.zero_le _, Nat.zero_le _⟩ 0 5 rfl rfl rfl xE_ok hPc hDc hK (xE_ok.tr hE hS (g_freeX hD hS hA (by decide) (addr0 hw))) hl.1 (Nat.le_of_ble_eq_true rfl) dX8_copy_35 rfl) hP hD hS hA (ks := [14]) (by decide) (addr0 hw) (fun k9 _ hk9 => rfl) (fun H1 hw1 => (List.forall_mem_cons.mpr ⟨hw1, (fun _ h9 => absurd h9 List.not_mem_nil)⟩)) rfl (fun H locs hP hS => ?_)
          refine lv_if_ne (tgt := 49) (pc := 38) hx hb dX8_copy_38 (by decide) (fun c38 => ?_) (fun c38 => ?_)
          · replace h := it_f c38 h
            refine lv_bipush (v := -11) (pc := 49) hx hb dX8_copy_49 (by decide) ?_
            have kr := KR (-11 : Int32) X _ _ 51 ls h rfl hP hS dX8_copy_51
            exact kr
          · replace h := it_t c38 h
            refine lv_aload (pc := 41) hx hb dX8_copy_41 (lv_at hl 0 rfl) ?_
            obtain ⟨r43, hc43, h⟩ := b1_i h
            have hw : (wX5 (a 11) c (X (11 + 0))).map (·.1) = [11].flatMap (uA a) := rfl
            have hPc : va_P D vwCl (wX5 (a 11) c (X (11 + 0))) _ := hP 11 (by decide)
            have hDc : va_D A (wX5 (a 11) c (X (11 + 0))) := hD.of_addr (by decide) (by decide) hw
            refine g_X (X' := X) (st1 := [.int r43]) (gr_V (n := 0) (rest := []) (pc := 43) hx hb hml hown hts (cX5_isMissing_met l D c tb sa sv (a 11) (X (11 + 0)) _ hc43) gX8_copy_X5_isMissing rfl rfl rfl (by decide +kernel) rfl ⟨Nat.le_of_ble_eq_true rfl, Nat.le_of_ble_eq_true rfl⟩ ⟨Nat.zero_le _, Nat.zero_le _⟩ 0 5 rfl rfl rfl xE_ok hPc hDc hK (xE_ok.tr hE hS (g_freeX hD hS hA (by decide) (addr0 hw))) hl.1 (Nat.le_of_ble_eq_true rfl) dX8_copy_43 rfl) hP hD hS hA (ks := [11]) (by decide) (addr0 hw) (fun k9 _ hk9 => rfl) (fun H1 hw1 => (List.forall_mem_cons.mpr ⟨hw1, (fun _ h9 => absurd h9 List.not_mem_nil)⟩)) rfl (fun H locs hP hS => ?_)
            refine lv_if_eq (tgt := 52) (pc := 46) hx hb dX8_copy_46 (by decide) (fun c46 => ?_) (fun c46 => ?_)
            · replace h := it_t c46 h
              refine lv_aload (pc := 52) hx hb dX8_copy_52 (lv_at hl 1 rfl) ?_
              refine va_get (D := D) (ci := 5) (v := .int ((X (11 + 3)).1 1 0)) (C := RX5) (T := TX5) (N := 3) (pc := 54) hx hb hfX5 (fun _ h9 => h9) hown hK (show va_P D vwCl (wX5 (a 14) c (X (11 + 3))) _ from hP 14 (by decide)) 0 rfl rfl 1 (by decide) lk1 (fun _ h9 => h9) rfl dX8_copy_54 ?_
              refine lv_aload (pc := 57) hx hb dX8_copy_57 (lv_at hl 0 rfl) ?_
              refine va_get (D := D) (ci := 5) (v := .int ((X (11 + 0)).1 1 0)) (C := RX5) (T := TX5) (N := 3) (pc := 59) hx hb hfX5 (fun _ h9 => h9) hown hK (show va_P D vwCl (wX5 (a 11) c (X (11 + 0))) _ from hP 11 (by decide)) 0 rfl rfl 1 (by decide) lk1 (fun _ h9 => h9) rfl dX8_copy_59 ?_
              refine lv_icmp_eq (tgt := 68) (pc := 62) hx hb dX8_copy_62 (by decide) (fun c62 => ?_) (fun c62 => ?_)
              · replace h := it_t c62 h
                refine lv_aload (pc := 68) hx hb dX8_copy_68 (lv_at hl 1 rfl) ?_
                refine lv_iload_n (pc := 70) hx hb dX8_copy_70 rfl (lv_at hl 4 rfl) ?_
                refine lv_iload (pc := 71) hx hb dX8_copy_71 (lv_at hl 7 rfl) ?_
                obtain ⟨r73, hc73, h⟩ := b1_i h
                have hw : (wX5 (a 14) c (X (11 + 3))).map (·.1) = [14].flatMap (uA a) := rfl
                have hPc : va_P D vwCl (wX5 (a 14) c (X (11 + 3))) _ := hP 14 (by decide)
                have hDc : va_D A (wX5 (a 14) c (X (11 + 3))) := hD.of_addr (by decide) (by decide) hw
                refine g_X (X' := X) (st1 := [.int r73]) (gr_V (n := 2) (rest := []) (pc := 73) hx hb hml hown hts (cX5_hasRun_met l D c tb sa sv (a 14) p1 p4 (X (11 + 3)) _ hc73) gX8_copy_X5_hasRun rfl rfl rfl (by decide +kernel) rfl ⟨Nat.le_of_ble_eq_true rfl, Nat.le_of_ble_eq_true rfl⟩ ⟨Nat.zero_le _, Nat.zero_le _⟩ 0 5 rfl rfl rfl xE_ok hPc hDc hK (xE_ok.tr hE hS (g_freeX hD hS hA (by decide) (addr0 hw))) hl.1 (Nat.le_of_ble_eq_true rfl) dX8_copy_73 rfl) hP hD hS hA (ks := [14]) (by decide) (addr0 hw) (fun k9 _ hk9 => rfl) (fun H1 hw1 => (List.forall_mem_cons.mpr ⟨hw1, (fun _ h9 => absurd h9 List.not_mem_nil)⟩)) rfl (fun H locs hP hS => ?_)
                refine lv_if_eq (tgt := 91) (pc := 76) hx hb dX8_copy_76 (by decide) (fun c76 => ?_) (fun c76 => ?_)
                · replace h := it_t c76 h
                  refine lv_bipush (v := -12) (pc := 91) hx hb dX8_copy_91 (by decide) ?_
                  have kr := KR (-12 : Int32) X _ _ 93 ls h rfl hP hS dX8_copy_93
                  exact kr
                · replace h := it_f c76 h
                  refine lv_aload (pc := 79) hx hb dX8_copy_79 (lv_at hl 0 rfl) ?_
                  refine lv_iload (pc := 81) hx hb dX8_copy_81 (lv_at hl 6 rfl) ?_
                  refine lv_iload (pc := 83) hx hb dX8_copy_83 (lv_at hl 7 rfl) ?_
                  obtain ⟨r85, hc85, h⟩ := b1_i h
                  have hw : (wX5 (a 11) c (X (11 + 0))).map (·.1) = [11].flatMap (uA a) := rfl
                  have hPc : va_P D vwCl (wX5 (a 11) c (X (11 + 0))) _ := hP 11 (by decide)
                  have hDc : va_D A (wX5 (a 11) c (X (11 + 0))) := hD.of_addr (by decide) (by decide) hw
                  refine g_X (X' := X) (st1 := [.int r85]) (gr_V (n := 2) (rest := []) (pc := 85) hx hb hml hown hts (cX5_hasRun_met l D c tb sa sv (a 11) p3 p4 (X (11 + 0)) _ hc85) gX8_copy_X5_hasRun rfl rfl rfl (by decide +kernel) rfl ⟨Nat.le_of_ble_eq_true rfl, Nat.le_of_ble_eq_true rfl⟩ ⟨Nat.zero_le _, Nat.zero_le _⟩ 0 5 rfl rfl rfl xE_ok hPc hDc hK (xE_ok.tr hE hS (g_freeX hD hS hA (by decide) (addr0 hw))) hl.1 (Nat.le_of_ble_eq_true rfl) dX8_copy_85 rfl) hP hD hS hA (ks := [11]) (by decide) (addr0 hw) (fun k9 _ hk9 => rfl) (fun H1 hw1 => (List.forall_mem_cons.mpr ⟨hw1, (fun _ h9 => absurd h9 List.not_mem_nil)⟩)) rfl (fun H locs hP hS => ?_)
                  refine lv_if_ne (tgt := 94) (pc := 88) hx hb dX8_copy_88 (by decide) (fun c88 => ?_) (fun c88 => ?_)
                  · replace h := it_f c88 h
                    refine lv_aload (pc := 94) hx hb dX8_copy_94 (lv_at hl 1 rfl) ?_
                    refine va_get (D := D) (ci := 5) (v := .ref ((a 14) 1)) (C := RX5) (T := TX5) (N := 3) (pc := 96) hx hb hfX5 (fun _ h9 => h9) hown hK (show va_P D vwCl (wX5 (a 14) c (X (11 + 3))) _ from hP 14 (by decide)) 0 rfl rfl 0 (by decide) lk2 (fun _ h9 => h9) rfl dX8_copy_96 ?_
                    refine lv_iload_n (pc := 99) hx hb dX8_copy_99 rfl (lv_at hl 4 rfl) ?_
                    refine lv_aload (pc := 100) hx hb dX8_copy_100 (lv_at hl 0 rfl) ?_
                    refine va_get (D := D) (ci := 5) (v := .ref ((a 11) 1)) (C := RX5) (T := TX5) (N := 3) (pc := 102) hx hb hfX5 (fun _ h9 => h9) hown hK (show va_P D vwCl (wX5 (a 11) c (X (11 + 0))) _ from hP 11 (by decide)) 0 rfl rfl 0 (by decide) lk2 (fun _ h9 => h9) rfl dX8_copy_102 ?_
                    refine lv_iload (pc := 105) hx hb dX8_copy_105 (lv_at hl 6 rfl) ?_
                    refine lv_iload (pc := 107) hx hb dX8_copy_107 (lv_at hl 7 rfl) ?_
                    obtain ⟨hk109, h⟩ := ckP_i h
                    obtain ⟨z1, z2, z3, z4, z5⟩ := of_decide_eq_true hk109
                    have hP1 := hP.one (11 + 0) (by decide)
                    have hD1 := hD.one c X (11 + 0) (by decide) (X (11 + 0))
                    obtain ⟨q109, hq109⟩ := XR.mem (c := c) (X := X) (σ := (X (11 + 0))) (j := (11 + 3)) (k := (11 + 0)) (by decide) (by decide) (q := (a (11 + 3) 1, .inl (c 0, 40, .inl ((X (11 + 3)).1 0)))) (g_memS a c (X (11 + 3)) 3 (by decide))
                    refine va_copyi (f := ((X (11 + 3)).1 0)) (g := ((X (11 + 0)).1 0)) (ty := .int) (pc := 109) hx hb (by rw [hml]; exact hl.1.symm) hown lk3 lk4 lk5 lk6 hK hP1 hD1 hS q109 1 0 0 hq109 (g_atS a c (X (11 + 0)) _ 0 (by decide)) rfl rfl rfl z1 z2 z3 z4 z5 (fun _ _ => rfl) (Nat.le_of_ble_eq_true rfl) (Nat.le_of_ble_eq_true (by decide +kernel)) dX8_copy_109 (fun H locs hP _ hS => ?_)
                    have hP : XP D a c (xs X (11 + 0) (mr (X (11 + 0)) 0 (va_cpy ((X (11 + 3)).1 0) ((X (11 + 0)).1 0) (p1).toNatClampNeg (p3).toNatClampNeg (p4).toNatClampNeg))) H := XP.setS (k := 0) (by decide) hP
                    refine lv_iload (pc := 112) hx hb dX8_copy_112 (lv_at hl 7 rfl) ?_
                    have kr := KR p4 (xs X (11 + 0) (mr (X (11 + 0)) 0 (va_cpy ((X (11 + 3)).1 0) ((X (11 + 0)).1 0) (p1).toNatClampNeg (p3).toNatClampNeg (p4).toNatClampNeg))) _ _ 114 ls h rfl hP hS dX8_copy_114
                    exact kr
                  · replace h := it_t c88 h
                    refine lv_bipush (v := -12) (pc := 91) hx hb dX8_copy_91 (by decide) ?_
                    have kr := KR (-12 : Int32) X _ _ 93 ls h rfl hP hS dX8_copy_93
                    exact kr
              · replace h := it_f c62 h
                refine lv_bipush (v := -13) (pc := 65) hx hb dX8_copy_65 (by decide) ?_
                have kr := KR (-13 : Int32) X _ _ 67 ls h rfl hP hS dX8_copy_67
                exact kr
            · replace h := it_f c46 h
              refine lv_bipush (v := -11) (pc := 49) hx hb dX8_copy_49 (by decide) ?_
              have kr := KR (-11 : Int32) X _ _ 51 ls h rfl hP hS dX8_copy_51
              exact kr
        · refine g_aald (v := a 12 0) (pc := 30) hx hb hK (show va_P D vwCl (wX8 a c (X 0)) _ from hP 0 (by decide)) 1 3 rfl rfl hk30 ek30 rfl dX8_copy_30 ?_
          refine lv_astore (lv' := [(7, .ref ((a 12) 0)), (6, .ref ((a 14) 0)), (0, .ref (a 0 0)), (1, .int p0), (2, .int p1), (3, .int p2), (4, .int p3), (5, .int p4)]) (pc := 31) hx hb dX8_copy_31 hl (by decide) rfl (fun ls hl => ?_)
          refine lv_aload (pc := 33) hx hb dX8_copy_33 (lv_at hl 1 rfl) ?_
          obtain ⟨r35, hc35, h⟩ := b1_i h
          have hw : (wX5 (a 14) c (X (11 + 3))).map (·.1) = [14].flatMap (uA a) := rfl
          have hPc : va_P D vwCl (wX5 (a 14) c (X (11 + 3))) _ := hP 14 (by decide)
          have hDc : va_D A (wX5 (a 14) c (X (11 + 3))) := hD.of_addr (by decide) (by decide) hw
          refine g_X (X' := X) (st1 := [.int r35]) (gr_V (n := 0) (rest := []) (pc := 35) hx hb hml hown hts (cX5_isMissing_met l D c tb sa sv (a 14) (X (11 + 3)) _ hc35) gX8_copy_X5_isMissing rfl rfl rfl (by decide +kernel) rfl ⟨Nat.le_of_ble_eq_true rfl, Nat.le_of_ble_eq_true rfl⟩ ⟨Nat.zero_le _, Nat.zero_le _⟩ 0 5 rfl rfl rfl xE_ok hPc hDc hK (xE_ok.tr hE hS (g_freeX hD hS hA (by decide) (addr0 hw))) hl.1 (Nat.le_of_ble_eq_true rfl) dX8_copy_35 rfl) hP hD hS hA (ks := [14]) (by decide) (addr0 hw) (fun k9 _ hk9 => rfl) (fun H1 hw1 => (List.forall_mem_cons.mpr ⟨hw1, (fun _ h9 => absurd h9 List.not_mem_nil)⟩)) rfl (fun H locs hP hS => ?_)
          refine lv_if_ne (tgt := 49) (pc := 38) hx hb dX8_copy_38 (by decide) (fun c38 => ?_) (fun c38 => ?_)
          · replace h := it_f c38 h
            refine lv_bipush (v := -11) (pc := 49) hx hb dX8_copy_49 (by decide) ?_
            have kr := KR (-11 : Int32) X _ _ 51 ls h rfl hP hS dX8_copy_51
            exact kr
          · replace h := it_t c38 h
            refine lv_aload (pc := 41) hx hb dX8_copy_41 (lv_at hl 0 rfl) ?_
            obtain ⟨r43, hc43, h⟩ := b1_i h
            have hw : (wX5 (a 12) c (X (11 + 1))).map (·.1) = [12].flatMap (uA a) := rfl
            have hPc : va_P D vwCl (wX5 (a 12) c (X (11 + 1))) _ := hP 12 (by decide)
            have hDc : va_D A (wX5 (a 12) c (X (11 + 1))) := hD.of_addr (by decide) (by decide) hw
            refine g_X (X' := X) (st1 := [.int r43]) (gr_V (n := 0) (rest := []) (pc := 43) hx hb hml hown hts (cX5_isMissing_met l D c tb sa sv (a 12) (X (11 + 1)) _ hc43) gX8_copy_X5_isMissing rfl rfl rfl (by decide +kernel) rfl ⟨Nat.le_of_ble_eq_true rfl, Nat.le_of_ble_eq_true rfl⟩ ⟨Nat.zero_le _, Nat.zero_le _⟩ 0 5 rfl rfl rfl xE_ok hPc hDc hK (xE_ok.tr hE hS (g_freeX hD hS hA (by decide) (addr0 hw))) hl.1 (Nat.le_of_ble_eq_true rfl) dX8_copy_43 rfl) hP hD hS hA (ks := [12]) (by decide) (addr0 hw) (fun k9 _ hk9 => rfl) (fun H1 hw1 => (List.forall_mem_cons.mpr ⟨hw1, (fun _ h9 => absurd h9 List.not_mem_nil)⟩)) rfl (fun H locs hP hS => ?_)
            refine lv_if_eq (tgt := 52) (pc := 46) hx hb dX8_copy_46 (by decide) (fun c46 => ?_) (fun c46 => ?_)
            · replace h := it_t c46 h
              refine lv_aload (pc := 52) hx hb dX8_copy_52 (lv_at hl 1 rfl) ?_
              refine va_get (D := D) (ci := 5) (v := .int ((X (11 + 3)).1 1 0)) (C := RX5) (T := TX5) (N := 3) (pc := 54) hx hb hfX5 (fun _ h9 => h9) hown hK (show va_P D vwCl (wX5 (a 14) c (X (11 + 3))) _ from hP 14 (by decide)) 0 rfl rfl 1 (by decide) lk1 (fun _ h9 => h9) rfl dX8_copy_54 ?_
              refine lv_aload (pc := 57) hx hb dX8_copy_57 (lv_at hl 0 rfl) ?_
              refine va_get (D := D) (ci := 5) (v := .int ((X (11 + 1)).1 1 0)) (C := RX5) (T := TX5) (N := 3) (pc := 59) hx hb hfX5 (fun _ h9 => h9) hown hK (show va_P D vwCl (wX5 (a 12) c (X (11 + 1))) _ from hP 12 (by decide)) 0 rfl rfl 1 (by decide) lk1 (fun _ h9 => h9) rfl dX8_copy_59 ?_
              refine lv_icmp_eq (tgt := 68) (pc := 62) hx hb dX8_copy_62 (by decide) (fun c62 => ?_) (fun c62 => ?_)
              · replace h := it_t c62 h
                refine lv_aload (pc := 68) hx hb dX8_copy_68 (lv_at hl 1 rfl) ?_
                refine lv_iload_n (pc := 70) hx hb dX8_copy_70 rfl (lv_at hl 4 rfl) ?_
                refine lv_iload (pc := 71) hx hb dX8_copy_71 (lv_at hl 7 rfl) ?_
                obtain ⟨r73, hc73, h⟩ := b1_i h
                have hw : (wX5 (a 14) c (X (11 + 3))).map (·.1) = [14].flatMap (uA a) := rfl
                have hPc : va_P D vwCl (wX5 (a 14) c (X (11 + 3))) _ := hP 14 (by decide)
                have hDc : va_D A (wX5 (a 14) c (X (11 + 3))) := hD.of_addr (by decide) (by decide) hw
                refine g_X (X' := X) (st1 := [.int r73]) (gr_V (n := 2) (rest := []) (pc := 73) hx hb hml hown hts (cX5_hasRun_met l D c tb sa sv (a 14) p1 p4 (X (11 + 3)) _ hc73) gX8_copy_X5_hasRun rfl rfl rfl (by decide +kernel) rfl ⟨Nat.le_of_ble_eq_true rfl, Nat.le_of_ble_eq_true rfl⟩ ⟨Nat.zero_le _, Nat.zero_le _⟩ 0 5 rfl rfl rfl xE_ok hPc hDc hK (xE_ok.tr hE hS (g_freeX hD hS hA (by decide) (addr0 hw))) hl.1 (Nat.le_of_ble_eq_true rfl) dX8_copy_73 rfl) hP hD hS hA (ks := [14]) (by decide) (addr0 hw) (fun k9 _ hk9 => rfl) (fun H1 hw1 => (List.forall_mem_cons.mpr ⟨hw1, (fun _ h9 => absurd h9 List.not_mem_nil)⟩)) rfl (fun H locs hP hS => ?_)
                refine lv_if_eq (tgt := 91) (pc := 76) hx hb dX8_copy_76 (by decide) (fun c76 => ?_) (fun c76 => ?_)
                · replace h := it_t c76 h
                  refine lv_bipush (v := -12) (pc := 91) hx hb dX8_copy_91 (by decide) ?_
                  have kr := KR (-12 : Int32) X _ _ 93 ls h rfl hP hS dX8_copy_93
                  exact kr
                · replace h := it_f c76 h
                  refine lv_aload (pc := 79) hx hb dX8_copy_79 (lv_at hl 0 rfl) ?_
                  refine lv_iload (pc := 81) hx hb dX8_copy_81 (lv_at hl 6 rfl) ?_
                  refine lv_iload (pc := 83) hx hb dX8_copy_83 (lv_at hl 7 rfl) ?_
                  obtain ⟨r85, hc85, h⟩ := b1_i h
                  have hw : (wX5 (a 12) c (X (11 + 1))).map (·.1) = [12].flatMap (uA a) := rfl
                  have hPc : va_P D vwCl (wX5 (a 12) c (X (11 + 1))) _ := hP 12 (by decide)
                  have hDc : va_D A (wX5 (a 12) c (X (11 + 1))) := hD.of_addr (by decide) (by decide) hw
                  refine g_X (X' := X) (st1 := [.int r85]) (gr_V (n := 2) (rest := []) (pc := 85) hx hb hml hown hts (cX5_hasRun_met l D c tb sa sv (a 12) p3 p4 (X (11 + 1)) _ hc85) gX8_copy_X5_hasRun rfl rfl rfl (by decide +kernel) rfl ⟨Nat.le_of_ble_eq_true rfl, Nat.le_of_ble_eq_true rfl⟩ ⟨Nat.zero_le _, Nat.zero_le _⟩ 0 5 rfl rfl rfl xE_ok hPc hDc hK (xE_ok.tr hE hS (g_freeX hD hS hA (by decide) (addr0 hw))) hl.1 (Nat.le_of_ble_eq_true rfl) dX8_copy_85 rfl) hP hD hS hA (ks := [12]) (by decide) (addr0 hw) (fun k9 _ hk9 => rfl) (fun H1 hw1 => (List.forall_mem_cons.mpr ⟨hw1, (fun _ h9 => absurd h9 List.not_mem_nil)⟩)) rfl (fun H locs hP hS => ?_)
                  refine lv_if_ne (tgt := 94) (pc := 88) hx hb dX8_copy_88 (by decide) (fun c88 => ?_) (fun c88 => ?_)
                  · replace h := it_f c88 h
                    refine lv_aload (pc := 94) hx hb dX8_copy_94 (lv_at hl 1 rfl) ?_
                    refine va_get (D := D) (ci := 5) (v := .ref ((a 14) 1)) (C := RX5) (T := TX5) (N := 3) (pc := 96) hx hb hfX5 (fun _ h9 => h9) hown hK (show va_P D vwCl (wX5 (a 14) c (X (11 + 3))) _ from hP 14 (by decide)) 0 rfl rfl 0 (by decide) lk2 (fun _ h9 => h9) rfl dX8_copy_96 ?_
                    refine lv_iload_n (pc := 99) hx hb dX8_copy_99 rfl (lv_at hl 4 rfl) ?_
                    refine lv_aload (pc := 100) hx hb dX8_copy_100 (lv_at hl 0 rfl) ?_
                    refine va_get (D := D) (ci := 5) (v := .ref ((a 12) 1)) (C := RX5) (T := TX5) (N := 3) (pc := 102) hx hb hfX5 (fun _ h9 => h9) hown hK (show va_P D vwCl (wX5 (a 12) c (X (11 + 1))) _ from hP 12 (by decide)) 0 rfl rfl 0 (by decide) lk2 (fun _ h9 => h9) rfl dX8_copy_102 ?_
                    refine lv_iload (pc := 105) hx hb dX8_copy_105 (lv_at hl 6 rfl) ?_
                    refine lv_iload (pc := 107) hx hb dX8_copy_107 (lv_at hl 7 rfl) ?_
                    obtain ⟨hk109, h⟩ := ckP_i h
                    obtain ⟨z1, z2, z3, z4, z5⟩ := of_decide_eq_true hk109
                    have hP1 := hP.one (11 + 1) (by decide)
                    have hD1 := hD.one c X (11 + 1) (by decide) (X (11 + 1))
                    obtain ⟨q109, hq109⟩ := XR.mem (c := c) (X := X) (σ := (X (11 + 1))) (j := (11 + 3)) (k := (11 + 1)) (by decide) (by decide) (q := (a (11 + 3) 1, .inl (c 0, 40, .inl ((X (11 + 3)).1 0)))) (g_memS a c (X (11 + 3)) 3 (by decide))
                    refine va_copyi (f := ((X (11 + 3)).1 0)) (g := ((X (11 + 1)).1 0)) (ty := .int) (pc := 109) hx hb (by rw [hml]; exact hl.1.symm) hown lk3 lk4 lk5 lk6 hK hP1 hD1 hS q109 1 0 0 hq109 (g_atS a c (X (11 + 1)) _ 1 (by decide)) rfl rfl rfl z1 z2 z3 z4 z5 (fun _ _ => rfl) (Nat.le_of_ble_eq_true rfl) (Nat.le_of_ble_eq_true (by decide +kernel)) dX8_copy_109 (fun H locs hP _ hS => ?_)
                    have hP : XP D a c (xs X (11 + 1) (mr (X (11 + 1)) 0 (va_cpy ((X (11 + 3)).1 0) ((X (11 + 1)).1 0) (p1).toNatClampNeg (p3).toNatClampNeg (p4).toNatClampNeg))) H := XP.setS (k := 1) (by decide) hP
                    refine lv_iload (pc := 112) hx hb dX8_copy_112 (lv_at hl 7 rfl) ?_
                    have kr := KR p4 (xs X (11 + 1) (mr (X (11 + 1)) 0 (va_cpy ((X (11 + 3)).1 0) ((X (11 + 1)).1 0) (p1).toNatClampNeg (p3).toNatClampNeg (p4).toNatClampNeg))) _ _ 114 ls h rfl hP hS dX8_copy_114
                    exact kr
                  · replace h := it_t c88 h
                    refine lv_bipush (v := -12) (pc := 91) hx hb dX8_copy_91 (by decide) ?_
                    have kr := KR (-12 : Int32) X _ _ 93 ls h rfl hP hS dX8_copy_93
                    exact kr
              · replace h := it_f c62 h
                refine lv_bipush (v := -13) (pc := 65) hx hb dX8_copy_65 (by decide) ?_
                have kr := KR (-13 : Int32) X _ _ 67 ls h rfl hP hS dX8_copy_67
                exact kr
            · replace h := it_f c46 h
              refine lv_bipush (v := -11) (pc := 49) hx hb dX8_copy_49 (by decide) ?_
              have kr := KR (-11 : Int32) X _ _ 51 ls h rfl hP hS dX8_copy_51
              exact kr
        · refine g_aald (v := a 13 0) (pc := 30) hx hb hK (show va_P D vwCl (wX8 a c (X 0)) _ from hP 0 (by decide)) 1 3 rfl rfl hk30 ek30 rfl dX8_copy_30 ?_
          refine lv_astore (lv' := [(7, .ref ((a 13) 0)), (6, .ref ((a 14) 0)), (0, .ref (a 0 0)), (1, .int p0), (2, .int p1), (3, .int p2), (4, .int p3), (5, .int p4)]) (pc := 31) hx hb dX8_copy_31 hl (by decide) rfl (fun ls hl => ?_)
          refine lv_aload (pc := 33) hx hb dX8_copy_33 (lv_at hl 1 rfl) ?_
          obtain ⟨r35, hc35, h⟩ := b1_i h
          have hw : (wX5 (a 14) c (X (11 + 3))).map (·.1) = [14].flatMap (uA a) := rfl
          have hPc : va_P D vwCl (wX5 (a 14) c (X (11 + 3))) _ := hP 14 (by decide)
          have hDc : va_D A (wX5 (a 14) c (X (11 + 3))) := hD.of_addr (by decide) (by decide) hw
          refine g_X (X' := X) (st1 := [.int r35]) (gr_V (n := 0) (rest := []) (pc := 35) hx hb hml hown hts (cX5_isMissing_met l D c tb sa sv (a 14) (X (11 + 3)) _ hc35) gX8_copy_X5_isMissing rfl rfl rfl (by decide +kernel) rfl ⟨Nat.le_of_ble_eq_true rfl, Nat.le_of_ble_eq_true rfl⟩ ⟨Nat.zero_le _, Nat.zero_le _⟩ 0 5 rfl rfl rfl xE_ok hPc hDc hK (xE_ok.tr hE hS (g_freeX hD hS hA (by decide) (addr0 hw))) hl.1 (Nat.le_of_ble_eq_true rfl) dX8_copy_35 rfl) hP hD hS hA (ks := [14]) (by decide) (addr0 hw) (fun k9 _ hk9 => rfl) (fun H1 hw1 => (List.forall_mem_cons.mpr ⟨hw1, (fun _ h9 => absurd h9 List.not_mem_nil)⟩)) rfl (fun H locs hP hS => ?_)
          refine lv_if_ne (tgt := 49) (pc := 38) hx hb dX8_copy_38 (by decide) (fun c38 => ?_) (fun c38 => ?_)
          · replace h := it_f c38 h
            refine lv_bipush (v := -11) (pc := 49) hx hb dX8_copy_49 (by decide) ?_
            have kr := KR (-11 : Int32) X _ _ 51 ls h rfl hP hS dX8_copy_51
            exact kr
          · replace h := it_t c38 h
            refine lv_aload (pc := 41) hx hb dX8_copy_41 (lv_at hl 0 rfl) ?_
            obtain ⟨r43, hc43, h⟩ := b1_i h
            have hw : (wX5 (a 13) c (X (11 + 2))).map (·.1) = [13].flatMap (uA a) := rfl
            have hPc : va_P D vwCl (wX5 (a 13) c (X (11 + 2))) _ := hP 13 (by decide)
            have hDc : va_D A (wX5 (a 13) c (X (11 + 2))) := hD.of_addr (by decide) (by decide) hw
            refine g_X (X' := X) (st1 := [.int r43]) (gr_V (n := 0) (rest := []) (pc := 43) hx hb hml hown hts (cX5_isMissing_met l D c tb sa sv (a 13) (X (11 + 2)) _ hc43) gX8_copy_X5_isMissing rfl rfl rfl (by decide +kernel) rfl ⟨Nat.le_of_ble_eq_true rfl, Nat.le_of_ble_eq_true rfl⟩ ⟨Nat.zero_le _, Nat.zero_le _⟩ 0 5 rfl rfl rfl xE_ok hPc hDc hK (xE_ok.tr hE hS (g_freeX hD hS hA (by decide) (addr0 hw))) hl.1 (Nat.le_of_ble_eq_true rfl) dX8_copy_43 rfl) hP hD hS hA (ks := [13]) (by decide) (addr0 hw) (fun k9 _ hk9 => rfl) (fun H1 hw1 => (List.forall_mem_cons.mpr ⟨hw1, (fun _ h9 => absurd h9 List.not_mem_nil)⟩)) rfl (fun H locs hP hS => ?_)
            refine lv_if_eq (tgt := 52) (pc := 46) hx hb dX8_copy_46 (by decide) (fun c46 => ?_) (fun c46 => ?_)
            · replace h := it_t c46 h
              refine lv_aload (pc := 52) hx hb dX8_copy_52 (lv_at hl 1 rfl) ?_
              refine va_get (D := D) (ci := 5) (v := .int ((X (11 + 3)).1 1 0)) (C := RX5) (T := TX5) (N := 3) (pc := 54) hx hb hfX5 (fun _ h9 => h9) hown hK (show va_P D vwCl (wX5 (a 14) c (X (11 + 3))) _ from hP 14 (by decide)) 0 rfl rfl 1 (by decide) lk1 (fun _ h9 => h9) rfl dX8_copy_54 ?_
              refine lv_aload (pc := 57) hx hb dX8_copy_57 (lv_at hl 0 rfl) ?_
              refine va_get (D := D) (ci := 5) (v := .int ((X (11 + 2)).1 1 0)) (C := RX5) (T := TX5) (N := 3) (pc := 59) hx hb hfX5 (fun _ h9 => h9) hown hK (show va_P D vwCl (wX5 (a 13) c (X (11 + 2))) _ from hP 13 (by decide)) 0 rfl rfl 1 (by decide) lk1 (fun _ h9 => h9) rfl dX8_copy_59 ?_
              refine lv_icmp_eq (tgt := 68) (pc := 62) hx hb dX8_copy_62 (by decide) (fun c62 => ?_) (fun c62 => ?_)
              · replace h := it_t c62 h
                refine lv_aload (pc := 68) hx hb dX8_copy_68 (lv_at hl 1 rfl) ?_
                refine lv_iload_n (pc := 70) hx hb dX8_copy_70 rfl (lv_at hl 4 rfl) ?_
                refine lv_iload (pc := 71) hx hb dX8_copy_71 (lv_at hl 7 rfl) ?_
                obtain ⟨r73, hc73, h⟩ := b1_i h
                have hw : (wX5 (a 14) c (X (11 + 3))).map (·.1) = [14].flatMap (uA a) := rfl
                have hPc : va_P D vwCl (wX5 (a 14) c (X (11 + 3))) _ := hP 14 (by decide)
                have hDc : va_D A (wX5 (a 14) c (X (11 + 3))) := hD.of_addr (by decide) (by decide) hw
                refine g_X (X' := X) (st1 := [.int r73]) (gr_V (n := 2) (rest := []) (pc := 73) hx hb hml hown hts (cX5_hasRun_met l D c tb sa sv (a 14) p1 p4 (X (11 + 3)) _ hc73) gX8_copy_X5_hasRun rfl rfl rfl (by decide +kernel) rfl ⟨Nat.le_of_ble_eq_true rfl, Nat.le_of_ble_eq_true rfl⟩ ⟨Nat.zero_le _, Nat.zero_le _⟩ 0 5 rfl rfl rfl xE_ok hPc hDc hK (xE_ok.tr hE hS (g_freeX hD hS hA (by decide) (addr0 hw))) hl.1 (Nat.le_of_ble_eq_true rfl) dX8_copy_73 rfl) hP hD hS hA (ks := [14]) (by decide) (addr0 hw) (fun k9 _ hk9 => rfl) (fun H1 hw1 => (List.forall_mem_cons.mpr ⟨hw1, (fun _ h9 => absurd h9 List.not_mem_nil)⟩)) rfl (fun H locs hP hS => ?_)
                refine lv_if_eq (tgt := 91) (pc := 76) hx hb dX8_copy_76 (by decide) (fun c76 => ?_) (fun c76 => ?_)
                · replace h := it_t c76 h
                  refine lv_bipush (v := -12) (pc := 91) hx hb dX8_copy_91 (by decide) ?_
                  have kr := KR (-12 : Int32) X _ _ 93 ls h rfl hP hS dX8_copy_93
                  exact kr
                · replace h := it_f c76 h
                  refine lv_aload (pc := 79) hx hb dX8_copy_79 (lv_at hl 0 rfl) ?_
                  refine lv_iload (pc := 81) hx hb dX8_copy_81 (lv_at hl 6 rfl) ?_
                  refine lv_iload (pc := 83) hx hb dX8_copy_83 (lv_at hl 7 rfl) ?_
                  obtain ⟨r85, hc85, h⟩ := b1_i h
                  have hw : (wX5 (a 13) c (X (11 + 2))).map (·.1) = [13].flatMap (uA a) := rfl
                  have hPc : va_P D vwCl (wX5 (a 13) c (X (11 + 2))) _ := hP 13 (by decide)
                  have hDc : va_D A (wX5 (a 13) c (X (11 + 2))) := hD.of_addr (by decide) (by decide) hw
                  refine g_X (X' := X) (st1 := [.int r85]) (gr_V (n := 2) (rest := []) (pc := 85) hx hb hml hown hts (cX5_hasRun_met l D c tb sa sv (a 13) p3 p4 (X (11 + 2)) _ hc85) gX8_copy_X5_hasRun rfl rfl rfl (by decide +kernel) rfl ⟨Nat.le_of_ble_eq_true rfl, Nat.le_of_ble_eq_true rfl⟩ ⟨Nat.zero_le _, Nat.zero_le _⟩ 0 5 rfl rfl rfl xE_ok hPc hDc hK (xE_ok.tr hE hS (g_freeX hD hS hA (by decide) (addr0 hw))) hl.1 (Nat.le_of_ble_eq_true rfl) dX8_copy_85 rfl) hP hD hS hA (ks := [13]) (by decide) (addr0 hw) (fun k9 _ hk9 => rfl) (fun H1 hw1 => (List.forall_mem_cons.mpr ⟨hw1, (fun _ h9 => absurd h9 List.not_mem_nil)⟩)) rfl (fun H locs hP hS => ?_)
                  refine lv_if_ne (tgt := 94) (pc := 88) hx hb dX8_copy_88 (by decide) (fun c88 => ?_) (fun c88 => ?_)
                  · replace h := it_f c88 h
                    refine lv_aload (pc := 94) hx hb dX8_copy_94 (lv_at hl 1 rfl) ?_
                    refine va_get (D := D) (ci := 5) (v := .ref ((a 14) 1)) (C := RX5) (T := TX5) (N := 3) (pc := 96) hx hb hfX5 (fun _ h9 => h9) hown hK (show va_P D vwCl (wX5 (a 14) c (X (11 + 3))) _ from hP 14 (by decide)) 0 rfl rfl 0 (by decide) lk2 (fun _ h9 => h9) rfl dX8_copy_96 ?_
                    refine lv_iload_n (pc := 99) hx hb dX8_copy_99 rfl (lv_at hl 4 rfl) ?_
                    refine lv_aload (pc := 100) hx hb dX8_copy_100 (lv_at hl 0 rfl) ?_
                    refine va_get (D := D) (ci := 5) (v := .ref ((a 13) 1)) (C := RX5) (T := TX5) (N := 3) (pc := 102) hx hb hfX5 (fun _ h9 => h9) hown hK (show va_P D vwCl (wX5 (a 13) c (X (11 + 2))) _ from hP 13 (by decide)) 0 rfl rfl 0 (by decide) lk2 (fun _ h9 => h9) rfl dX8_copy_102 ?_
                    refine lv_iload (pc := 105) hx hb dX8_copy_105 (lv_at hl 6 rfl) ?_
                    refine lv_iload (pc := 107) hx hb dX8_copy_107 (lv_at hl 7 rfl) ?_
                    obtain ⟨hk109, h⟩ := ckP_i h
                    obtain ⟨z1, z2, z3, z4, z5⟩ := of_decide_eq_true hk109
                    have hP1 := hP.one (11 + 2) (by decide)
                    have hD1 := hD.one c X (11 + 2) (by decide) (X (11 + 2))
                    obtain ⟨q109, hq109⟩ := XR.mem (c := c) (X := X) (σ := (X (11 + 2))) (j := (11 + 3)) (k := (11 + 2)) (by decide) (by decide) (q := (a (11 + 3) 1, .inl (c 0, 40, .inl ((X (11 + 3)).1 0)))) (g_memS a c (X (11 + 3)) 3 (by decide))
                    refine va_copyi (f := ((X (11 + 3)).1 0)) (g := ((X (11 + 2)).1 0)) (ty := .int) (pc := 109) hx hb (by rw [hml]; exact hl.1.symm) hown lk3 lk4 lk5 lk6 hK hP1 hD1 hS q109 1 0 0 hq109 (g_atS a c (X (11 + 2)) _ 2 (by decide)) rfl rfl rfl z1 z2 z3 z4 z5 (fun _ _ => rfl) (Nat.le_of_ble_eq_true rfl) (Nat.le_of_ble_eq_true (by decide +kernel)) dX8_copy_109 (fun H locs hP _ hS => ?_)
                    have hP : XP D a c (xs X (11 + 2) (mr (X (11 + 2)) 0 (va_cpy ((X (11 + 3)).1 0) ((X (11 + 2)).1 0) (p1).toNatClampNeg (p3).toNatClampNeg (p4).toNatClampNeg))) H := XP.setS (k := 2) (by decide) hP
                    refine lv_iload (pc := 112) hx hb dX8_copy_112 (lv_at hl 7 rfl) ?_
                    have kr := KR p4 (xs X (11 + 2) (mr (X (11 + 2)) 0 (va_cpy ((X (11 + 3)).1 0) ((X (11 + 2)).1 0) (p1).toNatClampNeg (p3).toNatClampNeg (p4).toNatClampNeg))) _ _ 114 ls h rfl hP hS dX8_copy_114
                    exact kr
                  · replace h := it_t c88 h
                    refine lv_bipush (v := -12) (pc := 91) hx hb dX8_copy_91 (by decide) ?_
                    have kr := KR (-12 : Int32) X _ _ 93 ls h rfl hP hS dX8_copy_93
                    exact kr
              · replace h := it_f c62 h
                refine lv_bipush (v := -13) (pc := 65) hx hb dX8_copy_65 (by decide) ?_
                have kr := KR (-13 : Int32) X _ _ 67 ls h rfl hP hS dX8_copy_67
                exact kr
            · replace h := it_f c46 h
              refine lv_bipush (v := -11) (pc := 49) hx hb dX8_copy_49 (by decide) ?_
              have kr := KR (-11 : Int32) X _ _ 51 ls h rfl hP hS dX8_copy_51
              exact kr
        · refine g_aald (v := a 14 0) (pc := 30) hx hb hK (show va_P D vwCl (wX8 a c (X 0)) _ from hP 0 (by decide)) 1 3 rfl rfl hk30 ek30 rfl dX8_copy_30 ?_
          refine lv_astore (lv' := [(7, .ref ((a 14) 0)), (6, .ref ((a 14) 0)), (0, .ref (a 0 0)), (1, .int p0), (2, .int p1), (3, .int p2), (4, .int p3), (5, .int p4)]) (pc := 31) hx hb dX8_copy_31 hl (by decide) rfl (fun ls hl => ?_)
          refine lv_aload (pc := 33) hx hb dX8_copy_33 (lv_at hl 1 rfl) ?_
          obtain ⟨r35, hc35, h⟩ := b1_i h
          have hw : (wX5 (a 14) c (X (11 + 3))).map (·.1) = [14].flatMap (uA a) := rfl
          have hPc : va_P D vwCl (wX5 (a 14) c (X (11 + 3))) _ := hP 14 (by decide)
          have hDc : va_D A (wX5 (a 14) c (X (11 + 3))) := hD.of_addr (by decide) (by decide) hw
          refine g_X (X' := X) (st1 := [.int r35]) (gr_V (n := 0) (rest := []) (pc := 35) hx hb hml hown hts (cX5_isMissing_met l D c tb sa sv (a 14) (X (11 + 3)) _ hc35) gX8_copy_X5_isMissing rfl rfl rfl (by decide +kernel) rfl ⟨Nat.le_of_ble_eq_true rfl, Nat.le_of_ble_eq_true rfl⟩ ⟨Nat.zero_le _, Nat.zero_le _⟩ 0 5 rfl rfl rfl xE_ok hPc hDc hK (xE_ok.tr hE hS (g_freeX hD hS hA (by decide) (addr0 hw))) hl.1 (Nat.le_of_ble_eq_true rfl) dX8_copy_35 rfl) hP hD hS hA (ks := [14]) (by decide) (addr0 hw) (fun k9 _ hk9 => rfl) (fun H1 hw1 => (List.forall_mem_cons.mpr ⟨hw1, (fun _ h9 => absurd h9 List.not_mem_nil)⟩)) rfl (fun H locs hP hS => ?_)
          refine lv_if_ne (tgt := 49) (pc := 38) hx hb dX8_copy_38 (by decide) (fun c38 => ?_) (fun c38 => ?_)
          · replace h := it_f c38 h
            refine lv_bipush (v := -11) (pc := 49) hx hb dX8_copy_49 (by decide) ?_
            have kr := KR (-11 : Int32) X _ _ 51 ls h rfl hP hS dX8_copy_51
            exact kr
          · replace h := it_t c38 h
            refine lv_aload (pc := 41) hx hb dX8_copy_41 (lv_at hl 0 rfl) ?_
            obtain ⟨r43, hc43, h⟩ := b1_i h
            have hw : (wX5 (a 14) c (X (11 + 3))).map (·.1) = [14].flatMap (uA a) := rfl
            have hPc : va_P D vwCl (wX5 (a 14) c (X (11 + 3))) _ := hP 14 (by decide)
            have hDc : va_D A (wX5 (a 14) c (X (11 + 3))) := hD.of_addr (by decide) (by decide) hw
            refine g_X (X' := X) (st1 := [.int r43]) (gr_V (n := 0) (rest := []) (pc := 43) hx hb hml hown hts (cX5_isMissing_met l D c tb sa sv (a 14) (X (11 + 3)) _ hc43) gX8_copy_X5_isMissing rfl rfl rfl (by decide +kernel) rfl ⟨Nat.le_of_ble_eq_true rfl, Nat.le_of_ble_eq_true rfl⟩ ⟨Nat.zero_le _, Nat.zero_le _⟩ 0 5 rfl rfl rfl xE_ok hPc hDc hK (xE_ok.tr hE hS (g_freeX hD hS hA (by decide) (addr0 hw))) hl.1 (Nat.le_of_ble_eq_true rfl) dX8_copy_43 rfl) hP hD hS hA (ks := [14]) (by decide) (addr0 hw) (fun k9 _ hk9 => rfl) (fun H1 hw1 => (List.forall_mem_cons.mpr ⟨hw1, (fun _ h9 => absurd h9 List.not_mem_nil)⟩)) rfl (fun H locs hP hS => ?_)
            refine lv_if_eq (tgt := 52) (pc := 46) hx hb dX8_copy_46 (by decide) (fun c46 => ?_) (fun c46 => ?_)
            · replace h := it_t c46 h
              refine lv_aload (pc := 52) hx hb dX8_copy_52 (lv_at hl 1 rfl) ?_
              refine va_get (D := D) (ci := 5) (v := .int ((X (11 + 3)).1 1 0)) (C := RX5) (T := TX5) (N := 3) (pc := 54) hx hb hfX5 (fun _ h9 => h9) hown hK (show va_P D vwCl (wX5 (a 14) c (X (11 + 3))) _ from hP 14 (by decide)) 0 rfl rfl 1 (by decide) lk1 (fun _ h9 => h9) rfl dX8_copy_54 ?_
              refine lv_aload (pc := 57) hx hb dX8_copy_57 (lv_at hl 0 rfl) ?_
              refine va_get (D := D) (ci := 5) (v := .int ((X (11 + 3)).1 1 0)) (C := RX5) (T := TX5) (N := 3) (pc := 59) hx hb hfX5 (fun _ h9 => h9) hown hK (show va_P D vwCl (wX5 (a 14) c (X (11 + 3))) _ from hP 14 (by decide)) 0 rfl rfl 1 (by decide) lk1 (fun _ h9 => h9) rfl dX8_copy_59 ?_
              refine lv_icmp_eq (tgt := 68) (pc := 62) hx hb dX8_copy_62 (by decide) (fun c62 => ?_) (fun c62 => ?_)
              · replace h := it_t c62 h
                refine lv_aload (pc := 68) hx hb dX8_copy_68 (lv_at hl 1 rfl) ?_
                refine lv_iload_n (pc := 70) hx hb dX8_copy_70 rfl (lv_at hl 4 rfl) ?_
                refine lv_iload (pc := 71) hx hb dX8_copy_71 (lv_at hl 7 rfl) ?_
                obtain ⟨r73, hc73, h⟩ := b1_i h
                have hw : (wX5 (a 14) c (X (11 + 3))).map (·.1) = [14].flatMap (uA a) := rfl
                have hPc : va_P D vwCl (wX5 (a 14) c (X (11 + 3))) _ := hP 14 (by decide)
                have hDc : va_D A (wX5 (a 14) c (X (11 + 3))) := hD.of_addr (by decide) (by decide) hw
                refine g_X (X' := X) (st1 := [.int r73]) (gr_V (n := 2) (rest := []) (pc := 73) hx hb hml hown hts (cX5_hasRun_met l D c tb sa sv (a 14) p1 p4 (X (11 + 3)) _ hc73) gX8_copy_X5_hasRun rfl rfl rfl (by decide +kernel) rfl ⟨Nat.le_of_ble_eq_true rfl, Nat.le_of_ble_eq_true rfl⟩ ⟨Nat.zero_le _, Nat.zero_le _⟩ 0 5 rfl rfl rfl xE_ok hPc hDc hK (xE_ok.tr hE hS (g_freeX hD hS hA (by decide) (addr0 hw))) hl.1 (Nat.le_of_ble_eq_true rfl) dX8_copy_73 rfl) hP hD hS hA (ks := [14]) (by decide) (addr0 hw) (fun k9 _ hk9 => rfl) (fun H1 hw1 => (List.forall_mem_cons.mpr ⟨hw1, (fun _ h9 => absurd h9 List.not_mem_nil)⟩)) rfl (fun H locs hP hS => ?_)
                refine lv_if_eq (tgt := 91) (pc := 76) hx hb dX8_copy_76 (by decide) (fun c76 => ?_) (fun c76 => ?_)
                · replace h := it_t c76 h
                  refine lv_bipush (v := -12) (pc := 91) hx hb dX8_copy_91 (by decide) ?_
                  have kr := KR (-12 : Int32) X _ _ 93 ls h rfl hP hS dX8_copy_93
                  exact kr
                · replace h := it_f c76 h
                  refine lv_aload (pc := 79) hx hb dX8_copy_79 (lv_at hl 0 rfl) ?_
                  refine lv_iload (pc := 81) hx hb dX8_copy_81 (lv_at hl 6 rfl) ?_
                  refine lv_iload (pc := 83) hx hb dX8_copy_83 (lv_at hl 7 rfl) ?_
                  obtain ⟨r85, hc85, h⟩ := b1_i h
                  have hw : (wX5 (a 14) c (X (11 + 3))).map (·.1) = [14].flatMap (uA a) := rfl
                  have hPc : va_P D vwCl (wX5 (a 14) c (X (11 + 3))) _ := hP 14 (by decide)
                  have hDc : va_D A (wX5 (a 14) c (X (11 + 3))) := hD.of_addr (by decide) (by decide) hw
                  refine g_X (X' := X) (st1 := [.int r85]) (gr_V (n := 2) (rest := []) (pc := 85) hx hb hml hown hts (cX5_hasRun_met l D c tb sa sv (a 14) p3 p4 (X (11 + 3)) _ hc85) gX8_copy_X5_hasRun rfl rfl rfl (by decide +kernel) rfl ⟨Nat.le_of_ble_eq_true rfl, Nat.le_of_ble_eq_true rfl⟩ ⟨Nat.zero_le _, Nat.zero_le _⟩ 0 5 rfl rfl rfl xE_ok hPc hDc hK (xE_ok.tr hE hS (g_freeX hD hS hA (by decide) (addr0 hw))) hl.1 (Nat.le_of_ble_eq_true rfl) dX8_copy_85 rfl) hP hD hS hA (ks := [14]) (by decide) (addr0 hw) (fun k9 _ hk9 => rfl) (fun H1 hw1 => (List.forall_mem_cons.mpr ⟨hw1, (fun _ h9 => absurd h9 List.not_mem_nil)⟩)) rfl (fun H locs hP hS => ?_)
                  refine lv_if_ne (tgt := 94) (pc := 88) hx hb dX8_copy_88 (by decide) (fun c88 => ?_) (fun c88 => ?_)
                  · replace h := it_f c88 h
                    refine lv_aload (pc := 94) hx hb dX8_copy_94 (lv_at hl 1 rfl) ?_
                    refine va_get (D := D) (ci := 5) (v := .ref ((a 14) 1)) (C := RX5) (T := TX5) (N := 3) (pc := 96) hx hb hfX5 (fun _ h9 => h9) hown hK (show va_P D vwCl (wX5 (a 14) c (X (11 + 3))) _ from hP 14 (by decide)) 0 rfl rfl 0 (by decide) lk2 (fun _ h9 => h9) rfl dX8_copy_96 ?_
                    refine lv_iload_n (pc := 99) hx hb dX8_copy_99 rfl (lv_at hl 4 rfl) ?_
                    refine lv_aload (pc := 100) hx hb dX8_copy_100 (lv_at hl 0 rfl) ?_
                    refine va_get (D := D) (ci := 5) (v := .ref ((a 14) 1)) (C := RX5) (T := TX5) (N := 3) (pc := 102) hx hb hfX5 (fun _ h9 => h9) hown hK (show va_P D vwCl (wX5 (a 14) c (X (11 + 3))) _ from hP 14 (by decide)) 0 rfl rfl 0 (by decide) lk2 (fun _ h9 => h9) rfl dX8_copy_102 ?_
                    refine lv_iload (pc := 105) hx hb dX8_copy_105 (lv_at hl 6 rfl) ?_
                    refine lv_iload (pc := 107) hx hb dX8_copy_107 (lv_at hl 7 rfl) ?_
                    obtain ⟨hk109, h⟩ := ckP_i h
                    obtain ⟨z1, z2, z3, z4, z5⟩ := of_decide_eq_true hk109
                    have hP1 := hP.one (11 + 3) (by decide)
                    have hD1 := hD.one c X (11 + 3) (by decide) (X (11 + 3))
                    refine va_copyi (f := ((X (11 + 3)).1 0)) (g := ((X (11 + 3)).1 0)) (ty := .int) (pc := 109) hx hb (by rw [hml]; exact hl.1.symm) hown lk3 lk4 lk5 lk6 hK hP1 hD1 hS 1 1 0 0 (g_atS a c (X (11 + 3)) _ 3 (by decide)) (g_atS a c (X (11 + 3)) _ 3 (by decide)) rfl rfl rfl z1 z2 z3 z4 z5 (fun _ _ => rfl) (Nat.le_of_ble_eq_true rfl) (Nat.le_of_ble_eq_true (by decide +kernel)) dX8_copy_109 (fun H locs hP _ hS => ?_)
                    have hP : XP D a c (xs X (11 + 3) (mr (X (11 + 3)) 0 (va_cpy ((X (11 + 3)).1 0) ((X (11 + 3)).1 0) (p1).toNatClampNeg (p3).toNatClampNeg (p4).toNatClampNeg))) H := XP.setS (k := 3) (by decide) hP
                    refine lv_iload (pc := 112) hx hb dX8_copy_112 (lv_at hl 7 rfl) ?_
                    have kr := KR p4 (xs X (11 + 3) (mr (X (11 + 3)) 0 (va_cpy ((X (11 + 3)).1 0) ((X (11 + 3)).1 0) (p1).toNatClampNeg (p3).toNatClampNeg (p4).toNatClampNeg))) _ _ 114 ls h rfl hP hS dX8_copy_114
                    exact kr
                  · replace h := it_t c88 h
                    refine lv_bipush (v := -12) (pc := 91) hx hb dX8_copy_91 (by decide) ?_
                    have kr := KR (-12 : Int32) X _ _ 93 ls h rfl hP hS dX8_copy_93
                    exact kr
              · replace h := it_f c62 h
                refine lv_bipush (v := -13) (pc := 65) hx hb dX8_copy_65 (by decide) ?_
                have kr := KR (-13 : Int32) X _ _ 67 ls h rfl hP hS dX8_copy_67
                exact kr
            · replace h := it_f c46 h
              refine lv_bipush (v := -11) (pc := 49) hx hb dX8_copy_49 (by decide) ?_
              have kr := KR (-11 : Int32) X _ _ 51 ls h rfl hP hS dX8_copy_51
              exact kr
    · replace h := it_t c11 h
      refine lv_bipush (v := -2) (pc := 14) hx hb dX8_copy_14 (by decide) ?_
      have kr := KR (-2 : Int32) X _ _ 16 ls h rfl hP hS dX8_copy_16
      exact kr
abbrev rmX8_load : Room := { frames := 3, cells := 0, slots := 0, locals := 68 }
set_option maxRecDepth 100000 in
set_option maxHeartbeats 40000000 in
theorem cX8_load_met (l : Launch) (D : va_G) (c : Nat → ClassId) (tb : Nat) (sa sv : Nat → Nat) (a : Nat → Nat → Nat) (p0 : Int32) (p1 : Int32) (p2 : Int32) (p3 : Int32) (X : XS) (r0 : Int32) (z0 : XS) (h : fX8_load p0 p1 p2 p3 X = some (r0, z0)) : gM l yX8_load wsX8_load rmX8_load D (gY c) (xE tb sa sv) [.ref (a 0 0), .int p0, .int p1, .int p2, .int p3] (wX a c X) (some (.int r0)) (wX a c z0) := by
  unfold fX8_load at h
  refine gM.I (cc := cX8_load) (maxL := 9) (by decide) rfl (Nat.le_of_ble_eq_true rfl) ?_
  intro p e s m args below meth cd hx hb hml hown hts A hA ls hl hP hK hD hS hE Q KR0
  have hfX5 : ∀ w ∈ u_ws RX5 TX5 3, w.before args s = true := fun w hw => hts w (List.mem_cons_of_mem _ (List.mem_append_left _ (List.mem_append_left _ (List.mem_append_right _ hw))))
  have hfX8 : ∀ w ∈ u_ws RX8 TX8 12, w.before args s = true := fun w hw => hts w (List.mem_cons_of_mem _ (List.mem_append_left _ (List.mem_append_left _ (List.mem_append_left _ (List.mem_append_right _ hw)))))
  have lk0 := hts (.fieldLink RX8 69 "GlitchNets" "sheets" "[LGlitchNets$Sheet;") (List.mem_of_getElem? (i := 1) rfl)
  have lk1 := hts (.fieldLink RX8 304 "GlitchNets$Sheet" "sort" "I") (List.mem_of_getElem? (i := 2) rfl)
  have lk2 := hts (.fieldLink RX8 310 "GlitchNets$Sheet" "items" "[I") (List.mem_of_getElem? (i := 3) rfl)
  have hP := XP_iff.mp hP
  have hD := XD_of hD
  have KR : ∀ (v : Int32) (w0 : XS) (H : Heap) (locs : List Loc) (pc : Nat) (ls : Array Slot), some (v, w0) = some (r0, z0) → narrow .int (.int v) = .int v → XP D a c w0 H → va_S A s.heap H locs → decode cX8_load pc = .ok (.ireturn, 1) → W p l e rmX8_load s m args below meth cd H locs 0 0 Q (F0 m pc ls [.int v]) := by
    intro v w0 H locs pc ls hr hn hP hS hd
    cases hr
    exact KR0 _ H locs pc ls rfl hn (XP_iff.mpr hP) (hD.all c _) hS hd
  have hl : lv_has ls 9 [(0, .ref (a 0 0)), (1, .int p0), (2, .int p1), (3, .int p2), (4, .int p3)] := hl
  have J122_0 : ∀ (K65 : Int32 → Int32 → Int32 → Int32 → XS → Option (Int32 × XS)) (K65h : ∀ (x3 : Int32) (x4 : Int32) (x6 : Int32) (x7 : Int32) (X : XS) (H : Heap) (locs : List Loc) (ls : Array Slot), K65 x3 x4 x6 x7 X = some (r0, z0) → XP D a c X H → va_S A s.heap H locs → lv_has ls 9 [(0, .ref (a 0 0)), (3, .int x3), (4, .int x4), (5, .ref ((a 11) 0)), (6, .int x6), (7, .int x7)] → W p l e rmX8_load s m args below meth cd H locs 0 0 Q (F0 m 65 ls [])) (x3 : Int32) (x4 : Int32) (x6 : Int32) (x7 : Int32) (X : XS) (H : Heap) (locs : List Loc) (ls : Array Slot), fX8_load_b122 K65 0 x3 x4 x6 x7 X = some (r0, z0) → XP D a c X H → va_S A s.heap H locs → lv_has ls 9 [(0, .ref (a 0 0)), (3, .int x3), (4, .int x4), (5, .ref ((a 11) 0)), (6, .int x6), (7, .int x7)] → W p l e rmX8_load s m args below meth cd H locs 0 0 Q (F0 m 122 ls []) := by
    intro K65 K65h x3 x4 x6 x7 X H locs ls h hP hS hl
    unfold fX8_load_b122 at h
    obtain ⟨v7_122, ev7_122, h⟩ := lt_i h
    refine lv_iinc (v := v7_122) (lv' := [(7, .int v7_122), (0, .ref (a 0 0)), (3, .int x3), (4, .int x4), (5, .ref ((a 11) 0)), (6, .int x6)]) (pc := 122) hx hb dX8_load_122 hl (k := 5) rfl (by rw [ev7_122]; rfl) (by decide) rfl (fun ls hl => ?_)
    refine lv_goto (tgt := 65) (pc := 125) hx hb dX8_load_125 (by decide) ?_
    have jr := K65h x3 x4 x6 v7_122 X _ _ ls h hP hS (lv_sub hl [1, 2, 3, 4, 5, 0] rfl)
    exact jr
  have J65_0 : ∀ (n : Nat) (x3 : Int32) (x4 : Int32) (x6 : Int32) (x7 : Int32) (X : XS) (H : Heap) (locs : List Loc) (ls : Array Slot), fX8_load_b65 0 n x3 x4 x6 x7 X = some (r0, z0) → XP D a c X H → va_S A s.heap H locs → lv_has ls 9 [(0, .ref (a 0 0)), (3, .int x3), (4, .int x4), (5, .ref ((a 11) 0)), (6, .int x6), (7, .int x7)] → W p l e rmX8_load s m args below meth cd H locs 0 0 Q (F0 m 65 ls []) := by
    intro n
    induction n with
    | zero =>
      intro x3 x4 x6 x7 X H locs ls h _ _ _
      cases (show (none : Option (Int32 × XS)) = some _ from h)
    | succ n K65h =>
      intro x3 x4 x6 x7 X H locs ls h hP hS hl
      rw [fX8_load_b65] at h
      refine lv_iload (pc := 65) hx hb dX8_load_65 (lv_at hl 5 rfl) ?_
      refine lv_iload (pc := 67) hx hb dX8_load_67 (lv_at hl 2 rfl) ?_
      refine lv_icmp_ge (tgt := 128) (pc := 69) hx hb dX8_load_69 (by decide) (fun c69 => ?_) (fun c69 => ?_)
      · replace h := it_t c69 h
        refine lv_iload (pc := 128) hx hb dX8_load_128 (lv_at hl 4 rfl) ?_
        have kr := KR x6 X _ _ 130 ls h rfl hP hS dX8_load_130
        exact kr
      · replace h := it_f c69 h
        refine lv_iload_n (pc := 72) hx hb dX8_load_72 rfl (lv_at hl 1 rfl) ?_
        refine lv_iconst (v := 2) (pc := 73) hx hb dX8_load_73 (by decide) ?_
        refine lv_iload (pc := 74) hx hb dX8_load_74 (lv_at hl 5 rfl) ?_
        refine lv_imul (pc := 76) hx hb dX8_load_76 ?_
        refine lv_iadd (pc := 77) hx hb dX8_load_77 ?_
        refine lv_topi (fun v8_78 ev8_78 => ?_)
        replace h := lt_e ev8_78 h
        refine lv_istore (lv' := [(8, .int v8_78), (0, .ref (a 0 0)), (3, .int x3), (4, .int x4), (5, .ref ((a 11) 0)), (6, .int x6), (7, .int x7)]) (pc := 78) hx hb dX8_load_78 hl (by decide) rfl (fun ls hl => ?_)
        refine lv_aload (pc := 80) hx hb dX8_load_80 (lv_at hl 4 rfl) ?_
        refine lv_iload (pc := 82) hx hb dX8_load_82 (lv_at hl 0 rfl) ?_
        refine lv_iconst (v := 2) (pc := 84) hx hb dX8_load_84 (by decide) ?_
        obtain ⟨r85, hc85, h⟩ := b1_i h
        have hw : (wX5 (a 11) c (X (11 + 0))).map (·.1) = [11].flatMap (uA a) := rfl
        have hPc : va_P D vwCl (wX5 (a 11) c (X (11 + 0))) _ := hP 11 (by decide)
        have hDc : va_D A (wX5 (a 11) c (X (11 + 0))) := hD.of_addr (by decide) (by decide) hw
        refine g_X (X' := X) (st1 := [.int r85]) (gr_V (n := 2) (rest := []) (pc := 85) hx hb hml hown hts (cX5_hasRun_met l D c tb sa sv (a 11) v8_78 (2 : Int32) (X (11 + 0)) _ hc85) gX8_load_X5_hasRun rfl rfl rfl (by decide +kernel) rfl ⟨Nat.le_of_ble_eq_true rfl, Nat.le_of_ble_eq_true rfl⟩ ⟨Nat.zero_le _, Nat.zero_le _⟩ 0 5 rfl rfl rfl xE_ok hPc hDc hK (xE_ok.tr hE hS (g_freeX hD hS hA (by decide) (addr0 hw))) hl.1 (Nat.le_of_ble_eq_true rfl) dX8_load_85 rfl) hP hD hS hA (ks := [11]) (by decide) (addr0 hw) (fun k9 _ hk9 => rfl) (fun H1 hw1 => (List.forall_mem_cons.mpr ⟨hw1, (fun _ h9 => absurd h9 List.not_mem_nil)⟩)) rfl (fun H locs hP hS => ?_)
        refine lv_if_ne (tgt := 94) (pc := 88) hx hb dX8_load_88 (by decide) (fun c88 => ?_) (fun c88 => ?_)
        · replace h := it_f c88 h
          refine lv_aload_n (pc := 94) hx hb dX8_load_94 rfl (lv_at hl 1 rfl) ?_
          refine lv_aload (pc := 95) hx hb dX8_load_95 (lv_at hl 4 rfl) ?_
          refine va_get (D := D) (ci := 5) (v := .ref ((a 11) 1)) (C := RX5) (T := TX5) (N := 3) (pc := 97) hx hb hfX5 (fun _ h9 => h9) hown hK (show va_P D vwCl (wX5 (a 11) c (X (11 + 0))) _ from hP 11 (by decide)) 0 rfl rfl 0 (by decide) lk2 (fun _ h9 => h9) rfl dX8_load_97 ?_
          refine lv_iload (pc := 100) hx hb dX8_load_100 (lv_at hl 0 rfl) ?_
          obtain ⟨hk102, h⟩ := ckI_i h
          refine va_iald (D := D) (f := ((X (11 + 0)).1 0)) (pc := 102) hx hb hK (show va_P D vwCl (wX5 (a 11) c (X (11 + 0))) _ from hP 11 (by decide)) 1 0 rfl rfl hk102 dX8_load_102 ?_
          refine lv_aload (pc := 103) hx hb dX8_load_103 (lv_at hl 4 rfl) ?_
          refine va_get (D := D) (ci := 5) (v := .ref ((a 11) 1)) (C := RX5) (T := TX5) (N := 3) (pc := 105) hx hb hfX5 (fun _ h9 => h9) hown hK (show va_P D vwCl (wX5 (a 11) c (X (11 + 0))) _ from hP 11 (by decide)) 0 rfl rfl 0 (by decide) lk2 (fun _ h9 => h9) rfl dX8_load_105 ?_
          refine lv_iload (pc := 108) hx hb dX8_load_108 (lv_at hl 0 rfl) ?_
          refine lv_iconst (v := 1) (pc := 110) hx hb dX8_load_110 (by decide) ?_
          refine lv_iadd (pc := 111) hx hb dX8_load_111 ?_
          obtain ⟨hk112, h⟩ := ckI_i h
          refine va_iald (D := D) (f := ((X (11 + 0)).1 0)) (pc := 112) hx hb hK (show va_P D vwCl (wX5 (a 11) c (X (11 + 0))) _ from hP 11 (by decide)) 1 0 rfl rfl hk112 dX8_load_112 ?_
          obtain ⟨r113, t0_113, hc113, h⟩ := b2_i h
          refine g_allX (st1 := [.int r113]) (gr_V (n := 2) (rest := []) (pc := 113) hx hb hml hown hts (cX8_addTerm_met l D c tb sa sv a ((((X (11 + 0)).1 0) (v8_78).toNatClampNeg)) ((((X (11 + 0)).1 0) ((v8_78 + (1 : Int32))).toNatClampNeg)) X _ _ hc113) gX8_load_X8_addTerm rfl rfl rfl (by decide +kernel) rfl ⟨Nat.le_of_ble_eq_true rfl, Nat.le_of_ble_eq_true rfl⟩ ⟨Nat.zero_le _, Nat.zero_le _⟩ 0 8 rfl rfl rfl xE_ok (XP_iff.mpr hP) (hD.all c X) hK (xE_ok.tr hE hS (g_free (hD.all c X) hS hA)) hl.1 (Nat.le_of_ble_eq_true rfl) dX8_load_113 rfl) hD hS hA rfl (fun H locs hP hS => ?_)
          refine lv_if_lt (tgt := 122) (pc := 116) hx hb dX8_load_116 (by decide) (fun c116 => ?_) (fun c116 => ?_)
          · replace h := it_t c116 h
            have jr := J122_0 (fX8_load_b65 0 n) K65h x3 x4 x6 x7 t0_113 _ _ ls h hP hS (lv_sub hl [1, 2, 3, 4, 5, 6] rfl)
            exact jr
          · replace h := it_f c116 h
            obtain ⟨v6_119, ev6_119, h⟩ := lt_i h
            refine lv_iinc (v := v6_119) (lv' := [(6, .int v6_119), (8, .int v8_78), (0, .ref (a 0 0)), (3, .int x3), (4, .int x4), (5, .ref ((a 11) 0)), (7, .int x7)]) (pc := 119) hx hb dX8_load_119 hl (k := 5) rfl (by rw [ev6_119]; rfl) (by decide) rfl (fun ls hl => ?_)
            have jr := J122_0 (fX8_load_b65 0 n) K65h x3 x4 v6_119 x7 t0_113 _ _ ls h hP hS (lv_sub hl [2, 3, 4, 5, 0, 6] rfl)
            exact jr
        · replace h := it_t c88 h
          refine lv_bipush (v := -12) (pc := 91) hx hb dX8_load_91 (by decide) ?_
          have kr := KR (-12 : Int32) X _ _ 93 ls h rfl hP hS dX8_load_93
          exact kr
  have J122_1 : ∀ (K65 : Int32 → Int32 → Int32 → Int32 → XS → Option (Int32 × XS)) (K65h : ∀ (x3 : Int32) (x4 : Int32) (x6 : Int32) (x7 : Int32) (X : XS) (H : Heap) (locs : List Loc) (ls : Array Slot), K65 x3 x4 x6 x7 X = some (r0, z0) → XP D a c X H → va_S A s.heap H locs → lv_has ls 9 [(0, .ref (a 0 0)), (3, .int x3), (4, .int x4), (5, .ref ((a 12) 0)), (6, .int x6), (7, .int x7)] → W p l e rmX8_load s m args below meth cd H locs 0 0 Q (F0 m 65 ls [])) (x3 : Int32) (x4 : Int32) (x6 : Int32) (x7 : Int32) (X : XS) (H : Heap) (locs : List Loc) (ls : Array Slot), fX8_load_b122 K65 1 x3 x4 x6 x7 X = some (r0, z0) → XP D a c X H → va_S A s.heap H locs → lv_has ls 9 [(0, .ref (a 0 0)), (3, .int x3), (4, .int x4), (5, .ref ((a 12) 0)), (6, .int x6), (7, .int x7)] → W p l e rmX8_load s m args below meth cd H locs 0 0 Q (F0 m 122 ls []) := by
    intro K65 K65h x3 x4 x6 x7 X H locs ls h hP hS hl
    unfold fX8_load_b122 at h
    obtain ⟨v7_122, ev7_122, h⟩ := lt_i h
    refine lv_iinc (v := v7_122) (lv' := [(7, .int v7_122), (0, .ref (a 0 0)), (3, .int x3), (4, .int x4), (5, .ref ((a 12) 0)), (6, .int x6)]) (pc := 122) hx hb dX8_load_122 hl (k := 5) rfl (by rw [ev7_122]; rfl) (by decide) rfl (fun ls hl => ?_)
    refine lv_goto (tgt := 65) (pc := 125) hx hb dX8_load_125 (by decide) ?_
    have jr := K65h x3 x4 x6 v7_122 X _ _ ls h hP hS (lv_sub hl [1, 2, 3, 4, 5, 0] rfl)
    exact jr
  have J65_1 : ∀ (n : Nat) (x3 : Int32) (x4 : Int32) (x6 : Int32) (x7 : Int32) (X : XS) (H : Heap) (locs : List Loc) (ls : Array Slot), fX8_load_b65 1 n x3 x4 x6 x7 X = some (r0, z0) → XP D a c X H → va_S A s.heap H locs → lv_has ls 9 [(0, .ref (a 0 0)), (3, .int x3), (4, .int x4), (5, .ref ((a 12) 0)), (6, .int x6), (7, .int x7)] → W p l e rmX8_load s m args below meth cd H locs 0 0 Q (F0 m 65 ls []) := by
    intro n
    induction n with
    | zero =>
      intro x3 x4 x6 x7 X H locs ls h _ _ _
      cases (show (none : Option (Int32 × XS)) = some _ from h)
    | succ n K65h =>
      intro x3 x4 x6 x7 X H locs ls h hP hS hl
      rw [fX8_load_b65] at h
      refine lv_iload (pc := 65) hx hb dX8_load_65 (lv_at hl 5 rfl) ?_
      refine lv_iload (pc := 67) hx hb dX8_load_67 (lv_at hl 2 rfl) ?_
      refine lv_icmp_ge (tgt := 128) (pc := 69) hx hb dX8_load_69 (by decide) (fun c69 => ?_) (fun c69 => ?_)
      · replace h := it_t c69 h
        refine lv_iload (pc := 128) hx hb dX8_load_128 (lv_at hl 4 rfl) ?_
        have kr := KR x6 X _ _ 130 ls h rfl hP hS dX8_load_130
        exact kr
      · replace h := it_f c69 h
        refine lv_iload_n (pc := 72) hx hb dX8_load_72 rfl (lv_at hl 1 rfl) ?_
        refine lv_iconst (v := 2) (pc := 73) hx hb dX8_load_73 (by decide) ?_
        refine lv_iload (pc := 74) hx hb dX8_load_74 (lv_at hl 5 rfl) ?_
        refine lv_imul (pc := 76) hx hb dX8_load_76 ?_
        refine lv_iadd (pc := 77) hx hb dX8_load_77 ?_
        refine lv_topi (fun v8_78 ev8_78 => ?_)
        replace h := lt_e ev8_78 h
        refine lv_istore (lv' := [(8, .int v8_78), (0, .ref (a 0 0)), (3, .int x3), (4, .int x4), (5, .ref ((a 12) 0)), (6, .int x6), (7, .int x7)]) (pc := 78) hx hb dX8_load_78 hl (by decide) rfl (fun ls hl => ?_)
        refine lv_aload (pc := 80) hx hb dX8_load_80 (lv_at hl 4 rfl) ?_
        refine lv_iload (pc := 82) hx hb dX8_load_82 (lv_at hl 0 rfl) ?_
        refine lv_iconst (v := 2) (pc := 84) hx hb dX8_load_84 (by decide) ?_
        obtain ⟨r85, hc85, h⟩ := b1_i h
        have hw : (wX5 (a 12) c (X (11 + 1))).map (·.1) = [12].flatMap (uA a) := rfl
        have hPc : va_P D vwCl (wX5 (a 12) c (X (11 + 1))) _ := hP 12 (by decide)
        have hDc : va_D A (wX5 (a 12) c (X (11 + 1))) := hD.of_addr (by decide) (by decide) hw
        refine g_X (X' := X) (st1 := [.int r85]) (gr_V (n := 2) (rest := []) (pc := 85) hx hb hml hown hts (cX5_hasRun_met l D c tb sa sv (a 12) v8_78 (2 : Int32) (X (11 + 1)) _ hc85) gX8_load_X5_hasRun rfl rfl rfl (by decide +kernel) rfl ⟨Nat.le_of_ble_eq_true rfl, Nat.le_of_ble_eq_true rfl⟩ ⟨Nat.zero_le _, Nat.zero_le _⟩ 0 5 rfl rfl rfl xE_ok hPc hDc hK (xE_ok.tr hE hS (g_freeX hD hS hA (by decide) (addr0 hw))) hl.1 (Nat.le_of_ble_eq_true rfl) dX8_load_85 rfl) hP hD hS hA (ks := [12]) (by decide) (addr0 hw) (fun k9 _ hk9 => rfl) (fun H1 hw1 => (List.forall_mem_cons.mpr ⟨hw1, (fun _ h9 => absurd h9 List.not_mem_nil)⟩)) rfl (fun H locs hP hS => ?_)
        refine lv_if_ne (tgt := 94) (pc := 88) hx hb dX8_load_88 (by decide) (fun c88 => ?_) (fun c88 => ?_)
        · replace h := it_f c88 h
          refine lv_aload_n (pc := 94) hx hb dX8_load_94 rfl (lv_at hl 1 rfl) ?_
          refine lv_aload (pc := 95) hx hb dX8_load_95 (lv_at hl 4 rfl) ?_
          refine va_get (D := D) (ci := 5) (v := .ref ((a 12) 1)) (C := RX5) (T := TX5) (N := 3) (pc := 97) hx hb hfX5 (fun _ h9 => h9) hown hK (show va_P D vwCl (wX5 (a 12) c (X (11 + 1))) _ from hP 12 (by decide)) 0 rfl rfl 0 (by decide) lk2 (fun _ h9 => h9) rfl dX8_load_97 ?_
          refine lv_iload (pc := 100) hx hb dX8_load_100 (lv_at hl 0 rfl) ?_
          obtain ⟨hk102, h⟩ := ckI_i h
          refine va_iald (D := D) (f := ((X (11 + 1)).1 0)) (pc := 102) hx hb hK (show va_P D vwCl (wX5 (a 12) c (X (11 + 1))) _ from hP 12 (by decide)) 1 0 rfl rfl hk102 dX8_load_102 ?_
          refine lv_aload (pc := 103) hx hb dX8_load_103 (lv_at hl 4 rfl) ?_
          refine va_get (D := D) (ci := 5) (v := .ref ((a 12) 1)) (C := RX5) (T := TX5) (N := 3) (pc := 105) hx hb hfX5 (fun _ h9 => h9) hown hK (show va_P D vwCl (wX5 (a 12) c (X (11 + 1))) _ from hP 12 (by decide)) 0 rfl rfl 0 (by decide) lk2 (fun _ h9 => h9) rfl dX8_load_105 ?_
          refine lv_iload (pc := 108) hx hb dX8_load_108 (lv_at hl 0 rfl) ?_
          refine lv_iconst (v := 1) (pc := 110) hx hb dX8_load_110 (by decide) ?_
          refine lv_iadd (pc := 111) hx hb dX8_load_111 ?_
          obtain ⟨hk112, h⟩ := ckI_i h
          refine va_iald (D := D) (f := ((X (11 + 1)).1 0)) (pc := 112) hx hb hK (show va_P D vwCl (wX5 (a 12) c (X (11 + 1))) _ from hP 12 (by decide)) 1 0 rfl rfl hk112 dX8_load_112 ?_
          obtain ⟨r113, t0_113, hc113, h⟩ := b2_i h
          refine g_allX (st1 := [.int r113]) (gr_V (n := 2) (rest := []) (pc := 113) hx hb hml hown hts (cX8_addTerm_met l D c tb sa sv a ((((X (11 + 1)).1 0) (v8_78).toNatClampNeg)) ((((X (11 + 1)).1 0) ((v8_78 + (1 : Int32))).toNatClampNeg)) X _ _ hc113) gX8_load_X8_addTerm rfl rfl rfl (by decide +kernel) rfl ⟨Nat.le_of_ble_eq_true rfl, Nat.le_of_ble_eq_true rfl⟩ ⟨Nat.zero_le _, Nat.zero_le _⟩ 0 8 rfl rfl rfl xE_ok (XP_iff.mpr hP) (hD.all c X) hK (xE_ok.tr hE hS (g_free (hD.all c X) hS hA)) hl.1 (Nat.le_of_ble_eq_true rfl) dX8_load_113 rfl) hD hS hA rfl (fun H locs hP hS => ?_)
          refine lv_if_lt (tgt := 122) (pc := 116) hx hb dX8_load_116 (by decide) (fun c116 => ?_) (fun c116 => ?_)
          · replace h := it_t c116 h
            have jr := J122_1 (fX8_load_b65 1 n) K65h x3 x4 x6 x7 t0_113 _ _ ls h hP hS (lv_sub hl [1, 2, 3, 4, 5, 6] rfl)
            exact jr
          · replace h := it_f c116 h
            obtain ⟨v6_119, ev6_119, h⟩ := lt_i h
            refine lv_iinc (v := v6_119) (lv' := [(6, .int v6_119), (8, .int v8_78), (0, .ref (a 0 0)), (3, .int x3), (4, .int x4), (5, .ref ((a 12) 0)), (7, .int x7)]) (pc := 119) hx hb dX8_load_119 hl (k := 5) rfl (by rw [ev6_119]; rfl) (by decide) rfl (fun ls hl => ?_)
            have jr := J122_1 (fX8_load_b65 1 n) K65h x3 x4 v6_119 x7 t0_113 _ _ ls h hP hS (lv_sub hl [2, 3, 4, 5, 0, 6] rfl)
            exact jr
        · replace h := it_t c88 h
          refine lv_bipush (v := -12) (pc := 91) hx hb dX8_load_91 (by decide) ?_
          have kr := KR (-12 : Int32) X _ _ 93 ls h rfl hP hS dX8_load_93
          exact kr
  have J122_2 : ∀ (K65 : Int32 → Int32 → Int32 → Int32 → XS → Option (Int32 × XS)) (K65h : ∀ (x3 : Int32) (x4 : Int32) (x6 : Int32) (x7 : Int32) (X : XS) (H : Heap) (locs : List Loc) (ls : Array Slot), K65 x3 x4 x6 x7 X = some (r0, z0) → XP D a c X H → va_S A s.heap H locs → lv_has ls 9 [(0, .ref (a 0 0)), (3, .int x3), (4, .int x4), (5, .ref ((a 13) 0)), (6, .int x6), (7, .int x7)] → W p l e rmX8_load s m args below meth cd H locs 0 0 Q (F0 m 65 ls [])) (x3 : Int32) (x4 : Int32) (x6 : Int32) (x7 : Int32) (X : XS) (H : Heap) (locs : List Loc) (ls : Array Slot), fX8_load_b122 K65 2 x3 x4 x6 x7 X = some (r0, z0) → XP D a c X H → va_S A s.heap H locs → lv_has ls 9 [(0, .ref (a 0 0)), (3, .int x3), (4, .int x4), (5, .ref ((a 13) 0)), (6, .int x6), (7, .int x7)] → W p l e rmX8_load s m args below meth cd H locs 0 0 Q (F0 m 122 ls []) := by
    intro K65 K65h x3 x4 x6 x7 X H locs ls h hP hS hl
    unfold fX8_load_b122 at h
    obtain ⟨v7_122, ev7_122, h⟩ := lt_i h
    refine lv_iinc (v := v7_122) (lv' := [(7, .int v7_122), (0, .ref (a 0 0)), (3, .int x3), (4, .int x4), (5, .ref ((a 13) 0)), (6, .int x6)]) (pc := 122) hx hb dX8_load_122 hl (k := 5) rfl (by rw [ev7_122]; rfl) (by decide) rfl (fun ls hl => ?_)
    refine lv_goto (tgt := 65) (pc := 125) hx hb dX8_load_125 (by decide) ?_
    have jr := K65h x3 x4 x6 v7_122 X _ _ ls h hP hS (lv_sub hl [1, 2, 3, 4, 5, 0] rfl)
    exact jr
  have J65_2 : ∀ (n : Nat) (x3 : Int32) (x4 : Int32) (x6 : Int32) (x7 : Int32) (X : XS) (H : Heap) (locs : List Loc) (ls : Array Slot), fX8_load_b65 2 n x3 x4 x6 x7 X = some (r0, z0) → XP D a c X H → va_S A s.heap H locs → lv_has ls 9 [(0, .ref (a 0 0)), (3, .int x3), (4, .int x4), (5, .ref ((a 13) 0)), (6, .int x6), (7, .int x7)] → W p l e rmX8_load s m args below meth cd H locs 0 0 Q (F0 m 65 ls []) := by
    intro n
    induction n with
    | zero =>
      intro x3 x4 x6 x7 X H locs ls h _ _ _
      cases (show (none : Option (Int32 × XS)) = some _ from h)
    | succ n K65h =>
      intro x3 x4 x6 x7 X H locs ls h hP hS hl
      rw [fX8_load_b65] at h
      refine lv_iload (pc := 65) hx hb dX8_load_65 (lv_at hl 5 rfl) ?_
      refine lv_iload (pc := 67) hx hb dX8_load_67 (lv_at hl 2 rfl) ?_
      refine lv_icmp_ge (tgt := 128) (pc := 69) hx hb dX8_load_69 (by decide) (fun c69 => ?_) (fun c69 => ?_)
      · replace h := it_t c69 h
        refine lv_iload (pc := 128) hx hb dX8_load_128 (lv_at hl 4 rfl) ?_
        have kr := KR x6 X _ _ 130 ls h rfl hP hS dX8_load_130
        exact kr
      · replace h := it_f c69 h
        refine lv_iload_n (pc := 72) hx hb dX8_load_72 rfl (lv_at hl 1 rfl) ?_
        refine lv_iconst (v := 2) (pc := 73) hx hb dX8_load_73 (by decide) ?_
        refine lv_iload (pc := 74) hx hb dX8_load_74 (lv_at hl 5 rfl) ?_
        refine lv_imul (pc := 76) hx hb dX8_load_76 ?_
        refine lv_iadd (pc := 77) hx hb dX8_load_77 ?_
        refine lv_topi (fun v8_78 ev8_78 => ?_)
        replace h := lt_e ev8_78 h
        refine lv_istore (lv' := [(8, .int v8_78), (0, .ref (a 0 0)), (3, .int x3), (4, .int x4), (5, .ref ((a 13) 0)), (6, .int x6), (7, .int x7)]) (pc := 78) hx hb dX8_load_78 hl (by decide) rfl (fun ls hl => ?_)
        refine lv_aload (pc := 80) hx hb dX8_load_80 (lv_at hl 4 rfl) ?_
        refine lv_iload (pc := 82) hx hb dX8_load_82 (lv_at hl 0 rfl) ?_
        refine lv_iconst (v := 2) (pc := 84) hx hb dX8_load_84 (by decide) ?_
        obtain ⟨r85, hc85, h⟩ := b1_i h
        have hw : (wX5 (a 13) c (X (11 + 2))).map (·.1) = [13].flatMap (uA a) := rfl
        have hPc : va_P D vwCl (wX5 (a 13) c (X (11 + 2))) _ := hP 13 (by decide)
        have hDc : va_D A (wX5 (a 13) c (X (11 + 2))) := hD.of_addr (by decide) (by decide) hw
        refine g_X (X' := X) (st1 := [.int r85]) (gr_V (n := 2) (rest := []) (pc := 85) hx hb hml hown hts (cX5_hasRun_met l D c tb sa sv (a 13) v8_78 (2 : Int32) (X (11 + 2)) _ hc85) gX8_load_X5_hasRun rfl rfl rfl (by decide +kernel) rfl ⟨Nat.le_of_ble_eq_true rfl, Nat.le_of_ble_eq_true rfl⟩ ⟨Nat.zero_le _, Nat.zero_le _⟩ 0 5 rfl rfl rfl xE_ok hPc hDc hK (xE_ok.tr hE hS (g_freeX hD hS hA (by decide) (addr0 hw))) hl.1 (Nat.le_of_ble_eq_true rfl) dX8_load_85 rfl) hP hD hS hA (ks := [13]) (by decide) (addr0 hw) (fun k9 _ hk9 => rfl) (fun H1 hw1 => (List.forall_mem_cons.mpr ⟨hw1, (fun _ h9 => absurd h9 List.not_mem_nil)⟩)) rfl (fun H locs hP hS => ?_)
        refine lv_if_ne (tgt := 94) (pc := 88) hx hb dX8_load_88 (by decide) (fun c88 => ?_) (fun c88 => ?_)
        · replace h := it_f c88 h
          refine lv_aload_n (pc := 94) hx hb dX8_load_94 rfl (lv_at hl 1 rfl) ?_
          refine lv_aload (pc := 95) hx hb dX8_load_95 (lv_at hl 4 rfl) ?_
          refine va_get (D := D) (ci := 5) (v := .ref ((a 13) 1)) (C := RX5) (T := TX5) (N := 3) (pc := 97) hx hb hfX5 (fun _ h9 => h9) hown hK (show va_P D vwCl (wX5 (a 13) c (X (11 + 2))) _ from hP 13 (by decide)) 0 rfl rfl 0 (by decide) lk2 (fun _ h9 => h9) rfl dX8_load_97 ?_
          refine lv_iload (pc := 100) hx hb dX8_load_100 (lv_at hl 0 rfl) ?_
          obtain ⟨hk102, h⟩ := ckI_i h
          refine va_iald (D := D) (f := ((X (11 + 2)).1 0)) (pc := 102) hx hb hK (show va_P D vwCl (wX5 (a 13) c (X (11 + 2))) _ from hP 13 (by decide)) 1 0 rfl rfl hk102 dX8_load_102 ?_
          refine lv_aload (pc := 103) hx hb dX8_load_103 (lv_at hl 4 rfl) ?_
          refine va_get (D := D) (ci := 5) (v := .ref ((a 13) 1)) (C := RX5) (T := TX5) (N := 3) (pc := 105) hx hb hfX5 (fun _ h9 => h9) hown hK (show va_P D vwCl (wX5 (a 13) c (X (11 + 2))) _ from hP 13 (by decide)) 0 rfl rfl 0 (by decide) lk2 (fun _ h9 => h9) rfl dX8_load_105 ?_
          refine lv_iload (pc := 108) hx hb dX8_load_108 (lv_at hl 0 rfl) ?_
          refine lv_iconst (v := 1) (pc := 110) hx hb dX8_load_110 (by decide) ?_
          refine lv_iadd (pc := 111) hx hb dX8_load_111 ?_
          obtain ⟨hk112, h⟩ := ckI_i h
          refine va_iald (D := D) (f := ((X (11 + 2)).1 0)) (pc := 112) hx hb hK (show va_P D vwCl (wX5 (a 13) c (X (11 + 2))) _ from hP 13 (by decide)) 1 0 rfl rfl hk112 dX8_load_112 ?_
          obtain ⟨r113, t0_113, hc113, h⟩ := b2_i h
          refine g_allX (st1 := [.int r113]) (gr_V (n := 2) (rest := []) (pc := 113) hx hb hml hown hts (cX8_addTerm_met l D c tb sa sv a ((((X (11 + 2)).1 0) (v8_78).toNatClampNeg)) ((((X (11 + 2)).1 0) ((v8_78 + (1 : Int32))).toNatClampNeg)) X _ _ hc113) gX8_load_X8_addTerm rfl rfl rfl (by decide +kernel) rfl ⟨Nat.le_of_ble_eq_true rfl, Nat.le_of_ble_eq_true rfl⟩ ⟨Nat.zero_le _, Nat.zero_le _⟩ 0 8 rfl rfl rfl xE_ok (XP_iff.mpr hP) (hD.all c X) hK (xE_ok.tr hE hS (g_free (hD.all c X) hS hA)) hl.1 (Nat.le_of_ble_eq_true rfl) dX8_load_113 rfl) hD hS hA rfl (fun H locs hP hS => ?_)
          refine lv_if_lt (tgt := 122) (pc := 116) hx hb dX8_load_116 (by decide) (fun c116 => ?_) (fun c116 => ?_)
          · replace h := it_t c116 h
            have jr := J122_2 (fX8_load_b65 2 n) K65h x3 x4 x6 x7 t0_113 _ _ ls h hP hS (lv_sub hl [1, 2, 3, 4, 5, 6] rfl)
            exact jr
          · replace h := it_f c116 h
            obtain ⟨v6_119, ev6_119, h⟩ := lt_i h
            refine lv_iinc (v := v6_119) (lv' := [(6, .int v6_119), (8, .int v8_78), (0, .ref (a 0 0)), (3, .int x3), (4, .int x4), (5, .ref ((a 13) 0)), (7, .int x7)]) (pc := 119) hx hb dX8_load_119 hl (k := 5) rfl (by rw [ev6_119]; rfl) (by decide) rfl (fun ls hl => ?_)
            have jr := J122_2 (fX8_load_b65 2 n) K65h x3 x4 v6_119 x7 t0_113 _ _ ls h hP hS (lv_sub hl [2, 3, 4, 5, 0, 6] rfl)
            exact jr
        · replace h := it_t c88 h
          refine lv_bipush (v := -12) (pc := 91) hx hb dX8_load_91 (by decide) ?_
          have kr := KR (-12 : Int32) X _ _ 93 ls h rfl hP hS dX8_load_93
          exact kr
  have J122_3 : ∀ (K65 : Int32 → Int32 → Int32 → Int32 → XS → Option (Int32 × XS)) (K65h : ∀ (x3 : Int32) (x4 : Int32) (x6 : Int32) (x7 : Int32) (X : XS) (H : Heap) (locs : List Loc) (ls : Array Slot), K65 x3 x4 x6 x7 X = some (r0, z0) → XP D a c X H → va_S A s.heap H locs → lv_has ls 9 [(0, .ref (a 0 0)), (3, .int x3), (4, .int x4), (5, .ref ((a 14) 0)), (6, .int x6), (7, .int x7)] → W p l e rmX8_load s m args below meth cd H locs 0 0 Q (F0 m 65 ls [])) (x3 : Int32) (x4 : Int32) (x6 : Int32) (x7 : Int32) (X : XS) (H : Heap) (locs : List Loc) (ls : Array Slot), fX8_load_b122 K65 3 x3 x4 x6 x7 X = some (r0, z0) → XP D a c X H → va_S A s.heap H locs → lv_has ls 9 [(0, .ref (a 0 0)), (3, .int x3), (4, .int x4), (5, .ref ((a 14) 0)), (6, .int x6), (7, .int x7)] → W p l e rmX8_load s m args below meth cd H locs 0 0 Q (F0 m 122 ls []) := by
    intro K65 K65h x3 x4 x6 x7 X H locs ls h hP hS hl
    unfold fX8_load_b122 at h
    obtain ⟨v7_122, ev7_122, h⟩ := lt_i h
    refine lv_iinc (v := v7_122) (lv' := [(7, .int v7_122), (0, .ref (a 0 0)), (3, .int x3), (4, .int x4), (5, .ref ((a 14) 0)), (6, .int x6)]) (pc := 122) hx hb dX8_load_122 hl (k := 5) rfl (by rw [ev7_122]; rfl) (by decide) rfl (fun ls hl => ?_)
    refine lv_goto (tgt := 65) (pc := 125) hx hb dX8_load_125 (by decide) ?_
    have jr := K65h x3 x4 x6 v7_122 X _ _ ls h hP hS (lv_sub hl [1, 2, 3, 4, 5, 0] rfl)
    exact jr
  have J65_3 : ∀ (n : Nat) (x3 : Int32) (x4 : Int32) (x6 : Int32) (x7 : Int32) (X : XS) (H : Heap) (locs : List Loc) (ls : Array Slot), fX8_load_b65 3 n x3 x4 x6 x7 X = some (r0, z0) → XP D a c X H → va_S A s.heap H locs → lv_has ls 9 [(0, .ref (a 0 0)), (3, .int x3), (4, .int x4), (5, .ref ((a 14) 0)), (6, .int x6), (7, .int x7)] → W p l e rmX8_load s m args below meth cd H locs 0 0 Q (F0 m 65 ls []) := by
    intro n
    induction n with
    | zero =>
      intro x3 x4 x6 x7 X H locs ls h _ _ _
      cases (show (none : Option (Int32 × XS)) = some _ from h)
    | succ n K65h =>
      intro x3 x4 x6 x7 X H locs ls h hP hS hl
      rw [fX8_load_b65] at h
      refine lv_iload (pc := 65) hx hb dX8_load_65 (lv_at hl 5 rfl) ?_
      refine lv_iload (pc := 67) hx hb dX8_load_67 (lv_at hl 2 rfl) ?_
      refine lv_icmp_ge (tgt := 128) (pc := 69) hx hb dX8_load_69 (by decide) (fun c69 => ?_) (fun c69 => ?_)
      · replace h := it_t c69 h
        refine lv_iload (pc := 128) hx hb dX8_load_128 (lv_at hl 4 rfl) ?_
        have kr := KR x6 X _ _ 130 ls h rfl hP hS dX8_load_130
        exact kr
      · replace h := it_f c69 h
        refine lv_iload_n (pc := 72) hx hb dX8_load_72 rfl (lv_at hl 1 rfl) ?_
        refine lv_iconst (v := 2) (pc := 73) hx hb dX8_load_73 (by decide) ?_
        refine lv_iload (pc := 74) hx hb dX8_load_74 (lv_at hl 5 rfl) ?_
        refine lv_imul (pc := 76) hx hb dX8_load_76 ?_
        refine lv_iadd (pc := 77) hx hb dX8_load_77 ?_
        refine lv_topi (fun v8_78 ev8_78 => ?_)
        replace h := lt_e ev8_78 h
        refine lv_istore (lv' := [(8, .int v8_78), (0, .ref (a 0 0)), (3, .int x3), (4, .int x4), (5, .ref ((a 14) 0)), (6, .int x6), (7, .int x7)]) (pc := 78) hx hb dX8_load_78 hl (by decide) rfl (fun ls hl => ?_)
        refine lv_aload (pc := 80) hx hb dX8_load_80 (lv_at hl 4 rfl) ?_
        refine lv_iload (pc := 82) hx hb dX8_load_82 (lv_at hl 0 rfl) ?_
        refine lv_iconst (v := 2) (pc := 84) hx hb dX8_load_84 (by decide) ?_
        obtain ⟨r85, hc85, h⟩ := b1_i h
        have hw : (wX5 (a 14) c (X (11 + 3))).map (·.1) = [14].flatMap (uA a) := rfl
        have hPc : va_P D vwCl (wX5 (a 14) c (X (11 + 3))) _ := hP 14 (by decide)
        have hDc : va_D A (wX5 (a 14) c (X (11 + 3))) := hD.of_addr (by decide) (by decide) hw
        refine g_X (X' := X) (st1 := [.int r85]) (gr_V (n := 2) (rest := []) (pc := 85) hx hb hml hown hts (cX5_hasRun_met l D c tb sa sv (a 14) v8_78 (2 : Int32) (X (11 + 3)) _ hc85) gX8_load_X5_hasRun rfl rfl rfl (by decide +kernel) rfl ⟨Nat.le_of_ble_eq_true rfl, Nat.le_of_ble_eq_true rfl⟩ ⟨Nat.zero_le _, Nat.zero_le _⟩ 0 5 rfl rfl rfl xE_ok hPc hDc hK (xE_ok.tr hE hS (g_freeX hD hS hA (by decide) (addr0 hw))) hl.1 (Nat.le_of_ble_eq_true rfl) dX8_load_85 rfl) hP hD hS hA (ks := [14]) (by decide) (addr0 hw) (fun k9 _ hk9 => rfl) (fun H1 hw1 => (List.forall_mem_cons.mpr ⟨hw1, (fun _ h9 => absurd h9 List.not_mem_nil)⟩)) rfl (fun H locs hP hS => ?_)
        refine lv_if_ne (tgt := 94) (pc := 88) hx hb dX8_load_88 (by decide) (fun c88 => ?_) (fun c88 => ?_)
        · replace h := it_f c88 h
          refine lv_aload_n (pc := 94) hx hb dX8_load_94 rfl (lv_at hl 1 rfl) ?_
          refine lv_aload (pc := 95) hx hb dX8_load_95 (lv_at hl 4 rfl) ?_
          refine va_get (D := D) (ci := 5) (v := .ref ((a 14) 1)) (C := RX5) (T := TX5) (N := 3) (pc := 97) hx hb hfX5 (fun _ h9 => h9) hown hK (show va_P D vwCl (wX5 (a 14) c (X (11 + 3))) _ from hP 14 (by decide)) 0 rfl rfl 0 (by decide) lk2 (fun _ h9 => h9) rfl dX8_load_97 ?_
          refine lv_iload (pc := 100) hx hb dX8_load_100 (lv_at hl 0 rfl) ?_
          obtain ⟨hk102, h⟩ := ckI_i h
          refine va_iald (D := D) (f := ((X (11 + 3)).1 0)) (pc := 102) hx hb hK (show va_P D vwCl (wX5 (a 14) c (X (11 + 3))) _ from hP 14 (by decide)) 1 0 rfl rfl hk102 dX8_load_102 ?_
          refine lv_aload (pc := 103) hx hb dX8_load_103 (lv_at hl 4 rfl) ?_
          refine va_get (D := D) (ci := 5) (v := .ref ((a 14) 1)) (C := RX5) (T := TX5) (N := 3) (pc := 105) hx hb hfX5 (fun _ h9 => h9) hown hK (show va_P D vwCl (wX5 (a 14) c (X (11 + 3))) _ from hP 14 (by decide)) 0 rfl rfl 0 (by decide) lk2 (fun _ h9 => h9) rfl dX8_load_105 ?_
          refine lv_iload (pc := 108) hx hb dX8_load_108 (lv_at hl 0 rfl) ?_
          refine lv_iconst (v := 1) (pc := 110) hx hb dX8_load_110 (by decide) ?_
          refine lv_iadd (pc := 111) hx hb dX8_load_111 ?_
          obtain ⟨hk112, h⟩ := ckI_i h
          refine va_iald (D := D) (f := ((X (11 + 3)).1 0)) (pc := 112) hx hb hK (show va_P D vwCl (wX5 (a 14) c (X (11 + 3))) _ from hP 14 (by decide)) 1 0 rfl rfl hk112 dX8_load_112 ?_
          obtain ⟨r113, t0_113, hc113, h⟩ := b2_i h
          refine g_allX (st1 := [.int r113]) (gr_V (n := 2) (rest := []) (pc := 113) hx hb hml hown hts (cX8_addTerm_met l D c tb sa sv a ((((X (11 + 3)).1 0) (v8_78).toNatClampNeg)) ((((X (11 + 3)).1 0) ((v8_78 + (1 : Int32))).toNatClampNeg)) X _ _ hc113) gX8_load_X8_addTerm rfl rfl rfl (by decide +kernel) rfl ⟨Nat.le_of_ble_eq_true rfl, Nat.le_of_ble_eq_true rfl⟩ ⟨Nat.zero_le _, Nat.zero_le _⟩ 0 8 rfl rfl rfl xE_ok (XP_iff.mpr hP) (hD.all c X) hK (xE_ok.tr hE hS (g_free (hD.all c X) hS hA)) hl.1 (Nat.le_of_ble_eq_true rfl) dX8_load_113 rfl) hD hS hA rfl (fun H locs hP hS => ?_)
          refine lv_if_lt (tgt := 122) (pc := 116) hx hb dX8_load_116 (by decide) (fun c116 => ?_) (fun c116 => ?_)
          · replace h := it_t c116 h
            have jr := J122_3 (fX8_load_b65 3 n) K65h x3 x4 x6 x7 t0_113 _ _ ls h hP hS (lv_sub hl [1, 2, 3, 4, 5, 6] rfl)
            exact jr
          · replace h := it_f c116 h
            obtain ⟨v6_119, ev6_119, h⟩ := lt_i h
            refine lv_iinc (v := v6_119) (lv' := [(6, .int v6_119), (8, .int v8_78), (0, .ref (a 0 0)), (3, .int x3), (4, .int x4), (5, .ref ((a 14) 0)), (7, .int x7)]) (pc := 119) hx hb dX8_load_119 hl (k := 5) rfl (by rw [ev6_119]; rfl) (by decide) rfl (fun ls hl => ?_)
            have jr := J122_3 (fX8_load_b65 3 n) K65h x3 x4 v6_119 x7 t0_113 _ _ ls h hP hS (lv_sub hl [2, 3, 4, 5, 0, 6] rfl)
            exact jr
        · replace h := it_t c88 h
          refine lv_bipush (v := -12) (pc := 91) hx hb dX8_load_91 (by decide) ?_
          have kr := KR (-12 : Int32) X _ _ 93 ls h rfl hP hS dX8_load_93
          exact kr
  refine lv_iload_n (pc := 0) hx hb dX8_load_0 rfl (lv_at hl 1 rfl) ?_
  obtain ⟨r1, hc1, h⟩ := b1_i h
  refine g_noneX (st1 := [.int r1]) (gr_S (n := 1) (rest := []) (pc := 1) hx hb hml hown hts (cX8_isSheet_met l D c tb sa sv p0 _ hc1) gX8_load_X8_isSheet rfl rfl rfl (by decide +kernel) rfl ⟨Nat.le_of_ble_eq_true rfl, Nat.le_of_ble_eq_true rfl⟩ ⟨Nat.zero_le _, Nat.zero_le _⟩ xE_ok g_P0 (g_D0 (A := A)) hK (xE_ok.tr hE hS (g_free0 hS hA)) hl.1 (Nat.le_of_ble_eq_true rfl) dX8_load_1 rfl) hP hS hA rfl (fun H locs hP hS => ?_)
  refine lv_if_eq (tgt := 25) (pc := 4) hx hb dX8_load_4 (by decide) (fun c4 => ?_) (fun c4 => ?_)
  · replace h := it_t c4 h
    refine lv_bipush (v := -2) (pc := 25) hx hb dX8_load_25 (by decide) ?_
    have kr := KR (-2 : Int32) X _ _ 27 ls h rfl hP hS dX8_load_27
    exact kr
  · replace h := it_f c4 h
    refine lv_iload_n (pc := 7) hx hb dX8_load_7 rfl (lv_at hl 2 rfl) ?_
    obtain ⟨r8, hc8, h⟩ := b1_i h
    refine g_noneX (st1 := [.int r8]) (gr_S (n := 1) (rest := []) (pc := 8) hx hb hml hown hts (cX8_isSort_met l D c tb sa sv p1 _ hc8) gX8_load_X8_isSort rfl rfl rfl (by decide +kernel) rfl ⟨Nat.le_of_ble_eq_true rfl, Nat.le_of_ble_eq_true rfl⟩ ⟨Nat.zero_le _, Nat.zero_le _⟩ xE_ok g_P0 (g_D0 (A := A)) hK (xE_ok.tr hE hS (g_free0 hS hA)) hl.1 (Nat.le_of_ble_eq_true rfl) dX8_load_8 rfl) hP hS hA rfl (fun H locs hP hS => ?_)
    refine lv_if_eq (tgt := 25) (pc := 11) hx hb dX8_load_11 (by decide) (fun c11 => ?_) (fun c11 => ?_)
    · replace h := it_t c11 h
      refine lv_bipush (v := -2) (pc := 25) hx hb dX8_load_25 (by decide) ?_
      have kr := KR (-2 : Int32) X _ _ 27 ls h rfl hP hS dX8_load_27
      exact kr
    · replace h := it_f c11 h
      refine lv_iload (pc := 14) hx hb dX8_load_14 (lv_at hl 4 rfl) ?_
      refine lv_iconst (v := 0) (pc := 16) hx hb dX8_load_16 (by decide) ?_
      refine lv_bipush (v := 8) (pc := 17) hx hb dX8_load_17 (by decide) ?_
      obtain ⟨r19, hc19, h⟩ := b1_i h
      refine g_noneX (st1 := [.int r19]) (gr_S (n := 3) (rest := []) (pc := 19) hx hb hml hown hts (cX8_isWithin_met l D c tb sa sv p3 (0 : Int32) (8 : Int32) _ hc19) gX8_load_X8_isWithin rfl rfl rfl (by decide +kernel) rfl ⟨Nat.le_of_ble_eq_true rfl, Nat.le_of_ble_eq_true rfl⟩ ⟨Nat.zero_le _, Nat.zero_le _⟩ xE_ok g_P0 (g_D0 (A := A)) hK (xE_ok.tr hE hS (g_free0 hS hA)) hl.1 (Nat.le_of_ble_eq_true rfl) dX8_load_19 rfl) hP hS hA rfl (fun H locs hP hS => ?_)
      refine lv_if_ne (tgt := 28) (pc := 22) hx hb dX8_load_22 (by decide) (fun c22 => ?_) (fun c22 => ?_)
      · replace h := it_f c22 h
        refine lv_aload_n (pc := 28) hx hb dX8_load_28 rfl (lv_at hl 0 rfl) ?_
        refine va_get (D := D) (ci := 8) (v := .ref (a 0 1)) (C := RX8) (T := TX8) (N := 12) (pc := 29) hx hb hfX8 (fun _ h9 => h9) hown hK (show va_P D vwCl (wX8 a c (X 0)) _ from hP 0 (by decide)) 0 rfl rfl 11 (by decide) lk0 (fun _ h9 => h9) rfl dX8_load_29 ?_
        refine lv_iload_n (pc := 32) hx hb dX8_load_32 rfl (lv_at hl 1 rfl) ?_
        obtain ⟨hk33, h⟩ := ckI_i h
        obtain ⟨k33, ek33, h⟩ := lt_i h
        rcases g_four (by rw [ek33]; exact g_inlt hk33 : k33 < 4) with rfl | rfl | rfl | rfl
        · refine g_aald (v := a 11 0) (pc := 33) hx hb hK (show va_P D vwCl (wX8 a c (X 0)) _ from hP 0 (by decide)) 1 3 rfl rfl hk33 ek33 rfl dX8_load_33 ?_
          refine lv_astore (lv' := [(5, .ref ((a 11) 0)), (0, .ref (a 0 0)), (1, .int p0), (2, .int p1), (3, .int p2), (4, .int p3)]) (pc := 34) hx hb dX8_load_34 hl (by decide) rfl (fun ls hl => ?_)
          refine lv_aload (pc := 36) hx hb dX8_load_36 (lv_at hl 0 rfl) ?_
          obtain ⟨r38, hc38, h⟩ := b1_i h
          have hw : (wX5 (a 11) c (X (11 + 0))).map (·.1) = [11].flatMap (uA a) := rfl
          have hPc : va_P D vwCl (wX5 (a 11) c (X (11 + 0))) _ := hP 11 (by decide)
          have hDc : va_D A (wX5 (a 11) c (X (11 + 0))) := hD.of_addr (by decide) (by decide) hw
          refine g_X (X' := X) (st1 := [.int r38]) (gr_V (n := 0) (rest := []) (pc := 38) hx hb hml hown hts (cX5_isMissing_met l D c tb sa sv (a 11) (X (11 + 0)) _ hc38) gX8_load_X5_isMissing rfl rfl rfl (by decide +kernel) rfl ⟨Nat.le_of_ble_eq_true rfl, Nat.le_of_ble_eq_true rfl⟩ ⟨Nat.zero_le _, Nat.zero_le _⟩ 0 5 rfl rfl rfl xE_ok hPc hDc hK (xE_ok.tr hE hS (g_freeX hD hS hA (by decide) (addr0 hw))) hl.1 (Nat.le_of_ble_eq_true rfl) dX8_load_38 rfl) hP hD hS hA (ks := [11]) (by decide) (addr0 hw) (fun k9 _ hk9 => rfl) (fun H1 hw1 => (List.forall_mem_cons.mpr ⟨hw1, (fun _ h9 => absurd h9 List.not_mem_nil)⟩)) rfl (fun H locs hP hS => ?_)
          refine lv_if_eq (tgt := 47) (pc := 41) hx hb dX8_load_41 (by decide) (fun c41 => ?_) (fun c41 => ?_)
          · replace h := it_t c41 h
            refine lv_aload (pc := 47) hx hb dX8_load_47 (lv_at hl 0 rfl) ?_
            refine va_get (D := D) (ci := 5) (v := .int ((X (11 + 0)).1 1 0)) (C := RX5) (T := TX5) (N := 3) (pc := 49) hx hb hfX5 (fun _ h9 => h9) hown hK (show va_P D vwCl (wX5 (a 11) c (X (11 + 0))) _ from hP 11 (by decide)) 0 rfl rfl 1 (by decide) lk1 (fun _ h9 => h9) rfl dX8_load_49 ?_
            refine lv_iload_n (pc := 52) hx hb dX8_load_52 rfl (lv_at hl 3 rfl) ?_
            refine lv_icmp_eq (tgt := 59) (pc := 53) hx hb dX8_load_53 (by decide) (fun c53 => ?_) (fun c53 => ?_)
            · replace h := it_t c53 h
              refine lv_iconst (v := 0) (pc := 59) hx hb dX8_load_59 (by decide) ?_
              refine lv_istore (lv' := [(6, .int (0 : Int32)), (5, .ref ((a 11) 0)), (0, .ref (a 0 0)), (1, .int p0), (2, .int p1), (3, .int p2), (4, .int p3)]) (pc := 60) hx hb dX8_load_60 hl (by decide) rfl (fun ls hl => ?_)
              refine lv_iconst (v := 0) (pc := 62) hx hb dX8_load_62 (by decide) ?_
              refine lv_istore (lv' := [(7, .int (0 : Int32)), (6, .int (0 : Int32)), (5, .ref ((a 11) 0)), (0, .ref (a 0 0)), (1, .int p0), (2, .int p1), (3, .int p2), (4, .int p3)]) (pc := 63) hx hb dX8_load_63 hl (by decide) rfl (fun ls hl => ?_)
              have jr := J65_0 FU p2 p3 (0 : Int32) (0 : Int32) X _ _ ls h hP hS (lv_sub hl [3, 6, 7, 2, 1, 0] rfl)
              exact jr
            · replace h := it_f c53 h
              refine lv_bipush (v := -13) (pc := 56) hx hb dX8_load_56 (by decide) ?_
              have kr := KR (-13 : Int32) X _ _ 58 ls h rfl hP hS dX8_load_58
              exact kr
          · replace h := it_f c41 h
            refine lv_bipush (v := -11) (pc := 44) hx hb dX8_load_44 (by decide) ?_
            have kr := KR (-11 : Int32) X _ _ 46 ls h rfl hP hS dX8_load_46
            exact kr
        · refine g_aald (v := a 12 0) (pc := 33) hx hb hK (show va_P D vwCl (wX8 a c (X 0)) _ from hP 0 (by decide)) 1 3 rfl rfl hk33 ek33 rfl dX8_load_33 ?_
          refine lv_astore (lv' := [(5, .ref ((a 12) 0)), (0, .ref (a 0 0)), (1, .int p0), (2, .int p1), (3, .int p2), (4, .int p3)]) (pc := 34) hx hb dX8_load_34 hl (by decide) rfl (fun ls hl => ?_)
          refine lv_aload (pc := 36) hx hb dX8_load_36 (lv_at hl 0 rfl) ?_
          obtain ⟨r38, hc38, h⟩ := b1_i h
          have hw : (wX5 (a 12) c (X (11 + 1))).map (·.1) = [12].flatMap (uA a) := rfl
          have hPc : va_P D vwCl (wX5 (a 12) c (X (11 + 1))) _ := hP 12 (by decide)
          have hDc : va_D A (wX5 (a 12) c (X (11 + 1))) := hD.of_addr (by decide) (by decide) hw
          refine g_X (X' := X) (st1 := [.int r38]) (gr_V (n := 0) (rest := []) (pc := 38) hx hb hml hown hts (cX5_isMissing_met l D c tb sa sv (a 12) (X (11 + 1)) _ hc38) gX8_load_X5_isMissing rfl rfl rfl (by decide +kernel) rfl ⟨Nat.le_of_ble_eq_true rfl, Nat.le_of_ble_eq_true rfl⟩ ⟨Nat.zero_le _, Nat.zero_le _⟩ 0 5 rfl rfl rfl xE_ok hPc hDc hK (xE_ok.tr hE hS (g_freeX hD hS hA (by decide) (addr0 hw))) hl.1 (Nat.le_of_ble_eq_true rfl) dX8_load_38 rfl) hP hD hS hA (ks := [12]) (by decide) (addr0 hw) (fun k9 _ hk9 => rfl) (fun H1 hw1 => (List.forall_mem_cons.mpr ⟨hw1, (fun _ h9 => absurd h9 List.not_mem_nil)⟩)) rfl (fun H locs hP hS => ?_)
          refine lv_if_eq (tgt := 47) (pc := 41) hx hb dX8_load_41 (by decide) (fun c41 => ?_) (fun c41 => ?_)
          · replace h := it_t c41 h
            refine lv_aload (pc := 47) hx hb dX8_load_47 (lv_at hl 0 rfl) ?_
            refine va_get (D := D) (ci := 5) (v := .int ((X (11 + 1)).1 1 0)) (C := RX5) (T := TX5) (N := 3) (pc := 49) hx hb hfX5 (fun _ h9 => h9) hown hK (show va_P D vwCl (wX5 (a 12) c (X (11 + 1))) _ from hP 12 (by decide)) 0 rfl rfl 1 (by decide) lk1 (fun _ h9 => h9) rfl dX8_load_49 ?_
            refine lv_iload_n (pc := 52) hx hb dX8_load_52 rfl (lv_at hl 3 rfl) ?_
            refine lv_icmp_eq (tgt := 59) (pc := 53) hx hb dX8_load_53 (by decide) (fun c53 => ?_) (fun c53 => ?_)
            · replace h := it_t c53 h
              refine lv_iconst (v := 0) (pc := 59) hx hb dX8_load_59 (by decide) ?_
              refine lv_istore (lv' := [(6, .int (0 : Int32)), (5, .ref ((a 12) 0)), (0, .ref (a 0 0)), (1, .int p0), (2, .int p1), (3, .int p2), (4, .int p3)]) (pc := 60) hx hb dX8_load_60 hl (by decide) rfl (fun ls hl => ?_)
              refine lv_iconst (v := 0) (pc := 62) hx hb dX8_load_62 (by decide) ?_
              refine lv_istore (lv' := [(7, .int (0 : Int32)), (6, .int (0 : Int32)), (5, .ref ((a 12) 0)), (0, .ref (a 0 0)), (1, .int p0), (2, .int p1), (3, .int p2), (4, .int p3)]) (pc := 63) hx hb dX8_load_63 hl (by decide) rfl (fun ls hl => ?_)
              have jr := J65_1 FU p2 p3 (0 : Int32) (0 : Int32) X _ _ ls h hP hS (lv_sub hl [3, 6, 7, 2, 1, 0] rfl)
              exact jr
            · replace h := it_f c53 h
              refine lv_bipush (v := -13) (pc := 56) hx hb dX8_load_56 (by decide) ?_
              have kr := KR (-13 : Int32) X _ _ 58 ls h rfl hP hS dX8_load_58
              exact kr
          · replace h := it_f c41 h
            refine lv_bipush (v := -11) (pc := 44) hx hb dX8_load_44 (by decide) ?_
            have kr := KR (-11 : Int32) X _ _ 46 ls h rfl hP hS dX8_load_46
            exact kr
        · refine g_aald (v := a 13 0) (pc := 33) hx hb hK (show va_P D vwCl (wX8 a c (X 0)) _ from hP 0 (by decide)) 1 3 rfl rfl hk33 ek33 rfl dX8_load_33 ?_
          refine lv_astore (lv' := [(5, .ref ((a 13) 0)), (0, .ref (a 0 0)), (1, .int p0), (2, .int p1), (3, .int p2), (4, .int p3)]) (pc := 34) hx hb dX8_load_34 hl (by decide) rfl (fun ls hl => ?_)
          refine lv_aload (pc := 36) hx hb dX8_load_36 (lv_at hl 0 rfl) ?_
          obtain ⟨r38, hc38, h⟩ := b1_i h
          have hw : (wX5 (a 13) c (X (11 + 2))).map (·.1) = [13].flatMap (uA a) := rfl
          have hPc : va_P D vwCl (wX5 (a 13) c (X (11 + 2))) _ := hP 13 (by decide)
          have hDc : va_D A (wX5 (a 13) c (X (11 + 2))) := hD.of_addr (by decide) (by decide) hw
          refine g_X (X' := X) (st1 := [.int r38]) (gr_V (n := 0) (rest := []) (pc := 38) hx hb hml hown hts (cX5_isMissing_met l D c tb sa sv (a 13) (X (11 + 2)) _ hc38) gX8_load_X5_isMissing rfl rfl rfl (by decide +kernel) rfl ⟨Nat.le_of_ble_eq_true rfl, Nat.le_of_ble_eq_true rfl⟩ ⟨Nat.zero_le _, Nat.zero_le _⟩ 0 5 rfl rfl rfl xE_ok hPc hDc hK (xE_ok.tr hE hS (g_freeX hD hS hA (by decide) (addr0 hw))) hl.1 (Nat.le_of_ble_eq_true rfl) dX8_load_38 rfl) hP hD hS hA (ks := [13]) (by decide) (addr0 hw) (fun k9 _ hk9 => rfl) (fun H1 hw1 => (List.forall_mem_cons.mpr ⟨hw1, (fun _ h9 => absurd h9 List.not_mem_nil)⟩)) rfl (fun H locs hP hS => ?_)
          refine lv_if_eq (tgt := 47) (pc := 41) hx hb dX8_load_41 (by decide) (fun c41 => ?_) (fun c41 => ?_)
          · replace h := it_t c41 h
            refine lv_aload (pc := 47) hx hb dX8_load_47 (lv_at hl 0 rfl) ?_
            refine va_get (D := D) (ci := 5) (v := .int ((X (11 + 2)).1 1 0)) (C := RX5) (T := TX5) (N := 3) (pc := 49) hx hb hfX5 (fun _ h9 => h9) hown hK (show va_P D vwCl (wX5 (a 13) c (X (11 + 2))) _ from hP 13 (by decide)) 0 rfl rfl 1 (by decide) lk1 (fun _ h9 => h9) rfl dX8_load_49 ?_
            refine lv_iload_n (pc := 52) hx hb dX8_load_52 rfl (lv_at hl 3 rfl) ?_
            refine lv_icmp_eq (tgt := 59) (pc := 53) hx hb dX8_load_53 (by decide) (fun c53 => ?_) (fun c53 => ?_)
            · replace h := it_t c53 h
              refine lv_iconst (v := 0) (pc := 59) hx hb dX8_load_59 (by decide) ?_
              refine lv_istore (lv' := [(6, .int (0 : Int32)), (5, .ref ((a 13) 0)), (0, .ref (a 0 0)), (1, .int p0), (2, .int p1), (3, .int p2), (4, .int p3)]) (pc := 60) hx hb dX8_load_60 hl (by decide) rfl (fun ls hl => ?_)
              refine lv_iconst (v := 0) (pc := 62) hx hb dX8_load_62 (by decide) ?_
              refine lv_istore (lv' := [(7, .int (0 : Int32)), (6, .int (0 : Int32)), (5, .ref ((a 13) 0)), (0, .ref (a 0 0)), (1, .int p0), (2, .int p1), (3, .int p2), (4, .int p3)]) (pc := 63) hx hb dX8_load_63 hl (by decide) rfl (fun ls hl => ?_)
              have jr := J65_2 FU p2 p3 (0 : Int32) (0 : Int32) X _ _ ls h hP hS (lv_sub hl [3, 6, 7, 2, 1, 0] rfl)
              exact jr
            · replace h := it_f c53 h
              refine lv_bipush (v := -13) (pc := 56) hx hb dX8_load_56 (by decide) ?_
              have kr := KR (-13 : Int32) X _ _ 58 ls h rfl hP hS dX8_load_58
              exact kr
          · replace h := it_f c41 h
            refine lv_bipush (v := -11) (pc := 44) hx hb dX8_load_44 (by decide) ?_
            have kr := KR (-11 : Int32) X _ _ 46 ls h rfl hP hS dX8_load_46
            exact kr
        · refine g_aald (v := a 14 0) (pc := 33) hx hb hK (show va_P D vwCl (wX8 a c (X 0)) _ from hP 0 (by decide)) 1 3 rfl rfl hk33 ek33 rfl dX8_load_33 ?_
          refine lv_astore (lv' := [(5, .ref ((a 14) 0)), (0, .ref (a 0 0)), (1, .int p0), (2, .int p1), (3, .int p2), (4, .int p3)]) (pc := 34) hx hb dX8_load_34 hl (by decide) rfl (fun ls hl => ?_)
          refine lv_aload (pc := 36) hx hb dX8_load_36 (lv_at hl 0 rfl) ?_
          obtain ⟨r38, hc38, h⟩ := b1_i h
          have hw : (wX5 (a 14) c (X (11 + 3))).map (·.1) = [14].flatMap (uA a) := rfl
          have hPc : va_P D vwCl (wX5 (a 14) c (X (11 + 3))) _ := hP 14 (by decide)
          have hDc : va_D A (wX5 (a 14) c (X (11 + 3))) := hD.of_addr (by decide) (by decide) hw
          refine g_X (X' := X) (st1 := [.int r38]) (gr_V (n := 0) (rest := []) (pc := 38) hx hb hml hown hts (cX5_isMissing_met l D c tb sa sv (a 14) (X (11 + 3)) _ hc38) gX8_load_X5_isMissing rfl rfl rfl (by decide +kernel) rfl ⟨Nat.le_of_ble_eq_true rfl, Nat.le_of_ble_eq_true rfl⟩ ⟨Nat.zero_le _, Nat.zero_le _⟩ 0 5 rfl rfl rfl xE_ok hPc hDc hK (xE_ok.tr hE hS (g_freeX hD hS hA (by decide) (addr0 hw))) hl.1 (Nat.le_of_ble_eq_true rfl) dX8_load_38 rfl) hP hD hS hA (ks := [14]) (by decide) (addr0 hw) (fun k9 _ hk9 => rfl) (fun H1 hw1 => (List.forall_mem_cons.mpr ⟨hw1, (fun _ h9 => absurd h9 List.not_mem_nil)⟩)) rfl (fun H locs hP hS => ?_)
          refine lv_if_eq (tgt := 47) (pc := 41) hx hb dX8_load_41 (by decide) (fun c41 => ?_) (fun c41 => ?_)
          · replace h := it_t c41 h
            refine lv_aload (pc := 47) hx hb dX8_load_47 (lv_at hl 0 rfl) ?_
            refine va_get (D := D) (ci := 5) (v := .int ((X (11 + 3)).1 1 0)) (C := RX5) (T := TX5) (N := 3) (pc := 49) hx hb hfX5 (fun _ h9 => h9) hown hK (show va_P D vwCl (wX5 (a 14) c (X (11 + 3))) _ from hP 14 (by decide)) 0 rfl rfl 1 (by decide) lk1 (fun _ h9 => h9) rfl dX8_load_49 ?_
            refine lv_iload_n (pc := 52) hx hb dX8_load_52 rfl (lv_at hl 3 rfl) ?_
            refine lv_icmp_eq (tgt := 59) (pc := 53) hx hb dX8_load_53 (by decide) (fun c53 => ?_) (fun c53 => ?_)
            · replace h := it_t c53 h
              refine lv_iconst (v := 0) (pc := 59) hx hb dX8_load_59 (by decide) ?_
              refine lv_istore (lv' := [(6, .int (0 : Int32)), (5, .ref ((a 14) 0)), (0, .ref (a 0 0)), (1, .int p0), (2, .int p1), (3, .int p2), (4, .int p3)]) (pc := 60) hx hb dX8_load_60 hl (by decide) rfl (fun ls hl => ?_)
              refine lv_iconst (v := 0) (pc := 62) hx hb dX8_load_62 (by decide) ?_
              refine lv_istore (lv' := [(7, .int (0 : Int32)), (6, .int (0 : Int32)), (5, .ref ((a 14) 0)), (0, .ref (a 0 0)), (1, .int p0), (2, .int p1), (3, .int p2), (4, .int p3)]) (pc := 63) hx hb dX8_load_63 hl (by decide) rfl (fun ls hl => ?_)
              have jr := J65_3 FU p2 p3 (0 : Int32) (0 : Int32) X _ _ ls h hP hS (lv_sub hl [3, 6, 7, 2, 1, 0] rfl)
              exact jr
            · replace h := it_f c53 h
              refine lv_bipush (v := -13) (pc := 56) hx hb dX8_load_56 (by decide) ?_
              have kr := KR (-13 : Int32) X _ _ 58 ls h rfl hP hS dX8_load_58
              exact kr
          · replace h := it_f c41 h
            refine lv_bipush (v := -11) (pc := 44) hx hb dX8_load_44 (by decide) ?_
            have kr := KR (-11 : Int32) X _ _ 46 ls h rfl hP hS dX8_load_46
            exact kr
      · replace h := it_t c22 h
        refine lv_bipush (v := -2) (pc := 25) hx hb dX8_load_25 (by decide) ?_
        have kr := KR (-2 : Int32) X _ _ 27 ls h rfl hP hS dX8_load_27
        exact kr
abbrev rmX9_isIn : Room := { frames := 0, cells := 0, slots := 0, locals := 0 }
set_option maxRecDepth 100000 in
set_option maxHeartbeats 40000000 in
theorem cX9_isIn_met (l : Launch) (D : va_G) (c : Nat → ClassId)  (p0 : Int32) (p1 : Int32) (p2 : Int32) (r0 : Int32) (h : fX9_isIn p0 p1 p2 = some r0) : gM l yX9_isIn wsX9_isIn rmX9_isIn D (gY c) gT [.int p0, .int p1, .int p2] ([]) (some (.int r0)) ([]) := by
  unfold fX9_isIn at h
  refine gM.I (cc := cX9_isIn) (maxL := 3) (by decide) rfl (Nat.le_of_ble_eq_true rfl) ?_
  intro p e s m args below meth cd hx hb hml hown hts A hA ls hl hP hK hD hS hE Q KR0
  have KR : ∀ (v : Int32)  (H : Heap) (locs : List Loc) (pc : Nat) (ls : Array Slot), some v = some r0 → narrow .boolean (.int v) = .int v → va_P D vwCl ([]) H → va_D A ([]) → va_S A s.heap H locs → decode cX9_isIn pc = .ok (.ireturn, 1) → W p l e rmX9_isIn s m args below meth cd H locs 0 0 Q (F0 m pc ls [.int v]) := by
    intro v  H locs pc ls hr hn hP hD hS hd
    cases hr
    exact KR0 _ H locs pc ls rfl hn hP hD hS hd
  have hl : lv_has ls 3 [(0, .int p0), (1, .int p1), (2, .int p2)] := hl
  refine lv_iload_n (pc := 0) hx hb dX9_isIn_0 rfl (lv_at hl 0 rfl) ?_
  refine lv_iload_n (pc := 1) hx hb dX9_isIn_1 rfl (lv_at hl 1 rfl) ?_
  refine lv_icmp_lt (tgt := 14) (pc := 2) hx hb dX9_isIn_2 (by decide) (fun c2 => ?_) (fun c2 => ?_)
  · replace h := it_t c2 h
    refine lv_iconst (v := 0) (pc := 14) hx hb dX9_isIn_14 (by decide) ?_
    have kr := KR (0 : Int32)  _ _ 15 ls h rfl hP hD hS dX9_isIn_15
    exact kr
  · replace h := it_f c2 h
    refine lv_iload_n (pc := 5) hx hb dX9_isIn_5 rfl (lv_at hl 0 rfl) ?_
    refine lv_iload_n (pc := 6) hx hb dX9_isIn_6 rfl (lv_at hl 2 rfl) ?_
    refine lv_icmp_gt (tgt := 14) (pc := 7) hx hb dX9_isIn_7 (by decide) (fun c7 => ?_) (fun c7 => ?_)
    · replace h := it_t c7 h
      refine lv_iconst (v := 0) (pc := 14) hx hb dX9_isIn_14 (by decide) ?_
      have kr := KR (0 : Int32)  _ _ 15 ls h rfl hP hD hS dX9_isIn_15
      exact kr
    · replace h := it_f c7 h
      refine lv_iconst (v := 1) (pc := 10) hx hb dX9_isIn_10 (by decide) ?_
      refine lv_goto (tgt := 15) (pc := 11) hx hb dX9_isIn_11 (by decide) ?_
      have kr := KR (1 : Int32)  _ _ 15 ls h rfl hP hD hS dX9_isIn_15
      exact kr
abbrev rmX9_has : Room := { frames := 0, cells := 0, slots := 0, locals := 0 }
set_option maxRecDepth 100000 in
set_option maxHeartbeats 40000000 in
theorem cX9_has_met (l : Launch) (D : va_G) (c : Nat → ClassId)  (p0 : Int32) (p1 : Int32) (r0 : Int32) (h : fX9_has p0 p1 = some r0) : gM l yX9_has wsX9_has rmX9_has D (gY c) gT [.int p0, .int p1] ([]) (some (.int r0)) ([]) := by
  unfold fX9_has at h
  refine gM.I (cc := cX9_has) (maxL := 2) (by decide) rfl (Nat.le_of_ble_eq_true rfl) ?_
  intro p e s m args below meth cd hx hb hml hown hts A hA ls hl hP hK hD hS hE Q KR0
  have KR : ∀ (v : Int32)  (H : Heap) (locs : List Loc) (pc : Nat) (ls : Array Slot), some v = some r0 → narrow .boolean (.int v) = .int v → va_P D vwCl ([]) H → va_D A ([]) → va_S A s.heap H locs → decode cX9_has pc = .ok (.ireturn, 1) → W p l e rmX9_has s m args below meth cd H locs 0 0 Q (F0 m pc ls [.int v]) := by
    intro v  H locs pc ls hr hn hP hD hS hd
    cases hr
    exact KR0 _ H locs pc ls rfl hn hP hD hS hd
  have hl : lv_has ls 2 [(0, .int p0), (1, .int p1)] := hl
  refine lv_iload_n (pc := 0) hx hb dX9_has_0 rfl (lv_at hl 0 rfl) ?_
  refine lv_iload_n (pc := 1) hx hb dX9_has_1 rfl (lv_at hl 1 rfl) ?_
  refine lv_ishr (pc := 2) hx hb dX9_has_2 ?_
  refine lv_iconst (v := 1) (pc := 3) hx hb dX9_has_3 (by decide) ?_
  refine lv_iand (pc := 4) hx hb dX9_has_4 ?_
  refine lv_iconst (v := 1) (pc := 5) hx hb dX9_has_5 (by decide) ?_
  refine lv_icmp_ne (tgt := 13) (pc := 6) hx hb dX9_has_6 (by decide) (fun c6 => ?_) (fun c6 => ?_)
  · replace h := it_f c6 h
    refine lv_iconst (v := 0) (pc := 13) hx hb dX9_has_13 (by decide) ?_
    have kr := KR (0 : Int32)  _ _ 14 ls h rfl hP hD hS dX9_has_14
    exact kr
  · replace h := it_t c6 h
    refine lv_iconst (v := 1) (pc := 9) hx hb dX9_has_9 (by decide) ?_
    refine lv_goto (tgt := 14) (pc := 10) hx hb dX9_has_10 (by decide) ?_
    have kr := KR (1 : Int32)  _ _ 14 ls h rfl hP hD hS dX9_has_14
    exact kr
abbrev rmX9_bits : Room := { frames := 0, cells := 0, slots := 0, locals := 0 }
set_option maxRecDepth 100000 in
set_option maxHeartbeats 40000000 in
theorem cX9_bits_met (l : Launch) (D : va_G) (c : Nat → ClassId)  (p0 : Int64) (r0 : Int32) (h : fX9_bits p0 = some r0) : gM l yX9_bits wsX9_bits rmX9_bits D (gY c) gT [.long p0] ([]) (some (.int r0)) ([]) := by
  unfold fX9_bits at h
  refine gM.I (cc := cX9_bits) (maxL := 4) (by decide) rfl (Nat.le_of_ble_eq_true rfl) ?_
  intro p e s m args below meth cd hx hb hml hown hts A hA ls hl hP hK hD hS hE Q KR0
  have KR : ∀ (v : Int32)  (H : Heap) (locs : List Loc) (pc : Nat) (ls : Array Slot), some v = some r0 → narrow .int (.int v) = .int v → va_P D vwCl ([]) H → va_D A ([]) → va_S A s.heap H locs → decode cX9_bits pc = .ok (.ireturn, 1) → W p l e rmX9_bits s m args below meth cd H locs 0 0 Q (F0 m pc ls [.int v]) := by
    intro v  H locs pc ls hr hn hP hD hS hd
    cases hr
    exact KR0 _ H locs pc ls rfl hn hP hD hS hd
  have hl : lv_has ls 4 [(0, .long p0)] := hl
  have J4 : ∀ (n : Nat) (x0 : Int64) (x2 : Int32) (x3 : Int32) (H : Heap) (locs : List Loc) (ls : Array Slot), fX9_bits_b4 n x0 x2 x3 = some r0 → va_P D vwCl ([]) H → va_D A ([]) → va_S A s.heap H locs → lv_has ls 4 [(0, .long x0), (2, .int x2), (3, .int x3)] → W p l e rmX9_bits s m args below meth cd H locs 0 0 Q (F0 m 4 ls []) := by
    intro n
    induction n with
    | zero =>
      intro x0 x2 x3 H locs ls h _ _ _ _
      cases (show (none : Option (Int32)) = some _ from h)
    | succ n K4h =>
      intro x0 x2 x3 H locs ls h hP hD hS hl
      rw [fX9_bits_b4] at h
      refine lv_iload_n (pc := 4) hx hb dX9_bits_4 rfl (lv_at hl 2 rfl) ?_
      refine lv_bipush (v := 64) (pc := 5) hx hb dX9_bits_5 (by decide) ?_
      refine lv_icmp_ge (tgt := 25) (pc := 7) hx hb dX9_bits_7 (by decide) (fun c7 => ?_) (fun c7 => ?_)
      · replace h := it_t c7 h
        refine lv_iload_n (pc := 25) hx hb dX9_bits_25 rfl (lv_at hl 1 rfl) ?_
        have kr := KR x2  _ _ 26 ls h rfl hP hD hS dX9_bits_26
        exact kr
      · replace h := it_f c7 h
        refine lv_iload_n (pc := 10) hx hb dX9_bits_10 rfl (lv_at hl 1 rfl) ?_
        refine lv_lload_n (pc := 11) hx hb dX9_bits_11 rfl (lv_at hl 0 rfl) ?_
        refine lv_iload_n (pc := 12) hx hb dX9_bits_12 rfl (lv_at hl 2 rfl) ?_
        refine lv_lshr (v := (jlshr x0 x3)) (pc := 13) hx hb dX9_bits_13 rfl ?_
        refine lv_lconst (v := 1) (pc := 14) hx hb dX9_bits_14 (by decide) ?_
        refine lv_land (pc := 15) hx hb dX9_bits_15 ?_
        refine lv_l2i (v := ((((jlshr x0 x3) &&& (1 : Int64))).toInt32)) (pc := 16) hx hb dX9_bits_16 rfl ?_
        refine lv_iadd (pc := 17) hx hb dX9_bits_17 ?_
        refine lv_topi (fun v2_18 ev2_18 => ?_)
        replace h := lt_e ev2_18 h
        refine lv_istore_n (lv' := [(2, .int v2_18), (0, .long x0), (3, .int x3)]) (pc := 18) hx hb dX9_bits_18 rfl hl (by decide) rfl (fun ls hl => ?_)
        obtain ⟨v3_19, ev3_19, h⟩ := lt_i h
        refine lv_iinc (v := v3_19) (lv' := [(3, .int v3_19), (2, .int v2_18), (0, .long x0)]) (pc := 19) hx hb dX9_bits_19 hl (k := 2) rfl (by rw [ev3_19]; rfl) (by decide) rfl (fun ls hl => ?_)
        refine lv_goto (tgt := 4) (pc := 22) hx hb dX9_bits_22 (by decide) ?_
        have jr := K4h x0 v2_18 v3_19 _ _ ls h hP hD hS (lv_sub hl [2, 1, 0] rfl)
        exact jr
  refine lv_iconst (v := 0) (pc := 0) hx hb dX9_bits_0 (by decide) ?_
  refine lv_istore_n (lv' := [(2, .int (0 : Int32)), (0, .long p0)]) (pc := 1) hx hb dX9_bits_1 rfl hl (by decide) rfl (fun ls hl => ?_)
  refine lv_iconst (v := 0) (pc := 2) hx hb dX9_bits_2 (by decide) ?_
  refine lv_istore_n (lv' := [(3, .int (0 : Int32)), (2, .int (0 : Int32)), (0, .long p0)]) (pc := 3) hx hb dX9_bits_3 rfl hl (by decide) rfl (fun ls hl => ?_)
  have jr := J4 FU p0 (0 : Int32) (0 : Int32) _ _ ls h hP hD hS (lv_sub hl [2, 1, 0] rfl)
  exact jr
abbrev rmX9_copies : Room := { frames := 0, cells := 0, slots := 0, locals := 0 }
set_option maxRecDepth 100000 in
set_option maxHeartbeats 40000000 in
theorem cX9_copies_met (l : Launch) (D : va_G) (c : Nat → ClassId) (a0 : Nat) (a1 : Nat) (s0 : (Nat → Int32)) (s1 : (Nat → Int32)) (z1 : (Nat → Int32)) (h : fX9_copies s0 s1 = some z1) : gM l yX9_copies wsX9_copies rmX9_copies D (gY c) gT [.ref a0, .ref a1] (wRI a0 66 c s0 ++ wRI a1 66 c s1) none (wRI a0 66 c s0 ++ wRI a1 66 c z1) := by
  unfold fX9_copies at h
  refine gM.V (cc := cX9_copies) (maxL := 3) (by decide) rfl (Nat.le_of_ble_eq_true rfl) ?_
  intro p e s m args below meth cd hx hb hml hown hts A hA ls hl hP hK hD hS hE Q KR0
  have KR : ∀ (w1 : (Nat → Int32)) (H : Heap) (locs : List Loc) (pc : Nat) (ls : Array Slot), some w1 = some z1 → va_P D vwCl (wRI a0 66 c s0 ++ wRI a1 66 c w1) H → va_D A (wRI a0 66 c s0 ++ wRI a1 66 c w1) → va_S A s.heap H locs → decode cX9_copies pc = .ok (.return_, 1) → W p l e rmX9_copies s m args below meth cd H locs 0 0 Q (F0 m pc ls []) := by
    intro w1 H locs pc ls hr hP hD hS hd
    cases hr
    exact KR0 H locs pc ls hP hD hS hd
  have hl : lv_has ls 3 [(0, .ref a0), (1, .ref a1)] := hl
  have J2 : ∀ (n : Nat) (x2 : Int32) (s1 : (Nat → Int32)) (H : Heap) (locs : List Loc) (ls : Array Slot), fX9_copies_b2 s0 n x2 s1 = some z1 → va_P D vwCl (wRI a0 66 c s0 ++ wRI a1 66 c s1) H → va_D A (wRI a0 66 c s0 ++ wRI a1 66 c s1) → va_S A s.heap H locs → lv_has ls 3 [(0, .ref a0), (1, .ref a1), (2, .int x2)] → W p l e rmX9_copies s m args below meth cd H locs 0 0 Q (F0 m 2 ls []) := by
    intro n
    induction n with
    | zero =>
      intro x2 s1 H locs ls h _ _ _ _
      cases (show (none : Option ((Nat → Int32))) = some _ from h)
    | succ n K2h =>
      intro x2 s1 H locs ls h hP hD hS hl
      rw [fX9_copies_b2] at h
      refine lv_iload_n (pc := 2) hx hb dX9_copies_2 rfl (lv_at hl 2 rfl) ?_
      refine lv_bipush (v := 66) (pc := 3) hx hb dX9_copies_3 (by decide) ?_
      refine lv_icmp_ge (tgt := 20) (pc := 5) hx hb dX9_copies_5 (by decide) (fun c5 => ?_) (fun c5 => ?_)
      · replace h := it_t c5 h
        have kr := KR s1 _ _ 20 ls h hP hD hS dX9_copies_20
        exact kr
      · replace h := it_f c5 h
        refine lv_aload_n (pc := 8) hx hb dX9_copies_8 rfl (lv_at hl 1 rfl) ?_
        refine lv_iload_n (pc := 9) hx hb dX9_copies_9 rfl (lv_at hl 2 rfl) ?_
        refine lv_aload_n (pc := 10) hx hb dX9_copies_10 rfl (lv_at hl 0 rfl) ?_
        refine lv_iload_n (pc := 11) hx hb dX9_copies_11 rfl (lv_at hl 2 rfl) ?_
        obtain ⟨hk12, h⟩ := ckI_i h
        refine va_iald (D := D) (f := s0) (pc := 12) hx hb hK hP 0 0 rfl rfl hk12 dX9_copies_12 ?_
        obtain ⟨hk13, h⟩ := ckI_i h
        refine va_iast (D := D) (f := s1) (pc := 13) hx hb hK hP hD hS 1 0 rfl rfl hk13 dX9_copies_13 (fun H locs hP hD hS => ?_)
        have hP : va_P D vwCl (wRI a0 66 c s0 ++ wRI a1 66 c (upd s1 (x2).toNatClampNeg (s0 (x2).toNatClampNeg))) H := hP
        have hD : va_D A (wRI a0 66 c s0 ++ wRI a1 66 c (upd s1 (x2).toNatClampNeg (s0 (x2).toNatClampNeg))) := hD
        obtain ⟨v2_14, ev2_14, h⟩ := lt_i h
        refine lv_iinc (v := v2_14) (lv' := [(2, .int v2_14), (0, .ref a0), (1, .ref a1)]) (pc := 14) hx hb dX9_copies_14 hl (k := 2) rfl (by rw [ev2_14]; rfl) (by decide) rfl (fun ls hl => ?_)
        refine lv_goto (tgt := 2) (pc := 17) hx hb dX9_copies_17 (by decide) ?_
        have jr := K2h v2_14 ((upd s1 (x2).toNatClampNeg (s0 (x2).toNatClampNeg))) _ _ ls h hP hD hS (lv_sub hl [1, 2, 0] rfl)
        exact jr
  refine lv_iconst (v := 0) (pc := 0) hx hb dX9_copies_0 (by decide) ?_
  refine lv_istore_n (lv' := [(2, .int (0 : Int32)), (0, .ref a0), (1, .ref a1)]) (pc := 1) hx hb dX9_copies_1 rfl hl (by decide) rfl (fun ls hl => ?_)
  have jr := J2 FU (0 : Int32) s1 _ _ ls h hP hD hS (lv_sub hl [1, 2, 0] rfl)
  exact jr
abbrev rmX9_of : Room := { frames := 0, cells := 0, slots := 0, locals := 0 }
set_option maxRecDepth 100000 in
set_option maxHeartbeats 40000000 in
theorem cX9_of_met (l : Launch) (D : va_G) (c : Nat → ClassId) (a0 : Nat → Nat) (p0 : Int32) (p1 : Int32) (s0 : Mem) (r0 : Int32) (h : fX9_of p0 p1 s0 = some r0) : gM l yX9_of wsX9_of rmX9_of D (gY c) gT [.ref (a0 0), .int p0, .int p1] (wX9 a0 c s0) (some (.int r0)) (wX9 a0 c s0) := by
  unfold fX9_of at h
  refine gM.I (cc := cX9_of) (maxL := 3) (by decide) rfl (Nat.le_of_ble_eq_true rfl) ?_
  intro p e s m args below meth cd hx hb hml hown hts A hA ls hl hP hK hD hS hE Q KR0
  have hfX9 : ∀ w ∈ u_ws RX9 TX9 24, w.before args s = true := fun w hw => hts w (List.mem_cons_of_mem _ (List.mem_append_right _ hw))
  have lk0 := hts (.fieldLink RX9 9 "GlitchNetsModel" "s" "[I") (List.mem_of_getElem? (i := 1) rfl)
  have KR : ∀ (v : Int32)  (H : Heap) (locs : List Loc) (pc : Nat) (ls : Array Slot), some v = some r0 → narrow .int (.int v) = .int v → va_P D vwCl (wX9 a0 c s0) H → va_D A (wX9 a0 c s0) → va_S A s.heap H locs → decode cX9_of pc = .ok (.ireturn, 1) → W p l e rmX9_of s m args below meth cd H locs 0 0 Q (F0 m pc ls [.int v]) := by
    intro v  H locs pc ls hr hn hP hD hS hd
    cases hr
    exact KR0 _ H locs pc ls rfl hn hP hD hS hd
  have hl : lv_has ls 3 [(0, .ref (a0 0)), (1, .int p0), (2, .int p1)] := hl
  refine lv_aload_n (pc := 0) hx hb dX9_of_0 rfl (lv_at hl 0 rfl) ?_
  refine va_get (D := D) (ci := 9) (v := .ref (a0 1)) (C := RX9) (T := TX9) (N := 24) (pc := 1) hx hb hfX9 (fun _ h9 => h9) hown hK hP 0 rfl rfl 0 (by decide) lk0 (fun _ h9 => h9) rfl dX9_of_1 ?_
  refine lv_iconst (v := 2) (pc := 4) hx hb dX9_of_4 (by decide) ?_
  refine lv_iconst (v := 4) (pc := 5) hx hb dX9_of_5 (by decide) ?_
  refine lv_iload_n (pc := 6) hx hb dX9_of_6 rfl (lv_at hl 1 rfl) ?_
  refine lv_imul (pc := 7) hx hb dX9_of_7 ?_
  refine lv_iadd (pc := 8) hx hb dX9_of_8 ?_
  refine lv_iload_n (pc := 9) hx hb dX9_of_9 rfl (lv_at hl 2 rfl) ?_
  refine lv_iadd (pc := 10) hx hb dX9_of_10 ?_
  obtain ⟨hk11, h⟩ := ckI_i h
  refine va_iald (D := D) (f := (s0.1 0)) (pc := 11) hx hb hK hP 1 0 rfl rfl hk11 dX9_of_11 ?_
  have kr := KR ((s0.1 0) ((((2 : Int32) + ((4 : Int32) * p0)) + p1)).toNatClampNeg)  _ _ 12 ls h rfl hP hD hS dX9_of_12
  exact kr
abbrev rmX9_sets : Room := { frames := 1, cells := 0, slots := 0, locals := 22 }
set_option maxRecDepth 100000 in
set_option maxHeartbeats 40000000 in
theorem cX9_sets_met (l : Launch) (D : va_G) (c : Nat → ClassId) (a0 : Nat → Nat) (p0 : Int32) (p1 : Int32) (p2 : Int32) (s0 : Mem) (r0 : Int32) (z0 : Mem) (h : fX9_sets p0 p1 p2 s0 = some (r0, z0)) : gM l yX9_sets wsX9_sets rmX9_sets D (gY c) gT [.ref (a0 0), .int p0, .int p1, .int p2] (wX9 a0 c s0) (some (.int r0)) (wX9 a0 c z0) := by
  unfold fX9_sets at h
  refine gM.I (cc := cX9_sets) (maxL := 5) (by decide) rfl (Nat.le_of_ble_eq_true rfl) ?_
  intro p e s m args below meth cd hx hb hml hown hts A hA ls hl hP hK hD hS hE Q KR0
  have hfX9 : ∀ w ∈ u_ws RX9 TX9 24, w.before args s = true := fun w hw => hts w (List.mem_cons_of_mem _ (List.mem_append_right _ hw))
  have lk0 := hts (.fieldLink RX9 9 "GlitchNetsModel" "s" "[I") (List.mem_of_getElem? (i := 1) rfl)
  have KR : ∀ (v : Int32) (w0 : Mem) (H : Heap) (locs : List Loc) (pc : Nat) (ls : Array Slot), some (v, w0) = some (r0, z0) → narrow .int (.int v) = .int v → va_P D vwCl (wX9 a0 c w0) H → va_D A (wX9 a0 c w0) → va_S A s.heap H locs → decode cX9_sets pc = .ok (.ireturn, 1) → W p l e rmX9_sets s m args below meth cd H locs 0 0 Q (F0 m pc ls [.int v]) := by
    intro v w0 H locs pc ls hr hn hP hD hS hd
    cases hr
    exact KR0 _ H locs pc ls rfl hn hP hD hS hd
  have hl : lv_has ls 5 [(0, .ref (a0 0)), (1, .int p0), (2, .int p1), (3, .int p2)] := hl
  refine lv_aload_n (pc := 0) hx hb dX9_sets_0 rfl (lv_at hl 0 rfl) ?_
  refine lv_iload_n (pc := 1) hx hb dX9_sets_1 rfl (lv_at hl 1 rfl) ?_
  refine lv_iload_n (pc := 2) hx hb dX9_sets_2 rfl (lv_at hl 2 rfl) ?_
  obtain ⟨r3, hc3, h⟩ := b1_i h
  refine g_all (st1 := [.int r3]) (gr_V (n := 2) (rest := []) (pc := 3) hx hb hml hown hts (cX9_of_met l D c a0 p0 p1 s0 _ hc3) gX9_sets_X9_of rfl rfl rfl (by decide +kernel) rfl ⟨Nat.le_of_ble_eq_true rfl, Nat.le_of_ble_eq_true rfl⟩ ⟨Nat.zero_le _, Nat.zero_le _⟩ 0 9 rfl rfl rfl gT_ok hP hD hK (fun _ _ _ => trivial) hl.1 (Nat.le_of_ble_eq_true rfl) dX9_sets_3 rfl) hD hS hA rfl (fun H locs hP hD hS => ?_)
  refine lv_istore (lv' := [(4, .int r3), (0, .ref (a0 0)), (1, .int p0), (2, .int p1), (3, .int p2)]) (pc := 6) hx hb dX9_sets_6 hl (by decide) rfl (fun ls hl => ?_)
  refine lv_aload_n (pc := 8) hx hb dX9_sets_8 rfl (lv_at hl 1 rfl) ?_
  refine va_get (D := D) (ci := 9) (v := .ref (a0 1)) (C := RX9) (T := TX9) (N := 24) (pc := 9) hx hb hfX9 (fun _ h9 => h9) hown hK hP 0 rfl rfl 0 (by decide) lk0 (fun _ h9 => h9) rfl dX9_sets_9 ?_
  refine lv_iconst (v := 2) (pc := 12) hx hb dX9_sets_12 (by decide) ?_
  refine lv_iconst (v := 4) (pc := 13) hx hb dX9_sets_13 (by decide) ?_
  refine lv_iload_n (pc := 14) hx hb dX9_sets_14 rfl (lv_at hl 2 rfl) ?_
  refine lv_imul (pc := 15) hx hb dX9_sets_15 ?_
  refine lv_iadd (pc := 16) hx hb dX9_sets_16 ?_
  refine lv_iload_n (pc := 17) hx hb dX9_sets_17 rfl (lv_at hl 3 rfl) ?_
  refine lv_iadd (pc := 18) hx hb dX9_sets_18 ?_
  refine lv_iload_n (pc := 19) hx hb dX9_sets_19 rfl (lv_at hl 4 rfl) ?_
  obtain ⟨hk20, h⟩ := ckI_i h
  refine va_iast (D := D) (f := (s0.1 0)) (pc := 20) hx hb hK hP hD hS 1 0 rfl rfl hk20 dX9_sets_20 (fun H locs hP hD hS => ?_)
  obtain ⟨m0_20, em0_20, h⟩ := lt_i h
  have hP : va_P D vwCl (wX9 a0 c m0_20) H := by rw [em0_20]; exact hP
  have hD : va_D A (wX9 a0 c m0_20) := by rw [em0_20]; exact hD
  refine lv_iload (pc := 21) hx hb dX9_sets_21 (lv_at hl 0 rfl) ?_
  have kr := KR r3 m0_20 _ _ 23 ls h rfl hP hD hS dX9_sets_23
  exact kr
abbrev rmX9_isGate : Room := { frames := 1, cells := 0, slots := 0, locals := 22 }
set_option maxRecDepth 100000 in
set_option maxHeartbeats 40000000 in
theorem cX9_isGate_met (l : Launch) (D : va_G) (c : Nat → ClassId) (a0 : Nat → Nat) (p0 : Int32) (s0 : Mem) (r0 : Int32) (h : fX9_isGate p0 s0 = some r0) : gM l yX9_isGate wsX9_isGate rmX9_isGate D (gY c) gT [.ref (a0 0), .int p0] (wX9 a0 c s0) (some (.int r0)) (wX9 a0 c s0) := by
  unfold fX9_isGate at h
  refine gM.I (cc := cX9_isGate) (maxL := 2) (by decide) rfl (Nat.le_of_ble_eq_true rfl) ?_
  intro p e s m args below meth cd hx hb hml hown hts A hA ls hl hP hK hD hS hE Q KR0
  have hfX9 : ∀ w ∈ u_ws RX9 TX9 24, w.before args s = true := fun w hw => hts w (List.mem_cons_of_mem _ (List.mem_append_right _ hw))
  have lk0 := hts (.fieldLink RX9 9 "GlitchNetsModel" "s" "[I") (List.mem_of_getElem? (i := 1) rfl)
  have KR : ∀ (v : Int32)  (H : Heap) (locs : List Loc) (pc : Nat) (ls : Array Slot), some v = some r0 → narrow .boolean (.int v) = .int v → va_P D vwCl (wX9 a0 c s0) H → va_D A (wX9 a0 c s0) → va_S A s.heap H locs → decode cX9_isGate pc = .ok (.ireturn, 1) → W p l e rmX9_isGate s m args below meth cd H locs 0 0 Q (F0 m pc ls [.int v]) := by
    intro v  H locs pc ls hr hn hP hD hS hd
    cases hr
    exact KR0 _ H locs pc ls rfl hn hP hD hS hd
  have hl : lv_has ls 2 [(0, .ref (a0 0)), (1, .int p0)] := hl
  refine lv_iload_n (pc := 0) hx hb dX9_isGate_0 rfl (lv_at hl 1 rfl) ?_
  refine lv_iconst (v := 0) (pc := 1) hx hb dX9_isGate_1 (by decide) ?_
  refine lv_aload_n (pc := 2) hx hb dX9_isGate_2 rfl (lv_at hl 0 rfl) ?_
  refine va_get (D := D) (ci := 9) (v := .ref (a0 1)) (C := RX9) (T := TX9) (N := 24) (pc := 3) hx hb hfX9 (fun _ h9 => h9) hown hK hP 0 rfl rfl 0 (by decide) lk0 (fun _ h9 => h9) rfl dX9_isGate_3 ?_
  refine lv_iconst (v := 0) (pc := 6) hx hb dX9_isGate_6 (by decide) ?_
  obtain ⟨hk7, h⟩ := ckI_i h
  refine va_iald (D := D) (f := (s0.1 0)) (pc := 7) hx hb hK hP 1 0 rfl rfl hk7 dX9_isGate_7 ?_
  refine lv_iconst (v := 1) (pc := 8) hx hb dX9_isGate_8 (by decide) ?_
  refine lv_isub (pc := 9) hx hb dX9_isGate_9 ?_
  obtain ⟨r10, hc10, h⟩ := b1_i h
  refine g_none (st1 := [.int r10]) (gr_S (n := 3) (rest := []) (pc := 10) hx hb hml hown hts (cX9_isIn_met l D c p0 (0 : Int32) ((((s0.1 0) ((0 : Int32)).toNatClampNeg) - (1 : Int32))) _ hc10) gX9_isGate_X9_isIn rfl rfl rfl (by decide +kernel) rfl ⟨Nat.le_of_ble_eq_true rfl, Nat.le_of_ble_eq_true rfl⟩ ⟨Nat.zero_le _, Nat.zero_le _⟩ gT_ok g_P0 (g_D0 (A := A)) hK (fun _ _ _ => trivial) hl.1 (Nat.le_of_ble_eq_true rfl) dX9_isGate_10 rfl) hP hS hA rfl (fun H locs hP hS => ?_)
  obtain ⟨hz13, h⟩ := ckZ_i h
  have kr := KR r10  _ _ 13 ls h hz13 hP hD hS dX9_isGate_13
  exact kr
abbrev rmX9_output : Room := { frames := 0, cells := 0, slots := 0, locals := 0 }
set_option maxRecDepth 100000 in
set_option maxHeartbeats 40000000 in
theorem cX9_output_met (l : Launch) (D : va_G) (c : Nat → ClassId) (a0 : Nat → Nat) (s0 : Mem) (r0 : Int32) (h : fX9_output s0 = some r0) : gM l yX9_output wsX9_output rmX9_output D (gY c) gT [.ref (a0 0)] (wX9 a0 c s0) (some (.int r0)) (wX9 a0 c s0) := by
  unfold fX9_output at h
  refine gM.I (cc := cX9_output) (maxL := 1) (by decide) rfl (Nat.le_of_ble_eq_true rfl) ?_
  intro p e s m args below meth cd hx hb hml hown hts A hA ls hl hP hK hD hS hE Q KR0
  have hfX9 : ∀ w ∈ u_ws RX9 TX9 24, w.before args s = true := fun w hw => hts w (List.mem_cons_of_mem _ (List.mem_append_right _ hw))
  have lk0 := hts (.fieldLink RX9 9 "GlitchNetsModel" "s" "[I") (List.mem_of_getElem? (i := 1) rfl)
  have KR : ∀ (v : Int32)  (H : Heap) (locs : List Loc) (pc : Nat) (ls : Array Slot), some v = some r0 → narrow .int (.int v) = .int v → va_P D vwCl (wX9 a0 c s0) H → va_D A (wX9 a0 c s0) → va_S A s.heap H locs → decode cX9_output pc = .ok (.ireturn, 1) → W p l e rmX9_output s m args below meth cd H locs 0 0 Q (F0 m pc ls [.int v]) := by
    intro v  H locs pc ls hr hn hP hD hS hd
    cases hr
    exact KR0 _ H locs pc ls rfl hn hP hD hS hd
  have hl : lv_has ls 1 [(0, .ref (a0 0))] := hl
  refine lv_aload_n (pc := 0) hx hb dX9_output_0 rfl (lv_at hl 0 rfl) ?_
  refine va_get (D := D) (ci := 9) (v := .ref (a0 1)) (C := RX9) (T := TX9) (N := 24) (pc := 1) hx hb hfX9 (fun _ h9 => h9) hown hK hP 0 rfl rfl 0 (by decide) lk0 (fun _ h9 => h9) rfl dX9_output_1 ?_
  refine lv_iconst (v := 0) (pc := 4) hx hb dX9_output_4 (by decide) ?_
  obtain ⟨hk5, h⟩ := ckI_i h
  refine va_iald (D := D) (f := (s0.1 0)) (pc := 5) hx hb hK hP 1 0 rfl rfl hk5 dX9_output_5 ?_
  refine lv_iconst (v := 1) (pc := 6) hx hb dX9_output_6 (by decide) ?_
  refine lv_isub (pc := 7) hx hb dX9_output_7 ?_
  have kr := KR (((s0.1 0) ((0 : Int32)).toNatClampNeg) - (1 : Int32))  _ _ 8 ls h rfl hP hD hS dX9_output_8
  exact kr
abbrev rmX9_isStand : Room := { frames := 1, cells := 0, slots := 0, locals := 22 }
set_option maxRecDepth 100000 in
set_option maxHeartbeats 40000000 in
theorem cX9_isStand_met (l : Launch) (D : va_G) (c : Nat → ClassId)  (p0 : Int32) (r0 : Int32) (h : fX9_isStand p0 = some r0) : gM l yX9_isStand wsX9_isStand rmX9_isStand D (gY c) gT [.int p0] ([]) (some (.int r0)) ([]) := by
  unfold fX9_isStand at h
  refine gM.I (cc := cX9_isStand) (maxL := 1) (by decide) rfl (Nat.le_of_ble_eq_true rfl) ?_
  intro p e s m args below meth cd hx hb hml hown hts A hA ls hl hP hK hD hS hE Q KR0
  have KR : ∀ (v : Int32)  (H : Heap) (locs : List Loc) (pc : Nat) (ls : Array Slot), some v = some r0 → narrow .boolean (.int v) = .int v → va_P D vwCl ([]) H → va_D A ([]) → va_S A s.heap H locs → decode cX9_isStand pc = .ok (.ireturn, 1) → W p l e rmX9_isStand s m args below meth cd H locs 0 0 Q (F0 m pc ls [.int v]) := by
    intro v  H locs pc ls hr hn hP hD hS hd
    cases hr
    exact KR0 _ H locs pc ls rfl hn hP hD hS hd
  have hl : lv_has ls 1 [(0, .int p0)] := hl
  refine lv_iload_n (pc := 0) hx hb dX9_isStand_0 rfl (lv_at hl 0 rfl) ?_
  refine lv_iconst (v := 0) (pc := 1) hx hb dX9_isStand_1 (by decide) ?_
  refine lv_bipush (v := 15) (pc := 2) hx hb dX9_isStand_2 (by decide) ?_
  obtain ⟨r4, hc4, h⟩ := b1_i h
  refine g_none (st1 := [.int r4]) (gr_S (n := 3) (rest := []) (pc := 4) hx hb hml hown hts (cX9_isIn_met l D c p0 (0 : Int32) (15 : Int32) _ hc4) gX9_isStand_X9_isIn rfl rfl rfl (by decide +kernel) rfl ⟨Nat.le_of_ble_eq_true rfl, Nat.le_of_ble_eq_true rfl⟩ ⟨Nat.zero_le _, Nat.zero_le _⟩ gT_ok g_P0 (g_D0 (A := A)) hK (fun _ _ _ => trivial) hl.1 (Nat.le_of_ble_eq_true rfl) dX9_isStand_4 rfl) hP hS hA rfl (fun H locs hP hS => ?_)
  obtain ⟨hz7, h⟩ := ckZ_i h
  have kr := KR r4  _ _ 7 ls h hz7 hP hD hS dX9_isStand_7
  exact kr
abbrev rmX9_does : Room := { frames := 0, cells := 0, slots := 0, locals := 0 }
set_option maxRecDepth 100000 in
set_option maxHeartbeats 40000000 in
theorem cX9_does_met (l : Launch) (D : va_G) (c : Nat → ClassId) (a0 : Nat → Nat) (p0 : Int32) (p1 : Int32) (p2 : Int32) (p3 : Int32) (s0 : Mem) (z0 : Mem) (h : fX9_does p0 p1 p2 p3 s0 = some z0) : gM l yX9_does wsX9_does rmX9_does D (gY c) gT [.ref (a0 0), .int p0, .int p1, .int p2, .int p3] (wX9 a0 c s0) none (wX9 a0 c z0) := by
  unfold fX9_does at h
  refine gM.V (cc := cX9_does) (maxL := 6) (by decide) rfl (Nat.le_of_ble_eq_true rfl) ?_
  intro p e s m args below meth cd hx hb hml hown hts A hA ls hl hP hK hD hS hE Q KR0
  have hfX9 : ∀ w ∈ u_ws RX9 TX9 24, w.before args s = true := fun w hw => hts w (List.mem_cons_of_mem _ (List.mem_append_right _ hw))
  have lk0 := hts (.fieldLink RX9 61 "GlitchNetsModel" "deeds" "I") (List.mem_of_getElem? (i := 1) rfl)
  have lk1 := hts (.fieldLink RX9 16 "GlitchNetsModel" "deed" "[I") (List.mem_of_getElem? (i := 2) rfl)
  have KR : ∀ (w0 : Mem) (H : Heap) (locs : List Loc) (pc : Nat) (ls : Array Slot), some w0 = some z0 → va_P D vwCl (wX9 a0 c w0) H → va_D A (wX9 a0 c w0) → va_S A s.heap H locs → decode cX9_does pc = .ok (.return_, 1) → W p l e rmX9_does s m args below meth cd H locs 0 0 Q (F0 m pc ls []) := by
    intro w0 H locs pc ls hr hP hD hS hd
    cases hr
    exact KR0 H locs pc ls hP hD hS hd
  have hl : lv_has ls 6 [(0, .ref (a0 0)), (1, .int p0), (2, .int p1), (3, .int p2), (4, .int p3)] := hl
  have J51 : ∀ (x1 : Int32) (x2 : Int32) (x3 : Int32) (x4 : Int32) (s0 : Mem) (H : Heap) (locs : List Loc) (ls : Array Slot), fX9_does_b51 x1 x2 x3 x4 s0 = some z0 → va_P D vwCl (wX9 a0 c s0) H → va_D A (wX9 a0 c s0) → va_S A s.heap H locs → lv_has ls 6 [(0, .ref (a0 0)), (1, .int x1), (2, .int x2), (3, .int x3), (4, .int x4)] → W p l e rmX9_does s m args below meth cd H locs 0 0 Q (F0 m 51 ls []) := by
    intro x1 x2 x3 x4 s0 H locs ls h hP hD hS hl
    unfold fX9_does_b51 at h
    refine lv_aload_n (pc := 51) hx hb dX9_does_51 rfl (lv_at hl 0 rfl) ?_
    refine va_get (D := D) (ci := 9) (v := .ref (a0 3)) (C := RX9) (T := TX9) (N := 24) (pc := 52) hx hb hfX9 (fun _ h9 => h9) hown hK hP 0 rfl rfl 3 (by decide) lk1 (fun _ h9 => h9) rfl dX9_does_52 ?_
    refine lv_iconst (v := 4) (pc := 55) hx hb dX9_does_55 (by decide) ?_
    refine lv_aload_n (pc := 56) hx hb dX9_does_56 rfl (lv_at hl 0 rfl) ?_
    refine va_get (D := D) (ci := 9) (v := .int (s0.1 4 0)) (C := RX9) (T := TX9) (N := 24) (pc := 57) hx hb hfX9 (fun _ h9 => h9) hown hK hP 0 rfl rfl 4 (by decide) lk0 (fun _ h9 => h9) rfl dX9_does_57 ?_
    refine lv_imul (pc := 60) hx hb dX9_does_60 ?_
    refine lv_iload_n (pc := 61) hx hb dX9_does_61 rfl (lv_at hl 1 rfl) ?_
    obtain ⟨hk62, h⟩ := ckI_i h
    refine va_iast (D := D) (f := (s0.1 3)) (pc := 62) hx hb hK hP hD hS 3 0 rfl rfl hk62 dX9_does_62 (fun H locs hP hD hS => ?_)
    obtain ⟨m0_62, em0_62, h⟩ := lt_i h
    have hP : va_P D vwCl (wX9 a0 c m0_62) H := by rw [em0_62]; exact hP
    have hD : va_D A (wX9 a0 c m0_62) := by rw [em0_62]; exact hD
    refine lv_aload_n (pc := 63) hx hb dX9_does_63 rfl (lv_at hl 0 rfl) ?_
    refine va_get (D := D) (ci := 9) (v := .ref (a0 3)) (C := RX9) (T := TX9) (N := 24) (pc := 64) hx hb hfX9 (fun _ h9 => h9) hown hK hP 0 rfl rfl 3 (by decide) lk1 (fun _ h9 => h9) rfl dX9_does_64 ?_
    refine lv_iconst (v := 4) (pc := 67) hx hb dX9_does_67 (by decide) ?_
    refine lv_aload_n (pc := 68) hx hb dX9_does_68 rfl (lv_at hl 0 rfl) ?_
    refine va_get (D := D) (ci := 9) (v := .int (m0_62.1 4 0)) (C := RX9) (T := TX9) (N := 24) (pc := 69) hx hb hfX9 (fun _ h9 => h9) hown hK hP 0 rfl rfl 4 (by decide) lk0 (fun _ h9 => h9) rfl dX9_does_69 ?_
    refine lv_imul (pc := 72) hx hb dX9_does_72 ?_
    refine lv_iconst (v := 1) (pc := 73) hx hb dX9_does_73 (by decide) ?_
    refine lv_iadd (pc := 74) hx hb dX9_does_74 ?_
    refine lv_iload_n (pc := 75) hx hb dX9_does_75 rfl (lv_at hl 2 rfl) ?_
    obtain ⟨hk76, h⟩ := ckI_i h
    refine va_iast (D := D) (f := (m0_62.1 3)) (pc := 76) hx hb hK hP hD hS 3 0 rfl rfl hk76 dX9_does_76 (fun H locs hP hD hS => ?_)
    obtain ⟨m0_76, em0_76, h⟩ := lt_i h
    have hP : va_P D vwCl (wX9 a0 c m0_76) H := by rw [em0_76]; exact hP
    have hD : va_D A (wX9 a0 c m0_76) := by rw [em0_76]; exact hD
    refine lv_aload_n (pc := 77) hx hb dX9_does_77 rfl (lv_at hl 0 rfl) ?_
    refine va_get (D := D) (ci := 9) (v := .ref (a0 3)) (C := RX9) (T := TX9) (N := 24) (pc := 78) hx hb hfX9 (fun _ h9 => h9) hown hK hP 0 rfl rfl 3 (by decide) lk1 (fun _ h9 => h9) rfl dX9_does_78 ?_
    refine lv_iconst (v := 4) (pc := 81) hx hb dX9_does_81 (by decide) ?_
    refine lv_aload_n (pc := 82) hx hb dX9_does_82 rfl (lv_at hl 0 rfl) ?_
    refine va_get (D := D) (ci := 9) (v := .int (m0_76.1 4 0)) (C := RX9) (T := TX9) (N := 24) (pc := 83) hx hb hfX9 (fun _ h9 => h9) hown hK hP 0 rfl rfl 4 (by decide) lk0 (fun _ h9 => h9) rfl dX9_does_83 ?_
    refine lv_imul (pc := 86) hx hb dX9_does_86 ?_
    refine lv_iconst (v := 2) (pc := 87) hx hb dX9_does_87 (by decide) ?_
    refine lv_iadd (pc := 88) hx hb dX9_does_88 ?_
    refine lv_iload_n (pc := 89) hx hb dX9_does_89 rfl (lv_at hl 3 rfl) ?_
    obtain ⟨hk90, h⟩ := ckI_i h
    refine va_iast (D := D) (f := (m0_76.1 3)) (pc := 90) hx hb hK hP hD hS 3 0 rfl rfl hk90 dX9_does_90 (fun H locs hP hD hS => ?_)
    obtain ⟨m0_90, em0_90, h⟩ := lt_i h
    have hP : va_P D vwCl (wX9 a0 c m0_90) H := by rw [em0_90]; exact hP
    have hD : va_D A (wX9 a0 c m0_90) := by rw [em0_90]; exact hD
    refine lv_aload_n (pc := 91) hx hb dX9_does_91 rfl (lv_at hl 0 rfl) ?_
    refine va_get (D := D) (ci := 9) (v := .ref (a0 3)) (C := RX9) (T := TX9) (N := 24) (pc := 92) hx hb hfX9 (fun _ h9 => h9) hown hK hP 0 rfl rfl 3 (by decide) lk1 (fun _ h9 => h9) rfl dX9_does_92 ?_
    refine lv_iconst (v := 4) (pc := 95) hx hb dX9_does_95 (by decide) ?_
    refine lv_aload_n (pc := 96) hx hb dX9_does_96 rfl (lv_at hl 0 rfl) ?_
    refine va_get (D := D) (ci := 9) (v := .int (m0_90.1 4 0)) (C := RX9) (T := TX9) (N := 24) (pc := 97) hx hb hfX9 (fun _ h9 => h9) hown hK hP 0 rfl rfl 4 (by decide) lk0 (fun _ h9 => h9) rfl dX9_does_97 ?_
    refine lv_imul (pc := 100) hx hb dX9_does_100 ?_
    refine lv_iconst (v := 3) (pc := 101) hx hb dX9_does_101 (by decide) ?_
    refine lv_iadd (pc := 102) hx hb dX9_does_102 ?_
    refine lv_iload (pc := 103) hx hb dX9_does_103 (lv_at hl 4 rfl) ?_
    obtain ⟨hk105, h⟩ := ckI_i h
    refine va_iast (D := D) (f := (m0_90.1 3)) (pc := 105) hx hb hK hP hD hS 3 0 rfl rfl hk105 dX9_does_105 (fun H locs hP hD hS => ?_)
    obtain ⟨m0_105, em0_105, h⟩ := lt_i h
    have hP : va_P D vwCl (wX9 a0 c m0_105) H := by rw [em0_105]; exact hP
    have hD : va_D A (wX9 a0 c m0_105) := by rw [em0_105]; exact hD
    refine lv_aload_n (pc := 106) hx hb dX9_does_106 rfl (lv_at hl 0 rfl) ?_
    refine lv_dup (pc := 107) hx hb dX9_does_107 rfl ?_
    refine va_get (D := D) (ci := 9) (v := .int (m0_105.1 4 0)) (C := RX9) (T := TX9) (N := 24) (pc := 108) hx hb hfX9 (fun _ h9 => h9) hown hK hP 0 rfl rfl 4 (by decide) lk0 (fun _ h9 => h9) rfl dX9_does_108 ?_
    refine lv_iconst (v := 1) (pc := 111) hx hb dX9_does_111 (by decide) ?_
    refine lv_iadd (pc := 112) hx hb dX9_does_112 ?_
    refine va_put (D := D) (ci := 9) (v := .int ((m0_105.1 4 0) + (1 : Int32))) (ty := .int) (C := RX9) (T := TX9) (N := 24) (pc := 113) hx hb hfX9 (fun _ h9 => h9) tyX9 tyX9_ok nmX9 hown hK hP hD hS 0 rfl rfl 4 (by decide) lk0 (fun _ h9 => h9) rfl (by decide +kernel) rfl rfl (Nat.le_of_ble_eq_true rfl) dX9_does_113 (fun H locs hP hD hS => ?_)
    obtain ⟨m0_113, em0_113, h⟩ := lt_i h
    have hP : va_P D vwCl (wX9 a0 c m0_113) H := by rw [em0_113]; exact hP
    have hD : va_D A (wX9 a0 c m0_113) := by rw [em0_113]; exact hD
    have kr := KR m0_113 _ _ 116 ls h hP hD hS dX9_does_116
    exact kr
  have J12 : ∀ (n : Nat) (x1 : Int32) (x2 : Int32) (x3 : Int32) (x4 : Int32) (x5 : Int32) (s0 : Mem) (H : Heap) (locs : List Loc) (ls : Array Slot), fX9_does_b12 n x1 x2 x3 x4 x5 s0 = some z0 → va_P D vwCl (wX9 a0 c s0) H → va_D A (wX9 a0 c s0) → va_S A s.heap H locs → lv_has ls 6 [(0, .ref (a0 0)), (1, .int x1), (2, .int x2), (3, .int x3), (4, .int x4), (5, .int x5)] → W p l e rmX9_does s m args below meth cd H locs 0 0 Q (F0 m 12 ls []) := by
    intro n
    induction n with
    | zero =>
      intro x1 x2 x3 x4 x5 s0 H locs ls h _ _ _ _
      cases (show (none : Option (Mem)) = some _ from h)
    | succ n K12h =>
      intro x1 x2 x3 x4 x5 s0 H locs ls h hP hD hS hl
      rw [fX9_does_b12] at h
      refine lv_iload (pc := 12) hx hb dX9_does_12 (lv_at hl 5 rfl) ?_
      refine lv_bipush (v := 20) (pc := 14) hx hb dX9_does_14 (by decide) ?_
      refine lv_icmp_ge (tgt := 41) (pc := 16) hx hb dX9_does_16 (by decide) (fun c16 => ?_) (fun c16 => ?_)
      · replace h := it_t c16 h
        refine lv_aload_n (pc := 41) hx hb dX9_does_41 rfl (lv_at hl 0 rfl) ?_
        refine lv_dup (pc := 42) hx hb dX9_does_42 rfl ?_
        refine va_get (D := D) (ci := 9) (v := .int (s0.1 4 0)) (C := RX9) (T := TX9) (N := 24) (pc := 43) hx hb hfX9 (fun _ h9 => h9) hown hK hP 0 rfl rfl 4 (by decide) lk0 (fun _ h9 => h9) rfl dX9_does_43 ?_
        refine lv_iconst (v := 1) (pc := 46) hx hb dX9_does_46 (by decide) ?_
        refine lv_isub (pc := 47) hx hb dX9_does_47 ?_
        refine va_put (D := D) (ci := 9) (v := .int ((s0.1 4 0) - (1 : Int32))) (ty := .int) (C := RX9) (T := TX9) (N := 24) (pc := 48) hx hb hfX9 (fun _ h9 => h9) tyX9 tyX9_ok nmX9 hown hK hP hD hS 0 rfl rfl 4 (by decide) lk0 (fun _ h9 => h9) rfl (by decide +kernel) rfl rfl (Nat.le_of_ble_eq_true rfl) dX9_does_48 (fun H locs hP hD hS => ?_)
        obtain ⟨m0_48, em0_48, h⟩ := lt_i h
        have hP : va_P D vwCl (wX9 a0 c m0_48) H := by rw [em0_48]; exact hP
        have hD : va_D A (wX9 a0 c m0_48) := by rw [em0_48]; exact hD
        have jr := J51 x1 x2 x3 x4 m0_48 _ _ ls h hP hD hS (lv_sub hl [0, 1, 2, 3, 4] rfl)
        exact jr
      · replace h := it_f c16 h
        refine lv_aload_n (pc := 19) hx hb dX9_does_19 rfl (lv_at hl 0 rfl) ?_
        refine va_get (D := D) (ci := 9) (v := .ref (a0 3)) (C := RX9) (T := TX9) (N := 24) (pc := 20) hx hb hfX9 (fun _ h9 => h9) hown hK hP 0 rfl rfl 3 (by decide) lk1 (fun _ h9 => h9) rfl dX9_does_20 ?_
        refine lv_iload (pc := 23) hx hb dX9_does_23 (lv_at hl 5 rfl) ?_
        refine lv_aload_n (pc := 25) hx hb dX9_does_25 rfl (lv_at hl 0 rfl) ?_
        refine va_get (D := D) (ci := 9) (v := .ref (a0 3)) (C := RX9) (T := TX9) (N := 24) (pc := 26) hx hb hfX9 (fun _ h9 => h9) hown hK hP 0 rfl rfl 3 (by decide) lk1 (fun _ h9 => h9) rfl dX9_does_26 ?_
        refine lv_iload (pc := 29) hx hb dX9_does_29 (lv_at hl 5 rfl) ?_
        refine lv_iconst (v := 4) (pc := 31) hx hb dX9_does_31 (by decide) ?_
        refine lv_iadd (pc := 32) hx hb dX9_does_32 ?_
        obtain ⟨hk33, h⟩ := ckI_i h
        refine va_iald (D := D) (f := (s0.1 3)) (pc := 33) hx hb hK hP 3 0 rfl rfl hk33 dX9_does_33 ?_
        obtain ⟨hk34, h⟩ := ckI_i h
        refine va_iast (D := D) (f := (s0.1 3)) (pc := 34) hx hb hK hP hD hS 3 0 rfl rfl hk34 dX9_does_34 (fun H locs hP hD hS => ?_)
        obtain ⟨m0_34, em0_34, h⟩ := lt_i h
        have hP : va_P D vwCl (wX9 a0 c m0_34) H := by rw [em0_34]; exact hP
        have hD : va_D A (wX9 a0 c m0_34) := by rw [em0_34]; exact hD
        obtain ⟨v5_35, ev5_35, h⟩ := lt_i h
        refine lv_iinc (v := v5_35) (lv' := [(5, .int v5_35), (0, .ref (a0 0)), (1, .int x1), (2, .int x2), (3, .int x3), (4, .int x4)]) (pc := 35) hx hb dX9_does_35 hl (k := 5) rfl (by rw [ev5_35]; rfl) (by decide) rfl (fun ls hl => ?_)
        refine lv_goto (tgt := 12) (pc := 38) hx hb dX9_does_38 (by decide) ?_
        have jr := K12h x1 x2 x3 x4 v5_35 m0_34 _ _ ls h hP hD hS (lv_sub hl [1, 2, 3, 4, 5, 0] rfl)
        exact jr
  refine lv_aload_n (pc := 0) hx hb dX9_does_0 rfl (lv_at hl 0 rfl) ?_
  refine va_get (D := D) (ci := 9) (v := .int (s0.1 4 0)) (C := RX9) (T := TX9) (N := 24) (pc := 1) hx hb hfX9 (fun _ h9 => h9) hown hK hP 0 rfl rfl 4 (by decide) lk0 (fun _ h9 => h9) rfl dX9_does_1 ?_
  refine lv_bipush (v := 6) (pc := 4) hx hb dX9_does_4 (by decide) ?_
  refine lv_icmp_ne (tgt := 51) (pc := 6) hx hb dX9_does_6 (by decide) (fun c6 => ?_) (fun c6 => ?_)
  · replace h := it_f c6 h
    have jr := J51 p0 p1 p2 p3 s0 _ _ ls h hP hD hS hl
    exact jr
  · replace h := it_t c6 h
    refine lv_iconst (v := 0) (pc := 9) hx hb dX9_does_9 (by decide) ?_
    refine lv_istore (lv' := [(5, .int (0 : Int32)), (0, .ref (a0 0)), (1, .int p0), (2, .int p1), (3, .int p2), (4, .int p3)]) (pc := 10) hx hb dX9_does_10 hl (by decide) rfl (fun ls hl => ?_)
    have jr := J12 FU p0 p1 p2 p3 (0 : Int32) s0 _ _ ls h hP hD hS (lv_sub hl [1, 2, 3, 4, 5, 0] rfl)
    exact jr
abbrev rmX9_comesTo : Room := { frames := 0, cells := 0, slots := 0, locals := 0 }
set_option maxRecDepth 100000 in
set_option maxHeartbeats 40000000 in
theorem cX9_comesTo_met (l : Launch) (D : va_G) (c : Nat → ClassId) (a0 : Nat → Nat) (p0 : Int32) (p1 : Int32) (p2 : Int32) (s0 : Mem) (z0 : Mem) (h : fX9_comesTo p0 p1 p2 s0 = some z0) : gM l yX9_comesTo wsX9_comesTo rmX9_comesTo D (gY c) gT [.ref (a0 0), .int p0, .int p1, .int p2] (wX9 a0 c s0) none (wX9 a0 c z0) := by
  unfold fX9_comesTo at h
  refine gM.V (cc := cX9_comesTo) (maxL := 5) (by decide) rfl (Nat.le_of_ble_eq_true rfl) ?_
  intro p e s m args below meth cd hx hb hml hown hts A hA ls hl hP hK hD hS hE Q KR0
  have hfX9 : ∀ w ∈ u_ws RX9 TX9 24, w.before args s = true := fun w hw => hts w (List.mem_cons_of_mem _ (List.mem_append_right _ hw))
  have lk0 := hts (.fieldLink RX9 9 "GlitchNetsModel" "s" "[I") (List.mem_of_getElem? (i := 1) rfl)
  have KR : ∀ (w0 : Mem) (H : Heap) (locs : List Loc) (pc : Nat) (ls : Array Slot), some w0 = some z0 → va_P D vwCl (wX9 a0 c w0) H → va_D A (wX9 a0 c w0) → va_S A s.heap H locs → decode cX9_comesTo pc = .ok (.return_, 1) → W p l e rmX9_comesTo s m args below meth cd H locs 0 0 Q (F0 m pc ls []) := by
    intro w0 H locs pc ls hr hP hD hS hd
    cases hr
    exact KR0 H locs pc ls hP hD hS hd
  have hl : lv_has ls 5 [(0, .ref (a0 0)), (1, .int p0), (2, .int p1), (3, .int p2)] := hl
  have J8 : ∀ (n : Nat) (x1 : Int32) (x2 : Int32) (x3 : Int32) (x4 : Int32) (s0 : Mem) (H : Heap) (locs : List Loc) (ls : Array Slot), fX9_comesTo_b8 n x1 x2 x3 x4 s0 = some z0 → va_P D vwCl (wX9 a0 c s0) H → va_D A (wX9 a0 c s0) → va_S A s.heap H locs → lv_has ls 5 [(0, .ref (a0 0)), (1, .int x1), (2, .int x2), (3, .int x3), (4, .int x4)] → W p l e rmX9_comesTo s m args below meth cd H locs 0 0 Q (F0 m 8 ls []) := by
    intro n
    induction n with
    | zero =>
      intro x1 x2 x3 x4 s0 H locs ls h _ _ _ _
      cases (show (none : Option (Mem)) = some _ from h)
    | succ n K8h =>
      intro x1 x2 x3 x4 s0 H locs ls h hP hD hS hl
      rw [fX9_comesTo_b8] at h
      refine lv_iload (pc := 8) hx hb dX9_comesTo_8 (lv_at hl 4 rfl) ?_
      refine lv_iload_n (pc := 10) hx hb dX9_comesTo_10 rfl (lv_at hl 1 rfl) ?_
      refine lv_icmp_le (tgt := 74) (pc := 11) hx hb dX9_comesTo_11 (by decide) (fun c11 => ?_) (fun c11 => ?_)
      · replace h := it_t c11 h
        refine lv_aload_n (pc := 74) hx hb dX9_comesTo_74 rfl (lv_at hl 0 rfl) ?_
        refine va_get (D := D) (ci := 9) (v := .ref (a0 1)) (C := RX9) (T := TX9) (N := 24) (pc := 75) hx hb hfX9 (fun _ h9 => h9) hown hK hP 0 rfl rfl 0 (by decide) lk0 (fun _ h9 => h9) rfl dX9_comesTo_75 ?_
        refine lv_bipush (v := 50) (pc := 78) hx hb dX9_comesTo_78 (by decide) ?_
        refine lv_iconst (v := 2) (pc := 80) hx hb dX9_comesTo_80 (by decide) ?_
        refine lv_iload_n (pc := 81) hx hb dX9_comesTo_81 rfl (lv_at hl 1 rfl) ?_
        refine lv_imul (pc := 82) hx hb dX9_comesTo_82 ?_
        refine lv_iadd (pc := 83) hx hb dX9_comesTo_83 ?_
        refine lv_iload_n (pc := 84) hx hb dX9_comesTo_84 rfl (lv_at hl 2 rfl) ?_
        obtain ⟨hk85, h⟩ := ckI_i h
        refine va_iast (D := D) (f := (s0.1 0)) (pc := 85) hx hb hK hP hD hS 1 0 rfl rfl hk85 dX9_comesTo_85 (fun H locs hP hD hS => ?_)
        obtain ⟨m0_85, em0_85, h⟩ := lt_i h
        have hP : va_P D vwCl (wX9 a0 c m0_85) H := by rw [em0_85]; exact hP
        have hD : va_D A (wX9 a0 c m0_85) := by rw [em0_85]; exact hD
        refine lv_aload_n (pc := 86) hx hb dX9_comesTo_86 rfl (lv_at hl 0 rfl) ?_
        refine va_get (D := D) (ci := 9) (v := .ref (a0 1)) (C := RX9) (T := TX9) (N := 24) (pc := 87) hx hb hfX9 (fun _ h9 => h9) hown hK hP 0 rfl rfl 0 (by decide) lk0 (fun _ h9 => h9) rfl dX9_comesTo_87 ?_
        refine lv_bipush (v := 50) (pc := 90) hx hb dX9_comesTo_90 (by decide) ?_
        refine lv_iconst (v := 2) (pc := 92) hx hb dX9_comesTo_92 (by decide) ?_
        refine lv_iload_n (pc := 93) hx hb dX9_comesTo_93 rfl (lv_at hl 1 rfl) ?_
        refine lv_imul (pc := 94) hx hb dX9_comesTo_94 ?_
        refine lv_iadd (pc := 95) hx hb dX9_comesTo_95 ?_
        refine lv_iconst (v := 1) (pc := 96) hx hb dX9_comesTo_96 (by decide) ?_
        refine lv_iadd (pc := 97) hx hb dX9_comesTo_97 ?_
        refine lv_iload_n (pc := 98) hx hb dX9_comesTo_98 rfl (lv_at hl 3 rfl) ?_
        obtain ⟨hk99, h⟩ := ckI_i h
        refine va_iast (D := D) (f := (m0_85.1 0)) (pc := 99) hx hb hK hP hD hS 1 0 rfl rfl hk99 dX9_comesTo_99 (fun H locs hP hD hS => ?_)
        obtain ⟨m0_99, em0_99, h⟩ := lt_i h
        have hP : va_P D vwCl (wX9 a0 c m0_99) H := by rw [em0_99]; exact hP
        have hD : va_D A (wX9 a0 c m0_99) := by rw [em0_99]; exact hD
        refine lv_aload_n (pc := 100) hx hb dX9_comesTo_100 rfl (lv_at hl 0 rfl) ?_
        refine va_get (D := D) (ci := 9) (v := .ref (a0 1)) (C := RX9) (T := TX9) (N := 24) (pc := 101) hx hb hfX9 (fun _ h9 => h9) hown hK hP 0 rfl rfl 0 (by decide) lk0 (fun _ h9 => h9) rfl dX9_comesTo_101 ?_
        refine lv_iconst (v := 1) (pc := 104) hx hb dX9_comesTo_104 (by decide) ?_
        refine lv_dup2_11 (pc := 105) hx hb dX9_comesTo_105 rfl rfl ?_
        obtain ⟨hk106, h⟩ := ckI_i h
        refine va_iald (D := D) (f := (m0_99.1 0)) (pc := 106) hx hb hK hP 1 0 rfl rfl hk106 dX9_comesTo_106 ?_
        refine lv_iconst (v := 1) (pc := 107) hx hb dX9_comesTo_107 (by decide) ?_
        refine lv_iadd (pc := 108) hx hb dX9_comesTo_108 ?_
        obtain ⟨hk109, h⟩ := ckI_i h
        refine va_iast (D := D) (f := (m0_99.1 0)) (pc := 109) hx hb hK hP hD hS 1 0 rfl rfl hk109 dX9_comesTo_109 (fun H locs hP hD hS => ?_)
        obtain ⟨m0_109, em0_109, h⟩ := lt_i h
        have hP : va_P D vwCl (wX9 a0 c m0_109) H := by rw [em0_109]; exact hP
        have hD : va_D A (wX9 a0 c m0_109) := by rw [em0_109]; exact hD
        have kr := KR m0_109 _ _ 110 ls h hP hD hS dX9_comesTo_110
        exact kr
      · replace h := it_f c11 h
        refine lv_aload_n (pc := 14) hx hb dX9_comesTo_14 rfl (lv_at hl 0 rfl) ?_
        refine va_get (D := D) (ci := 9) (v := .ref (a0 1)) (C := RX9) (T := TX9) (N := 24) (pc := 15) hx hb hfX9 (fun _ h9 => h9) hown hK hP 0 rfl rfl 0 (by decide) lk0 (fun _ h9 => h9) rfl dX9_comesTo_15 ?_
        refine lv_bipush (v := 50) (pc := 18) hx hb dX9_comesTo_18 (by decide) ?_
        refine lv_iconst (v := 2) (pc := 20) hx hb dX9_comesTo_20 (by decide) ?_
        refine lv_iload (pc := 21) hx hb dX9_comesTo_21 (lv_at hl 4 rfl) ?_
        refine lv_imul (pc := 23) hx hb dX9_comesTo_23 ?_
        refine lv_iadd (pc := 24) hx hb dX9_comesTo_24 ?_
        refine lv_aload_n (pc := 25) hx hb dX9_comesTo_25 rfl (lv_at hl 0 rfl) ?_
        refine va_get (D := D) (ci := 9) (v := .ref (a0 1)) (C := RX9) (T := TX9) (N := 24) (pc := 26) hx hb hfX9 (fun _ h9 => h9) hown hK hP 0 rfl rfl 0 (by decide) lk0 (fun _ h9 => h9) rfl dX9_comesTo_26 ?_
        refine lv_bipush (v := 50) (pc := 29) hx hb dX9_comesTo_29 (by decide) ?_
        refine lv_iconst (v := 2) (pc := 31) hx hb dX9_comesTo_31 (by decide) ?_
        refine lv_iload (pc := 32) hx hb dX9_comesTo_32 (lv_at hl 4 rfl) ?_
        refine lv_imul (pc := 34) hx hb dX9_comesTo_34 ?_
        refine lv_iadd (pc := 35) hx hb dX9_comesTo_35 ?_
        refine lv_iconst (v := 2) (pc := 36) hx hb dX9_comesTo_36 (by decide) ?_
        refine lv_isub (pc := 37) hx hb dX9_comesTo_37 ?_
        obtain ⟨hk38, h⟩ := ckI_i h
        refine va_iald (D := D) (f := (s0.1 0)) (pc := 38) hx hb hK hP 1 0 rfl rfl hk38 dX9_comesTo_38 ?_
        obtain ⟨hk39, h⟩ := ckI_i h
        refine va_iast (D := D) (f := (s0.1 0)) (pc := 39) hx hb hK hP hD hS 1 0 rfl rfl hk39 dX9_comesTo_39 (fun H locs hP hD hS => ?_)
        obtain ⟨m0_39, em0_39, h⟩ := lt_i h
        have hP : va_P D vwCl (wX9 a0 c m0_39) H := by rw [em0_39]; exact hP
        have hD : va_D A (wX9 a0 c m0_39) := by rw [em0_39]; exact hD
        refine lv_aload_n (pc := 40) hx hb dX9_comesTo_40 rfl (lv_at hl 0 rfl) ?_
        refine va_get (D := D) (ci := 9) (v := .ref (a0 1)) (C := RX9) (T := TX9) (N := 24) (pc := 41) hx hb hfX9 (fun _ h9 => h9) hown hK hP 0 rfl rfl 0 (by decide) lk0 (fun _ h9 => h9) rfl dX9_comesTo_41 ?_
        refine lv_bipush (v := 50) (pc := 44) hx hb dX9_comesTo_44 (by decide) ?_
        refine lv_iconst (v := 2) (pc := 46) hx hb dX9_comesTo_46 (by decide) ?_
        refine lv_iload (pc := 47) hx hb dX9_comesTo_47 (lv_at hl 4 rfl) ?_
        refine lv_imul (pc := 49) hx hb dX9_comesTo_49 ?_
        refine lv_iadd (pc := 50) hx hb dX9_comesTo_50 ?_
        refine lv_iconst (v := 1) (pc := 51) hx hb dX9_comesTo_51 (by decide) ?_
        refine lv_iadd (pc := 52) hx hb dX9_comesTo_52 ?_
        refine lv_aload_n (pc := 53) hx hb dX9_comesTo_53 rfl (lv_at hl 0 rfl) ?_
        refine va_get (D := D) (ci := 9) (v := .ref (a0 1)) (C := RX9) (T := TX9) (N := 24) (pc := 54) hx hb hfX9 (fun _ h9 => h9) hown hK hP 0 rfl rfl 0 (by decide) lk0 (fun _ h9 => h9) rfl dX9_comesTo_54 ?_
        refine lv_bipush (v := 50) (pc := 57) hx hb dX9_comesTo_57 (by decide) ?_
        refine lv_iconst (v := 2) (pc := 59) hx hb dX9_comesTo_59 (by decide) ?_
        refine lv_iload (pc := 60) hx hb dX9_comesTo_60 (lv_at hl 4 rfl) ?_
        refine lv_imul (pc := 62) hx hb dX9_comesTo_62 ?_
        refine lv_iadd (pc := 63) hx hb dX9_comesTo_63 ?_
        refine lv_iconst (v := 1) (pc := 64) hx hb dX9_comesTo_64 (by decide) ?_
        refine lv_isub (pc := 65) hx hb dX9_comesTo_65 ?_
        obtain ⟨hk66, h⟩ := ckI_i h
        refine va_iald (D := D) (f := (m0_39.1 0)) (pc := 66) hx hb hK hP 1 0 rfl rfl hk66 dX9_comesTo_66 ?_
        obtain ⟨hk67, h⟩ := ckI_i h
        refine va_iast (D := D) (f := (m0_39.1 0)) (pc := 67) hx hb hK hP hD hS 1 0 rfl rfl hk67 dX9_comesTo_67 (fun H locs hP hD hS => ?_)
        obtain ⟨m0_67, em0_67, h⟩ := lt_i h
        have hP : va_P D vwCl (wX9 a0 c m0_67) H := by rw [em0_67]; exact hP
        have hD : va_D A (wX9 a0 c m0_67) := by rw [em0_67]; exact hD
        obtain ⟨v4_68, ev4_68, h⟩ := lt_i h
        refine lv_iinc (v := v4_68) (lv' := [(4, .int v4_68), (0, .ref (a0 0)), (1, .int x1), (2, .int x2), (3, .int x3)]) (pc := 68) hx hb dX9_comesTo_68 hl (k := 4) rfl (by rw [ev4_68]; rfl) (by decide) rfl (fun ls hl => ?_)
        refine lv_goto (tgt := 8) (pc := 71) hx hb dX9_comesTo_71 (by decide) ?_
        have jr := K8h x1 x2 x3 v4_68 m0_67 _ _ ls h hP hD hS (lv_sub hl [1, 2, 3, 4, 0] rfl)
        exact jr
  refine lv_aload_n (pc := 0) hx hb dX9_comesTo_0 rfl (lv_at hl 0 rfl) ?_
  refine va_get (D := D) (ci := 9) (v := .ref (a0 1)) (C := RX9) (T := TX9) (N := 24) (pc := 1) hx hb hfX9 (fun _ h9 => h9) hown hK hP 0 rfl rfl 0 (by decide) lk0 (fun _ h9 => h9) rfl dX9_comesTo_1 ?_
  refine lv_iconst (v := 1) (pc := 4) hx hb dX9_comesTo_4 (by decide) ?_
  obtain ⟨hk5, h⟩ := ckI_i h
  refine va_iald (D := D) (f := (s0.1 0)) (pc := 5) hx hb hK hP 1 0 rfl rfl hk5 dX9_comesTo_5 ?_
  refine lv_topi (fun v4_6 ev4_6 => ?_)
  replace h := lt_e ev4_6 h
  refine lv_istore (lv' := [(4, .int v4_6), (0, .ref (a0 0)), (1, .int p0), (2, .int p1), (3, .int p2)]) (pc := 6) hx hb dX9_comesTo_6 hl (by decide) rfl (fun ls hl => ?_)
  have jr := J8 FU p0 p1 p2 v4_6 s0 _ _ ls h hP hD hS (lv_sub hl [1, 2, 3, 4, 0] rfl)
  exact jr
