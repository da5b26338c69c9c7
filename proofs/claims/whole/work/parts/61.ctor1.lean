/-! the constructors: printed by ctor.py -/
abbrev rmX6_init : Room := { frames := 1, cells := 1, slots := 30, locals := 12 }
set_option maxRecDepth 100000 in
set_option maxHeartbeats 40000000 in
theorem nX6_init (l : Launch) (D : va_G) (c : Nat → ClassId) (tb : Nat) (sa sv : Nat → Nat) (h0 : Nat) : gN l yX6_init wsX6_init rmX6_init D (gY c) (xE tb sa sv) h0 [(h0, .inr (6, [.null, .int 0]))] (fun a => wX6 a c zX6) (fun a : Nat → Nat => a 0) 1 30 := by
  refine gN.start (cc := cX6_init) (maxL := 1) (by decide) rfl (by decide) rfl ?_
  intro p e s m args below meth cd hx hb hml hown hts hin A hA ls hl hP hK hD hS hE Q KR
  have hfX6 : ∀ w ∈ u_ws RX6 TX6 2, w.before args s = true := fun w hw => hts w (List.mem_cons_of_mem _ (List.mem_append_right _ hw))
  have lk0 := hts (.methodLink RX6 1 objectInit) (List.mem_of_getElem? (i := 1) rfl)
  have lk1 := hts (.instanceMethod objectInit) (List.mem_of_getElem? (i := 2) rfl)
  have lk2 := hts (.code objectInit ⟨#[0xb1]⟩ 1 none) (List.mem_of_getElem? (i := 3) rfl)
  have lk3 := hts (.arrayClass .int) (List.mem_of_getElem? (i := 4) rfl)
  have lk4 := hts (.fieldLink RX6 9 "GlitchNets$Tape" "bytes" "[I") (List.mem_of_getElem? (i := 5) rfl)
  refine lv_aload_n hx hb dX6_init_0 rfl (lv_at hl 0 rfl) ?_
  refine W.objInit hx hb hown lk0 lk1 lk2 rfl (by rw [hml]; exact hl.1) rfl dX6_init_1 (Nat.le_of_ble_eq_true rfl) (Nat.le_of_ble_eq_true rfl) ?_
  refine W.eq (g2 := F0 m 4 ls []) rfl ?_
  refine lv_aload_n hx hb dX6_init_4 rfl (lv_at hl 0 rfl) ?_
  refine lv_bipush (v := 30) hx hb dX6_init_5 (by decide) ?_
  refine g_newa (atype := .int) (ty := .int) (a0 := (30, .inl (fun _ => 0))) hx hb lk3 rfl hK hP hD hS hA 0 rfl (fun _ h => by cases h) (fun _ => rfl) (by decide) (by decide) (by decide) (Nat.le_of_ble_eq_true rfl) (Nat.le_of_ble_eq_true rfl) dX6_init_7 (fun q7_5 H hP hD hS => ?_)
  have hP : va_P D vwCl ([(h0, .inr (6, [.null, .int 0]))] ++ [(q7_5, .inl (c 0, 30, .inl (fun _ => 0)))]) H := hP
  have hD : va_D A ([(h0, .inr (6, [.null, .int 0]))] ++ [(q7_5, .inl (c 0, 30, .inl (fun _ => 0)))]) := hD
  refine va_putF (D := D) (ci := 6) (v := .ref q7_5) (ty := (.array .int)) (C := RX6) (T := TX6) (N := 2) hx hb hfX6 (fun _ h9 => h9) tyX6 tyX6_ok nmX6 hown hK hP hD hS 0 rfl rfl 0 (by decide) lk4 (fun _ h9 => h9) rfl hin rfl (by decide +kernel) rfl rfl (Nat.le_of_ble_eq_true rfl) dX6_init_9 (fun H locs hP hD hS => ?_)
  have hP : va_P D vwCl ([(h0, .inr (6, [.ref q7_5, .int 0]))] ++ [(q7_5, .inl (c 0, 30, .inl (fun _ => 0)))]) H := hP
  have hD : va_D A ([(h0, .inr (6, [.ref q7_5, .int 0]))] ++ [(q7_5, .inl (c 0, 30, .inl (fun _ => 0)))]) := hD
  have hP9 : va_P D vwCl (wX6 (fun i => [h0, q7_5].getD i 0) c zX6) H := g_cutP hP [0, 1] rfl
  have hD9 : va_D A (wX6 (fun i => [h0, q7_5].getD i 0) c zX6) := hD.sub [0, 1] (by decide) rfl
  refine W.widen (k := 1) (n := 30) (Nat.le_of_ble_eq_true rfl) (Nat.le_of_ble_eq_true rfl) ?_
  exact KR (fun i => [h0, q7_5].getD i 0) H _ 12 ls rfl hP9 hD9 hS dX6_init_12
abbrev rmX2_init : Room := { frames := 1, cells := 0, slots := 0, locals := 12 }
set_option maxRecDepth 100000 in
set_option maxHeartbeats 40000000 in
theorem nX2_init (l : Launch) (D : va_G) (c : Nat → ClassId) (tb : Nat) (sa sv : Nat → Nat) (h0 : Nat) : gN l yX2_init wsX2_init rmX2_init D (gY c) (xE tb sa sv) h0 [(h0, .inr (2, [.int 0, .int 0, .int 0, .int 0, .int 0, .int 0]))] (fun a => wX2 a c zX2) (fun a : Nat → Nat => a 0) 0 0 := by
  refine gN.start (cc := cX2_init) (maxL := 1) (by decide) rfl (by decide) rfl ?_
  intro p e s m args below meth cd hx hb hml hown hts hin A hA ls hl hP hK hD hS hE Q KR
  have lk0 := hts (.methodLink RX2 3 objectInit) (List.mem_of_getElem? (i := 1) rfl)
  have lk1 := hts (.instanceMethod objectInit) (List.mem_of_getElem? (i := 2) rfl)
  have lk2 := hts (.code objectInit ⟨#[0xb1]⟩ 1 none) (List.mem_of_getElem? (i := 3) rfl)
  refine lv_aload_n hx hb dX2_init_0 rfl (lv_at hl 0 rfl) ?_
  refine W.objInit hx hb hown lk0 lk1 lk2 rfl (by rw [hml]; exact hl.1) rfl dX2_init_1 (Nat.le_of_ble_eq_true rfl) (Nat.le_of_ble_eq_true rfl) ?_
  refine W.eq (g2 := F0 m 4 ls []) rfl ?_
  have hP9 : va_P D vwCl (wX2 (fun i => [h0].getD i 0) c zX2) s.heap := g_cutP hP [0] rfl
  have hD9 : va_D A (wX2 (fun i => [h0].getD i 0) c zX2) := hD.sub [0] (by decide) rfl
  refine W.widen (k := 0) (n := 0) (Nat.le_of_ble_eq_true rfl) (Nat.le_of_ble_eq_true rfl) ?_
  exact KR (fun i => [h0].getD i 0) s.heap _ 4 ls rfl hP9 hD9 hS dX2_init_4
abbrev rmX3_init : Room := { frames := 1, cells := 6, slots := 80, locals := 12 }
set_option maxRecDepth 100000 in
set_option maxHeartbeats 40000000 in
theorem nX3_init (l : Launch) (D : va_G) (c : Nat → ClassId) (tb : Nat) (sa sv : Nat → Nat) (h0 : Nat) : gN l yX3_init wsX3_init rmX3_init D (gY c) (xE tb sa sv) h0 [(h0, .inr (3, [.null, .null, .null, .null, .int 0, .null, .null]))] (fun a => wX3 a c zX3) (fun a : Nat → Nat => a 0) 6 80 := by
  refine gN.start (cc := cX3_init) (maxL := 2) (by decide) rfl (by decide) rfl ?_
  intro p e s m args below meth cd hx hb hml hown hts hin A hA ls hl hP hK hD hS hE Q KR
  have hfX3 : ∀ w ∈ u_ws RX3 TX3 7, w.before args s = true := fun w hw => hts w (List.mem_cons_of_mem _ (List.mem_append_right _ hw))
  have lk0 := hts (.methodLink RX3 5 objectInit) (List.mem_of_getElem? (i := 1) rfl)
  have lk1 := hts (.instanceMethod objectInit) (List.mem_of_getElem? (i := 2) rfl)
  have lk2 := hts (.code objectInit ⟨#[0xb1]⟩ 1 none) (List.mem_of_getElem? (i := 3) rfl)
  have lk3 := hts (.arrayClass .int) (List.mem_of_getElem? (i := 4) rfl)
  have lk4 := hts (.fieldLink RX3 11 "GlitchNets$Net" "kinds" "[I") (List.mem_of_getElem? (i := 5) rfl)
  have lk5 := hts (.fieldLink RX3 15 "GlitchNets$Net" "firsts" "[I") (List.mem_of_getElem? (i := 6) rfl)
  have lk6 := hts (.fieldLink RX3 18 "GlitchNets$Net" "seconds" "[I") (List.mem_of_getElem? (i := 7) rfl)
  have lk7 := hts (.fieldLink RX3 21 "GlitchNets$Net" "delays" "[I") (List.mem_of_getElem? (i := 8) rfl)
  have lk8 := hts (.fieldLink RX3 24 "GlitchNets$Net" "tables" "[I") (List.mem_of_getElem? (i := 9) rfl)
  have lk9 := hts (.fieldLink RX3 27 "GlitchNets$Net" "paths" "[I") (List.mem_of_getElem? (i := 10) rfl)
  refine lv_aload_n hx hb dX3_init_0 rfl (lv_at hl 0 rfl) ?_
  refine W.objInit hx hb hown lk0 lk1 lk2 rfl (by rw [hml]; exact hl.1) rfl dX3_init_1 (Nat.le_of_ble_eq_true rfl) (Nat.le_of_ble_eq_true rfl) ?_
  refine W.eq (g2 := F0 m 4 ls []) rfl ?_
  refine lv_aload_n hx hb dX3_init_4 rfl (lv_at hl 0 rfl) ?_
  refine lv_bipush (v := 12) hx hb dX3_init_5 (by decide) ?_
  refine g_newa (atype := .int) (ty := .int) (a0 := (12, .inl (fun _ => 0))) hx hb lk3 rfl hK hP hD hS hA 0 rfl (fun _ h => by cases h) (fun _ => rfl) (by decide) (by decide) (by decide) (Nat.le_of_ble_eq_true rfl) (Nat.le_of_ble_eq_true rfl) dX3_init_7 (fun q7_5 H hP hD hS => ?_)
  have hP : va_P D vwCl ([(h0, .inr (3, [.null, .null, .null, .null, .int 0, .null, .null]))] ++ [(q7_5, .inl (c 0, 12, .inl (fun _ => 0)))]) H := hP
  have hD : va_D A ([(h0, .inr (3, [.null, .null, .null, .null, .int 0, .null, .null]))] ++ [(q7_5, .inl (c 0, 12, .inl (fun _ => 0)))]) := hD
  refine va_putF (D := D) (ci := 3) (v := .ref q7_5) (ty := (.array .int)) (C := RX3) (T := TX3) (N := 7) hx hb hfX3 (fun _ h9 => h9) tyX3 tyX3_ok nmX3 hown hK hP hD hS 0 rfl rfl 0 (by decide) lk4 (fun _ h9 => h9) rfl hin rfl (by decide +kernel) rfl rfl (Nat.le_of_ble_eq_true rfl) dX3_init_9 (fun H locs hP hD hS => ?_)
  have hP : va_P D vwCl ([(h0, .inr (3, [.ref q7_5, .null, .null, .null, .int 0, .null, .null]))] ++ [(q7_5, .inl (c 0, 12, .inl (fun _ => 0)))]) H := hP
  have hD : va_D A ([(h0, .inr (3, [.ref q7_5, .null, .null, .null, .int 0, .null, .null]))] ++ [(q7_5, .inl (c 0, 12, .inl (fun _ => 0)))]) := hD
  refine lv_aload_n hx hb dX3_init_12 rfl (lv_at hl 0 rfl) ?_
  refine lv_bipush (v := 12) hx hb dX3_init_13 (by decide) ?_
  refine g_newa (atype := .int) (ty := .int) (a0 := (12, .inl (fun _ => 0))) hx hb lk3 rfl hK hP hD hS hA 0 rfl (fun _ h => by cases h) (fun _ => rfl) (by decide) (by decide) (by decide) (Nat.le_of_ble_eq_true rfl) (Nat.le_of_ble_eq_true rfl) dX3_init_15 (fun q15_9 H hP hD hS => ?_)
  have hP : va_P D vwCl ([(h0, .inr (3, [.ref q7_5, .null, .null, .null, .int 0, .null, .null]))] ++ [(q7_5, .inl (c 0, 12, .inl (fun _ => 0)))] ++ [(q15_9, .inl (c 0, 12, .inl (fun _ => 0)))]) H := hP
  have hD : va_D A ([(h0, .inr (3, [.ref q7_5, .null, .null, .null, .int 0, .null, .null]))] ++ [(q7_5, .inl (c 0, 12, .inl (fun _ => 0)))] ++ [(q15_9, .inl (c 0, 12, .inl (fun _ => 0)))]) := hD
  refine va_putF (D := D) (ci := 3) (v := .ref q15_9) (ty := (.array .int)) (C := RX3) (T := TX3) (N := 7) hx hb hfX3 (fun _ h9 => h9) tyX3 tyX3_ok nmX3 hown hK hP hD hS 0 rfl rfl 1 (by decide) lk5 (fun _ h9 => h9) rfl hin rfl (by decide +kernel) rfl rfl (Nat.le_of_ble_eq_true rfl) dX3_init_17 (fun H locs hP hD hS => ?_)
  have hP : va_P D vwCl ([(h0, .inr (3, [.ref q7_5, .ref q15_9, .null, .null, .int 0, .null, .null]))] ++ [(q7_5, .inl (c 0, 12, .inl (fun _ => 0)))] ++ [(q15_9, .inl (c 0, 12, .inl (fun _ => 0)))]) H := hP
  have hD : va_D A ([(h0, .inr (3, [.ref q7_5, .ref q15_9, .null, .null, .int 0, .null, .null]))] ++ [(q7_5, .inl (c 0, 12, .inl (fun _ => 0)))] ++ [(q15_9, .inl (c 0, 12, .inl (fun _ => 0)))]) := hD
  refine lv_aload_n hx hb dX3_init_20 rfl (lv_at hl 0 rfl) ?_
  refine lv_bipush (v := 12) hx hb dX3_init_21 (by decide) ?_
  refine g_newa (atype := .int) (ty := .int) (a0 := (12, .inl (fun _ => 0))) hx hb lk3 rfl hK hP hD hS hA 0 rfl (fun _ h => by cases h) (fun _ => rfl) (by decide) (by decide) (by decide) (Nat.le_of_ble_eq_true rfl) (Nat.le_of_ble_eq_true rfl) dX3_init_23 (fun q23_13 H hP hD hS => ?_)
  have hP : va_P D vwCl ([(h0, .inr (3, [.ref q7_5, .ref q15_9, .null, .null, .int 0, .null, .null]))] ++ [(q7_5, .inl (c 0, 12, .inl (fun _ => 0)))] ++ [(q15_9, .inl (c 0, 12, .inl (fun _ => 0)))] ++ [(q23_13, .inl (c 0, 12, .inl (fun _ => 0)))]) H := hP
  have hD : va_D A ([(h0, .inr (3, [.ref q7_5, .ref q15_9, .null, .null, .int 0, .null, .null]))] ++ [(q7_5, .inl (c 0, 12, .inl (fun _ => 0)))] ++ [(q15_9, .inl (c 0, 12, .inl (fun _ => 0)))] ++ [(q23_13, .inl (c 0, 12, .inl (fun _ => 0)))]) := hD
  refine va_putF (D := D) (ci := 3) (v := .ref q23_13) (ty := (.array .int)) (C := RX3) (T := TX3) (N := 7) hx hb hfX3 (fun _ h9 => h9) tyX3 tyX3_ok nmX3 hown hK hP hD hS 0 rfl rfl 2 (by decide) lk6 (fun _ h9 => h9) rfl hin rfl (by decide +kernel) rfl rfl (Nat.le_of_ble_eq_true rfl) dX3_init_25 (fun H locs hP hD hS => ?_)
  have hP : va_P D vwCl ([(h0, .inr (3, [.ref q7_5, .ref q15_9, .ref q23_13, .null, .int 0, .null, .null]))] ++ [(q7_5, .inl (c 0, 12, .inl (fun _ => 0)))] ++ [(q15_9, .inl (c 0, 12, .inl (fun _ => 0)))] ++ [(q23_13, .inl (c 0, 12, .inl (fun _ => 0)))]) H := hP
  have hD : va_D A ([(h0, .inr (3, [.ref q7_5, .ref q15_9, .ref q23_13, .null, .int 0, .null, .null]))] ++ [(q7_5, .inl (c 0, 12, .inl (fun _ => 0)))] ++ [(q15_9, .inl (c 0, 12, .inl (fun _ => 0)))] ++ [(q23_13, .inl (c 0, 12, .inl (fun _ => 0)))]) := hD
  refine lv_aload_n hx hb dX3_init_28 rfl (lv_at hl 0 rfl) ?_
  refine lv_bipush (v := 12) hx hb dX3_init_29 (by decide) ?_
  refine g_newa (atype := .int) (ty := .int) (a0 := (12, .inl (fun _ => 0))) hx hb lk3 rfl hK hP hD hS hA 0 rfl (fun _ h => by cases h) (fun _ => rfl) (by decide) (by decide) (by decide) (Nat.le_of_ble_eq_true rfl) (Nat.le_of_ble_eq_true rfl) dX3_init_31 (fun q31_17 H hP hD hS => ?_)
  have hP : va_P D vwCl ([(h0, .inr (3, [.ref q7_5, .ref q15_9, .ref q23_13, .null, .int 0, .null, .null]))] ++ [(q7_5, .inl (c 0, 12, .inl (fun _ => 0)))] ++ [(q15_9, .inl (c 0, 12, .inl (fun _ => 0)))] ++ [(q23_13, .inl (c 0, 12, .inl (fun _ => 0)))] ++ [(q31_17, .inl (c 0, 12, .inl (fun _ => 0)))]) H := hP
  have hD : va_D A ([(h0, .inr (3, [.ref q7_5, .ref q15_9, .ref q23_13, .null, .int 0, .null, .null]))] ++ [(q7_5, .inl (c 0, 12, .inl (fun _ => 0)))] ++ [(q15_9, .inl (c 0, 12, .inl (fun _ => 0)))] ++ [(q23_13, .inl (c 0, 12, .inl (fun _ => 0)))] ++ [(q31_17, .inl (c 0, 12, .inl (fun _ => 0)))]) := hD
  refine va_putF (D := D) (ci := 3) (v := .ref q31_17) (ty := (.array .int)) (C := RX3) (T := TX3) (N := 7) hx hb hfX3 (fun _ h9 => h9) tyX3 tyX3_ok nmX3 hown hK hP hD hS 0 rfl rfl 3 (by decide) lk7 (fun _ h9 => h9) rfl hin rfl (by decide +kernel) rfl rfl (Nat.le_of_ble_eq_true rfl) dX3_init_33 (fun H locs hP hD hS => ?_)
  have hP : va_P D vwCl ([(h0, .inr (3, [.ref q7_5, .ref q15_9, .ref q23_13, .ref q31_17, .int 0, .null, .null]))] ++ [(q7_5, .inl (c 0, 12, .inl (fun _ => 0)))] ++ [(q15_9, .inl (c 0, 12, .inl (fun _ => 0)))] ++ [(q23_13, .inl (c 0, 12, .inl (fun _ => 0)))] ++ [(q31_17, .inl (c 0, 12, .inl (fun _ => 0)))]) H := hP
  have hD : va_D A ([(h0, .inr (3, [.ref q7_5, .ref q15_9, .ref q23_13, .ref q31_17, .int 0, .null, .null]))] ++ [(q7_5, .inl (c 0, 12, .inl (fun _ => 0)))] ++ [(q15_9, .inl (c 0, 12, .inl (fun _ => 0)))] ++ [(q23_13, .inl (c 0, 12, .inl (fun _ => 0)))] ++ [(q31_17, .inl (c 0, 12, .inl (fun _ => 0)))]) := hD
  refine lv_aload_n hx hb dX3_init_36 rfl (lv_at hl 0 rfl) ?_
  refine lv_bipush (v := 16) hx hb dX3_init_37 (by decide) ?_
  refine g_newa (atype := .int) (ty := .int) (a0 := (16, .inl (fun _ => 0))) hx hb lk3 rfl hK hP hD hS hA 0 rfl (fun _ h => by cases h) (fun _ => rfl) (by decide) (by decide) (by decide) (Nat.le_of_ble_eq_true rfl) (Nat.le_of_ble_eq_true rfl) dX3_init_39 (fun q39_21 H hP hD hS => ?_)
  have hP : va_P D vwCl ([(h0, .inr (3, [.ref q7_5, .ref q15_9, .ref q23_13, .ref q31_17, .int 0, .null, .null]))] ++ [(q7_5, .inl (c 0, 12, .inl (fun _ => 0)))] ++ [(q15_9, .inl (c 0, 12, .inl (fun _ => 0)))] ++ [(q23_13, .inl (c 0, 12, .inl (fun _ => 0)))] ++ [(q31_17, .inl (c 0, 12, .inl (fun _ => 0)))] ++ [(q39_21, .inl (c 0, 16, .inl (fun _ => 0)))]) H := hP
  have hD : va_D A ([(h0, .inr (3, [.ref q7_5, .ref q15_9, .ref q23_13, .ref q31_17, .int 0, .null, .null]))] ++ [(q7_5, .inl (c 0, 12, .inl (fun _ => 0)))] ++ [(q15_9, .inl (c 0, 12, .inl (fun _ => 0)))] ++ [(q23_13, .inl (c 0, 12, .inl (fun _ => 0)))] ++ [(q31_17, .inl (c 0, 12, .inl (fun _ => 0)))] ++ [(q39_21, .inl (c 0, 16, .inl (fun _ => 0)))]) := hD
  refine va_putF (D := D) (ci := 3) (v := .ref q39_21) (ty := (.array .int)) (C := RX3) (T := TX3) (N := 7) hx hb hfX3 (fun _ h9 => h9) tyX3 tyX3_ok nmX3 hown hK hP hD hS 0 rfl rfl 5 (by decide) lk8 (fun _ h9 => h9) rfl hin rfl (by decide +kernel) rfl rfl (Nat.le_of_ble_eq_true rfl) dX3_init_41 (fun H locs hP hD hS => ?_)
  have hP : va_P D vwCl ([(h0, .inr (3, [.ref q7_5, .ref q15_9, .ref q23_13, .ref q31_17, .int 0, .ref q39_21, .null]))] ++ [(q7_5, .inl (c 0, 12, .inl (fun _ => 0)))] ++ [(q15_9, .inl (c 0, 12, .inl (fun _ => 0)))] ++ [(q23_13, .inl (c 0, 12, .inl (fun _ => 0)))] ++ [(q31_17, .inl (c 0, 12, .inl (fun _ => 0)))] ++ [(q39_21, .inl (c 0, 16, .inl (fun _ => 0)))]) H := hP
  have hD : va_D A ([(h0, .inr (3, [.ref q7_5, .ref q15_9, .ref q23_13, .ref q31_17, .int 0, .ref q39_21, .null]))] ++ [(q7_5, .inl (c 0, 12, .inl (fun _ => 0)))] ++ [(q15_9, .inl (c 0, 12, .inl (fun _ => 0)))] ++ [(q23_13, .inl (c 0, 12, .inl (fun _ => 0)))] ++ [(q31_17, .inl (c 0, 12, .inl (fun _ => 0)))] ++ [(q39_21, .inl (c 0, 16, .inl (fun _ => 0)))]) := hD
  refine lv_aload_n hx hb dX3_init_44 rfl (lv_at hl 0 rfl) ?_
  refine lv_bipush (v := 16) hx hb dX3_init_45 (by decide) ?_
  refine g_newa (atype := .int) (ty := .int) (a0 := (16, .inl (fun _ => 0))) hx hb lk3 rfl hK hP hD hS hA 0 rfl (fun _ h => by cases h) (fun _ => rfl) (by decide) (by decide) (by decide) (Nat.le_of_ble_eq_true rfl) (Nat.le_of_ble_eq_true rfl) dX3_init_47 (fun q47_25 H hP hD hS => ?_)
  have hP : va_P D vwCl ([(h0, .inr (3, [.ref q7_5, .ref q15_9, .ref q23_13, .ref q31_17, .int 0, .ref q39_21, .null]))] ++ [(q7_5, .inl (c 0, 12, .inl (fun _ => 0)))] ++ [(q15_9, .inl (c 0, 12, .inl (fun _ => 0)))] ++ [(q23_13, .inl (c 0, 12, .inl (fun _ => 0)))] ++ [(q31_17, .inl (c 0, 12, .inl (fun _ => 0)))] ++ [(q39_21, .inl (c 0, 16, .inl (fun _ => 0)))] ++ [(q47_25, .inl (c 0, 16, .inl (fun _ => 0)))]) H := hP
  have hD : va_D A ([(h0, .inr (3, [.ref q7_5, .ref q15_9, .ref q23_13, .ref q31_17, .int 0, .ref q39_21, .null]))] ++ [(q7_5, .inl (c 0, 12, .inl (fun _ => 0)))] ++ [(q15_9, .inl (c 0, 12, .inl (fun _ => 0)))] ++ [(q23_13, .inl (c 0, 12, .inl (fun _ => 0)))] ++ [(q31_17, .inl (c 0, 12, .inl (fun _ => 0)))] ++ [(q39_21, .inl (c 0, 16, .inl (fun _ => 0)))] ++ [(q47_25, .inl (c 0, 16, .inl (fun _ => 0)))]) := hD
  refine va_putF (D := D) (ci := 3) (v := .ref q47_25) (ty := (.array .int)) (C := RX3) (T := TX3) (N := 7) hx hb hfX3 (fun _ h9 => h9) tyX3 tyX3_ok nmX3 hown hK hP hD hS 0 rfl rfl 6 (by decide) lk9 (fun _ h9 => h9) rfl hin rfl (by decide +kernel) rfl rfl (Nat.le_of_ble_eq_true rfl) dX3_init_49 (fun H locs hP hD hS => ?_)
  have hP : va_P D vwCl ([(h0, .inr (3, [.ref q7_5, .ref q15_9, .ref q23_13, .ref q31_17, .int 0, .ref q39_21, .ref q47_25]))] ++ [(q7_5, .inl (c 0, 12, .inl (fun _ => 0)))] ++ [(q15_9, .inl (c 0, 12, .inl (fun _ => 0)))] ++ [(q23_13, .inl (c 0, 12, .inl (fun _ => 0)))] ++ [(q31_17, .inl (c 0, 12, .inl (fun _ => 0)))] ++ [(q39_21, .inl (c 0, 16, .inl (fun _ => 0)))] ++ [(q47_25, .inl (c 0, 16, .inl (fun _ => 0)))]) H := hP
  have hD : va_D A ([(h0, .inr (3, [.ref q7_5, .ref q15_9, .ref q23_13, .ref q31_17, .int 0, .ref q39_21, .ref q47_25]))] ++ [(q7_5, .inl (c 0, 12, .inl (fun _ => 0)))] ++ [(q15_9, .inl (c 0, 12, .inl (fun _ => 0)))] ++ [(q23_13, .inl (c 0, 12, .inl (fun _ => 0)))] ++ [(q31_17, .inl (c 0, 12, .inl (fun _ => 0)))] ++ [(q39_21, .inl (c 0, 16, .inl (fun _ => 0)))] ++ [(q47_25, .inl (c 0, 16, .inl (fun _ => 0)))]) := hD
  refine lv_iconst (v := 0) hx hb dX3_init_52 (by decide) ?_
  refine lv_istore_n (lv' := [(1, .int (0 : Int32)), (0, .ref h0)]) hx hb dX3_init_53 rfl hl (by decide) rfl (fun ls hl => ?_)
  refine lv_iload_n hx hb dX3_init_54 rfl (lv_at hl 0 rfl) ?_
  refine lv_iconst (v := 4) hx hb dX3_init_55 (by decide) ?_
  refine lv_icmp_ge (tgt := 78) hx hb dX3_init_56 (by decide) (fun q => absurd q (by decide)) (fun _ => ?_)
  refine lv_aload_n hx hb dX3_init_59 rfl (lv_at hl 1 rfl) ?_
  refine va_get (D := D) (ci := 3) (v := .ref q39_21) (C := RX3) (T := TX3) (N := 7) hx hb hfX3 (fun _ h9 => h9) hown hK hP 0 rfl rfl 5 (by decide) lk8 (fun _ h9 => h9) rfl dX3_init_60 ?_
  refine lv_iconst (v := 3) hx hb dX3_init_63 (by decide) ?_
  refine lv_iload_n hx hb dX3_init_64 rfl (lv_at hl 0 rfl) ?_
  refine lv_isub hx hb dX3_init_65 ?_
  refine W.eq (g2 := F0 m 66 ls [.int (3 : Int32), .ref q39_21]) (by rfl) ?_
  refine va_getsN hx hb (xE_tab hE) hS hown (va_Nw.use rfl (xE_nf hE)) (fun _ h9 => h9) dX3_init_66 ?_
  refine lv_iload_n hx hb dX3_init_69 rfl (lv_at hl 0 rfl) ?_
  refine va_ti (v := .int (itab 0)) hx hb (xE_itab hE) hS (by unfold vp_in; decide) rfl dX3_init_70 ?_
  refine va_iast (D := D) (f := (fun _ => 0)) hx hb hK hP hD hS 5 0 rfl rfl (by unfold vp_in; decide) dX3_init_71 (fun H locs hP hD hS => ?_)
  have hP : va_P D vwCl ([(h0, .inr (3, [.ref q7_5, .ref q15_9, .ref q23_13, .ref q31_17, .int 0, .ref q39_21, .ref q47_25]))] ++ [(q7_5, .inl (c 0, 12, .inl (fun _ => 0)))] ++ [(q15_9, .inl (c 0, 12, .inl (fun _ => 0)))] ++ [(q23_13, .inl (c 0, 12, .inl (fun _ => 0)))] ++ [(q31_17, .inl (c 0, 12, .inl (fun _ => 0)))] ++ [(q39_21, .inl (c 0, 16, .inl (upd (fun _ => 0) 3 (itab 0))))] ++ [(q47_25, .inl (c 0, 16, .inl (fun _ => 0)))]) H := hP
  have hD : va_D A ([(h0, .inr (3, [.ref q7_5, .ref q15_9, .ref q23_13, .ref q31_17, .int 0, .ref q39_21, .ref q47_25]))] ++ [(q7_5, .inl (c 0, 12, .inl (fun _ => 0)))] ++ [(q15_9, .inl (c 0, 12, .inl (fun _ => 0)))] ++ [(q23_13, .inl (c 0, 12, .inl (fun _ => 0)))] ++ [(q31_17, .inl (c 0, 12, .inl (fun _ => 0)))] ++ [(q39_21, .inl (c 0, 16, .inl (upd (fun _ => 0) 3 (itab 0))))] ++ [(q47_25, .inl (c 0, 16, .inl (fun _ => 0)))]) := hD
  refine lv_iinc (v := (1 : Int32)) (lv' := [(1, .int (1 : Int32)), (0, .ref h0)]) hx hb dX3_init_72 hl (k := 0) rfl (by decide) (by decide) rfl (fun ls hl => ?_)
  refine lv_goto (tgt := 54) hx hb dX3_init_75 (by decide) ?_
  refine lv_iload_n hx hb dX3_init_54 rfl (lv_at hl 0 rfl) ?_
  refine lv_iconst (v := 4) hx hb dX3_init_55 (by decide) ?_
  refine lv_icmp_ge (tgt := 78) hx hb dX3_init_56 (by decide) (fun q => absurd q (by decide)) (fun _ => ?_)
  refine lv_aload_n hx hb dX3_init_59 rfl (lv_at hl 1 rfl) ?_
  refine va_get (D := D) (ci := 3) (v := .ref q39_21) (C := RX3) (T := TX3) (N := 7) hx hb hfX3 (fun _ h9 => h9) hown hK hP 0 rfl rfl 5 (by decide) lk8 (fun _ h9 => h9) rfl dX3_init_60 ?_
  refine lv_iconst (v := 3) hx hb dX3_init_63 (by decide) ?_
  refine lv_iload_n hx hb dX3_init_64 rfl (lv_at hl 0 rfl) ?_
  refine lv_isub hx hb dX3_init_65 ?_
  refine W.eq (g2 := F0 m 66 ls [.int (2 : Int32), .ref q39_21]) (by rfl) ?_
  refine va_getsN hx hb (xE_tab hE) hS hown (va_Nw.use rfl (xE_nf hE)) (fun _ h9 => h9) dX3_init_66 ?_
  refine lv_iload_n hx hb dX3_init_69 rfl (lv_at hl 0 rfl) ?_
  refine va_ti (v := .int (itab 1)) hx hb (xE_itab hE) hS (by unfold vp_in; decide) rfl dX3_init_70 ?_
  refine va_iast (D := D) (f := (upd (fun _ => 0) 3 (itab 0))) hx hb hK hP hD hS 5 0 rfl rfl (by unfold vp_in; decide) dX3_init_71 (fun H locs hP hD hS => ?_)
  have hP : va_P D vwCl ([(h0, .inr (3, [.ref q7_5, .ref q15_9, .ref q23_13, .ref q31_17, .int 0, .ref q39_21, .ref q47_25]))] ++ [(q7_5, .inl (c 0, 12, .inl (fun _ => 0)))] ++ [(q15_9, .inl (c 0, 12, .inl (fun _ => 0)))] ++ [(q23_13, .inl (c 0, 12, .inl (fun _ => 0)))] ++ [(q31_17, .inl (c 0, 12, .inl (fun _ => 0)))] ++ [(q39_21, .inl (c 0, 16, .inl (upd (upd (fun _ => 0) 3 (itab 0)) 2 (itab 1))))] ++ [(q47_25, .inl (c 0, 16, .inl (fun _ => 0)))]) H := hP
  have hD : va_D A ([(h0, .inr (3, [.ref q7_5, .ref q15_9, .ref q23_13, .ref q31_17, .int 0, .ref q39_21, .ref q47_25]))] ++ [(q7_5, .inl (c 0, 12, .inl (fun _ => 0)))] ++ [(q15_9, .inl (c 0, 12, .inl (fun _ => 0)))] ++ [(q23_13, .inl (c 0, 12, .inl (fun _ => 0)))] ++ [(q31_17, .inl (c 0, 12, .inl (fun _ => 0)))] ++ [(q39_21, .inl (c 0, 16, .inl (upd (upd (fun _ => 0) 3 (itab 0)) 2 (itab 1))))] ++ [(q47_25, .inl (c 0, 16, .inl (fun _ => 0)))]) := hD
  refine lv_iinc (v := (2 : Int32)) (lv' := [(1, .int (2 : Int32)), (0, .ref h0)]) hx hb dX3_init_72 hl (k := 0) rfl (by decide) (by decide) rfl (fun ls hl => ?_)
  refine lv_goto (tgt := 54) hx hb dX3_init_75 (by decide) ?_
  refine lv_iload_n hx hb dX3_init_54 rfl (lv_at hl 0 rfl) ?_
  refine lv_iconst (v := 4) hx hb dX3_init_55 (by decide) ?_
  refine lv_icmp_ge (tgt := 78) hx hb dX3_init_56 (by decide) (fun q => absurd q (by decide)) (fun _ => ?_)
  refine lv_aload_n hx hb dX3_init_59 rfl (lv_at hl 1 rfl) ?_
  refine va_get (D := D) (ci := 3) (v := .ref q39_21) (C := RX3) (T := TX3) (N := 7) hx hb hfX3 (fun _ h9 => h9) hown hK hP 0 rfl rfl 5 (by decide) lk8 (fun _ h9 => h9) rfl dX3_init_60 ?_
  refine lv_iconst (v := 3) hx hb dX3_init_63 (by decide) ?_
  refine lv_iload_n hx hb dX3_init_64 rfl (lv_at hl 0 rfl) ?_
  refine lv_isub hx hb dX3_init_65 ?_
  refine W.eq (g2 := F0 m 66 ls [.int (1 : Int32), .ref q39_21]) (by rfl) ?_
  refine va_getsN hx hb (xE_tab hE) hS hown (va_Nw.use rfl (xE_nf hE)) (fun _ h9 => h9) dX3_init_66 ?_
  refine lv_iload_n hx hb dX3_init_69 rfl (lv_at hl 0 rfl) ?_
  refine va_ti (v := .int (itab 2)) hx hb (xE_itab hE) hS (by unfold vp_in; decide) rfl dX3_init_70 ?_
  refine va_iast (D := D) (f := (upd (upd (fun _ => 0) 3 (itab 0)) 2 (itab 1))) hx hb hK hP hD hS 5 0 rfl rfl (by unfold vp_in; decide) dX3_init_71 (fun H locs hP hD hS => ?_)
  have hP : va_P D vwCl ([(h0, .inr (3, [.ref q7_5, .ref q15_9, .ref q23_13, .ref q31_17, .int 0, .ref q39_21, .ref q47_25]))] ++ [(q7_5, .inl (c 0, 12, .inl (fun _ => 0)))] ++ [(q15_9, .inl (c 0, 12, .inl (fun _ => 0)))] ++ [(q23_13, .inl (c 0, 12, .inl (fun _ => 0)))] ++ [(q31_17, .inl (c 0, 12, .inl (fun _ => 0)))] ++ [(q39_21, .inl (c 0, 16, .inl (upd (upd (upd (fun _ => 0) 3 (itab 0)) 2 (itab 1)) 1 (itab 2))))] ++ [(q47_25, .inl (c 0, 16, .inl (fun _ => 0)))]) H := hP
  have hD : va_D A ([(h0, .inr (3, [.ref q7_5, .ref q15_9, .ref q23_13, .ref q31_17, .int 0, .ref q39_21, .ref q47_25]))] ++ [(q7_5, .inl (c 0, 12, .inl (fun _ => 0)))] ++ [(q15_9, .inl (c 0, 12, .inl (fun _ => 0)))] ++ [(q23_13, .inl (c 0, 12, .inl (fun _ => 0)))] ++ [(q31_17, .inl (c 0, 12, .inl (fun _ => 0)))] ++ [(q39_21, .inl (c 0, 16, .inl (upd (upd (upd (fun _ => 0) 3 (itab 0)) 2 (itab 1)) 1 (itab 2))))] ++ [(q47_25, .inl (c 0, 16, .inl (fun _ => 0)))]) := hD
  refine lv_iinc (v := (3 : Int32)) (lv' := [(1, .int (3 : Int32)), (0, .ref h0)]) hx hb dX3_init_72 hl (k := 0) rfl (by decide) (by decide) rfl (fun ls hl => ?_)
  refine lv_goto (tgt := 54) hx hb dX3_init_75 (by decide) ?_
  refine lv_iload_n hx hb dX3_init_54 rfl (lv_at hl 0 rfl) ?_
  refine lv_iconst (v := 4) hx hb dX3_init_55 (by decide) ?_
  refine lv_icmp_ge (tgt := 78) hx hb dX3_init_56 (by decide) (fun q => absurd q (by decide)) (fun _ => ?_)
  refine lv_aload_n hx hb dX3_init_59 rfl (lv_at hl 1 rfl) ?_
  refine va_get (D := D) (ci := 3) (v := .ref q39_21) (C := RX3) (T := TX3) (N := 7) hx hb hfX3 (fun _ h9 => h9) hown hK hP 0 rfl rfl 5 (by decide) lk8 (fun _ h9 => h9) rfl dX3_init_60 ?_
  refine lv_iconst (v := 3) hx hb dX3_init_63 (by decide) ?_
  refine lv_iload_n hx hb dX3_init_64 rfl (lv_at hl 0 rfl) ?_
  refine lv_isub hx hb dX3_init_65 ?_
  refine W.eq (g2 := F0 m 66 ls [.int (0 : Int32), .ref q39_21]) (by rfl) ?_
  refine va_getsN hx hb (xE_tab hE) hS hown (va_Nw.use rfl (xE_nf hE)) (fun _ h9 => h9) dX3_init_66 ?_
  refine lv_iload_n hx hb dX3_init_69 rfl (lv_at hl 0 rfl) ?_
  refine va_ti (v := .int (itab 3)) hx hb (xE_itab hE) hS (by unfold vp_in; decide) rfl dX3_init_70 ?_
  refine va_iast (D := D) (f := (upd (upd (upd (fun _ => 0) 3 (itab 0)) 2 (itab 1)) 1 (itab 2))) hx hb hK hP hD hS 5 0 rfl rfl (by unfold vp_in; decide) dX3_init_71 (fun H locs hP hD hS => ?_)
  have hP : va_P D vwCl ([(h0, .inr (3, [.ref q7_5, .ref q15_9, .ref q23_13, .ref q31_17, .int 0, .ref q39_21, .ref q47_25]))] ++ [(q7_5, .inl (c 0, 12, .inl (fun _ => 0)))] ++ [(q15_9, .inl (c 0, 12, .inl (fun _ => 0)))] ++ [(q23_13, .inl (c 0, 12, .inl (fun _ => 0)))] ++ [(q31_17, .inl (c 0, 12, .inl (fun _ => 0)))] ++ [(q39_21, .inl (c 0, 16, .inl (upd (upd (upd (upd (fun _ => 0) 3 (itab 0)) 2 (itab 1)) 1 (itab 2)) 0 (itab 3))))] ++ [(q47_25, .inl (c 0, 16, .inl (fun _ => 0)))]) H := hP
  have hD : va_D A ([(h0, .inr (3, [.ref q7_5, .ref q15_9, .ref q23_13, .ref q31_17, .int 0, .ref q39_21, .ref q47_25]))] ++ [(q7_5, .inl (c 0, 12, .inl (fun _ => 0)))] ++ [(q15_9, .inl (c 0, 12, .inl (fun _ => 0)))] ++ [(q23_13, .inl (c 0, 12, .inl (fun _ => 0)))] ++ [(q31_17, .inl (c 0, 12, .inl (fun _ => 0)))] ++ [(q39_21, .inl (c 0, 16, .inl (upd (upd (upd (upd (fun _ => 0) 3 (itab 0)) 2 (itab 1)) 1 (itab 2)) 0 (itab 3))))] ++ [(q47_25, .inl (c 0, 16, .inl (fun _ => 0)))]) := hD
  refine lv_iinc (v := (4 : Int32)) (lv' := [(1, .int (4 : Int32)), (0, .ref h0)]) hx hb dX3_init_72 hl (k := 0) rfl (by decide) (by decide) rfl (fun ls hl => ?_)
  refine lv_goto (tgt := 54) hx hb dX3_init_75 (by decide) ?_
  refine lv_iload_n hx hb dX3_init_54 rfl (lv_at hl 0 rfl) ?_
  refine lv_iconst (v := 4) hx hb dX3_init_55 (by decide) ?_
  refine lv_icmp_ge (tgt := 78) hx hb dX3_init_56 (by decide) (fun _ => ?_) (fun q => absurd (by decide) q)
  have hP9 : va_P D vwCl (wX3 (fun i => [h0, q7_5, q15_9, q23_13, q31_17, q39_21, q47_25].getD i 0) c zX3) H := g_cutP hP [0, 1, 2, 3, 4, 5, 6] rfl
  have hD9 : va_D A (wX3 (fun i => [h0, q7_5, q15_9, q23_13, q31_17, q39_21, q47_25].getD i 0) c zX3) := hD.sub [0, 1, 2, 3, 4, 5, 6] (by decide) rfl
  refine W.widen (k := 6) (n := 80) (Nat.le_of_ble_eq_true rfl) (Nat.le_of_ble_eq_true rfl) ?_
  exact KR (fun i => [h0, q7_5, q15_9, q23_13, q31_17, q39_21, q47_25].getD i 0) H _ 78 ls rfl hP9 hD9 hS dX3_init_78
abbrev rmX7_init : Room := { frames := 1, cells := 2, slots := 32, locals := 12 }
set_option maxRecDepth 100000 in
set_option maxHeartbeats 40000000 in
theorem nX7_init (l : Launch) (D : va_G) (c : Nat → ClassId) (tb : Nat) (sa sv : Nat → Nat) (h0 : Nat) : gN l yX7_init wsX7_init rmX7_init D (gY c) (xE tb sa sv) h0 [(h0, .inr (7, [.null, .null, .int 0, .int 0]))] (fun a => wX7 a c zX7) (fun a : Nat → Nat => a 0) 2 32 := by
  refine gN.start (cc := cX7_init) (maxL := 1) (by decide) rfl (by decide) rfl ?_
  intro p e s m args below meth cd hx hb hml hown hts hin A hA ls hl hP hK hD hS hE Q KR
  have hfX7 : ∀ w ∈ u_ws RX7 TX7 4, w.before args s = true := fun w hw => hts w (List.mem_cons_of_mem _ (List.mem_append_right _ hw))
  have lk0 := hts (.methodLink RX7 3 objectInit) (List.mem_of_getElem? (i := 1) rfl)
  have lk1 := hts (.instanceMethod objectInit) (List.mem_of_getElem? (i := 2) rfl)
  have lk2 := hts (.code objectInit ⟨#[0xb1]⟩ 1 none) (List.mem_of_getElem? (i := 3) rfl)
  have lk3 := hts (.arrayClass .long) (List.mem_of_getElem? (i := 4) rfl)
  have lk4 := hts (.fieldLink RX7 11 "GlitchNets$Wave" "lows" "[J") (List.mem_of_getElem? (i := 5) rfl)
  have lk5 := hts (.fieldLink RX7 17 "GlitchNets$Wave" "highs" "[J") (List.mem_of_getElem? (i := 6) rfl)
  refine lv_aload_n hx hb dX7_init_0 rfl (lv_at hl 0 rfl) ?_
  refine W.objInit hx hb hown lk0 lk1 lk2 rfl (by rw [hml]; exact hl.1) rfl dX7_init_1 (Nat.le_of_ble_eq_true rfl) (Nat.le_of_ble_eq_true rfl) ?_
  refine W.eq (g2 := F0 m 4 ls []) rfl ?_
  refine lv_aload_n hx hb dX7_init_4 rfl (lv_at hl 0 rfl) ?_
  refine lv_bipush (v := 16) hx hb dX7_init_5 (by decide) ?_
  refine g_newa (atype := .long) (ty := .long) (a0 := (16, .inr (.inl (fun _ => 0)))) hx hb lk3 rfl hK hP hD hS hA 1 rfl (fun _ h => by cases h) (fun _ => rfl) (by decide) (by decide) (by decide) (Nat.le_of_ble_eq_true rfl) (Nat.le_of_ble_eq_true rfl) dX7_init_7 (fun q7_5 H hP hD hS => ?_)
  have hP : va_P D vwCl ([(h0, .inr (7, [.null, .null, .int 0, .int 0]))] ++ [(q7_5, .inl (c 1, 16, .inr (.inl (fun _ => 0))))]) H := hP
  have hD : va_D A ([(h0, .inr (7, [.null, .null, .int 0, .int 0]))] ++ [(q7_5, .inl (c 1, 16, .inr (.inl (fun _ => 0))))]) := hD
  refine va_putF (D := D) (ci := 7) (v := .ref q7_5) (ty := (.array .long)) (C := RX7) (T := TX7) (N := 4) hx hb hfX7 (fun _ h9 => h9) tyX7 tyX7_ok nmX7 hown hK hP hD hS 0 rfl rfl 0 (by decide) lk4 (fun _ h9 => h9) rfl hin rfl (by decide +kernel) rfl rfl (Nat.le_of_ble_eq_true rfl) dX7_init_9 (fun H locs hP hD hS => ?_)
  have hP : va_P D vwCl ([(h0, .inr (7, [.ref q7_5, .null, .int 0, .int 0]))] ++ [(q7_5, .inl (c 1, 16, .inr (.inl (fun _ => 0))))]) H := hP
  have hD : va_D A ([(h0, .inr (7, [.ref q7_5, .null, .int 0, .int 0]))] ++ [(q7_5, .inl (c 1, 16, .inr (.inl (fun _ => 0))))]) := hD
  refine lv_aload_n hx hb dX7_init_12 rfl (lv_at hl 0 rfl) ?_
  refine lv_bipush (v := 16) hx hb dX7_init_13 (by decide) ?_
  refine g_newa (atype := .long) (ty := .long) (a0 := (16, .inr (.inl (fun _ => 0)))) hx hb lk3 rfl hK hP hD hS hA 1 rfl (fun _ h => by cases h) (fun _ => rfl) (by decide) (by decide) (by decide) (Nat.le_of_ble_eq_true rfl) (Nat.le_of_ble_eq_true rfl) dX7_init_15 (fun q15_9 H hP hD hS => ?_)
  have hP : va_P D vwCl ([(h0, .inr (7, [.ref q7_5, .null, .int 0, .int 0]))] ++ [(q7_5, .inl (c 1, 16, .inr (.inl (fun _ => 0))))] ++ [(q15_9, .inl (c 1, 16, .inr (.inl (fun _ => 0))))]) H := hP
  have hD : va_D A ([(h0, .inr (7, [.ref q7_5, .null, .int 0, .int 0]))] ++ [(q7_5, .inl (c 1, 16, .inr (.inl (fun _ => 0))))] ++ [(q15_9, .inl (c 1, 16, .inr (.inl (fun _ => 0))))]) := hD
  refine va_putF (D := D) (ci := 7) (v := .ref q15_9) (ty := (.array .long)) (C := RX7) (T := TX7) (N := 4) hx hb hfX7 (fun _ h9 => h9) tyX7 tyX7_ok nmX7 hown hK hP hD hS 0 rfl rfl 1 (by decide) lk5 (fun _ h9 => h9) rfl hin rfl (by decide +kernel) rfl rfl (Nat.le_of_ble_eq_true rfl) dX7_init_17 (fun H locs hP hD hS => ?_)
  have hP : va_P D vwCl ([(h0, .inr (7, [.ref q7_5, .ref q15_9, .int 0, .int 0]))] ++ [(q7_5, .inl (c 1, 16, .inr (.inl (fun _ => 0))))] ++ [(q15_9, .inl (c 1, 16, .inr (.inl (fun _ => 0))))]) H := hP
  have hD : va_D A ([(h0, .inr (7, [.ref q7_5, .ref q15_9, .int 0, .int 0]))] ++ [(q7_5, .inl (c 1, 16, .inr (.inl (fun _ => 0))))] ++ [(q15_9, .inl (c 1, 16, .inr (.inl (fun _ => 0))))]) := hD
  have hP9 : va_P D vwCl (wX7 (fun i => [h0, q7_5, q15_9].getD i 0) c zX7) H := g_cutP hP [0, 1, 2] rfl
  have hD9 : va_D A (wX7 (fun i => [h0, q7_5, q15_9].getD i 0) c zX7) := hD.sub [0, 1, 2] (by decide) rfl
  refine W.widen (k := 2) (n := 32) (Nat.le_of_ble_eq_true rfl) (Nat.le_of_ble_eq_true rfl) ?_
  exact KR (fun i => [h0, q7_5, q15_9].getD i 0) H _ 20 ls rfl hP9 hD9 hS dX7_init_20
abbrev rmX0_init : Room := { frames := 1, cells := 2, slots := 16, locals := 12 }
set_option maxRecDepth 100000 in
set_option maxHeartbeats 40000000 in
theorem nX0_init (l : Launch) (D : va_G) (c : Nat → ClassId) (tb : Nat) (sa sv : Nat → Nat) (h0 : Nat) : gN l yX0_init wsX0_init rmX0_init D (gY c) (xE tb sa sv) h0 [(h0, .inr (0, [.null, .null, .int 0]))] (fun a => wX0 a c zX0) (fun a : Nat → Nat => a 0) 2 16 := by
  refine gN.start (cc := cX0_init) (maxL := 1) (by decide) rfl (by decide) rfl ?_
  intro p e s m args below meth cd hx hb hml hown hts hin A hA ls hl hP hK hD hS hE Q KR
  have hfX0 : ∀ w ∈ u_ws RX0 TX0 3, w.before args s = true := fun w hw => hts w (List.mem_cons_of_mem _ (List.mem_append_right _ hw))
  have lk0 := hts (.methodLink RX0 1 objectInit) (List.mem_of_getElem? (i := 1) rfl)
  have lk1 := hts (.instanceMethod objectInit) (List.mem_of_getElem? (i := 2) rfl)
  have lk2 := hts (.code objectInit ⟨#[0xb1]⟩ 1 none) (List.mem_of_getElem? (i := 3) rfl)
  have lk3 := hts (.arrayClass .int) (List.mem_of_getElem? (i := 4) rfl)
  have lk4 := hts (.fieldLink RX0 9 "GlitchNets$Cover" "cares" "[I") (List.mem_of_getElem? (i := 5) rfl)
  have lk5 := hts (.fieldLink RX0 13 "GlitchNets$Cover" "wants" "[I") (List.mem_of_getElem? (i := 6) rfl)
  refine lv_aload_n hx hb dX0_init_0 rfl (lv_at hl 0 rfl) ?_
  refine W.objInit hx hb hown lk0 lk1 lk2 rfl (by rw [hml]; exact hl.1) rfl dX0_init_1 (Nat.le_of_ble_eq_true rfl) (Nat.le_of_ble_eq_true rfl) ?_
  refine W.eq (g2 := F0 m 4 ls []) rfl ?_
  refine lv_aload_n hx hb dX0_init_4 rfl (lv_at hl 0 rfl) ?_
  refine lv_bipush (v := 8) hx hb dX0_init_5 (by decide) ?_
  refine g_newa (atype := .int) (ty := .int) (a0 := (8, .inl (fun _ => 0))) hx hb lk3 rfl hK hP hD hS hA 0 rfl (fun _ h => by cases h) (fun _ => rfl) (by decide) (by decide) (by decide) (Nat.le_of_ble_eq_true rfl) (Nat.le_of_ble_eq_true rfl) dX0_init_7 (fun q7_5 H hP hD hS => ?_)
  have hP : va_P D vwCl ([(h0, .inr (0, [.null, .null, .int 0]))] ++ [(q7_5, .inl (c 0, 8, .inl (fun _ => 0)))]) H := hP
  have hD : va_D A ([(h0, .inr (0, [.null, .null, .int 0]))] ++ [(q7_5, .inl (c 0, 8, .inl (fun _ => 0)))]) := hD
  refine va_putF (D := D) (ci := 0) (v := .ref q7_5) (ty := (.array .int)) (C := RX0) (T := TX0) (N := 3) hx hb hfX0 (fun _ h9 => h9) tyX0 tyX0_ok nmX0 hown hK hP hD hS 0 rfl rfl 0 (by decide) lk4 (fun _ h9 => h9) rfl hin rfl (by decide +kernel) rfl rfl (Nat.le_of_ble_eq_true rfl) dX0_init_9 (fun H locs hP hD hS => ?_)
  have hP : va_P D vwCl ([(h0, .inr (0, [.ref q7_5, .null, .int 0]))] ++ [(q7_5, .inl (c 0, 8, .inl (fun _ => 0)))]) H := hP
  have hD : va_D A ([(h0, .inr (0, [.ref q7_5, .null, .int 0]))] ++ [(q7_5, .inl (c 0, 8, .inl (fun _ => 0)))]) := hD
  refine lv_aload_n hx hb dX0_init_12 rfl (lv_at hl 0 rfl) ?_
  refine lv_bipush (v := 8) hx hb dX0_init_13 (by decide) ?_
  refine g_newa (atype := .int) (ty := .int) (a0 := (8, .inl (fun _ => 0))) hx hb lk3 rfl hK hP hD hS hA 0 rfl (fun _ h => by cases h) (fun _ => rfl) (by decide) (by decide) (by decide) (Nat.le_of_ble_eq_true rfl) (Nat.le_of_ble_eq_true rfl) dX0_init_15 (fun q15_9 H hP hD hS => ?_)
  have hP : va_P D vwCl ([(h0, .inr (0, [.ref q7_5, .null, .int 0]))] ++ [(q7_5, .inl (c 0, 8, .inl (fun _ => 0)))] ++ [(q15_9, .inl (c 0, 8, .inl (fun _ => 0)))]) H := hP
  have hD : va_D A ([(h0, .inr (0, [.ref q7_5, .null, .int 0]))] ++ [(q7_5, .inl (c 0, 8, .inl (fun _ => 0)))] ++ [(q15_9, .inl (c 0, 8, .inl (fun _ => 0)))]) := hD
  refine va_putF (D := D) (ci := 0) (v := .ref q15_9) (ty := (.array .int)) (C := RX0) (T := TX0) (N := 3) hx hb hfX0 (fun _ h9 => h9) tyX0 tyX0_ok nmX0 hown hK hP hD hS 0 rfl rfl 1 (by decide) lk5 (fun _ h9 => h9) rfl hin rfl (by decide +kernel) rfl rfl (Nat.le_of_ble_eq_true rfl) dX0_init_17 (fun H locs hP hD hS => ?_)
  have hP : va_P D vwCl ([(h0, .inr (0, [.ref q7_5, .ref q15_9, .int 0]))] ++ [(q7_5, .inl (c 0, 8, .inl (fun _ => 0)))] ++ [(q15_9, .inl (c 0, 8, .inl (fun _ => 0)))]) H := hP
  have hD : va_D A ([(h0, .inr (0, [.ref q7_5, .ref q15_9, .int 0]))] ++ [(q7_5, .inl (c 0, 8, .inl (fun _ => 0)))] ++ [(q15_9, .inl (c 0, 8, .inl (fun _ => 0)))]) := hD
  have hP9 : va_P D vwCl (wX0 (fun i => [h0, q7_5, q15_9].getD i 0) c zX0) H := g_cutP hP [0, 1, 2] rfl
  have hD9 : va_D A (wX0 (fun i => [h0, q7_5, q15_9].getD i 0) c zX0) := hD.sub [0, 1, 2] (by decide) rfl
  refine W.widen (k := 2) (n := 16) (Nat.le_of_ble_eq_true rfl) (Nat.le_of_ble_eq_true rfl) ?_
  exact KR (fun i => [h0, q7_5, q15_9].getD i 0) H _ 20 ls rfl hP9 hD9 hS dX0_init_20
abbrev rmX4_init : Room := { frames := 1, cells := 4, slots := 129, locals := 12 }
set_option maxRecDepth 100000 in
set_option maxHeartbeats 40000000 in
theorem nX4_init (l : Launch) (D : va_G) (c : Nat → ClassId) (tb : Nat) (sa sv : Nat → Nat) (h0 : Nat) : gN l yX4_init wsX4_init rmX4_init D (gY c) (xE tb sa sv) h0 [(h0, .inr (4, [.null, .null, .int 0, .null, .null]))] (fun a => wX4 a c zX4) (fun a : Nat → Nat => a 0) 4 129 := by
  refine gN.start (cc := cX4_init) (maxL := 1) (by decide) rfl (by decide) rfl ?_
  intro p e s m args below meth cd hx hb hml hown hts hin A hA ls hl hP hK hD hS hE Q KR
  have hfX4 : ∀ w ∈ u_ws RX4 TX4 5, w.before args s = true := fun w hw => hts w (List.mem_cons_of_mem _ (List.mem_append_right _ hw))
  have lk0 := hts (.methodLink RX4 3 objectInit) (List.mem_of_getElem? (i := 1) rfl)
  have lk1 := hts (.instanceMethod objectInit) (List.mem_of_getElem? (i := 2) rfl)
  have lk2 := hts (.code objectInit ⟨#[0xb1]⟩ 1 none) (List.mem_of_getElem? (i := 3) rfl)
  have lk3 := hts (.arrayClass .int) (List.mem_of_getElem? (i := 4) rfl)
  have lk4 := hts (.fieldLink RX4 11 "GlitchNets$Primes" "cares" "[I") (List.mem_of_getElem? (i := 5) rfl)
  have lk5 := hts (.fieldLink RX4 15 "GlitchNets$Primes" "wants" "[I") (List.mem_of_getElem? (i := 6) rfl)
  have lk6 := hts (.arrayClass .long) (List.mem_of_getElem? (i := 7) rfl)
  have lk7 := hts (.fieldLink RX4 18 "GlitchNets$Primes" "pairs" "[J") (List.mem_of_getElem? (i := 8) rfl)
  have lk8 := hts (.fieldLink RX4 22 "GlitchNets$Primes" "reach" "[J") (List.mem_of_getElem? (i := 9) rfl)
  refine lv_aload_n hx hb dX4_init_0 rfl (lv_at hl 0 rfl) ?_
  refine W.objInit hx hb hown lk0 lk1 lk2 rfl (by rw [hml]; exact hl.1) rfl dX4_init_1 (Nat.le_of_ble_eq_true rfl) (Nat.le_of_ble_eq_true rfl) ?_
  refine W.eq (g2 := F0 m 4 ls []) rfl ?_
  refine lv_aload_n hx hb dX4_init_4 rfl (lv_at hl 0 rfl) ?_
  refine lv_bipush (v := 32) hx hb dX4_init_5 (by decide) ?_
  refine g_newa (atype := .int) (ty := .int) (a0 := (32, .inl (fun _ => 0))) hx hb lk3 rfl hK hP hD hS hA 0 rfl (fun _ h => by cases h) (fun _ => rfl) (by decide) (by decide) (by decide) (Nat.le_of_ble_eq_true rfl) (Nat.le_of_ble_eq_true rfl) dX4_init_7 (fun q7_5 H hP hD hS => ?_)
  have hP : va_P D vwCl ([(h0, .inr (4, [.null, .null, .int 0, .null, .null]))] ++ [(q7_5, .inl (c 0, 32, .inl (fun _ => 0)))]) H := hP
  have hD : va_D A ([(h0, .inr (4, [.null, .null, .int 0, .null, .null]))] ++ [(q7_5, .inl (c 0, 32, .inl (fun _ => 0)))]) := hD
  refine va_putF (D := D) (ci := 4) (v := .ref q7_5) (ty := (.array .int)) (C := RX4) (T := TX4) (N := 5) hx hb hfX4 (fun _ h9 => h9) tyX4 tyX4_ok nmX4 hown hK hP hD hS 0 rfl rfl 0 (by decide) lk4 (fun _ h9 => h9) rfl hin rfl (by decide +kernel) rfl rfl (Nat.le_of_ble_eq_true rfl) dX4_init_9 (fun H locs hP hD hS => ?_)
  have hP : va_P D vwCl ([(h0, .inr (4, [.ref q7_5, .null, .int 0, .null, .null]))] ++ [(q7_5, .inl (c 0, 32, .inl (fun _ => 0)))]) H := hP
  have hD : va_D A ([(h0, .inr (4, [.ref q7_5, .null, .int 0, .null, .null]))] ++ [(q7_5, .inl (c 0, 32, .inl (fun _ => 0)))]) := hD
  refine lv_aload_n hx hb dX4_init_12 rfl (lv_at hl 0 rfl) ?_
  refine lv_bipush (v := 32) hx hb dX4_init_13 (by decide) ?_
  refine g_newa (atype := .int) (ty := .int) (a0 := (32, .inl (fun _ => 0))) hx hb lk3 rfl hK hP hD hS hA 0 rfl (fun _ h => by cases h) (fun _ => rfl) (by decide) (by decide) (by decide) (Nat.le_of_ble_eq_true rfl) (Nat.le_of_ble_eq_true rfl) dX4_init_15 (fun q15_9 H hP hD hS => ?_)
  have hP : va_P D vwCl ([(h0, .inr (4, [.ref q7_5, .null, .int 0, .null, .null]))] ++ [(q7_5, .inl (c 0, 32, .inl (fun _ => 0)))] ++ [(q15_9, .inl (c 0, 32, .inl (fun _ => 0)))]) H := hP
  have hD : va_D A ([(h0, .inr (4, [.ref q7_5, .null, .int 0, .null, .null]))] ++ [(q7_5, .inl (c 0, 32, .inl (fun _ => 0)))] ++ [(q15_9, .inl (c 0, 32, .inl (fun _ => 0)))]) := hD
  refine va_putF (D := D) (ci := 4) (v := .ref q15_9) (ty := (.array .int)) (C := RX4) (T := TX4) (N := 5) hx hb hfX4 (fun _ h9 => h9) tyX4 tyX4_ok nmX4 hown hK hP hD hS 0 rfl rfl 1 (by decide) lk5 (fun _ h9 => h9) rfl hin rfl (by decide +kernel) rfl rfl (Nat.le_of_ble_eq_true rfl) dX4_init_17 (fun H locs hP hD hS => ?_)
  have hP : va_P D vwCl ([(h0, .inr (4, [.ref q7_5, .ref q15_9, .int 0, .null, .null]))] ++ [(q7_5, .inl (c 0, 32, .inl (fun _ => 0)))] ++ [(q15_9, .inl (c 0, 32, .inl (fun _ => 0)))]) H := hP
  have hD : va_D A ([(h0, .inr (4, [.ref q7_5, .ref q15_9, .int 0, .null, .null]))] ++ [(q7_5, .inl (c 0, 32, .inl (fun _ => 0)))] ++ [(q15_9, .inl (c 0, 32, .inl (fun _ => 0)))]) := hD
  refine lv_aload_n hx hb dX4_init_20 rfl (lv_at hl 0 rfl) ?_
  refine lv_bipush (v := 32) hx hb dX4_init_21 (by decide) ?_
  refine g_newa (atype := .long) (ty := .long) (a0 := (32, .inr (.inl (fun _ => 0)))) hx hb lk6 rfl hK hP hD hS hA 1 rfl (fun _ h => by cases h) (fun _ => rfl) (by decide) (by decide) (by decide) (Nat.le_of_ble_eq_true rfl) (Nat.le_of_ble_eq_true rfl) dX4_init_23 (fun q23_13 H hP hD hS => ?_)
  have hP : va_P D vwCl ([(h0, .inr (4, [.ref q7_5, .ref q15_9, .int 0, .null, .null]))] ++ [(q7_5, .inl (c 0, 32, .inl (fun _ => 0)))] ++ [(q15_9, .inl (c 0, 32, .inl (fun _ => 0)))] ++ [(q23_13, .inl (c 1, 32, .inr (.inl (fun _ => 0))))]) H := hP
  have hD : va_D A ([(h0, .inr (4, [.ref q7_5, .ref q15_9, .int 0, .null, .null]))] ++ [(q7_5, .inl (c 0, 32, .inl (fun _ => 0)))] ++ [(q15_9, .inl (c 0, 32, .inl (fun _ => 0)))] ++ [(q23_13, .inl (c 1, 32, .inr (.inl (fun _ => 0))))]) := hD
  refine va_putF (D := D) (ci := 4) (v := .ref q23_13) (ty := (.array .long)) (C := RX4) (T := TX4) (N := 5) hx hb hfX4 (fun _ h9 => h9) tyX4 tyX4_ok nmX4 hown hK hP hD hS 0 rfl rfl 3 (by decide) lk7 (fun _ h9 => h9) rfl hin rfl (by decide +kernel) rfl rfl (Nat.le_of_ble_eq_true rfl) dX4_init_25 (fun H locs hP hD hS => ?_)
  have hP : va_P D vwCl ([(h0, .inr (4, [.ref q7_5, .ref q15_9, .int 0, .ref q23_13, .null]))] ++ [(q7_5, .inl (c 0, 32, .inl (fun _ => 0)))] ++ [(q15_9, .inl (c 0, 32, .inl (fun _ => 0)))] ++ [(q23_13, .inl (c 1, 32, .inr (.inl (fun _ => 0))))]) H := hP
  have hD : va_D A ([(h0, .inr (4, [.ref q7_5, .ref q15_9, .int 0, .ref q23_13, .null]))] ++ [(q7_5, .inl (c 0, 32, .inl (fun _ => 0)))] ++ [(q15_9, .inl (c 0, 32, .inl (fun _ => 0)))] ++ [(q23_13, .inl (c 1, 32, .inr (.inl (fun _ => 0))))]) := hD
  refine lv_aload_n hx hb dX4_init_28 rfl (lv_at hl 0 rfl) ?_
  refine lv_bipush (v := 33) hx hb dX4_init_29 (by decide) ?_
  refine g_newa (atype := .long) (ty := .long) (a0 := (33, .inr (.inl (fun _ => 0)))) hx hb lk6 rfl hK hP hD hS hA 1 rfl (fun _ h => by cases h) (fun _ => rfl) (by decide) (by decide) (by decide) (Nat.le_of_ble_eq_true rfl) (Nat.le_of_ble_eq_true rfl) dX4_init_31 (fun q31_17 H hP hD hS => ?_)
  have hP : va_P D vwCl ([(h0, .inr (4, [.ref q7_5, .ref q15_9, .int 0, .ref q23_13, .null]))] ++ [(q7_5, .inl (c 0, 32, .inl (fun _ => 0)))] ++ [(q15_9, .inl (c 0, 32, .inl (fun _ => 0)))] ++ [(q23_13, .inl (c 1, 32, .inr (.inl (fun _ => 0))))] ++ [(q31_17, .inl (c 1, 33, .inr (.inl (fun _ => 0))))]) H := hP
  have hD : va_D A ([(h0, .inr (4, [.ref q7_5, .ref q15_9, .int 0, .ref q23_13, .null]))] ++ [(q7_5, .inl (c 0, 32, .inl (fun _ => 0)))] ++ [(q15_9, .inl (c 0, 32, .inl (fun _ => 0)))] ++ [(q23_13, .inl (c 1, 32, .inr (.inl (fun _ => 0))))] ++ [(q31_17, .inl (c 1, 33, .inr (.inl (fun _ => 0))))]) := hD
  refine va_putF (D := D) (ci := 4) (v := .ref q31_17) (ty := (.array .long)) (C := RX4) (T := TX4) (N := 5) hx hb hfX4 (fun _ h9 => h9) tyX4 tyX4_ok nmX4 hown hK hP hD hS 0 rfl rfl 4 (by decide) lk8 (fun _ h9 => h9) rfl hin rfl (by decide +kernel) rfl rfl (Nat.le_of_ble_eq_true rfl) dX4_init_33 (fun H locs hP hD hS => ?_)
  have hP : va_P D vwCl ([(h0, .inr (4, [.ref q7_5, .ref q15_9, .int 0, .ref q23_13, .ref q31_17]))] ++ [(q7_5, .inl (c 0, 32, .inl (fun _ => 0)))] ++ [(q15_9, .inl (c 0, 32, .inl (fun _ => 0)))] ++ [(q23_13, .inl (c 1, 32, .inr (.inl (fun _ => 0))))] ++ [(q31_17, .inl (c 1, 33, .inr (.inl (fun _ => 0))))]) H := hP
  have hD : va_D A ([(h0, .inr (4, [.ref q7_5, .ref q15_9, .int 0, .ref q23_13, .ref q31_17]))] ++ [(q7_5, .inl (c 0, 32, .inl (fun _ => 0)))] ++ [(q15_9, .inl (c 0, 32, .inl (fun _ => 0)))] ++ [(q23_13, .inl (c 1, 32, .inr (.inl (fun _ => 0))))] ++ [(q31_17, .inl (c 1, 33, .inr (.inl (fun _ => 0))))]) := hD
  have hP9 : va_P D vwCl (wX4 (fun i => [h0, q7_5, q15_9, q23_13, q31_17].getD i 0) c zX4) H := g_cutP hP [0, 1, 2, 3, 4] rfl
  have hD9 : va_D A (wX4 (fun i => [h0, q7_5, q15_9, q23_13, q31_17].getD i 0) c zX4) := hD.sub [0, 1, 2, 3, 4] (by decide) rfl
  refine W.widen (k := 4) (n := 129) (Nat.le_of_ble_eq_true rfl) (Nat.le_of_ble_eq_true rfl) ?_
  exact KR (fun i => [h0, q7_5, q15_9, q23_13, q31_17].getD i 0) H _ 36 ls rfl hP9 hD9 hS dX4_init_36
abbrev rmX1_init : Room := { frames := 1, cells := 4, slots := 24, locals := 12 }
set_option maxRecDepth 100000 in
set_option maxHeartbeats 40000000 in
theorem nX1_init (l : Launch) (D : va_G) (c : Nat → ClassId) (tb : Nat) (sa sv : Nat → Nat) (h0 : Nat) : gN l yX1_init wsX1_init rmX1_init D (gY c) (xE tb sa sv) h0 [(h0, .inr (1, [.null, .null, .null, .null, .int 0]))] (fun a => wX1 a c zX1) (fun a : Nat → Nat => a 0) 4 24 := by
  refine gN.start (cc := cX1_init) (maxL := 1) (by decide) rfl (by decide) rfl ?_
  intro p e s m args below meth cd hx hb hml hown hts hin A hA ls hl hP hK hD hS hE Q KR
  have hfX1 : ∀ w ∈ u_ws RX1 TX1 5, w.before args s = true := fun w hw => hts w (List.mem_cons_of_mem _ (List.mem_append_right _ hw))
  have lk0 := hts (.methodLink RX1 1 objectInit) (List.mem_of_getElem? (i := 1) rfl)
  have lk1 := hts (.instanceMethod objectInit) (List.mem_of_getElem? (i := 2) rfl)
  have lk2 := hts (.code objectInit ⟨#[0xb1]⟩ 1 none) (List.mem_of_getElem? (i := 3) rfl)
  have lk3 := hts (.arrayClass .int) (List.mem_of_getElem? (i := 4) rfl)
  have lk4 := hts (.fieldLink RX1 9 "GlitchNets$Deeds" "sorts" "[I") (List.mem_of_getElem? (i := 5) rfl)
  have lk5 := hts (.fieldLink RX1 13 "GlitchNets$Deeds" "places" "[I") (List.mem_of_getElem? (i := 6) rfl)
  have lk6 := hts (.fieldLink RX1 16 "GlitchNets$Deeds" "firsts" "[I") (List.mem_of_getElem? (i := 7) rfl)
  have lk7 := hts (.fieldLink RX1 19 "GlitchNets$Deeds" "seconds" "[I") (List.mem_of_getElem? (i := 8) rfl)
  refine lv_aload_n hx hb dX1_init_0 rfl (lv_at hl 0 rfl) ?_
  refine W.objInit hx hb hown lk0 lk1 lk2 rfl (by rw [hml]; exact hl.1) rfl dX1_init_1 (Nat.le_of_ble_eq_true rfl) (Nat.le_of_ble_eq_true rfl) ?_
  refine W.eq (g2 := F0 m 4 ls []) rfl ?_
  refine lv_aload_n hx hb dX1_init_4 rfl (lv_at hl 0 rfl) ?_
  refine lv_bipush (v := 6) hx hb dX1_init_5 (by decide) ?_
  refine g_newa (atype := .int) (ty := .int) (a0 := (6, .inl (fun _ => 0))) hx hb lk3 rfl hK hP hD hS hA 0 rfl (fun _ h => by cases h) (fun _ => rfl) (by decide) (by decide) (by decide) (Nat.le_of_ble_eq_true rfl) (Nat.le_of_ble_eq_true rfl) dX1_init_7 (fun q7_5 H hP hD hS => ?_)
  have hP : va_P D vwCl ([(h0, .inr (1, [.null, .null, .null, .null, .int 0]))] ++ [(q7_5, .inl (c 0, 6, .inl (fun _ => 0)))]) H := hP
  have hD : va_D A ([(h0, .inr (1, [.null, .null, .null, .null, .int 0]))] ++ [(q7_5, .inl (c 0, 6, .inl (fun _ => 0)))]) := hD
  refine va_putF (D := D) (ci := 1) (v := .ref q7_5) (ty := (.array .int)) (C := RX1) (T := TX1) (N := 5) hx hb hfX1 (fun _ h9 => h9) tyX1 tyX1_ok nmX1 hown hK hP hD hS 0 rfl rfl 0 (by decide) lk4 (fun _ h9 => h9) rfl hin rfl (by decide +kernel) rfl rfl (Nat.le_of_ble_eq_true rfl) dX1_init_9 (fun H locs hP hD hS => ?_)
  have hP : va_P D vwCl ([(h0, .inr (1, [.ref q7_5, .null, .null, .null, .int 0]))] ++ [(q7_5, .inl (c 0, 6, .inl (fun _ => 0)))]) H := hP
  have hD : va_D A ([(h0, .inr (1, [.ref q7_5, .null, .null, .null, .int 0]))] ++ [(q7_5, .inl (c 0, 6, .inl (fun _ => 0)))]) := hD
  refine lv_aload_n hx hb dX1_init_12 rfl (lv_at hl 0 rfl) ?_
  refine lv_bipush (v := 6) hx hb dX1_init_13 (by decide) ?_
  refine g_newa (atype := .int) (ty := .int) (a0 := (6, .inl (fun _ => 0))) hx hb lk3 rfl hK hP hD hS hA 0 rfl (fun _ h => by cases h) (fun _ => rfl) (by decide) (by decide) (by decide) (Nat.le_of_ble_eq_true rfl) (Nat.le_of_ble_eq_true rfl) dX1_init_15 (fun q15_9 H hP hD hS => ?_)
  have hP : va_P D vwCl ([(h0, .inr (1, [.ref q7_5, .null, .null, .null, .int 0]))] ++ [(q7_5, .inl (c 0, 6, .inl (fun _ => 0)))] ++ [(q15_9, .inl (c 0, 6, .inl (fun _ => 0)))]) H := hP
  have hD : va_D A ([(h0, .inr (1, [.ref q7_5, .null, .null, .null, .int 0]))] ++ [(q7_5, .inl (c 0, 6, .inl (fun _ => 0)))] ++ [(q15_9, .inl (c 0, 6, .inl (fun _ => 0)))]) := hD
  refine va_putF (D := D) (ci := 1) (v := .ref q15_9) (ty := (.array .int)) (C := RX1) (T := TX1) (N := 5) hx hb hfX1 (fun _ h9 => h9) tyX1 tyX1_ok nmX1 hown hK hP hD hS 0 rfl rfl 1 (by decide) lk5 (fun _ h9 => h9) rfl hin rfl (by decide +kernel) rfl rfl (Nat.le_of_ble_eq_true rfl) dX1_init_17 (fun H locs hP hD hS => ?_)
  have hP : va_P D vwCl ([(h0, .inr (1, [.ref q7_5, .ref q15_9, .null, .null, .int 0]))] ++ [(q7_5, .inl (c 0, 6, .inl (fun _ => 0)))] ++ [(q15_9, .inl (c 0, 6, .inl (fun _ => 0)))]) H := hP
  have hD : va_D A ([(h0, .inr (1, [.ref q7_5, .ref q15_9, .null, .null, .int 0]))] ++ [(q7_5, .inl (c 0, 6, .inl (fun _ => 0)))] ++ [(q15_9, .inl (c 0, 6, .inl (fun _ => 0)))]) := hD
  refine lv_aload_n hx hb dX1_init_20 rfl (lv_at hl 0 rfl) ?_
  refine lv_bipush (v := 6) hx hb dX1_init_21 (by decide) ?_
  refine g_newa (atype := .int) (ty := .int) (a0 := (6, .inl (fun _ => 0))) hx hb lk3 rfl hK hP hD hS hA 0 rfl (fun _ h => by cases h) (fun _ => rfl) (by decide) (by decide) (by decide) (Nat.le_of_ble_eq_true rfl) (Nat.le_of_ble_eq_true rfl) dX1_init_23 (fun q23_13 H hP hD hS => ?_)
  have hP : va_P D vwCl ([(h0, .inr (1, [.ref q7_5, .ref q15_9, .null, .null, .int 0]))] ++ [(q7_5, .inl (c 0, 6, .inl (fun _ => 0)))] ++ [(q15_9, .inl (c 0, 6, .inl (fun _ => 0)))] ++ [(q23_13, .inl (c 0, 6, .inl (fun _ => 0)))]) H := hP
  have hD : va_D A ([(h0, .inr (1, [.ref q7_5, .ref q15_9, .null, .null, .int 0]))] ++ [(q7_5, .inl (c 0, 6, .inl (fun _ => 0)))] ++ [(q15_9, .inl (c 0, 6, .inl (fun _ => 0)))] ++ [(q23_13, .inl (c 0, 6, .inl (fun _ => 0)))]) := hD
  refine va_putF (D := D) (ci := 1) (v := .ref q23_13) (ty := (.array .int)) (C := RX1) (T := TX1) (N := 5) hx hb hfX1 (fun _ h9 => h9) tyX1 tyX1_ok nmX1 hown hK hP hD hS 0 rfl rfl 2 (by decide) lk6 (fun _ h9 => h9) rfl hin rfl (by decide +kernel) rfl rfl (Nat.le_of_ble_eq_true rfl) dX1_init_25 (fun H locs hP hD hS => ?_)
  have hP : va_P D vwCl ([(h0, .inr (1, [.ref q7_5, .ref q15_9, .ref q23_13, .null, .int 0]))] ++ [(q7_5, .inl (c 0, 6, .inl (fun _ => 0)))] ++ [(q15_9, .inl (c 0, 6, .inl (fun _ => 0)))] ++ [(q23_13, .inl (c 0, 6, .inl (fun _ => 0)))]) H := hP
  have hD : va_D A ([(h0, .inr (1, [.ref q7_5, .ref q15_9, .ref q23_13, .null, .int 0]))] ++ [(q7_5, .inl (c 0, 6, .inl (fun _ => 0)))] ++ [(q15_9, .inl (c 0, 6, .inl (fun _ => 0)))] ++ [(q23_13, .inl (c 0, 6, .inl (fun _ => 0)))]) := hD
  refine lv_aload_n hx hb dX1_init_28 rfl (lv_at hl 0 rfl) ?_
  refine lv_bipush (v := 6) hx hb dX1_init_29 (by decide) ?_
  refine g_newa (atype := .int) (ty := .int) (a0 := (6, .inl (fun _ => 0))) hx hb lk3 rfl hK hP hD hS hA 0 rfl (fun _ h => by cases h) (fun _ => rfl) (by decide) (by decide) (by decide) (Nat.le_of_ble_eq_true rfl) (Nat.le_of_ble_eq_true rfl) dX1_init_31 (fun q31_17 H hP hD hS => ?_)
  have hP : va_P D vwCl ([(h0, .inr (1, [.ref q7_5, .ref q15_9, .ref q23_13, .null, .int 0]))] ++ [(q7_5, .inl (c 0, 6, .inl (fun _ => 0)))] ++ [(q15_9, .inl (c 0, 6, .inl (fun _ => 0)))] ++ [(q23_13, .inl (c 0, 6, .inl (fun _ => 0)))] ++ [(q31_17, .inl (c 0, 6, .inl (fun _ => 0)))]) H := hP
  have hD : va_D A ([(h0, .inr (1, [.ref q7_5, .ref q15_9, .ref q23_13, .null, .int 0]))] ++ [(q7_5, .inl (c 0, 6, .inl (fun _ => 0)))] ++ [(q15_9, .inl (c 0, 6, .inl (fun _ => 0)))] ++ [(q23_13, .inl (c 0, 6, .inl (fun _ => 0)))] ++ [(q31_17, .inl (c 0, 6, .inl (fun _ => 0)))]) := hD
  refine va_putF (D := D) (ci := 1) (v := .ref q31_17) (ty := (.array .int)) (C := RX1) (T := TX1) (N := 5) hx hb hfX1 (fun _ h9 => h9) tyX1 tyX1_ok nmX1 hown hK hP hD hS 0 rfl rfl 3 (by decide) lk7 (fun _ h9 => h9) rfl hin rfl (by decide +kernel) rfl rfl (Nat.le_of_ble_eq_true rfl) dX1_init_33 (fun H locs hP hD hS => ?_)
  have hP : va_P D vwCl ([(h0, .inr (1, [.ref q7_5, .ref q15_9, .ref q23_13, .ref q31_17, .int 0]))] ++ [(q7_5, .inl (c 0, 6, .inl (fun _ => 0)))] ++ [(q15_9, .inl (c 0, 6, .inl (fun _ => 0)))] ++ [(q23_13, .inl (c 0, 6, .inl (fun _ => 0)))] ++ [(q31_17, .inl (c 0, 6, .inl (fun _ => 0)))]) H := hP
  have hD : va_D A ([(h0, .inr (1, [.ref q7_5, .ref q15_9, .ref q23_13, .ref q31_17, .int 0]))] ++ [(q7_5, .inl (c 0, 6, .inl (fun _ => 0)))] ++ [(q15_9, .inl (c 0, 6, .inl (fun _ => 0)))] ++ [(q23_13, .inl (c 0, 6, .inl (fun _ => 0)))] ++ [(q31_17, .inl (c 0, 6, .inl (fun _ => 0)))]) := hD
  have hP9 : va_P D vwCl (wX1 (fun i => [h0, q7_5, q15_9, q23_13, q31_17].getD i 0) c zX1) H := g_cutP hP [0, 1, 2, 3, 4] rfl
  have hD9 : va_D A (wX1 (fun i => [h0, q7_5, q15_9, q23_13, q31_17].getD i 0) c zX1) := hD.sub [0, 1, 2, 3, 4] (by decide) rfl
  refine W.widen (k := 4) (n := 24) (Nat.le_of_ble_eq_true rfl) (Nat.le_of_ble_eq_true rfl) ?_
  exact KR (fun i => [h0, q7_5, q15_9, q23_13, q31_17].getD i 0) H _ 36 ls rfl hP9 hD9 hS dX1_init_36
abbrev rmX5_init : Room := { frames := 1, cells := 1, slots := 40, locals := 12 }
set_option maxRecDepth 100000 in
set_option maxHeartbeats 40000000 in
theorem nX5_init (l : Launch) (D : va_G) (c : Nat → ClassId) (tb : Nat) (sa sv : Nat → Nat) (h0 : Nat) : gN l yX5_init wsX5_init rmX5_init D (gY c) (xE tb sa sv) h0 [(h0, .inr (5, [.null, .int 0, .int 0]))] (fun a => wX5 a c zX5) (fun a : Nat → Nat => a 0) 1 40 := by
  refine gN.start (cc := cX5_init) (maxL := 1) (by decide) rfl (by decide) rfl ?_
  intro p e s m args below meth cd hx hb hml hown hts hin A hA ls hl hP hK hD hS hE Q KR
  have hfX5 : ∀ w ∈ u_ws RX5 TX5 3, w.before args s = true := fun w hw => hts w (List.mem_cons_of_mem _ (List.mem_append_right _ hw))
  have lk0 := hts (.methodLink RX5 3 objectInit) (List.mem_of_getElem? (i := 1) rfl)
  have lk1 := hts (.instanceMethod objectInit) (List.mem_of_getElem? (i := 2) rfl)
  have lk2 := hts (.code objectInit ⟨#[0xb1]⟩ 1 none) (List.mem_of_getElem? (i := 3) rfl)
  have lk3 := hts (.arrayClass .int) (List.mem_of_getElem? (i := 4) rfl)
  have lk4 := hts (.fieldLink RX5 11 "GlitchNets$Sheet" "items" "[I") (List.mem_of_getElem? (i := 5) rfl)
  have lk5 := hts (.fieldLink RX5 15 "GlitchNets$Sheet" "sort" "I") (List.mem_of_getElem? (i := 6) rfl)
  refine lv_aload_n hx hb dX5_init_0 rfl (lv_at hl 0 rfl) ?_
  refine W.objInit hx hb hown lk0 lk1 lk2 rfl (by rw [hml]; exact hl.1) rfl dX5_init_1 (Nat.le_of_ble_eq_true rfl) (Nat.le_of_ble_eq_true rfl) ?_
  refine W.eq (g2 := F0 m 4 ls []) rfl ?_
  refine lv_aload_n hx hb dX5_init_4 rfl (lv_at hl 0 rfl) ?_
  refine lv_bipush (v := 40) hx hb dX5_init_5 (by decide) ?_
  refine g_newa (atype := .int) (ty := .int) (a0 := (40, .inl (fun _ => 0))) hx hb lk3 rfl hK hP hD hS hA 0 rfl (fun _ h => by cases h) (fun _ => rfl) (by decide) (by decide) (by decide) (Nat.le_of_ble_eq_true rfl) (Nat.le_of_ble_eq_true rfl) dX5_init_7 (fun q7_5 H hP hD hS => ?_)
  have hP : va_P D vwCl ([(h0, .inr (5, [.null, .int 0, .int 0]))] ++ [(q7_5, .inl (c 0, 40, .inl (fun _ => 0)))]) H := hP
  have hD : va_D A ([(h0, .inr (5, [.null, .int 0, .int 0]))] ++ [(q7_5, .inl (c 0, 40, .inl (fun _ => 0)))]) := hD
  refine va_putF (D := D) (ci := 5) (v := .ref q7_5) (ty := (.array .int)) (C := RX5) (T := TX5) (N := 3) hx hb hfX5 (fun _ h9 => h9) tyX5 tyX5_ok nmX5 hown hK hP hD hS 0 rfl rfl 0 (by decide) lk4 (fun _ h9 => h9) rfl hin rfl (by decide +kernel) rfl rfl (Nat.le_of_ble_eq_true rfl) dX5_init_9 (fun H locs hP hD hS => ?_)
  have hP : va_P D vwCl ([(h0, .inr (5, [.ref q7_5, .int 0, .int 0]))] ++ [(q7_5, .inl (c 0, 40, .inl (fun _ => 0)))]) H := hP
  have hD : va_D A ([(h0, .inr (5, [.ref q7_5, .int 0, .int 0]))] ++ [(q7_5, .inl (c 0, 40, .inl (fun _ => 0)))]) := hD
  refine lv_aload_n hx hb dX5_init_12 rfl (lv_at hl 0 rfl) ?_
  refine lv_iconst (v := -1) hx hb dX5_init_13 (by decide) ?_
  refine va_put (D := D) (ci := 5) (v := .int (-1 : Int32)) (ty := .int) (C := RX5) (T := TX5) (N := 3) hx hb hfX5 (fun _ h9 => h9) tyX5 tyX5_ok nmX5 hown hK hP hD hS 0 rfl rfl 1 (by decide) lk5 (fun _ h9 => h9) rfl (by decide +kernel) rfl rfl (Nat.le_of_ble_eq_true rfl) dX5_init_14 (fun H locs hP hD hS => ?_)
  have hP : va_P D vwCl ([(h0, .inr (5, [.ref q7_5, .int (-1 : Int32), .int 0]))] ++ [(q7_5, .inl (c 0, 40, .inl (fun _ => 0)))]) H := hP
  have hD : va_D A ([(h0, .inr (5, [.ref q7_5, .int (-1 : Int32), .int 0]))] ++ [(q7_5, .inl (c 0, 40, .inl (fun _ => 0)))]) := hD
  have hP9 : va_P D vwCl (wX5 (fun i => [h0, q7_5].getD i 0) c zX5) H := g_cutP hP [0, 1] rfl
  have hD9 : va_D A (wX5 (fun i => [h0, q7_5].getD i 0) c zX5) := hD.sub [0, 1] (by decide) rfl
  refine W.widen (k := 1) (n := 40) (Nat.le_of_ble_eq_true rfl) (Nat.le_of_ble_eq_true rfl) ?_
  exact KR (fun i => [h0, q7_5].getD i 0) H _ 17 ls rfl hP9 hD9 hS dX5_init_17
