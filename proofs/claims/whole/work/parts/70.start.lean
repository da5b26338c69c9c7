/-! THE LAW, 4: the classes, the environment, the start -/
theorem law_arr {args : Array Value} {s : State} {ty : FieldType} (hprim : ∀ C, ty ≠ .object C) (h : (Cond.arrayClass ty).before args s = true) : ∃ cA, ArrOfT s cA ty ∧ va_RA s cA ty := by
  obtain ⟨cA, k, comp, h1, h2, h3⟩ := Cond.arrayClass_spec (args := args) (first := s) (o := none) (s := s) (idx := []) h
  refine ⟨cA, fun N z => ⟨(fun k h => by cases h), k, h2, comp, h3⟩, ?_⟩
  unfold va_RA
  cases ty with
  | object C => exact absurd rfl (hprim C)
  | _ => exact h1
theorem law_arrq {args : Array Value} {s : State} {C : String} (h : (Cond.arrayOver (.object C)).before args s = true) : ∃ cA, ArrOfT s cA (.object C) ∧ va_RA s cA (.object C) := by
  obtain ⟨comp, cA, k, h1, h2, h3, h4, h5⟩ := Cond.arrayOver_spec (args := args) (first := s) (o := none) (s := s) (idx := []) h
  exact ⟨cA, fun N z => ⟨(fun k h => by cases h), k, h3, comp, h4⟩, k, comp, h3, h4, h1, h5⟩
set_option maxRecDepth 100000 in
theorem law_K {args : Array Value} {s : State} (hts : ∀ w ∈ lw_tbl, w.before args s = true) : ∃ (D : va_G) (c : Nat → ClassId), va_K D vwCl (gY c) s := by
  obtain ⟨c0, i0, k0⟩ := u_known (C := RX0) (T := TX0) (N := 3) (n := 3) hts inX0 (hts (.instantiable RX0 3) (List.mem_of_getElem? (i := 182) (by decide +kernel)))
  obtain ⟨c1, i1, k1⟩ := u_known (C := RX1) (T := TX1) (N := 5) (n := 5) hts inX1 (hts (.instantiable RX1 5) (List.mem_of_getElem? (i := 226) (by decide +kernel)))
  obtain ⟨c2, i2, k2⟩ := u_known (C := RX2) (T := TX2) (N := 6) (n := 6) hts inX2 (hts (.instantiable RX2 6) (List.mem_of_getElem? (i := 93) (by decide +kernel)))
  obtain ⟨c3, i3, k3⟩ := u_known (C := RX3) (T := TX3) (N := 7) (n := 7) hts inX3 (hts (.instantiable RX3 7) (List.mem_of_getElem? (i := 122) (by decide +kernel)))
  obtain ⟨c4, i4, k4⟩ := u_known (C := RX4) (T := TX4) (N := 5) (n := 5) hts inX4 (hts (.instantiable RX4 5) (List.mem_of_getElem? (i := 201) (by decide +kernel)))
  obtain ⟨c5, i5, k5⟩ := u_known (C := RX5) (T := TX5) (N := 3) (n := 3) hts inX5 (hts (.instantiable RX5 3) (List.mem_of_getElem? (i := 254) (by decide +kernel)))
  obtain ⟨c6, i6, k6⟩ := u_known (C := RX6) (T := TX6) (N := 2) (n := 2) hts inX6 (hts (.instantiable RX6 2) (List.mem_of_getElem? (i := 76) (by decide +kernel)))
  obtain ⟨c7, i7, k7⟩ := u_known (C := RX7) (T := TX7) (N := 4) (n := 4) hts inX7 (hts (.instantiable RX7 4) (List.mem_of_getElem? (i := 162) (by decide +kernel)))
  obtain ⟨c8, i8, k8⟩ := u_known (C := RX8) (T := TX8) (N := 12) (n := 12) hts inX8 (hts (.instantiable RX8 12) (List.mem_of_getElem? (i := 68) (by decide +kernel)))
  obtain ⟨c9, i9, k9⟩ := u_known (C := RX9) (T := TX9) (N := 24) (n := 24) hts inX9 (hts (.instantiable RX9 24) (List.mem_of_getElem? (i := 820) (by decide +kernel)))
  obtain ⟨a0, e0, r0⟩ := law_arr (ty := .int) (fun C h => by cases h) (hts (.arrayClass .int) (List.mem_of_getElem? (i := 91) (by decide +kernel)))
  obtain ⟨a1, e1, r1⟩ := law_arr (ty := .long) (fun C h => by cases h) (hts (.arrayClass .long) (List.mem_of_getElem? (i := 180) (by decide +kernel)))
  obtain ⟨a2, e2, r2⟩ := law_arr (ty := .char) (fun C h => by cases h) (hts (.arrayClass .char) (List.mem_of_getElem? (i := 898) (by decide +kernel)))
  obtain ⟨a3, e3, r3⟩ := law_arrq (hts (.arrayOver (.object "GlitchNets$Sheet")) (List.mem_of_getElem? (i := 253) (by decide +kernel)))
  refine ⟨(fun k => ([c0, c1, c2, c3, c4, c5, c6, c7, c8, c9] : List ClassId).getD k c0, fun k => ([i0, i1, i2, i3, i4, i5, i6, i7, i8, i9] : List (Nat → Nat)).getD k i0), fun k => ([a0, a1, a2, a3] : List ClassId).getD k a0, ?_, ?_⟩
  · intro k q hq
    match k, hq with
    | 0, hq => cases hq; exact k0
    | 1, hq => cases hq; exact k1
    | 2, hq => cases hq; exact k2
    | 3, hq => cases hq; exact k3
    | 4, hq => cases hq; exact k4
    | 5, hq => cases hq; exact k5
    | 6, hq => cases hq; exact k6
    | 7, hq => cases hq; exact k7
    | 8, hq => cases hq; exact k8
    | 9, hq => cases hq; exact k9
    | k + 10, hq => simp at hq
  · intro k q hq
    match k, hq with
    | 0, hq => cases hq; exact ⟨e0, r0⟩
    | 1, hq => cases hq; exact ⟨e1, r1⟩
    | 2, hq => cases hq; exact ⟨e2, r2⟩
    | 3, hq => cases hq; exact ⟨e3, r3⟩
    | k + 4, hq => simp at hq
abbrev law_st (i : Nat) : Term := .string "GlitchNets" (328 + 2 * i)
abbrev law_vl (i : Nat) : Term := .field (law_st i) "java/lang/String" "value" "[B"
abbrev law_tb : Term := .static "GlitchNets" "INPUT_TABLES" "[I"
set_option maxRecDepth 100000 in
theorem law_f0 : (Cond.arrayOf law_tb .int) ∈ flatC (Jvm.Cond.and given_1 narrow_1) := by decide +kernel
set_option maxRecDepth 100000 in
theorem law_f1 : (Cond.eq (.length law_tb) (.int (Int32.ofNat 4))) ∈ flatC (Jvm.Cond.and given_1 narrow_1) := by decide +kernel
set_option maxRecDepth 100000 in
theorem law_f2 : ∀ j, j < 4 → (Cond.eq (.elem law_tb (.int (Int32.ofNat j))) (.int (itab j))) ∈ flatC (Jvm.Cond.and given_1 narrow_1) := by decide +kernel
set_option maxRecDepth 100000 in
theorem law_f3 : (Cond.eq (.static "java/lang/String" "COMPACT_STRINGS" "Z") (.int 1)) ∈ flatC (Jvm.Cond.and given_1 narrow_1) := by decide +kernel
set_option maxRecDepth 100000 in
theorem law_f4 : (Cond.isRef (.static "jdk/internal/util/Preconditions" "SIOOBE_FORMATTER" "Ljava/util/function/BiFunction;")) ∈ flatC (Jvm.Cond.and given_1 narrow_1) := by decide +kernel
set_option maxRecDepth 100000 in
theorem law_f5 : ∀ i, i < 6 → (Cond.exactly (law_st i) "java/lang/String") ∈ flatC (Jvm.Cond.and given_1 narrow_1) := by decide +kernel
set_option maxRecDepth 100000 in
theorem law_f6 : ∀ i, i < 6 → (Cond.eq (.field (law_st i) "java/lang/String" "coder" "B") (.int 0)) ∈ flatC (Jvm.Cond.and given_1 narrow_1) := by decide +kernel
set_option maxRecDepth 100000 in
theorem law_f7 : ∀ i, i < 6 → (Cond.arrayOf (law_vl i) .byte) ∈ flatC (Jvm.Cond.and given_1 narrow_1) := by decide +kernel
set_option maxRecDepth 100000 in
theorem law_f8 : ∀ i, i < 6 → (Cond.eq (.length (law_vl i)) (.int (Int32.ofNat (slenL.getD i 0)))) ∈ flatC (Jvm.Cond.and given_1 narrow_1) := by decide +kernel
set_option maxRecDepth 100000 in
theorem law_f9 : ∀ i, i < 6 → ∀ j, j < slenL.getD i 0 → (Cond.eq (.elem (law_vl i) (.int (Int32.ofNat j))) (.int ((sbytL.getD i []).getD j 0))) ∈ flatC (Jvm.Cond.and given_1 narrow_1) := by decide +kernel
set_option maxRecDepth 100000 in
theorem law_f10 : ∀ i, i < 6 → ∀ j, j < 6 → i ≠ j → (Cond.not (Cond.eq (law_st i) (law_st j))) ∈ flatC (Jvm.Cond.and given_1 narrow_1) ∨ (Cond.not (Cond.eq (law_st j) (law_st i))) ∈ flatC (Jvm.Cond.and given_1 narrow_1) := by decide +kernel
set_option maxRecDepth 100000 in
theorem law_env {args : Array Value} {s : State} (hts : ∀ w ∈ lw_tbl, w.before args s = true) (hgv : (Jvm.Cond.and given_1 narrow_1).before args s = true) : ∃ (tb : Nat) (sa sv : Nat → Nat), xE tb sa sv (fun q : Nat => s.heap.size ≤ q) s := by
  have hs := flat_of_before _ hgv
  have hA : ∀ a : Nat, a < s.heap.size → ¬ (fun q : Nat => s.heap.size ≤ q) a := fun a h => Nat.not_le.mpr h
  obtain ⟨tb, ht, hT⟩ := va_Tof (f := fun j => .int (itab j)) (A := fun q : Nat => s.heap.size ≤ q) (N := 4) (tm := law_tb) (ty := .int) (by decide) (hs _ law_f0) (va_eqt (hs _ law_f1)) (fun j hj => va_eqt (hs _ (law_f2 j hj))) hA
  obtain ⟨sa, sv, hk, hr⟩ := vk_Sof (N := 6) (tm := law_st) (len := slenL) (byt := sbytL) (A := fun q : Nat => s.heap.size ≤ q) (by decide) (fun i hi => hs _ (law_f5 i hi)) (fun i hi => hs _ (law_f6 i hi)) (fun i hi => hs _ (law_f7 i hi)) (fun i hi => hs _ (law_f8 i hi)) (fun i hi j hj => hs _ (law_f9 i hi j hj)) (fun i j hi hj hij => (law_f10 i hi j hj hij).imp (fun h => hs _ h) (fun h => hs _ h)) hA
  refine ⟨tb, sa, sv, ?_⟩
  unfold xE
  refine ⟨?_, hT, ?_, ?_, hk, ?_, ?_, ?_, ?_, ?_, ?_, ?_, ?_, ?_, ?_, ?_, ?_, ?_, ?_, ?_, ?_, ?_, ?_, ?_, ?_, ?_, ?_, ?_⟩
  · exact va_Zref (hts (.laysStatic "GlitchNets" "INPUT_TABLES" "[I") (List.mem_of_getElem? (i := 128) (by decide +kernel))) (hts (.initialized "GlitchNets") (List.mem_of_getElem? (i := 49) (by decide +kernel))) ht hA
  · exact va_Zof (hts (.laysStatic "java/lang/String" "COMPACT_STRINGS" "Z") (List.mem_of_getElem? (i := 381) (by decide +kernel))) (hts (.initialized "java/lang/String") (List.mem_of_getElem? (i := 59) (by decide +kernel))) (va_eqt (hs _ law_f3)) hA
  · exact va_Zqof (hts (.laysStatic "jdk/internal/util/Preconditions" "SIOOBE_FORMATTER" "Ljava/util/function/BiFunction;") (List.mem_of_getElem? (i := 397) (by decide +kernel))) (hts (.initialized "jdk/internal/util/Preconditions") (List.mem_of_getElem? (i := 61) (by decide +kernel))) (hs _ law_f4) hA
  · exact vk_R.of (A := args) (hts (.stringRef "GlitchNets" 328 "and") (List.mem_of_getElem? (i := 362) (by decide +kernel))) (hr 0 (by decide))
  · exact vk_R.of (A := args) (hts (.stringRef "GlitchNets" 330 "nand") (List.mem_of_getElem? (i := 363) (by decide +kernel))) (hr 1 (by decide))
  · exact vk_R.of (A := args) (hts (.stringRef "GlitchNets" 332 "or") (List.mem_of_getElem? (i := 364) (by decide +kernel))) (hr 2 (by decide))
  · exact vk_R.of (A := args) (hts (.stringRef "GlitchNets" 334 "nor") (List.mem_of_getElem? (i := 365) (by decide +kernel))) (hr 3 (by decide))
  · exact vk_R.of (A := args) (hts (.stringRef "GlitchNets" 336 "xor") (List.mem_of_getElem? (i := 366) (by decide +kernel))) (hr 4 (by decide))
  · exact vk_R.of (A := args) (hts (.stringRef "GlitchNets" 338 "not") (List.mem_of_getElem? (i := 367) (by decide +kernel))) (hr 5 (by decide))
  · exact va_Nw.of (A := args) rfl (hts (.methodLinkNest RX8 9 yX6_init "GlitchNets") (List.mem_of_getElem? (i := 77) (by decide +kernel)))
  · exact va_Nw.of (A := args) rfl (hts (.methodLinkNest RX8 18 yX2_init "GlitchNets") (List.mem_of_getElem? (i := 94) (by decide +kernel)))
  · exact va_Nw.of (A := args) rfl (hts (.methodLinkNest RX8 35 yX7_init "GlitchNets") (List.mem_of_getElem? (i := 163) (by decide +kernel)))
  · exact va_Nw.of (A := args) rfl (hts (.methodLinkNest RX8 42 yX0_init "GlitchNets") (List.mem_of_getElem? (i := 183) (by decide +kernel)))
  · exact va_Nw.of (A := args) rfl (hts (.methodLinkNest RX8 49 yX4_init "GlitchNets") (List.mem_of_getElem? (i := 202) (by decide +kernel)))
  · exact va_Nw.of (A := args) rfl (hts (.methodLinkNest RX8 56 yX1_init "GlitchNets") (List.mem_of_getElem? (i := 227) (by decide +kernel)))
  · exact va_Nw.of (A := args) rfl (hts (.methodLinkNest RX8 73 yX5_init "GlitchNets") (List.mem_of_getElem? (i := 255) (by decide +kernel)))
  · exact va_Nw.of (A := args) rfl (hts (.methodLinkNest RX2 62 yX8_wordOf "GlitchNets") (List.mem_of_getElem? (i := 359) (by decide +kernel)))
  · exact va_Nw.of (A := args) rfl (hts (.methodLinkNest RX2 45 yX8_isWithin "GlitchNets") (List.mem_of_getElem? (i := 430) (by decide +kernel)))
  · exact va_Nw.of (A := args) rfl (hts (.methodLinkNest RX3 51 yX8_combined "GlitchNets") (List.mem_of_getElem? (i := 515) (by decide +kernel)))
  · exact va_Nw.of (A := args) rfl (hts (.methodLinkNest RX7 61 yX8_combined "GlitchNets") (List.mem_of_getElem? (i := 548) (by decide +kernel)))
  · exact va_Nw.of (A := args) rfl (hts (.methodLinkNest RX0 34 yX8_held "GlitchNets") (List.mem_of_getElem? (i := 655) (by decide +kernel)))
  · exact va_Nw.of (A := args) rfl (hts (.methodLinkNest RX0 44 yX8_pairsAmong "GlitchNets") (List.mem_of_getElem? (i := 665) (by decide +kernel)))
  · exact va_Nw.of (A := args) rfl (hts (.methodLinkNest RX4 40 yX8_held "GlitchNets") (List.mem_of_getElem? (i := 687) (by decide +kernel)))
  · exact va_Nw.of (A := args) rfl (hts (.methodLinkNest RX4 44 yX8_pairsAmong "GlitchNets") (List.mem_of_getElem? (i := 692) (by decide +kernel)))
  · exact va_AO.of (A := args) (hts (.arrayOver (.object "GlitchNets$Sheet")) (List.mem_of_getElem? (i := 253) (by decide +kernel)))
  · exact va_Nw.of (A := args) rfl (hts (.fieldLinkNest RX3 30 "GlitchNets" "INPUT_TABLES" "[I" "GlitchNets") (List.mem_of_getElem? (i := 127) (by decide +kernel)))
set_option maxRecDepth 100000 in
set_option maxHeartbeats 4000000 in
/-- THE LAW, from its entry -/
theorem whole_start {p : Program} {e : Env} {s : State} {m : MethodId} {below : List Frame} {meth : Method} {c : Code} (l : Launch) (hflags : l.flags = flags0) {b L : Nat} {xs : Nat → Int32} (hL : L ≤ 3584) (C0 : lw_At p s m meth c b L xs) : W p l e room_1 s m #[Value.ref b] below meth c s.heap [] 0 0 (lw_Z below #[Value.ref b] s) (entryFrame m ([Value.ref b] : List Value).toArray 4) := by
  obtain ⟨hx, hb, hr, hml, hown, hts, hX, hbl, hlocks, hgv⟩ := id C0
  obtain ⟨D, cA, hK⟩ := law_K hts
  obtain ⟨tb, sa, sv, hE⟩ := law_env hts hgv
  have C : LC p s m meth c b L xs D cA tb sa sv := ⟨C0, hL, hK, hE⟩
  have hA : ∀ q : Nat, s.heap.size ≤ q → (fun q : Nat => s.heap.size ≤ q) q := fun _ h => h
  have hts9 : ∀ w ∈ wsL_law, w.before #[Value.ref b] s = true := fun w h => hts w (wsL_law_in w h)
  have hown : s.vm.findClass RL = some m.cls := hown
  have hS : va_S (fun q : Nat => s.heap.size ≤ q) s.heap s.heap [] := va_S.rf
  have hP : va_P D vwCl [] s.heap := g_P0
  have hD : va_D (fun q : Nat => s.heap.size ≤ q) [] := g_D0
  have hl := lv_entry ([.ref b]) (n := 4) (Nat.le_of_ble_eq_true rfl)
  rw [lg_entry_eq]
  generalize (lg_sl ([.ref b]) ++ List.replicate (4 - (lg_sl ([.ref b])).length) Slot.unset).toArray = ls at hl ⊢
  have hl : lv_has ls 4 [(0, .ref b)] := hl
  refine va_new (ci := 8) (fs := [.null, .null, .null, .null, .null, .null, .null, .null, .null, .null, .int 0, .null]) (C := RX8) (T := TX8) (N := 12) hx hb hts inX8 tyX8 tyX8_ok hown (hts (.classLink RL 7 RX8) (List.mem_of_getElem? (i := 67) (by decide +kernel))) (hts (.instantiable RX8 12) (List.mem_of_getElem? (i := 68) (by decide +kernel))) (hts (.initialized RX8) (List.mem_of_getElem? (i := 49) (by decide +kernel))) hK hP hD hS hA rfl (fun j hj => by rcases (show j = 0 ∨ j = 1 ∨ j = 2 ∨ j = 3 ∨ j = 4 ∨ j = 5 ∨ j = 6 ∨ j = 7 ∨ j = 8 ∨ j = 9 ∨ j = 10 ∨ j = 11 by omega) with rfl | rfl | rfl | rfl | rfl | rfl | rfl | rfl | rfl | rfl | rfl | rfl <;> rfl) (Nat.le_of_ble_eq_true rfl) (Nat.le_of_ble_eq_true rfl) dL_law_0 (fun q8 H hP hD hS => ?_)
  have hW0 : L2 D (fun q : Nat => s.heap.size ≤ q) [(q8, .inr (8, [.null, .null, .null, .null, .null, .null, .null, .null, .null, .null, .int 0, .null]))] [] H := ⟨hP, g_P0, hD, g_D0, fun x _ y hy => absurd hy List.not_mem_nil⟩
  refine lv_dup hx hb dL_law_3 rfl ?_
  refine g_newT (gr_N (rest := [.ref q8]) hx hb hml hown hts9 (nX8_init l D cA tb sa sv q8) gL_law_X8_init rfl rfl rfl (hts (.methodLink RL 9 yX8_init) (List.mem_of_getElem? (i := 69) (by decide +kernel))) (hts (.initialized RX8) (List.mem_of_getElem? (i := 49) (by decide +kernel))) (hts (.instanceMethod yX8_init) (List.mem_of_getElem? (i := 70) (by decide +kernel))) rfl (by decide +kernel) ⟨Nat.le_of_ble_eq_true rfl, Nat.le_of_ble_eq_true rfl⟩ ⟨Nat.le_of_ble_eq_true rfl, Nat.le_of_ble_eq_true rfl⟩ xE_ok hW0.1 hW0.2.2.1 hK (xE_ok.tr hE hS (g_free hW0.2.2.1 hS hA)) hl.1 (Nat.le_of_ble_eq_true rfl) dL_law_4) hW0 hS hA (fun a H1 locs1 ha hW1 hS1 => ?_)
  subst ha
  refine lv_astore_n (lv' := [(1, .ref (a 0 0)), (0, .ref b)]) hx hb dL_law_7 rfl hl (by decide) rfl (fun ls hl => ?_)
  refine va_new (ci := 9) (fs := [.null, .null, .int 0, .null, .int 0, .null, .int 0, .int 0, .int 0, .int 0, .null, .null, .null, .null, .int 0, .int 0, .null, .int 0, .null, .int 0, .null, .null, .null, .null]) (C := RX9) (T := TX9) (N := 24) hx hb hts inX9 tyX9 tyX9_ok hown (hts (.classLink RL 10 RX9) (List.mem_of_getElem? (i := 819) (by decide +kernel))) (hts (.instantiable RX9 24) (List.mem_of_getElem? (i := 820) (by decide +kernel))) (hts (.initialized RX9) (List.mem_of_getElem? (i := 58) (by decide +kernel))) hK hW1.1 hW1.2.2.1 hS1 hA rfl (fun j hj => by rcases (show j = 0 ∨ j = 1 ∨ j = 2 ∨ j = 3 ∨ j = 4 ∨ j = 5 ∨ j = 6 ∨ j = 7 ∨ j = 8 ∨ j = 9 ∨ j = 10 ∨ j = 11 ∨ j = 12 ∨ j = 13 ∨ j = 14 ∨ j = 15 ∨ j = 16 ∨ j = 17 ∨ j = 18 ∨ j = 19 ∨ j = 20 ∨ j = 21 ∨ j = 22 ∨ j = 23 by omega) with rfl | rfl | rfl | rfl | rfl | rfl | rfl | rfl | rfl | rfl | rfl | rfl | rfl | rfl | rfl | rfl | rfl | rfl | rfl | rfl | rfl | rfl | rfl | rfl <;> rfl) (Nat.le_of_ble_eq_true rfl) (Nat.le_of_ble_eq_true rfl) dL_law_8 (fun q9 H2 hP2 hD2 hS2 => ?_)
  have hW2 := (L2.app hP2 hD2).swap
  refine lv_dup hx hb dL_law_11 rfl ?_
  refine g_newT (gr_N (rest := [.ref q9]) hx hb hml hown hts9 (nX9_init l D cA tb sa sv q9) gL_law_X9_init rfl rfl rfl (hts (.methodLink RL 12 yX9_init) (List.mem_of_getElem? (i := 821) (by decide +kernel))) (hts (.initialized RX9) (List.mem_of_getElem? (i := 58) (by decide +kernel))) (hts (.instanceMethod yX9_init) (List.mem_of_getElem? (i := 822) (by decide +kernel))) rfl (by decide +kernel) ⟨Nat.le_of_ble_eq_true rfl, Nat.le_of_ble_eq_true rfl⟩ ⟨Nat.le_of_ble_eq_true rfl, Nat.le_of_ble_eq_true rfl⟩ gT_ok hW2.1 hW2.2.2.1 hK (fun _ _ _ => trivial) hl.1 (Nat.le_of_ble_eq_true rfl) dL_law_12) hW2 hS2 hA (fun a9 H3 locs3 ha9 hW3 hS3 => ?_)
  subst ha9
  refine lv_astore_n (lv' := [(2, .ref (a9 0)), (1, .ref (a 0 0)), (0, .ref b)]) hx hb dL_law_15 rfl hl (by decide) rfl (fun ls hl => ?_)
  refine lv_iconst (v := nI 0) hx hb dL_law_16 (by decide) ?_
  refine lv_istore_n (lv' := [(3, .int (nI 0)), (2, .ref (a9 0)), (1, .ref (a 0 0)), (0, .ref b)]) hx hb dL_law_17 rfl hl (by decide) rfl (fun ls hl => ?_)
  refine W.widen (k := 600000) (n := 7302250) (Nat.le_of_ble_eq_true rfl) (Nat.le_of_ble_eq_true rfl) ?_
  exact law_loop C (L + 1) 0 (nI 0) zX zX9 H3 locs3 ls (Nat.zero_le L) (by omega) rfl rel0 hW3.swap hS3 (lv_sub hl [3, 2, 1, 0] rfl)
