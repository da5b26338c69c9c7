abbrev rmX1_forgetEarliest : Room := { frames := 0, cells := 0, slots := 0, locals := 0 }
set_option maxRecDepth 100000 in
set_option maxHeartbeats 40000000 in
theorem cX1_forgetEarliest_met (l : Launch) (D : va_G) (c : Nat → ClassId) (tb : Nat) (sa sv : Nat → Nat) (a0 : Nat → Nat) (s0 : Mem) (z0 : Mem) (h : fX1_forgetEarliest s0 = some z0) : gM l yX1_forgetEarliest wsX1_forgetEarliest rmX1_forgetEarliest D (gY c) (xE tb sa sv) [.ref (a0 0)] (wX1 a0 c s0) none (wX1 a0 c z0) := by
  unfold fX1_forgetEarliest at h
  refine gM.V (cc := cX1_forgetEarliest) (maxL := 2) (by decide) rfl (Nat.le_of_ble_eq_true rfl) ?_
  intro p e s m args below meth cd hx hb hml hown hts A hA ls hl hP hK hD hS hE Q KR0
  have hfX1 : ∀ w ∈ u_ws RX1 TX1 5, w.before args s = true := fun w hw => hts w (List.mem_cons_of_mem _ (List.mem_append_right _ hw))
  have lk0 := hts (.fieldLink RX1 22 "GlitchNets$Deeds" "size" "I") (List.mem_of_getElem? (i := 1) rfl)
  have lk1 := hts (.fieldLink RX1 9 "GlitchNets$Deeds" "sorts" "[I") (List.mem_of_getElem? (i := 2) rfl)
  have lk2 := hts (.fieldLink RX1 13 "GlitchNets$Deeds" "places" "[I") (List.mem_of_getElem? (i := 3) rfl)
  have lk3 := hts (.fieldLink RX1 16 "GlitchNets$Deeds" "firsts" "[I") (List.mem_of_getElem? (i := 4) rfl)
  have lk4 := hts (.fieldLink RX1 19 "GlitchNets$Deeds" "seconds" "[I") (List.mem_of_getElem? (i := 5) rfl)
  have KR : ∀ (w0 : Mem) (H : Heap) (locs : List Loc) (pc : Nat) (ls : Array Slot), some w0 = some z0 → va_P D vwCl (wX1 a0 c w0) H → va_D A (wX1 a0 c w0) → va_S A s.heap H locs → decode cX1_forgetEarliest pc = .ok (.return_, 1) → W p l e rmX1_forgetEarliest s m args below meth cd H locs 0 0 Q (F0 m pc ls []) := by
    intro w0 H locs pc ls hr hP hD hS hd
    cases hr
    exact KR0 H locs pc ls hP hD hS hd
  have hl : lv_has ls 2 [(0, .ref (a0 0))] := hl
  have J2 : ∀ (n : Nat) (x1 : Int32) (s0 : Mem) (H : Heap) (locs : List Loc) (ls : Array Slot), fX1_forgetEarliest_b2 n x1 s0 = some z0 → va_P D vwCl (wX1 a0 c s0) H → va_D A (wX1 a0 c s0) → va_S A s.heap H locs → lv_has ls 2 [(0, .ref (a0 0)), (1, .int x1)] → W p l e rmX1_forgetEarliest s m args below meth cd H locs 0 0 Q (F0 m 2 ls []) := by
    intro n
    induction n with
    | zero =>
      intro x1 s0 H locs ls h _ _ _ _
      cases (show (none : Option (Mem)) = some _ from h)
    | succ n K2h =>
      intro x1 s0 H locs ls h hP hD hS hl
      rw [fX1_forgetEarliest_b2] at h
      refine lv_iload_n (pc := 2) hx hb dX1_forgetEarliest_2 rfl (lv_at hl 1 rfl) ?_
      refine lv_aload_n (pc := 3) hx hb dX1_forgetEarliest_3 rfl (lv_at hl 0 rfl) ?_
      refine va_get (D := D) (ci := 1) (v := .int (s0.1 4 0)) (C := RX1) (T := TX1) (N := 5) (pc := 4) hx hb hfX1 (fun _ h9 => h9) hown hK hP 0 rfl rfl 4 (by decide) lk0 (fun _ h9 => h9) rfl dX1_forgetEarliest_4 ?_
      refine lv_icmp_ge (tgt := 72) (pc := 7) hx hb dX1_forgetEarliest_7 (by decide) (fun c7 => ?_) (fun c7 => ?_)
      · replace h := it_t c7 h
        refine lv_aload_n (pc := 72) hx hb dX1_forgetEarliest_72 rfl (lv_at hl 0 rfl) ?_
        refine lv_dup (pc := 73) hx hb dX1_forgetEarliest_73 rfl ?_
        refine va_get (D := D) (ci := 1) (v := .int (s0.1 4 0)) (C := RX1) (T := TX1) (N := 5) (pc := 74) hx hb hfX1 (fun _ h9 => h9) hown hK hP 0 rfl rfl 4 (by decide) lk0 (fun _ h9 => h9) rfl dX1_forgetEarliest_74 ?_
        refine lv_iconst (v := 1) (pc := 77) hx hb dX1_forgetEarliest_77 (by decide) ?_
        refine lv_isub (pc := 78) hx hb dX1_forgetEarliest_78 ?_
        refine va_put (D := D) (ci := 1) (v := .int ((s0.1 4 0) - (1 : Int32))) (ty := .int) (C := RX1) (T := TX1) (N := 5) (pc := 79) hx hb hfX1 (fun _ h9 => h9) tyX1 tyX1_ok nmX1 hown hK hP hD hS 0 rfl rfl 4 (by decide) lk0 (fun _ h9 => h9) rfl (by decide +kernel) rfl rfl (Nat.le_of_ble_eq_true rfl) dX1_forgetEarliest_79 (fun H locs hP hD hS => ?_)
        have hP : va_P D vwCl (wX1 a0 c (mi s0 4 0 ((s0.1 4 0) - (1 : Int32)))) H := hP
        have hD : va_D A (wX1 a0 c (mi s0 4 0 ((s0.1 4 0) - (1 : Int32)))) := hD
        have kr := KR (mi s0 4 0 ((s0.1 4 0) - (1 : Int32))) _ _ 82 ls h hP hD hS dX1_forgetEarliest_82
        exact kr
      · replace h := it_f c7 h
        refine lv_aload_n (pc := 10) hx hb dX1_forgetEarliest_10 rfl (lv_at hl 0 rfl) ?_
        refine va_get (D := D) (ci := 1) (v := .ref (a0 1)) (C := RX1) (T := TX1) (N := 5) (pc := 11) hx hb hfX1 (fun _ h9 => h9) hown hK hP 0 rfl rfl 0 (by decide) lk1 (fun _ h9 => h9) rfl dX1_forgetEarliest_11 ?_
        refine lv_iload_n (pc := 14) hx hb dX1_forgetEarliest_14 rfl (lv_at hl 1 rfl) ?_
        refine lv_iconst (v := 1) (pc := 15) hx hb dX1_forgetEarliest_15 (by decide) ?_
        refine lv_isub (pc := 16) hx hb dX1_forgetEarliest_16 ?_
        refine lv_aload_n (pc := 17) hx hb dX1_forgetEarliest_17 rfl (lv_at hl 0 rfl) ?_
        refine va_get (D := D) (ci := 1) (v := .ref (a0 1)) (C := RX1) (T := TX1) (N := 5) (pc := 18) hx hb hfX1 (fun _ h9 => h9) hown hK hP 0 rfl rfl 0 (by decide) lk1 (fun _ h9 => h9) rfl dX1_forgetEarliest_18 ?_
        refine lv_iload_n (pc := 21) hx hb dX1_forgetEarliest_21 rfl (lv_at hl 1 rfl) ?_
        obtain ⟨hk22, h⟩ := ckI_i h
        refine va_iald (D := D) (f := (s0.1 0)) (pc := 22) hx hb hK hP 1 0 rfl rfl hk22 dX1_forgetEarliest_22 ?_
        obtain ⟨hk23, h⟩ := ckI_i h
        refine va_iast (D := D) (f := (s0.1 0)) (pc := 23) hx hb hK hP hD hS 1 0 rfl rfl hk23 dX1_forgetEarliest_23 (fun H locs hP hD hS => ?_)
        have hP : va_P D vwCl (wX1 a0 c (mi s0 0 ((x1 - (1 : Int32))).toNatClampNeg ((s0.1 0) (x1).toNatClampNeg))) H := hP
        have hD : va_D A (wX1 a0 c (mi s0 0 ((x1 - (1 : Int32))).toNatClampNeg ((s0.1 0) (x1).toNatClampNeg))) := hD
        refine lv_aload_n (pc := 24) hx hb dX1_forgetEarliest_24 rfl (lv_at hl 0 rfl) ?_
        refine va_get (D := D) (ci := 1) (v := .ref (a0 2)) (C := RX1) (T := TX1) (N := 5) (pc := 25) hx hb hfX1 (fun _ h9 => h9) hown hK hP 0 rfl rfl 1 (by decide) lk2 (fun _ h9 => h9) rfl dX1_forgetEarliest_25 ?_
        refine lv_iload_n (pc := 28) hx hb dX1_forgetEarliest_28 rfl (lv_at hl 1 rfl) ?_
        refine lv_iconst (v := 1) (pc := 29) hx hb dX1_forgetEarliest_29 (by decide) ?_
        refine lv_isub (pc := 30) hx hb dX1_forgetEarliest_30 ?_
        refine lv_aload_n (pc := 31) hx hb dX1_forgetEarliest_31 rfl (lv_at hl 0 rfl) ?_
        refine va_get (D := D) (ci := 1) (v := .ref (a0 2)) (C := RX1) (T := TX1) (N := 5) (pc := 32) hx hb hfX1 (fun _ h9 => h9) hown hK hP 0 rfl rfl 1 (by decide) lk2 (fun _ h9 => h9) rfl dX1_forgetEarliest_32 ?_
        refine lv_iload_n (pc := 35) hx hb dX1_forgetEarliest_35 rfl (lv_at hl 1 rfl) ?_
        obtain ⟨hk36, h⟩ := ckI_i h
        refine va_iald (D := D) (f := ((mi s0 0 ((x1 - (1 : Int32))).toNatClampNeg ((s0.1 0) (x1).toNatClampNeg)).1 1)) (pc := 36) hx hb hK hP 2 0 rfl rfl hk36 dX1_forgetEarliest_36 ?_
        obtain ⟨hk37, h⟩ := ckI_i h
        refine va_iast (D := D) (f := ((mi s0 0 ((x1 - (1 : Int32))).toNatClampNeg ((s0.1 0) (x1).toNatClampNeg)).1 1)) (pc := 37) hx hb hK hP hD hS 2 0 rfl rfl hk37 dX1_forgetEarliest_37 (fun H locs hP hD hS => ?_)
        obtain ⟨m0_37, em0_37, h⟩ := lt_i h
        have hP : va_P D vwCl (wX1 a0 c m0_37) H := by rw [em0_37]; exact hP
        have hD : va_D A (wX1 a0 c m0_37) := by rw [em0_37]; exact hD
        refine lv_aload_n (pc := 38) hx hb dX1_forgetEarliest_38 rfl (lv_at hl 0 rfl) ?_
        refine va_get (D := D) (ci := 1) (v := .ref (a0 3)) (C := RX1) (T := TX1) (N := 5) (pc := 39) hx hb hfX1 (fun _ h9 => h9) hown hK hP 0 rfl rfl 2 (by decide) lk3 (fun _ h9 => h9) rfl dX1_forgetEarliest_39 ?_
        refine lv_iload_n (pc := 42) hx hb dX1_forgetEarliest_42 rfl (lv_at hl 1 rfl) ?_
        refine lv_iconst (v := 1) (pc := 43) hx hb dX1_forgetEarliest_43 (by decide) ?_
        refine lv_isub (pc := 44) hx hb dX1_forgetEarliest_44 ?_
        refine lv_aload_n (pc := 45) hx hb dX1_forgetEarliest_45 rfl (lv_at hl 0 rfl) ?_
        refine va_get (D := D) (ci := 1) (v := .ref (a0 3)) (C := RX1) (T := TX1) (N := 5) (pc := 46) hx hb hfX1 (fun _ h9 => h9) hown hK hP 0 rfl rfl 2 (by decide) lk3 (fun _ h9 => h9) rfl dX1_forgetEarliest_46 ?_
        refine lv_iload_n (pc := 49) hx hb dX1_forgetEarliest_49 rfl (lv_at hl 1 rfl) ?_
        obtain ⟨hk50, h⟩ := ckI_i h
        refine va_iald (D := D) (f := (m0_37.1 2)) (pc := 50) hx hb hK hP 3 0 rfl rfl hk50 dX1_forgetEarliest_50 ?_
        obtain ⟨hk51, h⟩ := ckI_i h
        refine va_iast (D := D) (f := (m0_37.1 2)) (pc := 51) hx hb hK hP hD hS 3 0 rfl rfl hk51 dX1_forgetEarliest_51 (fun H locs hP hD hS => ?_)
        have hP : va_P D vwCl (wX1 a0 c (mi m0_37 2 ((x1 - (1 : Int32))).toNatClampNeg ((m0_37.1 2) (x1).toNatClampNeg))) H := hP
        have hD : va_D A (wX1 a0 c (mi m0_37 2 ((x1 - (1 : Int32))).toNatClampNeg ((m0_37.1 2) (x1).toNatClampNeg))) := hD
        refine lv_aload_n (pc := 52) hx hb dX1_forgetEarliest_52 rfl (lv_at hl 0 rfl) ?_
        refine va_get (D := D) (ci := 1) (v := .ref (a0 4)) (C := RX1) (T := TX1) (N := 5) (pc := 53) hx hb hfX1 (fun _ h9 => h9) hown hK hP 0 rfl rfl 3 (by decide) lk4 (fun _ h9 => h9) rfl dX1_forgetEarliest_53 ?_
        refine lv_iload_n (pc := 56) hx hb dX1_forgetEarliest_56 rfl (lv_at hl 1 rfl) ?_
        refine lv_iconst (v := 1) (pc := 57) hx hb dX1_forgetEarliest_57 (by decide) ?_
        refine lv_isub (pc := 58) hx hb dX1_forgetEarliest_58 ?_
        refine lv_aload_n (pc := 59) hx hb dX1_forgetEarliest_59 rfl (lv_at hl 0 rfl) ?_
        refine va_get (D := D) (ci := 1) (v := .ref (a0 4)) (C := RX1) (T := TX1) (N := 5) (pc := 60) hx hb hfX1 (fun _ h9 => h9) hown hK hP 0 rfl rfl 3 (by decide) lk4 (fun _ h9 => h9) rfl dX1_forgetEarliest_60 ?_
        refine lv_iload_n (pc := 63) hx hb dX1_forgetEarliest_63 rfl (lv_at hl 1 rfl) ?_
        obtain ⟨hk64, h⟩ := ckI_i h
        refine va_iald (D := D) (f := ((mi m0_37 2 ((x1 - (1 : Int32))).toNatClampNeg ((m0_37.1 2) (x1).toNatClampNeg)).1 3)) (pc := 64) hx hb hK hP 4 0 rfl rfl hk64 dX1_forgetEarliest_64 ?_
        obtain ⟨hk65, h⟩ := ckI_i h
        refine va_iast (D := D) (f := ((mi m0_37 2 ((x1 - (1 : Int32))).toNatClampNeg ((m0_37.1 2) (x1).toNatClampNeg)).1 3)) (pc := 65) hx hb hK hP hD hS 4 0 rfl rfl hk65 dX1_forgetEarliest_65 (fun H locs hP hD hS => ?_)
        obtain ⟨m0_65, em0_65, h⟩ := lt_i h
        have hP : va_P D vwCl (wX1 a0 c m0_65) H := by rw [em0_65]; exact hP
        have hD : va_D A (wX1 a0 c m0_65) := by rw [em0_65]; exact hD
        obtain ⟨v1_66, ev1_66, h⟩ := lt_i h
        refine lv_iinc (v := v1_66) (lv' := [(1, .int v1_66), (0, .ref (a0 0))]) (pc := 66) hx hb dX1_forgetEarliest_66 hl (k := 1) rfl (by rw [ev1_66]; rfl) (by decide) rfl (fun ls hl => ?_)
        refine lv_goto (tgt := 2) (pc := 69) hx hb dX1_forgetEarliest_69 (by decide) ?_
        have jr := K2h v1_66 m0_65 _ _ ls h hP hD hS (lv_sub hl [1, 0] rfl)
        exact jr
  refine lv_iconst (v := 1) (pc := 0) hx hb dX1_forgetEarliest_0 (by decide) ?_
  refine lv_istore_n (lv' := [(1, .int (1 : Int32)), (0, .ref (a0 0))]) (pc := 1) hx hb dX1_forgetEarliest_1 rfl hl (by decide) rfl (fun ls hl => ?_)
  have jr := J2 FU (1 : Int32) s0 _ _ ls h hP hD hS (lv_sub hl [1, 0] rfl)
  exact jr
abbrev rmX1_note : Room := { frames := 1, cells := 0, slots := 0, locals := 21 }
set_option maxRecDepth 100000 in
set_option maxHeartbeats 40000000 in
theorem cX1_note_met (l : Launch) (D : va_G) (c : Nat → ClassId) (tb : Nat) (sa sv : Nat → Nat) (a0 : Nat → Nat) (p0 : Int32) (p1 : Int32) (p2 : Int32) (p3 : Int32) (s0 : Mem) (z0 : Mem) (h : fX1_note p0 p1 p2 p3 s0 = some z0) : gM l yX1_note wsX1_note rmX1_note D (gY c) (xE tb sa sv) [.ref (a0 0), .int p0, .int p1, .int p2, .int p3] (wX1 a0 c s0) none (wX1 a0 c z0) := by
  unfold fX1_note at h
  refine gM.V (cc := cX1_note) (maxL := 5) (by decide) rfl (Nat.le_of_ble_eq_true rfl) ?_
  intro p e s m args below meth cd hx hb hml hown hts A hA ls hl hP hK hD hS hE Q KR0
  have hfX1 : ∀ w ∈ u_ws RX1 TX1 5, w.before args s = true := fun w hw => hts w (List.mem_cons_of_mem _ (List.mem_append_right _ hw))
  have lk0 := hts (.fieldLink RX1 22 "GlitchNets$Deeds" "size" "I") (List.mem_of_getElem? (i := 1) rfl)
  have lk1 := hts (.fieldLink RX1 9 "GlitchNets$Deeds" "sorts" "[I") (List.mem_of_getElem? (i := 2) rfl)
  have lk2 := hts (.fieldLink RX1 13 "GlitchNets$Deeds" "places" "[I") (List.mem_of_getElem? (i := 3) rfl)
  have lk3 := hts (.fieldLink RX1 16 "GlitchNets$Deeds" "firsts" "[I") (List.mem_of_getElem? (i := 4) rfl)
  have lk4 := hts (.fieldLink RX1 19 "GlitchNets$Deeds" "seconds" "[I") (List.mem_of_getElem? (i := 5) rfl)
  have KR : ∀ (w0 : Mem) (H : Heap) (locs : List Loc) (pc : Nat) (ls : Array Slot), some w0 = some z0 → va_P D vwCl (wX1 a0 c w0) H → va_D A (wX1 a0 c w0) → va_S A s.heap H locs → decode cX1_note pc = .ok (.return_, 1) → W p l e rmX1_note s m args below meth cd H locs 0 0 Q (F0 m pc ls []) := by
    intro w0 H locs pc ls hr hP hD hS hd
    cases hr
    exact KR0 H locs pc ls hP hD hS hd
  have hl : lv_has ls 5 [(0, .ref (a0 0)), (1, .int p0), (2, .int p1), (3, .int p2), (4, .int p3)] := hl
  have J13 : ∀ (x1 : Int32) (x2 : Int32) (x3 : Int32) (x4 : Int32) (s0 : Mem) (H : Heap) (locs : List Loc) (ls : Array Slot), fX1_note_b13 x1 x2 x3 x4 s0 = some z0 → va_P D vwCl (wX1 a0 c s0) H → va_D A (wX1 a0 c s0) → va_S A s.heap H locs → lv_has ls 5 [(0, .ref (a0 0)), (1, .int x1), (2, .int x2), (3, .int x3), (4, .int x4)] → W p l e rmX1_note s m args below meth cd H locs 0 0 Q (F0 m 13 ls []) := by
    intro x1 x2 x3 x4 s0 H locs ls h hP hD hS hl
    unfold fX1_note_b13 at h
    refine lv_aload_n (pc := 13) hx hb dX1_note_13 rfl (lv_at hl 0 rfl) ?_
    refine va_get (D := D) (ci := 1) (v := .ref (a0 1)) (C := RX1) (T := TX1) (N := 5) (pc := 14) hx hb hfX1 (fun _ h9 => h9) hown hK hP 0 rfl rfl 0 (by decide) lk1 (fun _ h9 => h9) rfl dX1_note_14 ?_
    refine lv_aload_n (pc := 17) hx hb dX1_note_17 rfl (lv_at hl 0 rfl) ?_
    refine va_get (D := D) (ci := 1) (v := .int (s0.1 4 0)) (C := RX1) (T := TX1) (N := 5) (pc := 18) hx hb hfX1 (fun _ h9 => h9) hown hK hP 0 rfl rfl 4 (by decide) lk0 (fun _ h9 => h9) rfl dX1_note_18 ?_
    refine lv_iload_n (pc := 21) hx hb dX1_note_21 rfl (lv_at hl 1 rfl) ?_
    obtain ⟨hk22, h⟩ := ckI_i h
    refine va_iast (D := D) (f := (s0.1 0)) (pc := 22) hx hb hK hP hD hS 1 0 rfl rfl hk22 dX1_note_22 (fun H locs hP hD hS => ?_)
    have hP : va_P D vwCl (wX1 a0 c (mi s0 0 ((s0.1 4 0)).toNatClampNeg x1)) H := hP
    have hD : va_D A (wX1 a0 c (mi s0 0 ((s0.1 4 0)).toNatClampNeg x1)) := hD
    refine lv_aload_n (pc := 23) hx hb dX1_note_23 rfl (lv_at hl 0 rfl) ?_
    refine va_get (D := D) (ci := 1) (v := .ref (a0 2)) (C := RX1) (T := TX1) (N := 5) (pc := 24) hx hb hfX1 (fun _ h9 => h9) hown hK hP 0 rfl rfl 1 (by decide) lk2 (fun _ h9 => h9) rfl dX1_note_24 ?_
    refine lv_aload_n (pc := 27) hx hb dX1_note_27 rfl (lv_at hl 0 rfl) ?_
    refine va_get (D := D) (ci := 1) (v := .int ((mi s0 0 ((s0.1 4 0)).toNatClampNeg x1).1 4 0)) (C := RX1) (T := TX1) (N := 5) (pc := 28) hx hb hfX1 (fun _ h9 => h9) hown hK hP 0 rfl rfl 4 (by decide) lk0 (fun _ h9 => h9) rfl dX1_note_28 ?_
    refine lv_iload_n (pc := 31) hx hb dX1_note_31 rfl (lv_at hl 2 rfl) ?_
    obtain ⟨hk32, h⟩ := ckI_i h
    refine va_iast (D := D) (f := ((mi s0 0 ((s0.1 4 0)).toNatClampNeg x1).1 1)) (pc := 32) hx hb hK hP hD hS 2 0 rfl rfl hk32 dX1_note_32 (fun H locs hP hD hS => ?_)
    obtain ⟨m0_32, em0_32, h⟩ := lt_i h
    have hP : va_P D vwCl (wX1 a0 c m0_32) H := by rw [em0_32]; exact hP
    have hD : va_D A (wX1 a0 c m0_32) := by rw [em0_32]; exact hD
    refine lv_aload_n (pc := 33) hx hb dX1_note_33 rfl (lv_at hl 0 rfl) ?_
    refine va_get (D := D) (ci := 1) (v := .ref (a0 3)) (C := RX1) (T := TX1) (N := 5) (pc := 34) hx hb hfX1 (fun _ h9 => h9) hown hK hP 0 rfl rfl 2 (by decide) lk3 (fun _ h9 => h9) rfl dX1_note_34 ?_
    refine lv_aload_n (pc := 37) hx hb dX1_note_37 rfl (lv_at hl 0 rfl) ?_
    refine va_get (D := D) (ci := 1) (v := .int (m0_32.1 4 0)) (C := RX1) (T := TX1) (N := 5) (pc := 38) hx hb hfX1 (fun _ h9 => h9) hown hK hP 0 rfl rfl 4 (by decide) lk0 (fun _ h9 => h9) rfl dX1_note_38 ?_
    refine lv_iload_n (pc := 41) hx hb dX1_note_41 rfl (lv_at hl 3 rfl) ?_
    obtain ⟨hk42, h⟩ := ckI_i h
    refine va_iast (D := D) (f := (m0_32.1 2)) (pc := 42) hx hb hK hP hD hS 3 0 rfl rfl hk42 dX1_note_42 (fun H locs hP hD hS => ?_)
    have hP : va_P D vwCl (wX1 a0 c (mi m0_32 2 ((m0_32.1 4 0)).toNatClampNeg x3)) H := hP
    have hD : va_D A (wX1 a0 c (mi m0_32 2 ((m0_32.1 4 0)).toNatClampNeg x3)) := hD
    refine lv_aload_n (pc := 43) hx hb dX1_note_43 rfl (lv_at hl 0 rfl) ?_
    refine va_get (D := D) (ci := 1) (v := .ref (a0 4)) (C := RX1) (T := TX1) (N := 5) (pc := 44) hx hb hfX1 (fun _ h9 => h9) hown hK hP 0 rfl rfl 3 (by decide) lk4 (fun _ h9 => h9) rfl dX1_note_44 ?_
    refine lv_aload_n (pc := 47) hx hb dX1_note_47 rfl (lv_at hl 0 rfl) ?_
    refine va_get (D := D) (ci := 1) (v := .int ((mi m0_32 2 ((m0_32.1 4 0)).toNatClampNeg x3).1 4 0)) (C := RX1) (T := TX1) (N := 5) (pc := 48) hx hb hfX1 (fun _ h9 => h9) hown hK hP 0 rfl rfl 4 (by decide) lk0 (fun _ h9 => h9) rfl dX1_note_48 ?_
    refine lv_iload (pc := 51) hx hb dX1_note_51 (lv_at hl 4 rfl) ?_
    obtain ⟨hk53, h⟩ := ckI_i h
    refine va_iast (D := D) (f := ((mi m0_32 2 ((m0_32.1 4 0)).toNatClampNeg x3).1 3)) (pc := 53) hx hb hK hP hD hS 4 0 rfl rfl hk53 dX1_note_53 (fun H locs hP hD hS => ?_)
    obtain ⟨m0_53, em0_53, h⟩ := lt_i h
    have hP : va_P D vwCl (wX1 a0 c m0_53) H := by rw [em0_53]; exact hP
    have hD : va_D A (wX1 a0 c m0_53) := by rw [em0_53]; exact hD
    refine lv_aload_n (pc := 54) hx hb dX1_note_54 rfl (lv_at hl 0 rfl) ?_
    refine lv_dup (pc := 55) hx hb dX1_note_55 rfl ?_
    refine va_get (D := D) (ci := 1) (v := .int (m0_53.1 4 0)) (C := RX1) (T := TX1) (N := 5) (pc := 56) hx hb hfX1 (fun _ h9 => h9) hown hK hP 0 rfl rfl 4 (by decide) lk0 (fun _ h9 => h9) rfl dX1_note_56 ?_
    refine lv_iconst (v := 1) (pc := 59) hx hb dX1_note_59 (by decide) ?_
    refine lv_iadd (pc := 60) hx hb dX1_note_60 ?_
    refine va_put (D := D) (ci := 1) (v := .int ((m0_53.1 4 0) + (1 : Int32))) (ty := .int) (C := RX1) (T := TX1) (N := 5) (pc := 61) hx hb hfX1 (fun _ h9 => h9) tyX1 tyX1_ok nmX1 hown hK hP hD hS 0 rfl rfl 4 (by decide) lk0 (fun _ h9 => h9) rfl (by decide +kernel) rfl rfl (Nat.le_of_ble_eq_true rfl) dX1_note_61 (fun H locs hP hD hS => ?_)
    have hP : va_P D vwCl (wX1 a0 c (mi m0_53 4 0 ((m0_53.1 4 0) + (1 : Int32)))) H := hP
    have hD : va_D A (wX1 a0 c (mi m0_53 4 0 ((m0_53.1 4 0) + (1 : Int32)))) := hD
    have kr := KR (mi m0_53 4 0 ((m0_53.1 4 0) + (1 : Int32))) _ _ 64 ls h hP hD hS dX1_note_64
    exact kr
  refine lv_aload_n (pc := 0) hx hb dX1_note_0 rfl (lv_at hl 0 rfl) ?_
  refine va_get (D := D) (ci := 1) (v := .int (s0.1 4 0)) (C := RX1) (T := TX1) (N := 5) (pc := 1) hx hb hfX1 (fun _ h9 => h9) hown hK hP 0 rfl rfl 4 (by decide) lk0 (fun _ h9 => h9) rfl dX1_note_1 ?_
  refine lv_bipush (v := 6) (pc := 4) hx hb dX1_note_4 (by decide) ?_
  refine lv_icmp_lt (tgt := 13) (pc := 6) hx hb dX1_note_6 (by decide) (fun c6 => ?_) (fun c6 => ?_)
  · replace h := it_t c6 h
    have jr := J13 p0 p1 p2 p3 s0 _ _ ls h hP hD hS hl
    exact jr
  · replace h := it_f c6 h
    refine lv_aload_n (pc := 9) hx hb dX1_note_9 rfl (lv_at hl 0 rfl) ?_
    obtain ⟨t0_10, hc10, h⟩ := b1_i h
    refine g_all (st1 := []) (gr_V (n := 0) (rest := []) (pc := 10) hx hb hml hown hts (cX1_forgetEarliest_met l D c tb sa sv a0 s0 _ hc10) gX1_note_X1_forgetEarliest rfl rfl rfl (by decide +kernel) rfl ⟨Nat.le_of_ble_eq_true rfl, Nat.le_of_ble_eq_true rfl⟩ ⟨Nat.zero_le _, Nat.zero_le _⟩ 0 1 rfl rfl rfl xE_ok hP hD hK (xE_ok.tr hE hS (g_free hD hS hA)) hl.1 (Nat.le_of_ble_eq_true rfl) dX1_note_10 rfl) hD hS hA rfl (fun H locs hP hD hS => ?_)
    have jr := J13 p0 p1 p2 p3 t0_10 _ _ ls h hP hD hS hl
    exact jr
abbrev rmX8_text : Room := { frames := 7, cells := 0, slots := 0, locals := 191 }
set_option maxRecDepth 100000 in
set_option maxHeartbeats 40000000 in
theorem cX8_text_met (l : Launch) (D : va_G) (c : Nat → ClassId) (tb : Nat) (sa sv : Nat → Nat) (a : Nat → Nat → Nat) (X : XS) (r0 : Int32) (z0 : XS) (h : fX8_text X = some (r0, z0)) : gM l yX8_text wsX8_text rmX8_text D (gY c) (xE tb sa sv) [.ref (a 0 0)] (wX a c X) (some (.int r0)) (wX a c z0) := by
  unfold fX8_text at h
  refine gM.I (cc := cX8_text) (maxL := 2) (by decide) rfl (Nat.le_of_ble_eq_true rfl) ?_
  intro p e s m args below meth cd hx hb hml hown hts A hA ls hl hP hK hD hS hE Q KR0
  have hfX2 : ∀ w ∈ u_ws RX2 TX2 6, w.before args s = true := fun w hw => hts w (List.mem_cons_of_mem _ (List.mem_append_left _ (List.mem_append_right _ hw)))
  have hfX3 : ∀ w ∈ u_ws RX3 TX3 7, w.before args s = true := fun w hw => hts w (List.mem_cons_of_mem _ (List.mem_append_left _ (List.mem_append_left _ (List.mem_append_left _ (List.mem_append_right _ hw)))))
  have hfX6 : ∀ w ∈ u_ws RX6 TX6 2, w.before args s = true := fun w hw => hts w (List.mem_cons_of_mem _ (List.mem_append_left _ (List.mem_append_left _ (List.mem_append_right _ hw))))
  have hfX8 : ∀ w ∈ u_ws RX8 TX8 12, w.before args s = true := fun w hw => hts w (List.mem_cons_of_mem _ (List.mem_append_left _ (List.mem_append_left _ (List.mem_append_left _ (List.mem_append_left _ (List.mem_append_right _ hw))))))
  have lk0 := hts (.fieldLink RX8 19 "GlitchNets" "gateText" "LGlitchNets$GateText;") (List.mem_of_getElem? (i := 1) rfl)
  have lk1 := hts (.fieldLink RX8 10 "GlitchNets" "tape" "LGlitchNets$Tape;") (List.mem_of_getElem? (i := 2) rfl)
  have lk2 := hts (.fieldLink RX8 26 "GlitchNets" "net" "LGlitchNets$Net;") (List.mem_of_getElem? (i := 3) rfl)
  have lk3 := hts (.fieldLink RX8 94 "GlitchNets$Net" "size" "I") (List.mem_of_getElem? (i := 4) rfl)
  have lk4 := hts (.fieldLink RX8 90 "GlitchNets$Tape" "size" "I") (List.mem_of_getElem? (i := 5) rfl)
  have lk5 := hts (.fieldLink RX8 103 "GlitchNets$GateText" "kind" "I") (List.mem_of_getElem? (i := 6) rfl)
  have lk6 := hts (.fieldLink RX8 106 "GlitchNets$GateText" "first" "I") (List.mem_of_getElem? (i := 7) rfl)
  have lk7 := hts (.fieldLink RX8 109 "GlitchNets$GateText" "second" "I") (List.mem_of_getElem? (i := 8) rfl)
  have lk8 := hts (.fieldLink RX8 112 "GlitchNets$GateText" "delay" "I") (List.mem_of_getElem? (i := 9) rfl)
  have lk9 := hts (.fieldLink RX8 57 "GlitchNets" "deeds" "LGlitchNets$Deeds;") (List.mem_of_getElem? (i := 10) rfl)
  have hP := XP_iff.mp hP
  have hD := XD_of hD
  have KR : ∀ (v : Int32) (w0 : XS) (H : Heap) (locs : List Loc) (pc : Nat) (ls : Array Slot), some (v, w0) = some (r0, z0) → narrow .int (.int v) = .int v → XP D a c w0 H → va_S A s.heap H locs → decode cX8_text pc = .ok (.ireturn, 1) → W p l e rmX8_text s m args below meth cd H locs 0 0 Q (F0 m pc ls [.int v]) := by
    intro v w0 H locs pc ls hr hn hP hS hd
    cases hr
    exact KR0 _ H locs pc ls rfl hn (XP_iff.mpr hP) (hD.all c _) hS hd
  have hl : lv_has ls 2 [(0, .ref (a 0 0))] := hl
  refine lv_aload_n (pc := 0) hx hb dX8_text_0 rfl (lv_at hl 0 rfl) ?_
  refine va_get (D := D) (ci := 8) (v := .ref ((a 2) 0)) (C := RX8) (T := TX8) (N := 12) (pc := 1) hx hb hfX8 (fun _ h9 => h9) hown hK (show va_P D vwCl (wX8 a c (X 0)) _ from hP 0 (by decide)) 0 rfl rfl 1 (by decide) lk0 (fun _ h9 => h9) rfl dX8_text_1 ?_
  refine lv_aload_n (pc := 4) hx hb dX8_text_4 rfl (lv_at hl 0 rfl) ?_
  refine va_get (D := D) (ci := 8) (v := .ref ((a 1) 0)) (C := RX8) (T := TX8) (N := 12) (pc := 5) hx hb hfX8 (fun _ h9 => h9) hown hK (show va_P D vwCl (wX8 a c (X 0)) _ from hP 0 (by decide)) 0 rfl rfl 0 (by decide) lk1 (fun _ h9 => h9) rfl dX8_text_5 ?_
  refine lv_aload_n (pc := 8) hx hb dX8_text_8 rfl (lv_at hl 0 rfl) ?_
  refine va_get (D := D) (ci := 8) (v := .ref ((a 3) 0)) (C := RX8) (T := TX8) (N := 12) (pc := 9) hx hb hfX8 (fun _ h9 => h9) hown hK (show va_P D vwCl (wX8 a c (X 0)) _ from hP 0 (by decide)) 0 rfl rfl 2 (by decide) lk2 (fun _ h9 => h9) rfl dX8_text_9 ?_
  refine va_get (D := D) (ci := 3) (v := .int ((X 3).1 4 0)) (C := RX3) (T := TX3) (N := 7) (pc := 12) hx hb hfX3 (fun _ h9 => h9) hown hK (show va_P D vwCl (wX3 (a 3) c (X 3)) _ from hP 3 (by decide)) 0 rfl rfl 4 (by decide) lk3 (fun _ h9 => h9) rfl dX8_text_12 ?_
  obtain ⟨r15, t0_15, hc15, h⟩ := b2_i h
  have hw : (wX2 (a 2) c (X 2) ++ wX6 (a 1) c (X 1)).map (·.1) = [2, 1].flatMap (uA a) := rfl
  have hPc : va_P D vwCl (wX2 (a 2) c (X 2) ++ wX6 (a 1) c (X 1)) _ := (hP 2 (by decide)).app (hP 1 (by decide))
  have hDc : va_D A (wX2 (a 2) c (X 2) ++ wX6 (a 1) c (X 1)) := hD.of_addr (by decide) (by decide) hw
  refine g_X (X' := (xs X 2 t0_15)) (st1 := [.int r15]) (gr_V (n := 2) (rest := []) (pc := 15) hx hb hml hown hts (cX2_read_met l D c tb sa sv (a 2) (a 1) (((X 3).1 4 0)) (X 2) (X 1) _ _ hc15) gX8_text_X2_read rfl rfl rfl (by decide +kernel) rfl ⟨Nat.le_of_ble_eq_true rfl, Nat.le_of_ble_eq_true rfl⟩ ⟨Nat.zero_le _, Nat.zero_le _⟩ 0 2 rfl rfl rfl xE_ok hPc hDc hK (xE_ok.tr hE hS (g_freeX hD hS hA (by decide) (addr0 hw))) hl.1 (Nat.le_of_ble_eq_true rfl) dX8_text_15 rfl) hP hD hS hA (ks := [2, 1]) (by decide) (addr0 hw) (fun k9 _ hk9 => (xs_o hk9 (j := 2) (by decide))) (fun H1 hw1 => (List.forall_mem_cons.mpr ⟨(vP_l hw1), (List.forall_mem_cons.mpr ⟨(vP_r hw1), (fun _ h9 => absurd h9 List.not_mem_nil)⟩)⟩)) rfl (fun H locs hP hS => ?_)
  refine lv_istore_n (lv' := [(1, .int r15), (0, .ref (a 0 0))]) (pc := 18) hx hb dX8_text_18 rfl hl (by decide) rfl (fun ls hl => ?_)
  refine lv_aload_n (pc := 19) hx hb dX8_text_19 rfl (lv_at hl 1 rfl) ?_
  refine va_get (D := D) (ci := 8) (v := .ref ((a 1) 0)) (C := RX8) (T := TX8) (N := 12) (pc := 20) hx hb hfX8 (fun _ h9 => h9) hown hK (show va_P D vwCl (wX8 a c ((xs X 2 t0_15) 0)) _ from hP 0 (by decide)) 0 rfl rfl 0 (by decide) lk1 (fun _ h9 => h9) rfl dX8_text_20 ?_
  refine lv_iconst (v := 0) (pc := 23) hx hb dX8_text_23 (by decide) ?_
  have hP1 := hP.one 1 (by decide)
  have hD1 := hD.one c (xs X 2 t0_15) 1 (by decide) ((xs X 2 t0_15) 1)
  refine va_put (D := D) (ci := 6) (v := .int (0 : Int32)) (ty := .int) (C := RX6) (T := TX6) (N := 2) (pc := 24) hx hb hfX6 (fun _ h9 => h9) tyX6 tyX6_ok nmX6 hown hK hP1 hD1 hS 0 rfl rfl 1 (by decide) lk4 (fun _ h9 => h9) rfl (by decide +kernel) rfl rfl (Nat.le_of_ble_eq_true rfl) dX8_text_24 (fun H locs hP _ hS => ?_)
  have hP : XP D a c (xs (xs X 2 t0_15) 1 (mi ((xs X 2 t0_15) 1) 1 0 (0 : Int32))) H := XP.back (X := (xs X 2 t0_15)) (k := 1) (σ := (mi ((xs X 2 t0_15) 1) 1 0 (0 : Int32))) hP
  refine lv_iload_n (pc := 27) hx hb dX8_text_27 rfl (lv_at hl 0 rfl) ?_
  refine lv_iconst (v := -1) (pc := 28) hx hb dX8_text_28 (by decide) ?_
  refine lv_icmp_eq (tgt := 37) (pc := 29) hx hb dX8_text_29 (by decide) (fun c29 => ?_) (fun c29 => ?_)
  · replace h := it_t c29 h
    refine lv_aload_n (pc := 37) hx hb dX8_text_37 rfl (lv_at hl 1 rfl) ?_
    refine va_get (D := D) (ci := 8) (v := .ref ((a 3) 0)) (C := RX8) (T := TX8) (N := 12) (pc := 38) hx hb hfX8 (fun _ h9 => h9) hown hK (show va_P D vwCl (wX8 a c ((xs (xs X 2 t0_15) 1 (mi ((xs X 2 t0_15) 1) 1 0 (0 : Int32))) 0)) _ from hP 0 (by decide)) 0 rfl rfl 2 (by decide) lk2 (fun _ h9 => h9) rfl dX8_text_38 ?_
    obtain ⟨r41, hc41, h⟩ := b1_i h
    have hw : (wX3 (a 3) c ((xs (xs X 2 t0_15) 1 (mi ((xs X 2 t0_15) 1) 1 0 (0 : Int32))) 3)).map (·.1) = [3].flatMap (uA a) := rfl
    have hPc : va_P D vwCl (wX3 (a 3) c ((xs (xs X 2 t0_15) 1 (mi ((xs X 2 t0_15) 1) 1 0 (0 : Int32))) 3)) _ := hP 3 (by decide)
    have hDc : va_D A (wX3 (a 3) c ((xs (xs X 2 t0_15) 1 (mi ((xs X 2 t0_15) 1) 1 0 (0 : Int32))) 3)) := hD.of_addr (by decide) (by decide) hw
    refine g_X (X' := (xs (xs X 2 t0_15) 1 (mi ((xs X 2 t0_15) 1) 1 0 (0 : Int32)))) (st1 := [.int r41]) (gr_V (n := 0) (rest := []) (pc := 41) hx hb hml hown hts (cX3_isFull_met l D c tb sa sv (a 3) ((xs (xs X 2 t0_15) 1 (mi ((xs X 2 t0_15) 1) 1 0 (0 : Int32))) 3) _ hc41) gX8_text_X3_isFull rfl rfl rfl (by decide +kernel) rfl ⟨Nat.le_of_ble_eq_true rfl, Nat.le_of_ble_eq_true rfl⟩ ⟨Nat.zero_le _, Nat.zero_le _⟩ 0 3 rfl rfl rfl xE_ok hPc hDc hK (xE_ok.tr hE hS (g_freeX hD hS hA (by decide) (addr0 hw))) hl.1 (Nat.le_of_ble_eq_true rfl) dX8_text_41 rfl) hP hD hS hA (ks := [3]) (by decide) (addr0 hw) (fun k9 _ hk9 => rfl) (fun H1 hw1 => (List.forall_mem_cons.mpr ⟨hw1, (fun _ h9 => absurd h9 List.not_mem_nil)⟩)) rfl (fun H locs hP hS => ?_)
    refine lv_if_eq (tgt := 50) (pc := 44) hx hb dX8_text_44 (by decide) (fun c44 => ?_) (fun c44 => ?_)
    · replace h := it_t c44 h
      refine lv_aload_n (pc := 50) hx hb dX8_text_50 rfl (lv_at hl 1 rfl) ?_
      refine va_get (D := D) (ci := 8) (v := .ref ((a 3) 0)) (C := RX8) (T := TX8) (N := 12) (pc := 51) hx hb hfX8 (fun _ h9 => h9) hown hK (show va_P D vwCl (wX8 a c ((xs (xs X 2 t0_15) 1 (mi ((xs X 2 t0_15) 1) 1 0 (0 : Int32))) 0)) _ from hP 0 (by decide)) 0 rfl rfl 2 (by decide) lk2 (fun _ h9 => h9) rfl dX8_text_51 ?_
      refine lv_aload_n (pc := 54) hx hb dX8_text_54 rfl (lv_at hl 1 rfl) ?_
      refine va_get (D := D) (ci := 8) (v := .ref ((a 2) 0)) (C := RX8) (T := TX8) (N := 12) (pc := 55) hx hb hfX8 (fun _ h9 => h9) hown hK (show va_P D vwCl (wX8 a c ((xs (xs X 2 t0_15) 1 (mi ((xs X 2 t0_15) 1) 1 0 (0 : Int32))) 0)) _ from hP 0 (by decide)) 0 rfl rfl 1 (by decide) lk0 (fun _ h9 => h9) rfl dX8_text_55 ?_
      refine va_get (D := D) (ci := 2) (v := .int (((xs (xs X 2 t0_15) 1 (mi ((xs X 2 t0_15) 1) 1 0 (0 : Int32))) 2).1 0 0)) (C := RX2) (T := TX2) (N := 6) (pc := 58) hx hb hfX2 (fun _ h9 => h9) hown hK (show va_P D vwCl (wX2 (a 2) c ((xs (xs X 2 t0_15) 1 (mi ((xs X 2 t0_15) 1) 1 0 (0 : Int32))) 2)) _ from hP 2 (by decide)) 0 rfl rfl 0 (by decide) lk5 (fun _ h9 => h9) rfl dX8_text_58 ?_
      refine lv_aload_n (pc := 61) hx hb dX8_text_61 rfl (lv_at hl 1 rfl) ?_
      refine va_get (D := D) (ci := 8) (v := .ref ((a 2) 0)) (C := RX8) (T := TX8) (N := 12) (pc := 62) hx hb hfX8 (fun _ h9 => h9) hown hK (show va_P D vwCl (wX8 a c ((xs (xs X 2 t0_15) 1 (mi ((xs X 2 t0_15) 1) 1 0 (0 : Int32))) 0)) _ from hP 0 (by decide)) 0 rfl rfl 1 (by decide) lk0 (fun _ h9 => h9) rfl dX8_text_62 ?_
      refine va_get (D := D) (ci := 2) (v := .int (((xs (xs X 2 t0_15) 1 (mi ((xs X 2 t0_15) 1) 1 0 (0 : Int32))) 2).1 1 0)) (C := RX2) (T := TX2) (N := 6) (pc := 65) hx hb hfX2 (fun _ h9 => h9) hown hK (show va_P D vwCl (wX2 (a 2) c ((xs (xs X 2 t0_15) 1 (mi ((xs X 2 t0_15) 1) 1 0 (0 : Int32))) 2)) _ from hP 2 (by decide)) 0 rfl rfl 1 (by decide) lk6 (fun _ h9 => h9) rfl dX8_text_65 ?_
      refine lv_aload_n (pc := 68) hx hb dX8_text_68 rfl (lv_at hl 1 rfl) ?_
      refine va_get (D := D) (ci := 8) (v := .ref ((a 2) 0)) (C := RX8) (T := TX8) (N := 12) (pc := 69) hx hb hfX8 (fun _ h9 => h9) hown hK (show va_P D vwCl (wX8 a c ((xs (xs X 2 t0_15) 1 (mi ((xs X 2 t0_15) 1) 1 0 (0 : Int32))) 0)) _ from hP 0 (by decide)) 0 rfl rfl 1 (by decide) lk0 (fun _ h9 => h9) rfl dX8_text_69 ?_
      refine va_get (D := D) (ci := 2) (v := .int (((xs (xs X 2 t0_15) 1 (mi ((xs X 2 t0_15) 1) 1 0 (0 : Int32))) 2).1 2 0)) (C := RX2) (T := TX2) (N := 6) (pc := 72) hx hb hfX2 (fun _ h9 => h9) hown hK (show va_P D vwCl (wX2 (a 2) c ((xs (xs X 2 t0_15) 1 (mi ((xs X 2 t0_15) 1) 1 0 (0 : Int32))) 2)) _ from hP 2 (by decide)) 0 rfl rfl 2 (by decide) lk7 (fun _ h9 => h9) rfl dX8_text_72 ?_
      refine lv_aload_n (pc := 75) hx hb dX8_text_75 rfl (lv_at hl 1 rfl) ?_
      refine va_get (D := D) (ci := 8) (v := .ref ((a 2) 0)) (C := RX8) (T := TX8) (N := 12) (pc := 76) hx hb hfX8 (fun _ h9 => h9) hown hK (show va_P D vwCl (wX8 a c ((xs (xs X 2 t0_15) 1 (mi ((xs X 2 t0_15) 1) 1 0 (0 : Int32))) 0)) _ from hP 0 (by decide)) 0 rfl rfl 1 (by decide) lk0 (fun _ h9 => h9) rfl dX8_text_76 ?_
      refine va_get (D := D) (ci := 2) (v := .int (((xs (xs X 2 t0_15) 1 (mi ((xs X 2 t0_15) 1) 1 0 (0 : Int32))) 2).1 3 0)) (C := RX2) (T := TX2) (N := 6) (pc := 79) hx hb hfX2 (fun _ h9 => h9) hown hK (show va_P D vwCl (wX2 (a 2) c ((xs (xs X 2 t0_15) 1 (mi ((xs X 2 t0_15) 1) 1 0 (0 : Int32))) 2)) _ from hP 2 (by decide)) 0 rfl rfl 3 (by decide) lk8 (fun _ h9 => h9) rfl dX8_text_79 ?_
      obtain ⟨t0_82, hc82, h⟩ := b1_i h
      have hw : (wX3 (a 3) c ((xs (xs X 2 t0_15) 1 (mi ((xs X 2 t0_15) 1) 1 0 (0 : Int32))) 3)).map (·.1) = [3].flatMap (uA a) := rfl
      have hPc : va_P D vwCl (wX3 (a 3) c ((xs (xs X 2 t0_15) 1 (mi ((xs X 2 t0_15) 1) 1 0 (0 : Int32))) 3)) _ := hP 3 (by decide)
      have hDc : va_D A (wX3 (a 3) c ((xs (xs X 2 t0_15) 1 (mi ((xs X 2 t0_15) 1) 1 0 (0 : Int32))) 3)) := hD.of_addr (by decide) (by decide) hw
      refine g_X (X' := (xs (xs (xs X 2 t0_15) 1 (mi ((xs X 2 t0_15) 1) 1 0 (0 : Int32))) 3 t0_82)) (st1 := []) (gr_V (n := 4) (rest := []) (pc := 82) hx hb hml hown hts (cX3_append_met l D c tb sa sv (a 3) ((((xs (xs X 2 t0_15) 1 (mi ((xs X 2 t0_15) 1) 1 0 (0 : Int32))) 2).1 0 0)) ((((xs (xs X 2 t0_15) 1 (mi ((xs X 2 t0_15) 1) 1 0 (0 : Int32))) 2).1 1 0)) ((((xs (xs X 2 t0_15) 1 (mi ((xs X 2 t0_15) 1) 1 0 (0 : Int32))) 2).1 2 0)) ((((xs (xs X 2 t0_15) 1 (mi ((xs X 2 t0_15) 1) 1 0 (0 : Int32))) 2).1 3 0)) ((xs (xs X 2 t0_15) 1 (mi ((xs X 2 t0_15) 1) 1 0 (0 : Int32))) 3) _ hc82) gX8_text_X3_append rfl rfl rfl (by decide +kernel) rfl ⟨Nat.le_of_ble_eq_true rfl, Nat.le_of_ble_eq_true rfl⟩ ⟨Nat.zero_le _, Nat.zero_le _⟩ 0 3 rfl rfl rfl xE_ok hPc hDc hK (xE_ok.tr hE hS (g_freeX hD hS hA (by decide) (addr0 hw))) hl.1 (Nat.le_of_ble_eq_true rfl) dX8_text_82 rfl) hP hD hS hA (ks := [3]) (by decide) (addr0 hw) (fun k9 _ hk9 => (xs_o hk9 (j := 3) (by decide))) (fun H1 hw1 => (List.forall_mem_cons.mpr ⟨hw1, (fun _ h9 => absurd h9 List.not_mem_nil)⟩)) rfl (fun H locs hP hS => ?_)
      refine lv_aload_n (pc := 85) hx hb dX8_text_85 rfl (lv_at hl 1 rfl) ?_
      refine va_get (D := D) (ci := 8) (v := .ref ((a 8) 0)) (C := RX8) (T := TX8) (N := 12) (pc := 86) hx hb hfX8 (fun _ h9 => h9) hown hK (show va_P D vwCl (wX8 a c ((xs (xs (xs X 2 t0_15) 1 (mi ((xs X 2 t0_15) 1) 1 0 (0 : Int32))) 3 t0_82) 0)) _ from hP 0 (by decide)) 0 rfl rfl 7 (by decide) lk9 (fun _ h9 => h9) rfl dX8_text_86 ?_
      refine lv_iconst (v := 0) (pc := 89) hx hb dX8_text_89 (by decide) ?_
      refine lv_aload_n (pc := 90) hx hb dX8_text_90 rfl (lv_at hl 1 rfl) ?_
      refine va_get (D := D) (ci := 8) (v := .ref ((a 3) 0)) (C := RX8) (T := TX8) (N := 12) (pc := 91) hx hb hfX8 (fun _ h9 => h9) hown hK (show va_P D vwCl (wX8 a c ((xs (xs (xs X 2 t0_15) 1 (mi ((xs X 2 t0_15) 1) 1 0 (0 : Int32))) 3 t0_82) 0)) _ from hP 0 (by decide)) 0 rfl rfl 2 (by decide) lk2 (fun _ h9 => h9) rfl dX8_text_91 ?_
      obtain ⟨r94, hc94, h⟩ := b1_i h
      have hw : (wX3 (a 3) c ((xs (xs (xs X 2 t0_15) 1 (mi ((xs X 2 t0_15) 1) 1 0 (0 : Int32))) 3 t0_82) 3)).map (·.1) = [3].flatMap (uA a) := rfl
      have hPc : va_P D vwCl (wX3 (a 3) c ((xs (xs (xs X 2 t0_15) 1 (mi ((xs X 2 t0_15) 1) 1 0 (0 : Int32))) 3 t0_82) 3)) _ := hP 3 (by decide)
      have hDc : va_D A (wX3 (a 3) c ((xs (xs (xs X 2 t0_15) 1 (mi ((xs X 2 t0_15) 1) 1 0 (0 : Int32))) 3 t0_82) 3)) := hD.of_addr (by decide) (by decide) hw
      refine g_X (X' := (xs (xs (xs X 2 t0_15) 1 (mi ((xs X 2 t0_15) 1) 1 0 (0 : Int32))) 3 t0_82)) (st1 := [.int r94, .int (0 : Int32), .ref ((a 8) 0)]) (gr_V (n := 0) (rest := [.int (0 : Int32), .ref ((a 8) 0)]) (pc := 94) hx hb hml hown hts (cX3_output_met l D c tb sa sv (a 3) ((xs (xs (xs X 2 t0_15) 1 (mi ((xs X 2 t0_15) 1) 1 0 (0 : Int32))) 3 t0_82) 3) _ hc94) gX8_text_X3_output rfl rfl rfl (by decide +kernel) rfl ⟨Nat.le_of_ble_eq_true rfl, Nat.le_of_ble_eq_true rfl⟩ ⟨Nat.zero_le _, Nat.zero_le _⟩ 0 3 rfl rfl rfl xE_ok hPc hDc hK (xE_ok.tr hE hS (g_freeX hD hS hA (by decide) (addr0 hw))) hl.1 (Nat.le_of_ble_eq_true rfl) dX8_text_94 rfl) hP hD hS hA (ks := [3]) (by decide) (addr0 hw) (fun k9 _ hk9 => rfl) (fun H1 hw1 => (List.forall_mem_cons.mpr ⟨hw1, (fun _ h9 => absurd h9 List.not_mem_nil)⟩)) rfl (fun H locs hP hS => ?_)
      refine lv_iconst (v := 0) (pc := 97) hx hb dX8_text_97 (by decide) ?_
      refine lv_iconst (v := 0) (pc := 98) hx hb dX8_text_98 (by decide) ?_
      obtain ⟨t0_99, hc99, h⟩ := b1_i h
      have hw : (wX1 (a 8) c ((xs (xs (xs X 2 t0_15) 1 (mi ((xs X 2 t0_15) 1) 1 0 (0 : Int32))) 3 t0_82) 8)).map (·.1) = [8].flatMap (uA a) := rfl
      have hPc : va_P D vwCl (wX1 (a 8) c ((xs (xs (xs X 2 t0_15) 1 (mi ((xs X 2 t0_15) 1) 1 0 (0 : Int32))) 3 t0_82) 8)) _ := hP 8 (by decide)
      have hDc : va_D A (wX1 (a 8) c ((xs (xs (xs X 2 t0_15) 1 (mi ((xs X 2 t0_15) 1) 1 0 (0 : Int32))) 3 t0_82) 8)) := hD.of_addr (by decide) (by decide) hw
      refine g_X (X' := (xs (xs (xs (xs X 2 t0_15) 1 (mi ((xs X 2 t0_15) 1) 1 0 (0 : Int32))) 3 t0_82) 8 t0_99)) (st1 := []) (gr_V (n := 4) (rest := []) (pc := 99) hx hb hml hown hts (cX1_note_met l D c tb sa sv (a 8) (0 : Int32) r94 (0 : Int32) (0 : Int32) ((xs (xs (xs X 2 t0_15) 1 (mi ((xs X 2 t0_15) 1) 1 0 (0 : Int32))) 3 t0_82) 8) _ hc99) gX8_text_X1_note rfl rfl rfl (by decide +kernel) rfl ⟨Nat.le_of_ble_eq_true rfl, Nat.le_of_ble_eq_true rfl⟩ ⟨Nat.zero_le _, Nat.zero_le _⟩ 0 1 rfl rfl rfl xE_ok hPc hDc hK (xE_ok.tr hE hS (g_freeX hD hS hA (by decide) (addr0 hw))) hl.1 (Nat.le_of_ble_eq_true rfl) dX8_text_99 rfl) hP hD hS hA (ks := [8]) (by decide) (addr0 hw) (fun k9 _ hk9 => (xs_o hk9 (j := 8) (by decide))) (fun H1 hw1 => (List.forall_mem_cons.mpr ⟨hw1, (fun _ h9 => absurd h9 List.not_mem_nil)⟩)) rfl (fun H locs hP hS => ?_)
      refine lv_aload_n (pc := 102) hx hb dX8_text_102 rfl (lv_at hl 1 rfl) ?_
      refine va_get (D := D) (ci := 8) (v := .ref ((a 3) 0)) (C := RX8) (T := TX8) (N := 12) (pc := 103) hx hb hfX8 (fun _ h9 => h9) hown hK (show va_P D vwCl (wX8 a c ((xs (xs (xs (xs X 2 t0_15) 1 (mi ((xs X 2 t0_15) 1) 1 0 (0 : Int32))) 3 t0_82) 8 t0_99) 0)) _ from hP 0 (by decide)) 0 rfl rfl 2 (by decide) lk2 (fun _ h9 => h9) rfl dX8_text_103 ?_
      obtain ⟨r106, hc106, h⟩ := b1_i h
      have hw : (wX3 (a 3) c ((xs (xs (xs (xs X 2 t0_15) 1 (mi ((xs X 2 t0_15) 1) 1 0 (0 : Int32))) 3 t0_82) 8 t0_99) 3)).map (·.1) = [3].flatMap (uA a) := rfl
      have hPc : va_P D vwCl (wX3 (a 3) c ((xs (xs (xs (xs X 2 t0_15) 1 (mi ((xs X 2 t0_15) 1) 1 0 (0 : Int32))) 3 t0_82) 8 t0_99) 3)) _ := hP 3 (by decide)
      have hDc : va_D A (wX3 (a 3) c ((xs (xs (xs (xs X 2 t0_15) 1 (mi ((xs X 2 t0_15) 1) 1 0 (0 : Int32))) 3 t0_82) 8 t0_99) 3)) := hD.of_addr (by decide) (by decide) hw
      refine g_X (X' := (xs (xs (xs (xs X 2 t0_15) 1 (mi ((xs X 2 t0_15) 1) 1 0 (0 : Int32))) 3 t0_82) 8 t0_99)) (st1 := [.int r106]) (gr_V (n := 0) (rest := []) (pc := 106) hx hb hml hown hts (cX3_output_met l D c tb sa sv (a 3) ((xs (xs (xs (xs X 2 t0_15) 1 (mi ((xs X 2 t0_15) 1) 1 0 (0 : Int32))) 3 t0_82) 8 t0_99) 3) _ hc106) gX8_text_X3_output rfl rfl rfl (by decide +kernel) rfl ⟨Nat.le_of_ble_eq_true rfl, Nat.le_of_ble_eq_true rfl⟩ ⟨Nat.zero_le _, Nat.zero_le _⟩ 0 3 rfl rfl rfl xE_ok hPc hDc hK (xE_ok.tr hE hS (g_freeX hD hS hA (by decide) (addr0 hw))) hl.1 (Nat.le_of_ble_eq_true rfl) dX8_text_106 rfl) hP hD hS hA (ks := [3]) (by decide) (addr0 hw) (fun k9 _ hk9 => rfl) (fun H1 hw1 => (List.forall_mem_cons.mpr ⟨hw1, (fun _ h9 => absurd h9 List.not_mem_nil)⟩)) rfl (fun H locs hP hS => ?_)
      have kr := KR r106 (xs (xs (xs (xs X 2 t0_15) 1 (mi ((xs X 2 t0_15) 1) 1 0 (0 : Int32))) 3 t0_82) 8 t0_99) _ _ 109 ls h rfl hP hS dX8_text_109
      exact kr
    · replace h := it_f c44 h
      refine lv_bipush (v := -4) (pc := 47) hx hb dX8_text_47 (by decide) ?_
      have kr := KR (-4 : Int32) (xs (xs X 2 t0_15) 1 (mi ((xs X 2 t0_15) 1) 1 0 (0 : Int32))) _ _ 49 ls h rfl hP hS dX8_text_49
      exact kr
  · replace h := it_f c29 h
    refine lv_bipush (v := -100) (pc := 32) hx hb dX8_text_32 (by decide) ?_
    refine lv_iload_n (pc := 34) hx hb dX8_text_34 rfl (lv_at hl 0 rfl) ?_
    refine lv_isub (pc := 35) hx hb dX8_text_35 ?_
    have kr := KR ((-100 : Int32) - r15) (xs (xs X 2 t0_15) 1 (mi ((xs X 2 t0_15) 1) 1 0 (0 : Int32))) _ _ 36 ls h rfl hP hS dX8_text_36
    exact kr
abbrev rmX3_has : Room := { frames := 0, cells := 0, slots := 0, locals := 0 }
set_option maxRecDepth 100000 in
set_option maxHeartbeats 40000000 in
theorem cX3_has_met (l : Launch) (D : va_G) (c : Nat → ClassId) (tb : Nat) (sa sv : Nat → Nat) (a0 : Nat → Nat) (p0 : Int32) (s0 : Mem) (r0 : Int32) (h : fX3_has p0 s0 = some r0) : gM l yX3_has wsX3_has rmX3_has D (gY c) (xE tb sa sv) [.ref (a0 0), .int p0] (wX3 a0 c s0) (some (.int r0)) (wX3 a0 c s0) := by
  unfold fX3_has at h
  refine gM.I (cc := cX3_has) (maxL := 2) (by decide) rfl (Nat.le_of_ble_eq_true rfl) ?_
  intro p e s m args below meth cd hx hb hml hown hts A hA ls hl hP hK hD hS hE Q KR0
  have hfX3 : ∀ w ∈ u_ws RX3 TX3 7, w.before args s = true := fun w hw => hts w (List.mem_cons_of_mem _ (List.mem_append_right _ hw))
  have lk0 := hts (.fieldLink RX3 33 "GlitchNets$Net" "size" "I") (List.mem_of_getElem? (i := 1) rfl)
  have KR : ∀ (v : Int32)  (H : Heap) (locs : List Loc) (pc : Nat) (ls : Array Slot), some v = some r0 → narrow .boolean (.int v) = .int v → va_P D vwCl (wX3 a0 c s0) H → va_D A (wX3 a0 c s0) → va_S A s.heap H locs → decode cX3_has pc = .ok (.ireturn, 1) → W p l e rmX3_has s m args below meth cd H locs 0 0 Q (F0 m pc ls [.int v]) := by
    intro v  H locs pc ls hr hn hP hD hS hd
    cases hr
    exact KR0 _ H locs pc ls rfl hn hP hD hS hd
  have hl : lv_has ls 2 [(0, .ref (a0 0)), (1, .int p0)] := hl
  refine lv_iload_n (pc := 0) hx hb dX3_has_0 rfl (lv_at hl 1 rfl) ?_
  refine lv_if_lt (tgt := 16) (pc := 1) hx hb dX3_has_1 (by decide) (fun c1 => ?_) (fun c1 => ?_)
  · replace h := it_t c1 h
    refine lv_iconst (v := 0) (pc := 16) hx hb dX3_has_16 (by decide) ?_
    have kr := KR (0 : Int32)  _ _ 17 ls h rfl hP hD hS dX3_has_17
    exact kr
  · replace h := it_f c1 h
    refine lv_iload_n (pc := 4) hx hb dX3_has_4 rfl (lv_at hl 1 rfl) ?_
    refine lv_aload_n (pc := 5) hx hb dX3_has_5 rfl (lv_at hl 0 rfl) ?_
    refine va_get (D := D) (ci := 3) (v := .int (s0.1 4 0)) (C := RX3) (T := TX3) (N := 7) (pc := 6) hx hb hfX3 (fun _ h9 => h9) hown hK hP 0 rfl rfl 4 (by decide) lk0 (fun _ h9 => h9) rfl dX3_has_6 ?_
    refine lv_icmp_ge (tgt := 16) (pc := 9) hx hb dX3_has_9 (by decide) (fun c9 => ?_) (fun c9 => ?_)
    · replace h := it_t c9 h
      refine lv_iconst (v := 0) (pc := 16) hx hb dX3_has_16 (by decide) ?_
      have kr := KR (0 : Int32)  _ _ 17 ls h rfl hP hD hS dX3_has_17
      exact kr
    · replace h := it_f c9 h
      refine lv_iconst (v := 1) (pc := 12) hx hb dX3_has_12 (by decide) ?_
      refine lv_goto (tgt := 17) (pc := 13) hx hb dX3_has_13 (by decide) ?_
      have kr := KR (1 : Int32)  _ _ 17 ls h rfl hP hD hS dX3_has_17
      exact kr
abbrev rmX8_delay : Room := { frames := 2, cells := 0, slots := 0, locals := 45 }
set_option maxRecDepth 100000 in
set_option maxHeartbeats 40000000 in
theorem cX8_delay_met (l : Launch) (D : va_G) (c : Nat → ClassId) (tb : Nat) (sa sv : Nat → Nat) (a : Nat → Nat → Nat) (p0 : Int32) (p1 : Int32) (X : XS) (r0 : Int32) (z0 : XS) (h : fX8_delay p0 p1 X = some (r0, z0)) : gM l yX8_delay wsX8_delay rmX8_delay D (gY c) (xE tb sa sv) [.ref (a 0 0), .int p0, .int p1] (wX a c X) (some (.int r0)) (wX a c z0) := by
  unfold fX8_delay at h
  refine gM.I (cc := cX8_delay) (maxL := 4) (by decide) rfl (Nat.le_of_ble_eq_true rfl) ?_
  intro p e s m args below meth cd hx hb hml hown hts A hA ls hl hP hK hD hS hE Q KR0
  have hfX3 : ∀ w ∈ u_ws RX3 TX3 7, w.before args s = true := fun w hw => hts w (List.mem_cons_of_mem _ (List.mem_append_left _ (List.mem_append_right _ hw)))
  have hfX8 : ∀ w ∈ u_ws RX8 TX8 12, w.before args s = true := fun w hw => hts w (List.mem_cons_of_mem _ (List.mem_append_left _ (List.mem_append_left _ (List.mem_append_right _ hw))))
  have lk0 := hts (.fieldLink RX8 26 "GlitchNets" "net" "LGlitchNets$Net;") (List.mem_of_getElem? (i := 1) rfl)
  have lk1 := hts (.fieldLink RX8 127 "GlitchNets$Net" "delays" "[I") (List.mem_of_getElem? (i := 2) rfl)
  have lk2 := hts (.fieldLink RX8 57 "GlitchNets" "deeds" "LGlitchNets$Deeds;") (List.mem_of_getElem? (i := 3) rfl)
  have hP := XP_iff.mp hP
  have hD := XD_of hD
  have KR : ∀ (v : Int32) (w0 : XS) (H : Heap) (locs : List Loc) (pc : Nat) (ls : Array Slot), some (v, w0) = some (r0, z0) → narrow .int (.int v) = .int v → XP D a c w0 H → va_S A s.heap H locs → decode cX8_delay pc = .ok (.ireturn, 1) → W p l e rmX8_delay s m args below meth cd H locs 0 0 Q (F0 m pc ls [.int v]) := by
    intro v w0 H locs pc ls hr hn hP hS hd
    cases hr
    exact KR0 _ H locs pc ls rfl hn (XP_iff.mpr hP) (hD.all c _) hS hd
  have hl : lv_has ls 4 [(0, .ref (a 0 0)), (1, .int p0), (2, .int p1)] := hl
  refine lv_aload_n (pc := 0) hx hb dX8_delay_0 rfl (lv_at hl 0 rfl) ?_
  refine va_get (D := D) (ci := 8) (v := .ref ((a 3) 0)) (C := RX8) (T := TX8) (N := 12) (pc := 1) hx hb hfX8 (fun _ h9 => h9) hown hK (show va_P D vwCl (wX8 a c (X 0)) _ from hP 0 (by decide)) 0 rfl rfl 2 (by decide) lk0 (fun _ h9 => h9) rfl dX8_delay_1 ?_
  refine lv_iload_n (pc := 4) hx hb dX8_delay_4 rfl (lv_at hl 1 rfl) ?_
  obtain ⟨r5, hc5, h⟩ := b1_i h
  have hw : (wX3 (a 3) c (X 3)).map (·.1) = [3].flatMap (uA a) := rfl
  have hPc : va_P D vwCl (wX3 (a 3) c (X 3)) _ := hP 3 (by decide)
  have hDc : va_D A (wX3 (a 3) c (X 3)) := hD.of_addr (by decide) (by decide) hw
  refine g_X (X' := X) (st1 := [.int r5]) (gr_V (n := 1) (rest := []) (pc := 5) hx hb hml hown hts (cX3_has_met l D c tb sa sv (a 3) p0 (X 3) _ hc5) gX8_delay_X3_has rfl rfl rfl (by decide +kernel) rfl ⟨Nat.le_of_ble_eq_true rfl, Nat.le_of_ble_eq_true rfl⟩ ⟨Nat.zero_le _, Nat.zero_le _⟩ 0 3 rfl rfl rfl xE_ok hPc hDc hK (xE_ok.tr hE hS (g_freeX hD hS hA (by decide) (addr0 hw))) hl.1 (Nat.le_of_ble_eq_true rfl) dX8_delay_5 rfl) hP hD hS hA (ks := [3]) (by decide) (addr0 hw) (fun k9 _ hk9 => rfl) (fun H1 hw1 => (List.forall_mem_cons.mpr ⟨hw1, (fun _ h9 => absurd h9 List.not_mem_nil)⟩)) rfl (fun H locs hP hS => ?_)
  refine lv_if_eq (tgt := 21) (pc := 8) hx hb dX8_delay_8 (by decide) (fun c8 => ?_) (fun c8 => ?_)
  · replace h := it_t c8 h
    refine lv_bipush (v := -2) (pc := 21) hx hb dX8_delay_21 (by decide) ?_
    have kr := KR (-2 : Int32) X _ _ 23 ls h rfl hP hS dX8_delay_23
    exact kr
  · replace h := it_f c8 h
    refine lv_iload_n (pc := 11) hx hb dX8_delay_11 rfl (lv_at hl 2 rfl) ?_
    refine lv_iconst (v := 1) (pc := 12) hx hb dX8_delay_12 (by decide) ?_
    refine lv_bipush (v := 9) (pc := 13) hx hb dX8_delay_13 (by decide) ?_
    obtain ⟨r15, hc15, h⟩ := b1_i h
    refine g_noneX (st1 := [.int r15]) (gr_S (n := 3) (rest := []) (pc := 15) hx hb hml hown hts (cX8_isWithin_met l D c tb sa sv p1 (1 : Int32) (9 : Int32) _ hc15) gX8_delay_X8_isWithin rfl rfl rfl (by decide +kernel) rfl ⟨Nat.le_of_ble_eq_true rfl, Nat.le_of_ble_eq_true rfl⟩ ⟨Nat.zero_le _, Nat.zero_le _⟩ xE_ok g_P0 (g_D0 (A := A)) hK (xE_ok.tr hE hS (g_free0 hS hA)) hl.1 (Nat.le_of_ble_eq_true rfl) dX8_delay_15 rfl) hP hS hA rfl (fun H locs hP hS => ?_)
    refine lv_if_ne (tgt := 24) (pc := 18) hx hb dX8_delay_18 (by decide) (fun c18 => ?_) (fun c18 => ?_)
    · replace h := it_f c18 h
      refine lv_aload_n (pc := 24) hx hb dX8_delay_24 rfl (lv_at hl 0 rfl) ?_
      refine va_get (D := D) (ci := 8) (v := .ref ((a 3) 0)) (C := RX8) (T := TX8) (N := 12) (pc := 25) hx hb hfX8 (fun _ h9 => h9) hown hK (show va_P D vwCl (wX8 a c (X 0)) _ from hP 0 (by decide)) 0 rfl rfl 2 (by decide) lk0 (fun _ h9 => h9) rfl dX8_delay_25 ?_
      refine va_get (D := D) (ci := 3) (v := .ref ((a 3) 4)) (C := RX3) (T := TX3) (N := 7) (pc := 28) hx hb hfX3 (fun _ h9 => h9) hown hK (show va_P D vwCl (wX3 (a 3) c (X 3)) _ from hP 3 (by decide)) 0 rfl rfl 3 (by decide) lk1 (fun _ h9 => h9) rfl dX8_delay_28 ?_
      refine lv_iload_n (pc := 31) hx hb dX8_delay_31 rfl (lv_at hl 1 rfl) ?_
      obtain ⟨hk32, h⟩ := ckI_i h
      refine va_iald (D := D) (f := ((X 3).1 3)) (pc := 32) hx hb hK (show va_P D vwCl (wX3 (a 3) c (X 3)) _ from hP 3 (by decide)) 4 0 rfl rfl hk32 dX8_delay_32 ?_
      refine lv_topi (fun v3_33 ev3_33 => ?_)
      replace h := lt_e ev3_33 h
      refine lv_istore_n (lv' := [(3, .int v3_33), (0, .ref (a 0 0)), (1, .int p0), (2, .int p1)]) (pc := 33) hx hb dX8_delay_33 rfl hl (by decide) rfl (fun ls hl => ?_)
      refine lv_aload_n (pc := 34) hx hb dX8_delay_34 rfl (lv_at hl 1 rfl) ?_
      refine va_get (D := D) (ci := 8) (v := .ref ((a 3) 0)) (C := RX8) (T := TX8) (N := 12) (pc := 35) hx hb hfX8 (fun _ h9 => h9) hown hK (show va_P D vwCl (wX8 a c (X 0)) _ from hP 0 (by decide)) 0 rfl rfl 2 (by decide) lk0 (fun _ h9 => h9) rfl dX8_delay_35 ?_
      refine va_get (D := D) (ci := 3) (v := .ref ((a 3) 4)) (C := RX3) (T := TX3) (N := 7) (pc := 38) hx hb hfX3 (fun _ h9 => h9) hown hK (show va_P D vwCl (wX3 (a 3) c (X 3)) _ from hP 3 (by decide)) 0 rfl rfl 3 (by decide) lk1 (fun _ h9 => h9) rfl dX8_delay_38 ?_
      refine lv_iload_n (pc := 41) hx hb dX8_delay_41 rfl (lv_at hl 2 rfl) ?_
      refine lv_iload_n (pc := 42) hx hb dX8_delay_42 rfl (lv_at hl 3 rfl) ?_
      obtain ⟨hk43, h⟩ := ckI_i h
      have hP1 := hP.one 3 (by decide)
      have hD1 := hD.one c X 3 (by decide) (X 3)
      refine va_iast (D := D) (f := ((X 3).1 3)) (pc := 43) hx hb hK hP1 hD1 hS 4 0 rfl rfl hk43 dX8_delay_43 (fun H locs hP _ hS => ?_)
      have hP : XP D a c (xs X 3 (mi (X 3) 3 (p0).toNatClampNeg p1)) H := XP.back (X := X) (k := 3) (σ := (mi (X 3) 3 (p0).toNatClampNeg p1)) hP
      refine lv_aload_n (pc := 44) hx hb dX8_delay_44 rfl (lv_at hl 1 rfl) ?_
      refine va_get (D := D) (ci := 8) (v := .ref ((a 8) 0)) (C := RX8) (T := TX8) (N := 12) (pc := 45) hx hb hfX8 (fun _ h9 => h9) hown hK (show va_P D vwCl (wX8 a c ((xs X 3 (mi (X 3) 3 (p0).toNatClampNeg p1)) 0)) _ from hP 0 (by decide)) 0 rfl rfl 7 (by decide) lk2 (fun _ h9 => h9) rfl dX8_delay_45 ?_
      refine lv_iconst (v := 1) (pc := 48) hx hb dX8_delay_48 (by decide) ?_
      refine lv_iload_n (pc := 49) hx hb dX8_delay_49 rfl (lv_at hl 2 rfl) ?_
      refine lv_iload_n (pc := 50) hx hb dX8_delay_50 rfl (lv_at hl 0 rfl) ?_
      refine lv_iconst (v := 0) (pc := 51) hx hb dX8_delay_51 (by decide) ?_
      obtain ⟨t0_52, hc52, h⟩ := b1_i h
      have hw : (wX1 (a 8) c ((xs X 3 (mi (X 3) 3 (p0).toNatClampNeg p1)) 8)).map (·.1) = [8].flatMap (uA a) := rfl
      have hPc : va_P D vwCl (wX1 (a 8) c ((xs X 3 (mi (X 3) 3 (p0).toNatClampNeg p1)) 8)) _ := hP 8 (by decide)
      have hDc : va_D A (wX1 (a 8) c ((xs X 3 (mi (X 3) 3 (p0).toNatClampNeg p1)) 8)) := hD.of_addr (by decide) (by decide) hw
      refine g_X (X' := (xs (xs X 3 (mi (X 3) 3 (p0).toNatClampNeg p1)) 8 t0_52)) (st1 := []) (gr_V (n := 4) (rest := []) (pc := 52) hx hb hml hown hts (cX1_note_met l D c tb sa sv (a 8) (1 : Int32) p0 v3_33 (0 : Int32) ((xs X 3 (mi (X 3) 3 (p0).toNatClampNeg p1)) 8) _ hc52) gX8_delay_X1_note rfl rfl rfl (by decide +kernel) rfl ⟨Nat.le_of_ble_eq_true rfl, Nat.le_of_ble_eq_true rfl⟩ ⟨Nat.zero_le _, Nat.zero_le _⟩ 0 1 rfl rfl rfl xE_ok hPc hDc hK (xE_ok.tr hE hS (g_freeX hD hS hA (by decide) (addr0 hw))) hl.1 (Nat.le_of_ble_eq_true rfl) dX8_delay_52 rfl) hP hD hS hA (ks := [8]) (by decide) (addr0 hw) (fun k9 _ hk9 => (xs_o hk9 (j := 8) (by decide))) (fun H1 hw1 => (List.forall_mem_cons.mpr ⟨hw1, (fun _ h9 => absurd h9 List.not_mem_nil)⟩)) rfl (fun H locs hP hS => ?_)
      refine lv_iload_n (pc := 55) hx hb dX8_delay_55 rfl (lv_at hl 0 rfl) ?_
      have kr := KR v3_33 (xs (xs X 3 (mi (X 3) 3 (p0).toNatClampNeg p1)) 8 t0_52) _ _ 56 ls h rfl hP hS dX8_delay_56
      exact kr
    · replace h := it_t c18 h
      refine lv_bipush (v := -2) (pc := 21) hx hb dX8_delay_21 (by decide) ?_
      have kr := KR (-2 : Int32) X _ _ 23 ls h rfl hP hS dX8_delay_23
      exact kr
abbrev rmX3_isEmpty : Room := { frames := 0, cells := 0, slots := 0, locals := 0 }
set_option maxRecDepth 100000 in
set_option maxHeartbeats 40000000 in
theorem cX3_isEmpty_met (l : Launch) (D : va_G) (c : Nat → ClassId) (tb : Nat) (sa sv : Nat → Nat) (a0 : Nat → Nat) (s0 : Mem) (r0 : Int32) (h : fX3_isEmpty s0 = some r0) : gM l yX3_isEmpty wsX3_isEmpty rmX3_isEmpty D (gY c) (xE tb sa sv) [.ref (a0 0)] (wX3 a0 c s0) (some (.int r0)) (wX3 a0 c s0) := by
  unfold fX3_isEmpty at h
  refine gM.I (cc := cX3_isEmpty) (maxL := 1) (by decide) rfl (Nat.le_of_ble_eq_true rfl) ?_
  intro p e s m args below meth cd hx hb hml hown hts A hA ls hl hP hK hD hS hE Q KR0
  have hfX3 : ∀ w ∈ u_ws RX3 TX3 7, w.before args s = true := fun w hw => hts w (List.mem_cons_of_mem _ (List.mem_append_right _ hw))
  have lk0 := hts (.fieldLink RX3 33 "GlitchNets$Net" "size" "I") (List.mem_of_getElem? (i := 1) rfl)
  have KR : ∀ (v : Int32)  (H : Heap) (locs : List Loc) (pc : Nat) (ls : Array Slot), some v = some r0 → narrow .boolean (.int v) = .int v → va_P D vwCl (wX3 a0 c s0) H → va_D A (wX3 a0 c s0) → va_S A s.heap H locs → decode cX3_isEmpty pc = .ok (.ireturn, 1) → W p l e rmX3_isEmpty s m args below meth cd H locs 0 0 Q (F0 m pc ls [.int v]) := by
    intro v  H locs pc ls hr hn hP hD hS hd
    cases hr
    exact KR0 _ H locs pc ls rfl hn hP hD hS hd
  have hl : lv_has ls 1 [(0, .ref (a0 0))] := hl
  refine lv_aload_n (pc := 0) hx hb dX3_isEmpty_0 rfl (lv_at hl 0 rfl) ?_
  refine va_get (D := D) (ci := 3) (v := .int (s0.1 4 0)) (C := RX3) (T := TX3) (N := 7) (pc := 1) hx hb hfX3 (fun _ h9 => h9) hown hK hP 0 rfl rfl 4 (by decide) lk0 (fun _ h9 => h9) rfl dX3_isEmpty_1 ?_
  refine lv_if_ne (tgt := 11) (pc := 4) hx hb dX3_isEmpty_4 (by decide) (fun c4 => ?_) (fun c4 => ?_)
  · replace h := it_f c4 h
    refine lv_iconst (v := 0) (pc := 11) hx hb dX3_isEmpty_11 (by decide) ?_
    have kr := KR (0 : Int32)  _ _ 12 ls h rfl hP hD hS dX3_isEmpty_12
    exact kr
  · replace h := it_t c4 h
    refine lv_iconst (v := 1) (pc := 7) hx hb dX3_isEmpty_7 (by decide) ?_
    refine lv_goto (tgt := 12) (pc := 8) hx hb dX3_isEmpty_8 (by decide) ?_
    have kr := KR (1 : Int32)  _ _ 12 ls h rfl hP hD hS dX3_isEmpty_12
    exact kr
abbrev rmX3_removeLast : Room := { frames := 0, cells := 0, slots := 0, locals := 0 }
set_option maxRecDepth 100000 in
set_option maxHeartbeats 40000000 in
theorem cX3_removeLast_met (l : Launch) (D : va_G) (c : Nat → ClassId) (tb : Nat) (sa sv : Nat → Nat) (a0 : Nat → Nat) (s0 : Mem) (z0 : Mem) (h : fX3_removeLast s0 = some z0) : gM l yX3_removeLast wsX3_removeLast rmX3_removeLast D (gY c) (xE tb sa sv) [.ref (a0 0)] (wX3 a0 c s0) none (wX3 a0 c z0) := by
  unfold fX3_removeLast at h
  refine gM.V (cc := cX3_removeLast) (maxL := 1) (by decide) rfl (Nat.le_of_ble_eq_true rfl) ?_
  intro p e s m args below meth cd hx hb hml hown hts A hA ls hl hP hK hD hS hE Q KR0
  have hfX3 : ∀ w ∈ u_ws RX3 TX3 7, w.before args s = true := fun w hw => hts w (List.mem_cons_of_mem _ (List.mem_append_right _ hw))
  have lk0 := hts (.fieldLink RX3 33 "GlitchNets$Net" "size" "I") (List.mem_of_getElem? (i := 1) rfl)
  have KR : ∀ (w0 : Mem) (H : Heap) (locs : List Loc) (pc : Nat) (ls : Array Slot), some w0 = some z0 → va_P D vwCl (wX3 a0 c w0) H → va_D A (wX3 a0 c w0) → va_S A s.heap H locs → decode cX3_removeLast pc = .ok (.return_, 1) → W p l e rmX3_removeLast s m args below meth cd H locs 0 0 Q (F0 m pc ls []) := by
    intro w0 H locs pc ls hr hP hD hS hd
    cases hr
    exact KR0 H locs pc ls hP hD hS hd
  have hl : lv_has ls 1 [(0, .ref (a0 0))] := hl
  refine lv_aload_n (pc := 0) hx hb dX3_removeLast_0 rfl (lv_at hl 0 rfl) ?_
  refine va_get (D := D) (ci := 3) (v := .int (s0.1 4 0)) (C := RX3) (T := TX3) (N := 7) (pc := 1) hx hb hfX3 (fun _ h9 => h9) hown hK hP 0 rfl rfl 4 (by decide) lk0 (fun _ h9 => h9) rfl dX3_removeLast_1 ?_
  refine lv_if_le (tgt := 17) (pc := 4) hx hb dX3_removeLast_4 (by decide) (fun c4 => ?_) (fun c4 => ?_)
  · replace h := it_t c4 h
    have kr := KR s0 _ _ 17 ls h hP hD hS dX3_removeLast_17
    exact kr
  · replace h := it_f c4 h
    refine lv_aload_n (pc := 7) hx hb dX3_removeLast_7 rfl (lv_at hl 0 rfl) ?_
    refine lv_dup (pc := 8) hx hb dX3_removeLast_8 rfl ?_
    refine va_get (D := D) (ci := 3) (v := .int (s0.1 4 0)) (C := RX3) (T := TX3) (N := 7) (pc := 9) hx hb hfX3 (fun _ h9 => h9) hown hK hP 0 rfl rfl 4 (by decide) lk0 (fun _ h9 => h9) rfl dX3_removeLast_9 ?_
    refine lv_iconst (v := 1) (pc := 12) hx hb dX3_removeLast_12 (by decide) ?_
    refine lv_isub (pc := 13) hx hb dX3_removeLast_13 ?_
    refine va_put (D := D) (ci := 3) (v := .int ((s0.1 4 0) - (1 : Int32))) (ty := .int) (C := RX3) (T := TX3) (N := 7) (pc := 14) hx hb hfX3 (fun _ h9 => h9) tyX3 tyX3_ok nmX3 hown hK hP hD hS 0 rfl rfl 4 (by decide) lk0 (fun _ h9 => h9) rfl (by decide +kernel) rfl rfl (Nat.le_of_ble_eq_true rfl) dX3_removeLast_14 (fun H locs hP hD hS => ?_)
    have hP : va_P D vwCl (wX3 a0 c (mi s0 4 0 ((s0.1 4 0) - (1 : Int32)))) H := hP
    have hD : va_D A (wX3 a0 c (mi s0 4 0 ((s0.1 4 0) - (1 : Int32)))) := hD
    have kr := KR (mi s0 4 0 ((s0.1 4 0) - (1 : Int32))) _ _ 17 ls h hP hD hS dX3_removeLast_17
    exact kr
abbrev rmX8_drop : Room := { frames := 1, cells := 0, slots := 0, locals := 20 }
set_option maxRecDepth 100000 in
set_option maxHeartbeats 40000000 in
theorem cX8_drop_met (l : Launch) (D : va_G) (c : Nat → ClassId) (tb : Nat) (sa sv : Nat → Nat) (a : Nat → Nat → Nat) (X : XS) (r0 : Int32) (z0 : XS) (h : fX8_drop X = some (r0, z0)) : gM l yX8_drop wsX8_drop rmX8_drop D (gY c) (xE tb sa sv) [.ref (a 0 0)] (wX a c X) (some (.int r0)) (wX a c z0) := by
  unfold fX8_drop at h
  refine gM.I (cc := cX8_drop) (maxL := 1) (by decide) rfl (Nat.le_of_ble_eq_true rfl) ?_
  intro p e s m args below meth cd hx hb hml hown hts A hA ls hl hP hK hD hS hE Q KR0
  have hfX1 : ∀ w ∈ u_ws RX1 TX1 5, w.before args s = true := fun w hw => hts w (List.mem_cons_of_mem _ (List.mem_append_left _ (List.mem_append_right _ hw)))
  have hfX3 : ∀ w ∈ u_ws RX3 TX3 7, w.before args s = true := fun w hw => hts w (List.mem_cons_of_mem _ (List.mem_append_right _ hw))
  have hfX8 : ∀ w ∈ u_ws RX8 TX8 12, w.before args s = true := fun w hw => hts w (List.mem_cons_of_mem _ (List.mem_append_left _ (List.mem_append_left _ (List.mem_append_right _ hw))))
  have lk0 := hts (.fieldLink RX8 26 "GlitchNets" "net" "LGlitchNets$Net;") (List.mem_of_getElem? (i := 1) rfl)
  have lk1 := hts (.fieldLink RX8 57 "GlitchNets" "deeds" "LGlitchNets$Deeds;") (List.mem_of_getElem? (i := 2) rfl)
  have lk2 := hts (.fieldLink RX8 137 "GlitchNets$Deeds" "size" "I") (List.mem_of_getElem? (i := 3) rfl)
  have lk3 := hts (.fieldLink RX8 94 "GlitchNets$Net" "size" "I") (List.mem_of_getElem? (i := 4) rfl)
  have hP := XP_iff.mp hP
  have hD := XD_of hD
  have KR : ∀ (v : Int32) (w0 : XS) (H : Heap) (locs : List Loc) (pc : Nat) (ls : Array Slot), some (v, w0) = some (r0, z0) → narrow .int (.int v) = .int v → XP D a c w0 H → va_S A s.heap H locs → decode cX8_drop pc = .ok (.ireturn, 1) → W p l e rmX8_drop s m args below meth cd H locs 0 0 Q (F0 m pc ls [.int v]) := by
    intro v w0 H locs pc ls hr hn hP hS hd
    cases hr
    exact KR0 _ H locs pc ls rfl hn (XP_iff.mpr hP) (hD.all c _) hS hd
  have hl : lv_has ls 1 [(0, .ref (a 0 0))] := hl
  refine lv_aload_n (pc := 0) hx hb dX8_drop_0 rfl (lv_at hl 0 rfl) ?_
  refine va_get (D := D) (ci := 8) (v := .ref ((a 3) 0)) (C := RX8) (T := TX8) (N := 12) (pc := 1) hx hb hfX8 (fun _ h9 => h9) hown hK (show va_P D vwCl (wX8 a c (X 0)) _ from hP 0 (by decide)) 0 rfl rfl 2 (by decide) lk0 (fun _ h9 => h9) rfl dX8_drop_1 ?_
  obtain ⟨r4, hc4, h⟩ := b1_i h
  have hw : (wX3 (a 3) c (X 3)).map (·.1) = [3].flatMap (uA a) := rfl
  have hPc : va_P D vwCl (wX3 (a 3) c (X 3)) _ := hP 3 (by decide)
  have hDc : va_D A (wX3 (a 3) c (X 3)) := hD.of_addr (by decide) (by decide) hw
  refine g_X (X' := X) (st1 := [.int r4]) (gr_V (n := 0) (rest := []) (pc := 4) hx hb hml hown hts (cX3_isEmpty_met l D c tb sa sv (a 3) (X 3) _ hc4) gX8_drop_X3_isEmpty rfl rfl rfl (by decide +kernel) rfl ⟨Nat.le_of_ble_eq_true rfl, Nat.le_of_ble_eq_true rfl⟩ ⟨Nat.zero_le _, Nat.zero_le _⟩ 0 3 rfl rfl rfl xE_ok hPc hDc hK (xE_ok.tr hE hS (g_freeX hD hS hA (by decide) (addr0 hw))) hl.1 (Nat.le_of_ble_eq_true rfl) dX8_drop_4 rfl) hP hD hS hA (ks := [3]) (by decide) (addr0 hw) (fun k9 _ hk9 => rfl) (fun H1 hw1 => (List.forall_mem_cons.mpr ⟨hw1, (fun _ h9 => absurd h9 List.not_mem_nil)⟩)) rfl (fun H locs hP hS => ?_)
  refine lv_if_eq (tgt := 13) (pc := 7) hx hb dX8_drop_7 (by decide) (fun c7 => ?_) (fun c7 => ?_)
  · replace h := it_t c7 h
    refine lv_aload_n (pc := 13) hx hb dX8_drop_13 rfl (lv_at hl 0 rfl) ?_
    refine va_get (D := D) (ci := 8) (v := .ref ((a 3) 0)) (C := RX8) (T := TX8) (N := 12) (pc := 14) hx hb hfX8 (fun _ h9 => h9) hown hK (show va_P D vwCl (wX8 a c (X 0)) _ from hP 0 (by decide)) 0 rfl rfl 2 (by decide) lk0 (fun _ h9 => h9) rfl dX8_drop_14 ?_
    obtain ⟨t0_17, hc17, h⟩ := b1_i h
    have hw : (wX3 (a 3) c (X 3)).map (·.1) = [3].flatMap (uA a) := rfl
    have hPc : va_P D vwCl (wX3 (a 3) c (X 3)) _ := hP 3 (by decide)
    have hDc : va_D A (wX3 (a 3) c (X 3)) := hD.of_addr (by decide) (by decide) hw
    refine g_X (X' := (xs X 3 t0_17)) (st1 := []) (gr_V (n := 0) (rest := []) (pc := 17) hx hb hml hown hts (cX3_removeLast_met l D c tb sa sv (a 3) (X 3) _ hc17) gX8_drop_X3_removeLast rfl rfl rfl (by decide +kernel) rfl ⟨Nat.le_of_ble_eq_true rfl, Nat.le_of_ble_eq_true rfl⟩ ⟨Nat.zero_le _, Nat.zero_le _⟩ 0 3 rfl rfl rfl xE_ok hPc hDc hK (xE_ok.tr hE hS (g_freeX hD hS hA (by decide) (addr0 hw))) hl.1 (Nat.le_of_ble_eq_true rfl) dX8_drop_17 rfl) hP hD hS hA (ks := [3]) (by decide) (addr0 hw) (fun k9 _ hk9 => (xs_o hk9 (j := 3) (by decide))) (fun H1 hw1 => (List.forall_mem_cons.mpr ⟨hw1, (fun _ h9 => absurd h9 List.not_mem_nil)⟩)) rfl (fun H locs hP hS => ?_)
    refine lv_aload_n (pc := 20) hx hb dX8_drop_20 rfl (lv_at hl 0 rfl) ?_
    refine va_get (D := D) (ci := 8) (v := .ref ((a 8) 0)) (C := RX8) (T := TX8) (N := 12) (pc := 21) hx hb hfX8 (fun _ h9 => h9) hown hK (show va_P D vwCl (wX8 a c ((xs X 3 t0_17) 0)) _ from hP 0 (by decide)) 0 rfl rfl 7 (by decide) lk1 (fun _ h9 => h9) rfl dX8_drop_21 ?_
    refine lv_iconst (v := 0) (pc := 24) hx hb dX8_drop_24 (by decide) ?_
    have hP1 := hP.one 8 (by decide)
    have hD1 := hD.one c (xs X 3 t0_17) 8 (by decide) ((xs X 3 t0_17) 8)
    refine va_put (D := D) (ci := 1) (v := .int (0 : Int32)) (ty := .int) (C := RX1) (T := TX1) (N := 5) (pc := 25) hx hb hfX1 (fun _ h9 => h9) tyX1 tyX1_ok nmX1 hown hK hP1 hD1 hS 0 rfl rfl 4 (by decide) lk2 (fun _ h9 => h9) rfl (by decide +kernel) rfl rfl (Nat.le_of_ble_eq_true rfl) dX8_drop_25 (fun H locs hP _ hS => ?_)
    have hP : XP D a c (xs (xs X 3 t0_17) 8 (mi ((xs X 3 t0_17) 8) 4 0 (0 : Int32))) H := XP.back (X := (xs X 3 t0_17)) (k := 8) (σ := (mi ((xs X 3 t0_17) 8) 4 0 (0 : Int32))) hP
    refine lv_aload_n (pc := 28) hx hb dX8_drop_28 rfl (lv_at hl 0 rfl) ?_
    refine va_get (D := D) (ci := 8) (v := .ref ((a 3) 0)) (C := RX8) (T := TX8) (N := 12) (pc := 29) hx hb hfX8 (fun _ h9 => h9) hown hK (show va_P D vwCl (wX8 a c ((xs (xs X 3 t0_17) 8 (mi ((xs X 3 t0_17) 8) 4 0 (0 : Int32))) 0)) _ from hP 0 (by decide)) 0 rfl rfl 2 (by decide) lk0 (fun _ h9 => h9) rfl dX8_drop_29 ?_
    refine va_get (D := D) (ci := 3) (v := .int (((xs (xs X 3 t0_17) 8 (mi ((xs X 3 t0_17) 8) 4 0 (0 : Int32))) 3).1 4 0)) (C := RX3) (T := TX3) (N := 7) (pc := 32) hx hb hfX3 (fun _ h9 => h9) hown hK (show va_P D vwCl (wX3 (a 3) c ((xs (xs X 3 t0_17) 8 (mi ((xs X 3 t0_17) 8) 4 0 (0 : Int32))) 3)) _ from hP 3 (by decide)) 0 rfl rfl 4 (by decide) lk3 (fun _ h9 => h9) rfl dX8_drop_32 ?_
    have kr := KR (((xs (xs X 3 t0_17) 8 (mi ((xs X 3 t0_17) 8) 4 0 (0 : Int32))) 3).1 4 0) (xs (xs X 3 t0_17) 8 (mi ((xs X 3 t0_17) 8) 4 0 (0 : Int32))) _ _ 35 ls h rfl hP hS dX8_drop_35
    exact kr
  · replace h := it_f c7 h
    refine lv_bipush (v := -3) (pc := 10) hx hb dX8_drop_10 (by decide) ?_
    have kr := KR (-3 : Int32) X _ _ 12 ls h rfl hP hS dX8_drop_12
    exact kr
abbrev rmX3_findPaths : Room := { frames := 1, cells := 0, slots := 0, locals := 14 }
set_option maxRecDepth 100000 in
set_option maxHeartbeats 40000000 in
theorem cX3_findPaths_met (l : Launch) (D : va_G) (c : Nat → ClassId) (tb : Nat) (sa sv : Nat → Nat) (a0 : Nat → Nat) (s0 : Mem) (z0 : Mem) (h : fX3_findPaths s0 = some z0) : gM l yX3_findPaths wsX3_findPaths rmX3_findPaths D (gY c) (xE tb sa sv) [.ref (a0 0)] (wX3 a0 c s0) none (wX3 a0 c z0) := by
  unfold fX3_findPaths at h
  refine gM.V (cc := cX3_findPaths) (maxL := 3) (by decide) rfl (Nat.le_of_ble_eq_true rfl) ?_
  intro p e s m args below meth cd hx hb hml hown hts A hA ls hl hP hK hD hS hE Q KR0
  have hfX3 : ∀ w ∈ u_ws RX3 TX3 7, w.before args s = true := fun w hw => hts w (List.mem_cons_of_mem _ (List.mem_append_right _ hw))
  have lk0 := hts (.fieldLink RX3 33 "GlitchNets$Net" "size" "I") (List.mem_of_getElem? (i := 1) rfl)
  have lk1 := hts (.fieldLink RX3 27 "GlitchNets$Net" "paths" "[I") (List.mem_of_getElem? (i := 2) rfl)
  have lk2 := hts (.fieldLink RX3 15 "GlitchNets$Net" "firsts" "[I") (List.mem_of_getElem? (i := 3) rfl)
  have lk3 := hts (.fieldLink RX3 18 "GlitchNets$Net" "seconds" "[I") (List.mem_of_getElem? (i := 4) rfl)
  have lk4 := hts (.methodLink RX3 60 Lib.Math.max.name) (List.mem_of_getElem? (i := 5) rfl)
  have lk5 := hts (.static Lib.Math.max.name) (List.mem_of_getElem? (i := 6) rfl)
  have lk6 := hts (.initialized "java/lang/Math") (List.mem_of_getElem? (i := 7) rfl)
  have lk7 := hts (.code Lib.Math.max.name Lib.Math.max.code 2 (some .int)) (List.mem_of_getElem? (i := 8) rfl)
  have lk8 := hts (.fieldLink RX3 21 "GlitchNets$Net" "delays" "[I") (List.mem_of_getElem? (i := 9) rfl)
  have KR : ∀ (w0 : Mem) (H : Heap) (locs : List Loc) (pc : Nat) (ls : Array Slot), some w0 = some z0 → va_P D vwCl (wX3 a0 c w0) H → va_D A (wX3 a0 c w0) → va_S A s.heap H locs → decode cX3_findPaths pc = .ok (.return_, 1) → W p l e rmX3_findPaths s m args below meth cd H locs 0 0 Q (F0 m pc ls []) := by
    intro w0 H locs pc ls hr hP hD hS hd
    cases hr
    exact KR0 H locs pc ls hP hD hS hd
  have hl : lv_has ls 3 [(0, .ref (a0 0))] := hl
  have J2 : ∀ (n : Nat) (x1 : Int32) (s0 : Mem) (H : Heap) (locs : List Loc) (ls : Array Slot), fX3_findPaths_b2 n x1 s0 = some z0 → va_P D vwCl (wX3 a0 c s0) H → va_D A (wX3 a0 c s0) → va_S A s.heap H locs → lv_has ls 3 [(0, .ref (a0 0)), (1, .int x1)] → W p l e rmX3_findPaths s m args below meth cd H locs 0 0 Q (F0 m 2 ls []) := by
    intro n
    induction n with
    | zero =>
      intro x1 s0 H locs ls h _ _ _ _
      cases (show (none : Option (Mem)) = some _ from h)
    | succ n K2h =>
      intro x1 s0 H locs ls h hP hD hS hl
      rw [fX3_findPaths_b2] at h
      refine lv_iload_n (pc := 2) hx hb dX3_findPaths_2 rfl (lv_at hl 1 rfl) ?_
      refine lv_aload_n (pc := 3) hx hb dX3_findPaths_3 rfl (lv_at hl 0 rfl) ?_
      refine va_get (D := D) (ci := 3) (v := .int (s0.1 4 0)) (C := RX3) (T := TX3) (N := 7) (pc := 4) hx hb hfX3 (fun _ h9 => h9) hown hK hP 0 rfl rfl 4 (by decide) lk0 (fun _ h9 => h9) rfl dX3_findPaths_4 ?_
      refine lv_icmp_ge (tgt := 62) (pc := 7) hx hb dX3_findPaths_7 (by decide) (fun c7 => ?_) (fun c7 => ?_)
      · replace h := it_t c7 h
        have kr := KR s0 _ _ 62 ls h hP hD hS dX3_findPaths_62
        exact kr
      · replace h := it_f c7 h
        refine lv_aload_n (pc := 10) hx hb dX3_findPaths_10 rfl (lv_at hl 0 rfl) ?_
        refine va_get (D := D) (ci := 3) (v := .ref (a0 6)) (C := RX3) (T := TX3) (N := 7) (pc := 11) hx hb hfX3 (fun _ h9 => h9) hown hK hP 0 rfl rfl 6 (by decide) lk1 (fun _ h9 => h9) rfl dX3_findPaths_11 ?_
        refine lv_iconst (v := 4) (pc := 14) hx hb dX3_findPaths_14 (by decide) ?_
        refine lv_aload_n (pc := 15) hx hb dX3_findPaths_15 rfl (lv_at hl 0 rfl) ?_
        refine va_get (D := D) (ci := 3) (v := .ref (a0 2)) (C := RX3) (T := TX3) (N := 7) (pc := 16) hx hb hfX3 (fun _ h9 => h9) hown hK hP 0 rfl rfl 1 (by decide) lk2 (fun _ h9 => h9) rfl dX3_findPaths_16 ?_
        refine lv_iload_n (pc := 19) hx hb dX3_findPaths_19 rfl (lv_at hl 1 rfl) ?_
        obtain ⟨hk20, h⟩ := ckI_i h
        refine va_iald (D := D) (f := (s0.1 1)) (pc := 20) hx hb hK hP 2 0 rfl rfl hk20 dX3_findPaths_20 ?_
        refine lv_iadd (pc := 21) hx hb dX3_findPaths_21 ?_
        obtain ⟨hk22, h⟩ := ckI_i h
        refine va_iald (D := D) (f := (s0.1 6)) (pc := 22) hx hb hK hP 6 0 rfl rfl hk22 dX3_findPaths_22 ?_
        refine lv_aload_n (pc := 23) hx hb dX3_findPaths_23 rfl (lv_at hl 0 rfl) ?_
        refine va_get (D := D) (ci := 3) (v := .ref (a0 6)) (C := RX3) (T := TX3) (N := 7) (pc := 24) hx hb hfX3 (fun _ h9 => h9) hown hK hP 0 rfl rfl 6 (by decide) lk1 (fun _ h9 => h9) rfl dX3_findPaths_24 ?_
        refine lv_iconst (v := 4) (pc := 27) hx hb dX3_findPaths_27 (by decide) ?_
        refine lv_aload_n (pc := 28) hx hb dX3_findPaths_28 rfl (lv_at hl 0 rfl) ?_
        refine va_get (D := D) (ci := 3) (v := .ref (a0 3)) (C := RX3) (T := TX3) (N := 7) (pc := 29) hx hb hfX3 (fun _ h9 => h9) hown hK hP 0 rfl rfl 2 (by decide) lk3 (fun _ h9 => h9) rfl dX3_findPaths_29 ?_
        refine lv_iload_n (pc := 32) hx hb dX3_findPaths_32 rfl (lv_at hl 1 rfl) ?_
        obtain ⟨hk33, h⟩ := ckI_i h
        refine va_iald (D := D) (f := (s0.1 2)) (pc := 33) hx hb hK hP 3 0 rfl rfl hk33 dX3_findPaths_33 ?_
        refine lv_iadd (pc := 34) hx hb dX3_findPaths_34 ?_
        obtain ⟨hk35, h⟩ := ckI_i h
        refine va_iald (D := D) (f := (s0.1 6)) (pc := 35) hx hb hK hP 6 0 rfl rfl hk35 dX3_findPaths_35 ?_
        refine va_mmax (pc := 36) hx hb (by rw [hml]; exact hl.1.symm) hown lk4 lk5 lk6 lk7 (Nat.le_of_ble_eq_true rfl) (Nat.le_of_ble_eq_true rfl) (Nat.zero_le _) (Nat.zero_le _) dX3_findPaths_36 ?_
        refine lv_topi (fun v2_39 ev2_39 => ?_)
        replace h := lt_e ev2_39 h
        refine lv_istore_n (lv' := [(2, .int v2_39), (0, .ref (a0 0)), (1, .int x1)]) (pc := 39) hx hb dX3_findPaths_39 rfl hl (by decide) rfl (fun ls hl => ?_)
        refine lv_aload_n (pc := 40) hx hb dX3_findPaths_40 rfl (lv_at hl 1 rfl) ?_
        refine va_get (D := D) (ci := 3) (v := .ref (a0 6)) (C := RX3) (T := TX3) (N := 7) (pc := 41) hx hb hfX3 (fun _ h9 => h9) hown hK hP 0 rfl rfl 6 (by decide) lk1 (fun _ h9 => h9) rfl dX3_findPaths_41 ?_
        refine lv_iconst (v := 4) (pc := 44) hx hb dX3_findPaths_44 (by decide) ?_
        refine lv_iload_n (pc := 45) hx hb dX3_findPaths_45 rfl (lv_at hl 2 rfl) ?_
        refine lv_iadd (pc := 46) hx hb dX3_findPaths_46 ?_
        refine lv_iload_n (pc := 47) hx hb dX3_findPaths_47 rfl (lv_at hl 0 rfl) ?_
        refine lv_aload_n (pc := 48) hx hb dX3_findPaths_48 rfl (lv_at hl 1 rfl) ?_
        refine va_get (D := D) (ci := 3) (v := .ref (a0 4)) (C := RX3) (T := TX3) (N := 7) (pc := 49) hx hb hfX3 (fun _ h9 => h9) hown hK hP 0 rfl rfl 3 (by decide) lk8 (fun _ h9 => h9) rfl dX3_findPaths_49 ?_
        refine lv_iload_n (pc := 52) hx hb dX3_findPaths_52 rfl (lv_at hl 2 rfl) ?_
        obtain ⟨hk53, h⟩ := ckI_i h
        refine va_iald (D := D) (f := (s0.1 3)) (pc := 53) hx hb hK hP 4 0 rfl rfl hk53 dX3_findPaths_53 ?_
        refine lv_iadd (pc := 54) hx hb dX3_findPaths_54 ?_
        obtain ⟨hk55, h⟩ := ckI_i h
        refine va_iast (D := D) (f := (s0.1 6)) (pc := 55) hx hb hK hP hD hS 6 0 rfl rfl hk55 dX3_findPaths_55 (fun H locs hP hD hS => ?_)
        have hP : va_P D vwCl (wX3 a0 c (mi s0 6 (((4 : Int32) + x1)).toNatClampNeg (v2_39 + ((s0.1 3) (x1).toNatClampNeg)))) H := hP
        have hD : va_D A (wX3 a0 c (mi s0 6 (((4 : Int32) + x1)).toNatClampNeg (v2_39 + ((s0.1 3) (x1).toNatClampNeg)))) := hD
        obtain ⟨v1_56, ev1_56, h⟩ := lt_i h
        refine lv_iinc (v := v1_56) (lv' := [(1, .int v1_56), (2, .int v2_39), (0, .ref (a0 0))]) (pc := 56) hx hb dX3_findPaths_56 hl (k := 2) rfl (by rw [ev1_56]; rfl) (by decide) rfl (fun ls hl => ?_)
        refine lv_goto (tgt := 2) (pc := 59) hx hb dX3_findPaths_59 (by decide) ?_
        have jr := K2h v1_56 ((mi s0 6 (((4 : Int32) + x1)).toNatClampNeg (v2_39 + ((s0.1 3) (x1).toNatClampNeg)))) _ _ ls h hP hD hS (lv_sub hl [2, 0] rfl)
        exact jr
  refine lv_iconst (v := 0) (pc := 0) hx hb dX3_findPaths_0 (by decide) ?_
  refine lv_istore_n (lv' := [(1, .int (0 : Int32)), (0, .ref (a0 0))]) (pc := 1) hx hb dX3_findPaths_1 rfl hl (by decide) rfl (fun ls hl => ?_)
  have jr := J2 FU (0 : Int32) s0 _ _ ls h hP hD hS (lv_sub hl [1, 0] rfl)
  exact jr
abbrev rmX3_pathTo : Room := { frames := 2, cells := 0, slots := 0, locals := 36 }
set_option maxRecDepth 100000 in
set_option maxHeartbeats 40000000 in
theorem cX3_pathTo_met (l : Launch) (D : va_G) (c : Nat → ClassId) (tb : Nat) (sa sv : Nat → Nat) (a0 : Nat → Nat) (p0 : Int32) (s0 : Mem) (r0 : Int32) (z0 : Mem) (h : fX3_pathTo p0 s0 = some (r0, z0)) : gM l yX3_pathTo wsX3_pathTo rmX3_pathTo D (gY c) (xE tb sa sv) [.ref (a0 0), .int p0] (wX3 a0 c s0) (some (.int r0)) (wX3 a0 c z0) := by
  unfold fX3_pathTo at h
  refine gM.I (cc := cX3_pathTo) (maxL := 2) (by decide) rfl (Nat.le_of_ble_eq_true rfl) ?_
  intro p e s m args below meth cd hx hb hml hown hts A hA ls hl hP hK hD hS hE Q KR0
  have hfX3 : ∀ w ∈ u_ws RX3 TX3 7, w.before args s = true := fun w hw => hts w (List.mem_cons_of_mem _ (List.mem_append_right _ hw))
  have lk0 := hts (.fieldLink RX3 27 "GlitchNets$Net" "paths" "[I") (List.mem_of_getElem? (i := 1) rfl)
  have KR : ∀ (v : Int32) (w0 : Mem) (H : Heap) (locs : List Loc) (pc : Nat) (ls : Array Slot), some (v, w0) = some (r0, z0) → narrow .int (.int v) = .int v → va_P D vwCl (wX3 a0 c w0) H → va_D A (wX3 a0 c w0) → va_S A s.heap H locs → decode cX3_pathTo pc = .ok (.ireturn, 1) → W p l e rmX3_pathTo s m args below meth cd H locs 0 0 Q (F0 m pc ls [.int v]) := by
    intro v w0 H locs pc ls hr hn hP hD hS hd
    cases hr
    exact KR0 _ H locs pc ls rfl hn hP hD hS hd
  have hl : lv_has ls 2 [(0, .ref (a0 0)), (1, .int p0)] := hl
  refine lv_aload_n (pc := 0) hx hb dX3_pathTo_0 rfl (lv_at hl 0 rfl) ?_
  obtain ⟨t0_1, hc1, h⟩ := b1_i h
  refine g_all (st1 := []) (gr_V (n := 0) (rest := []) (pc := 1) hx hb hml hown hts (cX3_findPaths_met l D c tb sa sv a0 s0 _ hc1) gX3_pathTo_X3_findPaths rfl rfl rfl (by decide +kernel) rfl ⟨Nat.le_of_ble_eq_true rfl, Nat.le_of_ble_eq_true rfl⟩ ⟨Nat.zero_le _, Nat.zero_le _⟩ 0 3 rfl rfl rfl xE_ok hP hD hK (xE_ok.tr hE hS (g_free hD hS hA)) hl.1 (Nat.le_of_ble_eq_true rfl) dX3_pathTo_1 rfl) hD hS hA rfl (fun H locs hP hD hS => ?_)
  refine lv_aload_n (pc := 4) hx hb dX3_pathTo_4 rfl (lv_at hl 0 rfl) ?_
  refine lv_iload_n (pc := 5) hx hb dX3_pathTo_5 rfl (lv_at hl 1 rfl) ?_
  obtain ⟨r6, hc6, h⟩ := b1_i h
  refine g_all (st1 := [.int r6]) (gr_V (n := 1) (rest := []) (pc := 6) hx hb hml hown hts (cX3_has_met l D c tb sa sv a0 p0 t0_1 _ hc6) gX3_pathTo_X3_has rfl rfl rfl (by decide +kernel) rfl ⟨Nat.le_of_ble_eq_true rfl, Nat.le_of_ble_eq_true rfl⟩ ⟨Nat.zero_le _, Nat.zero_le _⟩ 0 3 rfl rfl rfl xE_ok hP hD hK (xE_ok.tr hE hS (g_free hD hS hA)) hl.1 (Nat.le_of_ble_eq_true rfl) dX3_pathTo_6 rfl) hD hS hA rfl (fun H locs hP hD hS => ?_)
  refine lv_if_eq (tgt := 23) (pc := 9) hx hb dX3_pathTo_9 (by decide) (fun c9 => ?_) (fun c9 => ?_)
  · replace h := it_t c9 h
    refine lv_iconst (v := 0) (pc := 23) hx hb dX3_pathTo_23 (by decide) ?_
    have kr := KR (0 : Int32) t0_1 _ _ 24 ls h rfl hP hD hS dX3_pathTo_24
    exact kr
  · replace h := it_f c9 h
    refine lv_aload_n (pc := 12) hx hb dX3_pathTo_12 rfl (lv_at hl 0 rfl) ?_
    refine va_get (D := D) (ci := 3) (v := .ref (a0 6)) (C := RX3) (T := TX3) (N := 7) (pc := 13) hx hb hfX3 (fun _ h9 => h9) hown hK hP 0 rfl rfl 6 (by decide) lk0 (fun _ h9 => h9) rfl dX3_pathTo_13 ?_
    refine lv_iconst (v := 4) (pc := 16) hx hb dX3_pathTo_16 (by decide) ?_
    refine lv_iload_n (pc := 17) hx hb dX3_pathTo_17 rfl (lv_at hl 1 rfl) ?_
    refine lv_iadd (pc := 18) hx hb dX3_pathTo_18 ?_
    obtain ⟨hk19, h⟩ := ckI_i h
    refine va_iald (D := D) (f := (t0_1.1 6)) (pc := 19) hx hb hK hP 6 0 rfl rfl hk19 dX3_pathTo_19 ?_
    refine lv_goto (tgt := 24) (pc := 20) hx hb dX3_pathTo_20 (by decide) ?_
    have kr := KR ((t0_1.1 6) (((4 : Int32) + p0)).toNatClampNeg) t0_1 _ _ 24 ls h rfl hP hD hS dX3_pathTo_24
    exact kr
abbrev rmX3_usersOf : Room := { frames := 0, cells := 0, slots := 0, locals := 0 }
set_option maxRecDepth 100000 in
set_option maxHeartbeats 40000000 in
theorem cX3_usersOf_met (l : Launch) (D : va_G) (c : Nat → ClassId) (tb : Nat) (sa sv : Nat → Nat) (a0 : Nat → Nat) (p0 : Int32) (s0 : Mem) (r0 : Int32) (h : fX3_usersOf p0 s0 = some r0) : gM l yX3_usersOf wsX3_usersOf rmX3_usersOf D (gY c) (xE tb sa sv) [.ref (a0 0), .int p0] (wX3 a0 c s0) (some (.int r0)) (wX3 a0 c s0) := by
  unfold fX3_usersOf at h
  refine gM.I (cc := cX3_usersOf) (maxL := 4) (by decide) rfl (Nat.le_of_ble_eq_true rfl) ?_
  intro p e s m args below meth cd hx hb hml hown hts A hA ls hl hP hK hD hS hE Q KR0
  have hfX3 : ∀ w ∈ u_ws RX3 TX3 7, w.before args s = true := fun w hw => hts w (List.mem_cons_of_mem _ (List.mem_append_right _ hw))
  have lk0 := hts (.fieldLink RX3 33 "GlitchNets$Net" "size" "I") (List.mem_of_getElem? (i := 1) rfl)
  have lk1 := hts (.fieldLink RX3 15 "GlitchNets$Net" "firsts" "[I") (List.mem_of_getElem? (i := 2) rfl)
  have lk2 := hts (.fieldLink RX3 18 "GlitchNets$Net" "seconds" "[I") (List.mem_of_getElem? (i := 3) rfl)
  have KR : ∀ (v : Int32)  (H : Heap) (locs : List Loc) (pc : Nat) (ls : Array Slot), some v = some r0 → narrow .int (.int v) = .int v → va_P D vwCl (wX3 a0 c s0) H → va_D A (wX3 a0 c s0) → va_S A s.heap H locs → decode cX3_usersOf pc = .ok (.ireturn, 1) → W p l e rmX3_usersOf s m args below meth cd H locs 0 0 Q (F0 m pc ls [.int v]) := by
    intro v  H locs pc ls hr hn hP hD hS hd
    cases hr
    exact KR0 _ H locs pc ls rfl hn hP hD hS hd
  have hl : lv_has ls 4 [(0, .ref (a0 0)), (1, .int p0)] := hl
  have J35 : ∀ (K4 : Int32 → Int32 → Int32 → Option (Int32)) (K4h : ∀ (x1 : Int32) (x2 : Int32) (x3 : Int32) (H : Heap) (locs : List Loc) (ls : Array Slot), K4 x1 x2 x3 = some r0 → va_P D vwCl (wX3 a0 c s0) H → va_D A (wX3 a0 c s0) → va_S A s.heap H locs → lv_has ls 4 [(0, .ref (a0 0)), (1, .int x1), (2, .int x2), (3, .int x3)] → W p l e rmX3_usersOf s m args below meth cd H locs 0 0 Q (F0 m 4 ls [])) (x1 : Int32) (x2 : Int32) (x3 : Int32) (H : Heap) (locs : List Loc) (ls : Array Slot), fX3_usersOf_b35 K4 s0 x1 x2 x3 = some r0 → va_P D vwCl (wX3 a0 c s0) H → va_D A (wX3 a0 c s0) → va_S A s.heap H locs → lv_has ls 4 [(0, .ref (a0 0)), (1, .int x1), (2, .int x2), (3, .int x3)] → W p l e rmX3_usersOf s m args below meth cd H locs 0 0 Q (F0 m 35 ls []) := by
    intro K4 K4h x1 x2 x3 H locs ls h hP hD hS hl
    unfold fX3_usersOf_b35 at h
    obtain ⟨v3_35, ev3_35, h⟩ := lt_i h
    refine lv_iinc (v := v3_35) (lv' := [(3, .int v3_35), (0, .ref (a0 0)), (1, .int x1), (2, .int x2)]) (pc := 35) hx hb dX3_usersOf_35 hl (k := 3) rfl (by rw [ev3_35]; rfl) (by decide) rfl (fun ls hl => ?_)
    refine lv_goto (tgt := 4) (pc := 38) hx hb dX3_usersOf_38 (by decide) ?_
    have jr := K4h x1 x2 v3_35 _ _ ls h hP hD hS (lv_sub hl [1, 2, 3, 0] rfl)
    exact jr
  have J32 : ∀ (K4 : Int32 → Int32 → Int32 → Option (Int32)) (K4h : ∀ (x1 : Int32) (x2 : Int32) (x3 : Int32) (H : Heap) (locs : List Loc) (ls : Array Slot), K4 x1 x2 x3 = some r0 → va_P D vwCl (wX3 a0 c s0) H → va_D A (wX3 a0 c s0) → va_S A s.heap H locs → lv_has ls 4 [(0, .ref (a0 0)), (1, .int x1), (2, .int x2), (3, .int x3)] → W p l e rmX3_usersOf s m args below meth cd H locs 0 0 Q (F0 m 4 ls [])) (x1 : Int32) (x2 : Int32) (x3 : Int32) (H : Heap) (locs : List Loc) (ls : Array Slot), fX3_usersOf_b32 K4 s0 x1 x2 x3 = some r0 → va_P D vwCl (wX3 a0 c s0) H → va_D A (wX3 a0 c s0) → va_S A s.heap H locs → lv_has ls 4 [(0, .ref (a0 0)), (1, .int x1), (2, .int x2), (3, .int x3)] → W p l e rmX3_usersOf s m args below meth cd H locs 0 0 Q (F0 m 32 ls []) := by
    intro K4 K4h x1 x2 x3 H locs ls h hP hD hS hl
    unfold fX3_usersOf_b32 at h
    obtain ⟨v2_32, ev2_32, h⟩ := lt_i h
    refine lv_iinc (v := v2_32) (lv' := [(2, .int v2_32), (0, .ref (a0 0)), (1, .int x1), (3, .int x3)]) (pc := 32) hx hb dX3_usersOf_32 hl (k := 2) rfl (by rw [ev2_32]; rfl) (by decide) rfl (fun ls hl => ?_)
    have jr := J35 K4 K4h x1 v2_32 x3 _ _ ls h hP hD hS (lv_sub hl [1, 2, 0, 3] rfl)
    exact jr
  have J4 : ∀ (n : Nat) (x1 : Int32) (x2 : Int32) (x3 : Int32) (H : Heap) (locs : List Loc) (ls : Array Slot), fX3_usersOf_b4 s0 n x1 x2 x3 = some r0 → va_P D vwCl (wX3 a0 c s0) H → va_D A (wX3 a0 c s0) → va_S A s.heap H locs → lv_has ls 4 [(0, .ref (a0 0)), (1, .int x1), (2, .int x2), (3, .int x3)] → W p l e rmX3_usersOf s m args below meth cd H locs 0 0 Q (F0 m 4 ls []) := by
    intro n
    induction n with
    | zero =>
      intro x1 x2 x3 H locs ls h _ _ _ _
      cases (show (none : Option (Int32)) = some _ from h)
    | succ n K4h =>
      intro x1 x2 x3 H locs ls h hP hD hS hl
      rw [fX3_usersOf_b4] at h
      refine lv_iload_n (pc := 4) hx hb dX3_usersOf_4 rfl (lv_at hl 3 rfl) ?_
      refine lv_aload_n (pc := 5) hx hb dX3_usersOf_5 rfl (lv_at hl 0 rfl) ?_
      refine va_get (D := D) (ci := 3) (v := .int (s0.1 4 0)) (C := RX3) (T := TX3) (N := 7) (pc := 6) hx hb hfX3 (fun _ h9 => h9) hown hK hP 0 rfl rfl 4 (by decide) lk0 (fun _ h9 => h9) rfl dX3_usersOf_6 ?_
      refine lv_icmp_ge (tgt := 41) (pc := 9) hx hb dX3_usersOf_9 (by decide) (fun c9 => ?_) (fun c9 => ?_)
      · replace h := it_t c9 h
        refine lv_iload_n (pc := 41) hx hb dX3_usersOf_41 rfl (lv_at hl 2 rfl) ?_
        have kr := KR x2  _ _ 42 ls h rfl hP hD hS dX3_usersOf_42
        exact kr
      · replace h := it_f c9 h
        refine lv_aload_n (pc := 12) hx hb dX3_usersOf_12 rfl (lv_at hl 0 rfl) ?_
        refine va_get (D := D) (ci := 3) (v := .ref (a0 2)) (C := RX3) (T := TX3) (N := 7) (pc := 13) hx hb hfX3 (fun _ h9 => h9) hown hK hP 0 rfl rfl 1 (by decide) lk1 (fun _ h9 => h9) rfl dX3_usersOf_13 ?_
        refine lv_iload_n (pc := 16) hx hb dX3_usersOf_16 rfl (lv_at hl 3 rfl) ?_
        obtain ⟨hk17, h⟩ := ckI_i h
        refine va_iald (D := D) (f := (s0.1 1)) (pc := 17) hx hb hK hP 2 0 rfl rfl hk17 dX3_usersOf_17 ?_
        refine lv_iload_n (pc := 18) hx hb dX3_usersOf_18 rfl (lv_at hl 1 rfl) ?_
        refine lv_icmp_eq (tgt := 32) (pc := 19) hx hb dX3_usersOf_19 (by decide) (fun c19 => ?_) (fun c19 => ?_)
        · replace h := it_t c19 h
          have jr := J32 (fX3_usersOf_b4 s0 n) K4h x1 x2 x3 _ _ ls h hP hD hS hl
          exact jr
        · replace h := it_f c19 h
          refine lv_aload_n (pc := 22) hx hb dX3_usersOf_22 rfl (lv_at hl 0 rfl) ?_
          refine va_get (D := D) (ci := 3) (v := .ref (a0 3)) (C := RX3) (T := TX3) (N := 7) (pc := 23) hx hb hfX3 (fun _ h9 => h9) hown hK hP 0 rfl rfl 2 (by decide) lk2 (fun _ h9 => h9) rfl dX3_usersOf_23 ?_
          refine lv_iload_n (pc := 26) hx hb dX3_usersOf_26 rfl (lv_at hl 3 rfl) ?_
          obtain ⟨hk27, h⟩ := ckI_i h
          refine va_iald (D := D) (f := (s0.1 2)) (pc := 27) hx hb hK hP 3 0 rfl rfl hk27 dX3_usersOf_27 ?_
          refine lv_iload_n (pc := 28) hx hb dX3_usersOf_28 rfl (lv_at hl 1 rfl) ?_
          refine lv_icmp_ne (tgt := 35) (pc := 29) hx hb dX3_usersOf_29 (by decide) (fun c29 => ?_) (fun c29 => ?_)
          · replace h := it_f c29 h
            have jr := J35 (fX3_usersOf_b4 s0 n) K4h x1 x2 x3 _ _ ls h hP hD hS hl
            exact jr
          · replace h := it_t c29 h
            have jr := J32 (fX3_usersOf_b4 s0 n) K4h x1 x2 x3 _ _ ls h hP hD hS hl
            exact jr
  refine lv_iconst (v := 0) (pc := 0) hx hb dX3_usersOf_0 (by decide) ?_
  refine lv_istore_n (lv' := [(2, .int (0 : Int32)), (0, .ref (a0 0)), (1, .int p0)]) (pc := 1) hx hb dX3_usersOf_1 rfl hl (by decide) rfl (fun ls hl => ?_)
  refine lv_iconst (v := 0) (pc := 2) hx hb dX3_usersOf_2 (by decide) ?_
  refine lv_istore_n (lv' := [(3, .int (0 : Int32)), (2, .int (0 : Int32)), (0, .ref (a0 0)), (1, .int p0)]) (pc := 3) hx hb dX3_usersOf_3 rfl hl (by decide) rfl (fun ls hl => ?_)
  have jr := J4 FU p0 (0 : Int32) (0 : Int32) _ _ ls h hP hD hS (lv_sub hl [2, 3, 1, 0] rfl)
  exact jr
abbrev rmX8_gate : Room := { frames := 3, cells := 0, slots := 0, locals := 57 }
set_option maxRecDepth 100000 in
set_option maxHeartbeats 40000000 in
theorem cX8_gate_met (l : Launch) (D : va_G) (c : Nat → ClassId) (tb : Nat) (sa sv : Nat → Nat) (a : Nat → Nat → Nat) (p0 : Int32) (p1 : Int32) (X : XS) (r0 : Int32) (z0 : XS) (h : fX8_gate p0 p1 X = some (r0, z0)) : gM l yX8_gate wsX8_gate rmX8_gate D (gY c) (xE tb sa sv) [.ref (a 0 0), .int p0, .int p1] (wX a c X) (some (.int r0)) (wX a c z0) := by
  unfold fX8_gate at h
  refine gM.I (cc := cX8_gate) (maxL := 3) (by decide) rfl (Nat.le_of_ble_eq_true rfl) ?_
  intro p e s m args below meth cd hx hb hml hown hts A hA ls hl hP hK hD hS hE Q KR0
  have hfX3 : ∀ w ∈ u_ws RX3 TX3 7, w.before args s = true := fun w hw => hts w (List.mem_cons_of_mem _ (List.mem_append_right _ hw))
  have hfX8 : ∀ w ∈ u_ws RX8 TX8 12, w.before args s = true := fun w hw => hts w (List.mem_cons_of_mem _ (List.mem_append_left _ (List.mem_append_right _ hw)))
  have lk0 := hts (.fieldLink RX8 26 "GlitchNets" "net" "LGlitchNets$Net;") (List.mem_of_getElem? (i := 1) rfl)
  have lk1 := hts (.fieldLink RX8 127 "GlitchNets$Net" "delays" "[I") (List.mem_of_getElem? (i := 5) rfl)
  have lk2 := hts (.fieldLink RX8 144 "GlitchNets$Net" "seconds" "[I") (List.mem_of_getElem? (i := 4) rfl)
  have lk3 := hts (.fieldLink RX8 141 "GlitchNets$Net" "firsts" "[I") (List.mem_of_getElem? (i := 3) rfl)
  have lk4 := hts (.fieldLink RX8 138 "GlitchNets$Net" "kinds" "[I") (List.mem_of_getElem? (i := 2) rfl)
  have hP := XP_iff.mp hP
  have hD := XD_of hD
  have KR : ∀ (v : Int32) (w0 : XS) (H : Heap) (locs : List Loc) (pc : Nat) (ls : Array Slot), some (v, w0) = some (r0, z0) → narrow .int (.int v) = .int v → XP D a c w0 H → va_S A s.heap H locs → decode cX8_gate pc = .ok (.ireturn, 1) → W p l e rmX8_gate s m args below meth cd H locs 0 0 Q (F0 m pc ls [.int v]) := by
    intro v w0 H locs pc ls hr hn hP hS hd
    cases hr
    exact KR0 _ H locs pc ls rfl hn (XP_iff.mpr hP) (hD.all c _) hS hd
  have hl : lv_has ls 3 [(0, .ref (a 0 0)), (1, .int p0), (2, .int p1)] := hl
  refine lv_aload_n (pc := 0) hx hb dX8_gate_0 rfl (lv_at hl 0 rfl) ?_
  refine va_get (D := D) (ci := 8) (v := .ref ((a 3) 0)) (C := RX8) (T := TX8) (N := 12) (pc := 1) hx hb hfX8 (fun _ h9 => h9) hown hK (show va_P D vwCl (wX8 a c (X 0)) _ from hP 0 (by decide)) 0 rfl rfl 2 (by decide) lk0 (fun _ h9 => h9) rfl dX8_gate_1 ?_
  refine lv_iload_n (pc := 4) hx hb dX8_gate_4 rfl (lv_at hl 1 rfl) ?_
  obtain ⟨r5, hc5, h⟩ := b1_i h
  have hw : (wX3 (a 3) c (X 3)).map (·.1) = [3].flatMap (uA a) := rfl
  have hPc : va_P D vwCl (wX3 (a 3) c (X 3)) _ := hP 3 (by decide)
  have hDc : va_D A (wX3 (a 3) c (X 3)) := hD.of_addr (by decide) (by decide) hw
  refine g_X (X' := X) (st1 := [.int r5]) (gr_V (n := 1) (rest := []) (pc := 5) hx hb hml hown hts (cX3_has_met l D c tb sa sv (a 3) p0 (X 3) _ hc5) gX8_gate_X3_has rfl rfl rfl (by decide +kernel) rfl ⟨Nat.le_of_ble_eq_true rfl, Nat.le_of_ble_eq_true rfl⟩ ⟨Nat.zero_le _, Nat.zero_le _⟩ 0 3 rfl rfl rfl xE_ok hPc hDc hK (xE_ok.tr hE hS (g_freeX hD hS hA (by decide) (addr0 hw))) hl.1 (Nat.le_of_ble_eq_true rfl) dX8_gate_5 rfl) hP hD hS hA (ks := [3]) (by decide) (addr0 hw) (fun k9 _ hk9 => rfl) (fun H1 hw1 => (List.forall_mem_cons.mpr ⟨hw1, (fun _ h9 => absurd h9 List.not_mem_nil)⟩)) rfl (fun H locs hP hS => ?_)
  refine lv_if_ne (tgt := 14) (pc := 8) hx hb dX8_gate_8 (by decide) (fun c8 => ?_) (fun c8 => ?_)
  · replace h := it_f c8 h
    refine lv_iload_n (pc := 14) hx hb dX8_gate_14 rfl (lv_at hl 2 rfl) ?_
    by_cases c15_0 : p1 = (0 : Int32)
    · replace h := it_t c15_0 h
      refine lv_tableIn (tgt := 52) (off := 37) (pc := 15) hx hb dX8_gate_15 (by rw [c15_0]; decide) (by rw [c15_0]; decide) (by rw [c15_0]; rfl) (by decide) ?_
      refine lv_aload_n (pc := 52) hx hb dX8_gate_52 rfl (lv_at hl 0 rfl) ?_
      refine va_get (D := D) (ci := 8) (v := .ref ((a 3) 0)) (C := RX8) (T := TX8) (N := 12) (pc := 53) hx hb hfX8 (fun _ h9 => h9) hown hK (show va_P D vwCl (wX8 a c (X 0)) _ from hP 0 (by decide)) 0 rfl rfl 2 (by decide) lk0 (fun _ h9 => h9) rfl dX8_gate_53 ?_
      refine va_get (D := D) (ci := 3) (v := .ref ((a 3) 1)) (C := RX3) (T := TX3) (N := 7) (pc := 56) hx hb hfX3 (fun _ h9 => h9) hown hK (show va_P D vwCl (wX3 (a 3) c (X 3)) _ from hP 3 (by decide)) 0 rfl rfl 0 (by decide) lk4 (fun _ h9 => h9) rfl dX8_gate_56 ?_
      refine lv_iload_n (pc := 59) hx hb dX8_gate_59 rfl (lv_at hl 1 rfl) ?_
      obtain ⟨hk60, h⟩ := ckI_i h
      refine va_iald (D := D) (f := ((X 3).1 0)) (pc := 60) hx hb hK (show va_P D vwCl (wX3 (a 3) c (X 3)) _ from hP 3 (by decide)) 1 0 rfl rfl hk60 dX8_gate_60 ?_
      have kr := KR (((X 3).1 0) (p0).toNatClampNeg) X _ _ 61 ls h rfl hP hS dX8_gate_61
      exact kr
    · replace h := it_f c15_0 h
      by_cases c15_1 : p1 = (1 : Int32)
      · replace h := it_t c15_1 h
        refine lv_tableIn (tgt := 62) (off := 47) (pc := 15) hx hb dX8_gate_15 (by rw [c15_1]; decide) (by rw [c15_1]; decide) (by rw [c15_1]; rfl) (by decide) ?_
        refine lv_aload_n (pc := 62) hx hb dX8_gate_62 rfl (lv_at hl 0 rfl) ?_
        refine va_get (D := D) (ci := 8) (v := .ref ((a 3) 0)) (C := RX8) (T := TX8) (N := 12) (pc := 63) hx hb hfX8 (fun _ h9 => h9) hown hK (show va_P D vwCl (wX8 a c (X 0)) _ from hP 0 (by decide)) 0 rfl rfl 2 (by decide) lk0 (fun _ h9 => h9) rfl dX8_gate_63 ?_
        refine va_get (D := D) (ci := 3) (v := .ref ((a 3) 2)) (C := RX3) (T := TX3) (N := 7) (pc := 66) hx hb hfX3 (fun _ h9 => h9) hown hK (show va_P D vwCl (wX3 (a 3) c (X 3)) _ from hP 3 (by decide)) 0 rfl rfl 1 (by decide) lk3 (fun _ h9 => h9) rfl dX8_gate_66 ?_
        refine lv_iload_n (pc := 69) hx hb dX8_gate_69 rfl (lv_at hl 1 rfl) ?_
        obtain ⟨hk70, h⟩ := ckI_i h
        refine va_iald (D := D) (f := ((X 3).1 1)) (pc := 70) hx hb hK (show va_P D vwCl (wX3 (a 3) c (X 3)) _ from hP 3 (by decide)) 2 0 rfl rfl hk70 dX8_gate_70 ?_
        have kr := KR (((X 3).1 1) (p0).toNatClampNeg) X _ _ 71 ls h rfl hP hS dX8_gate_71
        exact kr
      · replace h := it_f c15_1 h
        by_cases c15_2 : p1 = (2 : Int32)
        · replace h := it_t c15_2 h
          refine lv_tableIn (tgt := 72) (off := 57) (pc := 15) hx hb dX8_gate_15 (by rw [c15_2]; decide) (by rw [c15_2]; decide) (by rw [c15_2]; rfl) (by decide) ?_
          refine lv_aload_n (pc := 72) hx hb dX8_gate_72 rfl (lv_at hl 0 rfl) ?_
          refine va_get (D := D) (ci := 8) (v := .ref ((a 3) 0)) (C := RX8) (T := TX8) (N := 12) (pc := 73) hx hb hfX8 (fun _ h9 => h9) hown hK (show va_P D vwCl (wX8 a c (X 0)) _ from hP 0 (by decide)) 0 rfl rfl 2 (by decide) lk0 (fun _ h9 => h9) rfl dX8_gate_73 ?_
          refine va_get (D := D) (ci := 3) (v := .ref ((a 3) 3)) (C := RX3) (T := TX3) (N := 7) (pc := 76) hx hb hfX3 (fun _ h9 => h9) hown hK (show va_P D vwCl (wX3 (a 3) c (X 3)) _ from hP 3 (by decide)) 0 rfl rfl 2 (by decide) lk2 (fun _ h9 => h9) rfl dX8_gate_76 ?_
          refine lv_iload_n (pc := 79) hx hb dX8_gate_79 rfl (lv_at hl 1 rfl) ?_
          obtain ⟨hk80, h⟩ := ckI_i h
          refine va_iald (D := D) (f := ((X 3).1 2)) (pc := 80) hx hb hK (show va_P D vwCl (wX3 (a 3) c (X 3)) _ from hP 3 (by decide)) 3 0 rfl rfl hk80 dX8_gate_80 ?_
          have kr := KR (((X 3).1 2) (p0).toNatClampNeg) X _ _ 81 ls h rfl hP hS dX8_gate_81
          exact kr
        · replace h := it_f c15_2 h
          by_cases c15_3 : p1 = (3 : Int32)
          · replace h := it_t c15_3 h
            refine lv_tableIn (tgt := 82) (off := 67) (pc := 15) hx hb dX8_gate_15 (by rw [c15_3]; decide) (by rw [c15_3]; decide) (by rw [c15_3]; rfl) (by decide) ?_
            refine lv_aload_n (pc := 82) hx hb dX8_gate_82 rfl (lv_at hl 0 rfl) ?_
            refine va_get (D := D) (ci := 8) (v := .ref ((a 3) 0)) (C := RX8) (T := TX8) (N := 12) (pc := 83) hx hb hfX8 (fun _ h9 => h9) hown hK (show va_P D vwCl (wX8 a c (X 0)) _ from hP 0 (by decide)) 0 rfl rfl 2 (by decide) lk0 (fun _ h9 => h9) rfl dX8_gate_83 ?_
            refine va_get (D := D) (ci := 3) (v := .ref ((a 3) 4)) (C := RX3) (T := TX3) (N := 7) (pc := 86) hx hb hfX3 (fun _ h9 => h9) hown hK (show va_P D vwCl (wX3 (a 3) c (X 3)) _ from hP 3 (by decide)) 0 rfl rfl 3 (by decide) lk1 (fun _ h9 => h9) rfl dX8_gate_86 ?_
            refine lv_iload_n (pc := 89) hx hb dX8_gate_89 rfl (lv_at hl 1 rfl) ?_
            obtain ⟨hk90, h⟩ := ckI_i h
            refine va_iald (D := D) (f := ((X 3).1 3)) (pc := 90) hx hb hK (show va_P D vwCl (wX3 (a 3) c (X 3)) _ from hP 3 (by decide)) 4 0 rfl rfl hk90 dX8_gate_90 ?_
            have kr := KR (((X 3).1 3) (p0).toNatClampNeg) X _ _ 91 ls h rfl hP hS dX8_gate_91
            exact kr
          · replace h := it_f c15_3 h
            by_cases c15_4 : p1 = (4 : Int32)
            · replace h := it_t c15_4 h
              refine lv_tableIn (tgt := 92) (off := 77) (pc := 15) hx hb dX8_gate_15 (by rw [c15_4]; decide) (by rw [c15_4]; decide) (by rw [c15_4]; rfl) (by decide) ?_
              refine lv_aload_n (pc := 92) hx hb dX8_gate_92 rfl (lv_at hl 0 rfl) ?_
              refine va_get (D := D) (ci := 8) (v := .ref ((a 3) 0)) (C := RX8) (T := TX8) (N := 12) (pc := 93) hx hb hfX8 (fun _ h9 => h9) hown hK (show va_P D vwCl (wX8 a c (X 0)) _ from hP 0 (by decide)) 0 rfl rfl 2 (by decide) lk0 (fun _ h9 => h9) rfl dX8_gate_93 ?_
              refine lv_iload_n (pc := 96) hx hb dX8_gate_96 rfl (lv_at hl 1 rfl) ?_
              obtain ⟨r97, t0_97, hc97, h⟩ := b2_i h
              have hw : (wX3 (a 3) c (X 3)).map (·.1) = [3].flatMap (uA a) := rfl
              have hPc : va_P D vwCl (wX3 (a 3) c (X 3)) _ := hP 3 (by decide)
              have hDc : va_D A (wX3 (a 3) c (X 3)) := hD.of_addr (by decide) (by decide) hw
              refine g_X (X' := (xs X 3 t0_97)) (st1 := [.int r97]) (gr_V (n := 1) (rest := []) (pc := 97) hx hb hml hown hts (cX3_pathTo_met l D c tb sa sv (a 3) p0 (X 3) _ _ hc97) gX8_gate_X3_pathTo rfl rfl rfl (by decide +kernel) rfl ⟨Nat.le_of_ble_eq_true rfl, Nat.le_of_ble_eq_true rfl⟩ ⟨Nat.zero_le _, Nat.zero_le _⟩ 0 3 rfl rfl rfl xE_ok hPc hDc hK (xE_ok.tr hE hS (g_freeX hD hS hA (by decide) (addr0 hw))) hl.1 (Nat.le_of_ble_eq_true rfl) dX8_gate_97 rfl) hP hD hS hA (ks := [3]) (by decide) (addr0 hw) (fun k9 _ hk9 => (xs_o hk9 (j := 3) (by decide))) (fun H1 hw1 => (List.forall_mem_cons.mpr ⟨hw1, (fun _ h9 => absurd h9 List.not_mem_nil)⟩)) rfl (fun H locs hP hS => ?_)
              have kr := KR r97 (xs X 3 t0_97) _ _ 100 ls h rfl hP hS dX8_gate_100
              exact kr
            · replace h := it_f c15_4 h
              by_cases c15_5 : p1 = (5 : Int32)
              · replace h := it_t c15_5 h
                refine lv_tableIn (tgt := 101) (off := 86) (pc := 15) hx hb dX8_gate_15 (by rw [c15_5]; decide) (by rw [c15_5]; decide) (by rw [c15_5]; rfl) (by decide) ?_
                refine lv_aload_n (pc := 101) hx hb dX8_gate_101 rfl (lv_at hl 0 rfl) ?_
                refine va_get (D := D) (ci := 8) (v := .ref ((a 3) 0)) (C := RX8) (T := TX8) (N := 12) (pc := 102) hx hb hfX8 (fun _ h9 => h9) hown hK (show va_P D vwCl (wX8 a c (X 0)) _ from hP 0 (by decide)) 0 rfl rfl 2 (by decide) lk0 (fun _ h9 => h9) rfl dX8_gate_102 ?_
                refine lv_iload_n (pc := 105) hx hb dX8_gate_105 rfl (lv_at hl 1 rfl) ?_
                obtain ⟨r106, hc106, h⟩ := b1_i h
                have hw : (wX3 (a 3) c (X 3)).map (·.1) = [3].flatMap (uA a) := rfl
                have hPc : va_P D vwCl (wX3 (a 3) c (X 3)) _ := hP 3 (by decide)
                have hDc : va_D A (wX3 (a 3) c (X 3)) := hD.of_addr (by decide) (by decide) hw
                refine g_X (X' := X) (st1 := [.int r106]) (gr_V (n := 1) (rest := []) (pc := 106) hx hb hml hown hts (cX3_usersOf_met l D c tb sa sv (a 3) p0 (X 3) _ hc106) gX8_gate_X3_usersOf rfl rfl rfl (by decide +kernel) rfl ⟨Nat.le_of_ble_eq_true rfl, Nat.le_of_ble_eq_true rfl⟩ ⟨Nat.zero_le _, Nat.zero_le _⟩ 0 3 rfl rfl rfl xE_ok hPc hDc hK (xE_ok.tr hE hS (g_freeX hD hS hA (by decide) (addr0 hw))) hl.1 (Nat.le_of_ble_eq_true rfl) dX8_gate_106 rfl) hP hD hS hA (ks := [3]) (by decide) (addr0 hw) (fun k9 _ hk9 => rfl) (fun H1 hw1 => (List.forall_mem_cons.mpr ⟨hw1, (fun _ h9 => absurd h9 List.not_mem_nil)⟩)) rfl (fun H locs hP hS => ?_)
                have kr := KR r106 X _ _ 109 ls h rfl hP hS dX8_gate_109
                exact kr
              · replace h := it_f c15_5 h
                have hsw : (p1).toInt < 0 ∨ 5 < (p1).toInt := by
                  have z0 := lv_neT c15_0 (a := 0) (by decide)
                  have z1 := lv_neT c15_1 (a := 1) (by decide)
                  have z2 := lv_neT c15_2 (a := 2) (by decide)
                  have z3 := lv_neT c15_3 (a := 3) (by decide)
                  have z4 := lv_neT c15_4 (a := 4) (by decide)
                  have z5 := lv_neT c15_5 (a := 5) (by decide)
                  omega
                refine lv_tableOut (tgt := 110) (pc := 15) hx hb dX8_gate_15 hsw (by decide) ?_
                refine lv_bipush (v := -2) (pc := 110) hx hb dX8_gate_110 (by decide) ?_
                have kr := KR (-2 : Int32) X _ _ 112 ls h rfl hP hS dX8_gate_112
                exact kr
  · replace h := it_t c8 h
    refine lv_bipush (v := -2) (pc := 11) hx hb dX8_gate_11 (by decide) ?_
    have kr := KR (-2 : Int32) X _ _ 13 ls h rfl hP hS dX8_gate_13
    exact kr
abbrev rmX8_isKindOrUnder : Room := { frames := 0, cells := 0, slots := 0, locals := 0 }
set_option maxRecDepth 100000 in
set_option maxHeartbeats 40000000 in
theorem cX8_isKindOrUnder_met (l : Launch) (D : va_G) (c : Nat → ClassId) (tb : Nat) (sa sv : Nat → Nat)  (p0 : Int32) (p1 : Int32) (r0 : Int32) (h : fX8_isKindOrUnder p0 p1 = some r0) : gM l yX8_isKindOrUnder wsX8_isKindOrUnder rmX8_isKindOrUnder D (gY c) (xE tb sa sv) [.int p0, .int p1] ([]) (some (.int r0)) ([]) := by
  unfold fX8_isKindOrUnder at h
  refine gM.I (cc := cX8_isKindOrUnder) (maxL := 2) (by decide) rfl (Nat.le_of_ble_eq_true rfl) ?_
  intro p e s m args below meth cd hx hb hml hown hts A hA ls hl hP hK hD hS hE Q KR0
  have KR : ∀ (v : Int32)  (H : Heap) (locs : List Loc) (pc : Nat) (ls : Array Slot), some v = some r0 → narrow .boolean (.int v) = .int v → va_P D vwCl ([]) H → va_D A ([]) → va_S A s.heap H locs → decode cX8_isKindOrUnder pc = .ok (.ireturn, 1) → W p l e rmX8_isKindOrUnder s m args below meth cd H locs 0 0 Q (F0 m pc ls [.int v]) := by
    intro v  H locs pc ls hr hn hP hD hS hd
    cases hr
    exact KR0 _ H locs pc ls rfl hn hP hD hS hd
  have hl : lv_has ls 2 [(0, .int p0), (1, .int p1)] := hl
  have J14 : ∀ (x0 : Int32) (x1 : Int32) (H : Heap) (locs : List Loc) (ls : Array Slot), fX8_isKindOrUnder_b14 x0 x1 = some r0 → va_P D vwCl ([]) H → va_D A ([]) → va_S A s.heap H locs → lv_has ls 2 [(0, .int x0), (1, .int x1)] → W p l e rmX8_isKindOrUnder s m args below meth cd H locs 0 0 Q (F0 m 14 ls []) := by
    intro x0 x1 H locs ls h hP hD hS hl
    unfold fX8_isKindOrUnder_b14 at h
    refine lv_iload_n (pc := 14) hx hb dX8_isKindOrUnder_14 rfl (lv_at hl 0 rfl) ?_
    refine lv_iconst (v := 3) (pc := 15) hx hb dX8_isKindOrUnder_15 (by decide) ?_
    refine lv_icmp_ne (tgt := 28) (pc := 16) hx hb dX8_isKindOrUnder_16 (by decide) (fun c16 => ?_) (fun c16 => ?_)
    · replace h := it_f c16 h
      refine lv_iconst (v := 0) (pc := 28) hx hb dX8_isKindOrUnder_28 (by decide) ?_
      have kr := KR (0 : Int32)  _ _ 29 ls h rfl hP hD hS dX8_isKindOrUnder_29
      exact kr
    · replace h := it_t c16 h
      refine lv_iload_n (pc := 19) hx hb dX8_isKindOrUnder_19 rfl (lv_at hl 1 rfl) ?_
      refine lv_iconst (v := 2) (pc := 20) hx hb dX8_isKindOrUnder_20 (by decide) ?_
      refine lv_icmp_ne (tgt := 28) (pc := 21) hx hb dX8_isKindOrUnder_21 (by decide) (fun c21 => ?_) (fun c21 => ?_)
      · replace h := it_f c21 h
        refine lv_iconst (v := 0) (pc := 28) hx hb dX8_isKindOrUnder_28 (by decide) ?_
        have kr := KR (0 : Int32)  _ _ 29 ls h rfl hP hD hS dX8_isKindOrUnder_29
        exact kr
      · replace h := it_t c21 h
        refine lv_iconst (v := 1) (pc := 24) hx hb dX8_isKindOrUnder_24 (by decide) ?_
        refine lv_goto (tgt := 29) (pc := 25) hx hb dX8_isKindOrUnder_25 (by decide) ?_
        have kr := KR (1 : Int32)  _ _ 29 ls h rfl hP hD hS dX8_isKindOrUnder_29
        exact kr
  refine lv_iload_n (pc := 0) hx hb dX8_isKindOrUnder_0 rfl (lv_at hl 0 rfl) ?_
  refine lv_iload_n (pc := 1) hx hb dX8_isKindOrUnder_1 rfl (lv_at hl 1 rfl) ?_
  refine lv_icmp_eq (tgt := 24) (pc := 2) hx hb dX8_isKindOrUnder_2 (by decide) (fun c2 => ?_) (fun c2 => ?_)
  · replace h := it_t c2 h
    refine lv_iconst (v := 1) (pc := 24) hx hb dX8_isKindOrUnder_24 (by decide) ?_
    refine lv_goto (tgt := 29) (pc := 25) hx hb dX8_isKindOrUnder_25 (by decide) ?_
    have kr := KR (1 : Int32)  _ _ 29 ls h rfl hP hD hS dX8_isKindOrUnder_29
    exact kr
  · replace h := it_f c2 h
    refine lv_iload_n (pc := 5) hx hb dX8_isKindOrUnder_5 rfl (lv_at hl 0 rfl) ?_
    refine lv_iconst (v := 1) (pc := 6) hx hb dX8_isKindOrUnder_6 (by decide) ?_
    refine lv_icmp_ne (tgt := 14) (pc := 7) hx hb dX8_isKindOrUnder_7 (by decide) (fun c7 => ?_) (fun c7 => ?_)
    · replace h := it_f c7 h
      have jr := J14 p0 p1 _ _ ls h hP hD hS hl
      exact jr
    · replace h := it_t c7 h
      refine lv_iload_n (pc := 10) hx hb dX8_isKindOrUnder_10 rfl (lv_at hl 1 rfl) ?_
      refine lv_if_eq (tgt := 24) (pc := 11) hx hb dX8_isKindOrUnder_11 (by decide) (fun c11 => ?_) (fun c11 => ?_)
      · replace h := it_t c11 h
        refine lv_iconst (v := 1) (pc := 24) hx hb dX8_isKindOrUnder_24 (by decide) ?_
        refine lv_goto (tgt := 29) (pc := 25) hx hb dX8_isKindOrUnder_25 (by decide) ?_
        have kr := KR (1 : Int32)  _ _ 29 ls h rfl hP hD hS dX8_isKindOrUnder_29
        exact kr
      · replace h := it_f c11 h
        have jr := J14 p0 p1 _ _ ls h hP hD hS hl
        exact jr
abbrev rmX8_taken : Room := { frames := 1, cells := 0, slots := 0, locals := 22 }
set_option maxRecDepth 100000 in
set_option maxHeartbeats 40000000 in
theorem cX8_taken_met (l : Launch) (D : va_G) (c : Nat → ClassId) (tb : Nat) (sa sv : Nat → Nat) (a : Nat → Nat → Nat) (p0 : Int32) (p1 : Int32) (X : XS) (r0 : Int32) (h : fX8_taken p0 p1 X = some r0) : gM l yX8_taken wsX8_taken rmX8_taken D (gY c) (xE tb sa sv) [.ref (a 0 0), .int p0, .int p1] (wX a c X) (some (.int r0)) (wX a c X) := by
  unfold fX8_taken at h
  refine gM.I (cc := cX8_taken) (maxL := 3) (by decide) rfl (Nat.le_of_ble_eq_true rfl) ?_
  intro p e s m args below meth cd hx hb hml hown hts A hA ls hl hP hK hD hS hE Q KR0
  have hfX3 : ∀ w ∈ u_ws RX3 TX3 7, w.before args s = true := fun w hw => hts w (List.mem_cons_of_mem _ (List.mem_append_right _ hw))
  have hfX8 : ∀ w ∈ u_ws RX8 TX8 12, w.before args s = true := fun w hw => hts w (List.mem_cons_of_mem _ (List.mem_append_left _ (List.mem_append_right _ hw)))
  have lk0 := hts (.fieldLink RX8 26 "GlitchNets" "net" "LGlitchNets$Net;") (List.mem_of_getElem? (i := 1) rfl)
  have lk1 := hts (.fieldLink RX8 138 "GlitchNets$Net" "kinds" "[I") (List.mem_of_getElem? (i := 2) rfl)
  have lk2 := hts (.fieldLink RX8 127 "GlitchNets$Net" "delays" "[I") (List.mem_of_getElem? (i := 3) rfl)
  have hP := XP_iff.mp hP
  have hD := XD_of hD
  have KR : ∀ (v : Int32)  (H : Heap) (locs : List Loc) (pc : Nat) (ls : Array Slot), some v = some r0 → narrow .int (.int v) = .int v → XP D a c X H → va_S A s.heap H locs → decode cX8_taken pc = .ok (.ireturn, 1) → W p l e rmX8_taken s m args below meth cd H locs 0 0 Q (F0 m pc ls [.int v]) := by
    intro v  H locs pc ls hr hn hP hS hd
    cases hr
    exact KR0 _ H locs pc ls rfl hn (XP_iff.mpr hP) (hD.all c _) hS hd
  have hl : lv_has ls 3 [(0, .ref (a 0 0)), (1, .int p0), (2, .int p1)] := hl
  refine lv_aload_n (pc := 0) hx hb dX8_taken_0 rfl (lv_at hl 0 rfl) ?_
  refine va_get (D := D) (ci := 8) (v := .ref ((a 3) 0)) (C := RX8) (T := TX8) (N := 12) (pc := 1) hx hb hfX8 (fun _ h9 => h9) hown hK (show va_P D vwCl (wX8 a c (X 0)) _ from hP 0 (by decide)) 0 rfl rfl 2 (by decide) lk0 (fun _ h9 => h9) rfl dX8_taken_1 ?_
  refine lv_iload_n (pc := 4) hx hb dX8_taken_4 rfl (lv_at hl 1 rfl) ?_
  obtain ⟨r5, hc5, h⟩ := b1_i h
  have hw : (wX3 (a 3) c (X 3)).map (·.1) = [3].flatMap (uA a) := rfl
  have hPc : va_P D vwCl (wX3 (a 3) c (X 3)) _ := hP 3 (by decide)
  have hDc : va_D A (wX3 (a 3) c (X 3)) := hD.of_addr (by decide) (by decide) hw
  refine g_X (X' := X) (st1 := [.int r5]) (gr_V (n := 1) (rest := []) (pc := 5) hx hb hml hown hts (cX3_has_met l D c tb sa sv (a 3) p0 (X 3) _ hc5) gX8_taken_X3_has rfl rfl rfl (by decide +kernel) rfl ⟨Nat.le_of_ble_eq_true rfl, Nat.le_of_ble_eq_true rfl⟩ ⟨Nat.zero_le _, Nat.zero_le _⟩ 0 3 rfl rfl rfl xE_ok hPc hDc hK (xE_ok.tr hE hS (g_freeX hD hS hA (by decide) (addr0 hw))) hl.1 (Nat.le_of_ble_eq_true rfl) dX8_taken_5 rfl) hP hD hS hA (ks := [3]) (by decide) (addr0 hw) (fun k9 _ hk9 => rfl) (fun H1 hw1 => (List.forall_mem_cons.mpr ⟨hw1, (fun _ h9 => absurd h9 List.not_mem_nil)⟩)) rfl (fun H locs hP hS => ?_)
  refine lv_if_eq (tgt := 20) (pc := 8) hx hb dX8_taken_8 (by decide) (fun c8 => ?_) (fun c8 => ?_)
  · replace h := it_t c8 h
    refine lv_bipush (v := -2) (pc := 20) hx hb dX8_taken_20 (by decide) ?_
    have kr := KR (-2 : Int32)  _ _ 22 ls h rfl hP hS dX8_taken_22
    exact kr
  · replace h := it_f c8 h
    refine lv_iload_n (pc := 11) hx hb dX8_taken_11 rfl (lv_at hl 2 rfl) ?_
    refine lv_iconst (v := 0) (pc := 12) hx hb dX8_taken_12 (by decide) ?_
    refine lv_iconst (v := 5) (pc := 13) hx hb dX8_taken_13 (by decide) ?_
    obtain ⟨r14, hc14, h⟩ := b1_i h
    refine g_noneX (st1 := [.int r14]) (gr_S (n := 3) (rest := []) (pc := 14) hx hb hml hown hts (cX8_isWithin_met l D c tb sa sv p1 (0 : Int32) (5 : Int32) _ hc14) gX8_taken_X8_isWithin rfl rfl rfl (by decide +kernel) rfl ⟨Nat.le_of_ble_eq_true rfl, Nat.le_of_ble_eq_true rfl⟩ ⟨Nat.zero_le _, Nat.zero_le _⟩ xE_ok g_P0 (g_D0 (A := A)) hK (xE_ok.tr hE hS (g_free0 hS hA)) hl.1 (Nat.le_of_ble_eq_true rfl) dX8_taken_14 rfl) hP hS hA rfl (fun H locs hP hS => ?_)
    refine lv_if_ne (tgt := 23) (pc := 17) hx hb dX8_taken_17 (by decide) (fun c17 => ?_) (fun c17 => ?_)
    · replace h := it_f c17 h
      refine lv_aload_n (pc := 23) hx hb dX8_taken_23 rfl (lv_at hl 0 rfl) ?_
      refine va_get (D := D) (ci := 8) (v := .ref ((a 3) 0)) (C := RX8) (T := TX8) (N := 12) (pc := 24) hx hb hfX8 (fun _ h9 => h9) hown hK (show va_P D vwCl (wX8 a c (X 0)) _ from hP 0 (by decide)) 0 rfl rfl 2 (by decide) lk0 (fun _ h9 => h9) rfl dX8_taken_24 ?_
      refine va_get (D := D) (ci := 3) (v := .ref ((a 3) 1)) (C := RX3) (T := TX3) (N := 7) (pc := 27) hx hb hfX3 (fun _ h9 => h9) hown hK (show va_P D vwCl (wX3 (a 3) c (X 3)) _ from hP 3 (by decide)) 0 rfl rfl 0 (by decide) lk1 (fun _ h9 => h9) rfl dX8_taken_27 ?_
      refine lv_iload_n (pc := 30) hx hb dX8_taken_30 rfl (lv_at hl 1 rfl) ?_
      obtain ⟨hk31, h⟩ := ckI_i h
      refine va_iald (D := D) (f := ((X 3).1 0)) (pc := 31) hx hb hK (show va_P D vwCl (wX3 (a 3) c (X 3)) _ from hP 3 (by decide)) 1 0 rfl rfl hk31 dX8_taken_31 ?_
      refine lv_iload_n (pc := 32) hx hb dX8_taken_32 rfl (lv_at hl 2 rfl) ?_
      obtain ⟨r33, hc33, h⟩ := b1_i h
      refine g_noneX (st1 := [.int r33]) (gr_S (n := 2) (rest := []) (pc := 33) hx hb hml hown hts (cX8_isKindOrUnder_met l D c tb sa sv ((((X 3).1 0) (p0).toNatClampNeg)) p1 _ hc33) gX8_taken_X8_isKindOrUnder rfl rfl rfl (by decide +kernel) rfl ⟨Nat.le_of_ble_eq_true rfl, Nat.le_of_ble_eq_true rfl⟩ ⟨Nat.zero_le _, Nat.zero_le _⟩ xE_ok g_P0 (g_D0 (A := A)) hK (xE_ok.tr hE hS (g_free0 hS hA)) hl.1 (Nat.le_of_ble_eq_true rfl) dX8_taken_33 rfl) hP hS hA rfl (fun H locs hP hS => ?_)
      refine lv_if_eq (tgt := 51) (pc := 36) hx hb dX8_taken_36 (by decide) (fun c36 => ?_) (fun c36 => ?_)
      · replace h := it_t c36 h
        refine lv_bipush (v := -13) (pc := 51) hx hb dX8_taken_51 (by decide) ?_
        have kr := KR (-13 : Int32)  _ _ 53 ls h rfl hP hS dX8_taken_53
        exact kr
      · replace h := it_f c36 h
        refine lv_aload_n (pc := 39) hx hb dX8_taken_39 rfl (lv_at hl 0 rfl) ?_
        refine va_get (D := D) (ci := 8) (v := .ref ((a 3) 0)) (C := RX8) (T := TX8) (N := 12) (pc := 40) hx hb hfX8 (fun _ h9 => h9) hown hK (show va_P D vwCl (wX8 a c (X 0)) _ from hP 0 (by decide)) 0 rfl rfl 2 (by decide) lk0 (fun _ h9 => h9) rfl dX8_taken_40 ?_
        refine va_get (D := D) (ci := 3) (v := .ref ((a 3) 4)) (C := RX3) (T := TX3) (N := 7) (pc := 43) hx hb hfX3 (fun _ h9 => h9) hown hK (show va_P D vwCl (wX3 (a 3) c (X 3)) _ from hP 3 (by decide)) 0 rfl rfl 3 (by decide) lk2 (fun _ h9 => h9) rfl dX8_taken_43 ?_
        refine lv_iload_n (pc := 46) hx hb dX8_taken_46 rfl (lv_at hl 1 rfl) ?_
        obtain ⟨hk47, h⟩ := ckI_i h
        refine va_iald (D := D) (f := ((X 3).1 3)) (pc := 47) hx hb hK (show va_P D vwCl (wX3 (a 3) c (X 3)) _ from hP 3 (by decide)) 4 0 rfl rfl hk47 dX8_taken_47 ?_
        refine lv_goto (tgt := 53) (pc := 48) hx hb dX8_taken_48 (by decide) ?_
        have kr := KR (((X 3).1 3) (p0).toNatClampNeg)  _ _ 53 ls h rfl hP hS dX8_taken_53
        exact kr
    · replace h := it_t c17 h
      refine lv_bipush (v := -2) (pc := 20) hx hb dX8_taken_20 (by decide) ?_
      have kr := KR (-2 : Int32)  _ _ 22 ls h rfl hP hS dX8_taken_22
      exact kr
abbrev rmX8_isStand : Room := { frames := 1, cells := 0, slots := 0, locals := 22 }
set_option maxRecDepth 100000 in
set_option maxHeartbeats 40000000 in
theorem cX8_isStand_met (l : Launch) (D : va_G) (c : Nat → ClassId) (tb : Nat) (sa sv : Nat → Nat)  (p0 : Int32) (r0 : Int32) (h : fX8_isStand p0 = some r0) : gM l yX8_isStand wsX8_isStand rmX8_isStand D (gY c) (xE tb sa sv) [.int p0] ([]) (some (.int r0)) ([]) := by
  unfold fX8_isStand at h
  refine gM.I (cc := cX8_isStand) (maxL := 1) (by decide) rfl (Nat.le_of_ble_eq_true rfl) ?_
  intro p e s m args below meth cd hx hb hml hown hts A hA ls hl hP hK hD hS hE Q KR0
  have KR : ∀ (v : Int32)  (H : Heap) (locs : List Loc) (pc : Nat) (ls : Array Slot), some v = some r0 → narrow .boolean (.int v) = .int v → va_P D vwCl ([]) H → va_D A ([]) → va_S A s.heap H locs → decode cX8_isStand pc = .ok (.ireturn, 1) → W p l e rmX8_isStand s m args below meth cd H locs 0 0 Q (F0 m pc ls [.int v]) := by
    intro v  H locs pc ls hr hn hP hD hS hd
    cases hr
    exact KR0 _ H locs pc ls rfl hn hP hD hS hd
  have hl : lv_has ls 1 [(0, .int p0)] := hl
  refine lv_iload_n (pc := 0) hx hb dX8_isStand_0 rfl (lv_at hl 0 rfl) ?_
  refine lv_iconst (v := 0) (pc := 1) hx hb dX8_isStand_1 (by decide) ?_
  refine lv_bipush (v := 15) (pc := 2) hx hb dX8_isStand_2 (by decide) ?_
  obtain ⟨r4, hc4, h⟩ := b1_i h
  refine g_none (st1 := [.int r4]) (gr_S (n := 3) (rest := []) (pc := 4) hx hb hml hown hts (cX8_isWithin_met l D c tb sa sv p0 (0 : Int32) (15 : Int32) _ hc4) gX8_isStand_X8_isWithin rfl rfl rfl (by decide +kernel) rfl ⟨Nat.le_of_ble_eq_true rfl, Nat.le_of_ble_eq_true rfl⟩ ⟨Nat.zero_le _, Nat.zero_le _⟩ xE_ok g_P0 (g_D0 (A := A)) hK (xE_ok.tr hE hS (g_free0 hS hA)) hl.1 (Nat.le_of_ble_eq_true rfl) dX8_isStand_4 rfl) hP hS hA rfl (fun H locs hP hS => ?_)
  obtain ⟨hz7, h⟩ := ckZ_i h
  have kr := KR r4  _ _ 7 ls h hz7 hP hD hS dX8_isStand_7
  exact kr
abbrev rmX8_combined : Room := { frames := 0, cells := 0, slots := 0, locals := 0 }
set_option maxRecDepth 100000 in
set_option maxHeartbeats 40000000 in
theorem cX8_combined_met (l : Launch) (D : va_G) (c : Nat → ClassId) (tb : Nat) (sa sv : Nat → Nat)  (p0 : Int32) (p1 : Int64) (p2 : Int64) (r0 : Int64) (h : fX8_combined p0 p1 p2 = some r0) : gM l yX8_combined wsX8_combined rmX8_combined D (gY c) (xE tb sa sv) [.int p0, .long p1, .long p2] ([]) (some (.long r0)) ([]) := by
  unfold fX8_combined at h
  refine gM.L (cc := cX8_combined) (maxL := 5) (by decide) rfl (Nat.le_of_ble_eq_true rfl) ?_
  intro p e s m args below meth cd hx hb hml hown hts A hA ls hl hP hK hD hS hE Q KR0
  have lk0 := hts (.constantLong RX8 340 (-1)) (List.mem_of_getElem? (i := 1) rfl)
  have KR : ∀ (v : Int64)  (H : Heap) (locs : List Loc) (pc : Nat) (ls : Array Slot), some v = some r0 → va_P D vwCl ([]) H → va_D A ([]) → va_S A s.heap H locs → decode cX8_combined pc = .ok (.lreturn, 1) → W p l e rmX8_combined s m args below meth cd H locs 0 0 Q (F0 m pc ls [.long v]) := by
    intro v  H locs pc ls hr hP hD hS hd
    cases hr
    exact KR0 _ H locs pc ls rfl hP hD hS hd
  have hl : lv_has ls 5 [(0, .int p0), (1, .long p1), (3, .long p2)] := hl
  refine lv_iload_n (pc := 0) hx hb dX8_combined_0 rfl (lv_at hl 0 rfl) ?_
  by_cases c1_0 : p0 = (0 : Int32)
  · replace h := it_t c1_0 h
    refine lv_tableIn (tgt := 36) (off := 35) (pc := 1) hx hb dX8_combined_1 (by rw [c1_0]; decide) (by rw [c1_0]; decide) (by rw [c1_0]; rfl) (by decide) ?_
    refine lv_lload_n (pc := 36) hx hb dX8_combined_36 rfl (lv_at hl 1 rfl) ?_
    refine lv_lload_n (pc := 37) hx hb dX8_combined_37 rfl (lv_at hl 2 rfl) ?_
    refine lv_land (pc := 38) hx hb dX8_combined_38 ?_
    have kr := KR (p1 &&& p2)  _ _ 39 ls h hP hD hS dX8_combined_39
    exact kr
  · replace h := it_f c1_0 h
    by_cases c1_1 : p0 = (1 : Int32)
    · replace h := it_t c1_1 h
      refine lv_tableIn (tgt := 40) (off := 39) (pc := 1) hx hb dX8_combined_1 (by rw [c1_1]; decide) (by rw [c1_1]; decide) (by rw [c1_1]; rfl) (by decide) ?_
      refine lv_lload_n (pc := 40) hx hb dX8_combined_40 rfl (lv_at hl 1 rfl) ?_
      refine lv_lload_n (pc := 41) hx hb dX8_combined_41 rfl (lv_at hl 2 rfl) ?_
      refine lv_land (pc := 42) hx hb dX8_combined_42 ?_
      refine lv_ldc2 (v := -1) (pc := 43) hx hb hown lk0 dX8_combined_43 ?_
      refine lv_lxor (pc := 46) hx hb dX8_combined_46 ?_
      have kr := KR ((p1 &&& p2) ^^^ (-1 : Int64))  _ _ 47 ls h hP hD hS dX8_combined_47
      exact kr
    · replace h := it_f c1_1 h
      by_cases c1_2 : p0 = (2 : Int32)
      · replace h := it_t c1_2 h
        refine lv_tableIn (tgt := 48) (off := 47) (pc := 1) hx hb dX8_combined_1 (by rw [c1_2]; decide) (by rw [c1_2]; decide) (by rw [c1_2]; rfl) (by decide) ?_
        refine lv_lload_n (pc := 48) hx hb dX8_combined_48 rfl (lv_at hl 1 rfl) ?_
        refine lv_lload_n (pc := 49) hx hb dX8_combined_49 rfl (lv_at hl 2 rfl) ?_
        refine lv_lor (pc := 50) hx hb dX8_combined_50 ?_
        have kr := KR (p1 ||| p2)  _ _ 51 ls h hP hD hS dX8_combined_51
        exact kr
      · replace h := it_f c1_2 h
        by_cases c1_3 : p0 = (3 : Int32)
        · replace h := it_t c1_3 h
          refine lv_tableIn (tgt := 52) (off := 51) (pc := 1) hx hb dX8_combined_1 (by rw [c1_3]; decide) (by rw [c1_3]; decide) (by rw [c1_3]; rfl) (by decide) ?_
          refine lv_lload_n (pc := 52) hx hb dX8_combined_52 rfl (lv_at hl 1 rfl) ?_
          refine lv_lload_n (pc := 53) hx hb dX8_combined_53 rfl (lv_at hl 2 rfl) ?_
          refine lv_lor (pc := 54) hx hb dX8_combined_54 ?_
          refine lv_ldc2 (v := -1) (pc := 55) hx hb hown lk0 dX8_combined_55 ?_
          refine lv_lxor (pc := 58) hx hb dX8_combined_58 ?_
          have kr := KR ((p1 ||| p2) ^^^ (-1 : Int64))  _ _ 59 ls h hP hD hS dX8_combined_59
          exact kr
        · replace h := it_f c1_3 h
          by_cases c1_4 : p0 = (4 : Int32)
          · replace h := it_t c1_4 h
            refine lv_tableIn (tgt := 60) (off := 59) (pc := 1) hx hb dX8_combined_1 (by rw [c1_4]; decide) (by rw [c1_4]; decide) (by rw [c1_4]; rfl) (by decide) ?_
            refine lv_lload_n (pc := 60) hx hb dX8_combined_60 rfl (lv_at hl 1 rfl) ?_
            refine lv_lload_n (pc := 61) hx hb dX8_combined_61 rfl (lv_at hl 2 rfl) ?_
            refine lv_lxor (pc := 62) hx hb dX8_combined_62 ?_
            have kr := KR (p1 ^^^ p2)  _ _ 63 ls h hP hD hS dX8_combined_63
            exact kr
          · replace h := it_f c1_4 h
            have hsw : (p0).toInt < 0 ∨ 4 < (p0).toInt := by
              have z0 := lv_neT c1_0 (a := 0) (by decide)
              have z1 := lv_neT c1_1 (a := 1) (by decide)
              have z2 := lv_neT c1_2 (a := 2) (by decide)
              have z3 := lv_neT c1_3 (a := 3) (by decide)
              have z4 := lv_neT c1_4 (a := 4) (by decide)
              omega
            refine lv_tableOut (tgt := 64) (pc := 1) hx hb dX8_combined_1 hsw (by decide) ?_
            refine lv_lload_n (pc := 64) hx hb dX8_combined_64 rfl (lv_at hl 1 rfl) ?_
            refine lv_ldc2 (v := -1) (pc := 65) hx hb hown lk0 dX8_combined_65 ?_
            refine lv_lxor (pc := 68) hx hb dX8_combined_68 ?_
            have kr := KR (p1 ^^^ (-1 : Int64))  _ _ 69 ls h hP hD hS dX8_combined_69
            exact kr
abbrev rmX3_findTables : Room := { frames := 1, cells := 0, slots := 0, locals := 24 }
set_option maxRecDepth 100000 in
set_option maxHeartbeats 40000000 in
theorem cX3_findTables_met (l : Launch) (D : va_G) (c : Nat → ClassId) (tb : Nat) (sa sv : Nat → Nat) (a0 : Nat → Nat) (s0 : Mem) (z0 : Mem) (h : fX3_findTables s0 = some z0) : gM l yX3_findTables wsX3_findTables rmX3_findTables D (gY c) (xE tb sa sv) [.ref (a0 0)] (wX3 a0 c s0) none (wX3 a0 c z0) := by
  unfold fX3_findTables at h
  refine gM.V (cc := cX3_findTables) (maxL := 6) (by decide) rfl (Nat.le_of_ble_eq_true rfl) ?_
  intro p e s m args below meth cd hx hb hml hown hts A hA ls hl hP hK hD hS hE Q KR0
  have hfX3 : ∀ w ∈ u_ws RX3 TX3 7, w.before args s = true := fun w hw => hts w (List.mem_cons_of_mem _ (List.mem_append_right _ hw))
  have lk0 := hts (.fieldLink RX3 33 "GlitchNets$Net" "size" "I") (List.mem_of_getElem? (i := 1) rfl)
  have lk1 := hts (.fieldLink RX3 24 "GlitchNets$Net" "tables" "[I") (List.mem_of_getElem? (i := 2) rfl)
  have lk2 := hts (.fieldLink RX3 15 "GlitchNets$Net" "firsts" "[I") (List.mem_of_getElem? (i := 3) rfl)
  have lk3 := hts (.fieldLink RX3 18 "GlitchNets$Net" "seconds" "[I") (List.mem_of_getElem? (i := 4) rfl)
  have lk4 := hts (.fieldLink RX3 11 "GlitchNets$Net" "kinds" "[I") (List.mem_of_getElem? (i := 5) rfl)
  have lk5 := hts (.initialized RX8) (List.mem_of_getElem? (i := 8) rfl)
  have lk6 := hts (.static yX8_combined) (List.mem_of_getElem? (i := 7) rfl)
  have lk7 := hts (.constantLong RX3 55 (65535)) (List.mem_of_getElem? (i := 6) rfl)
  have KR : ∀ (w0 : Mem) (H : Heap) (locs : List Loc) (pc : Nat) (ls : Array Slot), some w0 = some z0 → va_P D vwCl (wX3 a0 c w0) H → va_D A (wX3 a0 c w0) → va_S A s.heap H locs → decode cX3_findTables pc = .ok (.return_, 1) → W p l e rmX3_findTables s m args below meth cd H locs 0 0 Q (F0 m pc ls []) := by
    intro w0 H locs pc ls hr hP hD hS hd
    cases hr
    exact KR0 H locs pc ls hP hD hS hd
  have hl : lv_has ls 6 [(0, .ref (a0 0))] := hl
  have J2 : ∀ (n : Nat) (x1 : Int32) (s0 : Mem) (H : Heap) (locs : List Loc) (ls : Array Slot), fX3_findTables_b2 n x1 s0 = some z0 → va_P D vwCl (wX3 a0 c s0) H → va_D A (wX3 a0 c s0) → va_S A s.heap H locs → lv_has ls 6 [(0, .ref (a0 0)), (1, .int x1)] → W p l e rmX3_findTables s m args below meth cd H locs 0 0 Q (F0 m 2 ls []) := by
    intro n
    induction n with
    | zero =>
      intro x1 s0 H locs ls h _ _ _ _
      cases (show (none : Option (Mem)) = some _ from h)
    | succ n K2h =>
      intro x1 s0 H locs ls h hP hD hS hl
      rw [fX3_findTables_b2] at h
      refine lv_iload_n (pc := 2) hx hb dX3_findTables_2 rfl (lv_at hl 1 rfl) ?_
      refine lv_aload_n (pc := 3) hx hb dX3_findTables_3 rfl (lv_at hl 0 rfl) ?_
      refine va_get (D := D) (ci := 3) (v := .int (s0.1 4 0)) (C := RX3) (T := TX3) (N := 7) (pc := 4) hx hb hfX3 (fun _ h9 => h9) hown hK hP 0 rfl rfl 4 (by decide) lk0 (fun _ h9 => h9) rfl dX3_findTables_4 ?_
      refine lv_icmp_ge (tgt := 72) (pc := 7) hx hb dX3_findTables_7 (by decide) (fun c7 => ?_) (fun c7 => ?_)
      · replace h := it_t c7 h
        have kr := KR s0 _ _ 72 ls h hP hD hS dX3_findTables_72
        exact kr
      · replace h := it_f c7 h
        refine lv_aload_n (pc := 10) hx hb dX3_findTables_10 rfl (lv_at hl 0 rfl) ?_
        refine va_get (D := D) (ci := 3) (v := .ref (a0 5)) (C := RX3) (T := TX3) (N := 7) (pc := 11) hx hb hfX3 (fun _ h9 => h9) hown hK hP 0 rfl rfl 5 (by decide) lk1 (fun _ h9 => h9) rfl dX3_findTables_11 ?_
        refine lv_iconst (v := 4) (pc := 14) hx hb dX3_findTables_14 (by decide) ?_
        refine lv_aload_n (pc := 15) hx hb dX3_findTables_15 rfl (lv_at hl 0 rfl) ?_
        refine va_get (D := D) (ci := 3) (v := .ref (a0 2)) (C := RX3) (T := TX3) (N := 7) (pc := 16) hx hb hfX3 (fun _ h9 => h9) hown hK hP 0 rfl rfl 1 (by decide) lk2 (fun _ h9 => h9) rfl dX3_findTables_16 ?_
        refine lv_iload_n (pc := 19) hx hb dX3_findTables_19 rfl (lv_at hl 1 rfl) ?_
        obtain ⟨hk20, h⟩ := ckI_i h
        refine va_iald (D := D) (f := (s0.1 1)) (pc := 20) hx hb hK hP 2 0 rfl rfl hk20 dX3_findTables_20 ?_
        refine lv_iadd (pc := 21) hx hb dX3_findTables_21 ?_
        obtain ⟨hk22, h⟩ := ckI_i h
        refine va_iald (D := D) (f := (s0.1 5)) (pc := 22) hx hb hK hP 5 0 rfl rfl hk22 dX3_findTables_22 ?_
        refine lv_i2l (v := ((((s0.1 5) (((4 : Int32) + ((s0.1 1) (x1).toNatClampNeg))).toNatClampNeg)).toInt64)) (pc := 23) hx hb dX3_findTables_23 rfl ?_
        refine lv_topl (fun v2_24 ev2_24 => ?_)
        replace h := lt_e ev2_24 h
        refine lv_lstore_n (lv' := [(2, .long v2_24), (0, .ref (a0 0)), (1, .int x1)]) (pc := 24) hx hb dX3_findTables_24 rfl hl (by decide) rfl (fun ls hl => ?_)
        refine lv_aload_n (pc := 25) hx hb dX3_findTables_25 rfl (lv_at hl 1 rfl) ?_
        refine va_get (D := D) (ci := 3) (v := .ref (a0 5)) (C := RX3) (T := TX3) (N := 7) (pc := 26) hx hb hfX3 (fun _ h9 => h9) hown hK hP 0 rfl rfl 5 (by decide) lk1 (fun _ h9 => h9) rfl dX3_findTables_26 ?_
        refine lv_iconst (v := 4) (pc := 29) hx hb dX3_findTables_29 (by decide) ?_
        refine lv_aload_n (pc := 30) hx hb dX3_findTables_30 rfl (lv_at hl 1 rfl) ?_
        refine va_get (D := D) (ci := 3) (v := .ref (a0 3)) (C := RX3) (T := TX3) (N := 7) (pc := 31) hx hb hfX3 (fun _ h9 => h9) hown hK hP 0 rfl rfl 2 (by decide) lk3 (fun _ h9 => h9) rfl dX3_findTables_31 ?_
        refine lv_iload_n (pc := 34) hx hb dX3_findTables_34 rfl (lv_at hl 2 rfl) ?_
        obtain ⟨hk35, h⟩ := ckI_i h
        refine va_iald (D := D) (f := (s0.1 2)) (pc := 35) hx hb hK hP 3 0 rfl rfl hk35 dX3_findTables_35 ?_
        refine lv_iadd (pc := 36) hx hb dX3_findTables_36 ?_
        obtain ⟨hk37, h⟩ := ckI_i h
        refine va_iald (D := D) (f := (s0.1 5)) (pc := 37) hx hb hK hP 5 0 rfl rfl hk37 dX3_findTables_37 ?_
        refine lv_i2l (v := ((((s0.1 5) (((4 : Int32) + ((s0.1 2) (x1).toNatClampNeg))).toNatClampNeg)).toInt64)) (pc := 38) hx hb dX3_findTables_38 rfl ?_
        refine lv_topl (fun v4_39 ev4_39 => ?_)
        replace h := lt_e ev4_39 h
        refine lv_lstore (lv' := [(4, .long v4_39), (2, .long v2_24), (0, .ref (a0 0)), (1, .int x1)]) (pc := 39) hx hb dX3_findTables_39 hl (by decide) rfl (fun ls hl => ?_)
        refine lv_aload_n (pc := 41) hx hb dX3_findTables_41 rfl (lv_at hl 2 rfl) ?_
        refine va_get (D := D) (ci := 3) (v := .ref (a0 5)) (C := RX3) (T := TX3) (N := 7) (pc := 42) hx hb hfX3 (fun _ h9 => h9) hown hK hP 0 rfl rfl 5 (by decide) lk1 (fun _ h9 => h9) rfl dX3_findTables_42 ?_
        refine lv_iconst (v := 4) (pc := 45) hx hb dX3_findTables_45 (by decide) ?_
        refine lv_iload_n (pc := 46) hx hb dX3_findTables_46 rfl (lv_at hl 3 rfl) ?_
        refine lv_iadd (pc := 47) hx hb dX3_findTables_47 ?_
        refine lv_aload_n (pc := 48) hx hb dX3_findTables_48 rfl (lv_at hl 2 rfl) ?_
        refine va_get (D := D) (ci := 3) (v := .ref (a0 1)) (C := RX3) (T := TX3) (N := 7) (pc := 49) hx hb hfX3 (fun _ h9 => h9) hown hK hP 0 rfl rfl 0 (by decide) lk4 (fun _ h9 => h9) rfl dX3_findTables_49 ?_
        refine lv_iload_n (pc := 52) hx hb dX3_findTables_52 rfl (lv_at hl 3 rfl) ?_
        obtain ⟨hk53, h⟩ := ckI_i h
        refine va_iald (D := D) (f := (s0.1 0)) (pc := 53) hx hb hK hP 1 0 rfl rfl hk53 dX3_findTables_53 ?_
        refine lv_lload_n (pc := 54) hx hb dX3_findTables_54 rfl (lv_at hl 1 rfl) ?_
        refine lv_lload (pc := 55) hx hb dX3_findTables_55 (lv_at hl 0 rfl) ?_
        obtain ⟨r57, hc57, h⟩ := b1_i h
        refine g_none (st1 := [.long r57, .int ((4 : Int32) + x1), .ref (a0 5)]) (gr_SN (n := 3) (rest := [.int ((4 : Int32) + x1), .ref (a0 5)]) (pc := 57) hx hb hml hown hts (cX8_combined_met l D c tb sa sv (((s0.1 0) (x1).toNatClampNeg)) v2_24 v4_39 _ hc57) gX3_findTables_X8_combined_n51 rfl rfl rfl (xE_n9 hE) lk5 lk6 (by decide +kernel) rfl ⟨Nat.le_of_ble_eq_true rfl, Nat.le_of_ble_eq_true rfl⟩ ⟨Nat.zero_le _, Nat.zero_le _⟩ xE_ok g_P0 (g_D0 (A := A)) hK (xE_ok.tr hE hS (g_free0 hS hA)) hl.1 (Nat.le_of_ble_eq_true rfl) dX3_findTables_57 rfl) hP hS hA rfl (fun H locs hP hS => ?_)
        refine lv_ldc2 (v := 65535) (pc := 60) hx hb hown lk7 dX3_findTables_60 ?_
        refine lv_land (pc := 63) hx hb dX3_findTables_63 ?_
        refine lv_l2i (v := (((r57 &&& (65535 : Int64))).toInt32)) (pc := 64) hx hb dX3_findTables_64 rfl ?_
        obtain ⟨hk65, h⟩ := ckI_i h
        refine va_iast (D := D) (f := (s0.1 5)) (pc := 65) hx hb hK hP hD hS 5 0 rfl rfl hk65 dX3_findTables_65 (fun H locs hP hD hS => ?_)
        have hP : va_P D vwCl (wX3 a0 c (mi s0 5 (((4 : Int32) + x1)).toNatClampNeg (((r57 &&& (65535 : Int64))).toInt32))) H := hP
        have hD : va_D A (wX3 a0 c (mi s0 5 (((4 : Int32) + x1)).toNatClampNeg (((r57 &&& (65535 : Int64))).toInt32))) := hD
        obtain ⟨v1_66, ev1_66, h⟩ := lt_i h
        refine lv_iinc (v := v1_66) (lv' := [(1, .int v1_66), (4, .long v4_39), (2, .long v2_24), (0, .ref (a0 0))]) (pc := 66) hx hb dX3_findTables_66 hl (k := 3) rfl (by rw [ev1_66]; rfl) (by decide) rfl (fun ls hl => ?_)
        refine lv_goto (tgt := 2) (pc := 69) hx hb dX3_findTables_69 (by decide) ?_
        have jr := K2h v1_66 ((mi s0 5 (((4 : Int32) + x1)).toNatClampNeg (((r57 &&& (65535 : Int64))).toInt32))) _ _ ls h hP hD hS (lv_sub hl [3, 0] rfl)
        exact jr
  refine lv_iconst (v := 0) (pc := 0) hx hb dX3_findTables_0 (by decide) ?_
  refine lv_istore_n (lv' := [(1, .int (0 : Int32)), (0, .ref (a0 0))]) (pc := 1) hx hb dX3_findTables_1 rfl hl (by decide) rfl (fun ls hl => ?_)
  have jr := J2 FU (0 : Int32) s0 _ _ ls h hP hD hS (lv_sub hl [1, 0] rfl)
  exact jr
abbrev rmX3_tableOf : Room := { frames := 2, cells := 0, slots := 0, locals := 49 }
set_option maxRecDepth 100000 in
set_option maxHeartbeats 40000000 in
theorem cX3_tableOf_met (l : Launch) (D : va_G) (c : Nat → ClassId) (tb : Nat) (sa sv : Nat → Nat) (a0 : Nat → Nat) (p0 : Int32) (s0 : Mem) (r0 : Int32) (z0 : Mem) (h : fX3_tableOf p0 s0 = some (r0, z0)) : gM l yX3_tableOf wsX3_tableOf rmX3_tableOf D (gY c) (xE tb sa sv) [.ref (a0 0), .int p0] (wX3 a0 c s0) (some (.int r0)) (wX3 a0 c z0) := by
  unfold fX3_tableOf at h
  refine gM.I (cc := cX3_tableOf) (maxL := 2) (by decide) rfl (Nat.le_of_ble_eq_true rfl) ?_
  intro p e s m args below meth cd hx hb hml hown hts A hA ls hl hP hK hD hS hE Q KR0
  have hfX3 : ∀ w ∈ u_ws RX3 TX3 7, w.before args s = true := fun w hw => hts w (List.mem_cons_of_mem _ (List.mem_append_right _ hw))
  have lk0 := hts (.fieldLink RX3 24 "GlitchNets$Net" "tables" "[I") (List.mem_of_getElem? (i := 1) rfl)
  have KR : ∀ (v : Int32) (w0 : Mem) (H : Heap) (locs : List Loc) (pc : Nat) (ls : Array Slot), some (v, w0) = some (r0, z0) → narrow .int (.int v) = .int v → va_P D vwCl (wX3 a0 c w0) H → va_D A (wX3 a0 c w0) → va_S A s.heap H locs → decode cX3_tableOf pc = .ok (.ireturn, 1) → W p l e rmX3_tableOf s m args below meth cd H locs 0 0 Q (F0 m pc ls [.int v]) := by
    intro v w0 H locs pc ls hr hn hP hD hS hd
    cases hr
    exact KR0 _ H locs pc ls rfl hn hP hD hS hd
  have hl : lv_has ls 2 [(0, .ref (a0 0)), (1, .int p0)] := hl
  refine lv_aload_n (pc := 0) hx hb dX3_tableOf_0 rfl (lv_at hl 0 rfl) ?_
  obtain ⟨t0_1, hc1, h⟩ := b1_i h
  refine g_all (st1 := []) (gr_V (n := 0) (rest := []) (pc := 1) hx hb hml hown hts (cX3_findTables_met l D c tb sa sv a0 s0 _ hc1) gX3_tableOf_X3_findTables rfl rfl rfl (by decide +kernel) rfl ⟨Nat.le_of_ble_eq_true rfl, Nat.le_of_ble_eq_true rfl⟩ ⟨Nat.zero_le _, Nat.zero_le _⟩ 0 3 rfl rfl rfl xE_ok hP hD hK (xE_ok.tr hE hS (g_free hD hS hA)) hl.1 (Nat.le_of_ble_eq_true rfl) dX3_tableOf_1 rfl) hD hS hA rfl (fun H locs hP hD hS => ?_)
  refine lv_aload_n (pc := 4) hx hb dX3_tableOf_4 rfl (lv_at hl 0 rfl) ?_
  refine lv_iload_n (pc := 5) hx hb dX3_tableOf_5 rfl (lv_at hl 1 rfl) ?_
  obtain ⟨r6, hc6, h⟩ := b1_i h
  refine g_all (st1 := [.int r6]) (gr_V (n := 1) (rest := []) (pc := 6) hx hb hml hown hts (cX3_has_met l D c tb sa sv a0 p0 t0_1 _ hc6) gX3_tableOf_X3_has rfl rfl rfl (by decide +kernel) rfl ⟨Nat.le_of_ble_eq_true rfl, Nat.le_of_ble_eq_true rfl⟩ ⟨Nat.zero_le _, Nat.zero_le _⟩ 0 3 rfl rfl rfl xE_ok hP hD hK (xE_ok.tr hE hS (g_free hD hS hA)) hl.1 (Nat.le_of_ble_eq_true rfl) dX3_tableOf_6 rfl) hD hS hA rfl (fun H locs hP hD hS => ?_)
  refine lv_if_eq (tgt := 23) (pc := 9) hx hb dX3_tableOf_9 (by decide) (fun c9 => ?_) (fun c9 => ?_)
  · replace h := it_t c9 h
    refine lv_iconst (v := 0) (pc := 23) hx hb dX3_tableOf_23 (by decide) ?_
    have kr := KR (0 : Int32) t0_1 _ _ 24 ls h rfl hP hD hS dX3_tableOf_24
    exact kr
  · replace h := it_f c9 h
    refine lv_aload_n (pc := 12) hx hb dX3_tableOf_12 rfl (lv_at hl 0 rfl) ?_
    refine va_get (D := D) (ci := 3) (v := .ref (a0 5)) (C := RX3) (T := TX3) (N := 7) (pc := 13) hx hb hfX3 (fun _ h9 => h9) hown hK hP 0 rfl rfl 5 (by decide) lk0 (fun _ h9 => h9) rfl dX3_tableOf_13 ?_
    refine lv_iconst (v := 4) (pc := 16) hx hb dX3_tableOf_16 (by decide) ?_
    refine lv_iload_n (pc := 17) hx hb dX3_tableOf_17 rfl (lv_at hl 1 rfl) ?_
    refine lv_iadd (pc := 18) hx hb dX3_tableOf_18 ?_
    obtain ⟨hk19, h⟩ := ckI_i h
    refine va_iald (D := D) (f := (t0_1.1 5)) (pc := 19) hx hb hK hP 5 0 rfl rfl hk19 dX3_tableOf_19 ?_
    refine lv_goto (tgt := 24) (pc := 20) hx hb dX3_tableOf_20 (by decide) ?_
    have kr := KR ((t0_1.1 5) (((4 : Int32) + p0)).toNatClampNeg) t0_1 _ _ 24 ls h rfl hP hD hS dX3_tableOf_24
    exact kr
abbrev rmX8_tells : Room := { frames := 3, cells := 0, slots := 0, locals := 70 }
set_option maxRecDepth 100000 in
set_option maxHeartbeats 40000000 in
theorem cX8_tells_met (l : Launch) (D : va_G) (c : Nat → ClassId) (tb : Nat) (sa sv : Nat → Nat) (a : Nat → Nat → Nat) (p0 : Int32) (p1 : Int32) (X : XS) (r0 : Int32) (z0 : XS) (h : fX8_tells p0 p1 X = some (r0, z0)) : gM l yX8_tells wsX8_tells rmX8_tells D (gY c) (xE tb sa sv) [.ref (a 0 0), .int p0, .int p1] (wX a c X) (some (.int r0)) (wX a c z0) := by
  unfold fX8_tells at h
  refine gM.I (cc := cX8_tells) (maxL := 3) (by decide) rfl (Nat.le_of_ble_eq_true rfl) ?_
  intro p e s m args below meth cd hx hb hml hown hts A hA ls hl hP hK hD hS hE Q KR0
  have hfX8 : ∀ w ∈ u_ws RX8 TX8 12, w.before args s = true := fun w hw => hts w (List.mem_cons_of_mem _ (List.mem_append_left _ (List.mem_append_right _ hw)))
  have lk0 := hts (.fieldLink RX8 26 "GlitchNets" "net" "LGlitchNets$Net;") (List.mem_of_getElem? (i := 1) rfl)
  have hP := XP_iff.mp hP
  have hD := XD_of hD
  have KR : ∀ (v : Int32) (w0 : XS) (H : Heap) (locs : List Loc) (pc : Nat) (ls : Array Slot), some (v, w0) = some (r0, z0) → narrow .int (.int v) = .int v → XP D a c w0 H → va_S A s.heap H locs → decode cX8_tells pc = .ok (.ireturn, 1) → W p l e rmX8_tells s m args below meth cd H locs 0 0 Q (F0 m pc ls [.int v]) := by
    intro v w0 H locs pc ls hr hn hP hS hd
    cases hr
    exact KR0 _ H locs pc ls rfl hn (XP_iff.mpr hP) (hD.all c _) hS hd
  have hl : lv_has ls 3 [(0, .ref (a 0 0)), (1, .int p0), (2, .int p1)] := hl
  refine lv_aload_n (pc := 0) hx hb dX8_tells_0 rfl (lv_at hl 0 rfl) ?_
  refine va_get (D := D) (ci := 8) (v := .ref ((a 3) 0)) (C := RX8) (T := TX8) (N := 12) (pc := 1) hx hb hfX8 (fun _ h9 => h9) hown hK (show va_P D vwCl (wX8 a c (X 0)) _ from hP 0 (by decide)) 0 rfl rfl 2 (by decide) lk0 (fun _ h9 => h9) rfl dX8_tells_1 ?_
  refine lv_iload_n (pc := 4) hx hb dX8_tells_4 rfl (lv_at hl 1 rfl) ?_
  obtain ⟨r5, hc5, h⟩ := b1_i h
  have hw : (wX3 (a 3) c (X 3)).map (·.1) = [3].flatMap (uA a) := rfl
  have hPc : va_P D vwCl (wX3 (a 3) c (X 3)) _ := hP 3 (by decide)
  have hDc : va_D A (wX3 (a 3) c (X 3)) := hD.of_addr (by decide) (by decide) hw
  refine g_X (X' := X) (st1 := [.int r5]) (gr_V (n := 1) (rest := []) (pc := 5) hx hb hml hown hts (cX3_has_met l D c tb sa sv (a 3) p0 (X 3) _ hc5) gX8_tells_X3_has rfl rfl rfl (by decide +kernel) rfl ⟨Nat.le_of_ble_eq_true rfl, Nat.le_of_ble_eq_true rfl⟩ ⟨Nat.zero_le _, Nat.zero_le _⟩ 0 3 rfl rfl rfl xE_ok hPc hDc hK (xE_ok.tr hE hS (g_freeX hD hS hA (by decide) (addr0 hw))) hl.1 (Nat.le_of_ble_eq_true rfl) dX8_tells_5 rfl) hP hD hS hA (ks := [3]) (by decide) (addr0 hw) (fun k9 _ hk9 => rfl) (fun H1 hw1 => (List.forall_mem_cons.mpr ⟨hw1, (fun _ h9 => absurd h9 List.not_mem_nil)⟩)) rfl (fun H locs hP hS => ?_)
  refine lv_if_eq (tgt := 18) (pc := 8) hx hb dX8_tells_8 (by decide) (fun c8 => ?_) (fun c8 => ?_)
  · replace h := it_t c8 h
    refine lv_bipush (v := -2) (pc := 18) hx hb dX8_tells_18 (by decide) ?_
    have kr := KR (-2 : Int32) X _ _ 20 ls h rfl hP hS dX8_tells_20
    exact kr
  · replace h := it_f c8 h
    refine lv_iload_n (pc := 11) hx hb dX8_tells_11 rfl (lv_at hl 2 rfl) ?_
    obtain ⟨r12, hc12, h⟩ := b1_i h
    refine g_noneX (st1 := [.int r12]) (gr_S (n := 1) (rest := []) (pc := 12) hx hb hml hown hts (cX8_isStand_met l D c tb sa sv p1 _ hc12) gX8_tells_X8_isStand rfl rfl rfl (by decide +kernel) rfl ⟨Nat.le_of_ble_eq_true rfl, Nat.le_of_ble_eq_true rfl⟩ ⟨Nat.zero_le _, Nat.zero_le _⟩ xE_ok g_P0 (g_D0 (A := A)) hK (xE_ok.tr hE hS (g_free0 hS hA)) hl.1 (Nat.le_of_ble_eq_true rfl) dX8_tells_12 rfl) hP hS hA rfl (fun H locs hP hS => ?_)
    refine lv_if_ne (tgt := 21) (pc := 15) hx hb dX8_tells_15 (by decide) (fun c15 => ?_) (fun c15 => ?_)
    · replace h := it_f c15 h
      refine lv_aload_n (pc := 21) hx hb dX8_tells_21 rfl (lv_at hl 0 rfl) ?_
      refine va_get (D := D) (ci := 8) (v := .ref ((a 3) 0)) (C := RX8) (T := TX8) (N := 12) (pc := 22) hx hb hfX8 (fun _ h9 => h9) hown hK (show va_P D vwCl (wX8 a c (X 0)) _ from hP 0 (by decide)) 0 rfl rfl 2 (by decide) lk0 (fun _ h9 => h9) rfl dX8_tells_22 ?_
      refine lv_iload_n (pc := 25) hx hb dX8_tells_25 rfl (lv_at hl 1 rfl) ?_
      obtain ⟨r26, t0_26, hc26, h⟩ := b2_i h
      have hw : (wX3 (a 3) c (X 3)).map (·.1) = [3].flatMap (uA a) := rfl
      have hPc : va_P D vwCl (wX3 (a 3) c (X 3)) _ := hP 3 (by decide)
      have hDc : va_D A (wX3 (a 3) c (X 3)) := hD.of_addr (by decide) (by decide) hw
      refine g_X (X' := (xs X 3 t0_26)) (st1 := [.int r26]) (gr_V (n := 1) (rest := []) (pc := 26) hx hb hml hown hts (cX3_tableOf_met l D c tb sa sv (a 3) p0 (X 3) _ _ hc26) gX8_tells_X3_tableOf rfl rfl rfl (by decide +kernel) rfl ⟨Nat.le_of_ble_eq_true rfl, Nat.le_of_ble_eq_true rfl⟩ ⟨Nat.zero_le _, Nat.zero_le _⟩ 0 3 rfl rfl rfl xE_ok hPc hDc hK (xE_ok.tr hE hS (g_freeX hD hS hA (by decide) (addr0 hw))) hl.1 (Nat.le_of_ble_eq_true rfl) dX8_tells_26 rfl) hP hD hS hA (ks := [3]) (by decide) (addr0 hw) (fun k9 _ hk9 => (xs_o hk9 (j := 3) (by decide))) (fun H1 hw1 => (List.forall_mem_cons.mpr ⟨hw1, (fun _ h9 => absurd h9 List.not_mem_nil)⟩)) rfl (fun H locs hP hS => ?_)
      refine lv_iload_n (pc := 29) hx hb dX8_tells_29 rfl (lv_at hl 2 rfl) ?_
      refine lv_ishr (pc := 30) hx hb dX8_tells_30 ?_
      refine lv_iconst (v := 1) (pc := 31) hx hb dX8_tells_31 (by decide) ?_
      refine lv_iand (pc := 32) hx hb dX8_tells_32 ?_
      have kr := KR ((r26 >>> (p1 &&& 31)) &&& (1 : Int32)) (xs X 3 t0_26) _ _ 33 ls h rfl hP hS dX8_tells_33
      exact kr
    · replace h := it_t c15 h
      refine lv_bipush (v := -2) (pc := 18) hx hb dX8_tells_18 (by decide) ?_
      have kr := KR (-2 : Int32) X _ _ 20 ls h rfl hP hS dX8_tells_20
      exact kr
abbrev rmX8_table : Room := { frames := 3, cells := 0, slots := 0, locals := 70 }
set_option maxRecDepth 100000 in
set_option maxHeartbeats 40000000 in
theorem cX8_table_met (l : Launch) (D : va_G) (c : Nat → ClassId) (tb : Nat) (sa sv : Nat → Nat) (a : Nat → Nat → Nat) (X : XS) (r0 : Int32) (z0 : XS) (h : fX8_table X = some (r0, z0)) : gM l yX8_table wsX8_table rmX8_table D (gY c) (xE tb sa sv) [.ref (a 0 0)] (wX a c X) (some (.int r0)) (wX a c z0) := by
  unfold fX8_table at h
  refine gM.I (cc := cX8_table) (maxL := 1) (by decide) rfl (Nat.le_of_ble_eq_true rfl) ?_
  intro p e s m args below meth cd hx hb hml hown hts A hA ls hl hP hK hD hS hE Q KR0
  have hfX8 : ∀ w ∈ u_ws RX8 TX8 12, w.before args s = true := fun w hw => hts w (List.mem_cons_of_mem _ (List.mem_append_left _ (List.mem_append_right _ hw)))
  have lk0 := hts (.fieldLink RX8 26 "GlitchNets" "net" "LGlitchNets$Net;") (List.mem_of_getElem? (i := 1) rfl)
  have hP := XP_iff.mp hP
  have hD := XD_of hD
  have KR : ∀ (v : Int32) (w0 : XS) (H : Heap) (locs : List Loc) (pc : Nat) (ls : Array Slot), some (v, w0) = some (r0, z0) → narrow .int (.int v) = .int v → XP D a c w0 H → va_S A s.heap H locs → decode cX8_table pc = .ok (.ireturn, 1) → W p l e rmX8_table s m args below meth cd H locs 0 0 Q (F0 m pc ls [.int v]) := by
    intro v w0 H locs pc ls hr hn hP hS hd
    cases hr
    exact KR0 _ H locs pc ls rfl hn (XP_iff.mpr hP) (hD.all c _) hS hd
  have hl : lv_has ls 1 [(0, .ref (a 0 0))] := hl
  refine lv_aload_n (pc := 0) hx hb dX8_table_0 rfl (lv_at hl 0 rfl) ?_
  refine va_get (D := D) (ci := 8) (v := .ref ((a 3) 0)) (C := RX8) (T := TX8) (N := 12) (pc := 1) hx hb hfX8 (fun _ h9 => h9) hown hK (show va_P D vwCl (wX8 a c (X 0)) _ from hP 0 (by decide)) 0 rfl rfl 2 (by decide) lk0 (fun _ h9 => h9) rfl dX8_table_1 ?_
  obtain ⟨r4, hc4, h⟩ := b1_i h
  have hw : (wX3 (a 3) c (X 3)).map (·.1) = [3].flatMap (uA a) := rfl
  have hPc : va_P D vwCl (wX3 (a 3) c (X 3)) _ := hP 3 (by decide)
  have hDc : va_D A (wX3 (a 3) c (X 3)) := hD.of_addr (by decide) (by decide) hw
  refine g_X (X' := X) (st1 := [.int r4]) (gr_V (n := 0) (rest := []) (pc := 4) hx hb hml hown hts (cX3_isEmpty_met l D c tb sa sv (a 3) (X 3) _ hc4) gX8_table_X3_isEmpty rfl rfl rfl (by decide +kernel) rfl ⟨Nat.le_of_ble_eq_true rfl, Nat.le_of_ble_eq_true rfl⟩ ⟨Nat.zero_le _, Nat.zero_le _⟩ 0 3 rfl rfl rfl xE_ok hPc hDc hK (xE_ok.tr hE hS (g_freeX hD hS hA (by decide) (addr0 hw))) hl.1 (Nat.le_of_ble_eq_true rfl) dX8_table_4 rfl) hP hD hS hA (ks := [3]) (by decide) (addr0 hw) (fun k9 _ hk9 => rfl) (fun H1 hw1 => (List.forall_mem_cons.mpr ⟨hw1, (fun _ h9 => absurd h9 List.not_mem_nil)⟩)) rfl (fun H locs hP hS => ?_)
  refine lv_if_eq (tgt := 15) (pc := 7) hx hb dX8_table_7 (by decide) (fun c7 => ?_) (fun c7 => ?_)
  · replace h := it_t c7 h
    refine lv_aload_n (pc := 15) hx hb dX8_table_15 rfl (lv_at hl 0 rfl) ?_
    refine va_get (D := D) (ci := 8) (v := .ref ((a 3) 0)) (C := RX8) (T := TX8) (N := 12) (pc := 16) hx hb hfX8 (fun _ h9 => h9) hown hK (show va_P D vwCl (wX8 a c (X 0)) _ from hP 0 (by decide)) 0 rfl rfl 2 (by decide) lk0 (fun _ h9 => h9) rfl dX8_table_16 ?_
    refine lv_aload_n (pc := 19) hx hb dX8_table_19 rfl (lv_at hl 0 rfl) ?_
    refine va_get (D := D) (ci := 8) (v := .ref ((a 3) 0)) (C := RX8) (T := TX8) (N := 12) (pc := 20) hx hb hfX8 (fun _ h9 => h9) hown hK (show va_P D vwCl (wX8 a c (X 0)) _ from hP 0 (by decide)) 0 rfl rfl 2 (by decide) lk0 (fun _ h9 => h9) rfl dX8_table_20 ?_
    obtain ⟨r23, hc23, h⟩ := b1_i h
    have hw : (wX3 (a 3) c (X 3)).map (·.1) = [3].flatMap (uA a) := rfl
    have hPc : va_P D vwCl (wX3 (a 3) c (X 3)) _ := hP 3 (by decide)
    have hDc : va_D A (wX3 (a 3) c (X 3)) := hD.of_addr (by decide) (by decide) hw
    refine g_X (X' := X) (st1 := [.int r23, .ref ((a 3) 0)]) (gr_V (n := 0) (rest := [.ref ((a 3) 0)]) (pc := 23) hx hb hml hown hts (cX3_output_met l D c tb sa sv (a 3) (X 3) _ hc23) gX8_table_X3_output rfl rfl rfl (by decide +kernel) rfl ⟨Nat.le_of_ble_eq_true rfl, Nat.le_of_ble_eq_true rfl⟩ ⟨Nat.zero_le _, Nat.zero_le _⟩ 0 3 rfl rfl rfl xE_ok hPc hDc hK (xE_ok.tr hE hS (g_freeX hD hS hA (by decide) (addr0 hw))) hl.1 (Nat.le_of_ble_eq_true rfl) dX8_table_23 rfl) hP hD hS hA (ks := [3]) (by decide) (addr0 hw) (fun k9 _ hk9 => rfl) (fun H1 hw1 => (List.forall_mem_cons.mpr ⟨hw1, (fun _ h9 => absurd h9 List.not_mem_nil)⟩)) rfl (fun H locs hP hS => ?_)
    obtain ⟨r26, t0_26, hc26, h⟩ := b2_i h
    have hw : (wX3 (a 3) c (X 3)).map (·.1) = [3].flatMap (uA a) := rfl
    have hPc : va_P D vwCl (wX3 (a 3) c (X 3)) _ := hP 3 (by decide)
    have hDc : va_D A (wX3 (a 3) c (X 3)) := hD.of_addr (by decide) (by decide) hw
    refine g_X (X' := (xs X 3 t0_26)) (st1 := [.int r26]) (gr_V (n := 1) (rest := []) (pc := 26) hx hb hml hown hts (cX3_tableOf_met l D c tb sa sv (a 3) r23 (X 3) _ _ hc26) gX8_table_X3_tableOf rfl rfl rfl (by decide +kernel) rfl ⟨Nat.le_of_ble_eq_true rfl, Nat.le_of_ble_eq_true rfl⟩ ⟨Nat.zero_le _, Nat.zero_le _⟩ 0 3 rfl rfl rfl xE_ok hPc hDc hK (xE_ok.tr hE hS (g_freeX hD hS hA (by decide) (addr0 hw))) hl.1 (Nat.le_of_ble_eq_true rfl) dX8_table_26 rfl) hP hD hS hA (ks := [3]) (by decide) (addr0 hw) (fun k9 _ hk9 => (xs_o hk9 (j := 3) (by decide))) (fun H1 hw1 => (List.forall_mem_cons.mpr ⟨hw1, (fun _ h9 => absurd h9 List.not_mem_nil)⟩)) rfl (fun H locs hP hS => ?_)
    have kr := KR r26 (xs X 3 t0_26) _ _ 29 ls h rfl hP hS dX8_table_29
    exact kr
  · replace h := it_f c7 h
    refine lv_bipush (v := -3) (pc := 10) hx hb dX8_table_10 (by decide) ?_
    refine lv_goto (tgt := 29) (pc := 12) hx hb dX8_table_12 (by decide) ?_
    have kr := KR (-3 : Int32) X _ _ 29 ls h rfl hP hS dX8_table_29
    exact kr
abbrev rmX8_isChange : Room := { frames := 2, cells := 0, slots := 0, locals := 42 }
set_option maxRecDepth 100000 in
set_option maxHeartbeats 40000000 in
theorem cX8_isChange_met (l : Launch) (D : va_G) (c : Nat → ClassId) (tb : Nat) (sa sv : Nat → Nat)  (p0 : Int32) (p1 : Int32) (r0 : Int32) (h : fX8_isChange p0 p1 = some r0) : gM l yX8_isChange wsX8_isChange rmX8_isChange D (gY c) (xE tb sa sv) [.int p0, .int p1] ([]) (some (.int r0)) ([]) := by
  unfold fX8_isChange at h
  refine gM.I (cc := cX8_isChange) (maxL := 2) (by decide) rfl (Nat.le_of_ble_eq_true rfl) ?_
  intro p e s m args below meth cd hx hb hml hown hts A hA ls hl hP hK hD hS hE Q KR0
  have KR : ∀ (v : Int32)  (H : Heap) (locs : List Loc) (pc : Nat) (ls : Array Slot), some v = some r0 → narrow .boolean (.int v) = .int v → va_P D vwCl ([]) H → va_D A ([]) → va_S A s.heap H locs → decode cX8_isChange pc = .ok (.ireturn, 1) → W p l e rmX8_isChange s m args below meth cd H locs 0 0 Q (F0 m pc ls [.int v]) := by
    intro v  H locs pc ls hr hn hP hD hS hd
    cases hr
    exact KR0 _ H locs pc ls rfl hn hP hD hS hd
  have hl : lv_has ls 2 [(0, .int p0), (1, .int p1)] := hl
  refine lv_iload_n (pc := 0) hx hb dX8_isChange_0 rfl (lv_at hl 0 rfl) ?_
  obtain ⟨r1, hc1, h⟩ := b1_i h
  refine g_none (st1 := [.int r1]) (gr_S (n := 1) (rest := []) (pc := 1) hx hb hml hown hts (cX8_isStand_met l D c tb sa sv p0 _ hc1) gX8_isChange_X8_isStand rfl rfl rfl (by decide +kernel) rfl ⟨Nat.le_of_ble_eq_true rfl, Nat.le_of_ble_eq_true rfl⟩ ⟨Nat.zero_le _, Nat.zero_le _⟩ xE_ok g_P0 (g_D0 (A := A)) hK (xE_ok.tr hE hS (g_free0 hS hA)) hl.1 (Nat.le_of_ble_eq_true rfl) dX8_isChange_1 rfl) hP hS hA rfl (fun H locs hP hS => ?_)
  refine lv_if_eq (tgt := 23) (pc := 4) hx hb dX8_isChange_4 (by decide) (fun c4 => ?_) (fun c4 => ?_)
  · replace h := it_t c4 h
    refine lv_iconst (v := 0) (pc := 23) hx hb dX8_isChange_23 (by decide) ?_
    have kr := KR (0 : Int32)  _ _ 24 ls h rfl hP hD hS dX8_isChange_24
    exact kr
  · replace h := it_f c4 h
    refine lv_iload_n (pc := 7) hx hb dX8_isChange_7 rfl (lv_at hl 1 rfl) ?_
    obtain ⟨r8, hc8, h⟩ := b1_i h
    refine g_none (st1 := [.int r8]) (gr_S (n := 1) (rest := []) (pc := 8) hx hb hml hown hts (cX8_isStand_met l D c tb sa sv p1 _ hc8) gX8_isChange_X8_isStand rfl rfl rfl (by decide +kernel) rfl ⟨Nat.le_of_ble_eq_true rfl, Nat.le_of_ble_eq_true rfl⟩ ⟨Nat.zero_le _, Nat.zero_le _⟩ xE_ok g_P0 (g_D0 (A := A)) hK (xE_ok.tr hE hS (g_free0 hS hA)) hl.1 (Nat.le_of_ble_eq_true rfl) dX8_isChange_8 rfl) hP hS hA rfl (fun H locs hP hS => ?_)
    refine lv_if_eq (tgt := 23) (pc := 11) hx hb dX8_isChange_11 (by decide) (fun c11 => ?_) (fun c11 => ?_)
    · replace h := it_t c11 h
      refine lv_iconst (v := 0) (pc := 23) hx hb dX8_isChange_23 (by decide) ?_
      have kr := KR (0 : Int32)  _ _ 24 ls h rfl hP hD hS dX8_isChange_24
      exact kr
    · replace h := it_f c11 h
      refine lv_iload_n (pc := 14) hx hb dX8_isChange_14 rfl (lv_at hl 0 rfl) ?_
      refine lv_iload_n (pc := 15) hx hb dX8_isChange_15 rfl (lv_at hl 1 rfl) ?_
      refine lv_icmp_eq (tgt := 23) (pc := 16) hx hb dX8_isChange_16 (by decide) (fun c16 => ?_) (fun c16 => ?_)
      · replace h := it_t c16 h
        refine lv_iconst (v := 0) (pc := 23) hx hb dX8_isChange_23 (by decide) ?_
        have kr := KR (0 : Int32)  _ _ 24 ls h rfl hP hD hS dX8_isChange_24
        exact kr
      · replace h := it_f c16 h
        refine lv_iconst (v := 1) (pc := 19) hx hb dX8_isChange_19 (by decide) ?_
        refine lv_goto (tgt := 24) (pc := 20) hx hb dX8_isChange_20 (by decide) ?_
        have kr := KR (1 : Int32)  _ _ 24 ls h rfl hP hD hS dX8_isChange_24
        exact kr
abbrev rmX3_rowTells : Room := { frames := 0, cells := 0, slots := 0, locals := 0 }
set_option maxRecDepth 100000 in
set_option maxHeartbeats 40000000 in
theorem cX3_rowTells_met (l : Launch) (D : va_G) (c : Nat → ClassId) (tb : Nat) (sa sv : Nat → Nat) (a0 : Nat → Nat) (p0 : Int32) (p1 : Int32) (s0 : Mem) (r0 : Int32) (h : fX3_rowTells p0 p1 s0 = some r0) : gM l yX3_rowTells wsX3_rowTells rmX3_rowTells D (gY c) (xE tb sa sv) [.ref (a0 0), .int p0, .int p1] (wX3 a0 c s0) (some (.int r0)) (wX3 a0 c s0) := by
  unfold fX3_rowTells at h
  refine gM.I (cc := cX3_rowTells) (maxL := 3) (by decide) rfl (Nat.le_of_ble_eq_true rfl) ?_
  intro p e s m args below meth cd hx hb hml hown hts A hA ls hl hP hK hD hS hE Q KR0
  have hfX3 : ∀ w ∈ u_ws RX3 TX3 7, w.before args s = true := fun w hw => hts w (List.mem_cons_of_mem _ (List.mem_append_right _ hw))
  have lk0 := hts (.fieldLink RX3 24 "GlitchNets$Net" "tables" "[I") (List.mem_of_getElem? (i := 1) rfl)
  have KR : ∀ (v : Int32)  (H : Heap) (locs : List Loc) (pc : Nat) (ls : Array Slot), some v = some r0 → narrow .int (.int v) = .int v → va_P D vwCl (wX3 a0 c s0) H → va_D A (wX3 a0 c s0) → va_S A s.heap H locs → decode cX3_rowTells pc = .ok (.ireturn, 1) → W p l e rmX3_rowTells s m args below meth cd H locs 0 0 Q (F0 m pc ls [.int v]) := by
    intro v  H locs pc ls hr hn hP hD hS hd
    cases hr
    exact KR0 _ H locs pc ls rfl hn hP hD hS hd
  have hl : lv_has ls 3 [(0, .ref (a0 0)), (1, .int p0), (2, .int p1)] := hl
  refine lv_aload_n (pc := 0) hx hb dX3_rowTells_0 rfl (lv_at hl 0 rfl) ?_
  refine va_get (D := D) (ci := 3) (v := .ref (a0 5)) (C := RX3) (T := TX3) (N := 7) (pc := 1) hx hb hfX3 (fun _ h9 => h9) hown hK hP 0 rfl rfl 5 (by decide) lk0 (fun _ h9 => h9) rfl dX3_rowTells_1 ?_
  refine lv_iload_n (pc := 4) hx hb dX3_rowTells_4 rfl (lv_at hl 1 rfl) ?_
  obtain ⟨hk5, h⟩ := ckI_i h
  refine va_iald (D := D) (f := (s0.1 5)) (pc := 5) hx hb hK hP 5 0 rfl rfl hk5 dX3_rowTells_5 ?_
  refine lv_iload_n (pc := 6) hx hb dX3_rowTells_6 rfl (lv_at hl 2 rfl) ?_
  refine lv_ishr (pc := 7) hx hb dX3_rowTells_7 ?_
  refine lv_iconst (v := 1) (pc := 8) hx hb dX3_rowTells_8 (by decide) ?_
  refine lv_iand (pc := 9) hx hb dX3_rowTells_9 ?_
  have kr := KR ((((s0.1 5) (p0).toNatClampNeg) >>> (p1 &&& 31)) &&& (1 : Int32))  _ _ 10 ls h rfl hP hD hS dX3_rowTells_10
  exact kr
abbrev rmX7_lateLow : Room := { frames := 0, cells := 0, slots := 0, locals := 0 }
set_option maxRecDepth 100000 in
set_option maxHeartbeats 40000000 in
theorem cX7_lateLow_met (l : Launch) (D : va_G) (c : Nat → ClassId) (tb : Nat) (sa sv : Nat → Nat) (a0 : Nat → Nat) (p0 : Int32) (p1 : Int32) (p2 : Int32) (s0 : Mem) (r0 : Int64) (h : fX7_lateLow p0 p1 p2 s0 = some r0) : gM l yX7_lateLow wsX7_lateLow rmX7_lateLow D (gY c) (xE tb sa sv) [.ref (a0 0), .int p0, .int p1, .int p2] (wX7 a0 c s0) (some (.long r0)) (wX7 a0 c s0) := by
  unfold fX7_lateLow at h
  refine gM.L (cc := cX7_lateLow) (maxL := 6) (by decide) rfl (Nat.le_of_ble_eq_true rfl) ?_
  intro p e s m args below meth cd hx hb hml hown hts A hA ls hl hP hK hD hS hE Q KR0
  have hfX7 : ∀ w ∈ u_ws RX7 TX7 4, w.before args s = true := fun w hw => hts w (List.mem_cons_of_mem _ (List.mem_append_right _ hw))
  have lk0 := hts (.fieldLink RX7 11 "GlitchNets$Wave" "lows" "[J") (List.mem_of_getElem? (i := 1) rfl)
  have KR : ∀ (v : Int64)  (H : Heap) (locs : List Loc) (pc : Nat) (ls : Array Slot), some v = some r0 → va_P D vwCl (wX7 a0 c s0) H → va_D A (wX7 a0 c s0) → va_S A s.heap H locs → decode cX7_lateLow pc = .ok (.lreturn, 1) → W p l e rmX7_lateLow s m args below meth cd H locs 0 0 Q (F0 m pc ls [.long v]) := by
    intro v  H locs pc ls hr hP hD hS hd
    cases hr
    exact KR0 _ H locs pc ls rfl hP hD hS hd
  have hl : lv_has ls 6 [(0, .ref (a0 0)), (1, .int p0), (2, .int p1), (3, .int p2)] := hl
  have J13 : ∀ (x1 : Int32) (x2 : Int32) (y0 : Int64) (H : Heap) (locs : List Loc) (ls : Array Slot), fX7_lateLow_b13 s0 x1 x2 y0 = some r0 → va_P D vwCl (wX7 a0 c s0) H → va_D A (wX7 a0 c s0) → va_S A s.heap H locs → lv_has ls 6 [(0, .ref (a0 0)), (1, .int x1), (2, .int x2)] → W p l e rmX7_lateLow s m args below meth cd H locs 0 0 Q (F0 m 13 ls [.long y0]) := by
    intro x1 x2 y0 H locs ls h hP hD hS hl
    unfold fX7_lateLow_b13 at h
    refine lv_lstore (lv' := [(4, .long y0), (0, .ref (a0 0)), (1, .int x1), (2, .int x2)]) (pc := 13) hx hb dX7_lateLow_13 hl (by decide) rfl (fun ls hl => ?_)
    refine lv_aload_n (pc := 15) hx hb dX7_lateLow_15 rfl (lv_at hl 1 rfl) ?_
    refine va_get (D := D) (ci := 7) (v := .ref (a0 1)) (C := RX7) (T := TX7) (N := 4) (pc := 16) hx hb hfX7 (fun _ h9 => h9) hown hK hP 0 rfl rfl 0 (by decide) lk0 (fun _ h9 => h9) rfl dX7_lateLow_16 ?_
    refine lv_iload_n (pc := 19) hx hb dX7_lateLow_19 rfl (lv_at hl 2 rfl) ?_
    obtain ⟨hk20, h⟩ := ckI_i h
    refine va_lald (D := D) (f := (s0.2 0)) (pc := 20) hx hb hK hP 1 1 rfl rfl hk20 dX7_lateLow_20 ?_
    refine lv_iload_n (pc := 21) hx hb dX7_lateLow_21 rfl (lv_at hl 3 rfl) ?_
    refine lv_lshl (v := (jlshl ((s0.2 0) (x1).toNatClampNeg) x2)) (pc := 22) hx hb dX7_lateLow_22 rfl ?_
    refine lv_lload (pc := 23) hx hb dX7_lateLow_23 (lv_at hl 0 rfl) ?_
    refine lv_lor (pc := 25) hx hb dX7_lateLow_25 ?_
    have kr := KR ((jlshl ((s0.2 0) (x1).toNatClampNeg) x2) ||| y0)  _ _ 26 ls h hP hD hS dX7_lateLow_26
    exact kr
  refine lv_iload_n (pc := 0) hx hb dX7_lateLow_0 rfl (lv_at hl 3 rfl) ?_
  refine lv_if_ne (tgt := 8) (pc := 1) hx hb dX7_lateLow_1 (by decide) (fun c1 => ?_) (fun c1 => ?_)
  · replace h := it_f c1 h
    refine lv_lconst (v := 1) (pc := 8) hx hb dX7_lateLow_8 (by decide) ?_
    refine lv_iload_n (pc := 9) hx hb dX7_lateLow_9 rfl (lv_at hl 2 rfl) ?_
    refine lv_lshl (v := (jlshl (1 : Int64) p1)) (pc := 10) hx hb dX7_lateLow_10 rfl ?_
    refine lv_lconst (v := 1) (pc := 11) hx hb dX7_lateLow_11 (by decide) ?_
    refine lv_lsub (pc := 12) hx hb dX7_lateLow_12 ?_
    have jr := J13 p0 p1 (((jlshl (1 : Int64) p1) - (1 : Int64))) _ _ ls h hP hD hS (lv_sub hl [0, 1, 2] rfl)
    exact jr
  · replace h := it_t c1 h
    refine lv_lconst (v := 0) (pc := 4) hx hb dX7_lateLow_4 (by decide) ?_
    refine lv_goto (tgt := 13) (pc := 5) hx hb dX7_lateLow_5 (by decide) ?_
    have jr := J13 p0 p1 (0 : Int64) _ _ ls h hP hD hS (lv_sub hl [0, 1, 2] rfl)
    exact jr
abbrev rmX7_lateHigh : Room := { frames := 0, cells := 0, slots := 0, locals := 0 }
set_option maxRecDepth 100000 in
set_option maxHeartbeats 40000000 in
theorem cX7_lateHigh_met (l : Launch) (D : va_G) (c : Nat → ClassId) (tb : Nat) (sa sv : Nat → Nat) (a0 : Nat → Nat) (p0 : Int32) (p1 : Int32) (s0 : Mem) (r0 : Int64) (h : fX7_lateHigh p0 p1 s0 = some r0) : gM l yX7_lateHigh wsX7_lateHigh rmX7_lateHigh D (gY c) (xE tb sa sv) [.ref (a0 0), .int p0, .int p1] (wX7 a0 c s0) (some (.long r0)) (wX7 a0 c s0) := by
  unfold fX7_lateHigh at h
  refine gM.L (cc := cX7_lateHigh) (maxL := 3) (by decide) rfl (Nat.le_of_ble_eq_true rfl) ?_
  intro p e s m args below meth cd hx hb hml hown hts A hA ls hl hP hK hD hS hE Q KR0
  have hfX7 : ∀ w ∈ u_ws RX7 TX7 4, w.before args s = true := fun w hw => hts w (List.mem_cons_of_mem _ (List.mem_append_right _ hw))
  have lk0 := hts (.fieldLink RX7 17 "GlitchNets$Wave" "highs" "[J") (List.mem_of_getElem? (i := 1) rfl)
  have lk1 := hts (.fieldLink RX7 11 "GlitchNets$Wave" "lows" "[J") (List.mem_of_getElem? (i := 2) rfl)
  have KR : ∀ (v : Int64)  (H : Heap) (locs : List Loc) (pc : Nat) (ls : Array Slot), some v = some r0 → va_P D vwCl (wX7 a0 c s0) H → va_D A (wX7 a0 c s0) → va_S A s.heap H locs → decode cX7_lateHigh pc = .ok (.lreturn, 1) → W p l e rmX7_lateHigh s m args below meth cd H locs 0 0 Q (F0 m pc ls [.long v]) := by
    intro v  H locs pc ls hr hP hD hS hd
    cases hr
    exact KR0 _ H locs pc ls rfl hP hD hS hd
  have hl : lv_has ls 3 [(0, .ref (a0 0)), (1, .int p0), (2, .int p1)] := hl
  refine lv_aload_n (pc := 0) hx hb dX7_lateHigh_0 rfl (lv_at hl 0 rfl) ?_
  refine va_get (D := D) (ci := 7) (v := .ref (a0 2)) (C := RX7) (T := TX7) (N := 4) (pc := 1) hx hb hfX7 (fun _ h9 => h9) hown hK hP 0 rfl rfl 1 (by decide) lk0 (fun _ h9 => h9) rfl dX7_lateHigh_1 ?_
  refine lv_iload_n (pc := 4) hx hb dX7_lateHigh_4 rfl (lv_at hl 1 rfl) ?_
  obtain ⟨hk5, h⟩ := ckI_i h
  refine va_lald (D := D) (f := (s0.2 1)) (pc := 5) hx hb hK hP 2 1 rfl rfl hk5 dX7_lateHigh_5 ?_
  refine lv_iload_n (pc := 6) hx hb dX7_lateHigh_6 rfl (lv_at hl 2 rfl) ?_
  refine lv_lshl (v := (jlshl ((s0.2 1) (p0).toNatClampNeg) p1)) (pc := 7) hx hb dX7_lateHigh_7 rfl ?_
  refine lv_aload_n (pc := 8) hx hb dX7_lateHigh_8 rfl (lv_at hl 0 rfl) ?_
  refine va_get (D := D) (ci := 7) (v := .ref (a0 1)) (C := RX7) (T := TX7) (N := 4) (pc := 9) hx hb hfX7 (fun _ h9 => h9) hown hK hP 0 rfl rfl 0 (by decide) lk1 (fun _ h9 => h9) rfl dX7_lateHigh_9 ?_
  refine lv_iload_n (pc := 12) hx hb dX7_lateHigh_12 rfl (lv_at hl 1 rfl) ?_
  obtain ⟨hk13, h⟩ := ckI_i h
  refine va_lald (D := D) (f := (s0.2 0)) (pc := 13) hx hb hK hP 1 1 rfl rfl hk13 dX7_lateHigh_13 ?_
  refine lv_bipush (v := 64) (pc := 14) hx hb dX7_lateHigh_14 (by decide) ?_
  refine lv_iload_n (pc := 16) hx hb dX7_lateHigh_16 rfl (lv_at hl 2 rfl) ?_
  refine lv_isub (pc := 17) hx hb dX7_lateHigh_17 ?_
  refine lv_lushr (v := (jlushr ((s0.2 0) (p0).toNatClampNeg) ((64 : Int32) - p1))) (pc := 18) hx hb dX7_lateHigh_18 rfl ?_
  refine lv_lor (pc := 19) hx hb dX7_lateHigh_19 ?_
  have kr := KR ((jlshl ((s0.2 1) (p0).toNatClampNeg) p1) ||| (jlushr ((s0.2 0) (p0).toNatClampNeg) ((64 : Int32) - p1)))  _ _ 20 ls h hP hD hS dX7_lateHigh_20
  exact kr
