abbrev rmX9_undo : Room := { frames := 1, cells := 0, slots := 0, locals := 24 }
set_option maxRecDepth 100000 in
set_option maxHeartbeats 40000000 in
theorem cX9_undo_met (l : Launch) (D : va_G) (c : Nat → ClassId) (a0 : Nat → Nat) (s0 : Mem) (r0 : Int32) (z0 : Mem) (h : fX9_undo s0 = some (r0, z0)) : gM l yX9_undo wsX9_undo rmX9_undo D (gY c) gT [.ref (a0 0)] (wX9 a0 c s0) (some (.int r0)) (wX9 a0 c z0) := by
  unfold fX9_undo at h
  refine gM.I (cc := cX9_undo) (maxL := 2) (by decide) rfl (Nat.le_of_ble_eq_true rfl) ?_
  intro p e s m args below meth cd hx hb hml hown hts A hA ls hl hP hK hD hS hE Q KR0
  have hfX9 : ∀ w ∈ u_ws RX9 TX9 24, w.before args s = true := fun w hw => hts w (List.mem_cons_of_mem _ (List.mem_append_right _ hw))
  have lk0 := hts (.fieldLink RX9 61 "GlitchNetsModel" "deeds" "I") (List.mem_of_getElem? (i := 1) rfl)
  have lk1 := hts (.fieldLink RX9 16 "GlitchNetsModel" "deed" "[I") (List.mem_of_getElem? (i := 2) rfl)
  have lk2 := hts (.fieldLink RX9 9 "GlitchNetsModel" "s" "[I") (List.mem_of_getElem? (i := 3) rfl)
  have KR : ∀ (v : Int32) (w0 : Mem) (H : Heap) (locs : List Loc) (pc : Nat) (ls : Array Slot), some (v, w0) = some (r0, z0) → narrow .int (.int v) = .int v → va_P D vwCl (wX9 a0 c w0) H → va_D A (wX9 a0 c w0) → va_S A s.heap H locs → decode cX9_undo pc = .ok (.ireturn, 1) → W p l e rmX9_undo s m args below meth cd H locs 0 0 Q (F0 m pc ls [.int v]) := by
    intro v w0 H locs pc ls hr hn hP hD hS hd
    cases hr
    exact KR0 _ H locs pc ls rfl hn hP hD hS hd
  have hl : lv_has ls 2 [(0, .ref (a0 0))] := hl
  refine lv_aload_n (pc := 0) hx hb dX9_undo_0 rfl (lv_at hl 0 rfl) ?_
  refine va_get (D := D) (ci := 9) (v := .int (s0.1 4 0)) (C := RX9) (T := TX9) (N := 24) (pc := 1) hx hb hfX9 (fun _ h9 => h9) hown hK hP 0 rfl rfl 4 (by decide) lk0 (fun _ h9 => h9) rfl dX9_undo_1 ?_
  refine lv_if_ne (tgt := 10) (pc := 4) hx hb dX9_undo_4 (by decide) (fun c4 => ?_) (fun c4 => ?_)
  · replace h := it_f c4 h
    refine lv_aload_n (pc := 10) hx hb dX9_undo_10 rfl (lv_at hl 0 rfl) ?_
    refine lv_dup (pc := 11) hx hb dX9_undo_11 rfl ?_
    refine va_get (D := D) (ci := 9) (v := .int (s0.1 4 0)) (C := RX9) (T := TX9) (N := 24) (pc := 12) hx hb hfX9 (fun _ h9 => h9) hown hK hP 0 rfl rfl 4 (by decide) lk0 (fun _ h9 => h9) rfl dX9_undo_12 ?_
    refine lv_iconst (v := 1) (pc := 15) hx hb dX9_undo_15 (by decide) ?_
    refine lv_isub (pc := 16) hx hb dX9_undo_16 ?_
    refine va_put (D := D) (ci := 9) (v := .int ((s0.1 4 0) - (1 : Int32))) (ty := .int) (C := RX9) (T := TX9) (N := 24) (pc := 17) hx hb hfX9 (fun _ h9 => h9) tyX9 tyX9_ok nmX9 hown hK hP hD hS 0 rfl rfl 4 (by decide) lk0 (fun _ h9 => h9) rfl (by decide +kernel) rfl rfl (Nat.le_of_ble_eq_true rfl) dX9_undo_17 (fun H locs hP hD hS => ?_)
    obtain ⟨m0_17, em0_17, h⟩ := lt_i h
    have hP : va_P D vwCl (wX9 a0 c m0_17) H := by rw [em0_17]; exact hP
    have hD : va_D A (wX9 a0 c m0_17) := by rw [em0_17]; exact hD
    refine lv_aload_n (pc := 20) hx hb dX9_undo_20 rfl (lv_at hl 0 rfl) ?_
    refine va_get (D := D) (ci := 9) (v := .ref (a0 3)) (C := RX9) (T := TX9) (N := 24) (pc := 21) hx hb hfX9 (fun _ h9 => h9) hown hK hP 0 rfl rfl 3 (by decide) lk1 (fun _ h9 => h9) rfl dX9_undo_21 ?_
    refine lv_iconst (v := 4) (pc := 24) hx hb dX9_undo_24 (by decide) ?_
    refine lv_aload_n (pc := 25) hx hb dX9_undo_25 rfl (lv_at hl 0 rfl) ?_
    refine va_get (D := D) (ci := 9) (v := .int (m0_17.1 4 0)) (C := RX9) (T := TX9) (N := 24) (pc := 26) hx hb hfX9 (fun _ h9 => h9) hown hK hP 0 rfl rfl 4 (by decide) lk0 (fun _ h9 => h9) rfl dX9_undo_26 ?_
    refine lv_imul (pc := 29) hx hb dX9_undo_29 ?_
    refine lv_iconst (v := 1) (pc := 30) hx hb dX9_undo_30 (by decide) ?_
    refine lv_iadd (pc := 31) hx hb dX9_undo_31 ?_
    obtain ⟨hk32, h⟩ := ckI_i h
    refine va_iald (D := D) (f := (m0_17.1 3)) (pc := 32) hx hb hK hP 3 0 rfl rfl hk32 dX9_undo_32 ?_
    refine lv_topi (fun v1_33 ev1_33 => ?_)
    replace h := lt_e ev1_33 h
    refine lv_istore_n (lv' := [(1, .int v1_33), (0, .ref (a0 0))]) (pc := 33) hx hb dX9_undo_33 rfl hl (by decide) rfl (fun ls hl => ?_)
    refine lv_aload_n (pc := 34) hx hb dX9_undo_34 rfl (lv_at hl 1 rfl) ?_
    refine va_get (D := D) (ci := 9) (v := .ref (a0 3)) (C := RX9) (T := TX9) (N := 24) (pc := 35) hx hb hfX9 (fun _ h9 => h9) hown hK hP 0 rfl rfl 3 (by decide) lk1 (fun _ h9 => h9) rfl dX9_undo_35 ?_
    refine lv_iconst (v := 4) (pc := 38) hx hb dX9_undo_38 (by decide) ?_
    refine lv_aload_n (pc := 39) hx hb dX9_undo_39 rfl (lv_at hl 1 rfl) ?_
    refine va_get (D := D) (ci := 9) (v := .int (m0_17.1 4 0)) (C := RX9) (T := TX9) (N := 24) (pc := 40) hx hb hfX9 (fun _ h9 => h9) hown hK hP 0 rfl rfl 4 (by decide) lk0 (fun _ h9 => h9) rfl dX9_undo_40 ?_
    refine lv_imul (pc := 43) hx hb dX9_undo_43 ?_
    obtain ⟨hk44, h⟩ := ckI_i h
    refine va_iald (D := D) (f := (m0_17.1 3)) (pc := 44) hx hb hK hP 3 0 rfl rfl hk44 dX9_undo_44 ?_
    by_cases c45_0 : ((m0_17.1 3) (((4 : Int32) * (m0_17.1 4 0))).toNatClampNeg) = (0 : Int32)
    · replace h := it_t c45_0 h
      refine lv_tableIn (tgt := 72) (off := 27) (pc := 45) hx hb dX9_undo_45 (by rw [c45_0]; decide) (by rw [c45_0]; decide) (by rw [c45_0]; rfl) (by decide) ?_
      refine lv_aload_n (pc := 72) hx hb dX9_undo_72 rfl (lv_at hl 1 rfl) ?_
      refine va_get (D := D) (ci := 9) (v := .ref (a0 1)) (C := RX9) (T := TX9) (N := 24) (pc := 73) hx hb hfX9 (fun _ h9 => h9) hown hK hP 0 rfl rfl 0 (by decide) lk2 (fun _ h9 => h9) rfl dX9_undo_73 ?_
      refine lv_iconst (v := 0) (pc := 76) hx hb dX9_undo_76 (by decide) ?_
      refine lv_dup2_11 (pc := 77) hx hb dX9_undo_77 rfl rfl ?_
      obtain ⟨hk78, h⟩ := ckI_i h
      refine va_iald (D := D) (f := (m0_17.1 0)) (pc := 78) hx hb hK hP 1 0 rfl rfl hk78 dX9_undo_78 ?_
      refine lv_iconst (v := 1) (pc := 79) hx hb dX9_undo_79 (by decide) ?_
      refine lv_isub (pc := 80) hx hb dX9_undo_80 ?_
      obtain ⟨hk81, h⟩ := ckI_i h
      refine va_iast (D := D) (f := (m0_17.1 0)) (pc := 81) hx hb hK hP hD hS 1 0 rfl rfl hk81 dX9_undo_81 (fun H locs hP hD hS => ?_)
      obtain ⟨m0_81, em0_81, h⟩ := lt_i h
      have hP : va_P D vwCl (wX9 a0 c m0_81) H := by rw [em0_81]; exact hP
      have hD : va_D A (wX9 a0 c m0_81) := by rw [em0_81]; exact hD
      refine lv_goto (tgt := 157) (pc := 82) hx hb dX9_undo_82 (by decide) ?_
      refine lv_aload_n (pc := 157) hx hb dX9_undo_157 rfl (lv_at hl 1 rfl) ?_
      refine va_get (D := D) (ci := 9) (v := .int (m0_81.1 4 0)) (C := RX9) (T := TX9) (N := 24) (pc := 158) hx hb hfX9 (fun _ h9 => h9) hown hK hP 0 rfl rfl 4 (by decide) lk0 (fun _ h9 => h9) rfl dX9_undo_158 ?_
      have kr := KR (m0_81.1 4 0) m0_81 _ _ 161 ls h rfl hP hD hS dX9_undo_161
      exact kr
    · replace h := it_f c45_0 h
      by_cases c45_1 : ((m0_17.1 3) (((4 : Int32) * (m0_17.1 4 0))).toNatClampNeg) = (1 : Int32)
      · replace h := it_t c45_1 h
        refine lv_tableIn (tgt := 85) (off := 40) (pc := 45) hx hb dX9_undo_45 (by rw [c45_1]; decide) (by rw [c45_1]; decide) (by rw [c45_1]; rfl) (by decide) ?_
        refine lv_aload_n (pc := 85) hx hb dX9_undo_85 rfl (lv_at hl 1 rfl) ?_
        refine va_get (D := D) (ci := 9) (v := .ref (a0 1)) (C := RX9) (T := TX9) (N := 24) (pc := 86) hx hb hfX9 (fun _ h9 => h9) hown hK hP 0 rfl rfl 0 (by decide) lk2 (fun _ h9 => h9) rfl dX9_undo_86 ?_
        refine lv_iconst (v := 2) (pc := 89) hx hb dX9_undo_89 (by decide) ?_
        refine lv_iconst (v := 4) (pc := 90) hx hb dX9_undo_90 (by decide) ?_
        refine lv_iload_n (pc := 91) hx hb dX9_undo_91 rfl (lv_at hl 0 rfl) ?_
        refine lv_imul (pc := 92) hx hb dX9_undo_92 ?_
        refine lv_iadd (pc := 93) hx hb dX9_undo_93 ?_
        refine lv_iconst (v := 3) (pc := 94) hx hb dX9_undo_94 (by decide) ?_
        refine lv_iadd (pc := 95) hx hb dX9_undo_95 ?_
        refine lv_aload_n (pc := 96) hx hb dX9_undo_96 rfl (lv_at hl 1 rfl) ?_
        refine va_get (D := D) (ci := 9) (v := .ref (a0 3)) (C := RX9) (T := TX9) (N := 24) (pc := 97) hx hb hfX9 (fun _ h9 => h9) hown hK hP 0 rfl rfl 3 (by decide) lk1 (fun _ h9 => h9) rfl dX9_undo_97 ?_
        refine lv_iconst (v := 4) (pc := 100) hx hb dX9_undo_100 (by decide) ?_
        refine lv_aload_n (pc := 101) hx hb dX9_undo_101 rfl (lv_at hl 1 rfl) ?_
        refine va_get (D := D) (ci := 9) (v := .int (m0_17.1 4 0)) (C := RX9) (T := TX9) (N := 24) (pc := 102) hx hb hfX9 (fun _ h9 => h9) hown hK hP 0 rfl rfl 4 (by decide) lk0 (fun _ h9 => h9) rfl dX9_undo_102 ?_
        refine lv_imul (pc := 105) hx hb dX9_undo_105 ?_
        refine lv_iconst (v := 2) (pc := 106) hx hb dX9_undo_106 (by decide) ?_
        refine lv_iadd (pc := 107) hx hb dX9_undo_107 ?_
        obtain ⟨hk108, h⟩ := ckI_i h
        refine va_iald (D := D) (f := (m0_17.1 3)) (pc := 108) hx hb hK hP 3 0 rfl rfl hk108 dX9_undo_108 ?_
        obtain ⟨hk109, h⟩ := ckI_i h
        refine va_iast (D := D) (f := (m0_17.1 0)) (pc := 109) hx hb hK hP hD hS 1 0 rfl rfl hk109 dX9_undo_109 (fun H locs hP hD hS => ?_)
        obtain ⟨m0_109, em0_109, h⟩ := lt_i h
        have hP : va_P D vwCl (wX9 a0 c m0_109) H := by rw [em0_109]; exact hP
        have hD : va_D A (wX9 a0 c m0_109) := by rw [em0_109]; exact hD
        refine lv_goto (tgt := 157) (pc := 110) hx hb dX9_undo_110 (by decide) ?_
        refine lv_aload_n (pc := 157) hx hb dX9_undo_157 rfl (lv_at hl 1 rfl) ?_
        refine va_get (D := D) (ci := 9) (v := .int (m0_109.1 4 0)) (C := RX9) (T := TX9) (N := 24) (pc := 158) hx hb hfX9 (fun _ h9 => h9) hown hK hP 0 rfl rfl 4 (by decide) lk0 (fun _ h9 => h9) rfl dX9_undo_158 ?_
        have kr := KR (m0_109.1 4 0) m0_109 _ _ 161 ls h rfl hP hD hS dX9_undo_161
        exact kr
      · replace h := it_f c45_1 h
        by_cases c45_2 : ((m0_17.1 3) (((4 : Int32) * (m0_17.1 4 0))).toNatClampNeg) = (2 : Int32)
        · replace h := it_t c45_2 h
          refine lv_tableIn (tgt := 113) (off := 68) (pc := 45) hx hb dX9_undo_45 (by rw [c45_2]; decide) (by rw [c45_2]; decide) (by rw [c45_2]; rfl) (by decide) ?_
          refine lv_aload_n (pc := 113) hx hb dX9_undo_113 rfl (lv_at hl 1 rfl) ?_
          refine va_get (D := D) (ci := 9) (v := .ref (a0 1)) (C := RX9) (T := TX9) (N := 24) (pc := 114) hx hb hfX9 (fun _ h9 => h9) hown hK hP 0 rfl rfl 0 (by decide) lk2 (fun _ h9 => h9) rfl dX9_undo_114 ?_
          refine lv_iconst (v := 1) (pc := 117) hx hb dX9_undo_117 (by decide) ?_
          refine lv_dup2_11 (pc := 118) hx hb dX9_undo_118 rfl rfl ?_
          obtain ⟨hk119, h⟩ := ckI_i h
          refine va_iald (D := D) (f := (m0_17.1 0)) (pc := 119) hx hb hK hP 1 0 rfl rfl hk119 dX9_undo_119 ?_
          refine lv_iconst (v := 1) (pc := 120) hx hb dX9_undo_120 (by decide) ?_
          refine lv_isub (pc := 121) hx hb dX9_undo_121 ?_
          obtain ⟨hk122, h⟩ := ckI_i h
          refine va_iast (D := D) (f := (m0_17.1 0)) (pc := 122) hx hb hK hP hD hS 1 0 rfl rfl hk122 dX9_undo_122 (fun H locs hP hD hS => ?_)
          obtain ⟨m0_122, em0_122, h⟩ := lt_i h
          have hP : va_P D vwCl (wX9 a0 c m0_122) H := by rw [em0_122]; exact hP
          have hD : va_D A (wX9 a0 c m0_122) := by rw [em0_122]; exact hD
          refine lv_goto (tgt := 157) (pc := 123) hx hb dX9_undo_123 (by decide) ?_
          refine lv_aload_n (pc := 157) hx hb dX9_undo_157 rfl (lv_at hl 1 rfl) ?_
          refine va_get (D := D) (ci := 9) (v := .int (m0_122.1 4 0)) (C := RX9) (T := TX9) (N := 24) (pc := 158) hx hb hfX9 (fun _ h9 => h9) hown hK hP 0 rfl rfl 4 (by decide) lk0 (fun _ h9 => h9) rfl dX9_undo_158 ?_
          have kr := KR (m0_122.1 4 0) m0_122 _ _ 161 ls h rfl hP hD hS dX9_undo_161
          exact kr
        · replace h := it_f c45_2 h
          have hsw : (((m0_17.1 3) (((4 : Int32) * (m0_17.1 4 0))).toNatClampNeg)).toInt < 0 ∨ 2 < (((m0_17.1 3) (((4 : Int32) * (m0_17.1 4 0))).toNatClampNeg)).toInt := by
            have z0 := lv_neT c45_0 (a := 0) (by decide)
            have z1 := lv_neT c45_1 (a := 1) (by decide)
            have z2 := lv_neT c45_2 (a := 2) (by decide)
            omega
          refine lv_tableOut (tgt := 126) (pc := 45) hx hb dX9_undo_45 hsw (by decide) ?_
          refine lv_aload_n (pc := 126) hx hb dX9_undo_126 rfl (lv_at hl 1 rfl) ?_
          refine lv_iload_n (pc := 127) hx hb dX9_undo_127 rfl (lv_at hl 0 rfl) ?_
          refine lv_aload_n (pc := 128) hx hb dX9_undo_128 rfl (lv_at hl 1 rfl) ?_
          refine va_get (D := D) (ci := 9) (v := .ref (a0 3)) (C := RX9) (T := TX9) (N := 24) (pc := 129) hx hb hfX9 (fun _ h9 => h9) hown hK hP 0 rfl rfl 3 (by decide) lk1 (fun _ h9 => h9) rfl dX9_undo_129 ?_
          refine lv_iconst (v := 4) (pc := 132) hx hb dX9_undo_132 (by decide) ?_
          refine lv_aload_n (pc := 133) hx hb dX9_undo_133 rfl (lv_at hl 1 rfl) ?_
          refine va_get (D := D) (ci := 9) (v := .int (m0_17.1 4 0)) (C := RX9) (T := TX9) (N := 24) (pc := 134) hx hb hfX9 (fun _ h9 => h9) hown hK hP 0 rfl rfl 4 (by decide) lk0 (fun _ h9 => h9) rfl dX9_undo_134 ?_
          refine lv_imul (pc := 137) hx hb dX9_undo_137 ?_
          refine lv_iconst (v := 2) (pc := 138) hx hb dX9_undo_138 (by decide) ?_
          refine lv_iadd (pc := 139) hx hb dX9_undo_139 ?_
          obtain ⟨hk140, h⟩ := ckI_i h
          refine va_iald (D := D) (f := (m0_17.1 3)) (pc := 140) hx hb hK hP 3 0 rfl rfl hk140 dX9_undo_140 ?_
          refine lv_aload_n (pc := 141) hx hb dX9_undo_141 rfl (lv_at hl 1 rfl) ?_
          refine va_get (D := D) (ci := 9) (v := .ref (a0 3)) (C := RX9) (T := TX9) (N := 24) (pc := 142) hx hb hfX9 (fun _ h9 => h9) hown hK hP 0 rfl rfl 3 (by decide) lk1 (fun _ h9 => h9) rfl dX9_undo_142 ?_
          refine lv_iconst (v := 4) (pc := 145) hx hb dX9_undo_145 (by decide) ?_
          refine lv_aload_n (pc := 146) hx hb dX9_undo_146 rfl (lv_at hl 1 rfl) ?_
          refine va_get (D := D) (ci := 9) (v := .int (m0_17.1 4 0)) (C := RX9) (T := TX9) (N := 24) (pc := 147) hx hb hfX9 (fun _ h9 => h9) hown hK hP 0 rfl rfl 4 (by decide) lk0 (fun _ h9 => h9) rfl dX9_undo_147 ?_
          refine lv_imul (pc := 150) hx hb dX9_undo_150 ?_
          refine lv_iconst (v := 3) (pc := 151) hx hb dX9_undo_151 (by decide) ?_
          refine lv_iadd (pc := 152) hx hb dX9_undo_152 ?_
          obtain ⟨hk153, h⟩ := ckI_i h
          refine va_iald (D := D) (f := (m0_17.1 3)) (pc := 153) hx hb hK hP 3 0 rfl rfl hk153 dX9_undo_153 ?_
          obtain ⟨t0_154, hc154, h⟩ := b1_i h
          refine g_all (st1 := []) (gr_V (n := 3) (rest := []) (pc := 154) hx hb hml hown hts (cX9_comesTo_met l D c a0 v1_33 (((m0_17.1 3) ((((4 : Int32) * (m0_17.1 4 0)) + (2 : Int32))).toNatClampNeg)) (((m0_17.1 3) ((((4 : Int32) * (m0_17.1 4 0)) + (3 : Int32))).toNatClampNeg)) m0_17 _ hc154) gX9_undo_X9_comesTo rfl rfl rfl (by decide +kernel) rfl ⟨Nat.le_of_ble_eq_true rfl, Nat.le_of_ble_eq_true rfl⟩ ⟨Nat.zero_le _, Nat.zero_le _⟩ 0 9 rfl rfl rfl gT_ok hP hD hK (fun _ _ _ => trivial) hl.1 (Nat.le_of_ble_eq_true rfl) dX9_undo_154 rfl) hD hS hA rfl (fun H locs hP hD hS => ?_)
          refine lv_aload_n (pc := 157) hx hb dX9_undo_157 rfl (lv_at hl 1 rfl) ?_
          refine va_get (D := D) (ci := 9) (v := .int (t0_154.1 4 0)) (C := RX9) (T := TX9) (N := 24) (pc := 158) hx hb hfX9 (fun _ h9 => h9) hown hK hP 0 rfl rfl 4 (by decide) lk0 (fun _ h9 => h9) rfl dX9_undo_158 ?_
          have kr := KR (t0_154.1 4 0) t0_154 _ _ 161 ls h rfl hP hD hS dX9_undo_161
          exact kr
  · replace h := it_t c4 h
    refine lv_bipush (v := -3) (pc := 7) hx hb dX9_undo_7 (by decide) ?_
    have kr := KR (-3 : Int32) s0 _ _ 9 ls h rfl hP hD hS dX9_undo_9
    exact kr
abbrev rmX9_isByte : Room := { frames := 1, cells := 0, slots := 0, locals := 22 }
set_option maxRecDepth 100000 in
set_option maxHeartbeats 40000000 in
theorem cX9_isByte_met (l : Launch) (D : va_G) (c : Nat → ClassId)  (p0 : Int32) (r0 : Int32) (h : fX9_isByte p0 = some r0) : gM l yX9_isByte wsX9_isByte rmX9_isByte D (gY c) gT [.int p0] ([]) (some (.int r0)) ([]) := by
  unfold fX9_isByte at h
  refine gM.I (cc := cX9_isByte) (maxL := 1) (by decide) rfl (Nat.le_of_ble_eq_true rfl) ?_
  intro p e s m args below meth cd hx hb hml hown hts A hA ls hl hP hK hD hS hE Q KR0
  have KR : ∀ (v : Int32)  (H : Heap) (locs : List Loc) (pc : Nat) (ls : Array Slot), some v = some r0 → narrow .boolean (.int v) = .int v → va_P D vwCl ([]) H → va_D A ([]) → va_S A s.heap H locs → decode cX9_isByte pc = .ok (.ireturn, 1) → W p l e rmX9_isByte s m args below meth cd H locs 0 0 Q (F0 m pc ls [.int v]) := by
    intro v  H locs pc ls hr hn hP hD hS hd
    cases hr
    exact KR0 _ H locs pc ls rfl hn hP hD hS hd
  have hl : lv_has ls 1 [(0, .int p0)] := hl
  refine lv_iload_n (pc := 0) hx hb dX9_isByte_0 rfl (lv_at hl 0 rfl) ?_
  refine lv_iconst (v := 0) (pc := 1) hx hb dX9_isByte_1 (by decide) ?_
  refine lv_sipush (v := 255) (pc := 2) hx hb dX9_isByte_2 (by decide) ?_
  obtain ⟨r5, hc5, h⟩ := b1_i h
  refine g_none (st1 := [.int r5]) (gr_S (n := 3) (rest := []) (pc := 5) hx hb hml hown hts (cX9_isIn_met l D c p0 (0 : Int32) (255 : Int32) _ hc5) gX9_isByte_X9_isIn rfl rfl rfl (by decide +kernel) rfl ⟨Nat.le_of_ble_eq_true rfl, Nat.le_of_ble_eq_true rfl⟩ ⟨Nat.zero_le _, Nat.zero_le _⟩ gT_ok g_P0 (g_D0 (A := A)) hK (fun _ _ _ => trivial) hl.1 (Nat.le_of_ble_eq_true rfl) dX9_isByte_5 rfl) hP hS hA rfl (fun H locs hP hS => ?_)
  obtain ⟨hz8, h⟩ := ckZ_i h
  have kr := KR r5  _ _ 8 ls h hz8 hP hD hS dX9_isByte_8
  exact kr
abbrev rmX9_feed : Room := { frames := 2, cells := 0, slots := 0, locals := 42 }
set_option maxRecDepth 100000 in
set_option maxHeartbeats 40000000 in
theorem cX9_feed_met (l : Launch) (D : va_G) (c : Nat → ClassId) (a0 : Nat → Nat) (p0 : Int32) (p1 : Int32) (p2 : Int32) (p3 : Int32) (p4 : Int32) (p5 : Int32) (s0 : Mem) (r0 : Int32) (z0 : Mem) (h : fX9_feed p0 p1 p2 p3 p4 p5 s0 = some (r0, z0)) : gM l yX9_feed wsX9_feed rmX9_feed D (gY c) gT [.ref (a0 0), .int p0, .int p1, .int p2, .int p3, .int p4, .int p5] (wX9 a0 c s0) (some (.int r0)) (wX9 a0 c z0) := by
  unfold fX9_feed at h
  refine gM.I (cc := cX9_feed) (maxL := 8) (by decide) rfl (Nat.le_of_ble_eq_true rfl) ?_
  intro p e s m args below meth cd hx hb hml hown hts A hA ls hl hP hK hD hS hE Q KR0
  have hfX9 : ∀ w ∈ u_ws RX9 TX9 24, w.before args s = true := fun w hw => hts w (List.mem_cons_of_mem _ (List.mem_append_right _ hw))
  have lk0 := hts (.fieldLink RX9 73 "GlitchNetsModel" "fed" "I") (List.mem_of_getElem? (i := 1) rfl)
  have lk1 := hts (.fieldLink RX9 19 "GlitchNetsModel" "tape" "[I") (List.mem_of_getElem? (i := 2) rfl)
  have KR : ∀ (v : Int32) (w0 : Mem) (H : Heap) (locs : List Loc) (pc : Nat) (ls : Array Slot), some (v, w0) = some (r0, z0) → narrow .int (.int v) = .int v → va_P D vwCl (wX9 a0 c w0) H → va_D A (wX9 a0 c w0) → va_S A s.heap H locs → decode cX9_feed pc = .ok (.ireturn, 1) → W p l e rmX9_feed s m args below meth cd H locs 0 0 Q (F0 m pc ls [.int v]) := by
    intro v w0 H locs pc ls hr hn hP hD hS hd
    cases hr
    exact KR0 _ H locs pc ls rfl hn hP hD hS hd
  have hl : lv_has ls 8 [(0, .ref (a0 0)), (1, .int p0), (2, .int p1), (3, .int p2), (4, .int p3), (5, .int p4), (6, .int p5)] := hl
  have J127 : ∀ (K67 : Int32 → Int32 → Int32 → Int32 → Int32 → Int32 → Int32 → Mem → Option (Int32 × Mem)) (K67h : ∀ (x1 : Int32) (x2 : Int32) (x3 : Int32) (x4 : Int32) (x5 : Int32) (x6 : Int32) (x7 : Int32) (s0 : Mem) (H : Heap) (locs : List Loc) (ls : Array Slot), K67 x1 x2 x3 x4 x5 x6 x7 s0 = some (r0, z0) → va_P D vwCl (wX9 a0 c s0) H → va_D A (wX9 a0 c s0) → va_S A s.heap H locs → lv_has ls 8 [(0, .ref (a0 0)), (1, .int x1), (2, .int x2), (3, .int x3), (4, .int x4), (5, .int x5), (6, .int x6), (7, .int x7)] → W p l e rmX9_feed s m args below meth cd H locs 0 0 Q (F0 m 67 ls [])) (x1 : Int32) (x2 : Int32) (x3 : Int32) (x4 : Int32) (x5 : Int32) (x6 : Int32) (x7 : Int32) (y0 : Int32) (y1 : Int32) (s0 : Mem) (H : Heap) (locs : List Loc) (ls : Array Slot), fX9_feed_b127 K67 x1 x2 x3 x4 x5 x6 x7 y0 y1 s0 = some (r0, z0) → va_P D vwCl (wX9 a0 c s0) H → va_D A (wX9 a0 c s0) → va_S A s.heap H locs → lv_has ls 8 [(0, .ref (a0 0)), (1, .int x1), (2, .int x2), (3, .int x3), (4, .int x4), (5, .int x5), (6, .int x6), (7, .int x7)] → W p l e rmX9_feed s m args below meth cd H locs 0 0 Q (F0 m 127 ls [.int y0, .int y1, .ref (a0 4)]) := by
    intro K67 K67h x1 x2 x3 x4 x5 x6 x7 y0 y1 s0 H locs ls h hP hD hS hl
    unfold fX9_feed_b127 at h
    obtain ⟨hk127, h⟩ := ckI_i h
    refine va_iast (D := D) (f := (s0.1 5)) (pc := 127) hx hb hK hP hD hS 4 0 rfl rfl hk127 dX9_feed_127 (fun H locs hP hD hS => ?_)
    obtain ⟨m0_127, em0_127, h⟩ := lt_i h
    have hP : va_P D vwCl (wX9 a0 c m0_127) H := by rw [em0_127]; exact hP
    have hD : va_D A (wX9 a0 c m0_127) := by rw [em0_127]; exact hD
    obtain ⟨v7_128, ev7_128, h⟩ := lt_i h
    refine lv_iinc (v := v7_128) (lv' := [(7, .int v7_128), (0, .ref (a0 0)), (1, .int x1), (2, .int x2), (3, .int x3), (4, .int x4), (5, .int x5), (6, .int x6)]) (pc := 128) hx hb dX9_feed_128 hl (k := 7) rfl (by rw [ev7_128]; rfl) (by decide) rfl (fun ls hl => ?_)
    refine lv_goto (tgt := 67) (pc := 131) hx hb dX9_feed_131 (by decide) ?_
    have jr := K67h x1 x2 x3 x4 x5 x6 v7_128 m0_127 _ _ ls h hP hD hS (lv_sub hl [1, 2, 3, 4, 5, 6, 7, 0] rfl)
    exact jr
  have J67 : ∀ (n : Nat) (x1 : Int32) (x2 : Int32) (x3 : Int32) (x4 : Int32) (x5 : Int32) (x6 : Int32) (x7 : Int32) (s0 : Mem) (H : Heap) (locs : List Loc) (ls : Array Slot), fX9_feed_b67 n x1 x2 x3 x4 x5 x6 x7 s0 = some (r0, z0) → va_P D vwCl (wX9 a0 c s0) H → va_D A (wX9 a0 c s0) → va_S A s.heap H locs → lv_has ls 8 [(0, .ref (a0 0)), (1, .int x1), (2, .int x2), (3, .int x3), (4, .int x4), (5, .int x5), (6, .int x6), (7, .int x7)] → W p l e rmX9_feed s m args below meth cd H locs 0 0 Q (F0 m 67 ls []) := by
    intro n
    induction n with
    | zero =>
      intro x1 x2 x3 x4 x5 x6 x7 s0 H locs ls h _ _ _ _
      cases (show (none : Option (Int32 × Mem)) = some _ from h)
    | succ n K67h =>
      intro x1 x2 x3 x4 x5 x6 x7 s0 H locs ls h hP hD hS hl
      rw [fX9_feed_b67] at h
      refine lv_iload (pc := 67) hx hb dX9_feed_67 (lv_at hl 7 rfl) ?_
      refine lv_iload_n (pc := 69) hx hb dX9_feed_69 rfl (lv_at hl 1 rfl) ?_
      refine lv_icmp_ge (tgt := 134) (pc := 70) hx hb dX9_feed_70 (by decide) (fun c70 => ?_) (fun c70 => ?_)
      · replace h := it_t c70 h
        refine lv_aload_n (pc := 134) hx hb dX9_feed_134 rfl (lv_at hl 0 rfl) ?_
        refine lv_dup (pc := 135) hx hb dX9_feed_135 rfl ?_
        refine va_get (D := D) (ci := 9) (v := .int (s0.1 6 0)) (C := RX9) (T := TX9) (N := 24) (pc := 136) hx hb hfX9 (fun _ h9 => h9) hown hK hP 0 rfl rfl 6 (by decide) lk0 (fun _ h9 => h9) rfl dX9_feed_136 ?_
        refine lv_iload_n (pc := 139) hx hb dX9_feed_139 rfl (lv_at hl 1 rfl) ?_
        refine lv_iadd (pc := 140) hx hb dX9_feed_140 ?_
        refine va_put (D := D) (ci := 9) (v := .int ((s0.1 6 0) + x1)) (ty := .int) (C := RX9) (T := TX9) (N := 24) (pc := 141) hx hb hfX9 (fun _ h9 => h9) tyX9 tyX9_ok nmX9 hown hK hP hD hS 0 rfl rfl 6 (by decide) lk0 (fun _ h9 => h9) rfl (by decide +kernel) rfl rfl (Nat.le_of_ble_eq_true rfl) dX9_feed_141 (fun H locs hP hD hS => ?_)
        obtain ⟨m0_141, em0_141, h⟩ := lt_i h
        have hP : va_P D vwCl (wX9 a0 c m0_141) H := by rw [em0_141]; exact hP
        have hD : va_D A (wX9 a0 c m0_141) := by rw [em0_141]; exact hD
        refine lv_aload_n (pc := 144) hx hb dX9_feed_144 rfl (lv_at hl 0 rfl) ?_
        refine va_get (D := D) (ci := 9) (v := .int (m0_141.1 6 0)) (C := RX9) (T := TX9) (N := 24) (pc := 145) hx hb hfX9 (fun _ h9 => h9) hown hK hP 0 rfl rfl 6 (by decide) lk0 (fun _ h9 => h9) rfl dX9_feed_145 ?_
        have kr := KR (m0_141.1 6 0) m0_141 _ _ 148 ls h rfl hP hD hS dX9_feed_148
        exact kr
      · replace h := it_f c70 h
        refine lv_aload_n (pc := 73) hx hb dX9_feed_73 rfl (lv_at hl 0 rfl) ?_
        refine va_get (D := D) (ci := 9) (v := .ref (a0 4)) (C := RX9) (T := TX9) (N := 24) (pc := 74) hx hb hfX9 (fun _ h9 => h9) hown hK hP 0 rfl rfl 5 (by decide) lk1 (fun _ h9 => h9) rfl dX9_feed_74 ?_
        refine lv_aload_n (pc := 77) hx hb dX9_feed_77 rfl (lv_at hl 0 rfl) ?_
        refine va_get (D := D) (ci := 9) (v := .int (s0.1 6 0)) (C := RX9) (T := TX9) (N := 24) (pc := 78) hx hb hfX9 (fun _ h9 => h9) hown hK hP 0 rfl rfl 6 (by decide) lk0 (fun _ h9 => h9) rfl dX9_feed_78 ?_
        refine lv_iload (pc := 81) hx hb dX9_feed_81 (lv_at hl 7 rfl) ?_
        refine lv_iadd (pc := 83) hx hb dX9_feed_83 ?_
        refine lv_iload (pc := 84) hx hb dX9_feed_84 (lv_at hl 7 rfl) ?_
        refine lv_if_ne (tgt := 93) (pc := 86) hx hb dX9_feed_86 (by decide) (fun c86 => ?_) (fun c86 => ?_)
        · replace h := it_f c86 h
          refine lv_iload (pc := 93) hx hb dX9_feed_93 (lv_at hl 7 rfl) ?_
          refine lv_iconst (v := 1) (pc := 95) hx hb dX9_feed_95 (by decide) ?_
          refine lv_icmp_ne (tgt := 103) (pc := 96) hx hb dX9_feed_96 (by decide) (fun c96 => ?_) (fun c96 => ?_)
          · replace h := it_f c96 h
            refine lv_iload (pc := 103) hx hb dX9_feed_103 (lv_at hl 7 rfl) ?_
            refine lv_iconst (v := 2) (pc := 105) hx hb dX9_feed_105 (by decide) ?_
            refine lv_icmp_ne (tgt := 114) (pc := 106) hx hb dX9_feed_106 (by decide) (fun c106 => ?_) (fun c106 => ?_)
            · replace h := it_f c106 h
              refine lv_iload (pc := 114) hx hb dX9_feed_114 (lv_at hl 7 rfl) ?_
              refine lv_iconst (v := 3) (pc := 116) hx hb dX9_feed_116 (by decide) ?_
              refine lv_icmp_ne (tgt := 125) (pc := 117) hx hb dX9_feed_117 (by decide) (fun c117 => ?_) (fun c117 => ?_)
              · replace h := it_f c117 h
                refine lv_iload (pc := 125) hx hb dX9_feed_125 (lv_at hl 6 rfl) ?_
                have jr := J127 (fX9_feed_b67 n) K67h x1 x2 x3 x4 x5 x6 x7 x6 (((s0.1 6 0) + x7)) s0 _ _ ls h hP hD hS hl
                exact jr
              · replace h := it_t c117 h
                refine lv_iload (pc := 120) hx hb dX9_feed_120 (lv_at hl 5 rfl) ?_
                refine lv_goto (tgt := 127) (pc := 122) hx hb dX9_feed_122 (by decide) ?_
                have jr := J127 (fX9_feed_b67 n) K67h x1 x2 x3 x4 x5 x6 x7 x5 (((s0.1 6 0) + x7)) s0 _ _ ls h hP hD hS hl
                exact jr
            · replace h := it_t c106 h
              refine lv_iload (pc := 109) hx hb dX9_feed_109 (lv_at hl 4 rfl) ?_
              refine lv_goto (tgt := 127) (pc := 111) hx hb dX9_feed_111 (by decide) ?_
              have jr := J127 (fX9_feed_b67 n) K67h x1 x2 x3 x4 x5 x6 x7 x4 (((s0.1 6 0) + x7)) s0 _ _ ls h hP hD hS hl
              exact jr
          · replace h := it_t c96 h
            refine lv_iload_n (pc := 99) hx hb dX9_feed_99 rfl (lv_at hl 3 rfl) ?_
            refine lv_goto (tgt := 127) (pc := 100) hx hb dX9_feed_100 (by decide) ?_
            have jr := J127 (fX9_feed_b67 n) K67h x1 x2 x3 x4 x5 x6 x7 x3 (((s0.1 6 0) + x7)) s0 _ _ ls h hP hD hS hl
            exact jr
        · replace h := it_t c86 h
          refine lv_iload_n (pc := 89) hx hb dX9_feed_89 rfl (lv_at hl 2 rfl) ?_
          refine lv_goto (tgt := 127) (pc := 90) hx hb dX9_feed_90 (by decide) ?_
          have jr := J127 (fX9_feed_b67 n) K67h x1 x2 x3 x4 x5 x6 x7 x2 (((s0.1 6 0) + x7)) s0 _ _ ls h hP hD hS hl
          exact jr
  refine lv_iload_n (pc := 0) hx hb dX9_feed_0 rfl (lv_at hl 1 rfl) ?_
  refine lv_iconst (v := 1) (pc := 1) hx hb dX9_feed_1 (by decide) ?_
  refine lv_iconst (v := 5) (pc := 2) hx hb dX9_feed_2 (by decide) ?_
  obtain ⟨r3, hc3, h⟩ := b1_i h
  refine g_none (st1 := [.int r3]) (gr_S (n := 3) (rest := []) (pc := 3) hx hb hml hown hts (cX9_isIn_met l D c p0 (1 : Int32) (5 : Int32) _ hc3) gX9_feed_X9_isIn rfl rfl rfl (by decide +kernel) rfl ⟨Nat.le_of_ble_eq_true rfl, Nat.le_of_ble_eq_true rfl⟩ ⟨Nat.zero_le _, Nat.zero_le _⟩ gT_ok g_P0 (g_D0 (A := A)) hK (fun _ _ _ => trivial) hl.1 (Nat.le_of_ble_eq_true rfl) dX9_feed_3 rfl) hP hS hA rfl (fun H locs hP hS => ?_)
  refine lv_if_eq (tgt := 47) (pc := 6) hx hb dX9_feed_6 (by decide) (fun c6 => ?_) (fun c6 => ?_)
  · replace h := it_t c6 h
    refine lv_bipush (v := -2) (pc := 47) hx hb dX9_feed_47 (by decide) ?_
    have kr := KR (-2 : Int32) s0 _ _ 49 ls h rfl hP hD hS dX9_feed_49
    exact kr
  · replace h := it_f c6 h
    refine lv_iload_n (pc := 9) hx hb dX9_feed_9 rfl (lv_at hl 2 rfl) ?_
    obtain ⟨r10, hc10, h⟩ := b1_i h
    refine g_none (st1 := [.int r10]) (gr_S (n := 1) (rest := []) (pc := 10) hx hb hml hown hts (cX9_isByte_met l D c p1 _ hc10) gX9_feed_X9_isByte rfl rfl rfl (by decide +kernel) rfl ⟨Nat.le_of_ble_eq_true rfl, Nat.le_of_ble_eq_true rfl⟩ ⟨Nat.zero_le _, Nat.zero_le _⟩ gT_ok g_P0 (g_D0 (A := A)) hK (fun _ _ _ => trivial) hl.1 (Nat.le_of_ble_eq_true rfl) dX9_feed_10 rfl) hP hS hA rfl (fun H locs hP hS => ?_)
    refine lv_if_eq (tgt := 47) (pc := 13) hx hb dX9_feed_13 (by decide) (fun c13 => ?_) (fun c13 => ?_)
    · replace h := it_t c13 h
      refine lv_bipush (v := -2) (pc := 47) hx hb dX9_feed_47 (by decide) ?_
      have kr := KR (-2 : Int32) s0 _ _ 49 ls h rfl hP hD hS dX9_feed_49
      exact kr
    · replace h := it_f c13 h
      refine lv_iload_n (pc := 16) hx hb dX9_feed_16 rfl (lv_at hl 3 rfl) ?_
      obtain ⟨r17, hc17, h⟩ := b1_i h
      refine g_none (st1 := [.int r17]) (gr_S (n := 1) (rest := []) (pc := 17) hx hb hml hown hts (cX9_isByte_met l D c p2 _ hc17) gX9_feed_X9_isByte rfl rfl rfl (by decide +kernel) rfl ⟨Nat.le_of_ble_eq_true rfl, Nat.le_of_ble_eq_true rfl⟩ ⟨Nat.zero_le _, Nat.zero_le _⟩ gT_ok g_P0 (g_D0 (A := A)) hK (fun _ _ _ => trivial) hl.1 (Nat.le_of_ble_eq_true rfl) dX9_feed_17 rfl) hP hS hA rfl (fun H locs hP hS => ?_)
      refine lv_if_eq (tgt := 47) (pc := 20) hx hb dX9_feed_20 (by decide) (fun c20 => ?_) (fun c20 => ?_)
      · replace h := it_t c20 h
        refine lv_bipush (v := -2) (pc := 47) hx hb dX9_feed_47 (by decide) ?_
        have kr := KR (-2 : Int32) s0 _ _ 49 ls h rfl hP hD hS dX9_feed_49
        exact kr
      · replace h := it_f c20 h
        refine lv_iload (pc := 23) hx hb dX9_feed_23 (lv_at hl 4 rfl) ?_
        obtain ⟨r25, hc25, h⟩ := b1_i h
        refine g_none (st1 := [.int r25]) (gr_S (n := 1) (rest := []) (pc := 25) hx hb hml hown hts (cX9_isByte_met l D c p3 _ hc25) gX9_feed_X9_isByte rfl rfl rfl (by decide +kernel) rfl ⟨Nat.le_of_ble_eq_true rfl, Nat.le_of_ble_eq_true rfl⟩ ⟨Nat.zero_le _, Nat.zero_le _⟩ gT_ok g_P0 (g_D0 (A := A)) hK (fun _ _ _ => trivial) hl.1 (Nat.le_of_ble_eq_true rfl) dX9_feed_25 rfl) hP hS hA rfl (fun H locs hP hS => ?_)
        refine lv_if_eq (tgt := 47) (pc := 28) hx hb dX9_feed_28 (by decide) (fun c28 => ?_) (fun c28 => ?_)
        · replace h := it_t c28 h
          refine lv_bipush (v := -2) (pc := 47) hx hb dX9_feed_47 (by decide) ?_
          have kr := KR (-2 : Int32) s0 _ _ 49 ls h rfl hP hD hS dX9_feed_49
          exact kr
        · replace h := it_f c28 h
          refine lv_iload (pc := 31) hx hb dX9_feed_31 (lv_at hl 5 rfl) ?_
          obtain ⟨r33, hc33, h⟩ := b1_i h
          refine g_none (st1 := [.int r33]) (gr_S (n := 1) (rest := []) (pc := 33) hx hb hml hown hts (cX9_isByte_met l D c p4 _ hc33) gX9_feed_X9_isByte rfl rfl rfl (by decide +kernel) rfl ⟨Nat.le_of_ble_eq_true rfl, Nat.le_of_ble_eq_true rfl⟩ ⟨Nat.zero_le _, Nat.zero_le _⟩ gT_ok g_P0 (g_D0 (A := A)) hK (fun _ _ _ => trivial) hl.1 (Nat.le_of_ble_eq_true rfl) dX9_feed_33 rfl) hP hS hA rfl (fun H locs hP hS => ?_)
          refine lv_if_eq (tgt := 47) (pc := 36) hx hb dX9_feed_36 (by decide) (fun c36 => ?_) (fun c36 => ?_)
          · replace h := it_t c36 h
            refine lv_bipush (v := -2) (pc := 47) hx hb dX9_feed_47 (by decide) ?_
            have kr := KR (-2 : Int32) s0 _ _ 49 ls h rfl hP hD hS dX9_feed_49
            exact kr
          · replace h := it_f c36 h
            refine lv_iload (pc := 39) hx hb dX9_feed_39 (lv_at hl 6 rfl) ?_
            obtain ⟨r41, hc41, h⟩ := b1_i h
            refine g_none (st1 := [.int r41]) (gr_S (n := 1) (rest := []) (pc := 41) hx hb hml hown hts (cX9_isByte_met l D c p5 _ hc41) gX9_feed_X9_isByte rfl rfl rfl (by decide +kernel) rfl ⟨Nat.le_of_ble_eq_true rfl, Nat.le_of_ble_eq_true rfl⟩ ⟨Nat.zero_le _, Nat.zero_le _⟩ gT_ok g_P0 (g_D0 (A := A)) hK (fun _ _ _ => trivial) hl.1 (Nat.le_of_ble_eq_true rfl) dX9_feed_41 rfl) hP hS hA rfl (fun H locs hP hS => ?_)
            refine lv_if_ne (tgt := 50) (pc := 44) hx hb dX9_feed_44 (by decide) (fun c44 => ?_) (fun c44 => ?_)
            · replace h := it_f c44 h
              refine lv_aload_n (pc := 50) hx hb dX9_feed_50 rfl (lv_at hl 0 rfl) ?_
              refine va_get (D := D) (ci := 9) (v := .int (s0.1 6 0)) (C := RX9) (T := TX9) (N := 24) (pc := 51) hx hb hfX9 (fun _ h9 => h9) hown hK hP 0 rfl rfl 6 (by decide) lk0 (fun _ h9 => h9) rfl dX9_feed_51 ?_
              refine lv_iload_n (pc := 54) hx hb dX9_feed_54 rfl (lv_at hl 1 rfl) ?_
              refine lv_iadd (pc := 55) hx hb dX9_feed_55 ?_
              refine lv_bipush (v := 30) (pc := 56) hx hb dX9_feed_56 (by decide) ?_
              refine lv_icmp_le (tgt := 64) (pc := 58) hx hb dX9_feed_58 (by decide) (fun c58 => ?_) (fun c58 => ?_)
              · replace h := it_t c58 h
                refine lv_iconst (v := 0) (pc := 64) hx hb dX9_feed_64 (by decide) ?_
                refine lv_istore (lv' := [(7, .int (0 : Int32)), (0, .ref (a0 0)), (1, .int p0), (2, .int p1), (3, .int p2), (4, .int p3), (5, .int p4), (6, .int p5)]) (pc := 65) hx hb dX9_feed_65 hl (by decide) rfl (fun ls hl => ?_)
                have jr := J67 FU p0 p1 p2 p3 p4 p5 (0 : Int32) s0 _ _ ls h hP hD hS (lv_sub hl [1, 2, 3, 4, 5, 6, 7, 0] rfl)
                exact jr
              · replace h := it_f c58 h
                refine lv_bipush (v := -4) (pc := 61) hx hb dX9_feed_61 (by decide) ?_
                have kr := KR (-4 : Int32) s0 _ _ 63 ls h rfl hP hD hS dX9_feed_63
                exact kr
            · replace h := it_t c44 h
              refine lv_bipush (v := -2) (pc := 47) hx hb dX9_feed_47 (by decide) ?_
              have kr := KR (-2 : Int32) s0 _ _ 49 ls h rfl hP hD hS dX9_feed_49
              exact kr
abbrev rmX9_isLetter : Room := { frames := 1, cells := 0, slots := 0, locals := 22 }
set_option maxRecDepth 100000 in
set_option maxHeartbeats 40000000 in
theorem cX9_isLetter_met (l : Launch) (D : va_G) (c : Nat → ClassId) (a0 : Nat → Nat) (p0 : Int32) (s0 : Mem) (r0 : Int32) (h : fX9_isLetter p0 s0 = some r0) : gM l yX9_isLetter wsX9_isLetter rmX9_isLetter D (gY c) gT [.ref (a0 0), .int p0] (wX9 a0 c s0) (some (.int r0)) (wX9 a0 c s0) := by
  unfold fX9_isLetter at h
  refine gM.I (cc := cX9_isLetter) (maxL := 2) (by decide) rfl (Nat.le_of_ble_eq_true rfl) ?_
  intro p e s m args below meth cd hx hb hml hown hts A hA ls hl hP hK hD hS hE Q KR0
  have hfX9 : ∀ w ∈ u_ws RX9 TX9 24, w.before args s = true := fun w hw => hts w (List.mem_cons_of_mem _ (List.mem_append_right _ hw))
  have lk0 := hts (.fieldLink RX9 73 "GlitchNetsModel" "fed" "I") (List.mem_of_getElem? (i := 1) rfl)
  have lk1 := hts (.fieldLink RX9 19 "GlitchNetsModel" "tape" "[I") (List.mem_of_getElem? (i := 2) rfl)
  have KR : ∀ (v : Int32)  (H : Heap) (locs : List Loc) (pc : Nat) (ls : Array Slot), some v = some r0 → narrow .boolean (.int v) = .int v → va_P D vwCl (wX9 a0 c s0) H → va_D A (wX9 a0 c s0) → va_S A s.heap H locs → decode cX9_isLetter pc = .ok (.ireturn, 1) → W p l e rmX9_isLetter s m args below meth cd H locs 0 0 Q (F0 m pc ls [.int v]) := by
    intro v  H locs pc ls hr hn hP hD hS hd
    cases hr
    exact KR0 _ H locs pc ls rfl hn hP hD hS hd
  have hl : lv_has ls 2 [(0, .ref (a0 0)), (1, .int p0)] := hl
  refine lv_iload_n (pc := 0) hx hb dX9_isLetter_0 rfl (lv_at hl 1 rfl) ?_
  refine lv_aload_n (pc := 1) hx hb dX9_isLetter_1 rfl (lv_at hl 0 rfl) ?_
  refine va_get (D := D) (ci := 9) (v := .int (s0.1 6 0)) (C := RX9) (T := TX9) (N := 24) (pc := 2) hx hb hfX9 (fun _ h9 => h9) hown hK hP 0 rfl rfl 6 (by decide) lk0 (fun _ h9 => h9) rfl dX9_isLetter_2 ?_
  refine lv_icmp_ge (tgt := 28) (pc := 5) hx hb dX9_isLetter_5 (by decide) (fun c5 => ?_) (fun c5 => ?_)
  · replace h := it_t c5 h
    refine lv_iconst (v := 0) (pc := 28) hx hb dX9_isLetter_28 (by decide) ?_
    have kr := KR (0 : Int32)  _ _ 29 ls h rfl hP hD hS dX9_isLetter_29
    exact kr
  · replace h := it_f c5 h
    refine lv_aload_n (pc := 8) hx hb dX9_isLetter_8 rfl (lv_at hl 0 rfl) ?_
    refine va_get (D := D) (ci := 9) (v := .ref (a0 4)) (C := RX9) (T := TX9) (N := 24) (pc := 9) hx hb hfX9 (fun _ h9 => h9) hown hK hP 0 rfl rfl 5 (by decide) lk1 (fun _ h9 => h9) rfl dX9_isLetter_9 ?_
    refine lv_iload_n (pc := 12) hx hb dX9_isLetter_12 rfl (lv_at hl 1 rfl) ?_
    obtain ⟨hk13, h⟩ := ckI_i h
    refine va_iald (D := D) (f := (s0.1 5)) (pc := 13) hx hb hK hP 4 0 rfl rfl hk13 dX9_isLetter_13 ?_
    refine lv_bipush (v := 97) (pc := 14) hx hb dX9_isLetter_14 (by decide) ?_
    refine lv_bipush (v := 122) (pc := 16) hx hb dX9_isLetter_16 (by decide) ?_
    obtain ⟨r18, hc18, h⟩ := b1_i h
    refine g_none (st1 := [.int r18]) (gr_S (n := 3) (rest := []) (pc := 18) hx hb hml hown hts (cX9_isIn_met l D c (((s0.1 5) (p0).toNatClampNeg)) (97 : Int32) (122 : Int32) _ hc18) gX9_isLetter_X9_isIn rfl rfl rfl (by decide +kernel) rfl ⟨Nat.le_of_ble_eq_true rfl, Nat.le_of_ble_eq_true rfl⟩ ⟨Nat.zero_le _, Nat.zero_le _⟩ gT_ok g_P0 (g_D0 (A := A)) hK (fun _ _ _ => trivial) hl.1 (Nat.le_of_ble_eq_true rfl) dX9_isLetter_18 rfl) hP hS hA rfl (fun H locs hP hS => ?_)
    refine lv_if_eq (tgt := 28) (pc := 21) hx hb dX9_isLetter_21 (by decide) (fun c21 => ?_) (fun c21 => ?_)
    · replace h := it_t c21 h
      refine lv_iconst (v := 0) (pc := 28) hx hb dX9_isLetter_28 (by decide) ?_
      have kr := KR (0 : Int32)  _ _ 29 ls h rfl hP hD hS dX9_isLetter_29
      exact kr
    · replace h := it_f c21 h
      refine lv_iconst (v := 1) (pc := 24) hx hb dX9_isLetter_24 (by decide) ?_
      refine lv_goto (tgt := 29) (pc := 25) hx hb dX9_isLetter_25 (by decide) ?_
      have kr := KR (1 : Int32)  _ _ 29 ls h rfl hP hD hS dX9_isLetter_29
      exact kr
abbrev rmX9_isDigit : Room := { frames := 1, cells := 0, slots := 0, locals := 22 }
set_option maxRecDepth 100000 in
set_option maxHeartbeats 40000000 in
theorem cX9_isDigit_met (l : Launch) (D : va_G) (c : Nat → ClassId) (a0 : Nat → Nat) (p0 : Int32) (s0 : Mem) (r0 : Int32) (h : fX9_isDigit p0 s0 = some r0) : gM l yX9_isDigit wsX9_isDigit rmX9_isDigit D (gY c) gT [.ref (a0 0), .int p0] (wX9 a0 c s0) (some (.int r0)) (wX9 a0 c s0) := by
  unfold fX9_isDigit at h
  refine gM.I (cc := cX9_isDigit) (maxL := 2) (by decide) rfl (Nat.le_of_ble_eq_true rfl) ?_
  intro p e s m args below meth cd hx hb hml hown hts A hA ls hl hP hK hD hS hE Q KR0
  have hfX9 : ∀ w ∈ u_ws RX9 TX9 24, w.before args s = true := fun w hw => hts w (List.mem_cons_of_mem _ (List.mem_append_right _ hw))
  have lk0 := hts (.fieldLink RX9 73 "GlitchNetsModel" "fed" "I") (List.mem_of_getElem? (i := 1) rfl)
  have lk1 := hts (.fieldLink RX9 19 "GlitchNetsModel" "tape" "[I") (List.mem_of_getElem? (i := 2) rfl)
  have KR : ∀ (v : Int32)  (H : Heap) (locs : List Loc) (pc : Nat) (ls : Array Slot), some v = some r0 → narrow .boolean (.int v) = .int v → va_P D vwCl (wX9 a0 c s0) H → va_D A (wX9 a0 c s0) → va_S A s.heap H locs → decode cX9_isDigit pc = .ok (.ireturn, 1) → W p l e rmX9_isDigit s m args below meth cd H locs 0 0 Q (F0 m pc ls [.int v]) := by
    intro v  H locs pc ls hr hn hP hD hS hd
    cases hr
    exact KR0 _ H locs pc ls rfl hn hP hD hS hd
  have hl : lv_has ls 2 [(0, .ref (a0 0)), (1, .int p0)] := hl
  refine lv_iload_n (pc := 0) hx hb dX9_isDigit_0 rfl (lv_at hl 1 rfl) ?_
  refine lv_aload_n (pc := 1) hx hb dX9_isDigit_1 rfl (lv_at hl 0 rfl) ?_
  refine va_get (D := D) (ci := 9) (v := .int (s0.1 6 0)) (C := RX9) (T := TX9) (N := 24) (pc := 2) hx hb hfX9 (fun _ h9 => h9) hown hK hP 0 rfl rfl 6 (by decide) lk0 (fun _ h9 => h9) rfl dX9_isDigit_2 ?_
  refine lv_icmp_ge (tgt := 28) (pc := 5) hx hb dX9_isDigit_5 (by decide) (fun c5 => ?_) (fun c5 => ?_)
  · replace h := it_t c5 h
    refine lv_iconst (v := 0) (pc := 28) hx hb dX9_isDigit_28 (by decide) ?_
    have kr := KR (0 : Int32)  _ _ 29 ls h rfl hP hD hS dX9_isDigit_29
    exact kr
  · replace h := it_f c5 h
    refine lv_aload_n (pc := 8) hx hb dX9_isDigit_8 rfl (lv_at hl 0 rfl) ?_
    refine va_get (D := D) (ci := 9) (v := .ref (a0 4)) (C := RX9) (T := TX9) (N := 24) (pc := 9) hx hb hfX9 (fun _ h9 => h9) hown hK hP 0 rfl rfl 5 (by decide) lk1 (fun _ h9 => h9) rfl dX9_isDigit_9 ?_
    refine lv_iload_n (pc := 12) hx hb dX9_isDigit_12 rfl (lv_at hl 1 rfl) ?_
    obtain ⟨hk13, h⟩ := ckI_i h
    refine va_iald (D := D) (f := (s0.1 5)) (pc := 13) hx hb hK hP 4 0 rfl rfl hk13 dX9_isDigit_13 ?_
    refine lv_bipush (v := 48) (pc := 14) hx hb dX9_isDigit_14 (by decide) ?_
    refine lv_bipush (v := 57) (pc := 16) hx hb dX9_isDigit_16 (by decide) ?_
    obtain ⟨r18, hc18, h⟩ := b1_i h
    refine g_none (st1 := [.int r18]) (gr_S (n := 3) (rest := []) (pc := 18) hx hb hml hown hts (cX9_isIn_met l D c (((s0.1 5) (p0).toNatClampNeg)) (48 : Int32) (57 : Int32) _ hc18) gX9_isDigit_X9_isIn rfl rfl rfl (by decide +kernel) rfl ⟨Nat.le_of_ble_eq_true rfl, Nat.le_of_ble_eq_true rfl⟩ ⟨Nat.zero_le _, Nat.zero_le _⟩ gT_ok g_P0 (g_D0 (A := A)) hK (fun _ _ _ => trivial) hl.1 (Nat.le_of_ble_eq_true rfl) dX9_isDigit_18 rfl) hP hS hA rfl (fun H locs hP hS => ?_)
    refine lv_if_eq (tgt := 28) (pc := 21) hx hb dX9_isDigit_21 (by decide) (fun c21 => ?_) (fun c21 => ?_)
    · replace h := it_t c21 h
      refine lv_iconst (v := 0) (pc := 28) hx hb dX9_isDigit_28 (by decide) ?_
      have kr := KR (0 : Int32)  _ _ 29 ls h rfl hP hD hS dX9_isDigit_29
      exact kr
    · replace h := it_f c21 h
      refine lv_iconst (v := 1) (pc := 24) hx hb dX9_isDigit_24 (by decide) ?_
      refine lv_goto (tgt := 29) (pc := 25) hx hb dX9_isDigit_25 (by decide) ?_
      have kr := KR (1 : Int32)  _ _ 29 ls h rfl hP hD hS dX9_isDigit_29
      exact kr
abbrev rmX9_next : Room := { frames := 2, cells := 0, slots := 0, locals := 43 }
set_option maxRecDepth 100000 in
set_option maxHeartbeats 40000000 in
theorem cX9_next_met (l : Launch) (D : va_G) (c : Nat → ClassId) (a0 : Nat → Nat) (s0 : Mem) (z0 : Mem) (h : fX9_next s0 = some z0) : gM l yX9_next wsX9_next rmX9_next D (gY c) gT [.ref (a0 0)] (wX9 a0 c s0) none (wX9 a0 c z0) := by
  unfold fX9_next at h
  refine gM.V (cc := cX9_next) (maxL := 1) (by decide) rfl (Nat.le_of_ble_eq_true rfl) ?_
  intro p e s m args below meth cd hx hb hml hown hts A hA ls hl hP hK hD hS hE Q KR0
  have hfX9 : ∀ w ∈ u_ws RX9 TX9 24, w.before args s = true := fun w hw => hts w (List.mem_cons_of_mem _ (List.mem_append_right _ hw))
  have lk0 := hts (.fieldLink RX9 76 "GlitchNetsModel" "at" "I") (List.mem_of_getElem? (i := 1) rfl)
  have lk1 := hts (.fieldLink RX9 73 "GlitchNetsModel" "fed" "I") (List.mem_of_getElem? (i := 2) rfl)
  have lk2 := hts (.fieldLink RX9 79 "GlitchNetsModel" "from" "I") (List.mem_of_getElem? (i := 4) rfl)
  have lk3 := hts (.fieldLink RX9 88 "GlitchNetsModel" "token" "I") (List.mem_of_getElem? (i := 5) rfl)
  have lk4 := hts (.fieldLink RX9 19 "GlitchNetsModel" "tape" "[I") (List.mem_of_getElem? (i := 3) rfl)
  have KR : ∀ (w0 : Mem) (H : Heap) (locs : List Loc) (pc : Nat) (ls : Array Slot), some w0 = some z0 → va_P D vwCl (wX9 a0 c w0) H → va_D A (wX9 a0 c w0) → va_S A s.heap H locs → decode cX9_next pc = .ok (.return_, 1) → W p l e rmX9_next s m args below meth cd H locs 0 0 Q (F0 m pc ls []) := by
    intro w0 H locs pc ls hr hP hD hS hd
    cases hr
    exact KR0 H locs pc ls hP hD hS hd
  have hl : lv_has ls 1 [(0, .ref (a0 0))] := hl
  have J134 : ∀ (K96 : Mem → Option (Mem)) (K96h : ∀ (s0 : Mem) (H : Heap) (locs : List Loc) (ls : Array Slot), K96 s0 = some z0 → va_P D vwCl (wX9 a0 c s0) H → va_D A (wX9 a0 c s0) → va_S A s.heap H locs → lv_has ls 1 [(0, .ref (a0 0))] → W p l e rmX9_next s m args below meth cd H locs 0 0 Q (F0 m 96 ls [])) (s0 : Mem) (H : Heap) (locs : List Loc) (ls : Array Slot), fX9_next_b134 K96 s0 = some z0 → va_P D vwCl (wX9 a0 c s0) H → va_D A (wX9 a0 c s0) → va_S A s.heap H locs → lv_has ls 1 [(0, .ref (a0 0))] → W p l e rmX9_next s m args below meth cd H locs 0 0 Q (F0 m 134 ls []) := by
    intro K96 K96h s0 H locs ls h hP hD hS hl
    unfold fX9_next_b134 at h
    refine lv_aload_n (pc := 134) hx hb dX9_next_134 rfl (lv_at hl 0 rfl) ?_
    refine lv_dup (pc := 135) hx hb dX9_next_135 rfl ?_
    refine va_get (D := D) (ci := 9) (v := .int (s0.1 7 0)) (C := RX9) (T := TX9) (N := 24) (pc := 136) hx hb hfX9 (fun _ h9 => h9) hown hK hP 0 rfl rfl 7 (by decide) lk0 (fun _ h9 => h9) rfl dX9_next_136 ?_
    refine lv_iconst (v := 1) (pc := 139) hx hb dX9_next_139 (by decide) ?_
    refine lv_iadd (pc := 140) hx hb dX9_next_140 ?_
    refine va_put (D := D) (ci := 9) (v := .int ((s0.1 7 0) + (1 : Int32))) (ty := .int) (C := RX9) (T := TX9) (N := 24) (pc := 141) hx hb hfX9 (fun _ h9 => h9) tyX9 tyX9_ok nmX9 hown hK hP hD hS 0 rfl rfl 7 (by decide) lk0 (fun _ h9 => h9) rfl (by decide +kernel) rfl rfl (Nat.le_of_ble_eq_true rfl) dX9_next_141 (fun H locs hP hD hS => ?_)
    obtain ⟨m0_141, em0_141, h⟩ := lt_i h
    have hP : va_P D vwCl (wX9 a0 c m0_141) H := by rw [em0_141]; exact hP
    have hD : va_D A (wX9 a0 c m0_141) := by rw [em0_141]; exact hD
    refine lv_goto (tgt := 96) (pc := 144) hx hb dX9_next_144 (by decide) ?_
    have jr := K96h m0_141 _ _ ls h hP hD hS hl
    exact jr
  have J115 : ∀ (K96 : Mem → Option (Mem)) (K96h : ∀ (s0 : Mem) (H : Heap) (locs : List Loc) (ls : Array Slot), K96 s0 = some z0 → va_P D vwCl (wX9 a0 c s0) H → va_D A (wX9 a0 c s0) → va_S A s.heap H locs → lv_has ls 1 [(0, .ref (a0 0))] → W p l e rmX9_next s m args below meth cd H locs 0 0 Q (F0 m 96 ls [])) (s0 : Mem) (H : Heap) (locs : List Loc) (ls : Array Slot), fX9_next_b115 K96 s0 = some z0 → va_P D vwCl (wX9 a0 c s0) H → va_D A (wX9 a0 c s0) → va_S A s.heap H locs → lv_has ls 1 [(0, .ref (a0 0))] → W p l e rmX9_next s m args below meth cd H locs 0 0 Q (F0 m 115 ls []) := by
    intro K96 K96h s0 H locs ls h hP hD hS hl
    unfold fX9_next_b115 at h
    refine lv_aload_n (pc := 115) hx hb dX9_next_115 rfl (lv_at hl 0 rfl) ?_
    refine va_get (D := D) (ci := 9) (v := .int (s0.1 9 0)) (C := RX9) (T := TX9) (N := 24) (pc := 116) hx hb hfX9 (fun _ h9 => h9) hown hK hP 0 rfl rfl 9 (by decide) lk3 (fun _ h9 => h9) rfl dX9_next_116 ?_
    refine lv_iconst (v := 2) (pc := 119) hx hb dX9_next_119 (by decide) ?_
    refine lv_icmp_ne (tgt := 147) (pc := 120) hx hb dX9_next_120 (by decide) (fun c120 => ?_) (fun c120 => ?_)
    · replace h := it_f c120 h
      have kr := KR s0 _ _ 147 ls h hP hD hS dX9_next_147
      exact kr
    · replace h := it_t c120 h
      refine lv_aload_n (pc := 123) hx hb dX9_next_123 rfl (lv_at hl 0 rfl) ?_
      refine lv_aload_n (pc := 124) hx hb dX9_next_124 rfl (lv_at hl 0 rfl) ?_
      refine va_get (D := D) (ci := 9) (v := .int (s0.1 7 0)) (C := RX9) (T := TX9) (N := 24) (pc := 125) hx hb hfX9 (fun _ h9 => h9) hown hK hP 0 rfl rfl 7 (by decide) lk0 (fun _ h9 => h9) rfl dX9_next_125 ?_
      obtain ⟨r128, hc128, h⟩ := b1_i h
      refine g_all (st1 := [.int r128]) (gr_V (n := 1) (rest := []) (pc := 128) hx hb hml hown hts (cX9_isDigit_met l D c a0 ((s0.1 7 0)) s0 _ hc128) gX9_next_X9_isDigit rfl rfl rfl (by decide +kernel) rfl ⟨Nat.le_of_ble_eq_true rfl, Nat.le_of_ble_eq_true rfl⟩ ⟨Nat.zero_le _, Nat.zero_le _⟩ 0 9 rfl rfl rfl gT_ok hP hD hK (fun _ _ _ => trivial) hl.1 (Nat.le_of_ble_eq_true rfl) dX9_next_128 rfl) hD hS hA rfl (fun H locs hP hD hS => ?_)
      refine lv_if_eq (tgt := 147) (pc := 131) hx hb dX9_next_131 (by decide) (fun c131 => ?_) (fun c131 => ?_)
      · replace h := it_t c131 h
        have kr := KR s0 _ _ 147 ls h hP hD hS dX9_next_147
        exact kr
      · replace h := it_f c131 h
        have jr := J134 K96 K96h s0 _ _ ls h hP hD hS hl
        exact jr
  have J96 : ∀ (n : Nat) (s0 : Mem) (H : Heap) (locs : List Loc) (ls : Array Slot), fX9_next_b96 n s0 = some z0 → va_P D vwCl (wX9 a0 c s0) H → va_D A (wX9 a0 c s0) → va_S A s.heap H locs → lv_has ls 1 [(0, .ref (a0 0))] → W p l e rmX9_next s m args below meth cd H locs 0 0 Q (F0 m 96 ls []) := by
    intro n
    induction n with
    | zero =>
      intro s0 H locs ls h _ _ _ _
      cases (show (none : Option (Mem)) = some _ from h)
    | succ n K96h =>
      intro s0 H locs ls h hP hD hS hl
      rw [fX9_next_b96] at h
      refine lv_aload_n (pc := 96) hx hb dX9_next_96 rfl (lv_at hl 0 rfl) ?_
      refine va_get (D := D) (ci := 9) (v := .int (s0.1 9 0)) (C := RX9) (T := TX9) (N := 24) (pc := 97) hx hb hfX9 (fun _ h9 => h9) hown hK hP 0 rfl rfl 9 (by decide) lk3 (fun _ h9 => h9) rfl dX9_next_97 ?_
      refine lv_iconst (v := 1) (pc := 100) hx hb dX9_next_100 (by decide) ?_
      refine lv_icmp_ne (tgt := 115) (pc := 101) hx hb dX9_next_101 (by decide) (fun c101 => ?_) (fun c101 => ?_)
      · replace h := it_f c101 h
        have jr := J115 (fX9_next_b96 n) K96h s0 _ _ ls h hP hD hS hl
        exact jr
      · replace h := it_t c101 h
        refine lv_aload_n (pc := 104) hx hb dX9_next_104 rfl (lv_at hl 0 rfl) ?_
        refine lv_aload_n (pc := 105) hx hb dX9_next_105 rfl (lv_at hl 0 rfl) ?_
        refine va_get (D := D) (ci := 9) (v := .int (s0.1 7 0)) (C := RX9) (T := TX9) (N := 24) (pc := 106) hx hb hfX9 (fun _ h9 => h9) hown hK hP 0 rfl rfl 7 (by decide) lk0 (fun _ h9 => h9) rfl dX9_next_106 ?_
        obtain ⟨r109, hc109, h⟩ := b1_i h
        refine g_all (st1 := [.int r109]) (gr_V (n := 1) (rest := []) (pc := 109) hx hb hml hown hts (cX9_isLetter_met l D c a0 ((s0.1 7 0)) s0 _ hc109) gX9_next_X9_isLetter rfl rfl rfl (by decide +kernel) rfl ⟨Nat.le_of_ble_eq_true rfl, Nat.le_of_ble_eq_true rfl⟩ ⟨Nat.zero_le _, Nat.zero_le _⟩ 0 9 rfl rfl rfl gT_ok hP hD hK (fun _ _ _ => trivial) hl.1 (Nat.le_of_ble_eq_true rfl) dX9_next_109 rfl) hD hS hA rfl (fun H locs hP hD hS => ?_)
        refine lv_if_ne (tgt := 134) (pc := 112) hx hb dX9_next_112 (by decide) (fun c112 => ?_) (fun c112 => ?_)
        · replace h := it_f c112 h
          have jr := J134 (fX9_next_b96 n) K96h s0 _ _ ls h hP hD hS hl
          exact jr
        · replace h := it_t c112 h
          have jr := J115 (fX9_next_b96 n) K96h s0 _ _ ls h hP hD hS hl
          exact jr
  have J93 : ∀ (y0 : Int32) (s0 : Mem) (H : Heap) (locs : List Loc) (ls : Array Slot), fX9_next_b93 y0 s0 = some z0 → va_P D vwCl (wX9 a0 c s0) H → va_D A (wX9 a0 c s0) → va_S A s.heap H locs → lv_has ls 1 [(0, .ref (a0 0))] → W p l e rmX9_next s m args below meth cd H locs 0 0 Q (F0 m 93 ls [.int y0, .ref (a0 0)]) := by
    intro y0 s0 H locs ls h hP hD hS hl
    unfold fX9_next_b93 at h
    refine va_put (D := D) (ci := 9) (v := .int y0) (ty := .int) (C := RX9) (T := TX9) (N := 24) (pc := 93) hx hb hfX9 (fun _ h9 => h9) tyX9 tyX9_ok nmX9 hown hK hP hD hS 0 rfl rfl 9 (by decide) lk3 (fun _ h9 => h9) rfl (by decide +kernel) rfl rfl (Nat.le_of_ble_eq_true rfl) dX9_next_93 (fun H locs hP hD hS => ?_)
    obtain ⟨m0_93, em0_93, h⟩ := lt_i h
    have hP : va_P D vwCl (wX9 a0 c m0_93) H := by rw [em0_93]; exact hP
    have hD : va_D A (wX9 a0 c m0_93) := by rw [em0_93]; exact hD
    have jr := J96 FU m0_93 _ _ ls h hP hD hS hl
    exact jr
  have J38 : ∀ (s0 : Mem) (H : Heap) (locs : List Loc) (ls : Array Slot), fX9_next_b38 s0 = some z0 → va_P D vwCl (wX9 a0 c s0) H → va_D A (wX9 a0 c s0) → va_S A s.heap H locs → lv_has ls 1 [(0, .ref (a0 0))] → W p l e rmX9_next s m args below meth cd H locs 0 0 Q (F0 m 38 ls []) := by
    intro s0 H locs ls h hP hD hS hl
    unfold fX9_next_b38 at h
    refine lv_aload_n (pc := 38) hx hb dX9_next_38 rfl (lv_at hl 0 rfl) ?_
    refine lv_aload_n (pc := 39) hx hb dX9_next_39 rfl (lv_at hl 0 rfl) ?_
    refine va_get (D := D) (ci := 9) (v := .int (s0.1 7 0)) (C := RX9) (T := TX9) (N := 24) (pc := 40) hx hb hfX9 (fun _ h9 => h9) hown hK hP 0 rfl rfl 7 (by decide) lk0 (fun _ h9 => h9) rfl dX9_next_40 ?_
    refine va_put (D := D) (ci := 9) (v := .int (s0.1 7 0)) (ty := .int) (C := RX9) (T := TX9) (N := 24) (pc := 43) hx hb hfX9 (fun _ h9 => h9) tyX9 tyX9_ok nmX9 hown hK hP hD hS 0 rfl rfl 8 (by decide) lk2 (fun _ h9 => h9) rfl (by decide +kernel) rfl rfl (Nat.le_of_ble_eq_true rfl) dX9_next_43 (fun H locs hP hD hS => ?_)
    obtain ⟨m0_43, em0_43, h⟩ := lt_i h
    have hP : va_P D vwCl (wX9 a0 c m0_43) H := by rw [em0_43]; exact hP
    have hD : va_D A (wX9 a0 c m0_43) := by rw [em0_43]; exact hD
    refine lv_aload_n (pc := 46) hx hb dX9_next_46 rfl (lv_at hl 0 rfl) ?_
    refine lv_aload_n (pc := 47) hx hb dX9_next_47 rfl (lv_at hl 0 rfl) ?_
    refine va_get (D := D) (ci := 9) (v := .int (m0_43.1 7 0)) (C := RX9) (T := TX9) (N := 24) (pc := 48) hx hb hfX9 (fun _ h9 => h9) hown hK hP 0 rfl rfl 7 (by decide) lk0 (fun _ h9 => h9) rfl dX9_next_48 ?_
    refine lv_aload_n (pc := 51) hx hb dX9_next_51 rfl (lv_at hl 0 rfl) ?_
    refine va_get (D := D) (ci := 9) (v := .int (m0_43.1 6 0)) (C := RX9) (T := TX9) (N := 24) (pc := 52) hx hb hfX9 (fun _ h9 => h9) hown hK hP 0 rfl rfl 6 (by decide) lk1 (fun _ h9 => h9) rfl dX9_next_52 ?_
    refine lv_icmp_ne (tgt := 62) (pc := 55) hx hb dX9_next_55 (by decide) (fun c55 => ?_) (fun c55 => ?_)
    · replace h := it_f c55 h
      refine lv_aload_n (pc := 62) hx hb dX9_next_62 rfl (lv_at hl 0 rfl) ?_
      refine lv_aload_n (pc := 63) hx hb dX9_next_63 rfl (lv_at hl 0 rfl) ?_
      refine va_get (D := D) (ci := 9) (v := .int (m0_43.1 7 0)) (C := RX9) (T := TX9) (N := 24) (pc := 64) hx hb hfX9 (fun _ h9 => h9) hown hK hP 0 rfl rfl 7 (by decide) lk0 (fun _ h9 => h9) rfl dX9_next_64 ?_
      obtain ⟨r67, hc67, h⟩ := b1_i h
      refine g_all (st1 := [.int r67, .ref (a0 0)]) (gr_V (n := 1) (rest := [.ref (a0 0)]) (pc := 67) hx hb hml hown hts (cX9_isLetter_met l D c a0 ((m0_43.1 7 0)) m0_43 _ hc67) gX9_next_X9_isLetter rfl rfl rfl (by decide +kernel) rfl ⟨Nat.le_of_ble_eq_true rfl, Nat.le_of_ble_eq_true rfl⟩ ⟨Nat.zero_le _, Nat.zero_le _⟩ 0 9 rfl rfl rfl gT_ok hP hD hK (fun _ _ _ => trivial) hl.1 (Nat.le_of_ble_eq_true rfl) dX9_next_67 rfl) hD hS hA rfl (fun H locs hP hD hS => ?_)
      refine lv_if_eq (tgt := 77) (pc := 70) hx hb dX9_next_70 (by decide) (fun c70 => ?_) (fun c70 => ?_)
      · replace h := it_t c70 h
        refine lv_aload_n (pc := 77) hx hb dX9_next_77 rfl (lv_at hl 0 rfl) ?_
        refine lv_aload_n (pc := 78) hx hb dX9_next_78 rfl (lv_at hl 0 rfl) ?_
        refine va_get (D := D) (ci := 9) (v := .int (m0_43.1 7 0)) (C := RX9) (T := TX9) (N := 24) (pc := 79) hx hb hfX9 (fun _ h9 => h9) hown hK hP 0 rfl rfl 7 (by decide) lk0 (fun _ h9 => h9) rfl dX9_next_79 ?_
        obtain ⟨r82, hc82, h⟩ := b1_i h
        refine g_all (st1 := [.int r82, .ref (a0 0)]) (gr_V (n := 1) (rest := [.ref (a0 0)]) (pc := 82) hx hb hml hown hts (cX9_isDigit_met l D c a0 ((m0_43.1 7 0)) m0_43 _ hc82) gX9_next_X9_isDigit rfl rfl rfl (by decide +kernel) rfl ⟨Nat.le_of_ble_eq_true rfl, Nat.le_of_ble_eq_true rfl⟩ ⟨Nat.zero_le _, Nat.zero_le _⟩ 0 9 rfl rfl rfl gT_ok hP hD hK (fun _ _ _ => trivial) hl.1 (Nat.le_of_ble_eq_true rfl) dX9_next_82 rfl) hD hS hA rfl (fun H locs hP hD hS => ?_)
        refine lv_if_eq (tgt := 92) (pc := 85) hx hb dX9_next_85 (by decide) (fun c85 => ?_) (fun c85 => ?_)
        · replace h := it_t c85 h
          refine lv_iconst (v := 3) (pc := 92) hx hb dX9_next_92 (by decide) ?_
          have jr := J93 (3 : Int32) m0_43 _ _ ls h hP hD hS hl
          exact jr
        · replace h := it_f c85 h
          refine lv_iconst (v := 2) (pc := 88) hx hb dX9_next_88 (by decide) ?_
          refine lv_goto (tgt := 93) (pc := 89) hx hb dX9_next_89 (by decide) ?_
          have jr := J93 (2 : Int32) m0_43 _ _ ls h hP hD hS hl
          exact jr
      · replace h := it_f c70 h
        refine lv_iconst (v := 1) (pc := 73) hx hb dX9_next_73 (by decide) ?_
        refine lv_goto (tgt := 93) (pc := 74) hx hb dX9_next_74 (by decide) ?_
        have jr := J93 (1 : Int32) m0_43 _ _ ls h hP hD hS hl
        exact jr
    · replace h := it_t c55 h
      refine lv_iconst (v := 0) (pc := 58) hx hb dX9_next_58 (by decide) ?_
      refine lv_goto (tgt := 93) (pc := 59) hx hb dX9_next_59 (by decide) ?_
      have jr := J93 (0 : Int32) m0_43 _ _ ls h hP hD hS hl
      exact jr
  have J0 : ∀ (n : Nat) (s0 : Mem) (H : Heap) (locs : List Loc) (ls : Array Slot), fX9_next_b0 n s0 = some z0 → va_P D vwCl (wX9 a0 c s0) H → va_D A (wX9 a0 c s0) → va_S A s.heap H locs → lv_has ls 1 [(0, .ref (a0 0))] → W p l e rmX9_next s m args below meth cd H locs 0 0 Q (F0 m 0 ls []) := by
    intro n
    induction n with
    | zero =>
      intro s0 H locs ls h _ _ _ _
      cases (show (none : Option (Mem)) = some _ from h)
    | succ n K0h =>
      intro s0 H locs ls h hP hD hS hl
      rw [fX9_next_b0] at h
      refine lv_aload_n (pc := 0) hx hb dX9_next_0 rfl (lv_at hl 0 rfl) ?_
      refine va_get (D := D) (ci := 9) (v := .int (s0.1 7 0)) (C := RX9) (T := TX9) (N := 24) (pc := 1) hx hb hfX9 (fun _ h9 => h9) hown hK hP 0 rfl rfl 7 (by decide) lk0 (fun _ h9 => h9) rfl dX9_next_1 ?_
      refine lv_aload_n (pc := 4) hx hb dX9_next_4 rfl (lv_at hl 0 rfl) ?_
      refine va_get (D := D) (ci := 9) (v := .int (s0.1 6 0)) (C := RX9) (T := TX9) (N := 24) (pc := 5) hx hb hfX9 (fun _ h9 => h9) hown hK hP 0 rfl rfl 6 (by decide) lk1 (fun _ h9 => h9) rfl dX9_next_5 ?_
      refine lv_icmp_ge (tgt := 38) (pc := 8) hx hb dX9_next_8 (by decide) (fun c8 => ?_) (fun c8 => ?_)
      · replace h := it_t c8 h
        have jr := J38 s0 _ _ ls h hP hD hS hl
        exact jr
      · replace h := it_f c8 h
        refine lv_aload_n (pc := 11) hx hb dX9_next_11 rfl (lv_at hl 0 rfl) ?_
        refine va_get (D := D) (ci := 9) (v := .ref (a0 4)) (C := RX9) (T := TX9) (N := 24) (pc := 12) hx hb hfX9 (fun _ h9 => h9) hown hK hP 0 rfl rfl 5 (by decide) lk4 (fun _ h9 => h9) rfl dX9_next_12 ?_
        refine lv_aload_n (pc := 15) hx hb dX9_next_15 rfl (lv_at hl 0 rfl) ?_
        refine va_get (D := D) (ci := 9) (v := .int (s0.1 7 0)) (C := RX9) (T := TX9) (N := 24) (pc := 16) hx hb hfX9 (fun _ h9 => h9) hown hK hP 0 rfl rfl 7 (by decide) lk0 (fun _ h9 => h9) rfl dX9_next_16 ?_
        obtain ⟨hk19, h⟩ := ckI_i h
        refine va_iald (D := D) (f := (s0.1 5)) (pc := 19) hx hb hK hP 4 0 rfl rfl hk19 dX9_next_19 ?_
        refine lv_bipush (v := 32) (pc := 20) hx hb dX9_next_20 (by decide) ?_
        refine lv_icmp_ne (tgt := 38) (pc := 22) hx hb dX9_next_22 (by decide) (fun c22 => ?_) (fun c22 => ?_)
        · replace h := it_f c22 h
          have jr := J38 s0 _ _ ls h hP hD hS hl
          exact jr
        · replace h := it_t c22 h
          refine lv_aload_n (pc := 25) hx hb dX9_next_25 rfl (lv_at hl 0 rfl) ?_
          refine lv_dup (pc := 26) hx hb dX9_next_26 rfl ?_
          refine va_get (D := D) (ci := 9) (v := .int (s0.1 7 0)) (C := RX9) (T := TX9) (N := 24) (pc := 27) hx hb hfX9 (fun _ h9 => h9) hown hK hP 0 rfl rfl 7 (by decide) lk0 (fun _ h9 => h9) rfl dX9_next_27 ?_
          refine lv_iconst (v := 1) (pc := 30) hx hb dX9_next_30 (by decide) ?_
          refine lv_iadd (pc := 31) hx hb dX9_next_31 ?_
          refine va_put (D := D) (ci := 9) (v := .int ((s0.1 7 0) + (1 : Int32))) (ty := .int) (C := RX9) (T := TX9) (N := 24) (pc := 32) hx hb hfX9 (fun _ h9 => h9) tyX9 tyX9_ok nmX9 hown hK hP hD hS 0 rfl rfl 7 (by decide) lk0 (fun _ h9 => h9) rfl (by decide +kernel) rfl rfl (Nat.le_of_ble_eq_true rfl) dX9_next_32 (fun H locs hP hD hS => ?_)
          obtain ⟨m0_32, em0_32, h⟩ := lt_i h
          have hP : va_P D vwCl (wX9 a0 c m0_32) H := by rw [em0_32]; exact hP
          have hD : va_D A (wX9 a0 c m0_32) := by rw [em0_32]; exact hD
          refine lv_goto (tgt := 0) (pc := 35) hx hb dX9_next_35 (by decide) ?_
          have jr := K0h m0_32 _ _ ls h hP hD hS hl
          exact jr
  have jr := J0 FU s0 _ _ ls h hP hD hS hl
  exact jr
abbrev rmX9_isWord : Room := { frames := 0, cells := 0, slots := 0, locals := 0 }
set_option maxRecDepth 100000 in
set_option maxHeartbeats 40000000 in
theorem cX9_isWord_met (l : Launch) (D : va_G) (c : Nat → ClassId) (a0 : Nat → Nat) (p0 : Int32) (s0 : Mem) (r0 : Int32) (h : fX9_isWord p0 s0 = some r0) : gM l yX9_isWord wsX9_isWord rmX9_isWord D (gY c) gT [.ref (a0 0), .int p0] (wX9 a0 c s0) (some (.int r0)) (wX9 a0 c s0) := by
  unfold fX9_isWord at h
  refine gM.I (cc := cX9_isWord) (maxL := 3) (by decide) rfl (Nat.le_of_ble_eq_true rfl) ?_
  intro p e s m args below meth cd hx hb hml hown hts A hA ls hl hP hK hD hS hE Q KR0
  have hfX9 : ∀ w ∈ u_ws RX9 TX9 24, w.before args s = true := fun w hw => hts w (List.mem_cons_of_mem _ (List.mem_append_right _ hw))
  have lk0 := hts (.fieldLink RX9 88 "GlitchNetsModel" "token" "I") (List.mem_of_getElem? (i := 1) rfl)
  have lk1 := hts (.fieldLink RX9 76 "GlitchNetsModel" "at" "I") (List.mem_of_getElem? (i := 2) rfl)
  have lk2 := hts (.fieldLink RX9 79 "GlitchNetsModel" "from" "I") (List.mem_of_getElem? (i := 3) rfl)
  have lk3 := hts (.fieldLink RX9 22 "GlitchNetsModel" "words" "[C") (List.mem_of_getElem? (i := 4) rfl)
  have lk4 := hts (.fieldLink RX9 19 "GlitchNetsModel" "tape" "[I") (List.mem_of_getElem? (i := 5) rfl)
  have KR : ∀ (v : Int32)  (H : Heap) (locs : List Loc) (pc : Nat) (ls : Array Slot), some v = some r0 → narrow .boolean (.int v) = .int v → va_P D vwCl (wX9 a0 c s0) H → va_D A (wX9 a0 c s0) → va_S A s.heap H locs → decode cX9_isWord pc = .ok (.ireturn, 1) → W p l e rmX9_isWord s m args below meth cd H locs 0 0 Q (F0 m pc ls [.int v]) := by
    intro v  H locs pc ls hr hn hP hD hS hd
    cases hr
    exact KR0 _ H locs pc ls rfl hn hP hD hS hd
  have hl : lv_has ls 3 [(0, .ref (a0 0)), (1, .int p0)] := hl
  have J69 : ∀ (K25 : Int32 → Int32 → Option (Int32)) (K25h : ∀ (x1 : Int32) (x2 : Int32) (H : Heap) (locs : List Loc) (ls : Array Slot), K25 x1 x2 = some r0 → va_P D vwCl (wX9 a0 c s0) H → va_D A (wX9 a0 c s0) → va_S A s.heap H locs → lv_has ls 3 [(0, .ref (a0 0)), (1, .int x1), (2, .int x2)] → W p l e rmX9_isWord s m args below meth cd H locs 0 0 Q (F0 m 25 ls [])) (x1 : Int32) (x2 : Int32) (y0 : Int32) (y1 : Int32) (H : Heap) (locs : List Loc) (ls : Array Slot), fX9_isWord_b69 K25 s0 x1 x2 y0 y1 = some r0 → va_P D vwCl (wX9 a0 c s0) H → va_D A (wX9 a0 c s0) → va_S A s.heap H locs → lv_has ls 3 [(0, .ref (a0 0)), (1, .int x1), (2, .int x2)] → W p l e rmX9_isWord s m args below meth cd H locs 0 0 Q (F0 m 69 ls [.int y0, .int y1]) := by
    intro K25 K25h x1 x2 y0 y1 H locs ls h hP hD hS hl
    unfold fX9_isWord_b69 at h
    refine lv_icmp_eq (tgt := 74) (pc := 69) hx hb dX9_isWord_69 (by decide) (fun c69 => ?_) (fun c69 => ?_)
    · replace h := it_t c69 h
      obtain ⟨v2_74, ev2_74, h⟩ := lt_i h
      refine lv_iinc (v := v2_74) (lv' := [(2, .int v2_74), (0, .ref (a0 0)), (1, .int x1)]) (pc := 74) hx hb dX9_isWord_74 hl (k := 2) rfl (by rw [ev2_74]; rfl) (by decide) rfl (fun ls hl => ?_)
      refine lv_goto (tgt := 25) (pc := 77) hx hb dX9_isWord_77 (by decide) ?_
      have jr := K25h x1 v2_74 _ _ ls h hP hD hS (lv_sub hl [1, 2, 0] rfl)
      exact jr
    · replace h := it_f c69 h
      refine lv_iconst (v := 0) (pc := 72) hx hb dX9_isWord_72 (by decide) ?_
      have kr := KR (0 : Int32)  _ _ 73 ls h rfl hP hD hS dX9_isWord_73
      exact kr
  have J25 : ∀ (n : Nat) (x1 : Int32) (x2 : Int32) (H : Heap) (locs : List Loc) (ls : Array Slot), fX9_isWord_b25 s0 n x1 x2 = some r0 → va_P D vwCl (wX9 a0 c s0) H → va_D A (wX9 a0 c s0) → va_S A s.heap H locs → lv_has ls 3 [(0, .ref (a0 0)), (1, .int x1), (2, .int x2)] → W p l e rmX9_isWord s m args below meth cd H locs 0 0 Q (F0 m 25 ls []) := by
    intro n
    induction n with
    | zero =>
      intro x1 x2 H locs ls h _ _ _ _
      cases (show (none : Option (Int32)) = some _ from h)
    | succ n K25h =>
      intro x1 x2 H locs ls h hP hD hS hl
      rw [fX9_isWord_b25] at h
      refine lv_iload_n (pc := 25) hx hb dX9_isWord_25 rfl (lv_at hl 2 rfl) ?_
      refine lv_iconst (v := 4) (pc := 26) hx hb dX9_isWord_26 (by decide) ?_
      refine lv_icmp_ge (tgt := 80) (pc := 27) hx hb dX9_isWord_27 (by decide) (fun c27 => ?_) (fun c27 => ?_)
      · replace h := it_t c27 h
        refine lv_iconst (v := 1) (pc := 80) hx hb dX9_isWord_80 (by decide) ?_
        have kr := KR (1 : Int32)  _ _ 81 ls h rfl hP hD hS dX9_isWord_81
        exact kr
      · replace h := it_f c27 h
        refine lv_aload_n (pc := 30) hx hb dX9_isWord_30 rfl (lv_at hl 0 rfl) ?_
        refine va_get (D := D) (ci := 9) (v := .ref (a0 5)) (C := RX9) (T := TX9) (N := 24) (pc := 31) hx hb hfX9 (fun _ h9 => h9) hown hK hP 0 rfl rfl 10 (by decide) lk3 (fun _ h9 => h9) rfl dX9_isWord_31 ?_
        refine lv_iconst (v := 4) (pc := 34) hx hb dX9_isWord_34 (by decide) ?_
        refine lv_iload_n (pc := 35) hx hb dX9_isWord_35 rfl (lv_at hl 1 rfl) ?_
        refine lv_imul (pc := 36) hx hb dX9_isWord_36 ?_
        refine lv_iload_n (pc := 37) hx hb dX9_isWord_37 rfl (lv_at hl 2 rfl) ?_
        refine lv_iadd (pc := 38) hx hb dX9_isWord_38 ?_
        obtain ⟨hk39, h⟩ := ckI_i h
        refine va_cald (D := D) (f := (s0.1 10)) (pc := 39) hx hb hK hP 5 2 rfl rfl hk39 dX9_isWord_39 ?_
        refine lv_aload_n (pc := 40) hx hb dX9_isWord_40 rfl (lv_at hl 0 rfl) ?_
        refine va_get (D := D) (ci := 9) (v := .int (s0.1 8 0)) (C := RX9) (T := TX9) (N := 24) (pc := 41) hx hb hfX9 (fun _ h9 => h9) hown hK hP 0 rfl rfl 8 (by decide) lk2 (fun _ h9 => h9) rfl dX9_isWord_41 ?_
        refine lv_iload_n (pc := 44) hx hb dX9_isWord_44 rfl (lv_at hl 2 rfl) ?_
        refine lv_iadd (pc := 45) hx hb dX9_isWord_45 ?_
        refine lv_aload_n (pc := 46) hx hb dX9_isWord_46 rfl (lv_at hl 0 rfl) ?_
        refine va_get (D := D) (ci := 9) (v := .int (s0.1 7 0)) (C := RX9) (T := TX9) (N := 24) (pc := 47) hx hb hfX9 (fun _ h9 => h9) hown hK hP 0 rfl rfl 7 (by decide) lk1 (fun _ h9 => h9) rfl dX9_isWord_47 ?_
        refine lv_icmp_ge (tgt := 67) (pc := 50) hx hb dX9_isWord_50 (by decide) (fun c50 => ?_) (fun c50 => ?_)
        · replace h := it_t c50 h
          refine lv_bipush (v := 32) (pc := 67) hx hb dX9_isWord_67 (by decide) ?_
          have jr := J69 (fX9_isWord_b25 s0 n) K25h x1 x2 (32 : Int32) (((s0.1 10) ((((4 : Int32) * x1) + x2)).toNatClampNeg)) _ _ ls h hP hD hS hl
          exact jr
        · replace h := it_f c50 h
          refine lv_aload_n (pc := 53) hx hb dX9_isWord_53 rfl (lv_at hl 0 rfl) ?_
          refine va_get (D := D) (ci := 9) (v := .ref (a0 4)) (C := RX9) (T := TX9) (N := 24) (pc := 54) hx hb hfX9 (fun _ h9 => h9) hown hK hP 0 rfl rfl 5 (by decide) lk4 (fun _ h9 => h9) rfl dX9_isWord_54 ?_
          refine lv_aload_n (pc := 57) hx hb dX9_isWord_57 rfl (lv_at hl 0 rfl) ?_
          refine va_get (D := D) (ci := 9) (v := .int (s0.1 8 0)) (C := RX9) (T := TX9) (N := 24) (pc := 58) hx hb hfX9 (fun _ h9 => h9) hown hK hP 0 rfl rfl 8 (by decide) lk2 (fun _ h9 => h9) rfl dX9_isWord_58 ?_
          refine lv_iload_n (pc := 61) hx hb dX9_isWord_61 rfl (lv_at hl 2 rfl) ?_
          refine lv_iadd (pc := 62) hx hb dX9_isWord_62 ?_
          obtain ⟨hk63, h⟩ := ckI_i h
          refine va_iald (D := D) (f := (s0.1 5)) (pc := 63) hx hb hK hP 4 0 rfl rfl hk63 dX9_isWord_63 ?_
          refine lv_goto (tgt := 69) (pc := 64) hx hb dX9_isWord_64 (by decide) ?_
          have jr := J69 (fX9_isWord_b25 s0 n) K25h x1 x2 (((s0.1 5) (((s0.1 8 0) + x2)).toNatClampNeg)) (((s0.1 10) ((((4 : Int32) * x1) + x2)).toNatClampNeg)) _ _ ls h hP hD hS hl
          exact jr
  refine lv_aload_n (pc := 0) hx hb dX9_isWord_0 rfl (lv_at hl 0 rfl) ?_
  refine va_get (D := D) (ci := 9) (v := .int (s0.1 9 0)) (C := RX9) (T := TX9) (N := 24) (pc := 1) hx hb hfX9 (fun _ h9 => h9) hown hK hP 0 rfl rfl 9 (by decide) lk0 (fun _ h9 => h9) rfl dX9_isWord_1 ?_
  refine lv_iconst (v := 1) (pc := 4) hx hb dX9_isWord_4 (by decide) ?_
  refine lv_icmp_ne (tgt := 21) (pc := 5) hx hb dX9_isWord_5 (by decide) (fun c5 => ?_) (fun c5 => ?_)
  · replace h := it_f c5 h
    refine lv_iconst (v := 0) (pc := 21) hx hb dX9_isWord_21 (by decide) ?_
    have kr := KR (0 : Int32)  _ _ 22 ls h rfl hP hD hS dX9_isWord_22
    exact kr
  · replace h := it_t c5 h
    refine lv_aload_n (pc := 8) hx hb dX9_isWord_8 rfl (lv_at hl 0 rfl) ?_
    refine va_get (D := D) (ci := 9) (v := .int (s0.1 7 0)) (C := RX9) (T := TX9) (N := 24) (pc := 9) hx hb hfX9 (fun _ h9 => h9) hown hK hP 0 rfl rfl 7 (by decide) lk1 (fun _ h9 => h9) rfl dX9_isWord_9 ?_
    refine lv_aload_n (pc := 12) hx hb dX9_isWord_12 rfl (lv_at hl 0 rfl) ?_
    refine va_get (D := D) (ci := 9) (v := .int (s0.1 8 0)) (C := RX9) (T := TX9) (N := 24) (pc := 13) hx hb hfX9 (fun _ h9 => h9) hown hK hP 0 rfl rfl 8 (by decide) lk2 (fun _ h9 => h9) rfl dX9_isWord_13 ?_
    refine lv_isub (pc := 16) hx hb dX9_isWord_16 ?_
    refine lv_iconst (v := 4) (pc := 17) hx hb dX9_isWord_17 (by decide) ?_
    refine lv_icmp_le (tgt := 23) (pc := 18) hx hb dX9_isWord_18 (by decide) (fun c18 => ?_) (fun c18 => ?_)
    · replace h := it_t c18 h
      refine lv_iconst (v := 0) (pc := 23) hx hb dX9_isWord_23 (by decide) ?_
      refine lv_istore_n (lv' := [(2, .int (0 : Int32)), (0, .ref (a0 0)), (1, .int p0)]) (pc := 24) hx hb dX9_isWord_24 rfl hl (by decide) rfl (fun ls hl => ?_)
      have jr := J25 FU p0 (0 : Int32) _ _ ls h hP hD hS (lv_sub hl [1, 2, 0] rfl)
      exact jr
    · replace h := it_f c18 h
      refine lv_iconst (v := 0) (pc := 21) hx hb dX9_isWord_21 (by decide) ?_
      have kr := KR (0 : Int32)  _ _ 22 ls h rfl hP hD hS dX9_isWord_22
      exact kr
abbrev rmX9_word : Room := { frames := 1, cells := 0, slots := 0, locals := 22 }
set_option maxRecDepth 100000 in
set_option maxHeartbeats 40000000 in
theorem cX9_word_met (l : Launch) (D : va_G) (c : Nat → ClassId) (a0 : Nat → Nat) (s0 : Mem) (r0 : Int32) (h : fX9_word s0 = some r0) : gM l yX9_word wsX9_word rmX9_word D (gY c) gT [.ref (a0 0)] (wX9 a0 c s0) (some (.int r0)) (wX9 a0 c s0) := by
  unfold fX9_word at h
  refine gM.I (cc := cX9_word) (maxL := 2) (by decide) rfl (Nat.le_of_ble_eq_true rfl) ?_
  intro p e s m args below meth cd hx hb hml hown hts A hA ls hl hP hK hD hS hE Q KR0
  have KR : ∀ (v : Int32)  (H : Heap) (locs : List Loc) (pc : Nat) (ls : Array Slot), some v = some r0 → narrow .int (.int v) = .int v → va_P D vwCl (wX9 a0 c s0) H → va_D A (wX9 a0 c s0) → va_S A s.heap H locs → decode cX9_word pc = .ok (.ireturn, 1) → W p l e rmX9_word s m args below meth cd H locs 0 0 Q (F0 m pc ls [.int v]) := by
    intro v  H locs pc ls hr hn hP hD hS hd
    cases hr
    exact KR0 _ H locs pc ls rfl hn hP hD hS hd
  have hl : lv_has ls 2 [(0, .ref (a0 0))] := hl
  have J2 : ∀ (n : Nat) (x1 : Int32) (H : Heap) (locs : List Loc) (ls : Array Slot), fX9_word_b2 s0 n x1 = some r0 → va_P D vwCl (wX9 a0 c s0) H → va_D A (wX9 a0 c s0) → va_S A s.heap H locs → lv_has ls 2 [(0, .ref (a0 0)), (1, .int x1)] → W p l e rmX9_word s m args below meth cd H locs 0 0 Q (F0 m 2 ls []) := by
    intro n
    induction n with
    | zero =>
      intro x1 H locs ls h _ _ _ _
      cases (show (none : Option (Int32)) = some _ from h)
    | succ n K2h =>
      intro x1 H locs ls h hP hD hS hl
      rw [fX9_word_b2] at h
      refine lv_iload_n (pc := 2) hx hb dX9_word_2 rfl (lv_at hl 1 rfl) ?_
      refine lv_bipush (v := 6) (pc := 3) hx hb dX9_word_3 (by decide) ?_
      refine lv_icmp_ge (tgt := 24) (pc := 5) hx hb dX9_word_5 (by decide) (fun c5 => ?_) (fun c5 => ?_)
      · replace h := it_t c5 h
        refine lv_iconst (v := -1) (pc := 24) hx hb dX9_word_24 (by decide) ?_
        have kr := KR (-1 : Int32)  _ _ 25 ls h rfl hP hD hS dX9_word_25
        exact kr
      · replace h := it_f c5 h
        refine lv_aload_n (pc := 8) hx hb dX9_word_8 rfl (lv_at hl 0 rfl) ?_
        refine lv_iload_n (pc := 9) hx hb dX9_word_9 rfl (lv_at hl 1 rfl) ?_
        obtain ⟨r10, hc10, h⟩ := b1_i h
        refine g_all (st1 := [.int r10]) (gr_V (n := 1) (rest := []) (pc := 10) hx hb hml hown hts (cX9_isWord_met l D c a0 x1 s0 _ hc10) gX9_word_X9_isWord rfl rfl rfl (by decide +kernel) rfl ⟨Nat.le_of_ble_eq_true rfl, Nat.le_of_ble_eq_true rfl⟩ ⟨Nat.zero_le _, Nat.zero_le _⟩ 0 9 rfl rfl rfl gT_ok hP hD hK (fun _ _ _ => trivial) hl.1 (Nat.le_of_ble_eq_true rfl) dX9_word_10 rfl) hD hS hA rfl (fun H locs hP hD hS => ?_)
        refine lv_if_eq (tgt := 18) (pc := 13) hx hb dX9_word_13 (by decide) (fun c13 => ?_) (fun c13 => ?_)
        · replace h := it_t c13 h
          obtain ⟨v1_18, ev1_18, h⟩ := lt_i h
          refine lv_iinc (v := v1_18) (lv' := [(1, .int v1_18), (0, .ref (a0 0))]) (pc := 18) hx hb dX9_word_18 hl (k := 1) rfl (by rw [ev1_18]; rfl) (by decide) rfl (fun ls hl => ?_)
          refine lv_goto (tgt := 2) (pc := 21) hx hb dX9_word_21 (by decide) ?_
          have jr := K2h v1_18 _ _ ls h hP hD hS (lv_sub hl [1, 0] rfl)
          exact jr
        · replace h := it_f c13 h
          refine lv_iload_n (pc := 16) hx hb dX9_word_16 rfl (lv_at hl 1 rfl) ?_
          have kr := KR x1  _ _ 17 ls h rfl hP hD hS dX9_word_17
          exact kr
  refine lv_iconst (v := 0) (pc := 0) hx hb dX9_word_0 (by decide) ?_
  refine lv_istore_n (lv' := [(1, .int (0 : Int32)), (0, .ref (a0 0))]) (pc := 1) hx hb dX9_word_1 rfl hl (by decide) rfl (fun ls hl => ?_)
  have jr := J2 FU (0 : Int32) _ _ ls h hP hD hS (lv_sub hl [1, 0] rfl)
  exact jr
abbrev rmX9_number : Room := { frames := 0, cells := 0, slots := 0, locals := 0 }
set_option maxRecDepth 100000 in
set_option maxHeartbeats 40000000 in
theorem cX9_number_met (l : Launch) (D : va_G) (c : Nat → ClassId) (a0 : Nat → Nat) (s0 : Mem) (r0 : Int32) (h : fX9_number s0 = some r0) : gM l yX9_number wsX9_number rmX9_number D (gY c) gT [.ref (a0 0)] (wX9 a0 c s0) (some (.int r0)) (wX9 a0 c s0) := by
  unfold fX9_number at h
  refine gM.I (cc := cX9_number) (maxL := 3) (by decide) rfl (Nat.le_of_ble_eq_true rfl) ?_
  intro p e s m args below meth cd hx hb hml hown hts A hA ls hl hP hK hD hS hE Q KR0
  have hfX9 : ∀ w ∈ u_ws RX9 TX9 24, w.before args s = true := fun w hw => hts w (List.mem_cons_of_mem _ (List.mem_append_right _ hw))
  have lk0 := hts (.fieldLink RX9 88 "GlitchNetsModel" "token" "I") (List.mem_of_getElem? (i := 1) rfl)
  have lk1 := hts (.fieldLink RX9 76 "GlitchNetsModel" "at" "I") (List.mem_of_getElem? (i := 2) rfl)
  have lk2 := hts (.fieldLink RX9 79 "GlitchNetsModel" "from" "I") (List.mem_of_getElem? (i := 3) rfl)
  have lk3 := hts (.fieldLink RX9 19 "GlitchNetsModel" "tape" "[I") (List.mem_of_getElem? (i := 4) rfl)
  have KR : ∀ (v : Int32)  (H : Heap) (locs : List Loc) (pc : Nat) (ls : Array Slot), some v = some r0 → narrow .int (.int v) = .int v → va_P D vwCl (wX9 a0 c s0) H → va_D A (wX9 a0 c s0) → va_S A s.heap H locs → decode cX9_number pc = .ok (.ireturn, 1) → W p l e rmX9_number s m args below meth cd H locs 0 0 Q (F0 m pc ls [.int v]) := by
    intro v  H locs pc ls hr hn hP hD hS hd
    cases hr
    exact KR0 _ H locs pc ls rfl hn hP hD hS hd
  have hl : lv_has ls 3 [(0, .ref (a0 0))] := hl
  have J30 : ∀ (n : Nat) (x1 : Int32) (x2 : Int32) (H : Heap) (locs : List Loc) (ls : Array Slot), fX9_number_b30 s0 n x1 x2 = some r0 → va_P D vwCl (wX9 a0 c s0) H → va_D A (wX9 a0 c s0) → va_S A s.heap H locs → lv_has ls 3 [(0, .ref (a0 0)), (1, .int x1), (2, .int x2)] → W p l e rmX9_number s m args below meth cd H locs 0 0 Q (F0 m 30 ls []) := by
    intro n
    induction n with
    | zero =>
      intro x1 x2 H locs ls h _ _ _ _
      cases (show (none : Option (Int32)) = some _ from h)
    | succ n K30h =>
      intro x1 x2 H locs ls h hP hD hS hl
      rw [fX9_number_b30] at h
      refine lv_iload_n (pc := 30) hx hb dX9_number_30 rfl (lv_at hl 2 rfl) ?_
      refine lv_aload_n (pc := 31) hx hb dX9_number_31 rfl (lv_at hl 0 rfl) ?_
      refine va_get (D := D) (ci := 9) (v := .int (s0.1 7 0)) (C := RX9) (T := TX9) (N := 24) (pc := 32) hx hb hfX9 (fun _ h9 => h9) hown hK hP 0 rfl rfl 7 (by decide) lk1 (fun _ h9 => h9) rfl dX9_number_32 ?_
      refine lv_icmp_ge (tgt := 59) (pc := 35) hx hb dX9_number_35 (by decide) (fun c35 => ?_) (fun c35 => ?_)
      · replace h := it_t c35 h
        refine lv_iload_n (pc := 59) hx hb dX9_number_59 rfl (lv_at hl 1 rfl) ?_
        have kr := KR x1  _ _ 60 ls h rfl hP hD hS dX9_number_60
        exact kr
      · replace h := it_f c35 h
        refine lv_bipush (v := 10) (pc := 38) hx hb dX9_number_38 (by decide) ?_
        refine lv_iload_n (pc := 40) hx hb dX9_number_40 rfl (lv_at hl 1 rfl) ?_
        refine lv_imul (pc := 41) hx hb dX9_number_41 ?_
        refine lv_aload_n (pc := 42) hx hb dX9_number_42 rfl (lv_at hl 0 rfl) ?_
        refine va_get (D := D) (ci := 9) (v := .ref (a0 4)) (C := RX9) (T := TX9) (N := 24) (pc := 43) hx hb hfX9 (fun _ h9 => h9) hown hK hP 0 rfl rfl 5 (by decide) lk3 (fun _ h9 => h9) rfl dX9_number_43 ?_
        refine lv_iload_n (pc := 46) hx hb dX9_number_46 rfl (lv_at hl 2 rfl) ?_
        obtain ⟨hk47, h⟩ := ckI_i h
        refine va_iald (D := D) (f := (s0.1 5)) (pc := 47) hx hb hK hP 4 0 rfl rfl hk47 dX9_number_47 ?_
        refine lv_iadd (pc := 48) hx hb dX9_number_48 ?_
        refine lv_bipush (v := 48) (pc := 49) hx hb dX9_number_49 (by decide) ?_
        refine lv_isub (pc := 51) hx hb dX9_number_51 ?_
        refine lv_topi (fun v1_52 ev1_52 => ?_)
        replace h := lt_e ev1_52 h
        refine lv_istore_n (lv' := [(1, .int v1_52), (0, .ref (a0 0)), (2, .int x2)]) (pc := 52) hx hb dX9_number_52 rfl hl (by decide) rfl (fun ls hl => ?_)
        obtain ⟨v2_53, ev2_53, h⟩ := lt_i h
        refine lv_iinc (v := v2_53) (lv' := [(2, .int v2_53), (1, .int v1_52), (0, .ref (a0 0))]) (pc := 53) hx hb dX9_number_53 hl (k := 2) rfl (by rw [ev2_53]; rfl) (by decide) rfl (fun ls hl => ?_)
        refine lv_goto (tgt := 30) (pc := 56) hx hb dX9_number_56 (by decide) ?_
        have jr := K30h v1_52 v2_53 _ _ ls h hP hD hS (lv_sub hl [2, 1, 0] rfl)
        exact jr
  refine lv_aload_n (pc := 0) hx hb dX9_number_0 rfl (lv_at hl 0 rfl) ?_
  refine va_get (D := D) (ci := 9) (v := .int (s0.1 9 0)) (C := RX9) (T := TX9) (N := 24) (pc := 1) hx hb hfX9 (fun _ h9 => h9) hown hK hP 0 rfl rfl 9 (by decide) lk0 (fun _ h9 => h9) rfl dX9_number_1 ?_
  refine lv_iconst (v := 2) (pc := 4) hx hb dX9_number_4 (by decide) ?_
  refine lv_icmp_ne (tgt := 21) (pc := 5) hx hb dX9_number_5 (by decide) (fun c5 => ?_) (fun c5 => ?_)
  · replace h := it_f c5 h
    refine lv_iconst (v := -1) (pc := 21) hx hb dX9_number_21 (by decide) ?_
    have kr := KR (-1 : Int32)  _ _ 22 ls h rfl hP hD hS dX9_number_22
    exact kr
  · replace h := it_t c5 h
    refine lv_aload_n (pc := 8) hx hb dX9_number_8 rfl (lv_at hl 0 rfl) ?_
    refine va_get (D := D) (ci := 9) (v := .int (s0.1 7 0)) (C := RX9) (T := TX9) (N := 24) (pc := 9) hx hb hfX9 (fun _ h9 => h9) hown hK hP 0 rfl rfl 7 (by decide) lk1 (fun _ h9 => h9) rfl dX9_number_9 ?_
    refine lv_aload_n (pc := 12) hx hb dX9_number_12 rfl (lv_at hl 0 rfl) ?_
    refine va_get (D := D) (ci := 9) (v := .int (s0.1 8 0)) (C := RX9) (T := TX9) (N := 24) (pc := 13) hx hb hfX9 (fun _ h9 => h9) hown hK hP 0 rfl rfl 8 (by decide) lk2 (fun _ h9 => h9) rfl dX9_number_13 ?_
    refine lv_isub (pc := 16) hx hb dX9_number_16 ?_
    refine lv_iconst (v := 2) (pc := 17) hx hb dX9_number_17 (by decide) ?_
    refine lv_icmp_le (tgt := 23) (pc := 18) hx hb dX9_number_18 (by decide) (fun c18 => ?_) (fun c18 => ?_)
    · replace h := it_t c18 h
      refine lv_iconst (v := 0) (pc := 23) hx hb dX9_number_23 (by decide) ?_
      refine lv_istore_n (lv' := [(1, .int (0 : Int32)), (0, .ref (a0 0))]) (pc := 24) hx hb dX9_number_24 rfl hl (by decide) rfl (fun ls hl => ?_)
      refine lv_aload_n (pc := 25) hx hb dX9_number_25 rfl (lv_at hl 1 rfl) ?_
      refine va_get (D := D) (ci := 9) (v := .int (s0.1 8 0)) (C := RX9) (T := TX9) (N := 24) (pc := 26) hx hb hfX9 (fun _ h9 => h9) hown hK hP 0 rfl rfl 8 (by decide) lk2 (fun _ h9 => h9) rfl dX9_number_26 ?_
      refine lv_topi (fun v2_29 ev2_29 => ?_)
      replace h := lt_e ev2_29 h
      refine lv_istore_n (lv' := [(2, .int v2_29), (1, .int (0 : Int32)), (0, .ref (a0 0))]) (pc := 29) hx hb dX9_number_29 rfl hl (by decide) rfl (fun ls hl => ?_)
      have jr := J30 FU (0 : Int32) v2_29 _ _ ls h hP hD hS (lv_sub hl [2, 1, 0] rfl)
      exact jr
    · replace h := it_f c18 h
      refine lv_iconst (v := -1) (pc := 21) hx hb dX9_number_21 (by decide) ?_
      have kr := KR (-1 : Int32)  _ _ 22 ls h rfl hP hD hS dX9_number_22
      exact kr
abbrev rmX9_readsSource : Room := { frames := 3, cells := 0, slots := 0, locals := 63 }
set_option maxRecDepth 100000 in
set_option maxHeartbeats 40000000 in
theorem cX9_readsSource_met (l : Launch) (D : va_G) (c : Nat → ClassId) (a0 : Nat → Nat) (p0 : Int32) (s0 : Mem) (r0 : Int32) (z0 : Mem) (h : fX9_readsSource p0 s0 = some (r0, z0)) : gM l yX9_readsSource wsX9_readsSource rmX9_readsSource D (gY c) gT [.ref (a0 0), .int p0] (wX9 a0 c s0) (some (.int r0)) (wX9 a0 c z0) := by
  unfold fX9_readsSource at h
  refine gM.I (cc := cX9_readsSource) (maxL := 3) (by decide) rfl (Nat.le_of_ble_eq_true rfl) ?_
  intro p e s m args below meth cd hx hb hml hown hts A hA ls hl hP hK hD hS hE Q KR0
  have hfX9 : ∀ w ∈ u_ws RX9 TX9 24, w.before args s = true := fun w hw => hts w (List.mem_cons_of_mem _ (List.mem_append_right _ hw))
  have lk0 := hts (.fieldLink RX9 88 "GlitchNetsModel" "token" "I") (List.mem_of_getElem? (i := 1) rfl)
  have lk1 := hts (.fieldLink RX9 26 "GlitchNetsModel" "read" "[I") (List.mem_of_getElem? (i := 5) rfl)
  have lk2 := hts (.fieldLink RX9 19 "GlitchNetsModel" "tape" "[I") (List.mem_of_getElem? (i := 4) rfl)
  have lk3 := hts (.fieldLink RX9 79 "GlitchNetsModel" "from" "I") (List.mem_of_getElem? (i := 3) rfl)
  have lk4 := hts (.fieldLink RX9 76 "GlitchNetsModel" "at" "I") (List.mem_of_getElem? (i := 2) rfl)
  have KR : ∀ (v : Int32) (w0 : Mem) (H : Heap) (locs : List Loc) (pc : Nat) (ls : Array Slot), some (v, w0) = some (r0, z0) → narrow .boolean (.int v) = .int v → va_P D vwCl (wX9 a0 c w0) H → va_D A (wX9 a0 c w0) → va_S A s.heap H locs → decode cX9_readsSource pc = .ok (.ireturn, 1) → W p l e rmX9_readsSource s m args below meth cd H locs 0 0 Q (F0 m pc ls [.int v]) := by
    intro v w0 H locs pc ls hr hn hP hD hS hd
    cases hr
    exact KR0 _ H locs pc ls rfl hn hP hD hS hd
  have hl : lv_has ls 3 [(0, .ref (a0 0)), (1, .int p0)] := hl
  have J80 : ∀ (x1 : Int32) (x2 : Int32) (y0 : Int32) (y1 : Int32) (s0 : Mem) (H : Heap) (locs : List Loc) (ls : Array Slot), fX9_readsSource_b80 x1 x2 y0 y1 s0 = some (r0, z0) → va_P D vwCl (wX9 a0 c s0) H → va_D A (wX9 a0 c s0) → va_S A s.heap H locs → lv_has ls 3 [(0, .ref (a0 0)), (1, .int x1), (2, .int x2)] → W p l e rmX9_readsSource s m args below meth cd H locs 0 0 Q (F0 m 80 ls [.int y0, .int y1, .ref (a0 6)]) := by
    intro x1 x2 y0 y1 s0 H locs ls h hP hD hS hl
    unfold fX9_readsSource_b80 at h
    obtain ⟨hk80, h⟩ := ckI_i h
    refine va_iast (D := D) (f := (s0.1 11)) (pc := 80) hx hb hK hP hD hS 6 0 rfl rfl hk80 dX9_readsSource_80 (fun H locs hP hD hS => ?_)
    obtain ⟨m0_80, em0_80, h⟩ := lt_i h
    have hP : va_P D vwCl (wX9 a0 c m0_80) H := by rw [em0_80]; exact hP
    have hD : va_D A (wX9 a0 c m0_80) := by rw [em0_80]; exact hD
    refine lv_iload_n (pc := 81) hx hb dX9_readsSource_81 rfl (lv_at hl 2 rfl) ?_
    refine lv_if_ne (tgt := 98) (pc := 82) hx hb dX9_readsSource_82 (by decide) (fun c82 => ?_) (fun c82 => ?_)
    · replace h := it_f c82 h
      refine lv_iconst (v := 1) (pc := 98) hx hb dX9_readsSource_98 (by decide) ?_
      refine lv_goto (tgt := 103) (pc := 99) hx hb dX9_readsSource_99 (by decide) ?_
      have kr := KR (1 : Int32) m0_80 _ _ 103 ls h rfl hP hD hS dX9_readsSource_103
      exact kr
    · replace h := it_t c82 h
      refine lv_aload_n (pc := 85) hx hb dX9_readsSource_85 rfl (lv_at hl 0 rfl) ?_
      refine lv_aload_n (pc := 86) hx hb dX9_readsSource_86 rfl (lv_at hl 0 rfl) ?_
      refine va_get (D := D) (ci := 9) (v := .ref (a0 6)) (C := RX9) (T := TX9) (N := 24) (pc := 87) hx hb hfX9 (fun _ h9 => h9) hown hK hP 0 rfl rfl 11 (by decide) lk1 (fun _ h9 => h9) rfl dX9_readsSource_87 ?_
      refine lv_iload_n (pc := 90) hx hb dX9_readsSource_90 rfl (lv_at hl 1 rfl) ?_
      obtain ⟨hk91, h⟩ := ckI_i h
      refine va_iald (D := D) (f := (m0_80.1 11)) (pc := 91) hx hb hK hP 6 0 rfl rfl hk91 dX9_readsSource_91 ?_
      obtain ⟨r92, hc92, h⟩ := b1_i h
      refine g_all (st1 := [.int r92]) (gr_V (n := 1) (rest := []) (pc := 92) hx hb hml hown hts (cX9_isGate_met l D c a0 (((m0_80.1 11) (x1).toNatClampNeg)) m0_80 _ hc92) gX9_readsSource_X9_isGate rfl rfl rfl (by decide +kernel) rfl ⟨Nat.le_of_ble_eq_true rfl, Nat.le_of_ble_eq_true rfl⟩ ⟨Nat.zero_le _, Nat.zero_le _⟩ 0 9 rfl rfl rfl gT_ok hP hD hK (fun _ _ _ => trivial) hl.1 (Nat.le_of_ble_eq_true rfl) dX9_readsSource_92 rfl) hD hS hA rfl (fun H locs hP hD hS => ?_)
      refine lv_if_eq (tgt := 102) (pc := 95) hx hb dX9_readsSource_95 (by decide) (fun c95 => ?_) (fun c95 => ?_)
      · replace h := it_t c95 h
        refine lv_iconst (v := 0) (pc := 102) hx hb dX9_readsSource_102 (by decide) ?_
        have kr := KR (0 : Int32) m0_80 _ _ 103 ls h rfl hP hD hS dX9_readsSource_103
        exact kr
      · replace h := it_f c95 h
        refine lv_iconst (v := 1) (pc := 98) hx hb dX9_readsSource_98 (by decide) ?_
        refine lv_goto (tgt := 103) (pc := 99) hx hb dX9_readsSource_99 (by decide) ?_
        have kr := KR (1 : Int32) m0_80 _ _ 103 ls h rfl hP hD hS dX9_readsSource_103
        exact kr
  have J49 : ∀ (x1 : Int32) (y0 : Int32) (s0 : Mem) (H : Heap) (locs : List Loc) (ls : Array Slot), fX9_readsSource_b49 x1 y0 s0 = some (r0, z0) → va_P D vwCl (wX9 a0 c s0) H → va_D A (wX9 a0 c s0) → va_S A s.heap H locs → lv_has ls 3 [(0, .ref (a0 0)), (1, .int x1)] → W p l e rmX9_readsSource s m args below meth cd H locs 0 0 Q (F0 m 49 ls [.int y0]) := by
    intro x1 y0 s0 H locs ls h hP hD hS hl
    unfold fX9_readsSource_b49 at h
    refine lv_istore_n (lv' := [(2, .int y0), (0, .ref (a0 0)), (1, .int x1)]) (pc := 49) hx hb dX9_readsSource_49 rfl hl (by decide) rfl (fun ls hl => ?_)
    refine lv_aload_n (pc := 50) hx hb dX9_readsSource_50 rfl (lv_at hl 1 rfl) ?_
    refine va_get (D := D) (ci := 9) (v := .ref (a0 6)) (C := RX9) (T := TX9) (N := 24) (pc := 51) hx hb hfX9 (fun _ h9 => h9) hown hK hP 0 rfl rfl 11 (by decide) lk1 (fun _ h9 => h9) rfl dX9_readsSource_51 ?_
    refine lv_iload_n (pc := 54) hx hb dX9_readsSource_54 rfl (lv_at hl 2 rfl) ?_
    refine lv_iload_n (pc := 55) hx hb dX9_readsSource_55 rfl (lv_at hl 0 rfl) ?_
    refine lv_if_eq (tgt := 76) (pc := 56) hx hb dX9_readsSource_56 (by decide) (fun c56 => ?_) (fun c56 => ?_)
    · replace h := it_t c56 h
      refine lv_aload_n (pc := 76) hx hb dX9_readsSource_76 rfl (lv_at hl 1 rfl) ?_
      obtain ⟨r77, hc77, h⟩ := b1_i h
      refine g_all (st1 := [.int r77, .int x1, .ref (a0 6)]) (gr_V (n := 0) (rest := [.int x1, .ref (a0 6)]) (pc := 77) hx hb hml hown hts (cX9_number_met l D c a0 s0 _ hc77) gX9_readsSource_X9_number rfl rfl rfl (by decide +kernel) rfl ⟨Nat.le_of_ble_eq_true rfl, Nat.le_of_ble_eq_true rfl⟩ ⟨Nat.zero_le _, Nat.zero_le _⟩ 0 9 rfl rfl rfl gT_ok hP hD hK (fun _ _ _ => trivial) hl.1 (Nat.le_of_ble_eq_true rfl) dX9_readsSource_77 rfl) hD hS hA rfl (fun H locs hP hD hS => ?_)
      have jr := J80 x1 y0 r77 x1 s0 _ _ ls h hP hD hS (lv_sub hl [1, 2, 0] rfl)
      exact jr
    · replace h := it_f c56 h
      refine lv_iconst (v := -1) (pc := 59) hx hb dX9_readsSource_59 (by decide) ?_
      refine lv_aload_n (pc := 60) hx hb dX9_readsSource_60 rfl (lv_at hl 1 rfl) ?_
      refine va_get (D := D) (ci := 9) (v := .ref (a0 4)) (C := RX9) (T := TX9) (N := 24) (pc := 61) hx hb hfX9 (fun _ h9 => h9) hown hK hP 0 rfl rfl 5 (by decide) lk2 (fun _ h9 => h9) rfl dX9_readsSource_61 ?_
      refine lv_aload_n (pc := 64) hx hb dX9_readsSource_64 rfl (lv_at hl 1 rfl) ?_
      refine va_get (D := D) (ci := 9) (v := .int (s0.1 8 0)) (C := RX9) (T := TX9) (N := 24) (pc := 65) hx hb hfX9 (fun _ h9 => h9) hown hK hP 0 rfl rfl 8 (by decide) lk3 (fun _ h9 => h9) rfl dX9_readsSource_65 ?_
      obtain ⟨hk68, h⟩ := ckI_i h
      refine va_iald (D := D) (f := (s0.1 5)) (pc := 68) hx hb hK hP 4 0 rfl rfl hk68 dX9_readsSource_68 ?_
      refine lv_bipush (v := 97) (pc := 69) hx hb dX9_readsSource_69 (by decide) ?_
      refine lv_isub (pc := 71) hx hb dX9_readsSource_71 ?_
      refine lv_isub (pc := 72) hx hb dX9_readsSource_72 ?_
      refine lv_goto (tgt := 80) (pc := 73) hx hb dX9_readsSource_73 (by decide) ?_
      have jr := J80 x1 y0 (((-1 : Int32) - (((s0.1 5) ((s0.1 8 0)).toNatClampNeg) - (97 : Int32)))) x1 s0 _ _ ls h hP hD hS (lv_sub hl [1, 2, 0] rfl)
      exact jr
  have J48 : ∀ (x1 : Int32) (s0 : Mem) (H : Heap) (locs : List Loc) (ls : Array Slot), fX9_readsSource_b48 x1 s0 = some (r0, z0) → va_P D vwCl (wX9 a0 c s0) H → va_D A (wX9 a0 c s0) → va_S A s.heap H locs → lv_has ls 3 [(0, .ref (a0 0)), (1, .int x1)] → W p l e rmX9_readsSource s m args below meth cd H locs 0 0 Q (F0 m 48 ls []) := by
    intro x1 s0 H locs ls h hP hD hS hl
    unfold fX9_readsSource_b48 at h
    refine lv_iconst (v := 0) (pc := 48) hx hb dX9_readsSource_48 (by decide) ?_
    have jr := J49 x1 (0 : Int32) s0 _ _ ls h hP hD hS hl
    exact jr
  refine lv_aload_n (pc := 0) hx hb dX9_readsSource_0 rfl (lv_at hl 0 rfl) ?_
  obtain ⟨t0_1, hc1, h⟩ := b1_i h
  refine g_all (st1 := []) (gr_V (n := 0) (rest := []) (pc := 1) hx hb hml hown hts (cX9_next_met l D c a0 s0 _ hc1) gX9_readsSource_X9_next rfl rfl rfl (by decide +kernel) rfl ⟨Nat.le_of_ble_eq_true rfl, Nat.le_of_ble_eq_true rfl⟩ ⟨Nat.zero_le _, Nat.zero_le _⟩ 0 9 rfl rfl rfl gT_ok hP hD hK (fun _ _ _ => trivial) hl.1 (Nat.le_of_ble_eq_true rfl) dX9_readsSource_1 rfl) hD hS hA rfl (fun H locs hP hD hS => ?_)
  refine lv_aload_n (pc := 4) hx hb dX9_readsSource_4 rfl (lv_at hl 0 rfl) ?_
  refine va_get (D := D) (ci := 9) (v := .int (t0_1.1 9 0)) (C := RX9) (T := TX9) (N := 24) (pc := 5) hx hb hfX9 (fun _ h9 => h9) hown hK hP 0 rfl rfl 9 (by decide) lk0 (fun _ h9 => h9) rfl dX9_readsSource_5 ?_
  refine lv_iconst (v := 1) (pc := 8) hx hb dX9_readsSource_8 (by decide) ?_
  refine lv_icmp_ne (tgt := 48) (pc := 9) hx hb dX9_readsSource_9 (by decide) (fun c9 => ?_) (fun c9 => ?_)
  · replace h := it_f c9 h
    have jr := J48 p0 t0_1 _ _ ls h hP hD hS hl
    exact jr
  · replace h := it_t c9 h
    refine lv_aload_n (pc := 12) hx hb dX9_readsSource_12 rfl (lv_at hl 0 rfl) ?_
    refine va_get (D := D) (ci := 9) (v := .int (t0_1.1 7 0)) (C := RX9) (T := TX9) (N := 24) (pc := 13) hx hb hfX9 (fun _ h9 => h9) hown hK hP 0 rfl rfl 7 (by decide) lk4 (fun _ h9 => h9) rfl dX9_readsSource_13 ?_
    refine lv_aload_n (pc := 16) hx hb dX9_readsSource_16 rfl (lv_at hl 0 rfl) ?_
    refine va_get (D := D) (ci := 9) (v := .int (t0_1.1 8 0)) (C := RX9) (T := TX9) (N := 24) (pc := 17) hx hb hfX9 (fun _ h9 => h9) hown hK hP 0 rfl rfl 8 (by decide) lk3 (fun _ h9 => h9) rfl dX9_readsSource_17 ?_
    refine lv_isub (pc := 20) hx hb dX9_readsSource_20 ?_
    refine lv_iconst (v := 1) (pc := 21) hx hb dX9_readsSource_21 (by decide) ?_
    refine lv_icmp_ne (tgt := 48) (pc := 22) hx hb dX9_readsSource_22 (by decide) (fun c22 => ?_) (fun c22 => ?_)
    · replace h := it_f c22 h
      have jr := J48 p0 t0_1 _ _ ls h hP hD hS hl
      exact jr
    · replace h := it_t c22 h
      refine lv_aload_n (pc := 25) hx hb dX9_readsSource_25 rfl (lv_at hl 0 rfl) ?_
      refine va_get (D := D) (ci := 9) (v := .ref (a0 4)) (C := RX9) (T := TX9) (N := 24) (pc := 26) hx hb hfX9 (fun _ h9 => h9) hown hK hP 0 rfl rfl 5 (by decide) lk2 (fun _ h9 => h9) rfl dX9_readsSource_26 ?_
      refine lv_aload_n (pc := 29) hx hb dX9_readsSource_29 rfl (lv_at hl 0 rfl) ?_
      refine va_get (D := D) (ci := 9) (v := .int (t0_1.1 8 0)) (C := RX9) (T := TX9) (N := 24) (pc := 30) hx hb hfX9 (fun _ h9 => h9) hown hK hP 0 rfl rfl 8 (by decide) lk3 (fun _ h9 => h9) rfl dX9_readsSource_30 ?_
      obtain ⟨hk33, h⟩ := ckI_i h
      refine va_iald (D := D) (f := (t0_1.1 5)) (pc := 33) hx hb hK hP 4 0 rfl rfl hk33 dX9_readsSource_33 ?_
      refine lv_bipush (v := 97) (pc := 34) hx hb dX9_readsSource_34 (by decide) ?_
      refine lv_bipush (v := 100) (pc := 36) hx hb dX9_readsSource_36 (by decide) ?_
      obtain ⟨r38, hc38, h⟩ := b1_i h
      refine g_none (st1 := [.int r38]) (gr_S (n := 3) (rest := []) (pc := 38) hx hb hml hown hts (cX9_isIn_met l D c (((t0_1.1 5) ((t0_1.1 8 0)).toNatClampNeg)) (97 : Int32) (100 : Int32) _ hc38) gX9_readsSource_X9_isIn rfl rfl rfl (by decide +kernel) rfl ⟨Nat.le_of_ble_eq_true rfl, Nat.le_of_ble_eq_true rfl⟩ ⟨Nat.zero_le _, Nat.zero_le _⟩ gT_ok g_P0 (g_D0 (A := A)) hK (fun _ _ _ => trivial) hl.1 (Nat.le_of_ble_eq_true rfl) dX9_readsSource_38 rfl) hP hS hA rfl (fun H locs hP hS => ?_)
      refine lv_if_eq (tgt := 48) (pc := 41) hx hb dX9_readsSource_41 (by decide) (fun c41 => ?_) (fun c41 => ?_)
      · replace h := it_t c41 h
        have jr := J48 p0 t0_1 _ _ ls h hP hD hS hl
        exact jr
      · replace h := it_f c41 h
        refine lv_iconst (v := 1) (pc := 44) hx hb dX9_readsSource_44 (by decide) ?_
        refine lv_goto (tgt := 49) (pc := 45) hx hb dX9_readsSource_45 (by decide) ?_
        have jr := J49 p0 (1 : Int32) t0_1 _ _ ls h hP hD hS hl
        exact jr
abbrev rmX9_readsDelay : Room := { frames := 3, cells := 0, slots := 0, locals := 63 }
set_option maxRecDepth 100000 in
set_option maxHeartbeats 40000000 in
theorem cX9_readsDelay_met (l : Launch) (D : va_G) (c : Nat → ClassId) (a0 : Nat → Nat) (s0 : Mem) (r0 : Int32) (z0 : Mem) (h : fX9_readsDelay s0 = some (r0, z0)) : gM l yX9_readsDelay wsX9_readsDelay rmX9_readsDelay D (gY c) gT [.ref (a0 0)] (wX9 a0 c s0) (some (.int r0)) (wX9 a0 c z0) := by
  unfold fX9_readsDelay at h
  refine gM.I (cc := cX9_readsDelay) (maxL := 1) (by decide) rfl (Nat.le_of_ble_eq_true rfl) ?_
  intro p e s m args below meth cd hx hb hml hown hts A hA ls hl hP hK hD hS hE Q KR0
  have hfX9 : ∀ w ∈ u_ws RX9 TX9 24, w.before args s = true := fun w hw => hts w (List.mem_cons_of_mem _ (List.mem_append_right _ hw))
  have lk0 := hts (.fieldLink RX9 26 "GlitchNetsModel" "read" "[I") (List.mem_of_getElem? (i := 1) rfl)
  have KR : ∀ (v : Int32) (w0 : Mem) (H : Heap) (locs : List Loc) (pc : Nat) (ls : Array Slot), some (v, w0) = some (r0, z0) → narrow .boolean (.int v) = .int v → va_P D vwCl (wX9 a0 c w0) H → va_D A (wX9 a0 c w0) → va_S A s.heap H locs → decode cX9_readsDelay pc = .ok (.ireturn, 1) → W p l e rmX9_readsDelay s m args below meth cd H locs 0 0 Q (F0 m pc ls [.int v]) := by
    intro v w0 H locs pc ls hr hn hP hD hS hd
    cases hr
    exact KR0 _ H locs pc ls rfl hn hP hD hS hd
  have hl : lv_has ls 1 [(0, .ref (a0 0))] := hl
  refine lv_aload_n (pc := 0) hx hb dX9_readsDelay_0 rfl (lv_at hl 0 rfl) ?_
  obtain ⟨t0_1, hc1, h⟩ := b1_i h
  refine g_all (st1 := []) (gr_V (n := 0) (rest := []) (pc := 1) hx hb hml hown hts (cX9_next_met l D c a0 s0 _ hc1) gX9_readsDelay_X9_next rfl rfl rfl (by decide +kernel) rfl ⟨Nat.le_of_ble_eq_true rfl, Nat.le_of_ble_eq_true rfl⟩ ⟨Nat.zero_le _, Nat.zero_le _⟩ 0 9 rfl rfl rfl gT_ok hP hD hK (fun _ _ _ => trivial) hl.1 (Nat.le_of_ble_eq_true rfl) dX9_readsDelay_1 rfl) hD hS hA rfl (fun H locs hP hD hS => ?_)
  refine lv_aload_n (pc := 4) hx hb dX9_readsDelay_4 rfl (lv_at hl 0 rfl) ?_
  refine va_get (D := D) (ci := 9) (v := .ref (a0 6)) (C := RX9) (T := TX9) (N := 24) (pc := 5) hx hb hfX9 (fun _ h9 => h9) hown hK hP 0 rfl rfl 11 (by decide) lk0 (fun _ h9 => h9) rfl dX9_readsDelay_5 ?_
  refine lv_iconst (v := 3) (pc := 8) hx hb dX9_readsDelay_8 (by decide) ?_
  refine lv_aload_n (pc := 9) hx hb dX9_readsDelay_9 rfl (lv_at hl 0 rfl) ?_
  obtain ⟨r10, hc10, h⟩ := b1_i h
  refine g_all (st1 := [.int r10, .int (3 : Int32), .ref (a0 6)]) (gr_V (n := 0) (rest := [.int (3 : Int32), .ref (a0 6)]) (pc := 10) hx hb hml hown hts (cX9_number_met l D c a0 t0_1 _ hc10) gX9_readsDelay_X9_number rfl rfl rfl (by decide +kernel) rfl ⟨Nat.le_of_ble_eq_true rfl, Nat.le_of_ble_eq_true rfl⟩ ⟨Nat.zero_le _, Nat.zero_le _⟩ 0 9 rfl rfl rfl gT_ok hP hD hK (fun _ _ _ => trivial) hl.1 (Nat.le_of_ble_eq_true rfl) dX9_readsDelay_10 rfl) hD hS hA rfl (fun H locs hP hD hS => ?_)
  obtain ⟨hk13, h⟩ := ckI_i h
  refine va_iast (D := D) (f := (t0_1.1 11)) (pc := 13) hx hb hK hP hD hS 6 0 rfl rfl hk13 dX9_readsDelay_13 (fun H locs hP hD hS => ?_)
  obtain ⟨m0_13, em0_13, h⟩ := lt_i h
  have hP : va_P D vwCl (wX9 a0 c m0_13) H := by rw [em0_13]; exact hP
  have hD : va_D A (wX9 a0 c m0_13) := by rw [em0_13]; exact hD
  refine lv_aload_n (pc := 14) hx hb dX9_readsDelay_14 rfl (lv_at hl 0 rfl) ?_
  refine va_get (D := D) (ci := 9) (v := .ref (a0 6)) (C := RX9) (T := TX9) (N := 24) (pc := 15) hx hb hfX9 (fun _ h9 => h9) hown hK hP 0 rfl rfl 11 (by decide) lk0 (fun _ h9 => h9) rfl dX9_readsDelay_15 ?_
  refine lv_iconst (v := 3) (pc := 18) hx hb dX9_readsDelay_18 (by decide) ?_
  obtain ⟨hk19, h⟩ := ckI_i h
  refine va_iald (D := D) (f := (m0_13.1 11)) (pc := 19) hx hb hK hP 6 0 rfl rfl hk19 dX9_readsDelay_19 ?_
  refine lv_iconst (v := 1) (pc := 20) hx hb dX9_readsDelay_20 (by decide) ?_
  refine lv_bipush (v := 9) (pc := 21) hx hb dX9_readsDelay_21 (by decide) ?_
  obtain ⟨r23, hc23, h⟩ := b1_i h
  refine g_none (st1 := [.int r23]) (gr_S (n := 3) (rest := []) (pc := 23) hx hb hml hown hts (cX9_isIn_met l D c (((m0_13.1 11) ((3 : Int32)).toNatClampNeg)) (1 : Int32) (9 : Int32) _ hc23) gX9_readsDelay_X9_isIn rfl rfl rfl (by decide +kernel) rfl ⟨Nat.le_of_ble_eq_true rfl, Nat.le_of_ble_eq_true rfl⟩ ⟨Nat.zero_le _, Nat.zero_le _⟩ gT_ok g_P0 (g_D0 (A := A)) hK (fun _ _ _ => trivial) hl.1 (Nat.le_of_ble_eq_true rfl) dX9_readsDelay_23 rfl) hP hS hA rfl (fun H locs hP hS => ?_)
  obtain ⟨hz26, h⟩ := ckZ_i h
  have kr := KR r23 m0_13 _ _ 26 ls h hz26 hP hD hS dX9_readsDelay_26
  exact kr
abbrev rmX9_isText : Room := { frames := 4, cells := 0, slots := 0, locals := 85 }
set_option maxRecDepth 100000 in
set_option maxHeartbeats 40000000 in
theorem cX9_isText_met (l : Launch) (D : va_G) (c : Nat → ClassId) (a0 : Nat → Nat) (s0 : Mem) (r0 : Int32) (z0 : Mem) (h : fX9_isText s0 = some (r0, z0)) : gM l yX9_isText wsX9_isText rmX9_isText D (gY c) gT [.ref (a0 0)] (wX9 a0 c s0) (some (.int r0)) (wX9 a0 c z0) := by
  unfold fX9_isText at h
  refine gM.I (cc := cX9_isText) (maxL := 1) (by decide) rfl (Nat.le_of_ble_eq_true rfl) ?_
  intro p e s m args below meth cd hx hb hml hown hts A hA ls hl hP hK hD hS hE Q KR0
  have hfX9 : ∀ w ∈ u_ws RX9 TX9 24, w.before args s = true := fun w hw => hts w (List.mem_cons_of_mem _ (List.mem_append_right _ hw))
  have lk0 := hts (.fieldLink RX9 76 "GlitchNetsModel" "at" "I") (List.mem_of_getElem? (i := 1) rfl)
  have lk1 := hts (.fieldLink RX9 26 "GlitchNetsModel" "read" "[I") (List.mem_of_getElem? (i := 2) rfl)
  have lk2 := hts (.fieldLink RX9 88 "GlitchNetsModel" "token" "I") (List.mem_of_getElem? (i := 3) rfl)
  have KR : ∀ (v : Int32) (w0 : Mem) (H : Heap) (locs : List Loc) (pc : Nat) (ls : Array Slot), some (v, w0) = some (r0, z0) → narrow .boolean (.int v) = .int v → va_P D vwCl (wX9 a0 c w0) H → va_D A (wX9 a0 c w0) → va_S A s.heap H locs → decode cX9_isText pc = .ok (.ireturn, 1) → W p l e rmX9_isText s m args below meth cd H locs 0 0 Q (F0 m pc ls [.int v]) := by
    intro v w0 H locs pc ls hr hn hP hD hS hd
    cases hr
    exact KR0 _ H locs pc ls rfl hn hP hD hS hd
  have hl : lv_has ls 1 [(0, .ref (a0 0))] := hl
  have J71 : ∀ (s0 : Mem) (H : Heap) (locs : List Loc) (ls : Array Slot), fX9_isText_b71 s0 = some (r0, z0) → va_P D vwCl (wX9 a0 c s0) H → va_D A (wX9 a0 c s0) → va_S A s.heap H locs → lv_has ls 1 [(0, .ref (a0 0))] → W p l e rmX9_isText s m args below meth cd H locs 0 0 Q (F0 m 71 ls []) := by
    intro s0 H locs ls h hP hD hS hl
    unfold fX9_isText_b71 at h
    refine lv_aload_n (pc := 71) hx hb dX9_isText_71 rfl (lv_at hl 0 rfl) ?_
    obtain ⟨r72, t0_72, hc72, h⟩ := b2_i h
    refine g_all (st1 := [.int r72]) (gr_V (n := 0) (rest := []) (pc := 72) hx hb hml hown hts (cX9_readsDelay_met l D c a0 s0 _ _ hc72) gX9_isText_X9_readsDelay rfl rfl rfl (by decide +kernel) rfl ⟨Nat.le_of_ble_eq_true rfl, Nat.le_of_ble_eq_true rfl⟩ ⟨Nat.zero_le _, Nat.zero_le _⟩ 0 9 rfl rfl rfl gT_ok hP hD hK (fun _ _ _ => trivial) hl.1 (Nat.le_of_ble_eq_true rfl) dX9_isText_72 rfl) hD hS hA rfl (fun H locs hP hD hS => ?_)
    refine lv_if_ne (tgt := 80) (pc := 75) hx hb dX9_isText_75 (by decide) (fun c75 => ?_) (fun c75 => ?_)
    · replace h := it_f c75 h
      refine lv_aload_n (pc := 80) hx hb dX9_isText_80 rfl (lv_at hl 0 rfl) ?_
      obtain ⟨t0_81, hc81, h⟩ := b1_i h
      refine g_all (st1 := []) (gr_V (n := 0) (rest := []) (pc := 81) hx hb hml hown hts (cX9_next_met l D c a0 t0_72 _ hc81) gX9_isText_X9_next rfl rfl rfl (by decide +kernel) rfl ⟨Nat.le_of_ble_eq_true rfl, Nat.le_of_ble_eq_true rfl⟩ ⟨Nat.zero_le _, Nat.zero_le _⟩ 0 9 rfl rfl rfl gT_ok hP hD hK (fun _ _ _ => trivial) hl.1 (Nat.le_of_ble_eq_true rfl) dX9_isText_81 rfl) hD hS hA rfl (fun H locs hP hD hS => ?_)
      refine lv_aload_n (pc := 84) hx hb dX9_isText_84 rfl (lv_at hl 0 rfl) ?_
      refine va_get (D := D) (ci := 9) (v := .int (t0_81.1 9 0)) (C := RX9) (T := TX9) (N := 24) (pc := 85) hx hb hfX9 (fun _ h9 => h9) hown hK hP 0 rfl rfl 9 (by decide) lk2 (fun _ h9 => h9) rfl dX9_isText_85 ?_
      refine lv_if_ne (tgt := 95) (pc := 88) hx hb dX9_isText_88 (by decide) (fun c88 => ?_) (fun c88 => ?_)
      · replace h := it_f c88 h
        refine lv_iconst (v := 0) (pc := 95) hx hb dX9_isText_95 (by decide) ?_
        have kr := KR (0 : Int32) t0_81 _ _ 96 ls h rfl hP hD hS dX9_isText_96
        exact kr
      · replace h := it_t c88 h
        refine lv_iconst (v := 1) (pc := 91) hx hb dX9_isText_91 (by decide) ?_
        refine lv_goto (tgt := 96) (pc := 92) hx hb dX9_isText_92 (by decide) ?_
        have kr := KR (1 : Int32) t0_81 _ _ 96 ls h rfl hP hD hS dX9_isText_96
        exact kr
    · replace h := it_t c75 h
      refine lv_iconst (v := 0) (pc := 78) hx hb dX9_isText_78 (by decide) ?_
      have kr := KR (0 : Int32) t0_72 _ _ 79 ls h rfl hP hD hS dX9_isText_79
      exact kr
  refine lv_aload_n (pc := 0) hx hb dX9_isText_0 rfl (lv_at hl 0 rfl) ?_
  refine lv_iconst (v := 0) (pc := 1) hx hb dX9_isText_1 (by decide) ?_
  refine va_put (D := D) (ci := 9) (v := .int (0 : Int32)) (ty := .int) (C := RX9) (T := TX9) (N := 24) (pc := 2) hx hb hfX9 (fun _ h9 => h9) tyX9 tyX9_ok nmX9 hown hK hP hD hS 0 rfl rfl 7 (by decide) lk0 (fun _ h9 => h9) rfl (by decide +kernel) rfl rfl (Nat.le_of_ble_eq_true rfl) dX9_isText_2 (fun H locs hP hD hS => ?_)
  obtain ⟨m0_2, em0_2, h⟩ := lt_i h
  have hP : va_P D vwCl (wX9 a0 c m0_2) H := by rw [em0_2]; exact hP
  have hD : va_D A (wX9 a0 c m0_2) := by rw [em0_2]; exact hD
  refine lv_aload_n (pc := 5) hx hb dX9_isText_5 rfl (lv_at hl 0 rfl) ?_
  obtain ⟨t0_6, hc6, h⟩ := b1_i h
  refine g_all (st1 := []) (gr_V (n := 0) (rest := []) (pc := 6) hx hb hml hown hts (cX9_next_met l D c a0 m0_2 _ hc6) gX9_isText_X9_next rfl rfl rfl (by decide +kernel) rfl ⟨Nat.le_of_ble_eq_true rfl, Nat.le_of_ble_eq_true rfl⟩ ⟨Nat.zero_le _, Nat.zero_le _⟩ 0 9 rfl rfl rfl gT_ok hP hD hK (fun _ _ _ => trivial) hl.1 (Nat.le_of_ble_eq_true rfl) dX9_isText_6 rfl) hD hS hA rfl (fun H locs hP hD hS => ?_)
  refine lv_aload_n (pc := 9) hx hb dX9_isText_9 rfl (lv_at hl 0 rfl) ?_
  refine va_get (D := D) (ci := 9) (v := .ref (a0 6)) (C := RX9) (T := TX9) (N := 24) (pc := 10) hx hb hfX9 (fun _ h9 => h9) hown hK hP 0 rfl rfl 11 (by decide) lk1 (fun _ h9 => h9) rfl dX9_isText_10 ?_
  refine lv_iconst (v := 0) (pc := 13) hx hb dX9_isText_13 (by decide) ?_
  refine lv_aload_n (pc := 14) hx hb dX9_isText_14 rfl (lv_at hl 0 rfl) ?_
  obtain ⟨r15, hc15, h⟩ := b1_i h
  refine g_all (st1 := [.int r15, .int (0 : Int32), .ref (a0 6)]) (gr_V (n := 0) (rest := [.int (0 : Int32), .ref (a0 6)]) (pc := 15) hx hb hml hown hts (cX9_word_met l D c a0 t0_6 _ hc15) gX9_isText_X9_word rfl rfl rfl (by decide +kernel) rfl ⟨Nat.le_of_ble_eq_true rfl, Nat.le_of_ble_eq_true rfl⟩ ⟨Nat.zero_le _, Nat.zero_le _⟩ 0 9 rfl rfl rfl gT_ok hP hD hK (fun _ _ _ => trivial) hl.1 (Nat.le_of_ble_eq_true rfl) dX9_isText_15 rfl) hD hS hA rfl (fun H locs hP hD hS => ?_)
  obtain ⟨hk18, h⟩ := ckI_i h
  refine va_iast (D := D) (f := (t0_6.1 11)) (pc := 18) hx hb hK hP hD hS 6 0 rfl rfl hk18 dX9_isText_18 (fun H locs hP hD hS => ?_)
  obtain ⟨m0_18, em0_18, h⟩ := lt_i h
  have hP : va_P D vwCl (wX9 a0 c m0_18) H := by rw [em0_18]; exact hP
  have hD : va_D A (wX9 a0 c m0_18) := by rw [em0_18]; exact hD
  refine lv_aload_n (pc := 19) hx hb dX9_isText_19 rfl (lv_at hl 0 rfl) ?_
  refine va_get (D := D) (ci := 9) (v := .ref (a0 6)) (C := RX9) (T := TX9) (N := 24) (pc := 20) hx hb hfX9 (fun _ h9 => h9) hown hK hP 0 rfl rfl 11 (by decide) lk1 (fun _ h9 => h9) rfl dX9_isText_20 ?_
  refine lv_iconst (v := 0) (pc := 23) hx hb dX9_isText_23 (by decide) ?_
  obtain ⟨hk24, h⟩ := ckI_i h
  refine va_iald (D := D) (f := (m0_18.1 11)) (pc := 24) hx hb hK hP 6 0 rfl rfl hk24 dX9_isText_24 ?_
  refine lv_iconst (v := -1) (pc := 25) hx hb dX9_isText_25 (by decide) ?_
  refine lv_icmp_eq (tgt := 37) (pc := 26) hx hb dX9_isText_26 (by decide) (fun c26 => ?_) (fun c26 => ?_)
  · replace h := it_t c26 h
    refine lv_iconst (v := 0) (pc := 37) hx hb dX9_isText_37 (by decide) ?_
    have kr := KR (0 : Int32) m0_18 _ _ 38 ls h rfl hP hD hS dX9_isText_38
    exact kr
  · replace h := it_f c26 h
    refine lv_aload_n (pc := 29) hx hb dX9_isText_29 rfl (lv_at hl 0 rfl) ?_
    refine lv_iconst (v := 1) (pc := 30) hx hb dX9_isText_30 (by decide) ?_
    obtain ⟨r31, t0_31, hc31, h⟩ := b2_i h
    refine g_all (st1 := [.int r31]) (gr_V (n := 1) (rest := []) (pc := 31) hx hb hml hown hts (cX9_readsSource_met l D c a0 (1 : Int32) m0_18 _ _ hc31) gX9_isText_X9_readsSource rfl rfl rfl (by decide +kernel) rfl ⟨Nat.le_of_ble_eq_true rfl, Nat.le_of_ble_eq_true rfl⟩ ⟨Nat.zero_le _, Nat.zero_le _⟩ 0 9 rfl rfl rfl gT_ok hP hD hK (fun _ _ _ => trivial) hl.1 (Nat.le_of_ble_eq_true rfl) dX9_isText_31 rfl) hD hS hA rfl (fun H locs hP hD hS => ?_)
    refine lv_if_ne (tgt := 39) (pc := 34) hx hb dX9_isText_34 (by decide) (fun c34 => ?_) (fun c34 => ?_)
    · replace h := it_f c34 h
      refine lv_aload_n (pc := 39) hx hb dX9_isText_39 rfl (lv_at hl 0 rfl) ?_
      refine va_get (D := D) (ci := 9) (v := .ref (a0 6)) (C := RX9) (T := TX9) (N := 24) (pc := 40) hx hb hfX9 (fun _ h9 => h9) hown hK hP 0 rfl rfl 11 (by decide) lk1 (fun _ h9 => h9) rfl dX9_isText_40 ?_
      refine lv_iconst (v := 2) (pc := 43) hx hb dX9_isText_43 (by decide) ?_
      refine lv_aload_n (pc := 44) hx hb dX9_isText_44 rfl (lv_at hl 0 rfl) ?_
      refine va_get (D := D) (ci := 9) (v := .ref (a0 6)) (C := RX9) (T := TX9) (N := 24) (pc := 45) hx hb hfX9 (fun _ h9 => h9) hown hK hP 0 rfl rfl 11 (by decide) lk1 (fun _ h9 => h9) rfl dX9_isText_45 ?_
      refine lv_iconst (v := 1) (pc := 48) hx hb dX9_isText_48 (by decide) ?_
      obtain ⟨hk49, h⟩ := ckI_i h
      refine va_iald (D := D) (f := (t0_31.1 11)) (pc := 49) hx hb hK hP 6 0 rfl rfl hk49 dX9_isText_49 ?_
      obtain ⟨hk50, h⟩ := ckI_i h
      refine va_iast (D := D) (f := (t0_31.1 11)) (pc := 50) hx hb hK hP hD hS 6 0 rfl rfl hk50 dX9_isText_50 (fun H locs hP hD hS => ?_)
      obtain ⟨m0_50, em0_50, h⟩ := lt_i h
      have hP : va_P D vwCl (wX9 a0 c m0_50) H := by rw [em0_50]; exact hP
      have hD : va_D A (wX9 a0 c m0_50) := by rw [em0_50]; exact hD
      refine lv_aload_n (pc := 51) hx hb dX9_isText_51 rfl (lv_at hl 0 rfl) ?_
      refine va_get (D := D) (ci := 9) (v := .ref (a0 6)) (C := RX9) (T := TX9) (N := 24) (pc := 52) hx hb hfX9 (fun _ h9 => h9) hown hK hP 0 rfl rfl 11 (by decide) lk1 (fun _ h9 => h9) rfl dX9_isText_52 ?_
      refine lv_iconst (v := 0) (pc := 55) hx hb dX9_isText_55 (by decide) ?_
      obtain ⟨hk56, h⟩ := ckI_i h
      refine va_iald (D := D) (f := (m0_50.1 11)) (pc := 56) hx hb hK hP 6 0 rfl rfl hk56 dX9_isText_56 ?_
      refine lv_iconst (v := 5) (pc := 57) hx hb dX9_isText_57 (by decide) ?_
      refine lv_icmp_eq (tgt := 71) (pc := 58) hx hb dX9_isText_58 (by decide) (fun c58 => ?_) (fun c58 => ?_)
      · replace h := it_t c58 h
        have jr := J71 m0_50 _ _ ls h hP hD hS hl
        exact jr
      · replace h := it_f c58 h
        refine lv_aload_n (pc := 61) hx hb dX9_isText_61 rfl (lv_at hl 0 rfl) ?_
        refine lv_iconst (v := 2) (pc := 62) hx hb dX9_isText_62 (by decide) ?_
        obtain ⟨r63, t0_63, hc63, h⟩ := b2_i h
        refine g_all (st1 := [.int r63]) (gr_V (n := 1) (rest := []) (pc := 63) hx hb hml hown hts (cX9_readsSource_met l D c a0 (2 : Int32) m0_50 _ _ hc63) gX9_isText_X9_readsSource rfl rfl rfl (by decide +kernel) rfl ⟨Nat.le_of_ble_eq_true rfl, Nat.le_of_ble_eq_true rfl⟩ ⟨Nat.zero_le _, Nat.zero_le _⟩ 0 9 rfl rfl rfl gT_ok hP hD hK (fun _ _ _ => trivial) hl.1 (Nat.le_of_ble_eq_true rfl) dX9_isText_63 rfl) hD hS hA rfl (fun H locs hP hD hS => ?_)
        refine lv_if_ne (tgt := 71) (pc := 66) hx hb dX9_isText_66 (by decide) (fun c66 => ?_) (fun c66 => ?_)
        · replace h := it_f c66 h
          have jr := J71 t0_63 _ _ ls h hP hD hS hl
          exact jr
        · replace h := it_t c66 h
          refine lv_iconst (v := 0) (pc := 69) hx hb dX9_isText_69 (by decide) ?_
          have kr := KR (0 : Int32) t0_63 _ _ 70 ls h rfl hP hD hS dX9_isText_70
          exact kr
    · replace h := it_t c34 h
      refine lv_iconst (v := 0) (pc := 37) hx hb dX9_isText_37 (by decide) ?_
      have kr := KR (0 : Int32) t0_31 _ _ 38 ls h rfl hP hD hS dX9_isText_38
      exact kr
abbrev rmX9_text : Room := { frames := 5, cells := 0, slots := 0, locals := 105 }
set_option maxRecDepth 100000 in
set_option maxHeartbeats 40000000 in
theorem cX9_text_met (l : Launch) (D : va_G) (c : Nat → ClassId) (a0 : Nat → Nat) (s0 : Mem) (r0 : Int32) (z0 : Mem) (h : fX9_text s0 = some (r0, z0)) : gM l yX9_text wsX9_text rmX9_text D (gY c) gT [.ref (a0 0)] (wX9 a0 c s0) (some (.int r0)) (wX9 a0 c z0) := by
  unfold fX9_text at h
  refine gM.I (cc := cX9_text) (maxL := 3) (by decide) rfl (Nat.le_of_ble_eq_true rfl) ?_
  intro p e s m args below meth cd hx hb hml hown hts A hA ls hl hP hK hD hS hE Q KR0
  have hfX9 : ∀ w ∈ u_ws RX9 TX9 24, w.before args s = true := fun w hw => hts w (List.mem_cons_of_mem _ (List.mem_append_right _ hw))
  have lk0 := hts (.fieldLink RX9 73 "GlitchNetsModel" "fed" "I") (List.mem_of_getElem? (i := 1) rfl)
  have lk1 := hts (.fieldLink RX9 9 "GlitchNetsModel" "s" "[I") (List.mem_of_getElem? (i := 3) rfl)
  have lk2 := hts (.fieldLink RX9 26 "GlitchNetsModel" "read" "[I") (List.mem_of_getElem? (i := 4) rfl)
  have lk3 := hts (.fieldLink RX9 79 "GlitchNetsModel" "from" "I") (List.mem_of_getElem? (i := 2) rfl)
  have KR : ∀ (v : Int32) (w0 : Mem) (H : Heap) (locs : List Loc) (pc : Nat) (ls : Array Slot), some (v, w0) = some (r0, z0) → narrow .int (.int v) = .int v → va_P D vwCl (wX9 a0 c w0) H → va_D A (wX9 a0 c w0) → va_S A s.heap H locs → decode cX9_text pc = .ok (.ireturn, 1) → W p l e rmX9_text s m args below meth cd H locs 0 0 Q (F0 m pc ls [.int v]) := by
    intro v w0 H locs pc ls hr hn hP hD hS hd
    cases hr
    exact KR0 _ H locs pc ls rfl hn hP hD hS hd
  have hl : lv_has ls 3 [(0, .ref (a0 0))] := hl
  have J38 : ∀ (n : Nat) (x2 : Int32) (s0 : Mem) (H : Heap) (locs : List Loc) (ls : Array Slot), fX9_text_b38 n x2 s0 = some (r0, z0) → va_P D vwCl (wX9 a0 c s0) H → va_D A (wX9 a0 c s0) → va_S A s.heap H locs → lv_has ls 3 [(0, .ref (a0 0)), (2, .int x2)] → W p l e rmX9_text s m args below meth cd H locs 0 0 Q (F0 m 38 ls []) := by
    intro n
    induction n with
    | zero =>
      intro x2 s0 H locs ls h _ _ _ _
      cases (show (none : Option (Int32 × Mem)) = some _ from h)
    | succ n K38h =>
      intro x2 s0 H locs ls h hP hD hS hl
      rw [fX9_text_b38] at h
      refine lv_iload_n (pc := 38) hx hb dX9_text_38 rfl (lv_at hl 1 rfl) ?_
      refine lv_iconst (v := 4) (pc := 39) hx hb dX9_text_39 (by decide) ?_
      refine lv_icmp_ge (tgt := 72) (pc := 40) hx hb dX9_text_40 (by decide) (fun c40 => ?_) (fun c40 => ?_)
      · replace h := it_t c40 h
        refine lv_aload_n (pc := 72) hx hb dX9_text_72 rfl (lv_at hl 0 rfl) ?_
        refine va_get (D := D) (ci := 9) (v := .ref (a0 1)) (C := RX9) (T := TX9) (N := 24) (pc := 73) hx hb hfX9 (fun _ h9 => h9) hown hK hP 0 rfl rfl 0 (by decide) lk1 (fun _ h9 => h9) rfl dX9_text_73 ?_
        refine lv_iconst (v := 0) (pc := 76) hx hb dX9_text_76 (by decide) ?_
        refine lv_dup2_11 (pc := 77) hx hb dX9_text_77 rfl rfl ?_
        obtain ⟨hk78, h⟩ := ckI_i h
        refine va_iald (D := D) (f := (s0.1 0)) (pc := 78) hx hb hK hP 1 0 rfl rfl hk78 dX9_text_78 ?_
        refine lv_iconst (v := 1) (pc := 79) hx hb dX9_text_79 (by decide) ?_
        refine lv_iadd (pc := 80) hx hb dX9_text_80 ?_
        obtain ⟨hk81, h⟩ := ckI_i h
        refine va_iast (D := D) (f := (s0.1 0)) (pc := 81) hx hb hK hP hD hS 1 0 rfl rfl hk81 dX9_text_81 (fun H locs hP hD hS => ?_)
        obtain ⟨m0_81, em0_81, h⟩ := lt_i h
        have hP : va_P D vwCl (wX9 a0 c m0_81) H := by rw [em0_81]; exact hP
        have hD : va_D A (wX9 a0 c m0_81) := by rw [em0_81]; exact hD
        refine lv_aload_n (pc := 82) hx hb dX9_text_82 rfl (lv_at hl 0 rfl) ?_
        refine lv_iconst (v := 0) (pc := 83) hx hb dX9_text_83 (by decide) ?_
        refine lv_iconst (v := 0) (pc := 84) hx hb dX9_text_84 (by decide) ?_
        refine lv_iconst (v := 0) (pc := 85) hx hb dX9_text_85 (by decide) ?_
        refine lv_iconst (v := 0) (pc := 86) hx hb dX9_text_86 (by decide) ?_
        obtain ⟨t0_87, hc87, h⟩ := b1_i h
        refine g_all (st1 := []) (gr_V (n := 4) (rest := []) (pc := 87) hx hb hml hown hts (cX9_does_met l D c a0 (0 : Int32) (0 : Int32) (0 : Int32) (0 : Int32) m0_81 _ hc87) gX9_text_X9_does rfl rfl rfl (by decide +kernel) rfl ⟨Nat.le_of_ble_eq_true rfl, Nat.le_of_ble_eq_true rfl⟩ ⟨Nat.zero_le _, Nat.zero_le _⟩ 0 9 rfl rfl rfl gT_ok hP hD hK (fun _ _ _ => trivial) hl.1 (Nat.le_of_ble_eq_true rfl) dX9_text_87 rfl) hD hS hA rfl (fun H locs hP hD hS => ?_)
        refine lv_aload_n (pc := 90) hx hb dX9_text_90 rfl (lv_at hl 0 rfl) ?_
        refine va_get (D := D) (ci := 9) (v := .ref (a0 1)) (C := RX9) (T := TX9) (N := 24) (pc := 91) hx hb hfX9 (fun _ h9 => h9) hown hK hP 0 rfl rfl 0 (by decide) lk1 (fun _ h9 => h9) rfl dX9_text_91 ?_
        refine lv_iconst (v := 0) (pc := 94) hx hb dX9_text_94 (by decide) ?_
        obtain ⟨hk95, h⟩ := ckI_i h
        refine va_iald (D := D) (f := (t0_87.1 0)) (pc := 95) hx hb hK hP 1 0 rfl rfl hk95 dX9_text_95 ?_
        refine lv_iconst (v := 1) (pc := 96) hx hb dX9_text_96 (by decide) ?_
        refine lv_isub (pc := 97) hx hb dX9_text_97 ?_
        have kr := KR (((t0_87.1 0) ((0 : Int32)).toNatClampNeg) - (1 : Int32)) t0_87 _ _ 98 ls h rfl hP hD hS dX9_text_98
        exact kr
      · replace h := it_f c40 h
        refine lv_aload_n (pc := 43) hx hb dX9_text_43 rfl (lv_at hl 0 rfl) ?_
        refine va_get (D := D) (ci := 9) (v := .ref (a0 1)) (C := RX9) (T := TX9) (N := 24) (pc := 44) hx hb hfX9 (fun _ h9 => h9) hown hK hP 0 rfl rfl 0 (by decide) lk1 (fun _ h9 => h9) rfl dX9_text_44 ?_
        refine lv_iconst (v := 2) (pc := 47) hx hb dX9_text_47 (by decide) ?_
        refine lv_iconst (v := 4) (pc := 48) hx hb dX9_text_48 (by decide) ?_
        refine lv_aload_n (pc := 49) hx hb dX9_text_49 rfl (lv_at hl 0 rfl) ?_
        refine va_get (D := D) (ci := 9) (v := .ref (a0 1)) (C := RX9) (T := TX9) (N := 24) (pc := 50) hx hb hfX9 (fun _ h9 => h9) hown hK hP 0 rfl rfl 0 (by decide) lk1 (fun _ h9 => h9) rfl dX9_text_50 ?_
        refine lv_iconst (v := 0) (pc := 53) hx hb dX9_text_53 (by decide) ?_
        obtain ⟨hk54, h⟩ := ckI_i h
        refine va_iald (D := D) (f := (s0.1 0)) (pc := 54) hx hb hK hP 1 0 rfl rfl hk54 dX9_text_54 ?_
        refine lv_imul (pc := 55) hx hb dX9_text_55 ?_
        refine lv_iadd (pc := 56) hx hb dX9_text_56 ?_
        refine lv_iload_n (pc := 57) hx hb dX9_text_57 rfl (lv_at hl 1 rfl) ?_
        refine lv_iadd (pc := 58) hx hb dX9_text_58 ?_
        refine lv_aload_n (pc := 59) hx hb dX9_text_59 rfl (lv_at hl 0 rfl) ?_
        refine va_get (D := D) (ci := 9) (v := .ref (a0 6)) (C := RX9) (T := TX9) (N := 24) (pc := 60) hx hb hfX9 (fun _ h9 => h9) hown hK hP 0 rfl rfl 11 (by decide) lk2 (fun _ h9 => h9) rfl dX9_text_60 ?_
        refine lv_iload_n (pc := 63) hx hb dX9_text_63 rfl (lv_at hl 1 rfl) ?_
        obtain ⟨hk64, h⟩ := ckI_i h
        refine va_iald (D := D) (f := (s0.1 11)) (pc := 64) hx hb hK hP 6 0 rfl rfl hk64 dX9_text_64 ?_
        obtain ⟨hk65, h⟩ := ckI_i h
        refine va_iast (D := D) (f := (s0.1 0)) (pc := 65) hx hb hK hP hD hS 1 0 rfl rfl hk65 dX9_text_65 (fun H locs hP hD hS => ?_)
        obtain ⟨m0_65, em0_65, h⟩ := lt_i h
        have hP : va_P D vwCl (wX9 a0 c m0_65) H := by rw [em0_65]; exact hP
        have hD : va_D A (wX9 a0 c m0_65) := by rw [em0_65]; exact hD
        obtain ⟨v2_66, ev2_66, h⟩ := lt_i h
        refine lv_iinc (v := v2_66) (lv' := [(2, .int v2_66), (0, .ref (a0 0))]) (pc := 66) hx hb dX9_text_66 hl (k := 1) rfl (by rw [ev2_66]; rfl) (by decide) rfl (fun ls hl => ?_)
        refine lv_goto (tgt := 38) (pc := 69) hx hb dX9_text_69 (by decide) ?_
        have jr := K38h v2_66 m0_65 _ _ ls h hP hD hS (lv_sub hl [1, 0] rfl)
        exact jr
  refine lv_aload_n (pc := 0) hx hb dX9_text_0 rfl (lv_at hl 0 rfl) ?_
  obtain ⟨r1, t0_1, hc1, h⟩ := b2_i h
  refine g_all (st1 := [.int r1]) (gr_V (n := 0) (rest := []) (pc := 1) hx hb hml hown hts (cX9_isText_met l D c a0 s0 _ _ hc1) gX9_text_X9_isText rfl rfl rfl (by decide +kernel) rfl ⟨Nat.le_of_ble_eq_true rfl, Nat.le_of_ble_eq_true rfl⟩ ⟨Nat.zero_le _, Nat.zero_le _⟩ 0 9 rfl rfl rfl gT_ok hP hD hK (fun _ _ _ => trivial) hl.1 (Nat.le_of_ble_eq_true rfl) dX9_text_1 rfl) hD hS hA rfl (fun H locs hP hD hS => ?_)
  refine lv_istore_n (lv' := [(1, .int r1), (0, .ref (a0 0))]) (pc := 4) hx hb dX9_text_4 rfl hl (by decide) rfl (fun ls hl => ?_)
  refine lv_aload_n (pc := 5) hx hb dX9_text_5 rfl (lv_at hl 1 rfl) ?_
  refine lv_iconst (v := 0) (pc := 6) hx hb dX9_text_6 (by decide) ?_
  refine va_put (D := D) (ci := 9) (v := .int (0 : Int32)) (ty := .int) (C := RX9) (T := TX9) (N := 24) (pc := 7) hx hb hfX9 (fun _ h9 => h9) tyX9 tyX9_ok nmX9 hown hK hP hD hS 0 rfl rfl 6 (by decide) lk0 (fun _ h9 => h9) rfl (by decide +kernel) rfl rfl (Nat.le_of_ble_eq_true rfl) dX9_text_7 (fun H locs hP hD hS => ?_)
  obtain ⟨m0_7, em0_7, h⟩ := lt_i h
  have hP : va_P D vwCl (wX9 a0 c m0_7) H := by rw [em0_7]; exact hP
  have hD : va_D A (wX9 a0 c m0_7) := by rw [em0_7]; exact hD
  refine lv_iload_n (pc := 10) hx hb dX9_text_10 rfl (lv_at hl 0 rfl) ?_
  refine lv_if_ne (tgt := 22) (pc := 11) hx hb dX9_text_11 (by decide) (fun c11 => ?_) (fun c11 => ?_)
  · replace h := it_f c11 h
    refine lv_aload_n (pc := 22) hx hb dX9_text_22 rfl (lv_at hl 1 rfl) ?_
    refine va_get (D := D) (ci := 9) (v := .ref (a0 1)) (C := RX9) (T := TX9) (N := 24) (pc := 23) hx hb hfX9 (fun _ h9 => h9) hown hK hP 0 rfl rfl 0 (by decide) lk1 (fun _ h9 => h9) rfl dX9_text_23 ?_
    refine lv_iconst (v := 0) (pc := 26) hx hb dX9_text_26 (by decide) ?_
    obtain ⟨hk27, h⟩ := ckI_i h
    refine va_iald (D := D) (f := (m0_7.1 0)) (pc := 27) hx hb hK hP 1 0 rfl rfl hk27 dX9_text_27 ?_
    refine lv_bipush (v := 12) (pc := 28) hx hb dX9_text_28 (by decide) ?_
    refine lv_icmp_ne (tgt := 36) (pc := 30) hx hb dX9_text_30 (by decide) (fun c30 => ?_) (fun c30 => ?_)
    · replace h := it_f c30 h
      refine lv_iconst (v := 0) (pc := 36) hx hb dX9_text_36 (by decide) ?_
      refine lv_istore_n (lv' := [(2, .int (0 : Int32)), (1, .int r1), (0, .ref (a0 0))]) (pc := 37) hx hb dX9_text_37 rfl hl (by decide) rfl (fun ls hl => ?_)
      have jr := J38 FU (0 : Int32) m0_7 _ _ ls h hP hD hS (lv_sub hl [2, 0] rfl)
      exact jr
    · replace h := it_t c30 h
      refine lv_bipush (v := -4) (pc := 33) hx hb dX9_text_33 (by decide) ?_
      have kr := KR (-4 : Int32) m0_7 _ _ 35 ls h rfl hP hD hS dX9_text_35
      exact kr
  · replace h := it_t c11 h
    refine lv_bipush (v := -100) (pc := 14) hx hb dX9_text_14 (by decide) ?_
    refine lv_aload_n (pc := 16) hx hb dX9_text_16 rfl (lv_at hl 1 rfl) ?_
    refine va_get (D := D) (ci := 9) (v := .int (m0_7.1 8 0)) (C := RX9) (T := TX9) (N := 24) (pc := 17) hx hb hfX9 (fun _ h9 => h9) hown hK hP 0 rfl rfl 8 (by decide) lk3 (fun _ h9 => h9) rfl dX9_text_17 ?_
    refine lv_isub (pc := 20) hx hb dX9_text_20 ?_
    have kr := KR ((-100 : Int32) - (m0_7.1 8 0)) m0_7 _ _ 21 ls h rfl hP hD hS dX9_text_21
    exact kr
abbrev rmX9_delay : Room := { frames := 2, cells := 0, slots := 0, locals := 46 }
set_option maxRecDepth 100000 in
set_option maxHeartbeats 40000000 in
theorem cX9_delay_met (l : Launch) (D : va_G) (c : Nat → ClassId) (a0 : Nat → Nat) (p0 : Int32) (p1 : Int32) (s0 : Mem) (r0 : Int32) (z0 : Mem) (h : fX9_delay p0 p1 s0 = some (r0, z0)) : gM l yX9_delay wsX9_delay rmX9_delay D (gY c) gT [.ref (a0 0), .int p0, .int p1] (wX9 a0 c s0) (some (.int r0)) (wX9 a0 c z0) := by
  unfold fX9_delay at h
  refine gM.I (cc := cX9_delay) (maxL := 4) (by decide) rfl (Nat.le_of_ble_eq_true rfl) ?_
  intro p e s m args below meth cd hx hb hml hown hts A hA ls hl hP hK hD hS hE Q KR0
  have KR : ∀ (v : Int32) (w0 : Mem) (H : Heap) (locs : List Loc) (pc : Nat) (ls : Array Slot), some (v, w0) = some (r0, z0) → narrow .int (.int v) = .int v → va_P D vwCl (wX9 a0 c w0) H → va_D A (wX9 a0 c w0) → va_S A s.heap H locs → decode cX9_delay pc = .ok (.ireturn, 1) → W p l e rmX9_delay s m args below meth cd H locs 0 0 Q (F0 m pc ls [.int v]) := by
    intro v w0 H locs pc ls hr hn hP hD hS hd
    cases hr
    exact KR0 _ H locs pc ls rfl hn hP hD hS hd
  have hl : lv_has ls 4 [(0, .ref (a0 0)), (1, .int p0), (2, .int p1)] := hl
  refine lv_aload_n (pc := 0) hx hb dX9_delay_0 rfl (lv_at hl 0 rfl) ?_
  refine lv_iload_n (pc := 1) hx hb dX9_delay_1 rfl (lv_at hl 1 rfl) ?_
  obtain ⟨r2, hc2, h⟩ := b1_i h
  refine g_all (st1 := [.int r2]) (gr_V (n := 1) (rest := []) (pc := 2) hx hb hml hown hts (cX9_isGate_met l D c a0 p0 s0 _ hc2) gX9_delay_X9_isGate rfl rfl rfl (by decide +kernel) rfl ⟨Nat.le_of_ble_eq_true rfl, Nat.le_of_ble_eq_true rfl⟩ ⟨Nat.zero_le _, Nat.zero_le _⟩ 0 9 rfl rfl rfl gT_ok hP hD hK (fun _ _ _ => trivial) hl.1 (Nat.le_of_ble_eq_true rfl) dX9_delay_2 rfl) hD hS hA rfl (fun H locs hP hD hS => ?_)
  refine lv_if_eq (tgt := 18) (pc := 5) hx hb dX9_delay_5 (by decide) (fun c5 => ?_) (fun c5 => ?_)
  · replace h := it_t c5 h
    refine lv_bipush (v := -2) (pc := 18) hx hb dX9_delay_18 (by decide) ?_
    have kr := KR (-2 : Int32) s0 _ _ 20 ls h rfl hP hD hS dX9_delay_20
    exact kr
  · replace h := it_f c5 h
    refine lv_iload_n (pc := 8) hx hb dX9_delay_8 rfl (lv_at hl 2 rfl) ?_
    refine lv_iconst (v := 1) (pc := 9) hx hb dX9_delay_9 (by decide) ?_
    refine lv_bipush (v := 9) (pc := 10) hx hb dX9_delay_10 (by decide) ?_
    obtain ⟨r12, hc12, h⟩ := b1_i h
    refine g_none (st1 := [.int r12]) (gr_S (n := 3) (rest := []) (pc := 12) hx hb hml hown hts (cX9_isIn_met l D c p1 (1 : Int32) (9 : Int32) _ hc12) gX9_delay_X9_isIn rfl rfl rfl (by decide +kernel) rfl ⟨Nat.le_of_ble_eq_true rfl, Nat.le_of_ble_eq_true rfl⟩ ⟨Nat.zero_le _, Nat.zero_le _⟩ gT_ok g_P0 (g_D0 (A := A)) hK (fun _ _ _ => trivial) hl.1 (Nat.le_of_ble_eq_true rfl) dX9_delay_12 rfl) hP hS hA rfl (fun H locs hP hS => ?_)
    refine lv_if_ne (tgt := 21) (pc := 15) hx hb dX9_delay_15 (by decide) (fun c15 => ?_) (fun c15 => ?_)
    · replace h := it_f c15 h
      refine lv_aload_n (pc := 21) hx hb dX9_delay_21 rfl (lv_at hl 0 rfl) ?_
      refine lv_iload_n (pc := 22) hx hb dX9_delay_22 rfl (lv_at hl 1 rfl) ?_
      refine lv_iconst (v := 3) (pc := 23) hx hb dX9_delay_23 (by decide) ?_
      refine lv_iload_n (pc := 24) hx hb dX9_delay_24 rfl (lv_at hl 2 rfl) ?_
      obtain ⟨r25, t0_25, hc25, h⟩ := b2_i h
      refine g_all (st1 := [.int r25]) (gr_V (n := 3) (rest := []) (pc := 25) hx hb hml hown hts (cX9_sets_met l D c a0 p0 (3 : Int32) p1 s0 _ _ hc25) gX9_delay_X9_sets rfl rfl rfl (by decide +kernel) rfl ⟨Nat.le_of_ble_eq_true rfl, Nat.le_of_ble_eq_true rfl⟩ ⟨Nat.zero_le _, Nat.zero_le _⟩ 0 9 rfl rfl rfl gT_ok hP hD hK (fun _ _ _ => trivial) hl.1 (Nat.le_of_ble_eq_true rfl) dX9_delay_25 rfl) hD hS hA rfl (fun H locs hP hD hS => ?_)
      refine lv_istore_n (lv' := [(3, .int r25), (0, .ref (a0 0)), (1, .int p0), (2, .int p1)]) (pc := 28) hx hb dX9_delay_28 rfl hl (by decide) rfl (fun ls hl => ?_)
      refine lv_aload_n (pc := 29) hx hb dX9_delay_29 rfl (lv_at hl 1 rfl) ?_
      refine lv_iconst (v := 1) (pc := 30) hx hb dX9_delay_30 (by decide) ?_
      refine lv_iload_n (pc := 31) hx hb dX9_delay_31 rfl (lv_at hl 2 rfl) ?_
      refine lv_iload_n (pc := 32) hx hb dX9_delay_32 rfl (lv_at hl 0 rfl) ?_
      refine lv_iconst (v := 0) (pc := 33) hx hb dX9_delay_33 (by decide) ?_
      obtain ⟨t0_34, hc34, h⟩ := b1_i h
      refine g_all (st1 := []) (gr_V (n := 4) (rest := []) (pc := 34) hx hb hml hown hts (cX9_does_met l D c a0 (1 : Int32) p0 r25 (0 : Int32) t0_25 _ hc34) gX9_delay_X9_does rfl rfl rfl (by decide +kernel) rfl ⟨Nat.le_of_ble_eq_true rfl, Nat.le_of_ble_eq_true rfl⟩ ⟨Nat.zero_le _, Nat.zero_le _⟩ 0 9 rfl rfl rfl gT_ok hP hD hK (fun _ _ _ => trivial) hl.1 (Nat.le_of_ble_eq_true rfl) dX9_delay_34 rfl) hD hS hA rfl (fun H locs hP hD hS => ?_)
      refine lv_iload_n (pc := 37) hx hb dX9_delay_37 rfl (lv_at hl 0 rfl) ?_
      have kr := KR r25 t0_34 _ _ 38 ls h rfl hP hD hS dX9_delay_38
      exact kr
    · replace h := it_t c15 h
      refine lv_bipush (v := -2) (pc := 18) hx hb dX9_delay_18 (by decide) ?_
      have kr := KR (-2 : Int32) s0 _ _ 20 ls h rfl hP hD hS dX9_delay_20
      exact kr
