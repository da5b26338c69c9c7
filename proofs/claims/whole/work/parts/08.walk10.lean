abbrev rmX9_put : Room := { frames := 2, cells := 0, slots := 0, locals := 42 }
set_option maxRecDepth 100000 in
set_option maxHeartbeats 40000000 in
theorem cX9_put_met (l : Launch) (D : va_G) (c : Nat → ClassId) (a0 : Nat → Nat) (p0 : Int32) (p1 : Int32) (p2 : Int32) (s0 : Mem) (r0 : Int32) (z0 : Mem) (h : fX9_put p0 p1 p2 s0 = some (r0, z0)) : gM l yX9_put wsX9_put rmX9_put D (gY c) gT [.ref (a0 0), .int p0, .int p1, .int p2] (wX9 a0 c s0) (some (.int r0)) (wX9 a0 c z0) := by
  unfold fX9_put at h
  refine gM.I (cc := cX9_put) (maxL := 4) (by decide) rfl (Nat.le_of_ble_eq_true rfl) ?_
  intro p e s m args below meth cd hx hb hml hown hts A hA ls hl hP hK hD hS hE Q KR0
  have hfX9 : ∀ w ∈ u_ws RX9 TX9 24, w.before args s = true := fun w hw => hts w (List.mem_cons_of_mem _ (List.mem_append_right _ hw))
  have lk0 := hts (.fieldLink RX9 44 "GlitchNetsModel" "sheetSort" "[I") (List.mem_of_getElem? (i := 1) rfl)
  have lk1 := hts (.fieldLink RX9 47 "GlitchNetsModel" "sheetSize" "[I") (List.mem_of_getElem? (i := 2) rfl)
  have lk2 := hts (.fieldLink RX9 50 "GlitchNetsModel" "item" "[I") (List.mem_of_getElem? (i := 3) rfl)
  have KR : ∀ (v : Int32) (w0 : Mem) (H : Heap) (locs : List Loc) (pc : Nat) (ls : Array Slot), some (v, w0) = some (r0, z0) → narrow .int (.int v) = .int v → va_P D vwCl (wX9 a0 c w0) H → va_D A (wX9 a0 c w0) → va_S A s.heap H locs → decode cX9_put pc = .ok (.ireturn, 1) → W p l e rmX9_put s m args below meth cd H locs 0 0 Q (F0 m pc ls [.int v]) := by
    intro v w0 H locs pc ls hr hn hP hD hS hd
    cases hr
    exact KR0 _ H locs pc ls rfl hn hP hD hS hd
  have hl : lv_has ls 4 [(0, .ref (a0 0)), (1, .int p0), (2, .int p1), (3, .int p2)] := hl
  have J67 : ∀ (y0 : Int32) (y1 : Int32) (s0 : Mem) (H : Heap) (locs : List Loc) (ls : Array Slot), fX9_put_b67 y0 y1 s0 = some (r0, z0) → va_P D vwCl (wX9 a0 c s0) H → va_D A (wX9 a0 c s0) → va_S A s.heap H locs → lv_has ls 4 [] → W p l e rmX9_put s m args below meth cd H locs 0 0 Q (F0 m 67 ls [.int y0, .int y1, .ref (a0 14)]) := by
    intro y0 y1 s0 H locs ls h hP hD hS hl
    unfold fX9_put_b67 at h
    obtain ⟨hk67, h⟩ := ckI_i h
    refine va_iast (D := D) (f := (s0.1 23)) (pc := 67) hx hb hK hP hD hS 14 0 rfl rfl hk67 dX9_put_67 (fun H locs hP hD hS => ?_)
    obtain ⟨m0_67, em0_67, h⟩ := lt_i h
    have hP : va_P D vwCl (wX9 a0 c m0_67) H := by rw [em0_67]; exact hP
    have hD : va_D A (wX9 a0 c m0_67) := by rw [em0_67]; exact hD
    refine lv_iconst (v := 1) (pc := 68) hx hb dX9_put_68 (by decide) ?_
    have kr := KR (1 : Int32) m0_67 _ _ 69 ls h rfl hP hD hS dX9_put_69
    exact kr
  refine lv_iload_n (pc := 0) hx hb dX9_put_0 rfl (lv_at hl 1 rfl) ?_
  obtain ⟨r1, hc1, h⟩ := b1_i h
  refine g_none (st1 := [.int r1]) (gr_S (n := 1) (rest := []) (pc := 1) hx hb hml hown hts (cX9_isSheet_met l D c p0 _ hc1) gX9_put_X9_isSheet rfl rfl rfl (by decide +kernel) rfl ⟨Nat.le_of_ble_eq_true rfl, Nat.le_of_ble_eq_true rfl⟩ ⟨Nat.zero_le _, Nat.zero_le _⟩ gT_ok g_P0 (g_D0 (A := A)) hK (fun _ _ _ => trivial) hl.1 (Nat.le_of_ble_eq_true rfl) dX9_put_1 rfl) hP hS hA rfl (fun H locs hP hS => ?_)
  refine lv_if_ne (tgt := 10) (pc := 4) hx hb dX9_put_4 (by decide) (fun c4 => ?_) (fun c4 => ?_)
  · replace h := it_f c4 h
    refine lv_aload_n (pc := 10) hx hb dX9_put_10 rfl (lv_at hl 0 rfl) ?_
    refine va_get (D := D) (ci := 9) (v := .ref (a0 12)) (C := RX9) (T := TX9) (N := 24) (pc := 11) hx hb hfX9 (fun _ h9 => h9) hown hK hP 0 rfl rfl 21 (by decide) lk0 (fun _ h9 => h9) rfl dX9_put_11 ?_
    refine lv_iload_n (pc := 14) hx hb dX9_put_14 rfl (lv_at hl 1 rfl) ?_
    obtain ⟨hk15, h⟩ := ckI_i h
    refine va_iald (D := D) (f := (s0.1 21)) (pc := 15) hx hb hK hP 12 0 rfl rfl hk15 dX9_put_15 ?_
    refine lv_iconst (v := -1) (pc := 16) hx hb dX9_put_16 (by decide) ?_
    refine lv_icmp_ne (tgt := 23) (pc := 17) hx hb dX9_put_17 (by decide) (fun c17 => ?_) (fun c17 => ?_)
    · replace h := it_f c17 h
      refine lv_iload_n (pc := 23) hx hb dX9_put_23 rfl (lv_at hl 2 rfl) ?_
      refine lv_iconst (v := 0) (pc := 24) hx hb dX9_put_24 (by decide) ?_
      refine lv_aload_n (pc := 25) hx hb dX9_put_25 rfl (lv_at hl 0 rfl) ?_
      refine va_get (D := D) (ci := 9) (v := .ref (a0 13)) (C := RX9) (T := TX9) (N := 24) (pc := 26) hx hb hfX9 (fun _ h9 => h9) hown hK hP 0 rfl rfl 22 (by decide) lk1 (fun _ h9 => h9) rfl dX9_put_26 ?_
      refine lv_iload_n (pc := 29) hx hb dX9_put_29 rfl (lv_at hl 1 rfl) ?_
      obtain ⟨hk30, h⟩ := ckI_i h
      refine va_iald (D := D) (f := (s0.1 22)) (pc := 30) hx hb hK hP 13 0 rfl rfl hk30 dX9_put_30 ?_
      refine lv_iconst (v := 1) (pc := 31) hx hb dX9_put_31 (by decide) ?_
      refine lv_isub (pc := 32) hx hb dX9_put_32 ?_
      obtain ⟨r33, hc33, h⟩ := b1_i h
      refine g_none (st1 := [.int r33]) (gr_S (n := 3) (rest := []) (pc := 33) hx hb hml hown hts (cX9_isIn_met l D c p1 (0 : Int32) ((((s0.1 22) (p0).toNatClampNeg) - (1 : Int32))) _ hc33) gX9_put_X9_isIn rfl rfl rfl (by decide +kernel) rfl ⟨Nat.le_of_ble_eq_true rfl, Nat.le_of_ble_eq_true rfl⟩ ⟨Nat.zero_le _, Nat.zero_le _⟩ gT_ok g_P0 (g_D0 (A := A)) hK (fun _ _ _ => trivial) hl.1 (Nat.le_of_ble_eq_true rfl) dX9_put_33 rfl) hP hS hA rfl (fun H locs hP hS => ?_)
      refine lv_if_ne (tgt := 42) (pc := 36) hx hb dX9_put_36 (by decide) (fun c36 => ?_) (fun c36 => ?_)
      · replace h := it_f c36 h
        refine lv_aload_n (pc := 42) hx hb dX9_put_42 rfl (lv_at hl 0 rfl) ?_
        refine va_get (D := D) (ci := 9) (v := .ref (a0 14)) (C := RX9) (T := TX9) (N := 24) (pc := 43) hx hb hfX9 (fun _ h9 => h9) hown hK hP 0 rfl rfl 23 (by decide) lk2 (fun _ h9 => h9) rfl dX9_put_43 ?_
        refine lv_bipush (v := 40) (pc := 46) hx hb dX9_put_46 (by decide) ?_
        refine lv_iload_n (pc := 48) hx hb dX9_put_48 rfl (lv_at hl 1 rfl) ?_
        refine lv_imul (pc := 49) hx hb dX9_put_49 ?_
        refine lv_iload_n (pc := 50) hx hb dX9_put_50 rfl (lv_at hl 2 rfl) ?_
        refine lv_iadd (pc := 51) hx hb dX9_put_51 ?_
        refine lv_aload_n (pc := 52) hx hb dX9_put_52 rfl (lv_at hl 0 rfl) ?_
        refine va_get (D := D) (ci := 9) (v := .ref (a0 12)) (C := RX9) (T := TX9) (N := 24) (pc := 53) hx hb hfX9 (fun _ h9 => h9) hown hK hP 0 rfl rfl 21 (by decide) lk0 (fun _ h9 => h9) rfl dX9_put_53 ?_
        refine lv_iload_n (pc := 56) hx hb dX9_put_56 rfl (lv_at hl 1 rfl) ?_
        obtain ⟨hk57, h⟩ := ckI_i h
        refine va_iald (D := D) (f := (s0.1 21)) (pc := 57) hx hb hK hP 12 0 rfl rfl hk57 dX9_put_57 ?_
        refine lv_if_ne (tgt := 66) (pc := 58) hx hb dX9_put_58 (by decide) (fun c58 => ?_) (fun c58 => ?_)
        · replace h := it_f c58 h
          refine lv_iload_n (pc := 66) hx hb dX9_put_66 rfl (lv_at hl 3 rfl) ?_
          have jr := J67 p2 ((((40 : Int32) * p0) + p1)) s0 _ _ ls h hP hD hS (lv_sub hl [] rfl)
          exact jr
        · replace h := it_t c58 h
          refine lv_iload_n (pc := 61) hx hb dX9_put_61 rfl (lv_at hl 3 rfl) ?_
          refine lv_i2b (v := ((p2).toInt8.toInt32)) (pc := 62) hx hb dX9_put_62 rfl ?_
          refine lv_goto (tgt := 67) (pc := 63) hx hb dX9_put_63 (by decide) ?_
          have jr := J67 (((p2).toInt8.toInt32)) ((((40 : Int32) * p0) + p1)) s0 _ _ ls h hP hD hS (lv_sub hl [] rfl)
          exact jr
      · replace h := it_t c36 h
        refine lv_bipush (v := -12) (pc := 39) hx hb dX9_put_39 (by decide) ?_
        have kr := KR (-12 : Int32) s0 _ _ 41 ls h rfl hP hD hS dX9_put_41
        exact kr
    · replace h := it_t c17 h
      refine lv_bipush (v := -11) (pc := 20) hx hb dX9_put_20 (by decide) ?_
      have kr := KR (-11 : Int32) s0 _ _ 22 ls h rfl hP hD hS dX9_put_22
      exact kr
  · replace h := it_t c4 h
    refine lv_bipush (v := -2) (pc := 7) hx hb dX9_put_7 (by decide) ?_
    have kr := KR (-2 : Int32) s0 _ _ 9 ls h rfl hP hD hS dX9_put_9
    exact kr
abbrev rmX9_copy : Room := { frames := 2, cells := 0, slots := 0, locals := 42 }
set_option maxRecDepth 100000 in
set_option maxHeartbeats 40000000 in
theorem cX9_copy_met (l : Launch) (D : va_G) (c : Nat → ClassId) (a0 : Nat → Nat) (p0 : Int32) (p1 : Int32) (p2 : Int32) (p3 : Int32) (p4 : Int32) (s0 : Mem) (r0 : Int32) (z0 : Mem) (h : fX9_copy p0 p1 p2 p3 p4 s0 = some (r0, z0)) : gM l yX9_copy wsX9_copy rmX9_copy D (gY c) gT [.ref (a0 0), .int p0, .int p1, .int p2, .int p3, .int p4] (wX9 a0 c s0) (some (.int r0)) (wX9 a0 c z0) := by
  unfold fX9_copy at h
  refine gM.I (cc := cX9_copy) (maxL := 8) (by decide) rfl (Nat.le_of_ble_eq_true rfl) ?_
  intro p e s m args below meth cd hx hb hml hown hts A hA ls hl hP hK hD hS hE Q KR0
  have hfX9 : ∀ w ∈ u_ws RX9 TX9 24, w.before args s = true := fun w hw => hts w (List.mem_cons_of_mem _ (List.mem_append_right _ hw))
  have lk0 := hts (.fieldLink RX9 44 "GlitchNetsModel" "sheetSort" "[I") (List.mem_of_getElem? (i := 1) rfl)
  have lk1 := hts (.fieldLink RX9 47 "GlitchNetsModel" "sheetSize" "[I") (List.mem_of_getElem? (i := 2) rfl)
  have lk2 := hts (.fieldLink RX9 50 "GlitchNetsModel" "item" "[I") (List.mem_of_getElem? (i := 3) rfl)
  have KR : ∀ (v : Int32) (w0 : Mem) (H : Heap) (locs : List Loc) (pc : Nat) (ls : Array Slot), some (v, w0) = some (r0, z0) → narrow .int (.int v) = .int v → va_P D vwCl (wX9 a0 c w0) H → va_D A (wX9 a0 c w0) → va_S A s.heap H locs → decode cX9_copy pc = .ok (.ireturn, 1) → W p l e rmX9_copy s m args below meth cd H locs 0 0 Q (F0 m pc ls [.int v]) := by
    intro v w0 H locs pc ls hr hn hP hD hS hd
    cases hr
    exact KR0 _ H locs pc ls rfl hn hP hD hS hd
  have hl : lv_has ls 8 [(0, .ref (a0 0)), (1, .int p0), (2, .int p1), (3, .int p2), (4, .int p3), (5, .int p4)] := hl
  have J130 : ∀ (K105 : Int32 → Int32 → Int32 → Int32 → Int32 → Int32 → Mem → Option (Int32 × Mem)) (K105h : ∀ (x1 : Int32) (x2 : Int32) (x3 : Int32) (x4 : Int32) (x5 : Int32) (x6 : Int32) (s0 : Mem) (H : Heap) (locs : List Loc) (ls : Array Slot), K105 x1 x2 x3 x4 x5 x6 s0 = some (r0, z0) → va_P D vwCl (wX9 a0 c s0) H → va_D A (wX9 a0 c s0) → va_S A s.heap H locs → lv_has ls 8 [(0, .ref (a0 0)), (1, .int x1), (2, .int x2), (3, .int x3), (4, .int x4), (5, .int x5), (6, .int x6)] → W p l e rmX9_copy s m args below meth cd H locs 0 0 Q (F0 m 105 ls [])) (x1 : Int32) (x2 : Int32) (x3 : Int32) (x4 : Int32) (x5 : Int32) (x6 : Int32) (y0 : Int32) (s0 : Mem) (H : Heap) (locs : List Loc) (ls : Array Slot), fX9_copy_b130 K105 x1 x2 x3 x4 x5 x6 y0 s0 = some (r0, z0) → va_P D vwCl (wX9 a0 c s0) H → va_D A (wX9 a0 c s0) → va_S A s.heap H locs → lv_has ls 8 [(0, .ref (a0 0)), (1, .int x1), (2, .int x2), (3, .int x3), (4, .int x4), (5, .int x5), (6, .int x6)] → W p l e rmX9_copy s m args below meth cd H locs 0 0 Q (F0 m 130 ls [.int y0]) := by
    intro K105 K105h x1 x2 x3 x4 x5 x6 y0 s0 H locs ls h hP hD hS hl
    unfold fX9_copy_b130 at h
    refine lv_istore (lv' := [(7, .int y0), (0, .ref (a0 0)), (1, .int x1), (2, .int x2), (3, .int x3), (4, .int x4), (5, .int x5), (6, .int x6)]) (pc := 130) hx hb dX9_copy_130 hl (by decide) rfl (fun ls hl => ?_)
    refine lv_aload_n (pc := 132) hx hb dX9_copy_132 rfl (lv_at hl 1 rfl) ?_
    refine va_get (D := D) (ci := 9) (v := .ref (a0 14)) (C := RX9) (T := TX9) (N := 24) (pc := 133) hx hb hfX9 (fun _ h9 => h9) hown hK hP 0 rfl rfl 23 (by decide) lk2 (fun _ h9 => h9) rfl dX9_copy_133 ?_
    refine lv_bipush (v := 40) (pc := 136) hx hb dX9_copy_136 (by decide) ?_
    refine lv_iload_n (pc := 138) hx hb dX9_copy_138 rfl (lv_at hl 4 rfl) ?_
    refine lv_imul (pc := 139) hx hb dX9_copy_139 ?_
    refine lv_iload (pc := 140) hx hb dX9_copy_140 (lv_at hl 5 rfl) ?_
    refine lv_iadd (pc := 142) hx hb dX9_copy_142 ?_
    refine lv_iload (pc := 143) hx hb dX9_copy_143 (lv_at hl 0 rfl) ?_
    refine lv_iadd (pc := 145) hx hb dX9_copy_145 ?_
    refine lv_aload_n (pc := 146) hx hb dX9_copy_146 rfl (lv_at hl 1 rfl) ?_
    refine va_get (D := D) (ci := 9) (v := .ref (a0 14)) (C := RX9) (T := TX9) (N := 24) (pc := 147) hx hb hfX9 (fun _ h9 => h9) hown hK hP 0 rfl rfl 23 (by decide) lk2 (fun _ h9 => h9) rfl dX9_copy_147 ?_
    refine lv_bipush (v := 40) (pc := 150) hx hb dX9_copy_150 (by decide) ?_
    refine lv_iload_n (pc := 152) hx hb dX9_copy_152 rfl (lv_at hl 2 rfl) ?_
    refine lv_imul (pc := 153) hx hb dX9_copy_153 ?_
    refine lv_iload_n (pc := 154) hx hb dX9_copy_154 rfl (lv_at hl 3 rfl) ?_
    refine lv_iadd (pc := 155) hx hb dX9_copy_155 ?_
    refine lv_iload (pc := 156) hx hb dX9_copy_156 (lv_at hl 0 rfl) ?_
    refine lv_iadd (pc := 158) hx hb dX9_copy_158 ?_
    obtain ⟨hk159, h⟩ := ckI_i h
    refine va_iald (D := D) (f := (s0.1 23)) (pc := 159) hx hb hK hP 14 0 rfl rfl hk159 dX9_copy_159 ?_
    obtain ⟨hk160, h⟩ := ckI_i h
    refine va_iast (D := D) (f := (s0.1 23)) (pc := 160) hx hb hK hP hD hS 14 0 rfl rfl hk160 dX9_copy_160 (fun H locs hP hD hS => ?_)
    obtain ⟨m0_160, em0_160, h⟩ := lt_i h
    have hP : va_P D vwCl (wX9 a0 c m0_160) H := by rw [em0_160]; exact hP
    have hD : va_D A (wX9 a0 c m0_160) := by rw [em0_160]; exact hD
    obtain ⟨v6_161, ev6_161, h⟩ := lt_i h
    refine lv_iinc (v := v6_161) (lv' := [(6, .int v6_161), (7, .int y0), (0, .ref (a0 0)), (1, .int x1), (2, .int x2), (3, .int x3), (4, .int x4), (5, .int x5)]) (pc := 161) hx hb dX9_copy_161 hl (k := 7) rfl (by rw [ev6_161]; rfl) (by decide) rfl (fun ls hl => ?_)
    refine lv_goto (tgt := 105) (pc := 164) hx hb dX9_copy_164 (by decide) ?_
    have jr := K105h x1 x2 x3 x4 x5 v6_161 m0_160 _ _ ls h hP hD hS (lv_sub hl [2, 3, 4, 5, 6, 7, 0] rfl)
    exact jr
  have J105 : ∀ (n : Nat) (x1 : Int32) (x2 : Int32) (x3 : Int32) (x4 : Int32) (x5 : Int32) (x6 : Int32) (s0 : Mem) (H : Heap) (locs : List Loc) (ls : Array Slot), fX9_copy_b105 n x1 x2 x3 x4 x5 x6 s0 = some (r0, z0) → va_P D vwCl (wX9 a0 c s0) H → va_D A (wX9 a0 c s0) → va_S A s.heap H locs → lv_has ls 8 [(0, .ref (a0 0)), (1, .int x1), (2, .int x2), (3, .int x3), (4, .int x4), (5, .int x5), (6, .int x6)] → W p l e rmX9_copy s m args below meth cd H locs 0 0 Q (F0 m 105 ls []) := by
    intro n
    induction n with
    | zero =>
      intro x1 x2 x3 x4 x5 x6 s0 H locs ls h _ _ _ _
      cases (show (none : Option (Int32 × Mem)) = some _ from h)
    | succ n K105h =>
      intro x1 x2 x3 x4 x5 x6 s0 H locs ls h hP hD hS hl
      rw [fX9_copy_b105] at h
      refine lv_iload (pc := 105) hx hb dX9_copy_105 (lv_at hl 6 rfl) ?_
      refine lv_iload (pc := 107) hx hb dX9_copy_107 (lv_at hl 5 rfl) ?_
      refine lv_icmp_ge (tgt := 167) (pc := 109) hx hb dX9_copy_109 (by decide) (fun c109 => ?_) (fun c109 => ?_)
      · replace h := it_t c109 h
        refine lv_iload (pc := 167) hx hb dX9_copy_167 (lv_at hl 5 rfl) ?_
        have kr := KR x5 s0 _ _ 169 ls h rfl hP hD hS dX9_copy_169
        exact kr
      · replace h := it_f c109 h
        refine lv_iload_n (pc := 112) hx hb dX9_copy_112 rfl (lv_at hl 2 rfl) ?_
        refine lv_iload (pc := 113) hx hb dX9_copy_113 (lv_at hl 4 rfl) ?_
        refine lv_icmp_le (tgt := 123) (pc := 115) hx hb dX9_copy_115 (by decide) (fun c115 => ?_) (fun c115 => ?_)
        · replace h := it_t c115 h
          refine lv_iload (pc := 123) hx hb dX9_copy_123 (lv_at hl 5 rfl) ?_
          refine lv_iconst (v := 1) (pc := 125) hx hb dX9_copy_125 (by decide) ?_
          refine lv_isub (pc := 126) hx hb dX9_copy_126 ?_
          refine lv_iload (pc := 127) hx hb dX9_copy_127 (lv_at hl 6 rfl) ?_
          refine lv_isub (pc := 129) hx hb dX9_copy_129 ?_
          have jr := J130 (fX9_copy_b105 n) K105h x1 x2 x3 x4 x5 x6 (((x5 - (1 : Int32)) - x6)) s0 _ _ ls h hP hD hS hl
          exact jr
        · replace h := it_f c115 h
          refine lv_iload (pc := 118) hx hb dX9_copy_118 (lv_at hl 6 rfl) ?_
          refine lv_goto (tgt := 130) (pc := 120) hx hb dX9_copy_120 (by decide) ?_
          have jr := J130 (fX9_copy_b105 n) K105h x1 x2 x3 x4 x5 x6 x6 s0 _ _ ls h hP hD hS hl
          exact jr
  refine lv_iload_n (pc := 0) hx hb dX9_copy_0 rfl (lv_at hl 1 rfl) ?_
  obtain ⟨r1, hc1, h⟩ := b1_i h
  refine g_none (st1 := [.int r1]) (gr_S (n := 1) (rest := []) (pc := 1) hx hb hml hown hts (cX9_isSheet_met l D c p0 _ hc1) gX9_copy_X9_isSheet rfl rfl rfl (by decide +kernel) rfl ⟨Nat.le_of_ble_eq_true rfl, Nat.le_of_ble_eq_true rfl⟩ ⟨Nat.zero_le _, Nat.zero_le _⟩ gT_ok g_P0 (g_D0 (A := A)) hK (fun _ _ _ => trivial) hl.1 (Nat.le_of_ble_eq_true rfl) dX9_copy_1 rfl) hP hS hA rfl (fun H locs hP hS => ?_)
  refine lv_if_eq (tgt := 14) (pc := 4) hx hb dX9_copy_4 (by decide) (fun c4 => ?_) (fun c4 => ?_)
  · replace h := it_t c4 h
    refine lv_bipush (v := -2) (pc := 14) hx hb dX9_copy_14 (by decide) ?_
    have kr := KR (-2 : Int32) s0 _ _ 16 ls h rfl hP hD hS dX9_copy_16
    exact kr
  · replace h := it_f c4 h
    refine lv_iload_n (pc := 7) hx hb dX9_copy_7 rfl (lv_at hl 3 rfl) ?_
    obtain ⟨r8, hc8, h⟩ := b1_i h
    refine g_none (st1 := [.int r8]) (gr_S (n := 1) (rest := []) (pc := 8) hx hb hml hown hts (cX9_isSheet_met l D c p2 _ hc8) gX9_copy_X9_isSheet rfl rfl rfl (by decide +kernel) rfl ⟨Nat.le_of_ble_eq_true rfl, Nat.le_of_ble_eq_true rfl⟩ ⟨Nat.zero_le _, Nat.zero_le _⟩ gT_ok g_P0 (g_D0 (A := A)) hK (fun _ _ _ => trivial) hl.1 (Nat.le_of_ble_eq_true rfl) dX9_copy_8 rfl) hP hS hA rfl (fun H locs hP hS => ?_)
    refine lv_if_ne (tgt := 17) (pc := 11) hx hb dX9_copy_11 (by decide) (fun c11 => ?_) (fun c11 => ?_)
    · replace h := it_f c11 h
      refine lv_aload_n (pc := 17) hx hb dX9_copy_17 rfl (lv_at hl 0 rfl) ?_
      refine va_get (D := D) (ci := 9) (v := .ref (a0 12)) (C := RX9) (T := TX9) (N := 24) (pc := 18) hx hb hfX9 (fun _ h9 => h9) hown hK hP 0 rfl rfl 21 (by decide) lk0 (fun _ h9 => h9) rfl dX9_copy_18 ?_
      refine lv_iload_n (pc := 21) hx hb dX9_copy_21 rfl (lv_at hl 1 rfl) ?_
      obtain ⟨hk22, h⟩ := ckI_i h
      refine va_iald (D := D) (f := (s0.1 21)) (pc := 22) hx hb hK hP 12 0 rfl rfl hk22 dX9_copy_22 ?_
      refine lv_iconst (v := -1) (pc := 23) hx hb dX9_copy_23 (by decide) ?_
      refine lv_icmp_eq (tgt := 37) (pc := 24) hx hb dX9_copy_24 (by decide) (fun c24 => ?_) (fun c24 => ?_)
      · replace h := it_t c24 h
        refine lv_bipush (v := -11) (pc := 37) hx hb dX9_copy_37 (by decide) ?_
        have kr := KR (-11 : Int32) s0 _ _ 39 ls h rfl hP hD hS dX9_copy_39
        exact kr
      · replace h := it_f c24 h
        refine lv_aload_n (pc := 27) hx hb dX9_copy_27 rfl (lv_at hl 0 rfl) ?_
        refine va_get (D := D) (ci := 9) (v := .ref (a0 12)) (C := RX9) (T := TX9) (N := 24) (pc := 28) hx hb hfX9 (fun _ h9 => h9) hown hK hP 0 rfl rfl 21 (by decide) lk0 (fun _ h9 => h9) rfl dX9_copy_28 ?_
        refine lv_iload_n (pc := 31) hx hb dX9_copy_31 rfl (lv_at hl 3 rfl) ?_
        obtain ⟨hk32, h⟩ := ckI_i h
        refine va_iald (D := D) (f := (s0.1 21)) (pc := 32) hx hb hK hP 12 0 rfl rfl hk32 dX9_copy_32 ?_
        refine lv_iconst (v := -1) (pc := 33) hx hb dX9_copy_33 (by decide) ?_
        refine lv_icmp_ne (tgt := 40) (pc := 34) hx hb dX9_copy_34 (by decide) (fun c34 => ?_) (fun c34 => ?_)
        · replace h := it_f c34 h
          refine lv_aload_n (pc := 40) hx hb dX9_copy_40 rfl (lv_at hl 0 rfl) ?_
          refine va_get (D := D) (ci := 9) (v := .ref (a0 12)) (C := RX9) (T := TX9) (N := 24) (pc := 41) hx hb hfX9 (fun _ h9 => h9) hown hK hP 0 rfl rfl 21 (by decide) lk0 (fun _ h9 => h9) rfl dX9_copy_41 ?_
          refine lv_iload_n (pc := 44) hx hb dX9_copy_44 rfl (lv_at hl 1 rfl) ?_
          obtain ⟨hk45, h⟩ := ckI_i h
          refine va_iald (D := D) (f := (s0.1 21)) (pc := 45) hx hb hK hP 12 0 rfl rfl hk45 dX9_copy_45 ?_
          refine lv_aload_n (pc := 46) hx hb dX9_copy_46 rfl (lv_at hl 0 rfl) ?_
          refine va_get (D := D) (ci := 9) (v := .ref (a0 12)) (C := RX9) (T := TX9) (N := 24) (pc := 47) hx hb hfX9 (fun _ h9 => h9) hown hK hP 0 rfl rfl 21 (by decide) lk0 (fun _ h9 => h9) rfl dX9_copy_47 ?_
          refine lv_iload_n (pc := 50) hx hb dX9_copy_50 rfl (lv_at hl 3 rfl) ?_
          obtain ⟨hk51, h⟩ := ckI_i h
          refine va_iald (D := D) (f := (s0.1 21)) (pc := 51) hx hb hK hP 12 0 rfl rfl hk51 dX9_copy_51 ?_
          refine lv_icmp_eq (tgt := 58) (pc := 52) hx hb dX9_copy_52 (by decide) (fun c52 => ?_) (fun c52 => ?_)
          · replace h := it_t c52 h
            refine lv_iload (pc := 58) hx hb dX9_copy_58 (lv_at hl 5 rfl) ?_
            refine lv_if_lt (tgt := 99) (pc := 60) hx hb dX9_copy_60 (by decide) (fun c60 => ?_) (fun c60 => ?_)
            · replace h := it_t c60 h
              refine lv_bipush (v := -12) (pc := 99) hx hb dX9_copy_99 (by decide) ?_
              have kr := KR (-12 : Int32) s0 _ _ 101 ls h rfl hP hD hS dX9_copy_101
              exact kr
            · replace h := it_f c60 h
              refine lv_iload_n (pc := 63) hx hb dX9_copy_63 rfl (lv_at hl 2 rfl) ?_
              refine lv_if_lt (tgt := 99) (pc := 64) hx hb dX9_copy_64 (by decide) (fun c64 => ?_) (fun c64 => ?_)
              · replace h := it_t c64 h
                refine lv_bipush (v := -12) (pc := 99) hx hb dX9_copy_99 (by decide) ?_
                have kr := KR (-12 : Int32) s0 _ _ 101 ls h rfl hP hD hS dX9_copy_101
                exact kr
              · replace h := it_f c64 h
                refine lv_iload (pc := 67) hx hb dX9_copy_67 (lv_at hl 4 rfl) ?_
                refine lv_if_lt (tgt := 99) (pc := 69) hx hb dX9_copy_69 (by decide) (fun c69 => ?_) (fun c69 => ?_)
                · replace h := it_t c69 h
                  refine lv_bipush (v := -12) (pc := 99) hx hb dX9_copy_99 (by decide) ?_
                  have kr := KR (-12 : Int32) s0 _ _ 101 ls h rfl hP hD hS dX9_copy_101
                  exact kr
                · replace h := it_f c69 h
                  refine lv_iload (pc := 72) hx hb dX9_copy_72 (lv_at hl 5 rfl) ?_
                  refine lv_aload_n (pc := 74) hx hb dX9_copy_74 rfl (lv_at hl 0 rfl) ?_
                  refine va_get (D := D) (ci := 9) (v := .ref (a0 13)) (C := RX9) (T := TX9) (N := 24) (pc := 75) hx hb hfX9 (fun _ h9 => h9) hown hK hP 0 rfl rfl 22 (by decide) lk1 (fun _ h9 => h9) rfl dX9_copy_75 ?_
                  refine lv_iload_n (pc := 78) hx hb dX9_copy_78 rfl (lv_at hl 1 rfl) ?_
                  obtain ⟨hk79, h⟩ := ckI_i h
                  refine va_iald (D := D) (f := (s0.1 22)) (pc := 79) hx hb hK hP 13 0 rfl rfl hk79 dX9_copy_79 ?_
                  refine lv_iload_n (pc := 80) hx hb dX9_copy_80 rfl (lv_at hl 2 rfl) ?_
                  refine lv_isub (pc := 81) hx hb dX9_copy_81 ?_
                  refine lv_icmp_gt (tgt := 99) (pc := 82) hx hb dX9_copy_82 (by decide) (fun c82 => ?_) (fun c82 => ?_)
                  · replace h := it_t c82 h
                    refine lv_bipush (v := -12) (pc := 99) hx hb dX9_copy_99 (by decide) ?_
                    have kr := KR (-12 : Int32) s0 _ _ 101 ls h rfl hP hD hS dX9_copy_101
                    exact kr
                  · replace h := it_f c82 h
                    refine lv_iload (pc := 85) hx hb dX9_copy_85 (lv_at hl 5 rfl) ?_
                    refine lv_aload_n (pc := 87) hx hb dX9_copy_87 rfl (lv_at hl 0 rfl) ?_
                    refine va_get (D := D) (ci := 9) (v := .ref (a0 13)) (C := RX9) (T := TX9) (N := 24) (pc := 88) hx hb hfX9 (fun _ h9 => h9) hown hK hP 0 rfl rfl 22 (by decide) lk1 (fun _ h9 => h9) rfl dX9_copy_88 ?_
                    refine lv_iload_n (pc := 91) hx hb dX9_copy_91 rfl (lv_at hl 3 rfl) ?_
                    obtain ⟨hk92, h⟩ := ckI_i h
                    refine va_iald (D := D) (f := (s0.1 22)) (pc := 92) hx hb hK hP 13 0 rfl rfl hk92 dX9_copy_92 ?_
                    refine lv_iload (pc := 93) hx hb dX9_copy_93 (lv_at hl 4 rfl) ?_
                    refine lv_isub (pc := 95) hx hb dX9_copy_95 ?_
                    refine lv_icmp_le (tgt := 102) (pc := 96) hx hb dX9_copy_96 (by decide) (fun c96 => ?_) (fun c96 => ?_)
                    · replace h := it_t c96 h
                      refine lv_iconst (v := 0) (pc := 102) hx hb dX9_copy_102 (by decide) ?_
                      refine lv_istore (lv' := [(6, .int (0 : Int32)), (0, .ref (a0 0)), (1, .int p0), (2, .int p1), (3, .int p2), (4, .int p3), (5, .int p4)]) (pc := 103) hx hb dX9_copy_103 hl (by decide) rfl (fun ls hl => ?_)
                      have jr := J105 FU p0 p1 p2 p3 p4 (0 : Int32) s0 _ _ ls h hP hD hS (lv_sub hl [1, 2, 3, 4, 5, 6, 0] rfl)
                      exact jr
                    · replace h := it_f c96 h
                      refine lv_bipush (v := -12) (pc := 99) hx hb dX9_copy_99 (by decide) ?_
                      have kr := KR (-12 : Int32) s0 _ _ 101 ls h rfl hP hD hS dX9_copy_101
                      exact kr
          · replace h := it_f c52 h
            refine lv_bipush (v := -13) (pc := 55) hx hb dX9_copy_55 (by decide) ?_
            have kr := KR (-13 : Int32) s0 _ _ 57 ls h rfl hP hD hS dX9_copy_57
            exact kr
        · replace h := it_t c34 h
          refine lv_bipush (v := -11) (pc := 37) hx hb dX9_copy_37 (by decide) ?_
          have kr := KR (-11 : Int32) s0 _ _ 39 ls h rfl hP hD hS dX9_copy_39
          exact kr
    · replace h := it_t c11 h
      refine lv_bipush (v := -2) (pc := 14) hx hb dX9_copy_14 (by decide) ?_
      have kr := KR (-2 : Int32) s0 _ _ 16 ls h rfl hP hD hS dX9_copy_16
      exact kr
abbrev rmX9_load : Room := { frames := 3, cells := 0, slots := 0, locals := 65 }
set_option maxRecDepth 100000 in
set_option maxHeartbeats 40000000 in
theorem cX9_load_met (l : Launch) (D : va_G) (c : Nat → ClassId) (a0 : Nat → Nat) (p0 : Int32) (p1 : Int32) (p2 : Int32) (p3 : Int32) (s0 : Mem) (r0 : Int32) (z0 : Mem) (h : fX9_load p0 p1 p2 p3 s0 = some (r0, z0)) : gM l yX9_load wsX9_load rmX9_load D (gY c) gT [.ref (a0 0), .int p0, .int p1, .int p2, .int p3] (wX9 a0 c s0) (some (.int r0)) (wX9 a0 c z0) := by
  unfold fX9_load at h
  refine gM.I (cc := cX9_load) (maxL := 8) (by decide) rfl (Nat.le_of_ble_eq_true rfl) ?_
  intro p e s m args below meth cd hx hb hml hown hts A hA ls hl hP hK hD hS hE Q KR0
  have hfX9 : ∀ w ∈ u_ws RX9 TX9 24, w.before args s = true := fun w hw => hts w (List.mem_cons_of_mem _ (List.mem_append_right _ hw))
  have lk0 := hts (.fieldLink RX9 44 "GlitchNetsModel" "sheetSort" "[I") (List.mem_of_getElem? (i := 1) rfl)
  have lk1 := hts (.fieldLink RX9 47 "GlitchNetsModel" "sheetSize" "[I") (List.mem_of_getElem? (i := 2) rfl)
  have lk2 := hts (.fieldLink RX9 50 "GlitchNetsModel" "item" "[I") (List.mem_of_getElem? (i := 3) rfl)
  have KR : ∀ (v : Int32) (w0 : Mem) (H : Heap) (locs : List Loc) (pc : Nat) (ls : Array Slot), some (v, w0) = some (r0, z0) → narrow .int (.int v) = .int v → va_P D vwCl (wX9 a0 c w0) H → va_D A (wX9 a0 c w0) → va_S A s.heap H locs → decode cX9_load pc = .ok (.ireturn, 1) → W p l e rmX9_load s m args below meth cd H locs 0 0 Q (F0 m pc ls [.int v]) := by
    intro v w0 H locs pc ls hr hn hP hD hS hd
    cases hr
    exact KR0 _ H locs pc ls rfl hn hP hD hS hd
  have hl : lv_has ls 8 [(0, .ref (a0 0)), (1, .int p0), (2, .int p1), (3, .int p2), (4, .int p3)] := hl
  have J136 : ∀ (K62 : Int32 → Int32 → Int32 → Int32 → Int32 → Mem → Option (Int32 × Mem)) (K62h : ∀ (x1 : Int32) (x3 : Int32) (x4 : Int32) (x5 : Int32) (x6 : Int32) (s0 : Mem) (H : Heap) (locs : List Loc) (ls : Array Slot), K62 x1 x3 x4 x5 x6 s0 = some (r0, z0) → va_P D vwCl (wX9 a0 c s0) H → va_D A (wX9 a0 c s0) → va_S A s.heap H locs → lv_has ls 8 [(0, .ref (a0 0)), (1, .int x1), (3, .int x3), (4, .int x4), (5, .int x5), (6, .int x6)] → W p l e rmX9_load s m args below meth cd H locs 0 0 Q (F0 m 62 ls [])) (x1 : Int32) (x3 : Int32) (x4 : Int32) (x6 : Int32) (y0 : Int32) (y1 : Int32) (s0 : Mem) (H : Heap) (locs : List Loc) (ls : Array Slot), fX9_load_b136 K62 x1 x3 x4 x6 y0 y1 s0 = some (r0, z0) → va_P D vwCl (wX9 a0 c s0) H → va_D A (wX9 a0 c s0) → va_S A s.heap H locs → lv_has ls 8 [(0, .ref (a0 0)), (1, .int x1), (3, .int x3), (4, .int x4), (6, .int x6)] → W p l e rmX9_load s m args below meth cd H locs 0 0 Q (F0 m 136 ls [.int y0, .int y1]) := by
    intro K62 K62h x1 x3 x4 x6 y0 y1 s0 H locs ls h hP hD hS hl
    unfold fX9_load_b136 at h
    refine lv_iadd (pc := 136) hx hb dX9_load_136 ?_
    refine lv_topi (fun v5_137 ev5_137 => ?_)
    replace h := lt_e ev5_137 h
    refine lv_istore (lv' := [(5, .int v5_137), (0, .ref (a0 0)), (1, .int x1), (3, .int x3), (4, .int x4), (6, .int x6)]) (pc := 137) hx hb dX9_load_137 hl (by decide) rfl (fun ls hl => ?_)
    obtain ⟨v6_139, ev6_139, h⟩ := lt_i h
    refine lv_iinc (v := v6_139) (lv' := [(6, .int v6_139), (5, .int v5_137), (0, .ref (a0 0)), (1, .int x1), (3, .int x3), (4, .int x4)]) (pc := 139) hx hb dX9_load_139 hl (k := 5) rfl (by rw [ev6_139]; rfl) (by decide) rfl (fun ls hl => ?_)
    refine lv_goto (tgt := 62) (pc := 142) hx hb dX9_load_142 (by decide) ?_
    have jr := K62h x1 x3 x4 v5_137 v6_139 s0 _ _ ls h hP hD hS (lv_sub hl [2, 3, 4, 5, 1, 0] rfl)
    exact jr
  have J62 : ∀ (n : Nat) (x1 : Int32) (x3 : Int32) (x4 : Int32) (x5 : Int32) (x6 : Int32) (s0 : Mem) (H : Heap) (locs : List Loc) (ls : Array Slot), fX9_load_b62 n x1 x3 x4 x5 x6 s0 = some (r0, z0) → va_P D vwCl (wX9 a0 c s0) H → va_D A (wX9 a0 c s0) → va_S A s.heap H locs → lv_has ls 8 [(0, .ref (a0 0)), (1, .int x1), (3, .int x3), (4, .int x4), (5, .int x5), (6, .int x6)] → W p l e rmX9_load s m args below meth cd H locs 0 0 Q (F0 m 62 ls []) := by
    intro n
    induction n with
    | zero =>
      intro x1 x3 x4 x5 x6 s0 H locs ls h _ _ _ _
      cases (show (none : Option (Int32 × Mem)) = some _ from h)
    | succ n K62h =>
      intro x1 x3 x4 x5 x6 s0 H locs ls h hP hD hS hl
      rw [fX9_load_b62] at h
      refine lv_iload (pc := 62) hx hb dX9_load_62 (lv_at hl 5 rfl) ?_
      refine lv_iload (pc := 64) hx hb dX9_load_64 (lv_at hl 3 rfl) ?_
      refine lv_icmp_ge (tgt := 145) (pc := 66) hx hb dX9_load_66 (by decide) (fun c66 => ?_) (fun c66 => ?_)
      · replace h := it_t c66 h
        refine lv_iload (pc := 145) hx hb dX9_load_145 (lv_at hl 4 rfl) ?_
        have kr := KR x5 s0 _ _ 147 ls h rfl hP hD hS dX9_load_147
        exact kr
      · replace h := it_f c66 h
        refine lv_iload_n (pc := 69) hx hb dX9_load_69 rfl (lv_at hl 2 rfl) ?_
        refine lv_if_lt (tgt := 90) (pc := 70) hx hb dX9_load_70 (by decide) (fun c70 => ?_) (fun c70 => ?_)
        · replace h := it_t c70 h
          refine lv_bipush (v := -12) (pc := 90) hx hb dX9_load_90 (by decide) ?_
          have kr := KR (-12 : Int32) s0 _ _ 92 ls h rfl hP hD hS dX9_load_92
          exact kr
        · replace h := it_f c70 h
          refine lv_iload_n (pc := 73) hx hb dX9_load_73 rfl (lv_at hl 2 rfl) ?_
          refine lv_aload_n (pc := 74) hx hb dX9_load_74 rfl (lv_at hl 0 rfl) ?_
          refine va_get (D := D) (ci := 9) (v := .ref (a0 13)) (C := RX9) (T := TX9) (N := 24) (pc := 75) hx hb hfX9 (fun _ h9 => h9) hown hK hP 0 rfl rfl 22 (by decide) lk1 (fun _ h9 => h9) rfl dX9_load_75 ?_
          refine lv_iload_n (pc := 78) hx hb dX9_load_78 rfl (lv_at hl 1 rfl) ?_
          obtain ⟨hk79, h⟩ := ckI_i h
          refine va_iald (D := D) (f := (s0.1 22)) (pc := 79) hx hb hK hP 13 0 rfl rfl hk79 dX9_load_79 ?_
          refine lv_iconst (v := 2) (pc := 80) hx hb dX9_load_80 (by decide) ?_
          refine lv_iload (pc := 81) hx hb dX9_load_81 (lv_at hl 5 rfl) ?_
          refine lv_imul (pc := 83) hx hb dX9_load_83 ?_
          refine lv_isub (pc := 84) hx hb dX9_load_84 ?_
          refine lv_iconst (v := 2) (pc := 85) hx hb dX9_load_85 (by decide) ?_
          refine lv_isub (pc := 86) hx hb dX9_load_86 ?_
          refine lv_icmp_le (tgt := 93) (pc := 87) hx hb dX9_load_87 (by decide) (fun c87 => ?_) (fun c87 => ?_)
          · replace h := it_t c87 h
            refine lv_bipush (v := 40) (pc := 93) hx hb dX9_load_93 (by decide) ?_
            refine lv_iload_n (pc := 95) hx hb dX9_load_95 rfl (lv_at hl 1 rfl) ?_
            refine lv_imul (pc := 96) hx hb dX9_load_96 ?_
            refine lv_iload_n (pc := 97) hx hb dX9_load_97 rfl (lv_at hl 2 rfl) ?_
            refine lv_iadd (pc := 98) hx hb dX9_load_98 ?_
            refine lv_iconst (v := 2) (pc := 99) hx hb dX9_load_99 (by decide) ?_
            refine lv_iload (pc := 100) hx hb dX9_load_100 (lv_at hl 5 rfl) ?_
            refine lv_imul (pc := 102) hx hb dX9_load_102 ?_
            refine lv_iadd (pc := 103) hx hb dX9_load_103 ?_
            refine lv_topi (fun v7_104 ev7_104 => ?_)
            replace h := lt_e ev7_104 h
            refine lv_istore (lv' := [(7, .int v7_104), (0, .ref (a0 0)), (1, .int x1), (3, .int x3), (4, .int x4), (5, .int x5), (6, .int x6)]) (pc := 104) hx hb dX9_load_104 hl (by decide) rfl (fun ls hl => ?_)
            refine lv_iload (pc := 106) hx hb dX9_load_106 (lv_at hl 5 rfl) ?_
            refine lv_aload_n (pc := 108) hx hb dX9_load_108 rfl (lv_at hl 1 rfl) ?_
            refine lv_aload_n (pc := 109) hx hb dX9_load_109 rfl (lv_at hl 1 rfl) ?_
            refine va_get (D := D) (ci := 9) (v := .ref (a0 14)) (C := RX9) (T := TX9) (N := 24) (pc := 110) hx hb hfX9 (fun _ h9 => h9) hown hK hP 0 rfl rfl 23 (by decide) lk2 (fun _ h9 => h9) rfl dX9_load_110 ?_
            refine lv_iload (pc := 113) hx hb dX9_load_113 (lv_at hl 0 rfl) ?_
            obtain ⟨hk115, h⟩ := ckI_i h
            refine va_iald (D := D) (f := (s0.1 23)) (pc := 115) hx hb hK hP 14 0 rfl rfl hk115 dX9_load_115 ?_
            refine lv_aload_n (pc := 116) hx hb dX9_load_116 rfl (lv_at hl 1 rfl) ?_
            refine va_get (D := D) (ci := 9) (v := .ref (a0 14)) (C := RX9) (T := TX9) (N := 24) (pc := 117) hx hb hfX9 (fun _ h9 => h9) hown hK hP 0 rfl rfl 23 (by decide) lk2 (fun _ h9 => h9) rfl dX9_load_117 ?_
            refine lv_iload (pc := 120) hx hb dX9_load_120 (lv_at hl 0 rfl) ?_
            refine lv_iconst (v := 1) (pc := 122) hx hb dX9_load_122 (by decide) ?_
            refine lv_iadd (pc := 123) hx hb dX9_load_123 ?_
            obtain ⟨hk124, h⟩ := ckI_i h
            refine va_iald (D := D) (f := (s0.1 23)) (pc := 124) hx hb hK hP 14 0 rfl rfl hk124 dX9_load_124 ?_
            obtain ⟨r125, t0_125, hc125, h⟩ := b2_i h
            refine g_all (st1 := [.int r125, .int x5]) (gr_V (n := 2) (rest := [.int x5]) (pc := 125) hx hb hml hown hts (cX9_term_met l D c a0 (((s0.1 23) (v7_104).toNatClampNeg)) (((s0.1 23) ((v7_104 + (1 : Int32))).toNatClampNeg)) s0 _ _ hc125) gX9_load_X9_term rfl rfl rfl (by decide +kernel) rfl ⟨Nat.le_of_ble_eq_true rfl, Nat.le_of_ble_eq_true rfl⟩ ⟨Nat.zero_le _, Nat.zero_le _⟩ 0 9 rfl rfl rfl gT_ok hP hD hK (fun _ _ _ => trivial) hl.1 (Nat.le_of_ble_eq_true rfl) dX9_load_125 rfl) hD hS hA rfl (fun H locs hP hD hS => ?_)
            refine lv_if_lt (tgt := 135) (pc := 128) hx hb dX9_load_128 (by decide) (fun c128 => ?_) (fun c128 => ?_)
            · replace h := it_t c128 h
              refine lv_iconst (v := 0) (pc := 135) hx hb dX9_load_135 (by decide) ?_
              have jr := J136 (fX9_load_b62 n) K62h x1 x3 x4 x6 (0 : Int32) x5 t0_125 _ _ ls h hP hD hS (lv_sub hl [1, 2, 3, 4, 6] rfl)
              exact jr
            · replace h := it_f c128 h
              refine lv_iconst (v := 1) (pc := 131) hx hb dX9_load_131 (by decide) ?_
              refine lv_goto (tgt := 136) (pc := 132) hx hb dX9_load_132 (by decide) ?_
              have jr := J136 (fX9_load_b62 n) K62h x1 x3 x4 x6 (1 : Int32) x5 t0_125 _ _ ls h hP hD hS (lv_sub hl [1, 2, 3, 4, 6] rfl)
              exact jr
          · replace h := it_f c87 h
            refine lv_bipush (v := -12) (pc := 90) hx hb dX9_load_90 (by decide) ?_
            have kr := KR (-12 : Int32) s0 _ _ 92 ls h rfl hP hD hS dX9_load_92
            exact kr
  refine lv_iload_n (pc := 0) hx hb dX9_load_0 rfl (lv_at hl 1 rfl) ?_
  obtain ⟨r1, hc1, h⟩ := b1_i h
  refine g_none (st1 := [.int r1]) (gr_S (n := 1) (rest := []) (pc := 1) hx hb hml hown hts (cX9_isSheet_met l D c p0 _ hc1) gX9_load_X9_isSheet rfl rfl rfl (by decide +kernel) rfl ⟨Nat.le_of_ble_eq_true rfl, Nat.le_of_ble_eq_true rfl⟩ ⟨Nat.zero_le _, Nat.zero_le _⟩ gT_ok g_P0 (g_D0 (A := A)) hK (fun _ _ _ => trivial) hl.1 (Nat.le_of_ble_eq_true rfl) dX9_load_1 rfl) hP hS hA rfl (fun H locs hP hS => ?_)
  refine lv_if_eq (tgt := 27) (pc := 4) hx hb dX9_load_4 (by decide) (fun c4 => ?_) (fun c4 => ?_)
  · replace h := it_t c4 h
    refine lv_bipush (v := -2) (pc := 27) hx hb dX9_load_27 (by decide) ?_
    have kr := KR (-2 : Int32) s0 _ _ 29 ls h rfl hP hD hS dX9_load_29
    exact kr
  · replace h := it_f c4 h
    refine lv_iload_n (pc := 7) hx hb dX9_load_7 rfl (lv_at hl 2 rfl) ?_
    refine lv_iconst (v := 0) (pc := 8) hx hb dX9_load_8 (by decide) ?_
    refine lv_iconst (v := 1) (pc := 9) hx hb dX9_load_9 (by decide) ?_
    obtain ⟨r10, hc10, h⟩ := b1_i h
    refine g_none (st1 := [.int r10]) (gr_S (n := 3) (rest := []) (pc := 10) hx hb hml hown hts (cX9_isIn_met l D c p1 (0 : Int32) (1 : Int32) _ hc10) gX9_load_X9_isIn rfl rfl rfl (by decide +kernel) rfl ⟨Nat.le_of_ble_eq_true rfl, Nat.le_of_ble_eq_true rfl⟩ ⟨Nat.zero_le _, Nat.zero_le _⟩ gT_ok g_P0 (g_D0 (A := A)) hK (fun _ _ _ => trivial) hl.1 (Nat.le_of_ble_eq_true rfl) dX9_load_10 rfl) hP hS hA rfl (fun H locs hP hS => ?_)
    refine lv_if_eq (tgt := 27) (pc := 13) hx hb dX9_load_13 (by decide) (fun c13 => ?_) (fun c13 => ?_)
    · replace h := it_t c13 h
      refine lv_bipush (v := -2) (pc := 27) hx hb dX9_load_27 (by decide) ?_
      have kr := KR (-2 : Int32) s0 _ _ 29 ls h rfl hP hD hS dX9_load_29
      exact kr
    · replace h := it_f c13 h
      refine lv_iload (pc := 16) hx hb dX9_load_16 (lv_at hl 4 rfl) ?_
      refine lv_iconst (v := 0) (pc := 18) hx hb dX9_load_18 (by decide) ?_
      refine lv_bipush (v := 8) (pc := 19) hx hb dX9_load_19 (by decide) ?_
      obtain ⟨r21, hc21, h⟩ := b1_i h
      refine g_none (st1 := [.int r21]) (gr_S (n := 3) (rest := []) (pc := 21) hx hb hml hown hts (cX9_isIn_met l D c p3 (0 : Int32) (8 : Int32) _ hc21) gX9_load_X9_isIn rfl rfl rfl (by decide +kernel) rfl ⟨Nat.le_of_ble_eq_true rfl, Nat.le_of_ble_eq_true rfl⟩ ⟨Nat.zero_le _, Nat.zero_le _⟩ gT_ok g_P0 (g_D0 (A := A)) hK (fun _ _ _ => trivial) hl.1 (Nat.le_of_ble_eq_true rfl) dX9_load_21 rfl) hP hS hA rfl (fun H locs hP hS => ?_)
      refine lv_if_ne (tgt := 30) (pc := 24) hx hb dX9_load_24 (by decide) (fun c24 => ?_) (fun c24 => ?_)
      · replace h := it_f c24 h
        refine lv_aload_n (pc := 30) hx hb dX9_load_30 rfl (lv_at hl 0 rfl) ?_
        refine va_get (D := D) (ci := 9) (v := .ref (a0 12)) (C := RX9) (T := TX9) (N := 24) (pc := 31) hx hb hfX9 (fun _ h9 => h9) hown hK hP 0 rfl rfl 21 (by decide) lk0 (fun _ h9 => h9) rfl dX9_load_31 ?_
        refine lv_iload_n (pc := 34) hx hb dX9_load_34 rfl (lv_at hl 1 rfl) ?_
        obtain ⟨hk35, h⟩ := ckI_i h
        refine va_iald (D := D) (f := (s0.1 21)) (pc := 35) hx hb hK hP 12 0 rfl rfl hk35 dX9_load_35 ?_
        refine lv_iconst (v := -1) (pc := 36) hx hb dX9_load_36 (by decide) ?_
        refine lv_icmp_ne (tgt := 43) (pc := 37) hx hb dX9_load_37 (by decide) (fun c37 => ?_) (fun c37 => ?_)
        · replace h := it_f c37 h
          refine lv_aload_n (pc := 43) hx hb dX9_load_43 rfl (lv_at hl 0 rfl) ?_
          refine va_get (D := D) (ci := 9) (v := .ref (a0 12)) (C := RX9) (T := TX9) (N := 24) (pc := 44) hx hb hfX9 (fun _ h9 => h9) hown hK hP 0 rfl rfl 21 (by decide) lk0 (fun _ h9 => h9) rfl dX9_load_44 ?_
          refine lv_iload_n (pc := 47) hx hb dX9_load_47 rfl (lv_at hl 1 rfl) ?_
          obtain ⟨hk48, h⟩ := ckI_i h
          refine va_iald (D := D) (f := (s0.1 21)) (pc := 48) hx hb hK hP 12 0 rfl rfl hk48 dX9_load_48 ?_
          refine lv_iload_n (pc := 49) hx hb dX9_load_49 rfl (lv_at hl 2 rfl) ?_
          refine lv_icmp_eq (tgt := 56) (pc := 50) hx hb dX9_load_50 (by decide) (fun c50 => ?_) (fun c50 => ?_)
          · replace h := it_t c50 h
            refine lv_iconst (v := 0) (pc := 56) hx hb dX9_load_56 (by decide) ?_
            refine lv_istore (lv' := [(5, .int (0 : Int32)), (0, .ref (a0 0)), (1, .int p0), (2, .int p1), (3, .int p2), (4, .int p3)]) (pc := 57) hx hb dX9_load_57 hl (by decide) rfl (fun ls hl => ?_)
            refine lv_iconst (v := 0) (pc := 59) hx hb dX9_load_59 (by decide) ?_
            refine lv_istore (lv' := [(6, .int (0 : Int32)), (5, .int (0 : Int32)), (0, .ref (a0 0)), (1, .int p0), (2, .int p1), (3, .int p2), (4, .int p3)]) (pc := 60) hx hb dX9_load_60 hl (by decide) rfl (fun ls hl => ?_)
            have jr := J62 FU p0 p2 p3 (0 : Int32) (0 : Int32) s0 _ _ ls h hP hD hS (lv_sub hl [2, 3, 5, 6, 1, 0] rfl)
            exact jr
          · replace h := it_f c50 h
            refine lv_bipush (v := -13) (pc := 53) hx hb dX9_load_53 (by decide) ?_
            have kr := KR (-13 : Int32) s0 _ _ 55 ls h rfl hP hD hS dX9_load_55
            exact kr
        · replace h := it_t c37 h
          refine lv_bipush (v := -11) (pc := 40) hx hb dX9_load_40 (by decide) ?_
          have kr := KR (-11 : Int32) s0 _ _ 42 ls h rfl hP hD hS dX9_load_42
          exact kr
      · replace h := it_t c24 h
        refine lv_bipush (v := -2) (pc := 27) hx hb dX9_load_27 (by decide) ?_
        have kr := KR (-2 : Int32) s0 _ _ 29 ls h rfl hP hD hS dX9_load_29
        exact kr
