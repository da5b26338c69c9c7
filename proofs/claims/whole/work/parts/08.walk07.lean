abbrev rmX9_drop : Room := { frames := 0, cells := 0, slots := 0, locals := 0 }
set_option maxRecDepth 100000 in
set_option maxHeartbeats 40000000 in
theorem cX9_drop_met (l : Launch) (D : va_G) (c : Nat → ClassId) (a0 : Nat → Nat) (s0 : Mem) (r0 : Int32) (z0 : Mem) (h : fX9_drop s0 = some (r0, z0)) : gM l yX9_drop wsX9_drop rmX9_drop D (gY c) gT [.ref (a0 0)] (wX9 a0 c s0) (some (.int r0)) (wX9 a0 c z0) := by
  unfold fX9_drop at h
  refine gM.I (cc := cX9_drop) (maxL := 1) (by decide) rfl (Nat.le_of_ble_eq_true rfl) ?_
  intro p e s m args below meth cd hx hb hml hown hts A hA ls hl hP hK hD hS hE Q KR0
  have hfX9 : ∀ w ∈ u_ws RX9 TX9 24, w.before args s = true := fun w hw => hts w (List.mem_cons_of_mem _ (List.mem_append_right _ hw))
  have lk0 := hts (.fieldLink RX9 9 "GlitchNetsModel" "s" "[I") (List.mem_of_getElem? (i := 1) rfl)
  have lk1 := hts (.fieldLink RX9 61 "GlitchNetsModel" "deeds" "I") (List.mem_of_getElem? (i := 2) rfl)
  have KR : ∀ (v : Int32) (w0 : Mem) (H : Heap) (locs : List Loc) (pc : Nat) (ls : Array Slot), some (v, w0) = some (r0, z0) → narrow .int (.int v) = .int v → va_P D vwCl (wX9 a0 c w0) H → va_D A (wX9 a0 c w0) → va_S A s.heap H locs → decode cX9_drop pc = .ok (.ireturn, 1) → W p l e rmX9_drop s m args below meth cd H locs 0 0 Q (F0 m pc ls [.int v]) := by
    intro v w0 H locs pc ls hr hn hP hD hS hd
    cases hr
    exact KR0 _ H locs pc ls rfl hn hP hD hS hd
  have hl : lv_has ls 1 [(0, .ref (a0 0))] := hl
  refine lv_aload_n (pc := 0) hx hb dX9_drop_0 rfl (lv_at hl 0 rfl) ?_
  refine va_get (D := D) (ci := 9) (v := .ref (a0 1)) (C := RX9) (T := TX9) (N := 24) (pc := 1) hx hb hfX9 (fun _ h9 => h9) hown hK hP 0 rfl rfl 0 (by decide) lk0 (fun _ h9 => h9) rfl dX9_drop_1 ?_
  refine lv_iconst (v := 0) (pc := 4) hx hb dX9_drop_4 (by decide) ?_
  obtain ⟨hk5, h⟩ := ckI_i h
  refine va_iald (D := D) (f := (s0.1 0)) (pc := 5) hx hb hK hP 1 0 rfl rfl hk5 dX9_drop_5 ?_
  refine lv_if_ne (tgt := 12) (pc := 6) hx hb dX9_drop_6 (by decide) (fun c6 => ?_) (fun c6 => ?_)
  · replace h := it_f c6 h
    refine lv_aload_n (pc := 12) hx hb dX9_drop_12 rfl (lv_at hl 0 rfl) ?_
    refine va_get (D := D) (ci := 9) (v := .ref (a0 1)) (C := RX9) (T := TX9) (N := 24) (pc := 13) hx hb hfX9 (fun _ h9 => h9) hown hK hP 0 rfl rfl 0 (by decide) lk0 (fun _ h9 => h9) rfl dX9_drop_13 ?_
    refine lv_iconst (v := 0) (pc := 16) hx hb dX9_drop_16 (by decide) ?_
    refine lv_dup2_11 (pc := 17) hx hb dX9_drop_17 rfl rfl ?_
    obtain ⟨hk18, h⟩ := ckI_i h
    refine va_iald (D := D) (f := (s0.1 0)) (pc := 18) hx hb hK hP 1 0 rfl rfl hk18 dX9_drop_18 ?_
    refine lv_iconst (v := 1) (pc := 19) hx hb dX9_drop_19 (by decide) ?_
    refine lv_isub (pc := 20) hx hb dX9_drop_20 ?_
    obtain ⟨hk21, h⟩ := ckI_i h
    refine va_iast (D := D) (f := (s0.1 0)) (pc := 21) hx hb hK hP hD hS 1 0 rfl rfl hk21 dX9_drop_21 (fun H locs hP hD hS => ?_)
    obtain ⟨m0_21, em0_21, h⟩ := lt_i h
    have hP : va_P D vwCl (wX9 a0 c m0_21) H := by rw [em0_21]; exact hP
    have hD : va_D A (wX9 a0 c m0_21) := by rw [em0_21]; exact hD
    refine lv_aload_n (pc := 22) hx hb dX9_drop_22 rfl (lv_at hl 0 rfl) ?_
    refine lv_iconst (v := 0) (pc := 23) hx hb dX9_drop_23 (by decide) ?_
    refine va_put (D := D) (ci := 9) (v := .int (0 : Int32)) (ty := .int) (C := RX9) (T := TX9) (N := 24) (pc := 24) hx hb hfX9 (fun _ h9 => h9) tyX9 tyX9_ok nmX9 hown hK hP hD hS 0 rfl rfl 4 (by decide) lk1 (fun _ h9 => h9) rfl (by decide +kernel) rfl rfl (Nat.le_of_ble_eq_true rfl) dX9_drop_24 (fun H locs hP hD hS => ?_)
    obtain ⟨m0_24, em0_24, h⟩ := lt_i h
    have hP : va_P D vwCl (wX9 a0 c m0_24) H := by rw [em0_24]; exact hP
    have hD : va_D A (wX9 a0 c m0_24) := by rw [em0_24]; exact hD
    refine lv_aload_n (pc := 27) hx hb dX9_drop_27 rfl (lv_at hl 0 rfl) ?_
    refine va_get (D := D) (ci := 9) (v := .ref (a0 1)) (C := RX9) (T := TX9) (N := 24) (pc := 28) hx hb hfX9 (fun _ h9 => h9) hown hK hP 0 rfl rfl 0 (by decide) lk0 (fun _ h9 => h9) rfl dX9_drop_28 ?_
    refine lv_iconst (v := 0) (pc := 31) hx hb dX9_drop_31 (by decide) ?_
    obtain ⟨hk32, h⟩ := ckI_i h
    refine va_iald (D := D) (f := (m0_24.1 0)) (pc := 32) hx hb hK hP 1 0 rfl rfl hk32 dX9_drop_32 ?_
    have kr := KR ((m0_24.1 0) ((0 : Int32)).toNatClampNeg) m0_24 _ _ 33 ls h rfl hP hD hS dX9_drop_33
    exact kr
  · replace h := it_t c6 h
    refine lv_bipush (v := -3) (pc := 9) hx hb dX9_drop_9 (by decide) ?_
    have kr := KR (-3 : Int32) s0 _ _ 11 ls h rfl hP hD hS dX9_drop_11
    exact kr
abbrev rmX9_pathOf (n : Nat) : Room := { frames := 1 + n, cells := 0, slots := 0, locals := 22 + 23 * n }
set_option maxRecDepth 100000 in
set_option maxHeartbeats 40000000 in
theorem cX9_pathOf_met (l : Launch) (D : va_G) (c : Nat → ClassId) : ∀ (a0 : Nat → Nat) (n : Nat) (p0 : Int32) (s0 : Mem) (r0 : Int32), fX9_pathOf n p0 s0 = some r0 → gM l yX9_pathOf wsX9_pathOf (rmX9_pathOf n) D (gY c) gT [.ref (a0 0), .int p0] (wX9 a0 c s0) (some (.int r0)) (wX9 a0 c s0) := by
  intro a0 n
  induction n with
  | zero =>
    intro p0 s0 r0 h
    cases (show (none : Option (Int32)) = some _ from h)
  | succ n ihn =>
    intro p0 s0 r0 h
    rw [fX9_pathOf] at h
    refine gM.I (cc := cX9_pathOf) (maxL := 4) (by decide) rfl (Nat.le_of_ble_eq_true rfl) ?_
    intro p e s m args below meth cd hx hb hml hown hts A hA ls hl hP hK hD hS hE Q KR0
    have KR : ∀ (v : Int32)  (H : Heap) (locs : List Loc) (pc : Nat) (ls : Array Slot), some v = some r0 → narrow .int (.int v) = .int v → va_P D vwCl (wX9 a0 c s0) H → va_D A (wX9 a0 c s0) → va_S A s.heap H locs → decode cX9_pathOf pc = .ok (.ireturn, 1) → W p l e (rmX9_pathOf (n + 1)) s m args below meth cd H locs 0 0 Q (F0 m pc ls [.int v]) := by
      intro v  H locs pc ls hr hn hP hD hS hd
      cases hr
      exact KR0 _ H locs pc ls rfl hn hP hD hS hd
    have hl : lv_has ls 4 [(0, .ref (a0 0)), (1, .int p0)] := hl
    refine lv_iload_n (pc := 0) hx hb dX9_pathOf_0 rfl (lv_at hl 1 rfl) ?_
    refine lv_if_ge (tgt := 6) (pc := 1) hx hb dX9_pathOf_1 (by decide) (fun c1 => ?_) (fun c1 => ?_)
    · replace h := it_t c1 h
      refine lv_aload_n (pc := 6) hx hb dX9_pathOf_6 rfl (lv_at hl 0 rfl) ?_
      refine lv_aload_n (pc := 7) hx hb dX9_pathOf_7 rfl (lv_at hl 0 rfl) ?_
      refine lv_iload_n (pc := 8) hx hb dX9_pathOf_8 rfl (lv_at hl 1 rfl) ?_
      refine lv_iconst (v := 1) (pc := 9) hx hb dX9_pathOf_9 (by decide) ?_
      obtain ⟨r10, hc10, h⟩ := b1_i h
      refine g_all (st1 := [.int r10, .ref (a0 0)]) (gr_V (n := 2) (rest := [.ref (a0 0)]) (pc := 10) hx hb hml hown hts (cX9_of_met l D c a0 p0 (1 : Int32) s0 _ hc10) gX9_pathOf_X9_of rfl rfl rfl (by decide +kernel) rfl ⟨by show 0 + 1 ≤ 1 + (n + 1); omega, by show 8 + (3 + 11) + 0 ≤ 22 + 23 * (n + 1); omega⟩ ⟨Nat.zero_le _, Nat.zero_le _⟩ 0 9 rfl rfl rfl gT_ok hP hD hK (fun _ _ _ => trivial) hl.1 (Nat.le_of_ble_eq_true rfl) dX9_pathOf_10 rfl) hD hS hA rfl (fun H locs hP hD hS => ?_)
      obtain ⟨r13, hc13, h⟩ := b1_i h
      refine g_all (st1 := [.int r13]) (gr_V (n := 1) (rest := []) (pc := 13) hx hb hml hown hts (ihn r10 s0 _ hc13) gX9_pathOf_X9_pathOf rfl rfl rfl (by decide +kernel) rfl ⟨by show 1 + n + 1 ≤ 1 + (n + 1); omega, by show 8 + (4 + 11) + (22 + 23 * n) ≤ 22 + 23 * (n + 1); omega⟩ ⟨Nat.zero_le _, Nat.zero_le _⟩ 0 9 rfl rfl rfl gT_ok hP hD hK (fun _ _ _ => trivial) hl.1 (Nat.le_of_ble_eq_true rfl) dX9_pathOf_13 rfl) hD hS hA rfl (fun H locs hP hD hS => ?_)
      refine lv_istore_n (lv' := [(2, .int r13), (0, .ref (a0 0)), (1, .int p0)]) (pc := 16) hx hb dX9_pathOf_16 rfl hl (by decide) rfl (fun ls hl => ?_)
      refine lv_aload_n (pc := 17) hx hb dX9_pathOf_17 rfl (lv_at hl 1 rfl) ?_
      refine lv_aload_n (pc := 18) hx hb dX9_pathOf_18 rfl (lv_at hl 1 rfl) ?_
      refine lv_iload_n (pc := 19) hx hb dX9_pathOf_19 rfl (lv_at hl 2 rfl) ?_
      refine lv_iconst (v := 2) (pc := 20) hx hb dX9_pathOf_20 (by decide) ?_
      obtain ⟨r21, hc21, h⟩ := b1_i h
      refine g_all (st1 := [.int r21, .ref (a0 0)]) (gr_V (n := 2) (rest := [.ref (a0 0)]) (pc := 21) hx hb hml hown hts (cX9_of_met l D c a0 p0 (2 : Int32) s0 _ hc21) gX9_pathOf_X9_of rfl rfl rfl (by decide +kernel) rfl ⟨by show 0 + 1 ≤ 1 + (n + 1); omega, by show 8 + (3 + 11) + 0 ≤ 22 + 23 * (n + 1); omega⟩ ⟨Nat.zero_le _, Nat.zero_le _⟩ 0 9 rfl rfl rfl gT_ok hP hD hK (fun _ _ _ => trivial) hl.1 (Nat.le_of_ble_eq_true rfl) dX9_pathOf_21 rfl) hD hS hA rfl (fun H locs hP hD hS => ?_)
      obtain ⟨r24, hc24, h⟩ := b1_i h
      refine g_all (st1 := [.int r24]) (gr_V (n := 1) (rest := []) (pc := 24) hx hb hml hown hts (ihn r21 s0 _ hc24) gX9_pathOf_X9_pathOf rfl rfl rfl (by decide +kernel) rfl ⟨by show 1 + n + 1 ≤ 1 + (n + 1); omega, by show 8 + (4 + 11) + (22 + 23 * n) ≤ 22 + 23 * (n + 1); omega⟩ ⟨Nat.zero_le _, Nat.zero_le _⟩ 0 9 rfl rfl rfl gT_ok hP hD hK (fun _ _ _ => trivial) hl.1 (Nat.le_of_ble_eq_true rfl) dX9_pathOf_24 rfl) hD hS hA rfl (fun H locs hP hD hS => ?_)
      refine lv_istore_n (lv' := [(3, .int r24), (2, .int r13), (0, .ref (a0 0)), (1, .int p0)]) (pc := 27) hx hb dX9_pathOf_27 rfl hl (by decide) rfl (fun ls hl => ?_)
      refine lv_aload_n (pc := 28) hx hb dX9_pathOf_28 rfl (lv_at hl 2 rfl) ?_
      refine lv_iload_n (pc := 29) hx hb dX9_pathOf_29 rfl (lv_at hl 3 rfl) ?_
      refine lv_iconst (v := 3) (pc := 30) hx hb dX9_pathOf_30 (by decide) ?_
      obtain ⟨r31, hc31, h⟩ := b1_i h
      refine g_all (st1 := [.int r31]) (gr_V (n := 2) (rest := []) (pc := 31) hx hb hml hown hts (cX9_of_met l D c a0 p0 (3 : Int32) s0 _ hc31) gX9_pathOf_X9_of rfl rfl rfl (by decide +kernel) rfl ⟨by show 0 + 1 ≤ 1 + (n + 1); omega, by show 8 + (3 + 11) + 0 ≤ 22 + 23 * (n + 1); omega⟩ ⟨Nat.zero_le _, Nat.zero_le _⟩ 0 9 rfl rfl rfl gT_ok hP hD hK (fun _ _ _ => trivial) hl.1 (Nat.le_of_ble_eq_true rfl) dX9_pathOf_31 rfl) hD hS hA rfl (fun H locs hP hD hS => ?_)
      refine lv_iload_n (pc := 34) hx hb dX9_pathOf_34 rfl (lv_at hl 1 rfl) ?_
      refine lv_iload_n (pc := 35) hx hb dX9_pathOf_35 rfl (lv_at hl 0 rfl) ?_
      refine lv_icmp_le (tgt := 43) (pc := 36) hx hb dX9_pathOf_36 (by decide) (fun c36 => ?_) (fun c36 => ?_)
      · replace h := it_t c36 h
        refine lv_iload_n (pc := 43) hx hb dX9_pathOf_43 rfl (lv_at hl 0 rfl) ?_
        refine lv_iadd (pc := 44) hx hb dX9_pathOf_44 ?_
        have kr := KR (r31 + r24)  _ _ 45 ls h rfl hP hD hS dX9_pathOf_45
        exact kr
      · replace h := it_f c36 h
        refine lv_iload_n (pc := 39) hx hb dX9_pathOf_39 rfl (lv_at hl 1 rfl) ?_
        refine lv_goto (tgt := 44) (pc := 40) hx hb dX9_pathOf_40 (by decide) ?_
        refine lv_iadd (pc := 44) hx hb dX9_pathOf_44 ?_
        have kr := KR (r31 + r13)  _ _ 45 ls h rfl hP hD hS dX9_pathOf_45
        exact kr
    · replace h := it_f c1 h
      refine lv_iconst (v := 0) (pc := 4) hx hb dX9_pathOf_4 (by decide) ?_
      have kr := KR (0 : Int32)  _ _ 5 ls h rfl hP hD hS dX9_pathOf_5
      exact kr
abbrev rmX9_sourceOf : Room := { frames := 1, cells := 0, slots := 0, locals := 22 }
set_option maxRecDepth 100000 in
set_option maxHeartbeats 40000000 in
theorem cX9_sourceOf_met (l : Launch) (D : va_G) (c : Nat → ClassId) (a0 : Nat → Nat) (p0 : Int32) (s0 : Mem) (r0 : Int32) (h : fX9_sourceOf p0 s0 = some r0) : gM l yX9_sourceOf wsX9_sourceOf rmX9_sourceOf D (gY c) gT [.ref (a0 0), .int p0] (wX9 a0 c s0) (some (.int r0)) (wX9 a0 c s0) := by
  unfold fX9_sourceOf at h
  refine gM.I (cc := cX9_sourceOf) (maxL := 4) (by decide) rfl (Nat.le_of_ble_eq_true rfl) ?_
  intro p e s m args below meth cd hx hb hml hown hts A hA ls hl hP hK hD hS hE Q KR0
  have hfX9 : ∀ w ∈ u_ws RX9 TX9 24, w.before args s = true := fun w hw => hts w (List.mem_cons_of_mem _ (List.mem_append_right _ hw))
  have lk0 := hts (.fieldLink RX9 9 "GlitchNetsModel" "s" "[I") (List.mem_of_getElem? (i := 1) rfl)
  have KR : ∀ (v : Int32)  (H : Heap) (locs : List Loc) (pc : Nat) (ls : Array Slot), some v = some r0 → narrow .int (.int v) = .int v → va_P D vwCl (wX9 a0 c s0) H → va_D A (wX9 a0 c s0) → va_S A s.heap H locs → decode cX9_sourceOf pc = .ok (.ireturn, 1) → W p l e rmX9_sourceOf s m args below meth cd H locs 0 0 Q (F0 m pc ls [.int v]) := by
    intro v  H locs pc ls hr hn hP hD hS hd
    cases hr
    exact KR0 _ H locs pc ls rfl hn hP hD hS hd
  have hl : lv_has ls 4 [(0, .ref (a0 0)), (1, .int p0)] := hl
  have J40 : ∀ (K4 : Int32 → Int32 → Int32 → Option (Int32)) (K4h : ∀ (x1 : Int32) (x2 : Int32) (x3 : Int32) (H : Heap) (locs : List Loc) (ls : Array Slot), K4 x1 x2 x3 = some r0 → va_P D vwCl (wX9 a0 c s0) H → va_D A (wX9 a0 c s0) → va_S A s.heap H locs → lv_has ls 4 [(0, .ref (a0 0)), (1, .int x1), (2, .int x2), (3, .int x3)] → W p l e rmX9_sourceOf s m args below meth cd H locs 0 0 Q (F0 m 4 ls [])) (x1 : Int32) (x3 : Int32) (y0 : Int32) (y1 : Int32) (H : Heap) (locs : List Loc) (ls : Array Slot), fX9_sourceOf_b40 K4 s0 x1 x3 y0 y1 = some r0 → va_P D vwCl (wX9 a0 c s0) H → va_D A (wX9 a0 c s0) → va_S A s.heap H locs → lv_has ls 4 [(0, .ref (a0 0)), (1, .int x1), (3, .int x3)] → W p l e rmX9_sourceOf s m args below meth cd H locs 0 0 Q (F0 m 40 ls [.int y0, .int y1]) := by
    intro K4 K4h x1 x3 y0 y1 H locs ls h hP hD hS hl
    unfold fX9_sourceOf_b40 at h
    refine lv_iadd (pc := 40) hx hb dX9_sourceOf_40 ?_
    refine lv_topi (fun v2_41 ev2_41 => ?_)
    replace h := lt_e ev2_41 h
    refine lv_istore_n (lv' := [(2, .int v2_41), (0, .ref (a0 0)), (1, .int x1), (3, .int x3)]) (pc := 41) hx hb dX9_sourceOf_41 rfl hl (by decide) rfl (fun ls hl => ?_)
    obtain ⟨v3_42, ev3_42, h⟩ := lt_i h
    refine lv_iinc (v := v3_42) (lv' := [(3, .int v3_42), (2, .int v2_41), (0, .ref (a0 0)), (1, .int x1)]) (pc := 42) hx hb dX9_sourceOf_42 hl (k := 3) rfl (by rw [ev3_42]; rfl) (by decide) rfl (fun ls hl => ?_)
    refine lv_goto (tgt := 4) (pc := 45) hx hb dX9_sourceOf_45 (by decide) ?_
    have jr := K4h x1 v2_41 v3_42 _ _ ls h hP hD hS (lv_sub hl [2, 3, 1, 0] rfl)
    exact jr
  have J35 : ∀ (K4 : Int32 → Int32 → Int32 → Option (Int32)) (K4h : ∀ (x1 : Int32) (x2 : Int32) (x3 : Int32) (H : Heap) (locs : List Loc) (ls : Array Slot), K4 x1 x2 x3 = some r0 → va_P D vwCl (wX9 a0 c s0) H → va_D A (wX9 a0 c s0) → va_S A s.heap H locs → lv_has ls 4 [(0, .ref (a0 0)), (1, .int x1), (2, .int x2), (3, .int x3)] → W p l e rmX9_sourceOf s m args below meth cd H locs 0 0 Q (F0 m 4 ls [])) (x1 : Int32) (x3 : Int32) (y0 : Int32) (H : Heap) (locs : List Loc) (ls : Array Slot), fX9_sourceOf_b35 K4 s0 x1 x3 y0 = some r0 → va_P D vwCl (wX9 a0 c s0) H → va_D A (wX9 a0 c s0) → va_S A s.heap H locs → lv_has ls 4 [(0, .ref (a0 0)), (1, .int x1), (3, .int x3)] → W p l e rmX9_sourceOf s m args below meth cd H locs 0 0 Q (F0 m 35 ls [.int y0]) := by
    intro K4 K4h x1 x3 y0 H locs ls h hP hD hS hl
    unfold fX9_sourceOf_b35 at h
    refine lv_iconst (v := 1) (pc := 35) hx hb dX9_sourceOf_35 (by decide) ?_
    refine lv_goto (tgt := 40) (pc := 36) hx hb dX9_sourceOf_36 (by decide) ?_
    have jr := J40 K4 K4h x1 x3 (1 : Int32) y0 _ _ ls h hP hD hS hl
    exact jr
  have J4 : ∀ (n : Nat) (x1 : Int32) (x2 : Int32) (x3 : Int32) (H : Heap) (locs : List Loc) (ls : Array Slot), fX9_sourceOf_b4 s0 n x1 x2 x3 = some r0 → va_P D vwCl (wX9 a0 c s0) H → va_D A (wX9 a0 c s0) → va_S A s.heap H locs → lv_has ls 4 [(0, .ref (a0 0)), (1, .int x1), (2, .int x2), (3, .int x3)] → W p l e rmX9_sourceOf s m args below meth cd H locs 0 0 Q (F0 m 4 ls []) := by
    intro n
    induction n with
    | zero =>
      intro x1 x2 x3 H locs ls h _ _ _ _
      cases (show (none : Option (Int32)) = some _ from h)
    | succ n K4h =>
      intro x1 x2 x3 H locs ls h hP hD hS hl
      rw [fX9_sourceOf_b4] at h
      refine lv_iload_n (pc := 4) hx hb dX9_sourceOf_4 rfl (lv_at hl 3 rfl) ?_
      refine lv_aload_n (pc := 5) hx hb dX9_sourceOf_5 rfl (lv_at hl 0 rfl) ?_
      refine va_get (D := D) (ci := 9) (v := .ref (a0 1)) (C := RX9) (T := TX9) (N := 24) (pc := 6) hx hb hfX9 (fun _ h9 => h9) hown hK hP 0 rfl rfl 0 (by decide) lk0 (fun _ h9 => h9) rfl dX9_sourceOf_6 ?_
      refine lv_iconst (v := 0) (pc := 9) hx hb dX9_sourceOf_9 (by decide) ?_
      obtain ⟨hk10, h⟩ := ckI_i h
      refine va_iald (D := D) (f := (s0.1 0)) (pc := 10) hx hb hK hP 1 0 rfl rfl hk10 dX9_sourceOf_10 ?_
      refine lv_icmp_ge (tgt := 48) (pc := 11) hx hb dX9_sourceOf_11 (by decide) (fun c11 => ?_) (fun c11 => ?_)
      · replace h := it_t c11 h
        refine lv_iload_n (pc := 48) hx hb dX9_sourceOf_48 rfl (lv_at hl 2 rfl) ?_
        have kr := KR x2  _ _ 49 ls h rfl hP hD hS dX9_sourceOf_49
        exact kr
      · replace h := it_f c11 h
        refine lv_iload_n (pc := 14) hx hb dX9_sourceOf_14 rfl (lv_at hl 2 rfl) ?_
        refine lv_aload_n (pc := 15) hx hb dX9_sourceOf_15 rfl (lv_at hl 0 rfl) ?_
        refine lv_iload_n (pc := 16) hx hb dX9_sourceOf_16 rfl (lv_at hl 3 rfl) ?_
        refine lv_iconst (v := 1) (pc := 17) hx hb dX9_sourceOf_17 (by decide) ?_
        obtain ⟨r18, hc18, h⟩ := b1_i h
        refine g_all (st1 := [.int r18, .int x2]) (gr_V (n := 2) (rest := [.int x2]) (pc := 18) hx hb hml hown hts (cX9_of_met l D c a0 x3 (1 : Int32) s0 _ hc18) gX9_sourceOf_X9_of rfl rfl rfl (by decide +kernel) rfl ⟨Nat.le_of_ble_eq_true rfl, Nat.le_of_ble_eq_true rfl⟩ ⟨Nat.zero_le _, Nat.zero_le _⟩ 0 9 rfl rfl rfl gT_ok hP hD hK (fun _ _ _ => trivial) hl.1 (Nat.le_of_ble_eq_true rfl) dX9_sourceOf_18 rfl) hD hS hA rfl (fun H locs hP hD hS => ?_)
        refine lv_iload_n (pc := 21) hx hb dX9_sourceOf_21 rfl (lv_at hl 1 rfl) ?_
        refine lv_icmp_eq (tgt := 35) (pc := 22) hx hb dX9_sourceOf_22 (by decide) (fun c22 => ?_) (fun c22 => ?_)
        · replace h := it_t c22 h
          have jr := J35 (fX9_sourceOf_b4 s0 n) K4h x1 x3 x2 _ _ ls h hP hD hS (lv_sub hl [0, 1, 3] rfl)
          exact jr
        · replace h := it_f c22 h
          refine lv_aload_n (pc := 25) hx hb dX9_sourceOf_25 rfl (lv_at hl 0 rfl) ?_
          refine lv_iload_n (pc := 26) hx hb dX9_sourceOf_26 rfl (lv_at hl 3 rfl) ?_
          refine lv_iconst (v := 2) (pc := 27) hx hb dX9_sourceOf_27 (by decide) ?_
          obtain ⟨r28, hc28, h⟩ := b1_i h
          refine g_all (st1 := [.int r28, .int x2]) (gr_V (n := 2) (rest := [.int x2]) (pc := 28) hx hb hml hown hts (cX9_of_met l D c a0 x3 (2 : Int32) s0 _ hc28) gX9_sourceOf_X9_of rfl rfl rfl (by decide +kernel) rfl ⟨Nat.le_of_ble_eq_true rfl, Nat.le_of_ble_eq_true rfl⟩ ⟨Nat.zero_le _, Nat.zero_le _⟩ 0 9 rfl rfl rfl gT_ok hP hD hK (fun _ _ _ => trivial) hl.1 (Nat.le_of_ble_eq_true rfl) dX9_sourceOf_28 rfl) hD hS hA rfl (fun H locs hP hD hS => ?_)
          refine lv_iload_n (pc := 31) hx hb dX9_sourceOf_31 rfl (lv_at hl 1 rfl) ?_
          refine lv_icmp_ne (tgt := 39) (pc := 32) hx hb dX9_sourceOf_32 (by decide) (fun c32 => ?_) (fun c32 => ?_)
          · replace h := it_f c32 h
            refine lv_iconst (v := 0) (pc := 39) hx hb dX9_sourceOf_39 (by decide) ?_
            have jr := J40 (fX9_sourceOf_b4 s0 n) K4h x1 x3 (0 : Int32) x2 _ _ ls h hP hD hS (lv_sub hl [0, 1, 3] rfl)
            exact jr
          · replace h := it_t c32 h
            have jr := J35 (fX9_sourceOf_b4 s0 n) K4h x1 x3 x2 _ _ ls h hP hD hS (lv_sub hl [0, 1, 3] rfl)
            exact jr
  refine lv_iconst (v := 0) (pc := 0) hx hb dX9_sourceOf_0 (by decide) ?_
  refine lv_istore_n (lv' := [(2, .int (0 : Int32)), (0, .ref (a0 0)), (1, .int p0)]) (pc := 1) hx hb dX9_sourceOf_1 rfl hl (by decide) rfl (fun ls hl => ?_)
  refine lv_iconst (v := 0) (pc := 2) hx hb dX9_sourceOf_2 (by decide) ?_
  refine lv_istore_n (lv' := [(3, .int (0 : Int32)), (2, .int (0 : Int32)), (0, .ref (a0 0)), (1, .int p0)]) (pc := 3) hx hb dX9_sourceOf_3 rfl hl (by decide) rfl (fun ls hl => ?_)
  have jr := J4 FU p0 (0 : Int32) (0 : Int32) _ _ ls h hP hD hS (lv_sub hl [2, 3, 1, 0] rfl)
  exact jr
abbrev rmX9_gate : Room := { frames := 18, cells := 0, slots := 0, locals := 413 }
set_option maxRecDepth 100000 in
set_option maxHeartbeats 40000000 in
theorem cX9_gate_met (l : Launch) (D : va_G) (c : Nat → ClassId) (a0 : Nat → Nat) (p0 : Int32) (p1 : Int32) (s0 : Mem) (r0 : Int32) (h : fX9_gate p0 p1 s0 = some r0) : gM l yX9_gate wsX9_gate rmX9_gate D (gY c) gT [.ref (a0 0), .int p0, .int p1] (wX9 a0 c s0) (some (.int r0)) (wX9 a0 c s0) := by
  unfold fX9_gate at h
  refine gM.I (cc := cX9_gate) (maxL := 3) (by decide) rfl (Nat.le_of_ble_eq_true rfl) ?_
  intro p e s m args below meth cd hx hb hml hown hts A hA ls hl hP hK hD hS hE Q KR0
  have KR : ∀ (v : Int32)  (H : Heap) (locs : List Loc) (pc : Nat) (ls : Array Slot), some v = some r0 → narrow .int (.int v) = .int v → va_P D vwCl (wX9 a0 c s0) H → va_D A (wX9 a0 c s0) → va_S A s.heap H locs → decode cX9_gate pc = .ok (.ireturn, 1) → W p l e rmX9_gate s m args below meth cd H locs 0 0 Q (F0 m pc ls [.int v]) := by
    intro v  H locs pc ls hr hn hP hD hS hd
    cases hr
    exact KR0 _ H locs pc ls rfl hn hP hD hS hd
  have hl : lv_has ls 3 [(0, .ref (a0 0)), (1, .int p0), (2, .int p1)] := hl
  refine lv_aload_n (pc := 0) hx hb dX9_gate_0 rfl (lv_at hl 0 rfl) ?_
  refine lv_iload_n (pc := 1) hx hb dX9_gate_1 rfl (lv_at hl 1 rfl) ?_
  obtain ⟨r2, hc2, h⟩ := b1_i h
  refine g_all (st1 := [.int r2]) (gr_V (n := 1) (rest := []) (pc := 2) hx hb hml hown hts (cX9_isGate_met l D c a0 p0 s0 _ hc2) gX9_gate_X9_isGate rfl rfl rfl (by decide +kernel) rfl ⟨Nat.le_of_ble_eq_true rfl, Nat.le_of_ble_eq_true rfl⟩ ⟨Nat.zero_le _, Nat.zero_le _⟩ 0 9 rfl rfl rfl gT_ok hP hD hK (fun _ _ _ => trivial) hl.1 (Nat.le_of_ble_eq_true rfl) dX9_gate_2 rfl) hD hS hA rfl (fun H locs hP hD hS => ?_)
  refine lv_if_eq (tgt := 17) (pc := 5) hx hb dX9_gate_5 (by decide) (fun c5 => ?_) (fun c5 => ?_)
  · replace h := it_t c5 h
    refine lv_bipush (v := -2) (pc := 17) hx hb dX9_gate_17 (by decide) ?_
    have kr := KR (-2 : Int32)  _ _ 19 ls h rfl hP hD hS dX9_gate_19
    exact kr
  · replace h := it_f c5 h
    refine lv_iload_n (pc := 8) hx hb dX9_gate_8 rfl (lv_at hl 2 rfl) ?_
    refine lv_iconst (v := 0) (pc := 9) hx hb dX9_gate_9 (by decide) ?_
    refine lv_iconst (v := 5) (pc := 10) hx hb dX9_gate_10 (by decide) ?_
    obtain ⟨r11, hc11, h⟩ := b1_i h
    refine g_none (st1 := [.int r11]) (gr_S (n := 3) (rest := []) (pc := 11) hx hb hml hown hts (cX9_isIn_met l D c p1 (0 : Int32) (5 : Int32) _ hc11) gX9_gate_X9_isIn rfl rfl rfl (by decide +kernel) rfl ⟨Nat.le_of_ble_eq_true rfl, Nat.le_of_ble_eq_true rfl⟩ ⟨Nat.zero_le _, Nat.zero_le _⟩ gT_ok g_P0 (g_D0 (A := A)) hK (fun _ _ _ => trivial) hl.1 (Nat.le_of_ble_eq_true rfl) dX9_gate_11 rfl) hP hS hA rfl (fun H locs hP hS => ?_)
    refine lv_if_ne (tgt := 20) (pc := 14) hx hb dX9_gate_14 (by decide) (fun c14 => ?_) (fun c14 => ?_)
    · replace h := it_f c14 h
      refine lv_iload_n (pc := 20) hx hb dX9_gate_20 rfl (lv_at hl 2 rfl) ?_
      refine lv_iconst (v := 4) (pc := 21) hx hb dX9_gate_21 (by decide) ?_
      refine lv_icmp_ne (tgt := 33) (pc := 22) hx hb dX9_gate_22 (by decide) (fun c22 => ?_) (fun c22 => ?_)
      · replace h := it_f c22 h
        refine lv_iload_n (pc := 33) hx hb dX9_gate_33 rfl (lv_at hl 2 rfl) ?_
        refine lv_iconst (v := 5) (pc := 34) hx hb dX9_gate_34 (by decide) ?_
        refine lv_icmp_ne (tgt := 46) (pc := 35) hx hb dX9_gate_35 (by decide) (fun c35 => ?_) (fun c35 => ?_)
        · replace h := it_f c35 h
          refine lv_aload_n (pc := 46) hx hb dX9_gate_46 rfl (lv_at hl 0 rfl) ?_
          refine lv_iload_n (pc := 47) hx hb dX9_gate_47 rfl (lv_at hl 1 rfl) ?_
          refine lv_iload_n (pc := 48) hx hb dX9_gate_48 rfl (lv_at hl 2 rfl) ?_
          obtain ⟨r49, hc49, h⟩ := b1_i h
          refine g_all (st1 := [.int r49]) (gr_V (n := 2) (rest := []) (pc := 49) hx hb hml hown hts (cX9_of_met l D c a0 p0 p1 s0 _ hc49) gX9_gate_X9_of rfl rfl rfl (by decide +kernel) rfl ⟨Nat.le_of_ble_eq_true rfl, Nat.le_of_ble_eq_true rfl⟩ ⟨Nat.zero_le _, Nat.zero_le _⟩ 0 9 rfl rfl rfl gT_ok hP hD hK (fun _ _ _ => trivial) hl.1 (Nat.le_of_ble_eq_true rfl) dX9_gate_49 rfl) hD hS hA rfl (fun H locs hP hD hS => ?_)
          have kr := KR r49  _ _ 52 ls h rfl hP hD hS dX9_gate_52
          exact kr
        · replace h := it_t c35 h
          refine lv_aload_n (pc := 38) hx hb dX9_gate_38 rfl (lv_at hl 0 rfl) ?_
          refine lv_iload_n (pc := 39) hx hb dX9_gate_39 rfl (lv_at hl 1 rfl) ?_
          obtain ⟨r40, hc40, h⟩ := b1_i h
          refine g_all (st1 := [.int r40]) (gr_V (n := 1) (rest := []) (pc := 40) hx hb hml hown hts (cX9_sourceOf_met l D c a0 p0 s0 _ hc40) gX9_gate_X9_sourceOf rfl rfl rfl (by decide +kernel) rfl ⟨Nat.le_of_ble_eq_true rfl, Nat.le_of_ble_eq_true rfl⟩ ⟨Nat.zero_le _, Nat.zero_le _⟩ 0 9 rfl rfl rfl gT_ok hP hD hK (fun _ _ _ => trivial) hl.1 (Nat.le_of_ble_eq_true rfl) dX9_gate_40 rfl) hD hS hA rfl (fun H locs hP hD hS => ?_)
          refine lv_goto (tgt := 52) (pc := 43) hx hb dX9_gate_43 (by decide) ?_
          have kr := KR r40  _ _ 52 ls h rfl hP hD hS dX9_gate_52
          exact kr
      · replace h := it_t c22 h
        refine lv_aload_n (pc := 25) hx hb dX9_gate_25 rfl (lv_at hl 0 rfl) ?_
        refine lv_iload_n (pc := 26) hx hb dX9_gate_26 rfl (lv_at hl 1 rfl) ?_
        obtain ⟨r27, hc27, h⟩ := b1_i h
        refine g_all (st1 := [.int r27]) (gr_V (n := 1) (rest := []) (pc := 27) hx hb hml hown hts (cX9_pathOf_met l D c a0 16 p0 s0 _ hc27) gX9_gate_X9_pathOf rfl rfl rfl (by decide +kernel) rfl ⟨Nat.le_of_ble_eq_true rfl, Nat.le_of_ble_eq_true rfl⟩ ⟨Nat.zero_le _, Nat.zero_le _⟩ 0 9 rfl rfl rfl gT_ok hP hD hK (fun _ _ _ => trivial) hl.1 (Nat.le_of_ble_eq_true rfl) dX9_gate_27 rfl) hD hS hA rfl (fun H locs hP hD hS => ?_)
        refine lv_goto (tgt := 52) (pc := 30) hx hb dX9_gate_30 (by decide) ?_
        have kr := KR r27  _ _ 52 ls h rfl hP hD hS dX9_gate_52
        exact kr
    · replace h := it_t c14 h
      refine lv_bipush (v := -2) (pc := 17) hx hb dX9_gate_17 (by decide) ?_
      have kr := KR (-2 : Int32)  _ _ 19 ls h rfl hP hD hS dX9_gate_19
      exact kr
abbrev rmX9_taken : Room := { frames := 2, cells := 0, slots := 0, locals := 43 }
set_option maxRecDepth 100000 in
set_option maxHeartbeats 40000000 in
theorem cX9_taken_met (l : Launch) (D : va_G) (c : Nat → ClassId) (a0 : Nat → Nat) (p0 : Int32) (p1 : Int32) (s0 : Mem) (r0 : Int32) (h : fX9_taken p0 p1 s0 = some r0) : gM l yX9_taken wsX9_taken rmX9_taken D (gY c) gT [.ref (a0 0), .int p0, .int p1] (wX9 a0 c s0) (some (.int r0)) (wX9 a0 c s0) := by
  unfold fX9_taken at h
  refine gM.I (cc := cX9_taken) (maxL := 5) (by decide) rfl (Nat.le_of_ble_eq_true rfl) ?_
  intro p e s m args below meth cd hx hb hml hown hts A hA ls hl hP hK hD hS hE Q KR0
  have KR : ∀ (v : Int32)  (H : Heap) (locs : List Loc) (pc : Nat) (ls : Array Slot), some v = some r0 → narrow .int (.int v) = .int v → va_P D vwCl (wX9 a0 c s0) H → va_D A (wX9 a0 c s0) → va_S A s.heap H locs → decode cX9_taken pc = .ok (.ireturn, 1) → W p l e rmX9_taken s m args below meth cd H locs 0 0 Q (F0 m pc ls [.int v]) := by
    intro v  H locs pc ls hr hn hP hD hS hd
    cases hr
    exact KR0 _ H locs pc ls rfl hn hP hD hS hd
  have hl : lv_has ls 5 [(0, .ref (a0 0)), (1, .int p0), (2, .int p1)] := hl
  have J56 : ∀ (x1 : Int32) (y0 : Int32) (H : Heap) (locs : List Loc) (ls : Array Slot), fX9_taken_b56 s0 x1 y0 = some r0 → va_P D vwCl (wX9 a0 c s0) H → va_D A (wX9 a0 c s0) → va_S A s.heap H locs → lv_has ls 5 [(0, .ref (a0 0)), (1, .int x1)] → W p l e rmX9_taken s m args below meth cd H locs 0 0 Q (F0 m 56 ls [.int y0]) := by
    intro x1 y0 H locs ls h hP hD hS hl
    unfold fX9_taken_b56 at h
    refine lv_istore (lv' := [(4, .int y0), (0, .ref (a0 0)), (1, .int x1)]) (pc := 56) hx hb dX9_taken_56 hl (by decide) rfl (fun ls hl => ?_)
    refine lv_iload (pc := 58) hx hb dX9_taken_58 (lv_at hl 0 rfl) ?_
    refine lv_if_eq (tgt := 72) (pc := 60) hx hb dX9_taken_60 (by decide) (fun c60 => ?_) (fun c60 => ?_)
    · replace h := it_t c60 h
      refine lv_bipush (v := -13) (pc := 72) hx hb dX9_taken_72 (by decide) ?_
      have kr := KR (-13 : Int32)  _ _ 74 ls h rfl hP hD hS dX9_taken_74
      exact kr
    · replace h := it_f c60 h
      refine lv_aload_n (pc := 63) hx hb dX9_taken_63 rfl (lv_at hl 1 rfl) ?_
      refine lv_iload_n (pc := 64) hx hb dX9_taken_64 rfl (lv_at hl 2 rfl) ?_
      refine lv_iconst (v := 3) (pc := 65) hx hb dX9_taken_65 (by decide) ?_
      obtain ⟨r66, hc66, h⟩ := b1_i h
      refine g_all (st1 := [.int r66]) (gr_V (n := 2) (rest := []) (pc := 66) hx hb hml hown hts (cX9_of_met l D c a0 x1 (3 : Int32) s0 _ hc66) gX9_taken_X9_of rfl rfl rfl (by decide +kernel) rfl ⟨Nat.le_of_ble_eq_true rfl, Nat.le_of_ble_eq_true rfl⟩ ⟨Nat.zero_le _, Nat.zero_le _⟩ 0 9 rfl rfl rfl gT_ok hP hD hK (fun _ _ _ => trivial) hl.1 (Nat.le_of_ble_eq_true rfl) dX9_taken_66 rfl) hD hS hA rfl (fun H locs hP hD hS => ?_)
      refine lv_goto (tgt := 74) (pc := 69) hx hb dX9_taken_69 (by decide) ?_
      have kr := KR r66  _ _ 74 ls h rfl hP hD hS dX9_taken_74
      exact kr
  have J51 : ∀ (x1 : Int32) (H : Heap) (locs : List Loc) (ls : Array Slot), fX9_taken_b51 s0 x1 = some r0 → va_P D vwCl (wX9 a0 c s0) H → va_D A (wX9 a0 c s0) → va_S A s.heap H locs → lv_has ls 5 [(0, .ref (a0 0)), (1, .int x1)] → W p l e rmX9_taken s m args below meth cd H locs 0 0 Q (F0 m 51 ls []) := by
    intro x1 H locs ls h hP hD hS hl
    unfold fX9_taken_b51 at h
    refine lv_iconst (v := 1) (pc := 51) hx hb dX9_taken_51 (by decide) ?_
    refine lv_goto (tgt := 56) (pc := 52) hx hb dX9_taken_52 (by decide) ?_
    have jr := J56 x1 (1 : Int32) _ _ ls h hP hD hS hl
    exact jr
  have J55 : ∀ (x1 : Int32) (H : Heap) (locs : List Loc) (ls : Array Slot), fX9_taken_b55 s0 x1 = some r0 → va_P D vwCl (wX9 a0 c s0) H → va_D A (wX9 a0 c s0) → va_S A s.heap H locs → lv_has ls 5 [(0, .ref (a0 0)), (1, .int x1)] → W p l e rmX9_taken s m args below meth cd H locs 0 0 Q (F0 m 55 ls []) := by
    intro x1 H locs ls h hP hD hS hl
    unfold fX9_taken_b55 at h
    refine lv_iconst (v := 0) (pc := 55) hx hb dX9_taken_55 (by decide) ?_
    have jr := J56 x1 (0 : Int32) _ _ ls h hP hD hS hl
    exact jr
  have J41 : ∀ (x1 : Int32) (x2 : Int32) (x3 : Int32) (H : Heap) (locs : List Loc) (ls : Array Slot), fX9_taken_b41 s0 x1 x2 x3 = some r0 → va_P D vwCl (wX9 a0 c s0) H → va_D A (wX9 a0 c s0) → va_S A s.heap H locs → lv_has ls 5 [(0, .ref (a0 0)), (1, .int x1), (2, .int x2), (3, .int x3)] → W p l e rmX9_taken s m args below meth cd H locs 0 0 Q (F0 m 41 ls []) := by
    intro x1 x2 x3 H locs ls h hP hD hS hl
    unfold fX9_taken_b41 at h
    refine lv_iload_n (pc := 41) hx hb dX9_taken_41 rfl (lv_at hl 3 rfl) ?_
    refine lv_iconst (v := 3) (pc := 42) hx hb dX9_taken_42 (by decide) ?_
    refine lv_icmp_ne (tgt := 55) (pc := 43) hx hb dX9_taken_43 (by decide) (fun c43 => ?_) (fun c43 => ?_)
    · replace h := it_f c43 h
      have jr := J55 x1 _ _ ls h hP hD hS (lv_sub hl [0, 1] rfl)
      exact jr
    · replace h := it_t c43 h
      refine lv_iload_n (pc := 46) hx hb dX9_taken_46 rfl (lv_at hl 2 rfl) ?_
      refine lv_iconst (v := 2) (pc := 47) hx hb dX9_taken_47 (by decide) ?_
      refine lv_icmp_ne (tgt := 55) (pc := 48) hx hb dX9_taken_48 (by decide) (fun c48 => ?_) (fun c48 => ?_)
      · replace h := it_f c48 h
        have jr := J55 x1 _ _ ls h hP hD hS (lv_sub hl [0, 1] rfl)
        exact jr
      · replace h := it_t c48 h
        have jr := J51 x1 _ _ ls h hP hD hS (lv_sub hl [0, 1] rfl)
        exact jr
  refine lv_aload_n (pc := 0) hx hb dX9_taken_0 rfl (lv_at hl 0 rfl) ?_
  refine lv_iload_n (pc := 1) hx hb dX9_taken_1 rfl (lv_at hl 1 rfl) ?_
  obtain ⟨r2, hc2, h⟩ := b1_i h
  refine g_all (st1 := [.int r2]) (gr_V (n := 1) (rest := []) (pc := 2) hx hb hml hown hts (cX9_isGate_met l D c a0 p0 s0 _ hc2) gX9_taken_X9_isGate rfl rfl rfl (by decide +kernel) rfl ⟨Nat.le_of_ble_eq_true rfl, Nat.le_of_ble_eq_true rfl⟩ ⟨Nat.zero_le _, Nat.zero_le _⟩ 0 9 rfl rfl rfl gT_ok hP hD hK (fun _ _ _ => trivial) hl.1 (Nat.le_of_ble_eq_true rfl) dX9_taken_2 rfl) hD hS hA rfl (fun H locs hP hD hS => ?_)
  refine lv_if_eq (tgt := 17) (pc := 5) hx hb dX9_taken_5 (by decide) (fun c5 => ?_) (fun c5 => ?_)
  · replace h := it_t c5 h
    refine lv_bipush (v := -2) (pc := 17) hx hb dX9_taken_17 (by decide) ?_
    have kr := KR (-2 : Int32)  _ _ 19 ls h rfl hP hD hS dX9_taken_19
    exact kr
  · replace h := it_f c5 h
    refine lv_iload_n (pc := 8) hx hb dX9_taken_8 rfl (lv_at hl 2 rfl) ?_
    refine lv_iconst (v := 0) (pc := 9) hx hb dX9_taken_9 (by decide) ?_
    refine lv_iconst (v := 5) (pc := 10) hx hb dX9_taken_10 (by decide) ?_
    obtain ⟨r11, hc11, h⟩ := b1_i h
    refine g_none (st1 := [.int r11]) (gr_S (n := 3) (rest := []) (pc := 11) hx hb hml hown hts (cX9_isIn_met l D c p1 (0 : Int32) (5 : Int32) _ hc11) gX9_taken_X9_isIn rfl rfl rfl (by decide +kernel) rfl ⟨Nat.le_of_ble_eq_true rfl, Nat.le_of_ble_eq_true rfl⟩ ⟨Nat.zero_le _, Nat.zero_le _⟩ gT_ok g_P0 (g_D0 (A := A)) hK (fun _ _ _ => trivial) hl.1 (Nat.le_of_ble_eq_true rfl) dX9_taken_11 rfl) hP hS hA rfl (fun H locs hP hS => ?_)
    refine lv_if_ne (tgt := 20) (pc := 14) hx hb dX9_taken_14 (by decide) (fun c14 => ?_) (fun c14 => ?_)
    · replace h := it_f c14 h
      refine lv_aload_n (pc := 20) hx hb dX9_taken_20 rfl (lv_at hl 0 rfl) ?_
      refine lv_iload_n (pc := 21) hx hb dX9_taken_21 rfl (lv_at hl 1 rfl) ?_
      refine lv_iconst (v := 0) (pc := 22) hx hb dX9_taken_22 (by decide) ?_
      obtain ⟨r23, hc23, h⟩ := b1_i h
      refine g_all (st1 := [.int r23]) (gr_V (n := 2) (rest := []) (pc := 23) hx hb hml hown hts (cX9_of_met l D c a0 p0 (0 : Int32) s0 _ hc23) gX9_taken_X9_of rfl rfl rfl (by decide +kernel) rfl ⟨Nat.le_of_ble_eq_true rfl, Nat.le_of_ble_eq_true rfl⟩ ⟨Nat.zero_le _, Nat.zero_le _⟩ 0 9 rfl rfl rfl gT_ok hP hD hK (fun _ _ _ => trivial) hl.1 (Nat.le_of_ble_eq_true rfl) dX9_taken_23 rfl) hD hS hA rfl (fun H locs hP hD hS => ?_)
      refine lv_istore_n (lv' := [(3, .int r23), (0, .ref (a0 0)), (1, .int p0), (2, .int p1)]) (pc := 26) hx hb dX9_taken_26 rfl hl (by decide) rfl (fun ls hl => ?_)
      refine lv_iload_n (pc := 27) hx hb dX9_taken_27 rfl (lv_at hl 0 rfl) ?_
      refine lv_iload_n (pc := 28) hx hb dX9_taken_28 rfl (lv_at hl 3 rfl) ?_
      refine lv_icmp_eq (tgt := 51) (pc := 29) hx hb dX9_taken_29 (by decide) (fun c29 => ?_) (fun c29 => ?_)
      · replace h := it_t c29 h
        have jr := J51 p0 _ _ ls h hP hD hS (lv_sub hl [1, 2] rfl)
        exact jr
      · replace h := it_f c29 h
        refine lv_iload_n (pc := 32) hx hb dX9_taken_32 rfl (lv_at hl 0 rfl) ?_
        refine lv_iconst (v := 1) (pc := 33) hx hb dX9_taken_33 (by decide) ?_
        refine lv_icmp_ne (tgt := 41) (pc := 34) hx hb dX9_taken_34 (by decide) (fun c34 => ?_) (fun c34 => ?_)
        · replace h := it_f c34 h
          have jr := J41 p0 p1 r23 _ _ ls h hP hD hS (lv_sub hl [1, 2, 3, 0] rfl)
          exact jr
        · replace h := it_t c34 h
          refine lv_iload_n (pc := 37) hx hb dX9_taken_37 rfl (lv_at hl 3 rfl) ?_
          refine lv_if_eq (tgt := 51) (pc := 38) hx hb dX9_taken_38 (by decide) (fun c38 => ?_) (fun c38 => ?_)
          · replace h := it_t c38 h
            have jr := J51 p0 _ _ ls h hP hD hS (lv_sub hl [1, 2] rfl)
            exact jr
          · replace h := it_f c38 h
            have jr := J41 p0 p1 r23 _ _ ls h hP hD hS (lv_sub hl [1, 2, 3, 0] rfl)
            exact jr
    · replace h := it_t c14 h
      refine lv_bipush (v := -2) (pc := 17) hx hb dX9_taken_17 (by decide) ?_
      have kr := KR (-2 : Int32)  _ _ 19 ls h rfl hP hD hS dX9_taken_19
      exact kr
abbrev rmX9_told : Room := { frames := 0, cells := 0, slots := 0, locals := 0 }
set_option maxRecDepth 100000 in
set_option maxHeartbeats 40000000 in
theorem cX9_told_met (l : Launch) (D : va_G) (c : Nat → ClassId)  (p0 : Int32) (p1 : Int32) (p2 : Int32) (r0 : Int32) (h : fX9_told p0 p1 p2 = some r0) : gM l yX9_told wsX9_told rmX9_told D (gY c) gT [.int p0, .int p1, .int p2] ([]) (some (.int r0)) ([]) := by
  unfold fX9_told at h
  refine gM.I (cc := cX9_told) (maxL := 3) (by decide) rfl (Nat.le_of_ble_eq_true rfl) ?_
  intro p e s m args below meth cd hx hb hml hown hts A hA ls hl hP hK hD hS hE Q KR0
  have KR : ∀ (v : Int32)  (H : Heap) (locs : List Loc) (pc : Nat) (ls : Array Slot), some v = some r0 → narrow .int (.int v) = .int v → va_P D vwCl ([]) H → va_D A ([]) → va_S A s.heap H locs → decode cX9_told pc = .ok (.ireturn, 1) → W p l e rmX9_told s m args below meth cd H locs 0 0 Q (F0 m pc ls [.int v]) := by
    intro v  H locs pc ls hr hn hP hD hS hd
    cases hr
    exact KR0 _ H locs pc ls rfl hn hP hD hS hd
  have hl : lv_has ls 3 [(0, .int p0), (1, .int p1), (2, .int p2)] := hl
  refine lv_iload_n (pc := 0) hx hb dX9_told_0 rfl (lv_at hl 0 rfl) ?_
  by_cases c1_0 : p0 = (0 : Int32)
  · replace h := it_t c1_0 h
    refine lv_tableIn (tgt := 36) (off := 35) (pc := 1) hx hb dX9_told_1 (by rw [c1_0]; decide) (by rw [c1_0]; decide) (by rw [c1_0]; rfl) (by decide) ?_
    refine lv_iload_n (pc := 36) hx hb dX9_told_36 rfl (lv_at hl 1 rfl) ?_
    refine lv_iload_n (pc := 37) hx hb dX9_told_37 rfl (lv_at hl 2 rfl) ?_
    refine lv_iand (pc := 38) hx hb dX9_told_38 ?_
    have kr := KR (p1 &&& p2)  _ _ 39 ls h rfl hP hD hS dX9_told_39
    exact kr
  · replace h := it_f c1_0 h
    by_cases c1_1 : p0 = (1 : Int32)
    · replace h := it_t c1_1 h
      refine lv_tableIn (tgt := 40) (off := 39) (pc := 1) hx hb dX9_told_1 (by rw [c1_1]; decide) (by rw [c1_1]; decide) (by rw [c1_1]; rfl) (by decide) ?_
      refine lv_iconst (v := 1) (pc := 40) hx hb dX9_told_40 (by decide) ?_
      refine lv_iload_n (pc := 41) hx hb dX9_told_41 rfl (lv_at hl 1 rfl) ?_
      refine lv_iload_n (pc := 42) hx hb dX9_told_42 rfl (lv_at hl 2 rfl) ?_
      refine lv_iand (pc := 43) hx hb dX9_told_43 ?_
      refine lv_isub (pc := 44) hx hb dX9_told_44 ?_
      have kr := KR ((1 : Int32) - (p1 &&& p2))  _ _ 45 ls h rfl hP hD hS dX9_told_45
      exact kr
    · replace h := it_f c1_1 h
      by_cases c1_2 : p0 = (2 : Int32)
      · replace h := it_t c1_2 h
        refine lv_tableIn (tgt := 46) (off := 45) (pc := 1) hx hb dX9_told_1 (by rw [c1_2]; decide) (by rw [c1_2]; decide) (by rw [c1_2]; rfl) (by decide) ?_
        refine lv_iload_n (pc := 46) hx hb dX9_told_46 rfl (lv_at hl 1 rfl) ?_
        refine lv_iload_n (pc := 47) hx hb dX9_told_47 rfl (lv_at hl 2 rfl) ?_
        refine lv_ior (pc := 48) hx hb dX9_told_48 ?_
        have kr := KR (p1 ||| p2)  _ _ 49 ls h rfl hP hD hS dX9_told_49
        exact kr
      · replace h := it_f c1_2 h
        by_cases c1_3 : p0 = (3 : Int32)
        · replace h := it_t c1_3 h
          refine lv_tableIn (tgt := 50) (off := 49) (pc := 1) hx hb dX9_told_1 (by rw [c1_3]; decide) (by rw [c1_3]; decide) (by rw [c1_3]; rfl) (by decide) ?_
          refine lv_iconst (v := 1) (pc := 50) hx hb dX9_told_50 (by decide) ?_
          refine lv_iload_n (pc := 51) hx hb dX9_told_51 rfl (lv_at hl 1 rfl) ?_
          refine lv_iload_n (pc := 52) hx hb dX9_told_52 rfl (lv_at hl 2 rfl) ?_
          refine lv_ior (pc := 53) hx hb dX9_told_53 ?_
          refine lv_isub (pc := 54) hx hb dX9_told_54 ?_
          have kr := KR ((1 : Int32) - (p1 ||| p2))  _ _ 55 ls h rfl hP hD hS dX9_told_55
          exact kr
        · replace h := it_f c1_3 h
          by_cases c1_4 : p0 = (4 : Int32)
          · replace h := it_t c1_4 h
            refine lv_tableIn (tgt := 56) (off := 55) (pc := 1) hx hb dX9_told_1 (by rw [c1_4]; decide) (by rw [c1_4]; decide) (by rw [c1_4]; rfl) (by decide) ?_
            refine lv_iload_n (pc := 56) hx hb dX9_told_56 rfl (lv_at hl 1 rfl) ?_
            refine lv_iload_n (pc := 57) hx hb dX9_told_57 rfl (lv_at hl 2 rfl) ?_
            refine lv_ixor (pc := 58) hx hb dX9_told_58 ?_
            have kr := KR (p1 ^^^ p2)  _ _ 59 ls h rfl hP hD hS dX9_told_59
            exact kr
          · replace h := it_f c1_4 h
            have hsw : (p0).toInt < 0 ∨ 4 < (p0).toInt := by
              have z0 := lv_neT c1_0 (a := 0) (by decide)
              have z1 := lv_neT c1_1 (a := 1) (by decide)
              have z2 := lv_neT c1_2 (a := 2) (by decide)
              have z3 := lv_neT c1_3 (a := 3) (by decide)
              have z4 := lv_neT c1_4 (a := 4) (by decide)
              omega
            refine lv_tableOut (tgt := 60) (pc := 1) hx hb dX9_told_1 hsw (by decide) ?_
            refine lv_iconst (v := 1) (pc := 60) hx hb dX9_told_60 (by decide) ?_
            refine lv_iload_n (pc := 61) hx hb dX9_told_61 rfl (lv_at hl 1 rfl) ?_
            refine lv_isub (pc := 62) hx hb dX9_told_62 ?_
            have kr := KR ((1 : Int32) - p1)  _ _ 63 ls h rfl hP hD hS dX9_told_63
            exact kr
abbrev rmX9_standsOf : Room := { frames := 0, cells := 0, slots := 0, locals := 0 }
set_option maxRecDepth 100000 in
set_option maxHeartbeats 40000000 in
theorem cX9_standsOf_met (l : Launch) (D : va_G) (c : Nat → ClassId) (a0 : Nat → Nat) (p0 : Int32) (p1 : Int32) (s0 : Mem) (r0 : Int32) (h : fX9_standsOf p0 p1 s0 = some r0) : gM l yX9_standsOf wsX9_standsOf rmX9_standsOf D (gY c) gT [.ref (a0 0), .int p0, .int p1] (wX9 a0 c s0) (some (.int r0)) (wX9 a0 c s0) := by
  unfold fX9_standsOf at h
  refine gM.I (cc := cX9_standsOf) (maxL := 3) (by decide) rfl (Nat.le_of_ble_eq_true rfl) ?_
  intro p e s m args below meth cd hx hb hml hown hts A hA ls hl hP hK hD hS hE Q KR0
  have hfX9 : ∀ w ∈ u_ws RX9 TX9 24, w.before args s = true := fun w hw => hts w (List.mem_cons_of_mem _ (List.mem_append_right _ hw))
  have lk0 := hts (.fieldLink RX9 29 "GlitchNetsModel" "stands" "[I") (List.mem_of_getElem? (i := 1) rfl)
  have KR : ∀ (v : Int32)  (H : Heap) (locs : List Loc) (pc : Nat) (ls : Array Slot), some v = some r0 → narrow .int (.int v) = .int v → va_P D vwCl (wX9 a0 c s0) H → va_D A (wX9 a0 c s0) → va_S A s.heap H locs → decode cX9_standsOf pc = .ok (.ireturn, 1) → W p l e rmX9_standsOf s m args below meth cd H locs 0 0 Q (F0 m pc ls [.int v]) := by
    intro v  H locs pc ls hr hn hP hD hS hd
    cases hr
    exact KR0 _ H locs pc ls rfl hn hP hD hS hd
  have hl : lv_has ls 3 [(0, .ref (a0 0)), (1, .int p0), (2, .int p1)] := hl
  refine lv_iload_n (pc := 0) hx hb dX9_standsOf_0 rfl (lv_at hl 1 rfl) ?_
  refine lv_if_ge (tgt := 14) (pc := 1) hx hb dX9_standsOf_1 (by decide) (fun c1 => ?_) (fun c1 => ?_)
  · replace h := it_t c1 h
    refine lv_aload_n (pc := 14) hx hb dX9_standsOf_14 rfl (lv_at hl 0 rfl) ?_
    refine va_get (D := D) (ci := 9) (v := .ref (a0 7)) (C := RX9) (T := TX9) (N := 24) (pc := 15) hx hb hfX9 (fun _ h9 => h9) hown hK hP 0 rfl rfl 12 (by decide) lk0 (fun _ h9 => h9) rfl dX9_standsOf_15 ?_
    refine lv_iload_n (pc := 18) hx hb dX9_standsOf_18 rfl (lv_at hl 1 rfl) ?_
    obtain ⟨hk19, h⟩ := ckI_i h
    refine va_iald (D := D) (f := (s0.1 12)) (pc := 19) hx hb hK hP 7 0 rfl rfl hk19 dX9_standsOf_19 ?_
    have kr := KR ((s0.1 12) (p0).toNatClampNeg)  _ _ 20 ls h rfl hP hD hS dX9_standsOf_20
    exact kr
  · replace h := it_f c1 h
    refine lv_iload_n (pc := 4) hx hb dX9_standsOf_4 rfl (lv_at hl 2 rfl) ?_
    refine lv_iconst (v := -1) (pc := 5) hx hb dX9_standsOf_5 (by decide) ?_
    refine lv_iload_n (pc := 6) hx hb dX9_standsOf_6 rfl (lv_at hl 1 rfl) ?_
    refine lv_isub (pc := 7) hx hb dX9_standsOf_7 ?_
    refine lv_ishr (pc := 8) hx hb dX9_standsOf_8 ?_
    refine lv_iconst (v := 1) (pc := 9) hx hb dX9_standsOf_9 (by decide) ?_
    refine lv_iand (pc := 10) hx hb dX9_standsOf_10 ?_
    refine lv_goto (tgt := 20) (pc := 11) hx hb dX9_standsOf_11 (by decide) ?_
    have kr := KR ((p1 >>> (((-1 : Int32) - p0) &&& 31)) &&& (1 : Int32))  _ _ 20 ls h rfl hP hD hS dX9_standsOf_20
    exact kr
abbrev rmX9_standsAll : Room := { frames := 1, cells := 0, slots := 0, locals := 22 }
set_option maxRecDepth 100000 in
set_option maxHeartbeats 40000000 in
theorem cX9_standsAll_met (l : Launch) (D : va_G) (c : Nat → ClassId) (a0 : Nat → Nat) (p0 : Int32) (s0 : Mem) (z0 : Mem) (h : fX9_standsAll p0 s0 = some z0) : gM l yX9_standsAll wsX9_standsAll rmX9_standsAll D (gY c) gT [.ref (a0 0), .int p0] (wX9 a0 c s0) none (wX9 a0 c z0) := by
  unfold fX9_standsAll at h
  refine gM.V (cc := cX9_standsAll) (maxL := 3) (by decide) rfl (Nat.le_of_ble_eq_true rfl) ?_
  intro p e s m args below meth cd hx hb hml hown hts A hA ls hl hP hK hD hS hE Q KR0
  have hfX9 : ∀ w ∈ u_ws RX9 TX9 24, w.before args s = true := fun w hw => hts w (List.mem_cons_of_mem _ (List.mem_append_right _ hw))
  have lk0 := hts (.fieldLink RX9 9 "GlitchNetsModel" "s" "[I") (List.mem_of_getElem? (i := 1) rfl)
  have lk1 := hts (.fieldLink RX9 29 "GlitchNetsModel" "stands" "[I") (List.mem_of_getElem? (i := 2) rfl)
  have KR : ∀ (w0 : Mem) (H : Heap) (locs : List Loc) (pc : Nat) (ls : Array Slot), some w0 = some z0 → va_P D vwCl (wX9 a0 c w0) H → va_D A (wX9 a0 c w0) → va_S A s.heap H locs → decode cX9_standsAll pc = .ok (.return_, 1) → W p l e rmX9_standsAll s m args below meth cd H locs 0 0 Q (F0 m pc ls []) := by
    intro w0 H locs pc ls hr hP hD hS hd
    cases hr
    exact KR0 H locs pc ls hP hD hS hd
  have hl : lv_has ls 3 [(0, .ref (a0 0)), (1, .int p0)] := hl
  have J2 : ∀ (n : Nat) (x1 : Int32) (x2 : Int32) (s0 : Mem) (H : Heap) (locs : List Loc) (ls : Array Slot), fX9_standsAll_b2 n x1 x2 s0 = some z0 → va_P D vwCl (wX9 a0 c s0) H → va_D A (wX9 a0 c s0) → va_S A s.heap H locs → lv_has ls 3 [(0, .ref (a0 0)), (1, .int x1), (2, .int x2)] → W p l e rmX9_standsAll s m args below meth cd H locs 0 0 Q (F0 m 2 ls []) := by
    intro n
    induction n with
    | zero =>
      intro x1 x2 s0 H locs ls h _ _ _ _
      cases (show (none : Option (Mem)) = some _ from h)
    | succ n K2h =>
      intro x1 x2 s0 H locs ls h hP hD hS hl
      rw [fX9_standsAll_b2] at h
      refine lv_iload_n (pc := 2) hx hb dX9_standsAll_2 rfl (lv_at hl 2 rfl) ?_
      refine lv_aload_n (pc := 3) hx hb dX9_standsAll_3 rfl (lv_at hl 0 rfl) ?_
      refine va_get (D := D) (ci := 9) (v := .ref (a0 1)) (C := RX9) (T := TX9) (N := 24) (pc := 4) hx hb hfX9 (fun _ h9 => h9) hown hK hP 0 rfl rfl 0 (by decide) lk0 (fun _ h9 => h9) rfl dX9_standsAll_4 ?_
      refine lv_iconst (v := 0) (pc := 7) hx hb dX9_standsAll_7 (by decide) ?_
      obtain ⟨hk8, h⟩ := ckI_i h
      refine va_iald (D := D) (f := (s0.1 0)) (pc := 8) hx hb hK hP 1 0 rfl rfl hk8 dX9_standsAll_8 ?_
      refine lv_icmp_ge (tgt := 55) (pc := 9) hx hb dX9_standsAll_9 (by decide) (fun c9 => ?_) (fun c9 => ?_)
      · replace h := it_t c9 h
        have kr := KR s0 _ _ 55 ls h hP hD hS dX9_standsAll_55
        exact kr
      · replace h := it_f c9 h
        refine lv_aload_n (pc := 12) hx hb dX9_standsAll_12 rfl (lv_at hl 0 rfl) ?_
        refine va_get (D := D) (ci := 9) (v := .ref (a0 7)) (C := RX9) (T := TX9) (N := 24) (pc := 13) hx hb hfX9 (fun _ h9 => h9) hown hK hP 0 rfl rfl 12 (by decide) lk1 (fun _ h9 => h9) rfl dX9_standsAll_13 ?_
        refine lv_iload_n (pc := 16) hx hb dX9_standsAll_16 rfl (lv_at hl 2 rfl) ?_
        refine lv_aload_n (pc := 17) hx hb dX9_standsAll_17 rfl (lv_at hl 0 rfl) ?_
        refine lv_iload_n (pc := 18) hx hb dX9_standsAll_18 rfl (lv_at hl 2 rfl) ?_
        refine lv_iconst (v := 0) (pc := 19) hx hb dX9_standsAll_19 (by decide) ?_
        obtain ⟨r20, hc20, h⟩ := b1_i h
        refine g_all (st1 := [.int r20, .int x2, .ref (a0 7)]) (gr_V (n := 2) (rest := [.int x2, .ref (a0 7)]) (pc := 20) hx hb hml hown hts (cX9_of_met l D c a0 x2 (0 : Int32) s0 _ hc20) gX9_standsAll_X9_of rfl rfl rfl (by decide +kernel) rfl ⟨Nat.le_of_ble_eq_true rfl, Nat.le_of_ble_eq_true rfl⟩ ⟨Nat.zero_le _, Nat.zero_le _⟩ 0 9 rfl rfl rfl gT_ok hP hD hK (fun _ _ _ => trivial) hl.1 (Nat.le_of_ble_eq_true rfl) dX9_standsAll_20 rfl) hD hS hA rfl (fun H locs hP hD hS => ?_)
        refine lv_aload_n (pc := 23) hx hb dX9_standsAll_23 rfl (lv_at hl 0 rfl) ?_
        refine lv_aload_n (pc := 24) hx hb dX9_standsAll_24 rfl (lv_at hl 0 rfl) ?_
        refine lv_iload_n (pc := 25) hx hb dX9_standsAll_25 rfl (lv_at hl 2 rfl) ?_
        refine lv_iconst (v := 1) (pc := 26) hx hb dX9_standsAll_26 (by decide) ?_
        obtain ⟨r27, hc27, h⟩ := b1_i h
        refine g_all (st1 := [.int r27, .ref (a0 0), .int r20, .int x2, .ref (a0 7)]) (gr_V (n := 2) (rest := [.ref (a0 0), .int r20, .int x2, .ref (a0 7)]) (pc := 27) hx hb hml hown hts (cX9_of_met l D c a0 x2 (1 : Int32) s0 _ hc27) gX9_standsAll_X9_of rfl rfl rfl (by decide +kernel) rfl ⟨Nat.le_of_ble_eq_true rfl, Nat.le_of_ble_eq_true rfl⟩ ⟨Nat.zero_le _, Nat.zero_le _⟩ 0 9 rfl rfl rfl gT_ok hP hD hK (fun _ _ _ => trivial) hl.1 (Nat.le_of_ble_eq_true rfl) dX9_standsAll_27 rfl) hD hS hA rfl (fun H locs hP hD hS => ?_)
        refine lv_iload_n (pc := 30) hx hb dX9_standsAll_30 rfl (lv_at hl 1 rfl) ?_
        obtain ⟨r31, hc31, h⟩ := b1_i h
        refine g_all (st1 := [.int r31, .int r20, .int x2, .ref (a0 7)]) (gr_V (n := 2) (rest := [.int r20, .int x2, .ref (a0 7)]) (pc := 31) hx hb hml hown hts (cX9_standsOf_met l D c a0 r27 x1 s0 _ hc31) gX9_standsAll_X9_standsOf rfl rfl rfl (by decide +kernel) rfl ⟨Nat.le_of_ble_eq_true rfl, Nat.le_of_ble_eq_true rfl⟩ ⟨Nat.zero_le _, Nat.zero_le _⟩ 0 9 rfl rfl rfl gT_ok hP hD hK (fun _ _ _ => trivial) hl.1 (Nat.le_of_ble_eq_true rfl) dX9_standsAll_31 rfl) hD hS hA rfl (fun H locs hP hD hS => ?_)
        refine lv_aload_n (pc := 34) hx hb dX9_standsAll_34 rfl (lv_at hl 0 rfl) ?_
        refine lv_aload_n (pc := 35) hx hb dX9_standsAll_35 rfl (lv_at hl 0 rfl) ?_
        refine lv_iload_n (pc := 36) hx hb dX9_standsAll_36 rfl (lv_at hl 2 rfl) ?_
        refine lv_iconst (v := 2) (pc := 37) hx hb dX9_standsAll_37 (by decide) ?_
        obtain ⟨r38, hc38, h⟩ := b1_i h
        refine g_all (st1 := [.int r38, .ref (a0 0), .int r31, .int r20, .int x2, .ref (a0 7)]) (gr_V (n := 2) (rest := [.ref (a0 0), .int r31, .int r20, .int x2, .ref (a0 7)]) (pc := 38) hx hb hml hown hts (cX9_of_met l D c a0 x2 (2 : Int32) s0 _ hc38) gX9_standsAll_X9_of rfl rfl rfl (by decide +kernel) rfl ⟨Nat.le_of_ble_eq_true rfl, Nat.le_of_ble_eq_true rfl⟩ ⟨Nat.zero_le _, Nat.zero_le _⟩ 0 9 rfl rfl rfl gT_ok hP hD hK (fun _ _ _ => trivial) hl.1 (Nat.le_of_ble_eq_true rfl) dX9_standsAll_38 rfl) hD hS hA rfl (fun H locs hP hD hS => ?_)
        refine lv_iload_n (pc := 41) hx hb dX9_standsAll_41 rfl (lv_at hl 1 rfl) ?_
        obtain ⟨r42, hc42, h⟩ := b1_i h
        refine g_all (st1 := [.int r42, .int r31, .int r20, .int x2, .ref (a0 7)]) (gr_V (n := 2) (rest := [.int r31, .int r20, .int x2, .ref (a0 7)]) (pc := 42) hx hb hml hown hts (cX9_standsOf_met l D c a0 r38 x1 s0 _ hc42) gX9_standsAll_X9_standsOf rfl rfl rfl (by decide +kernel) rfl ⟨Nat.le_of_ble_eq_true rfl, Nat.le_of_ble_eq_true rfl⟩ ⟨Nat.zero_le _, Nat.zero_le _⟩ 0 9 rfl rfl rfl gT_ok hP hD hK (fun _ _ _ => trivial) hl.1 (Nat.le_of_ble_eq_true rfl) dX9_standsAll_42 rfl) hD hS hA rfl (fun H locs hP hD hS => ?_)
        obtain ⟨r45, hc45, h⟩ := b1_i h
        refine g_none (st1 := [.int r45, .int x2, .ref (a0 7)]) (gr_S (n := 3) (rest := [.int x2, .ref (a0 7)]) (pc := 45) hx hb hml hown hts (cX9_told_met l D c r20 r31 r42 _ hc45) gX9_standsAll_X9_told rfl rfl rfl (by decide +kernel) rfl ⟨Nat.le_of_ble_eq_true rfl, Nat.le_of_ble_eq_true rfl⟩ ⟨Nat.zero_le _, Nat.zero_le _⟩ gT_ok g_P0 (g_D0 (A := A)) hK (fun _ _ _ => trivial) hl.1 (Nat.le_of_ble_eq_true rfl) dX9_standsAll_45 rfl) hP hS hA rfl (fun H locs hP hS => ?_)
        obtain ⟨hk48, h⟩ := ckI_i h
        refine va_iast (D := D) (f := (s0.1 12)) (pc := 48) hx hb hK hP hD hS 7 0 rfl rfl hk48 dX9_standsAll_48 (fun H locs hP hD hS => ?_)
        obtain ⟨m0_48, em0_48, h⟩ := lt_i h
        have hP : va_P D vwCl (wX9 a0 c m0_48) H := by rw [em0_48]; exact hP
        have hD : va_D A (wX9 a0 c m0_48) := by rw [em0_48]; exact hD
        obtain ⟨v2_49, ev2_49, h⟩ := lt_i h
        refine lv_iinc (v := v2_49) (lv' := [(2, .int v2_49), (0, .ref (a0 0)), (1, .int x1)]) (pc := 49) hx hb dX9_standsAll_49 hl (k := 2) rfl (by rw [ev2_49]; rfl) (by decide) rfl (fun ls hl => ?_)
        refine lv_goto (tgt := 2) (pc := 52) hx hb dX9_standsAll_52 (by decide) ?_
        have jr := K2h x1 v2_49 m0_48 _ _ ls h hP hD hS (lv_sub hl [1, 2, 0] rfl)
        exact jr
  refine lv_iconst (v := 0) (pc := 0) hx hb dX9_standsAll_0 (by decide) ?_
  refine lv_istore_n (lv' := [(2, .int (0 : Int32)), (0, .ref (a0 0)), (1, .int p0)]) (pc := 1) hx hb dX9_standsAll_1 rfl hl (by decide) rfl (fun ls hl => ?_)
  have jr := J2 FU p0 (0 : Int32) s0 _ _ ls h hP hD hS (lv_sub hl [1, 2, 0] rfl)
  exact jr
abbrev rmX9_tells : Room := { frames := 2, cells := 0, slots := 0, locals := 44 }
set_option maxRecDepth 100000 in
set_option maxHeartbeats 40000000 in
theorem cX9_tells_met (l : Launch) (D : va_G) (c : Nat → ClassId) (a0 : Nat → Nat) (p0 : Int32) (p1 : Int32) (s0 : Mem) (r0 : Int32) (z0 : Mem) (h : fX9_tells p0 p1 s0 = some (r0, z0)) : gM l yX9_tells wsX9_tells rmX9_tells D (gY c) gT [.ref (a0 0), .int p0, .int p1] (wX9 a0 c s0) (some (.int r0)) (wX9 a0 c z0) := by
  unfold fX9_tells at h
  refine gM.I (cc := cX9_tells) (maxL := 3) (by decide) rfl (Nat.le_of_ble_eq_true rfl) ?_
  intro p e s m args below meth cd hx hb hml hown hts A hA ls hl hP hK hD hS hE Q KR0
  have hfX9 : ∀ w ∈ u_ws RX9 TX9 24, w.before args s = true := fun w hw => hts w (List.mem_cons_of_mem _ (List.mem_append_right _ hw))
  have lk0 := hts (.fieldLink RX9 29 "GlitchNetsModel" "stands" "[I") (List.mem_of_getElem? (i := 1) rfl)
  have KR : ∀ (v : Int32) (w0 : Mem) (H : Heap) (locs : List Loc) (pc : Nat) (ls : Array Slot), some (v, w0) = some (r0, z0) → narrow .int (.int v) = .int v → va_P D vwCl (wX9 a0 c w0) H → va_D A (wX9 a0 c w0) → va_S A s.heap H locs → decode cX9_tells pc = .ok (.ireturn, 1) → W p l e rmX9_tells s m args below meth cd H locs 0 0 Q (F0 m pc ls [.int v]) := by
    intro v w0 H locs pc ls hr hn hP hD hS hd
    cases hr
    exact KR0 _ H locs pc ls rfl hn hP hD hS hd
  have hl : lv_has ls 3 [(0, .ref (a0 0)), (1, .int p0), (2, .int p1)] := hl
  refine lv_aload_n (pc := 0) hx hb dX9_tells_0 rfl (lv_at hl 0 rfl) ?_
  refine lv_iload_n (pc := 1) hx hb dX9_tells_1 rfl (lv_at hl 1 rfl) ?_
  obtain ⟨r2, hc2, h⟩ := b1_i h
  refine g_all (st1 := [.int r2]) (gr_V (n := 1) (rest := []) (pc := 2) hx hb hml hown hts (cX9_isGate_met l D c a0 p0 s0 _ hc2) gX9_tells_X9_isGate rfl rfl rfl (by decide +kernel) rfl ⟨Nat.le_of_ble_eq_true rfl, Nat.le_of_ble_eq_true rfl⟩ ⟨Nat.zero_le _, Nat.zero_le _⟩ 0 9 rfl rfl rfl gT_ok hP hD hK (fun _ _ _ => trivial) hl.1 (Nat.le_of_ble_eq_true rfl) dX9_tells_2 rfl) hD hS hA rfl (fun H locs hP hD hS => ?_)
  refine lv_if_eq (tgt := 15) (pc := 5) hx hb dX9_tells_5 (by decide) (fun c5 => ?_) (fun c5 => ?_)
  · replace h := it_t c5 h
    refine lv_bipush (v := -2) (pc := 15) hx hb dX9_tells_15 (by decide) ?_
    have kr := KR (-2 : Int32) s0 _ _ 17 ls h rfl hP hD hS dX9_tells_17
    exact kr
  · replace h := it_f c5 h
    refine lv_iload_n (pc := 8) hx hb dX9_tells_8 rfl (lv_at hl 2 rfl) ?_
    obtain ⟨r9, hc9, h⟩ := b1_i h
    refine g_none (st1 := [.int r9]) (gr_S (n := 1) (rest := []) (pc := 9) hx hb hml hown hts (cX9_isStand_met l D c p1 _ hc9) gX9_tells_X9_isStand rfl rfl rfl (by decide +kernel) rfl ⟨Nat.le_of_ble_eq_true rfl, Nat.le_of_ble_eq_true rfl⟩ ⟨Nat.zero_le _, Nat.zero_le _⟩ gT_ok g_P0 (g_D0 (A := A)) hK (fun _ _ _ => trivial) hl.1 (Nat.le_of_ble_eq_true rfl) dX9_tells_9 rfl) hP hS hA rfl (fun H locs hP hS => ?_)
    refine lv_if_ne (tgt := 18) (pc := 12) hx hb dX9_tells_12 (by decide) (fun c12 => ?_) (fun c12 => ?_)
    · replace h := it_f c12 h
      refine lv_aload_n (pc := 18) hx hb dX9_tells_18 rfl (lv_at hl 0 rfl) ?_
      refine lv_iload_n (pc := 19) hx hb dX9_tells_19 rfl (lv_at hl 2 rfl) ?_
      obtain ⟨t0_20, hc20, h⟩ := b1_i h
      refine g_all (st1 := []) (gr_V (n := 1) (rest := []) (pc := 20) hx hb hml hown hts (cX9_standsAll_met l D c a0 p1 s0 _ hc20) gX9_tells_X9_standsAll rfl rfl rfl (by decide +kernel) rfl ⟨Nat.le_of_ble_eq_true rfl, Nat.le_of_ble_eq_true rfl⟩ ⟨Nat.zero_le _, Nat.zero_le _⟩ 0 9 rfl rfl rfl gT_ok hP hD hK (fun _ _ _ => trivial) hl.1 (Nat.le_of_ble_eq_true rfl) dX9_tells_20 rfl) hD hS hA rfl (fun H locs hP hD hS => ?_)
      refine lv_aload_n (pc := 23) hx hb dX9_tells_23 rfl (lv_at hl 0 rfl) ?_
      refine va_get (D := D) (ci := 9) (v := .ref (a0 7)) (C := RX9) (T := TX9) (N := 24) (pc := 24) hx hb hfX9 (fun _ h9 => h9) hown hK hP 0 rfl rfl 12 (by decide) lk0 (fun _ h9 => h9) rfl dX9_tells_24 ?_
      refine lv_iload_n (pc := 27) hx hb dX9_tells_27 rfl (lv_at hl 1 rfl) ?_
      obtain ⟨hk28, h⟩ := ckI_i h
      refine va_iald (D := D) (f := (t0_20.1 12)) (pc := 28) hx hb hK hP 7 0 rfl rfl hk28 dX9_tells_28 ?_
      have kr := KR ((t0_20.1 12) (p0).toNatClampNeg) t0_20 _ _ 29 ls h rfl hP hD hS dX9_tells_29
      exact kr
    · replace h := it_t c12 h
      refine lv_bipush (v := -2) (pc := 15) hx hb dX9_tells_15 (by decide) ?_
      have kr := KR (-2 : Int32) s0 _ _ 17 ls h rfl hP hD hS dX9_tells_17
      exact kr
abbrev rmX9_tableOf : Room := { frames := 2, cells := 0, slots := 0, locals := 44 }
set_option maxRecDepth 100000 in
set_option maxHeartbeats 40000000 in
theorem cX9_tableOf_met (l : Launch) (D : va_G) (c : Nat → ClassId) (a0 : Nat → Nat) (s0 : Mem) (r0 : Int32) (z0 : Mem) (h : fX9_tableOf s0 = some (r0, z0)) : gM l yX9_tableOf wsX9_tableOf rmX9_tableOf D (gY c) gT [.ref (a0 0)] (wX9 a0 c s0) (some (.int r0)) (wX9 a0 c z0) := by
  unfold fX9_tableOf at h
  refine gM.I (cc := cX9_tableOf) (maxL := 3) (by decide) rfl (Nat.le_of_ble_eq_true rfl) ?_
  intro p e s m args below meth cd hx hb hml hown hts A hA ls hl hP hK hD hS hE Q KR0
  have hfX9 : ∀ w ∈ u_ws RX9 TX9 24, w.before args s = true := fun w hw => hts w (List.mem_cons_of_mem _ (List.mem_append_right _ hw))
  have lk0 := hts (.fieldLink RX9 29 "GlitchNetsModel" "stands" "[I") (List.mem_of_getElem? (i := 1) rfl)
  have KR : ∀ (v : Int32) (w0 : Mem) (H : Heap) (locs : List Loc) (pc : Nat) (ls : Array Slot), some (v, w0) = some (r0, z0) → narrow .int (.int v) = .int v → va_P D vwCl (wX9 a0 c w0) H → va_D A (wX9 a0 c w0) → va_S A s.heap H locs → decode cX9_tableOf pc = .ok (.ireturn, 1) → W p l e rmX9_tableOf s m args below meth cd H locs 0 0 Q (F0 m pc ls [.int v]) := by
    intro v w0 H locs pc ls hr hn hP hD hS hd
    cases hr
    exact KR0 _ H locs pc ls rfl hn hP hD hS hd
  have hl : lv_has ls 3 [(0, .ref (a0 0))] := hl
  have J4 : ∀ (n : Nat) (x1 : Int32) (x2 : Int32) (s0 : Mem) (H : Heap) (locs : List Loc) (ls : Array Slot), fX9_tableOf_b4 n x1 x2 s0 = some (r0, z0) → va_P D vwCl (wX9 a0 c s0) H → va_D A (wX9 a0 c s0) → va_S A s.heap H locs → lv_has ls 3 [(0, .ref (a0 0)), (1, .int x1), (2, .int x2)] → W p l e rmX9_tableOf s m args below meth cd H locs 0 0 Q (F0 m 4 ls []) := by
    intro n
    induction n with
    | zero =>
      intro x1 x2 s0 H locs ls h _ _ _ _
      cases (show (none : Option (Int32 × Mem)) = some _ from h)
    | succ n K4h =>
      intro x1 x2 s0 H locs ls h hP hD hS hl
      rw [fX9_tableOf_b4] at h
      refine lv_iload_n (pc := 4) hx hb dX9_tableOf_4 rfl (lv_at hl 2 rfl) ?_
      refine lv_bipush (v := 16) (pc := 5) hx hb dX9_tableOf_5 (by decide) ?_
      refine lv_icmp_ge (tgt := 35) (pc := 7) hx hb dX9_tableOf_7 (by decide) (fun c7 => ?_) (fun c7 => ?_)
      · replace h := it_t c7 h
        refine lv_iload_n (pc := 35) hx hb dX9_tableOf_35 rfl (lv_at hl 1 rfl) ?_
        have kr := KR x1 s0 _ _ 36 ls h rfl hP hD hS dX9_tableOf_36
        exact kr
      · replace h := it_f c7 h
        refine lv_aload_n (pc := 10) hx hb dX9_tableOf_10 rfl (lv_at hl 0 rfl) ?_
        refine lv_iload_n (pc := 11) hx hb dX9_tableOf_11 rfl (lv_at hl 2 rfl) ?_
        obtain ⟨t0_12, hc12, h⟩ := b1_i h
        refine g_all (st1 := []) (gr_V (n := 1) (rest := []) (pc := 12) hx hb hml hown hts (cX9_standsAll_met l D c a0 x2 s0 _ hc12) gX9_tableOf_X9_standsAll rfl rfl rfl (by decide +kernel) rfl ⟨Nat.le_of_ble_eq_true rfl, Nat.le_of_ble_eq_true rfl⟩ ⟨Nat.zero_le _, Nat.zero_le _⟩ 0 9 rfl rfl rfl gT_ok hP hD hK (fun _ _ _ => trivial) hl.1 (Nat.le_of_ble_eq_true rfl) dX9_tableOf_12 rfl) hD hS hA rfl (fun H locs hP hD hS => ?_)
        refine lv_iload_n (pc := 15) hx hb dX9_tableOf_15 rfl (lv_at hl 1 rfl) ?_
        refine lv_aload_n (pc := 16) hx hb dX9_tableOf_16 rfl (lv_at hl 0 rfl) ?_
        refine va_get (D := D) (ci := 9) (v := .ref (a0 7)) (C := RX9) (T := TX9) (N := 24) (pc := 17) hx hb hfX9 (fun _ h9 => h9) hown hK hP 0 rfl rfl 12 (by decide) lk0 (fun _ h9 => h9) rfl dX9_tableOf_17 ?_
        refine lv_aload_n (pc := 20) hx hb dX9_tableOf_20 rfl (lv_at hl 0 rfl) ?_
        obtain ⟨r21, hc21, h⟩ := b1_i h
        refine g_all (st1 := [.int r21, .ref (a0 7), .int x1]) (gr_V (n := 0) (rest := [.ref (a0 7), .int x1]) (pc := 21) hx hb hml hown hts (cX9_output_met l D c a0 t0_12 _ hc21) gX9_tableOf_X9_output rfl rfl rfl (by decide +kernel) rfl ⟨Nat.le_of_ble_eq_true rfl, Nat.le_of_ble_eq_true rfl⟩ ⟨Nat.zero_le _, Nat.zero_le _⟩ 0 9 rfl rfl rfl gT_ok hP hD hK (fun _ _ _ => trivial) hl.1 (Nat.le_of_ble_eq_true rfl) dX9_tableOf_21 rfl) hD hS hA rfl (fun H locs hP hD hS => ?_)
        obtain ⟨hk24, h⟩ := ckI_i h
        refine va_iald (D := D) (f := (t0_12.1 12)) (pc := 24) hx hb hK hP 7 0 rfl rfl hk24 dX9_tableOf_24 ?_
        refine lv_iload_n (pc := 25) hx hb dX9_tableOf_25 rfl (lv_at hl 2 rfl) ?_
        refine lv_ishl (pc := 26) hx hb dX9_tableOf_26 ?_
        refine lv_ior (pc := 27) hx hb dX9_tableOf_27 ?_
        refine lv_topi (fun v1_28 ev1_28 => ?_)
        replace h := lt_e ev1_28 h
        refine lv_istore_n (lv' := [(1, .int v1_28), (0, .ref (a0 0)), (2, .int x2)]) (pc := 28) hx hb dX9_tableOf_28 rfl hl (by decide) rfl (fun ls hl => ?_)
        obtain ⟨v2_29, ev2_29, h⟩ := lt_i h
        refine lv_iinc (v := v2_29) (lv' := [(2, .int v2_29), (1, .int v1_28), (0, .ref (a0 0))]) (pc := 29) hx hb dX9_tableOf_29 hl (k := 2) rfl (by rw [ev2_29]; rfl) (by decide) rfl (fun ls hl => ?_)
        refine lv_goto (tgt := 4) (pc := 32) hx hb dX9_tableOf_32 (by decide) ?_
        have jr := K4h v1_28 v2_29 t0_12 _ _ ls h hP hD hS (lv_sub hl [2, 1, 0] rfl)
        exact jr
  refine lv_iconst (v := 0) (pc := 0) hx hb dX9_tableOf_0 (by decide) ?_
  refine lv_istore_n (lv' := [(1, .int (0 : Int32)), (0, .ref (a0 0))]) (pc := 1) hx hb dX9_tableOf_1 rfl hl (by decide) rfl (fun ls hl => ?_)
  refine lv_iconst (v := 0) (pc := 2) hx hb dX9_tableOf_2 (by decide) ?_
  refine lv_istore_n (lv' := [(2, .int (0 : Int32)), (1, .int (0 : Int32)), (0, .ref (a0 0))]) (pc := 3) hx hb dX9_tableOf_3 rfl hl (by decide) rfl (fun ls hl => ?_)
  have jr := J4 FU (0 : Int32) (0 : Int32) s0 _ _ ls h hP hD hS (lv_sub hl [2, 1, 0] rfl)
  exact jr
abbrev rmX9_table : Room := { frames := 3, cells := 0, slots := 0, locals := 66 }
set_option maxRecDepth 100000 in
set_option maxHeartbeats 40000000 in
theorem cX9_table_met (l : Launch) (D : va_G) (c : Nat → ClassId) (a0 : Nat → Nat) (s0 : Mem) (r0 : Int32) (z0 : Mem) (h : fX9_table s0 = some (r0, z0)) : gM l yX9_table wsX9_table rmX9_table D (gY c) gT [.ref (a0 0)] (wX9 a0 c s0) (some (.int r0)) (wX9 a0 c z0) := by
  unfold fX9_table at h
  refine gM.I (cc := cX9_table) (maxL := 1) (by decide) rfl (Nat.le_of_ble_eq_true rfl) ?_
  intro p e s m args below meth cd hx hb hml hown hts A hA ls hl hP hK hD hS hE Q KR0
  have hfX9 : ∀ w ∈ u_ws RX9 TX9 24, w.before args s = true := fun w hw => hts w (List.mem_cons_of_mem _ (List.mem_append_right _ hw))
  have lk0 := hts (.fieldLink RX9 9 "GlitchNetsModel" "s" "[I") (List.mem_of_getElem? (i := 1) rfl)
  have KR : ∀ (v : Int32) (w0 : Mem) (H : Heap) (locs : List Loc) (pc : Nat) (ls : Array Slot), some (v, w0) = some (r0, z0) → narrow .int (.int v) = .int v → va_P D vwCl (wX9 a0 c w0) H → va_D A (wX9 a0 c w0) → va_S A s.heap H locs → decode cX9_table pc = .ok (.ireturn, 1) → W p l e rmX9_table s m args below meth cd H locs 0 0 Q (F0 m pc ls [.int v]) := by
    intro v w0 H locs pc ls hr hn hP hD hS hd
    cases hr
    exact KR0 _ H locs pc ls rfl hn hP hD hS hd
  have hl : lv_has ls 1 [(0, .ref (a0 0))] := hl
  refine lv_aload_n (pc := 0) hx hb dX9_table_0 rfl (lv_at hl 0 rfl) ?_
  refine va_get (D := D) (ci := 9) (v := .ref (a0 1)) (C := RX9) (T := TX9) (N := 24) (pc := 1) hx hb hfX9 (fun _ h9 => h9) hown hK hP 0 rfl rfl 0 (by decide) lk0 (fun _ h9 => h9) rfl dX9_table_1 ?_
  refine lv_iconst (v := 0) (pc := 4) hx hb dX9_table_4 (by decide) ?_
  obtain ⟨hk5, h⟩ := ckI_i h
  refine va_iald (D := D) (f := (s0.1 0)) (pc := 5) hx hb hK hP 1 0 rfl rfl hk5 dX9_table_5 ?_
  refine lv_if_ne (tgt := 14) (pc := 6) hx hb dX9_table_6 (by decide) (fun c6 => ?_) (fun c6 => ?_)
  · replace h := it_f c6 h
    refine lv_aload_n (pc := 14) hx hb dX9_table_14 rfl (lv_at hl 0 rfl) ?_
    obtain ⟨r15, t0_15, hc15, h⟩ := b2_i h
    refine g_all (st1 := [.int r15]) (gr_V (n := 0) (rest := []) (pc := 15) hx hb hml hown hts (cX9_tableOf_met l D c a0 s0 _ _ hc15) gX9_table_X9_tableOf rfl rfl rfl (by decide +kernel) rfl ⟨Nat.le_of_ble_eq_true rfl, Nat.le_of_ble_eq_true rfl⟩ ⟨Nat.zero_le _, Nat.zero_le _⟩ 0 9 rfl rfl rfl gT_ok hP hD hK (fun _ _ _ => trivial) hl.1 (Nat.le_of_ble_eq_true rfl) dX9_table_15 rfl) hD hS hA rfl (fun H locs hP hD hS => ?_)
    have kr := KR r15 t0_15 _ _ 18 ls h rfl hP hD hS dX9_table_18
    exact kr
  · replace h := it_t c6 h
    refine lv_bipush (v := -3) (pc := 9) hx hb dX9_table_9 (by decide) ?_
    refine lv_goto (tgt := 18) (pc := 11) hx hb dX9_table_11 (by decide) ?_
    have kr := KR (-3 : Int32) s0 _ _ 18 ls h rfl hP hD hS dX9_table_18
    exact kr
abbrev rmX9_at : Room := { frames := 0, cells := 0, slots := 0, locals := 0 }
set_option maxRecDepth 100000 in
set_option maxHeartbeats 40000000 in
theorem cX9_at_met (l : Launch) (D : va_G) (c : Nat → ClassId) (a0 : Nat → Nat) (p0 : Int32) (p1 : Int32) (p2 : Int32) (p3 : Int32) (s0 : Mem) (r0 : Int32) (h : fX9_at p0 p1 p2 p3 s0 = some r0) : gM l yX9_at wsX9_at rmX9_at D (gY c) gT [.ref (a0 0), .int p0, .int p1, .int p2, .int p3] (wX9 a0 c s0) (some (.int r0)) (wX9 a0 c s0) := by
  unfold fX9_at at h
  refine gM.I (cc := cX9_at) (maxL := 5) (by decide) rfl (Nat.le_of_ble_eq_true rfl) ?_
  intro p e s m args below meth cd hx hb hml hown hts A hA ls hl hP hK hD hS hE Q KR0
  have hfX9 : ∀ w ∈ u_ws RX9 TX9 24, w.before args s = true := fun w hw => hts w (List.mem_cons_of_mem _ (List.mem_append_right _ hw))
  have lk0 := hts (.fieldLink RX9 32 "GlitchNetsModel" "wave" "[I") (List.mem_of_getElem? (i := 2) rfl)
  have lk1 := hts (.fieldLink RX9 29 "GlitchNetsModel" "stands" "[I") (List.mem_of_getElem? (i := 1) rfl)
  have KR : ∀ (v : Int32)  (H : Heap) (locs : List Loc) (pc : Nat) (ls : Array Slot), some v = some r0 → narrow .int (.int v) = .int v → va_P D vwCl (wX9 a0 c s0) H → va_D A (wX9 a0 c s0) → va_S A s.heap H locs → decode cX9_at pc = .ok (.ireturn, 1) → W p l e rmX9_at s m args below meth cd H locs 0 0 Q (F0 m pc ls [.int v]) := by
    intro v  H locs pc ls hr hn hP hD hS hd
    cases hr
    exact KR0 _ H locs pc ls rfl hn hP hD hS hd
  have hl : lv_has ls 5 [(0, .ref (a0 0)), (1, .int p0), (2, .int p1), (3, .int p2), (4, .int p3)] := hl
  refine lv_iload_n (pc := 0) hx hb dX9_at_0 rfl (lv_at hl 1 rfl) ?_
  refine lv_if_ge (tgt := 21) (pc := 1) hx hb dX9_at_1 (by decide) (fun c1 => ?_) (fun c1 => ?_)
  · replace h := it_t c1 h
    refine lv_iload (pc := 21) hx hb dX9_at_21 (lv_at hl 4 rfl) ?_
    refine lv_if_ge (tgt := 35) (pc := 23) hx hb dX9_at_23 (by decide) (fun c23 => ?_) (fun c23 => ?_)
    · replace h := it_t c23 h
      refine lv_aload_n (pc := 35) hx hb dX9_at_35 rfl (lv_at hl 0 rfl) ?_
      refine va_get (D := D) (ci := 9) (v := .ref (a0 8)) (C := RX9) (T := TX9) (N := 24) (pc := 36) hx hb hfX9 (fun _ h9 => h9) hown hK hP 0 rfl rfl 13 (by decide) lk0 (fun _ h9 => h9) rfl dX9_at_36 ?_
      refine lv_bipush (v := 109) (pc := 39) hx hb dX9_at_39 (by decide) ?_
      refine lv_iload_n (pc := 41) hx hb dX9_at_41 rfl (lv_at hl 1 rfl) ?_
      refine lv_imul (pc := 42) hx hb dX9_at_42 ?_
      refine lv_iload (pc := 43) hx hb dX9_at_43 (lv_at hl 4 rfl) ?_
      refine lv_iadd (pc := 45) hx hb dX9_at_45 ?_
      obtain ⟨hk46, h⟩ := ckI_i h
      refine va_iald (D := D) (f := (s0.1 13)) (pc := 46) hx hb hK hP 8 0 rfl rfl hk46 dX9_at_46 ?_
      have kr := KR ((s0.1 13) ((((109 : Int32) * p0) + p3)).toNatClampNeg)  _ _ 47 ls h rfl hP hD hS dX9_at_47
      exact kr
    · replace h := it_f c23 h
      refine lv_aload_n (pc := 26) hx hb dX9_at_26 rfl (lv_at hl 0 rfl) ?_
      refine va_get (D := D) (ci := 9) (v := .ref (a0 7)) (C := RX9) (T := TX9) (N := 24) (pc := 27) hx hb hfX9 (fun _ h9 => h9) hown hK hP 0 rfl rfl 12 (by decide) lk1 (fun _ h9 => h9) rfl dX9_at_27 ?_
      refine lv_iload_n (pc := 30) hx hb dX9_at_30 rfl (lv_at hl 1 rfl) ?_
      obtain ⟨hk31, h⟩ := ckI_i h
      refine va_iald (D := D) (f := (s0.1 12)) (pc := 31) hx hb hK hP 7 0 rfl rfl hk31 dX9_at_31 ?_
      refine lv_goto (tgt := 47) (pc := 32) hx hb dX9_at_32 (by decide) ?_
      have kr := KR ((s0.1 12) (p0).toNatClampNeg)  _ _ 47 ls h rfl hP hD hS dX9_at_47
      exact kr
  · replace h := it_f c1 h
    refine lv_iload (pc := 4) hx hb dX9_at_4 (lv_at hl 4 rfl) ?_
    refine lv_if_ge (tgt := 13) (pc := 6) hx hb dX9_at_6 (by decide) (fun c6 => ?_) (fun c6 => ?_)
    · replace h := it_t c6 h
      refine lv_iload_n (pc := 13) hx hb dX9_at_13 rfl (lv_at hl 3 rfl) ?_
      refine lv_iconst (v := -1) (pc := 14) hx hb dX9_at_14 (by decide) ?_
      refine lv_iload_n (pc := 15) hx hb dX9_at_15 rfl (lv_at hl 1 rfl) ?_
      refine lv_isub (pc := 16) hx hb dX9_at_16 ?_
      refine lv_ishr (pc := 17) hx hb dX9_at_17 ?_
      refine lv_iconst (v := 1) (pc := 18) hx hb dX9_at_18 (by decide) ?_
      refine lv_iand (pc := 19) hx hb dX9_at_19 ?_
      have kr := KR ((p2 >>> (((-1 : Int32) - p0) &&& 31)) &&& (1 : Int32))  _ _ 20 ls h rfl hP hD hS dX9_at_20
      exact kr
    · replace h := it_f c6 h
      refine lv_iload_n (pc := 9) hx hb dX9_at_9 rfl (lv_at hl 2 rfl) ?_
      refine lv_goto (tgt := 14) (pc := 10) hx hb dX9_at_10 (by decide) ?_
      refine lv_iconst (v := -1) (pc := 14) hx hb dX9_at_14 (by decide) ?_
      refine lv_iload_n (pc := 15) hx hb dX9_at_15 rfl (lv_at hl 1 rfl) ?_
      refine lv_isub (pc := 16) hx hb dX9_at_16 ?_
      refine lv_ishr (pc := 17) hx hb dX9_at_17 ?_
      refine lv_iconst (v := 1) (pc := 18) hx hb dX9_at_18 (by decide) ?_
      refine lv_iand (pc := 19) hx hb dX9_at_19 ?_
      have kr := KR ((p1 >>> (((-1 : Int32) - p0) &&& 31)) &&& (1 : Int32))  _ _ 20 ls h rfl hP hD hS dX9_at_20
      exact kr
abbrev rmX9_outAt : Room := { frames := 1, cells := 0, slots := 0, locals := 20 }
set_option maxRecDepth 100000 in
set_option maxHeartbeats 40000000 in
theorem cX9_outAt_met (l : Launch) (D : va_G) (c : Nat → ClassId) (a0 : Nat → Nat) (p0 : Int32) (s0 : Mem) (r0 : Int32) (h : fX9_outAt p0 s0 = some r0) : gM l yX9_outAt wsX9_outAt rmX9_outAt D (gY c) gT [.ref (a0 0), .int p0] (wX9 a0 c s0) (some (.int r0)) (wX9 a0 c s0) := by
  unfold fX9_outAt at h
  refine gM.I (cc := cX9_outAt) (maxL := 2) (by decide) rfl (Nat.le_of_ble_eq_true rfl) ?_
  intro p e s m args below meth cd hx hb hml hown hts A hA ls hl hP hK hD hS hE Q KR0
  have hfX9 : ∀ w ∈ u_ws RX9 TX9 24, w.before args s = true := fun w hw => hts w (List.mem_cons_of_mem _ (List.mem_append_right _ hw))
  have lk0 := hts (.fieldLink RX9 32 "GlitchNetsModel" "wave" "[I") (List.mem_of_getElem? (i := 2) rfl)
  have lk1 := hts (.fieldLink RX9 29 "GlitchNetsModel" "stands" "[I") (List.mem_of_getElem? (i := 1) rfl)
  have KR : ∀ (v : Int32)  (H : Heap) (locs : List Loc) (pc : Nat) (ls : Array Slot), some v = some r0 → narrow .int (.int v) = .int v → va_P D vwCl (wX9 a0 c s0) H → va_D A (wX9 a0 c s0) → va_S A s.heap H locs → decode cX9_outAt pc = .ok (.ireturn, 1) → W p l e rmX9_outAt s m args below meth cd H locs 0 0 Q (F0 m pc ls [.int v]) := by
    intro v  H locs pc ls hr hn hP hD hS hd
    cases hr
    exact KR0 _ H locs pc ls rfl hn hP hD hS hd
  have hl : lv_has ls 2 [(0, .ref (a0 0)), (1, .int p0)] := hl
  refine lv_iload_n (pc := 0) hx hb dX9_outAt_0 rfl (lv_at hl 1 rfl) ?_
  refine lv_if_ge (tgt := 16) (pc := 1) hx hb dX9_outAt_1 (by decide) (fun c1 => ?_) (fun c1 => ?_)
  · replace h := it_t c1 h
    refine lv_aload_n (pc := 16) hx hb dX9_outAt_16 rfl (lv_at hl 0 rfl) ?_
    refine va_get (D := D) (ci := 9) (v := .ref (a0 8)) (C := RX9) (T := TX9) (N := 24) (pc := 17) hx hb hfX9 (fun _ h9 => h9) hown hK hP 0 rfl rfl 13 (by decide) lk0 (fun _ h9 => h9) rfl dX9_outAt_17 ?_
    refine lv_bipush (v := 109) (pc := 20) hx hb dX9_outAt_20 (by decide) ?_
    refine lv_aload_n (pc := 22) hx hb dX9_outAt_22 rfl (lv_at hl 0 rfl) ?_
    obtain ⟨r23, hc23, h⟩ := b1_i h
    refine g_all (st1 := [.int r23, .int (109 : Int32), .ref (a0 8)]) (gr_V (n := 0) (rest := [.int (109 : Int32), .ref (a0 8)]) (pc := 23) hx hb hml hown hts (cX9_output_met l D c a0 s0 _ hc23) gX9_outAt_X9_output rfl rfl rfl (by decide +kernel) rfl ⟨Nat.le_of_ble_eq_true rfl, Nat.le_of_ble_eq_true rfl⟩ ⟨Nat.zero_le _, Nat.zero_le _⟩ 0 9 rfl rfl rfl gT_ok hP hD hK (fun _ _ _ => trivial) hl.1 (Nat.le_of_ble_eq_true rfl) dX9_outAt_23 rfl) hD hS hA rfl (fun H locs hP hD hS => ?_)
    refine lv_imul (pc := 26) hx hb dX9_outAt_26 ?_
    refine lv_iload_n (pc := 27) hx hb dX9_outAt_27 rfl (lv_at hl 1 rfl) ?_
    refine lv_iadd (pc := 28) hx hb dX9_outAt_28 ?_
    obtain ⟨hk29, h⟩ := ckI_i h
    refine va_iald (D := D) (f := (s0.1 13)) (pc := 29) hx hb hK hP 8 0 rfl rfl hk29 dX9_outAt_29 ?_
    have kr := KR ((s0.1 13) ((((109 : Int32) * r23) + p0)).toNatClampNeg)  _ _ 30 ls h rfl hP hD hS dX9_outAt_30
    exact kr
  · replace h := it_f c1 h
    refine lv_aload_n (pc := 4) hx hb dX9_outAt_4 rfl (lv_at hl 0 rfl) ?_
    refine va_get (D := D) (ci := 9) (v := .ref (a0 7)) (C := RX9) (T := TX9) (N := 24) (pc := 5) hx hb hfX9 (fun _ h9 => h9) hown hK hP 0 rfl rfl 12 (by decide) lk1 (fun _ h9 => h9) rfl dX9_outAt_5 ?_
    refine lv_aload_n (pc := 8) hx hb dX9_outAt_8 rfl (lv_at hl 0 rfl) ?_
    obtain ⟨r9, hc9, h⟩ := b1_i h
    refine g_all (st1 := [.int r9, .ref (a0 7)]) (gr_V (n := 0) (rest := [.ref (a0 7)]) (pc := 9) hx hb hml hown hts (cX9_output_met l D c a0 s0 _ hc9) gX9_outAt_X9_output rfl rfl rfl (by decide +kernel) rfl ⟨Nat.le_of_ble_eq_true rfl, Nat.le_of_ble_eq_true rfl⟩ ⟨Nat.zero_le _, Nat.zero_le _⟩ 0 9 rfl rfl rfl gT_ok hP hD hK (fun _ _ _ => trivial) hl.1 (Nat.le_of_ble_eq_true rfl) dX9_outAt_9 rfl) hD hS hA rfl (fun H locs hP hD hS => ?_)
    obtain ⟨hk12, h⟩ := ckI_i h
    refine va_iald (D := D) (f := (s0.1 12)) (pc := 12) hx hb hK hP 7 0 rfl rfl hk12 dX9_outAt_12 ?_
    refine lv_goto (tgt := 30) (pc := 13) hx hb dX9_outAt_13 (by decide) ?_
    have kr := KR ((s0.1 12) (r9).toNatClampNeg)  _ _ 30 ls h rfl hP hD hS dX9_outAt_30
    exact kr
abbrev rmX9_waves : Room := { frames := 2, cells := 0, slots := 0, locals := 44 }
set_option maxRecDepth 100000 in
set_option maxHeartbeats 40000000 in
theorem cX9_waves_met (l : Launch) (D : va_G) (c : Nat → ClassId) (a0 : Nat → Nat) (p0 : Int32) (p1 : Int32) (s0 : Mem) (z0 : Mem) (h : fX9_waves p0 p1 s0 = some z0) : gM l yX9_waves wsX9_waves rmX9_waves D (gY c) gT [.ref (a0 0), .int p0, .int p1] (wX9 a0 c s0) none (wX9 a0 c z0) := by
  unfold fX9_waves at h
  refine gM.V (cc := cX9_waves) (maxL := 6) (by decide) rfl (Nat.le_of_ble_eq_true rfl) ?_
  intro p e s m args below meth cd hx hb hml hown hts A hA ls hl hP hK hD hS hE Q KR0
  have hfX9 : ∀ w ∈ u_ws RX9 TX9 24, w.before args s = true := fun w hw => hts w (List.mem_cons_of_mem _ (List.mem_append_right _ hw))
  have lk0 := hts (.fieldLink RX9 9 "GlitchNetsModel" "s" "[I") (List.mem_of_getElem? (i := 1) rfl)
  have lk1 := hts (.fieldLink RX9 154 "GlitchNetsModel" "flips" "I") (List.mem_of_getElem? (i := 3) rfl)
  have lk2 := hts (.fieldLink RX9 157 "GlitchNetsModel" "last" "I") (List.mem_of_getElem? (i := 4) rfl)
  have lk3 := hts (.fieldLink RX9 32 "GlitchNetsModel" "wave" "[I") (List.mem_of_getElem? (i := 2) rfl)
  have KR : ∀ (w0 : Mem) (H : Heap) (locs : List Loc) (pc : Nat) (ls : Array Slot), some w0 = some z0 → va_P D vwCl (wX9 a0 c w0) H → va_D A (wX9 a0 c w0) → va_S A s.heap H locs → decode cX9_waves pc = .ok (.return_, 1) → W p l e rmX9_waves s m args below meth cd H locs 0 0 Q (F0 m pc ls []) := by
    intro w0 H locs pc ls hr hP hD hS hd
    cases hr
    exact KR0 H locs pc ls hP hD hS hd
  have hl : lv_has ls 6 [(0, .ref (a0 0)), (1, .int p0), (2, .int p1)] := hl
  have J153 : ∀ (K114 : Int32 → Mem → Option (Mem)) (K114h : ∀ (x3 : Int32) (s0 : Mem) (H : Heap) (locs : List Loc) (ls : Array Slot), K114 x3 s0 = some z0 → va_P D vwCl (wX9 a0 c s0) H → va_D A (wX9 a0 c s0) → va_S A s.heap H locs → lv_has ls 6 [(0, .ref (a0 0)), (3, .int x3)] → W p l e rmX9_waves s m args below meth cd H locs 0 0 Q (F0 m 114 ls [])) (x3 : Int32) (s0 : Mem) (H : Heap) (locs : List Loc) (ls : Array Slot), fX9_waves_b153 K114 x3 s0 = some z0 → va_P D vwCl (wX9 a0 c s0) H → va_D A (wX9 a0 c s0) → va_S A s.heap H locs → lv_has ls 6 [(0, .ref (a0 0)), (3, .int x3)] → W p l e rmX9_waves s m args below meth cd H locs 0 0 Q (F0 m 153 ls []) := by
    intro K114 K114h x3 s0 H locs ls h hP hD hS hl
    unfold fX9_waves_b153 at h
    obtain ⟨v3_153, ev3_153, h⟩ := lt_i h
    refine lv_iinc (v := v3_153) (lv' := [(3, .int v3_153), (0, .ref (a0 0))]) (pc := 153) hx hb dX9_waves_153 hl (k := 1) rfl (by rw [ev3_153]; rfl) (by decide) rfl (fun ls hl => ?_)
    refine lv_goto (tgt := 114) (pc := 156) hx hb dX9_waves_156 (by decide) ?_
    have jr := K114h v3_153 s0 _ _ ls h hP hD hS (lv_sub hl [1, 0] rfl)
    exact jr
  have J114 : ∀ (n : Nat) (x3 : Int32) (s0 : Mem) (H : Heap) (locs : List Loc) (ls : Array Slot), fX9_waves_b114 n x3 s0 = some z0 → va_P D vwCl (wX9 a0 c s0) H → va_D A (wX9 a0 c s0) → va_S A s.heap H locs → lv_has ls 6 [(0, .ref (a0 0)), (3, .int x3)] → W p l e rmX9_waves s m args below meth cd H locs 0 0 Q (F0 m 114 ls []) := by
    intro n
    induction n with
    | zero =>
      intro x3 s0 H locs ls h _ _ _ _
      cases (show (none : Option (Mem)) = some _ from h)
    | succ n K114h =>
      intro x3 s0 H locs ls h hP hD hS hl
      rw [fX9_waves_b114] at h
      refine lv_iload_n (pc := 114) hx hb dX9_waves_114 rfl (lv_at hl 1 rfl) ?_
      refine lv_bipush (v := 109) (pc := 115) hx hb dX9_waves_115 (by decide) ?_
      refine lv_icmp_ge (tgt := 159) (pc := 117) hx hb dX9_waves_117 (by decide) (fun c117 => ?_) (fun c117 => ?_)
      · replace h := it_t c117 h
        have kr := KR s0 _ _ 159 ls h hP hD hS dX9_waves_159
        exact kr
      · replace h := it_f c117 h
        refine lv_aload_n (pc := 120) hx hb dX9_waves_120 rfl (lv_at hl 0 rfl) ?_
        refine lv_iload_n (pc := 121) hx hb dX9_waves_121 rfl (lv_at hl 1 rfl) ?_
        obtain ⟨r122, hc122, h⟩ := b1_i h
        refine g_all (st1 := [.int r122]) (gr_V (n := 1) (rest := []) (pc := 122) hx hb hml hown hts (cX9_outAt_met l D c a0 x3 s0 _ hc122) gX9_waves_X9_outAt rfl rfl rfl (by decide +kernel) rfl ⟨Nat.le_of_ble_eq_true rfl, Nat.le_of_ble_eq_true rfl⟩ ⟨Nat.zero_le _, Nat.zero_le _⟩ 0 9 rfl rfl rfl gT_ok hP hD hK (fun _ _ _ => trivial) hl.1 (Nat.le_of_ble_eq_true rfl) dX9_waves_122 rfl) hD hS hA rfl (fun H locs hP hD hS => ?_)
        refine lv_aload_n (pc := 125) hx hb dX9_waves_125 rfl (lv_at hl 0 rfl) ?_
        refine lv_iload_n (pc := 126) hx hb dX9_waves_126 rfl (lv_at hl 1 rfl) ?_
        refine lv_iconst (v := 1) (pc := 127) hx hb dX9_waves_127 (by decide) ?_
        refine lv_isub (pc := 128) hx hb dX9_waves_128 ?_
        obtain ⟨r129, hc129, h⟩ := b1_i h
        refine g_all (st1 := [.int r129, .int r122]) (gr_V (n := 1) (rest := [.int r122]) (pc := 129) hx hb hml hown hts (cX9_outAt_met l D c a0 ((x3 - (1 : Int32))) s0 _ hc129) gX9_waves_X9_outAt rfl rfl rfl (by decide +kernel) rfl ⟨Nat.le_of_ble_eq_true rfl, Nat.le_of_ble_eq_true rfl⟩ ⟨Nat.zero_le _, Nat.zero_le _⟩ 0 9 rfl rfl rfl gT_ok hP hD hK (fun _ _ _ => trivial) hl.1 (Nat.le_of_ble_eq_true rfl) dX9_waves_129 rfl) hD hS hA rfl (fun H locs hP hD hS => ?_)
        refine lv_icmp_ne (tgt := 138) (pc := 132) hx hb dX9_waves_132 (by decide) (fun c132 => ?_) (fun c132 => ?_)
        · replace h := it_f c132 h
          refine lv_aload_n (pc := 138) hx hb dX9_waves_138 rfl (lv_at hl 0 rfl) ?_
          refine lv_dup (pc := 139) hx hb dX9_waves_139 rfl ?_
          refine va_get (D := D) (ci := 9) (v := .int (s0.1 14 0)) (C := RX9) (T := TX9) (N := 24) (pc := 140) hx hb hfX9 (fun _ h9 => h9) hown hK hP 0 rfl rfl 14 (by decide) lk1 (fun _ h9 => h9) rfl dX9_waves_140 ?_
          refine lv_iconst (v := 1) (pc := 143) hx hb dX9_waves_143 (by decide) ?_
          refine lv_iadd (pc := 144) hx hb dX9_waves_144 ?_
          refine va_put (D := D) (ci := 9) (v := .int ((s0.1 14 0) + (1 : Int32))) (ty := .int) (C := RX9) (T := TX9) (N := 24) (pc := 145) hx hb hfX9 (fun _ h9 => h9) tyX9 tyX9_ok nmX9 hown hK hP hD hS 0 rfl rfl 14 (by decide) lk1 (fun _ h9 => h9) rfl (by decide +kernel) rfl rfl (Nat.le_of_ble_eq_true rfl) dX9_waves_145 (fun H locs hP hD hS => ?_)
          obtain ⟨m0_145, em0_145, h⟩ := lt_i h
          have hP : va_P D vwCl (wX9 a0 c m0_145) H := by rw [em0_145]; exact hP
          have hD : va_D A (wX9 a0 c m0_145) := by rw [em0_145]; exact hD
          refine lv_aload_n (pc := 148) hx hb dX9_waves_148 rfl (lv_at hl 0 rfl) ?_
          refine lv_iload_n (pc := 149) hx hb dX9_waves_149 rfl (lv_at hl 1 rfl) ?_
          refine va_put (D := D) (ci := 9) (v := .int x3) (ty := .int) (C := RX9) (T := TX9) (N := 24) (pc := 150) hx hb hfX9 (fun _ h9 => h9) tyX9 tyX9_ok nmX9 hown hK hP hD hS 0 rfl rfl 15 (by decide) lk2 (fun _ h9 => h9) rfl (by decide +kernel) rfl rfl (Nat.le_of_ble_eq_true rfl) dX9_waves_150 (fun H locs hP hD hS => ?_)
          obtain ⟨m0_150, em0_150, h⟩ := lt_i h
          have hP : va_P D vwCl (wX9 a0 c m0_150) H := by rw [em0_150]; exact hP
          have hD : va_D A (wX9 a0 c m0_150) := by rw [em0_150]; exact hD
          have jr := J153 (fX9_waves_b114 n) K114h x3 m0_150 _ _ ls h hP hD hS hl
          exact jr
        · replace h := it_t c132 h
          refine lv_goto (tgt := 153) (pc := 135) hx hb dX9_waves_135 (by decide) ?_
          have jr := J153 (fX9_waves_b114 n) K114h x3 s0 _ _ ls h hP hD hS hl
          exact jr
  have J28 : ∀ (K7 : Int32 → Int32 → Int32 → Mem → Option (Mem)) (K7h : ∀ (x1 : Int32) (x2 : Int32) (x3 : Int32) (s0 : Mem) (H : Heap) (locs : List Loc) (ls : Array Slot), K7 x1 x2 x3 s0 = some z0 → va_P D vwCl (wX9 a0 c s0) H → va_D A (wX9 a0 c s0) → va_S A s.heap H locs → lv_has ls 6 [(0, .ref (a0 0)), (1, .int x1), (2, .int x2), (3, .int x3)] → W p l e rmX9_waves s m args below meth cd H locs 0 0 Q (F0 m 7 ls [])) (n : Nat) (x1 : Int32) (x2 : Int32) (x3 : Int32) (x4 : Int32) (x5 : Int32) (s0 : Mem) (H : Heap) (locs : List Loc) (ls : Array Slot), fX9_waves_b28 K7 n x1 x2 x3 x4 x5 s0 = some z0 → va_P D vwCl (wX9 a0 c s0) H → va_D A (wX9 a0 c s0) → va_S A s.heap H locs → lv_has ls 6 [(0, .ref (a0 0)), (1, .int x1), (2, .int x2), (3, .int x3), (4, .int x4), (5, .int x5)] → W p l e rmX9_waves s m args below meth cd H locs 0 0 Q (F0 m 28 ls []) := by
    intro K7 K7h n
    induction n with
    | zero =>
      intro x1 x2 x3 x4 x5 s0 H locs ls h _ _ _ _
      cases (show (none : Option (Mem)) = some _ from h)
    | succ n K28h =>
      intro x1 x2 x3 x4 x5 s0 H locs ls h hP hD hS hl
      rw [fX9_waves_b28] at h
      refine lv_iload (pc := 28) hx hb dX9_waves_28 (lv_at hl 5 rfl) ?_
      refine lv_bipush (v := 109) (pc := 30) hx hb dX9_waves_30 (by decide) ?_
      refine lv_icmp_ge (tgt := 96) (pc := 32) hx hb dX9_waves_32 (by decide) (fun c32 => ?_) (fun c32 => ?_)
      · replace h := it_t c32 h
        obtain ⟨v3_96, ev3_96, h⟩ := lt_i h
        refine lv_iinc (v := v3_96) (lv' := [(3, .int v3_96), (0, .ref (a0 0)), (1, .int x1), (2, .int x2), (4, .int x4), (5, .int x5)]) (pc := 96) hx hb dX9_waves_96 hl (k := 3) rfl (by rw [ev3_96]; rfl) (by decide) rfl (fun ls hl => ?_)
        refine lv_goto (tgt := 7) (pc := 99) hx hb dX9_waves_99 (by decide) ?_
        have jr := K7h x1 x2 v3_96 s0 _ _ ls h hP hD hS (lv_sub hl [1, 2, 3, 0] rfl)
        exact jr
      · replace h := it_f c32 h
        refine lv_aload_n (pc := 35) hx hb dX9_waves_35 rfl (lv_at hl 0 rfl) ?_
        refine va_get (D := D) (ci := 9) (v := .ref (a0 8)) (C := RX9) (T := TX9) (N := 24) (pc := 36) hx hb hfX9 (fun _ h9 => h9) hown hK hP 0 rfl rfl 13 (by decide) lk3 (fun _ h9 => h9) rfl dX9_waves_36 ?_
        refine lv_bipush (v := 109) (pc := 39) hx hb dX9_waves_39 (by decide) ?_
        refine lv_iload_n (pc := 41) hx hb dX9_waves_41 rfl (lv_at hl 3 rfl) ?_
        refine lv_imul (pc := 42) hx hb dX9_waves_42 ?_
        refine lv_iload (pc := 43) hx hb dX9_waves_43 (lv_at hl 5 rfl) ?_
        refine lv_iadd (pc := 45) hx hb dX9_waves_45 ?_
        refine lv_aload_n (pc := 46) hx hb dX9_waves_46 rfl (lv_at hl 0 rfl) ?_
        refine lv_iload_n (pc := 47) hx hb dX9_waves_47 rfl (lv_at hl 3 rfl) ?_
        refine lv_iconst (v := 0) (pc := 48) hx hb dX9_waves_48 (by decide) ?_
        obtain ⟨r49, hc49, h⟩ := b1_i h
        refine g_all (st1 := [.int r49, .int (((109 : Int32) * x3) + x5), .ref (a0 8)]) (gr_V (n := 2) (rest := [.int (((109 : Int32) * x3) + x5), .ref (a0 8)]) (pc := 49) hx hb hml hown hts (cX9_of_met l D c a0 x3 (0 : Int32) s0 _ hc49) gX9_waves_X9_of rfl rfl rfl (by decide +kernel) rfl ⟨Nat.le_of_ble_eq_true rfl, Nat.le_of_ble_eq_true rfl⟩ ⟨Nat.zero_le _, Nat.zero_le _⟩ 0 9 rfl rfl rfl gT_ok hP hD hK (fun _ _ _ => trivial) hl.1 (Nat.le_of_ble_eq_true rfl) dX9_waves_49 rfl) hD hS hA rfl (fun H locs hP hD hS => ?_)
        refine lv_aload_n (pc := 52) hx hb dX9_waves_52 rfl (lv_at hl 0 rfl) ?_
        refine lv_aload_n (pc := 53) hx hb dX9_waves_53 rfl (lv_at hl 0 rfl) ?_
        refine lv_iload_n (pc := 54) hx hb dX9_waves_54 rfl (lv_at hl 3 rfl) ?_
        refine lv_iconst (v := 1) (pc := 55) hx hb dX9_waves_55 (by decide) ?_
        obtain ⟨r56, hc56, h⟩ := b1_i h
        refine g_all (st1 := [.int r56, .ref (a0 0), .int r49, .int (((109 : Int32) * x3) + x5), .ref (a0 8)]) (gr_V (n := 2) (rest := [.ref (a0 0), .int r49, .int (((109 : Int32) * x3) + x5), .ref (a0 8)]) (pc := 56) hx hb hml hown hts (cX9_of_met l D c a0 x3 (1 : Int32) s0 _ hc56) gX9_waves_X9_of rfl rfl rfl (by decide +kernel) rfl ⟨Nat.le_of_ble_eq_true rfl, Nat.le_of_ble_eq_true rfl⟩ ⟨Nat.zero_le _, Nat.zero_le _⟩ 0 9 rfl rfl rfl gT_ok hP hD hK (fun _ _ _ => trivial) hl.1 (Nat.le_of_ble_eq_true rfl) dX9_waves_56 rfl) hD hS hA rfl (fun H locs hP hD hS => ?_)
        refine lv_iload_n (pc := 59) hx hb dX9_waves_59 rfl (lv_at hl 1 rfl) ?_
        refine lv_iload_n (pc := 60) hx hb dX9_waves_60 rfl (lv_at hl 2 rfl) ?_
        refine lv_iload (pc := 61) hx hb dX9_waves_61 (lv_at hl 5 rfl) ?_
        refine lv_iload (pc := 63) hx hb dX9_waves_63 (lv_at hl 4 rfl) ?_
        refine lv_isub (pc := 65) hx hb dX9_waves_65 ?_
        obtain ⟨r66, hc66, h⟩ := b1_i h
        refine g_all (st1 := [.int r66, .int r49, .int (((109 : Int32) * x3) + x5), .ref (a0 8)]) (gr_V (n := 4) (rest := [.int r49, .int (((109 : Int32) * x3) + x5), .ref (a0 8)]) (pc := 66) hx hb hml hown hts (cX9_at_met l D c a0 r56 x1 x2 ((x5 - x4)) s0 _ hc66) gX9_waves_X9_at rfl rfl rfl (by decide +kernel) rfl ⟨Nat.le_of_ble_eq_true rfl, Nat.le_of_ble_eq_true rfl⟩ ⟨Nat.zero_le _, Nat.zero_le _⟩ 0 9 rfl rfl rfl gT_ok hP hD hK (fun _ _ _ => trivial) hl.1 (Nat.le_of_ble_eq_true rfl) dX9_waves_66 rfl) hD hS hA rfl (fun H locs hP hD hS => ?_)
        refine lv_aload_n (pc := 69) hx hb dX9_waves_69 rfl (lv_at hl 0 rfl) ?_
        refine lv_aload_n (pc := 70) hx hb dX9_waves_70 rfl (lv_at hl 0 rfl) ?_
        refine lv_iload_n (pc := 71) hx hb dX9_waves_71 rfl (lv_at hl 3 rfl) ?_
        refine lv_iconst (v := 2) (pc := 72) hx hb dX9_waves_72 (by decide) ?_
        obtain ⟨r73, hc73, h⟩ := b1_i h
        refine g_all (st1 := [.int r73, .ref (a0 0), .int r66, .int r49, .int (((109 : Int32) * x3) + x5), .ref (a0 8)]) (gr_V (n := 2) (rest := [.ref (a0 0), .int r66, .int r49, .int (((109 : Int32) * x3) + x5), .ref (a0 8)]) (pc := 73) hx hb hml hown hts (cX9_of_met l D c a0 x3 (2 : Int32) s0 _ hc73) gX9_waves_X9_of rfl rfl rfl (by decide +kernel) rfl ⟨Nat.le_of_ble_eq_true rfl, Nat.le_of_ble_eq_true rfl⟩ ⟨Nat.zero_le _, Nat.zero_le _⟩ 0 9 rfl rfl rfl gT_ok hP hD hK (fun _ _ _ => trivial) hl.1 (Nat.le_of_ble_eq_true rfl) dX9_waves_73 rfl) hD hS hA rfl (fun H locs hP hD hS => ?_)
        refine lv_iload_n (pc := 76) hx hb dX9_waves_76 rfl (lv_at hl 1 rfl) ?_
        refine lv_iload_n (pc := 77) hx hb dX9_waves_77 rfl (lv_at hl 2 rfl) ?_
        refine lv_iload (pc := 78) hx hb dX9_waves_78 (lv_at hl 5 rfl) ?_
        refine lv_iload (pc := 80) hx hb dX9_waves_80 (lv_at hl 4 rfl) ?_
        refine lv_isub (pc := 82) hx hb dX9_waves_82 ?_
        obtain ⟨r83, hc83, h⟩ := b1_i h
        refine g_all (st1 := [.int r83, .int r66, .int r49, .int (((109 : Int32) * x3) + x5), .ref (a0 8)]) (gr_V (n := 4) (rest := [.int r66, .int r49, .int (((109 : Int32) * x3) + x5), .ref (a0 8)]) (pc := 83) hx hb hml hown hts (cX9_at_met l D c a0 r73 x1 x2 ((x5 - x4)) s0 _ hc83) gX9_waves_X9_at rfl rfl rfl (by decide +kernel) rfl ⟨Nat.le_of_ble_eq_true rfl, Nat.le_of_ble_eq_true rfl⟩ ⟨Nat.zero_le _, Nat.zero_le _⟩ 0 9 rfl rfl rfl gT_ok hP hD hK (fun _ _ _ => trivial) hl.1 (Nat.le_of_ble_eq_true rfl) dX9_waves_83 rfl) hD hS hA rfl (fun H locs hP hD hS => ?_)
        obtain ⟨r86, hc86, h⟩ := b1_i h
        refine g_none (st1 := [.int r86, .int (((109 : Int32) * x3) + x5), .ref (a0 8)]) (gr_S (n := 3) (rest := [.int (((109 : Int32) * x3) + x5), .ref (a0 8)]) (pc := 86) hx hb hml hown hts (cX9_told_met l D c r49 r66 r83 _ hc86) gX9_waves_X9_told rfl rfl rfl (by decide +kernel) rfl ⟨Nat.le_of_ble_eq_true rfl, Nat.le_of_ble_eq_true rfl⟩ ⟨Nat.zero_le _, Nat.zero_le _⟩ gT_ok g_P0 (g_D0 (A := A)) hK (fun _ _ _ => trivial) hl.1 (Nat.le_of_ble_eq_true rfl) dX9_waves_86 rfl) hP hS hA rfl (fun H locs hP hS => ?_)
        obtain ⟨hk89, h⟩ := ckI_i h
        refine va_iast (D := D) (f := (s0.1 13)) (pc := 89) hx hb hK hP hD hS 8 0 rfl rfl hk89 dX9_waves_89 (fun H locs hP hD hS => ?_)
        obtain ⟨m0_89, em0_89, h⟩ := lt_i h
        have hP : va_P D vwCl (wX9 a0 c m0_89) H := by rw [em0_89]; exact hP
        have hD : va_D A (wX9 a0 c m0_89) := by rw [em0_89]; exact hD
        obtain ⟨v5_90, ev5_90, h⟩ := lt_i h
        refine lv_iinc (v := v5_90) (lv' := [(5, .int v5_90), (0, .ref (a0 0)), (1, .int x1), (2, .int x2), (3, .int x3), (4, .int x4)]) (pc := 90) hx hb dX9_waves_90 hl (k := 5) rfl (by rw [ev5_90]; rfl) (by decide) rfl (fun ls hl => ?_)
        refine lv_goto (tgt := 28) (pc := 93) hx hb dX9_waves_93 (by decide) ?_
        have jr := K28h x1 x2 x3 x4 v5_90 m0_89 _ _ ls h hP hD hS (lv_sub hl [1, 2, 3, 4, 5, 0] rfl)
        exact jr
  have J7 : ∀ (n : Nat) (x1 : Int32) (x2 : Int32) (x3 : Int32) (s0 : Mem) (H : Heap) (locs : List Loc) (ls : Array Slot), fX9_waves_b7 n x1 x2 x3 s0 = some z0 → va_P D vwCl (wX9 a0 c s0) H → va_D A (wX9 a0 c s0) → va_S A s.heap H locs → lv_has ls 6 [(0, .ref (a0 0)), (1, .int x1), (2, .int x2), (3, .int x3)] → W p l e rmX9_waves s m args below meth cd H locs 0 0 Q (F0 m 7 ls []) := by
    intro n
    induction n with
    | zero =>
      intro x1 x2 x3 s0 H locs ls h _ _ _ _
      cases (show (none : Option (Mem)) = some _ from h)
    | succ n K7h =>
      intro x1 x2 x3 s0 H locs ls h hP hD hS hl
      rw [fX9_waves_b7] at h
      refine lv_iload_n (pc := 7) hx hb dX9_waves_7 rfl (lv_at hl 3 rfl) ?_
      refine lv_aload_n (pc := 8) hx hb dX9_waves_8 rfl (lv_at hl 0 rfl) ?_
      refine va_get (D := D) (ci := 9) (v := .ref (a0 1)) (C := RX9) (T := TX9) (N := 24) (pc := 9) hx hb hfX9 (fun _ h9 => h9) hown hK hP 0 rfl rfl 0 (by decide) lk0 (fun _ h9 => h9) rfl dX9_waves_9 ?_
      refine lv_iconst (v := 0) (pc := 12) hx hb dX9_waves_12 (by decide) ?_
      obtain ⟨hk13, h⟩ := ckI_i h
      refine va_iald (D := D) (f := (s0.1 0)) (pc := 13) hx hb hK hP 1 0 rfl rfl hk13 dX9_waves_13 ?_
      refine lv_icmp_ge (tgt := 102) (pc := 14) hx hb dX9_waves_14 (by decide) (fun c14 => ?_) (fun c14 => ?_)
      · replace h := it_t c14 h
        refine lv_aload_n (pc := 102) hx hb dX9_waves_102 rfl (lv_at hl 0 rfl) ?_
        refine lv_iconst (v := 0) (pc := 103) hx hb dX9_waves_103 (by decide) ?_
        refine va_put (D := D) (ci := 9) (v := .int (0 : Int32)) (ty := .int) (C := RX9) (T := TX9) (N := 24) (pc := 104) hx hb hfX9 (fun _ h9 => h9) tyX9 tyX9_ok nmX9 hown hK hP hD hS 0 rfl rfl 14 (by decide) lk1 (fun _ h9 => h9) rfl (by decide +kernel) rfl rfl (Nat.le_of_ble_eq_true rfl) dX9_waves_104 (fun H locs hP hD hS => ?_)
        obtain ⟨m0_104, em0_104, h⟩ := lt_i h
        have hP : va_P D vwCl (wX9 a0 c m0_104) H := by rw [em0_104]; exact hP
        have hD : va_D A (wX9 a0 c m0_104) := by rw [em0_104]; exact hD
        refine lv_aload_n (pc := 107) hx hb dX9_waves_107 rfl (lv_at hl 0 rfl) ?_
        refine lv_iconst (v := -1) (pc := 108) hx hb dX9_waves_108 (by decide) ?_
        refine va_put (D := D) (ci := 9) (v := .int (-1 : Int32)) (ty := .int) (C := RX9) (T := TX9) (N := 24) (pc := 109) hx hb hfX9 (fun _ h9 => h9) tyX9 tyX9_ok nmX9 hown hK hP hD hS 0 rfl rfl 15 (by decide) lk2 (fun _ h9 => h9) rfl (by decide +kernel) rfl rfl (Nat.le_of_ble_eq_true rfl) dX9_waves_109 (fun H locs hP hD hS => ?_)
        obtain ⟨m0_109, em0_109, h⟩ := lt_i h
        have hP : va_P D vwCl (wX9 a0 c m0_109) H := by rw [em0_109]; exact hP
        have hD : va_D A (wX9 a0 c m0_109) := by rw [em0_109]; exact hD
        refine lv_iconst (v := 0) (pc := 112) hx hb dX9_waves_112 (by decide) ?_
        refine lv_istore_n (lv' := [(3, .int (0 : Int32)), (0, .ref (a0 0)), (1, .int x1), (2, .int x2)]) (pc := 113) hx hb dX9_waves_113 rfl hl (by decide) rfl (fun ls hl => ?_)
        have jr := J114 FU (0 : Int32) m0_109 _ _ ls h hP hD hS (lv_sub hl [1, 0] rfl)
        exact jr
      · replace h := it_f c14 h
        refine lv_aload_n (pc := 17) hx hb dX9_waves_17 rfl (lv_at hl 0 rfl) ?_
        refine lv_iload_n (pc := 18) hx hb dX9_waves_18 rfl (lv_at hl 3 rfl) ?_
        refine lv_iconst (v := 3) (pc := 19) hx hb dX9_waves_19 (by decide) ?_
        obtain ⟨r20, hc20, h⟩ := b1_i h
        refine g_all (st1 := [.int r20]) (gr_V (n := 2) (rest := []) (pc := 20) hx hb hml hown hts (cX9_of_met l D c a0 x3 (3 : Int32) s0 _ hc20) gX9_waves_X9_of rfl rfl rfl (by decide +kernel) rfl ⟨Nat.le_of_ble_eq_true rfl, Nat.le_of_ble_eq_true rfl⟩ ⟨Nat.zero_le _, Nat.zero_le _⟩ 0 9 rfl rfl rfl gT_ok hP hD hK (fun _ _ _ => trivial) hl.1 (Nat.le_of_ble_eq_true rfl) dX9_waves_20 rfl) hD hS hA rfl (fun H locs hP hD hS => ?_)
        refine lv_istore (lv' := [(4, .int r20), (0, .ref (a0 0)), (1, .int x1), (2, .int x2), (3, .int x3)]) (pc := 23) hx hb dX9_waves_23 hl (by decide) rfl (fun ls hl => ?_)
        refine lv_iconst (v := 0) (pc := 25) hx hb dX9_waves_25 (by decide) ?_
        refine lv_istore (lv' := [(5, .int (0 : Int32)), (4, .int r20), (0, .ref (a0 0)), (1, .int x1), (2, .int x2), (3, .int x3)]) (pc := 26) hx hb dX9_waves_26 hl (by decide) rfl (fun ls hl => ?_)
        have jr := J28 (fX9_waves_b7 n) K7h FU x1 x2 x3 r20 (0 : Int32) s0 _ _ ls h hP hD hS (lv_sub hl [2, 3, 4, 5, 1, 0] rfl)
        exact jr
  refine lv_aload_n (pc := 0) hx hb dX9_waves_0 rfl (lv_at hl 0 rfl) ?_
  refine lv_iload_n (pc := 1) hx hb dX9_waves_1 rfl (lv_at hl 1 rfl) ?_
  obtain ⟨t0_2, hc2, h⟩ := b1_i h
  refine g_all (st1 := []) (gr_V (n := 1) (rest := []) (pc := 2) hx hb hml hown hts (cX9_standsAll_met l D c a0 p0 s0 _ hc2) gX9_waves_X9_standsAll rfl rfl rfl (by decide +kernel) rfl ⟨Nat.le_of_ble_eq_true rfl, Nat.le_of_ble_eq_true rfl⟩ ⟨Nat.zero_le _, Nat.zero_le _⟩ 0 9 rfl rfl rfl gT_ok hP hD hK (fun _ _ _ => trivial) hl.1 (Nat.le_of_ble_eq_true rfl) dX9_waves_2 rfl) hD hS hA rfl (fun H locs hP hD hS => ?_)
  refine lv_iconst (v := 0) (pc := 5) hx hb dX9_waves_5 (by decide) ?_
  refine lv_istore_n (lv' := [(3, .int (0 : Int32)), (0, .ref (a0 0)), (1, .int p0), (2, .int p1)]) (pc := 6) hx hb dX9_waves_6 rfl hl (by decide) rfl (fun ls hl => ?_)
  have jr := J7 FU p0 p1 (0 : Int32) t0_2 _ _ ls h hP hD hS (lv_sub hl [1, 2, 3, 0] rfl)
  exact jr
abbrev rmX9_glitch : Room := { frames := 2, cells := 0, slots := 0, locals := 41 }
set_option maxRecDepth 100000 in
set_option maxHeartbeats 40000000 in
theorem cX9_glitch_met (l : Launch) (D : va_G) (c : Nat → ClassId) (a0 : Nat → Nat) (s0 : Mem) (r0 : Int32) (h : fX9_glitch s0 = some r0) : gM l yX9_glitch wsX9_glitch rmX9_glitch D (gY c) gT [.ref (a0 0)] (wX9 a0 c s0) (some (.int r0)) (wX9 a0 c s0) := by
  unfold fX9_glitch at h
  refine gM.I (cc := cX9_glitch) (maxL := 2) (by decide) rfl (Nat.le_of_ble_eq_true rfl) ?_
  intro p e s m args below meth cd hx hb hml hown hts A hA ls hl hP hK hD hS hE Q KR0
  have hfX9 : ∀ w ∈ u_ws RX9 TX9 24, w.before args s = true := fun w hw => hts w (List.mem_cons_of_mem _ (List.mem_append_right _ hw))
  have lk0 := hts (.fieldLink RX9 154 "GlitchNetsModel" "flips" "I") (List.mem_of_getElem? (i := 1) rfl)
  have KR : ∀ (v : Int32)  (H : Heap) (locs : List Loc) (pc : Nat) (ls : Array Slot), some v = some r0 → narrow .int (.int v) = .int v → va_P D vwCl (wX9 a0 c s0) H → va_D A (wX9 a0 c s0) → va_S A s.heap H locs → decode cX9_glitch pc = .ok (.ireturn, 1) → W p l e rmX9_glitch s m args below meth cd H locs 0 0 Q (F0 m pc ls [.int v]) := by
    intro v  H locs pc ls hr hn hP hD hS hd
    cases hr
    exact KR0 _ H locs pc ls rfl hn hP hD hS hd
  have hl : lv_has ls 2 [(0, .ref (a0 0))] := hl
  have J19 : ∀ (y0 : Int32) (H : Heap) (locs : List Loc) (ls : Array Slot), fX9_glitch_b19 s0 y0 = some r0 → va_P D vwCl (wX9 a0 c s0) H → va_D A (wX9 a0 c s0) → va_S A s.heap H locs → lv_has ls 2 [(0, .ref (a0 0))] → W p l e rmX9_glitch s m args below meth cd H locs 0 0 Q (F0 m 19 ls [.int y0]) := by
    intro y0 H locs ls h hP hD hS hl
    unfold fX9_glitch_b19 at h
    refine lv_istore_n (lv' := [(1, .int y0), (0, .ref (a0 0))]) (pc := 19) hx hb dX9_glitch_19 rfl hl (by decide) rfl (fun ls hl => ?_)
    refine lv_iload_n (pc := 20) hx hb dX9_glitch_20 rfl (lv_at hl 0 rfl) ?_
    refine lv_if_eq (tgt := 39) (pc := 21) hx hb dX9_glitch_21 (by decide) (fun c21 => ?_) (fun c21 => ?_)
    · replace h := it_t c21 h
      refine lv_aload_n (pc := 39) hx hb dX9_glitch_39 rfl (lv_at hl 1 rfl) ?_
      refine va_get (D := D) (ci := 9) (v := .int (s0.1 14 0)) (C := RX9) (T := TX9) (N := 24) (pc := 40) hx hb hfX9 (fun _ h9 => h9) hown hK hP 0 rfl rfl 14 (by decide) lk0 (fun _ h9 => h9) rfl dX9_glitch_40 ?_
      refine lv_iconst (v := 1) (pc := 43) hx hb dX9_glitch_43 (by decide) ?_
      refine lv_icmp_le (tgt := 51) (pc := 44) hx hb dX9_glitch_44 (by decide) (fun c44 => ?_) (fun c44 => ?_)
      · replace h := it_t c44 h
        refine lv_iconst (v := 0) (pc := 51) hx hb dX9_glitch_51 (by decide) ?_
        have kr := KR (0 : Int32)  _ _ 52 ls h rfl hP hD hS dX9_glitch_52
        exact kr
      · replace h := it_f c44 h
        refine lv_iconst (v := 2) (pc := 47) hx hb dX9_glitch_47 (by decide) ?_
        refine lv_goto (tgt := 52) (pc := 48) hx hb dX9_glitch_48 (by decide) ?_
        have kr := KR (2 : Int32)  _ _ 52 ls h rfl hP hD hS dX9_glitch_52
        exact kr
    · replace h := it_f c21 h
      refine lv_aload_n (pc := 24) hx hb dX9_glitch_24 rfl (lv_at hl 1 rfl) ?_
      refine va_get (D := D) (ci := 9) (v := .int (s0.1 14 0)) (C := RX9) (T := TX9) (N := 24) (pc := 25) hx hb hfX9 (fun _ h9 => h9) hown hK hP 0 rfl rfl 14 (by decide) lk0 (fun _ h9 => h9) rfl dX9_glitch_25 ?_
      refine lv_if_le (tgt := 35) (pc := 28) hx hb dX9_glitch_28 (by decide) (fun c28 => ?_) (fun c28 => ?_)
      · replace h := it_t c28 h
        refine lv_iconst (v := 0) (pc := 35) hx hb dX9_glitch_35 (by decide) ?_
        refine lv_goto (tgt := 52) (pc := 36) hx hb dX9_glitch_36 (by decide) ?_
        have kr := KR (0 : Int32)  _ _ 52 ls h rfl hP hD hS dX9_glitch_52
        exact kr
      · replace h := it_f c28 h
        refine lv_iconst (v := 1) (pc := 31) hx hb dX9_glitch_31 (by decide) ?_
        refine lv_goto (tgt := 52) (pc := 32) hx hb dX9_glitch_32 (by decide) ?_
        have kr := KR (1 : Int32)  _ _ 52 ls h rfl hP hD hS dX9_glitch_52
        exact kr
  refine lv_aload_n (pc := 0) hx hb dX9_glitch_0 rfl (lv_at hl 0 rfl) ?_
  refine lv_bipush (v := 108) (pc := 1) hx hb dX9_glitch_1 (by decide) ?_
  obtain ⟨r3, hc3, h⟩ := b1_i h
  refine g_all (st1 := [.int r3]) (gr_V (n := 1) (rest := []) (pc := 3) hx hb hml hown hts (cX9_outAt_met l D c a0 (108 : Int32) s0 _ hc3) gX9_glitch_X9_outAt rfl rfl rfl (by decide +kernel) rfl ⟨Nat.le_of_ble_eq_true rfl, Nat.le_of_ble_eq_true rfl⟩ ⟨Nat.zero_le _, Nat.zero_le _⟩ 0 9 rfl rfl rfl gT_ok hP hD hK (fun _ _ _ => trivial) hl.1 (Nat.le_of_ble_eq_true rfl) dX9_glitch_3 rfl) hD hS hA rfl (fun H locs hP hD hS => ?_)
  refine lv_aload_n (pc := 6) hx hb dX9_glitch_6 rfl (lv_at hl 0 rfl) ?_
  refine lv_iconst (v := -1) (pc := 7) hx hb dX9_glitch_7 (by decide) ?_
  obtain ⟨r8, hc8, h⟩ := b1_i h
  refine g_all (st1 := [.int r8, .int r3]) (gr_V (n := 1) (rest := [.int r3]) (pc := 8) hx hb hml hown hts (cX9_outAt_met l D c a0 (-1 : Int32) s0 _ hc8) gX9_glitch_X9_outAt rfl rfl rfl (by decide +kernel) rfl ⟨Nat.le_of_ble_eq_true rfl, Nat.le_of_ble_eq_true rfl⟩ ⟨Nat.zero_le _, Nat.zero_le _⟩ 0 9 rfl rfl rfl gT_ok hP hD hK (fun _ _ _ => trivial) hl.1 (Nat.le_of_ble_eq_true rfl) dX9_glitch_8 rfl) hD hS hA rfl (fun H locs hP hD hS => ?_)
  refine lv_icmp_ne (tgt := 18) (pc := 11) hx hb dX9_glitch_11 (by decide) (fun c11 => ?_) (fun c11 => ?_)
  · replace h := it_f c11 h
    refine lv_iconst (v := 0) (pc := 18) hx hb dX9_glitch_18 (by decide) ?_
    have jr := J19 (0 : Int32) _ _ ls h hP hD hS hl
    exact jr
  · replace h := it_t c11 h
    refine lv_iconst (v := 1) (pc := 14) hx hb dX9_glitch_14 (by decide) ?_
    refine lv_goto (tgt := 19) (pc := 15) hx hb dX9_glitch_15 (by decide) ?_
    have jr := J19 (1 : Int32) _ _ ls h hP hD hS hl
    exact jr
abbrev rmX9_isChange : Room := { frames := 2, cells := 0, slots := 0, locals := 42 }
set_option maxRecDepth 100000 in
set_option maxHeartbeats 40000000 in
theorem cX9_isChange_met (l : Launch) (D : va_G) (c : Nat → ClassId)  (p0 : Int32) (p1 : Int32) (r0 : Int32) (h : fX9_isChange p0 p1 = some r0) : gM l yX9_isChange wsX9_isChange rmX9_isChange D (gY c) gT [.int p0, .int p1] ([]) (some (.int r0)) ([]) := by
  unfold fX9_isChange at h
  refine gM.I (cc := cX9_isChange) (maxL := 2) (by decide) rfl (Nat.le_of_ble_eq_true rfl) ?_
  intro p e s m args below meth cd hx hb hml hown hts A hA ls hl hP hK hD hS hE Q KR0
  have KR : ∀ (v : Int32)  (H : Heap) (locs : List Loc) (pc : Nat) (ls : Array Slot), some v = some r0 → narrow .boolean (.int v) = .int v → va_P D vwCl ([]) H → va_D A ([]) → va_S A s.heap H locs → decode cX9_isChange pc = .ok (.ireturn, 1) → W p l e rmX9_isChange s m args below meth cd H locs 0 0 Q (F0 m pc ls [.int v]) := by
    intro v  H locs pc ls hr hn hP hD hS hd
    cases hr
    exact KR0 _ H locs pc ls rfl hn hP hD hS hd
  have hl : lv_has ls 2 [(0, .int p0), (1, .int p1)] := hl
  refine lv_iload_n (pc := 0) hx hb dX9_isChange_0 rfl (lv_at hl 0 rfl) ?_
  obtain ⟨r1, hc1, h⟩ := b1_i h
  refine g_none (st1 := [.int r1]) (gr_S (n := 1) (rest := []) (pc := 1) hx hb hml hown hts (cX9_isStand_met l D c p0 _ hc1) gX9_isChange_X9_isStand rfl rfl rfl (by decide +kernel) rfl ⟨Nat.le_of_ble_eq_true rfl, Nat.le_of_ble_eq_true rfl⟩ ⟨Nat.zero_le _, Nat.zero_le _⟩ gT_ok g_P0 (g_D0 (A := A)) hK (fun _ _ _ => trivial) hl.1 (Nat.le_of_ble_eq_true rfl) dX9_isChange_1 rfl) hP hS hA rfl (fun H locs hP hS => ?_)
  refine lv_if_eq (tgt := 23) (pc := 4) hx hb dX9_isChange_4 (by decide) (fun c4 => ?_) (fun c4 => ?_)
  · replace h := it_t c4 h
    refine lv_iconst (v := 0) (pc := 23) hx hb dX9_isChange_23 (by decide) ?_
    have kr := KR (0 : Int32)  _ _ 24 ls h rfl hP hD hS dX9_isChange_24
    exact kr
  · replace h := it_f c4 h
    refine lv_iload_n (pc := 7) hx hb dX9_isChange_7 rfl (lv_at hl 1 rfl) ?_
    obtain ⟨r8, hc8, h⟩ := b1_i h
    refine g_none (st1 := [.int r8]) (gr_S (n := 1) (rest := []) (pc := 8) hx hb hml hown hts (cX9_isStand_met l D c p1 _ hc8) gX9_isChange_X9_isStand rfl rfl rfl (by decide +kernel) rfl ⟨Nat.le_of_ble_eq_true rfl, Nat.le_of_ble_eq_true rfl⟩ ⟨Nat.zero_le _, Nat.zero_le _⟩ gT_ok g_P0 (g_D0 (A := A)) hK (fun _ _ _ => trivial) hl.1 (Nat.le_of_ble_eq_true rfl) dX9_isChange_8 rfl) hP hS hA rfl (fun H locs hP hS => ?_)
    refine lv_if_eq (tgt := 23) (pc := 11) hx hb dX9_isChange_11 (by decide) (fun c11 => ?_) (fun c11 => ?_)
    · replace h := it_t c11 h
      refine lv_iconst (v := 0) (pc := 23) hx hb dX9_isChange_23 (by decide) ?_
      have kr := KR (0 : Int32)  _ _ 24 ls h rfl hP hD hS dX9_isChange_24
      exact kr
    · replace h := it_f c11 h
      refine lv_iload_n (pc := 14) hx hb dX9_isChange_14 rfl (lv_at hl 0 rfl) ?_
      refine lv_iload_n (pc := 15) hx hb dX9_isChange_15 rfl (lv_at hl 1 rfl) ?_
      refine lv_icmp_eq (tgt := 23) (pc := 16) hx hb dX9_isChange_16 (by decide) (fun c16 => ?_) (fun c16 => ?_)
      · replace h := it_t c16 h
        refine lv_iconst (v := 0) (pc := 23) hx hb dX9_isChange_23 (by decide) ?_
        have kr := KR (0 : Int32)  _ _ 24 ls h rfl hP hD hS dX9_isChange_24
        exact kr
      · replace h := it_f c16 h
        refine lv_iconst (v := 1) (pc := 19) hx hb dX9_isChange_19 (by decide) ?_
        refine lv_goto (tgt := 24) (pc := 20) hx hb dX9_isChange_20 (by decide) ?_
        have kr := KR (1 : Int32)  _ _ 24 ls h rfl hP hD hS dX9_isChange_24
        exact kr
abbrev rmX9_wave : Room := { frames := 3, cells := 0, slots := 0, locals := 69 }
set_option maxRecDepth 100000 in
set_option maxHeartbeats 40000000 in
theorem cX9_wave_met (l : Launch) (D : va_G) (c : Nat → ClassId) (a0 : Nat → Nat) (p0 : Int32) (p1 : Int32) (p2 : Int32) (s0 : Mem) (r0 : Int32) (z0 : Mem) (h : fX9_wave p0 p1 p2 s0 = some (r0, z0)) : gM l yX9_wave wsX9_wave rmX9_wave D (gY c) gT [.ref (a0 0), .int p0, .int p1, .int p2] (wX9 a0 c s0) (some (.int r0)) (wX9 a0 c z0) := by
  unfold fX9_wave at h
  refine gM.I (cc := cX9_wave) (maxL := 4) (by decide) rfl (Nat.le_of_ble_eq_true rfl) ?_
  intro p e s m args below meth cd hx hb hml hown hts A hA ls hl hP hK hD hS hE Q KR0
  have hfX9 : ∀ w ∈ u_ws RX9 TX9 24, w.before args s = true := fun w hw => hts w (List.mem_cons_of_mem _ (List.mem_append_right _ hw))
  have lk0 := hts (.fieldLink RX9 9 "GlitchNetsModel" "s" "[I") (List.mem_of_getElem? (i := 1) rfl)
  have KR : ∀ (v : Int32) (w0 : Mem) (H : Heap) (locs : List Loc) (pc : Nat) (ls : Array Slot), some (v, w0) = some (r0, z0) → narrow .int (.int v) = .int v → va_P D vwCl (wX9 a0 c w0) H → va_D A (wX9 a0 c w0) → va_S A s.heap H locs → decode cX9_wave pc = .ok (.ireturn, 1) → W p l e rmX9_wave s m args below meth cd H locs 0 0 Q (F0 m pc ls [.int v]) := by
    intro v w0 H locs pc ls hr hn hP hD hS hd
    cases hr
    exact KR0 _ H locs pc ls rfl hn hP hD hS hd
  have hl : lv_has ls 4 [(0, .ref (a0 0)), (1, .int p0), (2, .int p1), (3, .int p2)] := hl
  refine lv_iload_n (pc := 0) hx hb dX9_wave_0 rfl (lv_at hl 1 rfl) ?_
  refine lv_iload_n (pc := 1) hx hb dX9_wave_1 rfl (lv_at hl 2 rfl) ?_
  obtain ⟨r2, hc2, h⟩ := b1_i h
  refine g_none (st1 := [.int r2]) (gr_S (n := 2) (rest := []) (pc := 2) hx hb hml hown hts (cX9_isChange_met l D c p0 p1 _ hc2) gX9_wave_X9_isChange rfl rfl rfl (by decide +kernel) rfl ⟨Nat.le_of_ble_eq_true rfl, Nat.le_of_ble_eq_true rfl⟩ ⟨Nat.zero_le _, Nat.zero_le _⟩ gT_ok g_P0 (g_D0 (A := A)) hK (fun _ _ _ => trivial) hl.1 (Nat.le_of_ble_eq_true rfl) dX9_wave_2 rfl) hP hS hA rfl (fun H locs hP hS => ?_)
  refine lv_if_eq (tgt := 18) (pc := 5) hx hb dX9_wave_5 (by decide) (fun c5 => ?_) (fun c5 => ?_)
  · replace h := it_t c5 h
    refine lv_bipush (v := -2) (pc := 18) hx hb dX9_wave_18 (by decide) ?_
    have kr := KR (-2 : Int32) s0 _ _ 20 ls h rfl hP hD hS dX9_wave_20
    exact kr
  · replace h := it_f c5 h
    refine lv_iload_n (pc := 8) hx hb dX9_wave_8 rfl (lv_at hl 3 rfl) ?_
    refine lv_iconst (v := 0) (pc := 9) hx hb dX9_wave_9 (by decide) ?_
    refine lv_bipush (v := 108) (pc := 10) hx hb dX9_wave_10 (by decide) ?_
    obtain ⟨r12, hc12, h⟩ := b1_i h
    refine g_none (st1 := [.int r12]) (gr_S (n := 3) (rest := []) (pc := 12) hx hb hml hown hts (cX9_isIn_met l D c p2 (0 : Int32) (108 : Int32) _ hc12) gX9_wave_X9_isIn rfl rfl rfl (by decide +kernel) rfl ⟨Nat.le_of_ble_eq_true rfl, Nat.le_of_ble_eq_true rfl⟩ ⟨Nat.zero_le _, Nat.zero_le _⟩ gT_ok g_P0 (g_D0 (A := A)) hK (fun _ _ _ => trivial) hl.1 (Nat.le_of_ble_eq_true rfl) dX9_wave_12 rfl) hP hS hA rfl (fun H locs hP hS => ?_)
    refine lv_if_ne (tgt := 21) (pc := 15) hx hb dX9_wave_15 (by decide) (fun c15 => ?_) (fun c15 => ?_)
    · replace h := it_f c15 h
      refine lv_aload_n (pc := 21) hx hb dX9_wave_21 rfl (lv_at hl 0 rfl) ?_
      refine va_get (D := D) (ci := 9) (v := .ref (a0 1)) (C := RX9) (T := TX9) (N := 24) (pc := 22) hx hb hfX9 (fun _ h9 => h9) hown hK hP 0 rfl rfl 0 (by decide) lk0 (fun _ h9 => h9) rfl dX9_wave_22 ?_
      refine lv_iconst (v := 0) (pc := 25) hx hb dX9_wave_25 (by decide) ?_
      obtain ⟨hk26, h⟩ := ckI_i h
      refine va_iald (D := D) (f := (s0.1 0)) (pc := 26) hx hb hK hP 1 0 rfl rfl hk26 dX9_wave_26 ?_
      refine lv_if_ne (tgt := 33) (pc := 27) hx hb dX9_wave_27 (by decide) (fun c27 => ?_) (fun c27 => ?_)
      · replace h := it_f c27 h
        refine lv_aload_n (pc := 33) hx hb dX9_wave_33 rfl (lv_at hl 0 rfl) ?_
        refine lv_iload_n (pc := 34) hx hb dX9_wave_34 rfl (lv_at hl 1 rfl) ?_
        refine lv_iload_n (pc := 35) hx hb dX9_wave_35 rfl (lv_at hl 2 rfl) ?_
        obtain ⟨t0_36, hc36, h⟩ := b1_i h
        refine g_all (st1 := []) (gr_V (n := 2) (rest := []) (pc := 36) hx hb hml hown hts (cX9_waves_met l D c a0 p0 p1 s0 _ hc36) gX9_wave_X9_waves rfl rfl rfl (by decide +kernel) rfl ⟨Nat.le_of_ble_eq_true rfl, Nat.le_of_ble_eq_true rfl⟩ ⟨Nat.zero_le _, Nat.zero_le _⟩ 0 9 rfl rfl rfl gT_ok hP hD hK (fun _ _ _ => trivial) hl.1 (Nat.le_of_ble_eq_true rfl) dX9_wave_36 rfl) hD hS hA rfl (fun H locs hP hD hS => ?_)
        refine lv_aload_n (pc := 39) hx hb dX9_wave_39 rfl (lv_at hl 0 rfl) ?_
        refine lv_iload_n (pc := 40) hx hb dX9_wave_40 rfl (lv_at hl 3 rfl) ?_
        obtain ⟨r41, hc41, h⟩ := b1_i h
        refine g_all (st1 := [.int r41]) (gr_V (n := 1) (rest := []) (pc := 41) hx hb hml hown hts (cX9_outAt_met l D c a0 p2 t0_36 _ hc41) gX9_wave_X9_outAt rfl rfl rfl (by decide +kernel) rfl ⟨Nat.le_of_ble_eq_true rfl, Nat.le_of_ble_eq_true rfl⟩ ⟨Nat.zero_le _, Nat.zero_le _⟩ 0 9 rfl rfl rfl gT_ok hP hD hK (fun _ _ _ => trivial) hl.1 (Nat.le_of_ble_eq_true rfl) dX9_wave_41 rfl) hD hS hA rfl (fun H locs hP hD hS => ?_)
        have kr := KR r41 t0_36 _ _ 44 ls h rfl hP hD hS dX9_wave_44
        exact kr
      · replace h := it_t c27 h
        refine lv_bipush (v := -3) (pc := 30) hx hb dX9_wave_30 (by decide) ?_
        have kr := KR (-3 : Int32) s0 _ _ 32 ls h rfl hP hD hS dX9_wave_32
        exact kr
    · replace h := it_t c15 h
      refine lv_bipush (v := -2) (pc := 18) hx hb dX9_wave_18 (by decide) ?_
      have kr := KR (-2 : Int32) s0 _ _ 20 ls h rfl hP hD hS dX9_wave_20
      exact kr
abbrev rmX9_change : Room := { frames := 3, cells := 0, slots := 0, locals := 69 }
set_option maxRecDepth 100000 in
set_option maxHeartbeats 40000000 in
theorem cX9_change_met (l : Launch) (D : va_G) (c : Nat → ClassId) (a0 : Nat → Nat) (p0 : Int32) (p1 : Int32) (p2 : Int32) (s0 : Mem) (r0 : Int32) (z0 : Mem) (h : fX9_change p0 p1 p2 s0 = some (r0, z0)) : gM l yX9_change wsX9_change rmX9_change D (gY c) gT [.ref (a0 0), .int p0, .int p1, .int p2] (wX9 a0 c s0) (some (.int r0)) (wX9 a0 c z0) := by
  unfold fX9_change at h
  refine gM.I (cc := cX9_change) (maxL := 4) (by decide) rfl (Nat.le_of_ble_eq_true rfl) ?_
  intro p e s m args below meth cd hx hb hml hown hts A hA ls hl hP hK hD hS hE Q KR0
  have hfX9 : ∀ w ∈ u_ws RX9 TX9 24, w.before args s = true := fun w hw => hts w (List.mem_cons_of_mem _ (List.mem_append_right _ hw))
  have lk0 := hts (.fieldLink RX9 9 "GlitchNetsModel" "s" "[I") (List.mem_of_getElem? (i := 1) rfl)
  have lk1 := hts (.fieldLink RX9 157 "GlitchNetsModel" "last" "I") (List.mem_of_getElem? (i := 3) rfl)
  have lk2 := hts (.fieldLink RX9 154 "GlitchNetsModel" "flips" "I") (List.mem_of_getElem? (i := 2) rfl)
  have KR : ∀ (v : Int32) (w0 : Mem) (H : Heap) (locs : List Loc) (pc : Nat) (ls : Array Slot), some (v, w0) = some (r0, z0) → narrow .int (.int v) = .int v → va_P D vwCl (wX9 a0 c w0) H → va_D A (wX9 a0 c w0) → va_S A s.heap H locs → decode cX9_change pc = .ok (.ireturn, 1) → W p l e rmX9_change s m args below meth cd H locs 0 0 Q (F0 m pc ls [.int v]) := by
    intro v w0 H locs pc ls hr hn hP hD hS hd
    cases hr
    exact KR0 _ H locs pc ls rfl hn hP hD hS hd
  have hl : lv_has ls 4 [(0, .ref (a0 0)), (1, .int p0), (2, .int p1), (3, .int p2)] := hl
  refine lv_iload_n (pc := 0) hx hb dX9_change_0 rfl (lv_at hl 1 rfl) ?_
  refine lv_iload_n (pc := 1) hx hb dX9_change_1 rfl (lv_at hl 2 rfl) ?_
  obtain ⟨r2, hc2, h⟩ := b1_i h
  refine g_none (st1 := [.int r2]) (gr_S (n := 2) (rest := []) (pc := 2) hx hb hml hown hts (cX9_isChange_met l D c p0 p1 _ hc2) gX9_change_X9_isChange rfl rfl rfl (by decide +kernel) rfl ⟨Nat.le_of_ble_eq_true rfl, Nat.le_of_ble_eq_true rfl⟩ ⟨Nat.zero_le _, Nat.zero_le _⟩ gT_ok g_P0 (g_D0 (A := A)) hK (fun _ _ _ => trivial) hl.1 (Nat.le_of_ble_eq_true rfl) dX9_change_2 rfl) hP hS hA rfl (fun H locs hP hS => ?_)
  refine lv_if_eq (tgt := 17) (pc := 5) hx hb dX9_change_5 (by decide) (fun c5 => ?_) (fun c5 => ?_)
  · replace h := it_t c5 h
    refine lv_bipush (v := -2) (pc := 17) hx hb dX9_change_17 (by decide) ?_
    have kr := KR (-2 : Int32) s0 _ _ 19 ls h rfl hP hD hS dX9_change_19
    exact kr
  · replace h := it_f c5 h
    refine lv_iload_n (pc := 8) hx hb dX9_change_8 rfl (lv_at hl 3 rfl) ?_
    refine lv_iconst (v := 0) (pc := 9) hx hb dX9_change_9 (by decide) ?_
    refine lv_iconst (v := 2) (pc := 10) hx hb dX9_change_10 (by decide) ?_
    obtain ⟨r11, hc11, h⟩ := b1_i h
    refine g_none (st1 := [.int r11]) (gr_S (n := 3) (rest := []) (pc := 11) hx hb hml hown hts (cX9_isIn_met l D c p2 (0 : Int32) (2 : Int32) _ hc11) gX9_change_X9_isIn rfl rfl rfl (by decide +kernel) rfl ⟨Nat.le_of_ble_eq_true rfl, Nat.le_of_ble_eq_true rfl⟩ ⟨Nat.zero_le _, Nat.zero_le _⟩ gT_ok g_P0 (g_D0 (A := A)) hK (fun _ _ _ => trivial) hl.1 (Nat.le_of_ble_eq_true rfl) dX9_change_11 rfl) hP hS hA rfl (fun H locs hP hS => ?_)
    refine lv_if_ne (tgt := 20) (pc := 14) hx hb dX9_change_14 (by decide) (fun c14 => ?_) (fun c14 => ?_)
    · replace h := it_f c14 h
      refine lv_aload_n (pc := 20) hx hb dX9_change_20 rfl (lv_at hl 0 rfl) ?_
      refine va_get (D := D) (ci := 9) (v := .ref (a0 1)) (C := RX9) (T := TX9) (N := 24) (pc := 21) hx hb hfX9 (fun _ h9 => h9) hown hK hP 0 rfl rfl 0 (by decide) lk0 (fun _ h9 => h9) rfl dX9_change_21 ?_
      refine lv_iconst (v := 0) (pc := 24) hx hb dX9_change_24 (by decide) ?_
      obtain ⟨hk25, h⟩ := ckI_i h
      refine va_iald (D := D) (f := (s0.1 0)) (pc := 25) hx hb hK hP 1 0 rfl rfl hk25 dX9_change_25 ?_
      refine lv_if_ne (tgt := 32) (pc := 26) hx hb dX9_change_26 (by decide) (fun c26 => ?_) (fun c26 => ?_)
      · replace h := it_f c26 h
        refine lv_aload_n (pc := 32) hx hb dX9_change_32 rfl (lv_at hl 0 rfl) ?_
        refine lv_iload_n (pc := 33) hx hb dX9_change_33 rfl (lv_at hl 1 rfl) ?_
        refine lv_iload_n (pc := 34) hx hb dX9_change_34 rfl (lv_at hl 2 rfl) ?_
        obtain ⟨t0_35, hc35, h⟩ := b1_i h
        refine g_all (st1 := []) (gr_V (n := 2) (rest := []) (pc := 35) hx hb hml hown hts (cX9_waves_met l D c a0 p0 p1 s0 _ hc35) gX9_change_X9_waves rfl rfl rfl (by decide +kernel) rfl ⟨Nat.le_of_ble_eq_true rfl, Nat.le_of_ble_eq_true rfl⟩ ⟨Nat.zero_le _, Nat.zero_le _⟩ 0 9 rfl rfl rfl gT_ok hP hD hK (fun _ _ _ => trivial) hl.1 (Nat.le_of_ble_eq_true rfl) dX9_change_35 rfl) hD hS hA rfl (fun H locs hP hD hS => ?_)
        refine lv_iload_n (pc := 38) hx hb dX9_change_38 rfl (lv_at hl 3 rfl) ?_
        refine lv_if_ne (tgt := 49) (pc := 39) hx hb dX9_change_39 (by decide) (fun c39 => ?_) (fun c39 => ?_)
        · replace h := it_f c39 h
          refine lv_iload_n (pc := 49) hx hb dX9_change_49 rfl (lv_at hl 3 rfl) ?_
          refine lv_iconst (v := 1) (pc := 50) hx hb dX9_change_50 (by decide) ?_
          refine lv_icmp_ne (tgt := 61) (pc := 51) hx hb dX9_change_51 (by decide) (fun c51 => ?_) (fun c51 => ?_)
          · replace h := it_f c51 h
            refine lv_aload_n (pc := 61) hx hb dX9_change_61 rfl (lv_at hl 0 rfl) ?_
            refine va_get (D := D) (ci := 9) (v := .int (t0_35.1 15 0)) (C := RX9) (T := TX9) (N := 24) (pc := 62) hx hb hfX9 (fun _ h9 => h9) hown hK hP 0 rfl rfl 15 (by decide) lk1 (fun _ h9 => h9) rfl dX9_change_62 ?_
            have kr := KR (t0_35.1 15 0) t0_35 _ _ 65 ls h rfl hP hD hS dX9_change_65
            exact kr
          · replace h := it_t c51 h
            refine lv_aload_n (pc := 54) hx hb dX9_change_54 rfl (lv_at hl 0 rfl) ?_
            obtain ⟨r55, hc55, h⟩ := b1_i h
            refine g_all (st1 := [.int r55]) (gr_V (n := 0) (rest := []) (pc := 55) hx hb hml hown hts (cX9_glitch_met l D c a0 t0_35 _ hc55) gX9_change_X9_glitch rfl rfl rfl (by decide +kernel) rfl ⟨Nat.le_of_ble_eq_true rfl, Nat.le_of_ble_eq_true rfl⟩ ⟨Nat.zero_le _, Nat.zero_le _⟩ 0 9 rfl rfl rfl gT_ok hP hD hK (fun _ _ _ => trivial) hl.1 (Nat.le_of_ble_eq_true rfl) dX9_change_55 rfl) hD hS hA rfl (fun H locs hP hD hS => ?_)
            refine lv_goto (tgt := 65) (pc := 58) hx hb dX9_change_58 (by decide) ?_
            have kr := KR r55 t0_35 _ _ 65 ls h rfl hP hD hS dX9_change_65
            exact kr
        · replace h := it_t c39 h
          refine lv_aload_n (pc := 42) hx hb dX9_change_42 rfl (lv_at hl 0 rfl) ?_
          refine va_get (D := D) (ci := 9) (v := .int (t0_35.1 14 0)) (C := RX9) (T := TX9) (N := 24) (pc := 43) hx hb hfX9 (fun _ h9 => h9) hown hK hP 0 rfl rfl 14 (by decide) lk2 (fun _ h9 => h9) rfl dX9_change_43 ?_
          refine lv_goto (tgt := 65) (pc := 46) hx hb dX9_change_46 (by decide) ?_
          have kr := KR (t0_35.1 14 0) t0_35 _ _ 65 ls h rfl hP hD hS dX9_change_65
          exact kr
      · replace h := it_t c26 h
        refine lv_bipush (v := -3) (pc := 29) hx hb dX9_change_29 (by decide) ?_
        have kr := KR (-3 : Int32) s0 _ _ 31 ls h rfl hP hD hS dX9_change_31
        exact kr
    · replace h := it_t c14 h
      refine lv_bipush (v := -2) (pc := 17) hx hb dX9_change_17 (by decide) ?_
      have kr := KR (-2 : Int32) s0 _ _ 19 ls h rfl hP hD hS dX9_change_19
      exact kr
abbrev rmX9_isOne : Room := { frames := 0, cells := 0, slots := 0, locals := 0 }
set_option maxRecDepth 100000 in
set_option maxHeartbeats 40000000 in
theorem cX9_isOne_met (l : Launch) (D : va_G) (c : Nat → ClassId)  (p0 : Int32) (p1 : Int32) (r0 : Int32) (h : fX9_isOne p0 p1 = some r0) : gM l yX9_isOne wsX9_isOne rmX9_isOne D (gY c) gT [.int p0, .int p1] ([]) (some (.int r0)) ([]) := by
  unfold fX9_isOne at h
  refine gM.I (cc := cX9_isOne) (maxL := 4) (by decide) rfl (Nat.le_of_ble_eq_true rfl) ?_
  intro p e s m args below meth cd hx hb hml hown hts A hA ls hl hP hK hD hS hE Q KR0
  have KR : ∀ (v : Int32)  (H : Heap) (locs : List Loc) (pc : Nat) (ls : Array Slot), some v = some r0 → narrow .boolean (.int v) = .int v → va_P D vwCl ([]) H → va_D A ([]) → va_S A s.heap H locs → decode cX9_isOne pc = .ok (.ireturn, 1) → W p l e rmX9_isOne s m args below meth cd H locs 0 0 Q (F0 m pc ls [.int v]) := by
    intro v  H locs pc ls hr hn hP hD hS hd
    cases hr
    exact KR0 _ H locs pc ls rfl hn hP hD hS hd
  have hl : lv_has ls 4 [(0, .int p0), (1, .int p1)] := hl
  have J4 : ∀ (n : Nat) (x0 : Int32) (x1 : Int32) (x2 : Int32) (x3 : Int32) (H : Heap) (locs : List Loc) (ls : Array Slot), fX9_isOne_b4 n x0 x1 x2 x3 = some r0 → va_P D vwCl ([]) H → va_D A ([]) → va_S A s.heap H locs → lv_has ls 4 [(0, .int x0), (1, .int x1), (2, .int x2), (3, .int x3)] → W p l e rmX9_isOne s m args below meth cd H locs 0 0 Q (F0 m 4 ls []) := by
    intro n
    induction n with
    | zero =>
      intro x0 x1 x2 x3 H locs ls h _ _ _ _
      cases (show (none : Option (Int32)) = some _ from h)
    | succ n K4h =>
      intro x0 x1 x2 x3 H locs ls h hP hD hS hl
      rw [fX9_isOne_b4] at h
      refine lv_iload_n (pc := 4) hx hb dX9_isOne_4 rfl (lv_at hl 3 rfl) ?_
      refine lv_iconst (v := 4) (pc := 5) hx hb dX9_isOne_5 (by decide) ?_
      refine lv_icmp_ge (tgt := 25) (pc := 6) hx hb dX9_isOne_6 (by decide) (fun c6 => ?_) (fun c6 => ?_)
      · replace h := it_t c6 h
        refine lv_iload_n (pc := 25) hx hb dX9_isOne_25 rfl (lv_at hl 2 rfl) ?_
        refine lv_iconst (v := 1) (pc := 26) hx hb dX9_isOne_26 (by decide) ?_
        refine lv_icmp_ne (tgt := 34) (pc := 27) hx hb dX9_isOne_27 (by decide) (fun c27 => ?_) (fun c27 => ?_)
        · replace h := it_f c27 h
          refine lv_iconst (v := 0) (pc := 34) hx hb dX9_isOne_34 (by decide) ?_
          have kr := KR (0 : Int32)  _ _ 35 ls h rfl hP hD hS dX9_isOne_35
          exact kr
        · replace h := it_t c27 h
          refine lv_iconst (v := 1) (pc := 30) hx hb dX9_isOne_30 (by decide) ?_
          refine lv_goto (tgt := 35) (pc := 31) hx hb dX9_isOne_31 (by decide) ?_
          have kr := KR (1 : Int32)  _ _ 35 ls h rfl hP hD hS dX9_isOne_35
          exact kr
      · replace h := it_f c6 h
        refine lv_iload_n (pc := 9) hx hb dX9_isOne_9 rfl (lv_at hl 2 rfl) ?_
        refine lv_iload_n (pc := 10) hx hb dX9_isOne_10 rfl (lv_at hl 0 rfl) ?_
        refine lv_iload_n (pc := 11) hx hb dX9_isOne_11 rfl (lv_at hl 1 rfl) ?_
        refine lv_ixor (pc := 12) hx hb dX9_isOne_12 ?_
        refine lv_iload_n (pc := 13) hx hb dX9_isOne_13 rfl (lv_at hl 3 rfl) ?_
        refine lv_ishr (pc := 14) hx hb dX9_isOne_14 ?_
        refine lv_iconst (v := 1) (pc := 15) hx hb dX9_isOne_15 (by decide) ?_
        refine lv_iand (pc := 16) hx hb dX9_isOne_16 ?_
        refine lv_iadd (pc := 17) hx hb dX9_isOne_17 ?_
        refine lv_topi (fun v2_18 ev2_18 => ?_)
        replace h := lt_e ev2_18 h
        refine lv_istore_n (lv' := [(2, .int v2_18), (0, .int x0), (1, .int x1), (3, .int x3)]) (pc := 18) hx hb dX9_isOne_18 rfl hl (by decide) rfl (fun ls hl => ?_)
        obtain ⟨v3_19, ev3_19, h⟩ := lt_i h
        refine lv_iinc (v := v3_19) (lv' := [(3, .int v3_19), (2, .int v2_18), (0, .int x0), (1, .int x1)]) (pc := 19) hx hb dX9_isOne_19 hl (k := 3) rfl (by rw [ev3_19]; rfl) (by decide) rfl (fun ls hl => ?_)
        refine lv_goto (tgt := 4) (pc := 22) hx hb dX9_isOne_22 (by decide) ?_
        have jr := K4h x0 x1 v2_18 v3_19 _ _ ls h hP hD hS (lv_sub hl [2, 3, 1, 0] rfl)
        exact jr
  refine lv_iconst (v := 0) (pc := 0) hx hb dX9_isOne_0 (by decide) ?_
  refine lv_istore_n (lv' := [(2, .int (0 : Int32)), (0, .int p0), (1, .int p1)]) (pc := 1) hx hb dX9_isOne_1 rfl hl (by decide) rfl (fun ls hl => ?_)
  refine lv_iconst (v := 0) (pc := 2) hx hb dX9_isOne_2 (by decide) ?_
  refine lv_istore_n (lv' := [(3, .int (0 : Int32)), (2, .int (0 : Int32)), (0, .int p0), (1, .int p1)]) (pc := 3) hx hb dX9_isOne_3 rfl hl (by decide) rfl (fun ls hl => ?_)
  have jr := J4 FU p0 p1 (0 : Int32) (0 : Int32) _ _ ls h hP hD hS (lv_sub hl [2, 3, 1, 0] rfl)
  exact jr
