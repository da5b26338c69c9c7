abbrev rmX9_isIn : Room := { frames := 0, cells := 0, slots := 0, locals := 0 }
set_option maxRecDepth 100000 in
set_option maxHeartbeats 40000000 in
theorem cX9_isIn_met (l : Launch) (D : va_G) (c : Nat → ClassId)  (p0 : Int32) (p1 : Int32) (p2 : Int32) (r0 : Int32) (h : fX9_isIn p0 p1 p2 = some r0) : gM l yX9_isIn wsX9_isIn rmX9_isIn D (gY c) gT [.int p0, .int p1, .int p2] ([]) (some (.int r0)) ([]) := by
  unfold fX9_isIn at h
  refine gM.I (cc := cX9_isIn) (maxL := 3) (by decide) rfl (Nat.le_of_ble_eq_true rfl) ?_
  intro p e s m args below meth cd hx hb hml hown hts A hA ls hl hP hK hD hS hE Q KR0
  have KR : ∀ (v : Int32)  (H : Heap) (locs : List Loc) (pc : Nat) (ls : Array Slot), some v = some r0 → narrow .boolean (.int v) = .int v → va_P D vwCl ([]) H → va_D A ([]) → va_S A s.heap H locs → decode cX9_isIn pc = .ok (.ireturn, 1) → W p l e rmX9_isIn s m args below meth cd H locs 0 0 Q (F0 m pc ls [.int v]) := by
    intro v  H locs pc ls hr hn hP hD hS hd
    cases hr
    exact KR0 _ H locs pc ls rfl hn hP hD hS hd
  have hl : lv_has ls 3 [(0, .int p0), (1, .int p1), (2, .int p2)] := hl
  refine lv_iload_n (pc := 0) hx hb dX9_isIn_0 rfl (lv_at hl 0 rfl) ?_
  refine lv_iload_n (pc := 1) hx hb dX9_isIn_1 rfl (lv_at hl 1 rfl) ?_
  refine lv_icmp_lt (tgt := 14) (pc := 2) hx hb dX9_isIn_2 (by decide) (fun c2 => ?_) (fun c2 => ?_)
  · replace h := it_t c2 h
    refine lv_iconst (v := 0) (pc := 14) hx hb dX9_isIn_14 (by decide) ?_
    have kr := KR (0 : Int32)  _ _ 15 ls h rfl hP hD hS dX9_isIn_15
    exact kr
  · replace h := it_f c2 h
    refine lv_iload_n (pc := 5) hx hb dX9_isIn_5 rfl (lv_at hl 0 rfl) ?_
    refine lv_iload_n (pc := 6) hx hb dX9_isIn_6 rfl (lv_at hl 2 rfl) ?_
    refine lv_icmp_gt (tgt := 14) (pc := 7) hx hb dX9_isIn_7 (by decide) (fun c7 => ?_) (fun c7 => ?_)
    · replace h := it_t c7 h
      refine lv_iconst (v := 0) (pc := 14) hx hb dX9_isIn_14 (by decide) ?_
      have kr := KR (0 : Int32)  _ _ 15 ls h rfl hP hD hS dX9_isIn_15
      exact kr
    · replace h := it_f c7 h
      refine lv_iconst (v := 1) (pc := 10) hx hb dX9_isIn_10 (by decide) ?_
      refine lv_goto (tgt := 15) (pc := 11) hx hb dX9_isIn_11 (by decide) ?_
      have kr := KR (1 : Int32)  _ _ 15 ls h rfl hP hD hS dX9_isIn_15
      exact kr
abbrev rmX9_has : Room := { frames := 0, cells := 0, slots := 0, locals := 0 }
set_option maxRecDepth 100000 in
set_option maxHeartbeats 40000000 in
theorem cX9_has_met (l : Launch) (D : va_G) (c : Nat → ClassId)  (p0 : Int32) (p1 : Int32) (r0 : Int32) (h : fX9_has p0 p1 = some r0) : gM l yX9_has wsX9_has rmX9_has D (gY c) gT [.int p0, .int p1] ([]) (some (.int r0)) ([]) := by
  unfold fX9_has at h
  refine gM.I (cc := cX9_has) (maxL := 2) (by decide) rfl (Nat.le_of_ble_eq_true rfl) ?_
  intro p e s m args below meth cd hx hb hml hown hts A hA ls hl hP hK hD hS hE Q KR0
  have KR : ∀ (v : Int32)  (H : Heap) (locs : List Loc) (pc : Nat) (ls : Array Slot), some v = some r0 → narrow .boolean (.int v) = .int v → va_P D vwCl ([]) H → va_D A ([]) → va_S A s.heap H locs → decode cX9_has pc = .ok (.ireturn, 1) → W p l e rmX9_has s m args below meth cd H locs 0 0 Q (F0 m pc ls [.int v]) := by
    intro v  H locs pc ls hr hn hP hD hS hd
    cases hr
    exact KR0 _ H locs pc ls rfl hn hP hD hS hd
  have hl : lv_has ls 2 [(0, .int p0), (1, .int p1)] := hl
  refine lv_iload_n (pc := 0) hx hb dX9_has_0 rfl (lv_at hl 0 rfl) ?_
  refine lv_iload_n (pc := 1) hx hb dX9_has_1 rfl (lv_at hl 1 rfl) ?_
  refine lv_ishr (pc := 2) hx hb dX9_has_2 ?_
  refine lv_iconst (v := 1) (pc := 3) hx hb dX9_has_3 (by decide) ?_
  refine lv_iand (pc := 4) hx hb dX9_has_4 ?_
  refine lv_iconst (v := 1) (pc := 5) hx hb dX9_has_5 (by decide) ?_
  refine lv_icmp_ne (tgt := 13) (pc := 6) hx hb dX9_has_6 (by decide) (fun c6 => ?_) (fun c6 => ?_)
  · replace h := it_f c6 h
    refine lv_iconst (v := 0) (pc := 13) hx hb dX9_has_13 (by decide) ?_
    have kr := KR (0 : Int32)  _ _ 14 ls h rfl hP hD hS dX9_has_14
    exact kr
  · replace h := it_t c6 h
    refine lv_iconst (v := 1) (pc := 9) hx hb dX9_has_9 (by decide) ?_
    refine lv_goto (tgt := 14) (pc := 10) hx hb dX9_has_10 (by decide) ?_
    have kr := KR (1 : Int32)  _ _ 14 ls h rfl hP hD hS dX9_has_14
    exact kr
abbrev rmX9_bits : Room := { frames := 0, cells := 0, slots := 0, locals := 0 }
set_option maxRecDepth 100000 in
set_option maxHeartbeats 40000000 in
theorem cX9_bits_met (l : Launch) (D : va_G) (c : Nat → ClassId)  (p0 : Int64) (r0 : Int32) (h : fX9_bits p0 = some r0) : gM l yX9_bits wsX9_bits rmX9_bits D (gY c) gT [.long p0] ([]) (some (.int r0)) ([]) := by
  unfold fX9_bits at h
  refine gM.I (cc := cX9_bits) (maxL := 4) (by decide) rfl (Nat.le_of_ble_eq_true rfl) ?_
  intro p e s m args below meth cd hx hb hml hown hts A hA ls hl hP hK hD hS hE Q KR0
  have KR : ∀ (v : Int32)  (H : Heap) (locs : List Loc) (pc : Nat) (ls : Array Slot), some v = some r0 → narrow .int (.int v) = .int v → va_P D vwCl ([]) H → va_D A ([]) → va_S A s.heap H locs → decode cX9_bits pc = .ok (.ireturn, 1) → W p l e rmX9_bits s m args below meth cd H locs 0 0 Q (F0 m pc ls [.int v]) := by
    intro v  H locs pc ls hr hn hP hD hS hd
    cases hr
    exact KR0 _ H locs pc ls rfl hn hP hD hS hd
  have hl : lv_has ls 4 [(0, .long p0)] := hl
  have J4 : ∀ (n : Nat) (x0 : Int64) (x2 : Int32) (x3 : Int32) (H : Heap) (locs : List Loc) (ls : Array Slot), fX9_bits_b4 n x0 x2 x3 = some r0 → va_P D vwCl ([]) H → va_D A ([]) → va_S A s.heap H locs → lv_has ls 4 [(0, .long x0), (2, .int x2), (3, .int x3)] → W p l e rmX9_bits s m args below meth cd H locs 0 0 Q (F0 m 4 ls []) := by
    intro n
    induction n with
    | zero =>
      intro x0 x2 x3 H locs ls h _ _ _ _
      cases (show (none : Option (Int32)) = some _ from h)
    | succ n K4h =>
      intro x0 x2 x3 H locs ls h hP hD hS hl
      rw [fX9_bits_b4] at h
      refine lv_iload_n (pc := 4) hx hb dX9_bits_4 rfl (lv_at hl 2 rfl) ?_
      refine lv_bipush (v := 64) (pc := 5) hx hb dX9_bits_5 (by decide) ?_
      refine lv_icmp_ge (tgt := 25) (pc := 7) hx hb dX9_bits_7 (by decide) (fun c7 => ?_) (fun c7 => ?_)
      · replace h := it_t c7 h
        refine lv_iload_n (pc := 25) hx hb dX9_bits_25 rfl (lv_at hl 1 rfl) ?_
        have kr := KR x2  _ _ 26 ls h rfl hP hD hS dX9_bits_26
        exact kr
      · replace h := it_f c7 h
        refine lv_iload_n (pc := 10) hx hb dX9_bits_10 rfl (lv_at hl 1 rfl) ?_
        refine lv_lload_n (pc := 11) hx hb dX9_bits_11 rfl (lv_at hl 0 rfl) ?_
        refine lv_iload_n (pc := 12) hx hb dX9_bits_12 rfl (lv_at hl 2 rfl) ?_
        refine lv_lshr (v := (jlshr x0 x3)) (pc := 13) hx hb dX9_bits_13 rfl ?_
        refine lv_lconst (v := 1) (pc := 14) hx hb dX9_bits_14 (by decide) ?_
        refine lv_land (pc := 15) hx hb dX9_bits_15 ?_
        refine lv_l2i (v := ((((jlshr x0 x3) &&& (1 : Int64))).toInt32)) (pc := 16) hx hb dX9_bits_16 rfl ?_
        refine lv_iadd (pc := 17) hx hb dX9_bits_17 ?_
        refine lv_topi (fun v2_18 ev2_18 => ?_)
        replace h := lt_e ev2_18 h
        refine lv_istore_n (lv' := [(2, .int v2_18), (0, .long x0), (3, .int x3)]) (pc := 18) hx hb dX9_bits_18 rfl hl (by decide) rfl (fun ls hl => ?_)
        obtain ⟨v3_19, ev3_19, h⟩ := lt_i h
        refine lv_iinc (v := v3_19) (lv' := [(3, .int v3_19), (2, .int v2_18), (0, .long x0)]) (pc := 19) hx hb dX9_bits_19 hl (k := 2) rfl (by rw [ev3_19]; rfl) (by decide) rfl (fun ls hl => ?_)
        refine lv_goto (tgt := 4) (pc := 22) hx hb dX9_bits_22 (by decide) ?_
        have jr := K4h x0 v2_18 v3_19 _ _ ls h hP hD hS (lv_sub hl [2, 1, 0] rfl)
        exact jr
  refine lv_iconst (v := 0) (pc := 0) hx hb dX9_bits_0 (by decide) ?_
  refine lv_istore_n (lv' := [(2, .int (0 : Int32)), (0, .long p0)]) (pc := 1) hx hb dX9_bits_1 rfl hl (by decide) rfl (fun ls hl => ?_)
  refine lv_iconst (v := 0) (pc := 2) hx hb dX9_bits_2 (by decide) ?_
  refine lv_istore_n (lv' := [(3, .int (0 : Int32)), (2, .int (0 : Int32)), (0, .long p0)]) (pc := 3) hx hb dX9_bits_3 rfl hl (by decide) rfl (fun ls hl => ?_)
  have jr := J4 FU p0 (0 : Int32) (0 : Int32) _ _ ls h hP hD hS (lv_sub hl [2, 1, 0] rfl)
  exact jr
