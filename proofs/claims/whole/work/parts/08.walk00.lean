abbrev rmX8_isWithin : Room := { frames := 0, cells := 0, slots := 0, locals := 0 }
set_option maxRecDepth 100000 in
set_option maxHeartbeats 40000000 in
theorem cX8_isWithin_met (l : Launch) (D : va_G) (c : Nat → ClassId) (tb : Nat) (sa sv : Nat → Nat)  (p0 : Int32) (p1 : Int32) (p2 : Int32) (r0 : Int32) (h : fX8_isWithin p0 p1 p2 = some r0) : gM l yX8_isWithin wsX8_isWithin rmX8_isWithin D (gY c) (xE tb sa sv) [.int p0, .int p1, .int p2] ([]) (some (.int r0)) ([]) := by
  unfold fX8_isWithin at h
  refine gM.I (cc := cX8_isWithin) (maxL := 3) (by decide) rfl (Nat.le_of_ble_eq_true rfl) ?_
  intro p e s m args below meth cd hx hb hml hown hts A hA ls hl hP hK hD hS hE Q KR0
  have KR : ∀ (v : Int32)  (H : Heap) (locs : List Loc) (pc : Nat) (ls : Array Slot), some v = some r0 → narrow .boolean (.int v) = .int v → va_P D vwCl ([]) H → va_D A ([]) → va_S A s.heap H locs → decode cX8_isWithin pc = .ok (.ireturn, 1) → W p l e rmX8_isWithin s m args below meth cd H locs 0 0 Q (F0 m pc ls [.int v]) := by
    intro v  H locs pc ls hr hn hP hD hS hd
    cases hr
    exact KR0 _ H locs pc ls rfl hn hP hD hS hd
  have hl : lv_has ls 3 [(0, .int p0), (1, .int p1), (2, .int p2)] := hl
  refine lv_iload_n hx hb dX8_isWithin_0 rfl (lv_at hl 0 rfl) ?_
  refine lv_iload_n hx hb dX8_isWithin_1 rfl (lv_at hl 1 rfl) ?_
  refine lv_icmp_lt (tgt := 14) hx hb dX8_isWithin_2 (by decide) (fun c2 => ?_) (fun c2 => ?_)
  · replace h := it_t c2 h
    refine lv_iconst (v := 0) hx hb dX8_isWithin_14 (by decide) ?_
    exact KR (0 : Int32)  _ _ 15 ls h rfl hP hD hS dX8_isWithin_15
  · replace h := it_f c2 h
    refine lv_iload_n hx hb dX8_isWithin_5 rfl (lv_at hl 0 rfl) ?_
    refine lv_iload_n hx hb dX8_isWithin_6 rfl (lv_at hl 2 rfl) ?_
    refine lv_icmp_gt (tgt := 14) hx hb dX8_isWithin_7 (by decide) (fun c7 => ?_) (fun c7 => ?_)
    · replace h := it_t c7 h
      refine lv_iconst (v := 0) hx hb dX8_isWithin_14 (by decide) ?_
      exact KR (0 : Int32)  _ _ 15 ls h rfl hP hD hS dX8_isWithin_15
    · replace h := it_f c7 h
      refine lv_iconst (v := 1) hx hb dX8_isWithin_10 (by decide) ?_
      refine lv_goto (tgt := 15) hx hb dX8_isWithin_11 (by decide) ?_
      exact KR (1 : Int32)  _ _ 15 ls h rfl hP hD hS dX8_isWithin_15
abbrev rmX8_isByte : Room := { frames := 1, cells := 0, slots := 0, locals := 22 }
set_option maxRecDepth 100000 in
set_option maxHeartbeats 40000000 in
theorem cX8_isByte_met (l : Launch) (D : va_G) (c : Nat → ClassId) (tb : Nat) (sa sv : Nat → Nat)  (p0 : Int32) (r0 : Int32) (h : fX8_isByte p0 = some r0) : gM l yX8_isByte wsX8_isByte rmX8_isByte D (gY c) (xE tb sa sv) [.int p0] ([]) (some (.int r0)) ([]) := by
  unfold fX8_isByte at h
  refine gM.I (cc := cX8_isByte) (maxL := 1) (by decide) rfl (Nat.le_of_ble_eq_true rfl) ?_
  intro p e s m args below meth cd hx hb hml hown hts A hA ls hl hP hK hD hS hE Q KR0
  have KR : ∀ (v : Int32)  (H : Heap) (locs : List Loc) (pc : Nat) (ls : Array Slot), some v = some r0 → narrow .boolean (.int v) = .int v → va_P D vwCl ([]) H → va_D A ([]) → va_S A s.heap H locs → decode cX8_isByte pc = .ok (.ireturn, 1) → W p l e rmX8_isByte s m args below meth cd H locs 0 0 Q (F0 m pc ls [.int v]) := by
    intro v  H locs pc ls hr hn hP hD hS hd
    cases hr
    exact KR0 _ H locs pc ls rfl hn hP hD hS hd
  have hl : lv_has ls 1 [(0, .int p0)] := hl
  refine lv_iload_n hx hb dX8_isByte_0 rfl (lv_at hl 0 rfl) ?_
  refine lv_iconst (v := 0) hx hb dX8_isByte_1 (by decide) ?_
  refine lv_sipush (v := 255) hx hb dX8_isByte_2 (by decide) ?_
  obtain ⟨r5, hc5, h⟩ := b1_i h
  refine g_none (st1 := [.int r5]) (gr_S (n := 3) (rest := []) hx hb hml hown hts (cX8_isWithin_met l D c tb sa sv p0 (0 : Int32) (255 : Int32) _ hc5) gX8_isByte_X8_isWithin rfl rfl rfl (by decide +kernel) rfl ⟨Nat.le_of_ble_eq_true rfl, Nat.le_of_ble_eq_true rfl⟩ ⟨Nat.zero_le _, Nat.zero_le _⟩ xE_ok g_P0 (g_D0 (A := A)) hK (xE_ok.tr hE hS (g_free0 hS hA)) hl.1 (Nat.le_of_ble_eq_true rfl) dX8_isByte_5 rfl) hP hS hA rfl (fun H locs hP hS => ?_)
  obtain ⟨hz8, h⟩ := ckZ_i h
  exact KR r5  _ _ 8 ls h hz8 hP hD hS dX8_isByte_8
abbrev rmX6_room : Room := { frames := 0, cells := 0, slots := 0, locals := 0 }
set_option maxRecDepth 100000 in
set_option maxHeartbeats 40000000 in
theorem cX6_room_met (l : Launch) (D : va_G) (c : Nat → ClassId) (tb : Nat) (sa sv : Nat → Nat) (a0 : Nat → Nat) (s0 : Mem) (r0 : Int32) (h : fX6_room s0 = some r0) : gM l yX6_room wsX6_room rmX6_room D (gY c) (xE tb sa sv) [.ref (a0 0)] (wX6 a0 c s0) (some (.int r0)) (wX6 a0 c s0) := by
  unfold fX6_room at h
  refine gM.I (cc := cX6_room) (maxL := 1) (by decide) rfl (Nat.le_of_ble_eq_true rfl) ?_
  intro p e s m args below meth cd hx hb hml hown hts A hA ls hl hP hK hD hS hE Q KR0
  have hfX6 : ∀ w ∈ u_ws RX6 TX6 2, w.before args s = true := fun w hw => hts w (List.mem_cons_of_mem _ (List.mem_append_right _ hw))
  have lk0 := hts (.fieldLink RX6 13 "GlitchNets$Tape" "size" "I") (List.mem_of_getElem? (i := 1) rfl)
  have KR : ∀ (v : Int32)  (H : Heap) (locs : List Loc) (pc : Nat) (ls : Array Slot), some v = some r0 → narrow .int (.int v) = .int v → va_P D vwCl (wX6 a0 c s0) H → va_D A (wX6 a0 c s0) → va_S A s.heap H locs → decode cX6_room pc = .ok (.ireturn, 1) → W p l e rmX6_room s m args below meth cd H locs 0 0 Q (F0 m pc ls [.int v]) := by
    intro v  H locs pc ls hr hn hP hD hS hd
    cases hr
    exact KR0 _ H locs pc ls rfl hn hP hD hS hd
  have hl : lv_has ls 1 [(0, .ref (a0 0))] := hl
  refine lv_bipush (v := 30) hx hb dX6_room_0 (by decide) ?_
  refine lv_aload_n hx hb dX6_room_2 rfl (lv_at hl 0 rfl) ?_
  refine va_get (D := D) (ci := 6) (v := .int (s0.1 1 0)) (C := RX6) (T := TX6) (N := 2) hx hb hfX6 (fun _ h9 => h9) hown hK hP 0 rfl rfl 1 (by decide) lk0 (fun _ h9 => h9) rfl dX6_room_3 ?_
  refine lv_isub hx hb dX6_room_6 ?_
  exact KR ((30 : Int32) - (s0.1 1 0))  _ _ 7 ls h rfl hP hD hS dX6_room_7
abbrev rmX6_append : Room := { frames := 0, cells := 0, slots := 0, locals := 0 }
set_option maxRecDepth 100000 in
set_option maxHeartbeats 40000000 in
theorem cX6_append_met (l : Launch) (D : va_G) (c : Nat → ClassId) (tb : Nat) (sa sv : Nat → Nat) (a0 : Nat → Nat) (p0 : Int32) (s0 : Mem) (z0 : Mem) (h : fX6_append p0 s0 = some z0) : gM l yX6_append wsX6_append rmX6_append D (gY c) (xE tb sa sv) [.ref (a0 0), .int p0] (wX6 a0 c s0) none (wX6 a0 c z0) := by
  unfold fX6_append at h
  refine gM.V (cc := cX6_append) (maxL := 2) (by decide) rfl (Nat.le_of_ble_eq_true rfl) ?_
  intro p e s m args below meth cd hx hb hml hown hts A hA ls hl hP hK hD hS hE Q KR0
  have hfX6 : ∀ w ∈ u_ws RX6 TX6 2, w.before args s = true := fun w hw => hts w (List.mem_cons_of_mem _ (List.mem_append_right _ hw))
  have lk0 := hts (.fieldLink RX6 13 "GlitchNets$Tape" "size" "I") (List.mem_of_getElem? (i := 1) rfl)
  have lk1 := hts (.fieldLink RX6 9 "GlitchNets$Tape" "bytes" "[I") (List.mem_of_getElem? (i := 2) rfl)
  have KR : ∀ (w0 : Mem) (H : Heap) (locs : List Loc) (pc : Nat) (ls : Array Slot), some w0 = some z0 → va_P D vwCl (wX6 a0 c w0) H → va_D A (wX6 a0 c w0) → va_S A s.heap H locs → decode cX6_append pc = .ok (.return_, 1) → W p l e rmX6_append s m args below meth cd H locs 0 0 Q (F0 m pc ls []) := by
    intro w0 H locs pc ls hr hP hD hS hd
    cases hr
    exact KR0 H locs pc ls hP hD hS hd
  have hl : lv_has ls 2 [(0, .ref (a0 0)), (1, .int p0)] := hl
  refine lv_aload_n hx hb dX6_append_0 rfl (lv_at hl 0 rfl) ?_
  refine va_get (D := D) (ci := 6) (v := .int (s0.1 1 0)) (C := RX6) (T := TX6) (N := 2) hx hb hfX6 (fun _ h9 => h9) hown hK hP 0 rfl rfl 1 (by decide) lk0 (fun _ h9 => h9) rfl dX6_append_1 ?_
  refine lv_bipush (v := 30) hx hb dX6_append_4 (by decide) ?_
  refine lv_icmp_ge (tgt := 29) hx hb dX6_append_6 (by decide) (fun c6 => ?_) (fun c6 => ?_)
  · replace h := it_t c6 h
    exact KR s0 _ _ 29 ls h hP hD hS dX6_append_29
  · replace h := it_f c6 h
    refine lv_aload_n hx hb dX6_append_9 rfl (lv_at hl 0 rfl) ?_
    refine va_get (D := D) (ci := 6) (v := .ref (a0 1)) (C := RX6) (T := TX6) (N := 2) hx hb hfX6 (fun _ h9 => h9) hown hK hP 0 rfl rfl 0 (by decide) lk1 (fun _ h9 => h9) rfl dX6_append_10 ?_
    refine lv_aload_n hx hb dX6_append_13 rfl (lv_at hl 0 rfl) ?_
    refine va_get (D := D) (ci := 6) (v := .int (s0.1 1 0)) (C := RX6) (T := TX6) (N := 2) hx hb hfX6 (fun _ h9 => h9) hown hK hP 0 rfl rfl 1 (by decide) lk0 (fun _ h9 => h9) rfl dX6_append_14 ?_
    refine lv_iload_n hx hb dX6_append_17 rfl (lv_at hl 1 rfl) ?_
    obtain ⟨hk18, h⟩ := ckI_i h
    refine va_iast (D := D) (f := (s0.1 0)) hx hb hK hP hD hS 1 0 rfl rfl hk18 dX6_append_18 (fun H locs hP hD hS => ?_)
    have hP : va_P D vwCl (wX6 a0 c (mi s0 0 ((s0.1 1 0)).toNatClampNeg p0)) H := hP
    have hD : va_D A (wX6 a0 c (mi s0 0 ((s0.1 1 0)).toNatClampNeg p0)) := hD
    refine lv_aload_n hx hb dX6_append_19 rfl (lv_at hl 0 rfl) ?_
    refine lv_dup hx hb dX6_append_20 rfl ?_
    refine va_get (D := D) (ci := 6) (v := .int ((mi s0 0 ((s0.1 1 0)).toNatClampNeg p0).1 1 0)) (C := RX6) (T := TX6) (N := 2) hx hb hfX6 (fun _ h9 => h9) hown hK hP 0 rfl rfl 1 (by decide) lk0 (fun _ h9 => h9) rfl dX6_append_21 ?_
    refine lv_iconst (v := 1) hx hb dX6_append_24 (by decide) ?_
    refine lv_iadd hx hb dX6_append_25 ?_
    refine va_put (D := D) (ci := 6) (v := .int (((mi s0 0 ((s0.1 1 0)).toNatClampNeg p0).1 1 0) + (1 : Int32))) (ty := .int) (C := RX6) (T := TX6) (N := 2) hx hb hfX6 (fun _ h9 => h9) tyX6 tyX6_ok nmX6 hown hK hP hD hS 0 rfl rfl 1 (by decide) lk0 (fun _ h9 => h9) rfl (by decide +kernel) rfl rfl (Nat.le_of_ble_eq_true rfl) dX6_append_26 (fun H locs hP hD hS => ?_)
    have hP : va_P D vwCl (wX6 a0 c (mi (mi s0 0 ((s0.1 1 0)).toNatClampNeg p0) 1 0 (((mi s0 0 ((s0.1 1 0)).toNatClampNeg p0).1 1 0) + (1 : Int32)))) H := hP
    have hD : va_D A (wX6 a0 c (mi (mi s0 0 ((s0.1 1 0)).toNatClampNeg p0) 1 0 (((mi s0 0 ((s0.1 1 0)).toNatClampNeg p0).1 1 0) + (1 : Int32)))) := hD
    exact KR (mi (mi s0 0 ((s0.1 1 0)).toNatClampNeg p0) 1 0 (((mi s0 0 ((s0.1 1 0)).toNatClampNeg p0).1 1 0) + (1 : Int32))) _ _ 29 ls h hP hD hS dX6_append_29
