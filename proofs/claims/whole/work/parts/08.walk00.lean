abbrev rmX8_isWithin : Room := { frames := 0, cells := 0, slots := 0, locals := 0 }
set_option maxRecDepth 100000 in
set_option maxHeartbeats 40000000 in
theorem cX8_isWithin_met (l : Launch) (D : va_G) (c : Nat → ClassId) (tb : Nat) (sa sv : Nat → Nat)  (p0 : Int32) (p1 : Int32) (p2 : Int32) (r0 : Int32) (h : fX8_isWithin p0 p1 p2 = some r0) : gM l yX8_isWithin wsX8_isWithin rmX8_isWithin D (gY c) (xE tb sa sv) [.int p0, .int p1, .int p2] ([]) (some (.int r0)) ([]) := by
  unfold fX8_isWithin at h
  refine gM.I (cc := cX8_isWithin) (maxL := 3) (by decide) rfl (Nat.le_of_ble_eq_true rfl) ?_
  intro p e s m args below meth cd hx hb hml hown hts A hA ls hl hP hK hD hS hE Q KR0
  have KR : ∀ (v : Int32)  (H : Heap) (locs : List Loc) (pc : Nat) (ls : Array Slot), some v = some r0 → narrow .boolean (.int v) = .int v → va_P D vwCl ([]) H → va_D A ([]) → va_S A s.heap H locs → decode cX8_isWithin pc = .ok (.ireturn, 1) → W p l e rmX8_isWithin s m args below meth cd H locs 0 0 Q (F0 m pc ls [.int v]) := by
    intro v  H locs pc ls hr hn hP hD hS hd
    cases hr
    exact KR0 _ H locs pc ls rfl hn hP hD hS hd
  have hl : lv_has ls 3 [(0, .int p0), (1, .int p1), (2, .int p2)] := hl
  refine lv_iload_n (pc := 0) hx hb dX8_isWithin_0 rfl (lv_at hl 0 rfl) ?_
  refine lv_iload_n (pc := 1) hx hb dX8_isWithin_1 rfl (lv_at hl 1 rfl) ?_
  refine lv_icmp_lt (tgt := 14) (pc := 2) hx hb dX8_isWithin_2 (by decide) (fun c2 => ?_) (fun c2 => ?_)
  · replace h := it_t c2 h
    refine lv_iconst (v := 0) (pc := 14) hx hb dX8_isWithin_14 (by decide) ?_
    have kr := KR (0 : Int32)  _ _ 15 ls h rfl hP hD hS dX8_isWithin_15
    exact kr
  · replace h := it_f c2 h
    refine lv_iload_n (pc := 5) hx hb dX8_isWithin_5 rfl (lv_at hl 0 rfl) ?_
    refine lv_iload_n (pc := 6) hx hb dX8_isWithin_6 rfl (lv_at hl 2 rfl) ?_
    refine lv_icmp_gt (tgt := 14) (pc := 7) hx hb dX8_isWithin_7 (by decide) (fun c7 => ?_) (fun c7 => ?_)
    · replace h := it_t c7 h
      refine lv_iconst (v := 0) (pc := 14) hx hb dX8_isWithin_14 (by decide) ?_
      have kr := KR (0 : Int32)  _ _ 15 ls h rfl hP hD hS dX8_isWithin_15
      exact kr
    · replace h := it_f c7 h
      refine lv_iconst (v := 1) (pc := 10) hx hb dX8_isWithin_10 (by decide) ?_
      refine lv_goto (tgt := 15) (pc := 11) hx hb dX8_isWithin_11 (by decide) ?_
      have kr := KR (1 : Int32)  _ _ 15 ls h rfl hP hD hS dX8_isWithin_15
      exact kr
abbrev rmX8_isByte : Room := { frames := 1, cells := 0, slots := 0, locals := 22 }
set_option maxRecDepth 100000 in
set_option maxHeartbeats 40000000 in
theorem cX8_isByte_met (l : Launch) (D : va_G) (c : Nat → ClassId) (tb : Nat) (sa sv : Nat → Nat)  (p0 : Int32) (r0 : Int32) (h : fX8_isByte p0 = some r0) : gM l yX8_isByte wsX8_isByte rmX8_isByte D (gY c) (xE tb sa sv) [.int p0] ([]) (some (.int r0)) ([]) := by
  unfold fX8_isByte at h
  refine gM.I (cc := cX8_isByte) (maxL := 1) (by decide) rfl (Nat.le_of_ble_eq_true rfl) ?_
  intro p e s m args below meth cd hx hb hml hown hts A hA ls hl hP hK hD hS hE Q KR0
  have KR : ∀ (v : Int32)  (H : Heap) (locs : List Loc) (pc : Nat) (ls : Array Slot), some v = some r0 → narrow .boolean (.int v) = .int v → va_P D vwCl ([]) H → va_D A ([]) → va_S A s.heap H locs → decode cX8_isByte pc = .ok (.ireturn, 1) → W p l e rmX8_isByte s m args below meth cd H locs 0 0 Q (F0 m pc ls [.int v]) := by
    intro v  H locs pc ls hr hn hP hD hS hd
    cases hr
    exact KR0 _ H locs pc ls rfl hn hP hD hS hd
  have hl : lv_has ls 1 [(0, .int p0)] := hl
  refine lv_iload_n (pc := 0) hx hb dX8_isByte_0 rfl (lv_at hl 0 rfl) ?_
  refine lv_iconst (v := 0) (pc := 1) hx hb dX8_isByte_1 (by decide) ?_
  refine lv_sipush (v := 255) (pc := 2) hx hb dX8_isByte_2 (by decide) ?_
  obtain ⟨r5, hc5, h⟩ := b1_i h
  refine g_none (st1 := [.int r5]) (gr_S (n := 3) (rest := []) (pc := 5) hx hb hml hown hts (cX8_isWithin_met l D c tb sa sv p0 (0 : Int32) (255 : Int32) _ hc5) gX8_isByte_X8_isWithin rfl rfl rfl (by decide +kernel) rfl ⟨Nat.le_of_ble_eq_true rfl, Nat.le_of_ble_eq_true rfl⟩ ⟨Nat.zero_le _, Nat.zero_le _⟩ xE_ok g_P0 (g_D0 (A := A)) hK (xE_ok.tr hE hS (g_free0 hS hA)) hl.1 (Nat.le_of_ble_eq_true rfl) dX8_isByte_5 rfl) hP hS hA rfl (fun H locs hP hS => ?_)
  obtain ⟨hz8, h⟩ := ckZ_i h
  have kr := KR r5  _ _ 8 ls h hz8 hP hD hS dX8_isByte_8
  exact kr
abbrev rmX6_room : Room := { frames := 0, cells := 0, slots := 0, locals := 0 }
set_option maxRecDepth 100000 in
set_option maxHeartbeats 40000000 in
theorem cX6_room_met (l : Launch) (D : va_G) (c : Nat → ClassId) (tb : Nat) (sa sv : Nat → Nat) (a0 : Nat → Nat) (s0 : Mem) (r0 : Int32) (h : fX6_room s0 = some r0) : gM l yX6_room wsX6_room rmX6_room D (gY c) (xE tb sa sv) [.ref (a0 0)] (wX6 a0 c s0) (some (.int r0)) (wX6 a0 c s0) := by
  unfold fX6_room at h
  refine gM.I (cc := cX6_room) (maxL := 1) (by decide) rfl (Nat.le_of_ble_eq_true rfl) ?_
  intro p e s m args below meth cd hx hb hml hown hts A hA ls hl hP hK hD hS hE Q KR0
  have hfX6 : ∀ w ∈ u_ws RX6 TX6 2, w.before args s = true := fun w hw => hts w (List.mem_cons_of_mem _ (List.mem_append_right _ hw))
  have lk0 := hts (.fieldLink RX6 13 "GlitchNets$Tape" "size" "I") (List.mem_of_getElem? (i := 1) rfl)
  have KR : ∀ (v : Int32)  (H : Heap) (locs : List Loc) (pc : Nat) (ls : Array Slot), some v = some r0 → narrow .int (.int v) = .int v → va_P D vwCl (wX6 a0 c s0) H → va_D A (wX6 a0 c s0) → va_S A s.heap H locs → decode cX6_room pc = .ok (.ireturn, 1) → W p l e rmX6_room s m args below meth cd H locs 0 0 Q (F0 m pc ls [.int v]) := by
    intro v  H locs pc ls hr hn hP hD hS hd
    cases hr
    exact KR0 _ H locs pc ls rfl hn hP hD hS hd
  have hl : lv_has ls 1 [(0, .ref (a0 0))] := hl
  refine lv_bipush (v := 30) (pc := 0) hx hb dX6_room_0 (by decide) ?_
  refine lv_aload_n (pc := 2) hx hb dX6_room_2 rfl (lv_at hl 0 rfl) ?_
  refine va_get (D := D) (ci := 6) (v := .int (s0.1 1 0)) (C := RX6) (T := TX6) (N := 2) (pc := 3) hx hb hfX6 (fun _ h9 => h9) hown hK hP 0 rfl rfl 1 (by decide) lk0 (fun _ h9 => h9) rfl dX6_room_3 ?_
  refine lv_isub (pc := 6) hx hb dX6_room_6 ?_
  have kr := KR ((30 : Int32) - (s0.1 1 0))  _ _ 7 ls h rfl hP hD hS dX6_room_7
  exact kr
abbrev rmX6_append : Room := { frames := 0, cells := 0, slots := 0, locals := 0 }
set_option maxRecDepth 100000 in
set_option maxHeartbeats 40000000 in
theorem cX6_append_met (l : Launch) (D : va_G) (c : Nat → ClassId) (tb : Nat) (sa sv : Nat → Nat) (a0 : Nat → Nat) (p0 : Int32) (s0 : Mem) (z0 : Mem) (h : fX6_append p0 s0 = some z0) : gM l yX6_append wsX6_append rmX6_append D (gY c) (xE tb sa sv) [.ref (a0 0), .int p0] (wX6 a0 c s0) none (wX6 a0 c z0) := by
  unfold fX6_append at h
  refine gM.V (cc := cX6_append) (maxL := 2) (by decide) rfl (Nat.le_of_ble_eq_true rfl) ?_
  intro p e s m args below meth cd hx hb hml hown hts A hA ls hl hP hK hD hS hE Q KR0
  have hfX6 : ∀ w ∈ u_ws RX6 TX6 2, w.before args s = true := fun w hw => hts w (List.mem_cons_of_mem _ (List.mem_append_right _ hw))
  have lk0 := hts (.fieldLink RX6 13 "GlitchNets$Tape" "size" "I") (List.mem_of_getElem? (i := 1) rfl)
  have lk1 := hts (.fieldLink RX6 9 "GlitchNets$Tape" "bytes" "[I") (List.mem_of_getElem? (i := 2) rfl)
  have KR : ∀ (w0 : Mem) (H : Heap) (locs : List Loc) (pc : Nat) (ls : Array Slot), some w0 = some z0 → va_P D vwCl (wX6 a0 c w0) H → va_D A (wX6 a0 c w0) → va_S A s.heap H locs → decode cX6_append pc = .ok (.return_, 1) → W p l e rmX6_append s m args below meth cd H locs 0 0 Q (F0 m pc ls []) := by
    intro w0 H locs pc ls hr hP hD hS hd
    cases hr
    exact KR0 H locs pc ls hP hD hS hd
  have hl : lv_has ls 2 [(0, .ref (a0 0)), (1, .int p0)] := hl
  refine lv_aload_n (pc := 0) hx hb dX6_append_0 rfl (lv_at hl 0 rfl) ?_
  refine va_get (D := D) (ci := 6) (v := .int (s0.1 1 0)) (C := RX6) (T := TX6) (N := 2) (pc := 1) hx hb hfX6 (fun _ h9 => h9) hown hK hP 0 rfl rfl 1 (by decide) lk0 (fun _ h9 => h9) rfl dX6_append_1 ?_
  refine lv_bipush (v := 30) (pc := 4) hx hb dX6_append_4 (by decide) ?_
  refine lv_icmp_ge (tgt := 29) (pc := 6) hx hb dX6_append_6 (by decide) (fun c6 => ?_) (fun c6 => ?_)
  · replace h := it_t c6 h
    have kr := KR s0 _ _ 29 ls h hP hD hS dX6_append_29
    exact kr
  · replace h := it_f c6 h
    refine lv_aload_n (pc := 9) hx hb dX6_append_9 rfl (lv_at hl 0 rfl) ?_
    refine va_get (D := D) (ci := 6) (v := .ref (a0 1)) (C := RX6) (T := TX6) (N := 2) (pc := 10) hx hb hfX6 (fun _ h9 => h9) hown hK hP 0 rfl rfl 0 (by decide) lk1 (fun _ h9 => h9) rfl dX6_append_10 ?_
    refine lv_aload_n (pc := 13) hx hb dX6_append_13 rfl (lv_at hl 0 rfl) ?_
    refine va_get (D := D) (ci := 6) (v := .int (s0.1 1 0)) (C := RX6) (T := TX6) (N := 2) (pc := 14) hx hb hfX6 (fun _ h9 => h9) hown hK hP 0 rfl rfl 1 (by decide) lk0 (fun _ h9 => h9) rfl dX6_append_14 ?_
    refine lv_iload_n (pc := 17) hx hb dX6_append_17 rfl (lv_at hl 1 rfl) ?_
    obtain ⟨hk18, h⟩ := ckI_i h
    refine va_iast (D := D) (f := (s0.1 0)) (pc := 18) hx hb hK hP hD hS 1 0 rfl rfl hk18 dX6_append_18 (fun H locs hP hD hS => ?_)
    have hP : va_P D vwCl (wX6 a0 c (mi s0 0 ((s0.1 1 0)).toNatClampNeg p0)) H := hP
    have hD : va_D A (wX6 a0 c (mi s0 0 ((s0.1 1 0)).toNatClampNeg p0)) := hD
    refine lv_aload_n (pc := 19) hx hb dX6_append_19 rfl (lv_at hl 0 rfl) ?_
    refine lv_dup (pc := 20) hx hb dX6_append_20 rfl ?_
    refine va_get (D := D) (ci := 6) (v := .int ((mi s0 0 ((s0.1 1 0)).toNatClampNeg p0).1 1 0)) (C := RX6) (T := TX6) (N := 2) (pc := 21) hx hb hfX6 (fun _ h9 => h9) hown hK hP 0 rfl rfl 1 (by decide) lk0 (fun _ h9 => h9) rfl dX6_append_21 ?_
    refine lv_iconst (v := 1) (pc := 24) hx hb dX6_append_24 (by decide) ?_
    refine lv_iadd (pc := 25) hx hb dX6_append_25 ?_
    refine va_put (D := D) (ci := 6) (v := .int (((mi s0 0 ((s0.1 1 0)).toNatClampNeg p0).1 1 0) + (1 : Int32))) (ty := .int) (C := RX6) (T := TX6) (N := 2) (pc := 26) hx hb hfX6 (fun _ h9 => h9) tyX6 tyX6_ok nmX6 hown hK hP hD hS 0 rfl rfl 1 (by decide) lk0 (fun _ h9 => h9) rfl (by decide +kernel) rfl rfl (Nat.le_of_ble_eq_true rfl) dX6_append_26 (fun H locs hP hD hS => ?_)
    obtain ⟨m0_26, em0_26, h⟩ := lt_i h
    have hP : va_P D vwCl (wX6 a0 c m0_26) H := by rw [em0_26]; exact hP
    have hD : va_D A (wX6 a0 c m0_26) := by rw [em0_26]; exact hD
    have kr := KR m0_26 _ _ 29 ls h hP hD hS dX6_append_29
    exact kr
abbrev rmX8_feed : Room := { frames := 2, cells := 0, slots := 0, locals := 42 }
set_option maxRecDepth 100000 in
set_option maxHeartbeats 40000000 in
theorem cX8_feed_met (l : Launch) (D : va_G) (c : Nat → ClassId) (tb : Nat) (sa sv : Nat → Nat) (a : Nat → Nat → Nat) (p0 : Int32) (p1 : Int32) (p2 : Int32) (p3 : Int32) (p4 : Int32) (p5 : Int32) (X : XS) (r0 : Int32) (z0 : XS) (h : fX8_feed p0 p1 p2 p3 p4 p5 X = some (r0, z0)) : gM l yX8_feed wsX8_feed rmX8_feed D (gY c) (xE tb sa sv) [.ref (a 0 0), .int p0, .int p1, .int p2, .int p3, .int p4, .int p5] (wX a c X) (some (.int r0)) (wX a c z0) := by
  unfold fX8_feed at h
  refine gM.I (cc := cX8_feed) (maxL := 7) (by decide) rfl (Nat.le_of_ble_eq_true rfl) ?_
  intro p e s m args below meth cd hx hb hml hown hts A hA ls hl hP hK hD hS hE Q KR0
  have hfX6 : ∀ w ∈ u_ws RX6 TX6 2, w.before args s = true := fun w hw => hts w (List.mem_cons_of_mem _ (List.mem_append_right _ hw))
  have hfX8 : ∀ w ∈ u_ws RX8 TX8 12, w.before args s = true := fun w hw => hts w (List.mem_cons_of_mem _ (List.mem_append_left _ (List.mem_append_right _ hw)))
  have lk0 := hts (.fieldLink RX8 10 "GlitchNets" "tape" "LGlitchNets$Tape;") (List.mem_of_getElem? (i := 1) rfl)
  have lk1 := hts (.fieldLink RX8 90 "GlitchNets$Tape" "size" "I") (List.mem_of_getElem? (i := 2) rfl)
  have hP := XP_iff.mp hP
  have hD := XD_of hD
  have KR : ∀ (v : Int32) (w0 : XS) (H : Heap) (locs : List Loc) (pc : Nat) (ls : Array Slot), some (v, w0) = some (r0, z0) → narrow .int (.int v) = .int v → XP D a c w0 H → va_S A s.heap H locs → decode cX8_feed pc = .ok (.ireturn, 1) → W p l e rmX8_feed s m args below meth cd H locs 0 0 Q (F0 m pc ls [.int v]) := by
    intro v w0 H locs pc ls hr hn hP hS hd
    cases hr
    exact KR0 _ H locs pc ls rfl hn (XP_iff.mpr hP) (hD.all c _) hS hd
  have hl : lv_has ls 7 [(0, .ref (a 0 0)), (1, .int p0), (2, .int p1), (3, .int p2), (4, .int p3), (5, .int p4), (6, .int p5)] := hl
  have J113 : ∀ (x1 : Int32) (x6 : Int32) (X : XS) (H : Heap) (locs : List Loc) (ls : Array Slot), fX8_feed_b113 x1 x6 X = some (r0, z0) → XP D a c X H → va_S A s.heap H locs → lv_has ls 7 [(0, .ref (a 0 0)), (1, .int x1), (6, .int x6)] → W p l e rmX8_feed s m args below meth cd H locs 0 0 Q (F0 m 113 ls []) := by
    intro x1 x6 X H locs ls h hP hS hl
    unfold fX8_feed_b113 at h
    refine lv_iload_n (pc := 113) hx hb dX8_feed_113 rfl (lv_at hl 1 rfl) ?_
    refine lv_iconst (v := 4) (pc := 114) hx hb dX8_feed_114 (by decide) ?_
    refine lv_icmp_le (tgt := 127) (pc := 115) hx hb dX8_feed_115 (by decide) (fun c115 => ?_) (fun c115 => ?_)
    · replace h := it_t c115 h
      refine lv_aload_n (pc := 127) hx hb dX8_feed_127 rfl (lv_at hl 0 rfl) ?_
      refine va_get (D := D) (ci := 8) (v := .ref ((a 1) 0)) (C := RX8) (T := TX8) (N := 12) (pc := 128) hx hb hfX8 (fun _ h9 => h9) hown hK (show va_P D vwCl (wX8 a c (X 0)) _ from hP 0 (by decide)) 0 rfl rfl 0 (by decide) lk0 (fun _ h9 => h9) rfl dX8_feed_128 ?_
      refine va_get (D := D) (ci := 6) (v := .int ((X 1).1 1 0)) (C := RX6) (T := TX6) (N := 2) (pc := 131) hx hb hfX6 (fun _ h9 => h9) hown hK (show va_P D vwCl (wX6 (a 1) c (X 1)) _ from hP 1 (by decide)) 0 rfl rfl 1 (by decide) lk1 (fun _ h9 => h9) rfl dX8_feed_131 ?_
      have kr := KR ((X 1).1 1 0) X _ _ 134 ls h rfl hP hS dX8_feed_134
      exact kr
    · replace h := it_f c115 h
      refine lv_aload_n (pc := 118) hx hb dX8_feed_118 rfl (lv_at hl 0 rfl) ?_
      refine va_get (D := D) (ci := 8) (v := .ref ((a 1) 0)) (C := RX8) (T := TX8) (N := 12) (pc := 119) hx hb hfX8 (fun _ h9 => h9) hown hK (show va_P D vwCl (wX8 a c (X 0)) _ from hP 0 (by decide)) 0 rfl rfl 0 (by decide) lk0 (fun _ h9 => h9) rfl dX8_feed_119 ?_
      refine lv_iload (pc := 122) hx hb dX8_feed_122 (lv_at hl 2 rfl) ?_
      obtain ⟨t0_124, hc124, h⟩ := b1_i h
      have hw : (wX6 (a 1) c (X 1)).map (·.1) = [1].flatMap (uA a) := rfl
      have hPc : va_P D vwCl (wX6 (a 1) c (X 1)) _ := hP 1 (by decide)
      have hDc : va_D A (wX6 (a 1) c (X 1)) := hD.of_addr (by decide) (by decide) hw
      refine g_X (X' := (xs X 1 t0_124)) (st1 := []) (gr_V (n := 1) (rest := []) (pc := 124) hx hb hml hown hts (cX6_append_met l D c tb sa sv (a 1) x6 (X 1) _ hc124) gX8_feed_X6_append rfl rfl rfl (by decide +kernel) rfl ⟨Nat.le_of_ble_eq_true rfl, Nat.le_of_ble_eq_true rfl⟩ ⟨Nat.zero_le _, Nat.zero_le _⟩ 0 6 rfl rfl rfl xE_ok hPc hDc hK (xE_ok.tr hE hS (g_freeX hD hS hA (by decide) (addr0 hw))) hl.1 (Nat.le_of_ble_eq_true rfl) dX8_feed_124 rfl) hP hD hS hA (ks := [1]) (by decide) (addr0 hw) (fun k9 _ hk9 => (xs_o hk9 (j := 1) (by decide))) (fun H1 hw1 => (List.forall_mem_cons.mpr ⟨hw1, (fun _ h9 => absurd h9 List.not_mem_nil)⟩)) rfl (fun H locs hP hS => ?_)
      refine lv_aload_n (pc := 127) hx hb dX8_feed_127 rfl (lv_at hl 0 rfl) ?_
      refine va_get (D := D) (ci := 8) (v := .ref ((a 1) 0)) (C := RX8) (T := TX8) (N := 12) (pc := 128) hx hb hfX8 (fun _ h9 => h9) hown hK (show va_P D vwCl (wX8 a c ((xs X 1 t0_124) 0)) _ from hP 0 (by decide)) 0 rfl rfl 0 (by decide) lk0 (fun _ h9 => h9) rfl dX8_feed_128 ?_
      refine va_get (D := D) (ci := 6) (v := .int (((xs X 1 t0_124) 1).1 1 0)) (C := RX6) (T := TX6) (N := 2) (pc := 131) hx hb hfX6 (fun _ h9 => h9) hown hK (show va_P D vwCl (wX6 (a 1) c ((xs X 1 t0_124) 1)) _ from hP 1 (by decide)) 0 rfl rfl 1 (by decide) lk1 (fun _ h9 => h9) rfl dX8_feed_131 ?_
      have kr := KR (((xs X 1 t0_124) 1).1 1 0) (xs X 1 t0_124) _ _ 134 ls h rfl hP hS dX8_feed_134
      exact kr
  have J99 : ∀ (x1 : Int32) (x5 : Int32) (x6 : Int32) (X : XS) (H : Heap) (locs : List Loc) (ls : Array Slot), fX8_feed_b99 x1 x5 x6 X = some (r0, z0) → XP D a c X H → va_S A s.heap H locs → lv_has ls 7 [(0, .ref (a 0 0)), (1, .int x1), (5, .int x5), (6, .int x6)] → W p l e rmX8_feed s m args below meth cd H locs 0 0 Q (F0 m 99 ls []) := by
    intro x1 x5 x6 X H locs ls h hP hS hl
    unfold fX8_feed_b99 at h
    refine lv_iload_n (pc := 99) hx hb dX8_feed_99 rfl (lv_at hl 1 rfl) ?_
    refine lv_iconst (v := 3) (pc := 100) hx hb dX8_feed_100 (by decide) ?_
    refine lv_icmp_le (tgt := 113) (pc := 101) hx hb dX8_feed_101 (by decide) (fun c101 => ?_) (fun c101 => ?_)
    · replace h := it_t c101 h
      have jr := J113 x1 x6 X _ _ ls h hP hS (lv_sub hl [0, 1, 3] rfl)
      exact jr
    · replace h := it_f c101 h
      refine lv_aload_n (pc := 104) hx hb dX8_feed_104 rfl (lv_at hl 0 rfl) ?_
      refine va_get (D := D) (ci := 8) (v := .ref ((a 1) 0)) (C := RX8) (T := TX8) (N := 12) (pc := 105) hx hb hfX8 (fun _ h9 => h9) hown hK (show va_P D vwCl (wX8 a c (X 0)) _ from hP 0 (by decide)) 0 rfl rfl 0 (by decide) lk0 (fun _ h9 => h9) rfl dX8_feed_105 ?_
      refine lv_iload (pc := 108) hx hb dX8_feed_108 (lv_at hl 2 rfl) ?_
      obtain ⟨t0_110, hc110, h⟩ := b1_i h
      have hw : (wX6 (a 1) c (X 1)).map (·.1) = [1].flatMap (uA a) := rfl
      have hPc : va_P D vwCl (wX6 (a 1) c (X 1)) _ := hP 1 (by decide)
      have hDc : va_D A (wX6 (a 1) c (X 1)) := hD.of_addr (by decide) (by decide) hw
      refine g_X (X' := (xs X 1 t0_110)) (st1 := []) (gr_V (n := 1) (rest := []) (pc := 110) hx hb hml hown hts (cX6_append_met l D c tb sa sv (a 1) x5 (X 1) _ hc110) gX8_feed_X6_append rfl rfl rfl (by decide +kernel) rfl ⟨Nat.le_of_ble_eq_true rfl, Nat.le_of_ble_eq_true rfl⟩ ⟨Nat.zero_le _, Nat.zero_le _⟩ 0 6 rfl rfl rfl xE_ok hPc hDc hK (xE_ok.tr hE hS (g_freeX hD hS hA (by decide) (addr0 hw))) hl.1 (Nat.le_of_ble_eq_true rfl) dX8_feed_110 rfl) hP hD hS hA (ks := [1]) (by decide) (addr0 hw) (fun k9 _ hk9 => (xs_o hk9 (j := 1) (by decide))) (fun H1 hw1 => (List.forall_mem_cons.mpr ⟨hw1, (fun _ h9 => absurd h9 List.not_mem_nil)⟩)) rfl (fun H locs hP hS => ?_)
      have jr := J113 x1 x6 ((xs X 1 t0_110)) _ _ ls h hP hS (lv_sub hl [0, 1, 3] rfl)
      exact jr
  have J85 : ∀ (x1 : Int32) (x4 : Int32) (x5 : Int32) (x6 : Int32) (X : XS) (H : Heap) (locs : List Loc) (ls : Array Slot), fX8_feed_b85 x1 x4 x5 x6 X = some (r0, z0) → XP D a c X H → va_S A s.heap H locs → lv_has ls 7 [(0, .ref (a 0 0)), (1, .int x1), (4, .int x4), (5, .int x5), (6, .int x6)] → W p l e rmX8_feed s m args below meth cd H locs 0 0 Q (F0 m 85 ls []) := by
    intro x1 x4 x5 x6 X H locs ls h hP hS hl
    unfold fX8_feed_b85 at h
    refine lv_iload_n (pc := 85) hx hb dX8_feed_85 rfl (lv_at hl 1 rfl) ?_
    refine lv_iconst (v := 2) (pc := 86) hx hb dX8_feed_86 (by decide) ?_
    refine lv_icmp_le (tgt := 99) (pc := 87) hx hb dX8_feed_87 (by decide) (fun c87 => ?_) (fun c87 => ?_)
    · replace h := it_t c87 h
      have jr := J99 x1 x5 x6 X _ _ ls h hP hS (lv_sub hl [0, 1, 3, 4] rfl)
      exact jr
    · replace h := it_f c87 h
      refine lv_aload_n (pc := 90) hx hb dX8_feed_90 rfl (lv_at hl 0 rfl) ?_
      refine va_get (D := D) (ci := 8) (v := .ref ((a 1) 0)) (C := RX8) (T := TX8) (N := 12) (pc := 91) hx hb hfX8 (fun _ h9 => h9) hown hK (show va_P D vwCl (wX8 a c (X 0)) _ from hP 0 (by decide)) 0 rfl rfl 0 (by decide) lk0 (fun _ h9 => h9) rfl dX8_feed_91 ?_
      refine lv_iload (pc := 94) hx hb dX8_feed_94 (lv_at hl 2 rfl) ?_
      obtain ⟨t0_96, hc96, h⟩ := b1_i h
      have hw : (wX6 (a 1) c (X 1)).map (·.1) = [1].flatMap (uA a) := rfl
      have hPc : va_P D vwCl (wX6 (a 1) c (X 1)) _ := hP 1 (by decide)
      have hDc : va_D A (wX6 (a 1) c (X 1)) := hD.of_addr (by decide) (by decide) hw
      refine g_X (X' := (xs X 1 t0_96)) (st1 := []) (gr_V (n := 1) (rest := []) (pc := 96) hx hb hml hown hts (cX6_append_met l D c tb sa sv (a 1) x4 (X 1) _ hc96) gX8_feed_X6_append rfl rfl rfl (by decide +kernel) rfl ⟨Nat.le_of_ble_eq_true rfl, Nat.le_of_ble_eq_true rfl⟩ ⟨Nat.zero_le _, Nat.zero_le _⟩ 0 6 rfl rfl rfl xE_ok hPc hDc hK (xE_ok.tr hE hS (g_freeX hD hS hA (by decide) (addr0 hw))) hl.1 (Nat.le_of_ble_eq_true rfl) dX8_feed_96 rfl) hP hD hS hA (ks := [1]) (by decide) (addr0 hw) (fun k9 _ hk9 => (xs_o hk9 (j := 1) (by decide))) (fun H1 hw1 => (List.forall_mem_cons.mpr ⟨hw1, (fun _ h9 => absurd h9 List.not_mem_nil)⟩)) rfl (fun H locs hP hS => ?_)
      have jr := J99 x1 x5 x6 ((xs X 1 t0_96)) _ _ ls h hP hS (lv_sub hl [0, 1, 3, 4] rfl)
      exact jr
  refine lv_iload_n (pc := 0) hx hb dX8_feed_0 rfl (lv_at hl 1 rfl) ?_
  refine lv_iconst (v := 1) (pc := 1) hx hb dX8_feed_1 (by decide) ?_
  refine lv_iconst (v := 5) (pc := 2) hx hb dX8_feed_2 (by decide) ?_
  obtain ⟨r3, hc3, h⟩ := b1_i h
  refine g_noneX (st1 := [.int r3]) (gr_S (n := 3) (rest := []) (pc := 3) hx hb hml hown hts (cX8_isWithin_met l D c tb sa sv p0 (1 : Int32) (5 : Int32) _ hc3) gX8_feed_X8_isWithin rfl rfl rfl (by decide +kernel) rfl ⟨Nat.le_of_ble_eq_true rfl, Nat.le_of_ble_eq_true rfl⟩ ⟨Nat.zero_le _, Nat.zero_le _⟩ xE_ok g_P0 (g_D0 (A := A)) hK (xE_ok.tr hE hS (g_free0 hS hA)) hl.1 (Nat.le_of_ble_eq_true rfl) dX8_feed_3 rfl) hP hS hA rfl (fun H locs hP hS => ?_)
  refine lv_if_eq (tgt := 47) (pc := 6) hx hb dX8_feed_6 (by decide) (fun c6 => ?_) (fun c6 => ?_)
  · replace h := it_t c6 h
    refine lv_bipush (v := -2) (pc := 47) hx hb dX8_feed_47 (by decide) ?_
    have kr := KR (-2 : Int32) X _ _ 49 ls h rfl hP hS dX8_feed_49
    exact kr
  · replace h := it_f c6 h
    refine lv_iload_n (pc := 9) hx hb dX8_feed_9 rfl (lv_at hl 2 rfl) ?_
    obtain ⟨r10, hc10, h⟩ := b1_i h
    refine g_noneX (st1 := [.int r10]) (gr_S (n := 1) (rest := []) (pc := 10) hx hb hml hown hts (cX8_isByte_met l D c tb sa sv p1 _ hc10) gX8_feed_X8_isByte rfl rfl rfl (by decide +kernel) rfl ⟨Nat.le_of_ble_eq_true rfl, Nat.le_of_ble_eq_true rfl⟩ ⟨Nat.zero_le _, Nat.zero_le _⟩ xE_ok g_P0 (g_D0 (A := A)) hK (xE_ok.tr hE hS (g_free0 hS hA)) hl.1 (Nat.le_of_ble_eq_true rfl) dX8_feed_10 rfl) hP hS hA rfl (fun H locs hP hS => ?_)
    refine lv_if_eq (tgt := 47) (pc := 13) hx hb dX8_feed_13 (by decide) (fun c13 => ?_) (fun c13 => ?_)
    · replace h := it_t c13 h
      refine lv_bipush (v := -2) (pc := 47) hx hb dX8_feed_47 (by decide) ?_
      have kr := KR (-2 : Int32) X _ _ 49 ls h rfl hP hS dX8_feed_49
      exact kr
    · replace h := it_f c13 h
      refine lv_iload_n (pc := 16) hx hb dX8_feed_16 rfl (lv_at hl 3 rfl) ?_
      obtain ⟨r17, hc17, h⟩ := b1_i h
      refine g_noneX (st1 := [.int r17]) (gr_S (n := 1) (rest := []) (pc := 17) hx hb hml hown hts (cX8_isByte_met l D c tb sa sv p2 _ hc17) gX8_feed_X8_isByte rfl rfl rfl (by decide +kernel) rfl ⟨Nat.le_of_ble_eq_true rfl, Nat.le_of_ble_eq_true rfl⟩ ⟨Nat.zero_le _, Nat.zero_le _⟩ xE_ok g_P0 (g_D0 (A := A)) hK (xE_ok.tr hE hS (g_free0 hS hA)) hl.1 (Nat.le_of_ble_eq_true rfl) dX8_feed_17 rfl) hP hS hA rfl (fun H locs hP hS => ?_)
      refine lv_if_eq (tgt := 47) (pc := 20) hx hb dX8_feed_20 (by decide) (fun c20 => ?_) (fun c20 => ?_)
      · replace h := it_t c20 h
        refine lv_bipush (v := -2) (pc := 47) hx hb dX8_feed_47 (by decide) ?_
        have kr := KR (-2 : Int32) X _ _ 49 ls h rfl hP hS dX8_feed_49
        exact kr
      · replace h := it_f c20 h
        refine lv_iload (pc := 23) hx hb dX8_feed_23 (lv_at hl 4 rfl) ?_
        obtain ⟨r25, hc25, h⟩ := b1_i h
        refine g_noneX (st1 := [.int r25]) (gr_S (n := 1) (rest := []) (pc := 25) hx hb hml hown hts (cX8_isByte_met l D c tb sa sv p3 _ hc25) gX8_feed_X8_isByte rfl rfl rfl (by decide +kernel) rfl ⟨Nat.le_of_ble_eq_true rfl, Nat.le_of_ble_eq_true rfl⟩ ⟨Nat.zero_le _, Nat.zero_le _⟩ xE_ok g_P0 (g_D0 (A := A)) hK (xE_ok.tr hE hS (g_free0 hS hA)) hl.1 (Nat.le_of_ble_eq_true rfl) dX8_feed_25 rfl) hP hS hA rfl (fun H locs hP hS => ?_)
        refine lv_if_eq (tgt := 47) (pc := 28) hx hb dX8_feed_28 (by decide) (fun c28 => ?_) (fun c28 => ?_)
        · replace h := it_t c28 h
          refine lv_bipush (v := -2) (pc := 47) hx hb dX8_feed_47 (by decide) ?_
          have kr := KR (-2 : Int32) X _ _ 49 ls h rfl hP hS dX8_feed_49
          exact kr
        · replace h := it_f c28 h
          refine lv_iload (pc := 31) hx hb dX8_feed_31 (lv_at hl 5 rfl) ?_
          obtain ⟨r33, hc33, h⟩ := b1_i h
          refine g_noneX (st1 := [.int r33]) (gr_S (n := 1) (rest := []) (pc := 33) hx hb hml hown hts (cX8_isByte_met l D c tb sa sv p4 _ hc33) gX8_feed_X8_isByte rfl rfl rfl (by decide +kernel) rfl ⟨Nat.le_of_ble_eq_true rfl, Nat.le_of_ble_eq_true rfl⟩ ⟨Nat.zero_le _, Nat.zero_le _⟩ xE_ok g_P0 (g_D0 (A := A)) hK (xE_ok.tr hE hS (g_free0 hS hA)) hl.1 (Nat.le_of_ble_eq_true rfl) dX8_feed_33 rfl) hP hS hA rfl (fun H locs hP hS => ?_)
          refine lv_if_eq (tgt := 47) (pc := 36) hx hb dX8_feed_36 (by decide) (fun c36 => ?_) (fun c36 => ?_)
          · replace h := it_t c36 h
            refine lv_bipush (v := -2) (pc := 47) hx hb dX8_feed_47 (by decide) ?_
            have kr := KR (-2 : Int32) X _ _ 49 ls h rfl hP hS dX8_feed_49
            exact kr
          · replace h := it_f c36 h
            refine lv_iload (pc := 39) hx hb dX8_feed_39 (lv_at hl 6 rfl) ?_
            obtain ⟨r41, hc41, h⟩ := b1_i h
            refine g_noneX (st1 := [.int r41]) (gr_S (n := 1) (rest := []) (pc := 41) hx hb hml hown hts (cX8_isByte_met l D c tb sa sv p5 _ hc41) gX8_feed_X8_isByte rfl rfl rfl (by decide +kernel) rfl ⟨Nat.le_of_ble_eq_true rfl, Nat.le_of_ble_eq_true rfl⟩ ⟨Nat.zero_le _, Nat.zero_le _⟩ xE_ok g_P0 (g_D0 (A := A)) hK (xE_ok.tr hE hS (g_free0 hS hA)) hl.1 (Nat.le_of_ble_eq_true rfl) dX8_feed_41 rfl) hP hS hA rfl (fun H locs hP hS => ?_)
            refine lv_if_ne (tgt := 50) (pc := 44) hx hb dX8_feed_44 (by decide) (fun c44 => ?_) (fun c44 => ?_)
            · replace h := it_f c44 h
              refine lv_iload_n (pc := 50) hx hb dX8_feed_50 rfl (lv_at hl 1 rfl) ?_
              refine lv_aload_n (pc := 51) hx hb dX8_feed_51 rfl (lv_at hl 0 rfl) ?_
              refine va_get (D := D) (ci := 8) (v := .ref ((a 1) 0)) (C := RX8) (T := TX8) (N := 12) (pc := 52) hx hb hfX8 (fun _ h9 => h9) hown hK (show va_P D vwCl (wX8 a c (X 0)) _ from hP 0 (by decide)) 0 rfl rfl 0 (by decide) lk0 (fun _ h9 => h9) rfl dX8_feed_52 ?_
              obtain ⟨r55, hc55, h⟩ := b1_i h
              have hw : (wX6 (a 1) c (X 1)).map (·.1) = [1].flatMap (uA a) := rfl
              have hPc : va_P D vwCl (wX6 (a 1) c (X 1)) _ := hP 1 (by decide)
              have hDc : va_D A (wX6 (a 1) c (X 1)) := hD.of_addr (by decide) (by decide) hw
              refine g_X (X' := X) (st1 := [.int r55, .int p0]) (gr_V (n := 0) (rest := [.int p0]) (pc := 55) hx hb hml hown hts (cX6_room_met l D c tb sa sv (a 1) (X 1) _ hc55) gX8_feed_X6_room rfl rfl rfl (by decide +kernel) rfl ⟨Nat.le_of_ble_eq_true rfl, Nat.le_of_ble_eq_true rfl⟩ ⟨Nat.zero_le _, Nat.zero_le _⟩ 0 6 rfl rfl rfl xE_ok hPc hDc hK (xE_ok.tr hE hS (g_freeX hD hS hA (by decide) (addr0 hw))) hl.1 (Nat.le_of_ble_eq_true rfl) dX8_feed_55 rfl) hP hD hS hA (ks := [1]) (by decide) (addr0 hw) (fun k9 _ hk9 => rfl) (fun H1 hw1 => (List.forall_mem_cons.mpr ⟨hw1, (fun _ h9 => absurd h9 List.not_mem_nil)⟩)) rfl (fun H locs hP hS => ?_)
              refine lv_icmp_le (tgt := 64) (pc := 58) hx hb dX8_feed_58 (by decide) (fun c58 => ?_) (fun c58 => ?_)
              · replace h := it_t c58 h
                refine lv_aload_n (pc := 64) hx hb dX8_feed_64 rfl (lv_at hl 0 rfl) ?_
                refine va_get (D := D) (ci := 8) (v := .ref ((a 1) 0)) (C := RX8) (T := TX8) (N := 12) (pc := 65) hx hb hfX8 (fun _ h9 => h9) hown hK (show va_P D vwCl (wX8 a c (X 0)) _ from hP 0 (by decide)) 0 rfl rfl 0 (by decide) lk0 (fun _ h9 => h9) rfl dX8_feed_65 ?_
                refine lv_iload_n (pc := 68) hx hb dX8_feed_68 rfl (lv_at hl 2 rfl) ?_
                obtain ⟨t0_69, hc69, h⟩ := b1_i h
                have hw : (wX6 (a 1) c (X 1)).map (·.1) = [1].flatMap (uA a) := rfl
                have hPc : va_P D vwCl (wX6 (a 1) c (X 1)) _ := hP 1 (by decide)
                have hDc : va_D A (wX6 (a 1) c (X 1)) := hD.of_addr (by decide) (by decide) hw
                refine g_X (X' := (xs X 1 t0_69)) (st1 := []) (gr_V (n := 1) (rest := []) (pc := 69) hx hb hml hown hts (cX6_append_met l D c tb sa sv (a 1) p1 (X 1) _ hc69) gX8_feed_X6_append rfl rfl rfl (by decide +kernel) rfl ⟨Nat.le_of_ble_eq_true rfl, Nat.le_of_ble_eq_true rfl⟩ ⟨Nat.zero_le _, Nat.zero_le _⟩ 0 6 rfl rfl rfl xE_ok hPc hDc hK (xE_ok.tr hE hS (g_freeX hD hS hA (by decide) (addr0 hw))) hl.1 (Nat.le_of_ble_eq_true rfl) dX8_feed_69 rfl) hP hD hS hA (ks := [1]) (by decide) (addr0 hw) (fun k9 _ hk9 => (xs_o hk9 (j := 1) (by decide))) (fun H1 hw1 => (List.forall_mem_cons.mpr ⟨hw1, (fun _ h9 => absurd h9 List.not_mem_nil)⟩)) rfl (fun H locs hP hS => ?_)
                refine lv_iload_n (pc := 72) hx hb dX8_feed_72 rfl (lv_at hl 1 rfl) ?_
                refine lv_iconst (v := 1) (pc := 73) hx hb dX8_feed_73 (by decide) ?_
                refine lv_icmp_le (tgt := 85) (pc := 74) hx hb dX8_feed_74 (by decide) (fun c74 => ?_) (fun c74 => ?_)
                · replace h := it_t c74 h
                  have jr := J85 p0 p3 p4 p5 ((xs X 1 t0_69)) _ _ ls h hP hS (lv_sub hl [0, 1, 4, 5, 6] rfl)
                  exact jr
                · replace h := it_f c74 h
                  refine lv_aload_n (pc := 77) hx hb dX8_feed_77 rfl (lv_at hl 0 rfl) ?_
                  refine va_get (D := D) (ci := 8) (v := .ref ((a 1) 0)) (C := RX8) (T := TX8) (N := 12) (pc := 78) hx hb hfX8 (fun _ h9 => h9) hown hK (show va_P D vwCl (wX8 a c ((xs X 1 t0_69) 0)) _ from hP 0 (by decide)) 0 rfl rfl 0 (by decide) lk0 (fun _ h9 => h9) rfl dX8_feed_78 ?_
                  refine lv_iload_n (pc := 81) hx hb dX8_feed_81 rfl (lv_at hl 3 rfl) ?_
                  obtain ⟨t0_82, hc82, h⟩ := b1_i h
                  have hw : (wX6 (a 1) c ((xs X 1 t0_69) 1)).map (·.1) = [1].flatMap (uA a) := rfl
                  have hPc : va_P D vwCl (wX6 (a 1) c ((xs X 1 t0_69) 1)) _ := hP 1 (by decide)
                  have hDc : va_D A (wX6 (a 1) c ((xs X 1 t0_69) 1)) := hD.of_addr (by decide) (by decide) hw
                  refine g_X (X' := (xs (xs X 1 t0_69) 1 t0_82)) (st1 := []) (gr_V (n := 1) (rest := []) (pc := 82) hx hb hml hown hts (cX6_append_met l D c tb sa sv (a 1) p2 ((xs X 1 t0_69) 1) _ hc82) gX8_feed_X6_append rfl rfl rfl (by decide +kernel) rfl ⟨Nat.le_of_ble_eq_true rfl, Nat.le_of_ble_eq_true rfl⟩ ⟨Nat.zero_le _, Nat.zero_le _⟩ 0 6 rfl rfl rfl xE_ok hPc hDc hK (xE_ok.tr hE hS (g_freeX hD hS hA (by decide) (addr0 hw))) hl.1 (Nat.le_of_ble_eq_true rfl) dX8_feed_82 rfl) hP hD hS hA (ks := [1]) (by decide) (addr0 hw) (fun k9 _ hk9 => (xs_o hk9 (j := 1) (by decide))) (fun H1 hw1 => (List.forall_mem_cons.mpr ⟨hw1, (fun _ h9 => absurd h9 List.not_mem_nil)⟩)) rfl (fun H locs hP hS => ?_)
                  have jr := J85 p0 p3 p4 p5 ((xs (xs X 1 t0_69) 1 t0_82)) _ _ ls h hP hS (lv_sub hl [0, 1, 4, 5, 6] rfl)
                  exact jr
              · replace h := it_f c58 h
                refine lv_bipush (v := -4) (pc := 61) hx hb dX8_feed_61 (by decide) ?_
                have kr := KR (-4 : Int32) X _ _ 63 ls h rfl hP hS dX8_feed_63
                exact kr
            · replace h := it_t c44 h
              refine lv_bipush (v := -2) (pc := 47) hx hb dX8_feed_47 (by decide) ?_
              have kr := KR (-2 : Int32) X _ _ 49 ls h rfl hP hS dX8_feed_49
              exact kr
abbrev rmX6_hasBlank : Room := { frames := 0, cells := 0, slots := 0, locals := 0 }
set_option maxRecDepth 100000 in
set_option maxHeartbeats 40000000 in
theorem cX6_hasBlank_met (l : Launch) (D : va_G) (c : Nat → ClassId) (tb : Nat) (sa sv : Nat → Nat) (a0 : Nat → Nat) (p0 : Int32) (s0 : Mem) (r0 : Int32) (h : fX6_hasBlank p0 s0 = some r0) : gM l yX6_hasBlank wsX6_hasBlank rmX6_hasBlank D (gY c) (xE tb sa sv) [.ref (a0 0), .int p0] (wX6 a0 c s0) (some (.int r0)) (wX6 a0 c s0) := by
  unfold fX6_hasBlank at h
  refine gM.I (cc := cX6_hasBlank) (maxL := 2) (by decide) rfl (Nat.le_of_ble_eq_true rfl) ?_
  intro p e s m args below meth cd hx hb hml hown hts A hA ls hl hP hK hD hS hE Q KR0
  have hfX6 : ∀ w ∈ u_ws RX6 TX6 2, w.before args s = true := fun w hw => hts w (List.mem_cons_of_mem _ (List.mem_append_right _ hw))
  have lk0 := hts (.fieldLink RX6 13 "GlitchNets$Tape" "size" "I") (List.mem_of_getElem? (i := 1) rfl)
  have lk1 := hts (.fieldLink RX6 9 "GlitchNets$Tape" "bytes" "[I") (List.mem_of_getElem? (i := 2) rfl)
  have KR : ∀ (v : Int32)  (H : Heap) (locs : List Loc) (pc : Nat) (ls : Array Slot), some v = some r0 → narrow .boolean (.int v) = .int v → va_P D vwCl (wX6 a0 c s0) H → va_D A (wX6 a0 c s0) → va_S A s.heap H locs → decode cX6_hasBlank pc = .ok (.ireturn, 1) → W p l e rmX6_hasBlank s m args below meth cd H locs 0 0 Q (F0 m pc ls [.int v]) := by
    intro v  H locs pc ls hr hn hP hD hS hd
    cases hr
    exact KR0 _ H locs pc ls rfl hn hP hD hS hd
  have hl : lv_has ls 2 [(0, .ref (a0 0)), (1, .int p0)] := hl
  refine lv_iload_n (pc := 0) hx hb dX6_hasBlank_0 rfl (lv_at hl 1 rfl) ?_
  refine lv_aload_n (pc := 1) hx hb dX6_hasBlank_1 rfl (lv_at hl 0 rfl) ?_
  refine va_get (D := D) (ci := 6) (v := .int (s0.1 1 0)) (C := RX6) (T := TX6) (N := 2) (pc := 2) hx hb hfX6 (fun _ h9 => h9) hown hK hP 0 rfl rfl 1 (by decide) lk0 (fun _ h9 => h9) rfl dX6_hasBlank_2 ?_
  refine lv_icmp_ge (tgt := 23) (pc := 5) hx hb dX6_hasBlank_5 (by decide) (fun c5 => ?_) (fun c5 => ?_)
  · replace h := it_t c5 h
    refine lv_iconst (v := 0) (pc := 23) hx hb dX6_hasBlank_23 (by decide) ?_
    have kr := KR (0 : Int32)  _ _ 24 ls h rfl hP hD hS dX6_hasBlank_24
    exact kr
  · replace h := it_f c5 h
    refine lv_aload_n (pc := 8) hx hb dX6_hasBlank_8 rfl (lv_at hl 0 rfl) ?_
    refine va_get (D := D) (ci := 6) (v := .ref (a0 1)) (C := RX6) (T := TX6) (N := 2) (pc := 9) hx hb hfX6 (fun _ h9 => h9) hown hK hP 0 rfl rfl 0 (by decide) lk1 (fun _ h9 => h9) rfl dX6_hasBlank_9 ?_
    refine lv_iload_n (pc := 12) hx hb dX6_hasBlank_12 rfl (lv_at hl 1 rfl) ?_
    obtain ⟨hk13, h⟩ := ckI_i h
    refine va_iald (D := D) (f := (s0.1 0)) (pc := 13) hx hb hK hP 1 0 rfl rfl hk13 dX6_hasBlank_13 ?_
    refine lv_bipush (v := 32) (pc := 14) hx hb dX6_hasBlank_14 (by decide) ?_
    refine lv_icmp_ne (tgt := 23) (pc := 16) hx hb dX6_hasBlank_16 (by decide) (fun c16 => ?_) (fun c16 => ?_)
    · replace h := it_f c16 h
      refine lv_iconst (v := 0) (pc := 23) hx hb dX6_hasBlank_23 (by decide) ?_
      have kr := KR (0 : Int32)  _ _ 24 ls h rfl hP hD hS dX6_hasBlank_24
      exact kr
    · replace h := it_t c16 h
      refine lv_iconst (v := 1) (pc := 19) hx hb dX6_hasBlank_19 (by decide) ?_
      refine lv_goto (tgt := 24) (pc := 20) hx hb dX6_hasBlank_20 (by decide) ?_
      have kr := KR (1 : Int32)  _ _ 24 ls h rfl hP hD hS dX6_hasBlank_24
      exact kr
abbrev rmX6_hasLetter : Room := { frames := 0, cells := 0, slots := 0, locals := 0 }
set_option maxRecDepth 100000 in
set_option maxHeartbeats 40000000 in
theorem cX6_hasLetter_met (l : Launch) (D : va_G) (c : Nat → ClassId) (tb : Nat) (sa sv : Nat → Nat) (a0 : Nat → Nat) (p0 : Int32) (s0 : Mem) (r0 : Int32) (h : fX6_hasLetter p0 s0 = some r0) : gM l yX6_hasLetter wsX6_hasLetter rmX6_hasLetter D (gY c) (xE tb sa sv) [.ref (a0 0), .int p0] (wX6 a0 c s0) (some (.int r0)) (wX6 a0 c s0) := by
  unfold fX6_hasLetter at h
  refine gM.I (cc := cX6_hasLetter) (maxL := 2) (by decide) rfl (Nat.le_of_ble_eq_true rfl) ?_
  intro p e s m args below meth cd hx hb hml hown hts A hA ls hl hP hK hD hS hE Q KR0
  have hfX6 : ∀ w ∈ u_ws RX6 TX6 2, w.before args s = true := fun w hw => hts w (List.mem_cons_of_mem _ (List.mem_append_right _ hw))
  have lk0 := hts (.fieldLink RX6 13 "GlitchNets$Tape" "size" "I") (List.mem_of_getElem? (i := 1) rfl)
  have lk1 := hts (.fieldLink RX6 9 "GlitchNets$Tape" "bytes" "[I") (List.mem_of_getElem? (i := 2) rfl)
  have KR : ∀ (v : Int32)  (H : Heap) (locs : List Loc) (pc : Nat) (ls : Array Slot), some v = some r0 → narrow .boolean (.int v) = .int v → va_P D vwCl (wX6 a0 c s0) H → va_D A (wX6 a0 c s0) → va_S A s.heap H locs → decode cX6_hasLetter pc = .ok (.ireturn, 1) → W p l e rmX6_hasLetter s m args below meth cd H locs 0 0 Q (F0 m pc ls [.int v]) := by
    intro v  H locs pc ls hr hn hP hD hS hd
    cases hr
    exact KR0 _ H locs pc ls rfl hn hP hD hS hd
  have hl : lv_has ls 2 [(0, .ref (a0 0)), (1, .int p0)] := hl
  refine lv_iload_n (pc := 0) hx hb dX6_hasLetter_0 rfl (lv_at hl 1 rfl) ?_
  refine lv_aload_n (pc := 1) hx hb dX6_hasLetter_1 rfl (lv_at hl 0 rfl) ?_
  refine va_get (D := D) (ci := 6) (v := .int (s0.1 1 0)) (C := RX6) (T := TX6) (N := 2) (pc := 2) hx hb hfX6 (fun _ h9 => h9) hown hK hP 0 rfl rfl 1 (by decide) lk0 (fun _ h9 => h9) rfl dX6_hasLetter_2 ?_
  refine lv_icmp_ge (tgt := 34) (pc := 5) hx hb dX6_hasLetter_5 (by decide) (fun c5 => ?_) (fun c5 => ?_)
  · replace h := it_t c5 h
    refine lv_iconst (v := 0) (pc := 34) hx hb dX6_hasLetter_34 (by decide) ?_
    have kr := KR (0 : Int32)  _ _ 35 ls h rfl hP hD hS dX6_hasLetter_35
    exact kr
  · replace h := it_f c5 h
    refine lv_aload_n (pc := 8) hx hb dX6_hasLetter_8 rfl (lv_at hl 0 rfl) ?_
    refine va_get (D := D) (ci := 6) (v := .ref (a0 1)) (C := RX6) (T := TX6) (N := 2) (pc := 9) hx hb hfX6 (fun _ h9 => h9) hown hK hP 0 rfl rfl 0 (by decide) lk1 (fun _ h9 => h9) rfl dX6_hasLetter_9 ?_
    refine lv_iload_n (pc := 12) hx hb dX6_hasLetter_12 rfl (lv_at hl 1 rfl) ?_
    obtain ⟨hk13, h⟩ := ckI_i h
    refine va_iald (D := D) (f := (s0.1 0)) (pc := 13) hx hb hK hP 1 0 rfl rfl hk13 dX6_hasLetter_13 ?_
    refine lv_bipush (v := 97) (pc := 14) hx hb dX6_hasLetter_14 (by decide) ?_
    refine lv_icmp_lt (tgt := 34) (pc := 16) hx hb dX6_hasLetter_16 (by decide) (fun c16 => ?_) (fun c16 => ?_)
    · replace h := it_t c16 h
      refine lv_iconst (v := 0) (pc := 34) hx hb dX6_hasLetter_34 (by decide) ?_
      have kr := KR (0 : Int32)  _ _ 35 ls h rfl hP hD hS dX6_hasLetter_35
      exact kr
    · replace h := it_f c16 h
      refine lv_aload_n (pc := 19) hx hb dX6_hasLetter_19 rfl (lv_at hl 0 rfl) ?_
      refine va_get (D := D) (ci := 6) (v := .ref (a0 1)) (C := RX6) (T := TX6) (N := 2) (pc := 20) hx hb hfX6 (fun _ h9 => h9) hown hK hP 0 rfl rfl 0 (by decide) lk1 (fun _ h9 => h9) rfl dX6_hasLetter_20 ?_
      refine lv_iload_n (pc := 23) hx hb dX6_hasLetter_23 rfl (lv_at hl 1 rfl) ?_
      obtain ⟨hk24, h⟩ := ckI_i h
      refine va_iald (D := D) (f := (s0.1 0)) (pc := 24) hx hb hK hP 1 0 rfl rfl hk24 dX6_hasLetter_24 ?_
      refine lv_bipush (v := 122) (pc := 25) hx hb dX6_hasLetter_25 (by decide) ?_
      refine lv_icmp_gt (tgt := 34) (pc := 27) hx hb dX6_hasLetter_27 (by decide) (fun c27 => ?_) (fun c27 => ?_)
      · replace h := it_t c27 h
        refine lv_iconst (v := 0) (pc := 34) hx hb dX6_hasLetter_34 (by decide) ?_
        have kr := KR (0 : Int32)  _ _ 35 ls h rfl hP hD hS dX6_hasLetter_35
        exact kr
      · replace h := it_f c27 h
        refine lv_iconst (v := 1) (pc := 30) hx hb dX6_hasLetter_30 (by decide) ?_
        refine lv_goto (tgt := 35) (pc := 31) hx hb dX6_hasLetter_31 (by decide) ?_
        have kr := KR (1 : Int32)  _ _ 35 ls h rfl hP hD hS dX6_hasLetter_35
        exact kr
abbrev rmX6_hasDigit : Room := { frames := 0, cells := 0, slots := 0, locals := 0 }
set_option maxRecDepth 100000 in
set_option maxHeartbeats 40000000 in
theorem cX6_hasDigit_met (l : Launch) (D : va_G) (c : Nat → ClassId) (tb : Nat) (sa sv : Nat → Nat) (a0 : Nat → Nat) (p0 : Int32) (s0 : Mem) (r0 : Int32) (h : fX6_hasDigit p0 s0 = some r0) : gM l yX6_hasDigit wsX6_hasDigit rmX6_hasDigit D (gY c) (xE tb sa sv) [.ref (a0 0), .int p0] (wX6 a0 c s0) (some (.int r0)) (wX6 a0 c s0) := by
  unfold fX6_hasDigit at h
  refine gM.I (cc := cX6_hasDigit) (maxL := 2) (by decide) rfl (Nat.le_of_ble_eq_true rfl) ?_
  intro p e s m args below meth cd hx hb hml hown hts A hA ls hl hP hK hD hS hE Q KR0
  have hfX6 : ∀ w ∈ u_ws RX6 TX6 2, w.before args s = true := fun w hw => hts w (List.mem_cons_of_mem _ (List.mem_append_right _ hw))
  have lk0 := hts (.fieldLink RX6 13 "GlitchNets$Tape" "size" "I") (List.mem_of_getElem? (i := 1) rfl)
  have lk1 := hts (.fieldLink RX6 9 "GlitchNets$Tape" "bytes" "[I") (List.mem_of_getElem? (i := 2) rfl)
  have KR : ∀ (v : Int32)  (H : Heap) (locs : List Loc) (pc : Nat) (ls : Array Slot), some v = some r0 → narrow .boolean (.int v) = .int v → va_P D vwCl (wX6 a0 c s0) H → va_D A (wX6 a0 c s0) → va_S A s.heap H locs → decode cX6_hasDigit pc = .ok (.ireturn, 1) → W p l e rmX6_hasDigit s m args below meth cd H locs 0 0 Q (F0 m pc ls [.int v]) := by
    intro v  H locs pc ls hr hn hP hD hS hd
    cases hr
    exact KR0 _ H locs pc ls rfl hn hP hD hS hd
  have hl : lv_has ls 2 [(0, .ref (a0 0)), (1, .int p0)] := hl
  refine lv_iload_n (pc := 0) hx hb dX6_hasDigit_0 rfl (lv_at hl 1 rfl) ?_
  refine lv_aload_n (pc := 1) hx hb dX6_hasDigit_1 rfl (lv_at hl 0 rfl) ?_
  refine va_get (D := D) (ci := 6) (v := .int (s0.1 1 0)) (C := RX6) (T := TX6) (N := 2) (pc := 2) hx hb hfX6 (fun _ h9 => h9) hown hK hP 0 rfl rfl 1 (by decide) lk0 (fun _ h9 => h9) rfl dX6_hasDigit_2 ?_
  refine lv_icmp_ge (tgt := 34) (pc := 5) hx hb dX6_hasDigit_5 (by decide) (fun c5 => ?_) (fun c5 => ?_)
  · replace h := it_t c5 h
    refine lv_iconst (v := 0) (pc := 34) hx hb dX6_hasDigit_34 (by decide) ?_
    have kr := KR (0 : Int32)  _ _ 35 ls h rfl hP hD hS dX6_hasDigit_35
    exact kr
  · replace h := it_f c5 h
    refine lv_aload_n (pc := 8) hx hb dX6_hasDigit_8 rfl (lv_at hl 0 rfl) ?_
    refine va_get (D := D) (ci := 6) (v := .ref (a0 1)) (C := RX6) (T := TX6) (N := 2) (pc := 9) hx hb hfX6 (fun _ h9 => h9) hown hK hP 0 rfl rfl 0 (by decide) lk1 (fun _ h9 => h9) rfl dX6_hasDigit_9 ?_
    refine lv_iload_n (pc := 12) hx hb dX6_hasDigit_12 rfl (lv_at hl 1 rfl) ?_
    obtain ⟨hk13, h⟩ := ckI_i h
    refine va_iald (D := D) (f := (s0.1 0)) (pc := 13) hx hb hK hP 1 0 rfl rfl hk13 dX6_hasDigit_13 ?_
    refine lv_bipush (v := 48) (pc := 14) hx hb dX6_hasDigit_14 (by decide) ?_
    refine lv_icmp_lt (tgt := 34) (pc := 16) hx hb dX6_hasDigit_16 (by decide) (fun c16 => ?_) (fun c16 => ?_)
    · replace h := it_t c16 h
      refine lv_iconst (v := 0) (pc := 34) hx hb dX6_hasDigit_34 (by decide) ?_
      have kr := KR (0 : Int32)  _ _ 35 ls h rfl hP hD hS dX6_hasDigit_35
      exact kr
    · replace h := it_f c16 h
      refine lv_aload_n (pc := 19) hx hb dX6_hasDigit_19 rfl (lv_at hl 0 rfl) ?_
      refine va_get (D := D) (ci := 6) (v := .ref (a0 1)) (C := RX6) (T := TX6) (N := 2) (pc := 20) hx hb hfX6 (fun _ h9 => h9) hown hK hP 0 rfl rfl 0 (by decide) lk1 (fun _ h9 => h9) rfl dX6_hasDigit_20 ?_
      refine lv_iload_n (pc := 23) hx hb dX6_hasDigit_23 rfl (lv_at hl 1 rfl) ?_
      obtain ⟨hk24, h⟩ := ckI_i h
      refine va_iald (D := D) (f := (s0.1 0)) (pc := 24) hx hb hK hP 1 0 rfl rfl hk24 dX6_hasDigit_24 ?_
      refine lv_bipush (v := 57) (pc := 25) hx hb dX6_hasDigit_25 (by decide) ?_
      refine lv_icmp_gt (tgt := 34) (pc := 27) hx hb dX6_hasDigit_27 (by decide) (fun c27 => ?_) (fun c27 => ?_)
      · replace h := it_t c27 h
        refine lv_iconst (v := 0) (pc := 34) hx hb dX6_hasDigit_34 (by decide) ?_
        have kr := KR (0 : Int32)  _ _ 35 ls h rfl hP hD hS dX6_hasDigit_35
        exact kr
      · replace h := it_f c27 h
        refine lv_iconst (v := 1) (pc := 30) hx hb dX6_hasDigit_30 (by decide) ?_
        refine lv_goto (tgt := 35) (pc := 31) hx hb dX6_hasDigit_31 (by decide) ?_
        have kr := KR (1 : Int32)  _ _ 35 ls h rfl hP hD hS dX6_hasDigit_35
        exact kr
abbrev rmX6_endOfPiece : Room := { frames := 1, cells := 0, slots := 0, locals := 21 }
set_option maxRecDepth 100000 in
set_option maxHeartbeats 40000000 in
theorem cX6_endOfPiece_met (l : Launch) (D : va_G) (c : Nat → ClassId) (tb : Nat) (sa sv : Nat → Nat) (a0 : Nat → Nat) (p0 : Int32) (s0 : Mem) (r0 : Int32) (h : fX6_endOfPiece p0 s0 = some r0) : gM l yX6_endOfPiece wsX6_endOfPiece rmX6_endOfPiece D (gY c) (xE tb sa sv) [.ref (a0 0), .int p0] (wX6 a0 c s0) (some (.int r0)) (wX6 a0 c s0) := by
  unfold fX6_endOfPiece at h
  refine gM.I (cc := cX6_endOfPiece) (maxL := 5) (by decide) rfl (Nat.le_of_ble_eq_true rfl) ?_
  intro p e s m args below meth cd hx hb hml hown hts A hA ls hl hP hK hD hS hE Q KR0
  have hfX6 : ∀ w ∈ u_ws RX6 TX6 2, w.before args s = true := fun w hw => hts w (List.mem_cons_of_mem _ (List.mem_append_right _ hw))
  have lk0 := hts (.fieldLink RX6 13 "GlitchNets$Tape" "size" "I") (List.mem_of_getElem? (i := 1) rfl)
  have KR : ∀ (v : Int32)  (H : Heap) (locs : List Loc) (pc : Nat) (ls : Array Slot), some v = some r0 → narrow .int (.int v) = .int v → va_P D vwCl (wX6 a0 c s0) H → va_D A (wX6 a0 c s0) → va_S A s.heap H locs → decode cX6_endOfPiece pc = .ok (.ireturn, 1) → W p l e rmX6_endOfPiece s m args below meth cd H locs 0 0 Q (F0 m pc ls [.int v]) := by
    intro v  H locs pc ls hr hn hP hD hS hd
    cases hr
    exact KR0 _ H locs pc ls rfl hn hP hD hS hd
  have hl : lv_has ls 5 [(0, .ref (a0 0)), (1, .int p0)] := hl
  have J62 : ∀ (K27 : Int32 → Int32 → Int32 → Option (Int32)) (K27h : ∀ (x2 : Int32) (x3 : Int32) (x4 : Int32) (H : Heap) (locs : List Loc) (ls : Array Slot), K27 x2 x3 x4 = some r0 → va_P D vwCl (wX6 a0 c s0) H → va_D A (wX6 a0 c s0) → va_S A s.heap H locs → lv_has ls 5 [(0, .ref (a0 0)), (2, .int x2), (3, .int x3), (4, .int x4)] → W p l e rmX6_endOfPiece s m args below meth cd H locs 0 0 Q (F0 m 27 ls [])) (x2 : Int32) (x3 : Int32) (x4 : Int32) (H : Heap) (locs : List Loc) (ls : Array Slot), fX6_endOfPiece_b62 K27 s0 x2 x3 x4 = some r0 → va_P D vwCl (wX6 a0 c s0) H → va_D A (wX6 a0 c s0) → va_S A s.heap H locs → lv_has ls 5 [(0, .ref (a0 0)), (2, .int x2), (3, .int x3), (4, .int x4)] → W p l e rmX6_endOfPiece s m args below meth cd H locs 0 0 Q (F0 m 62 ls []) := by
    intro K27 K27h x2 x3 x4 H locs ls h hP hD hS hl
    unfold fX6_endOfPiece_b62 at h
    obtain ⟨v4_62, ev4_62, h⟩ := lt_i h
    refine lv_iinc (v := v4_62) (lv' := [(4, .int v4_62), (0, .ref (a0 0)), (2, .int x2), (3, .int x3)]) (pc := 62) hx hb dX6_endOfPiece_62 hl (k := 3) rfl (by rw [ev4_62]; rfl) (by decide) rfl (fun ls hl => ?_)
    refine lv_goto (tgt := 27) (pc := 65) hx hb dX6_endOfPiece_65 (by decide) ?_
    have jr := K27h x2 x3 v4_62 _ _ ls h hP hD hS (lv_sub hl [1, 2, 3, 0] rfl)
    exact jr
  have J49 : ∀ (K27 : Int32 → Int32 → Int32 → Option (Int32)) (K27h : ∀ (x2 : Int32) (x3 : Int32) (x4 : Int32) (H : Heap) (locs : List Loc) (ls : Array Slot), K27 x2 x3 x4 = some r0 → va_P D vwCl (wX6 a0 c s0) H → va_D A (wX6 a0 c s0) → va_S A s.heap H locs → lv_has ls 5 [(0, .ref (a0 0)), (2, .int x2), (3, .int x3), (4, .int x4)] → W p l e rmX6_endOfPiece s m args below meth cd H locs 0 0 Q (F0 m 27 ls [])) (x2 : Int32) (x3 : Int32) (x4 : Int32) (H : Heap) (locs : List Loc) (ls : Array Slot), fX6_endOfPiece_b49 K27 s0 x2 x3 x4 = some r0 → va_P D vwCl (wX6 a0 c s0) H → va_D A (wX6 a0 c s0) → va_S A s.heap H locs → lv_has ls 5 [(0, .ref (a0 0)), (2, .int x2), (3, .int x3), (4, .int x4)] → W p l e rmX6_endOfPiece s m args below meth cd H locs 0 0 Q (F0 m 49 ls []) := by
    intro K27 K27h x2 x3 x4 H locs ls h hP hD hS hl
    unfold fX6_endOfPiece_b49 at h
    refine lv_iload_n (pc := 49) hx hb dX6_endOfPiece_49 rfl (lv_at hl 2 rfl) ?_
    refine lv_if_eq (tgt := 68) (pc := 50) hx hb dX6_endOfPiece_50 (by decide) (fun c50 => ?_) (fun c50 => ?_)
    · replace h := it_t c50 h
      refine lv_iload (pc := 68) hx hb dX6_endOfPiece_68 (lv_at hl 3 rfl) ?_
      have kr := KR x4  _ _ 70 ls h rfl hP hD hS dX6_endOfPiece_70
      exact kr
    · replace h := it_f c50 h
      refine lv_aload_n (pc := 53) hx hb dX6_endOfPiece_53 rfl (lv_at hl 0 rfl) ?_
      refine lv_iload (pc := 54) hx hb dX6_endOfPiece_54 (lv_at hl 3 rfl) ?_
      obtain ⟨r56, hc56, h⟩ := b1_i h
      refine g_all (st1 := [.int r56]) (gr_V (n := 1) (rest := []) (pc := 56) hx hb hml hown hts (cX6_hasDigit_met l D c tb sa sv a0 x4 s0 _ hc56) gX6_endOfPiece_X6_hasDigit rfl rfl rfl (by decide +kernel) rfl ⟨Nat.le_of_ble_eq_true rfl, Nat.le_of_ble_eq_true rfl⟩ ⟨Nat.zero_le _, Nat.zero_le _⟩ 0 6 rfl rfl rfl xE_ok hP hD hK (xE_ok.tr hE hS (g_free hD hS hA)) hl.1 (Nat.le_of_ble_eq_true rfl) dX6_endOfPiece_56 rfl) hD hS hA rfl (fun H locs hP hD hS => ?_)
      refine lv_if_eq (tgt := 68) (pc := 59) hx hb dX6_endOfPiece_59 (by decide) (fun c59 => ?_) (fun c59 => ?_)
      · replace h := it_t c59 h
        refine lv_iload (pc := 68) hx hb dX6_endOfPiece_68 (lv_at hl 3 rfl) ?_
        have kr := KR x4  _ _ 70 ls h rfl hP hD hS dX6_endOfPiece_70
        exact kr
      · replace h := it_f c59 h
        have jr := J62 K27 K27h x2 x3 x4 _ _ ls h hP hD hS hl
        exact jr
  have J27 : ∀ (n : Nat) (x2 : Int32) (x3 : Int32) (x4 : Int32) (H : Heap) (locs : List Loc) (ls : Array Slot), fX6_endOfPiece_b27 s0 n x2 x3 x4 = some r0 → va_P D vwCl (wX6 a0 c s0) H → va_D A (wX6 a0 c s0) → va_S A s.heap H locs → lv_has ls 5 [(0, .ref (a0 0)), (2, .int x2), (3, .int x3), (4, .int x4)] → W p l e rmX6_endOfPiece s m args below meth cd H locs 0 0 Q (F0 m 27 ls []) := by
    intro n
    induction n with
    | zero =>
      intro x2 x3 x4 H locs ls h _ _ _ _
      cases (show (none : Option (Int32)) = some _ from h)
    | succ n K27h =>
      intro x2 x3 x4 H locs ls h hP hD hS hl
      rw [fX6_endOfPiece_b27] at h
      refine lv_iload (pc := 27) hx hb dX6_endOfPiece_27 (lv_at hl 3 rfl) ?_
      refine lv_aload_n (pc := 29) hx hb dX6_endOfPiece_29 rfl (lv_at hl 0 rfl) ?_
      refine va_get (D := D) (ci := 6) (v := .int (s0.1 1 0)) (C := RX6) (T := TX6) (N := 2) (pc := 30) hx hb hfX6 (fun _ h9 => h9) hown hK hP 0 rfl rfl 1 (by decide) lk0 (fun _ h9 => h9) rfl dX6_endOfPiece_30 ?_
      refine lv_icmp_ge (tgt := 68) (pc := 33) hx hb dX6_endOfPiece_33 (by decide) (fun c33 => ?_) (fun c33 => ?_)
      · replace h := it_t c33 h
        refine lv_iload (pc := 68) hx hb dX6_endOfPiece_68 (lv_at hl 3 rfl) ?_
        have kr := KR x4  _ _ 70 ls h rfl hP hD hS dX6_endOfPiece_70
        exact kr
      · replace h := it_f c33 h
        refine lv_iload_n (pc := 36) hx hb dX6_endOfPiece_36 rfl (lv_at hl 1 rfl) ?_
        refine lv_if_eq (tgt := 49) (pc := 37) hx hb dX6_endOfPiece_37 (by decide) (fun c37 => ?_) (fun c37 => ?_)
        · replace h := it_t c37 h
          have jr := J49 (fX6_endOfPiece_b27 s0 n) K27h x2 x3 x4 _ _ ls h hP hD hS hl
          exact jr
        · replace h := it_f c37 h
          refine lv_aload_n (pc := 40) hx hb dX6_endOfPiece_40 rfl (lv_at hl 0 rfl) ?_
          refine lv_iload (pc := 41) hx hb dX6_endOfPiece_41 (lv_at hl 3 rfl) ?_
          obtain ⟨r43, hc43, h⟩ := b1_i h
          refine g_all (st1 := [.int r43]) (gr_V (n := 1) (rest := []) (pc := 43) hx hb hml hown hts (cX6_hasLetter_met l D c tb sa sv a0 x4 s0 _ hc43) gX6_endOfPiece_X6_hasLetter rfl rfl rfl (by decide +kernel) rfl ⟨Nat.le_of_ble_eq_true rfl, Nat.le_of_ble_eq_true rfl⟩ ⟨Nat.zero_le _, Nat.zero_le _⟩ 0 6 rfl rfl rfl xE_ok hP hD hK (xE_ok.tr hE hS (g_free hD hS hA)) hl.1 (Nat.le_of_ble_eq_true rfl) dX6_endOfPiece_43 rfl) hD hS hA rfl (fun H locs hP hD hS => ?_)
          refine lv_if_ne (tgt := 62) (pc := 46) hx hb dX6_endOfPiece_46 (by decide) (fun c46 => ?_) (fun c46 => ?_)
          · replace h := it_f c46 h
            have jr := J62 (fX6_endOfPiece_b27 s0 n) K27h x2 x3 x4 _ _ ls h hP hD hS hl
            exact jr
          · replace h := it_t c46 h
            have jr := J49 (fX6_endOfPiece_b27 s0 n) K27h x2 x3 x4 _ _ ls h hP hD hS hl
            exact jr
  refine lv_iload_n (pc := 0) hx hb dX6_endOfPiece_0 rfl (lv_at hl 1 rfl) ?_
  refine lv_aload_n (pc := 1) hx hb dX6_endOfPiece_1 rfl (lv_at hl 0 rfl) ?_
  refine va_get (D := D) (ci := 6) (v := .int (s0.1 1 0)) (C := RX6) (T := TX6) (N := 2) (pc := 2) hx hb hfX6 (fun _ h9 => h9) hown hK hP 0 rfl rfl 1 (by decide) lk0 (fun _ h9 => h9) rfl dX6_endOfPiece_2 ?_
  refine lv_icmp_lt (tgt := 10) (pc := 5) hx hb dX6_endOfPiece_5 (by decide) (fun c5 => ?_) (fun c5 => ?_)
  · replace h := it_t c5 h
    refine lv_aload_n (pc := 10) hx hb dX6_endOfPiece_10 rfl (lv_at hl 0 rfl) ?_
    refine lv_iload_n (pc := 11) hx hb dX6_endOfPiece_11 rfl (lv_at hl 1 rfl) ?_
    obtain ⟨r12, hc12, h⟩ := b1_i h
    refine g_all (st1 := [.int r12]) (gr_V (n := 1) (rest := []) (pc := 12) hx hb hml hown hts (cX6_hasLetter_met l D c tb sa sv a0 p0 s0 _ hc12) gX6_endOfPiece_X6_hasLetter rfl rfl rfl (by decide +kernel) rfl ⟨Nat.le_of_ble_eq_true rfl, Nat.le_of_ble_eq_true rfl⟩ ⟨Nat.zero_le _, Nat.zero_le _⟩ 0 6 rfl rfl rfl xE_ok hP hD hK (xE_ok.tr hE hS (g_free hD hS hA)) hl.1 (Nat.le_of_ble_eq_true rfl) dX6_endOfPiece_12 rfl) hD hS hA rfl (fun H locs hP hD hS => ?_)
    refine lv_istore_n (lv' := [(2, .int r12), (0, .ref (a0 0)), (1, .int p0)]) (pc := 15) hx hb dX6_endOfPiece_15 rfl hl (by decide) rfl (fun ls hl => ?_)
    refine lv_aload_n (pc := 16) hx hb dX6_endOfPiece_16 rfl (lv_at hl 1 rfl) ?_
    refine lv_iload_n (pc := 17) hx hb dX6_endOfPiece_17 rfl (lv_at hl 2 rfl) ?_
    obtain ⟨r18, hc18, h⟩ := b1_i h
    refine g_all (st1 := [.int r18]) (gr_V (n := 1) (rest := []) (pc := 18) hx hb hml hown hts (cX6_hasDigit_met l D c tb sa sv a0 p0 s0 _ hc18) gX6_endOfPiece_X6_hasDigit rfl rfl rfl (by decide +kernel) rfl ⟨Nat.le_of_ble_eq_true rfl, Nat.le_of_ble_eq_true rfl⟩ ⟨Nat.zero_le _, Nat.zero_le _⟩ 0 6 rfl rfl rfl xE_ok hP hD hK (xE_ok.tr hE hS (g_free hD hS hA)) hl.1 (Nat.le_of_ble_eq_true rfl) dX6_endOfPiece_18 rfl) hD hS hA rfl (fun H locs hP hD hS => ?_)
    refine lv_istore_n (lv' := [(3, .int r18), (2, .int r12), (0, .ref (a0 0)), (1, .int p0)]) (pc := 21) hx hb dX6_endOfPiece_21 rfl hl (by decide) rfl (fun ls hl => ?_)
    refine lv_iload_n (pc := 22) hx hb dX6_endOfPiece_22 rfl (lv_at hl 3 rfl) ?_
    refine lv_iconst (v := 1) (pc := 23) hx hb dX6_endOfPiece_23 (by decide) ?_
    refine lv_iadd (pc := 24) hx hb dX6_endOfPiece_24 ?_
    refine lv_topi (fun v4_25 ev4_25 => ?_)
    replace h := lt_e ev4_25 h
    refine lv_istore (lv' := [(4, .int v4_25), (3, .int r18), (2, .int r12), (0, .ref (a0 0)), (1, .int p0)]) (pc := 25) hx hb dX6_endOfPiece_25 hl (by decide) rfl (fun ls hl => ?_)
    have jr := J27 FU r12 r18 v4_25 _ _ ls h hP hD hS (lv_sub hl [3, 2, 1, 0] rfl)
    exact jr
  · replace h := it_f c5 h
    refine lv_iload_n (pc := 8) hx hb dX6_endOfPiece_8 rfl (lv_at hl 1 rfl) ?_
    have kr := KR p0  _ _ 9 ls h rfl hP hD hS dX6_endOfPiece_9
    exact kr
abbrev rmX2_nextPiece : Room := { frames := 2, cells := 0, slots := 0, locals := 45 }
set_option maxRecDepth 100000 in
set_option maxHeartbeats 40000000 in
theorem cX2_nextPiece_met (l : Launch) (D : va_G) (c : Nat → ClassId) (tb : Nat) (sa sv : Nat → Nat) (a0 : Nat → Nat) (a1 : Nat → Nat) (s0 : Mem) (s1 : Mem) (z0 : Mem) (h : fX2_nextPiece s0 s1 = some z0) : gM l yX2_nextPiece wsX2_nextPiece rmX2_nextPiece D (gY c) (xE tb sa sv) [.ref (a0 0), .ref (a1 0)] (wX2 a0 c s0 ++ wX6 a1 c s1) none (wX2 a0 c z0 ++ wX6 a1 c s1) := by
  unfold fX2_nextPiece at h
  refine gM.V (cc := cX2_nextPiece) (maxL := 2) (by decide) rfl (Nat.le_of_ble_eq_true rfl) ?_
  intro p e s m args below meth cd hx hb hml hown hts A hA ls hl hP hK hD hS hE Q KR0
  have hfX2 : ∀ w ∈ u_ws RX2 TX2 6, w.before args s = true := fun w hw => hts w (List.mem_cons_of_mem _ (List.mem_append_left _ (List.mem_append_right _ hw)))
  have hfX6 : ∀ w ∈ u_ws RX6 TX6 2, w.before args s = true := fun w hw => hts w (List.mem_cons_of_mem _ (List.mem_append_right _ hw))
  have lk0 := hts (.fieldLink RX2 9 "GlitchNets$GateText" "end" "I") (List.mem_of_getElem? (i := 1) rfl)
  have lk1 := hts (.fieldLink RX2 26 "GlitchNets$GateText" "start" "I") (List.mem_of_getElem? (i := 2) rfl)
  have lk2 := hts (.fieldLink RX2 49 "GlitchNets$Tape" "size" "I") (List.mem_of_getElem? (i := 3) rfl)
  have KR : ∀ (w0 : Mem) (H : Heap) (locs : List Loc) (pc : Nat) (ls : Array Slot), some w0 = some z0 → va_P D vwCl (wX2 a0 c w0 ++ wX6 a1 c s1) H → va_D A (wX2 a0 c w0 ++ wX6 a1 c s1) → va_S A s.heap H locs → decode cX2_nextPiece pc = .ok (.return_, 1) → W p l e rmX2_nextPiece s m args below meth cd H locs 0 0 Q (F0 m pc ls []) := by
    intro w0 H locs pc ls hr hP hD hS hd
    cases hr
    exact KR0 H locs pc ls hP hD hS hd
  have hl : lv_has ls 2 [(0, .ref (a0 0)), (1, .ref (a1 0))] := hl
  have J43 : ∀ (s0 : Mem) (H : Heap) (locs : List Loc) (ls : Array Slot), fX2_nextPiece_b43 s1 s0 = some z0 → va_P D vwCl (wX2 a0 c s0 ++ wX6 a1 c s1) H → va_D A (wX2 a0 c s0 ++ wX6 a1 c s1) → va_S A s.heap H locs → lv_has ls 2 [(0, .ref (a0 0)), (1, .ref (a1 0))] → W p l e rmX2_nextPiece s m args below meth cd H locs 0 0 Q (F0 m 43 ls []) := by
    intro s0 H locs ls h hP hD hS hl
    unfold fX2_nextPiece_b43 at h
    refine lv_aload_n (pc := 43) hx hb dX2_nextPiece_43 rfl (lv_at hl 0 rfl) ?_
    refine lv_aload_n (pc := 44) hx hb dX2_nextPiece_44 rfl (lv_at hl 1 rfl) ?_
    refine lv_aload_n (pc := 45) hx hb dX2_nextPiece_45 rfl (lv_at hl 0 rfl) ?_
    refine va_get (D := D) (ci := 2) (v := .int (s0.1 4 0)) (C := RX2) (T := TX2) (N := 6) (pc := 46) hx hb hfX2 (fun _ h9 => h9) hown hK hP 0 rfl rfl 4 (by decide) lk1 (fun _ h9 => h9) rfl dX2_nextPiece_46 ?_
    obtain ⟨r49, hc49, h⟩ := b1_i h
    have hPc := g_cutP (w0 := wX6 a1 c s1) hP [1, 2] rfl
    have hDc : va_D A (wX6 a1 c s1) := hD.sub [1, 2] (by decide) rfl
    have hFc := va_free (wc := wX6 a1 c s1) hD hS hA [1, 2] rfl
    refine g_sub (st1 := [.int r49, .ref (a0 0)]) (wr := wX2 a0 c s0) (wn := wX2 a0 c s0 ++ wX6 a1 c s1) (gr_V (n := 1) (rest := [.ref (a0 0)]) (pc := 49) hx hb hml hown hts (cX6_endOfPiece_met l D c tb sa sv a1 ((s0.1 4 0)) s1 _ hc49) gX2_nextPiece_X6_endOfPiece rfl rfl rfl (by decide +kernel) rfl ⟨Nat.le_of_ble_eq_true rfl, Nat.le_of_ble_eq_true rfl⟩ ⟨Nat.zero_le _, Nat.zero_le _⟩ 0 6 rfl rfl rfl xE_ok hPc hDc hK (xE_ok.tr hE hS hFc) hl.1 (Nat.le_of_ble_eq_true rfl) dX2_nextPiece_49 rfl) hP hD hS hA [1, 2] [0] [0, 1, 2] rfl rfl (by decide) (by decide) (by decide) rfl rfl (fun H locs hP hD hS => ?_)
    refine va_put (D := D) (ci := 2) (v := .int r49) (ty := .int) (C := RX2) (T := TX2) (N := 6) (pc := 52) hx hb hfX2 (fun _ h9 => h9) tyX2 tyX2_ok nmX2 hown hK hP hD hS 0 rfl rfl 5 (by decide) lk0 (fun _ h9 => h9) rfl (by decide +kernel) rfl rfl (Nat.le_of_ble_eq_true rfl) dX2_nextPiece_52 (fun H locs hP hD hS => ?_)
    have hP : va_P D vwCl (wX2 a0 c (mi s0 5 0 r49) ++ wX6 a1 c s1) H := hP
    have hD : va_D A (wX2 a0 c (mi s0 5 0 r49) ++ wX6 a1 c s1) := hD
    have kr := KR (mi s0 5 0 r49) _ _ 55 ls h hP hD hS dX2_nextPiece_55
    exact kr
  have J8 : ∀ (n : Nat) (s0 : Mem) (H : Heap) (locs : List Loc) (ls : Array Slot), fX2_nextPiece_b8 s1 n s0 = some z0 → va_P D vwCl (wX2 a0 c s0 ++ wX6 a1 c s1) H → va_D A (wX2 a0 c s0 ++ wX6 a1 c s1) → va_S A s.heap H locs → lv_has ls 2 [(0, .ref (a0 0)), (1, .ref (a1 0))] → W p l e rmX2_nextPiece s m args below meth cd H locs 0 0 Q (F0 m 8 ls []) := by
    intro n
    induction n with
    | zero =>
      intro s0 H locs ls h _ _ _ _
      cases (show (none : Option (Mem)) = some _ from h)
    | succ n K8h =>
      intro s0 H locs ls h hP hD hS hl
      rw [fX2_nextPiece_b8] at h
      refine lv_aload_n (pc := 8) hx hb dX2_nextPiece_8 rfl (lv_at hl 0 rfl) ?_
      refine va_get (D := D) (ci := 2) (v := .int (s0.1 4 0)) (C := RX2) (T := TX2) (N := 6) (pc := 9) hx hb hfX2 (fun _ h9 => h9) hown hK hP 0 rfl rfl 4 (by decide) lk1 (fun _ h9 => h9) rfl dX2_nextPiece_9 ?_
      refine lv_aload_n (pc := 12) hx hb dX2_nextPiece_12 rfl (lv_at hl 1 rfl) ?_
      refine va_get (D := D) (ci := 6) (v := .int (s1.1 1 0)) (C := RX6) (T := TX6) (N := 2) (pc := 13) hx hb hfX6 (fun _ h9 => h9) hown hK hP 1 rfl rfl 1 (by decide) lk2 (fun _ h9 => h9) rfl dX2_nextPiece_13 ?_
      refine lv_icmp_ge (tgt := 43) (pc := 16) hx hb dX2_nextPiece_16 (by decide) (fun c16 => ?_) (fun c16 => ?_)
      · replace h := it_t c16 h
        have jr := J43 s0 _ _ ls h hP hD hS hl
        exact jr
      · replace h := it_f c16 h
        refine lv_aload_n (pc := 19) hx hb dX2_nextPiece_19 rfl (lv_at hl 1 rfl) ?_
        refine lv_aload_n (pc := 20) hx hb dX2_nextPiece_20 rfl (lv_at hl 0 rfl) ?_
        refine va_get (D := D) (ci := 2) (v := .int (s0.1 4 0)) (C := RX2) (T := TX2) (N := 6) (pc := 21) hx hb hfX2 (fun _ h9 => h9) hown hK hP 0 rfl rfl 4 (by decide) lk1 (fun _ h9 => h9) rfl dX2_nextPiece_21 ?_
        obtain ⟨r24, hc24, h⟩ := b1_i h
        have hPc := g_cutP (w0 := wX6 a1 c s1) hP [1, 2] rfl
        have hDc : va_D A (wX6 a1 c s1) := hD.sub [1, 2] (by decide) rfl
        have hFc := va_free (wc := wX6 a1 c s1) hD hS hA [1, 2] rfl
        refine g_sub (st1 := [.int r24]) (wr := wX2 a0 c s0) (wn := wX2 a0 c s0 ++ wX6 a1 c s1) (gr_V (n := 1) (rest := []) (pc := 24) hx hb hml hown hts (cX6_hasBlank_met l D c tb sa sv a1 ((s0.1 4 0)) s1 _ hc24) gX2_nextPiece_X6_hasBlank rfl rfl rfl (by decide +kernel) rfl ⟨Nat.le_of_ble_eq_true rfl, Nat.le_of_ble_eq_true rfl⟩ ⟨Nat.zero_le _, Nat.zero_le _⟩ 0 6 rfl rfl rfl xE_ok hPc hDc hK (xE_ok.tr hE hS hFc) hl.1 (Nat.le_of_ble_eq_true rfl) dX2_nextPiece_24 rfl) hP hD hS hA [1, 2] [0] [0, 1, 2] rfl rfl (by decide) (by decide) (by decide) rfl rfl (fun H locs hP hD hS => ?_)
        refine lv_if_eq (tgt := 43) (pc := 27) hx hb dX2_nextPiece_27 (by decide) (fun c27 => ?_) (fun c27 => ?_)
        · replace h := it_t c27 h
          have jr := J43 s0 _ _ ls h hP hD hS hl
          exact jr
        · replace h := it_f c27 h
          refine lv_aload_n (pc := 30) hx hb dX2_nextPiece_30 rfl (lv_at hl 0 rfl) ?_
          refine lv_dup (pc := 31) hx hb dX2_nextPiece_31 rfl ?_
          refine va_get (D := D) (ci := 2) (v := .int (s0.1 4 0)) (C := RX2) (T := TX2) (N := 6) (pc := 32) hx hb hfX2 (fun _ h9 => h9) hown hK hP 0 rfl rfl 4 (by decide) lk1 (fun _ h9 => h9) rfl dX2_nextPiece_32 ?_
          refine lv_iconst (v := 1) (pc := 35) hx hb dX2_nextPiece_35 (by decide) ?_
          refine lv_iadd (pc := 36) hx hb dX2_nextPiece_36 ?_
          refine va_put (D := D) (ci := 2) (v := .int ((s0.1 4 0) + (1 : Int32))) (ty := .int) (C := RX2) (T := TX2) (N := 6) (pc := 37) hx hb hfX2 (fun _ h9 => h9) tyX2 tyX2_ok nmX2 hown hK hP hD hS 0 rfl rfl 4 (by decide) lk1 (fun _ h9 => h9) rfl (by decide +kernel) rfl rfl (Nat.le_of_ble_eq_true rfl) dX2_nextPiece_37 (fun H locs hP hD hS => ?_)
          have hP : va_P D vwCl (wX2 a0 c (mi s0 4 0 ((s0.1 4 0) + (1 : Int32))) ++ wX6 a1 c s1) H := hP
          have hD : va_D A (wX2 a0 c (mi s0 4 0 ((s0.1 4 0) + (1 : Int32))) ++ wX6 a1 c s1) := hD
          refine lv_goto (tgt := 8) (pc := 40) hx hb dX2_nextPiece_40 (by decide) ?_
          have jr := K8h ((mi s0 4 0 ((s0.1 4 0) + (1 : Int32)))) _ _ ls h hP hD hS hl
          exact jr
  refine lv_aload_n (pc := 0) hx hb dX2_nextPiece_0 rfl (lv_at hl 0 rfl) ?_
  refine lv_aload_n (pc := 1) hx hb dX2_nextPiece_1 rfl (lv_at hl 0 rfl) ?_
  refine va_get (D := D) (ci := 2) (v := .int (s0.1 5 0)) (C := RX2) (T := TX2) (N := 6) (pc := 2) hx hb hfX2 (fun _ h9 => h9) hown hK hP 0 rfl rfl 5 (by decide) lk0 (fun _ h9 => h9) rfl dX2_nextPiece_2 ?_
  refine va_put (D := D) (ci := 2) (v := .int (s0.1 5 0)) (ty := .int) (C := RX2) (T := TX2) (N := 6) (pc := 5) hx hb hfX2 (fun _ h9 => h9) tyX2 tyX2_ok nmX2 hown hK hP hD hS 0 rfl rfl 4 (by decide) lk1 (fun _ h9 => h9) rfl (by decide +kernel) rfl rfl (Nat.le_of_ble_eq_true rfl) dX2_nextPiece_5 (fun H locs hP hD hS => ?_)
  have hP : va_P D vwCl (wX2 a0 c (mi s0 4 0 (s0.1 5 0)) ++ wX6 a1 c s1) H := hP
  have hD : va_D A (wX2 a0 c (mi s0 4 0 (s0.1 5 0)) ++ wX6 a1 c s1) := hD
  have jr := J8 FU ((mi s0 4 0 (s0.1 5 0))) _ _ ls h hP hD hS hl
  exact jr
abbrev rmX8_wordOf : Room := { frames := 0, cells := 0, slots := 0, locals := 0 }
set_option maxRecDepth 100000 in
set_option maxHeartbeats 40000000 in
theorem cX8_wordOf_met (l : Launch) (D : va_G) (c : Nat → ClassId) (tb : Nat) (sa sv : Nat → Nat)  (p0 : Int32) (r0 : Nat) (h : fX8_wordOf p0 = some r0) : gM l yX8_wordOf wsX8_wordOf rmX8_wordOf D (gY c) (xE tb sa sv) [.int p0] ([]) (some (.ref (sa r0))) ([]) := by
  unfold fX8_wordOf at h
  refine gM.A (cc := cX8_wordOf) (maxL := 1) (by decide) rfl (Nat.le_of_ble_eq_true rfl) (Or.inl ⟨_, rfl⟩) ?_
  intro p e s m args below meth cd hx hb hml hown hts A hA ls hl hP hK hD hS hE Q KR0
  have KR : ∀ (v : Nat)  (H : Heap) (locs : List Loc) (pc : Nat) (ls : Array Slot), some v = some r0 → va_P D vwCl ([]) H → va_D A ([]) → va_S A s.heap H locs → decode cX8_wordOf pc = .ok (.areturn, 1) → W p l e rmX8_wordOf s m args below meth cd H locs 0 0 Q (F0 m pc ls [.ref (sa v)]) := by
    intro v  H locs pc ls hr hP hD hS hd
    cases hr
    exact KR0 _ H locs pc ls rfl hP hD hS hd
  have hl : lv_has ls 1 [(0, .int p0)] := hl
  refine lv_iload_n (pc := 0) hx hb dX8_wordOf_0 rfl (lv_at hl 0 rfl) ?_
  by_cases c1_0 : p0 = (0 : Int32)
  · replace h := it_t c1_0 h
    refine lv_tableIn (tgt := 36) (off := 35) (pc := 1) hx hb dX8_wordOf_1 (by rw [c1_0]; decide) (by rw [c1_0]; decide) (by rw [c1_0]; rfl) (by decide) ?_
    refine g_ldcSW (pc := 36) hx hb hown (xE_str0 hE) dX8_wordOf_36 ?_
    have kr := KR 0  _ _ 39 ls h hP hD hS dX8_wordOf_39
    exact kr
  · replace h := it_f c1_0 h
    by_cases c1_1 : p0 = (1 : Int32)
    · replace h := it_t c1_1 h
      refine lv_tableIn (tgt := 40) (off := 39) (pc := 1) hx hb dX8_wordOf_1 (by rw [c1_1]; decide) (by rw [c1_1]; decide) (by rw [c1_1]; rfl) (by decide) ?_
      refine g_ldcSW (pc := 40) hx hb hown (xE_str1 hE) dX8_wordOf_40 ?_
      have kr := KR 1  _ _ 43 ls h hP hD hS dX8_wordOf_43
      exact kr
    · replace h := it_f c1_1 h
      by_cases c1_2 : p0 = (2 : Int32)
      · replace h := it_t c1_2 h
        refine lv_tableIn (tgt := 44) (off := 43) (pc := 1) hx hb dX8_wordOf_1 (by rw [c1_2]; decide) (by rw [c1_2]; decide) (by rw [c1_2]; rfl) (by decide) ?_
        refine g_ldcSW (pc := 44) hx hb hown (xE_str2 hE) dX8_wordOf_44 ?_
        have kr := KR 2  _ _ 47 ls h hP hD hS dX8_wordOf_47
        exact kr
      · replace h := it_f c1_2 h
        by_cases c1_3 : p0 = (3 : Int32)
        · replace h := it_t c1_3 h
          refine lv_tableIn (tgt := 48) (off := 47) (pc := 1) hx hb dX8_wordOf_1 (by rw [c1_3]; decide) (by rw [c1_3]; decide) (by rw [c1_3]; rfl) (by decide) ?_
          refine g_ldcSW (pc := 48) hx hb hown (xE_str3 hE) dX8_wordOf_48 ?_
          have kr := KR 3  _ _ 51 ls h hP hD hS dX8_wordOf_51
          exact kr
        · replace h := it_f c1_3 h
          by_cases c1_4 : p0 = (4 : Int32)
          · replace h := it_t c1_4 h
            refine lv_tableIn (tgt := 52) (off := 51) (pc := 1) hx hb dX8_wordOf_1 (by rw [c1_4]; decide) (by rw [c1_4]; decide) (by rw [c1_4]; rfl) (by decide) ?_
            refine g_ldcSW (pc := 52) hx hb hown (xE_str4 hE) dX8_wordOf_52 ?_
            have kr := KR 4  _ _ 55 ls h hP hD hS dX8_wordOf_55
            exact kr
          · replace h := it_f c1_4 h
            have hsw : (p0).toInt < 0 ∨ 4 < (p0).toInt := by
              have z0 := lv_neT c1_0 (a := 0) (by decide)
              have z1 := lv_neT c1_1 (a := 1) (by decide)
              have z2 := lv_neT c1_2 (a := 2) (by decide)
              have z3 := lv_neT c1_3 (a := 3) (by decide)
              have z4 := lv_neT c1_4 (a := 4) (by decide)
              omega
            refine lv_tableOut (tgt := 56) (pc := 1) hx hb dX8_wordOf_1 hsw (by decide) ?_
            refine g_ldcSW (pc := 56) hx hb hown (xE_str5 hE) dX8_wordOf_56 ?_
            have kr := KR 5  _ _ 59 ls h hP hD hS dX8_wordOf_59
            exact kr
abbrev rmJ0_coder_7d493 : Room := { frames := 0, cells := 0, slots := 0, locals := 0 }
set_option maxRecDepth 100000 in
set_option maxHeartbeats 40000000 in
theorem cJ0_coder_7d493_met (l : Launch) (D : va_G) (c : Nat → ClassId) (tb : Nat) (sa sv : Nat → Nat)  (q : Nat) (hq : q < 6) (r0 : Int32) (h : fJ0_coder_7d493 q = some r0) : gM l yJ0_coder_7d493 wsJ0_coder_7d493 rmJ0_coder_7d493 D (gY c) (xE tb sa sv) [.ref (sa q)] ([]) (some (.int r0)) ([]) := by
  unfold fJ0_coder_7d493 at h
  refine gM.I (cc := cJ0_coder_7d493) (maxL := 1) (by decide) rfl (Nat.le_of_ble_eq_true rfl) ?_
  intro p e s m args below meth cd hx hb hml hown hts A hA ls hl hP hK hD hS hE Q KR0
  have lk0 := hts (.fieldLink RJ0 38 "java/lang/String" "COMPACT_STRINGS" "Z") (List.mem_of_getElem? (i := 1) rfl)
  have lk1 := hts (.fieldLink RJ0 15 "java/lang/String" "coder" "B") (List.mem_of_getElem? (i := 2) rfl)
  have KR : ∀ (v : Int32)  (H : Heap) (locs : List Loc) (pc : Nat) (ls : Array Slot), some v = some r0 → narrow .byte (.int v) = .int v → va_P D vwCl ([]) H → va_D A ([]) → va_S A s.heap H locs → decode cJ0_coder_7d493 pc = .ok (.ireturn, 1) → W p l e rmJ0_coder_7d493 s m args below meth cd H locs 0 0 Q (F0 m pc ls [.int v]) := by
    intro v  H locs pc ls hr hn hP hD hS hd
    cases hr
    exact KR0 _ H locs pc ls rfl hn hP hD hS hd
  have hl : lv_has ls 1 [(0, .ref (sa q))] := hl
  refine va_gets (pc := 0) hx hb (xE_cs hE) hS hown lk0 (fun _ h9 => h9) dJ0_coder_7d493_0 ?_
  refine lv_if_eq (tgt := 13) (pc := 3) hx hb dJ0_coder_7d493_3 (by decide) (fun c3 => ?_) (fun c3 => ?_)
  · replace h := it_t c3 h
    refine lv_iconst (v := 1) (pc := 13) hx hb dJ0_coder_7d493_13 (by decide) ?_
    obtain ⟨hz14, h⟩ := ckP_i h
    have kr := KR (1 : Int32)  _ _ 14 ls h (g_nar (of_decide_eq_true hz14) rfl) hP hD hS dJ0_coder_7d493_14
    exact kr
  · replace h := it_f c3 h
    refine lv_aload_n (pc := 6) hx hb dJ0_coder_7d493_6 rfl (lv_at hl 0 rfl) ?_
    refine vk_getf (pc := 7) hx hb (xE_coder hE hq) hS hown lk1 (fun _ h9 => h9) dJ0_coder_7d493_7 ?_
    refine lv_goto (tgt := 14) (pc := 10) hx hb dJ0_coder_7d493_10 (by decide) ?_
    obtain ⟨hz14, h⟩ := ckP_i h
    have kr := KR (0 : Int32)  _ _ 14 ls h (g_nar (of_decide_eq_true hz14) rfl) hP hD hS dJ0_coder_7d493_14
    exact kr
abbrev rmJ0_length_8abf5 : Room := { frames := 1, cells := 0, slots := 0, locals := 20 }
set_option maxRecDepth 100000 in
set_option maxHeartbeats 40000000 in
theorem cJ0_length_8abf5_met (l : Launch) (D : va_G) (c : Nat → ClassId) (tb : Nat) (sa sv : Nat → Nat)  (q : Nat) (hq : q < 6) (r0 : Int32) (h : fJ0_length_8abf5 q = some r0) : gM l yJ0_length_8abf5 wsJ0_length_8abf5 rmJ0_length_8abf5 D (gY c) (xE tb sa sv) [.ref (sa q)] ([]) (some (.int r0)) ([]) := by
  unfold fJ0_length_8abf5 at h
  refine gM.I (cc := cJ0_length_8abf5) (maxL := 1) (by decide) rfl (Nat.le_of_ble_eq_true rfl) ?_
  intro p e s m args below meth cd hx hb hml hown hts A hA ls hl hP hK hD hS hE Q KR0
  have lk0 := hts (.fieldLink RJ0 9 "java/lang/String" "value" "[B") (List.mem_of_getElem? (i := 1) rfl)
  have KR : ∀ (v : Int32)  (H : Heap) (locs : List Loc) (pc : Nat) (ls : Array Slot), some v = some r0 → narrow .int (.int v) = .int v → va_P D vwCl ([]) H → va_D A ([]) → va_S A s.heap H locs → decode cJ0_length_8abf5 pc = .ok (.ireturn, 1) → W p l e rmJ0_length_8abf5 s m args below meth cd H locs 0 0 Q (F0 m pc ls [.int v]) := by
    intro v  H locs pc ls hr hn hP hD hS hd
    cases hr
    exact KR0 _ H locs pc ls rfl hn hP hD hS hd
  have hl : lv_has ls 1 [(0, .ref (sa q))] := hl
  refine lv_aload_n (pc := 0) hx hb dJ0_length_8abf5_0 rfl (lv_at hl 0 rfl) ?_
  refine vk_getf (pc := 1) hx hb (xE_value hE hq) hS hown lk0 (fun _ h9 => h9) dJ0_length_8abf5_1 ?_
  refine va_tlen (v := (nI (slen q))) (pc := 4) hx hb (xE_bytes hE hq) hS rfl dJ0_length_8abf5_4 ?_
  refine lv_aload_n (pc := 5) hx hb dJ0_length_8abf5_5 rfl (lv_at hl 0 rfl) ?_
  obtain ⟨r6, hc6, h⟩ := b1_i h
  refine g_none (st1 := [.int r6, .int (nI (slen q))]) (gr_Vr (n := 0) (rest := [.int (nI (slen q))]) (pc := 6) hx hb hml hown hts (cJ0_coder_7d493_met l D c tb sa sv q hq _ hc6) gJ0_length_8abf5_J0_coder_7d493 rfl rfl rfl (by decide +kernel) rfl ⟨Nat.le_of_ble_eq_true rfl, Nat.le_of_ble_eq_true rfl⟩ ⟨Nat.zero_le _, Nat.zero_le _⟩ (vk_recv (xE_vk hE) hq hS) xE_ok g_P0 (g_D0 (A := A)) hK (xE_ok.tr hE hS (g_free0 hS hA)) hl.1 (Nat.le_of_ble_eq_true rfl) dJ0_length_8abf5_6 rfl) hP hS hA rfl (fun H locs hP hS => ?_)
  refine lv_ishr (pc := 9) hx hb dJ0_length_8abf5_9 ?_
  have kr := KR ((nI (slen q)) >>> (r6 &&& 31))  _ _ 10 ls h rfl hP hD hS dJ0_length_8abf5_10
  exact kr
abbrev rmJ0_isLatin1_aae02 : Room := { frames := 0, cells := 0, slots := 0, locals := 0 }
set_option maxRecDepth 100000 in
set_option maxHeartbeats 40000000 in
theorem cJ0_isLatin1_aae02_met (l : Launch) (D : va_G) (c : Nat → ClassId) (tb : Nat) (sa sv : Nat → Nat)  (q : Nat) (hq : q < 6) (r0 : Int32) (h : fJ0_isLatin1_aae02 q = some r0) : gM l yJ0_isLatin1_aae02 wsJ0_isLatin1_aae02 rmJ0_isLatin1_aae02 D (gY c) (xE tb sa sv) [.ref (sa q)] ([]) (some (.int r0)) ([]) := by
  unfold fJ0_isLatin1_aae02 at h
  refine gM.I (cc := cJ0_isLatin1_aae02) (maxL := 1) (by decide) rfl (Nat.le_of_ble_eq_true rfl) ?_
  intro p e s m args below meth cd hx hb hml hown hts A hA ls hl hP hK hD hS hE Q KR0
  have lk0 := hts (.fieldLink RJ0 38 "java/lang/String" "COMPACT_STRINGS" "Z") (List.mem_of_getElem? (i := 1) rfl)
  have lk1 := hts (.fieldLink RJ0 15 "java/lang/String" "coder" "B") (List.mem_of_getElem? (i := 2) rfl)
  have KR : ∀ (v : Int32)  (H : Heap) (locs : List Loc) (pc : Nat) (ls : Array Slot), some v = some r0 → narrow .boolean (.int v) = .int v → va_P D vwCl ([]) H → va_D A ([]) → va_S A s.heap H locs → decode cJ0_isLatin1_aae02 pc = .ok (.ireturn, 1) → W p l e rmJ0_isLatin1_aae02 s m args below meth cd H locs 0 0 Q (F0 m pc ls [.int v]) := by
    intro v  H locs pc ls hr hn hP hD hS hd
    cases hr
    exact KR0 _ H locs pc ls rfl hn hP hD hS hd
  have hl : lv_has ls 1 [(0, .ref (sa q))] := hl
  refine va_gets (pc := 0) hx hb (xE_cs hE) hS hown lk0 (fun _ h9 => h9) dJ0_isLatin1_aae02_0 ?_
  refine lv_if_eq (tgt := 17) (pc := 3) hx hb dJ0_isLatin1_aae02_3 (by decide) (fun c3 => ?_) (fun c3 => ?_)
  · replace h := it_t c3 h
    refine lv_iconst (v := 0) (pc := 17) hx hb dJ0_isLatin1_aae02_17 (by decide) ?_
    have kr := KR (0 : Int32)  _ _ 18 ls h rfl hP hD hS dJ0_isLatin1_aae02_18
    exact kr
  · replace h := it_f c3 h
    refine lv_aload_n (pc := 6) hx hb dJ0_isLatin1_aae02_6 rfl (lv_at hl 0 rfl) ?_
    refine vk_getf (pc := 7) hx hb (xE_coder hE hq) hS hown lk1 (fun _ h9 => h9) dJ0_isLatin1_aae02_7 ?_
    refine lv_if_ne (tgt := 17) (pc := 10) hx hb dJ0_isLatin1_aae02_10 (by decide) (fun c10 => ?_) (fun c10 => ?_)
    · replace h := it_f c10 h
      refine lv_iconst (v := 0) (pc := 17) hx hb dJ0_isLatin1_aae02_17 (by decide) ?_
      have kr := KR (0 : Int32)  _ _ 18 ls h rfl hP hD hS dJ0_isLatin1_aae02_18
      exact kr
    · replace h := it_t c10 h
      refine lv_iconst (v := 1) (pc := 13) hx hb dJ0_isLatin1_aae02_13 (by decide) ?_
      refine lv_goto (tgt := 18) (pc := 14) hx hb dJ0_isLatin1_aae02_14 (by decide) ?_
      have kr := KR (1 : Int32)  _ _ 18 ls h rfl hP hD hS dJ0_isLatin1_aae02_18
      exact kr
abbrev rmJ1_charAt_3b067 : Room := { frames := 2, cells := 0, slots := 0, locals := 81 }
set_option maxRecDepth 100000 in
set_option maxHeartbeats 40000000 in
theorem cJ1_charAt_3b067_met (l : Launch) (D : va_G) (c : Nat → ClassId) (tb : Nat) (sa sv : Nat → Nat)  (p0 : Nat) (p1 : Int32) (hq : p0 < 6) (r0 : Int32) (h : fJ1_charAt_3b067 p0 p1 = some r0) : gM l yJ1_charAt_3b067 wsJ1_charAt_3b067 rmJ1_charAt_3b067 D (gY c) (xE tb sa sv) [.ref (sv p0), .int p1] ([]) (some (.int r0)) ([]) := by
  unfold fJ1_charAt_3b067 at h
  refine gM.I (cc := cJ1_charAt_3b067) (maxL := 2) (by decide) rfl (Nat.le_of_ble_eq_true rfl) ?_
  intro p e s m args below meth cd hx hb hml hown hts A hA ls hl hP hK hD hS hE Q KR0
  have KR : ∀ (v : Int32)  (H : Heap) (locs : List Loc) (pc : Nat) (ls : Array Slot), some v = some r0 → narrow .char (.int v) = .int v → va_P D vwCl ([]) H → va_D A ([]) → va_S A s.heap H locs → decode cJ1_charAt_3b067 pc = .ok (.ireturn, 1) → W p l e rmJ1_charAt_3b067 s m args below meth cd H locs 0 0 Q (F0 m pc ls [.int v]) := by
    intro v  H locs pc ls hr hn hP hD hS hd
    cases hr
    exact KR0 _ H locs pc ls rfl hn hP hD hS hd
  have hl : lv_has ls 2 [(0, .ref (sv p0)), (1, .int p1)] := hl
  refine lv_iload_n (pc := 0) hx hb dJ1_charAt_3b067_0 rfl (lv_at hl 1 rfl) ?_
  refine lv_aload_n (pc := 1) hx hb dJ1_charAt_3b067_1 rfl (lv_at hl 0 rfl) ?_
  refine va_tlen (v := (nI (slen p0))) (pc := 2) hx hb (xE_bytes hE hq) hS rfl dJ1_charAt_3b067_2 ?_
  obtain ⟨u3, hc3, h⟩ := b1_i h
  refine g_none (st1 := []) (gr_S (n := 2) (rest := []) (pc := 3) hx hb hml hown hts (cJ0_checkIndex_df160_met l D c tb sa sv p1 ((nI (slen p0))) hc3) gJ1_charAt_3b067_J0_checkIndex_df160 rfl rfl rfl (by decide +kernel) rfl ⟨Nat.le_of_ble_eq_true rfl, Nat.le_of_ble_eq_true rfl⟩ ⟨Nat.zero_le _, Nat.zero_le _⟩ xE_ok g_P0 (g_D0 (A := A)) hK (xE_ok.tr hE hS (g_free0 hS hA)) hl.1 (Nat.le_of_ble_eq_true rfl) dJ1_charAt_3b067_3 rfl) hP hS hA rfl (fun H locs hP hS => ?_)
  refine lv_aload_n (pc := 6) hx hb dJ1_charAt_3b067_6 rfl (lv_at hl 0 rfl) ?_
  refine lv_iload_n (pc := 7) hx hb dJ1_charAt_3b067_7 rfl (lv_at hl 1 rfl) ?_
  obtain ⟨hk8, h⟩ := ckI_i h
  refine va_tb (v := .int (sch p0 (p1).toNatClampNeg)) (pc := 8) hx hb (xE_bytes hE hq) hS hk8 rfl dJ1_charAt_3b067_8 ?_
  refine lv_sipush (v := 255) (pc := 9) hx hb dJ1_charAt_3b067_9 (by decide) ?_
  refine lv_iand (pc := 12) hx hb dJ1_charAt_3b067_12 ?_
  refine lv_i2c (v := (((((sch p0 (p1).toNatClampNeg) &&& (255 : Int32))).toUInt32 % 65536).toInt32)) (pc := 13) hx hb dJ1_charAt_3b067_13 rfl ?_
  obtain ⟨hz14, h⟩ := ckP_i h
  have kr := KR (((((sch p0 (p1).toNatClampNeg) &&& (255 : Int32))).toUInt32 % 65536).toInt32)  _ _ 14 ls h (g_nar (of_decide_eq_true hz14) rfl) hP hD hS dJ1_charAt_3b067_14
  exact kr
abbrev rmJ0_charAt_5068e : Room := { frames := 3, cells := 0, slots := 0, locals := 102 }
set_option maxRecDepth 100000 in
set_option maxHeartbeats 40000000 in
theorem cJ0_charAt_5068e_met (l : Launch) (D : va_G) (c : Nat → ClassId) (tb : Nat) (sa sv : Nat → Nat)  (q : Nat) (hq : q < 6) (p0 : Int32) (r0 : Int32) (h : fJ0_charAt_5068e q p0 = some r0) : gM l yJ0_charAt_5068e wsJ0_charAt_5068e rmJ0_charAt_5068e D (gY c) (xE tb sa sv) [.ref (sa q), .int p0] ([]) (some (.int r0)) ([]) := by
  unfold fJ0_charAt_5068e at h
  refine gM.I (cc := cJ0_charAt_5068e) (maxL := 2) (by decide) rfl (Nat.le_of_ble_eq_true rfl) ?_
  intro p e s m args below meth cd hx hb hml hown hts A hA ls hl hP hK hD hS hE Q KR0
  have lk0 := hts (.fieldLink RJ0 9 "java/lang/String" "value" "[B") (List.mem_of_getElem? (i := 1) rfl)
  have KR : ∀ (v : Int32)  (H : Heap) (locs : List Loc) (pc : Nat) (ls : Array Slot), some v = some r0 → narrow .char (.int v) = .int v → va_P D vwCl ([]) H → va_D A ([]) → va_S A s.heap H locs → decode cJ0_charAt_5068e pc = .ok (.ireturn, 1) → W p l e rmJ0_charAt_5068e s m args below meth cd H locs 0 0 Q (F0 m pc ls [.int v]) := by
    intro v  H locs pc ls hr hn hP hD hS hd
    cases hr
    exact KR0 _ H locs pc ls rfl hn hP hD hS hd
  have hl : lv_has ls 2 [(0, .ref (sa q)), (1, .int p0)] := hl
  refine lv_aload_n (pc := 0) hx hb dJ0_charAt_5068e_0 rfl (lv_at hl 0 rfl) ?_
  obtain ⟨r1, hc1, h⟩ := b1_i h
  refine g_none (st1 := [.int r1]) (gr_Vr (n := 0) (rest := []) (pc := 1) hx hb hml hown hts (cJ0_isLatin1_aae02_met l D c tb sa sv q hq _ hc1) gJ0_charAt_5068e_J0_isLatin1_aae02 rfl rfl rfl (by decide +kernel) rfl ⟨Nat.le_of_ble_eq_true rfl, Nat.le_of_ble_eq_true rfl⟩ ⟨Nat.zero_le _, Nat.zero_le _⟩ (vk_recv (xE_vk hE) hq hS) xE_ok g_P0 (g_D0 (A := A)) hK (xE_ok.tr hE hS (g_free0 hS hA)) hl.1 (Nat.le_of_ble_eq_true rfl) dJ0_charAt_5068e_1 rfl) hP hS hA rfl (fun H locs hP hS => ?_)
  refine lv_if_eq (tgt := 16) (pc := 4) hx hb dJ0_charAt_5068e_4 (by decide) (fun c4 => ?_) (fun c4 => ?_)
  · replace h := it_t c4 h
    refine lv_aload_n (pc := 16) hx hb dJ0_charAt_5068e_16 rfl (lv_at hl 0 rfl) ?_
    refine vk_getf (pc := 17) hx hb (xE_value hE hq) hS hown lk0 (fun _ h9 => h9) dJ0_charAt_5068e_17 ?_
    refine lv_iload_n (pc := 20) hx hb dJ0_charAt_5068e_20 rfl (lv_at hl 1 rfl) ?_
    cases h
  · replace h := it_f c4 h
    refine lv_aload_n (pc := 7) hx hb dJ0_charAt_5068e_7 rfl (lv_at hl 0 rfl) ?_
    refine vk_getf (pc := 8) hx hb (xE_value hE hq) hS hown lk0 (fun _ h9 => h9) dJ0_charAt_5068e_8 ?_
    refine lv_iload_n (pc := 11) hx hb dJ0_charAt_5068e_11 rfl (lv_at hl 1 rfl) ?_
    obtain ⟨r12, hc12, h⟩ := b1_i h
    refine g_none (st1 := [.int r12]) (gr_S (n := 2) (rest := []) (pc := 12) hx hb hml hown hts (cJ1_charAt_3b067_met l D c tb sa sv q p0 hq _ hc12) gJ0_charAt_5068e_J1_charAt_3b067 rfl rfl rfl (by decide +kernel) rfl ⟨Nat.le_of_ble_eq_true rfl, Nat.le_of_ble_eq_true rfl⟩ ⟨Nat.zero_le _, Nat.zero_le _⟩ xE_ok g_P0 (g_D0 (A := A)) hK (xE_ok.tr hE hS (g_free0 hS hA)) hl.1 (Nat.le_of_ble_eq_true rfl) dJ0_charAt_5068e_12 rfl) hP hS hA rfl (fun H locs hP hS => ?_)
    obtain ⟨hz15, h⟩ := ckP_i h
    have kr := KR r12  _ _ 15 ls h (g_nar (of_decide_eq_true hz15) rfl) hP hD hS dJ0_charAt_5068e_15
    exact kr
abbrev rmX6_spells : Room := { frames := 4, cells := 0, slots := 0, locals := 123 }
set_option maxRecDepth 100000 in
set_option maxHeartbeats 40000000 in
theorem cX6_spells_met (l : Launch) (D : va_G) (c : Nat → ClassId) (tb : Nat) (sa sv : Nat → Nat) (a0 : Nat → Nat) (p0 : Int32) (p1 : Int32) (p2 : Nat) (hq : p2 < 6) (s0 : Mem) (r0 : Int32) (h : fX6_spells p0 p1 p2 s0 = some r0) : gM l yX6_spells wsX6_spells rmX6_spells D (gY c) (xE tb sa sv) [.ref (a0 0), .int p0, .int p1, .ref (sa p2)] (wX6 a0 c s0) (some (.int r0)) (wX6 a0 c s0) := by
  unfold fX6_spells at h
  refine gM.I (cc := cX6_spells) (maxL := 5) (by decide) rfl (Nat.le_of_ble_eq_true rfl) ?_
  intro p e s m args below meth cd hx hb hml hown hts A hA ls hl hP hK hD hS hE Q KR0
  have hfX6 : ∀ w ∈ u_ws RX6 TX6 2, w.before args s = true := fun w hw => hts w (List.mem_cons_of_mem _ (List.mem_append_right _ hw))
  have lk0 := hts (.fieldLink RX6 9 "GlitchNets$Tape" "bytes" "[I") (List.mem_of_getElem? (i := 1) rfl)
  have KR : ∀ (v : Int32)  (H : Heap) (locs : List Loc) (pc : Nat) (ls : Array Slot), some v = some r0 → narrow .boolean (.int v) = .int v → va_P D vwCl (wX6 a0 c s0) H → va_D A (wX6 a0 c s0) → va_S A s.heap H locs → decode cX6_spells pc = .ok (.ireturn, 1) → W p l e rmX6_spells s m args below meth cd H locs 0 0 Q (F0 m pc ls [.int v]) := by
    intro v  H locs pc ls hr hn hP hD hS hd
    cases hr
    exact KR0 _ H locs pc ls rfl hn hP hD hS hd
  have hl : lv_has ls 5 [(0, .ref (a0 0)), (1, .int p0), (2, .int p1), (3, .ref (sa p2))] := hl
  have J15 : ∀ (n : Nat) (x1 : Int32) (x4 : Int32) (H : Heap) (locs : List Loc) (ls : Array Slot), fX6_spells_b15 p2 s0 n x1 x4 = some r0 → va_P D vwCl (wX6 a0 c s0) H → va_D A (wX6 a0 c s0) → va_S A s.heap H locs → lv_has ls 5 [(0, .ref (a0 0)), (1, .int x1), (3, .ref (sa p2)), (4, .int x4)] → W p l e rmX6_spells s m args below meth cd H locs 0 0 Q (F0 m 15 ls []) := by
    intro n
    induction n with
    | zero =>
      intro x1 x4 H locs ls h _ _ _ _
      cases (show (none : Option (Int32)) = some _ from h)
    | succ n K15h =>
      intro x1 x4 H locs ls h hP hD hS hl
      rw [fX6_spells_b15] at h
      refine lv_iload (pc := 15) hx hb dX6_spells_15 (lv_at hl 3 rfl) ?_
      refine lv_aload_n (pc := 17) hx hb dX6_spells_17 rfl (lv_at hl 2 rfl) ?_
      obtain ⟨r18, hc18, h⟩ := b1_i h
      refine g_none (st1 := [.int r18, .int x4]) (gr_Vr (n := 0) (rest := [.int x4]) (pc := 18) hx hb hml hown hts (cJ0_length_8abf5_met l D c tb sa sv p2 hq _ hc18) gX6_spells_J0_length_8abf5 rfl rfl rfl (by decide +kernel) rfl ⟨Nat.le_of_ble_eq_true rfl, Nat.le_of_ble_eq_true rfl⟩ ⟨Nat.zero_le _, Nat.zero_le _⟩ (vk_recv (xE_vk hE) hq hS) xE_ok g_P0 (g_D0 (A := A)) hK (xE_ok.tr hE hS (g_free0 hS hA)) hl.1 (Nat.le_of_ble_eq_true rfl) dX6_spells_18 rfl) hP hS hA rfl (fun H locs hP hS => ?_)
      refine lv_icmp_ge (tgt := 50) (pc := 21) hx hb dX6_spells_21 (by decide) (fun c21 => ?_) (fun c21 => ?_)
      · replace h := it_t c21 h
        refine lv_iconst (v := 1) (pc := 50) hx hb dX6_spells_50 (by decide) ?_
        have kr := KR (1 : Int32)  _ _ 51 ls h rfl hP hD hS dX6_spells_51
        exact kr
      · replace h := it_f c21 h
        refine lv_aload_n (pc := 24) hx hb dX6_spells_24 rfl (lv_at hl 0 rfl) ?_
        refine va_get (D := D) (ci := 6) (v := .ref (a0 1)) (C := RX6) (T := TX6) (N := 2) (pc := 25) hx hb hfX6 (fun _ h9 => h9) hown hK hP 0 rfl rfl 0 (by decide) lk0 (fun _ h9 => h9) rfl dX6_spells_25 ?_
        refine lv_iload_n (pc := 28) hx hb dX6_spells_28 rfl (lv_at hl 1 rfl) ?_
        refine lv_iload (pc := 29) hx hb dX6_spells_29 (lv_at hl 3 rfl) ?_
        refine lv_iadd (pc := 31) hx hb dX6_spells_31 ?_
        obtain ⟨hk32, h⟩ := ckI_i h
        refine va_iald (D := D) (f := (s0.1 0)) (pc := 32) hx hb hK hP 1 0 rfl rfl hk32 dX6_spells_32 ?_
        refine lv_aload_n (pc := 33) hx hb dX6_spells_33 rfl (lv_at hl 2 rfl) ?_
        refine lv_iload (pc := 34) hx hb dX6_spells_34 (lv_at hl 3 rfl) ?_
        obtain ⟨r36, hc36, h⟩ := b1_i h
        refine g_none (st1 := [.int r36, .int ((s0.1 0) ((x1 + x4)).toNatClampNeg)]) (gr_Vr (n := 1) (rest := [.int ((s0.1 0) ((x1 + x4)).toNatClampNeg)]) (pc := 36) hx hb hml hown hts (cJ0_charAt_5068e_met l D c tb sa sv p2 hq x4 _ hc36) gX6_spells_J0_charAt_5068e rfl rfl rfl (by decide +kernel) rfl ⟨Nat.le_of_ble_eq_true rfl, Nat.le_of_ble_eq_true rfl⟩ ⟨Nat.zero_le _, Nat.zero_le _⟩ (vk_recv (xE_vk hE) hq hS) xE_ok g_P0 (g_D0 (A := A)) hK (xE_ok.tr hE hS (g_free0 hS hA)) hl.1 (Nat.le_of_ble_eq_true rfl) dX6_spells_36 rfl) hP hS hA rfl (fun H locs hP hS => ?_)
        refine lv_icmp_eq (tgt := 44) (pc := 39) hx hb dX6_spells_39 (by decide) (fun c39 => ?_) (fun c39 => ?_)
        · replace h := it_t c39 h
          obtain ⟨v4_44, ev4_44, h⟩ := lt_i h
          refine lv_iinc (v := v4_44) (lv' := [(4, .int v4_44), (0, .ref (a0 0)), (1, .int x1), (3, .ref (sa p2))]) (pc := 44) hx hb dX6_spells_44 hl (k := 3) rfl (by rw [ev4_44]; rfl) (by decide) rfl (fun ls hl => ?_)
          refine lv_goto (tgt := 15) (pc := 47) hx hb dX6_spells_47 (by decide) ?_
          have jr := K15h x1 v4_44 _ _ ls h hP hD hS (lv_sub hl [1, 2, 3, 0] rfl)
          exact jr
        · replace h := it_f c39 h
          refine lv_iconst (v := 0) (pc := 42) hx hb dX6_spells_42 (by decide) ?_
          have kr := KR (0 : Int32)  _ _ 43 ls h rfl hP hD hS dX6_spells_43
          exact kr
  refine lv_iload_n (pc := 0) hx hb dX6_spells_0 rfl (lv_at hl 2 rfl) ?_
  refine lv_iload_n (pc := 1) hx hb dX6_spells_1 rfl (lv_at hl 1 rfl) ?_
  refine lv_isub (pc := 2) hx hb dX6_spells_2 ?_
  refine lv_aload_n (pc := 3) hx hb dX6_spells_3 rfl (lv_at hl 3 rfl) ?_
  obtain ⟨r4, hc4, h⟩ := b1_i h
  refine g_none (st1 := [.int r4, .int (p1 - p0)]) (gr_Vr (n := 0) (rest := [.int (p1 - p0)]) (pc := 4) hx hb hml hown hts (cJ0_length_8abf5_met l D c tb sa sv p2 hq _ hc4) gX6_spells_J0_length_8abf5 rfl rfl rfl (by decide +kernel) rfl ⟨Nat.le_of_ble_eq_true rfl, Nat.le_of_ble_eq_true rfl⟩ ⟨Nat.zero_le _, Nat.zero_le _⟩ (vk_recv (xE_vk hE) hq hS) xE_ok g_P0 (g_D0 (A := A)) hK (xE_ok.tr hE hS (g_free0 hS hA)) hl.1 (Nat.le_of_ble_eq_true rfl) dX6_spells_4 rfl) hP hS hA rfl (fun H locs hP hS => ?_)
  refine lv_icmp_eq (tgt := 12) (pc := 7) hx hb dX6_spells_7 (by decide) (fun c7 => ?_) (fun c7 => ?_)
  · replace h := it_t c7 h
    refine lv_iconst (v := 0) (pc := 12) hx hb dX6_spells_12 (by decide) ?_
    refine lv_istore (lv' := [(4, .int (0 : Int32)), (0, .ref (a0 0)), (1, .int p0), (2, .int p1), (3, .ref (sa p2))]) (pc := 13) hx hb dX6_spells_13 hl (by decide) rfl (fun ls hl => ?_)
    have jr := J15 FU p0 (0 : Int32) _ _ ls h hP hD hS (lv_sub hl [1, 2, 4, 0] rfl)
    exact jr
  · replace h := it_f c7 h
    refine lv_iconst (v := 0) (pc := 10) hx hb dX6_spells_10 (by decide) ?_
    have kr := KR (0 : Int32)  _ _ 11 ls h rfl hP hD hS dX6_spells_11
    exact kr
abbrev rmX2_kindRead : Room := { frames := 5, cells := 0, slots := 0, locals := 147 }
set_option maxRecDepth 100000 in
set_option maxHeartbeats 40000000 in
theorem cX2_kindRead_met (l : Launch) (D : va_G) (c : Nat → ClassId) (tb : Nat) (sa sv : Nat → Nat) (a0 : Nat → Nat) (a1 : Nat → Nat) (s0 : Mem) (s1 : Mem) (r0 : Int32) (h : fX2_kindRead s0 s1 = some r0) : gM l yX2_kindRead wsX2_kindRead rmX2_kindRead D (gY c) (xE tb sa sv) [.ref (a0 0), .ref (a1 0)] (wX2 a0 c s0 ++ wX6 a1 c s1) (some (.int r0)) (wX2 a0 c s0 ++ wX6 a1 c s1) := by
  unfold fX2_kindRead at h
  refine gM.I (cc := cX2_kindRead) (maxL := 3) (by decide) rfl (Nat.le_of_ble_eq_true rfl) ?_
  intro p e s m args below meth cd hx hb hml hown hts A hA ls hl hP hK hD hS hE Q KR0
  have hfX2 : ∀ w ∈ u_ws RX2 TX2 6, w.before args s = true := fun w hw => hts w (List.mem_cons_of_mem _ (List.mem_append_left _ (List.mem_append_right _ hw)))
  have lk0 := hts (.fieldLink RX2 26 "GlitchNets$GateText" "start" "I") (List.mem_of_getElem? (i := 1) rfl)
  have lk1 := hts (.fieldLink RX2 9 "GlitchNets$GateText" "end" "I") (List.mem_of_getElem? (i := 2) rfl)
  have lk2 := hts (.initialized RX8) (List.mem_of_getElem? (i := 4) rfl)
  have lk3 := hts (.static yX8_wordOf) (List.mem_of_getElem? (i := 3) rfl)
  have KR : ∀ (v : Int32)  (H : Heap) (locs : List Loc) (pc : Nat) (ls : Array Slot), some v = some r0 → narrow .int (.int v) = .int v → va_P D vwCl (wX2 a0 c s0 ++ wX6 a1 c s1) H → va_D A (wX2 a0 c s0 ++ wX6 a1 c s1) → va_S A s.heap H locs → decode cX2_kindRead pc = .ok (.ireturn, 1) → W p l e rmX2_kindRead s m args below meth cd H locs 0 0 Q (F0 m pc ls [.int v]) := by
    intro v  H locs pc ls hr hn hP hD hS hd
    cases hr
    exact KR0 _ H locs pc ls rfl hn hP hD hS hd
  have hl : lv_has ls 3 [(0, .ref (a0 0)), (1, .ref (a1 0))] := hl
  have J2 : ∀ (n : Nat) (x2 : Int32) (H : Heap) (locs : List Loc) (ls : Array Slot), fX2_kindRead_b2 s0 s1 n x2 = some r0 → va_P D vwCl (wX2 a0 c s0 ++ wX6 a1 c s1) H → va_D A (wX2 a0 c s0 ++ wX6 a1 c s1) → va_S A s.heap H locs → lv_has ls 3 [(0, .ref (a0 0)), (1, .ref (a1 0)), (2, .int x2)] → W p l e rmX2_kindRead s m args below meth cd H locs 0 0 Q (F0 m 2 ls []) := by
    intro n
    induction n with
    | zero =>
      intro x2 H locs ls h _ _ _ _
      cases (show (none : Option (Int32)) = some _ from h)
    | succ n K2h =>
      intro x2 H locs ls h hP hD hS hl
      rw [fX2_kindRead_b2] at h
      refine lv_iload_n (pc := 2) hx hb dX2_kindRead_2 rfl (lv_at hl 2 rfl) ?_
      refine lv_bipush (v := 6) (pc := 3) hx hb dX2_kindRead_3 (by decide) ?_
      refine lv_icmp_ge (tgt := 35) (pc := 5) hx hb dX2_kindRead_5 (by decide) (fun c5 => ?_) (fun c5 => ?_)
      · replace h := it_t c5 h
        refine lv_iconst (v := -1) (pc := 35) hx hb dX2_kindRead_35 (by decide) ?_
        have kr := KR (-1 : Int32)  _ _ 36 ls h rfl hP hD hS dX2_kindRead_36
        exact kr
      · replace h := it_f c5 h
        refine lv_aload_n (pc := 8) hx hb dX2_kindRead_8 rfl (lv_at hl 1 rfl) ?_
        refine lv_aload_n (pc := 9) hx hb dX2_kindRead_9 rfl (lv_at hl 0 rfl) ?_
        refine va_get (D := D) (ci := 2) (v := .int (s0.1 4 0)) (C := RX2) (T := TX2) (N := 6) (pc := 10) hx hb hfX2 (fun _ h9 => h9) hown hK hP 0 rfl rfl 4 (by decide) lk0 (fun _ h9 => h9) rfl dX2_kindRead_10 ?_
        refine lv_aload_n (pc := 13) hx hb dX2_kindRead_13 rfl (lv_at hl 0 rfl) ?_
        refine va_get (D := D) (ci := 2) (v := .int (s0.1 5 0)) (C := RX2) (T := TX2) (N := 6) (pc := 14) hx hb hfX2 (fun _ h9 => h9) hown hK hP 0 rfl rfl 5 (by decide) lk1 (fun _ h9 => h9) rfl dX2_kindRead_14 ?_
        refine lv_iload_n (pc := 17) hx hb dX2_kindRead_17 rfl (lv_at hl 2 rfl) ?_
        obtain ⟨r18, hc18, h⟩ := b1_i h
        refine g_none (st1 := [.ref (sa r18), .int (s0.1 5 0), .int (s0.1 4 0), .ref (a1 0)]) (gr_SN (n := 1) (rest := [.int (s0.1 5 0), .int (s0.1 4 0), .ref (a1 0)]) (pc := 18) hx hb hml hown hts (cX8_wordOf_met l D c tb sa sv x2 _ hc18) gX2_kindRead_X8_wordOf_n62 rfl rfl rfl (xE_n7 hE) lk2 lk3 (by decide +kernel) rfl ⟨Nat.le_of_ble_eq_true rfl, Nat.le_of_ble_eq_true rfl⟩ ⟨Nat.zero_le _, Nat.zero_le _⟩ xE_ok g_P0 (g_D0 (A := A)) hK (xE_ok.tr hE hS (g_free0 hS hA)) hl.1 (Nat.le_of_ble_eq_true rfl) dX2_kindRead_18 rfl) hP hS hA rfl (fun H locs hP hS => ?_)
        obtain ⟨hqr18, h⟩ := ckP_i h
        obtain ⟨r21, hc21, h⟩ := b1_i h
        have hPc := g_cutP (w0 := wX6 a1 c s1) hP [1, 2] rfl
        have hDc : va_D A (wX6 a1 c s1) := hD.sub [1, 2] (by decide) rfl
        have hFc := va_free (wc := wX6 a1 c s1) hD hS hA [1, 2] rfl
        refine g_sub (st1 := [.int r21]) (wr := wX2 a0 c s0) (wn := wX2 a0 c s0 ++ wX6 a1 c s1) (gr_V (n := 3) (rest := []) (pc := 21) hx hb hml hown hts (cX6_spells_met l D c tb sa sv a1 ((s0.1 4 0)) ((s0.1 5 0)) r18 (of_decide_eq_true hqr18) s1 _ hc21) gX2_kindRead_X6_spells rfl rfl rfl (by decide +kernel) rfl ⟨Nat.le_of_ble_eq_true rfl, Nat.le_of_ble_eq_true rfl⟩ ⟨Nat.zero_le _, Nat.zero_le _⟩ 0 6 rfl rfl rfl xE_ok hPc hDc hK (xE_ok.tr hE hS hFc) hl.1 (Nat.le_of_ble_eq_true rfl) dX2_kindRead_21 rfl) hP hD hS hA [1, 2] [0] [0, 1, 2] rfl rfl (by decide) (by decide) (by decide) rfl rfl (fun H locs hP hD hS => ?_)
        refine lv_if_eq (tgt := 29) (pc := 24) hx hb dX2_kindRead_24 (by decide) (fun c24 => ?_) (fun c24 => ?_)
        · replace h := it_t c24 h
          obtain ⟨v2_29, ev2_29, h⟩ := lt_i h
          refine lv_iinc (v := v2_29) (lv' := [(2, .int v2_29), (0, .ref (a0 0)), (1, .ref (a1 0))]) (pc := 29) hx hb dX2_kindRead_29 hl (k := 2) rfl (by rw [ev2_29]; rfl) (by decide) rfl (fun ls hl => ?_)
          refine lv_goto (tgt := 2) (pc := 32) hx hb dX2_kindRead_32 (by decide) ?_
          have jr := K2h v2_29 _ _ ls h hP hD hS (lv_sub hl [1, 2, 0] rfl)
          exact jr
        · replace h := it_f c24 h
          refine lv_iload_n (pc := 27) hx hb dX2_kindRead_27 rfl (lv_at hl 2 rfl) ?_
          have kr := KR x2  _ _ 28 ls h rfl hP hD hS dX2_kindRead_28
          exact kr
  refine lv_iconst (v := 0) (pc := 0) hx hb dX2_kindRead_0 (by decide) ?_
  refine lv_istore_n (lv' := [(2, .int (0 : Int32)), (0, .ref (a0 0)), (1, .ref (a1 0))]) (pc := 1) hx hb dX2_kindRead_1 rfl hl (by decide) rfl (fun ls hl => ?_)
  have jr := J2 FU (0 : Int32) _ _ ls h hP hD hS (lv_sub hl [1, 2, 0] rfl)
  exact jr
abbrev rmX2_numberRead : Room := { frames := 1, cells := 0, slots := 0, locals := 21 }
set_option maxRecDepth 100000 in
set_option maxHeartbeats 40000000 in
theorem cX2_numberRead_met (l : Launch) (D : va_G) (c : Nat → ClassId) (tb : Nat) (sa sv : Nat → Nat) (a0 : Nat → Nat) (a1 : Nat → Nat) (s0 : Mem) (s1 : Mem) (r0 : Int32) (h : fX2_numberRead s0 s1 = some r0) : gM l yX2_numberRead wsX2_numberRead rmX2_numberRead D (gY c) (xE tb sa sv) [.ref (a0 0), .ref (a1 0)] (wX2 a0 c s0 ++ wX6 a1 c s1) (some (.int r0)) (wX2 a0 c s0 ++ wX6 a1 c s1) := by
  unfold fX2_numberRead at h
  refine gM.I (cc := cX2_numberRead) (maxL := 4) (by decide) rfl (Nat.le_of_ble_eq_true rfl) ?_
  intro p e s m args below meth cd hx hb hml hown hts A hA ls hl hP hK hD hS hE Q KR0
  have hfX2 : ∀ w ∈ u_ws RX2 TX2 6, w.before args s = true := fun w hw => hts w (List.mem_cons_of_mem _ (List.mem_append_left _ (List.mem_append_right _ hw)))
  have hfX6 : ∀ w ∈ u_ws RX6 TX6 2, w.before args s = true := fun w hw => hts w (List.mem_cons_of_mem _ (List.mem_append_right _ hw))
  have lk0 := hts (.fieldLink RX2 26 "GlitchNets$GateText" "start" "I") (List.mem_of_getElem? (i := 1) rfl)
  have lk1 := hts (.fieldLink RX2 9 "GlitchNets$GateText" "end" "I") (List.mem_of_getElem? (i := 2) rfl)
  have lk2 := hts (.fieldLink RX2 73 "GlitchNets$Tape" "bytes" "[I") (List.mem_of_getElem? (i := 3) rfl)
  have KR : ∀ (v : Int32)  (H : Heap) (locs : List Loc) (pc : Nat) (ls : Array Slot), some v = some r0 → narrow .int (.int v) = .int v → va_P D vwCl (wX2 a0 c s0 ++ wX6 a1 c s1) H → va_D A (wX2 a0 c s0 ++ wX6 a1 c s1) → va_S A s.heap H locs → decode cX2_numberRead pc = .ok (.ireturn, 1) → W p l e rmX2_numberRead s m args below meth cd H locs 0 0 Q (F0 m pc ls [.int v]) := by
    intro v  H locs pc ls hr hn hP hD hS hd
    cases hr
    exact KR0 _ H locs pc ls rfl hn hP hD hS hd
  have hl : lv_has ls 4 [(0, .ref (a0 0)), (1, .ref (a1 0))] := hl
  have J33 : ∀ (n : Nat) (x2 : Int32) (x3 : Int32) (H : Heap) (locs : List Loc) (ls : Array Slot), fX2_numberRead_b33 s0 s1 n x2 x3 = some r0 → va_P D vwCl (wX2 a0 c s0 ++ wX6 a1 c s1) H → va_D A (wX2 a0 c s0 ++ wX6 a1 c s1) → va_S A s.heap H locs → lv_has ls 4 [(0, .ref (a0 0)), (1, .ref (a1 0)), (2, .int x2), (3, .int x3)] → W p l e rmX2_numberRead s m args below meth cd H locs 0 0 Q (F0 m 33 ls []) := by
    intro n
    induction n with
    | zero =>
      intro x2 x3 H locs ls h _ _ _ _
      cases (show (none : Option (Int32)) = some _ from h)
    | succ n K33h =>
      intro x2 x3 H locs ls h hP hD hS hl
      rw [fX2_numberRead_b33] at h
      refine lv_iload_n (pc := 33) hx hb dX2_numberRead_33 rfl (lv_at hl 3 rfl) ?_
      refine lv_aload_n (pc := 34) hx hb dX2_numberRead_34 rfl (lv_at hl 0 rfl) ?_
      refine va_get (D := D) (ci := 2) (v := .int (s0.1 5 0)) (C := RX2) (T := TX2) (N := 6) (pc := 35) hx hb hfX2 (fun _ h9 => h9) hown hK hP 0 rfl rfl 5 (by decide) lk1 (fun _ h9 => h9) rfl dX2_numberRead_35 ?_
      refine lv_icmp_ge (tgt := 70) (pc := 38) hx hb dX2_numberRead_38 (by decide) (fun c38 => ?_) (fun c38 => ?_)
      · replace h := it_t c38 h
        refine lv_iload_n (pc := 70) hx hb dX2_numberRead_70 rfl (lv_at hl 2 rfl) ?_
        have kr := KR x2  _ _ 71 ls h rfl hP hD hS dX2_numberRead_71
        exact kr
      · replace h := it_f c38 h
        refine lv_aload_n (pc := 41) hx hb dX2_numberRead_41 rfl (lv_at hl 1 rfl) ?_
        refine lv_iload_n (pc := 42) hx hb dX2_numberRead_42 rfl (lv_at hl 3 rfl) ?_
        obtain ⟨r43, hc43, h⟩ := b1_i h
        have hPc := g_cutP (w0 := wX6 a1 c s1) hP [1, 2] rfl
        have hDc : va_D A (wX6 a1 c s1) := hD.sub [1, 2] (by decide) rfl
        have hFc := va_free (wc := wX6 a1 c s1) hD hS hA [1, 2] rfl
        refine g_sub (st1 := [.int r43]) (wr := wX2 a0 c s0) (wn := wX2 a0 c s0 ++ wX6 a1 c s1) (gr_V (n := 1) (rest := []) (pc := 43) hx hb hml hown hts (cX6_hasDigit_met l D c tb sa sv a1 x3 s1 _ hc43) gX2_numberRead_X6_hasDigit rfl rfl rfl (by decide +kernel) rfl ⟨Nat.le_of_ble_eq_true rfl, Nat.le_of_ble_eq_true rfl⟩ ⟨Nat.zero_le _, Nat.zero_le _⟩ 0 6 rfl rfl rfl xE_ok hPc hDc hK (xE_ok.tr hE hS hFc) hl.1 (Nat.le_of_ble_eq_true rfl) dX2_numberRead_43 rfl) hP hD hS hA [1, 2] [0] [0, 1, 2] rfl rfl (by decide) (by decide) (by decide) rfl rfl (fun H locs hP hD hS => ?_)
        refine lv_if_eq (tgt := 70) (pc := 46) hx hb dX2_numberRead_46 (by decide) (fun c46 => ?_) (fun c46 => ?_)
        · replace h := it_t c46 h
          refine lv_iload_n (pc := 70) hx hb dX2_numberRead_70 rfl (lv_at hl 2 rfl) ?_
          have kr := KR x2  _ _ 71 ls h rfl hP hD hS dX2_numberRead_71
          exact kr
        · replace h := it_f c46 h
          refine lv_bipush (v := 10) (pc := 49) hx hb dX2_numberRead_49 (by decide) ?_
          refine lv_iload_n (pc := 51) hx hb dX2_numberRead_51 rfl (lv_at hl 2 rfl) ?_
          refine lv_imul (pc := 52) hx hb dX2_numberRead_52 ?_
          refine lv_aload_n (pc := 53) hx hb dX2_numberRead_53 rfl (lv_at hl 1 rfl) ?_
          refine va_get (D := D) (ci := 6) (v := .ref (a1 1)) (C := RX6) (T := TX6) (N := 2) (pc := 54) hx hb hfX6 (fun _ h9 => h9) hown hK hP 1 rfl rfl 0 (by decide) lk2 (fun _ h9 => h9) rfl dX2_numberRead_54 ?_
          refine lv_iload_n (pc := 57) hx hb dX2_numberRead_57 rfl (lv_at hl 3 rfl) ?_
          obtain ⟨hk58, h⟩ := ckI_i h
          refine va_iald (D := D) (f := (s1.1 0)) (pc := 58) hx hb hK hP 2 0 rfl rfl hk58 dX2_numberRead_58 ?_
          refine lv_iadd (pc := 59) hx hb dX2_numberRead_59 ?_
          refine lv_bipush (v := 48) (pc := 60) hx hb dX2_numberRead_60 (by decide) ?_
          refine lv_isub (pc := 62) hx hb dX2_numberRead_62 ?_
          refine lv_topi (fun v2_63 ev2_63 => ?_)
          replace h := lt_e ev2_63 h
          refine lv_istore_n (lv' := [(2, .int v2_63), (0, .ref (a0 0)), (1, .ref (a1 0)), (3, .int x3)]) (pc := 63) hx hb dX2_numberRead_63 rfl hl (by decide) rfl (fun ls hl => ?_)
          obtain ⟨v3_64, ev3_64, h⟩ := lt_i h
          refine lv_iinc (v := v3_64) (lv' := [(3, .int v3_64), (2, .int v2_63), (0, .ref (a0 0)), (1, .ref (a1 0))]) (pc := 64) hx hb dX2_numberRead_64 hl (k := 3) rfl (by rw [ev3_64]; rfl) (by decide) rfl (fun ls hl => ?_)
          refine lv_goto (tgt := 33) (pc := 67) hx hb dX2_numberRead_67 (by decide) ?_
          have jr := K33h v2_63 v3_64 _ _ ls h hP hD hS (lv_sub hl [2, 3, 1, 0] rfl)
          exact jr
  refine lv_aload_n (pc := 0) hx hb dX2_numberRead_0 rfl (lv_at hl 1 rfl) ?_
  refine lv_aload_n (pc := 1) hx hb dX2_numberRead_1 rfl (lv_at hl 0 rfl) ?_
  refine va_get (D := D) (ci := 2) (v := .int (s0.1 4 0)) (C := RX2) (T := TX2) (N := 6) (pc := 2) hx hb hfX2 (fun _ h9 => h9) hown hK hP 0 rfl rfl 4 (by decide) lk0 (fun _ h9 => h9) rfl dX2_numberRead_2 ?_
  obtain ⟨r5, hc5, h⟩ := b1_i h
  have hPc := g_cutP (w0 := wX6 a1 c s1) hP [1, 2] rfl
  have hDc : va_D A (wX6 a1 c s1) := hD.sub [1, 2] (by decide) rfl
  have hFc := va_free (wc := wX6 a1 c s1) hD hS hA [1, 2] rfl
  refine g_sub (st1 := [.int r5]) (wr := wX2 a0 c s0) (wn := wX2 a0 c s0 ++ wX6 a1 c s1) (gr_V (n := 1) (rest := []) (pc := 5) hx hb hml hown hts (cX6_hasDigit_met l D c tb sa sv a1 ((s0.1 4 0)) s1 _ hc5) gX2_numberRead_X6_hasDigit rfl rfl rfl (by decide +kernel) rfl ⟨Nat.le_of_ble_eq_true rfl, Nat.le_of_ble_eq_true rfl⟩ ⟨Nat.zero_le _, Nat.zero_le _⟩ 0 6 rfl rfl rfl xE_ok hPc hDc hK (xE_ok.tr hE hS hFc) hl.1 (Nat.le_of_ble_eq_true rfl) dX2_numberRead_5 rfl) hP hD hS hA [1, 2] [0] [0, 1, 2] rfl rfl (by decide) (by decide) (by decide) rfl rfl (fun H locs hP hD hS => ?_)
  refine lv_if_eq (tgt := 24) (pc := 8) hx hb dX2_numberRead_8 (by decide) (fun c8 => ?_) (fun c8 => ?_)
  · replace h := it_t c8 h
    refine lv_iconst (v := -1) (pc := 24) hx hb dX2_numberRead_24 (by decide) ?_
    have kr := KR (-1 : Int32)  _ _ 25 ls h rfl hP hD hS dX2_numberRead_25
    exact kr
  · replace h := it_f c8 h
    refine lv_aload_n (pc := 11) hx hb dX2_numberRead_11 rfl (lv_at hl 0 rfl) ?_
    refine va_get (D := D) (ci := 2) (v := .int (s0.1 5 0)) (C := RX2) (T := TX2) (N := 6) (pc := 12) hx hb hfX2 (fun _ h9 => h9) hown hK hP 0 rfl rfl 5 (by decide) lk1 (fun _ h9 => h9) rfl dX2_numberRead_12 ?_
    refine lv_aload_n (pc := 15) hx hb dX2_numberRead_15 rfl (lv_at hl 0 rfl) ?_
    refine va_get (D := D) (ci := 2) (v := .int (s0.1 4 0)) (C := RX2) (T := TX2) (N := 6) (pc := 16) hx hb hfX2 (fun _ h9 => h9) hown hK hP 0 rfl rfl 4 (by decide) lk0 (fun _ h9 => h9) rfl dX2_numberRead_16 ?_
    refine lv_isub (pc := 19) hx hb dX2_numberRead_19 ?_
    refine lv_iconst (v := 2) (pc := 20) hx hb dX2_numberRead_20 (by decide) ?_
    refine lv_icmp_le (tgt := 26) (pc := 21) hx hb dX2_numberRead_21 (by decide) (fun c21 => ?_) (fun c21 => ?_)
    · replace h := it_t c21 h
      refine lv_iconst (v := 0) (pc := 26) hx hb dX2_numberRead_26 (by decide) ?_
      refine lv_istore_n (lv' := [(2, .int (0 : Int32)), (0, .ref (a0 0)), (1, .ref (a1 0))]) (pc := 27) hx hb dX2_numberRead_27 rfl hl (by decide) rfl (fun ls hl => ?_)
      refine lv_aload_n (pc := 28) hx hb dX2_numberRead_28 rfl (lv_at hl 1 rfl) ?_
      refine va_get (D := D) (ci := 2) (v := .int (s0.1 4 0)) (C := RX2) (T := TX2) (N := 6) (pc := 29) hx hb hfX2 (fun _ h9 => h9) hown hK hP 0 rfl rfl 4 (by decide) lk0 (fun _ h9 => h9) rfl dX2_numberRead_29 ?_
      refine lv_topi (fun v3_32 ev3_32 => ?_)
      replace h := lt_e ev3_32 h
      refine lv_istore_n (lv' := [(3, .int v3_32), (2, .int (0 : Int32)), (0, .ref (a0 0)), (1, .ref (a1 0))]) (pc := 32) hx hb dX2_numberRead_32 rfl hl (by decide) rfl (fun ls hl => ?_)
      have jr := J33 FU (0 : Int32) v3_32 _ _ ls h hP hD hS (lv_sub hl [2, 3, 1, 0] rfl)
      exact jr
    · replace h := it_f c21 h
      refine lv_iconst (v := -1) (pc := 24) hx hb dX2_numberRead_24 (by decide) ?_
      have kr := KR (-1 : Int32)  _ _ 25 ls h rfl hP hD hS dX2_numberRead_25
      exact kr
abbrev rmX2_sourceRead : Room := { frames := 2, cells := 0, slots := 0, locals := 44 }
set_option maxRecDepth 100000 in
set_option maxHeartbeats 40000000 in
theorem cX2_sourceRead_met (l : Launch) (D : va_G) (c : Nat → ClassId) (tb : Nat) (sa sv : Nat → Nat) (a0 : Nat → Nat) (a1 : Nat → Nat) (p1 : Int32) (s0 : Mem) (s1 : Mem) (r0 : Int32) (h : fX2_sourceRead p1 s0 s1 = some r0) : gM l yX2_sourceRead wsX2_sourceRead rmX2_sourceRead D (gY c) (xE tb sa sv) [.ref (a0 0), .ref (a1 0), .int p1] (wX2 a0 c s0 ++ wX6 a1 c s1) (some (.int r0)) (wX2 a0 c s0 ++ wX6 a1 c s1) := by
  unfold fX2_sourceRead at h
  refine gM.I (cc := cX2_sourceRead) (maxL := 4) (by decide) rfl (Nat.le_of_ble_eq_true rfl) ?_
  intro p e s m args below meth cd hx hb hml hown hts A hA ls hl hP hK hD hS hE Q KR0
  have hfX2 : ∀ w ∈ u_ws RX2 TX2 6, w.before args s = true := fun w hw => hts w (List.mem_cons_of_mem _ (List.mem_append_left _ (List.mem_append_right _ hw)))
  have hfX6 : ∀ w ∈ u_ws RX6 TX6 2, w.before args s = true := fun w hw => hts w (List.mem_cons_of_mem _ (List.mem_append_right _ hw))
  have lk0 := hts (.fieldLink RX2 26 "GlitchNets$GateText" "start" "I") (List.mem_of_getElem? (i := 1) rfl)
  have lk1 := hts (.fieldLink RX2 73 "GlitchNets$Tape" "bytes" "[I") (List.mem_of_getElem? (i := 2) rfl)
  have lk2 := hts (.fieldLink RX2 9 "GlitchNets$GateText" "end" "I") (List.mem_of_getElem? (i := 3) rfl)
  have KR : ∀ (v : Int32)  (H : Heap) (locs : List Loc) (pc : Nat) (ls : Array Slot), some v = some r0 → narrow .int (.int v) = .int v → va_P D vwCl (wX2 a0 c s0 ++ wX6 a1 c s1) H → va_D A (wX2 a0 c s0 ++ wX6 a1 c s1) → va_S A s.heap H locs → decode cX2_sourceRead pc = .ok (.ireturn, 1) → W p l e rmX2_sourceRead s m args below meth cd H locs 0 0 Q (F0 m pc ls [.int v]) := by
    intro v  H locs pc ls hr hn hP hD hS hd
    cases hr
    exact KR0 _ H locs pc ls rfl hn hP hD hS hd
  have hl : lv_has ls 4 [(0, .ref (a0 0)), (1, .ref (a1 0)), (2, .int p1)] := hl
  refine lv_aload_n (pc := 0) hx hb dX2_sourceRead_0 rfl (lv_at hl 1 rfl) ?_
  refine lv_aload_n (pc := 1) hx hb dX2_sourceRead_1 rfl (lv_at hl 0 rfl) ?_
  refine va_get (D := D) (ci := 2) (v := .int (s0.1 4 0)) (C := RX2) (T := TX2) (N := 6) (pc := 2) hx hb hfX2 (fun _ h9 => h9) hown hK hP 0 rfl rfl 4 (by decide) lk0 (fun _ h9 => h9) rfl dX2_sourceRead_2 ?_
  obtain ⟨r5, hc5, h⟩ := b1_i h
  have hPc := g_cutP (w0 := wX6 a1 c s1) hP [1, 2] rfl
  have hDc : va_D A (wX6 a1 c s1) := hD.sub [1, 2] (by decide) rfl
  have hFc := va_free (wc := wX6 a1 c s1) hD hS hA [1, 2] rfl
  refine g_sub (st1 := [.int r5]) (wr := wX2 a0 c s0) (wn := wX2 a0 c s0 ++ wX6 a1 c s1) (gr_V (n := 1) (rest := []) (pc := 5) hx hb hml hown hts (cX6_hasLetter_met l D c tb sa sv a1 ((s0.1 4 0)) s1 _ hc5) gX2_sourceRead_X6_hasLetter rfl rfl rfl (by decide +kernel) rfl ⟨Nat.le_of_ble_eq_true rfl, Nat.le_of_ble_eq_true rfl⟩ ⟨Nat.zero_le _, Nat.zero_le _⟩ 0 6 rfl rfl rfl xE_ok hPc hDc hK (xE_ok.tr hE hS hFc) hl.1 (Nat.le_of_ble_eq_true rfl) dX2_sourceRead_5 rfl) hP hD hS hA [1, 2] [0] [0, 1, 2] rfl rfl (by decide) (by decide) (by decide) rfl rfl (fun H locs hP hD hS => ?_)
  refine lv_if_eq (tgt := 51) (pc := 8) hx hb dX2_sourceRead_8 (by decide) (fun c8 => ?_) (fun c8 => ?_)
  · replace h := it_t c8 h
    refine lv_aload_n (pc := 51) hx hb dX2_sourceRead_51 rfl (lv_at hl 0 rfl) ?_
    refine lv_aload_n (pc := 52) hx hb dX2_sourceRead_52 rfl (lv_at hl 1 rfl) ?_
    obtain ⟨r53, hc53, h⟩ := b1_i h
    refine g_all (st1 := [.int r53]) (gr_V (n := 1) (rest := []) (pc := 53) hx hb hml hown hts (cX2_numberRead_met l D c tb sa sv a0 a1 s0 s1 _ hc53) gX2_sourceRead_X2_numberRead rfl rfl rfl (by decide +kernel) rfl ⟨Nat.le_of_ble_eq_true rfl, Nat.le_of_ble_eq_true rfl⟩ ⟨Nat.zero_le _, Nat.zero_le _⟩ 0 2 rfl rfl rfl xE_ok hP hD hK (xE_ok.tr hE hS (g_free hD hS hA)) hl.1 (Nat.le_of_ble_eq_true rfl) dX2_sourceRead_53 rfl) hD hS hA rfl (fun H locs hP hD hS => ?_)
    refine lv_istore_n (lv' := [(3, .int r53), (0, .ref (a0 0)), (1, .ref (a1 0)), (2, .int p1)]) (pc := 56) hx hb dX2_sourceRead_56 rfl hl (by decide) rfl (fun ls hl => ?_)
    refine lv_iload_n (pc := 57) hx hb dX2_sourceRead_57 rfl (lv_at hl 0 rfl) ?_
    refine lv_iconst (v := -1) (pc := 58) hx hb dX2_sourceRead_58 (by decide) ?_
    refine lv_icmp_eq (tgt := 71) (pc := 59) hx hb dX2_sourceRead_59 (by decide) (fun c59 => ?_) (fun c59 => ?_)
    · replace h := it_t c59 h
      refine lv_bipush (v := -5) (pc := 71) hx hb dX2_sourceRead_71 (by decide) ?_
      have kr := KR (-5 : Int32)  _ _ 73 ls h rfl hP hD hS dX2_sourceRead_73
      exact kr
    · replace h := it_f c59 h
      refine lv_iload_n (pc := 62) hx hb dX2_sourceRead_62 rfl (lv_at hl 0 rfl) ?_
      refine lv_iload_n (pc := 63) hx hb dX2_sourceRead_63 rfl (lv_at hl 3 rfl) ?_
      refine lv_icmp_ge (tgt := 71) (pc := 64) hx hb dX2_sourceRead_64 (by decide) (fun c64 => ?_) (fun c64 => ?_)
      · replace h := it_t c64 h
        refine lv_bipush (v := -5) (pc := 71) hx hb dX2_sourceRead_71 (by decide) ?_
        have kr := KR (-5 : Int32)  _ _ 73 ls h rfl hP hD hS dX2_sourceRead_73
        exact kr
      · replace h := it_f c64 h
        refine lv_iload_n (pc := 67) hx hb dX2_sourceRead_67 rfl (lv_at hl 0 rfl) ?_
        refine lv_goto (tgt := 73) (pc := 68) hx hb dX2_sourceRead_68 (by decide) ?_
        have kr := KR r53  _ _ 73 ls h rfl hP hD hS dX2_sourceRead_73
        exact kr
  · replace h := it_f c8 h
    refine lv_aload_n (pc := 11) hx hb dX2_sourceRead_11 rfl (lv_at hl 1 rfl) ?_
    refine va_get (D := D) (ci := 6) (v := .ref (a1 1)) (C := RX6) (T := TX6) (N := 2) (pc := 12) hx hb hfX6 (fun _ h9 => h9) hown hK hP 1 rfl rfl 0 (by decide) lk1 (fun _ h9 => h9) rfl dX2_sourceRead_12 ?_
    refine lv_aload_n (pc := 15) hx hb dX2_sourceRead_15 rfl (lv_at hl 0 rfl) ?_
    refine va_get (D := D) (ci := 2) (v := .int (s0.1 4 0)) (C := RX2) (T := TX2) (N := 6) (pc := 16) hx hb hfX2 (fun _ h9 => h9) hown hK hP 0 rfl rfl 4 (by decide) lk0 (fun _ h9 => h9) rfl dX2_sourceRead_16 ?_
    obtain ⟨hk19, h⟩ := ckI_i h
    refine va_iald (D := D) (f := (s1.1 0)) (pc := 19) hx hb hK hP 2 0 rfl rfl hk19 dX2_sourceRead_19 ?_
    refine lv_bipush (v := 97) (pc := 20) hx hb dX2_sourceRead_20 (by decide) ?_
    refine lv_isub (pc := 22) hx hb dX2_sourceRead_22 ?_
    refine lv_topi (fun v3_23 ev3_23 => ?_)
    replace h := lt_e ev3_23 h
    refine lv_istore_n (lv' := [(3, .int v3_23), (0, .ref (a0 0)), (1, .ref (a1 0)), (2, .int p1)]) (pc := 23) hx hb dX2_sourceRead_23 rfl hl (by decide) rfl (fun ls hl => ?_)
    refine lv_aload_n (pc := 24) hx hb dX2_sourceRead_24 rfl (lv_at hl 1 rfl) ?_
    refine va_get (D := D) (ci := 2) (v := .int (s0.1 5 0)) (C := RX2) (T := TX2) (N := 6) (pc := 25) hx hb hfX2 (fun _ h9 => h9) hown hK hP 0 rfl rfl 5 (by decide) lk2 (fun _ h9 => h9) rfl dX2_sourceRead_25 ?_
    refine lv_aload_n (pc := 28) hx hb dX2_sourceRead_28 rfl (lv_at hl 1 rfl) ?_
    refine va_get (D := D) (ci := 2) (v := .int (s0.1 4 0)) (C := RX2) (T := TX2) (N := 6) (pc := 29) hx hb hfX2 (fun _ h9 => h9) hown hK hP 0 rfl rfl 4 (by decide) lk0 (fun _ h9 => h9) rfl dX2_sourceRead_29 ?_
    refine lv_isub (pc := 32) hx hb dX2_sourceRead_32 ?_
    refine lv_iconst (v := 1) (pc := 33) hx hb dX2_sourceRead_33 (by decide) ?_
    refine lv_icmp_ne (tgt := 48) (pc := 34) hx hb dX2_sourceRead_34 (by decide) (fun c34 => ?_) (fun c34 => ?_)
    · replace h := it_f c34 h
      refine lv_bipush (v := -5) (pc := 48) hx hb dX2_sourceRead_48 (by decide) ?_
      have kr := KR (-5 : Int32)  _ _ 50 ls h rfl hP hD hS dX2_sourceRead_50
      exact kr
    · replace h := it_t c34 h
      refine lv_iload_n (pc := 37) hx hb dX2_sourceRead_37 rfl (lv_at hl 0 rfl) ?_
      refine lv_iconst (v := 4) (pc := 38) hx hb dX2_sourceRead_38 (by decide) ?_
      refine lv_icmp_ge (tgt := 48) (pc := 39) hx hb dX2_sourceRead_39 (by decide) (fun c39 => ?_) (fun c39 => ?_)
      · replace h := it_t c39 h
        refine lv_bipush (v := -5) (pc := 48) hx hb dX2_sourceRead_48 (by decide) ?_
        have kr := KR (-5 : Int32)  _ _ 50 ls h rfl hP hD hS dX2_sourceRead_50
        exact kr
      · replace h := it_f c39 h
        refine lv_iconst (v := -1) (pc := 42) hx hb dX2_sourceRead_42 (by decide) ?_
        refine lv_iload_n (pc := 43) hx hb dX2_sourceRead_43 rfl (lv_at hl 0 rfl) ?_
        refine lv_isub (pc := 44) hx hb dX2_sourceRead_44 ?_
        refine lv_goto (tgt := 50) (pc := 45) hx hb dX2_sourceRead_45 (by decide) ?_
        have kr := KR ((-1 : Int32) - v3_23)  _ _ 50 ls h rfl hP hD hS dX2_sourceRead_50
        exact kr
abbrev rmX2_read : Room := { frames := 6, cells := 0, slots := 0, locals := 169 }
set_option maxRecDepth 100000 in
set_option maxHeartbeats 40000000 in
theorem cX2_read_met (l : Launch) (D : va_G) (c : Nat → ClassId) (tb : Nat) (sa sv : Nat → Nat) (a0 : Nat → Nat) (a1 : Nat → Nat) (p1 : Int32) (s0 : Mem) (s1 : Mem) (r0 : Int32) (z0 : Mem) (h : fX2_read p1 s0 s1 = some (r0, z0)) : gM l yX2_read wsX2_read rmX2_read D (gY c) (xE tb sa sv) [.ref (a0 0), .ref (a1 0), .int p1] (wX2 a0 c s0 ++ wX6 a1 c s1) (some (.int r0)) (wX2 a0 c z0 ++ wX6 a1 c s1) := by
  unfold fX2_read at h
  refine gM.I (cc := cX2_read) (maxL := 3) (by decide) rfl (Nat.le_of_ble_eq_true rfl) ?_
  intro p e s m args below meth cd hx hb hml hown hts A hA ls hl hP hK hD hS hE Q KR0
  have hfX2 : ∀ w ∈ u_ws RX2 TX2 6, w.before args s = true := fun w hw => hts w (List.mem_cons_of_mem _ (List.mem_append_left _ (List.mem_append_right _ hw)))
  have hfX6 : ∀ w ∈ u_ws RX6 TX6 2, w.before args s = true := fun w hw => hts w (List.mem_cons_of_mem _ (List.mem_append_right _ hw))
  have lk0 := hts (.fieldLink RX2 9 "GlitchNets$GateText" "end" "I") (List.mem_of_getElem? (i := 1) rfl)
  have lk1 := hts (.fieldLink RX2 23 "GlitchNets$GateText" "kind" "I") (List.mem_of_getElem? (i := 2) rfl)
  have lk2 := hts (.fieldLink RX2 33 "GlitchNets$GateText" "first" "I") (List.mem_of_getElem? (i := 4) rfl)
  have lk3 := hts (.fieldLink RX2 36 "GlitchNets$GateText" "second" "I") (List.mem_of_getElem? (i := 5) rfl)
  have lk4 := hts (.fieldLink RX2 42 "GlitchNets$GateText" "delay" "I") (List.mem_of_getElem? (i := 6) rfl)
  have lk5 := hts (.initialized RX8) (List.mem_of_getElem? (i := 37) rfl)
  have lk6 := hts (.static yX8_isWithin) (List.mem_of_getElem? (i := 103) rfl)
  have lk7 := hts (.fieldLink RX2 26 "GlitchNets$GateText" "start" "I") (List.mem_of_getElem? (i := 3) rfl)
  have lk8 := hts (.fieldLink RX2 49 "GlitchNets$Tape" "size" "I") (List.mem_of_getElem? (i := 7) rfl)
  have KR : ∀ (v : Int32) (w0 : Mem) (H : Heap) (locs : List Loc) (pc : Nat) (ls : Array Slot), some (v, w0) = some (r0, z0) → narrow .int (.int v) = .int v → va_P D vwCl (wX2 a0 c w0 ++ wX6 a1 c s1) H → va_D A (wX2 a0 c w0 ++ wX6 a1 c s1) → va_S A s.heap H locs → decode cX2_read pc = .ok (.ireturn, 1) → W p l e rmX2_read s m args below meth cd H locs 0 0 Q (F0 m pc ls [.int v]) := by
    intro v w0 H locs pc ls hr hn hP hD hS hd
    cases hr
    exact KR0 _ H locs pc ls rfl hn hP hD hS hd
  have hl : lv_has ls 3 [(0, .ref (a0 0)), (1, .ref (a1 0)), (2, .int p1)] := hl
  have J106 : ∀ (s0 : Mem) (H : Heap) (locs : List Loc) (ls : Array Slot), fX2_read_b106 s1 s0 = some (r0, z0) → va_P D vwCl (wX2 a0 c s0 ++ wX6 a1 c s1) H → va_D A (wX2 a0 c s0 ++ wX6 a1 c s1) → va_S A s.heap H locs → lv_has ls 3 [(0, .ref (a0 0)), (1, .ref (a1 0))] → W p l e rmX2_read s m args below meth cd H locs 0 0 Q (F0 m 106 ls []) := by
    intro s0 H locs ls h hP hD hS hl
    unfold fX2_read_b106 at h
    refine lv_aload_n (pc := 106) hx hb dX2_read_106 rfl (lv_at hl 0 rfl) ?_
    refine lv_aload_n (pc := 107) hx hb dX2_read_107 rfl (lv_at hl 1 rfl) ?_
    obtain ⟨t0_108, hc108, h⟩ := b1_i h
    refine g_all (st1 := []) (gr_V (n := 1) (rest := []) (pc := 108) hx hb hml hown hts (cX2_nextPiece_met l D c tb sa sv a0 a1 s0 s1 _ hc108) gX2_read_X2_nextPiece rfl rfl rfl (by decide +kernel) rfl ⟨Nat.le_of_ble_eq_true rfl, Nat.le_of_ble_eq_true rfl⟩ ⟨Nat.zero_le _, Nat.zero_le _⟩ 0 2 rfl rfl rfl xE_ok hP hD hK (xE_ok.tr hE hS (g_free hD hS hA)) hl.1 (Nat.le_of_ble_eq_true rfl) dX2_read_108 rfl) hD hS hA rfl (fun H locs hP hD hS => ?_)
    refine lv_aload_n (pc := 111) hx hb dX2_read_111 rfl (lv_at hl 0 rfl) ?_
    refine lv_aload_n (pc := 112) hx hb dX2_read_112 rfl (lv_at hl 0 rfl) ?_
    refine lv_aload_n (pc := 113) hx hb dX2_read_113 rfl (lv_at hl 1 rfl) ?_
    obtain ⟨r114, hc114, h⟩ := b1_i h
    refine g_all (st1 := [.int r114, .ref (a0 0)]) (gr_V (n := 1) (rest := [.ref (a0 0)]) (pc := 114) hx hb hml hown hts (cX2_numberRead_met l D c tb sa sv a0 a1 t0_108 s1 _ hc114) gX2_read_X2_numberRead rfl rfl rfl (by decide +kernel) rfl ⟨Nat.le_of_ble_eq_true rfl, Nat.le_of_ble_eq_true rfl⟩ ⟨Nat.zero_le _, Nat.zero_le _⟩ 0 2 rfl rfl rfl xE_ok hP hD hK (xE_ok.tr hE hS (g_free hD hS hA)) hl.1 (Nat.le_of_ble_eq_true rfl) dX2_read_114 rfl) hD hS hA rfl (fun H locs hP hD hS => ?_)
    refine va_put (D := D) (ci := 2) (v := .int r114) (ty := .int) (C := RX2) (T := TX2) (N := 6) (pc := 117) hx hb hfX2 (fun _ h9 => h9) tyX2 tyX2_ok nmX2 hown hK hP hD hS 0 rfl rfl 3 (by decide) lk4 (fun _ h9 => h9) rfl (by decide +kernel) rfl rfl (Nat.le_of_ble_eq_true rfl) dX2_read_117 (fun H locs hP hD hS => ?_)
    have hP : va_P D vwCl (wX2 a0 c (mi t0_108 3 0 r114) ++ wX6 a1 c s1) H := hP
    have hD : va_D A (wX2 a0 c (mi t0_108 3 0 r114) ++ wX6 a1 c s1) := hD
    refine lv_aload_n (pc := 120) hx hb dX2_read_120 rfl (lv_at hl 0 rfl) ?_
    refine va_get (D := D) (ci := 2) (v := .int ((mi t0_108 3 0 r114).1 3 0)) (C := RX2) (T := TX2) (N := 6) (pc := 121) hx hb hfX2 (fun _ h9 => h9) hown hK hP 0 rfl rfl 3 (by decide) lk4 (fun _ h9 => h9) rfl dX2_read_121 ?_
    refine lv_iconst (v := 1) (pc := 124) hx hb dX2_read_124 (by decide) ?_
    refine lv_bipush (v := 9) (pc := 125) hx hb dX2_read_125 (by decide) ?_
    obtain ⟨r127, hc127, h⟩ := b1_i h
    refine g_none (st1 := [.int r127]) (gr_SN (n := 3) (rest := []) (pc := 127) hx hb hml hown hts (cX8_isWithin_met l D c tb sa sv (((mi t0_108 3 0 r114).1 3 0)) (1 : Int32) (9 : Int32) _ hc127) gX2_read_X8_isWithin_n45 rfl rfl rfl (xE_n8 hE) lk5 lk6 (by decide +kernel) rfl ⟨Nat.le_of_ble_eq_true rfl, Nat.le_of_ble_eq_true rfl⟩ ⟨Nat.zero_le _, Nat.zero_le _⟩ xE_ok g_P0 (g_D0 (A := A)) hK (xE_ok.tr hE hS (g_free0 hS hA)) hl.1 (Nat.le_of_ble_eq_true rfl) dX2_read_127 rfl) hP hS hA rfl (fun H locs hP hS => ?_)
    refine lv_if_ne (tgt := 138) (pc := 130) hx hb dX2_read_130 (by decide) (fun c130 => ?_) (fun c130 => ?_)
    · replace h := it_f c130 h
      refine lv_aload_n (pc := 138) hx hb dX2_read_138 rfl (lv_at hl 0 rfl) ?_
      refine lv_aload_n (pc := 139) hx hb dX2_read_139 rfl (lv_at hl 1 rfl) ?_
      obtain ⟨t0_140, hc140, h⟩ := b1_i h
      refine g_all (st1 := []) (gr_V (n := 1) (rest := []) (pc := 140) hx hb hml hown hts (cX2_nextPiece_met l D c tb sa sv a0 a1 (mi t0_108 3 0 r114) s1 _ hc140) gX2_read_X2_nextPiece rfl rfl rfl (by decide +kernel) rfl ⟨Nat.le_of_ble_eq_true rfl, Nat.le_of_ble_eq_true rfl⟩ ⟨Nat.zero_le _, Nat.zero_le _⟩ 0 2 rfl rfl rfl xE_ok hP hD hK (xE_ok.tr hE hS (g_free hD hS hA)) hl.1 (Nat.le_of_ble_eq_true rfl) dX2_read_140 rfl) hD hS hA rfl (fun H locs hP hD hS => ?_)
      refine lv_aload_n (pc := 143) hx hb dX2_read_143 rfl (lv_at hl 0 rfl) ?_
      refine va_get (D := D) (ci := 2) (v := .int (t0_140.1 4 0)) (C := RX2) (T := TX2) (N := 6) (pc := 144) hx hb hfX2 (fun _ h9 => h9) hown hK hP 0 rfl rfl 4 (by decide) lk7 (fun _ h9 => h9) rfl dX2_read_144 ?_
      refine lv_aload_n (pc := 147) hx hb dX2_read_147 rfl (lv_at hl 1 rfl) ?_
      refine va_get (D := D) (ci := 6) (v := .int (s1.1 1 0)) (C := RX6) (T := TX6) (N := 2) (pc := 148) hx hb hfX6 (fun _ h9 => h9) hown hK hP 1 rfl rfl 1 (by decide) lk8 (fun _ h9 => h9) rfl dX2_read_148 ?_
      refine lv_icmp_ge (tgt := 161) (pc := 151) hx hb dX2_read_151 (by decide) (fun c151 => ?_) (fun c151 => ?_)
      · replace h := it_t c151 h
        refine lv_iconst (v := -1) (pc := 161) hx hb dX2_read_161 (by decide) ?_
        have kr := KR (-1 : Int32) t0_140 _ _ 162 ls h rfl hP hD hS dX2_read_162
        exact kr
      · replace h := it_f c151 h
        refine lv_aload_n (pc := 154) hx hb dX2_read_154 rfl (lv_at hl 0 rfl) ?_
        refine va_get (D := D) (ci := 2) (v := .int (t0_140.1 4 0)) (C := RX2) (T := TX2) (N := 6) (pc := 155) hx hb hfX2 (fun _ h9 => h9) hown hK hP 0 rfl rfl 4 (by decide) lk7 (fun _ h9 => h9) rfl dX2_read_155 ?_
        refine lv_goto (tgt := 162) (pc := 158) hx hb dX2_read_158 (by decide) ?_
        have kr := KR (t0_140.1 4 0) t0_140 _ _ 162 ls h rfl hP hD hS dX2_read_162
        exact kr
    · replace h := it_t c130 h
      refine lv_aload_n (pc := 133) hx hb dX2_read_133 rfl (lv_at hl 0 rfl) ?_
      refine va_get (D := D) (ci := 2) (v := .int ((mi t0_108 3 0 r114).1 4 0)) (C := RX2) (T := TX2) (N := 6) (pc := 134) hx hb hfX2 (fun _ h9 => h9) hown hK hP 0 rfl rfl 4 (by decide) lk7 (fun _ h9 => h9) rfl dX2_read_134 ?_
      have kr := KR ((mi t0_108 3 0 r114).1 4 0) (mi t0_108 3 0 r114) _ _ 137 ls h rfl hP hD hS dX2_read_137
      exact kr
  refine lv_aload_n (pc := 0) hx hb dX2_read_0 rfl (lv_at hl 0 rfl) ?_
  refine lv_iconst (v := 0) (pc := 1) hx hb dX2_read_1 (by decide) ?_
  refine va_put (D := D) (ci := 2) (v := .int (0 : Int32)) (ty := .int) (C := RX2) (T := TX2) (N := 6) (pc := 2) hx hb hfX2 (fun _ h9 => h9) tyX2 tyX2_ok nmX2 hown hK hP hD hS 0 rfl rfl 5 (by decide) lk0 (fun _ h9 => h9) rfl (by decide +kernel) rfl rfl (Nat.le_of_ble_eq_true rfl) dX2_read_2 (fun H locs hP hD hS => ?_)
  have hP : va_P D vwCl (wX2 a0 c (mi s0 5 0 (0 : Int32)) ++ wX6 a1 c s1) H := hP
  have hD : va_D A (wX2 a0 c (mi s0 5 0 (0 : Int32)) ++ wX6 a1 c s1) := hD
  refine lv_aload_n (pc := 5) hx hb dX2_read_5 rfl (lv_at hl 0 rfl) ?_
  refine lv_aload_n (pc := 6) hx hb dX2_read_6 rfl (lv_at hl 1 rfl) ?_
  obtain ⟨t0_7, hc7, h⟩ := b1_i h
  refine g_all (st1 := []) (gr_V (n := 1) (rest := []) (pc := 7) hx hb hml hown hts (cX2_nextPiece_met l D c tb sa sv a0 a1 (mi s0 5 0 (0 : Int32)) s1 _ hc7) gX2_read_X2_nextPiece rfl rfl rfl (by decide +kernel) rfl ⟨Nat.le_of_ble_eq_true rfl, Nat.le_of_ble_eq_true rfl⟩ ⟨Nat.zero_le _, Nat.zero_le _⟩ 0 2 rfl rfl rfl xE_ok hP hD hK (xE_ok.tr hE hS (g_free hD hS hA)) hl.1 (Nat.le_of_ble_eq_true rfl) dX2_read_7 rfl) hD hS hA rfl (fun H locs hP hD hS => ?_)
  refine lv_aload_n (pc := 10) hx hb dX2_read_10 rfl (lv_at hl 0 rfl) ?_
  refine lv_aload_n (pc := 11) hx hb dX2_read_11 rfl (lv_at hl 0 rfl) ?_
  refine lv_aload_n (pc := 12) hx hb dX2_read_12 rfl (lv_at hl 1 rfl) ?_
  obtain ⟨r13, hc13, h⟩ := b1_i h
  refine g_all (st1 := [.int r13, .ref (a0 0)]) (gr_V (n := 1) (rest := [.ref (a0 0)]) (pc := 13) hx hb hml hown hts (cX2_kindRead_met l D c tb sa sv a0 a1 t0_7 s1 _ hc13) gX2_read_X2_kindRead rfl rfl rfl (by decide +kernel) rfl ⟨Nat.le_of_ble_eq_true rfl, Nat.le_of_ble_eq_true rfl⟩ ⟨Nat.zero_le _, Nat.zero_le _⟩ 0 2 rfl rfl rfl xE_ok hP hD hK (xE_ok.tr hE hS (g_free hD hS hA)) hl.1 (Nat.le_of_ble_eq_true rfl) dX2_read_13 rfl) hD hS hA rfl (fun H locs hP hD hS => ?_)
  refine va_put (D := D) (ci := 2) (v := .int r13) (ty := .int) (C := RX2) (T := TX2) (N := 6) (pc := 16) hx hb hfX2 (fun _ h9 => h9) tyX2 tyX2_ok nmX2 hown hK hP hD hS 0 rfl rfl 0 (by decide) lk1 (fun _ h9 => h9) rfl (by decide +kernel) rfl rfl (Nat.le_of_ble_eq_true rfl) dX2_read_16 (fun H locs hP hD hS => ?_)
  have hP : va_P D vwCl (wX2 a0 c (mi t0_7 0 0 r13) ++ wX6 a1 c s1) H := hP
  have hD : va_D A (wX2 a0 c (mi t0_7 0 0 r13) ++ wX6 a1 c s1) := hD
  refine lv_aload_n (pc := 19) hx hb dX2_read_19 rfl (lv_at hl 0 rfl) ?_
  refine va_get (D := D) (ci := 2) (v := .int ((mi t0_7 0 0 r13).1 0 0)) (C := RX2) (T := TX2) (N := 6) (pc := 20) hx hb hfX2 (fun _ h9 => h9) hown hK hP 0 rfl rfl 0 (by decide) lk1 (fun _ h9 => h9) rfl dX2_read_20 ?_
  refine lv_iconst (v := -1) (pc := 23) hx hb dX2_read_23 (by decide) ?_
  refine lv_icmp_ne (tgt := 32) (pc := 24) hx hb dX2_read_24 (by decide) (fun c24 => ?_) (fun c24 => ?_)
  · replace h := it_f c24 h
    refine lv_aload_n (pc := 32) hx hb dX2_read_32 rfl (lv_at hl 0 rfl) ?_
    refine lv_aload_n (pc := 33) hx hb dX2_read_33 rfl (lv_at hl 1 rfl) ?_
    obtain ⟨t0_34, hc34, h⟩ := b1_i h
    refine g_all (st1 := []) (gr_V (n := 1) (rest := []) (pc := 34) hx hb hml hown hts (cX2_nextPiece_met l D c tb sa sv a0 a1 (mi t0_7 0 0 r13) s1 _ hc34) gX2_read_X2_nextPiece rfl rfl rfl (by decide +kernel) rfl ⟨Nat.le_of_ble_eq_true rfl, Nat.le_of_ble_eq_true rfl⟩ ⟨Nat.zero_le _, Nat.zero_le _⟩ 0 2 rfl rfl rfl xE_ok hP hD hK (xE_ok.tr hE hS (g_free hD hS hA)) hl.1 (Nat.le_of_ble_eq_true rfl) dX2_read_34 rfl) hD hS hA rfl (fun H locs hP hD hS => ?_)
    refine lv_aload_n (pc := 37) hx hb dX2_read_37 rfl (lv_at hl 0 rfl) ?_
    refine lv_aload_n (pc := 38) hx hb dX2_read_38 rfl (lv_at hl 0 rfl) ?_
    refine lv_aload_n (pc := 39) hx hb dX2_read_39 rfl (lv_at hl 1 rfl) ?_
    refine lv_iload_n (pc := 40) hx hb dX2_read_40 rfl (lv_at hl 2 rfl) ?_
    obtain ⟨r41, hc41, h⟩ := b1_i h
    refine g_all (st1 := [.int r41, .ref (a0 0)]) (gr_V (n := 2) (rest := [.ref (a0 0)]) (pc := 41) hx hb hml hown hts (cX2_sourceRead_met l D c tb sa sv a0 a1 p1 t0_34 s1 _ hc41) gX2_read_X2_sourceRead rfl rfl rfl (by decide +kernel) rfl ⟨Nat.le_of_ble_eq_true rfl, Nat.le_of_ble_eq_true rfl⟩ ⟨Nat.zero_le _, Nat.zero_le _⟩ 0 2 rfl rfl rfl xE_ok hP hD hK (xE_ok.tr hE hS (g_free hD hS hA)) hl.1 (Nat.le_of_ble_eq_true rfl) dX2_read_41 rfl) hD hS hA rfl (fun H locs hP hD hS => ?_)
    refine va_put (D := D) (ci := 2) (v := .int r41) (ty := .int) (C := RX2) (T := TX2) (N := 6) (pc := 44) hx hb hfX2 (fun _ h9 => h9) tyX2 tyX2_ok nmX2 hown hK hP hD hS 0 rfl rfl 1 (by decide) lk2 (fun _ h9 => h9) rfl (by decide +kernel) rfl rfl (Nat.le_of_ble_eq_true rfl) dX2_read_44 (fun H locs hP hD hS => ?_)
    have hP : va_P D vwCl (wX2 a0 c (mi t0_34 1 0 r41) ++ wX6 a1 c s1) H := hP
    have hD : va_D A (wX2 a0 c (mi t0_34 1 0 r41) ++ wX6 a1 c s1) := hD
    refine lv_aload_n (pc := 47) hx hb dX2_read_47 rfl (lv_at hl 0 rfl) ?_
    refine va_get (D := D) (ci := 2) (v := .int ((mi t0_34 1 0 r41).1 1 0)) (C := RX2) (T := TX2) (N := 6) (pc := 48) hx hb hfX2 (fun _ h9 => h9) hown hK hP 0 rfl rfl 1 (by decide) lk2 (fun _ h9 => h9) rfl dX2_read_48 ?_
    refine lv_bipush (v := -5) (pc := 51) hx hb dX2_read_51 (by decide) ?_
    refine lv_icmp_ne (tgt := 61) (pc := 53) hx hb dX2_read_53 (by decide) (fun c53 => ?_) (fun c53 => ?_)
    · replace h := it_f c53 h
      refine lv_aload_n (pc := 61) hx hb dX2_read_61 rfl (lv_at hl 0 rfl) ?_
      refine lv_aload_n (pc := 62) hx hb dX2_read_62 rfl (lv_at hl 0 rfl) ?_
      refine va_get (D := D) (ci := 2) (v := .int ((mi t0_34 1 0 r41).1 1 0)) (C := RX2) (T := TX2) (N := 6) (pc := 63) hx hb hfX2 (fun _ h9 => h9) hown hK hP 0 rfl rfl 1 (by decide) lk2 (fun _ h9 => h9) rfl dX2_read_63 ?_
      refine va_put (D := D) (ci := 2) (v := .int ((mi t0_34 1 0 r41).1 1 0)) (ty := .int) (C := RX2) (T := TX2) (N := 6) (pc := 66) hx hb hfX2 (fun _ h9 => h9) tyX2 tyX2_ok nmX2 hown hK hP hD hS 0 rfl rfl 2 (by decide) lk3 (fun _ h9 => h9) rfl (by decide +kernel) rfl rfl (Nat.le_of_ble_eq_true rfl) dX2_read_66 (fun H locs hP hD hS => ?_)
      obtain ⟨m0_66, em0_66, h⟩ := lt_i h
      have hP : va_P D vwCl (wX2 a0 c m0_66 ++ wX6 a1 c s1) H := by rw [em0_66]; exact hP
      have hD : va_D A (wX2 a0 c m0_66 ++ wX6 a1 c s1) := by rw [em0_66]; exact hD
      refine lv_aload_n (pc := 69) hx hb dX2_read_69 rfl (lv_at hl 0 rfl) ?_
      refine va_get (D := D) (ci := 2) (v := .int (m0_66.1 0 0)) (C := RX2) (T := TX2) (N := 6) (pc := 70) hx hb hfX2 (fun _ h9 => h9) hown hK hP 0 rfl rfl 0 (by decide) lk1 (fun _ h9 => h9) rfl dX2_read_70 ?_
      refine lv_iconst (v := 5) (pc := 73) hx hb dX2_read_73 (by decide) ?_
      refine lv_icmp_eq (tgt := 106) (pc := 74) hx hb dX2_read_74 (by decide) (fun c74 => ?_) (fun c74 => ?_)
      · replace h := it_t c74 h
        have jr := J106 m0_66 _ _ ls h hP hD hS (lv_sub hl [0, 1] rfl)
        exact jr
      · replace h := it_f c74 h
        refine lv_aload_n (pc := 77) hx hb dX2_read_77 rfl (lv_at hl 0 rfl) ?_
        refine lv_aload_n (pc := 78) hx hb dX2_read_78 rfl (lv_at hl 1 rfl) ?_
        obtain ⟨t0_79, hc79, h⟩ := b1_i h
        refine g_all (st1 := []) (gr_V (n := 1) (rest := []) (pc := 79) hx hb hml hown hts (cX2_nextPiece_met l D c tb sa sv a0 a1 m0_66 s1 _ hc79) gX2_read_X2_nextPiece rfl rfl rfl (by decide +kernel) rfl ⟨Nat.le_of_ble_eq_true rfl, Nat.le_of_ble_eq_true rfl⟩ ⟨Nat.zero_le _, Nat.zero_le _⟩ 0 2 rfl rfl rfl xE_ok hP hD hK (xE_ok.tr hE hS (g_free hD hS hA)) hl.1 (Nat.le_of_ble_eq_true rfl) dX2_read_79 rfl) hD hS hA rfl (fun H locs hP hD hS => ?_)
        refine lv_aload_n (pc := 82) hx hb dX2_read_82 rfl (lv_at hl 0 rfl) ?_
        refine lv_aload_n (pc := 83) hx hb dX2_read_83 rfl (lv_at hl 0 rfl) ?_
        refine lv_aload_n (pc := 84) hx hb dX2_read_84 rfl (lv_at hl 1 rfl) ?_
        refine lv_iload_n (pc := 85) hx hb dX2_read_85 rfl (lv_at hl 2 rfl) ?_
        obtain ⟨r86, hc86, h⟩ := b1_i h
        refine g_all (st1 := [.int r86, .ref (a0 0)]) (gr_V (n := 2) (rest := [.ref (a0 0)]) (pc := 86) hx hb hml hown hts (cX2_sourceRead_met l D c tb sa sv a0 a1 p1 t0_79 s1 _ hc86) gX2_read_X2_sourceRead rfl rfl rfl (by decide +kernel) rfl ⟨Nat.le_of_ble_eq_true rfl, Nat.le_of_ble_eq_true rfl⟩ ⟨Nat.zero_le _, Nat.zero_le _⟩ 0 2 rfl rfl rfl xE_ok hP hD hK (xE_ok.tr hE hS (g_free hD hS hA)) hl.1 (Nat.le_of_ble_eq_true rfl) dX2_read_86 rfl) hD hS hA rfl (fun H locs hP hD hS => ?_)
        refine va_put (D := D) (ci := 2) (v := .int r86) (ty := .int) (C := RX2) (T := TX2) (N := 6) (pc := 89) hx hb hfX2 (fun _ h9 => h9) tyX2 tyX2_ok nmX2 hown hK hP hD hS 0 rfl rfl 2 (by decide) lk3 (fun _ h9 => h9) rfl (by decide +kernel) rfl rfl (Nat.le_of_ble_eq_true rfl) dX2_read_89 (fun H locs hP hD hS => ?_)
        have hP : va_P D vwCl (wX2 a0 c (mi t0_79 2 0 r86) ++ wX6 a1 c s1) H := hP
        have hD : va_D A (wX2 a0 c (mi t0_79 2 0 r86) ++ wX6 a1 c s1) := hD
        refine lv_aload_n (pc := 92) hx hb dX2_read_92 rfl (lv_at hl 0 rfl) ?_
        refine va_get (D := D) (ci := 2) (v := .int ((mi t0_79 2 0 r86).1 2 0)) (C := RX2) (T := TX2) (N := 6) (pc := 93) hx hb hfX2 (fun _ h9 => h9) hown hK hP 0 rfl rfl 2 (by decide) lk3 (fun _ h9 => h9) rfl dX2_read_93 ?_
        refine lv_bipush (v := -5) (pc := 96) hx hb dX2_read_96 (by decide) ?_
        refine lv_icmp_ne (tgt := 106) (pc := 98) hx hb dX2_read_98 (by decide) (fun c98 => ?_) (fun c98 => ?_)
        · replace h := it_f c98 h
          have jr := J106 ((mi t0_79 2 0 r86)) _ _ ls h hP hD hS (lv_sub hl [0, 1] rfl)
          exact jr
        · replace h := it_t c98 h
          refine lv_aload_n (pc := 101) hx hb dX2_read_101 rfl (lv_at hl 0 rfl) ?_
          refine va_get (D := D) (ci := 2) (v := .int ((mi t0_79 2 0 r86).1 4 0)) (C := RX2) (T := TX2) (N := 6) (pc := 102) hx hb hfX2 (fun _ h9 => h9) hown hK hP 0 rfl rfl 4 (by decide) lk7 (fun _ h9 => h9) rfl dX2_read_102 ?_
          have kr := KR ((mi t0_79 2 0 r86).1 4 0) (mi t0_79 2 0 r86) _ _ 105 ls h rfl hP hD hS dX2_read_105
          exact kr
    · replace h := it_t c53 h
      refine lv_aload_n (pc := 56) hx hb dX2_read_56 rfl (lv_at hl 0 rfl) ?_
      refine va_get (D := D) (ci := 2) (v := .int ((mi t0_34 1 0 r41).1 4 0)) (C := RX2) (T := TX2) (N := 6) (pc := 57) hx hb hfX2 (fun _ h9 => h9) hown hK hP 0 rfl rfl 4 (by decide) lk7 (fun _ h9 => h9) rfl dX2_read_57 ?_
      have kr := KR ((mi t0_34 1 0 r41).1 4 0) (mi t0_34 1 0 r41) _ _ 60 ls h rfl hP hD hS dX2_read_60
      exact kr
  · replace h := it_t c24 h
    refine lv_aload_n (pc := 27) hx hb dX2_read_27 rfl (lv_at hl 0 rfl) ?_
    refine va_get (D := D) (ci := 2) (v := .int ((mi t0_7 0 0 r13).1 4 0)) (C := RX2) (T := TX2) (N := 6) (pc := 28) hx hb hfX2 (fun _ h9 => h9) hown hK hP 0 rfl rfl 4 (by decide) lk7 (fun _ h9 => h9) rfl dX2_read_28 ?_
    have kr := KR ((mi t0_7 0 0 r13).1 4 0) (mi t0_7 0 0 r13) _ _ 31 ls h rfl hP hD hS dX2_read_31
    exact kr
abbrev rmX3_isFull : Room := { frames := 0, cells := 0, slots := 0, locals := 0 }
set_option maxRecDepth 100000 in
set_option maxHeartbeats 40000000 in
theorem cX3_isFull_met (l : Launch) (D : va_G) (c : Nat → ClassId) (tb : Nat) (sa sv : Nat → Nat) (a0 : Nat → Nat) (s0 : Mem) (r0 : Int32) (h : fX3_isFull s0 = some r0) : gM l yX3_isFull wsX3_isFull rmX3_isFull D (gY c) (xE tb sa sv) [.ref (a0 0)] (wX3 a0 c s0) (some (.int r0)) (wX3 a0 c s0) := by
  unfold fX3_isFull at h
  refine gM.I (cc := cX3_isFull) (maxL := 1) (by decide) rfl (Nat.le_of_ble_eq_true rfl) ?_
  intro p e s m args below meth cd hx hb hml hown hts A hA ls hl hP hK hD hS hE Q KR0
  have hfX3 : ∀ w ∈ u_ws RX3 TX3 7, w.before args s = true := fun w hw => hts w (List.mem_cons_of_mem _ (List.mem_append_right _ hw))
  have lk0 := hts (.fieldLink RX3 33 "GlitchNets$Net" "size" "I") (List.mem_of_getElem? (i := 1) rfl)
  have KR : ∀ (v : Int32)  (H : Heap) (locs : List Loc) (pc : Nat) (ls : Array Slot), some v = some r0 → narrow .boolean (.int v) = .int v → va_P D vwCl (wX3 a0 c s0) H → va_D A (wX3 a0 c s0) → va_S A s.heap H locs → decode cX3_isFull pc = .ok (.ireturn, 1) → W p l e rmX3_isFull s m args below meth cd H locs 0 0 Q (F0 m pc ls [.int v]) := by
    intro v  H locs pc ls hr hn hP hD hS hd
    cases hr
    exact KR0 _ H locs pc ls rfl hn hP hD hS hd
  have hl : lv_has ls 1 [(0, .ref (a0 0))] := hl
  refine lv_aload_n (pc := 0) hx hb dX3_isFull_0 rfl (lv_at hl 0 rfl) ?_
  refine va_get (D := D) (ci := 3) (v := .int (s0.1 4 0)) (C := RX3) (T := TX3) (N := 7) (pc := 1) hx hb hfX3 (fun _ h9 => h9) hown hK hP 0 rfl rfl 4 (by decide) lk0 (fun _ h9 => h9) rfl dX3_isFull_1 ?_
  refine lv_bipush (v := 12) (pc := 4) hx hb dX3_isFull_4 (by decide) ?_
  refine lv_icmp_lt (tgt := 13) (pc := 6) hx hb dX3_isFull_6 (by decide) (fun c6 => ?_) (fun c6 => ?_)
  · replace h := it_t c6 h
    refine lv_iconst (v := 0) (pc := 13) hx hb dX3_isFull_13 (by decide) ?_
    have kr := KR (0 : Int32)  _ _ 14 ls h rfl hP hD hS dX3_isFull_14
    exact kr
  · replace h := it_f c6 h
    refine lv_iconst (v := 1) (pc := 9) hx hb dX3_isFull_9 (by decide) ?_
    refine lv_goto (tgt := 14) (pc := 10) hx hb dX3_isFull_10 (by decide) ?_
    have kr := KR (1 : Int32)  _ _ 14 ls h rfl hP hD hS dX3_isFull_14
    exact kr
abbrev rmX3_append : Room := { frames := 1, cells := 0, slots := 0, locals := 20 }
set_option maxRecDepth 100000 in
set_option maxHeartbeats 40000000 in
theorem cX3_append_met (l : Launch) (D : va_G) (c : Nat → ClassId) (tb : Nat) (sa sv : Nat → Nat) (a0 : Nat → Nat) (p0 : Int32) (p1 : Int32) (p2 : Int32) (p3 : Int32) (s0 : Mem) (z0 : Mem) (h : fX3_append p0 p1 p2 p3 s0 = some z0) : gM l yX3_append wsX3_append rmX3_append D (gY c) (xE tb sa sv) [.ref (a0 0), .int p0, .int p1, .int p2, .int p3] (wX3 a0 c s0) none (wX3 a0 c z0) := by
  unfold fX3_append at h
  refine gM.V (cc := cX3_append) (maxL := 5) (by decide) rfl (Nat.le_of_ble_eq_true rfl) ?_
  intro p e s m args below meth cd hx hb hml hown hts A hA ls hl hP hK hD hS hE Q KR0
  have hfX3 : ∀ w ∈ u_ws RX3 TX3 7, w.before args s = true := fun w hw => hts w (List.mem_cons_of_mem _ (List.mem_append_right _ hw))
  have lk0 := hts (.fieldLink RX3 11 "GlitchNets$Net" "kinds" "[I") (List.mem_of_getElem? (i := 1) rfl)
  have lk1 := hts (.fieldLink RX3 33 "GlitchNets$Net" "size" "I") (List.mem_of_getElem? (i := 2) rfl)
  have lk2 := hts (.fieldLink RX3 15 "GlitchNets$Net" "firsts" "[I") (List.mem_of_getElem? (i := 3) rfl)
  have lk3 := hts (.fieldLink RX3 18 "GlitchNets$Net" "seconds" "[I") (List.mem_of_getElem? (i := 4) rfl)
  have lk4 := hts (.fieldLink RX3 21 "GlitchNets$Net" "delays" "[I") (List.mem_of_getElem? (i := 5) rfl)
  have KR : ∀ (w0 : Mem) (H : Heap) (locs : List Loc) (pc : Nat) (ls : Array Slot), some w0 = some z0 → va_P D vwCl (wX3 a0 c w0) H → va_D A (wX3 a0 c w0) → va_S A s.heap H locs → decode cX3_append pc = .ok (.return_, 1) → W p l e rmX3_append s m args below meth cd H locs 0 0 Q (F0 m pc ls []) := by
    intro w0 H locs pc ls hr hP hD hS hd
    cases hr
    exact KR0 H locs pc ls hP hD hS hd
  have hl : lv_has ls 5 [(0, .ref (a0 0)), (1, .int p0), (2, .int p1), (3, .int p2), (4, .int p3)] := hl
  refine lv_aload_n (pc := 0) hx hb dX3_append_0 rfl (lv_at hl 0 rfl) ?_
  obtain ⟨r1, hc1, h⟩ := b1_i h
  refine g_all (st1 := [.int r1]) (gr_V (n := 0) (rest := []) (pc := 1) hx hb hml hown hts (cX3_isFull_met l D c tb sa sv a0 s0 _ hc1) gX3_append_X3_isFull rfl rfl rfl (by decide +kernel) rfl ⟨Nat.le_of_ble_eq_true rfl, Nat.le_of_ble_eq_true rfl⟩ ⟨Nat.zero_le _, Nat.zero_le _⟩ 0 3 rfl rfl rfl xE_ok hP hD hK (xE_ok.tr hE hS (g_free hD hS hA)) hl.1 (Nat.le_of_ble_eq_true rfl) dX3_append_1 rfl) hD hS hA rfl (fun H locs hP hD hS => ?_)
  refine lv_if_eq (tgt := 8) (pc := 4) hx hb dX3_append_4 (by decide) (fun c4 => ?_) (fun c4 => ?_)
  · replace h := it_t c4 h
    refine lv_aload_n (pc := 8) hx hb dX3_append_8 rfl (lv_at hl 0 rfl) ?_
    refine va_get (D := D) (ci := 3) (v := .ref (a0 1)) (C := RX3) (T := TX3) (N := 7) (pc := 9) hx hb hfX3 (fun _ h9 => h9) hown hK hP 0 rfl rfl 0 (by decide) lk0 (fun _ h9 => h9) rfl dX3_append_9 ?_
    refine lv_aload_n (pc := 12) hx hb dX3_append_12 rfl (lv_at hl 0 rfl) ?_
    refine va_get (D := D) (ci := 3) (v := .int (s0.1 4 0)) (C := RX3) (T := TX3) (N := 7) (pc := 13) hx hb hfX3 (fun _ h9 => h9) hown hK hP 0 rfl rfl 4 (by decide) lk1 (fun _ h9 => h9) rfl dX3_append_13 ?_
    refine lv_iload_n (pc := 16) hx hb dX3_append_16 rfl (lv_at hl 1 rfl) ?_
    obtain ⟨hk17, h⟩ := ckI_i h
    refine va_iast (D := D) (f := (s0.1 0)) (pc := 17) hx hb hK hP hD hS 1 0 rfl rfl hk17 dX3_append_17 (fun H locs hP hD hS => ?_)
    have hP : va_P D vwCl (wX3 a0 c (mi s0 0 ((s0.1 4 0)).toNatClampNeg p0)) H := hP
    have hD : va_D A (wX3 a0 c (mi s0 0 ((s0.1 4 0)).toNatClampNeg p0)) := hD
    refine lv_aload_n (pc := 18) hx hb dX3_append_18 rfl (lv_at hl 0 rfl) ?_
    refine va_get (D := D) (ci := 3) (v := .ref (a0 2)) (C := RX3) (T := TX3) (N := 7) (pc := 19) hx hb hfX3 (fun _ h9 => h9) hown hK hP 0 rfl rfl 1 (by decide) lk2 (fun _ h9 => h9) rfl dX3_append_19 ?_
    refine lv_aload_n (pc := 22) hx hb dX3_append_22 rfl (lv_at hl 0 rfl) ?_
    refine va_get (D := D) (ci := 3) (v := .int ((mi s0 0 ((s0.1 4 0)).toNatClampNeg p0).1 4 0)) (C := RX3) (T := TX3) (N := 7) (pc := 23) hx hb hfX3 (fun _ h9 => h9) hown hK hP 0 rfl rfl 4 (by decide) lk1 (fun _ h9 => h9) rfl dX3_append_23 ?_
    refine lv_iload_n (pc := 26) hx hb dX3_append_26 rfl (lv_at hl 2 rfl) ?_
    obtain ⟨hk27, h⟩ := ckI_i h
    refine va_iast (D := D) (f := ((mi s0 0 ((s0.1 4 0)).toNatClampNeg p0).1 1)) (pc := 27) hx hb hK hP hD hS 2 0 rfl rfl hk27 dX3_append_27 (fun H locs hP hD hS => ?_)
    obtain ⟨m0_27, em0_27, h⟩ := lt_i h
    have hP : va_P D vwCl (wX3 a0 c m0_27) H := by rw [em0_27]; exact hP
    have hD : va_D A (wX3 a0 c m0_27) := by rw [em0_27]; exact hD
    refine lv_aload_n (pc := 28) hx hb dX3_append_28 rfl (lv_at hl 0 rfl) ?_
    refine va_get (D := D) (ci := 3) (v := .ref (a0 3)) (C := RX3) (T := TX3) (N := 7) (pc := 29) hx hb hfX3 (fun _ h9 => h9) hown hK hP 0 rfl rfl 2 (by decide) lk3 (fun _ h9 => h9) rfl dX3_append_29 ?_
    refine lv_aload_n (pc := 32) hx hb dX3_append_32 rfl (lv_at hl 0 rfl) ?_
    refine va_get (D := D) (ci := 3) (v := .int (m0_27.1 4 0)) (C := RX3) (T := TX3) (N := 7) (pc := 33) hx hb hfX3 (fun _ h9 => h9) hown hK hP 0 rfl rfl 4 (by decide) lk1 (fun _ h9 => h9) rfl dX3_append_33 ?_
    refine lv_iload_n (pc := 36) hx hb dX3_append_36 rfl (lv_at hl 3 rfl) ?_
    obtain ⟨hk37, h⟩ := ckI_i h
    refine va_iast (D := D) (f := (m0_27.1 2)) (pc := 37) hx hb hK hP hD hS 3 0 rfl rfl hk37 dX3_append_37 (fun H locs hP hD hS => ?_)
    have hP : va_P D vwCl (wX3 a0 c (mi m0_27 2 ((m0_27.1 4 0)).toNatClampNeg p2)) H := hP
    have hD : va_D A (wX3 a0 c (mi m0_27 2 ((m0_27.1 4 0)).toNatClampNeg p2)) := hD
    refine lv_aload_n (pc := 38) hx hb dX3_append_38 rfl (lv_at hl 0 rfl) ?_
    refine va_get (D := D) (ci := 3) (v := .ref (a0 4)) (C := RX3) (T := TX3) (N := 7) (pc := 39) hx hb hfX3 (fun _ h9 => h9) hown hK hP 0 rfl rfl 3 (by decide) lk4 (fun _ h9 => h9) rfl dX3_append_39 ?_
    refine lv_aload_n (pc := 42) hx hb dX3_append_42 rfl (lv_at hl 0 rfl) ?_
    refine va_get (D := D) (ci := 3) (v := .int ((mi m0_27 2 ((m0_27.1 4 0)).toNatClampNeg p2).1 4 0)) (C := RX3) (T := TX3) (N := 7) (pc := 43) hx hb hfX3 (fun _ h9 => h9) hown hK hP 0 rfl rfl 4 (by decide) lk1 (fun _ h9 => h9) rfl dX3_append_43 ?_
    refine lv_iload (pc := 46) hx hb dX3_append_46 (lv_at hl 4 rfl) ?_
    obtain ⟨hk48, h⟩ := ckI_i h
    refine va_iast (D := D) (f := ((mi m0_27 2 ((m0_27.1 4 0)).toNatClampNeg p2).1 3)) (pc := 48) hx hb hK hP hD hS 4 0 rfl rfl hk48 dX3_append_48 (fun H locs hP hD hS => ?_)
    obtain ⟨m0_48, em0_48, h⟩ := lt_i h
    have hP : va_P D vwCl (wX3 a0 c m0_48) H := by rw [em0_48]; exact hP
    have hD : va_D A (wX3 a0 c m0_48) := by rw [em0_48]; exact hD
    refine lv_aload_n (pc := 49) hx hb dX3_append_49 rfl (lv_at hl 0 rfl) ?_
    refine lv_dup (pc := 50) hx hb dX3_append_50 rfl ?_
    refine va_get (D := D) (ci := 3) (v := .int (m0_48.1 4 0)) (C := RX3) (T := TX3) (N := 7) (pc := 51) hx hb hfX3 (fun _ h9 => h9) hown hK hP 0 rfl rfl 4 (by decide) lk1 (fun _ h9 => h9) rfl dX3_append_51 ?_
    refine lv_iconst (v := 1) (pc := 54) hx hb dX3_append_54 (by decide) ?_
    refine lv_iadd (pc := 55) hx hb dX3_append_55 ?_
    refine va_put (D := D) (ci := 3) (v := .int ((m0_48.1 4 0) + (1 : Int32))) (ty := .int) (C := RX3) (T := TX3) (N := 7) (pc := 56) hx hb hfX3 (fun _ h9 => h9) tyX3 tyX3_ok nmX3 hown hK hP hD hS 0 rfl rfl 4 (by decide) lk1 (fun _ h9 => h9) rfl (by decide +kernel) rfl rfl (Nat.le_of_ble_eq_true rfl) dX3_append_56 (fun H locs hP hD hS => ?_)
    have hP : va_P D vwCl (wX3 a0 c (mi m0_48 4 0 ((m0_48.1 4 0) + (1 : Int32)))) H := hP
    have hD : va_D A (wX3 a0 c (mi m0_48 4 0 ((m0_48.1 4 0) + (1 : Int32)))) := hD
    have kr := KR (mi m0_48 4 0 ((m0_48.1 4 0) + (1 : Int32))) _ _ 59 ls h hP hD hS dX3_append_59
    exact kr
  · replace h := it_f c4 h
    have kr := KR s0 _ _ 7 ls h hP hD hS dX3_append_7
    exact kr
abbrev rmX3_output : Room := { frames := 0, cells := 0, slots := 0, locals := 0 }
set_option maxRecDepth 100000 in
set_option maxHeartbeats 40000000 in
theorem cX3_output_met (l : Launch) (D : va_G) (c : Nat → ClassId) (tb : Nat) (sa sv : Nat → Nat) (a0 : Nat → Nat) (s0 : Mem) (r0 : Int32) (h : fX3_output s0 = some r0) : gM l yX3_output wsX3_output rmX3_output D (gY c) (xE tb sa sv) [.ref (a0 0)] (wX3 a0 c s0) (some (.int r0)) (wX3 a0 c s0) := by
  unfold fX3_output at h
  refine gM.I (cc := cX3_output) (maxL := 1) (by decide) rfl (Nat.le_of_ble_eq_true rfl) ?_
  intro p e s m args below meth cd hx hb hml hown hts A hA ls hl hP hK hD hS hE Q KR0
  have hfX3 : ∀ w ∈ u_ws RX3 TX3 7, w.before args s = true := fun w hw => hts w (List.mem_cons_of_mem _ (List.mem_append_right _ hw))
  have lk0 := hts (.fieldLink RX3 33 "GlitchNets$Net" "size" "I") (List.mem_of_getElem? (i := 1) rfl)
  have KR : ∀ (v : Int32)  (H : Heap) (locs : List Loc) (pc : Nat) (ls : Array Slot), some v = some r0 → narrow .int (.int v) = .int v → va_P D vwCl (wX3 a0 c s0) H → va_D A (wX3 a0 c s0) → va_S A s.heap H locs → decode cX3_output pc = .ok (.ireturn, 1) → W p l e rmX3_output s m args below meth cd H locs 0 0 Q (F0 m pc ls [.int v]) := by
    intro v  H locs pc ls hr hn hP hD hS hd
    cases hr
    exact KR0 _ H locs pc ls rfl hn hP hD hS hd
  have hl : lv_has ls 1 [(0, .ref (a0 0))] := hl
  refine lv_aload_n (pc := 0) hx hb dX3_output_0 rfl (lv_at hl 0 rfl) ?_
  refine va_get (D := D) (ci := 3) (v := .int (s0.1 4 0)) (C := RX3) (T := TX3) (N := 7) (pc := 1) hx hb hfX3 (fun _ h9 => h9) hown hK hP 0 rfl rfl 4 (by decide) lk0 (fun _ h9 => h9) rfl dX3_output_1 ?_
  refine lv_iconst (v := 1) (pc := 4) hx hb dX3_output_4 (by decide) ?_
  refine lv_isub (pc := 5) hx hb dX3_output_5 ?_
  have kr := KR ((s0.1 4 0) - (1 : Int32))  _ _ 6 ls h rfl hP hD hS dX3_output_6
  exact kr
