abbrev rmX9_worst : Room := { frames := 3, cells := 0, slots := 0, locals := 69 }
set_option maxRecDepth 100000 in
set_option maxHeartbeats 40000000 in
theorem cX9_worst_met (l : Launch) (D : va_G) (c : Nat → ClassId) (a0 : Nat → Nat) (p0 : Int32) (s0 : Mem) (r0 : Int32) (z0 : Mem) (h : fX9_worst p0 s0 = some (r0, z0)) : gM l yX9_worst wsX9_worst rmX9_worst D (gY c) gT [.ref (a0 0), .int p0] (wX9 a0 c s0) (some (.int r0)) (wX9 a0 c z0) := by
  unfold fX9_worst at h
  refine gM.I (cc := cX9_worst) (maxL := 5) (by decide) rfl (Nat.le_of_ble_eq_true rfl) ?_
  intro p e s m args below meth cd hx hb hml hown hts A hA ls hl hP hK hD hS hE Q KR0
  have hfX9 : ∀ w ∈ u_ws RX9 TX9 24, w.before args s = true := fun w hw => hts w (List.mem_cons_of_mem _ (List.mem_append_right _ hw))
  have lk0 := hts (.fieldLink RX9 9 "GlitchNetsModel" "s" "[I") (List.mem_of_getElem? (i := 1) rfl)
  have lk1 := hts (.fieldLink RX9 154 "GlitchNetsModel" "flips" "I") (List.mem_of_getElem? (i := 2) rfl)
  have KR : ∀ (v : Int32) (w0 : Mem) (H : Heap) (locs : List Loc) (pc : Nat) (ls : Array Slot), some (v, w0) = some (r0, z0) → narrow .int (.int v) = .int v → va_P D vwCl (wX9 a0 c w0) H → va_D A (wX9 a0 c w0) → va_S A s.heap H locs → decode cX9_worst pc = .ok (.ireturn, 1) → W p l e rmX9_worst s m args below meth cd H locs 0 0 Q (F0 m pc ls [.int v]) := by
    intro v w0 H locs pc ls hr hn hP hD hS hd
    cases hr
    exact KR0 _ H locs pc ls rfl hn hP hD hS hd
  have hl : lv_has ls 5 [(0, .ref (a0 0)), (1, .int p0)] := hl
  have J104 : ∀ (K31 : Int32 → Int32 → Int32 → Int32 → Mem → Option (Int32 × Mem)) (K31h : ∀ (x1 : Int32) (x2 : Int32) (x3 : Int32) (x4 : Int32) (s0 : Mem) (H : Heap) (locs : List Loc) (ls : Array Slot), K31 x1 x2 x3 x4 s0 = some (r0, z0) → va_P D vwCl (wX9 a0 c s0) H → va_D A (wX9 a0 c s0) → va_S A s.heap H locs → lv_has ls 5 [(0, .ref (a0 0)), (1, .int x1), (2, .int x2), (3, .int x3), (4, .int x4)] → W p l e rmX9_worst s m args below meth cd H locs 0 0 Q (F0 m 31 ls [])) (x1 : Int32) (x2 : Int32) (x3 : Int32) (x4 : Int32) (s0 : Mem) (H : Heap) (locs : List Loc) (ls : Array Slot), fX9_worst_b104 K31 x1 x2 x3 x4 s0 = some (r0, z0) → va_P D vwCl (wX9 a0 c s0) H → va_D A (wX9 a0 c s0) → va_S A s.heap H locs → lv_has ls 5 [(0, .ref (a0 0)), (1, .int x1), (2, .int x2), (3, .int x3), (4, .int x4)] → W p l e rmX9_worst s m args below meth cd H locs 0 0 Q (F0 m 104 ls []) := by
    intro K31 K31h x1 x2 x3 x4 s0 H locs ls h hP hD hS hl
    unfold fX9_worst_b104 at h
    obtain ⟨v4_104, ev4_104, h⟩ := lt_i h
    refine lv_iinc (v := v4_104) (lv' := [(4, .int v4_104), (0, .ref (a0 0)), (1, .int x1), (2, .int x2), (3, .int x3)]) (pc := 104) hx hb dX9_worst_104 hl (k := 4) rfl (by rw [ev4_104]; rfl) (by decide) rfl (fun ls hl => ?_)
    refine lv_goto (tgt := 31) (pc := 107) hx hb dX9_worst_107 (by decide) ?_
    have jr := K31h x1 x2 x3 v4_104 s0 _ _ ls h hP hD hS (lv_sub hl [1, 2, 3, 4, 0] rfl)
    exact jr
  have J103 : ∀ (K31 : Int32 → Int32 → Int32 → Int32 → Mem → Option (Int32 × Mem)) (K31h : ∀ (x1 : Int32) (x2 : Int32) (x3 : Int32) (x4 : Int32) (s0 : Mem) (H : Heap) (locs : List Loc) (ls : Array Slot), K31 x1 x2 x3 x4 s0 = some (r0, z0) → va_P D vwCl (wX9 a0 c s0) H → va_D A (wX9 a0 c s0) → va_S A s.heap H locs → lv_has ls 5 [(0, .ref (a0 0)), (1, .int x1), (2, .int x2), (3, .int x3), (4, .int x4)] → W p l e rmX9_worst s m args below meth cd H locs 0 0 Q (F0 m 31 ls [])) (x1 : Int32) (x3 : Int32) (x4 : Int32) (y0 : Int32) (s0 : Mem) (H : Heap) (locs : List Loc) (ls : Array Slot), fX9_worst_b103 K31 x1 x3 x4 y0 s0 = some (r0, z0) → va_P D vwCl (wX9 a0 c s0) H → va_D A (wX9 a0 c s0) → va_S A s.heap H locs → lv_has ls 5 [(0, .ref (a0 0)), (1, .int x1), (3, .int x3), (4, .int x4)] → W p l e rmX9_worst s m args below meth cd H locs 0 0 Q (F0 m 103 ls [.int y0]) := by
    intro K31 K31h x1 x3 x4 y0 s0 H locs ls h hP hD hS hl
    unfold fX9_worst_b103 at h
    refine lv_istore_n (lv' := [(2, .int y0), (0, .ref (a0 0)), (1, .int x1), (3, .int x3), (4, .int x4)]) (pc := 103) hx hb dX9_worst_103 rfl hl (by decide) rfl (fun ls hl => ?_)
    have jr := J104 K31 K31h x1 y0 x3 x4 s0 _ _ ls h hP hD hS (lv_sub hl [1, 2, 0, 3, 4] rfl)
    exact jr
  have J86 : ∀ (K31 : Int32 → Int32 → Int32 → Int32 → Mem → Option (Int32 × Mem)) (K31h : ∀ (x1 : Int32) (x2 : Int32) (x3 : Int32) (x4 : Int32) (s0 : Mem) (H : Heap) (locs : List Loc) (ls : Array Slot), K31 x1 x2 x3 x4 s0 = some (r0, z0) → va_P D vwCl (wX9 a0 c s0) H → va_D A (wX9 a0 c s0) → va_S A s.heap H locs → lv_has ls 5 [(0, .ref (a0 0)), (1, .int x1), (2, .int x2), (3, .int x3), (4, .int x4)] → W p l e rmX9_worst s m args below meth cd H locs 0 0 Q (F0 m 31 ls [])) (x1 : Int32) (x2 : Int32) (x4 : Int32) (y0 : Int32) (s0 : Mem) (H : Heap) (locs : List Loc) (ls : Array Slot), fX9_worst_b86 K31 x1 x2 x4 y0 s0 = some (r0, z0) → va_P D vwCl (wX9 a0 c s0) H → va_D A (wX9 a0 c s0) → va_S A s.heap H locs → lv_has ls 5 [(0, .ref (a0 0)), (1, .int x1), (2, .int x2), (4, .int x4)] → W p l e rmX9_worst s m args below meth cd H locs 0 0 Q (F0 m 86 ls [.int y0]) := by
    intro K31 K31h x1 x2 x4 y0 s0 H locs ls h hP hD hS hl
    unfold fX9_worst_b86 at h
    refine lv_istore_n (lv' := [(3, .int y0), (0, .ref (a0 0)), (1, .int x1), (2, .int x2), (4, .int x4)]) (pc := 86) hx hb dX9_worst_86 rfl hl (by decide) rfl (fun ls hl => ?_)
    refine lv_aload_n (pc := 87) hx hb dX9_worst_87 rfl (lv_at hl 1 rfl) ?_
    refine va_get (D := D) (ci := 9) (v := .int (s0.1 14 0)) (C := RX9) (T := TX9) (N := 24) (pc := 88) hx hb hfX9 (fun _ h9 => h9) hown hK hP 0 rfl rfl 14 (by decide) lk1 (fun _ h9 => h9) rfl dX9_worst_88 ?_
    refine lv_iload_n (pc := 91) hx hb dX9_worst_91 rfl (lv_at hl 3 rfl) ?_
    refine lv_icmp_le (tgt := 102) (pc := 92) hx hb dX9_worst_92 (by decide) (fun c92 => ?_) (fun c92 => ?_)
    · replace h := it_t c92 h
      refine lv_iload_n (pc := 102) hx hb dX9_worst_102 rfl (lv_at hl 3 rfl) ?_
      have jr := J103 K31 K31h x1 y0 x4 x2 s0 _ _ ls h hP hD hS (lv_sub hl [1, 2, 0, 4] rfl)
      exact jr
    · replace h := it_f c92 h
      refine lv_aload_n (pc := 95) hx hb dX9_worst_95 rfl (lv_at hl 1 rfl) ?_
      refine va_get (D := D) (ci := 9) (v := .int (s0.1 14 0)) (C := RX9) (T := TX9) (N := 24) (pc := 96) hx hb hfX9 (fun _ h9 => h9) hown hK hP 0 rfl rfl 14 (by decide) lk1 (fun _ h9 => h9) rfl dX9_worst_96 ?_
      refine lv_goto (tgt := 103) (pc := 99) hx hb dX9_worst_99 (by decide) ?_
      have jr := J103 K31 K31h x1 y0 x4 ((s0.1 14 0)) s0 _ _ ls h hP hD hS (lv_sub hl [1, 2, 0, 4] rfl)
      exact jr
  have J31 : ∀ (n : Nat) (x1 : Int32) (x2 : Int32) (x3 : Int32) (x4 : Int32) (s0 : Mem) (H : Heap) (locs : List Loc) (ls : Array Slot), fX9_worst_b31 n x1 x2 x3 x4 s0 = some (r0, z0) → va_P D vwCl (wX9 a0 c s0) H → va_D A (wX9 a0 c s0) → va_S A s.heap H locs → lv_has ls 5 [(0, .ref (a0 0)), (1, .int x1), (2, .int x2), (3, .int x3), (4, .int x4)] → W p l e rmX9_worst s m args below meth cd H locs 0 0 Q (F0 m 31 ls []) := by
    intro n
    induction n with
    | zero =>
      intro x1 x2 x3 x4 s0 H locs ls h _ _ _ _
      cases (show (none : Option (Int32 × Mem)) = some _ from h)
    | succ n K31h =>
      intro x1 x2 x3 x4 s0 H locs ls h hP hD hS hl
      rw [fX9_worst_b31] at h
      refine lv_iload (pc := 31) hx hb dX9_worst_31 (lv_at hl 4 rfl) ?_
      refine lv_sipush (v := 256) (pc := 33) hx hb dX9_worst_33 (by decide) ?_
      refine lv_icmp_ge (tgt := 110) (pc := 36) hx hb dX9_worst_36 (by decide) (fun c36 => ?_) (fun c36 => ?_)
      · replace h := it_t c36 h
        refine lv_iload_n (pc := 110) hx hb dX9_worst_110 rfl (lv_at hl 1 rfl) ?_
        refine lv_if_ne (tgt := 121) (pc := 111) hx hb dX9_worst_111 (by decide) (fun c111 => ?_) (fun c111 => ?_)
        · replace h := it_f c111 h
          refine lv_iload_n (pc := 121) hx hb dX9_worst_121 rfl (lv_at hl 1 rfl) ?_
          refine lv_iconst (v := 1) (pc := 122) hx hb dX9_worst_122 (by decide) ?_
          refine lv_icmp_ne (tgt := 133) (pc := 123) hx hb dX9_worst_123 (by decide) (fun c123 => ?_) (fun c123 => ?_)
          · replace h := it_f c123 h
            refine lv_iload_n (pc := 133) hx hb dX9_worst_133 rfl (lv_at hl 2 rfl) ?_
            have kr := KR x2 s0 _ _ 134 ls h rfl hP hD hS dX9_worst_134
            exact kr
          · replace h := it_t c123 h
            refine lv_iload_n (pc := 126) hx hb dX9_worst_126 rfl (lv_at hl 3 rfl) ?_
            refine lv_bipush (v := 16) (pc := 127) hx hb dX9_worst_127 (by decide) ?_
            obtain ⟨hz129, h⟩ := ck0_i h
            refine lv_irem (pc := 129) hx hb dX9_worst_129 hz129 ?_
            refine lv_goto (tgt := 134) (pc := 130) hx hb dX9_worst_130 (by decide) ?_
            have kr := KR (x3 - x3 / (16 : Int32) * (16 : Int32)) s0 _ _ 134 ls h rfl hP hD hS dX9_worst_134
            exact kr
        · replace h := it_t c111 h
          refine lv_iload_n (pc := 114) hx hb dX9_worst_114 rfl (lv_at hl 3 rfl) ?_
          refine lv_bipush (v := 16) (pc := 115) hx hb dX9_worst_115 (by decide) ?_
          obtain ⟨hz117, h⟩ := ck0_i h
          refine lv_idiv (pc := 117) hx hb dX9_worst_117 hz117 ?_
          refine lv_goto (tgt := 134) (pc := 118) hx hb dX9_worst_118 (by decide) ?_
          have kr := KR (x3 / (16 : Int32)) s0 _ _ 134 ls h rfl hP hD hS dX9_worst_134
          exact kr
      · replace h := it_f c36 h
        refine lv_iload (pc := 39) hx hb dX9_worst_39 (lv_at hl 4 rfl) ?_
        refine lv_bipush (v := 16) (pc := 41) hx hb dX9_worst_41 (by decide) ?_
        obtain ⟨hz43, h⟩ := ck0_i h
        refine lv_idiv (pc := 43) hx hb dX9_worst_43 hz43 ?_
        refine lv_iload (pc := 44) hx hb dX9_worst_44 (lv_at hl 4 rfl) ?_
        refine lv_bipush (v := 16) (pc := 46) hx hb dX9_worst_46 (by decide) ?_
        obtain ⟨hz48, h⟩ := ck0_i h
        refine lv_irem (pc := 48) hx hb dX9_worst_48 hz48 ?_
        obtain ⟨r49, hc49, h⟩ := b1_i h
        refine g_none (st1 := [.int r49]) (gr_S (n := 2) (rest := []) (pc := 49) hx hb hml hown hts (cX9_isOne_met l D c ((x4 / (16 : Int32))) ((x4 - x4 / (16 : Int32) * (16 : Int32))) _ hc49) gX9_worst_X9_isOne rfl rfl rfl (by decide +kernel) rfl ⟨Nat.le_of_ble_eq_true rfl, Nat.le_of_ble_eq_true rfl⟩ ⟨Nat.zero_le _, Nat.zero_le _⟩ gT_ok g_P0 (g_D0 (A := A)) hK (fun _ _ _ => trivial) hl.1 (Nat.le_of_ble_eq_true rfl) dX9_worst_49 rfl) hP hS hA rfl (fun H locs hP hS => ?_)
        refine lv_if_ne (tgt := 58) (pc := 52) hx hb dX9_worst_52 (by decide) (fun c52 => ?_) (fun c52 => ?_)
        · replace h := it_f c52 h
          refine lv_aload_n (pc := 58) hx hb dX9_worst_58 rfl (lv_at hl 0 rfl) ?_
          refine lv_iload (pc := 59) hx hb dX9_worst_59 (lv_at hl 4 rfl) ?_
          refine lv_bipush (v := 16) (pc := 61) hx hb dX9_worst_61 (by decide) ?_
          obtain ⟨hz63, h⟩ := ck0_i h
          refine lv_idiv (pc := 63) hx hb dX9_worst_63 hz63 ?_
          refine lv_iload (pc := 64) hx hb dX9_worst_64 (lv_at hl 4 rfl) ?_
          refine lv_bipush (v := 16) (pc := 66) hx hb dX9_worst_66 (by decide) ?_
          obtain ⟨hz68, h⟩ := ck0_i h
          refine lv_irem (pc := 68) hx hb dX9_worst_68 hz68 ?_
          obtain ⟨t0_69, hc69, h⟩ := b1_i h
          refine g_all (st1 := []) (gr_V (n := 2) (rest := []) (pc := 69) hx hb hml hown hts (cX9_waves_met l D c a0 ((x4 / (16 : Int32))) ((x4 - x4 / (16 : Int32) * (16 : Int32))) s0 _ hc69) gX9_worst_X9_waves rfl rfl rfl (by decide +kernel) rfl ⟨Nat.le_of_ble_eq_true rfl, Nat.le_of_ble_eq_true rfl⟩ ⟨Nat.zero_le _, Nat.zero_le _⟩ 0 9 rfl rfl rfl gT_ok hP hD hK (fun _ _ _ => trivial) hl.1 (Nat.le_of_ble_eq_true rfl) dX9_worst_69 rfl) hD hS hA rfl (fun H locs hP hD hS => ?_)
          refine lv_aload_n (pc := 72) hx hb dX9_worst_72 rfl (lv_at hl 0 rfl) ?_
          refine va_get (D := D) (ci := 9) (v := .int (t0_69.1 14 0)) (C := RX9) (T := TX9) (N := 24) (pc := 73) hx hb hfX9 (fun _ h9 => h9) hown hK hP 0 rfl rfl 14 (by decide) lk1 (fun _ h9 => h9) rfl dX9_worst_73 ?_
          refine lv_iload_n (pc := 76) hx hb dX9_worst_76 rfl (lv_at hl 2 rfl) ?_
          refine lv_icmp_le (tgt := 85) (pc := 77) hx hb dX9_worst_77 (by decide) (fun c77 => ?_) (fun c77 => ?_)
          · replace h := it_t c77 h
            refine lv_iload_n (pc := 85) hx hb dX9_worst_85 rfl (lv_at hl 3 rfl) ?_
            have jr := J86 (fX9_worst_b31 n) K31h x1 x2 x4 x3 t0_69 _ _ ls h hP hD hS (lv_sub hl [0, 1, 2, 4] rfl)
            exact jr
          · replace h := it_f c77 h
            refine lv_iload (pc := 80) hx hb dX9_worst_80 (lv_at hl 4 rfl) ?_
            refine lv_goto (tgt := 86) (pc := 82) hx hb dX9_worst_82 (by decide) ?_
            have jr := J86 (fX9_worst_b31 n) K31h x1 x2 x4 x4 t0_69 _ _ ls h hP hD hS (lv_sub hl [0, 1, 2, 4] rfl)
            exact jr
        · replace h := it_t c52 h
          refine lv_goto (tgt := 104) (pc := 55) hx hb dX9_worst_55 (by decide) ?_
          have jr := J104 (fX9_worst_b31 n) K31h x1 x2 x3 x4 s0 _ _ ls h hP hD hS hl
          exact jr
  refine lv_iload_n (pc := 0) hx hb dX9_worst_0 rfl (lv_at hl 1 rfl) ?_
  refine lv_iconst (v := 0) (pc := 1) hx hb dX9_worst_1 (by decide) ?_
  refine lv_iconst (v := 2) (pc := 2) hx hb dX9_worst_2 (by decide) ?_
  obtain ⟨r3, hc3, h⟩ := b1_i h
  refine g_none (st1 := [.int r3]) (gr_S (n := 3) (rest := []) (pc := 3) hx hb hml hown hts (cX9_isIn_met l D c p0 (0 : Int32) (2 : Int32) _ hc3) gX9_worst_X9_isIn rfl rfl rfl (by decide +kernel) rfl ⟨Nat.le_of_ble_eq_true rfl, Nat.le_of_ble_eq_true rfl⟩ ⟨Nat.zero_le _, Nat.zero_le _⟩ gT_ok g_P0 (g_D0 (A := A)) hK (fun _ _ _ => trivial) hl.1 (Nat.le_of_ble_eq_true rfl) dX9_worst_3 rfl) hP hS hA rfl (fun H locs hP hS => ?_)
  refine lv_if_ne (tgt := 12) (pc := 6) hx hb dX9_worst_6 (by decide) (fun c6 => ?_) (fun c6 => ?_)
  · replace h := it_f c6 h
    refine lv_aload_n (pc := 12) hx hb dX9_worst_12 rfl (lv_at hl 0 rfl) ?_
    refine va_get (D := D) (ci := 9) (v := .ref (a0 1)) (C := RX9) (T := TX9) (N := 24) (pc := 13) hx hb hfX9 (fun _ h9 => h9) hown hK hP 0 rfl rfl 0 (by decide) lk0 (fun _ h9 => h9) rfl dX9_worst_13 ?_
    refine lv_iconst (v := 0) (pc := 16) hx hb dX9_worst_16 (by decide) ?_
    obtain ⟨hk17, h⟩ := ckI_i h
    refine va_iald (D := D) (f := (s0.1 0)) (pc := 17) hx hb hK hP 1 0 rfl rfl hk17 dX9_worst_17 ?_
    refine lv_if_ne (tgt := 24) (pc := 18) hx hb dX9_worst_18 (by decide) (fun c18 => ?_) (fun c18 => ?_)
    · replace h := it_f c18 h
      refine lv_iconst (v := -1) (pc := 24) hx hb dX9_worst_24 (by decide) ?_
      refine lv_istore_n (lv' := [(2, .int (-1 : Int32)), (0, .ref (a0 0)), (1, .int p0)]) (pc := 25) hx hb dX9_worst_25 rfl hl (by decide) rfl (fun ls hl => ?_)
      refine lv_iconst (v := 0) (pc := 26) hx hb dX9_worst_26 (by decide) ?_
      refine lv_istore_n (lv' := [(3, .int (0 : Int32)), (2, .int (-1 : Int32)), (0, .ref (a0 0)), (1, .int p0)]) (pc := 27) hx hb dX9_worst_27 rfl hl (by decide) rfl (fun ls hl => ?_)
      refine lv_iconst (v := 0) (pc := 28) hx hb dX9_worst_28 (by decide) ?_
      refine lv_istore (lv' := [(4, .int (0 : Int32)), (3, .int (0 : Int32)), (2, .int (-1 : Int32)), (0, .ref (a0 0)), (1, .int p0)]) (pc := 29) hx hb dX9_worst_29 hl (by decide) rfl (fun ls hl => ?_)
      have jr := J31 FU p0 (-1 : Int32) (0 : Int32) (0 : Int32) s0 _ _ ls h hP hD hS (lv_sub hl [3, 4, 2, 1, 0] rfl)
      exact jr
    · replace h := it_t c18 h
      refine lv_bipush (v := -3) (pc := 21) hx hb dX9_worst_21 (by decide) ?_
      have kr := KR (-3 : Int32) s0 _ _ 23 ls h rfl hP hD hS dX9_worst_23
      exact kr
  · replace h := it_t c6 h
    refine lv_bipush (v := -2) (pc := 9) hx hb dX9_worst_9 (by decide) ?_
    have kr := KR (-2 : Int32) s0 _ _ 11 ls h rfl hP hD hS dX9_worst_11
    exact kr
abbrev rmX9_glitches : Room := { frames := 3, cells := 0, slots := 0, locals := 69 }
set_option maxRecDepth 100000 in
set_option maxHeartbeats 40000000 in
theorem cX9_glitches_met (l : Launch) (D : va_G) (c : Nat → ClassId) (a0 : Nat → Nat) (p0 : Int32) (s0 : Mem) (r0 : Int32) (z0 : Mem) (h : fX9_glitches p0 s0 = some (r0, z0)) : gM l yX9_glitches wsX9_glitches rmX9_glitches D (gY c) gT [.ref (a0 0), .int p0] (wX9 a0 c s0) (some (.int r0)) (wX9 a0 c z0) := by
  unfold fX9_glitches at h
  refine gM.I (cc := cX9_glitches) (maxL := 4) (by decide) rfl (Nat.le_of_ble_eq_true rfl) ?_
  intro p e s m args below meth cd hx hb hml hown hts A hA ls hl hP hK hD hS hE Q KR0
  have hfX9 : ∀ w ∈ u_ws RX9 TX9 24, w.before args s = true := fun w hw => hts w (List.mem_cons_of_mem _ (List.mem_append_right _ hw))
  have lk0 := hts (.fieldLink RX9 9 "GlitchNetsModel" "s" "[I") (List.mem_of_getElem? (i := 1) rfl)
  have KR : ∀ (v : Int32) (w0 : Mem) (H : Heap) (locs : List Loc) (pc : Nat) (ls : Array Slot), some (v, w0) = some (r0, z0) → narrow .int (.int v) = .int v → va_P D vwCl (wX9 a0 c w0) H → va_D A (wX9 a0 c w0) → va_S A s.heap H locs → decode cX9_glitches pc = .ok (.ireturn, 1) → W p l e rmX9_glitches s m args below meth cd H locs 0 0 Q (F0 m pc ls [.int v]) := by
    intro v w0 H locs pc ls hr hn hP hD hS hd
    cases hr
    exact KR0 _ H locs pc ls rfl hn hP hD hS hd
  have hl : lv_has ls 4 [(0, .ref (a0 0)), (1, .int p0)] := hl
  have J80 : ∀ (K28 : Int32 → Int32 → Int32 → Mem → Option (Int32 × Mem)) (K28h : ∀ (x1 : Int32) (x2 : Int32) (x3 : Int32) (s0 : Mem) (H : Heap) (locs : List Loc) (ls : Array Slot), K28 x1 x2 x3 s0 = some (r0, z0) → va_P D vwCl (wX9 a0 c s0) H → va_D A (wX9 a0 c s0) → va_S A s.heap H locs → lv_has ls 4 [(0, .ref (a0 0)), (1, .int x1), (2, .int x2), (3, .int x3)] → W p l e rmX9_glitches s m args below meth cd H locs 0 0 Q (F0 m 28 ls [])) (x1 : Int32) (x2 : Int32) (x3 : Int32) (s0 : Mem) (H : Heap) (locs : List Loc) (ls : Array Slot), fX9_glitches_b80 K28 x1 x2 x3 s0 = some (r0, z0) → va_P D vwCl (wX9 a0 c s0) H → va_D A (wX9 a0 c s0) → va_S A s.heap H locs → lv_has ls 4 [(0, .ref (a0 0)), (1, .int x1), (2, .int x2), (3, .int x3)] → W p l e rmX9_glitches s m args below meth cd H locs 0 0 Q (F0 m 80 ls []) := by
    intro K28 K28h x1 x2 x3 s0 H locs ls h hP hD hS hl
    unfold fX9_glitches_b80 at h
    obtain ⟨v3_80, ev3_80, h⟩ := lt_i h
    refine lv_iinc (v := v3_80) (lv' := [(3, .int v3_80), (0, .ref (a0 0)), (1, .int x1), (2, .int x2)]) (pc := 80) hx hb dX9_glitches_80 hl (k := 3) rfl (by rw [ev3_80]; rfl) (by decide) rfl (fun ls hl => ?_)
    refine lv_goto (tgt := 28) (pc := 83) hx hb dX9_glitches_83 (by decide) ?_
    have jr := K28h x1 x2 v3_80 s0 _ _ ls h hP hD hS (lv_sub hl [1, 2, 3, 0] rfl)
    exact jr
  have J78 : ∀ (K28 : Int32 → Int32 → Int32 → Mem → Option (Int32 × Mem)) (K28h : ∀ (x1 : Int32) (x2 : Int32) (x3 : Int32) (s0 : Mem) (H : Heap) (locs : List Loc) (ls : Array Slot), K28 x1 x2 x3 s0 = some (r0, z0) → va_P D vwCl (wX9 a0 c s0) H → va_D A (wX9 a0 c s0) → va_S A s.heap H locs → lv_has ls 4 [(0, .ref (a0 0)), (1, .int x1), (2, .int x2), (3, .int x3)] → W p l e rmX9_glitches s m args below meth cd H locs 0 0 Q (F0 m 28 ls [])) (x1 : Int32) (x3 : Int32) (y0 : Int32) (y1 : Int32) (s0 : Mem) (H : Heap) (locs : List Loc) (ls : Array Slot), fX9_glitches_b78 K28 x1 x3 y0 y1 s0 = some (r0, z0) → va_P D vwCl (wX9 a0 c s0) H → va_D A (wX9 a0 c s0) → va_S A s.heap H locs → lv_has ls 4 [(0, .ref (a0 0)), (1, .int x1), (3, .int x3)] → W p l e rmX9_glitches s m args below meth cd H locs 0 0 Q (F0 m 78 ls [.int y0, .int y1]) := by
    intro K28 K28h x1 x3 y0 y1 s0 H locs ls h hP hD hS hl
    unfold fX9_glitches_b78 at h
    refine lv_iadd (pc := 78) hx hb dX9_glitches_78 ?_
    refine lv_topi (fun v2_79 ev2_79 => ?_)
    replace h := lt_e ev2_79 h
    refine lv_istore_n (lv' := [(2, .int v2_79), (0, .ref (a0 0)), (1, .int x1), (3, .int x3)]) (pc := 79) hx hb dX9_glitches_79 rfl hl (by decide) rfl (fun ls hl => ?_)
    have jr := J80 K28 K28h x1 v2_79 x3 s0 _ _ ls h hP hD hS (lv_sub hl [1, 2, 0, 3] rfl)
    exact jr
  have J28 : ∀ (n : Nat) (x1 : Int32) (x2 : Int32) (x3 : Int32) (s0 : Mem) (H : Heap) (locs : List Loc) (ls : Array Slot), fX9_glitches_b28 n x1 x2 x3 s0 = some (r0, z0) → va_P D vwCl (wX9 a0 c s0) H → va_D A (wX9 a0 c s0) → va_S A s.heap H locs → lv_has ls 4 [(0, .ref (a0 0)), (1, .int x1), (2, .int x2), (3, .int x3)] → W p l e rmX9_glitches s m args below meth cd H locs 0 0 Q (F0 m 28 ls []) := by
    intro n
    induction n with
    | zero =>
      intro x1 x2 x3 s0 H locs ls h _ _ _ _
      cases (show (none : Option (Int32 × Mem)) = some _ from h)
    | succ n K28h =>
      intro x1 x2 x3 s0 H locs ls h hP hD hS hl
      rw [fX9_glitches_b28] at h
      refine lv_iload_n (pc := 28) hx hb dX9_glitches_28 rfl (lv_at hl 3 rfl) ?_
      refine lv_sipush (v := 256) (pc := 29) hx hb dX9_glitches_29 (by decide) ?_
      refine lv_icmp_ge (tgt := 86) (pc := 32) hx hb dX9_glitches_32 (by decide) (fun c32 => ?_) (fun c32 => ?_)
      · replace h := it_t c32 h
        refine lv_iload_n (pc := 86) hx hb dX9_glitches_86 rfl (lv_at hl 2 rfl) ?_
        have kr := KR x2 s0 _ _ 87 ls h rfl hP hD hS dX9_glitches_87
        exact kr
      · replace h := it_f c32 h
        refine lv_iload_n (pc := 35) hx hb dX9_glitches_35 rfl (lv_at hl 3 rfl) ?_
        refine lv_bipush (v := 16) (pc := 36) hx hb dX9_glitches_36 (by decide) ?_
        obtain ⟨hz38, h⟩ := ck0_i h
        refine lv_idiv (pc := 38) hx hb dX9_glitches_38 hz38 ?_
        refine lv_iload_n (pc := 39) hx hb dX9_glitches_39 rfl (lv_at hl 3 rfl) ?_
        refine lv_bipush (v := 16) (pc := 40) hx hb dX9_glitches_40 (by decide) ?_
        obtain ⟨hz42, h⟩ := ck0_i h
        refine lv_irem (pc := 42) hx hb dX9_glitches_42 hz42 ?_
        obtain ⟨r43, hc43, h⟩ := b1_i h
        refine g_none (st1 := [.int r43]) (gr_S (n := 2) (rest := []) (pc := 43) hx hb hml hown hts (cX9_isOne_met l D c ((x3 / (16 : Int32))) ((x3 - x3 / (16 : Int32) * (16 : Int32))) _ hc43) gX9_glitches_X9_isOne rfl rfl rfl (by decide +kernel) rfl ⟨Nat.le_of_ble_eq_true rfl, Nat.le_of_ble_eq_true rfl⟩ ⟨Nat.zero_le _, Nat.zero_le _⟩ gT_ok g_P0 (g_D0 (A := A)) hK (fun _ _ _ => trivial) hl.1 (Nat.le_of_ble_eq_true rfl) dX9_glitches_43 rfl) hP hS hA rfl (fun H locs hP hS => ?_)
        refine lv_if_ne (tgt := 52) (pc := 46) hx hb dX9_glitches_46 (by decide) (fun c46 => ?_) (fun c46 => ?_)
        · replace h := it_f c46 h
          refine lv_aload_n (pc := 52) hx hb dX9_glitches_52 rfl (lv_at hl 0 rfl) ?_
          refine lv_iload_n (pc := 53) hx hb dX9_glitches_53 rfl (lv_at hl 3 rfl) ?_
          refine lv_bipush (v := 16) (pc := 54) hx hb dX9_glitches_54 (by decide) ?_
          obtain ⟨hz56, h⟩ := ck0_i h
          refine lv_idiv (pc := 56) hx hb dX9_glitches_56 hz56 ?_
          refine lv_iload_n (pc := 57) hx hb dX9_glitches_57 rfl (lv_at hl 3 rfl) ?_
          refine lv_bipush (v := 16) (pc := 58) hx hb dX9_glitches_58 (by decide) ?_
          obtain ⟨hz60, h⟩ := ck0_i h
          refine lv_irem (pc := 60) hx hb dX9_glitches_60 hz60 ?_
          obtain ⟨t0_61, hc61, h⟩ := b1_i h
          refine g_all (st1 := []) (gr_V (n := 2) (rest := []) (pc := 61) hx hb hml hown hts (cX9_waves_met l D c a0 ((x3 / (16 : Int32))) ((x3 - x3 / (16 : Int32) * (16 : Int32))) s0 _ hc61) gX9_glitches_X9_waves rfl rfl rfl (by decide +kernel) rfl ⟨Nat.le_of_ble_eq_true rfl, Nat.le_of_ble_eq_true rfl⟩ ⟨Nat.zero_le _, Nat.zero_le _⟩ 0 9 rfl rfl rfl gT_ok hP hD hK (fun _ _ _ => trivial) hl.1 (Nat.le_of_ble_eq_true rfl) dX9_glitches_61 rfl) hD hS hA rfl (fun H locs hP hD hS => ?_)
          refine lv_iload_n (pc := 64) hx hb dX9_glitches_64 rfl (lv_at hl 2 rfl) ?_
          refine lv_aload_n (pc := 65) hx hb dX9_glitches_65 rfl (lv_at hl 0 rfl) ?_
          obtain ⟨r66, hc66, h⟩ := b1_i h
          refine g_all (st1 := [.int r66, .int x2]) (gr_V (n := 0) (rest := [.int x2]) (pc := 66) hx hb hml hown hts (cX9_glitch_met l D c a0 t0_61 _ hc66) gX9_glitches_X9_glitch rfl rfl rfl (by decide +kernel) rfl ⟨Nat.le_of_ble_eq_true rfl, Nat.le_of_ble_eq_true rfl⟩ ⟨Nat.zero_le _, Nat.zero_le _⟩ 0 9 rfl rfl rfl gT_ok hP hD hK (fun _ _ _ => trivial) hl.1 (Nat.le_of_ble_eq_true rfl) dX9_glitches_66 rfl) hD hS hA rfl (fun H locs hP hD hS => ?_)
          refine lv_iload_n (pc := 69) hx hb dX9_glitches_69 rfl (lv_at hl 1 rfl) ?_
          refine lv_icmp_ne (tgt := 77) (pc := 70) hx hb dX9_glitches_70 (by decide) (fun c70 => ?_) (fun c70 => ?_)
          · replace h := it_f c70 h
            refine lv_iconst (v := 0) (pc := 77) hx hb dX9_glitches_77 (by decide) ?_
            have jr := J78 (fX9_glitches_b28 n) K28h x1 x3 (0 : Int32) x2 t0_61 _ _ ls h hP hD hS (lv_sub hl [0, 1, 3] rfl)
            exact jr
          · replace h := it_t c70 h
            refine lv_iconst (v := 1) (pc := 73) hx hb dX9_glitches_73 (by decide) ?_
            refine lv_goto (tgt := 78) (pc := 74) hx hb dX9_glitches_74 (by decide) ?_
            have jr := J78 (fX9_glitches_b28 n) K28h x1 x3 (1 : Int32) x2 t0_61 _ _ ls h hP hD hS (lv_sub hl [0, 1, 3] rfl)
            exact jr
        · replace h := it_t c46 h
          refine lv_goto (tgt := 80) (pc := 49) hx hb dX9_glitches_49 (by decide) ?_
          have jr := J80 (fX9_glitches_b28 n) K28h x1 x2 x3 s0 _ _ ls h hP hD hS hl
          exact jr
  refine lv_iload_n (pc := 0) hx hb dX9_glitches_0 rfl (lv_at hl 1 rfl) ?_
  refine lv_iconst (v := 0) (pc := 1) hx hb dX9_glitches_1 (by decide) ?_
  refine lv_iconst (v := 2) (pc := 2) hx hb dX9_glitches_2 (by decide) ?_
  obtain ⟨r3, hc3, h⟩ := b1_i h
  refine g_none (st1 := [.int r3]) (gr_S (n := 3) (rest := []) (pc := 3) hx hb hml hown hts (cX9_isIn_met l D c p0 (0 : Int32) (2 : Int32) _ hc3) gX9_glitches_X9_isIn rfl rfl rfl (by decide +kernel) rfl ⟨Nat.le_of_ble_eq_true rfl, Nat.le_of_ble_eq_true rfl⟩ ⟨Nat.zero_le _, Nat.zero_le _⟩ gT_ok g_P0 (g_D0 (A := A)) hK (fun _ _ _ => trivial) hl.1 (Nat.le_of_ble_eq_true rfl) dX9_glitches_3 rfl) hP hS hA rfl (fun H locs hP hS => ?_)
  refine lv_if_ne (tgt := 12) (pc := 6) hx hb dX9_glitches_6 (by decide) (fun c6 => ?_) (fun c6 => ?_)
  · replace h := it_f c6 h
    refine lv_aload_n (pc := 12) hx hb dX9_glitches_12 rfl (lv_at hl 0 rfl) ?_
    refine va_get (D := D) (ci := 9) (v := .ref (a0 1)) (C := RX9) (T := TX9) (N := 24) (pc := 13) hx hb hfX9 (fun _ h9 => h9) hown hK hP 0 rfl rfl 0 (by decide) lk0 (fun _ h9 => h9) rfl dX9_glitches_13 ?_
    refine lv_iconst (v := 0) (pc := 16) hx hb dX9_glitches_16 (by decide) ?_
    obtain ⟨hk17, h⟩ := ckI_i h
    refine va_iald (D := D) (f := (s0.1 0)) (pc := 17) hx hb hK hP 1 0 rfl rfl hk17 dX9_glitches_17 ?_
    refine lv_if_ne (tgt := 24) (pc := 18) hx hb dX9_glitches_18 (by decide) (fun c18 => ?_) (fun c18 => ?_)
    · replace h := it_f c18 h
      refine lv_iconst (v := 0) (pc := 24) hx hb dX9_glitches_24 (by decide) ?_
      refine lv_istore_n (lv' := [(2, .int (0 : Int32)), (0, .ref (a0 0)), (1, .int p0)]) (pc := 25) hx hb dX9_glitches_25 rfl hl (by decide) rfl (fun ls hl => ?_)
      refine lv_iconst (v := 0) (pc := 26) hx hb dX9_glitches_26 (by decide) ?_
      refine lv_istore_n (lv' := [(3, .int (0 : Int32)), (2, .int (0 : Int32)), (0, .ref (a0 0)), (1, .int p0)]) (pc := 27) hx hb dX9_glitches_27 rfl hl (by decide) rfl (fun ls hl => ?_)
      have jr := J28 FU p0 (0 : Int32) (0 : Int32) s0 _ _ ls h hP hD hS (lv_sub hl [2, 3, 1, 0] rfl)
      exact jr
    · replace h := it_t c18 h
      refine lv_bipush (v := -3) (pc := 21) hx hb dX9_glitches_21 (by decide) ?_
      have kr := KR (-3 : Int32) s0 _ _ 23 ls h rfl hP hD hS dX9_glitches_23
      exact kr
  · replace h := it_t c6 h
    refine lv_bipush (v := -2) (pc := 9) hx hb dX9_glitches_9 (by decide) ?_
    have kr := KR (-2 : Int32) s0 _ _ 11 ls h rfl hP hD hS dX9_glitches_11
    exact kr
abbrev rmX9_longest : Room := { frames := 18, cells := 0, slots := 0, locals := 413 }
set_option maxRecDepth 100000 in
set_option maxHeartbeats 40000000 in
theorem cX9_longest_met (l : Launch) (D : va_G) (c : Nat → ClassId) (a0 : Nat → Nat) (p0 : Int32) (s0 : Mem) (r0 : Int32) (h : fX9_longest p0 s0 = some r0) : gM l yX9_longest wsX9_longest rmX9_longest D (gY c) gT [.ref (a0 0), .int p0] (wX9 a0 c s0) (some (.int r0)) (wX9 a0 c s0) := by
  unfold fX9_longest at h
  refine gM.I (cc := cX9_longest) (maxL := 5) (by decide) rfl (Nat.le_of_ble_eq_true rfl) ?_
  intro p e s m args below meth cd hx hb hml hown hts A hA ls hl hP hK hD hS hE Q KR0
  have KR : ∀ (v : Int32)  (H : Heap) (locs : List Loc) (pc : Nat) (ls : Array Slot), some v = some r0 → narrow .int (.int v) = .int v → va_P D vwCl (wX9 a0 c s0) H → va_D A (wX9 a0 c s0) → va_S A s.heap H locs → decode cX9_longest pc = .ok (.ireturn, 1) → W p l e rmX9_longest s m args below meth cd H locs 0 0 Q (F0 m pc ls [.int v]) := by
    intro v  H locs pc ls hr hn hP hD hS hd
    cases hr
    exact KR0 _ H locs pc ls rfl hn hP hD hS hd
  have hl : lv_has ls 5 [(0, .ref (a0 0)), (1, .int p0)] := hl
  have J32 : ∀ (y0 : Int32) (H : Heap) (locs : List Loc) (ls : Array Slot), fX9_longest_b32 s0 y0 = some r0 → va_P D vwCl (wX9 a0 c s0) H → va_D A (wX9 a0 c s0) → va_S A s.heap H locs → lv_has ls 5 [] → W p l e rmX9_longest s m args below meth cd H locs 0 0 Q (F0 m 32 ls [.int y0]) := by
    intro y0 H locs ls h hP hD hS hl
    unfold fX9_longest_b32 at h
    refine lv_istore (lv' := [(4, .int y0)]) (pc := 32) hx hb dX9_longest_32 hl (by decide) rfl (fun ls hl => ?_)
    refine lv_iload (pc := 34) hx hb dX9_longest_34 (lv_at hl 0 rfl) ?_
    refine lv_if_ge (tgt := 43) (pc := 36) hx hb dX9_longest_36 (by decide) (fun c36 => ?_) (fun c36 => ?_)
    · replace h := it_t c36 h
      refine lv_iload (pc := 43) hx hb dX9_longest_43 (lv_at hl 0 rfl) ?_
      have kr := KR y0  _ _ 45 ls h rfl hP hD hS dX9_longest_45
      exact kr
    · replace h := it_f c36 h
      refine lv_iconst (v := -1) (pc := 39) hx hb dX9_longest_39 (by decide) ?_
      refine lv_goto (tgt := 45) (pc := 40) hx hb dX9_longest_40 (by decide) ?_
      have kr := KR (-1 : Int32)  _ _ 45 ls h rfl hP hD hS dX9_longest_45
      exact kr
  refine lv_aload_n (pc := 0) hx hb dX9_longest_0 rfl (lv_at hl 0 rfl) ?_
  refine lv_iload_n (pc := 1) hx hb dX9_longest_1 rfl (lv_at hl 1 rfl) ?_
  refine lv_iconst (v := 1) (pc := 2) hx hb dX9_longest_2 (by decide) ?_
  obtain ⟨r3, hc3, h⟩ := b1_i h
  refine g_all (st1 := [.int r3]) (gr_V (n := 2) (rest := []) (pc := 3) hx hb hml hown hts (cX9_of_met l D c a0 p0 (1 : Int32) s0 _ hc3) gX9_longest_X9_of rfl rfl rfl (by decide +kernel) rfl ⟨Nat.le_of_ble_eq_true rfl, Nat.le_of_ble_eq_true rfl⟩ ⟨Nat.zero_le _, Nat.zero_le _⟩ 0 9 rfl rfl rfl gT_ok hP hD hK (fun _ _ _ => trivial) hl.1 (Nat.le_of_ble_eq_true rfl) dX9_longest_3 rfl) hD hS hA rfl (fun H locs hP hD hS => ?_)
  refine lv_istore_n (lv' := [(2, .int r3), (0, .ref (a0 0)), (1, .int p0)]) (pc := 6) hx hb dX9_longest_6 rfl hl (by decide) rfl (fun ls hl => ?_)
  refine lv_aload_n (pc := 7) hx hb dX9_longest_7 rfl (lv_at hl 1 rfl) ?_
  refine lv_iload_n (pc := 8) hx hb dX9_longest_8 rfl (lv_at hl 2 rfl) ?_
  refine lv_iconst (v := 2) (pc := 9) hx hb dX9_longest_9 (by decide) ?_
  obtain ⟨r10, hc10, h⟩ := b1_i h
  refine g_all (st1 := [.int r10]) (gr_V (n := 2) (rest := []) (pc := 10) hx hb hml hown hts (cX9_of_met l D c a0 p0 (2 : Int32) s0 _ hc10) gX9_longest_X9_of rfl rfl rfl (by decide +kernel) rfl ⟨Nat.le_of_ble_eq_true rfl, Nat.le_of_ble_eq_true rfl⟩ ⟨Nat.zero_le _, Nat.zero_le _⟩ 0 9 rfl rfl rfl gT_ok hP hD hK (fun _ _ _ => trivial) hl.1 (Nat.le_of_ble_eq_true rfl) dX9_longest_10 rfl) hD hS hA rfl (fun H locs hP hD hS => ?_)
  refine lv_istore_n (lv' := [(3, .int r10), (2, .int r3), (0, .ref (a0 0)), (1, .int p0)]) (pc := 13) hx hb dX9_longest_13 rfl hl (by decide) rfl (fun ls hl => ?_)
  refine lv_aload_n (pc := 14) hx hb dX9_longest_14 rfl (lv_at hl 2 rfl) ?_
  refine lv_iload_n (pc := 15) hx hb dX9_longest_15 rfl (lv_at hl 0 rfl) ?_
  obtain ⟨r16, hc16, h⟩ := b1_i h
  refine g_all (st1 := [.int r16]) (gr_V (n := 1) (rest := []) (pc := 16) hx hb hml hown hts (cX9_pathOf_met l D c a0 16 r10 s0 _ hc16) gX9_longest_X9_pathOf rfl rfl rfl (by decide +kernel) rfl ⟨Nat.le_of_ble_eq_true rfl, Nat.le_of_ble_eq_true rfl⟩ ⟨Nat.zero_le _, Nat.zero_le _⟩ 0 9 rfl rfl rfl gT_ok hP hD hK (fun _ _ _ => trivial) hl.1 (Nat.le_of_ble_eq_true rfl) dX9_longest_16 rfl) hD hS hA rfl (fun H locs hP hD hS => ?_)
  refine lv_aload_n (pc := 19) hx hb dX9_longest_19 rfl (lv_at hl 2 rfl) ?_
  refine lv_iload_n (pc := 20) hx hb dX9_longest_20 rfl (lv_at hl 1 rfl) ?_
  obtain ⟨r21, hc21, h⟩ := b1_i h
  refine g_all (st1 := [.int r21, .int r16]) (gr_V (n := 1) (rest := [.int r16]) (pc := 21) hx hb hml hown hts (cX9_pathOf_met l D c a0 16 r3 s0 _ hc21) gX9_longest_X9_pathOf rfl rfl rfl (by decide +kernel) rfl ⟨Nat.le_of_ble_eq_true rfl, Nat.le_of_ble_eq_true rfl⟩ ⟨Nat.zero_le _, Nat.zero_le _⟩ 0 9 rfl rfl rfl gT_ok hP hD hK (fun _ _ _ => trivial) hl.1 (Nat.le_of_ble_eq_true rfl) dX9_longest_21 rfl) hD hS hA rfl (fun H locs hP hD hS => ?_)
  refine lv_icmp_le (tgt := 31) (pc := 24) hx hb dX9_longest_24 (by decide) (fun c24 => ?_) (fun c24 => ?_)
  · replace h := it_t c24 h
    refine lv_iload_n (pc := 31) hx hb dX9_longest_31 rfl (lv_at hl 1 rfl) ?_
    have jr := J32 r3 _ _ ls h hP hD hS (lv_sub hl [] rfl)
    exact jr
  · replace h := it_f c24 h
    refine lv_iload_n (pc := 27) hx hb dX9_longest_27 rfl (lv_at hl 0 rfl) ?_
    refine lv_goto (tgt := 32) (pc := 28) hx hb dX9_longest_28 (by decide) ?_
    have jr := J32 r10 _ _ ls h hP hD hS (lv_sub hl [] rfl)
    exact jr
abbrev rmX9_path : Room := { frames := 19, cells := 0, slots := 0, locals := 437 }
set_option maxRecDepth 100000 in
set_option maxHeartbeats 40000000 in
theorem cX9_path_met (l : Launch) (D : va_G) (c : Nat → ClassId) (a0 : Nat → Nat) (p0 : Int32) (s0 : Mem) (r0 : Int32) (h : fX9_path p0 s0 = some r0) : gM l yX9_path wsX9_path rmX9_path D (gY c) gT [.ref (a0 0), .int p0] (wX9 a0 c s0) (some (.int r0)) (wX9 a0 c s0) := by
  unfold fX9_path at h
  refine gM.I (cc := cX9_path) (maxL := 4) (by decide) rfl (Nat.le_of_ble_eq_true rfl) ?_
  intro p e s m args below meth cd hx hb hml hown hts A hA ls hl hP hK hD hS hE Q KR0
  have hfX9 : ∀ w ∈ u_ws RX9 TX9 24, w.before args s = true := fun w hw => hts w (List.mem_cons_of_mem _ (List.mem_append_right _ hw))
  have lk0 := hts (.fieldLink RX9 9 "GlitchNetsModel" "s" "[I") (List.mem_of_getElem? (i := 1) rfl)
  have KR : ∀ (v : Int32)  (H : Heap) (locs : List Loc) (pc : Nat) (ls : Array Slot), some v = some r0 → narrow .int (.int v) = .int v → va_P D vwCl (wX9 a0 c s0) H → va_D A (wX9 a0 c s0) → va_S A s.heap H locs → decode cX9_path pc = .ok (.ireturn, 1) → W p l e rmX9_path s m args below meth cd H locs 0 0 Q (F0 m pc ls [.int v]) := by
    intro v  H locs pc ls hr hn hP hD hS hd
    cases hr
    exact KR0 _ H locs pc ls rfl hn hP hD hS hd
  have hl : lv_has ls 4 [(0, .ref (a0 0)), (1, .int p0)] := hl
  have J26 : ∀ (n : Nat) (x1 : Int32) (x2 : Int32) (x3 : Int32) (H : Heap) (locs : List Loc) (ls : Array Slot), fX9_path_b26 s0 n x1 x2 x3 = some r0 → va_P D vwCl (wX9 a0 c s0) H → va_D A (wX9 a0 c s0) → va_S A s.heap H locs → lv_has ls 4 [(0, .ref (a0 0)), (1, .int x1), (2, .int x2), (3, .int x3)] → W p l e rmX9_path s m args below meth cd H locs 0 0 Q (F0 m 26 ls []) := by
    intro n
    induction n with
    | zero =>
      intro x1 x2 x3 H locs ls h _ _ _ _
      cases (show (none : Option (Int32)) = some _ from h)
    | succ n K26h =>
      intro x1 x2 x3 H locs ls h hP hD hS hl
      rw [fX9_path_b26] at h
      refine lv_iload_n (pc := 26) hx hb dX9_path_26 rfl (lv_at hl 3 rfl) ?_
      refine lv_iload_n (pc := 27) hx hb dX9_path_27 rfl (lv_at hl 1 rfl) ?_
      refine lv_icmp_ge (tgt := 48) (pc := 28) hx hb dX9_path_28 (by decide) (fun c28 => ?_) (fun c28 => ?_)
      · replace h := it_t c28 h
        refine lv_iload_n (pc := 48) hx hb dX9_path_48 rfl (lv_at hl 2 rfl) ?_
        have kr := KR x2  _ _ 49 ls h rfl hP hD hS dX9_path_49
        exact kr
      · replace h := it_f c28 h
        refine lv_iload_n (pc := 31) hx hb dX9_path_31 rfl (lv_at hl 2 rfl) ?_
        refine lv_iconst (v := -1) (pc := 32) hx hb dX9_path_32 (by decide) ?_
        refine lv_icmp_eq (tgt := 48) (pc := 33) hx hb dX9_path_33 (by decide) (fun c33 => ?_) (fun c33 => ?_)
        · replace h := it_t c33 h
          refine lv_iload_n (pc := 48) hx hb dX9_path_48 rfl (lv_at hl 2 rfl) ?_
          have kr := KR x2  _ _ 49 ls h rfl hP hD hS dX9_path_49
          exact kr
        · replace h := it_f c33 h
          refine lv_aload_n (pc := 36) hx hb dX9_path_36 rfl (lv_at hl 0 rfl) ?_
          refine lv_iload_n (pc := 37) hx hb dX9_path_37 rfl (lv_at hl 2 rfl) ?_
          obtain ⟨r38, hc38, h⟩ := b1_i h
          refine g_all (st1 := [.int r38]) (gr_V (n := 1) (rest := []) (pc := 38) hx hb hml hown hts (cX9_longest_met l D c a0 x2 s0 _ hc38) gX9_path_X9_longest rfl rfl rfl (by decide +kernel) rfl ⟨Nat.le_of_ble_eq_true rfl, Nat.le_of_ble_eq_true rfl⟩ ⟨Nat.zero_le _, Nat.zero_le _⟩ 0 9 rfl rfl rfl gT_ok hP hD hK (fun _ _ _ => trivial) hl.1 (Nat.le_of_ble_eq_true rfl) dX9_path_38 rfl) hD hS hA rfl (fun H locs hP hD hS => ?_)
          refine lv_istore_n (lv' := [(2, .int r38), (0, .ref (a0 0)), (1, .int x1), (3, .int x3)]) (pc := 41) hx hb dX9_path_41 rfl hl (by decide) rfl (fun ls hl => ?_)
          obtain ⟨v3_42, ev3_42, h⟩ := lt_i h
          refine lv_iinc (v := v3_42) (lv' := [(3, .int v3_42), (2, .int r38), (0, .ref (a0 0)), (1, .int x1)]) (pc := 42) hx hb dX9_path_42 hl (k := 3) rfl (by rw [ev3_42]; rfl) (by decide) rfl (fun ls hl => ?_)
          refine lv_goto (tgt := 26) (pc := 45) hx hb dX9_path_45 (by decide) ?_
          have jr := K26h x1 r38 v3_42 _ _ ls h hP hD hS (lv_sub hl [2, 3, 1, 0] rfl)
          exact jr
  refine lv_iload_n (pc := 0) hx hb dX9_path_0 rfl (lv_at hl 1 rfl) ?_
  refine lv_if_ge (tgt := 7) (pc := 1) hx hb dX9_path_1 (by decide) (fun c1 => ?_) (fun c1 => ?_)
  · replace h := it_t c1 h
    refine lv_aload_n (pc := 7) hx hb dX9_path_7 rfl (lv_at hl 0 rfl) ?_
    refine va_get (D := D) (ci := 9) (v := .ref (a0 1)) (C := RX9) (T := TX9) (N := 24) (pc := 8) hx hb hfX9 (fun _ h9 => h9) hown hK hP 0 rfl rfl 0 (by decide) lk0 (fun _ h9 => h9) rfl dX9_path_8 ?_
    refine lv_iconst (v := 0) (pc := 11) hx hb dX9_path_11 (by decide) ?_
    obtain ⟨hk12, h⟩ := ckI_i h
    refine va_iald (D := D) (f := (s0.1 0)) (pc := 12) hx hb hK hP 1 0 rfl rfl hk12 dX9_path_12 ?_
    refine lv_if_ne (tgt := 19) (pc := 13) hx hb dX9_path_13 (by decide) (fun c13 => ?_) (fun c13 => ?_)
    · replace h := it_f c13 h
      refine lv_aload_n (pc := 19) hx hb dX9_path_19 rfl (lv_at hl 0 rfl) ?_
      obtain ⟨r20, hc20, h⟩ := b1_i h
      refine g_all (st1 := [.int r20]) (gr_V (n := 0) (rest := []) (pc := 20) hx hb hml hown hts (cX9_output_met l D c a0 s0 _ hc20) gX9_path_X9_output rfl rfl rfl (by decide +kernel) rfl ⟨Nat.le_of_ble_eq_true rfl, Nat.le_of_ble_eq_true rfl⟩ ⟨Nat.zero_le _, Nat.zero_le _⟩ 0 9 rfl rfl rfl gT_ok hP hD hK (fun _ _ _ => trivial) hl.1 (Nat.le_of_ble_eq_true rfl) dX9_path_20 rfl) hD hS hA rfl (fun H locs hP hD hS => ?_)
      refine lv_istore_n (lv' := [(2, .int r20), (0, .ref (a0 0)), (1, .int p0)]) (pc := 23) hx hb dX9_path_23 rfl hl (by decide) rfl (fun ls hl => ?_)
      refine lv_iconst (v := 0) (pc := 24) hx hb dX9_path_24 (by decide) ?_
      refine lv_istore_n (lv' := [(3, .int (0 : Int32)), (2, .int r20), (0, .ref (a0 0)), (1, .int p0)]) (pc := 25) hx hb dX9_path_25 rfl hl (by decide) rfl (fun ls hl => ?_)
      have jr := J26 FU p0 r20 (0 : Int32) _ _ ls h hP hD hS (lv_sub hl [2, 3, 1, 0] rfl)
      exact jr
    · replace h := it_t c13 h
      refine lv_bipush (v := -3) (pc := 16) hx hb dX9_path_16 (by decide) ?_
      have kr := KR (-3 : Int32)  _ _ 18 ls h rfl hP hD hS dX9_path_18
      exact kr
  · replace h := it_f c1 h
    refine lv_bipush (v := -2) (pc := 4) hx hb dX9_path_4 (by decide) ?_
    have kr := KR (-2 : Int32)  _ _ 6 ls h rfl hP hD hS dX9_path_6
    exact kr
abbrev rmX9_holdsBy : Room := { frames := 0, cells := 0, slots := 0, locals := 0 }
set_option maxRecDepth 100000 in
set_option maxHeartbeats 40000000 in
theorem cX9_holdsBy_met (l : Launch) (D : va_G) (c : Nat → ClassId)  (p0 : Int32) (p1 : Int32) (r0 : Int32) (h : fX9_holdsBy p0 p1 = some r0) : gM l yX9_holdsBy wsX9_holdsBy rmX9_holdsBy D (gY c) gT [.int p0, .int p1] ([]) (some (.int r0)) ([]) := by
  unfold fX9_holdsBy at h
  refine gM.I (cc := cX9_holdsBy) (maxL := 4) (by decide) rfl (Nat.le_of_ble_eq_true rfl) ?_
  intro p e s m args below meth cd hx hb hml hown hts A hA ls hl hP hK hD hS hE Q KR0
  have KR : ∀ (v : Int32)  (H : Heap) (locs : List Loc) (pc : Nat) (ls : Array Slot), some v = some r0 → narrow .int (.int v) = .int v → va_P D vwCl ([]) H → va_D A ([]) → va_S A s.heap H locs → decode cX9_holdsBy pc = .ok (.ireturn, 1) → W p l e rmX9_holdsBy s m args below meth cd H locs 0 0 Q (F0 m pc ls [.int v]) := by
    intro v  H locs pc ls hr hn hP hD hS hd
    cases hr
    exact KR0 _ H locs pc ls rfl hn hP hD hS hd
  have hl : lv_has ls 4 [(0, .int p0), (1, .int p1)] := hl
  have J25 : ∀ (K4 : Int32 → Int32 → Int32 → Int32 → Option (Int32)) (K4h : ∀ (x0 : Int32) (x1 : Int32) (x2 : Int32) (x3 : Int32) (H : Heap) (locs : List Loc) (ls : Array Slot), K4 x0 x1 x2 x3 = some r0 → va_P D vwCl ([]) H → va_D A ([]) → va_S A s.heap H locs → lv_has ls 4 [(0, .int x0), (1, .int x1), (2, .int x2), (3, .int x3)] → W p l e rmX9_holdsBy s m args below meth cd H locs 0 0 Q (F0 m 4 ls [])) (x0 : Int32) (x1 : Int32) (x3 : Int32) (y0 : Int32) (y1 : Int32) (H : Heap) (locs : List Loc) (ls : Array Slot), fX9_holdsBy_b25 K4 x0 x1 x3 y0 y1 = some r0 → va_P D vwCl ([]) H → va_D A ([]) → va_S A s.heap H locs → lv_has ls 4 [(0, .int x0), (1, .int x1), (3, .int x3)] → W p l e rmX9_holdsBy s m args below meth cd H locs 0 0 Q (F0 m 25 ls [.int y0, .int y1]) := by
    intro K4 K4h x0 x1 x3 y0 y1 H locs ls h hP hD hS hl
    unfold fX9_holdsBy_b25 at h
    refine lv_ior (pc := 25) hx hb dX9_holdsBy_25 ?_
    refine lv_topi (fun v2_26 ev2_26 => ?_)
    replace h := lt_e ev2_26 h
    refine lv_istore_n (lv' := [(2, .int v2_26), (0, .int x0), (1, .int x1), (3, .int x3)]) (pc := 26) hx hb dX9_holdsBy_26 rfl hl (by decide) rfl (fun ls hl => ?_)
    obtain ⟨v3_27, ev3_27, h⟩ := lt_i h
    refine lv_iinc (v := v3_27) (lv' := [(3, .int v3_27), (2, .int v2_26), (0, .int x0), (1, .int x1)]) (pc := 27) hx hb dX9_holdsBy_27 hl (k := 3) rfl (by rw [ev3_27]; rfl) (by decide) rfl (fun ls hl => ?_)
    refine lv_goto (tgt := 4) (pc := 30) hx hb dX9_holdsBy_30 (by decide) ?_
    have jr := K4h x0 x1 v2_26 v3_27 _ _ ls h hP hD hS (lv_sub hl [2, 3, 1, 0] rfl)
    exact jr
  have J4 : ∀ (n : Nat) (x0 : Int32) (x1 : Int32) (x2 : Int32) (x3 : Int32) (H : Heap) (locs : List Loc) (ls : Array Slot), fX9_holdsBy_b4 n x0 x1 x2 x3 = some r0 → va_P D vwCl ([]) H → va_D A ([]) → va_S A s.heap H locs → lv_has ls 4 [(0, .int x0), (1, .int x1), (2, .int x2), (3, .int x3)] → W p l e rmX9_holdsBy s m args below meth cd H locs 0 0 Q (F0 m 4 ls []) := by
    intro n
    induction n with
    | zero =>
      intro x0 x1 x2 x3 H locs ls h _ _ _ _
      cases (show (none : Option (Int32)) = some _ from h)
    | succ n K4h =>
      intro x0 x1 x2 x3 H locs ls h hP hD hS hl
      rw [fX9_holdsBy_b4] at h
      refine lv_iload_n (pc := 4) hx hb dX9_holdsBy_4 rfl (lv_at hl 3 rfl) ?_
      refine lv_bipush (v := 16) (pc := 5) hx hb dX9_holdsBy_5 (by decide) ?_
      refine lv_icmp_ge (tgt := 33) (pc := 7) hx hb dX9_holdsBy_7 (by decide) (fun c7 => ?_) (fun c7 => ?_)
      · replace h := it_t c7 h
        refine lv_iload_n (pc := 33) hx hb dX9_holdsBy_33 rfl (lv_at hl 2 rfl) ?_
        have kr := KR x2  _ _ 34 ls h rfl hP hD hS dX9_holdsBy_34
        exact kr
      · replace h := it_f c7 h
        refine lv_iload_n (pc := 10) hx hb dX9_holdsBy_10 rfl (lv_at hl 2 rfl) ?_
        refine lv_iload_n (pc := 11) hx hb dX9_holdsBy_11 rfl (lv_at hl 3 rfl) ?_
        refine lv_iload_n (pc := 12) hx hb dX9_holdsBy_12 rfl (lv_at hl 0 rfl) ?_
        refine lv_iand (pc := 13) hx hb dX9_holdsBy_13 ?_
        refine lv_iload_n (pc := 14) hx hb dX9_holdsBy_14 rfl (lv_at hl 1 rfl) ?_
        refine lv_icmp_ne (tgt := 24) (pc := 15) hx hb dX9_holdsBy_15 (by decide) (fun c15 => ?_) (fun c15 => ?_)
        · replace h := it_f c15 h
          refine lv_iconst (v := 0) (pc := 24) hx hb dX9_holdsBy_24 (by decide) ?_
          have jr := J25 (fX9_holdsBy_b4 n) K4h x0 x1 x3 (0 : Int32) x2 _ _ ls h hP hD hS (lv_sub hl [0, 1, 3] rfl)
          exact jr
        · replace h := it_t c15 h
          refine lv_iconst (v := 1) (pc := 18) hx hb dX9_holdsBy_18 (by decide) ?_
          refine lv_iload_n (pc := 19) hx hb dX9_holdsBy_19 rfl (lv_at hl 3 rfl) ?_
          refine lv_ishl (pc := 20) hx hb dX9_holdsBy_20 ?_
          refine lv_goto (tgt := 25) (pc := 21) hx hb dX9_holdsBy_21 (by decide) ?_
          have jr := J25 (fX9_holdsBy_b4 n) K4h x0 x1 x3 (((1 : Int32) <<< (x3 &&& 31))) x2 _ _ ls h hP hD hS (lv_sub hl [0, 1, 3] rfl)
          exact jr
  refine lv_iconst (v := 0) (pc := 0) hx hb dX9_holdsBy_0 (by decide) ?_
  refine lv_istore_n (lv' := [(2, .int (0 : Int32)), (0, .int p0), (1, .int p1)]) (pc := 1) hx hb dX9_holdsBy_1 rfl hl (by decide) rfl (fun ls hl => ?_)
  refine lv_iconst (v := 0) (pc := 2) hx hb dX9_holdsBy_2 (by decide) ?_
  refine lv_istore_n (lv' := [(3, .int (0 : Int32)), (2, .int (0 : Int32)), (0, .int p0), (1, .int p1)]) (pc := 3) hx hb dX9_holdsBy_3 rfl hl (by decide) rfl (fun ls hl => ?_)
  have jr := J4 FU p0 p1 (0 : Int32) (0 : Int32) _ _ ls h hP hD hS (lv_sub hl [2, 3, 1, 0] rfl)
  exact jr
abbrev rmX9_holds : Room := { frames := 1, cells := 0, slots := 0, locals := 23 }
set_option maxRecDepth 100000 in
set_option maxHeartbeats 40000000 in
theorem cX9_holds_met (l : Launch) (D : va_G) (c : Nat → ClassId) (a0 : Nat → Nat) (p0 : Int32) (s0 : Mem) (r0 : Int32) (h : fX9_holds p0 s0 = some r0) : gM l yX9_holds wsX9_holds rmX9_holds D (gY c) gT [.ref (a0 0), .int p0] (wX9 a0 c s0) (some (.int r0)) (wX9 a0 c s0) := by
  unfold fX9_holds at h
  refine gM.I (cc := cX9_holds) (maxL := 2) (by decide) rfl (Nat.le_of_ble_eq_true rfl) ?_
  intro p e s m args below meth cd hx hb hml hown hts A hA ls hl hP hK hD hS hE Q KR0
  have hfX9 : ∀ w ∈ u_ws RX9 TX9 24, w.before args s = true := fun w hw => hts w (List.mem_cons_of_mem _ (List.mem_append_right _ hw))
  have lk0 := hts (.fieldLink RX9 9 "GlitchNetsModel" "s" "[I") (List.mem_of_getElem? (i := 1) rfl)
  have KR : ∀ (v : Int32)  (H : Heap) (locs : List Loc) (pc : Nat) (ls : Array Slot), some v = some r0 → narrow .int (.int v) = .int v → va_P D vwCl (wX9 a0 c s0) H → va_D A (wX9 a0 c s0) → va_S A s.heap H locs → decode cX9_holds pc = .ok (.ireturn, 1) → W p l e rmX9_holds s m args below meth cd H locs 0 0 Q (F0 m pc ls [.int v]) := by
    intro v  H locs pc ls hr hn hP hD hS hd
    cases hr
    exact KR0 _ H locs pc ls rfl hn hP hD hS hd
  have hl : lv_has ls 2 [(0, .ref (a0 0)), (1, .int p0)] := hl
  refine lv_aload_n (pc := 0) hx hb dX9_holds_0 rfl (lv_at hl 0 rfl) ?_
  refine va_get (D := D) (ci := 9) (v := .ref (a0 1)) (C := RX9) (T := TX9) (N := 24) (pc := 1) hx hb hfX9 (fun _ h9 => h9) hown hK hP 0 rfl rfl 0 (by decide) lk0 (fun _ h9 => h9) rfl dX9_holds_1 ?_
  refine lv_bipush (v := 50) (pc := 4) hx hb dX9_holds_4 (by decide) ?_
  refine lv_iconst (v := 2) (pc := 6) hx hb dX9_holds_6 (by decide) ?_
  refine lv_iload_n (pc := 7) hx hb dX9_holds_7 rfl (lv_at hl 1 rfl) ?_
  refine lv_imul (pc := 8) hx hb dX9_holds_8 ?_
  refine lv_iadd (pc := 9) hx hb dX9_holds_9 ?_
  obtain ⟨hk10, h⟩ := ckI_i h
  refine va_iald (D := D) (f := (s0.1 0)) (pc := 10) hx hb hK hP 1 0 rfl rfl hk10 dX9_holds_10 ?_
  refine lv_aload_n (pc := 11) hx hb dX9_holds_11 rfl (lv_at hl 0 rfl) ?_
  refine va_get (D := D) (ci := 9) (v := .ref (a0 1)) (C := RX9) (T := TX9) (N := 24) (pc := 12) hx hb hfX9 (fun _ h9 => h9) hown hK hP 0 rfl rfl 0 (by decide) lk0 (fun _ h9 => h9) rfl dX9_holds_12 ?_
  refine lv_bipush (v := 50) (pc := 15) hx hb dX9_holds_15 (by decide) ?_
  refine lv_iconst (v := 2) (pc := 17) hx hb dX9_holds_17 (by decide) ?_
  refine lv_iload_n (pc := 18) hx hb dX9_holds_18 rfl (lv_at hl 1 rfl) ?_
  refine lv_imul (pc := 19) hx hb dX9_holds_19 ?_
  refine lv_iadd (pc := 20) hx hb dX9_holds_20 ?_
  refine lv_iconst (v := 1) (pc := 21) hx hb dX9_holds_21 (by decide) ?_
  refine lv_iadd (pc := 22) hx hb dX9_holds_22 ?_
  obtain ⟨hk23, h⟩ := ckI_i h
  refine va_iald (D := D) (f := (s0.1 0)) (pc := 23) hx hb hK hP 1 0 rfl rfl hk23 dX9_holds_23 ?_
  obtain ⟨r24, hc24, h⟩ := b1_i h
  refine g_none (st1 := [.int r24]) (gr_S (n := 2) (rest := []) (pc := 24) hx hb hml hown hts (cX9_holdsBy_met l D c (((s0.1 0) (((50 : Int32) + ((2 : Int32) * p0))).toNatClampNeg)) (((s0.1 0) ((((50 : Int32) + ((2 : Int32) * p0)) + (1 : Int32))).toNatClampNeg)) _ hc24) gX9_holds_X9_holdsBy rfl rfl rfl (by decide +kernel) rfl ⟨Nat.le_of_ble_eq_true rfl, Nat.le_of_ble_eq_true rfl⟩ ⟨Nat.zero_le _, Nat.zero_le _⟩ gT_ok g_P0 (g_D0 (A := A)) hK (fun _ _ _ => trivial) hl.1 (Nat.le_of_ble_eq_true rfl) dX9_holds_24 rfl) hP hS hA rfl (fun H locs hP hS => ?_)
  have kr := KR r24  _ _ 27 ls h rfl hP hD hS dX9_holds_27
  exact kr
abbrev rmX9_isTerm : Room := { frames := 1, cells := 0, slots := 0, locals := 22 }
set_option maxRecDepth 100000 in
set_option maxHeartbeats 40000000 in
theorem cX9_isTerm_met (l : Launch) (D : va_G) (c : Nat → ClassId)  (p0 : Int32) (p1 : Int32) (r0 : Int32) (h : fX9_isTerm p0 p1 = some r0) : gM l yX9_isTerm wsX9_isTerm rmX9_isTerm D (gY c) gT [.int p0, .int p1] ([]) (some (.int r0)) ([]) := by
  unfold fX9_isTerm at h
  refine gM.I (cc := cX9_isTerm) (maxL := 2) (by decide) rfl (Nat.le_of_ble_eq_true rfl) ?_
  intro p e s m args below meth cd hx hb hml hown hts A hA ls hl hP hK hD hS hE Q KR0
  have KR : ∀ (v : Int32)  (H : Heap) (locs : List Loc) (pc : Nat) (ls : Array Slot), some v = some r0 → narrow .boolean (.int v) = .int v → va_P D vwCl ([]) H → va_D A ([]) → va_S A s.heap H locs → decode cX9_isTerm pc = .ok (.ireturn, 1) → W p l e rmX9_isTerm s m args below meth cd H locs 0 0 Q (F0 m pc ls [.int v]) := by
    intro v  H locs pc ls hr hn hP hD hS hd
    cases hr
    exact KR0 _ H locs pc ls rfl hn hP hD hS hd
  have hl : lv_has ls 2 [(0, .int p0), (1, .int p1)] := hl
  refine lv_iload_n (pc := 0) hx hb dX9_isTerm_0 rfl (lv_at hl 0 rfl) ?_
  refine lv_iconst (v := 0) (pc := 1) hx hb dX9_isTerm_1 (by decide) ?_
  refine lv_bipush (v := 15) (pc := 2) hx hb dX9_isTerm_2 (by decide) ?_
  obtain ⟨r4, hc4, h⟩ := b1_i h
  refine g_none (st1 := [.int r4]) (gr_S (n := 3) (rest := []) (pc := 4) hx hb hml hown hts (cX9_isIn_met l D c p0 (0 : Int32) (15 : Int32) _ hc4) gX9_isTerm_X9_isIn rfl rfl rfl (by decide +kernel) rfl ⟨Nat.le_of_ble_eq_true rfl, Nat.le_of_ble_eq_true rfl⟩ ⟨Nat.zero_le _, Nat.zero_le _⟩ gT_ok g_P0 (g_D0 (A := A)) hK (fun _ _ _ => trivial) hl.1 (Nat.le_of_ble_eq_true rfl) dX9_isTerm_4 rfl) hP hS hA rfl (fun H locs hP hS => ?_)
  refine lv_if_eq (tgt := 32) (pc := 7) hx hb dX9_isTerm_7 (by decide) (fun c7 => ?_) (fun c7 => ?_)
  · replace h := it_t c7 h
    refine lv_iconst (v := 0) (pc := 32) hx hb dX9_isTerm_32 (by decide) ?_
    have kr := KR (0 : Int32)  _ _ 33 ls h rfl hP hD hS dX9_isTerm_33
    exact kr
  · replace h := it_f c7 h
    refine lv_iload_n (pc := 10) hx hb dX9_isTerm_10 rfl (lv_at hl 1 rfl) ?_
    refine lv_iconst (v := 0) (pc := 11) hx hb dX9_isTerm_11 (by decide) ?_
    refine lv_bipush (v := 15) (pc := 12) hx hb dX9_isTerm_12 (by decide) ?_
    obtain ⟨r14, hc14, h⟩ := b1_i h
    refine g_none (st1 := [.int r14]) (gr_S (n := 3) (rest := []) (pc := 14) hx hb hml hown hts (cX9_isIn_met l D c p1 (0 : Int32) (15 : Int32) _ hc14) gX9_isTerm_X9_isIn rfl rfl rfl (by decide +kernel) rfl ⟨Nat.le_of_ble_eq_true rfl, Nat.le_of_ble_eq_true rfl⟩ ⟨Nat.zero_le _, Nat.zero_le _⟩ gT_ok g_P0 (g_D0 (A := A)) hK (fun _ _ _ => trivial) hl.1 (Nat.le_of_ble_eq_true rfl) dX9_isTerm_14 rfl) hP hS hA rfl (fun H locs hP hS => ?_)
    refine lv_if_eq (tgt := 32) (pc := 17) hx hb dX9_isTerm_17 (by decide) (fun c17 => ?_) (fun c17 => ?_)
    · replace h := it_t c17 h
      refine lv_iconst (v := 0) (pc := 32) hx hb dX9_isTerm_32 (by decide) ?_
      have kr := KR (0 : Int32)  _ _ 33 ls h rfl hP hD hS dX9_isTerm_33
      exact kr
    · replace h := it_f c17 h
      refine lv_iload_n (pc := 20) hx hb dX9_isTerm_20 rfl (lv_at hl 1 rfl) ?_
      refine lv_iload_n (pc := 21) hx hb dX9_isTerm_21 rfl (lv_at hl 0 rfl) ?_
      refine lv_iconst (v := -1) (pc := 22) hx hb dX9_isTerm_22 (by decide) ?_
      refine lv_ixor (pc := 23) hx hb dX9_isTerm_23 ?_
      refine lv_iand (pc := 24) hx hb dX9_isTerm_24 ?_
      refine lv_if_ne (tgt := 32) (pc := 25) hx hb dX9_isTerm_25 (by decide) (fun c25 => ?_) (fun c25 => ?_)
      · replace h := it_f c25 h
        refine lv_iconst (v := 0) (pc := 32) hx hb dX9_isTerm_32 (by decide) ?_
        have kr := KR (0 : Int32)  _ _ 33 ls h rfl hP hD hS dX9_isTerm_33
        exact kr
      · replace h := it_t c25 h
        refine lv_iconst (v := 1) (pc := 28) hx hb dX9_isTerm_28 (by decide) ?_
        refine lv_goto (tgt := 33) (pc := 29) hx hb dX9_isTerm_29 (by decide) ?_
        have kr := KR (1 : Int32)  _ _ 33 ls h rfl hP hD hS dX9_isTerm_33
        exact kr
abbrev rmX9_term : Room := { frames := 2, cells := 0, slots := 0, locals := 43 }
set_option maxRecDepth 100000 in
set_option maxHeartbeats 40000000 in
theorem cX9_term_met (l : Launch) (D : va_G) (c : Nat → ClassId) (a0 : Nat → Nat) (p0 : Int32) (p1 : Int32) (s0 : Mem) (r0 : Int32) (z0 : Mem) (h : fX9_term p0 p1 s0 = some (r0, z0)) : gM l yX9_term wsX9_term rmX9_term D (gY c) gT [.ref (a0 0), .int p0, .int p1] (wX9 a0 c s0) (some (.int r0)) (wX9 a0 c z0) := by
  unfold fX9_term at h
  refine gM.I (cc := cX9_term) (maxL := 3) (by decide) rfl (Nat.le_of_ble_eq_true rfl) ?_
  intro p e s m args below meth cd hx hb hml hown hts A hA ls hl hP hK hD hS hE Q KR0
  have hfX9 : ∀ w ∈ u_ws RX9 TX9 24, w.before args s = true := fun w hw => hts w (List.mem_cons_of_mem _ (List.mem_append_right _ hw))
  have lk0 := hts (.fieldLink RX9 9 "GlitchNetsModel" "s" "[I") (List.mem_of_getElem? (i := 1) rfl)
  have KR : ∀ (v : Int32) (w0 : Mem) (H : Heap) (locs : List Loc) (pc : Nat) (ls : Array Slot), some (v, w0) = some (r0, z0) → narrow .int (.int v) = .int v → va_P D vwCl (wX9 a0 c w0) H → va_D A (wX9 a0 c w0) → va_S A s.heap H locs → decode cX9_term pc = .ok (.ireturn, 1) → W p l e rmX9_term s m args below meth cd H locs 0 0 Q (F0 m pc ls [.int v]) := by
    intro v w0 H locs pc ls hr hn hP hD hS hd
    cases hr
    exact KR0 _ H locs pc ls rfl hn hP hD hS hd
  have hl : lv_has ls 3 [(0, .ref (a0 0)), (1, .int p0), (2, .int p1)] := hl
  refine lv_iload_n (pc := 0) hx hb dX9_term_0 rfl (lv_at hl 1 rfl) ?_
  refine lv_iload_n (pc := 1) hx hb dX9_term_1 rfl (lv_at hl 2 rfl) ?_
  obtain ⟨r2, hc2, h⟩ := b1_i h
  refine g_none (st1 := [.int r2]) (gr_S (n := 2) (rest := []) (pc := 2) hx hb hml hown hts (cX9_isTerm_met l D c p0 p1 _ hc2) gX9_term_X9_isTerm rfl rfl rfl (by decide +kernel) rfl ⟨Nat.le_of_ble_eq_true rfl, Nat.le_of_ble_eq_true rfl⟩ ⟨Nat.zero_le _, Nat.zero_le _⟩ gT_ok g_P0 (g_D0 (A := A)) hK (fun _ _ _ => trivial) hl.1 (Nat.le_of_ble_eq_true rfl) dX9_term_2 rfl) hP hS hA rfl (fun H locs hP hS => ?_)
  refine lv_if_ne (tgt := 11) (pc := 5) hx hb dX9_term_5 (by decide) (fun c5 => ?_) (fun c5 => ?_)
  · replace h := it_f c5 h
    refine lv_aload_n (pc := 11) hx hb dX9_term_11 rfl (lv_at hl 0 rfl) ?_
    refine va_get (D := D) (ci := 9) (v := .ref (a0 1)) (C := RX9) (T := TX9) (N := 24) (pc := 12) hx hb hfX9 (fun _ h9 => h9) hown hK hP 0 rfl rfl 0 (by decide) lk0 (fun _ h9 => h9) rfl dX9_term_12 ?_
    refine lv_iconst (v := 1) (pc := 15) hx hb dX9_term_15 (by decide) ?_
    obtain ⟨hk16, h⟩ := ckI_i h
    refine va_iald (D := D) (f := (s0.1 0)) (pc := 16) hx hb hK hP 1 0 rfl rfl hk16 dX9_term_16 ?_
    refine lv_bipush (v := 8) (pc := 17) hx hb dX9_term_17 (by decide) ?_
    refine lv_icmp_ne (tgt := 25) (pc := 19) hx hb dX9_term_19 (by decide) (fun c19 => ?_) (fun c19 => ?_)
    · replace h := it_f c19 h
      refine lv_aload_n (pc := 25) hx hb dX9_term_25 rfl (lv_at hl 0 rfl) ?_
      refine lv_aload_n (pc := 26) hx hb dX9_term_26 rfl (lv_at hl 0 rfl) ?_
      refine va_get (D := D) (ci := 9) (v := .ref (a0 1)) (C := RX9) (T := TX9) (N := 24) (pc := 27) hx hb hfX9 (fun _ h9 => h9) hown hK hP 0 rfl rfl 0 (by decide) lk0 (fun _ h9 => h9) rfl dX9_term_27 ?_
      refine lv_iconst (v := 1) (pc := 30) hx hb dX9_term_30 (by decide) ?_
      obtain ⟨hk31, h⟩ := ckI_i h
      refine va_iald (D := D) (f := (s0.1 0)) (pc := 31) hx hb hK hP 1 0 rfl rfl hk31 dX9_term_31 ?_
      refine lv_iload_n (pc := 32) hx hb dX9_term_32 rfl (lv_at hl 1 rfl) ?_
      refine lv_iload_n (pc := 33) hx hb dX9_term_33 rfl (lv_at hl 2 rfl) ?_
      obtain ⟨t0_34, hc34, h⟩ := b1_i h
      refine g_all (st1 := []) (gr_V (n := 3) (rest := []) (pc := 34) hx hb hml hown hts (cX9_comesTo_met l D c a0 (((s0.1 0) ((1 : Int32)).toNatClampNeg)) p0 p1 s0 _ hc34) gX9_term_X9_comesTo rfl rfl rfl (by decide +kernel) rfl ⟨Nat.le_of_ble_eq_true rfl, Nat.le_of_ble_eq_true rfl⟩ ⟨Nat.zero_le _, Nat.zero_le _⟩ 0 9 rfl rfl rfl gT_ok hP hD hK (fun _ _ _ => trivial) hl.1 (Nat.le_of_ble_eq_true rfl) dX9_term_34 rfl) hD hS hA rfl (fun H locs hP hD hS => ?_)
      refine lv_aload_n (pc := 37) hx hb dX9_term_37 rfl (lv_at hl 0 rfl) ?_
      refine lv_iconst (v := 2) (pc := 38) hx hb dX9_term_38 (by decide) ?_
      refine lv_iconst (v := 0) (pc := 39) hx hb dX9_term_39 (by decide) ?_
      refine lv_iconst (v := 0) (pc := 40) hx hb dX9_term_40 (by decide) ?_
      refine lv_iconst (v := 0) (pc := 41) hx hb dX9_term_41 (by decide) ?_
      obtain ⟨t0_42, hc42, h⟩ := b1_i h
      refine g_all (st1 := []) (gr_V (n := 4) (rest := []) (pc := 42) hx hb hml hown hts (cX9_does_met l D c a0 (2 : Int32) (0 : Int32) (0 : Int32) (0 : Int32) t0_34 _ hc42) gX9_term_X9_does rfl rfl rfl (by decide +kernel) rfl ⟨Nat.le_of_ble_eq_true rfl, Nat.le_of_ble_eq_true rfl⟩ ⟨Nat.zero_le _, Nat.zero_le _⟩ 0 9 rfl rfl rfl gT_ok hP hD hK (fun _ _ _ => trivial) hl.1 (Nat.le_of_ble_eq_true rfl) dX9_term_42 rfl) hD hS hA rfl (fun H locs hP hD hS => ?_)
      refine lv_aload_n (pc := 45) hx hb dX9_term_45 rfl (lv_at hl 0 rfl) ?_
      refine va_get (D := D) (ci := 9) (v := .ref (a0 1)) (C := RX9) (T := TX9) (N := 24) (pc := 46) hx hb hfX9 (fun _ h9 => h9) hown hK hP 0 rfl rfl 0 (by decide) lk0 (fun _ h9 => h9) rfl dX9_term_46 ?_
      refine lv_iconst (v := 1) (pc := 49) hx hb dX9_term_49 (by decide) ?_
      obtain ⟨hk50, h⟩ := ckI_i h
      refine va_iald (D := D) (f := (t0_42.1 0)) (pc := 50) hx hb hK hP 1 0 rfl rfl hk50 dX9_term_50 ?_
      refine lv_iconst (v := 1) (pc := 51) hx hb dX9_term_51 (by decide) ?_
      refine lv_isub (pc := 52) hx hb dX9_term_52 ?_
      have kr := KR (((t0_42.1 0) ((1 : Int32)).toNatClampNeg) - (1 : Int32)) t0_42 _ _ 53 ls h rfl hP hD hS dX9_term_53
      exact kr
    · replace h := it_t c19 h
      refine lv_bipush (v := -4) (pc := 22) hx hb dX9_term_22 (by decide) ?_
      have kr := KR (-4 : Int32) s0 _ _ 24 ls h rfl hP hD hS dX9_term_24
      exact kr
  · replace h := it_t c5 h
    refine lv_bipush (v := -2) (pc := 8) hx hb dX9_term_8 (by decide) ?_
    have kr := KR (-2 : Int32) s0 _ _ 10 ls h rfl hP hD hS dX9_term_10
    exact kr
abbrev rmX9_off : Room := { frames := 1, cells := 0, slots := 0, locals := 25 }
set_option maxRecDepth 100000 in
set_option maxHeartbeats 40000000 in
theorem cX9_off_met (l : Launch) (D : va_G) (c : Nat → ClassId) (a0 : Nat → Nat) (p0 : Int32) (s0 : Mem) (r0 : Int32) (z0 : Mem) (h : fX9_off p0 s0 = some (r0, z0)) : gM l yX9_off wsX9_off rmX9_off D (gY c) gT [.ref (a0 0), .int p0] (wX9 a0 c s0) (some (.int r0)) (wX9 a0 c z0) := by
  unfold fX9_off at h
  refine gM.I (cc := cX9_off) (maxL := 3) (by decide) rfl (Nat.le_of_ble_eq_true rfl) ?_
  intro p e s m args below meth cd hx hb hml hown hts A hA ls hl hP hK hD hS hE Q KR0
  have hfX9 : ∀ w ∈ u_ws RX9 TX9 24, w.before args s = true := fun w hw => hts w (List.mem_cons_of_mem _ (List.mem_append_right _ hw))
  have lk0 := hts (.fieldLink RX9 9 "GlitchNetsModel" "s" "[I") (List.mem_of_getElem? (i := 1) rfl)
  have KR : ∀ (v : Int32) (w0 : Mem) (H : Heap) (locs : List Loc) (pc : Nat) (ls : Array Slot), some (v, w0) = some (r0, z0) → narrow .int (.int v) = .int v → va_P D vwCl (wX9 a0 c w0) H → va_D A (wX9 a0 c w0) → va_S A s.heap H locs → decode cX9_off pc = .ok (.ireturn, 1) → W p l e rmX9_off s m args below meth cd H locs 0 0 Q (F0 m pc ls [.int v]) := by
    intro v w0 H locs pc ls hr hn hP hD hS hd
    cases hr
    exact KR0 _ H locs pc ls rfl hn hP hD hS hd
  have hl : lv_has ls 3 [(0, .ref (a0 0)), (1, .int p0)] := hl
  have J51 : ∀ (n : Nat) (x2 : Int32) (s0 : Mem) (H : Heap) (locs : List Loc) (ls : Array Slot), fX9_off_b51 n x2 s0 = some (r0, z0) → va_P D vwCl (wX9 a0 c s0) H → va_D A (wX9 a0 c s0) → va_S A s.heap H locs → lv_has ls 3 [(0, .ref (a0 0)), (2, .int x2)] → W p l e rmX9_off s m args below meth cd H locs 0 0 Q (F0 m 51 ls []) := by
    intro n
    induction n with
    | zero =>
      intro x2 s0 H locs ls h _ _ _ _
      cases (show (none : Option (Int32 × Mem)) = some _ from h)
    | succ n K51h =>
      intro x2 s0 H locs ls h hP hD hS hl
      rw [fX9_off_b51] at h
      refine lv_iload_n (pc := 51) hx hb dX9_off_51 rfl (lv_at hl 1 rfl) ?_
      refine lv_aload_n (pc := 52) hx hb dX9_off_52 rfl (lv_at hl 0 rfl) ?_
      refine va_get (D := D) (ci := 9) (v := .ref (a0 1)) (C := RX9) (T := TX9) (N := 24) (pc := 53) hx hb hfX9 (fun _ h9 => h9) hown hK hP 0 rfl rfl 0 (by decide) lk0 (fun _ h9 => h9) rfl dX9_off_53 ?_
      refine lv_iconst (v := 1) (pc := 56) hx hb dX9_off_56 (by decide) ?_
      obtain ⟨hk57, h⟩ := ckI_i h
      refine va_iald (D := D) (f := (s0.1 0)) (pc := 57) hx hb hK hP 1 0 rfl rfl hk57 dX9_off_57 ?_
      refine lv_iconst (v := 1) (pc := 58) hx hb dX9_off_58 (by decide) ?_
      refine lv_isub (pc := 59) hx hb dX9_off_59 ?_
      refine lv_icmp_ge (tgt := 119) (pc := 60) hx hb dX9_off_60 (by decide) (fun c60 => ?_) (fun c60 => ?_)
      · replace h := it_t c60 h
        refine lv_aload_n (pc := 119) hx hb dX9_off_119 rfl (lv_at hl 0 rfl) ?_
        refine va_get (D := D) (ci := 9) (v := .ref (a0 1)) (C := RX9) (T := TX9) (N := 24) (pc := 120) hx hb hfX9 (fun _ h9 => h9) hown hK hP 0 rfl rfl 0 (by decide) lk0 (fun _ h9 => h9) rfl dX9_off_120 ?_
        refine lv_iconst (v := 1) (pc := 123) hx hb dX9_off_123 (by decide) ?_
        refine lv_dup2_11 (pc := 124) hx hb dX9_off_124 rfl rfl ?_
        obtain ⟨hk125, h⟩ := ckI_i h
        refine va_iald (D := D) (f := (s0.1 0)) (pc := 125) hx hb hK hP 1 0 rfl rfl hk125 dX9_off_125 ?_
        refine lv_iconst (v := 1) (pc := 126) hx hb dX9_off_126 (by decide) ?_
        refine lv_isub (pc := 127) hx hb dX9_off_127 ?_
        obtain ⟨hk128, h⟩ := ckI_i h
        refine va_iast (D := D) (f := (s0.1 0)) (pc := 128) hx hb hK hP hD hS 1 0 rfl rfl hk128 dX9_off_128 (fun H locs hP hD hS => ?_)
        obtain ⟨m0_128, em0_128, h⟩ := lt_i h
        have hP : va_P D vwCl (wX9 a0 c m0_128) H := by rw [em0_128]; exact hP
        have hD : va_D A (wX9 a0 c m0_128) := by rw [em0_128]; exact hD
        refine lv_aload_n (pc := 129) hx hb dX9_off_129 rfl (lv_at hl 0 rfl) ?_
        refine va_get (D := D) (ci := 9) (v := .ref (a0 1)) (C := RX9) (T := TX9) (N := 24) (pc := 130) hx hb hfX9 (fun _ h9 => h9) hown hK hP 0 rfl rfl 0 (by decide) lk0 (fun _ h9 => h9) rfl dX9_off_130 ?_
        refine lv_iconst (v := 1) (pc := 133) hx hb dX9_off_133 (by decide) ?_
        obtain ⟨hk134, h⟩ := ckI_i h
        refine va_iald (D := D) (f := (m0_128.1 0)) (pc := 134) hx hb hK hP 1 0 rfl rfl hk134 dX9_off_134 ?_
        have kr := KR ((m0_128.1 0) ((1 : Int32)).toNatClampNeg) m0_128 _ _ 135 ls h rfl hP hD hS dX9_off_135
        exact kr
      · replace h := it_f c60 h
        refine lv_aload_n (pc := 63) hx hb dX9_off_63 rfl (lv_at hl 0 rfl) ?_
        refine va_get (D := D) (ci := 9) (v := .ref (a0 1)) (C := RX9) (T := TX9) (N := 24) (pc := 64) hx hb hfX9 (fun _ h9 => h9) hown hK hP 0 rfl rfl 0 (by decide) lk0 (fun _ h9 => h9) rfl dX9_off_64 ?_
        refine lv_bipush (v := 50) (pc := 67) hx hb dX9_off_67 (by decide) ?_
        refine lv_iconst (v := 2) (pc := 69) hx hb dX9_off_69 (by decide) ?_
        refine lv_iload_n (pc := 70) hx hb dX9_off_70 rfl (lv_at hl 1 rfl) ?_
        refine lv_imul (pc := 71) hx hb dX9_off_71 ?_
        refine lv_iadd (pc := 72) hx hb dX9_off_72 ?_
        refine lv_aload_n (pc := 73) hx hb dX9_off_73 rfl (lv_at hl 0 rfl) ?_
        refine va_get (D := D) (ci := 9) (v := .ref (a0 1)) (C := RX9) (T := TX9) (N := 24) (pc := 74) hx hb hfX9 (fun _ h9 => h9) hown hK hP 0 rfl rfl 0 (by decide) lk0 (fun _ h9 => h9) rfl dX9_off_74 ?_
        refine lv_bipush (v := 50) (pc := 77) hx hb dX9_off_77 (by decide) ?_
        refine lv_iconst (v := 2) (pc := 79) hx hb dX9_off_79 (by decide) ?_
        refine lv_iload_n (pc := 80) hx hb dX9_off_80 rfl (lv_at hl 1 rfl) ?_
        refine lv_imul (pc := 81) hx hb dX9_off_81 ?_
        refine lv_iadd (pc := 82) hx hb dX9_off_82 ?_
        refine lv_iconst (v := 2) (pc := 83) hx hb dX9_off_83 (by decide) ?_
        refine lv_iadd (pc := 84) hx hb dX9_off_84 ?_
        obtain ⟨hk85, h⟩ := ckI_i h
        refine va_iald (D := D) (f := (s0.1 0)) (pc := 85) hx hb hK hP 1 0 rfl rfl hk85 dX9_off_85 ?_
        obtain ⟨hk86, h⟩ := ckI_i h
        refine va_iast (D := D) (f := (s0.1 0)) (pc := 86) hx hb hK hP hD hS 1 0 rfl rfl hk86 dX9_off_86 (fun H locs hP hD hS => ?_)
        obtain ⟨m0_86, em0_86, h⟩ := lt_i h
        have hP : va_P D vwCl (wX9 a0 c m0_86) H := by rw [em0_86]; exact hP
        have hD : va_D A (wX9 a0 c m0_86) := by rw [em0_86]; exact hD
        refine lv_aload_n (pc := 87) hx hb dX9_off_87 rfl (lv_at hl 0 rfl) ?_
        refine va_get (D := D) (ci := 9) (v := .ref (a0 1)) (C := RX9) (T := TX9) (N := 24) (pc := 88) hx hb hfX9 (fun _ h9 => h9) hown hK hP 0 rfl rfl 0 (by decide) lk0 (fun _ h9 => h9) rfl dX9_off_88 ?_
        refine lv_bipush (v := 50) (pc := 91) hx hb dX9_off_91 (by decide) ?_
        refine lv_iconst (v := 2) (pc := 93) hx hb dX9_off_93 (by decide) ?_
        refine lv_iload_n (pc := 94) hx hb dX9_off_94 rfl (lv_at hl 1 rfl) ?_
        refine lv_imul (pc := 95) hx hb dX9_off_95 ?_
        refine lv_iadd (pc := 96) hx hb dX9_off_96 ?_
        refine lv_iconst (v := 1) (pc := 97) hx hb dX9_off_97 (by decide) ?_
        refine lv_iadd (pc := 98) hx hb dX9_off_98 ?_
        refine lv_aload_n (pc := 99) hx hb dX9_off_99 rfl (lv_at hl 0 rfl) ?_
        refine va_get (D := D) (ci := 9) (v := .ref (a0 1)) (C := RX9) (T := TX9) (N := 24) (pc := 100) hx hb hfX9 (fun _ h9 => h9) hown hK hP 0 rfl rfl 0 (by decide) lk0 (fun _ h9 => h9) rfl dX9_off_100 ?_
        refine lv_bipush (v := 50) (pc := 103) hx hb dX9_off_103 (by decide) ?_
        refine lv_iconst (v := 2) (pc := 105) hx hb dX9_off_105 (by decide) ?_
        refine lv_iload_n (pc := 106) hx hb dX9_off_106 rfl (lv_at hl 1 rfl) ?_
        refine lv_imul (pc := 107) hx hb dX9_off_107 ?_
        refine lv_iadd (pc := 108) hx hb dX9_off_108 ?_
        refine lv_iconst (v := 3) (pc := 109) hx hb dX9_off_109 (by decide) ?_
        refine lv_iadd (pc := 110) hx hb dX9_off_110 ?_
        obtain ⟨hk111, h⟩ := ckI_i h
        refine va_iald (D := D) (f := (m0_86.1 0)) (pc := 111) hx hb hK hP 1 0 rfl rfl hk111 dX9_off_111 ?_
        obtain ⟨hk112, h⟩ := ckI_i h
        refine va_iast (D := D) (f := (m0_86.1 0)) (pc := 112) hx hb hK hP hD hS 1 0 rfl rfl hk112 dX9_off_112 (fun H locs hP hD hS => ?_)
        obtain ⟨m0_112, em0_112, h⟩ := lt_i h
        have hP : va_P D vwCl (wX9 a0 c m0_112) H := by rw [em0_112]; exact hP
        have hD : va_D A (wX9 a0 c m0_112) := by rw [em0_112]; exact hD
        obtain ⟨v2_113, ev2_113, h⟩ := lt_i h
        refine lv_iinc (v := v2_113) (lv' := [(2, .int v2_113), (0, .ref (a0 0))]) (pc := 113) hx hb dX9_off_113 hl (k := 1) rfl (by rw [ev2_113]; rfl) (by decide) rfl (fun ls hl => ?_)
        refine lv_goto (tgt := 51) (pc := 116) hx hb dX9_off_116 (by decide) ?_
        have jr := K51h v2_113 m0_112 _ _ ls h hP hD hS (lv_sub hl [1, 0] rfl)
        exact jr
  refine lv_iload_n (pc := 0) hx hb dX9_off_0 rfl (lv_at hl 1 rfl) ?_
  refine lv_iconst (v := 0) (pc := 1) hx hb dX9_off_1 (by decide) ?_
  refine lv_aload_n (pc := 2) hx hb dX9_off_2 rfl (lv_at hl 0 rfl) ?_
  refine va_get (D := D) (ci := 9) (v := .ref (a0 1)) (C := RX9) (T := TX9) (N := 24) (pc := 3) hx hb hfX9 (fun _ h9 => h9) hown hK hP 0 rfl rfl 0 (by decide) lk0 (fun _ h9 => h9) rfl dX9_off_3 ?_
  refine lv_iconst (v := 1) (pc := 6) hx hb dX9_off_6 (by decide) ?_
  obtain ⟨hk7, h⟩ := ckI_i h
  refine va_iald (D := D) (f := (s0.1 0)) (pc := 7) hx hb hK hP 1 0 rfl rfl hk7 dX9_off_7 ?_
  refine lv_iconst (v := 1) (pc := 8) hx hb dX9_off_8 (by decide) ?_
  refine lv_isub (pc := 9) hx hb dX9_off_9 ?_
  obtain ⟨r10, hc10, h⟩ := b1_i h
  refine g_none (st1 := [.int r10]) (gr_S (n := 3) (rest := []) (pc := 10) hx hb hml hown hts (cX9_isIn_met l D c p0 (0 : Int32) ((((s0.1 0) ((1 : Int32)).toNatClampNeg) - (1 : Int32))) _ hc10) gX9_off_X9_isIn rfl rfl rfl (by decide +kernel) rfl ⟨Nat.le_of_ble_eq_true rfl, Nat.le_of_ble_eq_true rfl⟩ ⟨Nat.zero_le _, Nat.zero_le _⟩ gT_ok g_P0 (g_D0 (A := A)) hK (fun _ _ _ => trivial) hl.1 (Nat.le_of_ble_eq_true rfl) dX9_off_10 rfl) hP hS hA rfl (fun H locs hP hS => ?_)
  refine lv_if_ne (tgt := 19) (pc := 13) hx hb dX9_off_13 (by decide) (fun c13 => ?_) (fun c13 => ?_)
  · replace h := it_f c13 h
    refine lv_aload_n (pc := 19) hx hb dX9_off_19 rfl (lv_at hl 0 rfl) ?_
    refine lv_iconst (v := 3) (pc := 20) hx hb dX9_off_20 (by decide) ?_
    refine lv_iload_n (pc := 21) hx hb dX9_off_21 rfl (lv_at hl 1 rfl) ?_
    refine lv_aload_n (pc := 22) hx hb dX9_off_22 rfl (lv_at hl 0 rfl) ?_
    refine va_get (D := D) (ci := 9) (v := .ref (a0 1)) (C := RX9) (T := TX9) (N := 24) (pc := 23) hx hb hfX9 (fun _ h9 => h9) hown hK hP 0 rfl rfl 0 (by decide) lk0 (fun _ h9 => h9) rfl dX9_off_23 ?_
    refine lv_bipush (v := 50) (pc := 26) hx hb dX9_off_26 (by decide) ?_
    refine lv_iconst (v := 2) (pc := 28) hx hb dX9_off_28 (by decide) ?_
    refine lv_iload_n (pc := 29) hx hb dX9_off_29 rfl (lv_at hl 1 rfl) ?_
    refine lv_imul (pc := 30) hx hb dX9_off_30 ?_
    refine lv_iadd (pc := 31) hx hb dX9_off_31 ?_
    obtain ⟨hk32, h⟩ := ckI_i h
    refine va_iald (D := D) (f := (s0.1 0)) (pc := 32) hx hb hK hP 1 0 rfl rfl hk32 dX9_off_32 ?_
    refine lv_aload_n (pc := 33) hx hb dX9_off_33 rfl (lv_at hl 0 rfl) ?_
    refine va_get (D := D) (ci := 9) (v := .ref (a0 1)) (C := RX9) (T := TX9) (N := 24) (pc := 34) hx hb hfX9 (fun _ h9 => h9) hown hK hP 0 rfl rfl 0 (by decide) lk0 (fun _ h9 => h9) rfl dX9_off_34 ?_
    refine lv_bipush (v := 50) (pc := 37) hx hb dX9_off_37 (by decide) ?_
    refine lv_iconst (v := 2) (pc := 39) hx hb dX9_off_39 (by decide) ?_
    refine lv_iload_n (pc := 40) hx hb dX9_off_40 rfl (lv_at hl 1 rfl) ?_
    refine lv_imul (pc := 41) hx hb dX9_off_41 ?_
    refine lv_iadd (pc := 42) hx hb dX9_off_42 ?_
    refine lv_iconst (v := 1) (pc := 43) hx hb dX9_off_43 (by decide) ?_
    refine lv_iadd (pc := 44) hx hb dX9_off_44 ?_
    obtain ⟨hk45, h⟩ := ckI_i h
    refine va_iald (D := D) (f := (s0.1 0)) (pc := 45) hx hb hK hP 1 0 rfl rfl hk45 dX9_off_45 ?_
    obtain ⟨t0_46, hc46, h⟩ := b1_i h
    refine g_all (st1 := []) (gr_V (n := 4) (rest := []) (pc := 46) hx hb hml hown hts (cX9_does_met l D c a0 (3 : Int32) p0 (((s0.1 0) (((50 : Int32) + ((2 : Int32) * p0))).toNatClampNeg)) (((s0.1 0) ((((50 : Int32) + ((2 : Int32) * p0)) + (1 : Int32))).toNatClampNeg)) s0 _ hc46) gX9_off_X9_does rfl rfl rfl (by decide +kernel) rfl ⟨Nat.le_of_ble_eq_true rfl, Nat.le_of_ble_eq_true rfl⟩ ⟨Nat.zero_le _, Nat.zero_le _⟩ 0 9 rfl rfl rfl gT_ok hP hD hK (fun _ _ _ => trivial) hl.1 (Nat.le_of_ble_eq_true rfl) dX9_off_46 rfl) hD hS hA rfl (fun H locs hP hD hS => ?_)
    refine lv_iload_n (pc := 49) hx hb dX9_off_49 rfl (lv_at hl 1 rfl) ?_
    refine lv_istore_n (lv' := [(2, .int p0), (0, .ref (a0 0)), (1, .int p0)]) (pc := 50) hx hb dX9_off_50 rfl hl (by decide) rfl (fun ls hl => ?_)
    have jr := J51 FU p0 t0_46 _ _ ls h hP hD hS (lv_sub hl [1, 0] rfl)
    exact jr
  · replace h := it_t c13 h
    refine lv_bipush (v := -2) (pc := 16) hx hb dX9_off_16 (by decide) ?_
    have kr := KR (-2 : Int32) s0 _ _ 18 ls h rfl hP hD hS dX9_off_18
    exact kr
abbrev rmX9_termOf : Room := { frames := 2, cells := 0, slots := 0, locals := 44 }
set_option maxRecDepth 100000 in
set_option maxHeartbeats 40000000 in
theorem cX9_termOf_met (l : Launch) (D : va_G) (c : Nat → ClassId) (a0 : Nat → Nat) (p0 : Int32) (p1 : Int32) (s0 : Mem) (r0 : Int32) (h : fX9_termOf p0 p1 s0 = some r0) : gM l yX9_termOf wsX9_termOf rmX9_termOf D (gY c) gT [.ref (a0 0), .int p0, .int p1] (wX9 a0 c s0) (some (.int r0)) (wX9 a0 c s0) := by
  unfold fX9_termOf at h
  refine gM.I (cc := cX9_termOf) (maxL := 3) (by decide) rfl (Nat.le_of_ble_eq_true rfl) ?_
  intro p e s m args below meth cd hx hb hml hown hts A hA ls hl hP hK hD hS hE Q KR0
  have hfX9 : ∀ w ∈ u_ws RX9 TX9 24, w.before args s = true := fun w hw => hts w (List.mem_cons_of_mem _ (List.mem_append_right _ hw))
  have lk0 := hts (.fieldLink RX9 9 "GlitchNetsModel" "s" "[I") (List.mem_of_getElem? (i := 1) rfl)
  have KR : ∀ (v : Int32)  (H : Heap) (locs : List Loc) (pc : Nat) (ls : Array Slot), some v = some r0 → narrow .int (.int v) = .int v → va_P D vwCl (wX9 a0 c s0) H → va_D A (wX9 a0 c s0) → va_S A s.heap H locs → decode cX9_termOf pc = .ok (.ireturn, 1) → W p l e rmX9_termOf s m args below meth cd H locs 0 0 Q (F0 m pc ls [.int v]) := by
    intro v  H locs pc ls hr hn hP hD hS hd
    cases hr
    exact KR0 _ H locs pc ls rfl hn hP hD hS hd
  have hl : lv_has ls 3 [(0, .ref (a0 0)), (1, .int p0), (2, .int p1)] := hl
  refine lv_iload_n (pc := 0) hx hb dX9_termOf_0 rfl (lv_at hl 1 rfl) ?_
  refine lv_iconst (v := 0) (pc := 1) hx hb dX9_termOf_1 (by decide) ?_
  refine lv_aload_n (pc := 2) hx hb dX9_termOf_2 rfl (lv_at hl 0 rfl) ?_
  refine va_get (D := D) (ci := 9) (v := .ref (a0 1)) (C := RX9) (T := TX9) (N := 24) (pc := 3) hx hb hfX9 (fun _ h9 => h9) hown hK hP 0 rfl rfl 0 (by decide) lk0 (fun _ h9 => h9) rfl dX9_termOf_3 ?_
  refine lv_iconst (v := 1) (pc := 6) hx hb dX9_termOf_6 (by decide) ?_
  obtain ⟨hk7, h⟩ := ckI_i h
  refine va_iald (D := D) (f := (s0.1 0)) (pc := 7) hx hb hK hP 1 0 rfl rfl hk7 dX9_termOf_7 ?_
  refine lv_iconst (v := 1) (pc := 8) hx hb dX9_termOf_8 (by decide) ?_
  refine lv_isub (pc := 9) hx hb dX9_termOf_9 ?_
  obtain ⟨r10, hc10, h⟩ := b1_i h
  refine g_none (st1 := [.int r10]) (gr_S (n := 3) (rest := []) (pc := 10) hx hb hml hown hts (cX9_isIn_met l D c p0 (0 : Int32) ((((s0.1 0) ((1 : Int32)).toNatClampNeg) - (1 : Int32))) _ hc10) gX9_termOf_X9_isIn rfl rfl rfl (by decide +kernel) rfl ⟨Nat.le_of_ble_eq_true rfl, Nat.le_of_ble_eq_true rfl⟩ ⟨Nat.zero_le _, Nat.zero_le _⟩ gT_ok g_P0 (g_D0 (A := A)) hK (fun _ _ _ => trivial) hl.1 (Nat.le_of_ble_eq_true rfl) dX9_termOf_10 rfl) hP hS hA rfl (fun H locs hP hS => ?_)
  refine lv_if_eq (tgt := 25) (pc := 13) hx hb dX9_termOf_13 (by decide) (fun c13 => ?_) (fun c13 => ?_)
  · replace h := it_t c13 h
    refine lv_bipush (v := -2) (pc := 25) hx hb dX9_termOf_25 (by decide) ?_
    have kr := KR (-2 : Int32)  _ _ 27 ls h rfl hP hD hS dX9_termOf_27
    exact kr
  · replace h := it_f c13 h
    refine lv_iload_n (pc := 16) hx hb dX9_termOf_16 rfl (lv_at hl 2 rfl) ?_
    refine lv_iconst (v := 0) (pc := 17) hx hb dX9_termOf_17 (by decide) ?_
    refine lv_iconst (v := 2) (pc := 18) hx hb dX9_termOf_18 (by decide) ?_
    obtain ⟨r19, hc19, h⟩ := b1_i h
    refine g_none (st1 := [.int r19]) (gr_S (n := 3) (rest := []) (pc := 19) hx hb hml hown hts (cX9_isIn_met l D c p1 (0 : Int32) (2 : Int32) _ hc19) gX9_termOf_X9_isIn rfl rfl rfl (by decide +kernel) rfl ⟨Nat.le_of_ble_eq_true rfl, Nat.le_of_ble_eq_true rfl⟩ ⟨Nat.zero_le _, Nat.zero_le _⟩ gT_ok g_P0 (g_D0 (A := A)) hK (fun _ _ _ => trivial) hl.1 (Nat.le_of_ble_eq_true rfl) dX9_termOf_19 rfl) hP hS hA rfl (fun H locs hP hS => ?_)
    refine lv_if_ne (tgt := 28) (pc := 22) hx hb dX9_termOf_22 (by decide) (fun c22 => ?_) (fun c22 => ?_)
    · replace h := it_f c22 h
      refine lv_iload_n (pc := 28) hx hb dX9_termOf_28 rfl (lv_at hl 2 rfl) ?_
      refine lv_iconst (v := 2) (pc := 29) hx hb dX9_termOf_29 (by decide) ?_
      refine lv_icmp_ne (tgt := 41) (pc := 30) hx hb dX9_termOf_30 (by decide) (fun c30 => ?_) (fun c30 => ?_)
      · replace h := it_f c30 h
        refine lv_aload_n (pc := 41) hx hb dX9_termOf_41 rfl (lv_at hl 0 rfl) ?_
        refine va_get (D := D) (ci := 9) (v := .ref (a0 1)) (C := RX9) (T := TX9) (N := 24) (pc := 42) hx hb hfX9 (fun _ h9 => h9) hown hK hP 0 rfl rfl 0 (by decide) lk0 (fun _ h9 => h9) rfl dX9_termOf_42 ?_
        refine lv_bipush (v := 50) (pc := 45) hx hb dX9_termOf_45 (by decide) ?_
        refine lv_iconst (v := 2) (pc := 47) hx hb dX9_termOf_47 (by decide) ?_
        refine lv_iload_n (pc := 48) hx hb dX9_termOf_48 rfl (lv_at hl 1 rfl) ?_
        refine lv_imul (pc := 49) hx hb dX9_termOf_49 ?_
        refine lv_iadd (pc := 50) hx hb dX9_termOf_50 ?_
        refine lv_iload_n (pc := 51) hx hb dX9_termOf_51 rfl (lv_at hl 2 rfl) ?_
        refine lv_iadd (pc := 52) hx hb dX9_termOf_52 ?_
        obtain ⟨hk53, h⟩ := ckI_i h
        refine va_iald (D := D) (f := (s0.1 0)) (pc := 53) hx hb hK hP 1 0 rfl rfl hk53 dX9_termOf_53 ?_
        have kr := KR ((s0.1 0) ((((50 : Int32) + ((2 : Int32) * p0)) + p1)).toNatClampNeg)  _ _ 54 ls h rfl hP hD hS dX9_termOf_54
        exact kr
      · replace h := it_t c30 h
        refine lv_aload_n (pc := 33) hx hb dX9_termOf_33 rfl (lv_at hl 0 rfl) ?_
        refine lv_iload_n (pc := 34) hx hb dX9_termOf_34 rfl (lv_at hl 1 rfl) ?_
        obtain ⟨r35, hc35, h⟩ := b1_i h
        refine g_all (st1 := [.int r35]) (gr_V (n := 1) (rest := []) (pc := 35) hx hb hml hown hts (cX9_holds_met l D c a0 p0 s0 _ hc35) gX9_termOf_X9_holds rfl rfl rfl (by decide +kernel) rfl ⟨Nat.le_of_ble_eq_true rfl, Nat.le_of_ble_eq_true rfl⟩ ⟨Nat.zero_le _, Nat.zero_le _⟩ 0 9 rfl rfl rfl gT_ok hP hD hK (fun _ _ _ => trivial) hl.1 (Nat.le_of_ble_eq_true rfl) dX9_termOf_35 rfl) hD hS hA rfl (fun H locs hP hD hS => ?_)
        refine lv_goto (tgt := 54) (pc := 38) hx hb dX9_termOf_38 (by decide) ?_
        have kr := KR r35  _ _ 54 ls h rfl hP hD hS dX9_termOf_54
        exact kr
    · replace h := it_t c22 h
      refine lv_bipush (v := -2) (pc := 25) hx hb dX9_termOf_25 (by decide) ?_
      have kr := KR (-2 : Int32)  _ _ 27 ls h rfl hP hD hS dX9_termOf_27
      exact kr
abbrev rmX9_coveredSet : Room := { frames := 2, cells := 0, slots := 0, locals := 44 }
set_option maxRecDepth 100000 in
set_option maxHeartbeats 40000000 in
theorem cX9_coveredSet_met (l : Launch) (D : va_G) (c : Nat → ClassId) (a0 : Nat → Nat) (s0 : Mem) (r0 : Int32) (h : fX9_coveredSet s0 = some r0) : gM l yX9_coveredSet wsX9_coveredSet rmX9_coveredSet D (gY c) gT [.ref (a0 0)] (wX9 a0 c s0) (some (.int r0)) (wX9 a0 c s0) := by
  unfold fX9_coveredSet at h
  refine gM.I (cc := cX9_coveredSet) (maxL := 3) (by decide) rfl (Nat.le_of_ble_eq_true rfl) ?_
  intro p e s m args below meth cd hx hb hml hown hts A hA ls hl hP hK hD hS hE Q KR0
  have hfX9 : ∀ w ∈ u_ws RX9 TX9 24, w.before args s = true := fun w hw => hts w (List.mem_cons_of_mem _ (List.mem_append_right _ hw))
  have lk0 := hts (.fieldLink RX9 9 "GlitchNetsModel" "s" "[I") (List.mem_of_getElem? (i := 1) rfl)
  have KR : ∀ (v : Int32)  (H : Heap) (locs : List Loc) (pc : Nat) (ls : Array Slot), some v = some r0 → narrow .int (.int v) = .int v → va_P D vwCl (wX9 a0 c s0) H → va_D A (wX9 a0 c s0) → va_S A s.heap H locs → decode cX9_coveredSet pc = .ok (.ireturn, 1) → W p l e rmX9_coveredSet s m args below meth cd H locs 0 0 Q (F0 m pc ls [.int v]) := by
    intro v  H locs pc ls hr hn hP hD hS hd
    cases hr
    exact KR0 _ H locs pc ls rfl hn hP hD hS hd
  have hl : lv_has ls 3 [(0, .ref (a0 0))] := hl
  have J4 : ∀ (n : Nat) (x1 : Int32) (x2 : Int32) (H : Heap) (locs : List Loc) (ls : Array Slot), fX9_coveredSet_b4 s0 n x1 x2 = some r0 → va_P D vwCl (wX9 a0 c s0) H → va_D A (wX9 a0 c s0) → va_S A s.heap H locs → lv_has ls 3 [(0, .ref (a0 0)), (1, .int x1), (2, .int x2)] → W p l e rmX9_coveredSet s m args below meth cd H locs 0 0 Q (F0 m 4 ls []) := by
    intro n
    induction n with
    | zero =>
      intro x1 x2 H locs ls h _ _ _ _
      cases (show (none : Option (Int32)) = some _ from h)
    | succ n K4h =>
      intro x1 x2 H locs ls h hP hD hS hl
      rw [fX9_coveredSet_b4] at h
      refine lv_iload_n (pc := 4) hx hb dX9_coveredSet_4 rfl (lv_at hl 2 rfl) ?_
      refine lv_aload_n (pc := 5) hx hb dX9_coveredSet_5 rfl (lv_at hl 0 rfl) ?_
      refine va_get (D := D) (ci := 9) (v := .ref (a0 1)) (C := RX9) (T := TX9) (N := 24) (pc := 6) hx hb hfX9 (fun _ h9 => h9) hown hK hP 0 rfl rfl 0 (by decide) lk0 (fun _ h9 => h9) rfl dX9_coveredSet_6 ?_
      refine lv_iconst (v := 1) (pc := 9) hx hb dX9_coveredSet_9 (by decide) ?_
      obtain ⟨hk10, h⟩ := ckI_i h
      refine va_iald (D := D) (f := (s0.1 0)) (pc := 10) hx hb hK hP 1 0 rfl rfl hk10 dX9_coveredSet_10 ?_
      refine lv_icmp_ge (tgt := 28) (pc := 11) hx hb dX9_coveredSet_11 (by decide) (fun c11 => ?_) (fun c11 => ?_)
      · replace h := it_t c11 h
        refine lv_iload_n (pc := 28) hx hb dX9_coveredSet_28 rfl (lv_at hl 1 rfl) ?_
        have kr := KR x1  _ _ 29 ls h rfl hP hD hS dX9_coveredSet_29
        exact kr
      · replace h := it_f c11 h
        refine lv_iload_n (pc := 14) hx hb dX9_coveredSet_14 rfl (lv_at hl 1 rfl) ?_
        refine lv_aload_n (pc := 15) hx hb dX9_coveredSet_15 rfl (lv_at hl 0 rfl) ?_
        refine lv_iload_n (pc := 16) hx hb dX9_coveredSet_16 rfl (lv_at hl 2 rfl) ?_
        obtain ⟨r17, hc17, h⟩ := b1_i h
        refine g_all (st1 := [.int r17, .int x1]) (gr_V (n := 1) (rest := [.int x1]) (pc := 17) hx hb hml hown hts (cX9_holds_met l D c a0 x2 s0 _ hc17) gX9_coveredSet_X9_holds rfl rfl rfl (by decide +kernel) rfl ⟨Nat.le_of_ble_eq_true rfl, Nat.le_of_ble_eq_true rfl⟩ ⟨Nat.zero_le _, Nat.zero_le _⟩ 0 9 rfl rfl rfl gT_ok hP hD hK (fun _ _ _ => trivial) hl.1 (Nat.le_of_ble_eq_true rfl) dX9_coveredSet_17 rfl) hD hS hA rfl (fun H locs hP hD hS => ?_)
        refine lv_ior (pc := 20) hx hb dX9_coveredSet_20 ?_
        refine lv_topi (fun v1_21 ev1_21 => ?_)
        replace h := lt_e ev1_21 h
        refine lv_istore_n (lv' := [(1, .int v1_21), (0, .ref (a0 0)), (2, .int x2)]) (pc := 21) hx hb dX9_coveredSet_21 rfl hl (by decide) rfl (fun ls hl => ?_)
        obtain ⟨v2_22, ev2_22, h⟩ := lt_i h
        refine lv_iinc (v := v2_22) (lv' := [(2, .int v2_22), (1, .int v1_21), (0, .ref (a0 0))]) (pc := 22) hx hb dX9_coveredSet_22 hl (k := 2) rfl (by rw [ev2_22]; rfl) (by decide) rfl (fun ls hl => ?_)
        refine lv_goto (tgt := 4) (pc := 25) hx hb dX9_coveredSet_25 (by decide) ?_
        have jr := K4h v1_21 v2_22 _ _ ls h hP hD hS (lv_sub hl [2, 1, 0] rfl)
        exact jr
  refine lv_iconst (v := 0) (pc := 0) hx hb dX9_coveredSet_0 (by decide) ?_
  refine lv_istore_n (lv' := [(1, .int (0 : Int32)), (0, .ref (a0 0))]) (pc := 1) hx hb dX9_coveredSet_1 rfl hl (by decide) rfl (fun ls hl => ?_)
  refine lv_iconst (v := 0) (pc := 2) hx hb dX9_coveredSet_2 (by decide) ?_
  refine lv_istore_n (lv' := [(2, .int (0 : Int32)), (1, .int (0 : Int32)), (0, .ref (a0 0))]) (pc := 3) hx hb dX9_coveredSet_3 rfl hl (by decide) rfl (fun ls hl => ?_)
  have jr := J4 FU (0 : Int32) (0 : Int32) _ _ ls h hP hD hS (lv_sub hl [2, 1, 0] rfl)
  exact jr
abbrev rmX9_covered : Room := { frames := 3, cells := 0, slots := 0, locals := 66 }
set_option maxRecDepth 100000 in
set_option maxHeartbeats 40000000 in
theorem cX9_covered_met (l : Launch) (D : va_G) (c : Nat → ClassId) (a0 : Nat → Nat) (p0 : Int32) (s0 : Mem) (r0 : Int32) (z0 : Mem) (h : fX9_covered p0 s0 = some (r0, z0)) : gM l yX9_covered wsX9_covered rmX9_covered D (gY c) gT [.ref (a0 0), .int p0] (wX9 a0 c s0) (some (.int r0)) (wX9 a0 c z0) := by
  unfold fX9_covered at h
  refine gM.I (cc := cX9_covered) (maxL := 2) (by decide) rfl (Nat.le_of_ble_eq_true rfl) ?_
  intro p e s m args below meth cd hx hb hml hown hts A hA ls hl hP hK hD hS hE Q KR0
  have hfX9 : ∀ w ∈ u_ws RX9 TX9 24, w.before args s = true := fun w hw => hts w (List.mem_cons_of_mem _ (List.mem_append_right _ hw))
  have lk0 := hts (.fieldLink RX9 9 "GlitchNetsModel" "s" "[I") (List.mem_of_getElem? (i := 1) rfl)
  have KR : ∀ (v : Int32) (w0 : Mem) (H : Heap) (locs : List Loc) (pc : Nat) (ls : Array Slot), some (v, w0) = some (r0, z0) → narrow .int (.int v) = .int v → va_P D vwCl (wX9 a0 c w0) H → va_D A (wX9 a0 c w0) → va_S A s.heap H locs → decode cX9_covered pc = .ok (.ireturn, 1) → W p l e rmX9_covered s m args below meth cd H locs 0 0 Q (F0 m pc ls [.int v]) := by
    intro v w0 H locs pc ls hr hn hP hD hS hd
    cases hr
    exact KR0 _ H locs pc ls rfl hn hP hD hS hd
  have hl : lv_has ls 2 [(0, .ref (a0 0)), (1, .int p0)] := hl
  refine lv_iload_n (pc := 0) hx hb dX9_covered_0 rfl (lv_at hl 1 rfl) ?_
  refine lv_iconst (v := 0) (pc := 1) hx hb dX9_covered_1 (by decide) ?_
  refine lv_iconst (v := 1) (pc := 2) hx hb dX9_covered_2 (by decide) ?_
  obtain ⟨r3, hc3, h⟩ := b1_i h
  refine g_none (st1 := [.int r3]) (gr_S (n := 3) (rest := []) (pc := 3) hx hb hml hown hts (cX9_isIn_met l D c p0 (0 : Int32) (1 : Int32) _ hc3) gX9_covered_X9_isIn rfl rfl rfl (by decide +kernel) rfl ⟨Nat.le_of_ble_eq_true rfl, Nat.le_of_ble_eq_true rfl⟩ ⟨Nat.zero_le _, Nat.zero_le _⟩ gT_ok g_P0 (g_D0 (A := A)) hK (fun _ _ _ => trivial) hl.1 (Nat.le_of_ble_eq_true rfl) dX9_covered_3 rfl) hP hS hA rfl (fun H locs hP hS => ?_)
  refine lv_if_ne (tgt := 12) (pc := 6) hx hb dX9_covered_6 (by decide) (fun c6 => ?_) (fun c6 => ?_)
  · replace h := it_f c6 h
    refine lv_iload_n (pc := 12) hx hb dX9_covered_12 rfl (lv_at hl 1 rfl) ?_
    refine lv_if_ne (tgt := 21) (pc := 13) hx hb dX9_covered_13 (by decide) (fun c13 => ?_) (fun c13 => ?_)
    · replace h := it_f c13 h
      refine lv_aload_n (pc := 21) hx hb dX9_covered_21 rfl (lv_at hl 0 rfl) ?_
      refine va_get (D := D) (ci := 9) (v := .ref (a0 1)) (C := RX9) (T := TX9) (N := 24) (pc := 22) hx hb hfX9 (fun _ h9 => h9) hown hK hP 0 rfl rfl 0 (by decide) lk0 (fun _ h9 => h9) rfl dX9_covered_22 ?_
      refine lv_iconst (v := 0) (pc := 25) hx hb dX9_covered_25 (by decide) ?_
      obtain ⟨hk26, h⟩ := ckI_i h
      refine va_iald (D := D) (f := (s0.1 0)) (pc := 26) hx hb hK hP 1 0 rfl rfl hk26 dX9_covered_26 ?_
      refine lv_if_ne (tgt := 35) (pc := 27) hx hb dX9_covered_27 (by decide) (fun c27 => ?_) (fun c27 => ?_)
      · replace h := it_f c27 h
        refine lv_aload_n (pc := 35) hx hb dX9_covered_35 rfl (lv_at hl 0 rfl) ?_
        obtain ⟨r36, hc36, h⟩ := b1_i h
        refine g_all (st1 := [.int r36]) (gr_V (n := 0) (rest := []) (pc := 36) hx hb hml hown hts (cX9_coveredSet_met l D c a0 s0 _ hc36) gX9_covered_X9_coveredSet rfl rfl rfl (by decide +kernel) rfl ⟨Nat.le_of_ble_eq_true rfl, Nat.le_of_ble_eq_true rfl⟩ ⟨Nat.zero_le _, Nat.zero_le _⟩ 0 9 rfl rfl rfl gT_ok hP hD hK (fun _ _ _ => trivial) hl.1 (Nat.le_of_ble_eq_true rfl) dX9_covered_36 rfl) hD hS hA rfl (fun H locs hP hD hS => ?_)
        refine lv_aload_n (pc := 39) hx hb dX9_covered_39 rfl (lv_at hl 0 rfl) ?_
        obtain ⟨r40, t0_40, hc40, h⟩ := b2_i h
        refine g_all (st1 := [.int r40, .int r36]) (gr_V (n := 0) (rest := [.int r36]) (pc := 40) hx hb hml hown hts (cX9_tableOf_met l D c a0 s0 _ _ hc40) gX9_covered_X9_tableOf rfl rfl rfl (by decide +kernel) rfl ⟨Nat.le_of_ble_eq_true rfl, Nat.le_of_ble_eq_true rfl⟩ ⟨Nat.zero_le _, Nat.zero_le _⟩ 0 9 rfl rfl rfl gT_ok hP hD hK (fun _ _ _ => trivial) hl.1 (Nat.le_of_ble_eq_true rfl) dX9_covered_40 rfl) hD hS hA rfl (fun H locs hP hD hS => ?_)
        refine lv_icmp_ne (tgt := 50) (pc := 43) hx hb dX9_covered_43 (by decide) (fun c43 => ?_) (fun c43 => ?_)
        · replace h := it_f c43 h
          refine lv_iconst (v := 0) (pc := 50) hx hb dX9_covered_50 (by decide) ?_
          have kr := KR (0 : Int32) t0_40 _ _ 51 ls h rfl hP hD hS dX9_covered_51
          exact kr
        · replace h := it_t c43 h
          refine lv_iconst (v := 1) (pc := 46) hx hb dX9_covered_46 (by decide) ?_
          refine lv_goto (tgt := 51) (pc := 47) hx hb dX9_covered_47 (by decide) ?_
          have kr := KR (1 : Int32) t0_40 _ _ 51 ls h rfl hP hD hS dX9_covered_51
          exact kr
      · replace h := it_t c27 h
        refine lv_bipush (v := -3) (pc := 30) hx hb dX9_covered_30 (by decide) ?_
        refine lv_goto (tgt := 51) (pc := 32) hx hb dX9_covered_32 (by decide) ?_
        have kr := KR (-3 : Int32) s0 _ _ 51 ls h rfl hP hD hS dX9_covered_51
        exact kr
    · replace h := it_t c13 h
      refine lv_aload_n (pc := 16) hx hb dX9_covered_16 rfl (lv_at hl 0 rfl) ?_
      obtain ⟨r17, hc17, h⟩ := b1_i h
      refine g_all (st1 := [.int r17]) (gr_V (n := 0) (rest := []) (pc := 17) hx hb hml hown hts (cX9_coveredSet_met l D c a0 s0 _ hc17) gX9_covered_X9_coveredSet rfl rfl rfl (by decide +kernel) rfl ⟨Nat.le_of_ble_eq_true rfl, Nat.le_of_ble_eq_true rfl⟩ ⟨Nat.zero_le _, Nat.zero_le _⟩ 0 9 rfl rfl rfl gT_ok hP hD hK (fun _ _ _ => trivial) hl.1 (Nat.le_of_ble_eq_true rfl) dX9_covered_17 rfl) hD hS hA rfl (fun H locs hP hD hS => ?_)
      have kr := KR r17 s0 _ _ 20 ls h rfl hP hD hS dX9_covered_20
      exact kr
  · replace h := it_t c6 h
    refine lv_bipush (v := -2) (pc := 9) hx hb dX9_covered_9 (by decide) ?_
    have kr := KR (-2 : Int32) s0 _ _ 11 ls h rfl hP hD hS dX9_covered_11
    exact kr
abbrev rmX9_areHeld : Room := { frames := 2, cells := 0, slots := 0, locals := 44 }
set_option maxRecDepth 100000 in
set_option maxHeartbeats 40000000 in
theorem cX9_areHeld_met (l : Launch) (D : va_G) (c : Nat → ClassId) (a0 : Nat → Nat) (p0 : Int32) (s0 : Mem) (r0 : Int32) (h : fX9_areHeld p0 s0 = some r0) : gM l yX9_areHeld wsX9_areHeld rmX9_areHeld D (gY c) gT [.ref (a0 0), .int p0] (wX9 a0 c s0) (some (.int r0)) (wX9 a0 c s0) := by
  unfold fX9_areHeld at h
  refine gM.I (cc := cX9_areHeld) (maxL := 3) (by decide) rfl (Nat.le_of_ble_eq_true rfl) ?_
  intro p e s m args below meth cd hx hb hml hown hts A hA ls hl hP hK hD hS hE Q KR0
  have hfX9 : ∀ w ∈ u_ws RX9 TX9 24, w.before args s = true := fun w hw => hts w (List.mem_cons_of_mem _ (List.mem_append_right _ hw))
  have lk0 := hts (.fieldLink RX9 9 "GlitchNetsModel" "s" "[I") (List.mem_of_getElem? (i := 1) rfl)
  have KR : ∀ (v : Int32)  (H : Heap) (locs : List Loc) (pc : Nat) (ls : Array Slot), some v = some r0 → narrow .boolean (.int v) = .int v → va_P D vwCl (wX9 a0 c s0) H → va_D A (wX9 a0 c s0) → va_S A s.heap H locs → decode cX9_areHeld pc = .ok (.ireturn, 1) → W p l e rmX9_areHeld s m args below meth cd H locs 0 0 Q (F0 m pc ls [.int v]) := by
    intro v  H locs pc ls hr hn hP hD hS hd
    cases hr
    exact KR0 _ H locs pc ls rfl hn hP hD hS hd
  have hl : lv_has ls 3 [(0, .ref (a0 0)), (1, .int p0)] := hl
  have J2 : ∀ (n : Nat) (x1 : Int32) (x2 : Int32) (H : Heap) (locs : List Loc) (ls : Array Slot), fX9_areHeld_b2 s0 n x1 x2 = some r0 → va_P D vwCl (wX9 a0 c s0) H → va_D A (wX9 a0 c s0) → va_S A s.heap H locs → lv_has ls 3 [(0, .ref (a0 0)), (1, .int x1), (2, .int x2)] → W p l e rmX9_areHeld s m args below meth cd H locs 0 0 Q (F0 m 2 ls []) := by
    intro n
    induction n with
    | zero =>
      intro x1 x2 H locs ls h _ _ _ _
      cases (show (none : Option (Int32)) = some _ from h)
    | succ n K2h =>
      intro x1 x2 H locs ls h hP hD hS hl
      rw [fX9_areHeld_b2] at h
      refine lv_iload_n (pc := 2) hx hb dX9_areHeld_2 rfl (lv_at hl 2 rfl) ?_
      refine lv_aload_n (pc := 3) hx hb dX9_areHeld_3 rfl (lv_at hl 0 rfl) ?_
      refine va_get (D := D) (ci := 9) (v := .ref (a0 1)) (C := RX9) (T := TX9) (N := 24) (pc := 4) hx hb hfX9 (fun _ h9 => h9) hown hK hP 0 rfl rfl 0 (by decide) lk0 (fun _ h9 => h9) rfl dX9_areHeld_4 ?_
      refine lv_iconst (v := 1) (pc := 7) hx hb dX9_areHeld_7 (by decide) ?_
      obtain ⟨hk8, h⟩ := ckI_i h
      refine va_iald (D := D) (f := (s0.1 0)) (pc := 8) hx hb hK hP 1 0 rfl rfl hk8 dX9_areHeld_8 ?_
      refine lv_icmp_ge (tgt := 32) (pc := 9) hx hb dX9_areHeld_9 (by decide) (fun c9 => ?_) (fun c9 => ?_)
      · replace h := it_t c9 h
        refine lv_iconst (v := 0) (pc := 32) hx hb dX9_areHeld_32 (by decide) ?_
        have kr := KR (0 : Int32)  _ _ 33 ls h rfl hP hD hS dX9_areHeld_33
        exact kr
      · replace h := it_f c9 h
        refine lv_iload_n (pc := 12) hx hb dX9_areHeld_12 rfl (lv_at hl 1 rfl) ?_
        refine lv_aload_n (pc := 13) hx hb dX9_areHeld_13 rfl (lv_at hl 0 rfl) ?_
        refine lv_iload_n (pc := 14) hx hb dX9_areHeld_14 rfl (lv_at hl 2 rfl) ?_
        obtain ⟨r15, hc15, h⟩ := b1_i h
        refine g_all (st1 := [.int r15, .int x1]) (gr_V (n := 1) (rest := [.int x1]) (pc := 15) hx hb hml hown hts (cX9_holds_met l D c a0 x2 s0 _ hc15) gX9_areHeld_X9_holds rfl rfl rfl (by decide +kernel) rfl ⟨Nat.le_of_ble_eq_true rfl, Nat.le_of_ble_eq_true rfl⟩ ⟨Nat.zero_le _, Nat.zero_le _⟩ 0 9 rfl rfl rfl gT_ok hP hD hK (fun _ _ _ => trivial) hl.1 (Nat.le_of_ble_eq_true rfl) dX9_areHeld_15 rfl) hD hS hA rfl (fun H locs hP hD hS => ?_)
        refine lv_iconst (v := -1) (pc := 18) hx hb dX9_areHeld_18 (by decide) ?_
        refine lv_ixor (pc := 19) hx hb dX9_areHeld_19 ?_
        refine lv_iand (pc := 20) hx hb dX9_areHeld_20 ?_
        refine lv_if_ne (tgt := 26) (pc := 21) hx hb dX9_areHeld_21 (by decide) (fun c21 => ?_) (fun c21 => ?_)
        · replace h := it_f c21 h
          obtain ⟨v2_26, ev2_26, h⟩ := lt_i h
          refine lv_iinc (v := v2_26) (lv' := [(2, .int v2_26), (0, .ref (a0 0)), (1, .int x1)]) (pc := 26) hx hb dX9_areHeld_26 hl (k := 2) rfl (by rw [ev2_26]; rfl) (by decide) rfl (fun ls hl => ?_)
          refine lv_goto (tgt := 2) (pc := 29) hx hb dX9_areHeld_29 (by decide) ?_
          have jr := K2h x1 v2_26 _ _ ls h hP hD hS (lv_sub hl [1, 2, 0] rfl)
          exact jr
        · replace h := it_t c21 h
          refine lv_iconst (v := 1) (pc := 24) hx hb dX9_areHeld_24 (by decide) ?_
          have kr := KR (1 : Int32)  _ _ 25 ls h rfl hP hD hS dX9_areHeld_25
          exact kr
  refine lv_iconst (v := 0) (pc := 0) hx hb dX9_areHeld_0 (by decide) ?_
  refine lv_istore_n (lv' := [(2, .int (0 : Int32)), (0, .ref (a0 0)), (1, .int p0)]) (pc := 1) hx hb dX9_areHeld_1 rfl hl (by decide) rfl (fun ls hl => ?_)
  have jr := J2 FU p0 (0 : Int32) _ _ ls h hP hD hS (lv_sub hl [1, 2, 0] rfl)
  exact jr
abbrev rmX9_pairOf : Room := { frames := 0, cells := 0, slots := 0, locals := 0 }
set_option maxRecDepth 100000 in
set_option maxHeartbeats 40000000 in
theorem cX9_pairOf_met (l : Launch) (D : va_G) (c : Nat → ClassId)  (p0 : Int32) (r0 : Int32) (h : fX9_pairOf p0 = some r0) : gM l yX9_pairOf wsX9_pairOf rmX9_pairOf D (gY c) gT [.int p0] ([]) (some (.int r0)) ([]) := by
  unfold fX9_pairOf at h
  refine gM.I (cc := cX9_pairOf) (maxL := 2) (by decide) rfl (Nat.le_of_ble_eq_true rfl) ?_
  intro p e s m args below meth cd hx hb hml hown hts A hA ls hl hP hK hD hS hE Q KR0
  have KR : ∀ (v : Int32)  (H : Heap) (locs : List Loc) (pc : Nat) (ls : Array Slot), some v = some r0 → narrow .int (.int v) = .int v → va_P D vwCl ([]) H → va_D A ([]) → va_S A s.heap H locs → decode cX9_pairOf pc = .ok (.ireturn, 1) → W p l e rmX9_pairOf s m args below meth cd H locs 0 0 Q (F0 m pc ls [.int v]) := by
    intro v  H locs pc ls hr hn hP hD hS hd
    cases hr
    exact KR0 _ H locs pc ls rfl hn hP hD hS hd
  have hl : lv_has ls 2 [(0, .int p0)] := hl
  refine lv_iload_n (pc := 0) hx hb dX9_pairOf_0 rfl (lv_at hl 0 rfl) ?_
  refine lv_bipush (v := 16) (pc := 1) hx hb dX9_pairOf_1 (by decide) ?_
  obtain ⟨hz3, h⟩ := ck0_i h
  refine lv_idiv (pc := 3) hx hb dX9_pairOf_3 hz3 ?_
  refine lv_topi (fun v1_4 ev1_4 => ?_)
  replace h := lt_e ev1_4 h
  refine lv_istore_n (lv' := [(1, .int v1_4), (0, .int p0)]) (pc := 4) hx hb dX9_pairOf_4 rfl hl (by decide) rfl (fun ls hl => ?_)
  refine lv_iconst (v := 1) (pc := 5) hx hb dX9_pairOf_5 (by decide) ?_
  refine lv_iload_n (pc := 6) hx hb dX9_pairOf_6 rfl (lv_at hl 0 rfl) ?_
  refine lv_ishl (pc := 7) hx hb dX9_pairOf_7 ?_
  refine lv_iconst (v := 1) (pc := 8) hx hb dX9_pairOf_8 (by decide) ?_
  refine lv_iload_n (pc := 9) hx hb dX9_pairOf_9 rfl (lv_at hl 0 rfl) ?_
  refine lv_iconst (v := 1) (pc := 10) hx hb dX9_pairOf_10 (by decide) ?_
  refine lv_iload_n (pc := 11) hx hb dX9_pairOf_11 rfl (lv_at hl 1 rfl) ?_
  refine lv_bipush (v := 16) (pc := 12) hx hb dX9_pairOf_12 (by decide) ?_
  obtain ⟨hz14, h⟩ := ck0_i h
  refine lv_irem (pc := 14) hx hb dX9_pairOf_14 hz14 ?_
  refine lv_ishl (pc := 15) hx hb dX9_pairOf_15 ?_
  refine lv_ior (pc := 16) hx hb dX9_pairOf_16 ?_
  refine lv_ishl (pc := 17) hx hb dX9_pairOf_17 ?_
  refine lv_ior (pc := 18) hx hb dX9_pairOf_18 ?_
  have kr := KR (((1 : Int32) <<< (v1_4 &&& 31)) ||| ((1 : Int32) <<< ((v1_4 ||| ((1 : Int32) <<< ((p0 - p0 / (16 : Int32) * (16 : Int32)) &&& 31))) &&& 31)))  _ _ 19 ls h rfl hP hD hS dX9_pairOf_19
  exact kr
abbrev rmX9_opensAll : Room := { frames := 3, cells := 0, slots := 0, locals := 66 }
set_option maxRecDepth 100000 in
set_option maxHeartbeats 40000000 in
theorem cX9_opensAll_met (l : Launch) (D : va_G) (c : Nat → ClassId) (a0 : Nat → Nat) (s0 : Mem) (z0 : Mem) (h : fX9_opensAll s0 = some z0) : gM l yX9_opensAll wsX9_opensAll rmX9_opensAll D (gY c) gT [.ref (a0 0)] (wX9 a0 c s0) none (wX9 a0 c z0) := by
  unfold fX9_opensAll at h
  refine gM.V (cc := cX9_opensAll) (maxL := 5) (by decide) rfl (Nat.le_of_ble_eq_true rfl) ?_
  intro p e s m args below meth cd hx hb hml hown hts A hA ls hl hP hK hD hS hE Q KR0
  have hfX9 : ∀ w ∈ u_ws RX9 TX9 24, w.before args s = true := fun w hw => hts w (List.mem_cons_of_mem _ (List.mem_append_right _ hw))
  have lk0 := hts (.fieldLink RX9 192 "GlitchNetsModel" "opens" "I") (List.mem_of_getElem? (i := 1) rfl)
  have lk1 := hts (.fieldLink RX9 35 "GlitchNetsModel" "open" "[I") (List.mem_of_getElem? (i := 2) rfl)
  have KR : ∀ (w0 : Mem) (H : Heap) (locs : List Loc) (pc : Nat) (ls : Array Slot), some w0 = some z0 → va_P D vwCl (wX9 a0 c w0) H → va_D A (wX9 a0 c w0) → va_S A s.heap H locs → decode cX9_opensAll pc = .ok (.return_, 1) → W p l e rmX9_opensAll s m args below meth cd H locs 0 0 Q (F0 m pc ls []) := by
    intro w0 H locs pc ls hr hP hD hS hd
    cases hr
    exact KR0 H locs pc ls hP hD hS hd
  have hl : lv_has ls 5 [(0, .ref (a0 0))] := hl
  have J89 : ∀ (K20 : Int32 → Int32 → Int32 → Mem → Option (Mem)) (K20h : ∀ (x1 : Int32) (x2 : Int32) (x3 : Int32) (s0 : Mem) (H : Heap) (locs : List Loc) (ls : Array Slot), K20 x1 x2 x3 s0 = some z0 → va_P D vwCl (wX9 a0 c s0) H → va_D A (wX9 a0 c s0) → va_S A s.heap H locs → lv_has ls 5 [(0, .ref (a0 0)), (1, .int x1), (2, .int x2), (3, .int x3)] → W p l e rmX9_opensAll s m args below meth cd H locs 0 0 Q (F0 m 20 ls [])) (x1 : Int32) (x2 : Int32) (x3 : Int32) (s0 : Mem) (H : Heap) (locs : List Loc) (ls : Array Slot), fX9_opensAll_b89 K20 x1 x2 x3 s0 = some z0 → va_P D vwCl (wX9 a0 c s0) H → va_D A (wX9 a0 c s0) → va_S A s.heap H locs → lv_has ls 5 [(0, .ref (a0 0)), (1, .int x1), (2, .int x2), (3, .int x3)] → W p l e rmX9_opensAll s m args below meth cd H locs 0 0 Q (F0 m 89 ls []) := by
    intro K20 K20h x1 x2 x3 s0 H locs ls h hP hD hS hl
    unfold fX9_opensAll_b89 at h
    obtain ⟨v3_89, ev3_89, h⟩ := lt_i h
    refine lv_iinc (v := v3_89) (lv' := [(3, .int v3_89), (0, .ref (a0 0)), (1, .int x1), (2, .int x2)]) (pc := 89) hx hb dX9_opensAll_89 hl (k := 3) rfl (by rw [ev3_89]; rfl) (by decide) rfl (fun ls hl => ?_)
    refine lv_goto (tgt := 20) (pc := 92) hx hb dX9_opensAll_92 (by decide) ?_
    have jr := K20h x1 x2 v3_89 s0 _ _ ls h hP hD hS (lv_sub hl [1, 2, 3, 0] rfl)
    exact jr
  have J20 : ∀ (K12 : Int32 → Int32 → Mem → Option (Mem)) (K12h : ∀ (x1 : Int32) (x2 : Int32) (s0 : Mem) (H : Heap) (locs : List Loc) (ls : Array Slot), K12 x1 x2 s0 = some z0 → va_P D vwCl (wX9 a0 c s0) H → va_D A (wX9 a0 c s0) → va_S A s.heap H locs → lv_has ls 5 [(0, .ref (a0 0)), (1, .int x1), (2, .int x2)] → W p l e rmX9_opensAll s m args below meth cd H locs 0 0 Q (F0 m 12 ls [])) (n : Nat) (x1 : Int32) (x2 : Int32) (x3 : Int32) (s0 : Mem) (H : Heap) (locs : List Loc) (ls : Array Slot), fX9_opensAll_b20 K12 n x1 x2 x3 s0 = some z0 → va_P D vwCl (wX9 a0 c s0) H → va_D A (wX9 a0 c s0) → va_S A s.heap H locs → lv_has ls 5 [(0, .ref (a0 0)), (1, .int x1), (2, .int x2), (3, .int x3)] → W p l e rmX9_opensAll s m args below meth cd H locs 0 0 Q (F0 m 20 ls []) := by
    intro K12 K12h n
    induction n with
    | zero =>
      intro x1 x2 x3 s0 H locs ls h _ _ _ _
      cases (show (none : Option (Mem)) = some _ from h)
    | succ n K20h =>
      intro x1 x2 x3 s0 H locs ls h hP hD hS hl
      rw [fX9_opensAll_b20] at h
      refine lv_iload_n (pc := 20) hx hb dX9_opensAll_20 rfl (lv_at hl 3 rfl) ?_
      refine lv_iconst (v := 4) (pc := 21) hx hb dX9_opensAll_21 (by decide) ?_
      refine lv_icmp_ge (tgt := 95) (pc := 22) hx hb dX9_opensAll_22 (by decide) (fun c22 => ?_) (fun c22 => ?_)
      · replace h := it_t c22 h
        obtain ⟨v2_95, ev2_95, h⟩ := lt_i h
        refine lv_iinc (v := v2_95) (lv' := [(2, .int v2_95), (0, .ref (a0 0)), (1, .int x1), (3, .int x3)]) (pc := 95) hx hb dX9_opensAll_95 hl (k := 2) rfl (by rw [ev2_95]; rfl) (by decide) rfl (fun ls hl => ?_)
        refine lv_goto (tgt := 12) (pc := 98) hx hb dX9_opensAll_98 (by decide) ?_
        have jr := K12h x1 v2_95 s0 _ _ ls h hP hD hS (lv_sub hl [1, 2, 0] rfl)
        exact jr
      · replace h := it_f c22 h
        refine lv_bipush (v := 16) (pc := 25) hx hb dX9_opensAll_25 (by decide) ?_
        refine lv_iload_n (pc := 27) hx hb dX9_opensAll_27 rfl (lv_at hl 2 rfl) ?_
        refine lv_imul (pc := 28) hx hb dX9_opensAll_28 ?_
        refine lv_iload_n (pc := 29) hx hb dX9_opensAll_29 rfl (lv_at hl 3 rfl) ?_
        refine lv_iadd (pc := 30) hx hb dX9_opensAll_30 ?_
        refine lv_topi (fun v4_31 ev4_31 => ?_)
        replace h := lt_e ev4_31 h
        refine lv_istore (lv' := [(4, .int v4_31), (0, .ref (a0 0)), (1, .int x1), (2, .int x2), (3, .int x3)]) (pc := 31) hx hb dX9_opensAll_31 hl (by decide) rfl (fun ls hl => ?_)
        refine lv_iload_n (pc := 33) hx hb dX9_opensAll_33 rfl (lv_at hl 3 rfl) ?_
        refine lv_iload_n (pc := 34) hx hb dX9_opensAll_34 rfl (lv_at hl 4 rfl) ?_
        obtain ⟨r35, hc35, h⟩ := b1_i h
        refine g_none (st1 := [.int r35]) (gr_S (n := 2) (rest := []) (pc := 35) hx hb hml hown hts (cX9_has_met l D c x2 x3 _ hc35) gX9_opensAll_X9_has rfl rfl rfl (by decide +kernel) rfl ⟨Nat.le_of_ble_eq_true rfl, Nat.le_of_ble_eq_true rfl⟩ ⟨Nat.zero_le _, Nat.zero_le _⟩ gT_ok g_P0 (g_D0 (A := A)) hK (fun _ _ _ => trivial) hl.1 (Nat.le_of_ble_eq_true rfl) dX9_opensAll_35 rfl) hP hS hA rfl (fun H locs hP hS => ?_)
        refine lv_if_ne (tgt := 89) (pc := 38) hx hb dX9_opensAll_38 (by decide) (fun c38 => ?_) (fun c38 => ?_)
        · replace h := it_f c38 h
          have jr := J89 (fX9_opensAll_b20 K12 n) K20h x1 x2 x3 s0 _ _ ls h hP hD hS (lv_sub hl [1, 2, 3, 4] rfl)
          exact jr
        · replace h := it_t c38 h
          refine lv_iload (pc := 41) hx hb dX9_opensAll_41 (lv_at hl 0 rfl) ?_
          obtain ⟨r43, hc43, h⟩ := b1_i h
          refine g_none (st1 := [.int r43]) (gr_S (n := 1) (rest := []) (pc := 43) hx hb hml hown hts (cX9_pairOf_met l D c v4_31 _ hc43) gX9_opensAll_X9_pairOf rfl rfl rfl (by decide +kernel) rfl ⟨Nat.le_of_ble_eq_true rfl, Nat.le_of_ble_eq_true rfl⟩ ⟨Nat.zero_le _, Nat.zero_le _⟩ gT_ok g_P0 (g_D0 (A := A)) hK (fun _ _ _ => trivial) hl.1 (Nat.le_of_ble_eq_true rfl) dX9_opensAll_43 rfl) hP hS hA rfl (fun H locs hP hS => ?_)
          refine lv_iload_n (pc := 46) hx hb dX9_opensAll_46 rfl (lv_at hl 2 rfl) ?_
          refine lv_iconst (v := -1) (pc := 47) hx hb dX9_opensAll_47 (by decide) ?_
          refine lv_ixor (pc := 48) hx hb dX9_opensAll_48 ?_
          refine lv_iand (pc := 49) hx hb dX9_opensAll_49 ?_
          refine lv_if_ne (tgt := 89) (pc := 50) hx hb dX9_opensAll_50 (by decide) (fun c50 => ?_) (fun c50 => ?_)
          · replace h := it_f c50 h
            have jr := J89 (fX9_opensAll_b20 K12 n) K20h x1 x2 x3 s0 _ _ ls h hP hD hS (lv_sub hl [1, 2, 3, 4] rfl)
            exact jr
          · replace h := it_t c50 h
            refine lv_aload_n (pc := 53) hx hb dX9_opensAll_53 rfl (lv_at hl 1 rfl) ?_
            refine lv_iload (pc := 54) hx hb dX9_opensAll_54 (lv_at hl 0 rfl) ?_
            obtain ⟨r56, hc56, h⟩ := b1_i h
            refine g_none (st1 := [.int r56, .ref (a0 0)]) (gr_S (n := 1) (rest := [.ref (a0 0)]) (pc := 56) hx hb hml hown hts (cX9_pairOf_met l D c v4_31 _ hc56) gX9_opensAll_X9_pairOf rfl rfl rfl (by decide +kernel) rfl ⟨Nat.le_of_ble_eq_true rfl, Nat.le_of_ble_eq_true rfl⟩ ⟨Nat.zero_le _, Nat.zero_le _⟩ gT_ok g_P0 (g_D0 (A := A)) hK (fun _ _ _ => trivial) hl.1 (Nat.le_of_ble_eq_true rfl) dX9_opensAll_56 rfl) hP hS hA rfl (fun H locs hP hS => ?_)
            obtain ⟨r59, hc59, h⟩ := b1_i h
            refine g_all (st1 := [.int r59]) (gr_V (n := 1) (rest := []) (pc := 59) hx hb hml hown hts (cX9_areHeld_met l D c a0 r56 s0 _ hc59) gX9_opensAll_X9_areHeld rfl rfl rfl (by decide +kernel) rfl ⟨Nat.le_of_ble_eq_true rfl, Nat.le_of_ble_eq_true rfl⟩ ⟨Nat.zero_le _, Nat.zero_le _⟩ 0 9 rfl rfl rfl gT_ok hP hD hK (fun _ _ _ => trivial) hl.1 (Nat.le_of_ble_eq_true rfl) dX9_opensAll_59 rfl) hD hS hA rfl (fun H locs hP hD hS => ?_)
            refine lv_if_eq (tgt := 68) (pc := 62) hx hb dX9_opensAll_62 (by decide) (fun c62 => ?_) (fun c62 => ?_)
            · replace h := it_t c62 h
              refine lv_aload_n (pc := 68) hx hb dX9_opensAll_68 rfl (lv_at hl 1 rfl) ?_
              refine va_get (D := D) (ci := 9) (v := .ref (a0 9)) (C := RX9) (T := TX9) (N := 24) (pc := 69) hx hb hfX9 (fun _ h9 => h9) hown hK hP 0 rfl rfl 16 (by decide) lk1 (fun _ h9 => h9) rfl dX9_opensAll_69 ?_
              refine lv_aload_n (pc := 72) hx hb dX9_opensAll_72 rfl (lv_at hl 1 rfl) ?_
              refine va_get (D := D) (ci := 9) (v := .int (s0.1 17 0)) (C := RX9) (T := TX9) (N := 24) (pc := 73) hx hb hfX9 (fun _ h9 => h9) hown hK hP 0 rfl rfl 17 (by decide) lk0 (fun _ h9 => h9) rfl dX9_opensAll_73 ?_
              refine lv_iload (pc := 76) hx hb dX9_opensAll_76 (lv_at hl 0 rfl) ?_
              obtain ⟨hk78, h⟩ := ckI_i h
              refine va_iast (D := D) (f := (s0.1 16)) (pc := 78) hx hb hK hP hD hS 9 0 rfl rfl hk78 dX9_opensAll_78 (fun H locs hP hD hS => ?_)
              obtain ⟨m0_78, em0_78, h⟩ := lt_i h
              have hP : va_P D vwCl (wX9 a0 c m0_78) H := by rw [em0_78]; exact hP
              have hD : va_D A (wX9 a0 c m0_78) := by rw [em0_78]; exact hD
              refine lv_aload_n (pc := 79) hx hb dX9_opensAll_79 rfl (lv_at hl 1 rfl) ?_
              refine lv_dup (pc := 80) hx hb dX9_opensAll_80 rfl ?_
              refine va_get (D := D) (ci := 9) (v := .int (m0_78.1 17 0)) (C := RX9) (T := TX9) (N := 24) (pc := 81) hx hb hfX9 (fun _ h9 => h9) hown hK hP 0 rfl rfl 17 (by decide) lk0 (fun _ h9 => h9) rfl dX9_opensAll_81 ?_
              refine lv_iconst (v := 1) (pc := 84) hx hb dX9_opensAll_84 (by decide) ?_
              refine lv_iadd (pc := 85) hx hb dX9_opensAll_85 ?_
              refine va_put (D := D) (ci := 9) (v := .int ((m0_78.1 17 0) + (1 : Int32))) (ty := .int) (C := RX9) (T := TX9) (N := 24) (pc := 86) hx hb hfX9 (fun _ h9 => h9) tyX9 tyX9_ok nmX9 hown hK hP hD hS 0 rfl rfl 17 (by decide) lk0 (fun _ h9 => h9) rfl (by decide +kernel) rfl rfl (Nat.le_of_ble_eq_true rfl) dX9_opensAll_86 (fun H locs hP hD hS => ?_)
              obtain ⟨m0_86, em0_86, h⟩ := lt_i h
              have hP : va_P D vwCl (wX9 a0 c m0_86) H := by rw [em0_86]; exact hP
              have hD : va_D A (wX9 a0 c m0_86) := by rw [em0_86]; exact hD
              have jr := J89 (fX9_opensAll_b20 K12 n) K20h x1 x2 x3 m0_86 _ _ ls h hP hD hS (lv_sub hl [1, 2, 3, 4] rfl)
              exact jr
            · replace h := it_f c62 h
              refine lv_goto (tgt := 89) (pc := 65) hx hb dX9_opensAll_65 (by decide) ?_
              have jr := J89 (fX9_opensAll_b20 K12 n) K20h x1 x2 x3 s0 _ _ ls h hP hD hS (lv_sub hl [1, 2, 3, 4] rfl)
              exact jr
  have J12 : ∀ (n : Nat) (x1 : Int32) (x2 : Int32) (s0 : Mem) (H : Heap) (locs : List Loc) (ls : Array Slot), fX9_opensAll_b12 n x1 x2 s0 = some z0 → va_P D vwCl (wX9 a0 c s0) H → va_D A (wX9 a0 c s0) → va_S A s.heap H locs → lv_has ls 5 [(0, .ref (a0 0)), (1, .int x1), (2, .int x2)] → W p l e rmX9_opensAll s m args below meth cd H locs 0 0 Q (F0 m 12 ls []) := by
    intro n
    induction n with
    | zero =>
      intro x1 x2 s0 H locs ls h _ _ _ _
      cases (show (none : Option (Mem)) = some _ from h)
    | succ n K12h =>
      intro x1 x2 s0 H locs ls h hP hD hS hl
      rw [fX9_opensAll_b12] at h
      refine lv_iload_n (pc := 12) hx hb dX9_opensAll_12 rfl (lv_at hl 2 rfl) ?_
      refine lv_bipush (v := 16) (pc := 13) hx hb dX9_opensAll_13 (by decide) ?_
      refine lv_icmp_ge (tgt := 101) (pc := 15) hx hb dX9_opensAll_15 (by decide) (fun c15 => ?_) (fun c15 => ?_)
      · replace h := it_t c15 h
        have kr := KR s0 _ _ 101 ls h hP hD hS dX9_opensAll_101
        exact kr
      · replace h := it_f c15 h
        refine lv_iconst (v := 0) (pc := 18) hx hb dX9_opensAll_18 (by decide) ?_
        refine lv_istore_n (lv' := [(3, .int (0 : Int32)), (0, .ref (a0 0)), (1, .int x1), (2, .int x2)]) (pc := 19) hx hb dX9_opensAll_19 rfl hl (by decide) rfl (fun ls hl => ?_)
        have jr := J20 (fX9_opensAll_b12 n) K12h FU x1 x2 (0 : Int32) s0 _ _ ls h hP hD hS (lv_sub hl [1, 2, 3, 0] rfl)
        exact jr
  refine lv_aload_n (pc := 0) hx hb dX9_opensAll_0 rfl (lv_at hl 0 rfl) ?_
  obtain ⟨r1, hc1, h⟩ := b1_i h
  refine g_all (st1 := [.int r1]) (gr_V (n := 0) (rest := []) (pc := 1) hx hb hml hown hts (cX9_coveredSet_met l D c a0 s0 _ hc1) gX9_opensAll_X9_coveredSet rfl rfl rfl (by decide +kernel) rfl ⟨Nat.le_of_ble_eq_true rfl, Nat.le_of_ble_eq_true rfl⟩ ⟨Nat.zero_le _, Nat.zero_le _⟩ 0 9 rfl rfl rfl gT_ok hP hD hK (fun _ _ _ => trivial) hl.1 (Nat.le_of_ble_eq_true rfl) dX9_opensAll_1 rfl) hD hS hA rfl (fun H locs hP hD hS => ?_)
  refine lv_istore_n (lv' := [(1, .int r1), (0, .ref (a0 0))]) (pc := 4) hx hb dX9_opensAll_4 rfl hl (by decide) rfl (fun ls hl => ?_)
  refine lv_aload_n (pc := 5) hx hb dX9_opensAll_5 rfl (lv_at hl 1 rfl) ?_
  refine lv_iconst (v := 0) (pc := 6) hx hb dX9_opensAll_6 (by decide) ?_
  refine va_put (D := D) (ci := 9) (v := .int (0 : Int32)) (ty := .int) (C := RX9) (T := TX9) (N := 24) (pc := 7) hx hb hfX9 (fun _ h9 => h9) tyX9 tyX9_ok nmX9 hown hK hP hD hS 0 rfl rfl 17 (by decide) lk0 (fun _ h9 => h9) rfl (by decide +kernel) rfl rfl (Nat.le_of_ble_eq_true rfl) dX9_opensAll_7 (fun H locs hP hD hS => ?_)
  obtain ⟨m0_7, em0_7, h⟩ := lt_i h
  have hP : va_P D vwCl (wX9 a0 c m0_7) H := by rw [em0_7]; exact hP
  have hD : va_D A (wX9 a0 c m0_7) := by rw [em0_7]; exact hD
  refine lv_iconst (v := 0) (pc := 10) hx hb dX9_opensAll_10 (by decide) ?_
  refine lv_istore_n (lv' := [(2, .int (0 : Int32)), (1, .int r1), (0, .ref (a0 0))]) (pc := 11) hx hb dX9_opensAll_11 rfl hl (by decide) rfl (fun ls hl => ?_)
  have jr := J12 FU r1 (0 : Int32) m0_7 _ _ ls h hP hD hS (lv_sub hl [2, 1, 0] rfl)
  exact jr
abbrev rmX9_open : Room := { frames := 4, cells := 0, slots := 0, locals := 90 }
set_option maxRecDepth 100000 in
set_option maxHeartbeats 40000000 in
theorem cX9_open_met (l : Launch) (D : va_G) (c : Nat → ClassId) (a0 : Nat → Nat) (p0 : Int32) (s0 : Mem) (r0 : Int32) (z0 : Mem) (h : fX9_open p0 s0 = some (r0, z0)) : gM l yX9_open wsX9_open rmX9_open D (gY c) gT [.ref (a0 0), .int p0] (wX9 a0 c s0) (some (.int r0)) (wX9 a0 c z0) := by
  unfold fX9_open at h
  refine gM.I (cc := cX9_open) (maxL := 2) (by decide) rfl (Nat.le_of_ble_eq_true rfl) ?_
  intro p e s m args below meth cd hx hb hml hown hts A hA ls hl hP hK hD hS hE Q KR0
  have hfX9 : ∀ w ∈ u_ws RX9 TX9 24, w.before args s = true := fun w hw => hts w (List.mem_cons_of_mem _ (List.mem_append_right _ hw))
  have lk0 := hts (.fieldLink RX9 192 "GlitchNetsModel" "opens" "I") (List.mem_of_getElem? (i := 1) rfl)
  have lk1 := hts (.fieldLink RX9 35 "GlitchNetsModel" "open" "[I") (List.mem_of_getElem? (i := 2) rfl)
  have KR : ∀ (v : Int32) (w0 : Mem) (H : Heap) (locs : List Loc) (pc : Nat) (ls : Array Slot), some (v, w0) = some (r0, z0) → narrow .int (.int v) = .int v → va_P D vwCl (wX9 a0 c w0) H → va_D A (wX9 a0 c w0) → va_S A s.heap H locs → decode cX9_open pc = .ok (.ireturn, 1) → W p l e rmX9_open s m args below meth cd H locs 0 0 Q (F0 m pc ls [.int v]) := by
    intro v w0 H locs pc ls hr hn hP hD hS hd
    cases hr
    exact KR0 _ H locs pc ls rfl hn hP hD hS hd
  have hl : lv_has ls 2 [(0, .ref (a0 0)), (1, .int p0)] := hl
  refine lv_aload_n (pc := 0) hx hb dX9_open_0 rfl (lv_at hl 0 rfl) ?_
  obtain ⟨t0_1, hc1, h⟩ := b1_i h
  refine g_all (st1 := []) (gr_V (n := 0) (rest := []) (pc := 1) hx hb hml hown hts (cX9_opensAll_met l D c a0 s0 _ hc1) gX9_open_X9_opensAll rfl rfl rfl (by decide +kernel) rfl ⟨Nat.le_of_ble_eq_true rfl, Nat.le_of_ble_eq_true rfl⟩ ⟨Nat.zero_le _, Nat.zero_le _⟩ 0 9 rfl rfl rfl gT_ok hP hD hK (fun _ _ _ => trivial) hl.1 (Nat.le_of_ble_eq_true rfl) dX9_open_1 rfl) hD hS hA rfl (fun H locs hP hD hS => ?_)
  refine lv_iload_n (pc := 4) hx hb dX9_open_4 rfl (lv_at hl 1 rfl) ?_
  refine lv_iconst (v := -1) (pc := 5) hx hb dX9_open_5 (by decide) ?_
  refine lv_icmp_ne (tgt := 16) (pc := 6) hx hb dX9_open_6 (by decide) (fun c6 => ?_) (fun c6 => ?_)
  · replace h := it_f c6 h
    refine lv_iload_n (pc := 16) hx hb dX9_open_16 rfl (lv_at hl 1 rfl) ?_
    refine lv_iconst (v := 0) (pc := 17) hx hb dX9_open_17 (by decide) ?_
    refine lv_aload_n (pc := 18) hx hb dX9_open_18 rfl (lv_at hl 0 rfl) ?_
    refine va_get (D := D) (ci := 9) (v := .int (t0_1.1 17 0)) (C := RX9) (T := TX9) (N := 24) (pc := 19) hx hb hfX9 (fun _ h9 => h9) hown hK hP 0 rfl rfl 17 (by decide) lk0 (fun _ h9 => h9) rfl dX9_open_19 ?_
    refine lv_iconst (v := 1) (pc := 22) hx hb dX9_open_22 (by decide) ?_
    refine lv_isub (pc := 23) hx hb dX9_open_23 ?_
    obtain ⟨r24, hc24, h⟩ := b1_i h
    refine g_none (st1 := [.int r24]) (gr_S (n := 3) (rest := []) (pc := 24) hx hb hml hown hts (cX9_isIn_met l D c p0 (0 : Int32) (((t0_1.1 17 0) - (1 : Int32))) _ hc24) gX9_open_X9_isIn rfl rfl rfl (by decide +kernel) rfl ⟨Nat.le_of_ble_eq_true rfl, Nat.le_of_ble_eq_true rfl⟩ ⟨Nat.zero_le _, Nat.zero_le _⟩ gT_ok g_P0 (g_D0 (A := A)) hK (fun _ _ _ => trivial) hl.1 (Nat.le_of_ble_eq_true rfl) dX9_open_24 rfl) hP hS hA rfl (fun H locs hP hS => ?_)
    refine lv_if_eq (tgt := 39) (pc := 27) hx hb dX9_open_27 (by decide) (fun c27 => ?_) (fun c27 => ?_)
    · replace h := it_t c27 h
      refine lv_bipush (v := -12) (pc := 39) hx hb dX9_open_39 (by decide) ?_
      have kr := KR (-12 : Int32) t0_1 _ _ 41 ls h rfl hP hD hS dX9_open_41
      exact kr
    · replace h := it_f c27 h
      refine lv_aload_n (pc := 30) hx hb dX9_open_30 rfl (lv_at hl 0 rfl) ?_
      refine va_get (D := D) (ci := 9) (v := .ref (a0 9)) (C := RX9) (T := TX9) (N := 24) (pc := 31) hx hb hfX9 (fun _ h9 => h9) hown hK hP 0 rfl rfl 16 (by decide) lk1 (fun _ h9 => h9) rfl dX9_open_31 ?_
      refine lv_iload_n (pc := 34) hx hb dX9_open_34 rfl (lv_at hl 1 rfl) ?_
      obtain ⟨hk35, h⟩ := ckI_i h
      refine va_iald (D := D) (f := (t0_1.1 16)) (pc := 35) hx hb hK hP 9 0 rfl rfl hk35 dX9_open_35 ?_
      refine lv_goto (tgt := 41) (pc := 36) hx hb dX9_open_36 (by decide) ?_
      have kr := KR ((t0_1.1 16) (p0).toNatClampNeg) t0_1 _ _ 41 ls h rfl hP hD hS dX9_open_41
      exact kr
  · replace h := it_t c6 h
    refine lv_aload_n (pc := 9) hx hb dX9_open_9 rfl (lv_at hl 0 rfl) ?_
    refine va_get (D := D) (ci := 9) (v := .int (t0_1.1 17 0)) (C := RX9) (T := TX9) (N := 24) (pc := 10) hx hb hfX9 (fun _ h9 => h9) hown hK hP 0 rfl rfl 17 (by decide) lk0 (fun _ h9 => h9) rfl dX9_open_10 ?_
    refine lv_goto (tgt := 41) (pc := 13) hx hb dX9_open_13 (by decide) ?_
    have kr := KR (t0_1.1 17 0) t0_1 _ _ 41 ls h rfl hP hD hS dX9_open_41
    exact kr
abbrev rmX9_isWithin : Room := { frames := 1, cells := 0, slots := 0, locals := 23 }
set_option maxRecDepth 100000 in
set_option maxHeartbeats 40000000 in
theorem cX9_isWithin_met (l : Launch) (D : va_G) (c : Nat → ClassId)  (p0 : Int32) (p1 : Int32) (p2 : Int32) (r0 : Int32) (h : fX9_isWithin p0 p1 p2 = some r0) : gM l yX9_isWithin wsX9_isWithin rmX9_isWithin D (gY c) gT [.int p0, .int p1, .int p2] ([]) (some (.int r0)) ([]) := by
  unfold fX9_isWithin at h
  refine gM.I (cc := cX9_isWithin) (maxL := 3) (by decide) rfl (Nat.le_of_ble_eq_true rfl) ?_
  intro p e s m args below meth cd hx hb hml hown hts A hA ls hl hP hK hD hS hE Q KR0
  have KR : ∀ (v : Int32)  (H : Heap) (locs : List Loc) (pc : Nat) (ls : Array Slot), some v = some r0 → narrow .boolean (.int v) = .int v → va_P D vwCl ([]) H → va_D A ([]) → va_S A s.heap H locs → decode cX9_isWithin pc = .ok (.ireturn, 1) → W p l e rmX9_isWithin s m args below meth cd H locs 0 0 Q (F0 m pc ls [.int v]) := by
    intro v  H locs pc ls hr hn hP hD hS hd
    cases hr
    exact KR0 _ H locs pc ls rfl hn hP hD hS hd
  have hl : lv_has ls 3 [(0, .int p0), (1, .int p1), (2, .int p2)] := hl
  refine lv_iload_n (pc := 0) hx hb dX9_isWithin_0 rfl (lv_at hl 0 rfl) ?_
  refine lv_iload_n (pc := 1) hx hb dX9_isWithin_1 rfl (lv_at hl 1 rfl) ?_
  obtain ⟨r2, hc2, h⟩ := b1_i h
  refine g_none (st1 := [.int r2]) (gr_S (n := 2) (rest := []) (pc := 2) hx hb hml hown hts (cX9_holdsBy_met l D c p0 p1 _ hc2) gX9_isWithin_X9_holdsBy rfl rfl rfl (by decide +kernel) rfl ⟨Nat.le_of_ble_eq_true rfl, Nat.le_of_ble_eq_true rfl⟩ ⟨Nat.zero_le _, Nat.zero_le _⟩ gT_ok g_P0 (g_D0 (A := A)) hK (fun _ _ _ => trivial) hl.1 (Nat.le_of_ble_eq_true rfl) dX9_isWithin_2 rfl) hP hS hA rfl (fun H locs hP hS => ?_)
  refine lv_iload_n (pc := 5) hx hb dX9_isWithin_5 rfl (lv_at hl 2 rfl) ?_
  refine lv_iconst (v := -1) (pc := 6) hx hb dX9_isWithin_6 (by decide) ?_
  refine lv_ixor (pc := 7) hx hb dX9_isWithin_7 ?_
  refine lv_iand (pc := 8) hx hb dX9_isWithin_8 ?_
  refine lv_if_ne (tgt := 16) (pc := 9) hx hb dX9_isWithin_9 (by decide) (fun c9 => ?_) (fun c9 => ?_)
  · replace h := it_f c9 h
    refine lv_iconst (v := 0) (pc := 16) hx hb dX9_isWithin_16 (by decide) ?_
    have kr := KR (0 : Int32)  _ _ 17 ls h rfl hP hD hS dX9_isWithin_17
    exact kr
  · replace h := it_t c9 h
    refine lv_iconst (v := 1) (pc := 12) hx hb dX9_isWithin_12 (by decide) ?_
    refine lv_goto (tgt := 17) (pc := 13) hx hb dX9_isWithin_13 (by decide) ?_
    have kr := KR (1 : Int32)  _ _ 17 ls h rfl hP hD hS dX9_isWithin_17
    exact kr
