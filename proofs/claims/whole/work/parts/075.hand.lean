/-! two members of the JDK by hand: their third argument is any reference -/
abbrev rmJ3_checkIndex_8e157 : Room := { frames := 0, cells := 0, slots := 0, locals := 0 }
set_option maxRecDepth 100000 in
set_option maxHeartbeats 4000000 in
theorem cJ3_checkIndex_8e157_met (l : Launch) (D : va_G) (c : Nat → ClassId) (tb : Nat) (sa sv : Nat → Nat) (p0 p1 : Int32) (v2 : Value) (hv2 : v2.category = 1) (h1 : ¬ p0 < 0) (h2 : p0 < p1) : gM l yJ3_checkIndex_8e157 wsJ3_checkIndex_8e157 rmJ3_checkIndex_8e157 D (gY c) (xE tb sa sv) [.int p0, .int p1, v2] [] (some (.int p0)) [] := by
  refine gM.I (cc := cJ3_checkIndex_8e157) (maxL := 3) (by decide) rfl (by simp only [lg_sl, List.flatMap_cons, List.flatMap_nil, hv2]; exact Nat.le_of_ble_eq_true rfl) ?_
  intro p e s m args below meth cd hx hb hml hown hts A hA ls hl hP hK hD hS hE Q KR0
  have hl : lv_has ls 3 [(0, .int p0), (1, .int p1), (2, v2)] := hl
  refine lv_iload_n hx hb dJ3_checkIndex_8e157_0 rfl (lv_at hl 0 rfl) ?_
  refine lv_if_lt (tgt := 9) hx hb dJ3_checkIndex_8e157_1 (by decide) (fun c1 => absurd c1 h1) (fun c1 => ?_)
  refine lv_iload_n hx hb dJ3_checkIndex_8e157_4 rfl (lv_at hl 0 rfl) ?_
  refine lv_iload_n hx hb dJ3_checkIndex_8e157_5 rfl (lv_at hl 1 rfl) ?_
  refine lv_icmp_lt (tgt := 16) hx hb dJ3_checkIndex_8e157_6 (by decide) (fun c1 => ?_) (fun c1 => absurd h2 c1)
  refine lv_iload_n hx hb dJ3_checkIndex_8e157_16 rfl (lv_at hl 0 rfl) ?_
  exact KR0 p0 _ _ 17 ls rfl rfl hP hD hS dJ3_checkIndex_8e157_17
abbrev rmJ0_checkIndex_df160 : Room := { frames := 1, cells := 0, slots := 0, locals := 22 }
set_option maxRecDepth 100000 in
set_option maxHeartbeats 4000000 in
theorem cJ0_checkIndex_df160_met (l : Launch) (D : va_G) (c : Nat → ClassId) (tb : Nat) (sa sv : Nat → Nat) (p0 p1 : Int32) (h : fJ0_checkIndex_df160 p0 p1 = some ()) : gM l yJ0_checkIndex_df160 wsJ0_checkIndex_df160 rmJ0_checkIndex_df160 D (gY c) (xE tb sa sv) [.int p0, .int p1] [] none [] := by
  unfold fJ0_checkIndex_df160 at h
  obtain ⟨h1, h⟩ : ¬ p0 < 0 ∧ _ := by
    by_cases q : p0 < 0
    · rw [if_pos q] at h; cases h
    · exact ⟨q, it_f q h⟩
  have h2 : p0 < p1 := by
    by_cases q : p0 < p1
    · exact q
    · rw [if_neg q] at h; cases h
  refine gM.V (cc := cJ0_checkIndex_df160) (maxL := 2) (by decide) rfl (Nat.le_of_ble_eq_true rfl) ?_
  intro p e s m args below meth cd hx hb hml hown hts A hA ls hl hP hK hD hS hE Q KR0
  have lk0 := hts (.fieldLink RJ0 1053 "jdk/internal/util/Preconditions" "SIOOBE_FORMATTER" "Ljava/util/function/BiFunction;") (List.mem_of_getElem? (i := 1) rfl)
  have hl : lv_has ls 2 [(0, .int p0), (1, .int p1)] := hl
  refine lv_iload_n hx hb dJ0_checkIndex_df160_0 rfl (lv_at hl 0 rfl) ?_
  refine lv_iload_n hx hb dJ0_checkIndex_df160_1 rfl (lv_at hl 1 rfl) ?_
  have go : ∀ v2 : Value, v2.category = 1 → va_Z "jdk/internal/util/Preconditions" "SIOOBE_FORMATTER" "Ljava/util/function/BiFunction;" v2 A s s.heap → W p l e rmJ0_checkIndex_df160 s m args below meth cd s.heap [] 0 0 Q (F0 m 2 ls [.int p1, .int p0]) := by
    intro v2 hv2 hZ
    refine va_gets hx hb hZ hS hown lk0 (fun _ h9 => h9) dJ0_checkIndex_df160_2 ?_
    refine g_none (st1 := [.int p0]) (gr_S (n := 3) (rest := []) hx hb hml hown hts (cJ3_checkIndex_8e157_met l D c tb sa sv p0 p1 v2 hv2 h1 h2) gJ0_checkIndex_df160_J3_checkIndex_8e157 rfl rfl rfl (by decide +kernel) rfl ⟨Nat.le_of_ble_eq_true rfl, Nat.le_of_ble_eq_true rfl⟩ ⟨Nat.zero_le _, Nat.zero_le _⟩ xE_ok g_P0 (g_D0 (A := A)) hK (xE_ok.tr hE hS (g_free0 hS hA)) hl.1 (Nat.le_of_ble_eq_true rfl) dJ0_checkIndex_df160_5 rfl) hP hS hA rfl (fun H locs hP hS => ?_)
    refine lv_pop hx hb dJ0_checkIndex_df160_8 rfl ?_
    exact KR0 _ _ 9 ls hP hD hS dJ0_checkIndex_df160_9
  rcases xE_fmt hE with hz | ⟨t, hz⟩
  · exact go .null rfl hz
  · exact go (.ref t) rfl hz
