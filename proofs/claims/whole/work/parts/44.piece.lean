/-! PURE, 24: one piece on both sides -/
def Pc (t : Nat) (T : Nat → Nat) (s e1 e2 kd : Nat) : Prop := s ≤ t ∧
  ((kd = 0 ∧ s = t ∧ e1 = s ∧ e2 = s) ∨ (kd = 1 ∧ s < e1 ∧ e1 ≤ t ∧ e2 = e1 ∧ ∀ i, s ≤ i → i < e1 → isL t T i = true) ∨ (kd = 2 ∧ s < e1 ∧ e1 ≤ t ∧ e2 = e1 ∧ ∀ i, s ≤ i → i < e1 → isD t T i = true) ∨
    (kd = 3 ∧ s < t ∧ e1 = s + 1 ∧ e2 = s ∧ isL t T s = false ∧ isD t T s = false))
theorem tok0 {t : Nat} {y : Nat} (hy : y = 0 ∨ y = 3) (σ : Mem) : fX9_next_b93 (nI y) σ = some (mi σ 9 0 (nI y)) := by
  obtain ⟨k, hk⟩ := FU_of 1 (by decide)
  unfold fX9_next_b93
  rw [p_lt, hk, fX9_next_b96]
  unfold fX9_next_b115
  simp only [zl]
  rcases hy with rfl | rfl
  · rw [m_miS, m_uS, if_neg (show ¬ nI 0 = nI 1 by decide), if_neg (show ¬ nI 0 = nI 2 by decide)]
  · rw [m_miS, m_uS, if_neg (show ¬ nI 3 = nI 1 by decide), if_neg (show ¬ nI 3 = nI 2 by decide)]
theorem L_notD {t : Nat} {T : Nat → Nat} {i : Nat} (h : isL t T i = true) : isD t T i = false := by
  have a := isL_v h
  by_cases w : isD t T i = true
  · have b := isD_v w
    omega
  · exact ts_nt w
theorem both_next {t : Nat} {T : Nat → Nat} {N : Mem} (h : tpe t T N) {s0 σ : Mem} {e : Nat} (he : e ≤ t) (h5 : s0.1 5 0 = nI e) (hr : tpr t T σ) (h7 : σ.1 7 0 = nI e) :
    ∃ s e1 e2 kd N' σ', fX2_nextPiece s0 N = some N' ∧ fX9_next σ = some σ' ∧ N'.1 4 0 = nI s ∧ N'.1 5 0 = nI e1 ∧ (∀ j, j ≠ 4 → j ≠ 5 → N'.1 j = s0.1 j) ∧ σ'.1 8 0 = nI s ∧ σ'.1 7 0 = nI e2 ∧ σ'.1 9 0 = nI kd ∧ (∀ j, j ≠ 7 → j ≠ 8 → j ≠ 9 → σ'.1 j = σ.1 j) ∧ Pc t T s e1 e2 kd := by
  have ht := h.1
  obtain ⟨k0, hk0⟩ := FU_of 40 (by decide)
  obtain ⟨s, s1, σ1, hs, i2, i3, i4, i5, i6, i7⟩ := both_skip h (t - e) e (k0 + 39 - (t - e)) (mi s0 4 0 (nI e)) σ (by omega) (by rw [m_miS, m_uS]) hr h7
  rw [show k0 + 39 - (t - e) + (t - e) + 1 = k0 + 40 by omega, ← hk0] at i2 i3
  have hr1 : tpr t T (mi σ1 8 0 (nI s)) := hr.same (by rw [m_miN _ (by decide), i7 5 (by decide)]) (by rw [m_miN _ (by decide), i7 6 (by decide)])
  have x7 : (mi σ1 8 0 (nI s)).1 7 0 = nI s := by rw [m_miN _ (by decide)]; exact i6
  have x6 : (mi σ1 8 0 (nI s)).1 6 0 = nI t := hr1.2.1
  have x8 : (mi σ1 8 0 (nI s)).1 8 0 = nI s := by rw [m_miS, m_uS]
  have xo : ∀ j, j ≠ 7 → j ≠ 8 → (mi σ1 8 0 (nI s)).1 j = σ.1 j := fun j a b => by rw [m_miN _ b, i7 j a]
  have eqc : fX2_nextPiece s0 N = b1 (fX6_endOfPiece (nI s) N) fun r => some (mi s1 5 0 r) := by
    unfold fX2_nextPiece
    rw [h5, i2]
    unfold fX2_nextPiece_b43
    rw [i4]
  have eqr : fX9_next σ = fX9_next_b38 σ1 := by
    unfold fX9_next
    exact i3
  have oc : ∀ v : Int32, ∀ j, j ≠ 4 → j ≠ 5 → (mi s1 5 0 v).1 j = s0.1 j := fun v j a b => by rw [m_miN _ b, i5 j a, m_miN _ a]
  have o4 : ∀ v : Int32, (mi s1 5 0 v).1 4 0 = nI s := fun v => by rw [m_miN _ (by decide)]; exact i4
  rw [eqc, eqr]
  unfold fX9_next_b38 fX6_endOfPiece
  rw [i6, p_lt]
  generalize mi σ1 8 0 (nI s) = τ at hr1 x7 x6 x8 xo ⊢
  rw [x7, x6, h.2.1]
  simp only [zl, p_lt, nI_add]
  by_cases q : s = t
  · rw [if_neg (show ¬ nI s < nI t from fun z => by rw [nI_ltI (by omega) (by omega)] at z; omega), p_b1, q, if_pos (rfl : nI t = nI t), tok0 (t := t) (Or.inl rfl)]
    rw [q] at o4 x7 x8
    exact ⟨t, t, t, 0, _, _, rfl, rfl, o4 _, by rw [m_miS, m_uS], oc _, by rw [m_miN _ (by decide)]; exact x8, by rw [m_miN _ (by decide)]; exact x7, by rw [m_miS, m_uS], fun j a b c => by rw [m_miN _ c]; exact xo j a b, Nat.le_refl _, Or.inl ⟨rfl, rfl, rfl, rfl⟩⟩
  · rw [if_pos ((nI_ltI (by omega) (by omega)).mpr (show s < t by omega)), if_neg (show ¬ nI s = nI t from fun z => q ((nI_eq (by omega) (by omega)).mp z)), c_letter h (show s ≤ 30 by omega), p_b1, c_digit h (show s ≤ 30 by omega), p_b1, r_letter hr1 (show s ≤ 30 by omega), p_b1, p_if]
    by_cases w : isL t T s = true
    · rw [if_pos w, w, L_notD w]
      unfold fX9_next_b93
      rw [p_lt]
      have y9 : (mi τ 9 0 (nI 1)).1 9 0 = nI 1 := by rw [m_miS, m_uS]
      have yr : tpr t T (mi τ 9 0 (nI 1)) := hr1.same (by rw [m_miN _ (by decide)]) (by rw [m_miN _ (by decide)])
      have y7 : (mi τ 9 0 (nI 1)).1 7 0 = nI s := by rw [m_miN _ (by decide)]; exact x7
      obtain ⟨e2, σ2, j1, j2, j3, j4, j5, j6, j7⟩ := both_letters h (t - (s + 1)) (s + 1) (k0 + 39 - (t - (s + 1))) (k0 + 38 - (t - (s + 1))) (mi (mi τ 9 0 (nI 1)) 7 0 (nI (s + 1))) (by omega) (yr.same (by rw [m_miN _ (by decide)]) (by rw [m_miN _ (by decide)])) (by rw [m_miS, m_uS]) (by rw [m_miN _ (by decide)]; exact y9)
      rw [show k0 + 39 - (t - (s + 1)) + (t - (s + 1)) + 1 = k0 + 40 by omega, ← hk0] at j1
      have hgo : fX9_next_b96 FU (mi τ 9 0 (nI 1)) = some σ2 := by
        rw [hk0, fX9_next_b96]
        unfold fX9_next_b134
        simp only [zl, p_lt]
        rw [y9, if_pos (rfl : nI 1 = nI 1), y7, r_letter yr (by omega), p_b1, p_if, w, if_pos (rfl : true = true), nI_add, show k0 + 39 = k0 + 38 - (t - (s + 1)) + (t - (s + 1)) + 1 by omega]
        exact j2
      rw [show bI true = nI 1 from rfl, show bI false = nI 0 from rfl, j1, p_b1, hgo]
      refine ⟨s, e2, e2, 1, _, _, rfl, rfl, o4 _, by rw [m_miS, m_uS], oc _, by rw [j6 8 (by decide), m_miN _ (by decide), m_miN _ (by decide)]; exact x8, j7, by rw [j6 9 (by decide), m_miN _ (by decide)]; exact y9, fun j a b c => by rw [j6 j a, m_miN _ a, m_miN _ c]; exact xo j a b, hs, Or.inr (Or.inl ⟨rfl, by omega, j4, rfl, fun i a b => ?_⟩)⟩
      by_cases z : i = s
      · rw [z]; exact w
      · exact j5 i (by omega) b
    · rw [if_neg w, ts_nt w, r_digit hr1 (show s ≤ 30 by omega), p_b1, p_if]
      by_cases w2 : isD t T s = true
      · rw [if_pos w2, w2]
        unfold fX9_next_b93
        rw [p_lt]
        have y9 : (mi τ 9 0 (nI 2)).1 9 0 = nI 2 := by rw [m_miS, m_uS]
        have yr : tpr t T (mi τ 9 0 (nI 2)) := hr1.same (by rw [m_miN _ (by decide)]) (by rw [m_miN _ (by decide)])
        have y7 : (mi τ 9 0 (nI 2)).1 7 0 = nI s := by rw [m_miN _ (by decide)]; exact x7
        obtain ⟨e2, σ2, j1, j2, j3, j4, j5, j6, j7⟩ := both_digits h (t - (s + 1)) (s + 1) (k0 + 39 - (t - (s + 1))) (k0 + 38 - (t - (s + 1))) (mi (mi τ 9 0 (nI 2)) 7 0 (nI (s + 1))) (by omega) (yr.same (by rw [m_miN _ (by decide)]) (by rw [m_miN _ (by decide)])) (by rw [m_miS, m_uS]) (by rw [m_miN _ (by decide)]; exact y9)
        rw [show k0 + 39 - (t - (s + 1)) + (t - (s + 1)) + 1 = k0 + 40 by omega, ← hk0] at j1
        have hgo : fX9_next_b96 FU (mi τ 9 0 (nI 2)) = some σ2 := by
          rw [hk0, fX9_next_b96]
          unfold fX9_next_b115 fX9_next_b134
          simp only [zl, p_lt]
          rw [y9, if_neg (show ¬ nI 2 = nI 1 by decide), if_pos (rfl : nI 2 = nI 2), y7, r_digit yr (by omega), p_b1, p_if, w2, if_pos (rfl : true = true), nI_add, show k0 + 39 = k0 + 38 - (t - (s + 1)) + (t - (s + 1)) + 1 by omega]
          exact j2
        rw [show bI true = nI 1 from rfl, show bI false = nI 0 from rfl, j1, p_b1, hgo]
        refine ⟨s, e2, e2, 2, _, _, rfl, rfl, o4 _, by rw [m_miS, m_uS], oc _, by rw [j6 8 (by decide), m_miN _ (by decide), m_miN _ (by decide)]; exact x8, j7, by rw [j6 9 (by decide), m_miN _ (by decide)]; exact y9, fun j a b c => by rw [j6 j a, m_miN _ a, m_miN _ c]; exact xo j a b, hs, Or.inr (Or.inr (Or.inl ⟨rfl, by omega, j4, rfl, fun i a b => ?_⟩))⟩
        by_cases z : i = s
        · rw [z]; exact w2
        · exact j5 i (by omega) b
      · have stopc : fX6_endOfPiece_b27 N FU (nI 0) (nI 0) (nI (s + 1)) = some (nI (s + 1)) := by
          rw [hk0, fX6_endOfPiece_b27, h.2.1]
          unfold fX6_endOfPiece_b49
          by_cases z : t ≤ s + 1
          · rw [if_pos ((nI_leI (by omega) (by omega)).mpr z)]
          · rw [if_neg (show ¬ nI t ≤ nI (s + 1) from fun y => by rw [nI_leI (by omega) (by omega)] at y; omega), if_pos (show nI 0 = (0 : Int32) from rfl), if_pos (show nI 0 = (0 : Int32) from rfl)]
        rw [if_neg w2, ts_nt w2, show bI false = nI 0 from rfl, stopc, p_b1, tok0 (t := t) (Or.inr rfl)]
        exact ⟨s, s + 1, s, 3, _, _, rfl, rfl, o4 _, by rw [m_miS, m_uS], oc _, by rw [m_miN _ (by decide)]; exact x8, by rw [m_miN _ (by decide)]; exact x7, by rw [m_miS, m_uS], fun j a b c => by rw [m_miN _ c]; exact xo j a b, hs, Or.inr (Or.inr (Or.inr ⟨rfl, by omega, rfl, rfl, ts_nt w, ts_nt w2⟩))⟩
