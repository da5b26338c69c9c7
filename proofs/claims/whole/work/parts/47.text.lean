/-! PURE, 27: text -/
theorem fin_delay {t : Nat} {T : Nat → Nat} {N : Mem} {n : Nat} (h : tpe t T N) {M M' σ : Mem} {e v a a2 : Nat} (he : e ≤ t) (h5 : M.1 5 0 = nI e) (hr : tpr t T M') (h7 : M'.1 7 0 = nI e) (keep : ∀ j, j ≠ 7 → j ≠ 8 → j ≠ 9 → j ≠ 11 → M'.1 j = σ.1 j) (hv : v < 6) (ha : a < 4 + n) (ha2 : a2 < 4 + n) (m0 : M.1 0 0 = nI v) (m1 : M.1 1 0 = src a) (m2 : M.1 2 0 = src a2) (q0 : M'.1 11 0 = nI v) (q1 : M'.1 11 1 = src a) (q2 : M'.1 11 2 = src a2) :
    ∃ r N' b σ' s, fX2_read_b106 N M = some (r, N') ∧ fX9_isText_b71 M' = some (bI b, σ') ∧ s ≤ 30 ∧ σ'.1 8 0 = nI s ∧ (∀ j, j ≠ 7 → j ≠ 8 → j ≠ 9 → j ≠ 11 → σ'.1 j = σ.1 j) ∧
      ((b = false ∧ r = nI s) ∨ (b = true ∧ r = -nI 1 ∧ ∃ k a a2 v, k < 6 ∧ a < 4 + n ∧ a2 < 4 + n ∧ 1 ≤ v ∧ v ≤ 9 ∧ N'.1 0 0 = nI k ∧ N'.1 1 0 = src a ∧ N'.1 2 0 = src a2 ∧ N'.1 3 0 = nI v ∧ σ'.1 11 0 = nI k ∧ σ'.1 11 1 = src a ∧ σ'.1 11 2 = src a2 ∧ σ'.1 11 3 = nI v)) := by
  obtain ⟨r, N', b, σ', s, c1, c2, c3, c4, c5, c6, c7, c8⟩ := both_delay h he h5 hr h7
  refine ⟨r, N', b, σ', s, c1, c2, c3, c4, fun j x y z w => by rw [c5 j x y z w]; exact keep j x y z w, ?_⟩
  rcases c8 with c8 | ⟨x, y, w, w1, w2, w3, w4⟩
  · exact Or.inl c8
  · exact Or.inr ⟨x, y, v, a, a2, w, hv, ha, ha2, w1, w2, by rw [c7 0 (by decide) (by decide) (by decide)]; exact m0, by rw [c7 1 (by decide) (by decide) (by decide)]; exact m1, by rw [c7 2 (by decide) (by decide) (by decide)]; exact m2, w3, by rw [c6 0 (by decide)]; exact q0, by rw [c6 1 (by decide)]; exact q1, by rw [c6 2 (by decide)]; exact q2, w4⟩
theorem src_n5 : ∀ a, a < 16 → ¬ src a = -nI 5 := by decide
theorem both_read {t : Nat} {T : Nat → Nat} {N : Mem} {n : Nat} (h : tpe t T N) (hn : n ≤ 12) {s0 σ : Mem} (hr : tpr t T σ) (h0 : σ.1 0 0 = nI n) (hw : R_words (σ.1 10)) :
    ∃ r N' b σ' s, fX2_read (nI n) s0 N = some (r, N') ∧ fX9_isText σ = some (bI b, σ') ∧ s ≤ 30 ∧ σ'.1 8 0 = nI s ∧ (∀ j, j ≠ 7 → j ≠ 8 → j ≠ 9 → j ≠ 11 → σ'.1 j = σ.1 j) ∧
      ((b = false ∧ r = nI s) ∨ (b = true ∧ r = -nI 1 ∧ ∃ k a a2 v, k < 6 ∧ a < 4 + n ∧ a2 < 4 + n ∧ 1 ≤ v ∧ v ≤ 9 ∧ N'.1 0 0 = nI k ∧ N'.1 1 0 = src a ∧ N'.1 2 0 = src a2 ∧ N'.1 3 0 = nI v ∧ σ'.1 11 0 = nI k ∧ σ'.1 11 1 = src a ∧ σ'.1 11 2 = src a2 ∧ σ'.1 11 3 = nI v)) := by
  have ht := h.1
  obtain ⟨s, e1, e2, kd, N1, σ1, a1, a2, a3, a4, a5, a6, a7, a8, a9, hp⟩ := both_next (s0 := mi s0 5 0 (nI 0)) (σ := mi σ 7 0 (nI 0)) h (Nat.zero_le t) (by rw [m_miS, m_uS]) (hr.same (by rw [m_miN _ (by decide)]) (by rw [m_miN _ (by decide)])) (by rw [m_miS, m_uS])
  have k9 : ∀ j, j ≠ 7 → j ≠ 8 → j ≠ 9 → σ1.1 j = σ.1 j := fun j x y z => by rw [a9 j x y z, m_miN _ x]
  have hr1 : tpr t T σ1 := hr.same (k9 5 (by decide) (by decide) (by decide)) (k9 6 (by decide) (by decide) (by decide))
  have hw1 : R_words (σ1.1 10) := by rw [k9 10 (by decide) (by decide) (by decide)]; exact hw
  have hs := hp.1
  have pf : s ≤ e1 ∧ e1 ≤ t ∧ s ≤ e2 ∧ e2 ≤ t ∧ kd < 4 ∧ (kd = 1 → e2 = e1) := by
    obtain ⟨-, hp⟩ := id hp
    rcases hp with ⟨k0, x1, x2, x3⟩ | ⟨k1, x1, x2, x3, x4⟩ | ⟨k2, x1, x2, x3, x4⟩ | ⟨k3, x1, x2, x3, x4, x5⟩ <;> refine ⟨by omega, by omega, by omega, by omega, by omega, fun _ => by omega⟩
  obtain ⟨p1, p2, p3, p4, p5, p6⟩ := pf
  obtain ⟨k, hk⟩ := FU_of 7 (by decide)
  obtain ⟨r, i1, i2, i3⟩ := both_kind (s0 := N1) (N := N) (σ := σ1) (sp := fun w => decide (e1 - s = slen w) && mt (fun j => T (s + j)) (wch w) (slen w) 0) (fun w hw6 => by rw [a3, a4]; exact c_spells h hw6 p1 p2) (fun w hw6 => by rw [r_word hr1 hw1 hw6 p5 p4 a6 a7 a8 p3, both_spell hp hw6]) 6 0 k (by decide)
  have j1 : fX2_kindRead N1 N = some r := by
    unfold fX2_kindRead
    rw [hk]
    exact i1
  have j2 : fX9_word σ1 = some r := by
    unfold fX9_word
    rw [hk]
    exact i2
  have ca : fX2_read (nI n) s0 N = if r = -nI 1 then some (nI s, mi N1 0 0 r) else b1 (fX2_nextPiece (mi N1 0 0 r) N) fun t0_34 => b1 (fX2_sourceRead (nI n) t0_34 N) fun r41 => if r41 = -nI 5 then some ((mi t0_34 1 0 r41).1 4 0, mi t0_34 1 0 r41) else
      if t0_34.1 0 0 = nI 5 then fX2_read_b106 N (mi (mi t0_34 1 0 r41) 2 0 r41) else b1 (fX2_nextPiece (mi (mi t0_34 1 0 r41) 2 0 r41) N) fun t0_79 => b1 (fX2_sourceRead (nI n) t0_79 N) fun r86 => if r86 = -nI 5 then some ((mi t0_79 2 0 r86).1 4 0, mi t0_79 2 0 r86) else fX2_read_b106 N (mi t0_79 2 0 r86) := by
    unfold fX2_read
    simp only [zl]
    rw [a1, p_b1, j1, p_b1, m_miS, m_uS, m_miN _ (by decide), a3]
    simp (disch := decide) only [m_miS, m_uS, m_miN, p_lt]
  have ra : fX9_isText σ = if r = -nI 1 then some (nI 0, mi σ1 11 0 r) else b2 (fX9_readsSource (nI 1) (mi σ1 11 0 r)) fun r31 t0_31 => if r31 = nI 0 then some (nI 0, t0_31) else if (mi t0_31 11 2 (t0_31.1 11 1)).1 11 0 = nI 5 then fX9_isText_b71 (mi t0_31 11 2 (t0_31.1 11 1)) else
      b2 (fX9_readsSource (nI 2) (mi t0_31 11 2 (t0_31.1 11 1))) fun r63 t0_63 => if r63 = nI 0 then some (nI 0, t0_63) else fX9_isText_b71 t0_63 := by
    have k4 : ∀ (i : Nat) (z : Option (Int32 × Mem)), i < 4 → ckI (nI i) 4 z = z := fun i z hi => p_ckI hi (by decide)
    unfold fX9_isText
    simp only [zl]
    rw [p_lt, a2, p_b1, j2, p_b1]
    simp (disch := decide) only [k4, p_lt, nI_clamp]
    rw [m_miS, m_uS]
  rw [ca, ra]
  rcases i3 with rfl | ⟨v, hv, rfl, hsp⟩
  · rw [if_pos rfl, if_pos rfl]
    exact ⟨_, _, false, _, s, rfl, rfl, by omega, by rw [m_miN _ (by decide)]; exact a6, fun j x y z w => by rw [m_miN _ w]; exact k9 j x y z, Or.inl ⟨rfl, rfl⟩⟩
  · rw [i_m1 (by omega), i_m1 (by omega)]
    have kd1 : kd = 1 := by
      have e := both_spell hp hv
      rw [show (decide (e1 - s = slen v) && mt (fun j => T (s + j)) (wch v) (slen v) 0) = true from hsp] at e
      exact of_decide_eq_true (and2 e).1
    obtain ⟨s2, N2, σ2, r2, b1', b2', b3', b4', b5', b6', b7', b8', b9'⟩ := both_source (s0 := mi N1 0 0 (nI v)) (σ := mi σ1 11 0 (nI v)) (n := n) (e := e1) (c := 1) h hn p2 (by rw [m_miN _ (by decide)]; exact a4) (hr1.same (by rw [m_miN _ (by decide)]) (by rw [m_miN _ (by decide)])) (by rw [m_miN _ (by decide), ← p6 kd1]; exact a7) (by rw [m_miN _ (by decide), k9 0 (by decide) (by decide) (by decide)]; exact h0) (by decide)
    have kp2 : ∀ j, j ≠ 7 → j ≠ 8 → j ≠ 9 → j ≠ 11 → σ2.1 j = σ.1 j := fun j x y z w => by rw [b7' j x y z w, m_miN _ w]; exact k9 j x y z
    rw [b2', p_b1, b3', p_b1]
    rcases b9' with ⟨rfl, g⟩ | ⟨g, a, e', ha, rfl, ga, ge, gN, gσ⟩
    · rw [if_pos rfl, g, p_b2, if_pos rfl, m_miN _ (by decide), b4']
      exact ⟨_, _, false, _, s2, rfl, rfl, b1', b6', kp2, Or.inl ⟨rfl, rfl⟩⟩
    · have x0 : N2.1 0 0 = nI v := by rw [b5' 0 (by decide) (by decide), m_miS, m_uS]
      have y0 : σ2.1 11 0 = nI v := by rw [b8' 0 (by decide), m_miS, m_uS]
      have hr2 : tpr t T (mi σ2 11 2 (src a)) := hr.same (by rw [m_miN _ (by decide)]; exact kp2 5 (by decide) (by decide) (by decide) (by decide)) (by rw [m_miN _ (by decide)]; exact kp2 6 (by decide) (by decide) (by decide) (by decide))
      have z0 : (mi σ2 11 2 (src a)).1 11 0 = nI v := by rw [m_miS, m_uN _ (by decide)]; exact y0
      have z1 : (mi σ2 11 2 (src a)).1 11 1 = src a := by rw [m_miS, m_uN _ (by decide)]; exact ga
      have kp2' : ∀ j, j ≠ 7 → j ≠ 8 → j ≠ 9 → j ≠ 11 → (mi σ2 11 2 (src a)).1 j = σ.1 j := fun j x y z w => by rw [m_miN _ w]; exact kp2 j x y z w
      have w0 : (mi (mi N2 1 0 (src a)) 2 0 (src a)).1 0 0 = nI v := by rw [m_miN _ (by decide), m_miN _ (by decide)]; exact x0
      have w1 : (mi (mi N2 1 0 (src a)) 2 0 (src a)).1 1 0 = src a := by rw [m_miN _ (by decide), m_miS, m_uS]
      have w5 : (mi (mi N2 1 0 (src a)) 2 0 (src a)).1 5 0 = nI e' := by rw [m_miN _ (by decide), m_miN _ (by decide)]; exact gN
      have z7 : (mi σ2 11 2 (src a)).1 7 0 = nI e' := by rw [m_miN _ (by decide)]; exact gσ
      rw [if_neg (src_n5 a (by omega)), x0, g, p_b2, if_neg (show ¬ nI 1 = nI 0 by decide), ga, z0]
      by_cases v5 : v = 5
      · rw [v5, if_pos rfl, if_pos rfl]
        rw [v5] at w0 z0
        exact fin_delay h ge w5 hr2 z7 kp2' (by decide) ha ha w0 w1 (by rw [m_miS, m_uS]) z0 z1 (by rw [m_miS, m_uS])
      · have v5' : ¬ nI v = nI 5 := fun z => v5 ((nI_eq (by omega) (by decide)).mp z)
        rw [if_neg v5', if_neg v5']
        obtain ⟨s3, N3, σ3, r3, c1, c2, c3, c4, c5, c6, c7, c8, c9⟩ := both_source (s0 := mi (mi N2 1 0 (src a)) 2 0 (src a)) (σ := mi σ2 11 2 (src a)) (n := n) (e := e') (c := 2) h hn ge w5 hr2 z7 (by rw [kp2' 0 (by decide) (by decide) (by decide) (by decide)]; exact h0) (by decide)
        have kp3 : ∀ j, j ≠ 7 → j ≠ 8 → j ≠ 9 → j ≠ 11 → σ3.1 j = σ.1 j := fun j x y z w => by rw [c7 j x y z w]; exact kp2' j x y z w
        rw [c2, p_b1, c3, p_b1]
        rcases c9 with ⟨rfl, g'⟩ | ⟨g', a', e'', ha', rfl, ga', ge', gN', gσ'⟩
        · rw [if_pos rfl, g', p_b2, if_pos rfl, m_miN _ (by decide), c4]
          exact ⟨_, _, false, _, s3, rfl, rfl, c1, c6, kp3, Or.inl ⟨rfl, rfl⟩⟩
        · rw [if_neg (src_n5 a' (by omega)), g', p_b2, if_neg (show ¬ nI 1 = nI 0 by decide)]
          exact fin_delay h ge' (by rw [m_miN _ (by decide)]; exact gN') (hr.same (kp3 5 (by decide) (by decide) (by decide) (by decide)) (kp3 6 (by decide) (by decide) (by decide) (by decide))) gσ' kp3 hv ha ha' (by rw [m_miN _ (by decide), c5 0 (by decide) (by decide)]; exact w0) (by rw [m_miN _ (by decide), c5 1 (by decide) (by decide)]; exact w1) (by rw [m_miS, m_uS]) (by rw [c8 0 (by decide)]; exact z0) (by rw [c8 1 (by decide)]; exact z1) ga'
