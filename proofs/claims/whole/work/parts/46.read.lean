/-! PURE, 26: what a text says -/
theorem r_b48 {σ : Mem} {n c : Nat} (hn : n ≤ 12) (hc : c < 4) (h0 : σ.1 0 0 = nI n) {r : Int32} (hnum : fX9_number σ = some r) : fX9_readsSource_b48 (nI c) σ = some (bI (inN r n), mi σ 11 c r) := by
  unfold fX9_readsSource_b48 fX9_readsSource_b49 fX9_readsSource_b80
  simp only [zl]
  rw [if_pos trivial, hnum, p_b1, p_ckI hc (by decide), p_lt, if_pos trivial, p_ckI hc (by decide), nI_clamp (by omega), m_miS, m_uS, r_isGate r (n := n) (by omega) (by rw [m_miN _ (by decide)]; exact h0), p_b1, p_if]
  cases inN r n <;> rfl
theorem r_b49 {σ : Mem} {c s v : Nat} (hc : c < 4) (hs : s < 30) (h8 : σ.1 8 0 = nI s) (h5 : σ.1 5 s = nI v) : fX9_readsSource_b49 (nI c) (nI 1) σ = some (nI 1, mi σ 11 c (-nI 1 - (nI v - nI 97))) := by
  unfold fX9_readsSource_b49 fX9_readsSource_b80
  simp only [zl]
  rw [if_neg (show ¬ nI 1 = nI 0 by decide), h8, p_ckI hs (by decide), p_ckI hc (by decide), p_lt, if_neg (show ¬ nI 1 = nI 0 by decide), nI_clamp (show s < 2 ^ 31 by omega), nI_clamp (show c < 2 ^ 31 by omega), h5]
theorem inN_m1 (n : Nat) : inN (-nI 1) n = false := inN_neg (by decide)
theorem in_src : ∀ v, v < 4 → -nI 1 - nI v = src (3 - v) := by decide
theorem isIn_nat {v a b : Nat} (hv : v < 256) (ha : a < 2 ^ 31) (hb : b < 2 ^ 31) : fX9_isIn (nI v) (nI a) (nI b) = some (bI (decide (a ≤ v ∧ v ≤ b))) := by
  rw [r_isIn, c_within _ ha hb, inN_nI (by omega), inN_nI (by omega)]
  by_cases w1 : v < a
  · rw [decide_eq_true w1, decide_eq_false (show ¬ (a ≤ v ∧ v ≤ b) by omega)]
    cases decide (v < b + 1) <;> rfl
  · by_cases w2 : v < b + 1
    · rw [decide_eq_false w1, decide_eq_true w2, decide_eq_true (show a ≤ v ∧ v ≤ b by omega)]
      rfl
    · rw [decide_eq_false w1, decide_eq_false w2, decide_eq_false (show ¬ (a ≤ v ∧ v ≤ b) by omega)]
      rfl
theorem both_source {t : Nat} {T : Nat → Nat} {N : Mem} {n : Nat} (h : tpe t T N) (hn : n ≤ 12) {s0 σ : Mem} {e : Nat} (he : e ≤ t) (h5 : s0.1 5 0 = nI e) (hr : tpr t T σ) (h7 : σ.1 7 0 = nI e) (h0 : σ.1 0 0 = nI n) {c : Nat} (hc : c < 4) :
    ∃ s N' σ' r, s ≤ 30 ∧ fX2_nextPiece s0 N = some N' ∧ fX2_sourceRead (nI n) N' N = some r ∧ N'.1 4 0 = nI s ∧ (∀ j, j ≠ 4 → j ≠ 5 → N'.1 j = s0.1 j) ∧ σ'.1 8 0 = nI s ∧ (∀ j, j ≠ 7 → j ≠ 8 → j ≠ 9 → j ≠ 11 → σ'.1 j = σ.1 j) ∧ (∀ i, i ≠ c → σ'.1 11 i = σ.1 11 i) ∧
      ((r = -nI 5 ∧ fX9_readsSource (nI c) σ = some (nI 0, σ')) ∨ (fX9_readsSource (nI c) σ = some (nI 1, σ') ∧ ∃ a e', a < 4 + n ∧ r = src a ∧ σ'.1 11 c = src a ∧ e' ≤ t ∧ N'.1 5 0 = nI e' ∧ σ'.1 7 0 = nI e')) := by
  have ht := h.1
  obtain ⟨s, e1, e2, kd, N', σ1, a1, a2, a3, a4, a5, a6, a7, a8, a9, hp⟩ := both_next h he h5 hr h7
  have hr1 : tpr t T σ1 := hr.same (a9 5 (by decide) (by decide) (by decide)) (a9 6 (by decide) (by decide) (by decide))
  have h01 : σ1.1 0 0 = nI n := by rw [a9 0 (by decide) (by decide) (by decide)]; exact h0
  obtain ⟨q, b1', b2', b3'⟩ := both_number h hr1 hp a3 a4 a6 a7 a8
  have hs := hp.1
  have done : ∀ (v r : Int32), fX2_sourceRead (nI n) N' N = some r → ((r = -nI 5 ∧ fX9_readsSource (nI c) σ = some (nI 0, mi σ1 11 c v)) ∨ (fX9_readsSource (nI c) σ = some (nI 1, mi σ1 11 c v) ∧ ∃ a e', a < 4 + n ∧ r = src a ∧ v = src a ∧ e' ≤ t ∧ e1 = e' ∧ e2 = e')) →
      ∃ s N' σ' r, s ≤ 30 ∧ fX2_nextPiece s0 N = some N' ∧ fX2_sourceRead (nI n) N' N = some r ∧ N'.1 4 0 = nI s ∧ (∀ j, j ≠ 4 → j ≠ 5 → N'.1 j = s0.1 j) ∧ σ'.1 8 0 = nI s ∧ (∀ j, j ≠ 7 → j ≠ 8 → j ≠ 9 → j ≠ 11 → σ'.1 j = σ.1 j) ∧ (∀ i, i ≠ c → σ'.1 11 i = σ.1 11 i) ∧
        ((r = -nI 5 ∧ fX9_readsSource (nI c) σ = some (nI 0, σ')) ∨ (fX9_readsSource (nI c) σ = some (nI 1, σ') ∧ ∃ a e', a < 4 + n ∧ r = src a ∧ σ'.1 11 c = src a ∧ e' ≤ t ∧ N'.1 5 0 = nI e' ∧ σ'.1 7 0 = nI e')) := by
    intro v r hrd hor
    refine ⟨s, N', mi σ1 11 c v, r, by omega, a1, hrd, a3, a5, by rw [m_miN _ (by decide)]; exact a6, fun j x y z w => by rw [m_miN _ w]; exact a9 j x y z, fun i hi => by rw [m_miS, m_uN _ hi, a9 11 (by decide) (by decide) (by decide)], ?_⟩
    rcases hor with hor | ⟨g1, a, e', g2, g3, g4, g5, g6, g7⟩
    · exact Or.inl hor
    · exact Or.inr ⟨g1, a, e', g2, g3, by rw [m_miS, m_uS]; exact g4, g5, by rw [← g6]; exact a4, by rw [m_miN _ (by decide), ← g7]; exact a7⟩
  have f48 := r_b48 hn hc h01 b2'
  have num : kd ≠ 1 → isL t T s = false → (kd = 2 → e1 ≤ t ∧ e2 = e1) → ∃ s N' σ' r, s ≤ 30 ∧ fX2_nextPiece s0 N = some N' ∧ fX2_sourceRead (nI n) N' N = some r ∧ N'.1 4 0 = nI s ∧ (∀ j, j ≠ 4 → j ≠ 5 → N'.1 j = s0.1 j) ∧ σ'.1 8 0 = nI s ∧ (∀ j, j ≠ 7 → j ≠ 8 → j ≠ 9 → j ≠ 11 → σ'.1 j = σ.1 j) ∧ (∀ i, i ≠ c → σ'.1 11 i = σ.1 11 i) ∧
      ((r = -nI 5 ∧ fX9_readsSource (nI c) σ = some (nI 0, σ')) ∨ (fX9_readsSource (nI c) σ = some (nI 1, σ') ∧ ∃ a e', a < 4 + n ∧ r = src a ∧ σ'.1 11 c = src a ∧ e' ≤ t ∧ N'.1 5 0 = nI e' ∧ σ'.1 7 0 = nI e')) := by
    intro k1 kL ke
    have hkd : kd < 4 := by
      obtain ⟨-, hp⟩ := hp
      rcases hp with ⟨x, _⟩ | ⟨x, _⟩ | ⟨x, _⟩ | ⟨x, _⟩ <;> omega
    have rs : fX9_readsSource (nI c) σ = some (bI (inN q n), mi σ1 11 c q) := by
      unfold fX9_readsSource
      simp only [zl]
      rw [a2, p_b1, a8, if_neg (show ¬ nI kd = nI 1 from fun z => k1 ((nI_eq (by omega) (by decide)).mp z))]
      exact f48
    have cs : fX2_sourceRead (nI n) N' N = if q = -nI 1 then some (-nI 5) else if nI n ≤ q then some (-nI 5) else some q := by
      unfold fX2_sourceRead
      simp only [zl]
      rw [a3, c_letter h (show s ≤ 30 by omega), p_b1, p_if, kL, if_neg (show ¬ (false = true) by decide), b1', p_b1]
    rcases b3' with rfl | ⟨k2, v, hv, rfl⟩
    · rw [if_pos (rfl : -nI 1 = -nI 1)] at cs
      rw [inN_m1] at rs
      exact done _ _ cs (Or.inl ⟨rfl, rs⟩)
    · rw [i_m1 (by omega), i_leP (a := n) (b := v) (by omega) (by omega)] at cs
      rw [inN_nI (by omega)] at rs
      by_cases w : n ≤ v
      · rw [if_pos w] at cs
        rw [decide_eq_false (show ¬ v < n by omega)] at rs
        exact done _ _ cs (Or.inl ⟨rfl, rs⟩)
      · rw [if_neg w] at cs
        rw [decide_eq_true (show v < n by omega)] at rs
        have sv : nI v = src (4 + v) := by rw [src_ge (by omega), show 4 + v - 4 = v by omega]
        obtain ⟨x, y⟩ := ke k2
        exact done _ _ cs (Or.inr ⟨rs, 4 + v, e1, by omega, sv, sv, x, rfl, y⟩)
  obtain ⟨-, hp⟩ := hp
  rcases hp with ⟨k0, x1, x2, x3⟩ | ⟨k1, x1, x2, x3, x4⟩ | ⟨k2, x1, x2, x3, x4⟩ | ⟨k3, x1, x2, x3, x4, x5⟩
  · exact num (by omega) (isL_t (by omega)) (fun z => by omega)
  · subst x3
    have hq : q = -nI 1 := by
      rcases b3' with z | ⟨z, _⟩
      · exact z
      · omega
    rw [hq, inN_m1] at f48
    obtain ⟨g1, g2, g3⟩ := isL_v (x4 s (Nat.le_refl _) x1)
    have cs : fX2_sourceRead (nI n) N' N = if e2 - s = 1 then (if 4 ≤ T s - 97 then some (-nI 5) else some (-nI 1 - nI (T s - 97))) else some (-nI 5) := by
      unfold fX2_sourceRead
      simp only [zl]
      rw [a3, a4, c_letter h (show s ≤ 30 by omega), p_b1, p_if, x4 s (Nat.le_refl _) x1, if_pos (rfl : true = true), p_ckI (show s < 30 by omega) (by decide), p_lt, nI_clamp (by omega), (h.2.2 s g1).1, n_sub g2, n_sub (show s ≤ e2 by omega), i_eqP (a := e2 - s) (b := 1) (by omega) (by decide), i_leP (a := 4) (b := T s - 97) (by decide) (by omega)]
    have rs : fX9_readsSource (nI c) σ = if e2 - s = 1 then (if 4 ≤ T s - 97 then some (nI 0, mi σ1 11 c (-nI 1)) else some (nI 1, mi σ1 11 c (-nI 1 - nI (T s - 97)))) else some (nI 0, mi σ1 11 c (-nI 1)) := by
      unfold fX9_readsSource
      simp only [zl]
      rw [a2, p_b1, a8, k1, if_pos (rfl : nI 1 = nI 1), a7, a6, n_sub (show s ≤ e2 by omega), i_eqP (a := e2 - s) (b := 1) (by omega) (by decide), p_ckI (show s < 30 by omega) (by decide), nI_clamp (by omega), (hr1.2.2 s g1).1, isIn_nat (h.2.2 s g1).2 (by decide) (by decide), p_b1, p_if, f48, r_b49 hc (show s < 30 by omega) a6 (hr1.2.2 s g1).1, n_sub g2]
      by_cases w : e2 - s = 1
      · rw [if_pos w, if_pos w]
        by_cases w2 : 4 ≤ T s - 97
        · rw [if_pos w2, if_neg (show ¬ decide (97 ≤ T s ∧ T s ≤ 100) = true from fun z => by have := of_decide_eq_true z; omega)]
          rfl
        · rw [if_neg w2, if_pos (decide_eq_true (show 97 ≤ T s ∧ T s ≤ 100 by omega))]
      · rw [if_neg w, if_neg w]
        rfl
    by_cases w : e2 - s = 1
    · rw [if_pos w] at cs rs
      by_cases w2 : 4 ≤ T s - 97
      · rw [if_pos w2] at cs rs
        exact done _ _ cs (Or.inl ⟨rfl, rs⟩)
      · rw [if_neg w2] at cs rs
        exact done _ _ cs (Or.inr ⟨rs, 3 - (T s - 97), e2, by omega, in_src _ (by omega), in_src _ (by omega), x2, rfl, rfl⟩)
    · rw [if_neg w] at cs rs
      exact done _ _ cs (Or.inl ⟨rfl, rs⟩)
  · refine num (by omega) ?_ (fun _ => ⟨x2, x3⟩)
    by_cases w : isL t T s = true
    · have g := isL_v w
      have g2 := isD_v (x4 s (Nat.le_refl _) x1)
      omega
    · exact ts_nt w
  · exact num (by omega) x4 (fun z => by omega)
theorem both_delay {t : Nat} {T : Nat → Nat} {N : Mem} (h : tpe t T N) {s0 σ : Mem} {e : Nat} (he : e ≤ t) (h5 : s0.1 5 0 = nI e) (hr : tpr t T σ) (h7 : σ.1 7 0 = nI e) :
    ∃ r N' b σ' s, fX2_read_b106 N s0 = some (r, N') ∧ fX9_isText_b71 σ = some (bI b, σ') ∧ s ≤ 30 ∧ σ'.1 8 0 = nI s ∧ (∀ j, j ≠ 7 → j ≠ 8 → j ≠ 9 → j ≠ 11 → σ'.1 j = σ.1 j) ∧ (∀ i, i ≠ 3 → σ'.1 11 i = σ.1 11 i) ∧ (∀ j, j ≠ 3 → j ≠ 4 → j ≠ 5 → N'.1 j = s0.1 j) ∧
      ((b = false ∧ r = nI s) ∨ (b = true ∧ r = -nI 1 ∧ ∃ v, 1 ≤ v ∧ v ≤ 9 ∧ N'.1 3 0 = nI v ∧ σ'.1 11 3 = nI v)) := by
  have ht := h.1
  obtain ⟨s, e1, e2, kd, N1, σ1, a1, a2, a3, a4, a5, a6, a7, a8, a9, hp⟩ := both_next h he h5 hr h7
  have hr1 : tpr t T σ1 := hr.same (a9 5 (by decide) (by decide) (by decide)) (a9 6 (by decide) (by decide) (by decide))
  obtain ⟨q, b1', b2', b3'⟩ := both_number h hr1 hp a3 a4 a6 a7 a8
  have hs := hp.1
  have rd : fX9_readsDelay σ = some (bI (inN q 10 && !(inN q 1)), mi σ1 11 3 q) := by
    unfold fX9_readsDelay
    simp only [zl]
    rw [a2, p_b1, b2', p_b1, p_ckI (by decide) (by decide), p_lt, p_ckI (by decide) (by decide), nI_clamp (by decide), m_miS, m_uS, r_isIn, c_within q (by decide) (by decide), p_b1, p_ckZ]
  unfold fX2_read_b106 fX9_isText_b71
  simp only [zl]
  rw [a1, p_b1, b1', p_b1, m_miS, m_uS, c_within q (by decide) (by decide), p_b1, p_if, rd, p_b2, p_if]
  by_cases w : (inN q (9 + 1) && !(inN q 1)) = true
  · rw [if_pos w, if_pos (show (inN q 10 && !(inN q 1)) = true from w)]
    rcases b3' with hq | ⟨k2, v, hv, rfl⟩
    · rw [hq, inN_m1] at w
      exact absurd w (by simp)
    · have hv19 : 1 ≤ v ∧ v ≤ 9 := by
        rw [inN_nI (by omega), inN_nI (by omega)] at w
        obtain ⟨x, y⟩ := and2 w
        have x := of_decide_eq_true x
        by_cases z : v < 1
        · rw [decide_eq_true z] at y; exact absurd y (by decide)
        · omega
      have he2 : e2 = e1 ∧ e1 ≤ t := by
        obtain ⟨-, hp⟩ := hp
        rcases hp with ⟨k0, x1, x2, x3⟩ | ⟨k1, x1, x2, x3, x4⟩ | ⟨k2, x1, x2, x3, x4⟩ | ⟨k3, x1, x2, x3, x4, x5⟩ <;> first | omega | exact ⟨x3, x2⟩
      obtain ⟨s', e1', e2', kd', N2, σ2, c1, c2, c3, c4, c5, c6, c7, c8, c9, hp'⟩ := both_next (s0 := mi N1 3 0 (nI v)) (σ := mi σ1 11 3 (nI v)) h he2.2 (by rw [m_miN _ (by decide)]; exact a4) (hr1.same (by rw [m_miN _ (by decide)]) (by rw [m_miN _ (by decide)])) (by rw [m_miN _ (by decide), ← he2.1]; exact a7)
      have hs' := hp'.1
      have keep : ∀ j, j ≠ 7 → j ≠ 8 → j ≠ 9 → j ≠ 11 → σ2.1 j = σ.1 j := fun j x y z u => by rw [c9 j x y z, m_miN _ u, a9 j x y z]
      have k11 : ∀ i, i ≠ 3 → σ2.1 11 i = σ.1 11 i := fun i hi => by rw [c9 11 (by decide) (by decide) (by decide), m_miS, m_uN _ hi, a9 11 (by decide) (by decide) (by decide)]
      have kN : ∀ j, j ≠ 3 → j ≠ 4 → j ≠ 5 → N2.1 j = s0.1 j := fun j x y z => by rw [c5 j y z, m_miN _ x, a5 j y z]
      rw [c1, p_b1, c2, p_b1, h.2.1, c3, c8, i_leP (a := t) (b := s') (by omega) (by omega)]
      have hkd : kd' = 0 ↔ t ≤ s' := by
        obtain ⟨-, hp'⟩ := hp'
        rcases hp' with ⟨k0, x1, x2, x3⟩ | ⟨k1, x1, x2, x3, x4⟩ | ⟨k2, x1, x2, x3, x4⟩ | ⟨k3, x1, x2, x3, x4, x5⟩ <;> omega
      have hkd4 : kd' < 4 := by
        obtain ⟨-, hp'⟩ := hp'
        rcases hp' with ⟨x, _⟩ | ⟨x, _⟩ | ⟨x, _⟩ | ⟨x, _⟩ <;> omega
      rw [i_eq0 (a := kd') (by omega)]
      by_cases z : t ≤ s'
      · rw [if_pos z, if_pos (hkd.mpr z)]
        exact ⟨_, _, true, _, s', rfl, rfl, by omega, c6, keep, k11, kN, Or.inr ⟨rfl, rfl, v, hv19.1, hv19.2, by rw [c5 3 (by decide) (by decide), m_miS, m_uS], by rw [c9 11 (by decide) (by decide) (by decide), m_miS, m_uS]⟩⟩
      · rw [if_neg z, if_neg (fun y => z (hkd.mp y))]
        exact ⟨_, _, false, _, s', rfl, rfl, by omega, c6, keep, k11, kN, Or.inl ⟨rfl, rfl⟩⟩
  · rw [if_neg w, if_neg (show ¬ (inN q 10 && !(inN q 1)) = true from w), m_miN _ (by decide), a3]
    exact ⟨_, _, false, _, s, rfl, rfl, by omega, by rw [m_miN _ (by decide)]; exact a6, fun j x y z u => by rw [m_miN _ u]; exact a9 j x y z, fun i hi => by rw [m_miS, m_uN _ hi, a9 11 (by decide) (by decide) (by decide)], fun j x y z => by rw [m_miN _ x, a5 j y z], Or.inl ⟨rfl, rfl⟩⟩
