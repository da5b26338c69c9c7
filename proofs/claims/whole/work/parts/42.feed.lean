/-! PURE, 22: feed -/
def fdL (p1 p2 p3 p4 p5 : Int32) (k : Nat) : Int32 := if k = 0 then p1 else if k = 1 then p2 else if k = 2 then p3 else if k = 3 then p4 else p5
def apN (N : Mem) (t : Nat) (L : Nat → Int32) : Nat → Mem
  | 0 => N
  | k + 1 => mi (mi (apN N t L k) 0 (t + k) (L k)) 1 0 (nI (t + k + 1))
theorem apN_len {N : Mem} {t : Nat} (h : N.1 1 0 = nI t) (L : Nat → Int32) : ∀ k, (apN N t L k).1 1 0 = nI (t + k) := by
  intro k
  cases k with
  | zero => exact h
  | succ k => rw [apN, m_miS, m_uS]; rfl
theorem apN_at (N : Mem) (t : Nat) (L : Nat → Int32) : ∀ k i, (apN N t L k).1 0 i = if t ≤ i ∧ i < t + k then L (i - t) else N.1 0 i := by
  intro k
  induction k with
  | zero => intro i; rw [if_neg (by omega)]; rfl
  | succ k ih =>
    intro i
    rw [apN, m_miN _ (by decide), m_miS]
    by_cases q : i = t + k
    · rw [q, m_uS, if_pos (by omega), show t + k - t = k by omega]
    · rw [m_uN _ q, ih i]
      by_cases w : t ≤ i ∧ i < t + k
      · rw [if_pos w, if_pos (by omega)]
      · rw [if_neg w, if_neg (by omega)]
theorem c_apT {N : Mem} {t : Nat} (ht : t < 30) (h : N.1 1 0 = nI t) (v : Int32) : fX6_append v N = some (mi (mi N 0 t v) 1 0 (nI (t + 1))) := by
  unfold fX6_append
  simp only [zl]
  rw [h, if_neg (fun q => by rw [nI_leI (by decide) (by omega)] at q; omega), p_ckI (by omega) (by decide), p_lt, nI_clamp (by omega), m_miN _ (by decide), h, nI_add]
theorem c_appN {N : Mem} {t : Nat} (h : N.1 1 0 = nI t) (L : Nat → Int32) (k : Nat) (hk : t + k < 30) : fX6_append (L k) (apN N t L k) = some (apN N t L (k + 1)) := c_apT hk (apN_len h L k) (L k)
theorem c_feed {X : XS} {t : Nat} (h : (X 1).1 1 0 = nI t) (p1 p2 p3 p4 p5 : Int32) : ∀ n, 1 ≤ n → n ≤ 5 → t + n ≤ 30 → ∃ X', (b1 (fX6_append p1 (X 1)) fun t0 => if nI n ≤ nI 1 then fX8_feed_b85 (nI n) p3 p4 p5 (xs X 1 t0) else b1 (fX6_append p2 ((xs X 1 t0) 1)) fun t1 => fX8_feed_b85 (nI n) p3 p4 p5 (xs (xs X 1 t0) 1 t1)) = some (nI (t + n), X') ∧
    X' 1 = apN (X 1) t (fdL p1 p2 p3 p4 p5) n ∧ ∀ k, k ≠ 1 → X' k = X k := by
  intro n h1 h5 ht
  have g := c_appN h (fdL p1 p2 p3 p4 p5)
  have l := apN_len h (fdL p1 p2 p3 p4 p5)
  have a0 : t + 0 < 30 → fX6_append p1 (X 1) = some (apN (X 1) t (fdL p1 p2 p3 p4 p5) 1) := g 0
  have a1 : t + 1 < 30 → fX6_append p2 (apN (X 1) t (fdL p1 p2 p3 p4 p5) 1) = some (apN (X 1) t (fdL p1 p2 p3 p4 p5) 2) := g 1
  have a2 : t + 2 < 30 → fX6_append p3 (apN (X 1) t (fdL p1 p2 p3 p4 p5) 2) = some (apN (X 1) t (fdL p1 p2 p3 p4 p5) 3) := g 2
  have a3 : t + 3 < 30 → fX6_append p4 (apN (X 1) t (fdL p1 p2 p3 p4 p5) 3) = some (apN (X 1) t (fdL p1 p2 p3 p4 p5) 4) := g 3
  have a4 : t + 4 < 30 → fX6_append p5 (apN (X 1) t (fdL p1 p2 p3 p4 p5) 4) = some (apN (X 1) t (fdL p1 p2 p3 p4 p5) 5) := g 4
  have n5 : n = 1 ∨ n = 2 ∨ n = 3 ∨ n = 4 ∨ n = 5 := by omega
  unfold fX8_feed_b85 fX8_feed_b99 fX8_feed_b113
  simp only [zl]
  rcases n5 with rfl | rfl | rfl | rfl | rfl
  · rw [a0 (by omega), p_b1, if_pos (show nI 1 ≤ nI 1 by decide), if_pos (show nI 1 ≤ nI 2 by decide), if_pos (show nI 1 ≤ nI 3 by decide), if_pos (show nI 1 ≤ nI 4 by decide), m_xsS, l 1]
    exact ⟨_, rfl, m_xsS _ _ _, fun k hk => m_xsN _ hk _⟩
  · rw [a0 (by omega), p_b1, if_neg (show ¬ nI 2 ≤ nI 1 by decide), m_xsS, a1 (by omega), p_b1, if_pos (show nI 2 ≤ nI 2 by decide), if_pos (show nI 2 ≤ nI 3 by decide), if_pos (show nI 2 ≤ nI 4 by decide), m_xsS, l 2]
    exact ⟨_, rfl, m_xsS _ _ _, fun k hk => by rw [m_xsN _ hk, m_xsN _ hk]⟩
  · rw [a0 (by omega), p_b1, if_neg (show ¬ nI 3 ≤ nI 1 by decide), m_xsS, a1 (by omega), p_b1, if_neg (show ¬ nI 3 ≤ nI 2 by decide), m_xsS, a2 (by omega), p_b1, if_pos (show nI 3 ≤ nI 3 by decide), if_pos (show nI 3 ≤ nI 4 by decide), m_xsS, l 3]
    exact ⟨_, rfl, m_xsS _ _ _, fun k hk => by rw [m_xsN _ hk, m_xsN _ hk, m_xsN _ hk]⟩
  · rw [a0 (by omega), p_b1, if_neg (show ¬ nI 4 ≤ nI 1 by decide), m_xsS, a1 (by omega), p_b1, if_neg (show ¬ nI 4 ≤ nI 2 by decide), m_xsS, a2 (by omega), p_b1, if_neg (show ¬ nI 4 ≤ nI 3 by decide), m_xsS, a3 (by omega), p_b1, if_pos (show nI 4 ≤ nI 4 by decide), m_xsS, l 4]
    exact ⟨_, rfl, m_xsS _ _ _, fun k hk => by rw [m_xsN _ hk, m_xsN _ hk, m_xsN _ hk, m_xsN _ hk]⟩
  · rw [a0 (by omega), p_b1, if_neg (show ¬ nI 5 ≤ nI 1 by decide), m_xsS, a1 (by omega), p_b1, if_neg (show ¬ nI 5 ≤ nI 2 by decide), m_xsS, a2 (by omega), p_b1, if_neg (show ¬ nI 5 ≤ nI 3 by decide), m_xsS, a3 (by omega), p_b1, if_neg (show ¬ nI 5 ≤ nI 4 by decide), m_xsS, a4 (by omega), p_b1, m_xsS, l 5]
    exact ⟨_, rfl, m_xsS _ _ _, fun k hk => by rw [m_xsN _ hk, m_xsN _ hk, m_xsN _ hk, m_xsN _ hk, m_xsN _ hk]⟩
theorem r_feed {n t : Nat} (h5 : n ≤ 5) (ht : t + n ≤ 30) (p1 p2 p3 p4 p5 : Int32) : ∀ (d k f : Nat) (σ : Mem), k + d = n → σ.1 6 0 = nI t →
    ∃ σ', fX9_feed_b67 (f + d + 1) (nI n) p1 p2 p3 p4 p5 (nI k) σ = some (nI (t + n), σ') ∧ (∀ j, j ≠ 5 → j ≠ 6 → σ'.1 j = σ.1 j) ∧ σ'.1 6 0 = nI (t + n) ∧ ∀ i, σ'.1 5 i = if t + k ≤ i ∧ i < t + n then fdL p1 p2 p3 p4 p5 (i - t) else σ.1 5 i := by
  intro d
  induction d with
  | zero =>
    intro k f σ hk h6
    have : k = n := by omega
    subst this
    rw [fX9_feed_b67, if_pos ((nI_leI (by omega) (by omega)).mpr (Nat.le_refl _)), p_lt, h6, nI_add, m_miS, m_uS]
    exact ⟨_, rfl, fun j _ hj => m_miN _ hj _ _, by rw [m_miS, m_uS], fun i => by rw [m_miN _ (by decide), if_neg (by omega)]⟩
  | succ d ih =>
    intro k f σ hk h6
    obtain ⟨σ', i1, i2, i3, i4⟩ := ih (k + 1) f (mi σ 5 (t + k) (fdL p1 p2 p3 p4 p5 k)) (by omega) (by rw [m_miN _ (by decide)]; exact h6)
    have step : fX9_feed_b127 (fX9_feed_b67 (f + d + 1)) (nI n) p1 p2 p3 p4 p5 (nI k) (fdL p1 p2 p3 p4 p5 k) (nI (t + k)) σ = some (nI (t + n), σ') := by
      unfold fX9_feed_b127
      simp only [zl]
      rw [p_ckI (by omega) (by decide), p_lt, p_lt, nI_clamp (by omega), nI_add]
      exact i1
    refine ⟨σ', ?_, fun j hj hj6 => by rw [i2 j hj hj6, m_miN _ hj], i3, fun i => ?_⟩
    · rw [fX9_feed_b67]
      simp only [zl, h6, nI_add]
      rw [if_neg (fun q => by rw [nI_leI (by omega) (by omega)] at q; omega)]
      have k5 : k = 0 ∨ k = 1 ∨ k = 2 ∨ k = 3 ∨ k = 4 := by omega
      rcases k5 with rfl | rfl | rfl | rfl | rfl
      · rw [if_pos (rfl : nI 0 = nI 0)]
        exact step
      · rw [if_neg (show ¬ nI 1 = nI 0 by decide), if_pos (rfl : nI 1 = nI 1)]
        exact step
      · rw [if_neg (show ¬ nI 2 = nI 0 by decide), if_neg (show ¬ nI 2 = nI 1 by decide), if_pos (rfl : nI 2 = nI 2)]
        exact step
      · rw [if_neg (show ¬ nI 3 = nI 0 by decide), if_neg (show ¬ nI 3 = nI 1 by decide), if_neg (show ¬ nI 3 = nI 2 by decide), if_pos (rfl : nI 3 = nI 3)]
        exact step
      · rw [if_neg (show ¬ nI 4 = nI 0 by decide), if_neg (show ¬ nI 4 = nI 1 by decide), if_neg (show ¬ nI 4 = nI 2 by decide), if_neg (show ¬ nI 4 = nI 3 by decide)]
        exact step
    · rw [i4 i, m_miS]
      by_cases q : i = t + k
      · rw [if_neg (by omega), if_pos (by omega), q, m_uS, show t + k - t = k by omega]
      · rw [m_uN _ q]
        by_cases w : t + (k + 1) ≤ i ∧ i < t + n
        · rw [if_pos w, if_pos (by omega)]
        · rw [if_neg w, if_neg (by omega)]
theorem fdL_in {p1 p2 p3 p4 p5 : Int32} (h1 : inN p1 256 = true) (h2 : inN p2 256 = true) (h3 : inN p3 256 = true) (h4 : inN p4 256 = true) (h5 : inN p5 256 = true) (k : Nat) : ∃ b, b < 256 ∧ fdL p1 p2 p3 p4 p5 k = nI b := by
  have : inN (fdL p1 p2 p3 p4 p5 k) 256 = true := by
    unfold fdL
    split
    · exact h1
    · split
      · exact h2
      · split
        · exact h3
        · split
          · exact h4
          · exact h5
  obtain ⟨b, hb, -, e⟩ := inN_t this
  exact ⟨b, hb, e⟩
theorem sim_feed {X : XS} {σ : Mem} (h : Rel X σ) (p0 p1 p2 p3 p4 p5 : Int32) : Sim (fX8_feed p0 p1 p2 p3 p4 p5 X) (fX9_feed p0 p1 p2 p3 p4 p5 σ) := by
  obtain ⟨g1, ⟨t, ht, t1, t2, t3⟩, g3, g4, g5, g6⟩ := id h
  unfold fX8_feed fX9_feed
  simp only [zl]
  rw [r_isIn, r_isByte, c_within p0 (by decide) (by decide), p_b1, p_b1, p_if, p_if]
  by_cases q : (inN p0 (5 + 1) && !(inN p0 1)) = true
  · rw [if_pos q, if_pos q, c_byte p1, p_b1, p_b1, p_if, p_if]
    by_cases q1 : inN p1 256 = true
    · rw [if_pos q1, if_pos q1, c_byte p2, p_b1, p_b1, p_if, p_if]
      by_cases q2 : inN p2 256 = true
      · rw [if_pos q2, if_pos q2, c_byte p3, p_b1, p_b1, p_if, p_if]
        by_cases q3 : inN p3 256 = true
        · rw [if_pos q3, if_pos q3, c_byte p4, p_b1, p_b1, p_if, p_if]
          by_cases q4 : inN p4 256 = true
          · rw [if_pos q4, if_pos q4, c_byte p5, p_b1, p_b1, p_if, p_if]
            by_cases q5 : inN p5 256 = true
            · rw [if_pos q5, if_pos q5]
              unfold fX6_room
              simp only [zl]
              rw [p_b1]
              obtain ⟨n, hn, hn2, rfl⟩ := inN_t (show inN p0 (5 + 1) = true by revert q; cases inN p0 (5 + 1) <;> simp)
              have hn1 : 1 ≤ n := by
                rw [inN_nI hn2, inN_nI hn2] at q
                by_cases z : n < 1
                · rw [decide_eq_true z] at q; simp at q
                · omega
              rw [t1, t2, n_sub ht, nI_add]
              by_cases w : t + n ≤ 30
              · rw [if_pos ((nI_leI (by omega) (by omega)).mpr (show n ≤ 30 - t by omega)), if_pos ((nI_leI (by omega) (by omega)).mpr w)]
                obtain ⟨X', c1, c2, c3⟩ := c_feed t1 p1 p2 p3 p4 p5 n hn1 (by omega) w
                obtain ⟨kk, hkk⟩ := FU_of 6 (by decide)
                obtain ⟨σ', r1, r2, r3, r4⟩ := r_feed (show n ≤ 5 by omega) w p1 p2 p3 p4 p5 n 0 (kk + 5 - n) σ (by omega) t2
                rw [c1, hkk, show kk + 6 = kk + 5 - n + n + 1 by omega, r1]
                refine Sim.i ?_
                unfold Rel
                rw [r2 0 (by decide) (by decide), r2 1 (by decide) (by decide), r2 2 (by decide) (by decide), r2 3 (by decide) (by decide), r2 4 (by decide) (by decide), r2 10 (by decide) (by decide), r2 21 (by decide) (by decide), r2 22 (by decide) (by decide), r2 23 (by decide) (by decide), c3 0 (by decide), c3 3 (by decide), c3 4 (by decide), c3 6 (by decide), c3 8 (by decide), c3 9 (by decide), c3 10 (by decide)]
                refine ⟨g1, ⟨t + n, w, by rw [c2]; exact apN_len t1 _ n, r3, fun i hi => ?_⟩, g3, fun k hk => by rw [c3 (11 + k) (by omega)]; exact g4 k hk, g5, g6⟩
                rw [c2, apN_at, r4 i]
                by_cases z : t ≤ i
                · rw [if_pos ⟨z, hi⟩, if_pos ⟨by omega, hi⟩]
                  exact ⟨rfl, fdL_in q1 q2 q3 q4 q5 (i - t)⟩
                · rw [if_neg (by omega), if_neg (by omega)]
                  exact t3 i (by omega)
              · rw [if_neg (show ¬ nI n ≤ nI (30 - t) from fun e => by rw [nI_leI (by omega) (by omega)] at e; omega), if_neg (show ¬ nI (t + n) ≤ nI 30 from fun e => by rw [nI_leI (by omega) (by omega)] at e; omega)]
                exact Sim.i h
            · rw [if_neg q5, if_neg q5]
              exact Sim.i h
          · rw [if_neg q4, if_neg q4]
            exact Sim.i h
        · rw [if_neg q3, if_neg q3]
          exact Sim.i h
      · rw [if_neg q2, if_neg q2]
        exact Sim.i h
    · rw [if_neg q1, if_neg q1]
      exact Sim.i h
  · rw [if_neg q, if_neg q]
    exact Sim.i h
