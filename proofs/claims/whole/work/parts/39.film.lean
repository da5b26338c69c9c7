/-! PURE, 19: film -/
theorem n_b255 (b : Bool) : bI b &&& nI 255 = bI b := by cases b <;> decide
theorem byt_bI (b : Bool) : byt (bI b) (bI b) := by cases b <;> exact ⟨by decide, by decide⟩
theorem c_film {k0 z : Nat} (hz : z ≤ 40) {f : Nat → Bool} : ∀ (d i k : Nat) (X : XS), i + d = z → (∀ t, t < 40 → fX7_at (nI t) (X 5) = some (bI (f t))) → (X (11 + k0)).1 1 0 = nI 0 → (X (11 + k0)).1 2 0 = nI z → (∀ j, j < i → (X (11 + k0)).1 0 j = bI (f j)) →
    ∃ X', fX8_film_b77 k0 (k + d + 1) (nI z) (nI i) X = some (nI z, X') ∧ (∀ j, j ≠ 11 + k0 → X' j = X j) ∧ (X' (11 + k0)).1 1 0 = nI 0 ∧ (X' (11 + k0)).1 2 0 = nI z ∧ ∀ j, j < z → (X' (11 + k0)).1 0 j = bI (f j) := by
  intro d
  induction d with
  | zero =>
    intro i k X hi hf h1 h2 h3
    have : i = z := by omega
    subst this
    rw [fX8_film_b77, if_pos ((nI_leI (by omega) (by omega)).mpr (Nat.le_refl _))]
    exact ⟨X, rfl, fun _ _ => rfl, h1, h2, h3⟩
  | succ d ih =>
    intro i k X hi hf h1 h2 h3
    rw [fX8_film_b77, if_neg (fun q => by rw [nI_leI (by omega) (by omega)] at q; omega), hf i (by omega), p_b1]
    unfold fX5_set fX5_set_b29
    simp only [zl]
    rw [c_has5 (nI i) (n := z) (by omega) h2, p_b1, p_if, inN_nI (by omega), if_pos (decide_eq_true (show i < z by omega)), h1, if_pos rfl, n_b255, p_ckI (show i < 40 by omega) (by decide), p_b1, p_lt, nI_add, nI_clamp (by omega)]
    obtain ⟨X', g1, g2, g3, g4, g5⟩ := ih (i + 1) k (xs X (11 + k0) (mi (X (11 + k0)) 0 i (bI (f i)))) (by omega) (by rw [m_xsN _ (by omega)]; exact hf) (by rw [m_xsS, m_miN _ (by decide)]; exact h1) (by rw [m_xsS, m_miN _ (by decide)]; exact h2) (fun j hj => by
      rw [m_xsS, m_miS]
      by_cases q : j = i
      · rw [q, m_uS]
      · rw [m_uN _ q]; exact h3 j (by omega))
    exact ⟨X', g1, fun j hj => by rw [g2 j hj, m_xsN _ hj], g3, g4, g5⟩
theorem r_film {k0 z : Nat} (hk0 : k0 < 4) (hz : z ≤ 40) {f : Nat → Bool} (σ1 : Mem) (hf : ∀ τ : Mem, (∀ j, j ≠ 23 → τ.1 j = σ1.1 j) → ∀ t, t < 40 → fX9_outAt (nI t) τ = some (bI (f t))) : ∀ (d i k : Nat) (τ : Mem), i + d = z → (∀ j, j ≠ 23 → τ.1 j = σ1.1 j) → (∀ j, j < i → τ.1 23 (40 * k0 + j) = bI (f j)) → (∀ j, j < 40 * k0 ∨ 40 * k0 + 40 ≤ j → τ.1 23 j = σ1.1 23 j) →
    ∃ τ', fX9_film_b61 (k + d + 1) (nI k0) (nI z) (nI i) τ = some (nI z, τ') ∧ (∀ j, j ≠ 23 → τ'.1 j = σ1.1 j) ∧ (∀ j, j < z → τ'.1 23 (40 * k0 + j) = bI (f j)) ∧ ∀ j, j < 40 * k0 ∨ 40 * k0 + 40 ≤ j → τ'.1 23 j = σ1.1 23 j := by
  intro d
  induction d with
  | zero =>
    intro i k τ hi h1 h2 h3
    have : i = z := by omega
    subst this
    rw [fX9_film_b61, if_pos ((nI_leI (by omega) (by omega)).mpr (Nat.le_refl _))]
    exact ⟨τ, rfl, h1, h2, h3⟩
  | succ d ih =>
    intro i k τ hi h1 h2 h3
    rw [fX9_film_b61, if_neg (fun q => by rw [nI_leI (by omega) (by omega)] at q; omega), hf τ h1 i (by omega), p_b1]
    simp only [zl, p_lt, n_mul, nI_add]
    rw [p_ckI (by omega) (by decide), nI_clamp (by omega)]
    refine ih (i + 1) k _ (by omega) (fun j hj => by rw [m_miN _ hj]; exact h1 j hj) (fun j hj => ?_) (fun j hj => ?_)
    · rw [m_miS]
      by_cases q : j = i
      · rw [q, m_uS]
      · rw [m_uN _ (by omega)]; exact h2 j (by omega)
    · rw [m_miS, m_uN _ (by omega)]; exact h3 j hj
theorem R_wave.same {n : Nat} {K A B W : Nat → Nat} {x y : Nat} {σ τ : Mem} (h : R_wave n K A B W x y σ) (h0 : τ.1 0 = σ.1 0) (h12 : τ.1 12 = σ.1 12) (h13 : τ.1 13 = σ.1 13) : R_wave n K A B W x y τ := by
  obtain ⟨a, b, c⟩ := h
  refine ⟨by rw [h0]; exact a, fun g hg => by rw [h12]; exact b g hg, fun t ht => by rw [h13]; exact c t ht⟩
theorem sim_film {X : XS} {σ : Mem} (h : Rel X σ) (p0 p1 p2 : Int32) : Sim (fX8_film p0 p1 p2 X) (fX9_film p0 p1 p2 σ) := by
  obtain ⟨⟨n, K, A, B, W, T, C, V, d, Sd, Pl, F1, F2, hN, hr, hs, -⟩, -⟩ := id h
  have hn := hN.1
  have k16 : ∀ z : Option (Int32 × Mem), ck0 (nI 16) z = z := fun z => p_ck0 (by decide) (by decide)
  unfold fX8_film fX9_film
  simp only [zl, k16]
  rw [r_isSheet, c_sheet, p_b1, p_b1, p_if, p_if]
  by_cases q : inN p0 4 = true
  · rw [if_pos q, if_pos q, c_code, p_b1, p_if, r_code, p_b1, p_if]
    by_cases q1 : (inN p1 256 && !(decide (p1.toNatClampNeg / 16 = p1.toNatClampNeg % 16))) = true
    · rw [if_pos q1, if_pos q1, r_isIn, c_within0 p2 (by decide), p_b1, p_b1, p_if, p_if]
      by_cases q2 : inN p2 (40 + 1) = true
      · rw [if_pos q2, if_pos q2, c_empty (by omega) hr.1, p_b1, p_if, p_ckI (by decide) (by decide), nI_clamp (by decide), hs.1, i_eq0 (by omega)]
        by_cases q3 : n = 0
        · rw [if_pos (decide_eq_true q3), if_pos q3]
          exact Sim.i h
        · rw [if_neg (by simpa using q3), if_neg q3]
          have q1a : inN p1 256 = true := by
            revert q1
            cases inN p1 256
            · intro e; rw [Bool.false_and] at e; exact e
            · exact fun _ => rfl
          obtain ⟨k0, hk0, -, rfl⟩ := inN_t q
          obtain ⟨xy, hxy, -, rfl⟩ := inN_t q1a
          obtain ⟨z, hz, -, rfl⟩ := inN_t q2
          obtain ⟨w, N, σ1, e1, e2, cw, rw', -, -, hR, -⟩ := both_wave h hN (by omega) hr hs (show xy / 16 < 16 by omega) (show xy % 16 < 16 by omega)
          obtain ⟨S0, n0, n1, n2, n3⟩ := c_become5 (nI 0) (show z ≤ 40 by omega) (X (11 + k0))
          obtain ⟨σ2, r0, r1, r2, r3, r4, r5⟩ := r_becomes (nI 0) (nI z) hk0 σ1
          rw [if_neg (by decide)] at r3
          rw [p_ckI hk0 (by decide), p_lt, nI_clamp (by omega), n0, p_b1, (c_xy hxy).1, p_b1, (c_xy hxy).2, p_b1, m_xsN X (show 5 ≠ 11 + k0 by omega), m_xsN X (show 3 ≠ 11 + k0 by omega), e1, p_b2, n_rem16 (by omega), n_div16 (by omega), e2, p_b1, r0, p_b1]
          obtain ⟨kk, hkk⟩ := FU_of 41 (by decide)
          obtain ⟨X', c1, c2, c3, c4, c5⟩ := c_film (k0 := k0) (f := fun t => wv K A B W (xy / 16) (xy % 16) (4 + (n - 1)) t) (show z ≤ 40 by omega) z 0 (kk + 40 - z) (xs (xs (xs X (11 + k0) S0) 5 w) 3 N) (by omega)
            (by rw [m_xsN _ (show 5 ≠ 3 by decide), m_xsS]; exact fun t ht => cw.at hn (by omega)) (by rw [m_xsN _ (show 11 + k0 ≠ 3 by omega), m_xsN _ (show 11 + k0 ≠ 5 by omega), m_xsS]; exact n1) (by rw [m_xsN _ (show 11 + k0 ≠ 3 by omega), m_xsN _ (show 11 + k0 ≠ 5 by omega), m_xsS]; exact n2) (fun j hj => by omega)
          obtain ⟨τ', t1, t2, t3, t4⟩ := r_film (f := fun t => wv K A B W (xy / 16) (xy % 16) (4 + (n - 1)) t) hk0 (show z ≤ 40 by omega) σ2 (fun τ hτ t ht => R_wave.at hN (by omega) (rw'.same (by rw [hτ 0 (by decide), r1 0 (by decide) (by decide) (by decide)]) (by rw [hτ 12 (by decide), r1 12 (by decide) (by decide) (by decide)]) (by rw [hτ 13 (by decide), r1 13 (by decide) (by decide) (by decide)])) (by omega)) z 0 (kk + 40 - z) σ2 (by omega) (fun _ _ => rfl) (fun j hj => by omega) (fun _ _ => rfl)
          rw [hkk, show kk + 41 = kk + 40 - z + z + 1 by omega, c1, t1]
          have hX : ∀ j, j ≠ 11 + k0 → X' j = (xs (xs X 5 w) 3 N) j := fun j hj => by
            rw [c2 j hj]
            by_cases j3 : j = 3
            · rw [j3, m_xsS, m_xsS]
            · rw [m_xsN _ j3, m_xsN _ j3]
              by_cases j5 : j = 5
              · rw [j5, m_xsS, m_xsS]
              · rw [m_xsN _ j5, m_xsN _ j5, m_xsN _ hj]
          obtain ⟨-, -, -, hsh, -, -⟩ := id hR
          refine Sim.i (hR.sheets (fun k hk _ _ _ _ => hX k (by omega)) (by rw [hX 3 (by omega)]; exact samN.rf _) (fun k hk => by rw [t2 k (by omega), r1 k (by omega) (by omega) (by omega)]) (hsh.set (k0 := k0) (fun k hk hne => hX _ (by omega)) (fun k hk hne => by rw [t2 21 (by decide), r2, m_uN _ hne]) (fun k hk hne => by rw [t2 22 (by decide), r3, m_uN _ hne]) (fun k hk hne i hi => by rw [t4 _ (by omega), r5 _ (by omega)]) ?_))
          rw [t2 21 (by decide), t2 22 (by decide), r2, r3, m_uS, m_uS]
          refine ⟨z, by omega, c4, rfl, Or.inr (Or.inr ⟨c3, rfl, fun i hi => ?_⟩)⟩
          rw [c5 i hi, t3 i hi]
          exact byt_bI _
      · rw [if_neg q2, if_neg q2]
        exact Sim.i h
    · rw [if_neg q1, if_neg q1]
      exact Sim.i h
  · rw [if_neg q, if_neg q]
    exact Sim.i h
