/-! PURE, 21: load -/
theorem neg_small : ∀ j, j < 129 → (-nI j).toInt = -(j : Int) ∧ (0 < j → inN (-nI j) 16 = false ∧ inN (-nI j &&& nI 255) 16 = false) := by decide +kernel
theorem byt_case {u v : Int32} (h : byt u v) : u = v ∨ (inN u 16 = false ∧ inN v 16 = false) := by
  obtain ⟨h1, h2⟩ := h
  have r1 := fb_byte_rng v
  rw [h1] at r1
  rcases neg_or v with hv | ⟨j, hj, rfl⟩
  · right
    rw [Int32.lt_iff_toInt_lt, show (0 : Int32).toInt = 0 by decide] at hv
    have e : v = -nI (-v.toInt).toNat := by
      apply Int32.toInt_inj.mp
      rw [(neg_small (-v.toInt).toNat (by omega)).1]
      omega
    have hj0 : 0 < (-v.toInt).toNat := by omega
    obtain ⟨x, y⟩ := (neg_small (-v.toInt).toNat (by omega)).2 hj0
    rw [← e] at x y
    exact ⟨by rw [h2]; exact y, x⟩
  · left
    rw [nI_toInt hj] at r1
    rw [h2, show nI 255 = nI (2 ^ 8 - 1) from rfl, fa_mask, Nat.mod_eq_of_lt (by omega)]
theorem isTerm_bad {p0 p1 : Int32} (h : inN p0 16 = false ∨ inN p1 16 = false) : fX9_isTerm p0 p1 = some (nI 0) := by
  unfold fX9_isTerm
  simp only [zl]
  rw [r_isIn, c_within0 p0 (by decide), p_b1, p_if, c_within0 p1 (by decide), p_b1, p_if]
  by_cases q : inN p0 (15 + 1) = true
  · rw [if_pos q]
    rcases h with h | h
    · exact absurd (h.symm.trans q) (by decide)
    · rw [if_neg (show ¬ inN p1 (15 + 1) = true from fun e => absurd (h.symm.trans e) (by decide))]
  · rw [if_neg q]
theorem term_same {u1 v1 u2 v2 : Int32} (h1 : u1 = v1 ∨ (inN u1 16 = false ∧ inN v1 16 = false)) (h2 : u2 = v2 ∨ (inN u2 16 = false ∧ inN v2 16 = false)) (σ : Mem) : fX9_term v1 v2 σ = fX9_term u1 u2 σ := by
  have bad : ∀ a b c d, (inN a 16 = false ∨ inN b 16 = false) → (inN c 16 = false ∨ inN d 16 = false) → fX9_term a b σ = fX9_term c d σ := fun a b c d x y => by
    unfold fX9_term
    rw [isTerm_bad x, isTerm_bad y, p_b1, p_b1, if_pos (show nI 0 = (0 : Int32) from rfl), if_pos (show nI 0 = (0 : Int32) from rfl)]
  rcases h1 with rfl | ⟨x1, x2⟩
  · rcases h2 with rfl | ⟨y1, y2⟩
    · rfl
    · exact bad _ _ _ _ (Or.inr y2) (Or.inr y1)
  · exact bad _ _ _ _ (Or.inl x2) (Or.inl x1)
theorem n_le3 {z a b c : Nat} (hz : z < 2 ^ 20) (ha : a < 2 ^ 31) (hb : b < 2 ^ 20) (hc : c < 2 ^ 20) : (nI a ≤ nI z - nI b - nI c) ↔ a + b + c ≤ z := by
  have e1 : (nI z - nI b).toInt = (z : Int) - b := by rw [fb_subI (by rw [nI_toInt (show z < 2 ^ 31 by omega), nI_toInt (show b < 2 ^ 31 by omega)]; omega) (by rw [nI_toInt (show z < 2 ^ 31 by omega), nI_toInt (show b < 2 ^ 31 by omega)]; omega), nI_toInt (show z < 2 ^ 31 by omega), nI_toInt (show b < 2 ^ 31 by omega)]
  rw [Int32.le_iff_toInt_le, fb_subI (by rw [e1, nI_toInt (show c < 2 ^ 31 by omega)]; omega) (by rw [e1, nI_toInt (show c < 2 ^ 31 by omega)]; omega), e1, nI_toInt (show c < 2 ^ 31 by omega), nI_toInt ha]
  omega
theorem one_case {S : Mem} {so : Int32} {it : Nat → Int32} {k z : Nat} (s4 : (S.1 1 0 = -nI 1 ∧ so = -nI 1 ∧ z = 0) ∨ (S.1 1 0 = nI 1 ∧ so = nI 1 ∧ ∀ i, i < z → S.1 0 i = it (40 * k + i)) ∨ (S.1 1 0 = nI 0 ∧ so = nI 0 ∧ ∀ i, i < z → byt (S.1 0 i) (it (40 * k + i)))) (t : Nat) (ht : t < z) : S.1 0 t = it (40 * k + t) ∨ (inN (S.1 0 t) 16 = false ∧ inN (it (40 * k + t)) 16 = false) := by
  rcases s4 with ⟨_, _, c⟩ | ⟨_, _, c⟩ | ⟨_, _, c⟩
  · omega
  · exact Or.inl (c t ht)
  · exact byt_case (c t ht)
theorem load_loop {k0 a m : Nat} (hk0 : k0 < 4) (ha : a < 2 ^ 31) (hm : m ≤ 8) : ∀ (d x f c : Nat) (X : XS) (σ : Mem), Rel X σ → x + d = m → a + 2 * x < 2 ^ 31 →
    Sim (fX8_load_b65 k0 (f + d + 1) (nI a) (nI m) (nI c) (nI x) X) (fX9_load_b62 (f + d + 1) (nI k0) (nI a) (nI m) (nI c) (nI x) σ) := by
  intro d
  induction d with
  | zero =>
    intro x f c X σ h hx hax
    have : x = m := by omega
    subst this
    rw [fX8_load_b65, fX9_load_b62, if_pos ((nI_leI (by omega) (by omega)).mpr (Nat.le_refl _)), if_pos ((nI_leI (by omega) (by omega)).mpr (Nat.le_refl _))]
    exact Sim.i h
  | succ d ih =>
    intro x f c X σ h hx hax
    obtain ⟨-, -, -, hsh, -, -⟩ := id h
    obtain ⟨z, hz, s2, s3, s4⟩ := hsh k0 hk0
    have hrun : fX5_hasRun (nI (a + 2 * x)) (nI 2) (X (11 + k0)) = some (bI (decide (a + 2 * x + 2 ≤ z))) := by
      rw [c_hasRun (by omega) s2, nI_clamp hax, nI_clamp (by decide), decide_eq_true (nI_pos hax), decide_eq_true (nI_pos (show 2 < 2 ^ 31 by decide)), Bool.true_and, Bool.true_and]
    rw [fX8_load_b65, fX9_load_b62]
    unfold fX8_load_b122 fX9_load_b136
    simp only [zl, p_lt, n_mul, nI_add]
    rw [if_neg (show ¬ nI m ≤ nI x from fun q => by rw [nI_leI (by omega) (by omega)] at q; omega), if_neg (show ¬ nI m ≤ nI x from fun q => by rw [nI_leI (by omega) (by omega)] at q; omega), if_neg (z_neg ha), p_ckI hk0 (by decide), nI_clamp (show k0 < 2 ^ 31 by omega), s3, hrun, p_b1, p_if]
    by_cases w : a + 2 * x + 2 ≤ z
    · rw [if_pos (decide_eq_true w), if_pos ((n_le3 (by omega) ha (by omega) (by omega)).mpr w), p_ckI (show a + 2 * x < 40 by omega) (by decide), p_ckI (show a + 2 * x + 1 < 40 by omega) (by decide), p_ckI (show 40 * k0 + a + 2 * x < 160 by omega) (by decide), p_ckI (show 40 * k0 + a + 2 * x + 1 < 160 by omega) (by decide), nI_clamp (show a + 2 * x < 2 ^ 31 by omega), nI_clamp (show a + 2 * x + 1 < 2 ^ 31 by omega), nI_clamp (show 40 * k0 + a + 2 * x < 2 ^ 31 by omega), nI_clamp (show 40 * k0 + a + 2 * x + 1 < 2 ^ 31 by omega)]
      have te : fX9_term (σ.1 23 (40 * k0 + a + 2 * x)) (σ.1 23 (40 * k0 + a + 2 * x + 1)) σ = fX9_term ((X (11 + k0)).1 0 (a + 2 * x)) ((X (11 + k0)).1 0 (a + 2 * x + 1)) σ := by
        have g1 := one_case s4 (a + 2 * x) (by omega)
        have g2 := one_case s4 (a + 2 * x + 1) (by omega)
        rw [show 40 * k0 + (a + 2 * x) = 40 * k0 + a + 2 * x by omega] at g1
        rw [show 40 * k0 + (a + 2 * x + 1) = 40 * k0 + a + 2 * x + 1 by omega] at g2
        exact term_same g1 g2 σ
      obtain ⟨r, X', σ', e1, e2, hR⟩ := sim_addTerm h ((X (11 + k0)).1 0 (a + 2 * x)) ((X (11 + k0)).1 0 (a + 2 * x + 1))
      rw [e1, p_b2, te, e2, p_b2]
      by_cases hr : r < nI 0
      · rw [if_pos hr, if_pos hr]
        exact ih (x + 1) f c X' σ' hR (by omega) (by omega)
      · rw [if_neg hr, if_neg hr]
        exact ih (x + 1) f (c + 1) X' σ' hR (by omega) (by omega)
    · rw [if_neg (show ¬ decide (a + 2 * x + 2 ≤ z) = true by simpa using w), if_neg (show ¬ nI a ≤ nI z - nI (2 * x) - nI 2 from fun e => w ((n_le3 (by omega) ha (by omega) (by omega)).mp e))]
      exact Sim.i h
theorem n_add0 (p : Int32) : p + nI 2 * nI 0 = p := by
  apply Int32.toInt_inj.mp
  have r := fb_rng p
  have e : (nI 2 * nI 0).toInt = 0 := by decide
  rw [fb_addI (by rw [e]; omega) (by rw [e]; omega), e]
  omega
theorem sim_load {X : XS} {σ : Mem} (h : Rel X σ) (p0 p1 p2 p3 : Int32) : Sim (fX8_load p0 p1 p2 p3 X) (fX9_load p0 p1 p2 p3 σ) := by
  obtain ⟨-, -, -, hsh, -, -⟩ := id h
  unfold fX8_load fX9_load
  simp only [zl]
  rw [r_isSheet, c_sheet, p_b1, p_b1, p_if, p_if]
  by_cases q : inN p0 4 = true
  · rw [if_pos q, if_pos q, r_isIn, c_sort, p_b1, p_if, c_within0 p1 (by decide), p_b1, p_if]
    by_cases q1 : inN p1 2 = true
    · rw [if_pos q1, if_pos (show inN p1 (1 + 1) = true from q1), c_within0 p3 (by decide), p_b1, p_b1, p_if, p_if]
      by_cases q2 : inN p3 (8 + 1) = true
      · obtain ⟨k0, hk0, -, rfl⟩ := inN_t q
        obtain ⟨m, hm, -, rfl⟩ := inN_t q2
        have k1 : ∀ z : Option (Int32 × XS), ckI (nI k0) 4 z = z := fun z => p_ckI (by omega) (by decide)
        have k2 : ∀ z : Option (Int32 × Mem), ckI (nI k0) 4 z = z := fun z => p_ckI (by omega) (by decide)
        simp only [k1, k2, p_lt, nI_clamp (show k0 < 2 ^ 31 by omega)]
        obtain ⟨b, e1, e2, e3⟩ := c_missing (hsh k0 hk0)
        rw [if_pos q2, if_pos q2, e1, p_b1, p_if]
        by_cases q3 : σ.1 21 k0 = -nI 1
        · rw [if_pos (e2.mpr q3), if_pos q3]
          exact Sim.i h
        · rw [if_neg (fun w => q3 (e2.mp w)), if_neg q3, e3]
          by_cases q4 : σ.1 21 k0 = p1
          · rw [if_pos q4, if_pos q4]
            rcases neg_or p2 with h2 | ⟨a, ha, rfl⟩
            · obtain ⟨kk, hkk⟩ := FU_of 1 (by decide)
              obtain ⟨z, hz, s2, s3, s4⟩ := hsh k0 hk0
              rw [hkk, fX8_load_b65, fX9_load_b62]
              by_cases m0 : m = 0
              · subst m0
                rw [if_pos (show nI 0 ≤ nI 0 by decide), if_pos (show nI 0 ≤ nI 0 by decide)]
                exact Sim.i h
              · rw [if_neg (show ¬ nI m ≤ nI 0 from fun e => m0 (by rw [nI_leI (by omega) (by decide)] at e; omega)), if_neg (show ¬ nI m ≤ nI 0 from fun e => m0 (by rw [nI_leI (by omega) (by decide)] at e; omega)), if_pos h2, show p2 + (2 : Int32) * nI 0 = p2 from n_add0 p2, p_lt, c_hasRun (by omega) s2, decide_eq_false (show ¬ (¬ p2 < 0) from fun e => e h2), Bool.false_and, p_b1, if_pos (show bI false = (0 : Int32) from rfl)]
                exact Sim.i h
            · obtain ⟨kk, hkk⟩ := FU_of 9 (by decide)
              rw [hkk, show kk + 9 = kk + 8 - m + m + 1 by omega]
              exact load_loop hk0 ha (by omega) m 0 (kk + 8 - m) 0 X σ h (by omega) (by omega)
          · rw [if_neg q4, if_neg q4]
            exact Sim.i h
      · rw [if_neg q2, if_neg q2]
        exact Sim.i h
    · rw [if_neg q1, if_neg (show ¬ inN p1 (1 + 1) = true from q1)]
      exact Sim.i h
  · rw [if_neg q, if_neg q]
    exact Sim.i h
