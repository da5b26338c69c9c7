/-! PURE, 18: copy, film, told, load -/
theorem n_sublt {z a c : Nat} (hz : z < 2 ^ 30) (ha : a < 2 ^ 31) (hc : c < 2 ^ 31) : (nI z - nI c < nI a) ↔ z < a + c := by
  rw [Int32.lt_iff_toInt_lt, fb_subI (by rw [nI_toInt (by omega), nI_toInt hc]; omega) (by rw [nI_toInt (by omega), nI_toInt hc]; omega), nI_toInt (by omega), nI_toInt hc, nI_toInt ha]
  omega
theorem n_suble {z b c : Nat} (hz : z < 2 ^ 30) (hb : b < 2 ^ 31) (hc : c < 2 ^ 31) : (nI c ≤ nI z - nI b) ↔ b + c ≤ z := by
  rw [Int32.le_iff_toInt_le, fb_subI (by rw [nI_toInt (by omega), nI_toInt hb]; omega) (by rw [nI_toInt (by omega), nI_toInt hb]; omega), nI_toInt hc, nI_toInt (show z < 2 ^ 31 by omega), nI_toInt hb]
  omega
theorem c_hasRun {S : Mem} {z : Nat} (hz : z < 2 ^ 30) (h : S.1 2 0 = nI z) {p q : Int32} : fX5_hasRun p q S = some (bI (decide (¬ p < 0) && (decide (¬ q < 0) && decide (p.toNatClampNeg + q.toNatClampNeg ≤ z)))) := by
  unfold fX5_hasRun
  rw [h]
  rcases neg_or p with hp | ⟨a, ha, rfl⟩
  · rw [if_pos hp, decide_eq_false (fun e => e hp)]; rfl
  · rw [if_neg (nI_pos ha), decide_eq_true (nI_pos ha), Bool.true_and]
    rcases neg_or q with hq | ⟨c, hc, rfl⟩
    · rw [if_pos hq, decide_eq_false (fun e => e hq)]; rfl
    · rw [if_neg (nI_pos hc), decide_eq_true (nI_pos hc), Bool.true_and, nI_clamp ha, nI_clamp hc]
      by_cases w : z < a + c
      · rw [if_pos ((n_sublt hz ha hc).mpr w), decide_eq_false (by omega)]; rfl
      · rw [if_neg (fun e => w ((n_sublt hz ha hc).mp e)), decide_eq_true (by omega)]; rfl
/-- the reference's copying, item by item, in the order that keeps what is still to be read -/
def cpd (it : Nat → Int32) (f t a b c : Nat) : Nat → Int32 := fun j => if 40 * t + b ≤ j ∧ j < 40 * t + b + c then it (40 * f + a + (j - (40 * t + b))) else it j
theorem r_copy {f t a b c : Nat} (hf : f < 4) (ht : t < 4) (hac : a + c ≤ 40) (hbc : b + c ≤ 40) (σ : Mem) : ∃ σ', fX9_copy_b105 FU (nI f) (nI a) (nI t) (nI b) (nI c) (nI 0) σ = some (nI c, σ') ∧ (∀ j, j ≠ 23 → σ'.1 j = σ.1 j) ∧ σ'.1 23 = cpd (σ.1 23) f t a b c := by
  obtain ⟨k0, hk0⟩ := FU_of 41 (by decide)
  by_cases hab : a ≤ b
  · have go : ∀ (d x k : Nat) (τ : Mem), x + d = c → (∀ j, j ≠ 23 → τ.1 j = σ.1 j) → (∀ j, τ.1 23 j = if 40 * t + b + (c - x) ≤ j ∧ j < 40 * t + b + c then σ.1 23 (40 * f + a + (j - (40 * t + b))) else σ.1 23 j) →
        ∃ σ', fX9_copy_b105 (k + d + 1) (nI f) (nI a) (nI t) (nI b) (nI c) (nI x) τ = some (nI c, σ') ∧ (∀ j, j ≠ 23 → σ'.1 j = σ.1 j) ∧ σ'.1 23 = cpd (σ.1 23) f t a b c := by
      intro d
      induction d with
      | zero =>
        intro x k τ hx h1 h2
        have : x = c := by omega
        subst this
        rw [fX9_copy_b105, if_pos ((nI_leI (by omega) (by omega)).mpr (Nat.le_refl _))]
        refine ⟨τ, rfl, h1, ?_⟩
        funext j
        rw [h2 j, Nat.sub_self, Nat.add_zero]
        rfl
      | succ d ih =>
        intro x k τ hx h1 h2
        rw [fX9_copy_b105]
        unfold fX9_copy_b130
        simp only [zl, p_lt, n_mul, nI_add]
        rw [if_neg (fun q => by rw [nI_leI (by omega) (by omega)] at q; omega), if_pos ((nI_leI (by omega) (by omega)).mpr hab), n_sub (by omega), n_sub (by omega), nI_add, nI_add, p_ckI (by omega) (by decide), p_ckI (by omega) (by decide), nI_clamp (by omega), nI_clamp (by omega)]
        refine ih (x + 1) k _ (by omega) (fun j hj => by rw [m_miN _ hj]; exact h1 j hj) (fun j => ?_)
        rw [m_miS]
        unfold upd
        by_cases q : j = 40 * t + b + (c - 1 - x)
        · rw [if_pos q, if_pos (by omega), h2]
          rw [show 40 * f + a + (j - (40 * t + b)) = 40 * f + a + (c - 1 - x) by omega]
          rw [if_neg (fun z => by
            have : f = t := by omega
            subst this
            omega)]
        · rw [if_neg q, h2 j]
          by_cases w : 40 * t + b + (c - x) ≤ j ∧ j < 40 * t + b + c
          · rw [if_pos w, if_pos (by omega)]
          · rw [if_neg w, if_neg (by omega)]
    rw [hk0, show k0 + 41 = k0 + 40 - c + c + 1 by omega]
    exact go c 0 (k0 + 40 - c) σ (by omega) (fun _ _ => rfl) (fun j => by rw [if_neg (by omega)])
  · have go : ∀ (d x k : Nat) (τ : Mem), x + d = c → (∀ j, j ≠ 23 → τ.1 j = σ.1 j) → (∀ j, τ.1 23 j = if 40 * t + b ≤ j ∧ j < 40 * t + b + x then σ.1 23 (40 * f + a + (j - (40 * t + b))) else σ.1 23 j) →
        ∃ σ', fX9_copy_b105 (k + d + 1) (nI f) (nI a) (nI t) (nI b) (nI c) (nI x) τ = some (nI c, σ') ∧ (∀ j, j ≠ 23 → σ'.1 j = σ.1 j) ∧ σ'.1 23 = cpd (σ.1 23) f t a b c := by
      intro d
      induction d with
      | zero =>
        intro x k τ hx h1 h2
        have : x = c := by omega
        subst this
        rw [fX9_copy_b105, if_pos ((nI_leI (by omega) (by omega)).mpr (Nat.le_refl _))]
        refine ⟨τ, rfl, h1, ?_⟩
        funext j
        rw [h2 j]
        rfl
      | succ d ih =>
        intro x k τ hx h1 h2
        rw [fX9_copy_b105]
        unfold fX9_copy_b130
        simp only [zl, p_lt, n_mul, nI_add]
        rw [if_neg (fun q => by rw [nI_leI (by omega) (by omega)] at q; omega), if_neg (fun q => by rw [nI_leI (by omega) (by omega)] at q; omega), p_ckI (by omega) (by decide), p_ckI (by omega) (by decide), nI_clamp (by omega), nI_clamp (by omega)]
        refine ih (x + 1) k _ (by omega) (fun j hj => by rw [m_miN _ hj]; exact h1 j hj) (fun j => ?_)
        rw [m_miS]
        unfold upd
        by_cases q : j = 40 * t + b + x
        · rw [if_pos q, if_pos (by omega), h2]
          rw [show 40 * f + a + (j - (40 * t + b)) = 40 * f + a + x by omega]
          rw [if_neg (fun z => by
            have : f = t := by omega
            subst this
            omega)]
        · rw [if_neg q, h2 j]
          by_cases w : 40 * t + b ≤ j ∧ j < 40 * t + b + x
          · rw [if_pos w, if_pos (by omega)]
          · rw [if_neg w, if_neg (by omega)]
    rw [hk0, show k0 + 41 = k0 + 40 - c + c + 1 by omega]
    exact go c 0 (k0 + 40 - c) σ (by omega) (fun _ _ => rfl) (fun j => by rw [if_neg (by omega)])
theorem sim_copy {X : XS} {σ : Mem} (h : Rel X σ) (p0 p1 p2 p3 p4 : Int32) : Sim (fX8_copy p0 p1 p2 p3 p4 X) (fX9_copy p0 p1 p2 p3 p4 σ) := by
  obtain ⟨-, -, -, hsh, -, -⟩ := id h
  unfold fX8_copy fX9_copy
  simp only [zl]
  rw [r_isSheet, c_sheet, c_sheet, p_b1, p_b1, p_if, p_if, p_b1, p_b1, p_if, p_if]
  by_cases q : inN p0 4 = true
  · by_cases qq : inN p2 4 = true
    · rw [if_pos q, if_pos q, if_pos qq, if_pos qq]
      obtain ⟨f, hf, -, rfl⟩ := inN_t q
      obtain ⟨t, ht, -, rfl⟩ := inN_t qq
      have k1 : ∀ z : Option (Int32 × XS), ckI (nI f) 4 z = z := fun z => p_ckI (by omega) (by decide)
      have k2 : ∀ z : Option (Int32 × Mem), ckI (nI f) 4 z = z := fun z => p_ckI (by omega) (by decide)
      have k3 : ∀ z : Option (Int32 × XS), ckI (nI t) 4 z = z := fun z => p_ckI (by omega) (by decide)
      have k4 : ∀ z : Option (Int32 × Mem), ckI (nI t) 4 z = z := fun z => p_ckI (by omega) (by decide)
      simp only [k1, k2, k3, k4, p_lt, nI_clamp (show f < 2 ^ 31 by omega), nI_clamp (show t < 2 ^ 31 by omega)]
      obtain ⟨b1, e1, e2, e3⟩ := c_missing (hsh f hf)
      obtain ⟨b2, g1, g2, g3⟩ := c_missing (hsh t ht)
      obtain ⟨zf, hzf, f2, f3, f4⟩ := hsh f hf
      obtain ⟨zt, hzt, t2, t3, t4⟩ := hsh t ht
      rw [e1, p_b1, p_if, g1, p_b1, p_if, e3, g3]
      by_cases q1 : σ.1 21 f = -nI 1
      · rw [if_pos (e2.mpr q1), if_pos q1]
        exact Sim.i h
      · rw [if_neg (fun w => q1 (e2.mp w)), if_neg q1]
        by_cases q2 : σ.1 21 t = -nI 1
        · rw [if_pos (g2.mpr q2), if_pos q2]
          exact Sim.i h
        · rw [if_neg (fun w => q2 (g2.mp w)), if_neg q2]
          by_cases q3 : σ.1 21 f = σ.1 21 t
          · rw [if_pos q3, if_pos q3, c_hasRun (by omega) f2, p_b1, p_if, c_hasRun (by omega) t2, p_b1, p_if, f3, t3]
            rcases neg_or p4 with h4 | ⟨c, hc, rfl⟩
            · rw [if_pos (show p4 < nI 0 from h4), decide_eq_false (show ¬ (¬ p4 < 0) from fun e => e h4), Bool.false_and, Bool.and_false, if_neg (show ¬ (false = true) by decide)]
              exact Sim.i h
            · rw [if_neg (z_neg hc)]
              rcases neg_or p1 with h1 | ⟨a, ha, rfl⟩
              · rw [if_pos (show p1 < nI 0 from h1), decide_eq_false (show ¬ (¬ p1 < 0) from fun e => e h1), Bool.false_and, if_neg (show ¬ (false = true) by decide)]
                exact Sim.i h
              · rw [if_neg (z_neg ha)]
                rcases neg_or p3 with h3 | ⟨b, hb, rfl⟩
                · rw [if_pos (show p3 < nI 0 from h3), decide_eq_false (show ¬ (¬ p3 < 0) from fun e => e h3), Bool.false_and, if_neg (show ¬ (false = true) by decide)]
                  split
                  · exact Sim.i h
                  · exact Sim.i h
                · rw [if_neg (z_neg hb), decide_eq_true (nI_pos ha), decide_eq_true (nI_pos hb), decide_eq_true (nI_pos hc), nI_clamp ha, nI_clamp hb, nI_clamp hc, Bool.true_and, Bool.true_and, Bool.true_and, Bool.true_and]
                  by_cases w1 : a + c ≤ zf
                  · rw [if_pos (decide_eq_true w1), if_neg (show ¬ nI zf - nI a < nI c from fun e => by rw [n_sublt (by omega) hc ha] at e; omega)]
                    by_cases w2 : b + c ≤ zt
                    · rw [if_pos (decide_eq_true w2), if_pos ((n_suble (by omega) hb hc).mpr w2), p_ckP (decide_eq_true ⟨nI_pos ha, nI_pos hb, nI_pos hc, by omega, by omega⟩)]
                      obtain ⟨σ', r1, r2, r3⟩ := r_copy hf ht (show a + c ≤ 40 by omega) (show b + c ≤ 40 by omega) σ
                      rw [r1]
                      refine Sim.i (h.sheets (fun k hk _ _ _ _ => m_xsN _ (by omega) _) (by rw [m_xsN _ (by omega)]; exact samN.rf _) (fun k hk => r2 k (by omega)) (hsh.set (k0 := t) (fun k hk hne => m_xsN _ (by omega) _) (fun k hk hne => by rw [r2 21 (by decide)]) (fun k hk hne => by rw [r2 22 (by decide)]) (fun k hk hne i hi => by
                        rw [r3]; unfold cpd; rw [if_neg (by omega)]) ?_))
                      rw [m_xsS, r2 21 (by decide), r2 22 (by decide)]
                      refine ⟨zt, hzt, by rw [m_mrN _ (by decide)]; exact t2, t3, ?_⟩
                      have val : ∀ i, i < zt → (mr (X (11 + t)) 0 (va_cpy ((X (11 + f)).1 0) ((X (11 + t)).1 0) a b c)).1 0 i = if b ≤ i ∧ i < b + c then (X (11 + f)).1 0 (a + (i - b)) else (X (11 + t)).1 0 i := fun i hi => by
                        rw [m_mrS]; rfl
                      have vr : ∀ i, i < zt → σ'.1 23 (40 * t + i) = if b ≤ i ∧ i < b + c then σ.1 23 (40 * f + (a + (i - b))) else σ.1 23 (40 * t + i) := fun i hi => by
                        rw [r3]
                        unfold cpd
                        by_cases w : b ≤ i ∧ i < b + c
                        · rw [if_pos (by omega), if_pos w, show 40 * f + a + (40 * t + i - (40 * t + b)) = 40 * f + (a + (i - b)) by omega]
                        · rw [if_neg (by omega), if_neg w]
                      rcases t4 with ⟨x1, x2, x3⟩ | ⟨x1, x2, x3⟩ | ⟨x1, x2, x3⟩
                      · exact absurd x2 q2
                      · refine Or.inr (Or.inl ⟨by rw [m_mrN _ (by decide)]; exact x1, x2, fun i hi => ?_⟩)
                        rw [val i hi, vr i hi]
                        rcases f4 with ⟨y1, y2, y3⟩ | ⟨y1, y2, y3⟩ | ⟨y1, y2, y3⟩
                        · exact absurd y2 q1
                        · by_cases w : b ≤ i ∧ i < b + c
                          · rw [if_pos w, if_pos w]; exact y3 _ (by omega)
                          · rw [if_neg w, if_neg w]; exact x3 i hi
                        · rw [y2, x2] at q3; exact absurd q3 (by decide)
                      · refine Or.inr (Or.inr ⟨by rw [m_mrN _ (by decide)]; exact x1, x2, fun i hi => ?_⟩)
                        rw [val i hi, vr i hi]
                        rcases f4 with ⟨y1, y2, y3⟩ | ⟨y1, y2, y3⟩ | ⟨y1, y2, y3⟩
                        · exact absurd y2 q1
                        · rw [y2, x2] at q3; exact absurd q3 (by decide)
                        · by_cases w : b ≤ i ∧ i < b + c
                          · rw [if_pos w, if_pos w]; exact y3 _ (by omega)
                          · rw [if_neg w, if_neg w]; exact x3 i hi
                    · rw [if_neg (show ¬ decide (b + c ≤ zt) = true by simpa using w2), if_neg (show ¬ nI c ≤ nI zt - nI b from fun e => w2 ((n_suble (by omega) hb hc).mp e))]
                      exact Sim.i h
                  · rw [if_neg (show ¬ decide (a + c ≤ zf) = true by simpa using w1), if_pos ((n_sublt (by omega) hc ha).mpr (by omega))]
                    exact Sim.i h
          · rw [if_neg q3, if_neg q3]
            exact Sim.i h
    · rw [if_pos q, if_pos q, if_neg qq, if_neg qq]
      exact Sim.i h
  · rw [if_neg q, if_neg q]
    exact Sim.i h
/-! xy -/
theorem c_xy {xy : Nat} (h : xy < 256) : fX8_xFrom (nI xy) = some (nI (xy / 16)) ∧ fX8_yFrom (nI xy) = some (nI (xy % 16)) := by
  constructor
  · unfold fX8_xFrom
    simp only [zl]
    rw [n_shr (by omega) (by decide), Nat.shiftRight_eq_div_pow]
  · unfold fX8_yFrom
    rw [show (15 : Int32) = nI (2 ^ 4 - 1) from rfl, fa_mask]
theorem c_code (p : Int32) : fX8_isChangeCode p = some (bI (inN p 256 && !(decide (p.toNatClampNeg / 16 = p.toNatClampNeg % 16)))) := by
  unfold fX8_isChangeCode
  simp only [zl]
  rw [c_within0 p (by decide), p_b1, p_if]
  by_cases q : inN p (255 + 1) = true
  · obtain ⟨xy, hxy, hx2, rfl⟩ := inN_t q
    rw [if_pos q, (c_xy hxy).1, p_b1, (c_xy hxy).2, p_b1, i_eqP (by omega) (by omega), nI_clamp hx2, show inN (nI xy) 256 = true from q, Bool.true_and]
    by_cases z : xy / 16 = xy % 16
    · rw [if_pos z, decide_eq_true z]; rfl
    · rw [if_neg z, decide_eq_false z]; rfl
  · rw [if_neg q, show inN p 256 = false from ts_nt q]; rfl
theorem r_code (p : Int32) : fX9_isXy p = some (bI (inN p 256 && !(decide (p.toNatClampNeg / 16 = p.toNatClampNeg % 16)))) := by
  have k16 : ∀ z : Option Int32, ck0 (nI 16) z = z := fun z => p_ck0 (by decide) (by decide)
  unfold fX9_isXy
  simp only [zl, k16]
  rw [r_isIn, c_within0 p (by decide), p_b1, p_if]
  by_cases q : inN p (255 + 1) = true
  · obtain ⟨xy, hxy, hx2, rfl⟩ := inN_t q
    rw [if_pos q, n_rem16 (by omega), n_div16 (by omega), i_eqP (by omega) (by omega), nI_clamp hx2, show inN (nI xy) 256 = true from q, Bool.true_and]
    by_cases z : xy / 16 = xy % 16
    · rw [if_pos z, decide_eq_true z]; rfl
    · rw [if_neg z, decide_eq_false z]; rfl
  · rw [if_neg q, show inN p 256 = false from ts_nt q]; rfl
