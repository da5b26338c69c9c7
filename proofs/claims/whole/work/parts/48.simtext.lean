/-! PURE, 28: a gate more -/
def ext (f : Nat → Nat) (n v : Nat) : Nat → Nat := fun i => if i = n then v else f i
theorem ext_s (f : Nat → Nat) (n v : Nat) : ext f n v n = v := if_pos rfl
theorem ext_n (f : Nat → Nat) {n i : Nat} (v : Nat) (h : i ≠ n) : ext f n v i = f i := if_neg h
theorem netOK_ext {n : Nat} {K A B W : Nat → Nat} (hN : netOK n K A B W) (h12 : n < 12) {k a b v : Nat} (hk : k < 6) (ha : a < 4 + n) (hb : b < 4 + n) (hv : 1 ≤ v) (hv9 : v ≤ 9) : netOK (n + 1) (ext K n k) (ext A n a) (ext B n b) (ext W n v) := by
  refine ⟨by omega, fun g hg => ?_⟩
  by_cases q : g = n
  · rw [q, ext_s, ext_s, ext_s, ext_s]
    exact ⟨hk, ha, hb, hv, hv9⟩
  · rw [ext_n _ _ q, ext_n _ _ q, ext_n _ _ q, ext_n _ _ q]
    exact hN.2 g (by omega)
theorem c_app3 {n : Nat} {K A B W : Nat → Nat} {N : Mem} (hr : R_net n K A B W N) (h12 : n < 12) (k a b v : Nat) : ∃ N', fX3_append (nI k) (src a) (src b) (nI v) N = some N' ∧ R_net (n + 1) (ext K n k) (ext A n a) (ext B n b) (ext W n v) N' := by
  have k1 : ∀ z : Option Mem, ckI (nI n) 12 z = z := fun z => p_ckI h12 (by decide)
  obtain ⟨hr0, hr1, hr2⟩ := hr
  unfold fX3_append
  simp only [zl]
  rw [c_full3 (by omega) hr0, p_b1, p_if, if_neg (show ¬ decide (12 ≤ n) = true from fun z => by have := of_decide_eq_true z; omega)]
  simp (disch := decide) only [m_miN, hr0, k1, p_lt, nI_clamp (show n < 2 ^ 31 by omega), nI_add]
  refine ⟨_, rfl, ?_, fun g hg => ?_, fun m hm => ?_⟩
  · rw [m_miS, m_uS]
  · simp (disch := decide) only [m_miN, m_miS]
    by_cases q : g = n
    · rw [q, ext_s, ext_s, ext_s, ext_s, m_uS, m_uS, m_uS, m_uS]
      exact ⟨rfl, rfl, rfl, rfl⟩
    · rw [ext_n _ _ q, ext_n _ _ q, ext_n _ _ q, ext_n _ _ q, m_uN _ q, m_uN _ q, m_uN _ q, m_uN _ q]
      exact hr1 g (by omega)
  · simp (disch := decide) only [m_miN]
    exact hr2 m hm
theorem text_step {σ : Mem} {n x : Nat} (h12 : n < 12) (h0 : σ.1 0 0 = nI n) (hx : x < 4) (k : Nat) : fX9_text_b38 (k + 1) (nI x) σ = fX9_text_b38 k (nI (x + 1)) (mi σ 0 (2 + 4 * n + x) (σ.1 11 x)) := by
  rw [fX9_text_b38]
  simp only [zl, p_lt, nI_clamp (show 0 < 2 ^ 31 by decide), h0, n_mul, nI_add]
  rw [if_neg (show ¬ nI 4 ≤ nI x from fun q => by rw [nI_leI (by omega) (by omega)] at q; omega), p_ckI (show 0 < 66 by decide) (by decide), p_ckI hx (by decide), p_ckI (show 2 + 4 * n + x < 66 by omega) (by decide), nI_clamp (by omega), nI_clamp (by omega)]
theorem text_end {σ : Mem} {n : Nat} (h0 : σ.1 0 0 = nI n) (k : Nat) : fX9_text_b38 (k + 1) (nI 4) σ = b1 (fX9_does (nI 0) (nI 0) (nI 0) (nI 0) (mi σ 0 0 (nI (n + 1)))) fun t0 => some (t0.1 0 0 - nI 1, t0) := by
  have k1 : ∀ z : Option (Int32 × Mem), ckI (nI 0) 66 z = z := fun z => p_ckI (by decide) (by decide)
  rw [fX9_text_b38]
  simp only [zl, p_lt, nI_clamp (show 0 < 2 ^ 31 by decide), h0, nI_add, k1]
  rw [if_pos (show nI 4 ≤ nI 4 by decide)]
theorem r_text {σ : Mem} {n : Nat} {K A B W : Nat → Nat} (hs : R_ref n K A B W (σ.1 0)) (h12 : n < 12) {k a b v : Nat} (q0 : σ.1 11 0 = nI k) (q1 : σ.1 11 1 = src a) (q2 : σ.1 11 2 = src b) (q3 : σ.1 11 3 = nI v) :
    ∃ σ', fX9_text_b38 FU (nI 0) σ = (b1 (fX9_does (nI 0) (nI 0) (nI 0) (nI 0) σ') fun t0 => some (t0.1 0 0 - nI 1, t0)) ∧ R_ref (n + 1) (ext K n k) (ext A n a) (ext B n b) (ext W n v) (σ'.1 0) ∧ (∀ j, j ≠ 0 → σ'.1 j = σ.1 j) ∧ (σ'.1 0 1 = σ.1 0 1) ∧ ∀ i, 50 ≤ i → σ'.1 0 i = σ.1 0 i := by
  obtain ⟨kk, hkk⟩ := FU_of 5 (by decide)
  have e0 : (mi σ 0 (2 + 4 * n + 0) (nI k)).1 0 0 = nI n := by rw [m_miS, m_uN _ (by omega)]; exact hs.1
  have e1 : (mi (mi σ 0 (2 + 4 * n + 0) (nI k)) 0 (2 + 4 * n + 1) (src a)).1 0 0 = nI n := by rw [m_miS, m_uN _ (by omega)]; exact e0
  have e2 : (mi (mi (mi σ 0 (2 + 4 * n + 0) (nI k)) 0 (2 + 4 * n + 1) (src a)) 0 (2 + 4 * n + 2) (src b)).1 0 0 = nI n := by rw [m_miS, m_uN _ (by omega)]; exact e1
  have e3 : (mi (mi (mi (mi σ 0 (2 + 4 * n + 0) (nI k)) 0 (2 + 4 * n + 1) (src a)) 0 (2 + 4 * n + 2) (src b)) 0 (2 + 4 * n + 3) (nI v)).1 0 0 = nI n := by rw [m_miS, m_uN _ (by omega)]; exact e2
  refine ⟨mi (mi (mi (mi (mi σ 0 (2 + 4 * n + 0) (nI k)) 0 (2 + 4 * n + 1) (src a)) 0 (2 + 4 * n + 2) (src b)) 0 (2 + 4 * n + 3) (nI v)) 0 0 (nI (n + 1)), ?_, ?_, fun j hj => ?_, ?_, fun i hi => ?_⟩
  · rw [hkk, show kk + 5 = kk + 4 + 1 from rfl, text_step h12 hs.1 (by decide), q0, show kk + 4 = kk + 3 + 1 from rfl, text_step h12 e0 (by decide), m_miN _ (show 11 ≠ 0 by decide), q1, show kk + 3 = kk + 2 + 1 from rfl, text_step h12 e1 (by decide), m_miN _ (show 11 ≠ 0 by decide), m_miN _ (show 11 ≠ 0 by decide), q2, show kk + 2 = kk + 1 + 1 from rfl, text_step h12 e2 (by decide), m_miN _ (show 11 ≠ 0 by decide), m_miN _ (show 11 ≠ 0 by decide), m_miN _ (show 11 ≠ 0 by decide), q3]
    exact text_end e3 kk
  · rw [m_miS, m_miS, m_miS, m_miS, m_miS]
    refine ⟨by rw [m_uS], fun g hg => ?_⟩
    by_cases q : g = n
    · rw [q, ext_s, ext_s, ext_s, ext_s]
      refine ⟨?_, ?_, ?_, ?_⟩
      · rw [m_uN _ (by omega), m_uN _ (by omega), m_uN _ (by omega), m_uN _ (by omega)]
        exact m_uS _ _ _
      · rw [m_uN _ (by omega), m_uN _ (by omega), m_uN _ (by omega), m_uS]
      · rw [m_uN _ (by omega), m_uN _ (by omega), m_uS]
      · rw [m_uN _ (by omega), m_uS]
    · obtain ⟨y0, y1, y2, y3⟩ := hs.2 g (by omega)
      rw [ext_n _ _ q, ext_n _ _ q, ext_n _ _ q, ext_n _ _ q]
      have far : ∀ i, i ≠ 0 → i ≠ 2 + 4 * n + 3 → i ≠ 2 + 4 * n + 2 → i ≠ 2 + 4 * n + 1 → i ≠ 2 + 4 * n + 0 → upd (upd (upd (upd (upd (σ.1 0) (2 + 4 * n + 0) (nI k)) (2 + 4 * n + 1) (src a)) (2 + 4 * n + 2) (src b)) (2 + 4 * n + 3) (nI v)) 0 (nI (n + 1)) i = σ.1 0 i := fun i f0 f1 f2 f3 f4 => by
        rw [m_uN _ f0, m_uN _ f1, m_uN _ f2, m_uN _ f3, m_uN _ f4]
      rw [far (2 + 4 * g) (by omega) (by omega) (by omega) (by omega) (by omega), far (2 + 4 * g + 1) (by omega) (by omega) (by omega) (by omega) (by omega), far (2 + 4 * g + 2) (by omega) (by omega) (by omega) (by omega) (by omega), far (2 + 4 * g + 3) (by omega) (by omega) (by omega) (by omega) (by omega)]
      exact ⟨y0, y1, y2, y3⟩
  · rw [m_miN _ hj, m_miN _ hj, m_miN _ hj, m_miN _ hj, m_miN _ hj]
  · rw [m_miS, m_miS, m_miS, m_miS, m_miS, m_uN _ (by omega), m_uN _ (by omega), m_uN _ (by omega), m_uN _ (by omega), m_uN _ (by omega)]
  · rw [m_miS, m_miS, m_miS, m_miS, m_miS, m_uN _ (by omega), m_uN _ (by omega), m_uN _ (by omega), m_uN _ (by omega), m_uN _ (by omega)]
