/-! PURE, 23: a piece of the tape -/
def tpe (t : Nat) (T : Nat → Nat) (N : Mem) : Prop := t ≤ 30 ∧ N.1 1 0 = nI t ∧ ∀ i, i < t → N.1 0 i = nI (T i) ∧ T i < 256
def tpr (t : Nat) (T : Nat → Nat) (σ : Mem) : Prop := t ≤ 30 ∧ σ.1 6 0 = nI t ∧ ∀ i, i < t → σ.1 5 i = nI (T i) ∧ T i < 256
def isL (t : Nat) (T : Nat → Nat) (i : Nat) : Bool := decide (i < t) && (decide (97 ≤ T i) && decide (T i ≤ 122))
def isD (t : Nat) (T : Nat → Nat) (i : Nat) : Bool := decide (i < t) && (decide (48 ≤ T i) && decide (T i ≤ 57))
theorem c_letter {t : Nat} {T : Nat → Nat} {N : Mem} (h : tpe t T N) {i : Nat} (hi : i ≤ 30) : fX6_hasLetter (nI i) N = some (bI (isL t T i)) := by
  obtain ⟨ht, h1, h2⟩ := h
  unfold fX6_hasLetter isL
  simp only [zl]
  rw [h1, i_leP (a := t) (b := i) (by omega) (by omega)]
  by_cases q : t ≤ i
  · rw [if_pos q, decide_eq_false (show ¬ i < t by omega)]
    rfl
  · obtain ⟨a, b⟩ := h2 i (by omega)
    rw [if_neg q, decide_eq_true (show i < t by omega), p_ckI (show i < 30 by omega) (by decide), p_ckI (show i < 30 by omega) (by decide), nI_clamp (by omega), a, i_ltP (a := T i) (b := 97) (by omega) (by decide), i_ltP (a := 122) (b := T i) (by decide) (by omega)]
    by_cases w1 : T i < 97
    · rw [if_pos w1, decide_eq_false (show ¬ 97 ≤ T i by omega)]
      rfl
    · rw [if_neg w1, decide_eq_true (show 97 ≤ T i by omega)]
      by_cases w2 : 122 < T i
      · rw [if_pos w2, decide_eq_false (show ¬ T i ≤ 122 by omega)]
        rfl
      · rw [if_neg w2, decide_eq_true (show T i ≤ 122 by omega)]
        rfl
theorem c_digit {t : Nat} {T : Nat → Nat} {N : Mem} (h : tpe t T N) {i : Nat} (hi : i ≤ 30) : fX6_hasDigit (nI i) N = some (bI (isD t T i)) := by
  obtain ⟨ht, h1, h2⟩ := h
  unfold fX6_hasDigit isD
  simp only [zl]
  rw [h1, i_leP (a := t) (b := i) (by omega) (by omega)]
  by_cases q : t ≤ i
  · rw [if_pos q, decide_eq_false (show ¬ i < t by omega)]
    rfl
  · obtain ⟨a, b⟩ := h2 i (by omega)
    rw [if_neg q, decide_eq_true (show i < t by omega), p_ckI (show i < 30 by omega) (by decide), p_ckI (show i < 30 by omega) (by decide), nI_clamp (by omega), a, i_ltP (a := T i) (b := 48) (by omega) (by decide), i_ltP (a := 57) (b := T i) (by decide) (by omega)]
    by_cases w1 : T i < 48
    · rw [if_pos w1, decide_eq_false (show ¬ 48 ≤ T i by omega)]
      rfl
    · rw [if_neg w1, decide_eq_true (show 48 ≤ T i by omega)]
      by_cases w2 : 57 < T i
      · rw [if_pos w2, decide_eq_false (show ¬ T i ≤ 57 by omega)]
        rfl
      · rw [if_neg w2, decide_eq_true (show T i ≤ 57 by omega)]
        rfl
theorem r_letter {t : Nat} {T : Nat → Nat} {σ : Mem} (h : tpr t T σ) {i : Nat} (hi : i ≤ 30) : fX9_isLetter (nI i) σ = some (bI (isL t T i)) := by
  obtain ⟨ht, h1, h2⟩ := h
  unfold fX9_isLetter isL
  simp only [zl]
  rw [h1, i_leP (a := t) (b := i) (by omega) (by omega)]
  by_cases q : t ≤ i
  · rw [if_pos q, decide_eq_false (show ¬ i < t by omega)]
    rfl
  · obtain ⟨a, b⟩ := h2 i (by omega)
    rw [if_neg q, decide_eq_true (show i < t by omega), p_ckI (show i < 30 by omega) (by decide), nI_clamp (by omega), a, r_isIn, c_within _ (by decide) (by decide), p_b1, p_if, inN_nI (by omega), inN_nI (by omega)]
    by_cases w1 : T i < 97
    · rw [decide_eq_true w1, decide_eq_false (show ¬ 97 ≤ T i by omega), if_neg (by simp)]
      rfl
    · rw [decide_eq_false w1, decide_eq_true (show 97 ≤ T i by omega)]
      by_cases w2 : 122 < T i
      · rw [decide_eq_false (show ¬ T i < 122 + 1 by omega), decide_eq_false (show ¬ T i ≤ 122 by omega)]
        rfl
      · rw [decide_eq_true (show T i < 122 + 1 by omega), decide_eq_true (show T i ≤ 122 by omega)]
        rfl
theorem r_digit {t : Nat} {T : Nat → Nat} {σ : Mem} (h : tpr t T σ) {i : Nat} (hi : i ≤ 30) : fX9_isDigit (nI i) σ = some (bI (isD t T i)) := by
  obtain ⟨ht, h1, h2⟩ := h
  unfold fX9_isDigit isD
  simp only [zl]
  rw [h1, i_leP (a := t) (b := i) (by omega) (by omega)]
  by_cases q : t ≤ i
  · rw [if_pos q, decide_eq_false (show ¬ i < t by omega)]
    rfl
  · obtain ⟨a, b⟩ := h2 i (by omega)
    rw [if_neg q, decide_eq_true (show i < t by omega), p_ckI (show i < 30 by omega) (by decide), nI_clamp (by omega), a, r_isIn, c_within _ (by decide) (by decide), p_b1, p_if, inN_nI (by omega), inN_nI (by omega)]
    by_cases w1 : T i < 48
    · rw [decide_eq_true w1, decide_eq_false (show ¬ 48 ≤ T i by omega), if_neg (by simp)]
      rfl
    · rw [decide_eq_false w1, decide_eq_true (show 48 ≤ T i by omega)]
      by_cases w2 : 57 < T i
      · rw [decide_eq_false (show ¬ T i < 57 + 1 by omega), decide_eq_false (show ¬ T i ≤ 57 by omega)]
        rfl
      · rw [decide_eq_true (show T i < 57 + 1 by omega), decide_eq_true (show T i ≤ 57 by omega)]
        rfl
theorem isL_t {t : Nat} {T : Nat → Nat} {i : Nat} (h : t ≤ i) : isL t T i = false := by unfold isL; rw [decide_eq_false (by omega)]; rfl
theorem isD_t {t : Nat} {T : Nat → Nat} {i : Nat} (h : t ≤ i) : isD t T i = false := by unfold isD; rw [decide_eq_false (by omega)]; rfl
theorem isL_v {t : Nat} {T : Nat → Nat} {i : Nat} (h : isL t T i = true) : i < t ∧ 97 ≤ T i ∧ T i ≤ 122 := by
  unfold isL at h
  obtain ⟨a, b, c⟩ := and3 h
  exact ⟨of_decide_eq_true a, of_decide_eq_true b, of_decide_eq_true c⟩
theorem isD_v {t : Nat} {T : Nat → Nat} {i : Nat} (h : isD t T i = true) : i < t ∧ 48 ≤ T i ∧ T i ≤ 57 := by
  unfold isD at h
  obtain ⟨a, b, c⟩ := and3 h
  exact ⟨of_decide_eq_true a, of_decide_eq_true b, of_decide_eq_true c⟩
theorem tpr.same {t : Nat} {T : Nat → Nat} {σ σ' : Mem} (h : tpr t T σ) (h5 : σ'.1 5 = σ.1 5) (h6 : σ'.1 6 = σ.1 6) : tpr t T σ' := by
  obtain ⟨a, b, c⟩ := h
  exact ⟨a, by rw [h6]; exact b, fun i hi => by rw [h5]; exact c i hi⟩
theorem c_blank {t : Nat} {T : Nat → Nat} {N : Mem} (h : tpe t T N) {i : Nat} (hi : i < t) : fX6_hasBlank (nI i) N = some (bI (decide (T i = 32))) := by
  obtain ⟨ht, h1, h2⟩ := h
  obtain ⟨a, b⟩ := h2 i hi
  unfold fX6_hasBlank
  simp only [zl]
  rw [h1, if_neg (show ¬ nI t ≤ nI i from fun q => by rw [nI_leI (by omega) (by omega)] at q; omega), p_ckI (show i < 30 by omega) (by decide), nI_clamp (by omega), a, i_eqP (a := T i) (b := 32) (by omega) (by decide)]
  by_cases w : T i = 32
  · rw [if_pos w, decide_eq_true w]
    rfl
  · rw [if_neg w, decide_eq_false w]
    rfl
theorem both_skip {t : Nat} {T : Nat → Nat} {N : Mem} (h : tpe t T N) : ∀ (d p k : Nat) (s0 σ : Mem), p + d = t → s0.1 4 0 = nI p → tpr t T σ → σ.1 7 0 = nI p →
    ∃ s s1 σ1, s ≤ t ∧ fX2_nextPiece_b8 N (k + d + 1) s0 = fX2_nextPiece_b43 N s1 ∧ fX9_next_b0 (k + d + 1) σ = fX9_next_b38 σ1 ∧ s1.1 4 0 = nI s ∧ (∀ j, j ≠ 4 → s1.1 j = s0.1 j) ∧ σ1.1 7 0 = nI s ∧ (∀ j, j ≠ 7 → σ1.1 j = σ.1 j) := by
  intro d
  induction d with
  | zero =>
    intro p k s0 σ hp h4 hr h7
    have ht := h.1
    have : p = t := by omega
    subst this
    refine ⟨p, s0, σ, Nat.le_refl _, ?_, ?_, h4, fun _ _ => rfl, h7, fun _ _ => rfl⟩
    · rw [fX2_nextPiece_b8, h.2.1, h4, if_pos ((nI_leI (by omega) (by omega)).mpr (Nat.le_refl _))]
    · rw [fX9_next_b0, hr.2.1, h7, if_pos ((nI_leI (by omega) (by omega)).mpr (Nat.le_refl _))]
  | succ d ih =>
    intro p k s0 σ hp h4 hr h7
    have ht := h.1
    have c1 : fX2_nextPiece_b8 N (k + (d + 1) + 1) s0 = if T p = 32 then fX2_nextPiece_b8 N (k + d + 1) (mi s0 4 0 (nI (p + 1))) else fX2_nextPiece_b43 N s0 := by
      rw [fX2_nextPiece_b8, h.2.1, h4, if_neg (show ¬ nI t ≤ nI p from fun q => by rw [nI_leI (by omega) (by omega)] at q; omega), c_blank h (show p < t by omega), p_b1]
      simp only [zl, nI_add]
      rw [p_if]
      by_cases w : T p = 32
      · rw [if_pos (decide_eq_true w), if_pos w]
        rfl
      · rw [if_neg (show ¬ decide (T p = 32) = true by simpa using w), if_neg w]
    have c2 : fX9_next_b0 (k + (d + 1) + 1) σ = if T p = 32 then fX9_next_b0 (k + d + 1) (mi σ 7 0 (nI (p + 1))) else fX9_next_b38 σ := by
      obtain ⟨x, y⟩ := hr.2.2 p (by omega)
      rw [fX9_next_b0, hr.2.1, h7, if_neg (show ¬ nI t ≤ nI p from fun q => by rw [nI_leI (by omega) (by omega)] at q; omega), p_ckI (show p < 30 by omega) (by decide), nI_clamp (by omega), x]
      simp only [zl, nI_add, p_lt]
      rw [i_eqP (a := T p) (b := 32) (by omega) (by decide)]
      try rfl
    rw [c1, c2]
    by_cases w : T p = 32
    · rw [if_pos w, if_pos w]
      obtain ⟨s, s1, σ1, i1, i2, i3, i4, i5, i6, i7⟩ := ih (p + 1) k (mi s0 4 0 (nI (p + 1))) (mi σ 7 0 (nI (p + 1))) (by omega) (by rw [m_miS, m_uS]) (hr.same (by rw [m_miN _ (by decide)]) (by rw [m_miN _ (by decide)])) (by rw [m_miS, m_uS])
      exact ⟨s, s1, σ1, i1, i2, i3, i4, fun j hj => by rw [i5 j hj, m_miN _ hj], i6, fun j hj => by rw [i7 j hj, m_miN _ hj]⟩
    · rw [if_neg w, if_neg w]
      exact ⟨p, s0, σ, by omega, rfl, rfl, h4, fun _ _ => rfl, h7, fun _ _ => rfl⟩
theorem both_letters {t : Nat} {T : Nat → Nat} {N : Mem} (h : tpe t T N) : ∀ (d x k k2 : Nat) (σ : Mem), x + d = t → tpr t T σ → σ.1 7 0 = nI x → σ.1 9 0 = nI 1 →
    ∃ e σ', fX6_endOfPiece_b27 N (k + d + 1) (nI 1) (nI 0) (nI x) = some (nI e) ∧ fX9_next_b96 (k2 + d + 1) σ = some σ' ∧ x ≤ e ∧ e ≤ t ∧ (∀ i, x ≤ i → i < e → isL t T i = true) ∧ (∀ j, j ≠ 7 → σ'.1 j = σ.1 j) ∧ σ'.1 7 0 = nI e := by
  have stop : ∀ (x k2 : Nat) (σ : Mem), x ≤ t → tpr t T σ → σ.1 7 0 = nI x → σ.1 9 0 = nI 1 → isL t T x = false → fX9_next_b96 (k2 + 1) σ = some σ := by
    intro x k2 σ hx hr h7 h9 hl
    have ht := h.1
    rw [fX9_next_b96]
    unfold fX9_next_b115
    simp only [zl]
    rw [h9, if_pos (rfl : nI 1 = nI 1), h7, r_letter hr (by omega), p_b1, p_if, hl, if_neg (show ¬ (false = true) by decide), if_neg (show ¬ nI 1 = nI 2 by decide)]
  intro d
  induction d with
  | zero =>
    intro x k k2 σ hx hr h7 h9
    have ht := h.1
    have : x = t := by omega
    subst this
    refine ⟨x, σ, ?_, stop x _ σ (Nat.le_refl _) hr h7 h9 (isL_t (Nat.le_refl _)), Nat.le_refl _, Nat.le_refl _, fun i _ _ => by omega, fun _ _ => rfl, h7⟩
    rw [fX6_endOfPiece_b27, h.2.1, if_pos ((nI_leI (by omega) (by omega)).mpr (Nat.le_refl _))]
  | succ d ih =>
    intro x k k2 σ hx hr h7 h9
    have ht := h.1
    by_cases w : isL t T x = true
    · obtain ⟨e, σ', i1, i2, i3, i4, i5, i6, i7⟩ := ih (x + 1) k k2 (mi σ 7 0 (nI (x + 1))) (by omega) (hr.same (by rw [m_miN _ (by decide)]) (by rw [m_miN _ (by decide)])) (by rw [m_miS, m_uS]) (by rw [m_miN _ (by decide)]; exact h9)
      refine ⟨e, σ', ?_, ?_, by omega, i4, fun i a b => ?_, fun j hj => by rw [i6 j hj, m_miN _ hj], i7⟩
      · rw [fX6_endOfPiece_b27, h.2.1, if_neg (show ¬ nI t ≤ nI x from fun q => by rw [nI_leI (by omega) (by omega)] at q; omega)]
        unfold fX6_endOfPiece_b62
        simp only [zl, p_lt, nI_add]
        rw [if_neg (show ¬ nI 1 = nI 0 by decide), c_letter h (by omega), p_b1, p_if, w, if_pos (rfl : true = true)]
        exact i1
      · rw [fX9_next_b96]
        unfold fX9_next_b134
        simp only [zl, p_lt]
        rw [h9, if_pos (rfl : nI 1 = nI 1), h7, r_letter hr (by omega), p_b1, p_if, w, if_pos (rfl : true = true), nI_add]
        exact i2
      · by_cases z : i = x
        · rw [z]; exact w
        · exact i5 i (by omega) b
    · refine ⟨x, σ, ?_, stop x _ σ (by omega) hr h7 h9 (ts_nt w), Nat.le_refl _, by omega, fun i _ _ => by omega, fun _ _ => rfl, h7⟩
      rw [fX6_endOfPiece_b27, h.2.1, if_neg (show ¬ nI t ≤ nI x from fun q => by rw [nI_leI (by omega) (by omega)] at q; omega)]
      unfold fX6_endOfPiece_b49
      simp only [zl]
      rw [if_neg (show ¬ nI 1 = nI 0 by decide), c_letter h (by omega), p_b1, p_if, if_neg w, if_pos trivial]
theorem both_digits {t : Nat} {T : Nat → Nat} {N : Mem} (h : tpe t T N) : ∀ (d x k k2 : Nat) (σ : Mem), x + d = t → tpr t T σ → σ.1 7 0 = nI x → σ.1 9 0 = nI 2 →
    ∃ e σ', fX6_endOfPiece_b27 N (k + d + 1) (nI 0) (nI 1) (nI x) = some (nI e) ∧ fX9_next_b96 (k2 + d + 1) σ = some σ' ∧ x ≤ e ∧ e ≤ t ∧ (∀ i, x ≤ i → i < e → isD t T i = true) ∧ (∀ j, j ≠ 7 → σ'.1 j = σ.1 j) ∧ σ'.1 7 0 = nI e := by
  have stop : ∀ (x k2 : Nat) (σ : Mem), x ≤ t → tpr t T σ → σ.1 7 0 = nI x → σ.1 9 0 = nI 2 → isD t T x = false → fX9_next_b96 (k2 + 1) σ = some σ := by
    intro x k2 σ hx hr h7 h9 hl
    have ht := h.1
    rw [fX9_next_b96]
    unfold fX9_next_b115
    simp only [zl]
    rw [h9, if_neg (show ¬ nI 2 = nI 1 by decide), if_pos (rfl : nI 2 = nI 2), h7, r_digit hr (by omega), p_b1, p_if, hl, if_neg (show ¬ (false = true) by decide)]
  intro d
  induction d with
  | zero =>
    intro x k k2 σ hx hr h7 h9
    have ht := h.1
    have : x = t := by omega
    subst this
    refine ⟨x, σ, ?_, stop x _ σ (Nat.le_refl _) hr h7 h9 (isD_t (Nat.le_refl _)), Nat.le_refl _, Nat.le_refl _, fun i _ _ => by omega, fun _ _ => rfl, h7⟩
    rw [fX6_endOfPiece_b27, h.2.1, if_pos ((nI_leI (by omega) (by omega)).mpr (Nat.le_refl _))]
  | succ d ih =>
    intro x k k2 σ hx hr h7 h9
    have ht := h.1
    by_cases w : isD t T x = true
    · obtain ⟨e, σ', i1, i2, i3, i4, i5, i6, i7⟩ := ih (x + 1) k k2 (mi σ 7 0 (nI (x + 1))) (by omega) (hr.same (by rw [m_miN _ (by decide)]) (by rw [m_miN _ (by decide)])) (by rw [m_miS, m_uS]) (by rw [m_miN _ (by decide)]; exact h9)
      refine ⟨e, σ', ?_, ?_, by omega, i4, fun i a b => ?_, fun j hj => by rw [i6 j hj, m_miN _ hj], i7⟩
      · rw [fX6_endOfPiece_b27, h.2.1, if_neg (show ¬ nI t ≤ nI x from fun q => by rw [nI_leI (by omega) (by omega)] at q; omega)]
        unfold fX6_endOfPiece_b49 fX6_endOfPiece_b62
        simp only [zl, p_lt, nI_add]
        rw [if_pos trivial, if_neg (show ¬ nI 1 = nI 0 by decide), c_digit h (by omega), p_b1, p_if, w, if_pos (rfl : true = true)]
        exact i1
      · rw [fX9_next_b96]
        unfold fX9_next_b115 fX9_next_b134
        simp only [zl, p_lt]
        rw [h9, if_neg (show ¬ nI 2 = nI 1 by decide), if_pos (rfl : nI 2 = nI 2), h7, r_digit hr (by omega), p_b1, p_if, w, if_pos (rfl : true = true), nI_add]
        exact i2
      · by_cases z : i = x
        · rw [z]; exact w
        · exact i5 i (by omega) b
    · refine ⟨x, σ, ?_, stop x _ σ (by omega) hr h7 h9 (ts_nt w), Nat.le_refl _, by omega, fun i _ _ => by omega, fun _ _ => rfl, h7⟩
      rw [fX6_endOfPiece_b27, h.2.1, if_neg (show ¬ nI t ≤ nI x from fun q => by rw [nI_leI (by omega) (by omega)] at q; omega)]
      unfold fX6_endOfPiece_b49
      simp only [zl]
      rw [if_pos trivial, if_neg (show ¬ nI 1 = nI 0 by decide), c_digit h (by omega), p_b1, p_if, if_neg w]
