/-! PURE, 25: words and numbers on the tape -/
def wch (w j : Nat) : Nat := wrdL.getD (4 * w + j) 0
theorem w_facts : ∀ w, w < 6 → (2 ≤ slen w ∧ slen w ≤ 4) ∧ ∀ j, j < 4 → (j < slen w → 97 ≤ wch w j) ∧ (slen w ≤ j → wch w j = 32) ∧ wch w j < 256 := by decide +kernel
theorem w_len : ∀ w, w < 6 → fJ0_length_8abf5 w = some (nI (slen w)) := by decide +kernel
theorem w_char : ∀ w, w < 6 → ∀ j, j < slen w → fJ0_charAt_5068e w (nI j) = some (nI (wch w j)) := by decide +kernel
theorem w_of : ∀ w, w < 6 → fX8_wordOf (nI w) = some w := by decide +kernel
def mt (f g : Nat → Nat) : Nat → Nat → Bool
  | 0, _ => true
  | d + 1, x => decide (f x = g x) && mt f g d (x + 1)
theorem and2' {a b : Bool} (h : a = true) (h2 : b = true) : (a && b) = true := by rw [h, h2]; rfl
theorem bool_iff {a b : Bool} (h : a = true ↔ b = true) : a = b := by
  cases a <;> cases b <;> simp_all
theorem mt_iff (f g : Nat → Nat) : ∀ d x, mt f g d x = true ↔ ∀ j, x ≤ j → j < x + d → f j = g j := by
  intro d
  induction d with
  | zero => intro x; exact ⟨fun _ j a b => by omega, fun _ => rfl⟩
  | succ d ih =>
    intro x
    rw [mt]
    constructor
    · intro h j a b
      obtain ⟨h1, h2⟩ := and2 h
      by_cases q : j = x
      · rw [q]; exact of_decide_eq_true h1
      · exact (ih (x + 1)).mp h2 j (by omega) (by omega)
    · intro h
      exact and2' (decide_eq_true (h x (Nat.le_refl _) (by omega))) ((ih (x + 1)).mpr (fun j a b => h j (by omega) (by omega)))
theorem c_spell_loop {t : Nat} {T : Nat → Nat} {N : Mem} (h : tpe t T N) {w : Nat} (hw : w < 6) {s : Nat} (hs : s + slen w ≤ t) : ∀ d x k, x + d = slen w → fX6_spells_b15 w N (k + d + 1) (nI s) (nI x) = some (bI (mt (fun j => T (s + j)) (wch w) d x)) := by
  have ht := h.1
  have hl := (w_facts w hw).1
  intro d
  induction d with
  | zero =>
    intro x k hx
    have e : x = slen w := by omega
    rw [fX6_spells_b15, w_len w hw, p_b1, e, if_pos ((nI_leI (by omega) (by omega)).mpr (Nat.le_refl _))]
    rfl
  | succ d ih =>
    intro x k hx
    obtain ⟨a, b⟩ := h.2.2 (s + x) (by omega)
    have wc := ((w_facts w hw).2 x (by omega)).2.2
    rw [fX6_spells_b15, w_len w hw, p_b1, if_neg (show ¬ nI (slen w) ≤ nI x from fun q => by rw [nI_leI (by omega) (by omega)] at q; omega)]
    simp only [zl, p_lt, nI_add]
    rw [p_ckI (show s + x < 30 by omega) (by decide), w_char w hw x (by omega), p_b1, nI_clamp (by omega), a, i_eqP (a := T (s + x)) (b := wch w x) (by omega) (by omega), mt]
    by_cases q : T (s + x) = wch w x
    · rw [if_pos q, decide_eq_true q, Bool.true_and]
      exact ih (x + 1) k (by omega)
    · rw [if_neg q, decide_eq_false q]
      rfl
theorem c_spells {t : Nat} {T : Nat → Nat} {N : Mem} (h : tpe t T N) {w : Nat} (hw : w < 6) {s e : Nat} (hs : s ≤ e) (he : e ≤ t) : fX6_spells (nI s) (nI e) w N = some (bI (decide (e - s = slen w) && mt (fun j => T (s + j)) (wch w) (slen w) 0)) := by
  have ht := h.1
  have hl := (w_facts w hw).1
  unfold fX6_spells
  simp only [zl]
  rw [w_len w hw, p_b1, n_sub hs, i_eqP (a := e - s) (b := slen w) (by omega) (by omega)]
  by_cases q : e - s = slen w
  · obtain ⟨k, hk⟩ := FU_of 5 (by decide)
    rw [if_pos q, decide_eq_true q, Bool.true_and, hk, show k + 5 = k + 4 - slen w + slen w + 1 by omega]
    exact c_spell_loop h hw (by omega) (slen w) 0 _ (by omega)
  · rw [if_neg q, decide_eq_false q]
    rfl
theorem r_word_loop {t : Nat} {T : Nat → Nat} {σ : Mem} (h : tpr t T σ) (hw' : R_words (σ.1 10)) {w : Nat} (hw : w < 6) {s e : Nat} (he : e ≤ t) (h8 : σ.1 8 0 = nI s) (h7 : σ.1 7 0 = nI e) (hs : s ≤ 30) : ∀ d x k, x + d = 4 → fX9_isWord_b25 σ (k + d + 1) (nI w) (nI x) = some (bI (mt (fun j => if e ≤ s + j then 32 else T (s + j)) (wch w) d x)) := by
  have ht := h.1
  intro d
  induction d with
  | zero =>
    intro x k hx
    have e : x = 4 := by omega
    rw [fX9_isWord_b25, e, if_pos (by decide)]
    rfl
  | succ d ih =>
    intro x k hx
    have wc := ((w_facts w hw).2 x (by omega)).2.2
    have wv : σ.1 10 (4 * w + x) = nI (wch w x) := hw' (4 * w + x) (by omega)
    rw [fX9_isWord_b25]
    unfold fX9_isWord_b69
    simp only [zl, p_lt, n_mul, nI_add]
    rw [if_neg (show ¬ nI 4 ≤ nI x from fun q => by rw [nI_leI (by omega) (by omega)] at q; omega), p_ckI (show 4 * w + x < 24 by omega) (by decide), h7, h8, nI_add, nI_clamp (show 4 * w + x < 2 ^ 31 by omega), wv, i_leP (a := e) (b := s + x) (by omega) (by omega), mt]
    by_cases q : e ≤ s + x
    · rw [if_pos q, i_eqP (a := wch w x) (b := 32) (by omega) (by decide)]
      show _ = some (bI (decide ((if e ≤ s + x then 32 else T (s + x)) = wch w x) && _))
      rw [if_pos q]
      by_cases z : wch w x = 32
      · rw [if_pos z, decide_eq_true z.symm, Bool.true_and]
        exact ih (x + 1) k (by omega)
      · rw [if_neg z, decide_eq_false (fun y => z y.symm)]
        rfl
    · obtain ⟨a, b⟩ := h.2.2 (s + x) (by omega)
      rw [if_neg q, p_ckI (show s + x < 30 by omega) (by decide), nI_clamp (show s + x < 2 ^ 31 by omega), a, i_eqP (a := wch w x) (b := T (s + x)) (by omega) (by omega)]
      show _ = some (bI (decide ((if e ≤ s + x then 32 else T (s + x)) = wch w x) && _))
      rw [if_neg q]
      by_cases z : wch w x = T (s + x)
      · rw [if_pos z, decide_eq_true z.symm, Bool.true_and]
        exact ih (x + 1) k (by omega)
      · rw [if_neg z, decide_eq_false (fun y => z y.symm)]
        rfl
theorem r_word {t : Nat} {T : Nat → Nat} {σ : Mem} (h : tpr t T σ) (hw' : R_words (σ.1 10)) {w : Nat} (hw : w < 6) {s e kd : Nat} (hk : kd < 4) (he : e ≤ t) (h8 : σ.1 8 0 = nI s) (h7 : σ.1 7 0 = nI e) (h9 : σ.1 9 0 = nI kd) (hs : s ≤ e) : fX9_isWord (nI w) σ = some (bI (decide (kd = 1) && (decide (e - s ≤ 4) && mt (fun j => if e ≤ s + j then 32 else T (s + j)) (wch w) 4 0))) := by
  have ht := h.1
  unfold fX9_isWord
  simp only [zl]
  rw [h9, h7, h8, n_sub hs, i_eqP (a := kd) (b := 1) (by omega) (by decide), i_leP (a := e - s) (b := 4) (by omega) (by decide)]
  by_cases q : kd = 1
  · rw [if_pos q, decide_eq_true q, Bool.true_and]
    by_cases z : e - s ≤ 4
    · obtain ⟨k, hk⟩ := FU_of 5 (by decide)
      rw [if_pos z, decide_eq_true z, Bool.true_and, hk, show k + 5 = k + 4 + 1 from rfl]
      exact r_word_loop h hw' hw he h8 h7 (by omega) 4 0 k (by decide)
    · rw [if_neg z, decide_eq_false z]
      rfl
  · rw [if_neg q, decide_eq_false q]
    rfl
theorem both_spell {t : Nat} {T : Nat → Nat} {s e1 e2 kd w : Nat} (hp : Pc t T s e1 e2 kd) (hw : w < 6) :
    (decide (kd = 1) && (decide (e2 - s ≤ 4) && mt (fun j => if e2 ≤ s + j then 32 else T (s + j)) (wch w) 4 0)) = (decide (e1 - s = slen w) && mt (fun j => T (s + j)) (wch w) (slen w) 0) := by
  obtain ⟨⟨l2, l4⟩, lc⟩ := w_facts w hw
  have bad : (e1 - s = slen w → T (s + 0) = wch w 0 → False) → kd ≠ 1 → (decide (kd = 1) && (decide (e2 - s ≤ 4) && mt (fun j => if e2 ≤ s + j then 32 else T (s + j)) (wch w) 4 0)) = (decide (e1 - s = slen w) && mt (fun j => T (s + j)) (wch w) (slen w) 0) := by
    intro hb hk
    rw [decide_eq_false hk, Bool.false_and]
    by_cases q : (decide (e1 - s = slen w) && mt (fun j => T (s + j)) (wch w) (slen w) 0) = true
    · obtain ⟨a, b⟩ := and2 q
      exact (hb (of_decide_eq_true a) ((mt_iff _ _ _ _).mp b 0 (Nat.le_refl _) (by omega))).elim
    · exact (ts_nt q).symm
  obtain ⟨hs, hp⟩ := hp
  rcases hp with ⟨k0, a, b, c⟩ | ⟨k1, a, b, c, dd⟩ | ⟨k2, a, b, c, dd⟩ | ⟨k3, a, b, c, dd⟩
  · exact bad (fun y _ => by omega) (by omega)
  · subst c
    rw [decide_eq_true k1, Bool.true_and]
    apply bool_iff
    constructor
    · intro y
      obtain ⟨y1, y2⟩ := and2 y
      have y1 := of_decide_eq_true y1
      have y2 := (mt_iff _ _ _ _).mp y2
      have hl : e2 - s = slen w := by
        by_cases z : e2 - s < slen w
        · have g := y2 (e2 - s) (by omega) (by omega)
          rw [if_pos (show e2 ≤ s + (e2 - s) by omega)] at g
          have := (lc (e2 - s) (by omega)).1 z
          omega
        · by_cases z2 : slen w < e2 - s
          · have g := y2 (slen w) (by omega) (by omega)
            rw [if_neg (show ¬ e2 ≤ s + slen w by omega)] at g
            have g2 := (lc (slen w) (by omega)).2.1 (Nat.le_refl _)
            have g3 := isL_v (dd (s + slen w) (by omega) (by omega))
            omega
          · omega
      refine and2' (decide_eq_true hl) ((mt_iff _ _ _ _).mpr (fun j _ hj => ?_))
      have g := y2 j (by omega) (by omega)
      rw [if_neg (show ¬ e2 ≤ s + j by omega)] at g
      exact g
    · intro y
      obtain ⟨y1, y2⟩ := and2 y
      have y1 := of_decide_eq_true y1
      have y2 := (mt_iff _ _ _ _).mp y2
      refine and2' (decide_eq_true (by omega)) ((mt_iff _ _ _ _).mpr (fun j _ hj => ?_))
      show (if e2 ≤ s + j then 32 else T (s + j)) = wch w j
      by_cases z : j < slen w
      · rw [if_neg (by omega)]
        exact y2 j (by omega) (by omega)
      · rw [if_pos (by omega)]
        exact ((lc j (by omega)).2.1 (by omega)).symm
  · refine bad (fun y g => ?_) (by omega)
    have g2 := isD_v (dd s (Nat.le_refl _) a)
    have g3 := (lc 0 (by omega)).1 (by omega)
    rw [Nat.add_zero s] at g
    omega
  · exact bad (fun y _ => by omega) (by omega)
theorem both_kind {N s0 σ : Mem} {sp : Nat → Bool} (hc : ∀ w, w < 6 → fX6_spells (s0.1 4 0) (s0.1 5 0) w N = some (bI (sp w))) (hr : ∀ w, w < 6 → fX9_isWord (nI w) σ = some (bI (sp w))) : ∀ d x k, x + d = 6 →
    ∃ r, fX2_kindRead_b2 s0 N (k + d + 1) (nI x) = some r ∧ fX9_word_b2 σ (k + d + 1) (nI x) = some r ∧ (r = -nI 1 ∨ ∃ v, v < 6 ∧ r = nI v ∧ sp v = true) := by
  intro d
  induction d with
  | zero =>
    intro x k hx
    have : x = 6 := by omega
    subst this
    refine ⟨-nI 1, ?_, ?_, Or.inl rfl⟩
    · rw [fX2_kindRead_b2, if_pos (by decide)]
      rfl
    · rw [fX9_word_b2, if_pos (by decide)]
      rfl
  | succ d ih =>
    intro x k hx
    obtain ⟨r, i1, i2, i3⟩ := ih (x + 1) k (by omega)
    have h1 : fX2_kindRead_b2 s0 N (k + (d + 1) + 1) (nI x) = if sp x = true then some (nI x) else fX2_kindRead_b2 s0 N (k + d + 1) (nI (x + 1)) := by
      rw [fX2_kindRead_b2, if_neg (show ¬ (6 : Int32) ≤ nI x from fun q => by rw [show (6 : Int32) = nI 6 from rfl, nI_leI (by omega) (by omega)] at q; omega), w_of x (by omega), p_b1, p_ckP (decide_eq_true (show x < 6 by omega)), hc x (by omega), p_b1]
      simp only [zl, p_lt, nI_add]
      rw [p_if]
      try rfl
    have h2 : fX9_word_b2 σ (k + (d + 1) + 1) (nI x) = if sp x = true then some (nI x) else fX9_word_b2 σ (k + d + 1) (nI (x + 1)) := by
      rw [fX9_word_b2, if_neg (show ¬ (6 : Int32) ≤ nI x from fun q => by rw [show (6 : Int32) = nI 6 from rfl, nI_leI (by omega) (by omega)] at q; omega), hr x (by omega), p_b1]
      simp only [zl, p_lt, nI_add]
      rw [p_if]
      try rfl
    rw [h1, h2]
    by_cases q : sp x = true
    · rw [if_pos q, if_pos q]
      exact ⟨_, rfl, rfl, Or.inr ⟨x, by omega, rfl, q⟩⟩
    · rw [if_neg q, if_neg q]
      exact ⟨r, i1, i2, i3⟩
theorem num_loop {t : Nat} {T : Nat → Nat} {N s0 σ : Mem} (h : tpe t T N) (hr : tpr t T σ) {e : Nat} (he : e ≤ t) (h5 : s0.1 5 0 = nI e) (h7 : σ.1 7 0 = nI e) : ∀ (d x k v : Nat), x + d = e → d ≤ 2 → v < 10 ^ (2 - d) → (∀ i, x ≤ i → i < e → isD t T i = true) →
    ∃ r, r < 100 ∧ fX2_numberRead_b33 s0 N (k + d + 1) (nI v) (nI x) = some (nI r) ∧ fX9_number_b30 σ (k + d + 1) (nI v) (nI x) = some (nI r) := by
  have ht := h.1
  intro d
  induction d with
  | zero =>
    intro x k v hx hd hv hdg
    have : x = e := by omega
    subst this
    refine ⟨v, by simpa using hv, ?_, ?_⟩
    · rw [fX2_numberRead_b33, h5, if_pos ((nI_leI (by omega) (by omega)).mpr (Nat.le_refl _))]
    · rw [fX9_number_b30, h7, if_pos ((nI_leI (by omega) (by omega)).mpr (Nat.le_refl _))]
  | succ d ih =>
    intro x k v hx hd hv hdg
    have g := hdg x (Nat.le_refl _) (by omega)
    obtain ⟨g1, g2, g3⟩ := isD_v g
    have hv2 : 10 * v + T x - 48 < 10 ^ (2 - d) := by
      have d2 : d = 0 ∨ d = 1 := by omega
      rcases d2 with rfl | rfl
      · have : v < 10 := by simpa using hv
        show 10 * v + T x - 48 < 100
        omega
      · have : v < 1 := by simpa using hv
        show 10 * v + T x - 48 < 10
        omega
    obtain ⟨r, i1, i2, i3⟩ := ih (x + 1) k (10 * v + T x - 48) (by omega) (by omega) hv2 (fun i a b => hdg i (by omega) b)
    refine ⟨r, i1, ?_, ?_⟩
    · rw [fX2_numberRead_b33, h5, if_neg (show ¬ nI e ≤ nI x from fun q => by rw [nI_leI (by omega) (by omega)] at q; omega), c_digit h (by omega), p_b1]
      simp only [zl, p_lt, nI_add, n_mul]
      rw [p_if, g, if_pos (rfl : true = true), p_ckI (show x < 30 by omega) (by decide), nI_clamp (by omega), (h.2.2 x g1).1, nI_add, n_sub (by omega)]
      exact i2
    · rw [fX9_number_b30, h7, if_neg (show ¬ nI e ≤ nI x from fun q => by rw [nI_leI (by omega) (by omega)] at q; omega)]
      simp only [zl, p_lt, nI_add, n_mul]
      rw [p_ckI (show x < 30 by omega) (by decide), nI_clamp (by omega), (hr.2.2 x g1).1, nI_add, n_sub (by omega)]
      exact i3
theorem both_number {t : Nat} {T : Nat → Nat} {N s0 σ : Mem} (h : tpe t T N) (hr : tpr t T σ) {s e1 e2 kd : Nat} (hp : Pc t T s e1 e2 kd) (h4 : s0.1 4 0 = nI s) (h5 : s0.1 5 0 = nI e1) (h8 : σ.1 8 0 = nI s) (h7 : σ.1 7 0 = nI e2) (h9 : σ.1 9 0 = nI kd) :
    ∃ r, fX2_numberRead s0 N = some r ∧ fX9_number σ = some r ∧ (r = -nI 1 ∨ (kd = 2 ∧ ∃ v, v < 100 ∧ r = nI v)) := by
  have ht := h.1
  obtain ⟨hs, hp⟩ := hp
  unfold fX2_numberRead fX9_number
  simp only [zl, p_lt]
  rw [h4, h5, h7, h8, h9, c_digit h (show s ≤ 30 by omega), p_b1, p_if]
  rcases hp with ⟨k0, a, b, c⟩ | ⟨k1, a, b, c, dd⟩ | ⟨k2, a, b, c, dd⟩ | ⟨k3, a, b, c, dd, ee⟩
  · rw [isD_t (by omega), if_neg (show ¬ (false = true) by decide), k0, if_neg (show ¬ nI 0 = nI 2 by decide)]
    exact ⟨_, rfl, rfl, Or.inl rfl⟩
  · rw [L_notD (dd s (Nat.le_refl _) a), if_neg (show ¬ (false = true) by decide), k1, if_neg (show ¬ nI 1 = nI 2 by decide)]
    exact ⟨_, rfl, rfl, Or.inl rfl⟩
  · subst c
    rw [dd s (Nat.le_refl _) a, if_pos (rfl : true = true), k2, if_pos (rfl : nI 2 = nI 2), n_sub (by omega), i_leP (a := e2 - s) (b := 2) (by omega) (by decide)]
    by_cases q : e2 - s ≤ 2
    · obtain ⟨k, hk⟩ := FU_of 3 (by decide)
      obtain ⟨r, j1, j2, j3⟩ := num_loop h hr b h5 h7 (e2 - s) s (k + 2 - (e2 - s)) 0 (by omega) q (Nat.pow_pos (by decide)) dd
      rw [if_pos q, i_leP (a := e2 - s) (b := 2) (by omega) (by decide), if_pos q, hk, show k + 3 = k + 2 - (e2 - s) + (e2 - s) + 1 by omega, j2, j3]
      exact ⟨_, rfl, rfl, Or.inr ⟨rfl, r, j1, rfl⟩⟩
    · rw [if_neg q, i_leP (a := e2 - s) (b := 2) (by omega) (by decide), if_neg q]
      exact ⟨_, rfl, rfl, Or.inl rfl⟩
  · rw [ee, if_neg (show ¬ (false = true) by decide), k3, if_neg (show ¬ nI 3 = nI 2 by decide)]
    exact ⟨_, rfl, rfl, Or.inl rfl⟩
