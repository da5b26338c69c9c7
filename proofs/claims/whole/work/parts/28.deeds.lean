/-! PURE, 8: deeds; the cover's rows; delay, drop, image, back, term, off, undo -/
theorem ckI_n {γ : Type} {i : Int32} {j N : Nat} {k : Option γ} (e : i = nI j) (h : j < N) (hN : N < 2 ^ 31) : ckI i N k = k := by subst e; exact p_ckI h hN
/-- a row's items moved down by one, below a place -/
def sft {α : Type} (f : Nat → α) (x : Nat) : Nat → α := fun j => if j + 1 < x then f (j + 1) else f j
theorem sft_1 {α : Type} (f : Nat → α) : sft f 1 = f := by
  funext j
  unfold sft
  rw [if_neg (by omega)]
theorem sft_up (f : Nat → Int32) {x : Nat} (hx : 1 ≤ x) : upd (sft f x) (x - 1) (f x) = sft f (x + 1) := by
  funext j
  unfold upd sft
  by_cases q : j = x - 1
  · rw [if_pos q, if_pos (by omega), q, show x - 1 + 1 = x by omega]
  · rw [if_neg q]
    by_cases z : j + 1 < x
    · rw [if_pos z, if_pos (by omega)]
    · rw [if_neg z, if_neg (by omega)]
theorem sft_at {α : Type} (f : Nat → α) {x j : Nat} (h : x ≤ j + 1) : sft f x j = f j := by
  unfold sft
  rw [if_neg (by omega)]
theorem c_forget_loop {N : Mem} : ∀ (d x k : Nat) (N' : Mem), x + d = 6 → 1 ≤ x → N'.1 4 0 = nI 6 → (∀ f, f < 4 → N'.1 f = sft (N.1 f) x) →
    ∃ N'', fX1_forgetEarliest_b2 (k + d + 1) (nI x) N' = some N'' ∧ N''.1 4 0 = nI 5 ∧ ∀ f, f < 4 → N''.1 f = sft (N.1 f) 6 := by
  intro d
  induction d with
  | zero =>
    intro x k N' h h1 hs hf
    have : x = 6 := by omega
    subst this
    rw [fX1_forgetEarliest_b2, hs, if_pos (by decide)]
    refine ⟨_, rfl, by rw [m_miS]; rfl, fun f hf' => ?_⟩
    rw [m_miN _ (by omega)]
    exact hf f hf'
  | succ d ih =>
    intro x k N' h h1 hs hf
    rw [fX1_forgetEarliest_b2, hs]
    simp only [zl]
    have k1 : ∀ z : Option Mem, ckI (nI x) 6 z = z := fun z => p_ckI (by omega) (by decide)
    have k2 : ∀ z : Option Mem, ckI (nI (x - 1)) 6 z = z := fun z => p_ckI (by omega) (by decide)
    have f0 := hf 0 (by decide)
    have f1 := hf 1 (by decide)
    have f2 := hf 2 (by decide)
    have f3 := hf 3 (by decide)
    rw [if_neg (fun q => by rw [nI_leI (by decide) (by omega)] at q; omega)]
    simp only [n_sub h1, k1, k2, p_lt, nI_add, nI_clamp (show x < 2 ^ 31 by omega), nI_clamp (show x - 1 < 2 ^ 31 by omega)]
    refine ih (x + 1) k _ (by omega) (by omega) ?_ (fun f hf' => ?_)
    · rw [m_miN _ (by decide), m_miN _ (by decide), m_miN _ (by decide), m_miN _ (by decide)]
      exact hs
    · have h4 : f = 0 ∨ f = 1 ∨ f = 2 ∨ f = 3 := by omega
      rcases h4 with rfl | rfl | rfl | rfl
      · simp (disch := decide) only [m_miN, m_miS, f0, f1, f2, f3]
        rw [sft_at _ (by omega), sft_up _ h1]
      · simp (disch := decide) only [m_miN, m_miS, f0, f1, f2, f3]
        rw [sft_at _ (by omega), sft_up _ h1]
      · simp (disch := decide) only [m_miN, m_miS, f0, f1, f2, f3]
        rw [sft_at _ (by omega), sft_up _ h1]
      · simp (disch := decide) only [m_miN, m_miS, f0, f1, f2, f3]
        rw [sft_at _ (by omega), sft_up _ h1]
theorem c_note13 {N : Mem} {k : Nat} (hk : k < 6) (h : N.1 4 0 = nI k) (s p a b : Int32) : ∃ N', fX1_note_b13 s p a b N = some N' ∧ N'.1 4 0 = nI (k + 1) ∧ N'.1 0 = upd (N.1 0) k s ∧ N'.1 1 = upd (N.1 1) k p ∧ N'.1 2 = upd (N.1 2) k a ∧ N'.1 3 = upd (N.1 3) k b := by
  unfold fX1_note_b13
  have k1 : ∀ z : Option Mem, ckI (nI k) 6 z = z := fun z => p_ckI (by omega) (by decide)
  simp (disch := decide) only [p_lt, zl, m_miN, h, k1, nI_clamp (show k < 2 ^ 31 by omega), nI_add]
  refine ⟨_, rfl, ?_, ?_, ?_, ?_, ?_⟩
  · rw [m_miS]; rfl
  · simp (disch := decide) only [m_miN, m_miS]
  · simp (disch := decide) only [m_miN, m_miS]
  · simp (disch := decide) only [m_miN, m_miS]
  · simp (disch := decide) only [m_miN, m_miS]
/-- a deed more: the earliest of six is forgotten -/
def pd (d : Nat) : Nat := if d < 6 then d + 1 else 6
def pu (d : Nat) (f : Nat → Nat) (v : Nat) : Nat → Nat := if d < 6 then (fun i => if i = d then v else f i) else (fun i => if i = 5 then v else f (i + 1))
theorem pd_le {d : Nat} (h : d ≤ 6) : pd d ≤ 6 := by unfold pd; split <;> omega
theorem c_note {N : Mem} {d : Nat} {Sd Pl F1 F2 : Nat → Nat} (hd : d ≤ 6) (hD : R_deeds d Sd Pl F1 F2 N) (s p a b : Nat) : ∃ N', fX1_note (nI s) (nI p) (nI a) (nI b) N = some N' ∧ R_deeds (pd d) (pu d Sd s) (pu d Pl p) (pu d F1 a) (pu d F2 b) N' := by
  unfold fX1_note
  simp only [zl]
  rw [hD.1, i_ltP (by omega) (by decide)]
  by_cases q : d < 6
  · obtain ⟨N', h1, h2, h3, h4, h5, h6⟩ := c_note13 q hD.1 (nI s) (nI p) (nI a) (nI b)
    rw [if_pos q, h1]
    refine ⟨N', rfl, ?_, fun i hi => ?_⟩
    · unfold pd; rw [if_pos q]; exact h2
    · unfold pd at hi
      rw [if_pos q] at hi
      unfold pu
      rw [if_pos q, if_pos q, if_pos q, if_pos q, h3, h4, h5, h6]
      by_cases z : i = d
      · subst z
        rw [m_uS, m_uS, m_uS, m_uS]
        simp only [if_pos]
        exact ⟨trivial, trivial, trivial, trivial⟩
      · rw [m_uN _ z, m_uN _ z, m_uN _ z, m_uN _ z]
        simp only [if_neg z]
        exact hD.2 i (by omega)
  · have hd6 : d = 6 := by omega
    subst hd6
    obtain ⟨k0, hk0⟩ := FU_of 6 (by decide)
    obtain ⟨N1, g1, g2, g3⟩ := c_forget_loop (N := N) 5 1 k0 N rfl (by decide) hD.1 (fun f _ => (sft_1 _).symm)
    obtain ⟨N', h1, h2, h3, h4, h5, h6⟩ := c_note13 (show 5 < 6 by decide) g2 (nI s) (nI p) (nI a) (nI b)
    have e : fX1_forgetEarliest N = some N1 := by
      unfold fX1_forgetEarliest
      rw [hk0]
      exact g1
    rw [if_neg q, e, p_b1, h1]
    refine ⟨N', rfl, h2, fun i hi => ?_⟩
    unfold pd at hi
    rw [if_neg q] at hi
    unfold pu
    rw [if_neg q, if_neg q, if_neg q, if_neg q, h3, h4, h5, h6, g3 0 (by decide), g3 1 (by decide), g3 2 (by decide), g3 3 (by decide)]
    by_cases z : i = 5
    · subst z
      rw [m_uS, m_uS, m_uS, m_uS]
      exact ⟨rfl, rfl, rfl, rfl⟩
    · rw [m_uN _ z, m_uN _ z, m_uN _ z, m_uN _ z]
      unfold sft
      simp only [if_neg z, if_pos (show i + 1 < 6 by omega)]
      exact hD.2 (i + 1) (by omega)
/-- the reference's deeds: four a deed -/
theorem r_does51 {σ : Mem} {k : Nat} (hk : k < 6) (h : σ.1 4 0 = nI k) (s p a b : Int32) : ∃ σ', fX9_does_b51 s p a b σ = some σ' ∧ σ'.1 4 0 = nI (k + 1) ∧ σ'.1 3 = upd (upd (upd (upd (σ.1 3) (4 * k) s) (4 * k + 1) p) (4 * k + 2) a) (4 * k + 3) b ∧ ∀ j, j ≠ 3 → j ≠ 4 → σ'.1 j = σ.1 j := by
  unfold fX9_does_b51
  have k0 : ∀ z : Option Mem, ckI (nI (4 * k)) 24 z = z := fun z => p_ckI (by omega) (by decide)
  have k1 : ∀ z : Option Mem, ckI (nI (4 * k + 1)) 24 z = z := fun z => p_ckI (by omega) (by decide)
  have k2 : ∀ z : Option Mem, ckI (nI (4 * k + 2)) 24 z = z := fun z => p_ckI (by omega) (by decide)
  have k3 : ∀ z : Option Mem, ckI (nI (4 * k + 3)) 24 z = z := fun z => p_ckI (by omega) (by decide)
  simp (disch := decide) only [p_lt, zl, m_miN, h, n_mul, nI_add, k0, k1, k2, k3, nI_clamp (show 4 * k < 2 ^ 31 by omega), nI_clamp (show 4 * k + 1 < 2 ^ 31 by omega), nI_clamp (show 4 * k + 2 < 2 ^ 31 by omega), nI_clamp (show 4 * k + 3 < 2 ^ 31 by omega)]
  refine ⟨_, rfl, ?_, ?_, fun j h3 h4 => ?_⟩
  · rw [m_miS]; rfl
  · simp (disch := decide) only [m_miN, m_miS]
  · rw [m_miN _ h4, m_miN _ h3, m_miN _ h3, m_miN _ h3, m_miN _ h3]
def sf4 (f : Nat → Int32) (x : Nat) : Nat → Int32 := fun j => if j < x then f (j + 4) else f j
theorem n_6_1 : nI 6 - nI 1 = nI 5 := by decide +kernel
theorem r_does_loop {e : Nat → Int32} {s p a b : Int32} : ∀ (d x k : Nat) (σ : Mem), x + d = 20 → σ.1 4 0 = nI 6 → σ.1 3 = sf4 e x →
    ∃ σ', fX9_does_b12 (k + d + 1) s p a b (nI x) σ = some σ' ∧ σ'.1 4 0 = nI 6 ∧ σ'.1 3 = upd (upd (upd (upd (sf4 e 20) 20 s) 21 p) 22 a) 23 b ∧ ∀ j, j ≠ 3 → j ≠ 4 → σ'.1 j = σ.1 j := by
  intro d
  induction d with
  | zero =>
    intro x k σ hx h4 h3
    have : x = 20 := by omega
    subst this
    rw [fX9_does_b12, if_pos (by decide), p_lt, h4, show (1 : Int32) = nI 1 from rfl]
    obtain ⟨σ', g1, g2, g3, g4⟩ := r_does51 (σ := mi σ 4 0 (nI 6 - nI 1)) (k := 5) (by decide) (by rw [m_miS, m_uS, n_6_1]) s p a b
    simp only [Nat.reduceMul, Nat.reduceAdd] at g2 g3
    refine ⟨σ', g1, g2, ?_, fun j h3' h4' => ?_⟩
    · rw [g3, m_miN _ (by decide), h3]
    · rw [g4 j h3' h4', m_miN _ h4']
  | succ d ih =>
    intro x k σ hx h4 h3
    rw [fX9_does_b12]
    simp only [p_lt, zl]
    rw [if_neg (fun q => by rw [nI_leI (by omega) (by omega)] at q; omega), nI_add, p_ckI (by omega) (by decide), p_ckI (by omega) (by decide), nI_clamp (by omega), nI_clamp (by omega), nI_add]
    obtain ⟨σ', g1, g2, g3, g4⟩ := ih (x + 1) k (mi σ 3 x (σ.1 3 (x + 4))) (by omega) (by rw [m_miN _ (by decide)]; exact h4) (by
      rw [m_miS, h3]
      funext j
      unfold upd sf4
      by_cases q : j = x
      · subst q
        rw [if_pos rfl, if_neg (by omega), if_pos (by omega)]
      · rw [if_neg q]
        by_cases z : j < x
        · rw [if_pos z, if_pos (by omega)]
        · rw [if_neg z, if_neg (by omega)])
    refine ⟨σ', g1, g2, g3, fun j h3' h4' => ?_⟩
    rw [g4 j h3' h4', m_miN _ h3']
theorem r_does {σ : Mem} {d : Nat} {Sd Pl F1 F2 : Nat → Nat} (hd : d ≤ 6) (hD : R_rdeeds d Sd Pl F1 F2 (σ.1 3) (σ.1 4 0)) (s p' p a b : Nat) (hp : s = 1 ∨ s = 3 → p' = p) :
    ∃ σ', fX9_does (nI s) (nI p') (nI a) (nI b) σ = some σ' ∧ R_rdeeds (pd d) (pu d Sd s) (pu d Pl p) (pu d F1 a) (pu d F2 b) (σ'.1 3) (σ'.1 4 0) ∧ ∀ j, j ≠ 3 → j ≠ 4 → σ'.1 j = σ.1 j := by
  unfold fX9_does
  simp only [zl]
  rw [hD.1, i_eqP (by omega) (by decide)]
  by_cases q : d < 6
  · obtain ⟨σ', h1, h2, h3, h4⟩ := r_does51 q hD.1 (nI s) (nI p') (nI a) (nI b)
    rw [if_neg (by omega), h1]
    refine ⟨σ', rfl, ⟨?_, fun i hi => ?_⟩, h4⟩
    · unfold pd; rw [if_pos q]; exact h2
    · unfold pd at hi
      rw [if_pos q] at hi
      unfold pu
      rw [if_pos q, if_pos q, if_pos q, if_pos q, h3]
      by_cases z : i = d
      · subst z
        simp only [if_pos]
        refine ⟨?_, fun hs => ?_, ?_, ?_⟩
        · rw [m_uN _ (by omega), m_uN _ (by omega), m_uN _ (by omega), m_uS]
        · rw [m_uN _ (by omega), m_uN _ (by omega), m_uS, hp hs]
        · rw [m_uN _ (by omega), m_uS]
        · rw [m_uS]
      · simp only [if_neg z]
        rw [m_uN _ (by omega), m_uN _ (by omega), m_uN _ (by omega), m_uN _ (by omega), m_uN _ (by omega), m_uN _ (by omega), m_uN _ (by omega), m_uN _ (by omega), m_uN _ (by omega), m_uN _ (by omega), m_uN _ (by omega), m_uN _ (by omega), m_uN _ (by omega), m_uN _ (by omega), m_uN _ (by omega), m_uN _ (by omega)]
        exact hD.2 i (by omega)
  · have hd6 : d = 6 := by omega
    subst hd6
    obtain ⟨k0, hk0⟩ := FU_of 21 (by decide)
    obtain ⟨σ', h1, h2, h3, h4⟩ := r_does_loop (e := σ.1 3) (s := nI s) (p := nI p') (a := nI a) (b := nI b) 20 0 k0 σ rfl hD.1 (by
      funext j
      unfold sf4
      rw [if_neg (by omega)])
    rw [if_pos rfl, hk0, h1]
    refine ⟨σ', rfl, ⟨h2, fun i hi => ?_⟩, h4⟩
    unfold pd at hi
    rw [if_neg q] at hi
    unfold pu
    rw [if_neg q, if_neg q, if_neg q, if_neg q, h3]
    by_cases z : i = 5
    · subst z
      refine ⟨rfl, fun hs => ?_, rfl, rfl⟩
      show nI p' = nI p
      rw [hp hs]
    · simp only [if_neg z]
      obtain ⟨a1, a2, a3, a4⟩ := hD.2 (i + 1) (by omega)
      rw [m_uN _ (by omega), m_uN _ (by omega), m_uN _ (by omega), m_uN _ (by omega), m_uN _ (by omega), m_uN _ (by omega), m_uN _ (by omega), m_uN _ (by omega), m_uN _ (by omega), m_uN _ (by omega), m_uN _ (by omega), m_uN _ (by omega), m_uN _ (by omega), m_uN _ (by omega), m_uN _ (by omega), m_uN _ (by omega)]
      unfold sf4
      rw [if_pos (by omega), if_pos (by omega), if_pos (by omega), if_pos (by omega)]
      exact ⟨a1, a2, a3, a4⟩
/-! the deeds fit the net and the cover -/
theorem dOK_cong {Sd Pl F1 F2 Sd' Pl' F1' F2' : Nat → Nat} : ∀ (d n T : Nat), (∀ i, i < d → Sd i = Sd' i ∧ Pl i = Pl' i ∧ F1 i = F1' i ∧ F2 i = F2' i) → dOK Sd Pl F1 F2 d n T → dOK Sd' Pl' F1' F2' d n T := by
  intro d
  induction d with
  | zero => intro n T _ _; exact trivial
  | succ d ih =>
    intro n T h hd
    obtain ⟨e1, e2, e3, e4⟩ := h d (by omega)
    have h' : ∀ i, i < d → _ := fun i hi => h i (by omega)
    unfold dOK at hd ⊢
    rw [← e1, ← e2, ← e3, ← e4]
    rcases hd with ⟨a, b, c, x, y, z⟩ | ⟨a, b, c, x, y, z⟩ | ⟨a, b, c, x, y, z⟩ | ⟨a, b, c, x, y, z⟩
    · exact Or.inl ⟨a, b, c, x, y, ih _ _ h' z⟩
    · exact Or.inr (Or.inl ⟨a, b, c, x, y, ih _ _ h' z⟩)
    · exact Or.inr (Or.inr (Or.inl ⟨a, b, c, x, y, ih _ _ h' z⟩))
    · exact Or.inr (Or.inr (Or.inr ⟨a, b, c, x, y, ih _ _ h' z⟩))
theorem dOK_shift {Sd Pl F1 F2 : Nat → Nat} : ∀ (d n T : Nat), dOK Sd Pl F1 F2 (d + 1) n T → dOK (fun i => Sd (i + 1)) (fun i => Pl (i + 1)) (fun i => F1 (i + 1)) (fun i => F2 (i + 1)) d n T := by
  intro d
  induction d with
  | zero => intro n T _; exact trivial
  | succ d ih =>
    intro n T hd
    rw [dOK] at hd ⊢
    rcases hd with ⟨a, b, c, x, y, z⟩ | ⟨a, b, c, x, y, z⟩ | ⟨a, b, c, x, y, z⟩ | ⟨a, b, c, x, y, z⟩
    · exact Or.inl ⟨a, b, c, x, y, ih _ _ z⟩
    · exact Or.inr (Or.inl ⟨a, b, c, x, y, ih _ _ z⟩)
    · exact Or.inr (Or.inr (Or.inl ⟨a, b, c, x, y, ih _ _ z⟩))
    · exact Or.inr (Or.inr (Or.inr ⟨a, b, c, x, y, ih _ _ z⟩))
theorem pd_succ (d : Nat) : ∃ q, pd d = q + 1 ∧ ∀ f v, pu d f v q = v := by
  by_cases h : d < 6
  · refine ⟨d, by unfold pd; rw [if_pos h], fun f v => ?_⟩
    unfold pu; rw [if_pos h]; exact if_pos rfl
  · refine ⟨5, by unfold pd; rw [if_neg h], fun f v => ?_⟩
    unfold pu; rw [if_neg h]; rfl
theorem dOK_below {Sd Pl F1 F2 : Nat → Nat} {d n T s p a b : Nat} (hd : d ≤ 6) (h : dOK Sd Pl F1 F2 d n T) {q : Nat} (hq : pd d = q + 1) : dOK (pu d Sd s) (pu d Pl p) (pu d F1 a) (pu d F2 b) q n T := by
  by_cases z : d < 6
  · have e : q = d := by unfold pd at hq; rw [if_pos z] at hq; omega
    subst e
    refine dOK_cong q n T (fun i hi => ?_) h
    unfold pu
    rw [if_pos z, if_pos z, if_pos z, if_pos z]
    simp only [if_neg (show ¬ i = q by omega)]
    exact ⟨trivial, trivial, trivial, trivial⟩
  · have e : q = 5 := by unfold pd at hq; rw [if_neg z] at hq; omega
    have e2 : d = 6 := by omega
    subst e; subst e2
    refine dOK_cong 5 n T (fun i hi => ?_) (dOK_shift 5 n T h)
    unfold pu
    rw [if_neg z, if_neg z, if_neg z, if_neg z]
    simp only [if_neg (show ¬ i = 5 by omega)]
    exact ⟨trivial, trivial, trivial, trivial⟩
theorem dOK_0 {Sd Pl F1 F2 : Nat → Nat} {d n T : Nat} (hd : d ≤ 6) (h : dOK Sd Pl F1 F2 d n T) : dOK (pu d Sd 0) (pu d Pl n) (pu d F1 0) (pu d F2 0) (pd d) (n + 1) T := by
  obtain ⟨q, hq, hv⟩ := pd_succ d
  have hb := dOK_below (s := 0) (p := n) (a := 0) (b := 0) hd h hq
  rw [hq]
  rw [dOK, hv, hv, hv, hv]
  exact Or.inl ⟨rfl, by omega, by omega, rfl, rfl, hb⟩
theorem dOK_1 {Sd Pl F1 F2 : Nat → Nat} {d n T p a : Nat} (hd : d ≤ 6) (h : dOK Sd Pl F1 F2 d n T) (hp : p < n) (ha : 1 ≤ a ∧ a ≤ 9) : dOK (pu d Sd 1) (pu d Pl p) (pu d F1 a) (pu d F2 0) (pd d) n T := by
  obtain ⟨q, hq, hv⟩ := pd_succ d
  have hb := dOK_below (s := 1) (p := p) (a := a) (b := 0) hd h hq
  rw [hq]
  rw [dOK, hv, hv, hv, hv]
  exact Or.inr (Or.inl ⟨rfl, hp, ha.1, ha.2, rfl, hb⟩)
theorem dOK_2 {Sd Pl F1 F2 : Nat → Nat} {d n T : Nat} (hd : d ≤ 6) (h : dOK Sd Pl F1 F2 d n T) : dOK (pu d Sd 2) (pu d Pl T) (pu d F1 0) (pu d F2 0) (pd d) n (T + 1) := by
  obtain ⟨q, hq, hv⟩ := pd_succ d
  have hb := dOK_below (s := 2) (p := T) (a := 0) (b := 0) hd h hq
  rw [hq]
  rw [dOK, hv, hv, hv, hv]
  exact Or.inr (Or.inr (Or.inl ⟨rfl, by omega, by omega, rfl, rfl, hb⟩))
theorem dOK_3 {Sd Pl F1 F2 : Nat → Nat} {d n T p a b : Nat} (hd : d ≤ 6) (h : dOK Sd Pl F1 F2 d n (T + 1)) (hp : p ≤ T) (hT : T < 8) (ha : a < 16) (hb : sub b a = true) : dOK (pu d Sd 3) (pu d Pl p) (pu d F1 a) (pu d F2 b) (pd d) n T := by
  obtain ⟨q, hq, hv⟩ := pd_succ d
  have hbb := dOK_below (s := 3) (p := p) (a := a) (b := b) hd h hq
  rw [hq]
  rw [dOK, hv, hv, hv, hv]
  exact Or.inr (Or.inr (Or.inr ⟨rfl, hp, hT, ha, hb, hbb⟩))
/-- the rest of a state, beside what gates, cover and deeds hold -/
def R_rest (X : XS) (σ : Mem) : Prop := R_tape (X 1) (σ.1 5) (σ.1 6 0) ∧ R_img (X 0) (X 9) (X 10) (σ.1 1) (σ.1 2 0) ∧ R_sh X (σ.1 21) (σ.1 22) (σ.1 23) ∧ R_rows (X 4) ∧ R_words (σ.1 10)
theorem R_rest.same {X X' : XS} {σ σ' : Mem} (h : R_rest X σ) (hX : ∀ k, k ≠ 3 → k ≠ 6 → k ≠ 8 → X' k = X k) (hσ : ∀ k, k ≠ 0 → k ≠ 3 → k ≠ 4 → σ'.1 k = σ.1 k) : R_rest X' σ' := by
  obtain ⟨g2, g3, g4, g5, g6⟩ := h
  unfold R_rest
  rw [hσ 1 (by decide) (by decide) (by decide), hσ 2 (by decide) (by decide) (by decide), hσ 5 (by decide) (by decide) (by decide), hσ 6 (by decide) (by decide) (by decide), hσ 10 (by decide) (by decide) (by decide), hσ 21 (by decide) (by decide) (by decide), hσ 22 (by decide) (by decide) (by decide), hσ 23 (by decide) (by decide) (by decide), hX 0 (by decide) (by decide) (by decide), hX 1 (by decide) (by decide) (by decide), hX 4 (by decide) (by decide) (by decide), hX 9 (by decide) (by decide) (by decide), hX 10 (by decide) (by decide) (by decide)]
  refine ⟨g2, g3, fun k hk => ?_, g5, g6⟩
  rw [hX (11 + k) (by omega) (by omega) (by omega)]
  exact g4 k hk
theorem R_netW {n : Nat} {K A B W : Nat → Nat} {N : Mem} (hr : R_net n K A B W N) (g v : Nat) : R_net n K A B (fun i => if i = g then v else W i) (mi N 3 g (nI v)) := by
  refine ⟨hr.1, fun u hu => ?_, hr.2.2⟩
  obtain ⟨a, b, c, d⟩ := hr.2.1 u hu
  refine ⟨a, b, c, ?_⟩
  rw [m_miS]
  unfold upd
  show (if u = g then _ else _) = nI (if u = g then v else W u)
  by_cases z : u = g
  · rw [if_pos z, if_pos z]
  · rw [if_neg z, if_neg z]; exact d
theorem sim_delay {X : XS} {σ : Mem} (h : Rel X σ) (p0 p1 : Int32) : Sim (fX8_delay p0 p1 X) (fX9_delay p0 p1 σ) := by
  obtain ⟨⟨n, K, A, B, W, T, C, V, d, Sd, Pl, F1, F2, hN, hr, hs, hc, hC, hrC, hd, hdo, hD, hrD⟩, hrest⟩ := id h
  have hn := hN.1
  unfold fX8_delay fX9_delay
  simp only [zl]
  rw [c_has3 p0 (by omega) hr.1, r_isGate p0 (by omega) hs.1, p_b1, p_b1, p_if, p_if]
  by_cases q : inN p0 n = true
  · rw [if_pos q, if_pos q, r_isIn, c_within p1 (by decide) (by decide), p_b1, p_b1, p_if, p_if]
    by_cases q2 : (inN p1 (9 + 1) && !(inN p1 1)) = true
    · rw [if_pos q2, if_pos q2]
      obtain ⟨g, hg, -, rfl⟩ := inN_t q
      obtain ⟨v, hv, hv2, rfl⟩ := inN_t (show inN p1 (9 + 1) = true by revert q2; cases inN p1 (9 + 1) <;> simp)
      have hv1 : 1 ≤ v := by
        rw [inN_nI hv2, inN_nI hv2] at q2
        by_cases z : v < 1
        · rw [decide_eq_true z] at q2; simp at q2
        · omega
      obtain ⟨r0, r1, r2, r3⟩ := hr.2.1 g hg
      obtain ⟨hk, ha, hb, hw⟩ := hN.2 g hg
      have k1 : ∀ z : Option (Int32 × XS), ckI (nI g) 12 z = z := fun z => p_ckI (by omega) (by decide)
      obtain ⟨N8, c1, c2⟩ := c_note hd hD 1 g (W g) 0
      have es : fX9_sets (nI g) (nI 3) (nI v) σ = some (nI (W g), mi σ 0 (2 + 4 * g + 3) (nI v)) := by
        unfold fX9_sets
        simp only [zl]
        rw [r_of3 hN hs hg, p_b1, n_mul, nI_add, nI_add, p_ckI (by omega) (by decide), p_lt, nI_clamp (by omega)]
      obtain ⟨σ', s1, s2, s3⟩ := r_does (σ := mi σ 0 (2 + 4 * g + 3) (nI v)) hd hrD 1 g g (W g) 0 (fun _ => rfl)
      rw [k1, p_lt, k1, nI_clamp (by omega), r3, m_xsN _ (by decide), c1, p_b1, es, p_b2, s1, p_b1]
      refine Sim.i ⟨⟨n, K, A, B, _, T, C, V, _, _, _, _, _, ?_, R_netW hr g v, ?_, hc, hC, ?_, pd_le hd, dOK_1 hd hdo hg hw, c2, s2⟩, R_rest.same hrest (fun k h3 h6 h8 => by rw [m_xsN _ h8, m_xsN _ h3]) (fun k h0 h3 h4 => by rw [s3 k h3 h4, m_miN _ h0])⟩
      · refine ⟨hn, fun u hu => ?_⟩
        obtain ⟨a1, a2, a3, a4, a5⟩ := hN.2 u hu
        refine ⟨a1, a2, a3, ?_⟩
        show 1 ≤ (if u = g then v else W u) ∧ (if u = g then v else W u) ≤ 9
        split <;> omega
      · rw [s3 0 (by decide) (by decide), m_miS]
        refine ⟨by rw [m_uN _ (by omega)]; exact hs.1, fun u hu => ?_⟩
        obtain ⟨a1, a2, a3, a4⟩ := hs.2 u hu
        rw [m_uN _ (by omega), m_uN _ (by omega), m_uN _ (by omega)]
        refine ⟨a1, a2, a3, ?_⟩
        unfold upd
        show (if 2 + 4 * u + 3 = 2 + 4 * g + 3 then _ else _) = nI (if u = g then v else W u)
        by_cases z : u = g
        · rw [if_pos (by omega), if_pos z]
        · rw [if_neg (by omega), if_neg z]; exact a4
      · rw [s3 0 (by decide) (by decide), m_miS]
        refine ⟨by rw [m_uN _ (by omega)]; exact hrC.1, fun i hi => ?_⟩
        rw [m_uN _ (by omega), m_uN _ (by omega)]
        exact hrC.2 i hi
    · rw [if_neg q2, if_neg q2]
      exact Sim.i h
  · rw [if_neg q, if_neg q]
    exact Sim.i h
theorem sim_drop {X : XS} {σ : Mem} (h : Rel X σ) : Sim (fX8_drop X) (fX9_drop σ) := by
  obtain ⟨⟨n, K, A, B, W, T, C, V, d, Sd, Pl, F1, F2, hN, hr, hs, hc, hC, hrC, hd, hdo, hD, hrD⟩, hrest⟩ := id h
  have hn := hN.1
  unfold fX8_drop fX9_drop fX3_removeLast
  have k0 : ∀ z : Option (Int32 × Mem), ckI (nI 0) 66 z = z := fun z => p_ckI (by decide) (by decide)
  simp only [zl, k0, p_lt, nI_clamp (show 0 < 2 ^ 31 by decide)]
  rw [c_empty (by omega) hr.1, p_b1, p_if, hs.1, hr.1, i_eq0 (by omega), i_leP (by omega) (by decide)]
  by_cases q : n = 0
  · rw [if_pos (decide_eq_true q), if_pos q]
    exact Sim.i h
  · rw [if_neg (by simpa using q), if_neg q, if_neg (by omega), p_b1, n_sub (by omega), m_xsN _ (show (3 : Nat) ≠ 8 by decide), m_xsS, m_miS, m_uS, m_miN _ (show (0 : Nat) ≠ 4 by decide), m_miS, m_uS]
    refine Sim.i ⟨⟨n - 1, K, A, B, W, T, C, V, 0, Sd, Pl, F1, F2, ⟨by omega, fun g hg => hN.2 g (by omega)⟩, ⟨rfl, fun g hg => hr.2.1 g (by omega), hr.2.2⟩, ⟨rfl, fun g hg => ?_⟩, hc, hC, ⟨hrC.1, fun i hi => ?_⟩, by omega, trivial, ⟨rfl, fun i hi => by omega⟩, ⟨rfl, fun i hi => by omega⟩⟩, R_rest.same hrest (fun k h3 h6 h8 => by rw [m_xsN _ h8, m_xsN _ h3]) (fun k h0 h3 h4 => by rw [m_miN _ h4, m_miN _ h0])⟩
    · rw [m_miN _ (show (0 : Nat) ≠ 4 by decide), m_miS, m_uN _ (by omega), m_uN _ (by omega), m_uN _ (by omega), m_uN _ (by omega)]
      exact hs.2 g (by omega)
    · rw [m_miN _ (show (0 : Nat) ≠ 4 by decide), m_miS, m_uN _ (by omega), m_uN _ (by omega)]
      exact hrC.2 i hi
