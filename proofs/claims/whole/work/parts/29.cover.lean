/-! PURE, 9: an image, back; terms that come and go; undo -/
theorem cpy12 {f g : Nat → Int32} {k : Nat} (h : k < 12) : va_cpy f g ((0 : Int32)).toNatClampNeg ((0 : Int32)).toNatClampNeg ((12 : Int32)).toNatClampNeg k = f k := by
  rw [show ((0 : Int32)).toNatClampNeg = 0 from rfl, show ((12 : Int32)).toNatClampNeg = 12 from rfl]
  unfold va_cpy
  rw [if_pos ⟨by omega, by omega⟩, Nat.zero_add, Nat.sub_zero]
theorem cpy8 {f g : Nat → Int32} {k : Nat} (h : k < 8) : va_cpy f g ((0 : Int32)).toNatClampNeg ((0 : Int32)).toNatClampNeg ((8 : Int32)).toNatClampNeg k = f k := by
  rw [show ((0 : Int32)).toNatClampNeg = 0 from rfl, show ((8 : Int32)).toNatClampNeg = 8 from rfl]
  unfold va_cpy
  rw [if_pos ⟨by omega, by omega⟩, Nat.zero_add, Nat.sub_zero]
theorem c_become3 (s0 s1 : Mem) : ∃ N', fX3_become s0 s1 = some N' ∧ N'.1 4 0 = s1.1 4 0 ∧ (∀ f, f < 4 → ∀ g, g < 12 → N'.1 f g = s1.1 f g) ∧ N'.1 5 = s0.1 5 ∧ N'.1 6 = s0.1 6 := by
  unfold fX3_become
  rw [p_ckP (by decide), p_ckP (by decide), p_lt, p_ckP (by decide), p_ckP (by decide), p_lt]
  refine ⟨_, rfl, ?_, fun f hf g hg => ?_, ?_, ?_⟩
  · rw [m_miS, m_uS]
  · have h4 : f = 0 ∨ f = 1 ∨ f = 2 ∨ f = 3 := by omega
    rcases h4 with rfl | rfl | rfl | rfl
    · simp (disch := decide) only [m_miN, m_mrN, m_mrS]
      exact cpy12 hg
    · simp (disch := decide) only [m_miN, m_mrN, m_mrS]
      exact cpy12 hg
    · simp (disch := decide) only [m_miN, m_mrN, m_mrS]
      exact cpy12 hg
    · simp (disch := decide) only [m_miN, m_mrN, m_mrS]
      exact cpy12 hg
  · simp (disch := decide) only [m_miN, m_mrN, m_mrS]
  · simp (disch := decide) only [m_miN, m_mrN, m_mrS]
theorem c_become0 (s0 s1 : Mem) : ∃ N', fX0_become s0 s1 = some N' ∧ N'.1 2 0 = s1.1 2 0 ∧ (∀ f, f < 2 → ∀ g, g < 8 → N'.1 f g = s1.1 f g) := by
  unfold fX0_become
  rw [p_ckP (by decide), p_ckP (by decide), p_lt]
  refine ⟨_, rfl, ?_, fun f hf g hg => ?_⟩
  · rw [m_miS, m_uS]
  · have h4 : f = 0 ∨ f = 1 := by omega
    rcases h4 with rfl | rfl
    · simp (disch := decide) only [m_miN, m_mrN, m_mrS]
      exact cpy8 hg
    · simp (disch := decide) only [m_miN, m_mrN, m_mrS]
      exact cpy8 hg
theorem r_copies_loop (s : Nat → Int32) : ∀ (d x k : Nat) (t : Nat → Int32), x + d = 66 → (∀ j, j < x → t j = s j) → ∃ t', fX9_copies_b2 s (k + d + 1) (nI x) t = some t' ∧ ∀ j, j < 66 → t' j = s j := by
  intro d
  induction d with
  | zero =>
    intro x k t hx h
    have : x = 66 := by omega
    subst this
    rw [fX9_copies_b2, if_pos (by decide)]
    exact ⟨t, rfl, h⟩
  | succ d ih =>
    intro x k t hx h
    rw [fX9_copies_b2]
    simp only [zl]
    rw [if_neg (fun q => by rw [nI_leI (by omega) (by omega)] at q; omega), p_ckI (by omega) (by decide), p_ckI (by omega) (by decide), p_lt, nI_add, nI_clamp (by omega)]
    exact ih (x + 1) k _ (by omega) (fun j hj => by
      by_cases q : j = x
      · rw [q, m_uS]
      · rw [m_uN _ q]; exact h j (by omega))
theorem r_copies (s t : Nat → Int32) : ∃ t', fX9_copies s t = some t' ∧ ∀ j, j < 66 → t' j = s j := by
  obtain ⟨k, hk⟩ := FU_of 67 (by decide)
  unfold fX9_copies
  rw [hk]
  exact r_copies_loop s 66 0 k t rfl (fun j hj => by omega)
theorem R_gat.of {n : Nat} {K A B W : Nat → Nat} {N N' : Mem} (hn : n ≤ 12) (h : R_gat n K A B W N) (h4 : N'.1 4 0 = N.1 4 0) (hf : ∀ f, f < 4 → ∀ g, g < 12 → N'.1 f g = N.1 f g) : R_gat n K A B W N' := by
  refine ⟨by rw [h4]; exact h.1, fun g hg => ?_⟩
  rw [hf 0 (by decide) g (by omega), hf 1 (by decide) g (by omega), hf 2 (by decide) g (by omega), hf 3 (by decide) g (by omega)]
  exact h.2 g hg
theorem R_cov.of {T : Nat} {C V : Nat → Nat} {N N' : Mem} (hn : T ≤ 8) (h : R_cov T C V N) (h4 : N'.1 2 0 = N.1 2 0) (hf : ∀ f, f < 2 → ∀ g, g < 8 → N'.1 f g = N.1 f g) : R_cov T C V N' := by
  refine ⟨by rw [h4]; exact h.1, fun g hg => ?_⟩
  rw [hf 0 (by decide) g (by omega), hf 1 (by decide) g (by omega)]
  exact h.2 g hg
theorem R_ref.of {n : Nat} {K A B W : Nat → Nat} {s t : Nat → Int32} (hn : n ≤ 12) (h : R_ref n K A B W s) (ht : ∀ j, j < 66 → t j = s j) : R_ref n K A B W t := by
  refine ⟨by rw [ht 0 (by decide)]; exact h.1, fun g hg => ?_⟩
  rw [ht _ (by omega), ht _ (by omega), ht _ (by omega), ht _ (by omega)]
  exact h.2 g hg
theorem R_rcov.of {T : Nat} {C V : Nat → Nat} {s t : Nat → Int32} (hn : T ≤ 8) (h : R_rcov T C V s) (ht : ∀ j, j < 66 → t j = s j) : R_rcov T C V t := by
  refine ⟨by rw [ht 1 (by decide)]; exact h.1, fun g hg => ?_⟩
  rw [ht _ (by omega), ht _ (by omega)]
  exact h.2 g hg
theorem sim_image {X : XS} {σ : Mem} (h : Rel X σ) : Sim (fX8_image X) (fX9_image σ) := by
  obtain ⟨⟨n, K, A, B, W, T, C, V, d, Sd, Pl, F1, F2, hN, hr, hs, hc, hC, hrC, hd, hdo, hD, hrD⟩, ht, hi, hsh, h4, hw⟩ := id h
  have hn := hN.1
  obtain ⟨N', e1, e2, e3, e4, e5⟩ := c_become3 (X 9) (X 3)
  obtain ⟨M', f1, f2, f3⟩ := c_become0 (X 10) (X 6)
  obtain ⟨t, g1, g2⟩ := r_copies (σ.1 0) (σ.1 1)
  unfold fX8_image fX9_image
  rw [e1, p_b1, show (xs X 9 N') 10 = X 10 from rfl, show (xs X 9 N') 6 = X 6 from rfl, f1, p_b1, g1, p_b1, p_lt]
  simp only [zl]
  rw [p_ckI (by decide) (by decide), nI_clamp (by decide)]
  refine Sim.e ?_ ⟨⟨n, K, A, B, W, T, C, V, d, Sd, Pl, F1, F2, hN, hr, ?_, hc, hC, ?_, hd, hdo, hD, ?_⟩, ?_, ?_, ?_, h4, ?_⟩
  · show (X 3).1 4 0 = (mi (mr σ 1 t) 2 0 (nI 1)).1 0 0
    rw [m_miN _ (by decide), m_mrN _ (by decide), hr.1, hs.1]
  · rw [m_miN _ (by decide), m_mrN _ (by decide)]; exact hs
  · rw [m_miN _ (by decide), m_mrN _ (by decide)]; exact hrC
  · rw [m_miN _ (by decide), m_mrN _ (by decide), m_miN _ (by decide), m_mrN _ (by decide)]; exact hrD
  · rw [m_miN _ (by decide), m_mrN _ (by decide), m_miN _ (by decide), m_mrN _ (by decide)]; exact ht
  · refine Or.inr ⟨?_, ?_, n, K, A, B, W, T, C, V, hN, ?_, ?_, hc, ?_, ?_⟩
    · rw [m_xsS, m_miS, m_uS]
    · rw [m_miS, m_uS]
    · exact R_gat.of hn ⟨hr.1, hr.2.1⟩ e2 e3
    · rw [m_miN _ (by decide), m_mrS]
      exact hs.of hn g2
    · exact R_cov.of hc.1 hC f2 f3
    · rw [m_miN _ (by decide), m_mrS]
      exact hrC.of hc.1 g2
  · rw [m_miN _ (by decide), m_mrN _ (by decide), m_miN _ (by decide), m_mrN _ (by decide), m_miN _ (by decide), m_mrN _ (by decide)]
    intro k hk
    rw [m_xsN _ (by omega), m_xsN _ (by omega), m_xsN _ (by omega)]
    exact hsh k hk
  · rw [m_miN _ (by decide), m_mrN _ (by decide)]; exact hw
theorem sim_back {X : XS} {σ : Mem} (h : Rel X σ) : Sim (fX8_back X) (fX9_back σ) := by
  obtain ⟨⟨n, K, A, B, W, T, C, V, d, Sd, Pl, F1, F2, hN, hr, hs, hc, hC, hrC, hd, hdo, hD, hrD⟩, ht, hi, hsh, h4, hw⟩ := id h
  unfold fX8_back fX9_back
  simp only [zl]
  rcases hi with ⟨i1, i2⟩ | ⟨i1, i2, n', K', A', B', W', T', C', V', jN, jr, js, jc, jC, jrC⟩
  · rw [i1, i2, if_pos rfl, if_pos rfl]
    exact Sim.i h
  · obtain ⟨N', e1, e2, e3, e4, e5⟩ := c_become3 (X 3) (X 9)
    obtain ⟨M', f1, f2, f3⟩ := c_become0 (X 6) (X 10)
    obtain ⟨t, g1, g2⟩ := r_copies (σ.1 1) (σ.1 0)
    rw [i1, i2, if_neg (by decide), if_neg (by decide), e1, p_b1, show (xs X 3 N') 6 = X 6 from rfl, show (xs X 3 N') 10 = X 10 from rfl, f1, p_b1, g1, p_b1, p_lt, p_ckI (by decide) (by decide), nI_clamp (by decide)]
    have hg := R_gat.of jN.1 jr e2 e3
    refine Sim.e ?_ ⟨⟨n', K', A', B', W', T', C', V', 0, Sd, Pl, F1, F2, jN, ?_, ?_, jc, R_cov.of jc.1 jC f2 f3, ?_, by omega, trivial, ⟨?_, fun i hi => by omega⟩, ⟨?_, fun i hi => by omega⟩⟩, ?_, ?_, ?_, h4, ?_⟩
    · show N'.1 4 0 = (mi (mr σ 0 t) 4 0 (nI 0)).1 0 0
      rw [m_miN _ (by decide), m_mrS, g2 0 (by decide), hg.1, js.1]
    · refine ⟨hg.1, hg.2, fun m hm => ?_⟩
      show N'.1 5 m = _ ∧ N'.1 6 m = _
      rw [e4, e5]
      exact hr.2.2 m hm
    · rw [m_miN _ (by decide), m_mrS]
      exact js.of jN.1 g2
    · rw [m_miN _ (by decide), m_mrS]
      exact jrC.of jc.1 g2
    · rw [m_xsS, m_miS, m_uS]
    · rw [m_miS, m_uS]
    · rw [m_miN _ (by decide), m_mrN _ (by decide), m_miN _ (by decide), m_mrN _ (by decide)]; exact ht
    · rw [m_miN _ (by decide), m_mrN _ (by decide), m_miN _ (by decide), m_mrN _ (by decide)]
      exact Or.inr ⟨i1, i2, n', K', A', B', W', T', C', V', jN, jr, js, jc, jC, jrC⟩
    · rw [m_miN _ (by decide), m_mrN _ (by decide), m_miN _ (by decide), m_mrN _ (by decide), m_miN _ (by decide), m_mrN _ (by decide)]
      intro k hk
      rw [m_xsN _ (by omega), m_xsN _ (by omega), m_xsN _ (by omega)]
      exact hsh k hk
    · rw [m_miN _ (by decide), m_mrN _ (by decide)]; exact hw
/-! rows that make room, rows that close up -/
def ins (p : Nat) (f : Nat → Nat) (v : Nat) : Nat → Nat := fun i => if i < p then f i else if i = p then v else f (i - 1)
def del (p : Nat) (f : Nat → Nat) : Nat → Nat := fun i => if i < p then f i else f (i + 1)
def gup {α : Type} (f : Nat → α) (T x : Nat) : Nat → α := fun j => if x < j ∧ j ≤ T then f (j - 1) else f j
def gdn {α : Type} (f : Nat → α) (p x : Nat) : Nat → α := fun j => if p ≤ j ∧ j < x then f (j + 1) else f j
theorem gup_T {α : Type} (f : Nat → α) (T : Nat) : gup f T T = f := by
  funext j; unfold gup; rw [if_neg (by omega)]
theorem gdn_p {α : Type} (f : Nat → α) (p : Nat) : gdn f p p = f := by
  funext j; unfold gdn; rw [if_neg (by omega)]
theorem gup_s (f : Nat → Int32) {T x : Nat} (h1 : 0 < x) (h2 : x ≤ T) : upd (gup f T x) x (gup f T x (x - 1)) = gup f T (x - 1) := by
  funext j
  unfold upd gup
  by_cases q : j = x
  · rw [if_pos q, if_neg (by omega), if_pos (by omega), q]
  · rw [if_neg q]
    by_cases z : x < j ∧ j ≤ T
    · rw [if_pos z, if_pos (by omega)]
    · rw [if_neg z, if_neg (by omega)]
theorem gdn_s (f : Nat → Int32) {p x : Nat} (h : p ≤ x) : upd (gdn f p x) x (gdn f p x (x + 1)) = gdn f p (x + 1) := by
  funext j
  unfold upd gdn
  by_cases q : j = x
  · rw [if_pos q, if_neg (by omega), if_pos (by omega), q]
  · rw [if_neg q]
    by_cases z : p ≤ j ∧ j < x
    · rw [if_pos z, if_pos (by omega)]
    · rw [if_neg z, if_neg (by omega)]
theorem c_ins_loop {N : Mem} {T p : Nat} {c v : Int32} (hT : T < 8) (h2 : N.1 2 0 = nI T) : ∀ (d x k : Nat) (N' : Mem), p + d = x → x ≤ T → N'.1 2 0 = nI T → N'.1 0 = gup (N.1 0) T x → N'.1 1 = gup (N.1 1) T x →
    ∃ N'', fX0_insert_b26 (k + d + 1) (nI p) c v (nI x) N' = some N'' ∧ N''.1 2 0 = nI (T + 1) ∧ N''.1 0 = upd (gup (N.1 0) T p) p c ∧ N''.1 1 = upd (gup (N.1 1) T p) p v := by
  intro d
  induction d with
  | zero =>
    intro x k N' hx hxT g2 g0 g1
    have : x = p := by omega
    subst this
    have k1 : ∀ z : Option Mem, ckI (nI x) 8 z = z := fun z => p_ckI (by omega) (by decide)
    rw [fX0_insert_b26, if_pos ((nI_leI (by omega) (by omega)).mpr (Nat.le_refl _)), k1, k1, p_lt, nI_clamp (by omega)]
    refine ⟨_, rfl, ?_, ?_, ?_⟩
    · rw [m_miS, m_uS, m_miN _ (by decide), m_miN _ (by decide), g2, show (1 : Int32) = nI 1 from rfl, nI_add]
    · simp (disch := decide) only [m_miN, m_miS, g0]
    · simp (disch := decide) only [m_miN, m_miS, g1]
  | succ d ih =>
    intro x k N' hx hxT g2 g0 g1
    have k1 : ∀ z : Option Mem, ckI (nI x) 8 z = z := fun z => p_ckI (by omega) (by decide)
    have k2 : ∀ z : Option Mem, ckI (nI (x - 1)) 8 z = z := fun z => p_ckI (by omega) (by decide)
    rw [fX0_insert_b26]
    simp only [zl]
    rw [if_neg (fun q => by rw [nI_leI (by omega) (by omega)] at q; omega)]
    simp only [n_sub (show 1 ≤ x by omega), k1, k2, p_lt, ← Int32.sub_eq_add_neg, nI_clamp (show x < 2 ^ 31 by omega), nI_clamp (show x - 1 < 2 ^ 31 by omega)]
    refine ih (x - 1) k _ (by omega) (by omega) ?_ ?_ ?_
    · rw [m_miN _ (by decide), m_miN _ (by decide)]; exact g2
    · rw [m_miN _ (by decide), m_miS, g0, gup_s _ (by omega) hxT]
    · rw [m_miS, m_miN _ (by decide), g1, gup_s _ (by omega) hxT]
theorem c_insert {N : Mem} {T p c v : Nat} {C V : Nat → Nat} (hT : T < 8) (hp : p ≤ T) (h : R_cov T C V N) : ∃ N', fX0_insert (nI p) (nI c) (nI v) N = some N' ∧ R_cov (T + 1) (ins p C c) (ins p V v) N' := by
  obtain ⟨k, hk⟩ := FU_of 9 (by decide)
  obtain ⟨N', e1, e2, e3, e4⟩ := c_ins_loop (N := N) (p := p) (c := nI c) (v := nI v) hT h.1 (T - p) T (k + 8 - (T - p)) N (by omega) (Nat.le_refl _) h.1 (gup_T _ _).symm (gup_T _ _).symm
  refine ⟨N', ?_, e2, fun i hi => ?_⟩
  · unfold fX0_insert
    simp only [zl]
    rw [c_full0 (by omega) h.1, p_b1, p_if, if_neg (by simp; omega), if_neg (z_neg (by omega)), h.1, if_pos ((nI_leI (by omega) (by omega)).mpr hp), p_lt, hk, show k + 9 = k + 8 - (T - p) + (T - p) + 1 by omega]
    exact e1
  · rw [e3, e4]
    unfold upd gup ins
    by_cases q : i = p
    · subst q
      rw [if_pos rfl, if_pos rfl, if_neg (by omega), if_pos rfl, if_neg (by omega), if_pos rfl]
      exact ⟨rfl, rfl⟩
    · rw [if_neg q, if_neg q, if_neg q, if_neg q]
      by_cases z : i < p
      · rw [if_neg (by omega), if_pos z, if_neg (by omega), if_pos z]
        exact h.2 i (by omega)
      · rw [if_pos ⟨by omega, by omega⟩, if_neg z, if_pos ⟨by omega, by omega⟩, if_neg z]
        exact h.2 (i - 1) (by omega)
theorem r_ins_loop {s : Nat → Int32} {T p : Nat} {c v : Int32} (hT : T < 8) : ∀ (d x k : Nat) (σ : Mem), p + d = x → x ≤ T → (∀ j, j < 50 → σ.1 0 j = s j) → (∀ i, i < 8 → σ.1 0 (50 + 2 * i) = gup (fun i => s (50 + 2 * i)) T x i ∧ σ.1 0 (50 + 2 * i + 1) = gup (fun i => s (50 + 2 * i + 1)) T x i) →
    ∃ σ', fX9_comesTo_b8 (k + d + 1) (nI p) c v (nI x) σ = some σ' ∧ (∀ j, j ≠ 0 → σ'.1 j = σ.1 j) ∧ (∀ j, j < 50 → σ'.1 0 j = if j = 1 then s 1 + nI 1 else s j) ∧ (∀ i, i < 8 → σ'.1 0 (50 + 2 * i) = upd (gup (fun i => s (50 + 2 * i)) T p) p c i ∧ σ'.1 0 (50 + 2 * i + 1) = upd (gup (fun i => s (50 + 2 * i + 1)) T p) p v i) := by
  intro d
  induction d with
  | zero =>
    intro x k σ hx hxT g0 g1
    have : x = p := by omega
    subst this
    rw [fX9_comesTo_b8, if_pos ((nI_leI (by omega) (by omega)).mpr (Nat.le_refl _))]
    simp only [zl, n_mul, nI_add]
    rw [p_ckI (by omega) (by decide), p_lt, p_ckI (by omega) (by decide), p_lt, p_ckI (by decide) (by decide), p_ckI (by decide) (by decide), p_lt, nI_clamp (by omega), nI_clamp (by omega), nI_clamp (by decide)]
    refine ⟨_, rfl, fun j hj => ?_, fun j hj => ?_, fun i hi => ?_⟩
    · rw [m_miN _ hj, m_miN _ hj, m_miN _ hj]
    · rw [m_miS, m_miS, m_miS]
      by_cases q : j = 1
      · subst q
        rw [m_uS, if_pos rfl, m_uN _ (by omega), m_uN _ (by omega), g0 1 (by omega)]
      · rw [m_uN _ q, if_neg q, m_uN _ (by omega), m_uN _ (by omega), g0 j hj]
    · rw [m_miS, m_miS, m_miS]
      by_cases q : i = x
      · subst q
        refine ⟨?_, ?_⟩
        · rw [m_uN _ (by omega), m_uN _ (by omega), m_uS, m_uS]
        · rw [m_uN _ (by omega), m_uS, m_uS]
      · refine ⟨?_, ?_⟩
        · rw [m_uN _ (by omega), m_uN _ (by omega), m_uN _ (by omega), m_uN _ q]
          exact (g1 i hi).1
        · rw [m_uN _ (by omega), m_uN _ (by omega), m_uN _ (by omega), m_uN _ q]
          exact (g1 i hi).2
  | succ d ih =>
    intro x k σ hx hxT g0 g1
    rw [fX9_comesTo_b8]
    simp only [zl, n_mul, nI_add]
    rw [if_neg (fun q => by rw [nI_leI (by omega) (by omega)] at q; omega)]
    simp only [n_sub (show 2 ≤ 50 + 2 * x by omega), n_sub (show 1 ≤ 50 + 2 * x by omega), p_lt, ← Int32.sub_eq_add_neg, n_sub (show 1 ≤ x by omega)]
    rw [p_ckI (by omega) (by decide), p_ckI (by omega) (by decide), p_ckI (by omega) (by decide), p_ckI (by omega) (by decide), nI_clamp (by omega), nI_clamp (by omega), nI_clamp (by omega), nI_clamp (by omega)]
    have ex : (mi σ 0 (50 + 2 * x) (σ.1 0 (50 + 2 * x - 2))).1 0 (50 + 2 * x - 1) = σ.1 0 (50 + 2 * x - 1) := by
      rw [m_miS, m_uN _ (by omega)]
    rw [ex]
    obtain ⟨σ', e1, e2, e3, e4⟩ := ih (x - 1) k (mi (mi σ 0 (50 + 2 * x) (σ.1 0 (50 + 2 * x - 2))) 0 (50 + 2 * x + 1) (σ.1 0 (50 + 2 * x - 1))) (by omega) (by omega) (fun j hj => by rw [m_miS, m_uN _ (by omega), m_miS, m_uN _ (by omega)]; exact g0 j hj) (fun i hi => by
      rw [m_miS, m_miS]
      obtain ⟨a1, a2⟩ := g1 (x - 1) (by omega)
      rw [show 50 + 2 * (x - 1) = 50 + 2 * x - 2 by omega] at a1
      rw [show 50 + 2 * (x - 1) + 1 = 50 + 2 * x - 1 by omega] at a2
      by_cases q : i = x
      · subst q
        refine ⟨?_, ?_⟩
        · rw [m_uN _ (by omega), m_uS, a1]
          unfold gup
          rw [if_neg (by omega), if_pos (by omega)]
        · rw [m_uS, a2]
          unfold gup
          rw [if_neg (by omega), if_pos (by omega)]
      · obtain ⟨b1, b2⟩ := g1 i hi
        refine ⟨?_, ?_⟩
        · rw [m_uN _ (by omega), m_uN _ (by omega), b1]
          unfold gup
          by_cases z : x < i ∧ i ≤ T
          · rw [if_pos z, if_pos (by omega)]
          · rw [if_neg z, if_neg (by omega)]
        · rw [m_uN _ (by omega), m_uN _ (by omega), b2]
          unfold gup
          by_cases z : x < i ∧ i ≤ T
          · rw [if_pos z, if_pos (by omega)]
          · rw [if_neg z, if_neg (by omega)])
    refine ⟨σ', e1, fun j hj => ?_, e3, e4⟩
    rw [e2 j hj, m_miN _ hj, m_miN _ hj]
theorem r_insert {σ : Mem} {n T p c v : Nat} {K A B W C V : Nat → Nat} (hn : n ≤ 12) (hT : T < 8) (hp : p ≤ T) (hs : R_ref n K A B W (σ.1 0)) (h : R_rcov T C V (σ.1 0)) :
    ∃ σ', fX9_comesTo (nI p) (nI c) (nI v) σ = some σ' ∧ (∀ j, j ≠ 0 → σ'.1 j = σ.1 j) ∧ R_ref n K A B W (σ'.1 0) ∧ R_rcov (T + 1) (ins p C c) (ins p V v) (σ'.1 0) := by
  obtain ⟨k, hk⟩ := FU_of 9 (by decide)
  obtain ⟨σ', e1, e2, e3, e4⟩ := r_ins_loop (s := σ.1 0) (p := p) (c := nI c) (v := nI v) hT (T - p) T (k + 8 - (T - p)) σ (by omega) (Nat.le_refl _) (fun _ _ => rfl) (fun i hi => by rw [gup_T, gup_T]; exact ⟨rfl, rfl⟩)
  refine ⟨σ', ?_, e2, ⟨?_, fun g hg => ?_⟩, ?_, fun i hi => ?_⟩
  · unfold fX9_comesTo
    simp only [zl]
    rw [p_ckI (by decide) (by decide), p_lt, nI_clamp (by decide), h.1, hk, show k + 9 = k + 8 - (T - p) + (T - p) + 1 by omega]
    exact e1
  · rw [e3 0 (by decide), if_neg (by decide)]; exact hs.1
  · rw [e3 _ (by omega), e3 _ (by omega), e3 _ (by omega), e3 _ (by omega), if_neg (by omega), if_neg (by omega), if_neg (by omega), if_neg (by omega)]
    exact hs.2 g hg
  · rw [e3 1 (by decide), if_pos rfl, h.1, nI_add]
  · obtain ⟨a1, a2⟩ := e4 i (by omega)
    rw [a1, a2]
    unfold upd gup ins
    by_cases q : i = p
    · subst q
      rw [if_pos rfl, if_pos rfl, if_neg (by omega), if_pos rfl, if_neg (by omega), if_pos rfl]
      exact ⟨rfl, rfl⟩
    · rw [if_neg q, if_neg q, if_neg q, if_neg q]
      by_cases z : i < p
      · rw [if_neg (by omega), if_pos z, if_neg (by omega), if_pos z]
        exact h.2 i (by omega)
      · rw [if_pos ⟨by omega, by omega⟩, if_neg z, if_pos ⟨by omega, by omega⟩, if_neg z]
        exact h.2 (i - 1) (by omega)
theorem covOK_ins {T p c v : Nat} {C V : Nat → Nat} (h : covOK T C V) (hT : T < 8) (hp : p ≤ T) (hc : c < 16) (hv : sub v c = true) : covOK (T + 1) (ins p C c) (ins p V v) := by
  refine ⟨by omega, fun i hi => ?_⟩
  unfold ins
  by_cases q : i < p
  · rw [if_pos q, if_pos q]; exact h.2 i (by omega)
  · rw [if_neg q, if_neg q]
    by_cases z : i = p
    · rw [if_pos z, if_pos z]; exact ⟨hc, hv⟩
    · rw [if_neg z, if_neg z]; exact h.2 (i - 1) (by omega)
theorem c_rem_loop {N : Mem} {T p : Nat} (hT : T < 8) (hp : p ≤ T) : ∀ (d x k : Nat) (N' : Mem), x + d = T → p ≤ x → N'.1 2 0 = nI T → N'.1 0 = gdn (N.1 0) p x → N'.1 1 = gdn (N.1 1) p x →
    ∃ N'', fX0_remove_b21 (k + d + 1) (nI x) N' = some N'' ∧ N''.1 2 0 = nI T ∧ N''.1 0 = gdn (N.1 0) p T ∧ N''.1 1 = gdn (N.1 1) p T := by
  intro d
  induction d with
  | zero =>
    intro x k N' hx hxT g2 g0 g1
    have : x = T := by omega
    subst this
    rw [fX0_remove_b21, g2, if_pos ((nI_leI (by omega) (by omega)).mpr (Nat.le_refl _))]
    exact ⟨_, rfl, g2, g0, g1⟩
  | succ d ih =>
    intro x k N' hx hxT g2 g0 g1
    have k1 : ∀ z : Option Mem, ckI (nI x) 8 z = z := fun z => p_ckI (by omega) (by decide)
    have k2 : ∀ z : Option Mem, ckI (nI (x + 1)) 8 z = z := fun z => p_ckI (by omega) (by decide)
    rw [fX0_remove_b21, g2]
    simp only [zl]
    rw [if_neg (fun q => by rw [nI_leI (by omega) (by omega)] at q; omega)]
    simp only [nI_add, k1, k2, p_lt, nI_clamp (show x < 2 ^ 31 by omega), nI_clamp (show x + 1 < 2 ^ 31 by omega)]
    refine ih (x + 1) k _ (by omega) (by omega) ?_ ?_ ?_
    · rw [m_miN _ (by decide), m_miN _ (by decide)]; exact g2
    · rw [m_miN _ (by decide), m_miS, g0, gdn_s _ hxT]
    · rw [m_miS, m_miN _ (by decide), g1, gdn_s _ hxT]
theorem c_remove {N : Mem} {T p : Nat} {C V : Nat → Nat} (hT : T ≤ 8) (hp : p < T) (h : R_cov T C V N) : ∃ N', fX0_remove (nI p) N = some N' ∧ R_cov (T - 1) (del p C) (del p V) N' := by
  obtain ⟨k, hk⟩ := FU_of 9 (by decide)
  obtain ⟨N', e1, e2, e3, e4⟩ := c_rem_loop (N := N) (T := T - 1) (p := p) (by omega) (by omega) (T - 1 - p) p (k + 8 - (T - 1 - p)) (mi N 2 0 (nI (T - 1))) (by omega) (Nat.le_refl _) rfl (by rw [gdn_p, m_miN _ (by decide)]) (by rw [gdn_p, m_miN _ (by decide)])
  refine ⟨N', ?_, e2, fun i hi => ?_⟩
  · unfold fX0_remove
    simp only [zl]
    rw [c_has0 (n := T) (nI p) (by omega) h.1, p_b1, p_if, inN_nI (by omega), decide_eq_true hp, if_pos rfl, h.1, n_sub (by omega), hk, show k + 9 = k + 8 - (T - 1 - p) + (T - 1 - p) + 1 by omega]
    exact e1
  · rw [e3, e4]
    unfold gdn del
    by_cases q : i < p
    · rw [if_neg (by omega), if_pos q, if_neg (by omega), if_pos q]
      exact h.2 i (by omega)
    · rw [if_pos ⟨by omega, by omega⟩, if_neg q, if_pos ⟨by omega, by omega⟩, if_neg q]
      exact h.2 (i + 1) (by omega)
theorem covOK_del {T p : Nat} {C V : Nat → Nat} (h : covOK T C V) : covOK (T - 1) (del p C) (del p V) := by
  have := h.1
  refine ⟨by omega, fun i hi => ?_⟩
  unfold del
  by_cases q : i < p
  · rw [if_pos q, if_pos q]; exact h.2 i (by omega)
  · rw [if_neg q, if_neg q]; exact h.2 (i + 1) (by omega)
