/-! PURE, 10: term, off, undo -/
theorem and_not {a b : Nat} (ha : a < 2 ^ 32) : a &&& (b ^^^ 4294967295) = 0 ↔ a &&& b = a := by
  constructor
  · intro h
    refine Nat.eq_of_testBit_eq (fun i => ?_)
    have h2 : (a &&& (b ^^^ 4294967295)).testBit i = false := by rw [h, Nat.zero_testBit]
    rw [Nat.testBit_and, Nat.testBit_xor, show (4294967295 : Nat) = 2 ^ 32 - 1 from rfl, Nat.testBit_two_pow_sub_one] at h2
    rw [Nat.testBit_and]
    by_cases q : i < 32
    · rw [decide_eq_true q, Bool.xor_true] at h2
      cases h3 : a.testBit i <;> cases h4 : b.testBit i <;> simp_all
    · rw [Nat.testBit_lt_two_pow (Nat.lt_of_lt_of_le ha (Nat.pow_le_pow_right (by decide) (by omega)))]
      rfl
  · intro h
    refine Nat.eq_of_testBit_eq (fun i => ?_)
    have h2 : (a &&& b).testBit i = a.testBit i := by rw [h]
    rw [Nat.testBit_and] at h2
    rw [Nat.zero_testBit, Nat.testBit_and, Nat.testBit_xor, show (4294967295 : Nat) = 2 ^ 32 - 1 from rfl, Nat.testBit_two_pow_sub_one]
    by_cases q : i < 32
    · rw [decide_eq_true q, Bool.xor_true]
      cases h3 : a.testBit i <;> cases h4 : b.testBit i <;> simp_all
    · rw [Nat.testBit_lt_two_pow (Nat.lt_of_lt_of_le ha (Nat.pow_le_pow_right (by decide) (by omega)))]
      rfl
theorem nI_0' {a : Nat} (ha : a < 2 ^ 32) (h : nI a = nI 0) : a = 0 := by
  have e : (nI a).toBitVec.toNat = (nI 0).toBitVec.toNat := by rw [h]
  have e1 : (nI a).toBitVec.toNat = a := by
    show (BitVec.ofNat 32 a).toNat = a
    rw [BitVec.toNat_ofNat, Nat.mod_eq_of_lt ha]
  rw [e1] at e
  exact e
theorem term_in (p : Int32) {c : Nat} (hc : c < 16) : (p &&& (nI c ^^^ -nI 1) = nI 0) ↔ ∃ v, v < 16 ∧ p = nI v ∧ sub v c = true := by
  constructor
  · intro h
    obtain ⟨m, hm, rfl⟩ := wb_of32 p
    rw [n_neg1, fb_xorI, fa_and] at h
    have h2 := nI_0' (Nat.lt_of_le_of_lt Nat.and_le_left hm) h
    have h3 := (and_not hm).mp h2
    refine ⟨m, ?_, rfl, decide_eq_true h3⟩
    have h4 : m &&& c ≤ c := Nat.and_le_right
    rw [h3] at h4
    omega
  · rintro ⟨v, hv, rfl, h⟩
    rw [n_neg1, fb_xorI, fa_and, (and_not (show v < 2 ^ 32 by omega)).mpr (of_decide_eq_true h)]
theorem sim_addTerm {X : XS} {σ : Mem} (h : Rel X σ) (p0 p1 : Int32) : Sim (fX8_addTerm p0 p1 X) (fX9_term p0 p1 σ) := by
  obtain ⟨⟨n, K, A, B, W, T, C, V, d, Sd, Pl, F1, F2, hN, hr, hs, hc, hC, hrC, hd, hdo, hD, hrD⟩, hrest⟩ := id h
  have hn := hN.1
  have hT := hc.1
  unfold fX8_addTerm fX9_term fX9_isTerm
  simp only [zl]
  rw [c_stand, r_isIn, c_within0 p0 (by decide), c_within0 p1 (by decide), p_b1, p_if, p_b1, p_if]
  by_cases q : inN p0 16 = true
  · rw [if_pos q, if_pos q, p_b1, p_if]
    obtain ⟨c, hc16, -, rfl⟩ := inN_t q
    by_cases q2 : p1 &&& (nI c ^^^ -nI 1) = nI 0
    · obtain ⟨v, hv, rfl, hsub⟩ := (term_in p1 hc16).mp q2
      rw [if_pos q2, if_pos q2, inN_nI (by omega), decide_eq_true (by omega), if_pos rfl, p_b1, if_neg (by decide), c_full0 (by omega) hC.1, p_b1, p_if, p_ckI (by decide) (by decide), nI_clamp (by decide), hrC.1, i_eqP (by omega) (by decide)]
      by_cases q3 : T = 8
      · rw [if_pos (decide_eq_true (by omega)), if_pos q3]
        exact Sim.i h
      · obtain ⟨N6, a1, a2⟩ := c_insert (c := c) (v := v) (show T < 8 by omega) (Nat.le_refl T) hC
        obtain ⟨N8, b1, b2⟩ := c_note hd hD 2 T 0 0
        obtain ⟨σ1, s1, s2, s3, s4⟩ := r_insert (c := c) (v := v) hn (show T < 8 by omega) (Nat.le_refl T) hs hrC
        obtain ⟨σ2, t1, t2, t3⟩ := r_does (σ := σ1) (p' := 0) hd (by rw [s2 3 (by decide), s2 4 (by decide)]; exact hrD) 2 T 0 0 (fun z => by omega)
        rw [if_neg (by simp; omega), if_neg q3, hC.1, p_lt, a1, p_b1, show (xs X 6 N6) 8 = X 8 from rfl, b1, p_b1, p_ckI (by decide) (by decide), s1, p_b1, t1, p_b1, p_ckI (by decide) (by decide), t3 0 (by decide) (by decide), s4.1, n_sub (by omega), Nat.add_sub_cancel]
        refine Sim.i ⟨⟨n, K, A, B, W, T + 1, _, _, _, _, _, _, _, hN, hr, ?_, covOK_ins hc (by omega) (Nat.le_refl T) hc16 hsub, a2, ?_, pd_le hd, dOK_2 hd hdo, b2, t2⟩, R_rest.same hrest (fun k h3 h6 h8 => by rw [m_xsN _ h8, m_xsN _ h6]) (fun k h0 h3 h4 => by rw [t3 k h3 h4, s2 k h0])⟩
        · rw [t3 0 (by decide) (by decide)]; exact s3
        · rw [t3 0 (by decide) (by decide)]; exact s4
    · rw [if_neg q2]
      by_cases q4 : inN p1 (15 + 1) = true
      · rw [if_pos q4, if_neg q2, p_b1, if_pos rfl]
        exact Sim.i h
      · rw [if_neg q4, p_b1, if_pos rfl]
        exact Sim.i h
  · rw [if_neg q, if_neg q, p_b1, if_pos rfl]
    exact Sim.i h
theorem sim_term {X : XS} {σ : Mem} (h : Rel X σ) (p0 p1 : Int32) : Sim (fX8_term p0 p1 X) (fX9_term p0 p1 σ) := by
  obtain ⟨r, X', σ', h1, h2, h3⟩ := sim_addTerm h p0 p1
  unfold fX8_term
  rw [h1, p_b2, h2]
  exact Sim.i h3
theorem r_off_loop {s : Nat → Int32} {T p : Nat} (hT0 : 0 < T) (hT : T ≤ 8) (h1 : s 1 = nI T) : ∀ (d x k : Nat) (σ : Mem), x + d = T - 1 → p ≤ x → (∀ j, j < 50 → σ.1 0 j = s j) → (∀ i, i < 8 → σ.1 0 (50 + 2 * i) = gdn (fun i => s (50 + 2 * i)) p x i ∧ σ.1 0 (50 + 2 * i + 1) = gdn (fun i => s (50 + 2 * i + 1)) p x i) →
    ∃ σ', fX9_off_b51 (k + d + 1) (nI x) σ = some (nI (T - 1), σ') ∧ (∀ j, j ≠ 0 → σ'.1 j = σ.1 j) ∧ (∀ j, j < 50 → σ'.1 0 j = if j = 1 then nI (T - 1) else s j) ∧ (∀ i, i < 8 → σ'.1 0 (50 + 2 * i) = gdn (fun i => s (50 + 2 * i)) p (T - 1) i ∧ σ'.1 0 (50 + 2 * i + 1) = gdn (fun i => s (50 + 2 * i + 1)) p (T - 1) i) := by
  intro d
  induction d with
  | zero =>
    intro x k σ hx hpx g0 g1
    have : x = T - 1 := by omega
    subst this
    have k1 : ∀ z : Option (Int32 × Mem), ckI (nI 1) 66 z = z := fun z => p_ckI (by decide) (by decide)
    rw [fX9_off_b51]
    simp only [zl, k1, nI_clamp (show 1 < 2 ^ 31 by decide), p_lt]
    rw [g0 1 (by decide), h1, n_sub hT0, if_pos ((nI_leI (by omega) (by omega)).mpr (Nat.le_refl _)), m_miS, m_uS]
    refine ⟨_, rfl, fun j hj => m_miN _ hj _ _, fun j hj => ?_, fun i hi => ?_⟩
    · rw [m_miS]
      by_cases q : j = 1
      · rw [q, m_uS, if_pos rfl]
      · rw [m_uN _ q, if_neg q]; exact g0 j hj
    · rw [m_miS, m_uN _ (by omega), m_uN _ (by omega)]
      exact g1 i hi
  | succ d ih =>
    intro x k σ hx hpx g0 g1
    have k1 : ∀ z : Option (Int32 × Mem), ckI (nI 1) 66 z = z := fun z => p_ckI (by decide) (by decide)
    rw [fX9_off_b51]
    simp only [zl, k1, nI_clamp (show 1 < 2 ^ 31 by decide), p_lt, n_mul, nI_add]
    rw [g0 1 (by decide), h1, n_sub hT0, if_neg (fun q => by rw [nI_leI (by omega) (by omega)] at q; omega), p_ckI (by omega) (by decide), p_ckI (by omega) (by decide), p_ckI (by omega) (by decide), p_ckI (by omega) (by decide), nI_clamp (by omega), nI_clamp (by omega), nI_clamp (by omega), nI_clamp (by omega)]
    have ex : (mi σ 0 (50 + 2 * x) (σ.1 0 (50 + 2 * x + 2))).1 0 (50 + 2 * x + 3) = σ.1 0 (50 + 2 * x + 3) := by
      rw [m_miS, m_uN _ (by omega)]
    rw [ex]
    obtain ⟨σ', e1, e2, e3, e4⟩ := ih (x + 1) k (mi (mi σ 0 (50 + 2 * x) (σ.1 0 (50 + 2 * x + 2))) 0 (50 + 2 * x + 1) (σ.1 0 (50 + 2 * x + 3))) (by omega) (by omega) (fun j hj => by rw [m_miS, m_uN _ (by omega), m_miS, m_uN _ (by omega)]; exact g0 j hj) (fun i hi => by
      rw [m_miS, m_miS]
      obtain ⟨a1, a2⟩ := g1 (x + 1) (by omega)
      rw [show 50 + 2 * (x + 1) = 50 + 2 * x + 2 by omega] at a1 a2
      by_cases q : i = x
      · subst q
        refine ⟨?_, ?_⟩
        · rw [m_uN _ (by omega), m_uS, a1]
          unfold gdn
          rw [if_neg (by omega), if_pos (by omega)]
        · rw [m_uS, show 50 + 2 * i + 3 = 50 + 2 * i + 2 + 1 by omega, a2]
          unfold gdn
          rw [if_neg (by omega), if_pos (by omega)]
      · obtain ⟨b1, b2⟩ := g1 i hi
        refine ⟨?_, ?_⟩
        · rw [m_uN _ (by omega), m_uN _ (by omega), b1]
          unfold gdn
          by_cases z : p ≤ i ∧ i < x
          · rw [if_pos z, if_pos (by omega)]
          · rw [if_neg z, if_neg (by omega)]
        · rw [m_uN _ (by omega), m_uN _ (by omega), b2]
          unfold gdn
          by_cases z : p ≤ i ∧ i < x
          · rw [if_pos z, if_pos (by omega)]
          · rw [if_neg z, if_neg (by omega)])
    refine ⟨σ', e1, fun j hj => ?_, e3, e4⟩
    rw [e2 j hj, m_miN _ hj, m_miN _ hj]
theorem r_off {σ : Mem} {n T p : Nat} {K A B W C V : Nat → Nat} (hn : n ≤ 12) (hT : T ≤ 8) (hp : p < T) (hs : R_ref n K A B W (σ.1 0)) (h : R_rcov T C V (σ.1 0)) :
    ∃ σ', fX9_off_b51 FU (nI p) σ = some (nI (T - 1), σ') ∧ (∀ j, j ≠ 0 → σ'.1 j = σ.1 j) ∧ R_ref n K A B W (σ'.1 0) ∧ R_rcov (T - 1) (del p C) (del p V) (σ'.1 0) := by
  obtain ⟨k, hk⟩ := FU_of 9 (by decide)
  obtain ⟨σ', e1, e2, e3, e4⟩ := r_off_loop (s := σ.1 0) (p := p) (by omega) hT h.1 (T - 1 - p) p (k + 8 - (T - 1 - p)) σ (by omega) (Nat.le_refl _) (fun _ _ => rfl) (fun i hi => by rw [gdn_p, gdn_p]; exact ⟨rfl, rfl⟩)
  refine ⟨σ', ?_, e2, ⟨?_, fun g hg => ?_⟩, ?_, fun i hi => ?_⟩
  · rw [hk, show k + 9 = k + 8 - (T - 1 - p) + (T - 1 - p) + 1 by omega]
    exact e1
  · rw [e3 0 (by decide), if_neg (by decide)]; exact hs.1
  · rw [e3 _ (by omega), e3 _ (by omega), e3 _ (by omega), e3 _ (by omega), if_neg (by omega), if_neg (by omega), if_neg (by omega), if_neg (by omega)]
    exact hs.2 g hg
  · rw [e3 1 (by decide), if_pos rfl]
  · obtain ⟨a1, a2⟩ := e4 i (by omega)
    rw [a1, a2]
    unfold gdn del
    by_cases q : i < p
    · rw [if_neg (by omega), if_pos q, if_neg (by omega), if_pos q]
      exact h.2 i (by omega)
    · rw [if_pos ⟨by omega, by omega⟩, if_neg q, if_pos ⟨by omega, by omega⟩, if_neg q]
      exact h.2 (i + 1) (by omega)
theorem sim_off {X : XS} {σ : Mem} (h : Rel X σ) (p0 : Int32) : Sim (fX8_off p0 X) (fX9_off p0 σ) := by
  obtain ⟨⟨n, K, A, B, W, T, C, V, d, Sd, Pl, F1, F2, hN, hr, hs, hc, hC, hrC, hd, hdo, hD, hrD⟩, hrest⟩ := id h
  have hn := hN.1
  have hT := hc.1
  unfold fX8_off fX9_off
  simp only [zl]
  rw [c_has0 p0 (by omega) hC.1, p_b1, p_if, p_ckI (by decide) (by decide), nI_clamp (by decide), hrC.1, r_isIn, c_below p0 (by omega), p_b1, p_if]
  by_cases q : inN p0 T = true
  · rw [if_pos q, if_pos q]
    obtain ⟨p, hp, -, rfl⟩ := inN_t q
    obtain ⟨a0, a1⟩ := hC.2 p hp
    obtain ⟨b0, b1⟩ := hrC.2 p hp
    obtain ⟨t0, t1⟩ := hc.2 p hp
    have k1 : ∀ z : Option (Int32 × XS), ckI (nI p) 8 z = z := fun z => p_ckI (by omega) (by decide)
    obtain ⟨N8, c1, c2⟩ := c_note hd hD 3 p (C p) (V p)
    obtain ⟨N6, d1, d2⟩ := c_remove hT hp hC
    obtain ⟨σ1, s1, s2, s3⟩ := r_does (σ := σ) hd hrD 3 p p (C p) (V p) (fun _ => rfl)
    obtain ⟨σ2, u1, u2, u3, u4⟩ := r_off (σ := σ1) hn hT hp (by rw [s3 0 (by decide) (by decide)]; exact hs) (by rw [s3 0 (by decide) (by decide)]; exact hrC)
    rw [k1, k1, nI_clamp (by omega), a0, a1, c1, p_b1, show (xs X 8 N8) 6 = X 6 from rfl, d1, p_b1, m_xsS, d2.1, n_mul, nI_add, nI_add, p_ckI (by omega) (by decide), p_ckI (by omega) (by decide), nI_clamp (by omega), nI_clamp (by omega), b0, b1, s1, p_b1, u1]
    refine Sim.i ⟨⟨n, K, A, B, W, T - 1, _, _, _, _, _, _, _, hN, hr, u3, covOK_del hc, d2, u4, pd_le hd, dOK_3 hd ?_ (by omega) (by omega) t0 t1, c2, ?_⟩, R_rest.same hrest (fun k h3 h6 h8 => by rw [m_xsN _ h6, m_xsN _ h8]) (fun k h0 h3 h4 => by rw [u2 k h0, s3 k h3 h4])⟩
    · rw [show T - 1 + 1 = T by omega]; exact hdo
    · rw [u2 3 (by decide), u2 4 (by decide)]; exact s2
  · rw [if_neg q, if_neg q]
    exact Sim.i h
theorem R_deeds.less {d : Nat} {Sd Pl F1 F2 : Nat → Nat} {N : Mem} (h : R_deeds (d + 1) Sd Pl F1 F2 N) : R_deeds d Sd Pl F1 F2 (mi N 4 0 (nI d)) :=
  ⟨rfl, fun i hi => h.2 i (by omega)⟩
theorem sim_undo {X : XS} {σ : Mem} (h : Rel X σ) : Sim (fX8_undo X) (fX9_undo σ) := by
  obtain ⟨⟨n, K, A, B, W, T, C, V, d, Sd, Pl, F1, F2, hN, hr, hs, hc, hC, hrC, hd, hdo, hD, hrD⟩, hrest⟩ := id h
  have hn := hN.1
  have hT := hc.1
  unfold fX8_undo fX9_undo fX1_takeLatest
  simp only [zl]
  rw [hD.1, hrD.1, i_eq0 (by omega), i_eq0 (by omega), i_leP (by omega) (by decide)]
  cases d with
  | zero =>
    rw [if_pos rfl, if_pos rfl]
    exact Sim.i h
  | succ d =>
    rw [if_neg (by omega), if_neg (by omega), if_neg (by omega), p_b2, n_sub (by omega), Nat.add_sub_cancel, m_miS, m_uS, m_xsS]
    obtain ⟨a0, a1, a2, a3⟩ := hD.2 d (by omega)
    obtain ⟨b0, b1, b2, b3⟩ := hrD.2 d (by omega)
    have k1 : ∀ z : Option (Int32 × XS), ckI (nI d) 6 z = z := fun z => p_ckI (by omega) (by decide)
    have c1 : (nI d).toNatClampNeg = d := nI_clamp (by omega)
    have e8 : ∀ f, f < 4 → (mi (X 8) 4 0 (nI d)).1 f = (X 8).1 f := fun f hf => m_miN _ (by omega) _ _
    have hD' := hD.less
    have hrD' : R_rdeeds d Sd Pl F1 F2 (σ.1 3) (nI d) := ⟨rfl, fun i hi => hrD.2 i (by omega)⟩
    have e3 : (mi σ 4 0 (nI d)).1 3 = σ.1 3 := m_miN _ (by decide) _ _
    have e0 : (mi σ 4 0 (nI d)).1 0 = σ.1 0 := m_miN _ (by decide) _ _
    have e4 : (mi σ 4 0 (nI d)).1 4 0 = nI d := rfl
    simp only [k1, c1, p_lt, e8 0 (by decide), e8 1 (by decide), e8 2 (by decide), e8 3 (by decide), a0, a1, a2, a3, e3, e4, e0, n_mul, nI_add]
    rw [p_ckI (by omega) (by decide), p_ckI (by omega) (by decide), nI_clamp (show 4 * d < 2 ^ 31 by omega), nI_clamp (show 4 * d + 1 < 2 ^ 31 by omega), b0]
    rw [dOK] at hdo
    rcases hdo with ⟨s0, h0, hp, hf1, hf2, hdo⟩ | ⟨s0, hp, hf1, hf1', hf2, hdo⟩ | ⟨s0, h0, hp, hf1, hf2, hdo⟩ | ⟨s0, hp, hT8, hf1, hf2, hdo⟩
    · rw [s0, if_pos rfl, if_pos rfl, show (xs X 8 (mi (X 8) 4 0 (nI d))) 3 = X 3 from rfl, p_ckI (by decide) (by decide), p_ckI (by decide) (by decide), nI_clamp (by decide), hs.1, n_sub h0]
      unfold fX3_removeLast
      simp only [zl]
      rw [hr.1, if_neg (fun z => by rw [nI_leI (by omega) (by decide)] at z; omega), p_b1, n_sub h0]
      refine Sim.i ⟨⟨n - 1, K, A, B, W, T, C, V, d, Sd, Pl, F1, F2, ⟨by omega, fun g hg => hN.2 g (by omega)⟩, ⟨rfl, fun g hg => hr.2.1 g (by omega), hr.2.2⟩, ⟨rfl, fun g hg => ?_⟩, hc, hC, ⟨?_, fun i hi => ?_⟩, by omega, hdo, hD', hrD'⟩, R_rest.same hrest (fun k h3 h6 h8 => by rw [m_xsN _ h3, m_xsN _ h8]) (fun k h0 h3 h4 => by rw [m_miN _ h0, m_miN _ h4])⟩
      · rw [m_miS, e0, m_uN _ (by omega), m_uN _ (by omega), m_uN _ (by omega), m_uN _ (by omega)]
        exact hs.2 g (by omega)
      · rw [m_miS, e0, m_uN _ (by omega)]; exact hrC.1
      · rw [m_miS, e0, m_uN _ (by omega), m_uN _ (by omega)]
        exact hrC.2 i hi
    · have hb1 := b1 (Or.inl s0)
      rw [s0, if_neg (by decide), if_pos rfl, if_neg (by decide), if_pos rfl, hb1, show (xs X 8 (mi (X 8) 4 0 (nI d))) 3 = X 3 from rfl, p_ckI (by omega) (by decide), nI_clamp (by omega), b2, n_mul, nI_add, nI_add, p_ckI (by omega) (by decide), nI_clamp (by omega)]
      unfold fX3_setDelay
      simp only [zl]
      rw [c_has3 (n := n) (nI (Pl d)) (by omega) hr.1, p_b1, p_if, inN_nI (by omega), decide_eq_true hp, if_pos rfl, p_ckI (by omega) (by decide), p_b1, nI_clamp (by omega)]
      refine Sim.i ⟨⟨n, K, A, B, _, T, C, V, d, Sd, Pl, F1, F2, ?_, R_netW hr (Pl d) (F1 d), ⟨?_, fun u hu => ?_⟩, hc, hC, ⟨?_, fun i hi => ?_⟩, by omega, hdo, hD', hrD'⟩, R_rest.same hrest (fun k h3 h6 h8 => by rw [m_xsN _ h3, m_xsN _ h8]) (fun k h0 h3 h4 => by rw [m_miN _ h0, m_miN _ h4])⟩
      · refine ⟨hn, fun u hu => ?_⟩
        obtain ⟨x1, x2, x3, x4, x5⟩ := hN.2 u hu
        refine ⟨x1, x2, x3, ?_⟩
        show 1 ≤ (if u = Pl d then F1 d else W u) ∧ (if u = Pl d then F1 d else W u) ≤ 9
        split <;> omega
      · rw [m_miS, e0, m_uN _ (by omega)]; exact hs.1
      · obtain ⟨x1, x2, x3, x4⟩ := hs.2 u hu
        rw [m_miS, e0, m_uN _ (by omega), m_uN _ (by omega), m_uN _ (by omega)]
        refine ⟨x1, x2, x3, ?_⟩
        unfold upd
        show (if 2 + 4 * u + 3 = 2 + 4 * Pl d + 3 then _ else _) = nI (if u = Pl d then F1 d else W u)
        by_cases z : u = Pl d
        · rw [if_pos (by omega), if_pos z]
        · rw [if_neg (by omega), if_neg z]; exact x4
      · rw [m_miS, e0, m_uN _ (by omega)]; exact hrC.1
      · rw [m_miS, e0, m_uN _ (by omega), m_uN _ (by omega)]
        exact hrC.2 i hi
    · obtain ⟨N6, d1, d2⟩ := c_remove hT (show Pl d < T by omega) hC
      rw [s0, if_neg (by decide), if_neg (by decide), if_pos rfl, if_neg (by decide), if_neg (by decide), if_pos rfl, show (xs X 8 (mi (X 8) 4 0 (nI d))) 6 = X 6 from rfl, d1, p_b1, p_ckI (by decide) (by decide), p_ckI (by decide) (by decide), nI_clamp (by decide), hrC.1, n_sub h0]
      refine Sim.i ⟨⟨n, K, A, B, W, T - 1, _, _, d, Sd, Pl, F1, F2, hN, hr, ⟨?_, fun g hg => ?_⟩, covOK_del hc, d2, ⟨?_, fun i hi => ?_⟩, by omega, hdo, hD', hrD'⟩, R_rest.same hrest (fun k h3 h6 h8 => by rw [m_xsN _ h6, m_xsN _ h8]) (fun k h0 h3 h4 => by rw [m_miN _ h0, m_miN _ h4])⟩
      · rw [m_miS, e0, m_uN _ (by omega)]; exact hs.1
      · rw [m_miS, e0, m_uN _ (by omega), m_uN _ (by omega), m_uN _ (by omega), m_uN _ (by omega)]
        exact hs.2 g hg
      · rw [m_miS, m_uS]
      · rw [m_miS, e0, m_uN _ (by omega), m_uN _ (by omega)]
        unfold del
        rw [if_pos (by omega), if_pos (by omega)]
        exact hrC.2 i (by omega)
    · have hb1 := b1 (Or.inr s0)
      obtain ⟨N6, d1, d2⟩ := c_insert (c := F1 d) (v := F2 d) hT8 hp hC
      obtain ⟨σ1, u1, u2, u3, u4⟩ := r_insert (σ := mi σ 4 0 (nI d)) (c := F1 d) (v := F2 d) hn hT8 hp (by rw [e0]; exact hs) (by rw [e0]; exact hrC)
      rw [s0, if_neg (by decide), if_neg (by decide), if_neg (by decide), if_neg (by decide), if_neg (by decide), if_neg (by decide), show (xs X 8 (mi (X 8) 4 0 (nI d))) 6 = X 6 from rfl, d1, p_b1, p_ckI (by omega) (by decide), p_ckI (by omega) (by decide), nI_clamp (by omega), nI_clamp (by omega), b2, b3, hb1, u1, p_b1, u2 4 (by decide)]
      refine Sim.i ⟨⟨n, K, A, B, W, T + 1, _, _, d, Sd, Pl, F1, F2, hN, hr, u3, covOK_ins hc hT8 hp hf1 hf2, d2, u4, by omega, hdo, hD', ?_⟩, R_rest.same hrest (fun k h3 h6 h8 => by rw [m_xsN _ h6, m_xsN _ h8]) (fun k h0 h3 h4 => by rw [u2 k h0, m_miN _ h4])⟩
      rw [u2 3 (by decide), u2 4 (by decide), e3]
      exact hrD'
