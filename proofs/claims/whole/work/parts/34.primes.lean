/-! PURE, 14: the list of the primes on both sides; prime(); pairs that primes reach -/
theorem upr_le {S : Nat} (hS : S < 65536) {e : Nat} (he : e ≤ 256) : fb_ct (upr S) e ≤ 18 := Nat.le_trans (fb_ct_mono _ he) (upr_18 hS)
theorem upr_lt {S : Nat} (hS : S < 65536) {e : Nat} (he : e < 256) (h : upr S e = true) : fb_ct (upr S) e < 18 := by
  have h1 := upr_le hS (show e + 1 ≤ 256 by omega)
  have h2 := fb_ct_succ (upr S) e
  rw [if_pos h] at h2
  omega
/-- between the last WANTS of CARES c and the first of the next there is no prime -/
theorem upr_gap (S c : Nat) (hc : c < 16) : ∀ d, c + 1 + d ≤ 16 → fb_ct (upr S) (16 * c + (c + 1) + d) = fb_ct (upr S) (16 * c + (c + 1)) := by
  intro d
  induction d with
  | zero => intro _; rfl
  | succ d ih =>
    intro h
    have e : upr S (16 * c + (c + 1) + d) = false := by
      unfold upr
      have hs : sub ((16 * c + (c + 1) + d) % 16) ((16 * c + (c + 1) + d) / 16) = false := by
        cases z : sub ((16 * c + (c + 1) + d) % 16) ((16 * c + (c + 1) + d) / 16)
        · rfl
        · have := sub_lt (show (16 * c + (c + 1) + d) / 16 < c + 1 by omega) z
          omega
      rw [hs, Bool.false_and]
    have es := fb_ct_succ (upr S) (16 * c + (c + 1) + d)
    rw [e, ih (by omega)] at es
    exact es
theorem upr_next (S c : Nat) (hc : c < 16) : fb_ct (upr S) (16 * (c + 1)) = fb_ct (upr S) (16 * c + (c + 1)) := by
  have h := upr_gap S c hc (16 - (c + 1)) (by omega)
  rw [show 16 * c + (c + 1) + (16 - (c + 1)) = 16 * (c + 1) by omega] at h
  exact h
/-- the class's primes below code e -/
def C_pr (S e : Nat) (N : Mem) : Prop := N.1 2 0 = nI (fb_ct (upr S) e) ∧ (∀ e', e' < e → upr S e' = true → N.1 0 (fb_ct (upr S) e') = nI (e' / 16) ∧ N.1 1 (fb_ct (upr S) e') = nI (e' % 16) ∧ N.2 3 (fb_ct (upr S) e') = L64 (pr (hold (e' / 16) (e' % 16)))) ∧
  ∃ G : Nat → Nat → Bool, (∀ k, k ≤ fb_ct (upr S) e → N.2 4 k = L64 (G k)) ∧ ∀ e', e' < e → upr S e' = true → ∀ k, fb_ct (upr S) e' < k → k ≤ fb_ct (upr S) e → ∀ i, i < 64 → pr (hold (e' / 16) (e' % 16)) i = true → G k i = true
def R_pm (S e : Nat) (σ : Mem) : Prop := σ.1 19 0 = nI (fb_ct (upr S) e) ∧ ∀ e', e' < e → upr S e' = true → σ.1 18 (fb_ct (upr S) e') = nI e'
def kept18 (σ σ' : Mem) : Prop := ∀ j, j ≠ 18 → j ≠ 19 → σ'.1 j = σ.1 j
theorem ct_ne {f : Nat → Bool} {i j : Nat} (hi : f i = true) (hj : f j = true) (h : i < j) : fb_ct f i < fb_ct f j := by
  have h1 := fb_ct_mono f (show i + 1 ≤ j by omega)
  have h2 := fb_ct_succ f i
  rw [if_pos hi] at h2
  omega
theorem C_pr.skip {S e : Nat} {N : Mem} (h : C_pr S e N) (q : upr S e = false) : C_pr S (e + 1) N := by
  have es : fb_ct (upr S) (e + 1) = fb_ct (upr S) e := by rw [fb_ct_succ, q]; rfl
  obtain ⟨h1, h2, G, h3, h4⟩ := h
  refine ⟨by rw [es]; exact h1, fun e' he hq => ?_, G, by rw [es]; exact h3, fun e' he hq => ?_⟩
  · by_cases z : e' = e
    · rw [z, q] at hq; cases hq
    · exact h2 e' (by omega) hq
  · by_cases z : e' = e
    · rw [z, q] at hq; cases hq
    · rw [es]; exact h4 e' (by omega) hq
theorem R_pm.skip {S e : Nat} {σ : Mem} (h : R_pm S e σ) (q : upr S e = false) : R_pm S (e + 1) σ := by
  have es : fb_ct (upr S) (e + 1) = fb_ct (upr S) e := by rw [fb_ct_succ, q]; rfl
  refine ⟨by rw [es]; exact h.1, fun e' he hq => ?_⟩
  by_cases z : e' = e
  · rw [z, q] at hq; cases hq
  · exact h.2 e' (by omega) hq
theorem c_append {S c w : Nat} {N : Mem} (hS : S < 65536) (hc : c < 16) (hw : w < 16) (h : C_pr S (16 * c + w) N) (q : upr S (16 * c + w) = true) : ∃ N', fX4_append (nI c) (nI w) N = some N' ∧ C_pr S (16 * c + w + 1) N' := by
  have hlt := upr_lt hS (show 16 * c + w < 256 by omega) q
  have d1 : (16 * c + w) / 16 = c := by omega
  have d2 : (16 * c + w) % 16 = w := by omega
  have hsub : sub w c = true := by
    have := (and2 q).1
    rw [d1, d2] at this
    exact this
  obtain ⟨h1, h2, G, h3, h4⟩ := h
  generalize hz : fb_ct (upr S) (16 * c + w) = z at h1 h3 h4 hlt
  have es : fb_ct (upr S) (16 * c + w + 1) = z + 1 := by rw [fb_ct_succ, q, hz]; rfl
  have k1 : ∀ y : Option Mem, ckI (nI z) 32 y = y := fun y => p_ckI (by omega) (by decide)
  have k2 : ∀ y : Option Mem, ckI (nI z) 33 y = y := fun y => p_ckI (by omega) (by decide)
  have k3 : ∀ y : Option Mem, ckI (nI (z + 1)) 33 y = y := fun y => p_ckI (by omega) (by decide)
  have c1 : (nI z).toNatClampNeg = z := nI_clamp (by omega)
  have c2 : (nI (z + 1)).toNatClampNeg = z + 1 := nI_clamp (by omega)
  unfold fX4_append
  simp (disch := decide) only [zl, m_miN, m_ml1, h1, nI_add, k1, k2, k3, c1, c2, p_lt]
  rw [if_pos ((nI_ltI (by omega) (by decide)).mpr (by omega)), c_held hc hsub, p_b1, c_pairs (hold_lt _ _), p_b1]
  simp (disch := decide) only [m_mlS, m_mlN, m_mi2, m_miN, m_ml1, h1, m_uLS]
  refine ⟨_, rfl, ?_, fun e' he hq => ?_, (fun k i => if k = z + 1 then (G z i || pr (hold c w) i) else G k i), fun k hk => ?_, fun e' he hq k hk1 hk2 i hi hp => ?_⟩
  · rw [m_miS, m_uS, es]
  · simp (disch := decide) only [m_miN, m_miS, m_mi2, m_mlS, m_mlN, m_ml1]
    by_cases zz : e' = 16 * c + w
    · subst zz
      rw [hz, d1, d2, m_uS, m_uS, m_uLS]
      exact ⟨rfl, rfl, rfl⟩
    · have hne := ct_ne hq q (show e' < 16 * c + w by omega)
      rw [hz] at hne
      rw [m_uN _ (by omega), m_uN _ (by omega), m_uLN _ (by omega)]
      exact h2 e' (by omega) hq
  · simp (disch := decide) only [m_mi2, m_mlS, m_mlN]
    rw [es] at hk
    by_cases zz : k = z + 1
    · subst zz
      rw [m_uLS, h3 z (Nat.le_refl _), L64_or]
      exact L64_cong (fun i _ => by rw [if_pos rfl])
    · rw [m_uLN _ zz, h3 k (by omega)]
      exact L64_cong (fun i _ => by rw [if_neg zz])
  · rw [es] at hk2
    show (if k = z + 1 then (G z i || pr (hold c w) i) else G k i) = true
    by_cases zz : k = z + 1
    · rw [if_pos zz]
      by_cases z3 : e' = 16 * c + w
      · rw [z3, d1, d2] at hp
        rw [hp, Bool.or_true]
      · have hne := ct_ne hq q (show e' < 16 * c + w by omega)
        rw [hz] at hne
        rw [h4 e' (by omega) hq z hne (Nat.le_refl _) i hi hp]
        rfl
    · rw [if_neg zz]
      by_cases z3 : e' = 16 * c + w
      · rw [z3, hz] at hk1
        omega
      · exact h4 e' (by omega) hq k hk1 (by omega) i hi hp
theorem c_find_in {S : Nat} (hS : S < 65536) (K7 : Int32 → Int32 → Mem → Option Mem) {c : Nat} (hc : c < 16) : ∀ (d w k : Nat) (N : Mem), w + d = c + 1 → C_pr S (16 * c + w) N →
    ∃ N', fX4_find_b15 K7 (k + d + 1) (nI S) (nI c) (nI w) N = K7 (nI S) (nI (c + 1)) N' ∧ C_pr S (16 * (c + 1)) N' := by
  intro d
  induction d with
  | zero =>
    intro w k N hw h
    have : w = c + 1 := by omega
    subst this
    rw [fX4_find_b15, if_pos ((nI_ltI (by omega) (by omega)).mpr (by omega)), p_lt, show (1 : Int32) = nI 1 from rfl, nI_add]
    refine ⟨N, rfl, ?_⟩
    have g := upr_next S c hc
    obtain ⟨h1, h2, G, h3, h4⟩ := h
    have gap : ∀ e', e' < 16 * (c + 1) → upr S e' = true → e' < 16 * c + (c + 1) := fun e' he hq => by
      have h5 := fb_ct_succ (upr S) e'
      rw [if_pos hq] at h5
      by_cases z : e' < 16 * c + (c + 1)
      · exact z
      · have m1 := fb_ct_mono (upr S) (show e' + 1 ≤ 16 * (c + 1) by omega)
        have m2 := fb_ct_mono (upr S) (show 16 * c + (c + 1) ≤ e' by omega)
        omega
    exact ⟨by rw [g]; exact h1, fun e' he hq => h2 e' (gap e' he hq) hq, G, by rw [g]; exact h3, fun e' he hq => by rw [g]; exact h4 e' (gap e' he hq) hq⟩
  | succ d ih =>
    intro w k N hw h
    have hw16 : w < 16 := by omega
    have d1 : (16 * c + w) / 16 = c := by omega
    have d2 : (16 * c + w) % 16 = w := by omega
    have eu : upr S (16 * c + w) = (sub w c && prm S c w) := by unfold upr; rw [d1, d2]
    rw [fX4_find_b15]
    unfold fX4_find_b43
    simp only [zl, p_lt, nI_add]
    rw [if_neg (fun q => by rw [nI_ltI (by omega) (by omega)] at q; omega)]
    by_cases q : sub w c = true
    · rw [if_pos (by rw [n_sub0 (by omega) (by omega)]; exact q), c_prime hc q hS, p_b1, p_if]
      by_cases q2 : prm S c w = true
      · obtain ⟨N1, g1, g2⟩ := c_append hS hc hw16 h (by rw [eu, q, q2]; rfl)
        rw [if_pos q2, g1, p_b1]
        exact ih (w + 1) k N1 (by omega) g2
      · rw [if_neg q2]
        exact ih (w + 1) k N (by omega) (h.skip (by rw [eu, ts_nt q2, Bool.and_false]))
    · rw [if_neg (by rw [n_sub0 (by omega) (by omega)]; exact q)]
      exact ih (w + 1) k N (by omega) (h.skip (by rw [eu, ts_nt q, Bool.false_and]))
theorem c_find {S : Nat} (hS : S < 65536) (N : Mem) : ∃ N', fX4_find (nI S) N = some N' ∧ C_pr S 256 N' := by
  have go : ∀ (d c k : Nat) (N : Mem), c + d = 16 → C_pr S (16 * c) N → ∃ N', fX4_find_b7 (k + d + 1) (nI S) (nI c) N = some N' ∧ C_pr S 256 N' := by
    intro d
    induction d with
    | zero =>
      intro c k N hc h
      have : c = 16 := by omega
      subst this
      rw [fX4_find_b7, if_pos (by decide)]
      exact ⟨N, rfl, h⟩
    | succ d ih =>
      intro c k N hc h
      obtain ⟨k2, hk2⟩ := FU_of 18 (by decide)
      obtain ⟨N1, g1, g2⟩ := c_find_in hS (fX4_find_b7 (k + d + 1)) (show c < 16 by omega) (c + 1) 0 (k2 + 16 - c) N (by omega) h
      rw [show k + (d + 1) + 1 = (k + d + 1) + 1 by omega, fX4_find_b7]
      simp only [zl]
      rw [if_neg (fun q => by rw [nI_leI (by omega) (by omega)] at q; omega), hk2, show k2 + 18 = k2 + 16 - c + (c + 1) + 1 by omega, g1]
      exact ih (c + 1) k N1 (by omega) g2
  obtain ⟨k, hk⟩ := FU_of 17 (by decide)
  unfold fX4_find
  rw [hk]
  obtain ⟨n0, hn0, e0⟩ := wb_of (N.2 4 0)
  refine go 16 0 k _ rfl ⟨by rw [m_miS, m_uS]; rfl, fun e' he => by omega, (fun _ i => n0.testBit i), fun j hj => ?_, fun e' he => by omega⟩
  have hj0 : fb_ct (upr S) (16 * 0) = 0 := rfl
  rw [hj0] at hj
  have : j = 0 := by omega
  subst this
  show N.2 4 0 = _
  rw [e0]
  exact L64_of n0
theorem r_find_in {S : Nat} (hS : S < 65536) (K7 : Int32 → Int32 → Mem → Option Mem) {c : Nat} (hc : c < 16) : ∀ (d w k : Nat) (σ : Mem), w + d = c + 1 → R_pm S (16 * c + w) σ →
    ∃ σ', fX9_primesAll_b20 K7 (k + d + 1) (nI S) (nI c) (nI w) σ = K7 (nI S) (nI (c + 1)) σ' ∧ kept18 σ σ' ∧ R_pm S (16 * (c + 1)) σ' := by
  intro d
  induction d with
  | zero =>
    intro w k σ hw h
    have : w = c + 1 := by omega
    subst this
    rw [fX9_primesAll_b20, if_pos ((nI_ltI (by omega) (by omega)).mpr (by omega)), p_lt, show (1 : Int32) = nI 1 from rfl, nI_add]
    refine ⟨σ, rfl, fun _ _ _ => rfl, ?_⟩
    have g := upr_next S c hc
    have gap : ∀ e', e' < 16 * (c + 1) → upr S e' = true → e' < 16 * c + (c + 1) := fun e' he hq => by
      have h5 := fb_ct_succ (upr S) e'
      rw [if_pos hq] at h5
      by_cases z : e' < 16 * c + (c + 1)
      · exact z
      · have m1 := fb_ct_mono (upr S) (show e' + 1 ≤ 16 * (c + 1) by omega)
        have m2 := fb_ct_mono (upr S) (show 16 * c + (c + 1) ≤ e' by omega)
        omega
    exact ⟨by rw [g]; exact h.1, fun e' he hq => h.2 e' (gap e' he hq) hq⟩
  | succ d ih =>
    intro w k σ hw h
    have hw16 : w < 16 := by omega
    have d1 : (16 * c + w) / 16 = c := by omega
    have d2 : (16 * c + w) % 16 = w := by omega
    have eu : upr S (16 * c + w) = (sub w c && prm S c w) := by unfold upr; rw [d1, d2]
    rw [fX9_primesAll_b20]
    unfold fX9_primesAll_b70
    simp only [zl, p_lt, nI_add, n_mul]
    rw [if_neg (fun q => by rw [nI_ltI (by omega) (by omega)] at q; omega)]
    by_cases q : sub w c = true
    · rw [if_pos (by rw [n_sub0 (by omega) (by omega)]; exact q), r_prime hc q hS, p_b1, p_if]
      by_cases q2 : prm S c w = true
      · have hu : upr S (16 * c + w) = true := by rw [eu, q, q2]; rfl
        have hlt := upr_lt hS (show 16 * c + w < 256 by omega) hu
        have es := fb_ct_succ (upr S) (16 * c + w)
        rw [if_pos hu] at es
        rw [if_pos q2, h.1, p_ckI (by omega) (by decide), nI_clamp (by omega), m_miN _ (show (19 : Nat) ≠ 18 by decide), h.1, nI_add]
        obtain ⟨σ', g1, g2, g3⟩ := ih (w + 1) k (mi (mi σ 18 (fb_ct (upr S) (16 * c + w)) (nI (16 * c + w))) 19 0 (nI (fb_ct (upr S) (16 * c + w) + 1))) (by omega) ⟨by rw [m_miS, m_uS, show 16 * c + (w + 1) = 16 * c + w + 1 by omega, es], fun e' he hq => by
          rw [m_miN _ (by decide), m_miS]
          by_cases zz : e' = 16 * c + w
          · rw [zz, m_uS]
          · have hne := ct_ne hq hu (show e' < 16 * c + w by omega)
            rw [m_uN _ (by omega)]
            exact h.2 e' (by omega) hq⟩
        refine ⟨σ', g1, fun j a b => ?_, g3⟩
        rw [g2 j a b, m_miN _ b, m_miN _ a]
      · rw [if_neg q2]
        exact ih (w + 1) k σ (by omega) (h.skip (by rw [eu, ts_nt q2, Bool.and_false]))
    · rw [if_neg (by rw [n_sub0 (by omega) (by omega)]; exact q)]
      exact ih (w + 1) k σ (by omega) (h.skip (by rw [eu, ts_nt q, Bool.false_and]))
theorem r_primes {T : Nat} {C V : Nat → Nat} {σ : Mem} (hc : covOK T C V) (hr : R_rcov T C V (σ.1 0)) : ∃ σ', fX9_primesAll σ = some σ' ∧ kept18 σ σ' ∧ R_pm (stn C V T) 256 σ' := by
  have hS := stn_lt C V T
  have go : ∀ (d c k : Nat) (σ : Mem), c + d = 16 → R_pm (stn C V T) (16 * c) σ → ∃ σ', fX9_primesAll_b12 (k + d + 1) (nI (stn C V T)) (nI c) σ = some σ' ∧ kept18 σ σ' ∧ R_pm (stn C V T) 256 σ' := by
    intro d
    induction d with
    | zero =>
      intro c k σ hc h
      have : c = 16 := by omega
      subst this
      rw [fX9_primesAll_b12, if_pos (by decide)]
      exact ⟨σ, rfl, fun _ _ _ => rfl, h⟩
    | succ d ih =>
      intro c k σ hc h
      obtain ⟨k2, hk2⟩ := FU_of 18 (by decide)
      obtain ⟨σ1, g1, g2, g3⟩ := r_find_in hS (fX9_primesAll_b12 (k + d + 1)) (show c < 16 by omega) (c + 1) 0 (k2 + 16 - c) σ (by omega) h
      obtain ⟨σ2, g4, g5, g6⟩ := ih (c + 1) k σ1 (by omega) g3
      refine ⟨σ2, ?_, fun j a b => by rw [g5 j a b, g2 j a b], g6⟩
      rw [show k + (d + 1) + 1 = (k + d + 1) + 1 by omega, fX9_primesAll_b12]
      simp only [zl]
      rw [if_neg (fun q => by rw [nI_leI (by omega) (by omega)] at q; omega), hk2, show k2 + 18 = k2 + 16 - c + (c + 1) + 1 by omega, g1]
      exact g4
  obtain ⟨k, hk⟩ := FU_of 17 (by decide)
  obtain ⟨σ', g1, g2, g3⟩ := go 16 0 k (mi σ 19 0 (nI 0)) rfl ⟨by rw [m_miS, m_uS]; rfl, fun e' he => by omega⟩
  refine ⟨σ', ?_, fun j a b => by rw [g2 j a b, m_miN _ b], g3⟩
  unfold fX9_primesAll
  simp only [zl, p_lt]
  rw [r_covered hc hr, p_b1, hk]
  exact g1
theorem sim_prime {X : XS} {σ : Mem} (h : Rel X σ) (p0 : Int32) : Sim (fX8_prime p0 X) (fX9_prime p0 σ) := by
  obtain ⟨⟨n, K, A, B, W, T, C, V, d, Sd, Pl, F1, F2, hN, hr, hs, hc, hC, hrC, hd, hdo, hD, hrD⟩, hrest⟩ := id h
  have hS := stn_lt C V T
  obtain ⟨N', e1, e2⟩ := c_find hS (X 7)
  obtain ⟨σ', g1, g2, g3⟩ := r_primes hc hrC
  have hR : Rel (xs X 7 N') σ' := h.scr (fun k _ _ _ _ h7 => m_xsN _ h7 _) (samN.rf _) (fun q => q) (fun k hk => g2 k (by omega) (by omega))
  have hle := upr_18 hS
  unfold fX8_prime fX9_prime
  simp only [zl]
  rw [c_stands hc hC, p_b1, e1, p_b1, g1, p_b1, m_xsS, e2.1, g3.1]
  by_cases q : p0 = -nI 1
  · rw [if_pos q, if_pos q]
    exact Sim.i hR
  · rw [if_neg q, if_neg q, r_isIn, c_below p0 (by omega), p_b1, p_b1, p_if, p_if]
    by_cases q2 : inN p0 (fb_ct (upr (stn C V T)) 256) = true
    · rw [if_pos q2, if_pos q2]
      obtain ⟨m, hm, -, rfl⟩ := inN_t q2
      obtain ⟨e0, he0, hq0, hm0⟩ := fb_ct_kth hm
      obtain ⟨a0, a1, -⟩ := e2.2.1 e0 he0 hq0
      have b0 := g3.2 e0 he0 hq0
      rw [hm0] at a0 a1 b0
      rw [p_ckI (by omega) (by decide), p_ckI (by omega) (by decide), p_ckI (by omega) (by decide), nI_clamp (by omega), a0, a1, b0, n_mul, nI_add]
      exact Sim.e (by congr 1; omega) hR
    · rw [if_neg q2, if_neg q2]
      exact Sim.i hR
