/-! PURE, 16: added() -/
section HELDS
variable {S : Nat}
/-- the code of the k-th prime, of the k-th open pair: any fit choice -/
def ptab (S : Nat) (E : Nat → Nat) : Prop := ∀ k, k < fb_ct (upr S) 256 → E k < 256 ∧ upr S (E k) = true ∧ fb_ct (upr S) (E k) = k
theorem ptab_ex (S : Nat) : ∃ E, ptab S E := by
  have h : ∀ k, ∃ e, k < fb_ct (upr S) 256 → e < 256 ∧ upr S e = true ∧ fb_ct (upr S) e = k := fun k => by
    by_cases q : k < fb_ct (upr S) 256
    · obtain ⟨e, h1, h2, h3⟩ := fb_ct_kth q
      exact ⟨e, fun _ => ⟨h1, h2, h3⟩⟩
    · exact ⟨0, fun z => absurd z q⟩
  exact ⟨fun k => (h k).choose, fun k hk => (h k).choose_spec hk⟩
theorem otab_ex (f : Nat → Bool) : ∃ E : Nat → Nat, ∀ k, k < fb_ct f 64 → E k < 64 ∧ f (E k) = true ∧ fb_ct f (E k) = k := by
  have h : ∀ k, ∃ e, k < fb_ct f 64 → e < 64 ∧ f e = true ∧ fb_ct f e = k := fun k => by
    by_cases q : k < fb_ct f 64
    · obtain ⟨e, h1, h2, h3⟩ := fb_ct_kth q
      exact ⟨e, fun _ => ⟨h1, h2, h3⟩⟩
    · exact ⟨0, fun z => absurd z q⟩
  exact ⟨fun k => (h k).choose, fun k hk => (h k).choose_spec hk⟩
def kept20 (σ σ' : Mem) : Prop := ∀ j, j ≠ 20 → σ'.1 j = σ.1 j
/-- one row of 'which primes hold it' -/
theorem r_held_in {Q : Nat → Nat → Bool} {m q i x j : Nat} {E : Nat → Nat} (hm : m ≤ 18) (hq : q ≤ 32) (hi : i < q) (hx : x < 16) (hj : j < 4) (hE : ∀ k, k < m → E k < 256) (hQ : ∀ k, k < m → sub (pq x j) (hold (E k / 16) (E k % 16)) = Q k (16 * j + x)) (K10 : Int32 → Mem → Option Mem) : ∀ (d p k : Nat) (σ : Mem), p + d = m → σ.1 19 0 = nI m → σ.1 16 i = nI (16 * x + j) → (∀ k, k < m → σ.1 18 k = nI (E k)) → σ.1 20 i = nI (nb (fun k => Q k (16 * j + x)) p) →
    ∃ σ', fX9_helds_b27 K10 (k + d + 1) (nI i) (nI p) σ = K10 (nI (i + 1)) σ' ∧ kept20 σ σ' ∧ σ'.1 20 i = nI (nb (fun k => Q k (16 * j + x)) m) ∧ ∀ i', i' ≠ i → σ'.1 20 i' = σ.1 20 i' := by
  intro d
  induction d with
  | zero =>
    intro p k σ hp h19 h16 h18 h20
    have : p = m := by omega
    subst this
    rw [fX9_helds_b27, h19, if_pos ((nI_leI (by omega) (by omega)).mpr (Nat.le_refl _)), p_lt, show (1 : Int32) = nI 1 from rfl, nI_add]
    exact ⟨σ, rfl, fun _ _ => rfl, h20, fun _ _ => rfl⟩
  | succ d ih =>
    intro p k σ hp h19 h16 h18 h20
    have hpm : p < m := by omega
    have hEp := hE p hpm
    obtain ⟨hp1, -, -⟩ := pq_lt x hx j hj
    have hh := hold_lt (E p / 16) (E p % 16)
    have k16 : ∀ z : Option Mem, ck0 (nI 16) z = z := fun z => p_ck0 (by decide) (by decide)
    have ki : ∀ z : Option Mem, ckI (nI i) 32 z = z := fun z => p_ckI (by omega) (by decide)
    have kp : ∀ z : Option Mem, ckI (nI p) 32 z = z := fun z => p_ckI (by omega) (by decide)
    have hQp := hQ p hpm
    rw [fX9_helds_b27, h19]
    unfold fX9_helds_b85
    simp only [zl, p_lt, nI_add, k16, ki, kp]
    rw [if_neg (fun q => by rw [nI_leI (by omega) (by omega)] at q; omega), nI_clamp (show i < 2 ^ 31 by omega), nI_clamp (show p < 2 ^ 31 by omega), h16, h18 p hpm, h20, n_rem16 (by omega), n_div16 (by omega), r_pairOf x hx j hj, p_b1, r_holdsBy (by omega) (by omega), p_b1, n_shl1 p (by omega), fa_or, fa_or]
    have cont : ∀ v, v = nb (fun k => Q k (16 * j + x)) (p + 1) → ∃ σ', fX9_helds_b27 K10 (k + d + 1) (nI i) (nI (p + 1)) (mi σ 20 i (nI v)) = K10 (nI (i + 1)) σ' ∧ kept20 σ σ' ∧ σ'.1 20 i = nI (nb (fun k => Q k (16 * j + x)) m) ∧ ∀ i', i' ≠ i → σ'.1 20 i' = σ.1 20 i' := by
      intro v hv
      obtain ⟨σ', g1, g2, g3, g4⟩ := ih (p + 1) k (mi σ 20 i (nI v)) (by omega) (by rw [m_miN _ (by decide)]; exact h19) (by rw [m_miN _ (by decide)]; exact h16) (by rw [m_miN _ (by decide)]; exact h18) (by rw [m_miS, m_uS, hv])
      refine ⟨σ', g1, fun j hj => by rw [g2 j hj, m_miN _ hj], g3, fun i' hi' => ?_⟩
      rw [g4 i' hi', m_miS, m_uN _ hi']
    have e2 := nb_or2 (fun k => Q k (16 * j + x)) (show p < 31 by omega)
    rw [fa_or] at e2
    have e3 : nb (fun k => Q k (16 * j + x)) p ||| (if Q p (16 * j + x) = true then 2 ^ p else 0) = nb (fun k => Q k (16 * j + x)) (p + 1) := by
      have b1 := nb_lt (fun k => Q k (16 * j + x)) (p + 1)
      have b2 := nb_lt (fun k => Q k (16 * j + x)) p
      have b3 : 2 ^ (p + 1) ≤ 2 ^ 18 := Nat.pow_le_pow_right (by decide) (by omega)
      have b4 : (if Q p (16 * j + x) = true then 2 ^ p else 0) < 2 ^ (p + 1) := by
        have := Nat.two_pow_pos p
        rw [Nat.pow_succ]
        split <;> omega
      have b5 : nb (fun k => Q k (16 * j + x)) p ||| (if Q p (16 * j + x) = true then 2 ^ p else 0) < 2 ^ (p + 1) := Nat.or_lt_two_pow (by rw [Nat.pow_succ]; omega) b4
      exact (nI_eq (by omega) (by omega)).mp e2
    by_cases z : sub (pq x j) (hold (E p / 16) (E p % 16)) = true
    · rw [if_pos (by rw [n_sub0 (by omega) (by omega)]; exact z)]
      exact cont _ (by rw [← e3, if_pos (by rw [← hQp]; exact z)])
    · rw [if_neg (by rw [n_sub0 (by omega) (by omega)]; exact z)]
      exact cont _ (by rw [← e3, if_neg (by rw [← hQp]; exact z)])
theorem r_held_out {Q : Nat → Nat → Bool} {m q : Nat} {E Cd : Nat → Nat} (hm : m ≤ 18) (hq : q ≤ 32) (hCd : ∀ i, i < q → Cd i < 64) (hE : ∀ k, k < m → E k < 256) (hQ : ∀ k, k < m → ∀ i, i < q → sub (pq (Cd i / 4) (Cd i % 4)) (hold (E k / 16) (E k % 16)) = Q k (16 * (Cd i % 4) + Cd i / 4)) : ∀ (d i k : Nat) (σ : Mem), i + d = q → σ.1 17 0 = nI q → σ.1 19 0 = nI m → (∀ i, i < q → σ.1 16 i = nI (16 * (Cd i / 4) + Cd i % 4)) → (∀ k, k < m → σ.1 18 k = nI (E k)) → (∀ i', i' < i → σ.1 20 i' = nI (nb (fun k => Q k (16 * (Cd i' % 4) + Cd i' / 4)) m)) →
    ∃ σ', fX9_helds_b10 (k + d + 1) (nI i) σ = some σ' ∧ kept20 σ σ' ∧ R_hd Q m q (fun i => 16 * (Cd i % 4) + Cd i / 4) σ' := by
  intro d
  induction d with
  | zero =>
    intro i k σ hi h17 h19 h16 h18 h20
    have : i = q := by omega
    subst this
    rw [fX9_helds_b10, h17, if_pos ((nI_leI (by omega) (by omega)).mpr (Nat.le_refl _))]
    exact ⟨σ, rfl, fun _ _ => rfl, h17, h19, h20⟩
  | succ d ih =>
    intro i k σ hi h17 h19 h16 h18 h20
    have hCi := hCd i (by omega)
    obtain ⟨k2, hk2⟩ := FU_of 19 (by decide)
    obtain ⟨σ1, g1, g2, g3, g4⟩ := r_held_in (q := q) hm hq (show i < q by omega) (show Cd i / 4 < 16 by omega) (show Cd i % 4 < 4 by omega) hE (fun k hk => hQ k hk i (by omega)) (fX9_helds_b10 (k + d + 1)) m 0 (k2 + 18 - m) (mi σ 20 i (nI 0)) (by omega) (by rw [m_miN _ (by decide)]; exact h19) (by rw [m_miN _ (by decide)]; exact h16 i (by omega)) (by rw [m_miN _ (by decide)]; exact h18) (by rw [m_miS, m_uS]; rfl)
    have f : ∀ j, j ≠ 20 → σ1.1 j = σ.1 j := fun j hj => by rw [g2 j hj, m_miN _ hj]
    obtain ⟨σ2, g5, g6, g7⟩ := ih (i + 1) k σ1 (by omega) (by rw [f 17 (by decide)]; exact h17) (by rw [f 19 (by decide)]; exact h19) (by rw [f 16 (by decide)]; exact h16) (by rw [f 18 (by decide)]; exact h18) (fun i' hi' => by
      by_cases z : i' = i
      · rw [z]; exact g3
      · rw [g4 i' z, m_miS, m_uN _ z]
        exact h20 i' (by omega))
    refine ⟨σ2, ?_, fun j hj => by rw [g6 j hj, f j hj], g7⟩
    rw [show k + (d + 1) + 1 = (k + d + 1) + 1 by omega, fX9_helds_b10, h17]
    simp only [zl, p_lt]
    rw [if_neg (fun q => by rw [nI_leI (by omega) (by omega)] at q; omega), p_ckI (by omega) (by decide), nI_clamp (by omega), hk2, show k2 + 19 = k2 + 18 - m + m + 1 by omega, g1]
    exact g5
end HELDS
def SimL (a : Option (Int64 × XS)) (b : Option (Int64 × Mem)) : Prop := ∃ r X' σ', a = some (r, X') ∧ b = some (r, σ') ∧ Rel X' σ'
theorem sim_added {X : XS} {σ : Mem} (h : Rel X σ) (p0 : Int32) : SimL (fX8_added p0 X) (fX9_added p0 σ) := by
  obtain ⟨⟨n, K, A, B, W, T, C, V, d, Sd, Pl, F1, F2, hN, hr, hs, hc, hC, hrC, hd, hdo, hD, hrD⟩, hrest⟩ := id h
  unfold fX8_added fX9_added
  simp only [zl]
  rw [r_isIn, c_within0 p0 (by decide), p_b1, p_b1, p_if, p_if]
  by_cases q2 : inN p0 (1 + 1) = true
  · rw [if_pos q2, if_pos q2]
    have hS := stn_lt C V T
    obtain ⟨E, hE⟩ := ptab_ex (stn C V T)
    obtain ⟨Cd, hCd⟩ := otab_ex (opq (stn C V T) C V T)
    have hm := upr_18 hS
    have hq := opq_le (stn C V T) C V T (Nat.le_refl 64)
    obtain ⟨N', e1, e2, e3, G, e4, e5⟩ := c_find hS (X 7)
    obtain ⟨σ1, a1, a2, a3⟩ := r_primes hc hrC
    obtain ⟨σ2, b1, b2, b3⟩ := r_opens (σ := σ1) hc (by rw [a2 0 (by decide) (by decide)]; exact hrC)
    generalize hmm : fb_ct (upr (stn C V T)) 256 = m at hm e2 e4 e5
    have hE' : ∀ k, k < m → E k < 256 ∧ upr (stn C V T) (E k) = true ∧ fb_ct (upr (stn C V T)) (E k) = k := fun k hk => hE k (by rw [hmm]; exact hk)
    generalize hqq : fb_ct (opq (stn C V T) C V T) 64 = q at hq
    have hCd' : ∀ i, i < q → Cd i < 64 ∧ opq (stn C V T) C V T (Cd i) = true ∧ fb_ct (opq (stn C V T) C V T) (Cd i) = i := fun i hi => hCd i (by rw [hqq]; exact hi)
    obtain ⟨Q, hQd⟩ : ∃ Q : Nat → Nat → Bool, Q = fun k i => pr (hold (E k / 16) (E k % 16)) i := ⟨_, rfl⟩
    have hnb : ∀ i, i < q → (Cd i / 4).testBit (Cd i % 4) = false := fun i hi => by
      obtain ⟨c1, c2, c3⟩ := hCd' i hi
      unfold opq at c2
      rw [opq_eq _ _ _ (show Cd i / 4 < 16 by omega) (show Cd i % 4 < 4 by omega)] at c2
      have := (and2 c2).1
      revert this
      cases (Cd i / 4).testBit (Cd i % 4) <;> simp
    obtain ⟨σ3, g1, g2, g3⟩ := r_held_out (Q := Q) (m := m) (q := q) (E := E) (Cd := Cd) hm hq (fun i hi => (hCd' i hi).1) (fun k hk => (hE' k hk).1) (fun k hk i hi => by
      obtain ⟨c1, c2, c3⟩ := hCd' i hi
      rw [hQd]
      show _ = pr _ _
      rw [pr_sub (show Cd i / 4 < 16 by omega) (show Cd i % 4 < 4 by omega), hnb i hi]; rfl) q 0 (FU - q - 1) σ2 (by omega) (by rw [← hqq]; exact b3.1) (by rw [b2 19 (by decide) (by decide), ← hmm]; exact a3.1) (fun i hi => by
      obtain ⟨c1, c2, c3⟩ := hCd' i hi
      have := b3.2 (Cd i) c1 c2
      rw [c3] at this
      exact this) (fun k hk => by
      obtain ⟨c1, c2, c3⟩ := hE' k hk
      have := a3.2 (E k) c1 c2
      rw [c3] at this
      rw [b2 18 (by decide) (by decide)]
      exact this) (fun i' hi' => by omega)
    have hFU := FU_ge
    rw [show FU - q - 1 + q + 1 = FU by omega] at g1
    have hR : Rel (xs X 7 N') σ3 := h.scr (fun k _ _ _ _ h7 => m_xsN _ h7 _) (samN.rf _) (fun q => q) (fun k hk => by rw [g2 k (by omega), b2 k (by omega) (by omega), a2 k (by omega) (by omega)])
    -- what an open pair asks
    have ho : ∀ s, cov Q m (opl (stn C V T) C V T) s ↔ ∀ i, i < q → ∃ j, j < m ∧ s.testBit j = true ∧ Q j (16 * (Cd i % 4) + Cd i / 4) = true := fun s => by
      constructor
      · intro hcv i hi
        obtain ⟨c1, c2, c3⟩ := hCd' i hi
        exact hcv _ (by omega) c2
      · intro hcv i hi hoi
        have hc2 : opq (stn C V T) C V T (4 * (i % 16) + i / 16) = true := by
          unfold opq
          rw [show 16 * ((4 * (i % 16) + i / 16) % 4) + (4 * (i % 16) + i / 16) / 4 = i by omega]
          exact hoi
        have hlt : fb_ct (opq (stn C V T) C V T) (4 * (i % 16) + i / 16) < q := by
          have m1 := fb_ct_mono (opq (stn C V T) C V T) (show 4 * (i % 16) + i / 16 + 1 ≤ 64 by omega)
          have es := fb_ct_succ (opq (stn C V T) C V T) (4 * (i % 16) + i / 16)
          rw [if_pos hc2] at es
          omega
        obtain ⟨c1, c2, c3⟩ := hCd' _ hlt
        have e := fb_ct_kth_one c2 hc2 c3
        have := hcv _ hlt
        rw [e, show 16 * ((4 * (i % 16) + i / 16) % 4) + (4 * (i % 16) + i / 16) / 4 = i by omega] at this
        exact this
    have hall : cov Q m (opl (stn C V T) C V T) (2 ^ m - 1) := fun i hi hoi => by
      obtain ⟨e, u1, u2, u3⟩ := pair_prime hi (opl_mono _ _ _ _ _ hoi)
      have hlt : fb_ct (upr (stn C V T)) e < m := by
        have m1 := fb_ct_mono (upr (stn C V T)) (show e + 1 ≤ 256 by omega)
        have es := fb_ct_succ (upr (stn C V T)) e
        rw [if_pos u2] at es
        omega
      obtain ⟨c1, c2, c3⟩ := hE' _ hlt
      have ee := fb_ct_kth_one c2 u2 c3
      refine ⟨_, hlt, by rw [Nat.testBit_two_pow_sub_one]; exact decide_eq_true hlt, ?_⟩
      rw [hQd]
      show pr _ _ = true
      rw [ee]
      exact u3
    obtain ⟨s, f1, f2⟩ := c_fewest (Q := Q) (G := G) (N := N') (m := m) (o := opl (stn C V T) C V T) hm e2 (fun j hj => by
      obtain ⟨c1, c2, c3⟩ := hE' j hj
      have := (e3 (E j) c1 c2).2.2
      rw [c3] at this
      rw [this, hQd]) (fun j hj => e4 j hj) (fun j hj k hk1 hk2 i hi hq => by
      obtain ⟨c1, c2, c3⟩ := hE' j hj
      rw [hQd] at hq
      exact e5 (E j) c1 c2 k (by rw [c3]; exact hk1) hk2 i hi hq) hall
    have hmp : 2 ^ m ≤ 2 ^ 18 := Nat.pow_le_pow_right (by decide) hm
    obtain ⟨y, y1, y2⟩ := r_added_loop (Q := Q) hm hq ho g3 p0 (2 ^ m) 0 (FU - 2 ^ m - 1) (-nI 1) (by omega) (Or.inl ⟨rfl, fun s hs => by omega⟩)
    rw [show FU - 2 ^ m - 1 + 2 ^ m + 1 = FU by omega] at y2
    have hbest : ∃ b, y = nI b ∧ best Q m (opl (stn C V T) C V T) b := by
      rcases y1 with ⟨-, y3⟩ | ⟨b, y3, y4, y5, y6⟩
      · exact absurd f2.2.1 (y3 s f2.1)
      · exact ⟨b, y3, y4, y5, y6⟩
    obtain ⟨b, rfl, hb⟩ := hbest
    have hsb := best_one f2 hb
    subst hsb
    have hs18 : s < 2 ^ 18 := Nat.lt_of_lt_of_le f2.1 hmp
    unfold fX9_helds
    rw [c_stands hc hC, p_b1, e1, p_b1, show (xs X 7 N') 6 = X 6 from rfl, c_openPairs hc hC, p_b1, m_xsS, f1, p_b1, a1, p_b1, b1, p_b1]
    simp only [zl]
    rw [g1, p_b1, y2, nI_l (by omega), L64_of, bitCountL, bitsL, p_b1, p_b1]
    by_cases z : p0 = nI 0
    · rw [if_pos z, if_pos z]
      exact ⟨_, _, _, rfl, rfl, hR⟩
    · rw [if_neg z, if_neg z]
      exact ⟨_, _, _, rfl, rfl, hR⟩
  · rw [if_neg q2, if_neg q2]
    exact ⟨_, _, _, rfl, rfl, h⟩
