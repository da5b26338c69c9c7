/-! PURE, 15: the fewest primes that hold all open pairs: a search by halves beside one through all sets -/
/-- a set of the first m primes holds all of o -/
def cov (Q : Nat → Nat → Bool) (m : Nat) (o : Nat → Bool) (s : Nat) : Prop := ∀ i, i < 64 → o i = true → ∃ j, j < m ∧ s.testBit j = true ∧ Q j i = true
def lsok (Q : Nat → Nat → Bool) (m k : Nat) (o : Nat → Bool) (s : Nat) : Prop := s < 2 ^ m ∧ fb_ct (fun j => s.testBit j) m ≤ k ∧ cov Q m o s
theorem lg_eq (x y : Int64) : (lg_cmp x y = nI 0) ↔ x = y := by
  unfold lg_cmp
  constructor
  · intro h
    by_cases q : x > y
    · rw [if_pos q] at h; exact absurd h (by decide)
    · rw [if_neg q] at h
      by_cases z : x = y
      · exact z
      · rw [if_neg z] at h; exact absurd h (by decide)
  · intro h
    subst h
    rw [if_neg (fun q => Int64.lt_irrefl q), if_pos rfl]
    rfl
theorem L64_zero {f : Nat → Bool} : L64 f = lN 0 ↔ ∀ i, i < 64 → f i = false := by
  constructor
  · intro h i hi
    rw [L64_0] at h
    exact L64_inj h hi
  · intro h
    rw [L64_0]
    exact L64_cong h
theorem lN_ne {s : Nat} (h : s < 2 ^ 62) : ¬ lN s = -lN 1 := by
  intro e
  have e1 : (lN s).toInt = (-lN 1).toInt := by rw [e]
  rw [show (-lN 1).toInt = -1 by decide] at e1
  have e2 : (lN s).toInt = (s : Int) := lg_ofNat_toInt (by omega)
  omega
theorem two_split {s m : Nat} (h : s < 2 ^ (m + 1)) : (s.testBit m = false ∧ s < 2 ^ m) ∨ (s.testBit m = true ∧ 2 ^ m ≤ s ∧ s - 2 ^ m < 2 ^ m ∧ ∀ j, j < m → (s - 2 ^ m).testBit j = s.testBit j) := by
  have hp : 2 ^ (m + 1) = 2 ^ m + 2 ^ m := by rw [Nat.pow_succ]; omega
  by_cases q : s < 2 ^ m
  · exact Or.inl ⟨Nat.testBit_lt_two_pow q, q⟩
  · obtain ⟨r, rfl⟩ : ∃ r, s = 2 ^ m + r := ⟨s - 2 ^ m, by omega⟩
    have hr : r < 2 ^ m := by omega
    refine Or.inr ⟨?_, by omega, by omega, fun j hj => ?_⟩
    · rw [Nat.testBit_two_pow_add_eq, Nat.testBit_lt_two_pow hr]; rfl
    · rw [Nat.add_sub_cancel_left, Nat.testBit_two_pow_add_gt hj]
section LSET
variable {Q : Nat → Nat → Bool} {G : Nat → Nat → Bool} {s0 s1 : Nat → Int64} {m : Nat}
theorem c_least (hm : m ≤ 18) (h0 : ∀ j, j < m → s0 j = L64 (Q j)) (h1 : ∀ j, j ≤ m → s1 j = L64 (G j)) (hG : ∀ j, j < m → ∀ k, j < k → k ≤ m → ∀ i, i < 64 → Q j i = true → G k i = true) : ∀ (first fuel most : Nat) (o : Nat → Bool), first ≤ m → first < fuel → most ≤ 18 →
    ∃ r, fX4_leastSet fuel (nI first) (nI most) (L64 o) s0 s1 = some r ∧ ((r = -lN 1 ∧ ∀ s, ¬ lsok Q first most o s) ∨ (∃ s, r = lN s ∧ lsok Q first most o s ∧ ∀ s', lsok Q first most o s' → s ≤ s')) := by
  intro first
  induction first with
  | zero =>
    intro fuel most o hf hfu hmo
    obtain ⟨fuel, rfl⟩ : ∃ f, fuel = f + 1 := ⟨fuel - 1, by omega⟩
    rw [fX4_leastSet]
    simp only [zl, zlL]
    by_cases q : L64 o = lN 0
    · rw [if_pos ((lg_eq _ _).mpr q)]
      exact ⟨_, rfl, Or.inr ⟨0, rfl, ⟨by decide, Nat.zero_le _, fun i hi ho => by rw [L64_zero.mp q i hi] at ho; cases ho⟩, fun _ _ => Nat.zero_le _⟩⟩
    · rw [if_neg (fun z => q ((lg_eq _ _).mp z)), if_pos (by decide)]
      refine ⟨_, rfl, Or.inl ⟨rfl, fun s hs => q (L64_zero.mpr (fun i hi => ?_))⟩⟩
      cases z : o i
      · rfl
      · obtain ⟨j, hj, -⟩ := hs.2.2 i hi z
        omega
  | succ last ih =>
    intro fuel most o hf hfu hmo
    obtain ⟨fuel, rfl⟩ : ∃ f, fuel = f + 1 := ⟨fuel - 1, by omega⟩
    rw [fX4_leastSet]
    simp only [zl, zlL]
    by_cases q : L64 o = lN 0
    · rw [if_pos ((lg_eq _ _).mpr q)]
      refine ⟨_, rfl, Or.inr ⟨0, rfl, ⟨Nat.two_pow_pos _, ?_, fun i hi ho => by rw [L64_zero.mp q i hi] at ho; cases ho⟩, fun _ _ => Nat.zero_le _⟩⟩
      have : fb_ct (fun j => Nat.testBit 0 j) (last + 1) = 0 := fb_ct_zero.mpr (fun k _ => Nat.zero_testBit k)
      omega
    · rw [if_neg (fun z => q ((lg_eq _ _).mp z)), if_neg (fun z => by rw [nI_leI (by omega) (by decide)] at z; omega), if_neg (fun z => by rw [nI_ltI (by decide) (by omega)] at z; omega)]
      by_cases qm : most = 0
      · rw [if_pos ((nI_leI (by omega) (by decide)).mpr (by omega))]
        refine ⟨_, rfl, Or.inl ⟨rfl, fun s hs => q (L64_zero.mpr (fun i hi => ?_))⟩⟩
        cases z : o i
        · rfl
        · obtain ⟨j, hj, hb, -⟩ := hs.2.2 i hi z
          have h3 : fb_ct (fun j => s.testBit j) (last + 1) = 0 := by have := hs.2.1; omega
          have h4 := fb_ct_zero.mp h3 j hj
          simp only [hb] at h4
          cases h4
      · rw [if_neg (fun z => by rw [nI_leI (by omega) (by decide)] at z; omega), p_ckI (by omega) (by decide), nI_clamp (by omega), h1 (last + 1) hf, L64_not, L64_and]
        by_cases qr : L64 (fun i => o i && !(G (last + 1) i)) = lN 0
        · have hr := L64_zero.mp qr
          rw [if_pos ((lg_eq _ _).mpr qr), p_lt, n_sub (by omega), Nat.add_sub_cancel]
          obtain ⟨r1, e1, a1⟩ := ih fuel most o (by omega) (by omega) hmo
          rw [e1, p_b1]
          rcases a1 with ⟨b1, b2⟩ | ⟨s, b1, b2, b3⟩
          · rw [b1, if_pos ((lg_eq _ _).mpr rfl), p_ckI (by omega) (by decide), nI_clamp (by omega), h0 last (by omega), L64_not, L64_and, n_sub (by omega)]
            obtain ⟨r2, e2, a2⟩ := ih fuel (most - 1) (fun i => o i && !(Q last i)) (by omega) (by omega) (by omega)
            rw [e2, p_b1]
            -- a set with the last prime, and what is left of it
            have down : ∀ s', lsok Q (last + 1) most o s' → 2 ^ last ≤ s' ∧ lsok Q last (most - 1) (fun i => o i && !(Q last i)) (s' - 2 ^ last) := by
              intro s' hs'
              have es := fb_ct_succ (fun j => s'.testBit j) last
              rcases two_split hs'.1 with ⟨t1, t2⟩ | ⟨t1, t2, t3, t4⟩
              · refine absurd ⟨t2, ?_, fun i hi ho => ?_⟩ (b2 s')
                · have := hs'.2.1
                  simp only [t1] at es
                  rw [es] at this
                  exact this
                · obtain ⟨j, hj, hb, hq⟩ := hs'.2.2 i hi ho
                  by_cases zz : j = last
                  · rw [zz, t1] at hb; cases hb
                  · exact ⟨j, by omega, hb, hq⟩
              · refine ⟨t2, t3, ?_, fun i hi ho => ?_⟩
                · have h5 := hs'.2.1
                  simp only [t1, if_true] at es
                  rw [es] at h5
                  rw [fb_ct_cong (q := fun j => s'.testBit j) (fun j hj => t4 j hj)]
                  omega
                · obtain ⟨o1, o2⟩ := and2 ho
                  obtain ⟨j, hj, hb, hq⟩ := hs'.2.2 i hi o1
                  by_cases zz : j = last
                  · rw [zz] at hq; rw [hq] at o2; cases o2
                  · exact ⟨j, by omega, by rw [t4 j (by omega)]; exact hb, hq⟩
            rcases a2 with ⟨d1, d2⟩ | ⟨s, d1, d2, d3⟩
            · rw [d1, if_pos ((lg_eq _ _).mpr rfl)]
              exact ⟨_, rfl, Or.inl ⟨rfl, fun s' hs' => d2 _ (down s' hs').2⟩⟩
            · have hs62 : s < 2 ^ 62 := Nat.lt_of_lt_of_le d2.1 (Nat.pow_le_pow_right (by decide) (by omega))
              rw [d1, if_neg (fun z => lN_ne hs62 ((lg_eq _ _).mp z))]
              have esum : lN s ||| jlshl (lN 1) (nI last) = lN (2 ^ last + s) := by
                unfold jlshl
                rw [wb_shl _ (by omega), Nat.one_mul, fb_orL, Nat.or_comm]
                have := Nat.two_pow_add_eq_or_of_lt d2.1 1
                rw [Nat.mul_one] at this
                rw [this]
              rw [esum]
              have hbit : ∀ j, j < last → (2 ^ last + s).testBit j = s.testBit j := fun j hj => Nat.testBit_two_pow_add_gt hj s
              have hlast : (2 ^ last + s).testBit last = true := by rw [Nat.testBit_two_pow_add_eq, Nat.testBit_lt_two_pow d2.1]; rfl
              refine ⟨_, rfl, Or.inr ⟨2 ^ last + s, rfl, ⟨?_, ?_, fun i hi ho => ?_⟩, fun s' hs' => ?_⟩⟩
              · have := d2.1; rw [Nat.pow_succ]; omega
              · have es := fb_ct_succ (fun j => (2 ^ last + s).testBit j) last
                simp only [hlast, if_true] at es
                rw [es, fb_ct_cong (q := fun j => s.testBit j) (fun j hj => hbit j hj)]
                have := d2.2.1
                omega
              · by_cases zz : Q last i = true
                · exact ⟨last, by omega, hlast, zz⟩
                · obtain ⟨j, hj, hb, hq⟩ := d2.2.2 i hi (by show (o i && !(Q last i)) = true; rw [ho, ts_nt zz]; rfl)
                  exact ⟨j, by omega, by rw [hbit j hj]; exact hb, hq⟩
              · obtain ⟨u1, u2⟩ := down s' hs'
                have := d3 _ u2
                omega
          · have hs62 : s < 2 ^ 62 := Nat.lt_of_lt_of_le b2.1 (Nat.pow_le_pow_right (by decide) (by omega))
            rw [b1, if_neg (fun z => lN_ne hs62 ((lg_eq _ _).mp z))]
            have hbl : s.testBit last = false := Nat.testBit_lt_two_pow b2.1
            refine ⟨_, rfl, Or.inr ⟨s, rfl, ⟨Nat.lt_of_lt_of_le b2.1 (Nat.pow_le_pow_right (by decide) (by omega)), ?_, fun i hi ho => ?_⟩, fun s' hs' => ?_⟩⟩
            · have es := fb_ct_succ (fun j => s.testBit j) last
              simp only [hbl] at es
              rw [es]
              exact b2.2.1
            · obtain ⟨j, hj, hb, hq⟩ := b2.2.2 i hi ho
              exact ⟨j, by omega, hb, hq⟩
            · rcases two_split hs'.1 with ⟨t1, t2⟩ | ⟨t1, t2, t3, t4⟩
              · refine b3 s' ⟨t2, ?_, fun i hi ho => ?_⟩
                · have es := fb_ct_succ (fun j => s'.testBit j) last
                  simp only [t1] at es
                  have := hs'.2.1
                  rw [es] at this
                  exact this
                · obtain ⟨j, hj, hb, hq⟩ := hs'.2.2 i hi ho
                  by_cases zz : j = last
                  · rw [zz, t1] at hb; cases hb
                  · exact ⟨j, by omega, hb, hq⟩
              · have := b2.1
                omega
        · rw [if_neg (fun z => qr ((lg_eq _ _).mp z))]
          refine ⟨_, rfl, Or.inl ⟨rfl, fun s hs => qr (L64_zero.mpr (fun i hi => ?_))⟩⟩
          cases z : o i
          · rfl
          · obtain ⟨j, hj, hb, hq⟩ := hs.2.2 i hi z
            rw [hG j (by omega) (last + 1) hj hf i hi hq]
            rfl
end LSET
/-- of all sets that hold o one of the fewest, of like ones the least -/
def best (Q : Nat → Nat → Bool) (m : Nat) (o : Nat → Bool) (s : Nat) : Prop := s < 2 ^ m ∧ cov Q m o s ∧ ∀ s', s' < 2 ^ m → cov Q m o s' → fb_ct (fun j => s.testBit j) m < fb_ct (fun j => s'.testBit j) m ∨ (fb_ct (fun j => s.testBit j) m = fb_ct (fun j => s'.testBit j) m ∧ s ≤ s')
theorem best_one {Q : Nat → Nat → Bool} {m : Nat} {o : Nat → Bool} {s t : Nat} (h : best Q m o s) (h2 : best Q m o t) : s = t := by
  have a := h.2.2 t h2.1 h2.2.1
  have b := h2.2.2 s h.1 h.2.1
  revert a b
  generalize fb_ct (fun j => s.testBit j) m = x
  generalize fb_ct (fun j => t.testBit j) m = y
  intro a b
  omega
theorem c_fewest {Q G : Nat → Nat → Bool} {N : Mem} {m : Nat} {o : Nat → Bool} (hm : m ≤ 18) (hz : N.1 2 0 = nI m) (h0 : ∀ j, j < m → N.2 3 j = L64 (Q j)) (h1 : ∀ j, j ≤ m → N.2 4 j = L64 (G j)) (hG : ∀ j, j < m → ∀ k, j < k → k ≤ m → ∀ i, i < 64 → Q j i = true → G k i = true) (hall : cov Q m o (2 ^ m - 1)) :
    ∃ s, fX4_fewestHolding (L64 o) N = some (lN s) ∧ best Q m o s := by
  have go : ∀ (d k fu : Nat), k + d = m → (∀ s, s < 2 ^ m → cov Q m o s → k ≤ fb_ct (fun j => s.testBit j) m) → ∃ s, fX4_fewestHolding_b2 N (fu + d + 1) (L64 o) (nI k) = some (lN s) ∧ best Q m o s := by
    intro d
    induction d with
    | zero =>
      intro k fu hk hno
      have hkm : k = m := by omega
      subst hkm
      obtain ⟨r, e1, a1⟩ := c_least hm h0 h1 hG k 40 k o (Nat.le_refl _) (by omega) hm
      rw [fX4_fewestHolding_b2, hz, if_neg (fun z => by rw [nI_ltI (by omega) (by omega)] at z; omega), e1, p_b1, show (-1 : Int64) = -lN 1 from rfl, show (0 : Int32) = nI 0 from rfl]
      rcases a1 with ⟨b1, b2⟩ | ⟨s, b1, b2, b3⟩
      · exact absurd ⟨Nat.sub_lt (Nat.two_pow_pos _) (by decide), fb_ct_le _ _, hall⟩ (b2 (2 ^ k - 1))
      · have hs62 : s < 2 ^ 62 := Nat.lt_of_lt_of_le b2.1 (Nat.pow_le_pow_right (by decide) (by omega))
        rw [b1, if_neg (fun z => lN_ne hs62 ((lg_eq _ _).mp z))]
        refine ⟨s, rfl, b2.1, b2.2.2, fun s' h1' h2' => ?_⟩
        have g1 := hno s b2.1 b2.2.2
        have g2 := hno s' h1' h2'
        have g3 := b2.2.1
        by_cases zz : fb_ct (fun j => s'.testBit j) k ≤ k
        · have := b3 s' ⟨h1', zz, h2'⟩
          omega
        · omega
    | succ d ih =>
      intro k fu hk hno
      obtain ⟨r, e1, a1⟩ := c_least hm h0 h1 hG m 40 k o (Nat.le_refl _) (by omega) (by omega)
      rw [fX4_fewestHolding_b2, hz, if_neg (fun z => by rw [nI_ltI (by omega) (by omega)] at z; omega), e1, p_b1, show (-1 : Int64) = -lN 1 from rfl, show (0 : Int32) = nI 0 from rfl]
      rcases a1 with ⟨b1, b2⟩ | ⟨s, b1, b2, b3⟩
      · rw [b1, if_pos ((lg_eq _ _).mpr rfl), p_lt, show (1 : Int32) = nI 1 from rfl, nI_add]
        refine ih (k + 1) fu (by omega) (fun s' h1' h2' => ?_)
        have g1 := hno s' h1' h2'
        by_cases zz : fb_ct (fun j => s'.testBit j) m ≤ k
        · exact absurd ⟨h1', zz, h2'⟩ (b2 s')
        · omega
      · have hs62 : s < 2 ^ 62 := Nat.lt_of_lt_of_le b2.1 (Nat.pow_le_pow_right (by decide) (by omega))
        rw [b1, if_neg (fun z => lN_ne hs62 ((lg_eq _ _).mp z))]
        refine ⟨s, rfl, b2.1, b2.2.2, fun s' h1' h2' => ?_⟩
        have g1 := hno s b2.1 b2.2.2
        have g2 := hno s' h1' h2'
        have g3 := b2.2.1
        by_cases zz : fb_ct (fun j => s'.testBit j) m ≤ k
        · have := b3 s' ⟨h1', zz, h2'⟩
          omega
        · omega
  obtain ⟨fu, hfu⟩ := FU_of 20 (by decide)
  unfold fX4_fewestHolding
  rw [hfu, show fu + 20 = fu + 19 - m + m + 1 by omega]
  exact go m 0 (fu + 19 - m) (by omega) (fun s _ _ => Nat.zero_le _)
/-! the reference: through all sets -/
theorem down_c {S : Nat} : ∀ c, c < 16 → ∀ w, sub w c = true → sub (hold c w) S = true → ∃ c', c' < 16 ∧ sub c' c = true ∧ prm S c' (w &&& c') = true := by
  intro c
  induction c using Nat.strongRecOn with
  | _ c ih =>
    intro hc w hw h
    by_cases q : anyB (fun i => c.testBit i && sub (hold (rm c i) (w &&& rm c i)) S) 4 = true
    · obtain ⟨i, hi, h5⟩ := (anyB_iff _ 4).mp q
      obtain ⟨h6, h7⟩ := and2 h5
      obtain ⟨h8, h9⟩ := (rm_c c hc i hi).2.2.2 h6
      obtain ⟨c', e1, e2, e3⟩ := ih (rm c i) h8 (by omega) (w &&& rm c i) (sub_and w _) h7
      refine ⟨c', e1, sub_tr e2 h9, ?_⟩
      have e4 : w &&& rm c i &&& c' = w &&& c' := by
        rw [Nat.and_assoc, Nat.and_comm (rm c i) c', show c' &&& rm c i = c' from of_decide_eq_true e2]
      rw [← e4]
      exact e3
    · refine ⟨c, hc, decide_eq_true (Nat.and_self c), ?_⟩
      rw [show w &&& c = w from of_decide_eq_true hw]
      unfold prm
      rw [h, ts_nt q]; rfl
theorem hold_up : ∀ c, c < 16 → ∀ w, w < 16 → sub w c = true → ∀ c', c' < 16 → sub c' c = true → sub (hold c w) (hold c' (w &&& c')) = true := by decide +kernel
theorem pair_term : ∀ x, x < 16 → ∀ j, j < 4 → x.testBit j = false → 15 - 2 ^ j < 16 ∧ sub (x &&& (15 - 2 ^ j)) (15 - 2 ^ j) = true ∧ hold (15 - 2 ^ j) (x &&& (15 - 2 ^ j)) = pq x j := by decide +kernel
/-- the code of the k-th prime -/
theorem pr_sub {M x j : Nat} (hx : x < 16) (hj : j < 4) : pr M (16 * j + x) = (!(x.testBit j) && sub (pq x j) M) := by
  rw [pr_at hx hj]
  unfold pq
  rw [sub_pq]
  by_cases z : x.testBit j = true
  · rw [z]; simp
  · rw [ts_nt z, (pq_lt x hx j hj).2.2 (ts_nt z)]; simp
/-- every pair of what is covered lies in a prime -/
theorem pair_prime {S : Nat} {i : Nat} (hi : i < 64) (h : pr S i = true) : ∃ e, e < 256 ∧ upr S e = true ∧ pr (hold (e / 16) (e % 16)) i = true := by
  obtain ⟨x, j, hx, hj, rfl⟩ : ∃ x j, x < 16 ∧ j < 4 ∧ i = 16 * j + x := ⟨i % 16, i / 16, by omega, by omega, by omega⟩
  rw [pr_sub hx hj] at h
  obtain ⟨h1, h2⟩ := and2 h
  have hb : x.testBit j = false := by revert h1; cases x.testBit j <;> simp
  obtain ⟨t1, t2, t3⟩ := pair_term x hx j hj hb
  obtain ⟨c', e1, e2, e3⟩ := down_c _ t1 _ t2 (by rw [t3]; exact h2)
  have hw := sub_lt t1 t2
  have hv : x &&& (15 - 2 ^ j) &&& c' < 16 := Nat.lt_of_le_of_lt Nat.and_le_left hw
  refine ⟨16 * c' + (x &&& (15 - 2 ^ j) &&& c'), by omega, ?_, ?_⟩
  · unfold upr
    rw [show (16 * c' + (x &&& (15 - 2 ^ j) &&& c')) % 16 = x &&& (15 - 2 ^ j) &&& c' by omega, show (16 * c' + (x &&& (15 - 2 ^ j) &&& c')) / 16 = c' by omega, sub_and, e3]
    rfl
  · rw [show (16 * c' + (x &&& (15 - 2 ^ j) &&& c')) % 16 = x &&& (15 - 2 ^ j) &&& c' by omega, show (16 * c' + (x &&& (15 - 2 ^ j) &&& c')) / 16 = c' by omega, pr_sub hx hj, hb]
    have := hold_up _ t1 _ hw t2 c' e1 e2
    rw [t3] at this
    rw [this]
    rfl
theorem bitsN {b : Nat} (hb : b < 2 ^ 31) : fX9_bits (nI b).toInt64 = some (nI (fb_ct (fun j => b.testBit j) 64)) := by
  rw [nI_l hb, L64_of, bitsL]
theorem ct_64 {b m : Nat} (hb : b < 2 ^ m) (hm : m ≤ 64) : fb_ct (fun j => b.testBit j) 64 = fb_ct (fun j => b.testBit j) m := by
  have h := fb_ct_split (fun j => b.testBit j) m (64 - m)
  rw [show m + (64 - m) = 64 by omega] at h
  have h2 : fb_ct (fun k => b.testBit (m + k)) (64 - m) = 0 := fb_ct_zero.mpr (fun k _ => Nat.testBit_lt_two_pow (Nat.lt_of_lt_of_le hb (Nat.pow_le_pow_right (by decide) (by omega))))
  rw [h2] at h
  exact h
/-- which primes hold the i-th open pair: bits of a number -/
def R_hd (Q : Nat → Nat → Bool) (m q : Nat) (P : Nat → Nat) (σ : Mem) : Prop := σ.1 17 0 = nI q ∧ σ.1 19 0 = nI m ∧ ∀ i, i < q → σ.1 20 i = nI (nb (fun p => Q p (P i)) m)
section RADD
variable {Q : Nat → Nat → Bool} {m q : Nat} {P : Nat → Nat}
theorem r_allHeld {σ : Mem} (hm : m ≤ 18) (hq : q ≤ 32) (h : R_hd Q m q P σ) {s : Nat} (hs : s < 2 ^ m) : ∃ b : Bool, fX9_areAllHeld (nI s) σ = some (bI b) ∧ (b = true ↔ ∀ i, i < q → ∃ j, j < m ∧ s.testBit j = true ∧ Q j (P i) = true) := by
  have hs31 : s < 2 ^ 18 := Nat.lt_of_lt_of_le hs (Nat.pow_le_pow_right (by decide) hm)
  have go : ∀ (d i k : Nat), i + d = q → ∃ b : Bool, fX9_areAllHeld_b2 σ (k + d + 1) (nI s) (nI i) = some (bI b) ∧ (b = true ↔ ∀ i', i ≤ i' → i' < q → ∃ j, j < m ∧ s.testBit j = true ∧ Q j (P i') = true) := by
    intro d
    induction d with
    | zero =>
      intro i k hi
      rw [fX9_areAllHeld_b2, h.1, if_pos ((nI_leI (by omega) (by omega)).mpr (by omega))]
      exact ⟨true, rfl, ⟨fun _ i' a b => by omega, fun _ => rfl⟩⟩
    | succ d ih =>
      intro i k hi
      rw [fX9_areAllHeld_b2, h.1]
      simp only [zl, p_lt, nI_add]
      rw [if_neg (fun z => by rw [nI_leI (by omega) (by omega)] at z; omega), p_ckI (by omega) (by decide), nI_clamp (by omega), h.2.2 i (by omega), fa_and]
      have hb := nb_lt (fun p => Q p (P i)) m
      have hlt : nb (fun p => Q p (P i)) m &&& s < 2 ^ 31 := Nat.lt_of_le_of_lt Nat.and_le_right (by omega)
      rw [i_eq0 hlt]
      by_cases z : nb (fun p => Q p (P i)) m &&& s = 0
      · rw [if_pos z]
        refine ⟨false, rfl, ⟨fun e => (by cases e), fun e => ?_⟩⟩
        obtain ⟨j, hj, h1, h2⟩ := e i (Nat.le_refl _) (by omega)
        have : (nb (fun p => Q p (P i)) m &&& s).testBit j = false := by rw [z, Nat.zero_testBit]
        rw [Nat.testBit_and, nb_bit, decide_eq_true hj, h1, h2] at this
        cases this
      · rw [if_neg z]
        obtain ⟨b, g1, g2⟩ := ih (i + 1) k (by omega)
        refine ⟨b, g1, g2.trans ⟨fun e i' a1 a2 => ?_, fun e i' a1 a2 => e i' (by omega) a2⟩⟩
        by_cases zz : i' = i
        · subst zz
          obtain ⟨j, hj⟩ := Nat.exists_testBit_of_ne_zero z
          rw [Nat.testBit_and, nb_bit] at hj
          obtain ⟨j1, j2⟩ := and2 hj
          obtain ⟨j3, j4⟩ := and2 j1
          exact ⟨j, of_decide_eq_true j3, j2, j4⟩
        · exact e i' (by omega) a2
  obtain ⟨k, hk⟩ := FU_of 33 (by decide)
  obtain ⟨b, g1, g2⟩ := go q 0 (k + 32 - q) (by omega)
  refine ⟨b, ?_, g2.trans ⟨fun e i a => e i (by omega) a, fun e i _ a => e i a⟩⟩
  unfold fX9_areAllHeld
  rw [hk, show k + 33 = k + 32 - q + q + 1 by omega]
  exact g1
/-- the best of the sets below t, if one of them holds all -/
def bestB (Q : Nat → Nat → Bool) (m : Nat) (o : Nat → Bool) (t : Nat) (x : Int32) : Prop :=
  (x = -nI 1 ∧ ∀ s, s < t → ¬ cov Q m o s) ∨ ∃ b, x = nI b ∧ b < t ∧ cov Q m o b ∧ ∀ s, s < t → cov Q m o s → fb_ct (fun j => b.testBit j) m < fb_ct (fun j => s.testBit j) m ∨ (fb_ct (fun j => b.testBit j) m = fb_ct (fun j => s.testBit j) m ∧ b ≤ s)
theorem r_added_loop {o : Nat → Bool} (hm : m ≤ 18) (hq : q ≤ 32) (ho : ∀ s, cov Q m o s ↔ ∀ i, i < q → ∃ j, j < m ∧ s.testBit j = true ∧ Q j (P i) = true) {σ : Mem} (h : R_hd Q m q P σ) (p : Int32) : ∀ (d t k : Nat) (x : Int32), t + d = 2 ^ m → bestB Q m o t x →
    ∃ y, bestB Q m o (2 ^ m) y ∧ fX9_added_b21 (k + d + 1) p x (nI t) σ = (if p = nI 0 then (b1 (fX9_bits y.toInt64) fun r71 => some (r71.toInt64, σ)) else some (y.toInt64, σ)) := by
  have hm2 : 2 ^ m ≤ 2 ^ 18 := Nat.pow_le_pow_right (by decide) hm
  intro d
  induction d with
  | zero =>
    intro t k x ht hb
    have : t = 2 ^ m := by omega
    subst this
    refine ⟨x, hb, ?_⟩
    rw [fX9_added_b21, h.2.1]
    simp only [zl]
    rw [n_shl1 m (by omega), if_pos ((nI_leI (by omega) (by omega)).mpr (Nat.le_refl _))]
  | succ d ih =>
    intro t k x ht hb
    obtain ⟨b, g1, g2⟩ := r_allHeld hm hq h (show t < 2 ^ m by omega)
    have g3 := g2.trans (ho t).symm
    rw [fX9_added_b21, h.2.1]
    unfold fX9_added_b49 fX9_added_b59
    simp only [zl, p_lt, nI_add]
    rw [n_shl1 m (by omega), if_neg (fun z => by rw [nI_leI (by omega) (by omega)] at z; omega), g1, p_b1, p_if]
    rcases hb with ⟨rfl, hb⟩ | ⟨bb, rfl, b1, b2, b3⟩
    · rw [if_pos rfl]
      by_cases z : b = true
      · rw [if_pos z]
        refine ih (t + 1) k (nI t) (by omega) (Or.inr ⟨t, rfl, by omega, g3.mp z, fun s hs hc => ?_⟩)
        by_cases zz : s = t
        · subst zz; exact Or.inr ⟨rfl, Nat.le_refl _⟩
        · exact absurd hc (hb s (by omega))
      · rw [if_neg z]
        refine ih (t + 1) k (-nI 1) (by omega) (Or.inl ⟨rfl, fun s hs hc => ?_⟩)
        by_cases zz : s = t
        · subst zz; exact z (g3.mpr hc)
        · exact hb s (by omega) hc
    · rw [i_m1 (by omega), bitsN (by omega), bitsN (by omega), p_b1, p_b1, ct_64 (m := m) (by omega) (by omega), ct_64 (m := m) (by omega) (by omega)]
      have l1 := fb_ct_le (fun j => t.testBit j) m
      have l2 := fb_ct_le (fun j => bb.testBit j) m
      rw [i_leP (by omega) (by omega)]
      by_cases z2 : fb_ct (fun j => bb.testBit j) m ≤ fb_ct (fun j => t.testBit j) m
      · rw [if_pos z2]
        refine ih (t + 1) k (nI bb) (by omega) (Or.inr ⟨bb, rfl, by omega, b2, fun s hs hc => ?_⟩)
        by_cases zz : s = t
        · subst zz
          rcases Nat.lt_or_ge (fb_ct (fun j => bb.testBit j) m) (fb_ct (fun j => s.testBit j) m) with y | y
          · exact Or.inl y
          · exact Or.inr ⟨Nat.le_antisymm z2 y, by omega⟩
        · exact b3 s (by omega) hc
      · rw [if_neg z2]
        by_cases z : b = true
        · rw [if_pos z]
          refine ih (t + 1) k (nI t) (by omega) (Or.inr ⟨t, rfl, by omega, g3.mp z, fun s hs hc => ?_⟩)
          by_cases zz : s = t
          · subst zz; exact Or.inr ⟨rfl, Nat.le_refl _⟩
          · have := b3 s (by omega) hc
            revert this z2
            generalize fb_ct (fun j => bb.testBit j) m = a1
            generalize fb_ct (fun j => t.testBit j) m = a2
            generalize fb_ct (fun j => s.testBit j) m = a3
            intro z2 this
            omega
        · rw [if_neg z]
          refine ih (t + 1) k (nI bb) (by omega) (Or.inr ⟨bb, rfl, by omega, b2, fun s hs hc => ?_⟩)
          by_cases zz : s = t
          · subst zz; exact absurd (g3.mpr hc) z
          · exact b3 s (by omega) hc
end RADD
