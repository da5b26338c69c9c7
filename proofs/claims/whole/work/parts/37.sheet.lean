/-! PURE, 17: sheets: sheet, put, copy, film -/
theorem Rel.sheets {X X' : XS} {σ σ' : Mem} (h : Rel X σ) (hX : ∀ k, k < 11 → k ≠ 2 → k ≠ 3 → k ≠ 5 → k ≠ 7 → X' k = X k) (h3 : samN (X 3) (X' 3)) (hσ : ∀ k, k < 7 ∨ k = 10 → σ'.1 k = σ.1 k) (hs : R_sh X' (σ'.1 21) (σ'.1 22) (σ'.1 23)) : Rel X' σ' := by
  obtain ⟨g1, g2, g3, g4, g5, g6⟩ := h
  unfold Rel
  rw [hσ 0 (by omega), hσ 1 (by omega), hσ 2 (by omega), hσ 3 (by omega), hσ 4 (by omega), hσ 5 (by omega), hσ 6 (by omega), hσ 10 (by omega), hX 0 (by decide) (by decide) (by decide) (by decide) (by decide), hX 1 (by decide) (by decide) (by decide) (by decide) (by decide), hX 4 (by decide) (by decide) (by decide) (by decide) (by decide), hX 6 (by decide) (by decide) (by decide) (by decide) (by decide), hX 8 (by decide) (by decide) (by decide) (by decide) (by decide), hX 9 (by decide) (by decide) (by decide) (by decide) (by decide), hX 10 (by decide) (by decide) (by decide) (by decide) (by decide)]
  exact ⟨g1.net h3, g2, g3, hs, g5, g6⟩
theorem R_one.same {S : Mem} {so sz : Int32} {it it' : Nat → Int32} {k : Nat} (h : R_one S so sz it k) (hi : ∀ i, i < 40 → it' (40 * k + i) = it (40 * k + i)) : R_one S so sz it' k := by
  obtain ⟨z, h1, h2, h3, h4⟩ := h
  refine ⟨z, h1, h2, h3, ?_⟩
  rcases h4 with a | ⟨a, b, c⟩ | ⟨a, b, c⟩
  · exact Or.inl a
  · exact Or.inr (Or.inl ⟨a, b, fun i hz => by rw [hi i (by omega)]; exact c i hz⟩)
  · exact Or.inr (Or.inr ⟨a, b, fun i hz => by rw [hi i (by omega)]; exact c i hz⟩)
theorem R_sh.set {X X' : XS} {so sz it so' sz' it' : Nat → Int32} (h : R_sh X so sz it) {k0 : Nat} (hX : ∀ k, k < 4 → k ≠ k0 → X' (11 + k) = X (11 + k)) (hso : ∀ k, k < 4 → k ≠ k0 → so' k = so k) (hsz : ∀ k, k < 4 → k ≠ k0 → sz' k = sz k) (hit : ∀ k, k < 4 → k ≠ k0 → ∀ i, i < 40 → it' (40 * k + i) = it (40 * k + i)) (h0 : R_one (X' (11 + k0)) (so' k0) (sz' k0) it' k0) : R_sh X' so' sz' it' := by
  intro k hk
  by_cases q : k = k0
  · subst q; exact h0
  · rw [hX k hk q, hso k hk q, hsz k hk q]
    exact (h k hk).same (hit k hk q)
theorem c_become5 (s : Int32) {z : Nat} (hz : z ≤ 40) (N : Mem) : ∃ N', fX5_become s (nI z) N = some N' ∧ N'.1 1 0 = s ∧ N'.1 2 0 = nI z ∧ ∀ i, i < z → N'.1 0 i = nI 0 := by
  have go : ∀ (d x k : Nat) (N : Mem), x + d = z → N.1 1 0 = s → N.1 2 0 = nI z → (∀ i, i < x → N.1 0 i = nI 0) → ∃ N', fX5_become_b23 (k + d + 1) (nI x) N = some N' ∧ N'.1 1 0 = s ∧ N'.1 2 0 = nI z ∧ ∀ i, i < z → N'.1 0 i = nI 0 := by
    intro d
    induction d with
    | zero =>
      intro x k N hx h1 h2 h3
      have : x = z := by omega
      subst this
      rw [fX5_become_b23, h2, if_pos ((nI_leI (by omega) (by omega)).mpr (Nat.le_refl _))]
      exact ⟨N, rfl, h1, h2, h3⟩
    | succ d ih =>
      intro x k N hx h1 h2 h3
      rw [fX5_become_b23, h2]
      simp only [zl, p_lt, nI_add]
      rw [if_neg (fun q => by rw [nI_leI (by omega) (by omega)] at q; omega), p_ckI (by omega) (by decide), nI_clamp (by omega)]
      refine ih (x + 1) k _ (by omega) ?_ ?_ (fun i hi => ?_)
      · rw [m_miN _ (by decide)]; exact h1
      · rw [m_miN _ (by decide)]; exact h2
      · rw [m_miS]
        by_cases q : i = x
        · rw [q, m_uS]
        · rw [m_uN _ q]; exact h3 i (by omega)
  obtain ⟨k, hk⟩ := FU_of 41 (by decide)
  unfold fX5_become
  simp only [zl, p_lt]
  rw [if_neg (z_neg (by omega)), if_pos ((nI_leI (by omega) (by decide)).mpr hz), hk, show k + 41 = k + 40 - z + z + 1 by omega]
  exact go z 0 (k + 40 - z) _ (by omega) (by rw [m_miN _ (by decide), m_miS, m_uS]) (by rw [m_miS, m_uS]) (fun i hi => by omega)
theorem r_becomes (s p2 : Int32) {k0 : Nat} (hk0 : k0 < 4) (σ : Mem) : ∃ σ', fX9_becomes (nI k0) s p2 σ = some σ' ∧ (∀ j, j ≠ 21 → j ≠ 22 → j ≠ 23 → σ'.1 j = σ.1 j) ∧ σ'.1 21 = upd (σ.1 21) k0 s ∧ σ'.1 22 = upd (σ.1 22) k0 (if s = -nI 1 then nI 0 else p2) ∧ (∀ i, i < 40 → σ'.1 23 (40 * k0 + i) = nI 0) ∧ ∀ j, j < 40 * k0 ∨ 40 * k0 + 40 ≤ j → σ'.1 23 j = σ.1 23 j := by
  have go : ∀ (d x k : Nat) (τ : Mem), x + d = 40 → (∀ j, j ≠ 23 → τ.1 j = (mi (mi σ 21 k0 s) 22 k0 (if s = -nI 1 then nI 0 else p2)).1 j) → (∀ i, i < x → τ.1 23 (40 * k0 + i) = nI 0) → (∀ j, j < 40 * k0 ∨ 40 * k0 + 40 ≤ j → τ.1 23 j = σ.1 23 j) →
      ∃ σ', fX9_becomes_b26 (k + d + 1) (nI k0) (nI x) τ = some σ' ∧ (∀ j, j ≠ 23 → σ'.1 j = (mi (mi σ 21 k0 s) 22 k0 (if s = -nI 1 then nI 0 else p2)).1 j) ∧ (∀ i, i < 40 → σ'.1 23 (40 * k0 + i) = nI 0) ∧ ∀ j, j < 40 * k0 ∨ 40 * k0 + 40 ≤ j → σ'.1 23 j = σ.1 23 j := by
    intro d
    induction d with
    | zero =>
      intro x k τ hx h1 h2 h3
      have : x = 40 := by omega
      subst this
      rw [fX9_becomes_b26, if_pos (by decide)]
      exact ⟨τ, rfl, h1, h2, h3⟩
    | succ d ih =>
      intro x k τ hx h1 h2 h3
      rw [fX9_becomes_b26]
      simp only [zl, p_lt, n_mul, nI_add]
      rw [if_neg (fun q => by rw [nI_leI (by omega) (by omega)] at q; omega), p_ckI (by omega) (by decide), nI_clamp (by omega)]
      refine ih (x + 1) k _ (by omega) (fun j hj => by rw [m_miN _ hj]; exact h1 j hj) (fun i hi => ?_) (fun j hj => ?_)
      · rw [m_miS]
        by_cases q : i = x
        · rw [q, m_uS]
        · rw [m_uN _ (by omega)]; exact h2 i (by omega)
      · rw [m_miS, m_uN _ (by omega)]; exact h3 j hj
  obtain ⟨k, hk⟩ := FU_of 41 (by decide)
  obtain ⟨σ', g1, g2, g3, g4⟩ := go 40 0 k (mi (mi σ 21 k0 s) 22 k0 (if s = -nI 1 then nI 0 else p2)) rfl (fun _ _ => rfl) (fun i hi => by omega) (fun j hj => by rw [m_miN _ (by decide), m_miN _ (by decide)])
  refine ⟨σ', ?_, fun j h21 h22 h23 => by rw [g2 j h23, m_miN _ h22, m_miN _ h21], by rw [g2 21 (by decide), m_miN _ (by decide), m_miS], by rw [g2 22 (by decide), m_miS, m_miN _ (by decide)], g3, g4⟩
  unfold fX9_becomes fX9_becomes_b22
  simp only [zl, p_lt]
  have k1 : ∀ z : Option Mem, ckI (nI k0) 4 z = z := fun z => p_ckI (by omega) (by decide)
  simp only [k1, nI_clamp (show k0 < 2 ^ 31 by omega), hk]
  by_cases q : s = -nI 1
  · rw [if_pos q]
    rw [if_pos q] at g1
    exact g1
  · rw [if_neg q]
    rw [if_neg q] at g1
    exact g1
theorem c_sort (p : Int32) : fX8_isSort p = some (bI (inN p 2)) := by
  unfold fX8_isSort
  simp only [zl]
  by_cases q : inN p 2 = true
  · obtain ⟨j, hj, -, rfl⟩ := inN_t q
    have : j = 0 ∨ j = 1 := by omega
    rcases this with rfl | rfl
    · rw [if_pos rfl, q]; rfl
    · rw [if_neg (by decide), if_pos rfl, q]; rfl
  · rw [if_neg (inN_ne (ts_nt q) (by decide) (by decide)), if_neg (inN_ne (ts_nt q) (by decide) (by decide)), ts_nt q]; rfl
theorem r_sort (p : Int32) : fX8_isWithin p (-nI 1) (nI 1) = some (bI (decide (p = -nI 1) || inN p 2)) := by
  unfold fX8_isWithin
  rcases neg_or p with h | ⟨j, hj, rfl⟩
  · rw [inN_neg h, Bool.or_false]
    rw [Int32.lt_iff_toInt_lt, show (0 : Int32).toInt = 0 by decide] at h
    by_cases q : p = -nI 1
    · subst q
      rw [if_neg (by decide), if_neg (by decide), decide_eq_true rfl]; rfl
    · have : p < -nI 1 := by
        rw [Int32.lt_iff_toInt_lt, show (-nI 1).toInt = -1 by decide]
        have : p.toInt ≠ -1 := fun e => q (Int32.toInt_inj.mp (by rw [e]; decide))
        omega
      rw [if_pos this, decide_eq_false q]; rfl
  · rw [if_neg (fun q => by rw [Int32.lt_iff_toInt_lt, nI_toInt hj, show (-nI 1).toInt = -1 by decide] at q; omega), inN_nI hj, decide_eq_false (fun e => by rw [nI_m1 hj] at e; exact e), Bool.false_or]
    by_cases q : 1 < j
    · rw [if_pos ((nI_ltI (by decide) hj).mpr q), decide_eq_false (by omega)]; rfl
    · rw [if_neg (fun z => q ((nI_ltI (by decide) hj).mp z)), decide_eq_true (by omega)]; rfl
theorem c_missing {S : Mem} {so sz : Int32} {it : Nat → Int32} {k : Nat} (h : R_one S so sz it k) : ∃ b : Bool, fX5_isMissing S = some (bI b) ∧ (b = true ↔ so = -nI 1) ∧ S.1 1 0 = so := by
  obtain ⟨z, -, -, -, h4⟩ := h
  unfold fX5_isMissing
  simp only [zl]
  rcases h4 with ⟨a, b, -⟩ | ⟨a, b, -⟩ | ⟨a, b, -⟩
  · rw [a, b, if_pos rfl]; exact ⟨true, rfl, ⟨fun _ => rfl, fun _ => rfl⟩, rfl⟩
  · rw [a, b, if_neg (by decide)]; exact ⟨false, rfl, ⟨fun e => (by cases e), fun e => absurd e (by decide)⟩, rfl⟩
  · rw [a, b, if_neg (by decide)]; exact ⟨false, rfl, ⟨fun e => (by cases e), fun e => absurd e (by decide)⟩, rfl⟩
/-- a sheet made anew on both sides -/
theorem Rel.became {X : XS} {σ σ' : Mem} (h : Rel X σ) {k0 z : Nat} (hk0 : k0 < 4) (hz : z ≤ 40) {s : Int32} (hs : (s = -nI 1 ∧ z = 0) ∨ s = nI 0 ∨ s = nI 1) {N' : Mem} (n1 : N'.1 1 0 = s) (n2 : N'.1 2 0 = nI z) (n3 : ∀ i, i < z → N'.1 0 i = nI 0)
    (r1 : ∀ j, j ≠ 21 → j ≠ 22 → j ≠ 23 → σ'.1 j = σ.1 j) (r2 : σ'.1 21 = upd (σ.1 21) k0 s) (r3 : σ'.1 22 = upd (σ.1 22) k0 (nI z)) (r4 : ∀ i, i < 40 → σ'.1 23 (40 * k0 + i) = nI 0) (r5 : ∀ j, j < 40 * k0 ∨ 40 * k0 + 40 ≤ j → σ'.1 23 j = σ.1 23 j) : Rel (xs X (11 + k0) N') σ' := by
  obtain ⟨-, -, -, hsh, -, -⟩ := id h
  refine h.sheets (fun k hk _ _ _ _ => m_xsN _ (by omega) _) (by rw [m_xsN _ (by omega)]; exact samN.rf _) (fun k hk => r1 k (by omega) (by omega) (by omega)) (hsh.set (k0 := k0) (fun k hk hne => m_xsN _ (by omega) _) (fun k hk hne => by rw [r2, m_uN _ hne]) (fun k hk hne => by rw [r3, m_uN _ hne]) (fun k hk hne i hi => r5 _ (by omega)) ?_)
  rw [m_xsS, r2, r3, m_uS, m_uS]
  refine ⟨z, hz, n2, rfl, ?_⟩
  rcases hs with ⟨a, b⟩ | a | a
  · exact Or.inl ⟨by rw [n1, a], a, b⟩
  · exact Or.inr (Or.inr ⟨by rw [n1, a], a, fun i hi => by rw [n3 i hi, r4 i (by omega)]; exact ⟨by decide, by decide⟩⟩)
  · exact Or.inr (Or.inl ⟨by rw [n1, a], a, fun i hi => by rw [n3 i hi, r4 i (by omega)]⟩)
theorem sim_sheet {X : XS} {σ : Mem} (h : Rel X σ) (p0 p1 p2 : Int32) : Sim (fX8_sheet p0 p1 p2 X) (fX9_sheet p0 p1 p2 σ) := by
  unfold fX8_sheet fX9_sheet fX9_sheet_b30 fX9_sheet_b42
  simp only [zl]
  rw [r_isSheet, c_sheet, p_b1, p_b1, p_if, p_if]
  by_cases q : inN p0 4 = true
  · rw [if_pos q, if_pos q, r_isIn, r_sort, p_b1, p_if]
    obtain ⟨k0, hk0, -, rfl⟩ := inN_t q
    have k1 : ∀ z : Option (Int32 × XS), ckI (nI k0) 4 z = z := fun z => p_ckI (by omega) (by decide)
    simp only [k1, p_lt, nI_clamp (show k0 < 2 ^ 31 by omega)]
    by_cases q1 : p1 = -nI 1
    · obtain ⟨N', n0, n1, n2, n3⟩ := c_become5 (-nI 1) (show 0 ≤ 40 by decide) (X (11 + k0))
      obtain ⟨σ', r0, r1, r2, r3, r4, r5⟩ := r_becomes (-nI 1) p2 hk0 σ
      rw [if_pos rfl] at r3
      rw [if_pos q1, q1, decide_eq_true rfl, if_pos (by rfl), if_pos rfl, if_pos rfl, n0, p_b1, r0, p_b1]
      exact Sim.i (h.became hk0 (by decide) (Or.inl ⟨rfl, rfl⟩) n1 n2 n3 r1 r2 r3 r4 r5)
    · rw [if_neg q1, decide_eq_false q1, Bool.false_or, c_sort, p_b1, p_if, if_neg q1]
      by_cases q2 : inN p1 2 = true
      · rw [if_pos q2, if_pos q2]
        by_cases q3 : p2 ≤ nI 40
        · rw [if_pos q3, if_pos q3, if_neg q1]
          by_cases q4 : nI 0 ≤ p2
          · obtain ⟨z, hz, rfl⟩ := nI_of2 (M := nI 40) (n := 40) (by decide) (fun e => by
              have := nle_nI e (n := 0) (by decide)
              exact this q4) q3
            obtain ⟨N', n0, n1, n2, n3⟩ := c_become5 p1 hz (X (11 + k0))
            obtain ⟨σ', r0, r1, r2, r3, r4, r5⟩ := r_becomes p1 (nI z) hk0 σ
            rw [if_neg q1] at r3
            rw [if_pos q4, if_pos q4, n0, p_b1, r0, p_b1]
            refine Sim.i (h.became hk0 hz (Or.inr ?_) n1 n2 n3 r1 r2 r3 r4 r5)
            obtain ⟨j, hj, -, rfl⟩ := inN_t q2
            have : j = 0 ∨ j = 1 := by omega
            rcases this with rfl | rfl
            · exact Or.inl rfl
            · exact Or.inr rfl
          · rw [if_neg q4, if_neg q4]
            exact Sim.i h
        · rw [if_neg q3, if_neg q3]
          exact Sim.i h
      · rw [if_neg q2, if_neg q2]
        exact Sim.i h
  · rw [if_neg q, if_neg q]
    exact Sim.i h
theorem byt_of (v : Int32) : byt (v &&& nI 255) v.toInt8.toInt32 := ⟨fb_byte_twice v, (bp_b v).symm⟩
theorem sim_put {X : XS} {σ : Mem} (h : Rel X σ) (p0 p1 p2 : Int32) : Sim (fX8_put p0 p1 p2 X) (fX9_put p0 p1 p2 σ) := by
  obtain ⟨-, -, -, hsh, -, -⟩ := id h
  unfold fX8_put fX9_put fX9_put_b67
  simp only [zl]
  rw [r_isSheet, c_sheet, p_b1, p_b1, p_if, p_if]
  by_cases q : inN p0 4 = true
  · rw [if_pos q, if_pos q]
    obtain ⟨k0, hk0, -, rfl⟩ := inN_t q
    have k1 : ∀ z : Option (Int32 × XS), ckI (nI k0) 4 z = z := fun z => p_ckI (by omega) (by decide)
    have k2 : ∀ z : Option (Int32 × Mem), ckI (nI k0) 4 z = z := fun z => p_ckI (by omega) (by decide)
    simp only [k1, k2, p_lt, nI_clamp (show k0 < 2 ^ 31 by omega)]
    obtain ⟨b, e1, e2, e3⟩ := c_missing (hsh k0 hk0)
    obtain ⟨z, hz, s2, s3, s4⟩ := hsh k0 hk0
    rw [e1, p_b1, p_if]
    by_cases q1 : σ.1 21 k0 = -nI 1
    · rw [if_pos (e2.mpr q1), if_pos q1]
      exact Sim.i h
    · rw [if_neg (fun w => q1 (e2.mp w)), if_neg q1, c_has5 p1 (n := z) (by omega) s2, p_b1, p_if, s3, r_isIn, c_below p1 (by omega), p_b1, p_if]
      by_cases q5 : inN p1 z = true
      · rw [if_pos q5, if_pos q5]
        obtain ⟨i, hi, -, rfl⟩ := inN_t q5
        unfold fX5_set fX5_set_b29
        simp only [zl]
        have k3 : ∀ z : Option Mem, ckI (nI i) 40 z = z := fun z => p_ckI (by omega) (by decide)
        have k4 : ∀ z : Option (Int32 × Mem), ckI (nI (40 * k0 + i)) 160 z = z := fun z => p_ckI (by omega) (by decide)
        rw [c_has5 (nI i) (n := z) (by omega) s2, p_b1, p_if, if_pos q5, n_mul, nI_add]
        simp only [k3, k4, nI_clamp (show i < 2 ^ 31 by omega), nI_clamp (show 40 * k0 + i < 2 ^ 31 by omega)]
        rw [e3]
        have fin : ∀ u v : Int32, (∀ (_ : σ.1 21 k0 = nI 0), byt u v) → (∀ (_ : σ.1 21 k0 = nI 1), u = v) → Sim (some (nI 1, xs X (11 + k0) (mi (X (11 + k0)) 0 i u))) (some (nI 1, mi σ 23 (40 * k0 + i) v)) := by
          intro u v hb hu
          refine Sim.i (h.sheets (fun k hk _ _ _ _ => m_xsN _ (by omega) _) (by rw [m_xsN _ (by omega)]; exact samN.rf _) (fun k hk => m_miN _ (by omega) _ _) (hsh.set (k0 := k0) (fun k hk hne => m_xsN _ (by omega) _) (fun k hk hne => by rw [m_miN _ (by decide)]) (fun k hk hne => by rw [m_miN _ (by decide)]) (fun k hk hne j hj => by rw [m_miS, m_uN _ (by omega)]) ?_))
          rw [m_xsS, m_miN _ (by decide), m_miN _ (by decide)]
          refine ⟨z, hz, by rw [m_miN _ (by decide)]; exact s2, s3, ?_⟩
          rcases s4 with ⟨a, b, c⟩ | ⟨a, b, c⟩ | ⟨a, b, c⟩
          · omega
          · refine Or.inr (Or.inl ⟨by rw [m_miN _ (by decide)]; exact a, b, fun j hj => ?_⟩)
            rw [m_miS, m_miS]
            by_cases w : j = i
            · rw [w, m_uS, m_uS, hu b]
            · rw [m_uN _ w, m_uN _ (by omega)]; exact c j hj
          · refine Or.inr (Or.inr ⟨by rw [m_miN _ (by decide)]; exact a, b, fun j hj => ?_⟩)
            rw [m_miS, m_miS]
            by_cases w : j = i
            · rw [w, m_uS, m_uS]; exact hb b
            · rw [m_uN _ w, m_uN _ (by omega)]; exact c j hj
        by_cases q6 : σ.1 21 k0 = nI 0
        · rw [if_pos q6, if_pos q6, p_b1]
          exact fin _ _ (fun _ => byt_of p2) (fun e => by rw [q6] at e; exact absurd e (by decide))
        · rw [if_neg q6, if_neg q6, p_b1]
          exact fin _ _ (fun e => absurd e q6) (fun _ => rfl)
      · rw [if_neg q5, if_neg q5]
        exact Sim.i h
  · rw [if_neg q, if_neg q]
    exact Sim.i h
