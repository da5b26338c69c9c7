/-! PURE, 6: what a net tells: tells, table, wave, change, worst, glitches, gate, taken, path -/
theorem sim_tells {X : XS} {σ : Mem} (h : Rel X σ) (p0 p1 : Int32) : Sim (fX8_tells p0 p1 X) (fX9_tells p0 p1 σ) := by
  obtain ⟨⟨n, K, A, B, W, T, C, V, d, Sd, Pl, F1, F2, hN, hr, hs, -⟩, -⟩ := id h
  have hn := hN.1
  unfold fX8_tells fX9_tells
  simp only [zl]
  rw [c_has3 p0 (by omega) hr.1, r_isGate p0 (by omega) hs.1, p_b1, p_b1, p_if, p_if]
  by_cases q : inN p0 n = true
  · rw [if_pos q, if_pos q, r_isStand, c_stand, p_b1, p_b1, p_if, p_if]
    by_cases q2 : inN p1 16 = true
    · rw [if_pos q2, if_pos q2]
      obtain ⟨g, hg, -, rfl⟩ := inN_t q
      obtain ⟨x, hx, -, rfl⟩ := inN_t q2
      obtain ⟨T', t1, t2, t3⟩ := c_tabs hN hr
      obtain ⟨S, s1, s2⟩ := r_stands hN hs hx
      have hb := tab_lt K A B (4 + g)
      unfold fX3_tableOf
      simp only [zl]
      rw [t1, p_b1, c_has3 (n := n) (nI g) (by omega) (by rw [t3.1 4 (by decide)]; exact hr.1), p_b1, p_if, inN_nI (by omega), decide_eq_true hg, if_pos rfl, nI_add, p_ckI (by omega) (by decide), p_b2, nI_clamp (by omega), m_mrS, t2 _ (by omega), n_bit (by omega) (by omega), tab_bit _ _ _ _ _ hx, s1, p_b1, p_ckI (by omega) (by decide), nI_clamp (by omega), m_mrS, s2 g hg]
      refine Sim.i (h.scr (fun k h2 h3 h4 h5 h7 => m_xsN _ h3 _) t3 (fun q => q) (fun k hk => m_mrN _ (by omega) _))
    · rw [if_neg q2, if_neg q2]
      exact Sim.i h
  · rw [if_neg q, if_neg q]
    exact Sim.i h
theorem c_tableOut {n : Nat} {K A B W : Nat → Nat} {N : Mem} (hN : netOK n K A B W) (h0 : 0 < n) (hr : R_net n K A B W N) : ∃ N', fX3_tableOf (nI (n - 1)) N = some (nI (tab K A B (4 + (n - 1))), N') ∧ samN N N' := by
  have hn := hN.1
  obtain ⟨T', t1, t2, t3⟩ := c_tabs hN hr
  refine ⟨_, ?_, t3⟩
  unfold fX3_tableOf
  simp only [zl]
  rw [t1, p_b1, c_has3 (n := n) (nI (n - 1)) (by omega) (by rw [t3.1 4 (by decide)]; exact hr.1), p_b1, p_if, inN_nI (by omega), decide_eq_true (by omega), if_pos rfl, nI_add, p_ckI (by omega) (by decide), nI_clamp (by omega), m_mrS, t2 _ (by omega)]
theorem sim_table {X : XS} {σ : Mem} (h : Rel X σ) : Sim (fX8_table X) (fX9_table σ) := by
  obtain ⟨⟨n, K, A, B, W, T, C, V, d, Sd, Pl, F1, F2, hN, hr, hs, -⟩, -⟩ := id h
  have hn := hN.1
  unfold fX8_table fX9_table
  simp only [zl]
  rw [c_empty (by omega) hr.1, p_b1, p_if, p_ckI (by decide) (by decide), nI_clamp (by decide), hs.1, i_eq0 (by omega)]
  by_cases q : n = 0
  · rw [if_pos (decide_eq_true q), if_pos q]
    exact Sim.i h
  · rw [if_neg (by simpa using q), if_neg q, c_out (by omega) hr.1, p_b1]
    obtain ⟨N', t1, t2⟩ := c_tableOut hN (by omega) hr
    obtain ⟨S, s1⟩ := r_table hN (by omega) hs
    rw [t1, p_b2, s1, p_b2]
    exact Sim.i (h.scr (fun k h2 h3 h4 h5 h7 => m_xsN _ h3 _) t2 (fun q => q) (fun k hk => m_mrN _ (by omega) _))
/-- a wave on both sides -/
theorem both_wave {X : XS} {σ : Mem} {n : Nat} {K A B W : Nat → Nat} (h : Rel X σ) (hN : netOK n K A B W) (h0 : 0 < n) (hr : R_net n K A B W (X 3)) (hs : R_ref n K A B W (σ.1 0)) {x y : Nat} (hx : x < 16) (hy : y < 16) :
    ∃ w N σ', fX7_run (nI x) (nI y) (X 5) (X 3) = some (w, N) ∧ fX9_waves (nI x) (nI y) σ = some σ' ∧ C_wave n K A B W x y w ∧ R_wave n K A B W x y σ' ∧ σ'.1 14 0 = nI (fb_ct (flp K A B W x y (4 + (n - 1))) 109) ∧ σ'.1 15 0 = lst (flp K A B W x y (4 + (n - 1))) 109 ∧ Rel (xs (xs X 5 w) 3 N) σ' ∧ R_net n K A B W N := by
  obtain ⟨w, N, a1, a2, a3⟩ := c_run hN h0 hr hx hy (X 5)
  obtain ⟨σ', b1, b2, b3, b4, b5⟩ := r_waves hN h0 hs hx hy
  exact ⟨w, N, σ', a1, b1, a2, b3, b4, b5, h.wave a3 b2, a3.net hr⟩
theorem sim_wave {X : XS} {σ : Mem} (h : Rel X σ) (p0 p1 p2 : Int32) : Sim (fX8_wave p0 p1 p2 X) (fX9_wave p0 p1 p2 σ) := by
  obtain ⟨⟨n, K, A, B, W, T, C, V, d, Sd, Pl, F1, F2, hN, hr, hs, -⟩, -⟩ := id h
  have hn := hN.1
  unfold fX8_wave fX9_wave
  simp only [zl]
  rw [r_isChange, c_change, p_b1, p_b1, p_if, p_if]
  by_cases q : (inN p0 16 && (inN p1 16 && !(decide (p0 = p1)))) = true
  · rw [if_pos q, if_pos q, r_isIn, c_within0 p2 (by decide), p_b1, p_b1, p_if, p_if]
    by_cases q2 : inN p2 (108 + 1) = true
    · rw [if_pos q2, if_pos q2, c_empty (by omega) hr.1, p_b1, p_if, p_ckI (by decide) (by decide), nI_clamp (by decide), hs.1, i_eq0 (by omega)]
      by_cases q3 : n = 0
      · rw [if_pos (decide_eq_true q3), if_pos q3]
        exact Sim.i h
      · rw [if_neg (by simpa using q3), if_neg q3]
        obtain ⟨qa, qb, -⟩ := and3 q
        obtain ⟨x, hx, -, rfl⟩ := inN_t qa
        obtain ⟨y, hy, -, rfl⟩ := inN_t qb
        obtain ⟨t, ht, -, rfl⟩ := inN_t q2
        obtain ⟨w, N, σ', e1, e2, cw, rw', -, -, hR, -⟩ := both_wave h hN (by omega) hr hs hx hy
        rw [e1, p_b2, e2, p_b1, show (xs (xs X 5 w) 3 N) 5 = w from rfl, cw.at hn (by omega), p_b1, R_wave.at hN (by omega) rw' (by omega), p_b1]
        exact Sim.i hR
    · rw [if_neg q2, if_neg q2]
      exact Sim.i h
  · rw [if_neg q, if_neg q]
    exact Sim.i h
theorem sim_change {X : XS} {σ : Mem} (h : Rel X σ) (p0 p1 p2 : Int32) : Sim (fX8_change p0 p1 p2 X) (fX9_change p0 p1 p2 σ) := by
  obtain ⟨⟨n, K, A, B, W, T, C, V, d, Sd, Pl, F1, F2, hN, hr, hs, -⟩, -⟩ := id h
  have hn := hN.1
  unfold fX8_change fX9_change
  simp only [zl]
  rw [r_isChange, c_change, p_b1, p_b1, p_if, p_if]
  by_cases q : (inN p0 16 && (inN p1 16 && !(decide (p0 = p1)))) = true
  · rw [if_pos q, if_pos q, r_isIn, c_within0 p2 (by decide), p_b1, p_b1, p_if, p_if]
    by_cases q2 : inN p2 (2 + 1) = true
    · rw [if_pos q2, if_pos q2, c_empty (by omega) hr.1, p_b1, p_if, p_ckI (by decide) (by decide), nI_clamp (by decide), hs.1, i_eq0 (by omega)]
      by_cases q3 : n = 0
      · rw [if_pos (decide_eq_true q3), if_pos q3]
        exact Sim.i h
      · rw [if_neg (by simpa using q3), if_neg q3]
        obtain ⟨qa, qb, -⟩ := and3 q
        obtain ⟨x, hx, -, rfl⟩ := inN_t qa
        obtain ⟨y, hy, -, rfl⟩ := inN_t qb
        obtain ⟨w, N, σ', e1, e2, cw, rw', f1, f2, hR, -⟩ := both_wave h hN (by omega) hr hs hx hy
        rw [e1, p_b2, e2, p_b1, show (xs (xs X 5 w) 3 N) 5 = w from rfl, cw.flips hN (by omega), cw.glitch hN (by omega), cw.settles hN, p_b1, p_b1, p_b1, r_glitch hN (by omega) rw' f1, p_b1, f1, f2]
        by_cases z1 : p2 = nI 0
        · rw [if_pos z1, if_pos z1]
          exact Sim.i hR
        · rw [if_neg z1, if_neg z1]
          by_cases z2 : p2 = nI 1
          · rw [if_pos z2, if_pos z2]
            exact Sim.i hR
          · rw [if_neg z2, if_neg z2]
            exact Sim.i hR
    · rw [if_neg q2, if_neg q2]
      exact Sim.i h
  · rw [if_neg q, if_neg q]
    exact Sim.i h
/-! one INPUT otherwise -/
def one (x y : Nat) : Bool := decide (fb_ct (fun i => (x ^^^ y).testBit i) 4 = 1)
theorem c_one : ∀ x, x < 16 → ∀ y, y < 16 → fX8_isOneInputChange (nI x) (nI y) = some (bI (one x y)) := by decide +kernel
theorem isOne_mono : ∀ n a b c d r, fX9_isOne_b4 n a b c d = some r → fX9_isOne_b4 (n + 1) a b c d = some r := by
  intro n
  induction n with
  | zero => intro a b c d r h; rw [fX9_isOne_b4] at h; cases h
  | succ n ih =>
    intro a b c d r h
    rw [fX9_isOne_b4] at h ⊢
    by_cases q : (4 : Int32) ≤ d
    · rw [if_pos q] at h ⊢; exact h
    · rw [if_neg q] at h ⊢; exact ih _ _ _ _ _ h
theorem mono_le {α : Type} {P : Nat → Option α} (h : ∀ n r, P n = some r → P (n + 1) = some r) {m : Nat} {r : α} (hm : P m = some r) {k : Nat} (hk : m ≤ k) : P k = some r := by
  obtain ⟨d, rfl⟩ : ∃ d, k = m + d := ⟨k - m, by omega⟩
  clear hk
  induction d with
  | zero => exact hm
  | succ d ih => exact h _ _ ih
theorem r_one_5 : ∀ x, x < 16 → ∀ y, y < 16 → fX9_isOne_b4 5 (nI x) (nI y) (nI 0) (nI 0) = some (bI (one x y)) := by decide +kernel
theorem r_one {x y : Nat} (hx : x < 16) (hy : y < 16) : fX9_isOne (nI x) (nI y) = some (bI (one x y)) := by
  unfold fX9_isOne
  exact mono_le (P := fun n => fX9_isOne_b4 n (nI x) (nI y) (nI 0) (nI 0)) (fun n r => isOne_mono n _ _ _ _ r) (r_one_5 x hx y hy) (show 5 ≤ FU by have := FU_ge; omega)
/-- the best of the codes below k: its FLIPS and one, and itself -/
def wbst (F : Nat → Nat) : Nat → Nat × Nat
  | 0 => (0, 0)
  | k + 1 => if one (k / 16) (k % 16) = true ∧ (wbst F k).1 ≤ F k then (F k + 1, k) else wbst F k
theorem wbst_succ (F : Nat → Nat) (k : Nat) : wbst F (k + 1) = if one (k / 16) (k % 16) = true ∧ (wbst F k).1 ≤ F k then (F k + 1, k) else wbst F k := rfl
theorem wbst_lt (F : Nat → Nat) : ∀ k, (wbst F k).2 < k ∨ (wbst F k).2 = 0 := by
  intro k
  induction k with
  | zero => exact Or.inr rfl
  | succ k ih =>
    show (if _ then _ else _ : Nat × Nat).2 < _ ∨ (if _ then _ else _ : Nat × Nat).2 = _
    split
    · exact Or.inl (by show k < k + 1; omega)
    · omega
theorem wbst_b {F : Nat → Nat} (hF : ∀ k, F k ≤ 109) : ∀ k, (wbst F k).1 ≤ 110 := by
  intro k
  induction k with
  | zero => exact (show (0 : Nat) ≤ 110 by decide)
  | succ k ih =>
    show (if _ then _ else _ : Nat × Nat).1 ≤ 110
    have := hF k
    split
    · show F k + 1 ≤ 110; omega
    · exact ih
def flF (n : Nat) (K A B W : Nat → Nat) (k : Nat) : Nat := fb_ct (flp K A B W (k / 16) (k % 16) (4 + (n - 1))) 109
/-- what a run of waves leaves: only what is worked out -/
def wvs (X X' : XS) : Prop := (∀ k, k ≠ 3 → k ≠ 5 → X' k = X k) ∧ samN (X 3) (X' 3)
theorem wvs.rf (X : XS) : wvs X X := ⟨fun _ _ _ => rfl, samN.rf _⟩
theorem wvs.tr {X X1 X2 : XS} (h : wvs X X1) (h2 : wvs X1 X2) : wvs X X2 := ⟨fun k a b => (h2.1 k a b).trans (h.1 k a b), h.2.tr h2.2⟩
theorem wvs.step {X : XS} {w N : Mem} (h : samN (X 3) N) : wvs X (xs (xs X 5 w) 3 N) := ⟨fun k a b => by rw [m_xsN _ a, m_xsN _ b], h⟩
theorem Rel.wvs {X X' : XS} {σ σ' : Mem} (h : Rel X σ) (hX : wvs X X') (hσ : kept12 σ σ') : Rel X' σ' :=
  h.scr (fun k h2 h3 h4 h5 h7 => hX.1 k h3 h5) hX.2 (fun q => by rw [hX.1 4 (by decide) (by decide)]; exact q) (fun k hk => hσ k (by omega))
theorem n_less1 {a b : Nat} (ha : a < 2 ^ 30) (hb : b < 2 ^ 30) : (nI a ≤ nI b - nI 1) ↔ (a + 1 ≤ b) := by
  rw [Int32.le_iff_toInt_le, fb_subI (by rw [nI_toInt (by omega), nI_toInt (by decide)]; omega) (by rw [nI_toInt (by omega), nI_toInt (by decide)]; omega), nI_toInt (by omega), nI_toInt (by omega), nI_toInt (by decide)]
  omega
theorem i_less1 {α : Type} {a b : Nat} (ha : a < 2 ^ 30) (hb : b < 2 ^ 30) (x y : α) : (if nI a ≤ nI b - nI 1 then x else y) = (if a + 1 ≤ b then x else y) := by simp only [n_less1 ha hb]
section WORST
variable {n : Nat} {K A B W : Nat → Nat}
theorem c_worst_in (hN : netOK n K A B W) (h0 : 0 < n) (p : Int32) (K35 : Int32 → Int32 → Int32 → Int32 → Int32 → XS → Option (Int32 × XS)) {x : Nat} (hx : x < 16) : ∀ (d y k : Nat) (X : XS), y + d = 16 → R_net n K A B W (X 3) →
    ∃ X', fX8_worst_b45 K35 (k + d + 1) p (nI ((wbst (flF n K A B W) (16 * x + y)).2 / 16)) (nI ((wbst (flF n K A B W) (16 * x + y)).2 % 16)) (nI (wbst (flF n K A B W) (16 * x + y)).1 - nI 1) (nI x) (nI y) X = K35 p (nI ((wbst (flF n K A B W) (16 * (x + 1))).2 / 16)) (nI ((wbst (flF n K A B W) (16 * (x + 1))).2 % 16)) (nI (wbst (flF n K A B W) (16 * (x + 1))).1 - nI 1) (nI (x + 1)) X' ∧ wvs X X' := by
  have hb := wbst_b (F := flF n K A B W) (fun k => fb_ct_le _ _)
  intro d
  induction d with
  | zero =>
    intro y k X hy hr
    have : y = 16 := by omega
    subst this
    refine ⟨X, ?_, wvs.rf X⟩
    rw [fX8_worst_b45, if_pos (by decide), p_lt]
    simp only [zl, nI_add]
    rw [show 16 * x + 16 = 16 * (x + 1) by omega]
  | succ d ih =>
    intro y k X hy hr
    have hk1 : (16 * x + y) / 16 = x := by omega
    have hk2 : (16 * x + y) % 16 = y := by omega
    have es : wbst (flF n K A B W) (16 * x + (y + 1)) = if one x y = true ∧ (wbst (flF n K A B W) (16 * x + y)).1 ≤ flF n K A B W (16 * x + y) then (flF n K A B W (16 * x + y) + 1, 16 * x + y) else wbst (flF n K A B W) (16 * x + y) := by
      have hs := wbst_succ (flF n K A B W) (16 * x + y)
      rw [hk1, hk2] at hs
      exact hs
    rw [fX8_worst_b45]
    simp only [zl]
    rw [if_neg (fun q => by rw [nI_leI (by omega) (by omega)] at q; omega), c_one x hx y (by omega), p_b1, p_if]
    by_cases q : one x y = true
    · obtain ⟨w, N, e1, cw, e3⟩ := c_run hN h0 hr hx (show y < 16 by omega) (X 5)
      have hF : flF n K A B W (16 * x + y) = fb_ct (flp K A B W x y (4 + (n - 1))) 109 := by
        unfold flF
        rw [hk1, hk2]
      have hF2 : flF n K A B W (16 * x + y) ≤ 109 := fb_ct_le _ _
      rw [if_pos q, e1, p_b2, show (xs (xs X 5 w) 3 N) 5 = w from rfl, cw.flips hN h0, p_b1, ← hF, i_less1 (by omega) (by have := hb (16 * x + y); omega)]
      unfold fX8_worst_b106
      simp only [p_lt, zl, nI_add]
      obtain ⟨X', g1, g2⟩ := ih (y + 1) k (xs (xs X 5 w) 3 N) (by omega) (e3.net hr)
      rw [es] at g1
      refine ⟨X', ?_, (wvs.step e3).tr g2⟩
      by_cases z : flF n K A B W (16 * x + y) + 1 ≤ (wbst (flF n K A B W) (16 * x + y)).1
      · rw [if_pos z]
        rw [if_neg (by omega)] at g1
        exact g1
      · rw [if_neg z]
        rw [if_pos ⟨q, by omega⟩] at g1
        simp only [hk1, hk2] at g1
        rw [n_sub (by omega), Nat.add_sub_cancel] at g1
        exact g1
    · rw [if_neg q]
      unfold fX8_worst_b106
      simp only [p_lt, zl, nI_add]
      obtain ⟨X', g1, g2⟩ := ih (y + 1) k X (by omega) hr
      rw [es, if_neg (fun e => q e.1)] at g1
      exact ⟨X', g1, g2⟩
def wpick (p : Int32) (c b : Nat) : Int32 := if p = nI 0 then nI (c / 16) else if p = nI 1 then nI (c % 16) else nI b - nI 1
theorem c_worst_out (hN : netOK n K A B W) (h0 : 0 < n) (p : Int32) : ∀ (d x k : Nat) (X : XS), x + d = 16 → R_net n K A B W (X 3) →
    ∃ X', fX8_worst_b35 (k + d + 1) p (nI ((wbst (flF n K A B W) (16 * x)).2 / 16)) (nI ((wbst (flF n K A B W) (16 * x)).2 % 16)) (nI (wbst (flF n K A B W) (16 * x)).1 - nI 1) (nI x) X = some (wpick p (wbst (flF n K A B W) 256).2 (wbst (flF n K A B W) 256).1, X') ∧ wvs X X' := by
  intro d
  induction d with
  | zero =>
    intro x k X hx hr
    have : x = 16 := by omega
    subst this
    refine ⟨X, ?_, wvs.rf X⟩
    rw [fX8_worst_b35, if_pos (by decide)]
    unfold wpick
    simp only [zl]
    by_cases z1 : p = nI 0
    · rw [if_pos z1, if_pos z1]
    · rw [if_neg z1, if_neg z1]
      by_cases z2 : p = nI 1
      · rw [if_pos z2, if_pos z2]
      · rw [if_neg z2, if_neg z2]
  | succ d ih =>
    intro x k X hx hr
    obtain ⟨k2, hk2⟩ := FU_of 17 (by decide)
    obtain ⟨X1, g1, g2⟩ := c_worst_in hN h0 p (fX8_worst_b35 (k + d + 1)) (show x < 16 by omega) 16 0 k2 X rfl hr
    obtain ⟨X2, g3, g4⟩ := ih (x + 1) k X1 (by omega) (g2.2.net hr)
    refine ⟨X2, ?_, g2.tr g4⟩
    rw [show k + (d + 1) + 1 = (k + d + 1) + 1 by omega, fX8_worst_b35]
    simp only [zl]
    rw [if_neg (fun q => by rw [nI_leI (by omega) (by omega)] at q; omega), hk2]
    simp only [Nat.add_zero] at g1
    rw [show k2 + 17 = k2 + 16 + 1 from rfl, g1]
    exact g3
theorem n_div16 {a : Nat} (ha : a < 2 ^ 31) : nI a / nI 16 = nI (a / 16) := by
  apply Int32.toInt_inj.mp
  rw [Int32.toInt_div_of_ne_right _ _ (by decide), nI_toInt ha, nI_toInt (by omega), nI_toInt (by omega)]
  exact (Int.ofNat_tdiv a 16).symm
theorem n_rem16 {a : Nat} (ha : a < 2 ^ 31) : nI a - nI a / nI 16 * nI 16 = nI (a % 16) := pk_rem ha (by decide) (by decide)
theorem r_worst (hN : netOK n K A B W) (h0 : 0 < n) (p : Int32) : ∀ (d c k : Nat) (σ : Mem), c + d = 256 → R_ref n K A B W (σ.1 0) →
    ∃ σ', fX9_worst_b31 (k + d + 1) p (nI (wbst (flF n K A B W) c).1 - nI 1) (nI (wbst (flF n K A B W) c).2) (nI c) σ = some (wpick p (wbst (flF n K A B W) 256).2 (wbst (flF n K A B W) 256).1, σ') ∧ kept12 σ σ' := by
  have hb := wbst_b (F := flF n K A B W) (fun k => fb_ct_le _ _)
  have k16 : ∀ z : Option (Int32 × Mem), ck0 (nI 16) z = z := fun z => p_ck0 (by decide) (by decide)
  intro d
  induction d with
  | zero =>
    intro c k σ hc hs
    have : c = 256 := by omega
    subst this
    refine ⟨σ, ?_, fun _ _ => rfl⟩
    have hl := wbst_lt (flF n K A B W) 256
    rw [fX9_worst_b31, if_pos (by decide)]
    unfold wpick
    simp only [zl, k16]
    rw [n_rem16 (by omega), n_div16 (by omega)]
    by_cases z1 : p = nI 0
    · rw [if_pos z1, if_pos z1]
    · rw [if_neg z1, if_neg z1]
      by_cases z2 : p = nI 1
      · rw [if_pos z2, if_pos z2]
      · rw [if_neg z2, if_neg z2]
  | succ d ih =>
    intro c k σ hc hs
    rw [fX9_worst_b31]
    simp only [zl, k16]
    have es : wbst (flF n K A B W) (c + 1) = if one (c / 16) (c % 16) = true ∧ (wbst (flF n K A B W) c).1 ≤ flF n K A B W c then (flF n K A B W c + 1, c) else wbst (flF n K A B W) c := rfl
    rw [if_neg (fun q => by rw [nI_leI (by omega) (by omega)] at q; omega), n_rem16 (by omega), n_div16 (by omega), r_one (by omega) (by omega), p_b1, p_if]
    by_cases q : one (c / 16) (c % 16) = true
    · obtain ⟨σ1, e1, e2, e3, e4, e5⟩ := r_waves hN h0 hs (show c / 16 < 16 by omega) (show c % 16 < 16 by omega)
      have hF : fb_ct (flp K A B W (c / 16) (c % 16) (4 + (n - 1))) 109 = flF n K A B W c := rfl
      have hF2 : flF n K A B W c ≤ 109 := fb_ct_le _ _
      have hb1 := hb c
      rw [hF] at e4
      rw [if_pos q, e1, p_b1, e4, i_less1 (by omega) (by omega)]
      unfold fX9_worst_b86 fX9_worst_b103 fX9_worst_b104
      simp only [p_lt, zl, nI_add]
      rw [e4]
      obtain ⟨σ2, g1, g2⟩ := ih (c + 1) k σ1 (by omega) e3.1
      rw [es] at g1
      refine ⟨σ2, ?_, e2.tr g2⟩
      by_cases z : flF n K A B W c + 1 ≤ (wbst (flF n K A B W) c).1
      · rw [if_pos z, i_less1 (by omega) (by omega), if_pos z]
        rw [if_neg (by omega)] at g1
        exact g1
      · rw [if_neg z, i_less1 (by omega) (by omega), if_neg z]
        rw [if_pos ⟨q, by omega⟩] at g1
        rw [show ((flF n K A B W c + 1, c) : Nat × Nat).1 = flF n K A B W c + 1 from rfl, n_sub (by omega), Nat.add_sub_cancel] at g1
        exact g1
    · rw [if_neg q]
      unfold fX9_worst_b104
      simp only [p_lt, zl, nI_add]
      obtain ⟨σ2, g1, g2⟩ := ih (c + 1) k σ (by omega) hs
      rw [es, if_neg (fun e => q e.1)] at g1
      exact ⟨σ2, g1, g2⟩
end WORST
theorem sim_worst {X : XS} {σ : Mem} (h : Rel X σ) (p0 : Int32) : Sim (fX8_worst p0 X) (fX9_worst p0 σ) := by
  obtain ⟨⟨n, K, A, B, W, T, C, V, d, Sd, Pl, F1, F2, hN, hr, hs, -⟩, -⟩ := id h
  have hn := hN.1
  unfold fX8_worst fX9_worst
  simp only [zl]
  rw [r_isIn, c_within0 p0 (by decide), p_b1, p_b1, p_if, p_if]
  by_cases q2 : inN p0 (2 + 1) = true
  · rw [if_pos q2, if_pos q2, c_empty (by omega) hr.1, p_b1, p_if, p_ckI (by decide) (by decide), nI_clamp (by decide), hs.1, i_eq0 (by omega)]
    by_cases q3 : n = 0
    · rw [if_pos (decide_eq_true q3), if_pos q3]
      exact Sim.i h
    · rw [if_neg (by simpa using q3), if_neg q3]
      obtain ⟨k1, hk1⟩ := FU_of 257 (by decide)
      obtain ⟨X', e1, e2⟩ := c_worst_out hN (by omega) p0 16 0 (k1 + 240) X rfl hr
      obtain ⟨σ', e3, e4⟩ := r_worst hN (by omega) p0 256 0 k1 σ rfl hs
      rw [show k1 + 240 + 16 + 1 = k1 + 257 from rfl, ← hk1, show wbst (flF n K A B W) (16 * 0) = (0, 0) from rfl, show ((0, 0) : Nat × Nat).2 / 16 = 0 from rfl, show ((0, 0) : Nat × Nat).2 % 16 = 0 from rfl] at e1
      rw [show k1 + 256 + 1 = k1 + 257 from rfl, ← hk1] at e3
      have a1 : fX8_worst_b35 FU p0 (nI 0) (nI 0) (-nI 1) (nI 0) X = some (wpick p0 (wbst (flF n K A B W) 256).2 (wbst (flF n K A B W) 256).1, X') := by rw [← (show nI 0 - nI 1 = -nI 1 by decide)]; exact e1
      have a2 : fX9_worst_b31 FU p0 (-nI 1) (nI 0) (nI 0) σ = some (wpick p0 (wbst (flF n K A B W) 256).2 (wbst (flF n K A B W) 256).1, σ') := by rw [← (show nI 0 - nI 1 = -nI 1 by decide)]; exact e3
      rw [a1, a2]
      exact Sim.i (h.wvs e2 e4)
  · rw [if_neg q2, if_neg q2]
    exact Sim.i h
/-! glitches -/
def glC (n : Nat) (K A B W : Nat → Nat) (g : Int32) (k : Nat) : Bool := one (k / 16) (k % 16) && decide (nI (glt (flF n K A B W k) (wv K A B W (k / 16) (k % 16) (4 + (n - 1)) 108) (row K A B (k / 16) (4 + (n - 1)))) = g)
section GLITCH
variable {n : Nat} {K A B W : Nat → Nat}
theorem c_gl_in (hN : netOK n K A B W) (h0 : 0 < n) (p : Int32) (K29 : Int32 → Int32 → Int32 → XS → Option (Int32 × XS)) {x : Nat} (hx : x < 16) : ∀ (d y k : Nat) (X : XS), y + d = 16 → R_net n K A B W (X 3) →
    ∃ X', fX8_glitches_b38 K29 (k + d + 1) p (nI (fb_ct (glC n K A B W p) (16 * x + y))) (nI x) (nI y) X = K29 p (nI (fb_ct (glC n K A B W p) (16 * (x + 1)))) (nI (x + 1)) X' ∧ wvs X X' := by
  intro d
  induction d with
  | zero =>
    intro y k X hy hr
    have : y = 16 := by omega
    subst this
    refine ⟨X, ?_, wvs.rf X⟩
    rw [fX8_glitches_b38, if_pos (by decide), p_lt]
    simp only [zl, nI_add]
    rw [show 16 * x + 16 = 16 * (x + 1) by omega]
  | succ d ih =>
    intro y k X hy hr
    have hk1 : (16 * x + y) / 16 = x := by omega
    have hk2 : (16 * x + y) % 16 = y := by omega
    have es : fb_ct (glC n K A B W p) (16 * x + (y + 1)) = fb_ct (glC n K A B W p) (16 * x + y) + if glC n K A B W p (16 * x + y) = true then 1 else 0 := rfl
    have eg : glC n K A B W p (16 * x + y) = (one x y && decide (nI (glt (flF n K A B W (16 * x + y)) (wv K A B W x y (4 + (n - 1)) 108) (row K A B x (4 + (n - 1)))) = p)) := by
      unfold glC
      rw [hk1, hk2]
    rw [fX8_glitches_b38]
    simp only [zl]
    rw [if_neg (fun q => by rw [nI_leI (by omega) (by omega)] at q; omega), c_one x hx y (by omega), p_b1, p_if]
    by_cases q : one x y = true
    · obtain ⟨w, N, e1, cw, e3⟩ := c_run hN h0 hr hx (show y < 16 by omega) (X 5)
      have hF : flF n K A B W (16 * x + y) = fb_ct (flp K A B W x y (4 + (n - 1))) 109 := by
        unfold flF
        rw [hk1, hk2]
      rw [if_pos q, e1, p_b2, show (xs (xs X 5 w) 3 N) 5 = w from rfl, cw.glitch hN h0, p_b1, ← hF]
      unfold fX8_glitches_b85
      simp only [p_lt, zl, nI_add]
      obtain ⟨X', g1, g2⟩ := ih (y + 1) k (xs (xs X 5 w) 3 N) (by omega) (e3.net hr)
      rw [es, eg, q, Bool.true_and] at g1
      refine ⟨X', ?_, (wvs.step e3).tr g2⟩
      by_cases z : nI (glt (flF n K A B W (16 * x + y)) (wv K A B W x y (4 + (n - 1)) 108) (row K A B x (4 + (n - 1)))) = p
      · rw [if_pos z]
        rw [if_pos (decide_eq_true z)] at g1
        exact g1
      · rw [if_neg z]
        rw [if_neg (by simpa using z)] at g1
        exact g1
    · rw [if_neg q]
      unfold fX8_glitches_b85
      simp only [p_lt, zl, nI_add]
      obtain ⟨X', g1, g2⟩ := ih (y + 1) k X (by omega) hr
      rw [es, eg, ts_nt q, Bool.false_and, if_neg (by decide)] at g1
      exact ⟨X', g1, g2⟩
theorem c_gl_out (hN : netOK n K A B W) (h0 : 0 < n) (p : Int32) : ∀ (d x k : Nat) (X : XS), x + d = 16 → R_net n K A B W (X 3) →
    ∃ X', fX8_glitches_b29 (k + d + 1) p (nI (fb_ct (glC n K A B W p) (16 * x))) (nI x) X = some (nI (fb_ct (glC n K A B W p) 256), X') ∧ wvs X X' := by
  intro d
  induction d with
  | zero =>
    intro x k X hx hr
    have : x = 16 := by omega
    subst this
    refine ⟨X, ?_, wvs.rf X⟩
    rw [fX8_glitches_b29, if_pos (by decide)]
  | succ d ih =>
    intro x k X hx hr
    obtain ⟨k2, hk2⟩ := FU_of 17 (by decide)
    obtain ⟨X1, g1, g2⟩ := c_gl_in hN h0 p (fX8_glitches_b29 (k + d + 1)) (show x < 16 by omega) 16 0 k2 X rfl hr
    obtain ⟨X2, g3, g4⟩ := ih (x + 1) k X1 (by omega) (g2.2.net hr)
    refine ⟨X2, ?_, g2.tr g4⟩
    rw [show k + (d + 1) + 1 = (k + d + 1) + 1 by omega, fX8_glitches_b29]
    simp only [zl]
    rw [if_neg (fun q => by rw [nI_leI (by omega) (by omega)] at q; omega), hk2]
    simp only [Nat.add_zero] at g1
    rw [show k2 + 17 = k2 + 16 + 1 from rfl, g1]
    exact g3
theorem r_gl (hN : netOK n K A B W) (h0 : 0 < n) (p : Int32) : ∀ (d c k : Nat) (σ : Mem), c + d = 256 → R_ref n K A B W (σ.1 0) →
    ∃ σ', fX9_glitches_b28 (k + d + 1) p (nI (fb_ct (glC n K A B W p) c)) (nI c) σ = some (nI (fb_ct (glC n K A B W p) 256), σ') ∧ kept12 σ σ' := by
  have k16 : ∀ z : Option (Int32 × Mem), ck0 (nI 16) z = z := fun z => p_ck0 (by decide) (by decide)
  intro d
  induction d with
  | zero =>
    intro c k σ hc hs
    have : c = 256 := by omega
    subst this
    refine ⟨σ, ?_, fun _ _ => rfl⟩
    rw [fX9_glitches_b28, if_pos (by decide)]
  | succ d ih =>
    intro c k σ hc hs
    have es : fb_ct (glC n K A B W p) (c + 1) = fb_ct (glC n K A B W p) c + if glC n K A B W p c = true then 1 else 0 := rfl
    rw [fX9_glitches_b28]
    simp only [zl, k16]
    rw [if_neg (fun q => by rw [nI_leI (by omega) (by omega)] at q; omega), n_rem16 (by omega), n_div16 (by omega), r_one (by omega) (by omega), p_b1, p_if]
    by_cases q : one (c / 16) (c % 16) = true
    · obtain ⟨σ1, e1, e2, e3, e4, e5⟩ := r_waves hN h0 hs (show c / 16 < 16 by omega) (show c % 16 < 16 by omega)
      rw [if_pos q, e1, p_b1, r_glitch hN h0 e3 e4, p_b1]
      unfold fX9_glitches_b78 fX9_glitches_b80
      simp only [p_lt, zl, nI_add]
      obtain ⟨σ2, g1, g2⟩ := ih (c + 1) k σ1 (by omega) e3.1
      rw [es, show glC n K A B W p c = (one (c / 16) (c % 16) && decide (nI (glt (fb_ct (flp K A B W (c / 16) (c % 16) (4 + (n - 1))) 109) (wv K A B W (c / 16) (c % 16) (4 + (n - 1)) 108) (row K A B (c / 16) (4 + (n - 1)))) = p)) from rfl, q, Bool.true_and] at g1
      refine ⟨σ2, ?_, e2.tr g2⟩
      by_cases z : nI (glt (fb_ct (flp K A B W (c / 16) (c % 16) (4 + (n - 1))) 109) (wv K A B W (c / 16) (c % 16) (4 + (n - 1)) 108) (row K A B (c / 16) (4 + (n - 1)))) = p
      · rw [if_pos z]
        rw [if_pos (decide_eq_true z)] at g1
        exact g1
      · rw [if_neg z]
        rw [if_neg (by simpa using z)] at g1
        exact g1
    · rw [if_neg q]
      unfold fX9_glitches_b80
      simp only [p_lt, zl, nI_add]
      obtain ⟨σ2, g1, g2⟩ := ih (c + 1) k σ (by omega) hs
      rw [es, show glC n K A B W p c = (one (c / 16) (c % 16) && decide (nI (glt (fb_ct (flp K A B W (c / 16) (c % 16) (4 + (n - 1))) 109) (wv K A B W (c / 16) (c % 16) (4 + (n - 1)) 108) (row K A B (c / 16) (4 + (n - 1)))) = p)) from rfl, ts_nt q, Bool.false_and, if_neg (by decide)] at g1
      exact ⟨σ2, g1, g2⟩
end GLITCH
theorem sim_glitches {X : XS} {σ : Mem} (h : Rel X σ) (p0 : Int32) : Sim (fX8_glitches p0 X) (fX9_glitches p0 σ) := by
  obtain ⟨⟨n, K, A, B, W, T, C, V, d, Sd, Pl, F1, F2, hN, hr, hs, -⟩, -⟩ := id h
  have hn := hN.1
  unfold fX8_glitches fX9_glitches
  simp only [zl]
  rw [r_isIn, c_within0 p0 (by decide), p_b1, p_b1, p_if, p_if]
  by_cases q2 : inN p0 (2 + 1) = true
  · rw [if_pos q2, if_pos q2, c_empty (by omega) hr.1, p_b1, p_if, p_ckI (by decide) (by decide), nI_clamp (by decide), hs.1, i_eq0 (by omega)]
    by_cases q3 : n = 0
    · rw [if_pos (decide_eq_true q3), if_pos q3]
      exact Sim.i h
    · rw [if_neg (by simpa using q3), if_neg q3]
      obtain ⟨k1, hk1⟩ := FU_of 257 (by decide)
      obtain ⟨X', e1, e2⟩ := c_gl_out hN (by omega) p0 16 0 (k1 + 240) X rfl hr
      obtain ⟨σ', e3, e4⟩ := r_gl hN (by omega) p0 256 0 k1 σ rfl hs
      rw [show k1 + 240 + 16 + 1 = k1 + 257 from rfl, ← hk1] at e1
      rw [show k1 + 256 + 1 = k1 + 257 from rfl, ← hk1] at e3
      have a1 : fX8_glitches_b29 FU p0 (nI 0) (nI 0) X = _ := e1
      have a2 : fX9_glitches_b28 FU p0 (nI 0) (nI 0) σ = _ := e3
      rw [a1, a2]
      exact Sim.i (h.wvs e2 e4)
  · rw [if_neg q2, if_neg q2]
    exact Sim.i h
