/-! PURE, 4: the class's wave: 128 times as bits -/
section CWAVE
variable {n : Nat} {K A B W : Nat → Nat} {N w : Mem} {T : Nat → Int32}
theorem c_rowT (hT : ∀ m, m < 4 + n → N.1 5 m = nI (tab K A B m)) (hn : n ≤ 12) {m x : Nat} (hm : m < 4 + n) (hx : x < 16) : fX3_rowTells (nI m) (nI x) N = some (bI (row K A B x m)) := by
  unfold fX3_rowTells
  have := tab_lt K A B m
  simp only [zl]
  rw [p_ckI (by omega) (by decide), nI_clamp (by omega), hT m hm, n_bit (by omega) (by omega), tab_bit _ _ _ _ _ hx]
theorem L64_neg (b : Bool) : (-bI b).toInt64 = L64 (fun _ => b) := by
  cases b
  · decide +kernel
  · decide +kernel
/-- the rows below m hold their waves -/
def lh (K A B W : Nat → Nat) (x y m : Nat) (w : Mem) : Prop := ∀ j, j < m → w.2 0 j = L64 (fun t => wv K A B W x y j t) ∧ w.2 1 j = L64 (fun t => wv K A B W x y j (64 + t))
theorem c_lateLow {x y a d m : Nat} (h : lh K A B W x y m w) (ha : a < m) (hm : m ≤ 16) (hd : d < 64) : fX7_lateLow (nI a) (nI d) (bI (row K A B x a)) w = some (L64 (fun t => late K A B W x y a d t)) := by
  unfold fX7_lateLow fX7_lateLow_b13
  simp only [zl, zlL]
  rw [p_if]
  have k1 : ∀ z : Option Int64, ckI (nI a) 16 z = z := fun z => p_ckI (by omega) (by decide)
  rw [k1, k1, nI_clamp (by omega), (h a ha).1, L64_shl _ hd, L64_low hd, L64_0, L64_or, L64_or]
  by_cases q : row K A B x a = true
  · rw [if_pos q]
    congr 1
    refine L64_cong (fun i hi => ?_)
    unfold late
    by_cases z : i < d
    · rw [decide_eq_false (by omega), decide_eq_true z, Bool.false_and, Bool.false_or, if_pos z, q]
    · rw [decide_eq_true (by omega), decide_eq_false z, Bool.true_and, Bool.or_false, if_neg z]
  · rw [if_neg q]
    congr 1
    refine L64_cong (fun i hi => ?_)
    unfold late
    by_cases z : i < d
    · rw [decide_eq_false (by omega), Bool.false_and, Bool.false_or, if_pos z, ts_nt q]
    · rw [decide_eq_true (by omega), Bool.true_and, Bool.or_false, if_neg z]
theorem c_lateHigh {x y a d m : Nat} (h : lh K A B W x y m w) (ha : a < m) (hm : m ≤ 16) (hd0 : 0 < d) (hd : d < 64) : fX7_lateHigh (nI a) (nI d) w = some (L64 (fun t => late K A B W x y a d (64 + t))) := by
  unfold fX7_lateHigh
  simp only [zl]
  have k1 : ∀ z : Option Int64, ckI (nI a) 16 z = z := fun z => p_ckI (by omega) (by decide)
  rw [k1, k1, nI_clamp (by omega), (h a ha).1, (h a ha).2, n_sub (by omega), L64_shl _ hd, L64_shr _ (by omega), L64_or]
  congr 1
  refine L64_cong (fun i hi => ?_)
  unfold late
  rw [if_neg (by omega)]
  by_cases z : i < d
  · rw [decide_eq_false (by omega), decide_eq_true (by omega), Bool.false_and, Bool.false_or, Bool.true_and, show i + (64 - d) = 64 + i - d by omega]
  · rw [decide_eq_true (by omega), decide_eq_false (by omega), Bool.false_and, Bool.or_false, Bool.true_and, show 64 + (i - d) = 64 + i - d by omega]
theorem c_runGate (hN : netOK n K A B W) (hr : R_net n K A B W N) (hT : ∀ m, m < 4 + n → N.1 5 m = nI (tab K A B m)) {x y g : Nat} (hx : x < 16) (hg : g < n) (h : lh K A B W x y (4 + g) w) :
    ∃ w', fX7_runGate (nI g) (nI x) w N = some w' ∧ lh K A B W x y (4 + (g + 1)) w' ∧ w'.1 = w.1 := by
  have hn := hN.1
  obtain ⟨hk, ha, hb, hw⟩ := hN.2 g hg
  obtain ⟨r0, r1, r2, r3⟩ := hr.2.1 g hg
  have k1 : ∀ z : Option Mem, ckI (nI g) 12 z = z := fun z => p_ckI (by omega) (by decide)
  have k4 : ∀ z : Option Mem, ckI (nI (4 + g)) 16 z = z := fun z => p_ckI (by omega) (by decide)
  have c1 : (nI g).toNatClampNeg = g := nI_clamp (by omega)
  have c4 : (nI (4 + g)).toNatClampNeg = 4 + g := nI_clamp (by omega)
  unfold fX7_runGate
  simp only [zl, k1, k4, p_lt, c1, r0, r1, r2, r3, src_row, nI_add, c4]
  have hl : ∀ r : Int64, lh K A B W x y (4 + g) (ml w 0 (4 + g) r) := fun r j hj => by
    rw [m_mlS, m_mlN _ (by decide), m_uLN _ (by omega)]
    exact h j hj
  rw [c_rowT hT hn (by omega) hx, p_b1, c_lateLow h ha (by omega) (by omega), p_b1, c_rowT hT hn (by omega) hx, p_b1, c_lateLow h hb (by omega) (by omega), p_b1, c_comb _ _ hk, p_b1, c_lateHigh (hl _) ha (by omega) (by omega) (by omega), p_b1, c_lateHigh (hl _) hb (by omega) (by omega) (by omega), p_b1, c_comb _ _ hk, p_b1]
  refine ⟨_, rfl, fun j hj => ?_, rfl⟩
  rw [m_mlN _ (show (0 : Nat) ≠ 1 by decide), m_mlS, m_mlS, m_mlN _ (show (1 : Nat) ≠ 0 by decide)]
  by_cases q : j = 4 + g
  · subst q
    rw [m_uLS, m_uLS]
    constructor
    · exact L64_cong (fun i _ => (wv_gate hN x y i hg).symm)
    · exact L64_cong (fun i _ => (wv_gate hN x y (64 + i) hg).symm)
  · rw [m_uLN _ q, m_uLN _ q]
    exact h j (by omega)
/-- a wave laid: what is read of it -/
def C_wave (n : Nat) (K A B W : Nat → Nat) (x y : Nat) (w : Mem) : Prop :=
  w.1 2 0 = nI (4 + (n - 1)) ∧ w.1 3 0 = bI (row K A B x (4 + (n - 1))) ∧ w.2 0 (4 + (n - 1)) = L64 (fun t => wv K A B W x y (4 + (n - 1)) t) ∧ w.2 1 (4 + (n - 1)) = L64 (fun t => wv K A B W x y (4 + (n - 1)) (64 + t))
theorem c_run_gates (hN : netOK n K A B W) (h0 : 0 < n) (hr : R_net n K A B W N) (hT : ∀ m, m < 4 + n → N.1 5 m = nI (tab K A B m)) {x y : Nat} (hx : x < 16) : ∀ (d g k : Nat) (w : Mem), g + d = n → lh K A B W x y (4 + g) w →
    ∃ w', fX7_run_b52 (k + d + 1) (nI x) (nI g) w N = some (w', N) ∧ C_wave n K A B W x y w' := by
  have hn := hN.1
  intro d
  induction d with
  | zero =>
    intro g k w hg h
    have : g = n := by omega
    subst this
    rw [fX7_run_b52, hr.1, if_pos ((nI_leI (by omega) (by omega)).mpr (by omega)), c_out h0 hr.1, p_b1]
    simp only [zl, nI_add]
    rw [show (mi w 2 0 (nI (4 + (g - 1)))).1 2 0 = nI (4 + (g - 1)) from rfl, c_rowT hT hn (by omega) hx, p_b1, p_lt]
    refine ⟨_, rfl, rfl, rfl, ?_, ?_⟩
    · exact (h (4 + (g - 1)) (by omega)).1
    · exact (h (4 + (g - 1)) (by omega)).2
  | succ d ih =>
    intro g k w hg h
    obtain ⟨w1, h1, h2, -⟩ := c_runGate hN hr hT hx (show g < n by omega) h
    rw [fX7_run_b52, hr.1, if_neg (fun q => by rw [nI_leI (by omega) (by omega)] at q; omega), h1, p_b1, p_lt]
    simp only [zl, nI_add]
    exact ih (g + 1) k w1 (by omega) h2
theorem c_run_rows (hN : netOK n K A B W) (h0 : 0 < n) (hr : R_net n K A B W N) (hT : ∀ m, m < 4 + n → N.1 5 m = nI (tab K A B m)) {x y : Nat} (hx : x < 16) (hy : y < 16) : ∀ (d i k : Nat) (w : Mem), i + d = 4 → lh K A B W x y i w →
    ∃ w', fX7_run_b7 (k + d + 1) (nI x) (nI y) (nI i) w N = some (w', N) ∧ C_wave n K A B W x y w' := by
  have hn := hN.1
  intro d
  induction d with
  | zero =>
    intro i k w hi h
    have : i = 4 := by omega
    subst this
    obtain ⟨k2, hk2⟩ := FU_of 13 (by decide)
    rw [fX7_run_b7, if_pos (by decide), hk2, show k2 + 13 = k2 + 12 - n + n + 1 by omega]
    exact c_run_gates hN h0 hr hT hx n 0 (k2 + 12 - n) w (by omega) h
  | succ d ih =>
    intro i k w hi h
    rw [fX7_run_b7]
    simp only [zl]
    have k1 : ∀ z : Option (Mem × Mem), ckI (nI i) 16 z = z := fun z => p_ckI (by omega) (by decide)
    rw [if_neg (fun q => by rw [nI_leI (by omega) (by omega)] at q; omega), c_rowT hT hn (by omega) hy, p_b1, k1, k1, k1, p_lt, p_lt, nI_add, nI_clamp (by omega), L64_neg]
    refine ih (i + 1) k _ (by omega) (fun j hj => ?_)
    rw [m_mlN _ (show (0 : Nat) ≠ 1 by decide), m_mlS, m_mlS, m_mlN _ (show (1 : Nat) ≠ 0 by decide)]
    by_cases q : j = i
    · subst q
      rw [m_uLS, m_uLS]
      constructor
      · exact L64_cong (fun t _ => by rw [wv_in K A B W x y t (by omega : j < 4), row_in K A B y (by omega : j < 4)])
      · exact L64_cong (fun t _ => by rw [wv_in K A B W x y (64 + t) (by omega : j < 4), row_in K A B y (by omega : j < 4)])
    · rw [m_uLN _ q, m_uLN _ q]
      exact h j (by omega)
theorem c_run (hN : netOK n K A B W) (h0 : 0 < n) (hr : R_net n K A B W N) {x y : Nat} (hx : x < 16) (hy : y < 16) (w : Mem) :
    ∃ w' N', fX7_run (nI x) (nI y) w N = some (w', N') ∧ C_wave n K A B W x y w' ∧ samN N N' := by
  obtain ⟨T, h1, h2, h3⟩ := c_tabs hN hr
  obtain ⟨k, hk⟩ := FU_of 5 (by decide)
  obtain ⟨w', h4, h5⟩ := c_run_rows hN h0 (h3.net hr) h2 hx hy 4 0 k w rfl (fun j hj => by omega)
  refine ⟨w', _, ?_, h5, h3⟩
  unfold fX7_run
  rw [h1, p_b1, hk]
  exact h4
theorem C_wave.at {x y t : Nat} (h : C_wave n K A B W x y w) (hn : n ≤ 12) (ht : t < 128) : fX7_at (nI t) w = some (bI (wv K A B W x y (4 + (n - 1)) t)) := by
  unfold fX7_at
  simp only [zl, zlL]
  have k1 : ∀ z : Option Int32, ckI (w.1 2 0) 16 z = z := fun z => by rw [h.1]; exact p_ckI (by omega) (by decide)
  have c1 : (w.1 2 0).toNatClampNeg = 4 + (n - 1) := by rw [h.1]; exact nI_clamp (by omega)
  rw [if_pos (z_pos (by omega))]
  by_cases q : 64 ≤ t
  · rw [if_pos ((nI_leI (by omega) (by omega)).mpr q), k1, p_lt, c1, h.2.2.2, n_sub q, L64_bit _ (by omega), show 64 + (t - 64) = t by omega]
  · rw [if_neg (fun z => q ((nI_leI (by omega) (by omega)).mp z)), k1, p_lt, c1, h.2.2.1, L64_bit _ (by omega)]
theorem C_wave.ahead {x y : Nat} (h : C_wave n K A B W x y w) {p : Int32} (hp : p < 0) : fX7_at p w = some (bI (row K A B x (4 + (n - 1)))) := by
  unfold fX7_at
  simp only [zl]
  rw [if_neg (neg_nle hp), h.2.1]
theorem C_wave.prev {x y t : Nat} (h : C_wave n K A B W x y w) (hn : n ≤ 12) (ht : t < 128) : fX7_at (nI t - nI 1) w = some (bI (prv K A B W x y (4 + (n - 1)) t)) := by
  unfold prv
  by_cases q : t = 0
  · subst q
    rw [if_pos rfl]
    exact h.ahead (by decide)
  · rw [if_neg q, n_sub (by omega)]
    exact h.at hn (by omega)
theorem flp_still (hN : netOK n K A B W) (h0 : 0 < n) (x y : Nat) {t : Nat} (ht : 109 ≤ t) : flp K A B W x y (4 + (n - 1)) t = false := by
  have hn := hN.1
  unfold flp prv
  rw [if_neg (by omega), wv_still hN x y _ t (by omega) (by omega), wv_still hN x y _ (t - 1) (by omega) (by omega), Bool.xor_self]
theorem ct_128 (f : Nat → Bool) (h : ∀ k, 109 ≤ k → f k = false) : fb_ct f 64 + fb_ct (fun i => f (64 + i)) 64 = fb_ct f 109 := by
  rw [← fb_ct_split f 64 64]
  have h3 : fb_ct (fun k => f (109 + k)) 19 = 0 := fb_ct_zero.mpr (fun k _ => h _ (by omega))
  exact (fb_ct_split f 109 19).trans ((congrArg (fun z => fb_ct f 109 + z) h3).trans (Nat.add_zero _))
theorem C_wave.flips (hN : netOK n K A B W) (h0 : 0 < n) {x y : Nat} (h : C_wave n K A B W x y w) : fX7_flips w = some (nI (fb_ct (flp K A B W x y (4 + (n - 1))) 109)) := by
  have hn := hN.1
  have e1 : L64 (fun t => wv K A B W x y (4 + (n - 1)) t) ^^^ (jlshl (L64 (fun t => wv K A B W x y (4 + (n - 1)) t)) (nI 1) ||| (bI (row K A B x (4 + (n - 1)))).toInt64) = L64 (flp K A B W x y (4 + (n - 1))) := by
    rw [L64_bI, L64_shl _ (by decide), L64_or, L64_xor]
    refine L64_cong (fun i hi => ?_)
    unfold flp prv
    by_cases q : i = 0
    · subst q; simp
    · rw [decide_eq_true (show 1 ≤ i by omega), decide_eq_false q, if_neg q]; simp
  have e2 : L64 (fun t => wv K A B W x y (4 + (n - 1)) (64 + t)) ^^^ (jlshl (L64 (fun t => wv K A B W x y (4 + (n - 1)) (64 + t))) (nI 1) ||| jlushr (L64 (fun t => wv K A B W x y (4 + (n - 1)) t)) (nI 63)) = L64 (fun i => flp K A B W x y (4 + (n - 1)) (64 + i)) := by
    rw [L64_shl _ (by decide), L64_shr _ (by decide), L64_or, L64_xor]
    refine L64_cong (fun i hi => ?_)
    unfold flp prv
    rw [if_neg (by omega)]
    by_cases q : i = 0
    · subst q; simp
    · rw [decide_eq_true (show 1 ≤ i by omega), decide_eq_false (show ¬ i + 63 < 64 by omega), show 64 + (i - 1) = 64 + i - 1 by omega]; simp
  have e3 := ct_128 (flp K A B W x y (4 + (n - 1))) (fun k hk => flp_still hN h0 x y hk)
  unfold fX7_flips
  simp only [zl]
  have k1 : ∀ z : Option Int32, ckI (w.1 2 0) 16 z = z := fun z => by rw [h.1]; exact p_ckI (by omega) (by decide)
  have c1 : (w.1 2 0).toNatClampNeg = 4 + (n - 1) := by rw [h.1]; exact nI_clamp (by omega)
  rw [k1, p_lt, k1, p_lt, c1, h.2.2.1, h.2.2.2, h.2.1, e1, e2, bitCountL, p_b1, bitCountL, p_b1, nI_add, e3]
theorem C_wave.settles (hN : netOK n K A B W) {x y : Nat} (h : C_wave n K A B W x y w) : fX7_settles w = some (lst (flp K A B W x y (4 + (n - 1))) 109) := by
  have hn := hN.1
  have go : ∀ (t k : Nat), t ≤ 109 → fX7_settles_b3 w (k + t + 1) (nI t - nI 1) = some (lst (flp K A B W x y (4 + (n - 1))) t) := by
    intro t
    induction t with
    | zero =>
      intro k _
      rw [fX7_settles_b3, if_pos (by decide)]
      rfl
    | succ t ih =>
      intro k ht
      rw [n_sub (by omega), Nat.add_sub_cancel, show k + (t + 1) + 1 = (k + t + 1) + 1 by omega, fX7_settles_b3]
      simp only [zl]
      rw [if_neg (z_neg (by omega)), h.at hn (by omega), p_b1, h.prev hn (by omega), p_b1, i_bI]
      have e : flp K A B W x y (4 + (n - 1)) t = !(decide (wv K A B W x y (4 + (n - 1)) t = prv K A B W x y (4 + (n - 1)) t)) := by
        unfold flp
        cases wv K A B W x y (4 + (n - 1)) t <;> cases prv K A B W x y (4 + (n - 1)) t <;> rfl
      by_cases q : wv K A B W x y (4 + (n - 1)) t = prv K A B W x y (4 + (n - 1)) t
      · rw [if_pos q, p_lt, ← Int32.sub_eq_add_neg, ih k (by omega)]
        congr 1
        show _ = if _ then _ else _
        rw [e, decide_eq_true q]; rfl
      · rw [if_neg q]
        congr 1
        show _ = if _ then _ else _
        rw [e, decide_eq_false q]; rfl
  obtain ⟨k, hk⟩ := FU_of 110 (by decide)
  unfold fX7_settles
  rw [hk, show (108 : Int32) = nI 109 - nI 1 by decide]
  exact go 109 k (by omega)
def glt (F : Nat) (a b : Bool) : Nat := if a = b then (if 0 < F then 1 else 0) else (if 1 < F then 2 else 0)
theorem C_wave.glitch (hN : netOK n K A B W) (h0 : 0 < n) {x y : Nat} (h : C_wave n K A B W x y w) : fX7_glitch w = some (nI (glt (fb_ct (flp K A B W x y (4 + (n - 1))) 109) (wv K A B W x y (4 + (n - 1)) 108) (row K A B x (4 + (n - 1))))) := by
  have hn := hN.1
  have hF := fb_ct_le (flp K A B W x y (4 + (n - 1))) 109
  unfold fX7_glitch glt
  simp only [zl]
  rw [h.flips hN h0, p_b1, h.at hn (by omega), p_b1, h.2.1, i_bI]
  by_cases q : wv K A B W x y (4 + (n - 1)) 108 = row K A B x (4 + (n - 1))
  · rw [if_pos q, if_pos q]
    by_cases z : 0 < fb_ct (flp K A B W x y (4 + (n - 1))) 109
    · rw [if_neg (fun e => by rw [nI_leI (by omega) (by omega)] at e; omega), if_pos z]
    · rw [if_pos ((nI_leI (by omega) (by omega)).mpr (by omega)), if_neg z]
  · rw [if_neg q, if_neg q]
    by_cases z : 1 < fb_ct (flp K A B W x y (4 + (n - 1))) 109
    · rw [if_neg (fun e => by rw [nI_leI (by omega) (by omega)] at e; omega), if_pos z]
    · rw [if_pos ((nI_leI (by omega) (by omega)).mpr (by omega)), if_neg z]
theorem r_glitch {σ : Mem} (hN : netOK n K A B W) (h0 : 0 < n) {x y : Nat} (h : R_wave n K A B W x y σ) (hF : σ.1 14 0 = nI (fb_ct (flp K A B W x y (4 + (n - 1))) 109)) : fX9_glitch σ = some (nI (glt (fb_ct (flp K A B W x y (4 + (n - 1))) 109) (wv K A B W x y (4 + (n - 1)) 108) (row K A B x (4 + (n - 1))))) := by
  have hn := hN.1
  have hF2 := fb_ct_le (flp K A B W x y (4 + (n - 1))) 109
  unfold fX9_glitch glt fX9_glitch_b19
  simp only [zl]
  rw [R_wave.at hN h0 h (by omega), p_b1, R_wave.ahead hN h0 h (by decide), p_b1, i_bI, hF]
  by_cases q : wv K A B W x y (4 + (n - 1)) 108 = row K A B x (4 + (n - 1))
  · rw [if_pos q, if_pos q, if_neg (by decide)]
    by_cases z : 0 < fb_ct (flp K A B W x y (4 + (n - 1))) 109
    · rw [if_neg (fun e => by rw [nI_leI (by omega) (by omega)] at e; omega), if_pos z]
    · rw [if_pos ((nI_leI (by omega) (by omega)).mpr (by omega)), if_neg z]
  · rw [if_neg q, if_neg q, if_pos trivial]
    by_cases z : 1 < fb_ct (flp K A B W x y (4 + (n - 1))) 109
    · rw [if_neg (fun e => by rw [nI_leI (by omega) (by omega)] at e; omega), if_pos z]
    · rw [if_pos ((nI_leI (by omega) (by omega)).mpr (by omega)), if_neg z]
end CWAVE
