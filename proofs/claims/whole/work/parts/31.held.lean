/-! PURE, 11: what terms hold; what is covered; open pairs -/
def hold (c w : Nat) : Nat := nb (fun x => decide (x &&& c = w)) 16
theorem hold_lt (c w : Nat) : hold c w < 65536 := nb_lt _ 16
theorem ckI_e {γ : Type} {i : Int32} {n : Nat} {k : Option γ} (h : vp_in i n) : ckI i n k = k := by unfold ckI; rw [if_neg h]
theorem held_mono : ∀ n a b c d r, fX8_held_b6 n a b c d = some r → fX8_held_b6 (n + 1) a b c d = some r := by
  intro n
  induction n with
  | zero => intro a b c d r h; rw [fX8_held_b6] at h; cases h
  | succ n ih =>
    intro a b c d r h
    rw [fX8_held_b6] at h ⊢
    unfold fX8_held_b60 fX8_held_b35 fX8_held_b58 fX8_held_b60 at h ⊢
    by_cases q : (4 : Int32) ≤ d
    · rw [if_pos q] at h ⊢; exact h
    · rw [if_neg q] at h ⊢
      by_cases q2 : ((a >>> (d &&& 31)) &&& (1 : Int32)) = (0 : Int32)
      · rw [if_pos q2] at h ⊢; exact ih _ _ _ _ _ h
      · rw [if_neg q2] at h ⊢
        by_cases q3 : ((b >>> (d &&& 31)) &&& (1 : Int32)) = (0 : Int32)
        · rw [if_pos q3, if_pos rfl] at h ⊢
          obtain ⟨k1, h⟩ := ckI_i h
          rw [ckI_e k1]
          exact ih _ _ _ _ _ h
        · rw [if_neg q3, if_neg (by decide)] at h ⊢
          obtain ⟨k1, h⟩ := ckI_i h
          rw [ckI_e k1]
          exact ih _ _ _ _ _ h
theorem c_held_5 : ∀ c, c < 16 → ∀ w, w < 16 → sub w c = true → fX8_held_b6 5 (nI c) (nI w) (nI 65535) (nI 0) = some (nI (hold c w)) := by decide +kernel
theorem sub_lt {w c n : Nat} (hc : c < n) (h : sub w c = true) : w < n := by
  have h3 : w &&& c = w := of_decide_eq_true h
  have h4 : w &&& c ≤ c := Nat.and_le_right
  omega
theorem c_held {c w : Nat} (hc : c < 16) (h : sub w c = true) : fX8_held (nI c) (nI w) = some (nI (hold c w)) := by
  unfold fX8_held
  exact mono_le (P := fun n => fX8_held_b6 n (nI c) (nI w) (nI 65535) (nI 0)) (fun n r => held_mono n _ _ _ _ r) (c_held_5 c hc w (sub_lt hc h) h) (show 5 ≤ FU by have := FU_ge; omega)
theorem nb_or2 (f : Nat → Bool) {x : Nat} (hx : x < 31) : nI (nb f x) ||| nI (if f x = true then 2 ^ x else 0) = nI (nb f (x + 1)) := by
  rw [← nb_or f hx]
  congr 1
  cases f x
  · have z : ∀ x, x < 31 → nI 0 = nI 0 <<< (nI x &&& nI 31) := by decide +kernel
    exact z x hx
  · exact (n_shl1 x (by omega)).symm
theorem r_holdsBy {c w : Nat} (hc : c < 65536) (hw : w < 65536) : fX9_holdsBy (nI c) (nI w) = some (nI (hold c w)) := by
  have go : ∀ (d x k : Nat), x + d = 16 → fX9_holdsBy_b4 (k + d + 1) (nI c) (nI w) (nI (nb (fun x => decide (x &&& c = w)) x)) (nI x) = some (nI (hold c w)) := by
    intro d
    induction d with
    | zero =>
      intro x k hx
      have : x = 16 := by omega
      subst this
      rw [fX9_holdsBy_b4, if_pos (by decide)]
      rfl
    | succ d ih =>
      intro x k hx
      have h1 := ih (x + 1) k (by omega)
      rw [← nb_or2 (fun x => decide (x &&& c = w)) (show x < 31 by omega)] at h1
      have hb : x &&& c < 65536 := Nat.lt_of_le_of_lt Nat.and_le_left (by omega)
      rw [fX9_holdsBy_b4]
      unfold fX9_holdsBy_b25
      simp only [zl, p_lt, nI_add, fa_and x c]
      rw [if_neg (fun q => by rw [nI_leI (by omega) (by omega)] at q; omega), i_eqP (by omega) (by omega), n_shl1 x (by omega)]
      by_cases q : x &&& c = w
      · rw [if_pos q]
        rw [if_pos (decide_eq_true q)] at h1
        exact h1
      · rw [if_neg q]
        rw [if_neg (by simpa using q)] at h1
        exact h1
  obtain ⟨k, hk⟩ := FU_of 17 (by decide)
  unfold fX9_holdsBy
  rw [hk]
  exact go 16 0 k rfl
/-- what a cover's first k terms hold -/
def stn (C V : Nat → Nat) : Nat → Nat
  | 0 => 0
  | k + 1 => stn C V k ||| hold (C k) (V k)
theorem stn_lt (C V : Nat → Nat) : ∀ k, stn C V k < 65536
  | 0 => by show (0 : Nat) < 65536; decide
  | k + 1 => Nat.or_lt_two_pow (n := 16) (stn_lt C V k) (hold_lt _ _)
section COV
variable {T : Nat} {C V : Nat → Nat}
theorem c_stands {N : Mem} (hc : covOK T C V) (h : R_cov T C V N) : fX0_stands N = some (nI (stn C V T)) := by
  have hT := hc.1
  have go : ∀ (d x k : Nat), x + d = T → fX0_stands_b4 N (k + d + 1) (nI (stn C V x)) (nI x) = some (nI (stn C V T)) := by
    intro d
    induction d with
    | zero =>
      intro x k hx
      have : x = T := by omega
      subst this
      rw [fX0_stands_b4, h.1, if_pos ((nI_leI (by omega) (by omega)).mpr (Nat.le_refl _))]
    | succ d ih =>
      intro x k hx
      obtain ⟨a0, a1⟩ := h.2 x (by omega)
      obtain ⟨b0, b1⟩ := hc.2 x (by omega)
      have k1 : ∀ z : Option Int32, ckI (nI x) 8 z = z := fun z => p_ckI (by omega) (by decide)
      rw [fX0_stands_b4, h.1, if_neg (fun q => by rw [nI_leI (by omega) (by omega)] at q; omega), k1, k1, nI_clamp (by omega), a0, a1, c_held b0 b1, p_b1, p_lt, p_lt, fa_or, show (1 : Int32) = nI 1 from rfl, nI_add]
      exact ih (x + 1) k (by omega)
  obtain ⟨k, hk⟩ := FU_of 9 (by decide)
  unfold fX0_stands
  rw [hk, show k + 9 = k + 8 - T + T + 1 by omega]
  exact go T 0 (k + 8 - T) (by omega)
theorem r_holds {σ : Mem} (hc : covOK T C V) (h : R_rcov T C V (σ.1 0)) {i : Nat} (hi : i < T) : fX9_holds (nI i) σ = some (nI (hold (C i) (V i))) := by
  have hT := hc.1
  obtain ⟨a0, a1⟩ := h.2 i hi
  obtain ⟨b0, b1⟩ := hc.2 i hi
  have b2 := sub_lt b0 b1
  unfold fX9_holds
  simp only [zl, n_mul, nI_add]
  rw [p_ckI (by omega) (by decide), p_ckI (by omega) (by decide), nI_clamp (by omega), nI_clamp (by omega), a0, a1, r_holdsBy (by omega) (by omega), p_b1]
theorem r_covered {σ : Mem} (hc : covOK T C V) (h : R_rcov T C V (σ.1 0)) : fX9_coveredSet σ = some (nI (stn C V T)) := by
  have hT := hc.1
  have k0 : ∀ z : Option Int32, ckI (nI 1) 66 z = z := fun z => p_ckI (by decide) (by decide)
  have c0 : (nI 1).toNatClampNeg = 1 := nI_clamp (by decide)
  have go : ∀ (d x k : Nat), x + d = T → fX9_coveredSet_b4 σ (k + d + 1) (nI (stn C V x)) (nI x) = some (nI (stn C V T)) := by
    intro d
    induction d with
    | zero =>
      intro x k hx
      have : x = T := by omega
      subst this
      rw [fX9_coveredSet_b4]
      simp only [zl, k0, c0, h.1]
      rw [if_pos ((nI_leI (by omega) (by omega)).mpr (Nat.le_refl _))]
    | succ d ih =>
      intro x k hx
      rw [fX9_coveredSet_b4]
      simp only [zl, k0, c0, h.1]
      rw [if_neg (fun q => by rw [nI_leI (by omega) (by omega)] at q; omega), r_holds hc h (by omega), p_b1, p_lt, p_lt, fa_or, nI_add]
      exact ih (x + 1) k (by omega)
  obtain ⟨k, hk⟩ := FU_of 9 (by decide)
  unfold fX9_coveredSet
  rw [hk, show k + 9 = k + 8 - T + T + 1 by omega]
  exact go T 0 (k + 8 - T) (by omega)
end COV
theorem sim_termOf {X : XS} {σ : Mem} (h : Rel X σ) (p0 p1 : Int32) : Sim2 (fX8_termOf p0 p1 X) (fX9_termOf p0 p1 σ) := by
  obtain ⟨⟨n, K, A, B, W, T, C, V, d, Sd, Pl, F1, F2, hN, hr, hs, hc, hC, hrC, hd, hdo, hD, hrD⟩, hrest⟩ := id h
  have hT := hc.1
  unfold fX8_termOf fX9_termOf
  simp only [zl]
  rw [c_has0 p0 (by omega) hC.1, p_b1, p_if, p_ckI (by decide) (by decide), nI_clamp (by decide), hrC.1, r_isIn, c_below p0 (by omega), p_b1, p_if]
  by_cases q : inN p0 T = true
  · rw [if_pos q, if_pos q, c_within0 p1 (by decide), p_b1, p_if]
    obtain ⟨p, hp, -, rfl⟩ := inN_t q
    obtain ⟨a0, a1⟩ := hC.2 p hp
    obtain ⟨b0, b1⟩ := hrC.2 p hp
    obtain ⟨t0, t1⟩ := hc.2 p hp
    have k1 : ∀ z : Option Int32, ckI (nI p) 8 z = z := fun z => p_ckI (by omega) (by decide)
    have c1 : (nI p).toNatClampNeg = p := nI_clamp (by omega)
    simp only [k1, c1, a0, a1]
    by_cases z0 : p1 = nI 0
    · subst z0
      rw [if_pos rfl, inN_nI (by decide), if_pos (by decide), if_neg (by decide), n_mul, nI_add, nI_add, p_ckI (by omega) (by decide), nI_clamp (by omega), Nat.add_zero, b0]
      exact ⟨_, rfl, rfl⟩
    · rw [if_neg z0]
      by_cases z1 : p1 = nI 1
      · subst z1
        rw [if_pos rfl, inN_nI (by decide), if_pos (by decide), if_neg (by decide), n_mul, nI_add, nI_add, p_ckI (by omega) (by decide), nI_clamp (by omega), b1]
        exact ⟨_, rfl, rfl⟩
      · rw [if_neg z1]
        by_cases z2 : p1 = nI 2
        · subst z2
          rw [if_pos rfl, inN_nI (by decide), if_pos (by decide), if_pos rfl, c_held t0 t1, p_b1, r_holds hc hrC hp, p_b1]
          exact ⟨_, rfl, rfl⟩
        · rw [if_neg z2, if_neg]
          · exact ⟨_, rfl, rfl⟩
          · intro hz
            obtain ⟨j, hj, -, rfl⟩ := inN_t hz
            have : j = 0 ∨ j = 1 ∨ j = 2 := by omega
            rcases this with rfl | rfl | rfl
            · exact z0 rfl
            · exact z1 rfl
            · exact z2 rfl
  · rw [if_neg q, if_neg q]
    exact ⟨_, rfl, rfl⟩
theorem sim_covered {X : XS} {σ : Mem} (h : Rel X σ) (p0 : Int32) : Sim (fX8_covered p0 X) (fX9_covered p0 σ) := by
  obtain ⟨⟨n, K, A, B, W, T, C, V, d, Sd, Pl, F1, F2, hN, hr, hs, hc, hC, hrC, hd, hdo, hD, hrD⟩, hrest⟩ := id h
  have hn := hN.1
  have hT := hc.1
  unfold fX8_covered fX9_covered
  simp only [zl]
  rw [r_isIn, c_within0 p0 (by decide), p_b1, p_b1, p_if, p_if]
  by_cases q2 : inN p0 (1 + 1) = true
  · rw [if_pos q2, if_pos q2, c_stands hc hC, p_b1, r_covered hc hrC, p_b1]
    by_cases z0 : p0 = nI 0
    · rw [if_pos z0, if_pos z0]
      exact Sim.i h
    · rw [if_neg z0, if_neg z0, c_empty (by omega) hr.1, p_b1, p_if, p_ckI (by decide) (by decide), nI_clamp (by decide), hs.1, i_eq0 (by omega)]
      by_cases q3 : n = 0
      · rw [if_pos (decide_eq_true q3), if_pos q3]
        exact Sim.i h
      · rw [if_neg (by simpa using q3), if_neg q3, c_out (by omega) hr.1, p_b1]
        obtain ⟨N', t1, t2⟩ := c_tableOut hN (by omega) hr
        obtain ⟨S, s1⟩ := r_table hN (by omega) hs
        rw [t1, p_b2, p_b1, s1, p_b2]
        have hR : Rel (xs X 3 N') (mr σ 12 S) := h.scr (fun k h2 h3 h4 h5 h7 => m_xsN _ h3 _) t2 (fun q => q) (fun k hk => m_mrN _ (by omega) _)
        by_cases z : nI (stn C V T) = nI (tab K A B (4 + (n - 1)))
        · rw [if_pos z, if_pos z]
          exact Sim.i hR
        · rw [if_neg z, if_neg z]
          exact Sim.i hR
  · rw [if_neg q2, if_neg q2]
    exact Sim.i h
/-! pairs: a bit at 16 times an INPUT and the side that lacks it -/
def pr (S : Nat) (i : Nat) : Bool := decide (i / 16 < 4) && (S.testBit (i % 16) && (S.testBit (i % 16 + 2 ^ (i / 16)) && !((i % 16).testBit (i / 16))))
theorem pr_at {S x j : Nat} (hx : x < 16) (hj : j < 4) : pr S (16 * j + x) = (S.testBit x && (S.testBit (x + 2 ^ j) && !(x.testBit j))) := by
  unfold pr
  rw [show (16 * j + x) / 16 = j by omega, show (16 * j + x) % 16 = x by omega, decide_eq_true hj, Bool.true_and]
theorem itab_bit : ∀ j, j < 4 → ∀ t, t < 16 → ((itab j) ^^^ -nI 1) = nI (nb (fun t => !(t.testBit j)) 16 + 4294901760) := by decide +kernel
theorem c_pairs {S : Nat} (hS : S < 65536) : fX8_pairsAmong (nI S) = some (L64 (pr S)) := by
  have go : ∀ (d j k : Nat), j + d = 4 → fX8_pairsAmong_b4 (k + d + 1) (nI S) (L64 (fun i => decide (i < 16 * j) && pr S i)) (nI j) = some (L64 (pr S)) := by
    intro d
    induction d with
    | zero =>
      intro j k hj
      have : j = 4 := by omega
      subst this
      rw [fX8_pairsAmong_b4, if_pos (by decide)]
      exact congrArg some (L64_cong (fun i hi => by rw [decide_eq_true (by omega), Bool.true_and]))
    | succ d ih =>
      intro j k hj
      have hj4 : j < 4 := by omega
      have h2 : 2 ^ j < 32 := Nat.lt_of_lt_of_le (Nat.pow_lt_pow_right (by decide) hj4) (by decide)
      rw [fX8_pairsAmong_b4]
      simp only [zl, p_lt]
      rw [if_neg (fun q => by rw [nI_leI (by omega) (by omega)] at q; omega), n_shl1 j (by omega), n_shr (by omega) h2, p_ckI (by omega) (by decide), nI_clamp (by omega), itab_bit j hj4 0 (by decide), fa_and, fa_and, n_mul, nI_add]
      generalize hM : nb (fun t => !(t.testBit j)) 16 + 4294901760 = M
      have hlt : S &&& S >>> 2 ^ j &&& M < 2 ^ 31 := Nat.lt_of_le_of_lt Nat.and_le_left (Nat.lt_of_le_of_lt Nat.and_le_left (by omega))
      have hb : ∀ t, t < 16 → M.testBit t = !(t.testBit j) := fun t ht => by
        rw [← hM, show (4294901760 : Nat) = 2 ^ 16 * 65535 from rfl, Nat.add_comm, Nat.testBit_two_pow_mul_add _ (nb_lt _ 16), if_pos ht, nb_bit, decide_eq_true ht, Bool.true_and]
      rw [nI_l hlt, L64_of, L64_shl _ (by omega), L64_or]
      have e : L64 (fun i => decide (i < 16 * j) && pr S i || decide (16 * j ≤ i) && (S &&& S >>> 2 ^ j &&& M).testBit (i - 16 * j)) = L64 (fun i => decide (i < 16 * (j + 1)) && pr S i) := by
        refine L64_cong (fun i hi => ?_)
        by_cases z : i < 16 * j
        · rw [decide_eq_true z, decide_eq_false (by omega), decide_eq_true (by omega), Bool.false_and, Bool.or_false]
        · rw [decide_eq_false z, decide_eq_true (by omega), Bool.false_and, Bool.false_or, Bool.true_and, Nat.testBit_and, Nat.testBit_and, Nat.testBit_shiftRight]
          by_cases z2 : i < 16 * (j + 1)
          · obtain ⟨t, ht, rfl⟩ : ∃ t, t < 16 ∧ i = 16 * j + t := ⟨i - 16 * j, by omega, by omega⟩
            rw [decide_eq_true z2, Bool.true_and, pr_at ht hj4, Nat.add_sub_cancel_left, hb t ht, Nat.add_comm (2 ^ j) t, Bool.and_assoc]
          · rw [decide_eq_false z2, Bool.false_and, Nat.testBit_lt_two_pow (Nat.lt_of_lt_of_le (show S < 2 ^ 16 from hS) (Nat.pow_le_pow_right (by decide) (show 16 ≤ i - 16 * j by omega))), Bool.false_and, Bool.false_and]
      rw [e]
      exact ih (j + 1) k (by omega)
  obtain ⟨k, hk⟩ := FU_of 5 (by decide)
  unfold fX8_pairsAmong
  rw [hk, show k + 5 = k + 4 + 1 from rfl, zlL, L64_0]
  have e : L64 (fun _ => false) = L64 (fun i => decide (i < 16 * 0) && pr S i) := L64_cong (fun i _ => by rw [decide_eq_false (by omega), Bool.false_and])
  rw [e]
  exact go 4 0 k rfl
/-- pairs that no term of the first k holds -/
def opl (S : Nat) (C V : Nat → Nat) : Nat → Nat → Bool
  | 0, i => pr S i
  | k + 1, i => opl S C V k i && !(pr (hold (C k) (V k)) i)
section OPEN
variable {T : Nat} {C V : Nat → Nat}
theorem c_openPairs {N : Mem} (hc : covOK T C V) (h : R_cov T C V N) : fX0_openPairs N = some (L64 (opl (stn C V T) C V T)) := by
  have hT := hc.1
  have go : ∀ (d x k : Nat), x + d = T → fX0_openPairs_b10 N (k + d + 1) (L64 (opl (stn C V T) C V x)) (nI x) = some (L64 (opl (stn C V T) C V T)) := by
    intro d
    induction d with
    | zero =>
      intro x k hx
      have : x = T := by omega
      subst this
      rw [fX0_openPairs_b10, h.1, if_pos ((nI_leI (by omega) (by omega)).mpr (Nat.le_refl _))]
    | succ d ih =>
      intro x k hx
      obtain ⟨a0, a1⟩ := h.2 x (by omega)
      obtain ⟨b0, b1⟩ := hc.2 x (by omega)
      have k1 : ∀ z : Option Int64, ckI (nI x) 8 z = z := fun z => p_ckI (by omega) (by decide)
      rw [fX0_openPairs_b10, h.1, if_neg (fun q => by rw [nI_leI (by omega) (by omega)] at q; omega), k1, k1, nI_clamp (by omega), a0, a1, c_held b0 b1, p_b1, c_pairs (hold_lt _ _), p_b1, p_lt, p_lt, show (-1 : Int64) = -lN 1 from rfl, L64_not, L64_and, show (1 : Int32) = nI 1 from rfl, nI_add]
      exact ih (x + 1) k (by omega)
  obtain ⟨k, hk⟩ := FU_of 9 (by decide)
  unfold fX0_openPairs
  rw [c_stands hc h, p_b1, c_pairs (stn_lt _ _ _), p_b1, hk, show k + 9 = k + 8 - T + T + 1 by omega]
  exact go T 0 (k + 8 - T) (by omega)
end OPEN
