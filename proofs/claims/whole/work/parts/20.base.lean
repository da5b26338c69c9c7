/-! PURE, 0: numbers, bits, and the small words of the printed meanings -/
/-- a literal, not by rfl: what decides a condition must be told anew -/
theorem zl (n : Nat) : (OfNat.ofNat n : Int32) = nI n := by cases n <;> rfl
theorem zlL (n : Nat) : (OfNat.ofNat n : Int64) = lN n := by cases n <;> rfl
theorem nI_eq0 {n : Nat} (h : n < 2 ^ 31) : (nI n = nI 0) = (n = 0) := propext (nI_eq h (by decide))
theorem n_sub {a b : Nat} (h : b ≤ a) : nI a - nI b = nI (a - b) := (Int32.ofNat_sub a b h).symm
theorem n_mul (a b : Nat) : nI a * nI b = nI (a * b) := (Int32.ofNat_mul a b).symm
theorem n_neg1 : -nI 1 = nI 4294967295 := by decide
theorem z_pos {n : Nat} (h : n < 2 ^ 31) : nI 0 ≤ nI n := nI_pos' h
theorem z_neg {n : Nat} (h : n < 2 ^ 31) : ¬ nI n < nI 0 := nI_pos h
theorem neg_or (p : Int32) : p < 0 ∨ ∃ j, j < 2 ^ 31 ∧ p = nI j := by
  by_cases h : p < 0
  · exact Or.inl h
  · exact Or.inr (nI_of h)
def bI (b : Bool) : Int32 := if b = true then nI 1 else nI 0
theorem bI_t : bI true = nI 1 := rfl
theorem bI_f : bI false = nI 0 := rfl
theorem bI_n (b : Bool) : bI b = nI (if b = true then 1 else 0) := by cases b <;> rfl
theorem bI_inj {a b : Bool} (h : bI a = bI b) : a = b := by
  cases a <;> cases b <;> first | rfl | (exact absurd h (by decide))
theorem bI_eq (a b : Bool) : (bI a = bI b) = (a = b) := propext ⟨bI_inj, fun h => by rw [h]⟩
theorem p_if {α : Type} (b : Bool) (x y : α) : (if bI b = nI 0 then x else y) = (if b = true then y else x) := by
  cases b
  · rw [if_pos (by decide), if_neg (by decide)]
  · rw [if_neg (by decide), if_pos rfl]
theorem p_if1 {α : Type} (b : Bool) (x y : α) : (if bI b = nI 1 then x else y) = (if b = true then x else y) := by
  cases b
  · rw [if_neg (by decide), if_neg (by decide)]
  · rw [if_pos (by decide), if_pos rfl]
theorem p_ckZ {γ : Type} {b : Bool} {k : Option γ} : ckZ (bI b) k = k := by
  unfold ckZ
  cases b
  · rw [if_pos (by decide)]
  · rw [if_pos (by decide)]
theorem p_ckP {γ : Type} {b : Bool} {k : Option γ} (h : b = true) : ckP b k = k := by
  unfold ckP; rw [if_pos h]
theorem p_ckI {γ : Type} {j N : Nat} {k : Option γ} (h : j < N) (hN : N < 2 ^ 31) : ckI (nI j) N k = k := by
  unfold ckI
  rw [if_neg (nI_in h hN)]
theorem p_ck0 {γ : Type} {j : Nat} {k : Option γ} (h : 0 < j) (hN : j < 2 ^ 31) : ck0 (nI j) k = k := by
  unfold ck0
  rw [if_neg (nI_ne0 h hN)]
theorem p_b1 {α γ : Type} {x : α} {k : α → Option γ} : b1 (some x) k = k x := rfl
theorem p_b2 {α β γ : Type} {x : α} {y : β} {k : α → β → Option γ} : b2 (some (x, y)) k = k x y := rfl
theorem p_b3 {α β δ γ : Type} {x : α} {y : β} {z : δ} {k : α → β → δ → Option γ} : b3 (some (x, y, z)) k = k x y z := rfl
theorem p_lt {α γ : Type} {x : α} {k : α → Option γ} : lt x k = k x := rfl
/-- an int as a place below n -/
def inN (p : Int32) (n : Nat) : Bool := decide (¬ p < 0) && decide (p.toNatClampNeg < n)
theorem inN_nI {j n : Nat} (hj : j < 2 ^ 31) : inN (nI j) n = decide (j < n) := by
  unfold inN
  rw [nI_clamp hj, decide_eq_true (nI_pos hj), Bool.true_and]
theorem inN_neg {p : Int32} {n : Nat} (h : p < 0) : inN p n = false := by
  unfold inN
  rw [decide_eq_false (fun q => q h), Bool.false_and]
theorem inN_t {p : Int32} {n : Nat} (h : inN p n = true) : ∃ j, j < n ∧ j < 2 ^ 31 ∧ p = nI j := by
  rcases neg_or p with q | ⟨j, hj, rfl⟩
  · rw [inN_neg q] at h; cases h
  · rw [inN_nI hj] at h
    exact ⟨j, of_decide_eq_true h, hj, rfl⟩
theorem p_ckIn {γ : Type} {p : Int32} {N : Nat} {k : Option γ} (h : inN p N = true) (hN : N < 2 ^ 31) : ckI p N k = k := by
  obtain ⟨j, h1, -, rfl⟩ := inN_t h
  exact p_ckI h1 hN
theorem lt_nI {p : Int32} (h : p < 0) {n : Nat} (hn : n < 2 ^ 31) : p < nI n := by
  rw [Int32.lt_iff_toInt_lt] at h ⊢
  rw [nI_toInt hn]
  have : (0 : Int32).toInt = 0 := by decide
  omega
theorem nlt_nI {p : Int32} (h : p < 0) {n : Nat} (hn : n < 2 ^ 31) : ¬ nI n < p := by
  rw [Int32.lt_iff_toInt_lt] at h ⊢
  rw [nI_toInt hn]
  have : (0 : Int32).toInt = 0 := by decide
  omega
theorem nle_nI {p : Int32} (h : p < 0) {n : Nat} (hn : n < 2 ^ 31) : ¬ nI n ≤ p := by
  rw [Int32.le_iff_toInt_le]
  rw [Int32.lt_iff_toInt_lt] at h
  rw [nI_toInt hn]
  have : (0 : Int32).toInt = 0 := by decide
  omega
theorem le_nI {p : Int32} (h : p < 0) {n : Nat} (hn : n < 2 ^ 31) : p ≤ nI n := by
  rw [Int32.le_iff_toInt_le]
  rw [Int32.lt_iff_toInt_lt] at h
  rw [nI_toInt hn]
  have : (0 : Int32).toInt = 0 := by decide
  omega
theorem ne_nI {p : Int32} (h : p < 0) {n : Nat} (hn : n < 2 ^ 31) : ¬ p = nI n := by
  intro e
  subst e
  exact nI_pos hn h
theorem nI_eqP {a b : Nat} (ha : a < 2 ^ 31) (hb : b < 2 ^ 31) : (nI a = nI b) = (a = b) := propext (nI_eq ha hb)
theorem nI_leP {a b : Nat} (ha : a < 2 ^ 31) (hb : b < 2 ^ 31) : (nI a ≤ nI b) = (a ≤ b) := propext (nI_leI ha hb)
theorem nI_ltP {a b : Nat} (ha : a < 2 ^ 31) (hb : b < 2 ^ 31) : (nI a < nI b) = (a < b) := propext (nI_ltI ha hb)
theorem nI_m1 {a : Nat} (ha : a < 2 ^ 31) : (nI a = -nI 1) = False := eq_false (fun e => by
  have h : (nI a).toInt = (-nI 1).toInt := by rw [e]
  rw [nI_toInt ha, show (-nI 1).toInt = -1 by decide] at h
  omega)
theorem nI_lt0 {a : Nat} (ha : a < 2 ^ 31) : (nI a < nI 0) = False := eq_false (fun h => by rw [nI_ltI ha (by decide)] at h; omega)
theorem i_eqP {α : Type} {a b : Nat} (ha : a < 2 ^ 31) (hb : b < 2 ^ 31) (x y : α) : (if nI a = nI b then x else y) = (if a = b then x else y) := by simp only [nI_eqP ha hb]
theorem i_eq0 {α : Type} {a : Nat} (ha : a < 2 ^ 31) (x y : α) : (if nI a = nI 0 then x else y) = (if a = 0 then x else y) := i_eqP ha (by decide) x y
theorem i_leP {α : Type} {a b : Nat} (ha : a < 2 ^ 31) (hb : b < 2 ^ 31) (x y : α) : (if nI a ≤ nI b then x else y) = (if a ≤ b then x else y) := by simp only [nI_leP ha hb]
theorem i_ltP {α : Type} {a b : Nat} (ha : a < 2 ^ 31) (hb : b < 2 ^ 31) (x y : α) : (if nI a < nI b then x else y) = (if a < b then x else y) := by simp only [nI_ltP ha hb]
theorem i_bI {α : Type} (a b : Bool) (x y : α) : (if bI a = bI b then x else y) = (if a = b then x else y) := by simp only [bI_eq]
theorem i_m1 {α : Type} {a : Nat} (ha : a < 2 ^ 31) (x y : α) : (if nI a = -nI 1 then x else y) = y := by rw [if_neg (by rw [nI_m1 ha]; exact fun e => e)]
/-- the loops' own first test: a place against a size -/
theorem c_within (p : Int32) {a b : Nat} (ha : a < 2 ^ 31) (hb : b < 2 ^ 31) : fX8_isWithin p (nI a) (nI b) = some (bI (inN p (b + 1) && !(inN p a))) := by
  unfold fX8_isWithin
  rcases neg_or p with h | ⟨j, hj, rfl⟩
  · rw [if_pos (lt_nI h ha), inN_neg h]; rfl
  · rw [inN_nI hj, inN_nI hj]
    by_cases h1 : j < a
    · rw [if_pos ((nI_ltI hj ha).mpr h1), decide_eq_true h1, Bool.not_true, Bool.and_false]; rfl
    · rw [if_neg (fun q => h1 ((nI_ltI hj ha).mp q)), decide_eq_false h1, Bool.not_false, Bool.and_true]
      by_cases h2 : b < j
      · rw [if_pos ((nI_ltI hb hj).mpr h2), decide_eq_false (by omega)]; rfl
      · rw [if_neg (fun q => h2 ((nI_ltI hb hj).mp q)), decide_eq_true (by omega)]; rfl
theorem r_isIn : fX9_isIn = fX8_isWithin := rfl
theorem inN_0 (p : Int32) : inN p 0 = false := by
  unfold inN
  rw [decide_eq_false (Nat.not_lt_zero _), Bool.and_false]
theorem c_within0 (p : Int32) {b : Nat} (hb : b < 2 ^ 31) : fX8_isWithin p (nI 0) (nI b) = some (bI (inN p (b + 1))) := by
  rw [c_within p (by decide) hb, inN_0, Bool.not_false, Bool.and_true]
/-- .. below a size less one -/
theorem c_below (p : Int32) {n : Nat} (hn : n < 2 ^ 31) : fX8_isWithin p (nI 0) (nI n - nI 1) = some (bI (inN p n)) := by
  cases n with
  | zero =>
    unfold fX8_isWithin
    rw [inN_0]
    by_cases h : p < nI 0
    · rw [if_pos h]; rfl
    · rw [if_neg h, if_pos]
      · rfl
      · have h0 : ¬ p.toInt < 0 := fun q => h (by rw [Int32.lt_iff_toInt_lt]; exact q)
        rw [Int32.lt_iff_toInt_lt, show (nI 0 - nI 1).toInt = -1 by decide]
        omega
  | succ n =>
    rw [n_sub (by omega), Nat.add_sub_cancel, c_within0 p (by omega)]
theorem c_has3 (p : Int32) {N : Mem} {n : Nat} (hn : n < 2 ^ 31) (h : N.1 4 0 = nI n) : fX3_has p N = some (bI (inN p n)) := by
  unfold fX3_has
  rcases neg_or p with q | ⟨j, hj, rfl⟩
  · rw [if_pos q, inN_neg q]; rfl
  · rw [if_neg (nI_pos hj), h, inN_nI hj]
    by_cases q : n ≤ j
    · rw [if_pos ((nI_leI hn hj).mpr q), decide_eq_false (by omega)]; rfl
    · rw [if_neg (fun z => q ((nI_leI hn hj).mp z)), decide_eq_true (by omega)]; rfl
theorem c_has0 (p : Int32) {N : Mem} {n : Nat} (hn : n < 2 ^ 31) (h : N.1 2 0 = nI n) : fX0_has p N = some (bI (inN p n)) := by
  unfold fX0_has
  rcases neg_or p with q | ⟨j, hj, rfl⟩
  · rw [if_pos q, inN_neg q]; rfl
  · rw [if_neg (nI_pos hj), h, inN_nI hj]
    by_cases q : n ≤ j
    · rw [if_pos ((nI_leI hn hj).mpr q), decide_eq_false (by omega)]; rfl
    · rw [if_neg (fun z => q ((nI_leI hn hj).mp z)), decide_eq_true (by omega)]; rfl
theorem c_has5 (p : Int32) {N : Mem} {n : Nat} (hn : n < 2 ^ 31) (h : N.1 2 0 = nI n) : fX5_has p N = some (bI (inN p n)) := by
  unfold fX5_has
  rcases neg_or p with q | ⟨j, hj, rfl⟩
  · rw [if_pos q, inN_neg q]; rfl
  · rw [if_neg (nI_pos hj), h, inN_nI hj]
    by_cases q : n ≤ j
    · rw [if_pos ((nI_leI hn hj).mpr q), decide_eq_false (by omega)]; rfl
    · rw [if_neg (fun z => q ((nI_leI hn hj).mp z)), decide_eq_true (by omega)]; rfl
theorem c_empty {N : Mem} {n : Nat} (hn : n < 2 ^ 31) (h : N.1 4 0 = nI n) : fX3_isEmpty N = some (bI (decide (n = 0))) := by
  unfold fX3_isEmpty
  rw [h]
  by_cases q : n = 0
  · rw [if_pos (by rw [q]; rfl), decide_eq_true q]; rfl
  · rw [if_neg (nI_ne0 (by omega) hn), decide_eq_false q]; rfl
theorem c_full3 {N : Mem} {n : Nat} (hn : n < 2 ^ 31) (h : N.1 4 0 = nI n) : fX3_isFull N = some (bI (decide (12 ≤ n))) := by
  unfold fX3_isFull
  simp only [zl]
  rw [h]
  by_cases q : n < 12
  · rw [if_pos ((nI_ltI hn (by decide)).mpr q), decide_eq_false (by omega)]; rfl
  · rw [if_neg (fun z => q ((nI_ltI hn (by decide)).mp z)), decide_eq_true (by omega)]; rfl
theorem c_full0 {N : Mem} {n : Nat} (hn : n < 2 ^ 31) (h : N.1 2 0 = nI n) : fX0_isFull N = some (bI (decide (8 ≤ n))) := by
  unfold fX0_isFull
  simp only [zl]
  rw [h]
  by_cases q : n < 8
  · rw [if_pos ((nI_ltI hn (by decide)).mpr q), decide_eq_false (by omega)]; rfl
  · rw [if_neg (fun z => q ((nI_ltI hn (by decide)).mp z)), decide_eq_true (by omega)]; rfl
theorem c_out {N : Mem} {n : Nat} (h0 : 0 < n) (h : N.1 4 0 = nI n) : fX3_output N = some (nI (n - 1)) := by
  unfold fX3_output
  rw [h]
  exact congrArg some (n_sub (b := 1) h0)
theorem r_isGate (p : Int32) {σ : Mem} {n : Nat} (hn : n < 2 ^ 31) (h : σ.1 0 0 = nI n) : fX9_isGate p σ = some (bI (inN p n)) := by
  unfold fX9_isGate
  simp only [zl]
  rw [p_ckI (by decide) (by decide), nI_clamp (by decide), h, r_isIn, c_below p hn, p_b1, p_ckZ]
theorem r_out {σ : Mem} {n : Nat} (h0 : 0 < n) (h : σ.1 0 0 = nI n) : fX9_output σ = some (nI (n - 1)) := by
  unfold fX9_output
  simp only [zl]
  rw [p_ckI (by decide) (by decide), nI_clamp (by decide), h, n_sub h0]
/-! what a state keeps -/
theorem m_mrS (σ : Mem) (k : Nat) (f : Nat → Int32) : (mr σ k f).1 k = f := if_pos rfl
theorem m_mrN (σ : Mem) {k j : Nat} (h : j ≠ k) (f : Nat → Int32) : (mr σ k f).1 j = σ.1 j := if_neg h
theorem m_mr2 (σ : Mem) (k : Nat) (f : Nat → Int32) : (mr σ k f).2 = σ.2 := rfl
theorem m_miS (σ : Mem) (k i : Nat) (v : Int32) : (mi σ k i v).1 k = upd (σ.1 k) i v := if_pos rfl
theorem m_miN (σ : Mem) {k j : Nat} (h : j ≠ k) (i : Nat) (v : Int32) : (mi σ k i v).1 j = σ.1 j := if_neg h
theorem m_mi2 (σ : Mem) (k i : Nat) (v : Int32) : (mi σ k i v).2 = σ.2 := rfl
theorem m_mlS (σ : Mem) (k i : Nat) (v : Int64) : (ml σ k i v).2 k = vp_updL (σ.2 k) i v := if_pos rfl
theorem m_mlN (σ : Mem) {k j : Nat} (h : j ≠ k) (i : Nat) (v : Int64) : (ml σ k i v).2 j = σ.2 j := if_neg h
theorem m_ml1 (σ : Mem) (k i : Nat) (v : Int64) : (ml σ k i v).1 = σ.1 := rfl
theorem m_xsS (X : XS) (k : Nat) (σ : Mem) : xs X k σ k = σ := if_pos rfl
theorem m_xsN (X : XS) {k j : Nat} (h : j ≠ k) (σ : Mem) : xs X k σ j = X j := if_neg h
theorem m_uS (f : Nat → Int32) (i : Nat) (v : Int32) : upd f i v i = v := if_pos rfl
theorem m_uN (f : Nat → Int32) {i j : Nat} (h : j ≠ i) (v : Int32) : upd f i v j = f j := if_neg h
theorem m_uLS (f : Nat → Int64) (i : Nat) (v : Int64) : vp_updL f i v i = v := if_pos rfl
theorem m_uLN (f : Nat → Int64) {i j : Nat} (h : j ≠ i) (v : Int64) : vp_updL f i v j = f j := if_neg h
/-! fuel enough for a loop -/
theorem FU_of (n : Nat) (h : n ≤ 1000000) : ∃ k, FU = k + n := ⟨FU - n, by have := FU_ge; omega⟩
/-! bits -/
def nb (f : Nat → Bool) : Nat → Nat
  | 0 => 0
  | k + 1 => nb f k + (if f k = true then 2 ^ k else 0)
theorem nb_lt (f : Nat → Bool) : ∀ n, nb f n < 2 ^ n
  | 0 => (show (0 : Nat) < 1 by decide)
  | k + 1 => by
    have h := nb_lt f k
    show nb f k + _ < 2 ^ (k + 1)
    rw [Nat.pow_succ]
    split <;> omega
theorem nb_bit (f : Nat → Bool) : ∀ n i, (nb f n).testBit i = (decide (i < n) && f i)
  | 0, i => by
    show Nat.testBit 0 i = _
    rw [Nat.zero_testBit, decide_eq_false (Nat.not_lt_zero i), Bool.false_and]
  | k + 1, i => by
    have h := nb_lt f k
    have ih := nb_bit f k i
    show (nb f k + _).testBit i = _
    by_cases q : f k = true
    · rw [if_pos q, Nat.add_comm]
      by_cases e : i = k
      · subst e
        rw [Nat.testBit_two_pow_add_eq, ih, decide_eq_false (by omega), decide_eq_true (by omega), q]; rfl
      · by_cases l : i < k
        · rw [Nat.testBit_two_pow_add_gt l, ih, decide_eq_true l, decide_eq_true (by omega)]
        · rw [decide_eq_false (show ¬ i < k + 1 by omega), Bool.false_and]
          refine Nat.testBit_lt_two_pow (Nat.lt_of_lt_of_le (show 2 ^ k + nb f k < 2 ^ (k + 1) by rw [Nat.pow_succ]; omega) (Nat.pow_le_pow_right (by decide) (by omega)))
    · rw [if_neg q, Nat.add_zero, ih]
      by_cases e : i = k
      · subst e
        rw [ts_nt q, Bool.and_false, Bool.and_false]
      · rw [show decide (i < k + 1) = decide (i < k) from decide_eq_decide.mpr (by omega)]
theorem nb_cong {f g : Nat → Bool} {n : Nat} (h : ∀ i, i < n → f i = g i) : nb f n = nb g n := by
  induction n with
  | zero => rfl
  | succ k ih =>
    show nb f k + _ = nb g k + _
    rw [ih (fun i hi => h i (by omega)), h k (by omega)]
theorem nb_ext {x n : Nat} {f : Nat → Bool} (hx : x < 2 ^ n) (h : ∀ i, i < n → x.testBit i = f i) : x = nb f n := by
  refine Nat.eq_of_testBit_eq (fun i => ?_)
  rw [nb_bit]
  by_cases q : i < n
  · rw [h i q, decide_eq_true q, Bool.true_and]
  · rw [decide_eq_false q, Bool.false_and]
    exact Nat.testBit_lt_two_pow (Nat.lt_of_lt_of_le hx (Nat.pow_le_pow_right (by decide) (by omega)))
theorem nb_of {x n : Nat} (hx : x < 2 ^ n) : x = nb (fun i => x.testBit i) n := nb_ext hx (fun _ _ => rfl)
/-! 64 bits of a long -/
def L64 (f : Nat → Bool) : Int64 := lN (nb f 64)
theorem L64_cong {f g : Nat → Bool} (h : ∀ i, i < 64 → f i = g i) : L64 f = L64 g := congrArg lN (nb_cong h)
theorem L64_of (x : Nat) : lN x = L64 (fun i => x.testBit i) := by
  rw [wb_mod]
  unfold L64
  congr 1
  refine nb_ext (Nat.mod_lt _ (by decide)) (fun i hi => ?_)
  rw [Nat.testBit_mod_two_pow, decide_eq_true hi, Bool.true_and]
theorem L64_and (f g : Nat → Bool) : L64 f &&& L64 g = L64 (fun i => f i && g i) := by
  unfold L64
  rw [fb_andL]
  congr 1
  refine nb_ext (Nat.and_lt_two_pow _ (nb_lt g 64)) (fun i hi => ?_)
  rw [Nat.testBit_and, nb_bit, nb_bit, decide_eq_true hi, Bool.true_and, Bool.true_and]
theorem L64_or (f g : Nat → Bool) : L64 f ||| L64 g = L64 (fun i => f i || g i) := by
  unfold L64
  rw [fb_orL]
  congr 1
  refine nb_ext (Nat.or_lt_two_pow (nb_lt f 64) (nb_lt g 64)) (fun i hi => ?_)
  rw [Nat.testBit_or, nb_bit, nb_bit, decide_eq_true hi, Bool.true_and, Bool.true_and]
theorem L64_xor (f g : Nat → Bool) : L64 f ^^^ L64 g = L64 (fun i => f i ^^ g i) := by
  unfold L64
  rw [fb_xorL]
  congr 1
  refine nb_ext (Nat.xor_lt_two_pow (nb_lt f 64) (nb_lt g 64)) (fun i hi => ?_)
  rw [Nat.testBit_xor, nb_bit, nb_bit, decide_eq_true hi, Bool.true_and, Bool.true_and]
theorem L64_m1 : -lN 1 = L64 (fun _ => true) := by decide +kernel
theorem L64_0 : lN 0 = L64 (fun _ => false) := by decide +kernel
theorem L64_not (f : Nat → Bool) : L64 f ^^^ -lN 1 = L64 (fun i => !(f i)) := by
  rw [L64_m1, L64_xor]
  exact L64_cong (fun i _ => Bool.xor_true _)
theorem L64_shl (f : Nat → Bool) {k : Nat} (hk : k < 64) : jlshl (L64 f) (nI k) = L64 (fun i => decide (k ≤ i) && f (i - k)) := by
  unfold jlshl L64
  rw [show (63 : Int64) = (63 : Int64) from rfl, wb_shl _ hk, wb_mod]
  congr 1
  refine nb_ext (Nat.mod_lt _ (by decide)) (fun i hi => ?_)
  rw [Nat.testBit_mod_two_pow, decide_eq_true hi, Bool.true_and, Nat.mul_comm, Nat.testBit_two_pow_mul, nb_bit]
  by_cases q : k ≤ i
  · rw [decide_eq_true (show i - k < 64 by omega), Bool.true_and]
  · rw [decide_eq_false q, Bool.false_and, Bool.false_and]
theorem L64_shr (f : Nat → Bool) {k : Nat} (hk : k < 64) : jlushr (L64 f) (nI k) = L64 (fun i => decide (i + k < 64) && f (i + k)) := by
  unfold jlushr L64
  rw [wb_shr (nb_lt f 64) hk]
  congr 1
  refine nb_ext (Nat.lt_of_le_of_lt (Nat.div_le_self _ _) (nb_lt f 64)) (fun i hi => ?_)
  rw [Nat.testBit_div_two_pow, nb_bit]
theorem L64_bit (f : Nat → Bool) {k : Nat} (hk : k < 64) : (jlushr (L64 f) (nI k) &&& lN 1).toInt32 = bI (f k) := by
  rw [L64_shr f hk]
  unfold L64
  rw [show lN 1 = lN (2 ^ 1 - 1) from rfl, fb_andL, lN_i, Nat.and_two_pow_sub_one_eq_mod]
  have h : nb (fun i => decide (i + k < 64) && f (i + k)) 64 % 2 ^ 1 = nb (fun _ => f k) 1 := by
    refine nb_ext (Nat.mod_lt _ (by decide)) (fun i hi => ?_)
    have : i = 0 := by omega
    subst this
    rw [Nat.testBit_mod_two_pow, nb_bit, Nat.zero_add, decide_eq_true hk]
    rfl
  rw [h, bI_n]
  show nI (0 + _) = _
  rw [Nat.zero_add]
theorem L64_n (f : Nat → Bool) (n : Nat) (hn : n ≤ 64) : lN (nb f n) = L64 (fun i => decide (i < n) && f i) := by
  rw [L64_of]
  exact L64_cong (fun i _ => nb_bit f n i)
theorem L64_bI (b : Bool) : (bI b).toInt64 = L64 (fun i => decide (i = 0) && b) := by
  cases b
  · exact show (nI 0).toInt64 = L64 (fun i => decide (i = 0) && false) by decide +kernel
  · exact show (nI 1).toInt64 = L64 (fun i => decide (i = 0) && true) by decide +kernel
theorem L64_low {d : Nat} (hd : d < 64) : jlshl (lN 1) (nI d) - lN 1 = L64 (fun i => decide (i < d)) := by
  unfold jlshl
  rw [wb_shl _ hd, Nat.one_mul, lN_sub (Nat.one_le_two_pow), L64_of]
  exact L64_cong (fun i _ => Nat.testBit_two_pow_sub_one _ _)
theorem L64_ofBit (f : Nat → Bool) (i : Nat) (hi : i < 64) : (L64 f).toBitVec.getLsbD i = f i := by
  show (BitVec.ofNat 64 (nb f 64)).getLsbD i = f i
  rw [BitVec.getLsbD_ofNat, nb_bit, decide_eq_true hi, Bool.true_and, Bool.true_and]
theorem L64_inj {f g : Nat → Bool} (h : L64 f = L64 g) {i : Nat} (hi : i < 64) : f i = g i := by
  rw [← L64_ofBit f i hi, h, L64_ofBit g i hi]
/-! ints below 2^31 -/
theorem n_shr {a j : Nat} (ha : a < 2 ^ 31) (hj : j < 32) : nI a >>> (nI j &&& nI 31) = nI (a >>> j) := by
  apply Int32.toBitVec_inj.mp
  refine BitVec.eq_of_getLsbD_eq (fun i hi => ?_)
  have h := b_sshr j hj (nI a) hi
  unfold bt at h
  rw [show (nI 31 : Int32) = 31 from rfl, h]
  have e : ∀ q, (nI a).toBitVec.getLsbD q = (decide (q < 32) && a.testBit q) := fun q => by
    show (BitVec.ofNat 32 a).getLsbD q = _
    rw [BitVec.getLsbD_ofNat]
  have e2 : (nI (a >>> j)).toBitVec.getLsbD i = (decide (i < 32) && (a >>> j).testBit i) := by
    show (BitVec.ofNat 32 _).getLsbD i = _
    rw [BitVec.getLsbD_ofNat]
  rw [e, e, e2, Nat.testBit_shiftRight, decide_eq_true hi, Bool.true_and]
  by_cases q : j + i < 32
  · rw [if_pos q, decide_eq_true q, Bool.true_and]
  · rw [if_neg q, Nat.testBit_lt_two_pow ha, Bool.and_false, Nat.testBit_lt_two_pow (Nat.lt_of_lt_of_le ha (Nat.pow_le_pow_right (by decide) (by omega)))]
theorem n_and1 (a : Nat) : nI a &&& nI 1 = bI (a.testBit 0) := by
  rw [fa_and, Nat.and_one_is_mod, bI_n, Nat.testBit_zero]
  congr 1
  by_cases h : a % 2 = 1
  · rw [h, if_pos (by decide)]
  · rw [if_neg (by simpa using h)]; omega
theorem n_bit {a j : Nat} (ha : a < 2 ^ 31) (hj : j < 32) : (nI a >>> (nI j &&& nI 31)) &&& nI 1 = bI (a.testBit j) := by
  rw [n_shr ha hj, n_and1, Nat.testBit_shiftRight, Nat.add_zero]
theorem n_shl1 : ∀ j, j < 32 → nI 1 <<< (nI j &&& nI 31) = nI (2 ^ j) := by decide +kernel
def sub (a b : Nat) : Bool := decide (a &&& b = a)
theorem n_sub0 {a b : Nat} (ha : a < 2 ^ 31) (hb : b < 2 ^ 31) : (nI a &&& (nI b ^^^ -nI 1) = nI 0) = (sub a b = true) := by
  rw [n_neg1, fb_xorI, fa_and, nI_eqP (Nat.lt_of_le_of_lt Nat.and_le_left ha) (by decide)]
  have e : a &&& (b ^^^ 4294967295) = 0 ↔ a &&& b = a := by
    constructor
    · intro h
      refine Nat.eq_of_testBit_eq (fun i => ?_)
      have h2 : (a &&& (b ^^^ 4294967295)).testBit i = false := by rw [h, Nat.zero_testBit]
      rw [Nat.testBit_and, Nat.testBit_xor, show (4294967295 : Nat) = 2 ^ 32 - 1 from rfl, Nat.testBit_two_pow_sub_one] at h2
      rw [Nat.testBit_and]
      by_cases q : i < 32
      · rw [decide_eq_true q, Bool.xor_true] at h2
        cases h3 : a.testBit i <;> cases h4 : b.testBit i <;> simp_all
      · rw [Nat.testBit_lt_two_pow (Nat.lt_of_lt_of_le ha (Nat.pow_le_pow_right (by decide) (by omega)))]
        rfl
    · intro h
      refine Nat.eq_of_testBit_eq (fun i => ?_)
      have h2 : (a &&& b).testBit i = a.testBit i := by rw [h]
      rw [Nat.testBit_and] at h2
      rw [Nat.zero_testBit, Nat.testBit_and, Nat.testBit_xor, show (4294967295 : Nat) = 2 ^ 32 - 1 from rfl, Nat.testBit_two_pow_sub_one]
      by_cases q : i < 32
      · rw [decide_eq_true q, Bool.xor_true]
        cases h3 : a.testBit i <;> cases h4 : b.testBit i <;> simp_all
      · rw [Nat.testBit_lt_two_pow (Nat.lt_of_lt_of_le ha (Nat.pow_le_pow_right (by decide) (by omega)))]
        rfl
  unfold sub
  rw [propext e]
  exact propext ⟨fun h => decide_eq_true h, fun h => of_decide_eq_true h⟩
