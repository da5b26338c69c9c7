/-! PURE, 12: open pairs in their order -/
/-- an open pair by its place in the order: by x, then by the INPUT -/
def opq (S : Nat) (C V : Nat → Nat) (T c : Nat) : Bool := opl S C V T (16 * (c % 4) + c / 4)
theorem opl_mono (S : Nat) (C V : Nat → Nat) : ∀ (k i : Nat), opl S C V k i = true → pr S i = true := by
  intro k
  induction k with
  | zero => intro i h; exact h
  | succ k ih =>
    intro i h
    have h2 : (opl S C V k i && !(pr (hold (C k) (V k)) i)) = true := h
    exact ih i (by revert h2; cases opl S C V k i <;> simp)
theorem ct_4 (f : Nat → Bool) : ∀ n, fb_ct (fun c => f (16 * (c % 4) + c / 4)) (4 * n) = fb_ct (fun x => f (16 * 0 + x)) n + fb_ct (fun x => f (16 * 1 + x)) n + fb_ct (fun x => f (16 * 2 + x)) n + fb_ct (fun x => f (16 * 3 + x)) n := by
  intro n
  induction n with
  | zero => rfl
  | succ n ih =>
    have e : 4 * (n + 1) = 4 * n + 1 + 1 + 1 + 1 := by omega
    rw [e, fb_ct_succ, fb_ct_succ, fb_ct_succ, fb_ct_succ, ih, fb_ct_succ, fb_ct_succ, fb_ct_succ, fb_ct_succ]
    rw [show 4 * n % 4 = 0 by omega, show 4 * n / 4 = n by omega, show (4 * n + 1) % 4 = 1 by omega, show (4 * n + 1) / 4 = n by omega, show (4 * n + 1 + 1) % 4 = 2 by omega, show (4 * n + 1 + 1) / 4 = n by omega, show (4 * n + 1 + 1 + 1) % 4 = 3 by omega, show (4 * n + 1 + 1 + 1) / 4 = n by omega]
    generalize (if f (16 * 0 + n) = true then 1 else 0) = a0
    generalize (if f (16 * 1 + n) = true then 1 else 0) = a1
    generalize (if f (16 * 2 + n) = true then 1 else 0) = a2
    generalize (if f (16 * 3 + n) = true then 1 else 0) = a3
    generalize fb_ct (fun x => f (16 * 0 + x)) n = b0
    generalize fb_ct (fun x => f (16 * 1 + x)) n = b1
    generalize fb_ct (fun x => f (16 * 2 + x)) n = b2
    generalize fb_ct (fun x => f (16 * 3 + x)) n = b3
    omega
theorem ct_q (f : Nat → Bool) : fb_ct (fun c => f (16 * (c % 4) + c / 4)) 64 = fb_ct f 64 := by
  have h := ct_4 f 16
  have h1 := fb_ct_split f 16 48
  have h2 := fb_ct_split (fun k => f (16 + k)) 16 32
  have h3 := fb_ct_split (fun k => f (16 + (16 + k))) 16 16
  have e1 : (fun x => f (16 * 0 + x)) = f := funext fun x => by rw [Nat.mul_zero, Nat.zero_add]
  have e2 : (fun k => f (16 + (16 + k))) = (fun x => f (16 * 2 + x)) := funext fun x => by rw [show 16 + (16 + x) = 16 * 2 + x by omega]
  have e3 : (fun k => f (16 + (16 + (16 + k)))) = (fun x => f (16 * 3 + x)) := funext fun x => by rw [show 16 + (16 + (16 + x)) = 16 * 3 + x by omega]
  rw [e1] at h
  rw [e2] at h2
  rw [e2] at h3
  rw [e3] at h3
  refine h.trans (Eq.symm ?_)
  refine h1.trans ?_
  rw [show (fun k => f (16 + k)) = (fun x => f (16 * 1 + x)) from rfl] at h2 ⊢
  rw [show (48 : Nat) = 16 + 32 from rfl, h2, show (32 : Nat) = 16 + 16 from rfl, h3]
  generalize fb_ct f 16 = a
  generalize fb_ct (fun x => f (16 * 1 + x)) 16 = b
  generalize fb_ct (fun x => f (16 * 2 + x)) 16 = c
  generalize fb_ct (fun x => f (16 * 3 + x)) 16 = d
  omega
theorem lk_bit (f : Nat → Bool) {k : Nat} (hk : k < 64) : (lg_cmp (jlushr (L64 f) (nI k) &&& (1 : Int64)) (0 : Int64) = (0 : Int32)) ↔ f k = false := by
  have e : jlushr (L64 f) (nI k) &&& (1 : Int64) = L64 (fun i => decide (i = 0) && f k) := by
    rw [L64_shr f hk, show (1 : Int64) = L64 (fun i => decide (i = 0)) by decide +kernel, L64_and]
    refine L64_cong (fun i hi => ?_)
    by_cases q : i = 0
    · subst q
      rw [Nat.zero_add, decide_eq_true hk, Bool.true_and, Bool.and_comm]
    · rw [decide_eq_false q, Bool.and_false, Bool.false_and]
  rw [e]
  cases f k
  · have : lg_cmp (L64 (fun i => decide (i = 0) && false)) 0 = 0 := by decide +kernel
    exact ⟨fun _ => rfl, fun _ => this⟩
  · have : ¬ lg_cmp (L64 (fun i => decide (i = 0) && true)) 0 = 0 := by decide +kernel
    exact ⟨fun h => absurd h this, fun h => by cases h⟩
theorem c_hasPair (f : Nat → Bool) {x j : Nat} (hx : x < 16) (hj : j < 4) : fX8_hasPair (L64 f) (nI x) (nI j) = some (bI (f (16 * j + x))) := by
  unfold fX8_hasPair
  rw [show (16 : Int32) = nI 16 from rfl, n_mul, nI_add]
  have h := lk_bit f (show 16 * j + x < 64 by omega)
  cases e : f (16 * j + x)
  · rw [if_pos (h.mpr e)]; rfl
  · rw [if_neg (fun z => by rw [h.mp z] at e; cases e)]; rfl
section OPENQ
variable {f : Nat → Bool}
/-- the class's look for the k-th: none fits -/
theorem c_open_no_in (X : XS) (p : Int32) (K24 : Int32 → Int64 → Int32 → Int32 → Option Int32) {x : Nat} (hx : x < 16) : ∀ (d j k : Nat), j + d = 4 → (∀ c, 4 * x + j ≤ c → c < 4 * x + 4 → f (16 * (c % 4) + c / 4) = true → ¬ nI (fb_ct (fun c => f (16 * (c % 4) + c / 4)) c) = p) →
    fX8_open_b34 K24 X (k + d + 1) p (L64 f) (nI (fb_ct (fun c => f (16 * (c % 4) + c / 4)) (4 * x + j))) (nI x) (nI j) = K24 p (L64 f) (nI (fb_ct (fun c => f (16 * (c % 4) + c / 4)) (4 * (x + 1)))) (nI (x + 1)) := by
  intro d
  induction d with
  | zero =>
    intro j k hj h
    have : j = 4 := by omega
    subst this
    rw [fX8_open_b34, if_pos (by decide), p_lt, show (1 : Int32) = nI 1 from rfl, nI_add, show 4 * x + 4 = 4 * (x + 1) by omega]
  | succ d ih =>
    intro j k hj h
    have hc1 : (4 * x + j) % 4 = j := by omega
    have hc2 : (4 * x + j) / 4 = x := by omega
    have es := fb_ct_succ (fun c => f (16 * (c % 4) + c / 4)) (4 * x + j)
    simp only [hc1, hc2] at es
    have h1 := ih (j + 1) k (by omega) (fun c a b => h c (by omega) b)
    rw [show 4 * x + (j + 1) = 4 * x + j + 1 by omega, es] at h1
    rw [fX8_open_b34]
    unfold fX8_open_b72
    simp only [zl, p_lt]
    rw [if_neg (fun q => by rw [nI_leI (by omega) (by omega)] at q; omega), c_hasPair f hx (by omega), p_b1, p_if, nI_add, nI_add]
    by_cases q : f (16 * j + x) = true
    · have hne := h (4 * x + j) (by omega) (by omega) (by rw [hc1, hc2]; exact q)
      rw [if_pos q, if_neg hne]
      rw [if_pos q] at h1
      exact h1
    · rw [if_neg q]
      rw [if_neg q] at h1
      exact h1
theorem c_open_no (X : XS) (p : Int32) : ∀ (d x k : Nat), x + d = 16 → (∀ c, 4 * x ≤ c → c < 64 → f (16 * (c % 4) + c / 4) = true → ¬ nI (fb_ct (fun c => f (16 * (c % 4) + c / 4)) c) = p) →
    fX8_open_b24 X (k + d + 1) p (L64 f) (nI (fb_ct (fun c => f (16 * (c % 4) + c / 4)) (4 * x))) (nI x) = some (-nI 12) := by
  intro d
  induction d with
  | zero =>
    intro x k hx h
    have : x = 16 := by omega
    subst this
    rw [fX8_open_b24, if_pos (by decide)]
    rfl
  | succ d ih =>
    intro x k hx h
    obtain ⟨k2, hk2⟩ := FU_of 5 (by decide)
    have g1 := c_open_no_in (f := f) X p (fX8_open_b24 X (k + d + 1)) (show x < 16 by omega) 4 0 k2 rfl (fun c a b => h c (by omega) (by omega))
    simp only [Nat.add_zero] at g1
    rw [show k + (d + 1) + 1 = (k + d + 1) + 1 by omega, fX8_open_b24]
    simp only [zl]
    rw [if_neg (fun q => by rw [nI_leI (by omega) (by omega)] at q; omega), hk2, show k2 + 5 = k2 + 4 + 1 from rfl, g1]
    exact ih (x + 1) k (by omega) (fun c a b => h c (by omega) b)
/-- .. one fits, at a place -/
theorem c_open_yes_in (X : XS) (p : Int32) (K24 : Int32 → Int64 → Int32 → Int32 → Option Int32) {x c0 : Nat} (hx : x < 16) (hc0 : c0 < 4 * x + 4) (hf0 : f (16 * (c0 % 4) + c0 / 4) = true) (hp : p = nI (fb_ct (fun c => f (16 * (c % 4) + c / 4)) c0)) : ∀ (d j k : Nat), j + d = 4 → 4 * x + j ≤ c0 →
    fX8_open_b34 K24 X (k + d + 1) p (L64 f) (nI (fb_ct (fun c => f (16 * (c % 4) + c / 4)) (4 * x + j))) (nI x) (nI j) = some (nI (16 * (c0 / 4) + c0 % 4)) := by
  intro d
  induction d with
  | zero => intro j k hj h; omega
  | succ d ih =>
    intro j k hj h
    have hc1 : (4 * x + j) % 4 = j := by omega
    have hc2 : (4 * x + j) / 4 = x := by omega
    have es := fb_ct_succ (fun c => f (16 * (c % 4) + c / 4)) (4 * x + j)
    simp only [hc1, hc2] at es
    rw [fX8_open_b34]
    unfold fX8_open_b72
    simp only [zl, p_lt]
    rw [if_neg (fun q => by rw [nI_leI (by omega) (by omega)] at q; omega), c_hasPair f hx (by omega), p_b1, p_if, nI_add, nI_add, n_mul, nI_add]
    by_cases z : 4 * x + j = c0
    · have q : f (16 * j + x) = true := by rw [← z, hc1, hc2] at hf0; exact hf0
      rw [if_pos q, if_pos (by rw [hp, z]), ← z, hc1, hc2]
    · have h1 := ih (j + 1) k (by omega) (by omega)
      rw [show 4 * x + (j + 1) = 4 * x + j + 1 by omega, es] at h1
      by_cases q : f (16 * j + x) = true
      · have hlt : fb_ct (fun c => f (16 * (c % 4) + c / 4)) (4 * x + j) < fb_ct (fun c => f (16 * (c % 4) + c / 4)) c0 := by
          have m1 := fb_ct_mono (fun c => f (16 * (c % 4) + c / 4)) (show 4 * x + j + 1 ≤ c0 by omega)
          rw [es, if_pos q] at m1
          omega
        have hle := fb_ct_le (fun c => f (16 * (c % 4) + c / 4)) c0
        rw [if_pos q, if_neg (fun e => by rw [hp] at e; rw [nI_eq (by omega) (by omega)] at e; omega)]
        rw [if_pos q] at h1
        exact h1
      · rw [if_neg q]
        rw [if_neg q] at h1
        exact h1
theorem c_open_yes (X : XS) (p : Int32) {c0 : Nat} (hc0 : c0 < 64) (hf0 : f (16 * (c0 % 4) + c0 / 4) = true) (hp : p = nI (fb_ct (fun c => f (16 * (c % 4) + c / 4)) c0)) : ∀ (d x k : Nat), x + d = 16 → 4 * x ≤ c0 →
    fX8_open_b24 X (k + d + 1) p (L64 f) (nI (fb_ct (fun c => f (16 * (c % 4) + c / 4)) (4 * x))) (nI x) = some (nI (16 * (c0 / 4) + c0 % 4)) := by
  intro d
  induction d with
  | zero => intro x k hx h; omega
  | succ d ih =>
    intro x k hx h
    obtain ⟨k2, hk2⟩ := FU_of 5 (by decide)
    rw [show k + (d + 1) + 1 = (k + d + 1) + 1 by omega, fX8_open_b24]
    simp only [zl]
    rw [if_neg (fun q => by rw [nI_leI (by omega) (by omega)] at q; omega), hk2, show k2 + 5 = k2 + 4 + 1 from rfl]
    by_cases z : c0 < 4 * x + 4
    · have g1 := c_open_yes_in X p (fX8_open_b24 X (k + d + 1)) (show x < 16 by omega) z hf0 hp 4 0 k2 rfl (by omega)
      simp only [Nat.add_zero] at g1
      exact g1
    · have g1 := c_open_no_in (f := f) X p (fX8_open_b24 X (k + d + 1)) (show x < 16 by omega) 4 0 k2 rfl (fun c a b hf e => by
        have m1 := fb_ct_mono (fun c => f (16 * (c % 4) + c / 4)) (show c + 1 ≤ c0 by omega)
        have es := fb_ct_succ (fun c => f (16 * (c % 4) + c / 4)) c
        simp only [hf, if_true] at es
        have hle := fb_ct_le (fun c => f (16 * (c % 4) + c / 4)) c0
        rw [hp, nI_eq (by omega) (by omega)] at e
        omega)
      simp only [Nat.add_zero] at g1
      rw [g1]
      exact ih (x + 1) k (by omega) (by omega)
end OPENQ
/-! the reference's list of open pairs -/
def pq (x i : Nat) : Nat := 2 ^ x ||| 2 ^ (x ||| 2 ^ i)
theorem r_pairOf : ∀ x, x < 16 → ∀ i, i < 4 → fX9_pairOf (nI (16 * x + i)) = some (nI (pq x i)) := by decide +kernel
theorem pq_lt : ∀ x, x < 16 → ∀ i, i < 4 → pq x i < 65536 ∧ x ||| 2 ^ i < 16 ∧ (x.testBit i = false → x ||| 2 ^ i = x + 2 ^ i) := by decide +kernel
theorem r_has : ∀ x, x < 16 → ∀ i, i < 4 → fX9_has (nI x) (nI i) = some (bI (x.testBit i)) := by decide +kernel
theorem sub_pq (a b S : Nat) : sub (2 ^ a ||| 2 ^ b) S = (S.testBit a && S.testBit b) := by
  unfold sub
  by_cases h : (S.testBit a && S.testBit b) = true
  · rw [h]
    refine decide_eq_true (Nat.eq_of_testBit_eq (fun i => ?_))
    have h1 : S.testBit a = true := by revert h; cases S.testBit a <;> simp
    have h2 : S.testBit b = true := by revert h; cases S.testBit b <;> simp
    rw [Nat.testBit_and, Nat.testBit_or, Nat.testBit_two_pow, Nat.testBit_two_pow]
    by_cases z : a = i
    · subst z; rw [h1, Bool.and_true]
    · by_cases z2 : b = i
      · subst z2; rw [h2, Bool.and_true]
      · rw [decide_eq_false z, decide_eq_false z2]; rfl
  · rw [ts_nt h]
    refine decide_eq_false (fun e => h ?_)
    have g1 : ((2 ^ a ||| 2 ^ b) &&& S).testBit a = (2 ^ a ||| 2 ^ b).testBit a := by rw [e]
    have g2 : ((2 ^ a ||| 2 ^ b) &&& S).testBit b = (2 ^ a ||| 2 ^ b).testBit b := by rw [e]
    rw [Nat.testBit_and, Nat.testBit_or, Nat.testBit_two_pow_self, Bool.true_or, Bool.true_and] at g1
    rw [Nat.testBit_and, Nat.testBit_or, Nat.testBit_two_pow_self, Bool.or_true, Bool.true_and] at g2
    rw [g1, g2]; rfl
def aH (pair : Nat) (C V : Nat → Nat) : Nat → Bool
  | 0 => false
  | k + 1 => aH pair C V k || sub pair (hold (C k) (V k))
theorem aH_up (pair : Nat) (C V : Nat → Nat) (k : Nat) : ∀ d, aH pair C V k = true → aH pair C V (k + d) = true := by
  intro d
  induction d with
  | zero => exact id
  | succ d ih =>
    intro h
    show (aH pair C V (k + d) || _) = true
    rw [ih h]; rfl
theorem opq_eq (S : Nat) (C V : Nat → Nat) {x i : Nat} (hx : x < 16) (hi : i < 4) : ∀ k, opl S C V k (16 * i + x) = (!(x.testBit i) && (sub (pq x i) S && !(aH (pq x i) C V k))) := by
  have hp : ∀ M, pr M (16 * i + x) = (!(x.testBit i) && sub (pq x i) M) := fun M => by
    rw [pr_at hx hi]
    unfold pq
    rw [sub_pq]
    by_cases z : x.testBit i = true
    · rw [z]; simp
    · rw [ts_nt z, (pq_lt x hx i hi).2.2 (ts_nt z)]; simp
  intro k
  induction k with
  | zero =>
    show pr S _ = (_ && (_ && !false))
    rw [hp, Bool.not_false, Bool.and_true]
  | succ k ih =>
    show (opl S C V k _ && !(pr _ _)) = (_ && (_ && !(aH _ _ _ k || _)))
    rw [ih, hp]
    cases x.testBit i <;> cases sub (pq x i) S <;> cases aH (pq x i) C V k <;> cases sub (pq x i) (hold (C k) (V k)) <;> rfl
section OPENR
variable {T : Nat} {C V : Nat → Nat}
theorem r_areHeld {σ : Mem} (hc : covOK T C V) (h : R_rcov T C V (σ.1 0)) {pair : Nat} (hp : pair < 65536) : fX9_areHeld (nI pair) σ = some (bI (aH pair C V T)) := by
  have hT := hc.1
  have k0 : ∀ z : Option Int32, ckI (nI 1) 66 z = z := fun z => p_ckI (by decide) (by decide)
  have c0 : (nI 1).toNatClampNeg = 1 := nI_clamp (by decide)
  have go : ∀ (d x k : Nat), x + d = T → aH pair C V x = false → fX9_areHeld_b2 σ (k + d + 1) (nI pair) (nI x) = some (bI (aH pair C V T)) := by
    intro d
    induction d with
    | zero =>
      intro x k hx ha
      have : x = T := by omega
      subst this
      rw [fX9_areHeld_b2]
      simp only [zl, k0, c0, h.1]
      rw [if_pos ((nI_leI (by omega) (by omega)).mpr (Nat.le_refl _)), ha]
      rfl
    | succ d ih =>
      intro x k hx ha
      rw [fX9_areHeld_b2]
      simp only [zl, k0, c0, h.1]
      rw [if_neg (fun q => by rw [nI_leI (by omega) (by omega)] at q; omega), r_holds hc h (by omega), p_b1]
      have es : aH pair C V (x + 1) = sub pair (hold (C x) (V x)) := by
        show (aH pair C V x || _) = _
        rw [ha, Bool.false_or]
      have hh := hold_lt (C x) (V x)
      by_cases q : sub pair (hold (C x) (V x)) = true
      · rw [if_pos (by rw [n_sub0 (by omega) (by omega)]; exact q)]
        have := aH_up pair C V (x + 1) d (by rw [es]; exact q)
        rw [show x + 1 + d = T by omega] at this
        rw [this]
        rfl
      · rw [if_neg (by rw [n_sub0 (by omega) (by omega)]; exact q), p_lt, nI_add]
        exact ih (x + 1) k (by omega) (by rw [es]; exact ts_nt q)
  obtain ⟨k, hk⟩ := FU_of 9 (by decide)
  unfold fX9_areHeld
  rw [hk, show k + 9 = k + 8 - T + T + 1 by omega]
  exact go T 0 (k + 8 - T) (by omega) rfl
/-- the reference's state with the first pairs listed -/
def R_op (S : Nat) (C V : Nat → Nat) (T c : Nat) (σ : Mem) : Prop := σ.1 17 0 = nI (fb_ct (opq S C V T) c) ∧ ∀ c', c' < c → opq S C V T c' = true → σ.1 16 (fb_ct (opq S C V T) c') = nI (16 * (c' / 4) + c' % 4)
def kept16 (σ σ' : Mem) : Prop := ∀ j, j ≠ 16 → j ≠ 17 → σ'.1 j = σ.1 j
theorem mask_32 : fb_ct (fun c => !((c / 4).testBit (c % 4))) 64 = 32 := by decide +kernel
theorem opq_32 (S : Nat) (C V : Nat → Nat) (T : Nat) {c : Nat} (hc : c < 64) (h : opq S C V T c = true) : fb_ct (opq S C V T) c < 32 := by
  have h1 : fb_ct (opq S C V T) (c + 1) ≤ fb_ct (fun c => !((c / 4).testBit (c % 4))) (c + 1) := fb_ct_sub (fun k hk hq => by
    unfold opq at hq
    rw [opq_eq S C V (show k / 4 < 16 by omega) (show k % 4 < 4 by omega)] at hq
    show (!((k / 4).testBit (k % 4))) = true
    revert hq
    cases (k / 4).testBit (k % 4) <;> simp)
  have h2 := fb_ct_mono (fun c => !((c / 4).testBit (c % 4))) (show c + 1 ≤ 64 by omega)
  have h3 := fb_ct_succ (opq S C V T) c
  rw [if_pos h] at h3
  rw [mask_32] at h2
  omega
theorem opq_le (S : Nat) (C V : Nat → Nat) (T : Nat) {c : Nat} (hc : c ≤ 64) : fb_ct (opq S C V T) c ≤ 32 := by
  have h1 : fb_ct (opq S C V T) c ≤ fb_ct (fun c => !((c / 4).testBit (c % 4))) c := fb_ct_sub (fun k hk hq => by
    unfold opq at hq
    rw [opq_eq S C V (show k / 4 < 16 by omega) (show k % 4 < 4 by omega)] at hq
    show (!((k / 4).testBit (k % 4))) = true
    revert hq
    cases (k / 4).testBit (k % 4) <;> simp)
  have h2 := fb_ct_mono (fun c => !((c / 4).testBit (c % 4))) hc
  rw [mask_32] at h2
  omega
theorem r_opens_in (hc : covOK T C V) {S : Nat} (hS : S < 65536) (K12 : Int32 → Int32 → Mem → Option Mem) {x : Nat} (hx : x < 16) : ∀ (d i k : Nat) (σ : Mem), i + d = 4 → R_rcov T C V (σ.1 0) → R_op S C V T (4 * x + i) σ →
    ∃ σ', fX9_opensAll_b20 K12 (k + d + 1) (nI S) (nI x) (nI i) σ = K12 (nI S) (nI (x + 1)) σ' ∧ kept16 σ σ' ∧ R_op S C V T (4 * (x + 1)) σ' := by
  intro d
  induction d with
  | zero =>
    intro i k σ hi h hO
    have : i = 4 := by omega
    subst this
    rw [fX9_opensAll_b20, if_pos (by decide), p_lt, show (1 : Int32) = nI 1 from rfl, nI_add]
    exact ⟨σ, rfl, fun _ _ _ => rfl, hO⟩
  | succ d ih =>
    intro i k σ hi h hO
    have hi4 : i < 4 := by omega
    obtain ⟨hp1, hp2, -⟩ := pq_lt x hx i hi4
    have hc1 : (4 * x + i) % 4 = i := by omega
    have hc2 : (4 * x + i) / 4 = x := by omega
    have eq0 : opq S C V T (4 * x + i) = (!(x.testBit i) && (sub (pq x i) S && !(aH (pq x i) C V T))) := by
      unfold opq
      rw [hc1, hc2, opq_eq S C V hx hi4]
    have es := fb_ct_succ (opq S C V T) (4 * x + i)
    have skip : opq S C V T (4 * x + i) = false → ∃ σ', fX9_opensAll_b20 K12 (k + d + 1) (nI S) (nI x) (nI (i + 1)) σ = K12 (nI S) (nI (x + 1)) σ' ∧ kept16 σ σ' ∧ R_op S C V T (4 * (x + 1)) σ' := fun q => by
      refine ih (i + 1) k σ (by omega) h ⟨?_, fun c' hc' hq => ?_⟩
      · rw [show 4 * x + (i + 1) = 4 * x + i + 1 by omega, es, q]
        exact hO.1
      · by_cases z : c' = 4 * x + i
        · rw [z, q] at hq; cases hq
        · exact hO.2 c' (by omega) hq
    rw [fX9_opensAll_b20]
    unfold fX9_opensAll_b89
    simp only [zl, p_lt, n_mul, nI_add]
    rw [if_neg (fun q => by rw [nI_leI (by omega) (by omega)] at q; omega), r_has x hx i hi4, p_b1, p_if, r_pairOf x hx i hi4, p_b1, p_b1, r_areHeld hc h hp1, p_b1, p_if]
    by_cases q1 : x.testBit i = true
    · rw [if_pos q1]
      exact skip (by rw [eq0, q1]; rfl)
    · rw [if_neg q1]
      by_cases q2 : sub (pq x i) S = true
      · rw [if_pos (by rw [n_sub0 (by omega) (by omega)]; exact q2)]
        by_cases q3 : aH (pq x i) C V T = true
        · rw [if_pos q3]
          exact skip (by rw [eq0, q3, q2, ts_nt q1]; rfl)
        · have hq : opq S C V T (4 * x + i) = true := by rw [eq0, q2, ts_nt q1, ts_nt q3]; rfl
          have hb := opq_32 S C V T (show 4 * x + i < 64 by omega) hq
          have k1 : ∀ z : Option Mem, ckI (nI (fb_ct (opq S C V T) (4 * x + i))) 32 z = z := fun z => p_ckI (by omega) (by decide)
          rw [if_neg q3, hO.1, k1, nI_clamp (by omega)]
          obtain ⟨σ', g1, g2, g3⟩ := ih (i + 1) k (mi (mi σ 16 (fb_ct (opq S C V T) (4 * x + i)) (nI (16 * x + i))) 17 0 ((mi σ 16 (fb_ct (opq S C V T) (4 * x + i)) (nI (16 * x + i))).1 17 0 + nI 1)) (by omega) h ⟨by
            rw [m_miS, m_uS, m_miN _ (by decide), hO.1, nI_add, show 4 * x + (i + 1) = 4 * x + i + 1 by omega, es, if_pos hq], fun c' hc' hq' => by
            rw [m_miN _ (by decide), m_miS]
            by_cases z : c' = 4 * x + i
            · rw [z, m_uS, hc1, hc2]
            · have hne : fb_ct (opq S C V T) c' ≠ fb_ct (opq S C V T) (4 * x + i) := fun e => z (fb_ct_kth_one hq' hq e)
              rw [m_uN _ hne]
              exact hO.2 c' (by omega) hq'⟩
          refine ⟨σ', g1, fun j h16 h17 => ?_, g3⟩
          rw [g2 j h16 h17, m_miN _ h17, m_miN _ h16]
      · rw [if_neg (by rw [n_sub0 (by omega) (by omega)]; exact q2)]
        exact skip (by rw [eq0, ts_nt q2]; cases x.testBit i <;> rfl)
theorem r_opens_out (hc : covOK T C V) {S : Nat} (hS : S < 65536) : ∀ (d x k : Nat) (σ : Mem), x + d = 16 → R_rcov T C V (σ.1 0) → R_op S C V T (4 * x) σ →
    ∃ σ', fX9_opensAll_b12 (k + d + 1) (nI S) (nI x) σ = some σ' ∧ kept16 σ σ' ∧ R_op S C V T 64 σ' := by
  intro d
  induction d with
  | zero =>
    intro x k σ hx h hO
    have : x = 16 := by omega
    subst this
    rw [fX9_opensAll_b12, if_pos (by decide)]
    exact ⟨σ, rfl, fun _ _ _ => rfl, hO⟩
  | succ d ih =>
    intro x k σ hx h hO
    obtain ⟨k2, hk2⟩ := FU_of 5 (by decide)
    obtain ⟨σ1, g1, g2, g3⟩ := r_opens_in hc hS (fX9_opensAll_b12 (k + d + 1)) (show x < 16 by omega) 4 0 k2 σ rfl h hO
    obtain ⟨σ2, g4, g5, g6⟩ := ih (x + 1) k σ1 (by omega) (by rw [g2 0 (by decide) (by decide)]; exact h) g3
    refine ⟨σ2, ?_, fun j a b => by rw [g5 j a b, g2 j a b], g6⟩
    rw [show k + (d + 1) + 1 = (k + d + 1) + 1 by omega, fX9_opensAll_b12]
    simp only [zl]
    rw [if_neg (fun q => by rw [nI_leI (by omega) (by omega)] at q; omega), hk2, show k2 + 5 = k2 + 4 + 1 from rfl, g1]
    exact g4
theorem r_opens {σ : Mem} (hc : covOK T C V) (h : R_rcov T C V (σ.1 0)) : ∃ σ', fX9_opensAll σ = some σ' ∧ kept16 σ σ' ∧ R_op (stn C V T) C V T 64 σ' := by
  obtain ⟨k, hk⟩ := FU_of 17 (by decide)
  obtain ⟨σ', g1, g2, g3⟩ := r_opens_out hc (stn_lt C V T) 16 0 k (mi σ 17 0 (nI 0)) rfl h ⟨by rw [m_miS, m_uS]; rfl, fun c' hc' => by omega⟩
  refine ⟨σ', ?_, fun j a b => by rw [g2 j a b, m_miN _ b], g3⟩
  unfold fX9_opensAll
  simp only [zl, p_lt]
  rw [r_covered hc h, p_b1, hk]
  exact g1
end OPENR
theorem sim_open {X : XS} {σ : Mem} (h : Rel X σ) (p0 : Int32) : ∃ r σ', fX8_open p0 X = some r ∧ fX9_open p0 σ = some (r, σ') ∧ Rel X σ' := by
  obtain ⟨⟨n, K, A, B, W, T, C, V, d, Sd, Pl, F1, F2, hN, hr, hs, hc, hC, hrC, hd, hdo, hD, hrD⟩, hrest⟩ := id h
  obtain ⟨σ', e1, e2, e3⟩ := r_opens hc hrC
  have hR : Rel X σ' := h.scr (fun _ _ _ _ _ _ => rfl) (samN.rf _) (fun q => q) (fun k hk => e2 k (by omega) (by omega))
  unfold fX8_open fX9_open
  simp only [zl]
  rw [c_openPairs hc hC, p_b1, e1, p_b1, e3.1]
  have hle := opq_le (stn C V T) C V T (Nat.le_refl 64)
  by_cases q : p0 = -nI 1
  · rw [if_pos q, if_pos q, bitCountL, p_b1]
    refine ⟨_, σ', rfl, ?_, hR⟩
    rw [show fb_ct (opq (stn C V T) C V T) 64 = fb_ct (opl (stn C V T) C V T) 64 from ct_q _]
  · rw [if_neg q, if_neg q, r_isIn, c_below p0 (by omega), p_b1, p_if]
    obtain ⟨k, hk⟩ := FU_of 17 (by decide)
    by_cases q2 : inN p0 (fb_ct (opq (stn C V T) C V T) 64) = true
    · obtain ⟨m, hm, -, rfl⟩ := inN_t q2
      obtain ⟨c0, hc0, hq0, hm0⟩ := fb_ct_kth hm
      rw [if_pos q2, p_ckI (by omega) (by decide), nI_clamp (by omega)]
      have g := c_open_yes (f := opl (stn C V T) C V T) X (nI m) hc0 hq0 (by rw [← hm0]; rfl) 16 0 k rfl (by omega)
      rw [hk]
      refine ⟨_, σ', g, ?_, hR⟩
      rw [← hm0, e3.2 c0 hc0 hq0]
    · rw [if_neg q2]
      have g := c_open_no (f := opl (stn C V T) C V T) X p0 16 0 k rfl (fun c _ hc64 hf e => q2 (by
        have hlt : fb_ct (opq (stn C V T) C V T) c < fb_ct (opq (stn C V T) C V T) 64 := by
          have m1 := fb_ct_mono (opq (stn C V T) C V T) (show c + 1 ≤ 64 by omega)
          have es := fb_ct_succ (opq (stn C V T) C V T) c
          rw [if_pos (show opq (stn C V T) C V T c = true from hf)] at es
          omega
        rw [← e]
        rw [inN_nI (Nat.lt_of_le_of_lt (fb_ct_le _ c) (by omega))]
        exact decide_eq_true hlt))
      rw [hk]
      exact ⟨_, σ', g, rfl, hR⟩
