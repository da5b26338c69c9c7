/-! PURE, 13: prime terms -/
def anyB (f : Nat → Bool) : Nat → Bool
  | 0 => false
  | k + 1 => anyB f k || f k
theorem anyB_up (f : Nat → Bool) (k : Nat) : ∀ d, anyB f k = true → anyB f (k + d) = true := by
  intro d
  induction d with
  | zero => exact id
  | succ d ih =>
    intro h
    show (anyB f (k + d) || _) = true
    rw [ih h]; rfl
theorem anyB_iff (f : Nat → Bool) : ∀ n, anyB f n = true ↔ ∃ k, k < n ∧ f k = true := by
  intro n
  induction n with
  | zero => exact ⟨fun h => (by cases h), fun ⟨k, h, _⟩ => (by omega)⟩
  | succ n ih =>
    constructor
    · intro h
      have h2 : (anyB f n || f n) = true := h
      by_cases q : f n = true
      · exact ⟨n, by omega, q⟩
      · rw [ts_nt q, Bool.or_false] at h2
        obtain ⟨k, a, b⟩ := ih.mp h2
        exact ⟨k, by omega, b⟩
    · rintro ⟨k, a, b⟩
      show (anyB f n || f n) = true
      by_cases q : k = n
      · subst q; rw [b, Bool.or_true]
      · rw [ih.mpr ⟨k, by omega, b⟩]; rfl
theorem anyB_s {f : Nat → Bool} {k : Nat} (h : anyB f k = false) : anyB f (k + 1) = f k := by
  show (anyB f k || f k) = f k
  rw [h, Bool.false_or]
def rm (c i : Nat) : Nat := if c.testBit i = true then c - 2 ^ i else c
def prm (S c w : Nat) : Bool := sub (hold c w) S && !(anyB (fun i => c.testBit i && sub (hold (rm c i) (w &&& rm c i)) S) 4)
theorem sub_and (w r : Nat) : sub (w &&& r) r = true := by
  unfold sub
  rw [Nat.and_assoc, Nat.and_self]
  exact decide_eq_true rfl
theorem sub_tr {a b c : Nat} (h : sub a b = true) (h2 : sub b c = true) : sub a c = true := by
  have e1 : a &&& b = a := of_decide_eq_true h
  have e2 : b &&& c = b := of_decide_eq_true h2
  refine decide_eq_true ?_
  rw [← e1, Nat.and_assoc, e2]
theorem rm_c : ∀ c, c < 16 → ∀ i, i < 4 → (nI c &&& ((nI 1 <<< (nI i &&& nI 31)) ^^^ -nI 1)) = nI (rm c i) ∧ rm c i < 16 ∧ (rm c i = c ↔ c.testBit i = false) ∧ (c.testBit i = true → rm c i < c ∧ sub (rm c i) c = true) := by decide +kernel
theorem c_only {c w S : Nat} (hc : c < 16) (h : sub w c = true) (hS : S < 65536) : fX4_holdsOnly (nI c) (nI w) (nI S) = some (bI (sub (hold c w) S)) := by
  have hh := hold_lt c w
  unfold fX4_holdsOnly
  simp only [zl]
  rw [c_held hc h, p_b1]
  by_cases q : sub (hold c w) S = true
  · rw [if_pos (by rw [n_sub0 (by omega) (by omega)]; exact q), q]; rfl
  · rw [if_neg (by rw [n_sub0 (by omega) (by omega)]; exact q), ts_nt q]; rfl
theorem c_prime {c w S : Nat} (hc : c < 16) (h : sub w c = true) (hS : S < 65536) : fX4_isPrime (nI c) (nI w) (nI S) = some (bI (prm S c w)) := by
  have go : ∀ (d i k : Nat), i + d = 4 → anyB (fun i => c.testBit i && sub (hold (rm c i) (w &&& rm c i)) S) i = false → fX4_isPrime_b13 (k + d + 1) (nI c) (nI w) (nI S) (nI i) = some (bI (!(anyB (fun i => c.testBit i && sub (hold (rm c i) (w &&& rm c i)) S) 4))) := by
    intro d
    induction d with
    | zero =>
      intro i k hi ha
      have : i = 4 := by omega
      subst this
      rw [fX4_isPrime_b13, if_pos (by decide), ha]
      rfl
    | succ d ih =>
      intro i k hi ha
      obtain ⟨e1, e2, e3, e4⟩ := rm_c c hc i (by omega)
      have es := anyB_s ha
      have hw := sub_lt hc h
      have hlt : w &&& rm c i < 2 ^ 31 := Nat.lt_of_le_of_lt Nat.and_le_left (by omega)
      rw [fX4_isPrime_b13]
      unfold fX4_isPrime_b48
      simp only [zl, p_lt, nI_add]
      rw [if_neg (fun q => by rw [nI_leI (by omega) (by omega)] at q; omega), e1, i_eqP (by omega) (by omega), fa_and, c_only e2 (sub_and w _) hS, p_b1, p_if]
      by_cases q : c.testBit i = true
      · rw [if_neg (fun z => by rw [e3.mp z] at q; cases q)]
        by_cases q2 : sub (hold (rm c i) (w &&& rm c i)) S = true
        · rw [if_pos q2]
          have := anyB_up (fun i => c.testBit i && sub (hold (rm c i) (w &&& rm c i)) S) (i + 1) d (by rw [es, q, q2]; rfl)
          rw [show i + 1 + d = 4 by omega] at this
          rw [this]
          rfl
        · rw [if_neg q2]
          exact ih (i + 1) k (by omega) (by rw [es, q, ts_nt q2]; rfl)
      · rw [if_pos (e3.mpr (ts_nt q))]
        exact ih (i + 1) k (by omega) (by rw [es, ts_nt q]; rfl)
  obtain ⟨k, hk⟩ := FU_of 5 (by decide)
  unfold fX4_isPrime prm
  simp only [zl]
  rw [c_only hc h hS, p_b1, p_if, hk]
  by_cases q : sub (hold c w) S = true
  · rw [if_pos q, q, Bool.true_and]
    exact go 4 0 k rfl rfl
  · rw [if_neg q, ts_nt q, Bool.false_and]
    rfl
theorem r_within {c w S : Nat} (hc : c < 65536) (hw : w < 65536) (hS : S < 65536) : fX9_isWithin (nI c) (nI w) (nI S) = some (bI (sub (hold c w) S)) := by
  have hh := hold_lt c w
  unfold fX9_isWithin
  simp only [zl]
  rw [r_holdsBy hc hw, p_b1]
  by_cases q : sub (hold c w) S = true
  · rw [if_pos (by rw [n_sub0 (by omega) (by omega)]; exact q), q]; rfl
  · rw [if_neg (by rw [n_sub0 (by omega) (by omega)]; exact q), ts_nt q]; rfl
theorem one_care : ∀ c, c < 16 → ∀ w, w < 16 → sub w c = true → ∀ f, f < c → sub f c = true → anyB (fun i => c.testBit i && sub (hold (rm c i) (w &&& rm c i)) (hold f (w &&& f))) 4 = true := by decide +kernel
theorem any_eq {c w S : Nat} (hc : c < 16) (h : sub w c = true) : anyB (fun f => sub f c && sub (hold f (w &&& f)) S) c = anyB (fun i => c.testBit i && sub (hold (rm c i) (w &&& rm c i)) S) 4 := by
  have e : anyB (fun f => sub f c && sub (hold f (w &&& f)) S) c = true ↔ anyB (fun i => c.testBit i && sub (hold (rm c i) (w &&& rm c i)) S) 4 = true := by
    rw [anyB_iff, anyB_iff]
    constructor
    · rintro ⟨f, hf, h2⟩
      obtain ⟨h3, h4⟩ : sub f c = true ∧ sub (hold f (w &&& f)) S = true := by revert h2; cases sub f c <;> simp
      obtain ⟨i, hi, h5⟩ := (anyB_iff _ 4).mp (one_care c hc w (sub_lt hc h) h f hf h3)
      obtain ⟨h6, h7⟩ : c.testBit i = true ∧ sub (hold (rm c i) (w &&& rm c i)) (hold f (w &&& f)) = true := by revert h5; cases c.testBit i <;> simp
      exact ⟨i, hi, by show (c.testBit i && _) = true; rw [h6, sub_tr h7 h4]; rfl⟩
    · rintro ⟨i, hi, h5⟩
      obtain ⟨h6, h7⟩ : c.testBit i = true ∧ sub (hold (rm c i) (w &&& rm c i)) S = true := by revert h5; cases c.testBit i <;> simp
      obtain ⟨h8, h9⟩ := (rm_c c hc i hi).2.2.2 h6
      exact ⟨rm c i, h8, by show (sub (rm c i) c && _) = true; rw [h9, h7]; rfl⟩
  cases h1 : anyB (fun f => sub f c && sub (hold f (w &&& f)) S) c <;> cases h2 : anyB (fun i => c.testBit i && sub (hold (rm c i) (w &&& rm c i)) S) 4 <;> simp_all
theorem r_prime {c w S : Nat} (hc : c < 16) (h : sub w c = true) (hS : S < 65536) : fX9_isPrime (nI c) (nI w) (nI S) = some (bI (prm S c w)) := by
  have hw := sub_lt hc h
  have go : ∀ (d f k : Nat), f + d = c → anyB (fun f => sub f c && sub (hold f (w &&& f)) S) f = false → fX9_isPrime_b13 (k + d + 1) (nI c) (nI w) (nI S) (nI f) = some (bI (!(anyB (fun f => sub f c && sub (hold f (w &&& f)) S) c))) := by
    intro d
    induction d with
    | zero =>
      intro f k hf ha
      have : f = c := by omega
      subst this
      rw [fX9_isPrime_b13, if_pos ((nI_leI (by omega) (by omega)).mpr (Nat.le_refl _)), ha]
      rfl
    | succ d ih =>
      intro f k hf ha
      have es := anyB_s ha
      have hlt : w &&& f < 65536 := Nat.lt_of_le_of_lt Nat.and_le_left (by omega)
      rw [fX9_isPrime_b13]
      unfold fX9_isPrime_b39
      simp only [zl, p_lt, nI_add]
      rw [if_neg (fun q => by rw [nI_leI (by omega) (by omega)] at q; omega), fa_and, r_within (by omega) hlt hS, p_b1, p_if]
      by_cases q : sub f c = true
      · rw [if_pos (by rw [n_sub0 (by omega) (by omega)]; exact q)]
        by_cases q2 : sub (hold f (w &&& f)) S = true
        · rw [if_pos q2]
          have := anyB_up (fun f => sub f c && sub (hold f (w &&& f)) S) (f + 1) d (by rw [es, q, q2]; rfl)
          rw [show f + 1 + d = c by omega] at this
          rw [this]
          rfl
        · rw [if_neg q2]
          exact ih (f + 1) k (by omega) (by rw [es, q, ts_nt q2]; rfl)
      · rw [if_neg (by rw [n_sub0 (by omega) (by omega)]; exact q)]
        exact ih (f + 1) k (by omega) (by rw [es, ts_nt q]; rfl)
  obtain ⟨k, hk⟩ := FU_of 16 (by decide)
  unfold fX9_isPrime prm
  simp only [zl]
  rw [r_within (by omega) (by omega) hS, p_b1, p_if, hk]
  by_cases q : sub (hold c w) S = true
  · rw [if_pos q, q, Bool.true_and, ← any_eq hc h, show k + 16 = k + 15 - c + c + 1 by omega]
    exact go c 0 (k + 15 - c) (by omega) rfl
  · rw [if_neg q, ts_nt q, Bool.false_and]
    rfl
/-- a prime by its code: 16 times CARES and WANTS -/
def upr (S e : Nat) : Bool := sub (e % 16) (e / 16) && prm S (e / 16) (e % 16)
/-! no more than eighteen -/
def hold3 (c w : Nat) : Nat := nb (fun x => decide (x &&& c = w)) 8
def prm3 (S c w : Nat) : Bool := sub (hold3 c w) S && !(anyB (fun i => c.testBit i && sub (hold3 (rm c i) (w &&& rm c i)) S) 3)
def u3 (S c w : Nat) : Bool := sub w c && prm3 S c w
theorem cnt3 : ∀ S, S < 256 → fb_ct (fun e => decide (e % 16 < 8) && u3 S (e / 16) (e % 16)) 128 ≤ 6 := by decide +kernel
theorem cnt3' : ∀ S, S < 256 → fb_ct (fun e => decide (8 ≤ e % 16) && u3 S (e / 16) (e % 16 - 8)) 128 ≤ 6 := by decide +kernel
theorem sub_256 {x y S : Nat} (hx : x < 256) : sub (x + 256 * y) S = (sub x (S % 256) && sub y (S / 256)) := by
  have e : (x + 256 * y) &&& S = (x &&& (S % 256)) + 256 * (y &&& (S / 256)) := by
    conv => lhs; rw [show S = S % 256 + 256 * (S / 256) by omega]
    exact and_256 hx (Nat.mod_lt _ (by decide))
  have h1 : x &&& (S % 256) < 256 := Nat.lt_of_le_of_lt Nat.and_le_left hx
  unfold sub
  rw [e]
  by_cases q : x &&& (S % 256) = x
  · by_cases q2 : y &&& (S / 256) = y
    · rw [decide_eq_true q, decide_eq_true q2]; exact decide_eq_true (by rw [q, q2])
    · rw [decide_eq_false q2, Bool.and_false]; exact decide_eq_false (fun z => q2 (by omega))
  · rw [decide_eq_false q, Bool.false_and]; exact decide_eq_false (fun z => q (by omega))
theorem sub_two {x a b : Nat} : (sub x a && sub x b) = sub x (a &&& b) := by
  unfold sub
  by_cases q : x &&& a = x
  · rw [decide_eq_true q, Bool.true_and, ← Nat.and_assoc, q]
  · rw [decide_eq_false q, Bool.false_and]
    refine (decide_eq_false (fun z => q ?_)).symm
    have : (x &&& (a &&& b)) &&& a = x &&& a := by rw [z]
    rw [Nat.and_assoc, Nat.and_assoc, Nat.and_comm b a, ← Nat.and_assoc a a b, Nat.and_self, z] at this
    exact this.symm
theorem h_low : ∀ c, c < 8 → ∀ w, w < 8 → hold c w = hold3 c w + 256 * hold3 c w ∧ hold (8 + c) w = hold3 c w + 256 * 0 ∧ hold (8 + c) (8 + w) = 0 + 256 * hold3 c w ∧ hold3 c w < 256 := by decide +kernel
theorem rm_low : ∀ c, c < 8 → ∀ i, i < 3 → (8 + c).testBit i = c.testBit i ∧ rm (8 + c) i = 8 + rm c i ∧ rm c i < 8 := by decide +kernel
theorem and_low : ∀ r, r < 8 → ∀ w, w < 8 → w &&& (8 + r) = w &&& r ∧ (8 + w) &&& (8 + r) = 8 + (w &&& r) ∧ w &&& r < 8 ∧ (sub w (8 + r) = sub w r) ∧ sub (8 + w) (8 + r) = sub w r := by decide +kernel
theorem any_less {f g : Nat → Bool} (h : ∀ i, i < 3 → g i = true → f i = true) : anyB g 3 = true → anyB f 4 = true := by
  intro q
  obtain ⟨k, hk, hg⟩ := (anyB_iff g 3).mp q
  exact (anyB_iff f 4).mpr ⟨k, by omega, h k hk hg⟩
theorem and2 {a b : Bool} (h : (a && b) = true) : a = true ∧ b = true := by cases a <;> cases b <;> simp_all
theorem prm_of {S c w S' c' w' : Nat} (h1 : sub (hold c w) S = true → sub (hold3 c' w') S' = true) (h2 : ∀ i, i < 3 → (c'.testBit i && sub (hold3 (rm c' i) (w' &&& rm c' i)) S') = true → (c.testBit i && sub (hold (rm c i) (w &&& rm c i)) S) = true) (h : prm S c w = true) : prm3 S' c' w' = true := by
  obtain ⟨a, b⟩ := and2 h
  unfold prm3
  rw [h1 a, Bool.true_and]
  cases q : anyB (fun i => c'.testBit i && sub (hold3 (rm c' i) (w' &&& rm c' i)) S') 3
  · rfl
  · rw [any_less h2 q] at b
    cases b
theorem upr_18 {S : Nat} (hS : S < 65536) : fb_ct (upr S) 256 ≤ 18 := by
  have hS0 : S % 256 < 256 := Nat.mod_lt _ (by decide)
  have hS1 : S / 256 < 256 := by omega
  have hS2 : S % 256 &&& S / 256 < 256 := Nat.lt_of_le_of_lt Nat.and_le_left hS0
  have p1 : ∀ e, e < 128 → upr S e = true → (decide (e % 16 < 8) && u3 (S % 256 &&& S / 256) (e / 16) (e % 16)) = true := by
    intro e he h
    obtain ⟨a, b⟩ := and2 h
    have hc : e / 16 < 8 := by omega
    have hw := sub_lt hc a
    rw [decide_eq_true hw, Bool.true_and]
    unfold u3
    rw [a, Bool.true_and]
    refine prm_of (fun q => ?_) (fun i hi q => ?_) b
    · obtain ⟨f1, -, -, f2⟩ := h_low _ hc _ hw
      rw [f1, sub_256 f2, sub_two] at q
      exact q
    · obtain ⟨q1, q2⟩ := and2 q
      obtain ⟨-, -, r1⟩ := rm_low _ hc i hi
      obtain ⟨-, -, r2, -⟩ := and_low _ r1 _ hw
      obtain ⟨f1, -, -, f2⟩ := h_low _ r1 _ r2
      rw [q1, f1, sub_256 f2, sub_two, q2]; rfl
  have p2 : ∀ e, e < 128 → upr S (128 + e) = true → ((decide (e % 16 < 8) && u3 (S % 256) (e / 16) (e % 16)) || (decide (8 ≤ e % 16) && u3 (S / 256) (e / 16) (e % 16 - 8))) = true := by
    intro e he h
    obtain ⟨a, b⟩ := and2 h
    rw [show (128 + e) / 16 = 8 + e / 16 by omega, show (128 + e) % 16 = e % 16 by omega] at a b
    have hc : e / 16 < 8 := by omega
    by_cases hw : e % 16 < 8
    · rw [decide_eq_true hw, Bool.true_and]
      have e1 : u3 (S % 256) (e / 16) (e % 16) = true := by
        unfold u3
        rw [(and_low _ hc _ hw).2.2.2.1] at a
        rw [a, Bool.true_and]
        refine prm_of (fun q => ?_) (fun i hi q => ?_) b
        · obtain ⟨-, f1, -, f2⟩ := h_low _ hc _ hw
          rw [f1, sub_256 f2] at q
          exact (and2 q).1
        · obtain ⟨q1, q2⟩ := and2 q
          obtain ⟨r0, r1', r1⟩ := rm_low _ hc i hi
          obtain ⟨r3, -, r2, -⟩ := and_low _ r1 _ hw
          obtain ⟨-, f1, -, f2⟩ := h_low _ r1 _ r2
          rw [r0, q1, r1', r3, f1, sub_256 f2, q2]
          show (true && (true && decide (0 &&& _ = 0))) = true
          rw [Nat.zero_and]; rfl
      rw [e1]; rfl
    · obtain ⟨w, hw8, ew⟩ : ∃ w, w < 8 ∧ e % 16 = 8 + w := ⟨e % 16 - 8, by omega, by omega⟩
      rw [decide_eq_false hw, Bool.false_and, Bool.false_or, decide_eq_true (by omega), Bool.true_and, ew, Nat.add_sub_cancel_left]
      rw [ew] at a b
      unfold u3
      rw [(and_low _ hc _ hw8).2.2.2.2] at a
      rw [a, Bool.true_and]
      refine prm_of (fun q => ?_) (fun i hi q => ?_) b
      · obtain ⟨-, -, f1, f2⟩ := h_low _ hc _ hw8
        rw [f1, sub_256 (by decide)] at q
        exact (and2 q).2
      · obtain ⟨q1, q2⟩ := and2 q
        obtain ⟨r0, r1', r1⟩ := rm_low _ hc i hi
        obtain ⟨-, r3, r2, -⟩ := and_low _ r1 _ hw8
        obtain ⟨-, -, f1, f2⟩ := h_low _ r1 _ r2
        rw [r0, q1, r1', r3, f1, sub_256 (by decide), q2]
        show (true && (decide (0 &&& _ = 0) && true)) = true
        rw [Nat.zero_and]; rfl
  have s1 := fb_ct_split (upr S) 128 128
  have s2 : fb_ct (upr S) 128 ≤ fb_ct (fun e => decide (e % 16 < 8) && u3 (S % 256 &&& S / 256) (e / 16) (e % 16)) 128 := fb_ct_sub p1
  have s3 : fb_ct (fun k => upr S (128 + k)) 128 ≤ fb_ct (fun e => (decide (e % 16 < 8) && u3 (S % 256) (e / 16) (e % 16)) || (decide (8 ≤ e % 16) && u3 (S / 256) (e / 16) (e % 16 - 8))) 128 := fb_ct_sub p2
  have s4 := fb_ct_or (p := fun e => decide (e % 16 < 8) && u3 (S % 256) (e / 16) (e % 16)) (q := fun e => decide (8 ≤ e % 16) && u3 (S / 256) (e / 16) (e % 16 - 8)) (n := 128) (fun k _ z => by
    have z1 := (and2 z.1).1
    have z2 := (and2 z.2).1
    have z3 := of_decide_eq_true z1
    have z4 := of_decide_eq_true z2
    omega)
  have c1 := cnt3 _ hS2
  have c2 := cnt3 _ hS0
  have c3 := cnt3' _ hS1
  rw [s4] at s3
  have s5 : fb_ct (upr S) (128 + 128) ≤ 18 := by
    rw [s1]
    revert s2 s3 c1 c2 c3
    generalize fb_ct (upr S) 128 = a1
    generalize fb_ct (fun k => upr S (128 + k)) 128 = a2
    generalize fb_ct (fun e => decide (e % 16 < 8) && u3 (S % 256 &&& S / 256) (e / 16) (e % 16)) 128 = a3
    generalize fb_ct (fun e => decide (e % 16 < 8) && u3 (S % 256) (e / 16) (e % 16)) 128 = a4
    generalize fb_ct (fun e => decide (8 ≤ e % 16) && u3 (S / 256) (e / 16) (e % 16 - 8)) 128 = a5
    intro a b c d e
    omega
  exact s5
