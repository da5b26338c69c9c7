/-! PURE, 1: the JDK's count of bits -/
def rep (c : Nat) : Nat → Nat
  | 0 => 0
  | k + 1 => c + 256 * rep c k
theorem and_256 {x c y d : Nat} (hx : x < 256) (hc : c < 256) : (x + 256 * y) &&& (c + 256 * d) = (x &&& c) + 256 * (y &&& d) := by
  have hxc : x &&& c < 2 ^ 8 := Nat.and_lt_two_pow _ (show c < 2 ^ 8 from hc)
  refine Nat.eq_of_testBit_eq (fun i => ?_)
  rw [Nat.testBit_and, Nat.add_comm x, Nat.add_comm c, Nat.add_comm (x &&& c), show (256 : Nat) = 2 ^ 8 from rfl, Nat.testBit_two_pow_mul_add _ (show x < 2 ^ 8 from hx), Nat.testBit_two_pow_mul_add _ (show c < 2 ^ 8 from hc), Nat.testBit_two_pow_mul_add _ hxc]
  by_cases q : i < 8
  · rw [if_pos q, if_pos q, if_pos q, Nat.testBit_and]
  · rw [if_neg q, if_neg q, if_neg q, Nat.testBit_and]
def pA (k m : Nat) : Nat := m - ((m / 2) &&& rep 85 k)
def pB (k m : Nat) : Nat := (m &&& rep 51 k) + ((m / 4) &&& rep 51 k)
def pC (k m : Nat) : Nat := (m + m / 16) &&& rep 15 k
theorem pA_b : ∀ b, b < 256 → ∀ e, e < 2 → ((b / 2 + 128 * e) &&& 85) = ((b / 2) &&& 85) ∧ ((b / 2) &&& 85) ≤ b := by decide +kernel
theorem pB_b : ∀ b, b < 256 → ∀ e, e < 4 → ((b / 4 + 64 * e) &&& 51) = ((b / 4) &&& 51) ∧ (b &&& 51) + ((b / 4) &&& 51) ≤ 102 ∧ ((b &&& 51) + ((b / 4) &&& 51)) % 16 ≤ 6 := by decide +kernel
theorem pC_b : ∀ d, d < 103 → ∀ e, e < 7 → ((d + d / 16 + 16 * e) &&& 15) = ((d + d / 16) &&& 15) ∧ ((d + d / 16) &&& 15) ≤ 15 := by decide +kernel
theorem pA_step {b r k : Nat} (hb : b < 256) : pA (k + 1) (b + 256 * r) = pA 1 b + 256 * pA k r := by
  unfold pA
  have h2 : (b + 256 * r) / 2 = (b / 2 + 128 * (r % 2)) + 256 * (r / 2) := by omega
  obtain ⟨h3, h4⟩ := pA_b b hb (r % 2) (by omega)
  have e1 : rep 85 (k + 1) = 85 + 256 * rep 85 k := rfl
  have e2 : rep 85 1 = 85 := rfl
  rw [h2, e1, e2, and_256 (by omega) (by decide), h3]
  have h5 : (r / 2) &&& rep 85 k ≤ r / 2 := Nat.and_le_left
  omega
theorem pB_step {b r k : Nat} (hb : b < 256) : pB (k + 1) (b + 256 * r) = pB 1 b + 256 * pB k r := by
  unfold pB
  have h2 : (b + 256 * r) / 4 = (b / 4 + 64 * (r % 4)) + 256 * (r / 4) := by omega
  obtain ⟨h3, -, -⟩ := pB_b b hb (r % 4) (by omega)
  have e1 : rep 51 (k + 1) = 51 + 256 * rep 51 k := rfl
  have e2 : rep 51 1 = 51 := rfl
  rw [h2, e1, e2, and_256 hb (by decide), and_256 (by omega) (by decide), h3]
  omega
theorem pC_step {d s k : Nat} (hd : d < 103) (hs : s % 16 < 7) : pC (k + 1) (d + 256 * s) = pC 1 d + 256 * pC k s := by
  unfold pC
  have h2 : (d + 256 * s) + (d + 256 * s) / 16 = (d + d / 16 + 16 * (s % 16)) + 256 * (s + s / 16) := by omega
  obtain ⟨h3, -⟩ := pC_b d hd (s % 16) hs
  have e1 : rep 15 (k + 1) = 15 + 256 * rep 15 k := rfl
  have e2 : rep 15 1 = 15 := rfl
  rw [h2, e1, e2, and_256 (by omega) (by decide), h3]
def pT (k m : Nat) : Nat := pC k (pB k (pA k m))
theorem pA_lt : ∀ b, b < 256 → pA 1 b < 256 := fun b hb => Nat.lt_of_le_of_lt (Nat.sub_le _ _) hb
theorem pB_lt : ∀ b, b < 256 → pB 1 b < 103 ∧ pB 1 b % 16 < 7 := by decide +kernel
theorem pB_low (k m : Nat) : pB k m % 16 < 7 := by
  cases k with
  | zero =>
    unfold pB
    rw [show rep 51 0 = 0 from rfl, Nat.and_zero, Nat.and_zero]
    decide
  | succ k =>
    have e : m = m % 256 + 256 * (m / 256) := by omega
    rw [e, pB_step (Nat.mod_lt _ (by decide))]
    have := (pB_lt (m % 256) (Nat.mod_lt _ (by decide))).2
    omega
theorem pT_step {b r k : Nat} (hb : b < 256) : pT (k + 1) (b + 256 * r) = pT 1 b + 256 * pT k r := by
  unfold pT
  rw [pA_step hb, pB_step (pA_lt b hb), pC_step (pB_lt _ (pA_lt b hb)).1 (pB_low _ _)]
theorem pT_b : ∀ b, b < 256 → pT 1 b = fb_ct (fun i => b.testBit i) 8 := by decide +kernel
theorem ct_byte {b r : Nat} (hb : b < 256) (k : Nat) : fb_ct (fun i => (b + 256 * r).testBit i) (8 + k) = fb_ct (fun i => b.testBit i) 8 + fb_ct (fun i => r.testBit i) k := by
  have h : ∀ i, (b + 256 * r).testBit i = if i < 8 then b.testBit i else r.testBit (i - 8) := fun i => by
    rw [Nat.add_comm, show (256 : Nat) = 2 ^ 8 from rfl, Nat.testBit_two_pow_mul_add _ (show b < 2 ^ 8 from hb)]
  rw [fb_ct_split]
  congr 1
  · exact fb_ct_cong (fun i hi => by rw [h, if_pos hi])
  · exact fb_ct_cong (fun i hi => by
      show (b + 256 * r).testBit (8 + i) = _
      rw [h, if_neg (by omega), Nat.add_sub_cancel_left])
theorem pT_8 {m : Nat} (hm : m < 2 ^ 64) : ∃ p0 p1 p2 p3 p4 p5 p6 p7 : Nat, pT 8 m = p0 + 256 * (p1 + 256 * (p2 + 256 * (p3 + 256 * (p4 + 256 * (p5 + 256 * (p6 + 256 * p7)))))) ∧ fb_ct (fun i => m.testBit i) 64 = p0 + (p1 + (p2 + (p3 + (p4 + (p5 + (p6 + p7)))))) ∧ p0 ≤ 8 ∧ p1 ≤ 8 ∧ p2 ≤ 8 ∧ p3 ≤ 8 ∧ p4 ≤ 8 ∧ p5 ≤ 8 ∧ p6 ≤ 8 ∧ p7 ≤ 8 := by
  have go : ∀ (k m : Nat), pT (k + 1) m = pT 1 (m % 256) + 256 * pT k (m / 256) ∧ fb_ct (fun i => m.testBit i) (8 + 8 * k) = pT 1 (m % 256) + fb_ct (fun i => (m / 256).testBit i) (8 * k) ∧ pT 1 (m % 256) ≤ 8 := by
    intro k m
    have e : m = m % 256 + 256 * (m / 256) := by omega
    have hb : m % 256 < 256 := Nat.mod_lt _ (by decide)
    refine ⟨?_, ?_, ?_⟩
    · conv => lhs; rw [e]
      rw [pT_step hb]
    · have h := ct_byte (r := m / 256) hb (8 * k)
      rw [← e] at h
      rw [h, pT_b _ hb]
    · rw [pT_b _ hb]; exact fb_ct_le _ _
  obtain ⟨a0, b0, c0⟩ := go 7 m
  obtain ⟨a1, b1, c1⟩ := go 6 (m / 256)
  obtain ⟨a2, b2, c2⟩ := go 5 (m / 256 / 256)
  obtain ⟨a3, b3, c3⟩ := go 4 (m / 256 / 256 / 256)
  obtain ⟨a4, b4, c4⟩ := go 3 (m / 256 / 256 / 256 / 256)
  obtain ⟨a5, b5, c5⟩ := go 2 (m / 256 / 256 / 256 / 256 / 256)
  obtain ⟨a6, b6, c6⟩ := go 1 (m / 256 / 256 / 256 / 256 / 256 / 256)
  obtain ⟨a7, b7, c7⟩ := go 0 (m / 256 / 256 / 256 / 256 / 256 / 256 / 256)
  have z : pT 0 (m / 256 / 256 / 256 / 256 / 256 / 256 / 256 / 256) = 0 := by
    unfold pT pC
    rw [show rep 15 0 = 0 from rfl, Nat.and_zero]
  have z2 : fb_ct (fun i => (m / 256 / 256 / 256 / 256 / 256 / 256 / 256 / 256).testBit i) (8 * 0) = 0 := rfl
  rw [z] at a7
  rw [z2] at b7
  simp only [Nat.reduceAdd, Nat.reduceMul] at a0 a1 a2 a3 a4 a5 a6 a7 b0 b1 b2 b3 b4 b5 b6 b7
  refine ⟨_, _, _, _, _, _, _, _, ?_, ?_, c0, c1, c2, c3, c4, c5, c6, c7⟩
  · rw [a0, a1, a2, a3, a4, a5, a6, a7]
    try rfl
  · rw [b0, b1, b2, b3, b4, b5, b6, b7]
    try rfl
theorem dv {a b m : Nat} (h : a < m) : (a + m * b) / m = b := by
  rw [Nat.add_mul_div_left _ _ (by omega), Nat.div_eq_of_lt h, Nat.zero_add]
theorem pop_lin {p0 p1 p2 p3 p4 p5 p6 r1 r2 r3 r4 r5 r6 r7 u : Nat} (h0 : u = p0 + 256 * r1) (h1 : r1 = p1 + 256 * r2) (h2 : r2 = p2 + 256 * r3) (h3 : r3 = p3 + 256 * r4) (h4 : r4 = p4 + 256 * r5) (h5 : r5 = p5 + 256 * r6) (h6 : r6 = p6 + 256 * r7) :
    u + r1 + (r2 + r3) = ((p0 + p1 + (p2 + p3)) + 256 * (p1 + p2 + (p3 + p4)) + 65536 * (p2 + p3 + (p4 + p5)) + 16777216 * (p3 + p4 + (p5 + p6))) + 4294967296 * (r4 + r5 + (r6 + r7)) := by
  omega
theorem pop_sum {p0 p1 p2 p3 p4 p5 p6 p7 u : Nat} (hu : u = p0 + 256 * (p1 + 256 * (p2 + 256 * (p3 + 256 * (p4 + 256 * (p5 + 256 * (p6 + 256 * p7))))))) (h0 : p0 ≤ 8) (h1 : p1 ≤ 8) (h2 : p2 ≤ 8) (h3 : p3 ≤ 8) (h4 : p4 ≤ 8) (h5 : p5 ≤ 8) (h6 : p6 ≤ 8) (h7 : p7 ≤ 8) :
    ((u + u / 256 + (u + u / 256) / 65536) + (u + u / 256 + (u + u / 256) / 65536) / 4294967296) % 128 = p0 + (p1 + (p2 + (p3 + (p4 + (p5 + (p6 + p7)))))) := by
  obtain ⟨r6, e6⟩ : ∃ r, r = p6 + 256 * p7 := ⟨_, rfl⟩
  obtain ⟨r5, e5⟩ : ∃ r, r = p5 + 256 * r6 := ⟨_, rfl⟩
  obtain ⟨r4, e4⟩ : ∃ r, r = p4 + 256 * r5 := ⟨_, rfl⟩
  obtain ⟨r3, e3⟩ : ∃ r, r = p3 + 256 * r4 := ⟨_, rfl⟩
  obtain ⟨r2, e2⟩ : ∃ r, r = p2 + 256 * r3 := ⟨_, rfl⟩
  obtain ⟨r1, e1⟩ : ∃ r, r = p1 + 256 * r2 := ⟨_, rfl⟩
  rw [← e6, ← e5, ← e4, ← e3, ← e2, ← e1] at hu
  have d1 : u / 256 = r1 := by
    rw [hu]
    exact dv (Nat.lt_of_le_of_lt h0 (by decide))
  rw [d1]
  have l2 : u + r1 = ((p0 + p1) + 256 * (p1 + p2)) + 65536 * (r2 + r3) := by
    clear d1 e3 e4 e5 e6
    omega
  have d2 : (u + r1) / 65536 = r2 + r3 := by
    rw [l2]
    refine dv ?_
    clear l2 d1 hu e1 e2 e3 e4 e5 e6
    omega
  rw [d2]
  have l3 := pop_lin hu e1 e2 e3 e4 e5 e6
  have d3 : (u + r1 + (r2 + r3)) / 4294967296 = r4 + r5 + (r6 + p7) := by
    rw [l3]
    refine dv ?_
    clear l2 d1 d2 l3 hu e1 e2 e3 e4 e5 e6
    omega
  rw [d3]
  have l4 : u + r1 + (r2 + r3) + (r4 + r5 + (r6 + p7)) = (p0 + (p1 + (p2 + (p3 + (p4 + (p5 + (p6 + p7))))))) + 128 * (2 * (r1 + r2 + (r3 + r4) + (r5 + (r6 + p7)))) := by
    clear l2 d1 d2 d3 l3
    omega
  rw [l4, Nat.add_mul_mod_self_left]
  refine Nat.mod_eq_of_lt ?_
  clear l2 d1 d2 d3 l3 l4 hu e1 e2 e3 e4 e5 e6
  omega
theorem bitCountN {m : Nat} (hm : m < 2 ^ 64) : fJ13_bitCount_95d88 (lN m) = some (nI (fb_ct (fun i => m.testBit i) 64)) := by
  unfold fJ13_bitCount_95d88
  unfold jlushr
  rw [show (1 : Int32) = nI 1 from rfl, show (2 : Int32) = nI 2 from rfl, show (4 : Int32) = nI 4 from rfl, show (8 : Int32) = nI 8 from rfl, show (16 : Int32) = nI 16 from rfl, show (32 : Int32) = nI 32 from rfl, show (127 : Int32) = nI (2 ^ 7 - 1) from rfl,
    show (6148914691236517205 : Int64) = lN (rep 85 8) from by decide +kernel, show (3689348814741910323 : Int64) = lN (rep 51 8) from by decide +kernel, show (1085102592571150095 : Int64) = lN (rep 15 8) from by decide +kernel]
  have hm1 : (m / 2 ^ 1) &&& rep 85 8 ≤ m := Nat.le_trans Nat.and_le_left (Nat.div_le_self _ _)
  rw [wb_shr hm (by decide), fb_andL, lN_sub hm1, show m - ((m / 2 ^ 1) &&& rep 85 8) = pA 8 m from rfl, p_lt]
  have hA : pA 8 m < 2 ^ 64 := Nat.lt_of_le_of_lt (Nat.sub_le _ _) hm
  rw [wb_shr hA (by decide), fb_andL, fb_andL, lN_add, show (pA 8 m &&& rep 51 8) + ((pA 8 m / 2 ^ 2) &&& rep 51 8) = pB 8 (pA 8 m) from rfl, p_lt]
  have hB : pB 8 (pA 8 m) ≤ 7378697629483820646 := by
    have h1 : pA 8 m &&& rep 51 8 ≤ 3689348814741910323 := Nat.le_trans Nat.and_le_right (show rep 51 8 ≤ 3689348814741910323 by decide +kernel)
    have h2 : (pA 8 m / 4) &&& rep 51 8 ≤ 3689348814741910323 := Nat.le_trans Nat.and_le_right (show rep 51 8 ≤ 3689348814741910323 by decide +kernel)
    unfold pB
    omega
  have hB2 : pB 8 (pA 8 m) < 2 ^ 64 := by omega
  rw [wb_shr hB2 (by decide), lN_add, fb_andL, show (pB 8 (pA 8 m) + pB 8 (pA 8 m) / 2 ^ 4) &&& rep 15 8 = pT 8 m from rfl, p_lt]
  have hC : pT 8 m ≤ 1085102592571150095 := Nat.le_trans Nat.and_le_right (show rep 15 8 ≤ 1085102592571150095 by decide +kernel)
  have hC1 : pT 8 m < 2 ^ 64 := by omega
  have hC2 : pT 8 m + pT 8 m / 256 < 2 ^ 64 := by omega
  have hC3 : pT 8 m + pT 8 m / 256 + (pT 8 m + pT 8 m / 256) / 65536 < 2 ^ 64 := by omega
  rw [wb_shr hC1 (by decide), lN_add, show (2 : Nat) ^ 8 = 256 from rfl, p_lt]
  rw [wb_shr hC2 (by decide), lN_add, show (2 : Nat) ^ 16 = 65536 from rfl, p_lt]
  rw [wb_shr hC3 (by decide), lN_add, show (2 : Nat) ^ 32 = 4294967296 from rfl, p_lt]
  rw [lN_i, fa_mask, show (2 : Nat) ^ 7 = 128 from rfl]
  obtain ⟨p0, p1, p2, p3, p4, p5, p6, p7, hu, hs, h0, h1, h2, h3, h4, h5, h6, h7⟩ := pT_8 hm
  rw [pop_sum hu h0 h1 h2 h3 h4 h5 h6 h7, hs]
theorem bitCountL (f : Nat → Bool) : fJ13_bitCount_95d88 (L64 f) = some (nI (fb_ct f 64)) := by
  unfold L64
  rw [bitCountN (nb_lt f 64)]
  congr 2
  exact fb_ct_cong (fun i hi => by rw [nb_bit, decide_eq_true hi, Bool.true_and])
/-- the other count, of the reference -/
theorem L64_sbit (f : Nat → Bool) {j : Nat} (hj : j < 64) : (jlshr (L64 f) (nI j) &&& lN 1) = L64 (fun i => decide (i = 0) && f j) := by
  apply wb_inj
  refine BitVec.eq_of_getLsbD_eq (fun i hi => ?_)
  rw [L64_ofBit _ i hi, Int64.toBitVec_and, BitVec.getLsbD_and, wb_tb, BitVec.getLsbD_ofNat, decide_eq_true hi, Bool.true_and, show (1 : Nat) = 2 ^ 0 from rfl, Nat.testBit_two_pow]
  by_cases q : i = 0
  · subst q
    unfold jlshr
    rw [wb_c j hj, Int64.toBitVec_shiftRight, wb_tb, wb_sm j hj, BitVec.getLsbD_sshiftRight', BitVec.toNat_ofNat, Nat.mod_eq_of_lt (by omega), Nat.add_zero, if_pos hj, L64_ofBit f j hj]
    simp
  · rw [decide_eq_false (fun e => q e.symm), decide_eq_false q, Bool.and_false, Bool.false_and]
theorem L64_toI (b : Bool) : (L64 (fun i => decide (i = 0) && b)).toInt32 = bI b := by
  cases b
  · decide +kernel
  · decide +kernel
theorem bits_loop (f : Nat → Bool) : ∀ (d j k : Nat), j + d = 64 → fX9_bits_b4 (k + d + 1) (L64 f) (nI (fb_ct f j)) (nI j) = some (nI (fb_ct f 64)) := by
  intro d
  induction d with
  | zero =>
    intro j k h
    have : j = 64 := by omega
    subst this
    rw [fX9_bits_b4, if_pos (by decide)]
  | succ d ih =>
    intro j k h
    rw [fX9_bits_b4, if_neg (by rw [show (64 : Int32) = nI 64 from rfl, nI_leI (by decide) (by omega)]; omega), p_lt, p_lt, show (1 : Int64) = lN 1 from rfl, L64_sbit f (by omega), L64_toI, nI_1]
    have e3 : nI (fb_ct f j) + bI (f j) = nI (fb_ct f (j + 1)) := by
      rw [bI_n, nI_add]; rfl
    rw [e3]
    exact ih (j + 1) k (by omega)
theorem bitsL (f : Nat → Bool) : fX9_bits (L64 f) = some (nI (fb_ct f 64)) := by
  obtain ⟨k, hk⟩ := FU_of 65 (by decide)
  unfold fX9_bits
  rw [hk]
  exact bits_loop f 64 0 k rfl
