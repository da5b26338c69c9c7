/-! PURE, 5: the class's state beside the reference's -/
def R_rows (N : Mem) : Prop := ∀ m, m < 4 → N.1 5 m = itab (3 - m) ∧ N.1 6 m = nI 0
def R_gat (n : Nat) (K A B W : Nat → Nat) (N : Mem) : Prop := N.1 4 0 = nI n ∧ ∀ g, g < n → N.1 0 g = nI (K g) ∧ N.1 1 g = src (A g) ∧ N.1 2 g = src (B g) ∧ N.1 3 g = nI (W g)
def covOK (T : Nat) (C V : Nat → Nat) : Prop := T ≤ 8 ∧ ∀ i, i < T → C i < 16 ∧ sub (V i) (C i) = true
def R_cov (T : Nat) (C V : Nat → Nat) (N : Mem) : Prop := N.1 2 0 = nI T ∧ ∀ i, i < T → N.1 0 i = nI (C i) ∧ N.1 1 i = nI (V i)
def R_rcov (T : Nat) (C V : Nat → Nat) (s : Nat → Int32) : Prop := s 1 = nI T ∧ ∀ i, i < T → s (50 + 2 * i) = nI (C i) ∧ s (50 + 2 * i + 1) = nI (V i)
def dOK (Sd Pl F1 F2 : Nat → Nat) : Nat → Nat → Nat → Prop
  | 0, _, _ => True
  | d + 1, n, T => (Sd d = 0 ∧ 0 < n ∧ Pl d = n - 1 ∧ F1 d = 0 ∧ F2 d = 0 ∧ dOK Sd Pl F1 F2 d (n - 1) T) ∨ (Sd d = 1 ∧ Pl d < n ∧ 1 ≤ F1 d ∧ F1 d ≤ 9 ∧ F2 d = 0 ∧ dOK Sd Pl F1 F2 d n T) ∨
      (Sd d = 2 ∧ 0 < T ∧ Pl d = T - 1 ∧ F1 d = 0 ∧ F2 d = 0 ∧ dOK Sd Pl F1 F2 d n (T - 1)) ∨ (Sd d = 3 ∧ Pl d ≤ T ∧ T < 8 ∧ F1 d < 16 ∧ sub (F2 d) (F1 d) = true ∧ dOK Sd Pl F1 F2 d n (T + 1))
def R_deeds (d : Nat) (Sd Pl F1 F2 : Nat → Nat) (N : Mem) : Prop := N.1 4 0 = nI d ∧ ∀ i, i < d → N.1 0 i = nI (Sd i) ∧ N.1 1 i = nI (Pl i) ∧ N.1 2 i = nI (F1 i) ∧ N.1 3 i = nI (F2 i)
def R_rdeeds (d : Nat) (Sd Pl F1 F2 : Nat → Nat) (e : Nat → Int32) (c : Int32) : Prop := c = nI d ∧ ∀ i, i < d → e (4 * i) = nI (Sd i) ∧ (Sd i = 1 ∨ Sd i = 3 → e (4 * i + 1) = nI (Pl i)) ∧ e (4 * i + 2) = nI (F1 i) ∧ e (4 * i + 3) = nI (F2 i)
def R_all (n : Nat) (K A B W : Nat → Nat) (T : Nat) (C V : Nat → Nat) (d : Nat) (Sd Pl F1 F2 : Nat → Nat) (x3 x6 x8 : Mem) (s e : Nat → Int32) (c : Int32) : Prop :=
  netOK n K A B W ∧ R_net n K A B W x3 ∧ R_ref n K A B W s ∧ covOK T C V ∧ R_cov T C V x6 ∧ R_rcov T C V s ∧ d ≤ 6 ∧ dOK Sd Pl F1 F2 d n T ∧ R_deeds d Sd Pl F1 F2 x8 ∧ R_rdeeds d Sd Pl F1 F2 e c
def R_main (x3 x6 x8 : Mem) (s e : Nat → Int32) (c : Int32) : Prop := ∃ n K A B W T C V d Sd Pl F1 F2, R_all n K A B W T C V d Sd Pl F1 F2 x3 x6 x8 s e c
def R_tape (N : Mem) (tp : Nat → Int32) (fed : Int32) : Prop := ∃ t, t ≤ 30 ∧ N.1 1 0 = nI t ∧ fed = nI t ∧ ∀ i, i < t → N.1 0 i = tp i ∧ ∃ b, b < 256 ∧ tp i = nI b
def R_img (x0 x9 x10 : Mem) (kp : Nat → Int32) (fl : Int32) : Prop :=
  (x0.1 10 0 = nI 0 ∧ fl = nI 0) ∨ (x0.1 10 0 = nI 1 ∧ fl = nI 1 ∧ ∃ n K A B W T C V, netOK n K A B W ∧ R_gat n K A B W x9 ∧ R_ref n K A B W kp ∧ covOK T C V ∧ R_cov T C V x10 ∧ R_rcov T C V kp)
def byt (a b : Int32) : Prop := b.toInt8.toInt32 = b ∧ a = b &&& nI 255
def R_one (S : Mem) (so sz : Int32) (it : Nat → Int32) (k : Nat) : Prop := ∃ z, z ≤ 40 ∧ S.1 2 0 = nI z ∧ sz = nI z ∧
  ((S.1 1 0 = -nI 1 ∧ so = -nI 1 ∧ z = 0) ∨ (S.1 1 0 = nI 1 ∧ so = nI 1 ∧ ∀ i, i < z → S.1 0 i = it (40 * k + i)) ∨ (S.1 1 0 = nI 0 ∧ so = nI 0 ∧ ∀ i, i < z → byt (S.1 0 i) (it (40 * k + i))))
def R_sh (X : XS) (so sz it : Nat → Int32) : Prop := ∀ k, k < 4 → R_one (X (11 + k)) (so k) (sz k) it k
def wrdL : List Nat := [97, 110, 100, 32, 110, 97, 110, 100, 111, 114, 32, 32, 110, 111, 114, 32, 120, 111, 114, 32, 110, 111, 116, 32]
def R_words (w : Nat → Int32) : Prop := ∀ i, i < 24 → w i = nI (wrdL.getD i 0)
def Rel (X : XS) (σ : Mem) : Prop :=
  R_main (X 3) (X 6) (X 8) (σ.1 0) (σ.1 3) (σ.1 4 0) ∧ R_tape (X 1) (σ.1 5) (σ.1 6 0) ∧ R_img (X 0) (X 9) (X 10) (σ.1 1) (σ.1 2 0) ∧ R_sh X (σ.1 21) (σ.1 22) (σ.1 23) ∧ R_rows (X 4) ∧ R_words (σ.1 10)
theorem samN.rows {N N' : Mem} (h : samN N N') (hr : R_rows N) : R_rows N' := fun m hm => by rw [(h.2 m hm).1, (h.2 m hm).2]; exact hr m hm
theorem R_main.net {x3 x3' x6 x8 : Mem} {s e : Nat → Int32} {c : Int32} (h : R_main x3 x6 x8 s e c) (h3 : samN x3 x3') : R_main x3' x6 x8 s e c := by
  obtain ⟨n, K, A, B, W, T, C, V, d, Sd, Pl, F1, F2, hN, hr, h⟩ := h
  exact ⟨n, K, A, B, W, T, C, V, d, Sd, Pl, F1, F2, hN, h3.net hr, h⟩
/-- what is worked out anew doesn't count -/
theorem Rel.scr {X X' : XS} {σ σ' : Mem} (h : Rel X σ) (hX : ∀ k, k ≠ 2 → k ≠ 3 → k ≠ 4 → k ≠ 5 → k ≠ 7 → X' k = X k) (h3 : samN (X 3) (X' 3)) (h4 : R_rows (X 4) → R_rows (X' 4)) (hσ : ∀ k, k < 7 ∨ k = 10 ∨ 20 < k → σ'.1 k = σ.1 k) : Rel X' σ' := by
  obtain ⟨g1, g2, g3, g4, g5, g6⟩ := h
  unfold Rel
  rw [hσ 0 (by omega), hσ 1 (by omega), hσ 2 (by omega), hσ 3 (by omega), hσ 4 (by omega), hσ 5 (by omega), hσ 6 (by omega), hσ 10 (by omega), hσ 21 (by omega), hσ 22 (by omega), hσ 23 (by omega), hX 0 (by decide) (by decide) (by decide) (by decide) (by decide), hX 1 (by decide) (by decide) (by decide) (by decide) (by decide), hX 6 (by decide) (by decide) (by decide) (by decide) (by decide), hX 8 (by decide) (by decide) (by decide) (by decide) (by decide), hX 9 (by decide) (by decide) (by decide) (by decide) (by decide), hX 10 (by decide) (by decide) (by decide) (by decide) (by decide)]
  refine ⟨g1.net h3, g2, g3, fun k hk => ?_, h4 g5, g6⟩
  rw [hX (11 + k) (by omega) (by omega) (by omega) (by omega) (by omega)]
  exact g4 k hk
def Sim (a : Option (Int32 × XS)) (b : Option (Int32 × Mem)) : Prop := ∃ r X' σ', a = some (r, X') ∧ b = some (r, σ') ∧ Rel X' σ'
theorem Sim.i {r : Int32} {X' : XS} {σ' : Mem} (h : Rel X' σ') : Sim (some (r, X')) (some (r, σ')) := ⟨r, X', σ', rfl, rfl, h⟩
theorem Sim.e {r r2 : Int32} {X' : XS} {σ' : Mem} (e : r = r2) (h : Rel X' σ') : Sim (some (r, X')) (some (r2, σ')) := ⟨r, X', σ', rfl, by rw [e], h⟩
theorem r_isStand : fX9_isStand = fX8_isStand := rfl
theorem r_isChange : fX9_isChange = fX8_isChange := rfl
theorem r_isSheet : fX9_isSheet = fX8_isSheet := rfl
theorem r_isByte : fX9_isByte = fX8_isByte := rfl
theorem c_stand (p : Int32) : fX8_isStand p = some (bI (inN p 16)) := by
  unfold fX8_isStand
  simp only [zl]
  rw [c_within0 p (by decide), p_b1, p_ckZ]
theorem c_sheet (p : Int32) : fX8_isSheet p = some (bI (inN p 4)) := by
  unfold fX8_isSheet
  simp only [zl]
  rw [c_within0 p (by decide), p_b1, p_ckZ]
theorem c_byte (p : Int32) : fX8_isByte p = some (bI (inN p 256)) := by
  unfold fX8_isByte
  simp only [zl]
  rw [c_within0 p (by decide), p_b1, p_ckZ]
theorem c_change (p q : Int32) : fX8_isChange p q = some (bI (inN p 16 && (inN q 16 && !(decide (p = q))))) := by
  unfold fX8_isChange
  simp only [zl]
  rw [c_stand, p_b1, p_if, c_stand, p_b1, p_if]
  cases inN p 16
  · rfl
  · cases inN q 16
    · rfl
    · by_cases h : p = q
      · rw [if_pos rfl, if_pos rfl, if_pos h, decide_eq_true h]; rfl
      · rw [if_pos rfl, if_pos rfl, if_neg h, decide_eq_false h]; rfl
theorem and3 {a b c : Bool} (h : (a && (b && c)) = true) : a = true ∧ b = true ∧ c = true := by
  cases a <;> cases b <;> cases c <;> simp_all
theorem R_ref0 {n : Nat} {K A B W : Nat → Nat} {σ : Mem} (h : R_ref n K A B W (σ.1 0)) : σ.1 0 0 = nI n := h.1
/-- the state behind a wave -/
theorem Rel.wave {X : XS} {σ σ' : Mem} (h : Rel X σ) {w N : Mem} (h3 : samN (X 3) N) (hσ : kept12 σ σ') : Rel (xs (xs X 5 w) 3 N) σ' := by
  refine h.scr (fun k h2 h3 h4 h5 h7 => ?_) h3 (fun q => q) (fun k hk => hσ k (by omega))
  rw [m_xsN _ h3, m_xsN _ h5]
