/-! PURE, 7: gate, taken, path, count, delay, drop, image, back -/
section USERS
variable {n : Nat} {K A B W : Nat → Nat}
def usr (A B : Nat → Nat) (g u : Nat) : Bool := decide (A u = 4 + g) || decide (B u = 4 + g)
theorem src_nI {a g : Nat} (ha : a < 16) (hg : g < 12) : (src a = nI g) = (a = 4 + g) := by
  have e : src (4 + g) = nI g := by rw [src_ge (by omega), Nat.add_sub_cancel_left]
  rw [← e]
  exact propext (src_inj a ha (4 + g) (by omega))
theorem i_src {α : Type} {a g : Nat} (ha : a < 16) (hg : g < 12) (x y : α) : (if src a = nI g then x else y) = (if a = 4 + g then x else y) := by simp only [src_nI ha hg]
theorem c_users {N : Mem} (hN : netOK n K A B W) (hr : R_net n K A B W N) {g : Nat} (hg : g < n) : fX3_usersOf (nI g) N = some (nI (fb_ct (usr A B g) n)) := by
  have hn := hN.1
  have go : ∀ (d u k : Nat), u + d = n → fX3_usersOf_b4 N (k + d + 1) (nI g) (nI (fb_ct (usr A B g) u)) (nI u) = some (nI (fb_ct (usr A B g) n)) := by
    intro d
    induction d with
    | zero =>
      intro u k hu
      have : u = n := by omega
      subst this
      rw [fX3_usersOf_b4, hr.1, if_pos ((nI_leI (by omega) (by omega)).mpr (by omega))]
    | succ d ih =>
      intro u k hu
      obtain ⟨r0, r1, r2, r3⟩ := hr.2.1 u (by omega)
      obtain ⟨hk, ha, hb, hw⟩ := hN.2 u (by omega)
      have k1 : ∀ z : Option Int32, ckI (nI u) 12 z = z := fun z => p_ckI (by omega) (by decide)
      have es : fb_ct (usr A B g) (u + 1) = fb_ct (usr A B g) u + if usr A B g u = true then 1 else 0 := rfl
      have h1 := ih (u + 1) k (by omega)
      rw [es] at h1
      rw [fX3_usersOf_b4, hr.1, if_neg (fun q => by rw [nI_leI (by omega) (by omega)] at q; omega), k1, k1, nI_clamp (by omega), r1, r2, i_src (by omega) (by omega), i_src (by omega) (by omega)]
      unfold fX3_usersOf_b32 fX3_usersOf_b35
      simp only [p_lt, zl, nI_add]
      by_cases q : A u = 4 + g
      · rw [if_pos q]
        rw [if_pos (by unfold usr; rw [decide_eq_true q]; rfl)] at h1
        exact h1
      · rw [if_neg q]
        by_cases q2 : B u = 4 + g
        · rw [if_pos q2]
          rw [if_pos (by unfold usr; rw [decide_eq_true q2, Bool.or_true])] at h1
          exact h1
        · rw [if_neg q2]
          rw [if_neg (by unfold usr; rw [decide_eq_false q, decide_eq_false q2]; decide)] at h1
          exact h1
  obtain ⟨k, hk⟩ := FU_of 13 (by decide)
  unfold fX3_usersOf
  rw [hk, show k + 13 = k + 12 - n + n + 1 by omega]
  exact go n 0 (k + 12 - n) (by omega)
theorem r_users {σ : Mem} (hN : netOK n K A B W) (hr : R_ref n K A B W (σ.1 0)) {g : Nat} (hg : g < n) : fX9_sourceOf (nI g) σ = some (nI (fb_ct (usr A B g) n)) := by
  have hn := hN.1
  have k0 : ∀ z : Option Int32, ckI (nI 0) 66 z = z := fun z => p_ckI (by decide) (by decide)
  have c0 : (nI 0).toNatClampNeg = 0 := nI_clamp (by decide)
  have go : ∀ (d u k : Nat), u + d = n → fX9_sourceOf_b4 σ (k + d + 1) (nI g) (nI (fb_ct (usr A B g) u)) (nI u) = some (nI (fb_ct (usr A B g) n)) := by
    intro d
    induction d with
    | zero =>
      intro u k hu
      have : u = n := by omega
      subst this
      rw [fX9_sourceOf_b4]
      simp only [zl, k0, c0, hr.1]
      rw [if_pos ((nI_leI (by omega) (by omega)).mpr (by omega))]
    | succ d ih =>
      intro u k hu
      obtain ⟨hk, ha, hb, hw⟩ := hN.2 u (by omega)
      have es : fb_ct (usr A B g) (u + 1) = fb_ct (usr A B g) u + if usr A B g u = true then 1 else 0 := rfl
      have h1 := ih (u + 1) k (by omega)
      rw [es] at h1
      rw [fX9_sourceOf_b4]
      simp only [zl, k0, c0, hr.1]
      rw [if_neg (fun q => by rw [nI_leI (by omega) (by omega)] at q; omega), r_of1 hN hr (by omega), p_b1, r_of2 hN hr (by omega), p_b1, i_src (by omega) (by omega), i_src (by omega) (by omega)]
      unfold fX9_sourceOf_b35 fX9_sourceOf_b40
      simp only [p_lt, zl, nI_add]
      by_cases q : A u = 4 + g
      · rw [if_pos q]
        rw [if_pos (by unfold usr; rw [decide_eq_true q]; rfl)] at h1
        exact h1
      · rw [if_neg q]
        by_cases q2 : B u = 4 + g
        · rw [if_pos q2]
          rw [if_pos (by unfold usr; rw [decide_eq_true q2, Bool.or_true])] at h1
          exact h1
        · rw [if_neg q2]
          rw [if_neg (by unfold usr; rw [decide_eq_false q, decide_eq_false q2]; decide)] at h1
          exact h1
  obtain ⟨k, hk⟩ := FU_of 13 (by decide)
  unfold fX9_sourceOf
  rw [hk, show k + 13 = k + 12 - n + n + 1 by omega]
  exact go n 0 (k + 12 - n) (by omega)
end USERS
def Sim1 (X : XS) (a : Option (Int32 × XS)) (b : Option Int32) (σ : Mem) : Prop := ∃ r X', a = some (r, X') ∧ b = some r ∧ Rel X' σ
def Sim2 (a b : Option Int32) : Prop := ∃ r, a = some r ∧ b = some r
theorem p_dist (p : Int32) : p = nI 0 ∨ p = nI 1 ∨ p = nI 2 ∨ p = nI 3 ∨ p = nI 4 ∨ p = nI 5 ∨ inN p 6 = false := by
  by_cases h : inN p 6 = true
  · obtain ⟨j, hj, -, rfl⟩ := inN_t h
    have h2 : j = 0 ∨ j = 1 ∨ j = 2 ∨ j = 3 ∨ j = 4 ∨ j = 5 := by omega
    rcases h2 with rfl | rfl | rfl | rfl | rfl | rfl <;> simp
  · simp [ts_nt h]
theorem inN_ne {p : Int32} {m j : Nat} (h : inN p m = false) (hj : j < m) (hm : m < 2 ^ 31) : ¬ p = nI j := by
  intro e
  subst e
  rw [inN_nI (by omega), decide_eq_true hj] at h
  cases h
theorem sim_gate {X : XS} {σ : Mem} (h : Rel X σ) (p0 p1 : Int32) : Sim1 X (fX8_gate p0 p1 X) (fX9_gate p0 p1 σ) σ := by
  obtain ⟨⟨n, K, A, B, W, T, C, V, d, Sd, Pl, F1, F2, hN, hr, hs, -⟩, -⟩ := id h
  have hn := hN.1
  unfold fX8_gate fX9_gate
  simp only [zl]
  rw [c_has3 p0 (by omega) hr.1, r_isGate p0 (by omega) hs.1, p_b1, p_b1, p_if, p_if]
  by_cases q : inN p0 n = true
  · rw [if_pos q, if_pos q, r_isIn, c_within0 p1 (by decide), p_b1, p_if]
    obtain ⟨g, hg, -, rfl⟩ := inN_t q
    obtain ⟨r0, r1, r2, r3⟩ := hr.2.1 g hg
    have k1 : ∀ z : Option (Int32 × XS), ckI (nI g) 12 z = z := fun z => p_ckI (by omega) (by decide)
    have c1 : (nI g).toNatClampNeg = g := nI_clamp (by omega)
    simp only [k1, c1, r0, r1, r2, r3]
    rcases p_dist p1 with rfl | rfl | rfl | rfl | rfl | rfl | z
    · rw [if_pos rfl, inN_nI (by decide), if_pos (by decide), if_neg (by decide), if_neg (by decide), r_of0 hN hs hg, p_b1]
      exact ⟨_, _, rfl, rfl, h⟩
    · rw [if_neg (by decide), if_pos rfl, inN_nI (by decide), if_pos (by decide), if_neg (by decide), if_neg (by decide), r_of1 hN hs hg, p_b1]
      exact ⟨_, _, rfl, rfl, h⟩
    · rw [if_neg (by decide), if_neg (by decide), if_pos rfl, inN_nI (by decide), if_pos (by decide), if_neg (by decide), if_neg (by decide), r_of2 hN hs hg, p_b1]
      exact ⟨_, _, rfl, rfl, h⟩
    · rw [if_neg (by decide), if_neg (by decide), if_neg (by decide), if_pos rfl, inN_nI (by decide), if_pos (by decide), if_neg (by decide), if_neg (by decide), r_of3 hN hs hg, p_b1]
      exact ⟨_, _, rfl, rfl, h⟩
    · rw [if_neg (by decide), if_neg (by decide), if_neg (by decide), if_neg (by decide), if_pos rfl, inN_nI (by decide), if_pos (by decide), if_pos rfl]
      obtain ⟨P, t1, t2, t3⟩ := c_paths hN hr
      have e := r_path hN hs (4 + g) 16 (by omega) (by decide) (by omega)
      rw [src_ge (by omega), Nat.add_sub_cancel_left] at e
      unfold fX3_pathTo
      simp only [zl]
      rw [t1, p_b1, c_has3 (n := n) (nI g) (by omega) (by rw [t3.1 4 (by decide)]; exact hr.1), p_b1, p_if, inN_nI (by omega), decide_eq_true hg, if_pos rfl, nI_add, p_ckI (by omega) (by decide), p_b2, nI_clamp (by omega), m_mrS, t2 _ (by omega), e, p_b1]
      refine ⟨_, _, rfl, rfl, h.scr (fun k h2 h3 h4 h5 h7 => m_xsN _ h3 _) t3 (fun q => q) (fun k hk => rfl)⟩
    · rw [if_neg (by decide), if_neg (by decide), if_neg (by decide), if_neg (by decide), if_neg (by decide), if_pos rfl, inN_nI (by decide), if_pos (by decide), if_neg (by decide), if_pos rfl, c_users hN hr hg, p_b1, r_users hN hs hg, p_b1]
      exact ⟨_, _, rfl, rfl, h⟩
    · rw [if_neg (inN_ne z (by decide) (by decide)), if_neg (inN_ne z (by decide) (by decide)), if_neg (inN_ne z (by decide) (by decide)), if_neg (inN_ne z (by decide) (by decide)), if_neg (inN_ne z (by decide) (by decide)), if_neg (inN_ne z (by decide) (by decide)), if_neg (by rw [z]; decide)]
      exact ⟨_, _, rfl, rfl, h⟩
  · rw [if_neg q, if_neg q]
    exact ⟨_, _, rfl, rfl, h⟩
theorem sim_taken {X : XS} {σ : Mem} (h : Rel X σ) (p0 p1 : Int32) : Sim2 (fX8_taken p0 p1 X) (fX9_taken p0 p1 σ) := by
  obtain ⟨⟨n, K, A, B, W, T, C, V, d, Sd, Pl, F1, F2, hN, hr, hs, -⟩, -⟩ := id h
  have hn := hN.1
  unfold fX8_taken fX9_taken
  simp only [zl]
  rw [c_has3 p0 (by omega) hr.1, r_isGate p0 (by omega) hs.1, p_b1, p_b1, p_if, p_if]
  by_cases q : inN p0 n = true
  · rw [if_pos q, if_pos q, r_isIn, c_within0 p1 (by decide), p_b1, p_b1, p_if, p_if]
    by_cases q2 : inN p1 (5 + 1) = true
    · rw [if_pos q2, if_pos q2]
      obtain ⟨g, hg, -, rfl⟩ := inN_t q
      obtain ⟨r0, r1, r2, r3⟩ := hr.2.1 g hg
      have k1 : ∀ z : Option Int32, ckI (nI g) 12 z = z := fun z => p_ckI (by omega) (by decide)
      rw [k1, k1, nI_clamp (by omega), r0, r3, r_of0 hN hs hg, p_b1]
      unfold fX8_isKindOrUnder fX8_isKindOrUnder_b14 fX9_taken_b41 fX9_taken_b51 fX9_taken_b55 fX9_taken_b56
      simp only [zl]
      rw [r_of3 hN hs hg, p_b1]
      by_cases z1 : nI (K g) = p1
      · rw [if_pos z1, if_pos z1, p_b1, if_neg (by decide)]
        exact ⟨_, rfl, rfl⟩
      · rw [if_neg z1, if_neg z1]
        by_cases z2 : nI (K g) = nI 1
        · rw [if_pos z2, if_pos z2]
          by_cases z3 : p1 = nI 0
          · rw [if_pos z3, if_pos z3, p_b1, if_neg (by decide)]
            exact ⟨_, rfl, rfl⟩
          · rw [if_neg z3, if_neg z3, z2, if_neg (by decide), p_b1, if_pos rfl, if_pos trivial]
            exact ⟨_, rfl, rfl⟩
        · rw [if_neg z2, if_neg z2]
          by_cases z3 : nI (K g) = nI 3
          · rw [if_pos z3, if_pos z3]
            by_cases z4 : p1 = nI 2
            · rw [if_pos z4, if_pos z4, p_b1, if_neg (by decide)]
              exact ⟨_, rfl, rfl⟩
            · rw [if_neg z4, if_neg z4, p_b1, if_pos rfl, if_pos trivial]
              exact ⟨_, rfl, rfl⟩
          · rw [if_neg z3, if_neg z3, p_b1, if_pos rfl, if_pos trivial]
            exact ⟨_, rfl, rfl⟩
    · rw [if_neg q2, if_neg q2]
      exact ⟨_, rfl, rfl⟩
  · rw [if_neg q, if_neg q]
    exact ⟨_, rfl, rfl⟩
section PATH
variable {n : Nat} {K A B W : Nat → Nat}
/-- the row ahead on a row's path, or none -/
def bck (A B W : Nat → Nat) (g : Nat) : Nat := if pt A B W (B g) ≤ pt A B W (A g) then A g else B g
def bckI (A B W : Nat → Nat) (g : Nat) : Int32 := if bck A B W g < 4 then -nI 1 else nI (bck A B W g - 4)
theorem c_back {N : Mem} (hN : netOK n K A B W) (hr : R_net n K A B W N) (hP : ∀ m, m < 4 + n → N.1 6 m = nI (pt A B W m)) {g : Nat} (hg : g < n) : fX3_backOnPath (nI g) N = some (bckI A B W g) := by
  have hn := hN.1
  obtain ⟨r0, r1, r2, r3⟩ := hr.2.1 g hg
  obtain ⟨hk, ha, hb, hw⟩ := hN.2 g hg
  have b1 := pt_108 hN (show A g < 4 + n by omega)
  have b2 := pt_108 hN (show B g < 4 + n by omega)
  have k1 : ∀ z : Option Int32, ckI (nI g) 12 z = z := fun z => p_ckI (by omega) (by decide)
  have k2 : ∀ z : Option Int32, ckI (nI (A g)) 16 z = z := fun z => p_ckI (by omega) (by decide)
  have k3 : ∀ z : Option Int32, ckI (nI (B g)) 16 z = z := fun z => p_ckI (by omega) (by decide)
  have hh : ∀ a, a < 4 + g → fX3_backOnPath_b48 N (src a) = some (if a < 4 then -nI 1 else nI (a - 4)) := by
    intro a ha
    unfold fX3_backOnPath_b48
    simp only [zl]
    rw [c_has3 (n := n) (src a) (by omega) hr.1, p_b1, p_if]
    by_cases q : a < 4
    · rw [inN_neg (src_in a q).1, if_neg (by decide), if_pos q]
    · rw [src_ge (by omega), inN_nI (by omega), decide_eq_true (by omega), if_pos rfl, if_neg q]
  unfold fX3_backOnPath bckI bck
  simp only [zl]
  rw [c_has3 (n := n) (nI g) (by omega) hr.1, p_b1, p_if, inN_nI (by omega), decide_eq_true hg, if_pos rfl]
  simp only [k1, p_lt, nI_clamp (show g < 2 ^ 31 by omega), r1, r2, src_row, k2, k3, nI_clamp (show A g < 2 ^ 31 by omega), nI_clamp (show B g < 2 ^ 31 by omega), hP (A g) (by omega), hP (B g) (by omega)]
  rw [hh _ ha, hh _ hb, i_leP (by omega) (by omega)]
  by_cases q : pt A B W (B g) ≤ pt A B W (A g)
  · rw [if_pos q, if_pos q]
  · rw [if_neg q, if_neg q]
theorem r_back {σ : Mem} (hN : netOK n K A B W) (hr : R_ref n K A B W (σ.1 0)) {g : Nat} (hg : g < n) : fX9_longest (nI g) σ = some (bckI A B W g) := by
  have hn := hN.1
  obtain ⟨hk, ha, hb, hw⟩ := hN.2 g hg
  have b1 := pt_108 hN (show A g < 4 + n by omega)
  have b2 := pt_108 hN (show B g < 4 + n by omega)
  have hh : ∀ a, a < 4 + g → fX9_longest_b32 σ (src a) = some (if a < 4 then -nI 1 else nI (a - 4)) := by
    intro a ha
    unfold fX9_longest_b32
    simp only [zl]
    by_cases q : a < 4
    · rw [if_neg (src_in a q).2.2.1, if_pos q]
    · rw [src_ge (by omega), if_pos (z_pos (by omega)), if_neg q]
  unfold fX9_longest bckI bck
  simp only [zl]
  rw [r_of1 hN hr hg, p_b1, r_of2 hN hr hg, p_b1, r_path hN hr (B g) 16 (by omega) (by decide) (by omega), p_b1, r_path hN hr (A g) 16 (by omega) (by decide) (by omega), p_b1, hh _ ha, hh _ hb, i_leP (by omega) (by omega)]
  by_cases q : pt A B W (B g) ≤ pt A B W (A g)
  · rw [if_pos q, if_pos q]
  · rw [if_neg q, if_neg q]
theorem bck_lt (hN : netOK n K A B W) {g : Nat} (hg : g < n) : bck A B W g < 4 + g := by
  obtain ⟨hk, ha, hb, hw⟩ := hN.2 g hg
  unfold bck
  split <;> omega
/-- both ways back along the path; a step makes the gate's number less, so few steps are gone -/
theorem both_path {X : XS} {σ : Mem} (hN : netOK n K A B W) (hr : R_net n K A B W (X 3)) (hP : ∀ m, m < 4 + n → (X 3).1 6 m = nI (pt A B W m)) (hs : R_ref n K A B W (σ.1 0)) (p : Int32) : ∀ (g i k : Nat), g < n → i + g < 2 ^ 30 →
    ∃ r, fX8_path_b37 (k + g + 3) p (nI g) (nI i) X = some (r, X) ∧ fX9_path_b26 σ (k + g + 3) p (nI g) (nI i) = some r := by
  have hn := hN.1
  intro g
  induction g using Nat.strongRecOn with
  | _ g ih =>
    intro i k hg hi
    rw [show k + g + 3 = (k + g + 2) + 1 from rfl, fX8_path_b37, fX9_path_b26]
    by_cases q : p ≤ nI i
    · rw [if_pos q, if_pos q]
      exact ⟨_, rfl, rfl⟩
    · rw [if_neg q, if_neg q]
      simp only [zl]
      rw [i_m1 (by omega), i_m1 (by omega), c_back hN hr hP hg, r_back hN hs hg, p_b1, p_b1, p_lt, p_lt, nI_add]
      have hb := bck_lt hN hg
      unfold bckI
      by_cases z : bck A B W g < 4
      · rw [if_pos z, show k + g + 2 = (k + g + 1) + 1 from rfl, fX8_path_b37, fX9_path_b26]
        by_cases q2 : p ≤ nI (i + 1)
        · rw [if_pos q2, if_pos q2]
          exact ⟨_, rfl, rfl⟩
        · rw [if_neg q2, if_neg q2]
          simp only [zl]
          rw [if_pos trivial, if_pos trivial]
          exact ⟨_, rfl, rfl⟩
      · rw [if_neg z]
        obtain ⟨r, h1, h2⟩ := ih (bck A B W g - 4) (by omega) (i + 1) (k + (g - (bck A B W g - 4)) - 1) (by omega) (by omega)
        rw [show k + (g - (bck A B W g - 4)) - 1 + (bck A B W g - 4) + 3 = k + g + 2 by omega] at h1 h2
        exact ⟨r, h1, h2⟩
end PATH
theorem sim_path {X : XS} {σ : Mem} (h : Rel X σ) (p0 : Int32) : Sim1 X (fX8_path p0 X) (fX9_path p0 σ) σ := by
  obtain ⟨⟨n, K, A, B, W, T, C, V, d, Sd, Pl, F1, F2, hN, hr, hs, -⟩, -⟩ := id h
  have hn := hN.1
  unfold fX8_path fX9_path
  simp only [zl]
  by_cases q : nI 0 ≤ p0
  · rw [if_pos q, if_pos q, c_empty (by omega) hr.1, p_b1, p_if, p_ckI (by decide) (by decide), nI_clamp (by decide), hs.1, i_eq0 (by omega)]
    by_cases q3 : n = 0
    · rw [if_pos (decide_eq_true q3), if_pos q3]
      exact ⟨_, _, rfl, rfl, h⟩
    · rw [if_neg (by simpa using q3), if_neg q3]
      obtain ⟨P, t1, t2, t3⟩ := c_paths hN hr
      obtain ⟨k, hk⟩ := FU_of 16 (by decide)
      obtain ⟨r, h1, h2⟩ := both_path (X := xs X 3 (mr (X 3) 6 P)) (σ := σ) hN (t3.net hr) t2 hs p0 (n - 1) 0 (k + 14 - n) (by omega) (by omega)
      rw [t1, p_b1, c_out (N := xs X 3 (mr (X 3) 6 P) 3) (by omega) (t3.net hr).1, p_b1, r_out (by omega) hs.1, p_b1, hk]
      rw [show k + 14 - n + (n - 1) + 3 = k + 16 by omega] at h1 h2
      rw [h1, h2]
      exact ⟨_, _, rfl, rfl, h.scr (fun k h2 h3 h4 h5 h7 => m_xsN _ h3 _) t3 (fun q => q) (fun k hk => rfl)⟩
  · rw [if_neg q, if_neg q]
    exact ⟨_, _, rfl, rfl, h⟩
theorem sim_count {X : XS} {σ : Mem} (h : Rel X σ) (p0 : Int32) : Sim2 (fX8_count p0 X) (fX9_count p0 σ) := by
  obtain ⟨⟨n, K, A, B, W, T, C, V, d, Sd, Pl, F1, F2, hN, hr, hs, hc, hC, hrC, hd, hdo, hD, hrD⟩, ⟨t, ht, ht1, ht2, -⟩, -⟩ := id h
  unfold fX8_count fX9_count
  simp only [zl]
  rw [p_ckI (by decide) (by decide), p_ckI (by decide) (by decide), nI_clamp (by decide), nI_clamp (by decide), hr.1, hs.1, hC.1, hrC.1, hD.1, hrD.1, ht1, ht2]
  by_cases z0 : p0 = nI 0
  · rw [if_pos z0]; exact ⟨_, rfl, rfl⟩
  · rw [if_neg z0]
    by_cases z1 : p0 = nI 1
    · rw [if_pos z1]; exact ⟨_, rfl, rfl⟩
    · rw [if_neg z1]
      by_cases z2 : p0 = nI 2
      · rw [if_pos z2]; exact ⟨_, rfl, rfl⟩
      · rw [if_neg z2]
        by_cases z3 : p0 = nI 3
        · rw [if_pos z3]; exact ⟨_, rfl, rfl⟩
        · rw [if_neg z3]; exact ⟨_, rfl, rfl⟩
