/-! PURE, 2: what a net of gates tells; rows 0 .. 3 are the inputs d c b a, row 4 + g is gate g -/
def src (a : Nat) : Int32 := nI a - nI 4
theorem src_row (a : Nat) : nI 4 + src a = nI a := by
  unfold src
  rw [Int32.add_comm, Int32.sub_add_cancel]
theorem src_ge {a : Nat} (h : 4 ≤ a) : src a = nI (a - 4) := n_sub h
theorem src_in : ∀ a, a < 4 → src a < 0 ∧ (-nI 1) - src a = nI (3 - a) ∧ ¬ (nI 0 ≤ src a) ∧ inN (src a) 12 = false := by decide +kernel
theorem src_inj : ∀ a, a < 16 → ∀ b, b < 16 → (src a = src b ↔ a = b) := by decide +kernel
def gop (k : Nat) (a b : Bool) : Bool := if k = 0 then a && b else if k = 1 then !(a && b) else if k = 2 then a || b else if k = 3 then !(a || b) else if k = 4 then a ^^ b else !a
def evF (K A B : Nat → Nat) (x : Nat) : Nat → Nat → Bool
  | 0, _ => false
  | f + 1, m => if m < 4 then x.testBit (3 - m) else gop (K (m - 4)) (evF K A B x f (A (m - 4))) (evF K A B x f (B (m - 4)))
/-- what row m tells as inputs stand x -/
def row (K A B : Nat → Nat) (x m : Nat) : Bool := evF K A B x (m + 1) m
def netOK (n : Nat) (K A B W : Nat → Nat) : Prop := n ≤ 12 ∧ ∀ g, g < n → K g < 6 ∧ A g < 4 + g ∧ B g < 4 + g ∧ 1 ≤ W g ∧ W g ≤ 9
theorem evF_fuel {n : Nat} {K A B W : Nat → Nat} (h : netOK n K A B W) (x : Nat) : ∀ (m f : Nat), m < f → m < 4 + n → evF K A B x f m = row K A B x m := by
  intro m
  induction m using Nat.strongRecOn with
  | _ m ih =>
    intro f h1 h2
    cases f with
    | zero => omega
    | succ f =>
      unfold row
      show (if m < 4 then _ else _) = (if m < 4 then _ else _)
      by_cases q : m < 4
      · rw [if_pos q, if_pos q]
      · rw [if_neg q, if_neg q]
        obtain ⟨-, ha, hb, -⟩ := h.2 (m - 4) (by omega)
        rw [ih _ (by omega) f (by omega) (by omega), ih _ (by omega) m (by omega) (by omega), ih (B (m - 4)) (by omega) f (by omega) (by omega), ih (B (m - 4)) (by omega) m (by omega) (by omega)]
theorem row_in (K A B : Nat → Nat) (x : Nat) {m : Nat} (h : m < 4) : row K A B x m = x.testBit (3 - m) := by
  unfold row evF
  rw [if_pos h]
theorem row_gate {n : Nat} {K A B W : Nat → Nat} (h : netOK n K A B W) (x : Nat) {g : Nat} (hg : g < n) : row K A B x (4 + g) = gop (K g) (row K A B x (A g)) (row K A B x (B g)) := by
  obtain ⟨-, ha, hb, -⟩ := h.2 g hg
  show evF K A B x (4 + g + 1) (4 + g) = _
  rw [evF, if_neg (by omega), show 4 + g - 4 = g by omega, evF_fuel h x _ _ ha (by omega), evF_fuel h x _ _ hb (by omega)]
/-! the wave: times from 0 on -/
def wvF (K A B W : Nat → Nat) (x y : Nat) : Nat → Nat → Nat → Bool
  | 0, _, _ => false
  | f + 1, m, t => if m < 4 then y.testBit (3 - m) else gop (K (m - 4)) (if t < W (m - 4) then row K A B x (A (m - 4)) else wvF K A B W x y f (A (m - 4)) (t - W (m - 4))) (if t < W (m - 4) then row K A B x (B (m - 4)) else wvF K A B W x y f (B (m - 4)) (t - W (m - 4)))
def wv (K A B W : Nat → Nat) (x y m t : Nat) : Bool := wvF K A B W x y (m + 1) m t
theorem wvF_fuel {n : Nat} {K A B W : Nat → Nat} (h : netOK n K A B W) (x y : Nat) : ∀ (m f t : Nat), m < f → m < 4 + n → wvF K A B W x y f m t = wv K A B W x y m t := by
  intro m
  induction m using Nat.strongRecOn with
  | _ m ih =>
    intro f t h1 h2
    cases f with
    | zero => omega
    | succ f =>
      unfold wv
      show (if m < 4 then _ else _) = (if m < 4 then _ else _)
      by_cases q : m < 4
      · rw [if_pos q, if_pos q]
      · rw [if_neg q, if_neg q]
        obtain ⟨-, ha, hb, -⟩ := h.2 (m - 4) (by omega)
        rw [ih _ (by omega) f _ (by omega) (by omega), ih _ (by omega) m _ (by omega) (by omega), ih (B (m - 4)) (by omega) f _ (by omega) (by omega), ih (B (m - 4)) (by omega) m _ (by omega) (by omega)]
theorem wv_in (K A B W : Nat → Nat) (x y : Nat) {m : Nat} (t : Nat) (h : m < 4) : wv K A B W x y m t = y.testBit (3 - m) := by
  unfold wv wvF
  rw [if_pos h]
/-- what a row tells late: ahead of time 0 as inputs stood -/
def late (K A B W : Nat → Nat) (x y m d t : Nat) : Bool := if t < d then row K A B x m else wv K A B W x y m (t - d)
theorem wv_gate {n : Nat} {K A B W : Nat → Nat} (h : netOK n K A B W) (x y : Nat) {g : Nat} (t : Nat) (hg : g < n) : wv K A B W x y (4 + g) t = gop (K g) (late K A B W x y (A g) (W g) t) (late K A B W x y (B g) (W g) t) := by
  obtain ⟨-, ha, hb, -⟩ := h.2 g hg
  show wvF K A B W x y (4 + g + 1) (4 + g) t = _
  rw [wvF, if_neg (by omega), show 4 + g - 4 = g by omega, wvF_fuel h x y _ _ _ ha (by omega), wvF_fuel h x y _ _ _ hb (by omega)]
  rfl
/-- behind nine times a row's number nothing changes -/
theorem wv_still {n : Nat} {K A B W : Nat → Nat} (h : netOK n K A B W) (x y : Nat) : ∀ (m t : Nat), m < 4 + n → 9 * (m - 3) ≤ t → wv K A B W x y m t = row K A B y m := by
  intro m
  induction m using Nat.strongRecOn with
  | _ m ih =>
    intro t h2 ht
    by_cases q : m < 4
    · rw [wv_in _ _ _ _ _ _ _ q, row_in _ _ _ _ q]
    · obtain ⟨-, ha, hb, hw1, hw2⟩ := h.2 (m - 4) (by omega)
      have e : m = 4 + (m - 4) := by omega
      rw [e, wv_gate h x y t (by omega), row_gate h y (by omega)]
      unfold late
      rw [if_neg (by omega), if_neg (by omega), ih _ (by omega) _ (by omega) (by omega), ih _ (by omega) _ (by omega) (by omega)]
/-! paths -/
def ptF (A B W : Nat → Nat) : Nat → Nat → Nat
  | 0, _ => 0
  | f + 1, m => if m < 4 then 0 else W (m - 4) + (if ptF A B W f (A (m - 4)) < ptF A B W f (B (m - 4)) then ptF A B W f (B (m - 4)) else ptF A B W f (A (m - 4)))
def pt (A B W : Nat → Nat) (m : Nat) : Nat := ptF A B W (m + 1) m
theorem ptF_fuel {n : Nat} {K A B W : Nat → Nat} (h : netOK n K A B W) : ∀ (m f : Nat), m < f → m < 4 + n → ptF A B W f m = pt A B W m := by
  intro m
  induction m using Nat.strongRecOn with
  | _ m ih =>
    intro f h1 h2
    cases f with
    | zero => omega
    | succ f =>
      unfold pt
      show (if m < 4 then _ else _) = (if m < 4 then _ else _)
      by_cases q : m < 4
      · rw [if_pos q, if_pos q]
      · rw [if_neg q, if_neg q]
        obtain ⟨-, ha, hb, -⟩ := h.2 (m - 4) (by omega)
        rw [ih _ (by omega) f (by omega) (by omega), ih _ (by omega) m (by omega) (by omega), ih (B (m - 4)) (by omega) f (by omega) (by omega), ih (B (m - 4)) (by omega) m (by omega) (by omega)]
theorem pt_in (A B W : Nat → Nat) {m : Nat} (h : m < 4) : pt A B W m = 0 := by
  unfold pt ptF
  rw [if_pos h]
theorem pt_gate {n : Nat} {K A B W : Nat → Nat} (h : netOK n K A B W) {g : Nat} (hg : g < n) : pt A B W (4 + g) = W g + (if pt A B W (A g) < pt A B W (B g) then pt A B W (B g) else pt A B W (A g)) := by
  obtain ⟨-, ha, hb, -⟩ := h.2 g hg
  show ptF A B W (4 + g + 1) (4 + g) = _
  rw [ptF, if_neg (by omega), show 4 + g - 4 = g by omega, ptF_fuel h _ _ ha (by omega), ptF_fuel h _ _ hb (by omega)]
theorem pt_le {n : Nat} {K A B W : Nat → Nat} (h : netOK n K A B W) : ∀ m, m < 4 + n → pt A B W m ≤ 9 * (m - 3) := by
  intro m
  induction m using Nat.strongRecOn with
  | _ m ih =>
    intro h2
    by_cases q : m < 4
    · rw [pt_in _ _ _ q]; omega
    · obtain ⟨-, ha, hb, hw1, hw2⟩ := h.2 (m - 4) (by omega)
      have e : m = 4 + (m - 4) := by omega
      rw [e, pt_gate h (by omega)]
      have h1 := ih _ (show A (m - 4) < m by omega) (by omega)
      have h2 := ih _ (show B (m - 4) < m by omega) (by omega)
      split <;> omega
theorem pt_108 {n : Nat} {K A B W : Nat → Nat} (h : netOK n K A B W) {m : Nat} (hm : m < 4 + n) : pt A B W m ≤ 108 := by
  have := pt_le h m hm
  have := h.1
  omega
/-! a net in the class's state and in the reference's -/
def R_net (n : Nat) (K A B W : Nat → Nat) (N : Mem) : Prop :=
  N.1 4 0 = nI n ∧ (∀ g, g < n → N.1 0 g = nI (K g) ∧ N.1 1 g = src (A g) ∧ N.1 2 g = src (B g) ∧ N.1 3 g = nI (W g)) ∧ ∀ m, m < 4 → N.1 5 m = itab (3 - m) ∧ N.1 6 m = nI 0
def R_ref (n : Nat) (K A B W : Nat → Nat) (s : Nat → Int32) : Prop :=
  s 0 = nI n ∧ ∀ g, g < n → s (2 + 4 * g) = nI (K g) ∧ s (2 + 4 * g + 1) = src (A g) ∧ s (2 + 4 * g + 2) = src (B g) ∧ s (2 + 4 * g + 3) = nI (W g)
/-- a net but for what was worked out of it -/
def samN (N N' : Mem) : Prop := (∀ j, j < 5 → N'.1 j = N.1 j) ∧ ∀ m, m < 4 → N'.1 5 m = N.1 5 m ∧ N'.1 6 m = N.1 6 m
theorem samN.rf (N : Mem) : samN N N := ⟨fun _ _ => rfl, fun _ _ => ⟨rfl, rfl⟩⟩
theorem samN.tr {N N1 N2 : Mem} (h : samN N N1) (h2 : samN N1 N2) : samN N N2 := ⟨fun j hj => (h2.1 j hj).trans (h.1 j hj), fun m hm => ⟨(h2.2 m hm).1.trans (h.2 m hm).1, (h2.2 m hm).2.trans (h.2 m hm).2⟩⟩
theorem samN.net {n : Nat} {K A B W : Nat → Nat} {N N' : Mem} (h : samN N N') (hr : R_net n K A B W N) : R_net n K A B W N' := by
  refine ⟨?_, fun g hg => ?_, fun m hm => ?_⟩
  · rw [h.1 4 (by decide)]; exact hr.1
  · rw [h.1 0 (by decide), h.1 1 (by decide), h.1 2 (by decide), h.1 3 (by decide)]; exact hr.2.1 g hg
  · rw [(h.2 m hm).1, (h.2 m hm).2]; exact hr.2.2 m hm
theorem samN.five {N : Mem} {T : Nat → Int32} (h : ∀ m, m < 4 → T m = N.1 5 m) : samN N (mr N 5 T) := ⟨fun j hj => m_mrN N (by omega) T, fun m hm => ⟨h m hm, rfl⟩⟩
theorem samN.six {N : Mem} {T : Nat → Int32} (h : ∀ m, m < 4 → T m = N.1 6 m) : samN N (mr N 6 T) := ⟨fun j hj => m_mrN N (by omega) T, fun m hm => ⟨rfl, h m hm⟩⟩
theorem m_mi_mr (N : Mem) (k : Nat) (T : Nat → Int32) (i : Nat) (v : Int32) : mi (mr N k T) k i v = mr N k (upd T i v) := by
  unfold mi mr
  simp only [if_pos]
  congr 1
  funext j
  by_cases h : j = k
  · rw [if_pos h, if_pos h]
  · rw [if_neg h, if_neg h, if_neg h]
theorem m_mr_id (N : Mem) (k : Nat) : mr N k (N.1 k) = N := by
  unfold mr
  obtain ⟨a, b⟩ := N
  congr 1
  funext j
  by_cases h : j = k
  · rw [if_pos h, h]
  · rw [if_neg h]
theorem c_comb (f g : Nat → Bool) {k : Nat} (hk : k < 6) : fX8_combined (nI k) (L64 f) (L64 g) = some (L64 (fun t => gop k (f t) (g t))) := by
  have h : k = 0 ∨ k = 1 ∨ k = 2 ∨ k = 3 ∨ k = 4 ∨ k = 5 := by omega
  unfold fX8_combined
  rw [show (-1 : Int64) = -lN 1 from rfl]
  rcases h with rfl | rfl | rfl | rfl | rfl | rfl
  · rw [if_pos (by decide), L64_and]; rfl
  · rw [if_neg (by decide), if_pos (by decide), L64_and, L64_not]; rfl
  · rw [if_neg (by decide), if_neg (by decide), if_pos (by decide), L64_or]; rfl
  · rw [if_neg (by decide), if_neg (by decide), if_neg (by decide), if_pos (by decide), L64_or, L64_not]; rfl
  · rw [if_neg (by decide), if_neg (by decide), if_neg (by decide), if_neg (by decide), if_pos (by decide), L64_xor]; rfl
  · rw [if_neg (by decide), if_neg (by decide), if_neg (by decide), if_neg (by decide), if_neg (by decide), L64_not]; rfl
theorem r_told {k : Nat} (hk : k < 6) (a b : Bool) : fX9_told (nI k) (bI a) (bI b) = some (bI (gop k a b)) := by
  have h : k = 0 ∨ k = 1 ∨ k = 2 ∨ k = 3 ∨ k = 4 ∨ k = 5 := by omega
  rcases h with rfl | rfl | rfl | rfl | rfl | rfl <;> cases a <;> cases b <;> decide +kernel
theorem L64_65535 : (65535 : Int64) = L64 (fun i => decide (i < 16)) := by decide +kernel
theorem L64_16 (h : Nat → Bool) : (L64 (fun t => h t && decide (t < 16))).toInt32 = nI (nb h 16) := by
  rw [L64_cong (g := fun i => decide (i < 16) && h i) (fun i _ => Bool.and_comm _ _), ← L64_n h 16 (by decide), lN_i]
theorem itab_nb : ∀ m, m < 4 → itab (3 - m) = nI (nb (fun x => x.testBit (3 - m)) 16) := by decide +kernel
def tab (K A B : Nat → Nat) (m : Nat) : Nat := nb (fun x => row K A B x m) 16
theorem tab_lt (K A B : Nat → Nat) (m : Nat) : tab K A B m < 65536 := nb_lt _ 16
theorem tab_bit (K A B : Nat → Nat) (m x : Nat) (hx : x < 16) : (tab K A B m).testBit x = row K A B x m := by
  unfold tab
  rw [nb_bit, decide_eq_true hx, Bool.true_and]
theorem tabs_loop {n : Nat} {K A B W : Nat → Nat} {N : Mem} (hN : netOK n K A B W) (hr : R_net n K A B W N) : ∀ (d g k : Nat) (T : Nat → Int32), g + d = n → (∀ m, m < 4 + g → T m = nI (tab K A B m)) →
    ∃ T', fX3_findTables_b2 (k + d + 1) (nI g) (mr N 5 T) = some (mr N 5 T') ∧ (∀ m, m < 4 + n → T' m = nI (tab K A B m)) ∧ (∀ m, m < 4 → T' m = T m) := by
  have e0 : ∀ T, (mr N 5 T).1 0 = N.1 0 := fun _ => rfl
  have e1 : ∀ T, (mr N 5 T).1 1 = N.1 1 := fun _ => rfl
  have e2 : ∀ T, (mr N 5 T).1 2 = N.1 2 := fun _ => rfl
  have e4 : ∀ T, (mr N 5 T).1 4 = N.1 4 := fun _ => rfl
  have e5 : ∀ T, (mr N 5 T).1 5 = T := fun _ => rfl
  have hn := hN.1
  intro d
  induction d with
  | zero =>
    intro g k T h hT
    have : g = n := by omega
    subst this
    refine ⟨T, ?_, hT, fun _ _ => rfl⟩
    rw [fX3_findTables_b2, if_pos (by rw [e4, hr.1, nI_leI (by omega) (by omega)]; omega)]
  | succ d ih =>
    intro g k T h hT
    have hg : g < n := by omega
    obtain ⟨hk, ha, hb, hw⟩ := hN.2 g hg
    obtain ⟨r0, r1, r2, r3⟩ := hr.2.1 g hg
    have k1 : ∀ z : Option Mem, ckI (nI g) 12 z = z := fun z => p_ckI (by omega) (by decide)
    have k2 : ∀ z : Option Mem, ckI (nI (A g)) 16 z = z := fun z => p_ckI (by omega) (by decide)
    have k3 : ∀ z : Option Mem, ckI (nI (B g)) 16 z = z := fun z => p_ckI (by omega) (by decide)
    have k4 : ∀ z : Option Mem, ckI (nI (4 + g)) 16 z = z := fun z => p_ckI (by omega) (by decide)
    have c1 : (nI g).toNatClampNeg = g := nI_clamp (by omega)
    have c2 : (nI (A g)).toNatClampNeg = A g := nI_clamp (by omega)
    have c3 : (nI (B g)).toNatClampNeg = B g := nI_clamp (by omega)
    have c4 : (nI (4 + g)).toNatClampNeg = 4 + g := nI_clamp (by omega)
    have cc : ¬ nI n ≤ nI g := by rw [nI_leI (by omega) (by omega)]; omega
    have tl : ∀ m, (nI (tab K A B m)).toInt64 = L64 (fun i => decide (i < 16) && row K A B i m) := fun m => by
      rw [nI_l (Nat.lt_of_lt_of_le (tab_lt K A B m) (by decide))]
      exact L64_n _ 16 (by decide)
    rw [fX3_findTables_b2]
    simp only [e0, e1, e2, e4, e5, zl, c1, r0, r1, r2, hr.1, src_row, nI_add, k1, k2, k3, k4, c2, c3, c4, hT (A g) (by omega), hT (B g) (by omega), tl, p_lt, m_mi_mr]
    rw [if_neg cc, c_comb _ _ hk, p_b1, L64_65535, L64_and, L64_16]
    have e9 : nb (fun i => gop (K g) (decide (i < 16) && row K A B i (A g)) (decide (i < 16) && row K A B i (B g))) 16 = tab K A B (4 + g) := by
      refine nb_cong (fun i hi => ?_)
      rw [decide_eq_true hi, Bool.true_and, Bool.true_and, row_gate hN i hg]
    rw [e9]
    obtain ⟨T', h1, h2, h3⟩ := ih (g + 1) k (upd T (4 + g) (nI (tab K A B (4 + g)))) (by omega) (fun m hm => by
      by_cases q : m = 4 + g
      · rw [q, m_uS]
      · rw [m_uN _ q, hT m (by omega)])
    refine ⟨T', h1, h2, fun m hm => ?_⟩
    rw [h3 m hm, m_uN _ (by omega)]
theorem c_tabs {n : Nat} {K A B W : Nat → Nat} {N : Mem} (hN : netOK n K A B W) (hr : R_net n K A B W N) :
    ∃ T, fX3_findTables N = some (mr N 5 T) ∧ (∀ m, m < 4 + n → T m = nI (tab K A B m)) ∧ samN N (mr N 5 T) := by
  obtain ⟨k, hk⟩ := FU_of 13 (by decide)
  have hn := hN.1
  obtain ⟨T, h1, h2, h3⟩ := tabs_loop hN hr n 0 (k + 12 - n) (N.1 5) (by omega) (fun m hm => by
    rw [(hr.2.2 m (by omega)).1, itab_nb m (by omega)]
    unfold tab
    rw [nb_cong (fun x _ => (row_in K A B x (by omega : m < 4)).symm)])
  refine ⟨T, ?_, h2, samN.five h3⟩
  unfold fX3_findTables
  rw [m_mr_id] at h1
  rw [hk, show k + 13 = k + 12 - n + n + 1 by omega]
  exact h1
theorem paths_loop {n : Nat} {K A B W : Nat → Nat} {N : Mem} (hN : netOK n K A B W) (hr : R_net n K A B W N) : ∀ (d g k : Nat) (T : Nat → Int32), g + d = n → (∀ m, m < 4 + g → T m = nI (pt A B W m)) →
    ∃ T', fX3_findPaths_b2 (k + d + 1) (nI g) (mr N 6 T) = some (mr N 6 T') ∧ (∀ m, m < 4 + n → T' m = nI (pt A B W m)) ∧ (∀ m, m < 4 → T' m = T m) := by
  have e1 : ∀ T, (mr N 6 T).1 1 = N.1 1 := fun _ => rfl
  have e2 : ∀ T, (mr N 6 T).1 2 = N.1 2 := fun _ => rfl
  have e3 : ∀ T, (mr N 6 T).1 3 = N.1 3 := fun _ => rfl
  have e4 : ∀ T, (mr N 6 T).1 4 = N.1 4 := fun _ => rfl
  have e6 : ∀ T, (mr N 6 T).1 6 = T := fun _ => rfl
  have hn := hN.1
  intro d
  induction d with
  | zero =>
    intro g k T h hT
    have : g = n := by omega
    subst this
    refine ⟨T, ?_, hT, fun _ _ => rfl⟩
    rw [fX3_findPaths_b2, if_pos (by rw [e4, hr.1, nI_leI (by omega) (by omega)]; omega)]
  | succ d ih =>
    intro g k T h hT
    have hg : g < n := by omega
    obtain ⟨hk, ha, hb, hw⟩ := hN.2 g hg
    obtain ⟨r0, r1, r2, r3⟩ := hr.2.1 g hg
    have k1 : ∀ z : Option Mem, ckI (nI g) 12 z = z := fun z => p_ckI (by omega) (by decide)
    have k2 : ∀ z : Option Mem, ckI (nI (A g)) 16 z = z := fun z => p_ckI (by omega) (by decide)
    have k3 : ∀ z : Option Mem, ckI (nI (B g)) 16 z = z := fun z => p_ckI (by omega) (by decide)
    have k4 : ∀ z : Option Mem, ckI (nI (4 + g)) 16 z = z := fun z => p_ckI (by omega) (by decide)
    have c1 : (nI g).toNatClampNeg = g := nI_clamp (by omega)
    have c2 : (nI (A g)).toNatClampNeg = A g := nI_clamp (by omega)
    have c3 : (nI (B g)).toNatClampNeg = B g := nI_clamp (by omega)
    have c4 : (nI (4 + g)).toNatClampNeg = 4 + g := nI_clamp (by omega)
    have cc : ¬ nI n ≤ nI g := by rw [nI_leI (by omega) (by omega)]; omega
    have b1 := pt_108 hN (show A g < 4 + n by omega)
    have b2 := pt_108 hN (show B g < 4 + n by omega)
    rw [fX3_findPaths_b2]
    simp only [e1, e2, e3, e4, e6, zl, c1, r1, r2, r3, hr.1, src_row, nI_add, k1, k2, k3, k4, c2, c3, c4, hT (A g) (by omega), hT (B g) (by omega), p_lt, m_mi_mr]
    rw [if_neg cc]
    have e9 : (if nI (pt A B W (A g)) < nI (pt A B W (B g)) then nI (pt A B W (B g)) else nI (pt A B W (A g))) + nI (W g) = nI (pt A B W (4 + g)) := by
      rw [pt_gate hN hg]
      by_cases q : pt A B W (A g) < pt A B W (B g)
      · rw [if_pos ((nI_ltI (by omega) (by omega)).mpr q), if_pos q, nI_add, Nat.add_comm]
      · rw [if_neg (fun z => q ((nI_ltI (by omega) (by omega)).mp z)), if_neg q, nI_add, Nat.add_comm]
    rw [e9]
    obtain ⟨T', h1, h2, h3⟩ := ih (g + 1) k (upd T (4 + g) (nI (pt A B W (4 + g)))) (by omega) (fun m hm => by
      by_cases q : m = 4 + g
      · rw [q, m_uS]
      · rw [m_uN _ q, hT m (by omega)])
    refine ⟨T', h1, h2, fun m hm => ?_⟩
    rw [h3 m hm, m_uN _ (by omega)]
theorem c_paths {n : Nat} {K A B W : Nat → Nat} {N : Mem} (hN : netOK n K A B W) (hr : R_net n K A B W N) :
    ∃ T, fX3_findPaths N = some (mr N 6 T) ∧ (∀ m, m < 4 + n → T m = nI (pt A B W m)) ∧ samN N (mr N 6 T) := by
  obtain ⟨k, hk⟩ := FU_of 13 (by decide)
  have hn := hN.1
  obtain ⟨T, h1, h2, h3⟩ := paths_loop hN hr n 0 (k + 12 - n) (N.1 6) (by omega) (fun m hm => by
    rw [(hr.2.2 m (by omega)).2, pt_in A B W (by omega : m < 4)])
  refine ⟨T, ?_, h2, samN.six h3⟩
  unfold fX3_findPaths
  rw [m_mr_id] at h1
  rw [hk, show k + 13 = k + 12 - n + n + 1 by omega]
  exact h1
