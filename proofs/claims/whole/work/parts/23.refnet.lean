/-! PURE, 3: the reference's gates and waves -/
theorem r_of_at {σ : Mem} {g c : Nat} (hg : g < 12) (hc : c < 4) : fX9_of (nI g) (nI c) σ = some (σ.1 0 (2 + 4 * g + c)) := by
  unfold fX9_of
  simp only [zl, n_mul, nI_add]
  rw [p_ckI (by omega) (by decide), nI_clamp (by omega)]
section RREF
variable {n : Nat} {K A B W : Nat → Nat} {σ : Mem}
theorem r_of0 (hN : netOK n K A B W) (hr : R_ref n K A B W (σ.1 0)) {g : Nat} (hg : g < n) : fX9_of (nI g) (nI 0) σ = some (nI (K g)) := by
  have := hN.1
  rw [r_of_at (by omega) (by decide), Nat.add_zero, (hr.2 g hg).1]
theorem r_of1 (hN : netOK n K A B W) (hr : R_ref n K A B W (σ.1 0)) {g : Nat} (hg : g < n) : fX9_of (nI g) (nI 1) σ = some (src (A g)) := by
  have := hN.1
  rw [r_of_at (by omega) (by decide), (hr.2 g hg).2.1]
theorem r_of2 (hN : netOK n K A B W) (hr : R_ref n K A B W (σ.1 0)) {g : Nat} (hg : g < n) : fX9_of (nI g) (nI 2) σ = some (src (B g)) := by
  have := hN.1
  rw [r_of_at (by omega) (by decide), (hr.2 g hg).2.2.1]
theorem r_of3 (hN : netOK n K A B W) (hr : R_ref n K A B W (σ.1 0)) {g : Nat} (hg : g < n) : fX9_of (nI g) (nI 3) σ = some (nI (W g)) := by
  have := hN.1
  rw [r_of_at (by omega) (by decide), (hr.2 g hg).2.2.2]
theorem r_path (hN : netOK n K A B W) (hr : R_ref n K A B W (σ.1 0)) : ∀ (m f : Nat), m < 4 + n → 0 < f → m < f + 3 → fX9_pathOf f (src m) σ = some (nI (pt A B W m)) := by
  intro m
  induction m using Nat.strongRecOn with
  | _ m ih =>
    intro f h1 h2 h3
    have hn := hN.1
    obtain ⟨f, rfl⟩ : ∃ f', f = f' + 1 := ⟨f - 1, by omega⟩
    rw [fX9_pathOf]
    simp only [zl]
    by_cases q : m < 4
    · rw [if_neg (src_in m q).2.2.1, pt_in _ _ _ q]
    · obtain ⟨hk, ha, hb, hw1, hw2⟩ := hN.2 (m - 4) (by omega)
      have e : m = 4 + (m - 4) := by omega
      have b1 := pt_108 hN (show A (m - 4) < 4 + n by omega)
      have b2 := pt_108 hN (show B (m - 4) < 4 + n by omega)
      rw [src_ge (by omega), if_pos (z_pos (by omega)), r_of1 hN hr (by omega), p_b1, ih _ (by omega) f (by omega) (by omega) (by omega), p_b1, r_of2 hN hr (by omega), p_b1, ih (B (m - 4)) (by omega) f (by omega) (by omega) (by omega), p_b1, r_of3 hN hr (by omega), p_b1]
      have e9 : pt A B W m = W (m - 4) + (if pt A B W (A (m - 4)) < pt A B W (B (m - 4)) then pt A B W (B (m - 4)) else pt A B W (A (m - 4))) := by
        conv => lhs; rw [e]
        rw [pt_gate hN (by omega)]
      rw [e9]
      by_cases z : pt A B W (A (m - 4)) < pt A B W (B (m - 4))
      · rw [if_pos z, if_pos ((nI_leI (by omega) (by omega)).mpr (by omega)), nI_add]
      · rw [if_neg z]
        by_cases z2 : pt A B W (A (m - 4)) = pt A B W (B (m - 4))
        · rw [if_pos ((nI_leI (by omega) (by omega)).mpr (by omega)), nI_add, z2]
        · rw [if_neg (fun h => by rw [nI_leI (by omega) (by omega)] at h; omega), nI_add]
theorem r_stOf {S : Nat → Int32} {x a b : Nat} (hx : x < 16) (hb : b ≤ 12) (ha : a < 4 + b) (hS : σ.1 12 = S) (h : ∀ g, g < b → S g = bI (row K A B x (4 + g))) : fX9_standsOf (src a) (nI x) σ = some (bI (row K A B x a)) := by
  unfold fX9_standsOf
  simp only [zl]
  by_cases q : a < 4
  · obtain ⟨-, e, e2, -⟩ := src_in a q
    rw [if_neg e2, e, n_bit (by omega) (by omega), row_in K A B x q]
  · rw [src_ge (by omega), if_pos (z_pos (by omega)), p_ckI (by omega) (by decide), nI_clamp (by omega), hS, h _ (by omega), show 4 + (a - 4) = a by omega]
theorem r_stands_loop (hN : netOK n K A B W) (hr : R_ref n K A B W (σ.1 0)) {x : Nat} (hx : x < 16) : ∀ (d g k : Nat) (S : Nat → Int32), g + d = n → (∀ m, m < g → S m = bI (row K A B x (4 + m))) →
    ∃ S', fX9_standsAll_b2 (k + d + 1) (nI x) (nI g) (mr σ 12 S) = some (mr σ 12 S') ∧ ∀ m, m < n → S' m = bI (row K A B x (4 + m)) := by
  have hn := hN.1
  have e0 : ∀ T, (mr σ 12 T).1 0 = σ.1 0 := fun _ => rfl
  have hr' : ∀ T, R_ref n K A B W ((mr σ 12 T).1 0) := fun _ => hr
  have k0 : ∀ z : Option Mem, ckI (nI 0) 66 z = z := fun z => p_ckI (by decide) (by decide)
  have c0 : (nI 0).toNatClampNeg = 0 := nI_clamp (by decide)
  intro d
  induction d with
  | zero =>
    intro g k S h hS
    have : g = n := by omega
    subst this
    refine ⟨S, ?_, hS⟩
    rw [fX9_standsAll_b2]
    simp only [zl, k0, c0, e0, hr.1]
    rw [if_pos ((nI_leI (by omega) (by omega)).mpr (by omega))]
  | succ d ih =>
    intro g k S h hS
    have hg : g < n := by omega
    obtain ⟨hk, ha, hb, hw⟩ := hN.2 g hg
    rw [fX9_standsAll_b2]
    simp only [zl, k0, c0, e0, hr.1]
    rw [if_neg (fun q => by rw [nI_leI (by omega) (by omega)] at q; omega), r_of0 hN (hr' S) hg, p_b1, r_of1 hN (hr' S) hg, p_b1, r_stOf (σ := mr σ 12 S) (S := S) (b := g) hx (by omega) ha rfl hS, p_b1, r_of2 hN (hr' S) hg, p_b1, r_stOf (σ := mr σ 12 S) (S := S) (b := g) hx (by omega) hb rfl hS, p_b1, r_told hk, p_b1, p_ckI (by omega) (by decide), p_lt, p_lt, nI_add, nI_clamp (by omega), m_mi_mr]
    obtain ⟨S', h1, h2⟩ := ih (g + 1) k (upd S g (bI (gop (K g) (row K A B x (A g)) (row K A B x (B g))))) (by omega) (fun m hm => by
      by_cases q : m = g
      · rw [q, m_uS, row_gate hN x hg]
      · rw [m_uN _ q, hS m (by omega)])
    exact ⟨S', h1, h2⟩
theorem r_stands (hN : netOK n K A B W) (hr : R_ref n K A B W (σ.1 0)) {x : Nat} (hx : x < 16) : ∃ S, fX9_standsAll (nI x) σ = some (mr σ 12 S) ∧ ∀ m, m < n → S m = bI (row K A B x (4 + m)) := by
  obtain ⟨k, hk⟩ := FU_of 13 (by decide)
  have hn := hN.1
  obtain ⟨S, h1, h2⟩ := r_stands_loop hN hr hx n 0 (k + 12 - n) (σ.1 12) (by omega) (fun m hm => by omega)
  refine ⟨S, ?_, h2⟩
  unfold fX9_standsAll
  rw [m_mr_id] at h1
  rw [hk, show k + 13 = k + 12 - n + n + 1 by omega]
  exact h1
theorem nb_or (f : Nat → Bool) {x : Nat} (hx : x < 31) : nI (nb f x) ||| (bI (f x) <<< (nI x &&& nI 31)) = nI (nb f (x + 1)) := by
  have h := nb_lt f x
  have e : bI (f x) <<< (nI x &&& nI 31) = nI (if f x = true then 2 ^ x else 0) := by
    cases f x
    · have z : ∀ x, x < 31 → nI 0 <<< (nI x &&& nI 31) = nI 0 := by decide +kernel
      exact z x hx
    · exact n_shl1 x (by omega)
  rw [e, fa_or]
  congr 1
  refine nb_ext ?_ (fun i hi => ?_)
  · have h2 : nb f x < 2 ^ (x + 1) := by rw [Nat.pow_succ]; omega
    refine Nat.or_lt_two_pow h2 ?_
    rw [Nat.pow_succ]
    have := Nat.two_pow_pos x
    split <;> omega
  · rw [Nat.testBit_or, nb_bit]
    by_cases q : i = x
    · subst q
      rw [decide_eq_false (by omega), Bool.false_and, Bool.false_or]
      cases f i
      · rw [if_neg (by decide), Nat.zero_testBit]
      · rw [if_pos rfl, Nat.testBit_two_pow_self]
    · rw [decide_eq_true (by omega), Bool.true_and]
      split
      · rw [Nat.testBit_two_pow_of_ne (fun e => q e.symm), Bool.or_false]
      · rw [Nat.zero_testBit, Bool.or_false]
theorem r_table_loop (hN : netOK n K A B W) (h0 : 0 < n) (hr : R_ref n K A B W (σ.1 0)) : ∀ (d x k : Nat) (S : Nat → Int32), x + d = 16 →
    ∃ S', fX9_tableOf_b4 (k + d + 1) (nI (nb (fun x => row K A B x (4 + (n - 1))) x)) (nI x) (mr σ 12 S) = some (nI (tab K A B (4 + (n - 1))), mr σ 12 S') := by
  have hn := hN.1
  have hr' : ∀ T, R_ref n K A B W ((mr σ 12 T).1 0) := fun _ => hr
  have tw : ∀ S T, mr (mr σ 12 S) 12 T = mr σ 12 T := fun S T => by
    unfold mr
    congr 1
    funext j
    by_cases q : j = 12
    · rw [if_pos q, if_pos q]
    · rw [if_neg q, if_neg q]; exact if_neg q
  intro d
  induction d with
  | zero =>
    intro x k S h
    have : x = 16 := by omega
    subst this
    refine ⟨S, ?_⟩
    rw [fX9_tableOf_b4, if_pos (by decide)]
    rfl
  | succ d ih =>
    intro x k S h
    obtain ⟨S1, h1, h2⟩ := r_stands hN (hr' S) (show x < 16 by omega)
    obtain ⟨S2, h3⟩ := ih (x + 1) k S1 (by omega)
    refine ⟨S2, ?_⟩
    rw [fX9_tableOf_b4]
    simp only [zl]
    rw [if_neg (fun q => by rw [nI_leI (by omega) (by omega)] at q; omega), h1, tw, p_b1, r_out h0 (show (mr σ 12 S1).1 0 0 = nI n from hr.1), p_b1, p_ckI (by omega) (by decide), p_lt, p_lt, nI_clamp (by omega), show (mr σ 12 S1).1 12 = S1 from rfl, h2 _ (by omega), nI_add, nb_or (fun x => row K A B x (4 + (n - 1))) (by omega)]
    exact h3
theorem r_table (hN : netOK n K A B W) (h0 : 0 < n) (hr : R_ref n K A B W (σ.1 0)) : ∃ S, fX9_tableOf σ = some (nI (tab K A B (4 + (n - 1))), mr σ 12 S) := by
  obtain ⟨k, hk⟩ := FU_of 17 (by decide)
  obtain ⟨S, h⟩ := r_table_loop hN h0 hr 16 0 k (σ.1 12) rfl
  rw [m_mr_id] at h
  refine ⟨S, ?_⟩
  unfold fX9_tableOf
  rw [hk]
  exact h
/-! waves -/
theorem n_subneg {a b : Nat} (h : a < b) (hb : b < 2 ^ 31) : nI a - nI b < 0 := by
  rw [Int32.lt_iff_toInt_lt, fb_subI (by rw [nI_toInt (by omega), nI_toInt hb]; omega) (by rw [nI_toInt (by omega), nI_toInt hb]; omega), nI_toInt (by omega), nI_toInt hb, show (0 : Int32).toInt = 0 by decide]
  omega
theorem neg_nle {p : Int32} (h : p < 0) : ¬ nI 0 ≤ p := nle_nI h (by decide)
theorem r_at {S V : Nat → Int32} {x y a b t w : Nat} (hx : x < 16) (hy : y < 16) (hb : b ≤ 12) (ha : a < 4 + b) (ht : t < 109) (hw : 1 ≤ w ∧ w ≤ 9) (hS : σ.1 12 = S) (hV : σ.1 13 = V) (h : ∀ g, g < b → S g = bI (row K A B x (4 + g))) (h2 : ∀ g, g < b → ∀ t, t < 109 → V (109 * g + t) = bI (wv K A B W x y (4 + g) t)) :
    fX9_at (src a) (nI x) (nI y) (nI t - nI w) σ = some (bI (late K A B W x y a w t)) := by
  unfold fX9_at late
  simp only [zl]
  by_cases q : a < 4
  · obtain ⟨-, e, e2, -⟩ := src_in a q
    rw [if_neg e2, e]
    by_cases z : t < w
    · rw [if_neg (neg_nle (n_subneg z (by omega))), if_pos z, n_bit (by omega) (by omega), row_in K A B x q]
    · rw [n_sub (by omega), if_pos (z_pos (by omega)), if_neg z, n_bit (by omega) (by omega), wv_in K A B W x y _ q]
  · rw [src_ge (by omega), if_pos (z_pos (by omega))]
    by_cases z : t < w
    · rw [if_neg (neg_nle (n_subneg z (by omega))), if_pos z, p_ckI (by omega) (by decide), nI_clamp (by omega), hS, h _ (by omega), show 4 + (a - 4) = a by omega]
    · rw [n_sub (by omega), if_pos (z_pos (by omega)), if_neg z, n_mul, nI_add, p_ckI (by omega) (by decide), nI_clamp (by omega), hV, h2 _ (by omega) _ (by omega), show 4 + (a - 4) = a by omega]
theorem r_wave_in (hN : netOK n K A B W) (hr : R_ref n K A B W (σ.1 0)) {x y g : Nat} (hx : x < 16) (hy : y < 16) (hg : g < n) (K7 : Int32 → Int32 → Int32 → Mem → Option Mem) {S : Nat → Int32} (hS : σ.1 12 = S) (h : ∀ g, g < n → S g = bI (row K A B x (4 + g))) :
    ∀ (d t k : Nat) (V : Nat → Int32), t + d = 109 → (∀ g', g' < g → ∀ t, t < 109 → V (109 * g' + t) = bI (wv K A B W x y (4 + g') t)) → (∀ t', t' < t → V (109 * g + t') = bI (wv K A B W x y (4 + g) t')) →
    ∃ V', fX9_waves_b28 K7 (k + d + 1) (nI x) (nI y) (nI g) (nI (W g)) (nI t) (mr σ 13 V) = K7 (nI x) (nI y) (nI (g + 1)) (mr σ 13 V') ∧ ∀ g', g' < g + 1 → ∀ t, t < 109 → V' (109 * g' + t) = bI (wv K A B W x y (4 + g') t) := by
  have hn := hN.1
  have hr' : ∀ T, R_ref n K A B W ((mr σ 13 T).1 0) := fun _ => hr
  obtain ⟨hk, ha, hb, hw⟩ := hN.2 g hg
  intro d
  induction d with
  | zero =>
    intro t k V ht h1 h2
    have : t = 109 := by omega
    subst this
    refine ⟨V, ?_, fun g' hg' t ht => ?_⟩
    · rw [fX9_waves_b28, if_pos (by decide), p_lt]
      simp only [zl, nI_add]
    · by_cases q : g' = g
      · rw [q]; exact h2 t ht
      · exact h1 g' (by omega) t ht
  | succ d ih =>
    intro t k V ht h1 h2
    obtain ⟨V', h3, h4⟩ := ih (t + 1) k (upd V (109 * g + t) (bI (wv K A B W x y (4 + g) t))) (by omega) (fun g' hg' t' ht' => by rw [m_uN _ (by omega)]; exact h1 g' hg' t' ht') (fun t' ht' => by
      by_cases q : t' = t
      · rw [q, m_uS]
      · rw [m_uN _ (by omega)]; exact h2 t' (by omega))
    refine ⟨V', ?_, h4⟩
    rw [fX9_waves_b28]
    simp only [zl]
    rw [if_neg (fun q => by rw [nI_leI (by omega) (by omega)] at q; omega), r_of0 hN (hr' V) hg, p_b1, r_of1 hN (hr' V) hg, p_b1,
      r_at (σ := mr σ 13 V) (S := S) (V := V) (b := g) hx hy (by omega) ha (by omega) hw hS rfl (fun g' hg' => h g' (by omega)) h1, p_b1, r_of2 hN (hr' V) hg, p_b1,
      r_at (σ := mr σ 13 V) (S := S) (V := V) (b := g) hx hy (by omega) hb (by omega) hw hS rfl (fun g' hg' => h g' (by omega)) h1, p_b1, r_told hk, p_b1, n_mul, nI_add, p_ckI (by omega) (by decide), p_lt, p_lt, nI_add, nI_clamp (by omega), m_mi_mr, ← wv_gate hN x y t hg]
    exact h3
/-- what the output tells ahead of a time -/
def prv (K A B W : Nat → Nat) (x y m t : Nat) : Bool := if t = 0 then row K A B x m else wv K A B W x y m (t - 1)
def flp (K A B W : Nat → Nat) (x y m t : Nat) : Bool := wv K A B W x y m t ^^ prv K A B W x y m t
def lst (f : Nat → Bool) : Nat → Int32
  | 0 => -nI 1
  | k + 1 => if f k = true then nI k else lst f k
theorem r_outAt {V S : Nat → Int32} {x y t : Nat} (hN : netOK n K A B W) (h0 : 0 < n) (hr : R_ref n K A B W (σ.1 0)) (hV : σ.1 13 = V) (h2 : ∀ t, t < 109 → V (109 * (n - 1) + t) = bI (wv K A B W x y (4 + (n - 1)) t)) (ht : t < 109) :
    fX9_outAt (nI t) σ = some (bI (wv K A B W x y (4 + (n - 1)) t)) := by
  have hn := hN.1
  unfold fX9_outAt
  simp only [zl]
  rw [if_pos (z_pos (by omega)), r_out h0 hr.1, p_b1, n_mul, nI_add, p_ckI (by omega) (by decide), nI_clamp (by omega), hV, h2 t ht]
theorem r_outN {S : Nat → Int32} {x : Nat} {p : Int32} (hN : netOK n K A B W) (h0 : 0 < n) (hr : R_ref n K A B W (σ.1 0)) (hS : σ.1 12 = S) (h : ∀ g, g < n → S g = bI (row K A B x (4 + g))) (hp : p < 0) :
    fX9_outAt p σ = some (bI (row K A B x (4 + (n - 1)))) := by
  have hn := hN.1
  unfold fX9_outAt
  simp only [zl]
  rw [if_neg (neg_nle hp), r_out h0 hr.1, p_b1, p_ckI (by omega) (by decide), nI_clamp (by omega), hS, h _ (by omega)]
/-- the reference's state with a wave of x, y in it -/
def R_wave (n : Nat) (K A B W : Nat → Nat) (x y : Nat) (σ : Mem) : Prop :=
  R_ref n K A B W (σ.1 0) ∧ (∀ g, g < n → σ.1 12 g = bI (row K A B x (4 + g))) ∧ (∀ t, t < 109 → σ.1 13 (109 * (n - 1) + t) = bI (wv K A B W x y (4 + (n - 1)) t))
theorem R_wave.at (hN : netOK n K A B W) (h0 : 0 < n) {x y t : Nat} (h : R_wave n K A B W x y σ) (ht : t < 109) : fX9_outAt (nI t) σ = some (bI (wv K A B W x y (4 + (n - 1)) t)) := r_outAt (S := σ.1 12) hN h0 h.1 rfl h.2.2 ht
theorem R_wave.ahead (hN : netOK n K A B W) (h0 : 0 < n) {x y : Nat} (h : R_wave n K A B W x y σ) {p : Int32} (hp : p < 0) : fX9_outAt p σ = some (bI (row K A B x (4 + (n - 1)))) := r_outN hN h0 h.1 rfl h.2.1 hp
theorem R_wave.prev (hN : netOK n K A B W) (h0 : 0 < n) {x y t : Nat} (h : R_wave n K A B W x y σ) (ht : t < 109) : fX9_outAt (nI t - nI 1) σ = some (bI (prv K A B W x y (4 + (n - 1)) t)) := by
  unfold prv
  by_cases q : t = 0
  · subst q
    rw [if_pos rfl]
    exact R_wave.ahead hN h0 h (by decide)
  · rw [if_neg q, n_sub (by omega)]
    exact R_wave.at hN h0 h (by omega)
/-- what a wave may change in the reference's state -/
def kept12 (σ σ' : Mem) : Prop := ∀ k, k < 12 ∨ 15 < k → σ'.1 k = σ.1 k
theorem kept12.tr {σ1 σ2 : Mem} (h : kept12 σ σ1) (h2 : kept12 σ1 σ2) : kept12 σ σ2 := fun k hk => (h2 k hk).trans (h k hk)
theorem r_flip_loop (hN : netOK n K A B W) (h0 : 0 < n) {x y : Nat} : ∀ (d t k : Nat) (σ : Mem), t + d = 109 → R_wave n K A B W x y σ → σ.1 14 0 = nI (fb_ct (flp K A B W x y (4 + (n - 1))) t) → σ.1 15 0 = lst (flp K A B W x y (4 + (n - 1))) t →
    ∃ σ', fX9_waves_b114 (k + d + 1) (nI t) σ = some σ' ∧ kept12 σ σ' ∧ R_wave n K A B W x y σ' ∧ σ'.1 14 0 = nI (fb_ct (flp K A B W x y (4 + (n - 1))) 109) ∧ σ'.1 15 0 = lst (flp K A B W x y (4 + (n - 1))) 109 := by
  intro d
  induction d with
  | zero =>
    intro t k σ h hR h1 h2
    have : t = 109 := by omega
    subst this
    refine ⟨σ, ?_, fun _ _ => rfl, hR, h1, h2⟩
    rw [fX9_waves_b114, if_pos (by decide)]
  | succ d ih =>
    intro t k σ h hR h1 h2
    rw [fX9_waves_b114]
    simp only [zl]
    rw [if_neg (fun q => by rw [nI_leI (by omega) (by omega)] at q; omega), R_wave.at hN h0 hR (by omega), p_b1, R_wave.prev hN h0 hR (by omega), p_b1, i_bI]
    unfold fX9_waves_b153
    by_cases q : wv K A B W x y (4 + (n - 1)) t = prv K A B W x y (4 + (n - 1)) t
    · rw [if_pos q, p_lt]
      simp only [zl, nI_add]
      have e : flp K A B W x y (4 + (n - 1)) t = false := by unfold flp; rw [q, Bool.xor_self]
      refine ih (t + 1) k σ (by omega) hR ?_ ?_
      · rw [h1, fb_ct_succ, e]; rfl
      · rw [h2]
        show _ = if _ then _ else _
        rw [e]; rfl
    · rw [if_neg q, p_lt, p_lt, p_lt]
      simp only [zl, nI_add]
      have e : flp K A B W x y (4 + (n - 1)) t = true := by
        unfold flp
        revert q
        cases wv K A B W x y (4 + (n - 1)) t <;> cases prv K A B W x y (4 + (n - 1)) t <;> decide
      obtain ⟨σ', g1, g2, g3, g4, g5⟩ := ih (t + 1) k (mi (mi σ 14 0 (σ.1 14 0 + nI 1)) 15 0 (nI t)) (by omega) hR (by
        show σ.1 14 0 + nI 1 = _
        rw [h1, fb_ct_succ, e, nI_add]; rfl) (by
        show nI t = if _ then _ else _
        rw [e]; rfl)
      refine ⟨σ', g1, fun z hz => ?_, g3, g4, g5⟩
      rw [g2 z hz, m_miN _ (by omega), m_miN _ (by omega)]
theorem r_gates_loop (hN : netOK n K A B W) (h0 : 0 < n) (hr : R_ref n K A B W (σ.1 0)) {x y : Nat} (hx : x < 16) (hy : y < 16) (h : ∀ g, g < n → σ.1 12 g = bI (row K A B x (4 + g))) : ∀ (d g k : Nat) (V : Nat → Int32), g + d = n → (∀ g', g' < g → ∀ t, t < 109 → V (109 * g' + t) = bI (wv K A B W x y (4 + g') t)) →
    ∃ σ', fX9_waves_b7 (k + d + 1) (nI x) (nI y) (nI g) (mr σ 13 V) = some σ' ∧ kept12 σ σ' ∧ R_wave n K A B W x y σ' ∧ σ'.1 14 0 = nI (fb_ct (flp K A B W x y (4 + (n - 1))) 109) ∧ σ'.1 15 0 = lst (flp K A B W x y (4 + (n - 1))) 109 := by
  have hn := hN.1
  have e0 : ∀ T, (mr σ 13 T).1 0 = σ.1 0 := fun _ => rfl
  have hr' : ∀ T, R_ref n K A B W ((mr σ 13 T).1 0) := fun _ => hr
  have k0 : ∀ z : Option Mem, ckI (nI 0) 66 z = z := fun z => p_ckI (by decide) (by decide)
  have c0 : (nI 0).toNatClampNeg = 0 := nI_clamp (by decide)
  intro d
  induction d with
  | zero =>
    intro g k V hg hV
    have : g = n := by omega
    subst this
    obtain ⟨k2, hk2⟩ := FU_of 110 (by decide)
    rw [fX9_waves_b7]
    simp only [zl, k0, c0, e0, hr.1, p_lt]
    rw [if_pos ((nI_leI (by omega) (by omega)).mpr (by omega)), hk2]
    obtain ⟨σ', g1, g2, g3, g4, g5⟩ := r_flip_loop hN h0 (x := x) (y := y) 109 0 k2 (mi (mi (mr σ 13 V) 14 0 (nI 0)) 15 0 (-nI 1)) (by omega) ⟨hr, h, fun t ht => hV (g - 1) (by omega) t ht⟩ rfl rfl
    refine ⟨σ', g1, fun z hz => ?_, g3, g4, g5⟩
    rw [g2 z hz, m_miN _ (by omega), m_miN _ (by omega), m_mrN _ (by omega)]
  | succ d ih =>
    intro g k V hg hV
    obtain ⟨k2, hk2⟩ := FU_of 110 (by decide)
    rw [fX9_waves_b7]
    simp only [zl, k0, c0, e0, hr.1]
    rw [if_neg (fun q => by rw [nI_leI (by omega) (by omega)] at q; omega), r_of3 hN (hr' V) (by omega), p_b1, hk2]
    obtain ⟨V', h1, h2⟩ := r_wave_in hN hr hx hy (show g < n by omega) (fX9_waves_b7 (k + d + 1)) rfl h 109 0 k2 V (by omega) hV (fun t' ht' => by omega)
    rw [show k + (d + 1) = k + d + 1 by omega, h1]
    exact ih (g + 1) k V' (by omega) h2
theorem r_waves (hN : netOK n K A B W) (h0 : 0 < n) (hr : R_ref n K A B W (σ.1 0)) {x y : Nat} (hx : x < 16) (hy : y < 16) :
    ∃ σ', fX9_waves (nI x) (nI y) σ = some σ' ∧ kept12 σ σ' ∧ R_wave n K A B W x y σ' ∧ σ'.1 14 0 = nI (fb_ct (flp K A B W x y (4 + (n - 1))) 109) ∧ σ'.1 15 0 = lst (flp K A B W x y (4 + (n - 1))) 109 := by
  obtain ⟨k, hk⟩ := FU_of 13 (by decide)
  have hn := hN.1
  obtain ⟨S, h1, h2⟩ := r_stands hN hr hx
  obtain ⟨σ', g1, g2, g3⟩ := r_gates_loop (σ := mr σ 12 S) hN h0 hr hx hy h2 n 0 (k + 12 - n) (σ.1 13) (by omega) (fun g' hg' => by omega)
  refine ⟨σ', ?_, fun z hz => by rw [g2 z hz, m_mrN _ (by omega)], g3⟩
  unfold fX9_waves
  rw [h1, p_b1, hk, show k + 13 = k + 12 - n + n + 1 by omega]
  rw [show mr (mr σ 12 S) 13 (σ.1 13) = mr σ 12 S from by
    have := m_mr_id (mr σ 12 S) 13
    exact this] at g1
  simp only [zl]
  exact g1
end RREF
