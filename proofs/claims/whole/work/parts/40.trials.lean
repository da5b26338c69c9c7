/-! PURE, 20: what was seen: told -/
theorem bI_byte (b : Bool) : (bI b).toInt8.toInt32 = bI b := by cases b <;> decide
theorem byt_eq {u v : Int32} (h : byt u v) (b : Bool) : u = bI b ↔ v = bI b := by
  constructor
  · intro e
    have h1 : v = (v &&& 255).toInt8.toInt32 := by rw [fa_byte_low]; exact h.1.symm
    exact h1.trans (by rw [show v &&& (255 : Int32) = bI b from h.2.symm.trans e]; exact bI_byte b)
  · intro e
    exact h.2.trans (by rw [e]; exact n_b255 b)
theorem one_eq {S : Mem} {so : Int32} {it : Nat → Int32} {k z : Nat} (s4 : (S.1 1 0 = -nI 1 ∧ so = -nI 1 ∧ z = 0) ∨ (S.1 1 0 = nI 1 ∧ so = nI 1 ∧ ∀ i, i < z → S.1 0 i = it (40 * k + i)) ∨ (S.1 1 0 = nI 0 ∧ so = nI 0 ∧ ∀ i, i < z → byt (S.1 0 i) (it (40 * k + i)))) (t : Nat) (ht : t < z) (b : Bool) : S.1 0 t = bI b ↔ it (40 * k + t) = bI b := by
  rcases s4 with ⟨_, _, c⟩ | ⟨_, _, c⟩ | ⟨_, _, c⟩
  · omega
  · rw [c t ht]
  · exact byt_eq (c t ht) b
theorem unl_loop {S : Mem} {z : Nat} (hz : z ≤ 40) (s2 : S.1 2 0 = nI z) {f : Nat → Bool} (s0 N : Mem) {w : Mem} (hf : ∀ t, t < 40 → fX7_at (nI t) w = some (bI (f t))) {σ : Mem} {k0 : Nat} (hk0 : k0 < 4) (s3 : σ.1 22 k0 = nI z) (hg : ∀ t, t < 40 → fX9_outAt (nI t) σ = some (bI (f t))) (he : ∀ t, t < z → ∀ b, S.1 0 t = bI b ↔ σ.1 23 (40 * k0 + t) = bI b) :
    ∀ (d t k : Nat), t + d = z → ∃ r : Int32, fX8_firstUnlike_b19 s0 S (k + d + 1) (nI t) w N = some (r, w, N) ∧ fX9_firstOther_b9 (k + d + 1) (nI k0) (nI t) σ = some (r, σ) := by
  intro d
  induction d with
  | zero =>
    intro t k ht
    have : t = z := by omega
    subst this
    refine ⟨-1, ?_, ?_⟩
    · rw [fX8_firstUnlike_b19, s2, if_pos ((nI_leI (by omega) (by omega)).mpr (Nat.le_refl _))]
    · rw [fX9_firstOther_b9, p_ckI hk0 (by decide), nI_clamp (by omega), s3, if_pos ((nI_leI (by omega) (by omega)).mpr (Nat.le_refl _))]
  | succ d ih =>
    intro t k ht
    obtain ⟨r, i1, i2⟩ := ih (t + 1) k (by omega)
    have h1 : fX8_firstUnlike_b19 s0 S (k + (d + 1) + 1) (nI t) w N = if S.1 0 t = bI (f t) then fX8_firstUnlike_b19 s0 S (k + d + 1) (nI (t + 1)) w N else some (nI t, w, N) := by
      rw [fX8_firstUnlike_b19, s2, if_neg (fun q => by rw [nI_leI (by omega) (by omega)] at q; omega), p_ckI (show t < 40 by omega) (by decide), hf t (by omega), p_b1, nI_clamp (by omega)]
      simp only [zl, p_lt, nI_add]
      try rfl
    have h2 : fX9_firstOther_b9 (k + (d + 1) + 1) (nI k0) (nI t) σ = if σ.1 23 (40 * k0 + t) = bI (f t) then fX9_firstOther_b9 (k + d + 1) (nI k0) (nI (t + 1)) σ else some (nI t, σ) := by
      rw [fX9_firstOther_b9, p_ckI hk0 (by decide), nI_clamp (show k0 < 2 ^ 31 by omega), s3, if_neg (fun q => by rw [nI_leI (by omega) (by omega)] at q; omega)]
      simp only [zl, p_lt, n_mul, nI_add]
      rw [p_ckI (show 40 * k0 + t < 160 by omega) (by decide), hg t (by omega), p_b1, nI_clamp (by omega)]
      try rfl
    rw [h1, h2]
    by_cases q : S.1 0 t = bI (f t)
    · rw [if_pos q, if_pos ((he t (by omega) _).mp q)]
      exact ⟨r, i1, i2⟩
    · rw [if_neg q, if_neg (fun e => q ((he t (by omega) _).mpr e))]
      exact ⟨nI t, rfl, rfl⟩
theorem both_unlike {n : Nat} {K A B W : Nat → Nat} {N σ : Mem} (hN : netOK n K A B W) (h0 : 0 < n) (hr : R_net n K A B W N) (hs : R_ref n K A B W (σ.1 0)) {S : Mem} {k0 z : Nat} (hk0 : k0 < 4) (hz : z ≤ 40) (s2 : S.1 2 0 = nI z) (s3 : σ.1 22 k0 = nI z) (he : ∀ t, t < z → ∀ b, S.1 0 t = bI b ↔ σ.1 23 (40 * k0 + t) = bI b) {xy : Nat} (hxy : xy < 256) (s0 w : Mem) :
    ∃ r w' N' σ', fX8_firstUnlike (nI xy) s0 w S N = some (r, w', N') ∧ fX9_firstOther (nI k0) (nI (xy / 16)) (nI (xy % 16)) σ = some (r, σ') ∧ samN N N' ∧ kept12 σ σ' := by
  obtain ⟨w', N', a1, a2, a3⟩ := c_run hN h0 hr (show xy / 16 < 16 by omega) (show xy % 16 < 16 by omega) w
  obtain ⟨σ', b1', b2', b3', -, -⟩ := r_waves hN h0 hs (show xy / 16 < 16 by omega) (show xy % 16 < 16 by omega)
  obtain ⟨kk, hkk⟩ := FU_of 41 (by decide)
  obtain ⟨r, c1, c2⟩ := unl_loop hz s2 s0 N' (fun t ht => a2.at hN.1 (show t < 128 by omega)) hk0 (by rw [b2' 22 (by decide)]; exact s3) (fun t ht => R_wave.at hN h0 b3' (show t < 109 by omega)) (fun t ht b => by rw [b2' 23 (by decide)]; exact he t ht b) z 0 (kk + 40 - z) (by omega)
  refine ⟨r, w', N', σ', ?_, ?_, a3, b2'⟩
  · unfold fX8_firstUnlike
    rw [(c_xy hxy).1, p_b1, (c_xy hxy).2, p_b1, a1, p_b2, hkk, show kk + 41 = kk + 40 - z + z + 1 by omega]
    exact c1
  · unfold fX9_firstOther
    rw [b1', p_b1, hkk, show kk + 41 = kk + 40 - z + z + 1 by omega]
    exact c2
/-! another delay, another kind, on trial -/
theorem R_netK {n : Nat} {K A B W : Nat → Nat} {N : Mem} (hr : R_net n K A B W N) (g v : Nat) : R_net n (fun i => if i = g then v else K i) A B W (mi N 0 g (nI v)) := by
  refine ⟨hr.1, fun u hu => ?_, hr.2.2⟩
  obtain ⟨a, b, c, d⟩ := hr.2.1 u hu
  refine ⟨?_, b, c, d⟩
  rw [m_miS]
  unfold upd
  show (if u = g then _ else _) = nI (if u = g then v else K u)
  by_cases z : u = g
  · rw [if_pos z, if_pos z]
  · rw [if_neg z, if_neg z]; exact a
theorem R_refW {n : Nat} {K A B W : Nat → Nat} {σ : Mem} (hs : R_ref n K A B W (σ.1 0)) (g v : Nat) : R_ref n K A B (fun i => if i = g then v else W i) ((mi σ 0 (2 + 4 * g + 3) (nI v)).1 0) := by
  rw [m_miS]
  refine ⟨by rw [m_uN _ (by omega)]; exact hs.1, fun u hu => ?_⟩
  obtain ⟨a1, a2, a3, a4⟩ := hs.2 u hu
  rw [m_uN _ (by omega), m_uN _ (by omega), m_uN _ (by omega)]
  refine ⟨a1, a2, a3, ?_⟩
  unfold upd
  show (if 2 + 4 * u + 3 = 2 + 4 * g + 3 then _ else _) = nI (if u = g then v else W u)
  by_cases z : u = g
  · rw [if_pos (by omega), if_pos z]
  · rw [if_neg (by omega), if_neg z]; exact a4
theorem R_refK {n : Nat} {K A B W : Nat → Nat} {σ : Mem} (hs : R_ref n K A B W (σ.1 0)) (g v : Nat) : R_ref n (fun i => if i = g then v else K i) A B W ((mi σ 0 (2 + 4 * g) (nI v)).1 0) := by
  rw [m_miS]
  refine ⟨by rw [m_uN _ (by omega)]; exact hs.1, fun u hu => ?_⟩
  obtain ⟨a1, a2, a3, a4⟩ := hs.2 u hu
  rw [m_uN _ (show 2 + 4 * u + 1 ≠ 2 + 4 * g by omega), m_uN _ (show 2 + 4 * u + 2 ≠ 2 + 4 * g by omega), m_uN _ (show 2 + 4 * u + 3 ≠ 2 + 4 * g by omega)]
  refine ⟨?_, a2, a3, a4⟩
  unfold upd
  show (if 2 + 4 * u = 2 + 4 * g then _ else _) = nI (if u = g then v else K u)
  by_cases z : u = g
  · rw [if_pos (by omega), if_pos z]
  · rw [if_neg (by omega), if_neg z]; exact a1
theorem set_set {n : Nat} {K A B W : Nat → Nat} {N : Mem} (hr : R_net n K A B W N) (hn : n ≤ 12) {g : Nat} (hg : g < n) (v : Int32) : fX3_setDelay (nI g) v N = some (mi N 3 g v) ∧ fX3_setKind (nI g) v N = some (mi N 0 g v) := by
  constructor
  · unfold fX3_setDelay
    simp only [zl]
    rw [c_has3 (n := n) (nI g) (by omega) hr.1, p_b1, p_if, inN_nI (by omega), decide_eq_true hg, if_pos rfl, p_ckI (by omega) (by decide), nI_clamp (by omega)]
  · unfold fX3_setKind
    simp only [zl]
    rw [c_has3 (n := n) (nI g) (by omega) hr.1, p_b1, p_if, inN_nI (by omega), decide_eq_true hg, if_pos rfl, p_ckI (by omega) (by decide), nI_clamp (by omega)]
theorem r_sets {g c : Nat} (hg : g < 12) (hc : c < 4) (v : Int32) (σ : Mem) : fX9_sets (nI g) (nI c) v σ = some (σ.1 0 (2 + 4 * g + c), mi σ 0 (2 + 4 * g + c) v) := by
  unfold fX9_sets
  simp only [zl]
  rw [r_of_at hg hc, p_b1, n_mul, nI_add, nI_add, p_ckI (by omega) (by decide), p_lt, nI_clamp (by omega)]
theorem or_n0 (a : Nat) : nI a ||| nI 0 = nI a := by rw [fa_or, Nat.or_zero]
/-- what a trial leaves of the reference's state: column `c` of gate `g` may be another -/
def trd (q : Nat) (σ0 σ : Mem) : Prop := (∀ j, j ≠ 0 → (j < 12 ∨ 15 < j) → σ.1 j = σ0.1 j) ∧ ∀ i, i ≠ q → σ.1 0 i = σ0.1 0 i
theorem trd.set {q : Nat} {σ0 σ σ' : Mem} (h : trd q σ0 σ) {v : Int32} (h2 : kept12 (mi σ 0 q v) σ') : trd q σ0 σ' :=
  ⟨fun j hj hk => by rw [h2 j hk, m_miN _ hj]; exact h.1 j hj hk, fun i hi => by rw [h2 0 (by decide), m_miS, m_uN _ hi]; exact h.2 i hi⟩
theorem delays_loop {n : Nat} {K A B : Nat → Nat} {σ0 S s0 s3m : Mem} {k0 z g xy : Nat} (h0 : 0 < n) (hg : g < n) (hk0 : k0 < 4) (hz : z ≤ 40) (s2 : S.1 2 0 = nI z) (s3 : σ0.1 22 k0 = nI z) (he : ∀ t, t < z → ∀ b, S.1 0 t = bI b ↔ σ0.1 23 (40 * k0 + t) = bI b) (hxy : xy < 256) (was : Int32) :
    ∀ (d v k a : Nat) (w N σ : Mem) (W : Nat → Nat), v + d = 10 → 1 ≤ v → netOK n K A B W → R_net n K A B W N → R_ref n K A B W (σ.1 0) → trd (2 + 4 * g + 3) σ0 σ → R_rows N →
    ∃ r w' N' σ', fX8_fittingDelays_b17 s0 S s3m (k + d + 1) (nI xy) (nI g) (nI a) (nI v) w N = some (r, w', N') ∧ fX9_soBy_b17 (k + d + 1) (nI k0) (nI (xy / 16)) (nI (xy % 16)) (nI g) (nI 3) (nI 9) was (nI a) (nI v) σ = some (r, σ') ∧ R_rows N' ∧ trd (2 + 4 * g + 3) σ0 σ' ∧ σ'.1 0 (2 + 4 * g + 3) = was := by
  intro d
  induction d with
  | zero =>
    intro v k a w N σ W hv hv1 hN hr hs ht hrow
    have hn := hN.1
    have : v = 10 := by omega
    subst this
    refine ⟨nI a, w, N, mi σ 0 (2 + 4 * g + 3) was, ?_, ?_, hrow, ht.set (v := was) (fun _ _ => rfl), by rw [m_miS, m_uS]⟩
    · rw [fX8_fittingDelays_b17, if_pos (by decide)]
    · rw [fX9_soBy_b17, if_pos (by decide), r_sets (by omega) (by decide), p_b2]
  | succ d ih =>
    intro v k a w N σ W hv hv1 hN hr hs ht hrow
    have hn := hN.1
    have hN1 : netOK n K A B (fun i => if i = g then v else W i) := by
      refine ⟨hn, fun u hu => ?_⟩
      obtain ⟨a1, a2, a3, a4, a5⟩ := hN.2 u hu
      refine ⟨a1, a2, a3, ?_⟩
      show 1 ≤ (if u = g then v else W u) ∧ (if u = g then v else W u) ≤ 9
      split <;> omega
    obtain ⟨r, w', N', σ', u1, u2, u3, u4⟩ := both_unlike (S := S) (k0 := k0) (z := z) (xy := xy) hN1 h0 (R_netW hr g v) (R_refW hs g v) hk0 hz s2 (by rw [m_miN _ (by decide), ht.1 22 (by decide) (by decide)]; exact s3) (fun t q b => by rw [m_miN _ (by decide), ht.1 23 (by decide) (by decide)]; exact he t q b) hxy s0 w
    have hrow1 : R_rows N' := u3.rows (fun m hm => hrow m hm)
    have hr1 := u3.net (R_netW hr g v)
    have hs1 : R_ref n K A B (fun i => if i = g then v else W i) (σ'.1 0) := by rw [u4 0 (by decide)]; exact R_refW hs g v
    have step : ∀ a', ∃ r w2 N2 σ2, fX8_fittingDelays_b17 s0 S s3m (k + d + 1) (nI xy) (nI g) (nI a') (nI (v + 1)) w' N' = some (r, w2, N2) ∧ fX9_soBy_b17 (k + d + 1) (nI k0) (nI (xy / 16)) (nI (xy % 16)) (nI g) (nI 3) (nI 9) was (nI a') (nI (v + 1)) σ' = some (r, σ2) ∧ R_rows N2 ∧ trd (2 + 4 * g + 3) σ0 σ2 ∧ σ2.1 0 (2 + 4 * g + 3) = was :=
      fun a' => ih (v + 1) k a' w' N' σ' _ (by omega) (by omega) hN1 hr1 hs1 (ht.set u4) hrow1
    rw [fX8_fittingDelays_b17, fX9_soBy_b17]
    unfold fX8_fittingDelays_b57 fX9_soBy_b56
    simp only [zl, p_lt, nI_add]
    rw [if_neg (fun q => by rw [nI_ltI (by decide) (by omega)] at q; omega), if_neg (fun q => by rw [nI_ltI (by decide) (by omega)] at q; omega), (set_set hr hn hg (nI v)).1, p_b1, u1, p_b3, r_sets (by omega) (by decide), p_b2, u2, p_b2, n_shl1 v (by omega), fa_or a (2 ^ v), or_n0 a]
    by_cases q : r = -nI 1
    · rw [if_pos q, if_pos q]
      exact step _
    · rw [if_neg q, if_neg q]
      exact step _
theorem kinds_loop {n : Nat} {A B W : Nat → Nat} {σ0 S s0 s3m : Mem} {k0 z g xy : Nat} (h0 : 0 < n) (hg : g < n) (hk0 : k0 < 4) (hz : z ≤ 40) (s2 : S.1 2 0 = nI z) (s3 : σ0.1 22 k0 = nI z) (he : ∀ t, t < z → ∀ b, S.1 0 t = bI b ↔ σ0.1 23 (40 * k0 + t) = bI b) (hxy : xy < 256) (was : Int32) :
    ∀ (d v k a : Nat) (w N σ : Mem) (K : Nat → Nat), v + d = 6 → netOK n K A B W → R_net n K A B W N → R_ref n K A B W (σ.1 0) → trd (2 + 4 * g) σ0 σ → R_rows N →
    ∃ r w' N' σ', fX8_fittingKinds_b17 s0 S s3m (k + d + 1) (nI xy) (nI g) (nI a) (nI v) w N = some (r, w', N') ∧ fX9_soBy_b17 (k + d + 1) (nI k0) (nI (xy / 16)) (nI (xy % 16)) (nI g) (nI 0) (nI 5) was (nI a) (nI v) σ = some (r, σ') ∧ R_rows N' ∧ trd (2 + 4 * g) σ0 σ' ∧ σ'.1 0 (2 + 4 * g) = was := by
  intro d
  induction d with
  | zero =>
    intro v k a w N σ K hv hN hr hs ht hrow
    have hn := hN.1
    have : v = 6 := by omega
    subst this
    refine ⟨nI a, w, N, mi σ 0 (2 + 4 * g) was, ?_, ?_, hrow, ht.set (v := was) (fun _ _ => rfl), by rw [m_miS, m_uS]⟩
    · rw [fX8_fittingKinds_b17, if_pos (by decide)]
    · rw [fX9_soBy_b17, if_pos (by decide), r_sets (c := 0) (by omega) (by decide), p_b2]
      try rfl
  | succ d ih =>
    intro v k a w N σ K hv hN hr hs ht hrow
    have hn := hN.1
    have hN1 : netOK n (fun i => if i = g then v else K i) A B W := by
      refine ⟨hn, fun u hu => ?_⟩
      obtain ⟨a1, a2, a3, a4, a5⟩ := hN.2 u hu
      refine ⟨?_, a2, a3, a4, a5⟩
      show (if u = g then v else K u) < 6
      split <;> omega
    obtain ⟨r, w', N', σ', u1, u2, u3, u4⟩ := both_unlike (S := S) (k0 := k0) (z := z) (xy := xy) hN1 h0 (R_netK hr g v) (R_refK hs g v) hk0 hz s2 (by rw [m_miN _ (by decide), ht.1 22 (by decide) (by decide)]; exact s3) (fun t q b => by rw [m_miN _ (by decide), ht.1 23 (by decide) (by decide)]; exact he t q b) hxy s0 w
    have hrow1 : R_rows N' := u3.rows (fun m hm => hrow m hm)
    have hr1 := u3.net (R_netK hr g v)
    have hs1 : R_ref n (fun i => if i = g then v else K i) A B W (σ'.1 0) := by rw [u4 0 (by decide)]; exact R_refK hs g v
    have step : ∀ a', ∃ r w2 N2 σ2, fX8_fittingKinds_b17 s0 S s3m (k + d + 1) (nI xy) (nI g) (nI a') (nI (v + 1)) w' N' = some (r, w2, N2) ∧ fX9_soBy_b17 (k + d + 1) (nI k0) (nI (xy / 16)) (nI (xy % 16)) (nI g) (nI 0) (nI 5) was (nI a') (nI (v + 1)) σ' = some (r, σ2) ∧ R_rows N2 ∧ trd (2 + 4 * g) σ0 σ2 ∧ σ2.1 0 (2 + 4 * g) = was :=
      fun a' => ih (v + 1) k a' w' N' σ' _ (by omega) hN1 hr1 hs1 (ht.set u4) hrow1
    rw [fX8_fittingKinds_b17, fX9_soBy_b17]
    unfold fX8_fittingKinds_b57 fX9_soBy_b56
    simp only [zl, p_lt, nI_add]
    rw [if_neg (fun q => by rw [nI_leI (by decide) (by omega)] at q; omega), if_neg (fun q => by rw [nI_ltI (by decide) (by omega)] at q; omega), (set_set hr hn hg (nI v)).2, p_b1, u1, p_b3, r_sets (c := 0) (by omega) (by decide), p_b2, show 2 + 4 * g + 0 = 2 + 4 * g from rfl, u2, p_b2, n_shl1 v (by omega), fa_or a (2 ^ v), or_n0 a]
    by_cases q : r = -nI 1
    · rw [if_pos q, if_pos q]
      exact step _
    · rw [if_neg q, if_neg q]
      exact step _
theorem told_core {X : XS} {σ : Mem} (h : Rel X σ) {k0 xy m : Nat} (hk0 : k0 < 4) (hxy : xy < 256) (hm : m < 3) (p2 : Int32) (hp : ∀ n, n ≤ 12 → (X 3).1 4 0 = nI n → m ≠ 0 → inN p2 n = true) : Sim (fX8_told_b43 (nI k0) (nI xy) p2 (nI m) X) (fX9_told__b40 (nI k0) (nI xy) p2 (nI m) σ) := by
  obtain ⟨⟨n, K, A, B, W, T, C, V, d, Sd, Pl, F1, F2, hN, hr, hs, -⟩, -, -, hsh, hrow, -⟩ := id h
  have hn := hN.1
  have k16 : ∀ z : Option (Int32 × Mem), ck0 (nI 16) z = z := fun z => p_ck0 (by decide) (by decide)
  have k1 : ∀ z : Option (Int32 × XS), ckI (nI k0) 4 z = z := fun z => p_ckI (by omega) (by decide)
  have k2 : ∀ z : Option (Int32 × Mem), ckI (nI k0) 4 z = z := fun z => p_ckI (by omega) (by decide)
  unfold fX8_told_b43 fX9_told__b40
  simp only [zl, k16, k1, k2, p_lt, nI_clamp (show k0 < 2 ^ 31 by omega)]
  rw [c_empty (by omega) hr.1, p_b1, p_if, p_ckI (by decide) (by decide), nI_clamp (by decide), hs.1, i_eq0 (a := n) (by omega)]
  by_cases q3 : n = 0
  · rw [if_pos (decide_eq_true q3), if_pos q3]
    exact Sim.i h
  · rw [if_neg (by simpa using q3), if_neg q3]
    obtain ⟨b, e1, e2, e3⟩ := c_missing (hsh k0 hk0)
    obtain ⟨z, hz, s2, s3, s4⟩ := hsh k0 hk0
    rw [e1, p_b1, p_if]
    by_cases q1 : σ.1 21 k0 = -nI 1
    · rw [if_pos (e2.mpr q1), if_pos q1]
      exact Sim.i h
    · rw [if_neg (fun w => q1 (e2.mp w)), if_neg q1, n_rem16 (by omega), n_div16 (by omega)]
      have hw : ∀ t, t < z → ∀ b, (X (11 + k0)).1 0 t = bI b ↔ σ.1 23 (40 * k0 + t) = bI b := one_eq s4
      by_cases m0 : m = 0
      · subst m0
        rw [if_pos (rfl : nI 0 = nI 0), if_pos (rfl : nI 0 = nI 0)]
        obtain ⟨r, w', N', σ', u1, u2, u3, u4⟩ := both_unlike hN (by omega) hr hs hk0 hz s2 s3 hw hxy (X 0) (X 5)
        rw [u1, p_b3, u2, p_b2]
        exact Sim.i (h.wave u3 u4)
      · have m0' : ¬ nI m = nI 0 := fun e => m0 ((nI_eq (by omega) (by decide)).mp e)
        rw [if_neg m0', if_neg m0']
        obtain ⟨g, hg, -, rfl⟩ := inN_t (hp n hn hr.1 m0)
        obtain ⟨N4, e4, f1, f2, f3, f4⟩ := c_become3 (X 4) (X 3)
        have hr4 : R_net n K A B W N4 := ⟨f1.trans hr.1, fun u hu => by rw [f2 0 (by decide) u (by omega), f2 1 (by decide) u (by omega), f2 2 (by decide) u (by omega), f2 3 (by decide) u (by omega)]; exact hr.2.1 u hu, fun j hj => by rw [f3, f4]; exact hrow j hj⟩
        have hrow4 : R_rows N4 := hr4.2.2
        have fin : ∀ (q : Nat) (σ' w' N' : Mem), R_rows N' → trd q σ σ' → σ'.1 0 q = σ.1 0 q → Rel (xs (xs X 5 w') 4 N') σ' := by
          intro q σ' w' N' g1 g2 g3
          refine h.scr (fun k h2 h3 h4 h5 h7 => by rw [m_xsN _ h4, m_xsN _ h5]) (by rw [m_xsN _ (show 3 ≠ 4 by decide), m_xsN _ (show 3 ≠ 5 by decide)]; exact samN.rf _) (fun _ => by rw [m_xsS]; exact g1) (fun k hk => ?_)
          by_cases k0' : k = 0
          · subst k0'
            funext i
            by_cases iq : i = q
            · rw [iq]; exact g3
            · exact g2.2 i iq
          · exact g2.1 k k0' (by omega)
        obtain ⟨kk, hkk⟩ := FU_of 41 (by decide)
        have ht0 : ∀ q, trd q σ σ := fun q => ⟨fun _ _ _ => rfl, fun _ _ => rfl⟩
        by_cases m1 : m = 1
        · subst m1
          rw [if_pos (rfl : nI 1 = nI 1), if_pos (rfl : nI 1 = nI 1)]
          unfold fX8_fittingDelays fX9_soBy
          simp only [zl]
          rw [e4, p_b1, r_of3 hN hs hg, p_b1, hkk, show kk + 41 = kk + 31 + 9 + 1 by omega]
          obtain ⟨r, w', N', σ', u1, u2, u3, u4, u5⟩ := delays_loop (S := X (11 + k0)) (s0 := X 0) (s3m := X 3) (show 0 < n by omega) hg hk0 hz s2 s3 hw hxy (nI (W g)) 9 1 (kk + 31) 0 (X 5) N4 σ W (by omega) (by omega) hN hr4 hs (ht0 _) hrow4
          rw [u1, p_b3, u2, p_b2]
          exact Sim.i (fin _ σ' w' N' u3 u4 (by rw [u5]; exact (hs.2 g hg).2.2.2.symm))
        · have m1' : ¬ nI m = nI 1 := fun e => m1 ((nI_eq (by omega) (by decide)).mp e)
          rw [if_neg m1', if_neg m1']
          unfold fX8_fittingKinds fX9_soBy
          simp only [zl]
          rw [e4, p_b1, r_of0 hN hs hg, p_b1, hkk, show kk + 41 = kk + 34 + 6 + 1 by omega]
          obtain ⟨r, w', N', σ', u1, u2, u3, u4, u5⟩ := kinds_loop (S := X (11 + k0)) (s0 := X 0) (s3m := X 3) (show 0 < n by omega) hg hk0 hz s2 s3 hw hxy (nI (K g)) 6 0 (kk + 34) 0 (X 5) N4 σ K (by omega) hN hr4 hs (ht0 _) hrow4
          rw [u1, p_b3, u2, p_b2]
          exact Sim.i (fin _ σ' w' N' u3 u4 (by rw [u5]; exact (hs.2 g hg).1.symm))
theorem sim_told {X : XS} {σ : Mem} (h : Rel X σ) (p0 p1 p2 p3 : Int32) : Sim (fX8_told p0 p1 p2 p3 X) (fX9_told_ p0 p1 p2 p3 σ) := by
  obtain ⟨⟨n, K, A, B, W, T, C, V, d, Sd, Pl, F1, F2, hN, hr, hs, -⟩, -⟩ := id h
  have hn := hN.1
  unfold fX8_told fX9_told_
  simp only [zl]
  rw [r_isSheet, c_sheet, p_b1, p_b1, p_if, p_if]
  by_cases q : inN p0 4 = true
  · rw [if_pos q, if_pos q, c_code, p_b1, p_if, r_code, p_b1, p_if]
    by_cases q1 : (inN p1 256 && !(decide (p1.toNatClampNeg / 16 = p1.toNatClampNeg % 16))) = true
    · rw [if_pos q1, if_pos q1, r_isIn, c_within0 p3 (by decide), p_b1, p_b1, p_if, p_if]
      by_cases q2 : inN p3 (2 + 1) = true
      · have q1a : inN p1 256 = true := by
          revert q1
          cases inN p1 256
          · intro e; rw [Bool.false_and] at e; exact e
          · exact fun _ => rfl
        obtain ⟨k0, hk0, -, rfl⟩ := inN_t q
        obtain ⟨xy, hxy, -, rfl⟩ := inN_t q1a
        obtain ⟨m, hm, -, rfl⟩ := inN_t q2
        rw [if_pos q2, if_pos q2]
        by_cases m0 : m = 0
        · subst m0
          rw [if_pos (rfl : nI 0 = nI 0), if_pos (show nI 0 ≤ nI 0 by decide)]
          exact told_core h hk0 hxy (by decide) p2 (fun _ _ _ e => absurd rfl e)
        · rw [if_neg (fun e => m0 ((nI_eq (by omega) (by decide)).mp e)), if_neg (fun e => m0 (by rw [nI_leI (by omega) (by decide)] at e; omega)), c_has3 p2 (by omega) hr.1, r_isGate p2 (by omega) hs.1, p_b1, p_b1, p_if, p_if]
          by_cases q4 : inN p2 n = true
          · rw [if_pos q4, if_pos q4]
            exact told_core h hk0 hxy hm p2 (fun n' hn' e' _ => by
              have : n' = n := (nI_eq (by omega) (by omega)).mp (e'.symm.trans hr.1)
              rw [this]
              exact q4)
          · rw [if_neg q4, if_neg q4]
            exact Sim.i h
      · rw [if_neg q2, if_neg q2]
        exact Sim.i h
    · rw [if_neg q1, if_neg q1]
      exact Sim.i h
  · rw [if_neg q, if_neg q]
    exact Sim.i h
