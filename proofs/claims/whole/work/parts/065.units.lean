/-! UNITS: the whole object as fifteen parts, each at its own addresses; a part at a time, the others are never looked at -/
theorem vD_iff {A : Nat → Prop} {ws : va_W} : va_D A ws ↔ (ws.map (·.1)).Pairwise (· ≠ ·) ∧ ∀ q ∈ ws, A q.1 := by
  constructor
  · intro h
    refine ⟨?_, fun q hq => ?_⟩
    · rw [List.pairwise_iff_getElem]
      intro i j hi hj hij e
      simp only [List.getElem_map] at e
      have hi' : i < ws.length := by simpa using hi
      have hj' : j < ws.length := by simpa using hj
      have := h.1 i j ws[i] ws[j] (List.getElem?_eq_getElem hi') (List.getElem?_eq_getElem hj') e
      omega
    · obtain ⟨i, hi⟩ := List.getElem?_of_mem hq
      exact h.2 i q hi
  · intro h
    refine ⟨fun i j p q hp hq e => ?_, fun k q hk => h.2 q (List.mem_of_getElem? hk)⟩
    have hi := (List.getElem?_eq_some_iff.mp hp)
    have hj := (List.getElem?_eq_some_iff.mp hq)
    obtain ⟨hi, hi2⟩ := hi
    obtain ⟨hj, hj2⟩ := hj
    have h1 := List.pairwise_iff_getElem.mp h.1
    rcases Nat.lt_trichotomy i j with z | z | z
    · have h3 := h1 i j (by simpa using hi) (by simpa using hj) z
      simp only [List.getElem_map] at h3
      rw [hi2, hj2] at h3
      exact absurd e h3
    · exact z
    · have h3 := h1 j i (by simpa using hj) (by simpa using hi) z
      simp only [List.getElem_map] at h3
      rw [hi2, hj2] at h3
      exact absurd e.symm h3
theorem vP_iff {D : va_G} {ws : va_W} {H : Heap} : va_P D vwCl ws H ↔ ∀ q ∈ ws, va_at D vwCl q H := by
  constructor
  · intro h q hq
    obtain ⟨i, hi⟩ := List.getElem?_of_mem hq
    exact h i q hi
  · intro h k q hk
    exact h q (List.mem_of_getElem? hk)
theorem vP_l {D : va_G} {u v : va_W} {H : Heap} (h : va_P D vwCl (u ++ v) H) : va_P D vwCl u H := vP_iff.mpr fun q hq => vP_iff.mp h q (List.mem_append_left _ hq)
theorem vP_r {D : va_G} {u v : va_W} {H : Heap} (h : va_P D vwCl (u ++ v) H) : va_P D vwCl v H := vP_iff.mpr fun q hq => vP_iff.mp h q (List.mem_append_right _ hq)
def uX (a : Nat → Nat → Nat) (c : Nat → ClassId) : Nat → Mem → va_W
  | 0, σ => wX8 a c σ
  | 1, σ => wX6 (a 1) c σ
  | 2, σ => wX2 (a 2) c σ
  | 3, σ => wX3 (a 3) c σ
  | 4, σ => wX3 (a 4) c σ
  | 5, σ => wX7 (a 5) c σ
  | 6, σ => wX0 (a 6) c σ
  | 7, σ => wX4 (a 7) c σ
  | 8, σ => wX1 (a 8) c σ
  | 9, σ => wX3 (a 9) c σ
  | 10, σ => wX0 (a 10) c σ
  | 11, σ => wX5 (a 11) c σ
  | 12, σ => wX5 (a 12) c σ
  | 13, σ => wX5 (a 13) c σ
  | 14, σ => wX5 (a 14) c σ
  | _, _ => []
def uA (a : Nat → Nat → Nat) (k : Nat) : List Nat := (uX a (fun _ => 0) k (fun _ _ => 0, fun _ _ => 0)).map (·.1)
theorem uX_addr (a : Nat → Nat → Nat) (c : Nat → ClassId) (σ : Mem) : ∀ k, (uX a c k σ).map (·.1) = uA a k
  | 0 => rfl
  | 1 => rfl
  | 2 => rfl
  | 3 => rfl
  | 4 => rfl
  | 5 => rfl
  | 6 => rfl
  | 7 => rfl
  | 8 => rfl
  | 9 => rfl
  | 10 => rfl
  | 11 => rfl
  | 12 => rfl
  | 13 => rfl
  | 14 => rfl
  | _ + 15 => rfl
theorem uX_in {a : Nat → Nat → Nat} {c : Nat → ClassId} {σ : Mem} {k : Nat} {q : Nat × va_E} (h : q ∈ uX a c k σ) : q.1 ∈ uA a k := by
  rw [← uX_addr a c σ k]
  exact List.mem_map_of_mem h
/-- some parts, in an order -/
def catX (a : Nat → Nat → Nat) (c : Nat → ClassId) (X : XS) (ks : List Nat) : va_W := ks.flatMap fun k => uX a c k (X k)
def wX (a : Nat → Nat → Nat) (c : Nat → ClassId) (X : XS) : va_W := catX a c X (List.range 15)
def XP (D : va_G) (a : Nat → Nat → Nat) (c : Nat → ClassId) (X : XS) (H : Heap) : Prop := ∀ k, k < 15 → va_P D vwCl (uX a c k (X k)) H
def XD (A : Nat → Prop) (a : Nat → Nat → Nat) : Prop := (∀ k, k < 15 → (uA a k).Pairwise (· ≠ ·)) ∧ (∀ j k, j < 15 → k < 15 → j ≠ k → ∀ x ∈ uA a j, ∀ y ∈ uA a k, x ≠ y) ∧ ∀ k, k < 15 → ∀ x ∈ uA a k, A x
theorem XP_iff {D : va_G} {a : Nat → Nat → Nat} {c : Nat → ClassId} {X : XS} {H : Heap} : va_P D vwCl (wX a c X) H ↔ XP D a c X H := by
  constructor
  · intro h k hk
    exact vP_iff.mpr fun q hq => vP_iff.mp h q (List.mem_flatMap.mpr ⟨k, List.mem_range.mpr hk, hq⟩)
  · intro h
    refine vP_iff.mpr fun q hq => ?_
    obtain ⟨k, hk, hq⟩ := List.mem_flatMap.mp hq
    exact vP_iff.mp (h k (List.mem_range.mp hk)) q hq
theorem catX_addr (a : Nat → Nat → Nat) (c : Nat → ClassId) (X : XS) (ks : List Nat) : (catX a c X ks).map (·.1) = ks.flatMap (uA a) := by
  unfold catX
  rw [List.map_flatMap]
  congr 1
  funext k
  exact uX_addr a c (X k) k
theorem XD_of {A : Nat → Prop} {a : Nat → Nat → Nat} {c : Nat → ClassId} {X : XS} (h : va_D A (wX a c X)) : XD A a := by
  obtain ⟨h1, h2⟩ := vD_iff.mp h
  unfold wX at h1
  rw [catX_addr, List.pairwise_flatMap] at h1
  refine ⟨fun k hk => h1.1 k (List.mem_range.mpr hk), fun j k hj hk hjk x hx y hy => ?_, fun k hk x hx => ?_⟩
  · have h3 := List.pairwise_iff_getElem.mp h1.2
    rcases Nat.lt_or_ge j k with z | z
    · have := h3 j k (by simpa using hj) (by simpa using hk) z
      simp only [List.getElem_range] at this
      exact this x hx y hy
    · have := h3 k j (by simpa using hk) (by simpa using hj) (by omega)
      simp only [List.getElem_range] at this
      exact (this y hy x hx).symm
  · rw [← uX_addr a c (X k) k] at hx
    obtain ⟨q, hq, rfl⟩ := List.mem_map.mp hx
    exact h2 q (List.mem_flatMap.mpr ⟨k, List.mem_range.mpr hk, hq⟩)
/-- parts without a double: apart -/
theorem XD.cat {A : Nat → Prop} {a : Nat → Nat → Nat} (h : XD A a) (c : Nat → ClassId) (X : XS) {ks : List Nat} (hk : ∀ k ∈ ks, k < 15) (hn : ks.Pairwise (· ≠ ·)) : va_D A (catX a c X ks) := by
  refine vD_iff.mpr ⟨?_, fun q hq => ?_⟩
  · rw [catX_addr, List.pairwise_flatMap]
    refine ⟨fun k hk2 => h.1 k (hk k hk2), ?_⟩
    refine List.Pairwise.imp_of_mem (fun {x y} hx hy hxy => ?_) hn
    exact h.2.1 x y (hk x hx) (hk y hy) hxy
  · obtain ⟨k, hk2, hq⟩ := List.mem_flatMap.mp hq
    exact h.2.2 k (hk k hk2) _ (uX_in hq)
theorem XD.all {A : Nat → Prop} {a : Nat → Nat → Nat} (h : XD A a) (c : Nat → ClassId) (X : XS) : va_D A (wX a c X) :=
  h.cat c X (fun k hk => List.mem_range.mp hk) (List.nodup_range)
theorem XP.cat {D : va_G} {a : Nat → Nat → Nat} {c : Nat → ClassId} {X : XS} {H : Heap} (h : XP D a c X H) {ks : List Nat} (hk : ∀ k ∈ ks, k < 15) : va_P D vwCl (catX a c X ks) H := by
  refine vP_iff.mpr fun q hq => ?_
  obtain ⟨k, hk2, hq⟩ := List.mem_flatMap.mp hq
  exact vP_iff.mp (h k (hk k hk2)) q hq
section UNITS
variable {p : Program} {l : Launch} {e : Env} {R : Room} {s : State} {m : MethodId} {args : Array Value} {below : List Frame} {meth : Method} {c9 : Code} {H : Heap} {locs : List Loc} {cells slots : Nat} {Q : State → Prop}
  {D : va_G} {tys : List (ClassId × FieldType)} {rest : List Value} {w0 w1 : va_W} {rv : Option Value} {pc : Nat} {ls : Array Slot} {A : Nat → Prop} {a : Nat → Nat → Nat} {c : Nat → ClassId} {X X' : XS}
theorem g_freeX {H0 : Heap} (hD : XD A a) (hS : va_S A H0 H locs) (hA : ∀ q : Nat, H0.size ≤ q → A q) {ks : List Nat} (hk : ∀ k ∈ ks, k < 15) (h0 : ∀ q ∈ w0, ∃ k ∈ ks, q.1 ∈ uA a k) : ∀ q, va_A w0 H.size q → A q := by
  intro q h
  rcases h with ⟨i, e, h⟩ | h
  · obtain ⟨k, hk2, hq⟩ := h0 _ (List.mem_of_getElem? h)
    exact hD.2.2 k (hk k hk2) _ hq
  · exact hA q (Nat.le_trans hS.1 h)
/-- behind a call over some parts -/
theorem g_X {H0 : Heap} {a9 : Array Value} {st0 : List Value} (hr : va_Run p l e R s m args below meth c9 H locs cells slots 0 0 (F0 m pc ls st0) rest (gQ D tys rv w0 w1 H.size a9) (va_A w0 H.size)) (hP : XP D a c X H) (hD : XD A a) (hS : va_S A H0 H locs) (hA : ∀ q : Nat, H0.size ≤ q → A q)
    {ks : List Nat} (hk : ∀ k ∈ ks, k < 15) (h0 : ∀ q ∈ w0, ∃ k ∈ ks, q.1 ∈ uA a k) (hX : ∀ k, k < 15 → k ∉ ks → X' k = X k) (h1 : ∀ H1 : Heap, va_P D vwCl w1 H1 → ∀ k ∈ ks, va_P D vwCl (uX a c k (X' k)) H1)
    {st1 : List Value} (hst1 : rv.toList ++ rest = st1)
    (kk : ∀ (H1 : Heap) (locs1 : List Loc), XP D a c X' H1 → va_S A H0 H1 locs1 → W p l e R s m args below meth c9 H1 locs1 cells slots Q (F0 m (pc + 3) ls st1)) : W p l e R s m args below meth c9 H locs cells slots Q (F0 m pc ls st0) := by
  subst hst1
  have hF : ∀ q, va_A w0 H.size q → A q := g_freeX hD hS hA hk h0
  intro T hT Y
  obtain ⟨v, st₀, t, T', L, hh0, Y', hL, e1, e2, ⟨⟨hv, hP1, hK1, hD1⟩, hz, hkk⟩, st⟩ := hr T hT Y
  cases hv
  rw [hh0] at hz hkk
  have hPn : XP D a c X' T'.heap := by
    intro k hk15
    by_cases hks : k ∈ ks
    · exact h1 T'.heap (by rw [e1]; exact hP1) k hks
    · rw [hX k hk15 hks]
      refine (hP k hk15).kept (fun i q hq => ?_)
      rw [e1]
      refine hkk q.1 ((hP k hk15 i q hq).lt) (fun h => ?_)
      rcases h with ⟨i2, e, h⟩ | h
      · obtain ⟨k2, hk2, hq2⟩ := h0 _ (List.mem_of_getElem? h)
        exact hD.2.1 k k2 hk15 (hk k2 hk2) (fun z => hks (z ▸ hk2)) q.1 (uX_in (List.mem_of_getElem? hq)) q.1 hq2 rfl
      · have := (hP k hk15 i q hq).lt
        omega
  obtain ⟨t2, a1, b1⟩ := kk T'.heap (locs ++ L) hPn
    ⟨Nat.le_trans hS.1 (by rw [e1]; exact hz), fun q h1 h2 => by rw [e1, hkk q (Nat.lt_of_lt_of_le h1 hS.1) (fun z => h2 (hF q z))]; exact hS.2.1 q h1 h2, fun q hq => by
      rcases List.mem_append.mp hq with h | h
      · exact hS.2.2 q h
      · exact hF _ (hL q h)⟩ T' rfl Y'
  exact ⟨t2, st t2 a1, b1⟩
/-- a call without a world, over parts -/
theorem g_noneX {H0 : Heap} {a9 : Array Value} {st0 : List Value} (hr : va_Run p l e R s m args below meth c9 H locs cells slots 0 0 (F0 m pc ls st0) rest (gQ D tys rv [] [] H.size a9) (va_A [] H.size)) (hP : XP D a c X H) (hS : va_S A H0 H locs) (hA : ∀ q : Nat, H0.size ≤ q → A q)
    {st1 : List Value} (hst1 : rv.toList ++ rest = st1)
    (kk : ∀ (H1 : Heap) (locs1 : List Loc), XP D a c X H1 → va_S A H0 H1 locs1 → W p l e R s m args below meth c9 H1 locs1 cells slots Q (F0 m (pc + 3) ls st1)) : W p l e R s m args below meth c9 H locs cells slots Q (F0 m pc ls st0) :=
  g_none hr (XP_iff.mpr hP) hS hA hst1 (fun H1 locs1 hP1 hS1 => kk H1 locs1 (XP_iff.mp hP1) hS1)
end UNITS
/-- the whole as one part, or two, ahead of the others -/
def restX (a : Nat → Nat → Nat) (c : Nat → ClassId) (X : XS) (ks : List Nat) : va_W := catX a c X ((List.range 15).filter fun k => decide (k ∉ ks))
theorem XP.one {D : va_G} {a : Nat → Nat → Nat} {c : Nat → ClassId} {X : XS} {H : Heap} (h : XP D a c X H) (k : Nat) (hk : k < 15) : va_P D vwCl (uX a c k (X k) ++ restX a c X [k]) H :=
  (h k hk).app (h.cat fun j hj => List.mem_range.mp (List.mem_filter.mp hj).1)
theorem XP.back {D : va_G} {a : Nat → Nat → Nat} {c : Nat → ClassId} {X : XS} {H : Heap} {k : Nat} {σ : Mem} (h : va_P D vwCl (uX a c k σ ++ restX a c X [k]) H) : XP D a c (xs X k σ) H := by
  intro j hj
  by_cases q : j = k
  · subst q
    show va_P D vwCl (uX a c j (if j = j then σ else X j)) H
    rw [if_pos rfl]
    exact vP_l h
  · show va_P D vwCl (uX a c j (if j = k then σ else X j)) H
    rw [if_neg q]
    refine vP_iff.mpr fun z hz => vP_iff.mp (vP_r h) z (List.mem_flatMap.mpr ⟨j, List.mem_filter.mpr ⟨List.mem_range.mpr hj, by simp [q]⟩, hz⟩)
theorem XD.one {A : Nat → Prop} {a : Nat → Nat → Nat} (h : XD A a) (c : Nat → ClassId) (X : XS) (k : Nat) (hk : k < 15) (σ : Mem) : va_D A (uX a c k σ ++ restX a c X [k]) := by
  have h1 := h.cat c (xs X k σ) (ks := k :: (List.range 15).filter fun j => decide (j ∉ [k])) (fun j hj => by
    rcases List.mem_cons.mp hj with e | e
    · rw [e]; exact hk
    · exact List.mem_range.mp (List.mem_filter.mp e).1) (List.pairwise_cons.mpr ⟨fun j hj e => by
      have := (List.mem_filter.mp hj).2
      simp at this
      exact this e.symm, List.Pairwise.filter _ List.nodup_range⟩)
  refine vD_iff.mpr ?_
  have h2 := vD_iff.mp h1
  have e : (catX a c (xs X k σ) (k :: (List.range 15).filter fun j => decide (j ∉ [k]))).map (·.1) = (uX a c k σ ++ restX a c X [k]).map (·.1) := by
    unfold restX
    rw [catX_addr, List.map_append, uX_addr, catX_addr]
    rfl
  rw [← e]
  refine ⟨h2.1, fun q hq => ?_⟩
  have hq1 : q.1 ∈ (catX a c (xs X k σ) (k :: (List.range 15).filter fun j => decide (j ∉ [k]))).map (·.1) := by rw [e]; exact List.mem_map_of_mem hq
  obtain ⟨q2, hq2, e2⟩ := List.mem_map.mp hq1
  rw [← e2]
  exact h2.2 q2 hq2
theorem XP.two {D : va_G} {a : Nat → Nat → Nat} {c : Nat → ClassId} {X : XS} {H : Heap} (h : XP D a c X H) (j k : Nat) (hj : j < 15) (hk : k < 15) : va_P D vwCl (uX a c k (X k) ++ (uX a c j (X j) ++ restX a c X [k])) H :=
  (h k hk).app ((h j hj).app (h.cat fun j hj => List.mem_range.mp (List.mem_filter.mp hj).1))
theorem XR.mem {a : Nat → Nat → Nat} {c : Nat → ClassId} {X : XS} {j k : Nat} {σ : Mem} (hj : j < 15) (hjk : j ≠ k) {q : Nat × va_E} (hq : q ∈ uX a c j (X j)) : ∃ i : Nat, (uX a c k σ ++ restX a c X [k])[i]? = some q := by
  refine List.getElem?_of_mem (List.mem_append_right _ (List.mem_flatMap.mpr ⟨j, List.mem_filter.mpr ⟨List.mem_range.mpr hj, by simp [hjk]⟩, hq⟩))
/-- a world by its addresses: that of some parts -/
theorem XD.of_addr {A : Nat → Prop} {a : Nat → Nat → Nat} (h : XD A a) {w : va_W} {ks : List Nat} (hk : ∀ k ∈ ks, k < 15) (hn : ks.Pairwise (· ≠ ·)) (hw : w.map (·.1) = ks.flatMap (uA a)) : va_D A w := by
  refine vD_iff.mpr ⟨?_, fun q hq => ?_⟩
  · rw [hw, List.pairwise_flatMap]
    refine ⟨fun k hk2 => h.1 k (hk k hk2), ?_⟩
    refine List.Pairwise.imp_of_mem (fun {x y} hx hy hxy => ?_) hn
    exact h.2.1 x y (hk x hx) (hk y hy) hxy
  · have h1 : q.1 ∈ w.map (·.1) := List.mem_map_of_mem hq
    rw [hw] at h1
    obtain ⟨k, hk2, hq⟩ := List.mem_flatMap.mp h1
    exact h.2.2 k (hk k hk2) _ hq
theorem addr0 {a : Nat → Nat → Nat} {w : va_W} {ks : List Nat} (hw : w.map (·.1) = ks.flatMap (uA a)) : ∀ q ∈ w, ∃ k ∈ ks, q.1 ∈ uA a k := by
  intro q hq
  have h1 : q.1 ∈ w.map (·.1) := List.mem_map_of_mem hq
  rw [hw] at h1
  obtain ⟨k, hk2, hq⟩ := List.mem_flatMap.mp h1
  exact ⟨k, hk2, hq⟩
theorem xs_o {X : XS} {ks : List Nat} {k j : Nat} {σ : Mem} (hk : k ∉ ks) (hj : j ∈ ks) : xs X j σ k = X k := if_neg (fun (e : k = j) => hk (e ▸ hj))
theorem g_allX {p : Program} {l : Launch} {e : Env} {R : Room} {s : State} {m : MethodId} {args : Array Value} {below : List Frame} {meth : Method} {c9 : Code} {H : Heap} {locs : List Loc} {cells slots : Nat} {Q : State → Prop}
  {D : va_G} {tys : List (ClassId × FieldType)} {rest : List Value} {rv : Option Value} {pc : Nat} {ls : Array Slot} {A : Nat → Prop} {a : Nat → Nat → Nat} {c : Nat → ClassId} {X X' : XS} {H0 : Heap} {a9 : Array Value} {st0 : List Value} (hr : va_Run p l e R s m args below meth c9 H locs cells slots 0 0 (F0 m pc ls st0) rest (gQ D tys rv (wX a c X) (wX a c X') H.size a9) (va_A (wX a c X) H.size)) (hD : XD A a) (hS : va_S A H0 H locs) (hA : ∀ q : Nat, H0.size ≤ q → A q)
    {st1 : List Value} (hst1 : rv.toList ++ rest = st1)
    (kk : ∀ (H1 : Heap) (locs1 : List Loc), XP D a c X' H1 → va_S A H0 H1 locs1 → W p l e R s m args below meth c9 H1 locs1 cells slots Q (F0 m (pc + 3) ls st1)) : W p l e R s m args below meth c9 H locs cells slots Q (F0 m pc ls st0) :=
  g_all hr (hD.all c X) hS hA hst1 (fun H1 locs1 hP1 _ hS1 => kk H1 locs1 (XP_iff.mp hP1) hS1)
/-- a word's constant by the wide ldc -/
theorem g_ldcSW {p : Program} {l : Launch} {e : Env} {R : Room} {s : State} {m : MethodId} {args : Array Value} {below : List Frame} {meth : Method} {c : Code} {H : Heap} {locs : List Loc} {cells slots : Nat} {Q : State → Prop} {cc : ByteArray} {pc : Nat} {ls : Array Slot} {rest : List Value}
    (hx : p.tables.exec = Jvm.exec) (hb : c.code = cc) {own tx : String} {index q : Nat} (hown : s.vm.findClass own = some m.cls) (hZ : vk_R own index tx q s) (hdg : decode cc pc = .ok (.ldc_w index, 3))
    (k : W p l e R s m args below meth c H locs cells slots Q (F0 m (pc + 3) ls (.ref q :: rest))) : W p l e R s m args below meth c H locs cells slots Q (F0 m pc ls rest) := by
  intro T hT X
  obtain ⟨t, a1, b1⟩ := k T hT X
  refine ⟨t, ?_, b1⟩
  obtain ⟨kc, cf, i, a', hk, hcf, hcp, -, hr, hev'⟩ := Cond.stringRef_spec hown hZ.1
  cases hZ.2.symm.trans hev'
  obtain ⟨k', hk', he⟩ := X.warmed.alike.2.2 _ _ hk
  have hr' : k'.resolved[index]? = some (some (.string q)) := by
    rcases X.warmed.entry hk hk' index with h | ⟨h, -⟩
    · rw [h]; exact hr
    · rw [hr] at h; cases h
  subst hb
  jvm_step X.here [hx, hdg, ldc_w.wp_string (e := e) (s := T) (f := F0 m pc ls rest) X.here.top hk' (by rw [he]; exact hcf) hcp hr']
  exact a1
theorem g_setS (a : Nat → Nat → Nat) (c : Nat → ClassId) (σ : Mem) (f : Nat → Int32) (R : va_W) : ∀ k, k < 4 → (uX a c (11 + k) σ ++ R).set 1 (a (11 + k) 1, .inl (c 0, 40, .inl f)) = uX a c (11 + k) (mr σ 0 f) ++ R
  | 0, _ => rfl
  | 1, _ => rfl
  | 2, _ => rfl
  | 3, _ => rfl
  | k + 4, h => absurd h (by omega)
theorem XP.setS {D : va_G} {a : Nat → Nat → Nat} {c : Nat → ClassId} {X : XS} {H : Heap} {k : Nat} (hk : k < 4) {f : Nat → Int32} (h : va_P D vwCl ((uX a c (11 + k) (X (11 + k)) ++ restX a c X [11 + k]).set 1 (a (11 + k) 1, .inl (c 0, 40, .inl f))) H) : XP D a c (xs X (11 + k) (mr (X (11 + k)) 0 f)) H := by
  rw [g_setS a c _ f _ k hk] at h
  exact XP.back h
theorem g_atS (a : Nat → Nat → Nat) (c : Nat → ClassId) (σ : Mem) (R : va_W) : ∀ k, k < 4 → (uX a c (11 + k) σ ++ R)[1]? = some (a (11 + k) 1, .inl (c 0, 40, .inl (σ.1 0)))
  | 0, _ => rfl
  | 1, _ => rfl
  | 2, _ => rfl
  | 3, _ => rfl
  | k + 4, h => absurd h (by omega)
theorem g_memS (a : Nat → Nat → Nat) (c : Nat → ClassId) (σ : Mem) : ∀ k, k < 4 → ((a (11 + k) 1, .inl (c 0, 40, .inl (σ.1 0))) : Nat × va_E) ∈ uX a c (11 + k) σ
  | 0, _ => List.mem_cons_of_mem _ List.mem_cons_self
  | 1, _ => List.mem_cons_of_mem _ List.mem_cons_self
  | 2, _ => List.mem_cons_of_mem _ List.mem_cons_self
  | 3, _ => List.mem_cons_of_mem _ List.mem_cons_self
  | k + 4, h => absurd h (by omega)
