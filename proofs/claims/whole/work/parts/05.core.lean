/-! CORE: a contract's form for methods that make nothing; calls; small pure words -/
abbrev Mem : Type := (Nat → Nat → Int32) × (Nat → Nat → Int64)
def mr (σ : Mem) (k : Nat) (f : Nat → Int32) : Mem := (fun j => if j = k then f else σ.1 j, σ.2)
def mi (σ : Mem) (k i : Nat) (v : Int32) : Mem := mr σ k (upd (σ.1 k) i v)
def mrl (σ : Mem) (k : Nat) (f : Nat → Int64) : Mem := (σ.1, fun j => if j = k then f else σ.2 j)
def ml (σ : Mem) (k i : Nat) (v : Int64) : Mem := mrl σ k (vp_updL (σ.2 k) i v)
def b1 {α γ : Type} (m : Option α) (k : α → Option γ) : Option γ := match m with
  | some x => k x
  | none => none
def b2 {α β γ : Type} (m : Option (α × β)) (k : α → β → Option γ) : Option γ := match m with
  | some x => k x.1 x.2
  | none => none
def b3 {α β δ γ : Type} (m : Option (α × β × δ)) (k : α → β → δ → Option γ) : Option γ := match m with
  | some x => k x.1 x.2.1 x.2.2
  | none => none
def b4 {α β δ ε γ : Type} (m : Option (α × β × δ × ε)) (k : α → β → δ → ε → Option γ) : Option γ := match m with
  | some x => k x.1 x.2.1 x.2.2.1 x.2.2.2
  | none => none
def ckI {γ : Type} (i : Int32) (n : Nat) (k : Option γ) : Option γ := if i < 0 ∨ n ≤ i.toNatClampNeg then none else k
def ck0 {γ : Type} (y : Int32) (k : Option γ) : Option γ := if y = 0 then none else k
def ckZ {γ : Type} (v : Int32) (k : Option γ) : Option γ := if vp_nar .boolean v = v then k else none
def ckP {γ : Type} (c : Bool) (k : Option γ) : Option γ := if c = true then k else none
def lt {α γ : Type} (x : α) (k : α → Option γ) : Option γ := k x
theorem b1_i {α γ : Type} {m : Option α} {k : α → Option γ} {r : γ} (h : b1 m k = some r) : ∃ x, m = some x ∧ k x = some r := by
  cases m with
  | none => cases h
  | some x => exact ⟨x, rfl, h⟩
theorem b2_i {α β γ : Type} {m : Option (α × β)} {k : α → β → Option γ} {r : γ} (h : b2 m k = some r) : ∃ x y, m = some (x, y) ∧ k x y = some r := by
  cases m with
  | none => cases h
  | some x => exact ⟨x.1, x.2, rfl, h⟩
theorem b3_i {α β δ γ : Type} {m : Option (α × β × δ)} {k : α → β → δ → Option γ} {r : γ} (h : b3 m k = some r) : ∃ x y z, m = some (x, y, z) ∧ k x y z = some r := by
  cases m with
  | none => cases h
  | some x => exact ⟨x.1, x.2.1, x.2.2, rfl, h⟩
theorem b4_i {α β δ ε γ : Type} {m : Option (α × β × δ × ε)} {k : α → β → δ → ε → Option γ} {r : γ} (h : b4 m k = some r) : ∃ x y z u, m = some (x, y, z, u) ∧ k x y z u = some r := by
  cases m with
  | none => cases h
  | some x => exact ⟨x.1, x.2.1, x.2.2.1, x.2.2.2, rfl, h⟩
theorem ckI_i {γ : Type} {i : Int32} {n : Nat} {k : Option γ} {r : γ} (h : ckI i n k = some r) : vp_in i n ∧ k = some r := by
  unfold ckI at h
  by_cases c : i < 0 ∨ n ≤ i.toNatClampNeg
  · rw [if_pos c] at h; cases h
  · rw [if_neg c] at h; exact ⟨c, h⟩
theorem ck0_i {γ : Type} {y : Int32} {k : Option γ} {r : γ} (h : ck0 y k = some r) : ¬ y = 0 ∧ k = some r := by
  unfold ck0 at h
  by_cases c : y = 0
  · rw [if_pos c] at h; cases h
  · rw [if_neg c] at h; exact ⟨c, h⟩
theorem ckZ_i {γ : Type} {v : Int32} {k : Option γ} {r : γ} (h : ckZ v k = some r) : narrow .boolean (.int v) = .int v ∧ k = some r := by
  unfold ckZ at h
  by_cases c : vp_nar .boolean v = v
  · rw [if_pos c] at h
    refine ⟨?_, h⟩
    have e : narrow .boolean (.int v) = .int (vp_nar .boolean v) := rfl
    rw [e, c]
  · rw [if_neg c] at h; cases h
theorem ckP_i {γ : Type} {c : Bool} {k : Option γ} {r : γ} (h : ckP c k = some r) : c = true ∧ k = some r := by
  unfold ckP at h
  by_cases q : c = true
  · rw [if_pos q] at h; exact ⟨q, h⟩
  · rw [if_neg q] at h; cases h
theorem lt_i {α γ : Type} {x : α} {k : α → Option γ} {r : γ} (h : lt x k = some r) : ∃ y, y = x ∧ k y = some r := ⟨x, rfl, h⟩
theorem lt_e {α γ : Type} {x y : α} {k : α → Option γ} {r : γ} (e : y = x) (h : lt x k = some r) : k y = some r := by subst e; exact h
theorem g_nar {ty : FieldType} {v : Int32} (h : vp_nar ty v = v) (hty : narrow ty (.int v) = .int (vp_nar ty v)) : narrow ty (.int v) = .int v := by rw [hty, h]
theorem g_four {k : Nat} (h : k < 4) : k = 0 ∨ k = 1 ∨ k = 2 ∨ k = 3 := by omega
theorem g_inlt {i : Int32} {n : Nat} (h : vp_in i n) : i.toNatClampNeg < n := Nat.not_le.mp fun q => h (Or.inr q)
theorem it_t {α : Type} {c : Prop} {i : Decidable c} {a b : Option α} {r : α} (hc : c) (h : @ite (Option α) c i a b = some r) : a = some r := by rw [if_pos hc] at h; exact h
theorem it_f {α : Type} {c : Prop} {i : Decidable c} {a b : Option α} {r : α} (hc : ¬ c) (h : @ite (Option α) c i a b = some r) : b = some r := by rw [if_neg hc] at h; exact h
/-- what a method's environment owes: it goes with the frames, with warmer tables, with a heap that is alike outside of A -/
def gE (E : (Nat → Prop) → State → Prop) : Prop :=
  (∀ (A B : Nat → Prop) (s U : State) (H : Heap), E A s → (∀ q : Nat, q < s.heap.size → ¬ A q → H[q]? = s.heap[q]?) → U.heap = H → s.WarmedH U.vm → (∀ q, B q → A q) → E B U) ∧
  ∀ (A : Nat → Prop) (U : State) (g : JFrame) (mk : MethodId) (a : Array Value), E A U → E A (U.calling g mk a)
def gT : (Nat → Prop) → State → Prop := fun _ _ => True
theorem gT_ok : gE gT := ⟨fun _ _ _ _ _ _ _ _ _ _ => trivial, fun _ _ _ _ _ _ => trivial⟩
abbrev gP (D : va_G) (tys : List (ClassId × FieldType)) (E : (Nat → Prop) → State → Prop) (As : List Value) (w0 : va_W) (sz : Nat) : Array Value → State → Prop :=
  va_Pc As (fun U => U.heap.size = sz ∧ va_P D vwCl w0 U.heap ∧ va_K D vwCl tys U ∧ va_D (fun _ => True) w0 ∧ E (va_A w0 sz) U)
def gQ (D : va_G) (tys : List (ClassId × FieldType)) (rv : Option Value) (w0 w1 : va_W) (sz : Nat) : Array Value → State → Outcome → State → Prop :=
  fun _ st oc t => (oc = .returned rv ∧ va_P D vwCl w1 t.heap ∧ va_K D vwCl tys t ∧ va_D (va_A w0 sz) w1) ∧ va_F (va_A w0 sz) st t
def gM (l : Launch) (y : MethodName) (ws : List Cond) (rm : Room) (D : va_G) (tys : List (ClassId × FieldType)) (E : (Nat → Prop) → State → Prop) (As : List Value) (w0 : va_W) (rv : Option Value) (w1 : va_W) : Prop :=
  ∀ sz : Nat, Met l y ws rm (gP D tys E As w0 sz) (gQ D tys rv w0 w1 sz) 0 0 (va_A w0 sz)
/-- the head of a contract's proof, for any end -/
theorem gM.start {l : Launch} {y : MethodName} {ws ws' : List Cond} {rm : Room} {D : va_G} {tys : List (ClassId × FieldType)} {E : (Nat → Prop) → State → Prop} {As : List Value} {w0 w1 : va_W} {rv : Option Value} {cc : ByteArray} {maxL : Nat} {ret : Option FieldType}
    (hy : plainName y.cls = true) (hw : ws = Cond.code y cc maxL ret :: ws') (hlen : (lg_sl As).length ≤ maxL)
    (body : ∀ (p : Program) (e : Env) (s : State) (m : MethodId) (args : Array Value) (below : List Frame) (meth : Method) (c : Code), p.tables.exec = Jvm.exec → c.code = cc → c.maxLocals = maxL → meth.sig.returnType = ret → s.vm.findClass y.cls = some m.cls → (∀ w ∈ ws, w.before args s = true) → meth.locks = false →
      ∀ (A : Nat → Prop), (∀ q : Nat, s.heap.size ≤ q → A q) → ∀ (ls : Array Slot), lv_has ls maxL (lv_args 0 As) → va_P D vwCl w0 s.heap → va_K D vwCl tys s → va_D A w0 → va_S A s.heap s.heap [] → E A s →
      ∀ (Q : State → Prop), (∀ (H : Heap) (locs : List Loc), va_P D vwCl w1 H → va_D A w1 → va_S A s.heap H locs → (∀ t : State, t.heap = H → s.WarmedH t.vm → (fun (_ : Array Value) (st : State) (oc : Outcome) (t : State) => (oc = .returned rv ∧ va_P D vwCl w1 t.heap ∧ va_K D vwCl tys t ∧ va_D A w1) ∧ va_F A st t) args s (.returned rv) t) ∧ (∀ q ∈ locs, A q.base) ∧ Q = MQ below (fun (_ : Array Value) (st : State) (oc : Outcome) (t : State) => (oc = .returned rv ∧ va_P D vwCl w1 t.heap ∧ va_K D vwCl tys t ∧ va_D A w1) ∧ va_F A st t) args s 0 0 A) →
      W p l e rm s m args below meth c s.heap [] 0 0 Q (F0 m 0 ls [])) : gM l y ws rm D tys E As w0 rv w1 := by
  intro sz
  refine Met.ofW (cc := cc) (maxL := maxL) (ret := ret) hy hw ?_
  intro p e s m args below meth c s₁ B hml hv
  obtain ⟨rfl, hsz, hP, hK, hD0, hE⟩ := hv
  have hts := atoms_spec (ws := ws) B.pre
  have hown : s.vm.findClass y.cls = some m.cls := findClass_of_methodNamed B.named
  subst hsz
  have hD := hD0.self (sz := s.heap.size)
  unfold gQ
  generalize hAe : va_A w0 s.heap.size = A at hD hE ⊢
  have hA : ∀ q : Nat, s.heap.size ≤ q → A q := fun q h => by rw [← hAe]; exact Or.inr h
  have hl := lv_entry As (n := maxL) hlen
  rw [lg_entry_eq]
  generalize (lg_sl As ++ List.replicate (maxL - (lg_sl As).length) Slot.unset).toArray = ls at hl ⊢
  refine body p e s m As.toArray below meth c B.exec B.bytes hml B.returns hown hts B.notSynchronized A hA ls hl hP hK hD va_S.rf hE _ ?_
  intro H locs hP1 hD1 hS1
  exact ⟨fun t ht hW => ⟨⟨rfl, by rw [ht]; exact hP1, va_K.moved hW.alike hK, hD1⟩, hS1.F ht⟩, hS1.2.2, rfl⟩
theorem gM.I {l : Launch} {y : MethodName} {ws ws' : List Cond} {rm : Room} {D : va_G} {tys : List (ClassId × FieldType)} {E : (Nat → Prop) → State → Prop} {As : List Value} {w0 w1 : va_W} {rv : Option Value} {cc : ByteArray} {maxL : Nat} {ty : FieldType}
    (hy : plainName y.cls = true) (hw : ws = Cond.code y cc maxL (some ty) :: ws') (hlen : (lg_sl As).length ≤ maxL)
    (body : ∀ (p : Program) (e : Env) (s : State) (m : MethodId) (args : Array Value) (below : List Frame) (meth : Method) (c : Code), p.tables.exec = Jvm.exec → c.code = cc → c.maxLocals = maxL → s.vm.findClass y.cls = some m.cls → (∀ w ∈ ws, w.before args s = true) →
      ∀ (A : Nat → Prop), (∀ q : Nat, s.heap.size ≤ q → A q) → ∀ (ls : Array Slot), lv_has ls maxL (lv_args 0 As) → va_P D vwCl w0 s.heap → va_K D vwCl tys s → va_D A w0 → va_S A s.heap s.heap [] → E A s →
      ∀ (Q : State → Prop), (∀ (v : Int32) (H : Heap) (locs : List Loc) (pc : Nat) (ls : Array Slot), some (Value.int v) = rv → narrow ty (.int v) = .int v → va_P D vwCl w1 H → va_D A w1 → va_S A s.heap H locs → decode cc pc = .ok (.ireturn, 1) → W p l e rm s m args below meth c H locs 0 0 Q (F0 m pc ls [.int v])) →
      W p l e rm s m args below meth c s.heap [] 0 0 Q (F0 m 0 ls [])) : gM l y ws rm D tys E As w0 rv w1 := by
  refine gM.start hy hw hlen ?_
  intro p e s m args below meth c hx hb hml hr hown hts hlocks A hA ls hl hP hK hD hS hE Q hQ
  refine body p e s m args below meth c hx hb hml hown hts A hA ls hl hP hK hD hS hE Q ?_
  intro v H locs pc ls hv hn hP1 hD1 hS1 hdg
  obtain ⟨h1, h2, h3⟩ := hQ H locs hP1 hD1 hS1
  rw [h3]
  subst hv
  exact W.zret hx hb hr hn h1 h2 hdg
theorem gM.L {l : Launch} {y : MethodName} {ws ws' : List Cond} {rm : Room} {D : va_G} {tys : List (ClassId × FieldType)} {E : (Nat → Prop) → State → Prop} {As : List Value} {w0 w1 : va_W} {rv : Option Value} {cc : ByteArray} {maxL : Nat}
    (hy : plainName y.cls = true) (hw : ws = Cond.code y cc maxL (some .long) :: ws') (hlen : (lg_sl As).length ≤ maxL)
    (body : ∀ (p : Program) (e : Env) (s : State) (m : MethodId) (args : Array Value) (below : List Frame) (meth : Method) (c : Code), p.tables.exec = Jvm.exec → c.code = cc → c.maxLocals = maxL → s.vm.findClass y.cls = some m.cls → (∀ w ∈ ws, w.before args s = true) →
      ∀ (A : Nat → Prop), (∀ q : Nat, s.heap.size ≤ q → A q) → ∀ (ls : Array Slot), lv_has ls maxL (lv_args 0 As) → va_P D vwCl w0 s.heap → va_K D vwCl tys s → va_D A w0 → va_S A s.heap s.heap [] → E A s →
      ∀ (Q : State → Prop), (∀ (v : Int64) (H : Heap) (locs : List Loc) (pc : Nat) (ls : Array Slot), some (Value.long v) = rv → va_P D vwCl w1 H → va_D A w1 → va_S A s.heap H locs → decode cc pc = .ok (.lreturn, 1) → W p l e rm s m args below meth c H locs 0 0 Q (F0 m pc ls [.long v])) →
      W p l e rm s m args below meth c s.heap [] 0 0 Q (F0 m 0 ls [])) : gM l y ws rm D tys E As w0 rv w1 := by
  refine gM.start hy hw hlen ?_
  intro p e s m args below meth c hx hb hml hr hown hts hlocks A hA ls hl hP hK hD hS hE Q hQ
  refine body p e s m args below meth c hx hb hml hown hts A hA ls hl hP hK hD hS hE Q ?_
  intro v H locs pc ls hv hP1 hD1 hS1 hdg
  obtain ⟨h1, h2, h3⟩ := hQ H locs hP1 hD1 hS1
  rw [h3]
  subst hv
  exact W.lret hx hb hr h1 h2 hdg
theorem gM.V {l : Launch} {y : MethodName} {ws ws' : List Cond} {rm : Room} {D : va_G} {tys : List (ClassId × FieldType)} {E : (Nat → Prop) → State → Prop} {As : List Value} {w0 w1 : va_W} {cc : ByteArray} {maxL : Nat}
    (hy : plainName y.cls = true) (hw : ws = Cond.code y cc maxL none :: ws') (hlen : (lg_sl As).length ≤ maxL)
    (body : ∀ (p : Program) (e : Env) (s : State) (m : MethodId) (args : Array Value) (below : List Frame) (meth : Method) (c : Code), p.tables.exec = Jvm.exec → c.code = cc → c.maxLocals = maxL → s.vm.findClass y.cls = some m.cls → (∀ w ∈ ws, w.before args s = true) →
      ∀ (A : Nat → Prop), (∀ q : Nat, s.heap.size ≤ q → A q) → ∀ (ls : Array Slot), lv_has ls maxL (lv_args 0 As) → va_P D vwCl w0 s.heap → va_K D vwCl tys s → va_D A w0 → va_S A s.heap s.heap [] → E A s →
      ∀ (Q : State → Prop), (∀ (H : Heap) (locs : List Loc) (pc : Nat) (ls : Array Slot), va_P D vwCl w1 H → va_D A w1 → va_S A s.heap H locs → decode cc pc = .ok (.return_, 1) → W p l e rm s m args below meth c H locs 0 0 Q (F0 m pc ls [])) →
      W p l e rm s m args below meth c s.heap [] 0 0 Q (F0 m 0 ls [])) : gM l y ws rm D tys E As w0 none w1 := by
  refine gM.start hy hw hlen ?_
  intro p e s m args below meth c hx hb hml hr hown hts hlocks A hA ls hl hP hK hD hS hE Q hQ
  refine body p e s m args below meth c hx hb hml hown hts A hA ls hl hP hK hD hS hE Q ?_
  intro H locs pc ls hP1 hD1 hS1 hdg
  obtain ⟨h1, h2, h3⟩ := hQ H locs hP1 hD1 hS1
  rw [h3]
  exact W.vret hx hb hr h1 h2 hdg
theorem gM.A {l : Launch} {y : MethodName} {ws ws' : List Cond} {rm : Room} {D : va_G} {tys : List (ClassId × FieldType)} {E : (Nat → Prop) → State → Prop} {As : List Value} {w0 w1 : va_W} {rv : Option Value} {cc : ByteArray} {maxL : Nat} {ty : FieldType}
    (hy : plainName y.cls = true) (hw : ws = Cond.code y cc maxL (some ty) :: ws') (hlen : (lg_sl As).length ≤ maxL) (hrt : (∃ n, ty = .object n) ∨ ∃ t, ty = .array t)
    (body : ∀ (p : Program) (e : Env) (s : State) (m : MethodId) (args : Array Value) (below : List Frame) (meth : Method) (c : Code), p.tables.exec = Jvm.exec → c.code = cc → c.maxLocals = maxL → s.vm.findClass y.cls = some m.cls → (∀ w ∈ ws, w.before args s = true) →
      ∀ (A : Nat → Prop), (∀ q : Nat, s.heap.size ≤ q → A q) → ∀ (ls : Array Slot), lv_has ls maxL (lv_args 0 As) → va_P D vwCl w0 s.heap → va_K D vwCl tys s → va_D A w0 → va_S A s.heap s.heap [] → E A s →
      ∀ (Q : State → Prop), (∀ (a : Nat) (H : Heap) (locs : List Loc) (pc : Nat) (ls : Array Slot), some (Value.ref a) = rv → va_P D vwCl w1 H → va_D A w1 → va_S A s.heap H locs → decode cc pc = .ok (.areturn, 1) → W p l e rm s m args below meth c H locs 0 0 Q (F0 m pc ls [.ref a])) →
      W p l e rm s m args below meth c s.heap [] 0 0 Q (F0 m 0 ls [])) : gM l y ws rm D tys E As w0 rv w1 := by
  refine gM.start hy hw hlen ?_
  intro p e s m args below meth c hx hb hml hr hown hts hlocks A hA ls hl hP hK hD hS hE Q hQ
  refine body p e s m args below meth c hx hb hml hown hts A hA ls hl hP hK hD hS hE Q ?_
  intro a H locs pc ls hv hP1 hD1 hS1 hdg
  obtain ⟨h1, h2, h3⟩ := hQ H locs hP1 hD1 hS1
  rw [h3]
  subst hv
  exact W.aret hx hb hr hrt (Or.inr ⟨a, rfl⟩) h1 h2 hdg
theorem gE.tr {E : (Nat → Prop) → State → Prop} (hG : gE E) {A B : Nat → Prop} {s : State} {H : Heap} {locs : List Loc} (hE : E A s) (hS : va_S A s.heap H locs) (hB : ∀ q, B q → A q) : ∀ U : State, U.heap = H → s.WarmedH U.vm → E B U :=
  fun U h1 h2 => hG.1 A B s U H hE hS.2.1 h1 h2 hB
theorem g_free {A : Nat → Prop} {ws : va_W} {H0 H : Heap} {locs : List Loc} (hD : va_D A ws) (hS : va_S A H0 H locs) (hA : ∀ q : Nat, H0.size ≤ q → A q) : ∀ q, va_A ws H.size q → A q := by
  intro q h
  rcases h with ⟨k, e, h⟩ | h
  · exact hD.2 k (q, e) h
  · exact hA q (Nat.le_trans hS.1 h)
theorem g_free0 {A : Nat → Prop} {H0 H : Heap} {locs : List Loc} (hS : va_S A H0 H locs) (hA : ∀ q : Nat, H0.size ≤ q → A q) : ∀ q, va_A [] H.size q → A q := by
  intro q h
  rcases h with ⟨k, e, h⟩ | h
  · simp at h
  · exact hA q (Nat.le_trans hS.1 h)
theorem g_P0 {D : va_G} {H : Heap} : va_P D vwCl [] H := fun k q h => by simp at h
theorem g_D0 {A : Nat → Prop} : va_D A [] := ⟨fun i j p q h => by simp at h, fun k q h => by simp at h⟩
theorem g_cutP {D : va_G} {ws w0 : va_W} {H : Heap} (hP : va_P D vwCl ws H) (isC : List Nat) (hC : isC.map (fun i => ws[i]?) = w0.map some) : va_P D vwCl w0 H := by
  refine hP.sub isC ?_
  have h : ∀ (l : List Nat) (w : va_W), l.map (fun i => ws[i]?) = w.map some → l.filterMap (fun i => ws[i]?) = w := by
    intro l
    induction l with
    | nil =>
      intro w h
      cases w with
      | nil => rfl
      | cons _ _ => simp at h
    | cons i l ih =>
      intro w h
      cases w with
      | nil => simp at h
      | cons x w =>
        simp only [List.map_cons, List.cons.injEq] at h
        rw [List.filterMap_cons, h.1, ih w h.2]
  exact h isC w0 hC
section GCALL
variable {p : Program} {l : Launch} {e : Env} {R : Room} {s : State} {m : MethodId} {args : Array Value} {below : List Frame} {meth : Method} {c : Code} {H : Heap} {locs : List Loc} {cells slots : Nat} {Q : State → Prop}
  {Ts ws ws' : List Cond} {cc bytes : ByteArray} {nL maxL index n : Nat} {own C : String} {y : MethodName} {ret : Option FieldType} {rm : Room} {D : va_G} {tys : List (ClassId × FieldType)} {E : (Nat → Prop) → State → Prop} {As rest : List Value} {w0 w1 : va_W} {rv : Option Value} {b : Nat} {pc : Nat} {ls : Array Slot} {A : Nat → Prop}
theorem gr_pre {As0 : List Value} (hB : gE E) (hP : va_P D vwCl w0 H) (hD : va_D A w0) (hK : va_K D vwCl tys s) (hE : ∀ U : State, U.heap = H → s.WarmedH U.vm → E (va_A w0 H.size) U) :
    FrameBlind (gP D tys E As0 w0 H.size) ∧ ∀ U : State, U.heap = H → s.WarmedH U.vm → gP D tys E As0 w0 H.size As0.toArray U :=
  ⟨fun a U g mk q => ⟨q.1, q.2.1, q.2.2.1, va_K.moved (u := U) (U := U.calling g mk a) (Vm.Alike.refl U.vm) q.2.2.2.1, q.2.2.2.2.1, hB.2 _ U g mk a q.2.2.2.2.2⟩,
   fun U hU hW => ⟨rfl, by rw [hU], by rw [hU]; exact hP, va_K.moved hW.alike hK, hD.weaken (fun _ _ _ _ => trivial), hE U hU hW⟩⟩
theorem gr_V (hx : p.tables.exec = Jvm.exec) (hb : c.code = cc) (hml : c.maxLocals = nL) (hown : s.vm.findClass own = some m.cls) (hts : ∀ w ∈ Ts, w.before args s = true)
    (hM : gM l y ws rm D tys E (.ref b :: As) w0 rv w1) (hT : GoodIn Ts (wsV own index C y ws)) (hw : ws = Cond.code y bytes maxL ret :: ws') (hrc : rm.cells = 0) (hrs : rm.slots = 0)
    (hd : y.cls = C ∧ y.cls ≠ "java/lang/invoke/MethodHandle" ∧ y.cls ≠ "java/lang/invoke/VarHandle" ∧ (parseMethodDescriptor y.desc).map (fun d => d.parameters.length) = some n) (hn : As.length = n)
    (hR : rm.frames + 1 ≤ R.frames ∧ 8 + (maxL + 11) + rm.locals ≤ R.locals) (hcell : cells ≤ R.cells ∧ slots ≤ R.slots)
    (q0 ci : Nat) {fs : List Value} {qc : vw_C} (he : w0[q0]? = some (b, .inr (ci, fs))) (hcl : vwCl[ci]? = some qc) (hqc : qc.1 = C)
    (hB : gE E) (hP : va_P D vwCl w0 H) (hD : va_D A w0) (hK : va_K D vwCl tys s) (hE : ∀ U : State, U.heap = H → s.WarmedH U.vm → E (va_A w0 H.size) U) (hsize : ls.size = nL) (hcat : (rest.map fun v => v.category).sum ≤ 8) (hdg : decode cc pc = .ok (.invokevirtual index, 3)) {st0 : List Value} (hst : st0 = As.reverse ++ .ref b :: rest) :
    va_Run p l e R s m args below meth c H locs cells slots 0 0 (F0 m pc ls st0) rest (gQ D tys rv w0 w1 H.size (Value.ref b :: As).toArray) (va_A w0 H.size) := by
  subst hst; subst hqc
  have hp := gr_pre (As0 := .ref b :: As) hB hP hD hK hE
  exact va_runV (As := As) (rest := rest) ⟨hx, hb, hml, hown, hts⟩ (hM H.size) (cwV n hts hT hw hrc hrs hd hR) ⟨hp.1, va_recv hK hP hcl he, hp.2⟩ rfl hn hsize rfl (lv_room hcat) hdg hcell
/-- a call on a cell that isn't of the world -/
theorem gr_Vr (hx : p.tables.exec = Jvm.exec) (hb : c.code = cc) (hml : c.maxLocals = nL) (hown : s.vm.findClass own = some m.cls) (hts : ∀ w ∈ Ts, w.before args s = true)
    (hM : gM l y ws rm D tys E (.ref b :: As) w0 rv w1) (hT : GoodIn Ts (wsV own index C y ws)) (hw : ws = Cond.code y bytes maxL ret :: ws') (hrc : rm.cells = 0) (hrs : rm.slots = 0)
    (hd : y.cls = C ∧ y.cls ≠ "java/lang/invoke/MethodHandle" ∧ y.cls ≠ "java/lang/invoke/VarHandle" ∧ (parseMethodDescriptor y.desc).map (fun d => d.parameters.length) = some n) (hn : As.length = n)
    (hR : rm.frames + 1 ≤ R.frames ∧ 8 + (maxL + 11) + rm.locals ≤ R.locals) (hcell : cells ≤ R.cells ∧ slots ≤ R.slots)
    (hrec : ∃ cell : Cell, H[b]? = some cell ∧ cell.vm.isStatics = false ∧ s.vm.findClass C = some cell.cls)
    (hB : gE E) (hP : va_P D vwCl w0 H) (hD : va_D A w0) (hK : va_K D vwCl tys s) (hE : ∀ U : State, U.heap = H → s.WarmedH U.vm → E (va_A w0 H.size) U) (hsize : ls.size = nL) (hcat : (rest.map fun v => v.category).sum ≤ 8) (hdg : decode cc pc = .ok (.invokevirtual index, 3)) {st0 : List Value} (hst : st0 = As.reverse ++ .ref b :: rest) :
    va_Run p l e R s m args below meth c H locs cells slots 0 0 (F0 m pc ls st0) rest (gQ D tys rv w0 w1 H.size (Value.ref b :: As).toArray) (va_A w0 H.size) := by
  subst hst
  have hp := gr_pre (As0 := .ref b :: As) hB hP hD hK hE
  exact va_runV (As := As) (rest := rest) ⟨hx, hb, hml, hown, hts⟩ (hM H.size) (cwV n hts hT hw hrc hrs hd hR) ⟨hp.1, hrec, hp.2⟩ rfl hn hsize rfl (lv_room hcat) hdg hcell
theorem gr_S (hx : p.tables.exec = Jvm.exec) (hb : c.code = cc) (hml : c.maxLocals = nL) (hown : s.vm.findClass own = some m.cls) (hts : ∀ w ∈ Ts, w.before args s = true)
    (hM : gM l y ws rm D tys E As w0 rv w1) (hT : GoodIn Ts (va_wsS own index y ws)) (hw : ws = Cond.code y bytes maxL ret :: ws') (hrc : rm.cells = 0) (hrs : rm.slots = 0)
    (hd : y.cls ≠ "java/lang/invoke/MethodHandle" ∧ y.cls ≠ "java/lang/invoke/VarHandle" ∧ (parseMethodDescriptor y.desc).map (fun d => d.parameters.length) = some n) (hn : As.length = n)
    (hR : rm.frames + 1 ≤ R.frames ∧ 8 + (maxL + 11) + rm.locals ≤ R.locals) (hcell : cells ≤ R.cells ∧ slots ≤ R.slots)
    (hB : gE E) (hP : va_P D vwCl w0 H) (hD : va_D A w0) (hK : va_K D vwCl tys s) (hE : ∀ U : State, U.heap = H → s.WarmedH U.vm → E (va_A w0 H.size) U) (hsize : ls.size = nL) (hcat : (rest.map fun v => v.category).sum ≤ 8) (hdg : decode cc pc = .ok (.invokestatic index, 3)) {st0 : List Value} (hst : st0 = As.reverse ++ rest) :
    va_Run p l e R s m args below meth c H locs cells slots 0 0 (F0 m pc ls st0) rest (gQ D tys rv w0 w1 H.size As.toArray) (va_A w0 H.size) := by
  subst hst
  have hp := gr_pre (As0 := As) hB hP hD hK hE
  exact va_runS (As := As) (rest := rest) ⟨hx, hb, hml, hown, hts⟩ (hM H.size) (va_cwS n hts hT hw hrc hrs hd hR) ⟨hp.1, hp.2⟩ rfl hn hsize rfl (lv_room hcat) hdg hcell
theorem gr_SN {host : String} (hx : p.tables.exec = Jvm.exec) (hb : c.code = cc) (hml : c.maxLocals = nL) (hown : s.vm.findClass own = some m.cls) (hts : ∀ w ∈ Ts, w.before args s = true)
    (hM : gM l y ws rm D tys E As w0 rv w1) (hT : GoodIn Ts ws) (hw : ws = Cond.code y bytes maxL ret :: ws') (hrc : rm.cells = 0) (hrs : rm.slots = 0) (hl : va_Nw (.methodLinkNest own index y host) s) (hini : (Cond.initialized y.cls).before args s = true) (hstat : (Cond.static y).before args s = true)
    (hd : y.cls ≠ "java/lang/invoke/MethodHandle" ∧ y.cls ≠ "java/lang/invoke/VarHandle" ∧ (parseMethodDescriptor y.desc).map (fun d => d.parameters.length) = some n) (hn : As.length = n)
    (hR : rm.frames + 1 ≤ R.frames ∧ 8 + (maxL + 11) + rm.locals ≤ R.locals) (hcell : cells ≤ R.cells ∧ slots ≤ R.slots)
    (hB : gE E) (hP : va_P D vwCl w0 H) (hD : va_D A w0) (hK : va_K D vwCl tys s) (hE : ∀ U : State, U.heap = H → s.WarmedH U.vm → E (va_A w0 H.size) U) (hsize : ls.size = nL) (hcat : (rest.map fun v => v.category).sum ≤ 8) (hdg : decode cc pc = .ok (.invokestatic index, 3)) {st0 : List Value} (hst : st0 = As.reverse ++ rest) :
    va_Run p l e R s m args below meth c H locs cells slots 0 0 (F0 m pc ls st0) rest (gQ D tys rv w0 w1 H.size As.toArray) (va_A w0 H.size) := by
  subst hst
  have hp := gr_pre (As0 := As) hB hP hD hK hE
  exact va_runSN (As := As) (rest := rest) ⟨hx, hb, hml, hown, hts⟩ (hM H.size) ⟨va_cnB n hts hT hw hrc hrs hl hini hd hR, hstat, trivial⟩ ⟨hp.1, hp.2⟩ rfl hn hsize rfl (lv_room hcat) hdg hcell
/-- behind a call: any part of the world, put back in any order -/
theorem g_sub {H0 : Heap} {wsW wr wn : va_W} {a : Array Value} {st0 : List Value} (hr : va_Run p l e R s m args below meth c H locs cells slots 0 0 (F0 m pc ls st0) rest (gQ D tys rv w0 w1 H.size a) (va_A w0 H.size)) (hP : va_P D vwCl wsW H) (hD : va_D A wsW) (hS : va_S A H0 H locs) (hA : ∀ q : Nat, H0.size ≤ q → A q)
    (isC isR is : List Nat) (hC : isC.map (fun i => wsW[i]?) = w0.map some) (hRr : isR.map (fun i => wsW[i]?) = wr.map some) (hnd : va_nd isR = true) (hdis : isR.all (fun i => decide (i ∉ isC)) = true) (hnd2 : va_nd is = true) (hwn : is.map (fun i => (wr ++ w1)[i]?) = wn.map some)
    {st1 : List Value} (hst1 : rv.toList ++ rest = st1)
    (kk : ∀ (H1 : Heap) (locs1 : List Loc), va_P D vwCl wn H1 → va_D A wn → va_S A H0 H1 locs1 → W p l e R s m args below meth c H1 locs1 cells slots Q (F0 m (pc + 3) ls st1)) : W p l e R s m args below meth c H locs cells slots Q (F0 m pc ls st0) := by
  subst hst1
  have hF : ∀ q, va_A w0 H.size q → A q := va_free hD hS hA isC hC
  have hdis' : ∀ i ∈ isR, i ∉ isC := fun i hi => of_decide_eq_true (List.all_eq_true.mp hdis i hi)
  intro T hT X
  obtain ⟨v, st₀, t, T', L, h0, X', hL, e1, e2, ⟨⟨hv, hP1, hK1, hD1⟩, hz, hk⟩, st⟩ := hr T hT X
  cases hv
  rw [h0] at hz hk
  have hj := va_join (wr := wr) (w1 := w1) hP hD isC isR hC hRr hnd hdis' (H1 := T'.heap) (fun q h1 h2 => by rw [e1]; exact hk q h1 h2) hF (by rw [e1]; exact hP1) hD1
  have hPn : va_P D vwCl wn T'.heap := g_cutP hj.1 is hwn
  have hDn : va_D A wn := hj.2.sub is hnd2 hwn
  obtain ⟨t2, a1, b1⟩ := kk T'.heap (locs ++ L) hPn hDn
    ⟨Nat.le_trans hS.1 (by rw [e1]; exact hz), fun q h1 h2 => by rw [e1, hk q (Nat.lt_of_lt_of_le h1 hS.1) (fun z => h2 (hF q z))]; exact hS.2.1 q h1 h2, fun q hq => by
      rcases List.mem_append.mp hq with h | h
      · exact hS.2.2 q h
      · exact hF _ (hL q h)⟩ T' rfl X'
  exact ⟨t2, st t2 a1, b1⟩
/-- behind a call over the whole world -/
theorem g_all {H0 : Heap} {a : Array Value} {st0 : List Value} (hr : va_Run p l e R s m args below meth c H locs cells slots 0 0 (F0 m pc ls st0) rest (gQ D tys rv w0 w1 H.size a) (va_A w0 H.size)) (hD : va_D A w0) (hS : va_S A H0 H locs) (hA : ∀ q : Nat, H0.size ≤ q → A q)
    {st1 : List Value} (hst1 : rv.toList ++ rest = st1)
    (kk : ∀ (H1 : Heap) (locs1 : List Loc), va_P D vwCl w1 H1 → va_D A w1 → va_S A H0 H1 locs1 → W p l e R s m args below meth c H1 locs1 cells slots Q (F0 m (pc + 3) ls st1)) : W p l e R s m args below meth c H locs cells slots Q (F0 m pc ls st0) := by
  subst hst1
  have hF : ∀ q, va_A w0 H.size q → A q := g_free hD hS hA
  intro T hT X
  obtain ⟨v, st₀, t, T', L, h0, X', hL, e1, e2, ⟨⟨hv, hP1, hK1, hD1⟩, hz, hk⟩, st⟩ := hr T hT X
  cases hv
  rw [h0] at hz hk
  obtain ⟨t2, a1, b1⟩ := kk T'.heap (locs ++ L) (by rw [e1]; exact hP1) (hD1.weaken (fun k q _ h => hF q.1 h))
    ⟨Nat.le_trans hS.1 (by rw [e1]; exact hz), fun q h1 h2 => by rw [e1, hk q (Nat.lt_of_lt_of_le h1 hS.1) (fun z => h2 (hF q z))]; exact hS.2.1 q h1 h2, fun q hq => by
      rcases List.mem_append.mp hq with h | h
      · exact hS.2.2 q h
      · exact hF _ (hL q h)⟩ T' rfl X'
  exact ⟨t2, st t2 a1, b1⟩
/-- behind a call without a world -/
theorem g_none {H0 : Heap} {wsW : va_W} {a : Array Value} {st0 : List Value} (hr : va_Run p l e R s m args below meth c H locs cells slots 0 0 (F0 m pc ls st0) rest (gQ D tys rv [] [] H.size a) (va_A [] H.size)) (hP : va_P D vwCl wsW H) (hS : va_S A H0 H locs) (hA : ∀ q : Nat, H0.size ≤ q → A q)
    {st1 : List Value} (hst1 : rv.toList ++ rest = st1)
    (kk : ∀ (H1 : Heap) (locs1 : List Loc), va_P D vwCl wsW H1 → va_S A H0 H1 locs1 → W p l e R s m args below meth c H1 locs1 cells slots Q (F0 m (pc + 3) ls st1)) : W p l e R s m args below meth c H locs cells slots Q (F0 m pc ls st0) := by
  subst hst1
  have hF : ∀ q, va_A [] H.size q → A q := g_free0 hS hA
  intro T hT X
  obtain ⟨v, st₀, t, T', L, h0, X', hL, e1, e2, ⟨⟨hv, hP1, hK1, hD1⟩, hz, hk⟩, st⟩ := hr T hT X
  cases hv
  rw [h0] at hz hk
  have hno : ∀ q : Nat, q < H.size → ¬ va_A [] H.size q := by
    intro q hq h
    rcases h with ⟨k, e, h⟩ | h
    · simp at h
    · omega
  obtain ⟨t2, a1, b1⟩ := kk T'.heap (locs ++ L) (by rw [e1]; exact hP.kept (fun k q hq => hk q.1 ((hP k q hq).lt) (hno _ ((hP k q hq).lt))))
    ⟨Nat.le_trans hS.1 (by rw [e1]; exact hz), fun q h1 h2 => by rw [e1, hk q (Nat.lt_of_lt_of_le h1 hS.1) (fun z => h2 (hF q z))]; exact hS.2.1 q h1 h2, fun q hq => by
      rcases List.mem_append.mp hq with h | h
      · exact hS.2.2 q h
      · exact hF _ (hL q h)⟩ T' rfl X'
  exact ⟨t2, st t2 a1, b1⟩
/-- an item of an array of references -/
theorem g_aald {a : Nat} {wsW : va_W} (hx : p.tables.exec = Jvm.exec) (hb : c.code = cc) (hK : va_K D vwCl tys s) (hP : va_P D vwCl wsW H) (q0 t0 : Nat) {cA : ClassId} {C : String} {n : Nat} {f : Nat → Option Nat} (ha : wsW[q0]? = some (a, .inl (cA, n, .inr (.inr (.inr (.inr f)))))) (ht : tys[t0]? = some (cA, .object C)) {i : Int32} (hin : vp_in i n) {k v : Nat} (hk : k = i.toNatClampNeg) (hv : f k = some v) (hdg : decode cc pc = .ok (.aaload, 1))
    (kk : W p l e R s m args below meth c H locs cells slots Q (F0 m (pc + 1) ls (.ref v :: rest))) : W p l e R s m args below meth c H locs cells slots Q (F0 m pc ls (.int i :: .ref a :: rest)) := by
  subst hk
  refine va_aldq hx hb hK hP q0 t0 ha ht hin hdg ?_
  rw [hv]
  exact kk
end GCALL
