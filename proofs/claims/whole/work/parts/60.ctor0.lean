/-! CONSTRUCTORS: a contract's form for what makes an object's cells -/
def gQn {α : Type} (D : va_G) (tys : List (ClassId × FieldType)) (w : α → va_W) (hd : α → Nat) (h0 : Nat) (w0 : va_W) (sz : Nat) : Array Value → State → Outcome → State → Prop :=
  fun _ st oc t => (oc = .returned none ∧ ∃ a : α, hd a = h0 ∧ va_P D vwCl (w a) t.heap ∧ va_K D vwCl tys t ∧ va_D (va_A w0 sz) (w a)) ∧ va_F (va_A w0 sz) st t
def gN {α : Type} (l : Launch) (y : MethodName) (ws : List Cond) (rm : Room) (D : va_G) (tys : List (ClassId × FieldType)) (E : (Nat → Prop) → State → Prop) (h0 : Nat) (w0 : va_W) (w : α → va_W) (hd : α → Nat) (mc ms : Nat) : Prop :=
  ∀ sz : Nat, Met l y ws rm (gP D tys E [.ref h0] w0 sz) (gQn D tys w hd h0 w0 sz) mc ms (va_A w0 sz)
theorem gN.start {α : Type} {l : Launch} {y : MethodName} {ws ws' : List Cond} {rm : Room} {D : va_G} {tys : List (ClassId × FieldType)} {E : (Nat → Prop) → State → Prop} {h0 : Nat} {w0 : va_W} {w : α → va_W} {hd : α → Nat} {mc ms : Nat} {cc : ByteArray} {maxL : Nat}
    (hy : plainName y.cls = true) (hw : ws = Cond.code y cc maxL none :: ws') (hlen : 1 ≤ maxL) (hyn : y.name = "<init>")
    (body : ∀ (p : Program) (e : Env) (s : State) (m : MethodId) (args : Array Value) (below : List Frame) (meth : Method) (c : Code), p.tables.exec = Jvm.exec → c.code = cc → c.maxLocals = maxL → s.vm.findClass y.cls = some m.cls → (∀ w ∈ ws, w.before args s = true) → meth.name = "<init>" →
      ∀ (A : Nat → Prop), (∀ q : Nat, s.heap.size ≤ q → A q) → ∀ (ls : Array Slot), lv_has ls maxL [(0, .ref h0)] → va_P D vwCl w0 s.heap → va_K D vwCl tys s → va_D A w0 → va_S A s.heap s.heap [] → E A s →
      ∀ (Q : State → Prop), (∀ (a : α) (H : Heap) (locs : List Loc) (pc : Nat) (ls : Array Slot), hd a = h0 → va_P D vwCl (w a) H → va_D A (w a) → va_S A s.heap H locs → decode cc pc = .ok (.return_, 1) → W p l e rm s m args below meth c H locs mc ms Q (F0 m pc ls [])) →
      W p l e rm s m args below meth c s.heap [] 0 0 Q (F0 m 0 ls [])) : gN l y ws rm D tys E h0 w0 w hd mc ms := by
  intro sz
  refine Met.ofW (cc := cc) (maxL := maxL) (ret := none) hy hw ?_
  intro p e s m args below meth c s₁ B hml hv
  obtain ⟨rfl, hsz, hP, hK, hD0, hE⟩ := hv
  have hts := atoms_spec (ws := ws) B.pre
  have hown : s.vm.findClass y.cls = some m.cls := findClass_of_methodNamed B.named
  have hin : meth.name = "<init>" := (name_of_methodNamed B.named B.method).1.trans hyn
  subst hsz
  have hD := hD0.self (sz := s.heap.size)
  unfold gQn
  generalize hAe : va_A w0 s.heap.size = A at hD hE ⊢
  have hA : ∀ q : Nat, s.heap.size ≤ q → A q := fun q h => by rw [← hAe]; exact Or.inr h
  have hl := lv_entry ([.ref h0]) (n := maxL) hlen
  rw [lg_entry_eq]
  generalize (lg_sl ([.ref h0]) ++ List.replicate (maxL - (lg_sl ([.ref h0])).length) Slot.unset).toArray = ls at hl ⊢
  have hl : lv_has ls maxL [(0, .ref h0)] := hl
  refine body p e s m _ below meth c B.exec B.bytes hml hown hts hin A hA ls hl hP hK hD va_S.rf hE _ ?_
  intro a H locs pc ls ha hP1 hD1 hS1 hdg
  have hlocks := B.notSynchronized
  exact W.vret B.exec B.bytes B.returns (fun t ht hW => ⟨⟨rfl, a, ha, by rw [ht]; exact hP1, va_K.moved hW.alike hK, hD1⟩, hS1.F ht⟩) hS1.2.2 hdg
section GNEW
variable {p : Program} {l : Launch} {e : Env} {R : Room} {s : State} {m : MethodId} {args : Array Value} {below : List Frame} {meth : Method} {c : Code} {H : Heap} {locs : List Loc} {cells slots : Nat} {Q : State → Prop}
  {Ts ws ws' : List Cond} {cc bytes : ByteArray} {nL maxL index : Nat} {own : String} {y : MethodName} {rm : Room} {D : va_G} {tys : List (ClassId × FieldType)} {E : (Nat → Prop) → State → Prop} {rest : List Value} {w0 : va_W} {b : Nat} {pc : Nat} {ls : Array Slot} {A : Nat → Prop} {mc ms : Nat}
theorem g_new {α : Type} {w : α → va_W} {hd : α → Nat} {H0 : Heap} {wsW wr : va_W} {a9 : Array Value} {st0 : List Value} (hr : va_Run p l e R s m args below meth c H locs cells slots mc ms (F0 m pc ls st0) rest (gQn D tys w hd b w0 H.size a9) (va_A w0 H.size)) (hP : va_P D vwCl wsW H) (hD : va_D A wsW) (hS : va_S A H0 H locs) (hA : ∀ q : Nat, H0.size ≤ q → A q)
    (isC isR : List Nat) (hC : isC.map (fun i => wsW[i]?) = w0.map some) (hRr : isR.map (fun i => wsW[i]?) = wr.map some) (hnd : va_nd isR = true) (hdis : isR.all (fun i => decide (i ∉ isC)) = true)
    (kk : ∀ (a : α) (H1 : Heap) (locs1 : List Loc), hd a = b → va_P D vwCl (wr ++ w a) H1 → va_D A (wr ++ w a) → va_S A H0 H1 locs1 → W p l e R s m args below meth c H1 locs1 (cells + mc) (slots + ms) Q (F0 m (pc + 3) ls rest)) : W p l e R s m args below meth c H locs cells slots Q (F0 m pc ls st0) := by
  have hF : ∀ q, va_A w0 H.size q → A q := va_free hD hS hA isC hC
  have hdis' : ∀ i ∈ isR, i ∉ isC := fun i hi => of_decide_eq_true (List.all_eq_true.mp hdis i hi)
  intro T hT X
  obtain ⟨v, st₀, t, T', L, h0, X', hL, e1, e2, ⟨⟨hv, a, ha, hP1, hK1, hD1⟩, hz, hk⟩, st⟩ := hr T hT X
  cases hv
  rw [h0] at hz hk
  have hj := va_join (wr := wr) (w1 := w a) hP hD isC isR hC hRr hnd hdis' (H1 := T'.heap) (fun q h1 h2 => by rw [e1]; exact hk q h1 h2) hF (by rw [e1]; exact hP1) hD1
  obtain ⟨t2, a1, b1⟩ := kk a T'.heap (locs ++ L) ha hj.1 hj.2
    ⟨Nat.le_trans hS.1 (by rw [e1]; exact hz), fun q h1 h2 => by rw [e1, hk q (Nat.lt_of_lt_of_le h1 hS.1) (fun z => h2 (hF q z))]; exact hS.2.1 q h1 h2, fun q hq => by
      rcases List.mem_append.mp hq with h | h
      · exact hS.2.2 q h
      · exact hF _ (hL q h)⟩ T' rfl X'
  exact ⟨t2, st t2 a1, b1⟩
theorem gr_N {α : Type} {w : α → va_W} {hd : α → Nat} (hx : p.tables.exec = Jvm.exec) (hb : c.code = cc) (hml : c.maxLocals = nL) (hown : s.vm.findClass own = some m.cls) (hts : ∀ w ∈ Ts, w.before args s = true)
    (hM : gN l y ws rm D tys E b w0 w hd mc ms) (hT : GoodIn Ts ws) (hw : ws = Cond.code y bytes maxL none :: ws') (hrc : rm.cells = mc) (hrs : rm.slots = ms) (hl : (Cond.methodLink own index y).before args s = true) (hini : (Cond.initialized y.cls).before args s = true) (hin : (Cond.instanceMethod y).before args s = true) (hy1 : y.name = "<init>")
    (hd1 : y.cls ≠ "java/lang/invoke/MethodHandle" ∧ y.cls ≠ "java/lang/invoke/VarHandle" ∧ (parseMethodDescriptor y.desc).map (fun d => d.parameters.length) = some 0)
    (hR : rm.frames + 1 ≤ R.frames ∧ 8 + (maxL + 11) + rm.locals ≤ R.locals) (hcell : cells + mc ≤ R.cells ∧ slots + ms ≤ R.slots)
    (hB : gE E) (hP : va_P D vwCl w0 H) (hD : va_D A w0) (hK : va_K D vwCl tys s) (hE : ∀ U : State, U.heap = H → s.WarmedH U.vm → E (va_A w0 H.size) U) (hsize : ls.size = nL) (hcat : (rest.map fun v => v.category).sum ≤ 8) (hdg : decode cc pc = .ok (.invokespecial index, 3)) :
    va_Run p l e R s m args below meth c H locs cells slots mc ms (F0 m pc ls (.ref b :: rest)) rest (gQn D tys w hd b w0 H.size #[Value.ref b]) (va_A w0 H.size) := by
  have hp := gr_pre (As0 := [.ref b]) hB hP hD hK hE
  exact va_runI (As := []) (rest := rest) ⟨hx, hb, hml, hown, hts⟩ (hM H.size) (cwI 0 hts hT hw hrc hrs hini hl hin hy1 hd1 hR) ⟨hp.1, hp.2⟩ rfl rfl hsize rfl (lv_room hcat) hdg hcell
theorem gr_NN {α : Type} {w : α → va_W} {hd : α → Nat} {host : String} (hx : p.tables.exec = Jvm.exec) (hb : c.code = cc) (hml : c.maxLocals = nL) (hown : s.vm.findClass own = some m.cls) (hts : ∀ w ∈ Ts, w.before args s = true)
    (hM : gN l y ws rm D tys E b w0 w hd mc ms) (hT : GoodIn Ts ws) (hw : ws = Cond.code y bytes maxL none :: ws') (hrc : rm.cells = mc) (hrs : rm.slots = ms) (hl : va_Nw (.methodLinkNest own index y host) s) (hini : (Cond.initialized y.cls).before args s = true) (hin : (Cond.instanceMethod y).before args s = true) (hy1 : y.name = "<init>")
    (hd1 : y.cls ≠ "java/lang/invoke/MethodHandle" ∧ y.cls ≠ "java/lang/invoke/VarHandle" ∧ (parseMethodDescriptor y.desc).map (fun d => d.parameters.length) = some 0)
    (hR : rm.frames + 1 ≤ R.frames ∧ 8 + (maxL + 11) + rm.locals ≤ R.locals) (hcell : cells + mc ≤ R.cells ∧ slots + ms ≤ R.slots)
    (hB : gE E) (hP : va_P D vwCl w0 H) (hD : va_D A w0) (hK : va_K D vwCl tys s) (hE : ∀ U : State, U.heap = H → s.WarmedH U.vm → E (va_A w0 H.size) U) (hsize : ls.size = nL) (hcat : (rest.map fun v => v.category).sum ≤ 8) (hdg : decode cc pc = .ok (.invokespecial index, 3)) :
    va_Run p l e R s m args below meth c H locs cells slots mc ms (F0 m pc ls (.ref b :: rest)) rest (gQn D tys w hd b w0 H.size #[Value.ref b]) (va_A w0 H.size) := by
  have hp := gr_pre (As0 := [.ref b]) hB hP hD hK hE
  exact va_runIN (As := []) (rest := rest) ⟨hx, hb, hml, hown, hts⟩ (hM H.size) ⟨va_cnB 0 hts hT hw hrc hrs hl hini hd1 hR, hy1, hin⟩ ⟨hp.1, hp.2⟩ rfl rfl hsize rfl (lv_room hcat) hdg hcell
/-- an array of a class that is known -/
theorem g_newa {H0 : Heap} {wsW : va_W} (hx : p.tables.exec = Jvm.exec) (hb : c.code = cc) {atype : ArrayType} (harr : (Cond.arrayClass (newarray.typeOf atype)).before args s = true) {ty : FieldType} (hty : newarray.typeOf atype = ty) (hK : va_K D vwCl tys s) (hP : va_P D vwCl wsW H) (hD : va_D A wsW) (hS : va_S A H0 H locs) (hA : ∀ q, H0.size ≤ q → A q)
    (t0 : Nat) {cA : ClassId} (ht : tys[t0]? = some (cA, ty)) (hprim : ∀ C, ty ≠ .object C) {n : Int32} {N' : Nat} {a0 : vp_A} (ha : ∀ cA : ClassId, vp_cell cA a0 = arrV cA N' (fun _ => defaultValue ty)) (hn : ¬ n < 0) (hN : n.toNatClampNeg = N') (hbytes : N' * componentBytes ty ≤ 536870912) (hcells : cells + 1 ≤ R.cells) (hslots : slots + N' ≤ R.slots) (hdg : decode cc pc = .ok (.newarray atype, 2))
    (kk : ∀ (q : Nat) (H1 : Heap), va_P D vwCl (wsW ++ [(q, .inl (cA, a0))]) H1 → va_D A (wsW ++ [(q, .inl (cA, a0))]) → va_S A H0 H1 locs →
      W p l e R s m args below meth c H1 locs (cells + 1) (slots + N') Q (F0 m (pc + 2) ls (.ref q :: rest))) : W p l e R s m args below meth c H locs cells slots Q (F0 m pc ls (.int n :: rest)) := by
  refine va_newa hx hb harr hty hK hP hD hS hA ha hn hN hbytes hcells hslots hdg (fun q cB H1 hK1 hP1 hD1 hS1 => ?_)
  have h1 := (hK.2 t0 _ ht).2
  have h2 := (hK1.2 tys.length (cB, ty) (by simp)).2
  have e : cB = cA := by
    unfold va_RA at h1 h2
    cases ty with
    | object C => exact absurd rfl (hprim C)
    | _ => exact Option.some.inj (h2.symm.trans h1)
  subst e
  exact kk q H1 hP1 hD1 hS1
theorem g_newq {H0 : Heap} {wsW : va_W} {C : String} (hx : p.tables.exec = Jvm.exec) (hb : c.code = cc) (hown : s.vm.findClass own = some m.cls) (hclink : (Cond.classLink own index C).before args s = true) (hover : va_AO C s) (hK : va_K D vwCl tys s) (hP : va_P D vwCl wsW H) (hD : va_D A wsW) (hS : va_S A H0 H locs) (hA : ∀ q, H0.size ≤ q → A q)
    (t0 : Nat) {cA : ClassId} (ht : tys[t0]? = some (cA, .object C)) {n : Int32} {N' : Nat} (hn : ¬ n < 0) (hN : n.toNatClampNeg = N') (hbytes : N' * 4 ≤ 536870912) (hcells : cells + 1 ≤ R.cells) (hslots : slots + N' ≤ R.slots) (hdg : decode cc pc = .ok (.anewarray index, 3))
    (kk : ∀ (q : Nat) (H1 : Heap), va_P D vwCl (wsW ++ [(q, .inl (cA, N', .inr (.inr (.inr (.inr (fun _ => none))))))]) H1 → va_D A (wsW ++ [(q, .inl (cA, N', .inr (.inr (.inr (.inr (fun _ => none))))))]) → va_S A H0 H1 locs →
      W p l e R s m args below meth c H1 locs (cells + 1) (slots + N') Q (F0 m (pc + 3) ls (.ref q :: rest))) : W p l e R s m args below meth c H locs cells slots Q (F0 m pc ls (.int n :: rest)) := by
  refine va_newq hx hb hown hclink hover hK hP hD hS hA hn hN hbytes hcells hslots hdg (fun q cB H1 hK1 hP1 hD1 hS1 => ?_)
  have h1 := (hK.2 t0 _ ht).2
  have h2 := (hK1.2 tys.length (cB, .object C) (by simp)).2
  have e : cB = cA := by
    obtain ⟨-, -, -, -, -, f1⟩ := h1
    obtain ⟨-, -, -, -, -, f2⟩ := h2
    exact Option.some.inj (f2.symm.trans f1)
  subst e
  exact kk q H1 hP1 hD1 hS1
end GNEW
