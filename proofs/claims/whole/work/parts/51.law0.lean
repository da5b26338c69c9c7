/-! THE CLAIM OUT OF ONE WALK OF THE LAW'S BODY. Your part is whole_start (and what it stands on); all else here is the same for every law, but numbers. -/
def R_law : String := "GlitchNetsLaw"
def lw_P (b : Addr) (xs : List Int32) (args : Array Value) (s : State) : Prop := args = #[.ref b] ∧ s.IntsAt b xs ∧ xs.length ≤ 3584 ∧ (Jvm.Cond.and given_1 narrow_1).before args s = true
def lw_Q (_ : Array Value) (s : State) (o : Outcome) (t : State) : Prop := o = .returned (some (.int 1)) ∧ Framed s o t [] 600000 7302250
def lw_Z (below : List Frame) (a : Array Value) (s : State) : State → Prop := fun t => ∃ o, t.status = .running ∧ Ended t below o ∧ lw_Q a s o t
/-- the law's own end, with 1 on the stack, nothing written that was there before, its room as the claim has it -/
theorem lw_ret {p : Program} {l : Launch} {e : Env} {s : State} {m : MethodId} {below : List Frame} {meth : Method} {c : Code} {b : Nat} (hx : p.tables.exec = Jvm.exec) (hb : c.code = code) (hr : meth.sig.returnType = ret) (hlocks : meth.locks = false) {pc : Nat} {H : Heap} {ls : Array Slot} (hdg : decode code pc = .ok (.ireturn, 1)) : W p l e room_1 s m #[Value.ref b] below meth c H [] 600000 7302250 (lw_Z below #[Value.ref b] s) (F0 m pc ls [.int 1]) := by
  intro T hT X
  obtain ⟨fs, hret, hrun, hended, hW, hframe⟩ := X.leave (v := some (.int 1)) (hlocks := hlocks) (fun h => by rw [hr] at h; cases h)
  have hmeth' : T.vm.method? m = some meth := X.method'
  refine ⟨T.setFrames fs, ?_, .returned (some (.int 1)), hrun, hended, rfl, ⟨_, rfl⟩, hW, hframe⟩
  jvm_step X.here [X.here.top, hx, hb, hdg, hmeth', hr, ret, narrow_b1]
  (try refine ⟨rfl, ?_⟩); (try refine ⟨rfl, ?_⟩)
  first | (intro acts; rw [hret _ acts rfl rfl rfl]) | rw [hret _ _ rfl rfl rfl]
  exact Steps.refl _
/-- what holds at the law's entry: the machine, the code, the tables' words (any of lw_tbl by 'hts w (by decide +kernel)'), the script of L ints xs at the cell b, what the Statement gives of the start (any of its parts by flat_of_before) -/
def lw_At (p : Program) (s : State) (m : MethodId) (meth : Method) (c : Code) (b L : Nat) (xs : Nat → Int32) : Prop :=
  p.tables.exec = Jvm.exec ∧ c.code = code ∧ meth.sig.returnType = ret ∧ c.maxLocals = 4 ∧ s.vm.findClass R_law = some m.cls ∧ (∀ w ∈ lw_tbl, w.before #[Value.ref b] s = true) ∧ va_X b L xs s s.heap ∧ b < s.heap.size ∧ meth.locks = false ∧ (Jvm.Cond.and given_1 narrow_1).before #[Value.ref b] s = true
/-! THE LAW, 1: two worlds side by side; a place of the script; what holds at a case's head -/
def L2 (D : va_G) (A : Nat → Prop) (u v : va_W) (H : Heap) : Prop := va_P D vwCl u H ∧ va_P D vwCl v H ∧ va_D A u ∧ va_D A v ∧ ∀ x ∈ u, ∀ y ∈ v, x.1 ≠ y.1
theorem L2.swap {D : va_G} {A : Nat → Prop} {u v : va_W} {H : Heap} (h : L2 D A u v H) : L2 D A v u H := ⟨h.2.1, h.1, h.2.2.2.1, h.2.2.1, fun x hx y hy e => h.2.2.2.2 y hy x hx e.symm⟩
theorem L2.app {D : va_G} {A : Nat → Prop} {u v : va_W} {H : Heap} (hP : va_P D vwCl (u ++ v) H) (hD : va_D A (u ++ v)) : L2 D A u v H := by
  obtain ⟨h1, h2⟩ := vD_iff.mp hD
  rw [List.map_append, List.pairwise_append] at h1
  exact ⟨vP_l hP, vP_r hP, vD_iff.mpr ⟨h1.1, fun q hq => h2 q (List.mem_append_left _ hq)⟩, vD_iff.mpr ⟨h1.2.1, fun q hq => h2 q (List.mem_append_right _ hq)⟩, fun x hx y hy => h1.2.2 _ (List.mem_map_of_mem hx) _ (List.mem_map_of_mem hy)⟩
section LAW0
variable {p : Program} {l : Launch} {e : Env} {R : Room} {s : State} {m : MethodId} {args : Array Value} {below : List Frame} {meth : Method} {c : Code} {H : Heap} {locs : List Loc} {cells slots : Nat} {Q : State → Prop}
  {D : va_G} {tys : List (ClassId × FieldType)} {rest : List Value} {w0 w1 : va_W} {rv : Option Value} {pc : Nat} {ls : Array Slot} {A : Nat → Prop}
/-- behind a call over the one world: the other stands as it stood -/
theorem g_two {H0 : Heap} {v : va_W} {a : Array Value} {st0 : List Value} (hr : va_Run p l e R s m args below meth c H locs cells slots 0 0 (F0 m pc ls st0) rest (gQ D tys rv w0 w1 H.size a) (va_A w0 H.size)) (hW : L2 D A w0 v H) (hS : va_S A H0 H locs) (hA : ∀ q : Nat, H0.size ≤ q → A q)
    {st1 : List Value} (hst1 : rv.toList ++ rest = st1)
    (kk : ∀ (H1 : Heap) (locs1 : List Loc), L2 D A w1 v H1 → va_S A H0 H1 locs1 → W p l e R s m args below meth c H1 locs1 cells slots Q (F0 m (pc + 3) ls st1)) : W p l e R s m args below meth c H locs cells slots Q (F0 m pc ls st0) := by
  subst hst1
  obtain ⟨hPu, hPv, hDu, hDv, hne⟩ := hW
  have hF : ∀ q, va_A w0 H.size q → A q := g_free hDu hS hA
  have hno : ∀ (i : Nat) (y : Nat × va_E), v[i]? = some y → ¬ va_A w0 H.size y.1 := by
    intro i y hy h
    rcases h with ⟨k, e, h⟩ | h
    · exact hne _ (List.mem_of_getElem? h) _ (List.mem_of_getElem? hy) rfl
    · have := (hPv i y hy).lt
      omega
  intro T hT X
  obtain ⟨v9, st₀, t, T', L, h0, X', hL, e1, e2, ⟨⟨hv, hP1, hK1, hD1⟩, hz, hk⟩, st⟩ := hr T hT X
  cases hv
  rw [h0] at hz hk
  obtain ⟨t2, a1, b1⟩ := kk T'.heap (locs ++ L)
    ⟨by rw [e1]; exact hP1, hPv.kept (fun i y hy => by rw [e1]; exact hk y.1 ((hPv i y hy).lt) (hno i y hy)), hD1.weaken (fun k q _ h => hF q.1 h), hDv, fun x hx y hy exy => by
      obtain ⟨i, hi⟩ := List.getElem?_of_mem hy
      obtain ⟨j, hj⟩ := List.getElem?_of_mem hx
      exact hno i y hi (exy ▸ hD1.2 j x hj)⟩
    ⟨Nat.le_trans hS.1 (by rw [e1]; exact hz), fun q h1 h2 => by rw [e1, hk q (Nat.lt_of_lt_of_le h1 hS.1) (fun z => h2 (hF q z))]; exact hS.2.1 q h1 h2, fun q hq => by
      rcases List.mem_append.mp hq with h | h
      · exact hS.2.2 q h
      · exact hF _ (hL q h)⟩ T' rfl X'
  exact ⟨t2, st t2 a1, b1⟩
end LAW0
/-- the law's own surroundings: its entry, the script's length, the classes, the environment -/
def LC (p : Program) (s : State) (m : MethodId) (meth : Method) (cd : Code) (b L : Nat) (sc : Nat → Int32) (D : va_G) (c : Nat → ClassId) (tb : Nat) (sa sv : Nat → Nat) : Prop :=
  lw_At p s m meth cd b L sc ∧ L ≤ 3584 ∧ va_K D vwCl (gY c) s ∧ xE tb sa sv (fun q : Nat => s.heap.size ≤ q) s
abbrev lwl (a : Nat → Nat → Nat) (a9 : Nat → Nat) (b : Nat) (x3 : Int32) : List (Nat × Value) := [(0, .ref b), (1, .ref (a 0 0)), (2, .ref (a9 0)), (3, .int x3)]
abbrev LW (p : Program) (l : Launch) (e : Env) (s : State) (m : MethodId) (below : List Frame) (meth : Method) (cd : Code) (b : Nat) (H : Heap) (locs : List Loc) (pc : Nat) (ls : Array Slot) (st : List Value) : Prop :=
  W p l e room_1 s m #[Value.ref b] below meth cd H locs 600000 7302250 (lw_Z below #[Value.ref b] s) (F0 m pc ls st)
abbrev LKK (p : Program) (l : Launch) (e : Env) (s : State) (m : MethodId) (below : List Frame) (meth : Method) (cd : Code) (b : Nat) (D : va_G) (c : Nat → ClassId) (a : Nat → Nat → Nat) (a9 : Nat → Nat) (ls : Array Slot) : Prop :=
  ∀ (X' : XS) (σ' : Mem) (H : Heap) (locs : List Loc), Rel X' σ' → L2 D (fun q : Nat => s.heap.size ≤ q) (wX a c X') (wX9 a9 c σ') H → va_S (fun q : Nat => s.heap.size ≤ q) s.heap H locs → LW p l e s m below meth cd b H locs 1111 ls []
theorem law_in {i L j : Nat} {x3 k : Int32} (e3 : x3 = nI i) (hi : i + 7 ≤ L) (hL : L ≤ 3584) (ek : k = nI j) (hj : j < 7) : vp_in (x3 + k) L := by
  rw [e3, ek, nI_add]
  exact vp_in_nI (by omega) (by omega)
theorem law_cmp (x : Int64) : lg_cmp x x = 0 := by
  unfold lg_cmp
  rw [if_neg (show ¬ x > x from fun h => absurd ((fa_lt64 x x).mp h) (Int.lt_irrefl _)), if_pos rfl]
section LAW1
variable {p : Program} {l : Launch} {e : Env} {s : State} {m : MethodId} {below : List Frame} {meth : Method} {cd : Code} {b L : Nat} {sc : Nat → Int32} {D : va_G} {c : Nat → ClassId} {tb : Nat} {sa sv : Nat → Nat} {a : Nat → Nat → Nat} {a9 : Nat → Nat}
  {H : Heap} {locs : List Loc} {ls : Array Slot} {x3 k : Int32} {st : List Value} {pc : Nat} {n : Int}
/-- a place of the script behind i -/
theorem law_ld (C : LC p s m meth cd b L sc D c tb sa sv) (hS : va_S (fun q : Nat => s.heap.size ≤ q) s.heap H locs) (hl : lv_has ls 4 (lwl a a9 b x3))
    (d0 : decode cL_law pc = .ok (.aload_n 0, 1)) (d1 : decode cL_law (pc + 1) = .ok (.iload_n 3, 1)) (d2 : decode cL_law (pc + 2) = .ok (.iconst n, 1)) (d3 : decode cL_law (pc + 3) = .ok (.iadd, 1)) (d4 : decode cL_law (pc + 4) = .ok (.iaload, 1)) (hn : Int32.ofInt n = k) (hin : vp_in (x3 + k) L)
    (kk : LW p l e s m below meth cd b H locs (pc + 5) ls (.int (sc (x3 + k).toNatClampNeg) :: st)) : LW p l e s m below meth cd b H locs pc ls st := by
  obtain ⟨⟨hx, hb, hr, hml, hown, hts, hX, hbl, hlocks, hgv⟩, -⟩ := C
  have hbA : ¬ (fun q : Nat => s.heap.size ≤ q) b := Nat.not_le.mpr hbl
  refine lv_aload_n hx hb d0 rfl (lv_at hl 0 rfl) ?_
  refine lv_iload_n hx hb d1 rfl (lv_at hl 3 rfl) ?_
  refine lv_iconst (v := k) hx hb d2 hn ?_
  refine lv_iadd hx hb d3 ?_
  exact va_sld hx hb hX hbl hbA hS hin d4 kk
theorem law_ldb (C : LC p s m meth cd b L sc D c tb sa sv) (hS : va_S (fun q : Nat => s.heap.size ≤ q) s.heap H locs) (hl : lv_has ls 4 (lwl a a9 b x3))
    (d0 : decode cL_law pc = .ok (.aload_n 0, 1)) (d1 : decode cL_law (pc + 1) = .ok (.iload_n 3, 1)) (d2 : decode cL_law (pc + 2) = .ok (.bipush n, 2)) (d3 : decode cL_law (pc + 4) = .ok (.iadd, 1)) (d4 : decode cL_law (pc + 5) = .ok (.iaload, 1)) (hn : (Int8.ofInt n).toInt32 = k) (hin : vp_in (x3 + k) L)
    (kk : LW p l e s m below meth cd b H locs (pc + 6) ls (.int (sc (x3 + k).toNatClampNeg) :: st)) : LW p l e s m below meth cd b H locs pc ls st := by
  obtain ⟨⟨hx, hb, hr, hml, hown, hts, hX, hbl, hlocks, hgv⟩, -⟩ := C
  have hbA : ¬ (fun q : Nat => s.heap.size ≤ q) b := Nat.not_le.mpr hbl
  refine lv_aload_n hx hb d0 rfl (lv_at hl 0 rfl) ?_
  refine lv_iload_n hx hb d1 rfl (lv_at hl 3 rfl) ?_
  refine lv_bipush (v := k) hx hb d2 hn ?_
  refine lv_iadd hx hb d3 ?_
  exact va_sld hx hb hX hbl hbA hS hin d4 kk
end LAW1
