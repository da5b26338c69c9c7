/-! WORLDS: the cells of each class' objects, at addresses a, with the array classes c, holding σ (a field or an array by its place among the class' fields) -/
abbrev gY (c : Nat → ClassId) : List (ClassId × FieldType) := [(c 0, .int), (c 1, .long), (c 2, .char), (c 3, .object "GlitchNets$Sheet")]
def wX0 (a : Nat → Nat) (c : Nat → ClassId) (σ : Mem) : va_W := [(a 0, .inr (0, [.ref (a 1), .ref (a 2), .int (σ.1 2 0)])), (a 1, .inl (c 0, 8, .inl (σ.1 0))), (a 2, .inl (c 0, 8, .inl (σ.1 1)))]
def wX1 (a : Nat → Nat) (c : Nat → ClassId) (σ : Mem) : va_W := [(a 0, .inr (1, [.ref (a 1), .ref (a 2), .ref (a 3), .ref (a 4), .int (σ.1 4 0)])), (a 1, .inl (c 0, 6, .inl (σ.1 0))), (a 2, .inl (c 0, 6, .inl (σ.1 1))), (a 3, .inl (c 0, 6, .inl (σ.1 2))), (a 4, .inl (c 0, 6, .inl (σ.1 3)))]
def wX2 (a : Nat → Nat) (c : Nat → ClassId) (σ : Mem) : va_W := [(a 0, .inr (2, [.int (σ.1 0 0), .int (σ.1 1 0), .int (σ.1 2 0), .int (σ.1 3 0), .int (σ.1 4 0), .int (σ.1 5 0)]))]
def wX3 (a : Nat → Nat) (c : Nat → ClassId) (σ : Mem) : va_W := [(a 0, .inr (3, [.ref (a 1), .ref (a 2), .ref (a 3), .ref (a 4), .int (σ.1 4 0), .ref (a 5), .ref (a 6)])), (a 1, .inl (c 0, 12, .inl (σ.1 0))), (a 2, .inl (c 0, 12, .inl (σ.1 1))), (a 3, .inl (c 0, 12, .inl (σ.1 2))), (a 4, .inl (c 0, 12, .inl (σ.1 3))), (a 5, .inl (c 0, 16, .inl (σ.1 5))), (a 6, .inl (c 0, 16, .inl (σ.1 6)))]
def wX4 (a : Nat → Nat) (c : Nat → ClassId) (σ : Mem) : va_W := [(a 0, .inr (4, [.ref (a 1), .ref (a 2), .int (σ.1 2 0), .ref (a 3), .ref (a 4)])), (a 1, .inl (c 0, 32, .inl (σ.1 0))), (a 2, .inl (c 0, 32, .inl (σ.1 1))), (a 3, .inl (c 1, 32, .inr (.inl (σ.2 3)))), (a 4, .inl (c 1, 33, .inr (.inl (σ.2 4))))]
def wX5 (a : Nat → Nat) (c : Nat → ClassId) (σ : Mem) : va_W := [(a 0, .inr (5, [.ref (a 1), .int (σ.1 1 0), .int (σ.1 2 0)])), (a 1, .inl (c 0, 40, .inl (σ.1 0)))]
def wX6 (a : Nat → Nat) (c : Nat → ClassId) (σ : Mem) : va_W := [(a 0, .inr (6, [.ref (a 1), .int (σ.1 1 0)])), (a 1, .inl (c 0, 30, .inl (σ.1 0)))]
def wX7 (a : Nat → Nat) (c : Nat → ClassId) (σ : Mem) : va_W := [(a 0, .inr (7, [.ref (a 1), .ref (a 2), .int (σ.1 2 0), .int (σ.1 3 0)])), (a 1, .inl (c 1, 16, .inr (.inl (σ.2 0)))), (a 2, .inl (c 1, 16, .inr (.inl (σ.2 1))))]
def wX9 (a : Nat → Nat) (c : Nat → ClassId) (σ : Mem) : va_W := [(a 0, .inr (9, [.ref (a 1), .ref (a 2), .int (σ.1 2 0), .ref (a 3), .int (σ.1 4 0), .ref (a 4), .int (σ.1 6 0), .int (σ.1 7 0), .int (σ.1 8 0), .int (σ.1 9 0), .ref (a 5), .ref (a 6), .ref (a 7), .ref (a 8), .int (σ.1 14 0), .int (σ.1 15 0), .ref (a 9), .int (σ.1 17 0), .ref (a 10), .int (σ.1 19 0), .ref (a 11), .ref (a 12), .ref (a 13), .ref (a 14)])), (a 1, .inl (c 0, 66, .inl (σ.1 0))), (a 2, .inl (c 0, 66, .inl (σ.1 1))), (a 3, .inl (c 0, 24, .inl (σ.1 3))), (a 4, .inl (c 0, 30, .inl (σ.1 5))), (a 5, .inl (c 2, 24, .inl (σ.1 10))), (a 6, .inl (c 0, 4, .inl (σ.1 11))), (a 7, .inl (c 0, 12, .inl (σ.1 12))), (a 8, .inl (c 0, 1308, .inl (σ.1 13))), (a 9, .inl (c 0, 32, .inl (σ.1 16))), (a 10, .inl (c 0, 32, .inl (σ.1 18))), (a 11, .inl (c 0, 32, .inl (σ.1 20))), (a 12, .inl (c 0, 4, .inl (σ.1 21))), (a 13, .inl (c 0, 4, .inl (σ.1 22))), (a 14, .inl (c 0, 160, .inl (σ.1 23)))]
def wX8 (a : Nat → Nat → Nat) (c : Nat → ClassId) (σ : Mem) : va_W := [(a 0 0, .inr (8, [.ref (a 1 0), .ref (a 2 0), .ref (a 3 0), .ref (a 4 0), .ref (a 5 0), .ref (a 6 0), .ref (a 7 0), .ref (a 8 0), .ref (a 9 0), .ref (a 10 0), .int (σ.1 10 0), .ref (a 0 1)])), (a 0 1, .inl (c 3, 4, .inr (.inr (.inr (.inr (fun j => some (a (11 + j) 0)))))))]
abbrev XS : Type := Nat → Mem
def xs (X : XS) (k : Nat) (σ : Mem) : XS := fun j => if j = k then σ else X j
def wRI (a n : Nat) (c : Nat → ClassId) (f : Nat → Int32) : va_W := [(a, .inl (c 0, n, .inl f))]
def wRL (a n : Nat) (c : Nat → ClassId) (f : Nat → Int64) : va_W := [(a, .inl (c 1, n, .inr (.inl f)))]
def itab : Nat → Int32 := fun j => if j = 0 then 43690 else if j = 1 then 52428 else if j = 2 then 61680 else 65280
def jlushr (x : Int64) (y : Int32) : Int64 := (x.toUInt64 >>> (y.toInt64.toUInt64 &&& Int64.toUInt64 63)).toInt64
def jlshl (x : Int64) (y : Int32) : Int64 := x <<< (y.toInt64 &&& 63)
def jlshr (x : Int64) (y : Int32) : Int64 := x >>> (y.toInt64 &&& 63)
def jiushr (x : Int32) (y : Int32) : Int32 := (x.toUInt32 >>> (y.toUInt32 &&& Int32.toUInt32 31)).toInt32
/-- a fuel that no computation looks into -/
theorem FU_ex : ∃ n : Nat, 1000000 ≤ n := ⟨1000000, Nat.le_refl _⟩
noncomputable def FU : Nat := Classical.choose FU_ex
theorem FU_ge : 1000000 ≤ FU := Classical.choose_spec FU_ex
/-! THE ENVIRONMENT of the class: a static table, the six words, two statics of the JDK, nest mates' links -/
def slenL : List Nat := [3, 4, 2, 3, 3, 3]
def sbytL : List (List Int32) := [[97, 110, 100], [110, 97, 110, 100], [111, 114], [110, 111, 114], [120, 111, 114], [110, 111, 116]]
abbrev slen (q : Nat) : Nat := slenL.getD q 0
abbrev sch (q j : Nat) : Int32 := (sbytL.getD q []).getD j 0
def xE (tb : Nat) (sa sv : Nat → Nat) : (Nat → Prop) → State → Prop := fun A U => va_Z "GlitchNets" "INPUT_TABLES" "[I" (.ref tb) A U U.heap ∧ va_T .int tb 4 (fun j => .int (itab j)) A U U.heap ∧ va_Z "java/lang/String" "COMPACT_STRINGS" "Z" (.int 1) A U U.heap ∧ va_Zq "jdk/internal/util/Preconditions" "SIOOBE_FORMATTER" "Ljava/util/function/BiFunction;" A U U.heap ∧ vk_S 6 slenL sbytL sa sv A U U.heap ∧ vk_R "GlitchNets" 328 "and" (sa 0) U ∧ vk_R "GlitchNets" 330 "nand" (sa 1) U ∧ vk_R "GlitchNets" 332 "or" (sa 2) U ∧ vk_R "GlitchNets" 334 "nor" (sa 3) U ∧ vk_R "GlitchNets" 336 "xor" (sa 4) U ∧ vk_R "GlitchNets" 338 "not" (sa 5) U ∧ va_Nw (.methodLinkNest RX8 9 yX6_init "GlitchNets") U ∧ va_Nw (.methodLinkNest RX8 18 yX2_init "GlitchNets") U ∧ va_Nw (.methodLinkNest RX8 35 yX7_init "GlitchNets") U ∧ va_Nw (.methodLinkNest RX8 42 yX0_init "GlitchNets") U ∧ va_Nw (.methodLinkNest RX8 49 yX4_init "GlitchNets") U ∧ va_Nw (.methodLinkNest RX8 56 yX1_init "GlitchNets") U ∧ va_Nw (.methodLinkNest RX8 73 yX5_init "GlitchNets") U ∧ va_Nw (.methodLinkNest RX2 62 yX8_wordOf "GlitchNets") U ∧ va_Nw (.methodLinkNest RX2 45 yX8_isWithin "GlitchNets") U ∧ va_Nw (.methodLinkNest RX3 51 yX8_combined "GlitchNets") U ∧ va_Nw (.methodLinkNest RX7 61 yX8_combined "GlitchNets") U ∧ va_Nw (.methodLinkNest RX0 34 yX8_held "GlitchNets") U ∧ va_Nw (.methodLinkNest RX0 44 yX8_pairsAmong "GlitchNets") U ∧ va_Nw (.methodLinkNest RX4 40 yX8_held "GlitchNets") U ∧ va_Nw (.methodLinkNest RX4 44 yX8_pairsAmong "GlitchNets") U ∧ va_AO "GlitchNets$Sheet" U ∧ va_Nw (.fieldLinkNest RX3 30 "GlitchNets" "INPUT_TABLES" "[I" "GlitchNets") U
section XE
variable {tb : Nat} {sa sv : Nat → Nat} {A : Nat → Prop} {s : State}
theorem xE_tab (h : xE tb sa sv A s) : va_Z "GlitchNets" "INPUT_TABLES" "[I" (.ref tb) A s s.heap := h.1
theorem xE_itab (h : xE tb sa sv A s) : va_T .int tb 4 (fun j => .int (itab j)) A s s.heap := h.2.1
theorem xE_cs (h : xE tb sa sv A s) : va_Z "java/lang/String" "COMPACT_STRINGS" "Z" (.int 1) A s s.heap := h.2.2.1
theorem xE_fmt (h : xE tb sa sv A s) : va_Zq "jdk/internal/util/Preconditions" "SIOOBE_FORMATTER" "Ljava/util/function/BiFunction;" A s s.heap := h.2.2.2.1
theorem xE_vk (h : xE tb sa sv A s) : vk_S 6 slenL sbytL sa sv A s s.heap := h.2.2.2.2.1
theorem xE_str0 (h : xE tb sa sv A s) : vk_R "GlitchNets" 328 "and" (sa 0) s := h.2.2.2.2.2.1
theorem xE_str1 (h : xE tb sa sv A s) : vk_R "GlitchNets" 330 "nand" (sa 1) s := h.2.2.2.2.2.2.1
theorem xE_str2 (h : xE tb sa sv A s) : vk_R "GlitchNets" 332 "or" (sa 2) s := h.2.2.2.2.2.2.2.1
theorem xE_str3 (h : xE tb sa sv A s) : vk_R "GlitchNets" 334 "nor" (sa 3) s := h.2.2.2.2.2.2.2.2.1
theorem xE_str4 (h : xE tb sa sv A s) : vk_R "GlitchNets" 336 "xor" (sa 4) s := h.2.2.2.2.2.2.2.2.2.1
theorem xE_str5 (h : xE tb sa sv A s) : vk_R "GlitchNets" 338 "not" (sa 5) s := h.2.2.2.2.2.2.2.2.2.2.1
theorem xE_n0 (h : xE tb sa sv A s) : va_Nw (.methodLinkNest RX8 9 yX6_init "GlitchNets") s := h.2.2.2.2.2.2.2.2.2.2.2.1
theorem xE_n1 (h : xE tb sa sv A s) : va_Nw (.methodLinkNest RX8 18 yX2_init "GlitchNets") s := h.2.2.2.2.2.2.2.2.2.2.2.2.1
theorem xE_n2 (h : xE tb sa sv A s) : va_Nw (.methodLinkNest RX8 35 yX7_init "GlitchNets") s := h.2.2.2.2.2.2.2.2.2.2.2.2.2.1
theorem xE_n3 (h : xE tb sa sv A s) : va_Nw (.methodLinkNest RX8 42 yX0_init "GlitchNets") s := h.2.2.2.2.2.2.2.2.2.2.2.2.2.2.1
theorem xE_n4 (h : xE tb sa sv A s) : va_Nw (.methodLinkNest RX8 49 yX4_init "GlitchNets") s := h.2.2.2.2.2.2.2.2.2.2.2.2.2.2.2.1
theorem xE_n5 (h : xE tb sa sv A s) : va_Nw (.methodLinkNest RX8 56 yX1_init "GlitchNets") s := h.2.2.2.2.2.2.2.2.2.2.2.2.2.2.2.2.1
theorem xE_n6 (h : xE tb sa sv A s) : va_Nw (.methodLinkNest RX8 73 yX5_init "GlitchNets") s := h.2.2.2.2.2.2.2.2.2.2.2.2.2.2.2.2.2.1
theorem xE_n7 (h : xE tb sa sv A s) : va_Nw (.methodLinkNest RX2 62 yX8_wordOf "GlitchNets") s := h.2.2.2.2.2.2.2.2.2.2.2.2.2.2.2.2.2.2.1
theorem xE_n8 (h : xE tb sa sv A s) : va_Nw (.methodLinkNest RX2 45 yX8_isWithin "GlitchNets") s := h.2.2.2.2.2.2.2.2.2.2.2.2.2.2.2.2.2.2.2.1
theorem xE_n9 (h : xE tb sa sv A s) : va_Nw (.methodLinkNest RX3 51 yX8_combined "GlitchNets") s := h.2.2.2.2.2.2.2.2.2.2.2.2.2.2.2.2.2.2.2.2.1
theorem xE_n10 (h : xE tb sa sv A s) : va_Nw (.methodLinkNest RX7 61 yX8_combined "GlitchNets") s := h.2.2.2.2.2.2.2.2.2.2.2.2.2.2.2.2.2.2.2.2.2.1
theorem xE_n11 (h : xE tb sa sv A s) : va_Nw (.methodLinkNest RX0 34 yX8_held "GlitchNets") s := h.2.2.2.2.2.2.2.2.2.2.2.2.2.2.2.2.2.2.2.2.2.2.1
theorem xE_n12 (h : xE tb sa sv A s) : va_Nw (.methodLinkNest RX0 44 yX8_pairsAmong "GlitchNets") s := h.2.2.2.2.2.2.2.2.2.2.2.2.2.2.2.2.2.2.2.2.2.2.2.1
theorem xE_n13 (h : xE tb sa sv A s) : va_Nw (.methodLinkNest RX4 40 yX8_held "GlitchNets") s := h.2.2.2.2.2.2.2.2.2.2.2.2.2.2.2.2.2.2.2.2.2.2.2.2.1
theorem xE_n14 (h : xE tb sa sv A s) : va_Nw (.methodLinkNest RX4 44 yX8_pairsAmong "GlitchNets") s := h.2.2.2.2.2.2.2.2.2.2.2.2.2.2.2.2.2.2.2.2.2.2.2.2.2.1
theorem xE_ao (h : xE tb sa sv A s) : va_AO "GlitchNets$Sheet" s := h.2.2.2.2.2.2.2.2.2.2.2.2.2.2.2.2.2.2.2.2.2.2.2.2.2.2.1
theorem xE_nf (h : xE tb sa sv A s) : va_Nw (.fieldLinkNest RX3 30 "GlitchNets" "INPUT_TABLES" "[I" "GlitchNets") s := h.2.2.2.2.2.2.2.2.2.2.2.2.2.2.2.2.2.2.2.2.2.2.2.2.2.2.2
theorem xE_coder (h : xE tb sa sv A s) {q : Nat} (hq : q < 6) : va_OF "java/lang/String" "coder" "B" (.int 0) (sa q) A s s.heap := ((xE_vk h).1 q hq).2.1
theorem xE_value (h : xE tb sa sv A s) {q : Nat} (hq : q < 6) : va_OF "java/lang/String" "value" "[B" (.ref (sv q)) (sa q) A s s.heap := ((xE_vk h).1 q hq).2.2.1
theorem xE_bytes (h : xE tb sa sv A s) {q : Nat} (hq : q < 6) : va_T .byte (sv q) (slen q) (fun j => .int (sch q j)) A s s.heap := ((xE_vk h).1 q hq).2.2.2
end XE
theorem xE_ok {tb : Nat} {sa sv : Nat → Nat} : gE (xE tb sa sv) := by
  refine ⟨fun A B s U H h hq hU hW hB => ?_, fun A U g mk a h => ?_⟩
  · exact ⟨(by rw [hU]; exact ((va_Z.moved hW.alike h.1).kept hq).narrow hB),
      (by rw [hU]; exact ((va_T.moved hW.alike h.2.1).kept hq).narrow hB),
      (by rw [hU]; exact ((va_Z.moved hW.alike h.2.2.1).kept hq).narrow hB),
      (by rw [hU]; exact ((va_Zq.moved hW.alike h.2.2.2.1).kept hq).narrow hB),
      (by rw [hU]; exact ((vk_S.moved hW.alike h.2.2.2.2.1).kept hq).narrow hB),
      (vk_R.warm hW h.2.2.2.2.2.1),
      (vk_R.warm hW h.2.2.2.2.2.2.1),
      (vk_R.warm hW h.2.2.2.2.2.2.2.1),
      (vk_R.warm hW h.2.2.2.2.2.2.2.2.1),
      (vk_R.warm hW h.2.2.2.2.2.2.2.2.2.1),
      (vk_R.warm hW h.2.2.2.2.2.2.2.2.2.2.1),
      (va_Nw.warmM hW h.2.2.2.2.2.2.2.2.2.2.2.1),
      (va_Nw.warmM hW h.2.2.2.2.2.2.2.2.2.2.2.2.1),
      (va_Nw.warmM hW h.2.2.2.2.2.2.2.2.2.2.2.2.2.1),
      (va_Nw.warmM hW h.2.2.2.2.2.2.2.2.2.2.2.2.2.2.1),
      (va_Nw.warmM hW h.2.2.2.2.2.2.2.2.2.2.2.2.2.2.2.1),
      (va_Nw.warmM hW h.2.2.2.2.2.2.2.2.2.2.2.2.2.2.2.2.1),
      (va_Nw.warmM hW h.2.2.2.2.2.2.2.2.2.2.2.2.2.2.2.2.2.1),
      (va_Nw.warmM hW h.2.2.2.2.2.2.2.2.2.2.2.2.2.2.2.2.2.2.1),
      (va_Nw.warmM hW h.2.2.2.2.2.2.2.2.2.2.2.2.2.2.2.2.2.2.2.1),
      (va_Nw.warmM hW h.2.2.2.2.2.2.2.2.2.2.2.2.2.2.2.2.2.2.2.2.1),
      (va_Nw.warmM hW h.2.2.2.2.2.2.2.2.2.2.2.2.2.2.2.2.2.2.2.2.2.1),
      (va_Nw.warmM hW h.2.2.2.2.2.2.2.2.2.2.2.2.2.2.2.2.2.2.2.2.2.2.1),
      (va_Nw.warmM hW h.2.2.2.2.2.2.2.2.2.2.2.2.2.2.2.2.2.2.2.2.2.2.2.1),
      (va_Nw.warmM hW h.2.2.2.2.2.2.2.2.2.2.2.2.2.2.2.2.2.2.2.2.2.2.2.2.1),
      (va_Nw.warmM hW h.2.2.2.2.2.2.2.2.2.2.2.2.2.2.2.2.2.2.2.2.2.2.2.2.2.1),
      (va_AO.moved hW.alike h.2.2.2.2.2.2.2.2.2.2.2.2.2.2.2.2.2.2.2.2.2.2.2.2.2.2.1),
      (va_Nw.warmF hW h.2.2.2.2.2.2.2.2.2.2.2.2.2.2.2.2.2.2.2.2.2.2.2.2.2.2.2)⟩
  · exact ⟨va_Z.moved (u := U) (U := U.calling g mk a) (Vm.Alike.refl U.vm) h.1,
      va_T.moved (u := U) (U := U.calling g mk a) (Vm.Alike.refl U.vm) h.2.1,
      va_Z.moved (u := U) (U := U.calling g mk a) (Vm.Alike.refl U.vm) h.2.2.1,
      va_Zq.moved (u := U) (U := U.calling g mk a) (Vm.Alike.refl U.vm) h.2.2.2.1,
      vk_S.moved (u := U) (U := U.calling g mk a) (Vm.Alike.refl U.vm) h.2.2.2.2.1,
      vk_R.same (u := U) (U := U.calling g mk a) rfl h.2.2.2.2.2.1,
      vk_R.same (u := U) (U := U.calling g mk a) rfl h.2.2.2.2.2.2.1,
      vk_R.same (u := U) (U := U.calling g mk a) rfl h.2.2.2.2.2.2.2.1,
      vk_R.same (u := U) (U := U.calling g mk a) rfl h.2.2.2.2.2.2.2.2.1,
      vk_R.same (u := U) (U := U.calling g mk a) rfl h.2.2.2.2.2.2.2.2.2.1,
      vk_R.same (u := U) (U := U.calling g mk a) rfl h.2.2.2.2.2.2.2.2.2.2.1,
      va_Nw.same (u := U) (U := U.calling g mk a) rfl rfl h.2.2.2.2.2.2.2.2.2.2.2.1,
      va_Nw.same (u := U) (U := U.calling g mk a) rfl rfl h.2.2.2.2.2.2.2.2.2.2.2.2.1,
      va_Nw.same (u := U) (U := U.calling g mk a) rfl rfl h.2.2.2.2.2.2.2.2.2.2.2.2.2.1,
      va_Nw.same (u := U) (U := U.calling g mk a) rfl rfl h.2.2.2.2.2.2.2.2.2.2.2.2.2.2.1,
      va_Nw.same (u := U) (U := U.calling g mk a) rfl rfl h.2.2.2.2.2.2.2.2.2.2.2.2.2.2.2.1,
      va_Nw.same (u := U) (U := U.calling g mk a) rfl rfl h.2.2.2.2.2.2.2.2.2.2.2.2.2.2.2.2.1,
      va_Nw.same (u := U) (U := U.calling g mk a) rfl rfl h.2.2.2.2.2.2.2.2.2.2.2.2.2.2.2.2.2.1,
      va_Nw.same (u := U) (U := U.calling g mk a) rfl rfl h.2.2.2.2.2.2.2.2.2.2.2.2.2.2.2.2.2.2.1,
      va_Nw.same (u := U) (U := U.calling g mk a) rfl rfl h.2.2.2.2.2.2.2.2.2.2.2.2.2.2.2.2.2.2.2.1,
      va_Nw.same (u := U) (U := U.calling g mk a) rfl rfl h.2.2.2.2.2.2.2.2.2.2.2.2.2.2.2.2.2.2.2.2.1,
      va_Nw.same (u := U) (U := U.calling g mk a) rfl rfl h.2.2.2.2.2.2.2.2.2.2.2.2.2.2.2.2.2.2.2.2.2.1,
      va_Nw.same (u := U) (U := U.calling g mk a) rfl rfl h.2.2.2.2.2.2.2.2.2.2.2.2.2.2.2.2.2.2.2.2.2.2.1,
      va_Nw.same (u := U) (U := U.calling g mk a) rfl rfl h.2.2.2.2.2.2.2.2.2.2.2.2.2.2.2.2.2.2.2.2.2.2.2.1,
      va_Nw.same (u := U) (U := U.calling g mk a) rfl rfl h.2.2.2.2.2.2.2.2.2.2.2.2.2.2.2.2.2.2.2.2.2.2.2.2.1,
      va_Nw.same (u := U) (U := U.calling g mk a) rfl rfl h.2.2.2.2.2.2.2.2.2.2.2.2.2.2.2.2.2.2.2.2.2.2.2.2.2.1,
      va_AO.moved (u := U) (U := U.calling g mk a) (Vm.Alike.refl U.vm) h.2.2.2.2.2.2.2.2.2.2.2.2.2.2.2.2.2.2.2.2.2.2.2.2.2.2.1,
      va_Nw.same (u := U) (U := U.calling g mk a) rfl rfl h.2.2.2.2.2.2.2.2.2.2.2.2.2.2.2.2.2.2.2.2.2.2.2.2.2.2.2⟩
