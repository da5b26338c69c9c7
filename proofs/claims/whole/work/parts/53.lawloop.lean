/-! THE LAW, 3: the switch and the loop -/
theorem law_and (x : Int32) : ∃ j, j < 32 ∧ x &&& nI 31 = nI j := by
  have e : x = nI x.toBitVec.toNat := by
    apply Int32.toBitVec_inj.1
    show x.toBitVec = BitVec.ofNat 32 x.toBitVec.toNat
    simp
  refine ⟨x.toBitVec.toNat % 32, Nat.mod_lt _ (by omega), ?_⟩
  have h := fa_mask x.toBitVec.toNat 5
  rw [← e] at h
  exact h
theorem law_neg : ∀ L, L < 7 → nI L - nI 7 < 0 := by decide +kernel
theorem law_gd {L i : Nat} (hL : L ≤ 3584) (hi : i ≤ L) (h : ¬ nI L - nI 7 < nI i) : i + 7 ≤ L := by
  rcases Nat.lt_or_ge L 7 with h7 | h7
  · exact absurd (lt_nI (law_neg L h7) (by omega)) h
  · rw [n_sub h7, nI_ltI (by omega) (by omega)] at h
    omega
section LAWL
variable {p : Program} {l : Launch} {e : Env} {s : State} {m : MethodId} {below : List Frame} {meth : Method} {cd : Code} {b L : Nat} {sc : Nat → Int32} {D : va_G} {c : Nat → ClassId} {tb : Nat} {sa sv : Nat → Nat} {a : Nat → Nat → Nat} {X : XS} {a9 : Nat → Nat} {σ : Mem} {H : Heap} {locs : List Loc} {ls : Array Slot} {x3 : Int32} {i : Nat}
set_option maxRecDepth 100000 in
set_option maxHeartbeats 4000000 in
theorem law_disp (C : LC p s m meth cd b L sc D c tb sa sv) (hR : Rel X σ) (hW : L2 D (fun q : Nat => s.heap.size ≤ q) (wX a c X) (wX9 a9 c σ) H) (hS : va_S (fun q : Nat => s.heap.size ≤ q) s.heap H locs) (e3 : x3 = nI i) (hi : i + 7 ≤ L) (hl : lv_has ls 4 (lwl a a9 b x3)) (KK : LKK p l e s m below meth cd b D c a a9 ls) : ∀ j, j < 32 → LW p l e s m below meth cd b H locs 33 ls [.int (nI j)] := by
  obtain ⟨⟨hx, hb, hr, hml, hown, hts, hX, hbl, hlocks, hgv⟩, hL, hK, hE⟩ := id C
  intro j hj
  by_cases h0 : j = 0
  · subst h0
    exact lv_tableIn (off := 135) (tgt := 168) hx hb dL_law_33 (by decide) (by decide) (by decide +kernel) (by decide) (law_case0 C hR hW hS e3 hi hl KK)
  by_cases h1 : j = 1
  · subst h1
    exact lv_tableIn (off := 210) (tgt := 243) hx hb dL_law_33 (by decide) (by decide) (by decide +kernel) (by decide) (law_case1 C hR hW hS e3 hi hl KK)
  by_cases h2 : j = 2
  · subst h2
    exact lv_tableIn (off := 223) (tgt := 256) hx hb dL_law_33 (by decide) (by decide) (by decide +kernel) (by decide) (law_case2 C hR hW hS e3 hi hl KK)
  by_cases h3 : j = 3
  · subst h3
    exact lv_tableIn (off := 256) (tgt := 289) hx hb dL_law_33 (by decide) (by decide) (by decide +kernel) (by decide) (law_case3 C hR hW hS e3 hi hl KK)
  by_cases h4 : j = 4
  · subst h4
    exact lv_tableIn (off := 269) (tgt := 302) hx hb dL_law_33 (by decide) (by decide) (by decide +kernel) (by decide) (law_case4 C hR hW hS e3 hi hl KK)
  by_cases h5 : j = 5
  · subst h5
    exact lv_tableIn (off := 302) (tgt := 335) hx hb dL_law_33 (by decide) (by decide) (by decide +kernel) (by decide) (law_case5 C hR hW hS e3 hi hl KK)
  by_cases h6 : j = 6
  · subst h6
    exact lv_tableIn (off := 335) (tgt := 368) hx hb dL_law_33 (by decide) (by decide) (by decide +kernel) (by decide) (law_case6 C hR hW hS e3 hi hl KK)
  by_cases h7 : j = 7
  · subst h7
    exact lv_tableIn (off := 368) (tgt := 401) hx hb dL_law_33 (by decide) (by decide) (by decide +kernel) (by decide) (law_case7 C hR hW hS e3 hi hl KK)
  by_cases h8 : j = 8
  · subst h8
    exact lv_tableIn (off := 381) (tgt := 414) hx hb dL_law_33 (by decide) (by decide) (by decide +kernel) (by decide) (law_case8 C hR hW hS e3 hi hl KK)
  by_cases h9 : j = 9
  · subst h9
    exact lv_tableIn (off := 424) (tgt := 457) hx hb dL_law_33 (by decide) (by decide) (by decide +kernel) (by decide) (law_case9 C hR hW hS e3 hi hl KK)
  by_cases h10 : j = 10
  · subst h10
    exact lv_tableIn (off := 467) (tgt := 500) hx hb dL_law_33 (by decide) (by decide) (by decide +kernel) (by decide) (law_case10 C hR hW hS e3 hi hl KK)
  by_cases h11 : j = 11
  · subst h11
    exact lv_tableIn (off := 490) (tgt := 523) hx hb dL_law_33 (by decide) (by decide) (by decide +kernel) (by decide) (law_case11 C hR hW hS e3 hi hl KK)
  by_cases h12 : j = 12
  · subst h12
    exact lv_tableIn (off := 513) (tgt := 546) hx hb dL_law_33 (by decide) (by decide) (by decide +kernel) (by decide) (law_case12 C hR hW hS e3 hi hl KK)
  by_cases h13 : j = 13
  · subst h13
    exact lv_tableIn (off := 536) (tgt := 569) hx hb dL_law_33 (by decide) (by decide) (by decide +kernel) (by decide) (law_case13 C hR hW hS e3 hi hl KK)
  by_cases h14 : j = 14
  · subst h14
    exact lv_tableIn (off := 569) (tgt := 602) hx hb dL_law_33 (by decide) (by decide) (by decide +kernel) (by decide) (law_case14 C hR hW hS e3 hi hl KK)
  by_cases h15 : j = 15
  · subst h15
    exact lv_tableIn (off := 592) (tgt := 625) hx hb dL_law_33 (by decide) (by decide) (by decide +kernel) (by decide) (law_case15 C hR hW hS e3 hi hl KK)
  by_cases h16 : j = 16
  · subst h16
    exact lv_tableIn (off := 625) (tgt := 658) hx hb dL_law_33 (by decide) (by decide) (by decide +kernel) (by decide) (law_case16 C hR hW hS e3 hi hl KK)
  by_cases h17 : j = 17
  · subst h17
    exact lv_tableIn (off := 648) (tgt := 681) hx hb dL_law_33 (by decide) (by decide) (by decide +kernel) (by decide) (law_case17 C hR hW hS e3 hi hl KK)
  by_cases h18 : j = 18
  · subst h18
    exact lv_tableIn (off := 671) (tgt := 704) hx hb dL_law_33 (by decide) (by decide) (by decide +kernel) (by decide) (law_case18 C hR hW hS e3 hi hl KK)
  by_cases h19 : j = 19
  · subst h19
    exact lv_tableIn (off := 694) (tgt := 727) hx hb dL_law_33 (by decide) (by decide) (by decide +kernel) (by decide) (law_case19 C hR hW hS e3 hi hl KK)
  by_cases h20 : j = 20
  · subst h20
    exact lv_tableIn (off := 718) (tgt := 751) hx hb dL_law_33 (by decide) (by decide) (by decide +kernel) (by decide) (law_case20 C hR hW hS e3 hi hl KK)
  by_cases h21 : j = 21
  · subst h21
    exact lv_tableIn (off := 771) (tgt := 804) hx hb dL_law_33 (by decide) (by decide) (by decide +kernel) (by decide) (law_case21 C hR hW hS e3 hi hl KK)
  by_cases h22 : j = 22
  · subst h22
    exact lv_tableIn (off := 814) (tgt := 847) hx hb dL_law_33 (by decide) (by decide) (by decide +kernel) (by decide) (law_case22 C hR hW hS e3 hi hl KK)
  by_cases h23 : j = 23
  · subst h23
    exact lv_tableIn (off := 827) (tgt := 860) hx hb dL_law_33 (by decide) (by decide) (by decide +kernel) (by decide) (law_case23 C hR hW hS e3 hi hl KK)
  by_cases h24 : j = 24
  · subst h24
    exact lv_tableIn (off := 840) (tgt := 873) hx hb dL_law_33 (by decide) (by decide) (by decide +kernel) (by decide) (law_case24 C hR hW hS e3 hi hl KK)
  by_cases h25 : j = 25
  · subst h25
    exact lv_tableIn (off := 853) (tgt := 886) hx hb dL_law_33 (by decide) (by decide) (by decide +kernel) (by decide) (law_case25 C hR hW hS e3 hi hl KK)
  by_cases h26 : j = 26
  · subst h26
    exact lv_tableIn (off := 876) (tgt := 909) hx hb dL_law_33 (by decide) (by decide) (by decide +kernel) (by decide) (law_case26 C hR hW hS e3 hi hl KK)
  by_cases h27 : j = 27
  · subst h27
    exact lv_tableIn (off := 919) (tgt := 952) hx hb dL_law_33 (by decide) (by decide) (by decide +kernel) (by decide) (law_case27 C hR hW hS e3 hi hl KK)
  by_cases h28 : j = 28
  · subst h28
    exact lv_tableIn (off := 962) (tgt := 995) hx hb dL_law_33 (by decide) (by decide) (by decide +kernel) (by decide) (law_case28 C hR hW hS e3 hi hl KK)
  by_cases h29 : j = 29
  · subst h29
    exact lv_tableIn (off := 1025) (tgt := 1058) hx hb dL_law_33 (by decide) (by decide) (by decide +kernel) (by decide) (law_case29 C hR hW hS e3 hi hl KK)
  by_cases h30 : j = 30
  · subst h30
    exact lv_tableOut (tgt := 1111) hx hb dL_law_33 (by decide) (by decide) (KK X σ H locs hR hW hS)
  by_cases h31 : j = 31
  · subst h31
    exact lv_tableOut (tgt := 1111) hx hb dL_law_33 (by decide) (by decide) (KK X σ H locs hR hW hS)
  exact absurd hj (by omega)
set_option maxRecDepth 100000 in
set_option maxHeartbeats 4000000 in
/-- at the loop's head, i ints read: class and reference agree -/
theorem law_loop (C : LC p s m meth cd b L sc D c tb sa sv) : ∀ (n i : Nat) (x3 : Int32) (X : XS) (σ : Mem) (H : Heap) (locs : List Loc) (ls : Array Slot), i ≤ L → L + 1 ≤ i + n → x3 = nI i → Rel X σ → L2 D (fun q : Nat => s.heap.size ≤ q) (wX a c X) (wX9 a9 c σ) H → va_S (fun q : Nat => s.heap.size ≤ q) s.heap H locs → lv_has ls 4 (lwl a a9 b x3) → LW p l e s m below meth cd b H locs 18 ls [] := by
  obtain ⟨⟨hx, hb, hr, hml, hown, hts, hX, hbl, hlocks, hgv⟩, hL, hK, hE⟩ := id C
  have hbA : ¬ (fun q : Nat => s.heap.size ≤ q) b := Nat.not_le.mpr hbl
  intro n
  induction n with
  | zero =>
    intro i x3 X σ H locs ls h1 h2
    exact absurd h2 (by omega)
  | succ n ih =>
    intro i x3 X σ H locs ls hiL hin e3 hR hW hS hl
    refine lv_iload_n hx hb dL_law_18 rfl (lv_at hl 3 rfl) ?_
    refine lv_aload_n hx hb dL_law_19 rfl (lv_at hl 0 rfl) ?_
    refine va_slen hx hb hX hbl hbA hS dL_law_20 ?_
    refine lv_bipush (v := nI 7) hx hb dL_law_21 (by decide) ?_
    refine lv_isub hx hb dL_law_23 ?_
    refine lv_icmp_gt (tgt := 1117) hx hb dL_law_24 (by decide) (fun q => ?_) (fun q => ?_)
    · refine lv_iconst (v := 1) hx hb dL_law_1117 (by decide) ?_
      refine va_forget (fun q hq => hS.2.2 q hq) ?_
      exact lw_ret hx hb hr hlocks dL_law_1118
    · have hi : i + 7 ≤ L := law_gd hL hiL (by rw [e3] at q; exact q)
      refine lv_aload_n hx hb dL_law_27 rfl (lv_at hl 0 rfl) ?_
      refine lv_iload_n hx hb dL_law_28 rfl (lv_at hl 3 rfl) ?_
      refine va_sld hx hb hX hbl hbA hS (by rw [e3]; exact vp_in_nI (by omega) (by omega)) dL_law_29 ?_
      refine lv_bipush (v := nI 31) hx hb dL_law_30 (by decide) ?_
      refine lv_iand hx hb dL_law_32 ?_
      obtain ⟨j, hj, ej⟩ := law_and (sc x3.toNatClampNeg)
      rw [ej]
      refine law_disp C hR hW hS e3 hi hl (fun X' σ' H locs hR hW hS => ?_) j hj
      refine lv_iinc (v := nI (i + 7)) (lv' := [(3, .int (nI (i + 7))), (0, .ref b), (1, .ref (a 0 0)), (2, .ref (a9 0))]) hx hb dL_law_1111 hl (k := 3) rfl (by rw [e3, show Int32.ofInt 7 = nI 7 from by decide]; exact nI_add i 7) (by decide) rfl (fun ls hl => ?_)
      refine lv_goto (tgt := 18) hx hb dL_law_1114 (by decide) ?_
      exact ih (i + 7) (nI (i + 7)) X' σ' H locs ls hi (by omega) rfl hR hW hS (lv_sub hl [1, 2, 3, 0] rfl)
end LAWL
