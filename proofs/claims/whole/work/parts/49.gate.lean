/-! PURE, 29: text on both sides -/
theorem sim_text {X : XS} {σ : Mem} (h : Rel X σ) : Sim (fX8_text X) (fX9_text σ) := by
  obtain ⟨⟨n, K, A, B, W, T, C, V, d, Sd, Pl, F1, F2, hN, hr, hs, hc, hC, hrC, hd, hdo, hD, hrD⟩, ⟨t, ht, t1, t2, t3⟩, g3, g4, g5, g6⟩ := id h
  have hn := hN.1
  have hT : tpe t (fun i => (σ.1 5 i).toNatClampNeg) (X 1) := ⟨ht, t1, fun i hi => by
    obtain ⟨x, b, hb, e⟩ := t3 i hi
    show (X 1).1 0 i = nI (σ.1 5 i).toNatClampNeg ∧ (σ.1 5 i).toNatClampNeg < 256
    rw [x, e, nI_clamp (by omega)]
    exact ⟨rfl, hb⟩⟩
  have hTr : tpr t (fun i => (σ.1 5 i).toNatClampNeg) σ := ⟨ht, t2, fun i hi => by
    obtain ⟨x, b, hb, e⟩ := t3 i hi
    show σ.1 5 i = nI (σ.1 5 i).toNatClampNeg ∧ (σ.1 5 i).toNatClampNeg < 256
    rw [e, nI_clamp (by omega)]
    exact ⟨rfl, hb⟩⟩
  obtain ⟨r, N2, b, σ', s, c1, c2, c3, c4, c5, c6⟩ := both_read (s0 := X 2) hT hn hTr hs.1 g6
  unfold fX8_text fX9_text
  simp only [zl]
  rw [hr.1, c1, p_b2, c2, p_b2, p_lt, p_if]
  generalize hX1 : xs (xs X 2 N2) 1 (mi ((xs X 2 N2) 1) 1 0 (nI 0)) = X1
  generalize hτ : mi σ' 6 0 (nI 0) = τ
  have x2 : X1 2 = N2 := by rw [← hX1, m_xsN _ (by decide), m_xsS]
  have x1 : (X1 1).1 1 0 = nI 0 := by rw [← hX1, m_xsS, m_miS, m_uS]
  have xo : ∀ j, j ≠ 1 → j ≠ 2 → X1 j = X j := fun j a b => by rw [← hX1, m_xsN _ a, m_xsN _ b]
  have y6 : τ.1 6 0 = nI 0 := by rw [← hτ, m_miS, m_uS]
  have y8 : τ.1 8 0 = nI s := by rw [← hτ, m_miN _ (by decide)]; exact c4
  have y11 : τ.1 11 = σ'.1 11 := by rw [← hτ, m_miN _ (by decide)]
  have yo : ∀ j, j ≠ 6 → j ≠ 7 → j ≠ 8 → j ≠ 9 → j ≠ 11 → τ.1 j = σ.1 j := fun j a b c d e => by rw [← hτ, m_miN _ a]; exact c5 j b c d e
  have y0 := yo 0 (by decide) (by decide) (by decide) (by decide) (by decide)
  have base : Rel X1 τ := by
    unfold Rel
    rw [y0, yo 1 (by decide) (by decide) (by decide) (by decide) (by decide), yo 2 (by decide) (by decide) (by decide) (by decide) (by decide), yo 3 (by decide) (by decide) (by decide) (by decide) (by decide), yo 4 (by decide) (by decide) (by decide) (by decide) (by decide), yo 5 (by decide) (by decide) (by decide) (by decide) (by decide), yo 10 (by decide) (by decide) (by decide) (by decide) (by decide), yo 21 (by decide) (by decide) (by decide) (by decide) (by decide), yo 22 (by decide) (by decide) (by decide) (by decide) (by decide), yo 23 (by decide) (by decide) (by decide) (by decide) (by decide), xo 0 (by decide) (by decide), xo 3 (by decide) (by decide), xo 4 (by decide) (by decide), xo 6 (by decide) (by decide), xo 8 (by decide) (by decide), xo 9 (by decide) (by decide), xo 10 (by decide) (by decide)]
    exact ⟨h.1, ⟨0, by decide, x1, y6, fun i hi => by omega⟩, g3, fun k hk => by rw [xo (11 + k) (by omega) (by omega)]; exact g4 k hk, g5, g6⟩
  rcases c6 with ⟨rfl, rfl⟩ | ⟨rfl, rfl, k, a, a2, v, hk, ha, ha2, hv, hv9, v0, v1, v2, v3, u0, u1, u2, u3⟩
  · rw [i_m1 (by omega), if_neg (show ¬ (false = true) by decide), y8]
    exact Sim.i base
  · rw [if_pos (rfl : -nI 1 = -nI 1), if_pos (rfl : true = true), xo 3 (by decide) (by decide), c_full3 (by omega) hr.1, p_b1, p_if, p_ckI (by decide) (by decide), nI_clamp (by decide), y0, hs.1, i_eqP (a := n) (b := 12) (by omega) (by decide)]
    by_cases q : n = 12
    · rw [if_pos (decide_eq_true (show 12 ≤ n by omega)), if_pos q]
      exact Sim.i base
    · have h12 : n < 12 := by omega
      obtain ⟨N3, p1, p2⟩ := c_app3 hr h12 k a a2 v
      obtain ⟨N8, w1, w2⟩ := c_note hd hD 0 n 0 0
      obtain ⟨σ3, z1, z2, z3, z4, z5⟩ := r_text (σ := τ) (K := K) (A := A) (B := B) (W := W) (k := k) (a := a) (b := a2) (v := v) (by rw [y0]; exact hs) h12 (by rw [y11]; exact u0) (by rw [y11]; exact u1) (by rw [y11]; exact u2) (by rw [y11]; exact u3)
      obtain ⟨σ4, s1, s2, s3⟩ := r_does (σ := σ3) (p' := 0) hd (by rw [z3 3 (by decide), z3 4 (by decide), yo 3 (by decide) (by decide) (by decide) (by decide) (by decide), yo 4 (by decide) (by decide) (by decide) (by decide) (by decide)]; exact hrD) 0 n 0 0 (fun z => by omega)
      have o1 : fX3_output N3 = some (nI n) := c_out (n := n + 1) (by omega) p2.1
      rw [if_neg (show ¬ decide (12 ≤ n) = true from fun z => by have := of_decide_eq_true z; omega), if_neg q, x2, v0, v1, v2, v3, p1, p_b1, m_xsS, o1, p_b1, m_xsN _ (show 8 ≠ 3 by decide), xo 8 (by decide) (by decide), w1, p_b1, m_xsN _ (show 3 ≠ 8 by decide), m_xsS, o1, p_b1, z1, s1, p_b1, s3 0 (by decide) (by decide), z2.1, n_sub (by omega), show n + 1 - 1 = n by omega]
      refine Sim.i ⟨⟨n + 1, _, _, _, _, T, C, V, _, _, _, _, _, netOK_ext hN h12 hk ha ha2 hv hv9, p2, ?_, hc, ?_, ?_, pd_le hd, dOK_0 hd hdo, w2, s2⟩, R_rest.same base.2 (fun k h3 h6 h8 => by rw [m_xsN _ h8, m_xsN _ h3]) (fun k h0 h3 h4 => by rw [s3 k h3 h4, z3 k h0])⟩
      · rw [s3 0 (by decide) (by decide)]; exact z2
      · show R_cov T C V (X1 6)
        rw [xo 6 (by decide) (by decide)]
        exact hC
      · rw [s3 0 (by decide) (by decide)]
        exact ⟨by rw [z4, y0]; exact hrC.1, fun i hi => by rw [z5 _ (by omega), z5 _ (by omega), y0]; exact hrC.2 i hi⟩
