/-! what each method does, as a function: printed by gen.py out of the bytecode -/
def fJ0_checkIndex_df160 (p0 : Int32) (p1 : Int32) : Option Unit := if p0 < 0 then none else if p0 < p1 then some () else none
noncomputable def fX8_isWithin (p0 : Int32) (p1 : Int32) (p2 : Int32) : Option (Int32) :=
  if p0 < p1 then
    (some ((0 : Int32)))
  else
    (if p2 < p0 then
      (some ((0 : Int32)))
    else
      (some ((1 : Int32))))
noncomputable def fX8_isByte (p0 : Int32) : Option (Int32) :=
  b1 (fX8_isWithin p0 (0 : Int32) (255 : Int32)) fun r5 =>
  ckZ r5 <|
  some (r5)
noncomputable def fX6_room (s0 : Mem) : Option (Int32) :=
  some (((30 : Int32) - (s0.1 1 0)))
noncomputable def fX6_append (p0 : Int32) (s0 : Mem) : Option (Mem) :=
  if (30 : Int32) ≤ (s0.1 1 0) then
    (some (s0))
  else
    (ckI (s0.1 1 0) 30 <|
    lt (mi (mi s0 0 ((s0.1 1 0)).toNatClampNeg p0) 1 0 (((mi s0 0 ((s0.1 1 0)).toNatClampNeg p0).1 1 0) + (1 : Int32))) fun m0_26 =>
    some (m0_26))
noncomputable def fX8_feed_b113 (x1 : Int32) (x6 : Int32) (X : XS) : Option (Int32 × XS) :=
  if x1 ≤ (4 : Int32) then
    (some (((X 1).1 1 0), X))
  else
    (b1 (fX6_append x6 (X 1)) fun t0_124 =>
    some ((((xs X 1 t0_124) 1).1 1 0), (xs X 1 t0_124)))
noncomputable def fX8_feed_b99 (x1 : Int32) (x5 : Int32) (x6 : Int32) (X : XS) : Option (Int32 × XS) :=
  if x1 ≤ (3 : Int32) then
    (fX8_feed_b113 x1 x6 X)
  else
    (b1 (fX6_append x5 (X 1)) fun t0_110 =>
    fX8_feed_b113 x1 x6 ((xs X 1 t0_110)))
noncomputable def fX8_feed_b85 (x1 : Int32) (x4 : Int32) (x5 : Int32) (x6 : Int32) (X : XS) : Option (Int32 × XS) :=
  if x1 ≤ (2 : Int32) then
    (fX8_feed_b99 x1 x5 x6 X)
  else
    (b1 (fX6_append x4 (X 1)) fun t0_96 =>
    fX8_feed_b99 x1 x5 x6 ((xs X 1 t0_96)))
noncomputable def fX8_feed (p0 : Int32) (p1 : Int32) (p2 : Int32) (p3 : Int32) (p4 : Int32) (p5 : Int32) (X : XS) : Option (Int32 × XS) :=
  b1 (fX8_isWithin p0 (1 : Int32) (5 : Int32)) fun r3 =>
  if r3 = (0 : Int32) then
    (some ((-2 : Int32), X))
  else
    (b1 (fX8_isByte p1) fun r10 =>
    if r10 = (0 : Int32) then
      (some ((-2 : Int32), X))
    else
      (b1 (fX8_isByte p2) fun r17 =>
      if r17 = (0 : Int32) then
        (some ((-2 : Int32), X))
      else
        (b1 (fX8_isByte p3) fun r25 =>
        if r25 = (0 : Int32) then
          (some ((-2 : Int32), X))
        else
          (b1 (fX8_isByte p4) fun r33 =>
          if r33 = (0 : Int32) then
            (some ((-2 : Int32), X))
          else
            (b1 (fX8_isByte p5) fun r41 =>
            if r41 = (0 : Int32) then
              (some ((-2 : Int32), X))
            else
              (b1 (fX6_room (X 1)) fun r55 =>
              if p0 ≤ r55 then
                (b1 (fX6_append p1 (X 1)) fun t0_69 =>
                if p0 ≤ (1 : Int32) then
                  (fX8_feed_b85 p0 p3 p4 p5 ((xs X 1 t0_69)))
                else
                  (b1 (fX6_append p2 ((xs X 1 t0_69) 1)) fun t0_82 =>
                  fX8_feed_b85 p0 p3 p4 p5 ((xs (xs X 1 t0_69) 1 t0_82))))
              else
                (some ((-4 : Int32), X))))))))
noncomputable def fX6_hasBlank (p0 : Int32) (s0 : Mem) : Option (Int32) :=
  if (s0.1 1 0) ≤ p0 then
    (some ((0 : Int32)))
  else
    (ckI p0 30 <|
    if ((s0.1 0) (p0).toNatClampNeg) = (32 : Int32) then
      (some ((1 : Int32)))
    else
      (some ((0 : Int32))))
noncomputable def fX6_hasLetter (p0 : Int32) (s0 : Mem) : Option (Int32) :=
  if (s0.1 1 0) ≤ p0 then
    (some ((0 : Int32)))
  else
    (ckI p0 30 <|
    if ((s0.1 0) (p0).toNatClampNeg) < (97 : Int32) then
      (some ((0 : Int32)))
    else
      (ckI p0 30 <|
      if (122 : Int32) < ((s0.1 0) (p0).toNatClampNeg) then
        (some ((0 : Int32)))
      else
        (some ((1 : Int32)))))
noncomputable def fX6_hasDigit (p0 : Int32) (s0 : Mem) : Option (Int32) :=
  if (s0.1 1 0) ≤ p0 then
    (some ((0 : Int32)))
  else
    (ckI p0 30 <|
    if ((s0.1 0) (p0).toNatClampNeg) < (48 : Int32) then
      (some ((0 : Int32)))
    else
      (ckI p0 30 <|
      if (57 : Int32) < ((s0.1 0) (p0).toNatClampNeg) then
        (some ((0 : Int32)))
      else
        (some ((1 : Int32)))))
noncomputable def fX6_endOfPiece_b62 (K27 : Int32 → Int32 → Int32 → Option (Int32)) (s0 : Mem) (x2 : Int32) (x3 : Int32) (x4 : Int32) : Option (Int32) :=
  lt (x4 + (1 : Int32)) fun v4_62 =>
  K27 x2 x3 v4_62
noncomputable def fX6_endOfPiece_b49 (K27 : Int32 → Int32 → Int32 → Option (Int32)) (s0 : Mem) (x2 : Int32) (x3 : Int32) (x4 : Int32) : Option (Int32) :=
  if x3 = (0 : Int32) then
    (some (x4))
  else
    (b1 (fX6_hasDigit x4 s0) fun r56 =>
    if r56 = (0 : Int32) then
      (some (x4))
    else
      (fX6_endOfPiece_b62 K27 s0 x2 x3 x4))
noncomputable def fX6_endOfPiece_b27 (s0 : Mem) : Nat → Int32 → Int32 → Int32 → Option (Int32)
  | 0, _, _, _ => none
  | n + 1, x2, x3, x4 =>
    if (s0.1 1 0) ≤ x4 then
      (some (x4))
    else
      (if x2 = (0 : Int32) then
        (fX6_endOfPiece_b49 (fX6_endOfPiece_b27 s0 n) s0 x2 x3 x4)
      else
        (b1 (fX6_hasLetter x4 s0) fun r43 =>
        if r43 = (0 : Int32) then
          (fX6_endOfPiece_b49 (fX6_endOfPiece_b27 s0 n) s0 x2 x3 x4)
        else
          (fX6_endOfPiece_b62 (fX6_endOfPiece_b27 s0 n) s0 x2 x3 x4)))
noncomputable def fX6_endOfPiece (p0 : Int32) (s0 : Mem) : Option (Int32) :=
  if p0 < (s0.1 1 0) then
    (b1 (fX6_hasLetter p0 s0) fun r12 =>
    b1 (fX6_hasDigit p0 s0) fun r18 =>
    lt ((p0 + (1 : Int32))) fun v4_25 =>
    fX6_endOfPiece_b27 s0 FU r12 r18 v4_25)
  else
    (some (p0))
noncomputable def fX2_nextPiece_b43 (s1 : Mem) (s0 : Mem) : Option (Mem) :=
  b1 (fX6_endOfPiece ((s0.1 4 0)) s1) fun r49 =>
  some ((mi s0 5 0 r49))
noncomputable def fX2_nextPiece_b8 (s1 : Mem) : Nat → Mem → Option (Mem)
  | 0, _ => none
  | n + 1, s0 =>
    if (s1.1 1 0) ≤ (s0.1 4 0) then
      (fX2_nextPiece_b43 s1 s0)
    else
      (b1 (fX6_hasBlank ((s0.1 4 0)) s1) fun r24 =>
      if r24 = (0 : Int32) then
        (fX2_nextPiece_b43 s1 s0)
      else
        (fX2_nextPiece_b8 s1 n ((mi s0 4 0 ((s0.1 4 0) + (1 : Int32))))))
noncomputable def fX2_nextPiece (s0 : Mem) (s1 : Mem) : Option (Mem) :=
  fX2_nextPiece_b8 s1 FU ((mi s0 4 0 (s0.1 5 0)))
noncomputable def fX8_wordOf (p0 : Int32) : Option (Nat) :=
  if p0 = (0 : Int32) then
    (some (0))
  else
    (if p0 = (1 : Int32) then
      (some (1))
    else
      (if p0 = (2 : Int32) then
        (some (2))
      else
        (if p0 = (3 : Int32) then
          (some (3))
        else
          (if p0 = (4 : Int32) then
            (some (4))
          else
            (some (5))))))
noncomputable def fJ0_coder_7d493 (q : Nat) : Option (Int32) :=
  if (1 : Int32) = (0 : Int32) then
    (ckP (decide (vp_nar .byte (1 : Int32) = (1 : Int32))) <|
    some ((1 : Int32)))
  else
    (ckP (decide (vp_nar .byte (0 : Int32) = (0 : Int32))) <|
    some ((0 : Int32)))
noncomputable def fJ0_length_8abf5 (q : Nat) : Option (Int32) :=
  b1 (fJ0_coder_7d493 q) fun r6 =>
  some (((nI (slen q)) >>> (r6 &&& 31)))
noncomputable def fJ0_isLatin1_aae02 (q : Nat) : Option (Int32) :=
  if (1 : Int32) = (0 : Int32) then
    (some ((0 : Int32)))
  else
    (if (0 : Int32) = (0 : Int32) then
      (some ((1 : Int32)))
    else
      (some ((0 : Int32))))
noncomputable def fJ1_charAt_3b067 (p0 : Nat) (p1 : Int32) : Option (Int32) :=
  b1 (fJ0_checkIndex_df160 p1 ((nI (slen p0)))) fun u3 =>
  ckI p1 (slen p0) <|
  ckP (decide (vp_nar .char (((((sch p0 (p1).toNatClampNeg) &&& (255 : Int32))).toUInt32 % 65536).toInt32) = (((((sch p0 (p1).toNatClampNeg) &&& (255 : Int32))).toUInt32 % 65536).toInt32))) <|
  some ((((((sch p0 (p1).toNatClampNeg) &&& (255 : Int32))).toUInt32 % 65536).toInt32))
noncomputable def fJ0_charAt_5068e (q : Nat) (p0 : Int32) : Option (Int32) :=
  b1 (fJ0_isLatin1_aae02 q) fun r1 =>
  if r1 = (0 : Int32) then
    none
  else
    (b1 (fJ1_charAt_3b067 q p0) fun r12 =>
    ckP (decide (vp_nar .char r12 = r12)) <|
    some (r12))
noncomputable def fX6_spells_b15 (p2 : Nat) (s0 : Mem) : Nat → Int32 → Int32 → Option (Int32)
  | 0, _, _ => none
  | n + 1, x1, x4 =>
    b1 (fJ0_length_8abf5 p2) fun r18 =>
    if r18 ≤ x4 then
      (some ((1 : Int32)))
    else
      (ckI (x1 + x4) 30 <|
      b1 (fJ0_charAt_5068e p2 x4) fun r36 =>
      if ((s0.1 0) ((x1 + x4)).toNatClampNeg) = r36 then
        (lt (x4 + (1 : Int32)) fun v4_44 =>
        fX6_spells_b15 p2 s0 n x1 v4_44)
      else
        (some ((0 : Int32))))
noncomputable def fX6_spells (p0 : Int32) (p1 : Int32) (p2 : Nat) (s0 : Mem) : Option (Int32) :=
  b1 (fJ0_length_8abf5 p2) fun r4 =>
  if (p1 - p0) = r4 then
    (fX6_spells_b15 p2 s0 FU p0 (0 : Int32))
  else
    (some ((0 : Int32)))
noncomputable def fX2_kindRead_b2 (s0 : Mem) (s1 : Mem) : Nat → Int32 → Option (Int32)
  | 0, _ => none
  | n + 1, x2 =>
    if (6 : Int32) ≤ x2 then
      (some ((-1 : Int32)))
    else
      (b1 (fX8_wordOf x2) fun r18 =>
      ckP (decide (r18 < 6)) <|
      b1 (fX6_spells ((s0.1 4 0)) ((s0.1 5 0)) r18 s1) fun r21 =>
      if r21 = (0 : Int32) then
        (lt (x2 + (1 : Int32)) fun v2_29 =>
        fX2_kindRead_b2 s0 s1 n v2_29)
      else
        (some (x2)))
noncomputable def fX2_kindRead (s0 : Mem) (s1 : Mem) : Option (Int32) :=
  fX2_kindRead_b2 s0 s1 FU (0 : Int32)
noncomputable def fX2_numberRead_b33 (s0 : Mem) (s1 : Mem) : Nat → Int32 → Int32 → Option (Int32)
  | 0, _, _ => none
  | n + 1, x2, x3 =>
    if (s0.1 5 0) ≤ x3 then
      (some (x2))
    else
      (b1 (fX6_hasDigit x3 s1) fun r43 =>
      if r43 = (0 : Int32) then
        (some (x2))
      else
        (ckI x3 30 <|
        lt (((((10 : Int32) * x2) + ((s1.1 0) (x3).toNatClampNeg)) - (48 : Int32))) fun v2_63 =>
        lt (x3 + (1 : Int32)) fun v3_64 =>
        fX2_numberRead_b33 s0 s1 n v2_63 v3_64))
noncomputable def fX2_numberRead (s0 : Mem) (s1 : Mem) : Option (Int32) :=
  b1 (fX6_hasDigit ((s0.1 4 0)) s1) fun r5 =>
  if r5 = (0 : Int32) then
    (some ((-1 : Int32)))
  else
    (if ((s0.1 5 0) - (s0.1 4 0)) ≤ (2 : Int32) then
      (lt ((s0.1 4 0)) fun v3_32 =>
      fX2_numberRead_b33 s0 s1 FU (0 : Int32) v3_32)
    else
      (some ((-1 : Int32))))
noncomputable def fX2_sourceRead (p1 : Int32) (s0 : Mem) (s1 : Mem) : Option (Int32) :=
  b1 (fX6_hasLetter ((s0.1 4 0)) s1) fun r5 =>
  if r5 = (0 : Int32) then
    (b1 (fX2_numberRead s0 s1) fun r53 =>
    if r53 = (-1 : Int32) then
      (some ((-5 : Int32)))
    else
      (if p1 ≤ r53 then
        (some ((-5 : Int32)))
      else
        (some (r53))))
  else
    (ckI (s0.1 4 0) 30 <|
    lt ((((s1.1 0) ((s0.1 4 0)).toNatClampNeg) - (97 : Int32))) fun v3_23 =>
    if ((s0.1 5 0) - (s0.1 4 0)) = (1 : Int32) then
      (if (4 : Int32) ≤ v3_23 then
        (some ((-5 : Int32)))
      else
        (some (((-1 : Int32) - v3_23))))
    else
      (some ((-5 : Int32))))
noncomputable def fX2_read_b106 (s1 : Mem) (s0 : Mem) : Option (Int32 × Mem) :=
  b1 (fX2_nextPiece s0 s1) fun t0_108 =>
  b1 (fX2_numberRead t0_108 s1) fun r114 =>
  b1 (fX8_isWithin (((mi t0_108 3 0 r114).1 3 0)) (1 : Int32) (9 : Int32)) fun r127 =>
  if r127 = (0 : Int32) then
    (some (((mi t0_108 3 0 r114).1 4 0), (mi t0_108 3 0 r114)))
  else
    (b1 (fX2_nextPiece (mi t0_108 3 0 r114) s1) fun t0_140 =>
    if (s1.1 1 0) ≤ (t0_140.1 4 0) then
      (some ((-1 : Int32), t0_140))
    else
      (some ((t0_140.1 4 0), t0_140)))
noncomputable def fX2_read (p1 : Int32) (s0 : Mem) (s1 : Mem) : Option (Int32 × Mem) :=
  b1 (fX2_nextPiece (mi s0 5 0 (0 : Int32)) s1) fun t0_7 =>
  b1 (fX2_kindRead t0_7 s1) fun r13 =>
  if ((mi t0_7 0 0 r13).1 0 0) = (-1 : Int32) then
    (some (((mi t0_7 0 0 r13).1 4 0), (mi t0_7 0 0 r13)))
  else
    (b1 (fX2_nextPiece (mi t0_7 0 0 r13) s1) fun t0_34 =>
    b1 (fX2_sourceRead p1 t0_34 s1) fun r41 =>
    if ((mi t0_34 1 0 r41).1 1 0) = (-5 : Int32) then
      (some (((mi t0_34 1 0 r41).1 4 0), (mi t0_34 1 0 r41)))
    else
      (lt (mi (mi t0_34 1 0 r41) 2 0 ((mi t0_34 1 0 r41).1 1 0)) fun m0_66 =>
      if (m0_66.1 0 0) = (5 : Int32) then
        (fX2_read_b106 s1 m0_66)
      else
        (b1 (fX2_nextPiece m0_66 s1) fun t0_79 =>
        b1 (fX2_sourceRead p1 t0_79 s1) fun r86 =>
        if ((mi t0_79 2 0 r86).1 2 0) = (-5 : Int32) then
          (some (((mi t0_79 2 0 r86).1 4 0), (mi t0_79 2 0 r86)))
        else
          (fX2_read_b106 s1 ((mi t0_79 2 0 r86))))))
noncomputable def fX3_isFull (s0 : Mem) : Option (Int32) :=
  if (s0.1 4 0) < (12 : Int32) then
    (some ((0 : Int32)))
  else
    (some ((1 : Int32)))
noncomputable def fX3_append (p0 : Int32) (p1 : Int32) (p2 : Int32) (p3 : Int32) (s0 : Mem) : Option (Mem) :=
  b1 (fX3_isFull s0) fun r1 =>
  if r1 = (0 : Int32) then
    (ckI (s0.1 4 0) 12 <|
    ckI ((mi s0 0 ((s0.1 4 0)).toNatClampNeg p0).1 4 0) 12 <|
    lt (mi (mi s0 0 ((s0.1 4 0)).toNatClampNeg p0) 1 (((mi s0 0 ((s0.1 4 0)).toNatClampNeg p0).1 4 0)).toNatClampNeg p1) fun m0_27 =>
    ckI (m0_27.1 4 0) 12 <|
    ckI ((mi m0_27 2 ((m0_27.1 4 0)).toNatClampNeg p2).1 4 0) 12 <|
    lt (mi (mi m0_27 2 ((m0_27.1 4 0)).toNatClampNeg p2) 3 (((mi m0_27 2 ((m0_27.1 4 0)).toNatClampNeg p2).1 4 0)).toNatClampNeg p3) fun m0_48 =>
    some ((mi m0_48 4 0 ((m0_48.1 4 0) + (1 : Int32)))))
  else
    (some (s0))
noncomputable def fX3_output (s0 : Mem) : Option (Int32) :=
  some (((s0.1 4 0) - (1 : Int32)))
noncomputable def fX1_forgetEarliest_b2 : Nat → Int32 → Mem → Option (Mem)
  | 0, _, _ => none
  | n + 1, x1, s0 =>
    if (s0.1 4 0) ≤ x1 then
      (some ((mi s0 4 0 ((s0.1 4 0) - (1 : Int32)))))
    else
      (ckI x1 6 <|
      ckI (x1 - (1 : Int32)) 6 <|
      ckI x1 6 <|
      ckI (x1 - (1 : Int32)) 6 <|
      lt (mi (mi s0 0 ((x1 - (1 : Int32))).toNatClampNeg ((s0.1 0) (x1).toNatClampNeg)) 1 ((x1 - (1 : Int32))).toNatClampNeg (((mi s0 0 ((x1 - (1 : Int32))).toNatClampNeg ((s0.1 0) (x1).toNatClampNeg)).1 1) (x1).toNatClampNeg)) fun m0_37 =>
      ckI x1 6 <|
      ckI (x1 - (1 : Int32)) 6 <|
      ckI x1 6 <|
      ckI (x1 - (1 : Int32)) 6 <|
      lt (mi (mi m0_37 2 ((x1 - (1 : Int32))).toNatClampNeg ((m0_37.1 2) (x1).toNatClampNeg)) 3 ((x1 - (1 : Int32))).toNatClampNeg (((mi m0_37 2 ((x1 - (1 : Int32))).toNatClampNeg ((m0_37.1 2) (x1).toNatClampNeg)).1 3) (x1).toNatClampNeg)) fun m0_65 =>
      lt (x1 + (1 : Int32)) fun v1_66 =>
      fX1_forgetEarliest_b2 n v1_66 m0_65)
noncomputable def fX1_forgetEarliest (s0 : Mem) : Option (Mem) :=
  fX1_forgetEarliest_b2 FU (1 : Int32) s0
noncomputable def fX1_note_b13 (x1 : Int32) (x2 : Int32) (x3 : Int32) (x4 : Int32) (s0 : Mem) : Option (Mem) :=
  ckI (s0.1 4 0) 6 <|
  ckI ((mi s0 0 ((s0.1 4 0)).toNatClampNeg x1).1 4 0) 6 <|
  lt (mi (mi s0 0 ((s0.1 4 0)).toNatClampNeg x1) 1 (((mi s0 0 ((s0.1 4 0)).toNatClampNeg x1).1 4 0)).toNatClampNeg x2) fun m0_32 =>
  ckI (m0_32.1 4 0) 6 <|
  ckI ((mi m0_32 2 ((m0_32.1 4 0)).toNatClampNeg x3).1 4 0) 6 <|
  lt (mi (mi m0_32 2 ((m0_32.1 4 0)).toNatClampNeg x3) 3 (((mi m0_32 2 ((m0_32.1 4 0)).toNatClampNeg x3).1 4 0)).toNatClampNeg x4) fun m0_53 =>
  some ((mi m0_53 4 0 ((m0_53.1 4 0) + (1 : Int32))))
noncomputable def fX1_note (p0 : Int32) (p1 : Int32) (p2 : Int32) (p3 : Int32) (s0 : Mem) : Option (Mem) :=
  if (s0.1 4 0) < (6 : Int32) then
    (fX1_note_b13 p0 p1 p2 p3 s0)
  else
    (b1 (fX1_forgetEarliest s0) fun t0_10 =>
    fX1_note_b13 p0 p1 p2 p3 t0_10)
noncomputable def fX8_text (X : XS) : Option (Int32 × XS) :=
  b2 (fX2_read (((X 3).1 4 0)) (X 2) (X 1)) fun r15 t0_15 =>
  if r15 = (-1 : Int32) then
    (b1 (fX3_isFull ((xs (xs X 2 t0_15) 1 (mi ((xs X 2 t0_15) 1) 1 0 (0 : Int32))) 3)) fun r41 =>
    if r41 = (0 : Int32) then
      (b1 (fX3_append ((((xs (xs X 2 t0_15) 1 (mi ((xs X 2 t0_15) 1) 1 0 (0 : Int32))) 2).1 0 0)) ((((xs (xs X 2 t0_15) 1 (mi ((xs X 2 t0_15) 1) 1 0 (0 : Int32))) 2).1 1 0)) ((((xs (xs X 2 t0_15) 1 (mi ((xs X 2 t0_15) 1) 1 0 (0 : Int32))) 2).1 2 0)) ((((xs (xs X 2 t0_15) 1 (mi ((xs X 2 t0_15) 1) 1 0 (0 : Int32))) 2).1 3 0)) ((xs (xs X 2 t0_15) 1 (mi ((xs X 2 t0_15) 1) 1 0 (0 : Int32))) 3)) fun t0_82 =>
      b1 (fX3_output ((xs (xs (xs X 2 t0_15) 1 (mi ((xs X 2 t0_15) 1) 1 0 (0 : Int32))) 3 t0_82) 3)) fun r94 =>
      b1 (fX1_note (0 : Int32) r94 (0 : Int32) (0 : Int32) ((xs (xs (xs X 2 t0_15) 1 (mi ((xs X 2 t0_15) 1) 1 0 (0 : Int32))) 3 t0_82) 8)) fun t0_99 =>
      b1 (fX3_output ((xs (xs (xs (xs X 2 t0_15) 1 (mi ((xs X 2 t0_15) 1) 1 0 (0 : Int32))) 3 t0_82) 8 t0_99) 3)) fun r106 =>
      some (r106, (xs (xs (xs (xs X 2 t0_15) 1 (mi ((xs X 2 t0_15) 1) 1 0 (0 : Int32))) 3 t0_82) 8 t0_99)))
    else
      (some ((-4 : Int32), (xs (xs X 2 t0_15) 1 (mi ((xs X 2 t0_15) 1) 1 0 (0 : Int32))))))
  else
    (some (((-100 : Int32) - r15), (xs (xs X 2 t0_15) 1 (mi ((xs X 2 t0_15) 1) 1 0 (0 : Int32)))))
noncomputable def fX3_has (p0 : Int32) (s0 : Mem) : Option (Int32) :=
  if p0 < (0 : Int32) then
    (some ((0 : Int32)))
  else
    (if (s0.1 4 0) ≤ p0 then
      (some ((0 : Int32)))
    else
      (some ((1 : Int32))))
noncomputable def fX8_delay (p0 : Int32) (p1 : Int32) (X : XS) : Option (Int32 × XS) :=
  b1 (fX3_has p0 (X 3)) fun r5 =>
  if r5 = (0 : Int32) then
    (some ((-2 : Int32), X))
  else
    (b1 (fX8_isWithin p1 (1 : Int32) (9 : Int32)) fun r15 =>
    if r15 = (0 : Int32) then
      (some ((-2 : Int32), X))
    else
      (ckI p0 12 <|
      lt ((((X 3).1 3) (p0).toNatClampNeg)) fun v3_33 =>
      ckI p0 12 <|
      b1 (fX1_note (1 : Int32) p0 v3_33 (0 : Int32) ((xs X 3 (mi (X 3) 3 (p0).toNatClampNeg p1)) 8)) fun t0_52 =>
      some (v3_33, (xs (xs X 3 (mi (X 3) 3 (p0).toNatClampNeg p1)) 8 t0_52))))
noncomputable def fX3_isEmpty (s0 : Mem) : Option (Int32) :=
  if (s0.1 4 0) = (0 : Int32) then
    (some ((1 : Int32)))
  else
    (some ((0 : Int32)))
noncomputable def fX3_removeLast (s0 : Mem) : Option (Mem) :=
  if (s0.1 4 0) ≤ (0 : Int32) then
    (some (s0))
  else
    (some ((mi s0 4 0 ((s0.1 4 0) - (1 : Int32)))))
noncomputable def fX8_drop (X : XS) : Option (Int32 × XS) :=
  b1 (fX3_isEmpty (X 3)) fun r4 =>
  if r4 = (0 : Int32) then
    (b1 (fX3_removeLast (X 3)) fun t0_17 =>
    some ((((xs (xs X 3 t0_17) 8 (mi ((xs X 3 t0_17) 8) 4 0 (0 : Int32))) 3).1 4 0), (xs (xs X 3 t0_17) 8 (mi ((xs X 3 t0_17) 8) 4 0 (0 : Int32)))))
  else
    (some ((-3 : Int32), X))
noncomputable def fX3_findPaths_b2 : Nat → Int32 → Mem → Option (Mem)
  | 0, _, _ => none
  | n + 1, x1, s0 =>
    if (s0.1 4 0) ≤ x1 then
      (some (s0))
    else
      (ckI x1 12 <|
      ckI ((4 : Int32) + ((s0.1 1) (x1).toNatClampNeg)) 16 <|
      ckI x1 12 <|
      ckI ((4 : Int32) + ((s0.1 2) (x1).toNatClampNeg)) 16 <|
      lt ((if ((s0.1 6) (((4 : Int32) + ((s0.1 1) (x1).toNatClampNeg))).toNatClampNeg) < ((s0.1 6) (((4 : Int32) + ((s0.1 2) (x1).toNatClampNeg))).toNatClampNeg) then ((s0.1 6) (((4 : Int32) + ((s0.1 2) (x1).toNatClampNeg))).toNatClampNeg) else ((s0.1 6) (((4 : Int32) + ((s0.1 1) (x1).toNatClampNeg))).toNatClampNeg))) fun v2_39 =>
      ckI x1 12 <|
      ckI ((4 : Int32) + x1) 16 <|
      lt (x1 + (1 : Int32)) fun v1_56 =>
      fX3_findPaths_b2 n v1_56 ((mi s0 6 (((4 : Int32) + x1)).toNatClampNeg (v2_39 + ((s0.1 3) (x1).toNatClampNeg)))))
noncomputable def fX3_findPaths (s0 : Mem) : Option (Mem) :=
  fX3_findPaths_b2 FU (0 : Int32) s0
noncomputable def fX3_pathTo (p0 : Int32) (s0 : Mem) : Option (Int32 × Mem) :=
  b1 (fX3_findPaths s0) fun t0_1 =>
  b1 (fX3_has p0 t0_1) fun r6 =>
  if r6 = (0 : Int32) then
    (some ((0 : Int32), t0_1))
  else
    (ckI ((4 : Int32) + p0) 16 <|
    some (((t0_1.1 6) (((4 : Int32) + p0)).toNatClampNeg), t0_1))
noncomputable def fX3_usersOf_b35 (K4 : Int32 → Int32 → Int32 → Option (Int32)) (s0 : Mem) (x1 : Int32) (x2 : Int32) (x3 : Int32) : Option (Int32) :=
  lt (x3 + (1 : Int32)) fun v3_35 =>
  K4 x1 x2 v3_35
noncomputable def fX3_usersOf_b32 (K4 : Int32 → Int32 → Int32 → Option (Int32)) (s0 : Mem) (x1 : Int32) (x2 : Int32) (x3 : Int32) : Option (Int32) :=
  lt (x2 + (1 : Int32)) fun v2_32 =>
  fX3_usersOf_b35 K4 s0 x1 v2_32 x3
noncomputable def fX3_usersOf_b4 (s0 : Mem) : Nat → Int32 → Int32 → Int32 → Option (Int32)
  | 0, _, _, _ => none
  | n + 1, x1, x2, x3 =>
    if (s0.1 4 0) ≤ x3 then
      (some (x2))
    else
      (ckI x3 12 <|
      if ((s0.1 1) (x3).toNatClampNeg) = x1 then
        (fX3_usersOf_b32 (fX3_usersOf_b4 s0 n) s0 x1 x2 x3)
      else
        (ckI x3 12 <|
        if ((s0.1 2) (x3).toNatClampNeg) = x1 then
          (fX3_usersOf_b32 (fX3_usersOf_b4 s0 n) s0 x1 x2 x3)
        else
          (fX3_usersOf_b35 (fX3_usersOf_b4 s0 n) s0 x1 x2 x3)))
noncomputable def fX3_usersOf (p0 : Int32) (s0 : Mem) : Option (Int32) :=
  fX3_usersOf_b4 s0 FU p0 (0 : Int32) (0 : Int32)
noncomputable def fX8_gate (p0 : Int32) (p1 : Int32) (X : XS) : Option (Int32 × XS) :=
  b1 (fX3_has p0 (X 3)) fun r5 =>
  if r5 = (0 : Int32) then
    (some ((-2 : Int32), X))
  else
    (if p1 = (0 : Int32) then
      (ckI p0 12 <|
      some ((((X 3).1 0) (p0).toNatClampNeg), X))
    else
      (if p1 = (1 : Int32) then
        (ckI p0 12 <|
        some ((((X 3).1 1) (p0).toNatClampNeg), X))
      else
        (if p1 = (2 : Int32) then
          (ckI p0 12 <|
          some ((((X 3).1 2) (p0).toNatClampNeg), X))
        else
          (if p1 = (3 : Int32) then
            (ckI p0 12 <|
            some ((((X 3).1 3) (p0).toNatClampNeg), X))
          else
            (if p1 = (4 : Int32) then
              (b2 (fX3_pathTo p0 (X 3)) fun r97 t0_97 =>
              some (r97, (xs X 3 t0_97)))
            else
              (if p1 = (5 : Int32) then
                (b1 (fX3_usersOf p0 (X 3)) fun r106 =>
                some (r106, X))
              else
                (some ((-2 : Int32), X))))))))
noncomputable def fX8_isKindOrUnder_b14 (x0 : Int32) (x1 : Int32) : Option (Int32) :=
  if x0 = (3 : Int32) then
    (if x1 = (2 : Int32) then
      (some ((1 : Int32)))
    else
      (some ((0 : Int32))))
  else
    (some ((0 : Int32)))
noncomputable def fX8_isKindOrUnder (p0 : Int32) (p1 : Int32) : Option (Int32) :=
  if p0 = p1 then
    (some ((1 : Int32)))
  else
    (if p0 = (1 : Int32) then
      (if p1 = (0 : Int32) then
        (some ((1 : Int32)))
      else
        (fX8_isKindOrUnder_b14 p0 p1))
    else
      (fX8_isKindOrUnder_b14 p0 p1))
noncomputable def fX8_taken (p0 : Int32) (p1 : Int32) (X : XS) : Option (Int32) :=
  b1 (fX3_has p0 (X 3)) fun r5 =>
  if r5 = (0 : Int32) then
    (some ((-2 : Int32)))
  else
    (b1 (fX8_isWithin p1 (0 : Int32) (5 : Int32)) fun r14 =>
    if r14 = (0 : Int32) then
      (some ((-2 : Int32)))
    else
      (ckI p0 12 <|
      b1 (fX8_isKindOrUnder ((((X 3).1 0) (p0).toNatClampNeg)) p1) fun r33 =>
      if r33 = (0 : Int32) then
        (some ((-13 : Int32)))
      else
        (ckI p0 12 <|
        some ((((X 3).1 3) (p0).toNatClampNeg)))))
noncomputable def fX8_isStand (p0 : Int32) : Option (Int32) :=
  b1 (fX8_isWithin p0 (0 : Int32) (15 : Int32)) fun r4 =>
  ckZ r4 <|
  some (r4)
noncomputable def fX8_combined (p0 : Int32) (p1 : Int64) (p2 : Int64) : Option (Int64) :=
  if p0 = (0 : Int32) then
    (some ((p1 &&& p2)))
  else
    (if p0 = (1 : Int32) then
      (some (((p1 &&& p2) ^^^ (-1 : Int64))))
    else
      (if p0 = (2 : Int32) then
        (some ((p1 ||| p2)))
      else
        (if p0 = (3 : Int32) then
          (some (((p1 ||| p2) ^^^ (-1 : Int64))))
        else
          (if p0 = (4 : Int32) then
            (some ((p1 ^^^ p2)))
          else
            (some ((p1 ^^^ (-1 : Int64))))))))
noncomputable def fX3_findTables_b2 : Nat → Int32 → Mem → Option (Mem)
  | 0, _, _ => none
  | n + 1, x1, s0 =>
    if (s0.1 4 0) ≤ x1 then
      (some (s0))
    else
      (ckI x1 12 <|
      ckI ((4 : Int32) + ((s0.1 1) (x1).toNatClampNeg)) 16 <|
      lt (((((s0.1 5) (((4 : Int32) + ((s0.1 1) (x1).toNatClampNeg))).toNatClampNeg)).toInt64)) fun v2_24 =>
      ckI x1 12 <|
      ckI ((4 : Int32) + ((s0.1 2) (x1).toNatClampNeg)) 16 <|
      lt (((((s0.1 5) (((4 : Int32) + ((s0.1 2) (x1).toNatClampNeg))).toNatClampNeg)).toInt64)) fun v4_39 =>
      ckI x1 12 <|
      b1 (fX8_combined (((s0.1 0) (x1).toNatClampNeg)) v2_24 v4_39) fun r57 =>
      ckI ((4 : Int32) + x1) 16 <|
      lt (x1 + (1 : Int32)) fun v1_66 =>
      fX3_findTables_b2 n v1_66 ((mi s0 5 (((4 : Int32) + x1)).toNatClampNeg (((r57 &&& (65535 : Int64))).toInt32))))
noncomputable def fX3_findTables (s0 : Mem) : Option (Mem) :=
  fX3_findTables_b2 FU (0 : Int32) s0
noncomputable def fX3_tableOf (p0 : Int32) (s0 : Mem) : Option (Int32 × Mem) :=
  b1 (fX3_findTables s0) fun t0_1 =>
  b1 (fX3_has p0 t0_1) fun r6 =>
  if r6 = (0 : Int32) then
    (some ((0 : Int32), t0_1))
  else
    (ckI ((4 : Int32) + p0) 16 <|
    some (((t0_1.1 5) (((4 : Int32) + p0)).toNatClampNeg), t0_1))
noncomputable def fX8_tells (p0 : Int32) (p1 : Int32) (X : XS) : Option (Int32 × XS) :=
  b1 (fX3_has p0 (X 3)) fun r5 =>
  if r5 = (0 : Int32) then
    (some ((-2 : Int32), X))
  else
    (b1 (fX8_isStand p1) fun r12 =>
    if r12 = (0 : Int32) then
      (some ((-2 : Int32), X))
    else
      (b2 (fX3_tableOf p0 (X 3)) fun r26 t0_26 =>
      some (((r26 >>> (p1 &&& 31)) &&& (1 : Int32)), (xs X 3 t0_26))))
noncomputable def fX8_table (X : XS) : Option (Int32 × XS) :=
  b1 (fX3_isEmpty (X 3)) fun r4 =>
  if r4 = (0 : Int32) then
    (b1 (fX3_output (X 3)) fun r23 =>
    b2 (fX3_tableOf r23 (X 3)) fun r26 t0_26 =>
    some (r26, (xs X 3 t0_26)))
  else
    (some ((-3 : Int32), X))
noncomputable def fX8_isChange (p0 : Int32) (p1 : Int32) : Option (Int32) :=
  b1 (fX8_isStand p0) fun r1 =>
  if r1 = (0 : Int32) then
    (some ((0 : Int32)))
  else
    (b1 (fX8_isStand p1) fun r8 =>
    if r8 = (0 : Int32) then
      (some ((0 : Int32)))
    else
      (if p0 = p1 then
        (some ((0 : Int32)))
      else
        (some ((1 : Int32)))))
noncomputable def fX3_rowTells (p0 : Int32) (p1 : Int32) (s0 : Mem) : Option (Int32) :=
  ckI p0 16 <|
  some (((((s0.1 5) (p0).toNatClampNeg) >>> (p1 &&& 31)) &&& (1 : Int32)))
noncomputable def fX7_lateLow_b13 (s0 : Mem) (x1 : Int32) (x2 : Int32) (y0 : Int64) : Option (Int64) :=
  ckI x1 16 <|
  some (((jlshl ((s0.2 0) (x1).toNatClampNeg) x2) ||| y0))
noncomputable def fX7_lateLow (p0 : Int32) (p1 : Int32) (p2 : Int32) (s0 : Mem) : Option (Int64) :=
  if p2 = (0 : Int32) then
    (fX7_lateLow_b13 s0 p0 p1 (0 : Int64))
  else
    (fX7_lateLow_b13 s0 p0 p1 (((jlshl (1 : Int64) p1) - (1 : Int64))))
noncomputable def fX7_lateHigh (p0 : Int32) (p1 : Int32) (s0 : Mem) : Option (Int64) :=
  ckI p0 16 <|
  ckI p0 16 <|
  some (((jlshl ((s0.2 1) (p0).toNatClampNeg) p1) ||| (jlushr ((s0.2 0) (p0).toNatClampNeg) ((64 : Int32) - p1))))
noncomputable def fX7_runGate (p1 : Int32) (p2 : Int32) (s0 : Mem) (s1 : Mem) : Option (Mem) :=
  ckI p1 12 <|
  lt (((s1.1 0) (p1).toNatClampNeg)) fun v4_6 =>
  ckI p1 12 <|
  lt (((s1.1 3) (p1).toNatClampNeg)) fun v5_14 =>
  ckI p1 12 <|
  lt (((4 : Int32) + ((s1.1 1) (p1).toNatClampNeg))) fun v6_24 =>
  ckI p1 12 <|
  lt (((4 : Int32) + ((s1.1 2) (p1).toNatClampNeg))) fun v7_34 =>
  b1 (fX3_rowTells v6_24 p2 s1) fun r54 =>
  b1 (fX7_lateLow v6_24 v5_14 r54 s0) fun r57 =>
  b1 (fX3_rowTells v7_34 p2 s1) fun r69 =>
  b1 (fX7_lateLow v7_34 v5_14 r69 s0) fun r72 =>
  b1 (fX8_combined v4_6 r57 r72) fun r75 =>
  ckI ((4 : Int32) + p1) 16 <|
  b1 (fX7_lateHigh v6_24 v5_14 (ml s0 0 (((4 : Int32) + p1)).toNatClampNeg r75)) fun r93 =>
  b1 (fX7_lateHigh v7_34 v5_14 (ml s0 0 (((4 : Int32) + p1)).toNatClampNeg r75)) fun r101 =>
  b1 (fX8_combined v4_6 r93 r101) fun r104 =>
  ckI ((4 : Int32) + p1) 16 <|
  lt (ml (ml s0 0 (((4 : Int32) + p1)).toNatClampNeg r75) 1 (((4 : Int32) + p1)).toNatClampNeg r104) fun m0_107 =>
  some (m0_107)
noncomputable def fX7_run_b52 : Nat → Int32 → Int32 → Mem → Mem → Option (Mem × Mem)
  | 0, _, _, _, _ => none
  | n + 1, x2, x4, s0, s1 =>
    if (s1.1 4 0) ≤ x4 then
      (b1 (fX3_output s1) fun r78 =>
      b1 (fX3_rowTells (((mi s0 2 0 ((4 : Int32) + r78)).1 2 0)) x2 s1) fun r92 =>
      lt (mi (mi s0 2 0 ((4 : Int32) + r78)) 3 0 r92) fun m0_95 =>
      some (m0_95, s1))
    else
      (b1 (fX7_runGate x4 x2 s0 s1) fun t0_66 =>
      lt (x4 + (1 : Int32)) fun v4_69 =>
      fX7_run_b52 n x2 v4_69 t0_66 s1)
noncomputable def fX7_run_b7 : Nat → Int32 → Int32 → Int32 → Mem → Mem → Option (Mem × Mem)
  | 0, _, _, _, _, _ => none
  | n + 1, x2, x3, x4, s0, s1 =>
    if (4 : Int32) ≤ x4 then
      (fX7_run_b52 FU x2 (0 : Int32) s0 s1)
    else
      (b1 (fX3_rowTells x4 x3 s1) fun r23 =>
      ckI x4 16 <|
      ckI x4 16 <|
      ckI x4 16 <|
      lt (ml (ml s0 0 (x4).toNatClampNeg (((-r23)).toInt64)) 1 (x4).toNatClampNeg (((ml s0 0 (x4).toNatClampNeg (((-r23)).toInt64)).2 0) (x4).toNatClampNeg)) fun m0_42 =>
      lt (x4 + (1 : Int32)) fun v4_43 =>
      fX7_run_b7 n x2 x3 v4_43 m0_42 s1)
noncomputable def fX7_run (p1 : Int32) (p2 : Int32) (s0 : Mem) (s1 : Mem) : Option (Mem × Mem) :=
  b1 (fX3_findTables s1) fun t0_1 =>
  fX7_run_b7 FU p1 p2 (0 : Int32) s0 t0_1
noncomputable def fX7_at (p0 : Int32) (s0 : Mem) : Option (Int32) :=
  if (0 : Int32) ≤ p0 then
    (if (64 : Int32) ≤ p0 then
      (ckI (s0.1 2 0) 16 <|
      lt ((jlushr ((s0.2 1) ((s0.1 2 0)).toNatClampNeg) (p0 - (64 : Int32)))) fun v2_43 =>
      some ((((v2_43 &&& (1 : Int64))).toInt32)))
    else
      (ckI (s0.1 2 0) 16 <|
      lt ((jlushr ((s0.2 0) ((s0.1 2 0)).toNatClampNeg) p0)) fun v2_43 =>
      some ((((v2_43 &&& (1 : Int64))).toInt32))))
  else
    (some ((s0.1 3 0)))
noncomputable def fX8_wave (p0 : Int32) (p1 : Int32) (p2 : Int32) (X : XS) : Option (Int32 × XS) :=
  b1 (fX8_isChange p0 p1) fun r2 =>
  if r2 = (0 : Int32) then
    (some ((-2 : Int32), X))
  else
    (b1 (fX8_isWithin p2 (0 : Int32) (108 : Int32)) fun r12 =>
    if r12 = (0 : Int32) then
      (some ((-2 : Int32), X))
    else
      (b1 (fX3_isEmpty (X 3)) fun r25 =>
      if r25 = (0 : Int32) then
        (b2 (fX7_run p0 p1 (X 5) (X 3)) fun t0_44 t1_44 =>
        b1 (fX7_at p2 ((xs (xs X 5 t0_44) 3 t1_44) 5)) fun r52 =>
        some (r52, (xs (xs X 5 t0_44) 3 t1_44)))
      else
        (some ((-3 : Int32), X))))
noncomputable def fJ13_bitCount_95d88 (p0 : Int64) : Option (Int32) :=
  lt ((p0 - ((jlushr p0 (1 : Int32)) &&& (6148914691236517205 : Int64)))) fun v0_9 =>
  lt (((v0_9 &&& (3689348814741910323 : Int64)) + ((jlushr v0_9 (2 : Int32)) &&& (3689348814741910323 : Int64)))) fun v0_23 =>
  lt (((v0_23 + (jlushr v0_23 (4 : Int32))) &&& (1085102592571150095 : Int64))) fun v0_33 =>
  lt ((v0_33 + (jlushr v0_33 (8 : Int32)))) fun v0_40 =>
  lt ((v0_40 + (jlushr v0_40 (16 : Int32)))) fun v0_47 =>
  lt ((v0_47 + (jlushr v0_47 (32 : Int32)))) fun v0_54 =>
  some ((((v0_54).toInt32) &&& (127 : Int32)))
noncomputable def fX7_flips (s0 : Mem) : Option (Int32) :=
  ckI (s0.1 2 0) 16 <|
  lt (((s0.2 0) ((s0.1 2 0)).toNatClampNeg)) fun v1_9 =>
  ckI (s0.1 2 0) 16 <|
  lt (((s0.2 1) ((s0.1 2 0)).toNatClampNeg)) fun v3_19 =>
  b1 (fJ13_bitCount_95d88 ((v1_9 ^^^ ((jlshl v1_9 (1 : Int32)) ||| (((s0.1 3 0)).toInt64))))) fun r31 =>
  b1 (fJ13_bitCount_95d88 ((v3_19 ^^^ ((jlshl v3_19 (1 : Int32)) ||| (jlushr v1_9 (63 : Int32)))))) fun r44 =>
  some ((r31 + r44))
noncomputable def fX7_glitch (s0 : Mem) : Option (Int32) :=
  b1 (fX7_flips s0) fun r1 =>
  b1 (fX7_at (108 : Int32) s0) fun r8 =>
  if r8 = (s0.1 3 0) then
    (if r1 ≤ (0 : Int32) then
      (some ((0 : Int32)))
    else
      (some ((1 : Int32))))
  else
    (if r1 ≤ (1 : Int32) then
      (some ((0 : Int32)))
    else
      (some ((2 : Int32))))
noncomputable def fX7_settles_b3 (s0 : Mem) : Nat → Int32 → Option (Int32)
  | 0, _ => none
  | n + 1, x1 =>
    if x1 < (0 : Int32) then
      (some ((-1 : Int32)))
    else
      (b1 (fX7_at x1 s0) fun r9 =>
      b1 (fX7_at ((x1 - (1 : Int32))) s0) fun r16 =>
      if r9 = r16 then
        (lt (x1 + (-1 : Int32)) fun v1_24 =>
        fX7_settles_b3 s0 n v1_24)
      else
        (some (x1)))
noncomputable def fX7_settles (s0 : Mem) : Option (Int32) :=
  fX7_settles_b3 s0 FU (108 : Int32)
noncomputable def fX8_change (p0 : Int32) (p1 : Int32) (p2 : Int32) (X : XS) : Option (Int32 × XS) :=
  b1 (fX8_isChange p0 p1) fun r2 =>
  if r2 = (0 : Int32) then
    (some ((-2 : Int32), X))
  else
    (b1 (fX8_isWithin p2 (0 : Int32) (2 : Int32)) fun r11 =>
    if r11 = (0 : Int32) then
      (some ((-2 : Int32), X))
    else
      (b1 (fX3_isEmpty (X 3)) fun r24 =>
      if r24 = (0 : Int32) then
        (b2 (fX7_run p0 p1 (X 5) (X 3)) fun t0_43 t1_43 =>
        if p2 = (0 : Int32) then
          (b1 (fX7_flips ((xs (xs X 5 t0_43) 3 t1_43) 5)) fun r76 =>
          some (r76, (xs (xs X 5 t0_43) 3 t1_43)))
        else
          (if p2 = (1 : Int32) then
            (b1 (fX7_glitch ((xs (xs X 5 t0_43) 3 t1_43) 5)) fun r84 =>
            some (r84, (xs (xs X 5 t0_43) 3 t1_43)))
          else
            (b1 (fX7_settles ((xs (xs X 5 t0_43) 3 t1_43) 5)) fun r92 =>
            some (r92, (xs (xs X 5 t0_43) 3 t1_43)))))
      else
        (some ((-3 : Int32), X))))
noncomputable def fJ6_bitCount_0f7a4 (p0 : Int32) : Option (Int32) :=
  lt ((p0 - ((jiushr p0 (1 : Int32)) &&& (1431655765 : Int32)))) fun v0_9 =>
  lt (((v0_9 &&& (858993459 : Int32)) + ((jiushr v0_9 (2 : Int32)) &&& (858993459 : Int32)))) fun v0_23 =>
  lt (((v0_23 + (jiushr v0_23 (4 : Int32))) &&& (252645135 : Int32))) fun v0_33 =>
  lt ((v0_33 + (jiushr v0_33 (8 : Int32)))) fun v0_40 =>
  lt ((v0_40 + (jiushr v0_40 (16 : Int32)))) fun v0_47 =>
  some ((v0_47 &&& (63 : Int32)))
noncomputable def fX8_isOneInputChange (p0 : Int32) (p1 : Int32) : Option (Int32) :=
  b1 (fJ6_bitCount_0f7a4 ((p0 ^^^ p1))) fun r3 =>
  if r3 = (1 : Int32) then
    (some ((1 : Int32)))
  else
    (some ((0 : Int32)))
noncomputable def fX8_worst_b106 (K45 : Int32 → Int32 → Int32 → Int32 → Int32 → Int32 → XS → Option (Int32 × XS)) (x1 : Int32) (x2 : Int32) (x3 : Int32) (x4 : Int32) (x5 : Int32) (x6 : Int32) (X : XS) : Option (Int32 × XS) :=
  lt (x6 + (1 : Int32)) fun v6_106 =>
  K45 x1 x2 x3 x4 x5 v6_106 X
noncomputable def fX8_worst_b45 (K35 : Int32 → Int32 → Int32 → Int32 → Int32 → XS → Option (Int32 × XS)) : Nat → Int32 → Int32 → Int32 → Int32 → Int32 → Int32 → XS → Option (Int32 × XS)
  | 0, _, _, _, _, _, _, _ => none
  | n + 1, x1, x2, x3, x4, x5, x6, X =>
    if (16 : Int32) ≤ x6 then
      (lt (x5 + (1 : Int32)) fun v5_112 =>
      K35 x1 x2 x3 x4 v5_112 X)
    else
      (b1 (fX8_isOneInputChange x5 x6) fun r56 =>
      if r56 = (0 : Int32) then
        (fX8_worst_b106 (fX8_worst_b45 K35 n) x1 x2 x3 x4 x5 x6 X)
      else
        (b2 (fX7_run x5 x6 (X 5) (X 3)) fun t0_77 t1_77 =>
        b1 (fX7_flips ((xs (xs X 5 t0_77) 3 t1_77) 5)) fun r84 =>
        if r84 ≤ x4 then
          (fX8_worst_b106 (fX8_worst_b45 K35 n) x1 x2 x3 x4 x5 x6 ((xs (xs X 5 t0_77) 3 t1_77)))
        else
          (fX8_worst_b106 (fX8_worst_b45 K35 n) x1 x5 x6 r84 x5 x6 ((xs (xs X 5 t0_77) 3 t1_77)))))
noncomputable def fX8_worst_b35 : Nat → Int32 → Int32 → Int32 → Int32 → Int32 → XS → Option (Int32 × XS)
  | 0, _, _, _, _, _, _ => none
  | n + 1, x1, x2, x3, x4, x5, X =>
    if (16 : Int32) ≤ x5 then
      (if x1 = (0 : Int32) then
        (some (x2, X))
      else
        (if x1 = (1 : Int32) then
          (some (x3, X))
        else
          (some (x4, X))))
    else
      (fX8_worst_b45 (fX8_worst_b35 n) FU x1 x2 x3 x4 x5 (0 : Int32) X)
noncomputable def fX8_worst (p0 : Int32) (X : XS) : Option (Int32 × XS) :=
  b1 (fX8_isWithin p0 (0 : Int32) (2 : Int32)) fun r3 =>
  if r3 = (0 : Int32) then
    (some ((-2 : Int32), X))
  else
    (b1 (fX3_isEmpty (X 3)) fun r16 =>
    if r16 = (0 : Int32) then
      (fX8_worst_b35 FU p0 (0 : Int32) (0 : Int32) (-1 : Int32) (0 : Int32) X)
    else
      (some ((-3 : Int32), X)))
noncomputable def fX8_glitches_b85 (K38 : Int32 → Int32 → Int32 → Int32 → XS → Option (Int32 × XS)) (x1 : Int32) (x2 : Int32) (x3 : Int32) (x4 : Int32) (X : XS) : Option (Int32 × XS) :=
  lt (x4 + (1 : Int32)) fun v4_85 =>
  K38 x1 x2 x3 v4_85 X
noncomputable def fX8_glitches_b38 (K29 : Int32 → Int32 → Int32 → XS → Option (Int32 × XS)) : Nat → Int32 → Int32 → Int32 → Int32 → XS → Option (Int32 × XS)
  | 0, _, _, _, _, _ => none
  | n + 1, x1, x2, x3, x4, X =>
    if (16 : Int32) ≤ x4 then
      (lt (x3 + (1 : Int32)) fun v3_91 =>
      K29 x1 x2 v3_91 X)
    else
      (b1 (fX8_isOneInputChange x3 x4) fun r48 =>
      if r48 = (0 : Int32) then
        (fX8_glitches_b85 (fX8_glitches_b38 K29 n) x1 x2 x3 x4 X)
      else
        (b2 (fX7_run x3 x4 (X 5) (X 3)) fun t0_68 t1_68 =>
        b1 (fX7_glitch ((xs (xs X 5 t0_68) 3 t1_68) 5)) fun r75 =>
        if r75 = x1 then
          (lt (x2 + (1 : Int32)) fun v2_82 =>
          fX8_glitches_b85 (fX8_glitches_b38 K29 n) x1 v2_82 x3 x4 ((xs (xs X 5 t0_68) 3 t1_68)))
        else
          (fX8_glitches_b85 (fX8_glitches_b38 K29 n) x1 x2 x3 x4 ((xs (xs X 5 t0_68) 3 t1_68)))))
noncomputable def fX8_glitches_b29 : Nat → Int32 → Int32 → Int32 → XS → Option (Int32 × XS)
  | 0, _, _, _, _ => none
  | n + 1, x1, x2, x3, X =>
    if (16 : Int32) ≤ x3 then
      (some (x2, X))
    else
      (fX8_glitches_b38 (fX8_glitches_b29 n) FU x1 x2 x3 (0 : Int32) X)
noncomputable def fX8_glitches (p0 : Int32) (X : XS) : Option (Int32 × XS) :=
  b1 (fX8_isWithin p0 (0 : Int32) (2 : Int32)) fun r3 =>
  if r3 = (0 : Int32) then
    (some ((-2 : Int32), X))
  else
    (b1 (fX3_isEmpty (X 3)) fun r16 =>
    if r16 = (0 : Int32) then
      (fX8_glitches_b29 FU p0 (0 : Int32) (0 : Int32) X)
    else
      (some ((-3 : Int32), X)))
noncomputable def fX3_backOnPath_b48 (s0 : Mem) (y0 : Int32) : Option (Int32) :=
  b1 (fX3_has y0 s0) fun r53 =>
  if r53 = (0 : Int32) then
    (some ((-1 : Int32)))
  else
    (some (y0))
noncomputable def fX3_backOnPath (p0 : Int32) (s0 : Mem) : Option (Int32) :=
  b1 (fX3_has p0 s0) fun r2 =>
  if r2 = (0 : Int32) then
    (some ((-1 : Int32)))
  else
    (ckI p0 12 <|
    lt (((s0.1 1) (p0).toNatClampNeg)) fun v2_16 =>
    ckI p0 12 <|
    lt (((s0.1 2) (p0).toNatClampNeg)) fun v3_23 =>
    ckI ((4 : Int32) + v3_23) 16 <|
    ckI ((4 : Int32) + v2_16) 16 <|
    if ((s0.1 6) (((4 : Int32) + v3_23)).toNatClampNeg) ≤ ((s0.1 6) (((4 : Int32) + v2_16)).toNatClampNeg) then
      (fX3_backOnPath_b48 s0 v2_16)
    else
      (fX3_backOnPath_b48 s0 v3_23))
noncomputable def fX8_path_b37 : Nat → Int32 → Int32 → Int32 → XS → Option (Int32 × XS)
  | 0, _, _, _, _ => none
  | n + 1, x1, x2, x3, X =>
    if x1 ≤ x3 then
      (some (x2, X))
    else
      (if x2 = (-1 : Int32) then
        (some (x2, X))
      else
        (b1 (fX3_backOnPath x2 (X 3)) fun r52 =>
        lt (x3 + (1 : Int32)) fun v3_56 =>
        fX8_path_b37 n x1 r52 v3_56 X))
noncomputable def fX8_path (p0 : Int32) (X : XS) : Option (Int32 × XS) :=
  if (0 : Int32) ≤ p0 then
    (b1 (fX3_isEmpty (X 3)) fun r11 =>
    if r11 = (0 : Int32) then
      (b1 (fX3_findPaths (X 3)) fun t0_24 =>
      b1 (fX3_output ((xs X 3 t0_24) 3)) fun r31 =>
      fX8_path_b37 FU p0 r31 (0 : Int32) ((xs X 3 t0_24)))
    else
      (some ((-3 : Int32), X)))
  else
    (some ((-2 : Int32), X))
noncomputable def fX0_isFull (s0 : Mem) : Option (Int32) :=
  if (s0.1 2 0) < (8 : Int32) then
    (some ((0 : Int32)))
  else
    (some ((1 : Int32)))
noncomputable def fX0_insert_b26 : Nat → Int32 → Int32 → Int32 → Int32 → Mem → Option (Mem)
  | 0, _, _, _, _, _ => none
  | n + 1, x1, x2, x3, x4, s0 =>
    if x4 ≤ x1 then
      (ckI x1 8 <|
      ckI x1 8 <|
      lt (mi (mi s0 0 (x1).toNatClampNeg x2) 1 (x1).toNatClampNeg x3) fun m0_83 =>
      some ((mi m0_83 2 0 ((m0_83.1 2 0) + (1 : Int32)))))
    else
      (ckI (x4 - (1 : Int32)) 8 <|
      ckI x4 8 <|
      ckI (x4 - (1 : Int32)) 8 <|
      ckI x4 8 <|
      lt (mi (mi s0 0 (x4).toNatClampNeg ((s0.1 0) ((x4 - (1 : Int32))).toNatClampNeg)) 1 (x4).toNatClampNeg (((mi s0 0 (x4).toNatClampNeg ((s0.1 0) ((x4 - (1 : Int32))).toNatClampNeg)).1 1) ((x4 - (1 : Int32))).toNatClampNeg)) fun m0_63 =>
      lt (x4 + (-1 : Int32)) fun v4_64 =>
      fX0_insert_b26 n x1 x2 x3 v4_64 m0_63)
noncomputable def fX0_insert (p0 : Int32) (p1 : Int32) (p2 : Int32) (s0 : Mem) : Option (Mem) :=
  b1 (fX0_isFull s0) fun r1 =>
  if r1 = (0 : Int32) then
    (if p0 < (0 : Int32) then
      (some (s0))
    else
      (if p0 ≤ (s0.1 2 0) then
        (lt ((s0.1 2 0)) fun v4_24 =>
        fX0_insert_b26 FU p0 p1 p2 v4_24 s0)
      else
        (some (s0))))
  else
    (some (s0))
noncomputable def fX8_addTerm (p0 : Int32) (p1 : Int32) (X : XS) : Option (Int32 × XS) :=
  b1 (fX8_isStand p0) fun r1 =>
  if r1 = (0 : Int32) then
    (some ((-2 : Int32), X))
  else
    (if (p1 &&& (p0 ^^^ (-1 : Int32))) = (0 : Int32) then
      (b1 (fX0_isFull (X 6)) fun r22 =>
      if r22 = (0 : Int32) then
        (lt (((X 6).1 2 0)) fun v3_38 =>
        b1 (fX0_insert v3_38 p0 p1 (X 6)) fun t0_46 =>
        b1 (fX1_note (2 : Int32) v3_38 (0 : Int32) (0 : Int32) ((xs X 6 t0_46) 8)) fun t0_57 =>
        some (v3_38, (xs (xs X 6 t0_46) 8 t0_57)))
      else
        (some ((-4 : Int32), X)))
    else
      (some ((-2 : Int32), X)))
noncomputable def fX8_term (p0 : Int32) (p1 : Int32) (X : XS) : Option (Int32 × XS) :=
  b2 (fX8_addTerm p0 p1 X) fun r3 t0_3 =>
  some (r3, t0_3)
noncomputable def fX0_has (p0 : Int32) (s0 : Mem) : Option (Int32) :=
  if p0 < (0 : Int32) then
    (some ((0 : Int32)))
  else
    (if (s0.1 2 0) ≤ p0 then
      (some ((0 : Int32)))
    else
      (some ((1 : Int32))))
noncomputable def fX0_remove_b21 : Nat → Int32 → Mem → Option (Mem)
  | 0, _, _ => none
  | n + 1, x2, s0 =>
    if (s0.1 2 0) ≤ x2 then
      (some (s0))
    else
      (ckI (x2 + (1 : Int32)) 8 <|
      ckI x2 8 <|
      ckI (x2 + (1 : Int32)) 8 <|
      ckI x2 8 <|
      lt (mi (mi s0 0 (x2).toNatClampNeg ((s0.1 0) ((x2 + (1 : Int32))).toNatClampNeg)) 1 (x2).toNatClampNeg (((mi s0 0 (x2).toNatClampNeg ((s0.1 0) ((x2 + (1 : Int32))).toNatClampNeg)).1 1) ((x2 + (1 : Int32))).toNatClampNeg)) fun m0_56 =>
      lt (x2 + (1 : Int32)) fun v2_57 =>
      fX0_remove_b21 n v2_57 m0_56)
noncomputable def fX0_remove (p0 : Int32) (s0 : Mem) : Option (Mem) :=
  b1 (fX0_has p0 s0) fun r2 =>
  if r2 = (0 : Int32) then
    (some (s0))
  else
    (fX0_remove_b21 FU p0 ((mi s0 2 0 ((s0.1 2 0) - (1 : Int32)))))
noncomputable def fX8_off (p0 : Int32) (X : XS) : Option (Int32 × XS) :=
  b1 (fX0_has p0 (X 6)) fun r5 =>
  if r5 = (0 : Int32) then
    (some ((-2 : Int32), X))
  else
    (ckI p0 8 <|
    ckI p0 8 <|
    b1 (fX1_note (3 : Int32) p0 ((((X 6).1 0) (p0).toNatClampNeg)) ((((X 6).1 1) (p0).toNatClampNeg)) (X 8)) fun t0_38 =>
    b1 (fX0_remove p0 ((xs X 8 t0_38) 6)) fun t0_46 =>
    some ((((xs (xs X 8 t0_38) 6 t0_46) 6).1 2 0), (xs (xs X 8 t0_38) 6 t0_46)))
noncomputable def fX8_held_b60 (K6 : Int32 → Int32 → Int32 → Int32 → Option (Int32)) (x0 : Int32) (x1 : Int32) (x2 : Int32) (x3 : Int32) : Option (Int32) :=
  lt (x3 + (1 : Int32)) fun v3_60 =>
  K6 x0 x1 x2 v3_60
noncomputable def fX8_held_b58 (K6 : Int32 → Int32 → Int32 → Int32 → Option (Int32)) (x0 : Int32) (x1 : Int32) (x3 : Int32) (y0 : Int32) (y1 : Int32) : Option (Int32) :=
  lt ((y1 &&& y0)) fun v2_59 =>
  fX8_held_b60 K6 x0 x1 v2_59 x3
noncomputable def fX8_held_b35 (K6 : Int32 → Int32 → Int32 → Int32 → Option (Int32)) (x0 : Int32) (x1 : Int32) (x2 : Int32) (x3 : Int32) (y0 : Int32) : Option (Int32) :=
  if y0 = (0 : Int32) then
    (ckI x3 4 <|
    fX8_held_b58 K6 x0 x1 x3 (((itab (x3).toNatClampNeg) ^^^ (-1 : Int32))) x2)
  else
    (ckI x3 4 <|
    fX8_held_b58 K6 x0 x1 x3 ((itab (x3).toNatClampNeg)) x2)
noncomputable def fX8_held_b6 : Nat → Int32 → Int32 → Int32 → Int32 → Option (Int32)
  | 0, _, _, _, _ => none
  | n + 1, x0, x1, x2, x3 =>
    if (4 : Int32) ≤ x3 then
      (some (x2))
    else
      (if ((x0 >>> (x3 &&& 31)) &&& (1 : Int32)) = (0 : Int32) then
        (fX8_held_b60 (fX8_held_b6 n) x0 x1 x2 x3)
      else
        (if ((x1 >>> (x3 &&& 31)) &&& (1 : Int32)) = (0 : Int32) then
          (fX8_held_b35 (fX8_held_b6 n) x0 x1 x2 x3 (0 : Int32))
        else
          (fX8_held_b35 (fX8_held_b6 n) x0 x1 x2 x3 (1 : Int32))))
noncomputable def fX8_held (p0 : Int32) (p1 : Int32) : Option (Int32) :=
  fX8_held_b6 FU p0 p1 (65535 : Int32) (0 : Int32)
noncomputable def fX8_termOf (p0 : Int32) (p1 : Int32) (X : XS) : Option (Int32) :=
  b1 (fX0_has p0 (X 6)) fun r5 =>
  if r5 = (0 : Int32) then
    (some ((-2 : Int32)))
  else
    (if p1 = (0 : Int32) then
      (ckI p0 8 <|
      some ((((X 6).1 0) (p0).toNatClampNeg)))
    else
      (if p1 = (1 : Int32) then
        (ckI p0 8 <|
        some ((((X 6).1 1) (p0).toNatClampNeg)))
      else
        (if p1 = (2 : Int32) then
          (ckI p0 8 <|
          ckI p0 8 <|
          b1 (fX8_held ((((X 6).1 0) (p0).toNatClampNeg)) ((((X 6).1 1) (p0).toNatClampNeg))) fun r78 =>
          some (r78))
        else
          (some ((-2 : Int32))))))
noncomputable def fX0_stands_b4 (s0 : Mem) : Nat → Int32 → Int32 → Option (Int32)
  | 0, _, _ => none
  | n + 1, x1, x2 =>
    if (s0.1 2 0) ≤ x2 then
      (some (x1))
    else
      (ckI x2 8 <|
      ckI x2 8 <|
      b1 (fX8_held (((s0.1 0) (x2).toNatClampNeg)) (((s0.1 1) (x2).toNatClampNeg))) fun r25 =>
      lt ((x1 ||| r25)) fun v1_29 =>
      lt (x2 + (1 : Int32)) fun v2_30 =>
      fX0_stands_b4 s0 n v1_29 v2_30)
noncomputable def fX0_stands (s0 : Mem) : Option (Int32) :=
  fX0_stands_b4 s0 FU (0 : Int32) (0 : Int32)
noncomputable def fX8_covered (p0 : Int32) (X : XS) : Option (Int32 × XS) :=
  b1 (fX8_isWithin p0 (0 : Int32) (1 : Int32)) fun r3 =>
  if r3 = (0 : Int32) then
    (some ((-2 : Int32), X))
  else
    (if p0 = (0 : Int32) then
      (b1 (fX0_stands (X 6)) fun r20 =>
      some (r20, X))
    else
      (b1 (fX3_isEmpty (X 3)) fun r28 =>
      if r28 = (0 : Int32) then
        (b1 (fX0_stands (X 6)) fun r41 =>
        b1 (fX3_output (X 3)) fun r52 =>
        b2 (fX3_tableOf r52 (X 3)) fun r55 t0_55 =>
        if r41 = r55 then
          (some ((1 : Int32), (xs X 3 t0_55)))
        else
          (some ((0 : Int32), (xs X 3 t0_55))))
      else
        (some ((-3 : Int32), X))))
noncomputable def fX8_pairsAmong_b4 : Nat → Int32 → Int64 → Int32 → Option (Int64)
  | 0, _, _, _ => none
  | n + 1, x0, x1, x3 =>
    if (4 : Int32) ≤ x3 then
      (some (x1))
    else
      (lt ((x0 >>> (((1 : Int32) <<< (x3 &&& 31)) &&& 31))) fun v4_14 =>
      ckI x3 4 <|
      lt (((((x0 &&& v4_14) &&& ((itab (x3).toNatClampNeg) ^^^ (-1 : Int32)))).toInt64)) fun v5_29 =>
      lt ((x1 ||| (jlshl v5_29 ((16 : Int32) * x3)))) fun v1_40 =>
      lt (x3 + (1 : Int32)) fun v3_41 =>
      fX8_pairsAmong_b4 n x0 v1_40 v3_41)
noncomputable def fX8_pairsAmong (p0 : Int32) : Option (Int64) :=
  fX8_pairsAmong_b4 FU p0 (0 : Int64) (0 : Int32)
noncomputable def fX0_openPairs_b10 (s0 : Mem) : Nat → Int64 → Int32 → Option (Int64)
  | 0, _, _ => none
  | n + 1, x1, x3 =>
    if (s0.1 2 0) ≤ x3 then
      (some (x1))
    else
      (ckI x3 8 <|
      ckI x3 8 <|
      b1 (fX8_held (((s0.1 0) (x3).toNatClampNeg)) (((s0.1 1) (x3).toNatClampNeg))) fun r31 =>
      b1 (fX8_pairsAmong r31) fun r34 =>
      lt ((x1 &&& (r34 ^^^ (-1 : Int64)))) fun v1_42 =>
      lt (x3 + (1 : Int32)) fun v3_43 =>
      fX0_openPairs_b10 s0 n v1_42 v3_43)
noncomputable def fX0_openPairs (s0 : Mem) : Option (Int64) :=
  b1 (fX0_stands s0) fun r1 =>
  b1 (fX8_pairsAmong r1) fun r4 =>
  fX0_openPairs_b10 s0 FU r4 (0 : Int32)
noncomputable def fX8_hasPair (p0 : Int64) (p1 : Int32) (p2 : Int32) : Option (Int32) :=
  if (lg_cmp ((jlushr p0 (((16 : Int32) * p2) + p1)) &&& (1 : Int64)) (0 : Int64)) = (0 : Int32) then
    (some ((0 : Int32)))
  else
    (some ((1 : Int32)))
noncomputable def fX8_open_b72 (K34 : Int32 → Int64 → Int32 → Int32 → Int32 → Option (Int32)) (X : XS) (x1 : Int32) (x2 : Int64) (x4 : Int32) (x5 : Int32) (x6 : Int32) : Option (Int32) :=
  lt (x6 + (1 : Int32)) fun v6_72 =>
  K34 x1 x2 x4 x5 v6_72
noncomputable def fX8_open_b34 (K24 : Int32 → Int64 → Int32 → Int32 → Option (Int32)) (X : XS) : Nat → Int32 → Int64 → Int32 → Int32 → Int32 → Option (Int32)
  | 0, _, _, _, _, _ => none
  | n + 1, x1, x2, x4, x5, x6 =>
    if (4 : Int32) ≤ x6 then
      (lt (x5 + (1 : Int32)) fun v5_78 =>
      K24 x1 x2 x4 v5_78)
    else
      (b1 (fX8_hasPair x2 x5 x6) fun r45 =>
      if r45 = (0 : Int32) then
        (fX8_open_b72 (fX8_open_b34 K24 X n) X x1 x2 x4 x5 x6)
      else
        (if x4 = x1 then
          (some ((((16 : Int32) * x5) + x6)))
        else
          (lt (x4 + (1 : Int32)) fun v4_69 =>
          fX8_open_b72 (fX8_open_b34 K24 X n) X x1 x2 v4_69 x5 x6)))
noncomputable def fX8_open_b24 (X : XS) : Nat → Int32 → Int64 → Int32 → Int32 → Option (Int32)
  | 0, _, _, _, _ => none
  | n + 1, x1, x2, x4, x5 =>
    if (16 : Int32) ≤ x5 then
      (some ((-12 : Int32)))
    else
      (fX8_open_b34 (fX8_open_b24 X n) X FU x1 x2 x4 x5 (0 : Int32))
noncomputable def fX8_open (p0 : Int32) (X : XS) : Option (Int32) :=
  b1 (fX0_openPairs (X 6)) fun r4 =>
  if p0 = (-1 : Int32) then
    (b1 (fJ13_bitCount_95d88 r4) fun r14 =>
    some (r14))
  else
    (fX8_open_b24 X FU p0 r4 (0 : Int32) (0 : Int32))
noncomputable def fX4_holdsOnly (p0 : Int32) (p1 : Int32) (p2 : Int32) : Option (Int32) :=
  b1 (fX8_held p0 p1) fun r2 =>
  if (r2 &&& (p2 ^^^ (-1 : Int32))) = (0 : Int32) then
    (some ((1 : Int32)))
  else
    (some ((0 : Int32)))
noncomputable def fX4_isPrime_b48 (K13 : Int32 → Int32 → Int32 → Int32 → Option (Int32)) (x0 : Int32) (x1 : Int32) (x2 : Int32) (x3 : Int32) : Option (Int32) :=
  lt (x3 + (1 : Int32)) fun v3_48 =>
  K13 x0 x1 x2 v3_48
noncomputable def fX4_isPrime_b13 : Nat → Int32 → Int32 → Int32 → Int32 → Option (Int32)
  | 0, _, _, _, _ => none
  | n + 1, x0, x1, x2, x3 =>
    if (4 : Int32) ≤ x3 then
      (some ((1 : Int32)))
    else
      (lt ((x0 &&& (((1 : Int32) <<< (x3 &&& 31)) ^^^ (-1 : Int32)))) fun v4_25 =>
      if v4_25 = x0 then
        (fX4_isPrime_b48 (fX4_isPrime_b13 n) x0 x1 x2 x3)
      else
        (b1 (fX4_holdsOnly v4_25 ((x1 &&& v4_25)) x2) fun r40 =>
        if r40 = (0 : Int32) then
          (fX4_isPrime_b48 (fX4_isPrime_b13 n) x0 x1 x2 x3)
        else
          (some ((0 : Int32)))))
noncomputable def fX4_isPrime (p0 : Int32) (p1 : Int32) (p2 : Int32) : Option (Int32) :=
  b1 (fX4_holdsOnly p0 p1 p2) fun r3 =>
  if r3 = (0 : Int32) then
    (some ((0 : Int32)))
  else
    (fX4_isPrime_b13 FU p0 p1 p2 (0 : Int32))
noncomputable def fX4_append (p0 : Int32) (p1 : Int32) (s0 : Mem) : Option (Mem) :=
  if (s0.1 2 0) < (32 : Int32) then
    (ckI (s0.1 2 0) 32 <|
    ckI ((mi s0 0 ((s0.1 2 0)).toNatClampNeg p0).1 2 0) 32 <|
    lt (mi (mi s0 0 ((s0.1 2 0)).toNatClampNeg p0) 1 (((mi s0 0 ((s0.1 2 0)).toNatClampNeg p0).1 2 0)).toNatClampNeg p1) fun m0_29 =>
    b1 (fX8_held p0 p1) fun r40 =>
    b1 (fX8_pairsAmong r40) fun r43 =>
    ckI (m0_29.1 2 0) 32 <|
    ckI ((ml m0_29 3 ((m0_29.1 2 0)).toNatClampNeg r43).1 2 0) 33 <|
    ckI ((ml m0_29 3 ((m0_29.1 2 0)).toNatClampNeg r43).1 2 0) 32 <|
    ckI (((ml m0_29 3 ((m0_29.1 2 0)).toNatClampNeg r43).1 2 0) + (1 : Int32)) 33 <|
    lt (ml (ml m0_29 3 ((m0_29.1 2 0)).toNatClampNeg r43) 4 ((((ml m0_29 3 ((m0_29.1 2 0)).toNatClampNeg r43).1 2 0) + (1 : Int32))).toNatClampNeg ((((ml m0_29 3 ((m0_29.1 2 0)).toNatClampNeg r43).2 4) (((ml m0_29 3 ((m0_29.1 2 0)).toNatClampNeg r43).1 2 0)).toNatClampNeg) ||| (((ml m0_29 3 ((m0_29.1 2 0)).toNatClampNeg r43).2 3) (((ml m0_29 3 ((m0_29.1 2 0)).toNatClampNeg r43).1 2 0)).toNatClampNeg))) fun m0_76 =>
    some ((mi m0_76 2 0 ((m0_76.1 2 0) + (1 : Int32)))))
  else
    (some (s0))
noncomputable def fX4_find_b43 (K15 : Int32 → Int32 → Int32 → Mem → Option (Mem)) (x1 : Int32) (x2 : Int32) (x3 : Int32) (s0 : Mem) : Option (Mem) :=
  lt (x3 + (1 : Int32)) fun v3_43 =>
  K15 x1 x2 v3_43 s0
noncomputable def fX4_find_b15 (K7 : Int32 → Int32 → Mem → Option (Mem)) : Nat → Int32 → Int32 → Int32 → Mem → Option (Mem)
  | 0, _, _, _, _ => none
  | n + 1, x1, x2, x3, s0 =>
    if x2 < x3 then
      (lt (x2 + (1 : Int32)) fun v2_49 =>
      K7 x1 v2_49 s0)
    else
      (if (x3 &&& (x2 ^^^ (-1 : Int32))) = (0 : Int32) then
        (b1 (fX4_isPrime x2 x3 x1) fun r31 =>
        if r31 = (0 : Int32) then
          (fX4_find_b43 (fX4_find_b15 K7 n) x1 x2 x3 s0)
        else
          (b1 (fX4_append x2 x3 s0) fun t0_40 =>
          fX4_find_b43 (fX4_find_b15 K7 n) x1 x2 x3 t0_40))
      else
        (fX4_find_b43 (fX4_find_b15 K7 n) x1 x2 x3 s0))
noncomputable def fX4_find_b7 : Nat → Int32 → Int32 → Mem → Option (Mem)
  | 0, _, _, _ => none
  | n + 1, x1, x2, s0 =>
    if (16 : Int32) ≤ x2 then
      (some (s0))
    else
      (fX4_find_b15 (fX4_find_b7 n) FU x1 x2 (0 : Int32) s0)
noncomputable def fX4_find (p0 : Int32) (s0 : Mem) : Option (Mem) :=
  fX4_find_b7 FU p0 (0 : Int32) ((mi s0 2 0 (0 : Int32)))
noncomputable def fX8_prime (p0 : Int32) (X : XS) : Option (Int32 × XS) :=
  b1 (fX0_stands (X 6)) fun r8 =>
  b1 (fX4_find r8 (X 7)) fun t0_11 =>
  if p0 = (-1 : Int32) then
    (some ((((xs X 7 t0_11) 7).1 2 0), (xs X 7 t0_11)))
  else
    (b1 (fX8_isWithin p0 (0 : Int32) (((((xs X 7 t0_11) 7).1 2 0) - (1 : Int32)))) fun r38 =>
    if r38 = (0 : Int32) then
      (some ((-12 : Int32), (xs X 7 t0_11)))
    else
      (ckI p0 32 <|
      ckI p0 32 <|
      some ((((16 : Int32) * ((((xs X 7 t0_11) 7).1 0) (p0).toNatClampNeg)) + ((((xs X 7 t0_11) 7).1 1) (p0).toNatClampNeg)), (xs X 7 t0_11))))
noncomputable def fX4_leastSet : Nat → Int32 → Int32 → Int64 → (Nat → Int64) → (Nat → Int64) → Option (Int64)
  | 0, _, _, _, _, _ => none
  | n + 1, p2, p3, p4, s0, s1 =>
    if (lg_cmp p4 (0 : Int64)) = (0 : Int32) then
      (some ((0 : Int64)))
    else
      (if p2 ≤ (0 : Int32) then
        (some ((-1 : Int64)))
      else
        (if (32 : Int32) < p2 then
          (some ((-1 : Int64)))
        else
          (if p3 ≤ (0 : Int32) then
            (some ((-1 : Int64)))
          else
            (ckI p2 33 <|
            if (lg_cmp (p4 &&& ((s1 (p2).toNatClampNeg) ^^^ (-1 : Int64))) (0 : Int64)) = (0 : Int32) then
              (lt ((p2 - (1 : Int32))) fun v6_45 =>
              b1 (fX4_leastSet n v6_45 p3 p4 s0 s1) fun r54 =>
              if (lg_cmp r54 (-1 : Int64)) = (0 : Int32) then
                (ckI v6_45 32 <|
                b1 (fX4_leastSet n v6_45 ((p3 - (1 : Int32))) ((p4 &&& ((s0 (v6_45).toNatClampNeg) ^^^ (-1 : Int64)))) s0 s1) fun r89 =>
                if (lg_cmp r89 (-1 : Int64)) = (0 : Int32) then
                  (some ((-1 : Int64)))
                else
                  (some ((r89 ||| (jlshl (1 : Int64) v6_45)))))
              else
                (some (r54)))
            else
              (some ((-1 : Int64)))))))
noncomputable def fX4_fewestHolding_b2 (s0 : Mem) : Nat → Int64 → Int32 → Option (Int64)
  | 0, _, _ => none
  | n + 1, x1, x3 =>
    if (s0.1 2 0) < x3 then
      (some ((0 : Int64)))
    else
      (b1 (fX4_leastSet 40 ((s0.1 2 0)) x3 x1 (s0.2 3) (s0.2 4)) fun r24 =>
      if (lg_cmp r24 (-1 : Int64)) = (0 : Int32) then
        (lt (x3 + (1 : Int32)) fun v3_41 =>
        fX4_fewestHolding_b2 s0 n x1 v3_41)
      else
        (some (r24)))
noncomputable def fX4_fewestHolding (p0 : Int64) (s0 : Mem) : Option (Int64) :=
  fX4_fewestHolding_b2 s0 FU p0 (0 : Int32)
noncomputable def fX8_added (p0 : Int32) (X : XS) : Option (Int64 × XS) :=
  b1 (fX8_isWithin p0 (0 : Int32) (1 : Int32)) fun r3 =>
  if r3 = (0 : Int32) then
    (some ((-2 : Int64), X))
  else
    (b1 (fX0_stands (X 6)) fun r21 =>
    b1 (fX4_find r21 (X 7)) fun t0_24 =>
    b1 (fX0_openPairs ((xs X 7 t0_24) 6)) fun r35 =>
    b1 (fX4_fewestHolding r35 ((xs X 7 t0_24) 7)) fun r38 =>
    if p0 = (0 : Int32) then
      (b1 (fJ13_bitCount_95d88 r38) fun r47 =>
      some (((r47).toInt64), (xs X 7 t0_24)))
    else
      (some (r38, (xs X 7 t0_24))))
noncomputable def fX8_isSheet (p0 : Int32) : Option (Int32) :=
  b1 (fX8_isWithin p0 (0 : Int32) (3 : Int32)) fun r3 =>
  ckZ r3 <|
  some (r3)
noncomputable def fX8_xFrom (p0 : Int32) : Option (Int32) :=
  some ((p0 >>> ((4 : Int32) &&& 31)))
noncomputable def fX8_yFrom (p0 : Int32) : Option (Int32) :=
  some ((p0 &&& (15 : Int32)))
noncomputable def fX8_isChangeCode (p0 : Int32) : Option (Int32) :=
  b1 (fX8_isWithin p0 (0 : Int32) (255 : Int32)) fun r5 =>
  if r5 = (0 : Int32) then
    (some ((0 : Int32)))
  else
    (b1 (fX8_xFrom p0) fun r12 =>
    b1 (fX8_yFrom p0) fun r16 =>
    if r12 = r16 then
      (some ((0 : Int32)))
    else
      (some ((1 : Int32))))
noncomputable def fX5_isMissing (s0 : Mem) : Option (Int32) :=
  if (s0.1 1 0) = (-1 : Int32) then
    (some ((1 : Int32)))
  else
    (some ((0 : Int32)))
noncomputable def fX8_firstUnlike_b19 (s0 : Mem) (s2 : Mem) : Nat → Int32 → Mem → Mem → Option (Int32 × Mem × Mem)
  | 0, _, _, _ => none
  | n + 1, x4, s1, s3 =>
    if (s2.1 2 0) ≤ x4 then
      (some ((-1 : Int32), s1, s3))
    else
      (ckI x4 40 <|
      b1 (fX7_at x4 s1) fun r41 =>
      if ((s2.1 0) (x4).toNatClampNeg) = r41 then
        (lt (x4 + (1 : Int32)) fun v4_50 =>
        fX8_firstUnlike_b19 s0 s2 n v4_50 s1 s3)
      else
        (some (x4, s1, s3)))
noncomputable def fX8_firstUnlike (p2 : Int32) (s0 : Mem) (s1 : Mem) (s2 : Mem) (s3 : Mem) : Option (Int32 × Mem × Mem) :=
  b1 (fX8_xFrom p2) fun r6 =>
  b1 (fX8_yFrom p2) fun r10 =>
  b2 (fX7_run r6 r10 s1 s3) fun t0_13 t1_13 =>
  fX8_firstUnlike_b19 s0 s2 FU (0 : Int32) t0_13 t1_13
noncomputable def fX3_become (s0 : Mem) (s1 : Mem) : Option (Mem) :=
  ckP (decide (¬ (0 : Int32) < 0 ∧ ¬ (0 : Int32) < 0 ∧ ¬ (12 : Int32) < 0 ∧ ((0 : Int32)).toNatClampNeg + ((12 : Int32)).toNatClampNeg ≤ 12 ∧ ((0 : Int32)).toNatClampNeg + ((12 : Int32)).toNatClampNeg ≤ 12)) <|
  ckP (decide (¬ (0 : Int32) < 0 ∧ ¬ (0 : Int32) < 0 ∧ ¬ (12 : Int32) < 0 ∧ ((0 : Int32)).toNatClampNeg + ((12 : Int32)).toNatClampNeg ≤ 12 ∧ ((0 : Int32)).toNatClampNeg + ((12 : Int32)).toNatClampNeg ≤ 12)) <|
  lt (mr (mr s0 0 (va_cpy (s1.1 0) (s0.1 0) ((0 : Int32)).toNatClampNeg ((0 : Int32)).toNatClampNeg ((12 : Int32)).toNatClampNeg)) 1 (va_cpy (s1.1 1) ((mr s0 0 (va_cpy (s1.1 0) (s0.1 0) ((0 : Int32)).toNatClampNeg ((0 : Int32)).toNatClampNeg ((12 : Int32)).toNatClampNeg)).1 1) ((0 : Int32)).toNatClampNeg ((0 : Int32)).toNatClampNeg ((12 : Int32)).toNatClampNeg)) fun m0_27 =>
  ckP (decide (¬ (0 : Int32) < 0 ∧ ¬ (0 : Int32) < 0 ∧ ¬ (12 : Int32) < 0 ∧ ((0 : Int32)).toNatClampNeg + ((12 : Int32)).toNatClampNeg ≤ 12 ∧ ((0 : Int32)).toNatClampNeg + ((12 : Int32)).toNatClampNeg ≤ 12)) <|
  ckP (decide (¬ (0 : Int32) < 0 ∧ ¬ (0 : Int32) < 0 ∧ ¬ (12 : Int32) < 0 ∧ ((0 : Int32)).toNatClampNeg + ((12 : Int32)).toNatClampNeg ≤ 12 ∧ ((0 : Int32)).toNatClampNeg + ((12 : Int32)).toNatClampNeg ≤ 12)) <|
  lt (mr (mr m0_27 2 (va_cpy (s1.1 2) (m0_27.1 2) ((0 : Int32)).toNatClampNeg ((0 : Int32)).toNatClampNeg ((12 : Int32)).toNatClampNeg)) 3 (va_cpy (s1.1 3) ((mr m0_27 2 (va_cpy (s1.1 2) (m0_27.1 2) ((0 : Int32)).toNatClampNeg ((0 : Int32)).toNatClampNeg ((12 : Int32)).toNatClampNeg)).1 3) ((0 : Int32)).toNatClampNeg ((0 : Int32)).toNatClampNeg ((12 : Int32)).toNatClampNeg)) fun m0_57 =>
  some ((mi m0_57 4 0 (s1.1 4 0)))
noncomputable def fX3_setDelay (p0 : Int32) (p1 : Int32) (s0 : Mem) : Option (Mem) :=
  b1 (fX3_has p0 s0) fun r2 =>
  if r2 = (0 : Int32) then
    (some (s0))
  else
    (ckI p0 12 <|
    some ((mi s0 3 (p0).toNatClampNeg p1)))
noncomputable def fX8_fittingDelays_b57 (K17 : Int32 → Int32 → Int32 → Int32 → Mem → Mem → Option (Int32 × Mem × Mem)) (s0 : Mem) (s2 : Mem) (s3 : Mem) (x2 : Int32) (x3 : Int32) (x4 : Int32) (x5 : Int32) (s1 : Mem) (s4 : Mem) : Option (Int32 × Mem × Mem) :=
  lt (x5 + (1 : Int32)) fun v5_57 =>
  K17 x2 x3 x4 v5_57 s1 s4
noncomputable def fX8_fittingDelays_b17 (s0 : Mem) (s2 : Mem) (s3 : Mem) : Nat → Int32 → Int32 → Int32 → Int32 → Mem → Mem → Option (Int32 × Mem × Mem)
  | 0, _, _, _, _, _, _ => none
  | n + 1, x2, x3, x4, x5, s1, s4 =>
    if (9 : Int32) < x5 then
      (some (x4, s1, s4))
    else
      (b1 (fX3_setDelay x3 x5 s4) fun t0_31 =>
      b3 (fX8_firstUnlike x2 s0 s1 s2 t0_31) fun r41 t1_41 t3_41 =>
      if r41 = (-1 : Int32) then
        (lt ((x4 ||| ((1 : Int32) <<< (x5 &&& 31)))) fun v4_55 =>
        fX8_fittingDelays_b57 (fX8_fittingDelays_b17 s0 s2 s3 n) s0 s2 s3 x2 x3 v4_55 x5 t1_41 t3_41)
      else
        (fX8_fittingDelays_b57 (fX8_fittingDelays_b17 s0 s2 s3 n) s0 s2 s3 x2 x3 x4 x5 t1_41 t3_41))
noncomputable def fX8_fittingDelays (p1 : Int32) (p2 : Int32) (s0 : Mem) (s1 : Mem) (s2 : Mem) (s3 : Mem) (s4 : Mem) : Option (Int32 × Mem × Mem) :=
  b1 (fX3_become s4 s3) fun t0_11 =>
  fX8_fittingDelays_b17 s0 s2 s3 FU p1 p2 (0 : Int32) (1 : Int32) s1 t0_11
noncomputable def fX3_setKind (p0 : Int32) (p1 : Int32) (s0 : Mem) : Option (Mem) :=
  b1 (fX3_has p0 s0) fun r2 =>
  if r2 = (0 : Int32) then
    (some (s0))
  else
    (ckI p0 12 <|
    some ((mi s0 0 (p0).toNatClampNeg p1)))
noncomputable def fX8_fittingKinds_b57 (K17 : Int32 → Int32 → Int32 → Int32 → Mem → Mem → Option (Int32 × Mem × Mem)) (s0 : Mem) (s2 : Mem) (s3 : Mem) (x2 : Int32) (x3 : Int32) (x4 : Int32) (x5 : Int32) (s1 : Mem) (s4 : Mem) : Option (Int32 × Mem × Mem) :=
  lt (x5 + (1 : Int32)) fun v5_57 =>
  K17 x2 x3 x4 v5_57 s1 s4
noncomputable def fX8_fittingKinds_b17 (s0 : Mem) (s2 : Mem) (s3 : Mem) : Nat → Int32 → Int32 → Int32 → Int32 → Mem → Mem → Option (Int32 × Mem × Mem)
  | 0, _, _, _, _, _, _ => none
  | n + 1, x2, x3, x4, x5, s1, s4 =>
    if (6 : Int32) ≤ x5 then
      (some (x4, s1, s4))
    else
      (b1 (fX3_setKind x3 x5 s4) fun t0_31 =>
      b3 (fX8_firstUnlike x2 s0 s1 s2 t0_31) fun r41 t1_41 t3_41 =>
      if r41 = (-1 : Int32) then
        (lt ((x4 ||| ((1 : Int32) <<< (x5 &&& 31)))) fun v4_55 =>
        fX8_fittingKinds_b57 (fX8_fittingKinds_b17 s0 s2 s3 n) s0 s2 s3 x2 x3 v4_55 x5 t1_41 t3_41)
      else
        (fX8_fittingKinds_b57 (fX8_fittingKinds_b17 s0 s2 s3 n) s0 s2 s3 x2 x3 x4 x5 t1_41 t3_41))
noncomputable def fX8_fittingKinds (p1 : Int32) (p2 : Int32) (s0 : Mem) (s1 : Mem) (s2 : Mem) (s3 : Mem) (s4 : Mem) : Option (Int32 × Mem × Mem) :=
  b1 (fX3_become s4 s3) fun t0_11 =>
  fX8_fittingKinds_b17 s0 s2 s3 FU p1 p2 (0 : Int32) (0 : Int32) s1 t0_11
noncomputable def fX8_told_b43 (x1 : Int32) (x2 : Int32) (x3 : Int32) (x4 : Int32) (X : XS) : Option (Int32 × XS) :=
  b1 (fX3_isEmpty (X 3)) fun r47 =>
  if r47 = (0 : Int32) then
    (ckI x1 4 <|
    lt (x1).toNatClampNeg fun k61 =>
    b1 (fX5_isMissing (X (11 + k61))) fun r66 =>
    if r66 = (0 : Int32) then
      (if x4 = (0 : Int32) then
        (b3 (fX8_firstUnlike x2 (X 0) (X 5) (X (11 + k61)) (X 3)) fun r112 t1_112 t3_112 =>
        some (r112, (xs (xs X 5 t1_112) 3 t3_112)))
      else
        (if x4 = (1 : Int32) then
          (b3 (fX8_fittingDelays x2 x3 (X 0) (X 5) (X (11 + k61)) (X 3) (X 4)) fun r121 t1_121 t4_121 =>
          some (r121, (xs (xs X 5 t1_121) 4 t4_121)))
        else
          (b3 (fX8_fittingKinds x2 x3 (X 0) (X 5) (X (11 + k61)) (X 3) (X 4)) fun r130 t1_130 t4_130 =>
          some (r130, (xs (xs X 5 t1_130) 4 t4_130)))))
    else
      (some ((-11 : Int32), X)))
  else
    (some ((-3 : Int32), X))
noncomputable def fX8_told (p0 : Int32) (p1 : Int32) (p2 : Int32) (p3 : Int32) (X : XS) : Option (Int32 × XS) :=
  b1 (fX8_isSheet p0) fun r1 =>
  if r1 = (0 : Int32) then
    (some ((-2 : Int32), X))
  else
    (b1 (fX8_isChangeCode p1) fun r8 =>
    if r8 = (0 : Int32) then
      (some ((-2 : Int32), X))
    else
      (b1 (fX8_isWithin p3 (0 : Int32) (2 : Int32)) fun r18 =>
      if r18 = (0 : Int32) then
        (some ((-2 : Int32), X))
      else
        (if p3 = (0 : Int32) then
          (fX8_told_b43 p0 p1 p2 p3 X)
        else
          (b1 (fX3_has p2 (X 3)) fun r34 =>
          if r34 = (0 : Int32) then
            (some ((-2 : Int32), X))
          else
            (fX8_told_b43 p0 p1 p2 p3 X)))))
noncomputable def fX5_become_b23 : Nat → Int32 → Mem → Option (Mem)
  | 0, _, _ => none
  | n + 1, x3, s0 =>
    if (s0.1 2 0) ≤ x3 then
      (some (s0))
    else
      (ckI x3 40 <|
      lt (x3 + (1 : Int32)) fun v3_38 =>
      fX5_become_b23 n v3_38 ((mi s0 0 (x3).toNatClampNeg (0 : Int32))))
noncomputable def fX5_become (p0 : Int32) (p1 : Int32) (s0 : Mem) : Option (Mem) :=
  if p1 < (0 : Int32) then
    (some (s0))
  else
    (if p1 ≤ (40 : Int32) then
      (lt (mi (mi s0 1 0 p0) 2 0 p1) fun m0_18 =>
      fX5_become_b23 FU (0 : Int32) m0_18)
    else
      (some (s0)))
noncomputable def fX5_has (p0 : Int32) (s0 : Mem) : Option (Int32) :=
  if p0 < (0 : Int32) then
    (some ((0 : Int32)))
  else
    (if (s0.1 2 0) ≤ p0 then
      (some ((0 : Int32)))
    else
      (some ((1 : Int32))))
noncomputable def fX5_set_b29 (y0 : Int32) (y1 : Int32) (s0 : Mem) : Option (Mem) :=
  ckI y1 40 <|
  some ((mi s0 0 (y1).toNatClampNeg y0))
noncomputable def fX5_set (p0 : Int32) (p1 : Int32) (s0 : Mem) : Option (Mem) :=
  b1 (fX5_has p0 s0) fun r2 =>
  if r2 = (0 : Int32) then
    (some (s0))
  else
    (if (s0.1 1 0) = (0 : Int32) then
      (fX5_set_b29 ((p1 &&& (255 : Int32))) p0 s0)
    else
      (fX5_set_b29 p1 p0 s0))
noncomputable def fX8_film_b77 (q0 : Nat) : Nat → Int32 → Int32 → XS → Option (Int32 × XS)
  | 0, _, _, _ => none
  | n + 1, x3, x5, X =>
    if x3 ≤ x5 then
      (some (x3, X))
    else
      (b1 (fX7_at x5 (X 5)) fun r93 =>
      b1 (fX5_set x5 r93 (X (11 + q0))) fun t0_96 =>
      lt (x5 + (1 : Int32)) fun v5_99 =>
      fX8_film_b77 q0 n x3 v5_99 ((xs X (11 + q0) t0_96)))
noncomputable def fX8_film (p0 : Int32) (p1 : Int32) (p2 : Int32) (X : XS) : Option (Int32 × XS) :=
  b1 (fX8_isSheet p0) fun r1 =>
  if r1 = (0 : Int32) then
    (some ((-2 : Int32), X))
  else
    (b1 (fX8_isChangeCode p1) fun r8 =>
    if r8 = (0 : Int32) then
      (some ((-2 : Int32), X))
    else
      (b1 (fX8_isWithin p2 (0 : Int32) (40 : Int32)) fun r18 =>
      if r18 = (0 : Int32) then
        (some ((-2 : Int32), X))
      else
        (b1 (fX3_isEmpty (X 3)) fun r31 =>
        if r31 = (0 : Int32) then
          (ckI p0 4 <|
          lt (p0).toNatClampNeg fun k45 =>
          b1 (fX5_become (0 : Int32) p2 (X (11 + k45))) fun t0_52 =>
          b1 (fX8_xFrom p1) fun r64 =>
          b1 (fX8_yFrom p1) fun r68 =>
          b2 (fX7_run r64 r68 ((xs X (11 + k45) t0_52) 5) ((xs X (11 + k45) t0_52) 3)) fun t0_71 t1_71 =>
          fX8_film_b77 k45 FU p2 (0 : Int32) ((xs (xs (xs X (11 + k45) t0_52) 5 t0_71) 3 t1_71)))
        else
          (some ((-3 : Int32), X)))))
noncomputable def fX1_takeLatest (s0 : Mem) : Option (Int32 × Mem) :=
  if (s0.1 4 0) ≤ (0 : Int32) then
    (some ((s0.1 4 0), s0))
  else
    (some (((mi s0 4 0 ((s0.1 4 0) - (1 : Int32))).1 4 0), (mi s0 4 0 ((s0.1 4 0) - (1 : Int32)))))
noncomputable def fX8_undo (X : XS) : Option (Int32 × XS) :=
  if ((X 8).1 4 0) = (0 : Int32) then
    (some ((-3 : Int32), X))
  else
    (b2 (fX1_takeLatest (X 8)) fun r17 t0_17 =>
    ckI r17 6 <|
    lt (((((xs X 8 t0_17) 8).1 1) (r17).toNatClampNeg)) fun v2_30 =>
    ckI r17 6 <|
    if ((((xs X 8 t0_17) 8).1 0) (r17).toNatClampNeg) = (0 : Int32) then
      (b1 (fX3_removeLast ((xs X 8 t0_17) 3)) fun t0_72 =>
      some ((((xs (xs X 8 t0_17) 3 t0_72) 8).1 4 0), (xs (xs X 8 t0_17) 3 t0_72)))
    else
      (if ((((xs X 8 t0_17) 8).1 0) (r17).toNatClampNeg) = (1 : Int32) then
        (ckI r17 6 <|
        b1 (fX3_setDelay v2_30 (((((xs X 8 t0_17) 8).1 2) (r17).toNatClampNeg)) ((xs X 8 t0_17) 3)) fun t0_92 =>
        some ((((xs (xs X 8 t0_17) 3 t0_92) 8).1 4 0), (xs (xs X 8 t0_17) 3 t0_92)))
      else
        (if ((((xs X 8 t0_17) 8).1 0) (r17).toNatClampNeg) = (2 : Int32) then
          (b1 (fX0_remove v2_30 ((xs X 8 t0_17) 6)) fun t0_103 =>
          some ((((xs (xs X 8 t0_17) 6 t0_103) 8).1 4 0), (xs (xs X 8 t0_17) 6 t0_103)))
        else
          (ckI r17 6 <|
          ckI r17 6 <|
          b1 (fX0_insert v2_30 (((((xs X 8 t0_17) 8).1 2) (r17).toNatClampNeg)) (((((xs X 8 t0_17) 8).1 3) (r17).toNatClampNeg)) ((xs X 8 t0_17) 6)) fun t0_132 =>
          some ((((xs (xs X 8 t0_17) 6 t0_132) 8).1 4 0), (xs (xs X 8 t0_17) 6 t0_132))))))
noncomputable def fX0_become (s0 : Mem) (s1 : Mem) : Option (Mem) :=
  ckP (decide (¬ (0 : Int32) < 0 ∧ ¬ (0 : Int32) < 0 ∧ ¬ (8 : Int32) < 0 ∧ ((0 : Int32)).toNatClampNeg + ((8 : Int32)).toNatClampNeg ≤ 8 ∧ ((0 : Int32)).toNatClampNeg + ((8 : Int32)).toNatClampNeg ≤ 8)) <|
  ckP (decide (¬ (0 : Int32) < 0 ∧ ¬ (0 : Int32) < 0 ∧ ¬ (8 : Int32) < 0 ∧ ((0 : Int32)).toNatClampNeg + ((8 : Int32)).toNatClampNeg ≤ 8 ∧ ((0 : Int32)).toNatClampNeg + ((8 : Int32)).toNatClampNeg ≤ 8)) <|
  lt (mr (mr s0 0 (va_cpy (s1.1 0) (s0.1 0) ((0 : Int32)).toNatClampNeg ((0 : Int32)).toNatClampNeg ((8 : Int32)).toNatClampNeg)) 1 (va_cpy (s1.1 1) ((mr s0 0 (va_cpy (s1.1 0) (s0.1 0) ((0 : Int32)).toNatClampNeg ((0 : Int32)).toNatClampNeg ((8 : Int32)).toNatClampNeg)).1 1) ((0 : Int32)).toNatClampNeg ((0 : Int32)).toNatClampNeg ((8 : Int32)).toNatClampNeg)) fun m0_27 =>
  some ((mi m0_27 2 0 (s1.1 2 0)))
noncomputable def fX8_image (X : XS) : Option (Int32 × XS) :=
  b1 (fX3_become (X 9) (X 3)) fun t0_8 =>
  b1 (fX0_become ((xs X 9 t0_8) 10) ((xs X 9 t0_8) 6)) fun t0_19 =>
  some ((((xs (xs (xs X 9 t0_8) 10 t0_19) 0 (mi ((xs (xs X 9 t0_8) 10 t0_19) 0) 10 0 (1 : Int32))) 3).1 4 0), (xs (xs (xs X 9 t0_8) 10 t0_19) 0 (mi ((xs (xs X 9 t0_8) 10 t0_19) 0) 10 0 (1 : Int32))))
noncomputable def fX8_back (X : XS) : Option (Int32 × XS) :=
  if ((X 0).1 10 0) = (0 : Int32) then
    (some ((-3 : Int32), X))
  else
    (b1 (fX3_become (X 3) (X 9)) fun t0_18 =>
    b1 (fX0_become ((xs X 3 t0_18) 6) ((xs X 3 t0_18) 10)) fun t0_29 =>
    some ((((xs (xs (xs X 3 t0_18) 6 t0_29) 8 (mi ((xs (xs X 3 t0_18) 6 t0_29) 8) 4 0 (0 : Int32))) 3).1 4 0), (xs (xs (xs X 3 t0_18) 6 t0_29) 8 (mi ((xs (xs X 3 t0_18) 6 t0_29) 8) 4 0 (0 : Int32)))))
noncomputable def fX8_count (p0 : Int32) (X : XS) : Option (Int32) :=
  if p0 = (0 : Int32) then
    (some (((X 3).1 4 0)))
  else
    (if p0 = (1 : Int32) then
      (some (((X 6).1 2 0)))
    else
      (if p0 = (2 : Int32) then
        (some (((X 8).1 4 0)))
      else
        (if p0 = (3 : Int32) then
          (some (((X 1).1 1 0)))
        else
          (some ((-2 : Int32))))))
noncomputable def fX8_isSort (p0 : Int32) : Option (Int32) :=
  if p0 = (0 : Int32) then
    (some ((1 : Int32)))
  else
    (if p0 = (1 : Int32) then
      (some ((1 : Int32)))
    else
      (some ((0 : Int32))))
noncomputable def fX8_sheet (p0 : Int32) (p1 : Int32) (p2 : Int32) (X : XS) : Option (Int32 × XS) :=
  b1 (fX8_isSheet p0) fun r1 =>
  if r1 = (0 : Int32) then
    (some ((-2 : Int32), X))
  else
    (if p1 = (-1 : Int32) then
      (ckI p0 4 <|
      lt (p0).toNatClampNeg fun k20 =>
      b1 (fX5_become (-1 : Int32) (0 : Int32) (X (11 + k20))) fun t0_23 =>
      some ((1 : Int32), (xs X (11 + k20) t0_23)))
    else
      (b1 (fX8_isSort p1) fun r29 =>
      if r29 = (0 : Int32) then
        (some ((-2 : Int32), X))
      else
        (if p2 ≤ (40 : Int32) then
          (if (0 : Int32) ≤ p2 then
            (ckI p0 4 <|
            lt (p0).toNatClampNeg fun k56 =>
            b1 (fX5_become p1 p2 (X (11 + k56))) fun t0_59 =>
            some ((1 : Int32), (xs X (11 + k56) t0_59)))
          else
            (some ((-14 : Int32), X)))
        else
          (some ((-2 : Int32), X)))))
noncomputable def fX8_put (p0 : Int32) (p1 : Int32) (p2 : Int32) (X : XS) : Option (Int32 × XS) :=
  b1 (fX8_isSheet p0) fun r1 =>
  if r1 = (0 : Int32) then
    (some ((-2 : Int32), X))
  else
    (ckI p0 4 <|
    lt (p0).toNatClampNeg fun k15 =>
    b1 (fX5_isMissing (X (11 + k15))) fun r20 =>
    if r20 = (0 : Int32) then
      (b1 (fX5_has p1 (X (11 + k15))) fun r32 =>
      if r32 = (0 : Int32) then
        (some ((-12 : Int32), X))
      else
        (b1 (fX5_set p1 p2 (X (11 + k15))) fun t0_45 =>
        some ((1 : Int32), (xs X (11 + k15) t0_45))))
    else
      (some ((-11 : Int32), X)))
noncomputable def fX5_hasRun (p0 : Int32) (p1 : Int32) (s0 : Mem) : Option (Int32) :=
  if p0 < (0 : Int32) then
    (some ((0 : Int32)))
  else
    (if p1 < (0 : Int32) then
      (some ((0 : Int32)))
    else
      (if ((s0.1 2 0) - p1) < p0 then
        (some ((0 : Int32)))
      else
        (some ((1 : Int32)))))
noncomputable def fX8_copy (p0 : Int32) (p1 : Int32) (p2 : Int32) (p3 : Int32) (p4 : Int32) (X : XS) : Option (Int32 × XS) :=
  b1 (fX8_isSheet p0) fun r1 =>
  if r1 = (0 : Int32) then
    (some ((-2 : Int32), X))
  else
    (b1 (fX8_isSheet p2) fun r8 =>
    if r8 = (0 : Int32) then
      (some ((-2 : Int32), X))
    else
      (ckI p0 4 <|
      lt (p0).toNatClampNeg fun k22 =>
      ckI p2 4 <|
      lt (p2).toNatClampNeg fun k30 =>
      b1 (fX5_isMissing (X (11 + k22))) fun r35 =>
      if r35 = (0 : Int32) then
        (b1 (fX5_isMissing (X (11 + k30))) fun r43 =>
        if r43 = (0 : Int32) then
          (if ((X (11 + k22)).1 1 0) = ((X (11 + k30)).1 1 0) then
            (b1 (fX5_hasRun p1 p4 (X (11 + k22))) fun r73 =>
            if r73 = (0 : Int32) then
              (some ((-12 : Int32), X))
            else
              (b1 (fX5_hasRun p3 p4 (X (11 + k30))) fun r85 =>
              if r85 = (0 : Int32) then
                (some ((-12 : Int32), X))
              else
                (ckP (decide (¬ p1 < 0 ∧ ¬ p3 < 0 ∧ ¬ p4 < 0 ∧ (p1).toNatClampNeg + (p4).toNatClampNeg ≤ 40 ∧ (p3).toNatClampNeg + (p4).toNatClampNeg ≤ 40)) <|
                some (p4, (xs X (11 + k30) (mr (X (11 + k30)) 0 (va_cpy ((X (11 + k22)).1 0) ((X (11 + k30)).1 0) (p1).toNatClampNeg (p3).toNatClampNeg (p4).toNatClampNeg)))))))
          else
            (some ((-13 : Int32), X)))
        else
          (some ((-11 : Int32), X)))
      else
        (some ((-11 : Int32), X))))
noncomputable def fX8_load_b122 (K65 : Int32 → Int32 → Int32 → Int32 → XS → Option (Int32 × XS)) (q0 : Nat) (x3 : Int32) (x4 : Int32) (x6 : Int32) (x7 : Int32) (X : XS) : Option (Int32 × XS) :=
  lt (x7 + (1 : Int32)) fun v7_122 =>
  K65 x3 x4 x6 v7_122 X
noncomputable def fX8_load_b65 (q0 : Nat) : Nat → Int32 → Int32 → Int32 → Int32 → XS → Option (Int32 × XS)
  | 0, _, _, _, _, _ => none
  | n + 1, x3, x4, x6, x7, X =>
    if x4 ≤ x7 then
      (some (x6, X))
    else
      (lt ((x3 + ((2 : Int32) * x7))) fun v8_78 =>
      b1 (fX5_hasRun v8_78 (2 : Int32) (X (11 + q0))) fun r85 =>
      if r85 = (0 : Int32) then
        (some ((-12 : Int32), X))
      else
        (ckI v8_78 40 <|
        ckI (v8_78 + (1 : Int32)) 40 <|
        b2 (fX8_addTerm ((((X (11 + q0)).1 0) (v8_78).toNatClampNeg)) ((((X (11 + q0)).1 0) ((v8_78 + (1 : Int32))).toNatClampNeg)) X) fun r113 t0_113 =>
        if r113 < (0 : Int32) then
          (fX8_load_b122 (fX8_load_b65 q0 n) q0 x3 x4 x6 x7 t0_113)
        else
          (lt (x6 + (1 : Int32)) fun v6_119 =>
          fX8_load_b122 (fX8_load_b65 q0 n) q0 x3 x4 v6_119 x7 t0_113)))
noncomputable def fX8_load (p0 : Int32) (p1 : Int32) (p2 : Int32) (p3 : Int32) (X : XS) : Option (Int32 × XS) :=
  b1 (fX8_isSheet p0) fun r1 =>
  if r1 = (0 : Int32) then
    (some ((-2 : Int32), X))
  else
    (b1 (fX8_isSort p1) fun r8 =>
    if r8 = (0 : Int32) then
      (some ((-2 : Int32), X))
    else
      (b1 (fX8_isWithin p3 (0 : Int32) (8 : Int32)) fun r19 =>
      if r19 = (0 : Int32) then
        (some ((-2 : Int32), X))
      else
        (ckI p0 4 <|
        lt (p0).toNatClampNeg fun k33 =>
        b1 (fX5_isMissing (X (11 + k33))) fun r38 =>
        if r38 = (0 : Int32) then
          (if ((X (11 + k33)).1 1 0) = p1 then
            (fX8_load_b65 k33 FU p2 p3 (0 : Int32) (0 : Int32) X)
          else
            (some ((-13 : Int32), X)))
        else
          (some ((-11 : Int32), X)))))
noncomputable def fX9_isIn (p0 : Int32) (p1 : Int32) (p2 : Int32) : Option (Int32) :=
  if p0 < p1 then
    (some ((0 : Int32)))
  else
    (if p2 < p0 then
      (some ((0 : Int32)))
    else
      (some ((1 : Int32))))
noncomputable def fX9_has (p0 : Int32) (p1 : Int32) : Option (Int32) :=
  if ((p0 >>> (p1 &&& 31)) &&& (1 : Int32)) = (1 : Int32) then
    (some ((1 : Int32)))
  else
    (some ((0 : Int32)))
noncomputable def fX9_bits_b4 : Nat → Int64 → Int32 → Int32 → Option (Int32)
  | 0, _, _, _ => none
  | n + 1, x0, x2, x3 =>
    if (64 : Int32) ≤ x3 then
      (some (x2))
    else
      (lt ((x2 + ((((jlshr x0 x3) &&& (1 : Int64))).toInt32))) fun v2_18 =>
      lt (x3 + (1 : Int32)) fun v3_19 =>
      fX9_bits_b4 n x0 v2_18 v3_19)
noncomputable def fX9_bits (p0 : Int64) : Option (Int32) :=
  fX9_bits_b4 FU p0 (0 : Int32) (0 : Int32)
noncomputable def fX9_copies_b2 (s0 : (Nat → Int32)) : Nat → Int32 → (Nat → Int32) → Option ((Nat → Int32))
  | 0, _, _ => none
  | n + 1, x2, s1 =>
    if (66 : Int32) ≤ x2 then
      (some (s1))
    else
      (ckI x2 66 <|
      ckI x2 66 <|
      lt (x2 + (1 : Int32)) fun v2_14 =>
      fX9_copies_b2 s0 n v2_14 ((upd s1 (x2).toNatClampNeg (s0 (x2).toNatClampNeg))))
noncomputable def fX9_copies (s0 : (Nat → Int32)) (s1 : (Nat → Int32)) : Option ((Nat → Int32)) :=
  fX9_copies_b2 s0 FU (0 : Int32) s1
noncomputable def fX9_of (p0 : Int32) (p1 : Int32) (s0 : Mem) : Option (Int32) :=
  ckI (((2 : Int32) + ((4 : Int32) * p0)) + p1) 66 <|
  some (((s0.1 0) ((((2 : Int32) + ((4 : Int32) * p0)) + p1)).toNatClampNeg))
noncomputable def fX9_sets (p0 : Int32) (p1 : Int32) (p2 : Int32) (s0 : Mem) : Option (Int32 × Mem) :=
  b1 (fX9_of p0 p1 s0) fun r3 =>
  ckI (((2 : Int32) + ((4 : Int32) * p0)) + p1) 66 <|
  lt (mi s0 0 ((((2 : Int32) + ((4 : Int32) * p0)) + p1)).toNatClampNeg p2) fun m0_20 =>
  some (r3, m0_20)
noncomputable def fX9_isGate (p0 : Int32) (s0 : Mem) : Option (Int32) :=
  ckI (0 : Int32) 66 <|
  b1 (fX9_isIn p0 (0 : Int32) ((((s0.1 0) ((0 : Int32)).toNatClampNeg) - (1 : Int32)))) fun r10 =>
  ckZ r10 <|
  some (r10)
noncomputable def fX9_output (s0 : Mem) : Option (Int32) :=
  ckI (0 : Int32) 66 <|
  some ((((s0.1 0) ((0 : Int32)).toNatClampNeg) - (1 : Int32)))
noncomputable def fX9_isStand (p0 : Int32) : Option (Int32) :=
  b1 (fX9_isIn p0 (0 : Int32) (15 : Int32)) fun r4 =>
  ckZ r4 <|
  some (r4)
noncomputable def fX9_does_b51 (x1 : Int32) (x2 : Int32) (x3 : Int32) (x4 : Int32) (s0 : Mem) : Option (Mem) :=
  ckI ((4 : Int32) * (s0.1 4 0)) 24 <|
  lt (mi s0 3 (((4 : Int32) * (s0.1 4 0))).toNatClampNeg x1) fun m0_62 =>
  ckI (((4 : Int32) * (m0_62.1 4 0)) + (1 : Int32)) 24 <|
  lt (mi m0_62 3 ((((4 : Int32) * (m0_62.1 4 0)) + (1 : Int32))).toNatClampNeg x2) fun m0_76 =>
  ckI (((4 : Int32) * (m0_76.1 4 0)) + (2 : Int32)) 24 <|
  lt (mi m0_76 3 ((((4 : Int32) * (m0_76.1 4 0)) + (2 : Int32))).toNatClampNeg x3) fun m0_90 =>
  ckI (((4 : Int32) * (m0_90.1 4 0)) + (3 : Int32)) 24 <|
  lt (mi m0_90 3 ((((4 : Int32) * (m0_90.1 4 0)) + (3 : Int32))).toNatClampNeg x4) fun m0_105 =>
  lt (mi m0_105 4 0 ((m0_105.1 4 0) + (1 : Int32))) fun m0_113 =>
  some (m0_113)
noncomputable def fX9_does_b12 : Nat → Int32 → Int32 → Int32 → Int32 → Int32 → Mem → Option (Mem)
  | 0, _, _, _, _, _, _ => none
  | n + 1, x1, x2, x3, x4, x5, s0 =>
    if (20 : Int32) ≤ x5 then
      (lt (mi s0 4 0 ((s0.1 4 0) - (1 : Int32))) fun m0_48 =>
      fX9_does_b51 x1 x2 x3 x4 m0_48)
    else
      (ckI (x5 + (4 : Int32)) 24 <|
      ckI x5 24 <|
      lt (mi s0 3 (x5).toNatClampNeg ((s0.1 3) ((x5 + (4 : Int32))).toNatClampNeg)) fun m0_34 =>
      lt (x5 + (1 : Int32)) fun v5_35 =>
      fX9_does_b12 n x1 x2 x3 x4 v5_35 m0_34)
noncomputable def fX9_does (p0 : Int32) (p1 : Int32) (p2 : Int32) (p3 : Int32) (s0 : Mem) : Option (Mem) :=
  if (s0.1 4 0) = (6 : Int32) then
    (fX9_does_b12 FU p0 p1 p2 p3 (0 : Int32) s0)
  else
    (fX9_does_b51 p0 p1 p2 p3 s0)
noncomputable def fX9_comesTo_b8 : Nat → Int32 → Int32 → Int32 → Int32 → Mem → Option (Mem)
  | 0, _, _, _, _, _ => none
  | n + 1, x1, x2, x3, x4, s0 =>
    if x4 ≤ x1 then
      (ckI ((50 : Int32) + ((2 : Int32) * x1)) 66 <|
      lt (mi s0 0 (((50 : Int32) + ((2 : Int32) * x1))).toNatClampNeg x2) fun m0_85 =>
      ckI (((50 : Int32) + ((2 : Int32) * x1)) + (1 : Int32)) 66 <|
      lt (mi m0_85 0 ((((50 : Int32) + ((2 : Int32) * x1)) + (1 : Int32))).toNatClampNeg x3) fun m0_99 =>
      ckI (1 : Int32) 66 <|
      ckI (1 : Int32) 66 <|
      lt (mi m0_99 0 ((1 : Int32)).toNatClampNeg (((m0_99.1 0) ((1 : Int32)).toNatClampNeg) + (1 : Int32))) fun m0_109 =>
      some (m0_109))
    else
      (ckI (((50 : Int32) + ((2 : Int32) * x4)) - (2 : Int32)) 66 <|
      ckI ((50 : Int32) + ((2 : Int32) * x4)) 66 <|
      lt (mi s0 0 (((50 : Int32) + ((2 : Int32) * x4))).toNatClampNeg ((s0.1 0) ((((50 : Int32) + ((2 : Int32) * x4)) - (2 : Int32))).toNatClampNeg)) fun m0_39 =>
      ckI (((50 : Int32) + ((2 : Int32) * x4)) - (1 : Int32)) 66 <|
      ckI (((50 : Int32) + ((2 : Int32) * x4)) + (1 : Int32)) 66 <|
      lt (mi m0_39 0 ((((50 : Int32) + ((2 : Int32) * x4)) + (1 : Int32))).toNatClampNeg ((m0_39.1 0) ((((50 : Int32) + ((2 : Int32) * x4)) - (1 : Int32))).toNatClampNeg)) fun m0_67 =>
      lt (x4 + (-1 : Int32)) fun v4_68 =>
      fX9_comesTo_b8 n x1 x2 x3 v4_68 m0_67)
noncomputable def fX9_comesTo (p0 : Int32) (p1 : Int32) (p2 : Int32) (s0 : Mem) : Option (Mem) :=
  ckI (1 : Int32) 66 <|
  lt (((s0.1 0) ((1 : Int32)).toNatClampNeg)) fun v4_6 =>
  fX9_comesTo_b8 FU p0 p1 p2 v4_6 s0
noncomputable def fX9_undo (s0 : Mem) : Option (Int32 × Mem) :=
  if (s0.1 4 0) = (0 : Int32) then
    (some ((-3 : Int32), s0))
  else
    (lt (mi s0 4 0 ((s0.1 4 0) - (1 : Int32))) fun m0_17 =>
    ckI (((4 : Int32) * (m0_17.1 4 0)) + (1 : Int32)) 24 <|
    lt (((m0_17.1 3) ((((4 : Int32) * (m0_17.1 4 0)) + (1 : Int32))).toNatClampNeg)) fun v1_33 =>
    ckI ((4 : Int32) * (m0_17.1 4 0)) 24 <|
    if ((m0_17.1 3) (((4 : Int32) * (m0_17.1 4 0))).toNatClampNeg) = (0 : Int32) then
      (ckI (0 : Int32) 66 <|
      ckI (0 : Int32) 66 <|
      lt (mi m0_17 0 ((0 : Int32)).toNatClampNeg (((m0_17.1 0) ((0 : Int32)).toNatClampNeg) - (1 : Int32))) fun m0_81 =>
      some ((m0_81.1 4 0), m0_81))
    else
      (if ((m0_17.1 3) (((4 : Int32) * (m0_17.1 4 0))).toNatClampNeg) = (1 : Int32) then
        (ckI (((4 : Int32) * (m0_17.1 4 0)) + (2 : Int32)) 24 <|
        ckI (((2 : Int32) + ((4 : Int32) * v1_33)) + (3 : Int32)) 66 <|
        lt (mi m0_17 0 ((((2 : Int32) + ((4 : Int32) * v1_33)) + (3 : Int32))).toNatClampNeg ((m0_17.1 3) ((((4 : Int32) * (m0_17.1 4 0)) + (2 : Int32))).toNatClampNeg)) fun m0_109 =>
        some ((m0_109.1 4 0), m0_109))
      else
        (if ((m0_17.1 3) (((4 : Int32) * (m0_17.1 4 0))).toNatClampNeg) = (2 : Int32) then
          (ckI (1 : Int32) 66 <|
          ckI (1 : Int32) 66 <|
          lt (mi m0_17 0 ((1 : Int32)).toNatClampNeg (((m0_17.1 0) ((1 : Int32)).toNatClampNeg) - (1 : Int32))) fun m0_122 =>
          some ((m0_122.1 4 0), m0_122))
        else
          (ckI (((4 : Int32) * (m0_17.1 4 0)) + (2 : Int32)) 24 <|
          ckI (((4 : Int32) * (m0_17.1 4 0)) + (3 : Int32)) 24 <|
          b1 (fX9_comesTo v1_33 (((m0_17.1 3) ((((4 : Int32) * (m0_17.1 4 0)) + (2 : Int32))).toNatClampNeg)) (((m0_17.1 3) ((((4 : Int32) * (m0_17.1 4 0)) + (3 : Int32))).toNatClampNeg)) m0_17) fun t0_154 =>
          some ((t0_154.1 4 0), t0_154)))))
noncomputable def fX9_isByte (p0 : Int32) : Option (Int32) :=
  b1 (fX9_isIn p0 (0 : Int32) (255 : Int32)) fun r5 =>
  ckZ r5 <|
  some (r5)
noncomputable def fX9_feed_b127 (K67 : Int32 → Int32 → Int32 → Int32 → Int32 → Int32 → Int32 → Mem → Option (Int32 × Mem)) (x1 : Int32) (x2 : Int32) (x3 : Int32) (x4 : Int32) (x5 : Int32) (x6 : Int32) (x7 : Int32) (y0 : Int32) (y1 : Int32) (s0 : Mem) : Option (Int32 × Mem) :=
  ckI y1 30 <|
  lt (mi s0 5 (y1).toNatClampNeg y0) fun m0_127 =>
  lt (x7 + (1 : Int32)) fun v7_128 =>
  K67 x1 x2 x3 x4 x5 x6 v7_128 m0_127
noncomputable def fX9_feed_b67 : Nat → Int32 → Int32 → Int32 → Int32 → Int32 → Int32 → Int32 → Mem → Option (Int32 × Mem)
  | 0, _, _, _, _, _, _, _, _ => none
  | n + 1, x1, x2, x3, x4, x5, x6, x7, s0 =>
    if x1 ≤ x7 then
      (lt (mi s0 6 0 ((s0.1 6 0) + x1)) fun m0_141 =>
      some ((m0_141.1 6 0), m0_141))
    else
      (if x7 = (0 : Int32) then
        (fX9_feed_b127 (fX9_feed_b67 n) x1 x2 x3 x4 x5 x6 x7 x2 (((s0.1 6 0) + x7)) s0)
      else
        (if x7 = (1 : Int32) then
          (fX9_feed_b127 (fX9_feed_b67 n) x1 x2 x3 x4 x5 x6 x7 x3 (((s0.1 6 0) + x7)) s0)
        else
          (if x7 = (2 : Int32) then
            (fX9_feed_b127 (fX9_feed_b67 n) x1 x2 x3 x4 x5 x6 x7 x4 (((s0.1 6 0) + x7)) s0)
          else
            (if x7 = (3 : Int32) then
              (fX9_feed_b127 (fX9_feed_b67 n) x1 x2 x3 x4 x5 x6 x7 x5 (((s0.1 6 0) + x7)) s0)
            else
              (fX9_feed_b127 (fX9_feed_b67 n) x1 x2 x3 x4 x5 x6 x7 x6 (((s0.1 6 0) + x7)) s0)))))
noncomputable def fX9_feed (p0 : Int32) (p1 : Int32) (p2 : Int32) (p3 : Int32) (p4 : Int32) (p5 : Int32) (s0 : Mem) : Option (Int32 × Mem) :=
  b1 (fX9_isIn p0 (1 : Int32) (5 : Int32)) fun r3 =>
  if r3 = (0 : Int32) then
    (some ((-2 : Int32), s0))
  else
    (b1 (fX9_isByte p1) fun r10 =>
    if r10 = (0 : Int32) then
      (some ((-2 : Int32), s0))
    else
      (b1 (fX9_isByte p2) fun r17 =>
      if r17 = (0 : Int32) then
        (some ((-2 : Int32), s0))
      else
        (b1 (fX9_isByte p3) fun r25 =>
        if r25 = (0 : Int32) then
          (some ((-2 : Int32), s0))
        else
          (b1 (fX9_isByte p4) fun r33 =>
          if r33 = (0 : Int32) then
            (some ((-2 : Int32), s0))
          else
            (b1 (fX9_isByte p5) fun r41 =>
            if r41 = (0 : Int32) then
              (some ((-2 : Int32), s0))
            else
              (if ((s0.1 6 0) + p0) ≤ (30 : Int32) then
                (fX9_feed_b67 FU p0 p1 p2 p3 p4 p5 (0 : Int32) s0)
              else
                (some ((-4 : Int32), s0))))))))
noncomputable def fX9_isLetter (p0 : Int32) (s0 : Mem) : Option (Int32) :=
  if (s0.1 6 0) ≤ p0 then
    (some ((0 : Int32)))
  else
    (ckI p0 30 <|
    b1 (fX9_isIn (((s0.1 5) (p0).toNatClampNeg)) (97 : Int32) (122 : Int32)) fun r18 =>
    if r18 = (0 : Int32) then
      (some ((0 : Int32)))
    else
      (some ((1 : Int32))))
noncomputable def fX9_isDigit (p0 : Int32) (s0 : Mem) : Option (Int32) :=
  if (s0.1 6 0) ≤ p0 then
    (some ((0 : Int32)))
  else
    (ckI p0 30 <|
    b1 (fX9_isIn (((s0.1 5) (p0).toNatClampNeg)) (48 : Int32) (57 : Int32)) fun r18 =>
    if r18 = (0 : Int32) then
      (some ((0 : Int32)))
    else
      (some ((1 : Int32))))
noncomputable def fX9_next_b134 (K96 : Mem → Option (Mem)) (s0 : Mem) : Option (Mem) :=
  lt (mi s0 7 0 ((s0.1 7 0) + (1 : Int32))) fun m0_141 =>
  K96 m0_141
noncomputable def fX9_next_b115 (K96 : Mem → Option (Mem)) (s0 : Mem) : Option (Mem) :=
  if (s0.1 9 0) = (2 : Int32) then
    (b1 (fX9_isDigit ((s0.1 7 0)) s0) fun r128 =>
    if r128 = (0 : Int32) then
      (some (s0))
    else
      (fX9_next_b134 K96 s0))
  else
    (some (s0))
noncomputable def fX9_next_b96 : Nat → Mem → Option (Mem)
  | 0, _ => none
  | n + 1, s0 =>
    if (s0.1 9 0) = (1 : Int32) then
      (b1 (fX9_isLetter ((s0.1 7 0)) s0) fun r109 =>
      if r109 = (0 : Int32) then
        (fX9_next_b115 (fX9_next_b96 n) s0)
      else
        (fX9_next_b134 (fX9_next_b96 n) s0))
    else
      (fX9_next_b115 (fX9_next_b96 n) s0)
noncomputable def fX9_next_b93 (y0 : Int32) (s0 : Mem) : Option (Mem) :=
  lt (mi s0 9 0 y0) fun m0_93 =>
  fX9_next_b96 FU m0_93
noncomputable def fX9_next_b38 (s0 : Mem) : Option (Mem) :=
  lt (mi s0 8 0 (s0.1 7 0)) fun m0_43 =>
  if (m0_43.1 7 0) = (m0_43.1 6 0) then
    (fX9_next_b93 (0 : Int32) m0_43)
  else
    (b1 (fX9_isLetter ((m0_43.1 7 0)) m0_43) fun r67 =>
    if r67 = (0 : Int32) then
      (b1 (fX9_isDigit ((m0_43.1 7 0)) m0_43) fun r82 =>
      if r82 = (0 : Int32) then
        (fX9_next_b93 (3 : Int32) m0_43)
      else
        (fX9_next_b93 (2 : Int32) m0_43))
    else
      (fX9_next_b93 (1 : Int32) m0_43))
noncomputable def fX9_next_b0 : Nat → Mem → Option (Mem)
  | 0, _ => none
  | n + 1, s0 =>
    if (s0.1 6 0) ≤ (s0.1 7 0) then
      (fX9_next_b38 s0)
    else
      (ckI (s0.1 7 0) 30 <|
      if ((s0.1 5) ((s0.1 7 0)).toNatClampNeg) = (32 : Int32) then
        (lt (mi s0 7 0 ((s0.1 7 0) + (1 : Int32))) fun m0_32 =>
        fX9_next_b0 n m0_32)
      else
        (fX9_next_b38 s0))
noncomputable def fX9_next (s0 : Mem) : Option (Mem) :=
  fX9_next_b0 FU s0
noncomputable def fX9_isWord_b69 (K25 : Int32 → Int32 → Option (Int32)) (s0 : Mem) (x1 : Int32) (x2 : Int32) (y0 : Int32) (y1 : Int32) : Option (Int32) :=
  if y1 = y0 then
    (lt (x2 + (1 : Int32)) fun v2_74 =>
    K25 x1 v2_74)
  else
    (some ((0 : Int32)))
noncomputable def fX9_isWord_b25 (s0 : Mem) : Nat → Int32 → Int32 → Option (Int32)
  | 0, _, _ => none
  | n + 1, x1, x2 =>
    if (4 : Int32) ≤ x2 then
      (some ((1 : Int32)))
    else
      (ckI (((4 : Int32) * x1) + x2) 24 <|
      if (s0.1 7 0) ≤ ((s0.1 8 0) + x2) then
        (fX9_isWord_b69 (fX9_isWord_b25 s0 n) s0 x1 x2 (32 : Int32) (((s0.1 10) ((((4 : Int32) * x1) + x2)).toNatClampNeg)))
      else
        (ckI ((s0.1 8 0) + x2) 30 <|
        fX9_isWord_b69 (fX9_isWord_b25 s0 n) s0 x1 x2 (((s0.1 5) (((s0.1 8 0) + x2)).toNatClampNeg)) (((s0.1 10) ((((4 : Int32) * x1) + x2)).toNatClampNeg))))
noncomputable def fX9_isWord (p0 : Int32) (s0 : Mem) : Option (Int32) :=
  if (s0.1 9 0) = (1 : Int32) then
    (if ((s0.1 7 0) - (s0.1 8 0)) ≤ (4 : Int32) then
      (fX9_isWord_b25 s0 FU p0 (0 : Int32))
    else
      (some ((0 : Int32))))
  else
    (some ((0 : Int32)))
noncomputable def fX9_word_b2 (s0 : Mem) : Nat → Int32 → Option (Int32)
  | 0, _ => none
  | n + 1, x1 =>
    if (6 : Int32) ≤ x1 then
      (some ((-1 : Int32)))
    else
      (b1 (fX9_isWord x1 s0) fun r10 =>
      if r10 = (0 : Int32) then
        (lt (x1 + (1 : Int32)) fun v1_18 =>
        fX9_word_b2 s0 n v1_18)
      else
        (some (x1)))
noncomputable def fX9_word (s0 : Mem) : Option (Int32) :=
  fX9_word_b2 s0 FU (0 : Int32)
noncomputable def fX9_number_b30 (s0 : Mem) : Nat → Int32 → Int32 → Option (Int32)
  | 0, _, _ => none
  | n + 1, x1, x2 =>
    if (s0.1 7 0) ≤ x2 then
      (some (x1))
    else
      (ckI x2 30 <|
      lt (((((10 : Int32) * x1) + ((s0.1 5) (x2).toNatClampNeg)) - (48 : Int32))) fun v1_52 =>
      lt (x2 + (1 : Int32)) fun v2_53 =>
      fX9_number_b30 s0 n v1_52 v2_53)
noncomputable def fX9_number (s0 : Mem) : Option (Int32) :=
  if (s0.1 9 0) = (2 : Int32) then
    (if ((s0.1 7 0) - (s0.1 8 0)) ≤ (2 : Int32) then
      (lt ((s0.1 8 0)) fun v2_29 =>
      fX9_number_b30 s0 FU (0 : Int32) v2_29)
    else
      (some ((-1 : Int32))))
  else
    (some ((-1 : Int32)))
noncomputable def fX9_readsSource_b80 (x1 : Int32) (x2 : Int32) (y0 : Int32) (y1 : Int32) (s0 : Mem) : Option (Int32 × Mem) :=
  ckI y1 4 <|
  lt (mi s0 11 (y1).toNatClampNeg y0) fun m0_80 =>
  if x2 = (0 : Int32) then
    (ckI x1 4 <|
    b1 (fX9_isGate (((m0_80.1 11) (x1).toNatClampNeg)) m0_80) fun r92 =>
    if r92 = (0 : Int32) then
      (some ((0 : Int32), m0_80))
    else
      (some ((1 : Int32), m0_80)))
  else
    (some ((1 : Int32), m0_80))
noncomputable def fX9_readsSource_b49 (x1 : Int32) (y0 : Int32) (s0 : Mem) : Option (Int32 × Mem) :=
  if y0 = (0 : Int32) then
    (b1 (fX9_number s0) fun r77 =>
    fX9_readsSource_b80 x1 y0 r77 x1 s0)
  else
    (ckI (s0.1 8 0) 30 <|
    fX9_readsSource_b80 x1 y0 (((-1 : Int32) - (((s0.1 5) ((s0.1 8 0)).toNatClampNeg) - (97 : Int32)))) x1 s0)
noncomputable def fX9_readsSource_b48 (x1 : Int32) (s0 : Mem) : Option (Int32 × Mem) :=
  fX9_readsSource_b49 x1 (0 : Int32) s0
noncomputable def fX9_readsSource (p0 : Int32) (s0 : Mem) : Option (Int32 × Mem) :=
  b1 (fX9_next s0) fun t0_1 =>
  if (t0_1.1 9 0) = (1 : Int32) then
    (if ((t0_1.1 7 0) - (t0_1.1 8 0)) = (1 : Int32) then
      (ckI (t0_1.1 8 0) 30 <|
      b1 (fX9_isIn (((t0_1.1 5) ((t0_1.1 8 0)).toNatClampNeg)) (97 : Int32) (100 : Int32)) fun r38 =>
      if r38 = (0 : Int32) then
        (fX9_readsSource_b48 p0 t0_1)
      else
        (fX9_readsSource_b49 p0 (1 : Int32) t0_1))
    else
      (fX9_readsSource_b48 p0 t0_1))
  else
    (fX9_readsSource_b48 p0 t0_1)
noncomputable def fX9_readsDelay (s0 : Mem) : Option (Int32 × Mem) :=
  b1 (fX9_next s0) fun t0_1 =>
  b1 (fX9_number t0_1) fun r10 =>
  ckI (3 : Int32) 4 <|
  lt (mi t0_1 11 ((3 : Int32)).toNatClampNeg r10) fun m0_13 =>
  ckI (3 : Int32) 4 <|
  b1 (fX9_isIn (((m0_13.1 11) ((3 : Int32)).toNatClampNeg)) (1 : Int32) (9 : Int32)) fun r23 =>
  ckZ r23 <|
  some (r23, m0_13)
noncomputable def fX9_isText_b71 (s0 : Mem) : Option (Int32 × Mem) :=
  b2 (fX9_readsDelay s0) fun r72 t0_72 =>
  if r72 = (0 : Int32) then
    (some ((0 : Int32), t0_72))
  else
    (b1 (fX9_next t0_72) fun t0_81 =>
    if (t0_81.1 9 0) = (0 : Int32) then
      (some ((1 : Int32), t0_81))
    else
      (some ((0 : Int32), t0_81)))
noncomputable def fX9_isText (s0 : Mem) : Option (Int32 × Mem) :=
  lt (mi s0 7 0 (0 : Int32)) fun m0_2 =>
  b1 (fX9_next m0_2) fun t0_6 =>
  b1 (fX9_word t0_6) fun r15 =>
  ckI (0 : Int32) 4 <|
  lt (mi t0_6 11 ((0 : Int32)).toNatClampNeg r15) fun m0_18 =>
  ckI (0 : Int32) 4 <|
  if ((m0_18.1 11) ((0 : Int32)).toNatClampNeg) = (-1 : Int32) then
    (some ((0 : Int32), m0_18))
  else
    (b2 (fX9_readsSource (1 : Int32) m0_18) fun r31 t0_31 =>
    if r31 = (0 : Int32) then
      (some ((0 : Int32), t0_31))
    else
      (ckI (1 : Int32) 4 <|
      ckI (2 : Int32) 4 <|
      lt (mi t0_31 11 ((2 : Int32)).toNatClampNeg ((t0_31.1 11) ((1 : Int32)).toNatClampNeg)) fun m0_50 =>
      ckI (0 : Int32) 4 <|
      if ((m0_50.1 11) ((0 : Int32)).toNatClampNeg) = (5 : Int32) then
        (fX9_isText_b71 m0_50)
      else
        (b2 (fX9_readsSource (2 : Int32) m0_50) fun r63 t0_63 =>
        if r63 = (0 : Int32) then
          (some ((0 : Int32), t0_63))
        else
          (fX9_isText_b71 t0_63))))
noncomputable def fX9_text_b38 : Nat → Int32 → Mem → Option (Int32 × Mem)
  | 0, _, _ => none
  | n + 1, x2, s0 =>
    if (4 : Int32) ≤ x2 then
      (ckI (0 : Int32) 66 <|
      ckI (0 : Int32) 66 <|
      lt (mi s0 0 ((0 : Int32)).toNatClampNeg (((s0.1 0) ((0 : Int32)).toNatClampNeg) + (1 : Int32))) fun m0_81 =>
      b1 (fX9_does (0 : Int32) (0 : Int32) (0 : Int32) (0 : Int32) m0_81) fun t0_87 =>
      ckI (0 : Int32) 66 <|
      some ((((t0_87.1 0) ((0 : Int32)).toNatClampNeg) - (1 : Int32)), t0_87))
    else
      (ckI (0 : Int32) 66 <|
      ckI x2 4 <|
      ckI (((2 : Int32) + ((4 : Int32) * ((s0.1 0) ((0 : Int32)).toNatClampNeg))) + x2) 66 <|
      lt (mi s0 0 ((((2 : Int32) + ((4 : Int32) * ((s0.1 0) ((0 : Int32)).toNatClampNeg))) + x2)).toNatClampNeg ((s0.1 11) (x2).toNatClampNeg)) fun m0_65 =>
      lt (x2 + (1 : Int32)) fun v2_66 =>
      fX9_text_b38 n v2_66 m0_65)
noncomputable def fX9_text (s0 : Mem) : Option (Int32 × Mem) :=
  b2 (fX9_isText s0) fun r1 t0_1 =>
  lt (mi t0_1 6 0 (0 : Int32)) fun m0_7 =>
  if r1 = (0 : Int32) then
    (some (((-100 : Int32) - (m0_7.1 8 0)), m0_7))
  else
    (ckI (0 : Int32) 66 <|
    if ((m0_7.1 0) ((0 : Int32)).toNatClampNeg) = (12 : Int32) then
      (some ((-4 : Int32), m0_7))
    else
      (fX9_text_b38 FU (0 : Int32) m0_7))
noncomputable def fX9_delay (p0 : Int32) (p1 : Int32) (s0 : Mem) : Option (Int32 × Mem) :=
  b1 (fX9_isGate p0 s0) fun r2 =>
  if r2 = (0 : Int32) then
    (some ((-2 : Int32), s0))
  else
    (b1 (fX9_isIn p1 (1 : Int32) (9 : Int32)) fun r12 =>
    if r12 = (0 : Int32) then
      (some ((-2 : Int32), s0))
    else
      (b2 (fX9_sets p0 (3 : Int32) p1 s0) fun r25 t0_25 =>
      b1 (fX9_does (1 : Int32) p0 r25 (0 : Int32) t0_25) fun t0_34 =>
      some (r25, t0_34)))
noncomputable def fX9_drop (s0 : Mem) : Option (Int32 × Mem) :=
  ckI (0 : Int32) 66 <|
  if ((s0.1 0) ((0 : Int32)).toNatClampNeg) = (0 : Int32) then
    (some ((-3 : Int32), s0))
  else
    (ckI (0 : Int32) 66 <|
    ckI (0 : Int32) 66 <|
    lt (mi s0 0 ((0 : Int32)).toNatClampNeg (((s0.1 0) ((0 : Int32)).toNatClampNeg) - (1 : Int32))) fun m0_21 =>
    lt (mi m0_21 4 0 (0 : Int32)) fun m0_24 =>
    ckI (0 : Int32) 66 <|
    some (((m0_24.1 0) ((0 : Int32)).toNatClampNeg), m0_24))
noncomputable def fX9_pathOf : Nat → Int32 → Mem → Option (Int32)
  | 0, _, _ => none
  | n + 1, p0, s0 =>
    if (0 : Int32) ≤ p0 then
      (b1 (fX9_of p0 (1 : Int32) s0) fun r10 =>
      b1 (fX9_pathOf n r10 s0) fun r13 =>
      b1 (fX9_of p0 (2 : Int32) s0) fun r21 =>
      b1 (fX9_pathOf n r21 s0) fun r24 =>
      b1 (fX9_of p0 (3 : Int32) s0) fun r31 =>
      if r13 ≤ r24 then
        (some ((r31 + r24)))
      else
        (some ((r31 + r13))))
    else
      (some ((0 : Int32)))
noncomputable def fX9_sourceOf_b40 (K4 : Int32 → Int32 → Int32 → Option (Int32)) (s0 : Mem) (x1 : Int32) (x3 : Int32) (y0 : Int32) (y1 : Int32) : Option (Int32) :=
  lt ((y1 + y0)) fun v2_41 =>
  lt (x3 + (1 : Int32)) fun v3_42 =>
  K4 x1 v2_41 v3_42
noncomputable def fX9_sourceOf_b35 (K4 : Int32 → Int32 → Int32 → Option (Int32)) (s0 : Mem) (x1 : Int32) (x3 : Int32) (y0 : Int32) : Option (Int32) :=
  fX9_sourceOf_b40 K4 s0 x1 x3 (1 : Int32) y0
noncomputable def fX9_sourceOf_b4 (s0 : Mem) : Nat → Int32 → Int32 → Int32 → Option (Int32)
  | 0, _, _, _ => none
  | n + 1, x1, x2, x3 =>
    ckI (0 : Int32) 66 <|
    if ((s0.1 0) ((0 : Int32)).toNatClampNeg) ≤ x3 then
      (some (x2))
    else
      (b1 (fX9_of x3 (1 : Int32) s0) fun r18 =>
      if r18 = x1 then
        (fX9_sourceOf_b35 (fX9_sourceOf_b4 s0 n) s0 x1 x3 x2)
      else
        (b1 (fX9_of x3 (2 : Int32) s0) fun r28 =>
        if r28 = x1 then
          (fX9_sourceOf_b35 (fX9_sourceOf_b4 s0 n) s0 x1 x3 x2)
        else
          (fX9_sourceOf_b40 (fX9_sourceOf_b4 s0 n) s0 x1 x3 (0 : Int32) x2)))
noncomputable def fX9_sourceOf (p0 : Int32) (s0 : Mem) : Option (Int32) :=
  fX9_sourceOf_b4 s0 FU p0 (0 : Int32) (0 : Int32)
noncomputable def fX9_gate (p0 : Int32) (p1 : Int32) (s0 : Mem) : Option (Int32) :=
  b1 (fX9_isGate p0 s0) fun r2 =>
  if r2 = (0 : Int32) then
    (some ((-2 : Int32)))
  else
    (b1 (fX9_isIn p1 (0 : Int32) (5 : Int32)) fun r11 =>
    if r11 = (0 : Int32) then
      (some ((-2 : Int32)))
    else
      (if p1 = (4 : Int32) then
        (b1 (fX9_pathOf 16 p0 s0) fun r27 =>
        some (r27))
      else
        (if p1 = (5 : Int32) then
          (b1 (fX9_sourceOf p0 s0) fun r40 =>
          some (r40))
        else
          (b1 (fX9_of p0 p1 s0) fun r49 =>
          some (r49)))))
noncomputable def fX9_taken_b56 (s0 : Mem) (x1 : Int32) (y0 : Int32) : Option (Int32) :=
  if y0 = (0 : Int32) then
    (some ((-13 : Int32)))
  else
    (b1 (fX9_of x1 (3 : Int32) s0) fun r66 =>
    some (r66))
noncomputable def fX9_taken_b51 (s0 : Mem) (x1 : Int32) : Option (Int32) :=
  fX9_taken_b56 s0 x1 (1 : Int32)
noncomputable def fX9_taken_b55 (s0 : Mem) (x1 : Int32) : Option (Int32) :=
  fX9_taken_b56 s0 x1 (0 : Int32)
noncomputable def fX9_taken_b41 (s0 : Mem) (x1 : Int32) (x2 : Int32) (x3 : Int32) : Option (Int32) :=
  if x3 = (3 : Int32) then
    (if x2 = (2 : Int32) then
      (fX9_taken_b51 s0 x1)
    else
      (fX9_taken_b55 s0 x1))
  else
    (fX9_taken_b55 s0 x1)
noncomputable def fX9_taken (p0 : Int32) (p1 : Int32) (s0 : Mem) : Option (Int32) :=
  b1 (fX9_isGate p0 s0) fun r2 =>
  if r2 = (0 : Int32) then
    (some ((-2 : Int32)))
  else
    (b1 (fX9_isIn p1 (0 : Int32) (5 : Int32)) fun r11 =>
    if r11 = (0 : Int32) then
      (some ((-2 : Int32)))
    else
      (b1 (fX9_of p0 (0 : Int32) s0) fun r23 =>
      if r23 = p1 then
        (fX9_taken_b51 s0 p0)
      else
        (if r23 = (1 : Int32) then
          (if p1 = (0 : Int32) then
            (fX9_taken_b51 s0 p0)
          else
            (fX9_taken_b41 s0 p0 p1 r23))
        else
          (fX9_taken_b41 s0 p0 p1 r23))))
noncomputable def fX9_told (p0 : Int32) (p1 : Int32) (p2 : Int32) : Option (Int32) :=
  if p0 = (0 : Int32) then
    (some ((p1 &&& p2)))
  else
    (if p0 = (1 : Int32) then
      (some (((1 : Int32) - (p1 &&& p2))))
    else
      (if p0 = (2 : Int32) then
        (some ((p1 ||| p2)))
      else
        (if p0 = (3 : Int32) then
          (some (((1 : Int32) - (p1 ||| p2))))
        else
          (if p0 = (4 : Int32) then
            (some ((p1 ^^^ p2)))
          else
            (some (((1 : Int32) - p1)))))))
noncomputable def fX9_standsOf (p0 : Int32) (p1 : Int32) (s0 : Mem) : Option (Int32) :=
  if (0 : Int32) ≤ p0 then
    (ckI p0 12 <|
    some (((s0.1 12) (p0).toNatClampNeg)))
  else
    (some (((p1 >>> (((-1 : Int32) - p0) &&& 31)) &&& (1 : Int32))))
noncomputable def fX9_standsAll_b2 : Nat → Int32 → Int32 → Mem → Option (Mem)
  | 0, _, _, _ => none
  | n + 1, x1, x2, s0 =>
    ckI (0 : Int32) 66 <|
    if ((s0.1 0) ((0 : Int32)).toNatClampNeg) ≤ x2 then
      (some (s0))
    else
      (b1 (fX9_of x2 (0 : Int32) s0) fun r20 =>
      b1 (fX9_of x2 (1 : Int32) s0) fun r27 =>
      b1 (fX9_standsOf r27 x1 s0) fun r31 =>
      b1 (fX9_of x2 (2 : Int32) s0) fun r38 =>
      b1 (fX9_standsOf r38 x1 s0) fun r42 =>
      b1 (fX9_told r20 r31 r42) fun r45 =>
      ckI x2 12 <|
      lt (mi s0 12 (x2).toNatClampNeg r45) fun m0_48 =>
      lt (x2 + (1 : Int32)) fun v2_49 =>
      fX9_standsAll_b2 n x1 v2_49 m0_48)
noncomputable def fX9_standsAll (p0 : Int32) (s0 : Mem) : Option (Mem) :=
  fX9_standsAll_b2 FU p0 (0 : Int32) s0
noncomputable def fX9_tells (p0 : Int32) (p1 : Int32) (s0 : Mem) : Option (Int32 × Mem) :=
  b1 (fX9_isGate p0 s0) fun r2 =>
  if r2 = (0 : Int32) then
    (some ((-2 : Int32), s0))
  else
    (b1 (fX9_isStand p1) fun r9 =>
    if r9 = (0 : Int32) then
      (some ((-2 : Int32), s0))
    else
      (b1 (fX9_standsAll p1 s0) fun t0_20 =>
      ckI p0 12 <|
      some (((t0_20.1 12) (p0).toNatClampNeg), t0_20)))
noncomputable def fX9_tableOf_b4 : Nat → Int32 → Int32 → Mem → Option (Int32 × Mem)
  | 0, _, _, _ => none
  | n + 1, x1, x2, s0 =>
    if (16 : Int32) ≤ x2 then
      (some (x1, s0))
    else
      (b1 (fX9_standsAll x2 s0) fun t0_12 =>
      b1 (fX9_output t0_12) fun r21 =>
      ckI r21 12 <|
      lt ((x1 ||| (((t0_12.1 12) (r21).toNatClampNeg) <<< (x2 &&& 31)))) fun v1_28 =>
      lt (x2 + (1 : Int32)) fun v2_29 =>
      fX9_tableOf_b4 n v1_28 v2_29 t0_12)
noncomputable def fX9_tableOf (s0 : Mem) : Option (Int32 × Mem) :=
  fX9_tableOf_b4 FU (0 : Int32) (0 : Int32) s0
noncomputable def fX9_table (s0 : Mem) : Option (Int32 × Mem) :=
  ckI (0 : Int32) 66 <|
  if ((s0.1 0) ((0 : Int32)).toNatClampNeg) = (0 : Int32) then
    (some ((-3 : Int32), s0))
  else
    (b2 (fX9_tableOf s0) fun r15 t0_15 =>
    some (r15, t0_15))
noncomputable def fX9_at (p0 : Int32) (p1 : Int32) (p2 : Int32) (p3 : Int32) (s0 : Mem) : Option (Int32) :=
  if (0 : Int32) ≤ p0 then
    (if (0 : Int32) ≤ p3 then
      (ckI (((109 : Int32) * p0) + p3) 1308 <|
      some (((s0.1 13) ((((109 : Int32) * p0) + p3)).toNatClampNeg)))
    else
      (ckI p0 12 <|
      some (((s0.1 12) (p0).toNatClampNeg))))
  else
    (if (0 : Int32) ≤ p3 then
      (some (((p2 >>> (((-1 : Int32) - p0) &&& 31)) &&& (1 : Int32))))
    else
      (some (((p1 >>> (((-1 : Int32) - p0) &&& 31)) &&& (1 : Int32)))))
noncomputable def fX9_outAt (p0 : Int32) (s0 : Mem) : Option (Int32) :=
  if (0 : Int32) ≤ p0 then
    (b1 (fX9_output s0) fun r23 =>
    ckI (((109 : Int32) * r23) + p0) 1308 <|
    some (((s0.1 13) ((((109 : Int32) * r23) + p0)).toNatClampNeg)))
  else
    (b1 (fX9_output s0) fun r9 =>
    ckI r9 12 <|
    some (((s0.1 12) (r9).toNatClampNeg)))
noncomputable def fX9_waves_b153 (K114 : Int32 → Mem → Option (Mem)) (x3 : Int32) (s0 : Mem) : Option (Mem) :=
  lt (x3 + (1 : Int32)) fun v3_153 =>
  K114 v3_153 s0
noncomputable def fX9_waves_b114 : Nat → Int32 → Mem → Option (Mem)
  | 0, _, _ => none
  | n + 1, x3, s0 =>
    if (109 : Int32) ≤ x3 then
      (some (s0))
    else
      (b1 (fX9_outAt x3 s0) fun r122 =>
      b1 (fX9_outAt ((x3 - (1 : Int32))) s0) fun r129 =>
      if r122 = r129 then
        (fX9_waves_b153 (fX9_waves_b114 n) x3 s0)
      else
        (lt (mi s0 14 0 ((s0.1 14 0) + (1 : Int32))) fun m0_145 =>
        lt (mi m0_145 15 0 x3) fun m0_150 =>
        fX9_waves_b153 (fX9_waves_b114 n) x3 m0_150))
noncomputable def fX9_waves_b28 (K7 : Int32 → Int32 → Int32 → Mem → Option (Mem)) : Nat → Int32 → Int32 → Int32 → Int32 → Int32 → Mem → Option (Mem)
  | 0, _, _, _, _, _, _ => none
  | n + 1, x1, x2, x3, x4, x5, s0 =>
    if (109 : Int32) ≤ x5 then
      (lt (x3 + (1 : Int32)) fun v3_96 =>
      K7 x1 x2 v3_96 s0)
    else
      (b1 (fX9_of x3 (0 : Int32) s0) fun r49 =>
      b1 (fX9_of x3 (1 : Int32) s0) fun r56 =>
      b1 (fX9_at r56 x1 x2 ((x5 - x4)) s0) fun r66 =>
      b1 (fX9_of x3 (2 : Int32) s0) fun r73 =>
      b1 (fX9_at r73 x1 x2 ((x5 - x4)) s0) fun r83 =>
      b1 (fX9_told r49 r66 r83) fun r86 =>
      ckI (((109 : Int32) * x3) + x5) 1308 <|
      lt (mi s0 13 ((((109 : Int32) * x3) + x5)).toNatClampNeg r86) fun m0_89 =>
      lt (x5 + (1 : Int32)) fun v5_90 =>
      fX9_waves_b28 K7 n x1 x2 x3 x4 v5_90 m0_89)
noncomputable def fX9_waves_b7 : Nat → Int32 → Int32 → Int32 → Mem → Option (Mem)
  | 0, _, _, _, _ => none
  | n + 1, x1, x2, x3, s0 =>
    ckI (0 : Int32) 66 <|
    if ((s0.1 0) ((0 : Int32)).toNatClampNeg) ≤ x3 then
      (lt (mi s0 14 0 (0 : Int32)) fun m0_104 =>
      lt (mi m0_104 15 0 (-1 : Int32)) fun m0_109 =>
      fX9_waves_b114 FU (0 : Int32) m0_109)
    else
      (b1 (fX9_of x3 (3 : Int32) s0) fun r20 =>
      fX9_waves_b28 (fX9_waves_b7 n) FU x1 x2 x3 r20 (0 : Int32) s0)
noncomputable def fX9_waves (p0 : Int32) (p1 : Int32) (s0 : Mem) : Option (Mem) :=
  b1 (fX9_standsAll p0 s0) fun t0_2 =>
  fX9_waves_b7 FU p0 p1 (0 : Int32) t0_2
noncomputable def fX9_glitch_b19 (s0 : Mem) (y0 : Int32) : Option (Int32) :=
  if y0 = (0 : Int32) then
    (if (s0.1 14 0) ≤ (1 : Int32) then
      (some ((0 : Int32)))
    else
      (some ((2 : Int32))))
  else
    (if (s0.1 14 0) ≤ (0 : Int32) then
      (some ((0 : Int32)))
    else
      (some ((1 : Int32))))
noncomputable def fX9_glitch (s0 : Mem) : Option (Int32) :=
  b1 (fX9_outAt (108 : Int32) s0) fun r3 =>
  b1 (fX9_outAt (-1 : Int32) s0) fun r8 =>
  if r3 = r8 then
    (fX9_glitch_b19 s0 (1 : Int32))
  else
    (fX9_glitch_b19 s0 (0 : Int32))
noncomputable def fX9_isChange (p0 : Int32) (p1 : Int32) : Option (Int32) :=
  b1 (fX9_isStand p0) fun r1 =>
  if r1 = (0 : Int32) then
    (some ((0 : Int32)))
  else
    (b1 (fX9_isStand p1) fun r8 =>
    if r8 = (0 : Int32) then
      (some ((0 : Int32)))
    else
      (if p0 = p1 then
        (some ((0 : Int32)))
      else
        (some ((1 : Int32)))))
noncomputable def fX9_wave (p0 : Int32) (p1 : Int32) (p2 : Int32) (s0 : Mem) : Option (Int32 × Mem) :=
  b1 (fX9_isChange p0 p1) fun r2 =>
  if r2 = (0 : Int32) then
    (some ((-2 : Int32), s0))
  else
    (b1 (fX9_isIn p2 (0 : Int32) (108 : Int32)) fun r12 =>
    if r12 = (0 : Int32) then
      (some ((-2 : Int32), s0))
    else
      (ckI (0 : Int32) 66 <|
      if ((s0.1 0) ((0 : Int32)).toNatClampNeg) = (0 : Int32) then
        (some ((-3 : Int32), s0))
      else
        (b1 (fX9_waves p0 p1 s0) fun t0_36 =>
        b1 (fX9_outAt p2 t0_36) fun r41 =>
        some (r41, t0_36))))
noncomputable def fX9_change (p0 : Int32) (p1 : Int32) (p2 : Int32) (s0 : Mem) : Option (Int32 × Mem) :=
  b1 (fX9_isChange p0 p1) fun r2 =>
  if r2 = (0 : Int32) then
    (some ((-2 : Int32), s0))
  else
    (b1 (fX9_isIn p2 (0 : Int32) (2 : Int32)) fun r11 =>
    if r11 = (0 : Int32) then
      (some ((-2 : Int32), s0))
    else
      (ckI (0 : Int32) 66 <|
      if ((s0.1 0) ((0 : Int32)).toNatClampNeg) = (0 : Int32) then
        (some ((-3 : Int32), s0))
      else
        (b1 (fX9_waves p0 p1 s0) fun t0_35 =>
        if p2 = (0 : Int32) then
          (some ((t0_35.1 14 0), t0_35))
        else
          (if p2 = (1 : Int32) then
            (b1 (fX9_glitch t0_35) fun r55 =>
            some (r55, t0_35))
          else
            (some ((t0_35.1 15 0), t0_35))))))
noncomputable def fX9_isOne_b4 : Nat → Int32 → Int32 → Int32 → Int32 → Option (Int32)
  | 0, _, _, _, _ => none
  | n + 1, x0, x1, x2, x3 =>
    if (4 : Int32) ≤ x3 then
      (if x2 = (1 : Int32) then
        (some ((1 : Int32)))
      else
        (some ((0 : Int32))))
    else
      (lt ((x2 + (((x0 ^^^ x1) >>> (x3 &&& 31)) &&& (1 : Int32)))) fun v2_18 =>
      lt (x3 + (1 : Int32)) fun v3_19 =>
      fX9_isOne_b4 n x0 x1 v2_18 v3_19)
noncomputable def fX9_isOne (p0 : Int32) (p1 : Int32) : Option (Int32) :=
  fX9_isOne_b4 FU p0 p1 (0 : Int32) (0 : Int32)
noncomputable def fX9_worst_b104 (K31 : Int32 → Int32 → Int32 → Int32 → Mem → Option (Int32 × Mem)) (x1 : Int32) (x2 : Int32) (x3 : Int32) (x4 : Int32) (s0 : Mem) : Option (Int32 × Mem) :=
  lt (x4 + (1 : Int32)) fun v4_104 =>
  K31 x1 x2 x3 v4_104 s0
noncomputable def fX9_worst_b103 (K31 : Int32 → Int32 → Int32 → Int32 → Mem → Option (Int32 × Mem)) (x1 : Int32) (x3 : Int32) (x4 : Int32) (y0 : Int32) (s0 : Mem) : Option (Int32 × Mem) :=
  fX9_worst_b104 K31 x1 y0 x3 x4 s0
noncomputable def fX9_worst_b86 (K31 : Int32 → Int32 → Int32 → Int32 → Mem → Option (Int32 × Mem)) (x1 : Int32) (x2 : Int32) (x4 : Int32) (y0 : Int32) (s0 : Mem) : Option (Int32 × Mem) :=
  if (s0.1 14 0) ≤ x2 then
    (fX9_worst_b103 K31 x1 y0 x4 x2 s0)
  else
    (fX9_worst_b103 K31 x1 y0 x4 ((s0.1 14 0)) s0)
noncomputable def fX9_worst_b31 : Nat → Int32 → Int32 → Int32 → Int32 → Mem → Option (Int32 × Mem)
  | 0, _, _, _, _, _ => none
  | n + 1, x1, x2, x3, x4, s0 =>
    if (256 : Int32) ≤ x4 then
      (if x1 = (0 : Int32) then
        (ck0 (16 : Int32) <|
        some ((x3 / (16 : Int32)), s0))
      else
        (if x1 = (1 : Int32) then
          (ck0 (16 : Int32) <|
          some ((x3 - x3 / (16 : Int32) * (16 : Int32)), s0))
        else
          (some (x2, s0))))
    else
      (ck0 (16 : Int32) <|
      ck0 (16 : Int32) <|
      b1 (fX9_isOne ((x4 / (16 : Int32))) ((x4 - x4 / (16 : Int32) * (16 : Int32)))) fun r49 =>
      if r49 = (0 : Int32) then
        (fX9_worst_b104 (fX9_worst_b31 n) x1 x2 x3 x4 s0)
      else
        (ck0 (16 : Int32) <|
        ck0 (16 : Int32) <|
        b1 (fX9_waves ((x4 / (16 : Int32))) ((x4 - x4 / (16 : Int32) * (16 : Int32))) s0) fun t0_69 =>
        if (t0_69.1 14 0) ≤ x2 then
          (fX9_worst_b86 (fX9_worst_b31 n) x1 x2 x4 x3 t0_69)
        else
          (fX9_worst_b86 (fX9_worst_b31 n) x1 x2 x4 x4 t0_69)))
noncomputable def fX9_worst (p0 : Int32) (s0 : Mem) : Option (Int32 × Mem) :=
  b1 (fX9_isIn p0 (0 : Int32) (2 : Int32)) fun r3 =>
  if r3 = (0 : Int32) then
    (some ((-2 : Int32), s0))
  else
    (ckI (0 : Int32) 66 <|
    if ((s0.1 0) ((0 : Int32)).toNatClampNeg) = (0 : Int32) then
      (some ((-3 : Int32), s0))
    else
      (fX9_worst_b31 FU p0 (-1 : Int32) (0 : Int32) (0 : Int32) s0))
noncomputable def fX9_glitches_b80 (K28 : Int32 → Int32 → Int32 → Mem → Option (Int32 × Mem)) (x1 : Int32) (x2 : Int32) (x3 : Int32) (s0 : Mem) : Option (Int32 × Mem) :=
  lt (x3 + (1 : Int32)) fun v3_80 =>
  K28 x1 x2 v3_80 s0
noncomputable def fX9_glitches_b78 (K28 : Int32 → Int32 → Int32 → Mem → Option (Int32 × Mem)) (x1 : Int32) (x3 : Int32) (y0 : Int32) (y1 : Int32) (s0 : Mem) : Option (Int32 × Mem) :=
  lt ((y1 + y0)) fun v2_79 =>
  fX9_glitches_b80 K28 x1 v2_79 x3 s0
noncomputable def fX9_glitches_b28 : Nat → Int32 → Int32 → Int32 → Mem → Option (Int32 × Mem)
  | 0, _, _, _, _ => none
  | n + 1, x1, x2, x3, s0 =>
    if (256 : Int32) ≤ x3 then
      (some (x2, s0))
    else
      (ck0 (16 : Int32) <|
      ck0 (16 : Int32) <|
      b1 (fX9_isOne ((x3 / (16 : Int32))) ((x3 - x3 / (16 : Int32) * (16 : Int32)))) fun r43 =>
      if r43 = (0 : Int32) then
        (fX9_glitches_b80 (fX9_glitches_b28 n) x1 x2 x3 s0)
      else
        (ck0 (16 : Int32) <|
        ck0 (16 : Int32) <|
        b1 (fX9_waves ((x3 / (16 : Int32))) ((x3 - x3 / (16 : Int32) * (16 : Int32))) s0) fun t0_61 =>
        b1 (fX9_glitch t0_61) fun r66 =>
        if r66 = x1 then
          (fX9_glitches_b78 (fX9_glitches_b28 n) x1 x3 (1 : Int32) x2 t0_61)
        else
          (fX9_glitches_b78 (fX9_glitches_b28 n) x1 x3 (0 : Int32) x2 t0_61)))
noncomputable def fX9_glitches (p0 : Int32) (s0 : Mem) : Option (Int32 × Mem) :=
  b1 (fX9_isIn p0 (0 : Int32) (2 : Int32)) fun r3 =>
  if r3 = (0 : Int32) then
    (some ((-2 : Int32), s0))
  else
    (ckI (0 : Int32) 66 <|
    if ((s0.1 0) ((0 : Int32)).toNatClampNeg) = (0 : Int32) then
      (some ((-3 : Int32), s0))
    else
      (fX9_glitches_b28 FU p0 (0 : Int32) (0 : Int32) s0))
noncomputable def fX9_longest_b32 (s0 : Mem) (y0 : Int32) : Option (Int32) :=
  if (0 : Int32) ≤ y0 then
    (some (y0))
  else
    (some ((-1 : Int32)))
noncomputable def fX9_longest (p0 : Int32) (s0 : Mem) : Option (Int32) :=
  b1 (fX9_of p0 (1 : Int32) s0) fun r3 =>
  b1 (fX9_of p0 (2 : Int32) s0) fun r10 =>
  b1 (fX9_pathOf 16 r10 s0) fun r16 =>
  b1 (fX9_pathOf 16 r3 s0) fun r21 =>
  if r16 ≤ r21 then
    (fX9_longest_b32 s0 r3)
  else
    (fX9_longest_b32 s0 r10)
noncomputable def fX9_path_b26 (s0 : Mem) : Nat → Int32 → Int32 → Int32 → Option (Int32)
  | 0, _, _, _ => none
  | n + 1, x1, x2, x3 =>
    if x1 ≤ x3 then
      (some (x2))
    else
      (if x2 = (-1 : Int32) then
        (some (x2))
      else
        (b1 (fX9_longest x2 s0) fun r38 =>
        lt (x3 + (1 : Int32)) fun v3_42 =>
        fX9_path_b26 s0 n x1 r38 v3_42))
noncomputable def fX9_path (p0 : Int32) (s0 : Mem) : Option (Int32) :=
  if (0 : Int32) ≤ p0 then
    (ckI (0 : Int32) 66 <|
    if ((s0.1 0) ((0 : Int32)).toNatClampNeg) = (0 : Int32) then
      (some ((-3 : Int32)))
    else
      (b1 (fX9_output s0) fun r20 =>
      fX9_path_b26 s0 FU p0 r20 (0 : Int32)))
  else
    (some ((-2 : Int32)))
noncomputable def fX9_holdsBy_b25 (K4 : Int32 → Int32 → Int32 → Int32 → Option (Int32)) (x0 : Int32) (x1 : Int32) (x3 : Int32) (y0 : Int32) (y1 : Int32) : Option (Int32) :=
  lt ((y1 ||| y0)) fun v2_26 =>
  lt (x3 + (1 : Int32)) fun v3_27 =>
  K4 x0 x1 v2_26 v3_27
noncomputable def fX9_holdsBy_b4 : Nat → Int32 → Int32 → Int32 → Int32 → Option (Int32)
  | 0, _, _, _, _ => none
  | n + 1, x0, x1, x2, x3 =>
    if (16 : Int32) ≤ x3 then
      (some (x2))
    else
      (if (x3 &&& x0) = x1 then
        (fX9_holdsBy_b25 (fX9_holdsBy_b4 n) x0 x1 x3 (((1 : Int32) <<< (x3 &&& 31))) x2)
      else
        (fX9_holdsBy_b25 (fX9_holdsBy_b4 n) x0 x1 x3 (0 : Int32) x2))
noncomputable def fX9_holdsBy (p0 : Int32) (p1 : Int32) : Option (Int32) :=
  fX9_holdsBy_b4 FU p0 p1 (0 : Int32) (0 : Int32)
noncomputable def fX9_holds (p0 : Int32) (s0 : Mem) : Option (Int32) :=
  ckI ((50 : Int32) + ((2 : Int32) * p0)) 66 <|
  ckI (((50 : Int32) + ((2 : Int32) * p0)) + (1 : Int32)) 66 <|
  b1 (fX9_holdsBy (((s0.1 0) (((50 : Int32) + ((2 : Int32) * p0))).toNatClampNeg)) (((s0.1 0) ((((50 : Int32) + ((2 : Int32) * p0)) + (1 : Int32))).toNatClampNeg))) fun r24 =>
  some (r24)
noncomputable def fX9_isTerm (p0 : Int32) (p1 : Int32) : Option (Int32) :=
  b1 (fX9_isIn p0 (0 : Int32) (15 : Int32)) fun r4 =>
  if r4 = (0 : Int32) then
    (some ((0 : Int32)))
  else
    (b1 (fX9_isIn p1 (0 : Int32) (15 : Int32)) fun r14 =>
    if r14 = (0 : Int32) then
      (some ((0 : Int32)))
    else
      (if (p1 &&& (p0 ^^^ (-1 : Int32))) = (0 : Int32) then
        (some ((1 : Int32)))
      else
        (some ((0 : Int32)))))
noncomputable def fX9_term (p0 : Int32) (p1 : Int32) (s0 : Mem) : Option (Int32 × Mem) :=
  b1 (fX9_isTerm p0 p1) fun r2 =>
  if r2 = (0 : Int32) then
    (some ((-2 : Int32), s0))
  else
    (ckI (1 : Int32) 66 <|
    if ((s0.1 0) ((1 : Int32)).toNatClampNeg) = (8 : Int32) then
      (some ((-4 : Int32), s0))
    else
      (ckI (1 : Int32) 66 <|
      b1 (fX9_comesTo (((s0.1 0) ((1 : Int32)).toNatClampNeg)) p0 p1 s0) fun t0_34 =>
      b1 (fX9_does (2 : Int32) (0 : Int32) (0 : Int32) (0 : Int32) t0_34) fun t0_42 =>
      ckI (1 : Int32) 66 <|
      some ((((t0_42.1 0) ((1 : Int32)).toNatClampNeg) - (1 : Int32)), t0_42)))
noncomputable def fX9_off_b51 : Nat → Int32 → Mem → Option (Int32 × Mem)
  | 0, _, _ => none
  | n + 1, x2, s0 =>
    ckI (1 : Int32) 66 <|
    if (((s0.1 0) ((1 : Int32)).toNatClampNeg) - (1 : Int32)) ≤ x2 then
      (ckI (1 : Int32) 66 <|
      ckI (1 : Int32) 66 <|
      lt (mi s0 0 ((1 : Int32)).toNatClampNeg (((s0.1 0) ((1 : Int32)).toNatClampNeg) - (1 : Int32))) fun m0_128 =>
      ckI (1 : Int32) 66 <|
      some (((m0_128.1 0) ((1 : Int32)).toNatClampNeg), m0_128))
    else
      (ckI (((50 : Int32) + ((2 : Int32) * x2)) + (2 : Int32)) 66 <|
      ckI ((50 : Int32) + ((2 : Int32) * x2)) 66 <|
      lt (mi s0 0 (((50 : Int32) + ((2 : Int32) * x2))).toNatClampNeg ((s0.1 0) ((((50 : Int32) + ((2 : Int32) * x2)) + (2 : Int32))).toNatClampNeg)) fun m0_86 =>
      ckI (((50 : Int32) + ((2 : Int32) * x2)) + (3 : Int32)) 66 <|
      ckI (((50 : Int32) + ((2 : Int32) * x2)) + (1 : Int32)) 66 <|
      lt (mi m0_86 0 ((((50 : Int32) + ((2 : Int32) * x2)) + (1 : Int32))).toNatClampNeg ((m0_86.1 0) ((((50 : Int32) + ((2 : Int32) * x2)) + (3 : Int32))).toNatClampNeg)) fun m0_112 =>
      lt (x2 + (1 : Int32)) fun v2_113 =>
      fX9_off_b51 n v2_113 m0_112)
noncomputable def fX9_off (p0 : Int32) (s0 : Mem) : Option (Int32 × Mem) :=
  ckI (1 : Int32) 66 <|
  b1 (fX9_isIn p0 (0 : Int32) ((((s0.1 0) ((1 : Int32)).toNatClampNeg) - (1 : Int32)))) fun r10 =>
  if r10 = (0 : Int32) then
    (some ((-2 : Int32), s0))
  else
    (ckI ((50 : Int32) + ((2 : Int32) * p0)) 66 <|
    ckI (((50 : Int32) + ((2 : Int32) * p0)) + (1 : Int32)) 66 <|
    b1 (fX9_does (3 : Int32) p0 (((s0.1 0) (((50 : Int32) + ((2 : Int32) * p0))).toNatClampNeg)) (((s0.1 0) ((((50 : Int32) + ((2 : Int32) * p0)) + (1 : Int32))).toNatClampNeg)) s0) fun t0_46 =>
    fX9_off_b51 FU p0 t0_46)
noncomputable def fX9_termOf (p0 : Int32) (p1 : Int32) (s0 : Mem) : Option (Int32) :=
  ckI (1 : Int32) 66 <|
  b1 (fX9_isIn p0 (0 : Int32) ((((s0.1 0) ((1 : Int32)).toNatClampNeg) - (1 : Int32)))) fun r10 =>
  if r10 = (0 : Int32) then
    (some ((-2 : Int32)))
  else
    (b1 (fX9_isIn p1 (0 : Int32) (2 : Int32)) fun r19 =>
    if r19 = (0 : Int32) then
      (some ((-2 : Int32)))
    else
      (if p1 = (2 : Int32) then
        (b1 (fX9_holds p0 s0) fun r35 =>
        some (r35))
      else
        (ckI (((50 : Int32) + ((2 : Int32) * p0)) + p1) 66 <|
        some (((s0.1 0) ((((50 : Int32) + ((2 : Int32) * p0)) + p1)).toNatClampNeg)))))
noncomputable def fX9_coveredSet_b4 (s0 : Mem) : Nat → Int32 → Int32 → Option (Int32)
  | 0, _, _ => none
  | n + 1, x1, x2 =>
    ckI (1 : Int32) 66 <|
    if ((s0.1 0) ((1 : Int32)).toNatClampNeg) ≤ x2 then
      (some (x1))
    else
      (b1 (fX9_holds x2 s0) fun r17 =>
      lt ((x1 ||| r17)) fun v1_21 =>
      lt (x2 + (1 : Int32)) fun v2_22 =>
      fX9_coveredSet_b4 s0 n v1_21 v2_22)
noncomputable def fX9_coveredSet (s0 : Mem) : Option (Int32) :=
  fX9_coveredSet_b4 s0 FU (0 : Int32) (0 : Int32)
noncomputable def fX9_covered (p0 : Int32) (s0 : Mem) : Option (Int32 × Mem) :=
  b1 (fX9_isIn p0 (0 : Int32) (1 : Int32)) fun r3 =>
  if r3 = (0 : Int32) then
    (some ((-2 : Int32), s0))
  else
    (if p0 = (0 : Int32) then
      (b1 (fX9_coveredSet s0) fun r17 =>
      some (r17, s0))
    else
      (ckI (0 : Int32) 66 <|
      if ((s0.1 0) ((0 : Int32)).toNatClampNeg) = (0 : Int32) then
        (some ((-3 : Int32), s0))
      else
        (b1 (fX9_coveredSet s0) fun r36 =>
        b2 (fX9_tableOf s0) fun r40 t0_40 =>
        if r36 = r40 then
          (some ((1 : Int32), t0_40))
        else
          (some ((0 : Int32), t0_40)))))
noncomputable def fX9_areHeld_b2 (s0 : Mem) : Nat → Int32 → Int32 → Option (Int32)
  | 0, _, _ => none
  | n + 1, x1, x2 =>
    ckI (1 : Int32) 66 <|
    if ((s0.1 0) ((1 : Int32)).toNatClampNeg) ≤ x2 then
      (some ((0 : Int32)))
    else
      (b1 (fX9_holds x2 s0) fun r15 =>
      if (x1 &&& (r15 ^^^ (-1 : Int32))) = (0 : Int32) then
        (some ((1 : Int32)))
      else
        (lt (x2 + (1 : Int32)) fun v2_26 =>
        fX9_areHeld_b2 s0 n x1 v2_26))
noncomputable def fX9_areHeld (p0 : Int32) (s0 : Mem) : Option (Int32) :=
  fX9_areHeld_b2 s0 FU p0 (0 : Int32)
noncomputable def fX9_pairOf (p0 : Int32) : Option (Int32) :=
  ck0 (16 : Int32) <|
  lt ((p0 / (16 : Int32))) fun v1_4 =>
  ck0 (16 : Int32) <|
  some ((((1 : Int32) <<< (v1_4 &&& 31)) ||| ((1 : Int32) <<< ((v1_4 ||| ((1 : Int32) <<< ((p0 - p0 / (16 : Int32) * (16 : Int32)) &&& 31))) &&& 31))))
noncomputable def fX9_opensAll_b89 (K20 : Int32 → Int32 → Int32 → Mem → Option (Mem)) (x1 : Int32) (x2 : Int32) (x3 : Int32) (s0 : Mem) : Option (Mem) :=
  lt (x3 + (1 : Int32)) fun v3_89 =>
  K20 x1 x2 v3_89 s0
noncomputable def fX9_opensAll_b20 (K12 : Int32 → Int32 → Mem → Option (Mem)) : Nat → Int32 → Int32 → Int32 → Mem → Option (Mem)
  | 0, _, _, _, _ => none
  | n + 1, x1, x2, x3, s0 =>
    if (4 : Int32) ≤ x3 then
      (lt (x2 + (1 : Int32)) fun v2_95 =>
      K12 x1 v2_95 s0)
    else
      (lt ((((16 : Int32) * x2) + x3)) fun v4_31 =>
      b1 (fX9_has x2 x3) fun r35 =>
      if r35 = (0 : Int32) then
        (b1 (fX9_pairOf v4_31) fun r43 =>
        if (r43 &&& (x1 ^^^ (-1 : Int32))) = (0 : Int32) then
          (b1 (fX9_pairOf v4_31) fun r56 =>
          b1 (fX9_areHeld r56 s0) fun r59 =>
          if r59 = (0 : Int32) then
            (ckI (s0.1 17 0) 32 <|
            lt (mi s0 16 ((s0.1 17 0)).toNatClampNeg v4_31) fun m0_78 =>
            lt (mi m0_78 17 0 ((m0_78.1 17 0) + (1 : Int32))) fun m0_86 =>
            fX9_opensAll_b89 (fX9_opensAll_b20 K12 n) x1 x2 x3 m0_86)
          else
            (fX9_opensAll_b89 (fX9_opensAll_b20 K12 n) x1 x2 x3 s0))
        else
          (fX9_opensAll_b89 (fX9_opensAll_b20 K12 n) x1 x2 x3 s0))
      else
        (fX9_opensAll_b89 (fX9_opensAll_b20 K12 n) x1 x2 x3 s0))
noncomputable def fX9_opensAll_b12 : Nat → Int32 → Int32 → Mem → Option (Mem)
  | 0, _, _, _ => none
  | n + 1, x1, x2, s0 =>
    if (16 : Int32) ≤ x2 then
      (some (s0))
    else
      (fX9_opensAll_b20 (fX9_opensAll_b12 n) FU x1 x2 (0 : Int32) s0)
noncomputable def fX9_opensAll (s0 : Mem) : Option (Mem) :=
  b1 (fX9_coveredSet s0) fun r1 =>
  lt (mi s0 17 0 (0 : Int32)) fun m0_7 =>
  fX9_opensAll_b12 FU r1 (0 : Int32) m0_7
noncomputable def fX9_open (p0 : Int32) (s0 : Mem) : Option (Int32 × Mem) :=
  b1 (fX9_opensAll s0) fun t0_1 =>
  if p0 = (-1 : Int32) then
    (some ((t0_1.1 17 0), t0_1))
  else
    (b1 (fX9_isIn p0 (0 : Int32) (((t0_1.1 17 0) - (1 : Int32)))) fun r24 =>
    if r24 = (0 : Int32) then
      (some ((-12 : Int32), t0_1))
    else
      (ckI p0 32 <|
      some (((t0_1.1 16) (p0).toNatClampNeg), t0_1)))
noncomputable def fX9_isWithin (p0 : Int32) (p1 : Int32) (p2 : Int32) : Option (Int32) :=
  b1 (fX9_holdsBy p0 p1) fun r2 =>
  if (r2 &&& (p2 ^^^ (-1 : Int32))) = (0 : Int32) then
    (some ((1 : Int32)))
  else
    (some ((0 : Int32)))
noncomputable def fX9_isPrime_b39 (K13 : Int32 → Int32 → Int32 → Int32 → Option (Int32)) (x0 : Int32) (x1 : Int32) (x2 : Int32) (x3 : Int32) : Option (Int32) :=
  lt (x3 + (1 : Int32)) fun v3_39 =>
  K13 x0 x1 x2 v3_39
noncomputable def fX9_isPrime_b13 : Nat → Int32 → Int32 → Int32 → Int32 → Option (Int32)
  | 0, _, _, _, _ => none
  | n + 1, x0, x1, x2, x3 =>
    if x0 ≤ x3 then
      (some ((1 : Int32)))
    else
      (if (x3 &&& (x0 ^^^ (-1 : Int32))) = (0 : Int32) then
        (b1 (fX9_isWithin x3 ((x1 &&& x3)) x2) fun r31 =>
        if r31 = (0 : Int32) then
          (fX9_isPrime_b39 (fX9_isPrime_b13 n) x0 x1 x2 x3)
        else
          (some ((0 : Int32))))
      else
        (fX9_isPrime_b39 (fX9_isPrime_b13 n) x0 x1 x2 x3))
noncomputable def fX9_isPrime (p0 : Int32) (p1 : Int32) (p2 : Int32) : Option (Int32) :=
  b1 (fX9_isWithin p0 p1 p2) fun r3 =>
  if r3 = (0 : Int32) then
    (some ((0 : Int32)))
  else
    (fX9_isPrime_b13 FU p0 p1 p2 (0 : Int32))
noncomputable def fX9_primesAll_b70 (K20 : Int32 → Int32 → Int32 → Mem → Option (Mem)) (x1 : Int32) (x2 : Int32) (x3 : Int32) (s0 : Mem) : Option (Mem) :=
  lt (x3 + (1 : Int32)) fun v3_70 =>
  K20 x1 x2 v3_70 s0
noncomputable def fX9_primesAll_b20 (K12 : Int32 → Int32 → Mem → Option (Mem)) : Nat → Int32 → Int32 → Int32 → Mem → Option (Mem)
  | 0, _, _, _, _ => none
  | n + 1, x1, x2, x3, s0 =>
    if x2 < x3 then
      (lt (x2 + (1 : Int32)) fun v2_76 =>
      K12 x1 v2_76 s0)
    else
      (if (x3 &&& (x2 ^^^ (-1 : Int32))) = (0 : Int32) then
        (b1 (fX9_isPrime x2 x3 x1) fun r36 =>
        if r36 = (0 : Int32) then
          (fX9_primesAll_b70 (fX9_primesAll_b20 K12 n) x1 x2 x3 s0)
        else
          (ckI (s0.1 19 0) 32 <|
          lt (mi s0 18 ((s0.1 19 0)).toNatClampNeg (((16 : Int32) * x2) + x3)) fun m0_59 =>
          lt (mi m0_59 19 0 ((m0_59.1 19 0) + (1 : Int32))) fun m0_67 =>
          fX9_primesAll_b70 (fX9_primesAll_b20 K12 n) x1 x2 x3 m0_67))
      else
        (fX9_primesAll_b70 (fX9_primesAll_b20 K12 n) x1 x2 x3 s0))
noncomputable def fX9_primesAll_b12 : Nat → Int32 → Int32 → Mem → Option (Mem)
  | 0, _, _, _ => none
  | n + 1, x1, x2, s0 =>
    if (16 : Int32) ≤ x2 then
      (some (s0))
    else
      (fX9_primesAll_b20 (fX9_primesAll_b12 n) FU x1 x2 (0 : Int32) s0)
noncomputable def fX9_primesAll (s0 : Mem) : Option (Mem) :=
  b1 (fX9_coveredSet s0) fun r1 =>
  lt (mi s0 19 0 (0 : Int32)) fun m0_7 =>
  fX9_primesAll_b12 FU r1 (0 : Int32) m0_7
noncomputable def fX9_prime (p0 : Int32) (s0 : Mem) : Option (Int32 × Mem) :=
  b1 (fX9_primesAll s0) fun t0_1 =>
  if p0 = (-1 : Int32) then
    (some ((t0_1.1 19 0), t0_1))
  else
    (b1 (fX9_isIn p0 (0 : Int32) (((t0_1.1 19 0) - (1 : Int32)))) fun r24 =>
    if r24 = (0 : Int32) then
      (some ((-12 : Int32), t0_1))
    else
      (ckI p0 32 <|
      some (((t0_1.1 18) (p0).toNatClampNeg), t0_1)))
noncomputable def fX9_helds_b85 (K27 : Int32 → Int32 → Mem → Option (Mem)) (x1 : Int32) (x2 : Int32) (y0 : Int32) (y1 : Int32) (y2 : Int32) (s0 : Mem) : Option (Mem) :=
  ckI y2 32 <|
  lt (mi s0 20 (y2).toNatClampNeg (y1 ||| y0)) fun m0_86 =>
  lt (x2 + (1 : Int32)) fun v2_87 =>
  K27 x1 v2_87 m0_86
noncomputable def fX9_helds_b27 (K10 : Int32 → Mem → Option (Mem)) : Nat → Int32 → Int32 → Mem → Option (Mem)
  | 0, _, _, _ => none
  | n + 1, x1, x2, s0 =>
    if (s0.1 19 0) ≤ x2 then
      (lt (x1 + (1 : Int32)) fun v1_93 =>
      K10 v1_93 s0)
    else
      (ckI x1 32 <|
      ckI x1 32 <|
      b1 (fX9_pairOf (((s0.1 16) (x1).toNatClampNeg))) fun r48 =>
      ckI x2 32 <|
      ck0 (16 : Int32) <|
      ckI x2 32 <|
      ck0 (16 : Int32) <|
      b1 (fX9_holdsBy ((((s0.1 18) (x2).toNatClampNeg) / (16 : Int32))) ((((s0.1 18) (x2).toNatClampNeg) - ((s0.1 18) (x2).toNatClampNeg) / (16 : Int32) * (16 : Int32)))) fun r69 =>
      if (r48 &&& (r69 ^^^ (-1 : Int32))) = (0 : Int32) then
        (fX9_helds_b85 (fX9_helds_b27 K10 n) x1 x2 (((1 : Int32) <<< (x2 &&& 31))) (((s0.1 20) (x1).toNatClampNeg)) x1 s0)
      else
        (fX9_helds_b85 (fX9_helds_b27 K10 n) x1 x2 (0 : Int32) (((s0.1 20) (x1).toNatClampNeg)) x1 s0))
noncomputable def fX9_helds_b10 : Nat → Int32 → Mem → Option (Mem)
  | 0, _, _ => none
  | n + 1, x1, s0 =>
    if (s0.1 17 0) ≤ x1 then
      (some (s0))
    else
      (ckI x1 32 <|
      lt (mi s0 20 (x1).toNatClampNeg (0 : Int32)) fun m0_24 =>
      fX9_helds_b27 (fX9_helds_b10 n) FU x1 (0 : Int32) m0_24)
noncomputable def fX9_helds (s0 : Mem) : Option (Mem) :=
  b1 (fX9_primesAll s0) fun t0_1 =>
  b1 (fX9_opensAll t0_1) fun t0_5 =>
  fX9_helds_b10 FU (0 : Int32) t0_5
noncomputable def fX9_areAllHeld_b2 (s0 : Mem) : Nat → Int32 → Int32 → Option (Int32)
  | 0, _, _ => none
  | n + 1, x1, x2 =>
    if (s0.1 17 0) ≤ x2 then
      (some ((1 : Int32)))
    else
      (ckI x2 32 <|
      if (((s0.1 20) (x2).toNatClampNeg) &&& x1) = (0 : Int32) then
        (some ((0 : Int32)))
      else
        (lt (x2 + (1 : Int32)) fun v2_23 =>
        fX9_areAllHeld_b2 s0 n x1 v2_23))
noncomputable def fX9_areAllHeld (p0 : Int32) (s0 : Mem) : Option (Int32) :=
  fX9_areAllHeld_b2 s0 FU p0 (0 : Int32)
noncomputable def fX9_added_b59 (K21 : Int32 → Int32 → Int32 → Mem → Option (Int64 × Mem)) (x1 : Int32) (x2 : Int32) (x3 : Int32) (s0 : Mem) : Option (Int64 × Mem) :=
  lt (x3 + (1 : Int32)) fun v3_59 =>
  K21 x1 x2 v3_59 s0
noncomputable def fX9_added_b49 (K21 : Int32 → Int32 → Int32 → Mem → Option (Int64 × Mem)) (x1 : Int32) (x2 : Int32) (x3 : Int32) (s0 : Mem) : Option (Int64 × Mem) :=
  b1 (fX9_areAllHeld x3 s0) fun r51 =>
  if r51 = (0 : Int32) then
    (fX9_added_b59 K21 x1 x2 x3 s0)
  else
    (fX9_added_b59 K21 x1 x3 x3 s0)
noncomputable def fX9_added_b21 : Nat → Int32 → Int32 → Int32 → Mem → Option (Int64 × Mem)
  | 0, _, _, _, _ => none
  | n + 1, x1, x2, x3, s0 =>
    if ((1 : Int32) <<< ((s0.1 19 0) &&& 31)) ≤ x3 then
      (if x1 = (0 : Int32) then
        (b1 (fX9_bits (((x2).toInt64))) fun r71 =>
        some (((r71).toInt64), s0))
      else
        (some (((x2).toInt64), s0)))
    else
      (if x2 = (-1 : Int32) then
        (fX9_added_b49 (fX9_added_b21 n) x1 x2 x3 s0)
      else
        (b1 (fX9_bits (((x3).toInt64))) fun r38 =>
        b1 (fX9_bits (((x2).toInt64))) fun r43 =>
        if r43 ≤ r38 then
          (fX9_added_b59 (fX9_added_b21 n) x1 x2 x3 s0)
        else
          (fX9_added_b49 (fX9_added_b21 n) x1 x2 x3 s0)))
noncomputable def fX9_added (p0 : Int32) (s0 : Mem) : Option (Int64 × Mem) :=
  b1 (fX9_isIn p0 (0 : Int32) (1 : Int32)) fun r3 =>
  if r3 = (0 : Int32) then
    (some ((-2 : Int64), s0))
  else
    (b1 (fX9_helds s0) fun t0_14 =>
    fX9_added_b21 FU p0 (-1 : Int32) (0 : Int32) t0_14)
noncomputable def fX9_isSheet (p0 : Int32) : Option (Int32) :=
  b1 (fX9_isIn p0 (0 : Int32) (3 : Int32)) fun r3 =>
  ckZ r3 <|
  some (r3)
noncomputable def fX9_firstOther_b9 : Nat → Int32 → Int32 → Mem → Option (Int32 × Mem)
  | 0, _, _, _ => none
  | n + 1, x1, x4, s0 =>
    ckI x1 4 <|
    if ((s0.1 22) (x1).toNatClampNeg) ≤ x4 then
      (some ((-1 : Int32), s0))
    else
      (ckI (((40 : Int32) * x1) + x4) 160 <|
      b1 (fX9_outAt x4 s0) fun r35 =>
      if ((s0.1 23) ((((40 : Int32) * x1) + x4)).toNatClampNeg) = r35 then
        (lt (x4 + (1 : Int32)) fun v4_44 =>
        fX9_firstOther_b9 n x1 v4_44 s0)
      else
        (some (x4, s0)))
noncomputable def fX9_firstOther (p0 : Int32) (p1 : Int32) (p2 : Int32) (s0 : Mem) : Option (Int32 × Mem) :=
  b1 (fX9_waves p1 p2 s0) fun t0_3 =>
  fX9_firstOther_b9 FU p0 (0 : Int32) t0_3
noncomputable def fX9_soBy_b56 (K17 : Int32 → Int32 → Int32 → Int32 → Int32 → Int32 → Int32 → Int32 → Int32 → Mem → Option (Int32 × Mem)) (x1 : Int32) (x2 : Int32) (x3 : Int32) (x4 : Int32) (x5 : Int32) (x7 : Int32) (x8 : Int32) (x10 : Int32) (y0 : Int32) (y1 : Int32) (s0 : Mem) : Option (Int32 × Mem) :=
  lt ((y1 ||| y0)) fun v9_57 =>
  lt (x10 + (1 : Int32)) fun v10_59 =>
  K17 x1 x2 x3 x4 x5 x7 x8 v9_57 v10_59 s0
noncomputable def fX9_soBy_b17 : Nat → Int32 → Int32 → Int32 → Int32 → Int32 → Int32 → Int32 → Int32 → Int32 → Mem → Option (Int32 × Mem)
  | 0, _, _, _, _, _, _, _, _, _, _ => none
  | n + 1, x1, x2, x3, x4, x5, x7, x8, x9, x10, s0 =>
    if x7 < x10 then
      (b2 (fX9_sets x4 x5 x8 s0) fun r72 t0_72 =>
      some (x9, t0_72))
    else
      (b2 (fX9_sets x4 x5 x10 s0) fun r31 t0_31 =>
      b2 (fX9_firstOther x1 x2 x3 t0_31) fun r41 t0_41 =>
      if r41 = (-1 : Int32) then
        (fX9_soBy_b56 (fX9_soBy_b17 n) x1 x2 x3 x4 x5 x7 x8 x10 (((1 : Int32) <<< (x10 &&& 31))) x9 t0_41)
      else
        (fX9_soBy_b56 (fX9_soBy_b17 n) x1 x2 x3 x4 x5 x7 x8 x10 (0 : Int32) x9 t0_41))
noncomputable def fX9_soBy (p0 : Int32) (p1 : Int32) (p2 : Int32) (p3 : Int32) (p4 : Int32) (p5 : Int32) (p6 : Int32) (s0 : Mem) : Option (Int32 × Mem) :=
  b1 (fX9_of p3 p4 s0) fun r5 =>
  fX9_soBy_b17 FU p0 p1 p2 p3 p4 p6 r5 (0 : Int32) p5 s0
noncomputable def fX9_isXy (p0 : Int32) : Option (Int32) :=
  b1 (fX9_isIn p0 (0 : Int32) (255 : Int32)) fun r5 =>
  if r5 = (0 : Int32) then
    (some ((0 : Int32)))
  else
    (ck0 (16 : Int32) <|
    ck0 (16 : Int32) <|
    if (p0 / (16 : Int32)) = (p0 - p0 / (16 : Int32) * (16 : Int32)) then
      (some ((0 : Int32)))
    else
      (some ((1 : Int32))))
noncomputable def fX9_told__b40 (x1 : Int32) (x2 : Int32) (x3 : Int32) (x4 : Int32) (s0 : Mem) : Option (Int32 × Mem) :=
  ckI (0 : Int32) 66 <|
  if ((s0.1 0) ((0 : Int32)).toNatClampNeg) = (0 : Int32) then
    (some ((-3 : Int32), s0))
  else
    (ckI x1 4 <|
    if ((s0.1 21) (x1).toNatClampNeg) = (-1 : Int32) then
      (some ((-11 : Int32), s0))
    else
      (ck0 (16 : Int32) <|
      lt ((x2 / (16 : Int32))) fun v5_69 =>
      ck0 (16 : Int32) <|
      lt ((x2 - x2 / (16 : Int32) * (16 : Int32))) fun v6_75 =>
      if x4 = (0 : Int32) then
        (b2 (fX9_firstOther x1 v5_69 v6_75 s0) fun r88 t0_88 =>
        some (r88, t0_88))
      else
        (if x4 = (1 : Int32) then
          (b2 (fX9_soBy x1 v5_69 v6_75 x3 (3 : Int32) (1 : Int32) (9 : Int32) s0) fun r111 t0_111 =>
          some (r111, t0_111))
        else
          (b2 (fX9_soBy x1 v5_69 v6_75 x3 (0 : Int32) (0 : Int32) (5 : Int32) s0) fun r127 t0_127 =>
          some (r127, t0_127)))))
noncomputable def fX9_told_ (p0 : Int32) (p1 : Int32) (p2 : Int32) (p3 : Int32) (s0 : Mem) : Option (Int32 × Mem) :=
  b1 (fX9_isSheet p0) fun r1 =>
  if r1 = (0 : Int32) then
    (some ((-2 : Int32), s0))
  else
    (b1 (fX9_isXy p1) fun r8 =>
    if r8 = (0 : Int32) then
      (some ((-2 : Int32), s0))
    else
      (b1 (fX9_isIn p3 (0 : Int32) (2 : Int32)) fun r18 =>
      if r18 = (0 : Int32) then
        (some ((-2 : Int32), s0))
      else
        (if p3 ≤ (0 : Int32) then
          (fX9_told__b40 p0 p1 p2 p3 s0)
        else
          (b1 (fX9_isGate p2 s0) fun r31 =>
          if r31 = (0 : Int32) then
            (some ((-2 : Int32), s0))
          else
            (fX9_told__b40 p0 p1 p2 p3 s0)))))
noncomputable def fX9_becomes_b26 : Nat → Int32 → Int32 → Mem → Option (Mem)
  | 0, _, _, _ => none
  | n + 1, x1, x4, s0 =>
    if (40 : Int32) ≤ x4 then
      (some (s0))
    else
      (ckI (((40 : Int32) * x1) + x4) 160 <|
      lt (mi s0 23 ((((40 : Int32) * x1) + x4)).toNatClampNeg (0 : Int32)) fun m0_45 =>
      lt (x4 + (1 : Int32)) fun v4_46 =>
      fX9_becomes_b26 n x1 v4_46 m0_45)
noncomputable def fX9_becomes_b22 (x1 : Int32) (y0 : Int32) (y1 : Int32) (s0 : Mem) : Option (Mem) :=
  ckI y1 4 <|
  lt (mi s0 22 (y1).toNatClampNeg y0) fun m0_22 =>
  fX9_becomes_b26 FU x1 (0 : Int32) m0_22
noncomputable def fX9_becomes (p0 : Int32) (p1 : Int32) (p2 : Int32) (s0 : Mem) : Option (Mem) :=
  ckI p0 4 <|
  lt (mi s0 21 (p0).toNatClampNeg p1) fun m0_6 =>
  if p1 = (-1 : Int32) then
    (fX9_becomes_b22 p0 (0 : Int32) p0 m0_6)
  else
    (fX9_becomes_b22 p0 p2 p0 m0_6)
noncomputable def fX9_film_b61 : Nat → Int32 → Int32 → Int32 → Mem → Option (Int32 × Mem)
  | 0, _, _, _, _ => none
  | n + 1, x1, x3, x4, s0 =>
    if x3 ≤ x4 then
      (some (x3, s0))
    else
      (b1 (fX9_outAt x4 s0) fun r81 =>
      ckI (((40 : Int32) * x1) + x4) 160 <|
      lt (mi s0 23 ((((40 : Int32) * x1) + x4)).toNatClampNeg r81) fun m0_84 =>
      lt (x4 + (1 : Int32)) fun v4_85 =>
      fX9_film_b61 n x1 x3 v4_85 m0_84)
noncomputable def fX9_film (p0 : Int32) (p1 : Int32) (p2 : Int32) (s0 : Mem) : Option (Int32 × Mem) :=
  b1 (fX9_isSheet p0) fun r1 =>
  if r1 = (0 : Int32) then
    (some ((-2 : Int32), s0))
  else
    (b1 (fX9_isXy p1) fun r8 =>
    if r8 = (0 : Int32) then
      (some ((-2 : Int32), s0))
    else
      (b1 (fX9_isIn p2 (0 : Int32) (40 : Int32)) fun r18 =>
      if r18 = (0 : Int32) then
        (some ((-2 : Int32), s0))
      else
        (ckI (0 : Int32) 66 <|
        if ((s0.1 0) ((0 : Int32)).toNatClampNeg) = (0 : Int32) then
          (some ((-3 : Int32), s0))
        else
          (ck0 (16 : Int32) <|
          ck0 (16 : Int32) <|
          b1 (fX9_waves ((p1 / (16 : Int32))) ((p1 - p1 / (16 : Int32) * (16 : Int32))) s0) fun t0_48 =>
          b1 (fX9_becomes p0 (0 : Int32) p2 t0_48) fun t0_55 =>
          fX9_film_b61 FU p0 p2 (0 : Int32) t0_55))))
noncomputable def fX9_image (s0 : Mem) : Option (Int32 × Mem) :=
  b1 (fX9_copies (s0.1 0) (s0.1 1)) fun t1_8 =>
  lt (mi (mr s0 1 t1_8) 2 0 (1 : Int32)) fun m0_13 =>
  ckI (0 : Int32) 66 <|
  some (((m0_13.1 0) ((0 : Int32)).toNatClampNeg), m0_13)
noncomputable def fX9_back (s0 : Mem) : Option (Int32 × Mem) :=
  if (s0.1 2 0) = (0 : Int32) then
    (some ((-3 : Int32), s0))
  else
    (b1 (fX9_copies (s0.1 1) (s0.1 0)) fun t1_18 =>
    lt (mi (mr s0 0 t1_18) 4 0 (0 : Int32)) fun m0_23 =>
    ckI (0 : Int32) 66 <|
    some (((m0_23.1 0) ((0 : Int32)).toNatClampNeg), m0_23))
noncomputable def fX9_count (p0 : Int32) (s0 : Mem) : Option (Int32) :=
  if p0 = (0 : Int32) then
    (ckI (0 : Int32) 66 <|
    some (((s0.1 0) ((0 : Int32)).toNatClampNeg)))
  else
    (if p0 = (1 : Int32) then
      (ckI (1 : Int32) 66 <|
      some (((s0.1 0) ((1 : Int32)).toNatClampNeg)))
    else
      (if p0 = (2 : Int32) then
        (some ((s0.1 4 0)))
      else
        (if p0 = (3 : Int32) then
          (some ((s0.1 6 0)))
        else
          (some ((-2 : Int32))))))
noncomputable def fX9_sheet_b42 (x1 : Int32) (x2 : Int32) (x3 : Int32) (s0 : Mem) : Option (Int32 × Mem) :=
  b1 (fX9_becomes x1 x2 x3 s0) fun t0_46 =>
  some ((1 : Int32), t0_46)
noncomputable def fX9_sheet_b30 (x1 : Int32) (x2 : Int32) (x3 : Int32) (s0 : Mem) : Option (Int32 × Mem) :=
  if x2 = (-1 : Int32) then
    (fX9_sheet_b42 x1 x2 x3 s0)
  else
    (if (0 : Int32) ≤ x3 then
      (fX9_sheet_b42 x1 x2 x3 s0)
    else
      (some ((-14 : Int32), s0)))
noncomputable def fX9_sheet (p0 : Int32) (p1 : Int32) (p2 : Int32) (s0 : Mem) : Option (Int32 × Mem) :=
  b1 (fX9_isSheet p0) fun r1 =>
  if r1 = (0 : Int32) then
    (some ((-2 : Int32), s0))
  else
    (b1 (fX9_isIn p1 (-1 : Int32) (1 : Int32)) fun r10 =>
    if r10 = (0 : Int32) then
      (some ((-2 : Int32), s0))
    else
      (if p1 = (-1 : Int32) then
        (fX9_sheet_b30 p0 p1 p2 s0)
      else
        (if p2 ≤ (40 : Int32) then
          (fX9_sheet_b30 p0 p1 p2 s0)
        else
          (some ((-2 : Int32), s0)))))
noncomputable def fX9_put_b67 (y0 : Int32) (y1 : Int32) (s0 : Mem) : Option (Int32 × Mem) :=
  ckI y1 160 <|
  lt (mi s0 23 (y1).toNatClampNeg y0) fun m0_67 =>
  some ((1 : Int32), m0_67)
noncomputable def fX9_put (p0 : Int32) (p1 : Int32) (p2 : Int32) (s0 : Mem) : Option (Int32 × Mem) :=
  b1 (fX9_isSheet p0) fun r1 =>
  if r1 = (0 : Int32) then
    (some ((-2 : Int32), s0))
  else
    (ckI p0 4 <|
    if ((s0.1 21) (p0).toNatClampNeg) = (-1 : Int32) then
      (some ((-11 : Int32), s0))
    else
      (ckI p0 4 <|
      b1 (fX9_isIn p1 (0 : Int32) ((((s0.1 22) (p0).toNatClampNeg) - (1 : Int32)))) fun r33 =>
      if r33 = (0 : Int32) then
        (some ((-12 : Int32), s0))
      else
        (ckI p0 4 <|
        if ((s0.1 21) (p0).toNatClampNeg) = (0 : Int32) then
          (fX9_put_b67 (((p2).toInt8.toInt32)) ((((40 : Int32) * p0) + p1)) s0)
        else
          (fX9_put_b67 p2 ((((40 : Int32) * p0) + p1)) s0))))
noncomputable def fX9_copy_b130 (K105 : Int32 → Int32 → Int32 → Int32 → Int32 → Int32 → Mem → Option (Int32 × Mem)) (x1 : Int32) (x2 : Int32) (x3 : Int32) (x4 : Int32) (x5 : Int32) (x6 : Int32) (y0 : Int32) (s0 : Mem) : Option (Int32 × Mem) :=
  ckI ((((40 : Int32) * x1) + x2) + y0) 160 <|
  ckI ((((40 : Int32) * x3) + x4) + y0) 160 <|
  lt (mi s0 23 (((((40 : Int32) * x3) + x4) + y0)).toNatClampNeg ((s0.1 23) (((((40 : Int32) * x1) + x2) + y0)).toNatClampNeg)) fun m0_160 =>
  lt (x6 + (1 : Int32)) fun v6_161 =>
  K105 x1 x2 x3 x4 x5 v6_161 m0_160
noncomputable def fX9_copy_b105 : Nat → Int32 → Int32 → Int32 → Int32 → Int32 → Int32 → Mem → Option (Int32 × Mem)
  | 0, _, _, _, _, _, _, _ => none
  | n + 1, x1, x2, x3, x4, x5, x6, s0 =>
    if x5 ≤ x6 then
      (some (x5, s0))
    else
      (if x2 ≤ x4 then
        (fX9_copy_b130 (fX9_copy_b105 n) x1 x2 x3 x4 x5 x6 (((x5 - (1 : Int32)) - x6)) s0)
      else
        (fX9_copy_b130 (fX9_copy_b105 n) x1 x2 x3 x4 x5 x6 x6 s0))
noncomputable def fX9_copy (p0 : Int32) (p1 : Int32) (p2 : Int32) (p3 : Int32) (p4 : Int32) (s0 : Mem) : Option (Int32 × Mem) :=
  b1 (fX9_isSheet p0) fun r1 =>
  if r1 = (0 : Int32) then
    (some ((-2 : Int32), s0))
  else
    (b1 (fX9_isSheet p2) fun r8 =>
    if r8 = (0 : Int32) then
      (some ((-2 : Int32), s0))
    else
      (ckI p0 4 <|
      if ((s0.1 21) (p0).toNatClampNeg) = (-1 : Int32) then
        (some ((-11 : Int32), s0))
      else
        (ckI p2 4 <|
        if ((s0.1 21) (p2).toNatClampNeg) = (-1 : Int32) then
          (some ((-11 : Int32), s0))
        else
          (ckI p0 4 <|
          ckI p2 4 <|
          if ((s0.1 21) (p0).toNatClampNeg) = ((s0.1 21) (p2).toNatClampNeg) then
            (if p4 < (0 : Int32) then
              (some ((-12 : Int32), s0))
            else
              (if p1 < (0 : Int32) then
                (some ((-12 : Int32), s0))
              else
                (if p3 < (0 : Int32) then
                  (some ((-12 : Int32), s0))
                else
                  (ckI p0 4 <|
                  if (((s0.1 22) (p0).toNatClampNeg) - p1) < p4 then
                    (some ((-12 : Int32), s0))
                  else
                    (ckI p2 4 <|
                    if p4 ≤ (((s0.1 22) (p2).toNatClampNeg) - p3) then
                      (fX9_copy_b105 FU p0 p1 p2 p3 p4 (0 : Int32) s0)
                    else
                      (some ((-12 : Int32), s0)))))))
          else
            (some ((-13 : Int32), s0))))))
noncomputable def fX9_load_b136 (K62 : Int32 → Int32 → Int32 → Int32 → Int32 → Mem → Option (Int32 × Mem)) (x1 : Int32) (x3 : Int32) (x4 : Int32) (x6 : Int32) (y0 : Int32) (y1 : Int32) (s0 : Mem) : Option (Int32 × Mem) :=
  lt ((y1 + y0)) fun v5_137 =>
  lt (x6 + (1 : Int32)) fun v6_139 =>
  K62 x1 x3 x4 v5_137 v6_139 s0
noncomputable def fX9_load_b62 : Nat → Int32 → Int32 → Int32 → Int32 → Int32 → Mem → Option (Int32 × Mem)
  | 0, _, _, _, _, _, _ => none
  | n + 1, x1, x3, x4, x5, x6, s0 =>
    if x4 ≤ x6 then
      (some (x5, s0))
    else
      (if x3 < (0 : Int32) then
        (some ((-12 : Int32), s0))
      else
        (ckI x1 4 <|
        if x3 ≤ ((((s0.1 22) (x1).toNatClampNeg) - ((2 : Int32) * x6)) - (2 : Int32)) then
          (lt (((((40 : Int32) * x1) + x3) + ((2 : Int32) * x6))) fun v7_104 =>
          ckI v7_104 160 <|
          ckI (v7_104 + (1 : Int32)) 160 <|
          b2 (fX9_term (((s0.1 23) (v7_104).toNatClampNeg)) (((s0.1 23) ((v7_104 + (1 : Int32))).toNatClampNeg)) s0) fun r125 t0_125 =>
          if r125 < (0 : Int32) then
            (fX9_load_b136 (fX9_load_b62 n) x1 x3 x4 x6 (0 : Int32) x5 t0_125)
          else
            (fX9_load_b136 (fX9_load_b62 n) x1 x3 x4 x6 (1 : Int32) x5 t0_125))
        else
          (some ((-12 : Int32), s0))))
noncomputable def fX9_load (p0 : Int32) (p1 : Int32) (p2 : Int32) (p3 : Int32) (s0 : Mem) : Option (Int32 × Mem) :=
  b1 (fX9_isSheet p0) fun r1 =>
  if r1 = (0 : Int32) then
    (some ((-2 : Int32), s0))
  else
    (b1 (fX9_isIn p1 (0 : Int32) (1 : Int32)) fun r10 =>
    if r10 = (0 : Int32) then
      (some ((-2 : Int32), s0))
    else
      (b1 (fX9_isIn p3 (0 : Int32) (8 : Int32)) fun r21 =>
      if r21 = (0 : Int32) then
        (some ((-2 : Int32), s0))
      else
        (ckI p0 4 <|
        if ((s0.1 21) (p0).toNatClampNeg) = (-1 : Int32) then
          (some ((-11 : Int32), s0))
        else
          (ckI p0 4 <|
          if ((s0.1 21) (p0).toNatClampNeg) = p1 then
            (fX9_load_b62 FU p0 p2 p3 (0 : Int32) (0 : Int32) s0)
          else
            (some ((-13 : Int32), s0))))))
