def G_X8_within (p0 : Int32) (p1 : Int32) (p2 : Int32) : Int32 :=
  if p0 < p1 then (
  0
  ) else (
  if p2 < p0 then (
  0
  ) else (
  1))
def G_X0_of (p0 : Int32) (p1 : Int32) : Int32 :=
  olet ((lrm ((((p0.toInt64 * 48271) + (p1.toInt64 * 7919)) + 12345)) 1048576)) fun x1 =>
  olet ((x1 ^^^ (x1 / 512))) fun x2 =>
  olet ((lrm (((x2 * 7621) + 1)) 1048576)) fun x3 =>
  olet ((x3 ^^^ (x3 / 2048))) fun x4 =>
  x4.toInt32
def G_X0_tagOf (p0 : Int32) : Int32 :=
  (p0 / 16384)
def G_X0_bodyOf (p0 : Int32) : Int32 :=
  (irm p0 16384)
def G_X0_homeOf (p0 : Int32) (p1 : Int32) : Int32 :=
  ((irm p0 16384) &&& ((1 <<< (p1 &&& 31)) - 1))
def G_X0_partner (p0 : Int32) (p1 : Int32) (p2 : Int32) : Int32 :=
  olet (((irm (((37 * p1) + 11)) 64) ||| 1)) fun x1 =>
  (p0 ^^^ (x1 &&& ((1 <<< (p2 &&& 31)) - 1)))
def G_X0_printOf (p0 : Int32) (p1 : Int32) (p2 : Int32) : Int32 :=
  (((irm p0 16384) >>> (p1 &&& 31)) &&& ((1 <<< (p2 &&& 31)) - 1))
def G_X1_pack (p0 : Int32) (p1 : Int32) (p2 : Int32) (p3 : Int32) : Int32 :=
  (((p0 ||| (p1 <<< (6 &&& 31))) ||| (p2 <<< (12 &&& 31))) ||| (p3 <<< (16 &&& 31)))
def G_X1_of (p0 : Int32) (p1 : Int32) (p2 : Int32) : Int32 :=
  olet (G_X0_homeOf p0 p1) fun r1 =>
  olet (G_X0_tagOf p0) fun r2 =>
  olet (G_X0_printOf p0 p1 p2) fun r3 =>
  olet (G_X1_pack r2 r1 p2 r3) fun r4 =>
  r4
def G_X1_tagOf (p0 : Int32) : Int32 :=
  (p0 &&& 63)
def G_X1_homeOf (p0 : Int32) : Int32 :=
  ((p0 >>> (6 &&& 31)) &&& 63)
def G_X1_lengthOf (p0 : Int32) : Int32 :=
  ((p0 >>> (12 &&& 31)) &&& 15)
def G_X1_printOf (p0 : Int32) : Int32 :=
  ((p0 >>> (16 &&& 31)) &&& 255)
def G_X1_lengthIfMatching (p0 : Int32) (p1 : Int32) (p2 : Int32) : Int32 :=
  if p0 = (-1) then (
  (-1)
  ) else (
  olet (G_X1_tagOf p0) fun r1 =>
  olet (G_X0_tagOf p1) fun r2 =>
  if r1 = r2 then (
  olet (G_X1_homeOf p0) fun r3 =>
  olet (G_X0_homeOf p1 p2) fun r4 =>
  if r3 = r4 then (
  olet (G_X1_lengthOf p0) fun r5 =>
  olet (G_X1_printOf p0) fun r6 =>
  olet (G_X0_printOf p1 p2 r5) fun r7 =>
  if r6 = r7 then (
  r5
  ) else (
  (-1))
  ) else (
  (-1))
  ) else (
  (-1)))
def G_X1_doubled (p0 : Int32) (p1 : Int32) : Int32 :=
  olet (G_X1_printOf p0) fun r1 =>
  olet (G_X1_homeOf p0) fun r2 =>
  olet ((r2 + ((r1 &&& 1) <<< (p1 &&& 31)))) fun x3 =>
  olet (G_X1_tagOf p0) fun r4 =>
  olet (G_X1_lengthOf p0) fun r5 =>
  olet (G_X1_pack r4 x3 ((r5 - 1)) ((r1 >>> (1 &&& 31)))) fun r6 =>
  r6
def G_X2_placeIn (p0 : Int32) (p1 : Int32) : Int32 :=
  ((p0 * 4) + p1)
def G_X2_smallerLength (p0 : Int32) (p1 : Int32) : Int32 :=
  if p1 = (-1) then (
  p0
  ) else (
  olet (G_X1_lengthOf p1) fun r1 =>
  if p0 = (-1) then (
  r1
  ) else (
  if p0 ≤ r1 then (
  p0
  ) else (
  r1)))
def G_X2_partOf (p0 : Int32) (p1 : Int32) : Int32 :=
  if p1 = 0 then (
  olet (G_X1_tagOf p0) fun r1 =>
  r1
  ) else (
  if p1 = 1 then (
  olet (G_X1_lengthOf p0) fun r2 =>
  r2
  ) else (
  if p1 = 2 then (
  olet (G_X1_printOf p0) fun r3 =>
  r3
  ) else (
  (-1))))
def G_X6_isDigit (p0 : Int32) : Int32 :=
  if p0 < 48 then (
  0
  ) else (
  if 57 < p0 then (
  0
  ) else (
  1))
def J_X6_stateAfter_43 (v0 : Int32) (v1 : Int32) : Int32 :=
  olet (G_X6_isDigit v1) fun r1 =>
  if r1 = 0 then (
  (-1)
  ) else (
  if 3 < v0 then (
  (-1)
  ) else (
  (v0 + 1)))
def G_X6_stateAfter (p0 : Int32) (p1 : Int32) : Int32 :=
  if p0 = 0 then (
  if p1 = 42 then (
  4
  ) else (
  if p1 = 43 then (
  1
  ) else (
  if p1 = 45 then (
  1
  ) else (
  (-1))))
  ) else (
  if p1 = 59 then (
  if p0 ≤ 1 then (
  J_X6_stateAfter_43 p0 p1
  ) else (
  0)
  ) else (
  J_X6_stateAfter_43 p0 p1))
def G_X2_bucketCount (φ : M2) : Int32 :=
  (1 <<< ((φ 0 0) &&& 31))
def G_X2_slotCount (φ : M2) : Int32 :=
  (φ 0 1)
def G_X2_stashSize (φ : M2) : Int32 :=
  (φ 0 7)
def G_X4_size (φ : M2) : Int32 :=
  (φ 3 1)
def G_X2_keyCount (φ : M2) : Int32 :=
  olet (G_X4_size φ) fun r1 =>
  r1
def G_X4_keyAt (φ : M2) (p1 : Int32) : Option Int32 :=
  if p1 < 0 then (
  some ((-1))
  ) else (
  if (φ 3 1) ≤ p1 then (
  some ((-1))
  ) else (
  if 120 ≤ p1 then (
  some ((-1))
  ) else (
  oin p1 120 <|
  some ((φ 4 p1.toNatClampNeg)))))
def G_X2_keyAt (φ : M2) (p1 : Int32) : Option Int32 :=
  obd (G_X4_keyAt φ p1) fun r1 =>
  some r1
def B_X4_indexOf_2 (N : Nat) (φ : M2) (v1 : Int32) (rec : Int32 → Option Int32) (v2 : Int32) : Option Int32 :=
  if (φ 3 1) ≤ v2 then (
  some ((-1))
  ) else (
  if 120 ≤ v2 then (
  some ((-1))
  ) else (
  oin v2 120 <|
  if (φ 4 v2.toNatClampNeg) = v1 then (
  some v2
  ) else (
  rec (v2 + 1))))
def L_X4_indexOf_2 (N : Nat) (φ : M2) (v1 : Int32) : Nat → Int32 → Option Int32
  | 0, _ => none
  | k + 1, v2 => B_X4_indexOf_2 N φ v1 (L_X4_indexOf_2 N φ v1 k) v2
def G_X4_indexOf (N : Nat) (φ : M2) (p1 : Int32) : Option Int32 :=
  L_X4_indexOf_2 N φ p1 N 0
def G_X4_has (N : Nat) (φ : M2) (p1 : Int32) : Option Int32 :=
  obd (G_X4_indexOf N φ p1) fun r1 =>
  if r1 = (-1) then (
  some 0
  ) else (
  some 1)
def G_X2_isPresent (N : Nat) (φ : M2) (p1 : Int32) : Option Int32 :=
  obd (G_X4_has N φ p1) fun r1 =>
  some r1
def G_X2_codeOf (φ : M2) (p1 : Int32) : Int32 :=
  olet (G_X0_of p1 ((φ 0 3))) fun r1 =>
  r1
def G_X2_newEntry (φ : M2) (p1 : Int32) : Int32 :=
  olet (G_X2_codeOf φ p1) fun r1 =>
  olet (G_X1_of r1 ((φ 0 0)) ((φ 0 2))) fun r2 =>
  r2
def G_X2_otherOf (φ : M2) (p1 : Int32) : Int32 :=
  olet (G_X1_homeOf p1) fun r1 =>
  olet (G_X1_tagOf p1) fun r2 =>
  olet (G_X0_partner r1 r2 ((φ 0 0))) fun r3 =>
  r3
def G_X2_changeLimit (φ : M2) (p1 : Int32) : Option (Int32 × M2) :=
  olet ((φ 0 4)) fun x1 =>
  olet (upd2 φ 0 4 p1) fun w2 =>
  some ((x1, w2))
def G_X2_changeLength (φ : M2) (p1 : Int32) : Option (Int32 × M2) :=
  olet ((φ 0 2)) fun x1 =>
  olet (upd2 φ 0 2 p1) fun w2 =>
  some ((x1, w2))
def B_X2_emptyAll_2 (N : Nat) (rec : Int32 → M2 → Option M2) (v1 : Int32) (φ : M2) : Option M2 :=
  if 256 ≤ v1 then (
  some φ
  ) else (
  oin v1 256 <|
  olet (upd2 φ 1 v1.toNatClampNeg ((-1))) fun w2 =>
  rec (v1 + 1) w2)
def L_X2_emptyAll_2 (N : Nat) : Nat → Int32 → M2 → Option M2
  | 0, _, _ => none
  | k + 1, v1, φ => B_X2_emptyAll_2 N (L_X2_emptyAll_2 N k) v1 φ
def G_X2_emptyAll (N : Nat) (φ : M2) : Option M2 :=
  obd (L_X2_emptyAll_2 N N 0 φ) fun w3 =>
  olet (upd2 w3 0 7 0) fun w5 =>
  some w5
def G_X4_empty (φ : M2) : Option M2 :=
  olet (upd2 φ 3 1 0) fun w1 =>
  some w1
def G_X2_forgetAll (N : Nat) (φ : M2) : Option (Int32 × M2) :=
  olet (G_X4_size φ) fun r1 =>
  obd (G_X2_emptyAll N φ) fun w2 =>
  obd (G_X4_empty w2) fun w4 =>
  some ((r1, w4))
def G_X2_cellAt (φ : M2) (p1 : Int32) : Option Int32 :=
  if p1 < 0 then (
  some ((-1))
  ) else (
  if 256 ≤ p1 then (
  some ((-1))
  ) else (
  oin p1 256 <|
  some ((φ 1 p1.toNatClampNeg))))
def B_X2_entriesIn_4 (N : Nat) (φ : M2) (v1 : Int32) (rec : Int32 → Int32 → Option Int32) (v2 : Int32) (v3 : Int32) : Option Int32 :=
  if (φ 0 1) ≤ v3 then (
  some v2
  ) else (
  olet (G_X2_placeIn v1 v3) fun r1 =>
  obd (G_X2_cellAt φ r1) fun r2 =>
  if r2 = (-1) then (
  rec v2 (v3 + 1)
  ) else (
  rec (v2 + 1) (v3 + 1)))
def L_X2_entriesIn_4 (N : Nat) (φ : M2) (v1 : Int32) : Nat → Int32 → Int32 → Option Int32
  | 0, _, _ => none
  | k + 1, v2, v3 => B_X2_entriesIn_4 N φ v1 (L_X2_entriesIn_4 N φ v1 k) v2 v3
def G_X2_entriesIn (N : Nat) (φ : M2) (p1 : Int32) : Option Int32 :=
  obd (L_X2_entriesIn_4 N φ p1 N 0 0) fun y4 =>
  some y4
def B_X2_entriesInSlots_4 (N : Nat) (φ : M2) (rec : Int32 → Int32 → Option Int32) (v1 : Int32) (v2 : Int32) : Option Int32 :=
  olet (G_X2_bucketCount φ) fun r1 =>
  if r1 ≤ v2 then (
  some v1
  ) else (
  obd (G_X2_entriesIn N φ v2) fun r2 =>
  olet ((v1 + r2)) fun x4 =>
  rec x4 (v2 + 1))
def L_X2_entriesInSlots_4 (N : Nat) (φ : M2) : Nat → Int32 → Int32 → Option Int32
  | 0, _, _ => none
  | k + 1, v1, v2 => B_X2_entriesInSlots_4 N φ (L_X2_entriesInSlots_4 N φ k) v1 v2
def G_X2_entriesInSlots (N : Nat) (φ : M2) : Option Int32 :=
  obd (L_X2_entriesInSlots_4 N φ N 0 0) fun y5 =>
  some y5
def G_X2_stashAt (φ : M2) (p1 : Int32) : Option Int32 :=
  if p1 < 0 then (
  some ((-1))
  ) else (
  if (φ 0 7) ≤ p1 then (
  some ((-1))
  ) else (
  if 3 ≤ p1 then (
  some ((-1))
  ) else (
  oin p1 3 <|
  some ((φ 2 p1.toNatClampNeg)))))
def B_X2_smallestLength_4 (N : Nat) (φ : M2) (rec : Int32 → Int32 → Option Int32) (v1 : Int32) (v2 : Int32) : Option Int32 :=
  if 256 ≤ v2 then (
  some v1
  ) else (
  oin v2 256 <|
  olet (G_X2_smallerLength v1 ((φ 1 v2.toNatClampNeg))) fun r2 =>
  rec r2 (v2 + 1))
def L_X2_smallestLength_4 (N : Nat) (φ : M2) : Nat → Int32 → Int32 → Option Int32
  | 0, _, _ => none
  | k + 1, v1, v2 => B_X2_smallestLength_4 N φ (L_X2_smallestLength_4 N φ k) v1 v2
def B_X2_smallestLength_32 (N : Nat) (φ : M2) (rec : Int32 → Int32 → Option Int32) (v1 : Int32) (v2 : Int32) : Option Int32 :=
  if (φ 0 7) ≤ v2 then (
  some v1
  ) else (
  obd (G_X2_stashAt φ v2) fun r5 =>
  olet (G_X2_smallerLength v1 r5) fun r7 =>
  rec r7 (v2 + 1))
def L_X2_smallestLength_32 (N : Nat) (φ : M2) : Nat → Int32 → Int32 → Option Int32
  | 0, _, _ => none
  | k + 1, v1, v2 => B_X2_smallestLength_32 N φ (L_X2_smallestLength_32 N φ k) v1 v2
def G_X2_smallestLength (N : Nat) (φ : M2) : Option Int32 :=
  obd (L_X2_smallestLength_4 N φ N ((-1)) 0) fun y3 =>
  obd (L_X2_smallestLength_32 N φ N y3 0) fun y8 =>
  some y8
def G_X2_canDouble (N : Nat) (φ : M2) : Option Int32 :=
  if 6 ≤ (φ 0 0) then (
  some 0
  ) else (
  obd (G_X2_smallestLength N φ) fun r1 =>
  if r1 = 0 then (
  some 0
  ) else (
  some 1))
def G_X2_number (N : Nat) (φ : M2) (p1 : Int32) : Option Int32 :=
  if p1 = 0 then (
  olet (G_X2_bucketCount φ) fun r1 =>
  some r1
  ) else (
  if p1 = 1 then (
  some ((φ 0 1))
  ) else (
  if p1 = 2 then (
  some ((φ 0 2))
  ) else (
  if p1 = 3 then (
  some ((φ 0 3))
  ) else (
  if p1 = 4 then (
  some ((φ 0 4))
  ) else (
  if p1 = 5 then (
  obd (G_X2_entriesInSlots N φ) fun r2 =>
  some r2
  ) else (
  if p1 = 6 then (
  some ((φ 0 7))
  ) else (
  if p1 = 7 then (
  obd (G_X2_smallestLength N φ) fun r4 =>
  some r4
  ) else (
  if p1 = 8 then (
  obd (G_X2_canDouble N φ) fun r6 =>
  if r6 = 0 then (
  some 0
  ) else (
  some 1)
  ) else (
  some ((-1)))))))))))
def G_X2_partOfSlot (φ : M2) (p1 : Int32) (p2 : Int32) (p3 : Int32) : Option Int32 :=
  olet (G_X2_placeIn p1 p2) fun r1 =>
  obd (G_X2_cellAt φ r1) fun r2 =>
  if r2 = (-1) then (
  some ((-1))
  ) else (
  if p3 = 3 then (
  olet (G_X1_homeOf r2) fun r5 =>
  if r5 = p1 then (
  some 0
  ) else (
  some 1)
  ) else (
  olet (G_X2_partOf r2 p3) fun r4 =>
  some r4))
def G_X2_partOfStash (φ : M2) (p1 : Int32) (p2 : Int32) : Option Int32 :=
  obd (G_X2_stashAt φ p1) fun r1 =>
  if p2 = 3 then (
  olet (G_X1_homeOf r1) fun r4 =>
  some r4
  ) else (
  olet (G_X2_partOf r1 p2) fun r3 =>
  some r3)
def B_X2_bucketsWith_4 (N : Nat) (φ : M2) (v1 : Int32) (rec : Int32 → Int32 → Option Int32) (v2 : Int32) (v3 : Int32) : Option Int32 :=
  olet (G_X2_bucketCount φ) fun r1 =>
  if r1 ≤ v3 then (
  some v2
  ) else (
  obd (G_X2_entriesIn N φ v3) fun r2 =>
  if r2 = v1 then (
  rec (v2 + 1) (v3 + 1)
  ) else (
  rec v2 (v3 + 1)))
def L_X2_bucketsWith_4 (N : Nat) (φ : M2) (v1 : Int32) : Nat → Int32 → Int32 → Option Int32
  | 0, _, _ => none
  | k + 1, v2, v3 => B_X2_bucketsWith_4 N φ v1 (L_X2_bucketsWith_4 N φ v1 k) v2 v3
def G_X2_bucketsWith (N : Nat) (φ : M2) (p1 : Int32) : Option Int32 :=
  obd (L_X2_bucketsWith_4 N φ p1 N 0 0) fun y4 =>
  some y4
def G_X2_setCell (φ : M2) (p1 : Int32) (p2 : Int32) : Option M2 :=
  if p1 < 0 then (
  some φ
  ) else (
  if 256 ≤ p1 then (
  some φ
  ) else (
  oin p1 256 <|
  olet (upd2 φ 1 p1.toNatClampNeg p2) fun w2 =>
  some w2))
def G_X2_emptySlot (φ : M2) (p1 : Int32) (p2 : Int32) : Option M2 :=
  olet (G_X2_placeIn p1 p2) fun r1 =>
  obd (G_X2_setCell φ r1 ((-1))) fun w2 =>
  some w2
def J_X2_placeOf_79_38 (rec : Int32 → Int32 → Int32 → Option (Int32 × Int32)) (N : Nat) (φ : M2) (v2 : Int32) (v3 : Int32) (v4 : Int32) (v5 : Int32) (v6 : Int32) (v7 : Int32) (s0 : Int32) : Option (Int32 × Int32) :=
  obd (G_X2_cellAt φ s0) fun r6 =>
  olet (G_X1_lengthIfMatching r6 v2 ((φ 0 0))) fun r8 =>
  if r8 ≤ v6 then (
  rec v5 v6 (v7 + 1)
  ) else (
  rec s0 r8 (v7 + 1))
def B_X2_placeOf_38 (N : Nat) (φ : M2) (v2 : Int32) (v3 : Int32) (v4 : Int32) (rec : Int32 → Int32 → Int32 → Option (Int32 × Int32)) (v5 : Int32) (v6 : Int32) (v7 : Int32) : Option (Int32 × Int32) :=
  if (2 * (φ 0 1)) ≤ v7 then (
  some ((v5, v6))
  ) else (
  if (φ 0 1) ≤ v7 then (
  olet (G_X2_placeIn v4 ((v7 - (φ 0 1)))) fun r5 =>
  J_X2_placeOf_79_38 rec N φ v2 v3 v4 v5 v6 v7 r5
  ) else (
  olet (G_X2_placeIn v3 v7) fun r9 =>
  J_X2_placeOf_79_38 rec N φ v2 v3 v4 v5 v6 v7 r9))
def L_X2_placeOf_38 (N : Nat) (φ : M2) (v2 : Int32) (v3 : Int32) (v4 : Int32) : Nat → Int32 → Int32 → Int32 → Option (Int32 × Int32)
  | 0, _, _, _ => none
  | k + 1, v5, v6, v7 => B_X2_placeOf_38 N φ v2 v3 v4 (L_X2_placeOf_38 N φ v2 v3 v4 k) v5 v6 v7
def B_X2_placeOf_121 (N : Nat) (φ : M2) (v2 : Int32) (rec : Int32 → Int32 → Int32 → Option Int32) (v5 : Int32) (v6 : Int32) (v7 : Int32) : Option Int32 :=
  if (φ 0 7) ≤ v7 then (
  some v5
  ) else (
  obd (G_X2_stashAt φ v7) fun r13 =>
  olet (G_X1_lengthIfMatching r13 v2 ((φ 0 0))) fun r15 =>
  if r15 ≤ v6 then (
  rec v5 v6 (v7 + 1)
  ) else (
  olet ((1000 + v7)) fun x16 =>
  rec x16 r15 (v7 + 1)))
def L_X2_placeOf_121 (N : Nat) (φ : M2) (v2 : Int32) : Nat → Int32 → Int32 → Int32 → Option Int32
  | 0, _, _, _ => none
  | k + 1, v5, v6, v7 => B_X2_placeOf_121 N φ v2 (L_X2_placeOf_121 N φ v2 k) v5 v6 v7
def G_X2_placeOf (N : Nat) (φ : M2) (p1 : Int32) : Option Int32 :=
  olet (G_X2_codeOf φ p1) fun r1 =>
  olet (G_X0_homeOf r1 ((φ 0 0))) fun r2 =>
  olet (G_X0_tagOf r1) fun r3 =>
  olet (G_X0_partner r2 r3 ((φ 0 0))) fun r4 =>
  obd2 (L_X2_placeOf_38 N φ r1 r2 r4 N ((-1)) ((-1)) 0) fun y10 y11 =>
  obd (L_X2_placeOf_121 N φ r1 N y10 y11 0) fun y17 =>
  some y17
def G_X2_finds (N : Nat) (φ : M2) (p1 : Int32) : Option Int32 :=
  obd (G_X2_placeOf N φ p1) fun r1 =>
  if r1 = (-1) then (
  some 0
  ) else (
  some 1)
def G_X2_isFalse (N : Nat) (φ : M2) (p1 : Int32) : Option Int32 :=
  obd (G_X2_finds N φ p1) fun r1 =>
  if r1 = 0 then (
  some 0
  ) else (
  obd (G_X4_has N φ p1) fun r3 =>
  if r3 = 0 then (
  some 1
  ) else (
  some 0))
def B_X2_falseBetween_5 (N : Nat) (φ : M2) (v2 : Int32) (rec : Int32 → Int32 → Option Int32) (v3 : Int32) (v4 : Int32) : Option Int32 :=
  if v2 < v4 then (
  some v3
  ) else (
  if 1000 ≤ v4 then (
  some v3
  ) else (
  obd (G_X2_isFalse N φ v4) fun r1 =>
  if r1 = 0 then (
  rec v3 (v4 + 1)
  ) else (
  rec (v3 + 1) (v4 + 1))))
def L_X2_falseBetween_5 (N : Nat) (φ : M2) (v2 : Int32) : Nat → Int32 → Int32 → Option Int32
  | 0, _, _ => none
  | k + 1, v3, v4 => B_X2_falseBetween_5 N φ v2 (L_X2_falseBetween_5 N φ v2 k) v3 v4
def G_X2_falseBetween (N : Nat) (φ : M2) (p1 : Int32) (p2 : Int32) : Option Int32 :=
  obd (L_X2_falseBetween_5 N φ p2 N 0 p1) fun y3 =>
  some y3
def B_X2_twinPairs_31 (N : Nat) (φ : M2) (v2 : Int32) (v3 : Int32) (rec : Int32 → Int32 → Option Int32) (v1 : Int32) (v4 : Int32) : Option Int32 :=
  if v2 ≤ v4 then (
  some v1
  ) else (
  obd (G_X4_keyAt φ v4) fun r5 =>
  olet (G_X2_newEntry φ r5) fun r7 =>
  if r7 = v3 then (
  rec (v1 + 1) (v4 + 1)
  ) else (
  rec v1 (v4 + 1)))
def L_X2_twinPairs_31 (N : Nat) (φ : M2) (v2 : Int32) (v3 : Int32) : Nat → Int32 → Int32 → Option Int32
  | 0, _, _ => none
  | k + 1, v1, v4 => B_X2_twinPairs_31 N φ v2 v3 (L_X2_twinPairs_31 N φ v2 v3 k) v1 v4
def B_X2_twinPairs_4 (N : Nat) (φ : M2) (rec : Int32 → Int32 → Option Int32) (v1 : Int32) (v2 : Int32) : Option Int32 :=
  olet (G_X4_size φ) fun r1 =>
  if r1 ≤ v2 then (
  some v1
  ) else (
  obd (G_X4_keyAt φ v2) fun r2 =>
  olet (G_X2_newEntry φ r2) fun r4 =>
  obd (L_X2_twinPairs_31 N φ v2 r4 N v1 0) fun y8 =>
  rec y8 (v2 + 1))
def L_X2_twinPairs_4 (N : Nat) (φ : M2) : Nat → Int32 → Int32 → Option Int32
  | 0, _, _ => none
  | k + 1, v1, v2 => B_X2_twinPairs_4 N φ (L_X2_twinPairs_4 N φ k) v1 v2
def G_X2_twinPairs (N : Nat) (φ : M2) : Option Int32 :=
  obd (L_X2_twinPairs_4 N φ N 0 0) fun y10 =>
  some y10
def G_X4_isFull (φ : M2) : Int32 :=
  if (φ 3 1) < 120 then (
  0
  ) else (
  1)
def G_X7_restart (φ : M2) : Option M2 :=
  olet (upd2 φ 5 2 0) fun w1 =>
  some w1
def B_X2_freePlace_2 (N : Nat) (φ : M2) (v1 : Int32) (rec : Int32 → Option Int32) (v2 : Int32) : Option Int32 :=
  if (φ 0 1) ≤ v2 then (
  some ((-1))
  ) else (
  olet (G_X2_placeIn v1 v2) fun r1 =>
  obd (G_X2_cellAt φ r1) fun r2 =>
  if r2 = (-1) then (
  some r1
  ) else (
  rec (v2 + 1)))
def L_X2_freePlace_2 (N : Nat) (φ : M2) (v1 : Int32) : Nat → Int32 → Option Int32
  | 0, _ => none
  | k + 1, v2 => B_X2_freePlace_2 N φ v1 (L_X2_freePlace_2 N φ v1 k) v2
def G_X2_freePlace (N : Nat) (φ : M2) (p1 : Int32) : Option Int32 :=
  L_X2_freePlace_2 N φ p1 N 0
def G_X2_settle (N : Nat) (φ : M2) (p1 : Int32) : Option (Int32 × M2) :=
  olet (G_X1_homeOf p1) fun r1 =>
  obd (G_X2_freePlace N φ r1) fun r2 =>
  if r2 = (-1) then (
  olet (G_X2_otherOf φ p1) fun r6 =>
  obd (G_X2_freePlace N φ r6) fun r7 =>
  if r7 = (-1) then (
  some ((0, φ))
  ) else (
  obd (G_X2_setCell φ r7 p1) fun w9 =>
  some ((1, w9)))
  ) else (
  if r2 = (-1) then (
  some ((0, φ))
  ) else (
  obd (G_X2_setCell φ r2 p1) fun w4 =>
  some ((1, w4))))
def G_X7_note (φ : M2) (p1 : Int32) (p2 : Int32) : Option M2 :=
  if (φ 5 2) < 0 then (
  some φ
  ) else (
  if 50 ≤ (φ 5 2) then (
  some φ
  ) else (
  if 50 ≤ (φ 5 2) then (
  some φ
  ) else (
  oin ((φ 5 2)) 50 <|
  olet (upd2 φ 6 ((φ 5 2)).toNatClampNeg p1) fun w2 =>
  oin ((w2 5 2)) 50 <|
  olet (upd2 w2 7 ((w2 5 2)).toNatClampNeg p2) fun w4 =>
  olet (upd2 w4 5 2 (((w4 5 2) + 1))) fun w5 =>
  some w5)))
def G_X7_steps (φ : M2) : Int32 :=
  (φ 5 2)
def G_X7_placeAt (φ : M2) (p1 : Int32) : Option Int32 :=
  if p1 < 0 then (
  some ((-1))
  ) else (
  if (φ 5 2) ≤ p1 then (
  some ((-1))
  ) else (
  if 50 ≤ p1 then (
  some ((-1))
  ) else (
  oin p1 50 <|
  some ((φ 6 p1.toNatClampNeg)))))
def B_X2_walkBack_12 (N : Nat) (rec : Int32 → Int32 → M2 → Option M2) (v2 : Int32) (v3 : Int32) (φ : M2) : Option M2 :=
  if v3 < 0 then (
  some φ
  ) else (
  obd (G_X7_placeAt φ v3) fun r3 =>
  obd (G_X2_cellAt φ r3) fun r5 =>
  obd (G_X2_setCell φ r3 v2) fun w7 =>
  rec r5 (v3 + (-1)) w7)
def L_X2_walkBack_12 (N : Nat) : Nat → Int32 → Int32 → M2 → Option M2
  | 0, _, _, _ => none
  | k + 1, v2, v3, φ => B_X2_walkBack_12 N (L_X2_walkBack_12 N k) v2 v3 φ
def G_X2_walkBack (N : Nat) (φ : M2) (p1 : Int32) : Option M2 :=
  olet (G_X7_steps φ) fun r1 =>
  olet ((r1 - 1)) fun x2 =>
  obd (L_X2_walkBack_12 N N p1 x2 φ) fun w9 =>
  some w9
def B_X2_wander_13 (N : Nat) (rec : Int32 → Int32 → Int32 → Int32 → M2 → Option (Int32 × M2)) (v2 : Int32) (v3 : Int32) (v4 : Int32) (v5 : Int32) (φ : M2) : Option (Int32 × M2) :=
  if (φ 0 4) ≤ v5 then (
  obd (G_X2_walkBack N φ v2) fun w2 =>
  some (((-1), w2))
  ) else (
  if 50 ≤ v5 then (
  obd (G_X2_walkBack N φ v2) fun w4 =>
  some (((-1), w4))
  ) else (
  olet (G_X2_placeIn v3 v4) fun r6 =>
  obd (G_X2_cellAt φ r6) fun r7 =>
  obd (G_X2_setCell φ r6 v2) fun w9 =>
  olet (G_X1_tagOf r7) fun r11 =>
  obd (G_X7_note w9 r6 r11) fun w12 =>
  olet (G_X1_tagOf r7) fun r14 =>
  olet (G_X0_partner v3 r14 ((w12 0 0))) fun r15 =>
  obd (G_X2_freePlace N w12 r15) fun r16 =>
  if r16 = (-1) then (
  if (w12 0 1) ≤ (v4 + 1) then (
  rec r7 r15 0 (v5 + 1) w12
  ) else (
  olet ((v4 + 1)) fun x18 =>
  rec r7 r15 x18 (v5 + 1) w12)
  ) else (
  obd (G_X2_setCell w12 r16 r7) fun w19 =>
  some (((v5 + 1), w19)))))
def L_X2_wander_13 (N : Nat) : Nat → Int32 → Int32 → Int32 → Int32 → M2 → Option (Int32 × M2)
  | 0, _, _, _, _, _ => none
  | k + 1, v2, v3, v4, v5, φ => B_X2_wander_13 N (L_X2_wander_13 N k) v2 v3 v4 v5 φ
def G_X2_wander (N : Nat) (φ : M2) (p1 : Int32) : Option (Int32 × M2) :=
  olet (G_X1_homeOf p1) fun r1 =>
  L_X2_wander_13 N N p1 r1 0 0 φ
def G_X2_insert (N : Nat) (φ : M2) (p1 : Int32) : Option (Int32 × M2) :=
  obd (G_X7_restart φ) fun w1 =>
  olet (G_X2_newEntry w1 p1) fun r3 =>
  obd2 (G_X2_settle N w1 r3) fun r6 w4 =>
  if r6 = 0 then (
  obd2 (G_X2_wander N w4 r3) fun r9 w7 =>
  if r9 = (-1) then (
  if (w7 0 7) < 0 then (
  some (((-1), w7))
  ) else (
  if (w7 0 7) < 3 then (
  oin ((w7 0 7)) 3 <|
  olet (upd2 w7 2 ((w7 0 7)).toNatClampNeg r3) fun w11 =>
  olet (upd2 w11 0 7 (((w11 0 7) + 1))) fun w12 =>
  some ((100, w12))
  ) else (
  some (((-1), w7))))
  ) else (
  some ((r9, w7)))
  ) else (
  some ((0, w4)))
def G_X4_put (φ : M2) (p1 : Int32) : Option M2 :=
  if (φ 3 1) < 0 then (
  some φ
  ) else (
  if 120 ≤ (φ 3 1) then (
  some φ
  ) else (
  oin ((φ 3 1)) 120 <|
  olet (upd2 φ 4 ((φ 3 1)).toNatClampNeg p1) fun w2 =>
  olet (upd2 w2 3 1 (((w2 3 1) + 1))) fun w3 =>
  some w3))
def G_X2_addKey (N : Nat) (φ : M2) (p1 : Int32) : Option (Int32 × M2) :=
  obd (G_X4_has N φ p1) fun r1 =>
  if r1 = 0 then (
  olet (G_X4_isFull φ) fun r3 =>
  if r3 = 0 then (
  obd2 (G_X2_insert N φ p1) fun r6 w4 =>
  if r6 = (-1) then (
  some ((r6, w4))
  ) else (
  obd (G_X4_put w4 p1) fun w7 =>
  some ((r6, w7)))
  ) else (
  some (((-1), φ)))
  ) else (
  some (((-1), φ)))
def B_X5_restart_7 (N : Nat) (rec : Int32 → M2 → Option M2) (v1 : Int32) (φ : M2) : Option M2 :=
  if 64 ≤ v1 then (
  some φ
  ) else (
  oin v1 64 <|
  olet (upd2 φ 10 v1.toNatClampNeg ((-2))) fun w3 =>
  rec (v1 + 1) w3)
def L_X5_restart_7 (N : Nat) : Nat → Int32 → M2 → Option M2
  | 0, _, _ => none
  | k + 1, v1, φ => B_X5_restart_7 N (L_X5_restart_7 N k) v1 φ
def G_X5_restart (N : Nat) (φ : M2) : Option M2 :=
  olet (upd2 φ 8 2 0) fun w1 =>
  obd (L_X5_restart_7 N N 0 w1) fun w4 =>
  some w4
def G_X5_note (φ : M2) (p1 : Int32) (p2 : Int32) : Option M2 :=
  if p1 < 0 then (
  some φ
  ) else (
  if 64 ≤ p1 then (
  some φ
  ) else (
  if (φ 8 2) < 0 then (
  some φ
  ) else (
  if (φ 8 2) < 64 then (
  oin p1 64 <|
  if (φ 10 p1.toNatClampNeg) = (-2) then (
  oin p1 64 <|
  olet (upd2 φ 10 p1.toNatClampNeg p2) fun w3 =>
  oin ((w3 8 2)) 64 <|
  olet (upd2 w3 9 ((w3 8 2)).toNatClampNeg p1) fun w5 =>
  olet (upd2 w5 8 2 (((w5 8 2) + 1))) fun w6 =>
  some w6
  ) else (
  some φ)
  ) else (
  some φ))))
def G_X5_size (φ : M2) : Int32 :=
  (φ 8 2)
def G_X5_bucketAt (φ : M2) (p1 : Int32) : Option Int32 :=
  if p1 < 0 then (
  some ((-1))
  ) else (
  if 64 ≤ p1 then (
  some ((-1))
  ) else (
  oin p1 64 <|
  some ((φ 9 p1.toNatClampNeg))))
def B_X2_endOfChain_70 (N : Nat) (v3 : Int32) (v4 : Int32) (rec : Int32 → M2 → Option M2) (v5 : Int32) (φ : M2) : Option M2 :=
  if (φ 0 1) ≤ v5 then (
  some φ
  ) else (
  olet (G_X2_placeIn v4 v5) fun r12 =>
  obd (G_X2_cellAt φ r12) fun r13 =>
  olet (G_X1_tagOf r13) fun r15 =>
  olet (G_X0_partner v4 r15 ((φ 0 0))) fun r16 =>
  obd (G_X5_note φ r16 r12) fun w17 =>
  rec (v5 + 1) w17)
def L_X2_endOfChain_70 (N : Nat) (v3 : Int32) (v4 : Int32) : Nat → Int32 → M2 → Option M2
  | 0, _, _ => none
  | k + 1, v5, φ => B_X2_endOfChain_70 N v3 v4 (L_X2_endOfChain_70 N v3 v4 k) v5 φ
def B_X2_endOfChain_27 (N : Nat) (rec : Int32 → M2 → Option (Int32 × M2)) (v3 : Int32) (φ : M2) : Option (Int32 × M2) :=
  if 64 ≤ v3 then (
  some (((-1), φ))
  ) else (
  olet (G_X5_size φ) fun r7 =>
  if r7 ≤ v3 then (
  some (((-1), φ))
  ) else (
  obd (G_X5_bucketAt φ v3) fun r8 =>
  obd (G_X2_freePlace N φ r8) fun r10 =>
  if r10 = (-1) then (
  obd (L_X2_endOfChain_70 N v3 r8 N 0 φ) fun w19 =>
  rec (v3 + 1) w19
  ) else (
  some ((r8, φ)))))
def L_X2_endOfChain_27 (N : Nat) : Nat → Int32 → M2 → Option (Int32 × M2)
  | 0, _, _ => none
  | k + 1, v3, φ => B_X2_endOfChain_27 N (L_X2_endOfChain_27 N k) v3 φ
def G_X2_endOfChain (N : Nat) (φ : M2) (p1 : Int32) (p2 : Int32) : Option (Int32 × M2) :=
  obd (G_X5_restart N φ) fun w1 =>
  obd (G_X5_note w1 p1 ((-1))) fun w3 =>
  obd (G_X5_note w3 p2 ((-1))) fun w5 =>
  L_X2_endOfChain_27 N N 0 w5
def G_X5_placeBefore (φ : M2) (p1 : Int32) : Option Int32 :=
  if p1 < 0 then (
  some ((-1))
  ) else (
  if 64 ≤ p1 then (
  some ((-1))
  ) else (
  oin p1 64 <|
  some ((φ 10 p1.toNatClampNeg))))
def B_X2_moveAlong_9 (N : Nat) (v2 : Int32) (rec : Int32 → Int32 → M2 → Option (Int32 × Int32 × M2)) (v3 : Int32) (v4 : Int32) (φ : M2) : Option (Int32 × Int32 × M2) :=
  if 64 ≤ v4 then (
  some ((v3, v4, φ))
  ) else (
  obd (G_X5_placeBefore φ ((v3 / 4))) fun r3 =>
  if 0 ≤ r3 then (
  obd (G_X2_cellAt φ r3) fun r5 =>
  obd (G_X2_setCell φ v3 r5) fun w7 =>
  rec r3 (v4 + 1) w7
  ) else (
  some ((v3, v4, φ))))
def L_X2_moveAlong_9 (N : Nat) (v2 : Int32) : Nat → Int32 → Int32 → M2 → Option (Int32 × Int32 × M2)
  | 0, _, _, _ => none
  | k + 1, v3, v4, φ => B_X2_moveAlong_9 N v2 (L_X2_moveAlong_9 N v2 k) v3 v4 φ
def G_X2_moveAlong (N : Nat) (φ : M2) (p1 : Int32) (p2 : Int32) : Option (Int32 × M2) :=
  obd (G_X2_freePlace N φ p1) fun r1 =>
  obd3 (L_X2_moveAlong_9 N p2 N r1 0 φ) fun y9 y10 w11 =>
  obd (G_X2_setCell w11 y9 p2) fun w13 =>
  some ((y10, w13))
def G_X2_insertShortest (N : Nat) (φ : M2) (p1 : Int32) : Option (Int32 × M2) :=
  olet (G_X2_newEntry φ p1) fun r1 =>
  olet (G_X1_homeOf r1) fun r2 =>
  olet (G_X2_otherOf φ r1) fun r3 =>
  obd2 (G_X2_endOfChain N φ r2 r3) fun r6 w4 =>
  if r6 = (-1) then (
  some (((-1), w4))
  ) else (
  obd2 (G_X2_moveAlong N w4 r6 r1) fun r9 w7 =>
  some ((r9, w7)))
def G_X2_addKeyShortest (N : Nat) (φ : M2) (p1 : Int32) : Option (Int32 × M2) :=
  obd (G_X4_has N φ p1) fun r1 =>
  if r1 = 0 then (
  olet (G_X4_isFull φ) fun r3 =>
  if r3 = 0 then (
  obd2 (G_X2_insertShortest N φ p1) fun r6 w4 =>
  if r6 = (-1) then (
  some ((r6, w4))
  ) else (
  obd (G_X4_put w4 p1) fun w7 =>
  some ((r6, w7)))
  ) else (
  some (((-1), φ)))
  ) else (
  some (((-1), φ)))
def B_X2_removeEntry_20 (N : Nat) (rec : Int32 → M2 → Option M2) (v2 : Int32) (φ : M2) : Option M2 :=
  if v2 < 0 then (
  some φ
  ) else (
  if (φ 0 7) ≤ (v2 + 1) then (
  some φ
  ) else (
  if 3 ≤ (v2 + 1) then (
  some φ
  ) else (
  oin ((v2 + 1)) 3 <|
  oin v2 3 <|
  olet (upd2 φ 2 v2.toNatClampNeg ((φ 2 ((v2 + 1)).toNatClampNeg))) fun w4 =>
  rec (v2 + 1) w4)))
def L_X2_removeEntry_20 (N : Nat) : Nat → Int32 → M2 → Option M2
  | 0, _, _ => none
  | k + 1, v2, φ => B_X2_removeEntry_20 N (L_X2_removeEntry_20 N k) v2 φ
def G_X2_removeEntry (N : Nat) (φ : M2) (p1 : Int32) : Option M2 :=
  if 1000 ≤ p1 then (
  olet ((p1 - 1000)) fun x1 =>
  obd (L_X2_removeEntry_20 N N x1 φ) fun w5 =>
  olet (upd2 w5 0 7 (((w5 0 7) - 1))) fun w7 =>
  some w7
  ) else (
  obd (G_X2_setCell φ p1 ((-1))) fun w8 =>
  some w8)
def B_X4_remove_14 (N : Nat) (rec : Int32 → M2 → Option M2) (v3 : Int32) (φ : M2) : Option M2 :=
  if v3 < 0 then (
  some φ
  ) else (
  if (φ 3 1) ≤ (v3 + 1) then (
  some φ
  ) else (
  if 120 ≤ (v3 + 1) then (
  some φ
  ) else (
  oin ((v3 + 1)) 120 <|
  oin v3 120 <|
  olet (upd2 φ 4 v3.toNatClampNeg ((φ 4 ((v3 + 1)).toNatClampNeg))) fun w5 =>
  rec (v3 + 1) w5)))
def L_X4_remove_14 (N : Nat) : Nat → Int32 → M2 → Option M2
  | 0, _, _ => none
  | k + 1, v3, φ => B_X4_remove_14 N (L_X4_remove_14 N k) v3 φ
def G_X4_remove (N : Nat) (φ : M2) (p1 : Int32) : Option M2 :=
  obd (G_X4_indexOf N φ p1) fun r1 =>
  if r1 = (-1) then (
  some φ
  ) else (
  obd (L_X4_remove_14 N N r1 φ) fun w6 =>
  olet (upd2 w6 3 1 (((w6 3 1) - 1))) fun w8 =>
  some w8)
def B_X2_leaveStash_6 (N : Nat) (rec : Int32 → Int32 → Int32 → M2 → Option (Int32 × Int32 × M2)) (v1 : Int32) (v2 : Int32) (v3 : Int32) (φ : M2) : Option (Int32 × Int32 × M2) :=
  if (φ 0 7) ≤ v3 then (
  some ((v1, v2, φ))
  ) else (
  if 3 ≤ v3 then (
  some ((v1, v2, φ))
  ) else (
  oin v3 3 <|
  olet ((φ 2 v3.toNatClampNeg)) fun x2 =>
  obd2 (G_X2_settle N φ x2) fun r5 w3 =>
  if r5 = 0 then (
  if v3 < v1 then (
  rec v1 v2 (v3 + 1) w3
  ) else (
  oin v1 3 <|
  olet (upd2 w3 2 v1.toNatClampNeg x2) fun w7 =>
  rec (v1 + 1) v2 (v3 + 1) w7)
  ) else (
  rec v1 (v2 + 1) (v3 + 1) w3)))
def L_X2_leaveStash_6 (N : Nat) : Nat → Int32 → Int32 → Int32 → M2 → Option (Int32 × Int32 × M2)
  | 0, _, _, _, _ => none
  | k + 1, v1, v2, v3, φ => B_X2_leaveStash_6 N (L_X2_leaveStash_6 N k) v1 v2 v3 φ
def G_X2_leaveStash (N : Nat) (φ : M2) : Option (Int32 × M2) :=
  obd3 (L_X2_leaveStash_6 N N 0 0 0 φ) fun y8 y9 w10 =>
  olet (upd2 w10 0 7 y8) fun w12 =>
  some ((y9, w12))
def G_X2_deleteKey (N : Nat) (φ : M2) (p1 : Int32) : Option (Int32 × M2) :=
  obd (G_X4_has N φ p1) fun r1 =>
  if r1 = 0 then (
  some (((-1), φ))
  ) else (
  obd (G_X2_placeOf N φ p1) fun r3 =>
  obd (G_X2_removeEntry N φ r3) fun w5 =>
  obd (G_X4_remove N w5 p1) fun w7 =>
  obd2 (G_X2_leaveStash N w7) fun r11 w9 =>
  some ((r11, w9)))
def J_X2_doubleSlot_46 (φ : M2) (v2 : Int32) (v5 : Int32) (s0 : Int32) : Option M2 :=
  if s0 = 0 then (
  olet (G_X2_otherOf φ v5) fun r8 =>
  olet (G_X2_placeIn r8 v2) fun r9 =>
  obd (G_X2_setCell φ r9 v5) fun w10 =>
  some w10
  ) else (
  olet (G_X1_homeOf v5) fun r12 =>
  olet (G_X2_placeIn r12 v2) fun r13 =>
  obd (G_X2_setCell φ r13 v5) fun w14 =>
  some w14)
def G_X2_doubleSlot (φ : M2) (p1 : Int32) (p2 : Int32) (p3 : Int32) : Option M2 :=
  olet (G_X2_placeIn p1 p2) fun r1 =>
  obd (G_X2_cellAt φ r1) fun r2 =>
  if r2 = (-1) then (
  some φ
  ) else (
  obd (G_X2_emptySlot φ p1 p2) fun w4 =>
  olet (G_X1_doubled r2 p3) fun r6 =>
  olet (G_X1_homeOf r2) fun r7 =>
  if r7 = p1 then (
  J_X2_doubleSlot_46 w4 p2 r6 1
  ) else (
  J_X2_doubleSlot_46 w4 p2 r6 0))
def B_X2_doubleBuckets_36 (N : Nat) (v1 : Int32) (v2 : Int32) (v3 : Int32) (rec : Int32 → M2 → Option M2) (v4 : Int32) (φ : M2) : Option M2 :=
  if (φ 0 1) ≤ v4 then (
  some φ
  ) else (
  obd (G_X2_doubleSlot φ v3 v4 v1) fun w6 =>
  rec (v4 + 1) w6)
def L_X2_doubleBuckets_36 (N : Nat) (v1 : Int32) (v2 : Int32) (v3 : Int32) : Nat → Int32 → M2 → Option M2
  | 0, _, _ => none
  | k + 1, v4, φ => B_X2_doubleBuckets_36 N v1 v2 v3 (L_X2_doubleBuckets_36 N v1 v2 v3 k) v4 φ
def B_X2_doubleBuckets_28 (N : Nat) (v1 : Int32) (v2 : Int32) (rec : Int32 → M2 → Option M2) (v3 : Int32) (φ : M2) : Option M2 :=
  if v2 ≤ v3 then (
  some φ
  ) else (
  obd (L_X2_doubleBuckets_36 N v1 v2 v3 N 0 φ) fun w8 =>
  rec (v3 + 1) w8)
def L_X2_doubleBuckets_28 (N : Nat) (v1 : Int32) (v2 : Int32) : Nat → Int32 → M2 → Option M2
  | 0, _, _ => none
  | k + 1, v3, φ => B_X2_doubleBuckets_28 N v1 v2 (L_X2_doubleBuckets_28 N v1 v2 k) v3 φ
def B_X2_doubleBuckets_67 (N : Nat) (v1 : Int32) (rec : Int32 → M2 → Option M2) (v3 : Int32) (φ : M2) : Option M2 :=
  if (φ 0 7) ≤ v3 then (
  some φ
  ) else (
  if 3 ≤ v3 then (
  some φ
  ) else (
  oin v3 3 <|
  olet (G_X1_doubled ((φ 2 v3.toNatClampNeg)) v1) fun r13 =>
  oin v3 3 <|
  olet (upd2 φ 2 v3.toNatClampNeg r13) fun w15 =>
  rec (v3 + 1) w15))
def L_X2_doubleBuckets_67 (N : Nat) (v1 : Int32) : Nat → Int32 → M2 → Option M2
  | 0, _, _ => none
  | k + 1, v3, φ => B_X2_doubleBuckets_67 N v1 (L_X2_doubleBuckets_67 N v1 k) v3 φ
def G_X2_doubleBuckets (N : Nat) (φ : M2) : Option (Int32 × M2) :=
  obd (G_X2_canDouble N φ) fun r1 =>
  if r1 = 0 then (
  some (((-1), φ))
  ) else (
  olet ((φ 0 0)) fun x3 =>
  olet (G_X2_bucketCount φ) fun r4 =>
  olet (upd2 φ 0 0 ((x3 + 1))) fun w5 =>
  obd (L_X2_doubleBuckets_28 N x3 r4 N 0 w5) fun w10 =>
  obd (L_X2_doubleBuckets_67 N x3 N 0 w10) fun w16 =>
  obd2 (G_X2_leaveStash N w16) fun r20 w18 =>
  olet (G_X2_bucketCount w18) fun r21 =>
  some ((r21, w18)))
def G_X2_perform (N : Nat) (φ : M2) (p1 : Int32) (p2 : Int32) : Option (Int32 × M2) :=
  if p1 = 43 then (
  obd2 (G_X2_addKey N φ p2) fun r9 w7 =>
  some ((r9, w7))
  ) else (
  if p1 = 45 then (
  obd2 (G_X2_deleteKey N φ p2) fun r6 w4 =>
  some ((r6, w4))
  ) else (
  obd2 (G_X2_doubleBuckets N φ) fun r3 w1 =>
  some ((r3, w1))))
def B_X2_refill_28 (N : Nat) (rec : Int32 → M2 → Option (Int32 × M2)) (v5 : Int32) (φ : M2) : Option (Int32 × M2) :=
  olet (G_X4_size φ) fun r7 =>
  if r7 ≤ v5 then (
  some ((1, φ))
  ) else (
  obd (G_X4_keyAt φ v5) fun r8 =>
  obd2 (G_X2_insert N φ r8) fun r12 w10 =>
  if r12 = (-1) then (
  some ((0, w10))
  ) else (
  rec (v5 + 1) w10))
def L_X2_refill_28 (N : Nat) : Nat → Int32 → M2 → Option (Int32 × M2)
  | 0, _, _ => none
  | k + 1, v5, φ => B_X2_refill_28 N (L_X2_refill_28 N k) v5 φ
def G_X2_refill (N : Nat) (φ : M2) (p1 : Int32) (p2 : Int32) (p3 : Int32) (p4 : Int32) : Option (Int32 × M2) :=
  olet (upd2 φ 0 0 p1) fun w1 =>
  olet (upd2 w1 0 1 p2) fun w2 =>
  olet (upd2 w2 0 2 p3) fun w3 =>
  olet (upd2 w3 0 3 p4) fun w4 =>
  obd (G_X2_emptyAll N w4) fun w5 =>
  L_X2_refill_28 N N 0 w5
def G_X2_refillWithSeed (N : Nat) (φ : M2) (p1 : Int32) : Option (Int32 × M2) :=
  obd2 (G_X2_refill N φ ((φ 0 0)) ((φ 0 1)) ((φ 0 2)) p1) fun r3 w1 =>
  some ((r3, w1))
def G_X2_refillWithBits (N : Nat) (φ : M2) (p1 : Int32) (p2 : Int32) (p3 : Int32) : Option (Int32 × M2) :=
  obd2 (G_X2_refill N φ p1 p2 p3 ((φ 0 3))) fun r3 w1 =>
  some ((r3, w1))
def B_X2_distribute_22 (N : Nat) (rec : Int32 → M2 → Option (Int32 × M2)) (v4 : Int32) (φ : M2) : Option (Int32 × M2) :=
  olet (G_X4_size φ) fun r6 =>
  if r6 ≤ v4 then (
  some ((1, φ))
  ) else (
  obd (G_X4_keyAt φ v4) fun r7 =>
  obd2 (G_X2_insertShortest N φ r7) fun r11 w9 =>
  if r11 = (-1) then (
  some ((0, w9))
  ) else (
  rec (v4 + 1) w9))
def L_X2_distribute_22 (N : Nat) : Nat → Int32 → M2 → Option (Int32 × M2)
  | 0, _, _ => none
  | k + 1, v4, φ => B_X2_distribute_22 N (L_X2_distribute_22 N k) v4 φ
def G_X2_distribute (N : Nat) (φ : M2) (p1 : Int32) (p2 : Int32) (p3 : Int32) : Option (Int32 × M2) :=
  olet (upd2 φ 0 0 p1) fun w1 =>
  olet (upd2 w1 0 1 p2) fun w2 =>
  olet (upd2 w2 0 3 p3) fun w3 =>
  obd (G_X2_emptyAll N w3) fun w4 =>
  L_X2_distribute_22 N N 0 w4
def G_X7_tagAt (φ : M2) (p1 : Int32) : Option Int32 :=
  if p1 < 0 then (
  some ((-1))
  ) else (
  if (φ 5 2) ≤ p1 then (
  some ((-1))
  ) else (
  if 50 ≤ p1 then (
  some ((-1))
  ) else (
  oin p1 50 <|
  some ((φ 7 p1.toNatClampNeg)))))
def B_X4_copyFrom_2 (N : Nat) (rec : Int32 → M2 → Option M2) (v2 : Int32) (φ : M2) : Option M2 :=
  if 120 ≤ v2 then (
  some φ
  ) else (
  if 120 ≤ v2 then (
  some φ
  ) else (
  oin v2 120 <|
  oin v2 120 <|
  olet (upd2 φ 4 v2.toNatClampNeg ((φ 15 v2.toNatClampNeg))) fun w3 =>
  rec (v2 + 1) w3))
def L_X4_copyFrom_2 (N : Nat) : Nat → Int32 → M2 → Option M2
  | 0, _, _ => none
  | k + 1, v2, φ => B_X4_copyFrom_2 N (L_X4_copyFrom_2 N k) v2 φ
def G_X4_copyFrom (N : Nat) (φ : M2) : Option M2 :=
  obd (L_X4_copyFrom_2 N N 0 φ) fun w4 =>
  olet (upd2 w4 3 1 ((w4 14 1))) fun w6 =>
  some w6
def B_X2_copyFrom_42 (N : Nat) (rec : Int32 → M2 → Option M2) (v2 : Int32) (φ : M2) : Option M2 :=
  if 256 ≤ v2 then (
  some φ
  ) else (
  if 256 ≤ v2 then (
  some φ
  ) else (
  oin v2 256 <|
  oin v2 256 <|
  olet (upd2 φ 1 v2.toNatClampNeg ((φ 12 v2.toNatClampNeg))) fun w8 =>
  rec (v2 + 1) w8))
def L_X2_copyFrom_42 (N : Nat) : Nat → Int32 → M2 → Option M2
  | 0, _, _ => none
  | k + 1, v2, φ => B_X2_copyFrom_42 N (L_X2_copyFrom_42 N k) v2 φ
def B_X2_copyFrom_80 (N : Nat) (rec : Int32 → M2 → Option M2) (v2 : Int32) (φ : M2) : Option M2 :=
  if 3 ≤ v2 then (
  some φ
  ) else (
  if 3 ≤ v2 then (
  some φ
  ) else (
  oin v2 3 <|
  oin v2 3 <|
  olet (upd2 φ 2 v2.toNatClampNeg ((φ 13 v2.toNatClampNeg))) fun w13 =>
  rec (v2 + 1) w13))
def L_X2_copyFrom_80 (N : Nat) : Nat → Int32 → M2 → Option M2
  | 0, _, _ => none
  | k + 1, v2, φ => B_X2_copyFrom_80 N (L_X2_copyFrom_80 N k) v2 φ
def G_X2_copyFrom (N : Nat) (φ : M2) : Option M2 :=
  olet (upd2 φ 0 0 ((φ 11 0))) fun w1 =>
  olet (upd2 w1 0 1 ((w1 11 1))) fun w2 =>
  olet (upd2 w2 0 2 ((w2 11 2))) fun w3 =>
  olet (upd2 w3 0 3 ((w3 11 3))) fun w4 =>
  olet (upd2 w4 0 4 ((w4 11 4))) fun w5 =>
  obd (L_X2_copyFrom_42 N N 0 w5) fun w9 =>
  obd (L_X2_copyFrom_80 N N 0 w9) fun w14 =>
  olet (upd2 w14 0 7 ((w14 11 7))) fun w16 =>
  obd (G_X4_copyFrom N w16) fun w17 =>
  some w17
def G_X6_size (φ : M2) : Int32 :=
  (φ 0 1)
def G_X6_byteAt (φ : M2) (p1 : Int32) : Option Int32 :=
  if p1 < 0 then (
  some ((-1))
  ) else (
  if (φ 0 1) ≤ p1 then (
  some ((-1))
  ) else (
  if 100 ≤ p1 then (
  some ((-1))
  ) else (
  oin p1 100 <|
  some ((φ 1 p1.toNatClampNeg)))))
def G_X6_put (φ : M2) (p1 : Int32) : Option (Int32 × M2) :=
  if (φ 0 1) < 0 then (
  some (((φ 0 1), φ))
  ) else (
  if 100 ≤ (φ 0 1) then (
  some (((φ 0 1), φ))
  ) else (
  oin ((φ 0 1)) 100 <|
  olet (upd2 φ 1 ((φ 0 1)).toNatClampNeg p1) fun w2 =>
  olet (upd2 w2 0 1 (((w2 0 1) + 1))) fun w3 =>
  some (((w3 0 1), w3))))
def G_X6_empty (φ : M2) : Option (Int32 × M2) :=
  olet ((φ 0 1)) fun x1 =>
  olet (upd2 φ 0 1 0) fun w2 =>
  some ((x1, w2))
def B_X6_errorPosition_4 (N : Nat) (φ : M2) (rec : Int32 → Int32 → Option Int32) (v1 : Int32) (v2 : Int32) : Option Int32 :=
  if (φ 0 1) ≤ v2 then (
  if v1 = 0 then (
  some ((-1))
  ) else (
  some ((φ 0 1)))
  ) else (
  obd (G_X6_byteAt φ v2) fun r1 =>
  olet (G_X6_stateAfter v1 r1) fun r3 =>
  if r3 = (-1) then (
  some v2
  ) else (
  rec r3 (v2 + 1)))
def L_X6_errorPosition_4 (N : Nat) (φ : M2) : Nat → Int32 → Int32 → Option Int32
  | 0, _, _ => none
  | k + 1, v1, v2 => B_X6_errorPosition_4 N φ (L_X6_errorPosition_4 N φ k) v1 v2
def G_X6_errorPosition (N : Nat) (φ : M2) : Option Int32 :=
  L_X6_errorPosition_4 N φ N 0 0
