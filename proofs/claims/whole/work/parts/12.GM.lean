def G_X9_thrown (φ : M2) : Int32 :=
  (φ 0 5)
def G_X9_in (p0 : Int32) (p1 : Int32) (p2 : Int32) : Int32 :=
  if p0 < p1 then (
  0
  ) else (
  if p2 < p0 then (
  0
  ) else (
  1))
def B_X9_copy_2 (N : Nat) (v1 : Int32) (rec : Int32 → M2 → Option M2) (v2 : Int32) (φ : M2) : Option M2 :=
  if 1163 ≤ v2 then (
  some φ
  ) else (
  oin v2 1163 <|
  oin (((1163 * v1) + v2)) 6978 <|
  olet (upd2 φ 2 (((1163 * v1) + v2)).toNatClampNeg ((φ 1 v2.toNatClampNeg))) fun w3 =>
  rec (v2 + 1) w3)
def L_X9_copy_2 (N : Nat) (v1 : Int32) : Nat → Int32 → M2 → Option M2
  | 0, _, _ => none
  | k + 1, v2, φ => B_X9_copy_2 N v1 (L_X9_copy_2 N v1 k) v2 φ
def G_X9_copy (N : Nat) (φ : M2) (p1 : Int32) : Option M2 :=
  obd (L_X9_copy_2 N p1 N 0 φ) fun w4 =>
  some w4
def B_X9_layBack_2 (N : Nat) (v1 : Int32) (rec : Int32 → M2 → Option M2) (v2 : Int32) (φ : M2) : Option M2 :=
  if 1163 ≤ v2 then (
  some φ
  ) else (
  oin (((1163 * v1) + v2)) 6978 <|
  oin v2 1163 <|
  olet (upd2 φ 1 v2.toNatClampNeg ((φ 2 (((1163 * v1) + v2)).toNatClampNeg))) fun w3 =>
  rec (v2 + 1) w3)
def L_X9_layBack_2 (N : Nat) (v1 : Int32) : Nat → Int32 → M2 → Option M2
  | 0, _, _ => none
  | k + 1, v2, φ => B_X9_layBack_2 N v1 (L_X9_layBack_2 N v1 k) v2 φ
def G_X9_layBack (N : Nat) (φ : M2) (p1 : Int32) : Option M2 :=
  obd (L_X9_layBack_2 N p1 N 0 φ) fun w4 =>
  some w4
def B_X9_makeRoom_10 (N : Nat) (rec : Int32 → M2 → Option M2) (v1 : Int32) (φ : M2) : Option M2 :=
  if 3489 ≤ v1 then (
  some φ
  ) else (
  oin ((v1 + 1163)) 6978 <|
  oin v1 6978 <|
  olet (upd2 φ 2 v1.toNatClampNeg ((φ 2 ((v1 + 1163)).toNatClampNeg))) fun w3 =>
  rec (v1 + 1) w3)
def L_X9_makeRoom_10 (N : Nat) : Nat → Int32 → M2 → Option M2
  | 0, _, _ => none
  | k + 1, v1, φ => B_X9_makeRoom_10 N (L_X9_makeRoom_10 N k) v1 φ
def G_X9_makeRoom (N : Nat) (φ : M2) : Option M2 :=
  if (φ 0 2) = 4 then (
  obd (L_X9_makeRoom_10 N N 0 φ) fun w4 =>
  olet (upd2 w4 0 2 (((w4 0 2) - 1))) fun w6 =>
  some w6
  ) else (
  some φ)
def G_X9_keep (N : Nat) (φ : M2) : Option M2 :=
  obd (G_X9_makeRoom N φ) fun w1 =>
  obd (G_X9_copy N w1 ((w1 0 2))) fun w3 =>
  olet (upd2 w3 0 2 (((w3 0 2) + 1))) fun w5 =>
  some w5
def B_X9_empties_10 (N : Nat) (rec : Int32 → M2 → Option M2) (v1 : Int32) (φ : M2) : Option M2 :=
  if 1042 ≤ v1 then (
  some φ
  ) else (
  oin v1 1163 <|
  olet (upd2 φ 1 v1.toNatClampNeg ((-1))) fun w4 =>
  rec (v1 + 1) w4)
def L_X9_empties_10 (N : Nat) : Nat → Int32 → M2 → Option M2
  | 0, _, _ => none
  | k + 1, v1, φ => B_X9_empties_10 N (L_X9_empties_10 N k) v1 φ
def G_X9_empties (N : Nat) (φ : M2) : Option M2 :=
  oin 5 1163 <|
  olet (upd2 φ 1 (5 : Int32).toNatClampNeg 0) fun w2 =>
  obd (L_X9_empties_10 N N 18 w2) fun w5 =>
  some w5
def G_X9_isKey (p0 : Int32) : Int32 :=
  olet (G_X9_in p0 0 999) fun r1 =>
  r1
def G_X9_codeOf (p0 : Int32) (p1 : Int32) : Int32 :=
  olet ((lrm ((((p0.toInt64 * 48271) + (p1.toInt64 * 7919)) + 12345)) 1048576)) fun x1 =>
  olet ((x1 ^^^ (x1 / 512))) fun x2 =>
  olet ((lrm (((x2 * 7621) + 1)) 1048576)) fun x3 =>
  olet ((x3 ^^^ (x3 / 2048))) fun x4 =>
  x4.toInt32
def G_X9_tagOf (φ : M2) (p1 : Int32) : Option Int32 :=
  oin 3 1163 <|
  olet (G_X9_codeOf p1 ((φ 1 (3 : Int32).toNatClampNeg))) fun r2 =>
  some ((r2 / 16384))
def G_X9_bodyOf (φ : M2) (p1 : Int32) : Option Int32 :=
  oin 3 1163 <|
  olet (G_X9_codeOf p1 ((φ 1 (3 : Int32).toNatClampNeg))) fun r2 =>
  some ((irm r2 16384))
def G_X9_buckets (φ : M2) : Option Int32 :=
  oin 0 1163 <|
  some ((1 <<< ((φ 1 (0 : Int32).toNatClampNeg) &&& 31)))
def G_X9_stepOf (p0 : Int32) (p1 : Int32) : Option Int32 :=
  onz ((1 <<< (p1 &&& 31))) <|
  some ((irm (((irm (((37 * p0) + 11)) 64) ||| 1)) ((1 <<< (p1 &&& 31)))))
def G_X9_homeOf (φ : M2) (p1 : Int32) : Option Int32 :=
  obd (G_X9_bodyOf φ p1) fun r1 =>
  obd (G_X9_buckets φ) fun r3 =>
  onz r3 <|
  some ((irm r1 r3))
def G_X9_otherOf (φ : M2) (p1 : Int32) : Option Int32 :=
  obd (G_X9_homeOf φ p1) fun r1 =>
  obd (G_X9_tagOf φ p1) fun r3 =>
  oin 0 1163 <|
  obd (G_X9_stepOf r3 ((φ 1 (0 : Int32).toNatClampNeg))) fun r6 =>
  some ((r1 ^^^ r6))
def G_X9_printOf (φ : M2) (p1 : Int32) (p2 : Int32) : Option Int32 :=
  obd (G_X9_bodyOf φ p1) fun r1 =>
  oin 0 1163 <|
  onz ((1 <<< (p2 &&& 31))) <|
  some ((irm ((r1 >>> ((φ 1 (0 : Int32).toNatClampNeg) &&& 31))) ((1 <<< (p2 &&& 31)))))
def G_X9_at (p0 : Int32) (p1 : Int32) : Int32 :=
  (18 + (4 * ((4 * p0) + p1)))
def G_X9_isEmpty (φ : M2) (p1 : Int32) (p2 : Int32) : Option Int32 :=
  olet (G_X9_at p1 p2) fun r1 =>
  oin r1 1163 <|
  if (φ 1 r1.toNatClampNeg) = (-1) then (
  some 1
  ) else (
  some 0)
def B_X9_room_2 (N : Nat) (φ : M2) (v1 : Int32) (rec : Int32 → Option Int32) (v2 : Int32) : Option Int32 :=
  oin 1 1163 <|
  if (φ 1 (1 : Int32).toNatClampNeg) ≤ v2 then (
  some ((-1))
  ) else (
  obd (G_X9_isEmpty φ v1 v2) fun r2 =>
  if r2 = 0 then (
  rec (v2 + 1)
  ) else (
  some v2))
def L_X9_room_2 (N : Nat) (φ : M2) (v1 : Int32) : Nat → Int32 → Option Int32
  | 0, _ => none
  | k + 1, v2 => B_X9_room_2 N φ v1 (L_X9_room_2 N φ v1 k) v2
def G_X9_room (N : Nat) (φ : M2) (p1 : Int32) : Option Int32 :=
  L_X9_room_2 N φ p1 N 0
def G_X9_put (φ : M2) (p1 : Int32) (p2 : Int32) (p3 : Int32) (p4 : Int32) (p5 : Int32) (p6 : Int32) : Option M2 :=
  olet (G_X9_at p1 p2) fun r1 =>
  oin r1 1163 <|
  olet (upd2 φ 1 r1.toNatClampNeg p3) fun w3 =>
  oin ((r1 + 1)) 1163 <|
  olet (upd2 w3 1 ((r1 + 1)).toNatClampNeg p4) fun w5 =>
  oin ((r1 + 2)) 1163 <|
  olet (upd2 w5 1 ((r1 + 2)).toNatClampNeg p5) fun w7 =>
  oin ((r1 + 3)) 1163 <|
  olet (upd2 w7 1 ((r1 + 3)).toNatClampNeg p6) fun w9 =>
  some w9
def G_X9_matches (φ : M2) (p1 : Int32) (p2 : Int32) : Option Int32 :=
  oin p2 1163 <|
  obd (G_X9_tagOf φ p1) fun r2 =>
  if (φ 1 p2.toNatClampNeg) = r2 then (
  oin ((p2 + 2)) 1163 <|
  oin ((p2 + 1)) 1163 <|
  obd (G_X9_printOf φ p1 ((φ 1 ((p2 + 1)).toNatClampNeg))) fun r6 =>
  if (φ 1 ((p2 + 2)).toNatClampNeg) = r6 then (
  some 1
  ) else (
  some 0)
  ) else (
  some 0)
def B_X9_placeOf_36 (N : Nat) (φ : M2) (v1 : Int32) (v4 : Int32) (v5 : Int32) (rec : Int32 → Int32 → Int32 → Option (Int32 × Int32)) (v2 : Int32) (v3 : Int32) (v6 : Int32) : Option (Int32 × Int32) :=
  oin 1 1163 <|
  if (φ 1 (1 : Int32).toNatClampNeg) ≤ v6 then (
  some ((v2, v3))
  ) else (
  olet (G_X9_at v5 v6) fun r4 =>
  obd (G_X9_isEmpty φ v5 v6) fun r5 =>
  if r5 = 0 then (
  oin ((r4 + 3)) 1163 <|
  if (φ 1 ((r4 + 3)).toNatClampNeg) = v4 then (
  obd (G_X9_matches φ v1 r4) fun r8 =>
  if r8 = 0 then (
  rec v2 v3 (v6 + 1)
  ) else (
  oin ((r4 + 1)) 1163 <|
  if (φ 1 ((r4 + 1)).toNatClampNeg) ≤ v3 then (
  rec v2 v3 (v6 + 1)
  ) else (
  olet (((4 * v5) + v6)) fun x11 =>
  oin ((r4 + 1)) 1163 <|
  olet ((φ 1 ((r4 + 1)).toNatClampNeg)) fun x13 =>
  rec x11 x13 (v6 + 1)))
  ) else (
  rec v2 v3 (v6 + 1))
  ) else (
  rec v2 v3 (v6 + 1)))
def L_X9_placeOf_36 (N : Nat) (φ : M2) (v1 : Int32) (v4 : Int32) (v5 : Int32) : Nat → Int32 → Int32 → Int32 → Option (Int32 × Int32)
  | 0, _, _, _ => none
  | k + 1, v2, v3, v6 => B_X9_placeOf_36 N φ v1 v4 v5 (L_X9_placeOf_36 N φ v1 v4 v5 k) v2 v3 v6
def B_X9_placeOf_7 (N : Nat) (φ : M2) (v1 : Int32) (rec : Int32 → Int32 → Int32 → Option (Int32 × Int32)) (v2 : Int32) (v3 : Int32) (v4 : Int32) : Option (Int32 × Int32) :=
  if 2 ≤ v4 then (
  some ((v2, v3))
  ) else (
  if v4 = 0 then (
  obd (G_X9_homeOf φ v1) fun r17 =>
  obd2 (L_X9_placeOf_36 N φ v1 v4 r17 N v2 v3 0) fun y19 y20 =>
  rec y19 y20 (v4 + 1)
  ) else (
  obd (G_X9_otherOf φ v1) fun r1 =>
  obd2 (L_X9_placeOf_36 N φ v1 v4 r1 N v2 v3 0) fun y14 y15 =>
  rec y14 y15 (v4 + 1)))
def L_X9_placeOf_7 (N : Nat) (φ : M2) (v1 : Int32) : Nat → Int32 → Int32 → Int32 → Option (Int32 × Int32)
  | 0, _, _, _ => none
  | k + 1, v2, v3, v4 => B_X9_placeOf_7 N φ v1 (L_X9_placeOf_7 N φ v1 k) v2 v3 v4
def B_X9_placeOf_137 (N : Nat) (φ : M2) (v1 : Int32) (rec : Int32 → Int32 → Int32 → Option Int32) (v2 : Int32) (v3 : Int32) (v4 : Int32) : Option Int32 :=
  oin 5 1163 <|
  if (φ 1 (5 : Int32).toNatClampNeg) ≤ v4 then (
  some v2
  ) else (
  olet ((6 + (4 * v4))) fun x26 =>
  oin ((x26 + 3)) 1163 <|
  obd (G_X9_homeOf φ v1) fun r28 =>
  if (φ 1 ((x26 + 3)).toNatClampNeg) = r28 then (
  obd (G_X9_matches φ v1 x26) fun r30 =>
  if r30 = 0 then (
  rec v2 v3 (v4 + 1)
  ) else (
  oin ((x26 + 1)) 1163 <|
  if (φ 1 ((x26 + 1)).toNatClampNeg) ≤ v3 then (
  rec v2 v3 (v4 + 1)
  ) else (
  olet ((1000 + v4)) fun x33 =>
  oin ((x26 + 1)) 1163 <|
  olet ((φ 1 ((x26 + 1)).toNatClampNeg)) fun x35 =>
  rec x33 x35 (v4 + 1)))
  ) else (
  rec v2 v3 (v4 + 1)))
def L_X9_placeOf_137 (N : Nat) (φ : M2) (v1 : Int32) : Nat → Int32 → Int32 → Int32 → Option Int32
  | 0, _, _, _ => none
  | k + 1, v2, v3, v4 => B_X9_placeOf_137 N φ v1 (L_X9_placeOf_137 N φ v1 k) v2 v3 v4
def G_X9_placeOf (N : Nat) (φ : M2) (p1 : Int32) : Option Int32 :=
  obd2 (L_X9_placeOf_7 N φ p1 N ((-1)) ((-1)) 0) fun y22 y23 =>
  obd (L_X9_placeOf_137 N φ p1 N y22 y23 0) fun y36 =>
  some y36
def B_X9_indexOf_2 (N : Nat) (φ : M2) (v1 : Int32) (rec : Int32 → Option Int32) (v2 : Int32) : Option Int32 :=
  oin 1042 1163 <|
  if (φ 1 (1042 : Int32).toNatClampNeg) ≤ v2 then (
  some ((-1))
  ) else (
  oin ((1043 + v2)) 1163 <|
  if (φ 1 ((1043 + v2)).toNatClampNeg) = v1 then (
  some v2
  ) else (
  rec (v2 + 1)))
def L_X9_indexOf_2 (N : Nat) (φ : M2) (v1 : Int32) : Nat → Int32 → Option Int32
  | 0, _ => none
  | k + 1, v2 => B_X9_indexOf_2 N φ v1 (L_X9_indexOf_2 N φ v1 k) v2
def G_X9_indexOf (N : Nat) (φ : M2) (p1 : Int32) : Option Int32 :=
  L_X9_indexOf_2 N φ p1 N 0
def G_X9_settles (N : Nat) (φ : M2) (p1 : Int32) : Option (Int32 × M2) :=
  obd (G_X9_room N φ p1) fun r1 =>
  if r1 = (-1) then (
  if r1 = (-1) then (
  some ((0, φ))
  ) else (
  some ((1, φ)))
  ) else (
  if p1 = (φ 0 9) then (
  obd (G_X9_put φ p1 r1 ((φ 0 6)) ((φ 0 7)) ((φ 0 8)) 0) fun w5 =>
  if r1 = (-1) then (
  some ((0, w5))
  ) else (
  some ((1, w5)))
  ) else (
  obd (G_X9_put φ p1 r1 ((φ 0 6)) ((φ 0 7)) ((φ 0 8)) 1) fun w3 =>
  if r1 = (-1) then (
  some ((0, w3))
  ) else (
  some ((1, w3)))))
def G_X9_hold (φ : M2) (p1 : Int32) : Option M2 :=
  obd (G_X9_tagOf φ p1) fun r1 =>
  olet (upd2 φ 0 6 r1) fun w3 =>
  oin 2 1163 <|
  olet (upd2 w3 0 7 ((w3 1 (2 : Int32).toNatClampNeg))) fun w5 =>
  oin 2 1163 <|
  obd (G_X9_printOf w5 p1 ((w5 1 (2 : Int32).toNatClampNeg))) fun r7 =>
  olet (upd2 w5 0 8 r7) fun w9 =>
  obd (G_X9_homeOf w9 p1) fun r10 =>
  olet (upd2 w9 0 9 r10) fun w12 =>
  some w12
def J_X9_exchange_92 (φ : M2) (v4 : Int32) (v5 : Int32) (v6 : Int32) (v7 : Int32) (s0 : Int32) (s1 : Int32) (s2 : Int32) (s3 : Int32) (s4 : Int32) (s5 : Int32) : Option M2 :=
  obd (G_X9_put φ s5 s4 s3 s2 s1 s0) fun w12 =>
  olet (upd2 w12 0 6 v4) fun w14 =>
  olet (upd2 w14 0 7 v5) fun w15 =>
  olet (upd2 w15 0 8 v6) fun w16 =>
  olet (upd2 w16 0 9 v7) fun w17 =>
  some w17
def J_X9_exchange_62 (φ : M2) (v1 : Int32) (v2 : Int32) (v4 : Int32) (v5 : Int32) (v6 : Int32) (s0 : Int32) : Option M2 :=
  if v1 = (φ 0 9) then (
  J_X9_exchange_92 φ v4 v5 v6 s0 0 ((φ 0 8)) ((φ 0 7)) ((φ 0 6)) v2 v1
  ) else (
  J_X9_exchange_92 φ v4 v5 v6 s0 1 ((φ 0 8)) ((φ 0 7)) ((φ 0 6)) v2 v1)
def G_X9_exchange (φ : M2) (p1 : Int32) (p2 : Int32) : Option M2 :=
  olet (G_X9_at p1 p2) fun r1 =>
  oin r1 1163 <|
  olet ((φ 1 r1.toNatClampNeg)) fun x3 =>
  oin ((r1 + 1)) 1163 <|
  olet ((φ 1 ((r1 + 1)).toNatClampNeg)) fun x5 =>
  oin ((r1 + 2)) 1163 <|
  olet ((φ 1 ((r1 + 2)).toNatClampNeg)) fun x7 =>
  oin ((r1 + 3)) 1163 <|
  if (φ 1 ((r1 + 3)).toNatClampNeg) = 0 then (
  J_X9_exchange_62 φ p1 p2 x3 x5 x7 p1
  ) else (
  oin 0 1163 <|
  obd (G_X9_stepOf x3 ((φ 1 (0 : Int32).toNatClampNeg))) fun r10 =>
  J_X9_exchange_62 φ p1 p2 x3 x5 x7 ((p1 ^^^ r10)))
def B_X9_walks_2 (N : Nat) (v1 : Int32) (rec : Int32 → M2 → Option M2) (v2 : Int32) (φ : M2) : Option M2 :=
  if 1024 ≤ v2 then (
  some φ
  ) else (
  oin ((18 + v2)) 1163 <|
  oin v2 1024 <|
  olet (upd2 φ 6 v2.toNatClampNeg ((φ 1 ((18 + v2)).toNatClampNeg))) fun w3 =>
  rec (v2 + 1) w3)
def L_X9_walks_2 (N : Nat) (v1 : Int32) : Nat → Int32 → M2 → Option M2
  | 0, _, _ => none
  | k + 1, v2, φ => B_X9_walks_2 N v1 (L_X9_walks_2 N v1 k) v2 φ
def B_X9_walks_131 (N : Nat) (rec : Int32 → M2 → Option M2) (v3 : Int32) (φ : M2) : Option M2 :=
  if 1024 ≤ v3 then (
  some φ
  ) else (
  oin v3 1024 <|
  oin ((18 + v3)) 1163 <|
  olet (upd2 φ 1 ((18 + v3)).toNatClampNeg ((φ 6 v3.toNatClampNeg))) fun w9 =>
  rec (v3 + 1) w9)
def L_X9_walks_131 (N : Nat) : Nat → Int32 → M2 → Option M2
  | 0, _, _ => none
  | k + 1, v3, φ => B_X9_walks_131 N (L_X9_walks_131 N k) v3 φ
def B_X9_walks_32 (N : Nat) (rec : Int32 → M2 → Option (Int32 × M2)) (v2 : Int32) (φ : M2) : Option (Int32 × M2) :=
  oin 4 1163 <|
  if (φ 1 (4 : Int32).toNatClampNeg) ≤ (φ 0 12) then (
  obd (L_X9_walks_131 N N 0 φ) fun w10 =>
  some ((0, w10))
  ) else (
  oin 1 1163 <|
  onz ((φ 1 (1 : Int32).toNatClampNeg)) <|
  olet ((irm ((φ 0 12)) ((φ 1 (1 : Int32).toNatClampNeg)))) fun x14 =>
  oin ((φ 0 12)) 50 <|
  olet (upd2 φ 4 ((φ 0 12)).toNatClampNeg (((4 * v2) + x14))) fun w16 =>
  obd (G_X9_exchange w16 v2 x14) fun w17 =>
  oin ((w17 0 12)) 50 <|
  olet (upd2 w17 5 ((w17 0 12)).toNatClampNeg ((w17 0 6))) fun w20 =>
  olet (upd2 w20 0 12 (((w20 0 12) + 1))) fun w21 =>
  oin 0 1163 <|
  obd (G_X9_stepOf ((w21 0 6)) ((w21 1 (0 : Int32).toNatClampNeg))) fun r23 =>
  olet ((v2 ^^^ r23)) fun x25 =>
  obd2 (G_X9_settles N w21 x25) fun r28 w26 =>
  if r28 = 0 then (
  rec x25 w26
  ) else (
  some ((1, w26))))
def L_X9_walks_32 (N : Nat) : Nat → Int32 → M2 → Option (Int32 × M2)
  | 0, _, _ => none
  | k + 1, v2, φ => B_X9_walks_32 N (L_X9_walks_32 N k) v2 φ
def G_X9_walks (N : Nat) (φ : M2) (p1 : Int32) : Option (Int32 × M2) :=
  obd (L_X9_walks_2 N p1 N 0 φ) fun w4 =>
  L_X9_walks_32 N N p1 w4
def G_X9_addEntry (N : Nat) (φ : M2) (p1 : Int32) : Option (Int32 × M2) :=
  olet (upd2 φ 0 12 0) fun w1 =>
  obd (G_X9_hold w1 p1) fun w2 =>
  olet ((w2 0 9)) fun x4 =>
  obd2 (G_X9_settles N w2 x4) fun r7 w5 =>
  if r7 = 0 then (
  obd (G_X9_otherOf w5 p1) fun r8 =>
  obd2 (G_X9_settles N w5 r8) fun r12 w10 =>
  if r12 = 0 then (
  obd2 (G_X9_walks N w10 x4) fun r15 w13 =>
  if r15 = 0 then (
  oin 5 1163 <|
  if (w13 1 (5 : Int32).toNatClampNeg) = 3 then (
  some (((-1), w13))
  ) else (
  oin 5 1163 <|
  olet ((6 + (4 * (w13 1 (5 : Int32).toNatClampNeg)))) fun x18 =>
  obd (G_X9_tagOf w13 p1) fun r19 =>
  oin x18 1163 <|
  olet (upd2 w13 1 x18.toNatClampNeg r19) fun w22 =>
  oin 2 1163 <|
  oin ((x18 + 1)) 1163 <|
  olet (upd2 w22 1 ((x18 + 1)).toNatClampNeg ((w22 1 (2 : Int32).toNatClampNeg))) fun w25 =>
  oin 2 1163 <|
  obd (G_X9_printOf w25 p1 ((w25 1 (2 : Int32).toNatClampNeg))) fun r27 =>
  oin ((x18 + 2)) 1163 <|
  olet (upd2 w25 1 ((x18 + 2)).toNatClampNeg r27) fun w30 =>
  oin ((x18 + 3)) 1163 <|
  olet (upd2 w30 1 ((x18 + 3)).toNatClampNeg x4) fun w32 =>
  oin 5 1163 <|
  oin 5 1163 <|
  olet (upd2 w32 1 (5 : Int32).toNatClampNeg (((w32 1 (5 : Int32).toNatClampNeg) + 1))) fun w35 =>
  some ((100, w35)))
  ) else (
  some (((w13 0 12), w13)))
  ) else (
  some ((0, w10)))
  ) else (
  some ((0, w5)))
def G_X9_mayAdd (N : Nat) (φ : M2) (p1 : Int32) : Option Int32 :=
  obd (G_X9_indexOf N φ p1) fun r1 =>
  if r1 = (-1) then (
  oin 1042 1163 <|
  if 120 ≤ (φ 1 (1042 : Int32).toNatClampNeg) then (
  some 0
  ) else (
  some 1)
  ) else (
  some 0)
def G_X9_noteKey (φ : M2) (p1 : Int32) : Option M2 :=
  oin 1042 1163 <|
  oin ((1043 + (φ 1 (1042 : Int32).toNatClampNeg))) 1163 <|
  olet (upd2 φ 1 ((1043 + (φ 1 (1042 : Int32).toNatClampNeg))).toNatClampNeg p1) fun w3 =>
  oin 1042 1163 <|
  oin 1042 1163 <|
  olet (upd2 w3 1 (1042 : Int32).toNatClampNeg (((w3 1 (1042 : Int32).toNatClampNeg) + 1))) fun w6 =>
  some w6
def G_X9_reach (φ : M2) (p1 : Int32) (p2 : Int32) (p3 : Int32) : Option M2 :=
  oin p1 64 <|
  if (φ 8 p1.toNatClampNeg) = (-1) then (
  oin p1 64 <|
  olet (upd2 φ 8 p1.toNatClampNeg p2) fun w3 =>
  oin p1 64 <|
  olet (upd2 w3 9 p1.toNatClampNeg p3) fun w5 =>
  oin ((w5 0 15)) 64 <|
  olet (upd2 w5 7 ((w5 0 15)).toNatClampNeg p1) fun w7 =>
  olet (upd2 w7 0 15 (((w7 0 15) + 1))) fun w8 =>
  some w8
  ) else (
  some φ)
def B_X9_endOfChain_7 (N : Nat) (v1 : Int32) (rec : Int32 → M2 → Option M2) (v2 : Int32) (φ : M2) : Option M2 :=
  if 64 ≤ v2 then (
  some φ
  ) else (
  oin v2 64 <|
  olet (upd2 φ 8 v2.toNatClampNeg ((-1))) fun w3 =>
  rec (v2 + 1) w3)
def L_X9_endOfChain_7 (N : Nat) (v1 : Int32) : Nat → Int32 → M2 → Option M2
  | 0, _, _ => none
  | k + 1, v2, φ => B_X9_endOfChain_7 N v1 (L_X9_endOfChain_7 N v1 k) v2 φ
def B_X9_endOfChain_79 (N : Nat) (v2 : Int32) (v3 : Int32) (rec : Int32 → M2 → Option M2) (v4 : Int32) (φ : M2) : Option M2 :=
  oin 1 1163 <|
  if (φ 1 (1 : Int32).toNatClampNeg) ≤ v4 then (
  some φ
  ) else (
  olet (G_X9_at v3 v4) fun r19 =>
  oin r19 1163 <|
  oin 0 1163 <|
  obd (G_X9_stepOf ((φ 1 r19.toNatClampNeg)) ((φ 1 (0 : Int32).toNatClampNeg))) fun r22 =>
  oin v3 64 <|
  obd (G_X9_reach φ ((v3 ^^^ r22)) (((φ 8 v3.toNatClampNeg) + 1)) (((4 * v3) + v4))) fun w25 =>
  rec (v4 + 1) w25)
def L_X9_endOfChain_79 (N : Nat) (v2 : Int32) (v3 : Int32) : Nat → Int32 → M2 → Option M2
  | 0, _, _ => none
  | k + 1, v4, φ => B_X9_endOfChain_79 N v2 v3 (L_X9_endOfChain_79 N v2 v3 k) v4 φ
def B_X9_endOfChain_50 (N : Nat) (rec : Int32 → M2 → Option (Int32 × M2)) (v2 : Int32) (φ : M2) : Option (Int32 × M2) :=
  if (φ 0 15) ≤ v2 then (
  some (((-1), φ))
  ) else (
  oin v2 64 <|
  olet ((φ 7 v2.toNatClampNeg)) fun x15 =>
  obd (G_X9_room N φ x15) fun r16 =>
  if r16 = (-1) then (
  obd (L_X9_endOfChain_79 N v2 x15 N 0 φ) fun w27 =>
  rec (v2 + 1) w27
  ) else (
  some ((x15, φ))))
def L_X9_endOfChain_50 (N : Nat) : Nat → Int32 → M2 → Option (Int32 × M2)
  | 0, _, _ => none
  | k + 1, v2, φ => B_X9_endOfChain_50 N (L_X9_endOfChain_50 N k) v2 φ
def G_X9_endOfChain (N : Nat) (φ : M2) (p1 : Int32) : Option (Int32 × M2) :=
  olet (upd2 φ 0 15 0) fun w1 =>
  obd (L_X9_endOfChain_7 N p1 N 0 w1) fun w4 =>
  obd (G_X9_homeOf w4 p1) fun r6 =>
  obd (G_X9_reach w4 r6 0 ((-1))) fun w8 =>
  obd (G_X9_otherOf w8 p1) fun r10 =>
  obd (G_X9_reach w8 r10 0 ((-1))) fun w12 =>
  L_X9_endOfChain_50 N N 0 w12
def B_X9_moveChain_9 (N : Nat) (v1 : Int32) (rec : Int32 → Int32 → M2 → Option (Int32 × Int32 × M2)) (v3 : Int32) (v4 : Int32) (φ : M2) : Option (Int32 × Int32 × M2) :=
  oin v3 64 <|
  if (φ 9 v3.toNatClampNeg) = (-1) then (
  some ((v3, v4, φ))
  ) else (
  oin v3 64 <|
  oin v3 64 <|
  olet (G_X9_at (((φ 9 v3.toNatClampNeg) / 4)) ((irm ((φ 9 v3.toNatClampNeg)) 4))) fun r6 =>
  oin r6 1163 <|
  oin ((r6 + 1)) 1163 <|
  oin ((r6 + 2)) 1163 <|
  oin ((r6 + 3)) 1163 <|
  obd (G_X9_put φ v3 v4 ((φ 1 r6.toNatClampNeg)) ((φ 1 ((r6 + 1)).toNatClampNeg)) ((φ 1 ((r6 + 2)).toNatClampNeg)) ((1 - (φ 1 ((r6 + 3)).toNatClampNeg)))) fun w11 =>
  oin v3 64 <|
  olet ((irm ((w11 9 v3.toNatClampNeg)) 4)) fun x14 =>
  oin v3 64 <|
  olet (((w11 9 v3.toNatClampNeg) / 4)) fun x16 =>
  rec x16 x14 w11)
def L_X9_moveChain_9 (N : Nat) (v1 : Int32) : Nat → Int32 → Int32 → M2 → Option (Int32 × Int32 × M2)
  | 0, _, _, _ => none
  | k + 1, v3, v4, φ => B_X9_moveChain_9 N v1 (L_X9_moveChain_9 N v1 k) v3 v4 φ
def G_X9_moveChain (N : Nat) (φ : M2) (p1 : Int32) (p2 : Int32) : Option M2 :=
  obd (G_X9_room N φ p2) fun r1 =>
  obd3 (L_X9_moveChain_9 N p1 N p2 r1 φ) fun y17 y18 w19 =>
  obd (G_X9_hold w19 p1) fun w21 =>
  if y17 = (w21 0 9) then (
  obd (G_X9_put w21 y17 y18 ((w21 0 6)) ((w21 0 7)) ((w21 0 8)) 0) fun w25 =>
  some w25
  ) else (
  obd (G_X9_put w21 y17 y18 ((w21 0 6)) ((w21 0 7)) ((w21 0 8)) 1) fun w23 =>
  some w23)
def B_X9_dropStash_17 (N : Nat) (rec : Int32 → M2 → Option M2) (v2 : Int32) (φ : M2) : Option M2 :=
  oin 5 1163 <|
  if (6 + (4 * (φ 1 (5 : Int32).toNatClampNeg))) ≤ v2 then (
  some φ
  ) else (
  oin ((v2 + 4)) 1163 <|
  oin v2 1163 <|
  olet (upd2 φ 1 v2.toNatClampNeg ((φ 1 ((v2 + 4)).toNatClampNeg))) fun w8 =>
  rec (v2 + 1) w8)
def L_X9_dropStash_17 (N : Nat) : Nat → Int32 → M2 → Option M2
  | 0, _, _ => none
  | k + 1, v2, φ => B_X9_dropStash_17 N (L_X9_dropStash_17 N k) v2 φ
def G_X9_dropStash (N : Nat) (φ : M2) (p1 : Int32) : Option M2 :=
  oin 5 1163 <|
  oin 5 1163 <|
  olet (upd2 φ 1 (5 : Int32).toNatClampNeg (((φ 1 (5 : Int32).toNatClampNeg) - 1))) fun w3 =>
  olet ((6 + (4 * p1))) fun x4 =>
  obd (L_X9_dropStash_17 N N x4 w3) fun w9 =>
  some w9
def B_X9_leave_4 (N : Nat) (rec : Int32 → Int32 → M2 → Option (Int32 × M2)) (v1 : Int32) (v2 : Int32) (φ : M2) : Option (Int32 × M2) :=
  oin 5 1163 <|
  if (φ 1 (5 : Int32).toNatClampNeg) ≤ v2 then (
  some ((v1, φ))
  ) else (
  olet ((6 + (4 * v2))) fun x2 =>
  oin x2 1163 <|
  olet (upd2 φ 0 6 ((φ 1 x2.toNatClampNeg))) fun w4 =>
  oin ((x2 + 1)) 1163 <|
  olet (upd2 w4 0 7 ((w4 1 ((x2 + 1)).toNatClampNeg))) fun w6 =>
  oin ((x2 + 2)) 1163 <|
  olet (upd2 w6 0 8 ((w6 1 ((x2 + 2)).toNatClampNeg))) fun w8 =>
  oin ((x2 + 3)) 1163 <|
  olet (upd2 w8 0 9 ((w8 1 ((x2 + 3)).toNatClampNeg))) fun w10 =>
  obd2 (G_X9_settles N w10 ((w10 0 9))) fun r13 w11 =>
  if r13 = 0 then (
  oin 0 1163 <|
  obd (G_X9_stepOf ((w11 0 6)) ((w11 1 (0 : Int32).toNatClampNeg))) fun r17 =>
  obd2 (G_X9_settles N w11 (((w11 0 9) ^^^ r17))) fun r21 w19 =>
  if r21 = 0 then (
  rec v1 (v2 + 1) w19
  ) else (
  obd (G_X9_dropStash N w19 v2) fun w22 =>
  rec (v1 + 1) v2 w22)
  ) else (
  obd (G_X9_dropStash N w11 v2) fun w14 =>
  rec (v1 + 1) v2 w14))
def L_X9_leave_4 (N : Nat) : Nat → Int32 → Int32 → M2 → Option (Int32 × M2)
  | 0, _, _, _ => none
  | k + 1, v1, v2, φ => B_X9_leave_4 N (L_X9_leave_4 N k) v1 v2 φ
def G_X9_leave (N : Nat) (φ : M2) : Option (Int32 × M2) :=
  obd2 (L_X9_leave_4 N N 0 0 φ) fun y24 w25 =>
  some ((y24, w25))
def B_X9_deletes_25 (N : Nat) (v3 : Int32) (rec : Int32 → M2 → Option M2) (v4 : Int32) (φ : M2) : Option M2 :=
  oin 1042 1163 <|
  if (1043 + (φ 1 (1042 : Int32).toNatClampNeg)) ≤ v4 then (
  some φ
  ) else (
  oin ((v4 + 1)) 1163 <|
  oin v4 1163 <|
  olet (upd2 φ 1 v4.toNatClampNeg ((φ 1 ((v4 + 1)).toNatClampNeg))) fun w10 =>
  rec (v4 + 1) w10)
def L_X9_deletes_25 (N : Nat) (v3 : Int32) : Nat → Int32 → M2 → Option M2
  | 0, _, _ => none
  | k + 1, v4, φ => B_X9_deletes_25 N v3 (L_X9_deletes_25 N v3 k) v4 φ
def G_X9_deletes (N : Nat) (φ : M2) (p1 : Int32) (p2 : Int32) : Option (Int32 × M2) :=
  obd (G_X9_placeOf N φ p1) fun r1 =>
  oin 1042 1163 <|
  oin 1042 1163 <|
  olet (upd2 φ 1 (1042 : Int32).toNatClampNeg (((φ 1 (1042 : Int32).toNatClampNeg) - 1))) fun w5 =>
  olet ((1043 + p2)) fun x6 =>
  obd (L_X9_deletes_25 N r1 N x6 w5) fun w11 =>
  if r1 < 1000 then (
  if r1 = (-1) then (
  obd2 (G_X9_leave N w11) fun r15 w13 =>
  some ((r15, w13))
  ) else (
  obd (G_X9_put w11 ((r1 / 4)) ((irm r1 4)) ((-1)) ((-1)) ((-1)) ((-1))) fun w16 =>
  obd2 (G_X9_leave N w16) fun r20 w18 =>
  some ((r20, w18)))
  ) else (
  obd (G_X9_dropStash N w11 ((r1 - 1000))) fun w21 =>
  obd2 (G_X9_leave N w21) fun r25 w23 =>
  some ((r25, w23)))
def B_X9_shortest_5 (N : Nat) (φ : M2) (rec : Int32 → Int32 → Option Int32) (v1 : Int32) (v2 : Int32) : Option Int32 :=
  if 1042 ≤ v2 then (
  some v1
  ) else (
  oin v2 1163 <|
  if (φ 1 v2.toNatClampNeg) = (-1) then (
  rec v1 (v2 + 4)
  ) else (
  if v1 = (-1) then (
  oin ((v2 + 1)) 1163 <|
  olet ((φ 1 ((v2 + 1)).toNatClampNeg)) fun x3 =>
  rec x3 (v2 + 4)
  ) else (
  oin ((v2 + 1)) 1163 <|
  if v1 ≤ (φ 1 ((v2 + 1)).toNatClampNeg) then (
  rec v1 (v2 + 4)
  ) else (
  oin ((v2 + 1)) 1163 <|
  olet ((φ 1 ((v2 + 1)).toNatClampNeg)) fun x6 =>
  rec x6 (v2 + 4)))))
def L_X9_shortest_5 (N : Nat) (φ : M2) : Nat → Int32 → Int32 → Option Int32
  | 0, _, _ => none
  | k + 1, v1, v2 => B_X9_shortest_5 N φ (L_X9_shortest_5 N φ k) v1 v2
def J_X9_shortest_92_60 (rec : Int32 → Int32 → Option Int32) (N : Nat) (φ : M2) (v2 : Int32) : Option Int32 :=
  oin (((6 + (4 * v2)) + 1)) 1163 <|
  olet ((φ 1 (((6 + (4 * v2)) + 1)).toNatClampNeg)) fun x11 =>
  rec x11 (v2 + 1)
def B_X9_shortest_60 (N : Nat) (φ : M2) (rec : Int32 → Int32 → Option Int32) (v1 : Int32) (v2 : Int32) : Option Int32 :=
  oin 5 1163 <|
  if (φ 1 (5 : Int32).toNatClampNeg) ≤ v2 then (
  some v1
  ) else (
  if v1 = (-1) then (
  J_X9_shortest_92_60 rec N φ v2
  ) else (
  oin (((6 + (4 * v2)) + 1)) 1163 <|
  if v1 ≤ (φ 1 (((6 + (4 * v2)) + 1)).toNatClampNeg) then (
  rec v1 (v2 + 1)
  ) else (
  J_X9_shortest_92_60 rec N φ v2)))
def L_X9_shortest_60 (N : Nat) (φ : M2) : Nat → Int32 → Int32 → Option Int32
  | 0, _, _ => none
  | k + 1, v1, v2 => B_X9_shortest_60 N φ (L_X9_shortest_60 N φ k) v1 v2
def G_X9_shortest (N : Nat) (φ : M2) : Option Int32 :=
  obd (L_X9_shortest_5 N φ N ((-1)) 18) fun y7 =>
  obd (L_X9_shortest_60 N φ N y7 0) fun y13 =>
  some y13
def G_X9_mayGrow (N : Nat) (φ : M2) : Option Int32 :=
  oin 0 1163 <|
  if 6 ≤ (φ 1 (0 : Int32).toNatClampNeg) then (
  some 0
  ) else (
  obd (G_X9_shortest N φ) fun r2 =>
  if r2 = 0 then (
  some 0
  ) else (
  some 1))
def B_X9_grows_9 (N : Nat) (v1 : Int32) (rec : Int32 → M2 → Option M2) (v2 : Int32) (φ : M2) : Option M2 :=
  if 1024 ≤ v2 then (
  some φ
  ) else (
  oin ((18 + v2)) 1163 <|
  oin v2 1024 <|
  olet (upd2 φ 6 v2.toNatClampNeg ((φ 1 ((18 + v2)).toNatClampNeg))) fun w5 =>
  oin ((18 + v2)) 1163 <|
  olet (upd2 w5 1 ((18 + v2)).toNatClampNeg ((-1))) fun w7 =>
  rec (v2 + 1) w7)
def L_X9_grows_9 (N : Nat) (v1 : Int32) : Nat → Int32 → M2 → Option M2
  | 0, _, _ => none
  | k + 1, v2, φ => B_X9_grows_9 N v1 (L_X9_grows_9 N v1 k) v2 φ
def J_X9_grows_159_59 (rec : Int32 → M2 → Option M2) (N : Nat) (φ : M2) (v1 : Int32) (v2 : Int32) (v3 : Int32) (v4 : Int32) (s0 : Int32) : Option M2 :=
  oin ((v3 + 1)) 1024 <|
  oin ((v3 + 2)) 1024 <|
  oin ((v3 + 3)) 1024 <|
  obd (G_X9_put φ s0 ((irm v2 4)) v4 (((φ 6 ((v3 + 1)).toNatClampNeg) - 1)) (((φ 6 ((v3 + 2)).toNatClampNeg) / 2)) ((φ 6 ((v3 + 3)).toNatClampNeg))) fun w29 =>
  rec (v2 + 1) w29
def J_X9_grows_114_59 (rec : Int32 → M2 → Option M2) (N : Nat) (φ : M2) (v1 : Int32) (v2 : Int32) (v3 : Int32) (v4 : Int32) (s0 : Int32) : Option M2 :=
  oin ((v3 + 2)) 1024 <|
  olet ((s0 + ((irm ((φ 6 ((v3 + 2)).toNatClampNeg)) 2) <<< (v1 &&& 31)))) fun x21 =>
  oin ((v3 + 3)) 1024 <|
  if (φ 6 ((v3 + 3)).toNatClampNeg) = 0 then (
  J_X9_grows_159_59 rec N φ v1 v2 v3 v4 x21
  ) else (
  oin 0 1163 <|
  obd (G_X9_stepOf v4 ((φ 1 (0 : Int32).toNatClampNeg))) fun r24 =>
  J_X9_grows_159_59 rec N φ v1 v2 v3 v4 ((x21 ^^^ r24)))
def B_X9_grows_59 (N : Nat) (v1 : Int32) (rec : Int32 → M2 → Option M2) (v2 : Int32) (φ : M2) : Option M2 :=
  if 256 ≤ v2 then (
  some φ
  ) else (
  olet ((4 * v2)) fun x13 =>
  oin x13 1024 <|
  olet ((φ 6 x13.toNatClampNeg)) fun x15 =>
  if x15 = (-1) then (
  rec (v2 + 1) φ
  ) else (
  olet ((v2 / 4)) fun x16 =>
  oin ((x13 + 3)) 1024 <|
  if (φ 6 ((x13 + 3)).toNatClampNeg) = 0 then (
  J_X9_grows_114_59 rec N φ v1 v2 x13 x15 x16
  ) else (
  obd (G_X9_stepOf x15 v1) fun r18 =>
  J_X9_grows_114_59 rec N φ v1 v2 x13 x15 ((x16 ^^^ r18)))))
def L_X9_grows_59 (N : Nat) (v1 : Int32) : Nat → Int32 → M2 → Option M2
  | 0, _, _ => none
  | k + 1, v2, φ => B_X9_grows_59 N v1 (L_X9_grows_59 N v1 k) v2 φ
def B_X9_grows_208 (N : Nat) (v1 : Int32) (rec : Int32 → M2 → Option M2) (v2 : Int32) (φ : M2) : Option M2 :=
  oin 5 1163 <|
  if (φ 1 (5 : Int32).toNatClampNeg) ≤ v2 then (
  some φ
  ) else (
  olet ((6 + (4 * v2))) fun x34 =>
  oin ((x34 + 3)) 1163 <|
  oin ((x34 + 2)) 1163 <|
  oin ((x34 + 3)) 1163 <|
  olet (upd2 φ 1 ((x34 + 3)).toNatClampNeg (((φ 1 ((x34 + 3)).toNatClampNeg) + ((irm ((φ 1 ((x34 + 2)).toNatClampNeg)) 2) <<< (v1 &&& 31))))) fun w38 =>
  oin ((x34 + 1)) 1163 <|
  oin ((x34 + 1)) 1163 <|
  olet (upd2 w38 1 ((x34 + 1)).toNatClampNeg (((w38 1 ((x34 + 1)).toNatClampNeg) - 1))) fun w41 =>
  oin ((x34 + 2)) 1163 <|
  oin ((x34 + 2)) 1163 <|
  olet (upd2 w41 1 ((x34 + 2)).toNatClampNeg (((w41 1 ((x34 + 2)).toNatClampNeg) / 2))) fun w44 =>
  rec (v2 + 1) w44)
def L_X9_grows_208 (N : Nat) (v1 : Int32) : Nat → Int32 → M2 → Option M2
  | 0, _, _ => none
  | k + 1, v2, φ => B_X9_grows_208 N v1 (L_X9_grows_208 N v1 k) v2 φ
def G_X9_grows (N : Nat) (φ : M2) : Option M2 :=
  oin 0 1163 <|
  olet ((φ 1 (0 : Int32).toNatClampNeg)) fun x2 =>
  obd (L_X9_grows_9 N x2 N 0 φ) fun w8 =>
  oin 0 1163 <|
  oin 0 1163 <|
  olet (upd2 w8 1 (0 : Int32).toNatClampNeg (((w8 1 (0 : Int32).toNatClampNeg) + 1))) fun w12 =>
  obd (L_X9_grows_59 N x2 N 0 w12) fun w31 =>
  obd (L_X9_grows_208 N x2 N 0 w31) fun w45 =>
  obd2 (G_X9_leave N w45) fun r49 w47 =>
  some w47
def B_X9_rebuilds_36 (N : Nat) (rec : Int32 → M2 → Option (Int32 × M2)) (v5 : Int32) (φ : M2) : Option (Int32 × M2) :=
  oin 1042 1163 <|
  if (φ 1 (1042 : Int32).toNatClampNeg) ≤ v5 then (
  some ((1, φ))
  ) else (
  oin ((1043 + v5)) 1163 <|
  obd2 (G_X9_addEntry N φ ((φ 1 ((1043 + v5)).toNatClampNeg))) fun r15 w13 =>
  if r15 = (-1) then (
  some ((0, w13))
  ) else (
  rec (v5 + 1) w13))
def L_X9_rebuilds_36 (N : Nat) : Nat → Int32 → M2 → Option (Int32 × M2)
  | 0, _, _ => none
  | k + 1, v5, φ => B_X9_rebuilds_36 N (L_X9_rebuilds_36 N k) v5 φ
def G_X9_rebuilds (N : Nat) (φ : M2) (p1 : Int32) (p2 : Int32) (p3 : Int32) (p4 : Int32) : Option (Int32 × M2) :=
  oin 0 1163 <|
  olet (upd2 φ 1 (0 : Int32).toNatClampNeg p1) fun w2 =>
  oin 1 1163 <|
  olet (upd2 w2 1 (1 : Int32).toNatClampNeg p2) fun w4 =>
  oin 2 1163 <|
  olet (upd2 w4 1 (2 : Int32).toNatClampNeg p3) fun w6 =>
  oin 3 1163 <|
  olet (upd2 w6 1 (3 : Int32).toNatClampNeg p4) fun w8 =>
  obd (G_X9_empties N w8) fun w9 =>
  L_X9_rebuilds_36 N N 0 w9
def G_X9_tag (φ : M2) (p1 : Int32) : Option (Int32 × M2) :=
  olet (G_X9_isKey p1) fun r1 =>
  if r1 = 0 then (
  olet (upd2 φ 0 5 1) fun w2 =>
  if (w2 0 5) = 0 then (
  obd (G_X9_tagOf w2 p1) fun r3 =>
  some ((r3, w2))
  ) else (
  some ((0, w2)))
  ) else (
  olet (upd2 φ 0 5 0) fun w5 =>
  if (w5 0 5) = 0 then (
  obd (G_X9_tagOf w5 p1) fun r6 =>
  some ((r6, w5))
  ) else (
  some ((0, w5))))
def G_X9_body (φ : M2) (p1 : Int32) : Option (Int32 × M2) :=
  olet (G_X9_isKey p1) fun r1 =>
  if r1 = 0 then (
  olet (upd2 φ 0 5 1) fun w2 =>
  if (w2 0 5) = 0 then (
  obd (G_X9_bodyOf w2 p1) fun r3 =>
  some ((r3, w2))
  ) else (
  some ((0, w2)))
  ) else (
  olet (upd2 φ 0 5 0) fun w5 =>
  if (w5 0 5) = 0 then (
  obd (G_X9_bodyOf w5 p1) fun r6 =>
  some ((r6, w5))
  ) else (
  some ((0, w5))))
def J_X9_bucket_13 (φ : M2) (v1 : Int32) (v2 : Int32) (s0 : Int32) : Option (Int32 × M2) :=
  olet (upd2 φ 0 5 s0) fun w2 =>
  if (w2 0 5) = 0 then (
  if v2 = 0 then (
  obd (G_X9_homeOf w2 v1) fun r3 =>
  some ((r3, w2))
  ) else (
  obd (G_X9_otherOf w2 v1) fun r5 =>
  some ((r5, w2)))
  ) else (
  some ((0, w2)))
def G_X9_bucket (φ : M2) (p1 : Int32) (p2 : Int32) : Option (Int32 × M2) :=
  olet (G_X9_isKey p1) fun r1 =>
  if r1 = 0 then (
  J_X9_bucket_13 φ p1 p2 1
  ) else (
  J_X9_bucket_13 φ p1 p2 0)
def J_X9_found_13 (N : Nat) (φ : M2) (v1 : Int32) (s0 : Int32) : Option (Int32 × M2) :=
  olet (upd2 φ 0 5 s0) fun w2 =>
  if (w2 0 5) = 0 then (
  obd (G_X9_placeOf N w2 v1) fun r3 =>
  if r3 = (-1) then (
  some ((0, w2))
  ) else (
  some ((1, w2)))
  ) else (
  some ((0, w2)))
def G_X9_found (N : Nat) (φ : M2) (p1 : Int32) : Option (Int32 × M2) :=
  olet (G_X9_isKey p1) fun r1 =>
  if r1 = 0 then (
  J_X9_found_13 N φ p1 1
  ) else (
  J_X9_found_13 N φ p1 0)
def G_X9_place (N : Nat) (φ : M2) (p1 : Int32) : Option (Int32 × M2) :=
  olet (G_X9_isKey p1) fun r1 =>
  if r1 = 0 then (
  olet (upd2 φ 0 5 1) fun w2 =>
  if (w2 0 5) = 0 then (
  obd (G_X9_placeOf N w2 p1) fun r3 =>
  some ((r3, w2))
  ) else (
  some ((0, w2)))
  ) else (
  olet (upd2 φ 0 5 0) fun w5 =>
  if (w5 0 5) = 0 then (
  obd (G_X9_placeOf N w5 p1) fun r6 =>
  some ((r6, w5))
  ) else (
  some ((0, w5))))
def J_X9_present_24 (φ : M2) (v1 : Int32) (s0 : Int32) : Option (Int32 × M2) :=
  olet (upd2 φ 0 5 s0) fun w3 =>
  if (w3 0 5) = 0 then (
  oin ((1043 + v1)) 1163 <|
  some (((w3 1 ((1043 + v1)).toNatClampNeg), w3))
  ) else (
  some ((0, w3)))
def G_X9_present (φ : M2) (p1 : Int32) : Option (Int32 × M2) :=
  oin 1042 1163 <|
  olet (G_X9_in p1 0 (((φ 1 (1042 : Int32).toNatClampNeg) - 1))) fun r2 =>
  if r2 = 0 then (
  J_X9_present_24 φ p1 1
  ) else (
  J_X9_present_24 φ p1 0)
def G_X9_count (φ : M2) : Option (Int32 × M2) :=
  olet (upd2 φ 0 5 0) fun w1 =>
  oin 1042 1163 <|
  some (((w1 1 (1042 : Int32).toNatClampNeg), w1))
def G_X9_tryAdd (N : Nat) (φ : M2) (p1 : Int32) : Option (Int32 × M2) :=
  obd (G_X9_mayAdd N φ p1) fun r1 =>
  if r1 = 0 then (
  some (((-1), φ))
  ) else (
  obd2 (G_X9_addEntry N φ p1) fun r5 w3 =>
  if r5 = (-1) then (
  some ((r5, w3))
  ) else (
  obd (G_X9_noteKey w3 p1) fun w6 =>
  some ((r5, w6))))
def B_X9_keepAside_6 (N : Nat) (v1 : Int32) (rec : Int32 → M2 → Option M2) (v2 : Int32) (φ : M2) : Option M2 :=
  if 1163 ≤ v2 then (
  some φ
  ) else (
  oin (((1163 * v1) + v2)) 6978 <|
  oin (((1163 * (φ 0 2)) + v2)) 6978 <|
  olet (upd2 φ 2 (((1163 * (φ 0 2)) + v2)).toNatClampNeg ((φ 2 (((1163 * v1) + v2)).toNatClampNeg))) fun w5 =>
  rec (v2 + 1) w5)
def L_X9_keepAside_6 (N : Nat) (v1 : Int32) : Nat → Int32 → M2 → Option M2
  | 0, _, _ => none
  | k + 1, v2, φ => B_X9_keepAside_6 N v1 (L_X9_keepAside_6 N v1 k) v2 φ
def G_X9_keepAside (N : Nat) (φ : M2) (p1 : Int32) : Option M2 :=
  obd (G_X9_makeRoom N φ) fun w1 =>
  obd (L_X9_keepAside_6 N p1 N 0 w1) fun w6 =>
  olet (upd2 w6 0 2 (((w6 0 2) + 1))) fun w8 =>
  some w8
def J_X9_add_13 (N : Nat) (φ : M2) (v1 : Int32) (s0 : Int32) : Option (Int32 × M2) :=
  olet (upd2 φ 0 5 s0) fun w2 =>
  if (w2 0 5) = 0 then (
  obd (G_X9_copy N w2 4) fun w3 =>
  obd2 (G_X9_tryAdd N w3 v1) fun r7 w5 =>
  if r7 = (-1) then (
  obd (G_X9_layBack N w5 4) fun w10 =>
  olet (upd2 w10 0 5 2) fun w12 =>
  some ((0, w12))
  ) else (
  obd (G_X9_keepAside N w5 4) fun w8 =>
  some ((r7, w8)))
  ) else (
  some ((0, w2)))
def G_X9_add (N : Nat) (φ : M2) (p1 : Int32) : Option (Int32 × M2) :=
  olet (G_X9_isKey p1) fun r1 =>
  if r1 = 0 then (
  J_X9_add_13 N φ p1 1
  ) else (
  J_X9_add_13 N φ p1 0)
def J_X9_addShortest_42 (N : Nat) (φ : M2) (v1 : Int32) (s0 : Int32) : Option (Int32 × M2) :=
  if s0 = (-1) then (
  olet (upd2 φ 0 5 2) fun w12 =>
  some ((0, w12))
  ) else (
  obd (G_X9_keep N φ) fun w5 =>
  obd (G_X9_moveChain N w5 v1 s0) fun w7 =>
  obd (G_X9_noteKey w7 v1) fun w9 =>
  oin s0 64 <|
  some (((w9 8 s0.toNatClampNeg), w9)))
def J_X9_addShortest_13 (N : Nat) (φ : M2) (v1 : Int32) (s0 : Int32) : Option (Int32 × M2) :=
  olet (upd2 φ 0 5 s0) fun w2 =>
  if (w2 0 5) = 0 then (
  obd (G_X9_mayAdd N w2 v1) fun r3 =>
  if r3 = 0 then (
  J_X9_addShortest_42 N w2 v1 ((-1))
  ) else (
  obd2 (G_X9_endOfChain N w2 v1) fun r15 w13 =>
  J_X9_addShortest_42 N w13 v1 r15)
  ) else (
  some ((0, w2)))
def G_X9_addShortest (N : Nat) (φ : M2) (p1 : Int32) : Option (Int32 × M2) :=
  olet (G_X9_isKey p1) fun r1 =>
  if r1 = 0 then (
  J_X9_addShortest_13 N φ p1 1
  ) else (
  J_X9_addShortest_13 N φ p1 0)
def J_X9_delete_26 (N : Nat) (φ : M2) (v1 : Int32) (s0 : Int32) : Option (Int32 × M2) :=
  olet (upd2 φ 0 5 s0) fun w4 =>
  if (w4 0 5) = 0 then (
  obd (G_X9_keep N w4) fun w5 =>
  obd (G_X9_indexOf N w5 v1) fun r7 =>
  obd2 (G_X9_deletes N w5 v1 r7) fun r11 w9 =>
  some ((r11, w9))
  ) else (
  some ((0, w4)))
def G_X9_delete (N : Nat) (φ : M2) (p1 : Int32) : Option (Int32 × M2) :=
  olet (G_X9_isKey p1) fun r1 =>
  if r1 = 0 then (
  J_X9_delete_26 N φ p1 1
  ) else (
  obd (G_X9_indexOf N φ p1) fun r2 =>
  if r2 = (-1) then (
  J_X9_delete_26 N φ p1 2
  ) else (
  J_X9_delete_26 N φ p1 0))
def J_X9_grow_13 (N : Nat) (φ : M2) (s0 : Int32) : Option (Int32 × M2) :=
  olet (upd2 φ 0 5 s0) fun w3 =>
  if (w3 0 5) = 0 then (
  obd (G_X9_keep N w3) fun w4 =>
  obd (G_X9_grows N w4) fun w6 =>
  obd (G_X9_buckets w6) fun r8 =>
  some ((r8, w6))
  ) else (
  some ((0, w3)))
def G_X9_grow (N : Nat) (φ : M2) : Option (Int32 × M2) :=
  obd (G_X9_mayGrow N φ) fun r1 =>
  if r1 = 0 then (
  J_X9_grow_13 N φ 1
  ) else (
  J_X9_grow_13 N φ 0)
def G_X9_areNumbers (p0 : Int32) (p1 : Int32) (p2 : Int32) (p3 : Int32) : Int32 :=
  olet (G_X9_in p0 1 6) fun r1 =>
  if r1 = 0 then (
  0
  ) else (
  olet (G_X9_in p1 1 4) fun r2 =>
  if r2 = 0 then (
  0
  ) else (
  olet (G_X9_in p2 1 8) fun r3 =>
  if r3 = 0 then (
  0
  ) else (
  olet (G_X9_in p3 0 99) fun r4 =>
  if r4 = 0 then (
  0
  ) else (
  1))))
def J_X9_rebuild_17 (N : Nat) (φ : M2) (v1 : Int32) (v2 : Int32) (v3 : Int32) (v4 : Int32) (s0 : Int32) : Option (Int32 × M2) :=
  olet (upd2 φ 0 5 s0) fun w2 =>
  if (w2 0 5) = 0 then (
  obd (G_X9_copy N w2 4) fun w3 =>
  obd2 (G_X9_rebuilds N w3 v1 v2 v3 v4) fun r7 w5 =>
  if r7 = 0 then (
  obd (G_X9_layBack N w5 4) fun w11 =>
  olet (upd2 w11 0 5 2) fun w13 =>
  some ((0, w13))
  ) else (
  obd (G_X9_keepAside N w5 4) fun w8 =>
  oin 5 1163 <|
  some (((w8 1 (5 : Int32).toNatClampNeg), w8)))
  ) else (
  some ((0, w2)))
def G_X9_rebuild (N : Nat) (φ : M2) (p1 : Int32) (p2 : Int32) (p3 : Int32) (p4 : Int32) : Option (Int32 × M2) :=
  olet (G_X9_areNumbers p1 p2 p3 p4) fun r1 =>
  if r1 = 0 then (
  J_X9_rebuild_17 N φ p1 p2 p3 p4 1
  ) else (
  J_X9_rebuild_17 N φ p1 p2 p3 p4 0)
def J_X9_setLimit_16 (N : Nat) (φ : M2) (v1 : Int32) (s0 : Int32) : Option (Int32 × M2) :=
  olet (upd2 φ 0 5 s0) fun w2 =>
  if (w2 0 5) = 0 then (
  obd (G_X9_keep N w2) fun w3 =>
  oin 4 1163 <|
  olet ((w3 1 (4 : Int32).toNatClampNeg)) fun x6 =>
  oin 4 1163 <|
  olet (upd2 w3 1 (4 : Int32).toNatClampNeg v1) fun w8 =>
  some ((x6, w8))
  ) else (
  some ((0, w2)))
def G_X9_setLimit (N : Nat) (φ : M2) (p1 : Int32) : Option (Int32 × M2) :=
  olet (G_X9_in p1 0 50) fun r1 =>
  if r1 = 0 then (
  J_X9_setLimit_16 N φ p1 1
  ) else (
  J_X9_setLimit_16 N φ p1 0)
def J_X9_setLength_16 (N : Nat) (φ : M2) (v1 : Int32) (s0 : Int32) : Option (Int32 × M2) :=
  olet (upd2 φ 0 5 s0) fun w2 =>
  if (w2 0 5) = 0 then (
  obd (G_X9_keep N w2) fun w3 =>
  oin 2 1163 <|
  olet ((w3 1 (2 : Int32).toNatClampNeg)) fun x6 =>
  oin 2 1163 <|
  olet (upd2 w3 1 (2 : Int32).toNatClampNeg v1) fun w8 =>
  some ((x6, w8))
  ) else (
  some ((0, w2)))
def G_X9_setLength (N : Nat) (φ : M2) (p1 : Int32) : Option (Int32 × M2) :=
  olet (G_X9_in p1 1 8) fun r1 =>
  if r1 = 0 then (
  J_X9_setLength_16 N φ p1 1
  ) else (
  J_X9_setLength_16 N φ p1 0)
def G_X9_clear (N : Nat) (φ : M2) : Option (Int32 × M2) :=
  olet (upd2 φ 0 5 0) fun w1 =>
  obd (G_X9_keep N w1) fun w2 =>
  oin 1042 1163 <|
  olet ((w2 1 (1042 : Int32).toNatClampNeg)) fun x5 =>
  oin 1042 1163 <|
  olet (upd2 w2 1 (1042 : Int32).toNatClampNeg 0) fun w7 =>
  obd (G_X9_empties N w7) fun w8 =>
  some ((x5, w8))
def B_X9_entries_4 (N : Nat) (φ : M2) (v1 : Int32) (rec : Int32 → Int32 → Option Int32) (v2 : Int32) (v3 : Int32) : Option Int32 :=
  if 4 ≤ v3 then (
  some v2
  ) else (
  obd (G_X9_isEmpty φ v1 v3) fun r1 =>
  if r1 = 0 then (
  olet ((v2 + 1)) fun x3 =>
  rec x3 (v3 + 1)
  ) else (
  olet ((v2 + 0)) fun x4 =>
  rec x4 (v3 + 1)))
def L_X9_entries_4 (N : Nat) (φ : M2) (v1 : Int32) : Nat → Int32 → Int32 → Option Int32
  | 0, _, _ => none
  | k + 1, v2, v3 => B_X9_entries_4 N φ v1 (L_X9_entries_4 N φ v1 k) v2 v3
def G_X9_entries (N : Nat) (φ : M2) (p1 : Int32) : Option Int32 :=
  obd (L_X9_entries_4 N φ p1 N 0 0) fun y5 =>
  some y5
def B_X9_infoOf_61 (N : Nat) (φ : M2) (rec : Int32 → Int32 → Option Int32) (v2 : Int32) (v3 : Int32) : Option Int32 :=
  if 64 ≤ v3 then (
  some v2
  ) else (
  obd (G_X9_entries N φ v3) fun r7 =>
  olet ((v2 + r7)) fun x9 =>
  rec x9 (v3 + 1))
def L_X9_infoOf_61 (N : Nat) (φ : M2) : Nat → Int32 → Int32 → Option Int32
  | 0, _, _ => none
  | k + 1, v2, v3 => B_X9_infoOf_61 N φ (L_X9_infoOf_61 N φ k) v2 v3
def G_X9_infoOf (N : Nat) (φ : M2) (p1 : Int32) : Option Int32 :=
  if p1 = 0 then (
  obd (G_X9_buckets φ) fun r1 =>
  some r1
  ) else (
  if p1 = 1 then (
  oin p1 1163 <|
  some ((φ 1 p1.toNatClampNeg))
  ) else (
  if p1 = 2 then (
  oin p1 1163 <|
  some ((φ 1 p1.toNatClampNeg))
  ) else (
  if p1 = 3 then (
  oin p1 1163 <|
  some ((φ 1 p1.toNatClampNeg))
  ) else (
  if p1 = 4 then (
  oin p1 1163 <|
  some ((φ 1 p1.toNatClampNeg))
  ) else (
  if p1 = 5 then (
  obd (L_X9_infoOf_61 N φ N 0 0) fun y10 =>
  some y10
  ) else (
  if p1 = 6 then (
  oin 5 1163 <|
  some ((φ 1 (5 : Int32).toNatClampNeg))
  ) else (
  if p1 = 7 then (
  obd (G_X9_shortest N φ) fun r13 =>
  some r13
  ) else (
  if p1 = 8 then (
  obd (G_X9_mayGrow N φ) fun r15 =>
  if r15 = 0 then (
  some 0
  ) else (
  some 1)
  ) else (
  oin p1 1163 <|
  some ((φ 1 p1.toNatClampNeg)))))))))))
def G_X9_info (N : Nat) (φ : M2) (p1 : Int32) : Option (Int32 × M2) :=
  olet (G_X9_in p1 0 8) fun r1 =>
  if r1 = 0 then (
  olet (upd2 φ 0 5 1) fun w2 =>
  if (w2 0 5) = 0 then (
  obd (G_X9_infoOf N w2 p1) fun r3 =>
  some ((r3, w2))
  ) else (
  some ((0, w2)))
  ) else (
  olet (upd2 φ 0 5 0) fun w5 =>
  if (w5 0 5) = 0 then (
  obd (G_X9_infoOf N w5 p1) fun r6 =>
  some ((r6, w5))
  ) else (
  some ((0, w5))))
def G_X9_isSlot (φ : M2) (p1 : Int32) (p2 : Int32) : Option Int32 :=
  obd (G_X9_buckets φ) fun r1 =>
  olet (G_X9_in p1 0 ((r1 - 1))) fun r3 =>
  if r3 = 0 then (
  some 0
  ) else (
  oin 1 1163 <|
  olet (G_X9_in p2 0 (((φ 1 (1 : Int32).toNatClampNeg) - 1))) fun r5 =>
  if r5 = 0 then (
  some 0
  ) else (
  some 1))
def J_X9_slot_28 (φ : M2) (v1 : Int32) (v2 : Int32) (v3 : Int32) (s0 : Int32) : Option (Int32 × M2) :=
  olet (upd2 φ 0 5 s0) fun w4 =>
  if (w4 0 5) = 0 then (
  olet (G_X9_at v1 v2) fun r5 =>
  oin ((r5 + v3)) 1163 <|
  some (((w4 1 ((r5 + v3)).toNatClampNeg), w4))
  ) else (
  some ((0, w4)))
def G_X9_slot (φ : M2) (p1 : Int32) (p2 : Int32) (p3 : Int32) : Option (Int32 × M2) :=
  obd (G_X9_isSlot φ p1 p2) fun r1 =>
  if r1 = 0 then (
  J_X9_slot_28 φ p1 p2 p3 1
  ) else (
  olet (G_X9_in p3 0 3) fun r3 =>
  if r3 = 0 then (
  J_X9_slot_28 φ p1 p2 p3 2
  ) else (
  J_X9_slot_28 φ p1 p2 p3 0))
def J_X9_stashed_35 (φ : M2) (v1 : Int32) (v2 : Int32) (s0 : Int32) : Option (Int32 × M2) :=
  olet (upd2 φ 0 5 s0) fun w4 =>
  if (w4 0 5) = 0 then (
  oin (((6 + (4 * v1)) + v2)) 1163 <|
  some (((w4 1 (((6 + (4 * v1)) + v2)).toNatClampNeg), w4))
  ) else (
  some ((0, w4)))
def G_X9_stashed (φ : M2) (p1 : Int32) (p2 : Int32) : Option (Int32 × M2) :=
  oin 5 1163 <|
  olet (G_X9_in p1 0 (((φ 1 (5 : Int32).toNatClampNeg) - 1))) fun r2 =>
  if r2 = 0 then (
  J_X9_stashed_35 φ p1 p2 1
  ) else (
  olet (G_X9_in p2 0 3) fun r3 =>
  if r3 = 0 then (
  J_X9_stashed_35 φ p1 p2 2
  ) else (
  J_X9_stashed_35 φ p1 p2 0))
def B_X9_filled_31 (N : Nat) (φ : M2) (v1 : Int32) (rec : Int32 → Int32 → Option Int32) (v2 : Int32) (v3 : Int32) : Option Int32 :=
  obd (G_X9_buckets φ) fun r3 =>
  if r3 ≤ v3 then (
  some v2
  ) else (
  obd (G_X9_entries N φ v3) fun r5 =>
  if r5 = v1 then (
  olet ((v2 + 1)) fun x8 =>
  rec x8 (v3 + 1)
  ) else (
  olet ((v2 + 0)) fun x7 =>
  rec x7 (v3 + 1)))
def L_X9_filled_31 (N : Nat) (φ : M2) (v1 : Int32) : Nat → Int32 → Int32 → Option Int32
  | 0, _, _ => none
  | k + 1, v2, v3 => B_X9_filled_31 N φ v1 (L_X9_filled_31 N φ v1 k) v2 v3
def G_X9_filled (N : Nat) (φ : M2) (p1 : Int32) : Option (Int32 × M2) :=
  olet (G_X9_in p1 0 4) fun r1 =>
  if r1 = 0 then (
  olet (upd2 φ 0 5 1) fun w2 =>
  if (w2 0 5) = 0 then (
  obd (L_X9_filled_31 N w2 p1 N 0 0) fun y9 =>
  some ((y9, w2))
  ) else (
  some ((0, w2)))
  ) else (
  olet (upd2 φ 0 5 0) fun w11 =>
  if (w11 0 5) = 0 then (
  obd (L_X9_filled_31 N w11 p1 N 0 0) fun y12 =>
  some ((y12, w11))
  ) else (
  some ((0, w11))))
def G_X9_wouldAdd (N : Nat) (φ : M2) (p1 : Int32) : Option (Int32 × M2) :=
  obd (G_X9_copy N φ 4) fun w1 =>
  obd2 (G_X9_addEntry N w1 p1) fun r5 w3 =>
  obd (G_X9_layBack N w3 4) fun w6 =>
  some ((r5, w6))
def G_X9_walk (N : Nat) (φ : M2) (p1 : Int32) : Option (Int32 × M2) :=
  olet (G_X9_isKey p1) fun r1 =>
  if r1 = 0 then (
  olet (upd2 φ 0 5 1) fun w2 =>
  if (w2 0 5) = 0 then (
  obd2 (G_X9_wouldAdd N w2 p1) fun r5 w3 =>
  some ((r5, w3))
  ) else (
  some ((0, w2)))
  ) else (
  olet (upd2 φ 0 5 0) fun w6 =>
  if (w6 0 5) = 0 then (
  obd2 (G_X9_wouldAdd N w6 p1) fun r9 w7 =>
  some ((r9, w7))
  ) else (
  some ((0, w6))))
def J_X9_walkStep_13 (N : Nat) (φ : M2) (v1 : Int32) (v2 : Int32) (v3 : Int32) (s0 : Int32) : Option (Int32 × M2) :=
  olet (upd2 φ 0 5 s0) fun w2 =>
  if (w2 0 5) = 0 then (
  obd2 (G_X9_wouldAdd N w2 v1) fun r5 w3 =>
  olet (G_X9_in v2 0 (((w3 0 12) - 1))) fun r6 =>
  if r6 = 0 then (
  some (((-1), w3))
  ) else (
  if v3 = 0 then (
  oin v2 50 <|
  some (((w3 4 v2.toNatClampNeg), w3))
  ) else (
  oin v2 50 <|
  some (((w3 5 v2.toNatClampNeg), w3))))
  ) else (
  some ((0, w2)))
def G_X9_walkStep (N : Nat) (φ : M2) (p1 : Int32) (p2 : Int32) (p3 : Int32) : Option (Int32 × M2) :=
  olet (G_X9_isKey p1) fun r1 =>
  if r1 = 0 then (
  J_X9_walkStep_13 N φ p1 p2 p3 1
  ) else (
  J_X9_walkStep_13 N φ p1 p2 p3 0)
def J_X9_leastMoves_13 (N : Nat) (φ : M2) (v1 : Int32) (s0 : Int32) : Option (Int32 × M2) :=
  olet (upd2 φ 0 5 s0) fun w2 =>
  if (w2 0 5) = 0 then (
  obd2 (G_X9_endOfChain N w2 v1) fun r5 w3 =>
  if r5 = (-1) then (
  some (((-1), w3))
  ) else (
  oin r5 64 <|
  some (((w3 8 r5.toNatClampNeg), w3)))
  ) else (
  some ((0, w2)))
def G_X9_leastMoves (N : Nat) (φ : M2) (p1 : Int32) : Option (Int32 × M2) :=
  olet (G_X9_isKey p1) fun r1 =>
  if r1 = 0 then (
  J_X9_leastMoves_13 N φ p1 1
  ) else (
  J_X9_leastMoves_13 N φ p1 0)
def G_X9_isRange (p0 : Int32) (p1 : Int32) : Int32 :=
  olet (G_X9_isKey p0) fun r1 =>
  if r1 = 0 then (
  0
  ) else (
  olet (G_X9_isKey p1) fun r2 =>
  if r2 = 0 then (
  0
  ) else (
  if p1 < p0 then (
  0
  ) else (
  1)))
def B_X9_roomFor_39 (N : Nat) (v2 : Int32) (rec : Int32 → Int32 → Int32 → M2 → Option (Int32 × M2)) (v3 : Int32) (v4 : Int32) (v5 : Int32) (φ : M2) : Option (Int32 × M2) :=
  if v2 < v5 then (
  some ((v3, φ))
  ) else (
  if v4 = 0 then (
  some ((v3, φ))
  ) else (
  obd (G_X9_indexOf N φ v5) fun r5 =>
  if r5 = (-1) then (
  obd2 (G_X9_tryAdd N φ v5) fun r9 w7 =>
  if r9 = (-1) then (
  olet ((v3 + 0)) fun x10 =>
  rec x10 0 (v5 + 1) w7
  ) else (
  olet ((v3 + 1)) fun x11 =>
  rec x11 1 (v5 + 1) w7)
  ) else (
  rec v3 v4 (v5 + 1) φ)))
def L_X9_roomFor_39 (N : Nat) (v2 : Int32) : Nat → Int32 → Int32 → Int32 → M2 → Option (Int32 × M2)
  | 0, _, _, _, _ => none
  | k + 1, v3, v4, v5, φ => B_X9_roomFor_39 N v2 (L_X9_roomFor_39 N v2 k) v3 v4 v5 φ
def J_X9_roomFor_14 (N : Nat) (φ : M2) (v1 : Int32) (v2 : Int32) (s0 : Int32) : Option (Int32 × M2) :=
  olet (upd2 φ 0 5 s0) fun w2 =>
  if (w2 0 5) = 0 then (
  obd (G_X9_copy N w2 4) fun w3 =>
  obd2 (L_X9_roomFor_39 N v2 N 0 1 v1 w3) fun y12 w13 =>
  obd (G_X9_layBack N w13 4) fun w15 =>
  some ((y12, w15))
  ) else (
  some ((0, w2)))
def G_X9_roomFor (N : Nat) (φ : M2) (p1 : Int32) (p2 : Int32) : Option (Int32 × M2) :=
  olet (G_X9_isRange p1 p2) fun r1 =>
  if r1 = 0 then (
  J_X9_roomFor_14 N φ p1 p2 1
  ) else (
  J_X9_roomFor_14 N φ p1 p2 0)
def G_X9_isFalse (N : Nat) (φ : M2) (p1 : Int32) : Option Int32 :=
  obd (G_X9_placeOf N φ p1) fun r1 =>
  if r1 = (-1) then (
  some 0
  ) else (
  obd (G_X9_indexOf N φ p1) fun r3 =>
  if r3 = (-1) then (
  some 1
  ) else (
  some 0))
def B_X9_falseMany_5 (N : Nat) (φ : M2) (v2 : Int32) (rec : Int32 → Int32 → Option Int32) (v3 : Int32) (v4 : Int32) : Option Int32 :=
  if v2 < v4 then (
  some v3
  ) else (
  obd (G_X9_isFalse N φ v4) fun r1 =>
  if r1 = 0 then (
  olet ((v3 + 0)) fun x3 =>
  rec x3 (v4 + 1)
  ) else (
  olet ((v3 + 1)) fun x4 =>
  rec x4 (v4 + 1)))
def L_X9_falseMany_5 (N : Nat) (φ : M2) (v2 : Int32) : Nat → Int32 → Int32 → Option Int32
  | 0, _, _ => none
  | k + 1, v3, v4 => B_X9_falseMany_5 N φ v2 (L_X9_falseMany_5 N φ v2 k) v3 v4
def G_X9_falseMany (N : Nat) (φ : M2) (p1 : Int32) (p2 : Int32) : Option Int32 :=
  obd (L_X9_falseMany_5 N φ p2 N 0 p1) fun y5 =>
  some y5
def G_X9_falseKeys (N : Nat) (φ : M2) (p1 : Int32) (p2 : Int32) : Option (Int32 × M2) :=
  olet (G_X9_isRange p1 p2) fun r1 =>
  if r1 = 0 then (
  olet (upd2 φ 0 5 1) fun w2 =>
  if (w2 0 5) = 0 then (
  obd (G_X9_falseMany N w2 p1 p2) fun r3 =>
  some ((r3, w2))
  ) else (
  some ((0, w2)))
  ) else (
  olet (upd2 φ 0 5 0) fun w5 =>
  if (w5 0 5) = 0 then (
  obd (G_X9_falseMany N w5 p1 p2) fun r6 =>
  some ((r6, w5))
  ) else (
  some ((0, w5))))
def B_X9_falseKey_9 (N : Nat) (v1 : Int32) (rec : Int32 → Int32 → M2 → Option (Int32 × M2)) (v2 : Int32) (v3 : Int32) (φ : M2) : Option (Int32 × M2) :=
  if 1000 ≤ v3 then (
  some (((-1), φ))
  ) else (
  if v1 < 0 then (
  some (((-1), φ))
  ) else (
  obd (G_X9_isFalse N φ v3) fun r2 =>
  if r2 = 0 then (
  rec v2 (v3 + 1) φ
  ) else (
  if v2 = 0 then (
  some ((v3, φ))
  ) else (
  rec (v2 + (-1)) (v3 + 1) φ))))
def L_X9_falseKey_9 (N : Nat) (v1 : Int32) : Nat → Int32 → Int32 → M2 → Option (Int32 × M2)
  | 0, _, _, _ => none
  | k + 1, v2, v3, φ => B_X9_falseKey_9 N v1 (L_X9_falseKey_9 N v1 k) v2 v3 φ
def G_X9_falseKey (N : Nat) (φ : M2) (p1 : Int32) : Option (Int32 × M2) :=
  olet (upd2 φ 0 5 0) fun w1 =>
  L_X9_falseKey_9 N p1 N p1 0 w1
def J_X9_blamed_15 (N : Nat) (φ : M2) (v1 : Int32) (v2 : Int32) (s0 : Int32) : Option (Int32 × M2) :=
  olet (upd2 φ 0 5 s0) fun w3 =>
  if (w3 0 5) = 0 then (
  obd (G_X9_falseMany N w3 0 999) fun r4 =>
  olet (G_X9_at v1 v2) fun r6 =>
  oin r6 1163 <|
  olet ((w3 1 r6.toNatClampNeg)) fun x8 =>
  oin r6 1163 <|
  olet (upd2 w3 1 r6.toNatClampNeg ((-1))) fun w10 =>
  obd (G_X9_falseMany N w10 0 999) fun r11 =>
  oin r6 1163 <|
  olet (upd2 w10 1 r6.toNatClampNeg x8) fun w14 =>
  some (((r4 - r11), w14))
  ) else (
  some ((0, w3)))
def G_X9_blamed (N : Nat) (φ : M2) (p1 : Int32) (p2 : Int32) : Option (Int32 × M2) :=
  obd (G_X9_isSlot φ p1 p2) fun r1 =>
  if r1 = 0 then (
  J_X9_blamed_15 N φ p1 p2 1
  ) else (
  J_X9_blamed_15 N φ p1 p2 0)
def B_X9_twins_23 (N : Nat) (φ : M2) (v2 : Int32) (rec : Int32 → Int32 → Option Int32) (v1 : Int32) (v3 : Int32) : Option Int32 :=
  if v2 ≤ v3 then (
  some v1
  ) else (
  oin ((1043 + v2)) 1163 <|
  olet ((φ 1 ((1043 + v2)).toNatClampNeg)) fun x4 =>
  oin ((1043 + v3)) 1163 <|
  olet ((φ 1 ((1043 + v3)).toNatClampNeg)) fun x6 =>
  obd (G_X9_tagOf φ x4) fun r7 =>
  obd (G_X9_tagOf φ x6) fun r9 =>
  if r7 = r9 then (
  obd (G_X9_homeOf φ x4) fun r12 =>
  obd (G_X9_homeOf φ x6) fun r14 =>
  if r12 = r14 then (
  oin 2 1163 <|
  obd (G_X9_printOf φ x4 ((φ 1 (2 : Int32).toNatClampNeg))) fun r18 =>
  oin 2 1163 <|
  obd (G_X9_printOf φ x6 ((φ 1 (2 : Int32).toNatClampNeg))) fun r21 =>
  if r18 = r21 then (
  olet ((v1 + 1)) fun x24 =>
  rec x24 (v3 + 1)
  ) else (
  olet ((v1 + 0)) fun x23 =>
  rec x23 (v3 + 1))
  ) else (
  olet ((v1 + 0)) fun x16 =>
  rec x16 (v3 + 1))
  ) else (
  olet ((v1 + 0)) fun x11 =>
  rec x11 (v3 + 1)))
def L_X9_twins_23 (N : Nat) (φ : M2) (v2 : Int32) : Nat → Int32 → Int32 → Option Int32
  | 0, _, _ => none
  | k + 1, v1, v3 => B_X9_twins_23 N φ v2 (L_X9_twins_23 N φ v2 k) v1 v3
def B_X9_twins_9 (N : Nat) (φ : M2) (rec : Int32 → Int32 → Option Int32) (v1 : Int32) (v2 : Int32) : Option Int32 :=
  oin 1042 1163 <|
  if (φ 1 (1042 : Int32).toNatClampNeg) ≤ v2 then (
  some v1
  ) else (
  obd (L_X9_twins_23 N φ v2 N v1 0) fun y25 =>
  rec y25 (v2 + 1))
def L_X9_twins_9 (N : Nat) (φ : M2) : Nat → Int32 → Int32 → Option Int32
  | 0, _, _ => none
  | k + 1, v1, v2 => B_X9_twins_9 N φ (L_X9_twins_9 N φ k) v1 v2
def G_X9_twins (N : Nat) (φ : M2) : Option (Int32 × M2) :=
  olet (upd2 φ 0 5 0) fun w1 =>
  obd (L_X9_twins_9 N w1 N 0 0) fun y27 =>
  some ((y27, w1))
def J_X9_bestSeed_89_42 (rec : Int32 → Int32 → Int32 → M2 → Option (Int32 × M2)) (N : Nat) (φ : M2) (v1 : Int32) (v2 : Int32) (v3 : Int32) (v4 : Int32) (s0 : Int32) : Option (Int32 × M2) :=
  if v3 ≤ s0 then (
  if v3 ≤ s0 then (
  rec v2 v3 (v4 + 1) φ
  ) else (
  rec v2 s0 (v4 + 1) φ)
  ) else (
  if v3 ≤ s0 then (
  rec v4 v3 (v4 + 1) φ
  ) else (
  rec v4 s0 (v4 + 1) φ))
def B_X9_bestSeed_42 (N : Nat) (v1 : Int32) (rec : Int32 → Int32 → Int32 → M2 → Option (Int32 × M2)) (v2 : Int32) (v3 : Int32) (v4 : Int32) (φ : M2) : Option (Int32 × M2) :=
  if v1 ≤ v4 then (
  some ((v2, φ))
  ) else (
  oin 0 1163 <|
  oin 1 1163 <|
  oin 2 1163 <|
  obd2 (G_X9_rebuilds N φ ((φ 1 (0 : Int32).toNatClampNeg)) ((φ 1 (1 : Int32).toNatClampNeg)) ((φ 1 (2 : Int32).toNatClampNeg)) v4) fun r10 w8 =>
  if r10 = 0 then (
  J_X9_bestSeed_89_42 rec N w8 v1 v2 v3 v4 1001
  ) else (
  obd (G_X9_falseMany N w8 0 999) fun r11 =>
  J_X9_bestSeed_89_42 rec N w8 v1 v2 v3 v4 r11))
def L_X9_bestSeed_42 (N : Nat) (v1 : Int32) : Nat → Int32 → Int32 → Int32 → M2 → Option (Int32 × M2)
  | 0, _, _, _, _ => none
  | k + 1, v2, v3, v4, φ => B_X9_bestSeed_42 N v1 (L_X9_bestSeed_42 N v1 k) v2 v3 v4 φ
def J_X9_bestSeed_16 (N : Nat) (φ : M2) (v1 : Int32) (s0 : Int32) : Option (Int32 × M2) :=
  olet (upd2 φ 0 5 s0) fun w2 =>
  if (w2 0 5) = 0 then (
  obd (G_X9_copy N w2 4) fun w3 =>
  obd2 (L_X9_bestSeed_42 N v1 N ((-1)) 1001 0 w3) fun y13 w14 =>
  obd (G_X9_layBack N w14 4) fun w16 =>
  some ((y13, w16))
  ) else (
  some ((0, w2)))
def G_X9_bestSeed (N : Nat) (φ : M2) (p1 : Int32) : Option (Int32 × M2) :=
  olet (G_X9_in p1 1 20) fun r1 =>
  if r1 = 0 then (
  J_X9_bestSeed_16 N φ p1 1
  ) else (
  J_X9_bestSeed_16 N φ p1 0)
def B_X9_leastBits_44 (N : Nat) (v1 : Int32) (v2 : Int32) (rec : Int32 → M2 → Option (Int32 × M2)) (v3 : Int32) (φ : M2) : Option (Int32 × M2) :=
  if 7 ≤ v3 then (
  some ((v3, φ))
  ) else (
  oin 3 1163 <|
  obd2 (G_X9_rebuilds N φ v3 v1 v2 ((φ 1 (3 : Int32).toNatClampNeg))) fun r8 w6 =>
  if r8 = 0 then (
  rec (v3 + 1) w6
  ) else (
  some ((v3, w6))))
def L_X9_leastBits_44 (N : Nat) (v1 : Int32) (v2 : Int32) : Nat → Int32 → M2 → Option (Int32 × M2)
  | 0, _, _ => none
  | k + 1, v3, φ => B_X9_leastBits_44 N v1 v2 (L_X9_leastBits_44 N v1 v2 k) v3 φ
def J_X9_leastBits_24 (N : Nat) (φ : M2) (v1 : Int32) (v2 : Int32) : Option (Int32 × M2) :=
  olet (upd2 φ 0 5 1) fun w2 =>
  if (w2 0 5) = 0 then (
  obd (G_X9_copy N w2 4) fun w3 =>
  obd2 (L_X9_leastBits_44 N v1 v2 N 1 w3) fun y9 w10 =>
  obd (G_X9_layBack N w10 4) fun w12 =>
  if 7 ≤ y9 then (
  some (((-1), w12))
  ) else (
  some ((y9, w12)))
  ) else (
  some ((0, w2)))
def G_X9_leastBits (N : Nat) (φ : M2) (p1 : Int32) (p2 : Int32) : Option (Int32 × M2) :=
  olet (G_X9_in p1 1 4) fun r1 =>
  if r1 = 0 then (
  J_X9_leastBits_24 N φ p1 p2
  ) else (
  olet (G_X9_in p2 1 8) fun r14 =>
  if r14 = 0 then (
  J_X9_leastBits_24 N φ p1 p2
  ) else (
  olet (upd2 φ 0 5 0) fun w15 =>
  if (w15 0 5) = 0 then (
  obd (G_X9_copy N w15 4) fun w16 =>
  obd2 (L_X9_leastBits_44 N p1 p2 N 1 w16) fun y18 w19 =>
  obd (G_X9_layBack N w19 4) fun w21 =>
  if 7 ≤ y18 then (
  some (((-1), w21))
  ) else (
  some ((y18, w21)))
  ) else (
  some ((0, w15)))))
def B_X9_shifts_12 (N : Nat) (v1 : Int32) (rec : Int32 → M2 → Option (Int32 × M2)) (v3 : Int32) (φ : M2) : Option (Int32 × M2) :=
  oin v3 64 <|
  if (φ 15 v3.toNatClampNeg) = v1 then (
  some ((v3, φ))
  ) else (
  oin v3 64 <|
  olet ((φ 15 v3.toNatClampNeg)) fun x6 =>
  oin x6 120 <|
  olet ((φ 12 x6.toNatClampNeg)) fun x8 =>
  oin x6 120 <|
  olet (upd2 φ 12 x6.toNatClampNeg v3) fun w10 =>
  rec x8 w10)
def L_X9_shifts_12 (N : Nat) (v1 : Int32) : Nat → Int32 → M2 → Option (Int32 × M2)
  | 0, _, _ => none
  | k + 1, v3, φ => B_X9_shifts_12 N v1 (L_X9_shifts_12 N v1 k) v3 φ
def G_X9_shifts (N : Nat) (φ : M2) (p1 : Int32) (p2 : Int32) : Option M2 :=
  oin p2 64 <|
  oin p2 64 <|
  olet (upd2 φ 13 p2.toNatClampNeg (((φ 13 p2.toNatClampNeg) + 1))) fun w3 =>
  obd2 (L_X9_shifts_12 N p1 N p2 w3) fun y11 w12 =>
  oin p1 120 <|
  olet (upd2 w12 12 p1.toNatClampNeg y11) fun w15 =>
  some w15
def B_X9_distributes_2 (N : Nat) (v1 : Int32) (v2 : Int32) (rec : Int32 → M2 → Option M2) (v3 : Int32) (φ : M2) : Option M2 :=
  if 64 ≤ v3 then (
  some φ
  ) else (
  oin v3 64 <|
  olet (upd2 φ 15 v3.toNatClampNeg ((-1))) fun w2 =>
  rec (v3 + 1) w2)
def L_X9_distributes_2 (N : Nat) (v1 : Int32) (v2 : Int32) : Nat → Int32 → M2 → Option M2
  | 0, _, _ => none
  | k + 1, v3, φ => B_X9_distributes_2 N v1 v2 (L_X9_distributes_2 N v1 v2 k) v3 φ
def B_X9_distributes_113 (N : Nat) (v1 : Int32) (v2 : Int32) (v4 : Int32) (rec : Int32 → Int32 → M2 → Option (Int32 × M2)) (v3 : Int32) (v5 : Int32) (φ : M2) : Option (Int32 × M2) :=
  if v1 ≤ v5 then (
  some ((v3, φ))
  ) else (
  oin v5 120 <|
  oin v5 120 <|
  oin v5 120 <|
  olet ((((φ 10 v5.toNatClampNeg) ^^^ (φ 11 v5.toNatClampNeg)) ^^^ (φ 12 v5.toNatClampNeg))) fun x22 =>
  oin v5 120 <|
  oin v4 64 <|
  if (φ 12 v5.toNatClampNeg) = (φ 14 v4.toNatClampNeg) then (
  oin x22 64 <|
  if (φ 15 x22.toNatClampNeg) = (-1) then (
  oin x22 64 <|
  olet (upd2 φ 15 x22.toNatClampNeg v5) fun w27 =>
  oin v3 64 <|
  olet (upd2 w27 14 v3.toNatClampNeg x22) fun w29 =>
  rec (v3 + 1) (v5 + 1) w29
  ) else (
  rec v3 (v5 + 1) φ)
  ) else (
  rec v3 (v5 + 1) φ))
def L_X9_distributes_113 (N : Nat) (v1 : Int32) (v2 : Int32) (v4 : Int32) : Nat → Int32 → Int32 → M2 → Option (Int32 × M2)
  | 0, _, _, _ => none
  | k + 1, v3, v5, φ => B_X9_distributes_113 N v1 v2 v4 (L_X9_distributes_113 N v1 v2 v4 k) v3 v5 φ
def B_X9_distributes_74 (N : Nat) (v1 : Int32) (v2 : Int32) (rec : Int32 → Int32 → M2 → Option (Int32 × M2)) (v3 : Int32) (v4 : Int32) (φ : M2) : Option (Int32 × M2) :=
  if v3 ≤ v4 then (
  some ((0, φ))
  ) else (
  oin v4 64 <|
  oin ((φ 14 v4.toNatClampNeg)) 64 <|
  if v2 ≤ (φ 13 ((φ 14 v4.toNatClampNeg)).toNatClampNeg) then (
  obd2 (L_X9_distributes_113 N v1 v2 v4 N v3 0 φ) fun y30 w31 =>
  rec y30 (v4 + 1) w31
  ) else (
  oin v4 64 <|
  obd (G_X9_shifts N φ v1 ((φ 14 v4.toNatClampNeg))) fun w34 =>
  some ((1, w34))))
def L_X9_distributes_74 (N : Nat) (v1 : Int32) (v2 : Int32) : Nat → Int32 → Int32 → M2 → Option (Int32 × M2)
  | 0, _, _, _ => none
  | k + 1, v3, v4, φ => B_X9_distributes_74 N v1 v2 (L_X9_distributes_74 N v1 v2 k) v3 v4 φ
def G_X9_distributes (N : Nat) (φ : M2) (p1 : Int32) (p2 : Int32) : Option (Int32 × M2) :=
  obd (L_X9_distributes_2 N p1 p2 N 0 φ) fun w3 =>
  oin p1 120 <|
  oin 0 64 <|
  olet (upd2 w3 14 (0 : Int32).toNatClampNeg ((w3 10 p1.toNatClampNeg))) fun w7 =>
  oin p1 120 <|
  oin 1 64 <|
  olet (upd2 w7 14 (1 : Int32).toNatClampNeg ((w7 11 p1.toNatClampNeg))) fun w10 =>
  oin p1 120 <|
  oin ((w10 10 p1.toNatClampNeg)) 64 <|
  olet (upd2 w10 15 ((w10 10 p1.toNatClampNeg)).toNatClampNeg p1) fun w13 =>
  oin p1 120 <|
  oin ((w13 11 p1.toNatClampNeg)) 64 <|
  olet (upd2 w13 15 ((w13 11 p1.toNatClampNeg)).toNatClampNeg p1) fun w16 =>
  L_X9_distributes_74 N p1 p2 N 2 0 w16
def B_X9_couldFit_31 (N : Nat) (v1 : Int32) (v2 : Int32) (v3 : Int32) (rec : Int32 → M2 → Option M2) (v4 : Int32) (φ : M2) : Option M2 :=
  if 64 ≤ v4 then (
  some φ
  ) else (
  oin v4 64 <|
  olet (upd2 φ 13 v4.toNatClampNeg 0) fun w4 =>
  rec (v4 + 1) w4)
def L_X9_couldFit_31 (N : Nat) (v1 : Int32) (v2 : Int32) (v3 : Int32) : Nat → Int32 → M2 → Option M2
  | 0, _, _ => none
  | k + 1, v4, φ => B_X9_couldFit_31 N v1 v2 v3 (L_X9_couldFit_31 N v1 v2 v3 k) v4 φ
def B_X9_couldFit_55 (N : Nat) (v1 : Int32) (v2 : Int32) (v3 : Int32) (rec : Int32 → M2 → Option (Int32 × M2)) (v4 : Int32) (φ : M2) : Option (Int32 × M2) :=
  oin 1042 1163 <|
  if (φ 1 (1042 : Int32).toNatClampNeg) ≤ v4 then (
  some ((1, φ))
  ) else (
  oin ((1043 + v4)) 1163 <|
  olet (G_X9_codeOf ((φ 1 ((1043 + v4)).toNatClampNeg)) v3) fun r9 =>
  onz ((1 <<< (v1 &&& 31))) <|
  oin v4 120 <|
  olet (upd2 φ 10 v4.toNatClampNeg ((irm ((irm r9 16384)) ((1 <<< (v1 &&& 31)))))) fun w12 =>
  oin v4 120 <|
  obd (G_X9_stepOf ((r9 / 16384)) v1) fun r14 =>
  oin v4 120 <|
  olet (upd2 w12 11 v4.toNatClampNeg (((w12 10 v4.toNatClampNeg) ^^^ r14))) fun w17 =>
  obd2 (G_X9_distributes N w17 v4 v2) fun r20 w18 =>
  if r20 = 0 then (
  some ((0, w18))
  ) else (
  rec (v4 + 1) w18))
def L_X9_couldFit_55 (N : Nat) (v1 : Int32) (v2 : Int32) (v3 : Int32) : Nat → Int32 → M2 → Option (Int32 × M2)
  | 0, _, _ => none
  | k + 1, v4, φ => B_X9_couldFit_55 N v1 v2 v3 (L_X9_couldFit_55 N v1 v2 v3 k) v4 φ
def G_X9_couldFit (N : Nat) (φ : M2) (p1 : Int32) (p2 : Int32) (p3 : Int32) : Option (Int32 × M2) :=
  olet (G_X9_areNumbers p1 p2 1 p3) fun r1 =>
  if r1 = 0 then (
  olet (upd2 φ 0 5 1) fun w2 =>
  if (w2 0 5) = 0 then (
  obd (L_X9_couldFit_31 N p1 p2 p3 N 0 w2) fun w5 =>
  L_X9_couldFit_55 N p1 p2 p3 N 0 w5
  ) else (
  some ((0, w2)))
  ) else (
  olet (upd2 φ 0 5 0) fun w21 =>
  if (w21 0 5) = 0 then (
  obd (L_X9_couldFit_31 N p1 p2 p3 N 0 w21) fun w22 =>
  L_X9_couldFit_55 N p1 p2 p3 N 0 w22
  ) else (
  some ((0, w21))))
def J_X9_append_29 (φ : M2) (v1 : Int32) (s0 : Int32) : Option (Int32 × M2) :=
  olet (upd2 φ 0 5 s0) fun w2 =>
  if (w2 0 5) = 0 then (
  oin ((w2 0 4)) 100 <|
  olet (upd2 w2 3 ((w2 0 4)).toNatClampNeg v1) fun w4 =>
  olet (upd2 w4 0 4 (((w4 0 4) + 1))) fun w5 =>
  some (((w5 0 4), w5))
  ) else (
  some ((0, w2)))
def G_X9_append (φ : M2) (p1 : Int32) : Option (Int32 × M2) :=
  olet (G_X9_in p1 0 127) fun r1 =>
  if r1 = 0 then (
  J_X9_append_29 φ p1 1
  ) else (
  if (φ 0 4) = 100 then (
  J_X9_append_29 φ p1 2
  ) else (
  J_X9_append_29 φ p1 0))
def G_X9_clearText (φ : M2) : Option (Int32 × M2) :=
  olet (upd2 φ 0 5 0) fun w1 =>
  olet ((w1 0 4)) fun x2 =>
  olet (upd2 w1 0 4 0) fun w3 =>
  some ((x2, w3))
def G_X9_here (φ : M2) : Option Int32 :=
  if (φ 0 4) ≤ (φ 0 24) then (
  some ((-1))
  ) else (
  oin ((φ 0 24)) 100 <|
  some ((φ 3 ((φ 0 24)).toNatClampNeg)))
def B_X9_readCommand_42 (N : Nat) (v1 : Int32) (v2 : Int32) (rec : Int32 → M2 → Option (Int32 × M2)) (v3 : Int32) (φ : M2) : Option (Int32 × M2) :=
  if v1 = 42 then (
  some ((v3, φ))
  ) else (
  if (v2 + 3) ≤ (φ 0 24) then (
  some ((v3, φ))
  ) else (
  obd (G_X9_here φ) fun r5 =>
  olet (G_X9_in r5 48 57) fun r7 =>
  if r7 = 0 then (
  some ((v3, φ))
  ) else (
  obd (G_X9_here φ) fun r8 =>
  olet ((((10 * v3) + r8) - 48)) fun x10 =>
  olet (upd2 φ 0 24 (((φ 0 24) + 1))) fun w11 =>
  rec x10 w11)))
def L_X9_readCommand_42 (N : Nat) (v1 : Int32) (v2 : Int32) : Nat → Int32 → M2 → Option (Int32 × M2)
  | 0, _, _ => none
  | k + 1, v3, φ => B_X9_readCommand_42 N v1 v2 (L_X9_readCommand_42 N v1 v2 k) v3 φ
def J_X9_readCommand_112 (N : Nat) (φ : M2) (v1 : Int32) (v3 : Int32) : Option (Int32 × M2) :=
  obd (G_X9_here φ) fun r15 =>
  if r15 = 59 then (
  olet (upd2 φ 0 24 (((φ 0 24) + 1))) fun w17 =>
  oin ((w17 0 25)) 50 <|
  olet (upd2 w17 16 ((w17 0 25)).toNatClampNeg v1) fun w19 =>
  oin ((w19 0 25)) 50 <|
  olet (upd2 w19 17 ((w19 0 25)).toNatClampNeg v3) fun w21 =>
  olet (upd2 w21 0 25 (((w21 0 25) + 1))) fun w22 =>
  some ((1, w22))
  ) else (
  some ((0, φ)))
def J_X9_readCommand_98 (N : Nat) (φ : M2) (v1 : Int32) (v2 : Int32) (v3 : Int32) : Option (Int32 × M2) :=
  if v1 = 42 then (
  J_X9_readCommand_112 N φ v1 v3
  ) else (
  if (φ 0 24) = v2 then (
  some ((0, φ))
  ) else (
  J_X9_readCommand_112 N φ v1 v3))
def G_X9_readCommand (N : Nat) (φ : M2) : Option (Int32 × M2) :=
  obd (G_X9_here φ) fun r1 =>
  if r1 = 43 then (
  olet (upd2 φ 0 24 (((φ 0 24) + 1))) fun w3 =>
  olet ((w3 0 24)) fun x4 =>
  obd2 (L_X9_readCommand_42 N r1 x4 N 0 w3) fun y12 w13 =>
  J_X9_readCommand_98 N w13 r1 x4 y12
  ) else (
  if r1 = 45 then (
  olet (upd2 φ 0 24 (((φ 0 24) + 1))) fun w23 =>
  olet ((w23 0 24)) fun x24 =>
  obd2 (L_X9_readCommand_42 N r1 x24 N 0 w23) fun y25 w26 =>
  J_X9_readCommand_98 N w26 r1 x24 y25
  ) else (
  if r1 = 42 then (
  olet (upd2 φ 0 24 (((φ 0 24) + 1))) fun w28 =>
  olet ((w28 0 24)) fun x29 =>
  obd2 (L_X9_readCommand_42 N r1 x29 N 0 w28) fun y30 w31 =>
  J_X9_readCommand_98 N w31 r1 x29 y30
  ) else (
  some ((0, φ)))))
def B_X9_readAll_12 (N : Nat) (rec : Int32 → M2 → Option (Int32 × M2)) (v1 : Int32) (φ : M2) : Option (Int32 × M2) :=
  if v1 = 0 then (
  some ((v1, φ))
  ) else (
  if (φ 0 4) ≤ (φ 0 24) then (
  some ((v1, φ))
  ) else (
  obd2 (G_X9_readCommand N φ) fun r5 w3 =>
  rec r5 w3))
def L_X9_readAll_12 (N : Nat) : Nat → Int32 → M2 → Option (Int32 × M2)
  | 0, _, _ => none
  | k + 1, v1, φ => B_X9_readAll_12 N (L_X9_readAll_12 N k) v1 φ
def G_X9_readAll (N : Nat) (φ : M2) : Option (Int32 × M2) :=
  olet (upd2 φ 0 24 0) fun w1 =>
  olet (upd2 w1 0 25 0) fun w2 =>
  obd2 (L_X9_readAll_12 N N 1 w2) fun y6 w7 =>
  obz y6 <|
  some ((y6, w7))
def G_X9_does (N : Nat) (φ : M2) (p1 : Int32) : Option (Int32 × M2) :=
  oin p1 50 <|
  olet ((φ 17 p1.toNatClampNeg)) fun x2 =>
  oin p1 50 <|
  if (φ 16 p1.toNatClampNeg) = 43 then (
  obd2 (G_X9_tryAdd N φ x2) fun r16 w14 =>
  if r16 = (-1) then (
  some ((0, w14))
  ) else (
  some ((1, w14)))
  ) else (
  oin p1 50 <|
  if (φ 16 p1.toNatClampNeg) = 42 then (
  obd (G_X9_mayGrow N φ) fun r10 =>
  if r10 = 0 then (
  some ((r10, φ))
  ) else (
  obd (G_X9_grows N φ) fun w12 =>
  some ((r10, w12)))
  ) else (
  obd (G_X9_indexOf N φ x2) fun r5 =>
  if r5 = (-1) then (
  some ((0, φ))
  ) else (
  obd2 (G_X9_deletes N φ x2 r5) fun r9 w7 =>
  if r9 < 0 then (
  some ((0, w7))
  ) else (
  some ((1, w7))))))
def B_X9_execute_27 (N : Nat) (rec : Int32 → M2 → Option (Int32 × M2)) (v1 : Int32) (φ : M2) : Option (Int32 × M2) :=
  if (φ 0 25) ≤ v1 then (
  obd (G_X9_keepAside N φ 5) fun w7 =>
  some (((w7 0 25), w7))
  ) else (
  obd2 (G_X9_does N φ v1) fun r11 w9 =>
  if r11 = 0 then (
  obd (G_X9_layBack N w9 5) fun w12 =>
  some ((((-1000) - v1), w12))
  ) else (
  rec (v1 + 1) w9))
def L_X9_execute_27 (N : Nat) : Nat → Int32 → M2 → Option (Int32 × M2)
  | 0, _, _ => none
  | k + 1, v1, φ => B_X9_execute_27 N (L_X9_execute_27 N k) v1 φ
def G_X9_execute (N : Nat) (φ : M2) : Option (Int32 × M2) :=
  olet (upd2 φ 0 5 0) fun w1 =>
  obd2 (G_X9_readAll N w1) fun r4 w2 =>
  if r4 = 0 then (
  some ((((-10) - (w2 0 24)), w2))
  ) else (
  obd (G_X9_copy N w2 5) fun w5 =>
  L_X9_execute_27 N N 0 w5)
def J_X9_undo_13 (N : Nat) (φ : M2) (s0 : Int32) : Option (Int32 × M2) :=
  olet (upd2 φ 0 5 s0) fun w1 =>
  if (w1 0 5) = 0 then (
  olet (upd2 w1 0 2 (((w1 0 2) - 1))) fun w2 =>
  obd (G_X9_layBack N w2 ((w2 0 2))) fun w3 =>
  some (((w3 0 2), w3))
  ) else (
  some ((0, w1)))
def G_X9_undo (N : Nat) (φ : M2) : Option (Int32 × M2) :=
  if (φ 0 2) = 0 then (
  J_X9_undo_13 N φ 1
  ) else (
  J_X9_undo_13 N φ 0)
def G_X9_mix (φ : M2) (hv : Int64) (p1 : Int64) : Option (M2 × Int64) :=
  some ((φ, ((31 * hv) + p1)))
def B_X9_digest_14 (N : Nat) (rec : Int32 → M2 → Int64 → Option (M2 × Int64)) (v1 : Int32) (φ : M2) (hv : Int64) : Option (M2 × Int64) :=
  if 9 ≤ v1 then (
  some ((φ, hv))
  ) else (
  obd (G_X9_infoOf N φ v1) fun r2 =>
  obd2 (G_X9_mix φ hv r2.toInt64) fun w4 u6 =>
  rec (v1 + 1) w4 u6)
def L_X9_digest_14 (N : Nat) : Nat → Int32 → M2 → Int64 → Option (M2 × Int64)
  | 0, _, _, _ => none
  | k + 1, v1, φ, hv => B_X9_digest_14 N (L_X9_digest_14 N k) v1 φ hv
def B_X9_digest_48 (N : Nat) (v1 : Int32) (rec : Int32 → M2 → Int64 → Option (M2 × Int64)) (v2 : Int32) (φ : M2) (hv : Int64) : Option (M2 × Int64) :=
  oin 1 1163 <|
  if (4 * (φ 1 (1 : Int32).toNatClampNeg)) ≤ v2 then (
  some ((φ, hv))
  ) else (
  olet (G_X9_at v1 0) fun r13 =>
  oin ((r13 + v2)) 1163 <|
  obd2 (G_X9_mix φ hv (((φ 1 ((r13 + v2)).toNatClampNeg)).toInt64)) fun w15 u17 =>
  rec (v2 + 1) w15 u17)
def L_X9_digest_48 (N : Nat) (v1 : Int32) : Nat → Int32 → M2 → Int64 → Option (M2 × Int64)
  | 0, _, _, _ => none
  | k + 1, v2, φ, hv => B_X9_digest_48 N v1 (L_X9_digest_48 N v1 k) v2 φ hv
def B_X9_digest_38 (N : Nat) (rec : Int32 → M2 → Int64 → Option (M2 × Int64)) (v1 : Int32) (φ : M2) (hv : Int64) : Option (M2 × Int64) :=
  obd (G_X9_buckets φ) fun r10 =>
  if r10 ≤ v1 then (
  some ((φ, hv))
  ) else (
  obd2 (L_X9_digest_48 N v1 N 0 φ hv) fun w18 u19 =>
  rec (v1 + 1) w18 u19)
def L_X9_digest_38 (N : Nat) : Nat → Int32 → M2 → Int64 → Option (M2 × Int64)
  | 0, _, _, _ => none
  | k + 1, v1, φ, hv => B_X9_digest_38 N (L_X9_digest_38 N k) v1 φ hv
def B_X9_digest_91 (N : Nat) (rec : Int32 → M2 → Int64 → Option (M2 × Int64)) (v1 : Int32) (φ : M2) (hv : Int64) : Option (M2 × Int64) :=
  oin 5 1163 <|
  if (4 * (φ 1 (5 : Int32).toNatClampNeg)) ≤ v1 then (
  some ((φ, hv))
  ) else (
  oin ((6 + v1)) 1163 <|
  obd2 (G_X9_mix φ hv (((φ 1 ((6 + v1)).toNatClampNeg)).toInt64)) fun w26 u28 =>
  rec (v1 + 1) w26 u28)
def L_X9_digest_91 (N : Nat) : Nat → Int32 → M2 → Int64 → Option (M2 × Int64)
  | 0, _, _, _ => none
  | k + 1, v1, φ, hv => B_X9_digest_91 N (L_X9_digest_91 N k) v1 φ hv
def B_X9_digest_138 (N : Nat) (rec : Int32 → M2 → Int64 → Option (M2 × Int64)) (v1 : Int32) (φ : M2) (hv : Int64) : Option (M2 × Int64) :=
  oin 1042 1163 <|
  if (φ 1 (1042 : Int32).toNatClampNeg) ≤ v1 then (
  some ((φ, hv))
  ) else (
  oin ((1043 + v1)) 1163 <|
  obd2 (G_X9_mix φ hv (((φ 1 ((1043 + v1)).toNatClampNeg)).toInt64)) fun w38 u40 =>
  rec (v1 + 1) w38 u40)
def L_X9_digest_138 (N : Nat) : Nat → Int32 → M2 → Int64 → Option (M2 × Int64)
  | 0, _, _, _ => none
  | k + 1, v1, φ, hv => B_X9_digest_138 N (L_X9_digest_138 N k) v1 φ hv
def G_X9_digest (N : Nat) (φ : M2) (hv : Int64) : Option (Int64 × M2 × Int64) :=
  olet (upd2 φ 0 5 0) fun w1 =>
  obd2 (L_X9_digest_14 N N 0 w1 1960) fun w7 u8 =>
  obd2 (L_X9_digest_38 N N 0 w7 u8) fun w21 u22 =>
  obd2 (L_X9_digest_91 N N 0 w21 u22) fun w29 u30 =>
  oin 1042 1163 <|
  obd2 (G_X9_mix w29 u30 (((w29 1 (1042 : Int32).toNatClampNeg)).toInt64)) fun w33 u35 =>
  obd2 (L_X9_digest_138 N N 0 w33 u35) fun w41 u42 =>
  obd (G_X9_falseMany N w41 0 999) fun r44 =>
  obd2 (G_X9_mix w41 u42 r44.toInt64) fun w46 u48 =>
  obd2 (G_X9_mix w46 u48 (((w46 0 4)).toInt64)) fun w49 u51 =>
  obd2 (G_X9_mix w49 u51 (((w49 0 2)).toInt64)) fun w52 u54 =>
  some ((u54, w52, u54))
