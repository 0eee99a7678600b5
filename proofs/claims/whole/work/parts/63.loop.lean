/-! one turn of the law's loop -/
def Pall (N : Nat) (Rel : M2 → M2 → HT → M2 → M2 → Int64 → Prop) : Prop := Pk0 N Rel ∧ Pk1 N Rel ∧ Pk2 N Rel ∧ Pk3 N Rel ∧ Pk4 N Rel ∧ Pk5 N Rel ∧ Pk6 N Rel ∧ Pk7 N Rel ∧ Pk8 N Rel ∧ Pk9 N Rel ∧ Pk10 N Rel ∧ Pk11 N Rel ∧ Pk12 N Rel ∧ Pk13 N Rel ∧ Pk14 N Rel ∧ Pk15 N Rel ∧ Pk16 N Rel ∧ Pk17 N Rel ∧ Pk18 N Rel ∧ Pk19 N Rel ∧ Pk20 N Rel ∧ Pk21 N Rel ∧ Pk22 N Rel ∧ Pk23 N Rel ∧ Pk24 N Rel ∧ Pk25 N Rel ∧ Pk26 N Rel ∧ Pk27 N Rel ∧ Pk28 N Rel ∧ Pk29 N Rel ∧ Pk30 N Rel ∧ Pk31 N Rel ∧ Pk32 N Rel ∧ Pk33 N Rel ∧ Pk34 N Rel ∧ Pk35 N Rel
theorem fm_out35 {x : Int32} (h0 : ¬ x = 0) (h1 : ¬ x = 1) (h2 : ¬ x = 2) (h3 : ¬ x = 3) (h4 : ¬ x = 4) (h5 : ¬ x = 5) (h6 : ¬ x = 6) (h7 : ¬ x = 7) (h8 : ¬ x = 8) (h9 : ¬ x = 9) (h10 : ¬ x = 10) (h11 : ¬ x = 11) (h12 : ¬ x = 12) (h13 : ¬ x = 13) (h14 : ¬ x = 14) (h15 : ¬ x = 15) (h16 : ¬ x = 16) (h17 : ¬ x = 17) (h18 : ¬ x = 18) (h19 : ¬ x = 19) (h20 : ¬ x = 20) (h21 : ¬ x = 21) (h22 : ¬ x = 22) (h23 : ¬ x = 23) (h24 : ¬ x = 24) (h25 : ¬ x = 25) (h26 : ¬ x = 26) (h27 : ¬ x = 27) (h28 : ¬ x = 28) (h29 : ¬ x = 29) (h30 : ¬ x = 30) (h31 : ¬ x = 31) (h32 : ¬ x = 32) (h33 : ¬ x = 33) (h34 : ¬ x = 34) (h35 : ¬ x = 35) : x.toInt < 0 ∨ 35 < x.toInt := by
  have k : ∀ n : Int, ∀ y : Int32, y.toInt = n → ¬ x = y → ¬ x.toInt = n := fun n y hy hn h => hn (Int32.toInt_inj.mp (h.trans hy.symm))
  have g0 := k 0 0 (by decide) h0
  have g1 := k 1 1 (by decide) h1
  have g2 := k 2 2 (by decide) h2
  have g3 := k 3 3 (by decide) h3
  have g4 := k 4 4 (by decide) h4
  have g5 := k 5 5 (by decide) h5
  have g6 := k 6 6 (by decide) h6
  have g7 := k 7 7 (by decide) h7
  have g8 := k 8 8 (by decide) h8
  have g9 := k 9 9 (by decide) h9
  have g10 := k 10 10 (by decide) h10
  have g11 := k 11 11 (by decide) h11
  have g12 := k 12 12 (by decide) h12
  have g13 := k 13 13 (by decide) h13
  have g14 := k 14 14 (by decide) h14
  have g15 := k 15 15 (by decide) h15
  have g16 := k 16 16 (by decide) h16
  have g17 := k 17 17 (by decide) h17
  have g18 := k 18 18 (by decide) h18
  have g19 := k 19 19 (by decide) h19
  have g20 := k 20 20 (by decide) h20
  have g21 := k 21 21 (by decide) h21
  have g22 := k 22 22 (by decide) h22
  have g23 := k 23 23 (by decide) h23
  have g24 := k 24 24 (by decide) h24
  have g25 := k 25 25 (by decide) h25
  have g26 := k 26 26 (by decide) h26
  have g27 := k 27 27 (by decide) h27
  have g28 := k 28 28 (by decide) h28
  have g29 := k 29 29 (by decide) h29
  have g30 := k 30 30 (by decide) h30
  have g31 := k 31 31 (by decide) h31
  have g32 := k 32 32 (by decide) h32
  have g33 := k 33 33 (by decide) h33
  have g34 := k 34 34 (by decide) h34
  have g35 := k 35 35 (by decide) h35
  omega
section LCL
variable {p : Program} {l : Launch} {e : Env} {s : State} {m : MethodId} {args : Array Value} {below : List Frame} {meth : Method} {c : Code} {H : Heap} {locs : List Loc} {nc ns : Nat} {Q : State → Prop} {ls : Array Slot} {rest : List Value} {cc : ByteArray} {pc cells slots : Nat} {R : Room}
variable {D : va_G} {cI cF cL : ClassId} {b : Bf} {u0 φ : M2} {η : HT} {τ : M2} {q : Nat} {f : Nat → Int64} {a : Nat → Nat} {ψ : M2} {hv : Int64} {A0 : Nat → Prop} {sb L N : Nat} {xs : Nat → Int32} {Rel : M2 → M2 → HT → M2 → M2 → Int64 → Prop} {v4 p1 p2 p3 p4 : Int32}
set_option maxHeartbeats 4000000 in
set_option maxRecDepth 100000 in
theorem lc_step (P : Pall N Rel) (hRel : Rel u0 φ η τ ψ hv) (hl0 : l.stackTraces = false) (hx : p.tables.exec = Jvm.exec) (hb : c.code = cL_law) (S : CallFix p m c cL_law 7 s args AW RL) (hC : lxC D A0 cI cF cL s) (hX : va_X sb L xs s s.heap) (hbl : sb < s.heap.size) (hbA : ¬ A0 sb) (hi0 : vp_in v4 L) (hi1 : vp_in (v4 + 1) L) (hi2 : vp_in (v4 + 2) L) (hi3 : vp_in (v4 + 3) L) (hi4 : vp_in (v4 + 4) L) (hnc : nc + 8 ≤ 601024) (hns : ns + 48 ≤ 7293034) (hL : lxS D A0 s.heap cI cF cL b q u0 φ η τ f a ψ hv H locs) (hl : lv_has ls 7 [(4, .int v4), (3, .ref q), (2, .ref (a 0)), (1, .ref (b 6 0)), (0, .ref sb)]) (kk : ∀ (u : Bf) (u0r φr : M2) (ηr : HT) (τr : M2) (fr : Nat → Int64) (ψr : M2) (hvr : Int64) (H1 : Heap) (locs1 : List Loc) (ls1 : Array Slot), Rel u0r φr ηr τr ψr hvr → lxS D A0 s.heap cI cF cL u q u0r φr ηr τr fr a ψr hvr H1 locs1 → u 6 0 = b 6 0 → lv_has ls1 7 [(4, .int v4), (3, .ref q), (2, .ref (a 0)), (1, .ref (b 6 0)), (0, .ref sb)] → W p l e room_1 s m args below meth c H1 locs1 (nc + 8) (ns + 48) Q (F0 m 2083 ls1 [])) : W p l e room_1 s m args below meth c H locs nc ns Q (F0 m 32 ls []) := by
  refine lv_aload_n hx hb dL_law_32 rfl (lv_at hl 4 rfl) ?_
  refine lv_iload hx hb dL_law_33 (lv_at hl 0 rfl) ?_
  refine lx_sc hx hb hX hbl hbA hL hi0 dL_law_35 ?_
  refine lv_bipush (v := 63) hx hb dL_law_36 (by decide) ?_
  refine lv_iand hx hb dL_law_38 ?_
  refine lv_topi (fun x ex => ?_)
  by_cases n0 : x = 0
  · refine lv_tableIn (tgt := 196) hx hb dL_law_39 (by rw [n0]; decide) (by rw [n0]; decide) (by rw [n0]; rfl) (by decide) ?_
    exact lc_0 P.1 hRel hl0 hx hb S hC hX hbl hbA hi1 hi2 hi3 hi4 rfl rfl rfl rfl hnc hns hL hl kk
  by_cases n1 : x = 1
  · refine lv_tableIn (tgt := 252) hx hb dL_law_39 (by rw [n1]; decide) (by rw [n1]; decide) (by rw [n1]; rfl) (by decide) ?_
    exact lc_1 P.2.1 hRel hl0 hx hb S hC hX hbl hbA hi1 hi2 hi3 hi4 rfl rfl rfl rfl hnc hns hL hl kk
  by_cases n2 : x = 2
  · refine lv_tableIn (tgt := 308) hx hb dL_law_39 (by rw [n2]; decide) (by rw [n2]; decide) (by rw [n2]; rfl) (by decide) ?_
    exact lc_2 P.2.2.1 hRel hl0 hx hb S hC hX hbl hbA hi1 hi2 hi3 hi4 rfl rfl rfl rfl hnc hns hL hl kk
  by_cases n3 : x = 3
  · refine lv_tableIn (tgt := 392) hx hb dL_law_39 (by rw [n3]; decide) (by rw [n3]; decide) (by rw [n3]; rfl) (by decide) ?_
    exact lc_3 P.2.2.2.1 hRel hl0 hx hb S hC hX hbl hbA hi1 hi2 hi3 hi4 rfl rfl rfl rfl hnc hns hL hl kk
  by_cases n4 : x = 4
  · refine lv_tableIn (tgt := 455) hx hb dL_law_39 (by rw [n4]; decide) (by rw [n4]; decide) (by rw [n4]; rfl) (by decide) ?_
    exact lc_4 P.2.2.2.2.1 hRel hl0 hx hb S hC hX hbl hbA hi1 hi2 hi3 hi4 rfl rfl rfl rfl hnc hns hL hl kk
  by_cases n5 : x = 5
  · refine lv_tableIn (tgt := 511) hx hb dL_law_39 (by rw [n5]; decide) (by rw [n5]; decide) (by rw [n5]; rfl) (by decide) ?_
    exact lc_5 P.2.2.2.2.2.1 hRel hl0 hx hb S hC hX hbl hbA hi1 hi2 hi3 hi4 rfl rfl rfl rfl hnc hns hL hl kk
  by_cases n6 : x = 6
  · refine lv_tableIn (tgt := 567) hx hb dL_law_39 (by rw [n6]; decide) (by rw [n6]; decide) (by rw [n6]; rfl) (by decide) ?_
    exact lc_6 P.2.2.2.2.2.2.1 hRel hl0 hx hb S hC hX hbl hbA hi1 hi2 hi3 hi4 rfl rfl rfl rfl hnc hns hL hl kk
  by_cases n7 : x = 7
  · refine lv_tableIn (tgt := 580) hx hb dL_law_39 (by rw [n7]; decide) (by rw [n7]; decide) (by rw [n7]; rfl) (by decide) ?_
    exact lc_7 P.2.2.2.2.2.2.2.1 hRel hl0 hx hb S hC hX hbl hbA hi1 hi2 hi3 hi4 rfl rfl rfl rfl hnc hns hL hl kk
  by_cases n8 : x = 8
  · refine lv_tableIn (tgt := 636) hx hb dL_law_39 (by rw [n8]; decide) (by rw [n8]; decide) (by rw [n8]; rfl) (by decide) ?_
    exact lc_8 P.2.2.2.2.2.2.2.2.1 hRel hl0 hx hb S hC hX hbl hbA hi1 hi2 hi3 hi4 rfl rfl rfl rfl hnc hns hL hl kk
  by_cases n9 : x = 9
  · refine lv_tableIn (tgt := 692) hx hb dL_law_39 (by rw [n9]; decide) (by rw [n9]; decide) (by rw [n9]; rfl) (by decide) ?_
    exact lc_9 P.2.2.2.2.2.2.2.2.2.1 hRel hl0 hx hb S hC hX hbl hbA hi1 hi2 hi3 hi4 rfl rfl rfl rfl hnc hns hL hl kk
  by_cases n10 : x = 10
  · refine lv_tableIn (tgt := 748) hx hb dL_law_39 (by rw [n10]; decide) (by rw [n10]; decide) (by rw [n10]; rfl) (by decide) ?_
    exact lc_10 P.2.2.2.2.2.2.2.2.2.2.1 hRel hl0 hx hb S hC hX hbl hbA hi1 hi2 hi3 hi4 rfl rfl rfl rfl hnc hns hL hl kk
  by_cases n11 : x = 11
  · refine lv_tableIn (tgt := 792) hx hb dL_law_39 (by rw [n11]; decide) (by rw [n11]; decide) (by rw [n11]; rfl) (by decide) ?_
    exact lc_11 P.2.2.2.2.2.2.2.2.2.2.2.1 hRel hl0 hx hb S hC hX hbl hbA hi1 hi2 hi3 hi4 rfl rfl rfl rfl hnc hns hL hl kk
  by_cases n12 : x = 12
  · refine lv_tableIn (tgt := 884) hx hb dL_law_39 (by rw [n12]; decide) (by rw [n12]; decide) (by rw [n12]; rfl) (by decide) ?_
    exact lc_12 P.2.2.2.2.2.2.2.2.2.2.2.2.1 hRel hl0 hx hb S hC hX hbl hbA hi1 hi2 hi3 hi4 rfl rfl rfl rfl hnc hns hL hl kk
  by_cases n13 : x = 13
  · refine lv_tableIn (tgt := 940) hx hb dL_law_39 (by rw [n13]; decide) (by rw [n13]; decide) (by rw [n13]; rfl) (by decide) ?_
    exact lc_13 P.2.2.2.2.2.2.2.2.2.2.2.2.2.1 hRel hl0 hx hb S hC hX hbl hbA hi1 hi2 hi3 hi4 rfl rfl rfl rfl hnc hns hL hl kk
  by_cases n14 : x = 14
  · refine lv_tableIn (tgt := 996) hx hb dL_law_39 (by rw [n14]; decide) (by rw [n14]; decide) (by rw [n14]; rfl) (by decide) ?_
    exact lc_14 P.2.2.2.2.2.2.2.2.2.2.2.2.2.2.1 hRel hl0 hx hb S hC hX hbl hbA hi1 hi2 hi3 hi4 rfl rfl rfl rfl hnc hns hL hl kk
  by_cases n15 : x = 15
  · refine lv_tableIn (tgt := 1009) hx hb dL_law_39 (by rw [n15]; decide) (by rw [n15]; decide) (by rw [n15]; rfl) (by decide) ?_
    exact lc_15 P.2.2.2.2.2.2.2.2.2.2.2.2.2.2.2.1 hRel hl0 hx hb S hC hX hbl hbA hi1 hi2 hi3 hi4 rfl rfl rfl rfl hnc hns hL hl kk
  by_cases n16 : x = 16
  · refine lv_tableIn (tgt := 1065) hx hb dL_law_39 (by rw [n16]; decide) (by rw [n16]; decide) (by rw [n16]; rfl) (by decide) ?_
    exact lc_16 P.2.2.2.2.2.2.2.2.2.2.2.2.2.2.2.2.1 hRel hl0 hx hb S hC hX hbl hbA hi1 hi2 hi3 hi4 rfl rfl rfl rfl hnc hns hL hl kk
  by_cases n17 : x = 17
  · refine lv_tableIn (tgt := 1145) hx hb dL_law_39 (by rw [n17]; decide) (by rw [n17]; decide) (by rw [n17]; rfl) (by decide) ?_
    exact lc_17 P.2.2.2.2.2.2.2.2.2.2.2.2.2.2.2.2.2.1 hRel hl0 hx hb S hC hX hbl hbA hi1 hi2 hi3 hi4 rfl rfl rfl rfl hnc hns hL hl kk
  by_cases n18 : x = 18
  · refine lv_tableIn (tgt := 1213) hx hb dL_law_39 (by rw [n18]; decide) (by rw [n18]; decide) (by rw [n18]; rfl) (by decide) ?_
    exact lc_18 P.2.2.2.2.2.2.2.2.2.2.2.2.2.2.2.2.2.2.1 hRel hl0 hx hb S hC hX hbl hbA hi1 hi2 hi3 hi4 rfl rfl rfl rfl hnc hns hL hl kk
  by_cases n19 : x = 19
  · refine lv_tableIn (tgt := 1269) hx hb dL_law_39 (by rw [n19]; decide) (by rw [n19]; decide) (by rw [n19]; rfl) (by decide) ?_
    exact lc_19 P.2.2.2.2.2.2.2.2.2.2.2.2.2.2.2.2.2.2.2.1 hRel hl0 hx hb S hC hX hbl hbA hi1 hi2 hi3 hi4 rfl rfl rfl rfl hnc hns hL hl kk
  by_cases n20 : x = 20
  · refine lv_tableIn (tgt := 1325) hx hb dL_law_39 (by rw [n20]; decide) (by rw [n20]; decide) (by rw [n20]; rfl) (by decide) ?_
    exact lc_20 P.2.2.2.2.2.2.2.2.2.2.2.2.2.2.2.2.2.2.2.2.1 hRel hl0 hx hb S hC hX hbl hbA hi1 hi2 hi3 hi4 rfl rfl rfl rfl hnc hns hL hl kk
  by_cases n21 : x = 21
  · refine lv_tableIn (tgt := 1421) hx hb dL_law_39 (by rw [n21]; decide) (by rw [n21]; decide) (by rw [n21]; rfl) (by decide) ?_
    exact lc_21 P.2.2.2.2.2.2.2.2.2.2.2.2.2.2.2.2.2.2.2.2.2.1 hRel hl0 hx hb S hC hX hbl hbA hi1 hi2 hi3 hi4 rfl rfl rfl rfl hnc hns hL hl kk
  by_cases n22 : x = 22
  · refine lv_tableIn (tgt := 1477) hx hb dL_law_39 (by rw [n22]; decide) (by rw [n22]; decide) (by rw [n22]; rfl) (by decide) ?_
    exact lc_22 P.2.2.2.2.2.2.2.2.2.2.2.2.2.2.2.2.2.2.2.2.2.2.1 hRel hl0 hx hb S hC hX hbl hbA hi1 hi2 hi3 hi4 rfl rfl rfl rfl hnc hns hL hl kk
  by_cases n23 : x = 23
  · refine lv_tableIn (tgt := 1545) hx hb dL_law_39 (by rw [n23]; decide) (by rw [n23]; decide) (by rw [n23]; rfl) (by decide) ?_
    exact lc_23 P.2.2.2.2.2.2.2.2.2.2.2.2.2.2.2.2.2.2.2.2.2.2.2.1 hRel hl0 hx hb S hC hX hbl hbA hi1 hi2 hi3 hi4 rfl rfl rfl rfl hnc hns hL hl kk
  by_cases n24 : x = 24
  · refine lv_tableIn (tgt := 1613) hx hb dL_law_39 (by rw [n24]; decide) (by rw [n24]; decide) (by rw [n24]; rfl) (by decide) ?_
    exact lc_24 P.2.2.2.2.2.2.2.2.2.2.2.2.2.2.2.2.2.2.2.2.2.2.2.2.1 hRel hl0 hx hb S hC hX hbl hbA hi1 hi2 hi3 hi4 rfl rfl rfl rfl hnc hns hL hl kk
  by_cases n25 : x = 25
  · refine lv_tableIn (tgt := 1638) hx hb dL_law_39 (by rw [n25]; decide) (by rw [n25]; decide) (by rw [n25]; rfl) (by decide) ?_
    exact lc_25 P.2.2.2.2.2.2.2.2.2.2.2.2.2.2.2.2.2.2.2.2.2.2.2.2.2.1 hRel hl0 hx hb S hC hX hbl hbA hi1 hi2 hi3 hi4 rfl rfl rfl rfl hnc hns hL hl kk
  by_cases n26 : x = 26
  · refine lv_tableIn (tgt := 1706) hx hb dL_law_39 (by rw [n26]; decide) (by rw [n26]; decide) (by rw [n26]; rfl) (by decide) ?_
    exact lc_26 P.2.2.2.2.2.2.2.2.2.2.2.2.2.2.2.2.2.2.2.2.2.2.2.2.2.2.1 hRel hl0 hx hb S hC hX hbl hbA hi1 hi2 hi3 hi4 rfl rfl rfl rfl hnc hns hL hl kk
  by_cases n27 : x = 27
  · refine lv_tableIn (tgt := 1719) hx hb dL_law_39 (by rw [n27]; decide) (by rw [n27]; decide) (by rw [n27]; rfl) (by decide) ?_
    exact lc_27 P.2.2.2.2.2.2.2.2.2.2.2.2.2.2.2.2.2.2.2.2.2.2.2.2.2.2.2.1 hRel hl0 hx hb S hC hX hbl hbA hi1 hi2 hi3 hi4 rfl rfl rfl rfl hnc hns hL hl kk
  by_cases n28 : x = 28
  · refine lv_tableIn (tgt := 1775) hx hb dL_law_39 (by rw [n28]; decide) (by rw [n28]; decide) (by rw [n28]; rfl) (by decide) ?_
    exact lc_28 P.2.2.2.2.2.2.2.2.2.2.2.2.2.2.2.2.2.2.2.2.2.2.2.2.2.2.2.2.1 hRel hl0 hx hb S hC hX hbl hbA hi1 hi2 hi3 hi4 rfl rfl rfl rfl hnc hns hL hl kk
  by_cases n29 : x = 29
  · refine lv_tableIn (tgt := 1843) hx hb dL_law_39 (by rw [n29]; decide) (by rw [n29]; decide) (by rw [n29]; rfl) (by decide) ?_
    exact lc_29 P.2.2.2.2.2.2.2.2.2.2.2.2.2.2.2.2.2.2.2.2.2.2.2.2.2.2.2.2.2.1 hRel hl0 hx hb S hC hX hbl hbA hi1 hi2 hi3 hi4 rfl rfl rfl rfl hnc hns hL hl kk
  by_cases n30 : x = 30
  · refine lv_tableIn (tgt := 1930) hx hb dL_law_39 (by rw [n30]; decide) (by rw [n30]; decide) (by rw [n30]; rfl) (by decide) ?_
    exact lc_30 P.2.2.2.2.2.2.2.2.2.2.2.2.2.2.2.2.2.2.2.2.2.2.2.2.2.2.2.2.2.2.1 hRel hl0 hx hb S hC hX hbl hbA hi1 hi2 hi3 hi4 rfl rfl rfl rfl hnc hns hL hl kk
  by_cases n31 : x = 31
  · refine lv_tableIn (tgt := 1943) hx hb dL_law_39 (by rw [n31]; decide) (by rw [n31]; decide) (by rw [n31]; rfl) (by decide) ?_
    exact lc_31 P.2.2.2.2.2.2.2.2.2.2.2.2.2.2.2.2.2.2.2.2.2.2.2.2.2.2.2.2.2.2.2.1 hRel hl0 hx hb S hC hX hbl hbA hi1 hi2 hi3 hi4 rfl rfl rfl rfl hnc hns hL hl kk
  by_cases n32 : x = 32
  · refine lv_tableIn (tgt := 1999) hx hb dL_law_39 (by rw [n32]; decide) (by rw [n32]; decide) (by rw [n32]; rfl) (by decide) ?_
    exact lc_32 P.2.2.2.2.2.2.2.2.2.2.2.2.2.2.2.2.2.2.2.2.2.2.2.2.2.2.2.2.2.2.2.2.1 hRel hl0 hx hb S hC hX hbl hbA hi1 hi2 hi3 hi4 rfl rfl rfl rfl hnc hns hL hl kk
  by_cases n33 : x = 33
  · refine lv_tableIn (tgt := 2012) hx hb dL_law_39 (by rw [n33]; decide) (by rw [n33]; decide) (by rw [n33]; rfl) (by decide) ?_
    exact lc_33 P.2.2.2.2.2.2.2.2.2.2.2.2.2.2.2.2.2.2.2.2.2.2.2.2.2.2.2.2.2.2.2.2.2.1 hRel hl0 hx hb S hC hX hbl hbA hi1 hi2 hi3 hi4 rfl rfl rfl rfl hnc hns hL hl kk
  by_cases n34 : x = 34
  · refine lv_tableIn (tgt := 2025) hx hb dL_law_39 (by rw [n34]; decide) (by rw [n34]; decide) (by rw [n34]; rfl) (by decide) ?_
    exact lc_34 P.2.2.2.2.2.2.2.2.2.2.2.2.2.2.2.2.2.2.2.2.2.2.2.2.2.2.2.2.2.2.2.2.2.2.1 hRel hl0 hx hb S hC hX hbl hbA hi1 hi2 hi3 hi4 rfl rfl rfl rfl hnc hns hL hl kk
  by_cases n35 : x = 35
  · refine lv_tableIn (tgt := 2069) hx hb dL_law_39 (by rw [n35]; decide) (by rw [n35]; decide) (by rw [n35]; rfl) (by decide) ?_
    exact lc_35 P.2.2.2.2.2.2.2.2.2.2.2.2.2.2.2.2.2.2.2.2.2.2.2.2.2.2.2.2.2.2.2.2.2.2.2 hRel hl0 hx hb S hC hX hbl hbA hi1 hi2 hi3 hi4 rfl rfl rfl rfl hnc hns hL hl kk
  refine lv_tableOut (tgt := 2083) hx hb dL_law_39 (fm_out35 n0 n1 n2 n3 n4 n5 n6 n7 n8 n9 n10 n11 n12 n13 n14 n15 n16 n17 n18 n19 n20 n21 n22 n23 n24 n25 n26 n27 n28 n29 n30 n31 n32 n33 n34 n35) (by decide) ?_
  refine W.widen (k := nc + 8) (n := ns + 48) (by omega) (by omega) ?_
  exact kk b u0 φ η τ f ψ hv _ _ _ hRel hL rfl hl
end LCL
