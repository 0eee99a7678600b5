set_option maxHeartbeats 4000000 in
set_option maxRecDepth 100000 in
theorem w_start {s : State} {b : Nat} (hts : ∀ w ∈ lw_tbl, w.before #[Value.ref b] s = true) (hgv : (Jvm.Cond.and given_1 narrow_1).before #[Value.ref b] s = true) : ∃ (D : va_G) (cI : ClassId), va_K D vwCl [(cI, .int)] s ∧ fx_N8 s ∧ xT s ∧ xZ (fun q : Nat => s.heap.size ≤ q) s s.heap ∧ xNc s := by
  have hA : ∀ w ∈ AW, w.before #[Value.ref b] s = true := fun w hw => hts w (AW_in w hw)
  have hg := flat_of_before _ hgv
  obtain ⟨c0, i0, k0⟩ := u_known (C := RX2) (T := TX2) (N := 11) (n := 11) hA in_wsX20 (hA _ aT_RX2)
  obtain ⟨c1, i1, k1⟩ := u_known (C := RX3) (T := TX3) (N := 2) (n := 2) hA in_wsX30 (hA _ aT_RX3)
  obtain ⟨c2, i2, k2⟩ := u_known (C := RX4) (T := TX4) (N := 2) (n := 2) hA in_wsX40 (hA _ aT_RX4)
  obtain ⟨c3, i3, k3⟩ := u_known (C := RX5) (T := TX5) (N := 3) (n := 3) hA in_wsX50 (hA _ aT_RX5)
  obtain ⟨c4, i4, k4⟩ := u_known (C := RX6) (T := TX6) (N := 2) (n := 2) hA in_wsX60 (hA _ aT_RX6)
  obtain ⟨c5, i5, k5⟩ := u_known (C := RX7) (T := TX7) (N := 3) (n := 3) hA in_wsX70 (hA _ aT_RX7)
  obtain ⟨c6, i6, k6⟩ := u_known (C := RX8) (T := TX8) (N := 4) (n := 4) hA in_wsX80 (hA _ aT_RX8)
  obtain ⟨c7, i7, k7⟩ := u_known (C := RX9) (T := TX9) (N := 29) (n := 29) hA in_wsX90 (hA _ aT_RX9)
  obtain ⟨D, hKc⟩ : ∃ D : va_G, ∀ (k : Nat) (q : vw_C), vwCl[k]? = some q → u_Kn s q.1 q.2.1 q.2.2 (D.1 k) (D.2 k) := by
    refine ⟨(fun k => match k with | 0 => c0 | 1 => c1 | 2 => c2 | 3 => c3 | 4 => c4 | 5 => c5 | 6 => c6 | _ => c7, fun k => match k with | 0 => i0 | 1 => i1 | 2 => i2 | 3 => i3 | 4 => i4 | 5 => i5 | 6 => i6 | _ => i7), ?_⟩
    intro k q hq
    match k, hq with
    | 0, hq => cases hq; exact k0
    | 1, hq => cases hq; exact k1
    | 2, hq => cases hq; exact k2
    | 3, hq => cases hq; exact k3
    | 4, hq => cases hq; exact k4
    | 5, hq => cases hq; exact k5
    | 6, hq => cases hq; exact k6
    | 7, hq => cases hq; exact k7
    | k + 8, hq => simp [vwCl] at hq
  obtain ⟨cI, kA, comp, hfi, hki, hkk⟩ := Cond.arrayClass_spec (hA _ aA_int)
  have str : ∀ (k : Nat) (tx : String), Cond.stringRef RX8 k tx ∈ lw_tbl → ∃ a, vk_R RX8 k tx a s := fun k tx h => by
    have h1 := hts _ h
    obtain ⟨cC, kC, hfc, -⟩ := Cond.instantiable_spec (hA _ aT_RX8)
    obtain ⟨kk, cf, i, a, -, -, -, -, -, hev⟩ := Cond.stringRef_spec hfc h1
    exact ⟨a, vk_R.of h1 hev⟩
  have hi1 : (Cond.isRef (.static Bundle.tN "UNASSIGNED_STACK" Bundle.steD)).before #[Value.ref b] s = true := hg _ (by decide +kernel)
  have hi2 : (Cond.isRef (.static Bundle.tN "SUPPRESSED_SENTINEL" Bundle.listD)).before #[Value.ref b] s = true := hg _ (by decide +kernel)
  have hn1 : (Cond.not (.castable eIS eIA)).before #[Value.ref b] s = true := hg _ (by decide +kernel)
  have hn2 : (Cond.not (.castable eIA eIO)).before #[Value.ref b] s = true := hg _ (by decide +kernel)
  refine ⟨D, cI, ⟨hKc, fun k q h => ?_⟩, ⟨⟨va_Nw.of rfl (hts (.methodLinkNest RX2 36 yX4_init RX8) (by decide +kernel)), va_Nw.of rfl (hts (.methodLinkNest RX2 43 yX7_init RX8) (by decide +kernel)), va_Nw.of rfl (hts (.methodLinkNest RX2 50 yX5_init RX8) (by decide +kernel))⟩, va_Nw.of rfl (hts (.methodLinkNest RX8 28 yX6_init RX8) (by decide +kernel)), va_AO.of (hts (.arrayOver (.object RX2)) (by decide +kernel))⟩, ⟨va_Nw.of rfl (hts (.castable eIA eIA) (by decide +kernel)), va_Nw.of rfl (hts (.castable eIO eIO) (by decide +kernel)), va_Nw.of rfl (hts (.castable eIS eIS) (by decide +kernel)), ⟨va_Nw.of rfl (hts (.declares (eD "java/lang/RuntimeException")) (by decide +kernel)), va_Nw.of rfl (hts (.declares (eD "java/lang/Exception")) (by decide +kernel)), va_Nw.of rfl (hts (.declares (eD "java/lang/Throwable")) (by decide +kernel))⟩, str 242 _ (by decide +kernel), str 247 _ (by decide +kernel), str 235 _ (by decide +kernel), str 195 _ (by decide +kernel), str 219 _ (by decide +kernel)⟩, ⟨vx_Zqof (hts (.laysStatic Bundle.tN "UNASSIGNED_STACK" Bundle.steD) (by decide +kernel)) (hts (.initialized Bundle.tN) (by decide +kernel)) hi1 (fun a h => Nat.not_le.mpr h), vx_Zqof (hts (.laysStatic Bundle.tN "SUPPRESSED_SENTINEL" Bundle.listD) (by decide +kernel)) (hts (.initialized Bundle.tN) (by decide +kernel)) hi2 (fun a h => Nat.not_le.mpr h)⟩, va_Nc.of hn1, va_Nc.of hn2⟩
  match k, h with
  | 0, h =>
    cases h
    exact ⟨fun n z => ⟨fun k h => (by cases h), kA, hki, comp, hkk⟩, hfi⟩
  | k + 1, h => simp at h
set_option maxHeartbeats 4000000 in
set_option maxRecDepth 100000 in
theorem whole_start {p : Program} {e : Env} {s : State} {m : MethodId} {below : List Frame} {meth : Method} {c : Code} (l : Launch) (hflags : l.flags = flags0) {b L : Nat} {xs : Nat → Int32} (hL : L ≤ 2560) (C0 : lw_At p s m meth c b L xs) : W p l e room_1 s m #[Value.ref b] below meth c s.heap [] 0 0 (lw_Z below #[Value.ref b] s) (entryFrame m ([Value.ref b] : List Value).toArray 7) := by
  obtain ⟨hx, hb, hr, hml, hown, hts, hX, hbl, hlocks, hgv⟩ := id C0
  have hl0 : l.stackTraces = false := by
    unfold Launch.stackTraces
    rw [hflags]
    decide +kernel
  have hA : ∀ w ∈ AW, w.before #[Value.ref b] s = true := fun w hw => hts w (AW_in w hw)
  have hAq : ∀ q : Nat, s.heap.size ≤ q → (fun q : Nat => s.heap.size ≤ q) q := fun _ h => h
  have hbA : ¬ (fun q : Nat => s.heap.size ≤ q) b := Nat.not_le.mpr hbl
  obtain ⟨D, cI, hK, hN, hxT, hxZ, hxNc⟩ := w_start hts hgv
  obtain ⟨ψ0, hE, hrel⟩ := zI_rel (N := 5000) (Nat.le_refl _)
  have S : CallFix p m c cL_law 7 s ([.ref b] : List Value).toArray AW RL := ⟨hx, hb, hml, hown, hA⟩
  have hS : va_S (fun q : Nat => s.heap.size ≤ q) s.heap s.heap [] := va_S.rf
  have hP : va_P D vwCl [] s.heap := fun k q h => by simp at h
  have hD : va_D (fun q : Nat => s.heap.size ≤ q) [] := ⟨fun i j p q h => by simp at h, fun k q h => by simp at h⟩
  have hl := lv_entry ([.ref b]) (n := 7) (Nat.le_of_ble_eq_true rfl)
  rw [lg_entry_eq]
  generalize (lg_sl ([.ref b]) ++ List.replicate (7 - (lg_sl ([.ref b])).length) Slot.unset).toArray = ls at hl ⊢
  have hl : lv_has ls 7 [(0, .ref b)] := hl
  refine va_new (ci := 6) (fs := [.null, .null, .null, .null]) (C := RX8) (T := TX8) (N := 4) hx hb hA in_wsX80 tyX8 tyX8_ok hown (hA _ aL_RL_8) (hA _ aT_RX8) (hA _ aN_RX8) hK hP hD hS hAq rfl (by decide +kernel) (Nat.le_of_ble_eq_true rfl) (Nat.le_of_ble_eq_true rfl) dL_law_0 (fun qn H hP hD hS => ?_)
  have hP : va_P D vwCl [(qn, .inr (6, [.null, .null, .null, .null]))] H := hP
  have hD : va_D (fun q : Nat => s.heap.size ≤ q) [(qn, .inr (6, [.null, .null, .null, .null]))] := hD
  refine lv_dup hx hb dL_law_3 rfl ?_
  have hFc := va_free (wc := [(qn, .inr (6, [.null, .null, .null, .null]))]) hD hS hAq [0] rfl
  have hPc := hP.sub (ws' := [(qn, .inr (6, [.null, .null, .null, .null]))]) [0] rfl
  have hDc := hD.sub (ws' := [(qn, .inr (6, [.null, .null, .null, .null]))]) [0] (by decide) rfl
  refine va_callv (va_runI (As := []) (rest := [.ref qn]) S (c_X8_init l D cI qn H.size) (cwI 0 hA (gI aC_X8_init) rfl rfl rfl (hA _ aN_RX8) (hA _ aM_RL_108) (hA _ aI_X8_init) rfl (by decide +kernel) ⟨Nat.le_of_ble_eq_true rfl, Nat.le_of_ble_eq_true rfl⟩) ⟨fun a U g mk q => by obtain ⟨q0, q1, qP, qK, qD, qN⟩ := q; exact ⟨q0, q1, qP, va_K.moved (u := U) (U := U.calling g mk a) (Vm.Alike.refl U.vm) qK, qD, (fx_N8.same (u := U) (U := U.calling g mk a) rfl qN)⟩, fun U hU hW => ⟨rfl, by rw [hU], by rw [hU]; exact hPc, va_K.moved hW.alike hK, hDc.weaken (fun _ _ _ _ => trivial), (fx_N8.warm hW hN)⟩⟩ rfl rfl hl.1 rfl (lv_room (Nat.le_of_ble_eq_true rfl)) dL_law_4 ⟨Nat.le_of_ble_eq_true rfl, Nat.le_of_ble_eq_true rfl⟩) hS (fun q _ h => hFc q h) hFc (fun u t H1 locs ht hvm _ hB hz1 hk1 hS => ?_)
  obtain ⟨cF, b8, rfl, hP1, hK1, hD1⟩ := hB
  have hKF : va_K D vwCl (xTy cI cF) s := va_K.moved hvm.symm hK1
  rw [ht] at hP1
  obtain ⟨hP, hD⟩ := va_join (wr := []) (w1 := xW cI cF b8 fFI fFI (fun _ => fFI, 0) fT0) hP hD [0] [] rfl rfl (by decide) (by decide) hk1 hFc hP1 hD1
  generalize H1 = H at hP hS ⊢
  have hP : va_P D vwCl (xW cI cF b8 fFI fFI (fun _ => fFI, 0) fT0) H := hP
  have hD : va_D (fun q : Nat => s.heap.size ≤ q) (xW cI cF b8 fFI fFI (fun _ => fFI, 0) fT0) := hD
  clear hP1 hD1 hk1 hFc hPc hDc hz1
  refine lv_astore_n (lv' := [(1, .ref (b8 6 0)), (0, .ref b)]) hx hb dL_law_7 rfl hl (by decide) rfl (fun ls hl => ?_)
  refine va_new (ci := 7) (fs := [.null, .null, .int 0, .null, .int 0, .int 0, .int 0, .int 0, .int 0, .int 0, .null, .null, .int 0, .null, .null, .int 0, .null, .null, .null, .null, .null, .null, .null, .null, .int 0, .int 0, .null, .null, .long 0]) (C := RX9) (T := TX9) (N := 29) hx hb hA in_wsX90 tyX9 tyX9_ok hown (hA _ aL_RL_109) (hA _ aT_RX9) (hA _ aN_RX9) hK hP hD hS hAq rfl (by decide +kernel) (Nat.le_of_ble_eq_true rfl) (Nat.le_of_ble_eq_true rfl) dL_law_8 (fun q9 H hP hD hS => ?_)
  refine lv_dup hx hb dL_law_11 rfl ?_
  have hFc := va_free (wc := [(q9, .inr (7, [.null, .null, .int 0, .null, .int 0, .int 0, .int 0, .int 0, .int 0, .int 0, .null, .null, .int 0, .null, .null, .int 0, .null, .null, .null, .null, .null, .null, .null, .null, .int 0, .int 0, .null, .null, .long 0]))]) hD hS hAq [71] rfl
  have hPc := hP.sub (ws' := [(q9, .inr (7, [.null, .null, .int 0, .null, .int 0, .int 0, .int 0, .int 0, .int 0, .int 0, .null, .null, .int 0, .null, .null, .int 0, .null, .null, .null, .null, .null, .null, .null, .null, .int 0, .int 0, .null, .null, .long 0]))]) [71] rfl
  have hDc := hD.sub (ws' := [(q9, .inr (7, [.null, .null, .int 0, .null, .int 0, .int 0, .int 0, .int 0, .int 0, .int 0, .null, .null, .int 0, .null, .null, .int 0, .null, .null, .null, .null, .null, .null, .null, .null, .int 0, .int 0, .null, .null, .long 0]))]) [71] (by decide) rfl
  refine va_callv (va_runI (As := []) (rest := [.ref q9]) S (c_X9_init l D cI q9 H.size 5000 ψ0 hE) (cwI 0 hA (gI aC_X9_init) rfl rfl rfl (hA _ aN_RX9) (hA _ aM_RL_111) (hA _ aI_X9_init) rfl (by decide +kernel) ⟨Nat.le_of_ble_eq_true rfl, Nat.le_of_ble_eq_true rfl⟩) ⟨fun a U g mk q => by obtain ⟨q0, q1, qP, qK, qD, qN⟩ := q; exact ⟨q0, q1, qP, va_K.moved (u := U) (U := U.calling g mk a) (Vm.Alike.refl U.vm) qK, qD, trivial⟩, fun U hU hW => ⟨rfl, by rw [hU], by rw [hU]; exact hPc, va_K.moved hW.alike hK, hDc.weaken (fun _ _ _ _ => trivial), trivial⟩⟩ rfl rfl hl.1 rfl (lv_room (Nat.le_of_ble_eq_true rfl)) dL_law_12 ⟨Nat.le_of_ble_eq_true rfl, Nat.le_of_ble_eq_true rfl⟩) hS (fun q _ h => hFc q h) hFc (fun u t H1 locs ht hvm _ hB hz1 hk1 hS => ?_)
  obtain ⟨a, rfl, hP1, hD1⟩ := hB
  rw [ht] at hP1
  obtain ⟨hP, hD⟩ := va_join (wr := xW cI cF b8 fFI fFI (fun _ => fFI, 0) fT0) (w1 := mbW cI a ψ0 0) hP hD [71] (List.range 71) rfl rfl (by decide) (by decide) hk1 hFc hP1 hD1
  generalize H1 = H at hP hS ⊢
  have hP : va_P D vwCl (xW cI cF b8 fFI fFI (fun _ => fFI, 0) fT0 ++ mbW cI a ψ0 0) H := hP
  have hD : va_D (fun q : Nat => s.heap.size ≤ q) (xW cI cF b8 fFI fFI (fun _ => fFI, 0) fT0 ++ mbW cI a ψ0 0) := hD
  clear hP1 hD1 hk1 hFc hPc hDc hz1
  refine lv_astore_n (lv' := [(2, .ref (a 0)), (1, .ref (b8 6 0)), (0, .ref b)]) hx hb dL_law_15 rfl hl (by decide) rfl (fun ls hl => ?_)
  refine lv_iconst (v := 1) hx hb dL_law_16 (by decide) ?_
  refine va_newa (D := D) (cl := vwCl) (atype := .long) hx hb (hA _ aA_long) (ty := .long) rfl hKF hP hD hS hAq (N' := 1) (a0 := (1, .inr (.inl (fun _ => 0)))) (fun _ => rfl) (by decide) (by decide) (by decide) (Nat.le_of_ble_eq_true rfl) (Nat.le_of_ble_eq_true rfl) dL_law_17 (fun q cL H hKn hP hD hS => ?_)
  have hKn : va_K D vwCl (hTy cI cF cL) s := hKn
  refine lv_astore_n (lv' := [(3, .ref q), (2, .ref (a 0)), (1, .ref (b8 6 0)), (0, .ref b)]) hx hb dL_law_19 rfl hl (by decide) rfl (fun ls hl => ?_)
  refine lv_iconst (v := 0) hx hb dL_law_20 (by decide) ?_
  refine lv_istore (lv' := [(4, .int 0), (3, .ref q), (2, .ref (a 0)), (1, .ref (b8 6 0)), (0, .ref b)]) hx hb dL_law_21 hl (by decide) rfl (fun ls hl => ?_)
  have hPl : va_P D vwCl (lW cI cF cL b8 q fFI fFI (fun _ => fFI, 0) fT0 (fun _ => 0) a ψ0 0) H := hP.sub (List.range 71 ++ 89 :: List.range' 71 18) rfl
  have hDl : va_D (fun q : Nat => s.heap.size ≤ q) (lW cI cF cL b8 q fFI fFI (fun _ => fFI, 0) fT0 (fun _ => 0) a ψ0 0) := hD.sub (List.range 71 ++ 89 :: List.range' 71 18) (by decide) rfl
  refine W.widen (k := 100 + 8 * 0) (n := 20000 + 48 * 0) (by omega) (by omega) ?_
  refine lc_loop (pall (N := 5000) (Nat.le_refl _)) hl0 hx hb S ⟨hKn, hxT, hxZ, hxNc, hAq⟩ hX hbl hbA hL (fun i H locs ls hi hS => ?_) 514 0 b8 fFI fFI (fun _ => fFI, 0) fT0 (fun _ => 0) ψ0 0 H _ ls rfl hrel ⟨hPl, hDl, hS⟩ hl
  refine lv_iconst (v := 1) hx hb dL_law_2089 (by decide) ?_
  refine W.widen (k := 601024) (n := 7293034) (by omega) (by omega) ?_
  refine va_forget (fun q hq => hS.2.2 q hq) ?_
  refine W.base ?_
  exact lw_ret (Drawn.sameBut.refl s.drawn lw_cs) hx hb hr hlocks dL_law_2090
