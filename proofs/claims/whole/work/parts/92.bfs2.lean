/-! the pure layer: the search, class and model -/
theorem nt_re {T : Bs} {u d : Nat} {x : Option Nat} : ((nt T u x d).2.1 u).isSome = true := by
  unfold nt
  split
  · rename_i g
    exact g
  · show (if u = u then some x else T.2.1 u).isSome = true
    rw [if_pos rfl]
    rfl
theorem nt_mono {T : Bs} {u v d : Nat} {x : Option Nat} (h : (T.2.1 v).isSome = true) : ((nt T u x d).2.1 v).isSome = true := by
  rw [(nt_keep h).1]
  exact h
/-- one entry of a full bucket -/
theorem nt_st {P : Pm} {h o u k d : Nat} {c : Ce} {T : Bs} (hW : zWp P) (hV : zWc P.1 P.2.1 c) (hT : zT P.1 P.2.1 c h o T) (hr : (T.2.1 u).isSome = true) (hf : fS c P.2.1 u = none) (hk : k < P.2.1) (hd : d = T.2.2 u + 1) (hl : d ≤ T.1.length) : zT P.1 P.2.1 c h o (nt T (oth P.1 u (tgo (c (4 * u + k)))) (some (4 * u + k)) d) := by
  have hs := hW.2.1
  have ed : (4 * u + k) / 4 = u := by omega
  have em : (4 * u + k) % 4 = k := by omega
  refine nt_ok hW.1.2 hT (oth_lt _ (hT.2.2.1 u hr)) (fun _ => hl) (fun z => (by cases z)) (fun p hp => ?_)
  have e := Option.some.inj hp
  subst e
  rw [ed, em]
  exact ⟨hr, hd, hf, hk, rfl⟩
theorem ex_ok {P : Pm} {h o u d : Nat} {c : Ce} (hW : zWp P) (hV : zWc P.1 P.2.1 c) (hf : fS c P.2.1 u = none) : ∀ (n k : Nat) (T : Bs), k + n = P.2.1 → zT P.1 P.2.1 c h o T → (T.2.1 u).isSome = true → d = T.2.2 u + 1 → d ≤ T.1.length → zT P.1 P.2.1 c h o (ex P.1 c u d n k T) ∧ (∀ v, (T.2.1 v).isSome = true → (ex P.1 c u d n k T).2.1 v = T.2.1 v ∧ (ex P.1 c u d n k T).2.2 v = T.2.2 v) ∧ (∀ (j : Nat), j < T.1.length → (ex P.1 c u d n k T).1[j]? = T.1[j]?) ∧ (∀ j, k ≤ j → j < P.2.1 → ((ex P.1 c u d n k T).2.1 (oth P.1 u (tgo (c (4 * u + j))))).isSome = true) ∧ T.1.length ≤ (ex P.1 c u d n k T).1.length := by
  intro n
  induction n with
  | zero =>
    intro k T hk hT hr hd hl
    exact ⟨hT, fun v _ => ⟨rfl, rfl⟩, fun j _ => rfl, fun j h1 h2 => by omega, Nat.le_refl _⟩
  | succ n ih =>
    intro k T hk hT hr hd hl
    have h1 := nt_st (k := k) hW hV hT hr hf (by omega) hd hl
    have hkp := nt_keep (T := T) (u := oth P.1 u (tgo (c (4 * u + k)))) (x := some (4 * u + k)) (d := d) hr
    have hpre := nt_pre (T := T) (u := oth P.1 u (tgo (c (4 * u + k)))) (x := some (4 * u + k)) (d := d)
    obtain ⟨a1, a2, a3, a4, a5⟩ := ih (k + 1) _ (by omega) h1 (nt_mono hr) (by rw [hkp.2]; exact hd) (Nat.le_trans hl hpre.1)
    refine ⟨a1, fun v hv => ?_, fun j hj => ?_, fun j h2 h3 => ?_, Nat.le_trans hpre.1 a5⟩
    · have hv2 := nt_mono (T := T) (u := oth P.1 u (tgo (c (4 * u + k)))) (x := some (4 * u + k)) (d := d) hv
      obtain ⟨b1, b2⟩ := a2 v hv2
      have hkv := nt_keep (T := T) (u := oth P.1 u (tgo (c (4 * u + k)))) (x := some (4 * u + k)) (d := d) hv
      exact ⟨b1.trans hkv.1, b2.trans hkv.2⟩
    · exact (a3 j (by omega)).trans (hpre.2 j hj)
    · by_cases g : j = k
      · subst g
        have hre := nt_re (T := T) (u := oth P.1 u (tgo (c (4 * u + j)))) (x := some (4 * u + j)) (d := d)
        show ((ex P.1 c u d n (j + 1) (nt T (oth P.1 u (tgo (c (4 * u + j)))) (some (4 * u + j)) d)).2.1 _).isSome = true
        rw [(a2 _ hre).1]
        exact hre
      · exact a4 j (by omega) h3
theorem bf_g {b s n i : Nat} {c : Ce} {T : Bs} {u : Nat} (h : T.1[i]? = some u) (g : (fS c s u).isSome = true) : bf b s c (n + 1) i T = (some u, T) := by
  conv => lhs; unfold bf
  rw [h, og_s, if_pos g]
theorem bf_f {b s n i : Nat} {c : Ce} {T : Bs} {u : Nat} (h : T.1[i]? = some u) (g : fS c s u = none) : bf b s c (n + 1) i T = bf b s c n (i + 1) (ex b c u (T.2.2 u + 1) s 0 T) := by
  conv => lhs; unfold bf
  rw [h, og_s, g, if_neg (by decide)]
theorem bf_n {b s n i : Nat} {c : Ce} {T : Bs} (h : T.1[i]? = none) : bf b s c (n + 1) i T = (none, T) := by
  conv => lhs; unfold bf
  rw [h, og_n]
def zCd (b s : Nat) (c : Ce) (T : Bs) (u : Nat) : Prop := fS c s u = none ∧ ∀ k, k < s → (T.2.1 (oth b u (tgo (c (4 * u + k))))).isSome = true
theorem bf_ok {P : Pm} {h o : Nat} {c : Ce} (hW : zWp P) (hV : zWc P.1 P.2.1 c) : ∀ (n i : Nat) (T : Bs), i + n = 64 → zT P.1 P.2.1 c h o T → (∀ (j u : Nat), j < i → T.1[j]? = some u → zCd P.1 P.2.1 c T u) →
    zT P.1 P.2.1 c h o (bf P.1 P.2.1 c n i T).2 ∧ (∀ v, (T.2.1 v).isSome = true → (bf P.1 P.2.1 c n i T).2.2.1 v = T.2.1 v) ∧ (∀ u, (bf P.1 P.2.1 c n i T).1 = some u → ((bf P.1 P.2.1 c n i T).2.2.1 u).isSome = true ∧ (fS c P.2.1 u).isSome = true) ∧ ((bf P.1 P.2.1 c n i T).1 = none → ∀ u, ((bf P.1 P.2.1 c n i T).2.2.1 u).isSome = true → zCd P.1 P.2.1 c (bf P.1 P.2.1 c n i T).2 u) := by
  have hall : ∀ (i : Nat) (T : Bs), zT P.1 P.2.1 c h o T → T.1.length ≤ i → (∀ (j u : Nat), j < i → T.1[j]? = some u → zCd P.1 P.2.1 c T u) → ∀ u, (T.2.1 u).isSome = true → zCd P.1 P.2.1 c T u := by
    intro i T hT hl hc u hu
    obtain ⟨j, hj⟩ := List.mem_iff_getElem?.mp (hT.2.2.2.2.1 u hu)
    have := (List.getElem?_eq_some_iff.mp hj).1
    exact hc j u (by omega) hj
  intro n
  induction n with
  | zero =>
    intro i T hi hT hc
    have hl : T.1.length ≤ 64 := by rw [hT.1]; exact cnt_le _ _
    exact ⟨hT, fun v _ => rfl, fun u hu => (by cases hu), fun _ => hall i T hT (by omega) hc⟩
  | succ n ih =>
    intro i T hi hT hc
    cases hj : T.1[i]? with
    | none =>
      rw [bf_n hj]
      have hl := List.getElem?_eq_none_iff.mp hj
      exact ⟨hT, fun v _ => rfl, fun u hu => (by cases hu), fun _ => hall i T hT hl hc⟩
    | some u =>
      have hlt := (List.getElem?_eq_some_iff.mp hj).1
      have hur := hT.2.1 u (List.mem_of_getElem? hj)
      cases hf : fS c P.2.1 u with
      | some k =>
        rw [bf_g hj (by rw [hf]; rfl)]
        refine ⟨hT, fun v _ => rfl, fun v hv => ?_, fun z => (by cases z)⟩
        have := Option.some.inj hv
        subst this
        exact ⟨hur, by rw [hf]; rfl⟩
      | none =>
        rw [bf_f hj hf]
        have hdu := hT.2.2.2.1 i u hj
        obtain ⟨a1, a2, a3, a4, a5⟩ := ex_ok (d := T.2.2 u + 1) hW hV hf P.2.1 0 T (Nat.zero_add _) hT hur rfl (by omega)
        obtain ⟨b1, b2, b3, b4⟩ := ih (i + 1) _ (by omega) a1 (fun j v hji hv => by
          have hv' : T.1[j]? = some v := by
            rw [← a3 j (by omega)]
            exact hv
          by_cases g : j = i
          · subst g
            rw [hj] at hv'
            cases hv'
            exact ⟨hf, fun k hk => a4 k (Nat.zero_le _) hk⟩
          · obtain ⟨z1, z2⟩ := hc j v (by omega) hv'
            refine ⟨z1, fun k hk => ?_⟩
            rw [(a2 _ (z2 k hk)).1]
            exact z2 k hk)
        refine ⟨b1, fun v hv => ?_, b3, b4⟩
        have hv2 : ((ex P.1 c u (T.2.2 u + 1) P.2.1 0 T).2.1 v).isSome = true := by
          rw [(a2 v hv).1]
          exact hv
        rw [b2 v hv2]
        exact (a2 v hv).1
/-! the class -/
theorem tgo_c {b : Nat} {o : Option En} {e : En} (hb : b ≤ 6) (h : o = some e) (he : zEo b e) : G_X1_tagOf (cwo o) = nI (tgo o) := by
  subst h
  exact (zc_et hb he).1
theorem zc_ex {N : Nat} (hN : 5000 ≤ N) {P : Pm} {h o u d : Nat} {c : Ce} (v3 : Int32) (hW : zWp P) (hV : zWc P.1 P.2.1 c) (hf : fS c P.2.1 u = none) (hu : u < 2 ^ P.1) : ∀ (n k : Nat) (T : Bs) (φ : M2) (F : Nat), k + n = P.2.1 → n < F → zT P.1 P.2.1 c h o T → (T.2.1 u).isSome = true → d = T.2.2 u + 1 → d ≤ T.1.length → zPm φ P → zCl φ c → zRr φ T → ∃ φ', L_X2_endOfChain_70 N v3 (nI u) F (nI k) φ = some φ' ∧ zRr φ' (ex P.1 c u d n k T) ∧ ∀ c', c' ≠ 8 → c' ≠ 9 → c' ≠ 10 → φ' c' = φ c' := by
  have hs := hW.2.1
  have hb := hW.1
  have h6 := p2_6 hb.2
  intro n
  induction n with
  | zero =>
    intro k T φ F hk hF hT hr hd hl hP hC hR
    obtain ⟨F, rfl⟩ : ∃ j, F = j + 1 := ⟨F - 1, by omega⟩
    refine ⟨φ, ?_, hR, fun _ _ _ _ => rfl⟩
    show B_X2_endOfChain_70 N v3 (nI u) _ (nI k) φ = _
    unfold B_X2_endOfChain_70
    simp (disch := omega) only [zn_L, zn_M, zn_R, hP.2.1]
    rw [if_pos (by omega)]
  | succ n ih =>
    intro k T φ F hk hF hT hr hd hl hP hC hR
    obtain ⟨F, rfl⟩ : ∃ j, F = j + 1 := ⟨F - 1, by omega⟩
    have h1 := nt_st (k := k) hW hV hT hr hf (by omega) hd hl
    have hkp := nt_keep (T := T) (u := oth P.1 u (tgo (c (4 * u + k)))) (x := some (4 * u + k)) (d := d) hr
    have hpre := nt_pre (T := T) (u := oth P.1 u (tgo (c (4 * u + k)))) (x := some (4 * u + k)) (d := d)
    obtain ⟨e, hce⟩ := fS_full hf (show k < P.2.1 by omega)
    have heo := (hV _ e hce).2.2.1
    have htag := tgo_c hb.2 hce heo
    have htl : tgo (c (4 * u + k)) < 64 := by
      rw [hce]
      exact heo.1
    obtain ⟨w, w1, w2, w3⟩ := zc_rnote (d := d) (x := some (4 * u + k)) hb.2 (oth_lt (tgo (c (4 * u + k))) hu) (fun p hp => by have := Option.some.inj hp; omega) hT (fun v p hv => zT_p hb.2 hs.2 hT hv) hR
    have w1 : G_X5_note φ (nI (oth P.1 u (tgo (c (4 * u + k))))) (nI (4 * u + k)) = some w := w1
    obtain ⟨φ', g1, g2, g3⟩ := ih (k + 1) _ w F (by omega) (by omega) h1 (nt_mono hr) (by rw [hkp.2]; exact hd) (Nat.le_trans hl hpre.1) (zPm_c hP (w3 0 (by decide) (by decide) (by decide))) (zCl_c hC (w3 1 (by decide) (by decide) (by decide))) w2
    refine ⟨φ', ?_, g2, fun c' h1 h2 h3 => by rw [g3 c' h1 h2 h3, w3 c' h1 h2 h3]⟩
    rw [← g1]
    show B_X2_endOfChain_70 N v3 (nI u) _ (nI k) φ = _
    unfold B_X2_endOfChain_70
    simp (disch := omega) only [zn_L, zn_M, zn_R, hP.2.1, hP.1, zc_place, zc_cell, hC (4 * u + k) (by omega), htag, zc_part htl hb.2, w1]
    rw [if_neg (by omega)]
theorem zc_bf {N : Nat} (hN : 5000 ≤ N) {P : Pm} {h o : Nat} {c : Ce} (hW : zWp P) (hV : zWc P.1 P.2.1 c) : ∀ (n i : Nat) (T : Bs) (φ : M2) (F : Nat), i + n = 64 → n < F → zT P.1 P.2.1 c h o T → zPm φ P → zCl φ c → zRr φ T → ∃ φ', L_X2_endOfChain_27 N F (nI i) φ = some (zn_g nI mI (bf P.1 P.2.1 c n i T).1, φ') ∧ zRr φ' (bf P.1 P.2.1 c n i T).2 ∧ ∀ c', c' ≠ 8 → c' ≠ 9 → c' ≠ 10 → φ' c' = φ c' := by
  have hs := hW.2.1
  have hb := hW.1
  have h6 := p2_6 hb.2
  intro n
  induction n with
  | zero =>
    intro i T φ F hi hF hT hP hC hR
    obtain ⟨F, rfl⟩ : ∃ j, F = j + 1 := ⟨F - 1, by omega⟩
    refine ⟨φ, ?_, hR, fun _ _ _ _ => rfl⟩
    show B_X2_endOfChain_27 N _ (nI i) φ = some (mI, φ)
    unfold B_X2_endOfChain_27
    simp (disch := omega) only [zn_L, zn_M, zn_R]
    rw [if_pos (by omega)]
  | succ n ih =>
    intro i T φ F hi hF hT hP hC hR
    obtain ⟨F, rfl⟩ : ∃ j, F = j + 1 := ⟨F - 1, by omega⟩
    have hl64 : T.1.length ≤ 64 := by rw [hT.1]; exact cnt_le _ _
    cases hj : T.1[i]? with
    | none =>
      rw [bf_n hj]
      have hl := List.getElem?_eq_none_iff.mp hj
      refine ⟨φ, ?_, hR, fun _ _ _ _ => rfl⟩
      show B_X2_endOfChain_27 N _ (nI i) φ = some (mI, φ)
      unfold B_X2_endOfChain_27 G_X5_size
      simp (disch := omega) only [zn_L, zn_M, zn_R, hR.1]
      rw [if_neg (by omega), if_pos hl]
    | some u =>
      have hlt := (List.getElem?_eq_some_iff.mp hj).1
      have hur := hT.2.1 u (List.mem_of_getElem? hj)
      have hu := hT.2.2.1 u hur
      have hfree := zc_free hN (u := u) hP hC hW hV (by omega)
      have h9 := hR.2.1 i u hj
      have hba : G_X5_bucketAt φ (nI i) = some (nI u) := by
        unfold G_X5_bucketAt
        simp (disch := omega) only [zn_L, zn_M, zn_R, h9]
        rw [if_neg (by omega), if_neg (by omega)]
      cases hf : fS c P.2.1 u with
      | some k =>
        have hk := (fS_lt hf).1
        rw [hf] at hfree
        rw [bf_g hj (by rw [hf]; rfl)]
        refine ⟨φ, ?_, hR, fun _ _ _ _ => rfl⟩
        show B_X2_endOfChain_27 N _ (nI i) φ = some (nI u, φ)
        unfold B_X2_endOfChain_27 G_X5_size
        simp (disch := omega) only [zn_L, zn_M, zn_R, hR.1, hba, hfree, zn_g, if_false]
        rw [if_neg (by omega), if_neg (by omega)]
      | none =>
        rw [hf] at hfree
        rw [bf_f hj hf]
        have hdu := hT.2.2.2.1 i u hj
        obtain ⟨a1, a2, a3, a4, a5⟩ := ex_ok (d := T.2.2 u + 1) hW hV hf P.2.1 0 T (Nat.zero_add _) hT hur rfl (by omega)
        obtain ⟨w, w1, w2, w3⟩ := zc_ex hN (d := T.2.2 u + 1) (nI i) hW hV hf hu P.2.1 0 T φ N (Nat.zero_add _) (by omega) hT hur rfl (by omega) hP hC hR
        obtain ⟨φ', g1, g2, g3⟩ := ih (i + 1) _ w F (by omega) (by omega) a1 (zPm_c hP (w3 0 (by decide) (by decide) (by decide))) (zCl_c hC (w3 1 (by decide) (by decide) (by decide))) w2
        refine ⟨φ', ?_, g2, fun c' h1 h2 h3 => by rw [g3 c' h1 h2 h3, w3 c' h1 h2 h3]⟩
        rw [← g1]
        show B_X2_endOfChain_27 N _ (nI i) φ = _
        unfold B_X2_endOfChain_27 G_X5_size
        simp (disch := omega) only [zn_L, zn_M, zn_R, hR.1, hba, hfree, zn_g, if_true, w1]
        rw [if_neg (by omega), if_neg (by omega)]
theorem zc_eoc {N : Nat} (hN : 5000 ≤ N) {P : Pm} {φ : M2} {h o : Nat} {c : Ce} (hW : zWp P) (hV : zWc P.1 P.2.1 c) (hP : zPm φ P) (hC : zCl φ c) (hh : h < 2 ^ P.1) (ho : o < 2 ^ P.1) : ∃ φ', G_X2_endOfChain N φ (nI h) (nI o) = some (zn_g nI mI (bfs P.1 P.2.1 c h o).1, φ') ∧ zRr φ' (bfs P.1 P.2.1 c h o).2 ∧ ∀ c', c' ≠ 8 → c' ≠ 9 → c' ≠ 10 → φ' c' = φ c' := by
  have hb := hW.1.2
  have hs := hW.2.1
  have h6 := p2_6 hb
  have hloop := zn_for (fun k i s => L_X5_restart_7 N k (nI i) s) 64 (fun i s => (∀ t, t < i → s 10 t = mJ) ∧ ∀ c' i', c' ≠ 10 → s c' i' = upd2 φ 8 2 (nI 0) c' i') (fun s => (∀ t, t < 64 → s 10 t = mJ) ∧ ∀ c' i', c' ≠ 10 → s c' i' = upd2 φ 8 2 (nI 0) c' i') (fun i s hi hI => ?_) (fun s hI => ?_) N 0 (upd2 φ 8 2 (nI 0)) (by omega) ⟨fun t h => by omega, fun _ _ _ => rfl⟩ (by omega)
  · obtain ⟨w, g1, g2, g3⟩ := hloop
    have w0 : ∀ c', c' ≠ 8 → c' ≠ 10 → w c' = φ c' := fun c' h1 h2 => funext fun i' => by rw [g3 c' i' h2, upd2_o h1]
    have e0 : zT P.1 P.2.1 c h o ([], (fun _ => none), fun _ => 0) := by
      refine ⟨?_, fun u hu => (by cases hu), fun u hu => (by cases hu), fun j u hj => (by simp at hj), fun u hu => (by cases hu), fun u hu => (by cases hu), fun u p hu => (by cases hu)⟩
      exact (cnt_0 64 0 (fun i _ _ => rfl)).symm
    have hRw : zRr w ([], (fun _ => none), fun _ => 0) := ⟨by rw [g3 8 2 (by decide), upd2_e, if_pos ⟨rfl, rfl⟩]; rfl, fun j u hj => by simp at hj, fun u hu => g2 u hu⟩
    obtain ⟨v, v1, v2, v3⟩ := zc_rnote (d := 0) (x := none) hb hh (fun p hp => by cases hp) e0 (fun v p hv => by cases hv) hRw
    have t1 := nt_ok hb e0 hh (fun _ => Nat.zero_le _) (fun _ => ⟨rfl, Or.inl rfl⟩) (x := none) (fun p hp => (by cases hp))
    obtain ⟨t, u1, u2, u3⟩ := zc_rnote (d := 0) (x := none) hb ho (fun p hp => by cases hp) t1 (fun v p hv => zT_p hb hs.2 t1 hv) v2
    have hb0 : zT P.1 P.2.1 c h o (b0 h o) := b0_ok hb hh ho
    have ft : ∀ c', c' ≠ 8 → c' ≠ 9 → c' ≠ 10 → t c' = φ c' := fun c' h1 h2 h3 => by rw [u3 c' h1 h2 h3, v3 c' h1 h2 h3, w0 c' h1 h3]
    obtain ⟨φ', k1, k2, k3⟩ := zc_bf hN hW hV 64 0 (b0 h o) t N rfl (by omega) hb0 (zPm_c hP (ft 0 (by decide) (by decide) (by decide))) (zCl_c hC (ft 1 (by decide) (by decide) (by decide))) u2
    refine ⟨φ', ?_, k2, fun c' h1 h2 h3 => by rw [k3 c' h1 h2 h3, ft c' h1 h2 h3]⟩
    have v1 : G_X5_note w (nI h) mI = some v := v1
    have u1 : G_X5_note v (nI o) mI = some t := u1
    unfold G_X2_endOfChain G_X5_restart
    simp only [zn_L, zn_M, zn_R, g1, v1, u1, k1]
    rfl
  · refine ⟨upd2 s 10 i mJ, ⟨fun t ht => ?_, fun c' i' hc => ?_⟩, fun k => ?_⟩
    · rw [upd2_e]
      by_cases g : t = i
      · rw [if_pos ⟨rfl, g⟩]
      · rw [if_neg (fun z => g z.2)]
        exact hI.1 t (by omega)
    · rw [upd2_e, if_neg (fun z => hc z.1)]
      exact hI.2 c' i' hc
    · show B_X5_restart_7 N _ (nI i) s = _
      unfold B_X5_restart_7
      simp (disch := omega) only [zn_L, zn_M, zn_R]
      rw [if_neg (by omega)]
  · refine ⟨s, hI, fun k => ?_⟩
    show B_X5_restart_7 N _ (nI 64) s = _
    unfold B_X5_restart_7
    simp (disch := omega) only [zn_L, zn_M, zn_R]
    rw [if_pos (by omega)]
