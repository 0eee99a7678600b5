/-! the pure layer: the search of the model -/
def zRs (ψ : M2) (T : Bs) : Prop := ψ 0 15 = nI T.1.length ∧ (∀ (j u : Nat), T.1[j]? = some u → ψ 7 j = nI u) ∧ ∀ u, u < 64 → (T.2.1 u = none → ψ 8 u = mI) ∧ ∀ o, T.2.1 u = some o → ψ 8 u = nI (T.2.2 u) ∧ ψ 9 u = og nI mI o
/-- what the search leaves -/
def zFs (ψ ψ' : M2) : Prop := ∀ c' i', c' ≠ 7 → c' ≠ 8 → c' ≠ 9 → (c' ≠ 0 ∨ i' ≠ 15) → ψ' c' i' = ψ c' i'
theorem zFs_r (ψ : M2) : zFs ψ ψ := fun _ _ _ _ _ _ => rfl
theorem zFs_t {ψ ψ' ψ'' : M2} (h : zFs ψ ψ') (g : zFs ψ' ψ'') : zFs ψ ψ'' := fun c i a b d e => (g c i a b d e).trans (h c i a b d e)
theorem zFs_1 {ψ ψ' : M2} (h : zFs ψ ψ') : ψ' 1 = ψ 1 := funext fun i => h 1 i (by decide) (by decide) (by decide) (Or.inl (by decide))
theorem zFs_f {ψ ψ' : M2} (h : zFs ψ ψ') : zFr ψ ψ' := by
  intro c i hk
  refine h c i ?_ ?_ ?_ ?_
  · intro z
    subst z
    cases hk
  · intro z
    subst z
    cases hk
  · intro z
    subst z
    cases hk
  · by_cases z : c = 0
    · subst z
      refine Or.inr (fun y => ?_)
      subst y
      cases hk
    · exact Or.inl z
theorem zm_reach {ψ : M2} {T : Bs} {b s h o u d : Nat} {c : Ce} {x : Option Nat} (hb : b ≤ 6) (hu : u < 2 ^ b) (hT : zT b s c h o T) (hR : zRs ψ T) : ∃ ψ', G_X9_reach ψ (nI u) (nI d) (og nI mI x) = some ψ' ∧ zRs ψ' (nt T u x d) ∧ zFs ψ ψ' := by
  have h6 := p2_6 hb
  obtain ⟨r1, r2, r3⟩ := hR
  obtain ⟨q1, q2⟩ := r3 u (by omega)
  have hlen : T.1.length ≤ 64 := by rw [hT.1]; exact cnt_le _ _
  cases hf : T.2.1 u with
  | some y =>
    have ent : nt T u x d = T := by
      unfold nt
      rw [hf, if_pos (by rfl)]
    rw [ent]
    refine ⟨ψ, ?_, ⟨r1, r2, r3⟩, zFs_r ψ⟩
    have hd := hT.2.2.2.1
    have hm := hT.2.2.2.2.1 u (by rw [hf]; rfl)
    obtain ⟨j, hj⟩ := List.mem_iff_getElem?.mp hm
    have hjl := (List.getElem?_eq_some_iff.mp hj).1
    have hdu := hd j u hj
    have h8 := (q2 y hf).1
    unfold G_X9_reach
    simp (disch := omega) only [zn_L, zn_M, zn_R, h8, if_false]
  | none =>
    have hl2 : T.1.length < 64 := by
      rw [hT.1]
      exact cnt_lt (u := u) (by rw [hf]; rfl) 64 0 (Nat.zero_le _) (by omega)
    have ent : nt T u x d = (T.1 ++ [u], (fun v => if v = u then some x else T.2.1 v), fun v => if v = u then d else T.2.2 v) := by
      unfold nt
      rw [hf, if_neg (by decide)]
    have h8 := q1 hf
    rw [ent]
    refine ⟨upd2 (upd2 (upd2 (upd2 ψ 8 u (nI d)) 9 u (og nI mI x)) 7 T.1.length (nI u)) 0 15 (nI (T.1.length + 1)), ?_, ⟨?_, fun j v hj => ?_, fun v hv => ⟨fun hn => ?_, fun y hy => ?_⟩⟩, ?_⟩
    · have p1 : upd2 (upd2 ψ 8 u (nI d)) 9 u (og nI mI x) 0 15 = nI T.1.length := by
        rw [upd2_o (by decide), upd2_o (by decide)]
        exact r1
      have p2 : upd2 (upd2 (upd2 ψ 8 u (nI d)) 9 u (og nI mI x)) 7 T.1.length (nI u) 0 15 = nI T.1.length := by
        rw [upd2_o (by decide)]
        exact p1
      unfold G_X9_reach
      simp (disch := omega) only [zn_L, zn_M, zn_R, h8, if_true, p1, p2]
    · rw [upd2_e, if_pos ⟨rfl, rfl⟩]
      show _ = nI (T.1 ++ [u]).length
      rw [List.length_append]
      rfl
    · have hj : (T.1 ++ [u])[j]? = some v := hj
      rw [upd2_o (by decide), upd2_e]
      rcases Nat.lt_or_ge j T.1.length with k | k
      · rw [List.getElem?_append_left k] at hj
        rw [if_neg (fun z => by omega), upd2_o (by decide), upd2_o (by decide)]
        exact r2 j v hj
      · have hl := (List.getElem?_eq_some_iff.mp hj).1
        rw [List.length_append] at hl
        have e : j = T.1.length := by
          simp at hl
          omega
        subst e
        have e2 : (T.1 ++ [u])[T.1.length]? = some u := by simp
        rw [e2] at hj
        cases hj
        rw [if_pos ⟨rfl, rfl⟩]
    · have hn : (if v = u then some x else T.2.1 v) = none := hn
      rw [upd2_o (by decide), upd2_o (by decide), upd2_o (by decide), upd2_e]
      by_cases e : v = u
      · rw [if_pos e] at hn
        cases hn
      · rw [if_neg e] at hn
        rw [if_neg (fun z => e z.2)]
        exact (r3 v hv).1 hn
    · have hy : (if v = u then some x else T.2.1 v) = some y := hy
      rw [upd2_o (c' := 8) (by decide), upd2_o (c' := 8) (by decide), upd2_o (c' := 8) (by decide), upd2_o (c' := 9) (by decide), upd2_o (c' := 9) (by decide), upd2_e, upd2_e]
      show _ = nI (if v = u then d else T.2.2 v) ∧ _
      by_cases e : v = u
      · rw [if_pos e] at hy
        have := Option.some.inj hy
        subst this
        rw [if_pos e, if_pos ⟨rfl, e⟩, if_pos ⟨rfl, e⟩]
        exact ⟨rfl, rfl⟩
      · rw [if_neg e] at hy
        rw [if_neg e, if_neg (fun z => e z.2), if_neg (fun z => e z.2), upd2_o (by decide)]
        exact (r3 v hv).2 y hy
    · intro c' i' h7 h8' h9 h0
      rw [upd2_e, if_neg (by omega), upd2_o h7, upd2_o h9, upd2_o h8']
theorem zm_ex {N : Nat} (hN : 5000 ≤ N) {P : Pm} {h o u d : Nat} {c : Ce} (v2 : Int32) (hW : zWp P) (hV : zWc P.1 P.2.1 c) (hf : fS c P.2.1 u = none) (hu : u < 2 ^ P.1) : ∀ (n k : Nat) (T : Bs) (ψ : M2) (F : Nat), k + n = P.2.1 → n < F → zT P.1 P.2.1 c h o T → (T.2.1 u).isSome = true → d = T.2.2 u + 1 → d ≤ T.1.length → zMp (ψ 1) P → zMc (ψ 1) c → zRs ψ T → ∃ ψ', L_X9_endOfChain_79 N v2 (nI u) F (nI k) ψ = some ψ' ∧ zRs ψ' (ex P.1 c u d n k T) ∧ zFs ψ ψ' := by
  have hs := hW.2.1
  have hb := hW.1
  have h6 := p2_6 hb.2
  intro n
  induction n with
  | zero =>
    intro k T ψ F hk hF hT hr hd hl hP hC hR
    obtain ⟨F, rfl⟩ : ∃ j, F = j + 1 := ⟨F - 1, by omega⟩
    refine ⟨ψ, ?_, hR, zFs_r ψ⟩
    show B_X9_endOfChain_79 N v2 (nI u) _ (nI k) ψ = _
    unfold B_X9_endOfChain_79
    simp (disch := omega) only [zn_L, zn_M, zn_R, hP.2.1]
    rw [if_pos (by omega)]
  | succ n ih =>
    intro k T ψ F hk hF hT hr hd hl hP hC hR
    obtain ⟨F, rfl⟩ : ∃ j, F = j + 1 := ⟨F - 1, by omega⟩
    have h1 := nt_st (k := k) hW hV hT hr hf (by omega) hd hl
    have hkp := nt_keep (T := T) (u := oth P.1 u (tgo (c (4 * u + k)))) (x := some (4 * u + k)) (d := d) hr
    have hpre := nt_pre (T := T) (u := oth P.1 u (tgo (c (4 * u + k)))) (x := some (4 * u + k)) (d := d)
    obtain ⟨e, hce⟩ := fS_full hf (show k < P.2.1 by omega)
    have heo := (hV _ e hce).2.2.1
    have htl : tgo (c (4 * u + k)) < 64 := by
      rw [hce]
      exact heo.1
    have h0 := (hC (4 * u + k) (by omega)).1
    have ht0 : f0 (c (4 * u + k)) = nI (tgo (c (4 * u + k))) := by
      rw [hce]
      rfl
    rw [ht0] at h0
    have h8 : ψ 8 u = nI (T.2.2 u) := by
      cases hz : T.2.1 u with
      | none =>
        rw [hz] at hr
        cases hr
      | some y => exact ((hR.2.2 u (by omega)).2 y hz).1
    obtain ⟨w, w1, w2, w3⟩ := zm_reach (d := d) (x := some (4 * u + k)) hb.2 (oth_lt (tgo (c (4 * u + k))) hu) hT hR
    have w1 : G_X9_reach ψ (nI (oth P.1 u (tgo (c (4 * u + k))))) (nI d) (nI (4 * u + k)) = some w := w1
    rw [hd] at w1
    have ww := zFs_1 w3
    obtain ⟨ψ', g1, g2, g3⟩ := ih (k + 1) _ w F (by omega) (by omega) h1 (nt_mono hr) (by rw [hkp.2]; exact hd) (Nat.le_trans hl hpre.1) (by rw [ww]; exact hP) (by rw [ww]; exact hC) w2
    refine ⟨ψ', ?_, g2, zFs_t w3 g3⟩
    rw [← g1]
    show B_X9_endOfChain_79 N v2 (nI u) _ (nI k) ψ = _
    unfold B_X9_endOfChain_79
    simp (disch := omega) only [zn_L, zn_M, zn_R, hP.2.1, hP.1, zm_at, h0, zm_step htl hb.2, h8]
    rw [if_neg (by omega), show u ^^^ stp (tgo (c (4 * u + k))) P.1 = oth P.1 u (tgo (c (4 * u + k))) from rfl, w1]
    simp only [zn_R]
theorem zm_bf {N : Nat} (hN : 5000 ≤ N) {P : Pm} {h o : Nat} {c : Ce} (hW : zWp P) (hV : zWc P.1 P.2.1 c) : ∀ (n i : Nat) (T : Bs) (ψ : M2) (F : Nat), i + n = 64 → n < F → zT P.1 P.2.1 c h o T → zMp (ψ 1) P → zMc (ψ 1) c → zRs ψ T → ∃ ψ', L_X9_endOfChain_50 N F (nI i) ψ = some (zn_g nI mI (bf P.1 P.2.1 c n i T).1, ψ') ∧ zRs ψ' (bf P.1 P.2.1 c n i T).2 ∧ zFs ψ ψ' := by
  have hs := hW.2.1
  have hb := hW.1
  have h6 := p2_6 hb.2
  intro n
  induction n with
  | zero =>
    intro i T ψ F hi hF hT hP hC hR
    have hl64 : T.1.length ≤ 64 := by rw [hT.1]; exact cnt_le _ _
    obtain ⟨F, rfl⟩ : ∃ j, F = j + 1 := ⟨F - 1, by omega⟩
    refine ⟨ψ, ?_, hR, zFs_r ψ⟩
    show B_X9_endOfChain_50 N _ (nI i) ψ = some (mI, ψ)
    unfold B_X9_endOfChain_50
    simp (disch := omega) only [zn_L, zn_M, zn_R, hR.1]
    rw [if_pos (by omega)]
  | succ n ih =>
    intro i T ψ F hi hF hT hP hC hR
    obtain ⟨F, rfl⟩ : ∃ j, F = j + 1 := ⟨F - 1, by omega⟩
    have hl64 : T.1.length ≤ 64 := by rw [hT.1]; exact cnt_le _ _
    cases hj : T.1[i]? with
    | none =>
      rw [bf_n hj]
      have hl := List.getElem?_eq_none_iff.mp hj
      refine ⟨ψ, ?_, hR, zFs_r ψ⟩
      show B_X9_endOfChain_50 N _ (nI i) ψ = some (mI, ψ)
      unfold B_X9_endOfChain_50
      simp (disch := omega) only [zn_L, zn_M, zn_R, hR.1]
      rw [if_pos hl]
    | some u =>
      have hlt := (List.getElem?_eq_some_iff.mp hj).1
      have hur := hT.2.1 u (List.mem_of_getElem? hj)
      have hu := hT.2.2.1 u hur
      have hroom := zm_room hN (u := u) hP hC hW hV (by omega)
      have h7 := hR.2.1 i u hj
      cases hf : fS c P.2.1 u with
      | some k =>
        have hk := (fS_lt hf).1
        rw [hf] at hroom
        rw [bf_g hj (by rw [hf]; rfl)]
        refine ⟨ψ, ?_, hR, zFs_r ψ⟩
        show B_X9_endOfChain_50 N _ (nI i) ψ = some (nI u, ψ)
        unfold B_X9_endOfChain_50
        simp (disch := omega) only [zn_L, zn_M, zn_R, hR.1, h7, hroom, zn_g, if_false]
        rw [if_neg (by omega)]
      | none =>
        rw [hf] at hroom
        rw [bf_f hj hf]
        have hdu := hT.2.2.2.1 i u hj
        obtain ⟨a1, a2, a3, a4, a5⟩ := ex_ok (d := T.2.2 u + 1) hW hV hf P.2.1 0 T (Nat.zero_add _) hT hur rfl (by omega)
        obtain ⟨w, w1, w2, w3⟩ := zm_ex hN (d := T.2.2 u + 1) (nI i) hW hV hf hu P.2.1 0 T ψ N (Nat.zero_add _) (by omega) hT hur rfl (by omega) hP hC hR
        have ww := zFs_1 w3
        obtain ⟨ψ', g1, g2, g3⟩ := ih (i + 1) _ w F (by omega) (by omega) a1 (by rw [ww]; exact hP) (by rw [ww]; exact hC) w2
        refine ⟨ψ', ?_, g2, zFs_t w3 g3⟩
        rw [← g1]
        show B_X9_endOfChain_50 N _ (nI i) ψ = _
        unfold B_X9_endOfChain_50
        simp (disch := omega) only [zn_L, zn_M, zn_R, hR.1, h7, hroom, zn_g, if_true, w1]
        rw [if_neg (by omega)]
theorem zm_eoc {N : Nat} (hN : 5000 ≤ N) {P : Pm} {ψ : M2} {x : Nat} {c : Ce} (hx : x < 1000) (hW : zWp P) (hV : zWc P.1 P.2.1 c) (hP : zMp (ψ 1) P) (hC : zMc (ψ 1) c) : ∃ ψ', G_X9_endOfChain N ψ (nI x) = some (zn_g nI mI (bfs P.1 P.2.1 c (nE P x).2.1 (oth P.1 (nE P x).2.1 (nE P x).1)).1, ψ') ∧ zRs ψ' (bfs P.1 P.2.1 c (nE P x).2.1 (oth P.1 (nE P x).2.1 (nE P x).1)).2 ∧ zFs ψ ψ' := by
  have hb := hW.1.2
  have hs := hW.2.1
  have h6 := p2_6 hb
  have hh := hm_lt P.1 x P.2.2.2.1
  have ho := oth_lt (tg x P.2.2.2.1) hh
  have hloop := zn_for (fun k i s => L_X9_endOfChain_7 N (nI x) k (nI i) s) 64 (fun i s => (∀ t, t < i → s 8 t = mI) ∧ ∀ c' i', c' ≠ 8 → s c' i' = upd2 ψ 0 15 (nI 0) c' i') (fun s => (∀ t, t < 64 → s 8 t = mI) ∧ ∀ c' i', c' ≠ 8 → s c' i' = upd2 ψ 0 15 (nI 0) c' i') (fun i s hi hI => ?_) (fun s hI => ?_) N 0 (upd2 ψ 0 15 (nI 0)) (by omega) ⟨fun t h => by omega, fun _ _ _ => rfl⟩ (by omega)
  · obtain ⟨w, g1, g2, g3⟩ := hloop
    have hFw : zFs ψ w := fun c' i' h7 h8 h9 h0 => by rw [g3 c' i' h8, upd2_e, if_neg (by omega)]
    have ww := zFs_1 hFw
    have e0 : zT P.1 P.2.1 c (hm P.1 x P.2.2.2.1) (oth P.1 (hm P.1 x P.2.2.2.1) (tg x P.2.2.2.1)) ([], (fun _ => none), fun _ => 0) := by
      refine ⟨?_, fun u hu => (by cases hu), fun u hu => (by cases hu), fun j u hj => (by simp at hj), fun u hu => (by cases hu), fun u hu => (by cases hu), fun u p hu => (by cases hu)⟩
      exact (cnt_0 64 0 (fun i _ _ => rfl)).symm
    have hRw : zRs w ([], (fun _ => none), fun _ => 0) := ⟨by rw [g3 0 15 (by decide), upd2_e, if_pos ⟨rfl, rfl⟩]; rfl, fun j u hj => by simp at hj, fun u hu => ⟨fun _ => g2 u hu, fun o ho => by cases ho⟩⟩
    have hPw : zMp (w 1) P := by rw [ww]; exact hP
    obtain ⟨v, v1, v2, v3⟩ := zm_reach (d := 0) (x := none) hb hh e0 hRw
    have t1 := nt_ok hb e0 hh (fun _ => Nat.zero_le _) (fun _ => ⟨rfl, Or.inl rfl⟩) (x := none) (fun p hp => (by cases hp))
    have vv := zFs_1 v3
    have hPv : zMp (v 1) P := by rw [vv]; exact hPw
    obtain ⟨t, u1, u2, u3⟩ := zm_reach (d := 0) (x := none) hb ho t1 v2
    have hb0 : zT P.1 P.2.1 c (hm P.1 x P.2.2.2.1) (oth P.1 (hm P.1 x P.2.2.2.1) (tg x P.2.2.2.1)) (b0 (hm P.1 x P.2.2.2.1) (oth P.1 (hm P.1 x P.2.2.2.1) (tg x P.2.2.2.1))) := b0_ok hb hh ho
    have hFt : zFs ψ t := zFs_t (zFs_t hFw v3) u3
    have tt := zFs_1 hFt
    obtain ⟨ψ', k1, k2, k3⟩ := zm_bf hN hW hV 64 0 (b0 (hm P.1 x P.2.2.2.1) (oth P.1 (hm P.1 x P.2.2.2.1) (tg x P.2.2.2.1))) t N rfl (by omega) hb0 (by rw [tt]; exact hP) (by rw [tt]; exact hC) u2
    refine ⟨ψ', ?_, k2, zFs_t hFt k3⟩
    have v1 : G_X9_reach w (nI (hm P.1 x P.2.2.2.1)) (nI 0) mI = some v := v1
    have u1 : G_X9_reach v (nI (oth P.1 (hm P.1 x P.2.2.2.1) (tg x P.2.2.2.1))) (nI 0) mI = some t := u1
    unfold G_X9_endOfChain
    simp only [zn_L, zn_M, zn_R, g1, zm_home hPw hW hx, v1, zm_other hPv hW hx, u1, k1]
    rfl
  · refine ⟨upd2 s 8 i mI, ⟨fun t ht => ?_, fun c' i' hc => ?_⟩, fun k => ?_⟩
    · rw [upd2_e]
      by_cases g : t = i
      · rw [if_pos ⟨rfl, g⟩]
      · rw [if_neg (fun z => g z.2)]
        exact hI.1 t (by omega)
    · rw [upd2_e, if_neg (fun z => hc z.1)]
      exact hI.2 c' i' hc
    · show B_X9_endOfChain_7 N (nI x) _ (nI i) s = _
      unfold B_X9_endOfChain_7
      simp (disch := omega) only [zn_L, zn_M, zn_R]
      rw [if_neg (by omega)]
  · refine ⟨s, hI, fun k => ?_⟩
    show B_X9_endOfChain_7 N (nI x) _ (nI 64) s = _
    unfold B_X9_endOfChain_7
    simp (disch := omega) only [zn_L, zn_M, zn_R]
    rw [if_pos (by omega)]
