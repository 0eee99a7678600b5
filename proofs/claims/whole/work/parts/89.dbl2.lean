/-! the pure layer: doubling in the class and in the model -/
def gro (P : Pm) (c : Ce) (q : List En) : Nat × Ce × List En := lv (P.1 + 1) P.2.1 (dC P.1 c) (q.map (dE P.1))
def up1 (P : Pm) : Pm := (P.1 + 1, P.2)
theorem up1_ok {P : Pm} (h : zWp P) (h6 : P.1 < 6) : zWp (up1 P) := ⟨⟨by show 1 ≤ P.1 + 1; omega, h6⟩, h.2⟩
theorem zWq_map {b : Nat} {q : List En} (h : zWq b q) (h1 : ∀ e, e ∈ q → 1 ≤ e.2.2.1) : zWq (b + 1) (q.map (dE b)) := by
  refine ⟨by rw [List.length_map]; exact h.1, fun f hf => ?_⟩
  obtain ⟨e, he, hd⟩ := List.mem_map.mp hf
  rw [← hd]
  exact dE_ok (h.2 e he) (h1 e he)
theorem gro_ok {P : Pm} {c : Ce} {q : List En} {nk : Nat} {K : Nat → Nat} (hF : zWF P c q nk K) (h : cg P c q = true) : zWF (up1 P) (gro P c q).2.1 (gro P c q).2.2 nk K := by
  obtain ⟨h6, h1, h2⟩ := cg_l1 hF.1 hF.2.1 h
  have hq := zWq_map hF.2.2.1 h2
  obtain ⟨g1, g2, g3⟩ := lv_ok (b := P.1 + 1) (s := P.2.1) (by omega) hF.1.2.1.2 (q.map (dE P.1)) (dC P.1 c) (dC_ok hF.2.1 h1) hq.2
  have h3 := hq.1
  refine ⟨up1_ok hF.1 h6, g1, ⟨?_, g3⟩, hF.2.2.2⟩
  show (lv (P.1 + 1) P.2.1 (dC P.1 c) (q.map (dE P.1))).2.2.length ≤ 3
  omega
theorem zc_doubled {b : Nat} {e : En} (hb : b < 6) (h : zEo b e) (h1 : 1 ≤ e.2.2.1) : G_X1_doubled (ew e) (nI b) = ew (dE b e) := by
  have ht := zc_et (by omega) h
  have hl := zEo_lt (by omega) h
  have hd := zEo_lt (by omega) (dE_ok h h1)
  have hc := dE_c b e
  have h6 := p2_6 (b := b) (by omega)
  have hd2 : e.2.1 + e.2.2.2 % 2 * 2 ^ b < 64 := hd.2.1
  have hd4 : e.2.2.2 / 2 < 256 := hd.2.2.2
  unfold G_X1_doubled
  simp (disch := omega) only [zn_L, zn_M, zn_R, ht.1, ht.2.1, ht.2.2.1, ht.2.2.2]
  rw [show e.2.2.2 / 2 ^ 1 = e.2.2.2 / 2 from rfl]
  exact zn_pk hl.1 hd2 (by omega) hd4
theorem dI_gap {b s u : Nat} {c : Ce} (hV : zWc b s c) : ∀ m, s + m ≤ 4 → dI b (4 * u + (s + m)) c = dI b (4 * u + s) c := by
  intro m
  induction m with
  | zero =>
    intro _
    rfl
  | succ m ih =>
    intro hm
    have hn : c (4 * u + (s + m)) = none := by
      cases hc : c (4 * u + (s + m)) with
      | none => rfl
      | some e =>
        have := (hV _ e hc).2.1
        omega
    have := dI_n (b := b) hn
    rw [show 4 * u + (s + (m + 1)) = 4 * u + (s + m) + 1 by omega, this]
    exact ih (by omega)
theorem zc_dslot {φ : M2} {P : Pm} {c : Ce} {u k : Nat} (hW : zWp P) (h6 : P.1 < 6) (hP : zPm φ (up1 P)) (hV : zWc P.1 P.2.1 c) (h1 : zL1 c) (hu : u < 2 ^ P.1) (hk : k < P.2.1) (hC : zCl φ (dI P.1 (4 * u + k) c)) : ∃ φ', G_X2_doubleSlot φ (nI u) (nI k) (nI P.1) = some φ' ∧ zCl φ' (dI P.1 (4 * u + k + 1) c) ∧ ∀ c' i', c' ≠ 1 → φ' c' i' = φ c' i' := by
  have hs := hW.2.1
  have hp6 := p2_6 hW.1.2
  have hW' := up1_ok hW h6
  have h7 : 2 ^ (P.1 + 1) ≤ 64 := p2_6 (by omega)
  have hcell := hC (4 * u + k) (by omega)
  have hsrc : src P.1 (4 * u + k) = 4 * u + k := src_id (by omega)
  have hd : dI P.1 (4 * u + k) c (4 * u + k) = c (4 * u + k) := by
    unfold dI
    rw [if_neg (by omega), if_pos (by omega)]
  rw [hd] at hcell
  cases hc : c (4 * u + k) with
  | none =>
    rw [hc] at hcell
    refine ⟨φ, ?_, ?_, fun _ _ _ => rfl⟩
    · unfold G_X2_doubleSlot
      simp (disch := omega) only [zn_L, zn_M, zn_R, zc_place, zc_cell, hcell, cwo, if_true]
    · rw [dI_n hc]
      exact hC
  | some e =>
    rw [hc] at hcell
    obtain ⟨a1, a2, a3, a4⟩ := hV _ e hc
    have ed : (4 * u + k) / 4 = u := by omega
    rw [ed] at a4
    have he1 := h1 _ e hc
    have hl := zEo_lt (by omega) a3
    have hdok := dE_ok a3 he1
    have hdl := zEo_lt (b := P.1 + 1) (by omega) hdok
    have hnb := nb_lt (u := u) a3 he1
    have hC2 := zCl_u (zCl_u hC (4 * u + k) none) (4 * nb P.1 e u + k) (some (dE P.1 e))
    rw [dI_s hV (by omega) hu hc] at hC2
    have hP2 : zPm (upd2 φ 1 (4 * u + k) mI) (up1 P) := zPm_c hP (upd2_o (by decide))
    have hoth := zc_other hP2 hW' hdok
    have hhome := (zc_et (b := P.1 + 1) (by omega) hdok).2.1
    refine ⟨upd2 (upd2 φ 1 (4 * u + k) mI) 1 (4 * nb P.1 e u + k) (ew (dE P.1 e)), ?_, hC2, fun c' i' h => by rw [upd2_o h, upd2_o h]⟩
    have hcell : φ 1 (4 * u + k) = ew e := hcell
    unfold G_X2_doubleSlot G_X2_emptySlot
    simp (disch := omega) only [zn_L, zn_M, zn_R, zc_place, zc_cell, hcell, ew_mi hl.1 hl.2.1 (show e.2.2.1 < 16 by omega) hl.2.2.2, if_false, zc_set, zc_doubled h6 a3 he1, (zc_et (b := P.1) (by omega) a3).2.1]
    by_cases g : e.2.1 = u
    · rw [if_pos g]
      have en : nb P.1 e u = (dE P.1 e).2.1 := if_pos g
      rw [en] at hnb ⊢
      unfold J_X2_doubleSlot_46
      simp (disch := omega) only [zn_L, zn_M, zn_R, hhome, zc_place, zc_set]
      rw [if_neg (by omega)]
    · rw [if_neg g]
      have en : nb P.1 e u = oth (P.1 + 1) (dE P.1 e).2.1 (dE P.1 e).1 := if_neg g
      rw [en] at hnb ⊢
      have hoth : G_X2_otherOf (upd2 φ 1 (4 * u + k) mI) (ew (dE P.1 e)) = nI (oth (P.1 + 1) (dE P.1 e).2.1 (dE P.1 e).1) := hoth
      unfold J_X2_doubleSlot_46
      simp (disch := omega) only [zn_L, zn_M, zn_R, hoth, zc_place, zc_set]
      rw [if_pos trivial]
theorem zSt_map {φ φ' : M2} {q : List En} {b : Nat} (h : zSt φ q) (h7 : φ' 0 7 = φ 0 7) (h2 : ∀ (j : Nat) (e : En), q[j]? = some e → φ' 2 j = ew (dE b e)) : zSt φ' (q.map (dE b)) := by
  refine ⟨by rw [h7, List.length_map]; exact h.1, fun j f hf => ?_⟩
  rw [List.getElem?_map] at hf
  cases hq : q[j]? with
  | none =>
    rw [hq] at hf
    cases hf
  | some e =>
    rw [hq] at hf
    have := Option.some.inj hf
    rw [← this]
    exact h2 j e hq
set_option maxHeartbeats 1000000 in
theorem zc_double {N : Nat} (hN : 5000 ≤ N) {φ : M2} {P : Pm} {c : Ce} {q : List En} {nk : Nat} {K : Nat → Nat} (hR : zRC φ P c q nk K) (hF : zWF P c q nk K) (h : cg P c q = true) : ∃ φ', G_X2_doubleBuckets N φ = some (nI (2 ^ (P.1 + 1)), φ') ∧ zRC φ' (up1 P) (gro P c q).2.1 (gro P c q).2.2 nk K := by
  obtain ⟨hP, hC, hS, hK⟩ := hR
  obtain ⟨hW, hV, hq, hk⟩ := hF
  obtain ⟨h6, h1, h2⟩ := cg_l1 hW hV h
  have hs := hW.2.1
  have hp6 := p2_6 hW.1.2
  have h3 := hq.1
  have hcg := zc_cg hN hP hC hS hW hV hq
  have hP1 : zPm (upd2 φ 0 0 (nI (P.1 + 1))) (up1 P) := by
    unfold zPm up1 at *
    simp [upd2_e, hP]
  have hC1 : zCl (upd2 φ 0 0 (nI (P.1 + 1))) (dI P.1 0 c) := by
    rw [dI_0 hV]
    exact zCl_c hC (upd2_o (by decide))
  have houter := zn_for (fun k i s => L_X2_doubleBuckets_28 N (nI P.1) (nI (2 ^ P.1)) k (nI i) s) (2 ^ P.1) (fun i s => zCl s (dI P.1 (4 * i) c) ∧ ∀ c' i', c' ≠ 1 → s c' i' = upd2 φ 0 0 (nI (P.1 + 1)) c' i') (fun s => zCl s (dC P.1 c) ∧ ∀ c' i', c' ≠ 1 → s c' i' = upd2 φ 0 0 (nI (P.1 + 1)) c' i') (fun i s hi hI => ?_) (fun s hI => ?_) N 0 (upd2 φ 0 0 (nI (P.1 + 1))) (Nat.zero_le _) ⟨hC1, fun _ _ _ => rfl⟩ (by omega)
  · obtain ⟨w, g1, g2, g3⟩ := houter
    have w0 : ∀ c', c' ≠ 1 → w c' = upd2 φ 0 0 (nI (P.1 + 1)) c' := fun c' hc => funext fun i' => g3 c' i' hc
    have hSw : zSt w q := by
      refine ⟨?_, fun j e hj => ?_⟩
      · rw [w0 0 (by decide), upd2_e, if_neg (by decide)]
        exact hS.1
      · rw [w0 2 (by decide), upd2_o (by decide)]
        exact hS.2 j e hj
    have hst := zn_for (fun k i s => L_X2_doubleBuckets_67 N (nI P.1) k (nI i) s) q.length (fun i s => (∀ (j : Nat) (e : En), q[j]? = some e → s 2 j = if j < i then ew (dE P.1 e) else ew e) ∧ ∀ c' i', c' ≠ 2 → s c' i' = w c' i') (fun s => (∀ (j : Nat) (e : En), q[j]? = some e → s 2 j = ew (dE P.1 e)) ∧ ∀ c' i', c' ≠ 2 → s c' i' = w c' i') (fun i s hi hI => ?_) (fun s hI => ?_) N 0 w (by omega) ⟨fun j e hj => by rw [if_neg (Nat.not_lt_zero _)]; exact hSw.2 j e hj, fun _ _ _ => rfl⟩ (by omega)
    · obtain ⟨v, v1, v2, v3⟩ := hst
      have v0 : ∀ c', c' ≠ 2 → v c' = w c' := fun c' hc => funext fun i' => v3 c' i' hc
      have hRv : zRC v (up1 P) (dC P.1 c) (q.map (dE P.1)) nk K := by
        refine ⟨zPm_c hP1 (by rw [v0 0 (by decide), w0 0 (by decide)]), zCl_c g2 (v0 1 (by decide)), ?_, zKy_c hK (by rw [v0 3 (by decide), w0 3 (by decide), upd2_o (by decide)]) (by rw [v0 4 (by decide), w0 4 (by decide), upd2_o (by decide)])⟩
        exact zSt_map hSw (by rw [v0 0 (by decide)]) v2
      obtain ⟨t, t1, t2⟩ := zc_leave hN hRv ⟨up1_ok hW h6, dC_ok hV h1, zWq_map hq h2, hk⟩
      have t1 : G_X2_leaveStash N v = some (nI (gro P c q).1, t) := t1
      have hbc := zc_buckets t2.1 (up1_ok hW h6)
      have hbc : G_X2_bucketCount t = nI (2 ^ (P.1 + 1)) := hbc
      refine ⟨t, ?_, t2⟩
      unfold G_X2_doubleBuckets
      rw [hcg]
      simp only [zn_L, zn_R]
      rw [if_neg (show ¬ (bI (cg P c q) = nI 0) from by rw [h]; decide), hP.1, zc_buckets hP hW]
      simp only [zn_R, g1, v1, t1, hbc]
    · have eq1 : q[i]? = some q[i] := List.getElem?_eq_getElem hi
      have he := hq.2 q[i] (List.getElem_mem hi)
      have hcur := hI.1 i q[i] eq1
      rw [if_neg (Nat.lt_irrefl _)] at hcur
      refine ⟨upd2 s 2 i (ew (dE P.1 q[i])), ⟨fun j e hj => ?_, fun c' i' hc => ?_⟩, fun k => ?_⟩
      · rw [upd2_e]
        by_cases g : j = i
        · subst g
          rw [eq1] at hj
          cases hj
          rw [if_pos ⟨rfl, rfl⟩, if_pos (by omega)]
        · rw [if_neg (fun z => g z.2), hI.1 j e hj]
          by_cases g2 : j < i
          · rw [if_pos g2, if_pos (by omega)]
          · rw [if_neg g2, if_neg (by omega)]
      · rw [upd2_e, if_neg (fun z => hc z.1)]
        exact hI.2 c' i' hc
      · show B_X2_doubleBuckets_67 N (nI P.1) _ (nI i) s = _
        have e7 : s 0 7 = nI q.length := by
          rw [hI.2 0 7 (by decide)]
          exact hSw.1
        unfold B_X2_doubleBuckets_67
        simp (disch := omega) only [zn_L, zn_M, zn_R, e7, hcur, zc_doubled h6 he (h2 _ (List.getElem_mem hi))]
        rw [if_neg (by omega), if_neg (by omega)]
    · refine ⟨s, ⟨fun j e hj => ?_, hI.2⟩, fun k => ?_⟩
      · have := hI.1 j e hj
        rw [if_pos ((List.getElem?_eq_some_iff.mp hj).1)] at this
        exact this
      · show B_X2_doubleBuckets_67 N (nI P.1) _ (nI q.length) s = _
        have e7 : s 0 7 = nI q.length := by
          rw [hI.2 0 7 (by decide)]
          exact hSw.1
        unfold B_X2_doubleBuckets_67
        simp (disch := omega) only [zn_L, zn_M, zn_R, e7]
        rw [if_pos (by omega)]
  · -- one bucket
    have hin := zn_for (fun k j s => L_X2_doubleBuckets_36 N (nI P.1) (nI (2 ^ P.1)) (nI i) k (nI j) s) P.2.1 (fun j s => zCl s (dI P.1 (4 * i + j) c) ∧ ∀ c' i', c' ≠ 1 → s c' i' = upd2 φ 0 0 (nI (P.1 + 1)) c' i') (fun s => zCl s (dI P.1 (4 * i + P.2.1) c) ∧ ∀ c' i', c' ≠ 1 → s c' i' = upd2 φ 0 0 (nI (P.1 + 1)) c' i') (fun j s hj hI => ?_) (fun s hI => ?_) N 0 s (by omega) hI (by omega)
    · obtain ⟨w, g1, g2, g3⟩ := hin
      refine ⟨w, ⟨?_, g3⟩, fun k => ?_⟩
      · have := dI_gap (u := i) hV (4 - P.2.1) (by omega)
        rw [show P.2.1 + (4 - P.2.1) = 4 by omega] at this
        rw [show 4 * (i + 1) = 4 * i + 4 by omega, this]
        exact g2
      · show B_X2_doubleBuckets_28 N (nI P.1) (nI (2 ^ P.1)) _ (nI i) s = _
        unfold B_X2_doubleBuckets_28
        simp (disch := omega) only [zn_L, zn_M, zn_R, g1]
        rw [if_neg (by omega)]
    · have s0 : s 0 = upd2 φ 0 0 (nI (P.1 + 1)) 0 := funext fun i' => hI.2 0 i' (by decide)
      have hPs : zPm s (up1 P) := zPm_c hP1 s0
      obtain ⟨w, g1, g2, g3⟩ := zc_dslot hW h6 hPs hV h1 hi hj hI.1
      refine ⟨w, ⟨g2, fun c' i' hc => by rw [g3 c' i' hc]; exact hI.2 c' i' hc⟩, fun k => ?_⟩
      show B_X2_doubleBuckets_36 N (nI P.1) (nI (2 ^ P.1)) (nI i) _ (nI j) s = _
      have e1 : s 0 1 = nI P.2.1 := hPs.2.1
      unfold B_X2_doubleBuckets_36
      simp (disch := omega) only [zn_L, zn_M, zn_R, e1, g1]
      rw [if_neg (by omega)]
    · have s0 : s 0 = upd2 φ 0 0 (nI (P.1 + 1)) 0 := funext fun i' => hI.2 0 i' (by decide)
      have hPs : zPm s (up1 P) := zPm_c hP1 s0
      refine ⟨s, hI, fun k => ?_⟩
      show B_X2_doubleBuckets_36 N (nI P.1) (nI (2 ^ P.1)) (nI i) _ (nI P.2.1) s = _
      have e1 : s 0 1 = nI P.2.1 := hPs.2.1
      unfold B_X2_doubleBuckets_36
      simp (disch := omega) only [zn_L, zn_M, zn_R, e1]
      rw [if_pos (by omega)]
  · refine ⟨s, ⟨?_, hI.2⟩, fun k => ?_⟩
    · have := hI.1
      rw [dI_e (Nat.le_refl _)] at this
      exact this
    · show B_X2_doubleBuckets_28 N (nI P.1) (nI (2 ^ P.1)) _ (nI (2 ^ P.1)) s = _
      unfold B_X2_doubleBuckets_28
      simp (disch := omega) only [zn_L, zn_M, zn_R]
      rw [if_pos (by omega)]
theorem zc_double_n {N : Nat} (hN : 5000 ≤ N) {φ : M2} {P : Pm} {c : Ce} {q : List En} {nk : Nat} {K : Nat → Nat} (hR : zRC φ P c q nk K) (hF : zWF P c q nk K) (h : cg P c q = false) : G_X2_doubleBuckets N φ = some (mI, φ) := by
  unfold G_X2_doubleBuckets
  rw [zc_cg hN hR.1 hR.2.1 hR.2.2.1 hF.1 hF.2.1 hF.2.2.1, h]
  rfl
