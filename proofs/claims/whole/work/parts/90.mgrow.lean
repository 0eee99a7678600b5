/-! the pure layer: doubling in the model -/
theorem zm_gsnap {N : Nat} (hN : 5000 ≤ N) (ψ : M2) (v : Int32) : ∃ ψ', L_X9_grows_9 N v N (nI 0) ψ = some ψ' ∧ ((∀ j, j < 1024 → ψ' 6 j = ψ 1 (18 + j) ∧ ψ' 1 (18 + j) = mI) ∧ (∀ t, t < 18 ∨ 1042 ≤ t → ψ' 1 t = ψ 1 t) ∧ ∀ c' i', c' ≠ 1 → c' ≠ 6 → ψ' c' i' = ψ c' i') := by
  refine zn_for (fun k i s => L_X9_grows_9 N v k (nI i) s) 1024 (fun i s => (∀ j, j < i → s 6 j = ψ 1 (18 + j) ∧ s 1 (18 + j) = mI) ∧ (∀ t, t < 18 ∨ 18 + i ≤ t → s 1 t = ψ 1 t) ∧ ∀ c' i', c' ≠ 1 → c' ≠ 6 → s c' i' = ψ c' i') _ (fun i s hi hI => ?_) (fun s hI => ?_) N 0 ψ (by omega) ⟨fun j h => by omega, fun _ _ => rfl, fun _ _ _ _ => rfl⟩ (by omega)
  · obtain ⟨h1, h2, h3⟩ := hI
    refine ⟨upd2 (upd2 s 6 i (s 1 (18 + i))) 1 (18 + i) mI, ⟨fun j hj => ?_, fun t ht => ?_, fun c' i' hc hc6 => ?_⟩, fun k => ?_⟩
    · rw [upd2_o (c' := 6) (by decide), upd2_e, upd2_e]
      by_cases g : j = i
      · rw [if_pos ⟨rfl, g⟩, if_pos ⟨rfl, by omega⟩, h2 _ (by omega), g]
        exact ⟨rfl, rfl⟩
      · rw [if_neg (fun z => g z.2), if_neg (fun z => g (by omega)), upd2_o (by decide)]
        exact h1 j (by omega)
    · rw [upd2_e, if_neg (by omega), upd2_o (by decide)]
      exact h2 t (by omega)
    · rw [upd2_o hc, upd2_o hc6]
      exact h3 c' i' hc hc6
    · show B_X9_grows_9 N v _ (nI i) s = _
      unfold B_X9_grows_9
      simp (disch := omega) only [zn_L, zn_M, zn_R]
      rw [if_neg (by omega)]
  · refine ⟨s, hI, fun k => ?_⟩
    show B_X9_grows_9 N v _ (nI 1024) s = _
    unfold B_X9_grows_9
    simp (disch := omega) only [zn_L, zn_M, zn_R]
    rw [if_pos (by omega)]
set_option maxHeartbeats 1000000 in
theorem zm_gplaces {N : Nat} (hN : 5000 ≤ N) {ψ w : M2} {P : Pm} {c : Ce} (hW : zWp P) (h6 : P.1 < 6) (hV : zWc P.1 P.2.1 c) (h1 : zL1 c) (hC : zMc (ψ 1) c) (hs : ∀ j, j < 1024 → w 6 j = ψ 1 (18 + j)) (hc0 : zMc (w 1) nC) (hP : w 1 0 = nI (P.1 + 1)) : ∃ ψ', L_X9_grows_59 N (nI P.1) N (nI 0) w = some ψ' ∧ (zMc (ψ' 1) (dC P.1 c) ∧ zLo (w 1) (ψ' 1) ∧ ∀ c' i', c' ≠ 1 → ψ' c' i' = w c' i') := by
  have hs4 := hW.2.1
  have hp6 := p2_6 hW.1.2
  have h7 : 2 ^ (P.1 + 1) ≤ 64 := p2_6 (by omega)
  refine zn_for (fun k i s => L_X9_grows_59 N (nI P.1) k (nI i) s) 256 (fun i s => zMc (s 1) (dM P.1 i c) ∧ zLo (w 1) (s 1) ∧ ∀ c' i', c' ≠ 1 → s c' i' = w c' i') _ (fun i s hi hI => ?_) (fun s hI => ?_) N 0 w (by omega) ⟨by rw [dM_0]; exact hc0, zLo_r _, fun _ _ _ => rfl⟩ (by omega)
  · obtain ⟨k1, k2, k3⟩ := hI
    obtain ⟨e0, e1, e2, e3⟩ := hC i hi
    have a0 : s 6 (4 * i) = f0 (c i) := by rw [k3 _ _ (by decide), hs _ (by omega), ← e0]
    have a1 : s 6 (4 * i + 1) = f1 (c i) := by rw [k3 _ _ (by decide), hs _ (by omega), ← e1]; rfl
    have a2 : s 6 (4 * i + 2) = f2 (c i) := by rw [k3 _ _ (by decide), hs _ (by omega), ← e2]; rfl
    have a3 : s 6 (4 * i + 3) = f3 (i / 4) (c i) := by rw [k3 _ _ (by decide), hs _ (by omega), ← e3]; rfl
    have b0 : s 1 0 = nI (P.1 + 1) := by rw [k2 0 (by omega)]; exact hP
    cases hc : c i with
    | none =>
      refine ⟨s, ⟨by rw [dM_n hc]; exact k1, k2, k3⟩, fun k => ?_⟩
      rw [hc] at a0
      have a0 : s 6 (4 * i) = mI := a0
      show B_X9_grows_59 N (nI P.1) _ (nI i) s = _
      unfold B_X9_grows_59
      simp (disch := omega) only [zn_L, zn_M, zn_R, a0, if_true]
      rw [if_neg (by omega)]
    | some e =>
      rw [hc] at a0 a1 a2 a3
      have a0 : s 6 (4 * i) = nI e.1 := a0
      have a1 : s 6 (4 * i + 1) = nI e.2.2.1 := a1
      have a2 : s 6 (4 * i + 2) = nI e.2.2.2 := a2
      obtain ⟨q1, q2, q3, q4⟩ := hV _ e hc
      have hl := zEo_lt (by omega) q3
      have he1 := h1 _ e hc
      have hnb := nb_lt (u := i / 4) q3 he1
      have hce := dE_c P.1 e
      have hdl := zEo_lt (b := P.1 + 1) (by omega) (dE_ok q3 he1)
      have hdl2 : e.2.1 + e.2.2.2 % 2 * 2 ^ P.1 < 64 := hdl.2.1
      have hk4 : i % 4 < 4 := Nat.mod_lt _ (by decide)
      have hci : c (4 * (i / 4) + i % 4) = some e := by rw [show 4 * (i / 4) + i % 4 = i by omega]; exact hc
      have hds := dM_s hV hk4 q1 hci
      rw [show 4 * (i / 4) + i % 4 = i by omega] at hds
      have hlt : 4 * nb P.1 e (i / 4) + i % 4 < 256 := by omega
      have hput := putE_c k1 hlt (some (dE P.1 e))
      rw [hds] at hput
      refine ⟨putE s (4 * nb P.1 e (i / 4) + i % 4) (some (dE P.1 e)), ⟨hput, zLo_t k2 (putE_l s hlt _), fun c' i' h => by rw [putE_o _ _ _ h]; exact k3 c' i' h⟩, fun k => ?_⟩
      have hdiv : (4 * nb P.1 e (i / 4) + i % 4) / 4 = nb P.1 e (i / 4) := by omega
      -- the last step
      have hJ : ∀ v, v = nb P.1 e (i / 4) → J_X9_grows_159_59 (L_X9_grows_59 N (nI P.1) k) N s (nI P.1) (nI i) (nI (4 * i)) (nI e.1) (nI v) = L_X9_grows_59 N (nI P.1) k (nI (i + 1)) (putE s (4 * nb P.1 e (i / 4) + i % 4) (some (dE P.1 e))) := by
        intro v hv
        subst hv
        unfold J_X9_grows_159_59
        simp (disch := omega) only [zn_L, zn_M, zn_R, a1, a2, a3, zm_put]
        have e3' : f3 (i / 4) (some e) = f3 (nb P.1 e (i / 4)) (some (dE P.1 e)) := by
          show (if e.2.1 = i / 4 then nI 0 else nI 1) = (if (dE P.1 e).2.1 = nb P.1 e (i / 4) then nI 0 else nI 1)
          by_cases g : e.2.1 = i / 4
          · have en : nb P.1 e (i / 4) = (dE P.1 e).2.1 := if_pos g
            rw [if_pos g, if_pos en.symm]
          · have en : nb P.1 e (i / 4) = oth (P.1 + 1) (dE P.1 e).2.1 e.1 := if_neg g
            rw [if_neg g, if_neg (fun z => by rw [en] at z; exact oth_ne _ _ (by omega) z.symm)]
        rw [e3']
        unfold putE
        rw [hdiv]
        rfl
      have hJ2 : J_X9_grows_114_59 (L_X9_grows_59 N (nI P.1) k) N s (nI P.1) (nI i) (nI (4 * i)) (nI e.1) (nI e.2.1) = L_X9_grows_59 N (nI P.1) k (nI (i + 1)) (putE s (4 * nb P.1 e (i / 4) + i % 4) (some (dE P.1 e))) := by
        unfold J_X9_grows_114_59
        simp (disch := omega) only [zn_L, zn_M, zn_R, a2, a3, b0, zm_step hl.1 (show P.1 + 1 ≤ 6 by omega)]
        have e3' : f3 (i / 4) (some e) = if e.2.1 = i / 4 then nI 0 else nI 1 := rfl
        rw [e3']
        by_cases g : e.2.1 = i / 4
        · have en : nb P.1 e (i / 4) = (dE P.1 e).2.1 := if_pos g
          rw [if_pos g, if_pos rfl]
          exact hJ _ en.symm
        · have en : nb P.1 e (i / 4) = oth (P.1 + 1) (dE P.1 e).2.1 e.1 := if_neg g
          rw [if_neg g, if_neg (by decide)]
          exact hJ _ en.symm
      show B_X9_grows_59 N (nI P.1) _ (nI i) s = _
      unfold B_X9_grows_59
      simp (disch := omega) only [zn_L, zn_M, zn_R, a0, a3, if_false, zm_step hl.1 (show P.1 ≤ 6 by omega)]
      rw [if_neg (by omega)]
      have e3' : f3 (i / 4) (some e) = if e.2.1 = i / 4 then nI 0 else nI 1 := rfl
      rw [e3']
      by_cases g : e.2.1 = i / 4
      · rw [if_pos g, if_pos rfl]
        have hJ3 := hJ2
        rw [g] at hJ3
        exact hJ3
      · rw [if_neg g, if_neg (by decide)]
        have e4 : i / 4 ^^^ stp e.1 P.1 = e.2.1 := (q4.resolve_left g).symm
        rw [e4]
        exact hJ2
  · refine ⟨s, ⟨?_, hI.2⟩, fun k => ?_⟩
    · have := hI.1
      rw [dM_e (by omega)] at this
      exact this
    · show B_X9_grows_59 N (nI P.1) _ (nI 256) s = _
      unfold B_X9_grows_59
      simp (disch := omega) only [zn_L, zn_M, zn_R]
      rw [if_pos (by omega)]
set_option maxHeartbeats 1000000 in
theorem zm_gstash {N : Nat} (hN : 5000 ≤ N) {w : M2} {b : Nat} {q : List En} (hb : b < 6) (hS : zMq (w 1) q) (hq : zWq b q) (h1 : ∀ e, e ∈ q → 1 ≤ e.2.2.1) : ∃ ψ', L_X9_grows_208 N (nI b) N (nI 0) w = some ψ' ∧ (zMq (ψ' 1) (q.map (dE b)) ∧ (∀ t, t < 5 ∨ 18 ≤ t → ψ' 1 t = w 1 t) ∧ ∀ c' i', c' ≠ 1 → ψ' c' i' = w c' i') := by
  have h3 := hq.1
  have hp6 := p2_6 (b := b) (by omega)
  refine zn_for (fun k i s => L_X9_grows_208 N (nI b) k (nI i) s) q.length (fun i s => (s 1 5 = nI q.length ∧ ∀ (j : Nat) (e : En), q[j]? = some e → s 1 (6 + 4 * j) = nI e.1 ∧ s 1 (6 + 4 * j + 1) = nI (if j < i then dE b e else e).2.2.1 ∧ s 1 (6 + 4 * j + 2) = nI (if j < i then dE b e else e).2.2.2 ∧ s 1 (6 + 4 * j + 3) = nI (if j < i then dE b e else e).2.1) ∧ (∀ t, t < 5 ∨ 18 ≤ t → s 1 t = w 1 t) ∧ ∀ c' i', c' ≠ 1 → s c' i' = w c' i') _ (fun i s hi hI => ?_) (fun s hI => ?_) N 0 w (by omega) ⟨⟨hS.1, fun j e hj => by rw [if_neg (Nat.not_lt_zero _)]; exact hS.2 j e hj⟩, fun _ _ => rfl, fun _ _ _ => rfl⟩ (by omega)
  · obtain ⟨⟨k5, k1⟩, k2, k3⟩ := hI
    have eq1 : q[i]? = some q[i] := List.getElem?_eq_getElem hi
    have he := hq.2 q[i] (List.getElem_mem hi)
    have hl := zEo_lt (by omega) he
    have he1 := h1 _ (List.getElem_mem hi)
    have hce := dE_c b q[i]
    obtain ⟨c0, c1, c2, c3⟩ := k1 i q[i] eq1
    rw [if_neg (Nat.lt_irrefl _)] at c1 c2 c3
    have u1 : upd2 s 1 (6 + 4 * i + 3) (nI (q[i].2.1 + q[i].2.2.2 % 2 * 2 ^ b)) 1 (6 + 4 * i + 1) = nI q[i].2.2.1 := by
      rw [upd2_e, if_neg (by omega)]
      exact c1
    have u2 : upd2 (upd2 s 1 (6 + 4 * i + 3) (nI (q[i].2.1 + q[i].2.2.2 % 2 * 2 ^ b))) 1 (6 + 4 * i + 1) (nI (q[i].2.2.1 - 1)) 1 (6 + 4 * i + 2) = nI q[i].2.2.2 := by
      rw [upd2_e, if_neg (by omega), upd2_e, if_neg (by omega)]
      exact c2
    refine ⟨upd2 (upd2 (upd2 s 1 (6 + 4 * i + 3) (nI (q[i].2.1 + q[i].2.2.2 % 2 * 2 ^ b))) 1 (6 + 4 * i + 1) (nI (q[i].2.2.1 - 1))) 1 (6 + 4 * i + 2) (nI (q[i].2.2.2 / 2)), ⟨⟨?_, fun j e hj => ?_⟩, fun t ht => ?_, fun c' i' hc => ?_⟩, fun k => ?_⟩
    · rw [upd2_e, if_neg (by omega), upd2_e, if_neg (by omega), upd2_e, if_neg (by omega)]
      exact k5
    · simp only [upd2_e, true_and]
      by_cases g : j = i
      · subst g
        rw [eq1] at hj
        cases hj
        rw [if_pos (Nat.lt_succ_self _)]
        rw [if_neg (by omega), if_neg (by omega), if_neg (by omega), if_neg (by omega), if_pos rfl, if_pos rfl, if_neg (by omega), if_neg (by omega), if_pos rfl]
        exact ⟨c0, rfl, rfl, rfl⟩
      · have := k1 j e hj
        by_cases g2 : j < i
        · rw [if_pos g2] at this
          rw [if_pos (show j < i + 1 by omega)]
          rw [if_neg (by omega), if_neg (by omega), if_neg (by omega), if_neg (by omega), if_neg (by omega), if_neg (by omega), if_neg (by omega), if_neg (by omega), if_neg (by omega), if_neg (by omega), if_neg (by omega), if_neg (by omega)]
          exact this
        · rw [if_neg g2] at this
          rw [if_neg (show ¬ j < i + 1 by omega)]
          rw [if_neg (by omega), if_neg (by omega), if_neg (by omega), if_neg (by omega), if_neg (by omega), if_neg (by omega), if_neg (by omega), if_neg (by omega), if_neg (by omega), if_neg (by omega), if_neg (by omega), if_neg (by omega)]
          exact this
    · rw [upd2_e, if_neg (by omega), upd2_e, if_neg (by omega), upd2_e, if_neg (by omega)]
      exact k2 t ht
    · rw [upd2_o hc, upd2_o hc, upd2_o hc]
      exact k3 c' i' hc
    · show B_X9_grows_208 N (nI b) _ (nI i) s = _
      unfold B_X9_grows_208
      simp (disch := omega) only [zn_L, zn_M, zn_R, k5, c0, c1, c2, c3, u1, u2]
      rw [if_neg (by omega)]
  · obtain ⟨⟨k5, k1⟩, k2, k3⟩ := hI
    refine ⟨s, ⟨⟨by rw [List.length_map]; exact k5, fun j f hf => ?_⟩, k2, k3⟩, fun k => ?_⟩
    · rw [List.getElem?_map] at hf
      cases hqj : q[j]? with
      | none =>
        rw [hqj] at hf
        cases hf
      | some e =>
        rw [hqj] at hf
        have e9 := Option.some.inj hf
        have hj := (List.getElem?_eq_some_iff.mp hqj).1
        have := k1 j e hqj
        rw [if_pos hj] at this
        rw [← e9]
        exact this
    · show B_X9_grows_208 N (nI b) _ (nI q.length) s = _
      unfold B_X9_grows_208
      simp (disch := omega) only [zn_L, zn_M, zn_R, k5]
      rw [if_pos (by omega)]
theorem zm_grows {N : Nat} (hN : 5000 ≤ N) {ψ : M2} {P : Pm} {c : Ce} {q : List En} {nk : Nat} {K : Nat → Nat} (hR : zRM (ψ 1) P c q nk K) (hF : zWF P c q nk K) (h : cg P c q = true) : ∃ ψ', G_X9_grows N ψ = some ψ' ∧ zRM (ψ' 1) (up1 P) (gro P c q).2.1 (gro P c q).2.2 nk K ∧ zFr ψ ψ' := by
  obtain ⟨hP, hC, hS, hK⟩ := hR
  obtain ⟨hW, hV, hq, hk⟩ := hF
  obtain ⟨h6, h1, h2⟩ := cg_l1 hW hV h
  have h3 := hq.1
  obtain ⟨w, a1, a2, a3, a4⟩ := zm_gsnap hN ψ (nI P.1)
  have w10 : w 1 0 = nI P.1 := by rw [a3 0 (by omega)]; exact hP.1
  have hv0 : zMc (upd2 w 1 0 (nI (P.1 + 1)) 1) nC := by
    intro p hp
    rw [upd2_e, if_neg (by omega), upd2_e, if_neg (by omega), upd2_e, if_neg (by omega), upd2_e, if_neg (by omega)]
    exact ⟨(a2 (4 * p) (by omega)).2, (a2 (4 * p + 1) (by omega)).2, (a2 (4 * p + 2) (by omega)).2, (a2 (4 * p + 3) (by omega)).2⟩
  obtain ⟨v, b1, b2, b3, b4⟩ := zm_gplaces (w := upd2 w 1 0 (nI (P.1 + 1))) hN hW h6 hV h1 hC (fun j hj => by rw [upd2_o (by decide)]; exact (a2 j hj).1) hv0 (by rw [upd2_e, if_pos ⟨rfl, rfl⟩])
  have vlo : ∀ t, t < 18 ∨ 1042 ≤ t → v 1 t = if t = 0 then nI (P.1 + 1) else ψ 1 t := by
    intro t ht
    rw [b3 t ht, upd2_e]
    by_cases g : t = 0
    · rw [if_pos ⟨rfl, g⟩, if_pos g]
    · rw [if_neg (fun z => g z.2), if_neg g, a3 t ht]
  have hSv : zMq (v 1) q := by
    refine ⟨by rw [vlo 5 (by omega), if_neg (by decide)]; exact hS.1, fun i e he => ?_⟩
    have hi := (List.getElem?_eq_some_iff.mp he).1
    rw [vlo _ (by omega), if_neg (by omega), vlo _ (by omega), if_neg (by omega), vlo _ (by omega), if_neg (by omega), vlo _ (by omega), if_neg (by omega)]
    exact hS.2 i e he
  obtain ⟨u, d1, d2, d3, d4⟩ := zm_gstash hN h6 hSv hq h2
  have hRu : zRM (u 1) (up1 P) (dC P.1 c) (q.map (dE P.1)) nk K := by
    refine ⟨?_, ?_, d2, ?_, fun i hi => ?_⟩
    · unfold zMp up1 at *
      rw [d3 0 (by omega), d3 1 (by omega), d3 2 (by omega), d3 3 (by omega), d3 4 (by omega), vlo 0 (by omega), vlo 1 (by omega), vlo 2 (by omega), vlo 3 (by omega), vlo 4 (by omega)]
      exact ⟨rfl, hP.2⟩
    · exact zMc_c b2 (fun i hi => d3 _ (by omega))
    · rw [d3 1042 (by omega), vlo 1042 (by omega), if_neg (by decide)]
      exact hK.1
    · rw [d3 _ (by omega), vlo _ (by omega), if_neg (by omega)]
      exact hK.2 i hi
  obtain ⟨t, t1, t2, t3⟩ := zm_leave hN hRu ⟨up1_ok hW h6, dC_ok hV h1, zWq_map hq h2, hk⟩
  refine ⟨t, ?_, t2, zFr_t (fun c' i' hk' => ?_) t3⟩
  · unfold G_X9_grows
    simp (disch := omega) only [zn_L, zn_M, zn_R, hP.1, a1, w10, b1, d1, t1]
  · obtain ⟨z1, z2, z3⟩ := zkp_h hk'
    rw [d4 c' i' z3, b4 c' i' z3, upd2_o z3, a4 c' i' z3 z2]
