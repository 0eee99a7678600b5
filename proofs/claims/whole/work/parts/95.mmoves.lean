/-! the pure layer: adding with few moves -/
def adds (P : Pm) (c : Ce) (q : List En) (nk : Nat) (K : Nat → Nat) (x : Nat) : Option (Nat × Sk) :=
  og (fun _ => none) (if nk < 120 then og (fun y => some (y.1, y.2, q, nk + 1, kput K nk x)) none (insS P c x) else none) (ix nk K x)
theorem adds_ok {P : Pm} {c : Ce} {q : List En} {nk : Nat} {K : Nat → Nat} {x : Nat} {y : Nat × Sk} (hx : x < 1000) (hF : zWF P c q nk K) (h : adds P c q nk K x = some y) : zWF P y.2.1 y.2.2.1 y.2.2.2.1 y.2.2.2.2 ∧ y.1 < 64 := by
  unfold adds at h
  cases hi : ix nk K x with
  | some i =>
    rw [hi] at h
    cases h
  | none =>
    rw [hi, og_n] at h
    split at h
    · rename_i hn
      cases hz : insS P c x with
      | none =>
        rw [hz] at h
        cases h
      | some z =>
        rw [hz, og_s] at h
        have e := Option.some.inj h
        subst e
        obtain ⟨g1, g2⟩ := insS_ok hF.1 hF.2.1 hz
        exact ⟨⟨hF.1, g1, hF.2.2.1, zWk_put hF.2.2.2 hn hx hi⟩, g2⟩
    · cases h
theorem zc_adds {N : Nat} (hN : 5000 ≤ N) {φ : M2} {P : Pm} {c : Ce} {q : List En} {nk : Nat} {K : Nat → Nat} {x : Nat} (hx : x < 1000) (hR : zRC φ P c q nk K) (hF : zWF P c q nk K) : ∃ r φ', G_X2_addKeyShortest N φ (nI x) = some (r, φ') ∧ zKo φ' P c q nk K r (adds P c q nk K x) := by
  have hn := hF.2.2.2.1
  have hhas := zc_has hN hx hR.2.2.2 hF.2.2.2
  unfold adds
  cases hi : ix nk K x with
  | some i =>
    rw [hi] at hhas
    refine ⟨mI, φ, ?_, rfl, hR⟩
    unfold G_X2_addKeyShortest
    simp (disch := omega) only [zn_L, zn_M, zn_R, hhas, og]
    rw [if_neg (by omega)]
  | none =>
    rw [hi] at hhas
    rcases Nat.lt_or_ge nk 120 with hl | hl
    · obtain ⟨r, w, g1, g2⟩ := zc_insS hN hx hR hF.1 hF.2.1
      have hfull : G_X4_isFull φ = nI 0 := by
        unfold G_X4_isFull
        simp (disch := omega) only [zn_L, zn_M, zn_R, hR.2.2.2.1]
        rw [if_pos hl]
      rw [og_n, if_pos hl]
      cases hz : insS P c x with
      | none =>
        rw [hz] at g2
        obtain ⟨e1, g2⟩ := g2
        subst e1
        refine ⟨mI, w, ?_, rfl, g2⟩
        unfold G_X2_addKeyShortest
        simp (disch := omega) only [zn_L, zn_M, zn_R, hhas, og, hfull, if_true, g1]
      | some z =>
        rw [hz] at g2
        obtain ⟨e1, g2⟩ := g2
        subst e1
        obtain ⟨g21, g22, g23, g24⟩ := g2
        have hz100 := (insS_ok hF.1 hF.2.1 hz).2
        refine ⟨nI z.1, upd2 (upd2 w 4 nk (nI x)) 3 1 (nI (nk + 1)), ?_, rfl, zPm_c g21 (by rw [upd2_o (by decide), upd2_o (by decide)]), zCl_c g22 (by rw [upd2_o (by decide), upd2_o (by decide)]), zSt_c g23 (by rw [upd2_o (by decide), upd2_o (by decide)]) (by rw [upd2_o (by decide), upd2_o (by decide)]), zKy_put g24 x⟩
        have hput : G_X4_put w (nI x) = some (upd2 (upd2 w 4 nk (nI x)) 3 1 (nI (nk + 1))) := by
          unfold G_X4_put
          simp (disch := omega) only [zn_L, zn_M, zn_R, g24.1]
          rw [if_neg (by omega), if_neg (by omega)]
          have q1 : upd2 w 4 nk (nI x) 3 1 = nI nk := by
            rw [upd2_o (by decide)]
            exact g24.1
          simp only [q1, zn_R]
        unfold G_X2_addKeyShortest
        simp (disch := omega) only [zn_L, zn_M, zn_R, hhas, og, hfull, if_true, if_false, g1, hput]
    · rw [og_n, if_neg (by omega)]
      have hfull : G_X4_isFull φ = nI 1 := by
        unfold G_X4_isFull
        simp (disch := omega) only [zn_L, zn_M, zn_R, hR.2.2.2.1]
        rw [if_neg (by omega)]
      refine ⟨mI, φ, ?_, rfl, hR⟩
      unfold G_X2_addKeyShortest
      simp (disch := omega) only [zn_L, zn_M, zn_R, hhas, og, hfull, if_true]
      rw [if_neg (by omega)]
set_option maxHeartbeats 1000000 in
theorem zm_mloop {N : Nat} (hN : 5000 ≤ N) {P : Pm} {c0 : Ce} {h o : Nat} {T : Bs} (v1 : Int32) (hW : zWp P) : ∀ (d p : Nat) (c : Ce) (ψ : M2) (F : Nat), d < F → zCh P c0 h o T d p c → zMc (ψ 1) c → zRs ψ T → ∃ ψ', L_X9_moveChain_9 N v1 F (nI (p / 4)) (nI (p % 4)) ψ = some (nI ((mv T.2.1 d c p).2 / 4), nI ((mv T.2.1 d c p).2 % 4), ψ') ∧ zMc (ψ' 1) (mv T.2.1 d c p).1 ∧ zLo (ψ 1) (ψ' 1) ∧ ∀ c', c' ≠ 1 → ψ' c' = ψ c' := by
  have h6 := p2_6 hW.1.2
  have hs := hW.2.1
  intro d
  induction d with
  | zero =>
    intro p c ψ F hF H hC hR
    obtain ⟨F, rfl⟩ : ∃ j, F = j + 1 := ⟨F - 1, by omega⟩
    have h0 := (zCh_0 H).1
    have hu := H.1.2.2.1 _ H.2.1
    have h9 := ((hR.2.2 (p / 4) (by omega)).2 none h0).2
    have h9 : ψ 9 (p / 4) = mI := h9
    refine ⟨ψ, ?_, hC, zLo_r _, fun _ _ => rfl⟩
    show B_X9_moveChain_9 N v1 _ (nI (p / 4)) (nI (p % 4)) ψ = some (nI (p / 4), nI (p % 4), ψ)
    unfold B_X9_moveChain_9
    simp (disch := omega) only [zn_L, zn_M, zn_R, h9, if_true]
  | succ d ih =>
    intro p c ψ F hF H hC hR
    obtain ⟨F, rfl⟩ : ∃ j, F = j + 1 := ⟨F - 1, by omega⟩
    obtain ⟨p', e, k1, k2, k3, k4, k5, k6, k7, k8, k9⟩ := zCh_s hW H
    have h9 := ((hR.2.2 (p / 4) (by omega)).2 (some p') k1).2
    have h9 : ψ 9 (p / 4) = nI p' := h9
    have hps := H.2.2.2.1
    have hp : p < 256 := by omega
    obtain ⟨m0, m1, m2, m3⟩ := hC p' k2
    rw [k3] at m0 m1 m2 m3
    have m0 : ψ 1 (18 + 4 * p') = nI e.1 := m0
    have m1 : ψ 1 (18 + 4 * p' + 1) = nI e.2.2.1 := m1
    have m2 : ψ 1 (18 + 4 * p' + 2) = nI e.2.2.2 := m2
    have m3 : ψ 1 (18 + 4 * p' + 3) = if e.2.1 = p' / 4 then nI 0 else nI 1 := m3
    have hput := putE_c hC hp (c p')
    have hR' : zRs (putE ψ p (c p')) T := by
      unfold zRs
      rw [putE_o _ _ _ (by decide), putE_o _ _ _ (by decide), putE_o _ _ _ (by decide), putE_o _ _ _ (by decide)]
      exact hR
    obtain ⟨ψ', g1, g2, g3, g4⟩ := ih p' _ (putE ψ p (c p')) F (by omega) k9 hput hR'
    rw [mv_s k1]
    refine ⟨ψ', ?_, g2, zLo_t (putE_l ψ hp _) g3, fun c' h => by rw [g4 c' h, putE_o _ _ _ h]⟩
    rw [← g1]
    have hat : G_X9_at (nI (p' / 4)) (nI (p' % 4)) = nI (18 + 4 * p') := by
      rw [zm_at, show 4 * (p' / 4) + p' % 4 = p' by omega]
    have hside : nI 1 - ψ 1 (18 + 4 * p' + 3) = f3 (p / 4) (some e) := by
      rw [m3]
      show nI 1 - _ = if e.2.1 = p / 4 then nI 0 else nI 1
      by_cases g : e.2.1 = p' / 4
      · rw [if_pos g, if_neg (fun z => k8 (by rw [← g, z]))]
        decide
      · rw [if_neg g, if_pos (k6.resolve_left g)]
        decide
    have hp4 := zm_put ψ (nI e.1) (nI e.2.2.1) (nI e.2.2.2) (f3 (p / 4) (some e)) (u := p / 4) (k := p % 4) (by omega)
    rw [show 4 * (p / 4) + p % 4 = p by omega] at hp4
    have hp5 : put4 ψ (18 + 4 * p) (nI e.1) (nI e.2.2.1) (nI e.2.2.2) (f3 (p / 4) (some e)) = putE ψ p (c p') := by
      rw [k3]
      rfl
    rw [hp5] at hp4
    have h9' : putE ψ p (c p') 9 (p / 4) = nI p' := by
      rw [putE_o _ _ _ (by decide)]
      exact h9
    show B_X9_moveChain_9 N v1 _ (nI (p / 4)) (nI (p % 4)) ψ = _
    unfold B_X9_moveChain_9
    simp (disch := omega) only [zn_L, zn_M, zn_R, h9, if_false, hat, m0, m1, m2]
    rw [hside, hp4]
    simp (disch := omega) only [zn_R, h9']
theorem zm_moveChain {N : Nat} (hN : 5000 ≤ N) {ψ : M2} {P : Pm} {c : Ce} {q : List En} {nk : Nat} {K : Nat → Nat} {x u : Nat} (hx : x < 1000) (hR : zRM (ψ 1) P c q nk K) (hF : zWF P c q nk K) (hT : zRs ψ (bfs P.1 P.2.1 c (nE P x).2.1 (oth P.1 (nE P x).2.1 (nE P x).1)).2) (hu : (bfs P.1 P.2.1 c (nE P x).2.1 (oth P.1 (nE P x).2.1 (nE P x).1)).1 = some u) : ∃ y ψ', insS P c x = some y ∧ G_X9_moveChain N ψ (nI x) (nI u) = some ψ' ∧ zRM (ψ' 1) P y.2 q nk K ∧ zFr ψ ψ' ∧ ψ' 8 u = nI y.1 ∧ u < 64 := by
  obtain ⟨hP, hC, hS, hK⟩ := hR
  obtain ⟨hW, hV, hq, hk⟩ := hF
  have he := nE_ok hW x
  have hs := hW.2.1
  have h6 := p2_6 hW.1.2
  have ho := oth_lt (nE P x).1 he.2.1
  obtain ⟨k, k1, k2, k3, k4, k5, k6⟩ := zCh_i hW hV he.2.1 ho hu
  obtain ⟨v, v1, v2, v3, v4⟩ := zm_mloop hN (nI x) hW _ _ c ψ N (by omega) k6 hC hT
  have hm := mv_ok hW _ _ _ k6
  have hlt := hm.1.2.2.1 _ hm.2.1
  have hps := hm.2.2.2.1
  have hroom := zm_room hN (u := u) hP hC hW hV (by omega)
  rw [k1] at hroom
  refine ⟨((bfs P.1 P.2.1 c (nE P x).2.1 (oth P.1 (nE P x).2.1 (nE P x).1)).2.2.2 u, uC (mv (bfs P.1 P.2.1 c (nE P x).2.1 (oth P.1 (nE P x).2.1 (nE P x).1)).2.2.1 ((bfs P.1 P.2.1 c (nE P x).2.1 (oth P.1 (nE P x).2.1 (nE P x).1)).2.2.2 u) c (endp c P.2.1 u)).1 (mv (bfs P.1 P.2.1 c (nE P x).2.1 (oth P.1 (nE P x).2.1 (nE P x).1)).2.2.1 ((bfs P.1 P.2.1 c (nE P x).2.1 (oth P.1 (nE P x).2.1 (nE P x).1)).2.2.2 u) c (endp c P.2.1 u)).2 (some (nE P x))), ?_⟩
  have hins : insS P c x = some ((bfs P.1 P.2.1 c (nE P x).2.1 (oth P.1 (nE P x).2.1 (nE P x).1)).2.2.2 u, uC (mv (bfs P.1 P.2.1 c (nE P x).2.1 (oth P.1 (nE P x).2.1 (nE P x).1)).2.2.1 ((bfs P.1 P.2.1 c (nE P x).2.1 (oth P.1 (nE P x).2.1 (nE P x).1)).2.2.2 u) c (endp c P.2.1 u)).1 (mv (bfs P.1 P.2.1 c (nE P x).2.1 (oth P.1 (nE P x).2.1 (nE P x).1)).2.2.1 ((bfs P.1 P.2.1 c (nE P x).2.1 (oth P.1 (nE P x).2.1 (nE P x).1)).2.2.2 u) c (endp c P.2.1 u)).2 (some (nE P x))) := by
    unfold insS
    rw [hu, og_s]
  have ediv : endp c P.2.1 u / 4 = u := by omega
  have emod : endp c P.2.1 u % 4 = k := by omega
  rw [ediv, emod] at v1
  generalize (mv (bfs P.1 P.2.1 c (nE P x).2.1 (oth P.1 (nE P x).2.1 (nE P x).1)).2.2.1 ((bfs P.1 P.2.1 c (nE P x).2.1 (oth P.1 (nE P x).2.1 (nE P x).1)).2.2.2 u) c (endp c P.2.1 u)) = M at *
  have hPv := zMp_c hP v3
  obtain ⟨w, w1, w2, w3⟩ := zm_hold hPv hW hx
  have ww : w 1 = v 1 := funext fun i => w3 1 i (Or.inl (by decide))
  have hlt2 : M.2 / 4 < 2 ^ P.1 := hlt
  have hps2 : M.2 % 4 < P.2.1 := hps
  have hM : M.2 < 256 := by omega
  have hcw : zMc (w 1) M.1 := by rw [ww]; exact v2
  have hput := zm_putH w2 (u := M.2 / 4) (k := M.2 % 4) (by omega) (by omega) (by have := he.2.1; omega)
  rw [show 4 * (M.2 / 4) + M.2 % 4 = M.2 by omega] at hput
  have hlo : zLo (ψ 1) (putE w M.2 (some (nE P x)) 1) := by
    have := putE_l w hM (some (nE P x))
    rw [ww] at this
    exact zLo_t v3 this
  refine ⟨putE w M.2 (some (nE P x)), hins, ?_, ⟨zMp_c hP hlo, putE_c hcw hM _, zMq_c hS hq.1 hlo, zMk_c hK hlo⟩, putE_f (fun c' i' hk' => ?_) _ _, ?_, by omega⟩
  · unfold G_X9_moveChain
    simp (disch := omega) only [zn_L, zn_M, zn_R, hroom, zn_g, v1, w1]
    by_cases g : nI (M.2 / 4) = w 0 9
    · rw [if_pos g] at hput ⊢
      rw [hput]
      rfl
    · rw [if_neg g] at hput ⊢
      rw [hput]
      rfl
  · obtain ⟨z1, z2, z3⟩ := zkp_h hk'
    rw [w3 c' i' z1, v4 c' z3]
  · rw [putE_o _ _ _ (by decide), w3 8 u (Or.inl (by decide)), v4 8 (by decide)]
    have b1 := (bfs_ok hW hV he.2.1 ho).1
    have b2 := ((bfs_ok hW hV he.2.1 ho).2.1 u hu).1
    cases hz : (bfs P.1 P.2.1 c (nE P x).2.1 (oth P.1 (nE P x).2.1 (nE P x).1)).2.2.1 u with
    | none =>
      rw [hz] at b2
      cases b2
    | some y => exact ((hT.2.2 u (by omega)).2 y hz).1
