/-! the pure layer: pairs, third part: changes -/
theorem zTx_g {τ ψ ψ' : M2} {X : List Nat} (h : zTx τ ψ X) (h3 : ψ' 3 = ψ 3) (h04 : ψ' 0 4 = ψ 0 4) : zTx τ ψ' X :=
  ⟨h.1, h.2.1, by rw [h04]; exact h.2.2.1, fun i x hx => by rw [h3]; exact h.2.2.2 i x hx⟩
theorem zVm_g {ψ ψ' : M2} {V : List St} (h : zVm ψ V) (h2 : ψ' 2 = ψ 2) (h02 : ψ' 0 2 = ψ 0 2) : zVm ψ' V :=
  ⟨by rw [h02]; exact h.1, fun i T hT => by rw [h2]; exact h.2 i T hT⟩
theorem zm_side {N : Nat} (hN : 5000 ≤ N) {ψ : M2} {S : St} {V : List St} {p : Nat} (h4 : 4 ≤ p) (h6 : p < 6) (hM : zRMs (ψ 1) S) (hF : zWFs S) (hV : zVm ψ V) (hw : zVw V) : ∃ ψ', G_X9_copy N ψ (nI p) = some ψ' ∧ zVm ψ' V ∧ zRMs (fun j => ψ' 2 (1163 * p + j)) S ∧ ∀ c', c' ≠ 2 → ψ' c' = ψ c' := by
  obtain ⟨w, a1, a2, a3⟩ := zm_copy hN ψ h6
  have hl := hw.1
  refine ⟨w, a1, ⟨by rw [a3 0 (by decide)]; exact hV.1, fun i T hT => ?_⟩, zRMs_x hM hF (fun j hj => ?_), a3⟩
  · have hi := (List.getElem?_eq_some_iff.mp hT).1
    refine zRMs_x (hV.2 i T hT) (hw.2 T (List.mem_of_getElem? hT)) (fun j hj => ?_)
    show w 2 (1163 * i + j) = ψ 2 (1163 * i + j)
    rw [a2, if_neg (by omega)]
  · show w 2 (1163 * p + j) = ψ 1 j
    rw [a2, if_pos (by omega), Nat.add_sub_cancel_left]
theorem zm_laid {N : Nat} (hN : 5000 ≤ N) {ψ : M2} {S : St} {p : Nat} (h6 : p < 6) (hM : zRMs (fun j => ψ 2 (1163 * p + j)) S) (hF : zWFs S) : ∃ ψ', G_X9_layBack N ψ (nI p) = some ψ' ∧ zRMs (ψ' 1) S ∧ ∀ c', c' ≠ 1 → ψ' c' = ψ c' := by
  obtain ⟨w, a1, a2, a3⟩ := zm_lay hN ψ h6
  exact ⟨w, a1, zRMs_x hM hF (fun j hj => a2 j hj), a3⟩
/-- a change that succeeds in thought, with the state before it kept aside by the model -/
theorem zR_acc {N : Nat} (hN : 5000 ≤ N) {u0 w4 : M2} {η : HT} {τ ψ3 : M2} {hv : Int64} {S S' : St} {V : List St} {X : List Nat} {p : Nat} (h4 : 4 ≤ p) (h6 : p < 6) (hR : zRCs u0 S) (hF : zWFs S) (hR' : zRCs w4 S') (hF' : zWFs S') (hVc : zVc η V) (hw : zVw V) (hM' : zRMs (ψ3 1) S') (hVm : zVm ψ3 V) (hpg : zRMs (fun j => ψ3 2 (1163 * p + j)) S) (hT : zTx τ ψ3 X) : ∃ q η' ψ4, G_X8_accept N u0 w4 η = some (q, w4, η') ∧ G_X9_keepAside N ψ3 (nI p) = some ψ4 ∧ zRl q w4 η' τ ψ4 hv ∧ ψ4 0 5 = ψ3 0 5 ∧ ψ4 1 = ψ3 1 := by
  obtain ⟨q, η', a1, a2, a3⟩ := zc_accept hN hR hF hR' hF' hVc hw.1
  obtain ⟨v, b1, b2, b3⟩ := zm_aside hN h4 h6 hpg hF hVm hw
  have v1 : v 1 = ψ3 1 := funext fun i => b3 1 i (by decide) (Or.inl (by decide))
  refine ⟨q, η', v, a1, b1, ⟨S', pushV V S, X, ⟨a2, by rw [v1]; exact hM', hF'⟩, ⟨a3, b2, pushV_w hw hF⟩, zTx_g hT (funext fun i => b3 3 i (by decide) (Or.inl (by decide))) (b3 0 4 (by decide) (Or.inr (by decide)))⟩, b3 0 5 (by decide) (Or.inr (by decide)), v1⟩
/-- a change that cannot fail: the model keeps the state first -/
theorem zR_keep {N : Nat} (hN : 5000 ≤ N) {u0 : M2} {η : HT} {τ ψ : M2} {S : St} {V : List St} {X : List Nat} (hM : zRMs (ψ 1) S) (hF : zWFs S) (hVm : zVm ψ V) (hw : zVw V) (hT : zTx τ ψ X) : ∃ ψ', G_X9_keep N ψ = some ψ' ∧ zVm ψ' (pushV V S) ∧ zTx τ ψ' X ∧ ψ' 1 = ψ 1 ∧ zF2 ψ ψ' := by
  obtain ⟨v, b1, b2, b3⟩ := zm_keep hN hM hF hVm hw
  exact ⟨v, b1, b2, zTx_g hT (funext fun i => b3 3 i (by decide) (Or.inl (by decide))) (b3 0 4 (by decide) (Or.inr (by decide))), funext fun i => b3 1 i (by decide) (Or.inl (by decide)), b3⟩
theorem z5M {ψ : M2} {S : St} (h : zRMs (ψ 1) S) (v : Int32) : zRMs (upd2 ψ 0 5 v 1) S := by rw [u51]; exact h
theorem z5V {ψ : M2} {V : List St} (h : zVm ψ V) (v : Int32) : zVm (upd2 ψ 0 5 v) V := zVm_g h (upd2_o (by decide)) (by rw [upd2_e, if_neg (by decide)])
theorem z5T {τ ψ : M2} {X : List Nat} (h : zTx τ ψ X) (v : Int32) : zTx τ (upd2 ψ 0 5 v) X := zTx_g h (upd2_o (by decide)) (by rw [upd2_e, if_neg (by decide)])
theorem zn_B2 : ((nI 2 = mI) = False) ∧ ((nI 0 = mI) = False) ∧ ((mI = mI) = True) := ⟨eq_false (by decide), eq_false (by decide), eq_true rfl⟩
section PK
variable {N : Nat}
theorem pq_7 (hN : 5000 ≤ N) : Pk7 N zRl := by
  intro u0 φ η τ ψ hv p1 hrel
  obtain ⟨S, V, X, ⟨hR, hM, hF⟩, ⟨hVc, hVm, hw⟩, hT⟩ := id hrel
  rcases zp_key p1 with ⟨x, hx, rfl, k1, k2⟩ | ⟨k1, k2⟩
  · obtain ⟨w1, a1, a2, a3⟩ := zc_copy hN φ hR hF
    obtain ⟨r, w4, b1, b2⟩ := zc_addKey hN hx a2 hF
    obtain ⟨m3, d1, d2, d3, d4⟩ := zm_side hN (p := 4) (by decide) (by decide) (z5M hM (nI 0)) hF (z5V hVm (nI 0)) hw
    have m31 : m3 1 = ψ 1 := by rw [d4 1 (by decide)]; exact u51 _ _
    obtain ⟨r', m4, e1, e2, e3⟩ := zm_tryAdd (ψ := m3) hN hx (by rw [m31]; exact hM) hF
    have m45 : m4 0 5 = nI 0 := by rw [e3 0 5 rfl, d4 0 (by decide)]; exact u55 _ _
    have m42 : m4 2 = m3 2 := funext fun i => e3 2 i rfl
    have hTm4 : zTx τ m4 X := zTx_g hT (by rw [show m4 3 = m3 3 from funext fun i => e3 3 i rfl, d4 3 (by decide)]; exact upd2_o (by decide)) (by rw [e3 0 4 rfl, d4 0 (by decide), upd2_e, if_neg (by decide)])
    have hVm4 : zVm m4 V := zVm_g d2 m42 (e3 0 2 rfl)
    have hpg : zRMs (fun j => m4 2 (1163 * 4 + j)) S := by rw [m42]; exact d3
    cases hy : addk S.1 S.2.1 S.2.2.1 S.2.2.2.1 S.2.2.2.2 x with
    | none =>
      rw [hy] at b2 e2
      obtain ⟨b21, b22⟩ := b2
      obtain ⟨e21, e22⟩ := e2
      subst b21
      subst e21
      obtain ⟨m5, f1, f2, f3⟩ := zm_laid hN (p := 4) (by decide) hpg hF
      refine ⟨2, nI 0, u0, w4, η, τ, nI 0, upd2 m5 0 5 (nI 2), ?_, Or.inr (Or.inr rfl), ?_, u55 _ _, fun z => (by cases z), ⟨S, V, X, ⟨hR, z5M f2 _, hF⟩, ⟨hVc, z5V (zVm_g hVm4 (f3 2 (by decide)) (by rw [f3 0 (by decide)])) _, hw⟩, z5T (zTx_g hTm4 (f3 3 (by decide)) (by rw [f3 0 (by decide)])) _⟩⟩
      · simp only [G_X8_add, zn_L, zn_M, zn_R, k1, zn_B, if_false, a1, b1, if_true, a3]
      · simp only [G_X9_add, J_X9_add_13, zn_L, zn_M, zn_R, k2, zn_B, if_false, u55, if_true, d1, e1, f1]
    | some y =>
      rw [hy] at b2 e2
      obtain ⟨b21, b22⟩ := b2
      obtain ⟨e21, e22⟩ := e2
      subst b21
      subst e21
      obtain ⟨hF', hy100⟩ := addk_ok hx hF hy
      obtain ⟨q, η', m5, g1, g2, g3, g4, g5⟩ := zR_acc (hv := hv) (S' := (S.1, y.2)) (p := 4) hN (by decide) (by decide) hR hF b22 hF' hVc hw e22 hVm4 hpg hTm4
      have hne : (nI y.1 = mI) = False := eq_false (fun z => (zn_mi (a := y.1) (by omega)).1.mp z)
      refine ⟨0, nI y.1, q, w4, η', τ, nI y.1, m5, ?_, Or.inl rfl, ?_, by rw [g4, m45]; rfl, fun _ => rfl, g3⟩
      · simp only [G_X8_add, zn_L, zn_M, zn_R, k1, zn_B, if_false, a1, b1, a3, hne, g1]
      · simp only [G_X9_add, J_X9_add_13, zn_L, zn_M, zn_R, k2, zn_B, if_false, u55, if_true, d1, e1, hne, g2]
  · refine ⟨1, nI 0, u0, φ, η, τ, nI 0, upd2 ψ 0 5 (nI 1), ?_, Or.inr (Or.inl rfl), ?_, u55 _ _, fun z => (by cases z), zRl_5 hrel _⟩
    · simp only [G_X8_add, zn_L, k1, if_true]
    · simp only [G_X9_add, J_X9_add_13, zn_L, zn_R, k2, if_true, u55, zn_B, if_false]
theorem pq_11 (hN : 5000 ≤ N) : Pk11 N zRl := by
  intro u0 φ η τ ψ hv p1 p2 p3 p4 hrel
  obtain ⟨S, V, X, ⟨hR, hM, hF⟩, ⟨hVc, hVm, hw⟩, hT⟩ := id hrel
  have hbad : ∀ (r : Int32), r = nI 0 → True := fun _ _ => trivial
  have fail : G_X8_rebuild N u0 φ η τ p1 p2 p3 p4 = some (1, nI 0, u0, φ, η, τ) → G_X9_areNumbers p1 p2 p3 p4 = nI 0 → ∃ (k0 : Nat) (r0 : Int32) (u0r φr : M2) (ηr : HT) (τr : M2) (r1 : Int32) (ψr : M2), G_X8_rebuild N u0 φ η τ p1 p2 p3 p4 = some (k0, r0, u0r, φr, ηr, τr) ∧ (k0 = 0 ∨ k0 = 1 ∨ k0 = 2) ∧ G_X9_rebuild N ψ p1 p2 p3 p4 = some (r1, ψr) ∧ ψr 0 5 = hkc 1 k0 ∧ (k0 = 0 → r0 = r1) ∧ zRl u0r φr ηr τr ψr hv := by
    intro h1 h2
    refine ⟨1, nI 0, u0, φ, η, τ, nI 0, upd2 ψ 0 5 (nI 1), h1, Or.inr (Or.inl rfl), ?_, u55 _ _, fun z => (by cases z), zRl_5 hrel _⟩
    simp only [G_X9_rebuild, J_X9_rebuild_17, zn_L, zn_R, h2, if_true, u55, zn_B, if_false]
  rcases zp_in p1 1 6 (by decide) (by decide) with ⟨b, hb1, hb2, rfl, k1, k2⟩ | ⟨k1, k2⟩
  · rcases zp_in p2 1 4 (by decide) (by decide) with ⟨s, hs1, hs2, rfl, q1, q2⟩ | ⟨q1, q2⟩
    · rcases zp_in p3 1 8 (by decide) (by decide) with ⟨f, hf1, hf2, rfl, j1, j2⟩ | ⟨j1, j2⟩
      · rcases zp_in p4 0 99 (by decide) (by decide) with ⟨e, he1, he2, rfl, i1, i2⟩ | ⟨i1, i2⟩
        · have hnum : G_X9_areNumbers (nI b) (nI s) (nI f) (nI e) = nI 1 := by
            unfold G_X9_areNumbers
            simp only [zn_L, zn_R, k2, q2, j2, i2, zn_B, if_false]
          have hW' : zWp (b, s, f, e, S.1.2.2.2.2) := ⟨⟨hb1, hb2⟩, ⟨hs1, hs2⟩, ⟨hf1, hf2⟩, by show e < 100; omega, hF.1.2.2.2.2⟩
          obtain ⟨w1, a1, a2, a3⟩ := zc_copy hN φ hR hF
          obtain ⟨w4, b1, b2⟩ := zc_refill hN hW' hF.2.2.2 a2
          obtain ⟨m3, d1, d2, d3, d4⟩ := zm_side hN (p := 4) (by decide) (by decide) (z5M hM (nI 0)) hF (z5V hVm (nI 0)) hw
          have m31 : m3 1 = ψ 1 := by rw [d4 1 (by decide)]; exact u51 _ _
          obtain ⟨m4, e1, e2, e3⟩ := zm_rebuilds (ψ := m3) hN hW' hF.2.2.2 (show zRM (m3 1) S.1 S.2.1 S.2.2.1 S.2.2.2.1 S.2.2.2.2 by rw [m31]; exact hM)
          have m45 : m4 0 5 = nI 0 := by rw [e3 0 5 rfl, d4 0 (by decide)]; exact u55 _ _
          have m42 : m4 2 = m3 2 := funext fun i => e3 2 i rfl
          have hTm4 : zTx τ m4 X := zTx_g hT (by rw [show m4 3 = m3 3 from funext fun i => e3 3 i rfl, d4 3 (by decide)]; exact upd2_o (by decide)) (by rw [e3 0 4 rfl, d4 0 (by decide), upd2_e, if_neg (by decide)])
          have hVm4 : zVm m4 V := zVm_g d2 m42 (e3 0 2 rfl)
          have hpg : zRMs (fun j => m4 2 (1163 * 4 + j)) S := by rw [m42]; exact d3
          have hF' : zWF (b, s, f, e, S.1.2.2.2.2) (rb (b, s, f, e, S.1.2.2.2.2) S.2.2.2.2 S.2.2.2.1 0 nC []).2.1 (rb (b, s, f, e, S.1.2.2.2.2) S.2.2.2.2 S.2.2.2.1 0 nC []).2.2 S.2.2.2.1 S.2.2.2.2 := rb_ok (nk := S.2.2.2.1) S.2.2.2.1 0 nC [] (Nat.zero_add _) ⟨hW', nC_ok _ _, nq_ok _, hF.2.2.2⟩
          cases hy : (rb (b, s, f, e, S.1.2.2.2.2) S.2.2.2.2 S.2.2.2.1 0 nC []).1 with
          | false =>
            rw [hy] at b1 e1
            have b1 : G_X2_refill N w1 (nI b) (nI s) (nI f) (nI e) = some (nI 0, w4) := b1
            have e1 : G_X9_rebuilds N m3 (nI b) (nI s) (nI f) (nI e) = some (nI 0, m4) := e1
            obtain ⟨m5, f1, f2, f3⟩ := zm_laid hN (p := 4) (by decide) hpg hF
            refine ⟨2, nI 0, u0, w4, η, τ, nI 0, upd2 m5 0 5 (nI 2), ?_, Or.inr (Or.inr rfl), ?_, u55 _ _, fun z => (by cases z), ⟨S, V, X, ⟨hR, z5M f2 _, hF⟩, ⟨hVc, z5V (zVm_g hVm4 (f3 2 (by decide)) (by rw [f3 0 (by decide)])) _, hw⟩, z5T (zTx_g hTm4 (f3 3 (by decide)) (by rw [f3 0 (by decide)])) _⟩⟩
            · simp only [G_X8_rebuild, zn_L, zn_M, zn_R, k1, q1, j1, i1, zn_B, if_false, a1, b1, if_true, a3]
            · simp only [G_X9_rebuild, J_X9_rebuild_17, zn_L, zn_M, zn_R, hnum, zn_B, if_false, u55, if_true, d1, e1, f1]
          | true =>
            rw [hy] at b1 e1
            have b1 : G_X2_refill N w1 (nI b) (nI s) (nI f) (nI e) = some (nI 1, w4) := b1
            have e1 : G_X9_rebuilds N m3 (nI b) (nI s) (nI f) (nI e) = some (nI 1, m4) := e1
            obtain ⟨q, η', m5, g1, g2, g3, g4, g5⟩ := zR_acc (hv := hv) (S' := ((b, s, f, e, S.1.2.2.2.2), (rb (b, s, f, e, S.1.2.2.2.2) S.2.2.2.2 S.2.2.2.1 0 nC []).2.1, (rb (b, s, f, e, S.1.2.2.2.2) S.2.2.2.2 S.2.2.2.1 0 nC []).2.2, S.2.2.2.1, S.2.2.2.2)) (p := 4) hN (by decide) (by decide) hR hF b2 hF' hVc hw e2 hVm4 hpg hTm4
            have h3 := hF'.2.2.1.1
            have h07 : w4 0 7 = nI (rb (b, s, f, e, S.1.2.2.2.2) S.2.2.2.2 S.2.2.2.1 0 nC []).2.2.length := b2.2.2.1.1
            have h15 : m5 1 5 = nI (rb (b, s, f, e, S.1.2.2.2.2) S.2.2.2.2 S.2.2.2.1 0 nC []).2.2.length := by rw [g5]; exact e2.2.2.1.1
            have hne : (nI (rb (b, s, f, e, S.1.2.2.2.2) S.2.2.2.2 S.2.2.2.1 0 nC []).2.2.length = mI) = False := eq_false (fun z => (zn_mi (by omega)).1.mp z)
            refine ⟨0, nI (rb (b, s, f, e, S.1.2.2.2.2) S.2.2.2.2 S.2.2.2.1 0 nC []).2.2.length, q, w4, η', τ, nI (rb (b, s, f, e, S.1.2.2.2.2) S.2.2.2.2 S.2.2.2.1 0 nC []).2.2.length, m5, ?_, Or.inl rfl, ?_, by rw [g4, m45]; rfl, fun _ => rfl, g3⟩
            · simp only [G_X8_rebuild, G_X2_stashSize, zn_L, zn_M, zn_R, k1, q1, j1, i1, zn_B, if_false, a1, b1, a3, h07, hne, g1]
            · simp only [G_X9_rebuild, J_X9_rebuild_17, zn_L, zn_M, zn_R, hnum, zn_B, if_false, u55, if_true, d1, e1, g2]
              simp (disch := omega) only [zn_R, h15]
        · refine fail ?_ ?_
          · simp only [G_X8_rebuild, zn_L, zn_R, k1, q1, j1, i1, zn_B, if_false, if_true]
          · simp only [G_X9_areNumbers, zn_L, zn_R, k2, q2, j2, i2, zn_B, if_false, if_true]
      · refine fail ?_ ?_
        · simp only [G_X8_rebuild, zn_L, zn_R, k1, q1, j1, zn_B, if_false, if_true]
        · simp only [G_X9_areNumbers, zn_L, zn_R, k2, q2, j2, zn_B, if_false, if_true]
    · refine fail ?_ ?_
      · simp only [G_X8_rebuild, zn_L, zn_R, k1, q1, zn_B, if_false, if_true]
      · simp only [G_X9_areNumbers, zn_L, zn_R, k2, q2, zn_B, if_false, if_true]
  · refine fail ?_ ?_
    · simp only [G_X8_rebuild, zn_L, zn_R, k1, if_true]
    · simp only [G_X9_areNumbers, zn_L, zn_R, k2, if_true]
theorem pq_12 (hN : 5000 ≤ N) : Pk12 N zRl := by
  intro u0 φ η τ ψ hv p1 hrel
  obtain ⟨S, V, X, ⟨hR, hM, hF⟩, ⟨hVc, hVm, hw⟩, hT⟩ := id hrel
  rcases zp_in p1 0 50 (by decide) (by decide) with ⟨x, h1, h2, rfl, k1, k2⟩ | ⟨k1, k2⟩
  · obtain ⟨w1, a1, a2, a3⟩ := zc_copy hN φ hR hF
    obtain ⟨m, d1, d2, d3, d4, d5⟩ := zR_keep (u0 := u0) (η := η) hN (z5M hM (nI 0)) hF (z5V hVm (nI 0)) hw (z5T hT (nI 0))
    have m1 : m 1 = ψ 1 := by rw [d4]; exact u51 _ _
    have hR' : zRC (upd2 w1 0 4 (nI x)) (S.1.1, S.1.2.1, S.1.2.2.1, S.1.2.2.2.1, x) S.2.1 S.2.2.1 S.2.2.2.1 S.2.2.2.2 := by
      obtain ⟨q1, q2, q3, q4⟩ := a2
      refine ⟨?_, zCl_c q2 (upd2_o (by decide)), ⟨by rw [upd2_e, if_neg (by decide)]; exact q3.1, fun i e he => by rw [upd2_o (by decide)]; exact q3.2 i e he⟩, zKy_c q4 (upd2_o (by decide)) (upd2_o (by decide))⟩
      unfold zPm at *
      simp [upd2_e, q1]
    have hM' : zRM (upd2 m 1 4 (nI x) 1) (S.1.1, S.1.2.1, S.1.2.2.1, S.1.2.2.2.1, x) S.2.1 S.2.2.1 S.2.2.2.1 S.2.2.2.2 := by
      obtain ⟨q1, q2, q3, q4⟩ := (show zRMs (m 1) S by rw [m1]; exact hM)
      refine ⟨?_, fun p hp => ?_, ⟨?_, fun i e he => ?_⟩, ⟨?_, fun i hi => ?_⟩⟩
      · unfold zMp at *
        simp [upd2_e, q1]
      · rw [upd2_e, if_neg (by omega), upd2_e, if_neg (by omega), upd2_e, if_neg (by omega), upd2_e, if_neg (by omega)]
        exact q2 p hp
      · rw [upd2_e, if_neg (by omega)]
        exact q3.1
      · rw [upd2_e, if_neg (by omega), upd2_e, if_neg (by omega), upd2_e, if_neg (by omega), upd2_e, if_neg (by omega)]
        exact q3.2 i e he
      · rw [upd2_e, if_neg (by omega)]
        exact q4.1
      · rw [upd2_e, if_neg (by omega)]
        exact q4.2 i hi
    have hF' : zWF (S.1.1, S.1.2.1, S.1.2.2.1, S.1.2.2.2.1, x) S.2.1 S.2.2.1 S.2.2.2.1 S.2.2.2.2 := ⟨⟨hF.1.1, hF.1.2.1, hF.1.2.2.1, hF.1.2.2.2.1, h2⟩, hF.2.1, hF.2.2.1, hF.2.2.2⟩
    obtain ⟨q, η', g1, g2, g3⟩ := zc_accept (S1 := ((S.1.1, S.1.2.1, S.1.2.2.1, S.1.2.2.2.1, x), S.2)) hN hR hF hR' hF' hVc hw.1
    have hm4 : m 1 4 = nI S.1.2.2.2.2 := by rw [m1]; exact hM.1.2.2.2.2
    have hw4 : w1 0 4 = nI S.1.2.2.2.2 := a2.1.2.2.2.2
    refine ⟨0, nI S.1.2.2.2.2, q, upd2 w1 0 4 (nI x), η', τ, nI S.1.2.2.2.2, upd2 m 1 4 (nI x), ?_, Or.inl rfl, ?_, ?_, fun _ => rfl, ⟨((S.1.1, S.1.2.1, S.1.2.2.1, S.1.2.2.2.1, x), S.2), pushV V S, X, ⟨g2, hM', hF'⟩, ⟨g3, zVm_g d2 (upd2_o (by decide)) (by rw [upd2_o (by decide)]), pushV_w hw hF⟩, zTx_g d3 (upd2_o (by decide)) (by rw [upd2_o (by decide)])⟩⟩
    · simp only [G_X8_setLimit, G_X2_changeLimit, zn_L, zn_R, k1, zn_B, if_false, a1, a3, hw4, g1]
    · simp only [G_X9_setLimit, J_X9_setLimit_16, zn_L, zn_R, k2, zn_B, if_false, u55, if_true, d1]
      simp (disch := omega) only [zn_R, hm4]
    · rw [upd2_o (by decide), d5 0 5 (by decide) (Or.inr (by decide))]
      exact u55 _ _
  · refine ⟨1, nI 0, u0, φ, η, τ, nI 0, upd2 ψ 0 5 (nI 1), ?_, Or.inr rfl, ?_, u55 _ _, fun z => (by cases z), zRl_5 hrel _⟩
    · simp only [G_X8_setLimit, zn_L, zn_R, k1, if_true]
    · simp only [G_X9_setLimit, J_X9_setLimit_16, zn_L, zn_R, k2, if_true, u55, zn_B, if_false]
theorem pq_13 (hN : 5000 ≤ N) : Pk13 N zRl := by
  intro u0 φ η τ ψ hv p1 hrel
  obtain ⟨S, V, X, ⟨hR, hM, hF⟩, ⟨hVc, hVm, hw⟩, hT⟩ := id hrel
  rcases zp_in p1 1 8 (by decide) (by decide) with ⟨x, h1, h2, rfl, k1, k2⟩ | ⟨k1, k2⟩
  · obtain ⟨w1, a1, a2, a3⟩ := zc_copy hN φ hR hF
    obtain ⟨m, d1, d2, d3, d4, d5⟩ := zR_keep (u0 := u0) (η := η) hN (z5M hM (nI 0)) hF (z5V hVm (nI 0)) hw (z5T hT (nI 0))
    have m1 : m 1 = ψ 1 := by rw [d4]; exact u51 _ _
    have hR' : zRC (upd2 w1 0 2 (nI x)) (S.1.1, S.1.2.1, x, S.1.2.2.2) S.2.1 S.2.2.1 S.2.2.2.1 S.2.2.2.2 := by
      obtain ⟨q1, q2, q3, q4⟩ := a2
      refine ⟨?_, zCl_c q2 (upd2_o (by decide)), ⟨by rw [upd2_e, if_neg (by decide)]; exact q3.1, fun i e he => by rw [upd2_o (by decide)]; exact q3.2 i e he⟩, zKy_c q4 (upd2_o (by decide)) (upd2_o (by decide))⟩
      unfold zPm at *
      simp [upd2_e, q1]
    have hM' : zRM (upd2 m 1 2 (nI x) 1) (S.1.1, S.1.2.1, x, S.1.2.2.2) S.2.1 S.2.2.1 S.2.2.2.1 S.2.2.2.2 := by
      obtain ⟨q1, q2, q3, q4⟩ := (show zRMs (m 1) S by rw [m1]; exact hM)
      refine ⟨?_, fun p hp => ?_, ⟨?_, fun i e he => ?_⟩, ⟨?_, fun i hi => ?_⟩⟩
      · unfold zMp at *
        simp [upd2_e, q1]
      · rw [upd2_e, if_neg (by omega), upd2_e, if_neg (by omega), upd2_e, if_neg (by omega), upd2_e, if_neg (by omega)]
        exact q2 p hp
      · rw [upd2_e, if_neg (by omega)]
        exact q3.1
      · rw [upd2_e, if_neg (by omega), upd2_e, if_neg (by omega), upd2_e, if_neg (by omega), upd2_e, if_neg (by omega)]
        exact q3.2 i e he
      · rw [upd2_e, if_neg (by omega)]
        exact q4.1
      · rw [upd2_e, if_neg (by omega)]
        exact q4.2 i hi
    have hF' : zWF (S.1.1, S.1.2.1, x, S.1.2.2.2) S.2.1 S.2.2.1 S.2.2.2.1 S.2.2.2.2 := ⟨⟨hF.1.1, hF.1.2.1, ⟨h1, h2⟩, hF.1.2.2.2⟩, hF.2.1, hF.2.2.1, hF.2.2.2⟩
    obtain ⟨q, η', g1, g2, g3⟩ := zc_accept (S1 := ((S.1.1, S.1.2.1, x, S.1.2.2.2), S.2)) hN hR hF hR' hF' hVc hw.1
    have hm4 : m 1 2 = nI S.1.2.2.1 := by rw [m1]; exact hM.1.2.2.1
    have hw4 : w1 0 2 = nI S.1.2.2.1 := a2.1.2.2.1
    refine ⟨0, nI S.1.2.2.1, q, upd2 w1 0 2 (nI x), η', τ, nI S.1.2.2.1, upd2 m 1 2 (nI x), ?_, Or.inl rfl, ?_, ?_, fun _ => rfl, ⟨((S.1.1, S.1.2.1, x, S.1.2.2.2), S.2), pushV V S, X, ⟨g2, hM', hF'⟩, ⟨g3, zVm_g d2 (upd2_o (by decide)) (by rw [upd2_o (by decide)]), pushV_w hw hF⟩, zTx_g d3 (upd2_o (by decide)) (by rw [upd2_o (by decide)])⟩⟩
    · simp only [G_X8_setLength, G_X2_changeLength, zn_L, zn_R, k1, zn_B, if_false, a1, a3, hw4, g1]
    · simp only [G_X9_setLength, J_X9_setLength_16, zn_L, zn_R, k2, zn_B, if_false, u55, if_true, d1]
      simp (disch := omega) only [zn_R, hm4]
    · rw [upd2_o (by decide), d5 0 5 (by decide) (Or.inr (by decide))]
      exact u55 _ _
  · refine ⟨1, nI 0, u0, φ, η, τ, nI 0, upd2 ψ 0 5 (nI 1), ?_, Or.inr rfl, ?_, u55 _ _, fun z => (by cases z), zRl_5 hrel _⟩
    · simp only [G_X8_setLength, zn_L, zn_R, k1, if_true]
    · simp only [G_X9_setLength, J_X9_setLength_16, zn_L, zn_R, k2, if_true, u55, zn_B, if_false]
end PK
