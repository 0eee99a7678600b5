/-! the pure layer: pairs, fourth part -/
theorem zF2_s {ψ ψ' : M2} {T : Bs} (h : zF2 ψ ψ') (hR : zRs ψ T) : zRs ψ' T := by
  have e7 : ψ' 7 = ψ 7 := funext fun i => h 7 i (by decide) (Or.inl (by decide))
  have e8 : ψ' 8 = ψ 8 := funext fun i => h 8 i (by decide) (Or.inl (by decide))
  have e9 : ψ' 9 = ψ 9 := funext fun i => h 9 i (by decide) (Or.inl (by decide))
  unfold zRs
  rw [e7, e8, e9, h 0 15 (by decide) (Or.inr (by decide))]
  exact hR
theorem wr_len {b s : Nat} : ∀ (n i : Nat) (c : Ce) (e : En) (u : Nat), (wr b s n i c e u).length ≤ n := by
  intro n
  induction n with
  | zero =>
    intro i c e u
    exact Nat.le_refl _
  | succ n ih =>
    intro i c e u
    cases hc : c (4 * u + i % s) with
    | none =>
      simp only [wr, hc, og_n]
      exact Nat.zero_le _
    | some f =>
      simp only [wr, hc, og_s]
      cases hf : fS (uC c (4 * u + i % s) (some e)) s (oth b u f.1) with
      | some k =>
        show 1 ≤ n + 1
        omega
      | none =>
        have := ih (i + 1) (uC c (4 * u + i % s) (some e)) f (oth b u f.1)
        show (wr b s n (i + 1) (uC c (4 * u + i % s) (some e)) f (oth b u f.1)).length + 1 ≤ n + 1
        omega
theorem insw_len {P : Pm} {c : Ce} {x : Nat} (hW : zWp P) : (insw P c x).length ≤ 50 := by
  have hl := hW.2.2.2.2
  unfold insw
  cases slp P.1 P.2.1 c (nE P x) with
  | some p => exact Nat.zero_le _
  | none =>
    have := wr_len (b := P.1) (s := P.2.1) P.2.2.2.2 0 c (nE P x) (nE P x).2.1
    show (wr P.1 P.2.1 P.2.2.2.2 0 c (nE P x) (nE P x).2.1).length ≤ 50
    omega
theorem zp_no {p : Int32} {n : Nat} (hn : n < 2 ^ 31) (h : p < 0 ∨ nI n ≤ p) : G_X9_in p (nI 0) (nI n - nI 1) = nI 0 := by
  rcases zp_up p n hn with ⟨x, hx, rfl, k1, k2⟩ | ⟨k1, k2⟩
  · exfalso
    rcases h with g | g
    · exact nI_pos (by omega) g
    · rw [nI_leI hn (by omega)] at g
      omega
  · exact k2
section PK
variable {N : Nat}
theorem pq_8 (hN : 5000 ≤ N) : Pk8 N zRl := by
  intro u0 φ η τ ψ hv p1 hrel
  obtain ⟨S, V, X, ⟨hR, hM, hF⟩, ⟨hVc, hVm, hw⟩, hT⟩ := id hrel
  rcases zp_key p1 with ⟨x, hx, rfl, k1, k2⟩ | ⟨k1, k2⟩
  · obtain ⟨w1, a1, a2, a3⟩ := zc_copy hN φ hR hF
    obtain ⟨r, w4, b1, b2⟩ := zc_adds hN hx a2 hF
    have hM5 := z5M hM (nI 0)
    have hmay := zm_mayAdd (ψ := upd2 ψ 0 5 (nI 0)) hN hx hM5.2.2.2 hF.2.2.2
    cases hi : ix S.2.2.2.1 S.2.2.2.2 x with
    | some i =>
      rw [hi, og_s] at hmay
      have hy : adds S.1 S.2.1 S.2.2.1 S.2.2.2.1 S.2.2.2.2 x = none := by
        unfold adds
        rw [hi, og_s]
      rw [hy] at b2
      obtain ⟨b21, b22⟩ := b2
      subst b21
      refine ⟨2, nI 0, u0, w4, η, τ, nI 0, upd2 (upd2 ψ 0 5 (nI 0)) 0 5 (nI 2), ?_, Or.inr (Or.inr rfl), ?_, u55 _ _, fun z => (by cases z), zRl_5 (φ := φ) (hv := hv) (zRl_5 (φ := φ) (hv := hv) hrel _) _⟩
      · simp only [G_X8_addShortest, zn_L, zn_M, zn_R, k1, zn_B, if_false, a1, b1, if_true, a3]
      · simp only [G_X9_addShortest, J_X9_addShortest_13, J_X9_addShortest_42, zn_L, zn_M, zn_R, k2, zn_B, if_false, u55, if_true, hmay]
    | none =>
      rw [hi, og_n] at hmay
      rcases Nat.lt_or_ge S.2.2.2.1 120 with hl | hl
      · rw [if_pos hl] at hmay
        obtain ⟨m, d1, d2, d3⟩ := zm_eoc hN hx hF.1 hF.2.1 hM5.1 hM5.2.1
        have m1 : m 1 = ψ 1 := by rw [zFs_1 d3]; exact u51 _ _
        have hfr := zFs_f d3
        have hVm' : zVm m V := zVm_f (z5V hVm (nI 0)) hfr
        have hTm : zTx τ m X := zTx_f (z5T hT (nI 0)) hfr
        have m5 : m 0 5 = nI 0 := by rw [hfr 0 5 rfl]; exact u55 _ _
        have hMm : zRMs (m 1) S := by rw [m1]; exact hM
        cases hb : (bfs S.1.1 S.1.2.1 S.2.1 (nE S.1 x).2.1 (oth S.1.1 (nE S.1 x).2.1 (nE S.1 x).1)).1 with
        | none =>
          rw [hb] at d1
          have hy : adds S.1 S.2.1 S.2.2.1 S.2.2.2.1 S.2.2.2.2 x = none := by
            unfold adds insS
            rw [hi, og_n, if_pos hl, hb]
            rfl
          rw [hy] at b2
          obtain ⟨b21, b22⟩ := b2
          subst b21
          refine ⟨2, nI 0, u0, w4, η, τ, nI 0, upd2 m 0 5 (nI 2), ?_, Or.inr (Or.inr rfl), ?_, u55 _ _, fun z => (by cases z), ⟨S, V, X, ⟨hR, z5M hMm _, hF⟩, ⟨hVc, z5V hVm' _, hw⟩, z5T hTm _⟩⟩
          · simp only [G_X8_addShortest, zn_L, zn_M, zn_R, k1, zn_B, if_false, a1, b1, if_true, a3]
          · simp only [G_X9_addShortest, J_X9_addShortest_13, J_X9_addShortest_42, zn_L, zn_M, zn_R, k2, zn_B, if_false, u55, if_true, hmay, d1, zn_g]
        | some u =>
          rw [hb] at d1
          obtain ⟨m2, e1, e2, e3, e4, e5⟩ := zR_keep (u0 := u0) (η := η) hN hMm hF hVm' hw hTm
          obtain ⟨y, m3, f1, f2, f3, f4, f5, f6⟩ := zm_moveChain (ψ := m2) (q := S.2.2.1) (nk := S.2.2.2.1) (K := S.2.2.2.2) hN hx (by rw [e4]; exact hMm) hF (zF2_s e5 d2) hb
          have hy : adds S.1 S.2.1 S.2.2.1 S.2.2.2.1 S.2.2.2.2 x = some (y.1, y.2, S.2.2.1, S.2.2.2.1 + 1, kput S.2.2.2.2 S.2.2.2.1 x) := by
            unfold adds
            rw [hi, og_n, if_pos hl, f1]
            rfl
          rw [hy] at b2
          obtain ⟨b21, b22⟩ := b2
          subst b21
          obtain ⟨hF', hy64⟩ := adds_ok hx hF hy
          have hy64 : y.1 < 64 := hy64
          obtain ⟨q, η', g1, g2, g3⟩ := zc_accept (S1 := (S.1, y.2, S.2.2.1, S.2.2.2.1 + 1, kput S.2.2.2.2 S.2.2.2.1 x)) hN hR hF b22 hF' hVc hw.1
          have hnk := zm_noteKey (ψ := m3) f3.2.2.2.1 hl x
          have hne : (nI y.1 = mI) = False := eq_false (fun z => (zn_mi (a := y.1) (by omega)).1.mp z)
          have hnu : (nI u = mI) = False := eq_false (fun z => (zn_mi (a := u) (by omega)).1.mp z)
          have hM6 := zMk_put f3 hF.2.2.1.1 x
          have hV6 : zVm (upd2 (upd2 m3 1 (1043 + S.2.2.2.1) (nI x)) 1 1042 (nI (S.2.2.2.1 + 1))) (pushV V S) := zVm_g (zVm_f e2 f4) (by rw [upd2_o (by decide), upd2_o (by decide)]) (by rw [upd2_o (by decide), upd2_o (by decide)])
          have hT6 : zTx τ (upd2 (upd2 m3 1 (1043 + S.2.2.2.1) (nI x)) 1 1042 (nI (S.2.2.2.1 + 1))) X := zTx_g (zTx_f e3 f4) (by rw [upd2_o (by decide), upd2_o (by decide)]) (by rw [upd2_o (by decide), upd2_o (by decide)])
          have h8 : upd2 (upd2 m3 1 (1043 + S.2.2.2.1) (nI x)) 1 1042 (nI (S.2.2.2.1 + 1)) 8 u = nI y.1 := by
            rw [upd2_o (by decide), upd2_o (by decide)]
            exact f5
          refine ⟨0, nI y.1, q, w4, η', τ, nI y.1, upd2 (upd2 m3 1 (1043 + S.2.2.2.1) (nI x)) 1 1042 (nI (S.2.2.2.1 + 1)), ?_, Or.inl rfl, ?_, ?_, fun _ => rfl, ⟨(S.1, y.2, S.2.2.1, S.2.2.2.1 + 1, kput S.2.2.2.2 S.2.2.2.1 x), pushV V S, X, ⟨g2, hM6, hF'⟩, ⟨g3, hV6, pushV_w hw hF⟩, hT6⟩⟩
          · simp only [G_X8_addShortest, zn_L, zn_M, zn_R, k1, zn_B, if_false, a1, b1, a3, hne, g1]
          · simp only [G_X9_addShortest, J_X9_addShortest_13, J_X9_addShortest_42, zn_L, zn_M, zn_R, k2, zn_B, if_false, u55, if_true, hmay, d1, zn_g, hnu, e1, f2, hnk]
            simp (disch := omega) only [zn_R, h8]
          · rw [upd2_o (by decide), upd2_o (by decide), f4 0 5 rfl, e5 0 5 (by decide) (Or.inr (by decide)), m5]
            rfl
      · rw [if_neg (by omega)] at hmay
        have hy : adds S.1 S.2.1 S.2.2.1 S.2.2.2.1 S.2.2.2.2 x = none := by
          unfold adds
          rw [hi, og_n, if_neg (by omega)]
        rw [hy] at b2
        obtain ⟨b21, b22⟩ := b2
        subst b21
        refine ⟨2, nI 0, u0, w4, η, τ, nI 0, upd2 (upd2 ψ 0 5 (nI 0)) 0 5 (nI 2), ?_, Or.inr (Or.inr rfl), ?_, u55 _ _, fun z => (by cases z), zRl_5 (φ := φ) (hv := hv) (zRl_5 (φ := φ) (hv := hv) hrel _) _⟩
        · simp only [G_X8_addShortest, zn_L, zn_M, zn_R, k1, zn_B, if_false, a1, b1, if_true, a3]
        · simp only [G_X9_addShortest, J_X9_addShortest_13, J_X9_addShortest_42, zn_L, zn_M, zn_R, k2, zn_B, if_false, u55, if_true, hmay]
  · refine ⟨1, nI 0, u0, φ, η, τ, nI 0, upd2 ψ 0 5 (nI 1), ?_, Or.inr (Or.inl rfl), ?_, u55 _ _, fun z => (by cases z), zRl_5 hrel _⟩
    · simp only [G_X8_addShortest, zn_L, k1, if_true]
    · simp only [G_X9_addShortest, J_X9_addShortest_13, zn_L, zn_R, k2, if_true, u55, zn_B, if_false]
theorem pq_9 (hN : 5000 ≤ N) : Pk9 N zRl := by
  intro u0 φ η τ ψ hv p1 hrel
  obtain ⟨S, V, X, ⟨hR, hM, hF⟩, ⟨hVc, hVm, hw⟩, hT⟩ := id hrel
  rcases zp_key p1 with ⟨x, hx, rfl, k1, k2⟩ | ⟨k1, k2⟩
  · obtain ⟨w1, a1, a2, a3⟩ := zc_copy hN φ hR hF
    obtain ⟨r, w4, b1, b2⟩ := zc_deleteKey hN hx a2 hF
    have hix := zm_ix (ψ := ψ) hN hx hM.2.2.2 hF.2.2.2
    have hn := hF.2.2.2.1
    cases hi : ix S.2.2.2.1 S.2.2.2.2 x with
    | none =>
      rw [hi] at hix
      have hy : delk S.1 S.2.1 S.2.2.1 S.2.2.2.1 S.2.2.2.2 x = none := by
        unfold delk
        rw [hi, og_n]
      rw [hy] at b2
      obtain ⟨b21, b22⟩ := b2
      subst b21
      refine ⟨2, nI 0, u0, w4, η, τ, nI 0, upd2 ψ 0 5 (nI 2), ?_, Or.inr (Or.inr rfl), ?_, u55 _ _, fun z => (by cases z), zRl_5 hrel _⟩
      · simp only [G_X8_delete, zn_L, zn_M, zn_R, k1, zn_B, if_false, a1, b1, if_true, a3]
      · simp only [G_X9_delete, J_X9_delete_26, zn_L, zn_M, zn_R, k2, zn_B, if_false, u55, if_true, hix, zn_g]
    | some j =>
      rw [hi] at hix
      have hj := (ix_lt hi).1
      obtain ⟨m, d1, d2, d3, d4, d5⟩ := zR_keep (u0 := u0) (η := η) hN (z5M hM (nI 0)) hF (z5V hVm (nI 0)) hw (z5T hT (nI 0))
      have m1 : m 1 = ψ 1 := by rw [d4]; exact u51 _ _
      have hMm : zRMs (m 1) S := by rw [m1]; exact hM
      have hix2 := zm_ix (ψ := m) hN hx hMm.2.2.2 hF.2.2.2
      rw [hi] at hix2
      obtain ⟨y, m3, e1, e2, e3, e4⟩ := zm_deletes (ψ := m) hN hx hi hMm hF
      rw [e1] at b2
      obtain ⟨b21, b22⟩ := b2
      subst b21
      obtain ⟨hF', hy3⟩ := delk_ok hF e1
      obtain ⟨q, η', g1, g2, g3⟩ := zc_accept (S1 := (S.1, y.2)) hN hR hF b22 hF' hVc hw.1
      have hne : (nI y.1 = mI) = False := eq_false (fun z => (zn_mi (a := y.1) (by omega)).1.mp z)
      have hnj : (nI j = mI) = False := eq_false (fun z => (zn_mi (a := j) (by omega)).1.mp z)
      refine ⟨0, nI y.1, q, w4, η', τ, nI y.1, m3, ?_, Or.inl rfl, ?_, ?_, fun _ => rfl, ⟨(S.1, y.2), pushV V S, X, ⟨g2, e3, hF'⟩, ⟨g3, zVm_f d2 e4, pushV_w hw hF⟩, zTx_f d3 e4⟩⟩
      · simp only [G_X8_delete, zn_L, zn_M, zn_R, k1, zn_B, if_false, a1, b1, a3, hne, g1]
      · simp only [G_X9_delete, J_X9_delete_26, zn_L, zn_M, zn_R, k2, zn_B, if_false, u55, if_true, hix, zn_g, hnj, d1, hix2, e2]
      · rw [e4 0 5 rfl, d5 0 5 (by decide) (Or.inr (by decide))]
        exact u55 _ _
  · refine ⟨1, nI 0, u0, φ, η, τ, nI 0, upd2 ψ 0 5 (nI 1), ?_, Or.inr (Or.inl rfl), ?_, u55 _ _, fun z => (by cases z), zRl_5 hrel _⟩
    · simp only [G_X8_delete, zn_L, k1, if_true]
    · simp only [G_X9_delete, J_X9_delete_26, zn_L, zn_R, k2, if_true, u55, zn_B, if_false]
theorem pq_10 (hN : 5000 ≤ N) : Pk10 N zRl := by
  intro u0 φ η τ ψ hv hrel
  obtain ⟨S, V, X, ⟨hR, hM, hF⟩, ⟨hVc, hVm, hw⟩, hT⟩ := id hrel
  obtain ⟨w1, a1, a2, a3⟩ := zc_copy hN φ hR hF
  have hcg := zm_cg hN hM.1 hM.2.1 hM.2.2.1 hF.1 hF.2.1 hF.2.2.1
  cases hg : cg S.1 S.2.1 S.2.2.1 with
  | false =>
    rw [hg] at hcg
    have hcg : G_X9_mayGrow N ψ = some (nI 0) := hcg
    have b1 := zc_double_n hN a2 hF hg
    refine ⟨2, nI 0, u0, w1, η, τ, nI 0, upd2 ψ 0 5 (nI 1), ?_, Or.inr rfl, ?_, u55 _ _, fun z => (by cases z), zRl_5 hrel _⟩
    · simp only [G_X8_grow, zn_L, zn_M, zn_R, a1, b1, if_true, a3]
    · simp only [G_X9_grow, J_X9_grow_13, zn_L, zn_M, zn_R, hcg, zn_B, if_false, u55, if_true]
  | true =>
    rw [hg] at hcg
    have hcg : G_X9_mayGrow N ψ = some (nI 1) := hcg
    obtain ⟨w4, b1, b2⟩ := zc_double hN a2 hF hg
    obtain ⟨m, d1, d2, d3, d4, d5⟩ := zR_keep (u0 := u0) (η := η) hN (z5M hM (nI 0)) hF (z5V hVm (nI 0)) hw (z5T hT (nI 0))
    have m1 : m 1 = ψ 1 := by rw [d4]; exact u51 _ _
    have hMm : zRMs (m 1) S := by rw [m1]; exact hM
    obtain ⟨m3, e1, e2, e3⟩ := zm_grows (ψ := m) hN hMm hF hg
    have hF' := gro_ok hF hg
    have h6 := (cg_l1 hF.1 hF.2.1 hg).1
    have h7 : 2 ^ (S.1.1 + 1) ≤ 64 := p2_6 (by omega)
    have hbk := zm_buckets e2.1 hF'.1
    have hbk : G_X9_buckets m3 = some (nI (2 ^ (S.1.1 + 1))) := hbk
    obtain ⟨q, η', g1, g2, g3⟩ := zc_accept (S1 := (up1 S.1, (gro S.1 S.2.1 S.2.2.1).2.1, (gro S.1 S.2.1 S.2.2.1).2.2, S.2.2.2)) hN hR hF b2 hF' hVc hw.1
    have hne : (nI (2 ^ (S.1.1 + 1)) = mI) = False := eq_false (fun z => (zn_mi (by omega)).1.mp z)
    refine ⟨0, nI (2 ^ (S.1.1 + 1)), q, w4, η', τ, nI (2 ^ (S.1.1 + 1)), m3, ?_, Or.inl rfl, ?_, ?_, fun _ => rfl, ⟨(up1 S.1, (gro S.1 S.2.1 S.2.2.1).2.1, (gro S.1 S.2.1 S.2.2.1).2.2, S.2.2.2), pushV V S, X, ⟨g2, e2, hF'⟩, ⟨g3, zVm_f d2 e3, pushV_w hw hF⟩, zTx_f d3 e3⟩⟩
    · simp only [G_X8_grow, zn_L, zn_M, zn_R, a1, b1, a3, hne, if_false, g1]
    · simp only [G_X9_grow, J_X9_grow_13, zn_L, zn_M, zn_R, hcg, zn_B, if_false, u55, if_true, d1, e1, hbk]
    · rw [e3 0 5 rfl, d5 0 5 (by decide) (Or.inr (by decide))]
      exact u55 _ _
theorem pq_14 (hN : 5000 ≤ N) : Pk14 N zRl := by
  intro u0 φ η τ ψ hv hrel
  obtain ⟨S, V, X, ⟨hR, hM, hF⟩, ⟨hVc, hVm, hw⟩, hT⟩ := id hrel
  obtain ⟨w1, a1, a2, a3⟩ := zc_copy hN φ hR hF
  have hk1 : w1 3 1 = nI S.2.2.2.1 := a2.2.2.2.1
  obtain ⟨w2, b1, b2⟩ := zc_emptyAll (nk := S.2.2.2.1) (K := S.2.2.2.2) hN a2.1 a2.2.2.2
  have hR' : zRC (upd2 w2 3 1 (nI 0)) S.1 nC [] 0 S.2.2.2.2 := ⟨zPm_c b2.1 (upd2_o (by decide)), zCl_c b2.2.1 (upd2_o (by decide)), zSt_c b2.2.2.1 (upd2_o (by decide)) (upd2_o (by decide)), ⟨by rw [upd2_e, if_pos ⟨rfl, rfl⟩], fun i hi => by omega⟩⟩
  obtain ⟨m, d1, d2, d3, d4, d5⟩ := zR_keep (u0 := u0) (η := η) hN (z5M hM (nI 0)) hF (z5V hVm (nI 0)) hw (z5T hT (nI 0))
  have m1 : m 1 = ψ 1 := by rw [d4]; exact u51 _ _
  have hMm : zRMs (m 1) S := by rw [m1]; exact hM
  have hm42 : m 1 1042 = nI S.2.2.2.1 := hMm.2.2.2.1
  obtain ⟨m3, e1, e2, e3⟩ := zm_empties (ψ := upd2 m 1 1042 (nI 0)) (nk := 0) (K := S.2.2.2.2) hN (zMp_u hMm.1 (by decide) _) ⟨by rw [upd2_e, if_pos ⟨rfl, rfl⟩], fun i hi => by omega⟩
  have hF' : zWF S.1 nC [] 0 S.2.2.2.2 := ⟨hF.1, nC_ok _ _, nq_ok _, ⟨Nat.zero_le _, fun i hi => by omega⟩⟩
  obtain ⟨q, η', g1, g2, g3⟩ := zc_accept (S1 := (S.1, nC, [], 0, S.2.2.2.2)) hN hR hF hR' hF' hVc hw.1
  have f2 : m3 2 = m 2 := funext fun i => by rw [e3 2 i (by decide), upd2_o (by decide)]
  have f3 : m3 3 = m 3 := funext fun i => by rw [e3 3 i (by decide), upd2_o (by decide)]
  refine ⟨0, nI S.2.2.2.1, q, upd2 w2 3 1 (nI 0), η', τ, nI S.2.2.2.1, m3, ?_, rfl, ?_, rfl, ⟨(S.1, nC, [], 0, S.2.2.2.2), pushV V S, X, ⟨g2, e2, hF'⟩, ⟨g3, zVm_g d2 f2 (by rw [e3 0 2 (by decide), upd2_o (by decide)]), pushV_w hw hF⟩, zTx_g d3 f3 (by rw [e3 0 4 (by decide), upd2_o (by decide)])⟩⟩
  · simp only [G_X8_clear, G_X2_forgetAll, G_X4_size, G_X4_empty, zn_L, zn_R, a1, a3, hk1, b1, g1]
  · unfold G_X9_clear
    simp (disch := omega) only [zn_L, zn_R, d1, hm42, e1]
theorem pq_19 (hN : 5000 ≤ N) : Pk19 N zRl := by
  intro u0 φ η τ ψ hv p1 hrel
  obtain ⟨S, V, X, ⟨hR, hM, hF⟩, ⟨hVc, hVm, hw⟩, hT⟩ := id hrel
  rcases zp_key p1 with ⟨x, hx, rfl, k1, k2⟩ | ⟨k1, k2⟩
  · obtain ⟨w1, a1, a2, a3⟩ := zc_copy hN φ hR hF
    obtain ⟨r, w4, b1, b2, b3⟩ := zc_insert hN hx a2 hF
    obtain ⟨m3, d1, d2, d3, d4⟩ := zm_side hN (p := 4) (by decide) (by decide) (z5M hM (nI 0)) hF (z5V hVm (nI 0)) hw
    have m31 : m3 1 = ψ 1 := by rw [d4 1 (by decide)]; exact u51 _ _
    obtain ⟨r', m4, e1, e2, e3, e4⟩ := zm_addEntry (ψ := m3) hN hx (by rw [m31]; exact hM) hF
    have m45 : m4 0 5 = nI 0 := by rw [e4 0 5 rfl, d4 0 (by decide)]; exact u55 _ _
    have m42 : m4 2 = m3 2 := funext fun i => e4 2 i rfl
    obtain ⟨m5, f1, f2, f3⟩ := zm_laid (ψ := m4) hN (p := 4) (by decide) (by rw [m42]; exact d3) hF
    have hrr : r = r' := by
      cases hy : insr S.1 S.2.1 S.2.2.1 x with
      | none =>
        rw [hy] at b2 e2
        exact b2.1.trans e2.1.symm
      | some y =>
        rw [hy] at b2 e2
        exact b2.1.trans e2.1.symm
    have hT5 : zTx τ m5 X := zTx_g hT (by rw [f3 3 (by decide), show m4 3 = m3 3 from funext fun i => e4 3 i rfl, d4 3 (by decide)]; exact upd2_o (by decide)) (by rw [f3 0 (by decide), e4 0 4 rfl, d4 0 (by decide), upd2_e, if_neg (by decide)])
    have hV5 : zVm m5 V := zVm_g d2 (by rw [f3 2 (by decide), m42]) (by rw [f3 0 (by decide), e4 0 2 rfl])
    refine ⟨0, r, u0, w4, η, τ, r', m5, ?_, Or.inl rfl, ?_, by rw [f3 0 (by decide), m45]; rfl, fun _ => hrr, ⟨S, V, X, ⟨hR, f2, hF⟩, ⟨hVc, hV5, hw⟩, hT5⟩⟩
    · simp only [G_X8_walk, zn_L, zn_M, zn_R, k1, zn_B, if_false, a1, b1, a3]
    · simp only [G_X9_walk, G_X9_wouldAdd, zn_L, zn_M, zn_R, k2, zn_B, if_false, u55, if_true, d1, e1, f1]
  · refine ⟨1, nI 0, u0, φ, η, τ, nI 0, upd2 ψ 0 5 (nI 1), ?_, Or.inr rfl, ?_, u55 _ _, fun z => (by cases z), zRl_5 hrel _⟩
    · simp only [G_X8_walk, zn_L, k1, if_true]
    · simp only [G_X9_walk, zn_L, zn_R, k2, if_true, u55, zn_B, if_false]
theorem pq_20 (hN : 5000 ≤ N) : Pk20 N zRl := by
  intro u0 φ η τ ψ hv p1 p2 p3 hrel hp3
  obtain ⟨S, V, X, ⟨hR, hM, hF⟩, ⟨hVc, hVm, hw⟩, hT⟩ := id hrel
  rcases zp_key p1 with ⟨x, hx, rfl, k1, k2⟩ | ⟨k1, k2⟩
  · obtain ⟨w1, a1, a2, a3⟩ := zc_copy hN φ hR hF
    obtain ⟨r, w4, b1, b2, b3⟩ := zc_insert hN hx a2 hF
    obtain ⟨m3, d1, d2, d3, d4⟩ := zm_side hN (p := 4) (by decide) (by decide) (z5M hM (nI 0)) hF (z5V hVm (nI 0)) hw
    have m31 : m3 1 = ψ 1 := by rw [d4 1 (by decide)]; exact u51 _ _
    obtain ⟨r', m4, e1, e2, e3, e4⟩ := zm_addEntry (ψ := m3) hN hx (by rw [m31]; exact hM) hF
    have m45 : m4 0 5 = nI 0 := by rw [e4 0 5 rfl, d4 0 (by decide)]; exact u55 _ _
    have m42 : m4 2 = m3 2 := funext fun i => e4 2 i rfl
    obtain ⟨m5, f1, f2, f3⟩ := zm_laid (ψ := m4) hN (p := 4) (by decide) (by rw [m42]; exact d3) hF
    have hT5 : zTx τ m5 X := zTx_g hT (by rw [f3 3 (by decide), show m4 3 = m3 3 from funext fun i => e4 3 i rfl, d4 3 (by decide)]; exact upd2_o (by decide)) (by rw [f3 0 (by decide), e4 0 4 rfl, d4 0 (by decide), upd2_e, if_neg (by decide)])
    have hV5 : zVm m5 V := zVm_g d2 (by rw [f3 2 (by decide), m42]) (by rw [f3 0 (by decide), e4 0 2 rfl])
    have hlen := insw_len (P := S.1) (c := S.2.1) (x := x) hF.1
    have h52 := b3.1
    have h012 : m5 0 12 = nI (insw S.1 S.2.1 x).length := by rw [f3 0 (by decide)]; exact e3.1
    have hrel' : zRl u0 w4 η τ m5 hv := ⟨S, V, X, ⟨hR, f2, hF⟩, ⟨hVc, hV5, hw⟩, hT5⟩
    have h5 : m5 0 5 = hkc 1 0 := by rw [f3 0 (by decide), m45]; rfl
    have hcls : G_X8_walkStep N u0 φ η τ (nI x) p2 p3 = if p3 = nI 0 then obd (G_X7_placeAt w4 p2) fun r7 => some (0, r7, u0, w4, η, τ) else obd (G_X7_tagAt w4 p2) fun r9 => some (0, r9, u0, w4, η, τ) := by
      simp only [G_X8_walkStep, zn_L, zn_M, zn_R, k1, zn_B, if_false, a1, b1, a3]
    have hmod : G_X9_walkStep N ψ (nI x) p2 p3 = if G_X9_in p2 (nI 0) (nI (insw S.1 S.2.1 x).length - nI 1) = nI 0 then some (mI, m5) else if p3 = nI 0 then oin p2 50 (some (m5 4 p2.toNatClampNeg, m5)) else oin p2 50 (some (m5 5 p2.toNatClampNeg, m5)) := by
      simp only [G_X9_walkStep, J_X9_walkStep_13, G_X9_wouldAdd, zn_L, zn_M, zn_R, k2, zn_B, if_false, u55, if_true, d1, e1, f1, h012]
    rcases pk_ix p2 (n := (insw S.1 S.2.1 x).length) (by omega) with g | g | ⟨i, hi, rfl⟩
    · have hin := zp_no (n := (insw S.1 S.2.1 x).length) (by omega) (Or.inl g)
      refine ⟨0, mI, u0, w4, η, τ, mI, m5, ?_, Or.inl rfl, ?_, h5, fun _ => rfl, hrel'⟩
      · rw [hcls]
        unfold G_X7_placeAt G_X7_tagAt
        rw [if_pos g, if_pos g]
        simp only [zn_L, zn_M, zn_R, ite_self]
      · rw [hmod, hin, if_pos rfl]
    · have hin := zp_no (n := (insw S.1 S.2.1 x).length) (by omega) (Or.inr g)
      refine ⟨0, mI, u0, w4, η, τ, mI, m5, ?_, Or.inl rfl, ?_, h5, fun _ => rfl, hrel'⟩
      · rw [hcls]
        unfold G_X7_placeAt G_X7_tagAt
        rw [h52, if_pos g, if_pos g]
        simp only [zn_L, zn_M, zn_R, ite_self]
      · rw [hmod, hin, if_pos rfl]
    · have eq1 : (insw S.1 S.2.1 x)[i]? = some (insw S.1 S.2.1 x)[i] := List.getElem?_eq_getElem hi
      obtain ⟨c6, c7⟩ := b3.2 i _ eq1
      obtain ⟨q4, q5⟩ := e3.2 i _ eq1
      have r4 : m5 4 i = nI (insw S.1 S.2.1 x)[i].1 := by rw [f3 4 (by decide)]; exact q4
      have r5 : m5 5 i = nI (insw S.1 S.2.1 x)[i].2 := by rw [f3 5 (by decide)]; exact q5
      have hin : G_X9_in (nI i) (nI 0) (nI (insw S.1 S.2.1 x).length - nI 1) = nI 1 := by
        rcases zp_up (nI i) (insw S.1 S.2.1 x).length (by omega) with ⟨j, hj, ej, j1, j2⟩ | ⟨j1, j2⟩
        · exact j2
        · exfalso
          unfold G_X8_within at j1
          rw [pk_sub (by omega)] at j1
          simp (disch := omega) only [zn_L, zn_R] at j1
          rw [if_neg (by omega), if_neg (by omega)] at j1
          exact absurd j1 (by decide)
      rcases hp3 with rfl | rfl
      · refine ⟨0, nI (insw S.1 S.2.1 x)[i].1, u0, w4, η, τ, nI (insw S.1 S.2.1 x)[i].1, m5, ?_, Or.inl rfl, ?_, h5, fun _ => rfl, hrel'⟩
        · rw [hcls, if_pos (by decide)]
          unfold G_X7_placeAt
          simp (disch := omega) only [zn_L, zn_M, zn_R, h52, c6]
          rw [if_neg (by omega), if_neg (by omega), if_neg (by omega)]
          rfl
        · rw [hmod, hin, if_neg (by decide), if_pos (by decide)]
          simp (disch := omega) only [zn_R, r4]
      · refine ⟨0, nI (insw S.1 S.2.1 x)[i].2, u0, w4, η, τ, nI (insw S.1 S.2.1 x)[i].2, m5, ?_, Or.inl rfl, ?_, h5, fun _ => rfl, hrel'⟩
        · rw [hcls, if_neg (by decide)]
          unfold G_X7_tagAt
          simp (disch := omega) only [zn_L, zn_M, zn_R, h52, c7]
          rw [if_neg (by omega), if_neg (by omega), if_neg (by omega)]
          rfl
        · rw [hmod, hin, if_neg (by decide), if_neg (by decide)]
          simp (disch := omega) only [zn_R, r5]
  · refine ⟨1, nI 0, u0, φ, η, τ, nI 0, upd2 ψ 0 5 (nI 1), ?_, Or.inr rfl, ?_, u55 _ _, fun z => (by cases z), zRl_5 hrel _⟩
    · simp only [G_X8_walkStep, zn_L, k1, if_true]
    · simp only [G_X9_walkStep, J_X9_walkStep_13, zn_L, zn_R, k2, if_true, u55, zn_B, if_false]
theorem pq_21 (hN : 5000 ≤ N) : Pk21 N zRl := by
  intro u0 φ η τ ψ hv p1 hrel
  obtain ⟨S, V, X, ⟨hR, hM, hF⟩, ⟨hVc, hVm, hw⟩, hT⟩ := id hrel
  rcases zp_key p1 with ⟨x, hx, rfl, k1, k2⟩ | ⟨k1, k2⟩
  · obtain ⟨w1, a1, a2, a3⟩ := zc_copy hN φ hR hF
    obtain ⟨r, w4, b1, b2⟩ := zc_insS hN hx a2 hF.1 hF.2.1
    have hM5 := z5M hM (nI 0)
    obtain ⟨m, d1, d2, d3⟩ := zm_eoc hN hx hF.1 hF.2.1 hM5.1 hM5.2.1
    have m1 : m 1 = ψ 1 := by rw [zFs_1 d3]; exact u51 _ _
    have hfr := zFs_f d3
    have m5 : m 0 5 = nI 0 := by rw [hfr 0 5 rfl]; exact u55 _ _
    have hrel' : zRl u0 w4 η τ m hv := ⟨S, V, X, ⟨hR, by rw [m1]; exact hM, hF⟩, ⟨hVc, zVm_f (z5V hVm (nI 0)) hfr, hw⟩, zTx_f (z5T hT (nI 0)) hfr⟩
    cases hb : (bfs S.1.1 S.1.2.1 S.2.1 (nE S.1 x).2.1 (oth S.1.1 (nE S.1 x).2.1 (nE S.1 x).1)).1 with
    | none =>
      rw [hb] at d1
      have hy : insS S.1 S.2.1 x = none := by
        unfold insS
        rw [hb]
        rfl
      rw [hy] at b2
      obtain ⟨b21, b22⟩ := b2
      subst b21
      refine ⟨0, mI, u0, w4, η, τ, mI, m, ?_, Or.inl rfl, ?_, m5, fun _ => rfl, hrel'⟩
      · simp only [G_X8_leastMoves, zn_L, zn_M, zn_R, k1, zn_B, if_false, a1, b1, a3]
      · simp only [G_X9_leastMoves, J_X9_leastMoves_13, zn_L, zn_M, zn_R, k2, zn_B, if_false, u55, if_true, d1, zn_g]
    | some u =>
      rw [hb] at d1
      have he := nE_ok hF.1 x
      have ho := oth_lt (nE S.1 x).1 he.2.1
      obtain ⟨c1, c2, c3, c4, c5⟩ := bfs_ok hF.1 hF.2.1 he.2.1 ho
      have hu := c1.2.2.1 u (c2 u hb).1
      have h6 := p2_6 hF.1.1.2
      have h8 : m 8 u = nI ((bfs S.1.1 S.1.2.1 S.2.1 (nE S.1 x).2.1 (oth S.1.1 (nE S.1 x).2.1 (nE S.1 x).1)).2.2.2 u) := by
        cases hz : (bfs S.1.1 S.1.2.1 S.2.1 (nE S.1 x).2.1 (oth S.1.1 (nE S.1 x).2.1 (nE S.1 x).1)).2.2.1 u with
        | none =>
          have := (c2 u hb).1
          rw [hz] at this
          cases this
        | some y => exact ((d2.2.2 u (by omega)).2 y hz).1
      have hr : r = nI ((bfs S.1.1 S.1.2.1 S.2.1 (nE S.1 x).2.1 (oth S.1.1 (nE S.1 x).2.1 (nE S.1 x).1)).2.2.2 u) := by
        unfold insS at b2
        rw [hb, og_s] at b2
        exact b2.1
      have hnu : (nI u = mI) = False := eq_false (fun z => (zn_mi (a := u) (by omega)).1.mp z)
      refine ⟨0, r, u0, w4, η, τ, nI ((bfs S.1.1 S.1.2.1 S.2.1 (nE S.1 x).2.1 (oth S.1.1 (nE S.1 x).2.1 (nE S.1 x).1)).2.2.2 u), m, ?_, Or.inl rfl, ?_, m5, fun _ => hr, hrel'⟩
      · simp only [G_X8_leastMoves, zn_L, zn_M, zn_R, k1, zn_B, if_false, a1, b1, a3]
      · simp only [G_X9_leastMoves, J_X9_leastMoves_13, zn_L, zn_M, zn_R, k2, zn_B, if_false, u55, if_true, d1, zn_g, hnu]
        simp (disch := omega) only [zn_R, h8]
  · refine ⟨1, nI 0, u0, φ, η, τ, nI 0, upd2 ψ 0 5 (nI 1), ?_, Or.inr rfl, ?_, u55 _ _, fun z => (by cases z), zRl_5 hrel _⟩
    · simp only [G_X8_leastMoves, zn_L, k1, if_true]
    · simp only [G_X9_leastMoves, J_X9_leastMoves_13, zn_L, zn_R, k2, if_true, u55, zn_B, if_false]
end PK
