/-! the pure layer: moves along a chain -/
def mv (fr : Nat → Option (Option Nat)) : Nat → Ce → Nat → Ce × Nat
  | 0, c, p => (c, p)
  | d + 1, c, p => og (fun o => og (fun p' => mv fr d (uC c p (c p')) p') (c, p) o) (c, p) (fr (p / 4))
theorem mv_s {fr : Nat → Option (Option Nat)} {d p p' : Nat} {c : Ce} (h : fr (p / 4) = some (some p')) : mv fr (d + 1) c p = mv fr d (uC c p (c p')) p' := by
  conv => lhs; unfold mv
  rw [h, og_s, og_s]
def endp (c : Ce) (s u : Nat) : Nat := og (fun j => 4 * u + j) 0 (fS c s u)
def insS (P : Pm) (c : Ce) (x : Nat) : Option (Nat × Ce) :=
  og (fun u => some ((bfs P.1 P.2.1 c (nE P x).2.1 (oth P.1 (nE P x).2.1 (nE P x).1)).2.2.2 u, uC (mv (bfs P.1 P.2.1 c (nE P x).2.1 (oth P.1 (nE P x).2.1 (nE P x).1)).2.2.1 ((bfs P.1 P.2.1 c (nE P x).2.1 (oth P.1 (nE P x).2.1 (nE P x).1)).2.2.2 u) c (endp c P.2.1 u)).1 (mv (bfs P.1 P.2.1 c (nE P x).2.1 (oth P.1 (nE P x).2.1 (nE P x).1)).2.2.1 ((bfs P.1 P.2.1 c (nE P x).2.1 (oth P.1 (nE P x).2.1 (nE P x).1)).2.2.2 u) c (endp c P.2.1 u)).2 (some (nE P x)))) none (bfs P.1 P.2.1 c (nE P x).2.1 (oth P.1 (nE P x).2.1 (nE P x).1)).1
/-- the chain below a place, in a search over c0 -/
def zCh (P : Pm) (c0 : Ce) (h o : Nat) (T : Bs) (d p : Nat) (c : Ce) : Prop := zT P.1 P.2.1 c0 h o T ∧ (T.2.1 (p / 4)).isSome = true ∧ T.2.2 (p / 4) = d ∧ p % 4 < P.2.1 ∧ zWc P.1 P.2.1 c ∧ zWc P.1 P.2.1 c0 ∧ ∀ r, T.2.2 (r / 4) < d → c r = c0 r
theorem zCh_0 {P : Pm} {c0 c : Ce} {h o p : Nat} {T : Bs} (H : zCh P c0 h o T 0 p c) : T.2.1 (p / 4) = some none ∧ (p / 4 = h ∨ p / 4 = o) := by
  obtain ⟨hT, hr, hd, hs, hV, hV0, ha⟩ := H
  cases hz : T.2.1 (p / 4) with
  | none =>
    rw [hz] at hr
    cases hr
  | some y =>
    cases y with
    | none => exact ⟨rfl, (hT.2.2.2.2.2.1 _ hz).2⟩
    | some p' =>
      have := (hT.2.2.2.2.2.2 _ _ hz).2.1
      omega
theorem zCh_s {P : Pm} {c0 c : Ce} {h o d p : Nat} {T : Bs} (hW : zWp P) (H : zCh P c0 h o T (d + 1) p c) : ∃ p' e, T.2.1 (p / 4) = some (some p') ∧ p' < 256 ∧ c p' = some e ∧ zEo P.1 e ∧ p / 4 = oth P.1 (p' / 4) e.1 ∧ (e.2.1 = p' / 4 ∨ e.2.1 = p / 4) ∧ p / 4 < 2 ^ P.1 ∧ p' / 4 ≠ p / 4 ∧ zCh P c0 h o T d p' (uC c p (c p')) := by
  obtain ⟨hT, hr, hd, hs, hV, hV0, ha⟩ := H
  have hu := hT.2.2.1 _ hr
  cases hz : T.2.1 (p / 4) with
  | none =>
    rw [hz] at hr
    cases hr
  | some y =>
    cases y with
    | none =>
      have := (hT.2.2.2.2.2.1 _ hz).1
      omega
    | some p' =>
      obtain ⟨k1, k2, k3, k4, k5⟩ := hT.2.2.2.2.2.2 _ _ hz
      have hp4 : 4 * (p' / 4) + p' % 4 = p' := by omega
      obtain ⟨e, he⟩ := fS_full k3 k4
      rw [hp4] at he
      have hdd : T.2.2 (p' / 4) = d := by omega
      have hce : c p' = some e := by
        rw [ha p' (by omega)]
        exact he
      obtain ⟨a1, a2, a3, a4⟩ := hV0 _ e he
      have ht : tgo (c0 p') = e.1 := by
        rw [he]
        rfl
      rw [ht] at k5
      have hne : p' / 4 ≠ p / 4 := by
        rw [k5]
        exact (oth_ne _ _ hW.1.1).symm
      refine ⟨p', e, rfl, zT_p hW.1.2 hW.2.1.2 hT hz, hce, a3, k5, ?_, hu, hne, hT, k1, hdd, k4, ?_, hV0, fun r hr' => ?_⟩
      · rcases a4 with g | g
        · exact Or.inl g
        · refine Or.inr ?_
          rw [g, k5]
      · rw [hce]
        refine zWc_u hV ⟨hu, hs⟩ a3 ?_
        rcases a4 with g | g
        · refine Or.inr ?_
          rw [k5, oth_oth]
          exact g
        · refine Or.inl ?_
          rw [g, k5]
      · rw [uC_n (fun z => by subst z; omega)]
        exact ha r (by omega)
theorem mv_ok {P : Pm} {c0 : Ce} {h o : Nat} {T : Bs} (hW : zWp P) : ∀ (d p : Nat) (c : Ce), zCh P c0 h o T d p c → zCh P c0 h o T 0 (mv T.2.1 d c p).2 (mv T.2.1 d c p).1 := by
  intro d
  induction d with
  | zero =>
    intro p c H
    exact H
  | succ d ih =>
    intro p c H
    obtain ⟨p', e, h1, h2, h3, h4, h5, h6, h7, h8, h9⟩ := zCh_s hW H
    rw [mv_s h1]
    exact ih p' _ h9
theorem zc_mloop {N : Nat} (hN : 5000 ≤ N) {P : Pm} {c0 : Ce} {h o : Nat} {T : Bs} (v2 : Int32) (hW : zWp P) : ∀ (d p m : Nat) (c : Ce) (φ : M2) (F : Nat), d < F → m + d < 64 → zCh P c0 h o T d p c → zCl φ c → zRr φ T → ∃ φ', L_X2_moveAlong_9 N v2 F (nI p) (nI m) φ = some (nI (mv T.2.1 d c p).2, nI (m + d), φ') ∧ zCl φ' (mv T.2.1 d c p).1 ∧ ∀ c', c' ≠ 1 → φ' c' = φ c' := by
  have h6 := p2_6 hW.1.2
  have hs := hW.2.1
  intro d
  induction d with
  | zero =>
    intro p m c φ F hF hm H hC hR
    obtain ⟨F, rfl⟩ : ∃ j, F = j + 1 := ⟨F - 1, by omega⟩
    have h0 := (zCh_0 H).1
    have hu := H.1.2.2.1 _ H.2.1
    have h10 := hR.2.2 (p / 4) (by omega)
    rw [h0] at h10
    have h10 : φ 10 (p / 4) = mI := h10
    have hps := H.2.2.2.1
    refine ⟨φ, ?_, hC, fun _ _ => rfl⟩
    show B_X2_moveAlong_9 N v2 _ (nI p) (nI m) φ = some (nI p, nI (m + 0), φ)
    unfold B_X2_moveAlong_9 G_X5_placeBefore
    simp (disch := omega) only [zn_L, zn_M, zn_R, h10]
    rw [if_neg (by omega), if_neg (by omega), if_neg (by omega)]
    simp (disch := omega) only [zn_R, if_false, Nat.add_zero]
  | succ d ih =>
    intro p m c φ F hF hm H hC hR
    obtain ⟨F, rfl⟩ : ∃ j, F = j + 1 := ⟨F - 1, by omega⟩
    obtain ⟨p', e, h1, h2, h3, h4, h5, h6', h7, h8, h9⟩ := zCh_s hW H
    have h10 := hR.2.2 (p / 4) (by omega)
    rw [h1] at h10
    have h10 : φ 10 (p / 4) = nI p' := h10
    have hps := H.2.2.2.1
    have hp : p < 256 := by omega
    have hR' : zRr (upd2 φ 1 p (cwo (c p'))) T := by
      unfold zRr
      rw [upd2_o (by decide), upd2_o (by decide), upd2_o (by decide)]
      exact hR
    obtain ⟨φ', g1, g2, g3⟩ := ih p' (m + 1) _ (upd2 φ 1 p (cwo (c p'))) F (by omega) (by omega) h9 (zCl_u hC p (c p')) hR'
    rw [mv_s h1]
    refine ⟨φ', ?_, g2, fun c' h => by rw [g3 c' h, upd2_o h]⟩
    rw [show m + (d + 1) = m + 1 + d by omega, ← g1]
    show B_X2_moveAlong_9 N v2 _ (nI p) (nI m) φ = _
    unfold B_X2_moveAlong_9 G_X5_placeBefore
    simp (disch := omega) only [zn_L, zn_M, zn_R, h10]
    rw [if_neg (by omega), if_neg (by omega), if_neg (by omega)]
    simp (disch := omega) only [zn_R, zc_cell, zc_set, hC p' h2]
    rw [if_pos (by omega)]
theorem bfs_ok {P : Pm} {c : Ce} {h o : Nat} (hW : zWp P) (hV : zWc P.1 P.2.1 c) (hh : h < 2 ^ P.1) (ho : o < 2 ^ P.1) : zT P.1 P.2.1 c h o (bfs P.1 P.2.1 c h o).2 ∧ (∀ u, (bfs P.1 P.2.1 c h o).1 = some u → ((bfs P.1 P.2.1 c h o).2.2.1 u).isSome = true ∧ (fS c P.2.1 u).isSome = true) ∧ ((bfs P.1 P.2.1 c h o).1 = none → ∀ u, ((bfs P.1 P.2.1 c h o).2.2.1 u).isSome = true → zCd P.1 P.2.1 c (bfs P.1 P.2.1 c h o).2 u) ∧ ((bfs P.1 P.2.1 c h o).2.2.1 h).isSome = true ∧ ((bfs P.1 P.2.1 c h o).2.2.1 o).isSome = true := by
  obtain ⟨a1, a2, a3, a4⟩ := bf_ok (h := h) (o := o) hW hV 64 0 (b0 h o) rfl (b0_ok hW.1.2 hh ho) (fun j u hj => by omega)
  have r1 : ((b0 h o).2.1 h).isSome = true := nt_mono nt_re
  have r2 : ((b0 h o).2.1 o).isSome = true := nt_re
  refine ⟨a1, a3, a4, ?_, ?_⟩
  · show ((bf P.1 P.2.1 c 64 0 (b0 h o)).2.2.1 h).isSome = true
    rw [a2 h r1]
    exact r1
  · show ((bf P.1 P.2.1 c 64 0 (b0 h o)).2.2.1 o).isSome = true
    rw [a2 o r2]
    exact r2
theorem zCh_i {P : Pm} {c : Ce} {h o u : Nat} (hW : zWp P) (hV : zWc P.1 P.2.1 c) (hh : h < 2 ^ P.1) (ho : o < 2 ^ P.1) (hu : (bfs P.1 P.2.1 c h o).1 = some u) : ∃ k, fS c P.2.1 u = some k ∧ endp c P.2.1 u = 4 * u + k ∧ k < P.2.1 ∧ u < 2 ^ P.1 ∧ (bfs P.1 P.2.1 c h o).2.2.2 u < 64 ∧ zCh P c h o (bfs P.1 P.2.1 c h o).2 ((bfs P.1 P.2.1 c h o).2.2.2 u) (endp c P.2.1 u) c := by
  obtain ⟨b1, b2, b3, b4, b5⟩ := bfs_ok hW hV hh ho
  obtain ⟨c1, c2⟩ := b2 u hu
  have hs := hW.2.1
  have hlt := b1.2.2.1 u c1
  cases hk : fS c P.2.1 u with
  | none =>
    rw [hk] at c2
    cases c2
  | some k =>
    have hk1 := (fS_lt hk).1
    have e1 : endp c P.2.1 u = 4 * u + k := by
      unfold endp
      rw [hk, og_s]
    have ed : (4 * u + k) / 4 = u := by omega
    have em : (4 * u + k) % 4 = k := by omega
    have hm := b1.2.2.2.2.1 u c1
    obtain ⟨j, hj⟩ := List.mem_iff_getElem?.mp hm
    have hjl := (List.getElem?_eq_some_iff.mp hj).1
    have hdj := b1.2.2.2.1 j u hj
    have hl64 : (bfs P.1 P.2.1 c h o).2.1.length ≤ 64 := by rw [b1.1]; exact cnt_le _ _
    refine ⟨k, rfl, e1, hk1, hlt, by omega, b1, ?_, ?_, ?_, hV, hV, fun r _ => rfl⟩
    · rw [e1, ed]
      exact c1
    · rw [e1, ed]
    · rw [e1, em]
      exact hk1
theorem insS_ok {P : Pm} {c : Ce} {x : Nat} {y : Nat × Ce} (hW : zWp P) (hV : zWc P.1 P.2.1 c) (h : insS P c x = some y) : zWc P.1 P.2.1 y.2 ∧ y.1 < 64 := by
  have he := nE_ok hW x
  have ho := oth_lt (nE P x).1 he.2.1
  unfold insS at h
  cases hb : (bfs P.1 P.2.1 c (nE P x).2.1 (oth P.1 (nE P x).2.1 (nE P x).1)).1 with
  | none =>
    rw [hb] at h
    cases h
  | some u =>
    rw [hb, og_s] at h
    have e := Option.some.inj h
    subst e
    obtain ⟨k, k1, k2, k3, k4, k5, k6⟩ := zCh_i hW hV he.2.1 ho hb
    have hm := mv_ok hW _ _ _ k6
    obtain ⟨m1, m2⟩ := zCh_0 hm
    refine ⟨?_, k5⟩
    refine zWc_u hm.2.2.2.2.1 ⟨hm.1.2.2.1 _ hm.2.1, hm.2.2.2.1⟩ he ?_
    rcases m2 with g | g
    · exact Or.inl g.symm
    · refine Or.inr ?_
      rw [g, oth_oth]
def zSo (φ' : M2) (P : Pm) (c : Ce) (q : List En) (nk : Nat) (K : Nat → Nat) (r : Int32) : Option (Nat × Ce) → Prop
  | some y => r = nI y.1 ∧ zRC φ' P y.2 q nk K
  | none => r = mI ∧ zRC φ' P c q nk K
theorem zc_insS {N : Nat} (hN : 5000 ≤ N) {φ : M2} {P : Pm} {c : Ce} {q : List En} {nk : Nat} {K : Nat → Nat} {x : Nat} (hx : x < 1000) (hR : zRC φ P c q nk K) (hW : zWp P) (hV : zWc P.1 P.2.1 c) : ∃ r φ', G_X2_insertShortest N φ (nI x) = some (r, φ') ∧ zSo φ' P c q nk K r (insS P c x) := by
  obtain ⟨hP, hC, hS, hK⟩ := hR
  have he := nE_ok hW x
  have hs := hW.2.1
  have h6 := p2_6 hW.1.2
  have ho := oth_lt (nE P x).1 he.2.1
  obtain ⟨w, w1, w2, w3⟩ := zc_eoc hN hW hV hP hC he.2.1 ho
  have hPw := zPm_c hP (w3 0 (by decide) (by decide) (by decide))
  have hCw := zCl_c hC (w3 1 (by decide) (by decide) (by decide))
  have hSw := zSt_c hS (w3 0 (by decide) (by decide) (by decide)) (w3 2 (by decide) (by decide) (by decide))
  have hKw := zKy_c hK (w3 3 (by decide) (by decide) (by decide)) (w3 4 (by decide) (by decide) (by decide))
  unfold insS
  cases hb : (bfs P.1 P.2.1 c (nE P x).2.1 (oth P.1 (nE P x).2.1 (nE P x).1)).1 with
  | none =>
    rw [hb] at w1
    refine ⟨mI, w, ?_, rfl, hPw, hCw, hSw, hKw⟩
    unfold G_X2_insertShortest
    simp (disch := omega) only [zn_L, zn_M, zn_R, zc_new hP hW hx, (zc_et hW.1.2 he).2.1, zc_other hP hW he, w1, zn_g, if_true]
  | some u =>
    rw [hb] at w1
    obtain ⟨k, k1, k2, k3, k4, k5, k6⟩ := zCh_i hW hV he.2.1 ho hb
    obtain ⟨v, v1, v2, v3⟩ := zc_mloop hN (ew (nE P x)) hW _ _ 0 c w N (by omega) (by omega) k6 hCw w2
    have hm := mv_ok hW _ _ _ k6
    have hlt := hm.1.2.2.1 _ hm.2.1
    have hps := hm.2.2.2.1
    rw [Nat.zero_add, k2] at v1
    have hfree := zc_free hN (u := u) hPw hCw hW hV (by omega)
    rw [k1] at hfree
    have vv : ∀ c', c' ≠ 1 → c' ≠ 8 → c' ≠ 9 → c' ≠ 10 → v c' = φ c' := fun c' a1 a2 a3 a4 => by rw [v3 c' a1, w3 c' a2 a3 a4]
    rw [og_s]
    refine ⟨nI ((bfs P.1 P.2.1 c (nE P x).2.1 (oth P.1 (nE P x).2.1 (nE P x).1)).2.2.2 u), upd2 v 1 (mv (bfs P.1 P.2.1 c (nE P x).2.1 (oth P.1 (nE P x).2.1 (nE P x).1)).2.2.1 ((bfs P.1 P.2.1 c (nE P x).2.1 (oth P.1 (nE P x).2.1 (nE P x).1)).2.2.2 u) c (endp c P.2.1 u)).2 (ew (nE P x)), ?_, rfl, zPm_c hP (by rw [upd2_o (by decide), vv 0 (by decide) (by decide) (by decide) (by decide)]), zCl_u v2 _ (some (nE P x)), zSt_c hS (by rw [upd2_o (by decide), vv 0 (by decide) (by decide) (by decide) (by decide)]) (by rw [upd2_o (by decide), vv 2 (by decide) (by decide) (by decide) (by decide)]), zKy_c hK (by rw [upd2_o (by decide), vv 3 (by decide) (by decide) (by decide) (by decide)]) (by rw [upd2_o (by decide), vv 4 (by decide) (by decide) (by decide) (by decide)])⟩
    unfold G_X2_insertShortest G_X2_moveAlong
    simp (disch := omega) only [zn_L, zn_M, zn_R, zc_new hP hW hx, (zc_et hW.1.2 he).2.1, zc_other hP hW he, w1, zn_g, if_false, hfree, v1]
    rw [k2] at hlt hps ⊢
    rw [zc_set v (ew (nE P x)) (by omega)]
    simp only [zn_R]
