/-! the pure layer: finding in the model -/
def zMw (g : Nat → Int32) (c : Ce) : Prop := ∀ p, p < 256 → g (18 + 4 * p) = f0 (c p) ∧ ∀ e, c p = some e → g (18 + 4 * p + 1) = nI e.2.2.1 ∧ g (18 + 4 * p + 2) = nI e.2.2.2 ∧ g (18 + 4 * p + 3) = if e.2.1 = p / 4 then nI 0 else nI 1
theorem zMc_w {g : Nat → Int32} {c : Ce} (h : zMc g c) : zMw g c := by
  intro p hp
  obtain ⟨a, b, d, e⟩ := h p hp
  refine ⟨a, fun f hf => ?_⟩
  rw [hf] at b d e
  exact ⟨b, d, e⟩
theorem zm_empw {ψ : M2} {b s : Nat} {c : Ce} {u k : Nat} (hC : zMw (ψ 1) c) (hV : zWc b s c) (hp : 4 * u + k < 256) : G_X9_isEmpty ψ (nI u) (nI k) = some (if (c (4 * u + k)).isNone = true then nI 1 else nI 0) := by
  unfold G_X9_isEmpty
  simp (disch := omega) only [zn_L, zn_M, zn_R, zm_at, (hC _ hp).1, f0_m hV]
  split <;> rfl
theorem zm_matches {ψ : M2} {P : Pm} {x k : Nat} {e : En} (hx : x < 1000) (hP : zMp (ψ 1) P) (hW : zWp P) (he : zEo P.1 e) (hk : k + 2 < 1163) (h0 : ψ 1 k = nI e.1) (h1 : ψ 1 (k + 1) = nI e.2.2.1) (h2 : ψ 1 (k + 2) = nI e.2.2.2) : G_X9_matches ψ (nI x) (nI k) = some (if e.1 = tg x P.2.2.2.1 ∧ e.2.2.2 = pr P.1 e.2.2.1 x P.2.2.2.1 then nI 1 else nI 0) := by
  have hl := zEo_lt hW.1.2 he
  have htl := tg_lt x P.2.2.2.1
  have hpl := pr_lt P.1 e.2.2.1 x P.2.2.2.1
  have h8 := p2_8 hl.2.2.1
  unfold G_X9_matches
  simp (disch := omega) only [zn_L, zn_M, zn_R, zm_tag hP hW hx, h0, h1, h2, zm_print hP hW hx hl.2.2.1]
  by_cases g1 : e.1 = tg x P.2.2.2.1
  · rw [if_pos g1]
    by_cases g3 : e.2.2.2 = pr P.1 e.2.2.1 x P.2.2.2.1
    · rw [if_pos g3, if_pos ⟨g1, g3⟩]
    · rw [if_neg g3, if_neg (fun z => g3 z.2)]
  · rw [if_neg g1, if_neg (fun z => g1 z.1)]
/-- the model's choice -/
theorem bst_m {a : Option (Nat × Nat)} {p l : Nat} (ha : zAk a) (hl : l ≤ 8) {ρ : Type} (K : Int32 → Int32 → ρ) : (if nI l ≤ en2 a then K (en1 a) (en2 a) else K (nI p) (nI l)) = K (en1 (bst a p (some l))) (en2 (bst a p (some l))) :=
  bst_c (m := some l) ha (fun l' h => by have := Option.some.inj h; omega) K
theorem bst_no (a : Option (Nat × Nat)) (p : Nat) : bst a p none = a := rfl
set_option maxHeartbeats 1000000 in
theorem zm_pin {N : Nat} (hN : 5000 ≤ N) {ψ : M2} {P : Pm} {c : Ce} {x u v : Nat} (hx : x < 1000) (hP : zMp (ψ 1) P) (hC : zMw (ψ 1) c) (hW : zWp P) (hV : zWc P.1 P.2.1 c) (hu : u < 64) (hv : v < 2) (hside : ∀ k e, k < P.2.1 → c (4 * u + k) = some e → e.1 = tg x P.2.2.2.1 → (((if e.2.1 = u then nI 0 else nI 1) = nI v) ↔ e.2.1 = hm P.1 x P.2.2.2.1)) (A : Nat → Option (Nat × Nat)) (hA : ∀ j, j ≤ P.2.1 → zAk (A j)) (hs : ∀ j, j < P.2.1 → A (j + 1) = bst (A j) (4 * u + j) (mtc P.1 P.2.2.2.1 x (c (4 * u + j)))) : L_X9_placeOf_36 N ψ (nI x) (nI v) (nI u) N (en1 (A 0)) (en2 (A 0)) (nI 0) = some (en1 (A P.2.1), en2 (A P.2.1)) := by
  have hb := hW.1
  have h14 := hW.2.1
  refine zn_up (fun k i (s : Int32 × Int32) => L_X9_placeOf_36 N ψ (nI x) (nI v) (nI u) k s.1 s.2 (nI i)) P.2.1 (fun i => (en1 (A i), en2 (A i))) _ (fun k i hi => ?_) (fun k => ?_) N 0 (by omega) (by omega)
  · show B_X9_placeOf_36 N ψ (nI x) (nI v) (nI u) _ (en1 (A i)) (en2 (A i)) (nI i) = L_X9_placeOf_36 N ψ (nI x) (nI v) (nI u) k (en1 (A (i + 1))) (en2 (A (i + 1))) (nI (i + 1))
    obtain ⟨h0, h123⟩ := hC (4 * u + i) (by omega)
    have ediv : (4 * u + i) / 4 = u := by omega
    rw [ediv] at h123
    unfold B_X9_placeOf_36
    simp (disch := omega) only [zn_L, zn_M, zn_R, hP.2.1, zm_at, zm_empw hC hV]
    rw [if_neg (by omega), hs i hi]
    cases hc : c (4 * u + i) with
    | none =>
      rw [if_neg (show ¬ ((if (none : Option En).isNone = true then nI 1 else nI 0) = nI 0) from by decide)]
      rfl
    | some e =>
      obtain ⟨h1, h2, h3⟩ := h123 e hc
      rw [hc] at h0
      have h0 : ψ 1 (18 + 4 * (4 * u + i)) = nI e.1 := h0
      have he := (hV _ e hc).2.2.1
      have hl := zEo_lt hb.2 he
      have hmat := zm_matches (k := 18 + 4 * (4 * u + i)) hx hP hW he (by omega) h0 h1 h2
      rw [if_pos (show (if (some e).isNone = true then nI 1 else nI 0) = nI 0 from rfl)]
      rw [h3, hmat]
      simp only [h1, zn_R]
      by_cases g1 : e.1 = tg x P.2.2.2.1
      · have hsd := hside i e hi hc g1
        by_cases g2 : e.2.1 = hm P.1 x P.2.2.2.1
        · rw [if_pos (hsd.mpr g2)]
          by_cases g3 : e.2.2.2 = pr P.1 e.2.2.1 x P.2.2.2.1
          · rw [if_pos (show e.1 = tg x P.2.2.2.1 ∧ e.2.2.2 = pr P.1 e.2.2.1 x P.2.2.2.1 from ⟨g1, g3⟩), if_neg (by decide)]
            have emt : mtc P.1 P.2.2.2.1 x (some e) = some e.2.2.1 := by
              unfold mtc
              rw [og_s, if_pos ⟨g1, g2, g3⟩]
            rw [emt]
            exact bst_m (p := 4 * u + i) (l := e.2.2.1) (hA i (by omega)) he.2.2.1 (fun y z => L_X9_placeOf_36 N ψ (nI x) (nI v) (nI u) k y z (nI (i + 1)))
          · rw [if_neg (show ¬ (e.1 = tg x P.2.2.2.1 ∧ e.2.2.2 = pr P.1 e.2.2.1 x P.2.2.2.1) from fun z => g3 z.2), if_pos rfl]
            have emt : mtc P.1 P.2.2.2.1 x (some e) = none := by
              unfold mtc
              rw [og_s, if_neg (fun z => g3 z.2.2)]
            rw [emt, bst_no]
        · rw [if_neg (fun z => g2 (hsd.mp z))]
          have emt : mtc P.1 P.2.2.2.1 x (some e) = none := by
            unfold mtc
            rw [og_s, if_neg (fun z => g2 z.2.1)]
          rw [emt, bst_no]
      · have emt : mtc P.1 P.2.2.2.1 x (some e) = none := by
          unfold mtc
          rw [og_s, if_neg (fun z => g1 z.1)]
        rw [emt, bst_no]
        rw [if_neg (show ¬ (e.1 = tg x P.2.2.2.1 ∧ e.2.2.2 = pr P.1 e.2.2.1 x P.2.2.2.1) from fun z => g1 z.1), if_pos rfl]
        split <;> split <;> rfl
  · show B_X9_placeOf_36 N ψ (nI x) (nI v) (nI u) _ _ _ (nI P.2.1) = _
    unfold B_X9_placeOf_36
    simp (disch := omega) only [zn_L, zn_M, zn_R, hP.2.1]
    rw [if_pos (by omega)]
set_option maxHeartbeats 1000000 in
theorem zm_placeOf {N : Nat} (hN : 5000 ≤ N) {ψ : M2} {P : Pm} {c : Ce} {q : List En} {x : Nat} (hx : x < 1000) (hP : zMp (ψ 1) P) (hC : zMw (ψ 1) c) (hS : zMq (ψ 1) q) (hW : zWp P) (hV : zWc P.1 P.2.1 c) (hq : zWq P.1 q) : G_X9_placeOf N ψ (nI x) = some (zn_g nI mI (plc P c q x)) := by
  have hb := hW.1
  have hs := hW.2.1
  have h6 := p2_6 hb.2
  have hm1 := hm_lt P.1 x P.2.2.2.1
  have ho := oth_lt (tg x P.2.2.2.1) hm1
  have htg := tg_lt x P.2.2.2.1
  have h3 := hq.1
  have s0 := zm_pin hN (u := hm P.1 x P.2.2.2.1) (v := 0) hx hP hC hW hV (by omega) (by omega) (fun k e hk hc ht => by
    by_cases g : e.2.1 = hm P.1 x P.2.2.2.1
    · rw [if_pos g]
      exact ⟨fun _ => g, fun _ => rfl⟩
    · rw [if_neg g]
      exact ⟨fun z => absurd z (by decide), fun z => (g z).elim⟩) (fun j => plA P c x j) (fun j hj => plA_ok hW hV x j (by omega)) (fun j hj => by
    show bst _ _ _ = _
    have e1 : plp P.2.1 (hm P.1 x P.2.2.2.1) (oth P.1 (hm P.1 x P.2.2.2.1) (tg x P.2.2.2.1)) j = 4 * hm P.1 x P.2.2.2.1 + j := if_pos hj
    rw [e1])
  have s1 := zm_pin hN (u := oth P.1 (hm P.1 x P.2.2.2.1) (tg x P.2.2.2.1)) (v := 1) hx hP hC hW hV (by omega) (by omega) (fun k e hk hc ht => by
    have h4 := (hV _ e hc).2.2.2
    have ediv : (4 * oth P.1 (hm P.1 x P.2.2.2.1) (tg x P.2.2.2.1) + k) / 4 = oth P.1 (hm P.1 x P.2.2.2.1) (tg x P.2.2.2.1) := by omega
    rw [ediv, ht, oth_oth] at h4
    by_cases g : e.2.1 = oth P.1 (hm P.1 x P.2.2.2.1) (tg x P.2.2.2.1)
    · rw [if_pos g]
      refine ⟨fun z => absurd z (by decide), fun z => ?_⟩
      exact absurd (g.symm.trans z) (oth_ne _ _ hb.1)
    · rw [if_neg g]
      exact ⟨fun _ => h4.resolve_left g, fun _ => rfl⟩) (fun j => plA P c x (P.2.1 + j)) (fun j hj => plA_ok hW hV x _ (by omega)) (fun j hj => by
    have e1 : plp P.2.1 (hm P.1 x P.2.2.2.1) (oth P.1 (hm P.1 x P.2.2.2.1) (tg x P.2.2.2.1)) (P.2.1 + j) = 4 * oth P.1 (hm P.1 x P.2.2.2.1) (tg x P.2.2.2.1) + j := by
      unfold plp
      rw [if_neg (by omega)]
      omega
    show bst (plA P c x (P.2.1 + j)) (plp P.2.1 (hm P.1 x P.2.2.2.1) (oth P.1 (hm P.1 x P.2.2.2.1) (tg x P.2.2.2.1)) (P.2.1 + j)) (mtc P.1 P.2.2.2.1 x (c (plp P.2.1 (hm P.1 x P.2.2.2.1) (oth P.1 (hm P.1 x P.2.2.2.1) (tg x P.2.2.2.1)) (P.2.1 + j)))) = _
    rw [e1])
  have e2s : P.2.1 + P.2.1 = 2 * P.2.1 := by omega
  rw [e2s, Nat.add_zero] at s1
  have s0' : L_X9_placeOf_36 N ψ (nI x) (nI 0) (nI (hm P.1 x P.2.2.2.1)) N mI mI (nI 0) = some (en1 (plA P c x P.2.1), en2 (plA P c x P.2.1)) := s0
  have t0 : ∀ k, L_X9_placeOf_7 N ψ (nI x) (k + 1) mI mI (nI 0) = L_X9_placeOf_7 N ψ (nI x) k (en1 (plA P c x P.2.1)) (en2 (plA P c x P.2.1)) (nI 1) := by
    intro k
    show B_X9_placeOf_7 N ψ (nI x) _ mI mI (nI 0) = _
    unfold B_X9_placeOf_7
    simp (disch := omega) only [zn_L, zn_M, zn_R, zm_home hP hW hx, s0']
    rw [if_neg (by decide), if_pos trivial]
  have t1 : ∀ k, L_X9_placeOf_7 N ψ (nI x) (k + 1) (en1 (plA P c x P.2.1)) (en2 (plA P c x P.2.1)) (nI 1) = L_X9_placeOf_7 N ψ (nI x) k (en1 (plA P c x (2 * P.2.1))) (en2 (plA P c x (2 * P.2.1))) (nI 2) := by
    intro k
    show B_X9_placeOf_7 N ψ (nI x) _ _ _ (nI 1) = _
    unfold B_X9_placeOf_7
    simp (disch := omega) only [zn_L, zn_M, zn_R, zm_other hP hW hx, s1]
    rw [if_neg (by decide), if_neg (by decide)]
  have t2 : ∀ k, L_X9_placeOf_7 N ψ (nI x) (k + 1) (en1 (plA P c x (2 * P.2.1))) (en2 (plA P c x (2 * P.2.1))) (nI 2) = some (en1 (plA P c x (2 * P.2.1)), en2 (plA P c x (2 * P.2.1))) := by
    intro k
    show B_X9_placeOf_7 N ψ (nI x) _ _ _ (nI 2) = _
    unfold B_X9_placeOf_7
    simp (disch := omega) only [zn_L, zn_M, zn_R]
    rw [if_pos (by decide)]
  have l1 : L_X9_placeOf_7 N ψ (nI x) N mI mI (nI 0) = some (en1 (plA P c x (2 * P.2.1)), en2 (plA P c x (2 * P.2.1))) := by
    have hM : ∀ M, 3 ≤ M → L_X9_placeOf_7 N ψ (nI x) M mI mI (nI 0) = some (en1 (plA P c x (2 * P.2.1)), en2 (plA P c x (2 * P.2.1))) := by
      intro M h
      obtain ⟨k, rfl⟩ : ∃ j, M = j + 3 := ⟨M - 3, by omega⟩
      rw [t0, t1, t2]
    exact hM N (by omega)
  have l2 : L_X9_placeOf_137 N ψ (nI x) N (en1 (plQ P c q x 0)) (en2 (plQ P c q x 0)) (nI 0) = some (en1 (plQ P c q x q.length)) := by
    refine zn_up (fun k i (s : Int32 × Int32) => L_X9_placeOf_137 N ψ (nI x) k s.1 s.2 (nI i)) q.length (fun i => (en1 (plQ P c q x i), en2 (plQ P c q x i))) _ (fun k i hi => ?_) (fun k => ?_) N 0 (by omega) (by omega)
    · have eA : plQ P c q x (i + 1) = bst (plQ P c q x i) (1000 + i) (mtc P.1 P.2.2.2.1 x q[i]?) := rfl
      show B_X9_placeOf_137 N ψ (nI x) _ (en1 (plQ P c q x i)) (en2 (plQ P c q x i)) (nI i) = L_X9_placeOf_137 N ψ (nI x) k (en1 (plQ P c q x (i + 1))) (en2 (plQ P c q x (i + 1))) (nI (i + 1))
      rw [eA]
      have eq1 : q[i]? = some q[i] := List.getElem?_eq_getElem hi
      have he := hq.2 q[i] (List.getElem_mem hi)
      have hl := zEo_lt hb.2 he
      obtain ⟨h0, h1, h2, h33⟩ := hS.2 i q[i] eq1
      have hmat := zm_matches (k := 6 + 4 * i) hx hP hW he (by omega) h0 h1 h2
      rw [eq1]
      unfold B_X9_placeOf_137
      simp (disch := omega) only [zn_L, zn_M, zn_R, hS.1, h33, zm_home hP hW hx, hmat, h1]
      rw [if_neg (by omega)]
      by_cases g2 : q[i].2.1 = hm P.1 x P.2.2.2.1
      · rw [if_pos g2]
        by_cases g13 : q[i].1 = tg x P.2.2.2.1 ∧ q[i].2.2.2 = pr P.1 q[i].2.2.1 x P.2.2.2.1
        · rw [if_pos g13, if_neg (by decide)]
          have emt : mtc P.1 P.2.2.2.1 x (some q[i]) = some q[i].2.2.1 := by
            unfold mtc
            rw [og_s, if_pos ⟨g13.1, g2, g13.2⟩]
          rw [emt]
          exact bst_m (p := 1000 + i) (l := q[i].2.2.1) (plQ_ok hW hV hq x i (by omega)) he.2.2.1 (fun y z => L_X9_placeOf_137 N ψ (nI x) k y z (nI (i + 1)))
        · rw [if_neg g13, if_pos rfl]
          have emt : mtc P.1 P.2.2.2.1 x (some q[i]) = none := by
            unfold mtc
            rw [og_s, if_neg (fun z => g13 ⟨z.1, z.2.2⟩)]
          rw [emt, bst_no]
      · rw [if_neg g2]
        have emt : mtc P.1 P.2.2.2.1 x (some q[i]) = none := by
          unfold mtc
          rw [og_s, if_neg (fun z => g2 z.2.1)]
        rw [emt, bst_no]
    · show B_X9_placeOf_137 N ψ (nI x) _ _ _ (nI q.length) = _
      unfold B_X9_placeOf_137
      simp (disch := omega) only [zn_L, zn_M, zn_R, hS.1]
      rw [if_pos (by omega)]
  have e0 : plQ P c q x 0 = plA P c x (2 * P.2.1) := rfl
  rw [e0] at l2
  unfold G_X9_placeOf
  simp only [zn_L, zn_M, zn_R, l1, l2]
  unfold plc en1
  cases plQ P c q x q.length with
  | none => rfl
  | some y => rfl
