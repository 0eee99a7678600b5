/-! the pure layer: pairs, fifth part -/
theorem zR_back {N : Nat} (hN : 5000 ≤ N) {u0 φ φ' : M2} {η : HT} {τ ψ m3 m4 : M2} {hv : Int64} {S : St} {V : List St} {X : List Nat} {v : Int32} (hR : zRCs u0 S) (hF : zWFs S) (hVc : zVc η V) (hw : zVw V) (hT : zTx τ ψ X) (d2 : zVm m3 V) (d3 : zRMs (fun j => m3 2 (1163 * 4 + j)) S) (d4 : ∀ c', c' ≠ 2 → m3 c' = upd2 ψ 0 5 v c') (e : zFr m3 m4) : ∃ m5, G_X9_layBack N m4 (nI 4) = some m5 ∧ zRl u0 φ' η τ m5 hv ∧ m5 0 5 = v := by
  have m42 : m4 2 = m3 2 := funext fun i => e 2 i rfl
  obtain ⟨m5, f1, f2, f3⟩ := zm_laid (ψ := m4) hN (p := 4) (by decide) (by rw [m42]; exact d3) hF
  refine ⟨m5, f1, ⟨S, V, X, ⟨hR, f2, hF⟩, ⟨hVc, zVm_g d2 (by rw [f3 2 (by decide), m42]) (by rw [f3 0 (by decide), e 0 2 rfl]), hw⟩, zTx_g hT (by rw [f3 3 (by decide), show m4 3 = m3 3 from funext fun i => e 3 i rfl, d4 3 (by decide)]; exact upd2_o (by decide)) (by rw [f3 0 (by decide), e 0 4 rfl, d4 0 (by decide), upd2_e, if_neg (by decide)])⟩, ?_⟩
  rw [f3 0 (by decide), e 0 5 rfl, d4 0 (by decide)]
  exact u55 _ _
theorem zn_add1 (a : Nat) : nI a + nI 1 = nI (a + 1) := nI_add a 1
theorem obd_s {α β : Type} (x : β) (k : β → Option α) : obd (some x) k = k x := rfl
theorem obd2_s {α β γ : Type} (x : β) (y : γ) (k : β → γ → Option α) : obd2 (some (x, y)) k = k x y := rfl
theorem rf_loop {N : Nat} (hN : 5000 ≤ N) {u3 : M2} {η : HT} {τ : M2} {b : Nat} (hb : b < 1000) : ∀ (d v n : Nat) (S : St) (φ ψ : M2) (F : Nat), v + d = b + 1 → zRCs φ S → zRMs (ψ 1) S → zWFs S → d + 1 < F → ∃ r φ' ψ', L_X8_roomFor_21 N u3 η τ (nI b) F (nI n) (nI v) φ = some (0, r, u3, φ', η, τ) ∧ L_X9_roomFor_39 N (nI b) F (nI n) (nI 1) (nI v) ψ = some (r, ψ') ∧ zFr ψ ψ' := by
  intro d
  induction d with
  | zero =>
    intro v n S φ ψ F hv hR hM hF hk
    obtain ⟨F, rfl⟩ : ∃ j, F = j + 1 := ⟨F - 1, by omega⟩
    refine ⟨nI n, φ, ψ, ?_, ?_, zFr_r ψ⟩
    · show B_X8_roomFor_21 N u3 η τ (nI b) _ (nI n) (nI v) φ = _
      unfold B_X8_roomFor_21
      simp (disch := omega) only [zn_L, zn_M, zn_R]
      rw [if_pos (by omega)]
    · show B_X9_roomFor_39 N (nI b) _ (nI n) (nI 1) (nI v) ψ = _
      unfold B_X9_roomFor_39
      simp (disch := omega) only [zn_L, zn_M, zn_R]
      rw [if_pos (by omega)]
  | succ d ih =>
    intro v n S φ ψ F hv hR hM hF hk
    obtain ⟨F, rfl⟩ : ∃ j, F = j + 1 := ⟨F - 1, by omega⟩
    have hvx : v < 1000 := by omega
    have hhas := zc_has hN hvx hR.2.2.2 hF.2.2.2
    have hix := zm_ix (ψ := ψ) hN hvx hM.2.2.2 hF.2.2.2
    have hn := hF.2.2.2.1
    cases hi : ix S.2.2.2.1 S.2.2.2.2 v with
    | some j =>
      have hj := (ix_lt hi).1
      rw [hi] at hhas hix
      have hnj : (nI j = mI) = False := eq_false (fun z => (zn_mi (a := j) (by omega)).1.mp z)
      obtain ⟨r, φ', ψ', g1, g2, g3⟩ := ih (v + 1) n S φ ψ F (by omega) hR hM hF (by omega)
      refine ⟨r, φ', ψ', ?_, ?_, g3⟩
      · rw [← g1]
        show B_X8_roomFor_21 N u3 η τ (nI b) _ (nI n) (nI v) φ = _
        unfold B_X8_roomFor_21 G_X2_isPresent
        rw [if_neg (show ¬ nI b < nI v from fun z => by rw [nI_ltI (by omega) (by omega)] at z; omega), hhas]
        simp only [zn_L, zn_R, og_s, zn_B, if_false]
      · rw [← g2]
        show B_X9_roomFor_39 N (nI b) _ (nI n) (nI 1) (nI v) ψ = _
        unfold B_X9_roomFor_39
        rw [if_neg (show ¬ nI b < nI v from fun z => by rw [nI_ltI (by omega) (by omega)] at z; omega), if_neg (by decide), hix]
        simp only [zn_L, zn_M, zn_R, zn_g, hnj, if_false]
    | none =>
      rw [hi] at hhas hix
      obtain ⟨r0, w, b1, b2⟩ := zc_addKey hN hvx hR hF
      obtain ⟨r1, m, e1, e2, e3⟩ := zm_tryAdd (ψ := ψ) hN hvx hM hF
      have hcls : ∀ r0 w, G_X2_addKey N φ (nI v) = some (r0, w) → L_X8_roomFor_21 N u3 η τ (nI b) (F + 1) (nI n) (nI v) φ = if r0 = mI then some (0, nI n, u3, w, η, τ) else L_X8_roomFor_21 N u3 η τ (nI b) F (nI (n + 1)) (nI (v + 1)) w := by
        intro r0 w b1
        show B_X8_roomFor_21 N u3 η τ (nI b) _ (nI n) (nI v) φ = _
        unfold B_X8_roomFor_21 G_X2_isPresent
        rw [if_neg (show ¬ nI b < nI v from fun z => by rw [nI_ltI (by omega) (by omega)] at z; omega), hhas]
        simp only [zn_L, zn_M, zn_R, og_n, if_true, b1]
      have hmod : ∀ r1 m, G_X9_tryAdd N ψ (nI v) = some (r1, m) → L_X9_roomFor_39 N (nI b) (F + 1) (nI n) (nI 1) (nI v) ψ = if r1 = mI then L_X9_roomFor_39 N (nI b) F (nI (n + 0)) (nI 0) (nI (v + 1)) m else L_X9_roomFor_39 N (nI b) F (nI (n + 1)) (nI 1) (nI (v + 1)) m := by
        intro r1 m e1
        show B_X9_roomFor_39 N (nI b) _ (nI n) (nI 1) (nI v) ψ = _
        unfold B_X9_roomFor_39
        rw [if_neg (show ¬ nI b < nI v from fun z => by rw [nI_ltI (by omega) (by omega)] at z; omega), if_neg (by decide), hix]
        simp only [zn_L, zn_M, zn_R, zn_g, if_true, e1]
      cases hy : addk S.1 S.2.1 S.2.2.1 S.2.2.2.1 S.2.2.2.2 v with
      | none =>
        rw [hy] at b2 e2
        obtain ⟨b21, b22⟩ := b2
        obtain ⟨e21, e22⟩ := e2
        subst b21
        subst e21
        refine ⟨nI n, w, m, ?_, ?_, e3⟩
        · rw [hcls _ _ b1, if_pos rfl]
        · rw [hmod _ _ e1, if_pos rfl]
          obtain ⟨F, rfl⟩ : ∃ j, F = j + 1 := ⟨F - 1, by omega⟩
          show B_X9_roomFor_39 N (nI b) _ (nI n) (nI 0) (nI (v + 1)) m = _
          unfold B_X9_roomFor_39
          split
          · rfl
          · rw [if_pos (by decide)]
      | some y =>
        rw [hy] at b2 e2
        obtain ⟨b21, b22⟩ := b2
        obtain ⟨e21, e22⟩ := e2
        subst b21
        subst e21
        obtain ⟨hF', hy100⟩ := addk_ok hvx hF hy
        have hne : ¬ nI y.1 = mI := fun z => (zn_mi (a := y.1) (by omega)).1.mp z
        obtain ⟨r, φ', ψ', g1, g2, g3⟩ := ih (v + 1) (n + 1) (S.1, y.2) w m F (by omega) b22 e22 hF' (by omega)
        refine ⟨r, φ', ψ', ?_, ?_, zFr_t e3 g3⟩
        · rw [hcls _ _ b1, if_neg hne, g1]
        · rw [hmod _ _ e1, if_neg hne, g2]
theorem bs_loop {N : Nat} (hN : 5000 ≤ N) {u3 : M2} {η : HT} {τ : M2} {n : Nat} (hn : n ≤ 20) : ∀ (d i few : Nat) (best : Int32) (S : St) (φ ψ : M2) (F : Nat), i + d = n → few ≤ 1001 → zRCs φ S → zRMs (ψ 1) S → zWFs S → d < F → ∃ r φ' ψ', L_X8_bestSeed_30 N u3 η τ (nI n) F best (nI few) (nI i) φ = some (r, φ') ∧ L_X9_bestSeed_42 N (nI n) F best (nI few) (nI i) ψ = some (r, ψ') ∧ zFr ψ ψ' := by
  intro d
  induction d with
  | zero =>
    intro i few best S φ ψ F hi hf hR hM hF hk
    obtain ⟨F, rfl⟩ : ∃ j, F = j + 1 := ⟨F - 1, by omega⟩
    refine ⟨best, φ, ψ, ?_, ?_, zFr_r ψ⟩
    · show B_X8_bestSeed_30 N u3 η τ (nI n) _ best (nI few) (nI i) φ = _
      unfold B_X8_bestSeed_30
      rw [if_pos (show nI n ≤ nI i from (nI_leI (by omega) (by omega)).mpr (by omega))]
    · show B_X9_bestSeed_42 N (nI n) _ best (nI few) (nI i) ψ = _
      unfold B_X9_bestSeed_42
      rw [if_pos (show nI n ≤ nI i from (nI_leI (by omega) (by omega)).mpr (by omega))]
  | succ d ih =>
    intro i few best S φ ψ F hi hf hR hM hF hk
    obtain ⟨F, rfl⟩ : ∃ j, F = j + 1 := ⟨F - 1, by omega⟩
    have hW' : zWp (S.1.1, S.1.2.1, S.1.2.2.1, i, S.1.2.2.2.2) := ⟨hF.1.1, hF.1.2.1, hF.1.2.2.1, by show i < 100; omega, hF.1.2.2.2.2⟩
    obtain ⟨w, b1, b2⟩ := zc_refill hN hW' hF.2.2.2 hR
    obtain ⟨m, e1, e2, e3⟩ := zm_rebuilds (ψ := ψ) hN hW' hF.2.2.2 hM
    have hF' : zWF (S.1.1, S.1.2.1, S.1.2.2.1, i, S.1.2.2.2.2) (rb (S.1.1, S.1.2.1, S.1.2.2.1, i, S.1.2.2.2.2) S.2.2.2.2 S.2.2.2.1 0 nC []).2.1 (rb (S.1.1, S.1.2.1, S.1.2.2.1, i, S.1.2.2.2.2) S.2.2.2.2 S.2.2.2.1 0 nC []).2.2 S.2.2.2.1 S.2.2.2.2 := rb_ok (nk := S.2.2.2.1) S.2.2.2.1 0 nC [] (Nat.zero_add _) ⟨hW', nC_ok _ _, nq_ok _, hF.2.2.2⟩
    have hni : ¬ nI n ≤ nI i := fun z => by rw [nI_leI (by omega) (by omega)] at z; omega
    have p0 : ψ 1 0 = nI S.1.1 := hM.1.1
    have p1 : ψ 1 1 = nI S.1.2.1 := hM.1.2.1
    have p2 : ψ 1 2 = nI S.1.2.2.1 := hM.1.2.2.1
    have c0 : φ 0 0 = nI S.1.1 := hR.1.1
    have c1 : φ 0 1 = nI S.1.2.1 := hR.1.2.1
    have c2 : φ 0 2 = nI S.1.2.2.1 := hR.1.2.2.1
    have hfb := zc_falseBetween (a := 0) (b := 999) hN (by decide) (by decide) b2 hF'
    have hfm := zm_falseMany (ψ := m) (a := 0) (b := 999) hN (by decide) (by decide) e2.1 (zMc_w e2.2.1) e2.2.2.1 e2.2.2.2 hF'
    have hcl := cnt_le (p := fals (S.1.1, S.1.2.1, S.1.2.2.1, i, S.1.2.2.2.2) (rb (S.1.1, S.1.2.1, S.1.2.2.1, i, S.1.2.2.2.2) S.2.2.2.2 S.2.2.2.1 0 nC []).2.1 (rb (S.1.1, S.1.2.1, S.1.2.2.1, i, S.1.2.2.2.2) S.2.2.2.2 S.2.2.2.1 0 nC []).2.2 S.2.2.2.1 S.2.2.2.2) 1000 0
    have e999 : 999 + 1 - 0 = 1000 := rfl
    rw [e999] at hfb hfm
    generalize cnt (fals (S.1.1, S.1.2.1, S.1.2.2.1, i, S.1.2.2.2.2) (rb (S.1.1, S.1.2.1, S.1.2.2.1, i, S.1.2.2.2.2) S.2.2.2.2 S.2.2.2.1 0 nC []).2.1 (rb (S.1.1, S.1.2.1, S.1.2.2.1, i, S.1.2.2.2.2) S.2.2.2.2 S.2.2.2.1 0 nC []).2.2 S.2.2.2.1 S.2.2.2.2) 0 1000 = C at hfb hfm hcl
    have hcls : L_X8_bestSeed_30 N u3 η τ (nI n) (F + 1) best (nI few) (nI i) φ = if bI (rb (S.1.1, S.1.2.1, S.1.2.2.1, i, S.1.2.2.2.2) S.2.2.2.2 S.2.2.2.1 0 nC []).1 = nI 0 then L_X8_bestSeed_30 N u3 η τ (nI n) F best (nI few) (nI (i + 1)) w else if nI few ≤ nI C then L_X8_bestSeed_30 N u3 η τ (nI n) F best (nI few) (nI (i + 1)) w else L_X8_bestSeed_30 N u3 η τ (nI n) F (nI i) (nI C) (nI (i + 1)) w := by
      show B_X8_bestSeed_30 N u3 η τ (nI n) _ best (nI few) (nI i) φ = _
      unfold B_X8_bestSeed_30 G_X2_refillWithSeed
      rw [if_neg hni, c0, c1, c2, b1]
      simp only [zn_L, zn_add1, obd2_s, obd_s, hfb]
    have hmod : L_X9_bestSeed_42 N (nI n) (F + 1) best (nI few) (nI i) ψ = if bI (rb (S.1.1, S.1.2.1, S.1.2.2.1, i, S.1.2.2.2.2) S.2.2.2.2 S.2.2.2.1 0 nC []).1 = nI 0 then J_X9_bestSeed_89_42 (L_X9_bestSeed_42 N (nI n) F) N m (nI n) best (nI few) (nI i) (nI 1001) else J_X9_bestSeed_89_42 (L_X9_bestSeed_42 N (nI n) F) N m (nI n) best (nI few) (nI i) (nI C) := by
      show B_X9_bestSeed_42 N (nI n) _ best (nI few) (nI i) ψ = _
      unfold B_X9_bestSeed_42
      rw [if_neg hni]
      simp (disch := omega) only [zn_L, zn_in, nI_clamp, p0, p1, p2]
      rw [e1]
      simp only [obd2_s, obd_s, hfm]
    rw [hcls, hmod]
    cases hy : (rb (S.1.1, S.1.2.1, S.1.2.2.1, i, S.1.2.2.2.2) S.2.2.2.2 S.2.2.2.1 0 nC []).1 with
    | false =>
      rw [if_pos (show bI false = nI 0 from rfl), if_pos (show bI false = nI 0 from rfl)]
      obtain ⟨r, φ', ψ', g1, g2, g3⟩ := ih (i + 1) few best (_, _, _, _, _) w m F (by omega) hf b2 e2 hF' (by omega)
      refine ⟨r, φ', ψ', g1, ?_, zFr_t e3 g3⟩
      unfold J_X9_bestSeed_89_42
      rw [if_pos (show nI few ≤ nI 1001 from (nI_leI (by omega) (by decide)).mpr hf), if_pos (show nI few ≤ nI 1001 from (nI_leI (by omega) (by decide)).mpr hf), nI_1]
      exact g2
    | true =>
      rw [if_neg (show ¬ bI true = nI 0 from by decide), if_neg (show ¬ bI true = nI 0 from by decide)]
      unfold J_X9_bestSeed_89_42
      by_cases g : nI few ≤ nI C
      · rw [if_pos g, if_pos g, if_pos g]
        obtain ⟨r, φ', ψ', g1, g2, g3⟩ := ih (i + 1) few best (_, _, _, _, _) w m F (by omega) hf b2 e2 hF' (by omega)
        exact ⟨r, φ', ψ', g1, by rw [nI_1]; exact g2, zFr_t e3 g3⟩
      · rw [if_neg g, if_neg g, if_neg g]
        obtain ⟨r, φ', ψ', g1, g2, g3⟩ := ih (i + 1) C (nI i) (_, _, _, _, _) w m F (by omega) (by omega) b2 e2 hF' (by omega)
        exact ⟨r, φ', ψ', g1, by rw [nI_1]; exact g2, zFr_t e3 g3⟩
theorem lb_loop {N : Nat} (hN : 5000 ≤ N) {u3 : M2} {η : HT} {τ : M2} {s f : Nat} (hs : 1 ≤ s ∧ s ≤ 4) (hf : 1 ≤ f ∧ f ≤ 8) : ∀ (d i : Nat) (S : St) (φ ψ : M2) (F : Nat), i + d = 7 → 1 ≤ i → zRCs φ S → zRMs (ψ 1) S → zWFs S → d < F → ∃ r φ' r' ψ', L_X8_leastBits_32 N u3 η τ (nI s) (nI f) F (nI i) φ = some (0, r, u3, φ', η, τ) ∧ L_X9_leastBits_44 N (nI s) (nI f) F (nI i) ψ = some (r', ψ') ∧ zFr ψ ψ' ∧ r = if nI 7 ≤ r' then mI else r' := by
  intro d
  induction d with
  | zero =>
    intro i S φ ψ F hi h1 hR hM hF hk
    obtain ⟨F, rfl⟩ : ∃ j, F = j + 1 := ⟨F - 1, by omega⟩
    have e7 : i = 7 := by omega
    subst e7
    refine ⟨mI, φ, nI 7, ψ, ?_, ?_, zFr_r ψ, by rw [if_pos (by decide)]⟩
    · show B_X8_leastBits_32 N u3 η τ (nI s) (nI f) _ (nI 7) φ = _
      unfold B_X8_leastBits_32
      rw [if_pos (by decide)]
      rfl
    · show B_X9_leastBits_44 N (nI s) (nI f) _ (nI 7) ψ = _
      unfold B_X9_leastBits_44
      rw [if_pos (by decide)]
  | succ d ih =>
    intro i S φ ψ F hi h1 hR hM hF hk
    obtain ⟨F, rfl⟩ : ∃ j, F = j + 1 := ⟨F - 1, by omega⟩
    have hW' : zWp (i, s, f, S.1.2.2.2.1, S.1.2.2.2.2) := ⟨⟨h1, by show i ≤ 6; omega⟩, hs, hf, hF.1.2.2.2.1, hF.1.2.2.2.2⟩
    obtain ⟨w, b1, b2⟩ := zc_refill hN hW' hF.2.2.2 hR
    obtain ⟨m, e1, e2, e3⟩ := zm_rebuilds (ψ := ψ) hN hW' hF.2.2.2 hM
    have hF' : zWF (i, s, f, S.1.2.2.2.1, S.1.2.2.2.2) (rb (i, s, f, S.1.2.2.2.1, S.1.2.2.2.2) S.2.2.2.2 S.2.2.2.1 0 nC []).2.1 (rb (i, s, f, S.1.2.2.2.1, S.1.2.2.2.2) S.2.2.2.2 S.2.2.2.1 0 nC []).2.2 S.2.2.2.1 S.2.2.2.2 := rb_ok (nk := S.2.2.2.1) S.2.2.2.1 0 nC [] (Nat.zero_add _) ⟨hW', nC_ok _ _, nq_ok _, hF.2.2.2⟩
    have p3 : ψ 1 3 = nI S.1.2.2.2.1 := hM.1.2.2.2.1
    have c3 : φ 0 3 = nI S.1.2.2.2.1 := hR.1.2.2.2.1
    have hcls : L_X8_leastBits_32 N u3 η τ (nI s) (nI f) (F + 1) (nI i) φ = if bI (rb (i, s, f, S.1.2.2.2.1, S.1.2.2.2.2) S.2.2.2.2 S.2.2.2.1 0 nC []).1 = nI 0 then L_X8_leastBits_32 N u3 η τ (nI s) (nI f) F (nI (i + 1)) w else some (0, nI i, u3, w, η, τ) := by
      show B_X8_leastBits_32 N u3 η τ (nI s) (nI f) _ (nI i) φ = _
      unfold B_X8_leastBits_32 G_X2_refillWithBits
      rw [if_neg (show ¬ (6 : Int32) < nI i from fun z => by rw [zn_L.1.2.2.2.2.2.2.1, nI_ltI (by decide) (by omega)] at z; omega), c3, b1]
      simp only [zn_L, zn_add1, obd2_s]
    have hmod : L_X9_leastBits_44 N (nI s) (nI f) (F + 1) (nI i) ψ = if bI (rb (i, s, f, S.1.2.2.2.1, S.1.2.2.2.2) S.2.2.2.2 S.2.2.2.1 0 nC []).1 = nI 0 then L_X9_leastBits_44 N (nI s) (nI f) F (nI (i + 1)) m else some (nI i, m) := by
      show B_X9_leastBits_44 N (nI s) (nI f) _ (nI i) ψ = _
      unfold B_X9_leastBits_44
      rw [if_neg (show ¬ (7 : Int32) ≤ nI i from fun z => by rw [zn_L.1.2.2.2.2.2.2.2.1, nI_leI (by decide) (by omega)] at z; omega)]
      simp (disch := omega) only [zn_L, zn_in, nI_clamp, p3]
      rw [e1]
      simp only [zn_add1, obd2_s]
    rw [hcls, hmod]
    cases hy : (rb (i, s, f, S.1.2.2.2.1, S.1.2.2.2.2) S.2.2.2.2 S.2.2.2.1 0 nC []).1 with
    | false =>
      rw [if_pos (show bI false = nI 0 from rfl), if_pos (show bI false = nI 0 from rfl)]
      obtain ⟨r, φ', r', ψ', g1, g2, g3, g4⟩ := ih (i + 1) (_, _, _, _, _) w m F (by omega) (by omega) b2 e2 hF' (by omega)
      exact ⟨r, φ', r', ψ', g1, g2, zFr_t e3 g3, g4⟩
    | true =>
      rw [if_neg (show ¬ bI true = nI 0 from by decide), if_neg (show ¬ bI true = nI 0 from by decide)]
      refine ⟨nI i, w, nI i, m, rfl, rfl, e3, ?_⟩
      rw [if_neg (fun z => by rw [nI_leI (by decide) (by omega)] at z; omega)]
section PK
variable {N : Nat}
theorem pq_22 (hN : 5000 ≤ N) : Pk22 N zRl := by
  intro u0 φ η τ ψ hv p1 p2 hrel
  obtain ⟨S, V, X, ⟨hR, hM, hF⟩, ⟨hVc, hVm, hw⟩, hT⟩ := id hrel
  rcases zp_range p1 p2 with ⟨a, b, h1, h2, rfl, rfl, k1, k2⟩ | ⟨k1, k2⟩
  · obtain ⟨w1, a1, a2, a3⟩ := zc_copy hN φ hR hF
    obtain ⟨m3, d1, d2, d3, d4⟩ := zm_side hN (p := 4) (by decide) (by decide) (z5M hM (nI 0)) hF (z5V hVm (nI 0)) hw
    have m31 : m3 1 = ψ 1 := by rw [d4 1 (by decide)]; exact u51 _ _
    obtain ⟨r, w4, m4, g1, g2, g3⟩ := rf_loop (u3 := u0) (η := η) (τ := τ) hN h2 (b + 1 - a) a 0 S w1 m3 N (by omega) a2 (by rw [m31]; exact hM) hF (by omega)
    obtain ⟨m5, f1, f2, f3⟩ := zR_back (φ := φ) (φ' := w4) (hv := hv) hN hR hF hVc hw hT d2 d3 d4 g3
    refine ⟨0, r, u0, w4, η, τ, r, m5, ?_, Or.inl rfl, ?_, f3, fun _ => rfl, f2⟩
    · simp only [G_X8_roomFor, zn_L, zn_M, zn_R, k1, zn_B, if_false, a1, a3, g1]
    · simp only [G_X9_roomFor, J_X9_roomFor_14, zn_L, zn_M, zn_R, k2, zn_B, if_false, u55, if_true, d1, g2, f1]
  · refine ⟨1, nI 0, u0, φ, η, τ, nI 0, upd2 ψ 0 5 (nI 1), ?_, Or.inr rfl, ?_, u55 _ _, fun z => (by cases z), zRl_5 hrel _⟩
    · simp only [G_X8_roomFor, zn_L, k1, if_true]
    · simp only [G_X9_roomFor, J_X9_roomFor_14, zn_L, zn_R, k2, if_true, u55, zn_B, if_false]
theorem pq_27 (hN : 5000 ≤ N) : Pk27 N zRl := by
  intro u0 φ η τ ψ hv p1 hrel
  obtain ⟨S, V, X, ⟨hR, hM, hF⟩, ⟨hVc, hVm, hw⟩, hT⟩ := id hrel
  rcases zp_in p1 1 20 (by decide) (by decide) with ⟨n, h1, h2, rfl, k1, k2⟩ | ⟨k1, k2⟩
  · obtain ⟨w1, a1, a2, a3⟩ := zc_copy hN φ hR hF
    obtain ⟨m3, d1, d2, d3, d4⟩ := zm_side hN (p := 4) (by decide) (by decide) (z5M hM (nI 0)) hF (z5V hVm (nI 0)) hw
    have m31 : m3 1 = ψ 1 := by rw [d4 1 (by decide)]; exact u51 _ _
    obtain ⟨r, w4, m4, g1, g2, g3⟩ := bs_loop (u3 := u0) (η := η) (τ := τ) hN h2 n 0 1001 mI S w1 m3 N (by omega) (by decide) a2 (by rw [m31]; exact hM) hF (by omega)
    obtain ⟨m5, f1, f2, f3⟩ := zR_back (φ := φ) (φ' := w4) (hv := hv) hN hR hF hVc hw hT d2 d3 d4 g3
    refine ⟨0, r, u0, w4, η, τ, r, m5, ?_, Or.inl rfl, ?_, f3, fun _ => rfl, f2⟩
    · simp only [G_X8_bestSeed, zn_L, zn_M, zn_R, k1, zn_B, if_false, a1, a3, g1]
    · simp only [G_X9_bestSeed, J_X9_bestSeed_16, zn_L, zn_M, zn_R, k2, zn_B, if_false, u55, if_true, d1, g2, f1]
  · refine ⟨1, nI 0, u0, φ, η, τ, nI 0, upd2 ψ 0 5 (nI 1), ?_, Or.inr rfl, ?_, u55 _ _, fun z => (by cases z), zRl_5 hrel _⟩
    · simp only [G_X8_bestSeed, zn_L, zn_R, k1, if_true]
    · simp only [G_X9_bestSeed, J_X9_bestSeed_16, zn_L, zn_R, k2, if_true, u55, zn_B, if_false]
theorem pq_28 (hN : 5000 ≤ N) : Pk28 N zRl := by
  intro u0 φ η τ ψ hv p1 p2 hrel
  obtain ⟨S, V, X, ⟨hR, hM, hF⟩, ⟨hVc, hVm, hw⟩, hT⟩ := id hrel
  rcases zp_in p1 1 4 (by decide) (by decide) with ⟨s, hs1, hs2, rfl, k1, k2⟩ | ⟨k1, k2⟩
  · rcases zp_in p2 1 8 (by decide) (by decide) with ⟨f, hf1, hf2, rfl, q1, q2⟩ | ⟨q1, q2⟩
    · obtain ⟨w1, a1, a2, a3⟩ := zc_copy hN φ hR hF
      obtain ⟨m3, d1, d2, d3, d4⟩ := zm_side hN (p := 4) (by decide) (by decide) (z5M hM (nI 0)) hF (z5V hVm (nI 0)) hw
      have m31 : m3 1 = ψ 1 := by rw [d4 1 (by decide)]; exact u51 _ _
      obtain ⟨r, w4, r', m4, g1, g2, g3, g4⟩ := lb_loop (u3 := u0) (η := η) (τ := τ) hN ⟨hs1, hs2⟩ ⟨hf1, hf2⟩ 6 1 S w1 m3 N rfl (by decide) a2 (by rw [m31]; exact hM) hF (by omega)
      obtain ⟨m5, f1, f2, f3⟩ := zR_back (φ := φ) (φ' := w4) (hv := hv) hN hR hF hVc hw hT d2 d3 d4 g3
      refine ⟨0, r, u0, w4, η, τ, r, m5, ?_, Or.inl rfl, ?_, f3, fun _ => rfl, f2⟩
      · simp only [G_X8_leastBits, zn_L, zn_M, zn_R, k1, q1, zn_B, if_false, a1, a3, g1]
      · simp only [G_X9_leastBits, zn_L, zn_M, zn_R, k2, q2, zn_B, if_false, u55, if_true, d1, g2, f1]
        rw [g4]
        split <;> rfl
    · refine ⟨1, nI 0, u0, φ, η, τ, nI 0, upd2 ψ 0 5 (nI 1), ?_, Or.inr rfl, ?_, u55 _ _, fun z => (by cases z), zRl_5 hrel _⟩
      · simp only [G_X8_leastBits, zn_L, zn_R, k1, q1, zn_B, if_false, if_true]
      · simp only [G_X9_leastBits, J_X9_leastBits_24, zn_L, zn_R, k2, q2, if_true, u55, zn_B, if_false]
  · refine ⟨1, nI 0, u0, φ, η, τ, nI 0, upd2 ψ 0 5 (nI 1), ?_, Or.inr rfl, ?_, u55 _ _, fun z => (by cases z), zRl_5 hrel _⟩
    · simp only [G_X8_leastBits, zn_L, zn_R, k1, if_true]
    · simp only [G_X9_leastBits, J_X9_leastBits_24, zn_L, zn_R, k2, if_true, u55, zn_B, if_false]
end PK
