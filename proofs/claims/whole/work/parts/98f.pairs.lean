/-! the pure layer: pairs, sixth part -/
def twn (P : Pm) (K : Nat → Nat) (i : Nat) : Nat := cnt (fun j => decide (nE P (K j) = nE P (K i))) 0 i
theorem nE_eq (P : Pm) (x y : Nat) : nE P x = nE P y ↔ tg x P.2.2.2.1 = tg y P.2.2.2.1 ∧ hm P.1 x P.2.2.2.1 = hm P.1 y P.2.2.2.1 ∧ pr P.1 P.2.2.1 x P.2.2.2.1 = pr P.1 P.2.2.1 y P.2.2.2.1 := by
  unfold nE
  constructor
  · intro h
    have h1 := congrArg (fun e : En => e.1) h
    have h2 := congrArg (fun e : En => e.2.1) h
    have h3 := congrArg (fun e : En => e.2.2.2) h
    exact ⟨h1, h2, h3⟩
  · intro ⟨h1, h2, h3⟩
    rw [h1, h2, h3]
theorem zc_twins {N : Nat} (hN : 5000 ≤ N) {φ : M2} {P : Pm} {nk : Nat} {K : Nat → Nat} (hP : zPm φ P) (hK : zKy φ nk K) (hW : zWp P) (hk : zWk nk K) : G_X2_twinPairs N φ = some (nI (sumN (twn P K) 0 nk)) := by
  have hn := hk.1
  have hin : ∀ i, i < nk → ∀ m, L_X2_twinPairs_31 N φ (nI i) (ew (nE P (K i))) N (nI m) (nI 0) = some (nI (m + twn P K i)) := by
    intro i hi m
    refine zn_cnt (fun k m j => L_X2_twinPairs_31 N φ (nI i) (ew (nE P (K i))) k (nI m) (nI j)) (fun j => decide (nE P (K j) = nE P (K i))) i nI (fun k m j hj => ?_) (fun k m => ?_) i 0 m N (Nat.zero_add _) (by omega)
    · have h1 := zEo_lt hW.1.2 (nE_ok hW (K j))
      have h2 := zEo_lt hW.1.2 (nE_ok hW (K i))
      show B_X2_twinPairs_31 N φ (nI i) _ _ (nI m) (nI j) = _
      unfold B_X2_twinPairs_31
      simp (disch := omega) only [zn_L, zn_M, zn_R, zc_keyAt hK hn (show j < nk by omega), zc_new hP hW (hk.2 j (by omega)).1, ew_inj h1.1 h1.2.1 (show (nE P (K j)).2.2.1 < 16 by omega) h1.2.2.2 h2.1 h2.2.1 (show (nE P (K i)).2.2.1 < 16 by omega) h2.2.2.2, decide_eq_true_eq]
      rw [if_neg (by omega)]
    · show B_X2_twinPairs_31 N φ (nI i) _ _ (nI m) (nI i) = _
      unfold B_X2_twinPairs_31
      simp (disch := omega) only [zn_L, zn_M, zn_R]
      rw [if_pos (by omega)]
  have h := zn_sum (fun k m i => L_X2_twinPairs_4 N φ k (nI m) (nI i)) (twn P K) nk nI (fun k m i hi => ?_) (fun k m => ?_) nk 0 0 N (Nat.zero_add _) (by omega)
  · unfold G_X2_twinPairs
    simp only [zn_L]
    rw [h, Nat.zero_add]
    rfl
  · show B_X2_twinPairs_4 N φ _ (nI m) (nI i) = _
    unfold B_X2_twinPairs_4 G_X4_size
    simp (disch := omega) only [zn_L, zn_M, zn_R, hK.1, zc_keyAt hK hn hi, zc_new hP hW (hk.2 i hi).1, hin i hi m]
    rw [if_neg (by omega)]
  · show B_X2_twinPairs_4 N φ _ (nI m) (nI nk) = _
    unfold B_X2_twinPairs_4 G_X4_size
    simp (disch := omega) only [zn_L, zn_M, zn_R, hK.1]
    rw [if_pos (by omega)]
theorem zm_twins {N : Nat} (hN : 5000 ≤ N) {ψ : M2} {P : Pm} {nk : Nat} {K : Nat → Nat} (hP : zMp (ψ 1) P) (hK : zMk (ψ 1) nk K) (hW : zWp P) (hk : zWk nk K) : L_X9_twins_9 N ψ N (nI 0) (nI 0) = some (nI (sumN (twn P K) 0 nk)) := by
  have hn := hk.1
  have h6 := p2_6 hW.1.2
  have h8 := p2_8 hW.2.2.1.2
  have hin : ∀ i, i < nk → ∀ m, L_X9_twins_23 N ψ (nI i) N (nI m) (nI 0) = some (nI (m + twn P K i)) := by
    intro i hi m
    refine zn_cnt (fun k m j => L_X9_twins_23 N ψ (nI i) k (nI m) (nI j)) (fun j => decide (nE P (K j) = nE P (K i))) i nI (fun k m j hj => ?_) (fun k m => ?_) i 0 m N (Nat.zero_add _) (by omega)
    · have ti := tg_lt (K i) P.2.2.2.1
      have tj := tg_lt (K j) P.2.2.2.1
      have hi1 := hm_lt P.1 (K i) P.2.2.2.1
      have hj1 := hm_lt P.1 (K j) P.2.2.2.1
      have pi := pr_lt P.1 P.2.2.1 (K i) P.2.2.2.1
      have pj := pr_lt P.1 P.2.2.1 (K j) P.2.2.2.1
      have q1 := hK.2 i hi
      have q2 := hK.2 j (by omega)
      have hf := hW.2.2.1.2
      show B_X9_twins_23 N ψ (nI i) _ (nI m) (nI j) = _
      unfold B_X9_twins_23
      simp (disch := omega) only [zn_L, zn_M, zn_R, q1, q2, zm_tag hP hW (hk.2 i hi).1, zm_tag hP hW (hk.2 j (by omega)).1, zm_home hP hW (hk.2 i hi).1, zm_home hP hW (hk.2 j (by omega)).1, hP.2.2.1, zm_print hP hW (hk.2 i hi).1 hf, zm_print hP hW (hk.2 j (by omega)).1 hf, decide_eq_true_eq, nE_eq, Nat.add_zero]
      rw [if_neg (by omega)]
      by_cases g1 : tg (K i) P.2.2.2.1 = tg (K j) P.2.2.2.1
      · rw [if_pos g1]
        by_cases g2 : hm P.1 (K i) P.2.2.2.1 = hm P.1 (K j) P.2.2.2.1
        · rw [if_pos g2]
          by_cases g3 : pr P.1 P.2.2.1 (K i) P.2.2.2.1 = pr P.1 P.2.2.1 (K j) P.2.2.2.1
          · rw [if_pos g3, if_pos ⟨g1.symm, g2.symm, g3.symm⟩]
          · rw [if_neg g3, if_neg (fun z => g3 z.2.2.symm)]
        · rw [if_neg g2, if_neg (fun z => g2 z.2.1.symm)]
      · rw [if_neg g1, if_neg (fun z => g1 z.1.symm)]
    · show B_X9_twins_23 N ψ (nI i) _ (nI m) (nI i) = _
      unfold B_X9_twins_23
      simp (disch := omega) only [zn_L, zn_M, zn_R]
      rw [if_pos (by omega)]
  have h := zn_sum (fun k m i => L_X9_twins_9 N ψ k (nI m) (nI i)) (twn P K) nk nI (fun k m i hi => ?_) (fun k m => ?_) nk 0 0 N (Nat.zero_add _) (by omega)
  · rw [Nat.zero_add] at h
    exact h
  · show B_X9_twins_9 N ψ _ (nI m) (nI i) = _
    unfold B_X9_twins_9
    simp (disch := omega) only [zn_L, zn_M, zn_R, hK.1, hin i hi m]
    rw [if_neg (by omega)]
  · show B_X9_twins_9 N ψ _ (nI m) (nI nk) = _
    unfold B_X9_twins_9
    simp (disch := omega) only [zn_L, zn_M, zn_R, hK.1]
    rw [if_pos (by omega)]
/-! false keys one by one -/
theorem fk_loop {N : Nat} (hN : 5000 ≤ N) {u0 φ ψ : M2} {η : HT} {τ : M2} {S : St} (hR : zRCs u0 S) (hM : zRMs (ψ 1) S) (hF : zWFs S) {ix0 : Nat} (hix : ix0 < 2 ^ 31) : ∀ (d v pos F : Nat), v + d = 1000 → pos ≤ v → pos ≤ ix0 → d < F → ∃ r, L_X8_falseKey_4 N u0 η τ (nI ix0) F (nI pos) (nI v) φ = some (0, r, u0, φ, η, τ) ∧ L_X9_falseKey_9 N (nI ix0) F (nI (ix0 - pos)) (nI v) ψ = some (r, ψ) := by
  intro d
  induction d with
  | zero =>
    intro v pos F hv hp hp2 hk
    obtain ⟨F, rfl⟩ : ∃ j, F = j + 1 := ⟨F - 1, by omega⟩
    refine ⟨mI, ?_, ?_⟩
    · show B_X8_falseKey_4 N u0 η τ (nI ix0) _ (nI pos) (nI v) φ = _
      unfold B_X8_falseKey_4
      simp (disch := omega) only [zn_L, zn_M, zn_R]
      rw [if_pos (by omega)]
    · show B_X9_falseKey_9 N (nI ix0) _ _ (nI v) ψ = _
      unfold B_X9_falseKey_9
      simp (disch := omega) only [zn_L, zn_M, zn_R]
      rw [if_pos (by omega)]
  | succ d ih =>
    intro v pos F hv hp hp2 hk
    obtain ⟨F, rfl⟩ : ∃ j, F = j + 1 := ⟨F - 1, by omega⟩
    have hc := zc_isFalse hN (x := v) (by omega) hR hF
    have hm := zm_isFalse (ψ := ψ) hN (x := v) (by omega) hM.1 (zMc_w hM.2.1) hM.2.2.1 hM.2.2.2 hF
    have hcls : L_X8_falseKey_4 N u0 η τ (nI ix0) (F + 1) (nI pos) (nI v) φ = if (if fals S.1 S.2.1 S.2.2.1 S.2.2.2.1 S.2.2.2.2 v = true then nI 1 else nI 0) = nI 0 then L_X8_falseKey_4 N u0 η τ (nI ix0) F (nI pos) (nI (v + 1)) φ else if pos = ix0 then some (0, nI v, u0, φ, η, τ) else L_X8_falseKey_4 N u0 η τ (nI ix0) F (nI (pos + 1)) (nI (v + 1)) φ := by
      show B_X8_falseKey_4 N u0 η τ (nI ix0) _ (nI pos) (nI v) φ = _
      unfold B_X8_falseKey_4
      rw [hc]
      simp (disch := omega) only [zn_L, zn_M, zn_R]
      rw [if_neg (by omega)]
    have hmod : L_X9_falseKey_9 N (nI ix0) (F + 1) (nI (ix0 - pos)) (nI v) ψ = if (if fals S.1 S.2.1 S.2.2.1 S.2.2.2.1 S.2.2.2.2 v = true then nI 1 else nI 0) = nI 0 then L_X9_falseKey_9 N (nI ix0) F (nI (ix0 - pos)) (nI (v + 1)) ψ else if ix0 - pos = 0 then some (nI v, ψ) else L_X9_falseKey_9 N (nI ix0) F (nI (ix0 - pos) + mI) (nI (v + 1)) ψ := by
      show B_X9_falseKey_9 N (nI ix0) _ _ (nI v) ψ = _
      unfold B_X9_falseKey_9
      rw [hm]
      simp (disch := omega) only [zn_L, zn_M, zn_R]
      rw [if_neg (by omega), if_neg (by omega)]
    rw [hcls, hmod]
    cases fals S.1 S.2.1 S.2.2.1 S.2.2.2.1 S.2.2.2.2 v with
    | false =>
      rw [if_pos (show (if false = true then nI 1 else nI 0) = nI 0 from rfl), if_pos (show (if false = true then nI 1 else nI 0) = nI 0 from rfl)]
      exact ih (v + 1) pos F (by omega) (by omega) hp2 (by omega)
    | true =>
      rw [if_neg (show ¬ (if true = true then nI 1 else nI 0) = nI 0 from by decide), if_neg (show ¬ (if true = true then nI 1 else nI 0) = nI 0 from by decide)]
      by_cases g : pos = ix0
      · rw [if_pos g, if_pos (by omega)]
        exact ⟨nI v, rfl, rfl⟩
      · have e9 : nI (ix0 - pos) + mI = nI (ix0 - (pos + 1)) := by
          have h9 := sb_m1 (p := ix0 - pos) (by omega)
          rw [show ix0 - pos - 1 = ix0 - (pos + 1) by omega] at h9
          exact h9
        rw [if_neg g, if_neg (by omega), e9]
        obtain ⟨r, g1, g2⟩ := ih (v + 1) (pos + 1) F (by omega) (by omega) (by omega) (by omega)
        exact ⟨r, g1, g2⟩
theorem fk_neg {N : Nat} (hN : 5000 ≤ N) {u0 φ : M2} {η : HT} {τ : M2} {S : St} (hR : zRCs u0 S) (hF : zWFs S) {p1 : Int32} (hp : p1 < 0) : ∀ (d v pos F : Nat), v + d = 1000 → pos ≤ v → d < F → L_X8_falseKey_4 N u0 η τ p1 F (nI pos) (nI v) φ = some (0, mI, u0, φ, η, τ) := by
  have hpt : p1.toInt < 0 := by
    have := Int32.lt_iff_toInt_lt.mp hp
    have h0 : (0 : Int32).toInt = 0 := by decide
    omega
  intro d
  induction d with
  | zero =>
    intro v pos F hv hpv hk
    obtain ⟨F, rfl⟩ : ∃ j, F = j + 1 := ⟨F - 1, by omega⟩
    show B_X8_falseKey_4 N u0 η τ p1 _ (nI pos) (nI v) φ = _
    unfold B_X8_falseKey_4
    simp (disch := omega) only [zn_L, zn_M, zn_R]
    rw [if_pos (by omega)]
  | succ d ih =>
    intro v pos F hv hpv hk
    obtain ⟨F, rfl⟩ : ∃ j, F = j + 1 := ⟨F - 1, by omega⟩
    have hc := zc_isFalse hN (x := v) (by omega) hR hF
    have hne : ¬ nI pos = p1 := fun z => (zn_eq (a := pos) (by omega) hpt).1.mp z
    have hcls : L_X8_falseKey_4 N u0 η τ p1 (F + 1) (nI pos) (nI v) φ = if (if fals S.1 S.2.1 S.2.2.1 S.2.2.2.1 S.2.2.2.2 v = true then nI 1 else nI 0) = nI 0 then L_X8_falseKey_4 N u0 η τ p1 F (nI pos) (nI (v + 1)) φ else L_X8_falseKey_4 N u0 η τ p1 F (nI (pos + 1)) (nI (v + 1)) φ := by
      show B_X8_falseKey_4 N u0 η τ p1 _ (nI pos) (nI v) φ = _
      unfold B_X8_falseKey_4
      rw [hc]
      simp (disch := omega) only [zn_L, zn_M, zn_R]
      rw [if_neg (by omega), if_neg hne]
    rw [hcls]
    cases fals S.1 S.2.1 S.2.2.1 S.2.2.2.1 S.2.2.2.2 v with
    | false =>
      rw [if_pos (show (if false = true then nI 1 else nI 0) = nI 0 from rfl)]
      exact ih (v + 1) pos F (by omega) (by omega) (by omega)
    | true =>
      rw [if_neg (show ¬ (if true = true then nI 1 else nI 0) = nI 0 from by decide)]
      exact ih (v + 1) (pos + 1) F (by omega) (by omega) (by omega)
/-! what one slot tells -/
theorem bst_is {a : Option (Nat × Nat)} {p : Nat} {m : Option Nat} : (bst a p m).isSome = (a.isSome || m.isSome) := by
  cases m with
  | none =>
    rw [bst_no]
    cases a <;> rfl
  | some l =>
    cases a with
    | none => rfl
    | some y =>
      unfold bst
      rw [og_s, og_s]
      split <;> rfl
theorem plA_mono {P : Pm} {c c' : Ce} {x : Nat} (h : ∀ p, c' p = none ∨ c' p = c p) : ∀ i, (plA P c' x i).isSome = true → (plA P c x i).isSome = true := by
  intro i
  induction i with
  | zero =>
    intro z
    cases z
  | succ i ih =>
    intro z
    unfold plA at z ⊢
    rw [bst_is, Bool.or_eq_true] at z ⊢
    rcases z with z | z
    · exact Or.inl (ih z)
    · refine Or.inr ?_
      rcases h (plp P.2.1 (hm P.1 x P.2.2.2.1) (oth P.1 (hm P.1 x P.2.2.2.1) (tg x P.2.2.2.1)) i) with g | g
      · rw [g] at z
        cases z
      · rw [g] at z
        exact z
theorem plQ_mono {P : Pm} {c c' : Ce} {q : List En} {x : Nat} (h : ∀ p, c' p = none ∨ c' p = c p) : ∀ i, (plQ P c' q x i).isSome = true → (plQ P c q x i).isSome = true := by
  intro i
  induction i with
  | zero => exact plA_mono h _
  | succ i ih =>
    intro z
    unfold plQ at z ⊢
    rw [bst_is, Bool.or_eq_true] at z ⊢
    rcases z with z | z
    · exact Or.inl (ih z)
    · exact Or.inr z
theorem plc_is {P : Pm} {c : Ce} {q : List En} {x : Nat} : (plc P c q x).isSome = (plQ P c q x q.length).isSome := by
  unfold plc
  cases plQ P c q x q.length <;> rfl
theorem cnt_split (p q : Nat → Bool) (h : ∀ i, q i = true → p i = true) : ∀ n j, cnt p j n = cnt (fun i => p i && !q i) j n + cnt q j n := by
  intro n
  induction n with
  | zero =>
    intro j
    rfl
  | succ n ih =>
    intro j
    have := ih (j + 1)
    unfold cnt
    rw [this]
    cases hq : q j with
    | true =>
      rw [h j hq]
      show 1 + _ = (0 + _) + (1 + _)
      omega
    | false =>
      cases hp : p j with
      | true =>
        show 1 + _ = (1 + _) + (0 + _)
        omega
      | false =>
        show 0 + _ = (0 + _) + (0 + _)
        omega
section PK
variable {N : Nat}
theorem pq_24 (hN : 5000 ≤ N) : Pk24 N zRl := by
  intro u0 φ η τ ψ hv p1 hrel
  obtain ⟨S, V, X, ⟨hR, hM, hF⟩, hVV, hT⟩ := id hrel
  by_cases h0 : p1 < 0
  · have hc := fk_neg (φ := φ) (η := η) (τ := τ) hN hR hF h0 1000 0 0 N rfl (Nat.le_refl _) (by omega)
    refine ⟨0, mI, u0, φ, η, τ, mI, upd2 ψ 0 5 (nI 0), hc, rfl, ?_, rfl, zRl_5 hrel _⟩
    obtain ⟨k, rfl⟩ : ∃ j, N = j + 1 := ⟨N - 1, by omega⟩
    show B_X9_falseKey_9 (k + 1) p1 _ p1 (nI 0) (upd2 ψ 0 5 (nI 0)) = _
    unfold B_X9_falseKey_9
    rw [if_neg (by decide), if_pos h0]
    rfl
  · obtain ⟨i, hi, rfl⟩ := nI_of h0
    obtain ⟨r, g1, g2⟩ := fk_loop (φ := φ) (ψ := upd2 ψ 0 5 (nI 0)) (η := η) (τ := τ) hN hR (z5M hM (nI 0)) hF hi 1000 0 0 N rfl (Nat.le_refl _) (Nat.zero_le _) (by omega)
    exact ⟨0, r, u0, φ, η, τ, r, upd2 ψ 0 5 (nI 0), g1, rfl, g2, rfl, zRl_5 hrel _⟩
theorem pq_26 (hN : 5000 ≤ N) : Pk26 N zRl := by
  intro u0 φ η τ ψ hv hrel
  obtain ⟨S, V, X, ⟨hR, hM, hF⟩, hVV, hT⟩ := id hrel
  have hM5 := z5M hM (nI 0)
  have hm := zm_twins (ψ := upd2 ψ 0 5 (nI 0)) hN hM5.1 hM5.2.2.2 hF.1 hF.2.2.2
  refine ⟨0, nI (sumN (twn S.1 S.2.2.2.2) 0 S.2.2.2.1), u0, φ, η, τ, nI (sumN (twn S.1 S.2.2.2.2) 0 S.2.2.2.1), upd2 ψ 0 5 (nI 0), ?_, rfl, ?_, rfl, zRl_5 hrel _⟩
  · simp only [G_X8_twins, zn_L, zn_R, zc_twins hN hR.1 hR.2.2.2 hF.1 hF.2.2.2]
  · simp only [G_X9_twins, zn_L, zn_R, hm]
theorem pq_25 (hN : 5000 ≤ N) : Pk25 N zRl := by
  intro u0 φ η τ ψ hv p1 p2 hrel
  obtain ⟨S, V, X, ⟨hR, hM, hF⟩, hVV, hT⟩ := id hrel
  have h6 := p2_6 hF.1.1.2
  have hs := hF.1.2.1
  rcases zp_slot hR hM hF p1 p2 with ⟨u, k, hu, hk, rfl, rfl, k1, k2⟩ | ⟨k1, k2⟩
  · have hp : 4 * u + k < 256 := by omega
    obtain ⟨w1, a1, a2, a3⟩ := zc_copy hN φ hR hF
    have hF' : zWF S.1 (uC S.2.1 (4 * u + k) none) S.2.2.1 S.2.2.2.1 S.2.2.2.2 := ⟨hF.1, zWc_e hF.2.1, hF.2.2.1, hF.2.2.2⟩
    have hemp : G_X2_emptySlot w1 (nI u) (nI k) = some (upd2 w1 1 (4 * u + k) mI) := by
      unfold G_X2_emptySlot
      simp (disch := omega) only [zn_L, zn_M, zn_R, zc_place, zc_set]
    have hC4 : zCl (upd2 w1 1 (4 * u + k) mI) (uC S.2.1 (4 * u + k) none) := zCl_u a2.2.1 (4 * u + k) none
    have hP4 : zPm (upd2 w1 1 (4 * u + k) mI) S.1 := zPm_c a2.1 (upd2_o (by decide))
    have hS4 : zSt (upd2 w1 1 (4 * u + k) mI) S.2.2.1 := zSt_c a2.2.2.1 (upd2_o (by decide)) (upd2_o (by decide))
    have hmono : ∀ x, fals S.1 (uC S.2.1 (4 * u + k) none) S.2.2.1 S.2.2.2.1 S.2.2.2.2 x = true → fals S.1 S.2.1 S.2.2.1 S.2.2.2.1 S.2.2.2.2 x = true := by
      intro x hx
      unfold fals at hx ⊢
      rw [Bool.and_eq_true] at hx ⊢
      refine ⟨?_, hx.2⟩
      rw [plc_is] at hx ⊢
      refine plQ_mono (fun p => ?_) _ hx.1
      by_cases g : p = 4 * u + k
      · rw [g, uC_s]
        exact Or.inl rfl
      · exact Or.inr (uC_n g)
    have hcnt := cnt_split (fals S.1 S.2.1 S.2.2.1 S.2.2.2.1 S.2.2.2.2) (fals S.1 (uC S.2.1 (4 * u + k) none) S.2.2.1 S.2.2.2.1 S.2.2.2.2) hmono 1000 0
    have hloop := zn_cnt (fun k' m i => L_X8_blamed_31 N (upd2 w1 1 (4 * u + k) mI) u0 η τ k' (nI m) (nI i)) (fun x => fals S.1 S.2.1 S.2.2.1 S.2.2.2.1 S.2.2.2.2 x && !fals S.1 (uC S.2.1 (4 * u + k) none) S.2.2.1 S.2.2.2.1 S.2.2.2.2 x) 1000 nI (fun k' m i hi => ?_) (fun k' m => ?_) 1000 0 0 N (by omega) (by omega)
    · have hM5 := z5M hM (nI 0)
      have hall := zm_falseMany (ψ := upd2 ψ 0 5 (nI 0)) (a := 0) (b := 999) hN (by decide) (by decide) hM5.1 (zMc_w hM5.2.1) hM5.2.2.1 hM5.2.2.2 hF
      have hlo : ∀ i, i < 18 ∨ 1042 ≤ i → upd2 (upd2 ψ 0 5 (nI 0)) 1 (18 + 4 * (4 * u + k)) mI 1 i = upd2 ψ 0 5 (nI 0) 1 i := fun i hi => by rw [upd2_e, if_neg (by omega)]
      have hwo := zm_falseMany (ψ := upd2 (upd2 ψ 0 5 (nI 0)) 1 (18 + 4 * (4 * u + k)) mI) (P := S.1) (c := uC S.2.1 (4 * u + k) none) (q := S.2.2.1) (nk := S.2.2.2.1) (K := S.2.2.2.2) (a := 0) (b := 999) hN (by decide) (by decide) (zMp_c hM5.1 hlo) (fun p hp' => by
        obtain ⟨z0, z1⟩ := zMc_w hM5.2.1 p hp'
        by_cases g : p = 4 * u + k
        · subst g
          refine ⟨?_, fun e he => by rw [uC_s] at he; cases he⟩
          rw [upd2_e, if_pos ⟨rfl, rfl⟩, uC_s]
          rfl
        · refine ⟨?_, fun e he => ?_⟩
          · rw [upd2_e, if_neg (by omega), uC_n g]
            exact z0
          · rw [uC_n g] at he
            have hx9 : ∀ t, t ≠ 18 + 4 * (4 * u + k) → upd2 (upd2 ψ 0 5 (nI 0)) 1 (18 + 4 * (4 * u + k)) mI 1 t = upd2 ψ 0 5 (nI 0) 1 t := fun t ht => by rw [upd2_e, if_neg (fun z => ht z.2)]
            rw [hx9 _ (by omega), hx9 _ (by omega), hx9 _ (by omega)]
            exact z1 e he) (zMq_c hM5.2.2.1 hF.2.2.1.1 hlo) (zMk_c hM5.2.2.2 hlo) hF'
      have e999 : 999 + 1 - 0 = 1000 := rfl
      rw [e999] at hall hwo
      rw [Nat.zero_add] at hloop
      have hback : upd2 (upd2 (upd2 ψ 0 5 (nI 0)) 1 (18 + 4 * (4 * u + k)) mI) 1 (18 + 4 * (4 * u + k)) (upd2 ψ 0 5 (nI 0) 1 (18 + 4 * (4 * u + k))) 1 = ψ 1 := by
        funext i
        rw [upd2_e]
        by_cases g : i = 18 + 4 * (4 * u + k)
        · rw [if_pos ⟨rfl, g⟩, g, u51]
        · rw [if_neg (fun z => g z.2), upd2_e, if_neg (fun z => g z.2), u51]
      refine ⟨0, nI (cnt (fun x => fals S.1 S.2.1 S.2.2.1 S.2.2.2.1 S.2.2.2.2 x && !fals S.1 (uC S.2.1 (4 * u + k) none) S.2.2.1 S.2.2.2.1 S.2.2.2.2 x) 0 1000), u0, upd2 w1 1 (4 * u + k) mI, η, τ, nI (cnt (fun x => fals S.1 S.2.1 S.2.2.1 S.2.2.2.1 S.2.2.2.2 x && !fals S.1 (uC S.2.1 (4 * u + k) none) S.2.2.1 S.2.2.2.1 S.2.2.2.2 x) 0 1000), upd2 (upd2 (upd2 ψ 0 5 (nI 0)) 1 (18 + 4 * (4 * u + k)) mI) 1 (18 + 4 * (4 * u + k)) (upd2 ψ 0 5 (nI 0) 1 (18 + 4 * (4 * u + k))), ?_, Or.inl rfl, ?_, ?_, fun _ => rfl, zRl_f (φ := φ) (hv := hv) hrel hback ?_ ?_ ?_ ?_⟩
      · simp only [G_X8_blamed, zn_L, zn_M, zn_R, k1, zn_B, if_false, a1, a3, hemp, hloop]
      · unfold G_X9_blamed J_X9_blamed_15
        rw [k2]
        simp only [zn_L, zn_M, zn_R, zn_B, if_false, u55, if_true, zm_at, hall]
        simp (disch := omega) only [zn_in, nI_clamp, zn_R, hwo]
        rw [hcnt, Nat.add_sub_cancel]
      · rw [upd2_o (by decide), upd2_o (by decide)]
        exact u55 _ _
      · rw [upd2_o (by decide), upd2_o (by decide), upd2_o (by decide)]
      · rw [upd2_o (by decide), upd2_o (by decide), upd2_o (by decide)]
      · rw [upd2_o (by decide), upd2_o (by decide), upd2_e, if_neg (by decide)]
      · rw [upd2_o (by decide), upd2_o (by decide), upd2_e, if_neg (by decide)]
    · have hc := zc_isFalse hN (x := i) hi hR hF
      have hf := zc_finds (x := i) hN hi hP4 hC4 hS4 hF.1 hF'.2.1 hF.2.2.1
      show B_X8_blamed_31 N (upd2 w1 1 (4 * u + k) mI) u0 η τ _ (nI m) (nI i) = _
      unfold B_X8_blamed_31
      rw [hc]
      simp (disch := omega) only [zn_L, zn_M, zn_R, hf]
      rw [if_neg (by omega)]
      have hff : fals S.1 (uC S.2.1 (4 * u + k) none) S.2.2.1 S.2.2.2.1 S.2.2.2.2 i = ((plc S.1 (uC S.2.1 (4 * u + k) none) S.2.2.1 i).isSome && (ix S.2.2.2.1 S.2.2.2.2 i).isNone) := rfl
      cases ha : fals S.1 S.2.1 S.2.2.1 S.2.2.2.1 S.2.2.2.2 i with
      | false =>
        rw [if_pos (show (if false = true then nI 1 else nI 0) = nI 0 from rfl), Bool.false_and, if_neg Bool.false_ne_true]
      | true =>
        rw [if_neg (show ¬ (if true = true then nI 1 else nI 0) = nI 0 from by decide), Bool.true_and]
        have hn : (ix S.2.2.2.1 S.2.2.2.2 i).isNone = true := by
          unfold fals at ha
          rw [Bool.and_eq_true] at ha
          exact ha.2
        rw [hff, hn, Bool.and_true]
        cases (plc S.1 (uC S.2.1 (4 * u + k) none) S.2.2.1 i).isSome with
        | false => rfl
        | true => rfl
    · show B_X8_blamed_31 N (upd2 w1 1 (4 * u + k) mI) u0 η τ _ (nI m) (nI 1000) = _
      unfold B_X8_blamed_31
      simp (disch := omega) only [zn_L, zn_M, zn_R]
      rw [if_pos (by omega)]
  · refine ⟨3, nI 0, u0, φ, η, τ, nI 0, upd2 ψ 0 5 (nI 1), ?_, Or.inr rfl, ?_, u55 _ _, fun z => (by cases z), zRl_5 hrel _⟩
    · simp only [G_X8_blamed, zn_L, zn_R, k1, if_true]
    · unfold G_X9_blamed J_X9_blamed_15
      rw [k2]
      simp only [zn_L, zn_R, zn_B, if_false, u55, if_true]
end PK
