/-! the pure layer: lists of keys, adding a key -/
def ix (nk : Nat) (K : Nat → Nat) (x : Nat) : Option Nat := fnd (fun i => K i == x) 0 nk
def kput (K : Nat → Nat) (n x : Nat) : Nat → Nat := fun i => if i = n then x else K i
theorem ix_lt {nk : Nat} {K : Nat → Nat} {x i : Nat} (h : ix nk K x = some i) : i < nk ∧ K i = x := by
  obtain ⟨_, h2, h3, _⟩ := fnd_some h
  exact ⟨by omega, by simpa using h3⟩
theorem zc_ix {N : Nat} (hN : 5000 ≤ N) {φ : M2} {nk : Nat} {K : Nat → Nat} {x : Nat} (hx : x < 1000) (hK : zKy φ nk K) (hW : zWk nk K) : G_X4_indexOf N φ (nI x) = some (zn_g nI mI (ix nk K x)) := by
  have hn := hW.1
  unfold G_X4_indexOf ix
  refine zn_fnd (fun k i => L_X4_indexOf_2 N φ (nI x) k (nI i)) _ nk nI mI (fun k i hi => ?_) (fun k => ?_) nk 0 N (Nat.zero_add _) (by omega)
  · have hKi := (hW.2 i hi).1
    show B_X4_indexOf_2 N φ (nI x) _ (nI i) = _
    unfold B_X4_indexOf_2
    simp (disch := omega) only [zn_L, zn_M, zn_R, hK.1, hK.2 i hi]
    rw [if_neg (by omega), if_neg (by omega)]
    simp only [beq_iff_eq]
  · show B_X4_indexOf_2 N φ (nI x) _ (nI nk) = _
    unfold B_X4_indexOf_2
    simp (disch := omega) only [zn_L, zn_M, zn_R, hK.1]
    rw [if_pos (by omega)]
theorem zm_ix {N : Nat} (hN : 5000 ≤ N) {ψ : M2} {nk : Nat} {K : Nat → Nat} {x : Nat} (hx : x < 1000) (hK : zMk (ψ 1) nk K) (hW : zWk nk K) : G_X9_indexOf N ψ (nI x) = some (zn_g nI mI (ix nk K x)) := by
  have hn := hW.1
  unfold G_X9_indexOf ix
  refine zn_fnd (fun k i => L_X9_indexOf_2 N ψ (nI x) k (nI i)) _ nk nI mI (fun k i hi => ?_) (fun k => ?_) nk 0 N (Nat.zero_add _) (by omega)
  · have hKi := (hW.2 i hi).1
    show B_X9_indexOf_2 N ψ (nI x) _ (nI i) = _
    unfold B_X9_indexOf_2
    simp (disch := omega) only [zn_L, zn_M, zn_R, hK.1, hK.2 i hi]
    rw [if_neg (by omega)]
    simp only [beq_iff_eq]
  · show B_X9_indexOf_2 N ψ (nI x) _ (nI nk) = _
    unfold B_X9_indexOf_2
    simp (disch := omega) only [zn_L, zn_M, zn_R, hK.1]
    rw [if_pos (by omega)]
theorem zc_has {N : Nat} (hN : 5000 ≤ N) {φ : M2} {nk : Nat} {K : Nat → Nat} {x : Nat} (hx : x < 1000) (hK : zKy φ nk K) (hW : zWk nk K) : G_X4_has N φ (nI x) = some (og (fun _ => nI 1) (nI 0) (ix nk K x)) := by
  unfold G_X4_has
  simp (disch := omega) only [zn_L, zn_M, zn_R, zc_ix hN hx hK hW]
  have hn := hW.1
  cases hi : ix nk K x with
  | none => simp only [zn_g, if_true, og]
  | some i =>
    have := (ix_lt hi).1
    simp (disch := omega) only [zn_g, zn_R, if_false, og]
theorem zKy_put {φ : M2} {nk : Nat} {K : Nat → Nat} (h : zKy φ nk K) (x : Nat) : zKy (upd2 (upd2 φ 4 nk (nI x)) 3 1 (nI (nk + 1))) (nk + 1) (kput K nk x) := by
  refine ⟨by rw [upd2_e, if_pos ⟨rfl, rfl⟩], fun i hi => ?_⟩
  rw [upd2_o (by decide), upd2_e]
  unfold kput
  by_cases g : i = nk
  · rw [if_pos ⟨rfl, g⟩, if_pos g]
  · rw [if_neg (fun z => g z.2), if_neg g]
    exact h.2 i (by omega)
theorem zMk_put {ψ : M2} {P : Pm} {c : Ce} {q : List En} {nk : Nat} {K : Nat → Nat} (h : zRM (ψ 1) P c q nk K) (hq : q.length ≤ 3) (x : Nat) : zRM (upd2 (upd2 ψ 1 (1043 + nk) (nI x)) 1 1042 (nI (nk + 1)) 1) P c q (nk + 1) (kput K nk x) := by
  obtain ⟨h1, h2, h3, h4⟩ := h
  refine ⟨zMp_u (zMp_u h1 (by omega) _) (by omega) _, zMc_c h2 (fun i hi => ?_), ⟨?_, fun i e he => ?_⟩, ⟨?_, fun i hi => ?_⟩⟩
  · rw [upd2_e, if_neg (by omega), upd2_e, if_neg (by omega)]
  · rw [upd2_e, if_neg (by omega), upd2_e, if_neg (by omega)]
    exact h3.1
  · have hi := (List.getElem?_eq_some_iff.mp he).1
    have := h3.2 i e he
    simp only [upd2_e]
    refine ⟨?_, ?_, ?_, ?_⟩
    · rw [if_neg (by omega), if_neg (by omega)]
      exact this.1
    · rw [if_neg (by omega), if_neg (by omega)]
      exact this.2.1
    · rw [if_neg (by omega), if_neg (by omega)]
      exact this.2.2.1
    · rw [if_neg (by omega), if_neg (by omega)]
      exact this.2.2.2
  · rw [upd2_e, if_pos ⟨rfl, rfl⟩]
  · rw [upd2_e, if_neg (by omega), upd2_e]
    unfold kput
    by_cases g : i = nk
    · rw [if_pos ⟨rfl, by omega⟩, if_pos g]
    · rw [if_neg (fun z => g (by omega)), if_neg g]
      exact h4.2 i (by omega)
abbrev Sk : Type := Ce × List En × Nat × (Nat → Nat)
def addk (P : Pm) (c : Ce) (q : List En) (nk : Nat) (K : Nat → Nat) (x : Nat) : Option (Nat × Sk) :=
  og (fun _ => none) (if nk < 120 then og (fun y => some (y.1, y.2.1, y.2.2, nk + 1, kput K nk x)) none (insr P c q x) else none) (ix nk K x)
def zKo (φ' : M2) (P : Pm) (c : Ce) (q : List En) (nk : Nat) (K : Nat → Nat) (r : Int32) : Option (Nat × Sk) → Prop
  | some y => r = nI y.1 ∧ zRC φ' P y.2.1 y.2.2.1 y.2.2.2.1 y.2.2.2.2
  | none => r = mI ∧ zRC φ' P c q nk K
def zKm (ψ' : M2) (P : Pm) (c : Ce) (q : List En) (nk : Nat) (K : Nat → Nat) (r : Int32) : Option (Nat × Sk) → Prop
  | some y => r = nI y.1 ∧ zRM (ψ' 1) P y.2.1 y.2.2.1 y.2.2.2.1 y.2.2.2.2
  | none => r = mI ∧ zRM (ψ' 1) P c q nk K
theorem ix_no {nk : Nat} {K : Nat → Nat} {x : Nat} (h : ix nk K x = none) : ∀ i, i < nk → K i ≠ x := by
  intro i hi e
  have := fnd_none h i (Nat.zero_le _) (by omega)
  rw [e] at this
  simp at this
theorem zWk_put {nk : Nat} {K : Nat → Nat} {x : Nat} (h : zWk nk K) (hn : nk < 120) (hx : x < 1000) (hno : ix nk K x = none) : zWk (nk + 1) (kput K nk x) := by
  refine ⟨hn, fun i hi => ?_⟩
  unfold kput
  by_cases g : i = nk
  · rw [if_pos g]
    refine ⟨hx, fun j hj => ?_⟩
    rw [if_neg (by omega)]
    exact ix_no hno j (by omega)
  · rw [if_neg g]
    obtain ⟨h1, h2⟩ := h.2 i (by omega)
    refine ⟨h1, fun j hj => ?_⟩
    rw [if_neg (by omega)]
    exact h2 j hj
theorem addk_ok {P : Pm} {c : Ce} {q : List En} {nk : Nat} {K : Nat → Nat} {x : Nat} {y : Nat × Sk} (hx : x < 1000) (hW : zWF P c q nk K) (h : addk P c q nk K x = some y) : zWF P y.2.1 y.2.2.1 y.2.2.2.1 y.2.2.2.2 ∧ y.1 ≤ 100 := by
  unfold addk at h
  cases hi : ix nk K x with
  | some i =>
    rw [hi] at h
    cases h
  | none =>
    rw [hi, og_n] at h
    split at h
    · rename_i hn
      cases hz : insr P c q x with
      | none =>
        rw [hz] at h
        cases h
      | some z =>
        rw [hz, og_s] at h
        have e := Option.some.inj h
        subst e
        obtain ⟨⟨g1, g2, g3, g4⟩, g5⟩ := insr_ok hW hz
        exact ⟨⟨g1, g2, g3, zWk_put g4 hn hx hi⟩, g5⟩
    · cases h
theorem zc_addKey {N : Nat} (hN : 5000 ≤ N) {φ : M2} {P : Pm} {c : Ce} {q : List En} {nk : Nat} {K : Nat → Nat} {x : Nat} (hx : x < 1000) (hR : zRC φ P c q nk K) (hF : zWF P c q nk K) : ∃ r φ', G_X2_addKey N φ (nI x) = some (r, φ') ∧ zKo φ' P c q nk K r (addk P c q nk K x) := by
  have hn := hF.2.2.2.1
  have hhas := zc_has hN hx hR.2.2.2 hF.2.2.2
  unfold addk
  cases hi : ix nk K x with
  | some i =>
    rw [hi] at hhas
    refine ⟨mI, φ, ?_, rfl, hR⟩
    unfold G_X2_addKey
    simp (disch := omega) only [zn_L, zn_M, zn_R, hhas, og]
    rw [if_neg (by omega)]
  | none =>
    rw [hi] at hhas
    rcases Nat.lt_or_ge nk 120 with hl | hl
    · obtain ⟨r, w, g1, g2, g3⟩ := zc_insert hN hx hR hF
      have hfull : G_X4_isFull φ = nI 0 := by
        unfold G_X4_isFull
        simp (disch := omega) only [zn_L, zn_M, zn_R, hR.2.2.2.1]
        rw [if_pos hl]
      rw [og_n, if_pos hl]
      cases hz : insr P c q x with
      | none =>
        rw [hz] at g2
        obtain ⟨e1, g2⟩ := g2
        subst e1
        refine ⟨mI, w, ?_, rfl, g2⟩
        unfold G_X2_addKey
        simp (disch := omega) only [zn_L, zn_M, zn_R, hhas, og, hfull, if_true, g1]
      | some z =>
        rw [hz] at g2
        obtain ⟨e1, g2⟩ := g2
        subst e1
        obtain ⟨g21, g22, g23, g24⟩ := g2
        have hz100 := (insr_ok hF hz).2
        refine ⟨nI z.1, upd2 (upd2 w 4 nk (nI x)) 3 1 (nI (nk + 1)), ?_, rfl, zPm_c g21 (by rw [upd2_o (by decide), upd2_o (by decide)]), zCl_c g22 (by rw [upd2_o (by decide), upd2_o (by decide)]), zSt_c g23 (by rw [upd2_o (by decide), upd2_o (by decide)]) (by rw [upd2_o (by decide), upd2_o (by decide)]), zKy_put g24 x⟩
        have hput : G_X4_put w (nI x) = some (upd2 (upd2 w 4 nk (nI x)) 3 1 (nI (nk + 1))) := by
          unfold G_X4_put
          simp (disch := omega) only [zn_L, zn_M, zn_R, g24.1]
          rw [if_neg (by omega), if_neg (by omega)]
          have q1 : upd2 w 4 nk (nI x) 3 1 = nI nk := by
            rw [upd2_o (by decide)]
            exact g24.1
          simp only [q1, zn_R]
        unfold G_X2_addKey
        simp (disch := omega) only [zn_L, zn_M, zn_R, hhas, og, hfull, if_true, if_false, g1, hput]
    · rw [og_n, if_neg (by omega)]
      have hfull : G_X4_isFull φ = nI 1 := by
        unfold G_X4_isFull
        simp (disch := omega) only [zn_L, zn_M, zn_R, hR.2.2.2.1]
        rw [if_neg (by omega)]
      refine ⟨mI, φ, ?_, rfl, hR⟩
      unfold G_X2_addKey
      simp (disch := omega) only [zn_L, zn_M, zn_R, hhas, og, hfull, if_true]
      rw [if_neg (by omega)]
theorem zm_mayAdd {N : Nat} (hN : 5000 ≤ N) {ψ : M2} {nk : Nat} {K : Nat → Nat} {x : Nat} (hx : x < 1000) (hK : zMk (ψ 1) nk K) (hW : zWk nk K) : G_X9_mayAdd N ψ (nI x) = some (og (fun _ => nI 0) (if nk < 120 then nI 1 else nI 0) (ix nk K x)) := by
  have hn := hW.1
  unfold G_X9_mayAdd
  simp (disch := omega) only [zn_L, zn_M, zn_R, zm_ix hN hx hK hW, hK.1]
  cases hi : ix nk K x with
  | none =>
    simp only [zn_g, if_true, og]
    rcases Nat.lt_or_ge nk 120 with hl | hl
    · rw [if_neg (by omega), if_pos hl]
    · rw [if_pos hl, if_neg (by omega)]
  | some i =>
    have := (ix_lt hi).1
    simp (disch := omega) only [zn_g, zn_R, if_false, og]
theorem zm_noteKey {ψ : M2} {nk : Nat} (h : ψ 1 1042 = nI nk) (hn : nk < 120) (x : Nat) : G_X9_noteKey ψ (nI x) = some (upd2 (upd2 ψ 1 (1043 + nk) (nI x)) 1 1042 (nI (nk + 1))) := by
  unfold G_X9_noteKey
  simp (disch := omega) only [zn_L, zn_M, zn_R, h]
  have q1 : upd2 ψ 1 (1043 + nk) (nI x) 1 1042 = nI nk := by
    rw [upd2_e, if_neg (by omega)]
    exact h
  simp only [q1, zn_R]
theorem zm_tryAdd {N : Nat} (hN : 5000 ≤ N) {ψ : M2} {P : Pm} {c : Ce} {q : List En} {nk : Nat} {K : Nat → Nat} {x : Nat} (hx : x < 1000) (hR : zRM (ψ 1) P c q nk K) (hF : zWF P c q nk K) : ∃ r ψ', G_X9_tryAdd N ψ (nI x) = some (r, ψ') ∧ zKm ψ' P c q nk K r (addk P c q nk K x) ∧ zFr ψ ψ' := by
  have hn := hF.2.2.2.1
  have hmay := zm_mayAdd hN hx hR.2.2.2 hF.2.2.2
  unfold addk
  cases hi : ix nk K x with
  | some i =>
    rw [hi] at hmay
    refine ⟨mI, ψ, ?_, ⟨rfl, hR⟩, zFr_r ψ⟩
    unfold G_X9_tryAdd
    simp (disch := omega) only [zn_L, zn_M, zn_R, hmay, og, if_true]
  | none =>
    rw [hi] at hmay
    rcases Nat.lt_or_ge nk 120 with hl | hl
    · obtain ⟨r, w, g1, g2, g3, g4⟩ := zm_addEntry hN hx hR hF
      rw [og_n, if_pos hl]
      rw [og_n, if_pos hl] at hmay
      cases hz : insr P c q x with
      | none =>
        rw [hz] at g2
        obtain ⟨e1, g2⟩ := g2
        subst e1
        refine ⟨mI, w, ?_, ⟨rfl, g2⟩, g4⟩
        unfold G_X9_tryAdd
        simp (disch := omega) only [zn_L, zn_M, zn_R, hmay, g1, if_true]
        rw [if_neg (by omega)]
      | some z =>
        rw [hz] at g2
        obtain ⟨e1, g2⟩ := g2
        subst e1
        have hz100 := (insr_ok hF hz).2
        have hput := zm_noteKey g2.2.2.2.1 hl x
        refine ⟨nI z.1, upd2 (upd2 w 1 (1043 + nk) (nI x)) 1 1042 (nI (nk + 1)), ?_, ⟨rfl, zMk_put g2 (insr_ok hF hz).1.2.2.1.1 x⟩, zFr_u (zFr_u g4 rfl _) rfl _⟩
        unfold G_X9_tryAdd
        simp (disch := omega) only [zn_L, zn_M, zn_R, hmay, g1, if_false, hput]
        rw [if_neg (by omega)]
    · rw [og_n, if_neg (by omega)]
      rw [og_n, if_neg (by omega)] at hmay
      refine ⟨mI, ψ, ?_, ⟨rfl, hR⟩, zFr_r ψ⟩
      unfold G_X9_tryAdd
      simp (disch := omega) only [zn_L, zn_M, zn_R, hmay, if_true]
