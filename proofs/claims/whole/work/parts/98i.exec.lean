/-! the pure layer: texts as commands -/
def isD (v : Nat) : Bool := decide (48 ≤ v) && decide (v ≤ 57)
def nx (st v : Nat) : Option Nat := if st = 0 then (if v = 42 then some 4 else if v = 43 ∨ v = 45 then some 1 else none) else if v = 59 ∧ 1 < st then some 0 else if isD v = true ∧ st ≤ 3 then some (st + 1) else none
def ep : Nat → Nat → List Nat → Option Nat
  | st, i, [] => if st = 0 then none else some i
  | st, i, v :: l => og (fun st' => ep st' (i + 1) l) (some i) (nx st v)
def cm : Nat → Nat → List Nat → List (Nat × Nat)
  | _, _, [] => []
  | sg, nu, v :: l => if v = 59 then (sg, nu) :: cm sg nu l else if isD v = true then cm sg (nu * 10 + (v - 48)) l else cm v 0 l
theorem isD_iff {v : Nat} : (isD v = true) ↔ (48 ≤ v ∧ v ≤ 57) := by
  unfold isD
  rw [Bool.and_eq_true, decide_eq_true_eq, decide_eq_true_eq]
theorem zc_isD {v : Nat} (hv : v < 128) : G_X6_isDigit (nI v) = if isD v = true then nI 1 else nI 0 := by
  unfold G_X6_isDigit
  simp (disch := omega) only [zn_L, zn_R, isD_iff]
  by_cases h1 : v < 48
  · rw [if_pos h1, if_neg (by omega)]
  · rw [if_neg h1]
    by_cases h2 : 57 < v
    · rw [if_pos h2, if_neg (by omega)]
    · rw [if_neg h2, if_pos (by omega)]
theorem zc_nx {st v : Nat} (hs : st ≤ 4) (hv : v < 128) : G_X6_stateAfter (nI st) (nI v) = zn_g nI mI (nx st v) := by
  have hd := zc_isD hv
  have hJ : J_X6_stateAfter_43 (nI st) (nI v) = zn_g nI mI (if isD v = true ∧ st ≤ 3 then some (st + 1) else none) := by
    unfold J_X6_stateAfter_43
    rw [hd]
    cases h : isD v with
    | true =>
      rw [if_pos rfl]
      simp (disch := omega) only [zn_L, zn_M, zn_R]
      rw [if_neg (by omega)]
      by_cases g : 3 < st
      · rw [if_pos g, if_neg (by omega)]
        rfl
      · rw [if_neg g, if_pos ⟨trivial, by omega⟩]
        rfl
    | false =>
      rw [if_neg Bool.false_ne_true]
      simp only [zn_L, zn_M, zn_R, if_true]
      rw [if_neg (fun z => by simp at z)]
      rfl
  unfold G_X6_stateAfter nx
  rw [hJ]
  simp (disch := omega) only [zn_L, zn_M, zn_R]
  by_cases h0 : st = 0
  · rw [if_pos h0, if_pos h0]
    by_cases h1 : v = 42
    · rw [if_pos h1, if_pos h1]
      rfl
    · rw [if_neg h1, if_neg h1]
      by_cases h2 : v = 43
      · rw [if_pos h2, if_pos (Or.inl h2)]
        rfl
      · rw [if_neg h2]
        by_cases h3 : v = 45
        · rw [if_pos h3, if_pos (Or.inr h3)]
          rfl
        · rw [if_neg h3, if_neg (by omega)]
          rfl
  · rw [if_neg h0, if_neg h0]
    by_cases h1 : v = 59
    · rw [if_pos h1]
      by_cases h2 : st ≤ 1
      · rw [if_pos h2, if_neg (show ¬ (v = 59 ∧ 1 < st) by omega)]
      · rw [if_neg h2, if_pos ⟨h1, by omega⟩]
        rfl
    · rw [if_neg h1, if_neg (show ¬ (v = 59 ∧ 1 < st) by omega)]
theorem nx_le {st v st' : Nat} (hs : st ≤ 4) (h : nx st v = some st') : st' ≤ 4 := by
  unfold nx at h
  split at h
  · split at h
    · have := Option.some.inj h
      omega
    · split at h
      · have := Option.some.inj h
        omega
      · cases h
  · split at h
    · have := Option.some.inj h
      omega
    · split at h
      · rename_i g
        have := Option.some.inj h
        omega
      · cases h
/-- a text from a place on -/
def zTl (X : List Nat) (i : Nat) (l : List Nat) : Prop := X.drop i = l ∧ i ≤ X.length
theorem zTl_c {X : List Nat} {i v : Nat} {l : List Nat} (h : zTl X i (v :: l)) : X[i]? = some v ∧ i < X.length ∧ zTl X (i + 1) l := by
  obtain ⟨h1, h2⟩ := h
  have hlt : i < X.length := by
    rcases Nat.lt_or_ge i X.length with g | g
    · exact g
    · rw [List.drop_eq_nil_of_le g] at h1
      cases h1
  have e1 := List.drop_eq_getElem_cons hlt
  rw [h1] at e1
  have e2 := List.cons.inj e1
  refine ⟨by rw [List.getElem?_eq_getElem hlt, e2.1], hlt, e2.2.symm, hlt⟩
theorem zTl_n {X : List Nat} {i : Nat} (h : zTl X i []) : i = X.length := by
  have := List.drop_eq_nil_iff.mp h.1
  have := h.2
  omega
theorem zc_byte {τ ψ : M2} {X : List Nat} (hT : zTx τ ψ X) {i v : Nat} (h : X[i]? = some v) : G_X6_byteAt τ (nI i) = some (nI v) := by
  have hi := (List.getElem?_eq_some_iff.mp h).1
  obtain ⟨t1, t2, t3, t4⟩ := hT
  unfold G_X6_byteAt
  simp (disch := omega) only [zn_L, zn_R, t2, (t4 i v h).2.1]
  rw [if_neg (by omega), if_neg (by omega), if_neg (by omega)]
theorem zc_ep {N : Nat} (hN : 5000 ≤ N) {τ ψ : M2} {X : List Nat} (hT : zTx τ ψ X) : ∀ (l : List Nat) (st i F : Nat), st ≤ 4 → zTl X i l → l.length < F → L_X6_errorPosition_4 N τ F (nI st) (nI i) = some (zn_g nI mI (ep st i l)) := by
  obtain ⟨t1, t2, t3, t4⟩ := id hT
  intro l
  induction l with
  | nil =>
    intro st i F hs hl hF
    obtain ⟨F, rfl⟩ : ∃ j, F = j + 1 := ⟨F - 1, by simp at hF; omega⟩
    have hi := zTl_n hl
    show B_X6_errorPosition_4 N τ _ (nI st) (nI i) = _
    unfold B_X6_errorPosition_4 ep
    simp (disch := omega) only [zn_L, zn_M, zn_R, t2]
    rw [if_pos (by omega)]
    by_cases g : st = 0
    · rw [if_pos g, if_pos g]
      rfl
    · rw [if_neg g, if_neg g, hi]
      rfl
  | cons v l ih =>
    intro st i F hs hl hF
    obtain ⟨F, rfl⟩ : ∃ j, F = j + 1 := ⟨F - 1, by simp at hF; omega⟩
    obtain ⟨h1, h2, h3⟩ := zTl_c hl
    have hv := (t4 i v h1).1
    show B_X6_errorPosition_4 N τ _ (nI st) (nI i) = _
    unfold B_X6_errorPosition_4 ep
    simp (disch := omega) only [zn_L, zn_M, zn_R, t2, zc_byte hT h1, zc_nx hs hv]
    rw [if_neg (by omega)]
    cases hn : nx st v with
    | none =>
      rw [if_pos (show zn_g nI mI none = mI from rfl)]
      rfl
    | some st' =>
      have hs' := nx_le hs hn
      rw [if_neg (show ¬ zn_g nI mI (some st') = mI from fun z => (zn_mi (a := st') (by omega)).1.mp z)]
      exact ih st' (i + 1) F hs' h3 (by simp at hF; omega)
/-! one command carried out -/
def pf (S : St) (a : Nat × Nat) : Option St :=
  if a.1 = 43 then og (fun y => some (S.1, y.2)) none (addk S.1 S.2.1 S.2.2.1 S.2.2.2.1 S.2.2.2.2 a.2) else if a.1 = 45 then og (fun y => some (S.1, y.2)) none (delk S.1 S.2.1 S.2.2.1 S.2.2.2.1 S.2.2.2.2 a.2) else if cg S.1 S.2.1 S.2.2.1 = true then some (up1 S.1, (gro S.1 S.2.1 S.2.2.1).2.1, (gro S.1 S.2.1 S.2.2.1).2.2, S.2.2.2) else none
theorem pf_ok {S S' : St} {a : Nat × Nat} (ha : a.2 < 1000) (hF : zWFs S) (h : pf S a = some S') : zWFs S' := by
  unfold pf at h
  split at h
  · cases hy : addk S.1 S.2.1 S.2.2.1 S.2.2.2.1 S.2.2.2.2 a.2 with
    | none =>
      rw [hy] at h
      cases h
    | some y =>
      rw [hy, og_s] at h
      have := Option.some.inj h
      subst this
      exact (addk_ok ha hF hy).1
  · split at h
    · cases hy : delk S.1 S.2.1 S.2.2.1 S.2.2.2.1 S.2.2.2.2 a.2 with
      | none =>
        rw [hy] at h
        cases h
      | some y =>
        rw [hy, og_s] at h
        have := Option.some.inj h
        subst this
        exact (delk_ok hF hy).1
    · split at h
      · rename_i hg
        have := Option.some.inj h
        subst this
        exact gro_ok hF hg
      · cases h
def zPo (w : M2) (r : Int32) : Option St → Prop
  | some S' => ¬ r = mI ∧ zRCs w S'
  | none => r = mI
def zPd (ψ' : M2) (r : Int32) : Option St → Prop
  | some S' => ¬ r = nI 0 ∧ zRMs (ψ' 1) S'
  | none => r = nI 0
theorem zc_perform {N : Nat} (hN : 5000 ≤ N) {φ : M2} {S : St} {a : Nat × Nat} (hR : zRCs φ S) (hF : zWFs S) (ha : a.2 < 1000) (h1 : a.1 < 128) : ∃ r w, G_X2_perform N φ (nI a.1) (nI a.2) = some (r, w) ∧ zPo w r (pf S a) := by
  unfold G_X2_perform pf
  simp (disch := omega) only [zn_L, zn_R]
  by_cases g : a.1 = 43
  · rw [if_pos g, if_pos g]
    obtain ⟨r, w, b1, b2⟩ := zc_addKey hN ha hR hF
    refine ⟨r, w, by rw [b1]; rfl, ?_⟩
    cases hy : addk S.1 S.2.1 S.2.2.1 S.2.2.2.1 S.2.2.2.2 a.2 with
    | none =>
      rw [hy] at b2
      exact b2.1
    | some y =>
      rw [hy] at b2
      have hl := (addk_ok ha hF hy).2
      refine ⟨?_, b2.2⟩
      rw [b2.1]
      exact fun z => (zn_mi (a := y.1) (by omega)).1.mp z
  · rw [if_neg g, if_neg g]
    by_cases g2 : a.1 = 45
    · rw [if_pos g2, if_pos g2]
      obtain ⟨r, w, b1, b2⟩ := zc_deleteKey hN ha hR hF
      refine ⟨r, w, by rw [b1]; rfl, ?_⟩
      cases hy : delk S.1 S.2.1 S.2.2.1 S.2.2.2.1 S.2.2.2.2 a.2 with
      | none =>
        rw [hy] at b2
        exact b2.1
      | some y =>
        rw [hy] at b2
        have hl := (delk_ok hF hy).2
        refine ⟨?_, b2.2⟩
        rw [b2.1]
        exact fun z => (zn_mi (a := y.1) (by omega)).1.mp z
    · rw [if_neg g2, if_neg g2]
      cases hg : cg S.1 S.2.1 S.2.2.1 with
      | false => exact ⟨mI, φ, by rw [zc_double_n hN hR hF hg]; rfl, rfl⟩
      | true =>
        obtain ⟨w, b1, b2⟩ := zc_double hN hR hF hg
        have h7 : 2 ^ (S.1.1 + 1) ≤ 64 := p2_6 (by have := (cg_l1 hF.1 hF.2.1 hg).1; omega)
        exact ⟨_, w, by rw [b1]; rfl, fun z => (zn_mi (by omega)).1.mp z, b2⟩
theorem zm_does {N : Nat} (hN : 5000 ≤ N) {ψ : M2} {S : St} {a : Nat × Nat} {k : Nat} (hk : k < 50) (hM : zRMs (ψ 1) S) (hF : zWFs S) (ha : a.2 < 1000) (h1 : a.1 = 42 ∨ a.1 = 43 ∨ a.1 = 45) (h16 : ψ 16 k = nI a.1) (h17 : ψ 17 k = nI a.2) : ∃ r ψ', G_X9_does N ψ (nI k) = some (r, ψ') ∧ zPd ψ' r (pf S a) ∧ zFr ψ ψ' := by
  unfold G_X9_does pf
  simp (disch := omega) only [zn_L, zn_M, zn_R, h16, h17]
  by_cases g : a.1 = 43
  · rw [if_pos g, if_pos g]
    obtain ⟨r, w, b1, b2, b3⟩ := zm_tryAdd (ψ := ψ) hN ha hM hF
    rw [b1]
    cases hy : addk S.1 S.2.1 S.2.2.1 S.2.2.2.1 S.2.2.2.2 a.2 with
    | none =>
      rw [hy] at b2
      refine ⟨nI 0, w, ?_, rfl, b3⟩
      rw [obd2_s, if_pos b2.1]
    | some y =>
      rw [hy] at b2
      have hl := (addk_ok ha hF hy).2
      refine ⟨nI 1, w, ?_, ⟨by decide, b2.2⟩, b3⟩
      rw [obd2_s, if_neg (by rw [b2.1]; exact fun z => (zn_mi (a := y.1) (by omega)).1.mp z)]
  · rw [if_neg g, if_neg g]
    by_cases g2 : a.1 = 42
    · rw [if_pos g2, if_neg (show ¬ a.1 = 45 by omega), zm_cg hN hM.1 hM.2.1 hM.2.2.1 hF.1 hF.2.1 hF.2.2.1]
      cases hg : cg S.1 S.2.1 S.2.2.1 with
      | false => exact ⟨nI 0, ψ, rfl, rfl, zFr_r ψ⟩
      | true =>
        obtain ⟨w, b1, b2, b3⟩ := zm_grows (ψ := ψ) hN hM hF hg
        refine ⟨nI 1, w, ?_, ⟨by decide, b2⟩, b3⟩
        rw [obd_s, if_neg (by decide), b1]
        rfl
    · rw [if_neg g2, if_pos (show a.1 = 45 by omega)]
      have hix := zm_ix (ψ := ψ) hN ha hM.2.2.2 hF.2.2.2
      have hn := hF.2.2.2.1
      cases hi : ix S.2.2.2.1 S.2.2.2.2 a.2 with
      | none =>
        rw [hi] at hix
        have hd : delk S.1 S.2.1 S.2.2.1 S.2.2.2.1 S.2.2.2.2 a.2 = none := by
          unfold delk
          rw [hi, og_n]
        rw [hd, hix]
        exact ⟨nI 0, ψ, rfl, rfl, zFr_r ψ⟩
      | some j =>
        rw [hi] at hix
        have hj := (ix_lt hi).1
        obtain ⟨y, w, e1, e2, e3, e4⟩ := zm_deletes (ψ := ψ) hN ha hi hM hF
        have hl := (delk_ok hF e1).2
        rw [e1, hix]
        refine ⟨nI 1, w, ?_, ⟨by decide, e3⟩, e4⟩
        have e2' : G_X9_deletes N ψ (nI a.2) (zn_g nI mI (some j)) = some (nI y.1, w) := e2
        rw [obd_s, if_neg (show ¬ zn_g nI mI (some j) = mI from fun z => (zn_mi (a := j) (by omega)).1.mp z), e2', obd2_s, if_neg (by rw [nI_ltI (by omega) (by decide)]; omega)]
def rn : List (Nat × Nat) → St → Nat → Option St × Nat
  | [], S, n => (some S, n)
  | a :: l, S, n => og (fun S' => rn l S' (n + 1)) (none, n) (pf S a)
theorem rn_s {a : Nat × Nat} {l : List (Nat × Nat)} {S S' : St} {n : Nat} (h : pf S a = some S') : rn (a :: l) S n = rn l S' (n + 1) := by
  conv => lhs; unfold rn
  rw [h, og_s]
theorem rn_n {a : Nat × Nat} {l : List (Nat × Nat)} {S : St} {n : Nat} (h : pf S a = none) : rn (a :: l) S n = (none, n) := by
  conv => lhs; unfold rn
  rw [h, og_n]
def inv (st sg nu : Nat) : Prop := st = 0 ∨ (st ≤ 4 ∧ (sg = 42 ∨ sg = 43 ∨ sg = 45) ∧ nu < 10 ^ (st - 1))
theorem ep_c {st i v : Nat} {l : List Nat} (h : ep st i (v :: l) = none) : ∃ st', nx st v = some st' ∧ ep st' (i + 1) l = none := by
  unfold ep at h
  cases hn : nx st v with
  | none =>
    rw [hn] at h
    cases h
  | some st' =>
    rw [hn] at h
    exact ⟨st', rfl, h⟩
theorem inv_1 {sg : Nat} (h : sg = 43 ∨ sg = 45) : inv 1 sg 0 := Or.inr ⟨by decide, Or.inr h, by decide⟩
theorem inv_4 : inv 4 42 0 := Or.inr ⟨by decide, Or.inl rfl, by decide⟩
theorem inv_d {st sg nu v : Nat} (h : inv st sg nu) (h0 : st ≠ 0) (h3 : st ≤ 3) (hv : 48 ≤ v ∧ v ≤ 57) : inv (st + 1) sg (nu * 10 + (v - 48)) := by
  rcases h with h | ⟨h1, h2, h4⟩
  · exact absurd h h0
  · refine Or.inr ⟨by omega, h2, ?_⟩
    have hc : st = 1 ∨ st = 2 ∨ st = 3 := by omega
    rcases hc with e | e | e
    · subst e
      have : nu < 1 := h4
      show nu * 10 + (v - 48) < 10
      omega
    · subst e
      have : nu < 10 := h4
      show nu * 10 + (v - 48) < 100
      omega
    · subst e
      have : nu < 100 := h4
      show nu * 10 + (v - 48) < 1000
      omega
theorem inv_k {st sg nu : Nat} (h : inv st sg nu) (h0 : st ≠ 0) : nu < 1000 ∧ sg < 128 ∧ (sg = 42 ∨ sg = 43 ∨ sg = 45) := by
  rcases h with h | ⟨h1, h2, h4⟩
  · exact absurd h h0
  · have : 10 ^ (st - 1) ≤ 10 ^ 3 := Nat.pow_le_pow_right (by decide) (by omega)
    refine ⟨by omega, by omega, h2⟩
def zXo {N : Nat} (u0 : M2) (η : HT) (τ : M2) (R : Option (Nat × Int32 × M2 × M2 × HT × M2)) : Option St × Nat → Prop
  | (some S', m) => ∃ w, zRCs w S' ∧ zWFs S' ∧ R = obd3 (G_X8_accept N u0 w η) fun w7 w8 e9 => some (0, nI m, w7, w8, e9, τ)
  | (none, m) => ∃ w, R = some (0, -nI 1000 - nI m, u0, w, η, τ)
theorem zc_xloop {N : Nat} (hN : 5000 ≤ N) {u0 : M2} {η : HT} {τ ψ : M2} {X : List Nat} (hT : zTx τ ψ X) : ∀ (l : List Nat) (st i sg nu n : Nat) (S : St) (φ : M2) (F : Nat), zTl X i l → ep st i l = none → inv st sg nu → zRCs φ S → zWFs S → l.length < F → zXo (N := N) u0 η τ (L_X8_execute_39 N u0 η τ F (nI n) (nI sg) (nI nu) (nI i) φ) (rn (cm sg nu l) S n) := by
  obtain ⟨t1, t2, t3, t4⟩ := id hT
  intro l
  induction l with
  | nil =>
    intro st i sg nu n S φ F hl hep hinv hR hF hk
    obtain ⟨F, rfl⟩ : ∃ j, F = j + 1 := ⟨F - 1, by simp at hk; omega⟩
    have hi := zTl_n hl
    refine ⟨φ, hR, hF, ?_⟩
    show B_X8_execute_39 N u0 η τ _ (nI n) (nI sg) (nI nu) (nI i) φ = _
    unfold B_X8_execute_39 G_X6_size
    simp (disch := omega) only [zn_R, t2]
    rw [if_pos (by omega)]
  | cons v l ih =>
    intro st i sg nu n S φ F hl hep hinv hR hF hk
    obtain ⟨F, rfl⟩ : ∃ j, F = j + 1 := ⟨F - 1, by simp at hk; omega⟩
    have hk' : l.length < F := by simp at hk; omega
    obtain ⟨h1, h2, h3⟩ := zTl_c hl
    obtain ⟨st', hn, hep'⟩ := ep_c hep
    have hv := (t4 i v h1).1
    have hcls : L_X8_execute_39 N u0 η τ (F + 1) (nI n) (nI sg) (nI nu) (nI i) φ = if v = 59 then (obd2 (G_X2_perform N φ (nI sg) (nI nu)) fun r17 w15 => if r17 = mI then some (0, -nI 1000 - nI n, u0, w15, η, τ) else L_X8_execute_39 N u0 η τ F (nI (n + 1)) (nI sg) (nI nu) (nI (i + 1)) w15) else if G_X6_isDigit (nI v) = nI 0 then L_X8_execute_39 N u0 η τ F (nI n) (nI v) (nI 0) (nI (i + 1)) φ else L_X8_execute_39 N u0 η τ F (nI n) (nI sg) (nI nu * nI 10 + (nI v - nI 48)) (nI (i + 1)) φ := by
      show B_X8_execute_39 N u0 η τ _ (nI n) (nI sg) (nI nu) (nI i) φ = _
      unfold B_X8_execute_39 G_X6_size
      simp (disch := omega) only [zn_R, t2, zc_byte hT h1]
      rw [if_neg (by omega)]
      by_cases g : v = 59
      · rw [if_pos g, if_pos (show nI v = 59 from by rw [g]; rfl)]
        simp only [zn_L, zn_M, zn_add1]
      · rw [if_neg g, if_neg (show ¬ nI v = 59 from fun z => g ((nI_eq (b := 59) (by omega) (by decide)).mp z))]
        simp only [zn_L, zn_add1, pk_mul]
    rw [hcls, zc_isD hv]
    by_cases g : v = 59
    · have h0 : st ≠ 0 := by
        intro z
        subst z
        subst g
        have e0 : nx 0 59 = none := by decide
        rw [e0] at hn
        cases hn
      obtain ⟨k1, k2, k3⟩ := inv_k hinv h0
      have hst' : st' = 0 := by
        unfold nx at hn
        rw [if_neg h0] at hn
        split at hn
        · exact (Option.some.inj hn).symm
        · split at hn
          · rename_i z
            have := isD_iff.mp z.1
            omega
          · cases hn
      subst hst'
      have ecm : cm sg nu (v :: l) = (sg, nu) :: cm sg nu l := by
        conv => lhs; unfold cm
        rw [if_pos g]
      obtain ⟨r, w, b1, b2⟩ := zc_perform (a := (sg, nu)) hN hR hF k1 k2
      have b1 : G_X2_perform N φ (nI sg) (nI nu) = some (r, w) := b1
      rw [if_pos g, b1, ecm, obd2_s]
      cases hp : pf S (sg, nu) with
      | none =>
        rw [hp] at b2
        have b2 : r = mI := b2
        rw [rn_n hp, if_pos b2]
        exact ⟨w, rfl⟩
      | some S' =>
        rw [hp] at b2
        rw [rn_s hp, if_neg b2.1]
        exact ih 0 (i + 1) sg nu (n + 1) S' w F h3 hep' (Or.inl rfl) b2.2 (pf_ok k1 hF hp) hk'
    · rw [if_neg g]
      cases hd : isD v with
      | true =>
        have hdv := isD_iff.mp hd
        have h03 : st ≠ 0 ∧ st ≤ 3 ∧ st' = st + 1 := by
          unfold nx at hn
          split at hn
          · split at hn
            · omega
            · split at hn
              · omega
              · cases hn
          · rename_i h0
            split at hn
            · omega
            · split at hn
              · rename_i z
                exact ⟨h0, z.2, (Option.some.inj hn).symm⟩
              · cases hn
        obtain ⟨h0, h33, hst'⟩ := h03
        subst hst'
        have ecm : cm sg nu (v :: l) = cm sg (nu * 10 + (v - 48)) l := by
          conv => lhs; unfold cm
          rw [if_neg g, if_pos hd]
        rw [if_neg (show ¬ (if true = true then nI 1 else nI 0) = nI 0 from by decide), ecm, pk_mul, pk_sub hdv.1, nI_add]
        exact ih (st + 1) (i + 1) sg _ n S φ F h3 hep' (inv_d hinv h0 h33 hdv) hR hF hk'
      | false =>
        have ecm : cm sg nu (v :: l) = cm v 0 l := by
          conv => lhs; unfold cm
          rw [if_neg g, if_neg (by rw [hd]; exact Bool.false_ne_true)]
        have hi : inv st' v 0 := by
          unfold nx at hn
          split at hn
          · split at hn
            · rename_i z
              have := Option.some.inj hn
              subst this
              subst z
              exact inv_4
            · split at hn
              · rename_i z
                have := Option.some.inj hn
                subst this
                exact inv_1 z
              · cases hn
          · split at hn
            · rename_i z
              exact absurd z.1 g
            · split at hn
              · rename_i z
                rw [hd] at z
                exact absurd z.1 Bool.false_ne_true
              · cases hn
        rw [if_pos (show (if false = true then nI 1 else nI 0) = nI 0 from rfl), ecm]
        exact ih st' (i + 1) v 0 n S φ F h3 hep' hi hR hF hk'
