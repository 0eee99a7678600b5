/-! the pure layer: the model reads commands -/
def dg : Nat → Nat → Nat → List Nat → Nat × Nat × Nat × List Nat
  | st, nu, j, [] => (st, nu, j, [])
  | st, nu, j, v :: l => if isD v = true ∧ st ≤ 3 then dg (st + 1) (nu * 10 + (v - 48)) (j + 1) l else (st, nu, j, v :: l)
theorem dg_y {st nu j v : Nat} {l : List Nat} (h : isD v = true ∧ st ≤ 3) : dg st nu j (v :: l) = dg (st + 1) (nu * 10 + (v - 48)) (j + 1) l := by
  conv => lhs; unfold dg
  rw [if_pos h]
theorem dg_n {st nu j v : Nat} {l : List Nat} (h : ¬ (isD v = true ∧ st ≤ 3)) : dg st nu j (v :: l) = (st, nu, j, v :: l) := by
  conv => lhs; unfold dg
  rw [if_neg h]
theorem dg_all {X : List Nat} {sg : Nat} : ∀ (l : List Nat) (st nu j : Nat), st ≠ 0 → inv st sg nu → zTl X j l → ep st j l = ep (dg st nu j l).1 (dg st nu j l).2.2.1 (dg st nu j l).2.2.2 ∧ cm sg nu l = cm sg (dg st nu j l).2.1 (dg st nu j l).2.2.2 ∧ (dg st nu j l).1 ≠ 0 ∧ inv (dg st nu j l).1 sg (dg st nu j l).2.1 ∧ zTl X (dg st nu j l).2.2.1 (dg st nu j l).2.2.2 ∧ st + (dg st nu j l).2.2.1 = (dg st nu j l).1 + j ∧ j ≤ (dg st nu j l).2.2.1 ∧ (∀ v l', (dg st nu j l).2.2.2 = v :: l' → ¬ (isD v = true ∧ (dg st nu j l).1 ≤ 3)) ∧ (dg st nu j l).2.2.2.length ≤ l.length := by
  intro l
  induction l with
  | nil =>
    intro st nu j h0 hi hl
    exact ⟨rfl, rfl, h0, hi, hl, rfl, Nat.le_refl _, fun v l' h => (by cases h), Nat.le_refl _⟩
  | cons v l ih =>
    intro st nu j h0 hi hl
    by_cases h : isD v = true ∧ st ≤ 3
    · rw [dg_y h]
      have hdv := isD_iff.mp h.1
      obtain ⟨a1, a2, a3, a4, a5, a6, a7, a8, a9⟩ := ih (st + 1) (nu * 10 + (v - 48)) (j + 1) (Nat.succ_ne_zero _) (inv_d hi h0 h.2 hdv) (zTl_c hl).2.2
      refine ⟨?_, ?_, a3, a4, a5, by omega, by omega, a8, by show _ ≤ l.length + 1; omega⟩
      · rw [← a1]
        have hn : nx st v = some (st + 1) := by
          unfold nx
          rw [if_neg h0, if_neg (by omega), if_pos h]
        show og (fun st' => ep st' (j + 1) l) (some j) (nx st v) = _
        rw [hn, og_s]
      · rw [← a2]
        conv => lhs; unfold cm
        rw [if_neg (by omega), if_pos h.1]
    · rw [dg_n h]
      refine ⟨rfl, rfl, h0, hi, hl, rfl, Nat.le_refl _, fun v' l' e => ?_, Nat.le_refl _⟩
      have e := List.cons.inj e
      rw [← e.1]
      exact h
theorem upd2_same {ψ : M2} {c i : Nat} {v : Int32} (h : ψ c i = v) : upd2 ψ c i v = ψ := by
  funext c' i'
  rw [upd2_e]
  by_cases g : c' = c ∧ i' = i
  · rw [if_pos g, g.1, g.2, h]
  · rw [if_neg g]
theorem upd2_twice (ψ : M2) (c i : Nat) (a b : Int32) : upd2 (upd2 ψ c i a) c i b = upd2 ψ c i b := by
  funext c' i'
  rw [upd2_e, upd2_e, upd2_e]
  by_cases g : c' = c ∧ i' = i
  · rw [if_pos g, if_pos g]
  · rw [if_neg g, if_neg g, if_neg g]
theorem zTx_24 {τ ψ : M2} {X : List Nat} (h : zTx τ ψ X) (v : Int32) : zTx τ (upd2 ψ 0 24 v) X := zTx_g h (upd2_o (by decide)) (by rw [upd2_e, if_neg (by decide)])
theorem zm_here {τ ψ : M2} {X l : List Nat} {j : Nat} (hT : zTx τ ψ X) (h24 : ψ 0 24 = nI j) (hl : zTl X j l) : G_X9_here ψ = some (match l with
  | [] => mI
  | v :: _ => nI v) := by
  obtain ⟨t1, t2, t3, t4⟩ := hT
  have hj := hl.2
  unfold G_X9_here
  cases l with
  | nil =>
    have := zTl_n hl
    simp (disch := omega) only [zn_L, zn_M, zn_R, t3, h24]
    rw [if_pos (by omega)]
  | cons v l =>
    obtain ⟨h1, h2, h3⟩ := zTl_c hl
    simp (disch := omega) only [zn_L, zn_M, zn_R, t3, h24, (t4 j v h1).2.2]
    rw [if_neg (by omega)]
theorem zm_in {v : Nat} (hv : v < 128) : G_X9_in (nI v) (nI 48) (nI 57) = if isD v = true then nI 1 else nI 0 := zc_isD hv
theorem zm_inm : G_X9_in mI (nI 48) (nI 57) = nI 0 := by decide
theorem zm_dloop {N : Nat} {τ : M2} {X : List Nat} {v1 : Int32} (h42 : ¬ v1 = nI 42) {b : Nat} : ∀ (l : List Nat) (st nu j : Nat) (ψ : M2) (F : Nat), zTx τ ψ X → zTl X j l → ψ 0 24 = nI j → b + st = j + 1 → 1 ≤ st → st ≤ 4 → l.length < F → L_X9_readCommand_42 N v1 (nI b) F (nI nu) ψ = some (nI (dg st nu j l).2.1, upd2 ψ 0 24 (nI (dg st nu j l).2.2.1)) := by
  intro l
  induction l with
  | nil =>
    intro st nu j ψ F hT hl h24 hb h1 h4 hF
    obtain ⟨F, rfl⟩ : ∃ j, F = j + 1 := ⟨F - 1, by simp at hF; omega⟩
    have hh := zm_here hT h24 hl
    have hj := hl.2
    have t1 := hT.1
    show B_X9_readCommand_42 N v1 (nI b) _ (nI nu) ψ = some (nI nu, upd2 ψ 0 24 (nI j))
    rw [upd2_same h24]
    unfold B_X9_readCommand_42
    rw [hh]
    simp (disch := omega) only [zn_L, zn_M, zn_R, h24, zm_inm, if_true]
    rw [if_neg h42]
    split <;> rfl
  | cons v l ih =>
    intro st nu j ψ F hT hl h24 hb h1 h4 hF
    obtain ⟨F, rfl⟩ : ∃ j, F = j + 1 := ⟨F - 1, by simp at hF; omega⟩
    have hh := zm_here hT h24 hl
    have hh : G_X9_here ψ = some (nI v) := hh
    have hj := hl.2
    have t1 := hT.1
    obtain ⟨c1, c2, c3⟩ := zTl_c hl
    have hv := (hT.2.2.2 j v c1).1
    have hstep : L_X9_readCommand_42 N v1 (nI b) (F + 1) (nI nu) ψ = if b + 3 ≤ j then some (nI nu, ψ) else if (if isD v = true then nI 1 else nI 0) = nI 0 then some (nI nu, ψ) else L_X9_readCommand_42 N v1 (nI b) F (nI 10 * nI nu + nI v - nI 48) (upd2 ψ 0 24 (nI (j + 1))) := by
      show B_X9_readCommand_42 N v1 (nI b) _ (nI nu) ψ = _
      unfold B_X9_readCommand_42
      rw [hh]
      simp (disch := omega) only [zn_L, zn_R, h24, zm_in hv]
      rw [if_neg h42]
    rw [hstep]
    by_cases g : isD v = true ∧ st ≤ 3
    · have hdv := isD_iff.mp g.1
      rw [dg_y g, if_neg (by omega), g.1, if_neg (show ¬ (if true = true then nI 1 else nI 0) = nI 0 from by decide)]
      have e9 : nI 10 * nI nu + nI v - nI 48 = nI (nu * 10 + (v - 48)) := by
        rw [pk_mul, nI_add, pk_sub (by omega), show 10 * nu + v - 48 = nu * 10 + (v - 48) by omega]
      rw [e9, ih (st + 1) _ (j + 1) _ F (zTx_24 hT _) c3 (by rw [upd2_e, if_pos ⟨rfl, rfl⟩]) (by omega) (by omega) (by omega) (by simp at hF; omega), upd2_twice]
    · rw [dg_n g]
      have e0 : upd2 ψ 0 24 (nI j) = ψ := upd2_same h24
      show _ = some (nI nu, upd2 ψ 0 24 (nI j))
      rw [e0]
      by_cases g2 : b + 3 ≤ j
      · rw [if_pos g2]
      · rw [if_neg g2]
        cases hd : isD v with
        | true => exact absurd ⟨hd, by omega⟩ g
        | false => rw [if_pos (show (if false = true then nI 1 else nI 0) = nI 0 from rfl)]
def rdC (ψ : M2) (n c nu j : Nat) : M2 := upd2 (upd2 (upd2 (upd2 ψ 0 24 (nI (j + 1))) 16 n (nI c)) 17 n (nI nu)) 0 25 (nI (n + 1))
theorem zm_j112 {N : Nat} {τ ψ : M2} {X l : List Nat} {n c nu j : Nat} (hT : zTx τ ψ X) (h24 : ψ 0 24 = nI j) (h25 : ψ 0 25 = nI n) (hn : n < 50) (hl : zTl X j l) : J_X9_readCommand_112 N ψ (nI c) (nI nu) = if l.head? = some 59 then some (nI 1, rdC ψ n c nu j) else some (nI 0, ψ) := by
  have hh := zm_here hT h24 hl
  unfold J_X9_readCommand_112
  rw [hh]
  cases l with
  | nil =>
    simp only [zn_L, zn_R]
    rw [if_neg (by decide)]
    rfl
  | cons v l =>
    obtain ⟨c1, c2, c3⟩ := zTl_c hl
    have hv := (hT.2.2.2 j v c1).1
    simp only [zn_R]
    by_cases g : v = 59
    · rw [if_pos (show nI v = 59 from by rw [g]; rfl), if_pos (show (v :: l).head? = some 59 from by rw [g]; rfl)]
      have a1 : upd2 ψ 0 24 (nI (j + 1)) 0 25 = nI n := by rw [upd2_e, if_neg (by decide)]; exact h25
      have a2 : upd2 (upd2 ψ 0 24 (nI (j + 1))) 16 n (nI c) 0 25 = nI n := by rw [upd2_o (by decide)]; exact a1
      have a3 : upd2 (upd2 (upd2 ψ 0 24 (nI (j + 1))) 16 n (nI c)) 17 n (nI nu) 0 25 = nI n := by rw [upd2_o (by decide)]; exact a2
      simp (disch := omega) only [zn_L, zn_R, h24, a1, a2, a3]
      rfl
    · rw [if_neg (show ¬ nI v = 59 from fun z => g ((nI_eq (b := 59) (by omega) (by decide)).mp z)), if_neg (show ¬ (v :: l).head? = some 59 from fun z => g (Option.some.inj z))]
      rfl
/-- one command -/
theorem zm_rcmd {N : Nat} (hN : 5000 ≤ N) {τ ψ : M2} {X l : List Nat} {n c i : Nat} (hT : zTx τ ψ X) (h24 : ψ 0 24 = nI i) (h25 : ψ 0 25 = nI n) (hn : n < 50) (hl : zTl X i (c :: l)) : G_X9_readCommand N ψ = if c = 42 ∨ c = 43 ∨ c = 45 then (if 1 < (dg (if c = 42 then 4 else 1) 0 (i + 1) l).1 ∧ (dg (if c = 42 then 4 else 1) 0 (i + 1) l).2.2.2.head? = some 59 then some (nI 1, rdC ψ n c (dg (if c = 42 then 4 else 1) 0 (i + 1) l).2.1 (dg (if c = 42 then 4 else 1) 0 (i + 1) l).2.2.1) else some (nI 0, upd2 ψ 0 24 (nI (dg (if c = 42 then 4 else 1) 0 (i + 1) l).2.2.1))) else some (nI 0, ψ) := by
  obtain ⟨c1, c2, c3⟩ := zTl_c hl
  have hv := (hT.2.2.2 i c c1).1
  have t1 := hT.1
  have hh : G_X9_here ψ = some (nI c) := zm_here hT h24 hl
  have hT2 := zTx_24 hT (nI (i + 1))
  have h24' : upd2 ψ 0 24 (nI (i + 1)) 0 24 = nI (i + 1) := by rw [upd2_e, if_pos ⟨rfl, rfl⟩]
  have hlen : l.length ≤ 100 := by
    have h9 := c3.1
    have : (X.drop (i + 1)).length = l.length := by rw [h9]
    rw [List.length_drop] at this
    omega
  unfold G_X9_readCommand
  rw [hh]
  by_cases h42 : c = 42
  · subst h42
    have ed : dg 4 0 (i + 1) l = (4, 0, i + 1, l) := by
      cases l with
      | nil => rfl
      | cons v l => exact dg_n (fun z => by omega)
    have hloop : L_X9_readCommand_42 N (nI 42) (nI (i + 1)) N (nI 0) (upd2 ψ 0 24 (nI (i + 1))) = some (nI 0, upd2 ψ 0 24 (nI (i + 1))) := by
      obtain ⟨k, rfl⟩ : ∃ j, N = j + 1 := ⟨N - 1, by omega⟩
      show B_X9_readCommand_42 (k + 1) (nI 42) (nI (i + 1)) _ (nI 0) _ = _
      unfold B_X9_readCommand_42
      rw [if_pos (by decide)]
    have h112 := zm_j112 (N := N) (c := 42) (nu := 0) hT2 h24' (show upd2 ψ 0 24 (nI (i + 1)) 0 25 = nI n by rw [upd2_e, if_neg (by decide)]; exact h25) hn c3
    rw [if_pos (Or.inl rfl), if_pos rfl, ed]
    simp only [zn_R, h24]
    rw [if_neg (by decide), if_neg (by decide), if_pos (by decide)]
    simp only [zn_L, zn_R, h24', hloop]
    unfold J_X9_readCommand_98
    rw [if_pos (by decide), h112]
    have er : rdC (upd2 ψ 0 24 (nI (i + 1))) n 42 0 (i + 1) = rdC ψ n 42 0 (i + 1) := by
      unfold rdC
      rw [upd2_twice]
    rw [er]
    by_cases g : l.head? = some 59
    · rw [if_pos g, if_pos ⟨by decide, g⟩]
    · rw [if_neg g, if_neg (fun z => g z.2)]
  · have main : c = 43 ∨ c = 45 → (obd2 (L_X9_readCommand_42 N (nI c) (nI (i + 1)) N (nI 0) (upd2 ψ 0 24 (nI (i + 1)))) fun y12 w13 => J_X9_readCommand_98 N w13 (nI c) (nI (i + 1)) y12) = (if 1 < (dg 1 0 (i + 1) l).1 ∧ (dg 1 0 (i + 1) l).2.2.2.head? = some 59 then some (nI 1, rdC ψ n c (dg 1 0 (i + 1) l).2.1 (dg 1 0 (i + 1) l).2.2.1) else some (nI 0, upd2 ψ 0 24 (nI (dg 1 0 (i + 1) l).2.2.1))) := by
      intro hc
      have hne : ¬ nI c = nI 42 := fun z => h42 ((nI_eq (by omega) (by decide)).mp z)
      have hloop := zm_dloop (N := N) hne (b := i + 1) l 1 0 (i + 1) (upd2 ψ 0 24 (nI (i + 1))) N hT2 c3 h24' rfl (by decide) (by decide) (by omega)
      rw [hloop, obd2_s, upd2_twice]
      obtain ⟨a1, a2, a3, a4, a5, a6, a7, a8, a9⟩ := dg_all (X := X) (sg := c) l 1 0 (i + 1) (by decide) (inv_1 hc) c3
      have hjl := a5.2
      have hrd : upd2 ψ 0 24 (nI (dg 1 0 (i + 1) l).2.2.1) 0 24 = nI (dg 1 0 (i + 1) l).2.2.1 := by rw [upd2_e, if_pos ⟨rfl, rfl⟩]
      unfold J_X9_readCommand_98
      rw [if_neg (show ¬ nI c = 42 from hne), hrd]
      by_cases g : (dg 1 0 (i + 1) l).1 = 1
      · rw [if_pos (show nI (dg 1 0 (i + 1) l).2.2.1 = nI (i + 1) from by rw [show (dg 1 0 (i + 1) l).2.2.1 = i + 1 by omega]), if_neg (fun z => by omega)]
        rfl
      · rw [if_neg (show ¬ nI (dg 1 0 (i + 1) l).2.2.1 = nI (i + 1) from fun z => by rw [nI_eq (by omega) (by omega)] at z; omega)]
        have h112 := zm_j112 (N := N) (c := c) (nu := (dg 1 0 (i + 1) l).2.1) (zTx_24 hT (nI (dg 1 0 (i + 1) l).2.2.1)) hrd (show upd2 ψ 0 24 _ 0 25 = nI n by rw [upd2_e, if_neg (by decide)]; exact h25) hn a5
        rw [h112]
        have er : rdC (upd2 ψ 0 24 (nI (dg 1 0 (i + 1) l).2.2.1)) n c (dg 1 0 (i + 1) l).2.1 (dg 1 0 (i + 1) l).2.2.1 = rdC ψ n c (dg 1 0 (i + 1) l).2.1 (dg 1 0 (i + 1) l).2.2.1 := by
          unfold rdC
          rw [upd2_twice]
        rw [er]
        by_cases g2 : (dg 1 0 (i + 1) l).2.2.2.head? = some 59
        · rw [if_pos g2, if_pos ⟨by omega, g2⟩]
        · rw [if_neg g2, if_neg (fun z => g2 z.2)]
    rw [if_neg h42]
    simp only [zn_R, h24]
    by_cases h43 : c = 43
    · rw [if_pos (show nI c = 43 from by rw [h43]; rfl), if_pos (show c = 42 ∨ c = 43 ∨ c = 45 from Or.inr (Or.inl h43))]
      simp only [zn_L, zn_R, h24']
      exact main (Or.inl h43)
    · rw [if_neg (show ¬ nI c = 43 from fun z => h43 ((nI_eq (b := 43) (by omega) (by decide)).mp z))]
      by_cases h45 : c = 45
      · rw [if_pos (show nI c = 45 from by rw [h45]; rfl), if_pos (show c = 42 ∨ c = 43 ∨ c = 45 from Or.inr (Or.inr h45))]
        simp only [zn_L, zn_R, h24']
        exact main (Or.inr h45)
      · rw [if_neg (show ¬ nI c = 45 from fun z => h45 ((nI_eq (b := 45) (by omega) (by decide)).mp z)), if_neg (show ¬ nI c = 42 from fun z => h42 ((nI_eq (b := 42) (by omega) (by decide)).mp z)), if_neg (show ¬ (c = 42 ∨ c = 43 ∨ c = 45) by omega)]
        rfl
