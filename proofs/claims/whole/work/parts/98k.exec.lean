/-! the pure layer: execution in the model -/
def zKp (ψ ψ' : M2) : Prop := ψ' 1 = ψ 1 ∧ ψ' 2 = ψ 2 ∧ ψ' 3 = ψ 3 ∧ ψ' 0 2 = ψ 0 2 ∧ ψ' 0 4 = ψ 0 4 ∧ ψ' 0 5 = ψ 0 5
theorem zKp_r (ψ : M2) : zKp ψ ψ := ⟨rfl, rfl, rfl, rfl, rfl, rfl⟩
theorem zKp_t {ψ ψ' ψ'' : M2} (h : zKp ψ ψ') (g : zKp ψ' ψ'') : zKp ψ ψ'' := ⟨g.1.trans h.1, g.2.1.trans h.2.1, g.2.2.1.trans h.2.2.1, g.2.2.2.1.trans h.2.2.2.1, g.2.2.2.2.1.trans h.2.2.2.2.1, g.2.2.2.2.2.trans h.2.2.2.2.2⟩
theorem zKp_24 (ψ : M2) (v : Int32) : zKp ψ (upd2 ψ 0 24 v) := ⟨upd2_o (by decide), upd2_o (by decide), upd2_o (by decide), by rw [upd2_e, if_neg (by decide)], by rw [upd2_e, if_neg (by decide)], by rw [upd2_e, if_neg (by decide)]⟩
theorem zKp_c (ψ : M2) (n c nu j : Nat) : zKp ψ (rdC ψ n c nu j) := by
  unfold rdC
  refine ⟨?_, ?_, ?_, ?_, ?_, ?_⟩
  · rw [upd2_o (by decide), upd2_o (by decide), upd2_o (by decide), upd2_o (by decide)]
  · rw [upd2_o (by decide), upd2_o (by decide), upd2_o (by decide), upd2_o (by decide)]
  · rw [upd2_o (by decide), upd2_o (by decide), upd2_o (by decide), upd2_o (by decide)]
  · rw [upd2_e, if_neg (by decide), upd2_o (by decide), upd2_o (by decide), upd2_e, if_neg (by decide)]
  · rw [upd2_e, if_neg (by decide), upd2_o (by decide), upd2_o (by decide), upd2_e, if_neg (by decide)]
  · rw [upd2_e, if_neg (by decide), upd2_o (by decide), upd2_o (by decide), upd2_e, if_neg (by decide)]
theorem zTx_k {τ ψ ψ' : M2} {X : List Nat} (h : zTx τ ψ X) (k : zKp ψ ψ') : zTx τ ψ' X := zTx_g h k.2.2.1 k.2.2.2.2.1
theorem zm_ra {N : Nat} (hN : 5000 ≤ N) {τ : M2} {X : List Nat} : ∀ (m : Nat) (l : List Nat) (i n : Nat) (ψ : M2) (F sg nu : Nat), l.length ≤ m → zTl X i l → zTx τ ψ X → ψ 0 24 = nI i → ψ 0 25 = nI n → 2 * n ≤ i → m + 1 < F → ∃ ψ', L_X9_readAll_12 N F (nI 1) ψ = some (bI (ep 0 i l).isNone, ψ') ∧ zKp ψ ψ' ∧ (∀ e, ep 0 i l = some e → ψ' 0 24 = nI e) ∧ (ep 0 i l = none → ψ' 0 25 = nI (n + (cm sg nu l).length) ∧ 2 * (n + (cm sg nu l).length) ≤ X.length ∧ (∀ k, k < n → ψ' 16 k = ψ 16 k ∧ ψ' 17 k = ψ 17 k) ∧ ∀ (k : Nat) (a : Nat × Nat), (cm sg nu l)[k]? = some a → ψ' 16 (n + k) = nI a.1 ∧ ψ' 17 (n + k) = nI a.2) := by
  intro m
  induction m with
  | zero =>
    intro l i n ψ F sg nu hlm hl hT h24 h25 h2n hF
    have e : l = [] := List.eq_nil_of_length_eq_zero (by omega)
    subst e
    obtain ⟨F, rfl⟩ : ∃ j, F = j + 1 := ⟨F - 1, by omega⟩
    have hi := zTl_n hl
    have t1 := hT.1
    refine ⟨ψ, ?_, zKp_r ψ, fun e he => (by cases he), fun _ => ⟨h25, by show 2 * (n + 0) ≤ X.length; omega, fun k _ => ⟨rfl, rfl⟩, fun k a h => (by simp [cm] at h)⟩⟩
    show B_X9_readAll_12 N _ (nI 1) ψ = some (nI 1, ψ)
    unfold B_X9_readAll_12
    rw [if_neg (by decide)]
    simp (disch := omega) only [zn_R, hT.2.2.1, h24]
    rw [if_pos (by omega)]
  | succ m ih =>
    intro l i n ψ F sg nu hlm hl hT h24 h25 h2n hF
    cases l with
    | nil => exact ih [] i n ψ F sg nu (Nat.zero_le _) hl hT h24 h25 h2n (by omega)
    | cons c l =>
      obtain ⟨F, rfl⟩ : ∃ j, F = j + 1 := ⟨F - 1, by omega⟩
      obtain ⟨c1, c2, c3⟩ := zTl_c hl
      have t1 := hT.1
      have hlm' : l.length ≤ m := by simp at hlm; omega
      have hcmd := zm_rcmd hN hT h24 h25 (by omega) hl
      have hstep : L_X9_readAll_12 N (F + 1) (nI 1) ψ = obd2 (G_X9_readCommand N ψ) fun r5 w3 => L_X9_readAll_12 N F r5 w3 := by
        show B_X9_readAll_12 N _ (nI 1) ψ = _
        unfold B_X9_readAll_12
        rw [if_neg (by decide)]
        simp (disch := omega) only [zn_R, hT.2.2.1, h24]
        rw [if_neg (by omega)]
      have hend : ∀ w, L_X9_readAll_12 N F (nI 0) w = some (nI 0, w) := by
        intro w
        obtain ⟨F, rfl⟩ : ∃ j, F = j + 1 := ⟨F - 1, by omega⟩
        show B_X9_readAll_12 N _ (nI 0) w = _
        unfold B_X9_readAll_12
        rw [if_pos (by decide)]
      rw [hstep, hcmd]
      by_cases hc : c = 42 ∨ c = 43 ∨ c = 45
      · rw [if_pos hc]
        have hst : inv (if c = 42 then 4 else 1) c 0 := by
          by_cases h42 : c = 42
          · rw [if_pos h42, h42]
            exact inv_4
          · rw [if_neg h42]
            exact inv_1 (by omega)
        have hst0 : (if c = 42 then 4 else 1) ≠ 0 := by split <;> decide
        have hnx : nx 0 c = some (if c = 42 then 4 else 1) := by
          unfold nx
          rw [if_pos rfl]
          by_cases h42 : c = 42
          · rw [if_pos h42, if_pos h42]
          · rw [if_neg h42, if_neg h42, if_pos (by omega)]
        have hep : ep 0 i (c :: l) = ep (if c = 42 then 4 else 1) (i + 1) l := by
          show og (fun st' => ep st' (i + 1) l) (some i) (nx 0 c) = _
          rw [hnx, og_s]
        have hcm : cm sg nu (c :: l) = cm c 0 l := by
          conv => lhs; unfold cm
          rw [if_neg (by omega), if_neg (fun z => by have := isD_iff.mp z; omega)]
        obtain ⟨a1, a2, a3, a4, a5, a6, a7, a8, a9⟩ := dg_all (X := X) (sg := c) l (if c = 42 then 4 else 1) 0 (i + 1) hst0 hst c3
        rw [hep, hcm, a1, a2]
        generalize dg (if c = 42 then 4 else 1) 0 (i + 1) l = D at *
        obtain ⟨st', nu', j', l'⟩ := D
        dsimp only at *
        by_cases hgo : 1 < st' ∧ l'.head? = some 59
        · rw [if_pos hgo, obd2_s]
          cases l' with
          | nil => exact absurd hgo.2 (by simp)
          | cons v l' =>
            have hv59 : v = 59 := Option.some.inj hgo.2
            obtain ⟨d1, d2, d3⟩ := zTl_c a5
            have hll : l'.length ≤ m := by simp at a9; omega
            have hep2 : ep st' j' (v :: l') = ep 0 (j' + 1) l' := by
              have hn2 : nx st' v = some 0 := by
                unfold nx
                rw [if_neg a3, if_pos ⟨hv59, hgo.1⟩]
              show og (fun s' => ep s' (j' + 1) l') (some j') (nx st' v) = _
              rw [hn2, og_s]
            have hcm2 : cm c nu' (v :: l') = (c, nu') :: cm c nu' l' := by
              conv => lhs; unfold cm
              rw [if_pos hv59]
            have hw24 : rdC ψ n c nu' j' 0 24 = nI (j' + 1) := by
              unfold rdC
              rw [upd2_e, if_neg (by decide), upd2_o (by decide), upd2_o (by decide), upd2_e, if_pos ⟨rfl, rfl⟩]
            have hw25 : rdC ψ n c nu' j' 0 25 = nI (n + 1) := by
              unfold rdC
              rw [upd2_e, if_pos ⟨rfl, rfl⟩]
            have hw16 : ∀ k, rdC ψ n c nu' j' 16 k = if k = n then nI c else ψ 16 k := by
              intro k
              unfold rdC
              rw [upd2_o (by decide), upd2_o (by decide), upd2_e, upd2_o (by decide)]
              by_cases g : k = n
              · rw [if_pos ⟨rfl, g⟩, if_pos g]
              · rw [if_neg (fun z => g z.2), if_neg g]
            have hw17 : ∀ k, rdC ψ n c nu' j' 17 k = if k = n then nI nu' else ψ 17 k := by
              intro k
              unfold rdC
              rw [upd2_o (by decide), upd2_e, upd2_o (by decide), upd2_o (by decide)]
              by_cases g : k = n
              · rw [if_pos ⟨rfl, g⟩, if_pos g]
              · rw [if_neg (fun z => g z.2), if_neg g]
            obtain ⟨ψ', g1, g2, g3, g4⟩ := ih l' (j' + 1) (n + 1) (rdC ψ n c nu' j') F c nu' hll d3 (zTx_k hT (zKp_c ψ n c nu' j')) hw24 hw25 (by omega) (by omega)
            rw [hep2, hcm2]
            refine ⟨ψ', g1, zKp_t (zKp_c ψ n c nu' j') g2, g3, fun hn => ?_⟩
            obtain ⟨h1, h2, h3, h4⟩ := g4 hn
            refine ⟨?_, ?_, fun k hk => ?_, fun k a ha => ?_⟩
            · rw [h1]
              show nI (n + 1 + (cm c nu' l').length) = nI (n + ((cm c nu' l').length + 1))
              rw [show n + 1 + (cm c nu' l').length = n + ((cm c nu' l').length + 1) by omega]
            · show 2 * (n + ((cm c nu' l').length + 1)) ≤ X.length
              omega
            · obtain ⟨e1, e2⟩ := h3 k (by omega)
              rw [e1, e2, hw16, hw17, if_neg (by omega), if_neg (by omega)]
              exact ⟨rfl, rfl⟩
            · cases k with
              | zero =>
                have ea : (c, nu') = a := Option.some.inj ha
                subst ea
                obtain ⟨e1, e2⟩ := h3 n (by omega)
                rw [Nat.add_zero, e1, e2, hw16, hw17, if_pos rfl, if_pos rfl]
                exact ⟨rfl, rfl⟩
              | succ k =>
                have ha : (cm c nu' l')[k]? = some a := ha
                have := h4 k a ha
                rw [show n + (k + 1) = n + 1 + k by omega]
                exact this
        · rw [if_neg hgo, obd2_s, hend]
          have hep2 : ep st' j' l' = some j' := by
            cases l' with
            | nil =>
              show (if st' = 0 then none else some j') = some j'
              rw [if_neg a3]
            | cons v l' =>
              have hn2 : nx st' v = none := by
                unfold nx
                rw [if_neg a3, if_neg (fun z => hgo ⟨z.2, by rw [z.1]; rfl⟩), if_neg (a8 v l' rfl)]
              show og (fun s' => ep s' (j' + 1) l') (some j') (nx st' v) = _
              rw [hn2, og_n]
          rw [hep2]
          refine ⟨upd2 ψ 0 24 (nI j'), rfl, zKp_24 ψ _, fun e he => ?_, fun hn => (by cases hn)⟩
          have := Option.some.inj he
          rw [upd2_e, if_pos ⟨rfl, rfl⟩, this]
      · rw [if_neg hc, obd2_s, hend]
        have hep : ep 0 i (c :: l) = some i := by
          have hnx : nx 0 c = none := by
            unfold nx
            rw [if_pos rfl, if_neg (by omega), if_neg (by omega)]
          show og (fun st' => ep st' (i + 1) l) (some i) (nx 0 c) = _
          rw [hnx, og_n]
        rw [hep]
        refine ⟨ψ, rfl, zKp_r ψ, fun e he => ?_, fun hn => (by cases hn)⟩
        have := Option.some.inj he
        rw [h24, this]
theorem cm_ok : ∀ (l : List Nat) (st i sg nu : Nat), ep st i l = none → inv st sg nu → ∀ a, a ∈ cm sg nu l → a.2 < 1000 ∧ (a.1 = 42 ∨ a.1 = 43 ∨ a.1 = 45) := by
  intro l
  induction l with
  | nil =>
    intro st i sg nu _ _ a ha
    cases ha
  | cons v l ih =>
    intro st i sg nu hep hinv a ha
    obtain ⟨st', hn, hep'⟩ := ep_c hep
    by_cases g : v = 59
    · have h0 : st ≠ 0 := by
        intro z
        subst z
        subst g
        have e0 : nx 0 59 = none := by decide
        rw [e0] at hn
        cases hn
      obtain ⟨k1, k2, k3⟩ := inv_k hinv h0
      have hst' : st' = 0 := by
        unfold nx at hn
        rw [if_neg h0] at hn
        split at hn
        · exact (Option.some.inj hn).symm
        · split at hn
          · rename_i z
            have := isD_iff.mp z.1
            omega
          · cases hn
      subst hst'
      unfold cm at ha
      rw [if_pos g] at ha
      rcases List.mem_cons.mp ha with e | e
      · rw [e]
        exact ⟨k1, k3⟩
      · exact ih 0 (i + 1) sg nu hep' (Or.inl rfl) a e
    · cases hd : isD v with
      | true =>
        have hdv := isD_iff.mp hd
        have h03 : st ≠ 0 ∧ st ≤ 3 ∧ st' = st + 1 := by
          unfold nx at hn
          split at hn
          · split at hn
            · omega
            · split at hn
              · omega
              · cases hn
          · rename_i h0
            split at hn
            · omega
            · split at hn
              · rename_i z
                exact ⟨h0, z.2, (Option.some.inj hn).symm⟩
              · cases hn
        obtain ⟨h0, h33, hst'⟩ := h03
        subst hst'
        unfold cm at ha
        rw [if_neg g, if_pos hd] at ha
        exact ih (st + 1) (i + 1) sg _ hep' (inv_d hinv h0 h33 hdv) a ha
      | false =>
        have hi : inv st' v 0 := by
          unfold nx at hn
          split at hn
          · split at hn
            · rename_i z
              have := Option.some.inj hn
              subst this
              subst z
              exact inv_4
            · split at hn
              · rename_i z
                have := Option.some.inj hn
                subst this
                exact inv_1 z
              · cases hn
          · split at hn
            · rename_i z
              exact absurd z.1 g
            · split at hn
              · rename_i z
                rw [hd] at z
                exact absurd z.1 Bool.false_ne_true
              · cases hn
        unfold cm at ha
        rw [if_neg g, if_neg (by rw [hd]; exact Bool.false_ne_true)] at ha
        exact ih st' (i + 1) v 0 hep' hi a ha
def zXm (N : Nat) (ψ : M2) (R : Option (Int32 × M2)) : Option St × Nat → Prop
  | (some S', m) => ∃ w, zRMs (w 1) S' ∧ zFr ψ w ∧ R = obd (G_X9_keepAside N w (nI 5)) fun w7 => some (w7 0 25, w7)
  | (none, m) => ∃ w, zFr ψ w ∧ R = obd (G_X9_layBack N w (nI 5)) fun w12 => some (-nI 1000 - nI m, w12)
theorem zm_xloop {N : Nat} (hN : 5000 ≤ N) {C : List (Nat × Nat)} (hC : ∀ a, a ∈ C → a.2 < 1000 ∧ (a.1 = 42 ∨ a.1 = 43 ∨ a.1 = 45)) (hl : C.length ≤ 50) : ∀ (l : List (Nat × Nat)) (k : Nat) (S : St) (ψ : M2) (F : Nat), C.drop k = l → k ≤ C.length → zRMs (ψ 1) S → zWFs S → ψ 0 25 = nI C.length → (∀ (j : Nat) (a : Nat × Nat), C[j]? = some a → ψ 16 j = nI a.1 ∧ ψ 17 j = nI a.2) → l.length < F → zXm N ψ (L_X9_execute_27 N F (nI k) ψ) (rn l S k) := by
  intro l
  induction l with
  | nil =>
    intro k S ψ F hd hkl hM hF h25 hA hk
    obtain ⟨F, rfl⟩ : ∃ j, F = j + 1 := ⟨F - 1, by simp at hk; omega⟩
    have hkk := List.drop_eq_nil_iff.mp hd
    refine ⟨ψ, hM, zFr_r ψ, ?_⟩
    show B_X9_execute_27 N _ (nI k) ψ = _
    unfold B_X9_execute_27
    simp (disch := omega) only [zn_L, zn_R, h25]
    rw [if_pos hkk]
  | cons a l ih =>
    intro k S ψ F hd hkl hM hF h25 hA hk
    obtain ⟨F, rfl⟩ : ∃ j, F = j + 1 := ⟨F - 1, by simp at hk; omega⟩
    have hlt : k < C.length := by
      rcases Nat.lt_or_ge k C.length with g | g
      · exact g
      · rw [List.drop_eq_nil_of_le g] at hd
        cases hd
    have e1 := List.drop_eq_getElem_cons hlt
    rw [hd] at e1
    have e2 := List.cons.inj e1
    have hCk : C[k]? = some a := by rw [List.getElem?_eq_getElem hlt, e2.1]
    obtain ⟨q1, q2⟩ := hC a (List.mem_of_getElem? hCk)
    obtain ⟨h16, h17⟩ := hA k a hCk
    obtain ⟨r, w, b1, b2, b3⟩ := zm_does (ψ := ψ) hN (show k < 50 by omega) hM hF q1 q2 h16 h17
    have hstep : L_X9_execute_27 N (F + 1) (nI k) ψ = if r = nI 0 then (obd (G_X9_layBack N w (nI 5)) fun w12 => some (-nI 1000 - nI k, w12)) else L_X9_execute_27 N F (nI (k + 1)) w := by
      show B_X9_execute_27 N _ (nI k) ψ = _
      unfold B_X9_execute_27
      simp (disch := omega) only [zn_L, zn_R, h25, b1]
      rw [if_neg (by omega)]
    rw [hstep]
    cases hp : pf S a with
    | none =>
      rw [hp] at b2
      have b2 : r = nI 0 := b2
      rw [rn_n hp, if_pos b2]
      exact ⟨w, b3, rfl⟩
    | some S' =>
      rw [hp] at b2
      rw [rn_s hp, if_neg b2.1]
      have := ih (k + 1) S' w F e2.2.symm hlt b2.2 (pf_ok q1 hF hp) (by rw [b3 0 25 rfl]; exact h25) (fun j x hj => by rw [b3 16 j rfl, b3 17 j rfl]; exact hA j x hj) (by simp at hk; omega)
      revert this
      generalize rn l S' (k + 1) = R
      obtain ⟨o, m⟩ := R
      cases o with
      | none =>
        intro h
        obtain ⟨v, v1, v2⟩ := h
        exact ⟨v, zFr_t b3 v1, v2⟩
      | some S2 =>
        intro h
        obtain ⟨v, v1, v2, v3⟩ := h
        exact ⟨v, v1, zFr_t b3 v2, v3⟩
section PK
variable {N : Nat}
theorem pq_33 (hN : 5000 ≤ N) : Pk33 N zRl := by
  intro u0 φ η τ ψ hv hrel
  obtain ⟨S, V, X, ⟨hR, hM, hF⟩, ⟨hVc, hVm, hw⟩, hT⟩ := id hrel
  have t1 := hT.1
  have hX : zTl X 0 X := ⟨rfl, Nat.zero_le _⟩
  have hep := zc_ep hN hT X 0 0 N (by decide) hX (by omega)
  have hep : G_X6_errorPosition N τ = some (zn_g nI mI (ep 0 0 X)) := hep
  -- the model reads
  have hM5 := z5M hM (nI 0)
  have hT5 := z5T hT (nI 0)
  have q1 : upd2 (upd2 (upd2 ψ 0 5 (nI 0)) 0 24 (nI 0)) 0 25 (nI 0) 0 24 = nI 0 := by rw [upd2_e, if_neg (by decide), upd2_e, if_pos ⟨rfl, rfl⟩]
  have q2 : upd2 (upd2 (upd2 ψ 0 5 (nI 0)) 0 24 (nI 0)) 0 25 (nI 0) 0 25 = nI 0 := by rw [upd2_e, if_pos ⟨rfl, rfl⟩]
  have hk0 : zKp (upd2 ψ 0 5 (nI 0)) (upd2 (upd2 (upd2 ψ 0 5 (nI 0)) 0 24 (nI 0)) 0 25 (nI 0)) := by
    refine zKp_t (zKp_24 _ _) ⟨upd2_o (by decide), upd2_o (by decide), upd2_o (by decide), by rw [upd2_e, if_neg (by decide)], by rw [upd2_e, if_neg (by decide)], by rw [upd2_e, if_neg (by decide)]⟩
  obtain ⟨m, g1, g2, g3, g4⟩ := zm_ra hN X.length X 0 0 _ N 0 0 (Nat.le_refl _) hX (zTx_k hT5 hk0) q1 q2 (Nat.le_refl _) (by omega)
  have hkp := zKp_t hk0 g2
  have hra : G_X9_readAll N (upd2 ψ 0 5 (nI 0)) = some (bI (ep 0 0 X).isNone, m) := by
    unfold G_X9_readAll
    simp only [zn_L, zn_R, g1]
    unfold obz
    cases (ep 0 0 X).isNone with
    | true => rw [if_pos (Or.inr (by decide))]
    | false => rw [if_pos (Or.inl (by decide))]
  have hMm : zRMs (m 1) S := by rw [hkp.1]; exact hM5
  have hVm5 : zVm m V := zVm_g (z5V hVm (nI 0)) hkp.2.1 hkp.2.2.2.1
  have hTm : zTx τ m X := zTx_k hT5 hkp
  have hrelm : ∀ φ', zRl u0 φ' η τ m hv := fun φ' => ⟨S, V, X, ⟨hR, hMm, hF⟩, ⟨hVc, hVm5, hw⟩, hTm⟩
  cases he : ep 0 0 X with
  | some e =>
    rw [he] at hep hra
    have h24 := g3 e he
    have hebd : e ≤ 100 := by
      have hgen : ∀ (l : List Nat) (st i e : Nat), ep st i l = some e → e ≤ i + l.length := by
        intro l
        induction l with
        | nil =>
          intro st i e h
          unfold ep at h
          split at h
          · cases h
          · have := Option.some.inj h
            simp
            omega
        | cons v l ih =>
          intro st i e h
          unfold ep at h
          cases hn : nx st v with
          | none =>
            rw [hn] at h
            have := Option.some.inj h
            simp
            omega
          | some st' =>
            rw [hn] at h
            have := ih st' (i + 1) e h
            simp
            omega
      have := hgen X 0 0 e he
      omega
    refine ⟨0, -nI 10 - nI e, u0, φ, η, τ, -nI 10 - nI e, m, ?_, rfl, ?_, rfl, hrelm φ⟩
    · unfold G_X8_execute
      rw [hep]
      simp only [zn_L, zn_M, zn_R]
      rw [if_neg (show ¬ zn_g nI mI (some e) = mI from fun z => (zn_mi (a := e) (by omega)).1.mp z)]
      rfl
    · unfold G_X9_execute
      have hra : G_X9_readAll N (upd2 ψ 0 5 (nI 0)) = some (nI 0, m) := hra
      simp only [zn_L, zn_R, hra, if_true, h24]
  | none =>
    rw [he] at hep hra
    obtain ⟨h1, h2, h3, h4⟩ := g4 he
    rw [Nat.zero_add] at h1 h2
    have hra : G_X9_readAll N (upd2 ψ 0 5 (nI 0)) = some (nI 1, m) := hra
    obtain ⟨w1, a1, a2, a3⟩ := zc_copy hN φ hR hF
    have hX1 := zc_xloop hN (u0 := u0) (η := η) hT X 0 0 0 0 0 S w1 N hX he (Or.inl rfl) a2 hF (by omega)
    obtain ⟨m3, d1, d2, d3, d4⟩ := zm_side hN (p := 5) (by decide) (by decide) hMm hF hVm5 hw
    have m31 : m3 1 = m 1 := d4 1 (by decide)
    have hX2 := zm_xloop hN (C := cm 0 0 X) (fun a ha => cm_ok X 0 0 0 0 he (Or.inl rfl) a ha) (by omega) (cm 0 0 X) 0 S m3 N rfl (Nat.zero_le _) (by rw [m31]; exact hMm) hF (by rw [d4 0 (by decide)]; exact h1) (fun j a hj => by
      rw [d4 16 (by decide), d4 17 (by decide)]
      have := h4 j a hj
      rw [Nat.zero_add] at this
      exact this) (by omega)
    have hcls : G_X8_execute N u0 φ η τ = L_X8_execute_39 N u0 η τ N (nI 0) (nI 0) (nI 0) (nI 0) w1 := by
      unfold G_X8_execute
      rw [hep]
      simp only [zn_L, zn_M, zn_R, zn_g, if_true, a1, a3]
    have hmod : G_X9_execute N ψ = L_X9_execute_27 N N (nI 0) m3 := by
      unfold G_X9_execute
      simp only [zn_L, zn_R, hra, zn_B, if_false, d1]
    have hlay : ∀ w, zFr m3 w → ∃ m5, G_X9_layBack N w (nI 5) = some m5 ∧ ∀ φ', zRl u0 φ' η τ m5 hv := by
      intro w hw'
      have w2 : w 2 = m3 2 := funext fun i => hw' 2 i rfl
      obtain ⟨m5, f1, f2, f3⟩ := zm_laid (ψ := w) hN (p := 5) (by decide) (by rw [w2]; exact d3) hF
      refine ⟨m5, f1, fun φ' => ⟨S, V, X, ⟨hR, f2, hF⟩, ⟨hVc, zVm_g d2 (by rw [f3 2 (by decide), w2]) (by rw [f3 0 (by decide), hw' 0 2 rfl]), hw⟩, zTx_g hTm (by rw [f3 3 (by decide), show w 3 = m3 3 from funext fun i => hw' 3 i rfl, d4 3 (by decide)]) (by rw [f3 0 (by decide), hw' 0 4 rfl, d4 0 (by decide)])⟩⟩
    have hnum : ∀ (l : List (Nat × Nat)) (S0 : St) (n : Nat) (S' : St) (k : Nat), rn l S0 n = (some S', k) → k = n + l.length := by
      intro l
      induction l with
      | nil =>
        intro S0 n S' k h
        have := congrArg Prod.snd h
        exact this.symm
      | cons a l ih =>
        intro S0 n S' k h
        cases hp : pf S0 a with
        | none =>
          rw [rn_n hp] at h
          have := congrArg Prod.fst h
          cases this
        | some S1 =>
          rw [rn_s hp] at h
          have := ih S1 (n + 1) S' k h
          show k = n + (l.length + 1)
          omega
    have hnum' := hnum (cm 0 0 X) S 0
    revert hX1 hX2 hnum'
    generalize rn (cm 0 0 X) S 0 = R
    obtain ⟨o, k⟩ := R
    cases o with
    | none =>
      intro hX1 hX2 _
      obtain ⟨w, w2⟩ := hX1
      obtain ⟨v, v1, v2⟩ := hX2
      obtain ⟨m5, f1, f2⟩ := hlay v v1
      exact ⟨0, -nI 1000 - nI k, u0, w, η, τ, -nI 1000 - nI k, m5, by rw [hcls]; exact w2, rfl, by rw [hmod, v2, f1]; rfl, rfl, f2 w⟩
    | some S' =>
      intro hX1 hX2 hnum'
      obtain ⟨w, w1, w2, w3⟩ := hX1
      obtain ⟨v, v1, v2, v3⟩ := hX2
      have hk := hnum' S' k rfl
      rw [Nat.zero_add] at hk
      have v22 : v 2 = m3 2 := funext fun i => v2 2 i rfl
      obtain ⟨q, η', ψ4, e1, e2, e3, e4, e5⟩ := zR_acc (hv := hv) (ψ3 := v) (p := 5) (X := X) (τ := τ) hN (by decide) (by decide) hR hF w1 w2 hVc hw v1 (zVm_g d2 v22 (v2 0 2 rfl)) (by rw [v22]; exact d3) (zTx_g hTm (by rw [show v 3 = m3 3 from funext fun i => v2 3 i rfl, d4 3 (by decide)]) (by rw [v2 0 4 rfl, d4 0 (by decide)]))
      obtain ⟨z, z1, z2, z3⟩ := zm_aside (ψ := v) (V := V) (S := S) (p := 5) hN (by decide) (by decide) (by rw [v22]; exact d3) hF (zVm_g d2 v22 (v2 0 2 rfl)) hw
      have ez : ψ4 = z := Option.some.inj (e2.symm.trans z1)
      have h425 : ψ4 0 25 = nI k := by
        rw [ez, z3 0 25 (by decide) (Or.inr (by decide)), v2 0 25 rfl, d4 0 (by decide), h1, hk]
      exact ⟨0, nI k, q, w, η', τ, nI k, ψ4, by rw [hcls, w3, e1]; rfl, rfl, by rw [hmod, v3, e2, obd_s, h425], rfl, e3⟩
end PK
