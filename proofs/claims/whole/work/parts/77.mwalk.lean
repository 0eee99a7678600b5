/-! the pure layer: walks of the model -/
theorem zc_f : (((0 : Nat) = 4) = False ∧ ((0 : Nat) = 5) = False ∧ ((0 : Nat) = 6) = False ∧ ((0 : Nat) = 1) = False ∧ ((1 : Nat) = 0) = False ∧ ((1 : Nat) = 4) = False ∧ ((1 : Nat) = 5) = False ∧ ((1 : Nat) = 6) = False) ∧ (((12 : Nat) = 6) = False ∧ ((12 : Nat) = 7) = False ∧ ((12 : Nat) = 8) = False ∧ ((12 : Nat) = 9) = False ∧ ((6 : Nat) = 12) = False ∧ ((7 : Nat) = 12) = False ∧ ((8 : Nat) = 12) = False ∧ ((9 : Nat) = 12) = False) := by decide
theorem zm_exch {ψ : M2} {P : Pm} {c : Ce} {u k : Nat} {e f : En} (hP : zMp (ψ 1) P) (hC : zMc (ψ 1) c) (hW : zWp P) (hH : zHe ψ e) (he : e.2.1 < 64) (hk : k < 4) (hu : u < 64) (hc : c (4 * u + k) = some f) (ht : f.1 < 64) (hf : f.2.1 = u ∨ f.2.1 = oth P.1 u f.1) : ∃ ψ', G_X9_exchange ψ (nI u) (nI k) = some ψ' ∧ zHe ψ' f ∧ ψ' 1 = putE ψ (4 * u + k) (some e) 1 ∧ ∀ c' i', c' ≠ 1 → (c' ≠ 0 ∨ i' < 6 ∨ 9 < i') → ψ' c' i' = ψ c' i' := by
  have hcell := hC (4 * u + k) (by omega)
  rw [hc] at hcell
  have ediv : (4 * u + k) / 4 = u := by omega
  rw [ediv] at hcell
  obtain ⟨h0, h1, h2, h3⟩ := hcell
  have e0 : f0 (some f) = nI f.1 := rfl
  have e1 : f1 (some f) = nI f.2.2.1 := rfl
  have e2 : f2 (some f) = nI f.2.2.2 := rfl
  rw [e0] at h0
  rw [e1] at h1
  rw [e2] at h2
  have hput := zm_putH hH (u := u) (k := k) hk (by omega) he
  refine ⟨upd2 (upd2 (upd2 (upd2 (putE ψ (4 * u + k) (some e)) 0 6 (nI f.1)) 0 7 (nI f.2.2.1)) 0 8 (nI f.2.2.2)) 0 9 (nI f.2.1), ?_, ⟨?_, ?_, ?_, ?_⟩, ?_, ?_⟩
  · have hJ : ∀ h, J_X9_exchange_62 ψ (nI u) (nI k) (nI f.1) (nI f.2.2.1) (nI f.2.2.2) h = some (upd2 (upd2 (upd2 (upd2 (putE ψ (4 * u + k) (some e)) 0 6 (nI f.1)) 0 7 (nI f.2.2.1)) 0 8 (nI f.2.2.2)) 0 9 h) := by
      intro h
      unfold J_X9_exchange_62 J_X9_exchange_92
      simp only [zn_L]
      by_cases g : nI u = ψ 0 9
      · rw [if_pos g] at hput ⊢
        rw [hput]
        rfl
      · rw [if_neg g] at hput ⊢
        rw [hput]
        rfl
    unfold G_X9_exchange
    simp (disch := omega) only [zn_L, zn_M, zn_R, zm_at, h0, h1, h2, h3, hP.1, zm_step ht hW.1.2, hJ]
    by_cases g : f.2.1 = u
    · have e3 : f3 u (some f) = nI 0 := if_pos g
      rw [e3, if_pos rfl, g]
    · have e3 : f3 u (some f) = nI 1 := if_neg g
      have e4 : u ^^^ stp f.1 P.1 = f.2.1 := (hf.resolve_left g).symm
      rw [e3, if_neg (by decide), e4]
  · simp [upd2_e]
  · simp [upd2_e]
  · simp [upd2_e]
  · simp [upd2_e]
  · rw [upd2_o (by decide), upd2_o (by decide), upd2_o (by decide), upd2_o (by decide)]
  · intro c' i' h h'
    rw [upd2_e, if_neg (by omega), upd2_e, if_neg (by omega), upd2_e, if_neg (by omega), upd2_e, if_neg (by omega), putE_o _ _ _ h]
theorem zm_snap {N : Nat} (hN : 5000 ≤ N) (ψ : M2) (v : Int32) : ∃ ψ', L_X9_walks_2 N v N (nI 0) ψ = some ψ' ∧ ((∀ j, j < 1024 → ψ' 6 j = ψ 1 (18 + j)) ∧ ∀ c' i', c' ≠ 6 → ψ' c' i' = ψ c' i') := by
  refine zn_for (fun k i s => L_X9_walks_2 N v k (nI i) s) 1024 (fun i s => (∀ j, j < i → s 6 j = ψ 1 (18 + j)) ∧ ∀ c' i', c' ≠ 6 → s c' i' = ψ c' i') _ (fun i s hi hI => ?_) (fun s hI => ?_) N 0 ψ (by omega) ⟨fun j h => by omega, fun _ _ _ => rfl⟩ (by omega)
  · refine ⟨upd2 s 6 i (s 1 (18 + i)), ⟨fun j hj => ?_, fun c' i' hc => ?_⟩, fun k => ?_⟩
    · rw [upd2_e]
      by_cases g : j = i
      · rw [if_pos ⟨rfl, g⟩, hI.2 _ _ (by decide), g]
      · rw [if_neg (fun z => g z.2)]
        exact hI.1 j (by omega)
    · rw [upd2_e, if_neg (fun z => hc z.1)]
      exact hI.2 c' i' hc
    · show B_X9_walks_2 N v _ (nI i) s = _
      unfold B_X9_walks_2
      simp (disch := omega) only [zn_L, zn_M, zn_R]
      rw [if_neg (by omega)]
  · refine ⟨s, hI, fun k => ?_⟩
    show B_X9_walks_2 N v _ (nI 1024) s = _
    unfold B_X9_walks_2
    simp (disch := omega) only [zn_L, zn_M, zn_R]
    rw [if_pos (by omega)]
theorem zm_rest {N : Nat} (hN : 5000 ≤ N) (ψ : M2) : ∃ ψ', L_X9_walks_131 N N (nI 0) ψ = some ψ' ∧ ((∀ j, j < 1024 → ψ' 1 (18 + j) = ψ 6 j) ∧ (∀ i', i' < 18 ∨ 1042 ≤ i' → ψ' 1 i' = ψ 1 i') ∧ ∀ c' i', c' ≠ 1 → ψ' c' i' = ψ c' i') := by
  refine zn_for (fun k i s => L_X9_walks_131 N k (nI i) s) 1024 (fun i s => (∀ j, j < i → s 1 (18 + j) = ψ 6 j) ∧ (∀ i', i' < 18 ∨ 1042 ≤ i' → s 1 i' = ψ 1 i') ∧ ∀ c' i', c' ≠ 1 → s c' i' = ψ c' i') _ (fun i s hi hI => ?_) (fun s hI => ?_) N 0 ψ (by omega) ⟨fun j h => by omega, fun _ _ => rfl, fun _ _ _ => rfl⟩ (by omega)
  · refine ⟨upd2 s 1 (18 + i) (s 6 i), ⟨fun j hj => ?_, fun i' hi' => ?_, fun c' i' hc => ?_⟩, fun k => ?_⟩
    · rw [upd2_e]
      by_cases g : j = i
      · rw [if_pos ⟨rfl, by omega⟩, hI.2.2 _ _ (by decide), g]
      · rw [if_neg (fun z => g (by omega))]
        exact hI.1 j (by omega)
    · rw [upd2_e, if_neg (fun z => by omega)]
      exact hI.2.1 i' hi'
    · rw [upd2_e, if_neg (fun z => hc z.1)]
      exact hI.2.2 c' i' hc
    · show B_X9_walks_131 N _ (nI i) s = _
      unfold B_X9_walks_131
      simp (disch := omega) only [zn_L, zn_M, zn_R]
      rw [if_neg (by omega)]
  · refine ⟨s, hI, fun k => ?_⟩
    show B_X9_walks_131 N _ (nI 1024) s = _
    unfold B_X9_walks_131
    simp (disch := omega) only [zn_L, zn_M, zn_R]
    rw [if_pos (by omega)]
def zSr (ψ : M2) (R : List (Nat × Nat)) : Prop := ψ 0 12 = nI R.length ∧ ∀ (j : Nat) (y : Nat × Nat), R[j]? = some y → ψ 4 j = nI y.1 ∧ ψ 5 j = nI y.2
def zWm (ψ' : M2) (g0 : Nat → Int32) (r : Int32) : Option (Nat × Ce) → Prop
  | some y => r = nI 1 ∧ ψ' 0 12 = nI y.1 ∧ zMc (ψ' 1) y.2
  | none => r = nI 0 ∧ ∀ j, j < 1024 → ψ' 1 (18 + j) = g0 (18 + j)
theorem zSr_s {ψ ψ' : M2} {A : List (Nat × Nat)} {p t : Nat} (h : zSr ψ A) (h4 : ∀ j, ψ' 4 j = if j = A.length then nI p else ψ 4 j) (h5 : ∀ j, ψ' 5 j = if j = A.length then nI t else ψ 5 j) (h12 : ψ' 0 12 = nI (A.length + 1)) : zSr ψ' (A ++ [(p, t)]) := by
  refine ⟨by rw [h12, List.length_append]; rfl, fun j y hy => ?_⟩
  rw [h4, h5]
  rcases Nat.lt_or_ge j A.length with g | g
  · rw [List.getElem?_append_left g] at hy
    rw [if_neg (by omega), if_neg (by omega)]
    exact h.2 j y hy
  · have e : j = A.length := by
      have := (List.getElem?_eq_some_iff.mp hy).1
      rw [List.length_append] at this
      simp at this
      omega
    subst e
    have e2 : (A ++ [(p, t)])[A.length]? = some (p, t) := by simp
    rw [e2] at hy
    cases hy
    rw [if_pos rfl, if_pos rfl]
    exact ⟨rfl, rfl⟩
set_option maxHeartbeats 1000000 in
theorem zm_wloop {N : Nat} (hN : 5000 ≤ N) {P : Pm} (hW : zWp P) {g0 : Nat → Int32} : ∀ (n i : Nat) (A : List (Nat × Nat)) (ψ : M2) (c : Ce) (e : En) (u k : Nat), i + n = P.2.2.2.2 → A.length = i → n < k → zMp (ψ 1) P → zMc (ψ 1) c → zWc P.1 P.2.1 c → zEo P.1 e → u < 2 ^ P.1 → (e.2.1 = u ∨ e.2.1 = oth P.1 u e.1) → fS c P.2.1 u = none → zHe ψ e → zSr ψ A → (∀ j, j < 1024 → ψ 6 j = g0 (18 + j)) →
    ∃ r ψ', L_X9_walks_32 N k (nI u) ψ = some (r, ψ') ∧ zWm ψ' g0 r (wk P.1 P.2.1 n i c e u) ∧ zSr ψ' (A ++ wr P.1 P.2.1 n i c e u) ∧ zLo (ψ 1) (ψ' 1) ∧ zFr ψ ψ' := by
  have hs := hW.2.1
  have hb := hW.1
  have h50 := hW.2.2.2.2
  have h6 := p2_6 hb.2
  intro n
  induction n with
  | zero =>
    intro i A ψ c e u k hi hA hk hP hC hV he hu hh hf hH hR hsn
    obtain ⟨k, rfl⟩ : ∃ j, k = j + 1 := ⟨k - 1, by omega⟩
    obtain ⟨ψ', g1, g2, g3, g4⟩ := zm_rest hN ψ
    refine ⟨nI 0, ψ', ?_, ⟨rfl, fun j hj => by rw [g2 j hj, hsn j hj]⟩, ?_, g3, ?_⟩
    · show B_X9_walks_32 N _ (nI u) ψ = _
      unfold B_X9_walks_32
      simp (disch := omega) only [zn_L, zn_M, zn_R, hP.2.2.2.2, hR.1, g1]
      rw [if_pos (by omega)]
    · show zSr ψ' (A ++ [])
      rw [List.append_nil]
      refine ⟨by rw [g4 _ _ (by decide)]; exact hR.1, fun j y hy => ?_⟩
      rw [g4 _ _ (by decide), g4 _ _ (by decide)]
      exact hR.2 j y hy
    · intro c' i' hk'
      by_cases z : c' = 1
      · subst z
        cases hk'
      · exact g4 c' i' z
  | succ n ih =>
    intro i A ψ c e u k hi hA hk hP hC hV he hu hh hf hH hR hsn
    obtain ⟨k, rfl⟩ : ∃ j, k = j + 1 := ⟨k - 1, by omega⟩
    have him : i % P.2.1 < P.2.1 := Nat.mod_lt _ (by omega)
    obtain ⟨f, hcf⟩ := fS_full hf him
    obtain ⟨hf1, hf2, hf3, hf4⟩ := hV _ f hcf
    have ediv : (4 * u + i % P.2.1) / 4 = u := by omega
    have emod : (4 * u + i % P.2.1) % 4 = i % P.2.1 := by omega
    rw [ediv] at hf4
    have hft := zEo_lt hb.2 hf3
    have het := zEo_lt hb.2 he
    have hV' : zWc P.1 P.2.1 (uC c (4 * u + i % P.2.1) (some e)) := zWc_u hV ⟨by omega, by omega⟩ he (by rw [ediv]; exact hh)
    have h12 : ψ 0 12 = nI i := by rw [hR.1, hA]
    have hP1 : zMp (upd2 ψ 4 i (nI (4 * u + i % P.2.1)) 1) P := by rw [upd2_o (by decide)]; exact hP
    have hC1 : zMc (upd2 ψ 4 i (nI (4 * u + i % P.2.1)) 1) c := by rw [upd2_o (by decide)]; exact hC
    have hH1 : zHe (upd2 ψ 4 i (nI (4 * u + i % P.2.1))) e := by
      unfold zHe
      rw [upd2_o (by decide)]
      exact hH
    obtain ⟨w, x1, x2, x3, x4⟩ := zm_exch (k := i % P.2.1) (u := u) hP1 hC1 hW hH1 het.2.1 (by omega) (by omega) hcf hft.1 hf4
    have hC2 : zMc (w 1) (uC c (4 * u + i % P.2.1) (some e)) := by
      rw [x3]
      exact putE_c hC1 (by omega) (some e)
    have hL2 : zLo (ψ 1) (w 1) := by
      rw [x3]
      have := putE_l (upd2 ψ 4 i (nI (4 * u + i % P.2.1))) (p := 4 * u + i % P.2.1) (by omega) (some e)
      rw [upd2_o (c' := 1) (by decide)] at this
      exact this
    have hw12 : w 0 12 = nI i := by
      rw [x4 0 12 (by decide) (by decide), upd2_o (by decide)]
      exact h12
    have hw6 : w 0 6 = nI f.1 := x2.1
    have hw0 : upd2 (upd2 w 5 i (nI f.1)) 0 12 (nI (i + 1)) 1 = w 1 := by rw [upd2_o (by decide), upd2_o (by decide)]
    have hP4 : zMp (upd2 (upd2 w 5 i (nI f.1)) 0 12 (nI (i + 1)) 1) P := by
      rw [hw0]
      exact zMp_c hP hL2
    have hC4 : zMc (upd2 (upd2 w 5 i (nI f.1)) 0 12 (nI (i + 1)) 1) (uC c (4 * u + i % P.2.1) (some e)) := by
      rw [hw0]
      exact hC2
    have hH4 : zHe (upd2 (upd2 w 5 i (nI f.1)) 0 12 (nI (i + 1))) f := by
      unfold zHe at x2 ⊢
      simp only [upd2_e, zc_f, and_false, false_and, if_false]
      exact x2
    have hu2 : oth P.1 u f.1 < 2 ^ P.1 := oth_lt f.1 hu
    have hset := zm_settles hN (u := oth P.1 u f.1) hP4 hC4 hW hV' (by omega) hH4 hft.2.1
    have hR4 : zSr (upd2 (upd2 w 5 i (nI f.1)) 0 12 (nI (i + 1))) (A ++ [(4 * u + i % P.2.1, f.1)]) := by
      refine zSr_s hR (fun j => ?_) (fun j => ?_) ?_
      · rw [upd2_o (by decide), upd2_o (by decide), x4 _ _ (by decide) (by omega), upd2_e, hA]
        by_cases g : j = i
        · rw [if_pos ⟨rfl, g⟩, if_pos g]
        · rw [if_neg (fun z => g z.2), if_neg g]
      · rw [upd2_o (by decide), upd2_e, hA]
        by_cases g : j = i
        · rw [if_pos ⟨rfl, g⟩, if_pos g]
        · rw [if_neg (fun z => g z.2), if_neg g, x4 _ _ (by decide) (by omega), upd2_o (by decide)]
      · rw [upd2_e, if_pos ⟨rfl, rfl⟩, hA]
    have hF4 : zFr ψ (upd2 (upd2 w 5 i (nI f.1)) 0 12 (nI (i + 1))) := by
      refine zFr_u (zFr_u ?_ rfl _) rfl _
      intro c' i' hk'
      by_cases z : c' = 1
      · subst z
        cases hk'
      · by_cases z0 : c' = 0 ∧ 6 ≤ i' ∧ i' ≤ 9
        · exfalso
          obtain ⟨z1, z2, z3⟩ := z0
          subst z1
          have : i' = 6 ∨ i' = 7 ∨ i' = 8 ∨ i' = 9 := by omega
          rcases this with g | g | g | g
          · subst g
            cases hk'
          · subst g
            cases hk'
          · subst g
            cases hk'
          · subst g
            cases hk'
        · by_cases z4 : c' = 4
          · subst z4
            cases hk'
          · rw [x4 c' i' z (by omega), upd2_o z4]
    have hsn4 : ∀ j, j < 1024 → upd2 (upd2 w 5 i (nI f.1)) 0 12 (nI (i + 1)) 6 j = g0 (18 + j) := by
      intro j hj
      rw [upd2_o (by decide), upd2_o (by decide), x4 _ _ (by decide) (by omega), upd2_o (by decide)]
      exact hsn j hj
    have hstep : L_X9_walks_32 N (k + 1) (nI u) ψ = obd2 (some (zn_g (fun j => (nI 1, putE (upd2 (upd2 w 5 i (nI f.1)) 0 12 (nI (i + 1))) (4 * oth P.1 u f.1 + j) (some f))) (nI 0, upd2 (upd2 w 5 i (nI f.1)) 0 12 (nI (i + 1))) (fS (uC c (4 * u + i % P.2.1) (some e)) P.2.1 (oth P.1 u f.1)))) (fun r28 w26 => if r28 = nI 0 then L_X9_walks_32 N k (nI (oth P.1 u f.1)) w26 else some (nI 1, w26)) := by
      show B_X9_walks_32 N _ (nI u) ψ = _
      unfold B_X9_walks_32
      simp (disch := omega) only [zn_L, zn_M, zn_R, hP.2.2.2.2, h12, hP.2.1]
      rw [if_neg (by omega), x1]
      simp (disch := omega) only [zn_L, zn_M, zn_R, hw12, hw6]
      have q1 : upd2 w 5 i (nI f.1) 0 12 = nI i := by
        rw [upd2_o (by decide)]
        exact hw12
      simp (disch := omega) only [zn_R, q1]
      rw [hH4.1, hP4.1, zm_step hft.1 hb.2]
      simp (disch := omega) only [zn_R]
      rw [show u ^^^ stp f.1 P.1 = oth P.1 u f.1 from rfl, hset]
    rw [hstep]
    have ewk : wk P.1 P.2.1 (n + 1) i c e u = og (fun k => some (i + 1, uC (uC c (4 * u + i % P.2.1) (some e)) (4 * oth P.1 u f.1 + k) (some f))) (wk P.1 P.2.1 n (i + 1) (uC c (4 * u + i % P.2.1) (some e)) f (oth P.1 u f.1)) (fS (uC c (4 * u + i % P.2.1) (some e)) P.2.1 (oth P.1 u f.1)) := by
      simp only [wk, hcf, og_s]
    have ewr : wr P.1 P.2.1 (n + 1) i c e u = (4 * u + i % P.2.1, f.1) :: og (fun _ => []) (wr P.1 P.2.1 n (i + 1) (uC c (4 * u + i % P.2.1) (some e)) f (oth P.1 u f.1)) (fS (uC c (4 * u + i % P.2.1) (some e)) P.2.1 (oth P.1 u f.1)) := by
      simp only [wr, hcf, og_s]
    rw [ewk, ewr]
    cases hfs : fS (uC c (4 * u + i % P.2.1) (some e)) P.2.1 (oth P.1 u f.1) with
    | some j =>
      have hj := (fS_lt hfs).1
      have hq : 4 * oth P.1 u f.1 + j < 256 := by omega
      refine ⟨nI 1, putE (upd2 (upd2 w 5 i (nI f.1)) 0 12 (nI (i + 1))) (4 * oth P.1 u f.1 + j) (some f), ?_, ⟨rfl, ?_, putE_c hC4 hq (some f)⟩, ?_, ?_, putE_f hF4 _ _⟩
      · simp only [zn_g, zn_R]
        rw [if_neg (by decide)]
      · rw [putE_o _ _ _ (by decide), upd2_e, if_pos ⟨rfl, rfl⟩]
      · refine ⟨?_, fun j' y hy => ?_⟩
        · rw [putE_o _ _ _ (by decide)]
          exact hR4.1
        · rw [putE_o _ _ _ (by decide), putE_o _ _ _ (by decide)]
          exact hR4.2 j' y hy
      · have := putE_l (upd2 (upd2 w 5 i (nI f.1)) 0 12 (nI (i + 1))) hq (some f)
        rw [hw0] at this
        exact zLo_t hL2 this
    | none =>
      simp only [zn_g, zn_R, if_true]
      obtain ⟨r, ψ', g1, g2, g3, g4, g5⟩ := ih (i + 1) (A ++ [(4 * u + i % P.2.1, f.1)]) _ (uC c (4 * u + i % P.2.1) (some e)) f (oth P.1 u f.1) k (by omega) (by rw [List.length_append, hA]; rfl) (by omega) hP4 hC4 hV' hf3 hu2 (by rw [oth_oth]; exact hf4.symm) hfs hH4 hR4 hsn4
      refine ⟨r, ψ', g1, g2, ?_, ?_, zFr_t hF4 g5⟩
      · rw [List.append_assoc] at g3
        exact g3
      · rw [hw0] at g4
        exact zLo_t hL2 g4
