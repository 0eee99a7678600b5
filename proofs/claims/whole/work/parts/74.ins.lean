/-! the pure layer: inserting in the class -/
theorem zPm_c {φ φ' : M2} {P : Pm} (h : zPm φ P) (e : φ' 0 = φ 0) : zPm φ' P := by
  unfold zPm at *
  rw [e]
  exact h
theorem zCl_c {φ φ' : M2} {c : Ce} (h : zCl φ c) (e : φ' 1 = φ 1) : zCl φ' c := by
  intro p hp
  rw [e]
  exact h p hp
theorem zSt_c {φ φ' : M2} {q : List En} (h : zSt φ q) (e : φ' 0 = φ 0) (e2 : φ' 2 = φ 2) : zSt φ' q := by
  unfold zSt at *
  rw [e, e2]
  exact h
theorem zKy_c {φ φ' : M2} {nk : Nat} {K : Nat → Nat} (h : zKy φ nk K) (e : φ' 3 = φ 3) (e2 : φ' 4 = φ 4) : zKy φ' nk K := by
  unfold zKy at *
  rw [e, e2]
  exact h
theorem zWr_c {φ φ' : M2} {R : List (Nat × Nat)} (h : zWr φ R) (e5 : φ' 5 = φ 5) (e6 : φ' 6 = φ 6) (e7 : φ' 7 = φ 7) : zWr φ' R := by
  unfold zWr at *
  rw [e5, e6, e7]
  exact h
theorem zc_note {φ : M2} {A : List (Nat × Nat)} {p t : Nat} (h : zWr φ A) (hl : A.length < 50) : ∃ φ', G_X7_note φ (nI p) (nI t) = some φ' ∧ zWr φ' (A ++ [(p, t)]) ∧ ∀ c', c' ≠ 5 → c' ≠ 6 → c' ≠ 7 → φ' c' = φ c' := by
  have h5 := h.1
  refine ⟨upd2 (upd2 (upd2 φ 6 A.length (nI p)) 7 A.length (nI t)) 5 2 (nI (A.length + 1)), ?_, ⟨?_, fun j y hy => ?_⟩, fun c' h1 h2 h3 => ?_⟩
  · unfold G_X7_note
    simp (disch := omega) only [zn_L, zn_M, zn_R, h5]
    rw [if_neg (by omega), if_neg (by omega), if_neg (by omega)]
    simp (disch := omega) only [zn_L, zn_M, zn_R, h5, upd2_e, (show ((5 : Nat) = 6) = False from by decide), (show ((5 : Nat) = 7) = False from by decide), false_and, if_false]
  · rw [upd2_e, if_pos ⟨rfl, rfl⟩, List.length_append]
    rfl
  · rw [upd2_o (by decide), upd2_o (by decide), upd2_e, upd2_o (by decide), upd2_e]
    rcases Nat.lt_or_ge j A.length with g | g
    · rw [List.getElem?_append_left g] at hy
      rw [if_neg (fun z => by omega), if_neg (fun z => by omega)]
      exact h.2 j y hy
    · have e : j = A.length := by
        have := (List.getElem?_eq_some_iff.mp hy).1
        rw [List.length_append] at this
        simp at this
        omega
      subst e
      have e2 : (A ++ [(p, t)])[A.length]? = some (p, t) := by simp
      rw [e2] at hy
      cases hy
      rw [if_pos ⟨rfl, rfl⟩, if_pos ⟨rfl, rfl⟩]
      exact ⟨rfl, rfl⟩
  · rw [upd2_o h1, upd2_o h3, upd2_o h2]
def zWo (φ' : M2) (c0 : Ce) (r : Int32) : Option (Nat × Ce) → Prop
  | some y => r = nI y.1 ∧ zCl φ' y.2
  | none => r = mI ∧ zCl φ' c0
theorem zc_back {N : Nat} (hN : 5000 ≤ N) {c0 : Ce} {A : List (Nat × Nat)} {e : En} {c : Ce} {φ : M2} (h : zBk N c0 A e c) (hl : A.length ≤ 50) (hC : zCl φ c) (hR : zWr φ A) : ∃ φ', G_X2_walkBack N φ (ew e) = some φ' ∧ zCl φ' c0 ∧ ∀ c', c' ≠ 1 → φ' c' = φ c' := by
  obtain ⟨φ', g1, g2, g3⟩ := h N φ [] (by omega) (by simpa using hl) hC (by simpa using hR)
  refine ⟨φ', ?_, g2, g3⟩
  unfold G_X2_walkBack G_X7_steps
  simp (disch := omega) only [zn_L, zn_M, zn_R, hR.1, dn_s, g1]
set_option maxHeartbeats 1000000 in
theorem zc_wander {N : Nat} (hN : 5000 ≤ N) {P : Pm} (hW : zWp P) {c0 : Ce} : ∀ (n i : Nat) (A : List (Nat × Nat)) (φ : M2) (c : Ce) (e : En) (u k : Nat), i + n = P.2.2.2.2 → A.length = i → n < k → zPm φ P → zCl φ c → zWc P.1 P.2.1 c → zEo P.1 e → u < 2 ^ P.1 → (e.2.1 = u ∨ e.2.1 = oth P.1 u e.1) → fS c P.2.1 u = none → zWr φ A → zBk N c0 A e c →
    ∃ r φ', L_X2_wander_13 N k (ew e) (nI u) (nI (i % P.2.1)) (nI i) φ = some (r, φ') ∧ zWo φ' c0 r (wk P.1 P.2.1 n i c e u) ∧ zWr φ' (A ++ wr P.1 P.2.1 n i c e u) ∧ ∀ c', c' ≠ 1 → c' ≠ 5 → c' ≠ 6 → c' ≠ 7 → φ' c' = φ c' := by
  have hs := hW.2.1
  have hb := hW.1
  have h50 := hW.2.2.2.2
  have h6 := p2_6 hb.2
  intro n
  induction n with
  | zero =>
    intro i A φ c e u k hi hA hk hP hC hV he hu hh hf hR hB
    obtain ⟨k, rfl⟩ : ∃ j, k = j + 1 := ⟨k - 1, by omega⟩
    obtain ⟨φ', g1, g2, g3⟩ := zc_back hN hB (by omega) hC hR
    refine ⟨mI, φ', ?_, ⟨rfl, g2⟩, ?_, fun c' h1 _ _ _ => g3 c' h1⟩
    · show B_X2_wander_13 N _ (ew e) (nI u) (nI (i % P.2.1)) (nI i) φ = _
      unfold B_X2_wander_13
      simp (disch := omega) only [zn_L, zn_M, zn_R, hP.2.2.2.2, g1]
      rw [if_pos (by omega)]
    · show zWr φ' (A ++ [])
      rw [List.append_nil]
      exact zWr_c hR (g3 5 (by decide)) (g3 6 (by decide)) (g3 7 (by decide))
  | succ n ih =>
    intro i A φ c e u k hi hA hk hP hC hV he hu hh hf hR hB
    obtain ⟨k, rfl⟩ : ∃ j, k = j + 1 := ⟨k - 1, by omega⟩
    have him : i % P.2.1 < P.2.1 := Nat.mod_lt _ (by omega)
    obtain ⟨f, hcf⟩ := fS_full hf him
    obtain ⟨hf1, hf2, hf3, hf4⟩ := hV _ f hcf
    have ediv : (4 * u + i % P.2.1) / 4 = u := by omega
    have emod : (4 * u + i % P.2.1) % 4 = i % P.2.1 := by omega
    rw [ediv] at hf4
    have hV' : zWc P.1 P.2.1 (uC c (4 * u + i % P.2.1) (some e)) := zWc_u hV ⟨by omega, by omega⟩ he (by rw [ediv]; exact hh)
    have hC' := zCl_u hC (4 * u + i % P.2.1) (some e)
    have hcell : φ 1 (4 * u + i % P.2.1) = ew f := by
      rw [hC _ (by omega), hcf]
      rfl
    have hR' : zWr (upd2 φ 1 (4 * u + i % P.2.1) (cwo (some e))) A := zWr_c hR (upd2_o (by decide)) (upd2_o (by decide)) (upd2_o (by decide))
    obtain ⟨w, n1, n2, n3⟩ := zc_note (p := 4 * u + i % P.2.1) (t := f.1) hR' (by omega)
    have hw0 : w 0 = φ 0 := by rw [n3 0 (by decide) (by decide) (by decide), upd2_o (by decide)]
    have hPw : zPm w P := zPm_c hP hw0
    have hCw : zCl w (uC c (4 * u + i % P.2.1) (some e)) := zCl_c hC' (n3 1 (by decide) (by decide) (by decide))
    have hu2 : oth P.1 u f.1 < 2 ^ P.1 := oth_lt f.1 hu
    have hfree := zc_free hN (u := oth P.1 u f.1) hPw hCw hW hV' (by omega)
    have hB' := zBk_s (p := 4 * u + i % P.2.1) hB (by omega) hcf
    have hcwo : cwo (some e) = ew e := rfl
    rw [hcwo] at n1
    have hstep : L_X2_wander_13 N (k + 1) (ew e) (nI u) (nI (i % P.2.1)) (nI i) φ = (if zn_g (fun k => nI (4 * oth P.1 u f.1 + k)) mI (fS (uC c (4 * u + i % P.2.1) (some e)) P.2.1 (oth P.1 u f.1)) = mI then L_X2_wander_13 N k (ew f) (nI (oth P.1 u f.1)) (nI ((i + 1) % P.2.1)) (nI (i + 1)) w else obd (G_X2_setCell w (zn_g (fun k => nI (4 * oth P.1 u f.1 + k)) mI (fS (uC c (4 * u + i % P.2.1) (some e)) P.2.1 (oth P.1 u f.1))) (ew f)) fun w19 => some (nI (i + 1), w19)) := by
      show B_X2_wander_13 N _ (ew e) (nI u) (nI (i % P.2.1)) (nI i) φ = _
      unfold B_X2_wander_13
      simp (disch := omega) only [zn_L, zn_M, zn_R, hP.2.2.2.2, zc_place, zc_cell, zc_set, hcell, (zc_et hb.2 hf3).1]
      rw [if_neg (by omega), if_neg (by omega), n1]
      simp (disch := omega) only [zn_R, hPw.1, hPw.2.1, zc_part hf3.1 hb.2, hfree, zmod_s hs.1 hs.2]
      split
      · split <;> rfl
      · rfl
    rw [hstep]
    have ewk : wk P.1 P.2.1 (n + 1) i c e u = og (fun k => some (i + 1, uC (uC c (4 * u + i % P.2.1) (some e)) (4 * oth P.1 u f.1 + k) (some f))) (wk P.1 P.2.1 n (i + 1) (uC c (4 * u + i % P.2.1) (some e)) f (oth P.1 u f.1)) (fS (uC c (4 * u + i % P.2.1) (some e)) P.2.1 (oth P.1 u f.1)) := by
      simp only [wk, hcf, og_s]
    have ewr : wr P.1 P.2.1 (n + 1) i c e u = (4 * u + i % P.2.1, f.1) :: og (fun _ => []) (wr P.1 P.2.1 n (i + 1) (uC c (4 * u + i % P.2.1) (some e)) f (oth P.1 u f.1)) (fS (uC c (4 * u + i % P.2.1) (some e)) P.2.1 (oth P.1 u f.1)) := by
      simp only [wr, hcf, og_s]
    rw [ewk, ewr]
    cases hfs : fS (uC c (4 * u + i % P.2.1) (some e)) P.2.1 (oth P.1 u f.1) with
    | some j =>
      have hj := (fS_lt hfs).1
      refine ⟨nI (i + 1), upd2 w 1 (4 * oth P.1 u f.1 + j) (ew f), ?_, ⟨rfl, zCl_u hCw _ (some f)⟩, ?_, fun c' h1 h2 h3 h4 => ?_⟩
      · simp (disch := omega) only [zn_g, zn_R, if_false, zc_set]
      · exact zWr_c n2 (upd2_o (by decide)) (upd2_o (by decide)) (upd2_o (by decide))
      · rw [upd2_o h1, n3 c' h2 h3 h4, upd2_o h1]
    | none =>
      simp (disch := omega) only [zn_g, if_true]
      obtain ⟨r, φ', g1, g2, g3, g4⟩ := ih (i + 1) (A ++ [(4 * u + i % P.2.1, f.1)]) w (uC c (4 * u + i % P.2.1) (some e)) f (oth P.1 u f.1) k (by omega) (by rw [List.length_append, hA]; rfl) (by omega) hPw hCw hV' hf3 hu2 (by rw [oth_oth]; exact hf4.symm) hfs n2 hB'
      refine ⟨r, φ', g1, g2, ?_, fun c' h1 h2 h3 h4 => ?_⟩
      · rw [List.append_assoc] at g3
        exact g3
      · rw [g4 c' h1 h2 h3 h4, n3 c' h2 h3 h4, upd2_o h1]
