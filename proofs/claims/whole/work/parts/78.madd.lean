/-! the pure layer: adding an entry in the model -/
def put5 (ψ : M2) (n : Nat) (e : En) : M2 := upd2 (upd2 (upd2 (upd2 (upd2 ψ 1 (6 + 4 * n) (nI e.1)) 1 (6 + 4 * n + 1) (nI e.2.2.1)) 1 (6 + 4 * n + 2) (nI e.2.2.2)) 1 (6 + 4 * n + 3) (nI e.2.1)) 1 5 (nI (n + 1))
theorem put5_e (ψ : M2) (n : Nat) (e : En) (i : Nat) : put5 ψ n e 1 i = if i = 5 then nI (n + 1) else if i = 6 + 4 * n + 3 then nI e.2.1 else if i = 6 + 4 * n + 2 then nI e.2.2.2 else if i = 6 + 4 * n + 1 then nI e.2.2.1 else if i = 6 + 4 * n then nI e.1 else ψ 1 i := by
  unfold put5
  simp only [upd2_e, true_and]
theorem put5_o (ψ : M2) (n : Nat) (e : En) {c' : Nat} (h : c' ≠ 1) : put5 ψ n e c' = ψ c' := by
  unfold put5
  rw [upd2_o h, upd2_o h, upd2_o h, upd2_o h, upd2_o h]
theorem zMp_u {ψ : M2} {P : Pm} (h : zMp (ψ 1) P) {i : Nat} (hi : 5 ≤ i) (v : Int32) : zMp (upd2 ψ 1 i v 1) P := by
  unfold zMp at *
  rw [upd2_e, if_neg (by omega), upd2_e, if_neg (by omega), upd2_e, if_neg (by omega), upd2_e, if_neg (by omega), upd2_e, if_neg (by omega)]
  exact h
theorem put5_m {ψ : M2} {P : Pm} {c : Ce} {q : List En} {nk : Nat} {K : Nat → Nat} (h : zRM (ψ 1) P c q nk K) (hq : q.length < 3) (e : En) : zRM (put5 ψ q.length e 1) P c (q ++ [e]) nk K := by
  obtain ⟨h1, h2, h3, h4⟩ := h
  refine ⟨?_, fun p hp => ?_, ⟨?_, fun j f hf => ?_⟩, ?_, fun i hi => ?_⟩
  · exact zMp_u (zMp_u (zMp_u (zMp_u (zMp_u h1 (by omega) _) (by omega) _) (by omega) _) (by omega) _) (by omega) _
  · have := h2 p hp
    simp only [put5_e]
    refine ⟨?_, ?_, ?_, ?_⟩
    · rw [if_neg (by omega), if_neg (by omega), if_neg (by omega), if_neg (by omega), if_neg (by omega)]
      exact this.1
    · rw [if_neg (by omega), if_neg (by omega), if_neg (by omega), if_neg (by omega), if_neg (by omega)]
      exact this.2.1
    · rw [if_neg (by omega), if_neg (by omega), if_neg (by omega), if_neg (by omega), if_neg (by omega)]
      exact this.2.2.1
    · rw [if_neg (by omega), if_neg (by omega), if_neg (by omega), if_neg (by omega), if_neg (by omega)]
      exact this.2.2.2
  · rw [put5_e, if_pos rfl, List.length_append]
    rfl
  · simp only [put5_e]
    rcases Nat.lt_or_ge j q.length with g | g
    · rw [List.getElem?_append_left g] at hf
      have := h3.2 j f hf
      refine ⟨?_, ?_, ?_, ?_⟩
      · rw [if_neg (by omega), if_neg (by omega), if_neg (by omega), if_neg (by omega), if_neg (by omega)]
        exact this.1
      · rw [if_neg (by omega), if_neg (by omega), if_neg (by omega), if_neg (by omega), if_neg (by omega)]
        exact this.2.1
      · rw [if_neg (by omega), if_neg (by omega), if_neg (by omega), if_neg (by omega), if_neg (by omega)]
        exact this.2.2.1
      · rw [if_neg (by omega), if_neg (by omega), if_neg (by omega), if_neg (by omega), if_neg (by omega)]
        exact this.2.2.2
    · have e3 : j = q.length := by
        have := (List.getElem?_eq_some_iff.mp hf).1
        rw [List.length_append] at this
        simp at this
        omega
      subst e3
      have e2 : (q ++ [e])[q.length]? = some e := by simp
      rw [e2] at hf
      cases hf
      refine ⟨?_, ?_, ?_, ?_⟩
      · rw [if_neg (by omega), if_neg (by omega), if_neg (by omega), if_neg (by omega), if_pos rfl]
      · rw [if_neg (by omega), if_neg (by omega), if_neg (by omega), if_pos rfl]
      · rw [if_neg (by omega), if_neg (by omega), if_pos rfl]
      · rw [if_neg (by omega), if_pos rfl]
  · rw [put5_e, if_neg (by omega), if_neg (by omega), if_neg (by omega), if_neg (by omega), if_neg (by omega)]
    exact h4.1
  · rw [put5_e, if_neg (by omega), if_neg (by omega), if_neg (by omega), if_neg (by omega), if_neg (by omega)]
    exact h4.2 i hi
def zIm (ψ' : M2) (P : Pm) (c : Ce) (q : List En) (nk : Nat) (K : Nat → Nat) (r : Int32) : Option (Nat × Ce × List En) → Prop
  | some y => r = nI y.1 ∧ zRM (ψ' 1) P y.2.1 y.2.2 nk K
  | none => r = mI ∧ zRM (ψ' 1) P c q nk K
theorem zMc_c {g g' : Nat → Int32} {c : Ce} (h : zMc g c) (k : ∀ i, i < 1024 → g' (18 + i) = g (18 + i)) : zMc g' c := by
  intro p hp
  have a0 := k (4 * p) (by omega)
  have a1 := k (4 * p + 1) (by omega)
  have a2 := k (4 * p + 2) (by omega)
  have a3 := k (4 * p + 3) (by omega)
  have := h p hp
  exact ⟨a0.trans this.1, a1.trans this.2.1, a2.trans this.2.2.1, a3.trans this.2.2.2⟩
theorem zFr_o {ψ ψ' : M2} (h : ∀ c' i', zkp c' i' = true → ψ' c' i' = ψ c' i') : zFr ψ ψ' := h
theorem zkp_h {c i : Nat} (h : zkp c i = true) : (c ≠ 0 ∨ i < 6 ∨ 9 < i) ∧ c ≠ 6 ∧ c ≠ 1 := by
  refine ⟨?_, fun z => (by subst z; cases h), fun z => (by subst z; cases h)⟩
  by_cases z : c = 0 ∧ 6 ≤ i ∧ i ≤ 9
  · exfalso
    obtain ⟨z1, z2, z3⟩ := z
    subst z1
    have : i = 6 ∨ i = 7 ∨ i = 8 ∨ i = 9 := by omega
    rcases this with g | g | g | g
    · subst g
      cases h
    · subst g
      cases h
    · subst g
      cases h
    · subst g
      cases h
  · omega
set_option maxHeartbeats 1000000 in
theorem zm_addEntry {N : Nat} (hN : 5000 ≤ N) {ψ : M2} {P : Pm} {c : Ce} {q : List En} {nk : Nat} {K : Nat → Nat} {x : Nat} (hx : x < 1000) (hR : zRM (ψ 1) P c q nk K) (hF : zWF P c q nk K) : ∃ r ψ', G_X9_addEntry N ψ (nI x) = some (r, ψ') ∧ zIm ψ' P c q nk K r (insr P c q x) ∧ zSr ψ' (insw P c x) ∧ zFr ψ ψ' := by
  obtain ⟨hp, hc, hq, hk⟩ := hF
  have hb := hp.1
  have hs := hp.2.1
  have h6 := p2_6 hb.2
  have he := nE_ok hp x
  have het := zEo_lt hb.2 he
  obtain ⟨hP, hC, hS, hK⟩ := hR
  have hP1 : zMp (upd2 ψ 0 12 (nI 0) 1) P := by rw [upd2_o (by decide)]; exact hP
  obtain ⟨w, a1, a2, a3⟩ := zm_hold hP1 hp hx
  have w1 : w 1 = ψ 1 := by
    funext i
    rw [a3 1 i (Or.inl (by decide)), upd2_o (by decide)]
  have hPw : zMp (w 1) P := by rw [w1]; exact hP
  have hCw : zMc (w 1) c := by rw [w1]; exact hC
  have hFw : zFr ψ w := by
    intro c' i' hk'
    obtain ⟨k1, k2, k3⟩ := zkp_h hk'
    rw [a3 c' i' k1, upd2_e, if_neg (fun z => by rw [z.1, z.2] at hk'; cases hk')]
  have hRw : zSr w [] := ⟨by rw [a3 0 12 (by decide), upd2_e, if_pos ⟨rfl, rfl⟩]; rfl, fun j y hy => by simp at hy⟩
  have hS1 := zm_settles hN (u := (nE P x).2.1) hPw hCw hp hc het.2.1 a2 het.2.1
  have hS2 := zm_settles hN (u := oth P.1 (nE P x).2.1 (nE P x).1) hPw hCw hp hc (Nat.lt_of_lt_of_le (oth_lt _ he.2.1) h6) a2 het.2.1
  have hoth := zm_other hPw hp hx
  have q1 : oth P.1 (hm P.1 x P.2.2.2.1) (tg x P.2.2.2.1) = oth P.1 (nE P x).2.1 (nE P x).1 := rfl
  rw [q1] at hoth
  have hMk : ∀ (p : Nat), p < 256 → ∀ o, zRM (putE w p o 1) P (uC c p o) q nk K := fun p hp' o => by
    have hl := putE_l w hp' o
    exact ⟨zMp_c hPw hl, putE_c hCw hp' o, zMq_c (by rw [w1]; exact hS) hq.1 hl, zMk_c (by rw [w1]; exact hK) hl⟩
  have hSp : ∀ (p : Nat) o, zSr (putE w p o) [] := fun p o => ⟨by rw [putE_o _ _ _ (by decide)]; exact hRw.1, fun j y hy => by simp at hy⟩
  unfold insr insw
  cases hf1 : fS c P.2.1 (nE P x).2.1 with
  | some k =>
    have hsl : slp P.1 P.2.1 c (nE P x) = some (4 * (nE P x).2.1 + k) := by
      unfold slp
      rw [hf1]
    have hk4 := (fS_lt hf1).1
    rw [hsl]
    refine ⟨nI 0, putE w (4 * (nE P x).2.1 + k) (some (nE P x)), ?_, ⟨rfl, hMk _ (by omega) _⟩, hSp _ _, putE_f hFw _ _⟩
    unfold G_X9_addEntry
    simp (disch := omega) only [zn_L, zn_M, zn_R, a1, a2.2.2.2, hS1, hf1, zn_g]
    rw [if_neg (by omega)]
  | none =>
    rw [hf1] at hS1
    cases hf2 : fS c P.2.1 (oth P.1 (nE P x).2.1 (nE P x).1) with
    | some k =>
      have hsl : slp P.1 P.2.1 c (nE P x) = some (4 * oth P.1 (nE P x).2.1 (nE P x).1 + k) := by
        unfold slp
        rw [hf1, hf2]
      have hk4 := (fS_lt hf2).1
      have hol := oth_lt (nE P x).1 he.2.1
      rw [hsl]
      refine ⟨nI 0, putE w (4 * oth P.1 (nE P x).2.1 (nE P x).1 + k) (some (nE P x)), ?_, ⟨rfl, hMk _ (by omega) _⟩, hSp _ _, putE_f hFw _ _⟩
      unfold G_X9_addEntry
      simp (disch := omega) only [zn_L, zn_M, zn_R, a1, a2.2.2.2, hS1, zn_g, if_true, hoth, hS2, hf2]
      rw [if_neg (by omega)]
    | none =>
      rw [hf2] at hS2
      have hsl : slp P.1 P.2.1 c (nE P x) = none := by
        unfold slp
        rw [hf1, hf2]
      rw [hsl]
      simp only [og_n]
      obtain ⟨v, b1, b2, b3⟩ := zm_snap hN w (nI (nE P x).2.1)
      have v1 : v 1 = w 1 := funext fun i => b3 1 i (by decide)
      have hPv : zMp (v 1) P := by rw [v1]; exact hPw
      have hCv : zMc (v 1) c := by rw [v1]; exact hCw
      have hHv : zHe v (nE P x) := by
        have : v 0 = w 0 := funext fun i => b3 0 i (by decide)
        unfold zHe
        rw [this]
        exact a2
      have hRv : zSr v [] := ⟨by rw [b3 0 12 (by decide)]; exact hRw.1, fun j y hy => by simp at hy⟩
      have hFv : zFr ψ v := fun c' i' hk' => by rw [b3 c' i' (zkp_h hk').2.1]; exact hFw c' i' hk'
      obtain ⟨r, t, d1, d2, d3, d4, d5⟩ := zm_wloop hN hp (g0 := w 1) P.2.2.2.2 0 [] v c (nE P x) (nE P x).2.1 N (Nat.zero_add _) rfl (by have := hp.2.2.2.2; omega) hPv hCv hc he he.2.1 (Or.inl rfl) hf1 hHv hRv b2
      rw [List.nil_append] at d3
      rw [v1] at d4
      have hwalk : G_X9_walks N w (nI (nE P x).2.1) = some (r, t) := by
        unfold G_X9_walks
        simp only [zn_L, b1, zn_R, d1]
      have hFt : zFr ψ t := zFr_t hFv d5
      have hPt : zMp (t 1) P := zMp_c hPw d4
      have hSt : zMq (t 1) q := zMq_c (by rw [w1]; exact hS) hq.1 d4
      have hKt : zMk (t 1) nk K := zMk_c (by rw [w1]; exact hK) d4
      have hq3 := hq.1
      have hl50 := hp.2.2.2.2
      cases hw : wk P.1 P.2.1 P.2.2.2.2 0 c (nE P x) (nE P x).2.1 with
      | some z =>
        rw [hw] at d2
        obtain ⟨e1, e2, e3⟩ := d2
        subst e1
        refine ⟨nI z.1, t, ?_, ⟨rfl, hPt, e3, hSt, hKt⟩, d3, hFt⟩
        unfold G_X9_addEntry
        simp (disch := omega) only [zn_L, zn_M, zn_R, a1, a2.2.2.2, hS1, zn_g, if_true, hoth, hS2, hwalk, e2]
        rw [if_neg (by omega)]
      | none =>
        rw [hw] at d2
        obtain ⟨e1, e2⟩ := d2
        subst e1
        have hCt : zMc (t 1) c := zMc_c hCw e2
        rcases Nat.lt_or_ge q.length 3 with hl | hl
        · refine ⟨nI 100, put5 t q.length (nE P x), ?_, ?_, ?_, ?_⟩
          · unfold G_X9_addEntry
            simp (disch := omega) only [zn_L, zn_M, zn_R, a1, a2.2.2.2, hS1, zn_g, if_true, hoth, hS2, hwalk, hSt.1]
            rw [if_neg (by omega), zm_tag hPt hp hx]
            simp (disch := omega) only [zn_R]
            have r2 : upd2 t 1 (6 + 4 * q.length) (nI (tg x P.2.2.2.1)) 1 2 = nI P.2.2.1 := by
              rw [upd2_e, if_neg (by omega)]
              exact hPt.2.2.1
            have r3 : upd2 (upd2 t 1 (6 + 4 * q.length) (nI (tg x P.2.2.2.1))) 1 (6 + 4 * q.length + 1) (nI P.2.2.1) 1 2 = nI P.2.2.1 := by
              rw [upd2_e, if_neg (by omega)]
              exact r2
            rw [r2, r3, zm_print (zMp_u (zMp_u hPt (by omega) _) (by omega) _) hp hx hp.2.2.1.2]
            simp (disch := omega) only [zn_R]
            have r5 : upd2 (upd2 (upd2 (upd2 t 1 (6 + 4 * q.length) (nI (tg x P.2.2.2.1))) 1 (6 + 4 * q.length + 1) (nI P.2.2.1)) 1 (6 + 4 * q.length + 2) (nI (pr P.1 P.2.2.1 x P.2.2.2.1))) 1 (6 + 4 * q.length + 3) (nI (nE P x).2.1) 1 5 = nI q.length := by
              rw [upd2_e, if_neg (by omega), upd2_e, if_neg (by omega), upd2_e, if_neg (by omega), upd2_e, if_neg (by omega)]
              exact hSt.1
            rw [r5]
            simp only [zn_R]
            rfl
          · simp only [og_n, if_pos hl]
            exact ⟨rfl, put5_m ⟨hPt, hCt, hSt, hKt⟩ hl _⟩
          · refine ⟨?_, fun j y hy => ?_⟩
            · rw [put5_o _ _ _ (by decide)]
              exact d3.1
            · rw [put5_o _ _ _ (by decide), put5_o _ _ _ (by decide)]
              exact d3.2 j y hy
          · intro c' i' hk'
            rw [put5_o _ _ _ (zkp_h hk').2.2]
            exact hFt c' i' hk'
        · refine ⟨mI, t, ?_, ?_, d3, hFt⟩
          · unfold G_X9_addEntry
            simp (disch := omega) only [zn_L, zn_M, zn_R, a1, a2.2.2.2, hS1, zn_g, if_true, hoth, hS2, hwalk, hSt.1]
            rw [if_pos (by omega)]
          · simp only [og_n, if_neg (show ¬ q.length < 3 by omega)]
            exact ⟨rfl, hPt, hCt, hSt, hKt⟩
