/-! the pure layer: distributions; the model, second half; both sides -/
def zLd (ψ : M2) (h o L : Nat → Nat) (n s : Nat) : Prop := zLs ψ h o L n ∧ ∀ u, u < 64 → ψ 13 u = nI (cI L u n) ∧ cI L u n ≤ s
theorem zLd_DIST {ψ : M2} {h o L : Nat → Nat} {n s : Nat} (H : zLd ψ h o L n s) : DIST h o s n := ⟨L, H.1.2.1, fun u hu => (H.2 u hu).2⟩
theorem zLd_f {ψ ψ' : M2} {h o L : Nat → Nat} {n s : Nat} (H : zLd ψ h o L n s) (hf : ∀ c', c' ≠ 14 → c' ≠ 15 → ψ' c' = ψ c') : zLd ψ' h o L n s := by
  unfold zLd zLs at *
  rw [hf 10 (by decide) (by decide), hf 11 (by decide) (by decide), hf 12 (by decide) (by decide), hf 13 (by decide) (by decide)]
  exact H
theorem m_shift {N : Nat} (hN : 5000 ≤ N) {ψ : M2} {h o L : Nat → Nat} {n s u : Nat} {T : Bs} (hs : s ≤ 4) (hn : n < 120) (h64 : ∀ i, h i < 64 ∧ o i < 64) (hL : zLd ψ h o L n s) (h10 : ψ 10 n = nI (h n)) (h11 : ψ 11 n = nI (o n)) (hT : zQ h o L n T) (hR : zRb ψ n T) (hr : (T.2.1 u).isSome = true) (hfree : cI L u n < s) : ∃ L2 ψ', G_X9_shifts N ψ (nI n) (nI u) = some ψ' ∧ zLd ψ' h o L2 (n + 1) s ∧ fr6 ψ ψ' := by
  have hu := hT.2.2.1 u hr
  have hm := hT.2.2.2.2.1 u hr
  obtain ⟨a, ha⟩ := List.mem_iff_getElem?.mp hm
  have hal := (List.getElem?_eq_some_iff.mp ha).1
  have hl64 : T.1.length ≤ 64 := by rw [hT.1]; exact cnt_le _ _
  have hdu := hT.2.2.2.1 a u ha
  obtain ⟨hL1, hL2⟩ := hL
  have h13 := (hL2 u hu).1
  have hw3 : zLs (upd2 ψ 13 u (nI (cI L u n + 1))) h o L n := by
    unfold zLs at *
    rw [upd2_o (c' := 10) (by decide), upd2_o (c' := 11) (by decide), upd2_o (c' := 12) (by decide)]
    exact hL1
  obtain ⟨z, L2, w, g1, g2, g3, g4, g5⟩ := m_walk (N := N) hn h64 hL1.2.1 hT (T.2.2 u) u L (upd2 ψ 13 u (nI (cI L u n + 1))) N rfl (by omega) hr (fun _ _ _ _ => rfl) hw3 (fun v hv => by
    rw [upd2_o (by decide)]
    exact hR.2 v hv)
  have e : ∀ v, cI (fun i => if i = n then z else L2 i) v (n + 1) = cI L v n + (if u = v then 1 else 0) := fun v => by
    have e1 : cI (fun i => if i = n then z else L2 i) v n = cI L2 v n := cI_c n (fun i hi => if_neg (by omega))
    rw [cI_s, e1, if_pos rfl]
    exact g4 v
  refine ⟨fun i => if i = n then z else L2 i, upd2 w 12 n (nI z), ?_, ⟨⟨fun j hj => ?_, fun j hj => ?_, fun j hj => ?_⟩, fun v hv => ?_⟩, ?_⟩
  · unfold G_X9_shifts
    simp (disch := omega) only [zn_L, zn_R, h13, g1]
  · rw [upd2_e]
    show _ = nI (if j = n then z else L2 j)
    by_cases k : j = n
    · rw [if_pos ⟨rfl, k⟩, if_pos k]
    · rw [if_neg (fun z => k z.2), if_neg k]
      exact g3.1 j (by omega)
  · dsimp only
    by_cases k : j = n
    · rw [if_pos k, k]
      exact g2
    · rw [if_neg k]
      exact g3.2.1 j (by omega)
  · rw [upd2_o (by decide), upd2_o (by decide), g5 10 (by decide), g5 11 (by decide), upd2_o (by decide), upd2_o (by decide)]
    by_cases k : j = n
    · rw [k]
      exact ⟨h10, h11⟩
    · exact hL1.2.2 j (by omega)
  · rw [upd2_o (by decide), g5 13 (by decide), upd2_e, e v]
    obtain ⟨b1, b2⟩ := hL2 v hv
    by_cases k : v = u
    · subst k
      rw [if_pos ⟨rfl, rfl⟩, if_pos rfl]
      exact ⟨rfl, by omega⟩
    · rw [if_neg (fun z => k z.2), if_neg (fun z => k z.symm)]
      exact ⟨b1, by omega⟩
  · intro c' hc
    rw [upd2_o (by omega), g5 c' (by omega), upd2_o (by omega)]
theorem m_stuck {h o L : Nat → Nat} {n s : Nat} {T : Bs} {ψ : M2} (h64 : ∀ i, h i < 64 ∧ o i < 64) (hL : zLd ψ h o L n s) (hT : zQ h o L n T) (rh : (T.2.1 (h n)).isSome = true) (ro : (T.2.1 (o n)).isSome = true) (hd : ∀ (k u : Nat), T.1[k]? = some u → s ≤ cI L u n ∧ ∀ j, j < n → L j = u → (T.2.1 (ot h o L j)).isSome = true) : ¬ DIST h o s (n + 1) := by
  have hd2 : ∀ u, (T.2.1 u).isSome = true → s ≤ cI L u n ∧ ∀ j, j < n → L j = u → (T.2.1 (ot h o L j)).isSome = true := fun u hu => by
    obtain ⟨k, hk⟩ := List.mem_iff_getElem?.mp (hT.2.2.2.2.1 u hu)
    exact hd k u hk
  refine DIST_no (f := L) (R := fun u => (T.2.1 u).isSome) (fun i _ => h64 i) hL.1.2.1 (fun u hu hr => Nat.le_antisymm (hL.2 u hu).2 (hd2 u hr).1) (fun i hi hr => ?_) rh ro
  have h1 := (hd2 (L i) hr).2 i hi rfl
  have hr : (T.2.1 (L i)).isSome = true := hr
  rcases hL.1.2.1 i hi with e | e
  · rw [ot_h e] at h1
    rw [e] at hr
    exact ⟨hr, h1⟩
  · rw [ot_o e] at h1
    rw [e] at hr
    exact ⟨h1, hr⟩
def zDo (ψ' : M2) (h o : Nat → Nat) (n s : Nat) (r : Int32) : Prop := (r = nI 1 ∧ ∃ L2, zLd ψ' h o L2 (n + 1) s) ∨ (r = nI 0 ∧ ¬ DIST h o s (n + 1))
theorem m_dloop {N : Nat} (hN : 5000 ≤ N) {h o L : Nat → Nat} {n s : Nat} (hs : s ≤ 4) (hn : n < 120) (h64 : ∀ i, h i < 64 ∧ o i < 64) : ∀ (m a : Nat) (T : Bs) (ψ : M2) (F : Nat), a + m = 64 → m < F → zQ h o L n T → zRb ψ n T → zLd ψ h o L n s → ψ 10 n = nI (h n) → ψ 11 n = nI (o n) → (∀ (k u : Nat), k < a → T.1[k]? = some u → s ≤ cI L u n ∧ ∀ j, j < n → L j = u → (T.2.1 (ot h o L j)).isSome = true) → (T.2.1 (h n)).isSome = true → (T.2.1 (o n)).isSome = true → ∃ r ψ', L_X9_distributes_74 N (nI n) (nI s) F (nI T.1.length) (nI a) ψ = some (r, ψ') ∧ fr6 ψ ψ' ∧ zDo ψ' h o n s r := by
  intro m
  induction m with
  | zero =>
    intro a T ψ F ha hF hT hR hL h10 h11 hd rh ro
    obtain ⟨F, rfl⟩ : ∃ j, F = j + 1 := ⟨F - 1, by omega⟩
    have hl64 : T.1.length ≤ 64 := by rw [hT.1]; exact cnt_le _ _
    refine ⟨nI 0, ψ, ?_, fr6_r ψ, Or.inr ⟨rfl, m_stuck h64 hL hT rh ro fun k u hk => hd k u ?_ hk⟩⟩
    · show B_X9_distributes_74 N (nI n) (nI s) _ (nI T.1.length) (nI a) ψ = _
      unfold B_X9_distributes_74
      simp (disch := omega) only [zn_L, zn_M, zn_R]
      rw [if_pos (by omega)]
    · have := (List.getElem?_eq_some_iff.mp hk).1
      omega
  | succ m ih =>
    intro a T ψ F ha hF hT hR hL h10 h11 hd rh ro
    obtain ⟨F, rfl⟩ : ∃ j, F = j + 1 := ⟨F - 1, by omega⟩
    have hl64 : T.1.length ≤ 64 := by rw [hT.1]; exact cnt_le _ _
    cases hj : T.1[a]? with
    | none =>
      have hl := List.getElem?_eq_none_iff.mp hj
      refine ⟨nI 0, ψ, ?_, fr6_r ψ, Or.inr ⟨rfl, m_stuck h64 hL hT rh ro fun k u hk => hd k u ?_ hk⟩⟩
      · show B_X9_distributes_74 N (nI n) (nI s) _ (nI T.1.length) (nI a) ψ = _
        unfold B_X9_distributes_74
        simp (disch := omega) only [zn_L, zn_M, zn_R]
        rw [if_pos (by omega)]
      · have := (List.getElem?_eq_some_iff.mp hk).1
        omega
    | some u =>
      have hlt := (List.getElem?_eq_some_iff.mp hj).1
      have hur := hT.2.1 u (List.mem_of_getElem? hj)
      have hu := hT.2.2.1 u hur
      have h14 := hR.1 a u hj
      obtain ⟨h13, hle⟩ := hL.2 u hu
      by_cases g : s ≤ cI L u n
      · obtain ⟨T', w, w1, w2, w3, w4, w5, w6⟩ := m_scan hN (nI s) hn h64 hL.1 hT hR hj
        obtain ⟨r, ψ', g1, g2, g3⟩ := ih (a + 1) T' w F (by omega) (by omega) w2 w3 (zLd_f hL w6) (by rw [w6 10 (by decide) (by decide)]; exact h10) (by rw [w6 11 (by decide) (by decide)]; exact h11) (fun k v hk hv => by
          rw [w4.2.1 k (by omega)] at hv
          by_cases e : k = a
          · subst e
            rw [hj] at hv
            have e2 := Option.some.inj hv
            subst e2
            exact ⟨g, w5⟩
          · obtain ⟨d1, d2⟩ := hd k v (by omega) hv
            refine ⟨d1, fun j hj hjv => ?_⟩
            have := d2 j hj hjv
            rw [(w4.2.2 _ this).1]
            exact this) (by rw [(w4.2.2 _ rh).1]; exact rh) (by rw [(w4.2.2 _ ro).1]; exact ro)
        refine ⟨r, ψ', ?_, fr6_t (fun c' hc => w6 c' (by omega) (by omega)) g2, g3⟩
        rw [← g1]
        show B_X9_distributes_74 N (nI n) (nI s) _ (nI T.1.length) (nI a) ψ = _
        unfold B_X9_distributes_74
        simp (disch := omega) only [zn_L, zn_M, zn_R, h14, h13, w1]
        rw [if_neg (by omega), if_pos g]
      · obtain ⟨L2, w, w1, w2, w3⟩ := m_shift hN hs hn h64 hL h10 h11 hT hR hur (by omega)
        refine ⟨nI 1, w, ?_, w3, Or.inl ⟨rfl, L2, w2⟩⟩
        show B_X9_distributes_74 N (nI n) (nI s) _ (nI T.1.length) (nI a) ψ = _
        unfold B_X9_distributes_74
        simp (disch := omega) only [zn_L, zn_M, zn_R, h14, h13, w1]
        rw [if_neg (by omega), if_neg g]
theorem m_dist {N : Nat} (hN : 5000 ≤ N) {ψ : M2} {h o L : Nat → Nat} {n s : Nat} (hs : s ≤ 4) (hn : n < 120) (h64 : ∀ i, h i < 64 ∧ o i < 64) (hne : o n ≠ h n) (hL : zLd ψ h o L n s) (h10 : ψ 10 n = nI (h n)) (h11 : ψ 11 n = nI (o n)) : ∃ r ψ', G_X9_distributes N ψ (nI n) (nI s) = some (r, ψ') ∧ fr6 ψ ψ' ∧ zDo ψ' h o n s r := by
  have hh := h64 n
  have hloop := zn_for (fun k i w => L_X9_distributes_2 N (nI n) (nI s) k (nI i) w) 64 (fun i w => (∀ t, t < i → w 15 t = mI) ∧ ∀ c', c' ≠ 15 → w c' = ψ c') (fun w => (∀ t, t < 64 → w 15 t = mI) ∧ ∀ c', c' ≠ 15 → w c' = ψ c') (fun i w hi hI => ?_) (fun w hI => ?_) N 0 ψ (by omega) ⟨fun t h => by omega, fun _ _ => rfl⟩ (by omega)
  · obtain ⟨w, g1, g2, g3⟩ := hloop
    have e10 : w 10 n = nI (h n) := by rw [g3 10 (by decide)]; exact h10
    have e11 : w 11 n = nI (o n) := by rw [g3 11 (by decide)]; exact h11
    have hw4 : ∀ c', c' ≠ 14 → c' ≠ 15 → upd2 (upd2 (upd2 (upd2 w 14 0 (nI (h n))) 14 1 (nI (o n))) 15 (h n) (nI n)) 15 (o n) (nI n) c' = ψ c' := fun c' h1 h2 => by
      rw [upd2_o h2, upd2_o h2, upd2_o h1, upd2_o h1]
      exact g3 c' h2
    have hR : zRb (upd2 (upd2 (upd2 (upd2 w 14 0 (nI (h n))) 14 1 (nI (o n))) 15 (h n) (nI n)) 15 (o n) (nI n)) n (b0 (h n) (o n)) := by
      rw [b0_e hne]
      refine ⟨fun j u hj => ?_, fun v hv => ?_⟩
      · rw [upd2_o (by decide), upd2_o (by decide), upd2_e]
        have hj : [h n, o n][j]? = some u := hj
        match j, hj with
        | 0, hj =>
          have e : h n = u := by simpa using hj
          rw [if_neg (by omega), upd2_e, if_pos ⟨rfl, rfl⟩, e]
        | 1, hj =>
          have e : o n = u := by simpa using hj
          rw [if_pos ⟨rfl, rfl⟩, e]
        | j + 2, hj => simp at hj
      · rw [upd2_e]
        show _ = og (fun o => og nI (nI n) o) mI (if v = o n then some none else if v = h n then some none else none)
        by_cases e : v = o n
        · rw [if_pos ⟨rfl, e⟩, if_pos e]
          rfl
        · rw [if_neg (fun z => e z.2), if_neg e, upd2_e]
          by_cases e2 : v = h n
          · rw [if_pos ⟨rfl, e2⟩, if_pos e2]
            rfl
          · rw [if_neg (fun z => e2 z.2), if_neg e2, upd2_o (by decide), upd2_o (by decide)]
            exact g2 v hv
    have hlen : (b0 (h n) (o n)).1.length = 2 := by
      rw [b0_e hne]
      rfl
    obtain ⟨r, ψ', d1, d2, d3⟩ := m_dloop hN hs hn h64 64 0 (b0 (h n) (o n)) _ N (by omega) (by omega) (b0_Q hh.1 hh.2) hR (zLd_f hL hw4) (by rw [hw4 10 (by decide) (by decide)]; exact h10) (by rw [hw4 11 (by decide) (by decide)]; exact h11) (fun k u hk => by omega) (nt_mono nt_re) nt_re
    refine ⟨r, ψ', ?_, fr6_t (fun c' hc => hw4 c' (by omega) (by omega)) d2, d3⟩
    rw [← d1, hlen]
    have f1 : upd2 w 14 0 (nI (h n)) 11 n = nI (o n) := by rw [upd2_o (by decide)]; exact e11
    have f2 : upd2 (upd2 w 14 0 (nI (h n))) 14 1 (nI (o n)) 10 n = nI (h n) := by rw [upd2_o (by decide), upd2_o (by decide)]; exact e10
    have f3 : upd2 (upd2 (upd2 w 14 0 (nI (h n))) 14 1 (nI (o n))) 15 (h n) (nI n) 11 n = nI (o n) := by rw [upd2_o (by decide), upd2_o (by decide), upd2_o (by decide)]; exact e11
    unfold G_X9_distributes
    simp (disch := omega) only [zn_L, zn_R, g1, e10, f1, f2, f3]
  · refine ⟨upd2 w 15 i mI, ⟨fun t ht => ?_, fun c' hc => ?_⟩, fun k => ?_⟩
    · rw [upd2_e]
      by_cases g : t = i
      · rw [if_pos ⟨rfl, g⟩]
      · rw [if_neg (fun z => g z.2)]
        exact hI.1 t (by omega)
    · rw [upd2_o hc]
      exact hI.2 c' hc
    · show B_X9_distributes_2 N (nI n) (nI s) _ (nI i) w = _
      unfold B_X9_distributes_2
      simp (disch := omega) only [zn_L, zn_M, zn_R]
      rw [if_neg (by omega)]
  · refine ⟨w, hI, fun k => ?_⟩
    show B_X9_distributes_2 N (nI n) (nI s) _ (nI 64) w = _
    unfold B_X9_distributes_2
    simp (disch := omega) only [zn_L, zn_M, zn_R]
    rw [if_pos (by omega)]
theorem dHO_ne {P : Pm} (hW : zWp P) (K : Nat → Nat) (i : Nat) : dO P K i ≠ dH P K i := oth_ne _ _ hW.1.1
theorem m_fit {N : Nat} (hN : 5000 ≤ N) {P : Pm} {nk : Nat} {K : Nat → Nat} (hW : zWp P) (hk : zWk nk K) : ∀ (m i : Nat) (L : Nat → Nat) (ψ : M2) (F : Nat), i + m = nk → m < F → zMk (ψ 1) nk K → zLd ψ (dH P K) (dO P K) L i P.2.1 → ∃ r ψ', L_X9_couldFit_55 N (nI P.1) (nI P.2.1) (nI P.2.2.2.1) F (nI i) ψ = some (r, ψ') ∧ fr6 ψ ψ' ∧ ((r = nI 1 ∧ DIST (dH P K) (dO P K) P.2.1 nk) ∨ (r = nI 0 ∧ ¬ DIST (dH P K) (dO P K) P.2.1 nk)) := by
  have hn := hk.1
  have hs := hW.2.1
  have hb := hW.1
  have he := hW.2.2.2.1
  have h6 := p2_6 hb.2
  have hp := Nat.two_pow_pos P.1
  intro m
  induction m with
  | zero =>
    intro i L ψ F hi hF hK hL
    obtain ⟨F, rfl⟩ : ∃ j, F = j + 1 := ⟨F - 1, by omega⟩
    have e : i = nk := hi
    subst e
    refine ⟨nI 1, ψ, ?_, fr6_r ψ, Or.inl ⟨rfl, zLd_DIST hL⟩⟩
    show B_X9_couldFit_55 N (nI P.1) (nI P.2.1) (nI P.2.2.2.1) _ (nI i) ψ = _
    unfold B_X9_couldFit_55
    simp (disch := omega) only [zn_L, zn_M, zn_R, hK.1]
    rw [if_pos (by omega)]
  | succ m ih =>
    intro i L ψ F hi hF hK hL
    obtain ⟨F, rfl⟩ : ∃ j, F = j + 1 := ⟨F - 1, by omega⟩
    have hx := (hk.2 i (by omega)).1
    have hkey := hK.2 i (by omega)
    have hcd := zn_cd9 hx he
    have hcl := cd_lt (K i) P.2.2.2.1
    have htg : cd (K i) P.2.2.2.1 / 16384 < 64 := tg_lt _ _
    have hst := zm_step htg hb.2
    have e1 : cd (K i) P.2.2.2.1 % 16384 % 2 ^ P.1 = dH P K i := rfl
    have e2 : dH P K i ^^^ stp (cd (K i) P.2.2.2.1 / 16384) P.1 = dO P K i := rfl
    have f1 : upd2 ψ 10 i (nI (dH P K i)) 10 i = nI (dH P K i) := by rw [upd2_e, if_pos ⟨rfl, rfl⟩]
    have h64 : ∀ i, dH P K i < 64 ∧ dO P K i < 64 := fun i => by
      have := dHO hW K i
      omega
    have hw : fr6 ψ (upd2 (upd2 ψ 10 i (nI (dH P K i))) 11 i (nI (dO P K i))) := fr6_u (fr6_u (fr6_r ψ) (by decide) _) (by decide) _
    have hLw : zLd (upd2 (upd2 ψ 10 i (nI (dH P K i))) 11 i (nI (dO P K i))) (dH P K) (dO P K) L i P.2.1 := by
      obtain ⟨⟨a1, a2, a3⟩, a4⟩ := hL
      refine ⟨⟨fun j hj => ?_, a2, fun j hj => ?_⟩, fun u hu => ?_⟩
      · rw [upd2_o (by decide), upd2_o (by decide)]
        exact a1 j hj
      · rw [upd2_o (c' := 10) (by decide), upd2_e, if_neg (by omega), upd2_e, if_neg (by omega), upd2_o (by decide)]
        exact a3 j hj
      · rw [upd2_o (by decide), upd2_o (by decide)]
        exact a4 u hu
    obtain ⟨r, w, w1, w2, w3⟩ := m_dist hN hs.2 (by omega) h64 (dHO_ne hW K i) hLw (by rw [upd2_o (by decide)]; exact f1) (by rw [upd2_e, if_pos ⟨rfl, rfl⟩])
    have w4 := fr6_t hw w2
    rcases w3 with ⟨rfl, L2, w5⟩ | ⟨rfl, w5⟩
    · obtain ⟨r, ψ', g1, g2, g3⟩ := ih (i + 1) L2 w F (by omega) (by omega) (by rw [w4 1 (by decide)]; exact hK) w5
      refine ⟨r, ψ', ?_, fr6_t w4 g2, g3⟩
      rw [← g1]
      show B_X9_couldFit_55 N (nI P.1) (nI P.2.1) (nI P.2.2.2.1) _ (nI i) ψ = _
      unfold B_X9_couldFit_55
      simp (disch := omega) only [zn_L, zn_M, zn_R, hK.1, hkey, hcd, Nat.one_mul, hst, e1, f1, e2, w1, zn_B, if_false]
      rw [if_neg (by omega)]
    · refine ⟨nI 0, w, ?_, w4, Or.inr ⟨rfl, fun z => w5 (DIST_le (by omega) z)⟩⟩
      show B_X9_couldFit_55 N (nI P.1) (nI P.2.1) (nI P.2.2.2.1) _ (nI i) ψ = _
      unfold B_X9_couldFit_55
      simp (disch := omega) only [zn_L, zn_M, zn_R, hK.1, hkey, hcd, Nat.one_mul, hst, e1, f1, e2, w1, if_true]
      rw [if_neg (by omega)]
theorem m_zero {N : Nat} (hN : 5000 ≤ N) (ψ : M2) (v1 v2 v3 : Int32) : ∃ w, L_X9_couldFit_31 N v1 v2 v3 N (nI 0) ψ = some w ∧ ((∀ t, t < 64 → w 13 t = nI 0) ∧ ∀ c', c' ≠ 13 → w c' = ψ c') := by
  refine zn_for (fun k i w => L_X9_couldFit_31 N v1 v2 v3 k (nI i) w) 64 (fun i w => (∀ t, t < i → w 13 t = nI 0) ∧ ∀ c', c' ≠ 13 → w c' = ψ c') (fun w => (∀ t, t < 64 → w 13 t = nI 0) ∧ ∀ c', c' ≠ 13 → w c' = ψ c') (fun i w hi hI => ?_) (fun w hI => ?_) N 0 ψ (by omega) ⟨fun t h => by omega, fun _ _ => rfl⟩ (by omega)
  · refine ⟨upd2 w 13 i (nI 0), ⟨fun t ht => ?_, fun c' hc => ?_⟩, fun k => ?_⟩
    · rw [upd2_e]
      by_cases g : t = i
      · rw [if_pos ⟨rfl, g⟩]
      · rw [if_neg (fun z => g z.2)]
        exact hI.1 t (by omega)
    · rw [upd2_o hc]
      exact hI.2 c' hc
    · show B_X9_couldFit_31 N v1 v2 v3 _ (nI i) w = _
      unfold B_X9_couldFit_31
      simp (disch := omega) only [zn_L, zn_M, zn_R]
      rw [if_neg (by omega)]
  · refine ⟨w, hI, fun k => ?_⟩
    show B_X9_couldFit_31 N v1 v2 v3 _ (nI 64) w = _
    unfold B_X9_couldFit_31
    simp (disch := omega) only [zn_L, zn_M, zn_R]
    rw [if_pos (by omega)]
theorem zn_in118 : G_X9_in (nI 1) (nI 1) (nI 8) = nI 1 := by decide
section PK
variable {N : Nat}
theorem pq_29 (hN : 5000 ≤ N) : Pk29 N zRl := by
  intro u0 φ η τ ψ hv p1 p2 p3 hrel
  have fail : G_X8_couldFit N u0 φ η τ p1 p2 p3 = some (1, nI 0, u0, φ, η, τ) → G_X9_areNumbers p1 p2 (nI 1) p3 = nI 0 → ∃ (k0 : Nat) (r0 : Int32) (u0r φr : M2) (ηr : HT) (τr : M2) (r1 : Int32) (ψr : M2), G_X8_couldFit N u0 φ η τ p1 p2 p3 = some (k0, r0, u0r, φr, ηr, τr) ∧ (k0 = 0 ∨ k0 = 1) ∧ G_X9_couldFit N ψ p1 p2 p3 = some (r1, ψr) ∧ ψr 0 5 = hkc 1 k0 ∧ (k0 = 0 → r0 = r1 ∧ (r1 = 0 ∨ r1 = 1)) ∧ zRl u0r φr ηr τr ψr hv := by
    intro h1 h2
    refine ⟨1, nI 0, u0, φ, η, τ, nI 0, upd2 ψ 0 5 (nI 1), h1, Or.inr rfl, ?_, u55 _ _, fun z => (by cases z), zRl_5 hrel _⟩
    simp only [G_X9_couldFit, zn_L, zn_R, h2, if_true, u55, zn_B, if_false]
  rcases zp_in p1 1 6 (by decide) (by decide) with ⟨b, hb1, hb2, rfl, k1, k2⟩ | ⟨k1, k2⟩
  · rcases zp_in p2 1 4 (by decide) (by decide) with ⟨s, hs1, hs2, rfl, q1, q2⟩ | ⟨q1, q2⟩
    · rcases zp_in p3 0 99 (by decide) (by decide) with ⟨e, he1, he2, rfl, i1, i2⟩ | ⟨i1, i2⟩
      · have hnum : G_X9_areNumbers (nI b) (nI s) (nI 1) (nI e) = nI 1 := by
          unfold G_X9_areNumbers
          simp only [zn_L, zn_R, k2, q2, i2, zn_in118, zn_B, if_false]
        obtain ⟨S, V, X, ⟨hR, hM, hF⟩, hVV, hT⟩ := id hrel
        have hW : zWp (b, s, S.1.2.2.1, e, S.1.2.2.2.2) := ⟨⟨hb1, hb2⟩, ⟨hs1, hs2⟩, hF.1.2.2.1, by show e < 100; omega, hF.1.2.2.2.2⟩
        obtain ⟨w1, a1, a2, a3⟩ := zc_copy hN φ hR hF
        obtain ⟨r, w2, c1, c2⟩ := zc_dist hN hW hF.2.2.2 (show zRC w1 S.1 S.2.1 S.2.2.1 S.2.2.2.1 S.2.2.2.2 from a2)
        obtain ⟨m1, d1, d2, d3⟩ := m_zero hN (upd2 ψ 0 5 (nI 0)) (nI b) (nI s) (nI e)
        have hK : zMk (m1 1) S.2.2.2.1 S.2.2.2.2 := by
          rw [d3 1 (by decide), u51]
          exact hM.2.2.2
        obtain ⟨r', m2, e1, e2, e3⟩ := m_fit hN hW hF.2.2.2 S.2.2.2.1 0 (fun _ => 0) m1 N (by omega) (by have := hF.2.2.2.1; omega) hK ⟨⟨fun j hj => by omega, fun j hj => by omega, fun j hj => by omega⟩, fun u hu => ⟨d2 u hu, Nat.zero_le _⟩⟩
        have e1 : L_X9_couldFit_55 N (nI b) (nI s) (nI e) N (nI 0) m1 = some (r', m2) := e1
        have heq : r = r' ∧ (r' = nI 0 ∨ r' = nI 1) := by
          rcases c2 with ⟨x1, x2⟩ | ⟨x1, x2⟩
          · rcases e3 with ⟨y1, y2⟩ | ⟨y1, y2⟩
            · exact ⟨x1.trans y1.symm, Or.inr y1⟩
            · exact absurd x2 y2
          · rcases e3 with ⟨y1, y2⟩ | ⟨y1, y2⟩
            · exact absurd y2 x2
            · exact ⟨x1.trans y1.symm, Or.inl y1⟩
        have hfr : ∀ c', c' < 10 → m2 c' = upd2 ψ 0 5 (nI 0) c' := fun c' hc => by rw [e2 c' (Or.inl hc), d3 c' (by omega)]
        refine ⟨0, r, u0, w2, η, τ, r', m2, ?_, Or.inl rfl, ?_, ?_, fun _ => heq, ?_⟩
        · simp only [G_X8_couldFit, zn_L, zn_R, k1, q1, i1, zn_B, if_false, a1, c1, a3]
        · simp only [G_X9_couldFit, zn_L, zn_R, hnum, zn_B, if_false, u55, if_true, d1, e1]
        · rw [hfr 0 (by decide)]
          exact u55 _ _
        · exact zRl_f hrel (by rw [hfr 1 (by decide), u51]) (by rw [hfr 2 (by decide), upd2_o (by decide)]) (by rw [hfr 3 (by decide), upd2_o (by decide)]) (by rw [hfr 0 (by decide), upd2_e, if_neg (by decide)]) (by rw [hfr 0 (by decide), upd2_e, if_neg (by decide)])
      · refine fail ?_ ?_
        · simp only [G_X8_couldFit, zn_L, zn_R, k1, q1, i1, zn_B, if_false, if_true]
        · simp only [G_X9_areNumbers, zn_L, zn_R, k2, q2, i2, zn_in118, zn_B, if_false, if_true]
    · refine fail ?_ ?_
      · simp only [G_X8_couldFit, zn_L, zn_R, k1, q1, zn_B, if_false, if_true]
      · simp only [G_X9_areNumbers, zn_L, zn_R, k2, q2, zn_B, if_false, if_true]
  · refine fail ?_ ?_
    · simp only [G_X8_couldFit, zn_L, zn_R, k1, if_true]
    · simp only [G_X9_areNumbers, zn_L, zn_R, k2, if_true]
end PK
