/-! the pure layer: pages of the model -/
theorem zRM_x {g g' : Nat → Int32} {P : Pm} {c : Ce} {q : List En} {nk : Nat} {K : Nat → Nat} (hR : zRM g P c q nk K) (hq : q.length ≤ 3) (hn : nk ≤ 120) (h : ∀ i, i < 1163 → g' i = g i) : zRM g' P c q nk K := by
  obtain ⟨h1, h2, h3, h4⟩ := hR
  refine ⟨?_, fun p hp => ?_, ⟨?_, fun i e he => ?_⟩, ⟨?_, fun i hi => ?_⟩⟩
  · unfold zMp at *
    rw [h 0 (by omega), h 1 (by omega), h 2 (by omega), h 3 (by omega), h 4 (by omega)]
    exact h1
  · rw [h _ (by omega), h _ (by omega), h _ (by omega), h _ (by omega)]
    exact h2 p hp
  · rw [h 5 (by omega)]
    exact h3.1
  · have := (List.getElem?_eq_some_iff.mp he).1
    rw [h _ (by omega), h _ (by omega), h _ (by omega), h _ (by omega)]
    exact h3.2 i e he
  · rw [h 1042 (by omega)]
    exact h4.1
  · rw [h _ (by omega)]
    exact h4.2 i hi
theorem zRMs_x {g g' : Nat → Int32} {S : St} (hR : zRMs g S) (hF : zWFs S) (h : ∀ i, i < 1163 → g' i = g i) : zRMs g' S := zRM_x hR hF.2.2.1.1 hF.2.2.2.1 h
theorem zm_copy {N : Nat} (hN : 5000 ≤ N) (ψ : M2) {p : Nat} (hp : p < 6) : ∃ ψ', G_X9_copy N ψ (nI p) = some ψ' ∧ ((∀ t, ψ' 2 t = if 1163 * p ≤ t ∧ t < 1163 * p + 1163 then ψ 1 (t - 1163 * p) else ψ 2 t) ∧ ∀ c', c' ≠ 2 → ψ' c' = ψ c') := by
  have hloop := zn_for (fun k i s => L_X9_copy_2 N (nI p) k (nI i) s) 1163 (fun i s => (∀ t, s 2 t = if 1163 * p ≤ t ∧ t < 1163 * p + i then ψ 1 (t - 1163 * p) else ψ 2 t) ∧ ∀ c' i', c' ≠ 2 → s c' i' = ψ c' i') (fun s => (∀ t, s 2 t = if 1163 * p ≤ t ∧ t < 1163 * p + 1163 then ψ 1 (t - 1163 * p) else ψ 2 t) ∧ ∀ c' i', c' ≠ 2 → s c' i' = ψ c' i') (fun i s hi hI => ⟨upd2 s 2 (1163 * p + i) (s 1 i), ⟨fun t => by
      rw [upd2_e]
      by_cases g : t = 1163 * p + i
      · rw [if_pos ⟨rfl, g⟩, if_pos (by omega), hI.2 1 i (by decide), g, Nat.add_sub_cancel_left]
      · rw [if_neg (fun z => g z.2), hI.1]
        by_cases g2 : 1163 * p ≤ t ∧ t < 1163 * p + i
        · rw [if_pos g2, if_pos (by omega)]
        · rw [if_neg g2, if_neg (by omega)], fun c' i' hc => by
      rw [upd2_e, if_neg (fun z => hc z.1)]
      exact hI.2 c' i' hc⟩, fun k => by
      show B_X9_copy_2 N (nI p) _ (nI i) s = _
      unfold B_X9_copy_2
      simp (disch := omega) only [zn_L, zn_M, zn_R]
      rw [if_neg (by omega)]⟩) (fun s hI => ⟨s, hI, fun k => by
      show B_X9_copy_2 N (nI p) _ (nI 1163) s = _
      unfold B_X9_copy_2
      simp (disch := omega) only [zn_L, zn_M, zn_R]
      rw [if_pos (by omega)]⟩) N 0 ψ (by omega) ⟨fun t => by rw [if_neg (by omega)], fun _ _ _ => rfl⟩ (by omega)
  obtain ⟨w, g1, g2, g3⟩ := hloop
  refine ⟨w, ?_, g2, fun c' hc => funext fun i' => g3 c' i' hc⟩
  unfold G_X9_copy
  simp only [zn_L, g1, zn_R]
theorem zm_lay {N : Nat} (hN : 5000 ≤ N) (ψ : M2) {p : Nat} (hp : p < 6) : ∃ ψ', G_X9_layBack N ψ (nI p) = some ψ' ∧ ((∀ t, t < 1163 → ψ' 1 t = ψ 2 (1163 * p + t)) ∧ ∀ c', c' ≠ 1 → ψ' c' = ψ c') := by
  have hloop := zn_for (fun k i s => L_X9_layBack_2 N (nI p) k (nI i) s) 1163 (fun i s => (∀ t, t < i → s 1 t = ψ 2 (1163 * p + t)) ∧ ∀ c' i', c' ≠ 1 → s c' i' = ψ c' i') (fun s => (∀ t, t < 1163 → s 1 t = ψ 2 (1163 * p + t)) ∧ ∀ c' i', c' ≠ 1 → s c' i' = ψ c' i') (fun i s hi hI => ⟨upd2 s 1 i (s 2 (1163 * p + i)), ⟨fun t ht => by
      rw [upd2_e]
      by_cases g : t = i
      · rw [if_pos ⟨rfl, g⟩, hI.2 2 _ (by decide), g]
      · rw [if_neg (fun z => g z.2)]
        exact hI.1 t (by omega), fun c' i' hc => by
      rw [upd2_e, if_neg (fun z => hc z.1)]
      exact hI.2 c' i' hc⟩, fun k => by
      show B_X9_layBack_2 N (nI p) _ (nI i) s = _
      unfold B_X9_layBack_2
      simp (disch := omega) only [zn_L, zn_M, zn_R]
      rw [if_neg (by omega)]⟩) (fun s hI => ⟨s, hI, fun k => by
      show B_X9_layBack_2 N (nI p) _ (nI 1163) s = _
      unfold B_X9_layBack_2
      simp (disch := omega) only [zn_L, zn_M, zn_R]
      rw [if_pos (by omega)]⟩) N 0 ψ (by omega) ⟨fun t h => by omega, fun _ _ _ => rfl⟩ (by omega)
  obtain ⟨w, g1, g2, g3⟩ := hloop
  refine ⟨w, ?_, g2, fun c' hc => funext fun i' => g3 c' i' hc⟩
  unfold G_X9_layBack
  simp only [zn_L, g1, zn_R]
def zVm (ψ : M2) (V : List St) : Prop := ψ 0 2 = nI V.length ∧ ∀ (i : Nat) (T : St), V[i]? = some T → zRMs (fun j => ψ 2 (1163 * i + j)) T
/-- room for one more state; the pages aside stay -/
theorem zm_room4 {N : Nat} (hN : 5000 ≤ N) {ψ : M2} {V : List St} (hV : zVm ψ V) (hw : zVw V) : ∃ ψ' W, G_X9_makeRoom N ψ = some ψ' ∧ zVm ψ' W ∧ W.length ≤ 3 ∧ zVw W ∧ (∀ S, pushV V S = W ++ [S]) ∧ (∀ t, 4652 ≤ t → ψ' 2 t = ψ 2 t) ∧ ∀ c' i', c' ≠ 2 → (c' ≠ 0 ∨ i' ≠ 2) → ψ' c' i' = ψ c' i' := by
  obtain ⟨h1, h2⟩ := hV
  have hl := hw.1
  by_cases hk : V.length = 4
  · have hloop := zn_for (fun k i s => L_X9_makeRoom_10 N k (nI i) s) 3489 (fun i s => (∀ t, s 2 t = if t < i then ψ 2 (t + 1163) else ψ 2 t) ∧ ∀ c' i', c' ≠ 2 → s c' i' = ψ c' i') (fun s => (∀ t, s 2 t = if t < 3489 then ψ 2 (t + 1163) else ψ 2 t) ∧ ∀ c' i', c' ≠ 2 → s c' i' = ψ c' i') (fun i s hi hI => ⟨upd2 s 2 i (s 2 (i + 1163)), ⟨fun t => by
        rw [upd2_e]
        by_cases g : t = i
        · rw [if_pos ⟨rfl, g⟩, if_pos (by omega), hI.1, if_neg (by omega), g]
        · rw [if_neg (fun z => g z.2), hI.1]
          by_cases g2 : t < i
          · rw [if_pos g2, if_pos (by omega)]
          · rw [if_neg g2, if_neg (by omega)], fun c' i' hc => by
        rw [upd2_e, if_neg (fun z => hc z.1)]
        exact hI.2 c' i' hc⟩, fun k => by
        show B_X9_makeRoom_10 N _ (nI i) s = _
        unfold B_X9_makeRoom_10
        simp (disch := omega) only [zn_L, zn_M, zn_R]
        rw [if_neg (by omega)]⟩) (fun s hI => ⟨s, hI, fun k => by
        show B_X9_makeRoom_10 N _ (nI 3489) s = _
        unfold B_X9_makeRoom_10
        simp (disch := omega) only [zn_L, zn_M, zn_R]
        rw [if_pos (by omega)]⟩) N 0 ψ (by omega) ⟨fun t => by rw [if_neg (by omega)], fun _ _ _ => rfl⟩ (by omega)
    obtain ⟨w, g1, g2, g3⟩ := hloop
    have w2 : w 0 2 = nI 4 := by rw [g3 0 2 (by decide), h1, hk]
    have hdl : (V.drop 1).length = 3 := by rw [List.length_drop, hk]
    refine ⟨upd2 w 0 2 (nI 3), V.drop 1, ?_, ⟨?_, fun i T hT => ?_⟩, by omega, ⟨by omega, fun T hT => hw.2 T (List.mem_of_mem_drop hT)⟩, fun S => ?_, fun t ht => ?_, fun c' i' hc hi => ?_⟩
    · unfold G_X9_makeRoom
      simp (disch := omega) only [zn_L, zn_M, zn_R, h1, hk, if_true, g1, w2]
    · rw [upd2_e, if_pos ⟨rfl, rfl⟩, hdl]
    · rw [List.getElem?_drop] at hT
      have hi := (List.getElem?_eq_some_iff.mp hT).1
      have hm := h2 _ _ hT
      refine zRMs_x hm (hw.2 T (List.mem_of_getElem? hT)) (fun j hj => ?_)
      show upd2 w 0 2 (nI 3) 2 (1163 * i + j) = ψ 2 (1163 * (1 + i) + j)
      rw [upd2_o (by decide), g2, if_pos (by omega), show 1163 * i + j + 1163 = 1163 * (1 + i) + j by omega]
    · unfold pushV
      rw [if_pos hk]
    · rw [upd2_o (by decide), g2, if_neg (by omega)]
    · rw [upd2_e, if_neg (by omega)]
      exact g3 c' i' hc
  · refine ⟨ψ, V, ?_, ⟨h1, h2⟩, by omega, hw, fun S => ?_, fun _ _ => rfl, fun _ _ _ _ => rfl⟩
    · unfold G_X9_makeRoom
      simp (disch := omega) only [zn_L, zn_M, zn_R, h1]
      rw [if_neg hk]
    · unfold pushV
      rw [if_neg hk]
theorem zVm_app {ψ ψ' : M2} {V : List St} {S : St} (hV : zVm ψ V) (hw : zVw V) (hl : V.length ≤ 3) (h02 : ψ' 0 2 = nI (V.length + 1)) (hin : zRMs (fun j => ψ' 2 (1163 * V.length + j)) S) (hout : ∀ t, t < 1163 * V.length → ψ' 2 t = ψ 2 t) : zVm ψ' (V ++ [S]) := by
  refine ⟨by rw [h02, List.length_append]; rfl, fun i T hT => ?_⟩
  rcases Nat.lt_or_ge i V.length with g | g
  · rw [List.getElem?_append_left g] at hT
    refine zRMs_x (hV.2 i T hT) (hw.2 T (List.mem_of_getElem? hT)) (fun j hj => ?_)
    exact hout _ (by omega)
  · have hl := (List.getElem?_eq_some_iff.mp hT).1
    rw [List.length_append] at hl
    have e1 : i = V.length := by
      simp at hl
      omega
    subst e1
    have e2 : (V ++ [S])[V.length]? = some S := by simp
    rw [e2] at hT
    cases hT
    exact hin
/-- everything but the pages and their number -/
def zF2 (ψ ψ' : M2) : Prop := ∀ c' i', c' ≠ 2 → (c' ≠ 0 ∨ i' ≠ 2) → ψ' c' i' = ψ c' i'
theorem zm_keep {N : Nat} (hN : 5000 ≤ N) {ψ : M2} {V : List St} {S : St} (hR : zRMs (ψ 1) S) (hF : zWFs S) (hV : zVm ψ V) (hw : zVw V) : ∃ ψ', G_X9_keep N ψ = some ψ' ∧ zVm ψ' (pushV V S) ∧ zF2 ψ ψ' := by
  obtain ⟨w, W, a1, a2, a3, a4, a5, a6, a7⟩ := zm_room4 hN hV hw
  obtain ⟨v, b1, b2, b3⟩ := zm_copy hN w (p := W.length) (by omega)
  have v2 : v 0 2 = nI W.length := by
    rw [b3 0 (by decide)]
    exact a2.1
  refine ⟨upd2 v 0 2 (nI (W.length + 1)), ?_, ?_, fun c' i' hc hi => ?_⟩
  · unfold G_X9_keep
    simp (disch := omega) only [zn_L, zn_M, zn_R, a1, a2.1, b1, v2]
  · rw [a5]
    refine zVm_app a2 a4 a3 (by rw [upd2_e, if_pos ⟨rfl, rfl⟩]) (zRMs_x hR hF (fun j hj => ?_)) (fun t ht => ?_)
    · show upd2 v 0 2 (nI (W.length + 1)) 2 (1163 * W.length + j) = ψ 1 j
      rw [upd2_o (by decide), b2, if_pos (by omega), Nat.add_sub_cancel_left]
      exact a7 1 j (by decide) (Or.inl (by decide))
    · rw [upd2_o (by decide), b2, if_neg (by omega)]
  · rw [upd2_e, if_neg (by omega), b3 c' hc]
    exact a7 c' i' hc hi
theorem zm_aside {N : Nat} (hN : 5000 ≤ N) {ψ : M2} {V : List St} {S : St} {p : Nat} (hp : 4 ≤ p) (hp6 : p < 6) (hR : zRMs (fun j => ψ 2 (1163 * p + j)) S) (hF : zWFs S) (hV : zVm ψ V) (hw : zVw V) : ∃ ψ', G_X9_keepAside N ψ (nI p) = some ψ' ∧ zVm ψ' (pushV V S) ∧ zF2 ψ ψ' := by
  obtain ⟨w, W, a1, a2, a3, a4, a5, a6, a7⟩ := zm_room4 hN hV hw
  have hloop := zn_for (fun k i s => L_X9_keepAside_6 N (nI p) k (nI i) s) 1163 (fun i s => (∀ t, s 2 t = if 1163 * W.length ≤ t ∧ t < 1163 * W.length + i then w 2 (1163 * p + (t - 1163 * W.length)) else w 2 t) ∧ ∀ c' i', c' ≠ 2 → s c' i' = w c' i') (fun s => (∀ t, s 2 t = if 1163 * W.length ≤ t ∧ t < 1163 * W.length + 1163 then w 2 (1163 * p + (t - 1163 * W.length)) else w 2 t) ∧ ∀ c' i', c' ≠ 2 → s c' i' = w c' i') (fun i s hi hI => ⟨upd2 s 2 (1163 * W.length + i) (s 2 (1163 * p + i)), ⟨fun t => by
      rw [upd2_e]
      by_cases g : t = 1163 * W.length + i
      · rw [if_pos ⟨rfl, g⟩, if_pos (by omega), hI.1, if_neg (by omega), g, Nat.add_sub_cancel_left]
      · rw [if_neg (fun z => g z.2), hI.1]
        by_cases g2 : 1163 * W.length ≤ t ∧ t < 1163 * W.length + i
        · rw [if_pos g2, if_pos (by omega)]
        · rw [if_neg g2, if_neg (by omega)], fun c' i' hc => by
      rw [upd2_e, if_neg (fun z => hc z.1)]
      exact hI.2 c' i' hc⟩, fun k => by
      have e02 : s 0 2 = nI W.length := by rw [hI.2 0 2 (by decide)]; exact a2.1
      show B_X9_keepAside_6 N (nI p) _ (nI i) s = _
      unfold B_X9_keepAside_6
      simp (disch := omega) only [zn_L, zn_M, zn_R, e02]
      rw [if_neg (by omega)]⟩) (fun s hI => ⟨s, hI, fun k => by
      show B_X9_keepAside_6 N (nI p) _ (nI 1163) s = _
      unfold B_X9_keepAside_6
      simp (disch := omega) only [zn_L, zn_M, zn_R]
      rw [if_pos (by omega)]⟩) N 0 w (by omega) ⟨fun t => by rw [if_neg (by omega)], fun _ _ _ => rfl⟩ (by omega)
  obtain ⟨v, b1, b2, b3⟩ := hloop
  have v2 : v 0 2 = nI W.length := by
    rw [b3 0 2 (by decide)]
    exact a2.1
  refine ⟨upd2 v 0 2 (nI (W.length + 1)), ?_, ?_, fun c' i' hc hi => ?_⟩
  · unfold G_X9_keepAside
    simp (disch := omega) only [zn_L, zn_M, zn_R, a1, b1, v2]
  · rw [a5]
    refine zVm_app a2 a4 a3 (by rw [upd2_e, if_pos ⟨rfl, rfl⟩]) (zRMs_x hR hF (fun j hj => ?_)) (fun t ht => ?_)
    · show upd2 v 0 2 (nI (W.length + 1)) 2 (1163 * W.length + j) = ψ 2 (1163 * p + j)
      rw [upd2_o (by decide), b2, if_pos (by omega), Nat.add_sub_cancel_left]
      exact a6 _ (by omega)
    · rw [upd2_o (by decide), b2, if_neg (by omega)]
  · rw [upd2_e, if_neg (by omega), b3 c' i' hc]
    exact a7 c' i' hc hi
/-- the relation of the class's and the model's memory -/
def zTx (τ ψ : M2) (X : List Nat) : Prop := X.length ≤ 100 ∧ τ 0 1 = nI X.length ∧ ψ 0 4 = nI X.length ∧ ∀ (i x : Nat), X[i]? = some x → x < 128 ∧ τ 1 i = nI x ∧ ψ 3 i = nI x
def zRl (u0 φ : M2) (η : HT) (τ ψ : M2) (hv : Int64) : Prop := ∃ (S : St) (V : List St) (X : List Nat), (zRCs u0 S ∧ zRMs (ψ 1) S ∧ zWFs S) ∧ (zVc η V ∧ zVm ψ V ∧ zVw V) ∧ zTx τ ψ X
theorem zVm_f {ψ ψ' : M2} {V : List St} (h : zVm ψ V) (hF : zFr ψ ψ') : zVm ψ' V := by
  have e2 : ψ' 2 = ψ 2 := funext fun i => hF 2 i rfl
  refine ⟨by rw [hF 0 2 rfl]; exact h.1, fun i T hT => ?_⟩
  rw [e2]
  exact h.2 i T hT
theorem zTx_f {τ ψ ψ' : M2} {X : List Nat} (h : zTx τ ψ X) (hF : zFr ψ ψ') : zTx τ ψ' X := by
  refine ⟨h.1, h.2.1, by rw [hF 0 4 rfl]; exact h.2.2.1, fun i x hx => ?_⟩
  rw [hF 3 i rfl]
  exact h.2.2.2 i x hx
