/-! the pure layer: copies, saved states -/
abbrev St : Type := Pm × Ce × List En × Nat × (Nat → Nat)
def zRCs (φ : M2) (S : St) : Prop := zRC φ S.1 S.2.1 S.2.2.1 S.2.2.2.1 S.2.2.2.2
def zRMs (g : Nat → Int32) (S : St) : Prop := zRM g S.1 S.2.1 S.2.2.1 S.2.2.2.1 S.2.2.2.2
def zWFs (S : St) : Prop := zWF S.1 S.2.1 S.2.2.1 S.2.2.2.1 S.2.2.2.2
theorem zc_cp (L : Nat → Int32 → M2 → Option M2) (c n : Nat) (hs : ∀ k i s, i < n → L (k + 1) (nI i) s = L k (nI (i + 1)) (upd2 s c i (s (c + 11) i))) (he : ∀ k s, L (k + 1) (nI n) s = some s) {N : Nat} (hN : n < N) (s0 : M2) : ∃ w, L N (nI 0) s0 = some w ∧ ((∀ t, t < n → w c t = s0 (c + 11) t) ∧ ∀ c', c' ≠ c → w c' = s0 c') := by
  have hloop := zn_for (fun k i s => L k (nI i) s) n (fun i s => (∀ t, t < i → s c t = s0 (c + 11) t) ∧ ∀ c' i', c' ≠ c → s c' i' = s0 c' i') (fun s => (∀ t, t < n → s c t = s0 (c + 11) t) ∧ ∀ c' i', c' ≠ c → s c' i' = s0 c' i') (fun i s hi hI => ⟨upd2 s c i (s (c + 11) i), ⟨fun t ht => by
      rw [upd2_e]
      by_cases g : t = i
      · rw [if_pos ⟨rfl, g⟩, hI.2 _ _ (by omega), g]
      · rw [if_neg (fun z => g z.2)]
        exact hI.1 t (by omega), fun c' i' hc => by
      rw [upd2_e, if_neg (fun z => hc z.1)]
      exact hI.2 c' i' hc⟩, fun k => hs k i s hi⟩) (fun s hI => ⟨s, hI, fun k => he k s⟩) N 0 s0 (Nat.zero_le _) ⟨fun t h => by omega, fun _ _ _ => rfl⟩ (by omega)
  obtain ⟨w, g1, g2, g3⟩ := hloop
  exact ⟨w, g1, g2, fun c' hc => funext fun i' => g3 c' i' hc⟩
theorem zRC_x {φ φ' : M2} {P : Pm} {c : Ce} {q : List En} {nk : Nat} {K : Nat → Nat} (hR : zRC φ P c q nk K) (hF : zWF P c q nk K) (h0 : ∀ i, i ≤ 4 ∨ i = 7 → φ' 0 i = φ 0 i) (h1 : ∀ t, t < 256 → φ' 1 t = φ 1 t) (h2 : ∀ t, t < 3 → φ' 2 t = φ 2 t) (h3 : φ' 3 1 = φ 3 1) (h4 : ∀ t, t < 120 → φ' 4 t = φ 4 t) : zRC φ' P c q nk K := by
  obtain ⟨hP, hC, hS, hK⟩ := hR
  have hn := hF.2.2.2.1
  have hq := hF.2.2.1.1
  refine ⟨?_, fun p hp => ?_, ⟨?_, fun i e he => ?_⟩, ⟨?_, fun i hi => ?_⟩⟩
  · unfold zPm at *
    rw [h0 0 (by omega), h0 1 (by omega), h0 2 (by omega), h0 3 (by omega), h0 4 (by omega)]
    exact hP
  · rw [h1 p hp]
    exact hC p hp
  · rw [h0 7 (by omega)]
    exact hS.1
  · have := (List.getElem?_eq_some_iff.mp he).1
    rw [h2 i (by omega)]
    exact hS.2 i e he
  · rw [h3]
    exact hK.1
  · rw [h4 i (by omega)]
    exact hK.2 i hi
theorem zc_copy {N : Nat} (hN : 5000 ≤ N) (a : M2) {b : M2} {S : St} (hR : zRCs b S) (hF : zWFs S) : ∃ w, G_X2_copyFrom N (xPm a b) = some w ∧ zRCs w S ∧ xsh w = b := by
  have hx : ∀ j i, xPm a b (j + 11) i = b j i := fun j i => by
    unfold xPm
    rw [if_neg (by omega), Nat.add_sub_cancel]
  -- the numbers
  have q1 : ∀ (s : M2) (i : Nat) (v : Int32) (c' i' : Nat), c' ≠ 0 → upd2 s 0 i v c' i' = s c' i' := fun s i v c' i' h => by rw [upd2_o h]
  obtain ⟨w1, a1, a2, a3⟩ := zc_cp (fun k i s => L_X2_copyFrom_42 N k i s) 1 256 (fun k i s hi => by
    show B_X2_copyFrom_42 N _ (nI i) s = _
    unfold B_X2_copyFrom_42
    simp (disch := omega) only [zn_L, zn_M, zn_R]
    rw [if_neg (by omega), if_neg (by omega)]) (fun k s => by
    show B_X2_copyFrom_42 N _ (nI 256) s = _
    unfold B_X2_copyFrom_42
    simp (disch := omega) only [zn_L, zn_M, zn_R]
    rw [if_pos (by omega)]) (N := N) (by omega) (upd2 (upd2 (upd2 (upd2 (upd2 (xPm a b) 0 0 (b 0 0)) 0 1 (b 0 1)) 0 2 (b 0 2)) 0 3 (b 0 3)) 0 4 (b 0 4))
  obtain ⟨w2, b1, b2, b3⟩ := zc_cp (fun k i s => L_X2_copyFrom_80 N k i s) 2 3 (fun k i s hi => by
    show B_X2_copyFrom_80 N _ (nI i) s = _
    unfold B_X2_copyFrom_80
    simp (disch := omega) only [zn_L, zn_M, zn_R]
    rw [if_neg (by omega), if_neg (by omega)]) (fun k s => by
    show B_X2_copyFrom_80 N _ (nI 3) s = _
    unfold B_X2_copyFrom_80
    simp (disch := omega) only [zn_L, zn_M, zn_R]
    rw [if_pos (by omega)]) (N := N) (by omega) w1
  obtain ⟨w3, d1, d2, d3⟩ := zc_cp (fun k i s => L_X4_copyFrom_2 N k i s) 4 120 (fun k i s hi => by
    show B_X4_copyFrom_2 N _ (nI i) s = _
    unfold B_X4_copyFrom_2
    simp (disch := omega) only [zn_L, zn_M, zn_R]
    rw [if_neg (by omega), if_neg (by omega)]) (fun k s => by
    show B_X4_copyFrom_2 N _ (nI 120) s = _
    unfold B_X4_copyFrom_2
    simp (disch := omega) only [zn_L, zn_M, zn_R]
    rw [if_pos (by omega)]) (N := N) (by omega) (upd2 w2 0 7 (b 0 7))
  have hw2 : ∀ c', c' ≠ 0 → c' ≠ 1 → c' ≠ 2 → w2 c' = xPm a b c' := fun c' h0 h1 h2 => by
    rw [b3 c' h2, a3 c' h1, upd2_o h0, upd2_o h0, upd2_o h0, upd2_o h0, upd2_o h0]
  have h117 : w2 11 7 = b 0 7 := by
    rw [hw2 11 (by decide) (by decide) (by decide)]
    exact hx 0 7
  have h141 : w3 14 1 = b 3 1 := by
    rw [d3 14 (by decide), upd2_o (by decide), hw2 14 (by decide) (by decide) (by decide)]
    exact hx 3 1
  refine ⟨upd2 w3 3 1 (b 3 1), ?_, ?_, ?_⟩
  · have e0 : xPm a b 11 0 = b 0 0 := hx 0 0
    have e1 : xPm a b 11 1 = b 0 1 := hx 0 1
    have e2 : xPm a b 11 2 = b 0 2 := hx 0 2
    have e3 : xPm a b 11 3 = b 0 3 := hx 0 3
    have e4 : xPm a b 11 4 = b 0 4 := hx 0 4
    have b1 : L_X2_copyFrom_80 N N (nI 0) w1 = some w2 := b1
    have d1 : L_X4_copyFrom_2 N N (nI 0) (upd2 w2 0 7 (b 0 7)) = some w3 := d1
    have a1 : L_X2_copyFrom_42 N N (nI 0) (upd2 (upd2 (upd2 (upd2 (upd2 (xPm a b) 0 0 (b 0 0)) 0 1 (b 0 1)) 0 2 (b 0 2)) 0 3 (b 0 3)) 0 4 (b 0 4)) = some w1 := a1
    have n11 : ((11 : Nat) = 0) = False := by decide
    have p1 : upd2 (xPm a b) 0 0 (b 0 0) 11 1 = b 0 1 := by rw [upd2_o (by decide)]; exact e1
    have p2 : upd2 (upd2 (xPm a b) 0 0 (b 0 0)) 0 1 (b 0 1) 11 2 = b 0 2 := by rw [upd2_o (by decide), upd2_o (by decide)]; exact e2
    have p3 : upd2 (upd2 (upd2 (xPm a b) 0 0 (b 0 0)) 0 1 (b 0 1)) 0 2 (b 0 2) 11 3 = b 0 3 := by rw [upd2_o (by decide), upd2_o (by decide), upd2_o (by decide)]; exact e3
    have p4 : upd2 (upd2 (upd2 (upd2 (xPm a b) 0 0 (b 0 0)) 0 1 (b 0 1)) 0 2 (b 0 2)) 0 3 (b 0 3) 11 4 = b 0 4 := by rw [upd2_o (by decide), upd2_o (by decide), upd2_o (by decide), upd2_o (by decide)]; exact e4
    simp only [G_X2_copyFrom, G_X4_copyFrom, zn_L, zn_R, e0, p1, p2, p3, p4, a1, b1, h117, d1, h141]
  · have f0 : ∀ i, i ≤ 4 ∨ i = 7 → upd2 w3 3 1 (b 3 1) 0 i = b 0 i := by
      intro i hi
      rw [upd2_o (by decide), d3 0 (by decide), upd2_e]
      by_cases g : i = 7
      · rw [if_pos ⟨rfl, g⟩, g]
      · rw [if_neg (fun z => g z.2), b3 0 (by decide), a3 0 (by decide)]
        simp only [upd2_e, true_and]
        have : i = 0 ∨ i = 1 ∨ i = 2 ∨ i = 3 ∨ i = 4 := by omega
        rcases this with h | h | h | h | h <;> (subst h; rfl)
    refine zRC_x hR hF f0 (fun t ht => ?_) (fun t ht => ?_) ?_ (fun t ht => ?_)
    · rw [upd2_o (by decide), d3 1 (by decide), upd2_o (by decide), b3 1 (by decide), a2 t ht, upd2_o (by decide), upd2_o (by decide), upd2_o (by decide), upd2_o (by decide), upd2_o (by decide)]
      exact hx 1 t
    · rw [upd2_o (by decide), d3 2 (by decide), upd2_o (by decide), b2 t ht, a3 13 (by decide), upd2_o (by decide), upd2_o (by decide), upd2_o (by decide), upd2_o (by decide), upd2_o (by decide)]
      exact hx 2 t
    · rw [upd2_e, if_pos ⟨rfl, rfl⟩]
    · rw [upd2_o (by decide), d2 t ht, upd2_o (by decide), hw2 15 (by decide) (by decide) (by decide)]
      exact hx 4 t
  · funext j i
    show upd2 w3 3 1 (b 3 1) (j + 11) i = b j i
    rw [upd2_o (by omega), d3 _ (by omega), upd2_o (by omega), hw2 _ (by omega) (by omega) (by omega)]
    exact hx j i
/-! saved states of the class -/
def pushV (V : List St) (S : St) : List St := (if V.length = 4 then V.drop 1 else V) ++ [S]
def zVc (η : HT) (V : List St) : Prop := η.2 = nI V.length ∧ ∀ (i : Nat) (T : St), V[i]? = some T → zRCs (η.1 i) T
def zVw (V : List St) : Prop := V.length ≤ 4 ∧ ∀ T, T ∈ V → zWFs T
theorem pushV_w {V : List St} {S : St} (h : zVw V) (hS : zWFs S) : zVw (pushV V S) := by
  unfold pushV
  refine ⟨?_, fun T hT => ?_⟩
  · rw [List.length_append]
    split
    · rename_i g
      rw [List.length_drop]
      show V.length - 1 + 1 ≤ 4
      omega
    · have := h.1
      show V.length + 1 ≤ 4
      omega
  · rcases List.mem_append.mp hT with k | k
    · split at k
      · exact h.2 T (List.mem_of_mem_drop k)
      · exact h.2 T k
    · rw [List.mem_singleton.mp k]
      exact hS
theorem zVc_app {e : Nat → M2} {V : List St} {S : St} {q : M2} {n : Int32} (hn : n = nI (V.length + 1)) (h : ∀ (i : Nat) (T : St), V[i]? = some T → zRCs (e i) T) (hq : zRCs q S) : zVc (hup (e, n) V.length q) (V ++ [S]) := by
  refine ⟨by show n = _; rw [hn, List.length_append]; rfl, fun i T hT => ?_⟩
  show zRCs (if i = V.length then q else e i) T
  rcases Nat.lt_or_ge i V.length with g | g
  · rw [List.getElem?_append_left g] at hT
    rw [if_neg (by omega)]
    exact h i T hT
  · have hl := (List.getElem?_eq_some_iff.mp hT).1
    rw [List.length_append] at hl
    have e1 : i = V.length := by
      simp at hl
      omega
    subst e1
    have e2 : (V ++ [S])[V.length]? = some S := by simp
    rw [e2] at hT
    cases hT
    rw [if_pos rfl]
    exact hq
theorem zc_push {N : Nat} (hN : 5000 ≤ N) {u0 : M2} {η : HT} {V : List St} {S : St} (hR : zRCs u0 S) (hF : zWFs S) (hV : zVc η V) (hl : V.length ≤ 4) : ∃ η', H_push N u0 η = some (u0, η') ∧ zVc η' (pushV V S) := by
  obtain ⟨h1, h2⟩ := hV
  have hp : ∀ k, V.length = k → k < 4 → zVc (hup (η.1, nI (k + 1)) k u0) (pushV V S) → True := fun _ _ _ _ => trivial
  unfold H_push
  rw [h1]
  have hcase : V.length = 0 ∨ V.length = 1 ∨ V.length = 2 ∨ V.length = 3 ∨ V.length = 4 := by omega
  rcases hcase with hk | hk | hk | hk | hk
  · obtain ⟨w, a1, a2, a3⟩ := zc_copy hN (η.1 0) hR hF
    have hap := zVc_app (q := w) (n := 1) (e := η.1) (by rw [hk]; rfl) h2 a2
    have epv : pushV V S = V ++ [S] := by
      unfold pushV
      rw [if_neg (by omega)]
    rw [epv]
    rw [hk] at hap ⊢
    refine ⟨_, ?_, hap⟩
    rw [if_pos (by decide), a1]
    simp only [zn_R, a3]
  · obtain ⟨w, a1, a2, a3⟩ := zc_copy hN (η.1 1) hR hF
    have hap := zVc_app (q := w) (n := 2) (e := η.1) (by rw [hk]; rfl) h2 a2
    have epv : pushV V S = V ++ [S] := by
      unfold pushV
      rw [if_neg (by omega)]
    rw [epv]
    rw [hk] at hap ⊢
    refine ⟨_, ?_, hap⟩
    rw [if_neg (by decide), if_pos (by decide), a1]
    simp only [zn_R, a3]
  · obtain ⟨w, a1, a2, a3⟩ := zc_copy hN (η.1 2) hR hF
    have hap := zVc_app (q := w) (n := 3) (e := η.1) (by rw [hk]; rfl) h2 a2
    have epv : pushV V S = V ++ [S] := by
      unfold pushV
      rw [if_neg (by omega)]
    rw [epv]
    rw [hk] at hap ⊢
    refine ⟨_, ?_, hap⟩
    rw [if_neg (by decide), if_neg (by decide), if_pos (by decide), a1]
    simp only [zn_R, a3]
  · obtain ⟨w, a1, a2, a3⟩ := zc_copy hN (η.1 3) hR hF
    have hap := zVc_app (q := w) (n := 4) (e := η.1) (by rw [hk]; rfl) h2 a2
    have epv : pushV V S = V ++ [S] := by
      unfold pushV
      rw [if_neg (by omega)]
    rw [epv]
    rw [hk] at hap ⊢
    refine ⟨_, ?_, hap⟩
    rw [if_neg (by decide), if_neg (by decide), if_neg (by decide), if_pos (by decide), a1]
    simp only [zn_R, a3]
  · obtain ⟨w, a1, a2, a3⟩ := zc_copy hN (eRot η.1 3) hR hF
    have hdl : (V.drop 1).length = 3 := by rw [List.length_drop, hk]
    have hap := zVc_app (V := V.drop 1) (q := w) (n := 4) (e := eRot η.1) (by rw [hdl]; rfl) (fun i T hT => by
      rw [List.getElem?_drop] at hT
      have hi := (List.getElem?_eq_some_iff.mp hT).1
      have := h2 _ _ hT
      have hi3 : i = 0 ∨ i = 1 ∨ i = 2 := by omega
      rcases hi3 with g | g | g
      · subst g
        exact this
      · subst g
        exact this
      · subst g
        exact this) a2
    have epv : pushV V S = V.drop 1 ++ [S] := by
      unfold pushV
      rw [if_pos hk]
    rw [epv]
    rw [hdl] at hap
    rw [hk]
    refine ⟨_, ?_, hap⟩
    rw [if_neg (by decide), if_neg (by decide), if_neg (by decide), if_neg (by decide), if_pos (by decide), a1]
    simp only [zn_R, a3]
theorem zc_accept {N : Nat} (hN : 5000 ≤ N) {u0 u1 : M2} {η : HT} {V : List St} {S S1 : St} (hR : zRCs u0 S) (hF : zWFs S) (hR1 : zRCs u1 S1) (hF1 : zWFs S1) (hV : zVc η V) (hl : V.length ≤ 4) : ∃ q η', G_X8_accept N u0 u1 η = some (q, u1, η') ∧ zRCs q S1 ∧ zVc η' (pushV V S) := by
  obtain ⟨η', a1, a2⟩ := zc_push hN hR hF hV hl
  obtain ⟨q, b1, b2, b3⟩ := zc_copy hN u0 hR1 hF1
  refine ⟨q, η', ?_, b2, a2⟩
  unfold G_X8_accept
  simp only [zn_R, a1, b1, b3]
theorem zc_pop {N : Nat} (hN : 5000 ≤ N) {u0 : M2} {η : HT} {V : List St} {S : St} (hV : zVc η (V ++ [S])) (hF : zWFs S) (hl : V.length < 4) : ∃ q η', H_pop N u0 η = some (nI V.length, q, η') ∧ zRCs q S ∧ zVc η' V := by
  obtain ⟨h1, h2⟩ := hV
  have hS := h2 V.length S (by simp)
  rw [List.length_append] at h1
  have h1 : η.2 = nI (V.length + 1) := h1
  have hrest : ∀ (k : Nat) (q : M2) (n : Int32), n = nI V.length → k = V.length → zVc (hup (η.1, n) k q) V := by
    intro k q n hn hk
    refine ⟨hn, fun i T hT => ?_⟩
    have hi := (List.getElem?_eq_some_iff.mp hT).1
    show zRCs (if i = k then q else η.1 i) T
    rw [if_neg (by omega)]
    refine h2 i T ?_
    rw [List.getElem?_append_left hi]
    exact hT
  unfold H_pop
  rw [h1]
  have hcase : V.length = 0 ∨ V.length = 1 ∨ V.length = 2 ∨ V.length = 3 := by omega
  rcases hcase with hk | hk | hk | hk
  · rw [hk] at hS ⊢
    obtain ⟨w, a1, a2, a3⟩ := zc_copy hN u0 hS hF
    refine ⟨w, _, ?_, a2, hrest 0 (xsh w) 0 (by rw [hk]; rfl) hk.symm⟩
    rw [if_pos (by decide), a1]
    simp only [zn_R]
    rfl
  · rw [hk] at hS ⊢
    obtain ⟨w, a1, a2, a3⟩ := zc_copy hN u0 hS hF
    refine ⟨w, _, ?_, a2, hrest 1 (xsh w) 1 (by rw [hk]; rfl) hk.symm⟩
    rw [if_neg (by decide), if_pos (by decide), a1]
    simp only [zn_R]
    rfl
  · rw [hk] at hS ⊢
    obtain ⟨w, a1, a2, a3⟩ := zc_copy hN u0 hS hF
    refine ⟨w, _, ?_, a2, hrest 2 (xsh w) 2 (by rw [hk]; rfl) hk.symm⟩
    rw [if_neg (by decide), if_neg (by decide), if_pos (by decide), a1]
    simp only [zn_R]
    rfl
  · rw [hk] at hS ⊢
    obtain ⟨w, a1, a2, a3⟩ := zc_copy hN u0 hS hF
    refine ⟨w, _, ?_, a2, hrest 3 (xsh w) 3 (by rw [hk]; rfl) hk.symm⟩
    rw [if_neg (by decide), if_neg (by decide), if_neg (by decide), if_pos (by decide), a1]
    simp only [zn_R]
    rfl
