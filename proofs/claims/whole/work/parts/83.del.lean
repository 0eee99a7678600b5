/-! the pure layer: deleting in the class -/
def krem (K : Nat → Nat) (j : Nat) : Nat → Nat := fun i => if i < j then K i else K (i + 1)
def lv (b s : Nat) : Ce → List En → Nat × Ce × List En
  | c, [] => (0, c, [])
  | c, e :: q => og (fun p => ((lv b s (uC c p (some e)) q).1 + 1, (lv b s (uC c p (some e)) q).2.1, (lv b s (uC c p (some e)) q).2.2)) ((lv b s c q).1, (lv b s c q).2.1, e :: (lv b s c q).2.2) (slp b s c e)
theorem lv_s {b s p : Nat} {c : Ce} {e : En} {q : List En} (h : slp b s c e = some p) : lv b s c (e :: q) = ((lv b s (uC c p (some e)) q).1 + 1, (lv b s (uC c p (some e)) q).2.1, (lv b s (uC c p (some e)) q).2.2) := by
  conv => lhs; unfold lv
  rw [h, og_s]
theorem lv_n {b s : Nat} {c : Ce} {e : En} {q : List En} (h : slp b s c e = none) : lv b s c (e :: q) = ((lv b s c q).1, (lv b s c q).2.1, e :: (lv b s c q).2.2) := by
  conv => lhs; unfold lv
  rw [h, og_n]
theorem lv_ok {b s : Nat} (hb : b ≤ 6) (hs : s ≤ 4) : ∀ (q : List En) (c : Ce), zWc b s c → (∀ e, e ∈ q → zEo b e) → zWc b s (lv b s c q).2.1 ∧ (lv b s c q).1 + (lv b s c q).2.2.length = q.length ∧ ∀ e, e ∈ (lv b s c q).2.2 → zEo b e := by
  intro q
  induction q with
  | nil =>
    intro c hc hq
    exact ⟨hc, rfl, fun e he => by cases he⟩
  | cons e q ih =>
    intro c hc hq
    have he := hq e List.mem_cons_self
    have hq' : ∀ f, f ∈ q → zEo b f := fun f hf => hq f (List.mem_cons_of_mem _ hf)
    cases hs' : slp b s c e with
    | some p =>
      rw [lv_s hs']
      obtain ⟨a1, a2, a3, a4, a5⟩ := slp_lt hb hs he hs'
      obtain ⟨g1, g2, g3⟩ := ih (uC c p (some e)) (zWc_u hc ⟨a2, a3⟩ he a5) hq'
      refine ⟨g1, ?_, g3⟩
      show (lv b s (uC c p (some e)) q).1 + 1 + (lv b s (uC c p (some e)) q).2.2.length = q.length + 1
      omega
    | none =>
      rw [lv_n hs']
      obtain ⟨g1, g2, g3⟩ := ih c hc hq'
      refine ⟨g1, ?_, fun f hf => ?_⟩
      · show (lv b s c q).1 + ((lv b s c q).2.2.length + 1) = q.length + 1
        omega
      · rcases List.mem_cons.mp hf with g | g
        · rw [g]
          exact he
        · exact g3 f g
def rmc (c : Ce) (o : Option Nat) : Ce := og (fun p => if p < 1000 then uC c p none else c) c o
def rmq (q : List En) (o : Option Nat) : List En := og (fun p => if p < 1000 then q else q.eraseIdx (p - 1000)) q o
def delk (P : Pm) (c : Ce) (q : List En) (nk : Nat) (K : Nat → Nat) (x : Nat) : Option (Nat × Sk) :=
  og (fun j => some ((lv P.1 P.2.1 (rmc c (plc P c q x)) (rmq q (plc P c q x))).1, (lv P.1 P.2.1 (rmc c (plc P c q x)) (rmq q (plc P c q x))).2.1, (lv P.1 P.2.1 (rmc c (plc P c q x)) (rmq q (plc P c q x))).2.2, nk - 1, krem K j)) none (ix nk K x)
theorem bst_p {a : Option (Nat × Nat)} {p : Nat} {m : Option Nat} {R : Nat → Prop} (ha : ∀ y, a = some y → R y.1) (hp : R p) : ∀ y, bst a p m = some y → R y.1 := by
  intro y hy
  cases m with
  | none => exact ha y hy
  | some l =>
    cases a with
    | none =>
      have := Option.some.inj hy
      subst this
      exact hp
    | some z =>
      unfold bst at hy
      rw [og_s, og_s] at hy
      split at hy
      · exact ha y hy
      · have := Option.some.inj hy
        subst this
        exact hp
theorem plc_rng {P : Pm} {c : Ce} {q : List En} {x p : Nat} (hW : zWp P) (h : plc P c q x = some p) : p < 256 ∨ (1000 ≤ p ∧ p - 1000 < q.length) := by
  have h6 := p2_6 hW.1.2
  have hm1 := hm_lt P.1 x P.2.2.2.1
  have ho := oth_lt (tg x P.2.2.2.1) hm1
  have hs := hW.2.1
  have hA : ∀ i, i ≤ 2 * P.2.1 → ∀ y, plA P c x i = some y → y.1 < 256 := by
    intro i
    induction i with
    | zero =>
      intro _ y hy
      cases hy
    | succ i ih =>
      intro hi
      unfold plA
      exact bst_p (R := fun p => p < 256) (ih (by omega)) (plp_lt hs.2 (by omega) (by omega) (by omega))
  have hQ : ∀ i, i ≤ q.length → ∀ y, plQ P c q x i = some y → y.1 < 256 ∨ (1000 ≤ y.1 ∧ y.1 - 1000 < q.length) := by
    intro i
    induction i with
    | zero =>
      intro _ y hy
      exact Or.inl (hA _ (Nat.le_refl _) y hy)
    | succ i ih =>
      intro hi
      unfold plQ
      exact bst_p (R := fun p => p < 256 ∨ (1000 ≤ p ∧ p - 1000 < q.length)) (ih (by omega)) (Or.inr ⟨by omega, by omega⟩)
  unfold plc at h
  cases ha : plQ P c q x q.length with
  | none =>
    rw [ha] at h
    cases h
  | some y =>
    rw [ha, og_s] at h
    have := Option.some.inj h
    subst this
    exact hQ _ (Nat.le_refl _) y ha
theorem rm_ok {P : Pm} {c : Ce} {q : List En} (x : Nat) (hW : zWp P) (hV : zWc P.1 P.2.1 c) (hq : zWq P.1 q) : zWc P.1 P.2.1 (rmc c (plc P c q x)) ∧ zWq P.1 (rmq q (plc P c q x)) := by
  cases h : plc P c q x with
  | none => exact ⟨hV, hq⟩
  | some p =>
    unfold rmc rmq
    rw [og_s, og_s]
    split
    · exact ⟨zWc_e hV, hq⟩
    · exact ⟨hV, Nat.le_trans (List.length_eraseIdx_le _ _) hq.1, fun e he => hq.2 e (List.mem_of_mem_eraseIdx he)⟩
theorem zWk_rem {nk : Nat} {K : Nat → Nat} {j : Nat} (h : zWk nk K) (hj : j < nk) : zWk (nk - 1) (krem K j) := by
  have h1 := h.1
  refine ⟨by omega, fun i hi => ?_⟩
  unfold krem
  by_cases g : i < j
  · rw [if_pos g]
    obtain ⟨q1, q2⟩ := h.2 i (by omega)
    refine ⟨q1, fun t ht => ?_⟩
    rw [if_pos (by omega)]
    exact q2 t ht
  · rw [if_neg g]
    obtain ⟨q1, q2⟩ := h.2 (i + 1) (by omega)
    refine ⟨q1, fun t ht => ?_⟩
    by_cases g2 : t < j
    · rw [if_pos g2]
      exact q2 t (by omega)
    · rw [if_neg g2]
      exact q2 (t + 1) (by omega)
theorem delk_ok {P : Pm} {c : Ce} {q : List En} {nk : Nat} {K : Nat → Nat} {x : Nat} {y : Nat × Sk} (hW : zWF P c q nk K) (h : delk P c q nk K x = some y) : zWF P y.2.1 y.2.2.1 y.2.2.2.1 y.2.2.2.2 ∧ y.1 ≤ 3 := by
  unfold delk at h
  cases hi : ix nk K x with
  | none =>
    rw [hi] at h
    cases h
  | some j =>
    rw [hi, og_s] at h
    have := Option.some.inj h
    subst this
    obtain ⟨g1, g2⟩ := rm_ok x hW.1 hW.2.1 hW.2.2.1
    obtain ⟨k1, k2, k3⟩ := lv_ok hW.1.1.2 hW.1.2.1.2 _ _ g1 g2.2
    have h3 := g2.1
    refine ⟨⟨hW.1, k1, ⟨?_, k3⟩, zWk_rem hW.2.2.2 (ix_lt hi).1⟩, ?_⟩
    · show (lv P.1 P.2.1 (rmc c (plc P c q x)) (rmq q (plc P c q x))).2.2.length ≤ 3
      omega
    · show (lv P.1 P.2.1 (rmc c (plc P c q x)) (rmq q (plc P c q x))).1 ≤ 3
      omega
theorem zSt_era {φ φ' : M2} {q : List En} {i0 : Nat} (h : zSt φ q) (hi : i0 < q.length) (h7 : φ' 0 7 = nI (q.length - 1)) (h2 : ∀ j, j < q.length - 1 → φ' 2 j = if j < i0 then φ 2 j else φ 2 (j + 1)) : zSt φ' (q.eraseIdx i0) := by
  have hl : (q.eraseIdx i0).length = q.length - 1 := List.length_eraseIdx_of_lt hi
  refine ⟨by rw [h7, hl], fun j e he => ?_⟩
  have hj := (List.getElem?_eq_some_iff.mp he).1
  rw [hl] at hj
  rw [List.getElem?_eraseIdx] at he
  rw [h2 j hj]
  split at he
  · rename_i g
    rw [if_pos g]
    exact h.2 j e he
  · rename_i g
    rw [if_neg g]
    exact h.2 (j + 1) e he
theorem zc_rem {N : Nat} (hN : 5000 ≤ N) {φ : M2} {P : Pm} {c : Ce} {q : List En} {nk : Nat} {K : Nat → Nat} {o : Option Nat} (ho : ∀ p, o = some p → p < 256 ∨ (1000 ≤ p ∧ p - 1000 < q.length)) (hq : q.length ≤ 3) (hR : zRC φ P c q nk K) : ∃ φ', G_X2_removeEntry N φ (zn_g nI mI o) = some φ' ∧ zRC φ' P (rmc c o) (rmq q o) nk K := by
  obtain ⟨hP, hC, hS, hK⟩ := hR
  cases o with
  | none =>
    refine ⟨φ, ?_, hP, hC, hS, hK⟩
    unfold G_X2_removeEntry
    simp (disch := omega) only [zn_L, zn_M, zn_R, zn_g, zc_setm, if_false]
  | some p =>
    rcases ho p rfl with h | ⟨h, h2⟩
    · refine ⟨upd2 φ 1 p mI, ?_, zPm_c hP (upd2_o (by decide)), ?_, ?_, zKy_c hK (upd2_o (by decide)) (upd2_o (by decide))⟩
      · unfold G_X2_removeEntry
        simp (disch := omega) only [zn_L, zn_M, zn_R, zn_g, zc_set]
        rw [if_neg (by omega)]
      · unfold rmc
        rw [og_s, if_pos (by omega)]
        exact zCl_u hC p none
      · unfold rmq
        rw [og_s, if_pos (by omega)]
        exact zSt_c hS (upd2_o (by decide)) (upd2_o (by decide))
    · have hloop := zn_for (fun k i s => L_X2_removeEntry_20 N k (nI i) s) (q.length - 1) (fun i s => ((∀ j, s 2 j = if p - 1000 ≤ j ∧ j < i then φ 2 (j + 1) else φ 2 j) ∧ ∀ c' i', c' ≠ 2 → s c' i' = φ c' i') ∧ p - 1000 ≤ i) (fun s => (∀ j, s 2 j = if p - 1000 ≤ j ∧ j < q.length - 1 then φ 2 (j + 1) else φ 2 j) ∧ ∀ c' i', c' ≠ 2 → s c' i' = φ c' i') (fun i s hi hI => ?_) (fun s hI => ?_) N (p - 1000) φ (by omega) ⟨⟨fun j => by rw [if_neg (by omega)], fun _ _ _ => rfl⟩, Nat.le_refl _⟩ (by omega)
      · obtain ⟨w, g1, g2, g3⟩ := hloop
        have w0 : ∀ c', c' ≠ 2 → w c' = φ c' := fun c' hc => funext fun i' => g3 c' i' hc
        have h7 : w 0 7 = nI q.length := by
          rw [w0 0 (by decide)]
          exact hS.1
        refine ⟨upd2 w 0 7 (nI (q.length - 1)), ?_, ?_, ?_, ?_, ?_⟩
        · unfold G_X2_removeEntry
          simp (disch := omega) only [zn_L, zn_M, zn_R, zn_g]
          rw [if_pos (by omega), g1]
          simp (disch := omega) only [zn_R, h7]
        · have e0 := w0 0 (by decide)
          unfold zPm at *
          simp only [upd2_e, e0]
          exact hP
        · unfold rmc
          rw [og_s, if_neg (by omega)]
          exact zCl_c hC (by rw [upd2_o (by decide), w0 1 (by decide)])
        · unfold rmq
          rw [og_s, if_neg (by omega)]
          refine zSt_era hS h2 (by rw [upd2_e, if_pos ⟨rfl, rfl⟩]) (fun j hj => ?_)
          rw [upd2_o (by decide), g2]
          by_cases g : j < p - 1000
          · rw [if_pos g, if_neg (by omega)]
          · rw [if_neg g, if_pos (by omega)]
        · exact zKy_c hK (by rw [upd2_o (by decide), w0 3 (by decide)]) (by rw [upd2_o (by decide), w0 4 (by decide)])
      · obtain ⟨hI, hpi⟩ := hI
        refine ⟨upd2 s 2 i (s 2 (i + 1)), ⟨⟨fun j => ?_, fun c' i' hc => ?_⟩, by omega⟩, fun k => ?_⟩
        · rw [upd2_e]
          by_cases g : j = i
          · subst g
            rw [if_pos ⟨rfl, rfl⟩, hI.1, if_neg (by omega), if_pos ⟨hpi, by omega⟩]
          · rw [if_neg (fun z => g z.2), hI.1]
            by_cases g2 : p - 1000 ≤ j ∧ j < i
            · rw [if_pos g2, if_pos ⟨g2.1, by omega⟩]
            · rw [if_neg g2, if_neg (by omega)]
        · rw [upd2_e, if_neg (fun z => hc z.1)]
          exact hI.2 c' i' hc
        · show B_X2_removeEntry_20 N _ (nI i) s = _
          have e7 : s 0 7 = nI q.length := by
            rw [hI.2 0 7 (by decide)]
            exact hS.1
          unfold B_X2_removeEntry_20
          simp (disch := omega) only [zn_L, zn_M, zn_R, e7]
          rw [if_neg (by omega), if_neg (by omega), if_neg (by omega)]
      · obtain ⟨hI, hpi⟩ := hI
        refine ⟨s, hI, fun k => ?_⟩
        show B_X2_removeEntry_20 N _ (nI (q.length - 1)) s = _
        have e7 : s 0 7 = nI q.length := by
          rw [hI.2 0 7 (by decide)]
          exact hS.1
        unfold B_X2_removeEntry_20
        simp (disch := omega) only [zn_L, zn_M, zn_R, e7]
        rw [if_neg (by omega), if_pos (by omega)]
