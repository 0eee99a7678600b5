/-! the pure layer: deleting in the model, second part; rebuilding -/
theorem zm_leave {N : Nat} (hN : 5000 ≤ N) {ψ : M2} {P : Pm} {c : Ce} {q : List En} {nk : Nat} {K : Nat → Nat} (hR : zRM (ψ 1) P c q nk K) (hF : zWF P c q nk K) : ∃ ψ', G_X9_leave N ψ = some (nI (lv P.1 P.2.1 c q).1, ψ') ∧ zRM (ψ' 1) P (lv P.1 P.2.1 c q).2.1 (lv P.1 P.2.1 c q).2.2 nk K ∧ zFr ψ ψ' := by
  have h3 := hF.2.2.1.1
  obtain ⟨ψ', g1, g2, g3⟩ := zm_lloop hN hF.1 (nk := nk) (K := K) q [] 0 ψ c N h3 hR hF.2.1 hF.2.2.1.2 (by omega)
  refine ⟨ψ', ?_, g2, g3⟩
  have g1 : L_X9_leave_4 N N (nI 0) (nI 0) ψ = some (nI (0 + (lv P.1 P.2.1 c q).1), ψ') := g1
  rw [Nat.zero_add] at g1
  unfold G_X9_leave
  simp only [zn_L, g1, zn_R]
theorem zm_kshift {N : Nat} (hN : 5000 ≤ N) {ψ : M2} {P : Pm} {c : Ce} {q : List En} {nk : Nat} {K : Nat → Nat} {j : Nat} (v : Int32) (hj : j < nk) (hn : nk ≤ 120) (hq : q.length ≤ 3) (hR : zRM (ψ 1) P c q nk K) : ∃ ψ', L_X9_deletes_25 N v N (nI (1043 + j)) (upd2 ψ 1 1042 (nI (nk - 1))) = some ψ' ∧ zRM (ψ' 1) P c q (nk - 1) (krem K j) ∧ ∀ c' i', c' ≠ 1 → ψ' c' i' = ψ c' i' := by
  obtain ⟨hP, hC, hS, hK⟩ := hR
  have hloop := zn_for (fun k i s => L_X9_deletes_25 N v k (nI i) s) (1043 + (nk - 1)) (fun i s => ((∀ t, s 1 t = if 1043 + j ≤ t ∧ t < i then ψ 1 (t + 1) else if t = 1042 then nI (nk - 1) else ψ 1 t) ∧ ∀ c' i', c' ≠ 1 → s c' i' = ψ c' i') ∧ 1043 + j ≤ i) (fun s => (∀ t, s 1 t = if 1043 + j ≤ t ∧ t < 1043 + (nk - 1) then ψ 1 (t + 1) else if t = 1042 then nI (nk - 1) else ψ 1 t) ∧ ∀ c' i', c' ≠ 1 → s c' i' = ψ c' i') (fun i s hi hI => ?_) (fun s hI => ?_) N (1043 + j) (upd2 ψ 1 1042 (nI (nk - 1))) (by omega) ⟨⟨fun t => by
      rw [if_neg (by omega), upd2_e]
      by_cases g : t = 1042
      · rw [if_pos ⟨rfl, g⟩, if_pos g]
      · rw [if_neg (fun z => g z.2), if_neg g], fun c' i' h => by rw [upd2_o h]⟩, Nat.le_refl _⟩ (by omega)
  · obtain ⟨w, g1, g2, g3⟩ := hloop
    refine ⟨w, g1, ⟨?_, fun p hp => ?_, ⟨?_, fun i e he => ?_⟩, ⟨?_, fun i hi => ?_⟩⟩, g3⟩
    · unfold zMp at *
      simp only [g2]
      rw [if_neg (by omega), if_neg (by omega), if_neg (by omega), if_neg (by omega), if_neg (by omega), if_neg (by omega), if_neg (by omega), if_neg (by omega), if_neg (by omega), if_neg (by omega)]
      exact hP
    · have := hC p hp
      simp only [g2]
      rw [if_neg (by omega), if_neg (by omega), if_neg (by omega), if_neg (by omega), if_neg (by omega), if_neg (by omega), if_neg (by omega), if_neg (by omega)]
      exact this
    · rw [g2, if_neg (by omega), if_neg (by omega)]
      exact hS.1
    · have hi := (List.getElem?_eq_some_iff.mp he).1
      have := hS.2 i e he
      simp only [g2]
      rw [if_neg (by omega), if_neg (by omega), if_neg (by omega), if_neg (by omega), if_neg (by omega), if_neg (by omega), if_neg (by omega), if_neg (by omega)]
      exact this
    · rw [g2, if_neg (by omega), if_pos rfl]
    · rw [g2]
      unfold krem
      by_cases g : i < j
      · rw [if_pos g, if_neg (by omega), if_neg (by omega)]
        exact hK.2 i (by omega)
      · rw [if_neg g, if_pos (by omega)]
        exact hK.2 (i + 1) (by omega)
  · obtain ⟨hI, hpi⟩ := hI
    refine ⟨upd2 s 1 i (s 1 (i + 1)), ⟨⟨fun t => ?_, fun c' i' hc => ?_⟩, by omega⟩, fun k => ?_⟩
    · rw [upd2_e]
      by_cases g : t = i
      · subst g
        rw [if_pos ⟨rfl, rfl⟩, hI.1, if_neg (by omega), if_neg (by omega), if_pos ⟨hpi, by omega⟩]
      · rw [if_neg (fun z => g z.2), hI.1]
        by_cases g2 : 1043 + j ≤ t ∧ t < i
        · rw [if_pos g2, if_pos ⟨g2.1, by omega⟩]
        · rw [if_neg g2, if_neg (show ¬ (1043 + j ≤ t ∧ t < i + 1) by omega)]
    · rw [upd2_e, if_neg (fun z => hc z.1)]
      exact hI.2 c' i' hc
    · show B_X9_deletes_25 N v _ (nI i) s = _
      have e5 : s 1 1042 = nI (nk - 1) := by rw [hI.1, if_neg (by omega), if_pos rfl]
      unfold B_X9_deletes_25
      simp (disch := omega) only [zn_L, zn_M, zn_R, e5]
      rw [if_neg (by omega)]
  · obtain ⟨hI, hpi⟩ := hI
    refine ⟨s, hI, fun k => ?_⟩
    show B_X9_deletes_25 N v _ (nI (1043 + (nk - 1))) s = _
    have e5 : s 1 1042 = nI (nk - 1) := by rw [hI.1, if_neg (by omega), if_pos rfl]
    unfold B_X9_deletes_25
    simp (disch := omega) only [zn_L, zn_M, zn_R, e5]
    rw [if_pos (by omega)]
set_option maxHeartbeats 1000000 in
theorem zm_deletes {N : Nat} (hN : 5000 ≤ N) {ψ : M2} {P : Pm} {c : Ce} {q : List En} {nk : Nat} {K : Nat → Nat} {x j : Nat} (hx : x < 1000) (hj : ix nk K x = some j) (hR : zRM (ψ 1) P c q nk K) (hF : zWF P c q nk K) : ∃ y ψ', delk P c q nk K x = some y ∧ G_X9_deletes N ψ (nI x) (nI j) = some (nI y.1, ψ') ∧ zRM (ψ' 1) P y.2.1 y.2.2.1 y.2.2.2.1 y.2.2.2.2 ∧ zFr ψ ψ' := by
  have hjl := (ix_lt hj).1
  have hn := hF.2.2.2.1
  have h3 := hF.2.2.1.1
  have hpl := zm_placeOf hN hx hR.1 (zMc_w hR.2.1) hR.2.2.1 hF.1 hF.2.1 hF.2.2.1
  obtain ⟨w, a1, a2, a3⟩ := zm_kshift hN (zn_g nI mI (plc P c q x)) hjl hn h3 hR
  obtain ⟨k1, k2⟩ := rm_ok x hF.1 hF.2.1 hF.2.2.1
  have hF' : zWF P (rmc c (plc P c q x)) (rmq q (plc P c q x)) (nk - 1) (krem K j) := ⟨hF.1, k1, k2, zWk_rem hF.2.2.2 hjl⟩
  have hwF : zFr ψ w := zFr_c1 a3
  refine ⟨((lv P.1 P.2.1 (rmc c (plc P c q x)) (rmq q (plc P c q x))).1, (lv P.1 P.2.1 (rmc c (plc P c q x)) (rmq q (plc P c q x))).2.1, (lv P.1 P.2.1 (rmc c (plc P c q x)) (rmq q (plc P c q x))).2.2, nk - 1, krem K j), ?_⟩
  have hd : delk P c q nk K x = some ((lv P.1 P.2.1 (rmc c (plc P c q x)) (rmq q (plc P c q x))).1, (lv P.1 P.2.1 (rmc c (plc P c q x)) (rmq q (plc P c q x))).2.1, (lv P.1 P.2.1 (rmc c (plc P c q x)) (rmq q (plc P c q x))).2.2, nk - 1, krem K j) := by
    unfold delk
    rw [hj, og_s]
  rw [hd]
  have hstep : G_X9_deletes N ψ (nI x) (nI j) = (if zn_g nI mI (plc P c q x) < nI 1000 then (if zn_g nI mI (plc P c q x) = mI then (obd2 (G_X9_leave N w) fun r15 w13 => some (r15, w13)) else (obd (G_X9_put w (zn_g nI mI (plc P c q x) / nI 4) (irm (zn_g nI mI (plc P c q x)) (nI 4)) mI mI mI mI) fun w16 => obd2 (G_X9_leave N w16) fun r20 w18 => some (r20, w18))) else (obd (G_X9_dropStash N w (zn_g nI mI (plc P c q x) - nI 1000)) fun w21 => obd2 (G_X9_leave N w21) fun r25 w23 => some (r25, w23))) := by
    unfold G_X9_deletes
    simp (disch := omega) only [zn_L, zn_M, zn_R, hpl, hR.2.2.2.1, a1]
  rw [hstep]
  revert k1 k2 hF' hd
  cases ho : plc P c q x with
  | none =>
    intro k1 k2 hF' hd
    obtain ⟨t, d1, d2, d3⟩ := zm_leave hN a2 hF'
    refine ⟨t, rfl, ?_, d2, zFr_t hwF d3⟩
    simp (disch := omega) only [zn_g, zn_R, if_true]
    have d1 : G_X9_leave N w = some (nI (lv P.1 P.2.1 (rmc c none) (rmq q none)).1, t) := d1
    rw [d1]
    simp only [zn_R]
  | some p =>
    intro k1 k2 hF' hd
    have hrng := plc_rng hF.1 ho
    by_cases hp : p < 1000
    · have hp2 : p < 256 := by omega
      have hm := putE_m a2 h3 hp2 none
      have ec : rmc c (some p) = uC c p none := by
        unfold rmc
        rw [og_s, if_pos hp]
      have eq : rmq q (some p) = q := by
        unfold rmq
        rw [og_s, if_pos hp]
      rw [ec, eq] at hF' ⊢
      obtain ⟨t, d1, d2, d3⟩ := zm_leave hN hm hF'
      refine ⟨t, rfl, ?_, d2, zFr_t (putE_f hwF p none) d3⟩
      have hput := zm_put w mI mI mI mI (u := p / 4) (k := p % 4) (by omega)
      rw [show 4 * (p / 4) + p % 4 = p by omega] at hput
      simp (disch := omega) only [zn_g, zn_R, if_false]
      rw [if_pos hp, hput]
      have e4 : put4 w (18 + 4 * p) mI mI mI mI = putE w p none := rfl
      simp only [zn_R, e4, d1]
    · have ec : rmc c (some p) = c := by
        unfold rmc
        rw [og_s, if_neg hp]
      have eq : rmq q (some p) = q.eraseIdx (p - 1000) := by
        unfold rmq
        rw [og_s, if_neg hp]
      rw [ec, eq] at hF' ⊢
      obtain ⟨d, e1, e2, e3⟩ := zm_drop hN (i0 := p - 1000) a2 (by omega) h3
      obtain ⟨t, d1, d2, d3⟩ := zm_leave hN e2 hF'
      refine ⟨t, rfl, ?_, d2, zFr_t (zFr_t hwF (zFr_c1 e3)) d3⟩
      simp (disch := omega) only [zn_g, zn_R]
      rw [if_neg hp, e1]
      simp only [zn_R, d1]
/-! emptying, rebuilding -/
def nC : Ce := fun _ => none
theorem nC_ok (b s : Nat) : zWc b s nC := fun p e h => by cases h
theorem nq_ok (b : Nat) : zWq b [] := ⟨Nat.zero_le _, fun e h => by cases h⟩
theorem zc_emptyAll {N : Nat} (hN : 5000 ≤ N) {φ : M2} {P : Pm} {nk : Nat} {K : Nat → Nat} (hP : zPm φ P) (hK : zKy φ nk K) : ∃ φ', G_X2_emptyAll N φ = some φ' ∧ zRC φ' P nC [] nk K := by
  have hloop := zn_for (fun k i s => L_X2_emptyAll_2 N k (nI i) s) 256 (fun i s => (∀ t, t < i → s 1 t = mI) ∧ ∀ c' i', c' ≠ 1 → s c' i' = φ c' i') (fun s => (∀ t, t < 256 → s 1 t = mI) ∧ ∀ c' i', c' ≠ 1 → s c' i' = φ c' i') (fun i s hi hI => ?_) (fun s hI => ?_) N 0 φ (by omega) ⟨fun t h => by omega, fun _ _ _ => rfl⟩ (by omega)
  · obtain ⟨w, g1, g2, g3⟩ := hloop
    have w0 : ∀ c', c' ≠ 1 → w c' = φ c' := fun c' h1 => funext fun i' => g3 c' i' h1
    refine ⟨upd2 w 0 7 (nI 0), ?_, ?_, fun p hp => ?_, ⟨?_, fun j e he => by simp at he⟩, zKy_c hK (by rw [upd2_o (by decide), w0 3 (by decide)]) (by rw [upd2_o (by decide), w0 4 (by decide)])⟩
    · unfold G_X2_emptyAll
      simp only [zn_L, g1, zn_R]
    · have e0 := w0 0 (by decide)
      unfold zPm at *
      simp only [upd2_e, e0]
      exact hP
    · rw [upd2_o (by decide), g2 p hp]
      rfl
    · rw [upd2_e, if_pos ⟨rfl, rfl⟩]
      rfl
  · refine ⟨upd2 s 1 i mI, ⟨fun t ht => ?_, fun c' i' hc => ?_⟩, fun k => ?_⟩
    · rw [upd2_e]
      by_cases g : t = i
      · rw [if_pos ⟨rfl, g⟩]
      · rw [if_neg (fun z => g z.2)]
        exact hI.1 t (by omega)
    · rw [upd2_e, if_neg (fun z => hc z.1)]
      exact hI.2 c' i' hc
    · show B_X2_emptyAll_2 N _ (nI i) s = _
      unfold B_X2_emptyAll_2
      simp (disch := omega) only [zn_L, zn_M, zn_R]
      rw [if_neg (by omega)]
  · refine ⟨s, hI, fun k => ?_⟩
    show B_X2_emptyAll_2 N _ (nI 256) s = _
    unfold B_X2_emptyAll_2
    simp (disch := omega) only [zn_L, zn_M, zn_R]
    rw [if_pos (by omega)]
theorem zm_empties {N : Nat} (hN : 5000 ≤ N) {ψ : M2} {P : Pm} {nk : Nat} {K : Nat → Nat} (hP : zMp (ψ 1) P) (hK : zMk (ψ 1) nk K) : ∃ ψ', G_X9_empties N ψ = some ψ' ∧ zRM (ψ' 1) P nC [] nk K ∧ ∀ c' i', c' ≠ 1 → ψ' c' i' = ψ c' i' := by
  have hloop := zn_for (fun k i s => L_X9_empties_10 N k (nI i) s) 1042 (fun i s => ((∀ t, 18 ≤ t → t < i → s 1 t = mI) ∧ (∀ t, t < 18 ∨ 1042 ≤ t → s 1 t = if t = 5 then nI 0 else ψ 1 t) ∧ ∀ c' i', c' ≠ 1 → s c' i' = ψ c' i') ∧ 18 ≤ i) (fun s => (∀ t, 18 ≤ t → t < 1042 → s 1 t = mI) ∧ (∀ t, t < 18 ∨ 1042 ≤ t → s 1 t = if t = 5 then nI 0 else ψ 1 t) ∧ ∀ c' i', c' ≠ 1 → s c' i' = ψ c' i') (fun i s hi hI => ?_) (fun s hI => ?_) N 18 (upd2 ψ 1 5 (nI 0)) (by omega) ⟨⟨fun t h h2 => by omega, fun t ht => by
      rw [upd2_e]
      by_cases g : t = 5
      · rw [if_pos ⟨rfl, g⟩, if_pos g]
      · rw [if_neg (fun z => g z.2), if_neg g], fun c' i' h => by rw [upd2_o h]⟩, Nat.le_refl _⟩ (by omega)
  · obtain ⟨w, g1, g2, g3, g4⟩ := hloop
    refine ⟨w, ?_, ⟨?_, fun p hp => ?_, ⟨?_, fun i e he => by simp at he⟩, ⟨?_, fun i hi => ?_⟩⟩, g4⟩
    · unfold G_X9_empties
      simp (disch := omega) only [zn_L, zn_M, zn_R, g1]
    · unfold zMp at *
      rw [g3 0 (by omega), g3 1 (by omega), g3 2 (by omega), g3 3 (by omega), g3 4 (by omega)]
      exact hP
    · rw [g2 _ (by omega) (by omega), g2 _ (by omega) (by omega), g2 _ (by omega) (by omega), g2 _ (by omega) (by omega)]
      exact ⟨rfl, rfl, rfl, rfl⟩
    · rw [g3 5 (by omega), if_pos rfl]
      rfl
    · rw [g3 1042 (by omega), if_neg (by omega)]
      exact hK.1
    · rw [g3 _ (by omega), if_neg (by omega)]
      exact hK.2 i hi
  · obtain ⟨⟨hI1, hI2, hI3⟩, hpi⟩ := hI
    refine ⟨upd2 s 1 i mI, ⟨⟨fun t h18 ht => ?_, fun t ht => ?_, fun c' i' hc => ?_⟩, by omega⟩, fun k => ?_⟩
    · rw [upd2_e]
      by_cases g : t = i
      · rw [if_pos ⟨rfl, g⟩]
      · rw [if_neg (fun z => g z.2)]
        exact hI1 t h18 (by omega)
    · rw [upd2_e, if_neg (by omega)]
      exact hI2 t ht
    · rw [upd2_e, if_neg (fun z => hc z.1)]
      exact hI3 c' i' hc
    · show B_X9_empties_10 N _ (nI i) s = _
      unfold B_X9_empties_10
      simp (disch := omega) only [zn_L, zn_M, zn_R]
      rw [if_neg (by omega)]
  · obtain ⟨hI, hpi⟩ := hI
    refine ⟨s, hI, fun k => ?_⟩
    show B_X9_empties_10 N _ (nI 1042) s = _
    unfold B_X9_empties_10
    simp (disch := omega) only [zn_L, zn_M, zn_R]
    rw [if_pos (by omega)]
def rb (P : Pm) (K : Nat → Nat) : Nat → Nat → Ce → List En → Bool × Ce × List En
  | 0, _, c, q => (true, c, q)
  | n + 1, i, c, q => og (fun y => rb P K n (i + 1) y.2.1 y.2.2) (false, c, q) (insr P c q (K i))
theorem rb_s {P : Pm} {K : Nat → Nat} {n i : Nat} {c : Ce} {q : List En} {y : Nat × Ce × List En} (h : insr P c q (K i) = some y) : rb P K (n + 1) i c q = rb P K n (i + 1) y.2.1 y.2.2 := by
  conv => lhs; unfold rb
  rw [h, og_s]
theorem rb_n {P : Pm} {K : Nat → Nat} {n i : Nat} {c : Ce} {q : List En} (h : insr P c q (K i) = none) : rb P K (n + 1) i c q = (false, c, q) := by
  conv => lhs; unfold rb
  rw [h, og_n]
def bI (b : Bool) : Int32 := if b = true then nI 1 else nI 0
theorem rb_ok {P : Pm} {nk : Nat} {K : Nat → Nat} : ∀ (n i : Nat) (c : Ce) (q : List En), i + n = nk → zWF P c q nk K → zWF P (rb P K n i c q).2.1 (rb P K n i c q).2.2 nk K := by
  intro n
  induction n with
  | zero =>
    intro i c q _ h
    exact h
  | succ n ih =>
    intro i c q hi h
    cases hy : insr P c q (K i) with
    | none =>
      rw [rb_n hy]
      exact h
    | some y =>
      rw [rb_s hy]
      exact ih (i + 1) _ _ (by omega) (insr_ok h hy).1
theorem zc_keyAt {φ : M2} {nk : Nat} {K : Nat → Nat} (hK : zKy φ nk K) (hn : nk ≤ 120) {i : Nat} (hi : i < nk) : G_X4_keyAt φ (nI i) = some (nI (K i)) := by
  unfold G_X4_keyAt
  simp (disch := omega) only [zn_L, zn_M, zn_R, hK.1, hK.2 i hi]
  rw [if_neg (by omega), if_neg (by omega), if_neg (by omega)]
theorem zc_rloop {N : Nat} (hN : 5000 ≤ N) {P : Pm} {nk : Nat} {K : Nat → Nat} : ∀ (n i : Nat) (φ : M2) (c : Ce) (q : List En) (k : Nat), i + n = nk → n < k → zRC φ P c q nk K → zWF P c q nk K → ∃ φ', L_X2_refill_28 N k (nI i) φ = some (bI (rb P K n i c q).1, φ') ∧ zRC φ' P (rb P K n i c q).2.1 (rb P K n i c q).2.2 nk K := by
  intro n
  induction n with
  | zero =>
    intro i φ c q k hi hk hR hF
    obtain ⟨k, rfl⟩ : ∃ j, k = j + 1 := ⟨k - 1, by omega⟩
    have hn := hF.2.2.2.1
    refine ⟨φ, ?_, hR⟩
    show B_X2_refill_28 N _ (nI i) φ = some (nI 1, φ)
    unfold B_X2_refill_28 G_X4_size
    simp (disch := omega) only [zn_L, zn_M, zn_R, hR.2.2.2.1]
    rw [if_pos (by omega)]
  | succ n ih =>
    intro i φ c q k hi hk hR hF
    obtain ⟨k, rfl⟩ : ∃ j, k = j + 1 := ⟨k - 1, by omega⟩
    have hn := hF.2.2.2.1
    obtain ⟨r, w, g1, g2, g3⟩ := zc_insert hN (hF.2.2.2.2 i (by omega)).1 hR hF
    have hstep : L_X2_refill_28 N (k + 1) (nI i) φ = if r = mI then some (nI 0, w) else L_X2_refill_28 N k (nI (i + 1)) w := by
      show B_X2_refill_28 N _ (nI i) φ = _
      unfold B_X2_refill_28 G_X4_size
      simp (disch := omega) only [zn_L, zn_M, zn_R, hR.2.2.2.1, zc_keyAt hR.2.2.2 hn (show i < nk by omega), g1]
      rw [if_neg (by omega)]
    rw [hstep]
    cases hy : insr P c q (K i) with
    | none =>
      rw [hy] at g2
      obtain ⟨e1, g2⟩ := g2
      rw [rb_n hy, if_pos e1]
      exact ⟨w, rfl, g2⟩
    | some y =>
      rw [hy] at g2
      obtain ⟨e1, g2⟩ := g2
      have hy1 := insr_ok hF hy
      rw [rb_s hy, if_neg (by rw [e1]; exact fun z => ((zn_mi (a := y.1) (by omega)).1.mp z).elim)]
      exact ih (i + 1) w _ _ k (by omega) (by omega) g2 hy1.1
theorem zm_rloop {N : Nat} (hN : 5000 ≤ N) {P : Pm} {nk : Nat} {K : Nat → Nat} : ∀ (n i : Nat) (ψ : M2) (c : Ce) (q : List En) (k : Nat), i + n = nk → n < k → zRM (ψ 1) P c q nk K → zWF P c q nk K → ∃ ψ', L_X9_rebuilds_36 N k (nI i) ψ = some (bI (rb P K n i c q).1, ψ') ∧ zRM (ψ' 1) P (rb P K n i c q).2.1 (rb P K n i c q).2.2 nk K ∧ zFr ψ ψ' := by
  intro n
  induction n with
  | zero =>
    intro i ψ c q k hi hk hR hF
    obtain ⟨k, rfl⟩ : ∃ j, k = j + 1 := ⟨k - 1, by omega⟩
    have hn := hF.2.2.2.1
    refine ⟨ψ, ?_, hR, zFr_r ψ⟩
    show B_X9_rebuilds_36 N _ (nI i) ψ = some (nI 1, ψ)
    unfold B_X9_rebuilds_36
    simp (disch := omega) only [zn_L, zn_M, zn_R, hR.2.2.2.1]
    rw [if_pos (by omega)]
  | succ n ih =>
    intro i ψ c q k hi hk hR hF
    obtain ⟨k, rfl⟩ : ∃ j, k = j + 1 := ⟨k - 1, by omega⟩
    have hn := hF.2.2.2.1
    obtain ⟨r, w, g1, g2, g3, g4⟩ := zm_addEntry hN (hF.2.2.2.2 i (by omega)).1 hR hF
    have hstep : L_X9_rebuilds_36 N (k + 1) (nI i) ψ = if r = mI then some (nI 0, w) else L_X9_rebuilds_36 N k (nI (i + 1)) w := by
      show B_X9_rebuilds_36 N _ (nI i) ψ = _
      unfold B_X9_rebuilds_36
      simp (disch := omega) only [zn_L, zn_M, zn_R, hR.2.2.2.1, hR.2.2.2.2 i (show i < nk by omega), g1]
      rw [if_neg (by omega)]
    rw [hstep]
    cases hy : insr P c q (K i) with
    | none =>
      rw [hy] at g2
      obtain ⟨e1, g2⟩ := g2
      rw [rb_n hy, if_pos e1]
      exact ⟨w, rfl, g2, g4⟩
    | some y =>
      rw [hy] at g2
      obtain ⟨e1, g2⟩ := g2
      have hy1 := insr_ok hF hy
      rw [rb_s hy, if_neg (by rw [e1]; exact fun z => ((zn_mi (a := y.1) (by omega)).1.mp z).elim)]
      obtain ⟨ψ', d1, d2, d3⟩ := ih (i + 1) w _ _ k (by omega) (by omega) g2 hy1.1
      exact ⟨ψ', d1, d2, zFr_t g4 d3⟩
theorem zc_refill {N : Nat} (hN : 5000 ≤ N) {φ : M2} {P : Pm} {c : Ce} {q : List En} {nk : Nat} {K : Nat → Nat} {b s f e : Nat} (hW : zWp (b, s, f, e, P.2.2.2.2)) (hk : zWk nk K) (hR : zRC φ P c q nk K) : ∃ φ', G_X2_refill N φ (nI b) (nI s) (nI f) (nI e) = some (bI (rb (b, s, f, e, P.2.2.2.2) K nk 0 nC []).1, φ') ∧ zRC φ' (b, s, f, e, P.2.2.2.2) (rb (b, s, f, e, P.2.2.2.2) K nk 0 nC []).2.1 (rb (b, s, f, e, P.2.2.2.2) K nk 0 nC []).2.2 nk K := by
  have hn := hk.1
  obtain ⟨hP, hC, hS, hK⟩ := hR
  have hP1 : zPm (upd2 (upd2 (upd2 (upd2 φ 0 0 (nI b)) 0 1 (nI s)) 0 2 (nI f)) 0 3 (nI e)) (b, s, f, e, P.2.2.2.2) := by
    unfold zPm at *
    simp [upd2_e, hP]
  have hK1 : zKy (upd2 (upd2 (upd2 (upd2 φ 0 0 (nI b)) 0 1 (nI s)) 0 2 (nI f)) 0 3 (nI e)) nk K := zKy_c hK (by rw [upd2_o (by decide), upd2_o (by decide), upd2_o (by decide), upd2_o (by decide)]) (by rw [upd2_o (by decide), upd2_o (by decide), upd2_o (by decide), upd2_o (by decide)])
  obtain ⟨w, g1, g2⟩ := zc_emptyAll hN hP1 hK1
  obtain ⟨φ', d1, d2⟩ := zc_rloop hN nk 0 w nC [] N (by omega) (by omega) g2 ⟨hW, nC_ok _ _, nq_ok _, hk⟩
  refine ⟨φ', ?_, d2⟩
  unfold G_X2_refill
  simp only [zn_L, zn_R, g1, d1]
theorem zm_rebuilds {N : Nat} (hN : 5000 ≤ N) {ψ : M2} {P : Pm} {c : Ce} {q : List En} {nk : Nat} {K : Nat → Nat} {b s f e : Nat} (hW : zWp (b, s, f, e, P.2.2.2.2)) (hk : zWk nk K) (hR : zRM (ψ 1) P c q nk K) : ∃ ψ', G_X9_rebuilds N ψ (nI b) (nI s) (nI f) (nI e) = some (bI (rb (b, s, f, e, P.2.2.2.2) K nk 0 nC []).1, ψ') ∧ zRM (ψ' 1) (b, s, f, e, P.2.2.2.2) (rb (b, s, f, e, P.2.2.2.2) K nk 0 nC []).2.1 (rb (b, s, f, e, P.2.2.2.2) K nk 0 nC []).2.2 nk K ∧ zFr ψ ψ' := by
  have hn := hk.1
  obtain ⟨hP, hC, hS, hK⟩ := hR
  have hP1 : zMp (upd2 (upd2 (upd2 (upd2 ψ 1 0 (nI b)) 1 1 (nI s)) 1 2 (nI f)) 1 3 (nI e) 1) (b, s, f, e, P.2.2.2.2) := by
    unfold zMp at *
    simp [upd2_e, hP]
  have hK1 : zMk (upd2 (upd2 (upd2 (upd2 ψ 1 0 (nI b)) 1 1 (nI s)) 1 2 (nI f)) 1 3 (nI e) 1) nk K := by
    refine ⟨?_, fun i hi => ?_⟩
    · rw [upd2_e, if_neg (by omega), upd2_e, if_neg (by omega), upd2_e, if_neg (by omega), upd2_e, if_neg (by omega)]
      exact hK.1
    · rw [upd2_e, if_neg (by omega), upd2_e, if_neg (by omega), upd2_e, if_neg (by omega), upd2_e, if_neg (by omega)]
      exact hK.2 i hi
  obtain ⟨w, g1, g2, g3⟩ := zm_empties hN hP1 hK1
  obtain ⟨ψ', d1, d2, d3⟩ := zm_rloop hN nk 0 w nC [] N (by omega) (by omega) g2 ⟨hW, nC_ok _ _, nq_ok _, hk⟩
  have hF : zFr ψ w := zFr_t (zFr_u (zFr_u (zFr_u (zFr_u (zFr_r ψ) rfl _) rfl _) rfl _) rfl _) (zFr_c1 g3)
  refine ⟨ψ', ?_, d2, zFr_t hF d3⟩
  unfold G_X9_rebuilds
  simp (disch := omega) only [zn_L, zn_R, g1, d1]
