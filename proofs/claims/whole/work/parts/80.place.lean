/-! the pure layer: finding -/
def mtc (b sd x : Nat) (o : Option En) : Option Nat := og (fun e => if e.1 = tg x sd ∧ e.2.1 = hm b x sd ∧ e.2.2.2 = pr b e.2.2.1 x sd then some e.2.2.1 else none) none o
def bst (a : Option (Nat × Nat)) (p : Nat) (m : Option Nat) : Option (Nat × Nat) := og (fun l => og (fun y => if l ≤ y.2 then some y else some (p, l)) (some (p, l)) a) a m
def en1 : Option (Nat × Nat) → Int32 := og (fun y => nI y.1) mI
def en2 : Option (Nat × Nat) → Int32 := og (fun y => nI y.2) mI
def plp (s h o i : Nat) : Nat := if i < s then 4 * h + i else 4 * o + (i - s)
def plA (P : Pm) (c : Ce) (x : Nat) : Nat → Option (Nat × Nat)
  | 0 => none
  | i + 1 => bst (plA P c x i) (plp P.2.1 (hm P.1 x P.2.2.2.1) (oth P.1 (hm P.1 x P.2.2.2.1) (tg x P.2.2.2.1)) i) (mtc P.1 P.2.2.2.1 x (c (plp P.2.1 (hm P.1 x P.2.2.2.1) (oth P.1 (hm P.1 x P.2.2.2.1) (tg x P.2.2.2.1)) i)))
def plQ (P : Pm) (c : Ce) (q : List En) (x : Nat) : Nat → Option (Nat × Nat)
  | 0 => plA P c x (2 * P.2.1)
  | i + 1 => bst (plQ P c q x i) (1000 + i) (mtc P.1 P.2.2.2.1 x q[i]?)
def plc (P : Pm) (c : Ce) (q : List En) (x : Nat) : Option Nat := og (fun y => some y.1) none (plQ P c q x q.length)
def zAk (a : Option (Nat × Nat)) : Prop := ∀ y, a = some y → y.1 < 2000 ∧ y.2 ≤ 8
theorem mtc_le {b sd x l : Nat} {o : Option En} (ho : ∀ e, o = some e → e.2.2.1 ≤ 8) (h : mtc b sd x o = some l) : l ≤ 8 := by
  cases o with
  | none => cases h
  | some e =>
    unfold mtc at h
    rw [og_s] at h
    split at h
    · have := Option.some.inj h
      subst this
      exact ho e rfl
    · cases h
theorem bst_ok {a : Option (Nat × Nat)} {p : Nat} {m : Option Nat} (ha : zAk a) (hp : p < 2000) (hm : ∀ l, m = some l → l ≤ 8) : zAk (bst a p m) := by
  cases m with
  | none => exact ha
  | some l =>
    have hl := hm l rfl
    cases a with
    | none =>
      intro y hy
      have := Option.some.inj hy
      subst this
      exact ⟨hp, hl⟩
    | some z =>
      intro y hy
      unfold bst at hy
      rw [og_s, og_s] at hy
      split at hy
      · exact ha y hy
      · have := Option.some.inj hy
        subst this
        exact ⟨hp, hl⟩
/-- the class's choice -/
theorem bst_c {a : Option (Nat × Nat)} {p : Nat} {m : Option Nat} (ha : zAk a) (hm : ∀ l, m = some l → l ≤ 8) {ρ : Type} (K : Int32 → Int32 → ρ) : (if zn_g nI mI m ≤ en2 a then K (en1 a) (en2 a) else K (nI p) (zn_g nI mI m)) = K (en1 (bst a p m)) (en2 (bst a p m)) := by
  cases m with
  | none =>
    have h : zn_g nI mI none ≤ en2 a := by
      cases a with
      | none => exact zn_ij.2.2.2.mpr trivial
      | some y => exact (zn_mi (a := y.2) (by have := (ha y rfl).2; omega)).2.2.2.2.2.mpr trivial
    rw [if_pos h]
    rfl
  | some l =>
    have hl := hm l rfl
    cases a with
    | none =>
      have h : ¬ (zn_g nI mI (some l) ≤ en2 none) := fun z => (zn_mi (a := l) (by omega)).2.2.2.2.1.mp z
      rw [if_neg h]
      rfl
    | some y =>
      have hy := (ha y rfl).2
      have e2 : en2 (some y) = nI y.2 := rfl
      have e3 : zn_g nI mI (some l) = nI l := rfl
      rw [e2, e3]
      unfold bst
      rw [og_s, og_s]
      simp (disch := omega) only [zn_R]
      by_cases g : l ≤ y.2
      · rw [if_pos g, if_pos g]
        rfl
      · rw [if_neg g, if_neg g]
        rfl
theorem zc_mt {b sd x : Nat} {o : Option En} (hb : b ≤ 6) (ho : ∀ e, o = some e → zEo b e) : G_X1_lengthIfMatching (cwo o) (nI (cd x sd)) (nI b) = zn_g nI mI (mtc b sd x o) := by
  have hc := cd_lt x sd
  have h6 := p2_6 hb
  have hm1 := hm_lt b x sd
  unfold G_X1_lengthIfMatching
  cases o with
  | none => rw [if_pos (show cwo none = -1 from rfl)]; rfl
  | some e =>
    have he := ho e rfl
    have hl := zEo_lt hb he
    have ht := zc_et hb he
    have ecw : cwo (some e) = ew e := rfl
    have hpl := pr_lt b e.2.2.1 x sd
    have h8 := p2_8 hl.2.2.1
    have htl := tg_lt x sd
    rw [ecw]
    simp only [zn_L, zn_M, ew_mi hl.1 hl.2.1 (show e.2.2.1 < 16 by omega) hl.2.2.2, if_false, zn_R, ht.1, ht.2.1, ht.2.2.1, ht.2.2.2, zc_tag hc, zc_home hc hb, zc_print hc hb hl.2.2.1]
    unfold mtc
    rw [og_s]
    have p1 : (nI e.1 = nI (cd x sd / 16384)) ↔ e.1 = tg x sd := nI_eq (by omega) (by unfold tg at htl; omega)
    have p2 : (nI e.2.1 = nI (cd x sd % 16384 % 2 ^ b)) ↔ e.2.1 = hm b x sd := nI_eq (by omega) (by unfold hm at hm1; omega)
    have p3 : (nI e.2.2.2 = nI (cd x sd % 16384 / 2 ^ b % 2 ^ e.2.2.1)) ↔ e.2.2.2 = pr b e.2.2.1 x sd := nI_eq (by omega) (by unfold pr at hpl; omega)
    by_cases g1 : e.1 = tg x sd
    · rw [if_pos (p1.mpr g1)]
      by_cases g2 : e.2.1 = hm b x sd
      · rw [if_pos (p2.mpr g2)]
        by_cases g3 : e.2.2.2 = pr b e.2.2.1 x sd
        · rw [if_pos (p3.mpr g3), if_pos ⟨g1, g2, g3⟩]
          rfl
        · rw [if_neg (fun z => g3 (p3.mp z)), if_neg (fun z => g3 z.2.2)]
          rfl
      · rw [if_neg (fun z => g2 (p2.mp z)), if_neg (fun z => g2 z.2.1)]
        rfl
    · rw [if_neg (fun z => g1 (p1.mp z)), if_neg (fun z => g1 z.1)]
      rfl
theorem zc_stashAt {φ : M2} {q : List En} (h : zSt φ q) (hq : q.length ≤ 3) {i : Nat} (hi : i < q.length) : G_X2_stashAt φ (nI i) = some (cwo q[i]?) := by
  unfold G_X2_stashAt
  simp (disch := omega) only [zn_L, zn_M, zn_R, h.1]
  rw [if_neg (by omega), if_neg (by omega), if_neg (by omega)]
  have e : q[i]? = some q[i] := List.getElem?_eq_getElem hi
  rw [h.2 i q[i] e, e]
  rfl
theorem plp_lt {s h o i : Nat} (hs : s ≤ 4) (hh : h < 64) (ho : o < 64) (hi : i < 2 * s) : plp s h o i < 256 := by
  unfold plp
  split <;> omega
theorem plA_ok {P : Pm} {c : Ce} (hW : zWp P) (hV : zWc P.1 P.2.1 c) (x : Nat) : ∀ i, i ≤ 2 * P.2.1 → zAk (plA P c x i) := by
  have h6 := p2_6 hW.1.2
  have hm1 := hm_lt P.1 x P.2.2.2.1
  have ho := oth_lt (tg x P.2.2.2.1) hm1
  have hs := hW.2.1
  intro i
  induction i with
  | zero =>
    intro _ y hy
    cases hy
  | succ i ih =>
    intro hi
    unfold plA
    have hlt := plp_lt (s := P.2.1) (h := hm P.1 x P.2.2.2.1) (o := oth P.1 (hm P.1 x P.2.2.2.1) (tg x P.2.2.2.1)) (i := i) hs.2 (by omega) (by omega) (by omega)
    exact bst_ok (ih (by omega)) (by omega) (fun l hl => mtc_le (fun e he => (hV _ e he).2.2.1.2.2.1) hl)
theorem plQ_ok {P : Pm} {c : Ce} {q : List En} (hW : zWp P) (hV : zWc P.1 P.2.1 c) (hq : zWq P.1 q) (x : Nat) : ∀ i, i ≤ q.length → zAk (plQ P c q x i) := by
  intro i
  induction i with
  | zero =>
    intro _
    exact plA_ok hW hV x _ (Nat.le_refl _)
  | succ i ih =>
    intro hi
    have h3 := hq.1
    unfold plQ
    exact bst_ok (ih (by omega)) (by omega) (fun l hl => mtc_le (fun e he => (hq.2 e (List.mem_of_getElem? he)).2.2.1) hl)
theorem plc_lt {P : Pm} {c : Ce} {q : List En} {x p : Nat} (hW : zWp P) (hV : zWc P.1 P.2.1 c) (hq : zWq P.1 q) (h : plc P c q x = some p) : p < 2000 := by
  unfold plc at h
  cases ha : plQ P c q x q.length with
  | none =>
    rw [ha] at h
    cases h
  | some y =>
    rw [ha, og_s] at h
    have := Option.some.inj h
    subst this
    exact (plQ_ok hW hV hq x q.length (Nat.le_refl _) y ha).1
theorem zc_placeOf {N : Nat} (hN : 5000 ≤ N) {φ : M2} {P : Pm} {c : Ce} {q : List En} {x : Nat} (hx : x < 1000) (hP : zPm φ P) (hC : zCl φ c) (hS : zSt φ q) (hW : zWp P) (hV : zWc P.1 P.2.1 c) (hq : zWq P.1 q) : G_X2_placeOf N φ (nI x) = some (zn_g nI mI (plc P c q x)) := by
  have hb := hW.1
  have hs := hW.2.1
  have h6 := p2_6 hb.2
  have hcd := cd_lt x P.2.2.2.1
  have hm1 := hm_lt P.1 x P.2.2.2.1
  have ho := oth_lt (tg x P.2.2.2.1) hm1
  have htg := tg_lt x P.2.2.2.1
  have h3 := hq.1
  have l1 : L_X2_placeOf_38 N φ (nI (cd x P.2.2.2.1)) (nI (hm P.1 x P.2.2.2.1)) (nI (oth P.1 (hm P.1 x P.2.2.2.1) (tg x P.2.2.2.1))) N mI mI (nI 0) = some (en1 (plA P c x (2 * P.2.1)), en2 (plA P c x (2 * P.2.1))) := by
    refine zn_up (fun k i (s : Int32 × Int32) => L_X2_placeOf_38 N φ (nI (cd x P.2.2.2.1)) (nI (hm P.1 x P.2.2.2.1)) (nI (oth P.1 (hm P.1 x P.2.2.2.1) (tg x P.2.2.2.1))) k s.1 s.2 (nI i)) (2 * P.2.1) (fun i => (en1 (plA P c x i), en2 (plA P c x i))) _ (fun k i hi => ?_) (fun k => ?_) N 0 (by omega) (by omega)
    · have hlt := plp_lt (s := P.2.1) (h := hm P.1 x P.2.2.2.1) (o := oth P.1 (hm P.1 x P.2.2.2.1) (tg x P.2.2.2.1)) (i := i) hs.2 (by omega) (by omega) (by omega)
      have hcell := hC _ hlt
      have hmt := zc_mt (x := x) (sd := P.2.2.2.1) (o := c (plp P.2.1 (hm P.1 x P.2.2.2.1) (oth P.1 (hm P.1 x P.2.2.2.1) (tg x P.2.2.2.1)) i)) hb.2 (fun e he => (hV _ e he).2.2.1)
      have hbst := bst_c (p := plp P.2.1 (hm P.1 x P.2.2.2.1) (oth P.1 (hm P.1 x P.2.2.2.1) (tg x P.2.2.2.1)) i) (plA_ok hW hV x i (by omega)) (fun l hl => mtc_le (o := c (plp P.2.1 (hm P.1 x P.2.2.2.1) (oth P.1 (hm P.1 x P.2.2.2.1) (tg x P.2.2.2.1)) i)) (b := P.1) (sd := P.2.2.2.1) (x := x) (fun e he => (hV _ e he).2.2.1.2.2.1) hl) (fun u v => L_X2_placeOf_38 N φ (nI (cd x P.2.2.2.1)) (nI (hm P.1 x P.2.2.2.1)) (nI (oth P.1 (hm P.1 x P.2.2.2.1) (tg x P.2.2.2.1))) k u v (nI (i + 1)))
      have eA : plA P c x (i + 1) = bst (plA P c x i) (plp P.2.1 (hm P.1 x P.2.2.2.1) (oth P.1 (hm P.1 x P.2.2.2.1) (tg x P.2.2.2.1)) i) (mtc P.1 P.2.2.2.1 x (c (plp P.2.1 (hm P.1 x P.2.2.2.1) (oth P.1 (hm P.1 x P.2.2.2.1) (tg x P.2.2.2.1)) i))) := rfl
      show B_X2_placeOf_38 N φ (nI (cd x P.2.2.2.1)) (nI (hm P.1 x P.2.2.2.1)) (nI (oth P.1 (hm P.1 x P.2.2.2.1) (tg x P.2.2.2.1))) _ (en1 (plA P c x i)) (en2 (plA P c x i)) (nI i) = _
      rw [eA]
      rw [← hbst]
      unfold B_X2_placeOf_38 J_X2_placeOf_79_38
      simp (disch := omega) only [zn_L, zn_M, zn_R, hP.2.1]
      rw [if_neg (by omega)]
      by_cases g : i < P.2.1
      · have e1 : plp P.2.1 (hm P.1 x P.2.2.2.1) (oth P.1 (hm P.1 x P.2.2.2.1) (tg x P.2.2.2.1)) i = 4 * hm P.1 x P.2.2.2.1 + i := if_pos g
        rw [if_neg (by omega)]
        rw [e1] at hlt hcell hmt ⊢
        simp (disch := omega) only [zc_place, zc_cell, zn_R, hcell, hP.1, hmt]
      · have e1 : plp P.2.1 (hm P.1 x P.2.2.2.1) (oth P.1 (hm P.1 x P.2.2.2.1) (tg x P.2.2.2.1)) i = 4 * oth P.1 (hm P.1 x P.2.2.2.1) (tg x P.2.2.2.1) + (i - P.2.1) := if_neg g
        rw [if_pos (by omega)]
        rw [e1] at hlt hcell hmt ⊢
        simp (disch := omega) only [zc_place, zc_cell, zn_R, hcell, hP.1, hmt]
    · show B_X2_placeOf_38 N φ _ _ _ _ _ _ (nI (2 * P.2.1)) = _
      unfold B_X2_placeOf_38
      simp (disch := omega) only [zn_L, zn_M, zn_R, hP.2.1]
      rw [if_pos (by omega)]
  have l2 : L_X2_placeOf_121 N φ (nI (cd x P.2.2.2.1)) N (en1 (plQ P c q x 0)) (en2 (plQ P c q x 0)) (nI 0) = some (en1 (plQ P c q x q.length)) := by
    refine zn_up (fun k i (s : Int32 × Int32) => L_X2_placeOf_121 N φ (nI (cd x P.2.2.2.1)) k s.1 s.2 (nI i)) q.length (fun i => (en1 (plQ P c q x i), en2 (plQ P c q x i))) _ (fun k i hi => ?_) (fun k => ?_) N 0 (by omega) (by omega)
    · have hmt := zc_mt (x := x) (sd := P.2.2.2.1) (o := q[i]?) hb.2 (fun e he => hq.2 e (List.mem_of_getElem? he))
      have hbst := bst_c (p := 1000 + i) (plQ_ok hW hV hq x i (by omega)) (fun l hl => mtc_le (o := q[i]?) (b := P.1) (sd := P.2.2.2.1) (x := x) (fun e he => (hq.2 e (List.mem_of_getElem? he)).2.2.1) hl) (fun u v => L_X2_placeOf_121 N φ (nI (cd x P.2.2.2.1)) k u v (nI (i + 1)))
      have eA : plQ P c q x (i + 1) = bst (plQ P c q x i) (1000 + i) (mtc P.1 P.2.2.2.1 x q[i]?) := rfl
      show B_X2_placeOf_121 N φ (nI (cd x P.2.2.2.1)) _ (en1 (plQ P c q x i)) (en2 (plQ P c q x i)) (nI i) = _
      rw [eA]
      rw [← hbst]
      unfold B_X2_placeOf_121
      simp (disch := omega) only [zn_L, zn_M, zn_R, hS.1, zc_stashAt hS h3 hi, hP.1, hmt]
      rw [if_neg (by omega)]
    · show B_X2_placeOf_121 N φ _ _ _ _ (nI q.length) = _
      unfold B_X2_placeOf_121
      simp (disch := omega) only [zn_L, zn_M, zn_R, hS.1]
      rw [if_pos (by omega)]
  have e0 : plQ P c q x 0 = plA P c x (2 * P.2.1) := rfl
  rw [e0] at l2
  have eH : cd x P.2.2.2.1 % 16384 % 2 ^ P.1 = hm P.1 x P.2.2.2.1 := rfl
  have eT : cd x P.2.2.2.1 / 16384 = tg x P.2.2.2.1 := rfl
  unfold G_X2_placeOf
  simp only [zn_L, zn_M, zn_R, zc_code hP hW hx, hP.1, zc_home hcd hb.2, zc_tag hcd, eH, eT, zc_part htg hb.2, l1, l2]
  unfold plc en1
  cases plQ P c q x q.length with
  | none => rfl
  | some y => rfl
