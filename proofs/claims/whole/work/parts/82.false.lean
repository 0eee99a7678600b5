/-! the pure layer: false keys -/
def fals (P : Pm) (c : Ce) (q : List En) (nk : Nat) (K : Nat → Nat) (x : Nat) : Bool := (plc P c q x).isSome && (ix nk K x).isNone
theorem zc_finds {N : Nat} (hN : 5000 ≤ N) {φ : M2} {P : Pm} {c : Ce} {q : List En} {x : Nat} (hx : x < 1000) (hP : zPm φ P) (hC : zCl φ c) (hS : zSt φ q) (hW : zWp P) (hV : zWc P.1 P.2.1 c) (hq : zWq P.1 q) : G_X2_finds N φ (nI x) = some (if (plc P c q x).isSome = true then nI 1 else nI 0) := by
  unfold G_X2_finds
  simp only [zn_L, zn_M, zn_R, zc_placeOf hN hx hP hC hS hW hV hq]
  cases h : plc P c q x with
  | none => simp only [zn_g, if_true, Option.isSome_none, Bool.false_eq_true, if_false]
  | some p =>
    have := plc_lt hW hV hq h
    simp (disch := omega) only [zn_g, zn_R, if_false, Option.isSome_some, if_true]
theorem zc_isFalse {N : Nat} (hN : 5000 ≤ N) {φ : M2} {P : Pm} {c : Ce} {q : List En} {nk : Nat} {K : Nat → Nat} {x : Nat} (hx : x < 1000) (hR : zRC φ P c q nk K) (hF : zWF P c q nk K) : G_X2_isFalse N φ (nI x) = some (if fals P c q nk K x = true then nI 1 else nI 0) := by
  have h1 := zc_finds hN hx hR.1 hR.2.1 hR.2.2.1 hF.1 hF.2.1 hF.2.2.1
  have h2 := zc_has hN hx hR.2.2.2 hF.2.2.2
  unfold G_X2_isFalse fals
  simp only [zn_L, zn_M, zn_R, h1, h2]
  cases (plc P c q x).isSome with
  | false => rfl
  | true =>
    rw [if_pos rfl, if_neg (by decide)]
    cases ix nk K x with
    | none => rfl
    | some i =>
      show (if nI 1 = nI 0 then some (nI 1) else some (nI 0)) = _
      rw [if_neg (show ¬ (nI 1 = nI 0) from by decide)]
      rfl
theorem zc_falseBetween {N : Nat} (hN : 5000 ≤ N) {φ : M2} {P : Pm} {c : Ce} {q : List En} {nk : Nat} {K : Nat → Nat} {a b : Nat} (ha : a ≤ b) (hb : b < 1000) (hR : zRC φ P c q nk K) (hF : zWF P c q nk K) : G_X2_falseBetween N φ (nI a) (nI b) = some (nI (cnt (fals P c q nk K) a (b + 1 - a))) := by
  have h := zn_cnt (fun k m i => L_X2_falseBetween_5 N φ (nI b) k (nI m) (nI i)) (fals P c q nk K) (b + 1) nI (fun k m i hi => ?_) (fun k m => ?_) (b + 1 - a) a 0 N (by omega) (by omega)
  · unfold G_X2_falseBetween
    simp only [zn_L]
    rw [h, Nat.zero_add]
    rfl
  · show B_X2_falseBetween_5 N φ (nI b) _ (nI m) (nI i) = _
    unfold B_X2_falseBetween_5
    simp (disch := omega) only [zn_L, zn_M, zn_R]
    rw [if_neg (by omega), if_neg (by omega), zc_isFalse hN (by omega) hR hF]
    simp only [zn_R]
    cases fals P c q nk K i with
    | true =>
      rw [if_pos rfl, if_neg (by decide), if_pos rfl]
    | false =>
      rw [if_neg Bool.false_ne_true, if_pos rfl, if_neg Bool.false_ne_true]
  · show B_X2_falseBetween_5 N φ (nI b) _ (nI m) (nI (b + 1)) = _
    unfold B_X2_falseBetween_5
    simp (disch := omega) only [zn_L, zn_M, zn_R]
    rw [if_pos (by omega)]
theorem zm_isFalse {N : Nat} (hN : 5000 ≤ N) {ψ : M2} {P : Pm} {c : Ce} {q : List En} {nk : Nat} {K : Nat → Nat} {x : Nat} (hx : x < 1000) (hP : zMp (ψ 1) P) (hC : zMw (ψ 1) c) (hS : zMq (ψ 1) q) (hK : zMk (ψ 1) nk K) (hF : zWF P c q nk K) : G_X9_isFalse N ψ (nI x) = some (if fals P c q nk K x = true then nI 1 else nI 0) := by
  have h1 := zm_placeOf hN hx hP hC hS hF.1 hF.2.1 hF.2.2.1
  have h2 := zm_ix hN hx hK hF.2.2.2
  have hn := hF.2.2.2.1
  unfold G_X9_isFalse fals
  simp only [zn_L, zn_M, zn_R, h1, h2]
  cases hp : plc P c q x with
  | none => simp only [zn_g, if_true, Option.isSome_none, Bool.false_and, Bool.false_eq_true, if_false]
  | some p =>
    have := plc_lt hF.1 hF.2.1 hF.2.2.1 hp
    simp (disch := omega) only [zn_g, zn_R, if_false, Option.isSome_some, Bool.true_and]
    cases hi : ix nk K x with
    | none => simp only [zn_g, if_true, Option.isNone_none]
    | some i =>
      have := (ix_lt hi).1
      simp (disch := omega) only [zn_g, zn_R, if_false, Option.isNone_some, Bool.false_eq_true]
theorem zm_falseMany {N : Nat} (hN : 5000 ≤ N) {ψ : M2} {P : Pm} {c : Ce} {q : List En} {nk : Nat} {K : Nat → Nat} {a b : Nat} (ha : a ≤ b) (hb : b < 1000) (hP : zMp (ψ 1) P) (hC : zMw (ψ 1) c) (hS : zMq (ψ 1) q) (hK : zMk (ψ 1) nk K) (hF : zWF P c q nk K) : G_X9_falseMany N ψ (nI a) (nI b) = some (nI (cnt (fals P c q nk K) a (b + 1 - a))) := by
  have h := zn_cnt (fun k m i => L_X9_falseMany_5 N ψ (nI b) k (nI m) (nI i)) (fals P c q nk K) (b + 1) nI (fun k m i hi => ?_) (fun k m => ?_) (b + 1 - a) a 0 N (by omega) (by omega)
  · unfold G_X9_falseMany
    simp only [zn_L]
    rw [h, Nat.zero_add]
    rfl
  · show B_X9_falseMany_5 N ψ (nI b) _ (nI m) (nI i) = _
    unfold B_X9_falseMany_5
    simp (disch := omega) only [zn_L, zn_M, zn_R]
    rw [if_neg (by omega), zm_isFalse hN (by omega) hP hC hS hK hF]
    simp only [zn_R]
    cases fals P c q nk K i with
    | true =>
      rw [if_pos rfl, if_neg (by decide), if_pos rfl]
    | false =>
      rw [if_neg Bool.false_ne_true, if_pos rfl, if_neg Bool.false_ne_true]
      rfl
  · show B_X9_falseMany_5 N ψ (nI b) _ (nI m) (nI (b + 1)) = _
    unfold B_X9_falseMany_5
    simp (disch := omega) only [zn_L, zn_M, zn_R]
    rw [if_pos (by omega)]
