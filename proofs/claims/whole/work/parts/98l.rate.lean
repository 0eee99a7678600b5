/-! the pure layer: floats -/
theorem zf_t : FP.Core.Fmt.tails FP.Core.b32 = 8388608 := by decide
theorem zf_x : FP.Core.Fmt.exps FP.Core.b32 = 256 := by decide
theorem zf_q : FP.Core.Fmt.qmin FP.Core.b32 = -149 := by decide
theorem zf_Q : FP.Core.Fmt.qmax FP.Core.b32 = 104 := by decide
theorem zf_p : FP.Core.Fmt.p FP.Core.b32 = 24 := by decide
theorem zf_dec {E T : Nat} (h1 : 1 ≤ E) (h2 : E ≤ 254) (hT : T < 8388608) : FP.Core.decode FP.Core.b32 (E * 8388608 + T) = .fin false (8388608 + T) ((E : Int) - 150) := by
  unfold FP.Core.decode FP.Core.fieldE FP.Core.fieldT FP.Core.fieldS
  rw [zf_t, zf_x, zf_q]
  have e1 : (E * 8388608 + T) / 8388608 = E := by omega
  have e2 : E % 256 = E := by omega
  have e3 : (E * 8388608 + T) % 8388608 = T := by omega
  have e4 : E / 256 % 2 = 0 := by omega
  rw [e1, e2, e3, e4, if_neg (by omega), if_neg (by omega)]
  have e5 : (-149 : Int) + ((E : Int) - 1) = (E : Int) - 150 := by omega
  rw [e5]
  rfl
theorem zf_enc {c : Nat} {q : Int} (h1 : 8388608 ≤ c) : FP.Core.encode FP.Core.b32 (.fin false c q) = ((q + 149).toNat + 1) * 8388608 + (c - 8388608) := by
  unfold FP.Core.encode FP.Core.assemble
  dsimp only
  rw [zf_t, zf_x, zf_q, if_neg (by omega)]
  have e1 : q - (-149) = q + 149 := by omega
  have e2 : false.toNat * 256 + ((q + 149).toNat + 1) = (q + 149).toNat + 1 := by
    show 0 * 256 + ((q + 149).toNat + 1) = _
    omega
  rw [e1, e2]
theorem zf_log {n k : Nat} (h1 : 2 ^ k ≤ n) (h2 : n < 2 ^ (k + 1)) : n.log2 = k := by
  have h0 : n ≠ 0 := by
    have := Nat.two_pow_pos k
    omega
  have a1 : 2 ^ n.log2 ≤ n := Nat.log2_self_le h0
  have a2 : n < 2 ^ (n.log2 + 1) := Nat.lt_log2_self
  have b1 : n.log2 < k + 1 := (Nat.pow_lt_pow_iff_right (by decide : 1 < 2)).mp (Nat.lt_of_le_of_lt a1 h2)
  have b2 : k < n.log2 + 1 := (Nat.pow_lt_pow_iff_right (by decide : 1 < 2)).mp (Nat.lt_of_le_of_lt h1 a2)
  omega
theorem zf_lead {n k : Nat} (h1 : 2 ^ k ≤ n) (h2 : n < 2 ^ (k + 1)) : FP.Core.leading n 1 = (k : Int) := by
  unfold FP.Core.leading
  dsimp only
  have e1 : Nat.log2 1 = 0 := by decide
  rw [zf_log h1 h2, e1]
  have e2 : ((k : Int) - ((0 : Nat) : Int)) = (k : Int) := by omega
  rw [e2]
  have e3 : (k : Int).toNat = k := by omega
  have e4 : (-(k : Int)).toNat = 0 := by omega
  rw [e3, e4, if_pos (by omega)]
theorem zf_near {c d : Nat} (hd : 0 < d) : FP.Core.nearest (c * d) d = c := by
  unfold FP.Core.nearest
  rw [Nat.mul_mod_left, if_pos (by omega), Nat.mul_div_cancel _ hd]
theorem zf_set {c : Nat} {q : Int} (h : c < 16777216) (hq : q ≤ 104) : FP.Core.settle FP.Core.b32 false c q = .fin false c q := by
  unfold FP.Core.settle FP.Core.bound
  rw [zf_p, zf_Q, if_pos h, if_pos hq]
theorem zf_r1 {c k : Nat} {e : Int} (h1 : 8388608 ≤ c) (h2 : c < 16777216) (hq : -149 ≤ e + k) (hq2 : e + k ≤ 104) : FP.Core.roundRatio FP.Core.b32 false (c * 2 ^ k) 1 e = .fin false c (e + k) := by
  have hp := Nat.two_pow_pos k
  have hlow : 2 ^ (23 + k) ≤ c * 2 ^ k := by
    rw [Nat.pow_add]
    exact Nat.mul_le_mul_right _ h1
  have hhi : c * 2 ^ k < 2 ^ (23 + k + 1) := by
    rw [show 23 + k + 1 = 24 + k by omega, Nat.pow_add]
    exact Nat.mul_lt_mul_of_pos_right h2 hp
  have hne : c * 2 ^ k ≠ 0 := Nat.mul_ne_zero (by omega) (by omega)
  unfold FP.Core.roundRatio FP.Core.quantum
  rw [if_neg hne, zf_lead hlow hhi, zf_q, zf_p]
  have e1 : max (-149 : Int) (((23 + k : Nat) : Int) + e - (((24 : Nat) : Int) - 1)) = e + k := by omega
  rw [e1]
  unfold FP.Core.roundAt FP.Core.unitsNum FP.Core.unitsDen
  have e2 : (e - (e + (k : Int))).toNat = 0 := by omega
  have e3 : (e + (k : Int) - e).toNat = k := by omega
  rw [e2, e3, Nat.pow_zero, Nat.mul_one, Nat.one_mul, zf_near hp, zf_set h2 hq2]
theorem zf_r2 {t j : Nat} {e : Int} (hj : j ≤ 23) (h1 : 8388608 ≤ t * 2 ^ j) (h2 : t * 2 ^ j < 16777216) (hq : -149 ≤ e - j) (hq2 : e - j ≤ 104) : FP.Core.roundRatio FP.Core.b32 false t 1 e = .fin false (t * 2 ^ j) (e - j) := by
  have hp := Nat.two_pow_pos j
  have hlow : 2 ^ (23 - j) ≤ t := by
    have h9 : 2 ^ (23 - j) * 2 ^ j ≤ t * 2 ^ j := by
      rw [← Nat.pow_add, show 23 - j + j = 23 by omega]
      exact h1
    exact Nat.le_of_mul_le_mul_right h9 hp
  have hhi : t < 2 ^ (23 - j + 1) := by
    have h9 : t * 2 ^ j < 2 ^ (23 - j + 1) * 2 ^ j := by
      rw [← Nat.pow_add, show 23 - j + 1 + j = 24 by omega]
      exact h2
    exact Nat.lt_of_mul_lt_mul_right h9
  have hne : t ≠ 0 := by
    have := Nat.two_pow_pos (23 - j)
    omega
  unfold FP.Core.roundRatio FP.Core.quantum
  rw [if_neg hne, zf_lead hlow hhi, zf_q, zf_p]
  have e1 : max (-149 : Int) (((23 - j : Nat) : Int) + e - (((24 : Nat) : Int) - 1)) = e - j := by omega
  rw [e1]
  unfold FP.Core.roundAt FP.Core.unitsNum FP.Core.unitsDen
  have e2 : (e - (e - (j : Int))).toNat = j := by omega
  have e3 : (e - (j : Int) - e).toNat = 0 := by omega
  rw [e2, e3, Nat.pow_zero, Nat.mul_one]
  have hn := zf_near (c := t * 2 ^ j) (d := 1) (by decide)
  rw [Nat.mul_one] at hn
  rw [hn, zf_set h2 hq2]
/-- the float of a biased exponent and a tail -/
def fE (E T : Nat) : UInt32 := UInt32.ofNat (E * 8388608 + T)
theorem fE_n {E T : Nat} (h2 : E ≤ 254) (hT : T < 8388608) : (fE E T).toNat = E * 8388608 + T := by
  unfold fE
  rw [UInt32.toNat_ofNat_of_lt' (show E * 8388608 + T < 2 ^ 32 by omega)]
theorem fE_dec {E T : Nat} (h1 : 1 ≤ E) (h2 : E ≤ 254) (hT : T < 8388608) : FP.Core.decode FP.Core.b32 (fE E T).toNat = .fin false (8388608 + T) ((E : Int) - 150) := by
  rw [fE_n h2 hT, zf_dec h1 h2 hT]
theorem fE_enc {c : Nat} {q : Int} (h1 : 8388608 ≤ c) (hq : -149 ≤ q) : UInt32.ofNat (FP.Core.encode FP.Core.b32 (.fin false c q)) = fE (q + 150).toNat (c - 8388608) := by
  unfold fE
  rw [zf_enc h1, show (q + 149).toNat + 1 = (q + 150).toNat by omega]
theorem zf_two {E T : Nat} (h1 : 1 ≤ E) (h2 : E ≤ 200) (hT : T < 8388608) : FP.fmul (fE E T) FP.fconst2 = fE (E + 1) T := by
  have e2 : FP.Core.decode FP.Core.b32 FP.fconst2.toNat = .fin false 8388608 (-22) := by decide +kernel
  show UInt32.ofNat (FP.Core.encode FP.Core.b32 (FP.Core.round FP.Core.b32 (FP.Core.exactProduct (FP.Core.decode FP.Core.b32 (fE E T).toNat) (FP.Core.decode FP.Core.b32 FP.fconst2.toNat)))) = _
  rw [fE_dec h1 (by omega) hT, e2]
  show UInt32.ofNat (FP.Core.encode FP.Core.b32 (FP.Core.roundRatio FP.Core.b32 false ((8388608 + T) * 8388608) 1 ((E : Int) - 150 + -22))) = _
  have hr := zf_r1 (c := 8388608 + T) (k := 23) (e := (E : Int) - 150 + -22) (by omega) (by omega) (by omega) (by omega)
  rw [show (8388608 + T) * 8388608 = (8388608 + T) * 2 ^ 23 from rfl, hr, fE_enc (by omega) (by omega)]
  rw [show ((E : Int) - 150 + -22 + ((23 : Nat) : Int) + 150).toNat = E + 1 by omega, show 8388608 + T - 8388608 = T by omega]
theorem zf_one : FP.Core.decode FP.Core.b32 FP.fconst1.toNat = .fin false 8388608 (-23) := by decide +kernel
theorem zf_lt {a b : Int} (h : a < b) : compare a b = .lt := by
  show compareOfLessAndEq a b = .lt
  unfold compareOfLessAndEq
  rw [if_pos h]
theorem zf_eq (a : Int) : compare a a = .eq := by
  show compareOfLessAndEq a a = .eq
  unfold compareOfLessAndEq
  rw [if_neg (Int.lt_irrefl a), if_pos rfl]
theorem zf_gt {a b : Int} (h : b < a) : compare a b = .gt := by
  show compareOfLessAndEq a b = .gt
  unfold compareOfLessAndEq
  rw [if_neg (by omega), if_neg (by omega)]
theorem zf_c1 {E T : Nat} (h1 : 1 ≤ E) (h2 : E ≤ 127) (hT : T < 8388608) : (0 ≤ Op.cmpValue (FP.fcmp (fE E T) FP.fconst1) .g) ↔ E = 127 := by
  have hc : FP.fcmp (fE E T) FP.fconst1 = some (compare ((FP.Core.inUnits (8388608 + T) ((E : Int) - 150) (min ((E : Int) - 150) (-23)) : Nat) : Int) ((FP.Core.inUnits 8388608 (-23) (min ((E : Int) - 150) (-23)) : Nat) : Int)) := by
    show FP.Core.order (FP.Core.decode FP.Core.b32 (fE E T).toNat) (FP.Core.decode FP.Core.b32 FP.fconst1.toNat) = _
    rw [fE_dec h1 (by omega) hT, zf_one]
    rfl
  rw [hc]
  unfold FP.Core.inUnits
  have hm : min ((E : Int) - 150) (-23) = (E : Int) - 150 := by omega
  rw [hm]
  have e0 : ((E : Int) - 150 - ((E : Int) - 150)).toNat = 0 := by omega
  have e1 : ((-23 : Int) - ((E : Int) - 150)).toNat = 127 - E := by omega
  rw [e0, e1, Nat.pow_zero, Nat.mul_one]
  by_cases g : E = 127
  · subst g
    refine ⟨fun _ => rfl, fun _ => ?_⟩
    by_cases gT : T = 0
    · subst gT
      rw [show 8388608 * 2 ^ (127 - 127) = 8388608 + 0 from rfl, zf_eq]
      decide
    · rw [zf_gt (by show ((8388608 * 2 ^ (127 - 127) : Nat) : Int) < ((8388608 + T : Nat) : Int); have : 8388608 * 2 ^ (127 - 127) = 8388608 := rfl; omega)]
      decide
  · have hp : 2 ^ 1 ≤ 2 ^ (127 - E) := Nat.pow_le_pow_right (by decide) (by omega)
    rw [zf_lt (by omega)]
    exact ⟨fun z => absurd z (by decide), fun z => absurd z g⟩
theorem zf_ofn {α : Type} {E T : Nat} (h2 : E ≤ 254) (hT : T < 8388608) (k : Option α) : ofn (fE E T) k = k := by
  unfold ofn
  rw [if_pos]
  rw [UInt32.le_iff_toNat_le, UInt32.toNat_and, fE_n h2 hT]
  have e1 : (0x7fffffff : UInt32).toNat = 2 ^ 31 - 1 := by decide
  have e2 : (0x7f800000 : UInt32).toNat = 2139095040 := by decide
  rw [e1, e2, Nat.and_two_pow_sub_one_eq_mod, Nat.mod_eq_of_lt (by omega)]
  omega
theorem zf_loop {N T : Nat} (hT : T < 8388608) : ∀ (d E v F : Nat), E + d = 127 → 1 ≤ E → d < v → v ≤ 127 → d < F → L_X8_bitsOf_13 N F (fE E T) (nI v) = some (fE 127 T, nI (v - d)) := by
  intro d
  induction d with
  | zero =>
    intro E v F h1 h0 h2 h3 h4
    obtain ⟨F, rfl⟩ : ∃ j, F = j + 1 := ⟨F - 1, by omega⟩
    have hE : E = 127 := by omega
    subst hE
    show B_X8_bitsOf_13 N _ (fE 127 T) (nI v) = _
    unfold B_X8_bitsOf_13
    rw [if_pos ((zf_c1 (by decide) (by decide) hT).mpr rfl)]
    rfl
  | succ d ih =>
    intro E v F h1 h0 h2 h3 h4
    obtain ⟨F, rfl⟩ : ∃ j, F = j + 1 := ⟨F - 1, by omega⟩
    have e9 : nI v + (-1) = nI (v - 1) := sb_m1 (by omega)
    show B_X8_bitsOf_13 N _ (fE E T) (nI v) = _
    unfold B_X8_bitsOf_13
    rw [if_neg (fun z => by have := (zf_c1 h0 (by omega) hT).mp z; omega), if_neg (show ¬ nI v ≤ 1 from fun z => by rw [zn_L.1.2.1, nI_leI (by omega) (by decide)] at z; omega), zf_two h0 (by omega) hT, zf_ofn (by omega) hT, e9, ih (E + 1) (v - 1) F (by omega) (by omega) (by omega) (by omega) (by omega), show v - 1 - d = v - (d + 1) by omega]
/-- a shift that makes the leading digit the last one that is kept -/
theorem zf_j {t : Nat} (h1 : 1 ≤ t) (h2 : t < 16777216) : ∃ j, j ≤ 23 ∧ 8388608 ≤ t * 2 ^ j ∧ t * 2 ^ j < 16777216 := by
  have a1 : 2 ^ t.log2 ≤ t := Nat.log2_self_le (by omega)
  have a2 : t < 2 ^ (t.log2 + 1) := Nat.lt_log2_self
  have a3 : t.log2 < 24 := (Nat.pow_lt_pow_iff_right (by decide : 1 < 2)).mp (Nat.lt_of_le_of_lt a1 h2)
  refine ⟨23 - t.log2, by omega, ?_, ?_⟩
  · have := Nat.mul_le_mul_right (2 ^ (23 - t.log2)) a1
    rw [← Nat.pow_add, show t.log2 + (23 - t.log2) = 23 by omega] at this
    exact this
  · have := Nat.mul_lt_mul_of_pos_right a2 (Nat.two_pow_pos (23 - t.log2))
    rw [← Nat.pow_add, show t.log2 + 1 + (23 - t.log2) = 24 by omega] at this
    exact this
theorem zf_sub {T j : Nat} (hT0 : 1 ≤ T) (hT : T < 8388608) (hj : j ≤ 23) (h1 : 8388608 ≤ T * 2 ^ j) (h2 : T * 2 ^ j < 16777216) : FP.fsub (fE 127 T) FP.fconst1 = fE (127 - j) (T * 2 ^ j - 8388608) := by
  show UInt32.ofNat (FP.Core.encode FP.Core.b32 (FP.Core.round FP.Core.b32 (FP.Core.exactSum (FP.Core.decode FP.Core.b32 (fE 127 T).toNat) (FP.Core.negate (FP.Core.decode FP.Core.b32 FP.fconst1.toNat))))) = _
  rw [fE_dec (by decide) (by decide) hT, zf_one]
  have hs : FP.Core.exactSum (.fin false (8388608 + T) (((127 : Nat) : Int) - 150)) (FP.Core.negate (.fin false 8388608 (-23))) = .fin false T (-23) := by
    show FP.Core.Datum.fin (FP.Core.sumSign false true (FP.Core.sumUnits false (8388608 + T) (((127 : Nat) : Int) - 150) true 8388608 (-23) (min (((127 : Nat) : Int) - 150) (-23)))) (FP.Core.sumUnits false (8388608 + T) (((127 : Nat) : Int) - 150) true 8388608 (-23) (min (((127 : Nat) : Int) - 150) (-23))).natAbs (min (((127 : Nat) : Int) - 150) (-23)) = _
    have hm : min (((127 : Nat) : Int) - 150) (-23) = (-23 : Int) := by omega
    have hq : (((127 : Nat) : Int) - 150) = (-23 : Int) := by omega
    rw [hm, hq]
    have hv : FP.Core.sumUnits false (8388608 + T) (-23) true 8388608 (-23) (-23) = (T : Int) := by
      unfold FP.Core.sumUnits FP.Core.signed FP.Core.inUnits
      have e0 : ((-23 : Int) - (-23)).toNat = 0 := by decide
      rw [e0, Nat.pow_zero, Nat.mul_one, Nat.mul_one, if_neg Bool.false_ne_true, if_pos rfl]
      omega
    rw [hv]
    unfold FP.Core.sumSign
    rw [if_neg (by omega), decide_eq_false (by omega), Int.natAbs_natCast]
  rw [hs]
  show UInt32.ofNat (FP.Core.encode FP.Core.b32 (FP.Core.roundRatio FP.Core.b32 false T 1 (-23))) = _
  rw [zf_r2 (e := -23) hj h1 h2 (by omega) (by omega), fE_enc h1 (by omega), show ((-23 : Int) - (j : Int) + 150).toNat = 127 - j by omega]
theorem zf_mul {c j : Nat} (hj : j ≤ 23) (h1 : 8388608 ≤ c) (h2 : c < 16777216) : FP.fmul (fE (127 - j) (c - 8388608)) 1258291200 = fE (150 - j) (c - 8388608) := by
  have e2 : FP.Core.decode FP.Core.b32 (1258291200 : UInt32).toNat = .fin false 8388608 0 := by decide +kernel
  show UInt32.ofNat (FP.Core.encode FP.Core.b32 (FP.Core.round FP.Core.b32 (FP.Core.exactProduct (FP.Core.decode FP.Core.b32 (fE (127 - j) (c - 8388608)).toNat) (FP.Core.decode FP.Core.b32 (1258291200 : UInt32).toNat)))) = _
  rw [fE_dec (by omega) (by omega) (by omega), e2]
  show UInt32.ofNat (FP.Core.encode FP.Core.b32 (FP.Core.roundRatio FP.Core.b32 false ((8388608 + (c - 8388608)) * 8388608) 1 (((127 - j : Nat) : Int) - 150 + 0))) = _
  have hr := zf_r1 (c := c) (k := 23) (e := ((127 - j : Nat) : Int) - 150 + 0) h1 h2 (by omega) (by omega)
  rw [show (8388608 + (c - 8388608)) * 8388608 = c * 2 ^ 23 by omega, hr, fE_enc h1 (by omega), show (((127 - j : Nat) : Int) - 150 + 0 + ((23 : Nat) : Int) + 150).toNat = 150 - j by omega]
theorem zf_f2i {T j : Nat} (hT : T < 8388608) (hj : j ≤ 23) (h1 : 8388608 ≤ T * 2 ^ j) (h2 : T * 2 ^ j < 16777216) : FP.f2i (fE (150 - j) (T * 2 ^ j - 8388608)) = nI T := by
  show FP.Core.toI (FP.Core.decode FP.Core.b32 (fE (150 - j) (T * 2 ^ j - 8388608)).toNat) = _
  rw [fE_dec (by omega) (by omega) (by omega), show 8388608 + (T * 2 ^ j - 8388608) = T * 2 ^ j by omega]
  unfold FP.Core.toI FP.Core.toInt FP.Core.truncate FP.Core.signed
  have e1 : (((150 - j : Nat) : Int) - 150).toNat = 0 := by omega
  have e2 : (-(((150 - j : Nat) : Int) - 150)).toNat = j := by omega
  dsimp only
  rw [e1, e2, Nat.pow_zero, Nat.mul_one, Nat.mul_div_cancel _ (Nat.two_pow_pos j), if_neg Bool.false_ne_true]
  have e3 : max (-2 ^ 31 : Int) (min (2 ^ 31 - 1) (T : Int)) = (T : Int) := by omega
  rw [e3]
  rfl
theorem zf_fin {N E T : Nat} (h1 : 1 ≤ E) (h2 : E ≤ 127) (hT : T < 8388608) : J_X8_bitsOf_34 N (fE 127 T) (nI E) = some (nI (E * 8388608 + T)) := by
  have hlast : nI E <<< ((23 : Int32) &&& 31) ||| nI T = nI (E * 8388608 + T) := by
    have e23 : (23 : Int32) = nI 23 := rfl
    rw [e23]
    simp (disch := omega) only [zn_L, zn_R]
    have e5 : E * 2 ^ 23 ||| T = E * 8388608 + T := by
      have := Nat.two_pow_add_eq_or_of_lt (i := 23) (b := T) hT E
      rw [Nat.mul_comm E (2 ^ 23), ← this]
    rw [e5]
  unfold J_X8_bitsOf_34
  by_cases g : T = 0
  · subst g
    have s0 : FP.fsub (fE 127 0) FP.fconst1 = 0 := by decide +kernel
    have s1 : FP.fmul 0 1258291200 = 0 := by decide +kernel
    have s2 : FP.f2i 0 = nI 0 := by decide +kernel
    rw [s0, s1, s2]
    have o0 : ∀ k : Option Int32, ofn 0 k = k := fun k => by
      unfold ofn
      rw [if_pos (by decide)]
    rw [o0, o0]
    simp only [zn_R]
    rw [hlast]
  · obtain ⟨j, j1, j2, j3⟩ := zf_j (t := T) (by omega) (by omega)
    rw [zf_sub (by omega) hT j1 j2 j3, zf_mul (c := T * 2 ^ j) j1 j2 j3, zf_f2i hT j1 j2 j3, zf_ofn (by omega) (by omega), zf_ofn (by omega) (by omega)]
    simp only [zn_R]
    rw [hlast]
theorem zf_bits {N E T : Nat} (hN : 5000 ≤ N) (h1 : 1 ≤ E) (h2 : E ≤ 127) (hT : T < 8388608) : G_X8_bitsOf N (fE E T) = some (nI (E * 8388608 + T)) := by
  have hpos : 0 < Op.cmpValue (FP.fcmp (fE E T) FP.fconst0) .g := by
    have hc : FP.fcmp (fE E T) FP.fconst0 = some (compare ((FP.Core.inUnits (8388608 + T) ((E : Int) - 150) (min ((E : Int) - 150) (-149)) : Nat) : Int) ((FP.Core.inUnits 0 (-149) (min ((E : Int) - 150) (-149)) : Nat) : Int)) := by
      have e0 : FP.Core.decode FP.Core.b32 FP.fconst0.toNat = .fin false 0 (-149) := by decide +kernel
      show FP.Core.order (FP.Core.decode FP.Core.b32 (fE E T).toNat) (FP.Core.decode FP.Core.b32 FP.fconst0.toNat) = _
      rw [fE_dec h1 (by omega) hT, e0]
      rfl
    have hp : 0 < FP.Core.inUnits (8388608 + T) ((E : Int) - 150) (min ((E : Int) - 150) (-149)) := Nat.mul_pos (by omega) (Nat.two_pow_pos _)
    have hz : FP.Core.inUnits 0 (-149) (min ((E : Int) - 150) (-149)) = 0 := Nat.zero_mul _
    rw [hc, hz, zf_gt (by omega)]
    decide
  unfold G_X8_bitsOf
  have hl := zf_loop (N := N) hT (127 - E) E 127 N (by omega) h1 (by omega) (by decide) (by omega)
  have hl : L_X8_bitsOf_13 N N (fE E T) 127 = some (fE 127 T, nI (127 - (127 - E))) := hl
  rw [if_pos hpos, hl, show 127 - (127 - E) = E by omega]
  exact zf_fin (N := N) h1 h2 hT
theorem zf_fbits {E T : Nat} (h1 : 1 ≤ E) (h2 : E ≤ 254) (hT : T < 8388608) : fBits (fE E T) = nI (E * 8388608 + T) := by
  have hn : fNan (fE E T) = 0 := by
    have hc : FP.fcmp (fE E T) (fE E T) = some (compare ((FP.Core.inUnits (8388608 + T) ((E : Int) - 150) (min ((E : Int) - 150) ((E : Int) - 150)) : Nat) : Int) ((FP.Core.inUnits (8388608 + T) ((E : Int) - 150) (min ((E : Int) - 150) ((E : Int) - 150)) : Nat) : Int)) := by
      show FP.Core.order (FP.Core.decode FP.Core.b32 (fE E T).toNat) (FP.Core.decode FP.Core.b32 (fE E T).toNat) = _
      rw [fE_dec h1 (by omega) hT]
      rfl
    unfold fNan
    rw [hc, zf_eq, if_pos (by decide)]
  unfold fBits
  rw [if_pos hn]
  rfl
theorem zf_i2f {a j : Nat} (ha : a < 16777216) (hj : j ≤ 23) (h1 : 8388608 ≤ a * 2 ^ j) (h2 : a * 2 ^ j < 16777216) : FP.i2f (nI a) = fE (150 - j) (a * 2 ^ j - 8388608) := by
  show UInt32.ofNat (FP.Core.encode FP.Core.b32 (FP.Core.round FP.Core.b32 (FP.Core.ofInt (nI a).toInt))) = _
  rw [nI_toInt (by omega)]
  unfold FP.Core.ofInt
  rw [decide_eq_false (by omega), Int.natAbs_natCast]
  show UInt32.ofNat (FP.Core.encode FP.Core.b32 (FP.Core.roundRatio FP.Core.b32 false a 1 0)) = _
  rw [zf_r2 (e := 0) hj h1 h2 (by omega) (by omega), fE_enc h1 (by omega), show ((0 : Int) - (j : Int) + 150).toNat = 150 - j by omega]
/-- a quotient of two numbers of full precision -/
theorem zf_quo {a b : Nat} {e : Int} (ha : 8388608 ≤ a) (ha2 : a < 16777216) (hb : 8388608 ≤ b) (hb2 : b < 16777216) (he : -23 ≤ e) (he2 : e ≤ 0) (hab : e = 0 → a ≤ b) : ∃ c q, FP.Core.roundRatio FP.Core.b32 false a b e = .fin false c q ∧ 8388608 ≤ c ∧ c < 16777216 ∧ -47 ≤ q ∧ q ≤ -23 := by
  have la : a.log2 = 23 := zf_log ha ha2
  have lb : b.log2 = 23 := zf_log hb hb2
  have hnear : ∀ n d : Nat, 0 < d → 8388608 * d ≤ n → n < 16777216 * d → 8388608 ≤ FP.Core.nearest n d ∧ FP.Core.nearest n d ≤ 16777216 := by
    intro n d hd h1 h2
    have d1 : 8388608 ≤ n / d := (Nat.le_div_iff_mul_le hd).mpr h1
    have d2 : n / d < 16777216 := (Nat.div_lt_iff_lt_mul hd).mpr h2
    unfold FP.Core.nearest
    split
    · omega
    · split
      · omega
      · omega
  have hset : ∀ (c : Nat) (q : Int), 8388608 ≤ c → c ≤ 16777216 → -47 ≤ q → q ≤ -24 → ∃ c' q', FP.Core.settle FP.Core.b32 false c q = .fin false c' q' ∧ 8388608 ≤ c' ∧ c' < 16777216 ∧ -47 ≤ q' ∧ q' ≤ -23 := by
    intro c q h1 h2 h3 h4
    by_cases g : c < 16777216
    · exact ⟨c, q, zf_set g (by omega), h1, g, h3, by omega⟩
    · refine ⟨8388608, q + 1, ?_, by omega, by omega, by omega, by omega⟩
      unfold FP.Core.settle FP.Core.bound
      rw [zf_p, zf_Q, zf_t, if_neg (show ¬ c < 2 ^ 24 by omega), if_pos (show q + 1 ≤ 104 by omega)]
  unfold FP.Core.roundRatio FP.Core.quantum FP.Core.leading
  rw [if_neg (show ¬ a = 0 by omega), la, lb, zf_q, zf_p]
  have k0 : (((23 : Nat) : Int) - ((23 : Nat) : Int)) = 0 := by omega
  dsimp only
  rw [k0]
  have k1 : ((0 : Int)).toNat = 0 := by decide
  have k2 : (-(0 : Int)).toNat = 0 := by decide
  rw [k1, k2, Nat.pow_zero, Nat.mul_one, Nat.mul_one]
  unfold FP.Core.roundAt FP.Core.unitsNum FP.Core.unitsDen
  by_cases g : b ≤ a
  · rw [if_pos g]
    have e1 : max (-149 : Int) (0 + e - (((24 : Nat) : Int) - 1)) = e - 23 := by omega
    rw [e1]
    have e2 : (e - (e - 23)).toNat = 23 := by omega
    have e3 : (e - 23 - e).toNat = 0 := by omega
    rw [e2, e3, Nat.pow_zero, Nat.mul_one]
    by_cases g0 : e = 0
    · have hEq : a = b := Nat.le_antisymm (hab g0) g
      subst hEq
      have := zf_near (c := 2 ^ 23) (d := a) (by omega)
      rw [Nat.mul_comm] at this
      rw [this]
      exact ⟨2 ^ 23, e - 23, zf_set (by decide) (by omega), by decide, by decide, by omega, by omega⟩
    · have hp : (2 : Nat) ^ 23 = 8388608 := rfl
      obtain ⟨n1, n2⟩ := hnear (a * 2 ^ 23) b (by omega) (by omega) (by omega)
      exact hset _ _ n1 n2 (by omega) (by omega)
  · rw [if_neg g]
    have e1 : max (-149 : Int) (0 - 1 + e - (((24 : Nat) : Int) - 1)) = e - 24 := by omega
    rw [e1]
    have e2 : (e - (e - 24)).toNat = 24 := by omega
    have e3 : (e - 24 - e).toNat = 0 := by omega
    rw [e2, e3, Nat.pow_zero, Nat.mul_one]
    have hp : (2 : Nat) ^ 24 = 16777216 := rfl
    obtain ⟨n1, n2⟩ := hnear (a * 2 ^ 24) b (by omega) (by omega) (by omega)
    exact hset _ _ n1 n2 (by omega) (by omega)
theorem zf_div {a b : Nat} (ha : 1 ≤ a) (hab : a ≤ b) (hb : b ≤ 1000) : ∃ E T, FP.fdiv (FP.i2f (nI a)) (FP.i2f (nI b)) = fE E T ∧ 1 ≤ E ∧ E ≤ 127 ∧ T < 8388608 := by
  obtain ⟨i, i1, i2, i3⟩ := zf_j (t := a) ha (by omega)
  obtain ⟨j, j1, j2, j3⟩ := zf_j (t := b) (by omega) (by omega)
  have hij : j ≤ i := by
    rcases Nat.lt_or_ge i j with g | g
    · exfalso
      have h1 : a * 2 ^ i * 2 ≤ b * 2 ^ j := by
        rw [Nat.mul_assoc, ← Nat.pow_succ]
        exact Nat.mul_le_mul hab (Nat.pow_le_pow_right (by decide) g)
      omega
    · exact g
  obtain ⟨c, q, h1, h2, h3, h4, h5⟩ := zf_quo (e := (j : Int) - (i : Int)) i2 i3 j2 j3 (by omega) (by omega) (fun h => by
    have : i = j := by omega
    subst this
    exact Nat.mul_le_mul_right _ hab)
  refine ⟨(q + 150).toNat, c - 8388608, ?_, by omega, by omega, by omega⟩
  rw [zf_i2f (by omega) i1 i2 i3, zf_i2f (by omega) j1 j2 j3]
  show UInt32.ofNat (FP.Core.encode FP.Core.b32 (FP.Core.quotient FP.Core.b32 (FP.Core.decode FP.Core.b32 (fE (150 - i) (a * 2 ^ i - 8388608)).toNat) (FP.Core.decode FP.Core.b32 (fE (150 - j) (b * 2 ^ j - 8388608)).toNat))) = _
  rw [fE_dec (by omega) (by omega) (by omega), fE_dec (by omega) (by omega) (by omega), show 8388608 + (a * 2 ^ i - 8388608) = a * 2 ^ i by omega, show 8388608 + (b * 2 ^ j - 8388608) = b * 2 ^ j by omega]
  have hq : FP.Core.quotient FP.Core.b32 (.fin false (a * 2 ^ i) (((150 - i : Nat) : Int) - 150)) (.fin false (b * 2 ^ j) (((150 - j : Nat) : Int) - 150)) = FP.Core.roundRatio FP.Core.b32 false (a * 2 ^ i) (b * 2 ^ j) ((((150 - i : Nat) : Int) - 150) - (((150 - j : Nat) : Int) - 150)) := by
    show (if b * 2 ^ j = 0 then _ else _) = _
    rw [if_neg (by omega)]
    rfl
  rw [hq, show (((150 - i : Nat) : Int) - 150) - (((150 - j : Nat) : Int) - 150) = (j : Int) - (i : Int) by omega, h1, fE_enc h2 (by omega)]
theorem zf_q0 {c : Nat} {q : Int} (hc : 8388608 ≤ c) : FP.Core.quotient FP.Core.b32 (.fin false 0 (-149)) (.fin false c q) = .fin false 0 (-149) := by
  unfold FP.Core.quotient
  dsimp only
  rw [if_neg (by omega)]
  unfold FP.Core.roundRatio
  rw [if_pos rfl, zf_q]
  rfl
theorem zf_div0 {b : Nat} (hb0 : 1 ≤ b) (hb : b ≤ 1000) : FP.fdiv (FP.i2f (nI 0)) (FP.i2f (nI b)) = 0 := by
  obtain ⟨j, j1, j2, j3⟩ := zf_j (t := b) hb0 (by omega)
  have e0 : FP.i2f (nI 0) = 0 := by decide +kernel
  have e1 : FP.Core.decode FP.Core.b32 (0 : UInt32).toNat = .fin false 0 (-149) := by decide +kernel
  have e2 : FP.Core.encode FP.Core.b32 (.fin false 0 (-149)) = 0 := by decide +kernel
  rw [e0, zf_i2f (by omega) j1 j2 j3]
  show UInt32.ofNat (FP.Core.encode FP.Core.b32 (FP.Core.quotient FP.Core.b32 (FP.Core.decode FP.Core.b32 (0 : UInt32).toNat) (FP.Core.decode FP.Core.b32 (fE (150 - j) (b * 2 ^ j - 8388608)).toNat))) = _
  rw [e1, fE_dec (by omega) (by omega) (by omega)]
  have hq := zf_q0 (c := 8388608 + (b * 2 ^ j - 8388608)) (q := ((150 - j : Nat) : Int) - 150) (by omega)
  rw [hq, e2]
  rfl
theorem zf_zero {N : Nat} : G_X8_bitsOf N 0 = some (nI 0) ∧ fBits 0 = nI 0 := by
  refine ⟨?_, by decide +kernel⟩
  unfold G_X8_bitsOf
  rw [if_neg (by decide +kernel)]
  rfl
theorem zf_ofn0 {α : Type} (k : Option α) : ofn 0 k = k := by
  unfold ofn
  rw [if_pos (by decide)]
/-- false keys are no present ones -/
theorem cnt_c {p q : Nat → Bool} : ∀ n j, (∀ i, j ≤ i → i < j + n → p i = q i) → cnt p j n = cnt q j n := by
  intro n
  induction n with
  | zero =>
    intro j _
    rfl
  | succ n ih =>
    intro j h
    unfold cnt
    rw [h j (Nat.le_refl _) (by omega), ih (j + 1) (fun i h1 h2 => h i (by omega) (by omega))]
theorem ix_is {nk : Nat} {K : Nat → Nat} {x : Nat} : (ix nk K x).isSome = true ↔ ∃ i, i < nk ∧ K i = x := by
  constructor
  · intro h
    cases hi : ix nk K x with
    | none =>
      rw [hi] at h
      cases h
    | some i => exact ⟨i, ix_lt hi⟩
  · intro ⟨i, h1, h2⟩
    cases hi : ix nk K x with
    | none => exact absurd h2 (ix_no hi i h1)
    | some j => rfl
theorem cnt_pres {nk : Nat} {K : Nat → Nat} (h : zWk nk K) : ∀ n, n ≤ nk → cnt (fun x => (ix n K x).isSome) 0 1000 = n := by
  intro n
  induction n with
  | zero =>
    intro _
    exact cnt_0 1000 0 (fun i _ _ => rfl)
  | succ n ih =>
    intro hn
    obtain ⟨h1, h2⟩ := h.2 n (by omega)
    have hup := cnt_up (p := fun x => (ix n K x).isSome) (q := fun x => (ix (n + 1) K x).isSome) (u := K n) (by
      refine Bool.eq_false_iff.mpr (fun z => ?_)
      obtain ⟨i, i1, i2⟩ := ix_is.mp z
      exact h2 i i1 i2) (ix_is.mpr ⟨n, Nat.lt_succ_self n, rfl⟩) (fun v hv => by
      refine Bool.eq_iff_iff.mpr ⟨fun z => ?_, fun z => ?_⟩
      · obtain ⟨i, i1, i2⟩ := ix_is.mp z
        refine ix_is.mpr ⟨i, ?_, i2⟩
        rcases Nat.lt_or_ge i n with g | g
        · exact g
        · exfalso
          have : i = n := by omega
          subst this
          exact hv i2.symm
      · obtain ⟨i, i1, i2⟩ := ix_is.mp z
        exact ix_is.mpr ⟨i, by omega, i2⟩) 1000 0 (Nat.zero_le _) (by omega)
    rw [hup, ih (by omega)]
theorem cnt_not (p : Nat → Bool) : ∀ n j, cnt p j n + cnt (fun x => !p x) j n = n := by
  intro n
  induction n with
  | zero =>
    intro j
    rfl
  | succ n ih =>
    intro j
    have := ih (j + 1)
    unfold cnt
    cases p j with
    | true =>
      show (1 + _) + (0 + _) = n + 1
      omega
    | false =>
      show (0 + _) + (1 + _) = n + 1
      omega
theorem cnt_mono {p q : Nat → Bool} (h : ∀ i, p i = true → q i = true) : ∀ n j, cnt p j n ≤ cnt q j n := by
  intro n
  induction n with
  | zero =>
    intro j
    exact Nat.le_refl _
  | succ n ih =>
    intro j
    have := ih (j + 1)
    unfold cnt
    cases hp : p j with
    | true =>
      rw [h j hp]
      simp only [if_true]
      omega
    | false =>
      rw [if_neg Bool.false_ne_true]
      omega
theorem fals_le {P : Pm} {c : Ce} {q : List En} {nk : Nat} {K : Nat → Nat} (h : zWk nk K) : cnt (fals P c q nk K) 0 1000 ≤ 1000 - nk := by
  have h1 := cnt_mono (p := fals P c q nk K) (q := fun x => !(ix nk K x).isSome) (fun i hi => by
    unfold fals at hi
    rw [Bool.and_eq_true] at hi
    have h2 := hi.2
    show (!(ix nk K i).isSome) = true
    cases hz : ix nk K i with
    | none => rfl
    | some j =>
      rw [hz] at h2
      cases h2) 1000 0
  have h2 := cnt_not (fun x => (ix nk K x).isSome) 1000 0
  have h3 := cnt_pres h nk (Nat.le_refl _)
  omega
section PK
variable {N : Nat}
theorem pq_30 (hN : 5000 ≤ N) : Pk30 N zRl := by
  intro u0 φ η τ ψ hv hrel
  obtain ⟨S, V, X, ⟨hR, hM, hF⟩, hVV, hT⟩ := id hrel
  have hn := hF.2.2.2.1
  have hle := fals_le (P := S.1) (c := S.2.1) (q := S.2.2.1) hF.2.2.2
  have hk : u0 3 1 = nI S.2.2.2.1 := hR.2.2.2.1
  have hM5 := z5M hM (nI 0)
  have hm42 : upd2 ψ 0 5 (nI 0) 1 1042 = nI S.2.2.2.1 := hM5.2.2.2.1
  have hfb := zc_falseBetween (a := 0) (b := 999) hN (by decide) (by decide) hR hF
  have hfm := zm_falseMany (ψ := upd2 ψ 0 5 (nI 0)) (a := 0) (b := 999) hN (by decide) (by decide) hM5.1 (zMc_w hM5.2.1) hM5.2.2.1 hM5.2.2.2 hF
  have e999 : 999 + 1 - 0 = 1000 := rfl
  rw [e999] at hfb hfm
  generalize cnt (fals S.1 S.2.1 S.2.2.1 S.2.2.2.1 S.2.2.2.2) 0 1000 = A at hle hfb hfm
  have hsub : nI 1000 - nI S.2.2.2.1 = nI (1000 - S.2.2.2.1) := pk_sub (by omega)
  have hpos : nI 0 < nI (1000 - S.2.2.2.1) := (nI_ltI (a := 0) (by decide) (by omega)).mpr (by omega)
  -- both answer the bits
  have main : ∃ r, G_X8_bitsOf N (FP.fdiv (FP.i2f (nI A)) (FP.i2f (nI (1000 - S.2.2.2.1)))) = some r ∧ fBits (FP.fdiv (FP.i2f (nI A)) (FP.i2f (nI (1000 - S.2.2.2.1)))) = r ∧ (∀ (α : Type) (k : Option α), ofn (FP.fdiv (FP.i2f (nI A)) (FP.i2f (nI (1000 - S.2.2.2.1)))) k = k) := by
    by_cases h0 : A = 0
    · subst h0
      rw [zf_div0 (by omega) (by omega)]
      exact ⟨nI 0, (zf_zero (N := N)).1, (zf_zero (N := N)).2, fun _ k => zf_ofn0 k⟩
    · obtain ⟨E, T, h1, h2, h3, h4⟩ := zf_div (a := A) (b := 1000 - S.2.2.2.1) (by omega) hle (by omega)
      rw [h1]
      exact ⟨_, zf_bits hN h2 h3 h4, zf_fbits h2 (by omega) h4, fun _ k => zf_ofn (by omega) h4 k⟩
  obtain ⟨r, r1, r2, r3⟩ := main
  refine ⟨0, r, u0, φ, η, τ, r, upd2 ψ 0 5 (nI 0), ?_, rfl, ?_, rfl, zRl_5 hrel _⟩
  · unfold G_X8_rateBits G_X2_keyCount G_X4_size
    simp only [zn_L, zn_R, hk, hsub]
    rw [if_pos hpos, hfb]
    simp only [zn_R, r3, r1]
  · unfold G_X9_rateBits
    simp (disch := omega) only [zn_L, zn_in, nI_clamp, zn_R, hfm, hm42, hsub, r3, r2]
end PK
