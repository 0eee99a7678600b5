/-! the pure layer: counts, lengths, parts -/
def ne (c : Ce) (s u : Nat) : Nat := cnt (fun k => (c (4 * u + k)).isSome) 0 s
def sumN (f : Nat → Nat) : Nat → Nat → Nat
  | _, 0 => 0
  | j, n + 1 => f j + sumN f (j + 1) n
theorem cnt_add (p : Nat → Bool) : ∀ (m j n : Nat), cnt p j (m + n) = cnt p j m + cnt p (j + m) n := by
  intro m
  induction m with
  | zero =>
    intro j n
    rw [Nat.zero_add, Nat.add_zero]
    show _ = 0 + _
    rw [Nat.zero_add]
  | succ m ih =>
    intro j n
    rw [show m + 1 + n = (m + n) + 1 by omega]
    show (if p j = true then 1 else 0) + cnt p (j + 1) (m + n) = ((if p j = true then 1 else 0) + cnt p (j + 1) m) + cnt p (j + (m + 1)) n
    rw [ih (j + 1) n, show j + 1 + m = j + (m + 1) by omega, Nat.add_assoc]
theorem cnt_0 {p : Nat → Bool} : ∀ (n j : Nat), (∀ i, j ≤ i → i < j + n → p i = false) → cnt p j n = 0 := by
  intro n
  induction n with
  | zero =>
    intro j _
    rfl
  | succ n ih =>
    intro j h
    unfold cnt
    rw [h j (Nat.le_refl _) (by omega), ih (j + 1) (fun i h1 h2 => h i (by omega) (by omega))]
    rfl
theorem sumN_add (f : Nat → Nat) : ∀ (m j n : Nat), sumN f j (m + n) = sumN f j m + sumN f (j + m) n := by
  intro m
  induction m with
  | zero =>
    intro j n
    rw [Nat.zero_add, Nat.add_zero]
    show _ = 0 + _
    rw [Nat.zero_add]
  | succ m ih =>
    intro j n
    rw [show m + 1 + n = (m + n) + 1 by omega]
    show f j + sumN f (j + 1) (m + n) = (f j + sumN f (j + 1) m) + sumN f (j + (m + 1)) n
    rw [ih (j + 1) n, show j + 1 + m = j + (m + 1) by omega, Nat.add_assoc]
theorem sumN_0 {f : Nat → Nat} : ∀ (n j : Nat), (∀ i, j ≤ i → i < j + n → f i = 0) → sumN f j n = 0 := by
  intro n
  induction n with
  | zero =>
    intro j _
    rfl
  | succ n ih =>
    intro j h
    unfold sumN
    rw [h j (Nat.le_refl _) (by omega), ih (j + 1) (fun i h1 h2 => h i (by omega) (by omega))]
theorem sumN_le {f : Nat → Nat} {m : Nat} (h : ∀ i, f i ≤ m) : ∀ (n j : Nat), sumN f j n ≤ m * n := by
  intro n
  induction n with
  | zero =>
    intro j
    exact Nat.zero_le _
  | succ n ih =>
    intro j
    unfold sumN
    have h1 := h j
    have h2 := ih (j + 1)
    rw [Nat.mul_succ]
    omega
/-- a loop that adds up -/
theorem zn_sum {ρ : Type} (L : Nat → Nat → Nat → Option ρ) (f : Nat → Nat) (n : Nat) (y : Nat → ρ) (hs : ∀ k a i, i < n → L (k + 1) a i = L k (a + f i) (i + 1)) (he : ∀ k a, L (k + 1) a n = some (y a)) : ∀ d i a k, i + d = n → d < k → L k a i = some (y (a + sumN f i d)) := by
  intro d
  induction d with
  | zero =>
    intro i a k hi hk
    obtain ⟨k, rfl⟩ : ∃ j, k = j + 1 := ⟨k - 1, by omega⟩
    have e : i = n := hi
    subst e
    exact he k a
  | succ d ih =>
    intro i a k hi hk
    obtain ⟨k, rfl⟩ : ∃ j, k = j + 1 := ⟨k - 1, by omega⟩
    rw [hs k a i (by omega), ih (i + 1) _ k (by omega) (by omega), Nat.add_assoc]
    rfl
theorem ne_le (c : Ce) (s u : Nat) : ne c s u ≤ s := cnt_le _ _
theorem ne_4 {b s : Nat} {c : Ce} (h : zWc b s c) (hs : s ≤ 4) (u : Nat) : ne c 4 u = ne c s u := by
  have h9 := cnt_add (fun k => (c (4 * u + k)).isSome) s 0 (4 - s)
  rw [show s + (4 - s) = 4 by omega] at h9
  unfold ne
  rw [h9, cnt_0 (4 - s), Nat.add_zero]
  intro i h1 h2
  show (c (4 * u + i)).isSome = false
  cases hc : c (4 * u + i) with
  | none => rfl
  | some e =>
    have := (h _ e hc).2.1
    omega
theorem ne_hi {b s : Nat} {c : Ce} (h : zWc b s c) (hs : s ≤ 4) {u : Nat} (hu : 2 ^ b ≤ u) : ne c s u = 0 := by
  unfold ne
  refine cnt_0 _ _ (fun i h1 h2 => ?_)
  cases hc : c (4 * u + i) with
  | none => rfl
  | some e =>
    have := (h _ e hc).1
    omega
theorem isS {o : Option En} : (o.isSome = true) ↔ ¬ (o.isNone = true) := by
  cases o with
  | none => exact ⟨fun h => (by cases h), fun h => absurd rfl h⟩
  | some e => exact ⟨fun _ h => (by cases h), fun _ => rfl⟩
theorem zc_entriesIn {N : Nat} (hN : 5000 ≤ N) {φ : M2} {P : Pm} {c : Ce} {u : Nat} (hP : zPm φ P) (hC : zCl φ c) (hW : zWp P) (hV : zWc P.1 P.2.1 c) (hu : u < 64) : G_X2_entriesIn N φ (nI u) = some (nI (ne c P.2.1 u)) := by
  have hs := hW.2.1
  have h := zn_cnt (fun k m i => L_X2_entriesIn_4 N φ (nI u) k (nI m) (nI i)) (fun k => (c (4 * u + k)).isSome) P.2.1 nI (fun k m i hi => ?_) (fun k m => ?_) P.2.1 0 0 N (Nat.zero_add _) (by omega)
  · unfold G_X2_entriesIn ne
    simp only [zn_L]
    rw [h, Nat.zero_add]
    rfl
  · show B_X2_entriesIn_4 N φ (nI u) _ (nI m) (nI i) = _
    unfold B_X2_entriesIn_4
    simp (disch := omega) only [zn_L, zn_M, zn_R, hP.2.1, zc_place, zc_cell, hC (4 * u + i) (by omega), cwo_m hW.1.2 hV, isS]
    rw [if_neg (by omega)]
    by_cases g : (c (4 * u + i)).isNone = true
    · rw [if_pos g, if_neg (fun z => z g)]
    · rw [if_neg g, if_pos g]
  · show B_X2_entriesIn_4 N φ (nI u) _ (nI m) (nI P.2.1) = _
    unfold B_X2_entriesIn_4
    simp (disch := omega) only [zn_L, zn_M, zn_R, hP.2.1]
    rw [if_pos (by omega)]
theorem zc_buckets {φ : M2} {P : Pm} (hP : zPm φ P) (hW : zWp P) : G_X2_bucketCount φ = nI (2 ^ P.1) := by
  unfold G_X2_bucketCount
  rw [hP.1]
  exact nI_2p (by have := hW.1.2; omega)
theorem zc_entries {N : Nat} (hN : 5000 ≤ N) {φ : M2} {P : Pm} {c : Ce} (hP : zPm φ P) (hC : zCl φ c) (hW : zWp P) (hV : zWc P.1 P.2.1 c) : G_X2_entriesInSlots N φ = some (nI (sumN (ne c P.2.1) 0 (2 ^ P.1))) := by
  have hs := hW.2.1
  have h6 := p2_6 hW.1.2
  have h := zn_sum (fun k m i => L_X2_entriesInSlots_4 N φ k (nI m) (nI i)) (ne c P.2.1) (2 ^ P.1) nI (fun k m i hi => ?_) (fun k m => ?_) (2 ^ P.1) 0 0 N (Nat.zero_add _) (by omega)
  · unfold G_X2_entriesInSlots
    simp only [zn_L]
    rw [h, Nat.zero_add]
    rfl
  · show B_X2_entriesInSlots_4 N φ _ (nI m) (nI i) = _
    unfold B_X2_entriesInSlots_4
    simp (disch := omega) only [zn_L, zn_M, zn_R, zc_buckets hP hW, zc_entriesIn hN hP hC hW hV]
    rw [if_neg (by omega)]
  · show B_X2_entriesInSlots_4 N φ _ (nI m) (nI (2 ^ P.1)) = _
    unfold B_X2_entriesInSlots_4
    simp (disch := omega) only [zn_L, zn_M, zn_R, zc_buckets hP hW]
    rw [if_pos (by omega)]
theorem zc_bucketsWith {N : Nat} (hN : 5000 ≤ N) {φ : M2} {P : Pm} {c : Ce} {w : Nat} (hw : w ≤ 4) (hP : zPm φ P) (hC : zCl φ c) (hW : zWp P) (hV : zWc P.1 P.2.1 c) : G_X2_bucketsWith N φ (nI w) = some (nI (cnt (fun u => ne c P.2.1 u == w) 0 (2 ^ P.1))) := by
  have hs := hW.2.1
  have h6 := p2_6 hW.1.2
  have h := zn_cnt (fun k m i => L_X2_bucketsWith_4 N φ (nI w) k (nI m) (nI i)) (fun u => ne c P.2.1 u == w) (2 ^ P.1) nI (fun k m i hi => ?_) (fun k m => ?_) (2 ^ P.1) 0 0 N (Nat.zero_add _) (by omega)
  · unfold G_X2_bucketsWith
    simp only [zn_L]
    rw [h, Nat.zero_add]
    rfl
  · have hl := ne_le c P.2.1 i
    show B_X2_bucketsWith_4 N φ (nI w) _ (nI m) (nI i) = _
    unfold B_X2_bucketsWith_4
    simp (disch := omega) only [zn_L, zn_M, zn_R, zc_buckets hP hW, zc_entriesIn hN hP hC hW hV, beq_iff_eq]
    rw [if_neg (by omega)]
  · show B_X2_bucketsWith_4 N φ (nI w) _ (nI m) (nI (2 ^ P.1)) = _
    unfold B_X2_bucketsWith_4
    simp (disch := omega) only [zn_L, zn_M, zn_R, zc_buckets hP hW]
    rw [if_pos (by omega)]
theorem zm_entries4 {N : Nat} (hN : 5000 ≤ N) {ψ : M2} {P : Pm} {c : Ce} {u : Nat} (hC : zMc (ψ 1) c) (hV : zWc P.1 P.2.1 c) (hu : u < 64) : G_X9_entries N ψ (nI u) = some (nI (ne c 4 u)) := by
  have h := zn_cnt (fun k m i => L_X9_entries_4 N ψ (nI u) k (nI m) (nI i)) (fun k => (c (4 * u + k)).isSome) 4 nI (fun k m i hi => ?_) (fun k m => ?_) 4 0 0 N (Nat.zero_add _) (by omega)
  · unfold G_X9_entries ne
    simp only [zn_L]
    rw [h, Nat.zero_add]
    rfl
  · show B_X9_entries_4 N ψ (nI u) _ (nI m) (nI i) = _
    unfold B_X9_entries_4
    simp (disch := omega) only [zn_L, zn_M, zn_R, zm_emp hC hV, isS]
    rw [if_neg (by omega)]
    by_cases g : (c (4 * u + i)).isNone = true
    · rw [if_pos g, if_neg (show ¬ (nI 1 = nI 0) from by decide), if_neg (fun z => z g)]
      rfl
    · rw [if_neg g, if_pos rfl, if_pos g]
  · show B_X9_entries_4 N ψ (nI u) _ (nI m) (nI 4) = _
    unfold B_X9_entries_4
    simp (disch := omega) only [zn_L, zn_M, zn_R]
    rw [if_pos (by omega)]
theorem zm_total {N : Nat} (hN : 5000 ≤ N) {ψ : M2} {P : Pm} {c : Ce} (hC : zMc (ψ 1) c) (hW : zWp P) (hV : zWc P.1 P.2.1 c) : L_X9_infoOf_61 N ψ N (nI 0) (nI 0) = some (nI (sumN (ne c P.2.1) 0 (2 ^ P.1))) := by
  have hs := hW.2.1
  have h6 := p2_6 hW.1.2
  have h := zn_sum (fun k m i => L_X9_infoOf_61 N ψ k (nI m) (nI i)) (ne c P.2.1) 64 nI (fun k m i hi => ?_) (fun k m => ?_) 64 0 0 N (Nat.zero_add _) (by omega)
  · rw [show (64 : Nat) = 2 ^ P.1 + (64 - 2 ^ P.1) by omega, sumN_add, sumN_0 (64 - 2 ^ P.1) _ (fun i h1 h2 => ne_hi hV hs.2 (by omega)), Nat.add_zero, Nat.zero_add] at h
    exact h
  · show B_X9_infoOf_61 N ψ _ (nI m) (nI i) = _
    unfold B_X9_infoOf_61
    simp (disch := omega) only [zn_L, zn_M, zn_R, zm_entries4 hN hC hV, ne_4 hV hs.2]
    rw [if_neg (by omega)]
  · show B_X9_infoOf_61 N ψ _ (nI m) (nI 64) = _
    unfold B_X9_infoOf_61
    simp (disch := omega) only [zn_L, zn_M, zn_R]
    rw [if_pos (by omega)]
theorem zm_filled {N : Nat} (hN : 5000 ≤ N) {ψ : M2} {P : Pm} {c : Ce} {w : Nat} (hw : w ≤ 4) (hP : zMp (ψ 1) P) (hC : zMc (ψ 1) c) (hW : zWp P) (hV : zWc P.1 P.2.1 c) : L_X9_filled_31 N ψ (nI w) N (nI 0) (nI 0) = some (nI (cnt (fun u => ne c P.2.1 u == w) 0 (2 ^ P.1))) := by
  have hs := hW.2.1
  have h6 := p2_6 hW.1.2
  have h := zn_cnt (fun k m i => L_X9_filled_31 N ψ (nI w) k (nI m) (nI i)) (fun u => ne c P.2.1 u == w) (2 ^ P.1) nI (fun k m i hi => ?_) (fun k m => ?_) (2 ^ P.1) 0 0 N (Nat.zero_add _) (by omega)
  · rw [Nat.zero_add] at h
    exact h
  · have hl := ne_le c P.2.1 i
    show B_X9_filled_31 N ψ (nI w) _ (nI m) (nI i) = _
    unfold B_X9_filled_31
    simp (disch := omega) only [zn_L, zn_M, zn_R, zm_buckets hP hW, zm_entries4 hN hC hV, ne_4 hV hs.2, beq_iff_eq]
    rw [if_neg (by omega)]
    rfl
  · show B_X9_filled_31 N ψ (nI w) _ (nI m) (nI (2 ^ P.1)) = _
    unfold B_X9_filled_31
    simp (disch := omega) only [zn_L, zn_M, zn_R, zm_buckets hP hW]
    rw [if_pos (by omega)]
/-! smallest lengths -/
def sml (a : Option Nat) (o : Option En) : Option Nat := og (fun e => og (fun m => if m ≤ e.2.2.1 then some m else some e.2.2.1) (some e.2.2.1) a) a o
def smA (c : Ce) : Nat → Option Nat
  | 0 => none
  | i + 1 => sml (smA c i) (c i)
def smQ (c : Ce) (q : List En) : Nat → Option Nat
  | 0 => smA c 256
  | i + 1 => sml (smQ c q i) q[i]?
def zL8 (a : Option Nat) : Prop := ∀ m, a = some m → m ≤ 8
theorem sml_ok {a : Option Nat} {o : Option En} (ha : zL8 a) (ho : ∀ e, o = some e → e.2.2.1 ≤ 8) : zL8 (sml a o) := by
  cases o with
  | none => exact ha
  | some e =>
    have he := ho e rfl
    cases a with
    | none =>
      intro m hm
      have := Option.some.inj hm
      omega
    | some z =>
      have hz := ha z rfl
      intro m hm
      unfold sml at hm
      rw [og_s, og_s] at hm
      split at hm
      · have := Option.some.inj hm
        omega
      · have := Option.some.inj hm
        omega
theorem smA_ok {b s : Nat} {c : Ce} (hV : zWc b s c) : ∀ i, zL8 (smA c i) := by
  intro i
  induction i with
  | zero =>
    intro m hm
    cases hm
  | succ i ih => exact sml_ok ih (fun e he => (hV _ e he).2.2.1.2.2.1)
theorem smQ_ok {b s : Nat} {c : Ce} {q : List En} (hV : zWc b s c) (hq : zWq b q) : ∀ i, zL8 (smQ c q i) := by
  intro i
  induction i with
  | zero => exact smA_ok hV 256
  | succ i ih => exact sml_ok ih (fun e he => (hq.2 e (List.mem_of_getElem? he)).2.2.1)
theorem zc_sml {b : Nat} {a : Option Nat} {o : Option En} (hb : b ≤ 6) (ha : zL8 a) (ho : ∀ e, o = some e → zEo b e) : G_X2_smallerLength (zn_g nI mI a) (cwo o) = zn_g nI mI (sml a o) := by
  unfold G_X2_smallerLength
  cases o with
  | none =>
    rw [if_pos (show cwo none = -1 from rfl)]
    rfl
  | some e =>
    have he := ho e rfl
    have hl := zEo_lt hb he
    have ht := zc_et hb he
    have ecw : cwo (some e) = ew e := rfl
    rw [ecw]
    simp only [zn_L, zn_M, ew_mi hl.1 hl.2.1 (show e.2.2.1 < 16 by omega) hl.2.2.2, if_false, zn_R, ht.2.2.1]
    cases a with
    | none =>
      rw [if_pos (show zn_g nI mI none = mI from rfl)]
      rfl
    | some m =>
      have hm := ha m rfl
      simp (disch := omega) only [zn_g, zn_R, if_false]
      unfold sml
      rw [og_s, og_s]
      by_cases g : m ≤ e.2.2.1
      · rw [if_pos g, if_pos g]
      · rw [if_neg g, if_neg g]
theorem zc_small {N : Nat} (hN : 5000 ≤ N) {φ : M2} {P : Pm} {c : Ce} {q : List En} (hC : zCl φ c) (hS : zSt φ q) (hW : zWp P) (hV : zWc P.1 P.2.1 c) (hq : zWq P.1 q) : G_X2_smallestLength N φ = some (zn_g nI mI (smQ c q q.length)) := by
  have h3 := hq.1
  have hb := hW.1.2
  have l1 : L_X2_smallestLength_4 N φ N mI (nI 0) = some (zn_g nI mI (smA c 256)) := by
    refine zn_up (fun k i (s : Int32) => L_X2_smallestLength_4 N φ k s (nI i)) 256 (fun i => zn_g nI mI (smA c i)) _ (fun k i hi => ?_) (fun k => ?_) N 0 (by omega) (by omega)
    · have h := zc_sml (o := c i) hb (smA_ok hV i) (fun e he => (hV _ e he).2.2.1)
      show B_X2_smallestLength_4 N φ _ _ (nI i) = L_X2_smallestLength_4 N φ k (zn_g nI mI (sml (smA c i) (c i))) (nI (i + 1))
      unfold B_X2_smallestLength_4
      simp (disch := omega) only [zn_L, zn_M, zn_R, hC i hi, h]
      rw [if_neg (by omega)]
    · show B_X2_smallestLength_4 N φ _ _ (nI 256) = _
      unfold B_X2_smallestLength_4
      simp (disch := omega) only [zn_L, zn_M, zn_R]
      rw [if_pos (by omega)]
  have l2 : L_X2_smallestLength_32 N φ N (zn_g nI mI (smQ c q 0)) (nI 0) = some (zn_g nI mI (smQ c q q.length)) := by
    refine zn_up (fun k i (s : Int32) => L_X2_smallestLength_32 N φ k s (nI i)) q.length (fun i => zn_g nI mI (smQ c q i)) _ (fun k i hi => ?_) (fun k => ?_) N 0 (by omega) (by omega)
    · have h := zc_sml (o := q[i]?) hb (smQ_ok hV hq i) (fun e he => hq.2 e (List.mem_of_getElem? he))
      show B_X2_smallestLength_32 N φ _ _ (nI i) = L_X2_smallestLength_32 N φ k (zn_g nI mI (sml (smQ c q i) q[i]?)) (nI (i + 1))
      unfold B_X2_smallestLength_32
      simp (disch := omega) only [zn_L, zn_M, zn_R, hS.1, zc_stashAt hS h3 hi, h]
      rw [if_neg (by omega)]
    · show B_X2_smallestLength_32 N φ _ _ (nI q.length) = _
      unfold B_X2_smallestLength_32
      simp (disch := omega) only [zn_L, zn_M, zn_R, hS.1]
      rw [if_pos (by omega)]
  have l2 : L_X2_smallestLength_32 N φ N (zn_g nI mI (smA c 256)) (nI 0) = some (zn_g nI mI (smQ c q q.length)) := l2
  unfold G_X2_smallestLength
  simp only [zn_L, zn_M, zn_R, l1, l2]
theorem zm_small {N : Nat} (hN : 5000 ≤ N) {ψ : M2} {P : Pm} {c : Ce} {q : List En} (hC : zMc (ψ 1) c) (hS : zMq (ψ 1) q) (hV : zWc P.1 P.2.1 c) (hq : zWq P.1 q) : G_X9_shortest N ψ = some (zn_g nI mI (smQ c q q.length)) := by
  have h3 := hq.1
  have l1 : L_X9_shortest_5 N ψ N mI (nI 18) = some (zn_g nI mI (smA c 256)) := by
    refine zn_up (fun k i (s : Int32) => L_X9_shortest_5 N ψ k s (nI (18 + 4 * i))) 256 (fun i => zn_g nI mI (smA c i)) _ (fun k i hi => ?_) (fun k => ?_) N 0 (by omega) (by omega)
    · obtain ⟨h0, h1, _, _⟩ := hC i hi
      show B_X9_shortest_5 N ψ _ _ (nI (18 + 4 * i)) = L_X9_shortest_5 N ψ k (zn_g nI mI (sml (smA c i) (c i))) (nI (18 + 4 * (i + 1)))
      rw [show 18 + 4 * (i + 1) = 18 + 4 * i + 4 by omega]
      unfold B_X9_shortest_5
      simp (disch := omega) only [zn_L, zn_M, zn_R, h0, h1, f0_m hV]
      rw [if_neg (by omega)]
      cases hc : c i with
      | none =>
        rw [if_pos (show (none : Option En).isNone = true from rfl)]
        rfl
      | some e =>
        rw [if_neg (show ¬ (some e).isNone = true from fun z => by cases z)]
        have he := (hV _ e hc).2.2.1
        have ha := smA_ok hV i
        cases hA : smA c i with
        | none =>
          rw [if_pos (show zn_g nI mI none = mI from rfl)]
          rfl
        | some m =>
          have hm := ha m hA
          have h8 := he.2.2.1
          have ef1 : f1 (some e) = nI e.2.2.1 := rfl
          simp (disch := omega) only [zn_g, zn_R, if_false, ef1]
          unfold sml
          rw [og_s, og_s]
          by_cases g : m ≤ e.2.2.1
          · rw [if_pos g, if_pos g]
          · rw [if_neg g, if_neg g]
    · show B_X9_shortest_5 N ψ _ _ (nI (18 + 4 * 256)) = _
      unfold B_X9_shortest_5
      simp (disch := omega) only [zn_L, zn_M, zn_R]
      rw [if_pos (by omega)]
  have l2 : L_X9_shortest_60 N ψ N (zn_g nI mI (smQ c q 0)) (nI 0) = some (zn_g nI mI (smQ c q q.length)) := by
    refine zn_up (fun k i (s : Int32) => L_X9_shortest_60 N ψ k s (nI i)) q.length (fun i => zn_g nI mI (smQ c q i)) _ (fun k i hi => ?_) (fun k => ?_) N 0 (by omega) (by omega)
    · have eq1 : q[i]? = some q[i] := List.getElem?_eq_getElem hi
      obtain ⟨_, h1, _, _⟩ := hS.2 i q[i] eq1
      have h8 := (hq.2 q[i] (List.getElem_mem hi)).2.2.1
      have ha := smQ_ok hV hq i
      show B_X9_shortest_60 N ψ _ _ (nI i) = L_X9_shortest_60 N ψ k (zn_g nI mI (sml (smQ c q i) q[i]?)) (nI (i + 1))
      rw [eq1]
      unfold B_X9_shortest_60 J_X9_shortest_92_60
      simp (disch := omega) only [zn_L, zn_M, zn_R, hS.1, h1]
      rw [if_neg (by omega)]
      cases hA : smQ c q i with
      | none =>
        rw [if_pos (show zn_g nI mI none = mI from rfl)]
        rfl
      | some m =>
        have hm := ha m hA
        simp (disch := omega) only [zn_g, zn_R, if_false]
        unfold sml
        rw [og_s, og_s]
        by_cases g : m ≤ q[i].2.2.1
        · rw [if_pos g, if_pos g]
        · rw [if_neg g, if_neg g]
    · show B_X9_shortest_60 N ψ _ _ (nI q.length) = _
      unfold B_X9_shortest_60
      simp (disch := omega) only [zn_L, zn_M, zn_R, hS.1]
      rw [if_pos (by omega)]
  have l2 : L_X9_shortest_60 N ψ N (zn_g nI mI (smA c 256)) (nI 0) = some (zn_g nI mI (smQ c q q.length)) := l2
  unfold G_X9_shortest
  simp only [zn_L, zn_M, zn_R, l1, l2]
def cg (P : Pm) (c : Ce) (q : List En) : Bool := decide (P.1 < 6) && !(smQ c q q.length == some 0)
theorem zc_cg {N : Nat} (hN : 5000 ≤ N) {φ : M2} {P : Pm} {c : Ce} {q : List En} (hP : zPm φ P) (hC : zCl φ c) (hS : zSt φ q) (hW : zWp P) (hV : zWc P.1 P.2.1 c) (hq : zWq P.1 q) : G_X2_canDouble N φ = some (bI (cg P c q)) := by
  have hb := hW.1
  unfold G_X2_canDouble cg
  simp (disch := omega) only [zn_L, zn_M, zn_R, hP.1, zc_small hN hC hS hW hV hq]
  by_cases g : 6 ≤ P.1
  · rw [if_pos g, decide_eq_false (by omega)]
    rfl
  · rw [if_neg g, decide_eq_true (by omega)]
    have ha := smQ_ok hV hq q.length
    cases hA : smQ c q q.length with
    | none => rfl
    | some m =>
      have hm := ha m hA
      simp (disch := omega) only [zn_g, zn_R]
      by_cases g0 : m = 0
      · subst g0
        rfl
      · rw [if_neg g0]
        unfold bI
        rw [if_pos (by simp [g0])]
theorem zm_cg {N : Nat} (hN : 5000 ≤ N) {ψ : M2} {P : Pm} {c : Ce} {q : List En} (hP : zMp (ψ 1) P) (hC : zMc (ψ 1) c) (hS : zMq (ψ 1) q) (hW : zWp P) (hV : zWc P.1 P.2.1 c) (hq : zWq P.1 q) : G_X9_mayGrow N ψ = some (bI (cg P c q)) := by
  have hb := hW.1
  unfold G_X9_mayGrow cg
  simp (disch := omega) only [zn_L, zn_M, zn_R, hP.1, zm_small hN hC hS hV hq]
  by_cases g : 6 ≤ P.1
  · rw [if_pos g, decide_eq_false (by omega)]
    rfl
  · rw [if_neg g, decide_eq_true (by omega)]
    have ha := smQ_ok hV hq q.length
    cases hA : smQ c q q.length with
    | none => rfl
    | some m =>
      have hm := ha m hA
      simp (disch := omega) only [zn_g, zn_R]
      by_cases g0 : m = 0
      · subst g0
        rfl
      · rw [if_neg g0]
        unfold bI
        rw [if_pos (by simp [g0])]
