/-! the pure layer: numbers -/
def mI : Int32 := -1
def mJ : Int32 := -2
theorem zn_L : ((0 : Int32) = nI 0 ∧ (1 : Int32) = nI 1 ∧ (2 : Int32) = nI 2 ∧ (3 : Int32) = nI 3 ∧ (4 : Int32) = nI 4 ∧ (5 : Int32) = nI 5 ∧ (6 : Int32) = nI 6 ∧ (7 : Int32) = nI 7 ∧ (8 : Int32) = nI 8 ∧ (9 : Int32) = nI 9 ∧ (10 : Int32) = nI 10 ∧ (11 : Int32) = nI 11 ∧ (12 : Int32) = nI 12 ∧ (15 : Int32) = nI 15 ∧ (16 : Int32) = nI 16 ∧ (18 : Int32) = nI 18 ∧ (20 : Int32) = nI 20 ∧ (31 : Int32) = nI 31 ∧ (37 : Int32) = nI 37) ∧ ((42 : Int32) = nI 42 ∧ (43 : Int32) = nI 43 ∧ (45 : Int32) = nI 45 ∧ (48 : Int32) = nI 48 ∧ (50 : Int32) = nI 50 ∧ (57 : Int32) = nI 57 ∧ (59 : Int32) = nI 59 ∧ (63 : Int32) = nI 63 ∧ (64 : Int32) = nI 64 ∧ (99 : Int32) = nI 99 ∧ (100 : Int32) = nI 100 ∧ (120 : Int32) = nI 120 ∧ (127 : Int32) = nI 127 ∧ (255 : Int32) = nI 255 ∧ (256 : Int32) = nI 256 ∧ (999 : Int32) = nI 999 ∧ (1000 : Int32) = nI 1000 ∧ (1001 : Int32) = nI 1001 ∧ (1024 : Int32) = nI 1024 ∧ (1042 : Int32) = nI 1042 ∧ (1043 : Int32) = nI 1043 ∧ (1163 : Int32) = nI 1163 ∧ (3489 : Int32) = nI 3489 ∧ (16384 : Int32) = nI 16384) :=
  ⟨⟨rfl, rfl, rfl, rfl, rfl, rfl, rfl, rfl, rfl, rfl, rfl, rfl, rfl, rfl, rfl, rfl, rfl, rfl, rfl⟩, ⟨rfl, rfl, rfl, rfl, rfl, rfl, rfl, rfl, rfl, rfl, rfl, rfl, rfl, rfl, rfl, rfl, rfl, rfl, rfl, rfl, rfl, rfl, rfl, rfl⟩⟩
theorem zn_M : -nI 1 = mI ∧ -nI 2 = mJ := ⟨rfl, rfl⟩
theorem zn_mt : mI.toInt = -1 := by decide
theorem zn_jt : mJ.toInt = -2 := by decide
theorem zn_eq {a : Nat} {y : Int32} (h : a < 2 ^ 31) (hy : y.toInt < 0) : (nI a = y ↔ False) ∧ (y = nI a ↔ False) ∧ (nI a < y ↔ False) ∧ (y < nI a ↔ True) ∧ (nI a ≤ y ↔ False) ∧ (y ≤ nI a ↔ True) := by
  have e := nI_toInt h
  refine ⟨⟨fun z => ?_, False.elim⟩, ⟨fun z => ?_, False.elim⟩, ⟨fun z => ?_, False.elim⟩, ⟨fun _ => trivial, fun _ => ?_⟩, ⟨fun z => ?_, False.elim⟩, ⟨fun _ => trivial, fun _ => ?_⟩⟩
  · rw [← z, e] at hy
    omega
  · rw [z, e] at hy
    omega
  · have := Int32.lt_iff_toInt_lt.mp z
    omega
  · apply Int32.lt_iff_toInt_lt.mpr
    omega
  · have := Int32.le_iff_toInt_le.mp z
    omega
  · apply Int32.le_iff_toInt_le.mpr
    omega
theorem zn_mi {a : Nat} (h : a < 2 ^ 31) : (nI a = mI ↔ False) ∧ (mI = nI a ↔ False) ∧ (nI a < mI ↔ False) ∧ (mI < nI a ↔ True) ∧ (nI a ≤ mI ↔ False) ∧ (mI ≤ nI a ↔ True) := zn_eq h (by rw [zn_mt]; decide)
theorem zn_mj {a : Nat} (h : a < 2 ^ 31) : (nI a = mJ ↔ False) ∧ (mJ = nI a ↔ False) ∧ (nI a < mJ ↔ False) ∧ (mJ < nI a ↔ True) ∧ (nI a ≤ mJ ↔ False) ∧ (mJ ≤ nI a ↔ True) := zn_eq h (by rw [zn_jt]; decide)
theorem zn_ij : (mI = mJ ↔ False) ∧ (mJ = mI ↔ False) ∧ (mI < mI ↔ False) ∧ (mI ≤ mI ↔ True) := ⟨by decide, by decide, by decide, by decide⟩
theorem zn_or (a b : Nat) : nI a ||| nI b = nI (a ||| b) := by
  apply Int32.toBitVec_inj.1
  show BitVec.ofNat 32 a ||| BitVec.ofNat 32 b = BitVec.ofNat 32 (a ||| b)
  apply BitVec.eq_of_getLsbD_eq
  intro i hi
  simp [hi]
theorem zn_and (a b : Nat) : nI a &&& nI b = nI (a &&& b) := by
  apply Int32.toBitVec_inj.1
  show BitVec.ofNat 32 a &&& BitVec.ofNat 32 b = BitVec.ofNat 32 (a &&& b)
  apply BitVec.eq_of_getLsbD_eq
  intro i hi
  simp [hi]
theorem zn_xor (a b : Nat) : nI a ^^^ nI b = nI (a ^^^ b) := by
  apply Int32.toBitVec_inj.1
  show BitVec.ofNat 32 a ^^^ BitVec.ofNat 32 b = BitVec.ofNat 32 (a ^^^ b)
  apply BitVec.eq_of_getLsbD_eq
  intro i hi
  simp [hi]
theorem zn_xorL (a b : Nat) : lN a ^^^ lN b = lN (a ^^^ b) := by
  apply Int64.toBitVec_inj.1
  show BitVec.ofNat 64 a ^^^ BitVec.ofNat 64 b = BitVec.ofNat 64 (a ^^^ b)
  apply BitVec.eq_of_getLsbD_eq
  intro i hi
  simp [hi]
theorem zn_sm : ∀ k, k < 32 → ((nI k).toBitVec.smod 32).toNat = k := by decide +kernel
theorem zn_a63 (a : Nat) : a &&& 63 = a % 64 := Nat.and_two_pow_sub_one_eq_mod a 6
theorem zn_a15 (a : Nat) : a &&& 15 = a % 16 := Nat.and_two_pow_sub_one_eq_mod a 4
theorem zn_a255 (a : Nat) : a &&& 255 = a % 256 := Nat.and_two_pow_sub_one_eq_mod a 8
theorem zn_a31 (a : Nat) : a &&& 31 = a % 32 := Nat.and_two_pow_sub_one_eq_mod a 5
theorem zn_a1 (a : Nat) : a &&& 1 = a % 2 := Nat.and_two_pow_sub_one_eq_mod a 1
theorem zn_in {α : Type} {j n : Nat} (k : Option α) (h : j < n) (hn : n < 2 ^ 31) : oin (nI j) n k = k := by
  unfold oin
  rw [if_neg (nI_in h hn)]
theorem zn_nz {α : Type} {a : Nat} (k : Option α) (h : 0 < a) (hn : a < 2 ^ 31) : onz (nI a) k = k := by
  unfold onz
  rw [if_neg (nI_ne0 h hn)]
/-- the small rules, for simp: with the numbers' bounds by omega -/
theorem zn_R : ((∀ a b, nI a + nI b = nI (a + b)) ∧ (∀ a b, nI a * nI b = nI (a * b)) ∧ (∀ a b, a < 2 ^ 31 → b < 2 ^ 31 → (nI a ≤ nI b ↔ a ≤ b)) ∧ (∀ a b, a < 2 ^ 31 → b < 2 ^ 31 → (nI a < nI b ↔ a < b)) ∧ (∀ a b, a < 2 ^ 31 → b < 2 ^ 31 → (nI a = nI b ↔ a = b)) ∧ (∀ a, a < 2 ^ 31 → (nI a).toNatClampNeg = a) ∧ (∀ a b, b ≤ a → nI a - nI b = nI (a - b)) ∧ (∀ a, 0 < a → nI a + mI = nI (a - 1)))
    ∧ ((∀ a, a < 2 ^ 31 → (nI a = mI ↔ False)) ∧ (∀ a, a < 2 ^ 31 → (mI = nI a ↔ False)) ∧ (∀ a, a < 2 ^ 31 → (nI a < mI ↔ False)) ∧ (∀ a, a < 2 ^ 31 → (mI < nI a ↔ True)) ∧ (∀ a, a < 2 ^ 31 → (nI a ≤ mI ↔ False)) ∧ (∀ a, a < 2 ^ 31 → (mI ≤ nI a ↔ True)) ∧ (∀ a, a < 2 ^ 31 → (nI a = mJ ↔ False)) ∧ (mI = mJ ↔ False) ∧ (mJ = mI ↔ False) ∧ (mI < mI ↔ False) ∧ (mI ≤ mI ↔ True))
    ∧ ((∀ a d, a < 2 ^ 31 → 0 < d → d < 2 ^ 31 → nI a / nI d = nI (a / d)) ∧ (∀ a d, a < 2 ^ 31 → 0 < d → d < 2 ^ 31 → irm (nI a) (nI d) = nI (a % d)) ∧ (∀ a k, k < 32 → a * 2 ^ k < 2 ^ 32 → nI a <<< nI k = nI (a * 2 ^ k)) ∧ (∀ a k, k < 32 → a < 2 ^ 31 → nI a >>> nI k = nI (a / 2 ^ k)) ∧ (∀ a b, nI a &&& nI b = nI (a &&& b)) ∧ (∀ a b, nI a ||| nI b = nI (a ||| b)) ∧ (∀ a b, nI a ^^^ nI b = nI (a ^^^ b)) ∧ (∀ a k, a &&& 2 ^ k - 1 = a % 2 ^ k) ∧ (∀ a, a &&& 63 = a % 64) ∧ (∀ a, a &&& 15 = a % 16) ∧ (∀ a, a &&& 255 = a % 256) ∧ (∀ a, a &&& 31 = a % 32) ∧ (∀ a, a &&& 1 = a % 2) ∧ (∀ a, a < 32 → a % 32 = a))
    ∧ ((∀ (α : Type) (j n : Nat) (k : Option α), j < n → n < 2 ^ 31 → oin (nI j) n k = k) ∧ (∀ (α : Type) (a : Nat) (k : Option α), 0 < a → a < 2 ^ 31 → onz (nI a) k = k) ∧ (∀ (α β : Type) (e : β) (k : β → α), olet e k = k e) ∧ (∀ (α β : Type) (x : β) (k : β → Option α), obd (some x) k = k x) ∧ (∀ (α β γ : Type) (x : β) (y : γ) (k : β → γ → Option α), obd2 (some (x, y)) k = k x y) ∧ (∀ (α β γ δ : Type) (x : β) (y : γ) (z : δ) (k : β → γ → δ → Option α), obd3 (some (x, y, z)) k = k x y z)) :=
  ⟨⟨nI_add, pk_mul, fun _ _ h g => nI_leI h g, fun _ _ h g => nI_ltI h g, fun _ _ h g => nI_eq h g, fun _ h => nI_clamp h, fun _ _ h => pk_sub h, fun _ h => sb_m1 h⟩,
   ⟨fun _ h => (zn_mi h).1, fun _ h => (zn_mi h).2.1, fun _ h => (zn_mi h).2.2.1, fun _ h => (zn_mi h).2.2.2.1, fun _ h => (zn_mi h).2.2.2.2.1, fun _ h => (zn_mi h).2.2.2.2.2, fun _ h => (zn_mj h).1, zn_ij.1, zn_ij.2.1, zn_ij.2.2.1, zn_ij.2.2.2⟩,
   ⟨fun _ _ h g k => pk_div h g k, fun _ _ h g k => pk_rem h g k, fun a k h g => pk_shlN (nI k) k (zn_sm k h) g, fun a k h g => pk_shrN g (nI k) k (zn_sm k h), zn_and, zn_or, zn_xor, fun a k => Nat.and_two_pow_sub_one_eq_mod a k, zn_a63, zn_a15, zn_a255, zn_a31, zn_a1, fun _ h => Nat.mod_eq_of_lt h⟩,
   ⟨fun _ _ _ k h g => zn_in k h g, fun _ _ k h g => zn_nz k h g, fun _ _ _ _ => rfl, fun _ _ _ _ => rfl, fun _ _ _ _ _ _ => rfl, fun _ _ _ _ _ _ _ _ => rfl⟩⟩
/-! loops -/
theorem zn_lp {σ ρ : Type} (L : Nat → σ → Option ρ) (I : σ → Prop) (Q : ρ → Prop) (m : σ → Nat) (h : ∀ st, I st → (∃ r, Q r ∧ ∀ k, L (k + 1) st = some r) ∨ (∃ st', I st' ∧ m st' < m st ∧ ∀ k, L (k + 1) st = L k st')) : ∀ k st, I st → m st < k → ∃ r, L k st = some r ∧ Q r := by
  intro k
  induction k with
  | zero =>
    intro st _ hm
    omega
  | succ k ih =>
    intro st hI hm
    rcases h st hI with ⟨r, hq, hr⟩ | ⟨st', hI', hm', hr⟩
    · exact ⟨r, hr k, hq⟩
    · rw [hr k]
      exact ih st' hI' (by omega)
theorem zn_for {σ ρ : Type} (L : Nat → Nat → σ → Option ρ) (n : Nat) (I : Nat → σ → Prop) (Q : ρ → Prop) (hs : ∀ i s, i < n → I i s → ∃ s', I (i + 1) s' ∧ ∀ k, L (k + 1) i s = L k (i + 1) s') (he : ∀ s, I n s → ∃ r, Q r ∧ ∀ k, L (k + 1) n s = some r) : ∀ k i s, i ≤ n → I i s → n - i < k → ∃ r, L k i s = some r ∧ Q r := by
  intro k
  induction k with
  | zero =>
    intro i s _ _ hm
    omega
  | succ k ih =>
    intro i s hi hI hm
    rcases Nat.lt_or_ge i n with h | h
    · obtain ⟨s', h1, h2⟩ := hs i s h hI
      rw [h2 k]
      exact ih (i + 1) s' h h1 (by omega)
    · have e : i = n := Nat.le_antisymm hi h
      subst e
      obtain ⟨r, h1, h2⟩ := he s hI
      exact ⟨r, h2 k, h1⟩
theorem zn_up {σ ρ : Type} (L : Nat → Nat → σ → Option ρ) (n : Nat) (F : Nat → σ) (r : ρ) (hs : ∀ k i, i < n → L (k + 1) i (F i) = L k (i + 1) (F (i + 1))) (he : ∀ k, L (k + 1) n (F n) = some r) : ∀ k i, i ≤ n → n - i < k → L k i (F i) = some r := by
  intro k
  induction k with
  | zero =>
    intro i _ hm
    omega
  | succ k ih =>
    intro i hi hm
    rcases Nat.lt_or_ge i n with h | h
    · rw [hs k i h]
      exact ih (i + 1) h (by omega)
    · have e : i = n := Nat.le_antisymm hi h
      subst e
      exact he k
def fnd (p : Nat → Bool) : Nat → Nat → Option Nat
  | _, 0 => none
  | j, n + 1 => if p j = true then some j else fnd p (j + 1) n
def zn_g {ρ : Type} (y : Nat → ρ) (z : ρ) : Option Nat → ρ
  | some j => y j
  | none => z
theorem zn_fnd {ρ : Type} (L : Nat → Nat → Option ρ) (p : Nat → Bool) (n : Nat) (y : Nat → ρ) (z : ρ) (hs : ∀ k i, i < n → L (k + 1) i = if p i = true then some (y i) else L k (i + 1)) (he : ∀ k, L (k + 1) n = some z) : ∀ d i k, i + d = n → d < k → L k i = some (zn_g y z (fnd p i d)) := by
  intro d
  induction d with
  | zero =>
    intro i k hi hk
    obtain ⟨k, rfl⟩ : ∃ j, k = j + 1 := ⟨k - 1, by omega⟩
    have e : i = n := hi
    subst e
    exact he k
  | succ d ih =>
    intro i k hi hk
    obtain ⟨k, rfl⟩ : ∃ j, k = j + 1 := ⟨k - 1, by omega⟩
    rw [hs k i (by omega)]
    unfold fnd
    split
    · rfl
    · exact ih (i + 1) k (by omega) (by omega)
theorem fnd_some {p : Nat → Bool} : ∀ {n j i : Nat}, fnd p j n = some i → j ≤ i ∧ i < j + n ∧ p i = true ∧ ∀ m, j ≤ m → m < i → p m = false := by
  intro n
  induction n with
  | zero =>
    intro j i h
    cases h
  | succ n ih =>
    intro j i h
    unfold fnd at h
    split at h
    · rename_i hp
      have e : j = i := Option.some.inj h
      subst e
      exact ⟨Nat.le_refl _, by omega, hp, fun m h1 h2 => absurd h2 (by omega)⟩
    · rename_i hp
      obtain ⟨a, b, c, d⟩ := ih h
      refine ⟨by omega, by omega, c, fun m h1 h2 => ?_⟩
      rcases Nat.eq_or_lt_of_le h1 with e | e
      · subst e
        exact Bool.eq_false_iff.mpr hp
      · exact d m e h2
theorem fnd_none {p : Nat → Bool} : ∀ {n j : Nat}, fnd p j n = none → ∀ m, j ≤ m → m < j + n → p m = false := by
  intro n
  induction n with
  | zero =>
    intro j _ m h1 h2
    omega
  | succ n ih =>
    intro j h m h1 h2
    unfold fnd at h
    split at h
    · cases h
    · rename_i hp
      rcases Nat.eq_or_lt_of_le h1 with e | e
      · subst e
        exact Bool.eq_false_iff.mpr hp
      · exact ih h m e (by omega)
def cnt (p : Nat → Bool) : Nat → Nat → Nat
  | _, 0 => 0
  | j, n + 1 => (if p j = true then 1 else 0) + cnt p (j + 1) n
theorem cnt_le {p : Nat → Bool} : ∀ n j, cnt p j n ≤ n := by
  intro n
  induction n with
  | zero =>
    intro j
    exact Nat.le_refl _
  | succ n ih =>
    intro j
    have := ih (j + 1)
    unfold cnt
    split <;> omega
/-- a loop that counts -/
theorem zn_cnt {ρ : Type} (L : Nat → Nat → Nat → Option ρ) (p : Nat → Bool) (n : Nat) (y : Nat → ρ) (hs : ∀ k a i, i < n → L (k + 1) a i = if p i = true then L k (a + 1) (i + 1) else L k a (i + 1)) (he : ∀ k a, L (k + 1) a n = some (y a)) : ∀ d i a k, i + d = n → d < k → L k a i = some (y (a + cnt p i d)) := by
  intro d
  induction d with
  | zero =>
    intro i a k hi hk
    obtain ⟨k, rfl⟩ : ∃ j, k = j + 1 := ⟨k - 1, by omega⟩
    have e : i = n := hi
    subst e
    exact he k a
  | succ d ih =>
    intro i a k hi hk
    obtain ⟨k, rfl⟩ : ∃ j, k = j + 1 := ⟨k - 1, by omega⟩
    rw [hs k a i (by omega)]
    unfold cnt
    split
    · rw [ih (i + 1) (a + 1) k (by omega) (by omega), Nat.add_assoc]
    · rw [ih (i + 1) a k (by omega) (by omega), Nat.zero_add]
theorem upd2_e (φ : M2) (c i : Nat) (v : Int32) (c' i' : Nat) : upd2 φ c i v c' i' = if c' = c ∧ i' = i then v else φ c' i' := by
  unfold upd2 upd
  by_cases h : c' = c
  · subst h
    by_cases g : i' = i
    · simp [g]
    · simp [g]
  · simp [h]
