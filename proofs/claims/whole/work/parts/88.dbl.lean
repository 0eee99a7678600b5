/-! the pure layer: doubling, the places -/
def dE (b : Nat) (e : En) : En := (e.1, e.2.1 + e.2.2.2 % 2 * 2 ^ b, e.2.2.1 - 1, e.2.2.2 / 2)
def nb (b : Nat) (e : En) (u : Nat) : Nat := if e.2.1 = u then (dE b e).2.1 else oth (b + 1) (dE b e).2.1 e.1
def src (b p : Nat) : Nat := 4 * (p / 4 % 2 ^ b) + p % 4
def dC (b : Nat) (c : Ce) : Ce := fun p => og (fun e => if nb b e (p / 4 % 2 ^ b) = p / 4 then some (dE b e) else none) none (c (src b p))
theorem dE_c (b : Nat) (e : En) : e.2.2.2 % 2 * 2 ^ b ≤ 2 ^ b := by
  have : e.2.2.2 % 2 = 0 ∨ e.2.2.2 % 2 = 1 := by omega
  rcases this with h | h
  · rw [h, Nat.zero_mul]
    exact Nat.zero_le _
  · rw [h, Nat.one_mul]
    exact Nat.le_refl _
theorem dE_m (b : Nat) (e : En) : e.2.2.2 % 2 * 2 ^ b % 2 ^ b = 0 := Nat.mul_mod_left _ _
theorem dE_ok {b : Nat} {e : En} (h : zEo b e) (h1 : 1 ≤ e.2.2.1) : zEo (b + 1) (dE b e) := by
  obtain ⟨a1, a2, a3, a4⟩ := h
  have := dE_c b e
  have hp : 2 ^ (b + 1) = 2 ^ b * 2 := Nat.pow_succ 2 b
  have hq : 2 ^ e.2.2.1 = 2 ^ (e.2.2.1 - 1) * 2 := by
    rw [← Nat.pow_succ]
    congr 1
    omega
  refine ⟨a1, ?_, ?_, ?_⟩
  · show e.2.1 + e.2.2.2 % 2 * 2 ^ b < 2 ^ (b + 1)
    omega
  · show e.2.2.1 - 1 ≤ 8
    omega
  · show e.2.2.2 / 2 < 2 ^ (e.2.2.1 - 1)
    omega
theorem stp_m (t b : Nat) : stp t (b + 1) % 2 ^ b = stp t b := by
  unfold stp
  exact Nat.mod_mod_of_dvd _ (Nat.pow_dvd_pow 2 (Nat.le_succ b))
theorem nb_m {b u : Nat} {e : En} (h : zEo b e) (hu : u < 2 ^ b) (hh : e.2.1 = u ∨ e.2.1 = oth b u e.1) : nb b e u % 2 ^ b = u := by
  have h2 := h.2.1
  have hm : (dE b e).2.1 % 2 ^ b = e.2.1 := by
    show (e.2.1 + e.2.2.2 % 2 * 2 ^ b) % 2 ^ b = e.2.1
    rw [Nat.add_mul_mod_self_right]
    exact Nat.mod_eq_of_lt h2
  unfold nb
  by_cases g : e.2.1 = u
  · rw [if_pos g, hm, g]
  · rw [if_neg g]
    unfold oth
    rw [Nat.xor_mod_two_pow, hm, stp_m]
    have := hh.resolve_left g
    rw [this]
    exact oth_oth b u e.1
theorem nb_lt {b u : Nat} {e : En} (h : zEo b e) (h1 : 1 ≤ e.2.2.1) : nb b e u < 2 ^ (b + 1) := by
  have h2 := (dE_ok h h1).2.1
  unfold nb
  split
  · exact h2
  · exact oth_lt _ h2
theorem nb_s {b u : Nat} {e : En} : (dE b e).2.1 = nb b e u ∨ (dE b e).2.1 = oth (b + 1) (nb b e u) (dE b e).1 := by
  unfold nb
  split
  · exact Or.inl rfl
  · refine Or.inr ?_
    show (dE b e).2.1 = oth (b + 1) (oth (b + 1) (dE b e).2.1 e.1) e.1
    rw [oth_oth]
def zL1 (c : Ce) : Prop := ∀ p e, c p = some e → 1 ≤ e.2.2.1
theorem dC_ok {b s : Nat} {c : Ce} (hV : zWc b s c) (h1 : zL1 c) : zWc (b + 1) s (dC b c) := by
  intro p f hf
  unfold dC at hf
  cases hc : c (src b p) with
  | none =>
    rw [hc] at hf
    cases hf
  | some e =>
    rw [hc, og_s] at hf
    split at hf
    · rename_i g
      have := Option.some.inj hf
      subst this
      obtain ⟨a1, a2, a3, a4⟩ := hV _ e hc
      have hb := nb_lt (u := p / 4 % 2 ^ b) a3 (h1 _ e hc)
      rw [g] at hb
      refine ⟨hb, ?_, dE_ok a3 (h1 _ e hc), ?_⟩
      · have : src b p % 4 = p % 4 := by
          unfold src
          omega
        omega
      · have := nb_s (b := b) (e := e) (u := p / 4 % 2 ^ b)
        rw [g] at this
        exact this
    · cases hf
theorem src_4 (b u k : Nat) (hk : k < 4) : src b (4 * u + k) = 4 * (u % 2 ^ b) + k := by
  unfold src
  rw [show (4 * u + k) / 4 = u by omega, show (4 * u + k) % 4 = k by omega]
theorem src_mod (b p : Nat) : src b p % 4 = p % 4 ∧ src b p / 4 = p / 4 % 2 ^ b := by
  unfold src
  omega
/-- the class's cells on the way: the places up to i are done -/
def dI (b i : Nat) (c : Ce) : Ce := fun p => if src b p < i then dC b c p else if p / 4 < 2 ^ b then c p else none
/-- the model's -/
def dM (b i : Nat) (c : Ce) : Ce := fun p => if src b p < i then dC b c p else none
theorem dI_0 {b s : Nat} {c : Ce} (hV : zWc b s c) : dI b 0 c = c := by
  funext p
  unfold dI
  rw [if_neg (Nat.not_lt_zero _)]
  split
  · rfl
  · rename_i g
    cases hc : c p with
    | none => rfl
    | some e => exact absurd (hV p e hc).1 g
theorem src_lt (b p : Nat) : src b p < 4 * 2 ^ b := by
  have := Nat.mod_lt (p / 4) (Nat.two_pow_pos b)
  unfold src
  omega
theorem dI_e {b i : Nat} {c : Ce} (h : 4 * 2 ^ b ≤ i) : dI b i c = dC b c := by
  funext p
  have := src_lt b p
  unfold dI
  rw [if_pos (by omega)]
theorem dM_e {b i : Nat} {c : Ce} (h : 4 * 2 ^ b ≤ i) : dM b i c = dC b c := by
  funext p
  have := src_lt b p
  unfold dM
  rw [if_pos (by omega)]
theorem dM_0 {b : Nat} {c : Ce} : dM b 0 c = nC := by
  funext p
  unfold dM
  rw [if_neg (Nat.not_lt_zero _)]
  rfl
theorem dC_n {b p : Nat} {c : Ce} (h : c (src b p) = none) : dC b c p = none := by
  unfold dC
  rw [h, og_n]
theorem src_id {b p : Nat} (h : p / 4 < 2 ^ b) : src b p = p := by
  unfold src
  rw [Nat.mod_eq_of_lt h]
  omega
/-- an empty source -/
theorem dI_n {b i : Nat} {c : Ce} (h : c i = none) : dI b (i + 1) c = dI b i c := by
  funext p
  unfold dI
  by_cases g : src b p = i
  · rw [if_pos (by omega), if_neg (by omega), dC_n (by rw [g]; exact h)]
    split
    · rename_i g2
      rw [← src_id g2, g]
      exact h.symm
    · rfl
  · by_cases g2 : src b p < i
    · rw [if_pos (by omega), if_pos g2]
    · rw [if_neg (by omega), if_neg g2]
theorem dM_n {b i : Nat} {c : Ce} (h : c i = none) : dM b (i + 1) c = dM b i c := by
  funext p
  unfold dM
  by_cases g : src b p = i
  · rw [if_pos (by omega), if_neg (by omega), dC_n (by rw [g]; exact h)]
  · by_cases g2 : src b p < i
    · rw [if_pos (by omega), if_pos g2]
    · rw [if_neg (by omega), if_neg g2]
theorem dI_s {b u k s : Nat} {c : Ce} {e : En} (hV : zWc b s c) (hk : k < 4) (hu : u < 2 ^ b) (h : c (4 * u + k) = some e) : uC (uC (dI b (4 * u + k) c) (4 * u + k) none) (4 * nb b e u + k) (some (dE b e)) = dI b (4 * u + k + 1) c := by
  obtain ⟨a1, a2, a3, a4⟩ := hV _ e h
  have ed : (4 * u + k) / 4 = u := by omega
  rw [ed] at a4
  have hm := nb_m a3 hu a4
  funext p
  obtain ⟨s1, s2⟩ := src_mod b p
  by_cases g : src b p = 4 * u + k
  · have eu : p / 4 % 2 ^ b = u := by omega
    have ek : p % 4 = k := by omega
    have e1 : dI b (4 * u + k + 1) c p = if nb b e u = p / 4 then some (dE b e) else none := by
      unfold dI dC
      rw [if_pos (by omega), g, h, og_s, eu]
    rw [e1]
    by_cases g2 : nb b e u = p / 4
    · rw [if_pos g2]
      have : p = 4 * nb b e u + k := by omega
      rw [this, uC_s]
    · rw [if_neg g2, uC_n (by omega)]
      by_cases g3 : p = 4 * u + k
      · rw [g3, uC_s]
      · rw [uC_n g3]
        unfold dI
        rw [if_neg (by omega), if_neg (fun z => g3 (by rw [← src_id z]; exact g))]
  · have n1 : p ≠ 4 * nb b e u + k := by
      intro z
      apply g
      rw [z, src_4 b _ _ hk, hm]
    have n2 : p ≠ 4 * u + k := by
      intro z
      apply g
      rw [z, src_4 b _ _ hk, Nat.mod_eq_of_lt hu]
    rw [uC_n n1, uC_n n2]
    unfold dI
    by_cases g2 : src b p < 4 * u + k
    · rw [if_pos g2, if_pos (by omega)]
    · rw [if_neg g2, if_neg (show ¬ src b p < 4 * u + k + 1 by omega)]
theorem dM_s {b u k s : Nat} {c : Ce} {e : En} (hV : zWc b s c) (hk : k < 4) (hu : u < 2 ^ b) (h : c (4 * u + k) = some e) : uC (dM b (4 * u + k) c) (4 * nb b e u + k) (some (dE b e)) = dM b (4 * u + k + 1) c := by
  obtain ⟨a1, a2, a3, a4⟩ := hV _ e h
  have ed : (4 * u + k) / 4 = u := by omega
  rw [ed] at a4
  have hm := nb_m a3 hu a4
  funext p
  obtain ⟨s1, s2⟩ := src_mod b p
  by_cases g : src b p = 4 * u + k
  · have eu : p / 4 % 2 ^ b = u := by omega
    have ek : p % 4 = k := by omega
    have e1 : dM b (4 * u + k + 1) c p = if nb b e u = p / 4 then some (dE b e) else none := by
      unfold dM dC
      rw [if_pos (by omega), g, h, og_s, eu]
    rw [e1]
    by_cases g2 : nb b e u = p / 4
    · rw [if_pos g2]
      have : p = 4 * nb b e u + k := by omega
      rw [this, uC_s]
    · rw [if_neg g2, uC_n (by omega)]
      unfold dM
      rw [if_neg (by omega)]
  · have n1 : p ≠ 4 * nb b e u + k := by
      intro z
      apply g
      rw [z, src_4 b _ _ hk, hm]
    rw [uC_n n1]
    unfold dM
    by_cases g2 : src b p < 4 * u + k
    · rw [if_pos g2, if_pos (by omega)]
    · rw [if_neg g2, if_neg (show ¬ src b p < 4 * u + k + 1 by omega)]
/-! what possible doubling says -/
theorem sml_z {a : Option Nat} {o : Option En} (h : sml a o ≠ some 0) : a ≠ some 0 ∧ ∀ e, o = some e → 1 ≤ e.2.2.1 := by
  cases o with
  | none => exact ⟨h, fun e he => by cases he⟩
  | some e =>
    cases a with
    | none =>
      refine ⟨fun z => (by cases z), fun f hf => ?_⟩
      have := Option.some.inj hf
      subst this
      have h : some e.2.2.1 ≠ some 0 := h
      have : e.2.2.1 ≠ 0 := fun z => h (by rw [z])
      omega
    | some m =>
      unfold sml at h
      rw [og_s, og_s] at h
      split at h
      · rename_i g
        refine ⟨h, fun f hf => ?_⟩
        have := Option.some.inj hf
        subst this
        have : m ≠ 0 := fun z => h (by rw [z])
        omega
      · rename_i g
        have : e.2.2.1 ≠ 0 := fun z => h (by rw [z])
        refine ⟨fun z => ?_, fun f hf => ?_⟩
        · have := Option.some.inj z
          omega
        · have := Option.some.inj hf
          subst this
          omega
theorem smA_z {c : Ce} : ∀ i, smA c i ≠ some 0 → ∀ p, p < i → ∀ e, c p = some e → 1 ≤ e.2.2.1 := by
  intro i
  induction i with
  | zero =>
    intro _ p hp
    omega
  | succ i ih =>
    intro h p hp e he
    obtain ⟨h1, h2⟩ := sml_z h
    by_cases g : p = i
    · subst g
      exact h2 e he
    · exact ih h1 p (by omega) e he
theorem smQ_z {c : Ce} {q : List En} : ∀ i, smQ c q i ≠ some 0 → smA c 256 ≠ some 0 ∧ ∀ (j : Nat), j < i → ∀ e, q[j]? = some e → 1 ≤ e.2.2.1 := by
  intro i
  induction i with
  | zero =>
    intro h
    exact ⟨h, fun j hj => by omega⟩
  | succ i ih =>
    intro h
    obtain ⟨h1, h2⟩ := sml_z h
    obtain ⟨g1, g2⟩ := ih h1
    refine ⟨g1, fun j hj e he => ?_⟩
    by_cases g : j = i
    · subst g
      exact h2 e he
    · exact g2 j (by omega) e he
theorem cg_l1 {P : Pm} {c : Ce} {q : List En} (hW : zWp P) (hV : zWc P.1 P.2.1 c) (h : cg P c q = true) : P.1 < 6 ∧ zL1 c ∧ ∀ e, e ∈ q → 1 ≤ e.2.2.1 := by
  have h6 := p2_6 hW.1.2
  unfold cg at h
  rw [Bool.and_eq_true] at h
  obtain ⟨h1, h2⟩ := h
  have h1 := of_decide_eq_true h1
  have h2 : smQ c q q.length ≠ some 0 := by
    intro z
    rw [z] at h2
    exact absurd h2 (by decide)
  obtain ⟨g1, g2⟩ := smQ_z _ h2
  refine ⟨h1, fun p e he => ?_, fun e he => ?_⟩
  · have := (hV p e he).1
    exact smA_z 256 g1 p (by omega) e he
  · obtain ⟨j, hj⟩ := List.mem_iff_getElem?.mp he
    exact g2 j ((List.getElem?_eq_some_iff.mp hj).1) e hj
