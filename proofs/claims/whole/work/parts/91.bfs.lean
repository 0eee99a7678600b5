/-! the pure layer: buckets reached, in the class -/
abbrev Bs : Type := List Nat × (Nat → Option (Option Nat)) × (Nat → Nat)
def nt (T : Bs) (u : Nat) (o : Option Nat) (d : Nat) : Bs := if (T.2.1 u).isSome = true then T else (T.1 ++ [u], (fun v => if v = u then some o else T.2.1 v), fun v => if v = u then d else T.2.2 v)
def tgo (o : Option En) : Nat := og (fun e => e.1) 0 o
def ex (b : Nat) (c : Ce) (u d : Nat) : Nat → Nat → Bs → Bs
  | 0, _, T => T
  | n + 1, k, T => ex b c u d n (k + 1) (nt T (oth b u (tgo (c (4 * u + k)))) (some (4 * u + k)) d)
def bf (b s : Nat) (c : Ce) : Nat → Nat → Bs → Option Nat × Bs
  | 0, _, T => (none, T)
  | n + 1, i, T => og (fun u => if (fS c s u).isSome = true then (some u, T) else bf b s c n (i + 1) (ex b c u (T.2.2 u + 1) s 0 T)) (none, T) T.1[i]?
def b0 (h o : Nat) : Bs := nt (nt ([], (fun _ => none), fun _ => 0) h none 0) o none 0
def bfs (b s : Nat) (c : Ce) (h o : Nat) : Option Nat × Bs := bf b s c 64 0 (b0 h o)
/-- what holds of a state of the search -/
def zT (b s : Nat) (c : Ce) (h o : Nat) (T : Bs) : Prop :=
  T.1.length = cnt (fun u => (T.2.1 u).isSome) 0 64 ∧ (∀ u, u ∈ T.1 → (T.2.1 u).isSome = true) ∧ (∀ u, (T.2.1 u).isSome = true → u < 2 ^ b) ∧ (∀ (j u : Nat), T.1[j]? = some u → T.2.2 u ≤ j) ∧ (∀ u, (T.2.1 u).isSome = true → u ∈ T.1)
  ∧ (∀ u, T.2.1 u = some none → T.2.2 u = 0 ∧ (u = h ∨ u = o)) ∧ ∀ u p, T.2.1 u = some (some p) → (T.2.1 (p / 4)).isSome = true ∧ T.2.2 u = T.2.2 (p / 4) + 1 ∧ fS c s (p / 4) = none ∧ p % 4 < s ∧ u = oth b (p / 4) (tgo (c p))
theorem cnt_up {p q : Nat → Bool} {u : Nat} (hp : p u = false) (hq : q u = true) (h : ∀ v, v ≠ u → q v = p v) : ∀ (n j : Nat), j ≤ u → u < j + n → cnt q j n = cnt p j n + 1 := by
  have same : ∀ (n j : Nat), u < j ∨ j + n ≤ u → cnt q j n = cnt p j n := by
    intro n
    induction n with
    | zero =>
      intro j _
      rfl
    | succ n ih =>
      intro j hj
      unfold cnt
      rw [h j (by omega), ih (j + 1) (by omega)]
  intro n
  induction n with
  | zero =>
    intro j h1 h2
    omega
  | succ n ih =>
    intro j h1 h2
    unfold cnt
    by_cases g : j = u
    · subst g
      rw [hp, hq, same n (j + 1) (by omega), if_pos rfl, if_neg Bool.false_ne_true]
      omega
    · rw [h j g, ih (j + 1) (by omega) (by omega)]
      omega
theorem cnt_lt {p : Nat → Bool} {u : Nat} (hp : p u = false) : ∀ (n j : Nat), j ≤ u → u < j + n → cnt p j n < n := by
  intro n j h1 h2
  have := cnt_up (p := p) (q := fun v => if v = u then true else p v) (u := u) hp (by simp) (fun v hv => by simp [hv]) n j h1 h2
  have h3 := cnt_le (p := fun v => if v = u then true else p v) n j
  omega
theorem nt_ok {b s h o : Nat} {c : Ce} {T : Bs} {u d : Nat} {x : Option Nat} (hb : b ≤ 6) (hT : zT b s c h o T) (hu : u < 2 ^ b) (hd : T.2.1 u = none → d ≤ T.1.length) (h0 : x = none → d = 0 ∧ (u = h ∨ u = o)) (h1 : ∀ p, x = some p → (T.2.1 (p / 4)).isSome = true ∧ d = T.2.2 (p / 4) + 1 ∧ fS c s (p / 4) = none ∧ p % 4 < s ∧ u = oth b (p / 4) (tgo (c p))) : zT b s c h o (nt T u x d) := by
  have h6 := p2_6 hb
  by_cases g : (T.2.1 u).isSome = true
  · unfold nt
    rw [if_pos g]
    exact hT
  · have gn : T.2.1 u = none := by
      cases hz : T.2.1 u with
      | none => rfl
      | some z =>
        rw [hz] at g
        exact absurd rfl g
    obtain ⟨t1, t2, t3, t4, t5, t6, t7⟩ := hT
    unfold nt
    rw [if_neg g]
    refine ⟨?_, fun v hv => ?_, fun v hv => ?_, fun j v hj => ?_, fun v hv => ?_, fun v hv => ?_, fun v p hv => ?_⟩
    · show (T.1 ++ [u]).length = cnt (fun v => (if v = u then some x else T.2.1 v).isSome) 0 64
      rw [List.length_append, t1]
      exact (cnt_up (p := fun v => (T.2.1 v).isSome) (u := u) (Bool.eq_false_iff.mpr g) (by simp) (fun v hv => by simp [hv]) 64 0 (Nat.zero_le _) (by omega)).symm
    · show (if v = u then some x else T.2.1 v).isSome = true
      by_cases e : v = u
      · rw [if_pos e]
        rfl
      · rw [if_neg e]
        rcases List.mem_append.mp hv with k | k
        · exact t2 v k
        · exact absurd (List.mem_singleton.mp k) e
    · have hv : (if v = u then some x else T.2.1 v).isSome = true := hv
      by_cases e : v = u
      · rw [e]
        exact hu
      · rw [if_neg e] at hv
        exact t3 v hv
    · show (if v = u then d else T.2.2 v) ≤ j
      have hj : (T.1 ++ [u])[j]? = some v := hj
      rcases Nat.lt_or_ge j T.1.length with k | k
      · rw [List.getElem?_append_left k] at hj
        have hm := t2 v (List.mem_of_getElem? hj)
        rw [if_neg (fun z => by rw [z, gn] at hm; cases hm)]
        exact t4 j v hj
      · have hl := (List.getElem?_eq_some_iff.mp hj).1
        rw [List.length_append] at hl
        have e : j = T.1.length := by
          simp at hl
          omega
        subst e
        have e2 : (T.1 ++ [u])[T.1.length]? = some u := by simp
        rw [e2] at hj
        cases hj
        rw [if_pos rfl]
        exact hd gn
    · have hv : (if v = u then some x else T.2.1 v).isSome = true := hv
      show v ∈ T.1 ++ [u]
      by_cases e : v = u
      · exact List.mem_append.mpr (Or.inr (List.mem_singleton.mpr e))
      · rw [if_neg e] at hv
        exact List.mem_append.mpr (Or.inl (t5 v hv))
    · have hv : (if v = u then some x else T.2.1 v) = some none := hv
      show (if v = u then d else T.2.2 v) = 0 ∧ _
      by_cases e : v = u
      · rw [if_pos e] at hv ⊢
        rw [e]
        exact h0 (Option.some.inj hv)
      · rw [if_neg e] at hv ⊢
        exact t6 v hv
    · have hv : (if v = u then some x else T.2.1 v) = some (some p) := hv
      show (if p / 4 = u then some x else T.2.1 (p / 4)).isSome = true ∧ (if v = u then d else T.2.2 v) = (if p / 4 = u then d else T.2.2 (p / 4)) + 1 ∧ _
      by_cases e : v = u
      · rw [if_pos e] at hv ⊢
        obtain ⟨k1, k2, k3, k4, k5⟩ := h1 p (Option.some.inj hv)
        have hne : p / 4 ≠ u := fun z => by rw [z, gn] at k1; cases k1
        rw [if_neg hne, if_neg hne, e]
        exact ⟨k1, k2, k3, k4, k5⟩
      · rw [if_neg e] at hv ⊢
        obtain ⟨k1, k2, k3, k4, k5⟩ := t7 v p hv
        have hne : p / 4 ≠ u := fun z => by rw [z, gn] at k1; cases k1
        rw [if_neg hne, if_neg hne]
        exact ⟨k1, k2, k3, k4, k5⟩
theorem b0_ok {b s h o : Nat} {c : Ce} (hb : b ≤ 6) (hh : h < 2 ^ b) (ho : o < 2 ^ b) : zT b s c h o (b0 h o) := by
  have e0 : zT b s c h o ([], (fun _ => none), fun _ => 0) := by
    refine ⟨?_, fun u hu => (by cases hu), fun u hu => (by cases hu), fun j u hj => (by simp at hj), fun u hu => (by cases hu), fun u hu => (by cases hu), fun u p hu => (by cases hu)⟩
    exact (cnt_0 64 0 (fun i _ _ => rfl)).symm
  exact nt_ok hb (nt_ok hb e0 hh (fun _ => Nat.zero_le _) (fun _ => ⟨rfl, Or.inl rfl⟩) (fun p hp => (by cases hp))) ho (fun _ => Nat.zero_le _) (fun _ => ⟨rfl, Or.inr rfl⟩) (fun p hp => by cases hp)
/-- noting keeps what is reached -/
theorem nt_keep {T : Bs} {u v d : Nat} {x : Option Nat} (h : (T.2.1 v).isSome = true) : (nt T u x d).2.1 v = T.2.1 v ∧ (nt T u x d).2.2 v = T.2.2 v := by
  unfold nt
  split
  · exact ⟨rfl, rfl⟩
  · rename_i g
    have hne : v ≠ u := fun z => by rw [z] at h; exact g h
    show (if v = u then some x else T.2.1 v) = T.2.1 v ∧ (if v = u then d else T.2.2 v) = T.2.2 v
    rw [if_neg hne, if_neg hne]
    exact ⟨rfl, rfl⟩
theorem nt_pre {T : Bs} {u d : Nat} {x : Option Nat} : T.1.length ≤ (nt T u x d).1.length ∧ ∀ (j : Nat), j < T.1.length → (nt T u x d).1[j]? = T.1[j]? := by
  unfold nt
  split
  · exact ⟨Nat.le_refl _, fun j _ => rfl⟩
  · refine ⟨?_, fun j hj => ?_⟩
    · show T.1.length ≤ (T.1 ++ [u]).length
      rw [List.length_append]
      omega
    · show (T.1 ++ [u])[j]? = T.1[j]?
      rw [List.getElem?_append_left hj]
def zRr (φ : M2) (T : Bs) : Prop := φ 8 2 = nI T.1.length ∧ (∀ (j u : Nat), T.1[j]? = some u → φ 9 j = nI u) ∧ ∀ u, u < 64 → φ 10 u = og (fun o => og nI mI o) mJ (T.2.1 u)
theorem zc_rnote {φ : M2} {T : Bs} {b s h o u d : Nat} {c : Ce} {x : Option Nat} (hb : b ≤ 6) (hu : u < 2 ^ b) (hx : ∀ p, x = some p → p < 256) (hT : zT b s c h o T) (hp : ∀ v p, T.2.1 v = some (some p) → p < 256) (hR : zRr φ T) : ∃ φ', G_X5_note φ (nI u) (og nI mI x) = some φ' ∧ zRr φ' (nt T u x d) ∧ ∀ c', c' ≠ 8 → c' ≠ 9 → c' ≠ 10 → φ' c' = φ c' := by
  have h6 := p2_6 hb
  obtain ⟨r1, r2, r3⟩ := hR
  have h10 := r3 u (by omega)
  have hlen : T.1.length ≤ 64 := by rw [hT.1]; exact cnt_le _ _
  cases hf : T.2.1 u with
  | some y =>
    have ent : nt T u x d = T := by
      unfold nt
      rw [hf, if_pos (by rfl)]
    rw [ent]
    rw [hf] at h10
    refine ⟨φ, ?_, ⟨r1, r2, r3⟩, fun _ _ _ _ => rfl⟩
    have hne : (φ 10 u = mJ) = False := by
      rw [h10]
      refine eq_false (fun z => ?_)
      cases y with
      | none => exact zn_ij.1.mp z
      | some p => exact (zn_mj (a := p) (by have := hp u p hf; omega)).1.mp z
    unfold G_X5_note
    simp (disch := omega) only [zn_L, zn_M, zn_R, r1, hne, if_false]
    simp only [ite_self]
  | none =>
    have hl2 : T.1.length < 64 := by
      rw [hT.1]
      exact cnt_lt (u := u) (by rw [hf]; rfl) 64 0 (Nat.zero_le _) (by omega)
    have ent : nt T u x d = (T.1 ++ [u], (fun v => if v = u then some x else T.2.1 v), fun v => if v = u then d else T.2.2 v) := by
      unfold nt
      rw [hf, if_neg (by decide)]
    rw [hf] at h10
    have h10 : φ 10 u = mJ := h10
    rw [ent]
    refine ⟨upd2 (upd2 (upd2 φ 10 u (og nI mI x)) 9 T.1.length (nI u)) 8 2 (nI (T.1.length + 1)), ?_, ⟨?_, fun j v hj => ?_, fun v hv => ?_⟩, fun c' h1 h2 h3 => by rw [upd2_o h1, upd2_o h2, upd2_o h3]⟩
    · have q1 : upd2 φ 10 u (og nI mI x) 8 2 = nI T.1.length := by
        rw [upd2_o (by decide)]
        exact r1
      have q2 : upd2 (upd2 φ 10 u (og nI mI x)) 9 T.1.length (nI u) 8 2 = nI T.1.length := by
        rw [upd2_o (by decide)]
        exact q1
      unfold G_X5_note
      simp (disch := omega) only [zn_L, zn_M, zn_R, r1, h10, if_true, q1, q2]
      rw [if_neg (by omega), if_neg (by omega), if_neg (by omega), if_pos hl2]
    · rw [upd2_e, if_pos ⟨rfl, rfl⟩]
      show _ = nI (T.1 ++ [u]).length
      rw [List.length_append]
      rfl
    · have hj : (T.1 ++ [u])[j]? = some v := hj
      rw [upd2_o (by decide), upd2_e]
      rcases Nat.lt_or_ge j T.1.length with k | k
      · rw [List.getElem?_append_left k] at hj
        rw [if_neg (fun z => by omega), upd2_o (by decide)]
        exact r2 j v hj
      · have hl := (List.getElem?_eq_some_iff.mp hj).1
        rw [List.length_append] at hl
        have e : j = T.1.length := by
          simp at hl
          omega
        subst e
        have e2 : (T.1 ++ [u])[T.1.length]? = some u := by simp
        rw [e2] at hj
        cases hj
        rw [if_pos ⟨rfl, rfl⟩]
    · rw [upd2_o (by decide), upd2_o (by decide), upd2_e]
      show _ = og (fun o => og nI mI o) mJ (if v = u then some x else T.2.1 v)
      by_cases e : v = u
      · rw [if_pos ⟨rfl, e⟩, if_pos e]
        rfl
      · rw [if_neg (fun z => e z.2), if_neg e]
        exact r3 v hv
theorem zT_p {b s h o : Nat} {c : Ce} {T : Bs} (hb : b ≤ 6) (hs : s ≤ 4) (hT : zT b s c h o T) {v p : Nat} (h : T.2.1 v = some (some p)) : p < 256 := by
  have h6 := p2_6 hb
  obtain ⟨k1, k2, k3, k4, k5⟩ := hT.2.2.2.2.2.2 v p h
  have := hT.2.2.1 _ k1
  omega
