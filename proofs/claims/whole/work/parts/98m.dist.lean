/-! the pure layer: distributions; the class -/
def cI (f : Nat → Nat) (u n : Nat) : Nat := cnt (fun i => f i == u) 0 n
theorem cnt_s (p : Nat → Bool) (n : Nat) : cnt p 0 (n + 1) = cnt p 0 n + (if p n = true then 1 else 0) := by
  rw [cnt_add p n 0 1]
  show cnt p 0 n + ((if p (0 + n) = true then 1 else 0) + 0) = _
  rw [Nat.zero_add, Nat.add_zero]
def sq (F : Nat → Nat) : Nat → Nat
  | 0 => 0
  | m + 1 => sq F m + F m
theorem sq_le {F G : Nat → Nat} : ∀ M, (∀ k, k < M → F k ≤ G k) → sq F M ≤ sq G M := by
  intro M
  induction M with
  | zero =>
    intro _
    exact Nat.le_refl _
  | succ M ih =>
    intro h
    have h1 := ih (fun k hk => h k (by omega))
    have h2 := h M (by omega)
    show sq F M + F M ≤ sq G M + G M
    omega
theorem sq_eq {F G : Nat → Nat} (M : Nat) (h : ∀ k, k < M → F k = G k) : sq F M = sq G M :=
  Nat.le_antisymm (sq_le M fun k hk => Nat.le_of_eq (h k hk)) (sq_le M fun k hk => Nat.le_of_eq (h k hk).symm)
theorem sq_add (F G : Nat → Nat) : ∀ M, sq (fun k => F k + G k) M = sq F M + sq G M := by
  intro M
  induction M with
  | zero => rfl
  | succ M ih =>
    show sq (fun k => F k + G k) M + (F M + G M) = sq F M + F M + (sq G M + G M)
    rw [ih]
    omega
theorem sq_c (a : Nat) : ∀ M, sq (fun _ => a) M = a * M := by
  intro M
  induction M with
  | zero => rfl
  | succ M ih =>
    show sq (fun _ => a) M + a = _
    rw [ih, Nat.mul_succ]
theorem sq_one (x : Nat) : ∀ M, sq (fun k => if (x == k) = true then 1 else 0) M = if x < M then 1 else 0 := by
  intro M
  induction M with
  | zero =>
    rw [if_neg (by omega)]
    rfl
  | succ M ih =>
    show sq (fun k => if (x == k) = true then 1 else 0) M + (if (x == M) = true then 1 else 0) = _
    rw [ih]
    by_cases g : x = M
    · subst g
      rw [if_neg (by omega), if_pos (by simp), if_pos (by omega)]
    · have e : (x == M) = false := by simp [g]
      rw [e]
      by_cases g2 : x < M
      · rw [if_pos g2, if_neg Bool.false_ne_true, if_pos (by omega)]
      · rw [if_neg g2, if_neg Bool.false_ne_true, if_neg (by omega)]
theorem fub {p : Nat → Bool} {w : Nat → Nat} {M : Nat} : ∀ n, (∀ i, i < n → p i = true → w i < M) → cnt p 0 n = sq (fun k => cnt (fun i => p i && (w i == k)) 0 n) M := by
  intro n
  induction n with
  | zero =>
    intro _
    show 0 = sq (fun _ => 0) M
    rw [sq_c, Nat.zero_mul]
  | succ n ih =>
    intro h
    have e : sq (fun k => cnt (fun i => p i && (w i == k)) 0 (n + 1)) M = sq (fun k => cnt (fun i => p i && (w i == k)) 0 n + (if (p n && (w n == k)) = true then 1 else 0)) M := sq_eq M fun k _ => cnt_s _ n
    rw [e, sq_add, ← ih (fun i hi => h i (by omega)), cnt_s]
    cases hp : p n with
    | false =>
      have e2 : sq (fun k => if (false && (w n == k)) = true then 1 else 0) M = sq (fun _ => 0) M := sq_eq M fun k _ => by
        rw [Bool.false_and]
        exact if_neg Bool.false_ne_true
      rw [e2, sq_c, Nat.zero_mul, if_neg Bool.false_ne_true]
    | true =>
      have e2 : sq (fun k => if (true && (w n == k)) = true then 1 else 0) M = sq (fun k => if (w n == k) = true then 1 else 0) M := sq_eq M fun k _ => by
        rw [Bool.true_and]
      rw [e2, sq_one, if_pos (h n (by omega) hp), if_pos rfl]
theorem cnt_in {p q : Nat → Bool} : ∀ n, (∀ i, i < n → p i = true → q i = true) → cnt p 0 n ≤ cnt q 0 n := by
  intro n
  induction n with
  | zero =>
    intro _
    exact Nat.le_refl _
  | succ n ih =>
    intro h
    have h1 := ih (fun i hi => h i (by omega))
    rw [cnt_s, cnt_s]
    cases hp : p n with
    | false =>
      rw [if_neg Bool.false_ne_true]
      omega
    | true =>
      rw [h n (by omega) hp]
      omega
theorem cnt_pos {p : Nat → Bool} {i n : Nat} (hi : i < n) (h : p i = true) : 1 ≤ cnt p 0 n := by
  have h1 := cnt_in (p := fun k => i == k) (q := p) n (fun k _ hk => by
    have e : i = k := by simpa using hk
    rw [← e]
    exact h)
  have h2 : cnt (fun k => i == k) 0 n = cnt (fun k => i == k) 0 i + cnt (fun k => i == k) (0 + i) (n - i) := by
    rw [← cnt_add]
    congr 1
    omega
  have h3 : cnt (fun k => i == k) (0 + i) (n - i) = 1 + cnt (fun k => i == k) (0 + i + 1) (n - i - 1) := by
    obtain ⟨d, hd⟩ : ∃ d, n - i = d + 1 := ⟨n - i - 1, by omega⟩
    rw [hd]
    show (if (i == 0 + i) = true then 1 else 0) + cnt (fun k => i == k) (0 + i + 1) d = _
    rw [if_pos (by simp)]
    rfl
  omega
theorem cnt_one {p : Nat → Bool} : ∀ n, (∀ i j, i < n → j < n → p i = true → p j = true → i = j) → cnt p 0 n ≤ 1 := by
  intro n
  induction n with
  | zero =>
    intro _
    exact Nat.zero_le _
  | succ n ih =>
    intro h
    rw [cnt_s]
    cases hp : p n with
    | false =>
      have := ih (fun i j hi hj => h i j (by omega) (by omega))
      rw [if_neg Bool.false_ne_true]
      omega
    | true =>
      have : cnt p 0 n = 0 := cnt_0 n 0 (fun i _ hi => by
        cases hz : p i with
        | false => rfl
        | true =>
          have := h i n (by omega) (by omega) hz hp
          omega)
      rw [if_pos rfl]
      omega
/-- the first n keys can be distributed -/
def DIST (h o : Nat → Nat) (s n : Nat) : Prop := ∃ f : Nat → Nat, (∀ i, i < n → f i = h i ∨ f i = o i) ∧ ∀ u, u < 64 → cI f u n ≤ s
theorem DIST_le {h o : Nat → Nat} {s m n : Nat} (hmn : m ≤ n) (H : DIST h o s n) : DIST h o s m := by
  obtain ⟨f, h1, h2⟩ := H
  refine ⟨f, fun i hi => h1 i (by omega), fun u hu => ?_⟩
  have h3 := h2 u hu
  obtain ⟨d, rfl⟩ : ∃ d, n = m + d := ⟨n - m, by omega⟩
  unfold cI at *
  rw [cnt_add] at h3
  omega
theorem rk_t {R : Nat → Bool} {k x : Nat} (h : R k = true) : (R x && (x == k)) = (x == k) := by
  by_cases e : x = k
  · subst e
    rw [h, Bool.true_and]
  · have e2 : (x == k) = false := by simp [e]
    rw [e2, Bool.and_false]
theorem rk_f {R : Nat → Bool} {k x : Nat} (h : R k = false) : (R x && (x == k)) = false := by
  by_cases e : x = k
  · subst e
    rw [h, Bool.false_and]
  · have e2 : (x == k) = false := by simp [e]
    rw [e2, Bool.and_false]
theorem DIST_no {h o f : Nat → Nat} {s n : Nat} {R : Nat → Bool} (h64 : ∀ i, i ≤ n → h i < 64 ∧ o i < 64) (hf : ∀ i, i < n → f i = h i ∨ f i = o i) (full : ∀ u, u < 64 → R u = true → cI f u n = s) (cl : ∀ i, i < n → R (f i) = true → R (h i) = true ∧ R (o i) = true) (rh : R (h n) = true) (ro : R (o n) = true) : ¬ DIST h o s (n + 1) := by
  rintro ⟨g, g1, g2⟩
  have a1 := fub (p := fun i => R (f i)) (w := f) (M := 64) n (fun i hi _ => by
    have := h64 i (by omega)
    rcases hf i hi with e | e <;> omega)
  have a2 := fub (p := fun i => R (g i)) (w := g) (M := 64) (n + 1) (fun i hi _ => by
    have := h64 i (by omega)
    rcases g1 i hi with e | e <;> omega)
  have a3 : sq (fun k => cnt (fun i => R (g i) && (g i == k)) 0 (n + 1)) 64 ≤ sq (fun k => cnt (fun i => R (f i) && (f i == k)) 0 n) 64 := sq_le 64 (fun k hk => by
    cases hr : R k with
    | true =>
      have e1 : cnt (fun i => R (f i) && (f i == k)) 0 n = cI f k n := cnt_c n 0 (fun i _ _ => rk_t hr)
      have e2 : cnt (fun i => R (g i) && (g i == k)) 0 (n + 1) = cI g k (n + 1) := cnt_c (n + 1) 0 (fun i _ _ => rk_t hr)
      have e3 := full k hk hr
      have e4 := g2 k hk
      show cnt (fun i => R (g i) && (g i == k)) 0 (n + 1) ≤ cnt (fun i => R (f i) && (f i == k)) 0 n
      omega
    | false =>
      have e2 : cnt (fun i => R (g i) && (g i == k)) 0 (n + 1) = 0 := cnt_0 (n + 1) 0 (fun i _ _ => rk_f hr)
      show cnt (fun i => R (g i) && (g i == k)) 0 (n + 1) ≤ _
      omega)
  have a4 := cnt_in (p := fun i => R (f i)) (q := fun i => R (g i)) n (fun i hi hr => by
    have := cl i hi hr
    show R (g i) = true
    rcases g1 i (by omega) with e | e
    · rw [e]
      exact this.1
    · rw [e]
      exact this.2)
  have a5 : cnt (fun i => R (g i)) 0 (n + 1) = cnt (fun i => R (g i)) 0 n + 1 := by
    have e : R (g n) = true := by
      rcases g1 n (by omega) with e | e
      · rw [e]
        exact rh
      · rw [e]
        exact ro
    rw [cnt_s, if_pos e]
  omega
/-! the places of the first n keys -/
def dH (P : Pm) (K : Nat → Nat) (i : Nat) : Nat := (nE P (K i)).2.1
def dO (P : Pm) (K : Nat → Nat) (i : Nat) : Nat := oth P.1 (nE P (K i)).2.1 (nE P (K i)).1
def zGh (P : Pm) (K : Nat → Nat) (n : Nat) (c : Ce) (hole : Option Nat) : Prop := ∃ pos : Nat → Nat, (∀ i, i < n → some (pos i) ≠ hole ∧ c (pos i) = some (nE P (K i))) ∧ (∀ i j, i < n → j < n → pos i = pos j → i = j) ∧ ∀ q e, some q ≠ hole → c q = some e → ∃ i, i < n ∧ pos i = q
theorem zGh_0 {P : Pm} {K : Nat → Nat} : zGh P K 0 nC none := ⟨fun _ => 0, fun i hi => by omega, fun i j hi => by omega, fun q e _ h => by cases h⟩
theorem zGh_h {P : Pm} {K : Nat → Nat} {n p : Nat} {c : Ce} (H : zGh P K n c none) (h : c p = none) : zGh P K n c (some p) := by
  obtain ⟨pos, h1, h2, h3⟩ := H
  refine ⟨pos, fun i hi => ⟨fun z => ?_, (h1 i hi).2⟩, h2, fun q e _ he => h3 q e (fun z => by cases z) he⟩
  have e := (h1 i hi).2
  rw [Option.some.inj z, h] at e
  cases e
theorem zGh_s {P : Pm} {K : Nat → Nat} {n p p' : Nat} {c : Ce} {e : En} (H : zGh P K n c (some p)) (h : p' ≠ p) (hc : c p' = some e) : zGh P K n (uC c p (c p')) (some p') := by
  obtain ⟨pos, h1, h2, h3⟩ := H
  refine ⟨fun i => if pos i = p' then p else pos i, fun i hi => ?_, fun i j hi hj hij => ?_, fun q e' hq he => ?_⟩
  · obtain ⟨a, b⟩ := h1 i hi
    by_cases g : pos i = p'
    · dsimp only
      rw [if_pos g, uC_s]
      rw [g] at b
      exact ⟨fun z => h (Option.some.inj z).symm, b⟩
    · dsimp only
      rw [if_neg g, uC_n (fun z => a (congrArg some z))]
      exact ⟨fun z => g (Option.some.inj z), b⟩
  · dsimp only at hij
    have ai := (h1 i hi).1
    have aj := (h1 j hj).1
    by_cases g : pos i = p'
    · by_cases g2 : pos j = p'
      · exact h2 i j hi hj (g.trans g2.symm)
      · rw [if_pos g, if_neg g2] at hij
        exact absurd (congrArg some hij.symm) aj
    · by_cases g2 : pos j = p'
      · rw [if_neg g, if_pos g2] at hij
        exact absurd (congrArg some hij) ai
      · rw [if_neg g, if_neg g2] at hij
        exact h2 i j hi hj hij
  · by_cases g : q = p
    · obtain ⟨i, hi, hpi⟩ := h3 p' e (fun z => h (Option.some.inj z)) hc
      exact ⟨i, hi, by dsimp only; rw [if_pos hpi, g]⟩
    · rw [uC_n g] at he
      obtain ⟨i, hi, hpi⟩ := h3 q e' (fun z => g (Option.some.inj z)) he
      refine ⟨i, hi, ?_⟩
      dsimp only
      rw [if_neg (fun z => hq (by rw [← hpi, z])), hpi]
theorem zGh_e {P : Pm} {K : Nat → Nat} {n p : Nat} {c : Ce} (H : zGh P K n c (some p)) : zGh P K (n + 1) (uC c p (some (nE P (K n)))) none := by
  obtain ⟨pos, h1, h2, h3⟩ := H
  refine ⟨fun i => if i = n then p else pos i, fun i hi => ⟨fun z => (by cases z), ?_⟩, fun i j hi hj hij => ?_, fun q e _ he => ?_⟩
  · dsimp only
    by_cases g : i = n
    · rw [if_pos g, uC_s, g]
    · obtain ⟨a, b⟩ := h1 i (by omega)
      rw [if_neg g, uC_n (fun z => a (congrArg some z))]
      exact b
  · dsimp only at hij
    by_cases g : i = n
    · by_cases g2 : j = n
      · omega
      · rw [if_pos g, if_neg g2] at hij
        exact absurd (congrArg some hij.symm) (h1 j (by omega)).1
    · by_cases g2 : j = n
      · rw [if_neg g, if_pos g2] at hij
        exact absurd (congrArg some hij) (h1 i (by omega)).1
      · rw [if_neg g, if_neg g2] at hij
        exact h2 i j (by omega) (by omega) hij
  · by_cases g : q = p
    · exact ⟨n, by omega, by dsimp only; rw [if_pos rfl, g]⟩
    · rw [uC_n g] at he
      obtain ⟨i, hi, hpi⟩ := h3 q e (fun z => g (Option.some.inj z)) he
      exact ⟨i, by omega, by dsimp only; rw [if_neg (by omega), hpi]⟩
theorem zGh_mv {P : Pm} {c0 : Ce} {h o n : Nat} {T : Bs} {K : Nat → Nat} (hW : zWp P) : ∀ (d p : Nat) (c : Ce), zCh P c0 h o T d p c → zGh P K n c (some p) → zGh P K n (mv T.2.1 d c p).1 (some (mv T.2.1 d c p).2) := by
  intro d
  induction d with
  | zero =>
    intro p c _ H
    exact H
  | succ d ih =>
    intro p c H G
    obtain ⟨p', e, h1, h2, h3, h4, h5, h6, h7, h8, h9⟩ := zCh_s hW H
    rw [mv_s h1]
    exact ih p' _ h9 (zGh_s G (fun z => h8 (by rw [z])) h3)
theorem zGh_ins {P : Pm} {c : Ce} {n : Nat} {K : Nat → Nat} {y : Nat × Ce} (hW : zWp P) (hV : zWc P.1 P.2.1 c) (G : zGh P K n c none) (h : insS P c (K n) = some y) : zGh P K (n + 1) y.2 none := by
  have he := nE_ok hW (K n)
  have ho := oth_lt (nE P (K n)).1 he.2.1
  unfold insS at h
  cases hb : (bfs P.1 P.2.1 c (nE P (K n)).2.1 (oth P.1 (nE P (K n)).2.1 (nE P (K n)).1)).1 with
  | none =>
    rw [hb] at h
    cases h
  | some u =>
    rw [hb, og_s] at h
    have e := Option.some.inj h
    subst e
    obtain ⟨k, k1, k2, k3, k4, k5, k6⟩ := zCh_i hW hV he.2.1 ho hb
    refine zGh_e (zGh_mv hW _ _ _ k6 (zGh_h G ?_))
    rw [k2]
    exact (fS_lt k1).2
/-- the loads of the places -/
theorem zGh_f {P : Pm} {c : Ce} {n : Nat} {K : Nat → Nat} (hW : zWp P) (hV : zWc P.1 P.2.1 c) (G : zGh P K n c none) : ∃ f : Nat → Nat, (∀ i, i < n → f i = dH P K i ∨ f i = dO P K i) ∧ (∀ u, cI f u n ≤ P.2.1) ∧ (∀ u, fS c P.2.1 u = none → P.2.1 ≤ cI f u n) ∧ ∀ i, i < n → ∃ k, k < P.2.1 ∧ c (4 * f i + k) = some (nE P (K i)) := by
  obtain ⟨pos, h1, h2, h3⟩ := G
  have hs := hW.2.1
  have hu : ∀ u, cI (fun i => pos i / 4) u n = sq (fun k => cnt (fun i => (pos i / 4 == u) && (pos i % 4 == k)) 0 n) P.2.1 := fun u => fub (p := fun i => pos i / 4 == u) (w := fun i => pos i % 4) (M := P.2.1) n (fun i hi _ => (hV _ _ (h1 i hi).2).2.1)
  refine ⟨fun i => pos i / 4, fun i hi => ?_, fun u => ?_, fun u hf => ?_, fun i hi => ?_⟩
  · obtain ⟨a1, a2, a3, a4⟩ := hV _ _ (h1 i hi).2
    unfold dH dO
    rcases a4 with g | g
    · exact Or.inl g.symm
    · refine Or.inr ?_
      rw [g, oth_oth]
  · rw [hu u]
    refine Nat.le_trans (sq_le (G := fun _ => 1) P.2.1 (fun k _ => cnt_one n (fun i j hi hj e1 e2 => h2 i j hi hj ?_))) (by rw [sq_c, Nat.one_mul]; exact Nat.le_refl _)
    simp only [Bool.and_eq_true, beq_iff_eq] at e1 e2
    omega
  · rw [hu u]
    refine Nat.le_trans (by rw [sq_c, Nat.one_mul]; exact Nat.le_refl _) (sq_le (F := fun _ => 1) P.2.1 (fun k hk => ?_))
    obtain ⟨e, he⟩ := fS_full hf hk
    obtain ⟨i, hi, hpi⟩ := h3 _ e (fun z => by cases z) he
    refine cnt_pos hi ?_
    simp only [Bool.and_eq_true, beq_iff_eq]
    omega
  · obtain ⟨a1, a2, a3, a4⟩ := hV _ _ (h1 i hi).2
    refine ⟨pos i % 4, a2, ?_⟩
    rw [show 4 * (pos i / 4) + pos i % 4 = pos i by omega]
    exact (h1 i hi).2
theorem zGh_y {P : Pm} {c : Ce} {n : Nat} {K : Nat → Nat} (hW : zWp P) (hV : zWc P.1 P.2.1 c) (G : zGh P K n c none) : DIST (dH P K) (dO P K) P.2.1 n := by
  obtain ⟨f, f1, f2, f3, f4⟩ := zGh_f hW hV G
  exact ⟨f, f1, fun u _ => f2 u⟩
theorem dHO {P : Pm} (hW : zWp P) (K : Nat → Nat) (i : Nat) : dH P K i < 2 ^ P.1 ∧ dO P K i < 2 ^ P.1 :=
  ⟨(nE_ok hW (K i)).2.1, oth_lt _ (nE_ok hW (K i)).2.1⟩
theorem zGh_n {P : Pm} {c : Ce} {n : Nat} {K : Nat → Nat} (hW : zWp P) (hV : zWc P.1 P.2.1 c) (G : zGh P K n c none) (h : insS P c (K n) = none) : ¬ DIST (dH P K) (dO P K) P.2.1 (n + 1) := by
  have h6 := p2_6 hW.1.2
  obtain ⟨f, f1, f2, f3, f4⟩ := zGh_f hW hV G
  obtain ⟨b1, b2, b3, b4, b5⟩ := bfs_ok hW hV (dHO hW K n).1 (dHO hW K n).2
  have hb : (bfs P.1 P.2.1 c (dH P K n) (dO P K n)).1 = none := by
    unfold insS at h
    cases hb : (bfs P.1 P.2.1 c (nE P (K n)).2.1 (oth P.1 (nE P (K n)).2.1 (nE P (K n)).1)).1 with
    | none => exact hb
    | some u =>
      rw [hb, og_s] at h
      cases h
  have b3 := b3 hb
  refine DIST_no (f := f) (R := fun u => ((bfs P.1 P.2.1 c (dH P K n) (dO P K n)).2.2.1 u).isSome) (fun i _ => ?_) f1 (fun u _ hu => Nat.le_antisymm (f2 u) (f3 u (b3 u hu).1)) (fun i hi hr => ?_) b4 b5
  · have := dHO hW K i
    omega
  · obtain ⟨k, k1, k2⟩ := f4 i hi
    have h1 := (b3 _ hr).2 k k1
    rw [k2] at h1
    have h1 : ((bfs P.1 P.2.1 c (dH P K n) (dO P K n)).2.2.1 (oth P.1 (f i) (nE P (K i)).1)).isSome = true := h1
    rcases f1 i hi with g | g
    · rw [g] at h1 hr
      exact ⟨hr, h1⟩
    · rw [g] at h1 hr
      have e : oth P.1 (dO P K i) (nE P (K i)).1 = dH P K i := oth_oth _ _ _
      rw [e] at h1
      exact ⟨h1, hr⟩
theorem zc_dloop {N : Nat} (hN : 5000 ≤ N) {P : Pm} {nk : Nat} {K : Nat → Nat} (hW : zWp P) (hk : zWk nk K) : ∀ (m i : Nat) (c : Ce) (φ : M2) (F : Nat), i + m = nk → m < F → zRC φ P c [] nk K → zWc P.1 P.2.1 c → zGh P K i c none → ∃ r φ', L_X2_distribute_22 N F (nI i) φ = some (r, φ') ∧ ((r = nI 1 ∧ DIST (dH P K) (dO P K) P.2.1 nk) ∨ (r = nI 0 ∧ ¬ DIST (dH P K) (dO P K) P.2.1 nk)) := by
  have hn := hk.1
  intro m
  induction m with
  | zero =>
    intro i c φ F hi hF hR hV G
    obtain ⟨F, rfl⟩ : ∃ j, F = j + 1 := ⟨F - 1, by omega⟩
    have e : i = nk := hi
    subst e
    refine ⟨nI 1, φ, ?_, Or.inl ⟨rfl, zGh_y hW hV G⟩⟩
    show B_X2_distribute_22 N _ (nI i) φ = _
    unfold B_X2_distribute_22 G_X4_size
    simp (disch := omega) only [zn_L, zn_M, zn_R, hR.2.2.2.1]
    rw [if_pos (by omega)]
  | succ m ih =>
    intro i c φ F hi hF hR hV G
    obtain ⟨F, rfl⟩ : ∃ j, F = j + 1 := ⟨F - 1, by omega⟩
    obtain ⟨r, w, w1, w2⟩ := zc_insS hN (hk.2 i (by omega)).1 hR hW hV
    have hkey := zc_keyAt hR.2.2.2 hn (i := i) (by omega)
    cases hi2 : insS P c (K i) with
    | none =>
      rw [hi2] at w2
      obtain ⟨rfl, w2⟩ := w2
      refine ⟨nI 0, w, ?_, Or.inr ⟨rfl, fun z => zGh_n hW hV G hi2 (DIST_le (by omega) z)⟩⟩
      show B_X2_distribute_22 N _ (nI i) φ = _
      unfold B_X2_distribute_22 G_X4_size
      simp (disch := omega) only [zn_L, zn_M, zn_R, hR.2.2.2.1, hkey, w1, if_true]
      rw [if_neg (by omega)]
    | some y =>
      rw [hi2] at w2
      obtain ⟨rfl, w2⟩ := w2
      obtain ⟨i1, i2⟩ := insS_ok hW hV hi2
      obtain ⟨r, φ', g1, g2⟩ := ih (i + 1) y.2 w F (by omega) (by omega) w2 i1 (zGh_ins hW hV G hi2)
      refine ⟨r, φ', ?_, g2⟩
      rw [← g1]
      show B_X2_distribute_22 N _ (nI i) φ = _
      unfold B_X2_distribute_22 G_X4_size
      simp (disch := omega) only [zn_L, zn_M, zn_R, hR.2.2.2.1, hkey, w1, if_false]
      rw [if_neg (by omega)]
theorem zc_dist {N : Nat} (hN : 5000 ≤ N) {φ : M2} {P : Pm} {c : Ce} {q : List En} {nk : Nat} {K : Nat → Nat} {b s e : Nat} (hW : zWp (b, s, P.2.2.1, e, P.2.2.2.2)) (hk : zWk nk K) (hR : zRC φ P c q nk K) : ∃ r φ', G_X2_distribute N φ (nI b) (nI s) (nI e) = some (r, φ') ∧ ((r = nI 1 ∧ DIST (dH (b, s, P.2.2.1, e, P.2.2.2.2) K) (dO (b, s, P.2.2.1, e, P.2.2.2.2) K) s nk) ∨ (r = nI 0 ∧ ¬ DIST (dH (b, s, P.2.2.1, e, P.2.2.2.2) K) (dO (b, s, P.2.2.1, e, P.2.2.2.2) K) s nk)) := by
  have hn := hk.1
  obtain ⟨hP, hC, hS, hK⟩ := hR
  have hP1 : zPm (upd2 (upd2 (upd2 φ 0 0 (nI b)) 0 1 (nI s)) 0 3 (nI e)) (b, s, P.2.2.1, e, P.2.2.2.2) := by
    unfold zPm at *
    simp [upd2_e, hP]
  have hK1 : zKy (upd2 (upd2 (upd2 φ 0 0 (nI b)) 0 1 (nI s)) 0 3 (nI e)) nk K := zKy_c hK (by rw [upd2_o (by decide), upd2_o (by decide), upd2_o (by decide)]) (by rw [upd2_o (by decide), upd2_o (by decide), upd2_o (by decide)])
  obtain ⟨w, g1, g2⟩ := zc_emptyAll hN hP1 hK1
  obtain ⟨r, φ', d1, d2⟩ := zc_dloop hN hW hk nk 0 nC w N (by omega) (by omega) g2 (nC_ok _ _) zGh_0
  refine ⟨r, φ', ?_, d2⟩
  unfold G_X2_distribute
  simp only [zn_L, zn_R, g1, d1]
