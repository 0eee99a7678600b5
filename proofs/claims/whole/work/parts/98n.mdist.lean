/-! the pure layer: distributions; the model -/
def fr6 (ψ ψ' : M2) : Prop := ∀ c', c' < 10 ∨ 15 < c' → ψ' c' = ψ c'
theorem fr6_r (ψ : M2) : fr6 ψ ψ := fun _ _ => rfl
theorem fr6_t {a b c : M2} (h : fr6 a b) (g : fr6 b c) : fr6 a c := fun c' z => (g c' z).trans (h c' z)
theorem fr6_u {ψ ψ' : M2} (h : fr6 ψ ψ') {c i : Nat} (hc : 10 ≤ c ∧ c ≤ 15) (v : Int32) : fr6 ψ (upd2 ψ' c i v) := fun c' z => by
  rw [upd2_o (by omega)]
  exact h c' z
theorem cI_s (f : Nat → Nat) (u n : Nat) : cI f u (n + 1) = cI f u n + (if f n = u then 1 else 0) := by
  unfold cI
  rw [cnt_s]
  by_cases e : f n = u
  · simp [e]
  · simp [e]
theorem cI_c {f g : Nat → Nat} {u : Nat} (n : Nat) (h : ∀ i, i < n → f i = g i) : cI f u n = cI g u n := cnt_c n 0 (fun i _ hi => by rw [h i (by omega)])
theorem cI_u {L : Nat → Nat} {j u v : Nat} : ∀ n, j < n → cI (fun i => if i = j then u else L i) v n + (if L j = v then 1 else 0) = cI L v n + (if u = v then 1 else 0) := by
  intro n
  induction n with
  | zero =>
    intro h
    omega
  | succ n ih =>
    intro h
    rw [cI_s, cI_s]
    by_cases g : j = n
    · subst g
      have e : cI (fun i => if i = j then u else L i) v j = cI L v j := cI_c j (fun i hi => if_neg (by omega))
      rw [e, if_pos rfl]
      omega
    · have := ih (by omega)
      rw [if_neg (show ¬ n = j by omega)]
      omega
def ot (h o L : Nat → Nat) (j : Nat) : Nat := h j ^^^ o j ^^^ L j
theorem ot_h {h o L : Nat → Nat} {j : Nat} (e : L j = h j) : ot h o L j = o j := by
  unfold ot
  rw [e, Nat.xor_comm, ← Nat.xor_assoc, Nat.xor_self, Nat.zero_xor]
theorem ot_o {h o L : Nat → Nat} {j : Nat} (e : L j = o j) : ot h o L j = h j := by
  unfold ot
  rw [e, Nat.xor_assoc, Nat.xor_self, Nat.xor_zero]
/-- what holds of the search -/
def zQ (h o L : Nat → Nat) (n : Nat) (T : Bs) : Prop :=
  T.1.length = cnt (fun u => (T.2.1 u).isSome) 0 64 ∧ (∀ u, u ∈ T.1 → (T.2.1 u).isSome = true) ∧ (∀ u, (T.2.1 u).isSome = true → u < 64) ∧ (∀ (j u : Nat), T.1[j]? = some u → T.2.2 u ≤ j) ∧ (∀ u, (T.2.1 u).isSome = true → u ∈ T.1)
  ∧ (∀ u, T.2.1 u = some none → u = h n ∨ u = o n) ∧ ∀ u j, T.2.1 u = some (some j) → (T.2.1 (L j)).isSome = true ∧ T.2.2 u = T.2.2 (L j) + 1 ∧ j < n ∧ u = ot h o L j
theorem zQ_nt {h o L : Nat → Nat} {n : Nat} {T : Bs} {u d : Nat} {x : Option Nat} (hT : zQ h o L n T) (hu : u < 64) (hd : T.2.1 u = none → d ≤ T.1.length) (h0 : x = none → u = h n ∨ u = o n) (h1 : ∀ p, x = some p → (T.2.1 (L p)).isSome = true ∧ d = T.2.2 (L p) + 1 ∧ p < n ∧ u = ot h o L p) : zQ h o L n (nt T u x d) := by
  by_cases g : (T.2.1 u).isSome = true
  · unfold nt
    rw [if_pos g]
    exact hT
  · have gn : T.2.1 u = none := by
      cases hz : T.2.1 u with
      | none => rfl
      | some z =>
        rw [hz] at g
        exact absurd rfl g
    obtain ⟨t1, t2, t3, t4, t5, t6, t7⟩ := hT
    unfold nt
    rw [if_neg g]
    refine ⟨?_, fun v hv => ?_, fun v hv => ?_, fun j v hj => ?_, fun v hv => ?_, fun v hv => ?_, fun v p hv => ?_⟩
    · show (T.1 ++ [u]).length = cnt (fun v => (if v = u then some x else T.2.1 v).isSome) 0 64
      rw [List.length_append, t1]
      exact (cnt_up (p := fun v => (T.2.1 v).isSome) (u := u) (Bool.eq_false_iff.mpr g) (by simp) (fun v hv => by simp [hv]) 64 0 (Nat.zero_le _) (by omega)).symm
    · show (if v = u then some x else T.2.1 v).isSome = true
      by_cases e : v = u
      · rw [if_pos e]
        rfl
      · rw [if_neg e]
        rcases List.mem_append.mp hv with k | k
        · exact t2 v k
        · exact absurd (List.mem_singleton.mp k) e
    · have hv : (if v = u then some x else T.2.1 v).isSome = true := hv
      by_cases e : v = u
      · rw [e]
        exact hu
      · rw [if_neg e] at hv
        exact t3 v hv
    · show (if v = u then d else T.2.2 v) ≤ j
      have hj : (T.1 ++ [u])[j]? = some v := hj
      rcases Nat.lt_or_ge j T.1.length with k | k
      · rw [List.getElem?_append_left k] at hj
        have hm := t2 v (List.mem_of_getElem? hj)
        rw [if_neg (fun z => by rw [z, gn] at hm; cases hm)]
        exact t4 j v hj
      · have hl := (List.getElem?_eq_some_iff.mp hj).1
        rw [List.length_append] at hl
        have e : j = T.1.length := by
          simp at hl
          omega
        subst e
        have e2 : (T.1 ++ [u])[T.1.length]? = some u := by simp
        rw [e2] at hj
        cases hj
        rw [if_pos rfl]
        exact hd gn
    · have hv : (if v = u then some x else T.2.1 v).isSome = true := hv
      show v ∈ T.1 ++ [u]
      by_cases e : v = u
      · exact List.mem_append.mpr (Or.inr (List.mem_singleton.mpr e))
      · rw [if_neg e] at hv
        exact List.mem_append.mpr (Or.inl (t5 v hv))
    · have hv : (if v = u then some x else T.2.1 v) = some none := hv
      by_cases e : v = u
      · rw [if_pos e] at hv
        rw [e]
        exact h0 (Option.some.inj hv)
      · rw [if_neg e] at hv
        exact t6 v hv
    · have hv : (if v = u then some x else T.2.1 v) = some (some p) := hv
      show (if L p = u then some x else T.2.1 (L p)).isSome = true ∧ (if v = u then d else T.2.2 v) = (if L p = u then d else T.2.2 (L p)) + 1 ∧ _
      by_cases e : v = u
      · rw [if_pos e] at hv ⊢
        obtain ⟨k1, k2, k3, k4⟩ := h1 p (Option.some.inj hv)
        have hne : L p ≠ u := fun z => by rw [z, gn] at k1; cases k1
        rw [if_neg hne, if_neg hne, e]
        exact ⟨k1, k2, k3, k4⟩
      · rw [if_neg e] at hv ⊢
        obtain ⟨k1, k2, k3, k4⟩ := t7 v p hv
        have hne : L p ≠ u := fun z => by rw [z, gn] at k1; cases k1
        rw [if_neg hne, if_neg hne]
        exact ⟨k1, k2, k3, k4⟩
theorem b0_Q {h o L : Nat → Nat} {n : Nat} (h1 : h n < 64) (h2 : o n < 64) : zQ h o L n (b0 (h n) (o n)) := by
  have e0 : zQ h o L n ([], (fun _ => none), fun _ => 0) := by
    refine ⟨?_, fun u hu => (by cases hu), fun u hu => (by cases hu), fun j u hj => (by simp at hj), fun u hu => (by cases hu), fun u hu => (by cases hu), fun u p hu => (by cases hu)⟩
    exact (cnt_0 64 0 (fun i _ _ => rfl)).symm
  exact zQ_nt (zQ_nt e0 h1 (fun _ => Nat.zero_le _) (fun _ => Or.inl rfl) (fun p hp => (by cases hp))) h2 (fun _ => Nat.zero_le _) (fun _ => Or.inr rfl) (fun p hp => by cases hp)
theorem b0_e {h o : Nat} (hne : o ≠ h) : b0 h o = ([h, o], (fun v => if v = o then some none else if v = h then some none else none), fun v => if v = o then 0 else if v = h then 0 else 0) := by
  unfold b0
  have e1 : nt ([], (fun _ => none), fun _ => 0) h none 0 = ([h], (fun v => if v = h then some none else none), fun v => if v = h then 0 else 0) := rfl
  rw [e1]
  unfold nt
  rw [if_neg]
  · rfl
  · dsimp only
    rw [if_neg hne]
    decide
def zRb (ψ : M2) (n : Nat) (T : Bs) : Prop := (∀ (j u : Nat), T.1[j]? = some u → ψ 14 j = nI u) ∧ ∀ u, u < 64 → ψ 15 u = og (fun o => og nI (nI n) o) mI (T.2.1 u)
theorem zRb_nt {ψ : M2} {n x j d : Nat} {T : Bs} (hR : zRb ψ n T) (hx : T.2.1 x = none) : zRb (upd2 (upd2 ψ 15 x (nI j)) 14 T.1.length (nI x)) n (nt T x (some j) d) := by
  obtain ⟨r2, r3⟩ := hR
  have ent : nt T x (some j) d = (T.1 ++ [x], (fun v => if v = x then some (some j) else T.2.1 v), fun v => if v = x then d else T.2.2 v) := by
    unfold nt
    rw [hx, if_neg (by decide)]
  rw [ent]
  refine ⟨fun m v hj => ?_, fun v hv => ?_⟩
  · have hj : (T.1 ++ [x])[m]? = some v := hj
    rw [upd2_e]
    rcases Nat.lt_or_ge m T.1.length with k | k
    · rw [List.getElem?_append_left k] at hj
      rw [if_neg (fun z => by omega), upd2_o (by decide)]
      exact r2 m v hj
    · have hl := (List.getElem?_eq_some_iff.mp hj).1
      rw [List.length_append] at hl
      have e : m = T.1.length := by
        simp at hl
        omega
      subst e
      have e2 : (T.1 ++ [x])[T.1.length]? = some x := by simp
      rw [e2] at hj
      cases hj
      rw [if_pos ⟨rfl, rfl⟩]
  · rw [upd2_o (by decide), upd2_e]
    show _ = og (fun o => og nI (nI n) o) mI (if v = x then some (some j) else T.2.1 v)
    by_cases e : v = x
    · rw [if_pos ⟨rfl, e⟩, if_pos e]
      rfl
    · rw [if_neg (fun z => e z.2), if_neg e]
      exact r3 v hv
/-- a search that goes on -/
def exT (T T' : Bs) : Prop := T.1.length ≤ T'.1.length ∧ (∀ m, m < T.1.length → T'.1[m]? = T.1[m]?) ∧ ∀ v, (T.2.1 v).isSome = true → T'.2.1 v = T.2.1 v ∧ T'.2.2 v = T.2.2 v
theorem exT_r (T : Bs) : exT T T := ⟨Nat.le_refl _, fun _ _ => rfl, fun _ _ => ⟨rfl, rfl⟩⟩
theorem exT_nt {T T' : Bs} (h : exT T T') (u : Nat) (x : Option Nat) (d : Nat) : exT T (nt T' u x d) := by
  obtain ⟨a1, a2, a3⟩ := h
  obtain ⟨b1, b2⟩ := nt_pre (T := T') (u := u) (x := x) (d := d)
  refine ⟨Nat.le_trans a1 b1, fun m hm => (b2 m (by omega)).trans (a2 m hm), fun v hv => ?_⟩
  obtain ⟨c1, c2⟩ := a3 v hv
  obtain ⟨d1, d2⟩ := nt_keep (T := T') (u := u) (x := x) (d := d) (v := v) (by rw [c1]; exact hv)
  exact ⟨d1.trans c1, d2.trans c2⟩
/-- the assignment so far -/
def zLs (ψ : M2) (h o L : Nat → Nat) (n : Nat) : Prop := (∀ j, j < n → ψ 12 j = nI (L j)) ∧ (∀ j, j < n → L j = h j ∨ L j = o j) ∧ ∀ j, j < n → ψ 10 j = nI (h j) ∧ ψ 11 j = nI (o j)
theorem m_scan {N : Nat} (hN : 5000 ≤ N) {ψ : M2} {h o L : Nat → Nat} {n a u : Nat} {T : Bs} (v2 : Int32) (hn : n < 120) (h64 : ∀ i, h i < 64 ∧ o i < 64) (hL : zLs ψ h o L n) (hT : zQ h o L n T) (hR : zRb ψ n T) (ha : T.1[a]? = some u) : ∃ T' ψ', L_X9_distributes_113 N (nI n) v2 (nI a) N (nI T.1.length) (nI 0) ψ = some (nI T'.1.length, ψ') ∧ zQ h o L n T' ∧ zRb ψ' n T' ∧ exT T T' ∧ (∀ j, j < n → L j = u → (T'.2.1 (ot h o L j)).isSome = true) ∧ ∀ c', c' ≠ 14 → c' ≠ 15 → ψ' c' = ψ c' := by
  have hal := (List.getElem?_eq_some_iff.mp ha).1
  have hl64 : T.1.length ≤ 64 := by rw [hT.1]; exact cnt_le _ _
  have hur := hT.2.1 u (List.mem_of_getElem? ha)
  have hu := hT.2.2.1 u hur
  have hdu := hT.2.2.2.1 a u ha
  have hloop := zn_for (fun k i (s : Int32 × M2) => L_X9_distributes_113 N (nI n) v2 (nI a) k s.1 (nI i) s.2) n (fun i s => ∃ T', s.1 = nI T'.1.length ∧ zQ h o L n T' ∧ zRb s.2 n T' ∧ exT T T' ∧ (∀ j, j < i → L j = u → (T'.2.1 (ot h o L j)).isSome = true) ∧ ∀ c', c' ≠ 14 → c' ≠ 15 → s.2 c' = ψ c') (fun s => ∃ T', s.1 = nI T'.1.length ∧ zQ h o L n T' ∧ zRb s.2 n T' ∧ exT T T' ∧ (∀ j, j < n → L j = u → (T'.2.1 (ot h o L j)).isSome = true) ∧ ∀ c', c' ≠ 14 → c' ≠ 15 → s.2 c' = ψ c') (fun i s hi hI => ?_) (fun s hI => ?_) N 0 (nI T.1.length, ψ) (by omega) ⟨T, rfl, hT, hR, exT_r T, fun j hj => (by omega), fun _ _ _ => rfl⟩ (by omega)
  · obtain ⟨⟨r, w⟩, g1, T', g2, g3, g4, g5, g6, g7⟩ := hloop
    have g2 : r = nI T'.1.length := g2
    subst g2
    exact ⟨T', w, g1, g3, g4, g5, g6, g7⟩
  · obtain ⟨v3, w⟩ := s
    obtain ⟨T', g2, g3, g4, g5, g6, g7⟩ := hI
    have g2 : v3 = nI T'.1.length := g2
    subst g2
    have g4 : zRb w n T' := g4
    have g7 : ∀ c', c' ≠ 14 → c' ≠ 15 → w c' = ψ c' := g7
    have hl2 : T'.1.length ≤ 64 := by rw [g3.1]; exact cnt_le _ _
    have e10 : w 10 i = nI (h i) := by rw [g7 10 (by decide) (by decide)]; exact (hL.2.2 i hi).1
    have e11 : w 11 i = nI (o i) := by rw [g7 11 (by decide) (by decide)]; exact (hL.2.2 i hi).2
    have e12 : w 12 i = nI (L i) := by rw [g7 12 (by decide) (by decide)]; exact hL.1 i hi
    have e14 : w 14 a = nI u := g4.1 a u (by rw [g5.2.1 a hal]; exact ha)
    have hLi := hL.2.1 i hi
    have hhi := h64 i
    have hx64 : ot h o L i < 64 := by
      rcases hLi with e | e
      · rw [ot_h e]
        exact hhi.2
      · rw [ot_o e]
        exact hhi.1
    have hLi64 : L i < 64 := by
      rcases hLi with e | e <;> omega
    have hbody : ∀ k, L_X9_distributes_113 N (nI n) v2 (nI a) (k + 1) (nI T'.1.length) (nI i) w = if L i = u then (if w 15 (ot h o L i) = mI then L_X9_distributes_113 N (nI n) v2 (nI a) k (nI (T'.1.length + 1)) (nI (i + 1)) (upd2 (upd2 w 15 (ot h o L i) (nI i)) 14 T'.1.length (nI (ot h o L i))) else L_X9_distributes_113 N (nI n) v2 (nI a) k (nI T'.1.length) (nI (i + 1)) w) else L_X9_distributes_113 N (nI n) v2 (nI a) k (nI T'.1.length) (nI (i + 1)) w := by
      intro k
      show B_X9_distributes_113 N (nI n) v2 (nI a) _ (nI T'.1.length) (nI i) w = _
      have hx : h i ^^^ o i ^^^ L i = ot h o L i := rfl
      unfold B_X9_distributes_113
      simp (disch := omega) only [zn_L, zn_M, zn_R, e10, e11, e12, e14, hx]
      rw [if_neg (by omega)]
      by_cases g : L i = u
      · rw [if_pos g, if_pos g]
        by_cases g8 : w 15 (ot h o L i) = mI
        · rw [if_pos g8, if_pos g8]
          have hnone : T'.2.1 (ot h o L i) = none := by
            have e := g4.2 _ hx64
            rw [g8] at e
            cases hz : T'.2.1 (ot h o L i) with
            | none => rfl
            | some y =>
              rw [hz] at e
              cases y with
              | none => exact absurd e (fun z => (zn_mi (a := n) (by omega)).2.1.mp z)
              | some p =>
                have hp := (g3.2.2.2.2.2.2 _ _ hz).2.2.1
                exact absurd e (fun z => (zn_mi (a := p) (by omega)).2.1.mp z)
          have hl3 : T'.1.length < 64 := by
            rw [g3.1]
            exact cnt_lt (u := ot h o L i) (by rw [hnone]; rfl) 64 0 (Nat.zero_le _) (by omega)
          simp (disch := omega) only [zn_R]
        · rw [if_neg g8, if_neg g8]
      · rw [if_neg g, if_neg g]
    by_cases g : L i = u
    · by_cases g8 : T'.2.1 (ot h o L i) = none
      · have e15 : w 15 (ot h o L i) = mI := by
          rw [g4.2 _ hx64, g8]
          rfl
        have hk := g5.2.2 u hur
        have hln : (nt T' (ot h o L i) (some i) (T'.2.2 u + 1)).1.length = T'.1.length + 1 := by
          unfold nt
          rw [g8, if_neg (by decide)]
          show (T'.1 ++ [ot h o L i]).length = _
          rw [List.length_append]
          rfl
        refine ⟨(nI (T'.1.length + 1), upd2 (upd2 w 15 (ot h o L i) (nI i)) 14 T'.1.length (nI (ot h o L i))), ⟨nt T' (ot h o L i) (some i) (T'.2.2 u + 1), by rw [hln], ?_, zRb_nt g4 g8, exT_nt g5 _ _ _, fun j hj hju => ?_, fun c' h1 h2 => ?_⟩, fun k => ?_⟩
        · have hle := g5.1
          refine zQ_nt g3 hx64 (fun _ => by omega) (fun z => (by cases z)) (fun p hp => ?_)
          have e := Option.some.inj hp
          subst e
          rw [g]
          exact ⟨by rw [hk.1]; exact hur, rfl, hi, rfl⟩
        · by_cases e : j = i
          · subst e
            exact nt_re
          · exact nt_mono (g6 j (by omega) hju)
        · show upd2 (upd2 w 15 (ot h o L i) (nI i)) 14 T'.1.length (nI (ot h o L i)) c' = _
          rw [upd2_o h1, upd2_o h2]
          exact g7 c' h1 h2
        · show L_X9_distributes_113 N (nI n) v2 (nI a) (k + 1) (nI T'.1.length) (nI i) w = _
          rw [hbody k, if_pos g, if_pos e15]
      · refine ⟨(nI T'.1.length, w), ⟨T', rfl, g3, g4, g5, fun j hj hju => ?_, g7⟩, fun k => ?_⟩
        · by_cases e : j = i
          · subst e
            cases hz : T'.2.1 (ot h o L j) with
            | none => exact absurd hz g8
            | some y => rfl
          · exact g6 j (by omega) hju
        · show L_X9_distributes_113 N (nI n) v2 (nI a) (k + 1) (nI T'.1.length) (nI i) w = _
          have e15 : ¬ w 15 (ot h o L i) = mI := by
            rw [g4.2 _ hx64]
            cases hz : T'.2.1 (ot h o L i) with
            | none => exact absurd hz g8
            | some y =>
              cases y with
              | none => exact fun z => (zn_mi (a := n) (by omega)).1.mp z
              | some p =>
                have hp := (g3.2.2.2.2.2.2 _ _ hz).2.2.1
                exact fun z => (zn_mi (a := p) (by omega)).1.mp z
          rw [hbody k, if_pos g, if_neg e15]
    · refine ⟨(nI T'.1.length, w), ⟨T', rfl, g3, g4, g5, fun j hj hju => ?_, g7⟩, fun k => ?_⟩
      · by_cases e : j = i
        · subst e
          exact absurd hju g
        · exact g6 j (by omega) hju
      · show L_X9_distributes_113 N (nI n) v2 (nI a) (k + 1) (nI T'.1.length) (nI i) w = _
        rw [hbody k, if_neg g]
  · obtain ⟨v3, w⟩ := s
    refine ⟨(v3, w), hI, fun k => ?_⟩
    show B_X9_distributes_113 N (nI n) v2 (nI a) _ v3 (nI n) w = _
    unfold B_X9_distributes_113
    simp (disch := omega) only [zn_L, zn_M, zn_R]
    rw [if_pos (by omega)]
/-- the walk back -/
theorem m_walk {N : Nat} {h o L : Nat → Nat} {n : Nat} {T : Bs} (hn : n < 120) (h64 : ∀ i, h i < 64 ∧ o i < 64) (hL0 : ∀ j, j < n → L j = h j ∨ L j = o j) (hT : zQ h o L n T) : ∀ (D u : Nat) (L' : Nat → Nat) (ψ : M2) (F : Nat), T.2.2 u = D → D < F → (T.2.1 u).isSome = true → (∀ v j, T.2.1 v = some (some j) → T.2.2 v ≤ D → L' j = L j) → zLs ψ h o L' n → (∀ v, v < 64 → ψ 15 v = og (fun o => og nI (nI n) o) mI (T.2.1 v)) → ∃ z L2 ψ', L_X9_shifts_12 N (nI n) F (nI u) ψ = some (nI z, ψ') ∧ (z = h n ∨ z = o n) ∧ zLs ψ' h o L2 n ∧ (∀ v, cI L2 v n + (if z = v then 1 else 0) = cI L' v n + (if u = v then 1 else 0)) ∧ ∀ c', c' ≠ 12 → ψ' c' = ψ c' := by
  intro D
  induction D with
  | zero =>
    intro u L' ψ F hD hF hr hA hL hb
    obtain ⟨F, rfl⟩ : ∃ j, F = j + 1 := ⟨F - 1, by omega⟩
    have hu := hT.2.2.1 u hr
    have h15 := hb u hu
    cases hz : T.2.1 u with
    | none =>
      rw [hz] at hr
      cases hr
    | some y =>
      cases y with
      | some j =>
        have := (hT.2.2.2.2.2.2 u j hz).2.1
        omega
      | none =>
        rw [hz] at h15
        have h15 : ψ 15 u = nI n := h15
        refine ⟨u, L', ψ, ?_, hT.2.2.2.2.2.1 u hz, hL, fun v => rfl, fun _ _ => rfl⟩
        show B_X9_shifts_12 N (nI n) _ (nI u) ψ = _
        unfold B_X9_shifts_12
        simp (disch := omega) only [zn_R, h15, if_true]
  | succ D ih =>
    intro u L' ψ F hD hF hr hA hL hb
    obtain ⟨F, rfl⟩ : ∃ j, F = j + 1 := ⟨F - 1, by omega⟩
    have hu := hT.2.2.1 u hr
    have h15 := hb u hu
    cases hz : T.2.1 u with
    | none =>
      rw [hz] at hr
      cases hr
    | some y =>
      cases y with
      | none =>
        rw [hz] at h15
        have h15 : ψ 15 u = nI n := h15
        refine ⟨u, L', ψ, ?_, hT.2.2.2.2.2.1 u hz, hL, fun v => rfl, fun _ _ => rfl⟩
        show B_X9_shifts_12 N (nI n) _ (nI u) ψ = _
        unfold B_X9_shifts_12
        simp (disch := omega) only [zn_R, h15, if_true]
      | some j =>
        obtain ⟨k1, k2, k3, k4⟩ := hT.2.2.2.2.2.2 u j hz
        rw [hz] at h15
        have h15 : ψ 15 u = nI j := h15
        have hLj : L' j = L j := hA u j hz (by omega)
        have h12 := hL.1 j k3
        rw [hLj] at h12
        have huj : u = h j ∨ u = o j := by
          rcases hL0 j k3 with e | e
          · exact Or.inr (k4.trans (ot_h e))
          · exact Or.inl (k4.trans (ot_o e))
        obtain ⟨z, L2, ψ', g1, g2, g3, g4, g5⟩ := ih (L j) (fun i => if i = j then u else L' i) (upd2 ψ 12 j (nI u)) F (by omega) (by omega) k1 (fun v i hv hd => by
            have hne : i ≠ j := fun e => by
              subst e
              have := (hT.2.2.2.2.2.2 v i hv).2.2.2
              rw [← k4] at this
              subst this
              omega
            rw [if_neg hne]
            exact hA v i hv (by omega)) ⟨fun i hi => by
              rw [upd2_e]
              show _ = nI (if i = j then u else L' i)
              by_cases e : i = j
              · rw [if_pos ⟨rfl, e⟩, if_pos e]
              · rw [if_neg (fun z => e z.2), if_neg e]
                exact hL.1 i hi, fun i hi => by
              dsimp only
              by_cases e : i = j
              · rw [if_pos e, e]
                exact huj
              · rw [if_neg e]
                exact hL.2.1 i hi, fun i hi => by
              rw [upd2_o (by decide), upd2_o (by decide)]
              exact hL.2.2 i hi⟩ (fun v hv => by
            rw [upd2_o (by decide)]
            exact hb v hv)
        refine ⟨z, L2, ψ', ?_, g2, g3, fun v => ?_, fun c' hc => by rw [g5 c' hc, upd2_o hc]⟩
        · rw [← g1]
          show B_X9_shifts_12 N (nI n) _ (nI u) ψ = _
          unfold B_X9_shifts_12
          simp (disch := omega) only [zn_R, h15, h12]
          rw [if_neg (by omega)]
        · have e := cI_u (L := L') (j := j) (u := u) (v := v) n k3
          rw [hLj] at e
          have := g4 v
          omega
