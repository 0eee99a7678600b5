/-! the pure layer: the model, first part -/
def f0 : Option En → Int32 := og (fun e => nI e.1) mI
def f1 : Option En → Int32 := og (fun e => nI e.2.2.1) mI
def f2 : Option En → Int32 := og (fun e => nI e.2.2.2) mI
def f3 (u : Nat) : Option En → Int32 := og (fun e => if e.2.1 = u then nI 0 else nI 1) mI
def zMp (g : Nat → Int32) (P : Pm) : Prop := g 0 = nI P.1 ∧ g 1 = nI P.2.1 ∧ g 2 = nI P.2.2.1 ∧ g 3 = nI P.2.2.2.1 ∧ g 4 = nI P.2.2.2.2
def zMc (g : Nat → Int32) (c : Ce) : Prop := ∀ p, p < 256 → g (18 + 4 * p) = f0 (c p) ∧ g (18 + 4 * p + 1) = f1 (c p) ∧ g (18 + 4 * p + 2) = f2 (c p) ∧ g (18 + 4 * p + 3) = f3 (p / 4) (c p)
def zMq (g : Nat → Int32) (q : List En) : Prop := g 5 = nI q.length ∧ ∀ (i : Nat) (e : En), q[i]? = some e → g (6 + 4 * i) = nI e.1 ∧ g (6 + 4 * i + 1) = nI e.2.2.1 ∧ g (6 + 4 * i + 2) = nI e.2.2.2 ∧ g (6 + 4 * i + 3) = nI e.2.1
def zMk (g : Nat → Int32) (nk : Nat) (K : Nat → Nat) : Prop := g 1042 = nI nk ∧ ∀ i, i < nk → g (1043 + i) = nI (K i)
def zRM (g : Nat → Int32) (P : Pm) (c : Ce) (q : List En) (nk : Nat) (K : Nat → Nat) : Prop := zMp g P ∧ zMc g c ∧ zMq g q ∧ zMk g nk K
def zkp (c i : Nat) : Bool := c == 2 || c == 3 || c == 16 || c == 17 || (c == 0 && (i == 2 || i == 4 || i == 5 || i == 24 || i == 25))
def zFr (ψ ψ' : M2) : Prop := ∀ c i, zkp c i = true → ψ' c i = ψ c i
theorem zFr_r (ψ : M2) : zFr ψ ψ := fun _ _ _ => rfl
theorem zFr_t {ψ ψ' ψ'' : M2} (h : zFr ψ ψ') (g : zFr ψ' ψ'') : zFr ψ ψ'' := fun c i k => (g c i k).trans (h c i k)
theorem zFr_u {ψ ψ' : M2} (h : zFr ψ ψ') {c i : Nat} (hk : zkp c i = false) (v : Int32) : zFr ψ (upd2 ψ' c i v) := by
  intro c' i' hk'
  rw [upd2_e, if_neg (fun z => by rw [z.1, z.2, hk] at hk'; cases hk')]
  exact h c' i' hk'
/-- the page outside the slots -/
def zLo (g g' : Nat → Int32) : Prop := ∀ i, i < 18 ∨ 1042 ≤ i → g' i = g i
theorem zLo_r (g : Nat → Int32) : zLo g g := fun _ _ => rfl
theorem zLo_t {g g' g'' : Nat → Int32} (h : zLo g g') (k : zLo g' g'') : zLo g g'' := fun i hi => (k i hi).trans (h i hi)
theorem zMp_c {g g' : Nat → Int32} {P : Pm} (h : zMp g P) (k : zLo g g') : zMp g' P := by
  unfold zMp at *
  rw [k 0 (by omega), k 1 (by omega), k 2 (by omega), k 3 (by omega), k 4 (by omega)]
  exact h
theorem zMq_c {g g' : Nat → Int32} {q : List En} (h : zMq g q) (h3 : q.length ≤ 3) (k : zLo g g') : zMq g' q := by
  refine ⟨by rw [k 5 (by omega)]; exact h.1, fun i e he => ?_⟩
  have hi := (List.getElem?_eq_some_iff.mp he).1
  rw [k _ (by omega), k _ (by omega), k _ (by omega), k _ (by omega)]
  exact h.2 i e he
theorem zMk_c {g g' : Nat → Int32} {nk : Nat} {K : Nat → Nat} (h : zMk g nk K) (k : zLo g g') : zMk g' nk K := by
  refine ⟨by rw [k 1042 (by omega)]; exact h.1, fun i hi => ?_⟩
  rw [k _ (by omega)]
  exact h.2 i hi
theorem zm_tag {ψ : M2} {P : Pm} (hP : zMp (ψ 1) P) (hW : zWp P) {x : Nat} (hx : x < 1000) : G_X9_tagOf ψ (nI x) = some (nI (tg x P.2.2.2.1)) := by
  have hc := cd_lt x P.2.2.2.1
  unfold G_X9_tagOf tg
  simp (disch := omega) only [zn_L, zn_M, zn_R, hP.2.2.2.1, zn_cd9 hx hW.2.2.2.1]
theorem zm_body {ψ : M2} {P : Pm} (hP : zMp (ψ 1) P) (hW : zWp P) {x : Nat} (hx : x < 1000) : G_X9_bodyOf ψ (nI x) = some (nI (cd x P.2.2.2.1 % 16384)) := by
  have hc := cd_lt x P.2.2.2.1
  unfold G_X9_bodyOf
  simp (disch := omega) only [zn_L, zn_M, zn_R, hP.2.2.2.1, zn_cd9 hx hW.2.2.2.1]
theorem zm_buckets {ψ : M2} {P : Pm} (hP : zMp (ψ 1) P) (hW : zWp P) : G_X9_buckets ψ = some (nI (2 ^ P.1)) := by
  have hb := hW.1
  unfold G_X9_buckets
  simp (disch := omega) only [zn_L, zn_M, zn_R, hP.1]
  have h6 := p2_6 hb.2
  simp (disch := omega) only [zn_R]
  rw [Nat.one_mul]
theorem zm_home {ψ : M2} {P : Pm} (hP : zMp (ψ 1) P) (hW : zWp P) {x : Nat} (hx : x < 1000) : G_X9_homeOf ψ (nI x) = some (nI (hm P.1 x P.2.2.2.1)) := by
  have hc := cd_lt x P.2.2.2.1
  have h6 := p2_6 hW.1.2
  have h2 := Nat.two_pow_pos P.1
  unfold G_X9_homeOf hm
  simp (disch := omega) only [zn_L, zn_M, zn_R, zm_body hP hW hx, zm_buckets hP hW]
theorem zm_other {ψ : M2} {P : Pm} (hP : zMp (ψ 1) P) (hW : zWp P) {x : Nat} (hx : x < 1000) : G_X9_otherOf ψ (nI x) = some (nI (oth P.1 (hm P.1 x P.2.2.2.1) (tg x P.2.2.2.1))) := by
  unfold G_X9_otherOf oth
  simp (disch := omega) only [zn_L, zn_M, zn_R, zm_home hP hW hx, zm_tag hP hW hx, hP.1, zm_step (tg_lt x P.2.2.2.1) hW.1.2]
theorem zm_print {ψ : M2} {P : Pm} (hP : zMp (ψ 1) P) (hW : zWp P) {x n : Nat} (hx : x < 1000) (hn : n ≤ 8) : G_X9_printOf ψ (nI x) (nI n) = some (nI (pr P.1 n x P.2.2.2.1)) := by
  have hc := cd_lt x P.2.2.2.1
  have hb := hW.1
  have h6 := p2_8 hn
  have h2 := Nat.two_pow_pos n
  have hd : cd x P.2.2.2.1 % 16384 / 2 ^ P.1 < 2 ^ 31 := Nat.lt_of_le_of_lt (Nat.div_le_self _ _) (by omega)
  unfold G_X9_printOf pr
  simp (disch := omega) only [zn_L, zn_M, zn_R, zm_body hP hW hx, hP.1, Nat.one_mul]
theorem zm_at (u k : Nat) : G_X9_at (nI u) (nI k) = nI (18 + 4 * (4 * u + k)) := by
  unfold G_X9_at
  simp (disch := omega) only [zn_L, zn_M, zn_R]
theorem f0_m {b s : Nat} {c : Ce} {p : Nat} (h : zWc b s c) : (f0 (c p) = mI) ↔ ((c p).isNone = true) := by
  cases hc : c p with
  | none => exact ⟨fun _ => rfl, fun _ => rfl⟩
  | some e =>
    have g := (h p e hc).2.2.1.1
    exact ⟨fun z => ((zn_mi (a := e.1) (by omega)).1.mp z).elim, fun z => by cases z⟩
theorem zm_emp {ψ : M2} {b s : Nat} {c : Ce} {u k : Nat} (hC : zMc (ψ 1) c) (hV : zWc b s c) (hp : 4 * u + k < 256) : G_X9_isEmpty ψ (nI u) (nI k) = some (if (c (4 * u + k)).isNone = true then nI 1 else nI 0) := by
  unfold G_X9_isEmpty
  simp (disch := omega) only [zn_L, zn_M, zn_R, zm_at, (hC _ hp).1, f0_m hV]
  split <;> rfl
theorem zm_room {N : Nat} (hN : 5000 ≤ N) {ψ : M2} {P : Pm} {c : Ce} {u : Nat} (hP : zMp (ψ 1) P) (hC : zMc (ψ 1) c) (hW : zWp P) (hV : zWc P.1 P.2.1 c) (hu : u < 64) : G_X9_room N ψ (nI u) = some (zn_g (fun k => nI k) mI (fS c P.2.1 u)) := by
  have hs := hW.2.1
  unfold G_X9_room fS
  refine zn_fnd (fun k i => L_X9_room_2 N ψ (nI u) k (nI i)) _ P.2.1 (fun k => nI k) mI (fun k i hi => ?_) (fun k => ?_) P.2.1 0 N (Nat.zero_add _) (by omega)
  · show B_X9_room_2 N ψ (nI u) _ (nI i) = _
    unfold B_X9_room_2
    simp (disch := omega) only [zn_L, zn_M, zn_R, hP.2.1, zm_emp hC hV]
    rw [if_neg (by omega)]
    cases hc : (c (4 * u + i)).isNone with
    | true =>
      rw [if_pos rfl, if_pos rfl, if_neg (by decide)]
    | false =>
      rw [if_pos (show (if false = true then nI 1 else nI 0) = nI 0 from rfl), if_neg Bool.false_ne_true]
  · show B_X9_room_2 N ψ (nI u) _ (nI P.2.1) = _
    unfold B_X9_room_2
    simp (disch := omega) only [zn_L, zn_M, zn_R, hP.2.1]
    rw [if_pos (by omega)]
def put4 (ψ : M2) (r : Nat) (a b c d : Int32) : M2 := upd2 (upd2 (upd2 (upd2 ψ 1 r a) 1 (r + 1) b) 1 (r + 2) c) 1 (r + 3) d
theorem zm_put (ψ : M2) (a b c d : Int32) {u k : Nat} (h : 4 * u + k < 256) : G_X9_put ψ (nI u) (nI k) a b c d = some (put4 ψ (18 + 4 * (4 * u + k)) a b c d) := by
  unfold G_X9_put put4
  simp (disch := omega) only [zn_L, zn_M, zn_R, zm_at]
theorem put4_e (ψ : M2) (r : Nat) (a b c d : Int32) (i : Nat) : put4 ψ r a b c d 1 i = if i = r + 3 then d else if i = r + 2 then c else if i = r + 1 then b else if i = r then a else ψ 1 i := by
  unfold put4
  simp only [upd2_e, true_and]
theorem put4_o (ψ : M2) (r : Nat) (a b c d : Int32) {c' : Nat} (h : c' ≠ 1) : put4 ψ r a b c d c' = ψ c' := by
  unfold put4
  rw [upd2_o h, upd2_o h, upd2_o h, upd2_o h]
def putE (ψ : M2) (p : Nat) (o : Option En) : M2 := put4 ψ (18 + 4 * p) (f0 o) (f1 o) (f2 o) (f3 (p / 4) o)
theorem putE_c {ψ : M2} {c : Ce} (h : zMc (ψ 1) c) {p : Nat} (hp : p < 256) (o : Option En) : zMc (putE ψ p o 1) (uC c p o) := by
  intro q hq
  unfold putE
  simp only [put4_e]
  by_cases e : q = p
  · subst e
    rw [uC_s]
    refine ⟨?_, ?_, ?_, ?_⟩
    · rw [if_neg (by omega), if_neg (by omega), if_neg (by omega), if_pos rfl]
    · rw [if_neg (by omega), if_neg (by omega), if_pos rfl]
    · rw [if_neg (by omega), if_pos rfl]
    · rw [if_pos rfl]
  · rw [uC_n e]
    have g := h q hq
    refine ⟨?_, ?_, ?_, ?_⟩
    · rw [if_neg (by omega), if_neg (by omega), if_neg (by omega), if_neg (by omega)]
      exact g.1
    · rw [if_neg (by omega), if_neg (by omega), if_neg (by omega), if_neg (by omega)]
      exact g.2.1
    · rw [if_neg (by omega), if_neg (by omega), if_neg (by omega), if_neg (by omega)]
      exact g.2.2.1
    · rw [if_neg (by omega), if_neg (by omega), if_neg (by omega), if_neg (by omega)]
      exact g.2.2.2
theorem putE_l (ψ : M2) {p : Nat} (hp : p < 256) (o : Option En) : zLo (ψ 1) (putE ψ p o 1) := by
  intro i hi
  unfold putE
  rw [put4_e, if_neg (by omega), if_neg (by omega), if_neg (by omega), if_neg (by omega)]
theorem putE_o (ψ : M2) (p : Nat) (o : Option En) {c' : Nat} (h : c' ≠ 1) : putE ψ p o c' = ψ c' := put4_o _ _ _ _ _ _ h
theorem putE_f {ψ ψ' : M2} (h : zFr ψ ψ') (p : Nat) (o : Option En) : zFr ψ (putE ψ' p o) := by
  intro c i hk
  by_cases e : c = 1
  · subst e
    cases hk
  · rw [putE_o _ _ _ e]
    exact h c i hk
def zHe (ψ : M2) (e : En) : Prop := ψ 0 6 = nI e.1 ∧ ψ 0 7 = nI e.2.2.1 ∧ ψ 0 8 = nI e.2.2.2 ∧ ψ 0 9 = nI e.2.1
theorem zm_putH {ψ : M2} {e : En} (hH : zHe ψ e) {u k : Nat} (hk : k < 4) (h : 4 * u + k < 256) (hh : e.2.1 < 64) : (if nI u = ψ 0 9 then G_X9_put ψ (nI u) (nI k) (ψ 0 6) (ψ 0 7) (ψ 0 8) (nI 0) else G_X9_put ψ (nI u) (nI k) (ψ 0 6) (ψ 0 7) (ψ 0 8) (nI 1)) = some (putE ψ (4 * u + k) (some e)) := by
  have hd : (4 * u + k) / 4 = u := by omega
  unfold putE
  rw [hd]
  simp (disch := omega) only [zm_put, hH.1, hH.2.1, hH.2.2.1, hH.2.2.2, zn_R, f0, f1, f2, f3, og]
  by_cases g : u = e.2.1
  · rw [if_pos g, if_pos g.symm]
  · rw [if_neg g, if_neg (fun z => g z.symm)]
theorem zm_settles {N : Nat} (hN : 5000 ≤ N) {ψ : M2} {P : Pm} {c : Ce} {u : Nat} {e : En} (hP : zMp (ψ 1) P) (hC : zMc (ψ 1) c) (hW : zWp P) (hV : zWc P.1 P.2.1 c) (hu : u < 64) (hH : zHe ψ e) (he : e.2.1 < 64) : G_X9_settles N ψ (nI u) = some (zn_g (fun k => (nI 1, putE ψ (4 * u + k) (some e))) (nI 0, ψ) (fS c P.2.1 u)) := by
  have hs := hW.2.1
  unfold G_X9_settles
  simp (disch := omega) only [zn_L, zn_M, zn_R, zm_room hN hP hC hW hV]
  cases hf : fS c P.2.1 u with
  | none => simp only [zn_g, if_true]
  | some k =>
    have hk := (fS_lt hf).1
    have hput := zm_putH hH (u := u) (k := k) (by omega) (by omega) he
    simp (disch := omega) only [zn_g, zn_R, if_false]
    by_cases g : nI u = ψ 0 9
    · rw [if_pos g] at hput ⊢
      rw [hput]
      rfl
    · rw [if_neg g] at hput ⊢
      rw [hput]
      rfl
theorem zm_hold {ψ : M2} {P : Pm} (hP : zMp (ψ 1) P) (hW : zWp P) {x : Nat} (hx : x < 1000) : ∃ ψ', G_X9_hold ψ (nI x) = some ψ' ∧ zHe ψ' (nE P x) ∧ (∀ c' i', c' ≠ 0 ∨ i' < 6 ∨ 9 < i' → ψ' c' i' = ψ c' i') := by
  refine ⟨upd2 (upd2 (upd2 (upd2 ψ 0 6 (nI (tg x P.2.2.2.1))) 0 7 (nI P.2.2.1)) 0 8 (nI (pr P.1 P.2.2.1 x P.2.2.2.1))) 0 9 (nI (hm P.1 x P.2.2.2.1)), ?_, ⟨?_, ?_, ?_, ?_⟩, ?_⟩
  · have h1 : ∀ (φ : M2) (i : Nat) (v : Int32), upd2 φ 0 i v 1 = φ 1 := fun φ i v => upd2_o (by decide)
    have hP' : ∀ (φ : M2) (i : Nat) (v : Int32), zMp (φ 1) P → zMp (upd2 φ 0 i v 1) P := fun φ i v h => by rw [h1]; exact h
    have hb := hW.2.2.1
    unfold G_X9_hold
    simp (disch := omega) only [zn_L, zn_M, zn_R, zm_tag hP hW hx, h1, hP.2.2.1]
    rw [zm_print (hP' _ _ _ (hP' _ _ _ hP)) hW hx hb.2]
    simp (disch := omega) only [zn_R]
    rw [zm_home (hP' _ _ _ (hP' _ _ _ (hP' _ _ _ hP))) hW hx]
    simp (disch := omega) only [zn_R]
  · simp [upd2_e, nE]
  · simp [upd2_e, nE]
  · simp [upd2_e, nE]
  · simp [upd2_e, nE]
  · intro c' i' h
    rw [upd2_e, if_neg (by omega), upd2_e, if_neg (by omega), upd2_e, if_neg (by omega), upd2_e, if_neg (by omega)]
