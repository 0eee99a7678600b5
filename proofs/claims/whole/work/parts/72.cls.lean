/-! the pure layer: the class's filter, first part -/
def zPm (φ : M2) (P : Pm) : Prop := φ 0 0 = nI P.1 ∧ φ 0 1 = nI P.2.1 ∧ φ 0 2 = nI P.2.2.1 ∧ φ 0 3 = nI P.2.2.2.1 ∧ φ 0 4 = nI P.2.2.2.2
def zCl (φ : M2) (c : Ce) : Prop := ∀ p, p < 256 → φ 1 p = cwo (c p)
def zSt (φ : M2) (q : List En) : Prop := φ 0 7 = nI q.length ∧ ∀ i e, q[i]? = some e → φ 2 i = ew e
def zKy (φ : M2) (nk : Nat) (K : Nat → Nat) : Prop := φ 3 1 = nI nk ∧ ∀ i, i < nk → φ 4 i = nI (K i)
def zRC (φ : M2) (P : Pm) (c : Ce) (q : List En) (nk : Nat) (K : Nat → Nat) : Prop := zPm φ P ∧ zCl φ c ∧ zSt φ q ∧ zKy φ nk K
def zWF (P : Pm) (c : Ce) (q : List En) (nk : Nat) (K : Nat → Nat) : Prop := zWp P ∧ zWc P.1 P.2.1 c ∧ zWq P.1 q ∧ zWk nk K
def uC (c : Ce) (p : Nat) (v : Option En) : Ce := fun q => if q = p then v else c q
theorem uC_s (c : Ce) (p : Nat) (v : Option En) : uC c p v p = v := if_pos rfl
theorem uC_n {c : Ce} {p q : Nat} {v : Option En} (h : q ≠ p) : uC c p v q = c q := if_neg h
def fS (c : Ce) (s u : Nat) : Option Nat := fnd (fun k => (c (4 * u + k)).isNone) 0 s
theorem zCl_u {φ : M2} {c : Ce} (h : zCl φ c) (p : Nat) (v : Option En) : zCl (upd2 φ 1 p (cwo v)) (uC c p v) := by
  intro q hq
  rw [upd2_e]
  unfold uC
  by_cases e : q = p
  · rw [if_pos ⟨rfl, e⟩, if_pos e]
  · rw [if_neg (fun z => e z.2), if_neg e]
    exact h q hq
theorem upd2_o {φ : M2} {c i c' : Nat} {v : Int32} (h : c' ≠ c) : upd2 φ c i v c' = φ c' := by
  funext i'
  rw [upd2_e, if_neg (fun z => h z.1)]
theorem cwo_m {b s : Nat} {c : Ce} {p : Nat} (hb : b ≤ 6) (h : zWc b s c) : (cwo (c p) = mI) ↔ ((c p).isNone = true) := by
  cases hc : c p with
  | none => exact ⟨fun _ => rfl, fun _ => rfl⟩
  | some e =>
    have g := zEo_lt hb (h p e hc).2.2.1
    have := ew_mi g.1 g.2.1 (by omega) g.2.2.2
    exact ⟨fun z => (this.mp z).elim, fun z => by cases z⟩
theorem zc_cell (φ : M2) {p : Nat} (h : p < 256) : G_X2_cellAt φ (nI p) = some (φ 1 p) := by
  unfold G_X2_cellAt
  simp (disch := omega) only [zn_L, zn_M, zn_R]
  rw [if_neg (by omega), if_neg (by omega)]
theorem zc_set (φ : M2) (v : Int32) {p : Nat} (h : p < 256) : G_X2_setCell φ (nI p) v = some (upd2 φ 1 p v) := by
  unfold G_X2_setCell
  simp (disch := omega) only [zn_L, zn_M, zn_R]
  rw [if_neg (by omega), if_neg (by omega)]
theorem zc_setm (φ : M2) (v : Int32) : G_X2_setCell φ mI v = some φ := by
  unfold G_X2_setCell
  rw [if_pos (by decide)]
theorem zc_place (u k : Nat) : G_X2_placeIn (nI u) (nI k) = nI (4 * u + k) := by
  unfold G_X2_placeIn
  simp (disch := omega) only [zn_L, zn_M, zn_R]
  rw [Nat.mul_comm]
theorem zc_free {N : Nat} (hN : 5000 ≤ N) {φ : M2} {P : Pm} {c : Ce} {u : Nat} (hP : zPm φ P) (hC : zCl φ c) (hW : zWp P) (hV : zWc P.1 P.2.1 c) (hu : u < 64) : G_X2_freePlace N φ (nI u) = some (zn_g (fun k => nI (4 * u + k)) mI (fS c P.2.1 u)) := by
  have hs := hW.2.1
  unfold G_X2_freePlace fS
  refine zn_fnd (fun k i => L_X2_freePlace_2 N φ (nI u) k (nI i)) _ P.2.1 (fun k => nI (4 * u + k)) mI (fun k i hi => ?_) (fun k => ?_) P.2.1 0 N (Nat.zero_add _) (by omega)
  · show B_X2_freePlace_2 N φ (nI u) _ (nI i) = _
    unfold B_X2_freePlace_2
    simp (disch := omega) only [zn_L, zn_M, zn_R, hP.2.1, zc_place, zc_cell, hC (4 * u + i) (by omega), cwo_m hW.1.2 hV]
    rw [if_neg (by omega)]
  · show B_X2_freePlace_2 N φ (nI u) _ (nI P.2.1) = _
    unfold B_X2_freePlace_2
    simp (disch := omega) only [zn_L, zn_M, zn_R, hP.2.1]
    rw [if_pos (by omega)]
theorem zc_code {φ : M2} {P : Pm} (hP : zPm φ P) (hW : zWp P) {x : Nat} (hx : x < 1000) : G_X2_codeOf φ (nI x) = nI (cd x P.2.2.2.1) := by
  simp only [G_X2_codeOf, zn_R, hP.2.2.2.1, zn_cd hx hW.2.2.2.1]
theorem zc_new {φ : M2} {P : Pm} (hP : zPm φ P) (hW : zWp P) {x : Nat} (hx : x < 1000) : G_X2_newEntry φ (nI x) = ew (nE P x) := by
  simp only [G_X2_newEntry, zn_R, zc_code hP hW hx, hP.1, hP.2.2.1, zc_of hW.1.2 hW.2.2.1.2, nE]
theorem zc_et {b : Nat} {e : En} (hb : b ≤ 6) (h : zEo b e) : G_X1_tagOf (ew e) = nI e.1 ∧ G_X1_homeOf (ew e) = nI e.2.1 ∧ G_X1_lengthOf (ew e) = nI e.2.2.1 ∧ G_X1_printOf (ew e) = nI e.2.2.2 := by
  have g := zEo_lt hb h
  exact zn_et g.1 g.2.1 (by omega) g.2.2.2
theorem zc_other {φ : M2} {P : Pm} (hP : zPm φ P) (hW : zWp P) {e : En} (h : zEo P.1 e) : G_X2_otherOf φ (ew e) = nI (oth P.1 e.2.1 e.1) := by
  have g := zc_et hW.1.2 h
  simp only [G_X2_otherOf, zn_R, g.1, g.2.1, hP.1, zc_part h.1 hW.1.2]
def slp (b s : Nat) (c : Ce) (e : En) : Option Nat := match fS c s e.2.1 with
  | some k => some (4 * e.2.1 + k)
  | none => match fS c s (oth b e.2.1 e.1) with
    | some k => some (4 * oth b e.2.1 e.1 + k)
    | none => none
theorem fS_lt {c : Ce} {s u k : Nat} (h : fS c s u = some k) : k < s ∧ c (4 * u + k) = none := by
  obtain ⟨_, h2, h3, _⟩ := fnd_some h
  exact ⟨by omega, Option.isNone_iff_eq_none.mp h3⟩
theorem fS_full {c : Ce} {s u : Nat} (h : fS c s u = none) {k : Nat} (hk : k < s) : ∃ e, c (4 * u + k) = some e := by
  have := fnd_none h k (Nat.zero_le _) (by omega)
  cases hc : c (4 * u + k) with
  | none =>
    rw [hc] at this
    cases this
  | some e => exact ⟨e, rfl⟩
theorem slp_lt {b s p : Nat} {c : Ce} {e : En} (hb : b ≤ 6) (hs : s ≤ 4) (he : zEo b e) (h : slp b s c e = some p) : p < 256 ∧ p / 4 < 2 ^ b ∧ p % 4 < s ∧ c p = none ∧ (e.2.1 = p / 4 ∨ e.2.1 = oth b (p / 4) e.1) := by
  have h6 := p2_6 hb
  have h1 := he.2.1
  have h2 := oth_lt e.1 h1
  unfold slp at h
  split at h
  · rename_i k hk
    obtain ⟨a, d⟩ := fS_lt hk
    have e1 : 4 * e.2.1 + k = p := Option.some.inj h
    subst e1
    have e2 : (4 * e.2.1 + k) / 4 = e.2.1 := by omega
    exact ⟨by omega, by omega, by omega, d, Or.inl e2.symm⟩
  · split at h
    · rename_i k hk
      obtain ⟨a, d⟩ := fS_lt hk
      have e1 : 4 * oth b e.2.1 e.1 + k = p := Option.some.inj h
      subst e1
      have e2 : (4 * oth b e.2.1 e.1 + k) / 4 = oth b e.2.1 e.1 := by omega
      refine ⟨by omega, by omega, by omega, d, Or.inr ?_⟩
      rw [e2, oth_oth]
    · cases h
theorem zc_settle {N : Nat} (hN : 5000 ≤ N) {φ : M2} {P : Pm} {c : Ce} {e : En} (hP : zPm φ P) (hC : zCl φ c) (hW : zWp P) (hV : zWc P.1 P.2.1 c) (he : zEo P.1 e) : G_X2_settle N φ (ew e) = some (zn_g (fun p => (nI 1, upd2 φ 1 p (ew e))) (nI 0, φ) (slp P.1 P.2.1 c e)) := by
  have h6 := p2_6 hW.1.2
  have h1 := he.2.1
  have h2 := oth_lt e.1 h1
  have hs := hW.2.1
  unfold G_X2_settle slp
  simp (disch := omega) only [zn_L, zn_M, zn_R, (zc_et hW.1.2 he).2.1, zc_free hN hP hC hW hV]
  cases hf : fS c P.2.1 e.2.1 with
  | some k =>
    have := (fS_lt hf).1
    simp (disch := omega) only [zn_L, zn_M, zn_R, zn_g, if_false, zc_set]
  | none =>
    simp (disch := omega) only [zn_L, zn_M, zn_R, zn_g, if_true, zc_other hP hW he, zc_free hN hP hC hW hV]
    cases hg : fS c P.2.1 (oth P.1 e.2.1 e.1) with
    | some k =>
      have := (fS_lt hg).1
      simp (disch := omega) only [zn_L, zn_M, zn_R, zn_g, if_false, zc_set]
    | none => simp (disch := omega) only [zn_L, zn_M, zn_R, zn_g, if_true]
theorem zWc_u {b s p : Nat} {c : Ce} {e : En} (h : zWc b s c) (hp : p / 4 < 2 ^ b ∧ p % 4 < s) (he : zEo b e) (hh : e.2.1 = p / 4 ∨ e.2.1 = oth b (p / 4) e.1) : zWc b s (uC c p (some e)) := by
  intro q f hf
  by_cases g : q = p
  · subst g
    rw [uC_s] at hf
    cases hf
    exact ⟨hp.1, hp.2, he, hh⟩
  · rw [uC_n g] at hf
    exact h q f hf
theorem zWc_e {b s p : Nat} {c : Ce} (h : zWc b s c) : zWc b s (uC c p none) := by
  intro q f hf
  by_cases g : q = p
  · subst g
    rw [uC_s] at hf
    cases hf
  · rw [uC_n g] at hf
    exact h q f hf
