/-! the pure layer: walks of the class -/
def dn : Nat → Int32
  | 0 => mI
  | i + 1 => nI i
theorem dn_s {i : Nat} : nI i - nI 1 = dn i := by
  cases i with
  | zero => decide
  | succ i => exact pk_sub (Nat.le_add_left 1 i)
theorem dn_p {i : Nat} : nI i + mI = dn i := by
  cases i with
  | zero => decide
  | succ i => exact sb_m1 (Nat.succ_pos i)
def og {α ρ : Type} (y : α → ρ) (z : ρ) : Option α → ρ
  | some j => y j
  | none => z
theorem og_s {α ρ : Type} (y : α → ρ) (z : ρ) (j : α) : og y z (some j) = y j := rfl
theorem og_n {α ρ : Type} (y : α → ρ) (z : ρ) : og y z none = z := rfl
def wk (b s : Nat) : Nat → Nat → Ce → En → Nat → Option (Nat × Ce)
  | 0, _, _, _, _ => none
  | n + 1, i, c, e, u => og (fun f => og (fun k => some (i + 1, uC (uC c (4 * u + i % s) (some e)) (4 * oth b u f.1 + k) (some f))) (wk b s n (i + 1) (uC c (4 * u + i % s) (some e)) f (oth b u f.1)) (fS (uC c (4 * u + i % s) (some e)) s (oth b u f.1))) none (c (4 * u + i % s))
def wr (b s : Nat) : Nat → Nat → Ce → En → Nat → List (Nat × Nat)
  | 0, _, _, _, _ => []
  | n + 1, i, c, e, u => og (fun f => (4 * u + i % s, f.1) :: og (fun _ => []) (wr b s n (i + 1) (uC c (4 * u + i % s) (some e)) f (oth b u f.1)) (fS (uC c (4 * u + i % s) (some e)) s (oth b u f.1))) [] (c (4 * u + i % s))
def zWr (φ : M2) (R : List (Nat × Nat)) : Prop := φ 5 2 = nI R.length ∧ ∀ (j : Nat) (y : Nat × Nat), R[j]? = some y → φ 6 j = nI y.1 ∧ φ 7 j = nI y.2
theorem uC_back {c : Ce} {p : Nat} {v : Option En} : uC (uC c p v) p (c p) = c := by
  funext q
  by_cases h : q = p
  · subst h
    rw [uC_s]
  · rw [uC_n h, uC_n h]
theorem zmod_s {i s : Nat} (h : 1 ≤ s) (h4 : s ≤ 4) : (i + 1) % s = if s ≤ i % s + 1 then 0 else i % s + 1 := by
  have : s = 1 ∨ s = 2 ∨ s = 3 ∨ s = 4 := by omega
  rcases this with e | e | e | e
  · subst e
    split <;> omega
  · subst e
    split <;> omega
  · subst e
    split <;> omega
  · subst e
    split <;> omega
/-- putting back: what a failed walk needs -/
def zBk (N : Nat) (c0 : Ce) (A : List (Nat × Nat)) (e : En) (c : Ce) : Prop := ∀ (k : Nat) (φ : M2) (B : List (Nat × Nat)), A.length < k → (A ++ B).length ≤ 50 → zCl φ c → zWr φ (A ++ B) → ∃ φ', L_X2_walkBack_12 N k (ew e) (dn A.length) φ = some φ' ∧ zCl φ' c0 ∧ ∀ c', c' ≠ 1 → φ' c' = φ c'
theorem zBk_0 (N : Nat) (c0 : Ce) (e : En) : zBk N c0 [] e c0 := by
  intro k φ B hk hl hC hR
  obtain ⟨k, rfl⟩ : ∃ j, k = j + 1 := ⟨k - 1, by omega⟩
  refine ⟨φ, ?_, hC, fun _ _ => rfl⟩
  show B_X2_walkBack_12 N _ (ew e) mI φ = _
  unfold B_X2_walkBack_12
  rw [if_pos (by decide)]
theorem zBk_s {N : Nat} {c0 : Ce} {A : List (Nat × Nat)} {e f : En} {c : Ce} {p : Nat} (h : zBk N c0 A e c) (hp : p < 256) (hf : c p = some f) : zBk N c0 (A ++ [(p, f.1)]) f (uC c p (some e)) := by
  intro k φ B hk hl hC hR
  obtain ⟨k, rfl⟩ : ∃ j, k = j + 1 := ⟨k - 1, by omega⟩
  have el : (A ++ [(p, f.1)]).length = A.length + 1 := List.length_append
  rw [el] at hk
  have e1 : (A ++ [(p, f.1)]) ++ B = A ++ ((p, f.1) :: B) := by simp
  rw [e1] at hR hl
  have hlen : (A ++ ((p, f.1) :: B)).length = A.length + (B.length + 1) := by simp
  rw [hlen] at hl
  have h6 : φ 6 A.length = nI p := (hR.2 A.length (p, f.1) (by simp)).1
  have h5 := hR.1
  rw [hlen] at h5
  have hcb : φ 1 p = ew e := by
    rw [hC p hp, uC_s]
    rfl
  have hC' : zCl (upd2 φ 1 p (ew f)) c := by
    have := zCl_u hC p (some f)
    rw [show uC (uC c p (some e)) p (some f) = c from by rw [← hf]; exact uC_back] at this
    exact this
  obtain ⟨φ', g1, g2, g3⟩ := h k (upd2 φ 1 p (ew f)) ((p, f.1) :: B) (by omega) (by rw [hlen]; omega) hC' (by
    refine ⟨?_, fun j y hy => ?_⟩
    · rw [upd2_o (by decide)]
      exact hR.1
    · rw [upd2_o (by decide), upd2_o (by decide)]
      exact hR.2 j y hy)
  refine ⟨φ', ?_, g2, fun c' hc => by rw [g3 c' hc, upd2_o hc]⟩
  rw [el]
  show B_X2_walkBack_12 N _ (ew f) (nI A.length) φ = _
  unfold B_X2_walkBack_12 G_X7_placeAt
  simp (disch := omega) only [zn_L, zn_M, zn_R, h5, h6, zc_cell, zc_set, hcb]
  rw [if_neg (by omega), if_neg (by omega), if_neg (by omega), if_neg (by omega)]
  simp (disch := omega) only [zn_L, zn_M, zn_R, h6, zc_cell, zc_set, hcb, dn_p]
  exact g1
