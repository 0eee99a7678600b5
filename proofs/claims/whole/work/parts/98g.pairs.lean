/-! the pure layer: pairs, seventh part: texts, undo -/
section PK
variable {N : Nat}
theorem pq_31 (hN : 5000 ≤ N) : Pk31 N zRl := by
  intro u0 φ η τ ψ hv p1 hrel
  obtain ⟨S, V, X, ⟨hR, hM, hF⟩, hVV, hT⟩ := id hrel
  obtain ⟨t1, t2, t3, t4⟩ := hT
  rcases zp_in p1 0 127 (by decide) (by decide) with ⟨x, h1, h2, rfl, k1, k2⟩ | ⟨k1, k2⟩
  · by_cases hl : X.length = 100
    · refine ⟨2, nI 0, u0, φ, η, τ, nI 0, upd2 ψ 0 5 (nI 2), ?_, Or.inr (Or.inr rfl), ?_, u55 _ _, fun z => (by cases z), zRl_5 hrel _⟩
      · simp only [G_X8_append, G_X6_size, zn_L, zn_R, k1, zn_B, if_false, t2, hl]
        rw [if_neg (by decide)]
      · simp only [G_X9_append, J_X9_append_29, zn_L, zn_R, k2, zn_B, if_false, t3, hl, if_true, u55]
    · have hput : G_X6_put τ (nI x) = some (nI (X.length + 1), upd2 (upd2 τ 1 X.length (nI x)) 0 1 (nI (X.length + 1))) := by
        have e1 : upd2 τ 1 X.length (nI x) 0 1 = nI X.length := by
          rw [upd2_o (by decide)]
          exact t2
        have e2 : upd2 (upd2 τ 1 X.length (nI x)) 0 1 (nI (X.length + 1)) 0 1 = nI (X.length + 1) := by rw [upd2_e, if_pos ⟨rfl, rfl⟩]
        unfold G_X6_put
        simp (disch := omega) only [zn_L, zn_R, t2]
        rw [if_neg (by omega), if_neg (by omega)]
        simp only [e1, zn_R, e2]
      have h54 : upd2 ψ 0 5 (nI 0) 0 4 = nI X.length := by
        rw [upd2_e, if_neg (by decide)]
        exact t3
      have h54b : upd2 (upd2 ψ 0 5 (nI 0)) 3 X.length (nI x) 0 4 = nI X.length := by
        rw [upd2_o (by decide)]
        exact h54
      have h54c : upd2 (upd2 (upd2 ψ 0 5 (nI 0)) 3 X.length (nI x)) 0 4 (nI (X.length + 1)) 0 4 = nI (X.length + 1) := by rw [upd2_e, if_pos ⟨rfl, rfl⟩]
      refine ⟨0, nI (X.length + 1), u0, φ, η, upd2 (upd2 τ 1 X.length (nI x)) 0 1 (nI (X.length + 1)), nI (X.length + 1), upd2 (upd2 (upd2 ψ 0 5 (nI 0)) 3 X.length (nI x)) 0 4 (nI (X.length + 1)), ?_, Or.inl rfl, ?_, ?_, fun _ => rfl, ⟨S, V, X ++ [x], ⟨hR, ?_, hF⟩, ⟨hVV.1, zVm_g hVV.2.1 ?_ ?_, hVV.2.2⟩, ?_, ?_, ?_, fun i y hy => ?_⟩⟩
      · simp only [G_X8_append, G_X6_size, zn_L, zn_R, k1, zn_B, if_false, t2, hput]
        rw [if_pos ((nI_ltI (by omega) (by decide)).mpr (by omega))]
      · simp only [G_X9_append, J_X9_append_29, zn_L, zn_R, k2, zn_B, if_false, t3, u55, if_true]
        rw [if_neg (fun z => hl ((nI_eq (by omega) (by decide)).mp z))]
        simp (disch := omega) only [h54, zn_R, h54b, h54c]
      · rw [upd2_e, if_neg (by decide), upd2_o (by decide)]
        exact u55 _ _
      · rw [upd2_o (by decide), upd2_o (by decide), upd2_o (by decide)]
        exact hM
      · rw [upd2_o (by decide), upd2_o (by decide), upd2_o (by decide)]
      · rw [upd2_e, if_neg (by decide), upd2_o (by decide), upd2_e, if_neg (by decide)]
      · rw [List.length_append]
        show X.length + 1 ≤ 100
        omega
      · rw [upd2_e, if_pos ⟨rfl, rfl⟩, List.length_append]
        rfl
      · rw [h54c, List.length_append]
        rfl
      · rw [upd2_o (c' := 1) (by decide), upd2_o (c' := 3) (by decide), upd2_e, upd2_e]
        rcases Nat.lt_or_ge i X.length with g | g
        · rw [List.getElem?_append_left g] at hy
          rw [if_neg (fun z => by omega), if_neg (fun z => by omega), upd2_o (by decide)]
          exact t4 i y hy
        · have hil := (List.getElem?_eq_some_iff.mp hy).1
          rw [List.length_append] at hil
          have e : i = X.length := by
            simp at hil
            omega
          subst e
          have e2 : (X ++ [x])[X.length]? = some x := by simp
          rw [e2] at hy
          cases hy
          rw [if_pos ⟨rfl, rfl⟩, if_pos ⟨rfl, rfl⟩]
          exact ⟨by omega, rfl, rfl⟩
  · refine ⟨1, nI 0, u0, φ, η, τ, nI 0, upd2 ψ 0 5 (nI 1), ?_, Or.inr (Or.inl rfl), ?_, u55 _ _, fun z => (by cases z), zRl_5 hrel _⟩
    · simp only [G_X8_append, zn_L, zn_R, k1, if_true]
    · simp only [G_X9_append, J_X9_append_29, zn_L, zn_R, k2, if_true, u55, zn_B, if_false]
theorem pq_32 (hN : 5000 ≤ N) : Pk32 N zRl := by
  intro u0 φ η τ ψ hv hrel
  obtain ⟨S, V, X, ⟨hR, hM, hF⟩, hVV, hT⟩ := id hrel
  obtain ⟨t1, t2, t3, t4⟩ := hT
  have h54 : upd2 ψ 0 5 (nI 0) 0 4 = nI X.length := by
    rw [upd2_e, if_neg (by decide)]
    exact t3
  refine ⟨0, nI X.length, u0, φ, η, upd2 τ 0 1 (nI 0), nI X.length, upd2 (upd2 ψ 0 5 (nI 0)) 0 4 (nI 0), ?_, rfl, ?_, rfl, ⟨S, V, [], ⟨hR, ?_, hF⟩, ⟨hVV.1, zVm_g hVV.2.1 ?_ ?_, hVV.2.2⟩, Nat.zero_le _, ?_, ?_, fun i y hy => (by simp at hy)⟩⟩
  · simp only [G_X8_clearText, G_X6_empty, zn_L, zn_R, t2]
  · simp only [G_X9_clearText, zn_L, zn_R, h54]
  · rw [upd2_o (by decide), upd2_o (by decide)]
    exact hM
  · rw [upd2_o (by decide), upd2_o (by decide)]
  · rw [upd2_e, if_neg (by decide), upd2_e, if_neg (by decide)]
  · rw [upd2_e, if_pos ⟨rfl, rfl⟩]
    rfl
  · rw [upd2_e, if_pos ⟨rfl, rfl⟩]
    rfl
theorem pq_34 (hN : 5000 ≤ N) : Pk34 N zRl := by
  intro u0 φ η τ ψ hv hrel
  obtain ⟨S, V, X, ⟨hR, hM, hF⟩, ⟨hVc, hVm, hw⟩, hT⟩ := id hrel
  by_cases hne : V = []
  · subst hne
    have h1 : η.2 = nI 0 := hVc.1
    have h2 : ψ 0 2 = nI 0 := hVm.1
    refine ⟨2, nI 0, u0, φ, η, τ, nI 0, upd2 ψ 0 5 (nI 1), ?_, Or.inr rfl, ?_, u55 _ _, fun z => (by cases z), zRl_5 hrel _⟩
    · unfold G_X8_undo
      rw [h1, if_pos (by decide)]
      rfl
    · unfold G_X9_undo J_X9_undo_13
      rw [h2, if_pos (by decide)]
      simp only [zn_L, zn_R, u55, zn_B, if_false]
  · have hd := List.dropLast_concat_getLast hne
    generalize V.dropLast = W at hd
    generalize V.getLast hne = T at hd
    subst hd
    have hl := hw.1
    rw [List.length_append] at hl
    have hl : W.length + 1 ≤ 4 := hl
    have hFT := hw.2 T (List.mem_append.mpr (Or.inr (List.mem_singleton.mpr rfl)))
    obtain ⟨q, η', a1, a2, a3⟩ := zc_pop (u0 := u0) hN hVc hFT (by omega)
    have h1 : η.2 = nI (W.length + 1) := by rw [hVc.1, List.length_append]; rfl
    have h2 : ψ 0 2 = nI (W.length + 1) := by rw [hVm.1, List.length_append]; rfl
    have hpg : zRMs (fun j => ψ 2 (1163 * W.length + j)) T := hVm.2 W.length T (by simp)
    have h52 : upd2 ψ 0 5 (nI 0) 0 2 = nI (W.length + 1) := by
      rw [upd2_e, if_neg (by decide)]
      exact h2
    have hp2 : upd2 (upd2 ψ 0 5 (nI 0)) 0 2 (nI W.length) 2 = ψ 2 := by rw [upd2_o (by decide), upd2_o (by decide)]
    have h22 : upd2 (upd2 ψ 0 5 (nI 0)) 0 2 (nI W.length) 0 2 = nI W.length := by rw [upd2_e, if_pos ⟨rfl, rfl⟩]
    obtain ⟨m, f1, f2, f3⟩ := zm_laid (ψ := upd2 (upd2 ψ 0 5 (nI 0)) 0 2 (nI W.length)) hN (p := W.length) (by omega) (by rw [hp2]; exact hpg) hFT
    have hm2 : m 0 2 = nI W.length := by rw [f3 0 (by decide)]; exact h22
    refine ⟨0, nI W.length, q, φ, η', τ, nI W.length, m, ?_, Or.inl rfl, ?_, ?_, fun _ => rfl, ⟨T, W, X, ⟨a2, f2, hFT⟩, ⟨a3, ⟨hm2, fun i U hU => ?_⟩, by omega, fun U hU => hw.2 U (List.mem_append.mpr (Or.inl hU))⟩, zTx_g hT (by rw [f3 3 (by decide), upd2_o (by decide), upd2_o (by decide)]) (by rw [f3 0 (by decide), upd2_e, if_neg (by decide), upd2_e, if_neg (by decide)])⟩⟩
    · unfold G_X8_undo
      rw [if_neg (show ¬ η.2 = 0 from fun z => by rw [h1] at z; exact nI_ne0 (Nat.succ_pos _) (by omega) z)]
      simp only [a1, zn_R]
    · unfold G_X9_undo J_X9_undo_13
      rw [if_neg (show ¬ ψ 0 2 = 0 from fun z => by rw [h2] at z; exact nI_ne0 (Nat.succ_pos _) (by omega) z)]
      simp only [zn_L, zn_R, u55, if_true, h52]
      rw [pk_sub (Nat.le_add_left 1 _), Nat.add_sub_cancel]
      simp only [h22, f1, zn_R, hm2]
    · rw [f3 0 (by decide), upd2_e, if_neg (by decide)]
      exact u55 _ _
    · have hi := (List.getElem?_eq_some_iff.mp hU).1
      have hh := hVm.2 i U (by rw [List.getElem?_append_left hi]; exact hU)
      rw [f3 2 (by decide), hp2]
      exact hh
end PK
/-! digest -/
def mx (h : Int64) (v : Int32) : Int64 := 31 * h + v.toInt64
def mxs (h : Int64) : List Int32 → Int64
  | [] => h
  | v :: l => mxs (mx h v) l
theorem mxs_app (l k : List Int32) : ∀ h, mxs h (l ++ k) = mxs (mxs h l) k := by
  induction l with
  | nil =>
    intro h
    rfl
  | cons v l ih =>
    intro h
    exact ih (mx h v)
/-- a loop that mixes f i in -/
theorem zn_mx {ρ : Type} (L : Nat → Int64 → Nat → Option ρ) (f : Nat → Int32) (n : Nat) (y : Int64 → ρ) (hs : ∀ k h i, i < n → L (k + 1) h i = L k (mx h (f i)) (i + 1)) (he : ∀ k h, L (k + 1) h n = some (y h)) : ∀ d i h k, i + d = n → d < k → L k h i = some (y (mxs h ((List.range' i d).map f))) := by
  intro d
  induction d with
  | zero =>
    intro i h k hi hk
    obtain ⟨k, rfl⟩ : ∃ j, k = j + 1 := ⟨k - 1, by omega⟩
    have e : i = n := hi
    subst e
    exact he k h
  | succ d ih =>
    intro i h k hi hk
    obtain ⟨k, rfl⟩ : ∃ j, k = j + 1 := ⟨k - 1, by omega⟩
    rw [hs k h i (by omega), ih (i + 1) _ k (by omega) (by omega)]
    rfl
/-- a loop over blocks -/
theorem zn_mb {ρ : Type} (L : Nat → Int64 → Nat → Option ρ) (f : Nat → List Int32) (n : Nat) (y : Int64 → ρ) (hs : ∀ k h i, i < n → L (k + 1) h i = L k (mxs h (f i)) (i + 1)) (he : ∀ k h, L (k + 1) h n = some (y h)) : ∀ d i h k, i + d = n → d < k → L k h i = some (y (mxs h ((List.range' i d).flatMap f))) := by
  intro d
  induction d with
  | zero =>
    intro i h k hi hk
    obtain ⟨k, rfl⟩ : ∃ j, k = j + 1 := ⟨k - 1, by omega⟩
    have e : i = n := hi
    subst e
    exact he k h
  | succ d ih =>
    intro i h k hi hk
    obtain ⟨k, rfl⟩ : ∃ j, k = j + 1 := ⟨k - 1, by omega⟩
    rw [hs k h i (by omega), ih (i + 1) _ k (by omega) (by omega)]
    have e : (List.range' i (d + 1)).flatMap f = f i ++ (List.range' (i + 1) d).flatMap f := rfl
    rw [e, mxs_app]
