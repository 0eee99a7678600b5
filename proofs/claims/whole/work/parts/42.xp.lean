/-! two filters at once: a copy from one to the other -/
def hup (η : HT) (k : Nat) (q : M2) : HT := (fun j => if j = k then q else η.1 j, η.2)
section XQ
variable {cI cF : ClassId} {b : Bf} {u0 u1 : M2} {η : HT} {τ : M2} {D : va_G} {H H1 : Heap}
set_option maxRecDepth 100000 in
theorem X_p_tc (hP : va_P D vwCl (xW cI cF b u0 u1 η τ) H) : va_P D vwCl (ppW cI (xPa (b 1) (b 0)) (xPm u1 u0)) H := hP.sub [16, 17, 18, 19, 20, 21, 22, 23, 24, 25, 26, 5, 6, 7, 8, 9, 10, 11, 12, 13, 14, 15] rfl
set_option maxRecDepth 100000 in
theorem X_d_tc (h : va_D (fun _ => True) (xW cI cF b u0 u1 η τ)) : ∀ φ2 : M2, va_D (fun _ => True) (ppW cI (xPa (b 1) (b 0)) φ2) := P_dT (φ := xPm u1 u0) (h.sub [16, 17, 18, 19, 20, 21, 22, 23, 24, 25, 26, 5, 6, 7, 8, 9, 10, 11, 12, 13, 14, 15] (by decide) rfl)
theorem X_a_tc {q : Nat} (h : ppA (xPa (b 1) (b 0)) q) : xA b q := by
  have h : q ∈ (List.range 11).map (b 1) ++ (List.range 11).map (b 0) := h
  unfold xA xAd
  simp only [List.mem_append] at h ⊢
  rcases h with h | h
  · simp only [h, true_or, or_true]
  · simp only [h, true_or, or_true]
set_option maxRecDepth 100000 in
theorem X_set_tc {χ : M2} (hP : va_P D vwCl (xW cI cF b u0 u1 η τ) H) (hD : va_D (fun _ => True) (xW cI cF b u0 u1 η τ)) (hk : ∀ q : Nat, q < H.size → ¬ ppA (xPa (b 1) (b 0)) q → H1[q]? = H[q]?) (hB : va_P D vwCl (ppW cI (xPa (b 1) (b 0)) χ) H1) : va_P D vwCl (xW cI cF b (xsh χ) χ η τ) H1 :=
  (va_join (wc := fbW cI (b 1) u1 ++ fbW cI (b 0) u0) (wr := [(b 6 0, .inr (6, [.ref (b 0 0), .ref (b 1 0), .ref (b 6 1), .ref (b 7 0)])), (b 6 1, .inr (1, [.ref (b 6 2), .int η.2])), (b 6 2, .inl (cF, 4, .inr (.inr (.inr (.inr (fun j => some (b (j + 2) 0)))))))] ++ (tbW cI (b 7) τ ++ (fbW cI (b 2) (η.1 0) ++ (fbW cI (b 3) (η.1 1) ++ (fbW cI (b 4) (η.1 2) ++ (fbW cI (b 5) (η.1 3))))))) (w1 := ppW cI (xPa (b 1) (b 0)) χ) hP hD [16, 17, 18, 19, 20, 21, 22, 23, 24, 25, 26, 5, 6, 7, 8, 9, 10, 11, 12, 13, 14, 15] [0, 1, 2, 3, 4, 27, 28, 29, 30, 31, 32, 33, 34, 35, 36, 37, 38, 39, 40, 41, 42, 43, 44, 45, 46, 47, 48, 49, 50, 51, 52, 53, 54, 55, 56, 57, 58, 59, 60, 61, 62, 63, 64, 65, 66, 67, 68, 69, 70] rfl rfl (by decide) (by decide) (fun q hq h => hk q hq (fun z => h (fm_inA z))) (fun _ _ => trivial) hB (fm_DA (X_d_tc hD χ) (fun q hq => fm_inA hq))).1.sub [0, 1, 2, 3, 4, 60, 61, 62, 63, 64, 65, 66, 67, 68, 69, 70, 49, 50, 51, 52, 53, 54, 55, 56, 57, 58, 59, 5, 6, 7, 8, 9, 10, 11, 12, 13, 14, 15, 16, 17, 18, 19, 20, 21, 22, 23, 24, 25, 26, 27, 28, 29, 30, 31, 32, 33, 34, 35, 36, 37, 38, 39, 40, 41, 42, 43, 44, 45, 46, 47, 48] rfl
set_option maxRecDepth 100000 in
theorem X_p_ct (hP : va_P D vwCl (xW cI cF b u0 u1 η τ) H) : va_P D vwCl (ppW cI (xPa (b 0) (b 1)) (xPm u0 u1)) H := hP.sub [5, 6, 7, 8, 9, 10, 11, 12, 13, 14, 15, 16, 17, 18, 19, 20, 21, 22, 23, 24, 25, 26] rfl
set_option maxRecDepth 100000 in
theorem X_d_ct (h : va_D (fun _ => True) (xW cI cF b u0 u1 η τ)) : ∀ φ2 : M2, va_D (fun _ => True) (ppW cI (xPa (b 0) (b 1)) φ2) := P_dT (φ := xPm u0 u1) (h.sub [5, 6, 7, 8, 9, 10, 11, 12, 13, 14, 15, 16, 17, 18, 19, 20, 21, 22, 23, 24, 25, 26] (by decide) rfl)
theorem X_a_ct {q : Nat} (h : ppA (xPa (b 0) (b 1)) q) : xA b q := by
  have h : q ∈ (List.range 11).map (b 0) ++ (List.range 11).map (b 1) := h
  unfold xA xAd
  simp only [List.mem_append] at h ⊢
  rcases h with h | h
  · simp only [h, true_or, or_true]
  · simp only [h, true_or, or_true]
set_option maxRecDepth 100000 in
theorem X_set_ct {χ : M2} (hP : va_P D vwCl (xW cI cF b u0 u1 η τ) H) (hD : va_D (fun _ => True) (xW cI cF b u0 u1 η τ)) (hk : ∀ q : Nat, q < H.size → ¬ ppA (xPa (b 0) (b 1)) q → H1[q]? = H[q]?) (hB : va_P D vwCl (ppW cI (xPa (b 0) (b 1)) χ) H1) : va_P D vwCl (xW cI cF b χ (xsh χ) η τ) H1 :=
  (va_join (wc := fbW cI (b 0) u0 ++ fbW cI (b 1) u1) (wr := [(b 6 0, .inr (6, [.ref (b 0 0), .ref (b 1 0), .ref (b 6 1), .ref (b 7 0)])), (b 6 1, .inr (1, [.ref (b 6 2), .int η.2])), (b 6 2, .inl (cF, 4, .inr (.inr (.inr (.inr (fun j => some (b (j + 2) 0)))))))] ++ (tbW cI (b 7) τ ++ (fbW cI (b 2) (η.1 0) ++ (fbW cI (b 3) (η.1 1) ++ (fbW cI (b 4) (η.1 2) ++ (fbW cI (b 5) (η.1 3))))))) (w1 := ppW cI (xPa (b 0) (b 1)) χ) hP hD [5, 6, 7, 8, 9, 10, 11, 12, 13, 14, 15, 16, 17, 18, 19, 20, 21, 22, 23, 24, 25, 26] [0, 1, 2, 3, 4, 27, 28, 29, 30, 31, 32, 33, 34, 35, 36, 37, 38, 39, 40, 41, 42, 43, 44, 45, 46, 47, 48, 49, 50, 51, 52, 53, 54, 55, 56, 57, 58, 59, 60, 61, 62, 63, 64, 65, 66, 67, 68, 69, 70] rfl rfl (by decide) (by decide) (fun q hq h => hk q hq (fun z => h (fm_inA z))) (fun _ _ => trivial) hB (fm_DA (X_d_ct hD χ) (fun q hq => fm_inA hq))).1.sub [0, 1, 2, 3, 4, 49, 50, 51, 52, 53, 54, 55, 56, 57, 58, 59, 60, 61, 62, 63, 64, 65, 66, 67, 68, 69, 70, 5, 6, 7, 8, 9, 10, 11, 12, 13, 14, 15, 16, 17, 18, 19, 20, 21, 22, 23, 24, 25, 26, 27, 28, 29, 30, 31, 32, 33, 34, 35, 36, 37, 38, 39, 40, 41, 42, 43, 44, 45, 46, 47, 48] rfl
set_option maxRecDepth 100000 in
theorem X_p_push0 (hP : va_P D vwCl (xW cI cF b u0 u1 η τ) H) : va_P D vwCl (ppW cI (xPa (b 2) (b 0)) (xPm (η.1 0) u0)) H := hP.sub [27, 28, 29, 30, 31, 32, 33, 34, 35, 36, 37, 5, 6, 7, 8, 9, 10, 11, 12, 13, 14, 15] rfl
set_option maxRecDepth 100000 in
theorem X_d_push0 (h : va_D (fun _ => True) (xW cI cF b u0 u1 η τ)) : ∀ φ2 : M2, va_D (fun _ => True) (ppW cI (xPa (b 2) (b 0)) φ2) := P_dT (φ := xPm (η.1 0) u0) (h.sub [27, 28, 29, 30, 31, 32, 33, 34, 35, 36, 37, 5, 6, 7, 8, 9, 10, 11, 12, 13, 14, 15] (by decide) rfl)
theorem X_a_push0 {q : Nat} (h : ppA (xPa (b 2) (b 0)) q) : xA b q := by
  have h : q ∈ (List.range 11).map (b 2) ++ (List.range 11).map (b 0) := h
  unfold xA xAd
  simp only [List.mem_append] at h ⊢
  rcases h with h | h
  · simp only [h, true_or, or_true]
  · simp only [h, true_or, or_true]
set_option maxRecDepth 100000 in
theorem X_set_push0 {χ : M2} (hP : va_P D vwCl (xW cI cF b u0 u1 η τ) H) (hD : va_D (fun _ => True) (xW cI cF b u0 u1 η τ)) (hk : ∀ q : Nat, q < H.size → ¬ ppA (xPa (b 2) (b 0)) q → H1[q]? = H[q]?) (hB : va_P D vwCl (ppW cI (xPa (b 2) (b 0)) χ) H1) : va_P D vwCl (xW cI cF b (xsh χ) u1 (hup η 0 χ) τ) H1 :=
  (va_join (wc := fbW cI (b 2) (η.1 0) ++ fbW cI (b 0) u0) (wr := [(b 6 0, .inr (6, [.ref (b 0 0), .ref (b 1 0), .ref (b 6 1), .ref (b 7 0)])), (b 6 1, .inr (1, [.ref (b 6 2), .int η.2])), (b 6 2, .inl (cF, 4, .inr (.inr (.inr (.inr (fun j => some (b (j + 2) 0)))))))] ++ (tbW cI (b 7) τ ++ (fbW cI (b 1) u1 ++ (fbW cI (b 3) (η.1 1) ++ (fbW cI (b 4) (η.1 2) ++ (fbW cI (b 5) (η.1 3))))))) (w1 := ppW cI (xPa (b 2) (b 0)) χ) hP hD [27, 28, 29, 30, 31, 32, 33, 34, 35, 36, 37, 5, 6, 7, 8, 9, 10, 11, 12, 13, 14, 15] [0, 1, 2, 3, 4, 16, 17, 18, 19, 20, 21, 22, 23, 24, 25, 26, 38, 39, 40, 41, 42, 43, 44, 45, 46, 47, 48, 49, 50, 51, 52, 53, 54, 55, 56, 57, 58, 59, 60, 61, 62, 63, 64, 65, 66, 67, 68, 69, 70] rfl rfl (by decide) (by decide) (fun q hq h => hk q hq (fun z => h (fm_inA z))) (fun _ _ => trivial) hB (fm_DA (X_d_push0 hD χ) (fun q hq => fm_inA hq))).1.sub [0, 1, 2, 3, 4, 60, 61, 62, 63, 64, 65, 66, 67, 68, 69, 70, 5, 6, 7, 8, 9, 10, 11, 12, 13, 14, 15, 49, 50, 51, 52, 53, 54, 55, 56, 57, 58, 59, 16, 17, 18, 19, 20, 21, 22, 23, 24, 25, 26, 27, 28, 29, 30, 31, 32, 33, 34, 35, 36, 37, 38, 39, 40, 41, 42, 43, 44, 45, 46, 47, 48] rfl
set_option maxRecDepth 100000 in
theorem X_p_pop0 (hP : va_P D vwCl (xW cI cF b u0 u1 η τ) H) : va_P D vwCl (ppW cI (xPa (b 0) (b 2)) (xPm u0 (η.1 0))) H := hP.sub [5, 6, 7, 8, 9, 10, 11, 12, 13, 14, 15, 27, 28, 29, 30, 31, 32, 33, 34, 35, 36, 37] rfl
set_option maxRecDepth 100000 in
theorem X_d_pop0 (h : va_D (fun _ => True) (xW cI cF b u0 u1 η τ)) : ∀ φ2 : M2, va_D (fun _ => True) (ppW cI (xPa (b 0) (b 2)) φ2) := P_dT (φ := xPm u0 (η.1 0)) (h.sub [5, 6, 7, 8, 9, 10, 11, 12, 13, 14, 15, 27, 28, 29, 30, 31, 32, 33, 34, 35, 36, 37] (by decide) rfl)
theorem X_a_pop0 {q : Nat} (h : ppA (xPa (b 0) (b 2)) q) : xA b q := by
  have h : q ∈ (List.range 11).map (b 0) ++ (List.range 11).map (b 2) := h
  unfold xA xAd
  simp only [List.mem_append] at h ⊢
  rcases h with h | h
  · simp only [h, true_or, or_true]
  · simp only [h, true_or, or_true]
set_option maxRecDepth 100000 in
theorem X_set_pop0 {χ : M2} (hP : va_P D vwCl (xW cI cF b u0 u1 η τ) H) (hD : va_D (fun _ => True) (xW cI cF b u0 u1 η τ)) (hk : ∀ q : Nat, q < H.size → ¬ ppA (xPa (b 0) (b 2)) q → H1[q]? = H[q]?) (hB : va_P D vwCl (ppW cI (xPa (b 0) (b 2)) χ) H1) : va_P D vwCl (xW cI cF b χ u1 (hup η 0 (xsh χ)) τ) H1 :=
  (va_join (wc := fbW cI (b 0) u0 ++ fbW cI (b 2) (η.1 0)) (wr := [(b 6 0, .inr (6, [.ref (b 0 0), .ref (b 1 0), .ref (b 6 1), .ref (b 7 0)])), (b 6 1, .inr (1, [.ref (b 6 2), .int η.2])), (b 6 2, .inl (cF, 4, .inr (.inr (.inr (.inr (fun j => some (b (j + 2) 0)))))))] ++ (tbW cI (b 7) τ ++ (fbW cI (b 1) u1 ++ (fbW cI (b 3) (η.1 1) ++ (fbW cI (b 4) (η.1 2) ++ (fbW cI (b 5) (η.1 3))))))) (w1 := ppW cI (xPa (b 0) (b 2)) χ) hP hD [5, 6, 7, 8, 9, 10, 11, 12, 13, 14, 15, 27, 28, 29, 30, 31, 32, 33, 34, 35, 36, 37] [0, 1, 2, 3, 4, 16, 17, 18, 19, 20, 21, 22, 23, 24, 25, 26, 38, 39, 40, 41, 42, 43, 44, 45, 46, 47, 48, 49, 50, 51, 52, 53, 54, 55, 56, 57, 58, 59, 60, 61, 62, 63, 64, 65, 66, 67, 68, 69, 70] rfl rfl (by decide) (by decide) (fun q hq h => hk q hq (fun z => h (fm_inA z))) (fun _ _ => trivial) hB (fm_DA (X_d_pop0 hD χ) (fun q hq => fm_inA hq))).1.sub [0, 1, 2, 3, 4, 49, 50, 51, 52, 53, 54, 55, 56, 57, 58, 59, 5, 6, 7, 8, 9, 10, 11, 12, 13, 14, 15, 60, 61, 62, 63, 64, 65, 66, 67, 68, 69, 70, 16, 17, 18, 19, 20, 21, 22, 23, 24, 25, 26, 27, 28, 29, 30, 31, 32, 33, 34, 35, 36, 37, 38, 39, 40, 41, 42, 43, 44, 45, 46, 47, 48] rfl
set_option maxRecDepth 100000 in
theorem X_p_push1 (hP : va_P D vwCl (xW cI cF b u0 u1 η τ) H) : va_P D vwCl (ppW cI (xPa (b 3) (b 0)) (xPm (η.1 1) u0)) H := hP.sub [38, 39, 40, 41, 42, 43, 44, 45, 46, 47, 48, 5, 6, 7, 8, 9, 10, 11, 12, 13, 14, 15] rfl
set_option maxRecDepth 100000 in
theorem X_d_push1 (h : va_D (fun _ => True) (xW cI cF b u0 u1 η τ)) : ∀ φ2 : M2, va_D (fun _ => True) (ppW cI (xPa (b 3) (b 0)) φ2) := P_dT (φ := xPm (η.1 1) u0) (h.sub [38, 39, 40, 41, 42, 43, 44, 45, 46, 47, 48, 5, 6, 7, 8, 9, 10, 11, 12, 13, 14, 15] (by decide) rfl)
theorem X_a_push1 {q : Nat} (h : ppA (xPa (b 3) (b 0)) q) : xA b q := by
  have h : q ∈ (List.range 11).map (b 3) ++ (List.range 11).map (b 0) := h
  unfold xA xAd
  simp only [List.mem_append] at h ⊢
  rcases h with h | h
  · simp only [h, true_or, or_true]
  · simp only [h, true_or, or_true]
set_option maxRecDepth 100000 in
theorem X_set_push1 {χ : M2} (hP : va_P D vwCl (xW cI cF b u0 u1 η τ) H) (hD : va_D (fun _ => True) (xW cI cF b u0 u1 η τ)) (hk : ∀ q : Nat, q < H.size → ¬ ppA (xPa (b 3) (b 0)) q → H1[q]? = H[q]?) (hB : va_P D vwCl (ppW cI (xPa (b 3) (b 0)) χ) H1) : va_P D vwCl (xW cI cF b (xsh χ) u1 (hup η 1 χ) τ) H1 :=
  (va_join (wc := fbW cI (b 3) (η.1 1) ++ fbW cI (b 0) u0) (wr := [(b 6 0, .inr (6, [.ref (b 0 0), .ref (b 1 0), .ref (b 6 1), .ref (b 7 0)])), (b 6 1, .inr (1, [.ref (b 6 2), .int η.2])), (b 6 2, .inl (cF, 4, .inr (.inr (.inr (.inr (fun j => some (b (j + 2) 0)))))))] ++ (tbW cI (b 7) τ ++ (fbW cI (b 1) u1 ++ (fbW cI (b 2) (η.1 0) ++ (fbW cI (b 4) (η.1 2) ++ (fbW cI (b 5) (η.1 3))))))) (w1 := ppW cI (xPa (b 3) (b 0)) χ) hP hD [38, 39, 40, 41, 42, 43, 44, 45, 46, 47, 48, 5, 6, 7, 8, 9, 10, 11, 12, 13, 14, 15] [0, 1, 2, 3, 4, 16, 17, 18, 19, 20, 21, 22, 23, 24, 25, 26, 27, 28, 29, 30, 31, 32, 33, 34, 35, 36, 37, 49, 50, 51, 52, 53, 54, 55, 56, 57, 58, 59, 60, 61, 62, 63, 64, 65, 66, 67, 68, 69, 70] rfl rfl (by decide) (by decide) (fun q hq h => hk q hq (fun z => h (fm_inA z))) (fun _ _ => trivial) hB (fm_DA (X_d_push1 hD χ) (fun q hq => fm_inA hq))).1.sub [0, 1, 2, 3, 4, 60, 61, 62, 63, 64, 65, 66, 67, 68, 69, 70, 5, 6, 7, 8, 9, 10, 11, 12, 13, 14, 15, 16, 17, 18, 19, 20, 21, 22, 23, 24, 25, 26, 49, 50, 51, 52, 53, 54, 55, 56, 57, 58, 59, 27, 28, 29, 30, 31, 32, 33, 34, 35, 36, 37, 38, 39, 40, 41, 42, 43, 44, 45, 46, 47, 48] rfl
set_option maxRecDepth 100000 in
theorem X_p_pop1 (hP : va_P D vwCl (xW cI cF b u0 u1 η τ) H) : va_P D vwCl (ppW cI (xPa (b 0) (b 3)) (xPm u0 (η.1 1))) H := hP.sub [5, 6, 7, 8, 9, 10, 11, 12, 13, 14, 15, 38, 39, 40, 41, 42, 43, 44, 45, 46, 47, 48] rfl
set_option maxRecDepth 100000 in
theorem X_d_pop1 (h : va_D (fun _ => True) (xW cI cF b u0 u1 η τ)) : ∀ φ2 : M2, va_D (fun _ => True) (ppW cI (xPa (b 0) (b 3)) φ2) := P_dT (φ := xPm u0 (η.1 1)) (h.sub [5, 6, 7, 8, 9, 10, 11, 12, 13, 14, 15, 38, 39, 40, 41, 42, 43, 44, 45, 46, 47, 48] (by decide) rfl)
theorem X_a_pop1 {q : Nat} (h : ppA (xPa (b 0) (b 3)) q) : xA b q := by
  have h : q ∈ (List.range 11).map (b 0) ++ (List.range 11).map (b 3) := h
  unfold xA xAd
  simp only [List.mem_append] at h ⊢
  rcases h with h | h
  · simp only [h, true_or, or_true]
  · simp only [h, true_or, or_true]
set_option maxRecDepth 100000 in
theorem X_set_pop1 {χ : M2} (hP : va_P D vwCl (xW cI cF b u0 u1 η τ) H) (hD : va_D (fun _ => True) (xW cI cF b u0 u1 η τ)) (hk : ∀ q : Nat, q < H.size → ¬ ppA (xPa (b 0) (b 3)) q → H1[q]? = H[q]?) (hB : va_P D vwCl (ppW cI (xPa (b 0) (b 3)) χ) H1) : va_P D vwCl (xW cI cF b χ u1 (hup η 1 (xsh χ)) τ) H1 :=
  (va_join (wc := fbW cI (b 0) u0 ++ fbW cI (b 3) (η.1 1)) (wr := [(b 6 0, .inr (6, [.ref (b 0 0), .ref (b 1 0), .ref (b 6 1), .ref (b 7 0)])), (b 6 1, .inr (1, [.ref (b 6 2), .int η.2])), (b 6 2, .inl (cF, 4, .inr (.inr (.inr (.inr (fun j => some (b (j + 2) 0)))))))] ++ (tbW cI (b 7) τ ++ (fbW cI (b 1) u1 ++ (fbW cI (b 2) (η.1 0) ++ (fbW cI (b 4) (η.1 2) ++ (fbW cI (b 5) (η.1 3))))))) (w1 := ppW cI (xPa (b 0) (b 3)) χ) hP hD [5, 6, 7, 8, 9, 10, 11, 12, 13, 14, 15, 38, 39, 40, 41, 42, 43, 44, 45, 46, 47, 48] [0, 1, 2, 3, 4, 16, 17, 18, 19, 20, 21, 22, 23, 24, 25, 26, 27, 28, 29, 30, 31, 32, 33, 34, 35, 36, 37, 49, 50, 51, 52, 53, 54, 55, 56, 57, 58, 59, 60, 61, 62, 63, 64, 65, 66, 67, 68, 69, 70] rfl rfl (by decide) (by decide) (fun q hq h => hk q hq (fun z => h (fm_inA z))) (fun _ _ => trivial) hB (fm_DA (X_d_pop1 hD χ) (fun q hq => fm_inA hq))).1.sub [0, 1, 2, 3, 4, 49, 50, 51, 52, 53, 54, 55, 56, 57, 58, 59, 5, 6, 7, 8, 9, 10, 11, 12, 13, 14, 15, 16, 17, 18, 19, 20, 21, 22, 23, 24, 25, 26, 60, 61, 62, 63, 64, 65, 66, 67, 68, 69, 70, 27, 28, 29, 30, 31, 32, 33, 34, 35, 36, 37, 38, 39, 40, 41, 42, 43, 44, 45, 46, 47, 48] rfl
set_option maxRecDepth 100000 in
theorem X_p_push2 (hP : va_P D vwCl (xW cI cF b u0 u1 η τ) H) : va_P D vwCl (ppW cI (xPa (b 4) (b 0)) (xPm (η.1 2) u0)) H := hP.sub [49, 50, 51, 52, 53, 54, 55, 56, 57, 58, 59, 5, 6, 7, 8, 9, 10, 11, 12, 13, 14, 15] rfl
set_option maxRecDepth 100000 in
theorem X_d_push2 (h : va_D (fun _ => True) (xW cI cF b u0 u1 η τ)) : ∀ φ2 : M2, va_D (fun _ => True) (ppW cI (xPa (b 4) (b 0)) φ2) := P_dT (φ := xPm (η.1 2) u0) (h.sub [49, 50, 51, 52, 53, 54, 55, 56, 57, 58, 59, 5, 6, 7, 8, 9, 10, 11, 12, 13, 14, 15] (by decide) rfl)
theorem X_a_push2 {q : Nat} (h : ppA (xPa (b 4) (b 0)) q) : xA b q := by
  have h : q ∈ (List.range 11).map (b 4) ++ (List.range 11).map (b 0) := h
  unfold xA xAd
  simp only [List.mem_append] at h ⊢
  rcases h with h | h
  · simp only [h, true_or, or_true]
  · simp only [h, true_or, or_true]
set_option maxRecDepth 100000 in
theorem X_set_push2 {χ : M2} (hP : va_P D vwCl (xW cI cF b u0 u1 η τ) H) (hD : va_D (fun _ => True) (xW cI cF b u0 u1 η τ)) (hk : ∀ q : Nat, q < H.size → ¬ ppA (xPa (b 4) (b 0)) q → H1[q]? = H[q]?) (hB : va_P D vwCl (ppW cI (xPa (b 4) (b 0)) χ) H1) : va_P D vwCl (xW cI cF b (xsh χ) u1 (hup η 2 χ) τ) H1 :=
  (va_join (wc := fbW cI (b 4) (η.1 2) ++ fbW cI (b 0) u0) (wr := [(b 6 0, .inr (6, [.ref (b 0 0), .ref (b 1 0), .ref (b 6 1), .ref (b 7 0)])), (b 6 1, .inr (1, [.ref (b 6 2), .int η.2])), (b 6 2, .inl (cF, 4, .inr (.inr (.inr (.inr (fun j => some (b (j + 2) 0)))))))] ++ (tbW cI (b 7) τ ++ (fbW cI (b 1) u1 ++ (fbW cI (b 2) (η.1 0) ++ (fbW cI (b 3) (η.1 1) ++ (fbW cI (b 5) (η.1 3))))))) (w1 := ppW cI (xPa (b 4) (b 0)) χ) hP hD [49, 50, 51, 52, 53, 54, 55, 56, 57, 58, 59, 5, 6, 7, 8, 9, 10, 11, 12, 13, 14, 15] [0, 1, 2, 3, 4, 16, 17, 18, 19, 20, 21, 22, 23, 24, 25, 26, 27, 28, 29, 30, 31, 32, 33, 34, 35, 36, 37, 38, 39, 40, 41, 42, 43, 44, 45, 46, 47, 48, 60, 61, 62, 63, 64, 65, 66, 67, 68, 69, 70] rfl rfl (by decide) (by decide) (fun q hq h => hk q hq (fun z => h (fm_inA z))) (fun _ _ => trivial) hB (fm_DA (X_d_push2 hD χ) (fun q hq => fm_inA hq))).1.sub [0, 1, 2, 3, 4, 60, 61, 62, 63, 64, 65, 66, 67, 68, 69, 70, 5, 6, 7, 8, 9, 10, 11, 12, 13, 14, 15, 16, 17, 18, 19, 20, 21, 22, 23, 24, 25, 26, 27, 28, 29, 30, 31, 32, 33, 34, 35, 36, 37, 49, 50, 51, 52, 53, 54, 55, 56, 57, 58, 59, 38, 39, 40, 41, 42, 43, 44, 45, 46, 47, 48] rfl
set_option maxRecDepth 100000 in
theorem X_p_pop2 (hP : va_P D vwCl (xW cI cF b u0 u1 η τ) H) : va_P D vwCl (ppW cI (xPa (b 0) (b 4)) (xPm u0 (η.1 2))) H := hP.sub [5, 6, 7, 8, 9, 10, 11, 12, 13, 14, 15, 49, 50, 51, 52, 53, 54, 55, 56, 57, 58, 59] rfl
set_option maxRecDepth 100000 in
theorem X_d_pop2 (h : va_D (fun _ => True) (xW cI cF b u0 u1 η τ)) : ∀ φ2 : M2, va_D (fun _ => True) (ppW cI (xPa (b 0) (b 4)) φ2) := P_dT (φ := xPm u0 (η.1 2)) (h.sub [5, 6, 7, 8, 9, 10, 11, 12, 13, 14, 15, 49, 50, 51, 52, 53, 54, 55, 56, 57, 58, 59] (by decide) rfl)
theorem X_a_pop2 {q : Nat} (h : ppA (xPa (b 0) (b 4)) q) : xA b q := by
  have h : q ∈ (List.range 11).map (b 0) ++ (List.range 11).map (b 4) := h
  unfold xA xAd
  simp only [List.mem_append] at h ⊢
  rcases h with h | h
  · simp only [h, true_or, or_true]
  · simp only [h, true_or, or_true]
set_option maxRecDepth 100000 in
theorem X_set_pop2 {χ : M2} (hP : va_P D vwCl (xW cI cF b u0 u1 η τ) H) (hD : va_D (fun _ => True) (xW cI cF b u0 u1 η τ)) (hk : ∀ q : Nat, q < H.size → ¬ ppA (xPa (b 0) (b 4)) q → H1[q]? = H[q]?) (hB : va_P D vwCl (ppW cI (xPa (b 0) (b 4)) χ) H1) : va_P D vwCl (xW cI cF b χ u1 (hup η 2 (xsh χ)) τ) H1 :=
  (va_join (wc := fbW cI (b 0) u0 ++ fbW cI (b 4) (η.1 2)) (wr := [(b 6 0, .inr (6, [.ref (b 0 0), .ref (b 1 0), .ref (b 6 1), .ref (b 7 0)])), (b 6 1, .inr (1, [.ref (b 6 2), .int η.2])), (b 6 2, .inl (cF, 4, .inr (.inr (.inr (.inr (fun j => some (b (j + 2) 0)))))))] ++ (tbW cI (b 7) τ ++ (fbW cI (b 1) u1 ++ (fbW cI (b 2) (η.1 0) ++ (fbW cI (b 3) (η.1 1) ++ (fbW cI (b 5) (η.1 3))))))) (w1 := ppW cI (xPa (b 0) (b 4)) χ) hP hD [5, 6, 7, 8, 9, 10, 11, 12, 13, 14, 15, 49, 50, 51, 52, 53, 54, 55, 56, 57, 58, 59] [0, 1, 2, 3, 4, 16, 17, 18, 19, 20, 21, 22, 23, 24, 25, 26, 27, 28, 29, 30, 31, 32, 33, 34, 35, 36, 37, 38, 39, 40, 41, 42, 43, 44, 45, 46, 47, 48, 60, 61, 62, 63, 64, 65, 66, 67, 68, 69, 70] rfl rfl (by decide) (by decide) (fun q hq h => hk q hq (fun z => h (fm_inA z))) (fun _ _ => trivial) hB (fm_DA (X_d_pop2 hD χ) (fun q hq => fm_inA hq))).1.sub [0, 1, 2, 3, 4, 49, 50, 51, 52, 53, 54, 55, 56, 57, 58, 59, 5, 6, 7, 8, 9, 10, 11, 12, 13, 14, 15, 16, 17, 18, 19, 20, 21, 22, 23, 24, 25, 26, 27, 28, 29, 30, 31, 32, 33, 34, 35, 36, 37, 60, 61, 62, 63, 64, 65, 66, 67, 68, 69, 70, 38, 39, 40, 41, 42, 43, 44, 45, 46, 47, 48] rfl
set_option maxRecDepth 100000 in
theorem X_p_push3 (hP : va_P D vwCl (xW cI cF b u0 u1 η τ) H) : va_P D vwCl (ppW cI (xPa (b 5) (b 0)) (xPm (η.1 3) u0)) H := hP.sub [60, 61, 62, 63, 64, 65, 66, 67, 68, 69, 70, 5, 6, 7, 8, 9, 10, 11, 12, 13, 14, 15] rfl
set_option maxRecDepth 100000 in
theorem X_d_push3 (h : va_D (fun _ => True) (xW cI cF b u0 u1 η τ)) : ∀ φ2 : M2, va_D (fun _ => True) (ppW cI (xPa (b 5) (b 0)) φ2) := P_dT (φ := xPm (η.1 3) u0) (h.sub [60, 61, 62, 63, 64, 65, 66, 67, 68, 69, 70, 5, 6, 7, 8, 9, 10, 11, 12, 13, 14, 15] (by decide) rfl)
theorem X_a_push3 {q : Nat} (h : ppA (xPa (b 5) (b 0)) q) : xA b q := by
  have h : q ∈ (List.range 11).map (b 5) ++ (List.range 11).map (b 0) := h
  unfold xA xAd
  simp only [List.mem_append] at h ⊢
  rcases h with h | h
  · simp only [h, true_or, or_true]
  · simp only [h, true_or, or_true]
set_option maxRecDepth 100000 in
theorem X_set_push3 {χ : M2} (hP : va_P D vwCl (xW cI cF b u0 u1 η τ) H) (hD : va_D (fun _ => True) (xW cI cF b u0 u1 η τ)) (hk : ∀ q : Nat, q < H.size → ¬ ppA (xPa (b 5) (b 0)) q → H1[q]? = H[q]?) (hB : va_P D vwCl (ppW cI (xPa (b 5) (b 0)) χ) H1) : va_P D vwCl (xW cI cF b (xsh χ) u1 (hup η 3 χ) τ) H1 :=
  (va_join (wc := fbW cI (b 5) (η.1 3) ++ fbW cI (b 0) u0) (wr := [(b 6 0, .inr (6, [.ref (b 0 0), .ref (b 1 0), .ref (b 6 1), .ref (b 7 0)])), (b 6 1, .inr (1, [.ref (b 6 2), .int η.2])), (b 6 2, .inl (cF, 4, .inr (.inr (.inr (.inr (fun j => some (b (j + 2) 0)))))))] ++ (tbW cI (b 7) τ ++ (fbW cI (b 1) u1 ++ (fbW cI (b 2) (η.1 0) ++ (fbW cI (b 3) (η.1 1) ++ (fbW cI (b 4) (η.1 2))))))) (w1 := ppW cI (xPa (b 5) (b 0)) χ) hP hD [60, 61, 62, 63, 64, 65, 66, 67, 68, 69, 70, 5, 6, 7, 8, 9, 10, 11, 12, 13, 14, 15] [0, 1, 2, 3, 4, 16, 17, 18, 19, 20, 21, 22, 23, 24, 25, 26, 27, 28, 29, 30, 31, 32, 33, 34, 35, 36, 37, 38, 39, 40, 41, 42, 43, 44, 45, 46, 47, 48, 49, 50, 51, 52, 53, 54, 55, 56, 57, 58, 59] rfl rfl (by decide) (by decide) (fun q hq h => hk q hq (fun z => h (fm_inA z))) (fun _ _ => trivial) hB (fm_DA (X_d_push3 hD χ) (fun q hq => fm_inA hq))).1.sub [0, 1, 2, 3, 4, 60, 61, 62, 63, 64, 65, 66, 67, 68, 69, 70, 5, 6, 7, 8, 9, 10, 11, 12, 13, 14, 15, 16, 17, 18, 19, 20, 21, 22, 23, 24, 25, 26, 27, 28, 29, 30, 31, 32, 33, 34, 35, 36, 37, 38, 39, 40, 41, 42, 43, 44, 45, 46, 47, 48, 49, 50, 51, 52, 53, 54, 55, 56, 57, 58, 59] rfl
set_option maxRecDepth 100000 in
theorem X_p_pop3 (hP : va_P D vwCl (xW cI cF b u0 u1 η τ) H) : va_P D vwCl (ppW cI (xPa (b 0) (b 5)) (xPm u0 (η.1 3))) H := hP.sub [5, 6, 7, 8, 9, 10, 11, 12, 13, 14, 15, 60, 61, 62, 63, 64, 65, 66, 67, 68, 69, 70] rfl
set_option maxRecDepth 100000 in
theorem X_d_pop3 (h : va_D (fun _ => True) (xW cI cF b u0 u1 η τ)) : ∀ φ2 : M2, va_D (fun _ => True) (ppW cI (xPa (b 0) (b 5)) φ2) := P_dT (φ := xPm u0 (η.1 3)) (h.sub [5, 6, 7, 8, 9, 10, 11, 12, 13, 14, 15, 60, 61, 62, 63, 64, 65, 66, 67, 68, 69, 70] (by decide) rfl)
theorem X_a_pop3 {q : Nat} (h : ppA (xPa (b 0) (b 5)) q) : xA b q := by
  have h : q ∈ (List.range 11).map (b 0) ++ (List.range 11).map (b 5) := h
  unfold xA xAd
  simp only [List.mem_append] at h ⊢
  rcases h with h | h
  · simp only [h, true_or, or_true]
  · simp only [h, true_or, or_true]
set_option maxRecDepth 100000 in
theorem X_set_pop3 {χ : M2} (hP : va_P D vwCl (xW cI cF b u0 u1 η τ) H) (hD : va_D (fun _ => True) (xW cI cF b u0 u1 η τ)) (hk : ∀ q : Nat, q < H.size → ¬ ppA (xPa (b 0) (b 5)) q → H1[q]? = H[q]?) (hB : va_P D vwCl (ppW cI (xPa (b 0) (b 5)) χ) H1) : va_P D vwCl (xW cI cF b χ u1 (hup η 3 (xsh χ)) τ) H1 :=
  (va_join (wc := fbW cI (b 0) u0 ++ fbW cI (b 5) (η.1 3)) (wr := [(b 6 0, .inr (6, [.ref (b 0 0), .ref (b 1 0), .ref (b 6 1), .ref (b 7 0)])), (b 6 1, .inr (1, [.ref (b 6 2), .int η.2])), (b 6 2, .inl (cF, 4, .inr (.inr (.inr (.inr (fun j => some (b (j + 2) 0)))))))] ++ (tbW cI (b 7) τ ++ (fbW cI (b 1) u1 ++ (fbW cI (b 2) (η.1 0) ++ (fbW cI (b 3) (η.1 1) ++ (fbW cI (b 4) (η.1 2))))))) (w1 := ppW cI (xPa (b 0) (b 5)) χ) hP hD [5, 6, 7, 8, 9, 10, 11, 12, 13, 14, 15, 60, 61, 62, 63, 64, 65, 66, 67, 68, 69, 70] [0, 1, 2, 3, 4, 16, 17, 18, 19, 20, 21, 22, 23, 24, 25, 26, 27, 28, 29, 30, 31, 32, 33, 34, 35, 36, 37, 38, 39, 40, 41, 42, 43, 44, 45, 46, 47, 48, 49, 50, 51, 52, 53, 54, 55, 56, 57, 58, 59] rfl rfl (by decide) (by decide) (fun q hq h => hk q hq (fun z => h (fm_inA z))) (fun _ _ => trivial) hB (fm_DA (X_d_pop3 hD χ) (fun q hq => fm_inA hq))).1.sub [0, 1, 2, 3, 4, 49, 50, 51, 52, 53, 54, 55, 56, 57, 58, 59, 5, 6, 7, 8, 9, 10, 11, 12, 13, 14, 15, 16, 17, 18, 19, 20, 21, 22, 23, 24, 25, 26, 27, 28, 29, 30, 31, 32, 33, 34, 35, 36, 37, 38, 39, 40, 41, 42, 43, 44, 45, 46, 47, 48, 60, 61, 62, 63, 64, 65, 66, 67, 68, 69, 70] rfl
end XQ
