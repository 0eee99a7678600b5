/-! the whole object: b 6 = [itself, history, its row], b 7 the text's cells, b 0 current, b 1 thought, b 2 .. b 5 the saved states -/
abbrev HT : Type := (Nat → M2) × Int32
abbrev Bf : Type := Nat → Nat → Nat
def xW (cI cF : ClassId) (b : Bf) (u0 u1 : M2) (η : HT) (τ : M2) : va_W := [(b 6 0, .inr (6, [.ref (b 0 0), .ref (b 1 0), .ref (b 6 1), .ref (b 7 0)])), (b 6 1, .inr (1, [.ref (b 6 2), .int η.2])), (b 6 2, .inl (cF, 4, .inr (.inr (.inr (.inr (fun j => some (b (j + 2) 0)))))))] ++ (tbW cI (b 7) τ ++ (fbW cI (b 0) u0 ++ (fbW cI (b 1) u1 ++ (fbW cI (b 2) (η.1 0) ++ (fbW cI (b 3) (η.1 1) ++ (fbW cI (b 4) (η.1 2) ++ fbW cI (b 5) (η.1 3)))))))
def xAd (b : Bf) : List Nat := [b 6 0, b 6 1, b 6 2] ++ ((List.range 2).map (b 7) ++ ((List.range 11).map (b 0) ++ ((List.range 11).map (b 1) ++ ((List.range 11).map (b 2) ++ ((List.range 11).map (b 3) ++ ((List.range 11).map (b 4) ++ (List.range 11).map (b 5)))))))
def xA (b : Bf) : Nat → Prop := fun q => q ∈ xAd b
def xFr (b : Bf) (sz : Nat) : Nat → Prop := fun q => xA b q ∨ sz ≤ q
abbrev xTy (cI cF : ClassId) : List (ClassId × FieldType) := [(cI, .int), (cF, .object "CuckooAudit$Filter")]
def xP (D : va_G) (cI cF : ClassId) (b : Bf) (u0 u1 : M2) (η : HT) (τ : M2) (U : State) : Prop := va_P D vwCl (xW cI cF b u0 u1 η τ) U.heap ∧ va_K D vwCl (xTy cI cF) U ∧ va_D (fun _ => True) (xW cI cF b u0 u1 η τ) ∧ xT U ∧ xZ (xA b) U U.heap
def xPa (a a2 : Nat → Nat) : Nat → Nat := fun j => if j < 11 then a j else a2 (j - 11)
def xPm (φ ψ : M2) : M2 := fun j => if j < 11 then φ j else ψ (j - 11)
def xsh (q : M2) : M2 := fun j => q (j + 11)
def xSame (b u : Bf) : Prop := u 0 = b 0 ∧ u 1 = b 1 ∧ u 6 = b 6 ∧ u 7 = b 7 ∧ ∀ q, xA u q → xA b q
theorem fm_inA {ws : va_W} {sz q : Nat} (h : q ∈ ws.map (fun q => q.1)) : va_A ws sz q := by
  obtain ⟨e, he, rfl⟩ := List.mem_map.mp h
  obtain ⟨k, hk⟩ := List.getElem?_of_mem he
  exact Or.inl ⟨k, e.2, hk⟩
theorem fm_ofA {ws : va_W} {sz q : Nat} (hq : q < sz) (h : va_A ws sz q) : q ∈ ws.map (fun q => q.1) := by
  rcases h with ⟨k, e, h⟩ | h
  · exact List.mem_map.mpr ⟨(q, e), List.mem_of_getElem? h, rfl⟩
  · omega
section XK
variable {cI cF : ClassId} {b : Bf} {u0 u1 v0 v1 : M2} {η η' : HT} {τ τ' : M2} {D : va_G} {H H1 : Heap} {s : State}
theorem X_k (hK : va_K D vwCl (xTy cI cF) s) : va_K D vwCl [(cI, .int)] s := hK.sub [0] rfl
theorem X_D (h : va_D (fun _ => True) (xW cI cF b u0 u1 η τ)) : ∀ (v0 v1 : M2) (η' : HT) (τ' : M2), va_D (fun _ => True) (xW cI cF b v0 v1 η' τ') := fun v0 v1 η' τ' => fm_D (ws := xW cI cF b u0 u1 η τ) rfl h
theorem X_p_cur (hP : va_P D vwCl (xW cI cF b u0 u1 η τ) H) : va_P D vwCl (fbW cI (b 0) u0) H := hP.sub [5, 6, 7, 8, 9, 10, 11, 12, 13, 14, 15] rfl
theorem X_d_cur (h : va_D (fun _ => True) (xW cI cF b u0 u1 η τ)) : ∀ φ2 : M2, va_D (fun _ => True) (fbW cI (b 0) φ2) := F_dT (φ := u0) (h.sub [5, 6, 7, 8, 9, 10, 11, 12, 13, 14, 15] (by decide) rfl)
theorem X_a_cur {q : Nat} (h : fbA (b 0) q) : xA b q := by
  unfold fbA at h
  unfold xA xAd
  simp only [List.mem_append]
  simp only [h, true_or, or_true]
theorem X_p_tho (hP : va_P D vwCl (xW cI cF b u0 u1 η τ) H) : va_P D vwCl (fbW cI (b 1) u1) H := hP.sub [16, 17, 18, 19, 20, 21, 22, 23, 24, 25, 26] rfl
theorem X_d_tho (h : va_D (fun _ => True) (xW cI cF b u0 u1 η τ)) : ∀ φ2 : M2, va_D (fun _ => True) (fbW cI (b 1) φ2) := F_dT (φ := u1) (h.sub [16, 17, 18, 19, 20, 21, 22, 23, 24, 25, 26] (by decide) rfl)
theorem X_a_tho {q : Nat} (h : fbA (b 1) q) : xA b q := by
  unfold fbA at h
  unfold xA xAd
  simp only [List.mem_append]
  simp only [h, true_or, or_true]
theorem X_p_txt (hP : va_P D vwCl (xW cI cF b u0 u1 η τ) H) : va_P D vwCl (tbW cI (b 7) τ) H := hP.sub [3, 4] rfl
theorem X_d_txt (h : va_D (fun _ => True) (xW cI cF b u0 u1 η τ)) : ∀ φ2 : M2, va_D (fun _ => True) (tbW cI (b 7) φ2) := T_dT (φ := τ) (h.sub [3, 4] (by decide) rfl)
theorem X_a_txt {q : Nat} (h : tbA (b 7) q) : xA b q := by
  unfold tbA at h
  unfold xA xAd
  simp only [List.mem_append]
  simp only [h, true_or, or_true]
theorem X_p_s0 (hP : va_P D vwCl (xW cI cF b u0 u1 η τ) H) : va_P D vwCl (fbW cI (b 2) (η.1 0)) H := hP.sub [27, 28, 29, 30, 31, 32, 33, 34, 35, 36, 37] rfl
theorem X_d_s0 (h : va_D (fun _ => True) (xW cI cF b u0 u1 η τ)) : ∀ φ2 : M2, va_D (fun _ => True) (fbW cI (b 2) φ2) := F_dT (φ := η.1 0) (h.sub [27, 28, 29, 30, 31, 32, 33, 34, 35, 36, 37] (by decide) rfl)
theorem X_a_s0 {q : Nat} (h : fbA (b 2) q) : xA b q := by
  unfold fbA at h
  unfold xA xAd
  simp only [List.mem_append]
  simp only [h, true_or, or_true]
theorem X_p_s1 (hP : va_P D vwCl (xW cI cF b u0 u1 η τ) H) : va_P D vwCl (fbW cI (b 3) (η.1 1)) H := hP.sub [38, 39, 40, 41, 42, 43, 44, 45, 46, 47, 48] rfl
theorem X_d_s1 (h : va_D (fun _ => True) (xW cI cF b u0 u1 η τ)) : ∀ φ2 : M2, va_D (fun _ => True) (fbW cI (b 3) φ2) := F_dT (φ := η.1 1) (h.sub [38, 39, 40, 41, 42, 43, 44, 45, 46, 47, 48] (by decide) rfl)
theorem X_a_s1 {q : Nat} (h : fbA (b 3) q) : xA b q := by
  unfold fbA at h
  unfold xA xAd
  simp only [List.mem_append]
  simp only [h, true_or, or_true]
theorem X_p_s2 (hP : va_P D vwCl (xW cI cF b u0 u1 η τ) H) : va_P D vwCl (fbW cI (b 4) (η.1 2)) H := hP.sub [49, 50, 51, 52, 53, 54, 55, 56, 57, 58, 59] rfl
theorem X_d_s2 (h : va_D (fun _ => True) (xW cI cF b u0 u1 η τ)) : ∀ φ2 : M2, va_D (fun _ => True) (fbW cI (b 4) φ2) := F_dT (φ := η.1 2) (h.sub [49, 50, 51, 52, 53, 54, 55, 56, 57, 58, 59] (by decide) rfl)
theorem X_a_s2 {q : Nat} (h : fbA (b 4) q) : xA b q := by
  unfold fbA at h
  unfold xA xAd
  simp only [List.mem_append]
  simp only [h, true_or, or_true]
theorem X_p_s3 (hP : va_P D vwCl (xW cI cF b u0 u1 η τ) H) : va_P D vwCl (fbW cI (b 5) (η.1 3)) H := hP.sub [60, 61, 62, 63, 64, 65, 66, 67, 68, 69, 70] rfl
theorem X_d_s3 (h : va_D (fun _ => True) (xW cI cF b u0 u1 η τ)) : ∀ φ2 : M2, va_D (fun _ => True) (fbW cI (b 5) φ2) := F_dT (φ := η.1 3) (h.sub [60, 61, 62, 63, 64, 65, 66, 67, 68, 69, 70] (by decide) rfl)
theorem X_a_s3 {q : Nat} (h : fbA (b 5) q) : xA b q := by
  unfold fbA at h
  unfold xA xAd
  simp only [List.mem_append]
  simp only [h, true_or, or_true]
set_option maxRecDepth 100000 in
theorem X_set_cur {φ : M2} (hP : va_P D vwCl (xW cI cF b u0 u1 η τ) H) (hD : va_D (fun _ => True) (xW cI cF b u0 u1 η τ)) (hk : ∀ q : Nat, q < H.size → ¬ fbA (b 0) q → H1[q]? = H[q]?) (hB : va_P D vwCl (fbW cI (b 0) φ) H1) : va_P D vwCl (xW cI cF b φ u1 η τ) H1 :=
  (va_join (wc := fbW cI (b 0) u0) (wr := [(b 6 0, .inr (6, [.ref (b 0 0), .ref (b 1 0), .ref (b 6 1), .ref (b 7 0)])), (b 6 1, .inr (1, [.ref (b 6 2), .int η.2])), (b 6 2, .inl (cF, 4, .inr (.inr (.inr (.inr (fun j => some (b (j + 2) 0)))))))] ++ (tbW cI (b 7) τ ++ (fbW cI (b 1) u1 ++ (fbW cI (b 2) (η.1 0) ++ (fbW cI (b 3) (η.1 1) ++ (fbW cI (b 4) (η.1 2) ++ (fbW cI (b 5) (η.1 3)))))))) (w1 := fbW cI (b 0) φ) hP hD [5, 6, 7, 8, 9, 10, 11, 12, 13, 14, 15] [0, 1, 2, 3, 4, 16, 17, 18, 19, 20, 21, 22, 23, 24, 25, 26, 27, 28, 29, 30, 31, 32, 33, 34, 35, 36, 37, 38, 39, 40, 41, 42, 43, 44, 45, 46, 47, 48, 49, 50, 51, 52, 53, 54, 55, 56, 57, 58, 59, 60, 61, 62, 63, 64, 65, 66, 67, 68, 69, 70] rfl rfl (by decide) (by decide) (fun q hq h => hk q hq (fun z => h (fm_inA z))) (fun _ _ => trivial) hB (fm_DA (X_d_cur hD φ) (fun q hq => fm_inA hq))).1.sub [0, 1, 2, 3, 4, 60, 61, 62, 63, 64, 65, 66, 67, 68, 69, 70, 5, 6, 7, 8, 9, 10, 11, 12, 13, 14, 15, 16, 17, 18, 19, 20, 21, 22, 23, 24, 25, 26, 27, 28, 29, 30, 31, 32, 33, 34, 35, 36, 37, 38, 39, 40, 41, 42, 43, 44, 45, 46, 47, 48, 49, 50, 51, 52, 53, 54, 55, 56, 57, 58, 59] rfl
set_option maxRecDepth 100000 in
theorem X_set_tho {φ : M2} (hP : va_P D vwCl (xW cI cF b u0 u1 η τ) H) (hD : va_D (fun _ => True) (xW cI cF b u0 u1 η τ)) (hk : ∀ q : Nat, q < H.size → ¬ fbA (b 1) q → H1[q]? = H[q]?) (hB : va_P D vwCl (fbW cI (b 1) φ) H1) : va_P D vwCl (xW cI cF b u0 φ η τ) H1 :=
  (va_join (wc := fbW cI (b 1) u1) (wr := [(b 6 0, .inr (6, [.ref (b 0 0), .ref (b 1 0), .ref (b 6 1), .ref (b 7 0)])), (b 6 1, .inr (1, [.ref (b 6 2), .int η.2])), (b 6 2, .inl (cF, 4, .inr (.inr (.inr (.inr (fun j => some (b (j + 2) 0)))))))] ++ (tbW cI (b 7) τ ++ (fbW cI (b 0) u0 ++ (fbW cI (b 2) (η.1 0) ++ (fbW cI (b 3) (η.1 1) ++ (fbW cI (b 4) (η.1 2) ++ (fbW cI (b 5) (η.1 3)))))))) (w1 := fbW cI (b 1) φ) hP hD [16, 17, 18, 19, 20, 21, 22, 23, 24, 25, 26] [0, 1, 2, 3, 4, 5, 6, 7, 8, 9, 10, 11, 12, 13, 14, 15, 27, 28, 29, 30, 31, 32, 33, 34, 35, 36, 37, 38, 39, 40, 41, 42, 43, 44, 45, 46, 47, 48, 49, 50, 51, 52, 53, 54, 55, 56, 57, 58, 59, 60, 61, 62, 63, 64, 65, 66, 67, 68, 69, 70] rfl rfl (by decide) (by decide) (fun q hq h => hk q hq (fun z => h (fm_inA z))) (fun _ _ => trivial) hB (fm_DA (X_d_tho hD φ) (fun q hq => fm_inA hq))).1.sub [0, 1, 2, 3, 4, 5, 6, 7, 8, 9, 10, 11, 12, 13, 14, 15, 60, 61, 62, 63, 64, 65, 66, 67, 68, 69, 70, 16, 17, 18, 19, 20, 21, 22, 23, 24, 25, 26, 27, 28, 29, 30, 31, 32, 33, 34, 35, 36, 37, 38, 39, 40, 41, 42, 43, 44, 45, 46, 47, 48, 49, 50, 51, 52, 53, 54, 55, 56, 57, 58, 59] rfl
set_option maxRecDepth 100000 in
theorem X_set_txt {φ : M2} (hP : va_P D vwCl (xW cI cF b u0 u1 η τ) H) (hD : va_D (fun _ => True) (xW cI cF b u0 u1 η τ)) (hk : ∀ q : Nat, q < H.size → ¬ tbA (b 7) q → H1[q]? = H[q]?) (hB : va_P D vwCl (tbW cI (b 7) φ) H1) : va_P D vwCl (xW cI cF b u0 u1 η φ) H1 :=
  (va_join (wc := tbW cI (b 7) τ) (wr := [(b 6 0, .inr (6, [.ref (b 0 0), .ref (b 1 0), .ref (b 6 1), .ref (b 7 0)])), (b 6 1, .inr (1, [.ref (b 6 2), .int η.2])), (b 6 2, .inl (cF, 4, .inr (.inr (.inr (.inr (fun j => some (b (j + 2) 0)))))))] ++ (fbW cI (b 0) u0 ++ (fbW cI (b 1) u1 ++ (fbW cI (b 2) (η.1 0) ++ (fbW cI (b 3) (η.1 1) ++ (fbW cI (b 4) (η.1 2) ++ (fbW cI (b 5) (η.1 3)))))))) (w1 := tbW cI (b 7) φ) hP hD [3, 4] [0, 1, 2, 5, 6, 7, 8, 9, 10, 11, 12, 13, 14, 15, 16, 17, 18, 19, 20, 21, 22, 23, 24, 25, 26, 27, 28, 29, 30, 31, 32, 33, 34, 35, 36, 37, 38, 39, 40, 41, 42, 43, 44, 45, 46, 47, 48, 49, 50, 51, 52, 53, 54, 55, 56, 57, 58, 59, 60, 61, 62, 63, 64, 65, 66, 67, 68, 69, 70] rfl rfl (by decide) (by decide) (fun q hq h => hk q hq (fun z => h (fm_inA z))) (fun _ _ => trivial) hB (fm_DA (X_d_txt hD φ) (fun q hq => fm_inA hq))).1.sub [0, 1, 2, 69, 70, 3, 4, 5, 6, 7, 8, 9, 10, 11, 12, 13, 14, 15, 16, 17, 18, 19, 20, 21, 22, 23, 24, 25, 26, 27, 28, 29, 30, 31, 32, 33, 34, 35, 36, 37, 38, 39, 40, 41, 42, 43, 44, 45, 46, 47, 48, 49, 50, 51, 52, 53, 54, 55, 56, 57, 58, 59, 60, 61, 62, 63, 64, 65, 66, 67, 68] rfl
end XK
