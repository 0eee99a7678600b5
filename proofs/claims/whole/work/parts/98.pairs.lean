/-! the pure layer: pairs, first part -/
theorem u55 (ψ : M2) (v : Int32) : upd2 ψ 0 5 v 0 5 = v := by rw [upd2_e, if_pos ⟨rfl, rfl⟩]
theorem u51 (ψ : M2) (v : Int32) : upd2 ψ 0 5 v 1 = ψ 1 := upd2_o (by decide)
theorem zn_B : ((nI 1 = nI 0) = False) ∧ (((1 : Nat) = 0) = False) ∧ ((nI 2 = nI 0) = False) ∧ (((2 : Nat) = 0) = False) := ⟨eq_false (by decide), eq_false (by decide), eq_false (by decide), eq_false (by decide)⟩
theorem zp_in (p : Int32) (a b : Nat) (hb : b < 2 ^ 31) (ha : a < 2 ^ 31) : (∃ x, a ≤ x ∧ x ≤ b ∧ p = nI x ∧ G_X8_within p (nI a) (nI b) = nI 1 ∧ G_X9_in p (nI a) (nI b) = nI 1) ∨ (G_X8_within p (nI a) (nI b) = nI 0 ∧ G_X9_in p (nI a) (nI b) = nI 0) := by
  unfold G_X8_within G_X9_in
  by_cases h1 : p < nI a
  · exact Or.inr ⟨by rw [if_pos h1]; rfl, by rw [if_pos h1]; rfl⟩
  · by_cases h2 : nI b < p
    · exact Or.inr ⟨by rw [if_neg h1, if_pos h2]; rfl, by rw [if_neg h1, if_pos h2]; rfl⟩
    · have h0 : ¬ p < 0 := by
        intro z
        apply h1
        have z1 := Int32.lt_iff_toInt_lt.mp z
        apply Int32.lt_iff_toInt_lt.mpr
        rw [nI_toInt ha]
        have : (0 : Int32).toInt = 0 := by decide
        omega
      obtain ⟨j, hj, e⟩ := nI_of h0
      refine Or.inl ⟨j, ?_, ?_, e, by rw [if_neg h1, if_neg h2]; rfl, by rw [if_neg h1, if_neg h2]; rfl⟩
      · rw [e, nI_ltI hj ha] at h1
        omega
      · rw [e, nI_ltI hb hj] at h2
        omega
theorem zp_key (p : Int32) : (∃ x, x < 1000 ∧ p = nI x ∧ G_X8_checkKey p = nI 1 ∧ G_X9_isKey p = nI 1) ∨ (G_X8_checkKey p = nI 0 ∧ G_X9_isKey p = nI 0) := by
  rcases zp_in p 0 999 (by decide) (by decide) with ⟨x, h1, h2, h3, h4, h5⟩ | ⟨h4, h5⟩
  · exact Or.inl ⟨x, by omega, h3, h4, h5⟩
  · exact Or.inr ⟨h4, h5⟩
theorem zp_up (p : Int32) (n : Nat) (hn : n < 2 ^ 31) : (∃ x, x < n ∧ p = nI x ∧ G_X8_within p (nI 0) (nI n - nI 1) = nI 1 ∧ G_X9_in p (nI 0) (nI n - nI 1) = nI 1) ∨ (G_X8_within p (nI 0) (nI n - nI 1) = nI 0 ∧ G_X9_in p (nI 0) (nI n - nI 1) = nI 0) := by
  cases n with
  | zero =>
    refine Or.inr ?_
    have e : nI 0 - nI 1 = mI := by decide
    rw [e]
    unfold G_X8_within G_X9_in
    by_cases h1 : p < nI 0
    · exact ⟨by rw [if_pos h1]; rfl, by rw [if_pos h1]; rfl⟩
    · have h2 : mI < p := by
        apply Int32.lt_iff_toInt_lt.mpr
        have h3 : ¬ p.toInt < (nI 0).toInt := fun z => h1 (Int32.lt_iff_toInt_lt.mpr z)
        rw [zn_mt]
        rw [nI_toInt (by decide)] at h3
        omega
      exact ⟨by rw [if_neg h1, if_pos h2]; rfl, by rw [if_neg h1, if_pos h2]; rfl⟩
  | succ n =>
    rw [pk_sub (Nat.le_add_left 1 n)]
    rcases zp_in p 0 n (by omega) (by decide) with ⟨x, h1, h2, h3, h4, h5⟩ | ⟨h4, h5⟩
    · exact Or.inl ⟨x, by omega, h3, h4, h5⟩
    · exact Or.inr ⟨h4, h5⟩
/-- what keeps the relation -/
theorem zRl_f {u0 φ φ' : M2} {η : HT} {τ ψ ψ' : M2} {hv hv' : Int64} (h : zRl u0 φ η τ ψ hv) (h1 : ψ' 1 = ψ 1) (h2 : ψ' 2 = ψ 2) (h3 : ψ' 3 = ψ 3) (h02 : ψ' 0 2 = ψ 0 2) (h04 : ψ' 0 4 = ψ 0 4) : zRl u0 φ' η τ ψ' hv' := by
  obtain ⟨S, V, X, ⟨a1, a2, a3⟩, ⟨b1, b2, b3⟩, d1, d2, d3, d4⟩ := h
  refine ⟨S, V, X, ⟨a1, by rw [h1]; exact a2, a3⟩, ⟨b1, ⟨by rw [h02]; exact b2.1, fun i T hT => by rw [h2]; exact b2.2 i T hT⟩, b3⟩, d1, d2, by rw [h04]; exact d3, fun i x hx => by rw [h3]; exact d4 i x hx⟩
theorem zRl_5 {u0 φ φ' : M2} {η : HT} {τ ψ : M2} {hv hv' : Int64} (h : zRl u0 φ η τ ψ hv) (v : Int32) : zRl u0 φ' η τ (upd2 ψ 0 5 v) hv' :=
  zRl_f h (upd2_o (by decide)) (upd2_o (by decide)) (upd2_o (by decide)) (by rw [upd2_e, if_neg (by decide)]) (by rw [upd2_e, if_neg (by decide)])
section PK
variable {N : Nat}
theorem pq_0 (hN : 5000 ≤ N) : Pk0 N zRl := by
  intro u0 φ η τ ψ hv p1 hrel
  obtain ⟨S, V, X, ⟨hR, hM, hF⟩, hVV, hT⟩ := id hrel
  have hcd : ∀ x, cd x S.1.2.2.2.1 < 1048576 := fun x => cd_lt _ _
  rcases zp_key p1 with ⟨x, hx, rfl, k1, k2⟩ | ⟨k1, k2⟩
  · refine ⟨0, nI (tg x S.1.2.2.2.1), u0, φ, η, τ, nI (tg x S.1.2.2.2.1), upd2 ψ 0 5 (nI 0), ?_, Or.inl rfl, ?_, u55 _ _, fun _ => rfl, zRl_5 hrel _⟩
    · simp only [G_X8_tag, zn_L, zn_R, k1, zn_B, if_false, zc_code hR.1 hF.1 hx, zc_tag (hcd x)]
      rfl
    · simp only [G_X9_tag, zn_L, zn_R, k2, zn_B, if_false, u55, if_true]
      rw [zm_tag (by rw [u51]; exact hM.1) hF.1 hx]
      rfl
  · refine ⟨1, nI 0, u0, φ, η, τ, nI 0, upd2 ψ 0 5 (nI 1), ?_, Or.inr rfl, ?_, u55 _ _, fun _ => rfl, zRl_5 hrel _⟩
    · simp only [G_X8_tag, zn_L, k1, if_true]
    · simp only [G_X9_tag, zn_L, zn_R, k2, if_true, u55, zn_B, if_false]
theorem pq_1 (hN : 5000 ≤ N) : Pk1 N zRl := by
  intro u0 φ η τ ψ hv p1 hrel
  obtain ⟨S, V, X, ⟨hR, hM, hF⟩, hVV, hT⟩ := id hrel
  have hcd : ∀ x, cd x S.1.2.2.2.1 < 1048576 := fun x => cd_lt _ _
  rcases zp_key p1 with ⟨x, hx, rfl, k1, k2⟩ | ⟨k1, k2⟩
  · refine ⟨0, nI (cd x S.1.2.2.2.1 % 16384), u0, φ, η, τ, nI (cd x S.1.2.2.2.1 % 16384), upd2 ψ 0 5 (nI 0), ?_, Or.inl rfl, ?_, u55 _ _, fun _ => rfl, zRl_5 hrel _⟩
    · simp only [G_X8_body, zn_L, zn_R, k1, zn_B, if_false, zc_code hR.1 hF.1 hx, zc_body (hcd x)]
    · simp only [G_X9_body, zn_L, zn_R, k2, zn_B, if_false, u55, if_true]
      rw [zm_body (by rw [u51]; exact hM.1) hF.1 hx]
      rfl
  · refine ⟨1, nI 0, u0, φ, η, τ, nI 0, upd2 ψ 0 5 (nI 1), ?_, Or.inr rfl, ?_, u55 _ _, fun _ => rfl, zRl_5 hrel _⟩
    · simp only [G_X8_body, zn_L, k1, if_true]
    · simp only [G_X9_body, zn_L, zn_R, k2, if_true, u55, zn_B, if_false]
theorem pq_2 (hN : 5000 ≤ N) : Pk2 N zRl := by
  intro u0 φ η τ ψ hv p1 p2 hrel hp2
  obtain ⟨S, V, X, ⟨hR, hM, hF⟩, hVV, hT⟩ := id hrel
  rcases zp_key p1 with ⟨x, hx, rfl, k1, k2⟩ | ⟨k1, k2⟩
  · have he := nE_ok hF.1 x
    rcases hp2 with rfl | rfl
    · refine ⟨0, nI (nE S.1 x).2.1, u0, φ, η, τ, nI (nE S.1 x).2.1, upd2 ψ 0 5 (nI 0), ?_, Or.inl rfl, ?_, u55 _ _, fun _ => rfl, zRl_5 hrel _⟩
      · simp only [G_X8_bucket, zn_L, zn_R, k1, zn_B, if_false, if_true, zc_new hR.1 hF.1 hx, (zc_et hF.1.1.2 he).2.1]
      · simp only [G_X9_bucket, J_X9_bucket_13, zn_L, zn_R, k2, zn_B, if_false, u55, if_true]
        rw [zm_home (by rw [u51]; exact hM.1) hF.1 hx]
        rfl
    · refine ⟨0, nI (oth S.1.1 (nE S.1 x).2.1 (nE S.1 x).1), u0, φ, η, τ, nI (oth S.1.1 (nE S.1 x).2.1 (nE S.1 x).1), upd2 ψ 0 5 (nI 0), ?_, Or.inl rfl, ?_, u55 _ _, fun _ => rfl, zRl_5 hrel _⟩
      · simp only [G_X8_bucket, zn_L, zn_R, k1, zn_B, if_false, if_true, zc_new hR.1 hF.1 hx, zc_other hR.1 hF.1 he]
      · simp only [G_X9_bucket, J_X9_bucket_13, zn_L, zn_R, k2, zn_B, if_false, u55, if_true]
        rw [zm_other (by rw [u51]; exact hM.1) hF.1 hx]
        rfl
  · refine ⟨1, nI 0, u0, φ, η, τ, nI 0, upd2 ψ 0 5 (nI 1), ?_, Or.inr rfl, ?_, u55 _ _, fun _ => rfl, zRl_5 hrel _⟩
    · simp only [G_X8_bucket, zn_L, k1, if_true]
    · simp only [G_X9_bucket, J_X9_bucket_13, zn_L, zn_R, k2, if_true, u55, zn_B, if_false]
theorem pq_3 (hN : 5000 ≤ N) : Pk3 N zRl := by
  intro u0 φ η τ ψ hv p1 hrel
  obtain ⟨S, V, X, ⟨hR, hM, hF⟩, hVV, hT⟩ := id hrel
  rcases zp_key p1 with ⟨x, hx, rfl, k1, k2⟩ | ⟨k1, k2⟩
  · have hpl := zm_placeOf (ψ := upd2 ψ 0 5 (nI 0)) (P := S.1) (c := S.2.1) (q := S.2.2.1) hN hx (by rw [u51]; exact hM.1) (by rw [u51]; exact zMc_w hM.2.1) (by rw [u51]; exact hM.2.2.1) hF.1 hF.2.1 hF.2.2.1
    refine ⟨0, (if (plc S.1 S.2.1 S.2.2.1 x).isSome = true then nI 1 else nI 0), u0, φ, η, τ, (if (plc S.1 S.2.1 S.2.2.1 x).isSome = true then nI 1 else nI 0), upd2 ψ 0 5 (nI 0), ?_, Or.inl rfl, ?_, u55 _ _, fun _ => ⟨rfl, ?_⟩, zRl_5 hrel _⟩
    · simp only [G_X8_found, zn_L, zn_R, k1, zn_B, if_false, if_true, zc_finds hN hx hR.1 hR.2.1 hR.2.2.1 hF.1 hF.2.1 hF.2.2.1]
    · simp only [G_X9_found, J_X9_found_13, zn_L, zn_M, zn_R, k2, zn_B, if_false, u55, if_true, hpl]
      cases h : plc S.1 S.2.1 S.2.2.1 x with
      | none => rfl
      | some p =>
        have := plc_lt hF.1 hF.2.1 hF.2.2.1 h
        simp (disch := omega) only [zn_g, zn_R, if_false, Option.isSome_some, if_true]
    · split
      · exact Or.inr rfl
      · exact Or.inl rfl
  · refine ⟨1, nI 0, u0, φ, η, τ, nI 0, upd2 ψ 0 5 (nI 1), ?_, Or.inr rfl, ?_, u55 _ _, fun _ => ⟨rfl, Or.inl rfl⟩, zRl_5 hrel _⟩
    · simp only [G_X8_found, zn_L, k1, if_true]
    · simp only [G_X9_found, J_X9_found_13, zn_L, zn_R, k2, if_true, u55, zn_B, if_false]
theorem pq_4 (hN : 5000 ≤ N) : Pk4 N zRl := by
  intro u0 φ η τ ψ hv p1 hrel
  obtain ⟨S, V, X, ⟨hR, hM, hF⟩, hVV, hT⟩ := id hrel
  rcases zp_key p1 with ⟨x, hx, rfl, k1, k2⟩ | ⟨k1, k2⟩
  · have hpl := zm_placeOf (ψ := upd2 ψ 0 5 (nI 0)) (P := S.1) (c := S.2.1) (q := S.2.2.1) hN hx (by rw [u51]; exact hM.1) (by rw [u51]; exact zMc_w hM.2.1) (by rw [u51]; exact hM.2.2.1) hF.1 hF.2.1 hF.2.2.1
    refine ⟨0, zn_g nI mI (plc S.1 S.2.1 S.2.2.1 x), u0, φ, η, τ, zn_g nI mI (plc S.1 S.2.1 S.2.2.1 x), upd2 ψ 0 5 (nI 0), ?_, Or.inl rfl, ?_, u55 _ _, fun _ => rfl, zRl_5 hrel _⟩
    · simp only [G_X8_place, zn_L, zn_R, k1, zn_B, if_false, if_true, zc_placeOf hN hx hR.1 hR.2.1 hR.2.2.1 hF.1 hF.2.1 hF.2.2.1]
    · simp only [G_X9_place, zn_L, zn_M, zn_R, k2, zn_B, if_false, u55, if_true, hpl]
  · refine ⟨1, nI 0, u0, φ, η, τ, nI 0, upd2 ψ 0 5 (nI 1), ?_, Or.inr rfl, ?_, u55 _ _, fun _ => rfl, zRl_5 hrel _⟩
    · simp only [G_X8_place, zn_L, k1, if_true]
    · simp only [G_X9_place, zn_L, zn_R, k2, if_true, u55, zn_B, if_false]
theorem pq_5 (hN : 5000 ≤ N) : Pk5 N zRl := by
  intro u0 φ η τ ψ hv p1 hrel
  obtain ⟨S, V, X, ⟨hR, hM, hF⟩, hVV, hT⟩ := id hrel
  have hn := hF.2.2.2.1
  have hk : u0 3 1 = nI S.2.2.2.1 := hR.2.2.2.1
  have hm : ψ 1 1042 = nI S.2.2.2.1 := hM.2.2.2.1
  rcases zp_up p1 S.2.2.2.1 (by omega) with ⟨x, hx, rfl, k1, k2⟩ | ⟨k1, k2⟩
  · refine ⟨0, nI (S.2.2.2.2 x), u0, φ, η, τ, nI (S.2.2.2.2 x), upd2 ψ 0 5 (nI 0), ?_, Or.inl rfl, ?_, u55 _ _, fun _ => rfl, zRl_5 hrel _⟩
    · simp only [G_X8_present, G_X2_keyCount, G_X4_size, G_X2_keyAt, zn_L, zn_R, hk, k1, zn_B, if_false, if_true, zc_keyAt hR.2.2.2 hn hx]
    · have e : ψ 1 (1043 + x) = nI (S.2.2.2.2 x) := hM.2.2.2.2 x hx
      unfold G_X9_present J_X9_present_24
      simp (disch := omega) only [zn_L, zn_in, nI_clamp, hm]
      simp only [zn_R, k2, zn_B, if_false, u55, if_true]
      simp (disch := omega) only [zn_R, u51, e]
  · refine ⟨3, nI 0, u0, φ, η, τ, nI 0, upd2 ψ 0 5 (nI 1), ?_, Or.inr rfl, ?_, u55 _ _, fun _ => rfl, zRl_5 hrel _⟩
    · simp only [G_X8_present, G_X2_keyCount, G_X4_size, zn_L, zn_R, hk, k1, if_true]
    · unfold G_X9_present J_X9_present_24
      simp (disch := omega) only [zn_L, zn_in, nI_clamp, hm]
      simp only [zn_R, k2, zn_B, if_false, u55, if_true]
theorem pq_6 (hN : 5000 ≤ N) : Pk6 N zRl := by
  intro u0 φ η τ ψ hv hrel
  obtain ⟨S, V, X, ⟨hR, hM, hF⟩, hVV, hT⟩ := id hrel
  have hk : u0 3 1 = nI S.2.2.2.1 := hR.2.2.2.1
  have hm : ψ 1 1042 = nI S.2.2.2.1 := hM.2.2.2.1
  refine ⟨0, nI S.2.2.2.1, u0, φ, η, τ, nI S.2.2.2.1, upd2 ψ 0 5 (nI 0), ?_, rfl, ?_, rfl, zRl_5 hrel _⟩
  · simp only [G_X8_count, G_X2_keyCount, G_X4_size, zn_R, hk]
  · unfold G_X9_count
    simp (disch := omega) only [zn_L, zn_R, u51, hm]
end PK
