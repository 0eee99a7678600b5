/-! the pure layer: pairs, second part -/
def nv (S : St) (w : Nat) : Int32 := if w = 0 then nI (2 ^ S.1.1) else if w = 1 then nI S.1.2.1 else if w = 2 then nI S.1.2.2.1 else if w = 3 then nI S.1.2.2.2.1 else if w = 4 then nI S.1.2.2.2.2 else if w = 5 then nI (sumN (ne S.2.1 S.1.2.1) 0 (2 ^ S.1.1)) else if w = 6 then nI S.2.2.1.length else if w = 7 then zn_g nI mI (smQ S.2.1 S.2.2.1 S.2.2.1.length) else bI (cg S.1 S.2.1 S.2.2.1)
theorem bI_n (b : Bool) : (if bI b = nI 0 then some (nI 0) else some (nI 1)) = some (bI b) := by
  cases b with
  | false => rfl
  | true => rfl
theorem zc_number {N : Nat} (hN : 5000 ≤ N) {φ : M2} {S : St} (hR : zRCs φ S) (hF : zWFs S) {w : Nat} (hw : w ≤ 8) : G_X2_number N φ (nI w) = some (nv S w) := by
  have hc : w = 0 ∨ w = 1 ∨ w = 2 ∨ w = 3 ∨ w = 4 ∨ w = 5 ∨ w = 6 ∨ w = 7 ∨ w = 8 := by omega
  have h8 := zc_cg hN hR.1 hR.2.1 hR.2.2.1 hF.1 hF.2.1 hF.2.2.1
  rcases hc with h | h | h | h | h | h | h | h | h
  · subst h
    unfold G_X2_number
    rw [if_pos (by decide)]
    simp only [zn_R, zc_buckets hR.1 hF.1]
    rfl
  · subst h
    unfold G_X2_number
    rw [if_neg (by decide), if_pos (by decide)]
    rw [hR.1.2.1]
    rfl
  · subst h
    unfold G_X2_number
    rw [if_neg (by decide), if_neg (by decide), if_pos (by decide)]
    rw [hR.1.2.2.1]
    rfl
  · subst h
    unfold G_X2_number
    rw [if_neg (by decide), if_neg (by decide), if_neg (by decide), if_pos (by decide)]
    rw [hR.1.2.2.2.1]
    rfl
  · subst h
    unfold G_X2_number
    rw [if_neg (by decide), if_neg (by decide), if_neg (by decide), if_neg (by decide), if_pos (by decide)]
    rw [hR.1.2.2.2.2]
    rfl
  · subst h
    unfold G_X2_number
    rw [if_neg (by decide), if_neg (by decide), if_neg (by decide), if_neg (by decide), if_neg (by decide), if_pos (by decide)]
    simp only [zn_R, zc_entries hN hR.1 hR.2.1 hF.1 hF.2.1]
    rfl
  · subst h
    unfold G_X2_number
    rw [if_neg (by decide), if_neg (by decide), if_neg (by decide), if_neg (by decide), if_neg (by decide), if_neg (by decide), if_pos (by decide)]
    rw [hR.2.2.1.1]
    rfl
  · subst h
    unfold G_X2_number
    rw [if_neg (by decide), if_neg (by decide), if_neg (by decide), if_neg (by decide), if_neg (by decide), if_neg (by decide), if_neg (by decide), if_pos (by decide)]
    simp only [zn_R, zc_small hN hR.2.1 hR.2.2.1 hF.1 hF.2.1 hF.2.2.1]
    rfl
  · subst h
    unfold G_X2_number
    rw [if_neg (by decide), if_neg (by decide), if_neg (by decide), if_neg (by decide), if_neg (by decide), if_neg (by decide), if_neg (by decide), if_neg (by decide), if_pos (by decide)]
    rw [h8]
    simp only [zn_L, zn_R]
    exact bI_n _
theorem zm_number {N : Nat} (hN : 5000 ≤ N) {ψ : M2} {S : St} (hR : zRMs (ψ 1) S) (hF : zWFs S) {w : Nat} (hw : w ≤ 8) : G_X9_infoOf N ψ (nI w) = some (nv S w) := by
  have hc : w = 0 ∨ w = 1 ∨ w = 2 ∨ w = 3 ∨ w = 4 ∨ w = 5 ∨ w = 6 ∨ w = 7 ∨ w = 8 := by omega
  have h8 := zm_cg hN hR.1 hR.2.1 hR.2.2.1 hF.1 hF.2.1 hF.2.2.1
  have h7 := zm_small hN hR.2.1 hR.2.2.1 hF.2.1 hF.2.2.1
  have h5 := zm_total hN hR.2.1 hF.1 hF.2.1
  have h6 : ψ 1 5 = nI S.2.2.1.length := hR.2.2.1.1
  rcases hc with h | h | h | h | h | h | h | h | h
  · subst h
    unfold G_X9_infoOf
    rw [if_pos (by decide)]
    simp only [zn_R, zm_buckets hR.1 hF.1]
    rfl
  · subst h
    unfold G_X9_infoOf
    rw [if_neg (by decide), if_pos (by decide)]
    simp (disch := omega) only [zn_R, hR.1.2.1]
    rfl
  · subst h
    unfold G_X9_infoOf
    rw [if_neg (by decide), if_neg (by decide), if_pos (by decide)]
    simp (disch := omega) only [zn_R, hR.1.2.2.1]
    rfl
  · subst h
    unfold G_X9_infoOf
    rw [if_neg (by decide), if_neg (by decide), if_neg (by decide), if_pos (by decide)]
    simp (disch := omega) only [zn_R, hR.1.2.2.2.1]
    rfl
  · subst h
    unfold G_X9_infoOf
    rw [if_neg (by decide), if_neg (by decide), if_neg (by decide), if_neg (by decide), if_pos (by decide)]
    simp (disch := omega) only [zn_R, hR.1.2.2.2.2]
    rfl
  · subst h
    unfold G_X9_infoOf
    rw [if_neg (by decide), if_neg (by decide), if_neg (by decide), if_neg (by decide), if_neg (by decide), if_pos (by decide)]
    simp only [zn_L, zn_R, h5]
    rfl
  · subst h
    unfold G_X9_infoOf
    rw [if_neg (by decide), if_neg (by decide), if_neg (by decide), if_neg (by decide), if_neg (by decide), if_neg (by decide), if_pos (by decide)]
    simp (disch := omega) only [zn_L, zn_R, h6]
    rfl
  · subst h
    unfold G_X9_infoOf
    rw [if_neg (by decide), if_neg (by decide), if_neg (by decide), if_neg (by decide), if_neg (by decide), if_neg (by decide), if_neg (by decide), if_pos (by decide)]
    simp only [zn_R, h7]
    rfl
  · subst h
    unfold G_X9_infoOf
    rw [if_neg (by decide), if_neg (by decide), if_neg (by decide), if_neg (by decide), if_neg (by decide), if_neg (by decide), if_neg (by decide), if_neg (by decide), if_pos (by decide)]
    rw [h8]
    simp only [zn_L, zn_R]
    exact bI_n _
def pv (u : Nat) (o : Option En) (w : Nat) : Int32 := if w = 0 then f0 o else if w = 1 then f1 o else if w = 2 then f2 o else f3 u o
def pq (e : En) (w : Nat) : Int32 := if w = 0 then nI e.1 else if w = 1 then nI e.2.2.1 else if w = 2 then nI e.2.2.2 else nI e.2.1
theorem zc_slotpart {φ : M2} {S : St} (hR : zRCs φ S) (hF : zWFs S) {u k w : Nat} (hu : u < 2 ^ S.1.1) (hk : k < S.1.2.1) (hw : w ≤ 3) : G_X2_partOfSlot φ (nI u) (nI k) (nI w) = some (pv u (S.2.1 (4 * u + k)) w) := by
  have h6 := p2_6 hF.1.1.2
  have hs := hF.1.2.1
  have hcell := hR.2.1 (4 * u + k) (by omega)
  have hc : w = 0 ∨ w = 1 ∨ w = 2 ∨ w = 3 := by omega
  unfold G_X2_partOfSlot
  rw [zc_place]
  simp only [zn_R]
  rw [zc_cell φ (by omega), hcell]
  simp only [zn_R]
  cases ho : S.2.1 (4 * u + k) with
  | none =>
    rw [if_pos (show cwo none = -1 from rfl)]
    rcases hc with h | h | h | h <;> (subst h; rfl)
  | some e =>
    have he := (hF.2.1 _ e ho).2.2.1
    have hl := zEo_lt hF.1.1.2 he
    have ht := zc_et hF.1.1.2 he
    have hne : ¬ (cwo (some e) = -1) := fun z => (ew_mi hl.1 hl.2.1 (show e.2.2.1 < 16 by omega) hl.2.2.2).mp z
    have ecw : cwo (some e) = ew e := rfl
    rw [if_neg hne, ecw]
    rcases hc with h | h | h | h
    · subst h
      rw [if_neg (by decide)]
      unfold G_X2_partOf
      simp only [zn_R, ht.1]
      rw [if_pos (by decide)]
      rfl
    · subst h
      rw [if_neg (by decide)]
      unfold G_X2_partOf
      simp only [zn_R, ht.2.2.1]
      rw [if_neg (by decide), if_pos (by decide)]
      rfl
    · subst h
      rw [if_neg (by decide)]
      unfold G_X2_partOf
      simp only [zn_R, ht.2.2.2]
      rw [if_neg (by decide), if_neg (by decide), if_pos (by decide)]
      rfl
    · subst h
      rw [if_pos (by decide)]
      simp only [zn_R, ht.2.1]
      simp (disch := omega) only [zn_L, zn_R]
      show (if e.2.1 = u then some (nI 0) else some (nI 1)) = some (if e.2.1 = u then nI 0 else nI 1)
      split <;> rfl
theorem zm_slotpart {g : Nat → Int32} {S : St} (hR : zRMs g S) (hF : zWFs S) {u k w : Nat} (hu : u < 2 ^ S.1.1) (hk : k < S.1.2.1) (hw : w ≤ 3) : g (18 + 4 * (4 * u + k) + w) = pv u (S.2.1 (4 * u + k)) w := by
  have h6 := p2_6 hF.1.1.2
  have hs := hF.1.2.1
  obtain ⟨a, b, c, d⟩ := hR.2.1 (4 * u + k) (by omega)
  have hc : w = 0 ∨ w = 1 ∨ w = 2 ∨ w = 3 := by omega
  have ed : (4 * u + k) / 4 = u := by omega
  rw [ed] at d
  rcases hc with h | h | h | h
  · subst h
    exact a
  · subst h
    exact b
  · subst h
    exact c
  · subst h
    exact d
theorem zc_stashpart {φ : M2} {S : St} (hR : zRCs φ S) (hF : zWFs S) {i w : Nat} {e : En} (hi : S.2.2.1[i]? = some e) (hw : w ≤ 3) : G_X2_partOfStash φ (nI i) (nI w) = some (pq e w) := by
  have hil := (List.getElem?_eq_some_iff.mp hi).1
  have he := hF.2.2.1.2 e (List.mem_of_getElem? hi)
  have ht := zc_et hF.1.1.2 he
  have hst := zc_stashAt hR.2.2.1 hF.2.2.1.1 hil
  rw [hi] at hst
  have ecw : cwo (some e) = ew e := rfl
  rw [ecw] at hst
  have hc : w = 0 ∨ w = 1 ∨ w = 2 ∨ w = 3 := by omega
  unfold G_X2_partOfStash
  rw [hst]
  simp only [zn_R]
  rcases hc with h | h | h | h
  · subst h
    rw [if_neg (by decide)]
    unfold G_X2_partOf
    simp only [zn_R, ht.1]
    rw [if_pos (by decide)]
    rfl
  · subst h
    rw [if_neg (by decide)]
    unfold G_X2_partOf
    simp only [zn_R, ht.2.2.1]
    rw [if_neg (by decide), if_pos (by decide)]
    rfl
  · subst h
    rw [if_neg (by decide)]
    unfold G_X2_partOf
    simp only [zn_R, ht.2.2.2]
    rw [if_neg (by decide), if_neg (by decide), if_pos (by decide)]
    rfl
  · subst h
    rw [if_pos (by decide)]
    simp only [zn_R, ht.2.1]
    rfl
theorem zm_stashpart {g : Nat → Int32} {S : St} (hR : zRMs g S) {i w : Nat} {e : En} (hi : S.2.2.1[i]? = some e) (hw : w ≤ 3) : g (6 + 4 * i + w) = pq e w := by
  obtain ⟨a, b, c, d⟩ := hR.2.2.1.2 i e hi
  have hc : w = 0 ∨ w = 1 ∨ w = 2 ∨ w = 3 := by omega
  rcases hc with h | h | h | h
  · subst h
    exact a
  · subst h
    exact b
  · subst h
    exact c
  · subst h
    exact d
section PK
variable {N : Nat}
theorem pq_15 (hN : 5000 ≤ N) : Pk15 N zRl := by
  intro u0 φ η τ ψ hv p1 hrel
  obtain ⟨S, V, X, ⟨hR, hM, hF⟩, hVV, hT⟩ := id hrel
  rcases zp_in p1 0 8 (by decide) (by decide) with ⟨x, h1, h2, rfl, k1, k2⟩ | ⟨k1, k2⟩
  · have hm := zm_number (ψ := upd2 ψ 0 5 (nI 0)) hN (by rw [u51]; exact hM) hF h2
    refine ⟨0, nv S x, u0, φ, η, τ, nv S x, upd2 ψ 0 5 (nI 0), ?_, Or.inl rfl, ?_, u55 _ _, fun _ => rfl, zRl_5 hrel _⟩
    · simp only [G_X8_info, zn_L, zn_R, k1, zn_B, if_false, zc_number hN hR hF h2]
    · simp only [G_X9_info, zn_L, zn_R, k2, zn_B, if_false, u55, if_true, hm]
  · refine ⟨1, nI 0, u0, φ, η, τ, nI 0, upd2 ψ 0 5 (nI 1), ?_, Or.inr rfl, ?_, u55 _ _, fun _ => rfl, zRl_5 hrel _⟩
    · simp only [G_X8_info, zn_L, zn_R, k1, if_true]
    · simp only [G_X9_info, zn_L, zn_R, k2, if_true, u55, zn_B, if_false]
/-- a slot's numbers -/
theorem zp_slot {u0 ψ : M2} {S : St} (hR : zRCs u0 S) (hM : zRMs (ψ 1) S) (hF : zWFs S) (p1 p2 : Int32) : (∃ u k, u < 2 ^ S.1.1 ∧ k < S.1.2.1 ∧ p1 = nI u ∧ p2 = nI k ∧ G_X8_checkSlot u0 p1 p2 = nI 1 ∧ G_X9_isSlot ψ p1 p2 = some (nI 1)) ∨ (G_X8_checkSlot u0 p1 p2 = nI 0 ∧ G_X9_isSlot ψ p1 p2 = some (nI 0)) := by
  have h6 := p2_6 hF.1.1.2
  have hs := hF.1.2.1
  have hb := zc_buckets hR.1 hF.1
  have hmb := zm_buckets hM.1 hF.1
  have hsc : G_X2_slotCount u0 = nI S.1.2.1 := hR.1.2.1
  have hms : ψ 1 1 = nI S.1.2.1 := hM.1.2.1
  unfold G_X8_checkSlot G_X9_isSlot
  rw [hb, hsc, hmb]
  simp (disch := omega) only [zn_L, zn_in, nI_clamp, hms]
  rcases zp_up p1 (2 ^ S.1.1) (by omega) with ⟨u, hu, e1, k1, k2⟩ | ⟨k1, k2⟩
  · rcases zp_up p2 S.1.2.1 (by omega) with ⟨k, hk, e2, q1, q2⟩ | ⟨q1, q2⟩
    · refine Or.inl ⟨u, k, hu, hk, e1, e2, ?_, ?_⟩
      · simp only [k1, q1, zn_B, if_false]
      · simp only [zn_R, k2, q2, zn_B, if_false]
    · refine Or.inr ⟨?_, ?_⟩
      · simp only [k1, q1, zn_B, if_false]
      · simp only [zn_R, k2, q2, zn_B, if_false, if_true]
  · refine Or.inr ⟨?_, ?_⟩
    · simp only [k1, if_true]
    · simp only [zn_R, k2, if_true]
theorem pq_16 (hN : 5000 ≤ N) : Pk16 N zRl := by
  intro u0 φ η τ ψ hv p1 p2 p3 hrel
  obtain ⟨S, V, X, ⟨hR, hM, hF⟩, hVV, hT⟩ := id hrel
  have h6 := p2_6 hF.1.1.2
  have hs := hF.1.2.1
  rcases zp_slot hR hM hF p1 p2 with ⟨u, k, hu, hk, rfl, rfl, k1, k2⟩ | ⟨k1, k2⟩
  · rcases zp_in p3 0 3 (by decide) (by decide) with ⟨w, h1, h2, rfl, q1, q2⟩ | ⟨q1, q2⟩
    · refine ⟨0, pv u (S.2.1 (4 * u + k)) w, u0, φ, η, τ, pv u (S.2.1 (4 * u + k)) w, upd2 ψ 0 5 (nI 0), ?_, Or.inl rfl, ?_, u55 _ _, fun _ => rfl, zRl_5 hrel _⟩
      · simp only [G_X8_slot, zn_L, zn_R, k1, q1, zn_B, if_false, zc_slotpart hR hF hu hk h2]
      · unfold G_X9_slot J_X9_slot_28
        rw [k2]
        simp only [zn_L, zn_R, q2, zn_B, if_false, u55, if_true, zm_at]
        simp (disch := omega) only [zn_R, u51, zm_slotpart hM hF hu hk h2]
    · refine ⟨1, nI 0, u0, φ, η, τ, nI 0, upd2 ψ 0 5 (nI 2), ?_, Or.inr (Or.inr rfl), ?_, u55 _ _, fun z => (by cases z), zRl_5 hrel _⟩
      · simp only [G_X8_slot, zn_L, zn_R, k1, q1, zn_B, if_false, if_true]
      · unfold G_X9_slot J_X9_slot_28
        rw [k2]
        simp only [zn_L, zn_R, q2, zn_B, if_false, u55, if_true]
  · refine ⟨3, nI 0, u0, φ, η, τ, nI 0, upd2 ψ 0 5 (nI 1), ?_, Or.inr (Or.inl rfl), ?_, u55 _ _, fun z => (by cases z), zRl_5 hrel _⟩
    · simp only [G_X8_slot, zn_L, zn_R, k1, if_true]
    · unfold G_X9_slot J_X9_slot_28
      rw [k2]
      simp only [zn_L, zn_R, zn_B, if_false, u55, if_true]
theorem pq_17 (hN : 5000 ≤ N) : Pk17 N zRl := by
  intro u0 φ η τ ψ hv p1 p2 hrel
  obtain ⟨S, V, X, ⟨hR, hM, hF⟩, hVV, hT⟩ := id hrel
  have h3 := hF.2.2.1.1
  have h7 : u0 0 7 = nI S.2.2.1.length := hR.2.2.1.1
  have h5 : ψ 1 5 = nI S.2.2.1.length := hM.2.2.1.1
  rcases zp_up p1 S.2.2.1.length (by omega) with ⟨i, hi, rfl, k1, k2⟩ | ⟨k1, k2⟩
  · have eq1 : S.2.2.1[i]? = some S.2.2.1[i] := List.getElem?_eq_getElem hi
    rcases zp_in p2 0 3 (by decide) (by decide) with ⟨w, h1, h2, rfl, q1, q2⟩ | ⟨q1, q2⟩
    · refine ⟨0, pq S.2.2.1[i] w, u0, φ, η, τ, pq S.2.2.1[i] w, upd2 ψ 0 5 (nI 0), ?_, Or.inl rfl, ?_, u55 _ _, fun _ => rfl, zRl_5 hrel _⟩
      · simp only [G_X8_stashed, G_X2_stashSize, zn_L, zn_R, h7, k1, q1, zn_B, if_false, zc_stashpart hR hF eq1 h2]
      · unfold G_X9_stashed J_X9_stashed_35
        simp (disch := omega) only [zn_L, zn_in, nI_clamp, h5]
        simp only [zn_R, k2, q2, zn_B, if_false, u55, if_true]
        simp (disch := omega) only [zn_R, u51, zm_stashpart hM eq1 h2]
    · refine ⟨1, nI 0, u0, φ, η, τ, nI 0, upd2 ψ 0 5 (nI 2), ?_, Or.inr (Or.inr rfl), ?_, u55 _ _, fun z => (by cases z), zRl_5 hrel _⟩
      · simp only [G_X8_stashed, G_X2_stashSize, zn_L, zn_R, h7, k1, q1, zn_B, if_false, if_true]
      · unfold G_X9_stashed J_X9_stashed_35
        simp (disch := omega) only [zn_L, zn_in, nI_clamp, h5]
        simp only [zn_R, k2, q2, zn_B, if_false, u55, if_true]
  · refine ⟨3, nI 0, u0, φ, η, τ, nI 0, upd2 ψ 0 5 (nI 1), ?_, Or.inr (Or.inl rfl), ?_, u55 _ _, fun z => (by cases z), zRl_5 hrel _⟩
    · simp only [G_X8_stashed, G_X2_stashSize, zn_L, zn_R, h7, k1, if_true]
    · unfold G_X9_stashed J_X9_stashed_35
      simp (disch := omega) only [zn_L, zn_in, nI_clamp, h5]
      simp only [zn_R, k2, zn_B, if_false, u55, if_true]
theorem pq_18 (hN : 5000 ≤ N) : Pk18 N zRl := by
  intro u0 φ η τ ψ hv p1 hrel
  obtain ⟨S, V, X, ⟨hR, hM, hF⟩, hVV, hT⟩ := id hrel
  rcases zp_in p1 0 4 (by decide) (by decide) with ⟨x, h1, h2, rfl, k1, k2⟩ | ⟨k1, k2⟩
  · have hm := zm_filled (ψ := upd2 ψ 0 5 (nI 0)) (P := S.1) (c := S.2.1) hN h2 (by rw [u51]; exact hM.1) (by rw [u51]; exact hM.2.1) hF.1 hF.2.1
    refine ⟨0, nI (cnt (fun u => ne S.2.1 S.1.2.1 u == x) 0 (2 ^ S.1.1)), u0, φ, η, τ, nI (cnt (fun u => ne S.2.1 S.1.2.1 u == x) 0 (2 ^ S.1.1)), upd2 ψ 0 5 (nI 0), ?_, Or.inl rfl, ?_, u55 _ _, fun _ => rfl, zRl_5 hrel _⟩
    · simp only [G_X8_filled, zn_L, zn_R, k1, zn_B, if_false, zc_bucketsWith hN h2 hR.1 hR.2.1 hF.1 hF.2.1]
    · simp only [G_X9_filled, zn_L, zn_R, k2, zn_B, if_false, u55, if_true, hm]
  · refine ⟨1, nI 0, u0, φ, η, τ, nI 0, upd2 ψ 0 5 (nI 1), ?_, Or.inr rfl, ?_, u55 _ _, fun _ => rfl, zRl_5 hrel _⟩
    · simp only [G_X8_filled, zn_L, zn_R, k1, if_true]
    · simp only [G_X9_filled, zn_L, zn_R, k2, if_true, u55, zn_B, if_false]
theorem zp_range (p1 p2 : Int32) : (∃ a b, a ≤ b ∧ b < 1000 ∧ p1 = nI a ∧ p2 = nI b ∧ G_X8_checkRange p1 p2 = nI 1 ∧ G_X9_isRange p1 p2 = nI 1) ∨ (G_X8_checkRange p1 p2 = nI 0 ∧ G_X9_isRange p1 p2 = nI 0) := by
  have hcr : G_X8_checkRange p1 p2 = if p1 < nI 0 then nI 0 else if p2 < p1 then nI 0 else if nI 1000 ≤ p2 then nI 0 else nI 1 := rfl
  have hir : G_X9_isRange p1 p2 = if G_X9_isKey p1 = nI 0 then nI 0 else if G_X9_isKey p2 = nI 0 then nI 0 else if p2 < p1 then nI 0 else nI 1 := by
    unfold G_X9_isRange
    simp only [zn_L, zn_R]
  rw [hcr, hir]
  rcases zp_key p1 with ⟨a, ha, rfl, k1, k2⟩ | ⟨k1, k2⟩
  · have h0 : ¬ nI a < nI 0 := by
      rw [nI_ltI (by omega) (by decide)]
      omega
    rcases zp_key p2 with ⟨b, hb, rfl, q1, q2⟩ | ⟨q1, q2⟩
    · rcases Nat.lt_or_ge b a with g | g
      · have h1 : nI b < nI a := (nI_ltI (by omega) (by omega)).mpr g
        exact Or.inr ⟨by rw [if_neg h0, if_pos h1], by simp only [k2, q2, zn_B, if_false, h1, if_true]⟩
      · have h1 : ¬ nI b < nI a := by
          rw [nI_ltI (by omega) (by omega)]
          omega
        have h2 : ¬ nI 1000 ≤ nI b := by
          rw [nI_leI (by decide) (by omega)]
          omega
        exact Or.inl ⟨a, b, g, hb, rfl, rfl, by rw [if_neg h0, if_neg h1, if_neg h2], by simp only [k2, q2, zn_B, if_false, h1]⟩
    · refine Or.inr ⟨?_, by simp only [k2, q2, zn_B, if_false, if_true]⟩
      rw [if_neg h0]
      by_cases h1 : p2 < nI a
      · rw [if_pos h1]
      · rw [if_neg h1]
        by_cases h2 : nI 1000 ≤ p2
        · rw [if_pos h2]
        · exfalso
          have hc : G_X8_checkKey p2 = nI 1 := by
            have d1 : ¬ p2 < 0 := by
              intro z
              apply h1
              have z1 := Int32.lt_iff_toInt_lt.mp z
              apply Int32.lt_iff_toInt_lt.mpr
              rw [nI_toInt (by omega)]
              have : (0 : Int32).toInt = 0 := by decide
              omega
            obtain ⟨j, hj, e⟩ := nI_of d1
            subst e
            rw [nI_leI (by decide) hj] at h2
            have hc2 : G_X8_checkKey (nI j) = if nI j < nI 0 then nI 0 else if nI 999 < nI j then nI 0 else nI 1 := rfl
            rw [hc2, if_neg (by rw [nI_ltI hj (by decide)]; omega), if_neg (by rw [nI_ltI (by decide) hj]; omega)]
          rw [q1] at hc
          exact absurd hc (by decide)
  · refine Or.inr ⟨?_, by simp only [k2, if_true]⟩
    by_cases h0 : p1 < nI 0
    · rw [if_pos h0]
    · rw [if_neg h0]
      by_cases h1 : p2 < p1
      · rw [if_pos h1]
      · rw [if_neg h1]
        by_cases h2 : nI 1000 ≤ p2
        · rw [if_pos h2]
        · exfalso
          obtain ⟨j, hj, e⟩ := nI_of (x := p1) h0
          subst e
          have d1 : ¬ p2 < 0 := by
            intro z
            apply h1
            have z1 := Int32.lt_iff_toInt_lt.mp z
            apply Int32.lt_iff_toInt_lt.mpr
            rw [nI_toInt hj]
            have : (0 : Int32).toInt = 0 := by decide
            omega
          obtain ⟨i, hi, e⟩ := nI_of d1
          subst e
          rw [nI_leI (by decide) hi] at h2
          rw [nI_ltI hi hj] at h1
          have hc2 : G_X8_checkKey (nI j) = if nI j < nI 0 then nI 0 else if nI 999 < nI j then nI 0 else nI 1 := rfl
          rw [hc2, if_neg (by rw [nI_ltI hj (by decide)]; omega), if_neg (by rw [nI_ltI (by decide) hj]; omega)] at k1
          exact absurd k1 (by decide)
theorem pq_23 (hN : 5000 ≤ N) : Pk23 N zRl := by
  intro u0 φ η τ ψ hv p1 p2 hrel
  obtain ⟨S, V, X, ⟨hR, hM, hF⟩, hVV, hT⟩ := id hrel
  rcases zp_range p1 p2 with ⟨a, b, h1, h2, rfl, rfl, k1, k2⟩ | ⟨k1, k2⟩
  · have hm := zm_falseMany (ψ := upd2 ψ 0 5 (nI 0)) (P := S.1) (c := S.2.1) (q := S.2.2.1) (nk := S.2.2.2.1) (K := S.2.2.2.2) hN h1 h2 (by rw [u51]; exact hM.1) (by rw [u51]; exact zMc_w hM.2.1) (by rw [u51]; exact hM.2.2.1) (by rw [u51]; exact hM.2.2.2) hF
    refine ⟨0, nI (cnt (fals S.1 S.2.1 S.2.2.1 S.2.2.2.1 S.2.2.2.2) a (b + 1 - a)), u0, φ, η, τ, nI (cnt (fals S.1 S.2.1 S.2.2.1 S.2.2.2.1 S.2.2.2.2) a (b + 1 - a)), upd2 ψ 0 5 (nI 0), ?_, Or.inl rfl, ?_, u55 _ _, fun _ => rfl, zRl_5 hrel _⟩
    · simp only [G_X8_falseKeys, zn_L, zn_R, k1, zn_B, if_false, zc_falseBetween hN h1 h2 hR hF]
    · simp only [G_X9_falseKeys, zn_L, zn_R, k2, zn_B, if_false, u55, if_true, hm]
  · refine ⟨1, nI 0, u0, φ, η, τ, nI 0, upd2 ψ 0 5 (nI 1), ?_, Or.inr rfl, ?_, u55 _ _, fun _ => rfl, zRl_5 hrel _⟩
    · simp only [G_X8_falseKeys, zn_L, zn_R, k1, if_true]
    · simp only [G_X9_falseKeys, zn_L, zn_R, k2, if_true, u55, zn_B, if_false]
end PK
