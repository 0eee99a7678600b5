/-! the pure layer: deleting in the class, second part -/
theorem zc_krem {N : Nat} (hN : 5000 ≤ N) {φ : M2} {P : Pm} {c : Ce} {q : List En} {nk : Nat} {K : Nat → Nat} {x j : Nat} (hx : x < 1000) (hj : ix nk K x = some j) (hR : zRC φ P c q nk K) (hW : zWk nk K) : ∃ φ', G_X4_remove N φ (nI x) = some φ' ∧ zRC φ' P c q (nk - 1) (krem K j) := by
  obtain ⟨hP, hC, hS, hK⟩ := hR
  have hn := hW.1
  have hjl := (ix_lt hj).1
  have hix := zc_ix hN hx hK hW
  rw [hj] at hix
  have hloop := zn_for (fun k i s => L_X4_remove_14 N k (nI i) s) (nk - 1) (fun i s => ((∀ t, s 4 t = if j ≤ t ∧ t < i then φ 4 (t + 1) else φ 4 t) ∧ ∀ c' i', c' ≠ 4 → s c' i' = φ c' i') ∧ j ≤ i) (fun s => (∀ t, s 4 t = if j ≤ t ∧ t < nk - 1 then φ 4 (t + 1) else φ 4 t) ∧ ∀ c' i', c' ≠ 4 → s c' i' = φ c' i') (fun i s hi hI => ?_) (fun s hI => ?_) N j φ (by omega) ⟨⟨fun t => by rw [if_neg (by omega)], fun _ _ _ => rfl⟩, Nat.le_refl _⟩ (by omega)
  · obtain ⟨w, g1, g2, g3⟩ := hloop
    have w0 : ∀ c', c' ≠ 4 → w c' = φ c' := fun c' hc => funext fun i' => g3 c' i' hc
    have h31 : w 3 1 = nI nk := by
      rw [w0 3 (by decide)]
      exact hK.1
    refine ⟨upd2 w 3 1 (nI (nk - 1)), ?_, zPm_c hP (by rw [upd2_o (by decide), w0 0 (by decide)]), zCl_c hC (by rw [upd2_o (by decide), w0 1 (by decide)]), zSt_c hS (by rw [upd2_o (by decide), w0 0 (by decide)]) (by rw [upd2_o (by decide), w0 2 (by decide)]), ?_, fun i hi => ?_⟩
    · unfold G_X4_remove
      simp (disch := omega) only [zn_L, zn_M, zn_R, hix, zn_g, if_false, g1, h31]
    · rw [upd2_e, if_pos ⟨rfl, rfl⟩]
    · rw [upd2_o (by decide), g2]
      unfold krem
      by_cases g : i < j
      · rw [if_pos g, if_neg (by omega)]
        exact hK.2 i (by omega)
      · rw [if_neg g, if_pos (by omega)]
        exact hK.2 (i + 1) (by omega)
  · obtain ⟨hI, hpi⟩ := hI
    refine ⟨upd2 s 4 i (s 4 (i + 1)), ⟨⟨fun t => ?_, fun c' i' hc => ?_⟩, by omega⟩, fun k => ?_⟩
    · rw [upd2_e]
      by_cases g : t = i
      · subst g
        rw [if_pos ⟨rfl, rfl⟩, hI.1, if_neg (by omega), if_pos ⟨hpi, by omega⟩]
      · rw [if_neg (fun z => g z.2), hI.1]
        by_cases g2 : j ≤ t ∧ t < i
        · rw [if_pos g2, if_pos ⟨g2.1, by omega⟩]
        · rw [if_neg g2, if_neg (by omega)]
    · rw [upd2_e, if_neg (fun z => hc z.1)]
      exact hI.2 c' i' hc
    · show B_X4_remove_14 N _ (nI i) s = _
      have e7 : s 3 1 = nI nk := by
        rw [hI.2 3 1 (by decide)]
        exact hK.1
      unfold B_X4_remove_14
      simp (disch := omega) only [zn_L, zn_M, zn_R, e7]
      rw [if_neg (by omega), if_neg (by omega), if_neg (by omega)]
  · obtain ⟨hI, hpi⟩ := hI
    refine ⟨s, hI, fun k => ?_⟩
    show B_X4_remove_14 N _ (nI (nk - 1)) s = _
    have e7 : s 3 1 = nI nk := by
      rw [hI.2 3 1 (by decide)]
      exact hK.1
    unfold B_X4_remove_14
    simp (disch := omega) only [zn_L, zn_M, zn_R, e7]
    rw [if_neg (by omega), if_pos (by omega)]
theorem zc_lloop {N : Nat} (hN : 5000 ≤ N) {P : Pm} (hW : zWp P) {n : Nat} (hn : n ≤ 3) : ∀ (rest : List En) (i : Nat) (kp : List En) (left : Nat) (φ : M2) (c : Ce) (k : Nat), i + rest.length = n → kp.length + left = i → (∀ (j : Nat) (e : En), kp[j]? = some e → φ 2 j = ew e) → (∀ (j : Nat) (e : En), rest[j]? = some e → φ 2 (i + j) = ew e) → zPm φ P → zCl φ c → zWc P.1 P.2.1 c → (∀ e, e ∈ rest → zEo P.1 e) → φ 0 7 = nI n → rest.length < k →
    ∃ φ', L_X2_leaveStash_6 N k (nI kp.length) (nI left) (nI i) φ = some (nI (kp.length + (lv P.1 P.2.1 c rest).2.2.length), nI (left + (lv P.1 P.2.1 c rest).1), φ') ∧ zCl φ' (lv P.1 P.2.1 c rest).2.1 ∧ (∀ (j : Nat) (e : En), (kp ++ (lv P.1 P.2.1 c rest).2.2)[j]? = some e → φ' 2 j = ew e) ∧ ∀ c' i', c' ≠ 1 → c' ≠ 2 → φ' c' i' = φ c' i' := by
  intro rest
  induction rest with
  | nil =>
    intro i kp left φ c k hi hk hkp hre hP hC hV he h7 hk'
    obtain ⟨k, rfl⟩ : ∃ j, k = j + 1 := ⟨k - 1, by simp at hk'; omega⟩
    have hin : i = n := by simpa using hi
    refine ⟨φ, ?_, hC, ?_, fun _ _ _ _ => rfl⟩
    · show B_X2_leaveStash_6 N _ _ _ (nI i) φ = some (nI (kp.length + 0), nI (left + 0), φ)
      unfold B_X2_leaveStash_6
      simp (disch := omega) only [zn_L, zn_M, zn_R, h7]
      rw [if_pos (by omega)]
      rfl
    · intro j e hj
      have : kp ++ (lv P.1 P.2.1 c []).2.2 = kp := List.append_nil kp
      rw [this] at hj
      exact hkp j e hj
  | cons e rest ih =>
    intro i kp left φ c k hi hk hkp hre hP hC hV he h7 hk'
    have hlen : (e :: rest).length = rest.length + 1 := rfl
    rw [hlen] at hi hk'
    obtain ⟨k, rfl⟩ : ∃ j, k = j + 1 := ⟨k - 1, by omega⟩
    have hee := he e List.mem_cons_self
    have he' : ∀ f, f ∈ rest → zEo P.1 f := fun f hf => he f (List.mem_cons_of_mem _ hf)
    have h2i : φ 2 i = ew e := hre 0 e rfl
    have hset := zc_settle hN hP hC hW hV hee
    cases hs' : slp P.1 P.2.1 c e with
    | some p =>
      rw [hs'] at hset
      rw [lv_s hs']
      obtain ⟨a1, a2, a3, a4, a5⟩ := slp_lt hW.1.2 hW.2.1.2 hee hs'
      obtain ⟨φ', g1, g2, g3, g4⟩ := ih (i + 1) kp (left + 1) (upd2 φ 1 p (ew e)) (uC c p (some e)) k (by omega) (by omega) (fun j f hj => by rw [upd2_o (by decide)]; exact hkp j f hj) (fun j f hj => by
        rw [upd2_o (by decide)]
        have := hre (j + 1) f hj
        rw [show i + 1 + j = i + (j + 1) by omega]
        exact this) (zPm_c hP (upd2_o (by decide))) (zCl_u hC p (some e)) (zWc_u hV ⟨a2, a3⟩ hee a5) he' (by rw [upd2_o (by decide)]; exact h7) (by omega)
      refine ⟨φ', ?_, g2, g3, fun c' i' h1 h2 => by rw [g4 c' i' h1 h2, upd2_o h1]⟩
      rw [show left + ((lv P.1 P.2.1 (uC c p (some e)) rest).1 + 1, (lv P.1 P.2.1 (uC c p (some e)) rest).2.1, (lv P.1 P.2.1 (uC c p (some e)) rest).2.2).1 = left + 1 + (lv P.1 P.2.1 (uC c p (some e)) rest).1 from by show left + ((lv P.1 P.2.1 (uC c p (some e)) rest).1 + 1) = _; omega]
      rw [← g1]
      show B_X2_leaveStash_6 N _ _ _ (nI i) φ = _
      unfold B_X2_leaveStash_6
      simp (disch := omega) only [zn_L, zn_M, zn_R, h7, h2i, hset, zn_g]
      rw [if_neg (by omega), if_neg (by omega), if_neg (by decide)]
    | none =>
      rw [hs'] at hset
      rw [lv_n hs']
      have hkl : (kp ++ [e]).length = kp.length + 1 := List.length_append
      obtain ⟨φ', g1, g2, g3, g4⟩ := ih (i + 1) (kp ++ [e]) left (upd2 φ 2 kp.length (ew e)) c k (by omega) (by omega) (fun j f hj => by
        rw [upd2_e]
        rcases Nat.lt_or_ge j kp.length with g | g
        · rw [List.getElem?_append_left g] at hj
          rw [if_neg (fun z => by omega)]
          exact hkp j f hj
        · have e3 : j = kp.length := by
            have := (List.getElem?_eq_some_iff.mp hj).1
            omega
          subst e3
          have e2 : (kp ++ [e])[kp.length]? = some e := by simp
          rw [e2] at hj
          cases hj
          rw [if_pos ⟨rfl, rfl⟩]) (fun j f hj => by
        rw [upd2_e, if_neg (fun z => by omega)]
        have := hre (j + 1) f hj
        rw [show i + 1 + j = i + (j + 1) by omega]
        exact this) (zPm_c hP (upd2_o (by decide))) (zCl_c hC (upd2_o (by decide))) hV he' (by rw [upd2_o (by decide)]; exact h7) (by omega)
      refine ⟨φ', ?_, g2, ?_, fun c' i' h1 h2 => by rw [g4 c' i' h1 h2, upd2_o h2]⟩
      · rw [show kp.length + ((lv P.1 P.2.1 c rest).1, (lv P.1 P.2.1 c rest).2.1, e :: (lv P.1 P.2.1 c rest).2.2).2.2.length = (kp ++ [e]).length + (lv P.1 P.2.1 c rest).2.2.length from by rw [hkl]; show kp.length + ((lv P.1 P.2.1 c rest).2.2.length + 1) = _; omega]
        show _ = some (_, nI (left + (lv P.1 P.2.1 c rest).1), φ')
        rw [← g1, hkl]
        show B_X2_leaveStash_6 N _ _ _ (nI i) φ = _
        unfold B_X2_leaveStash_6
        simp (disch := omega) only [zn_L, zn_M, zn_R, h7, h2i, hset, zn_g]
        rw [if_neg (by omega), if_neg (by omega), if_pos trivial, if_neg (by omega)]
      · intro j f hj
        refine g3 j f ?_
        rw [List.append_assoc]
        exact hj
theorem zc_leave {N : Nat} (hN : 5000 ≤ N) {φ : M2} {P : Pm} {c : Ce} {q : List En} {nk : Nat} {K : Nat → Nat} (hR : zRC φ P c q nk K) (hF : zWF P c q nk K) : ∃ φ', G_X2_leaveStash N φ = some (nI (lv P.1 P.2.1 c q).1, φ') ∧ zRC φ' P (lv P.1 P.2.1 c q).2.1 (lv P.1 P.2.1 c q).2.2 nk K := by
  obtain ⟨hP, hC, hS, hK⟩ := hR
  have h3 := hF.2.2.1.1
  obtain ⟨w, g1, g2, g3, g4⟩ := zc_lloop hN hF.1 h3 q 0 [] 0 φ c N (by omega) rfl (fun j e hj => by simp at hj) (fun j e hj => by rw [Nat.zero_add]; exact hS.2 j e hj) hP hC hF.2.1 hF.2.2.1.2 hS.1 (by omega)
  rw [List.nil_append] at g3
  have g1 : L_X2_leaveStash_6 N N (nI 0) (nI 0) (nI 0) φ = some (nI (0 + (lv P.1 P.2.1 c q).2.2.length), nI (0 + (lv P.1 P.2.1 c q).1), w) := g1
  rw [Nat.zero_add, Nat.zero_add] at g1
  have w0 : ∀ c', c' ≠ 1 → c' ≠ 2 → w c' = φ c' := fun c' h1 h2 => funext fun i' => g4 c' i' h1 h2
  refine ⟨upd2 w 0 7 (nI (lv P.1 P.2.1 c q).2.2.length), ?_, ?_, zCl_c g2 (upd2_o (by decide)), ⟨by rw [upd2_e, if_pos ⟨rfl, rfl⟩], fun j e hj => by rw [upd2_o (by decide)]; exact g3 j e hj⟩, zKy_c hK (by rw [upd2_o (by decide), w0 3 (by decide) (by decide)]) (by rw [upd2_o (by decide), w0 4 (by decide) (by decide)])⟩
  · unfold G_X2_leaveStash
    simp (disch := omega) only [zn_L, zn_M, zn_R, g1]
  · have e0 := w0 0 (by decide) (by decide)
    unfold zPm at *
    simp only [upd2_e, e0]
    exact hP
theorem zc_deleteKey {N : Nat} (hN : 5000 ≤ N) {φ : M2} {P : Pm} {c : Ce} {q : List En} {nk : Nat} {K : Nat → Nat} {x : Nat} (hx : x < 1000) (hR : zRC φ P c q nk K) (hF : zWF P c q nk K) : ∃ r φ', G_X2_deleteKey N φ (nI x) = some (r, φ') ∧ zKo φ' P c q nk K r (delk P c q nk K x) := by
  have hhas := zc_has hN hx hR.2.2.2 hF.2.2.2
  unfold delk
  cases hi : ix nk K x with
  | none =>
    rw [hi] at hhas
    refine ⟨mI, φ, ?_, rfl, hR⟩
    unfold G_X2_deleteKey
    simp (disch := omega) only [zn_L, zn_M, zn_R, hhas, og, if_true]
  | some j =>
    rw [hi] at hhas
    have hpl := zc_placeOf hN hx hR.1 hR.2.1 hR.2.2.1 hF.1 hF.2.1 hF.2.2.1
    obtain ⟨w1, a1, a2⟩ := zc_rem hN (o := plc P c q x) (fun p hp => plc_rng hF.1 hp) hF.2.2.1.1 hR
    obtain ⟨k1, k2⟩ := rm_ok x hF.1 hF.2.1 hF.2.2.1
    obtain ⟨w2, b1, b2⟩ := zc_krem hN hx hi a2 hF.2.2.2
    obtain ⟨w3, d1, d2⟩ := zc_leave hN b2 ⟨hF.1, k1, k2, zWk_rem hF.2.2.2 (ix_lt hi).1⟩
    refine ⟨nI (lv P.1 P.2.1 (rmc c (plc P c q x)) (rmq q (plc P c q x))).1, w3, ?_, rfl, d2⟩
    unfold G_X2_deleteKey
    simp (disch := omega) only [zn_L, zn_M, zn_R, hhas, og, hpl, a1, b1, d1]
    rw [if_neg (by decide)]
