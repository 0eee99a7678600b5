/-! the pure layer: deleting in the model -/
theorem zFr_c1 {ψ ψ' : M2} (h : ∀ c' i', c' ≠ 1 → ψ' c' i' = ψ c' i') : zFr ψ ψ' := fun c' i' hk => h c' i' (zkp_h hk).2.2
theorem zm_drop {N : Nat} (hN : 5000 ≤ N) {ψ : M2} {P : Pm} {c : Ce} {q : List En} {nk : Nat} {K : Nat → Nat} {i0 : Nat} (hR : zRM (ψ 1) P c q nk K) (hi : i0 < q.length) (hq : q.length ≤ 3) : ∃ ψ', G_X9_dropStash N ψ (nI i0) = some ψ' ∧ zRM (ψ' 1) P c (q.eraseIdx i0) nk K ∧ ∀ c' i', c' ≠ 1 → ψ' c' i' = ψ c' i' := by
  obtain ⟨hP, hC, hS, hK⟩ := hR
  have hl : (q.eraseIdx i0).length = q.length - 1 := List.length_eraseIdx_of_lt hi
  have hloop := zn_for (fun k i s => L_X9_dropStash_17 N k (nI i) s) (6 + 4 * (q.length - 1)) (fun i s => ((∀ t, s 1 t = if 6 + 4 * i0 ≤ t ∧ t < i then ψ 1 (t + 4) else if t = 5 then nI (q.length - 1) else ψ 1 t) ∧ ∀ c' i', c' ≠ 1 → s c' i' = ψ c' i') ∧ 6 + 4 * i0 ≤ i) (fun s => (∀ t, s 1 t = if 6 + 4 * i0 ≤ t ∧ t < 6 + 4 * (q.length - 1) then ψ 1 (t + 4) else if t = 5 then nI (q.length - 1) else ψ 1 t) ∧ ∀ c' i', c' ≠ 1 → s c' i' = ψ c' i') (fun i s hi hI => ?_) (fun s hI => ?_) N (6 + 4 * i0) (upd2 ψ 1 5 (nI (q.length - 1))) (by omega) ⟨⟨fun t => by
      rw [if_neg (by omega), upd2_e]
      by_cases g : t = 5
      · rw [if_pos ⟨rfl, g⟩, if_pos g]
      · rw [if_neg (fun z => g z.2), if_neg g], fun c' i' h => by rw [upd2_o h]⟩, Nat.le_refl _⟩ (by omega)
  · obtain ⟨w, g1, g2, g3⟩ := hloop
    refine ⟨w, ?_, ⟨?_, fun p hp => ?_, ⟨?_, fun j e he => ?_⟩, ⟨?_, fun j hj => ?_⟩⟩, g3⟩
    · unfold G_X9_dropStash
      simp (disch := omega) only [zn_L, zn_M, zn_R, hS.1, g1]
    · unfold zMp at *
      simp only [g2]
      rw [if_neg (by omega), if_neg (by omega), if_neg (by omega), if_neg (by omega), if_neg (by omega), if_neg (by omega), if_neg (by omega), if_neg (by omega), if_neg (by omega), if_neg (by omega)]
      exact hP
    · have := hC p hp
      simp only [g2]
      rw [if_neg (by omega), if_neg (by omega), if_neg (by omega), if_neg (by omega), if_neg (by omega), if_neg (by omega), if_neg (by omega), if_neg (by omega)]
      exact this
    · rw [g2, if_neg (by omega), if_pos rfl, hl]
    · have hj := (List.getElem?_eq_some_iff.mp he).1
      rw [hl] at hj
      rw [List.getElem?_eraseIdx] at he
      simp only [g2]
      split at he
      · rename_i g
        rw [if_neg (by omega), if_neg (by omega), if_neg (by omega), if_neg (by omega), if_neg (by omega), if_neg (by omega), if_neg (by omega), if_neg (by omega)]
        exact hS.2 j e he
      · rename_i g
        rw [if_pos (by omega), if_pos (by omega), if_pos (by omega), if_pos (by omega)]
        exact hS.2 (j + 1) e he
    · rw [g2, if_neg (by omega), if_neg (by omega)]
      exact hK.1
    · rw [g2, if_neg (by omega), if_neg (by omega)]
      exact hK.2 j hj
  · obtain ⟨hI, hpi⟩ := hI
    refine ⟨upd2 s 1 i (s 1 (i + 4)), ⟨⟨fun t => ?_, fun c' i' hc => ?_⟩, by omega⟩, fun k => ?_⟩
    · rw [upd2_e]
      by_cases g : t = i
      · subst g
        rw [if_pos ⟨rfl, rfl⟩, hI.1, if_neg (by omega), if_neg (by omega), if_pos ⟨hpi, by omega⟩]
      · rw [if_neg (fun z => g z.2), hI.1]
        by_cases g2 : 6 + 4 * i0 ≤ t ∧ t < i
        · rw [if_pos g2, if_pos ⟨g2.1, by omega⟩]
        · rw [if_neg g2, if_neg (show ¬ (6 + 4 * i0 ≤ t ∧ t < i + 1) by omega)]
    · rw [upd2_e, if_neg (fun z => hc z.1)]
      exact hI.2 c' i' hc
    · show B_X9_dropStash_17 N _ (nI i) s = _
      have e5 : s 1 5 = nI (q.length - 1) := by rw [hI.1, if_neg (by omega), if_pos rfl]
      unfold B_X9_dropStash_17
      simp (disch := omega) only [zn_L, zn_M, zn_R, e5]
      rw [if_neg (by omega)]
  · obtain ⟨hI, hpi⟩ := hI
    refine ⟨s, hI, fun k => ?_⟩
    show B_X9_dropStash_17 N _ (nI (6 + 4 * (q.length - 1))) s = _
    have e5 : s 1 5 = nI (q.length - 1) := by rw [hI.1, if_neg (by omega), if_pos rfl]
    unfold B_X9_dropStash_17
    simp (disch := omega) only [zn_L, zn_M, zn_R, e5]
    rw [if_pos (by omega)]
theorem era_app {α : Type} (kp : List α) (e : α) (rest : List α) : (kp ++ e :: rest).eraseIdx kp.length = kp ++ rest := by
  rw [List.eraseIdx_append_of_length_le (Nat.le_refl _), Nat.sub_self]
  rfl
theorem putE_m {ψ : M2} {P : Pm} {c : Ce} {q : List En} {nk : Nat} {K : Nat → Nat} (h : zRM (ψ 1) P c q nk K) (hq : q.length ≤ 3) {p : Nat} (hp : p < 256) (o : Option En) : zRM (putE ψ p o 1) P (uC c p o) q nk K := by
  have hl := putE_l ψ hp o
  exact ⟨zMp_c h.1 hl, putE_c h.2.1 hp o, zMq_c h.2.2.1 hq hl, zMk_c h.2.2.2 hl⟩
set_option maxHeartbeats 1000000 in
theorem zm_lloop {N : Nat} (hN : 5000 ≤ N) {P : Pm} (hW : zWp P) {nk : Nat} {K : Nat → Nat} : ∀ (rest kp : List En) (many : Nat) (ψ : M2) (c : Ce) (k : Nat), (kp ++ rest).length ≤ 3 → zRM (ψ 1) P c (kp ++ rest) nk K → zWc P.1 P.2.1 c → (∀ e, e ∈ rest → zEo P.1 e) → rest.length < k →
    ∃ ψ', L_X9_leave_4 N k (nI many) (nI kp.length) ψ = some (nI (many + (lv P.1 P.2.1 c rest).1), ψ') ∧ zRM (ψ' 1) P (lv P.1 P.2.1 c rest).2.1 (kp ++ (lv P.1 P.2.1 c rest).2.2) nk K ∧ zFr ψ ψ' := by
  have hb := hW.1
  have h6 := p2_6 hb.2
  intro rest
  induction rest with
  | nil =>
    intro kp many ψ c k hl hR hV he hk
    obtain ⟨k, rfl⟩ : ∃ j, k = j + 1 := ⟨k - 1, by simp at hk; omega⟩
    rw [List.append_nil] at hR hl
    refine ⟨ψ, ?_, ?_, zFr_r ψ⟩
    · show B_X9_leave_4 N _ _ (nI kp.length) ψ = some (nI (many + 0), ψ)
      unfold B_X9_leave_4
      simp (disch := omega) only [zn_L, zn_M, zn_R, hR.2.2.1.1]
      rw [if_pos (by omega)]
      rfl
    · show zRM (ψ 1) P c (kp ++ []) nk K
      rw [List.append_nil]
      exact hR
  | cons e rest ih =>
    intro kp many ψ c k hl hR hV he hk
    have hlen : (e :: rest).length = rest.length + 1 := rfl
    rw [hlen] at hk
    obtain ⟨k, rfl⟩ : ∃ j, k = j + 1 := ⟨k - 1, by omega⟩
    have hll : (kp ++ e :: rest).length = kp.length + (rest.length + 1) := by rw [List.length_append]; rfl
    rw [hll] at hl
    have hee := he e List.mem_cons_self
    have hel := zEo_lt hb.2 hee
    have he' : ∀ f, f ∈ rest → zEo P.1 f := fun f hf => he f (List.mem_cons_of_mem _ hf)
    have hat : (kp ++ e :: rest)[kp.length]? = some e := by simp
    obtain ⟨h0, h1, h2, h3⟩ := hR.2.2.1.2 kp.length e hat
    have h5 := hR.2.2.1.1
    rw [hll] at h5
    have hq3 : (kp ++ e :: rest).length ≤ 3 := by rw [hll]; exact hl
    -- the held entry
    have hw1 : upd2 (upd2 (upd2 (upd2 ψ 0 6 (nI e.1)) 0 7 (nI e.2.2.1)) 0 8 (nI e.2.2.2)) 0 9 (nI e.2.1) 1 = ψ 1 := by
      rw [upd2_o (by decide), upd2_o (by decide), upd2_o (by decide), upd2_o (by decide)]
    have hH : zHe (upd2 (upd2 (upd2 (upd2 ψ 0 6 (nI e.1)) 0 7 (nI e.2.2.1)) 0 8 (nI e.2.2.2)) 0 9 (nI e.2.1)) e := by
      refine ⟨?_, ?_, ?_, ?_⟩
      · simp [upd2_e]
      · simp [upd2_e]
      · simp [upd2_e]
      · simp [upd2_e]
    have hFw : zFr ψ (upd2 (upd2 (upd2 (upd2 ψ 0 6 (nI e.1)) 0 7 (nI e.2.2.1)) 0 8 (nI e.2.2.2)) 0 9 (nI e.2.1)) := zFr_u (zFr_u (zFr_u (zFr_u (zFr_r ψ) rfl _) rfl _) rfl _) rfl _
    have q1 : upd2 ψ 0 6 (nI e.1) 1 = ψ 1 := upd2_o (by decide)
    have q2 : upd2 (upd2 ψ 0 6 (nI e.1)) 0 7 (nI e.2.2.1) 1 = ψ 1 := by rw [upd2_o (by decide)]; exact q1
    have q3 : upd2 (upd2 (upd2 ψ 0 6 (nI e.1)) 0 7 (nI e.2.2.1)) 0 8 (nI e.2.2.2) 1 = ψ 1 := by rw [upd2_o (by decide)]; exact q2
    generalize hw : upd2 (upd2 (upd2 (upd2 ψ 0 6 (nI e.1)) 0 7 (nI e.2.2.1)) 0 8 (nI e.2.2.2)) 0 9 (nI e.2.1) = w at hw1 hH hFw
    have hRw : zRM (w 1) P c (kp ++ e :: rest) nk K := by rw [hw1]; exact hR
    have hS1 := zm_settles hN (u := e.2.1) hRw.1 hRw.2.1 hW hV (by omega) hH hel.2.1
    have hol := oth_lt e.1 hee.2.1
    have hS2 := zm_settles hN (u := oth P.1 e.2.1 e.1) hRw.1 hRw.2.1 hW hV (by omega) hH hel.2.1
    have hstep : L_X9_leave_4 N (k + 1) (nI many) (nI kp.length) ψ = obd2 (G_X9_settles N w (nI e.2.1)) (fun r13 w11 => if r13 = nI 0 then (oin (nI 0) 1163 <| obd (G_X9_stepOf (w11 0 6) (w11 1 0)) fun r17 => obd2 (G_X9_settles N w11 (w11 0 9 ^^^ r17)) fun r21 w19 => if r21 = nI 0 then L_X9_leave_4 N k (nI many) (nI (kp.length + 1)) w19 else obd (G_X9_dropStash N w19 (nI kp.length)) fun w22 => L_X9_leave_4 N k (nI (many + 1)) (nI kp.length) w22) else obd (G_X9_dropStash N w11 (nI kp.length)) fun w14 => L_X9_leave_4 N k (nI (many + 1)) (nI kp.length) w14) := by
      show B_X9_leave_4 N _ _ (nI kp.length) ψ = _
      unfold B_X9_leave_4
      simp (disch := omega) only [zn_L, zn_M, zn_R, h5, q1, q2, q3, h0, h1, h2, h3, hw]
      rw [if_neg (by omega), hH.2.2.2]
    rw [hstep, hS1]
    -- an entry that leaves
    have hgo : ∀ p, p < 256 → p / 4 < 2 ^ P.1 ∧ p % 4 < P.2.1 → (e.2.1 = p / 4 ∨ e.2.1 = oth P.1 (p / 4) e.1) → slp P.1 P.2.1 c e = some p → ∃ ψ', (obd (G_X9_dropStash N (putE w p (some e)) (nI kp.length)) fun w14 => L_X9_leave_4 N k (nI (many + 1)) (nI kp.length) w14) = some (nI (many + (lv P.1 P.2.1 c (e :: rest)).1), ψ') ∧ zRM (ψ' 1) P (lv P.1 P.2.1 c (e :: rest)).2.1 (kp ++ (lv P.1 P.2.1 c (e :: rest)).2.2) nk K ∧ zFr ψ ψ' := by
      intro p hp hp2 hp3 hsl
      obtain ⟨d, d1, d2, d3⟩ := zm_drop hN (i0 := kp.length) (putE_m hRw hq3 hp (some e)) (by rw [hll]; omega) hq3
      rw [era_app] at d2
      obtain ⟨ψ', g1, g2, g3⟩ := ih kp (many + 1) d (uC c p (some e)) k (by rw [List.length_append]; omega) d2 (zWc_u hV hp2 hee hp3) he' (by omega)
      rw [lv_s hsl]
      refine ⟨ψ', ?_, g2, zFr_t (zFr_t (putE_f hFw p (some e)) (zFr_c1 d3)) g3⟩
      rw [d1]
      simp only [zn_R]
      rw [g1]
      show some (nI (many + 1 + (lv P.1 P.2.1 (uC c p (some e)) rest).1), ψ') = some (nI (many + ((lv P.1 P.2.1 (uC c p (some e)) rest).1 + 1)), ψ')
      rw [show many + 1 + (lv P.1 P.2.1 (uC c p (some e)) rest).1 = many + ((lv P.1 P.2.1 (uC c p (some e)) rest).1 + 1) by omega]
    cases hf1 : fS c P.2.1 e.2.1 with
    | some j =>
      have hj := (fS_lt hf1).1
      have hsl : slp P.1 P.2.1 c e = some (4 * e.2.1 + j) := by
        unfold slp
        rw [hf1]
      obtain ⟨a1, a2, a3, a4, a5⟩ := slp_lt hb.2 hW.2.1.2 hee hsl
      simp only [zn_g, zn_R]
      rw [if_neg (show ¬ (nI 1 = nI 0) from by decide)]
      exact hgo _ a1 ⟨a2, a3⟩ a5 hsl
    | none =>
      simp only [zn_g, zn_R, if_true]
      rw [zn_in _ (by decide) (by decide), hH.1, hRw.1.1, zm_step hel.1 hb.2]
      simp only [zn_R]
      rw [hH.2.2.2]
      simp only [zn_R]
      rw [show e.2.1 ^^^ stp e.1 P.1 = oth P.1 e.2.1 e.1 from rfl, hS2]
      cases hf2 : fS c P.2.1 (oth P.1 e.2.1 e.1) with
      | some j =>
        have hj := (fS_lt hf2).1
        have hsl : slp P.1 P.2.1 c e = some (4 * oth P.1 e.2.1 e.1 + j) := by
          unfold slp
          rw [hf1, hf2]
        obtain ⟨a1, a2, a3, a4, a5⟩ := slp_lt hb.2 hW.2.1.2 hee hsl
        simp only [zn_g, zn_R]
        rw [if_neg (show ¬ (nI 1 = nI 0) from by decide)]
        exact hgo _ a1 ⟨a2, a3⟩ a5 hsl
      | none =>
        have hsl : slp P.1 P.2.1 c e = none := by
          unfold slp
          rw [hf1, hf2]
        simp only [zn_g, zn_R, if_true]
        have hka : (kp ++ [e]).length = kp.length + 1 := List.length_append
        have happ : kp ++ e :: rest = (kp ++ [e]) ++ rest := by simp
        obtain ⟨ψ', g1, g2, g3⟩ := ih (kp ++ [e]) many w c k (by rw [← happ]; exact hq3) (by rw [← happ]; exact hRw) hV he' (by omega)
        rw [lv_n hsl]
        refine ⟨ψ', ?_, ?_, zFr_t hFw g3⟩
        · rw [hka] at g1
          exact g1
        · rw [List.append_assoc] at g2
          exact g2
