/-! the pure layer: inserting in the class, second part -/
theorem slp_n {b s : Nat} {c : Ce} {e : En} (h : slp b s c e = none) : fS c s e.2.1 = none ∧ fS c s (oth b e.2.1 e.1) = none := by
  unfold slp at h
  split at h
  · cases h
  · rename_i h1
    split at h
    · cases h
    · rename_i h2
      exact ⟨h1, h2⟩
theorem wk_ok {b s : Nat} (hb : b ≤ 6) (hs : 1 ≤ s ∧ s ≤ 4) : ∀ (n i : Nat) (c : Ce) (e : En) (u : Nat) (y : Nat × Ce), zWc b s c → zEo b e → u < 2 ^ b → (e.2.1 = u ∨ e.2.1 = oth b u e.1) → fS c s u = none → wk b s n i c e u = some y → zWc b s y.2 ∧ y.1 ≤ i + n := by
  intro n
  induction n with
  | zero =>
    intro i c e u y _ _ _ _ _ h
    cases h
  | succ n ih =>
    intro i c e u y hV he hu hh hf h
    have h6 := p2_6 hb
    have him : i % s < s := Nat.mod_lt _ (by omega)
    obtain ⟨f, hcf⟩ := fS_full hf him
    obtain ⟨hf1, hf2, hf3, hf4⟩ := hV _ f hcf
    have ediv : (4 * u + i % s) / 4 = u := by omega
    have emod : (4 * u + i % s) % 4 = i % s := by omega
    rw [ediv] at hf4
    have hV' : zWc b s (uC c (4 * u + i % s) (some e)) := zWc_u hV ⟨by omega, by omega⟩ he (by rw [ediv]; exact hh)
    have hu2 : oth b u f.1 < 2 ^ b := oth_lt f.1 hu
    simp only [wk, hcf, og_s] at h
    cases hfs : fS (uC c (4 * u + i % s) (some e)) s (oth b u f.1) with
    | some j =>
      rw [hfs] at h
      have hj := (fS_lt hfs).1
      have e2 := Option.some.inj h
      subst e2
      have e3 : (4 * oth b u f.1 + j) / 4 = oth b u f.1 := by omega
      refine ⟨zWc_u hV' ⟨by omega, by omega⟩ hf3 ?_, by show i + 1 ≤ _; omega⟩
      rw [e3, oth_oth]
      exact hf4.symm
    | none =>
      rw [hfs] at h
      obtain ⟨g1, g2⟩ := ih (i + 1) _ f _ y hV' hf3 hu2 (by rw [oth_oth]; exact hf4.symm) hfs h
      exact ⟨g1, by omega⟩
def insr (P : Pm) (c : Ce) (q : List En) (x : Nat) : Option (Nat × Ce × List En) :=
  og (fun p => some (0, uC c p (some (nE P x)), q)) (og (fun y => some (y.1, y.2, q)) (if q.length < 3 then some (100, c, q ++ [nE P x]) else none) (wk P.1 P.2.1 P.2.2.2.2 0 c (nE P x) (nE P x).2.1)) (slp P.1 P.2.1 c (nE P x))
def insw (P : Pm) (c : Ce) (x : Nat) : List (Nat × Nat) :=
  og (fun _ => []) (wr P.1 P.2.1 P.2.2.2.2 0 c (nE P x) (nE P x).2.1) (slp P.1 P.2.1 c (nE P x))
def zIo (φ' : M2) (P : Pm) (c : Ce) (q : List En) (nk : Nat) (K : Nat → Nat) (r : Int32) : Option (Nat × Ce × List En) → Prop
  | some y => r = nI y.1 ∧ zRC φ' P y.2.1 y.2.2 nk K
  | none => r = mI ∧ zRC φ' P c q nk K
theorem insr_ok {P : Pm} {c : Ce} {q : List En} {nk : Nat} {K : Nat → Nat} {x : Nat} {y : Nat × Ce × List En} (hW : zWF P c q nk K) (h : insr P c q x = some y) : zWF P y.2.1 y.2.2 nk K ∧ y.1 ≤ 100 := by
  obtain ⟨hp, hc, hq, hk⟩ := hW
  have he := nE_ok hp x
  unfold insr at h
  cases hs : slp P.1 P.2.1 c (nE P x) with
  | some p =>
    rw [hs] at h
    have e2 := Option.some.inj h
    subst e2
    obtain ⟨a1, a2, a3, a4, a5⟩ := slp_lt hp.1.2 hp.2.1.2 he hs
    exact ⟨⟨hp, zWc_u hc ⟨a2, a3⟩ he a5, hq, hk⟩, Nat.zero_le _⟩
  | none =>
    rw [hs, og_n] at h
    obtain ⟨f1, f2⟩ := slp_n hs
    cases hw : wk P.1 P.2.1 P.2.2.2.2 0 c (nE P x) (nE P x).2.1 with
    | some z =>
      rw [hw] at h
      have e2 := Option.some.inj h
      subst e2
      obtain ⟨g1, g2⟩ := wk_ok hp.1.2 hp.2.1 _ _ _ _ _ z hc he he.2.1 (Or.inl rfl) f1 hw
      have := hp.2.2.2.2
      exact ⟨⟨hp, g1, hq, hk⟩, by show z.1 ≤ 100; omega⟩
    | none =>
      rw [hw, og_n] at h
      split at h
      · rename_i hl
        have e2 := Option.some.inj h
        subst e2
        refine ⟨⟨hp, hc, ⟨?_, fun e hm => ?_⟩, hk⟩, Nat.le_refl _⟩
        · show (q ++ [nE P x]).length ≤ 3
          rw [List.length_append]
          exact hl
        · rcases List.mem_append.mp hm with g | g
          · exact hq.2 e g
          · rw [List.mem_singleton.mp g]
            exact he
      · cases h
theorem zSt_app {φ : M2} {q : List En} {e : En} (h : zSt φ q) : zSt (upd2 (upd2 φ 2 q.length (ew e)) 0 7 (nI (q.length + 1))) (q ++ [e]) := by
  refine ⟨?_, fun j f hf => ?_⟩
  · rw [upd2_e, if_pos ⟨rfl, rfl⟩, List.length_append]
    rfl
  · rw [upd2_o (by decide), upd2_e]
    rcases Nat.lt_or_ge j q.length with g | g
    · rw [List.getElem?_append_left g] at hf
      rw [if_neg (fun z => by omega)]
      exact h.2 j f hf
    · have e3 : j = q.length := by
        have := (List.getElem?_eq_some_iff.mp hf).1
        rw [List.length_append] at this
        simp at this
        omega
      subst e3
      have e2 : (q ++ [e])[q.length]? = some e := by simp
      rw [e2] at hf
      cases hf
      rw [if_pos ⟨rfl, rfl⟩]
set_option maxHeartbeats 1000000 in
theorem zc_insert {N : Nat} (hN : 5000 ≤ N) {φ : M2} {P : Pm} {c : Ce} {q : List En} {nk : Nat} {K : Nat → Nat} {x : Nat} (hx : x < 1000) (hR : zRC φ P c q nk K) (hF : zWF P c q nk K) : ∃ r φ', G_X2_insert N φ (nI x) = some (r, φ') ∧ zIo φ' P c q nk K r (insr P c q x) ∧ zWr φ' (insw P c x) := by
  obtain ⟨hp, hc, hq, hk⟩ := hF
  have he := nE_ok hp x
  obtain ⟨hP, hC, hS, hK⟩ := hR
  have hP1 : zPm (upd2 φ 5 2 (nI 0)) P := zPm_c hP (upd2_o (by decide))
  have hC1 : zCl (upd2 φ 5 2 (nI 0)) c := zCl_c hC (upd2_o (by decide))
  have hS1 : zSt (upd2 φ 5 2 (nI 0)) q := zSt_c hS (upd2_o (by decide)) (upd2_o (by decide))
  have hK1 : zKy (upd2 φ 5 2 (nI 0)) nk K := zKy_c hK (upd2_o (by decide)) (upd2_o (by decide))
  have hR1 : zWr (upd2 φ 5 2 (nI 0)) [] := ⟨by rw [upd2_e, if_pos ⟨rfl, rfl⟩]; rfl, fun j y hy => by simp at hy⟩
  have hset := zc_settle hN hP1 hC1 hp hc he
  unfold insr insw
  cases hs : slp P.1 P.2.1 c (nE P x) with
  | some p =>
    refine ⟨nI 0, upd2 (upd2 φ 5 2 (nI 0)) 1 p (ew (nE P x)), ?_, ⟨rfl, zPm_c hP1 (upd2_o (by decide)), zCl_u hC1 p (some _), zSt_c hS1 (upd2_o (by decide)) (upd2_o (by decide)), zKy_c hK1 (upd2_o (by decide)) (upd2_o (by decide))⟩, zWr_c hR1 (upd2_o (by decide)) (upd2_o (by decide)) (upd2_o (by decide))⟩
    unfold G_X2_insert G_X7_restart
    simp (disch := omega) only [zn_L, zn_M, zn_R, zc_new hP1 hp hx, hset, hs, zn_g]
    rw [if_neg (by omega)]
  | none =>
    obtain ⟨f1, f2⟩ := slp_n hs
    obtain ⟨r, w, g1, g2, g3, g4⟩ := zc_wander hN hp P.2.2.2.2 0 [] (upd2 φ 5 2 (nI 0)) c (nE P x) (nE P x).2.1 N (Nat.zero_add _) rfl (by have := hp.2.2.2.2; omega) hP1 hC1 hc he he.2.1 (Or.inl rfl) f1 hR1 (zBk_0 N c (nE P x))
    rw [List.nil_append] at g3
    rw [Nat.zero_mod] at g1
    have hstep : G_X2_wander N (upd2 φ 5 2 (nI 0)) (ew (nE P x)) = some (r, w) := by
      unfold G_X2_wander
      simp (disch := omega) only [zn_L, zn_M, zn_R, (zc_et hp.1.2 he).2.1, g1]
    have w0 : w 0 = upd2 φ 5 2 (nI 0) 0 := g4 0 (by decide) (by decide) (by decide) (by decide)
    have w2 : w 2 = upd2 φ 5 2 (nI 0) 2 := g4 2 (by decide) (by decide) (by decide) (by decide)
    have hPw : zPm w P := zPm_c hP1 w0
    have hSw : zSt w q := zSt_c hS1 w0 w2
    have hKw : zKy w nk K := zKy_c hK1 (g4 3 (by decide) (by decide) (by decide) (by decide)) (g4 4 (by decide) (by decide) (by decide) (by decide))
    have h7 := hSw.1
    have hq3 := hq.1
    simp only [og_n]
    cases hw : wk P.1 P.2.1 P.2.2.2.2 0 c (nE P x) (nE P x).2.1 with
    | some z =>
      rw [hw] at g2
      obtain ⟨e1, hCw⟩ := g2
      subst e1
      have hz := (wk_ok hp.1.2 hp.2.1 _ _ _ _ _ z hc he he.2.1 (Or.inl rfl) f1 hw).2
      have h50 := hp.2.2.2.2
      refine ⟨nI z.1, w, ?_, ⟨rfl, hPw, hCw, hSw, hKw⟩, g3⟩
      unfold G_X2_insert G_X7_restart
      simp (disch := omega) only [zn_L, zn_M, zn_R, zc_new hP1 hp hx, hset, hs, zn_g, hstep, if_true, if_false]
    | none =>
      rw [hw] at g2
      obtain ⟨e1, hCw⟩ := g2
      subst e1
      rcases Nat.lt_or_ge q.length 3 with hl | hl
      · refine ⟨nI 100, upd2 (upd2 w 2 q.length (ew (nE P x))) 0 7 (nI (q.length + 1)), ?_, ?_, ?_⟩
        · unfold G_X2_insert G_X7_restart
          simp (disch := omega) only [zn_L, zn_M, zn_R, zc_new hP1 hp hx, hset, hs, zn_g, hstep, if_true, h7]
          rw [if_neg (by omega), if_pos hl]
          simp (disch := omega) only [zn_R, upd2_e, h7, (show ((0 : Nat) = 2) = False from by decide), false_and, if_false]
        · simp only [og_n, if_pos hl]
          refine ⟨rfl, ?_, ?_, zSt_app hSw, ?_⟩
          · unfold zPm at *
            simp only [upd2_e, (show ((0 : Nat) = 2) = False from by decide), (show ((0 : Nat) = 7) = False from by decide), (show ((1 : Nat) = 7) = False from by decide), (show ((2 : Nat) = 7) = False from by decide), (show ((3 : Nat) = 7) = False from by decide), (show ((4 : Nat) = 7) = False from by decide), and_false, false_and, if_false]
            exact hPw
          · exact zCl_c hCw (by rw [upd2_o (by decide), upd2_o (by decide)])
          · exact zKy_c hKw (by rw [upd2_o (by decide), upd2_o (by decide)]) (by rw [upd2_o (by decide), upd2_o (by decide)])
        · exact zWr_c g3 (by rw [upd2_o (by decide), upd2_o (by decide)]) (by rw [upd2_o (by decide), upd2_o (by decide)]) (by rw [upd2_o (by decide), upd2_o (by decide)])
      · refine ⟨mI, w, ?_, ?_, g3⟩
        · unfold G_X2_insert G_X7_restart
          simp (disch := omega) only [zn_L, zn_M, zn_R, zc_new hP1 hp hx, hset, hs, zn_g, hstep, if_true, h7]
          rw [if_neg (by omega), if_neg (by omega)]
        · simp only [og_n, if_neg (show ¬ q.length < 3 by omega)]
          exact ⟨rfl, hPw, hCw, hSw, hKw⟩
