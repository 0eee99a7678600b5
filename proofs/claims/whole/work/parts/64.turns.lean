theorem nb_clamp : ∀ j : Nat, j < 2600 → (Int32.ofNat j).toNatClampNeg = j ∧ ¬ (Int32.ofNat j) < 0 := by decide +kernel
theorem nb_small : ∀ j : Nat, j < 2600 → ∀ L : Nat, L < 5 → (Int32.ofNat L - 5) < Int32.ofNat j := by decide +kernel
theorem nb_sub {L : Nat} (h : 5 ≤ L) : Int32.ofNat L - 5 = Int32.ofNat (L - 5) := by
  obtain ⟨M, rfl⟩ : ∃ M, L = M + 5 := ⟨L - 5, by omega⟩
  rw [Int32.ofNat_add, Nat.add_sub_cancel]
  exact Int32.add_sub_cancel _ _
theorem nb_go {L j : Nat} (hL : L ≤ 2560) (hj : j < 2600) (h : ¬ (Int32.ofNat L - 5) < Int32.ofNat j) : j + 5 ≤ L := by
  by_cases h5 : 5 ≤ L
  · rw [nb_sub h5] at h
    have h2 := (Int32.ofNat_le_ofNat (by omega) (by omega)).mp (Int32.not_lt.mp h)
    omega
  · exact absurd (nb_small j hj L (by omega)) h
theorem nb_k (j : Nat) : Int32.ofNat j + 1 = Int32.ofNat (j + 1) ∧ Int32.ofNat j + 2 = Int32.ofNat (j + 2) ∧ Int32.ofNat j + 3 = Int32.ofNat (j + 3) ∧ Int32.ofNat j + 4 = Int32.ofNat (j + 4) ∧ Int32.ofNat j + 5 = Int32.ofNat (j + 5) := by
  simp only [Int32.ofNat_add]
  exact ⟨rfl, rfl, rfl, rfl, rfl⟩
theorem nb_in {j L : Nat} (hj : j < 2600) (h : j < L) : vp_in (Int32.ofNat j) L := fun z => z.elim (nb_clamp j hj).2 (fun z => by rw [(nb_clamp j hj).1] at z; omega)
section LCE
variable {p : Program} {l : Launch} {e : Env} {s : State} {m : MethodId} {args : Array Value} {below : List Frame} {meth : Method} {c : Code} {H : Heap} {locs : List Loc} {nc ns : Nat} {Q : State → Prop} {ls : Array Slot} {rest : List Value} {cc : ByteArray} {pc cells slots : Nat} {R : Room}
variable {D : va_G} {cI cF cL : ClassId} {b : Bf} {u0 φ : M2} {η : HT} {τ : M2} {q : Nat} {f : Nat → Int64} {a : Nat → Nat} {ψ : M2} {hv : Int64} {A0 : Nat → Prop} {sb L N : Nat} {xs : Nat → Int32} {Rel : M2 → M2 → HT → M2 → M2 → Int64 → Prop} {v4 p1 p2 p3 p4 : Int32}
set_option maxHeartbeats 4000000 in
theorem lc_loop (P : Pall N Rel) (hl0 : l.stackTraces = false) (hx : p.tables.exec = Jvm.exec) (hb : c.code = cL_law) (S : CallFix p m c cL_law 7 s args AW RL) (hC : lxC D A0 cI cF cL s) (hX : va_X sb L xs s s.heap) (hbl : sb < s.heap.size) (hbA : ¬ A0 sb) (hLn : L ≤ 2560)
    (kx : ∀ (i : Nat) (H : Heap) (locs : List Loc) (ls : Array Slot), i ≤ 514 → va_S A0 s.heap H locs → W p l e room_1 s m args below meth c H locs (100 + 8 * i) (20000 + 48 * i) Q (F0 m 2089 ls [])) :
    ∀ (k i : Nat) (b : Bf) (u0 φ : M2) (η : HT) (τ : M2) (f : Nat → Int64) (ψ : M2) (hv : Int64) (H : Heap) (locs : List Loc) (ls : Array Slot), i + k = 514 → Rel u0 φ η τ ψ hv → lxS D A0 s.heap cI cF cL b q u0 φ η τ f a ψ hv H locs → lv_has ls 7 [(4, .int (Int32.ofNat (5 * i))), (3, .ref q), (2, .ref (a 0)), (1, .ref (b 6 0)), (0, .ref sb)] → W p l e room_1 s m args below meth c H locs (100 + 8 * i) (20000 + 48 * i) Q (F0 m 23 ls []) := by
  intro k
  induction k with
  | zero =>
    intro i b u0 φ η τ f ψ hv H locs ls hi hRel hL hl
    refine lv_iload hx hb dL_law_23 (lv_at hl 0 rfl) ?_
    refine lv_aload_n hx hb dL_law_25 rfl (lv_at hl 4 rfl) ?_
    refine va_slen hx hb hX hbl hbA hL.2.2 dL_law_26 ?_
    refine lv_iconst (v := 5) hx hb dL_law_27 (by decide) ?_
    refine lv_isub hx hb dL_law_28 ?_
    refine lv_icmp_gt (tgt := 2089) hx hb dL_law_29 (by decide) (fun _ => ?_) (fun hc => ?_)
    · exact kx i H locs ls (by omega) hL.2.2
    · have h9 := nb_go hLn (by omega : 5 * i < 2600) hc
      omega
  | succ k ih =>
    intro i b u0 φ η τ f ψ hv H locs ls hi hRel hL hl
    refine lv_iload hx hb dL_law_23 (lv_at hl 0 rfl) ?_
    refine lv_aload_n hx hb dL_law_25 rfl (lv_at hl 4 rfl) ?_
    refine va_slen hx hb hX hbl hbA hL.2.2 dL_law_26 ?_
    refine lv_iconst (v := 5) hx hb dL_law_27 (by decide) ?_
    refine lv_isub hx hb dL_law_28 ?_
    refine lv_icmp_gt (tgt := 2089) hx hb dL_law_29 (by decide) (fun _ => ?_) (fun hc => ?_)
    · exact kx i H locs ls (by omega) hL.2.2
    · have h9 := nb_go hLn (by omega : 5 * i < 2600) hc
      obtain ⟨k1, k2, k3, k4, k5⟩ := nb_k (5 * i)
      refine lc_step P hRel hl0 hx hb S hC hX hbl hbA (nb_in (by omega) (by omega)) (by rw [k1]; exact nb_in (by omega) (by omega)) (by rw [k2]; exact nb_in (by omega) (by omega)) (by rw [k3]; exact nb_in (by omega) (by omega)) (by rw [k4]; exact nb_in (by omega) (by omega)) (by omega) (by omega) hL hl (fun u u0r φr ηr τr fr ψr hvr H locs ls hRel hL h6 hl => ?_)
      rw [← h6] at hl
      refine lv_iinc (v := Int32.ofNat (5 * (i + 1))) (lv' := [(4, .int (Int32.ofNat (5 * (i + 1)))), (3, .ref q), (2, .ref (a 0)), (1, .ref (u 6 0)), (0, .ref sb)]) hx hb dL_law_2083 hl (k := 0) rfl (by rw [show 5 * (i + 1) = 5 * i + 5 by omega, ← k5]; rfl) (by decide) rfl (fun ls hl => ?_)
      refine lv_goto (tgt := 23) hx hb dL_law_2086 (by decide) ?_
      rw [show 100 + 8 * i + 8 = 100 + 8 * (i + 1) by omega, show 20000 + 48 * i + 48 = 20000 + 48 * (i + 1) by omega]
      exact ih (i + 1) u u0r φr ηr τr fr ψr hvr H locs ls (by omega) hRel hL hl
end LCE
