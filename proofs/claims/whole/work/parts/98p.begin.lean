/-! the pure layer: the beginning; all pairs -/
theorem zI_rel {N : Nat} (hN : 5000 ≤ N) : ∃ ψ0, G_X9_empties N fM1 = some ψ0 ∧ zRl fFI fFI (fun _ => fFI, 0) fT0 ψ0 0 := by
  have hP : zMp (fM1 1) (2, 2, 5, 0, 10) := ⟨by decide, by decide, by decide, by decide, by decide⟩
  have hK : zMk (fM1 1) 0 (fun _ => 0) := ⟨by decide, fun i hi => by omega⟩
  obtain ⟨ψ0, h1, h2, h3⟩ := zm_empties hN hP hK
  have hW : zWp (2, 2, 5, 0, 10) := ⟨⟨by decide, by decide⟩, ⟨by decide, by decide⟩, ⟨by decide, by decide⟩, by decide, by decide⟩
  have hC : zCl fFI nC := fun p hp => by
    show (if 1 = 1 ∧ p < 256 then (-1 : Int32) else fF0 1 p) = mI
    rw [if_pos ⟨rfl, hp⟩]
    rfl
  refine ⟨ψ0, h1, ((2, 2, 5, 0, 10), nC, [], 0, fun _ => 0), [], [], ⟨⟨⟨by decide, by decide, by decide, by decide, by decide⟩, hC, ⟨by decide, fun i e he => by simp at he⟩, ⟨by decide, fun i hi => absurd hi (Nat.not_lt_zero _)⟩⟩, h2, ⟨hW, nC_ok _ _, nq_ok _, ⟨Nat.zero_le _, fun i hi => absurd hi (Nat.not_lt_zero _)⟩⟩⟩, ⟨⟨rfl, fun i T hT => by simp at hT⟩, ⟨?_, fun i T hT => by simp at hT⟩, ⟨Nat.zero_le _, fun T hT => by simp at hT⟩⟩, Nat.zero_le _, rfl, ?_, fun i x hx => by simp at hx⟩
  · rw [h3 0 2 (by decide)]
    rfl
  · rw [h3 0 4 (by decide)]
    rfl
theorem pall {N : Nat} (hN : 5000 ≤ N) : Pall N zRl := ⟨pq_0 hN, pq_1 hN, pq_2 hN, pq_3 hN, pq_4 hN, pq_5 hN, pq_6 hN, pq_7 hN, pq_8 hN, pq_9 hN, pq_10 hN, pq_11 hN, pq_12 hN, pq_13 hN, pq_14 hN, pq_15 hN, pq_16 hN, pq_17 hN, pq_18 hN, pq_19 hN, pq_20 hN, pq_21 hN, pq_22 hN, pq_23 hN, pq_24 hN, pq_25 hN, pq_26 hN, pq_27 hN, pq_28 hN, pq_29 hN, pq_30 hN, pq_31 hN, pq_32 hN, pq_33 hN, pq_34 hN, pq_35 hN⟩
