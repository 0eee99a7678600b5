/-! constructors -/
theorem gI {y : MethodName} {bytes : ByteArray} {n : Nat} {ret : Option FieldType} (h : Cond.code y bytes n ret ∈ AW) : GoodIn AW (wsA y bytes n ret) := by
  intro w hw
  have hm : w ∈ AW := by
    rcases List.mem_cons.mp hw with rfl | hw
    · exact h
    · exact hw
  exact ⟨hm, good_of_word (AW_good w hm)⟩
theorem fx_cI {D : va_G} {cl : List vw_C} {s : State} {cI cA : ClassId} (h : va_K D cl ([(cI, .int)] ++ [(cA, .int)]) s) : cI = cA := by
  have h1 : s.vm.findClass ("[" ++ FieldType.int.toString) = some cI := (h.2 0 _ rfl).2
  have h2 : s.vm.findClass ("[" ++ FieldType.int.toString) = some cA := (h.2 1 _ rfl).2
  exact Option.some.inj (h1.symm.trans h2)
def fx_N (U : State) : Prop := va_Nw (.methodLinkNest RX2 36 yX4_init RX8) U ∧ va_Nw (.methodLinkNest RX2 43 yX7_init RX8) U ∧ va_Nw (.methodLinkNest RX2 50 yX5_init RX8) U
theorem fx_N.same {u U : State} (h : u.vm = U.vm) (q : fx_N u) : fx_N U := ⟨va_Nw.same rfl h q.1, va_Nw.same rfl h q.2.1, va_Nw.same rfl h q.2.2⟩
theorem fx_N.warm {s U : State} (h : s.WarmedH U.vm) (q : fx_N s) : fx_N U := ⟨va_Nw.warmM h q.1, va_Nw.warmM h q.2.1, va_Nw.warmM h q.2.2⟩
def fx_N8 (U : State) : Prop := fx_N U ∧ va_Nw (.methodLinkNest RX8 28 yX6_init RX8) U ∧ va_AO RX2 U
theorem fx_N8.same {u U : State} (h : u.vm = U.vm) (q : fx_N8 u) : fx_N8 U := ⟨fx_N.same h q.1, va_Nw.same rfl h q.2.1, va_AO.moved (by rw [h]; exact Vm.Alike.refl _) q.2.2⟩
theorem fx_N8.warm {s U : State} (h : s.WarmedH U.vm) (q : fx_N8 s) : fx_N8 U := ⟨fx_N.warm h q.1, va_Nw.warmM h q.2.1, va_AO.moved h.alike q.2.2⟩
def fxT (_ : State) : Prop := True
set_option maxHeartbeats 4000000 in
set_option maxRecDepth 100000 in
theorem c_X4_init (l : Launch) (D : va_G) (cI : ClassId) (h0 sz : Nat) : Met l yX4_init (wsA yX4_init cX4_init 1 none) { frames := 1, cells := 1, slots := 120, locals := 12 } (va_Pc [.ref h0] (fun U => U.heap.size = sz ∧ va_P D vwCl [(h0, .inr (2, [.null, .int 0]))] U.heap ∧ va_K D vwCl [(cI, .int)] U ∧ va_D (fun _ => True) [(h0, .inr (2, [.null, .int 0]))] ∧ fxT U)) (va_Qv (fun (_ : Unit) => True) (fun _ t => ∃ q1 : Nat, va_P D vwCl [(h0, .inr (2, [.ref q1, .int 0])), (q1, .inl (cI, 120, .inl (fun _ => 0)))] t.heap ∧ va_D (va_A [(h0, .inr (2, [.null, .int 0]))] sz) [(h0, .inr (2, [.ref q1, .int 0])), (q1, .inl (cI, 120, .inl (fun _ => 0)))]) (va_A [(h0, .inr (2, [.null, .int 0]))] sz)) 1 120 (va_A [(h0, .inr (2, [.null, .int 0]))] sz) := by
  refine Met.ofW (cc := cX4_init) (maxL := 1) (ret := none) (by decide) rfl ?_
  intro p e s m args below meth c s₁ B hml hv
  obtain ⟨rfl, hsz, hP, hK, hD0, hN⟩ := hv
  have hx := B.exec
  have hb := B.bytes
  have hr := B.returns
  have hA : ∀ w ∈ AW, w.before _ s = true := fun w h => atoms_spec (ws := wsA yX4_init cX4_init 1 none) B.pre w (List.mem_cons_of_mem _ h)
  have hown : s.vm.findClass RX4 = some m.cls := findClass_of_methodNamed B.named
  have hlocks := B.notSynchronized
  have hin : meth.name = "<init>" := (name_of_methodNamed B.named B.method).1
  have S : CallFix p m c cX4_init 1 s ([.ref h0] : List Value).toArray AW RX4 := ⟨hx, hb, hml, hown, hA⟩
  subst hsz
  have hD := hD0.self (sz := s.heap.size)
  generalize hAe : va_A [(h0, .inr (2, [.null, .int 0]))] s.heap.size = A at hD ⊢
  have hAq : ∀ q : Nat, s.heap.size ≤ q → A q := fun q h => by rw [← hAe]; exact Or.inr h
  have hS : va_S A s.heap s.heap [] := va_S.rf
  have hP : va_P D vwCl [(h0, .inr (2, [.null, .int 0]))] s.heap := hP
  have hl := lv_entry ([.ref h0]) (n := 1) (Nat.le_of_ble_eq_true rfl)
  rw [lg_entry_eq]
  generalize (lg_sl ([.ref h0]) ++ List.replicate (1 - (lg_sl ([.ref h0])).length) Slot.unset).toArray = ls at hl ⊢
  have hl : lv_has ls 1 [(0, .ref h0)] := hl
  refine lv_aload_n hx hb dX4_init_0 rfl (lv_at hl 0 rfl) ?_
  refine W.objInit hx hb hown (hA _ aM_RX4_3) (hA _ aI_objectInit) (hA _ aC_objectInit) rfl (by rw [hml]; exact hl.1) rfl dX4_init_1 (Nat.le_of_ble_eq_true rfl) (Nat.le_of_ble_eq_true rfl) ?_
  refine W.eq (g2 := F0 m 4 ls []) rfl ?_
  refine lv_aload_n hx hb dX4_init_4 rfl (lv_at hl 0 rfl) ?_
  refine lv_bipush (v := 120) hx hb dX4_init_5 (by decide) ?_
  refine va_newa (D := D) (cl := vwCl) (atype := .int) hx hb (hA _ aA_int) (ty := .int) rfl hK hP hD hS hAq (N' := 120) (a0 := (120, .inl (fun _ => 0))) (fun _ => rfl) (by decide) (by decide) (by decide) (Nat.le_of_ble_eq_true rfl) (Nat.le_of_ble_eq_true rfl) dX4_init_7 (fun q1 cA H hKn hP hD hS => ?_)
  obtain rfl := fx_cI hKn
  clear hKn
  have hP : va_P D vwCl [(h0, .inr (2, [.null, .int 0])), (q1, .inl (cI, 120, .inl (fun _ => 0)))] H := hP
  have hD : va_D A [(h0, .inr (2, [.null, .int 0])), (q1, .inl (cI, 120, .inl (fun _ => 0)))] := hD
  refine va_putF (D := D) (ci := 2) (v := .ref q1) (ty := (.array .int)) (C := RX4) (T := TX4) (N := 2) hx hb hA in_wsX40 tyX4 tyX4_ok nmX4 hown hK hP hD hS 0 rfl rfl 0 (by decide) (hA _ aF_RX4_9) (fun _ h9 => h9) rfl hin rfl (by decide +kernel) rfl rfl (Nat.le_of_ble_eq_true rfl) dX4_init_9 (fun H locs hP hD hS => ?_)
  have hP : va_P D vwCl [(h0, .inr (2, [.ref q1, .int 0])), (q1, .inl (cI, 120, .inl (fun _ => 0)))] H := hP
  have hD : va_D A [(h0, .inr (2, [.ref q1, .int 0])), (q1, .inl (cI, 120, .inl (fun _ => 0)))] := hD
  exact W.vret hx hb hr (fun t ht hW => ⟨⟨(), rfl, trivial, q1, by rw [ht]; exact hP, hD⟩, hS.F ht⟩) hS.2.2 dX4_init_12
set_option maxHeartbeats 4000000 in
set_option maxRecDepth 100000 in
theorem c_X7_init (l : Launch) (D : va_G) (cI : ClassId) (h0 sz : Nat) : Met l yX7_init (wsA yX7_init cX7_init 1 none) { frames := 1, cells := 2, slots := 100, locals := 12 } (va_Pc [.ref h0] (fun U => U.heap.size = sz ∧ va_P D vwCl [(h0, .inr (5, [.null, .null, .int 0]))] U.heap ∧ va_K D vwCl [(cI, .int)] U ∧ va_D (fun _ => True) [(h0, .inr (5, [.null, .null, .int 0]))] ∧ fxT U)) (va_Qv (fun (_ : Unit) => True) (fun _ t => ∃ q1 q2 : Nat, va_P D vwCl [(h0, .inr (5, [.ref q1, .ref q2, .int 0])), (q1, .inl (cI, 50, .inl (fun _ => 0))), (q2, .inl (cI, 50, .inl (fun _ => 0)))] t.heap ∧ va_D (va_A [(h0, .inr (5, [.null, .null, .int 0]))] sz) [(h0, .inr (5, [.ref q1, .ref q2, .int 0])), (q1, .inl (cI, 50, .inl (fun _ => 0))), (q2, .inl (cI, 50, .inl (fun _ => 0)))]) (va_A [(h0, .inr (5, [.null, .null, .int 0]))] sz)) 2 100 (va_A [(h0, .inr (5, [.null, .null, .int 0]))] sz) := by
  refine Met.ofW (cc := cX7_init) (maxL := 1) (ret := none) (by decide) rfl ?_
  intro p e s m args below meth c s₁ B hml hv
  obtain ⟨rfl, hsz, hP, hK, hD0, hN⟩ := hv
  have hx := B.exec
  have hb := B.bytes
  have hr := B.returns
  have hA : ∀ w ∈ AW, w.before _ s = true := fun w h => atoms_spec (ws := wsA yX7_init cX7_init 1 none) B.pre w (List.mem_cons_of_mem _ h)
  have hown : s.vm.findClass RX7 = some m.cls := findClass_of_methodNamed B.named
  have hlocks := B.notSynchronized
  have hin : meth.name = "<init>" := (name_of_methodNamed B.named B.method).1
  have S : CallFix p m c cX7_init 1 s ([.ref h0] : List Value).toArray AW RX7 := ⟨hx, hb, hml, hown, hA⟩
  subst hsz
  have hD := hD0.self (sz := s.heap.size)
  generalize hAe : va_A [(h0, .inr (5, [.null, .null, .int 0]))] s.heap.size = A at hD ⊢
  have hAq : ∀ q : Nat, s.heap.size ≤ q → A q := fun q h => by rw [← hAe]; exact Or.inr h
  have hS : va_S A s.heap s.heap [] := va_S.rf
  have hP : va_P D vwCl [(h0, .inr (5, [.null, .null, .int 0]))] s.heap := hP
  have hl := lv_entry ([.ref h0]) (n := 1) (Nat.le_of_ble_eq_true rfl)
  rw [lg_entry_eq]
  generalize (lg_sl ([.ref h0]) ++ List.replicate (1 - (lg_sl ([.ref h0])).length) Slot.unset).toArray = ls at hl ⊢
  have hl : lv_has ls 1 [(0, .ref h0)] := hl
  refine lv_aload_n hx hb dX7_init_0 rfl (lv_at hl 0 rfl) ?_
  refine W.objInit hx hb hown (hA _ aM_RX7_3) (hA _ aI_objectInit) (hA _ aC_objectInit) rfl (by rw [hml]; exact hl.1) rfl dX7_init_1 (Nat.le_of_ble_eq_true rfl) (Nat.le_of_ble_eq_true rfl) ?_
  refine W.eq (g2 := F0 m 4 ls []) rfl ?_
  refine lv_aload_n hx hb dX7_init_4 rfl (lv_at hl 0 rfl) ?_
  refine lv_bipush (v := 50) hx hb dX7_init_5 (by decide) ?_
  refine va_newa (D := D) (cl := vwCl) (atype := .int) hx hb (hA _ aA_int) (ty := .int) rfl hK hP hD hS hAq (N' := 50) (a0 := (50, .inl (fun _ => 0))) (fun _ => rfl) (by decide) (by decide) (by decide) (Nat.le_of_ble_eq_true rfl) (Nat.le_of_ble_eq_true rfl) dX7_init_7 (fun q1 cA H hKn hP hD hS => ?_)
  obtain rfl := fx_cI hKn
  clear hKn
  have hP : va_P D vwCl [(h0, .inr (5, [.null, .null, .int 0])), (q1, .inl (cI, 50, .inl (fun _ => 0)))] H := hP
  have hD : va_D A [(h0, .inr (5, [.null, .null, .int 0])), (q1, .inl (cI, 50, .inl (fun _ => 0)))] := hD
  refine va_putF (D := D) (ci := 5) (v := .ref q1) (ty := (.array .int)) (C := RX7) (T := TX7) (N := 3) hx hb hA in_wsX70 tyX7 tyX7_ok nmX7 hown hK hP hD hS 0 rfl rfl 0 (by decide) (hA _ aF_RX7_9) (fun _ h9 => h9) rfl hin rfl (by decide +kernel) rfl rfl (Nat.le_of_ble_eq_true rfl) dX7_init_9 (fun H locs hP hD hS => ?_)
  have hP : va_P D vwCl [(h0, .inr (5, [.ref q1, .null, .int 0])), (q1, .inl (cI, 50, .inl (fun _ => 0)))] H := hP
  have hD : va_D A [(h0, .inr (5, [.ref q1, .null, .int 0])), (q1, .inl (cI, 50, .inl (fun _ => 0)))] := hD
  refine lv_aload_n hx hb dX7_init_12 rfl (lv_at hl 0 rfl) ?_
  refine lv_bipush (v := 50) hx hb dX7_init_13 (by decide) ?_
  refine va_newa (D := D) (cl := vwCl) (atype := .int) hx hb (hA _ aA_int) (ty := .int) rfl hK hP hD hS hAq (N' := 50) (a0 := (50, .inl (fun _ => 0))) (fun _ => rfl) (by decide) (by decide) (by decide) (Nat.le_of_ble_eq_true rfl) (Nat.le_of_ble_eq_true rfl) dX7_init_15 (fun q2 cA H hKn hP hD hS => ?_)
  obtain rfl := fx_cI hKn
  clear hKn
  have hP : va_P D vwCl [(h0, .inr (5, [.ref q1, .null, .int 0])), (q1, .inl (cI, 50, .inl (fun _ => 0))), (q2, .inl (cI, 50, .inl (fun _ => 0)))] H := hP
  have hD : va_D A [(h0, .inr (5, [.ref q1, .null, .int 0])), (q1, .inl (cI, 50, .inl (fun _ => 0))), (q2, .inl (cI, 50, .inl (fun _ => 0)))] := hD
  refine va_putF (D := D) (ci := 5) (v := .ref q2) (ty := (.array .int)) (C := RX7) (T := TX7) (N := 3) hx hb hA in_wsX70 tyX7 tyX7_ok nmX7 hown hK hP hD hS 0 rfl rfl 1 (by decide) (hA _ aF_RX7_15) (fun _ h9 => h9) rfl hin rfl (by decide +kernel) rfl rfl (Nat.le_of_ble_eq_true rfl) dX7_init_17 (fun H locs hP hD hS => ?_)
  have hP : va_P D vwCl [(h0, .inr (5, [.ref q1, .ref q2, .int 0])), (q1, .inl (cI, 50, .inl (fun _ => 0))), (q2, .inl (cI, 50, .inl (fun _ => 0)))] H := hP
  have hD : va_D A [(h0, .inr (5, [.ref q1, .ref q2, .int 0])), (q1, .inl (cI, 50, .inl (fun _ => 0))), (q2, .inl (cI, 50, .inl (fun _ => 0)))] := hD
  exact W.vret hx hb hr (fun t ht hW => ⟨⟨(), rfl, trivial, q1, q2, by rw [ht]; exact hP, hD⟩, hS.F ht⟩) hS.2.2 dX7_init_20
set_option maxHeartbeats 4000000 in
set_option maxRecDepth 100000 in
theorem c_X5_init (l : Launch) (D : va_G) (cI : ClassId) (h0 sz : Nat) : Met l yX5_init (wsA yX5_init cX5_init 1 none) { frames := 1, cells := 2, slots := 128, locals := 12 } (va_Pc [.ref h0] (fun U => U.heap.size = sz ∧ va_P D vwCl [(h0, .inr (3, [.null, .null, .int 0]))] U.heap ∧ va_K D vwCl [(cI, .int)] U ∧ va_D (fun _ => True) [(h0, .inr (3, [.null, .null, .int 0]))] ∧ fxT U)) (va_Qv (fun (_ : Unit) => True) (fun _ t => ∃ q1 q2 : Nat, va_P D vwCl [(h0, .inr (3, [.ref q1, .ref q2, .int 0])), (q1, .inl (cI, 64, .inl (fun _ => 0))), (q2, .inl (cI, 64, .inl (fun _ => 0)))] t.heap ∧ va_D (va_A [(h0, .inr (3, [.null, .null, .int 0]))] sz) [(h0, .inr (3, [.ref q1, .ref q2, .int 0])), (q1, .inl (cI, 64, .inl (fun _ => 0))), (q2, .inl (cI, 64, .inl (fun _ => 0)))]) (va_A [(h0, .inr (3, [.null, .null, .int 0]))] sz)) 2 128 (va_A [(h0, .inr (3, [.null, .null, .int 0]))] sz) := by
  refine Met.ofW (cc := cX5_init) (maxL := 1) (ret := none) (by decide) rfl ?_
  intro p e s m args below meth c s₁ B hml hv
  obtain ⟨rfl, hsz, hP, hK, hD0, hN⟩ := hv
  have hx := B.exec
  have hb := B.bytes
  have hr := B.returns
  have hA : ∀ w ∈ AW, w.before _ s = true := fun w h => atoms_spec (ws := wsA yX5_init cX5_init 1 none) B.pre w (List.mem_cons_of_mem _ h)
  have hown : s.vm.findClass RX5 = some m.cls := findClass_of_methodNamed B.named
  have hlocks := B.notSynchronized
  have hin : meth.name = "<init>" := (name_of_methodNamed B.named B.method).1
  have S : CallFix p m c cX5_init 1 s ([.ref h0] : List Value).toArray AW RX5 := ⟨hx, hb, hml, hown, hA⟩
  subst hsz
  have hD := hD0.self (sz := s.heap.size)
  generalize hAe : va_A [(h0, .inr (3, [.null, .null, .int 0]))] s.heap.size = A at hD ⊢
  have hAq : ∀ q : Nat, s.heap.size ≤ q → A q := fun q h => by rw [← hAe]; exact Or.inr h
  have hS : va_S A s.heap s.heap [] := va_S.rf
  have hP : va_P D vwCl [(h0, .inr (3, [.null, .null, .int 0]))] s.heap := hP
  have hl := lv_entry ([.ref h0]) (n := 1) (Nat.le_of_ble_eq_true rfl)
  rw [lg_entry_eq]
  generalize (lg_sl ([.ref h0]) ++ List.replicate (1 - (lg_sl ([.ref h0])).length) Slot.unset).toArray = ls at hl ⊢
  have hl : lv_has ls 1 [(0, .ref h0)] := hl
  refine lv_aload_n hx hb dX5_init_0 rfl (lv_at hl 0 rfl) ?_
  refine W.objInit hx hb hown (hA _ aM_RX5_3) (hA _ aI_objectInit) (hA _ aC_objectInit) rfl (by rw [hml]; exact hl.1) rfl dX5_init_1 (Nat.le_of_ble_eq_true rfl) (Nat.le_of_ble_eq_true rfl) ?_
  refine W.eq (g2 := F0 m 4 ls []) rfl ?_
  refine lv_aload_n hx hb dX5_init_4 rfl (lv_at hl 0 rfl) ?_
  refine lv_bipush (v := 64) hx hb dX5_init_5 (by decide) ?_
  refine va_newa (D := D) (cl := vwCl) (atype := .int) hx hb (hA _ aA_int) (ty := .int) rfl hK hP hD hS hAq (N' := 64) (a0 := (64, .inl (fun _ => 0))) (fun _ => rfl) (by decide) (by decide) (by decide) (Nat.le_of_ble_eq_true rfl) (Nat.le_of_ble_eq_true rfl) dX5_init_7 (fun q1 cA H hKn hP hD hS => ?_)
  obtain rfl := fx_cI hKn
  clear hKn
  have hP : va_P D vwCl [(h0, .inr (3, [.null, .null, .int 0])), (q1, .inl (cI, 64, .inl (fun _ => 0)))] H := hP
  have hD : va_D A [(h0, .inr (3, [.null, .null, .int 0])), (q1, .inl (cI, 64, .inl (fun _ => 0)))] := hD
  refine va_putF (D := D) (ci := 3) (v := .ref q1) (ty := (.array .int)) (C := RX5) (T := TX5) (N := 3) hx hb hA in_wsX50 tyX5 tyX5_ok nmX5 hown hK hP hD hS 0 rfl rfl 0 (by decide) (hA _ aF_RX5_9) (fun _ h9 => h9) rfl hin rfl (by decide +kernel) rfl rfl (Nat.le_of_ble_eq_true rfl) dX5_init_9 (fun H locs hP hD hS => ?_)
  have hP : va_P D vwCl [(h0, .inr (3, [.ref q1, .null, .int 0])), (q1, .inl (cI, 64, .inl (fun _ => 0)))] H := hP
  have hD : va_D A [(h0, .inr (3, [.ref q1, .null, .int 0])), (q1, .inl (cI, 64, .inl (fun _ => 0)))] := hD
  refine lv_aload_n hx hb dX5_init_12 rfl (lv_at hl 0 rfl) ?_
  refine lv_bipush (v := 64) hx hb dX5_init_13 (by decide) ?_
  refine va_newa (D := D) (cl := vwCl) (atype := .int) hx hb (hA _ aA_int) (ty := .int) rfl hK hP hD hS hAq (N' := 64) (a0 := (64, .inl (fun _ => 0))) (fun _ => rfl) (by decide) (by decide) (by decide) (Nat.le_of_ble_eq_true rfl) (Nat.le_of_ble_eq_true rfl) dX5_init_15 (fun q2 cA H hKn hP hD hS => ?_)
  obtain rfl := fx_cI hKn
  clear hKn
  have hP : va_P D vwCl [(h0, .inr (3, [.ref q1, .null, .int 0])), (q1, .inl (cI, 64, .inl (fun _ => 0))), (q2, .inl (cI, 64, .inl (fun _ => 0)))] H := hP
  have hD : va_D A [(h0, .inr (3, [.ref q1, .null, .int 0])), (q1, .inl (cI, 64, .inl (fun _ => 0))), (q2, .inl (cI, 64, .inl (fun _ => 0)))] := hD
  refine va_putF (D := D) (ci := 3) (v := .ref q2) (ty := (.array .int)) (C := RX5) (T := TX5) (N := 3) hx hb hA in_wsX50 tyX5 tyX5_ok nmX5 hown hK hP hD hS 0 rfl rfl 1 (by decide) (hA _ aF_RX5_15) (fun _ h9 => h9) rfl hin rfl (by decide +kernel) rfl rfl (Nat.le_of_ble_eq_true rfl) dX5_init_17 (fun H locs hP hD hS => ?_)
  have hP : va_P D vwCl [(h0, .inr (3, [.ref q1, .ref q2, .int 0])), (q1, .inl (cI, 64, .inl (fun _ => 0))), (q2, .inl (cI, 64, .inl (fun _ => 0)))] H := hP
  have hD : va_D A [(h0, .inr (3, [.ref q1, .ref q2, .int 0])), (q1, .inl (cI, 64, .inl (fun _ => 0))), (q2, .inl (cI, 64, .inl (fun _ => 0)))] := hD
  exact W.vret hx hb hr (fun t ht hW => ⟨⟨(), rfl, trivial, q1, q2, by rw [ht]; exact hP, hD⟩, hS.F ht⟩) hS.2.2 dX5_init_20
set_option maxHeartbeats 4000000 in
set_option maxRecDepth 100000 in
theorem c_X6_init (l : Launch) (D : va_G) (cI : ClassId) (h0 sz : Nat) : Met l yX6_init (wsA yX6_init cX6_init 1 none) { frames := 1, cells := 1, slots := 100, locals := 12 } (va_Pc [.ref h0] (fun U => U.heap.size = sz ∧ va_P D vwCl [(h0, .inr (4, [.null, .int 0]))] U.heap ∧ va_K D vwCl [(cI, .int)] U ∧ va_D (fun _ => True) [(h0, .inr (4, [.null, .int 0]))] ∧ fxT U)) (va_Qv (fun (_ : Unit) => True) (fun _ t => ∃ q1 : Nat, va_P D vwCl [(h0, .inr (4, [.ref q1, .int 0])), (q1, .inl (cI, 100, .inl (fun _ => 0)))] t.heap ∧ va_D (va_A [(h0, .inr (4, [.null, .int 0]))] sz) [(h0, .inr (4, [.ref q1, .int 0])), (q1, .inl (cI, 100, .inl (fun _ => 0)))]) (va_A [(h0, .inr (4, [.null, .int 0]))] sz)) 1 100 (va_A [(h0, .inr (4, [.null, .int 0]))] sz) := by
  refine Met.ofW (cc := cX6_init) (maxL := 1) (ret := none) (by decide) rfl ?_
  intro p e s m args below meth c s₁ B hml hv
  obtain ⟨rfl, hsz, hP, hK, hD0, hN⟩ := hv
  have hx := B.exec
  have hb := B.bytes
  have hr := B.returns
  have hA : ∀ w ∈ AW, w.before _ s = true := fun w h => atoms_spec (ws := wsA yX6_init cX6_init 1 none) B.pre w (List.mem_cons_of_mem _ h)
  have hown : s.vm.findClass RX6 = some m.cls := findClass_of_methodNamed B.named
  have hlocks := B.notSynchronized
  have hin : meth.name = "<init>" := (name_of_methodNamed B.named B.method).1
  have S : CallFix p m c cX6_init 1 s ([.ref h0] : List Value).toArray AW RX6 := ⟨hx, hb, hml, hown, hA⟩
  subst hsz
  have hD := hD0.self (sz := s.heap.size)
  generalize hAe : va_A [(h0, .inr (4, [.null, .int 0]))] s.heap.size = A at hD ⊢
  have hAq : ∀ q : Nat, s.heap.size ≤ q → A q := fun q h => by rw [← hAe]; exact Or.inr h
  have hS : va_S A s.heap s.heap [] := va_S.rf
  have hP : va_P D vwCl [(h0, .inr (4, [.null, .int 0]))] s.heap := hP
  have hl := lv_entry ([.ref h0]) (n := 1) (Nat.le_of_ble_eq_true rfl)
  rw [lg_entry_eq]
  generalize (lg_sl ([.ref h0]) ++ List.replicate (1 - (lg_sl ([.ref h0])).length) Slot.unset).toArray = ls at hl ⊢
  have hl : lv_has ls 1 [(0, .ref h0)] := hl
  refine lv_aload_n hx hb dX6_init_0 rfl (lv_at hl 0 rfl) ?_
  refine W.objInit hx hb hown (hA _ aM_RX6_3) (hA _ aI_objectInit) (hA _ aC_objectInit) rfl (by rw [hml]; exact hl.1) rfl dX6_init_1 (Nat.le_of_ble_eq_true rfl) (Nat.le_of_ble_eq_true rfl) ?_
  refine W.eq (g2 := F0 m 4 ls []) rfl ?_
  refine lv_aload_n hx hb dX6_init_4 rfl (lv_at hl 0 rfl) ?_
  refine lv_bipush (v := 100) hx hb dX6_init_5 (by decide) ?_
  refine va_newa (D := D) (cl := vwCl) (atype := .int) hx hb (hA _ aA_int) (ty := .int) rfl hK hP hD hS hAq (N' := 100) (a0 := (100, .inl (fun _ => 0))) (fun _ => rfl) (by decide) (by decide) (by decide) (Nat.le_of_ble_eq_true rfl) (Nat.le_of_ble_eq_true rfl) dX6_init_7 (fun q1 cA H hKn hP hD hS => ?_)
  obtain rfl := fx_cI hKn
  clear hKn
  have hP : va_P D vwCl [(h0, .inr (4, [.null, .int 0])), (q1, .inl (cI, 100, .inl (fun _ => 0)))] H := hP
  have hD : va_D A [(h0, .inr (4, [.null, .int 0])), (q1, .inl (cI, 100, .inl (fun _ => 0)))] := hD
  refine va_putF (D := D) (ci := 4) (v := .ref q1) (ty := (.array .int)) (C := RX6) (T := TX6) (N := 2) hx hb hA in_wsX60 tyX6 tyX6_ok nmX6 hown hK hP hD hS 0 rfl rfl 0 (by decide) (hA _ aF_RX6_9) (fun _ h9 => h9) rfl hin rfl (by decide +kernel) rfl rfl (Nat.le_of_ble_eq_true rfl) dX6_init_9 (fun H locs hP hD hS => ?_)
  have hP : va_P D vwCl [(h0, .inr (4, [.ref q1, .int 0])), (q1, .inl (cI, 100, .inl (fun _ => 0)))] H := hP
  have hD : va_D A [(h0, .inr (4, [.ref q1, .int 0])), (q1, .inl (cI, 100, .inl (fun _ => 0)))] := hD
  exact W.vret hx hb hr (fun t ht hW => ⟨⟨(), rfl, trivial, q1, by rw [ht]; exact hP, hD⟩, hS.F ht⟩) hS.2.2 dX6_init_12
def aF11 (x0 x1 x2 x3 x4 x5 x6 x7 x8 x9 x10 : Nat) : Nat → Nat := fun j => match j with | 0 => x0 | 1 => x1 | 2 => x2 | 3 => x3 | 4 => x4 | 5 => x5 | 6 => x6 | 7 => x7 | 8 => x8 | 9 => x9 | _ => x10
def aF18 (x0 x1 x2 x3 x4 x5 x6 x7 x8 x9 x10 x11 x12 x13 x14 x15 x16 x17 : Nat) : Nat → Nat := fun j => match j with | 0 => x0 | 1 => x1 | 2 => x2 | 3 => x3 | 4 => x4 | 5 => x5 | 6 => x6 | 7 => x7 | 8 => x8 | 9 => x9 | 10 => x10 | 11 => x11 | 12 => x12 | 13 => x13 | 14 => x14 | 15 => x15 | 16 => x16 | _ => x17
def fF0 : M2 := fun k j => if k = 0 then (if j = 0 then 2 else if j = 1 then 2 else if j = 2 then 5 else if j = 4 then 10 else 0) else 0
def fFil (i : Nat) : M2 := fun k j => if k = 1 ∧ j < i then -1 else fF0 k j
def fFI : M2 := fFil 256
theorem fFil_0 : fFil 0 = fF0 := by
  funext k j
  simp [fFil]
theorem fFil_s (i : Nat) : upd2 (fFil i) 1 i (-1) = fFil (i + 1) := by
  funext k j
  unfold upd2 upd fFil
  by_cases hk : k = 1
  · subst hk
    by_cases hj : j = i
    · subst hj
      simp
    · simp only [hj, if_true, if_false, true_and]
      have : (j < i + 1) = (j < i) := propext ⟨fun h => by omega, fun h => by omega⟩
      simp only [this]
  · simp [hk]
theorem fx_n256 : ∀ i : Nat, i < 256 → (Int32.ofNat i).toNatClampNeg = i ∧ ¬ (256 : Int32) ≤ Int32.ofNat i ∧ ¬ (Int32.ofNat i) < 0 := by decide +kernel
theorem fm_aA {A : Nat → Prop} {ws : va_W} (h : va_D A ws) : ∀ q ∈ ws.map (fun q => q.1), A q := fun q hq => by
  obtain ⟨e, he, rfl⟩ := List.mem_map.mp hq
  obtain ⟨k, hk⟩ := List.getElem?_of_mem he
  exact h.2 k e hk
set_option maxHeartbeats 4000000 in
theorem fx_fill {p : Program} {l : Launch} {e : Env} {R : Room} {s : State} {m : MethodId} {args : Array Value} {below : List Frame} {meth : Method} {c : Code} {cells slots : Nat} {Q : State → Prop} {D : va_G} {cI : ClassId} {a : Nat → Nat} {H0 : Heap} {A : Nat → Prop} (hx : p.tables.exec = Jvm.exec) (hb : c.code = cX2_init) (hA : ∀ w ∈ AW, w.before args s = true) (hown : s.vm.findClass RX2 = some m.cls) (hK : va_K D vwCl [(cI, .int)] s) (hDA : ∀ φ : M2, va_D A (fbW cI a φ))
    (kk : ∀ (H : Heap) (locs : List Loc) (ls : Array Slot), va_P D vwCl (fbW cI a fFI) H → va_S A H0 H locs → W p l e R s m args below meth c H locs cells slots Q (F0 m 103 ls [])) :
    ∀ (k i : Nat) (H : Heap) (locs : List Loc) (ls : Array Slot), i + k = 256 → va_P D vwCl (fbW cI a (fFil i)) H → va_S A H0 H locs → lv_has ls 2 [(1, .int (Int32.ofNat i)), (0, .ref (a 0))] → W p l e R s m args below meth c H locs cells slots Q (F0 m 81 ls []) := by
  intro k
  induction k with
  | zero =>
    intro i H locs ls hi hP hS hl
    obtain rfl : i = 256 := by omega
    refine lv_iload_n hx hb dX2_init_81 rfl (lv_at hl 0 rfl) ?_
    refine lv_aload_n hx hb dX2_init_82 rfl (lv_at hl 1 rfl) ?_
    refine F_g0_5 hx hb hA hown aF_RX2_27 hK hP dX2_init_83 ?_
    refine F_ln1 hx hb hK hP dX2_init_86 ?_
    refine lv_icmp_ge (tgt := 103) hx hb dX2_init_87 (by decide) (fun hc => ?_) (fun hc => absurd (by decide) hc)
    exact kk _ _ _ hP hS
  | succ k ih =>
    intro i H locs ls hi hP hS hl
    obtain ⟨n1, n2, n3⟩ := fx_n256 i (by omega)
    refine lv_iload_n hx hb dX2_init_81 rfl (lv_at hl 0 rfl) ?_
    refine lv_aload_n hx hb dX2_init_82 rfl (lv_at hl 1 rfl) ?_
    refine F_g0_5 hx hb hA hown aF_RX2_27 hK hP dX2_init_83 ?_
    refine F_ln1 hx hb hK hP dX2_init_86 ?_
    refine lv_icmp_ge (tgt := 103) hx hb dX2_init_87 (by decide) (fun hc => absurd hc n2) (fun hc => ?_)
    refine lv_aload_n hx hb dX2_init_90 rfl (lv_at hl 1 rfl) ?_
    refine F_g0_5 hx hb hA hown aF_RX2_27 hK hP dX2_init_91 ?_
    refine lv_iload_n hx hb dX2_init_94 rfl (lv_at hl 0 rfl) ?_
    refine lv_iconst (v := -1) hx hb dX2_init_95 (by decide) ?_
    refine F_st1 hx hb hK hP (hDA _) hS (fun z => z.elim n3 (fun z => by rw [n1] at z; omega)) dX2_init_96 (fun w8 H locs ew8 hP hS => ?_)
    rw [n1, fFil_s] at ew8
    subst ew8
    refine lv_iinc (v := Int32.ofNat (i + 1)) (lv' := [(1, .int (Int32.ofNat (i + 1))), (0, .ref (a 0))]) hx hb dX2_init_97 hl (k := 0) rfl (by rw [Int32.ofNat_add]; rfl) (by decide) rfl (fun ls hl => ?_)
    refine lv_goto (tgt := 81) hx hb dX2_init_100 (by decide) ?_
    exact ih _ _ _ _ (by omega) hP hS hl
set_option maxHeartbeats 4000000 in
set_option maxRecDepth 100000 in
theorem c_X2_init (l : Launch) (D : va_G) (cI : ClassId) (h0 sz : Nat) : Met l yX2_init (wsA yX2_init cX2_init 2 none) { frames := 2, cells := 10, slots := 615, locals := 32 } (va_Pc [.ref h0] (fun U => U.heap.size = sz ∧ va_P D vwCl [(h0, .inr (0, [.int 0, .int 0, .int 0, .int 0, .int 0, .null, .null, .int 0, .null, .null, .null]))] U.heap ∧ va_K D vwCl [(cI, .int)] U ∧ va_D (fun _ => True) [(h0, .inr (0, [.int 0, .int 0, .int 0, .int 0, .int 0, .null, .null, .int 0, .null, .null, .null]))] ∧ fx_N U)) (va_Qv (fun (_ : Unit) => True) (fun _ t => ∃ a : Nat → Nat, a 0 = h0 ∧ va_P D vwCl (fbW cI a fFI) t.heap ∧ va_D (va_A [(h0, .inr (0, [.int 0, .int 0, .int 0, .int 0, .int 0, .null, .null, .int 0, .null, .null, .null]))] sz) (fbW cI a fFI)) (va_A [(h0, .inr (0, [.int 0, .int 0, .int 0, .int 0, .int 0, .null, .null, .int 0, .null, .null, .null]))] sz)) 10 615 (va_A [(h0, .inr (0, [.int 0, .int 0, .int 0, .int 0, .int 0, .null, .null, .int 0, .null, .null, .null]))] sz) := by
  refine Met.ofW (cc := cX2_init) (maxL := 2) (ret := none) (by decide) rfl ?_
  intro p e s m args below meth c s₁ B hml hv
  obtain ⟨rfl, hsz, hP, hK, hD0, hN⟩ := hv
  have hx := B.exec
  have hb := B.bytes
  have hr := B.returns
  have hA : ∀ w ∈ AW, w.before _ s = true := fun w h => atoms_spec (ws := wsA yX2_init cX2_init 2 none) B.pre w (List.mem_cons_of_mem _ h)
  have hown : s.vm.findClass RX2 = some m.cls := findClass_of_methodNamed B.named
  have hlocks := B.notSynchronized
  have hin : meth.name = "<init>" := (name_of_methodNamed B.named B.method).1
  have S : CallFix p m c cX2_init 2 s ([.ref h0] : List Value).toArray AW RX2 := ⟨hx, hb, hml, hown, hA⟩
  subst hsz
  have hD := hD0.self (sz := s.heap.size)
  generalize hAe : va_A [(h0, .inr (0, [.int 0, .int 0, .int 0, .int 0, .int 0, .null, .null, .int 0, .null, .null, .null]))] s.heap.size = A at hD ⊢
  have hAq : ∀ q : Nat, s.heap.size ≤ q → A q := fun q h => by rw [← hAe]; exact Or.inr h
  have hS : va_S A s.heap s.heap [] := va_S.rf
  have hP : va_P D vwCl [(h0, .inr (0, [.int 0, .int 0, .int 0, .int 0, .int 0, .null, .null, .int 0, .null, .null, .null]))] s.heap := hP
  have hl := lv_entry ([.ref h0]) (n := 2) (Nat.le_of_ble_eq_true rfl)
  rw [lg_entry_eq]
  generalize (lg_sl ([.ref h0]) ++ List.replicate (2 - (lg_sl ([.ref h0])).length) Slot.unset).toArray = ls at hl ⊢
  have hl : lv_has ls 2 [(0, .ref h0)] := hl
  refine lv_aload_n hx hb dX2_init_0 rfl (lv_at hl 0 rfl) ?_
  refine W.objInit hx hb hown (hA _ aM_RX2_3) (hA _ aI_objectInit) (hA _ aC_objectInit) rfl (by rw [hml]; exact hl.1) rfl dX2_init_1 (Nat.le_of_ble_eq_true rfl) (Nat.le_of_ble_eq_true rfl) ?_
  refine W.eq (g2 := F0 m 4 ls []) rfl ?_
  refine lv_aload_n hx hb dX2_init_4 rfl (lv_at hl 0 rfl) ?_
  refine lv_iconst (v := 2) hx hb dX2_init_5 (by decide) ?_
  refine va_put (D := D) (ci := 0) (v := .int 2) (ty := .int) (C := RX2) (T := TX2) (N := 11) hx hb hA in_wsX20 tyX2 tyX2_ok nmX2 hown hK hP hD hS 0 rfl rfl 0 (by decide) (hA _ aF_RX2_9) (fun _ h9 => h9) rfl (by decide +kernel) rfl rfl (Nat.le_of_ble_eq_true rfl) dX2_init_6 (fun H locs hP hD hS => ?_)
  have hP : va_P D vwCl [(h0, .inr (0, [.int 2, .int 0, .int 0, .int 0, .int 0, .null, .null, .int 0, .null, .null, .null]))] H := hP
  have hD : va_D A [(h0, .inr (0, [.int 2, .int 0, .int 0, .int 0, .int 0, .null, .null, .int 0, .null, .null, .null]))] := hD
  refine lv_aload_n hx hb dX2_init_9 rfl (lv_at hl 0 rfl) ?_
  refine lv_iconst (v := 2) hx hb dX2_init_10 (by decide) ?_
  refine va_put (D := D) (ci := 0) (v := .int 2) (ty := .int) (C := RX2) (T := TX2) (N := 11) hx hb hA in_wsX20 tyX2 tyX2_ok nmX2 hown hK hP hD hS 0 rfl rfl 1 (by decide) (hA _ aF_RX2_15) (fun _ h9 => h9) rfl (by decide +kernel) rfl rfl (Nat.le_of_ble_eq_true rfl) dX2_init_11 (fun H locs hP hD hS => ?_)
  have hP : va_P D vwCl [(h0, .inr (0, [.int 2, .int 2, .int 0, .int 0, .int 0, .null, .null, .int 0, .null, .null, .null]))] H := hP
  have hD : va_D A [(h0, .inr (0, [.int 2, .int 2, .int 0, .int 0, .int 0, .null, .null, .int 0, .null, .null, .null]))] := hD
  refine lv_aload_n hx hb dX2_init_14 rfl (lv_at hl 0 rfl) ?_
  refine lv_iconst (v := 5) hx hb dX2_init_15 (by decide) ?_
  refine va_put (D := D) (ci := 0) (v := .int 5) (ty := .int) (C := RX2) (T := TX2) (N := 11) hx hb hA in_wsX20 tyX2 tyX2_ok nmX2 hown hK hP hD hS 0 rfl rfl 2 (by decide) (hA _ aF_RX2_18) (fun _ h9 => h9) rfl (by decide +kernel) rfl rfl (Nat.le_of_ble_eq_true rfl) dX2_init_16 (fun H locs hP hD hS => ?_)
  have hP : va_P D vwCl [(h0, .inr (0, [.int 2, .int 2, .int 5, .int 0, .int 0, .null, .null, .int 0, .null, .null, .null]))] H := hP
  have hD : va_D A [(h0, .inr (0, [.int 2, .int 2, .int 5, .int 0, .int 0, .null, .null, .int 0, .null, .null, .null]))] := hD
  refine lv_aload_n hx hb dX2_init_19 rfl (lv_at hl 0 rfl) ?_
  refine lv_iconst (v := 0) hx hb dX2_init_20 (by decide) ?_
  refine va_put (D := D) (ci := 0) (v := .int 0) (ty := .int) (C := RX2) (T := TX2) (N := 11) hx hb hA in_wsX20 tyX2 tyX2_ok nmX2 hown hK hP hD hS 0 rfl rfl 3 (by decide) (hA _ aF_RX2_21) (fun _ h9 => h9) rfl (by decide +kernel) rfl rfl (Nat.le_of_ble_eq_true rfl) dX2_init_21 (fun H locs hP hD hS => ?_)
  have hP : va_P D vwCl [(h0, .inr (0, [.int 2, .int 2, .int 5, .int 0, .int 0, .null, .null, .int 0, .null, .null, .null]))] H := hP
  have hD : va_D A [(h0, .inr (0, [.int 2, .int 2, .int 5, .int 0, .int 0, .null, .null, .int 0, .null, .null, .null]))] := hD
  refine lv_aload_n hx hb dX2_init_24 rfl (lv_at hl 0 rfl) ?_
  refine lv_bipush (v := 10) hx hb dX2_init_25 (by decide) ?_
  refine va_put (D := D) (ci := 0) (v := .int 10) (ty := .int) (C := RX2) (T := TX2) (N := 11) hx hb hA in_wsX20 tyX2 tyX2_ok nmX2 hown hK hP hD hS 0 rfl rfl 4 (by decide) (hA _ aF_RX2_24) (fun _ h9 => h9) rfl (by decide +kernel) rfl rfl (Nat.le_of_ble_eq_true rfl) dX2_init_27 (fun H locs hP hD hS => ?_)
  have hP : va_P D vwCl [(h0, .inr (0, [.int 2, .int 2, .int 5, .int 0, .int 10, .null, .null, .int 0, .null, .null, .null]))] H := hP
  have hD : va_D A [(h0, .inr (0, [.int 2, .int 2, .int 5, .int 0, .int 10, .null, .null, .int 0, .null, .null, .null]))] := hD
  refine lv_aload_n hx hb dX2_init_30 rfl (lv_at hl 0 rfl) ?_
  refine lv_sipush (v := 256) hx hb dX2_init_31 (by decide) ?_
  refine va_newa (D := D) (cl := vwCl) (atype := .int) hx hb (hA _ aA_int) (ty := .int) rfl hK hP hD hS hAq (N' := 256) (a0 := (256, .inl (fun _ => 0))) (fun _ => rfl) (by decide) (by decide) (by decide) (Nat.le_of_ble_eq_true rfl) (Nat.le_of_ble_eq_true rfl) dX2_init_34 (fun q1 cA H hKn hP hD hS => ?_)
  obtain rfl := fx_cI hKn
  clear hKn
  have hP : va_P D vwCl [(h0, .inr (0, [.int 2, .int 2, .int 5, .int 0, .int 10, .null, .null, .int 0, .null, .null, .null])), (q1, .inl (cI, 256, .inl (fun _ => 0)))] H := hP
  have hD : va_D A [(h0, .inr (0, [.int 2, .int 2, .int 5, .int 0, .int 10, .null, .null, .int 0, .null, .null, .null])), (q1, .inl (cI, 256, .inl (fun _ => 0)))] := hD
  refine va_putF (D := D) (ci := 0) (v := .ref q1) (ty := (.array .int)) (C := RX2) (T := TX2) (N := 11) hx hb hA in_wsX20 tyX2 tyX2_ok nmX2 hown hK hP hD hS 0 rfl rfl 5 (by decide) (hA _ aF_RX2_27) (fun _ h9 => h9) rfl hin rfl (by decide +kernel) rfl rfl (Nat.le_of_ble_eq_true rfl) dX2_init_36 (fun H locs hP hD hS => ?_)
  have hP : va_P D vwCl [(h0, .inr (0, [.int 2, .int 2, .int 5, .int 0, .int 10, .ref q1, .null, .int 0, .null, .null, .null])), (q1, .inl (cI, 256, .inl (fun _ => 0)))] H := hP
  have hD : va_D A [(h0, .inr (0, [.int 2, .int 2, .int 5, .int 0, .int 10, .ref q1, .null, .int 0, .null, .null, .null])), (q1, .inl (cI, 256, .inl (fun _ => 0)))] := hD
  refine lv_aload_n hx hb dX2_init_39 rfl (lv_at hl 0 rfl) ?_
  refine lv_iconst (v := 3) hx hb dX2_init_40 (by decide) ?_
  refine va_newa (D := D) (cl := vwCl) (atype := .int) hx hb (hA _ aA_int) (ty := .int) rfl hK hP hD hS hAq (N' := 3) (a0 := (3, .inl (fun _ => 0))) (fun _ => rfl) (by decide) (by decide) (by decide) (Nat.le_of_ble_eq_true rfl) (Nat.le_of_ble_eq_true rfl) dX2_init_41 (fun q2 cA H hKn hP hD hS => ?_)
  obtain rfl := fx_cI hKn
  clear hKn
  have hP : va_P D vwCl [(h0, .inr (0, [.int 2, .int 2, .int 5, .int 0, .int 10, .ref q1, .null, .int 0, .null, .null, .null])), (q1, .inl (cI, 256, .inl (fun _ => 0))), (q2, .inl (cI, 3, .inl (fun _ => 0)))] H := hP
  have hD : va_D A [(h0, .inr (0, [.int 2, .int 2, .int 5, .int 0, .int 10, .ref q1, .null, .int 0, .null, .null, .null])), (q1, .inl (cI, 256, .inl (fun _ => 0))), (q2, .inl (cI, 3, .inl (fun _ => 0)))] := hD
  refine va_putF (D := D) (ci := 0) (v := .ref q2) (ty := (.array .int)) (C := RX2) (T := TX2) (N := 11) hx hb hA in_wsX20 tyX2 tyX2_ok nmX2 hown hK hP hD hS 0 rfl rfl 6 (by decide) (hA _ aF_RX2_31) (fun _ h9 => h9) rfl hin rfl (by decide +kernel) rfl rfl (Nat.le_of_ble_eq_true rfl) dX2_init_43 (fun H locs hP hD hS => ?_)
  have hP : va_P D vwCl [(h0, .inr (0, [.int 2, .int 2, .int 5, .int 0, .int 10, .ref q1, .ref q2, .int 0, .null, .null, .null])), (q1, .inl (cI, 256, .inl (fun _ => 0))), (q2, .inl (cI, 3, .inl (fun _ => 0)))] H := hP
  have hD : va_D A [(h0, .inr (0, [.int 2, .int 2, .int 5, .int 0, .int 10, .ref q1, .ref q2, .int 0, .null, .null, .null])), (q1, .inl (cI, 256, .inl (fun _ => 0))), (q2, .inl (cI, 3, .inl (fun _ => 0)))] := hD
  refine lv_aload_n hx hb dX2_init_46 rfl (lv_at hl 0 rfl) ?_
  refine va_new (ci := 2) (fs := [.null, .int 0]) (C := RX4) (T := TX4) (N := 2) hx hb hA in_wsX40 tyX4 tyX4_ok hown (hA _ aL_RX2_34) (hA _ aT_RX4) (hA _ aN_RX4) hK hP hD hS hAq rfl (by decide +kernel) (Nat.le_of_ble_eq_true rfl) (Nat.le_of_ble_eq_true rfl) dX2_init_47 (fun q3 H hP hD hS => ?_)
  have hP : va_P D vwCl [(h0, .inr (0, [.int 2, .int 2, .int 5, .int 0, .int 10, .ref q1, .ref q2, .int 0, .null, .null, .null])), (q1, .inl (cI, 256, .inl (fun _ => 0))), (q2, .inl (cI, 3, .inl (fun _ => 0))), (q3, .inr (2, [.null, .int 0]))] H := hP
  have hD : va_D A [(h0, .inr (0, [.int 2, .int 2, .int 5, .int 0, .int 10, .ref q1, .ref q2, .int 0, .null, .null, .null])), (q1, .inl (cI, 256, .inl (fun _ => 0))), (q2, .inl (cI, 3, .inl (fun _ => 0))), (q3, .inr (2, [.null, .int 0]))] := hD
  refine lv_dup hx hb dX2_init_50 rfl ?_
  have hFc := va_free (wc := [(q3, .inr (2, [.null, .int 0]))]) hD hS hAq [3] rfl
  have hPc := hP.sub (ws' := [(q3, .inr (2, [.null, .int 0]))]) [3] rfl
  have hDc := hD.sub (ws' := [(q3, .inr (2, [.null, .int 0]))]) [3] (by decide) rfl
  refine va_callv (va_runIN (As := []) (rest := [.ref q3, .ref h0]) S (c_X4_init l D cI q3 H.size) ⟨va_cnB 0 hA (gI aC_X4_init) rfl rfl rfl hN.1 (hA _ aN_RX4) (by decide +kernel) ⟨Nat.le_of_ble_eq_true rfl, Nat.le_of_ble_eq_true rfl⟩, rfl, hA _ aI_X4_init⟩ ⟨fun a U g mk q => by obtain ⟨q0, q1, qP, qK, qD, qN⟩ := q; exact ⟨q0, q1, qP, va_K.moved (u := U) (U := U.calling g mk a) (Vm.Alike.refl U.vm) qK, qD, trivial⟩, fun U hU hW => ⟨rfl, by rw [hU], by rw [hU]; exact hPc, va_K.moved hW.alike hK, hDc.weaken (fun _ _ _ _ => trivial), trivial⟩⟩ rfl rfl hl.1 rfl (lv_room (Nat.le_of_ble_eq_true rfl)) dX2_init_51 ⟨Nat.le_of_ble_eq_true rfl, Nat.le_of_ble_eq_true rfl⟩) hS (fun q _ h => hFc q h) hFc (fun u t H1 locs ht hvm _ hB hz1 hk1 hS => ?_)
  obtain ⟨q4, hP1, hD1⟩ := hB
  rw [ht] at hP1
  obtain ⟨hP, hD⟩ := va_join (wr := [(h0, .inr (0, [.int 2, .int 2, .int 5, .int 0, .int 10, .ref q1, .ref q2, .int 0, .null, .null, .null])), (q1, .inl (cI, 256, .inl (fun _ => 0))), (q2, .inl (cI, 3, .inl (fun _ => 0)))]) (w1 := [(q3, .inr (2, [.ref q4, .int 0])), (q4, .inl (cI, 120, .inl (fun _ => 0)))]) hP hD [3] [0, 1, 2] rfl rfl (by decide) (by decide) hk1 hFc hP1 hD1
  generalize H1 = H at hP hS ⊢
  have hP : va_P D vwCl [(h0, .inr (0, [.int 2, .int 2, .int 5, .int 0, .int 10, .ref q1, .ref q2, .int 0, .null, .null, .null])), (q1, .inl (cI, 256, .inl (fun _ => 0))), (q2, .inl (cI, 3, .inl (fun _ => 0))), (q3, .inr (2, [.ref q4, .int 0])), (q4, .inl (cI, 120, .inl (fun _ => 0)))] H := hP
  have hD : va_D A [(h0, .inr (0, [.int 2, .int 2, .int 5, .int 0, .int 10, .ref q1, .ref q2, .int 0, .null, .null, .null])), (q1, .inl (cI, 256, .inl (fun _ => 0))), (q2, .inl (cI, 3, .inl (fun _ => 0))), (q3, .inr (2, [.ref q4, .int 0])), (q4, .inl (cI, 120, .inl (fun _ => 0)))] := hD
  clear hP1 hD1 hk1 hFc hPc hDc hz1
  refine va_putF (D := D) (ci := 0) (v := .ref q3) (ty := (.object "CuckooAudit$KeyList")) (C := RX2) (T := TX2) (N := 11) hx hb hA in_wsX20 tyX2 tyX2_ok nmX2 hown hK hP hD hS 0 rfl rfl 8 (by decide) (hA _ aF_RX2_37) (fun _ h9 => h9) rfl hin rfl (by decide +kernel) rfl rfl (Nat.le_of_ble_eq_true rfl) dX2_init_54 (fun H locs hP hD hS => ?_)
  have hP : va_P D vwCl [(h0, .inr (0, [.int 2, .int 2, .int 5, .int 0, .int 10, .ref q1, .ref q2, .int 0, .ref q3, .null, .null])), (q1, .inl (cI, 256, .inl (fun _ => 0))), (q2, .inl (cI, 3, .inl (fun _ => 0))), (q3, .inr (2, [.ref q4, .int 0])), (q4, .inl (cI, 120, .inl (fun _ => 0)))] H := hP
  have hD : va_D A [(h0, .inr (0, [.int 2, .int 2, .int 5, .int 0, .int 10, .ref q1, .ref q2, .int 0, .ref q3, .null, .null])), (q1, .inl (cI, 256, .inl (fun _ => 0))), (q2, .inl (cI, 3, .inl (fun _ => 0))), (q3, .inr (2, [.ref q4, .int 0])), (q4, .inl (cI, 120, .inl (fun _ => 0)))] := hD
  refine lv_aload_n hx hb dX2_init_57 rfl (lv_at hl 0 rfl) ?_
  refine va_new (ci := 5) (fs := [.null, .null, .int 0]) (C := RX7) (T := TX7) (N := 3) hx hb hA in_wsX70 tyX7 tyX7_ok hown (hA _ aL_RX2_41) (hA _ aT_RX7) (hA _ aN_RX7) hK hP hD hS hAq rfl (by decide +kernel) (Nat.le_of_ble_eq_true rfl) (Nat.le_of_ble_eq_true rfl) dX2_init_58 (fun q5 H hP hD hS => ?_)
  have hP : va_P D vwCl [(h0, .inr (0, [.int 2, .int 2, .int 5, .int 0, .int 10, .ref q1, .ref q2, .int 0, .ref q3, .null, .null])), (q1, .inl (cI, 256, .inl (fun _ => 0))), (q2, .inl (cI, 3, .inl (fun _ => 0))), (q3, .inr (2, [.ref q4, .int 0])), (q4, .inl (cI, 120, .inl (fun _ => 0))), (q5, .inr (5, [.null, .null, .int 0]))] H := hP
  have hD : va_D A [(h0, .inr (0, [.int 2, .int 2, .int 5, .int 0, .int 10, .ref q1, .ref q2, .int 0, .ref q3, .null, .null])), (q1, .inl (cI, 256, .inl (fun _ => 0))), (q2, .inl (cI, 3, .inl (fun _ => 0))), (q3, .inr (2, [.ref q4, .int 0])), (q4, .inl (cI, 120, .inl (fun _ => 0))), (q5, .inr (5, [.null, .null, .int 0]))] := hD
  refine lv_dup hx hb dX2_init_61 rfl ?_
  have hFc := va_free (wc := [(q5, .inr (5, [.null, .null, .int 0]))]) hD hS hAq [5] rfl
  have hPc := hP.sub (ws' := [(q5, .inr (5, [.null, .null, .int 0]))]) [5] rfl
  have hDc := hD.sub (ws' := [(q5, .inr (5, [.null, .null, .int 0]))]) [5] (by decide) rfl
  refine va_callv (va_runIN (As := []) (rest := [.ref q5, .ref h0]) S (c_X7_init l D cI q5 H.size) ⟨va_cnB 0 hA (gI aC_X7_init) rfl rfl rfl hN.2.1 (hA _ aN_RX7) (by decide +kernel) ⟨Nat.le_of_ble_eq_true rfl, Nat.le_of_ble_eq_true rfl⟩, rfl, hA _ aI_X7_init⟩ ⟨fun a U g mk q => by obtain ⟨q0, q1, qP, qK, qD, qN⟩ := q; exact ⟨q0, q1, qP, va_K.moved (u := U) (U := U.calling g mk a) (Vm.Alike.refl U.vm) qK, qD, trivial⟩, fun U hU hW => ⟨rfl, by rw [hU], by rw [hU]; exact hPc, va_K.moved hW.alike hK, hDc.weaken (fun _ _ _ _ => trivial), trivial⟩⟩ rfl rfl hl.1 rfl (lv_room (Nat.le_of_ble_eq_true rfl)) dX2_init_62 ⟨Nat.le_of_ble_eq_true rfl, Nat.le_of_ble_eq_true rfl⟩) hS (fun q _ h => hFc q h) hFc (fun u t H1 locs ht hvm _ hB hz1 hk1 hS => ?_)
  obtain ⟨q6, q7, hP1, hD1⟩ := hB
  rw [ht] at hP1
  obtain ⟨hP, hD⟩ := va_join (wr := [(h0, .inr (0, [.int 2, .int 2, .int 5, .int 0, .int 10, .ref q1, .ref q2, .int 0, .ref q3, .null, .null])), (q1, .inl (cI, 256, .inl (fun _ => 0))), (q2, .inl (cI, 3, .inl (fun _ => 0))), (q3, .inr (2, [.ref q4, .int 0])), (q4, .inl (cI, 120, .inl (fun _ => 0)))]) (w1 := [(q5, .inr (5, [.ref q6, .ref q7, .int 0])), (q6, .inl (cI, 50, .inl (fun _ => 0))), (q7, .inl (cI, 50, .inl (fun _ => 0)))]) hP hD [5] [0, 1, 2, 3, 4] rfl rfl (by decide) (by decide) hk1 hFc hP1 hD1
  generalize H1 = H at hP hS ⊢
  have hP : va_P D vwCl [(h0, .inr (0, [.int 2, .int 2, .int 5, .int 0, .int 10, .ref q1, .ref q2, .int 0, .ref q3, .null, .null])), (q1, .inl (cI, 256, .inl (fun _ => 0))), (q2, .inl (cI, 3, .inl (fun _ => 0))), (q3, .inr (2, [.ref q4, .int 0])), (q4, .inl (cI, 120, .inl (fun _ => 0))), (q5, .inr (5, [.ref q6, .ref q7, .int 0])), (q6, .inl (cI, 50, .inl (fun _ => 0))), (q7, .inl (cI, 50, .inl (fun _ => 0)))] H := hP
  have hD : va_D A [(h0, .inr (0, [.int 2, .int 2, .int 5, .int 0, .int 10, .ref q1, .ref q2, .int 0, .ref q3, .null, .null])), (q1, .inl (cI, 256, .inl (fun _ => 0))), (q2, .inl (cI, 3, .inl (fun _ => 0))), (q3, .inr (2, [.ref q4, .int 0])), (q4, .inl (cI, 120, .inl (fun _ => 0))), (q5, .inr (5, [.ref q6, .ref q7, .int 0])), (q6, .inl (cI, 50, .inl (fun _ => 0))), (q7, .inl (cI, 50, .inl (fun _ => 0)))] := hD
  clear hP1 hD1 hk1 hFc hPc hDc hz1
  refine va_putF (D := D) (ci := 0) (v := .ref q5) (ty := (.object "CuckooAudit$Walk")) (C := RX2) (T := TX2) (N := 11) hx hb hA in_wsX20 tyX2 tyX2_ok nmX2 hown hK hP hD hS 0 rfl rfl 9 (by decide) (hA _ aF_RX2_44) (fun _ h9 => h9) rfl hin rfl (by decide +kernel) rfl rfl (Nat.le_of_ble_eq_true rfl) dX2_init_65 (fun H locs hP hD hS => ?_)
  have hP : va_P D vwCl [(h0, .inr (0, [.int 2, .int 2, .int 5, .int 0, .int 10, .ref q1, .ref q2, .int 0, .ref q3, .ref q5, .null])), (q1, .inl (cI, 256, .inl (fun _ => 0))), (q2, .inl (cI, 3, .inl (fun _ => 0))), (q3, .inr (2, [.ref q4, .int 0])), (q4, .inl (cI, 120, .inl (fun _ => 0))), (q5, .inr (5, [.ref q6, .ref q7, .int 0])), (q6, .inl (cI, 50, .inl (fun _ => 0))), (q7, .inl (cI, 50, .inl (fun _ => 0)))] H := hP
  have hD : va_D A [(h0, .inr (0, [.int 2, .int 2, .int 5, .int 0, .int 10, .ref q1, .ref q2, .int 0, .ref q3, .ref q5, .null])), (q1, .inl (cI, 256, .inl (fun _ => 0))), (q2, .inl (cI, 3, .inl (fun _ => 0))), (q3, .inr (2, [.ref q4, .int 0])), (q4, .inl (cI, 120, .inl (fun _ => 0))), (q5, .inr (5, [.ref q6, .ref q7, .int 0])), (q6, .inl (cI, 50, .inl (fun _ => 0))), (q7, .inl (cI, 50, .inl (fun _ => 0)))] := hD
  refine lv_aload_n hx hb dX2_init_68 rfl (lv_at hl 0 rfl) ?_
  refine va_new (ci := 3) (fs := [.null, .null, .int 0]) (C := RX5) (T := TX5) (N := 3) hx hb hA in_wsX50 tyX5 tyX5_ok hown (hA _ aL_RX2_48) (hA _ aT_RX5) (hA _ aN_RX5) hK hP hD hS hAq rfl (by decide +kernel) (Nat.le_of_ble_eq_true rfl) (Nat.le_of_ble_eq_true rfl) dX2_init_69 (fun q8 H hP hD hS => ?_)
  have hP : va_P D vwCl [(h0, .inr (0, [.int 2, .int 2, .int 5, .int 0, .int 10, .ref q1, .ref q2, .int 0, .ref q3, .ref q5, .null])), (q1, .inl (cI, 256, .inl (fun _ => 0))), (q2, .inl (cI, 3, .inl (fun _ => 0))), (q3, .inr (2, [.ref q4, .int 0])), (q4, .inl (cI, 120, .inl (fun _ => 0))), (q5, .inr (5, [.ref q6, .ref q7, .int 0])), (q6, .inl (cI, 50, .inl (fun _ => 0))), (q7, .inl (cI, 50, .inl (fun _ => 0))), (q8, .inr (3, [.null, .null, .int 0]))] H := hP
  have hD : va_D A [(h0, .inr (0, [.int 2, .int 2, .int 5, .int 0, .int 10, .ref q1, .ref q2, .int 0, .ref q3, .ref q5, .null])), (q1, .inl (cI, 256, .inl (fun _ => 0))), (q2, .inl (cI, 3, .inl (fun _ => 0))), (q3, .inr (2, [.ref q4, .int 0])), (q4, .inl (cI, 120, .inl (fun _ => 0))), (q5, .inr (5, [.ref q6, .ref q7, .int 0])), (q6, .inl (cI, 50, .inl (fun _ => 0))), (q7, .inl (cI, 50, .inl (fun _ => 0))), (q8, .inr (3, [.null, .null, .int 0]))] := hD
  refine lv_dup hx hb dX2_init_72 rfl ?_
  have hFc := va_free (wc := [(q8, .inr (3, [.null, .null, .int 0]))]) hD hS hAq [8] rfl
  have hPc := hP.sub (ws' := [(q8, .inr (3, [.null, .null, .int 0]))]) [8] rfl
  have hDc := hD.sub (ws' := [(q8, .inr (3, [.null, .null, .int 0]))]) [8] (by decide) rfl
  refine va_callv (va_runIN (As := []) (rest := [.ref q8, .ref h0]) S (c_X5_init l D cI q8 H.size) ⟨va_cnB 0 hA (gI aC_X5_init) rfl rfl rfl hN.2.2 (hA _ aN_RX5) (by decide +kernel) ⟨Nat.le_of_ble_eq_true rfl, Nat.le_of_ble_eq_true rfl⟩, rfl, hA _ aI_X5_init⟩ ⟨fun a U g mk q => by obtain ⟨q0, q1, qP, qK, qD, qN⟩ := q; exact ⟨q0, q1, qP, va_K.moved (u := U) (U := U.calling g mk a) (Vm.Alike.refl U.vm) qK, qD, trivial⟩, fun U hU hW => ⟨rfl, by rw [hU], by rw [hU]; exact hPc, va_K.moved hW.alike hK, hDc.weaken (fun _ _ _ _ => trivial), trivial⟩⟩ rfl rfl hl.1 rfl (lv_room (Nat.le_of_ble_eq_true rfl)) dX2_init_73 ⟨Nat.le_of_ble_eq_true rfl, Nat.le_of_ble_eq_true rfl⟩) hS (fun q _ h => hFc q h) hFc (fun u t H1 locs ht hvm _ hB hz1 hk1 hS => ?_)
  obtain ⟨q9, q10, hP1, hD1⟩ := hB
  rw [ht] at hP1
  obtain ⟨hP, hD⟩ := va_join (wr := [(h0, .inr (0, [.int 2, .int 2, .int 5, .int 0, .int 10, .ref q1, .ref q2, .int 0, .ref q3, .ref q5, .null])), (q1, .inl (cI, 256, .inl (fun _ => 0))), (q2, .inl (cI, 3, .inl (fun _ => 0))), (q3, .inr (2, [.ref q4, .int 0])), (q4, .inl (cI, 120, .inl (fun _ => 0))), (q5, .inr (5, [.ref q6, .ref q7, .int 0])), (q6, .inl (cI, 50, .inl (fun _ => 0))), (q7, .inl (cI, 50, .inl (fun _ => 0)))]) (w1 := [(q8, .inr (3, [.ref q9, .ref q10, .int 0])), (q9, .inl (cI, 64, .inl (fun _ => 0))), (q10, .inl (cI, 64, .inl (fun _ => 0)))]) hP hD [8] [0, 1, 2, 3, 4, 5, 6, 7] rfl rfl (by decide) (by decide) hk1 hFc hP1 hD1
  generalize H1 = H at hP hS ⊢
  have hP : va_P D vwCl [(h0, .inr (0, [.int 2, .int 2, .int 5, .int 0, .int 10, .ref q1, .ref q2, .int 0, .ref q3, .ref q5, .null])), (q1, .inl (cI, 256, .inl (fun _ => 0))), (q2, .inl (cI, 3, .inl (fun _ => 0))), (q3, .inr (2, [.ref q4, .int 0])), (q4, .inl (cI, 120, .inl (fun _ => 0))), (q5, .inr (5, [.ref q6, .ref q7, .int 0])), (q6, .inl (cI, 50, .inl (fun _ => 0))), (q7, .inl (cI, 50, .inl (fun _ => 0))), (q8, .inr (3, [.ref q9, .ref q10, .int 0])), (q9, .inl (cI, 64, .inl (fun _ => 0))), (q10, .inl (cI, 64, .inl (fun _ => 0)))] H := hP
  have hD : va_D A [(h0, .inr (0, [.int 2, .int 2, .int 5, .int 0, .int 10, .ref q1, .ref q2, .int 0, .ref q3, .ref q5, .null])), (q1, .inl (cI, 256, .inl (fun _ => 0))), (q2, .inl (cI, 3, .inl (fun _ => 0))), (q3, .inr (2, [.ref q4, .int 0])), (q4, .inl (cI, 120, .inl (fun _ => 0))), (q5, .inr (5, [.ref q6, .ref q7, .int 0])), (q6, .inl (cI, 50, .inl (fun _ => 0))), (q7, .inl (cI, 50, .inl (fun _ => 0))), (q8, .inr (3, [.ref q9, .ref q10, .int 0])), (q9, .inl (cI, 64, .inl (fun _ => 0))), (q10, .inl (cI, 64, .inl (fun _ => 0)))] := hD
  clear hP1 hD1 hk1 hFc hPc hDc hz1
  refine va_putF (D := D) (ci := 0) (v := .ref q8) (ty := (.object "CuckooAudit$Reach")) (C := RX2) (T := TX2) (N := 11) hx hb hA in_wsX20 tyX2 tyX2_ok nmX2 hown hK hP hD hS 0 rfl rfl 10 (by decide) (hA _ aF_RX2_51) (fun _ h9 => h9) rfl hin rfl (by decide +kernel) rfl rfl (Nat.le_of_ble_eq_true rfl) dX2_init_76 (fun H locs hP hD hS => ?_)
  have hP : va_P D vwCl [(h0, .inr (0, [.int 2, .int 2, .int 5, .int 0, .int 10, .ref q1, .ref q2, .int 0, .ref q3, .ref q5, .ref q8])), (q1, .inl (cI, 256, .inl (fun _ => 0))), (q2, .inl (cI, 3, .inl (fun _ => 0))), (q3, .inr (2, [.ref q4, .int 0])), (q4, .inl (cI, 120, .inl (fun _ => 0))), (q5, .inr (5, [.ref q6, .ref q7, .int 0])), (q6, .inl (cI, 50, .inl (fun _ => 0))), (q7, .inl (cI, 50, .inl (fun _ => 0))), (q8, .inr (3, [.ref q9, .ref q10, .int 0])), (q9, .inl (cI, 64, .inl (fun _ => 0))), (q10, .inl (cI, 64, .inl (fun _ => 0)))] H := hP
  have hD : va_D A [(h0, .inr (0, [.int 2, .int 2, .int 5, .int 0, .int 10, .ref q1, .ref q2, .int 0, .ref q3, .ref q5, .ref q8])), (q1, .inl (cI, 256, .inl (fun _ => 0))), (q2, .inl (cI, 3, .inl (fun _ => 0))), (q3, .inr (2, [.ref q4, .int 0])), (q4, .inl (cI, 120, .inl (fun _ => 0))), (q5, .inr (5, [.ref q6, .ref q7, .int 0])), (q6, .inl (cI, 50, .inl (fun _ => 0))), (q7, .inl (cI, 50, .inl (fun _ => 0))), (q8, .inr (3, [.ref q9, .ref q10, .int 0])), (q9, .inl (cI, 64, .inl (fun _ => 0))), (q10, .inl (cI, 64, .inl (fun _ => 0)))] := hD
  obtain ⟨a, ha⟩ : ∃ a : Nat → Nat, a = aF11 h0 q1 q2 q3 q4 q5 q6 q7 q8 q9 q10 := ⟨_, rfl⟩
  have ea : a 0 = h0 := by rw [ha]; rfl
  have hP : va_P D vwCl (fbW cI a (fFil 0)) H := by rw [fFil_0, ha]; exact hP
  have hDA : ∀ φ : M2, va_D A (fbW cI a φ) := fun φ => fm_D (ws := fbW cI a fF0) rfl (by rw [ha]; exact hD)
  refine lv_iconst (v := 0) hx hb dX2_init_79 (by decide) ?_
  refine lv_istore_n (lv' := [(1, .int 0), (0, .ref h0)]) hx hb dX2_init_80 rfl hl (by decide) rfl (fun ls hl => ?_)
  refine fx_fill hx hb hA hown hK hDA (fun H locs ls hP hS => ?_) 256 0 H locs ls rfl hP hS (by rw [ea]; exact hl)
  exact W.vret hx hb hr (fun t ht hW => ⟨⟨(), rfl, trivial, a, ea, by rw [ht]; exact hP, hDA _⟩, hS.F ht⟩) hS.2.2 dX2_init_103
def fM0 : M2 := fun _ _ => 0
def fM1 : M2 := upd2 (upd2 (upd2 (upd2 fM0 1 0 2) 1 1 2) 1 2 5) 1 4 10
set_option maxHeartbeats 4000000 in
set_option maxRecDepth 100000 in
theorem c_X9_init (l : Launch) (D : va_G) (cI : ClassId) (h0 sz N : Nat) (φr : M2) (hF : G_X9_empties N fM1 = some φr) : Met l yX9_init (wsA yX9_init cX9_init 1 none) { frames := 2, cells := 17, slots := 10209, locals := 21 } (va_Pc [.ref h0] (fun U => U.heap.size = sz ∧ va_P D vwCl [(h0, .inr (7, [.null, .null, .int 0, .null, .int 0, .int 0, .int 0, .int 0, .int 0, .int 0, .null, .null, .int 0, .null, .null, .int 0, .null, .null, .null, .null, .null, .null, .null, .null, .int 0, .int 0, .null, .null, .long 0]))] U.heap ∧ va_K D vwCl [(cI, .int)] U ∧ va_D (fun _ => True) [(h0, .inr (7, [.null, .null, .int 0, .null, .int 0, .int 0, .int 0, .int 0, .int 0, .int 0, .null, .null, .int 0, .null, .null, .int 0, .null, .null, .null, .null, .null, .null, .null, .null, .int 0, .int 0, .null, .null, .long 0]))] ∧ fxT U)) (va_Qv (fun (_ : Unit) => True) (fun _ t => ∃ a : Nat → Nat, a 0 = h0 ∧ va_P D vwCl (mbW cI a φr 0) t.heap ∧ va_D (va_A [(h0, .inr (7, [.null, .null, .int 0, .null, .int 0, .int 0, .int 0, .int 0, .int 0, .int 0, .null, .null, .int 0, .null, .null, .int 0, .null, .null, .null, .null, .null, .null, .null, .null, .int 0, .int 0, .null, .null, .long 0]))] sz) (mbW cI a φr 0)) (va_A [(h0, .inr (7, [.null, .null, .int 0, .null, .int 0, .int 0, .int 0, .int 0, .int 0, .int 0, .null, .null, .int 0, .null, .null, .int 0, .null, .null, .null, .null, .null, .null, .null, .null, .int 0, .int 0, .null, .null, .long 0]))] sz)) 17 10209 (va_A [(h0, .inr (7, [.null, .null, .int 0, .null, .int 0, .int 0, .int 0, .int 0, .int 0, .int 0, .null, .null, .int 0, .null, .null, .int 0, .null, .null, .null, .null, .null, .null, .null, .null, .int 0, .int 0, .null, .null, .long 0]))] sz) := by
  refine Met.ofW (cc := cX9_init) (maxL := 1) (ret := none) (by decide) rfl ?_
  intro p e s m args below meth c s₁ B hml hv
  obtain ⟨rfl, hsz, hP, hK, hD0, hN⟩ := hv
  have hx := B.exec
  have hb := B.bytes
  have hr := B.returns
  have hA : ∀ w ∈ AW, w.before _ s = true := fun w h => atoms_spec (ws := wsA yX9_init cX9_init 1 none) B.pre w (List.mem_cons_of_mem _ h)
  have hown : s.vm.findClass RX9 = some m.cls := findClass_of_methodNamed B.named
  have hlocks := B.notSynchronized
  have hin : meth.name = "<init>" := (name_of_methodNamed B.named B.method).1
  have S : CallFix p m c cX9_init 1 s ([.ref h0] : List Value).toArray AW RX9 := ⟨hx, hb, hml, hown, hA⟩
  subst hsz
  have hD := hD0.self (sz := s.heap.size)
  generalize hAe : va_A [(h0, .inr (7, [.null, .null, .int 0, .null, .int 0, .int 0, .int 0, .int 0, .int 0, .int 0, .null, .null, .int 0, .null, .null, .int 0, .null, .null, .null, .null, .null, .null, .null, .null, .int 0, .int 0, .null, .null, .long 0]))] s.heap.size = A at hD ⊢
  have hAq : ∀ q : Nat, s.heap.size ≤ q → A q := fun q h => by rw [← hAe]; exact Or.inr h
  have hS : va_S A s.heap s.heap [] := va_S.rf
  have hP : va_P D vwCl [(h0, .inr (7, [.null, .null, .int 0, .null, .int 0, .int 0, .int 0, .int 0, .int 0, .int 0, .null, .null, .int 0, .null, .null, .int 0, .null, .null, .null, .null, .null, .null, .null, .null, .int 0, .int 0, .null, .null, .long 0]))] s.heap := hP
  have hl := lv_entry ([.ref h0]) (n := 1) (Nat.le_of_ble_eq_true rfl)
  rw [lg_entry_eq]
  generalize (lg_sl ([.ref h0]) ++ List.replicate (1 - (lg_sl ([.ref h0])).length) Slot.unset).toArray = ls at hl ⊢
  have hl : lv_has ls 1 [(0, .ref h0)] := hl
  refine lv_aload_n hx hb dX9_init_0 rfl (lv_at hl 0 rfl) ?_
  refine W.objInit hx hb hown (hA _ aM_RX9_1) (hA _ aI_objectInit) (hA _ aC_objectInit) rfl (by rw [hml]; exact hl.1) rfl dX9_init_1 (Nat.le_of_ble_eq_true rfl) (Nat.le_of_ble_eq_true rfl) ?_
  refine W.eq (g2 := F0 m 4 ls []) rfl ?_
  refine lv_aload_n hx hb dX9_init_4 rfl (lv_at hl 0 rfl) ?_
  refine lv_sipush (v := 1163) hx hb dX9_init_5 (by decide) ?_
  refine va_newa (D := D) (cl := vwCl) (atype := .int) hx hb (hA _ aA_int) (ty := .int) rfl hK hP hD hS hAq (N' := 1163) (a0 := (1163, .inl (fun _ => 0))) (fun _ => rfl) (by decide) (by decide) (by decide) (Nat.le_of_ble_eq_true rfl) (Nat.le_of_ble_eq_true rfl) dX9_init_8 (fun q1 cA H hKn hP hD hS => ?_)
  obtain rfl := fx_cI hKn
  clear hKn
  have hP : va_P D vwCl [(h0, .inr (7, [.null, .null, .int 0, .null, .int 0, .int 0, .int 0, .int 0, .int 0, .int 0, .null, .null, .int 0, .null, .null, .int 0, .null, .null, .null, .null, .null, .null, .null, .null, .int 0, .int 0, .null, .null, .long 0])), (q1, .inl (cI, 1163, .inl (fun _ => 0)))] H := hP
  have hD : va_D A [(h0, .inr (7, [.null, .null, .int 0, .null, .int 0, .int 0, .int 0, .int 0, .int 0, .int 0, .null, .null, .int 0, .null, .null, .int 0, .null, .null, .null, .null, .null, .null, .null, .null, .int 0, .int 0, .null, .null, .long 0])), (q1, .inl (cI, 1163, .inl (fun _ => 0)))] := hD
  refine va_putF (D := D) (ci := 7) (v := .ref q1) (ty := (.array .int)) (C := RX9) (T := TX9) (N := 29) hx hb hA in_wsX90 tyX9 tyX9_ok nmX9 hown hK hP hD hS 0 rfl rfl 0 (by decide) (hA _ aF_RX9_7) (fun _ h9 => h9) rfl hin rfl (by decide +kernel) rfl rfl (Nat.le_of_ble_eq_true rfl) dX9_init_10 (fun H locs hP hD hS => ?_)
  have hP : va_P D vwCl [(h0, .inr (7, [.ref q1, .null, .int 0, .null, .int 0, .int 0, .int 0, .int 0, .int 0, .int 0, .null, .null, .int 0, .null, .null, .int 0, .null, .null, .null, .null, .null, .null, .null, .null, .int 0, .int 0, .null, .null, .long 0])), (q1, .inl (cI, 1163, .inl (fun _ => 0)))] H := hP
  have hD : va_D A [(h0, .inr (7, [.ref q1, .null, .int 0, .null, .int 0, .int 0, .int 0, .int 0, .int 0, .int 0, .null, .null, .int 0, .null, .null, .int 0, .null, .null, .null, .null, .null, .null, .null, .null, .int 0, .int 0, .null, .null, .long 0])), (q1, .inl (cI, 1163, .inl (fun _ => 0)))] := hD
  refine lv_aload_n hx hb dX9_init_13 rfl (lv_at hl 0 rfl) ?_
  refine lv_sipush (v := 6978) hx hb dX9_init_14 (by decide) ?_
  refine va_newa (D := D) (cl := vwCl) (atype := .int) hx hb (hA _ aA_int) (ty := .int) rfl hK hP hD hS hAq (N' := 6978) (a0 := (6978, .inl (fun _ => 0))) (fun _ => rfl) (by decide) (by decide) (by decide) (Nat.le_of_ble_eq_true rfl) (Nat.le_of_ble_eq_true rfl) dX9_init_17 (fun q2 cA H hKn hP hD hS => ?_)
  obtain rfl := fx_cI hKn
  clear hKn
  have hP : va_P D vwCl [(h0, .inr (7, [.ref q1, .null, .int 0, .null, .int 0, .int 0, .int 0, .int 0, .int 0, .int 0, .null, .null, .int 0, .null, .null, .int 0, .null, .null, .null, .null, .null, .null, .null, .null, .int 0, .int 0, .null, .null, .long 0])), (q1, .inl (cI, 1163, .inl (fun _ => 0))), (q2, .inl (cI, 6978, .inl (fun _ => 0)))] H := hP
  have hD : va_D A [(h0, .inr (7, [.ref q1, .null, .int 0, .null, .int 0, .int 0, .int 0, .int 0, .int 0, .int 0, .null, .null, .int 0, .null, .null, .int 0, .null, .null, .null, .null, .null, .null, .null, .null, .int 0, .int 0, .null, .null, .long 0])), (q1, .inl (cI, 1163, .inl (fun _ => 0))), (q2, .inl (cI, 6978, .inl (fun _ => 0)))] := hD
  refine va_putF (D := D) (ci := 7) (v := .ref q2) (ty := (.array .int)) (C := RX9) (T := TX9) (N := 29) hx hb hA in_wsX90 tyX9 tyX9_ok nmX9 hown hK hP hD hS 0 rfl rfl 1 (by decide) (hA _ aF_RX9_13) (fun _ h9 => h9) rfl hin rfl (by decide +kernel) rfl rfl (Nat.le_of_ble_eq_true rfl) dX9_init_19 (fun H locs hP hD hS => ?_)
  have hP : va_P D vwCl [(h0, .inr (7, [.ref q1, .ref q2, .int 0, .null, .int 0, .int 0, .int 0, .int 0, .int 0, .int 0, .null, .null, .int 0, .null, .null, .int 0, .null, .null, .null, .null, .null, .null, .null, .null, .int 0, .int 0, .null, .null, .long 0])), (q1, .inl (cI, 1163, .inl (fun _ => 0))), (q2, .inl (cI, 6978, .inl (fun _ => 0)))] H := hP
  have hD : va_D A [(h0, .inr (7, [.ref q1, .ref q2, .int 0, .null, .int 0, .int 0, .int 0, .int 0, .int 0, .int 0, .null, .null, .int 0, .null, .null, .int 0, .null, .null, .null, .null, .null, .null, .null, .null, .int 0, .int 0, .null, .null, .long 0])), (q1, .inl (cI, 1163, .inl (fun _ => 0))), (q2, .inl (cI, 6978, .inl (fun _ => 0)))] := hD
  refine lv_aload_n hx hb dX9_init_22 rfl (lv_at hl 0 rfl) ?_
  refine lv_bipush (v := 100) hx hb dX9_init_23 (by decide) ?_
  refine va_newa (D := D) (cl := vwCl) (atype := .int) hx hb (hA _ aA_int) (ty := .int) rfl hK hP hD hS hAq (N' := 100) (a0 := (100, .inl (fun _ => 0))) (fun _ => rfl) (by decide) (by decide) (by decide) (Nat.le_of_ble_eq_true rfl) (Nat.le_of_ble_eq_true rfl) dX9_init_25 (fun q3 cA H hKn hP hD hS => ?_)
  obtain rfl := fx_cI hKn
  clear hKn
  have hP : va_P D vwCl [(h0, .inr (7, [.ref q1, .ref q2, .int 0, .null, .int 0, .int 0, .int 0, .int 0, .int 0, .int 0, .null, .null, .int 0, .null, .null, .int 0, .null, .null, .null, .null, .null, .null, .null, .null, .int 0, .int 0, .null, .null, .long 0])), (q1, .inl (cI, 1163, .inl (fun _ => 0))), (q2, .inl (cI, 6978, .inl (fun _ => 0))), (q3, .inl (cI, 100, .inl (fun _ => 0)))] H := hP
  have hD : va_D A [(h0, .inr (7, [.ref q1, .ref q2, .int 0, .null, .int 0, .int 0, .int 0, .int 0, .int 0, .int 0, .null, .null, .int 0, .null, .null, .int 0, .null, .null, .null, .null, .null, .null, .null, .null, .int 0, .int 0, .null, .null, .long 0])), (q1, .inl (cI, 1163, .inl (fun _ => 0))), (q2, .inl (cI, 6978, .inl (fun _ => 0))), (q3, .inl (cI, 100, .inl (fun _ => 0)))] := hD
  refine va_putF (D := D) (ci := 7) (v := .ref q3) (ty := (.array .int)) (C := RX9) (T := TX9) (N := 29) hx hb hA in_wsX90 tyX9 tyX9_ok nmX9 hown hK hP hD hS 0 rfl rfl 3 (by decide) (hA _ aF_RX9_16) (fun _ h9 => h9) rfl hin rfl (by decide +kernel) rfl rfl (Nat.le_of_ble_eq_true rfl) dX9_init_27 (fun H locs hP hD hS => ?_)
  have hP : va_P D vwCl [(h0, .inr (7, [.ref q1, .ref q2, .int 0, .ref q3, .int 0, .int 0, .int 0, .int 0, .int 0, .int 0, .null, .null, .int 0, .null, .null, .int 0, .null, .null, .null, .null, .null, .null, .null, .null, .int 0, .int 0, .null, .null, .long 0])), (q1, .inl (cI, 1163, .inl (fun _ => 0))), (q2, .inl (cI, 6978, .inl (fun _ => 0))), (q3, .inl (cI, 100, .inl (fun _ => 0)))] H := hP
  have hD : va_D A [(h0, .inr (7, [.ref q1, .ref q2, .int 0, .ref q3, .int 0, .int 0, .int 0, .int 0, .int 0, .int 0, .null, .null, .int 0, .null, .null, .int 0, .null, .null, .null, .null, .null, .null, .null, .null, .int 0, .int 0, .null, .null, .long 0])), (q1, .inl (cI, 1163, .inl (fun _ => 0))), (q2, .inl (cI, 6978, .inl (fun _ => 0))), (q3, .inl (cI, 100, .inl (fun _ => 0)))] := hD
  refine lv_aload_n hx hb dX9_init_30 rfl (lv_at hl 0 rfl) ?_
  refine lv_bipush (v := 50) hx hb dX9_init_31 (by decide) ?_
  refine va_newa (D := D) (cl := vwCl) (atype := .int) hx hb (hA _ aA_int) (ty := .int) rfl hK hP hD hS hAq (N' := 50) (a0 := (50, .inl (fun _ => 0))) (fun _ => rfl) (by decide) (by decide) (by decide) (Nat.le_of_ble_eq_true rfl) (Nat.le_of_ble_eq_true rfl) dX9_init_33 (fun q4 cA H hKn hP hD hS => ?_)
  obtain rfl := fx_cI hKn
  clear hKn
  have hP : va_P D vwCl [(h0, .inr (7, [.ref q1, .ref q2, .int 0, .ref q3, .int 0, .int 0, .int 0, .int 0, .int 0, .int 0, .null, .null, .int 0, .null, .null, .int 0, .null, .null, .null, .null, .null, .null, .null, .null, .int 0, .int 0, .null, .null, .long 0])), (q1, .inl (cI, 1163, .inl (fun _ => 0))), (q2, .inl (cI, 6978, .inl (fun _ => 0))), (q3, .inl (cI, 100, .inl (fun _ => 0))), (q4, .inl (cI, 50, .inl (fun _ => 0)))] H := hP
  have hD : va_D A [(h0, .inr (7, [.ref q1, .ref q2, .int 0, .ref q3, .int 0, .int 0, .int 0, .int 0, .int 0, .int 0, .null, .null, .int 0, .null, .null, .int 0, .null, .null, .null, .null, .null, .null, .null, .null, .int 0, .int 0, .null, .null, .long 0])), (q1, .inl (cI, 1163, .inl (fun _ => 0))), (q2, .inl (cI, 6978, .inl (fun _ => 0))), (q3, .inl (cI, 100, .inl (fun _ => 0))), (q4, .inl (cI, 50, .inl (fun _ => 0)))] := hD
  refine va_putF (D := D) (ci := 7) (v := .ref q4) (ty := (.array .int)) (C := RX9) (T := TX9) (N := 29) hx hb hA in_wsX90 tyX9 tyX9_ok nmX9 hown hK hP hD hS 0 rfl rfl 10 (by decide) (hA _ aF_RX9_19) (fun _ h9 => h9) rfl hin rfl (by decide +kernel) rfl rfl (Nat.le_of_ble_eq_true rfl) dX9_init_35 (fun H locs hP hD hS => ?_)
  have hP : va_P D vwCl [(h0, .inr (7, [.ref q1, .ref q2, .int 0, .ref q3, .int 0, .int 0, .int 0, .int 0, .int 0, .int 0, .ref q4, .null, .int 0, .null, .null, .int 0, .null, .null, .null, .null, .null, .null, .null, .null, .int 0, .int 0, .null, .null, .long 0])), (q1, .inl (cI, 1163, .inl (fun _ => 0))), (q2, .inl (cI, 6978, .inl (fun _ => 0))), (q3, .inl (cI, 100, .inl (fun _ => 0))), (q4, .inl (cI, 50, .inl (fun _ => 0)))] H := hP
  have hD : va_D A [(h0, .inr (7, [.ref q1, .ref q2, .int 0, .ref q3, .int 0, .int 0, .int 0, .int 0, .int 0, .int 0, .ref q4, .null, .int 0, .null, .null, .int 0, .null, .null, .null, .null, .null, .null, .null, .null, .int 0, .int 0, .null, .null, .long 0])), (q1, .inl (cI, 1163, .inl (fun _ => 0))), (q2, .inl (cI, 6978, .inl (fun _ => 0))), (q3, .inl (cI, 100, .inl (fun _ => 0))), (q4, .inl (cI, 50, .inl (fun _ => 0)))] := hD
  refine lv_aload_n hx hb dX9_init_38 rfl (lv_at hl 0 rfl) ?_
  refine lv_bipush (v := 50) hx hb dX9_init_39 (by decide) ?_
  refine va_newa (D := D) (cl := vwCl) (atype := .int) hx hb (hA _ aA_int) (ty := .int) rfl hK hP hD hS hAq (N' := 50) (a0 := (50, .inl (fun _ => 0))) (fun _ => rfl) (by decide) (by decide) (by decide) (Nat.le_of_ble_eq_true rfl) (Nat.le_of_ble_eq_true rfl) dX9_init_41 (fun q5 cA H hKn hP hD hS => ?_)
  obtain rfl := fx_cI hKn
  clear hKn
  have hP : va_P D vwCl [(h0, .inr (7, [.ref q1, .ref q2, .int 0, .ref q3, .int 0, .int 0, .int 0, .int 0, .int 0, .int 0, .ref q4, .null, .int 0, .null, .null, .int 0, .null, .null, .null, .null, .null, .null, .null, .null, .int 0, .int 0, .null, .null, .long 0])), (q1, .inl (cI, 1163, .inl (fun _ => 0))), (q2, .inl (cI, 6978, .inl (fun _ => 0))), (q3, .inl (cI, 100, .inl (fun _ => 0))), (q4, .inl (cI, 50, .inl (fun _ => 0))), (q5, .inl (cI, 50, .inl (fun _ => 0)))] H := hP
  have hD : va_D A [(h0, .inr (7, [.ref q1, .ref q2, .int 0, .ref q3, .int 0, .int 0, .int 0, .int 0, .int 0, .int 0, .ref q4, .null, .int 0, .null, .null, .int 0, .null, .null, .null, .null, .null, .null, .null, .null, .int 0, .int 0, .null, .null, .long 0])), (q1, .inl (cI, 1163, .inl (fun _ => 0))), (q2, .inl (cI, 6978, .inl (fun _ => 0))), (q3, .inl (cI, 100, .inl (fun _ => 0))), (q4, .inl (cI, 50, .inl (fun _ => 0))), (q5, .inl (cI, 50, .inl (fun _ => 0)))] := hD
  refine va_putF (D := D) (ci := 7) (v := .ref q5) (ty := (.array .int)) (C := RX9) (T := TX9) (N := 29) hx hb hA in_wsX90 tyX9 tyX9_ok nmX9 hown hK hP hD hS 0 rfl rfl 11 (by decide) (hA _ aF_RX9_22) (fun _ h9 => h9) rfl hin rfl (by decide +kernel) rfl rfl (Nat.le_of_ble_eq_true rfl) dX9_init_43 (fun H locs hP hD hS => ?_)
  have hP : va_P D vwCl [(h0, .inr (7, [.ref q1, .ref q2, .int 0, .ref q3, .int 0, .int 0, .int 0, .int 0, .int 0, .int 0, .ref q4, .ref q5, .int 0, .null, .null, .int 0, .null, .null, .null, .null, .null, .null, .null, .null, .int 0, .int 0, .null, .null, .long 0])), (q1, .inl (cI, 1163, .inl (fun _ => 0))), (q2, .inl (cI, 6978, .inl (fun _ => 0))), (q3, .inl (cI, 100, .inl (fun _ => 0))), (q4, .inl (cI, 50, .inl (fun _ => 0))), (q5, .inl (cI, 50, .inl (fun _ => 0)))] H := hP
  have hD : va_D A [(h0, .inr (7, [.ref q1, .ref q2, .int 0, .ref q3, .int 0, .int 0, .int 0, .int 0, .int 0, .int 0, .ref q4, .ref q5, .int 0, .null, .null, .int 0, .null, .null, .null, .null, .null, .null, .null, .null, .int 0, .int 0, .null, .null, .long 0])), (q1, .inl (cI, 1163, .inl (fun _ => 0))), (q2, .inl (cI, 6978, .inl (fun _ => 0))), (q3, .inl (cI, 100, .inl (fun _ => 0))), (q4, .inl (cI, 50, .inl (fun _ => 0))), (q5, .inl (cI, 50, .inl (fun _ => 0)))] := hD
  refine lv_aload_n hx hb dX9_init_46 rfl (lv_at hl 0 rfl) ?_
  refine lv_sipush (v := 1024) hx hb dX9_init_47 (by decide) ?_
  refine va_newa (D := D) (cl := vwCl) (atype := .int) hx hb (hA _ aA_int) (ty := .int) rfl hK hP hD hS hAq (N' := 1024) (a0 := (1024, .inl (fun _ => 0))) (fun _ => rfl) (by decide) (by decide) (by decide) (Nat.le_of_ble_eq_true rfl) (Nat.le_of_ble_eq_true rfl) dX9_init_50 (fun q6 cA H hKn hP hD hS => ?_)
  obtain rfl := fx_cI hKn
  clear hKn
  have hP : va_P D vwCl [(h0, .inr (7, [.ref q1, .ref q2, .int 0, .ref q3, .int 0, .int 0, .int 0, .int 0, .int 0, .int 0, .ref q4, .ref q5, .int 0, .null, .null, .int 0, .null, .null, .null, .null, .null, .null, .null, .null, .int 0, .int 0, .null, .null, .long 0])), (q1, .inl (cI, 1163, .inl (fun _ => 0))), (q2, .inl (cI, 6978, .inl (fun _ => 0))), (q3, .inl (cI, 100, .inl (fun _ => 0))), (q4, .inl (cI, 50, .inl (fun _ => 0))), (q5, .inl (cI, 50, .inl (fun _ => 0))), (q6, .inl (cI, 1024, .inl (fun _ => 0)))] H := hP
  have hD : va_D A [(h0, .inr (7, [.ref q1, .ref q2, .int 0, .ref q3, .int 0, .int 0, .int 0, .int 0, .int 0, .int 0, .ref q4, .ref q5, .int 0, .null, .null, .int 0, .null, .null, .null, .null, .null, .null, .null, .null, .int 0, .int 0, .null, .null, .long 0])), (q1, .inl (cI, 1163, .inl (fun _ => 0))), (q2, .inl (cI, 6978, .inl (fun _ => 0))), (q3, .inl (cI, 100, .inl (fun _ => 0))), (q4, .inl (cI, 50, .inl (fun _ => 0))), (q5, .inl (cI, 50, .inl (fun _ => 0))), (q6, .inl (cI, 1024, .inl (fun _ => 0)))] := hD
  refine va_putF (D := D) (ci := 7) (v := .ref q6) (ty := (.array .int)) (C := RX9) (T := TX9) (N := 29) hx hb hA in_wsX90 tyX9 tyX9_ok nmX9 hown hK hP hD hS 0 rfl rfl 13 (by decide) (hA _ aF_RX9_25) (fun _ h9 => h9) rfl hin rfl (by decide +kernel) rfl rfl (Nat.le_of_ble_eq_true rfl) dX9_init_52 (fun H locs hP hD hS => ?_)
  have hP : va_P D vwCl [(h0, .inr (7, [.ref q1, .ref q2, .int 0, .ref q3, .int 0, .int 0, .int 0, .int 0, .int 0, .int 0, .ref q4, .ref q5, .int 0, .ref q6, .null, .int 0, .null, .null, .null, .null, .null, .null, .null, .null, .int 0, .int 0, .null, .null, .long 0])), (q1, .inl (cI, 1163, .inl (fun _ => 0))), (q2, .inl (cI, 6978, .inl (fun _ => 0))), (q3, .inl (cI, 100, .inl (fun _ => 0))), (q4, .inl (cI, 50, .inl (fun _ => 0))), (q5, .inl (cI, 50, .inl (fun _ => 0))), (q6, .inl (cI, 1024, .inl (fun _ => 0)))] H := hP
  have hD : va_D A [(h0, .inr (7, [.ref q1, .ref q2, .int 0, .ref q3, .int 0, .int 0, .int 0, .int 0, .int 0, .int 0, .ref q4, .ref q5, .int 0, .ref q6, .null, .int 0, .null, .null, .null, .null, .null, .null, .null, .null, .int 0, .int 0, .null, .null, .long 0])), (q1, .inl (cI, 1163, .inl (fun _ => 0))), (q2, .inl (cI, 6978, .inl (fun _ => 0))), (q3, .inl (cI, 100, .inl (fun _ => 0))), (q4, .inl (cI, 50, .inl (fun _ => 0))), (q5, .inl (cI, 50, .inl (fun _ => 0))), (q6, .inl (cI, 1024, .inl (fun _ => 0)))] := hD
  refine lv_aload_n hx hb dX9_init_55 rfl (lv_at hl 0 rfl) ?_
  refine lv_bipush (v := 64) hx hb dX9_init_56 (by decide) ?_
  refine va_newa (D := D) (cl := vwCl) (atype := .int) hx hb (hA _ aA_int) (ty := .int) rfl hK hP hD hS hAq (N' := 64) (a0 := (64, .inl (fun _ => 0))) (fun _ => rfl) (by decide) (by decide) (by decide) (Nat.le_of_ble_eq_true rfl) (Nat.le_of_ble_eq_true rfl) dX9_init_58 (fun q7 cA H hKn hP hD hS => ?_)
  obtain rfl := fx_cI hKn
  clear hKn
  have hP : va_P D vwCl [(h0, .inr (7, [.ref q1, .ref q2, .int 0, .ref q3, .int 0, .int 0, .int 0, .int 0, .int 0, .int 0, .ref q4, .ref q5, .int 0, .ref q6, .null, .int 0, .null, .null, .null, .null, .null, .null, .null, .null, .int 0, .int 0, .null, .null, .long 0])), (q1, .inl (cI, 1163, .inl (fun _ => 0))), (q2, .inl (cI, 6978, .inl (fun _ => 0))), (q3, .inl (cI, 100, .inl (fun _ => 0))), (q4, .inl (cI, 50, .inl (fun _ => 0))), (q5, .inl (cI, 50, .inl (fun _ => 0))), (q6, .inl (cI, 1024, .inl (fun _ => 0))), (q7, .inl (cI, 64, .inl (fun _ => 0)))] H := hP
  have hD : va_D A [(h0, .inr (7, [.ref q1, .ref q2, .int 0, .ref q3, .int 0, .int 0, .int 0, .int 0, .int 0, .int 0, .ref q4, .ref q5, .int 0, .ref q6, .null, .int 0, .null, .null, .null, .null, .null, .null, .null, .null, .int 0, .int 0, .null, .null, .long 0])), (q1, .inl (cI, 1163, .inl (fun _ => 0))), (q2, .inl (cI, 6978, .inl (fun _ => 0))), (q3, .inl (cI, 100, .inl (fun _ => 0))), (q4, .inl (cI, 50, .inl (fun _ => 0))), (q5, .inl (cI, 50, .inl (fun _ => 0))), (q6, .inl (cI, 1024, .inl (fun _ => 0))), (q7, .inl (cI, 64, .inl (fun _ => 0)))] := hD
  refine va_putF (D := D) (ci := 7) (v := .ref q7) (ty := (.array .int)) (C := RX9) (T := TX9) (N := 29) hx hb hA in_wsX90 tyX9 tyX9_ok nmX9 hown hK hP hD hS 0 rfl rfl 14 (by decide) (hA _ aF_RX9_28) (fun _ h9 => h9) rfl hin rfl (by decide +kernel) rfl rfl (Nat.le_of_ble_eq_true rfl) dX9_init_60 (fun H locs hP hD hS => ?_)
  have hP : va_P D vwCl [(h0, .inr (7, [.ref q1, .ref q2, .int 0, .ref q3, .int 0, .int 0, .int 0, .int 0, .int 0, .int 0, .ref q4, .ref q5, .int 0, .ref q6, .ref q7, .int 0, .null, .null, .null, .null, .null, .null, .null, .null, .int 0, .int 0, .null, .null, .long 0])), (q1, .inl (cI, 1163, .inl (fun _ => 0))), (q2, .inl (cI, 6978, .inl (fun _ => 0))), (q3, .inl (cI, 100, .inl (fun _ => 0))), (q4, .inl (cI, 50, .inl (fun _ => 0))), (q5, .inl (cI, 50, .inl (fun _ => 0))), (q6, .inl (cI, 1024, .inl (fun _ => 0))), (q7, .inl (cI, 64, .inl (fun _ => 0)))] H := hP
  have hD : va_D A [(h0, .inr (7, [.ref q1, .ref q2, .int 0, .ref q3, .int 0, .int 0, .int 0, .int 0, .int 0, .int 0, .ref q4, .ref q5, .int 0, .ref q6, .ref q7, .int 0, .null, .null, .null, .null, .null, .null, .null, .null, .int 0, .int 0, .null, .null, .long 0])), (q1, .inl (cI, 1163, .inl (fun _ => 0))), (q2, .inl (cI, 6978, .inl (fun _ => 0))), (q3, .inl (cI, 100, .inl (fun _ => 0))), (q4, .inl (cI, 50, .inl (fun _ => 0))), (q5, .inl (cI, 50, .inl (fun _ => 0))), (q6, .inl (cI, 1024, .inl (fun _ => 0))), (q7, .inl (cI, 64, .inl (fun _ => 0)))] := hD
  refine lv_aload_n hx hb dX9_init_63 rfl (lv_at hl 0 rfl) ?_
  refine lv_bipush (v := 64) hx hb dX9_init_64 (by decide) ?_
  refine va_newa (D := D) (cl := vwCl) (atype := .int) hx hb (hA _ aA_int) (ty := .int) rfl hK hP hD hS hAq (N' := 64) (a0 := (64, .inl (fun _ => 0))) (fun _ => rfl) (by decide) (by decide) (by decide) (Nat.le_of_ble_eq_true rfl) (Nat.le_of_ble_eq_true rfl) dX9_init_66 (fun q8 cA H hKn hP hD hS => ?_)
  obtain rfl := fx_cI hKn
  clear hKn
  have hP : va_P D vwCl [(h0, .inr (7, [.ref q1, .ref q2, .int 0, .ref q3, .int 0, .int 0, .int 0, .int 0, .int 0, .int 0, .ref q4, .ref q5, .int 0, .ref q6, .ref q7, .int 0, .null, .null, .null, .null, .null, .null, .null, .null, .int 0, .int 0, .null, .null, .long 0])), (q1, .inl (cI, 1163, .inl (fun _ => 0))), (q2, .inl (cI, 6978, .inl (fun _ => 0))), (q3, .inl (cI, 100, .inl (fun _ => 0))), (q4, .inl (cI, 50, .inl (fun _ => 0))), (q5, .inl (cI, 50, .inl (fun _ => 0))), (q6, .inl (cI, 1024, .inl (fun _ => 0))), (q7, .inl (cI, 64, .inl (fun _ => 0))), (q8, .inl (cI, 64, .inl (fun _ => 0)))] H := hP
  have hD : va_D A [(h0, .inr (7, [.ref q1, .ref q2, .int 0, .ref q3, .int 0, .int 0, .int 0, .int 0, .int 0, .int 0, .ref q4, .ref q5, .int 0, .ref q6, .ref q7, .int 0, .null, .null, .null, .null, .null, .null, .null, .null, .int 0, .int 0, .null, .null, .long 0])), (q1, .inl (cI, 1163, .inl (fun _ => 0))), (q2, .inl (cI, 6978, .inl (fun _ => 0))), (q3, .inl (cI, 100, .inl (fun _ => 0))), (q4, .inl (cI, 50, .inl (fun _ => 0))), (q5, .inl (cI, 50, .inl (fun _ => 0))), (q6, .inl (cI, 1024, .inl (fun _ => 0))), (q7, .inl (cI, 64, .inl (fun _ => 0))), (q8, .inl (cI, 64, .inl (fun _ => 0)))] := hD
  refine va_putF (D := D) (ci := 7) (v := .ref q8) (ty := (.array .int)) (C := RX9) (T := TX9) (N := 29) hx hb hA in_wsX90 tyX9 tyX9_ok nmX9 hown hK hP hD hS 0 rfl rfl 16 (by decide) (hA _ aF_RX9_31) (fun _ h9 => h9) rfl hin rfl (by decide +kernel) rfl rfl (Nat.le_of_ble_eq_true rfl) dX9_init_68 (fun H locs hP hD hS => ?_)
  have hP : va_P D vwCl [(h0, .inr (7, [.ref q1, .ref q2, .int 0, .ref q3, .int 0, .int 0, .int 0, .int 0, .int 0, .int 0, .ref q4, .ref q5, .int 0, .ref q6, .ref q7, .int 0, .ref q8, .null, .null, .null, .null, .null, .null, .null, .int 0, .int 0, .null, .null, .long 0])), (q1, .inl (cI, 1163, .inl (fun _ => 0))), (q2, .inl (cI, 6978, .inl (fun _ => 0))), (q3, .inl (cI, 100, .inl (fun _ => 0))), (q4, .inl (cI, 50, .inl (fun _ => 0))), (q5, .inl (cI, 50, .inl (fun _ => 0))), (q6, .inl (cI, 1024, .inl (fun _ => 0))), (q7, .inl (cI, 64, .inl (fun _ => 0))), (q8, .inl (cI, 64, .inl (fun _ => 0)))] H := hP
  have hD : va_D A [(h0, .inr (7, [.ref q1, .ref q2, .int 0, .ref q3, .int 0, .int 0, .int 0, .int 0, .int 0, .int 0, .ref q4, .ref q5, .int 0, .ref q6, .ref q7, .int 0, .ref q8, .null, .null, .null, .null, .null, .null, .null, .int 0, .int 0, .null, .null, .long 0])), (q1, .inl (cI, 1163, .inl (fun _ => 0))), (q2, .inl (cI, 6978, .inl (fun _ => 0))), (q3, .inl (cI, 100, .inl (fun _ => 0))), (q4, .inl (cI, 50, .inl (fun _ => 0))), (q5, .inl (cI, 50, .inl (fun _ => 0))), (q6, .inl (cI, 1024, .inl (fun _ => 0))), (q7, .inl (cI, 64, .inl (fun _ => 0))), (q8, .inl (cI, 64, .inl (fun _ => 0)))] := hD
  refine lv_aload_n hx hb dX9_init_71 rfl (lv_at hl 0 rfl) ?_
  refine lv_bipush (v := 64) hx hb dX9_init_72 (by decide) ?_
  refine va_newa (D := D) (cl := vwCl) (atype := .int) hx hb (hA _ aA_int) (ty := .int) rfl hK hP hD hS hAq (N' := 64) (a0 := (64, .inl (fun _ => 0))) (fun _ => rfl) (by decide) (by decide) (by decide) (Nat.le_of_ble_eq_true rfl) (Nat.le_of_ble_eq_true rfl) dX9_init_74 (fun q9 cA H hKn hP hD hS => ?_)
  obtain rfl := fx_cI hKn
  clear hKn
  have hP : va_P D vwCl [(h0, .inr (7, [.ref q1, .ref q2, .int 0, .ref q3, .int 0, .int 0, .int 0, .int 0, .int 0, .int 0, .ref q4, .ref q5, .int 0, .ref q6, .ref q7, .int 0, .ref q8, .null, .null, .null, .null, .null, .null, .null, .int 0, .int 0, .null, .null, .long 0])), (q1, .inl (cI, 1163, .inl (fun _ => 0))), (q2, .inl (cI, 6978, .inl (fun _ => 0))), (q3, .inl (cI, 100, .inl (fun _ => 0))), (q4, .inl (cI, 50, .inl (fun _ => 0))), (q5, .inl (cI, 50, .inl (fun _ => 0))), (q6, .inl (cI, 1024, .inl (fun _ => 0))), (q7, .inl (cI, 64, .inl (fun _ => 0))), (q8, .inl (cI, 64, .inl (fun _ => 0))), (q9, .inl (cI, 64, .inl (fun _ => 0)))] H := hP
  have hD : va_D A [(h0, .inr (7, [.ref q1, .ref q2, .int 0, .ref q3, .int 0, .int 0, .int 0, .int 0, .int 0, .int 0, .ref q4, .ref q5, .int 0, .ref q6, .ref q7, .int 0, .ref q8, .null, .null, .null, .null, .null, .null, .null, .int 0, .int 0, .null, .null, .long 0])), (q1, .inl (cI, 1163, .inl (fun _ => 0))), (q2, .inl (cI, 6978, .inl (fun _ => 0))), (q3, .inl (cI, 100, .inl (fun _ => 0))), (q4, .inl (cI, 50, .inl (fun _ => 0))), (q5, .inl (cI, 50, .inl (fun _ => 0))), (q6, .inl (cI, 1024, .inl (fun _ => 0))), (q7, .inl (cI, 64, .inl (fun _ => 0))), (q8, .inl (cI, 64, .inl (fun _ => 0))), (q9, .inl (cI, 64, .inl (fun _ => 0)))] := hD
  refine va_putF (D := D) (ci := 7) (v := .ref q9) (ty := (.array .int)) (C := RX9) (T := TX9) (N := 29) hx hb hA in_wsX90 tyX9 tyX9_ok nmX9 hown hK hP hD hS 0 rfl rfl 17 (by decide) (hA _ aF_RX9_34) (fun _ h9 => h9) rfl hin rfl (by decide +kernel) rfl rfl (Nat.le_of_ble_eq_true rfl) dX9_init_76 (fun H locs hP hD hS => ?_)
  have hP : va_P D vwCl [(h0, .inr (7, [.ref q1, .ref q2, .int 0, .ref q3, .int 0, .int 0, .int 0, .int 0, .int 0, .int 0, .ref q4, .ref q5, .int 0, .ref q6, .ref q7, .int 0, .ref q8, .ref q9, .null, .null, .null, .null, .null, .null, .int 0, .int 0, .null, .null, .long 0])), (q1, .inl (cI, 1163, .inl (fun _ => 0))), (q2, .inl (cI, 6978, .inl (fun _ => 0))), (q3, .inl (cI, 100, .inl (fun _ => 0))), (q4, .inl (cI, 50, .inl (fun _ => 0))), (q5, .inl (cI, 50, .inl (fun _ => 0))), (q6, .inl (cI, 1024, .inl (fun _ => 0))), (q7, .inl (cI, 64, .inl (fun _ => 0))), (q8, .inl (cI, 64, .inl (fun _ => 0))), (q9, .inl (cI, 64, .inl (fun _ => 0)))] H := hP
  have hD : va_D A [(h0, .inr (7, [.ref q1, .ref q2, .int 0, .ref q3, .int 0, .int 0, .int 0, .int 0, .int 0, .int 0, .ref q4, .ref q5, .int 0, .ref q6, .ref q7, .int 0, .ref q8, .ref q9, .null, .null, .null, .null, .null, .null, .int 0, .int 0, .null, .null, .long 0])), (q1, .inl (cI, 1163, .inl (fun _ => 0))), (q2, .inl (cI, 6978, .inl (fun _ => 0))), (q3, .inl (cI, 100, .inl (fun _ => 0))), (q4, .inl (cI, 50, .inl (fun _ => 0))), (q5, .inl (cI, 50, .inl (fun _ => 0))), (q6, .inl (cI, 1024, .inl (fun _ => 0))), (q7, .inl (cI, 64, .inl (fun _ => 0))), (q8, .inl (cI, 64, .inl (fun _ => 0))), (q9, .inl (cI, 64, .inl (fun _ => 0)))] := hD
  refine lv_aload_n hx hb dX9_init_79 rfl (lv_at hl 0 rfl) ?_
  refine lv_bipush (v := 120) hx hb dX9_init_80 (by decide) ?_
  refine va_newa (D := D) (cl := vwCl) (atype := .int) hx hb (hA _ aA_int) (ty := .int) rfl hK hP hD hS hAq (N' := 120) (a0 := (120, .inl (fun _ => 0))) (fun _ => rfl) (by decide) (by decide) (by decide) (Nat.le_of_ble_eq_true rfl) (Nat.le_of_ble_eq_true rfl) dX9_init_82 (fun q10 cA H hKn hP hD hS => ?_)
  obtain rfl := fx_cI hKn
  clear hKn
  have hP : va_P D vwCl [(h0, .inr (7, [.ref q1, .ref q2, .int 0, .ref q3, .int 0, .int 0, .int 0, .int 0, .int 0, .int 0, .ref q4, .ref q5, .int 0, .ref q6, .ref q7, .int 0, .ref q8, .ref q9, .null, .null, .null, .null, .null, .null, .int 0, .int 0, .null, .null, .long 0])), (q1, .inl (cI, 1163, .inl (fun _ => 0))), (q2, .inl (cI, 6978, .inl (fun _ => 0))), (q3, .inl (cI, 100, .inl (fun _ => 0))), (q4, .inl (cI, 50, .inl (fun _ => 0))), (q5, .inl (cI, 50, .inl (fun _ => 0))), (q6, .inl (cI, 1024, .inl (fun _ => 0))), (q7, .inl (cI, 64, .inl (fun _ => 0))), (q8, .inl (cI, 64, .inl (fun _ => 0))), (q9, .inl (cI, 64, .inl (fun _ => 0))), (q10, .inl (cI, 120, .inl (fun _ => 0)))] H := hP
  have hD : va_D A [(h0, .inr (7, [.ref q1, .ref q2, .int 0, .ref q3, .int 0, .int 0, .int 0, .int 0, .int 0, .int 0, .ref q4, .ref q5, .int 0, .ref q6, .ref q7, .int 0, .ref q8, .ref q9, .null, .null, .null, .null, .null, .null, .int 0, .int 0, .null, .null, .long 0])), (q1, .inl (cI, 1163, .inl (fun _ => 0))), (q2, .inl (cI, 6978, .inl (fun _ => 0))), (q3, .inl (cI, 100, .inl (fun _ => 0))), (q4, .inl (cI, 50, .inl (fun _ => 0))), (q5, .inl (cI, 50, .inl (fun _ => 0))), (q6, .inl (cI, 1024, .inl (fun _ => 0))), (q7, .inl (cI, 64, .inl (fun _ => 0))), (q8, .inl (cI, 64, .inl (fun _ => 0))), (q9, .inl (cI, 64, .inl (fun _ => 0))), (q10, .inl (cI, 120, .inl (fun _ => 0)))] := hD
  refine va_putF (D := D) (ci := 7) (v := .ref q10) (ty := (.array .int)) (C := RX9) (T := TX9) (N := 29) hx hb hA in_wsX90 tyX9 tyX9_ok nmX9 hown hK hP hD hS 0 rfl rfl 18 (by decide) (hA _ aF_RX9_37) (fun _ h9 => h9) rfl hin rfl (by decide +kernel) rfl rfl (Nat.le_of_ble_eq_true rfl) dX9_init_84 (fun H locs hP hD hS => ?_)
  have hP : va_P D vwCl [(h0, .inr (7, [.ref q1, .ref q2, .int 0, .ref q3, .int 0, .int 0, .int 0, .int 0, .int 0, .int 0, .ref q4, .ref q5, .int 0, .ref q6, .ref q7, .int 0, .ref q8, .ref q9, .ref q10, .null, .null, .null, .null, .null, .int 0, .int 0, .null, .null, .long 0])), (q1, .inl (cI, 1163, .inl (fun _ => 0))), (q2, .inl (cI, 6978, .inl (fun _ => 0))), (q3, .inl (cI, 100, .inl (fun _ => 0))), (q4, .inl (cI, 50, .inl (fun _ => 0))), (q5, .inl (cI, 50, .inl (fun _ => 0))), (q6, .inl (cI, 1024, .inl (fun _ => 0))), (q7, .inl (cI, 64, .inl (fun _ => 0))), (q8, .inl (cI, 64, .inl (fun _ => 0))), (q9, .inl (cI, 64, .inl (fun _ => 0))), (q10, .inl (cI, 120, .inl (fun _ => 0)))] H := hP
  have hD : va_D A [(h0, .inr (7, [.ref q1, .ref q2, .int 0, .ref q3, .int 0, .int 0, .int 0, .int 0, .int 0, .int 0, .ref q4, .ref q5, .int 0, .ref q6, .ref q7, .int 0, .ref q8, .ref q9, .ref q10, .null, .null, .null, .null, .null, .int 0, .int 0, .null, .null, .long 0])), (q1, .inl (cI, 1163, .inl (fun _ => 0))), (q2, .inl (cI, 6978, .inl (fun _ => 0))), (q3, .inl (cI, 100, .inl (fun _ => 0))), (q4, .inl (cI, 50, .inl (fun _ => 0))), (q5, .inl (cI, 50, .inl (fun _ => 0))), (q6, .inl (cI, 1024, .inl (fun _ => 0))), (q7, .inl (cI, 64, .inl (fun _ => 0))), (q8, .inl (cI, 64, .inl (fun _ => 0))), (q9, .inl (cI, 64, .inl (fun _ => 0))), (q10, .inl (cI, 120, .inl (fun _ => 0)))] := hD
  refine lv_aload_n hx hb dX9_init_87 rfl (lv_at hl 0 rfl) ?_
  refine lv_bipush (v := 120) hx hb dX9_init_88 (by decide) ?_
  refine va_newa (D := D) (cl := vwCl) (atype := .int) hx hb (hA _ aA_int) (ty := .int) rfl hK hP hD hS hAq (N' := 120) (a0 := (120, .inl (fun _ => 0))) (fun _ => rfl) (by decide) (by decide) (by decide) (Nat.le_of_ble_eq_true rfl) (Nat.le_of_ble_eq_true rfl) dX9_init_90 (fun q11 cA H hKn hP hD hS => ?_)
  obtain rfl := fx_cI hKn
  clear hKn
  have hP : va_P D vwCl [(h0, .inr (7, [.ref q1, .ref q2, .int 0, .ref q3, .int 0, .int 0, .int 0, .int 0, .int 0, .int 0, .ref q4, .ref q5, .int 0, .ref q6, .ref q7, .int 0, .ref q8, .ref q9, .ref q10, .null, .null, .null, .null, .null, .int 0, .int 0, .null, .null, .long 0])), (q1, .inl (cI, 1163, .inl (fun _ => 0))), (q2, .inl (cI, 6978, .inl (fun _ => 0))), (q3, .inl (cI, 100, .inl (fun _ => 0))), (q4, .inl (cI, 50, .inl (fun _ => 0))), (q5, .inl (cI, 50, .inl (fun _ => 0))), (q6, .inl (cI, 1024, .inl (fun _ => 0))), (q7, .inl (cI, 64, .inl (fun _ => 0))), (q8, .inl (cI, 64, .inl (fun _ => 0))), (q9, .inl (cI, 64, .inl (fun _ => 0))), (q10, .inl (cI, 120, .inl (fun _ => 0))), (q11, .inl (cI, 120, .inl (fun _ => 0)))] H := hP
  have hD : va_D A [(h0, .inr (7, [.ref q1, .ref q2, .int 0, .ref q3, .int 0, .int 0, .int 0, .int 0, .int 0, .int 0, .ref q4, .ref q5, .int 0, .ref q6, .ref q7, .int 0, .ref q8, .ref q9, .ref q10, .null, .null, .null, .null, .null, .int 0, .int 0, .null, .null, .long 0])), (q1, .inl (cI, 1163, .inl (fun _ => 0))), (q2, .inl (cI, 6978, .inl (fun _ => 0))), (q3, .inl (cI, 100, .inl (fun _ => 0))), (q4, .inl (cI, 50, .inl (fun _ => 0))), (q5, .inl (cI, 50, .inl (fun _ => 0))), (q6, .inl (cI, 1024, .inl (fun _ => 0))), (q7, .inl (cI, 64, .inl (fun _ => 0))), (q8, .inl (cI, 64, .inl (fun _ => 0))), (q9, .inl (cI, 64, .inl (fun _ => 0))), (q10, .inl (cI, 120, .inl (fun _ => 0))), (q11, .inl (cI, 120, .inl (fun _ => 0)))] := hD
  refine va_putF (D := D) (ci := 7) (v := .ref q11) (ty := (.array .int)) (C := RX9) (T := TX9) (N := 29) hx hb hA in_wsX90 tyX9 tyX9_ok nmX9 hown hK hP hD hS 0 rfl rfl 19 (by decide) (hA _ aF_RX9_40) (fun _ h9 => h9) rfl hin rfl (by decide +kernel) rfl rfl (Nat.le_of_ble_eq_true rfl) dX9_init_92 (fun H locs hP hD hS => ?_)
  have hP : va_P D vwCl [(h0, .inr (7, [.ref q1, .ref q2, .int 0, .ref q3, .int 0, .int 0, .int 0, .int 0, .int 0, .int 0, .ref q4, .ref q5, .int 0, .ref q6, .ref q7, .int 0, .ref q8, .ref q9, .ref q10, .ref q11, .null, .null, .null, .null, .int 0, .int 0, .null, .null, .long 0])), (q1, .inl (cI, 1163, .inl (fun _ => 0))), (q2, .inl (cI, 6978, .inl (fun _ => 0))), (q3, .inl (cI, 100, .inl (fun _ => 0))), (q4, .inl (cI, 50, .inl (fun _ => 0))), (q5, .inl (cI, 50, .inl (fun _ => 0))), (q6, .inl (cI, 1024, .inl (fun _ => 0))), (q7, .inl (cI, 64, .inl (fun _ => 0))), (q8, .inl (cI, 64, .inl (fun _ => 0))), (q9, .inl (cI, 64, .inl (fun _ => 0))), (q10, .inl (cI, 120, .inl (fun _ => 0))), (q11, .inl (cI, 120, .inl (fun _ => 0)))] H := hP
  have hD : va_D A [(h0, .inr (7, [.ref q1, .ref q2, .int 0, .ref q3, .int 0, .int 0, .int 0, .int 0, .int 0, .int 0, .ref q4, .ref q5, .int 0, .ref q6, .ref q7, .int 0, .ref q8, .ref q9, .ref q10, .ref q11, .null, .null, .null, .null, .int 0, .int 0, .null, .null, .long 0])), (q1, .inl (cI, 1163, .inl (fun _ => 0))), (q2, .inl (cI, 6978, .inl (fun _ => 0))), (q3, .inl (cI, 100, .inl (fun _ => 0))), (q4, .inl (cI, 50, .inl (fun _ => 0))), (q5, .inl (cI, 50, .inl (fun _ => 0))), (q6, .inl (cI, 1024, .inl (fun _ => 0))), (q7, .inl (cI, 64, .inl (fun _ => 0))), (q8, .inl (cI, 64, .inl (fun _ => 0))), (q9, .inl (cI, 64, .inl (fun _ => 0))), (q10, .inl (cI, 120, .inl (fun _ => 0))), (q11, .inl (cI, 120, .inl (fun _ => 0)))] := hD
  refine lv_aload_n hx hb dX9_init_95 rfl (lv_at hl 0 rfl) ?_
  refine lv_bipush (v := 120) hx hb dX9_init_96 (by decide) ?_
  refine va_newa (D := D) (cl := vwCl) (atype := .int) hx hb (hA _ aA_int) (ty := .int) rfl hK hP hD hS hAq (N' := 120) (a0 := (120, .inl (fun _ => 0))) (fun _ => rfl) (by decide) (by decide) (by decide) (Nat.le_of_ble_eq_true rfl) (Nat.le_of_ble_eq_true rfl) dX9_init_98 (fun q12 cA H hKn hP hD hS => ?_)
  obtain rfl := fx_cI hKn
  clear hKn
  have hP : va_P D vwCl [(h0, .inr (7, [.ref q1, .ref q2, .int 0, .ref q3, .int 0, .int 0, .int 0, .int 0, .int 0, .int 0, .ref q4, .ref q5, .int 0, .ref q6, .ref q7, .int 0, .ref q8, .ref q9, .ref q10, .ref q11, .null, .null, .null, .null, .int 0, .int 0, .null, .null, .long 0])), (q1, .inl (cI, 1163, .inl (fun _ => 0))), (q2, .inl (cI, 6978, .inl (fun _ => 0))), (q3, .inl (cI, 100, .inl (fun _ => 0))), (q4, .inl (cI, 50, .inl (fun _ => 0))), (q5, .inl (cI, 50, .inl (fun _ => 0))), (q6, .inl (cI, 1024, .inl (fun _ => 0))), (q7, .inl (cI, 64, .inl (fun _ => 0))), (q8, .inl (cI, 64, .inl (fun _ => 0))), (q9, .inl (cI, 64, .inl (fun _ => 0))), (q10, .inl (cI, 120, .inl (fun _ => 0))), (q11, .inl (cI, 120, .inl (fun _ => 0))), (q12, .inl (cI, 120, .inl (fun _ => 0)))] H := hP
  have hD : va_D A [(h0, .inr (7, [.ref q1, .ref q2, .int 0, .ref q3, .int 0, .int 0, .int 0, .int 0, .int 0, .int 0, .ref q4, .ref q5, .int 0, .ref q6, .ref q7, .int 0, .ref q8, .ref q9, .ref q10, .ref q11, .null, .null, .null, .null, .int 0, .int 0, .null, .null, .long 0])), (q1, .inl (cI, 1163, .inl (fun _ => 0))), (q2, .inl (cI, 6978, .inl (fun _ => 0))), (q3, .inl (cI, 100, .inl (fun _ => 0))), (q4, .inl (cI, 50, .inl (fun _ => 0))), (q5, .inl (cI, 50, .inl (fun _ => 0))), (q6, .inl (cI, 1024, .inl (fun _ => 0))), (q7, .inl (cI, 64, .inl (fun _ => 0))), (q8, .inl (cI, 64, .inl (fun _ => 0))), (q9, .inl (cI, 64, .inl (fun _ => 0))), (q10, .inl (cI, 120, .inl (fun _ => 0))), (q11, .inl (cI, 120, .inl (fun _ => 0))), (q12, .inl (cI, 120, .inl (fun _ => 0)))] := hD
  refine va_putF (D := D) (ci := 7) (v := .ref q12) (ty := (.array .int)) (C := RX9) (T := TX9) (N := 29) hx hb hA in_wsX90 tyX9 tyX9_ok nmX9 hown hK hP hD hS 0 rfl rfl 20 (by decide) (hA _ aF_RX9_43) (fun _ h9 => h9) rfl hin rfl (by decide +kernel) rfl rfl (Nat.le_of_ble_eq_true rfl) dX9_init_100 (fun H locs hP hD hS => ?_)
  have hP : va_P D vwCl [(h0, .inr (7, [.ref q1, .ref q2, .int 0, .ref q3, .int 0, .int 0, .int 0, .int 0, .int 0, .int 0, .ref q4, .ref q5, .int 0, .ref q6, .ref q7, .int 0, .ref q8, .ref q9, .ref q10, .ref q11, .ref q12, .null, .null, .null, .int 0, .int 0, .null, .null, .long 0])), (q1, .inl (cI, 1163, .inl (fun _ => 0))), (q2, .inl (cI, 6978, .inl (fun _ => 0))), (q3, .inl (cI, 100, .inl (fun _ => 0))), (q4, .inl (cI, 50, .inl (fun _ => 0))), (q5, .inl (cI, 50, .inl (fun _ => 0))), (q6, .inl (cI, 1024, .inl (fun _ => 0))), (q7, .inl (cI, 64, .inl (fun _ => 0))), (q8, .inl (cI, 64, .inl (fun _ => 0))), (q9, .inl (cI, 64, .inl (fun _ => 0))), (q10, .inl (cI, 120, .inl (fun _ => 0))), (q11, .inl (cI, 120, .inl (fun _ => 0))), (q12, .inl (cI, 120, .inl (fun _ => 0)))] H := hP
  have hD : va_D A [(h0, .inr (7, [.ref q1, .ref q2, .int 0, .ref q3, .int 0, .int 0, .int 0, .int 0, .int 0, .int 0, .ref q4, .ref q5, .int 0, .ref q6, .ref q7, .int 0, .ref q8, .ref q9, .ref q10, .ref q11, .ref q12, .null, .null, .null, .int 0, .int 0, .null, .null, .long 0])), (q1, .inl (cI, 1163, .inl (fun _ => 0))), (q2, .inl (cI, 6978, .inl (fun _ => 0))), (q3, .inl (cI, 100, .inl (fun _ => 0))), (q4, .inl (cI, 50, .inl (fun _ => 0))), (q5, .inl (cI, 50, .inl (fun _ => 0))), (q6, .inl (cI, 1024, .inl (fun _ => 0))), (q7, .inl (cI, 64, .inl (fun _ => 0))), (q8, .inl (cI, 64, .inl (fun _ => 0))), (q9, .inl (cI, 64, .inl (fun _ => 0))), (q10, .inl (cI, 120, .inl (fun _ => 0))), (q11, .inl (cI, 120, .inl (fun _ => 0))), (q12, .inl (cI, 120, .inl (fun _ => 0)))] := hD
  refine lv_aload_n hx hb dX9_init_103 rfl (lv_at hl 0 rfl) ?_
  refine lv_bipush (v := 64) hx hb dX9_init_104 (by decide) ?_
  refine va_newa (D := D) (cl := vwCl) (atype := .int) hx hb (hA _ aA_int) (ty := .int) rfl hK hP hD hS hAq (N' := 64) (a0 := (64, .inl (fun _ => 0))) (fun _ => rfl) (by decide) (by decide) (by decide) (Nat.le_of_ble_eq_true rfl) (Nat.le_of_ble_eq_true rfl) dX9_init_106 (fun q13 cA H hKn hP hD hS => ?_)
  obtain rfl := fx_cI hKn
  clear hKn
  have hP : va_P D vwCl [(h0, .inr (7, [.ref q1, .ref q2, .int 0, .ref q3, .int 0, .int 0, .int 0, .int 0, .int 0, .int 0, .ref q4, .ref q5, .int 0, .ref q6, .ref q7, .int 0, .ref q8, .ref q9, .ref q10, .ref q11, .ref q12, .null, .null, .null, .int 0, .int 0, .null, .null, .long 0])), (q1, .inl (cI, 1163, .inl (fun _ => 0))), (q2, .inl (cI, 6978, .inl (fun _ => 0))), (q3, .inl (cI, 100, .inl (fun _ => 0))), (q4, .inl (cI, 50, .inl (fun _ => 0))), (q5, .inl (cI, 50, .inl (fun _ => 0))), (q6, .inl (cI, 1024, .inl (fun _ => 0))), (q7, .inl (cI, 64, .inl (fun _ => 0))), (q8, .inl (cI, 64, .inl (fun _ => 0))), (q9, .inl (cI, 64, .inl (fun _ => 0))), (q10, .inl (cI, 120, .inl (fun _ => 0))), (q11, .inl (cI, 120, .inl (fun _ => 0))), (q12, .inl (cI, 120, .inl (fun _ => 0))), (q13, .inl (cI, 64, .inl (fun _ => 0)))] H := hP
  have hD : va_D A [(h0, .inr (7, [.ref q1, .ref q2, .int 0, .ref q3, .int 0, .int 0, .int 0, .int 0, .int 0, .int 0, .ref q4, .ref q5, .int 0, .ref q6, .ref q7, .int 0, .ref q8, .ref q9, .ref q10, .ref q11, .ref q12, .null, .null, .null, .int 0, .int 0, .null, .null, .long 0])), (q1, .inl (cI, 1163, .inl (fun _ => 0))), (q2, .inl (cI, 6978, .inl (fun _ => 0))), (q3, .inl (cI, 100, .inl (fun _ => 0))), (q4, .inl (cI, 50, .inl (fun _ => 0))), (q5, .inl (cI, 50, .inl (fun _ => 0))), (q6, .inl (cI, 1024, .inl (fun _ => 0))), (q7, .inl (cI, 64, .inl (fun _ => 0))), (q8, .inl (cI, 64, .inl (fun _ => 0))), (q9, .inl (cI, 64, .inl (fun _ => 0))), (q10, .inl (cI, 120, .inl (fun _ => 0))), (q11, .inl (cI, 120, .inl (fun _ => 0))), (q12, .inl (cI, 120, .inl (fun _ => 0))), (q13, .inl (cI, 64, .inl (fun _ => 0)))] := hD
  refine va_putF (D := D) (ci := 7) (v := .ref q13) (ty := (.array .int)) (C := RX9) (T := TX9) (N := 29) hx hb hA in_wsX90 tyX9 tyX9_ok nmX9 hown hK hP hD hS 0 rfl rfl 21 (by decide) (hA _ aF_RX9_46) (fun _ h9 => h9) rfl hin rfl (by decide +kernel) rfl rfl (Nat.le_of_ble_eq_true rfl) dX9_init_108 (fun H locs hP hD hS => ?_)
  have hP : va_P D vwCl [(h0, .inr (7, [.ref q1, .ref q2, .int 0, .ref q3, .int 0, .int 0, .int 0, .int 0, .int 0, .int 0, .ref q4, .ref q5, .int 0, .ref q6, .ref q7, .int 0, .ref q8, .ref q9, .ref q10, .ref q11, .ref q12, .ref q13, .null, .null, .int 0, .int 0, .null, .null, .long 0])), (q1, .inl (cI, 1163, .inl (fun _ => 0))), (q2, .inl (cI, 6978, .inl (fun _ => 0))), (q3, .inl (cI, 100, .inl (fun _ => 0))), (q4, .inl (cI, 50, .inl (fun _ => 0))), (q5, .inl (cI, 50, .inl (fun _ => 0))), (q6, .inl (cI, 1024, .inl (fun _ => 0))), (q7, .inl (cI, 64, .inl (fun _ => 0))), (q8, .inl (cI, 64, .inl (fun _ => 0))), (q9, .inl (cI, 64, .inl (fun _ => 0))), (q10, .inl (cI, 120, .inl (fun _ => 0))), (q11, .inl (cI, 120, .inl (fun _ => 0))), (q12, .inl (cI, 120, .inl (fun _ => 0))), (q13, .inl (cI, 64, .inl (fun _ => 0)))] H := hP
  have hD : va_D A [(h0, .inr (7, [.ref q1, .ref q2, .int 0, .ref q3, .int 0, .int 0, .int 0, .int 0, .int 0, .int 0, .ref q4, .ref q5, .int 0, .ref q6, .ref q7, .int 0, .ref q8, .ref q9, .ref q10, .ref q11, .ref q12, .ref q13, .null, .null, .int 0, .int 0, .null, .null, .long 0])), (q1, .inl (cI, 1163, .inl (fun _ => 0))), (q2, .inl (cI, 6978, .inl (fun _ => 0))), (q3, .inl (cI, 100, .inl (fun _ => 0))), (q4, .inl (cI, 50, .inl (fun _ => 0))), (q5, .inl (cI, 50, .inl (fun _ => 0))), (q6, .inl (cI, 1024, .inl (fun _ => 0))), (q7, .inl (cI, 64, .inl (fun _ => 0))), (q8, .inl (cI, 64, .inl (fun _ => 0))), (q9, .inl (cI, 64, .inl (fun _ => 0))), (q10, .inl (cI, 120, .inl (fun _ => 0))), (q11, .inl (cI, 120, .inl (fun _ => 0))), (q12, .inl (cI, 120, .inl (fun _ => 0))), (q13, .inl (cI, 64, .inl (fun _ => 0)))] := hD
  refine lv_aload_n hx hb dX9_init_111 rfl (lv_at hl 0 rfl) ?_
  refine lv_bipush (v := 64) hx hb dX9_init_112 (by decide) ?_
  refine va_newa (D := D) (cl := vwCl) (atype := .int) hx hb (hA _ aA_int) (ty := .int) rfl hK hP hD hS hAq (N' := 64) (a0 := (64, .inl (fun _ => 0))) (fun _ => rfl) (by decide) (by decide) (by decide) (Nat.le_of_ble_eq_true rfl) (Nat.le_of_ble_eq_true rfl) dX9_init_114 (fun q14 cA H hKn hP hD hS => ?_)
  obtain rfl := fx_cI hKn
  clear hKn
  have hP : va_P D vwCl [(h0, .inr (7, [.ref q1, .ref q2, .int 0, .ref q3, .int 0, .int 0, .int 0, .int 0, .int 0, .int 0, .ref q4, .ref q5, .int 0, .ref q6, .ref q7, .int 0, .ref q8, .ref q9, .ref q10, .ref q11, .ref q12, .ref q13, .null, .null, .int 0, .int 0, .null, .null, .long 0])), (q1, .inl (cI, 1163, .inl (fun _ => 0))), (q2, .inl (cI, 6978, .inl (fun _ => 0))), (q3, .inl (cI, 100, .inl (fun _ => 0))), (q4, .inl (cI, 50, .inl (fun _ => 0))), (q5, .inl (cI, 50, .inl (fun _ => 0))), (q6, .inl (cI, 1024, .inl (fun _ => 0))), (q7, .inl (cI, 64, .inl (fun _ => 0))), (q8, .inl (cI, 64, .inl (fun _ => 0))), (q9, .inl (cI, 64, .inl (fun _ => 0))), (q10, .inl (cI, 120, .inl (fun _ => 0))), (q11, .inl (cI, 120, .inl (fun _ => 0))), (q12, .inl (cI, 120, .inl (fun _ => 0))), (q13, .inl (cI, 64, .inl (fun _ => 0))), (q14, .inl (cI, 64, .inl (fun _ => 0)))] H := hP
  have hD : va_D A [(h0, .inr (7, [.ref q1, .ref q2, .int 0, .ref q3, .int 0, .int 0, .int 0, .int 0, .int 0, .int 0, .ref q4, .ref q5, .int 0, .ref q6, .ref q7, .int 0, .ref q8, .ref q9, .ref q10, .ref q11, .ref q12, .ref q13, .null, .null, .int 0, .int 0, .null, .null, .long 0])), (q1, .inl (cI, 1163, .inl (fun _ => 0))), (q2, .inl (cI, 6978, .inl (fun _ => 0))), (q3, .inl (cI, 100, .inl (fun _ => 0))), (q4, .inl (cI, 50, .inl (fun _ => 0))), (q5, .inl (cI, 50, .inl (fun _ => 0))), (q6, .inl (cI, 1024, .inl (fun _ => 0))), (q7, .inl (cI, 64, .inl (fun _ => 0))), (q8, .inl (cI, 64, .inl (fun _ => 0))), (q9, .inl (cI, 64, .inl (fun _ => 0))), (q10, .inl (cI, 120, .inl (fun _ => 0))), (q11, .inl (cI, 120, .inl (fun _ => 0))), (q12, .inl (cI, 120, .inl (fun _ => 0))), (q13, .inl (cI, 64, .inl (fun _ => 0))), (q14, .inl (cI, 64, .inl (fun _ => 0)))] := hD
  refine va_putF (D := D) (ci := 7) (v := .ref q14) (ty := (.array .int)) (C := RX9) (T := TX9) (N := 29) hx hb hA in_wsX90 tyX9 tyX9_ok nmX9 hown hK hP hD hS 0 rfl rfl 22 (by decide) (hA _ aF_RX9_49) (fun _ h9 => h9) rfl hin rfl (by decide +kernel) rfl rfl (Nat.le_of_ble_eq_true rfl) dX9_init_116 (fun H locs hP hD hS => ?_)
  have hP : va_P D vwCl [(h0, .inr (7, [.ref q1, .ref q2, .int 0, .ref q3, .int 0, .int 0, .int 0, .int 0, .int 0, .int 0, .ref q4, .ref q5, .int 0, .ref q6, .ref q7, .int 0, .ref q8, .ref q9, .ref q10, .ref q11, .ref q12, .ref q13, .ref q14, .null, .int 0, .int 0, .null, .null, .long 0])), (q1, .inl (cI, 1163, .inl (fun _ => 0))), (q2, .inl (cI, 6978, .inl (fun _ => 0))), (q3, .inl (cI, 100, .inl (fun _ => 0))), (q4, .inl (cI, 50, .inl (fun _ => 0))), (q5, .inl (cI, 50, .inl (fun _ => 0))), (q6, .inl (cI, 1024, .inl (fun _ => 0))), (q7, .inl (cI, 64, .inl (fun _ => 0))), (q8, .inl (cI, 64, .inl (fun _ => 0))), (q9, .inl (cI, 64, .inl (fun _ => 0))), (q10, .inl (cI, 120, .inl (fun _ => 0))), (q11, .inl (cI, 120, .inl (fun _ => 0))), (q12, .inl (cI, 120, .inl (fun _ => 0))), (q13, .inl (cI, 64, .inl (fun _ => 0))), (q14, .inl (cI, 64, .inl (fun _ => 0)))] H := hP
  have hD : va_D A [(h0, .inr (7, [.ref q1, .ref q2, .int 0, .ref q3, .int 0, .int 0, .int 0, .int 0, .int 0, .int 0, .ref q4, .ref q5, .int 0, .ref q6, .ref q7, .int 0, .ref q8, .ref q9, .ref q10, .ref q11, .ref q12, .ref q13, .ref q14, .null, .int 0, .int 0, .null, .null, .long 0])), (q1, .inl (cI, 1163, .inl (fun _ => 0))), (q2, .inl (cI, 6978, .inl (fun _ => 0))), (q3, .inl (cI, 100, .inl (fun _ => 0))), (q4, .inl (cI, 50, .inl (fun _ => 0))), (q5, .inl (cI, 50, .inl (fun _ => 0))), (q6, .inl (cI, 1024, .inl (fun _ => 0))), (q7, .inl (cI, 64, .inl (fun _ => 0))), (q8, .inl (cI, 64, .inl (fun _ => 0))), (q9, .inl (cI, 64, .inl (fun _ => 0))), (q10, .inl (cI, 120, .inl (fun _ => 0))), (q11, .inl (cI, 120, .inl (fun _ => 0))), (q12, .inl (cI, 120, .inl (fun _ => 0))), (q13, .inl (cI, 64, .inl (fun _ => 0))), (q14, .inl (cI, 64, .inl (fun _ => 0)))] := hD
  refine lv_aload_n hx hb dX9_init_119 rfl (lv_at hl 0 rfl) ?_
  refine lv_bipush (v := 64) hx hb dX9_init_120 (by decide) ?_
  refine va_newa (D := D) (cl := vwCl) (atype := .int) hx hb (hA _ aA_int) (ty := .int) rfl hK hP hD hS hAq (N' := 64) (a0 := (64, .inl (fun _ => 0))) (fun _ => rfl) (by decide) (by decide) (by decide) (Nat.le_of_ble_eq_true rfl) (Nat.le_of_ble_eq_true rfl) dX9_init_122 (fun q15 cA H hKn hP hD hS => ?_)
  obtain rfl := fx_cI hKn
  clear hKn
  have hP : va_P D vwCl [(h0, .inr (7, [.ref q1, .ref q2, .int 0, .ref q3, .int 0, .int 0, .int 0, .int 0, .int 0, .int 0, .ref q4, .ref q5, .int 0, .ref q6, .ref q7, .int 0, .ref q8, .ref q9, .ref q10, .ref q11, .ref q12, .ref q13, .ref q14, .null, .int 0, .int 0, .null, .null, .long 0])), (q1, .inl (cI, 1163, .inl (fun _ => 0))), (q2, .inl (cI, 6978, .inl (fun _ => 0))), (q3, .inl (cI, 100, .inl (fun _ => 0))), (q4, .inl (cI, 50, .inl (fun _ => 0))), (q5, .inl (cI, 50, .inl (fun _ => 0))), (q6, .inl (cI, 1024, .inl (fun _ => 0))), (q7, .inl (cI, 64, .inl (fun _ => 0))), (q8, .inl (cI, 64, .inl (fun _ => 0))), (q9, .inl (cI, 64, .inl (fun _ => 0))), (q10, .inl (cI, 120, .inl (fun _ => 0))), (q11, .inl (cI, 120, .inl (fun _ => 0))), (q12, .inl (cI, 120, .inl (fun _ => 0))), (q13, .inl (cI, 64, .inl (fun _ => 0))), (q14, .inl (cI, 64, .inl (fun _ => 0))), (q15, .inl (cI, 64, .inl (fun _ => 0)))] H := hP
  have hD : va_D A [(h0, .inr (7, [.ref q1, .ref q2, .int 0, .ref q3, .int 0, .int 0, .int 0, .int 0, .int 0, .int 0, .ref q4, .ref q5, .int 0, .ref q6, .ref q7, .int 0, .ref q8, .ref q9, .ref q10, .ref q11, .ref q12, .ref q13, .ref q14, .null, .int 0, .int 0, .null, .null, .long 0])), (q1, .inl (cI, 1163, .inl (fun _ => 0))), (q2, .inl (cI, 6978, .inl (fun _ => 0))), (q3, .inl (cI, 100, .inl (fun _ => 0))), (q4, .inl (cI, 50, .inl (fun _ => 0))), (q5, .inl (cI, 50, .inl (fun _ => 0))), (q6, .inl (cI, 1024, .inl (fun _ => 0))), (q7, .inl (cI, 64, .inl (fun _ => 0))), (q8, .inl (cI, 64, .inl (fun _ => 0))), (q9, .inl (cI, 64, .inl (fun _ => 0))), (q10, .inl (cI, 120, .inl (fun _ => 0))), (q11, .inl (cI, 120, .inl (fun _ => 0))), (q12, .inl (cI, 120, .inl (fun _ => 0))), (q13, .inl (cI, 64, .inl (fun _ => 0))), (q14, .inl (cI, 64, .inl (fun _ => 0))), (q15, .inl (cI, 64, .inl (fun _ => 0)))] := hD
  refine va_putF (D := D) (ci := 7) (v := .ref q15) (ty := (.array .int)) (C := RX9) (T := TX9) (N := 29) hx hb hA in_wsX90 tyX9 tyX9_ok nmX9 hown hK hP hD hS 0 rfl rfl 23 (by decide) (hA _ aF_RX9_52) (fun _ h9 => h9) rfl hin rfl (by decide +kernel) rfl rfl (Nat.le_of_ble_eq_true rfl) dX9_init_124 (fun H locs hP hD hS => ?_)
  have hP : va_P D vwCl [(h0, .inr (7, [.ref q1, .ref q2, .int 0, .ref q3, .int 0, .int 0, .int 0, .int 0, .int 0, .int 0, .ref q4, .ref q5, .int 0, .ref q6, .ref q7, .int 0, .ref q8, .ref q9, .ref q10, .ref q11, .ref q12, .ref q13, .ref q14, .ref q15, .int 0, .int 0, .null, .null, .long 0])), (q1, .inl (cI, 1163, .inl (fun _ => 0))), (q2, .inl (cI, 6978, .inl (fun _ => 0))), (q3, .inl (cI, 100, .inl (fun _ => 0))), (q4, .inl (cI, 50, .inl (fun _ => 0))), (q5, .inl (cI, 50, .inl (fun _ => 0))), (q6, .inl (cI, 1024, .inl (fun _ => 0))), (q7, .inl (cI, 64, .inl (fun _ => 0))), (q8, .inl (cI, 64, .inl (fun _ => 0))), (q9, .inl (cI, 64, .inl (fun _ => 0))), (q10, .inl (cI, 120, .inl (fun _ => 0))), (q11, .inl (cI, 120, .inl (fun _ => 0))), (q12, .inl (cI, 120, .inl (fun _ => 0))), (q13, .inl (cI, 64, .inl (fun _ => 0))), (q14, .inl (cI, 64, .inl (fun _ => 0))), (q15, .inl (cI, 64, .inl (fun _ => 0)))] H := hP
  have hD : va_D A [(h0, .inr (7, [.ref q1, .ref q2, .int 0, .ref q3, .int 0, .int 0, .int 0, .int 0, .int 0, .int 0, .ref q4, .ref q5, .int 0, .ref q6, .ref q7, .int 0, .ref q8, .ref q9, .ref q10, .ref q11, .ref q12, .ref q13, .ref q14, .ref q15, .int 0, .int 0, .null, .null, .long 0])), (q1, .inl (cI, 1163, .inl (fun _ => 0))), (q2, .inl (cI, 6978, .inl (fun _ => 0))), (q3, .inl (cI, 100, .inl (fun _ => 0))), (q4, .inl (cI, 50, .inl (fun _ => 0))), (q5, .inl (cI, 50, .inl (fun _ => 0))), (q6, .inl (cI, 1024, .inl (fun _ => 0))), (q7, .inl (cI, 64, .inl (fun _ => 0))), (q8, .inl (cI, 64, .inl (fun _ => 0))), (q9, .inl (cI, 64, .inl (fun _ => 0))), (q10, .inl (cI, 120, .inl (fun _ => 0))), (q11, .inl (cI, 120, .inl (fun _ => 0))), (q12, .inl (cI, 120, .inl (fun _ => 0))), (q13, .inl (cI, 64, .inl (fun _ => 0))), (q14, .inl (cI, 64, .inl (fun _ => 0))), (q15, .inl (cI, 64, .inl (fun _ => 0)))] := hD
  refine lv_aload_n hx hb dX9_init_127 rfl (lv_at hl 0 rfl) ?_
  refine lv_bipush (v := 50) hx hb dX9_init_128 (by decide) ?_
  refine va_newa (D := D) (cl := vwCl) (atype := .int) hx hb (hA _ aA_int) (ty := .int) rfl hK hP hD hS hAq (N' := 50) (a0 := (50, .inl (fun _ => 0))) (fun _ => rfl) (by decide) (by decide) (by decide) (Nat.le_of_ble_eq_true rfl) (Nat.le_of_ble_eq_true rfl) dX9_init_130 (fun q16 cA H hKn hP hD hS => ?_)
  obtain rfl := fx_cI hKn
  clear hKn
  have hP : va_P D vwCl [(h0, .inr (7, [.ref q1, .ref q2, .int 0, .ref q3, .int 0, .int 0, .int 0, .int 0, .int 0, .int 0, .ref q4, .ref q5, .int 0, .ref q6, .ref q7, .int 0, .ref q8, .ref q9, .ref q10, .ref q11, .ref q12, .ref q13, .ref q14, .ref q15, .int 0, .int 0, .null, .null, .long 0])), (q1, .inl (cI, 1163, .inl (fun _ => 0))), (q2, .inl (cI, 6978, .inl (fun _ => 0))), (q3, .inl (cI, 100, .inl (fun _ => 0))), (q4, .inl (cI, 50, .inl (fun _ => 0))), (q5, .inl (cI, 50, .inl (fun _ => 0))), (q6, .inl (cI, 1024, .inl (fun _ => 0))), (q7, .inl (cI, 64, .inl (fun _ => 0))), (q8, .inl (cI, 64, .inl (fun _ => 0))), (q9, .inl (cI, 64, .inl (fun _ => 0))), (q10, .inl (cI, 120, .inl (fun _ => 0))), (q11, .inl (cI, 120, .inl (fun _ => 0))), (q12, .inl (cI, 120, .inl (fun _ => 0))), (q13, .inl (cI, 64, .inl (fun _ => 0))), (q14, .inl (cI, 64, .inl (fun _ => 0))), (q15, .inl (cI, 64, .inl (fun _ => 0))), (q16, .inl (cI, 50, .inl (fun _ => 0)))] H := hP
  have hD : va_D A [(h0, .inr (7, [.ref q1, .ref q2, .int 0, .ref q3, .int 0, .int 0, .int 0, .int 0, .int 0, .int 0, .ref q4, .ref q5, .int 0, .ref q6, .ref q7, .int 0, .ref q8, .ref q9, .ref q10, .ref q11, .ref q12, .ref q13, .ref q14, .ref q15, .int 0, .int 0, .null, .null, .long 0])), (q1, .inl (cI, 1163, .inl (fun _ => 0))), (q2, .inl (cI, 6978, .inl (fun _ => 0))), (q3, .inl (cI, 100, .inl (fun _ => 0))), (q4, .inl (cI, 50, .inl (fun _ => 0))), (q5, .inl (cI, 50, .inl (fun _ => 0))), (q6, .inl (cI, 1024, .inl (fun _ => 0))), (q7, .inl (cI, 64, .inl (fun _ => 0))), (q8, .inl (cI, 64, .inl (fun _ => 0))), (q9, .inl (cI, 64, .inl (fun _ => 0))), (q10, .inl (cI, 120, .inl (fun _ => 0))), (q11, .inl (cI, 120, .inl (fun _ => 0))), (q12, .inl (cI, 120, .inl (fun _ => 0))), (q13, .inl (cI, 64, .inl (fun _ => 0))), (q14, .inl (cI, 64, .inl (fun _ => 0))), (q15, .inl (cI, 64, .inl (fun _ => 0))), (q16, .inl (cI, 50, .inl (fun _ => 0)))] := hD
  refine va_putF (D := D) (ci := 7) (v := .ref q16) (ty := (.array .int)) (C := RX9) (T := TX9) (N := 29) hx hb hA in_wsX90 tyX9 tyX9_ok nmX9 hown hK hP hD hS 0 rfl rfl 26 (by decide) (hA _ aF_RX9_55) (fun _ h9 => h9) rfl hin rfl (by decide +kernel) rfl rfl (Nat.le_of_ble_eq_true rfl) dX9_init_132 (fun H locs hP hD hS => ?_)
  have hP : va_P D vwCl [(h0, .inr (7, [.ref q1, .ref q2, .int 0, .ref q3, .int 0, .int 0, .int 0, .int 0, .int 0, .int 0, .ref q4, .ref q5, .int 0, .ref q6, .ref q7, .int 0, .ref q8, .ref q9, .ref q10, .ref q11, .ref q12, .ref q13, .ref q14, .ref q15, .int 0, .int 0, .ref q16, .null, .long 0])), (q1, .inl (cI, 1163, .inl (fun _ => 0))), (q2, .inl (cI, 6978, .inl (fun _ => 0))), (q3, .inl (cI, 100, .inl (fun _ => 0))), (q4, .inl (cI, 50, .inl (fun _ => 0))), (q5, .inl (cI, 50, .inl (fun _ => 0))), (q6, .inl (cI, 1024, .inl (fun _ => 0))), (q7, .inl (cI, 64, .inl (fun _ => 0))), (q8, .inl (cI, 64, .inl (fun _ => 0))), (q9, .inl (cI, 64, .inl (fun _ => 0))), (q10, .inl (cI, 120, .inl (fun _ => 0))), (q11, .inl (cI, 120, .inl (fun _ => 0))), (q12, .inl (cI, 120, .inl (fun _ => 0))), (q13, .inl (cI, 64, .inl (fun _ => 0))), (q14, .inl (cI, 64, .inl (fun _ => 0))), (q15, .inl (cI, 64, .inl (fun _ => 0))), (q16, .inl (cI, 50, .inl (fun _ => 0)))] H := hP
  have hD : va_D A [(h0, .inr (7, [.ref q1, .ref q2, .int 0, .ref q3, .int 0, .int 0, .int 0, .int 0, .int 0, .int 0, .ref q4, .ref q5, .int 0, .ref q6, .ref q7, .int 0, .ref q8, .ref q9, .ref q10, .ref q11, .ref q12, .ref q13, .ref q14, .ref q15, .int 0, .int 0, .ref q16, .null, .long 0])), (q1, .inl (cI, 1163, .inl (fun _ => 0))), (q2, .inl (cI, 6978, .inl (fun _ => 0))), (q3, .inl (cI, 100, .inl (fun _ => 0))), (q4, .inl (cI, 50, .inl (fun _ => 0))), (q5, .inl (cI, 50, .inl (fun _ => 0))), (q6, .inl (cI, 1024, .inl (fun _ => 0))), (q7, .inl (cI, 64, .inl (fun _ => 0))), (q8, .inl (cI, 64, .inl (fun _ => 0))), (q9, .inl (cI, 64, .inl (fun _ => 0))), (q10, .inl (cI, 120, .inl (fun _ => 0))), (q11, .inl (cI, 120, .inl (fun _ => 0))), (q12, .inl (cI, 120, .inl (fun _ => 0))), (q13, .inl (cI, 64, .inl (fun _ => 0))), (q14, .inl (cI, 64, .inl (fun _ => 0))), (q15, .inl (cI, 64, .inl (fun _ => 0))), (q16, .inl (cI, 50, .inl (fun _ => 0)))] := hD
  refine lv_aload_n hx hb dX9_init_135 rfl (lv_at hl 0 rfl) ?_
  refine lv_bipush (v := 50) hx hb dX9_init_136 (by decide) ?_
  refine va_newa (D := D) (cl := vwCl) (atype := .int) hx hb (hA _ aA_int) (ty := .int) rfl hK hP hD hS hAq (N' := 50) (a0 := (50, .inl (fun _ => 0))) (fun _ => rfl) (by decide) (by decide) (by decide) (Nat.le_of_ble_eq_true rfl) (Nat.le_of_ble_eq_true rfl) dX9_init_138 (fun q17 cA H hKn hP hD hS => ?_)
  obtain rfl := fx_cI hKn
  clear hKn
  have hP : va_P D vwCl [(h0, .inr (7, [.ref q1, .ref q2, .int 0, .ref q3, .int 0, .int 0, .int 0, .int 0, .int 0, .int 0, .ref q4, .ref q5, .int 0, .ref q6, .ref q7, .int 0, .ref q8, .ref q9, .ref q10, .ref q11, .ref q12, .ref q13, .ref q14, .ref q15, .int 0, .int 0, .ref q16, .null, .long 0])), (q1, .inl (cI, 1163, .inl (fun _ => 0))), (q2, .inl (cI, 6978, .inl (fun _ => 0))), (q3, .inl (cI, 100, .inl (fun _ => 0))), (q4, .inl (cI, 50, .inl (fun _ => 0))), (q5, .inl (cI, 50, .inl (fun _ => 0))), (q6, .inl (cI, 1024, .inl (fun _ => 0))), (q7, .inl (cI, 64, .inl (fun _ => 0))), (q8, .inl (cI, 64, .inl (fun _ => 0))), (q9, .inl (cI, 64, .inl (fun _ => 0))), (q10, .inl (cI, 120, .inl (fun _ => 0))), (q11, .inl (cI, 120, .inl (fun _ => 0))), (q12, .inl (cI, 120, .inl (fun _ => 0))), (q13, .inl (cI, 64, .inl (fun _ => 0))), (q14, .inl (cI, 64, .inl (fun _ => 0))), (q15, .inl (cI, 64, .inl (fun _ => 0))), (q16, .inl (cI, 50, .inl (fun _ => 0))), (q17, .inl (cI, 50, .inl (fun _ => 0)))] H := hP
  have hD : va_D A [(h0, .inr (7, [.ref q1, .ref q2, .int 0, .ref q3, .int 0, .int 0, .int 0, .int 0, .int 0, .int 0, .ref q4, .ref q5, .int 0, .ref q6, .ref q7, .int 0, .ref q8, .ref q9, .ref q10, .ref q11, .ref q12, .ref q13, .ref q14, .ref q15, .int 0, .int 0, .ref q16, .null, .long 0])), (q1, .inl (cI, 1163, .inl (fun _ => 0))), (q2, .inl (cI, 6978, .inl (fun _ => 0))), (q3, .inl (cI, 100, .inl (fun _ => 0))), (q4, .inl (cI, 50, .inl (fun _ => 0))), (q5, .inl (cI, 50, .inl (fun _ => 0))), (q6, .inl (cI, 1024, .inl (fun _ => 0))), (q7, .inl (cI, 64, .inl (fun _ => 0))), (q8, .inl (cI, 64, .inl (fun _ => 0))), (q9, .inl (cI, 64, .inl (fun _ => 0))), (q10, .inl (cI, 120, .inl (fun _ => 0))), (q11, .inl (cI, 120, .inl (fun _ => 0))), (q12, .inl (cI, 120, .inl (fun _ => 0))), (q13, .inl (cI, 64, .inl (fun _ => 0))), (q14, .inl (cI, 64, .inl (fun _ => 0))), (q15, .inl (cI, 64, .inl (fun _ => 0))), (q16, .inl (cI, 50, .inl (fun _ => 0))), (q17, .inl (cI, 50, .inl (fun _ => 0)))] := hD
  refine va_putF (D := D) (ci := 7) (v := .ref q17) (ty := (.array .int)) (C := RX9) (T := TX9) (N := 29) hx hb hA in_wsX90 tyX9 tyX9_ok nmX9 hown hK hP hD hS 0 rfl rfl 27 (by decide) (hA _ aF_RX9_58) (fun _ h9 => h9) rfl hin rfl (by decide +kernel) rfl rfl (Nat.le_of_ble_eq_true rfl) dX9_init_140 (fun H locs hP hD hS => ?_)
  have hP : va_P D vwCl [(h0, .inr (7, [.ref q1, .ref q2, .int 0, .ref q3, .int 0, .int 0, .int 0, .int 0, .int 0, .int 0, .ref q4, .ref q5, .int 0, .ref q6, .ref q7, .int 0, .ref q8, .ref q9, .ref q10, .ref q11, .ref q12, .ref q13, .ref q14, .ref q15, .int 0, .int 0, .ref q16, .ref q17, .long 0])), (q1, .inl (cI, 1163, .inl (fun _ => 0))), (q2, .inl (cI, 6978, .inl (fun _ => 0))), (q3, .inl (cI, 100, .inl (fun _ => 0))), (q4, .inl (cI, 50, .inl (fun _ => 0))), (q5, .inl (cI, 50, .inl (fun _ => 0))), (q6, .inl (cI, 1024, .inl (fun _ => 0))), (q7, .inl (cI, 64, .inl (fun _ => 0))), (q8, .inl (cI, 64, .inl (fun _ => 0))), (q9, .inl (cI, 64, .inl (fun _ => 0))), (q10, .inl (cI, 120, .inl (fun _ => 0))), (q11, .inl (cI, 120, .inl (fun _ => 0))), (q12, .inl (cI, 120, .inl (fun _ => 0))), (q13, .inl (cI, 64, .inl (fun _ => 0))), (q14, .inl (cI, 64, .inl (fun _ => 0))), (q15, .inl (cI, 64, .inl (fun _ => 0))), (q16, .inl (cI, 50, .inl (fun _ => 0))), (q17, .inl (cI, 50, .inl (fun _ => 0)))] H := hP
  have hD : va_D A [(h0, .inr (7, [.ref q1, .ref q2, .int 0, .ref q3, .int 0, .int 0, .int 0, .int 0, .int 0, .int 0, .ref q4, .ref q5, .int 0, .ref q6, .ref q7, .int 0, .ref q8, .ref q9, .ref q10, .ref q11, .ref q12, .ref q13, .ref q14, .ref q15, .int 0, .int 0, .ref q16, .ref q17, .long 0])), (q1, .inl (cI, 1163, .inl (fun _ => 0))), (q2, .inl (cI, 6978, .inl (fun _ => 0))), (q3, .inl (cI, 100, .inl (fun _ => 0))), (q4, .inl (cI, 50, .inl (fun _ => 0))), (q5, .inl (cI, 50, .inl (fun _ => 0))), (q6, .inl (cI, 1024, .inl (fun _ => 0))), (q7, .inl (cI, 64, .inl (fun _ => 0))), (q8, .inl (cI, 64, .inl (fun _ => 0))), (q9, .inl (cI, 64, .inl (fun _ => 0))), (q10, .inl (cI, 120, .inl (fun _ => 0))), (q11, .inl (cI, 120, .inl (fun _ => 0))), (q12, .inl (cI, 120, .inl (fun _ => 0))), (q13, .inl (cI, 64, .inl (fun _ => 0))), (q14, .inl (cI, 64, .inl (fun _ => 0))), (q15, .inl (cI, 64, .inl (fun _ => 0))), (q16, .inl (cI, 50, .inl (fun _ => 0))), (q17, .inl (cI, 50, .inl (fun _ => 0)))] := hD
  obtain ⟨a, ha⟩ : ∃ a : Nat → Nat, a = aF18 h0 q1 q2 q3 q4 q5 q6 q7 q8 q9 q10 q11 q12 q13 q14 q15 q16 q17 := ⟨_, rfl⟩
  have ea : a 0 = h0 := by rw [ha]; rfl
  have hP : va_P D vwCl (mbW cI a fM0 0) H := by rw [ha]; exact hP
  have hDA : ∀ (φ : M2) (hv : Int64), va_D A (mbW cI a φ hv) := fun φ hv => fm_D (ws := mbW cI a fM0 0) rfl (by rw [ha]; exact hD)
  have hDT : ∀ (φ : M2) (hv : Int64), va_D (fun _ => True) (mbW cI a φ hv) := fun φ hv => (hDA φ hv).weaken (fun _ _ _ _ => trivial)
  have hl : lv_has ls 1 [(0, .ref (a 0))] := by rw [ea]; exact hl
  refine lv_aload_n hx hb dX9_init_143 rfl (lv_at hl 0 rfl) ?_
  refine M_g0_0 hx hb hA hown aF_RX9_7 hK hP dX9_init_144 ?_
  refine lv_iconst (v := 0) hx hb dX9_init_147 (by decide) ?_
  refine lv_iconst (v := 2) hx hb dX9_init_148 (by decide) ?_
  refine M_st1 hx hb hK hP (hDA _ _) hS (by unfold vp_in; decide) dX9_init_149 (fun w8 H locs ew8 hP hS => ?_)
  replace ew8 : w8 = (upd2 fM0 1 0 2) := ew8
  subst ew8
  refine lv_aload_n hx hb dX9_init_150 rfl (lv_at hl 0 rfl) ?_
  refine M_g0_0 hx hb hA hown aF_RX9_7 hK hP dX9_init_151 ?_
  refine lv_iconst (v := 1) hx hb dX9_init_154 (by decide) ?_
  refine lv_iconst (v := 2) hx hb dX9_init_155 (by decide) ?_
  refine M_st1 hx hb hK hP (hDA _ _) hS (by unfold vp_in; decide) dX9_init_156 (fun w8 H locs ew8 hP hS => ?_)
  replace ew8 : w8 = (upd2 (upd2 fM0 1 0 2) 1 1 2) := ew8
  subst ew8
  refine lv_aload_n hx hb dX9_init_157 rfl (lv_at hl 0 rfl) ?_
  refine M_g0_0 hx hb hA hown aF_RX9_7 hK hP dX9_init_158 ?_
  refine lv_iconst (v := 2) hx hb dX9_init_161 (by decide) ?_
  refine lv_iconst (v := 5) hx hb dX9_init_162 (by decide) ?_
  refine M_st1 hx hb hK hP (hDA _ _) hS (by unfold vp_in; decide) dX9_init_163 (fun w8 H locs ew8 hP hS => ?_)
  replace ew8 : w8 = (upd2 (upd2 (upd2 fM0 1 0 2) 1 1 2) 1 2 5) := ew8
  subst ew8
  refine lv_aload_n hx hb dX9_init_164 rfl (lv_at hl 0 rfl) ?_
  refine M_g0_0 hx hb hA hown aF_RX9_7 hK hP dX9_init_165 ?_
  refine lv_iconst (v := 4) hx hb dX9_init_168 (by decide) ?_
  refine lv_bipush (v := 10) hx hb dX9_init_169 (by decide) ?_
  refine M_st1 hx hb hK hP (hDA _ _) hS (by unfold vp_in; decide) dX9_init_171 (fun w8 H locs ew8 hP hS => ?_)
  replace ew8 : w8 = (upd2 (upd2 (upd2 (upd2 fM0 1 0 2) 1 1 2) 1 2 5) 1 4 10) := ew8
  subst ew8
  refine lv_aload_n hx hb dX9_init_172 rfl (lv_at hl 0 rfl) ?_
  refine fx_runVv (n := 0) (C := RX9) (As := []) (rest := []) S (c_X9_empties l D cI a N fM1 0 φr hF) (M_pre (q0 := 0) (ci := 7) hK hP (hDT _ _) rfl rfl) hS (fun q hq => fm_aA (hDA fM0 0) q hq) aM_RX9_61 aI_X9_empties aV_X9_empties aN_RX9 aC_X9_empties rfl rfl (by decide +kernel) rfl ⟨Nat.le_of_ble_eq_true rfl, Nat.le_of_ble_eq_true rfl⟩ ⟨Nat.le_of_ble_eq_true rfl, Nat.le_of_ble_eq_true rfl⟩ hl.1 (Nat.le_of_ble_eq_true rfl) dX9_init_173 (fun _ t H1 locs1 ht _ hB hk hz hS1 => ?_)
  rw [ht] at hB
  exact W.vret hx hb hr (fun t ht hW => ⟨⟨(), rfl, trivial, a, ea, by rw [ht]; exact hB, hDA _ _⟩, hS1.F ht⟩) hS1.2.2 dX9_init_176
theorem fx_arr {cI : ClassId} {N : Nat} {f g : Nat → Value} (h : ∀ j, j < N → f j = g j) : arrV cI N f = arrV cI N g := by
  unfold arrV
  congr 1
  apply Array.ext
  · simp
  · intro i h1 h2
    simp at h1
    simp [h i h1]
def fRow (a2 a3 a4 a5 : Nat → Nat) : Nat → Option Nat := va_up (va_up (va_up (va_up (fun _ => none) 0 (some (a2 0))) 1 (some (a3 0))) 2 (some (a4 0))) 3 (some (a5 0))
def fT0 : M2 := fun _ _ => 0
def bF8 (x0 x1 x2 x3 x4 x5 x6 x7 : Nat → Nat) : Bf := fun j => match j with | 0 => x0 | 1 => x1 | 2 => x2 | 3 => x3 | 4 => x4 | 5 => x5 | 6 => x6 | _ => x7
theorem fRow_eq {cF : ClassId} {x0 x1 x6 x7 a2 a3 a4 a5 : Nat → Nat} : vp_cell cF (4, .inr (.inr (.inr (.inr (fRow a2 a3 a4 a5))))) = vp_cell cF (4, .inr (.inr (.inr (.inr (fun j => some (bF8 x0 x1 a2 a3 a4 a5 x6 x7 (j + 2) 0)))))) := by
  rw [vp_cell_q, vp_cell_q]
  refine fx_arr fun j hj => ?_
  rcases (show j = 0 ∨ j = 1 ∨ j = 2 ∨ j = 3 by omega) with rfl | rfl | rfl | rfl <;> rfl
set_option maxHeartbeats 4000000 in
set_option maxRecDepth 100000 in
theorem c_X3_init (l : Launch) (D : va_G) (cI : ClassId) (h0 sz : Nat) : Met l yX3_init (wsA yX3_init cX3_init 2 none) { frames := 3, cells := 45, slots := 2508, locals := 53 } (va_Pc [.ref h0] (fun U => U.heap.size = sz ∧ va_P D vwCl [(h0, .inr (1, [.null, .int 0]))] U.heap ∧ va_K D vwCl [(cI, .int)] U ∧ va_D (fun _ => True) [(h0, .inr (1, [.null, .int 0]))] ∧ fx_N8 U)) (va_Qv (fun (_ : Unit) => True) (fun _ t => ∃ (cF : ClassId) (q1 : Nat) (a2 a3 a4 a5 : Nat → Nat), va_P D vwCl ([(h0, .inr (1, [.ref q1, .int 0])), (q1, .inl (cF, 4, .inr (.inr (.inr (.inr (fRow a2 a3 a4 a5))))))] ++ (fbW cI a2 fFI ++ (fbW cI a3 fFI ++ (fbW cI a4 fFI ++ (fbW cI a5 fFI))))) t.heap ∧ va_K D vwCl (xTy cI cF) t ∧ va_D (va_A [(h0, .inr (1, [.null, .int 0]))] sz) ([(h0, .inr (1, [.ref q1, .int 0])), (q1, .inl (cF, 4, .inr (.inr (.inr (.inr (fRow a2 a3 a4 a5))))))] ++ (fbW cI a2 fFI ++ (fbW cI a3 fFI ++ (fbW cI a4 fFI ++ (fbW cI a5 fFI)))))) (va_A [(h0, .inr (1, [.null, .int 0]))] sz)) 45 2508 (va_A [(h0, .inr (1, [.null, .int 0]))] sz) := by
  refine Met.ofW (cc := cX3_init) (maxL := 2) (ret := none) (by decide) rfl ?_
  intro p e s m args below meth c s₁ B hml hv
  obtain ⟨rfl, hsz, hP, hK, hD0, hN⟩ := hv
  have hx := B.exec
  have hb := B.bytes
  have hr := B.returns
  have hA : ∀ w ∈ AW, w.before _ s = true := fun w h => atoms_spec (ws := wsA yX3_init cX3_init 2 none) B.pre w (List.mem_cons_of_mem _ h)
  have hown : s.vm.findClass RX3 = some m.cls := findClass_of_methodNamed B.named
  have hlocks := B.notSynchronized
  have hin : meth.name = "<init>" := (name_of_methodNamed B.named B.method).1
  have S : CallFix p m c cX3_init 2 s ([.ref h0] : List Value).toArray AW RX3 := ⟨hx, hb, hml, hown, hA⟩
  subst hsz
  have hD := hD0.self (sz := s.heap.size)
  generalize hAe : va_A [(h0, .inr (1, [.null, .int 0]))] s.heap.size = A at hD ⊢
  have hAq : ∀ q : Nat, s.heap.size ≤ q → A q := fun q h => by rw [← hAe]; exact Or.inr h
  have hS : va_S A s.heap s.heap [] := va_S.rf
  have hP : va_P D vwCl [(h0, .inr (1, [.null, .int 0]))] s.heap := hP
  have hl := lv_entry ([.ref h0]) (n := 2) (Nat.le_of_ble_eq_true rfl)
  rw [lg_entry_eq]
  generalize (lg_sl ([.ref h0]) ++ List.replicate (2 - (lg_sl ([.ref h0])).length) Slot.unset).toArray = ls at hl ⊢
  have hl : lv_has ls 2 [(0, .ref h0)] := hl
  refine lv_aload_n hx hb dX3_init_0 rfl (lv_at hl 0 rfl) ?_
  refine W.objInit hx hb hown (hA _ aM_RX3_3) (hA _ aI_objectInit) (hA _ aC_objectInit) rfl (by rw [hml]; exact hl.1) rfl dX3_init_1 (Nat.le_of_ble_eq_true rfl) (Nat.le_of_ble_eq_true rfl) ?_
  refine W.eq (g2 := F0 m 4 ls []) rfl ?_
  refine lv_aload_n hx hb dX3_init_4 rfl (lv_at hl 0 rfl) ?_
  refine lv_iconst (v := 4) hx hb dX3_init_5 (by decide) ?_
  refine va_newq (D := D) (cl := vwCl) hx hb hown (hA _ aL_RX3_9) hN.2.2 hK hP hD hS hAq (N' := 4) (by decide) (by decide) (by decide) (Nat.le_of_ble_eq_true rfl) (Nat.le_of_ble_eq_true rfl) dX3_init_6 (fun q1 cF H hKn hP hD hS => ?_)
  have hK2 : va_K D vwCl (xTy cI cF) s := hKn
  have hP : va_P D vwCl [(h0, .inr (1, [.null, .int 0])), (q1, .inl (cF, 4, .inr (.inr (.inr (.inr (fun _ => none))))))] H := hP
  have hD : va_D A [(h0, .inr (1, [.null, .int 0])), (q1, .inl (cF, 4, .inr (.inr (.inr (.inr (fun _ => none))))))] := hD
  refine va_putF (D := D) (ci := 1) (v := .ref q1) (ty := (.array (.object "CuckooAudit$Filter"))) (C := RX3) (T := TX3) (N := 2) hx hb hA in_wsX30 tyX3 tyX3_ok nmX3 hown hK hP hD hS 0 rfl rfl 0 (by decide) (hA _ aF_RX3_11) (fun _ h9 => h9) rfl hin rfl (by decide +kernel) rfl rfl (Nat.le_of_ble_eq_true rfl) dX3_init_9 (fun H locs hP hD hS => ?_)
  have hP : va_P D vwCl ([(h0, .inr (1, [.ref q1, .int 0])), (q1, .inl (cF, 4, .inr (.inr (.inr (.inr (fun _ => none))))))]) H := hP
  have hD : va_D A ([(h0, .inr (1, [.ref q1, .int 0])), (q1, .inl (cF, 4, .inr (.inr (.inr (.inr (fun _ => none))))))]) := hD
  refine lv_iconst (v := 0) hx hb dX3_init_12 (by decide) ?_
  refine lv_istore_n (lv' := [(1, .int 0), (0, .ref h0)]) hx hb dX3_init_13 rfl hl (by decide) rfl (fun ls hl => ?_)
  refine lv_iload_n hx hb dX3_init_14 rfl (lv_at hl 0 rfl) ?_
  refine lv_aload_n hx hb dX3_init_15 rfl (lv_at hl 1 rfl) ?_
  refine va_get (D := D) (ci := 1) (v := .ref q1) (C := RX3) (T := TX3) (N := 2) hx hb hA in_wsX30 hown hK hP 0 rfl rfl 0 (by decide) (hA _ aF_RX3_11) (fun _ h => h) rfl dX3_init_16 ?_
  refine va_alen hx hb hK2 hP 1 1 rfl rfl (show Int32.ofNat 4 = 4 by decide) dX3_init_19 ?_
  refine lv_icmp_ge (tgt := 42) hx hb dX3_init_20 (by decide) (fun hc => absurd hc (by decide)) (fun _ => ?_)
  refine lv_aload_n hx hb dX3_init_23 rfl (lv_at hl 1 rfl) ?_
  refine va_get (D := D) (ci := 1) (v := .ref q1) (C := RX3) (T := TX3) (N := 2) hx hb hA in_wsX30 hown hK hP 0 rfl rfl 0 (by decide) (hA _ aF_RX3_11) (fun _ h => h) rfl dX3_init_24 ?_
  refine lv_iload_n hx hb dX3_init_27 rfl (lv_at hl 0 rfl) ?_
  refine va_new (ci := 0) (fs := [.int 0, .int 0, .int 0, .int 0, .int 0, .null, .null, .int 0, .null, .null, .null]) (C := RX2) (T := TX2) (N := 11) hx hb hA in_wsX20 tyX2 tyX2_ok hown (hA _ aL_RX3_9) (hA _ aT_RX2) (hA _ aN_RX2) hK hP hD hS hAq rfl (by decide +kernel) (Nat.le_of_ble_eq_true rfl) (Nat.le_of_ble_eq_true rfl) dX3_init_28 (fun qn H hP hD hS => ?_)
  have hP : va_P D vwCl (([(h0, .inr (1, [.ref q1, .int 0])), (q1, .inl (cF, 4, .inr (.inr (.inr (.inr (fun _ => none))))))]) ++ [(qn, .inr (0, [.int 0, .int 0, .int 0, .int 0, .int 0, .null, .null, .int 0, .null, .null, .null]))]) H := hP
  have hD : va_D A (([(h0, .inr (1, [.ref q1, .int 0])), (q1, .inl (cF, 4, .inr (.inr (.inr (.inr (fun _ => none))))))]) ++ [(qn, .inr (0, [.int 0, .int 0, .int 0, .int 0, .int 0, .null, .null, .int 0, .null, .null, .null]))]) := hD
  refine lv_dup hx hb dX3_init_31 rfl ?_
  have hFc := va_free (wc := [(qn, .inr (0, [.int 0, .int 0, .int 0, .int 0, .int 0, .null, .null, .int 0, .null, .null, .null]))]) hD hS hAq [2] rfl
  have hPc := hP.sub (ws' := [(qn, .inr (0, [.int 0, .int 0, .int 0, .int 0, .int 0, .null, .null, .int 0, .null, .null, .null]))]) [2] rfl
  have hDc := hD.sub (ws' := [(qn, .inr (0, [.int 0, .int 0, .int 0, .int 0, .int 0, .null, .null, .int 0, .null, .null, .null]))]) [2] (by decide) rfl
  refine va_callv (va_runI (As := []) (rest := [.ref qn, .int 0, .ref q1]) S (c_X2_init l D cI qn H.size) (cwI 0 hA (gI aC_X2_init) rfl rfl rfl (hA _ aN_RX2) (hA _ aM_RX3_17) (hA _ aI_X2_init) rfl (by decide +kernel) ⟨Nat.le_of_ble_eq_true rfl, Nat.le_of_ble_eq_true rfl⟩) ⟨fun a U g mk q => by obtain ⟨q0, q1, qP, qK, qD, qN⟩ := q; exact ⟨q0, q1, qP, va_K.moved (u := U) (U := U.calling g mk a) (Vm.Alike.refl U.vm) qK, qD, (fx_N.same (u := U) (U := U.calling g mk a) rfl qN)⟩, fun U hU hW => ⟨rfl, by rw [hU], by rw [hU]; exact hPc, va_K.moved hW.alike hK, hDc.weaken (fun _ _ _ _ => trivial), (fx_N.warm hW hN.1)⟩⟩ rfl rfl hl.1 rfl (lv_room (Nat.le_of_ble_eq_true rfl)) dX3_init_32 ⟨Nat.le_of_ble_eq_true rfl, Nat.le_of_ble_eq_true rfl⟩) hS (fun q _ h => hFc q h) hFc (fun u t H1 locs ht hvm _ hB hz1 hk1 hS => ?_)
  obtain ⟨a2, rfl, hP1, hD1⟩ := hB
  rw [ht] at hP1
  obtain ⟨hP, hD⟩ := va_join (wr := [(h0, .inr (1, [.ref q1, .int 0])), (q1, .inl (cF, 4, .inr (.inr (.inr (.inr (fun _ => none))))))]) (w1 := fbW cI a2 fFI) hP hD [2] [0, 1] rfl rfl (by decide) (by decide) hk1 hFc hP1 hD1
  generalize H1 = H at hP hS ⊢
  have hP : va_P D vwCl ([(h0, .inr (1, [.ref q1, .int 0])), (q1, .inl (cF, 4, .inr (.inr (.inr (.inr (fun _ => none))))))] ++ (fbW cI a2 fFI)) H := hP
  have hD : va_D A ([(h0, .inr (1, [.ref q1, .int 0])), (q1, .inl (cF, 4, .inr (.inr (.inr (.inr (fun _ => none))))))] ++ (fbW cI a2 fFI)) := hD
  clear hP1 hD1 hk1 hFc hPc hDc hz1
  refine va_astq (D := D) (cl := vwCl) (i := 0) hx hb hK2 hP hD hS 1 1 2 0 rfl rfl rfl rfl (by unfold vp_in; decide) dX3_init_35 (fun H locs hP hD hS => ?_)
  have hP : va_P D vwCl ([(h0, .inr (1, [.ref q1, .int 0])), (q1, .inl (cF, 4, .inr (.inr (.inr (.inr (va_up (fun _ => none) 0 (some (a2 0))))))))] ++ (fbW cI a2 fFI)) H := hP
  have hD : va_D A ([(h0, .inr (1, [.ref q1, .int 0])), (q1, .inl (cF, 4, .inr (.inr (.inr (.inr (va_up (fun _ => none) 0 (some (a2 0))))))))] ++ (fbW cI a2 fFI)) := hD
  refine lv_iinc (v := 1) (lv' := [(1, .int 1), (0, .ref h0)]) hx hb dX3_init_36 hl (k := 0) rfl (by decide) (by decide) rfl (fun ls hl => ?_)
  refine lv_goto (tgt := 14) hx hb dX3_init_39 (by decide) ?_
  refine lv_iload_n hx hb dX3_init_14 rfl (lv_at hl 0 rfl) ?_
  refine lv_aload_n hx hb dX3_init_15 rfl (lv_at hl 1 rfl) ?_
  refine va_get (D := D) (ci := 1) (v := .ref q1) (C := RX3) (T := TX3) (N := 2) hx hb hA in_wsX30 hown hK hP 0 rfl rfl 0 (by decide) (hA _ aF_RX3_11) (fun _ h => h) rfl dX3_init_16 ?_
  refine va_alen hx hb hK2 hP 1 1 rfl rfl (show Int32.ofNat 4 = 4 by decide) dX3_init_19 ?_
  refine lv_icmp_ge (tgt := 42) hx hb dX3_init_20 (by decide) (fun hc => absurd hc (by decide)) (fun _ => ?_)
  refine lv_aload_n hx hb dX3_init_23 rfl (lv_at hl 1 rfl) ?_
  refine va_get (D := D) (ci := 1) (v := .ref q1) (C := RX3) (T := TX3) (N := 2) hx hb hA in_wsX30 hown hK hP 0 rfl rfl 0 (by decide) (hA _ aF_RX3_11) (fun _ h => h) rfl dX3_init_24 ?_
  refine lv_iload_n hx hb dX3_init_27 rfl (lv_at hl 0 rfl) ?_
  refine va_new (ci := 0) (fs := [.int 0, .int 0, .int 0, .int 0, .int 0, .null, .null, .int 0, .null, .null, .null]) (C := RX2) (T := TX2) (N := 11) hx hb hA in_wsX20 tyX2 tyX2_ok hown (hA _ aL_RX3_9) (hA _ aT_RX2) (hA _ aN_RX2) hK hP hD hS hAq rfl (by decide +kernel) (Nat.le_of_ble_eq_true rfl) (Nat.le_of_ble_eq_true rfl) dX3_init_28 (fun qn H hP hD hS => ?_)
  have hP : va_P D vwCl (([(h0, .inr (1, [.ref q1, .int 0])), (q1, .inl (cF, 4, .inr (.inr (.inr (.inr (va_up (fun _ => none) 0 (some (a2 0))))))))] ++ (fbW cI a2 fFI)) ++ [(qn, .inr (0, [.int 0, .int 0, .int 0, .int 0, .int 0, .null, .null, .int 0, .null, .null, .null]))]) H := hP
  have hD : va_D A (([(h0, .inr (1, [.ref q1, .int 0])), (q1, .inl (cF, 4, .inr (.inr (.inr (.inr (va_up (fun _ => none) 0 (some (a2 0))))))))] ++ (fbW cI a2 fFI)) ++ [(qn, .inr (0, [.int 0, .int 0, .int 0, .int 0, .int 0, .null, .null, .int 0, .null, .null, .null]))]) := hD
  refine lv_dup hx hb dX3_init_31 rfl ?_
  have hFc := va_free (wc := [(qn, .inr (0, [.int 0, .int 0, .int 0, .int 0, .int 0, .null, .null, .int 0, .null, .null, .null]))]) hD hS hAq [13] rfl
  have hPc := hP.sub (ws' := [(qn, .inr (0, [.int 0, .int 0, .int 0, .int 0, .int 0, .null, .null, .int 0, .null, .null, .null]))]) [13] rfl
  have hDc := hD.sub (ws' := [(qn, .inr (0, [.int 0, .int 0, .int 0, .int 0, .int 0, .null, .null, .int 0, .null, .null, .null]))]) [13] (by decide) rfl
  refine va_callv (va_runI (As := []) (rest := [.ref qn, .int 1, .ref q1]) S (c_X2_init l D cI qn H.size) (cwI 0 hA (gI aC_X2_init) rfl rfl rfl (hA _ aN_RX2) (hA _ aM_RX3_17) (hA _ aI_X2_init) rfl (by decide +kernel) ⟨Nat.le_of_ble_eq_true rfl, Nat.le_of_ble_eq_true rfl⟩) ⟨fun a U g mk q => by obtain ⟨q0, q1, qP, qK, qD, qN⟩ := q; exact ⟨q0, q1, qP, va_K.moved (u := U) (U := U.calling g mk a) (Vm.Alike.refl U.vm) qK, qD, (fx_N.same (u := U) (U := U.calling g mk a) rfl qN)⟩, fun U hU hW => ⟨rfl, by rw [hU], by rw [hU]; exact hPc, va_K.moved hW.alike hK, hDc.weaken (fun _ _ _ _ => trivial), (fx_N.warm hW hN.1)⟩⟩ rfl rfl hl.1 rfl (lv_room (Nat.le_of_ble_eq_true rfl)) dX3_init_32 ⟨Nat.le_of_ble_eq_true rfl, Nat.le_of_ble_eq_true rfl⟩) hS (fun q _ h => hFc q h) hFc (fun u t H1 locs ht hvm _ hB hz1 hk1 hS => ?_)
  obtain ⟨a3, rfl, hP1, hD1⟩ := hB
  rw [ht] at hP1
  obtain ⟨hP, hD⟩ := va_join (wr := [(h0, .inr (1, [.ref q1, .int 0])), (q1, .inl (cF, 4, .inr (.inr (.inr (.inr (va_up (fun _ => none) 0 (some (a2 0))))))))] ++ (fbW cI a2 fFI)) (w1 := fbW cI a3 fFI) hP hD [13] [0, 1, 2, 3, 4, 5, 6, 7, 8, 9, 10, 11, 12] rfl rfl (by decide) (by decide) hk1 hFc hP1 hD1
  generalize H1 = H at hP hS ⊢
  have hP : va_P D vwCl ([(h0, .inr (1, [.ref q1, .int 0])), (q1, .inl (cF, 4, .inr (.inr (.inr (.inr (va_up (fun _ => none) 0 (some (a2 0))))))))] ++ (fbW cI a2 fFI ++ (fbW cI a3 fFI))) H := hP
  have hD : va_D A ([(h0, .inr (1, [.ref q1, .int 0])), (q1, .inl (cF, 4, .inr (.inr (.inr (.inr (va_up (fun _ => none) 0 (some (a2 0))))))))] ++ (fbW cI a2 fFI ++ (fbW cI a3 fFI))) := hD
  clear hP1 hD1 hk1 hFc hPc hDc hz1
  refine va_astq (D := D) (cl := vwCl) (i := 1) hx hb hK2 hP hD hS 1 1 13 0 rfl rfl rfl rfl (by unfold vp_in; decide) dX3_init_35 (fun H locs hP hD hS => ?_)
  have hP : va_P D vwCl ([(h0, .inr (1, [.ref q1, .int 0])), (q1, .inl (cF, 4, .inr (.inr (.inr (.inr (va_up (va_up (fun _ => none) 0 (some (a2 0))) 1 (some (a3 0))))))))] ++ (fbW cI a2 fFI ++ (fbW cI a3 fFI))) H := hP
  have hD : va_D A ([(h0, .inr (1, [.ref q1, .int 0])), (q1, .inl (cF, 4, .inr (.inr (.inr (.inr (va_up (va_up (fun _ => none) 0 (some (a2 0))) 1 (some (a3 0))))))))] ++ (fbW cI a2 fFI ++ (fbW cI a3 fFI))) := hD
  refine lv_iinc (v := 2) (lv' := [(1, .int 2), (0, .ref h0)]) hx hb dX3_init_36 hl (k := 0) rfl (by decide) (by decide) rfl (fun ls hl => ?_)
  refine lv_goto (tgt := 14) hx hb dX3_init_39 (by decide) ?_
  refine lv_iload_n hx hb dX3_init_14 rfl (lv_at hl 0 rfl) ?_
  refine lv_aload_n hx hb dX3_init_15 rfl (lv_at hl 1 rfl) ?_
  refine va_get (D := D) (ci := 1) (v := .ref q1) (C := RX3) (T := TX3) (N := 2) hx hb hA in_wsX30 hown hK hP 0 rfl rfl 0 (by decide) (hA _ aF_RX3_11) (fun _ h => h) rfl dX3_init_16 ?_
  refine va_alen hx hb hK2 hP 1 1 rfl rfl (show Int32.ofNat 4 = 4 by decide) dX3_init_19 ?_
  refine lv_icmp_ge (tgt := 42) hx hb dX3_init_20 (by decide) (fun hc => absurd hc (by decide)) (fun _ => ?_)
  refine lv_aload_n hx hb dX3_init_23 rfl (lv_at hl 1 rfl) ?_
  refine va_get (D := D) (ci := 1) (v := .ref q1) (C := RX3) (T := TX3) (N := 2) hx hb hA in_wsX30 hown hK hP 0 rfl rfl 0 (by decide) (hA _ aF_RX3_11) (fun _ h => h) rfl dX3_init_24 ?_
  refine lv_iload_n hx hb dX3_init_27 rfl (lv_at hl 0 rfl) ?_
  refine va_new (ci := 0) (fs := [.int 0, .int 0, .int 0, .int 0, .int 0, .null, .null, .int 0, .null, .null, .null]) (C := RX2) (T := TX2) (N := 11) hx hb hA in_wsX20 tyX2 tyX2_ok hown (hA _ aL_RX3_9) (hA _ aT_RX2) (hA _ aN_RX2) hK hP hD hS hAq rfl (by decide +kernel) (Nat.le_of_ble_eq_true rfl) (Nat.le_of_ble_eq_true rfl) dX3_init_28 (fun qn H hP hD hS => ?_)
  have hP : va_P D vwCl (([(h0, .inr (1, [.ref q1, .int 0])), (q1, .inl (cF, 4, .inr (.inr (.inr (.inr (va_up (va_up (fun _ => none) 0 (some (a2 0))) 1 (some (a3 0))))))))] ++ (fbW cI a2 fFI ++ (fbW cI a3 fFI))) ++ [(qn, .inr (0, [.int 0, .int 0, .int 0, .int 0, .int 0, .null, .null, .int 0, .null, .null, .null]))]) H := hP
  have hD : va_D A (([(h0, .inr (1, [.ref q1, .int 0])), (q1, .inl (cF, 4, .inr (.inr (.inr (.inr (va_up (va_up (fun _ => none) 0 (some (a2 0))) 1 (some (a3 0))))))))] ++ (fbW cI a2 fFI ++ (fbW cI a3 fFI))) ++ [(qn, .inr (0, [.int 0, .int 0, .int 0, .int 0, .int 0, .null, .null, .int 0, .null, .null, .null]))]) := hD
  refine lv_dup hx hb dX3_init_31 rfl ?_
  have hFc := va_free (wc := [(qn, .inr (0, [.int 0, .int 0, .int 0, .int 0, .int 0, .null, .null, .int 0, .null, .null, .null]))]) hD hS hAq [24] rfl
  have hPc := hP.sub (ws' := [(qn, .inr (0, [.int 0, .int 0, .int 0, .int 0, .int 0, .null, .null, .int 0, .null, .null, .null]))]) [24] rfl
  have hDc := hD.sub (ws' := [(qn, .inr (0, [.int 0, .int 0, .int 0, .int 0, .int 0, .null, .null, .int 0, .null, .null, .null]))]) [24] (by decide) rfl
  refine va_callv (va_runI (As := []) (rest := [.ref qn, .int 2, .ref q1]) S (c_X2_init l D cI qn H.size) (cwI 0 hA (gI aC_X2_init) rfl rfl rfl (hA _ aN_RX2) (hA _ aM_RX3_17) (hA _ aI_X2_init) rfl (by decide +kernel) ⟨Nat.le_of_ble_eq_true rfl, Nat.le_of_ble_eq_true rfl⟩) ⟨fun a U g mk q => by obtain ⟨q0, q1, qP, qK, qD, qN⟩ := q; exact ⟨q0, q1, qP, va_K.moved (u := U) (U := U.calling g mk a) (Vm.Alike.refl U.vm) qK, qD, (fx_N.same (u := U) (U := U.calling g mk a) rfl qN)⟩, fun U hU hW => ⟨rfl, by rw [hU], by rw [hU]; exact hPc, va_K.moved hW.alike hK, hDc.weaken (fun _ _ _ _ => trivial), (fx_N.warm hW hN.1)⟩⟩ rfl rfl hl.1 rfl (lv_room (Nat.le_of_ble_eq_true rfl)) dX3_init_32 ⟨Nat.le_of_ble_eq_true rfl, Nat.le_of_ble_eq_true rfl⟩) hS (fun q _ h => hFc q h) hFc (fun u t H1 locs ht hvm _ hB hz1 hk1 hS => ?_)
  obtain ⟨a4, rfl, hP1, hD1⟩ := hB
  rw [ht] at hP1
  obtain ⟨hP, hD⟩ := va_join (wr := [(h0, .inr (1, [.ref q1, .int 0])), (q1, .inl (cF, 4, .inr (.inr (.inr (.inr (va_up (va_up (fun _ => none) 0 (some (a2 0))) 1 (some (a3 0))))))))] ++ (fbW cI a2 fFI ++ (fbW cI a3 fFI))) (w1 := fbW cI a4 fFI) hP hD [24] [0, 1, 2, 3, 4, 5, 6, 7, 8, 9, 10, 11, 12, 13, 14, 15, 16, 17, 18, 19, 20, 21, 22, 23] rfl rfl (by decide) (by decide) hk1 hFc hP1 hD1
  generalize H1 = H at hP hS ⊢
  have hP : va_P D vwCl ([(h0, .inr (1, [.ref q1, .int 0])), (q1, .inl (cF, 4, .inr (.inr (.inr (.inr (va_up (va_up (fun _ => none) 0 (some (a2 0))) 1 (some (a3 0))))))))] ++ (fbW cI a2 fFI ++ (fbW cI a3 fFI ++ (fbW cI a4 fFI)))) H := hP
  have hD : va_D A ([(h0, .inr (1, [.ref q1, .int 0])), (q1, .inl (cF, 4, .inr (.inr (.inr (.inr (va_up (va_up (fun _ => none) 0 (some (a2 0))) 1 (some (a3 0))))))))] ++ (fbW cI a2 fFI ++ (fbW cI a3 fFI ++ (fbW cI a4 fFI)))) := hD
  clear hP1 hD1 hk1 hFc hPc hDc hz1
  refine va_astq (D := D) (cl := vwCl) (i := 2) hx hb hK2 hP hD hS 1 1 24 0 rfl rfl rfl rfl (by unfold vp_in; decide) dX3_init_35 (fun H locs hP hD hS => ?_)
  have hP : va_P D vwCl ([(h0, .inr (1, [.ref q1, .int 0])), (q1, .inl (cF, 4, .inr (.inr (.inr (.inr (va_up (va_up (va_up (fun _ => none) 0 (some (a2 0))) 1 (some (a3 0))) 2 (some (a4 0))))))))] ++ (fbW cI a2 fFI ++ (fbW cI a3 fFI ++ (fbW cI a4 fFI)))) H := hP
  have hD : va_D A ([(h0, .inr (1, [.ref q1, .int 0])), (q1, .inl (cF, 4, .inr (.inr (.inr (.inr (va_up (va_up (va_up (fun _ => none) 0 (some (a2 0))) 1 (some (a3 0))) 2 (some (a4 0))))))))] ++ (fbW cI a2 fFI ++ (fbW cI a3 fFI ++ (fbW cI a4 fFI)))) := hD
  refine lv_iinc (v := 3) (lv' := [(1, .int 3), (0, .ref h0)]) hx hb dX3_init_36 hl (k := 0) rfl (by decide) (by decide) rfl (fun ls hl => ?_)
  refine lv_goto (tgt := 14) hx hb dX3_init_39 (by decide) ?_
  refine lv_iload_n hx hb dX3_init_14 rfl (lv_at hl 0 rfl) ?_
  refine lv_aload_n hx hb dX3_init_15 rfl (lv_at hl 1 rfl) ?_
  refine va_get (D := D) (ci := 1) (v := .ref q1) (C := RX3) (T := TX3) (N := 2) hx hb hA in_wsX30 hown hK hP 0 rfl rfl 0 (by decide) (hA _ aF_RX3_11) (fun _ h => h) rfl dX3_init_16 ?_
  refine va_alen hx hb hK2 hP 1 1 rfl rfl (show Int32.ofNat 4 = 4 by decide) dX3_init_19 ?_
  refine lv_icmp_ge (tgt := 42) hx hb dX3_init_20 (by decide) (fun hc => absurd hc (by decide)) (fun _ => ?_)
  refine lv_aload_n hx hb dX3_init_23 rfl (lv_at hl 1 rfl) ?_
  refine va_get (D := D) (ci := 1) (v := .ref q1) (C := RX3) (T := TX3) (N := 2) hx hb hA in_wsX30 hown hK hP 0 rfl rfl 0 (by decide) (hA _ aF_RX3_11) (fun _ h => h) rfl dX3_init_24 ?_
  refine lv_iload_n hx hb dX3_init_27 rfl (lv_at hl 0 rfl) ?_
  refine va_new (ci := 0) (fs := [.int 0, .int 0, .int 0, .int 0, .int 0, .null, .null, .int 0, .null, .null, .null]) (C := RX2) (T := TX2) (N := 11) hx hb hA in_wsX20 tyX2 tyX2_ok hown (hA _ aL_RX3_9) (hA _ aT_RX2) (hA _ aN_RX2) hK hP hD hS hAq rfl (by decide +kernel) (Nat.le_of_ble_eq_true rfl) (Nat.le_of_ble_eq_true rfl) dX3_init_28 (fun qn H hP hD hS => ?_)
  have hP : va_P D vwCl (([(h0, .inr (1, [.ref q1, .int 0])), (q1, .inl (cF, 4, .inr (.inr (.inr (.inr (va_up (va_up (va_up (fun _ => none) 0 (some (a2 0))) 1 (some (a3 0))) 2 (some (a4 0))))))))] ++ (fbW cI a2 fFI ++ (fbW cI a3 fFI ++ (fbW cI a4 fFI)))) ++ [(qn, .inr (0, [.int 0, .int 0, .int 0, .int 0, .int 0, .null, .null, .int 0, .null, .null, .null]))]) H := hP
  have hD : va_D A (([(h0, .inr (1, [.ref q1, .int 0])), (q1, .inl (cF, 4, .inr (.inr (.inr (.inr (va_up (va_up (va_up (fun _ => none) 0 (some (a2 0))) 1 (some (a3 0))) 2 (some (a4 0))))))))] ++ (fbW cI a2 fFI ++ (fbW cI a3 fFI ++ (fbW cI a4 fFI)))) ++ [(qn, .inr (0, [.int 0, .int 0, .int 0, .int 0, .int 0, .null, .null, .int 0, .null, .null, .null]))]) := hD
  refine lv_dup hx hb dX3_init_31 rfl ?_
  have hFc := va_free (wc := [(qn, .inr (0, [.int 0, .int 0, .int 0, .int 0, .int 0, .null, .null, .int 0, .null, .null, .null]))]) hD hS hAq [35] rfl
  have hPc := hP.sub (ws' := [(qn, .inr (0, [.int 0, .int 0, .int 0, .int 0, .int 0, .null, .null, .int 0, .null, .null, .null]))]) [35] rfl
  have hDc := hD.sub (ws' := [(qn, .inr (0, [.int 0, .int 0, .int 0, .int 0, .int 0, .null, .null, .int 0, .null, .null, .null]))]) [35] (by decide) rfl
  refine va_callv (va_runI (As := []) (rest := [.ref qn, .int 3, .ref q1]) S (c_X2_init l D cI qn H.size) (cwI 0 hA (gI aC_X2_init) rfl rfl rfl (hA _ aN_RX2) (hA _ aM_RX3_17) (hA _ aI_X2_init) rfl (by decide +kernel) ⟨Nat.le_of_ble_eq_true rfl, Nat.le_of_ble_eq_true rfl⟩) ⟨fun a U g mk q => by obtain ⟨q0, q1, qP, qK, qD, qN⟩ := q; exact ⟨q0, q1, qP, va_K.moved (u := U) (U := U.calling g mk a) (Vm.Alike.refl U.vm) qK, qD, (fx_N.same (u := U) (U := U.calling g mk a) rfl qN)⟩, fun U hU hW => ⟨rfl, by rw [hU], by rw [hU]; exact hPc, va_K.moved hW.alike hK, hDc.weaken (fun _ _ _ _ => trivial), (fx_N.warm hW hN.1)⟩⟩ rfl rfl hl.1 rfl (lv_room (Nat.le_of_ble_eq_true rfl)) dX3_init_32 ⟨Nat.le_of_ble_eq_true rfl, Nat.le_of_ble_eq_true rfl⟩) hS (fun q _ h => hFc q h) hFc (fun u t H1 locs ht hvm _ hB hz1 hk1 hS => ?_)
  obtain ⟨a5, rfl, hP1, hD1⟩ := hB
  rw [ht] at hP1
  obtain ⟨hP, hD⟩ := va_join (wr := [(h0, .inr (1, [.ref q1, .int 0])), (q1, .inl (cF, 4, .inr (.inr (.inr (.inr (va_up (va_up (va_up (fun _ => none) 0 (some (a2 0))) 1 (some (a3 0))) 2 (some (a4 0))))))))] ++ (fbW cI a2 fFI ++ (fbW cI a3 fFI ++ (fbW cI a4 fFI)))) (w1 := fbW cI a5 fFI) hP hD [35] [0, 1, 2, 3, 4, 5, 6, 7, 8, 9, 10, 11, 12, 13, 14, 15, 16, 17, 18, 19, 20, 21, 22, 23, 24, 25, 26, 27, 28, 29, 30, 31, 32, 33, 34] rfl rfl (by decide) (by decide) hk1 hFc hP1 hD1
  generalize H1 = H at hP hS ⊢
  have hP : va_P D vwCl ([(h0, .inr (1, [.ref q1, .int 0])), (q1, .inl (cF, 4, .inr (.inr (.inr (.inr (va_up (va_up (va_up (fun _ => none) 0 (some (a2 0))) 1 (some (a3 0))) 2 (some (a4 0))))))))] ++ (fbW cI a2 fFI ++ (fbW cI a3 fFI ++ (fbW cI a4 fFI ++ (fbW cI a5 fFI))))) H := hP
  have hD : va_D A ([(h0, .inr (1, [.ref q1, .int 0])), (q1, .inl (cF, 4, .inr (.inr (.inr (.inr (va_up (va_up (va_up (fun _ => none) 0 (some (a2 0))) 1 (some (a3 0))) 2 (some (a4 0))))))))] ++ (fbW cI a2 fFI ++ (fbW cI a3 fFI ++ (fbW cI a4 fFI ++ (fbW cI a5 fFI))))) := hD
  clear hP1 hD1 hk1 hFc hPc hDc hz1
  refine va_astq (D := D) (cl := vwCl) (i := 3) hx hb hK2 hP hD hS 1 1 35 0 rfl rfl rfl rfl (by unfold vp_in; decide) dX3_init_35 (fun H locs hP hD hS => ?_)
  have hP : va_P D vwCl ([(h0, .inr (1, [.ref q1, .int 0])), (q1, .inl (cF, 4, .inr (.inr (.inr (.inr (va_up (va_up (va_up (va_up (fun _ => none) 0 (some (a2 0))) 1 (some (a3 0))) 2 (some (a4 0))) 3 (some (a5 0))))))))] ++ (fbW cI a2 fFI ++ (fbW cI a3 fFI ++ (fbW cI a4 fFI ++ (fbW cI a5 fFI))))) H := hP
  have hD : va_D A ([(h0, .inr (1, [.ref q1, .int 0])), (q1, .inl (cF, 4, .inr (.inr (.inr (.inr (va_up (va_up (va_up (va_up (fun _ => none) 0 (some (a2 0))) 1 (some (a3 0))) 2 (some (a4 0))) 3 (some (a5 0))))))))] ++ (fbW cI a2 fFI ++ (fbW cI a3 fFI ++ (fbW cI a4 fFI ++ (fbW cI a5 fFI))))) := hD
  refine lv_iinc (v := 4) (lv' := [(1, .int 4), (0, .ref h0)]) hx hb dX3_init_36 hl (k := 0) rfl (by decide) (by decide) rfl (fun ls hl => ?_)
  refine lv_goto (tgt := 14) hx hb dX3_init_39 (by decide) ?_
  refine lv_iload_n hx hb dX3_init_14 rfl (lv_at hl 0 rfl) ?_
  refine lv_aload_n hx hb dX3_init_15 rfl (lv_at hl 1 rfl) ?_
  refine va_get (D := D) (ci := 1) (v := .ref q1) (C := RX3) (T := TX3) (N := 2) hx hb hA in_wsX30 hown hK hP 0 rfl rfl 0 (by decide) (hA _ aF_RX3_11) (fun _ h => h) rfl dX3_init_16 ?_
  refine va_alen hx hb hK2 hP 1 1 rfl rfl (show Int32.ofNat 4 = 4 by decide) dX3_init_19 ?_
  refine lv_icmp_ge (tgt := 42) hx hb dX3_init_20 (by decide) (fun _ => ?_) (fun hc => absurd (by decide) hc)
  exact W.vret hx hb hr (fun t ht hW => ⟨⟨(), rfl, trivial, cF, q1, a2, a3, a4, a5, by rw [ht]; exact hP, va_K.moved hW.alike hK2, hD⟩, hS.F ht⟩) hS.2.2 dX3_init_42
def aF3 (x0 x1 x2 : Nat) : Nat → Nat := fun j => match j with | 0 => x0 | 1 => x1 | _ => x2
def aF2 (x0 x1 : Nat) : Nat → Nat := fun j => match j with | 0 => x0 | _ => x1
set_option maxHeartbeats 4000000 in
set_option maxRecDepth 100000 in
theorem c_X8_init (l : Launch) (D : va_G) (cI : ClassId) (h0 sz : Nat) : Met l yX8_init (wsA yX8_init cX8_init 1 none) { frames := 4, cells := 70, slots := 3864, locals := 74 } (va_Pc [.ref h0] (fun U => U.heap.size = sz ∧ va_P D vwCl [(h0, .inr (6, [.null, .null, .null, .null]))] U.heap ∧ va_K D vwCl [(cI, .int)] U ∧ va_D (fun _ => True) [(h0, .inr (6, [.null, .null, .null, .null]))] ∧ fx_N8 U)) (va_Qv (fun (_ : Unit) => True) (fun _ t => ∃ (cF : ClassId) (b : Bf), b 6 0 = h0 ∧ va_P D vwCl (xW cI cF b fFI fFI (fun _ => fFI, 0) fT0) t.heap ∧ va_K D vwCl (xTy cI cF) t ∧ va_D (va_A [(h0, .inr (6, [.null, .null, .null, .null]))] sz) (xW cI cF b fFI fFI (fun _ => fFI, 0) fT0)) (va_A [(h0, .inr (6, [.null, .null, .null, .null]))] sz)) 70 3864 (va_A [(h0, .inr (6, [.null, .null, .null, .null]))] sz) := by
  refine Met.ofW (cc := cX8_init) (maxL := 1) (ret := none) (by decide) rfl ?_
  intro p e s m args below meth c s₁ B hml hv
  obtain ⟨rfl, hsz, hP, hK, hD0, hN⟩ := hv
  have hx := B.exec
  have hb := B.bytes
  have hr := B.returns
  have hA : ∀ w ∈ AW, w.before _ s = true := fun w h => atoms_spec (ws := wsA yX8_init cX8_init 1 none) B.pre w (List.mem_cons_of_mem _ h)
  have hown : s.vm.findClass RX8 = some m.cls := findClass_of_methodNamed B.named
  have hlocks := B.notSynchronized
  have hin : meth.name = "<init>" := (name_of_methodNamed B.named B.method).1
  have S : CallFix p m c cX8_init 1 s ([.ref h0] : List Value).toArray AW RX8 := ⟨hx, hb, hml, hown, hA⟩
  subst hsz
  have hD := hD0.self (sz := s.heap.size)
  generalize hAe : va_A [(h0, .inr (6, [.null, .null, .null, .null]))] s.heap.size = A at hD ⊢
  have hAq : ∀ q : Nat, s.heap.size ≤ q → A q := fun q h => by rw [← hAe]; exact Or.inr h
  have hS : va_S A s.heap s.heap [] := va_S.rf
  have hP : va_P D vwCl [(h0, .inr (6, [.null, .null, .null, .null]))] s.heap := hP
  have hl := lv_entry ([.ref h0]) (n := 1) (Nat.le_of_ble_eq_true rfl)
  rw [lg_entry_eq]
  generalize (lg_sl ([.ref h0]) ++ List.replicate (1 - (lg_sl ([.ref h0])).length) Slot.unset).toArray = ls at hl ⊢
  have hl : lv_has ls 1 [(0, .ref h0)] := hl
  refine lv_aload_n hx hb dX8_init_0 rfl (lv_at hl 0 rfl) ?_
  refine W.objInit hx hb hown (hA _ aM_RX8_1) (hA _ aI_objectInit) (hA _ aC_objectInit) rfl (by rw [hml]; exact hl.1) rfl dX8_init_1 (Nat.le_of_ble_eq_true rfl) (Nat.le_of_ble_eq_true rfl) ?_
  refine W.eq (g2 := F0 m 4 ls []) rfl ?_
  refine lv_aload_n hx hb dX8_init_4 rfl (lv_at hl 0 rfl) ?_
  refine va_new (ci := 0) (fs := [.int 0, .int 0, .int 0, .int 0, .int 0, .null, .null, .int 0, .null, .null, .null]) (C := RX2) (T := TX2) (N := 11) hx hb hA in_wsX20 tyX2 tyX2_ok hown (hA _ aL_RX8_7) (hA _ aT_RX2) (hA _ aN_RX2) hK hP hD hS hAq rfl (by decide +kernel) (Nat.le_of_ble_eq_true rfl) (Nat.le_of_ble_eq_true rfl) dX8_init_5 (fun qn H hP hD hS => ?_)
  have hP : va_P D vwCl (([(h0, .inr (6, [.null, .null, .null, .null]))]) ++ [(qn, .inr (0, [.int 0, .int 0, .int 0, .int 0, .int 0, .null, .null, .int 0, .null, .null, .null]))]) H := hP
  have hD : va_D A (([(h0, .inr (6, [.null, .null, .null, .null]))]) ++ [(qn, .inr (0, [.int 0, .int 0, .int 0, .int 0, .int 0, .null, .null, .int 0, .null, .null, .null]))]) := hD
  refine lv_dup hx hb dX8_init_8 rfl ?_
  have hFc := va_free (wc := [(qn, .inr (0, [.int 0, .int 0, .int 0, .int 0, .int 0, .null, .null, .int 0, .null, .null, .null]))]) hD hS hAq [1] rfl
  have hPc := hP.sub (ws' := [(qn, .inr (0, [.int 0, .int 0, .int 0, .int 0, .int 0, .null, .null, .int 0, .null, .null, .null]))]) [1] rfl
  have hDc := hD.sub (ws' := [(qn, .inr (0, [.int 0, .int 0, .int 0, .int 0, .int 0, .null, .null, .int 0, .null, .null, .null]))]) [1] (by decide) rfl
  refine va_callv (va_runI (As := []) (rest := [.ref qn, .ref h0]) S (c_X2_init l D cI qn H.size) (cwI 0 hA (gI aC_X2_init) rfl rfl rfl (hA _ aN_RX2) (hA _ aM_RX8_9) (hA _ aI_X2_init) rfl (by decide +kernel) ⟨Nat.le_of_ble_eq_true rfl, Nat.le_of_ble_eq_true rfl⟩) ⟨fun a U g mk q => by obtain ⟨q0, q1, qP, qK, qD, qN⟩ := q; exact ⟨q0, q1, qP, va_K.moved (u := U) (U := U.calling g mk a) (Vm.Alike.refl U.vm) qK, qD, (fx_N.same (u := U) (U := U.calling g mk a) rfl qN)⟩, fun U hU hW => ⟨rfl, by rw [hU], by rw [hU]; exact hPc, va_K.moved hW.alike hK, hDc.weaken (fun _ _ _ _ => trivial), (fx_N.warm hW hN.1)⟩⟩ rfl rfl hl.1 rfl (lv_room (Nat.le_of_ble_eq_true rfl)) dX8_init_9 ⟨Nat.le_of_ble_eq_true rfl, Nat.le_of_ble_eq_true rfl⟩) hS (fun q _ h => hFc q h) hFc (fun u t H1 locs ht hvm _ hB hz1 hk1 hS => ?_)
  obtain ⟨a0, rfl, hP1, hD1⟩ := hB
  rw [ht] at hP1
  obtain ⟨hP, hD⟩ := va_join (wr := [(h0, .inr (6, [.null, .null, .null, .null]))]) (w1 := fbW cI a0 fFI) hP hD [1] [0] rfl rfl (by decide) (by decide) hk1 hFc hP1 hD1
  generalize H1 = H at hP hS ⊢
  have hP : va_P D vwCl ([(h0, .inr (6, [.null, .null, .null, .null]))] ++ (fbW cI a0 fFI)) H := hP
  have hD : va_D A ([(h0, .inr (6, [.null, .null, .null, .null]))] ++ (fbW cI a0 fFI)) := hD
  clear hP1 hD1 hk1 hFc hPc hDc hz1
  refine va_putF (D := D) (ci := 6) (v := .ref (a0 0)) (ty := (.object "CuckooAudit$Filter")) (C := RX8) (T := TX8) (N := 4) hx hb hA in_wsX80 tyX8 tyX8_ok nmX8 hown hK hP hD hS 0 rfl rfl 0 (by decide) (hA _ aF_RX8_10) (fun _ h9 => h9) rfl hin rfl (by decide +kernel) rfl rfl (Nat.le_of_ble_eq_true rfl) dX8_init_12 (fun H locs hP hD hS => ?_)
  have hP : va_P D vwCl ([(h0, .inr (6, [.ref (a0 0), .null, .null, .null]))] ++ (fbW cI a0 fFI)) H := hP
  have hD : va_D A ([(h0, .inr (6, [.ref (a0 0), .null, .null, .null]))] ++ (fbW cI a0 fFI)) := hD
  refine lv_aload_n hx hb dX8_init_15 rfl (lv_at hl 0 rfl) ?_
  refine va_new (ci := 0) (fs := [.int 0, .int 0, .int 0, .int 0, .int 0, .null, .null, .int 0, .null, .null, .null]) (C := RX2) (T := TX2) (N := 11) hx hb hA in_wsX20 tyX2 tyX2_ok hown (hA _ aL_RX8_7) (hA _ aT_RX2) (hA _ aN_RX2) hK hP hD hS hAq rfl (by decide +kernel) (Nat.le_of_ble_eq_true rfl) (Nat.le_of_ble_eq_true rfl) dX8_init_16 (fun qn H hP hD hS => ?_)
  have hP : va_P D vwCl (([(h0, .inr (6, [.ref (a0 0), .null, .null, .null]))] ++ (fbW cI a0 fFI)) ++ [(qn, .inr (0, [.int 0, .int 0, .int 0, .int 0, .int 0, .null, .null, .int 0, .null, .null, .null]))]) H := hP
  have hD : va_D A (([(h0, .inr (6, [.ref (a0 0), .null, .null, .null]))] ++ (fbW cI a0 fFI)) ++ [(qn, .inr (0, [.int 0, .int 0, .int 0, .int 0, .int 0, .null, .null, .int 0, .null, .null, .null]))]) := hD
  refine lv_dup hx hb dX8_init_19 rfl ?_
  have hFc := va_free (wc := [(qn, .inr (0, [.int 0, .int 0, .int 0, .int 0, .int 0, .null, .null, .int 0, .null, .null, .null]))]) hD hS hAq [12] rfl
  have hPc := hP.sub (ws' := [(qn, .inr (0, [.int 0, .int 0, .int 0, .int 0, .int 0, .null, .null, .int 0, .null, .null, .null]))]) [12] rfl
  have hDc := hD.sub (ws' := [(qn, .inr (0, [.int 0, .int 0, .int 0, .int 0, .int 0, .null, .null, .int 0, .null, .null, .null]))]) [12] (by decide) rfl
  refine va_callv (va_runI (As := []) (rest := [.ref qn, .ref h0]) S (c_X2_init l D cI qn H.size) (cwI 0 hA (gI aC_X2_init) rfl rfl rfl (hA _ aN_RX2) (hA _ aM_RX8_9) (hA _ aI_X2_init) rfl (by decide +kernel) ⟨Nat.le_of_ble_eq_true rfl, Nat.le_of_ble_eq_true rfl⟩) ⟨fun a U g mk q => by obtain ⟨q0, q1, qP, qK, qD, qN⟩ := q; exact ⟨q0, q1, qP, va_K.moved (u := U) (U := U.calling g mk a) (Vm.Alike.refl U.vm) qK, qD, (fx_N.same (u := U) (U := U.calling g mk a) rfl qN)⟩, fun U hU hW => ⟨rfl, by rw [hU], by rw [hU]; exact hPc, va_K.moved hW.alike hK, hDc.weaken (fun _ _ _ _ => trivial), (fx_N.warm hW hN.1)⟩⟩ rfl rfl hl.1 rfl (lv_room (Nat.le_of_ble_eq_true rfl)) dX8_init_20 ⟨Nat.le_of_ble_eq_true rfl, Nat.le_of_ble_eq_true rfl⟩) hS (fun q _ h => hFc q h) hFc (fun u t H1 locs ht hvm _ hB hz1 hk1 hS => ?_)
  obtain ⟨a1, rfl, hP1, hD1⟩ := hB
  rw [ht] at hP1
  obtain ⟨hP, hD⟩ := va_join (wr := [(h0, .inr (6, [.ref (a0 0), .null, .null, .null]))] ++ (fbW cI a0 fFI)) (w1 := fbW cI a1 fFI) hP hD [12] [0, 1, 2, 3, 4, 5, 6, 7, 8, 9, 10, 11] rfl rfl (by decide) (by decide) hk1 hFc hP1 hD1
  generalize H1 = H at hP hS ⊢
  have hP : va_P D vwCl ([(h0, .inr (6, [.ref (a0 0), .null, .null, .null]))] ++ (fbW cI a0 fFI ++ (fbW cI a1 fFI))) H := hP
  have hD : va_D A ([(h0, .inr (6, [.ref (a0 0), .null, .null, .null]))] ++ (fbW cI a0 fFI ++ (fbW cI a1 fFI))) := hD
  clear hP1 hD1 hk1 hFc hPc hDc hz1
  refine va_putF (D := D) (ci := 6) (v := .ref (a1 0)) (ty := (.object "CuckooAudit$Filter")) (C := RX8) (T := TX8) (N := 4) hx hb hA in_wsX80 tyX8 tyX8_ok nmX8 hown hK hP hD hS 0 rfl rfl 1 (by decide) (hA _ aF_RX8_16) (fun _ h9 => h9) rfl hin rfl (by decide +kernel) rfl rfl (Nat.le_of_ble_eq_true rfl) dX8_init_23 (fun H locs hP hD hS => ?_)
  have hP : va_P D vwCl ([(h0, .inr (6, [.ref (a0 0), .ref (a1 0), .null, .null]))] ++ (fbW cI a0 fFI ++ (fbW cI a1 fFI))) H := hP
  have hD : va_D A ([(h0, .inr (6, [.ref (a0 0), .ref (a1 0), .null, .null]))] ++ (fbW cI a0 fFI ++ (fbW cI a1 fFI))) := hD
  refine lv_aload_n hx hb dX8_init_26 rfl (lv_at hl 0 rfl) ?_
  refine va_new (ci := 1) (fs := [.null, .int 0]) (C := RX3) (T := TX3) (N := 2) hx hb hA in_wsX30 tyX3 tyX3_ok hown (hA _ aL_RX8_19) (hA _ aT_RX3) (hA _ aN_RX3) hK hP hD hS hAq rfl (by decide +kernel) (Nat.le_of_ble_eq_true rfl) (Nat.le_of_ble_eq_true rfl) dX8_init_27 (fun qn H hP hD hS => ?_)
  have hP : va_P D vwCl (([(h0, .inr (6, [.ref (a0 0), .ref (a1 0), .null, .null]))] ++ (fbW cI a0 fFI ++ (fbW cI a1 fFI))) ++ [(qn, .inr (1, [.null, .int 0]))]) H := hP
  have hD : va_D A (([(h0, .inr (6, [.ref (a0 0), .ref (a1 0), .null, .null]))] ++ (fbW cI a0 fFI ++ (fbW cI a1 fFI))) ++ [(qn, .inr (1, [.null, .int 0]))]) := hD
  refine lv_dup hx hb dX8_init_30 rfl ?_
  have hFc := va_free (wc := [(qn, .inr (1, [.null, .int 0]))]) hD hS hAq [23] rfl
  have hPc := hP.sub (ws' := [(qn, .inr (1, [.null, .int 0]))]) [23] rfl
  have hDc := hD.sub (ws' := [(qn, .inr (1, [.null, .int 0]))]) [23] (by decide) rfl
  refine va_callv (va_runI (As := []) (rest := [.ref qn, .ref h0]) S (c_X3_init l D cI qn H.size) (cwI 0 hA (gI aC_X3_init) rfl rfl rfl (hA _ aN_RX3) (hA _ aM_RX8_21) (hA _ aI_X3_init) rfl (by decide +kernel) ⟨Nat.le_of_ble_eq_true rfl, Nat.le_of_ble_eq_true rfl⟩) ⟨fun a U g mk q => by obtain ⟨q0, q1, qP, qK, qD, qN⟩ := q; exact ⟨q0, q1, qP, va_K.moved (u := U) (U := U.calling g mk a) (Vm.Alike.refl U.vm) qK, qD, (fx_N8.same (u := U) (U := U.calling g mk a) rfl qN)⟩, fun U hU hW => ⟨rfl, by rw [hU], by rw [hU]; exact hPc, va_K.moved hW.alike hK, hDc.weaken (fun _ _ _ _ => trivial), (fx_N8.warm hW hN)⟩⟩ rfl rfl hl.1 rfl (lv_room (Nat.le_of_ble_eq_true rfl)) dX8_init_31 ⟨Nat.le_of_ble_eq_true rfl, Nat.le_of_ble_eq_true rfl⟩) hS (fun q _ h => hFc q h) hFc (fun u t H1 locs ht hvm _ hB hz1 hk1 hS => ?_)
  obtain ⟨cF, qr, a2, a3, a4, a5, hP1, hK1, hD1⟩ := hB
  have hK2 : va_K D vwCl (xTy cI cF) s := va_K.moved hvm.symm hK1
  obtain ⟨qh, rfl⟩ : ∃ z, z = qn := ⟨_, rfl⟩
  rw [ht] at hP1
  obtain ⟨hP, hD⟩ := va_join (wr := [(h0, .inr (6, [.ref (a0 0), .ref (a1 0), .null, .null]))] ++ (fbW cI a0 fFI ++ (fbW cI a1 fFI))) (w1 := [(qh, .inr (1, [.ref qr, .int 0])), (qr, .inl (cF, 4, .inr (.inr (.inr (.inr (fRow a2 a3 a4 a5))))))] ++ (fbW cI a2 fFI ++ (fbW cI a3 fFI ++ (fbW cI a4 fFI ++ fbW cI a5 fFI)))) hP hD [23] [0, 1, 2, 3, 4, 5, 6, 7, 8, 9, 10, 11, 12, 13, 14, 15, 16, 17, 18, 19, 20, 21, 22] rfl rfl (by decide) (by decide) hk1 hFc hP1 hD1
  generalize H1 = H at hP hS ⊢
  have hP : va_P D vwCl ([(h0, .inr (6, [.ref (a0 0), .ref (a1 0), .null, .null]))] ++ (fbW cI a0 fFI ++ (fbW cI a1 fFI ++ (([(qh, .inr (1, [.ref qr, .int 0])), (qr, .inl (cF, 4, .inr (.inr (.inr (.inr (fRow a2 a3 a4 a5))))))] ++ (fbW cI a2 fFI ++ (fbW cI a3 fFI ++ (fbW cI a4 fFI ++ fbW cI a5 fFI)))))))) H := hP
  have hD : va_D A ([(h0, .inr (6, [.ref (a0 0), .ref (a1 0), .null, .null]))] ++ (fbW cI a0 fFI ++ (fbW cI a1 fFI ++ (([(qh, .inr (1, [.ref qr, .int 0])), (qr, .inl (cF, 4, .inr (.inr (.inr (.inr (fRow a2 a3 a4 a5))))))] ++ (fbW cI a2 fFI ++ (fbW cI a3 fFI ++ (fbW cI a4 fFI ++ fbW cI a5 fFI)))))))) := hD
  clear hP1 hD1 hk1 hFc hPc hDc hz1
  refine va_putF (D := D) (ci := 6) (v := .ref qh) (ty := (.object "CuckooAudit$History")) (C := RX8) (T := TX8) (N := 4) hx hb hA in_wsX80 tyX8 tyX8_ok nmX8 hown hK hP hD hS 0 rfl rfl 2 (by decide) (hA _ aF_RX8_22) (fun _ h9 => h9) rfl hin rfl (by decide +kernel) rfl rfl (Nat.le_of_ble_eq_true rfl) dX8_init_34 (fun H locs hP hD hS => ?_)
  have hP : va_P D vwCl ([(h0, .inr (6, [.ref (a0 0), .ref (a1 0), .ref qh, .null]))] ++ (fbW cI a0 fFI ++ (fbW cI a1 fFI ++ (([(qh, .inr (1, [.ref qr, .int 0])), (qr, .inl (cF, 4, .inr (.inr (.inr (.inr (fRow a2 a3 a4 a5))))))] ++ (fbW cI a2 fFI ++ (fbW cI a3 fFI ++ (fbW cI a4 fFI ++ fbW cI a5 fFI)))))))) H := hP
  have hD : va_D A ([(h0, .inr (6, [.ref (a0 0), .ref (a1 0), .ref qh, .null]))] ++ (fbW cI a0 fFI ++ (fbW cI a1 fFI ++ (([(qh, .inr (1, [.ref qr, .int 0])), (qr, .inl (cF, 4, .inr (.inr (.inr (.inr (fRow a2 a3 a4 a5))))))] ++ (fbW cI a2 fFI ++ (fbW cI a3 fFI ++ (fbW cI a4 fFI ++ fbW cI a5 fFI)))))))) := hD
  refine lv_aload_n hx hb dX8_init_37 rfl (lv_at hl 0 rfl) ?_
  refine va_new (ci := 4) (fs := [.null, .int 0]) (C := RX6) (T := TX6) (N := 2) hx hb hA in_wsX60 tyX6 tyX6_ok hown (hA _ aL_RX8_26) (hA _ aT_RX6) (hA _ aN_RX6) hK hP hD hS hAq rfl (by decide +kernel) (Nat.le_of_ble_eq_true rfl) (Nat.le_of_ble_eq_true rfl) dX8_init_38 (fun qn H hP hD hS => ?_)
  have hP : va_P D vwCl (([(h0, .inr (6, [.ref (a0 0), .ref (a1 0), .ref qh, .null]))] ++ (fbW cI a0 fFI ++ (fbW cI a1 fFI ++ (([(qh, .inr (1, [.ref qr, .int 0])), (qr, .inl (cF, 4, .inr (.inr (.inr (.inr (fRow a2 a3 a4 a5))))))] ++ (fbW cI a2 fFI ++ (fbW cI a3 fFI ++ (fbW cI a4 fFI ++ fbW cI a5 fFI)))))))) ++ [(qn, .inr (4, [.null, .int 0]))]) H := hP
  have hD : va_D A (([(h0, .inr (6, [.ref (a0 0), .ref (a1 0), .ref qh, .null]))] ++ (fbW cI a0 fFI ++ (fbW cI a1 fFI ++ (([(qh, .inr (1, [.ref qr, .int 0])), (qr, .inl (cF, 4, .inr (.inr (.inr (.inr (fRow a2 a3 a4 a5))))))] ++ (fbW cI a2 fFI ++ (fbW cI a3 fFI ++ (fbW cI a4 fFI ++ fbW cI a5 fFI)))))))) ++ [(qn, .inr (4, [.null, .int 0]))]) := hD
  refine lv_dup hx hb dX8_init_41 rfl ?_
  have hFc := va_free (wc := [(qn, .inr (4, [.null, .int 0]))]) hD hS hAq [69] rfl
  have hPc := hP.sub (ws' := [(qn, .inr (4, [.null, .int 0]))]) [69] rfl
  have hDc := hD.sub (ws' := [(qn, .inr (4, [.null, .int 0]))]) [69] (by decide) rfl
  refine va_callv (va_runIN (As := []) (rest := [.ref qn, .ref h0]) S (c_X6_init l D cI qn H.size) ⟨va_cnB 0 hA (gI aC_X6_init) rfl rfl rfl hN.2.1 (hA _ aN_RX6) (by decide +kernel) ⟨Nat.le_of_ble_eq_true rfl, Nat.le_of_ble_eq_true rfl⟩, rfl, hA _ aI_X6_init⟩ ⟨fun a U g mk q => by obtain ⟨q0, q1, qP, qK, qD, qN⟩ := q; exact ⟨q0, q1, qP, va_K.moved (u := U) (U := U.calling g mk a) (Vm.Alike.refl U.vm) qK, qD, trivial⟩, fun U hU hW => ⟨rfl, by rw [hU], by rw [hU]; exact hPc, va_K.moved hW.alike hK, hDc.weaken (fun _ _ _ _ => trivial), trivial⟩⟩ rfl rfl hl.1 rfl (lv_room (Nat.le_of_ble_eq_true rfl)) dX8_init_42 ⟨Nat.le_of_ble_eq_true rfl, Nat.le_of_ble_eq_true rfl⟩) hS (fun q _ h => hFc q h) hFc (fun u t H1 locs ht hvm _ hB hz1 hk1 hS => ?_)
  obtain ⟨qu, hP1, hD1⟩ := hB
  obtain ⟨qt, rfl⟩ : ∃ z, z = qn := ⟨_, rfl⟩
  rw [ht] at hP1
  obtain ⟨hP, hD⟩ := va_join (wr := [(h0, .inr (6, [.ref (a0 0), .ref (a1 0), .ref qh, .null]))] ++ (fbW cI a0 fFI ++ (fbW cI a1 fFI ++ (([(qh, .inr (1, [.ref qr, .int 0])), (qr, .inl (cF, 4, .inr (.inr (.inr (.inr (fRow a2 a3 a4 a5))))))] ++ (fbW cI a2 fFI ++ (fbW cI a3 fFI ++ (fbW cI a4 fFI ++ fbW cI a5 fFI)))))))) (w1 := [(qt, .inr (4, [.ref qu, .int 0])), (qu, .inl (cI, 100, .inl (fun _ => 0)))]) hP hD [69] [0, 1, 2, 3, 4, 5, 6, 7, 8, 9, 10, 11, 12, 13, 14, 15, 16, 17, 18, 19, 20, 21, 22, 23, 24, 25, 26, 27, 28, 29, 30, 31, 32, 33, 34, 35, 36, 37, 38, 39, 40, 41, 42, 43, 44, 45, 46, 47, 48, 49, 50, 51, 52, 53, 54, 55, 56, 57, 58, 59, 60, 61, 62, 63, 64, 65, 66, 67, 68] rfl rfl (by decide) (by decide) hk1 hFc hP1 hD1
  generalize H1 = H at hP hS ⊢
  have hP : va_P D vwCl ([(h0, .inr (6, [.ref (a0 0), .ref (a1 0), .ref qh, .null]))] ++ (fbW cI a0 fFI ++ (fbW cI a1 fFI ++ (([(qh, .inr (1, [.ref qr, .int 0])), (qr, .inl (cF, 4, .inr (.inr (.inr (.inr (fRow a2 a3 a4 a5))))))] ++ (fbW cI a2 fFI ++ (fbW cI a3 fFI ++ (fbW cI a4 fFI ++ fbW cI a5 fFI)))) ++ ([(qt, .inr (4, [.ref qu, .int 0])), (qu, .inl (cI, 100, .inl (fun _ => 0)))]))))) H := hP
  have hD : va_D A ([(h0, .inr (6, [.ref (a0 0), .ref (a1 0), .ref qh, .null]))] ++ (fbW cI a0 fFI ++ (fbW cI a1 fFI ++ (([(qh, .inr (1, [.ref qr, .int 0])), (qr, .inl (cF, 4, .inr (.inr (.inr (.inr (fRow a2 a3 a4 a5))))))] ++ (fbW cI a2 fFI ++ (fbW cI a3 fFI ++ (fbW cI a4 fFI ++ fbW cI a5 fFI)))) ++ ([(qt, .inr (4, [.ref qu, .int 0])), (qu, .inl (cI, 100, .inl (fun _ => 0)))]))))) := hD
  clear hP1 hD1 hk1 hFc hPc hDc hz1
  refine va_putF (D := D) (ci := 6) (v := .ref qt) (ty := (.object "CuckooAudit$Text")) (C := RX8) (T := TX8) (N := 4) hx hb hA in_wsX80 tyX8 tyX8_ok nmX8 hown hK hP hD hS 0 rfl rfl 3 (by decide) (hA _ aF_RX8_29) (fun _ h9 => h9) rfl hin rfl (by decide +kernel) rfl rfl (Nat.le_of_ble_eq_true rfl) dX8_init_45 (fun H locs hP hD hS => ?_)
  have hP : va_P D vwCl ([(h0, .inr (6, [.ref (a0 0), .ref (a1 0), .ref qh, .ref qt]))] ++ (fbW cI a0 fFI ++ (fbW cI a1 fFI ++ (([(qh, .inr (1, [.ref qr, .int 0])), (qr, .inl (cF, 4, .inr (.inr (.inr (.inr (fRow a2 a3 a4 a5))))))] ++ (fbW cI a2 fFI ++ (fbW cI a3 fFI ++ (fbW cI a4 fFI ++ fbW cI a5 fFI)))) ++ ([(qt, .inr (4, [.ref qu, .int 0])), (qu, .inl (cI, 100, .inl (fun _ => 0)))]))))) H := hP
  have hD : va_D A ([(h0, .inr (6, [.ref (a0 0), .ref (a1 0), .ref qh, .ref qt]))] ++ (fbW cI a0 fFI ++ (fbW cI a1 fFI ++ (([(qh, .inr (1, [.ref qr, .int 0])), (qr, .inl (cF, 4, .inr (.inr (.inr (.inr (fRow a2 a3 a4 a5))))))] ++ (fbW cI a2 fFI ++ (fbW cI a3 fFI ++ (fbW cI a4 fFI ++ fbW cI a5 fFI)))) ++ ([(qt, .inr (4, [.ref qu, .int 0])), (qu, .inl (cI, 100, .inl (fun _ => 0)))]))))) := hD
  obtain ⟨b, hb9⟩ : ∃ b : Bf, b = bF8 a0 a1 a2 a3 a4 a5 (aF3 h0 qh qr) (aF2 qt qu) := ⟨_, rfl⟩
  have eb : b 6 0 = h0 := by rw [hb9]; rfl
  have hD9 : va_D A (xW cI cF b fFI fFI (fun _ => fFI, 0) fT0) := by
    subst hb9
    exact fm_D (ws := [(h0, .inr (6, [.ref (a0 0), .ref (a1 0), .ref qh, .ref qt])), (qh, .inr (1, [.ref qr, .int 0])), (qr, .inl (cF, 4, .inr (.inr (.inr (.inr (fRow a2 a3 a4 a5))))))] ++ ([(qt, .inr (4, [.ref qu, .int 0])), (qu, .inl (cI, 100, .inl (fun _ => 0)))] ++ (fbW cI a0 fFI ++ (fbW cI a1 fFI ++ (fbW cI a2 fFI ++ (fbW cI a3 fFI ++ (fbW cI a4 fFI ++ fbW cI a5 fFI))))))) rfl (hD.sub [0, 23, 24, 69, 70, 1, 2, 3, 4, 5, 6, 7, 8, 9, 10, 11, 12, 13, 14, 15, 16, 17, 18, 19, 20, 21, 22, 25, 26, 27, 28, 29, 30, 31, 32, 33, 34, 35, 36, 37, 38, 39, 40, 41, 42, 43, 44, 45, 46, 47, 48, 49, 50, 51, 52, 53, 54, 55, 56, 57, 58, 59, 60, 61, 62, 63, 64, 65, 66, 67, 68] (by decide) rfl)
  have hP8 : va_P D vwCl ([(h0, .inr (6, [.ref (a0 0), .ref (a1 0), .ref qh, .ref qt])), (qh, .inr (1, [.ref qr, .int 0])), (qr, .inl (cF, 4, .inr (.inr (.inr (.inr (fRow a2 a3 a4 a5))))))] ++ ([(qt, .inr (4, [.ref qu, .int 0])), (qu, .inl (cI, 100, .inl (fun _ => 0)))] ++ (fbW cI a0 fFI ++ (fbW cI a1 fFI ++ (fbW cI a2 fFI ++ (fbW cI a3 fFI ++ (fbW cI a4 fFI ++ fbW cI a5 fFI))))))) H := hP.sub [0, 23, 24, 69, 70, 1, 2, 3, 4, 5, 6, 7, 8, 9, 10, 11, 12, 13, 14, 15, 16, 17, 18, 19, 20, 21, 22, 25, 26, 27, 28, 29, 30, 31, 32, 33, 34, 35, 36, 37, 38, 39, 40, 41, 42, 43, 44, 45, 46, 47, 48, 49, 50, 51, 52, 53, 54, 55, 56, 57, 58, 59, 60, 61, 62, 63, 64, 65, 66, 67, 68] rfl
  have hD8 : va_D A ([(h0, .inr (6, [.ref (a0 0), .ref (a1 0), .ref qh, .ref qt])), (qh, .inr (1, [.ref qr, .int 0])), (qr, .inl (cF, 4, .inr (.inr (.inr (.inr (fRow a2 a3 a4 a5))))))] ++ ([(qt, .inr (4, [.ref qu, .int 0])), (qu, .inl (cI, 100, .inl (fun _ => 0)))] ++ (fbW cI a0 fFI ++ (fbW cI a1 fFI ++ (fbW cI a2 fFI ++ (fbW cI a3 fFI ++ (fbW cI a4 fFI ++ fbW cI a5 fFI))))))) := hD.sub [0, 23, 24, 69, 70, 1, 2, 3, 4, 5, 6, 7, 8, 9, 10, 11, 12, 13, 14, 15, 16, 17, 18, 19, 20, 21, 22, 25, 26, 27, 28, 29, 30, 31, 32, 33, 34, 35, 36, 37, 38, 39, 40, 41, 42, 43, 44, 45, 46, 47, 48, 49, 50, 51, 52, 53, 54, 55, 56, 57, 58, 59, 60, 61, 62, 63, 64, 65, 66, 67, 68] (by decide) rfl
  have hP9 : va_P D vwCl (xW cI cF b fFI fFI (fun _ => fFI, 0) fT0) H := by
    subst hb9
    exact hP8.set (p := 2) (a := qr) (e := .inl (cF, 4, .inr (.inr (.inr (.inr (fun j => some (bF8 a0 a1 a2 a3 a4 a5 (aF3 h0 qh qr) (aF2 qt qu) (j + 2) 0))))))) hD8 rfl (show H[qr]? = some (vp_cell cF _) from (hP8 2 _ rfl).trans (congrArg some fRow_eq)) (fun _ _ => rfl)
  exact W.vret hx hb hr (fun t ht hW => ⟨⟨(), rfl, trivial, cF, b, eb, by rw [ht]; exact hP9, va_K.moved hW.alike hK2, hD9⟩, hS.F ht⟩) hS.2.2 dX8_init_48
