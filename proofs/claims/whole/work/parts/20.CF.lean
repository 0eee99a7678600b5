set_option maxHeartbeats 4000000 in
set_option maxRecDepth 100000 in
theorem c_X8_within (l : Launch) (p0 : Int32) (p1 : Int32) (p2 : Int32) (r0 : Int32) (hF : G_X8_within p0 p1 p2 = r0) : Met l yX8_within (wsA yX8_within cX8_within 3 (some .boolean)) { frames := 0, cells := 0, slots := 0, locals := 0 } (va_Pc [.int p0, .int p1, .int p2] (fun _ => True)) (vp_Si (fun r => r = r0 ∧ (r = 0 ∨ r = 1))) 0 0 (fun _ => False) := by
  refine Met.ofW (cc := cX8_within) (maxL := 3) (ret := (some .boolean)) (by decide) rfl ?_
  intro p e s m args below meth c s₁ B hml hpre
  obtain ⟨rfl, -⟩ := hpre
  have hx := B.exec
  have hb := B.bytes
  have hr := B.returns
  have hA : ∀ w ∈ AW, w.before _ s = true := fun w h => atoms_spec (ws := wsA yX8_within cX8_within 3 (some .boolean)) B.pre w (List.mem_cons_of_mem _ h)
  have hown : s.vm.findClass RX8 = some m.cls := findClass_of_methodNamed B.named
  have hlocks := B.notSynchronized
  have S : CallFix p m c cX8_within 3 s ([.int p0, .int p1, .int p2] : List Value).toArray AW RX8 := ⟨hx, hb, hml, hown, hA⟩
  have hl := lv_entry ([.int p0, .int p1, .int p2]) (n := 3) (Nat.le_of_ble_eq_true rfl)
  rw [lg_entry_eq]
  generalize (lg_sl ([.int p0, .int p1, .int p2]) ++ List.replicate (3 - (lg_sl ([.int p0, .int p1, .int p2])).length) Slot.unset).toArray = ls at hl ⊢
  have hl : lv_has ls 3 [(0, .int p0), (1, .int p1), (2, .int p2)] := hl
  have h := hF
  unfold G_X8_within at h
  refine lv_iload_n hx hb dX8_within_0 rfl (lv_at hl 0 rfl) ?_
  refine lv_iload_n hx hb dX8_within_1 rfl (lv_at hl 1 rfl) ?_
  refine lv_icmp_lt (tgt := 14) hx hb dX8_within_2 (by decide) (fun hc => ?_) (fun hc => ?_)
  · replace h := oi_t hc h
    refine lv_iconst (v := 0) hx hb dX8_within_14 (by decide) ?_
    subst h
    exact W.zret (v := 0) (ty := .boolean) hx hb hr rfl (fun t ht hW => ⟨_, rfl, ⟨rfl, (Or.inl rfl)⟩, ht⟩) (fun q hq => absurd hq List.not_mem_nil) dX8_within_15
  · replace h := oi_f hc h
    refine lv_iload_n hx hb dX8_within_5 rfl (lv_at hl 0 rfl) ?_
    refine lv_iload_n hx hb dX8_within_6 rfl (lv_at hl 2 rfl) ?_
    refine lv_icmp_gt (tgt := 14) hx hb dX8_within_7 (by decide) (fun hc => ?_) (fun hc => ?_)
    · replace h := oi_t hc h
      refine lv_iconst (v := 0) hx hb dX8_within_14 (by decide) ?_
      subst h
      exact W.zret (v := 0) (ty := .boolean) hx hb hr rfl (fun t ht hW => ⟨_, rfl, ⟨rfl, (Or.inl rfl)⟩, ht⟩) (fun q hq => absurd hq List.not_mem_nil) dX8_within_15
    · replace h := oi_f hc h
      refine lv_iconst (v := 1) hx hb dX8_within_10 (by decide) ?_
      refine lv_goto (tgt := 15) hx hb dX8_within_11 (by decide) ?_
      subst h
      exact W.zret (v := 1) (ty := .boolean) hx hb hr rfl (fun t ht hW => ⟨_, rfl, ⟨rfl, (Or.inr rfl)⟩, ht⟩) (fun q hq => absurd hq List.not_mem_nil) dX8_within_15
theorem k_X8_within {p : Program} {l : Launch} {e : Env} {R : Room} {s : State} {m : MethodId} {args : Array Value} {below : List Frame} {meth : Method} {c : Code} {H : Heap} {locs : List Loc} {cells slots : Nat} {Q : State → Prop} {cc : ByteArray} {pc nL idx : Nat} {ls : Array Slot} {rest : List Value} {own : String} {p0 : Int32} {p1 : Int32} {p2 : Int32} (S : CallFix p m c cc nL s args AW own) (h1 : Cond.methodLink own idx yX8_within ∈ AW) (hR : 0 + 1 ≤ R.frames ∧ 8 + (3 + 11) + 0 ≤ R.locals) (hc : cells ≤ R.cells ∧ slots ≤ R.slots) (hsz : ls.size = nL) (hW : (rest.map fun v => v.category).sum ≤ 8) (hdg : decode cc pc = .ok (.invokestatic idx, 3)) (kk : ∀ r : Int32, r = G_X8_within p0 p1 p2 → (r = 0 ∨ r = 1) → W p l e R s m args below meth c H locs cells slots Q (F0 m (pc + 3) ls (.int r :: rest))) : W p l e R s m args below meth c H locs cells slots Q (F0 m pc ls (.int p2 :: .int p1 :: .int p0 :: rest)) :=
  fm_runS (n := 3) (As := [.int p0, .int p1, .int p2]) S (c_X8_within l p0 p1 p2 _ rfl) h1 aS_X8_within aN_RX8 aC_X8_within rfl rfl (by decide +kernel) rfl hR hc hsz hW hdg (fun r hr => kk r hr.1 hr.2)
set_option maxHeartbeats 4000000 in
set_option maxRecDepth 100000 in
theorem c_X0_of (l : Launch) (p0 : Int32) (p1 : Int32) (r0 : Int32) (hF : G_X0_of p0 p1 = r0) : Met l yX0_of (wsA yX0_of cX0_of 4 (some .int)) { frames := 0, cells := 0, slots := 0, locals := 0 } (va_Pc [.int p0, .int p1] (fun _ => True)) (vp_Si (fun r => r = r0)) 0 0 (fun _ => False) := by
  refine Met.ofW (cc := cX0_of) (maxL := 4) (ret := (some .int)) (by decide) rfl ?_
  intro p e s m args below meth c s₁ B hml hpre
  obtain ⟨rfl, -⟩ := hpre
  have hx := B.exec
  have hb := B.bytes
  have hr := B.returns
  have hA : ∀ w ∈ AW, w.before _ s = true := fun w h => atoms_spec (ws := wsA yX0_of cX0_of 4 (some .int)) B.pre w (List.mem_cons_of_mem _ h)
  have hown : s.vm.findClass RX0 = some m.cls := findClass_of_methodNamed B.named
  have hlocks := B.notSynchronized
  have S : CallFix p m c cX0_of 4 s ([.int p0, .int p1] : List Value).toArray AW RX0 := ⟨hx, hb, hml, hown, hA⟩
  have hl := lv_entry ([.int p0, .int p1]) (n := 4) (Nat.le_of_ble_eq_true rfl)
  rw [lg_entry_eq]
  generalize (lg_sl ([.int p0, .int p1]) ++ List.replicate (4 - (lg_sl ([.int p0, .int p1])).length) Slot.unset).toArray = ls at hl ⊢
  have hl : lv_has ls 4 [(0, .int p0), (1, .int p1)] := hl
  have h := hF
  unfold G_X0_of at h
  refine lv_iload_n hx hb dX0_of_0 rfl (lv_at hl 0 rfl) ?_
  refine lv_i2l hx hb dX0_of_1 rfl ?_
  refine lv_ldc2 hx hb hown (hA _ aK_RX0_7) dX0_of_2 ?_
  refine lv_lmul hx hb dX0_of_5 ?_
  refine lv_iload_n hx hb dX0_of_6 rfl (lv_at hl 1 rfl) ?_
  refine lv_i2l hx hb dX0_of_7 rfl ?_
  refine lv_ldc2 hx hb hown (hA _ aK_RX0_9) dX0_of_8 ?_
  refine lv_lmul hx hb dX0_of_11 ?_
  refine lv_ladd hx hb dX0_of_12 ?_
  refine lv_ldc2 hx hb hown (hA _ aK_RX0_11) dX0_of_13 ?_
  refine lv_ladd hx hb dX0_of_16 ?_
  refine lv_ldc2 hx hb hown (hA _ aK_RX0_13) dX0_of_17 ?_
  refine lv_lrem hx hb dX0_of_20 (by decide) ?_
  refine lv_topl (fun x1 ex1 => ?_)
  replace h := olet_s ex1 h
  refine lv_lstore_n (lv' := [(2, .long x1), (0, .int p0), (1, .int p1)]) hx hb dX0_of_21 rfl hl (by decide) rfl (fun ls hl => ?_)
  refine lv_lload_n hx hb dX0_of_22 rfl (lv_at hl 0 rfl) ?_
  refine lv_lload_n hx hb dX0_of_23 rfl (lv_at hl 0 rfl) ?_
  refine lv_ldc2 hx hb hown (hA _ aK_RX0_15) dX0_of_24 ?_
  refine lv_ldiv hx hb dX0_of_27 (by decide) ?_
  refine lv_lxor hx hb dX0_of_28 ?_
  refine lv_topl (fun x2 ex2 => ?_)
  replace h := olet_s ex2 h
  refine lv_lstore_n (lv' := [(2, .long x2), (0, .int p0), (1, .int p1)]) hx hb dX0_of_29 rfl hl (by decide) rfl (fun ls hl => ?_)
  refine lv_lload_n hx hb dX0_of_30 rfl (lv_at hl 0 rfl) ?_
  refine lv_ldc2 hx hb hown (hA _ aK_RX0_17) dX0_of_31 ?_
  refine lv_lmul hx hb dX0_of_34 ?_
  refine lv_lconst (v := 1) hx hb dX0_of_35 (by decide) ?_
  refine lv_ladd hx hb dX0_of_36 ?_
  refine lv_ldc2 hx hb hown (hA _ aK_RX0_13) dX0_of_37 ?_
  refine lv_lrem hx hb dX0_of_40 (by decide) ?_
  refine lv_topl (fun x3 ex3 => ?_)
  replace h := olet_s ex3 h
  refine lv_lstore_n (lv' := [(2, .long x3), (0, .int p0), (1, .int p1)]) hx hb dX0_of_41 rfl hl (by decide) rfl (fun ls hl => ?_)
  refine lv_lload_n hx hb dX0_of_42 rfl (lv_at hl 0 rfl) ?_
  refine lv_lload_n hx hb dX0_of_43 rfl (lv_at hl 0 rfl) ?_
  refine lv_ldc2 hx hb hown (hA _ aK_RX0_19) dX0_of_44 ?_
  refine lv_ldiv hx hb dX0_of_47 (by decide) ?_
  refine lv_lxor hx hb dX0_of_48 ?_
  refine lv_topl (fun x4 ex4 => ?_)
  replace h := olet_s ex4 h
  refine lv_lstore_n (lv' := [(2, .long x4), (0, .int p0), (1, .int p1)]) hx hb dX0_of_49 rfl hl (by decide) rfl (fun ls hl => ?_)
  refine lv_lload_n hx hb dX0_of_50 rfl (lv_at hl 0 rfl) ?_
  refine lv_l2i hx hb dX0_of_51 rfl ?_
  subst h
  exact W.iret (v := x4.toInt32) hx hb hr (fun t ht hW => ⟨_, rfl, rfl, ht⟩) (fun q hq => absurd hq List.not_mem_nil) dX0_of_52
theorem k_X0_of {p : Program} {l : Launch} {e : Env} {R : Room} {s : State} {m : MethodId} {args : Array Value} {below : List Frame} {meth : Method} {c : Code} {H : Heap} {locs : List Loc} {cells slots : Nat} {Q : State → Prop} {cc : ByteArray} {pc nL idx : Nat} {ls : Array Slot} {rest : List Value} {own : String} {p0 : Int32} {p1 : Int32} (S : CallFix p m c cc nL s args AW own) (h1 : Cond.methodLink own idx yX0_of ∈ AW) (hR : 0 + 1 ≤ R.frames ∧ 8 + (4 + 11) + 0 ≤ R.locals) (hc : cells ≤ R.cells ∧ slots ≤ R.slots) (hsz : ls.size = nL) (hW : (rest.map fun v => v.category).sum ≤ 8) (hdg : decode cc pc = .ok (.invokestatic idx, 3)) (kk : ∀ r : Int32, r = G_X0_of p0 p1 → W p l e R s m args below meth c H locs cells slots Q (F0 m (pc + 3) ls (.int r :: rest))) : W p l e R s m args below meth c H locs cells slots Q (F0 m pc ls (.int p1 :: .int p0 :: rest)) :=
  fm_runS (n := 2) (As := [.int p0, .int p1]) S (c_X0_of l p0 p1 _ rfl) h1 aS_X0_of aN_RX0 aC_X0_of rfl rfl (by decide +kernel) rfl hR hc hsz hW hdg (fun r hr => kk r hr)
set_option maxHeartbeats 4000000 in
set_option maxRecDepth 100000 in
theorem c_X0_tagOf (l : Launch) (p0 : Int32) (r0 : Int32) (hF : G_X0_tagOf p0 = r0) : Met l yX0_tagOf (wsA yX0_tagOf cX0_tagOf 1 (some .int)) { frames := 0, cells := 0, slots := 0, locals := 0 } (va_Pc [.int p0] (fun _ => True)) (vp_Si (fun r => r = r0)) 0 0 (fun _ => False) := by
  refine Met.ofW (cc := cX0_tagOf) (maxL := 1) (ret := (some .int)) (by decide) rfl ?_
  intro p e s m args below meth c s₁ B hml hpre
  obtain ⟨rfl, -⟩ := hpre
  have hx := B.exec
  have hb := B.bytes
  have hr := B.returns
  have hA : ∀ w ∈ AW, w.before _ s = true := fun w h => atoms_spec (ws := wsA yX0_tagOf cX0_tagOf 1 (some .int)) B.pre w (List.mem_cons_of_mem _ h)
  have hown : s.vm.findClass RX0 = some m.cls := findClass_of_methodNamed B.named
  have hlocks := B.notSynchronized
  have S : CallFix p m c cX0_tagOf 1 s ([.int p0] : List Value).toArray AW RX0 := ⟨hx, hb, hml, hown, hA⟩
  have hl := lv_entry ([.int p0]) (n := 1) (Nat.le_of_ble_eq_true rfl)
  rw [lg_entry_eq]
  generalize (lg_sl ([.int p0]) ++ List.replicate (1 - (lg_sl ([.int p0])).length) Slot.unset).toArray = ls at hl ⊢
  have hl : lv_has ls 1 [(0, .int p0)] := hl
  have h := hF
  unfold G_X0_tagOf at h
  refine lv_iload_n hx hb dX0_tagOf_0 rfl (lv_at hl 0 rfl) ?_
  refine lv_sipush (v := 16384) hx hb dX0_tagOf_1 (by decide) ?_
  refine lv_idiv hx hb dX0_tagOf_4 (by decide) ?_
  subst h
  exact W.iret (v := (p0 / 16384)) hx hb hr (fun t ht hW => ⟨_, rfl, rfl, ht⟩) (fun q hq => absurd hq List.not_mem_nil) dX0_tagOf_5
theorem k_X0_tagOf {p : Program} {l : Launch} {e : Env} {R : Room} {s : State} {m : MethodId} {args : Array Value} {below : List Frame} {meth : Method} {c : Code} {H : Heap} {locs : List Loc} {cells slots : Nat} {Q : State → Prop} {cc : ByteArray} {pc nL idx : Nat} {ls : Array Slot} {rest : List Value} {own : String} {p0 : Int32} (S : CallFix p m c cc nL s args AW own) (h1 : Cond.methodLink own idx yX0_tagOf ∈ AW) (hR : 0 + 1 ≤ R.frames ∧ 8 + (1 + 11) + 0 ≤ R.locals) (hc : cells ≤ R.cells ∧ slots ≤ R.slots) (hsz : ls.size = nL) (hW : (rest.map fun v => v.category).sum ≤ 8) (hdg : decode cc pc = .ok (.invokestatic idx, 3)) (kk : ∀ r : Int32, r = G_X0_tagOf p0 → W p l e R s m args below meth c H locs cells slots Q (F0 m (pc + 3) ls (.int r :: rest))) : W p l e R s m args below meth c H locs cells slots Q (F0 m pc ls (.int p0 :: rest)) :=
  fm_runS (n := 1) (As := [.int p0]) S (c_X0_tagOf l p0 _ rfl) h1 aS_X0_tagOf aN_RX0 aC_X0_tagOf rfl rfl (by decide +kernel) rfl hR hc hsz hW hdg (fun r hr => kk r hr)
set_option maxHeartbeats 4000000 in
set_option maxRecDepth 100000 in
theorem c_X0_bodyOf (l : Launch) (p0 : Int32) (r0 : Int32) (hF : G_X0_bodyOf p0 = r0) : Met l yX0_bodyOf (wsA yX0_bodyOf cX0_bodyOf 1 (some .int)) { frames := 0, cells := 0, slots := 0, locals := 0 } (va_Pc [.int p0] (fun _ => True)) (vp_Si (fun r => r = r0)) 0 0 (fun _ => False) := by
  refine Met.ofW (cc := cX0_bodyOf) (maxL := 1) (ret := (some .int)) (by decide) rfl ?_
  intro p e s m args below meth c s₁ B hml hpre
  obtain ⟨rfl, -⟩ := hpre
  have hx := B.exec
  have hb := B.bytes
  have hr := B.returns
  have hA : ∀ w ∈ AW, w.before _ s = true := fun w h => atoms_spec (ws := wsA yX0_bodyOf cX0_bodyOf 1 (some .int)) B.pre w (List.mem_cons_of_mem _ h)
  have hown : s.vm.findClass RX0 = some m.cls := findClass_of_methodNamed B.named
  have hlocks := B.notSynchronized
  have S : CallFix p m c cX0_bodyOf 1 s ([.int p0] : List Value).toArray AW RX0 := ⟨hx, hb, hml, hown, hA⟩
  have hl := lv_entry ([.int p0]) (n := 1) (Nat.le_of_ble_eq_true rfl)
  rw [lg_entry_eq]
  generalize (lg_sl ([.int p0]) ++ List.replicate (1 - (lg_sl ([.int p0])).length) Slot.unset).toArray = ls at hl ⊢
  have hl : lv_has ls 1 [(0, .int p0)] := hl
  have h := hF
  unfold G_X0_bodyOf at h
  refine lv_iload_n hx hb dX0_bodyOf_0 rfl (lv_at hl 0 rfl) ?_
  refine lv_sipush (v := 16384) hx hb dX0_bodyOf_1 (by decide) ?_
  refine lv_irem hx hb dX0_bodyOf_4 (by decide) ?_
  subst h
  exact W.iret (v := (irm p0 16384)) hx hb hr (fun t ht hW => ⟨_, rfl, rfl, ht⟩) (fun q hq => absurd hq List.not_mem_nil) dX0_bodyOf_5
theorem k_X0_bodyOf {p : Program} {l : Launch} {e : Env} {R : Room} {s : State} {m : MethodId} {args : Array Value} {below : List Frame} {meth : Method} {c : Code} {H : Heap} {locs : List Loc} {cells slots : Nat} {Q : State → Prop} {cc : ByteArray} {pc nL idx : Nat} {ls : Array Slot} {rest : List Value} {own : String} {p0 : Int32} (S : CallFix p m c cc nL s args AW own) (h1 : Cond.methodLink own idx yX0_bodyOf ∈ AW) (hR : 0 + 1 ≤ R.frames ∧ 8 + (1 + 11) + 0 ≤ R.locals) (hc : cells ≤ R.cells ∧ slots ≤ R.slots) (hsz : ls.size = nL) (hW : (rest.map fun v => v.category).sum ≤ 8) (hdg : decode cc pc = .ok (.invokestatic idx, 3)) (kk : ∀ r : Int32, r = G_X0_bodyOf p0 → W p l e R s m args below meth c H locs cells slots Q (F0 m (pc + 3) ls (.int r :: rest))) : W p l e R s m args below meth c H locs cells slots Q (F0 m pc ls (.int p0 :: rest)) :=
  fm_runS (n := 1) (As := [.int p0]) S (c_X0_bodyOf l p0 _ rfl) h1 aS_X0_bodyOf aN_RX0 aC_X0_bodyOf rfl rfl (by decide +kernel) rfl hR hc hsz hW hdg (fun r hr => kk r hr)
set_option maxHeartbeats 4000000 in
set_option maxRecDepth 100000 in
theorem c_X0_homeOf (l : Launch) (p0 : Int32) (p1 : Int32) (r0 : Int32) (hF : G_X0_homeOf p0 p1 = r0) : Met l yX0_homeOf (wsA yX0_homeOf cX0_homeOf 2 (some .int)) { frames := 0, cells := 0, slots := 0, locals := 0 } (va_Pc [.int p0, .int p1] (fun _ => True)) (vp_Si (fun r => r = r0)) 0 0 (fun _ => False) := by
  refine Met.ofW (cc := cX0_homeOf) (maxL := 2) (ret := (some .int)) (by decide) rfl ?_
  intro p e s m args below meth c s₁ B hml hpre
  obtain ⟨rfl, -⟩ := hpre
  have hx := B.exec
  have hb := B.bytes
  have hr := B.returns
  have hA : ∀ w ∈ AW, w.before _ s = true := fun w h => atoms_spec (ws := wsA yX0_homeOf cX0_homeOf 2 (some .int)) B.pre w (List.mem_cons_of_mem _ h)
  have hown : s.vm.findClass RX0 = some m.cls := findClass_of_methodNamed B.named
  have hlocks := B.notSynchronized
  have S : CallFix p m c cX0_homeOf 2 s ([.int p0, .int p1] : List Value).toArray AW RX0 := ⟨hx, hb, hml, hown, hA⟩
  have hl := lv_entry ([.int p0, .int p1]) (n := 2) (Nat.le_of_ble_eq_true rfl)
  rw [lg_entry_eq]
  generalize (lg_sl ([.int p0, .int p1]) ++ List.replicate (2 - (lg_sl ([.int p0, .int p1])).length) Slot.unset).toArray = ls at hl ⊢
  have hl : lv_has ls 2 [(0, .int p0), (1, .int p1)] := hl
  have h := hF
  unfold G_X0_homeOf at h
  refine lv_iload_n hx hb dX0_homeOf_0 rfl (lv_at hl 0 rfl) ?_
  refine lv_sipush (v := 16384) hx hb dX0_homeOf_1 (by decide) ?_
  refine lv_irem hx hb dX0_homeOf_4 (by decide) ?_
  refine lv_iconst (v := 1) hx hb dX0_homeOf_5 (by decide) ?_
  refine lv_iload_n hx hb dX0_homeOf_6 rfl (lv_at hl 1 rfl) ?_
  refine lv_ishl hx hb dX0_homeOf_7 ?_
  refine lv_iconst (v := 1) hx hb dX0_homeOf_8 (by decide) ?_
  refine lv_isub hx hb dX0_homeOf_9 ?_
  refine lv_iand hx hb dX0_homeOf_10 ?_
  subst h
  exact W.iret (v := ((irm p0 16384) &&& ((1 <<< (p1 &&& 31)) - 1))) hx hb hr (fun t ht hW => ⟨_, rfl, rfl, ht⟩) (fun q hq => absurd hq List.not_mem_nil) dX0_homeOf_11
theorem k_X0_homeOf {p : Program} {l : Launch} {e : Env} {R : Room} {s : State} {m : MethodId} {args : Array Value} {below : List Frame} {meth : Method} {c : Code} {H : Heap} {locs : List Loc} {cells slots : Nat} {Q : State → Prop} {cc : ByteArray} {pc nL idx : Nat} {ls : Array Slot} {rest : List Value} {own : String} {p0 : Int32} {p1 : Int32} (S : CallFix p m c cc nL s args AW own) (h1 : Cond.methodLink own idx yX0_homeOf ∈ AW) (hR : 0 + 1 ≤ R.frames ∧ 8 + (2 + 11) + 0 ≤ R.locals) (hc : cells ≤ R.cells ∧ slots ≤ R.slots) (hsz : ls.size = nL) (hW : (rest.map fun v => v.category).sum ≤ 8) (hdg : decode cc pc = .ok (.invokestatic idx, 3)) (kk : ∀ r : Int32, r = G_X0_homeOf p0 p1 → W p l e R s m args below meth c H locs cells slots Q (F0 m (pc + 3) ls (.int r :: rest))) : W p l e R s m args below meth c H locs cells slots Q (F0 m pc ls (.int p1 :: .int p0 :: rest)) :=
  fm_runS (n := 2) (As := [.int p0, .int p1]) S (c_X0_homeOf l p0 p1 _ rfl) h1 aS_X0_homeOf aN_RX0 aC_X0_homeOf rfl rfl (by decide +kernel) rfl hR hc hsz hW hdg (fun r hr => kk r hr)
set_option maxHeartbeats 4000000 in
set_option maxRecDepth 100000 in
theorem c_X0_partner (l : Launch) (p0 : Int32) (p1 : Int32) (p2 : Int32) (r0 : Int32) (hF : G_X0_partner p0 p1 p2 = r0) : Met l yX0_partner (wsA yX0_partner cX0_partner 4 (some .int)) { frames := 0, cells := 0, slots := 0, locals := 0 } (va_Pc [.int p0, .int p1, .int p2] (fun _ => True)) (vp_Si (fun r => r = r0)) 0 0 (fun _ => False) := by
  refine Met.ofW (cc := cX0_partner) (maxL := 4) (ret := (some .int)) (by decide) rfl ?_
  intro p e s m args below meth c s₁ B hml hpre
  obtain ⟨rfl, -⟩ := hpre
  have hx := B.exec
  have hb := B.bytes
  have hr := B.returns
  have hA : ∀ w ∈ AW, w.before _ s = true := fun w h => atoms_spec (ws := wsA yX0_partner cX0_partner 4 (some .int)) B.pre w (List.mem_cons_of_mem _ h)
  have hown : s.vm.findClass RX0 = some m.cls := findClass_of_methodNamed B.named
  have hlocks := B.notSynchronized
  have S : CallFix p m c cX0_partner 4 s ([.int p0, .int p1, .int p2] : List Value).toArray AW RX0 := ⟨hx, hb, hml, hown, hA⟩
  have hl := lv_entry ([.int p0, .int p1, .int p2]) (n := 4) (Nat.le_of_ble_eq_true rfl)
  rw [lg_entry_eq]
  generalize (lg_sl ([.int p0, .int p1, .int p2]) ++ List.replicate (4 - (lg_sl ([.int p0, .int p1, .int p2])).length) Slot.unset).toArray = ls at hl ⊢
  have hl : lv_has ls 4 [(0, .int p0), (1, .int p1), (2, .int p2)] := hl
  have h := hF
  unfold G_X0_partner at h
  refine lv_bipush (v := 37) hx hb dX0_partner_0 (by decide) ?_
  refine lv_iload_n hx hb dX0_partner_2 rfl (lv_at hl 1 rfl) ?_
  refine lv_imul hx hb dX0_partner_3 ?_
  refine lv_bipush (v := 11) hx hb dX0_partner_4 (by decide) ?_
  refine lv_iadd hx hb dX0_partner_6 ?_
  refine lv_bipush (v := 64) hx hb dX0_partner_7 (by decide) ?_
  refine lv_irem hx hb dX0_partner_9 (by decide) ?_
  refine lv_iconst (v := 1) hx hb dX0_partner_10 (by decide) ?_
  refine lv_ior hx hb dX0_partner_11 ?_
  refine lv_topi (fun x1 ex1 => ?_)
  replace h := olet_s ex1 h
  refine lv_istore_n (lv' := [(3, .int x1), (0, .int p0), (1, .int p1), (2, .int p2)]) hx hb dX0_partner_12 rfl hl (by decide) rfl (fun ls hl => ?_)
  refine lv_iload_n hx hb dX0_partner_13 rfl (lv_at hl 1 rfl) ?_
  refine lv_iload_n hx hb dX0_partner_14 rfl (lv_at hl 0 rfl) ?_
  refine lv_iconst (v := 1) hx hb dX0_partner_15 (by decide) ?_
  refine lv_iload_n hx hb dX0_partner_16 rfl (lv_at hl 3 rfl) ?_
  refine lv_ishl hx hb dX0_partner_17 ?_
  refine lv_iconst (v := 1) hx hb dX0_partner_18 (by decide) ?_
  refine lv_isub hx hb dX0_partner_19 ?_
  refine lv_iand hx hb dX0_partner_20 ?_
  refine lv_ixor hx hb dX0_partner_21 ?_
  subst h
  exact W.iret (v := (p0 ^^^ (x1 &&& ((1 <<< (p2 &&& 31)) - 1)))) hx hb hr (fun t ht hW => ⟨_, rfl, rfl, ht⟩) (fun q hq => absurd hq List.not_mem_nil) dX0_partner_22
theorem k_X0_partner {p : Program} {l : Launch} {e : Env} {R : Room} {s : State} {m : MethodId} {args : Array Value} {below : List Frame} {meth : Method} {c : Code} {H : Heap} {locs : List Loc} {cells slots : Nat} {Q : State → Prop} {cc : ByteArray} {pc nL idx : Nat} {ls : Array Slot} {rest : List Value} {own : String} {p0 : Int32} {p1 : Int32} {p2 : Int32} (S : CallFix p m c cc nL s args AW own) (h1 : Cond.methodLink own idx yX0_partner ∈ AW) (hR : 0 + 1 ≤ R.frames ∧ 8 + (4 + 11) + 0 ≤ R.locals) (hc : cells ≤ R.cells ∧ slots ≤ R.slots) (hsz : ls.size = nL) (hW : (rest.map fun v => v.category).sum ≤ 8) (hdg : decode cc pc = .ok (.invokestatic idx, 3)) (kk : ∀ r : Int32, r = G_X0_partner p0 p1 p2 → W p l e R s m args below meth c H locs cells slots Q (F0 m (pc + 3) ls (.int r :: rest))) : W p l e R s m args below meth c H locs cells slots Q (F0 m pc ls (.int p2 :: .int p1 :: .int p0 :: rest)) :=
  fm_runS (n := 3) (As := [.int p0, .int p1, .int p2]) S (c_X0_partner l p0 p1 p2 _ rfl) h1 aS_X0_partner aN_RX0 aC_X0_partner rfl rfl (by decide +kernel) rfl hR hc hsz hW hdg (fun r hr => kk r hr)
set_option maxHeartbeats 4000000 in
set_option maxRecDepth 100000 in
theorem c_X0_printOf (l : Launch) (p0 : Int32) (p1 : Int32) (p2 : Int32) (r0 : Int32) (hF : G_X0_printOf p0 p1 p2 = r0) : Met l yX0_printOf (wsA yX0_printOf cX0_printOf 3 (some .int)) { frames := 0, cells := 0, slots := 0, locals := 0 } (va_Pc [.int p0, .int p1, .int p2] (fun _ => True)) (vp_Si (fun r => r = r0)) 0 0 (fun _ => False) := by
  refine Met.ofW (cc := cX0_printOf) (maxL := 3) (ret := (some .int)) (by decide) rfl ?_
  intro p e s m args below meth c s₁ B hml hpre
  obtain ⟨rfl, -⟩ := hpre
  have hx := B.exec
  have hb := B.bytes
  have hr := B.returns
  have hA : ∀ w ∈ AW, w.before _ s = true := fun w h => atoms_spec (ws := wsA yX0_printOf cX0_printOf 3 (some .int)) B.pre w (List.mem_cons_of_mem _ h)
  have hown : s.vm.findClass RX0 = some m.cls := findClass_of_methodNamed B.named
  have hlocks := B.notSynchronized
  have S : CallFix p m c cX0_printOf 3 s ([.int p0, .int p1, .int p2] : List Value).toArray AW RX0 := ⟨hx, hb, hml, hown, hA⟩
  have hl := lv_entry ([.int p0, .int p1, .int p2]) (n := 3) (Nat.le_of_ble_eq_true rfl)
  rw [lg_entry_eq]
  generalize (lg_sl ([.int p0, .int p1, .int p2]) ++ List.replicate (3 - (lg_sl ([.int p0, .int p1, .int p2])).length) Slot.unset).toArray = ls at hl ⊢
  have hl : lv_has ls 3 [(0, .int p0), (1, .int p1), (2, .int p2)] := hl
  have h := hF
  unfold G_X0_printOf at h
  refine lv_iload_n hx hb dX0_printOf_0 rfl (lv_at hl 0 rfl) ?_
  refine lv_sipush (v := 16384) hx hb dX0_printOf_1 (by decide) ?_
  refine lv_irem hx hb dX0_printOf_4 (by decide) ?_
  refine lv_iload_n hx hb dX0_printOf_5 rfl (lv_at hl 1 rfl) ?_
  refine lv_ishr hx hb dX0_printOf_6 ?_
  refine lv_iconst (v := 1) hx hb dX0_printOf_7 (by decide) ?_
  refine lv_iload_n hx hb dX0_printOf_8 rfl (lv_at hl 2 rfl) ?_
  refine lv_ishl hx hb dX0_printOf_9 ?_
  refine lv_iconst (v := 1) hx hb dX0_printOf_10 (by decide) ?_
  refine lv_isub hx hb dX0_printOf_11 ?_
  refine lv_iand hx hb dX0_printOf_12 ?_
  subst h
  exact W.iret (v := (((irm p0 16384) >>> (p1 &&& 31)) &&& ((1 <<< (p2 &&& 31)) - 1))) hx hb hr (fun t ht hW => ⟨_, rfl, rfl, ht⟩) (fun q hq => absurd hq List.not_mem_nil) dX0_printOf_13
theorem k_X0_printOf {p : Program} {l : Launch} {e : Env} {R : Room} {s : State} {m : MethodId} {args : Array Value} {below : List Frame} {meth : Method} {c : Code} {H : Heap} {locs : List Loc} {cells slots : Nat} {Q : State → Prop} {cc : ByteArray} {pc nL idx : Nat} {ls : Array Slot} {rest : List Value} {own : String} {p0 : Int32} {p1 : Int32} {p2 : Int32} (S : CallFix p m c cc nL s args AW own) (h1 : Cond.methodLink own idx yX0_printOf ∈ AW) (hR : 0 + 1 ≤ R.frames ∧ 8 + (3 + 11) + 0 ≤ R.locals) (hc : cells ≤ R.cells ∧ slots ≤ R.slots) (hsz : ls.size = nL) (hW : (rest.map fun v => v.category).sum ≤ 8) (hdg : decode cc pc = .ok (.invokestatic idx, 3)) (kk : ∀ r : Int32, r = G_X0_printOf p0 p1 p2 → W p l e R s m args below meth c H locs cells slots Q (F0 m (pc + 3) ls (.int r :: rest))) : W p l e R s m args below meth c H locs cells slots Q (F0 m pc ls (.int p2 :: .int p1 :: .int p0 :: rest)) :=
  fm_runS (n := 3) (As := [.int p0, .int p1, .int p2]) S (c_X0_printOf l p0 p1 p2 _ rfl) h1 aS_X0_printOf aN_RX0 aC_X0_printOf rfl rfl (by decide +kernel) rfl hR hc hsz hW hdg (fun r hr => kk r hr)
set_option maxHeartbeats 4000000 in
set_option maxRecDepth 100000 in
theorem c_X1_pack (l : Launch) (p0 : Int32) (p1 : Int32) (p2 : Int32) (p3 : Int32) (r0 : Int32) (hF : G_X1_pack p0 p1 p2 p3 = r0) : Met l yX1_pack (wsA yX1_pack cX1_pack 4 (some .int)) { frames := 0, cells := 0, slots := 0, locals := 0 } (va_Pc [.int p0, .int p1, .int p2, .int p3] (fun _ => True)) (vp_Si (fun r => r = r0)) 0 0 (fun _ => False) := by
  refine Met.ofW (cc := cX1_pack) (maxL := 4) (ret := (some .int)) (by decide) rfl ?_
  intro p e s m args below meth c s₁ B hml hpre
  obtain ⟨rfl, -⟩ := hpre
  have hx := B.exec
  have hb := B.bytes
  have hr := B.returns
  have hA : ∀ w ∈ AW, w.before _ s = true := fun w h => atoms_spec (ws := wsA yX1_pack cX1_pack 4 (some .int)) B.pre w (List.mem_cons_of_mem _ h)
  have hown : s.vm.findClass RX1 = some m.cls := findClass_of_methodNamed B.named
  have hlocks := B.notSynchronized
  have S : CallFix p m c cX1_pack 4 s ([.int p0, .int p1, .int p2, .int p3] : List Value).toArray AW RX1 := ⟨hx, hb, hml, hown, hA⟩
  have hl := lv_entry ([.int p0, .int p1, .int p2, .int p3]) (n := 4) (Nat.le_of_ble_eq_true rfl)
  rw [lg_entry_eq]
  generalize (lg_sl ([.int p0, .int p1, .int p2, .int p3]) ++ List.replicate (4 - (lg_sl ([.int p0, .int p1, .int p2, .int p3])).length) Slot.unset).toArray = ls at hl ⊢
  have hl : lv_has ls 4 [(0, .int p0), (1, .int p1), (2, .int p2), (3, .int p3)] := hl
  have h := hF
  unfold G_X1_pack at h
  refine lv_iload_n hx hb dX1_pack_0 rfl (lv_at hl 0 rfl) ?_
  refine lv_iload_n hx hb dX1_pack_1 rfl (lv_at hl 1 rfl) ?_
  refine lv_bipush (v := 6) hx hb dX1_pack_2 (by decide) ?_
  refine lv_ishl hx hb dX1_pack_4 ?_
  refine lv_ior hx hb dX1_pack_5 ?_
  refine lv_iload_n hx hb dX1_pack_6 rfl (lv_at hl 2 rfl) ?_
  refine lv_bipush (v := 12) hx hb dX1_pack_7 (by decide) ?_
  refine lv_ishl hx hb dX1_pack_9 ?_
  refine lv_ior hx hb dX1_pack_10 ?_
  refine lv_iload_n hx hb dX1_pack_11 rfl (lv_at hl 3 rfl) ?_
  refine lv_bipush (v := 16) hx hb dX1_pack_12 (by decide) ?_
  refine lv_ishl hx hb dX1_pack_14 ?_
  refine lv_ior hx hb dX1_pack_15 ?_
  subst h
  exact W.iret (v := (((p0 ||| (p1 <<< (6 &&& 31))) ||| (p2 <<< (12 &&& 31))) ||| (p3 <<< (16 &&& 31)))) hx hb hr (fun t ht hW => ⟨_, rfl, rfl, ht⟩) (fun q hq => absurd hq List.not_mem_nil) dX1_pack_16
theorem k_X1_pack {p : Program} {l : Launch} {e : Env} {R : Room} {s : State} {m : MethodId} {args : Array Value} {below : List Frame} {meth : Method} {c : Code} {H : Heap} {locs : List Loc} {cells slots : Nat} {Q : State → Prop} {cc : ByteArray} {pc nL idx : Nat} {ls : Array Slot} {rest : List Value} {own : String} {p0 : Int32} {p1 : Int32} {p2 : Int32} {p3 : Int32} (S : CallFix p m c cc nL s args AW own) (h1 : Cond.methodLink own idx yX1_pack ∈ AW) (hR : 0 + 1 ≤ R.frames ∧ 8 + (4 + 11) + 0 ≤ R.locals) (hc : cells ≤ R.cells ∧ slots ≤ R.slots) (hsz : ls.size = nL) (hW : (rest.map fun v => v.category).sum ≤ 8) (hdg : decode cc pc = .ok (.invokestatic idx, 3)) (kk : ∀ r : Int32, r = G_X1_pack p0 p1 p2 p3 → W p l e R s m args below meth c H locs cells slots Q (F0 m (pc + 3) ls (.int r :: rest))) : W p l e R s m args below meth c H locs cells slots Q (F0 m pc ls (.int p3 :: .int p2 :: .int p1 :: .int p0 :: rest)) :=
  fm_runS (n := 4) (As := [.int p0, .int p1, .int p2, .int p3]) S (c_X1_pack l p0 p1 p2 p3 _ rfl) h1 aS_X1_pack aN_RX1 aC_X1_pack rfl rfl (by decide +kernel) rfl hR hc hsz hW hdg (fun r hr => kk r hr)
set_option maxHeartbeats 4000000 in
set_option maxRecDepth 100000 in
theorem c_X1_of (l : Launch) (p0 : Int32) (p1 : Int32) (p2 : Int32) (r0 : Int32) (hF : G_X1_of p0 p1 p2 = r0) : Met l yX1_of (wsA yX1_of cX1_of 4 (some .int)) { frames := 1, cells := 0, slots := 0, locals := 23 } (va_Pc [.int p0, .int p1, .int p2] (fun _ => True)) (vp_Si (fun r => r = r0)) 0 0 (fun _ => False) := by
  refine Met.ofW (cc := cX1_of) (maxL := 4) (ret := (some .int)) (by decide) rfl ?_
  intro p e s m args below meth c s₁ B hml hpre
  obtain ⟨rfl, -⟩ := hpre
  have hx := B.exec
  have hb := B.bytes
  have hr := B.returns
  have hA : ∀ w ∈ AW, w.before _ s = true := fun w h => atoms_spec (ws := wsA yX1_of cX1_of 4 (some .int)) B.pre w (List.mem_cons_of_mem _ h)
  have hown : s.vm.findClass RX1 = some m.cls := findClass_of_methodNamed B.named
  have hlocks := B.notSynchronized
  have S : CallFix p m c cX1_of 4 s ([.int p0, .int p1, .int p2] : List Value).toArray AW RX1 := ⟨hx, hb, hml, hown, hA⟩
  have hl := lv_entry ([.int p0, .int p1, .int p2]) (n := 4) (Nat.le_of_ble_eq_true rfl)
  rw [lg_entry_eq]
  generalize (lg_sl ([.int p0, .int p1, .int p2]) ++ List.replicate (4 - (lg_sl ([.int p0, .int p1, .int p2])).length) Slot.unset).toArray = ls at hl ⊢
  have hl : lv_has ls 4 [(0, .int p0), (1, .int p1), (2, .int p2)] := hl
  have h := hF
  unfold G_X1_of at h
  refine lv_iload_n hx hb dX1_of_0 rfl (lv_at hl 0 rfl) ?_
  refine lv_iload_n hx hb dX1_of_1 rfl (lv_at hl 1 rfl) ?_
  refine k_X0_homeOf S aM_RX1_9 ⟨Nat.le_of_ble_eq_true rfl, Nat.le_of_ble_eq_true rfl⟩ ⟨Nat.zero_le _, Nat.zero_le _⟩ hl.1 (Nat.le_of_ble_eq_true rfl) dX1_of_2 (fun r1 er1 => ?_)
  replace h := olet_s er1 h
  refine lv_istore_n (lv' := [(3, .int r1), (0, .int p0), (1, .int p1), (2, .int p2)]) hx hb dX1_of_5 rfl hl (by decide) rfl (fun ls hl => ?_)
  refine lv_iload_n hx hb dX1_of_6 rfl (lv_at hl 1 rfl) ?_
  refine k_X0_tagOf S aM_RX1_15 ⟨Nat.le_of_ble_eq_true rfl, Nat.le_of_ble_eq_true rfl⟩ ⟨Nat.zero_le _, Nat.zero_le _⟩ hl.1 (Nat.le_of_ble_eq_true rfl) dX1_of_7 (fun r2 er2 => ?_)
  replace h := olet_s er2 h
  refine lv_iload_n hx hb dX1_of_10 rfl (lv_at hl 0 rfl) ?_
  refine lv_iload_n hx hb dX1_of_11 rfl (lv_at hl 3 rfl) ?_
  refine lv_iload_n hx hb dX1_of_12 rfl (lv_at hl 1 rfl) ?_
  refine lv_iload_n hx hb dX1_of_13 rfl (lv_at hl 2 rfl) ?_
  refine lv_iload_n hx hb dX1_of_14 rfl (lv_at hl 3 rfl) ?_
  refine k_X0_printOf S aM_RX1_19 ⟨Nat.le_of_ble_eq_true rfl, Nat.le_of_ble_eq_true rfl⟩ ⟨Nat.zero_le _, Nat.zero_le _⟩ hl.1 (Nat.le_of_ble_eq_true rfl) dX1_of_15 (fun r3 er3 => ?_)
  replace h := olet_s er3 h
  refine k_X1_pack S aM_RX1_23 ⟨Nat.le_of_ble_eq_true rfl, Nat.le_of_ble_eq_true rfl⟩ ⟨Nat.zero_le _, Nat.zero_le _⟩ hl.1 (Nat.le_of_ble_eq_true rfl) dX1_of_18 (fun r4 er4 => ?_)
  replace h := olet_s er4 h
  subst h
  exact W.iret (v := r4) hx hb hr (fun t ht hW => ⟨_, rfl, rfl, ht⟩) (fun q hq => absurd hq List.not_mem_nil) dX1_of_21
theorem k_X1_of {p : Program} {l : Launch} {e : Env} {R : Room} {s : State} {m : MethodId} {args : Array Value} {below : List Frame} {meth : Method} {c : Code} {H : Heap} {locs : List Loc} {cells slots : Nat} {Q : State → Prop} {cc : ByteArray} {pc nL idx : Nat} {ls : Array Slot} {rest : List Value} {own : String} {p0 : Int32} {p1 : Int32} {p2 : Int32} (S : CallFix p m c cc nL s args AW own) (h1 : Cond.methodLink own idx yX1_of ∈ AW) (hR : 1 + 1 ≤ R.frames ∧ 8 + (4 + 11) + 23 ≤ R.locals) (hc : cells ≤ R.cells ∧ slots ≤ R.slots) (hsz : ls.size = nL) (hW : (rest.map fun v => v.category).sum ≤ 8) (hdg : decode cc pc = .ok (.invokestatic idx, 3)) (kk : ∀ r : Int32, r = G_X1_of p0 p1 p2 → W p l e R s m args below meth c H locs cells slots Q (F0 m (pc + 3) ls (.int r :: rest))) : W p l e R s m args below meth c H locs cells slots Q (F0 m pc ls (.int p2 :: .int p1 :: .int p0 :: rest)) :=
  fm_runS (n := 3) (As := [.int p0, .int p1, .int p2]) S (c_X1_of l p0 p1 p2 _ rfl) h1 aS_X1_of aN_RX1 aC_X1_of rfl rfl (by decide +kernel) rfl hR hc hsz hW hdg (fun r hr => kk r hr)
set_option maxHeartbeats 4000000 in
set_option maxRecDepth 100000 in
theorem c_X1_tagOf (l : Launch) (p0 : Int32) (r0 : Int32) (hF : G_X1_tagOf p0 = r0) : Met l yX1_tagOf (wsA yX1_tagOf cX1_tagOf 1 (some .int)) { frames := 0, cells := 0, slots := 0, locals := 0 } (va_Pc [.int p0] (fun _ => True)) (vp_Si (fun r => r = r0)) 0 0 (fun _ => False) := by
  refine Met.ofW (cc := cX1_tagOf) (maxL := 1) (ret := (some .int)) (by decide) rfl ?_
  intro p e s m args below meth c s₁ B hml hpre
  obtain ⟨rfl, -⟩ := hpre
  have hx := B.exec
  have hb := B.bytes
  have hr := B.returns
  have hA : ∀ w ∈ AW, w.before _ s = true := fun w h => atoms_spec (ws := wsA yX1_tagOf cX1_tagOf 1 (some .int)) B.pre w (List.mem_cons_of_mem _ h)
  have hown : s.vm.findClass RX1 = some m.cls := findClass_of_methodNamed B.named
  have hlocks := B.notSynchronized
  have S : CallFix p m c cX1_tagOf 1 s ([.int p0] : List Value).toArray AW RX1 := ⟨hx, hb, hml, hown, hA⟩
  have hl := lv_entry ([.int p0]) (n := 1) (Nat.le_of_ble_eq_true rfl)
  rw [lg_entry_eq]
  generalize (lg_sl ([.int p0]) ++ List.replicate (1 - (lg_sl ([.int p0])).length) Slot.unset).toArray = ls at hl ⊢
  have hl : lv_has ls 1 [(0, .int p0)] := hl
  have h := hF
  unfold G_X1_tagOf at h
  refine lv_iload_n hx hb dX1_tagOf_0 rfl (lv_at hl 0 rfl) ?_
  refine lv_bipush (v := 63) hx hb dX1_tagOf_1 (by decide) ?_
  refine lv_iand hx hb dX1_tagOf_3 ?_
  subst h
  exact W.iret (v := (p0 &&& 63)) hx hb hr (fun t ht hW => ⟨_, rfl, rfl, ht⟩) (fun q hq => absurd hq List.not_mem_nil) dX1_tagOf_4
theorem k_X1_tagOf {p : Program} {l : Launch} {e : Env} {R : Room} {s : State} {m : MethodId} {args : Array Value} {below : List Frame} {meth : Method} {c : Code} {H : Heap} {locs : List Loc} {cells slots : Nat} {Q : State → Prop} {cc : ByteArray} {pc nL idx : Nat} {ls : Array Slot} {rest : List Value} {own : String} {p0 : Int32} (S : CallFix p m c cc nL s args AW own) (h1 : Cond.methodLink own idx yX1_tagOf ∈ AW) (hR : 0 + 1 ≤ R.frames ∧ 8 + (1 + 11) + 0 ≤ R.locals) (hc : cells ≤ R.cells ∧ slots ≤ R.slots) (hsz : ls.size = nL) (hW : (rest.map fun v => v.category).sum ≤ 8) (hdg : decode cc pc = .ok (.invokestatic idx, 3)) (kk : ∀ r : Int32, r = G_X1_tagOf p0 → W p l e R s m args below meth c H locs cells slots Q (F0 m (pc + 3) ls (.int r :: rest))) : W p l e R s m args below meth c H locs cells slots Q (F0 m pc ls (.int p0 :: rest)) :=
  fm_runS (n := 1) (As := [.int p0]) S (c_X1_tagOf l p0 _ rfl) h1 aS_X1_tagOf aN_RX1 aC_X1_tagOf rfl rfl (by decide +kernel) rfl hR hc hsz hW hdg (fun r hr => kk r hr)
set_option maxHeartbeats 4000000 in
set_option maxRecDepth 100000 in
theorem c_X1_homeOf (l : Launch) (p0 : Int32) (r0 : Int32) (hF : G_X1_homeOf p0 = r0) : Met l yX1_homeOf (wsA yX1_homeOf cX1_homeOf 1 (some .int)) { frames := 0, cells := 0, slots := 0, locals := 0 } (va_Pc [.int p0] (fun _ => True)) (vp_Si (fun r => r = r0)) 0 0 (fun _ => False) := by
  refine Met.ofW (cc := cX1_homeOf) (maxL := 1) (ret := (some .int)) (by decide) rfl ?_
  intro p e s m args below meth c s₁ B hml hpre
  obtain ⟨rfl, -⟩ := hpre
  have hx := B.exec
  have hb := B.bytes
  have hr := B.returns
  have hA : ∀ w ∈ AW, w.before _ s = true := fun w h => atoms_spec (ws := wsA yX1_homeOf cX1_homeOf 1 (some .int)) B.pre w (List.mem_cons_of_mem _ h)
  have hown : s.vm.findClass RX1 = some m.cls := findClass_of_methodNamed B.named
  have hlocks := B.notSynchronized
  have S : CallFix p m c cX1_homeOf 1 s ([.int p0] : List Value).toArray AW RX1 := ⟨hx, hb, hml, hown, hA⟩
  have hl := lv_entry ([.int p0]) (n := 1) (Nat.le_of_ble_eq_true rfl)
  rw [lg_entry_eq]
  generalize (lg_sl ([.int p0]) ++ List.replicate (1 - (lg_sl ([.int p0])).length) Slot.unset).toArray = ls at hl ⊢
  have hl : lv_has ls 1 [(0, .int p0)] := hl
  have h := hF
  unfold G_X1_homeOf at h
  refine lv_iload_n hx hb dX1_homeOf_0 rfl (lv_at hl 0 rfl) ?_
  refine lv_bipush (v := 6) hx hb dX1_homeOf_1 (by decide) ?_
  refine lv_ishr hx hb dX1_homeOf_3 ?_
  refine lv_bipush (v := 63) hx hb dX1_homeOf_4 (by decide) ?_
  refine lv_iand hx hb dX1_homeOf_6 ?_
  subst h
  exact W.iret (v := ((p0 >>> (6 &&& 31)) &&& 63)) hx hb hr (fun t ht hW => ⟨_, rfl, rfl, ht⟩) (fun q hq => absurd hq List.not_mem_nil) dX1_homeOf_7
theorem k_X1_homeOf {p : Program} {l : Launch} {e : Env} {R : Room} {s : State} {m : MethodId} {args : Array Value} {below : List Frame} {meth : Method} {c : Code} {H : Heap} {locs : List Loc} {cells slots : Nat} {Q : State → Prop} {cc : ByteArray} {pc nL idx : Nat} {ls : Array Slot} {rest : List Value} {own : String} {p0 : Int32} (S : CallFix p m c cc nL s args AW own) (h1 : Cond.methodLink own idx yX1_homeOf ∈ AW) (hR : 0 + 1 ≤ R.frames ∧ 8 + (1 + 11) + 0 ≤ R.locals) (hc : cells ≤ R.cells ∧ slots ≤ R.slots) (hsz : ls.size = nL) (hW : (rest.map fun v => v.category).sum ≤ 8) (hdg : decode cc pc = .ok (.invokestatic idx, 3)) (kk : ∀ r : Int32, r = G_X1_homeOf p0 → W p l e R s m args below meth c H locs cells slots Q (F0 m (pc + 3) ls (.int r :: rest))) : W p l e R s m args below meth c H locs cells slots Q (F0 m pc ls (.int p0 :: rest)) :=
  fm_runS (n := 1) (As := [.int p0]) S (c_X1_homeOf l p0 _ rfl) h1 aS_X1_homeOf aN_RX1 aC_X1_homeOf rfl rfl (by decide +kernel) rfl hR hc hsz hW hdg (fun r hr => kk r hr)
set_option maxHeartbeats 4000000 in
set_option maxRecDepth 100000 in
theorem c_X1_lengthOf (l : Launch) (p0 : Int32) (r0 : Int32) (hF : G_X1_lengthOf p0 = r0) : Met l yX1_lengthOf (wsA yX1_lengthOf cX1_lengthOf 1 (some .int)) { frames := 0, cells := 0, slots := 0, locals := 0 } (va_Pc [.int p0] (fun _ => True)) (vp_Si (fun r => r = r0)) 0 0 (fun _ => False) := by
  refine Met.ofW (cc := cX1_lengthOf) (maxL := 1) (ret := (some .int)) (by decide) rfl ?_
  intro p e s m args below meth c s₁ B hml hpre
  obtain ⟨rfl, -⟩ := hpre
  have hx := B.exec
  have hb := B.bytes
  have hr := B.returns
  have hA : ∀ w ∈ AW, w.before _ s = true := fun w h => atoms_spec (ws := wsA yX1_lengthOf cX1_lengthOf 1 (some .int)) B.pre w (List.mem_cons_of_mem _ h)
  have hown : s.vm.findClass RX1 = some m.cls := findClass_of_methodNamed B.named
  have hlocks := B.notSynchronized
  have S : CallFix p m c cX1_lengthOf 1 s ([.int p0] : List Value).toArray AW RX1 := ⟨hx, hb, hml, hown, hA⟩
  have hl := lv_entry ([.int p0]) (n := 1) (Nat.le_of_ble_eq_true rfl)
  rw [lg_entry_eq]
  generalize (lg_sl ([.int p0]) ++ List.replicate (1 - (lg_sl ([.int p0])).length) Slot.unset).toArray = ls at hl ⊢
  have hl : lv_has ls 1 [(0, .int p0)] := hl
  have h := hF
  unfold G_X1_lengthOf at h
  refine lv_iload_n hx hb dX1_lengthOf_0 rfl (lv_at hl 0 rfl) ?_
  refine lv_bipush (v := 12) hx hb dX1_lengthOf_1 (by decide) ?_
  refine lv_ishr hx hb dX1_lengthOf_3 ?_
  refine lv_bipush (v := 15) hx hb dX1_lengthOf_4 (by decide) ?_
  refine lv_iand hx hb dX1_lengthOf_6 ?_
  subst h
  exact W.iret (v := ((p0 >>> (12 &&& 31)) &&& 15)) hx hb hr (fun t ht hW => ⟨_, rfl, rfl, ht⟩) (fun q hq => absurd hq List.not_mem_nil) dX1_lengthOf_7
theorem k_X1_lengthOf {p : Program} {l : Launch} {e : Env} {R : Room} {s : State} {m : MethodId} {args : Array Value} {below : List Frame} {meth : Method} {c : Code} {H : Heap} {locs : List Loc} {cells slots : Nat} {Q : State → Prop} {cc : ByteArray} {pc nL idx : Nat} {ls : Array Slot} {rest : List Value} {own : String} {p0 : Int32} (S : CallFix p m c cc nL s args AW own) (h1 : Cond.methodLink own idx yX1_lengthOf ∈ AW) (hR : 0 + 1 ≤ R.frames ∧ 8 + (1 + 11) + 0 ≤ R.locals) (hc : cells ≤ R.cells ∧ slots ≤ R.slots) (hsz : ls.size = nL) (hW : (rest.map fun v => v.category).sum ≤ 8) (hdg : decode cc pc = .ok (.invokestatic idx, 3)) (kk : ∀ r : Int32, r = G_X1_lengthOf p0 → W p l e R s m args below meth c H locs cells slots Q (F0 m (pc + 3) ls (.int r :: rest))) : W p l e R s m args below meth c H locs cells slots Q (F0 m pc ls (.int p0 :: rest)) :=
  fm_runS (n := 1) (As := [.int p0]) S (c_X1_lengthOf l p0 _ rfl) h1 aS_X1_lengthOf aN_RX1 aC_X1_lengthOf rfl rfl (by decide +kernel) rfl hR hc hsz hW hdg (fun r hr => kk r hr)
set_option maxHeartbeats 4000000 in
set_option maxRecDepth 100000 in
theorem c_X1_printOf (l : Launch) (p0 : Int32) (r0 : Int32) (hF : G_X1_printOf p0 = r0) : Met l yX1_printOf (wsA yX1_printOf cX1_printOf 1 (some .int)) { frames := 0, cells := 0, slots := 0, locals := 0 } (va_Pc [.int p0] (fun _ => True)) (vp_Si (fun r => r = r0)) 0 0 (fun _ => False) := by
  refine Met.ofW (cc := cX1_printOf) (maxL := 1) (ret := (some .int)) (by decide) rfl ?_
  intro p e s m args below meth c s₁ B hml hpre
  obtain ⟨rfl, -⟩ := hpre
  have hx := B.exec
  have hb := B.bytes
  have hr := B.returns
  have hA : ∀ w ∈ AW, w.before _ s = true := fun w h => atoms_spec (ws := wsA yX1_printOf cX1_printOf 1 (some .int)) B.pre w (List.mem_cons_of_mem _ h)
  have hown : s.vm.findClass RX1 = some m.cls := findClass_of_methodNamed B.named
  have hlocks := B.notSynchronized
  have S : CallFix p m c cX1_printOf 1 s ([.int p0] : List Value).toArray AW RX1 := ⟨hx, hb, hml, hown, hA⟩
  have hl := lv_entry ([.int p0]) (n := 1) (Nat.le_of_ble_eq_true rfl)
  rw [lg_entry_eq]
  generalize (lg_sl ([.int p0]) ++ List.replicate (1 - (lg_sl ([.int p0])).length) Slot.unset).toArray = ls at hl ⊢
  have hl : lv_has ls 1 [(0, .int p0)] := hl
  have h := hF
  unfold G_X1_printOf at h
  refine lv_iload_n hx hb dX1_printOf_0 rfl (lv_at hl 0 rfl) ?_
  refine lv_bipush (v := 16) hx hb dX1_printOf_1 (by decide) ?_
  refine lv_ishr hx hb dX1_printOf_3 ?_
  refine lv_sipush (v := 255) hx hb dX1_printOf_4 (by decide) ?_
  refine lv_iand hx hb dX1_printOf_7 ?_
  subst h
  exact W.iret (v := ((p0 >>> (16 &&& 31)) &&& 255)) hx hb hr (fun t ht hW => ⟨_, rfl, rfl, ht⟩) (fun q hq => absurd hq List.not_mem_nil) dX1_printOf_8
theorem k_X1_printOf {p : Program} {l : Launch} {e : Env} {R : Room} {s : State} {m : MethodId} {args : Array Value} {below : List Frame} {meth : Method} {c : Code} {H : Heap} {locs : List Loc} {cells slots : Nat} {Q : State → Prop} {cc : ByteArray} {pc nL idx : Nat} {ls : Array Slot} {rest : List Value} {own : String} {p0 : Int32} (S : CallFix p m c cc nL s args AW own) (h1 : Cond.methodLink own idx yX1_printOf ∈ AW) (hR : 0 + 1 ≤ R.frames ∧ 8 + (1 + 11) + 0 ≤ R.locals) (hc : cells ≤ R.cells ∧ slots ≤ R.slots) (hsz : ls.size = nL) (hW : (rest.map fun v => v.category).sum ≤ 8) (hdg : decode cc pc = .ok (.invokestatic idx, 3)) (kk : ∀ r : Int32, r = G_X1_printOf p0 → W p l e R s m args below meth c H locs cells slots Q (F0 m (pc + 3) ls (.int r :: rest))) : W p l e R s m args below meth c H locs cells slots Q (F0 m pc ls (.int p0 :: rest)) :=
  fm_runS (n := 1) (As := [.int p0]) S (c_X1_printOf l p0 _ rfl) h1 aS_X1_printOf aN_RX1 aC_X1_printOf rfl rfl (by decide +kernel) rfl hR hc hsz hW hdg (fun r hr => kk r hr)
set_option maxHeartbeats 4000000 in
set_option maxRecDepth 100000 in
theorem c_X1_lengthIfMatching (l : Launch) (p0 : Int32) (p1 : Int32) (p2 : Int32) (r0 : Int32) (hF : G_X1_lengthIfMatching p0 p1 p2 = r0) : Met l yX1_lengthIfMatching (wsA yX1_lengthIfMatching cX1_lengthIfMatching 4 (some .int)) { frames := 1, cells := 0, slots := 0, locals := 22 } (va_Pc [.int p0, .int p1, .int p2] (fun _ => True)) (vp_Si (fun r => r = r0)) 0 0 (fun _ => False) := by
  refine Met.ofW (cc := cX1_lengthIfMatching) (maxL := 4) (ret := (some .int)) (by decide) rfl ?_
  intro p e s m args below meth c s₁ B hml hpre
  obtain ⟨rfl, -⟩ := hpre
  have hx := B.exec
  have hb := B.bytes
  have hr := B.returns
  have hA : ∀ w ∈ AW, w.before _ s = true := fun w h => atoms_spec (ws := wsA yX1_lengthIfMatching cX1_lengthIfMatching 4 (some .int)) B.pre w (List.mem_cons_of_mem _ h)
  have hown : s.vm.findClass RX1 = some m.cls := findClass_of_methodNamed B.named
  have hlocks := B.notSynchronized
  have S : CallFix p m c cX1_lengthIfMatching 4 s ([.int p0, .int p1, .int p2] : List Value).toArray AW RX1 := ⟨hx, hb, hml, hown, hA⟩
  have hl := lv_entry ([.int p0, .int p1, .int p2]) (n := 4) (Nat.le_of_ble_eq_true rfl)
  rw [lg_entry_eq]
  generalize (lg_sl ([.int p0, .int p1, .int p2]) ++ List.replicate (4 - (lg_sl ([.int p0, .int p1, .int p2])).length) Slot.unset).toArray = ls at hl ⊢
  have hl : lv_has ls 4 [(0, .int p0), (1, .int p1), (2, .int p2)] := hl
  have h := hF
  unfold G_X1_lengthIfMatching at h
  refine lv_iload_n hx hb dX1_lengthIfMatching_0 rfl (lv_at hl 0 rfl) ?_
  refine lv_iconst (v := (-1)) hx hb dX1_lengthIfMatching_1 (by decide) ?_
  refine lv_icmp_eq (tgt := 28) hx hb dX1_lengthIfMatching_2 (by decide) (fun hc => ?_) (fun hc => ?_)
  · replace h := oi_t hc h
    refine lv_iconst (v := (-1)) hx hb dX1_lengthIfMatching_28 (by decide) ?_
    subst h
    exact W.iret (v := (-1)) hx hb hr (fun t ht hW => ⟨_, rfl, rfl, ht⟩) (fun q hq => absurd hq List.not_mem_nil) dX1_lengthIfMatching_29
  · replace h := oi_f hc h
    refine lv_iload_n hx hb dX1_lengthIfMatching_5 rfl (lv_at hl 0 rfl) ?_
    refine k_X1_tagOf S aM_RX1_29 ⟨Nat.le_of_ble_eq_true rfl, Nat.le_of_ble_eq_true rfl⟩ ⟨Nat.zero_le _, Nat.zero_le _⟩ hl.1 (Nat.le_of_ble_eq_true rfl) dX1_lengthIfMatching_6 (fun r1 er1 => ?_)
    replace h := olet_s er1 h
    refine lv_iload_n hx hb dX1_lengthIfMatching_9 rfl (lv_at hl 1 rfl) ?_
    refine k_X0_tagOf S aM_RX1_15 ⟨Nat.le_of_ble_eq_true rfl, Nat.le_of_ble_eq_true rfl⟩ ⟨Nat.zero_le _, Nat.zero_le _⟩ hl.1 (Nat.le_of_ble_eq_true rfl) dX1_lengthIfMatching_10 (fun r2 er2 => ?_)
    replace h := olet_s er2 h
    refine lv_icmp_ne (tgt := 28) hx hb dX1_lengthIfMatching_13 (by decide) (fun hc => ?_) (fun hc => ?_)
    · replace h := oi_f hc h
      refine lv_iconst (v := (-1)) hx hb dX1_lengthIfMatching_28 (by decide) ?_
      subst h
      exact W.iret (v := (-1)) hx hb hr (fun t ht hW => ⟨_, rfl, rfl, ht⟩) (fun q hq => absurd hq List.not_mem_nil) dX1_lengthIfMatching_29
    · replace h := oi_t hc h
      refine lv_iload_n hx hb dX1_lengthIfMatching_16 rfl (lv_at hl 0 rfl) ?_
      refine k_X1_homeOf S aM_RX1_30 ⟨Nat.le_of_ble_eq_true rfl, Nat.le_of_ble_eq_true rfl⟩ ⟨Nat.zero_le _, Nat.zero_le _⟩ hl.1 (Nat.le_of_ble_eq_true rfl) dX1_lengthIfMatching_17 (fun r3 er3 => ?_)
      replace h := olet_s er3 h
      refine lv_iload_n hx hb dX1_lengthIfMatching_20 rfl (lv_at hl 1 rfl) ?_
      refine lv_iload_n hx hb dX1_lengthIfMatching_21 rfl (lv_at hl 2 rfl) ?_
      refine k_X0_homeOf S aM_RX1_9 ⟨Nat.le_of_ble_eq_true rfl, Nat.le_of_ble_eq_true rfl⟩ ⟨Nat.zero_le _, Nat.zero_le _⟩ hl.1 (Nat.le_of_ble_eq_true rfl) dX1_lengthIfMatching_22 (fun r4 er4 => ?_)
      replace h := olet_s er4 h
      refine lv_icmp_eq (tgt := 30) hx hb dX1_lengthIfMatching_25 (by decide) (fun hc => ?_) (fun hc => ?_)
      · replace h := oi_t hc h
        refine lv_iload_n hx hb dX1_lengthIfMatching_30 rfl (lv_at hl 0 rfl) ?_
        refine k_X1_lengthOf S aM_RX1_32 ⟨Nat.le_of_ble_eq_true rfl, Nat.le_of_ble_eq_true rfl⟩ ⟨Nat.zero_le _, Nat.zero_le _⟩ hl.1 (Nat.le_of_ble_eq_true rfl) dX1_lengthIfMatching_31 (fun r5 er5 => ?_)
        replace h := olet_s er5 h
        refine lv_istore_n (lv' := [(3, .int r5), (0, .int p0), (1, .int p1), (2, .int p2)]) hx hb dX1_lengthIfMatching_34 rfl hl (by decide) rfl (fun ls hl => ?_)
        refine lv_iload_n hx hb dX1_lengthIfMatching_35 rfl (lv_at hl 1 rfl) ?_
        refine k_X1_printOf S aM_RX1_35 ⟨Nat.le_of_ble_eq_true rfl, Nat.le_of_ble_eq_true rfl⟩ ⟨Nat.zero_le _, Nat.zero_le _⟩ hl.1 (Nat.le_of_ble_eq_true rfl) dX1_lengthIfMatching_36 (fun r6 er6 => ?_)
        replace h := olet_s er6 h
        refine lv_iload_n hx hb dX1_lengthIfMatching_39 rfl (lv_at hl 2 rfl) ?_
        refine lv_iload_n hx hb dX1_lengthIfMatching_40 rfl (lv_at hl 3 rfl) ?_
        refine lv_iload_n hx hb dX1_lengthIfMatching_41 rfl (lv_at hl 0 rfl) ?_
        refine k_X0_printOf S aM_RX1_19 ⟨Nat.le_of_ble_eq_true rfl, Nat.le_of_ble_eq_true rfl⟩ ⟨Nat.zero_le _, Nat.zero_le _⟩ hl.1 (Nat.le_of_ble_eq_true rfl) dX1_lengthIfMatching_42 (fun r7 er7 => ?_)
        replace h := olet_s er7 h
        refine lv_icmp_ne (tgt := 52) hx hb dX1_lengthIfMatching_45 (by decide) (fun hc => ?_) (fun hc => ?_)
        · replace h := oi_f hc h
          refine lv_iconst (v := (-1)) hx hb dX1_lengthIfMatching_52 (by decide) ?_
          subst h
          exact W.iret (v := (-1)) hx hb hr (fun t ht hW => ⟨_, rfl, rfl, ht⟩) (fun q hq => absurd hq List.not_mem_nil) dX1_lengthIfMatching_53
        · replace h := oi_t hc h
          refine lv_iload_n hx hb dX1_lengthIfMatching_48 rfl (lv_at hl 0 rfl) ?_
          refine lv_goto (tgt := 53) hx hb dX1_lengthIfMatching_49 (by decide) ?_
          subst h
          exact W.iret (v := r5) hx hb hr (fun t ht hW => ⟨_, rfl, rfl, ht⟩) (fun q hq => absurd hq List.not_mem_nil) dX1_lengthIfMatching_53
      · replace h := oi_f hc h
        refine lv_iconst (v := (-1)) hx hb dX1_lengthIfMatching_28 (by decide) ?_
        subst h
        exact W.iret (v := (-1)) hx hb hr (fun t ht hW => ⟨_, rfl, rfl, ht⟩) (fun q hq => absurd hq List.not_mem_nil) dX1_lengthIfMatching_29
theorem k_X1_lengthIfMatching {p : Program} {l : Launch} {e : Env} {R : Room} {s : State} {m : MethodId} {args : Array Value} {below : List Frame} {meth : Method} {c : Code} {H : Heap} {locs : List Loc} {cells slots : Nat} {Q : State → Prop} {cc : ByteArray} {pc nL idx : Nat} {ls : Array Slot} {rest : List Value} {own : String} {p0 : Int32} {p1 : Int32} {p2 : Int32} (S : CallFix p m c cc nL s args AW own) (h1 : Cond.methodLink own idx yX1_lengthIfMatching ∈ AW) (hR : 1 + 1 ≤ R.frames ∧ 8 + (4 + 11) + 22 ≤ R.locals) (hc : cells ≤ R.cells ∧ slots ≤ R.slots) (hsz : ls.size = nL) (hW : (rest.map fun v => v.category).sum ≤ 8) (hdg : decode cc pc = .ok (.invokestatic idx, 3)) (kk : ∀ r : Int32, r = G_X1_lengthIfMatching p0 p1 p2 → W p l e R s m args below meth c H locs cells slots Q (F0 m (pc + 3) ls (.int r :: rest))) : W p l e R s m args below meth c H locs cells slots Q (F0 m pc ls (.int p2 :: .int p1 :: .int p0 :: rest)) :=
  fm_runS (n := 3) (As := [.int p0, .int p1, .int p2]) S (c_X1_lengthIfMatching l p0 p1 p2 _ rfl) h1 aS_X1_lengthIfMatching aN_RX1 aC_X1_lengthIfMatching rfl rfl (by decide +kernel) rfl hR hc hsz hW hdg (fun r hr => kk r hr)
set_option maxHeartbeats 4000000 in
set_option maxRecDepth 100000 in
theorem c_X1_doubled (l : Launch) (p0 : Int32) (p1 : Int32) (r0 : Int32) (hF : G_X1_doubled p0 p1 = r0) : Met l yX1_doubled (wsA yX1_doubled cX1_doubled 4 (some .int)) { frames := 1, cells := 0, slots := 0, locals := 23 } (va_Pc [.int p0, .int p1] (fun _ => True)) (vp_Si (fun r => r = r0)) 0 0 (fun _ => False) := by
  refine Met.ofW (cc := cX1_doubled) (maxL := 4) (ret := (some .int)) (by decide) rfl ?_
  intro p e s m args below meth c s₁ B hml hpre
  obtain ⟨rfl, -⟩ := hpre
  have hx := B.exec
  have hb := B.bytes
  have hr := B.returns
  have hA : ∀ w ∈ AW, w.before _ s = true := fun w h => atoms_spec (ws := wsA yX1_doubled cX1_doubled 4 (some .int)) B.pre w (List.mem_cons_of_mem _ h)
  have hown : s.vm.findClass RX1 = some m.cls := findClass_of_methodNamed B.named
  have hlocks := B.notSynchronized
  have S : CallFix p m c cX1_doubled 4 s ([.int p0, .int p1] : List Value).toArray AW RX1 := ⟨hx, hb, hml, hown, hA⟩
  have hl := lv_entry ([.int p0, .int p1]) (n := 4) (Nat.le_of_ble_eq_true rfl)
  rw [lg_entry_eq]
  generalize (lg_sl ([.int p0, .int p1]) ++ List.replicate (4 - (lg_sl ([.int p0, .int p1])).length) Slot.unset).toArray = ls at hl ⊢
  have hl : lv_has ls 4 [(0, .int p0), (1, .int p1)] := hl
  have h := hF
  unfold G_X1_doubled at h
  refine lv_iload_n hx hb dX1_doubled_0 rfl (lv_at hl 0 rfl) ?_
  refine k_X1_printOf S aM_RX1_35 ⟨Nat.le_of_ble_eq_true rfl, Nat.le_of_ble_eq_true rfl⟩ ⟨Nat.zero_le _, Nat.zero_le _⟩ hl.1 (Nat.le_of_ble_eq_true rfl) dX1_doubled_1 (fun r1 er1 => ?_)
  replace h := olet_s er1 h
  refine lv_istore_n (lv' := [(2, .int r1), (0, .int p0), (1, .int p1)]) hx hb dX1_doubled_4 rfl hl (by decide) rfl (fun ls hl => ?_)
  refine lv_iload_n hx hb dX1_doubled_5 rfl (lv_at hl 1 rfl) ?_
  refine k_X1_homeOf S aM_RX1_30 ⟨Nat.le_of_ble_eq_true rfl, Nat.le_of_ble_eq_true rfl⟩ ⟨Nat.zero_le _, Nat.zero_le _⟩ hl.1 (Nat.le_of_ble_eq_true rfl) dX1_doubled_6 (fun r2 er2 => ?_)
  replace h := olet_s er2 h
  refine lv_iload_n hx hb dX1_doubled_9 rfl (lv_at hl 0 rfl) ?_
  refine lv_iconst (v := 1) hx hb dX1_doubled_10 (by decide) ?_
  refine lv_iand hx hb dX1_doubled_11 ?_
  refine lv_iload_n hx hb dX1_doubled_12 rfl (lv_at hl 2 rfl) ?_
  refine lv_ishl hx hb dX1_doubled_13 ?_
  refine lv_iadd hx hb dX1_doubled_14 ?_
  refine lv_topi (fun x3 ex3 => ?_)
  replace h := olet_s ex3 h
  refine lv_istore_n (lv' := [(3, .int x3), (2, .int r1), (0, .int p0), (1, .int p1)]) hx hb dX1_doubled_15 rfl hl (by decide) rfl (fun ls hl => ?_)
  refine lv_iload_n hx hb dX1_doubled_16 rfl (lv_at hl 2 rfl) ?_
  refine k_X1_tagOf S aM_RX1_29 ⟨Nat.le_of_ble_eq_true rfl, Nat.le_of_ble_eq_true rfl⟩ ⟨Nat.zero_le _, Nat.zero_le _⟩ hl.1 (Nat.le_of_ble_eq_true rfl) dX1_doubled_17 (fun r4 er4 => ?_)
  replace h := olet_s er4 h
  refine lv_iload_n hx hb dX1_doubled_20 rfl (lv_at hl 0 rfl) ?_
  refine lv_iload_n hx hb dX1_doubled_21 rfl (lv_at hl 2 rfl) ?_
  refine k_X1_lengthOf S aM_RX1_32 ⟨Nat.le_of_ble_eq_true rfl, Nat.le_of_ble_eq_true rfl⟩ ⟨Nat.zero_le _, Nat.zero_le _⟩ hl.1 (Nat.le_of_ble_eq_true rfl) dX1_doubled_22 (fun r5 er5 => ?_)
  replace h := olet_s er5 h
  refine lv_iconst (v := 1) hx hb dX1_doubled_25 (by decide) ?_
  refine lv_isub hx hb dX1_doubled_26 ?_
  refine lv_iload_n hx hb dX1_doubled_27 rfl (lv_at hl 1 rfl) ?_
  refine lv_iconst (v := 1) hx hb dX1_doubled_28 (by decide) ?_
  refine lv_ishr hx hb dX1_doubled_29 ?_
  refine k_X1_pack S aM_RX1_23 ⟨Nat.le_of_ble_eq_true rfl, Nat.le_of_ble_eq_true rfl⟩ ⟨Nat.zero_le _, Nat.zero_le _⟩ hl.1 (Nat.le_of_ble_eq_true rfl) dX1_doubled_30 (fun r6 er6 => ?_)
  replace h := olet_s er6 h
  subst h
  exact W.iret (v := r6) hx hb hr (fun t ht hW => ⟨_, rfl, rfl, ht⟩) (fun q hq => absurd hq List.not_mem_nil) dX1_doubled_33
theorem k_X1_doubled {p : Program} {l : Launch} {e : Env} {R : Room} {s : State} {m : MethodId} {args : Array Value} {below : List Frame} {meth : Method} {c : Code} {H : Heap} {locs : List Loc} {cells slots : Nat} {Q : State → Prop} {cc : ByteArray} {pc nL idx : Nat} {ls : Array Slot} {rest : List Value} {own : String} {p0 : Int32} {p1 : Int32} (S : CallFix p m c cc nL s args AW own) (h1 : Cond.methodLink own idx yX1_doubled ∈ AW) (hR : 1 + 1 ≤ R.frames ∧ 8 + (4 + 11) + 23 ≤ R.locals) (hc : cells ≤ R.cells ∧ slots ≤ R.slots) (hsz : ls.size = nL) (hW : (rest.map fun v => v.category).sum ≤ 8) (hdg : decode cc pc = .ok (.invokestatic idx, 3)) (kk : ∀ r : Int32, r = G_X1_doubled p0 p1 → W p l e R s m args below meth c H locs cells slots Q (F0 m (pc + 3) ls (.int r :: rest))) : W p l e R s m args below meth c H locs cells slots Q (F0 m pc ls (.int p1 :: .int p0 :: rest)) :=
  fm_runS (n := 2) (As := [.int p0, .int p1]) S (c_X1_doubled l p0 p1 _ rfl) h1 aS_X1_doubled aN_RX1 aC_X1_doubled rfl rfl (by decide +kernel) rfl hR hc hsz hW hdg (fun r hr => kk r hr)
set_option maxHeartbeats 4000000 in
set_option maxRecDepth 100000 in
theorem c_X2_placeIn (l : Launch) (p0 : Int32) (p1 : Int32) (r0 : Int32) (hF : G_X2_placeIn p0 p1 = r0) : Met l yX2_placeIn (wsA yX2_placeIn cX2_placeIn 2 (some .int)) { frames := 0, cells := 0, slots := 0, locals := 0 } (va_Pc [.int p0, .int p1] (fun _ => True)) (vp_Si (fun r => r = r0)) 0 0 (fun _ => False) := by
  refine Met.ofW (cc := cX2_placeIn) (maxL := 2) (ret := (some .int)) (by decide) rfl ?_
  intro p e s m args below meth c s₁ B hml hpre
  obtain ⟨rfl, -⟩ := hpre
  have hx := B.exec
  have hb := B.bytes
  have hr := B.returns
  have hA : ∀ w ∈ AW, w.before _ s = true := fun w h => atoms_spec (ws := wsA yX2_placeIn cX2_placeIn 2 (some .int)) B.pre w (List.mem_cons_of_mem _ h)
  have hown : s.vm.findClass RX2 = some m.cls := findClass_of_methodNamed B.named
  have hlocks := B.notSynchronized
  have S : CallFix p m c cX2_placeIn 2 s ([.int p0, .int p1] : List Value).toArray AW RX2 := ⟨hx, hb, hml, hown, hA⟩
  have hl := lv_entry ([.int p0, .int p1]) (n := 2) (Nat.le_of_ble_eq_true rfl)
  rw [lg_entry_eq]
  generalize (lg_sl ([.int p0, .int p1]) ++ List.replicate (2 - (lg_sl ([.int p0, .int p1])).length) Slot.unset).toArray = ls at hl ⊢
  have hl : lv_has ls 2 [(0, .int p0), (1, .int p1)] := hl
  have h := hF
  unfold G_X2_placeIn at h
  refine lv_iload_n hx hb dX2_placeIn_0 rfl (lv_at hl 0 rfl) ?_
  refine lv_iconst (v := 4) hx hb dX2_placeIn_1 (by decide) ?_
  refine lv_imul hx hb dX2_placeIn_2 ?_
  refine lv_iload_n hx hb dX2_placeIn_3 rfl (lv_at hl 1 rfl) ?_
  refine lv_iadd hx hb dX2_placeIn_4 ?_
  subst h
  exact W.iret (v := ((p0 * 4) + p1)) hx hb hr (fun t ht hW => ⟨_, rfl, rfl, ht⟩) (fun q hq => absurd hq List.not_mem_nil) dX2_placeIn_5
theorem k_X2_placeIn {p : Program} {l : Launch} {e : Env} {R : Room} {s : State} {m : MethodId} {args : Array Value} {below : List Frame} {meth : Method} {c : Code} {H : Heap} {locs : List Loc} {cells slots : Nat} {Q : State → Prop} {cc : ByteArray} {pc nL idx : Nat} {ls : Array Slot} {rest : List Value} {own : String} {p0 : Int32} {p1 : Int32} (S : CallFix p m c cc nL s args AW own) (h1 : Cond.methodLink own idx yX2_placeIn ∈ AW) (hR : 0 + 1 ≤ R.frames ∧ 8 + (2 + 11) + 0 ≤ R.locals) (hc : cells ≤ R.cells ∧ slots ≤ R.slots) (hsz : ls.size = nL) (hW : (rest.map fun v => v.category).sum ≤ 8) (hdg : decode cc pc = .ok (.invokestatic idx, 3)) (kk : ∀ r : Int32, r = G_X2_placeIn p0 p1 → W p l e R s m args below meth c H locs cells slots Q (F0 m (pc + 3) ls (.int r :: rest))) : W p l e R s m args below meth c H locs cells slots Q (F0 m pc ls (.int p1 :: .int p0 :: rest)) :=
  fm_runS (n := 2) (As := [.int p0, .int p1]) S (c_X2_placeIn l p0 p1 _ rfl) h1 aS_X2_placeIn aN_RX2 aC_X2_placeIn rfl rfl (by decide +kernel) rfl hR hc hsz hW hdg (fun r hr => kk r hr)
set_option maxHeartbeats 4000000 in
set_option maxRecDepth 100000 in
theorem c_X2_smallerLength (l : Launch) (p0 : Int32) (p1 : Int32) (r0 : Int32) (hF : G_X2_smallerLength p0 p1 = r0) : Met l yX2_smallerLength (wsA yX2_smallerLength cX2_smallerLength 3 (some .int)) { frames := 1, cells := 0, slots := 0, locals := 20 } (va_Pc [.int p0, .int p1] (fun _ => True)) (vp_Si (fun r => r = r0)) 0 0 (fun _ => False) := by
  refine Met.ofW (cc := cX2_smallerLength) (maxL := 3) (ret := (some .int)) (by decide) rfl ?_
  intro p e s m args below meth c s₁ B hml hpre
  obtain ⟨rfl, -⟩ := hpre
  have hx := B.exec
  have hb := B.bytes
  have hr := B.returns
  have hA : ∀ w ∈ AW, w.before _ s = true := fun w h => atoms_spec (ws := wsA yX2_smallerLength cX2_smallerLength 3 (some .int)) B.pre w (List.mem_cons_of_mem _ h)
  have hown : s.vm.findClass RX2 = some m.cls := findClass_of_methodNamed B.named
  have hlocks := B.notSynchronized
  have S : CallFix p m c cX2_smallerLength 3 s ([.int p0, .int p1] : List Value).toArray AW RX2 := ⟨hx, hb, hml, hown, hA⟩
  have hl := lv_entry ([.int p0, .int p1]) (n := 3) (Nat.le_of_ble_eq_true rfl)
  rw [lg_entry_eq]
  generalize (lg_sl ([.int p0, .int p1]) ++ List.replicate (3 - (lg_sl ([.int p0, .int p1])).length) Slot.unset).toArray = ls at hl ⊢
  have hl : lv_has ls 3 [(0, .int p0), (1, .int p1)] := hl
  have h := hF
  unfold G_X2_smallerLength at h
  refine lv_iload_n hx hb dX2_smallerLength_0 rfl (lv_at hl 1 rfl) ?_
  refine lv_iconst (v := (-1)) hx hb dX2_smallerLength_1 (by decide) ?_
  refine lv_icmp_ne (tgt := 7) hx hb dX2_smallerLength_2 (by decide) (fun hc => ?_) (fun hc => ?_)
  · replace h := oi_f hc h
    refine lv_iload_n hx hb dX2_smallerLength_7 rfl (lv_at hl 1 rfl) ?_
    refine k_X1_lengthOf S aM_RX2_243 ⟨Nat.le_of_ble_eq_true rfl, Nat.le_of_ble_eq_true rfl⟩ ⟨Nat.zero_le _, Nat.zero_le _⟩ hl.1 (Nat.le_of_ble_eq_true rfl) dX2_smallerLength_8 (fun r1 er1 => ?_)
    replace h := olet_s er1 h
    refine lv_istore_n (lv' := [(2, .int r1), (0, .int p0), (1, .int p1)]) hx hb dX2_smallerLength_11 rfl hl (by decide) rfl (fun ls hl => ?_)
    refine lv_iload_n hx hb dX2_smallerLength_12 rfl (lv_at hl 1 rfl) ?_
    refine lv_iconst (v := (-1)) hx hb dX2_smallerLength_13 (by decide) ?_
    refine lv_icmp_eq (tgt := 22) hx hb dX2_smallerLength_14 (by decide) (fun hc => ?_) (fun hc => ?_)
    · replace h := oi_t hc h
      refine lv_iload_n hx hb dX2_smallerLength_22 rfl (lv_at hl 0 rfl) ?_
      refine lv_goto (tgt := 27) hx hb dX2_smallerLength_23 (by decide) ?_
      subst h
      exact W.iret (v := r1) hx hb hr (fun t ht hW => ⟨_, rfl, rfl, ht⟩) (fun q hq => absurd hq List.not_mem_nil) dX2_smallerLength_27
    · replace h := oi_f hc h
      refine lv_iload_n hx hb dX2_smallerLength_17 rfl (lv_at hl 0 rfl) ?_
      refine lv_iload_n hx hb dX2_smallerLength_18 rfl (lv_at hl 1 rfl) ?_
      refine lv_icmp_ge (tgt := 26) hx hb dX2_smallerLength_19 (by decide) (fun hc => ?_) (fun hc => ?_)
      · replace h := oi_t hc h
        refine lv_iload_n hx hb dX2_smallerLength_26 rfl (lv_at hl 1 rfl) ?_
        subst h
        exact W.iret (v := p0) hx hb hr (fun t ht hW => ⟨_, rfl, rfl, ht⟩) (fun q hq => absurd hq List.not_mem_nil) dX2_smallerLength_27
      · replace h := oi_f hc h
        refine lv_iload_n hx hb dX2_smallerLength_22 rfl (lv_at hl 0 rfl) ?_
        refine lv_goto (tgt := 27) hx hb dX2_smallerLength_23 (by decide) ?_
        subst h
        exact W.iret (v := r1) hx hb hr (fun t ht hW => ⟨_, rfl, rfl, ht⟩) (fun q hq => absurd hq List.not_mem_nil) dX2_smallerLength_27
  · replace h := oi_t hc h
    refine lv_iload_n hx hb dX2_smallerLength_5 rfl (lv_at hl 0 rfl) ?_
    subst h
    exact W.iret (v := p0) hx hb hr (fun t ht hW => ⟨_, rfl, rfl, ht⟩) (fun q hq => absurd hq List.not_mem_nil) dX2_smallerLength_6
theorem k_X2_smallerLength {p : Program} {l : Launch} {e : Env} {R : Room} {s : State} {m : MethodId} {args : Array Value} {below : List Frame} {meth : Method} {c : Code} {H : Heap} {locs : List Loc} {cells slots : Nat} {Q : State → Prop} {cc : ByteArray} {pc nL idx : Nat} {ls : Array Slot} {rest : List Value} {own : String} {p0 : Int32} {p1 : Int32} (S : CallFix p m c cc nL s args AW own) (h1 : Cond.methodLink own idx yX2_smallerLength ∈ AW) (hR : 1 + 1 ≤ R.frames ∧ 8 + (3 + 11) + 20 ≤ R.locals) (hc : cells ≤ R.cells ∧ slots ≤ R.slots) (hsz : ls.size = nL) (hW : (rest.map fun v => v.category).sum ≤ 8) (hdg : decode cc pc = .ok (.invokestatic idx, 3)) (kk : ∀ r : Int32, r = G_X2_smallerLength p0 p1 → W p l e R s m args below meth c H locs cells slots Q (F0 m (pc + 3) ls (.int r :: rest))) : W p l e R s m args below meth c H locs cells slots Q (F0 m pc ls (.int p1 :: .int p0 :: rest)) :=
  fm_runS (n := 2) (As := [.int p0, .int p1]) S (c_X2_smallerLength l p0 p1 _ rfl) h1 aS_X2_smallerLength aN_RX2 aC_X2_smallerLength rfl rfl (by decide +kernel) rfl hR hc hsz hW hdg (fun r hr => kk r hr)
set_option maxHeartbeats 4000000 in
set_option maxRecDepth 100000 in
theorem c_X2_partOf (l : Launch) (p0 : Int32) (p1 : Int32) (r0 : Int32) (hF : G_X2_partOf p0 p1 = r0) : Met l yX2_partOf (wsA yX2_partOf cX2_partOf 2 (some .int)) { frames := 1, cells := 0, slots := 0, locals := 20 } (va_Pc [.int p0, .int p1] (fun _ => True)) (vp_Si (fun r => r = r0)) 0 0 (fun _ => False) := by
  refine Met.ofW (cc := cX2_partOf) (maxL := 2) (ret := (some .int)) (by decide) rfl ?_
  intro p e s m args below meth c s₁ B hml hpre
  obtain ⟨rfl, -⟩ := hpre
  have hx := B.exec
  have hb := B.bytes
  have hr := B.returns
  have hA : ∀ w ∈ AW, w.before _ s = true := fun w h => atoms_spec (ws := wsA yX2_partOf cX2_partOf 2 (some .int)) B.pre w (List.mem_cons_of_mem _ h)
  have hown : s.vm.findClass RX2 = some m.cls := findClass_of_methodNamed B.named
  have hlocks := B.notSynchronized
  have S : CallFix p m c cX2_partOf 2 s ([.int p0, .int p1] : List Value).toArray AW RX2 := ⟨hx, hb, hml, hown, hA⟩
  have hl := lv_entry ([.int p0, .int p1]) (n := 2) (Nat.le_of_ble_eq_true rfl)
  rw [lg_entry_eq]
  generalize (lg_sl ([.int p0, .int p1]) ++ List.replicate (2 - (lg_sl ([.int p0, .int p1])).length) Slot.unset).toArray = ls at hl ⊢
  have hl : lv_has ls 2 [(0, .int p0), (1, .int p1)] := hl
  have h := hF
  unfold G_X2_partOf at h
  refine lv_iload_n hx hb dX2_partOf_0 rfl (lv_at hl 1 rfl) ?_
  by_cases n0 : p1 = 0
  · replace h := oi_t n0 h
    refine lv_tableIn (tgt := 28) hx hb dX2_partOf_1 (by rw [n0]; decide) (by rw [n0]; decide) (by rw [n0]; rfl) (by decide) ?_
    refine lv_iload_n hx hb dX2_partOf_28 rfl (lv_at hl 0 rfl) ?_
    refine k_X1_tagOf S aM_RX2_91 ⟨Nat.le_of_ble_eq_true rfl, Nat.le_of_ble_eq_true rfl⟩ ⟨Nat.zero_le _, Nat.zero_le _⟩ hl.1 (Nat.le_of_ble_eq_true rfl) dX2_partOf_29 (fun r1 er1 => ?_)
    replace h := olet_s er1 h
    subst h
    exact W.iret (v := r1) hx hb hr (fun t ht hW => ⟨_, rfl, rfl, ht⟩) (fun q hq => absurd hq List.not_mem_nil) dX2_partOf_32
  · replace h := oi_f n0 h
    by_cases n1 : p1 = 1
    · replace h := oi_t n1 h
      refine lv_tableIn (tgt := 33) hx hb dX2_partOf_1 (by rw [n1]; decide) (by rw [n1]; decide) (by rw [n1]; rfl) (by decide) ?_
      refine lv_iload_n hx hb dX2_partOf_33 rfl (lv_at hl 0 rfl) ?_
      refine k_X1_lengthOf S aM_RX2_243 ⟨Nat.le_of_ble_eq_true rfl, Nat.le_of_ble_eq_true rfl⟩ ⟨Nat.zero_le _, Nat.zero_le _⟩ hl.1 (Nat.le_of_ble_eq_true rfl) dX2_partOf_34 (fun r2 er2 => ?_)
      replace h := olet_s er2 h
      subst h
      exact W.iret (v := r2) hx hb hr (fun t ht hW => ⟨_, rfl, rfl, ht⟩) (fun q hq => absurd hq List.not_mem_nil) dX2_partOf_37
    · replace h := oi_f n1 h
      by_cases n2 : p1 = 2
      · replace h := oi_t n2 h
        refine lv_tableIn (tgt := 38) hx hb dX2_partOf_1 (by rw [n2]; decide) (by rw [n2]; decide) (by rw [n2]; rfl) (by decide) ?_
        refine lv_iload_n hx hb dX2_partOf_38 rfl (lv_at hl 0 rfl) ?_
        refine k_X1_printOf S aM_RX2_246 ⟨Nat.le_of_ble_eq_true rfl, Nat.le_of_ble_eq_true rfl⟩ ⟨Nat.zero_le _, Nat.zero_le _⟩ hl.1 (Nat.le_of_ble_eq_true rfl) dX2_partOf_39 (fun r3 er3 => ?_)
        replace h := olet_s er3 h
        subst h
        exact W.iret (v := r3) hx hb hr (fun t ht hW => ⟨_, rfl, rfl, ht⟩) (fun q hq => absurd hq List.not_mem_nil) dX2_partOf_42
      · replace h := oi_f n2 h
        refine lv_tableOut (tgt := 43) hx hb dX2_partOf_1 (fm_out2 n0 n1 n2) (by decide) ?_
        refine lv_iconst (v := (-1)) hx hb dX2_partOf_43 (by decide) ?_
        subst h
        exact W.iret (v := (-1)) hx hb hr (fun t ht hW => ⟨_, rfl, rfl, ht⟩) (fun q hq => absurd hq List.not_mem_nil) dX2_partOf_44
theorem k_X2_partOf {p : Program} {l : Launch} {e : Env} {R : Room} {s : State} {m : MethodId} {args : Array Value} {below : List Frame} {meth : Method} {c : Code} {H : Heap} {locs : List Loc} {cells slots : Nat} {Q : State → Prop} {cc : ByteArray} {pc nL idx : Nat} {ls : Array Slot} {rest : List Value} {own : String} {p0 : Int32} {p1 : Int32} (S : CallFix p m c cc nL s args AW own) (h1 : Cond.methodLink own idx yX2_partOf ∈ AW) (hR : 1 + 1 ≤ R.frames ∧ 8 + (2 + 11) + 20 ≤ R.locals) (hc : cells ≤ R.cells ∧ slots ≤ R.slots) (hsz : ls.size = nL) (hW : (rest.map fun v => v.category).sum ≤ 8) (hdg : decode cc pc = .ok (.invokestatic idx, 3)) (kk : ∀ r : Int32, r = G_X2_partOf p0 p1 → W p l e R s m args below meth c H locs cells slots Q (F0 m (pc + 3) ls (.int r :: rest))) : W p l e R s m args below meth c H locs cells slots Q (F0 m pc ls (.int p1 :: .int p0 :: rest)) :=
  fm_runS (n := 2) (As := [.int p0, .int p1]) S (c_X2_partOf l p0 p1 _ rfl) h1 aS_X2_partOf aN_RX2 aC_X2_partOf rfl rfl (by decide +kernel) rfl hR hc hsz hW hdg (fun r hr => kk r hr)
set_option maxHeartbeats 4000000 in
set_option maxRecDepth 100000 in
theorem c_X6_isDigit (l : Launch) (p0 : Int32) (r0 : Int32) (hF : G_X6_isDigit p0 = r0) : Met l yX6_isDigit (wsA yX6_isDigit cX6_isDigit 1 (some .boolean)) { frames := 0, cells := 0, slots := 0, locals := 0 } (va_Pc [.int p0] (fun _ => True)) (vp_Si (fun r => r = r0 ∧ (r = 0 ∨ r = 1))) 0 0 (fun _ => False) := by
  refine Met.ofW (cc := cX6_isDigit) (maxL := 1) (ret := (some .boolean)) (by decide) rfl ?_
  intro p e s m args below meth c s₁ B hml hpre
  obtain ⟨rfl, -⟩ := hpre
  have hx := B.exec
  have hb := B.bytes
  have hr := B.returns
  have hA : ∀ w ∈ AW, w.before _ s = true := fun w h => atoms_spec (ws := wsA yX6_isDigit cX6_isDigit 1 (some .boolean)) B.pre w (List.mem_cons_of_mem _ h)
  have hown : s.vm.findClass RX6 = some m.cls := findClass_of_methodNamed B.named
  have hlocks := B.notSynchronized
  have S : CallFix p m c cX6_isDigit 1 s ([.int p0] : List Value).toArray AW RX6 := ⟨hx, hb, hml, hown, hA⟩
  have hl := lv_entry ([.int p0]) (n := 1) (Nat.le_of_ble_eq_true rfl)
  rw [lg_entry_eq]
  generalize (lg_sl ([.int p0]) ++ List.replicate (1 - (lg_sl ([.int p0])).length) Slot.unset).toArray = ls at hl ⊢
  have hl : lv_has ls 1 [(0, .int p0)] := hl
  have h := hF
  unfold G_X6_isDigit at h
  refine lv_iload_n hx hb dX6_isDigit_0 rfl (lv_at hl 0 rfl) ?_
  refine lv_bipush (v := 48) hx hb dX6_isDigit_1 (by decide) ?_
  refine lv_icmp_lt (tgt := 16) hx hb dX6_isDigit_3 (by decide) (fun hc => ?_) (fun hc => ?_)
  · replace h := oi_t hc h
    refine lv_iconst (v := 0) hx hb dX6_isDigit_16 (by decide) ?_
    subst h
    exact W.zret (v := 0) (ty := .boolean) hx hb hr rfl (fun t ht hW => ⟨_, rfl, ⟨rfl, (Or.inl rfl)⟩, ht⟩) (fun q hq => absurd hq List.not_mem_nil) dX6_isDigit_17
  · replace h := oi_f hc h
    refine lv_iload_n hx hb dX6_isDigit_6 rfl (lv_at hl 0 rfl) ?_
    refine lv_bipush (v := 57) hx hb dX6_isDigit_7 (by decide) ?_
    refine lv_icmp_gt (tgt := 16) hx hb dX6_isDigit_9 (by decide) (fun hc => ?_) (fun hc => ?_)
    · replace h := oi_t hc h
      refine lv_iconst (v := 0) hx hb dX6_isDigit_16 (by decide) ?_
      subst h
      exact W.zret (v := 0) (ty := .boolean) hx hb hr rfl (fun t ht hW => ⟨_, rfl, ⟨rfl, (Or.inl rfl)⟩, ht⟩) (fun q hq => absurd hq List.not_mem_nil) dX6_isDigit_17
    · replace h := oi_f hc h
      refine lv_iconst (v := 1) hx hb dX6_isDigit_12 (by decide) ?_
      refine lv_goto (tgt := 17) hx hb dX6_isDigit_13 (by decide) ?_
      subst h
      exact W.zret (v := 1) (ty := .boolean) hx hb hr rfl (fun t ht hW => ⟨_, rfl, ⟨rfl, (Or.inr rfl)⟩, ht⟩) (fun q hq => absurd hq List.not_mem_nil) dX6_isDigit_17
theorem k_X6_isDigit {p : Program} {l : Launch} {e : Env} {R : Room} {s : State} {m : MethodId} {args : Array Value} {below : List Frame} {meth : Method} {c : Code} {H : Heap} {locs : List Loc} {cells slots : Nat} {Q : State → Prop} {cc : ByteArray} {pc nL idx : Nat} {ls : Array Slot} {rest : List Value} {own : String} {p0 : Int32} (S : CallFix p m c cc nL s args AW own) (h1 : Cond.methodLink own idx yX6_isDigit ∈ AW) (hR : 0 + 1 ≤ R.frames ∧ 8 + (1 + 11) + 0 ≤ R.locals) (hc : cells ≤ R.cells ∧ slots ≤ R.slots) (hsz : ls.size = nL) (hW : (rest.map fun v => v.category).sum ≤ 8) (hdg : decode cc pc = .ok (.invokestatic idx, 3)) (kk : ∀ r : Int32, r = G_X6_isDigit p0 → (r = 0 ∨ r = 1) → W p l e R s m args below meth c H locs cells slots Q (F0 m (pc + 3) ls (.int r :: rest))) : W p l e R s m args below meth c H locs cells slots Q (F0 m pc ls (.int p0 :: rest)) :=
  fm_runS (n := 1) (As := [.int p0]) S (c_X6_isDigit l p0 _ rfl) h1 aS_X6_isDigit aN_RX6 aC_X6_isDigit rfl rfl (by decide +kernel) rfl hR hc hsz hW hdg (fun r hr => kk r hr.1 hr.2)
set_option maxHeartbeats 4000000 in
set_option maxRecDepth 100000 in
theorem c_X6_stateAfter (l : Launch) (p0 : Int32) (p1 : Int32) (r0 : Int32) (hF : G_X6_stateAfter p0 p1 = r0) : Met l yX6_stateAfter (wsA yX6_stateAfter cX6_stateAfter 2 (some .int)) { frames := 1, cells := 0, slots := 0, locals := 20 } (va_Pc [.int p0, .int p1] (fun _ => True)) (vp_Si (fun r => r = r0)) 0 0 (fun _ => False) := by
  refine Met.ofW (cc := cX6_stateAfter) (maxL := 2) (ret := (some .int)) (by decide) rfl ?_
  intro p e s m args below meth c s₁ B hml hpre
  obtain ⟨rfl, -⟩ := hpre
  have hx := B.exec
  have hb := B.bytes
  have hr := B.returns
  have hA : ∀ w ∈ AW, w.before _ s = true := fun w h => atoms_spec (ws := wsA yX6_stateAfter cX6_stateAfter 2 (some .int)) B.pre w (List.mem_cons_of_mem _ h)
  have hown : s.vm.findClass RX6 = some m.cls := findClass_of_methodNamed B.named
  have hlocks := B.notSynchronized
  have S : CallFix p m c cX6_stateAfter 2 s ([.int p0, .int p1] : List Value).toArray AW RX6 := ⟨hx, hb, hml, hown, hA⟩
  have hl := lv_entry ([.int p0, .int p1]) (n := 2) (Nat.le_of_ble_eq_true rfl)
  rw [lg_entry_eq]
  generalize (lg_sl ([.int p0, .int p1]) ++ List.replicate (2 - (lg_sl ([.int p0, .int p1])).length) Slot.unset).toArray = ls at hl ⊢
  have hl : lv_has ls 2 [(0, .int p0), (1, .int p1)] := hl
  have hJ43 : ∀ (v0 : Int32) (v1 : Int32) (ls : Array Slot), J_X6_stateAfter_43 v0 v1 = r0 → lv_has ls 2 [(0, .int v0), (1, .int v1)] → W p l e (headSpec (wsA yX6_stateAfter cX6_stateAfter 2 (some .int)) { frames := 1, cells := 0, slots := 0, locals := 20 }).room s m ([.int p0, .int p1] : List Value).toArray below meth c s.heap [] 0 0 (MQ below (vp_Si (fun r => r = r0)) ([.int p0, .int p1] : List Value).toArray s 0 0 (fun _ => False)) (F0 m 43 ls []) := by
    intro v0 v1 ls h hl
    unfold J_X6_stateAfter_43 at h
    refine lv_iload_n hx hb dX6_stateAfter_43 rfl (lv_at hl 1 rfl) ?_
    refine k_X6_isDigit S aM_RX6_27 ⟨Nat.le_of_ble_eq_true rfl, Nat.le_of_ble_eq_true rfl⟩ ⟨Nat.zero_le _, Nat.zero_le _⟩ hl.1 (Nat.le_of_ble_eq_true rfl) dX6_stateAfter_44 (fun r1 er1 br1 => ?_)
    replace h := olet_s er1 h
    refine lv_if_eq (tgt := 61) hx hb dX6_stateAfter_47 (by decide) (fun hc => ?_) (fun hc => ?_)
    · replace h := oi_t hc h
      refine lv_iconst (v := (-1)) hx hb dX6_stateAfter_61 (by decide) ?_
      subst h
      exact W.iret (v := (-1)) hx hb hr (fun t ht hW => ⟨_, rfl, rfl, ht⟩) (fun q hq => absurd hq List.not_mem_nil) dX6_stateAfter_62
    · replace h := oi_f hc h
      refine lv_iload_n hx hb dX6_stateAfter_50 rfl (lv_at hl 0 rfl) ?_
      refine lv_iconst (v := 3) hx hb dX6_stateAfter_51 (by decide) ?_
      refine lv_icmp_gt (tgt := 61) hx hb dX6_stateAfter_52 (by decide) (fun hc => ?_) (fun hc => ?_)
      · replace h := oi_t hc h
        refine lv_iconst (v := (-1)) hx hb dX6_stateAfter_61 (by decide) ?_
        subst h
        exact W.iret (v := (-1)) hx hb hr (fun t ht hW => ⟨_, rfl, rfl, ht⟩) (fun q hq => absurd hq List.not_mem_nil) dX6_stateAfter_62
      · replace h := oi_f hc h
        refine lv_iload_n hx hb dX6_stateAfter_55 rfl (lv_at hl 0 rfl) ?_
        refine lv_iconst (v := 1) hx hb dX6_stateAfter_56 (by decide) ?_
        refine lv_iadd hx hb dX6_stateAfter_57 ?_
        refine lv_goto (tgt := 62) hx hb dX6_stateAfter_58 (by decide) ?_
        subst h
        exact W.iret (v := (v0 + 1)) hx hb hr (fun t ht hW => ⟨_, rfl, rfl, ht⟩) (fun q hq => absurd hq List.not_mem_nil) dX6_stateAfter_62
  have h := hF
  unfold G_X6_stateAfter at h
  refine lv_iload_n hx hb dX6_stateAfter_0 rfl (lv_at hl 0 rfl) ?_
  refine lv_if_ne (tgt := 30) hx hb dX6_stateAfter_1 (by decide) (fun hc => ?_) (fun hc => ?_)
  · replace h := oi_f hc h
    refine lv_iload_n hx hb dX6_stateAfter_30 rfl (lv_at hl 1 rfl) ?_
    refine lv_bipush (v := 59) hx hb dX6_stateAfter_31 (by decide) ?_
    refine lv_icmp_ne (tgt := 43) hx hb dX6_stateAfter_33 (by decide) (fun hc => ?_) (fun hc => ?_)
    · replace h := oi_f hc h
      exact hJ43 _ _ _ h (lv_sub hl [0, 1] rfl)
    · replace h := oi_t hc h
      refine lv_iload_n hx hb dX6_stateAfter_36 rfl (lv_at hl 0 rfl) ?_
      refine lv_iconst (v := 1) hx hb dX6_stateAfter_37 (by decide) ?_
      refine lv_icmp_le (tgt := 43) hx hb dX6_stateAfter_38 (by decide) (fun hc => ?_) (fun hc => ?_)
      · replace h := oi_t hc h
        exact hJ43 _ _ _ h (lv_sub hl [0, 1] rfl)
      · replace h := oi_f hc h
        refine lv_iconst (v := 0) hx hb dX6_stateAfter_41 (by decide) ?_
        subst h
        exact W.iret (v := 0) hx hb hr (fun t ht hW => ⟨_, rfl, rfl, ht⟩) (fun q hq => absurd hq List.not_mem_nil) dX6_stateAfter_42
  · replace h := oi_t hc h
    refine lv_iload_n hx hb dX6_stateAfter_4 rfl (lv_at hl 1 rfl) ?_
    refine lv_bipush (v := 42) hx hb dX6_stateAfter_5 (by decide) ?_
    refine lv_icmp_ne (tgt := 12) hx hb dX6_stateAfter_7 (by decide) (fun hc => ?_) (fun hc => ?_)
    · replace h := oi_f hc h
      refine lv_iload_n hx hb dX6_stateAfter_12 rfl (lv_at hl 1 rfl) ?_
      refine lv_bipush (v := 43) hx hb dX6_stateAfter_13 (by decide) ?_
      refine lv_icmp_eq (tgt := 24) hx hb dX6_stateAfter_15 (by decide) (fun hc => ?_) (fun hc => ?_)
      · replace h := oi_t hc h
        refine lv_iconst (v := 1) hx hb dX6_stateAfter_24 (by decide) ?_
        refine lv_goto (tgt := 29) hx hb dX6_stateAfter_25 (by decide) ?_
        subst h
        exact W.iret (v := 1) hx hb hr (fun t ht hW => ⟨_, rfl, rfl, ht⟩) (fun q hq => absurd hq List.not_mem_nil) dX6_stateAfter_29
      · replace h := oi_f hc h
        refine lv_iload_n hx hb dX6_stateAfter_18 rfl (lv_at hl 1 rfl) ?_
        refine lv_bipush (v := 45) hx hb dX6_stateAfter_19 (by decide) ?_
        refine lv_icmp_ne (tgt := 28) hx hb dX6_stateAfter_21 (by decide) (fun hc => ?_) (fun hc => ?_)
        · replace h := oi_f hc h
          refine lv_iconst (v := (-1)) hx hb dX6_stateAfter_28 (by decide) ?_
          subst h
          exact W.iret (v := (-1)) hx hb hr (fun t ht hW => ⟨_, rfl, rfl, ht⟩) (fun q hq => absurd hq List.not_mem_nil) dX6_stateAfter_29
        · replace h := oi_t hc h
          refine lv_iconst (v := 1) hx hb dX6_stateAfter_24 (by decide) ?_
          refine lv_goto (tgt := 29) hx hb dX6_stateAfter_25 (by decide) ?_
          subst h
          exact W.iret (v := 1) hx hb hr (fun t ht hW => ⟨_, rfl, rfl, ht⟩) (fun q hq => absurd hq List.not_mem_nil) dX6_stateAfter_29
    · replace h := oi_t hc h
      refine lv_iconst (v := 4) hx hb dX6_stateAfter_10 (by decide) ?_
      subst h
      exact W.iret (v := 4) hx hb hr (fun t ht hW => ⟨_, rfl, rfl, ht⟩) (fun q hq => absurd hq List.not_mem_nil) dX6_stateAfter_11
theorem k_X6_stateAfter {p : Program} {l : Launch} {e : Env} {R : Room} {s : State} {m : MethodId} {args : Array Value} {below : List Frame} {meth : Method} {c : Code} {H : Heap} {locs : List Loc} {cells slots : Nat} {Q : State → Prop} {cc : ByteArray} {pc nL idx : Nat} {ls : Array Slot} {rest : List Value} {own : String} {p0 : Int32} {p1 : Int32} (S : CallFix p m c cc nL s args AW own) (h1 : Cond.methodLink own idx yX6_stateAfter ∈ AW) (hR : 1 + 1 ≤ R.frames ∧ 8 + (2 + 11) + 20 ≤ R.locals) (hc : cells ≤ R.cells ∧ slots ≤ R.slots) (hsz : ls.size = nL) (hW : (rest.map fun v => v.category).sum ≤ 8) (hdg : decode cc pc = .ok (.invokestatic idx, 3)) (kk : ∀ r : Int32, r = G_X6_stateAfter p0 p1 → W p l e R s m args below meth c H locs cells slots Q (F0 m (pc + 3) ls (.int r :: rest))) : W p l e R s m args below meth c H locs cells slots Q (F0 m pc ls (.int p1 :: .int p0 :: rest)) :=
  fm_runS (n := 2) (As := [.int p0, .int p1]) S (c_X6_stateAfter l p0 p1 _ rfl) h1 aS_X6_stateAfter aN_RX6 aC_X6_stateAfter rfl rfl (by decide +kernel) rfl hR hc hsz hW hdg (fun r hr => kk r hr)
set_option maxHeartbeats 4000000 in
set_option maxRecDepth 100000 in
theorem c_X2_bucketCount (l : Launch) (D : va_G) (cI : ClassId) (a : Nat → Nat) (φ : M2) (r0 : Int32) (hF : G_X2_bucketCount φ = r0) : Met l yX2_bucketCount (wsA yX2_bucketCount cX2_bucketCount 1 (some .int)) { frames := 0, cells := 0, slots := 0, locals := 0 } (va_Pc [.ref (a 0)] (fbP D cI a φ)) (vp_Si (fun r => r = r0)) 0 0 (fun _ => False) := by
  refine Met.ofW (cc := cX2_bucketCount) (maxL := 1) (ret := (some .int)) (by decide) rfl ?_
  intro p e s m args below meth c s₁ B hml hpre
  obtain ⟨rfl, hP, hK, hD0⟩ := hpre
  have hx := B.exec
  have hb := B.bytes
  have hr := B.returns
  have hA : ∀ w ∈ AW, w.before _ s = true := fun w h => atoms_spec (ws := wsA yX2_bucketCount cX2_bucketCount 1 (some .int)) B.pre w (List.mem_cons_of_mem _ h)
  have hown : s.vm.findClass RX2 = some m.cls := findClass_of_methodNamed B.named
  have hlocks := B.notSynchronized
  have hDT := F_dT hD0
  have S : CallFix p m c cX2_bucketCount 1 s ([.ref (a 0)] : List Value).toArray AW RX2 := ⟨hx, hb, hml, hown, hA⟩
  have hl := lv_entry ([.ref (a 0)]) (n := 1) (Nat.le_of_ble_eq_true rfl)
  rw [lg_entry_eq]
  generalize (lg_sl ([.ref (a 0)]) ++ List.replicate (1 - (lg_sl ([.ref (a 0)])).length) Slot.unset).toArray = ls at hl ⊢
  have hl : lv_has ls 1 [(0, .ref (a 0))] := hl
  have h := hF
  unfold G_X2_bucketCount at h
  refine lv_iconst (v := 1) hx hb dX2_bucketCount_0 (by decide) ?_
  refine lv_aload_n hx hb dX2_bucketCount_1 rfl (lv_at hl 0 rfl) ?_
  refine F_g0_0 hx hb hA hown aF_RX2_9 hK hP dX2_bucketCount_2 ?_
  refine lv_ishl hx hb dX2_bucketCount_5 ?_
  subst h
  exact W.iret (v := (1 <<< ((φ 0 0) &&& 31))) hx hb hr (fun t ht hW => ⟨_, rfl, rfl, ht⟩) (fun q hq => absurd hq List.not_mem_nil) dX2_bucketCount_6
theorem k_X2_bucketCount {p : Program} {l : Launch} {e : Env} {R : Room} {s : State} {m : MethodId} {args : Array Value} {below : List Frame} {meth : Method} {c : Code} {H : Heap} {locs : List Loc} {cells slots : Nat} {Q : State → Prop} {cc : ByteArray} {pc nL idx : Nat} {ls : Array Slot} {rest : List Value} {own : String} {D : va_G} {cI : ClassId} {a : Nat → Nat} {φ : M2} (S : CallFix p m c cc nL s args AW own) (h1 : Cond.methodLink own idx yX2_bucketCount ∈ AW) (hR : 0 + 1 ≤ R.frames ∧ 8 + (1 + 11) + 0 ≤ R.locals) (hc : cells ≤ R.cells ∧ slots ≤ R.slots) (hP : va_P D vwCl (fbW cI a φ) H) (hK : va_K D vwCl [(cI, .int)] s) (hDT : ∀ (φ2 : M2), va_D (fun _ => True) (fbW cI a φ2)) (hsz : ls.size = nL) (hW : (rest.map fun v => v.category).sum ≤ 8) (hdg : decode cc pc = .ok (.invokevirtual idx, 3)) (kk : ∀ r : Int32, r = G_X2_bucketCount φ → W p l e R s m args below meth c H locs cells slots Q (F0 m (pc + 3) ls (.int r :: rest))) : W p l e R s m args below meth c H locs cells slots Q (F0 m pc ls (.ref (a 0) :: rest)) :=
  fm_runV (n := 0) (C := RX2) (As := []) S (c_X2_bucketCount l D cI a φ _ rfl) (F_pre (q0 := 0) (ci := 0) hK hP (hDT _) rfl rfl) h1 aI_X2_bucketCount aV_X2_bucketCount aN_RX2 aC_X2_bucketCount rfl rfl (by decide +kernel) rfl hR hc hsz hW hdg (fun r hr => kk r hr)
set_option maxHeartbeats 4000000 in
set_option maxRecDepth 100000 in
theorem c_X2_slotCount (l : Launch) (D : va_G) (cI : ClassId) (a : Nat → Nat) (φ : M2) (r0 : Int32) (hF : G_X2_slotCount φ = r0) : Met l yX2_slotCount (wsA yX2_slotCount cX2_slotCount 1 (some .int)) { frames := 0, cells := 0, slots := 0, locals := 0 } (va_Pc [.ref (a 0)] (fbP D cI a φ)) (vp_Si (fun r => r = r0)) 0 0 (fun _ => False) := by
  refine Met.ofW (cc := cX2_slotCount) (maxL := 1) (ret := (some .int)) (by decide) rfl ?_
  intro p e s m args below meth c s₁ B hml hpre
  obtain ⟨rfl, hP, hK, hD0⟩ := hpre
  have hx := B.exec
  have hb := B.bytes
  have hr := B.returns
  have hA : ∀ w ∈ AW, w.before _ s = true := fun w h => atoms_spec (ws := wsA yX2_slotCount cX2_slotCount 1 (some .int)) B.pre w (List.mem_cons_of_mem _ h)
  have hown : s.vm.findClass RX2 = some m.cls := findClass_of_methodNamed B.named
  have hlocks := B.notSynchronized
  have hDT := F_dT hD0
  have S : CallFix p m c cX2_slotCount 1 s ([.ref (a 0)] : List Value).toArray AW RX2 := ⟨hx, hb, hml, hown, hA⟩
  have hl := lv_entry ([.ref (a 0)]) (n := 1) (Nat.le_of_ble_eq_true rfl)
  rw [lg_entry_eq]
  generalize (lg_sl ([.ref (a 0)]) ++ List.replicate (1 - (lg_sl ([.ref (a 0)])).length) Slot.unset).toArray = ls at hl ⊢
  have hl : lv_has ls 1 [(0, .ref (a 0))] := hl
  have h := hF
  unfold G_X2_slotCount at h
  refine lv_aload_n hx hb dX2_slotCount_0 rfl (lv_at hl 0 rfl) ?_
  refine F_g0_1 hx hb hA hown aF_RX2_15 hK hP dX2_slotCount_1 ?_
  subst h
  exact W.iret (v := (φ 0 1)) hx hb hr (fun t ht hW => ⟨_, rfl, rfl, ht⟩) (fun q hq => absurd hq List.not_mem_nil) dX2_slotCount_4
theorem k_X2_slotCount {p : Program} {l : Launch} {e : Env} {R : Room} {s : State} {m : MethodId} {args : Array Value} {below : List Frame} {meth : Method} {c : Code} {H : Heap} {locs : List Loc} {cells slots : Nat} {Q : State → Prop} {cc : ByteArray} {pc nL idx : Nat} {ls : Array Slot} {rest : List Value} {own : String} {D : va_G} {cI : ClassId} {a : Nat → Nat} {φ : M2} (S : CallFix p m c cc nL s args AW own) (h1 : Cond.methodLink own idx yX2_slotCount ∈ AW) (hR : 0 + 1 ≤ R.frames ∧ 8 + (1 + 11) + 0 ≤ R.locals) (hc : cells ≤ R.cells ∧ slots ≤ R.slots) (hP : va_P D vwCl (fbW cI a φ) H) (hK : va_K D vwCl [(cI, .int)] s) (hDT : ∀ (φ2 : M2), va_D (fun _ => True) (fbW cI a φ2)) (hsz : ls.size = nL) (hW : (rest.map fun v => v.category).sum ≤ 8) (hdg : decode cc pc = .ok (.invokevirtual idx, 3)) (kk : ∀ r : Int32, r = G_X2_slotCount φ → W p l e R s m args below meth c H locs cells slots Q (F0 m (pc + 3) ls (.int r :: rest))) : W p l e R s m args below meth c H locs cells slots Q (F0 m pc ls (.ref (a 0) :: rest)) :=
  fm_runV (n := 0) (C := RX2) (As := []) S (c_X2_slotCount l D cI a φ _ rfl) (F_pre (q0 := 0) (ci := 0) hK hP (hDT _) rfl rfl) h1 aI_X2_slotCount aV_X2_slotCount aN_RX2 aC_X2_slotCount rfl rfl (by decide +kernel) rfl hR hc hsz hW hdg (fun r hr => kk r hr)
set_option maxHeartbeats 4000000 in
set_option maxRecDepth 100000 in
theorem c_X2_stashSize (l : Launch) (D : va_G) (cI : ClassId) (a : Nat → Nat) (φ : M2) (r0 : Int32) (hF : G_X2_stashSize φ = r0) : Met l yX2_stashSize (wsA yX2_stashSize cX2_stashSize 1 (some .int)) { frames := 0, cells := 0, slots := 0, locals := 0 } (va_Pc [.ref (a 0)] (fbP D cI a φ)) (vp_Si (fun r => r = r0)) 0 0 (fun _ => False) := by
  refine Met.ofW (cc := cX2_stashSize) (maxL := 1) (ret := (some .int)) (by decide) rfl ?_
  intro p e s m args below meth c s₁ B hml hpre
  obtain ⟨rfl, hP, hK, hD0⟩ := hpre
  have hx := B.exec
  have hb := B.bytes
  have hr := B.returns
  have hA : ∀ w ∈ AW, w.before _ s = true := fun w h => atoms_spec (ws := wsA yX2_stashSize cX2_stashSize 1 (some .int)) B.pre w (List.mem_cons_of_mem _ h)
  have hown : s.vm.findClass RX2 = some m.cls := findClass_of_methodNamed B.named
  have hlocks := B.notSynchronized
  have hDT := F_dT hD0
  have S : CallFix p m c cX2_stashSize 1 s ([.ref (a 0)] : List Value).toArray AW RX2 := ⟨hx, hb, hml, hown, hA⟩
  have hl := lv_entry ([.ref (a 0)]) (n := 1) (Nat.le_of_ble_eq_true rfl)
  rw [lg_entry_eq]
  generalize (lg_sl ([.ref (a 0)]) ++ List.replicate (1 - (lg_sl ([.ref (a 0)])).length) Slot.unset).toArray = ls at hl ⊢
  have hl : lv_has ls 1 [(0, .ref (a 0))] := hl
  have h := hF
  unfold G_X2_stashSize at h
  refine lv_aload_n hx hb dX2_stashSize_0 rfl (lv_at hl 0 rfl) ?_
  refine F_g0_7 hx hb hA hown aF_RX2_55 hK hP dX2_stashSize_1 ?_
  subst h
  exact W.iret (v := (φ 0 7)) hx hb hr (fun t ht hW => ⟨_, rfl, rfl, ht⟩) (fun q hq => absurd hq List.not_mem_nil) dX2_stashSize_4
theorem k_X2_stashSize {p : Program} {l : Launch} {e : Env} {R : Room} {s : State} {m : MethodId} {args : Array Value} {below : List Frame} {meth : Method} {c : Code} {H : Heap} {locs : List Loc} {cells slots : Nat} {Q : State → Prop} {cc : ByteArray} {pc nL idx : Nat} {ls : Array Slot} {rest : List Value} {own : String} {D : va_G} {cI : ClassId} {a : Nat → Nat} {φ : M2} (S : CallFix p m c cc nL s args AW own) (h1 : Cond.methodLink own idx yX2_stashSize ∈ AW) (hR : 0 + 1 ≤ R.frames ∧ 8 + (1 + 11) + 0 ≤ R.locals) (hc : cells ≤ R.cells ∧ slots ≤ R.slots) (hP : va_P D vwCl (fbW cI a φ) H) (hK : va_K D vwCl [(cI, .int)] s) (hDT : ∀ (φ2 : M2), va_D (fun _ => True) (fbW cI a φ2)) (hsz : ls.size = nL) (hW : (rest.map fun v => v.category).sum ≤ 8) (hdg : decode cc pc = .ok (.invokevirtual idx, 3)) (kk : ∀ r : Int32, r = G_X2_stashSize φ → W p l e R s m args below meth c H locs cells slots Q (F0 m (pc + 3) ls (.int r :: rest))) : W p l e R s m args below meth c H locs cells slots Q (F0 m pc ls (.ref (a 0) :: rest)) :=
  fm_runV (n := 0) (C := RX2) (As := []) S (c_X2_stashSize l D cI a φ _ rfl) (F_pre (q0 := 0) (ci := 0) hK hP (hDT _) rfl rfl) h1 aI_X2_stashSize aV_X2_stashSize aN_RX2 aC_X2_stashSize rfl rfl (by decide +kernel) rfl hR hc hsz hW hdg (fun r hr => kk r hr)
set_option maxHeartbeats 4000000 in
set_option maxRecDepth 100000 in
theorem c_X4_size (l : Launch) (D : va_G) (cI : ClassId) (a : Nat → Nat) (φ : M2) (r0 : Int32) (hF : G_X4_size φ = r0) : Met l yX4_size (wsA yX4_size cX4_size 1 (some .int)) { frames := 0, cells := 0, slots := 0, locals := 0 } (va_Pc [.ref (a 3)] (fbP D cI a φ)) (vp_Si (fun r => r = r0)) 0 0 (fun _ => False) := by
  refine Met.ofW (cc := cX4_size) (maxL := 1) (ret := (some .int)) (by decide) rfl ?_
  intro p e s m args below meth c s₁ B hml hpre
  obtain ⟨rfl, hP, hK, hD0⟩ := hpre
  have hx := B.exec
  have hb := B.bytes
  have hr := B.returns
  have hA : ∀ w ∈ AW, w.before _ s = true := fun w h => atoms_spec (ws := wsA yX4_size cX4_size 1 (some .int)) B.pre w (List.mem_cons_of_mem _ h)
  have hown : s.vm.findClass RX4 = some m.cls := findClass_of_methodNamed B.named
  have hlocks := B.notSynchronized
  have hDT := F_dT hD0
  have S : CallFix p m c cX4_size 1 s ([.ref (a 3)] : List Value).toArray AW RX4 := ⟨hx, hb, hml, hown, hA⟩
  have hl := lv_entry ([.ref (a 3)]) (n := 1) (Nat.le_of_ble_eq_true rfl)
  rw [lg_entry_eq]
  generalize (lg_sl ([.ref (a 3)]) ++ List.replicate (1 - (lg_sl ([.ref (a 3)])).length) Slot.unset).toArray = ls at hl ⊢
  have hl : lv_has ls 1 [(0, .ref (a 3))] := hl
  have h := hF
  unfold G_X4_size at h
  refine lv_aload_n hx hb dX4_size_0 rfl (lv_at hl 0 rfl) ?_
  refine F_g3_1 hx hb hA hown aF_RX4_15 hK hP dX4_size_1 ?_
  subst h
  exact W.iret (v := (φ 3 1)) hx hb hr (fun t ht hW => ⟨_, rfl, rfl, ht⟩) (fun q hq => absurd hq List.not_mem_nil) dX4_size_4
theorem k_X4_size {p : Program} {l : Launch} {e : Env} {R : Room} {s : State} {m : MethodId} {args : Array Value} {below : List Frame} {meth : Method} {c : Code} {H : Heap} {locs : List Loc} {cells slots : Nat} {Q : State → Prop} {cc : ByteArray} {pc nL idx : Nat} {ls : Array Slot} {rest : List Value} {own : String} {D : va_G} {cI : ClassId} {a : Nat → Nat} {φ : M2} (S : CallFix p m c cc nL s args AW own) (h1 : Cond.methodLink own idx yX4_size ∈ AW) (hR : 0 + 1 ≤ R.frames ∧ 8 + (1 + 11) + 0 ≤ R.locals) (hc : cells ≤ R.cells ∧ slots ≤ R.slots) (hP : va_P D vwCl (fbW cI a φ) H) (hK : va_K D vwCl [(cI, .int)] s) (hDT : ∀ (φ2 : M2), va_D (fun _ => True) (fbW cI a φ2)) (hsz : ls.size = nL) (hW : (rest.map fun v => v.category).sum ≤ 8) (hdg : decode cc pc = .ok (.invokevirtual idx, 3)) (kk : ∀ r : Int32, r = G_X4_size φ → W p l e R s m args below meth c H locs cells slots Q (F0 m (pc + 3) ls (.int r :: rest))) : W p l e R s m args below meth c H locs cells slots Q (F0 m pc ls (.ref (a 3) :: rest)) :=
  fm_runV (n := 0) (C := RX4) (As := []) S (c_X4_size l D cI a φ _ rfl) (F_pre (q0 := 3) (ci := 2) hK hP (hDT _) rfl rfl) h1 aI_X4_size aV_X4_size aN_RX4 aC_X4_size rfl rfl (by decide +kernel) rfl hR hc hsz hW hdg (fun r hr => kk r hr)
set_option maxHeartbeats 4000000 in
set_option maxRecDepth 100000 in
theorem c_X2_keyCount (l : Launch) (D : va_G) (cI : ClassId) (a : Nat → Nat) (φ : M2) (r0 : Int32) (hF : G_X2_keyCount φ = r0) : Met l yX2_keyCount (wsA yX2_keyCount cX2_keyCount 1 (some .int)) { frames := 1, cells := 0, slots := 0, locals := 20 } (va_Pc [.ref (a 0)] (fbP D cI a φ)) (vp_Si (fun r => r = r0)) 0 0 (fun _ => False) := by
  refine Met.ofW (cc := cX2_keyCount) (maxL := 1) (ret := (some .int)) (by decide) rfl ?_
  intro p e s m args below meth c s₁ B hml hpre
  obtain ⟨rfl, hP, hK, hD0⟩ := hpre
  have hx := B.exec
  have hb := B.bytes
  have hr := B.returns
  have hA : ∀ w ∈ AW, w.before _ s = true := fun w h => atoms_spec (ws := wsA yX2_keyCount cX2_keyCount 1 (some .int)) B.pre w (List.mem_cons_of_mem _ h)
  have hown : s.vm.findClass RX2 = some m.cls := findClass_of_methodNamed B.named
  have hlocks := B.notSynchronized
  have hDT := F_dT hD0
  have S : CallFix p m c cX2_keyCount 1 s ([.ref (a 0)] : List Value).toArray AW RX2 := ⟨hx, hb, hml, hown, hA⟩
  have hl := lv_entry ([.ref (a 0)]) (n := 1) (Nat.le_of_ble_eq_true rfl)
  rw [lg_entry_eq]
  generalize (lg_sl ([.ref (a 0)]) ++ List.replicate (1 - (lg_sl ([.ref (a 0)])).length) Slot.unset).toArray = ls at hl ⊢
  have hl : lv_has ls 1 [(0, .ref (a 0))] := hl
  have h := hF
  unfold G_X2_keyCount at h
  refine lv_aload_n hx hb dX2_keyCount_0 rfl (lv_at hl 0 rfl) ?_
  refine F_g0_8 hx hb hA hown aF_RX2_37 hK hP dX2_keyCount_1 ?_
  refine k_X4_size S aM_RX2_62 ⟨Nat.le_of_ble_eq_true rfl, Nat.le_of_ble_eq_true rfl⟩ ⟨Nat.zero_le _, Nat.zero_le _⟩ hP hK hDT hl.1 (Nat.le_of_ble_eq_true rfl) dX2_keyCount_4 (fun r1 er1 => ?_)
  replace h := olet_s er1 h
  subst h
  exact W.iret (v := r1) hx hb hr (fun t ht hW => ⟨_, rfl, rfl, ht⟩) (fun q hq => absurd hq List.not_mem_nil) dX2_keyCount_7
theorem k_X2_keyCount {p : Program} {l : Launch} {e : Env} {R : Room} {s : State} {m : MethodId} {args : Array Value} {below : List Frame} {meth : Method} {c : Code} {H : Heap} {locs : List Loc} {cells slots : Nat} {Q : State → Prop} {cc : ByteArray} {pc nL idx : Nat} {ls : Array Slot} {rest : List Value} {own : String} {D : va_G} {cI : ClassId} {a : Nat → Nat} {φ : M2} (S : CallFix p m c cc nL s args AW own) (h1 : Cond.methodLink own idx yX2_keyCount ∈ AW) (hR : 1 + 1 ≤ R.frames ∧ 8 + (1 + 11) + 20 ≤ R.locals) (hc : cells ≤ R.cells ∧ slots ≤ R.slots) (hP : va_P D vwCl (fbW cI a φ) H) (hK : va_K D vwCl [(cI, .int)] s) (hDT : ∀ (φ2 : M2), va_D (fun _ => True) (fbW cI a φ2)) (hsz : ls.size = nL) (hW : (rest.map fun v => v.category).sum ≤ 8) (hdg : decode cc pc = .ok (.invokevirtual idx, 3)) (kk : ∀ r : Int32, r = G_X2_keyCount φ → W p l e R s m args below meth c H locs cells slots Q (F0 m (pc + 3) ls (.int r :: rest))) : W p l e R s m args below meth c H locs cells slots Q (F0 m pc ls (.ref (a 0) :: rest)) :=
  fm_runV (n := 0) (C := RX2) (As := []) S (c_X2_keyCount l D cI a φ _ rfl) (F_pre (q0 := 0) (ci := 0) hK hP (hDT _) rfl rfl) h1 aI_X2_keyCount aV_X2_keyCount aN_RX2 aC_X2_keyCount rfl rfl (by decide +kernel) rfl hR hc hsz hW hdg (fun r hr => kk r hr)
set_option maxHeartbeats 4000000 in
set_option maxRecDepth 100000 in
theorem c_X4_keyAt (l : Launch) (D : va_G) (cI : ClassId) (a : Nat → Nat) (φ : M2) (p1 : Int32) (r0 : Int32) (hF : G_X4_keyAt φ p1 = some r0) : Met l yX4_keyAt (wsA yX4_keyAt cX4_keyAt 2 (some .int)) { frames := 0, cells := 0, slots := 0, locals := 0 } (va_Pc [.ref (a 3), .int p1] (fbP D cI a φ)) (vp_Si (fun r => r = r0)) 0 0 (fun _ => False) := by
  refine Met.ofW (cc := cX4_keyAt) (maxL := 2) (ret := (some .int)) (by decide) rfl ?_
  intro p e s m args below meth c s₁ B hml hpre
  obtain ⟨rfl, hP, hK, hD0⟩ := hpre
  have hx := B.exec
  have hb := B.bytes
  have hr := B.returns
  have hA : ∀ w ∈ AW, w.before _ s = true := fun w h => atoms_spec (ws := wsA yX4_keyAt cX4_keyAt 2 (some .int)) B.pre w (List.mem_cons_of_mem _ h)
  have hown : s.vm.findClass RX4 = some m.cls := findClass_of_methodNamed B.named
  have hlocks := B.notSynchronized
  have hDT := F_dT hD0
  have S : CallFix p m c cX4_keyAt 2 s ([.ref (a 3), .int p1] : List Value).toArray AW RX4 := ⟨hx, hb, hml, hown, hA⟩
  have hl := lv_entry ([.ref (a 3), .int p1]) (n := 2) (Nat.le_of_ble_eq_true rfl)
  rw [lg_entry_eq]
  generalize (lg_sl ([.ref (a 3), .int p1]) ++ List.replicate (2 - (lg_sl ([.ref (a 3), .int p1])).length) Slot.unset).toArray = ls at hl ⊢
  have hl : lv_has ls 2 [(0, .ref (a 3)), (1, .int p1)] := hl
  have h := hF
  unfold G_X4_keyAt at h
  refine lv_iload_n hx hb dX4_keyAt_0 rfl (lv_at hl 1 rfl) ?_
  refine lv_if_lt (tgt := 30) hx hb dX4_keyAt_1 (by decide) (fun hc => ?_) (fun hc => ?_)
  · replace h := oi_t hc h
    refine lv_iconst (v := (-1)) hx hb dX4_keyAt_30 (by decide) ?_
    obtain rfl := os1 h
    exact W.iret (v := (-1)) hx hb hr (fun t ht hW => ⟨_, rfl, rfl, ht⟩) (fun q hq => absurd hq List.not_mem_nil) dX4_keyAt_31
  · replace h := oi_f hc h
    refine lv_iload_n hx hb dX4_keyAt_4 rfl (lv_at hl 1 rfl) ?_
    refine lv_aload_n hx hb dX4_keyAt_5 rfl (lv_at hl 0 rfl) ?_
    refine F_g3_1 hx hb hA hown aF_RX4_15 hK hP dX4_keyAt_6 ?_
    refine lv_icmp_ge (tgt := 30) hx hb dX4_keyAt_9 (by decide) (fun hc => ?_) (fun hc => ?_)
    · replace h := oi_t hc h
      refine lv_iconst (v := (-1)) hx hb dX4_keyAt_30 (by decide) ?_
      obtain rfl := os1 h
      exact W.iret (v := (-1)) hx hb hr (fun t ht hW => ⟨_, rfl, rfl, ht⟩) (fun q hq => absurd hq List.not_mem_nil) dX4_keyAt_31
    · replace h := oi_f hc h
      refine lv_iload_n hx hb dX4_keyAt_12 rfl (lv_at hl 1 rfl) ?_
      refine lv_aload_n hx hb dX4_keyAt_13 rfl (lv_at hl 0 rfl) ?_
      refine F_g3_0 hx hb hA hown aF_RX4_9 hK hP dX4_keyAt_14 ?_
      refine F_ln4 hx hb hK hP dX4_keyAt_17 ?_
      refine lv_icmp_ge (tgt := 30) hx hb dX4_keyAt_18 (by decide) (fun hc => ?_) (fun hc => ?_)
      · replace h := oi_t hc h
        refine lv_iconst (v := (-1)) hx hb dX4_keyAt_30 (by decide) ?_
        obtain rfl := os1 h
        exact W.iret (v := (-1)) hx hb hr (fun t ht hW => ⟨_, rfl, rfl, ht⟩) (fun q hq => absurd hq List.not_mem_nil) dX4_keyAt_31
      · replace h := oi_f hc h
        refine lv_aload_n hx hb dX4_keyAt_21 rfl (lv_at hl 0 rfl) ?_
        refine F_g3_0 hx hb hA hown aF_RX4_9 hK hP dX4_keyAt_22 ?_
        refine lv_iload_n hx hb dX4_keyAt_25 rfl (lv_at hl 1 rfl) ?_
        obtain ⟨i1, h⟩ := oin_e h
        refine F_ld4 hx hb hK hP i1 dX4_keyAt_26 ?_
        refine lv_goto (tgt := 31) hx hb dX4_keyAt_27 (by decide) ?_
        obtain rfl := os1 h
        exact W.iret (v := (φ 4 p1.toNatClampNeg)) hx hb hr (fun t ht hW => ⟨_, rfl, rfl, ht⟩) (fun q hq => absurd hq List.not_mem_nil) dX4_keyAt_31
theorem k_X4_keyAt {p : Program} {l : Launch} {e : Env} {R : Room} {s : State} {m : MethodId} {args : Array Value} {below : List Frame} {meth : Method} {c : Code} {H : Heap} {locs : List Loc} {cells slots : Nat} {Q : State → Prop} {cc : ByteArray} {pc nL idx : Nat} {ls : Array Slot} {rest : List Value} {own : String} {D : va_G} {cI : ClassId} {a : Nat → Nat} {φ : M2} {p1 : Int32} {r0 : Int32} (S : CallFix p m c cc nL s args AW own) (h1 : Cond.methodLink own idx yX4_keyAt ∈ AW) (hR : 0 + 1 ≤ R.frames ∧ 8 + (2 + 11) + 0 ≤ R.locals) (hc : cells ≤ R.cells ∧ slots ≤ R.slots) (hP : va_P D vwCl (fbW cI a φ) H) (hK : va_K D vwCl [(cI, .int)] s) (hDT : ∀ (φ2 : M2), va_D (fun _ => True) (fbW cI a φ2)) (hF : G_X4_keyAt φ p1 = some r0) (hsz : ls.size = nL) (hW : (rest.map fun v => v.category).sum ≤ 8) (hdg : decode cc pc = .ok (.invokevirtual idx, 3)) (kk : W p l e R s m args below meth c H locs cells slots Q (F0 m (pc + 3) ls (.int r0 :: rest))) : W p l e R s m args below meth c H locs cells slots Q (F0 m pc ls (.int p1 :: .ref (a 3) :: rest)) :=
  fm_runV (n := 1) (C := RX4) (As := [.int p1]) S (c_X4_keyAt l D cI a φ p1 r0 hF) (F_pre (q0 := 3) (ci := 2) hK hP (hDT _) rfl rfl) h1 aI_X4_keyAt aV_X4_keyAt aN_RX4 aC_X4_keyAt rfl rfl (by decide +kernel) rfl hR hc hsz hW hdg (fun r hr => by subst hr; exact kk)
set_option maxHeartbeats 4000000 in
set_option maxRecDepth 100000 in
theorem c_X2_keyAt (l : Launch) (D : va_G) (cI : ClassId) (a : Nat → Nat) (φ : M2) (p1 : Int32) (r0 : Int32) (hF : G_X2_keyAt φ p1 = some r0) : Met l yX2_keyAt (wsA yX2_keyAt cX2_keyAt 2 (some .int)) { frames := 1, cells := 0, slots := 0, locals := 21 } (va_Pc [.ref (a 0), .int p1] (fbP D cI a φ)) (vp_Si (fun r => r = r0)) 0 0 (fun _ => False) := by
  refine Met.ofW (cc := cX2_keyAt) (maxL := 2) (ret := (some .int)) (by decide) rfl ?_
  intro p e s m args below meth c s₁ B hml hpre
  obtain ⟨rfl, hP, hK, hD0⟩ := hpre
  have hx := B.exec
  have hb := B.bytes
  have hr := B.returns
  have hA : ∀ w ∈ AW, w.before _ s = true := fun w h => atoms_spec (ws := wsA yX2_keyAt cX2_keyAt 2 (some .int)) B.pre w (List.mem_cons_of_mem _ h)
  have hown : s.vm.findClass RX2 = some m.cls := findClass_of_methodNamed B.named
  have hlocks := B.notSynchronized
  have hDT := F_dT hD0
  have S : CallFix p m c cX2_keyAt 2 s ([.ref (a 0), .int p1] : List Value).toArray AW RX2 := ⟨hx, hb, hml, hown, hA⟩
  have hl := lv_entry ([.ref (a 0), .int p1]) (n := 2) (Nat.le_of_ble_eq_true rfl)
  rw [lg_entry_eq]
  generalize (lg_sl ([.ref (a 0), .int p1]) ++ List.replicate (2 - (lg_sl ([.ref (a 0), .int p1])).length) Slot.unset).toArray = ls at hl ⊢
  have hl : lv_has ls 2 [(0, .ref (a 0)), (1, .int p1)] := hl
  have h := hF
  unfold G_X2_keyAt at h
  refine lv_aload_n hx hb dX2_keyAt_0 rfl (lv_at hl 0 rfl) ?_
  refine F_g0_8 hx hb hA hown aF_RX2_37 hK hP dX2_keyAt_1 ?_
  refine lv_iload_n hx hb dX2_keyAt_4 rfl (lv_at hl 1 rfl) ?_
  obtain ⟨r1, h2, h⟩ := obd_e h
  refine k_X4_keyAt S aM_RX2_66 ⟨Nat.le_of_ble_eq_true rfl, Nat.le_of_ble_eq_true rfl⟩ ⟨Nat.zero_le _, Nat.zero_le _⟩ hP hK hDT h2 hl.1 (Nat.le_of_ble_eq_true rfl) dX2_keyAt_5 ?_
  obtain rfl := os1 h
  exact W.iret (v := r1) hx hb hr (fun t ht hW => ⟨_, rfl, rfl, ht⟩) (fun q hq => absurd hq List.not_mem_nil) dX2_keyAt_8
theorem k_X2_keyAt {p : Program} {l : Launch} {e : Env} {R : Room} {s : State} {m : MethodId} {args : Array Value} {below : List Frame} {meth : Method} {c : Code} {H : Heap} {locs : List Loc} {cells slots : Nat} {Q : State → Prop} {cc : ByteArray} {pc nL idx : Nat} {ls : Array Slot} {rest : List Value} {own : String} {D : va_G} {cI : ClassId} {a : Nat → Nat} {φ : M2} {p1 : Int32} {r0 : Int32} (S : CallFix p m c cc nL s args AW own) (h1 : Cond.methodLink own idx yX2_keyAt ∈ AW) (hR : 1 + 1 ≤ R.frames ∧ 8 + (2 + 11) + 21 ≤ R.locals) (hc : cells ≤ R.cells ∧ slots ≤ R.slots) (hP : va_P D vwCl (fbW cI a φ) H) (hK : va_K D vwCl [(cI, .int)] s) (hDT : ∀ (φ2 : M2), va_D (fun _ => True) (fbW cI a φ2)) (hF : G_X2_keyAt φ p1 = some r0) (hsz : ls.size = nL) (hW : (rest.map fun v => v.category).sum ≤ 8) (hdg : decode cc pc = .ok (.invokevirtual idx, 3)) (kk : W p l e R s m args below meth c H locs cells slots Q (F0 m (pc + 3) ls (.int r0 :: rest))) : W p l e R s m args below meth c H locs cells slots Q (F0 m pc ls (.int p1 :: .ref (a 0) :: rest)) :=
  fm_runV (n := 1) (C := RX2) (As := [.int p1]) S (c_X2_keyAt l D cI a φ p1 r0 hF) (F_pre (q0 := 0) (ci := 0) hK hP (hDT _) rfl rfl) h1 aI_X2_keyAt aV_X2_keyAt aN_RX2 aC_X2_keyAt rfl rfl (by decide +kernel) rfl hR hc hsz hW hdg (fun r hr => by subst hr; exact kk)
set_option maxHeartbeats 4000000 in
set_option maxRecDepth 100000 in
theorem c_X4_indexOf (l : Launch) (D : va_G) (cI : ClassId) (a : Nat → Nat) (N : Nat) (φ : M2) (p1 : Int32) (r0 : Int32) (hF : G_X4_indexOf N φ p1 = some r0) : Met l yX4_indexOf (wsA yX4_indexOf cX4_indexOf 3 (some .int)) { frames := 0, cells := 0, slots := 0, locals := 0 } (va_Pc [.ref (a 3), .int p1] (fbP D cI a φ)) (vp_Si (fun r => r = r0)) 0 0 (fun _ => False) := by
  refine Met.ofW (cc := cX4_indexOf) (maxL := 3) (ret := (some .int)) (by decide) rfl ?_
  intro p e s m args below meth c s₁ B hml hpre
  obtain ⟨rfl, hP, hK, hD0⟩ := hpre
  have hx := B.exec
  have hb := B.bytes
  have hr := B.returns
  have hA : ∀ w ∈ AW, w.before _ s = true := fun w h => atoms_spec (ws := wsA yX4_indexOf cX4_indexOf 3 (some .int)) B.pre w (List.mem_cons_of_mem _ h)
  have hown : s.vm.findClass RX4 = some m.cls := findClass_of_methodNamed B.named
  have hlocks := B.notSynchronized
  have hDT := F_dT hD0
  have S : CallFix p m c cX4_indexOf 3 s ([.ref (a 3), .int p1] : List Value).toArray AW RX4 := ⟨hx, hb, hml, hown, hA⟩
  have hl := lv_entry ([.ref (a 3), .int p1]) (n := 3) (Nat.le_of_ble_eq_true rfl)
  rw [lg_entry_eq]
  generalize (lg_sl ([.ref (a 3), .int p1]) ++ List.replicate (3 - (lg_sl ([.ref (a 3), .int p1])).length) Slot.unset).toArray = ls at hl ⊢
  have hl : lv_has ls 3 [(0, .ref (a 3)), (1, .int p1)] := hl
  have hL2 : ∀ (k : Nat) (v1 : Int32) (v2 : Int32) (ls : Array Slot) , L_X4_indexOf_2 N φ v1 k v2 = some r0 → lv_has ls 3 [(0, .ref (a 3)), (1, .int v1), (2, .int v2)] → W p l e (headSpec (wsA yX4_indexOf cX4_indexOf 3 (some .int)) { frames := 0, cells := 0, slots := 0, locals := 0 }).room s m ([.ref (a 3), .int p1] : List Value).toArray below meth c s.heap [] 0 0 (MQ below (vp_Si (fun r => r = r0)) ([.ref (a 3), .int p1] : List Value).toArray s 0 0 (fun _ => False)) (F0 m 2 ls []) := by
    intro k
    induction k with
    | zero =>
      intro v1 v2 ls h hl
      exact no_s h
    | succ k ih =>
      intro v1 v2 ls h hl
      replace h : B_X4_indexOf_2 N φ v1 (L_X4_indexOf_2 N φ v1 k) v2 = some r0 := h
      unfold B_X4_indexOf_2 at h
      refine lv_iload_n hx hb dX4_indexOf_2 rfl (lv_at hl 2 rfl) ?_
      refine lv_aload_n hx hb dX4_indexOf_3 rfl (lv_at hl 0 rfl) ?_
      refine F_g3_1 hx hb hA hown aF_RX4_15 hK hP dX4_indexOf_4 ?_
      refine lv_icmp_ge (tgt := 37) hx hb dX4_indexOf_7 (by decide) (fun hc => ?_) (fun hc => ?_)
      · replace h := oi_t hc h
        refine lv_iconst (v := (-1)) hx hb dX4_indexOf_37 (by decide) ?_
        obtain rfl := os1 h
        exact W.iret (v := (-1)) hx hb hr (fun t ht hW => ⟨_, rfl, rfl, ht⟩) (fun q hq => absurd hq List.not_mem_nil) dX4_indexOf_38
      · replace h := oi_f hc h
        refine lv_iload_n hx hb dX4_indexOf_10 rfl (lv_at hl 2 rfl) ?_
        refine lv_aload_n hx hb dX4_indexOf_11 rfl (lv_at hl 0 rfl) ?_
        refine F_g3_0 hx hb hA hown aF_RX4_9 hK hP dX4_indexOf_12 ?_
        refine F_ln4 hx hb hK hP dX4_indexOf_15 ?_
        refine lv_icmp_ge (tgt := 37) hx hb dX4_indexOf_16 (by decide) (fun hc => ?_) (fun hc => ?_)
        · replace h := oi_t hc h
          refine lv_iconst (v := (-1)) hx hb dX4_indexOf_37 (by decide) ?_
          obtain rfl := os1 h
          exact W.iret (v := (-1)) hx hb hr (fun t ht hW => ⟨_, rfl, rfl, ht⟩) (fun q hq => absurd hq List.not_mem_nil) dX4_indexOf_38
        · replace h := oi_f hc h
          refine lv_aload_n hx hb dX4_indexOf_19 rfl (lv_at hl 0 rfl) ?_
          refine F_g3_0 hx hb hA hown aF_RX4_9 hK hP dX4_indexOf_20 ?_
          refine lv_iload_n hx hb dX4_indexOf_23 rfl (lv_at hl 2 rfl) ?_
          obtain ⟨i1, h⟩ := oin_e h
          refine F_ld4 hx hb hK hP i1 dX4_indexOf_24 ?_
          refine lv_iload_n hx hb dX4_indexOf_25 rfl (lv_at hl 1 rfl) ?_
          refine lv_icmp_ne (tgt := 31) hx hb dX4_indexOf_26 (by decide) (fun hc => ?_) (fun hc => ?_)
          · replace h := oi_f hc h
            refine lv_iinc (v := v2 + 1) (lv' := [(2, .int (v2 + 1)), (0, .ref (a 3)), (1, .int v1)]) hx hb dX4_indexOf_31 hl (k := 2) rfl (fm_inc _ _ _ (by decide)) (by decide) rfl (fun ls hl => ?_)
            refine lv_goto (tgt := 2) hx hb dX4_indexOf_34 (by decide) ?_
            exact ih _ _ _  h (lv_sub hl [1, 2, 0] rfl)
          · replace h := oi_t hc h
            refine lv_iload_n hx hb dX4_indexOf_29 rfl (lv_at hl 2 rfl) ?_
            obtain rfl := os1 h
            exact W.iret (v := v2) hx hb hr (fun t ht hW => ⟨_, rfl, rfl, ht⟩) (fun q hq => absurd hq List.not_mem_nil) dX4_indexOf_30
  have h := hF
  unfold G_X4_indexOf at h
  refine lv_iconst (v := 0) hx hb dX4_indexOf_0 (by decide) ?_
  refine lv_istore_n (lv' := [(2, .int 0), (0, .ref (a 3)), (1, .int p1)]) hx hb dX4_indexOf_1 rfl hl (by decide) rfl (fun ls hl => ?_)
  exact hL2 N _ _ _ h (lv_sub hl [1, 2, 0] rfl)
theorem k_X4_indexOf {p : Program} {l : Launch} {e : Env} {R : Room} {s : State} {m : MethodId} {args : Array Value} {below : List Frame} {meth : Method} {c : Code} {H : Heap} {locs : List Loc} {cells slots : Nat} {Q : State → Prop} {cc : ByteArray} {pc nL idx : Nat} {ls : Array Slot} {rest : List Value} {own : String} {D : va_G} {cI : ClassId} {a : Nat → Nat} {N : Nat} {φ : M2} {p1 : Int32} {r0 : Int32} (S : CallFix p m c cc nL s args AW own) (h1 : Cond.methodLink own idx yX4_indexOf ∈ AW) (hR : 0 + 1 ≤ R.frames ∧ 8 + (3 + 11) + 0 ≤ R.locals) (hc : cells ≤ R.cells ∧ slots ≤ R.slots) (hP : va_P D vwCl (fbW cI a φ) H) (hK : va_K D vwCl [(cI, .int)] s) (hDT : ∀ (φ2 : M2), va_D (fun _ => True) (fbW cI a φ2)) (hF : G_X4_indexOf N φ p1 = some r0) (hsz : ls.size = nL) (hW : (rest.map fun v => v.category).sum ≤ 8) (hdg : decode cc pc = .ok (.invokevirtual idx, 3)) (kk : W p l e R s m args below meth c H locs cells slots Q (F0 m (pc + 3) ls (.int r0 :: rest))) : W p l e R s m args below meth c H locs cells slots Q (F0 m pc ls (.int p1 :: .ref (a 3) :: rest)) :=
  fm_runV (n := 1) (C := RX4) (As := [.int p1]) S (c_X4_indexOf l D cI a N φ p1 r0 hF) (F_pre (q0 := 3) (ci := 2) hK hP (hDT _) rfl rfl) h1 aI_X4_indexOf aV_X4_indexOf aN_RX4 aC_X4_indexOf rfl rfl (by decide +kernel) rfl hR hc hsz hW hdg (fun r hr => by subst hr; exact kk)
set_option maxHeartbeats 4000000 in
set_option maxRecDepth 100000 in
theorem c_X4_has (l : Launch) (D : va_G) (cI : ClassId) (a : Nat → Nat) (N : Nat) (φ : M2) (p1 : Int32) (r0 : Int32) (hF : G_X4_has N φ p1 = some r0) : Met l yX4_has (wsA yX4_has cX4_has 2 (some .boolean)) { frames := 1, cells := 0, slots := 0, locals := 22 } (va_Pc [.ref (a 3), .int p1] (fbP D cI a φ)) (vp_Si (fun r => r = r0 ∧ (r = 0 ∨ r = 1))) 0 0 (fun _ => False) := by
  refine Met.ofW (cc := cX4_has) (maxL := 2) (ret := (some .boolean)) (by decide) rfl ?_
  intro p e s m args below meth c s₁ B hml hpre
  obtain ⟨rfl, hP, hK, hD0⟩ := hpre
  have hx := B.exec
  have hb := B.bytes
  have hr := B.returns
  have hA : ∀ w ∈ AW, w.before _ s = true := fun w h => atoms_spec (ws := wsA yX4_has cX4_has 2 (some .boolean)) B.pre w (List.mem_cons_of_mem _ h)
  have hown : s.vm.findClass RX4 = some m.cls := findClass_of_methodNamed B.named
  have hlocks := B.notSynchronized
  have hDT := F_dT hD0
  have S : CallFix p m c cX4_has 2 s ([.ref (a 3), .int p1] : List Value).toArray AW RX4 := ⟨hx, hb, hml, hown, hA⟩
  have hl := lv_entry ([.ref (a 3), .int p1]) (n := 2) (Nat.le_of_ble_eq_true rfl)
  rw [lg_entry_eq]
  generalize (lg_sl ([.ref (a 3), .int p1]) ++ List.replicate (2 - (lg_sl ([.ref (a 3), .int p1])).length) Slot.unset).toArray = ls at hl ⊢
  have hl : lv_has ls 2 [(0, .ref (a 3)), (1, .int p1)] := hl
  have h := hF
  unfold G_X4_has at h
  refine lv_aload_n hx hb dX4_has_0 rfl (lv_at hl 0 rfl) ?_
  refine lv_iload_n hx hb dX4_has_1 rfl (lv_at hl 1 rfl) ?_
  obtain ⟨r1, h2, h⟩ := obd_e h
  refine k_X4_indexOf S aM_RX4_19 ⟨Nat.le_of_ble_eq_true rfl, Nat.le_of_ble_eq_true rfl⟩ ⟨Nat.zero_le _, Nat.zero_le _⟩ hP hK hDT h2 hl.1 (Nat.le_of_ble_eq_true rfl) dX4_has_2 ?_
  refine lv_iconst (v := (-1)) hx hb dX4_has_5 (by decide) ?_
  refine lv_icmp_eq (tgt := 13) hx hb dX4_has_6 (by decide) (fun hc => ?_) (fun hc => ?_)
  · replace h := oi_t hc h
    refine lv_iconst (v := 0) hx hb dX4_has_13 (by decide) ?_
    obtain rfl := os1 h
    exact W.zret (v := 0) (ty := .boolean) hx hb hr rfl (fun t ht hW => ⟨_, rfl, ⟨rfl, (Or.inl rfl)⟩, ht⟩) (fun q hq => absurd hq List.not_mem_nil) dX4_has_14
  · replace h := oi_f hc h
    refine lv_iconst (v := 1) hx hb dX4_has_9 (by decide) ?_
    refine lv_goto (tgt := 14) hx hb dX4_has_10 (by decide) ?_
    obtain rfl := os1 h
    exact W.zret (v := 1) (ty := .boolean) hx hb hr rfl (fun t ht hW => ⟨_, rfl, ⟨rfl, (Or.inr rfl)⟩, ht⟩) (fun q hq => absurd hq List.not_mem_nil) dX4_has_14
theorem k_X4_has {p : Program} {l : Launch} {e : Env} {R : Room} {s : State} {m : MethodId} {args : Array Value} {below : List Frame} {meth : Method} {c : Code} {H : Heap} {locs : List Loc} {cells slots : Nat} {Q : State → Prop} {cc : ByteArray} {pc nL idx : Nat} {ls : Array Slot} {rest : List Value} {own : String} {D : va_G} {cI : ClassId} {a : Nat → Nat} {N : Nat} {φ : M2} {p1 : Int32} {r0 : Int32} (S : CallFix p m c cc nL s args AW own) (h1 : Cond.methodLink own idx yX4_has ∈ AW) (hR : 1 + 1 ≤ R.frames ∧ 8 + (2 + 11) + 22 ≤ R.locals) (hc : cells ≤ R.cells ∧ slots ≤ R.slots) (hP : va_P D vwCl (fbW cI a φ) H) (hK : va_K D vwCl [(cI, .int)] s) (hDT : ∀ (φ2 : M2), va_D (fun _ => True) (fbW cI a φ2)) (hF : G_X4_has N φ p1 = some r0) (hsz : ls.size = nL) (hW : (rest.map fun v => v.category).sum ≤ 8) (hdg : decode cc pc = .ok (.invokevirtual idx, 3)) (kk : (r0 = 0 ∨ r0 = 1) → W p l e R s m args below meth c H locs cells slots Q (F0 m (pc + 3) ls (.int r0 :: rest))) : W p l e R s m args below meth c H locs cells slots Q (F0 m pc ls (.int p1 :: .ref (a 3) :: rest)) :=
  fm_runV (n := 1) (C := RX4) (As := [.int p1]) S (c_X4_has l D cI a N φ p1 r0 hF) (F_pre (q0 := 3) (ci := 2) hK hP (hDT _) rfl rfl) h1 aI_X4_has aV_X4_has aN_RX4 aC_X4_has rfl rfl (by decide +kernel) rfl hR hc hsz hW hdg (fun r hr => by obtain ⟨rfl, hz⟩ := hr; exact kk hz)
set_option maxHeartbeats 4000000 in
set_option maxRecDepth 100000 in
theorem c_X2_isPresent (l : Launch) (D : va_G) (cI : ClassId) (a : Nat → Nat) (N : Nat) (φ : M2) (p1 : Int32) (r0 : Int32) (hF : G_X2_isPresent N φ p1 = some r0) : Met l yX2_isPresent (wsA yX2_isPresent cX2_isPresent 2 (some .boolean)) { frames := 2, cells := 0, slots := 0, locals := 43 } (va_Pc [.ref (a 0), .int p1] (fbP D cI a φ)) (vp_Si (fun r => r = r0 ∧ (r = 0 ∨ r = 1))) 0 0 (fun _ => False) := by
  refine Met.ofW (cc := cX2_isPresent) (maxL := 2) (ret := (some .boolean)) (by decide) rfl ?_
  intro p e s m args below meth c s₁ B hml hpre
  obtain ⟨rfl, hP, hK, hD0⟩ := hpre
  have hx := B.exec
  have hb := B.bytes
  have hr := B.returns
  have hA : ∀ w ∈ AW, w.before _ s = true := fun w h => atoms_spec (ws := wsA yX2_isPresent cX2_isPresent 2 (some .boolean)) B.pre w (List.mem_cons_of_mem _ h)
  have hown : s.vm.findClass RX2 = some m.cls := findClass_of_methodNamed B.named
  have hlocks := B.notSynchronized
  have hDT := F_dT hD0
  have S : CallFix p m c cX2_isPresent 2 s ([.ref (a 0), .int p1] : List Value).toArray AW RX2 := ⟨hx, hb, hml, hown, hA⟩
  have hl := lv_entry ([.ref (a 0), .int p1]) (n := 2) (Nat.le_of_ble_eq_true rfl)
  rw [lg_entry_eq]
  generalize (lg_sl ([.ref (a 0), .int p1]) ++ List.replicate (2 - (lg_sl ([.ref (a 0), .int p1])).length) Slot.unset).toArray = ls at hl ⊢
  have hl : lv_has ls 2 [(0, .ref (a 0)), (1, .int p1)] := hl
  have h := hF
  unfold G_X2_isPresent at h
  refine lv_aload_n hx hb dX2_isPresent_0 rfl (lv_at hl 0 rfl) ?_
  refine F_g0_8 hx hb hA hown aF_RX2_37 hK hP dX2_isPresent_1 ?_
  refine lv_iload_n hx hb dX2_isPresent_4 rfl (lv_at hl 1 rfl) ?_
  obtain ⟨r1, h2, h⟩ := obd_e h
  refine k_X4_has S aM_RX2_70 ⟨Nat.le_of_ble_eq_true rfl, Nat.le_of_ble_eq_true rfl⟩ ⟨Nat.zero_le _, Nat.zero_le _⟩ hP hK hDT h2 hl.1 (Nat.le_of_ble_eq_true rfl) dX2_isPresent_5 (fun br1 => ?_)
  obtain rfl := os1 h
  exact W.zret (v := r1) (ty := .boolean) hx hb hr (fm_nz br1) (fun t ht hW => ⟨_, rfl, ⟨rfl, br1⟩, ht⟩) (fun q hq => absurd hq List.not_mem_nil) dX2_isPresent_8
theorem k_X2_isPresent {p : Program} {l : Launch} {e : Env} {R : Room} {s : State} {m : MethodId} {args : Array Value} {below : List Frame} {meth : Method} {c : Code} {H : Heap} {locs : List Loc} {cells slots : Nat} {Q : State → Prop} {cc : ByteArray} {pc nL idx : Nat} {ls : Array Slot} {rest : List Value} {own : String} {D : va_G} {cI : ClassId} {a : Nat → Nat} {N : Nat} {φ : M2} {p1 : Int32} {r0 : Int32} (S : CallFix p m c cc nL s args AW own) (h1 : Cond.methodLink own idx yX2_isPresent ∈ AW) (hR : 2 + 1 ≤ R.frames ∧ 8 + (2 + 11) + 43 ≤ R.locals) (hc : cells ≤ R.cells ∧ slots ≤ R.slots) (hP : va_P D vwCl (fbW cI a φ) H) (hK : va_K D vwCl [(cI, .int)] s) (hDT : ∀ (φ2 : M2), va_D (fun _ => True) (fbW cI a φ2)) (hF : G_X2_isPresent N φ p1 = some r0) (hsz : ls.size = nL) (hW : (rest.map fun v => v.category).sum ≤ 8) (hdg : decode cc pc = .ok (.invokevirtual idx, 3)) (kk : (r0 = 0 ∨ r0 = 1) → W p l e R s m args below meth c H locs cells slots Q (F0 m (pc + 3) ls (.int r0 :: rest))) : W p l e R s m args below meth c H locs cells slots Q (F0 m pc ls (.int p1 :: .ref (a 0) :: rest)) :=
  fm_runV (n := 1) (C := RX2) (As := [.int p1]) S (c_X2_isPresent l D cI a N φ p1 r0 hF) (F_pre (q0 := 0) (ci := 0) hK hP (hDT _) rfl rfl) h1 aI_X2_isPresent aV_X2_isPresent aN_RX2 aC_X2_isPresent rfl rfl (by decide +kernel) rfl hR hc hsz hW hdg (fun r hr => by obtain ⟨rfl, hz⟩ := hr; exact kk hz)
set_option maxHeartbeats 4000000 in
set_option maxRecDepth 100000 in
theorem c_X2_codeOf (l : Launch) (D : va_G) (cI : ClassId) (a : Nat → Nat) (φ : M2) (p1 : Int32) (r0 : Int32) (hF : G_X2_codeOf φ p1 = r0) : Met l yX2_codeOf (wsA yX2_codeOf cX2_codeOf 2 (some .int)) { frames := 1, cells := 0, slots := 0, locals := 23 } (va_Pc [.ref (a 0), .int p1] (fbP D cI a φ)) (vp_Si (fun r => r = r0)) 0 0 (fun _ => False) := by
  refine Met.ofW (cc := cX2_codeOf) (maxL := 2) (ret := (some .int)) (by decide) rfl ?_
  intro p e s m args below meth c s₁ B hml hpre
  obtain ⟨rfl, hP, hK, hD0⟩ := hpre
  have hx := B.exec
  have hb := B.bytes
  have hr := B.returns
  have hA : ∀ w ∈ AW, w.before _ s = true := fun w h => atoms_spec (ws := wsA yX2_codeOf cX2_codeOf 2 (some .int)) B.pre w (List.mem_cons_of_mem _ h)
  have hown : s.vm.findClass RX2 = some m.cls := findClass_of_methodNamed B.named
  have hlocks := B.notSynchronized
  have hDT := F_dT hD0
  have S : CallFix p m c cX2_codeOf 2 s ([.ref (a 0), .int p1] : List Value).toArray AW RX2 := ⟨hx, hb, hml, hown, hA⟩
  have hl := lv_entry ([.ref (a 0), .int p1]) (n := 2) (Nat.le_of_ble_eq_true rfl)
  rw [lg_entry_eq]
  generalize (lg_sl ([.ref (a 0), .int p1]) ++ List.replicate (2 - (lg_sl ([.ref (a 0), .int p1])).length) Slot.unset).toArray = ls at hl ⊢
  have hl : lv_has ls 2 [(0, .ref (a 0)), (1, .int p1)] := hl
  have h := hF
  unfold G_X2_codeOf at h
  refine lv_iload_n hx hb dX2_codeOf_0 rfl (lv_at hl 1 rfl) ?_
  refine lv_aload_n hx hb dX2_codeOf_1 rfl (lv_at hl 0 rfl) ?_
  refine F_g0_3 hx hb hA hown aF_RX2_21 hK hP dX2_codeOf_2 ?_
  refine k_X0_of S aM_RX2_74 ⟨Nat.le_of_ble_eq_true rfl, Nat.le_of_ble_eq_true rfl⟩ ⟨Nat.zero_le _, Nat.zero_le _⟩ hl.1 (Nat.le_of_ble_eq_true rfl) dX2_codeOf_5 (fun r1 er1 => ?_)
  replace h := olet_s er1 h
  subst h
  exact W.iret (v := r1) hx hb hr (fun t ht hW => ⟨_, rfl, rfl, ht⟩) (fun q hq => absurd hq List.not_mem_nil) dX2_codeOf_8
theorem k_X2_codeOf {p : Program} {l : Launch} {e : Env} {R : Room} {s : State} {m : MethodId} {args : Array Value} {below : List Frame} {meth : Method} {c : Code} {H : Heap} {locs : List Loc} {cells slots : Nat} {Q : State → Prop} {cc : ByteArray} {pc nL idx : Nat} {ls : Array Slot} {rest : List Value} {own : String} {D : va_G} {cI : ClassId} {a : Nat → Nat} {φ : M2} {p1 : Int32} (S : CallFix p m c cc nL s args AW own) (h1 : Cond.methodLink own idx yX2_codeOf ∈ AW) (hR : 1 + 1 ≤ R.frames ∧ 8 + (2 + 11) + 23 ≤ R.locals) (hc : cells ≤ R.cells ∧ slots ≤ R.slots) (hP : va_P D vwCl (fbW cI a φ) H) (hK : va_K D vwCl [(cI, .int)] s) (hDT : ∀ (φ2 : M2), va_D (fun _ => True) (fbW cI a φ2)) (hsz : ls.size = nL) (hW : (rest.map fun v => v.category).sum ≤ 8) (hdg : decode cc pc = .ok (.invokevirtual idx, 3)) (kk : ∀ r : Int32, r = G_X2_codeOf φ p1 → W p l e R s m args below meth c H locs cells slots Q (F0 m (pc + 3) ls (.int r :: rest))) : W p l e R s m args below meth c H locs cells slots Q (F0 m pc ls (.int p1 :: .ref (a 0) :: rest)) :=
  fm_runV (n := 1) (C := RX2) (As := [.int p1]) S (c_X2_codeOf l D cI a φ p1 _ rfl) (F_pre (q0 := 0) (ci := 0) hK hP (hDT _) rfl rfl) h1 aI_X2_codeOf aV_X2_codeOf aN_RX2 aC_X2_codeOf rfl rfl (by decide +kernel) rfl hR hc hsz hW hdg (fun r hr => kk r hr)
set_option maxHeartbeats 4000000 in
set_option maxRecDepth 100000 in
theorem c_X2_newEntry (l : Launch) (D : va_G) (cI : ClassId) (a : Nat → Nat) (φ : M2) (p1 : Int32) (r0 : Int32) (hF : G_X2_newEntry φ p1 = r0) : Met l yX2_newEntry (wsA yX2_newEntry cX2_newEntry 2 (some .int)) { frames := 2, cells := 0, slots := 0, locals := 46 } (va_Pc [.ref (a 0), .int p1] (fbP D cI a φ)) (vp_Si (fun r => r = r0)) 0 0 (fun _ => False) := by
  refine Met.ofW (cc := cX2_newEntry) (maxL := 2) (ret := (some .int)) (by decide) rfl ?_
  intro p e s m args below meth c s₁ B hml hpre
  obtain ⟨rfl, hP, hK, hD0⟩ := hpre
  have hx := B.exec
  have hb := B.bytes
  have hr := B.returns
  have hA : ∀ w ∈ AW, w.before _ s = true := fun w h => atoms_spec (ws := wsA yX2_newEntry cX2_newEntry 2 (some .int)) B.pre w (List.mem_cons_of_mem _ h)
  have hown : s.vm.findClass RX2 = some m.cls := findClass_of_methodNamed B.named
  have hlocks := B.notSynchronized
  have hDT := F_dT hD0
  have S : CallFix p m c cX2_newEntry 2 s ([.ref (a 0), .int p1] : List Value).toArray AW RX2 := ⟨hx, hb, hml, hown, hA⟩
  have hl := lv_entry ([.ref (a 0), .int p1]) (n := 2) (Nat.le_of_ble_eq_true rfl)
  rw [lg_entry_eq]
  generalize (lg_sl ([.ref (a 0), .int p1]) ++ List.replicate (2 - (lg_sl ([.ref (a 0), .int p1])).length) Slot.unset).toArray = ls at hl ⊢
  have hl : lv_has ls 2 [(0, .ref (a 0)), (1, .int p1)] := hl
  have h := hF
  unfold G_X2_newEntry at h
  refine lv_aload_n hx hb dX2_newEntry_0 rfl (lv_at hl 0 rfl) ?_
  refine lv_iload_n hx hb dX2_newEntry_1 rfl (lv_at hl 1 rfl) ?_
  refine k_X2_codeOf S aM_RX2_80 ⟨Nat.le_of_ble_eq_true rfl, Nat.le_of_ble_eq_true rfl⟩ ⟨Nat.zero_le _, Nat.zero_le _⟩ hP hK hDT hl.1 (Nat.le_of_ble_eq_true rfl) dX2_newEntry_2 (fun r1 er1 => ?_)
  replace h := olet_s er1 h
  refine lv_aload_n hx hb dX2_newEntry_5 rfl (lv_at hl 0 rfl) ?_
  refine F_g0_0 hx hb hA hown aF_RX2_9 hK hP dX2_newEntry_6 ?_
  refine lv_aload_n hx hb dX2_newEntry_9 rfl (lv_at hl 0 rfl) ?_
  refine F_g0_2 hx hb hA hown aF_RX2_18 hK hP dX2_newEntry_10 ?_
  refine k_X1_of S aM_RX2_83 ⟨Nat.le_of_ble_eq_true rfl, Nat.le_of_ble_eq_true rfl⟩ ⟨Nat.zero_le _, Nat.zero_le _⟩ hl.1 (Nat.le_of_ble_eq_true rfl) dX2_newEntry_13 (fun r2 er2 => ?_)
  replace h := olet_s er2 h
  subst h
  exact W.iret (v := r2) hx hb hr (fun t ht hW => ⟨_, rfl, rfl, ht⟩) (fun q hq => absurd hq List.not_mem_nil) dX2_newEntry_16
theorem k_X2_newEntry {p : Program} {l : Launch} {e : Env} {R : Room} {s : State} {m : MethodId} {args : Array Value} {below : List Frame} {meth : Method} {c : Code} {H : Heap} {locs : List Loc} {cells slots : Nat} {Q : State → Prop} {cc : ByteArray} {pc nL idx : Nat} {ls : Array Slot} {rest : List Value} {own : String} {D : va_G} {cI : ClassId} {a : Nat → Nat} {φ : M2} {p1 : Int32} (S : CallFix p m c cc nL s args AW own) (h1 : Cond.methodLink own idx yX2_newEntry ∈ AW) (hR : 2 + 1 ≤ R.frames ∧ 8 + (2 + 11) + 46 ≤ R.locals) (hc : cells ≤ R.cells ∧ slots ≤ R.slots) (hP : va_P D vwCl (fbW cI a φ) H) (hK : va_K D vwCl [(cI, .int)] s) (hDT : ∀ (φ2 : M2), va_D (fun _ => True) (fbW cI a φ2)) (hsz : ls.size = nL) (hW : (rest.map fun v => v.category).sum ≤ 8) (hdg : decode cc pc = .ok (.invokevirtual idx, 3)) (kk : ∀ r : Int32, r = G_X2_newEntry φ p1 → W p l e R s m args below meth c H locs cells slots Q (F0 m (pc + 3) ls (.int r :: rest))) : W p l e R s m args below meth c H locs cells slots Q (F0 m pc ls (.int p1 :: .ref (a 0) :: rest)) :=
  fm_runV (n := 1) (C := RX2) (As := [.int p1]) S (c_X2_newEntry l D cI a φ p1 _ rfl) (F_pre (q0 := 0) (ci := 0) hK hP (hDT _) rfl rfl) h1 aI_X2_newEntry aV_X2_newEntry aN_RX2 aC_X2_newEntry rfl rfl (by decide +kernel) rfl hR hc hsz hW hdg (fun r hr => kk r hr)
set_option maxHeartbeats 4000000 in
set_option maxRecDepth 100000 in
theorem c_X2_otherOf (l : Launch) (D : va_G) (cI : ClassId) (a : Nat → Nat) (φ : M2) (p1 : Int32) (r0 : Int32) (hF : G_X2_otherOf φ p1 = r0) : Met l yX2_otherOf (wsA yX2_otherOf cX2_otherOf 2 (some .int)) { frames := 1, cells := 0, slots := 0, locals := 23 } (va_Pc [.ref (a 0), .int p1] (fbP D cI a φ)) (vp_Si (fun r => r = r0)) 0 0 (fun _ => False) := by
  refine Met.ofW (cc := cX2_otherOf) (maxL := 2) (ret := (some .int)) (by decide) rfl ?_
  intro p e s m args below meth c s₁ B hml hpre
  obtain ⟨rfl, hP, hK, hD0⟩ := hpre
  have hx := B.exec
  have hb := B.bytes
  have hr := B.returns
  have hA : ∀ w ∈ AW, w.before _ s = true := fun w h => atoms_spec (ws := wsA yX2_otherOf cX2_otherOf 2 (some .int)) B.pre w (List.mem_cons_of_mem _ h)
  have hown : s.vm.findClass RX2 = some m.cls := findClass_of_methodNamed B.named
  have hlocks := B.notSynchronized
  have hDT := F_dT hD0
  have S : CallFix p m c cX2_otherOf 2 s ([.ref (a 0), .int p1] : List Value).toArray AW RX2 := ⟨hx, hb, hml, hown, hA⟩
  have hl := lv_entry ([.ref (a 0), .int p1]) (n := 2) (Nat.le_of_ble_eq_true rfl)
  rw [lg_entry_eq]
  generalize (lg_sl ([.ref (a 0), .int p1]) ++ List.replicate (2 - (lg_sl ([.ref (a 0), .int p1])).length) Slot.unset).toArray = ls at hl ⊢
  have hl : lv_has ls 2 [(0, .ref (a 0)), (1, .int p1)] := hl
  have h := hF
  unfold G_X2_otherOf at h
  refine lv_iload_n hx hb dX2_otherOf_0 rfl (lv_at hl 1 rfl) ?_
  refine k_X1_homeOf S aM_RX2_88 ⟨Nat.le_of_ble_eq_true rfl, Nat.le_of_ble_eq_true rfl⟩ ⟨Nat.zero_le _, Nat.zero_le _⟩ hl.1 (Nat.le_of_ble_eq_true rfl) dX2_otherOf_1 (fun r1 er1 => ?_)
  replace h := olet_s er1 h
  refine lv_iload_n hx hb dX2_otherOf_4 rfl (lv_at hl 1 rfl) ?_
  refine k_X1_tagOf S aM_RX2_91 ⟨Nat.le_of_ble_eq_true rfl, Nat.le_of_ble_eq_true rfl⟩ ⟨Nat.zero_le _, Nat.zero_le _⟩ hl.1 (Nat.le_of_ble_eq_true rfl) dX2_otherOf_5 (fun r2 er2 => ?_)
  replace h := olet_s er2 h
  refine lv_aload_n hx hb dX2_otherOf_8 rfl (lv_at hl 0 rfl) ?_
  refine F_g0_0 hx hb hA hown aF_RX2_9 hK hP dX2_otherOf_9 ?_
  refine k_X0_partner S aM_RX2_94 ⟨Nat.le_of_ble_eq_true rfl, Nat.le_of_ble_eq_true rfl⟩ ⟨Nat.zero_le _, Nat.zero_le _⟩ hl.1 (Nat.le_of_ble_eq_true rfl) dX2_otherOf_12 (fun r3 er3 => ?_)
  replace h := olet_s er3 h
  subst h
  exact W.iret (v := r3) hx hb hr (fun t ht hW => ⟨_, rfl, rfl, ht⟩) (fun q hq => absurd hq List.not_mem_nil) dX2_otherOf_15
theorem k_X2_otherOf {p : Program} {l : Launch} {e : Env} {R : Room} {s : State} {m : MethodId} {args : Array Value} {below : List Frame} {meth : Method} {c : Code} {H : Heap} {locs : List Loc} {cells slots : Nat} {Q : State → Prop} {cc : ByteArray} {pc nL idx : Nat} {ls : Array Slot} {rest : List Value} {own : String} {D : va_G} {cI : ClassId} {a : Nat → Nat} {φ : M2} {p1 : Int32} (S : CallFix p m c cc nL s args AW own) (h1 : Cond.methodLink own idx yX2_otherOf ∈ AW) (hR : 1 + 1 ≤ R.frames ∧ 8 + (2 + 11) + 23 ≤ R.locals) (hc : cells ≤ R.cells ∧ slots ≤ R.slots) (hP : va_P D vwCl (fbW cI a φ) H) (hK : va_K D vwCl [(cI, .int)] s) (hDT : ∀ (φ2 : M2), va_D (fun _ => True) (fbW cI a φ2)) (hsz : ls.size = nL) (hW : (rest.map fun v => v.category).sum ≤ 8) (hdg : decode cc pc = .ok (.invokevirtual idx, 3)) (kk : ∀ r : Int32, r = G_X2_otherOf φ p1 → W p l e R s m args below meth c H locs cells slots Q (F0 m (pc + 3) ls (.int r :: rest))) : W p l e R s m args below meth c H locs cells slots Q (F0 m pc ls (.int p1 :: .ref (a 0) :: rest)) :=
  fm_runV (n := 1) (C := RX2) (As := [.int p1]) S (c_X2_otherOf l D cI a φ p1 _ rfl) (F_pre (q0 := 0) (ci := 0) hK hP (hDT _) rfl rfl) h1 aI_X2_otherOf aV_X2_otherOf aN_RX2 aC_X2_otherOf rfl rfl (by decide +kernel) rfl hR hc hsz hW hdg (fun r hr => kk r hr)
set_option maxHeartbeats 4000000 in
set_option maxRecDepth 100000 in
theorem c_X2_changeLimit (l : Launch) (D : va_G) (cI : ClassId) (a : Nat → Nat) (φ : M2) (p1 : Int32) (r0 : Int32) (φr : M2) (hF : G_X2_changeLimit φ p1 = some (r0, φr)) : Met l yX2_changeLimit (wsA yX2_changeLimit cX2_changeLimit 3 (some .int)) { frames := 0, cells := 0, slots := 0, locals := 0 } (va_Pc [.ref (a 0), .int p1] (fbP D cI a φ)) (va_Qi (fun (r : Int32) (_ : Unit) => r = r0) (fun _ t => va_P D vwCl (fbW cI a φr) t.heap) (fbA a)) 0 0 (fbA a) := by
  refine Met.ofW (cc := cX2_changeLimit) (maxL := 3) (ret := (some .int)) (by decide) rfl ?_
  intro p e s m args below meth c s₁ B hml hpre
  obtain ⟨rfl, hP, hK, hD0⟩ := hpre
  have hx := B.exec
  have hb := B.bytes
  have hr := B.returns
  have hA : ∀ w ∈ AW, w.before _ s = true := fun w h => atoms_spec (ws := wsA yX2_changeLimit cX2_changeLimit 3 (some .int)) B.pre w (List.mem_cons_of_mem _ h)
  have hown : s.vm.findClass RX2 = some m.cls := findClass_of_methodNamed B.named
  have hlocks := B.notSynchronized
  have hDT := F_dT hD0
  have hDA := F_dA hD0
  have hS : va_S (fbA a) s.heap s.heap [] := va_S.rf
  have S : CallFix p m c cX2_changeLimit 3 s ([.ref (a 0), .int p1] : List Value).toArray AW RX2 := ⟨hx, hb, hml, hown, hA⟩
  have hl := lv_entry ([.ref (a 0), .int p1]) (n := 3) (Nat.le_of_ble_eq_true rfl)
  rw [lg_entry_eq]
  generalize (lg_sl ([.ref (a 0), .int p1]) ++ List.replicate (3 - (lg_sl ([.ref (a 0), .int p1])).length) Slot.unset).toArray = ls at hl ⊢
  have hl : lv_has ls 3 [(0, .ref (a 0)), (1, .int p1)] := hl
  have h := hF
  unfold G_X2_changeLimit at h
  refine lv_aload_n hx hb dX2_changeLimit_0 rfl (lv_at hl 0 rfl) ?_
  refine F_g0_4 hx hb hA hown aF_RX2_24 hK hP dX2_changeLimit_1 ?_
  refine lv_topi (fun x1 ex1 => ?_)
  replace h := olet_s ex1 h
  refine lv_istore_n (lv' := [(2, .int x1), (0, .ref (a 0)), (1, .int p1)]) hx hb dX2_changeLimit_4 rfl hl (by decide) rfl (fun ls hl => ?_)
  refine lv_aload_n hx hb dX2_changeLimit_5 rfl (lv_at hl 1 rfl) ?_
  refine lv_iload_n hx hb dX2_changeLimit_6 rfl (lv_at hl 2 rfl) ?_
  refine F_p0_4 hx hb hA hown aF_RX2_24 hK hP (hDA _) hS dX2_changeLimit_7 (fun w2 H locs ew2 hP hS => ?_)
  replace h := olet_s ew2 h
  refine lv_iload_n hx hb dX2_changeLimit_10 rfl (lv_at hl 0 rfl) ?_
  obtain ⟨rfl, rfl⟩ := os2 h
  exact W.iret (v := x1) hx hb hr (fun t ht hW => ⟨⟨_, (), rfl, rfl, by show va_P _ _ _ t.heap; rw [ht]; exact hP⟩, hS.F ht⟩) hS.2.2 dX2_changeLimit_11
theorem k_X2_changeLimit {p : Program} {l : Launch} {e : Env} {R : Room} {s : State} {m : MethodId} {args : Array Value} {below : List Frame} {meth : Method} {c : Code} {H : Heap} {locs : List Loc} {cells slots : Nat} {Q : State → Prop} {cc : ByteArray} {pc nL idx : Nat} {ls : Array Slot} {rest : List Value} {own : String} {D : va_G} {cI : ClassId} {a : Nat → Nat} {H0 : Heap} {φ : M2} {p1 : Int32} {r0 : Int32} {φr : M2} (S : CallFix p m c cc nL s args AW own) (h1 : Cond.methodLink own idx yX2_changeLimit ∈ AW) (hR : 0 + 1 ≤ R.frames ∧ 8 + (3 + 11) + 0 ≤ R.locals) (hc : cells ≤ R.cells ∧ slots ≤ R.slots) (hP : va_P D vwCl (fbW cI a φ) H) (hK : va_K D vwCl [(cI, .int)] s) (hDT : ∀ (φ2 : M2), va_D (fun _ => True) (fbW cI a φ2)) (hS : va_S (fbA a) H0 H locs) (hF : G_X2_changeLimit φ p1 = some (r0, φr)) (hsz : ls.size = nL) (hW : (rest.map fun v => v.category).sum ≤ 8) (hdg : decode cc pc = .ok (.invokevirtual idx, 3)) (kk : ∀ (H1 : Heap) (locs1 : List Loc), va_P D vwCl (fbW cI a φr) H1 → va_S (fbA a) H0 H1 locs1 → W p l e R s m args below meth c H1 locs1 cells slots Q (F0 m (pc + 3) ls (.int r0 :: rest))) : W p l e R s m args below meth c H locs cells slots Q (F0 m pc ls (.int p1 :: .ref (a 0) :: rest)) :=
  fm_runVi (n := 1) (C := RX2) (As := [.int p1]) S (c_X2_changeLimit l D cI a φ p1 r0 φr hF) (F_pre (q0 := 0) (ci := 0) hK hP (hDT _) rfl rfl) hS h1 aI_X2_changeLimit aV_X2_changeLimit aN_RX2 aC_X2_changeLimit rfl rfl (by decide +kernel) rfl hR hc hsz hW hdg (fun r H1 locs1 hr hP1 hS1 => by subst hr; exact kk H1 locs1 hP1 hS1)
set_option maxHeartbeats 4000000 in
set_option maxRecDepth 100000 in
theorem c_X2_changeLength (l : Launch) (D : va_G) (cI : ClassId) (a : Nat → Nat) (φ : M2) (p1 : Int32) (r0 : Int32) (φr : M2) (hF : G_X2_changeLength φ p1 = some (r0, φr)) : Met l yX2_changeLength (wsA yX2_changeLength cX2_changeLength 3 (some .int)) { frames := 0, cells := 0, slots := 0, locals := 0 } (va_Pc [.ref (a 0), .int p1] (fbP D cI a φ)) (va_Qi (fun (r : Int32) (_ : Unit) => r = r0) (fun _ t => va_P D vwCl (fbW cI a φr) t.heap) (fbA a)) 0 0 (fbA a) := by
  refine Met.ofW (cc := cX2_changeLength) (maxL := 3) (ret := (some .int)) (by decide) rfl ?_
  intro p e s m args below meth c s₁ B hml hpre
  obtain ⟨rfl, hP, hK, hD0⟩ := hpre
  have hx := B.exec
  have hb := B.bytes
  have hr := B.returns
  have hA : ∀ w ∈ AW, w.before _ s = true := fun w h => atoms_spec (ws := wsA yX2_changeLength cX2_changeLength 3 (some .int)) B.pre w (List.mem_cons_of_mem _ h)
  have hown : s.vm.findClass RX2 = some m.cls := findClass_of_methodNamed B.named
  have hlocks := B.notSynchronized
  have hDT := F_dT hD0
  have hDA := F_dA hD0
  have hS : va_S (fbA a) s.heap s.heap [] := va_S.rf
  have S : CallFix p m c cX2_changeLength 3 s ([.ref (a 0), .int p1] : List Value).toArray AW RX2 := ⟨hx, hb, hml, hown, hA⟩
  have hl := lv_entry ([.ref (a 0), .int p1]) (n := 3) (Nat.le_of_ble_eq_true rfl)
  rw [lg_entry_eq]
  generalize (lg_sl ([.ref (a 0), .int p1]) ++ List.replicate (3 - (lg_sl ([.ref (a 0), .int p1])).length) Slot.unset).toArray = ls at hl ⊢
  have hl : lv_has ls 3 [(0, .ref (a 0)), (1, .int p1)] := hl
  have h := hF
  unfold G_X2_changeLength at h
  refine lv_aload_n hx hb dX2_changeLength_0 rfl (lv_at hl 0 rfl) ?_
  refine F_g0_2 hx hb hA hown aF_RX2_18 hK hP dX2_changeLength_1 ?_
  refine lv_topi (fun x1 ex1 => ?_)
  replace h := olet_s ex1 h
  refine lv_istore_n (lv' := [(2, .int x1), (0, .ref (a 0)), (1, .int p1)]) hx hb dX2_changeLength_4 rfl hl (by decide) rfl (fun ls hl => ?_)
  refine lv_aload_n hx hb dX2_changeLength_5 rfl (lv_at hl 1 rfl) ?_
  refine lv_iload_n hx hb dX2_changeLength_6 rfl (lv_at hl 2 rfl) ?_
  refine F_p0_2 hx hb hA hown aF_RX2_18 hK hP (hDA _) hS dX2_changeLength_7 (fun w2 H locs ew2 hP hS => ?_)
  replace h := olet_s ew2 h
  refine lv_iload_n hx hb dX2_changeLength_10 rfl (lv_at hl 0 rfl) ?_
  obtain ⟨rfl, rfl⟩ := os2 h
  exact W.iret (v := x1) hx hb hr (fun t ht hW => ⟨⟨_, (), rfl, rfl, by show va_P _ _ _ t.heap; rw [ht]; exact hP⟩, hS.F ht⟩) hS.2.2 dX2_changeLength_11
theorem k_X2_changeLength {p : Program} {l : Launch} {e : Env} {R : Room} {s : State} {m : MethodId} {args : Array Value} {below : List Frame} {meth : Method} {c : Code} {H : Heap} {locs : List Loc} {cells slots : Nat} {Q : State → Prop} {cc : ByteArray} {pc nL idx : Nat} {ls : Array Slot} {rest : List Value} {own : String} {D : va_G} {cI : ClassId} {a : Nat → Nat} {H0 : Heap} {φ : M2} {p1 : Int32} {r0 : Int32} {φr : M2} (S : CallFix p m c cc nL s args AW own) (h1 : Cond.methodLink own idx yX2_changeLength ∈ AW) (hR : 0 + 1 ≤ R.frames ∧ 8 + (3 + 11) + 0 ≤ R.locals) (hc : cells ≤ R.cells ∧ slots ≤ R.slots) (hP : va_P D vwCl (fbW cI a φ) H) (hK : va_K D vwCl [(cI, .int)] s) (hDT : ∀ (φ2 : M2), va_D (fun _ => True) (fbW cI a φ2)) (hS : va_S (fbA a) H0 H locs) (hF : G_X2_changeLength φ p1 = some (r0, φr)) (hsz : ls.size = nL) (hW : (rest.map fun v => v.category).sum ≤ 8) (hdg : decode cc pc = .ok (.invokevirtual idx, 3)) (kk : ∀ (H1 : Heap) (locs1 : List Loc), va_P D vwCl (fbW cI a φr) H1 → va_S (fbA a) H0 H1 locs1 → W p l e R s m args below meth c H1 locs1 cells slots Q (F0 m (pc + 3) ls (.int r0 :: rest))) : W p l e R s m args below meth c H locs cells slots Q (F0 m pc ls (.int p1 :: .ref (a 0) :: rest)) :=
  fm_runVi (n := 1) (C := RX2) (As := [.int p1]) S (c_X2_changeLength l D cI a φ p1 r0 φr hF) (F_pre (q0 := 0) (ci := 0) hK hP (hDT _) rfl rfl) hS h1 aI_X2_changeLength aV_X2_changeLength aN_RX2 aC_X2_changeLength rfl rfl (by decide +kernel) rfl hR hc hsz hW hdg (fun r H1 locs1 hr hP1 hS1 => by subst hr; exact kk H1 locs1 hP1 hS1)
set_option maxHeartbeats 4000000 in
set_option maxRecDepth 100000 in
theorem c_X2_emptyAll (l : Launch) (D : va_G) (cI : ClassId) (a : Nat → Nat) (N : Nat) (φ : M2) (φr : M2) (hF : G_X2_emptyAll N φ = some φr) : Met l yX2_emptyAll (wsA yX2_emptyAll cX2_emptyAll 2 none) { frames := 0, cells := 0, slots := 0, locals := 0 } (va_Pc [.ref (a 0)] (fbP D cI a φ)) (va_Qv (fun (_ : Unit) => True) (fun _ t => va_P D vwCl (fbW cI a φr) t.heap) (fbA a)) 0 0 (fbA a) := by
  refine Met.ofW (cc := cX2_emptyAll) (maxL := 2) (ret := none) (by decide) rfl ?_
  intro p e s m args below meth c s₁ B hml hpre
  obtain ⟨rfl, hP, hK, hD0⟩ := hpre
  have hx := B.exec
  have hb := B.bytes
  have hr := B.returns
  have hA : ∀ w ∈ AW, w.before _ s = true := fun w h => atoms_spec (ws := wsA yX2_emptyAll cX2_emptyAll 2 none) B.pre w (List.mem_cons_of_mem _ h)
  have hown : s.vm.findClass RX2 = some m.cls := findClass_of_methodNamed B.named
  have hlocks := B.notSynchronized
  have hDT := F_dT hD0
  have hDA := F_dA hD0
  have hS : va_S (fbA a) s.heap s.heap [] := va_S.rf
  have S : CallFix p m c cX2_emptyAll 2 s ([.ref (a 0)] : List Value).toArray AW RX2 := ⟨hx, hb, hml, hown, hA⟩
  have hl := lv_entry ([.ref (a 0)]) (n := 2) (Nat.le_of_ble_eq_true rfl)
  rw [lg_entry_eq]
  generalize (lg_sl ([.ref (a 0)]) ++ List.replicate (2 - (lg_sl ([.ref (a 0)])).length) Slot.unset).toArray = ls at hl ⊢
  have hl : lv_has ls 2 [(0, .ref (a 0))] := hl
  have hL2 : ∀ (k : Nat) (v1 : Int32) (φ : M2) (H : Heap) (locs : List Loc) (ls : Array Slot) (φo : M2), L_X2_emptyAll_2 N k v1 φ = some φo → va_P D vwCl (fbW cI a φ) H → va_S (fbA a) s.heap H locs → lv_has ls 2 [(0, .ref (a 0)), (1, .int v1)] → (∀ (H1 : Heap) (locs1 : List Loc) (ls1 : Array Slot), va_P D vwCl (fbW cI a φo) H1 → va_S (fbA a) s.heap H1 locs1 → lv_has ls1 2 [(0, .ref (a 0))] → W p l e (headSpec (wsA yX2_emptyAll cX2_emptyAll 2 none) { frames := 0, cells := 0, slots := 0, locals := 0 }).room s m ([.ref (a 0)] : List Value).toArray below meth c H1 locs1 0 0 (MQ below (va_Qv (fun (_ : Unit) => True) (fun _ t => va_P D vwCl (fbW cI a φr) t.heap) (fbA a)) ([.ref (a 0)] : List Value).toArray s 0 0 (fbA a)) (F0 m 24 ls1 [])) → W p l e (headSpec (wsA yX2_emptyAll cX2_emptyAll 2 none) { frames := 0, cells := 0, slots := 0, locals := 0 }).room s m ([.ref (a 0)] : List Value).toArray below meth c H locs 0 0 (MQ below (va_Qv (fun (_ : Unit) => True) (fun _ t => va_P D vwCl (fbW cI a φr) t.heap) (fbA a)) ([.ref (a 0)] : List Value).toArray s 0 0 (fbA a)) (F0 m 2 ls []) := by
    intro k
    induction k with
    | zero =>
      intro v1 φ H locs ls φo h hP hS hl kk
      exact no_s h
    | succ k ih =>
      intro v1 φ H locs ls φo h hP hS hl kk
      replace h : B_X2_emptyAll_2 N (L_X2_emptyAll_2 N k) v1 φ = some φo := h
      unfold B_X2_emptyAll_2 at h
      refine lv_iload_n hx hb dX2_emptyAll_2 rfl (lv_at hl 1 rfl) ?_
      refine lv_aload_n hx hb dX2_emptyAll_3 rfl (lv_at hl 0 rfl) ?_
      refine F_g0_5 hx hb hA hown aF_RX2_27 hK hP dX2_emptyAll_4 ?_
      refine F_ln1 hx hb hK hP dX2_emptyAll_7 ?_
      refine lv_icmp_ge (tgt := 24) hx hb dX2_emptyAll_8 (by decide) (fun hc => ?_) (fun hc => ?_)
      · replace h := oi_t hc h
        obtain rfl := os1 h
        exact kk _ _ _ hP hS (lv_sub hl [0] rfl)
      · replace h := oi_f hc h
        refine lv_aload_n hx hb dX2_emptyAll_11 rfl (lv_at hl 0 rfl) ?_
        refine F_g0_5 hx hb hA hown aF_RX2_27 hK hP dX2_emptyAll_12 ?_
        refine lv_iload_n hx hb dX2_emptyAll_15 rfl (lv_at hl 1 rfl) ?_
        refine lv_iconst (v := (-1)) hx hb dX2_emptyAll_16 (by decide) ?_
        obtain ⟨i1, h⟩ := oin_e h
        refine F_st1 hx hb hK hP (hDA _) hS i1 dX2_emptyAll_17 (fun w2 H locs ew2 hP hS => ?_)
        replace h := olet_s ew2 h
        refine lv_iinc (v := v1 + 1) (lv' := [(1, .int (v1 + 1)), (0, .ref (a 0))]) hx hb dX2_emptyAll_18 hl (k := 1) rfl (fm_inc _ _ _ (by decide)) (by decide) rfl (fun ls hl => ?_)
        refine lv_goto (tgt := 2) hx hb dX2_emptyAll_21 (by decide) ?_
        exact ih _ _ _ _ _ _ h hP hS (lv_sub hl [1, 0] rfl) kk
  have h := hF
  unfold G_X2_emptyAll at h
  refine lv_iconst (v := 0) hx hb dX2_emptyAll_0 (by decide) ?_
  refine lv_istore_n (lv' := [(1, .int 0), (0, .ref (a 0))]) hx hb dX2_emptyAll_1 rfl hl (by decide) rfl (fun ls hl => ?_)
  obtain ⟨w3, h4, h⟩ := obd_e h
  refine hL2 N _ _ _ _ _ _ h4 hP hS (lv_sub hl [1, 0] rfl) (fun H locs ls hP hS hl => ?_)
  refine lv_aload_n hx hb dX2_emptyAll_24 rfl (lv_at hl 0 rfl) ?_
  refine lv_iconst (v := 0) hx hb dX2_emptyAll_25 (by decide) ?_
  refine F_p0_7 hx hb hA hown aF_RX2_55 hK hP (hDA _) hS dX2_emptyAll_26 (fun w5 H locs ew5 hP hS => ?_)
  replace h := olet_s ew5 h
  obtain rfl := os1 h
  exact W.vret hx hb hr (fun t ht hW => ⟨⟨(), rfl, trivial, by show va_P _ _ _ t.heap; rw [ht]; exact hP⟩, hS.F ht⟩) hS.2.2 dX2_emptyAll_29
theorem k_X2_emptyAll {p : Program} {l : Launch} {e : Env} {R : Room} {s : State} {m : MethodId} {args : Array Value} {below : List Frame} {meth : Method} {c : Code} {H : Heap} {locs : List Loc} {cells slots : Nat} {Q : State → Prop} {cc : ByteArray} {pc nL idx : Nat} {ls : Array Slot} {rest : List Value} {own : String} {D : va_G} {cI : ClassId} {a : Nat → Nat} {H0 : Heap} {N : Nat} {φ : M2} {φr : M2} (S : CallFix p m c cc nL s args AW own) (h1 : Cond.methodLink own idx yX2_emptyAll ∈ AW) (hR : 0 + 1 ≤ R.frames ∧ 8 + (2 + 11) + 0 ≤ R.locals) (hc : cells ≤ R.cells ∧ slots ≤ R.slots) (hP : va_P D vwCl (fbW cI a φ) H) (hK : va_K D vwCl [(cI, .int)] s) (hDT : ∀ (φ2 : M2), va_D (fun _ => True) (fbW cI a φ2)) (hS : va_S (fbA a) H0 H locs) (hF : G_X2_emptyAll N φ = some φr) (hsz : ls.size = nL) (hW : (rest.map fun v => v.category).sum ≤ 8) (hdg : decode cc pc = .ok (.invokevirtual idx, 3)) (kk : ∀ (H1 : Heap) (locs1 : List Loc), va_P D vwCl (fbW cI a φr) H1 → va_S (fbA a) H0 H1 locs1 → W p l e R s m args below meth c H1 locs1 cells slots Q (F0 m (pc + 3) ls (rest))) : W p l e R s m args below meth c H locs cells slots Q (F0 m pc ls (.ref (a 0) :: rest)) :=
  fm_runVv (n := 0) (C := RX2) (As := []) S (c_X2_emptyAll l D cI a N φ φr hF) (F_pre (q0 := 0) (ci := 0) hK hP (hDT _) rfl rfl) hS h1 aI_X2_emptyAll aV_X2_emptyAll aN_RX2 aC_X2_emptyAll rfl rfl (by decide +kernel) rfl hR hc hsz hW hdg (fun H1 locs1 hP1 hS1 => kk H1 locs1 hP1 hS1)
set_option maxHeartbeats 4000000 in
set_option maxRecDepth 100000 in
theorem c_X4_empty (l : Launch) (D : va_G) (cI : ClassId) (a : Nat → Nat) (φ : M2) (φr : M2) (hF : G_X4_empty φ = some φr) : Met l yX4_empty (wsA yX4_empty cX4_empty 1 none) { frames := 0, cells := 0, slots := 0, locals := 0 } (va_Pc [.ref (a 3)] (fbP D cI a φ)) (va_Qv (fun (_ : Unit) => True) (fun _ t => va_P D vwCl (fbW cI a φr) t.heap) (fbA a)) 0 0 (fbA a) := by
  refine Met.ofW (cc := cX4_empty) (maxL := 1) (ret := none) (by decide) rfl ?_
  intro p e s m args below meth c s₁ B hml hpre
  obtain ⟨rfl, hP, hK, hD0⟩ := hpre
  have hx := B.exec
  have hb := B.bytes
  have hr := B.returns
  have hA : ∀ w ∈ AW, w.before _ s = true := fun w h => atoms_spec (ws := wsA yX4_empty cX4_empty 1 none) B.pre w (List.mem_cons_of_mem _ h)
  have hown : s.vm.findClass RX4 = some m.cls := findClass_of_methodNamed B.named
  have hlocks := B.notSynchronized
  have hDT := F_dT hD0
  have hDA := F_dA hD0
  have hS : va_S (fbA a) s.heap s.heap [] := va_S.rf
  have S : CallFix p m c cX4_empty 1 s ([.ref (a 3)] : List Value).toArray AW RX4 := ⟨hx, hb, hml, hown, hA⟩
  have hl := lv_entry ([.ref (a 3)]) (n := 1) (Nat.le_of_ble_eq_true rfl)
  rw [lg_entry_eq]
  generalize (lg_sl ([.ref (a 3)]) ++ List.replicate (1 - (lg_sl ([.ref (a 3)])).length) Slot.unset).toArray = ls at hl ⊢
  have hl : lv_has ls 1 [(0, .ref (a 3))] := hl
  have h := hF
  unfold G_X4_empty at h
  refine lv_aload_n hx hb dX4_empty_0 rfl (lv_at hl 0 rfl) ?_
  refine lv_iconst (v := 0) hx hb dX4_empty_1 (by decide) ?_
  refine F_p3_1 hx hb hA hown aF_RX4_15 hK hP (hDA _) hS dX4_empty_2 (fun w1 H locs ew1 hP hS => ?_)
  replace h := olet_s ew1 h
  obtain rfl := os1 h
  exact W.vret hx hb hr (fun t ht hW => ⟨⟨(), rfl, trivial, by show va_P _ _ _ t.heap; rw [ht]; exact hP⟩, hS.F ht⟩) hS.2.2 dX4_empty_5
theorem k_X4_empty {p : Program} {l : Launch} {e : Env} {R : Room} {s : State} {m : MethodId} {args : Array Value} {below : List Frame} {meth : Method} {c : Code} {H : Heap} {locs : List Loc} {cells slots : Nat} {Q : State → Prop} {cc : ByteArray} {pc nL idx : Nat} {ls : Array Slot} {rest : List Value} {own : String} {D : va_G} {cI : ClassId} {a : Nat → Nat} {H0 : Heap} {φ : M2} {φr : M2} (S : CallFix p m c cc nL s args AW own) (h1 : Cond.methodLink own idx yX4_empty ∈ AW) (hR : 0 + 1 ≤ R.frames ∧ 8 + (1 + 11) + 0 ≤ R.locals) (hc : cells ≤ R.cells ∧ slots ≤ R.slots) (hP : va_P D vwCl (fbW cI a φ) H) (hK : va_K D vwCl [(cI, .int)] s) (hDT : ∀ (φ2 : M2), va_D (fun _ => True) (fbW cI a φ2)) (hS : va_S (fbA a) H0 H locs) (hF : G_X4_empty φ = some φr) (hsz : ls.size = nL) (hW : (rest.map fun v => v.category).sum ≤ 8) (hdg : decode cc pc = .ok (.invokevirtual idx, 3)) (kk : ∀ (H1 : Heap) (locs1 : List Loc), va_P D vwCl (fbW cI a φr) H1 → va_S (fbA a) H0 H1 locs1 → W p l e R s m args below meth c H1 locs1 cells slots Q (F0 m (pc + 3) ls (rest))) : W p l e R s m args below meth c H locs cells slots Q (F0 m pc ls (.ref (a 3) :: rest)) :=
  fm_runVv (n := 0) (C := RX4) (As := []) S (c_X4_empty l D cI a φ φr hF) (F_pre (q0 := 3) (ci := 2) hK hP (hDT _) rfl rfl) hS h1 aI_X4_empty aV_X4_empty aN_RX4 aC_X4_empty rfl rfl (by decide +kernel) rfl hR hc hsz hW hdg (fun H1 locs1 hP1 hS1 => kk H1 locs1 hP1 hS1)
set_option maxHeartbeats 4000000 in
set_option maxRecDepth 100000 in
theorem c_X2_forgetAll (l : Launch) (D : va_G) (cI : ClassId) (a : Nat → Nat) (N : Nat) (φ : M2) (r0 : Int32) (φr : M2) (hF : G_X2_forgetAll N φ = some (r0, φr)) : Met l yX2_forgetAll (wsA yX2_forgetAll cX2_forgetAll 2 (some .int)) { frames := 1, cells := 0, slots := 0, locals := 21 } (va_Pc [.ref (a 0)] (fbP D cI a φ)) (va_Qi (fun (r : Int32) (_ : Unit) => r = r0) (fun _ t => va_P D vwCl (fbW cI a φr) t.heap) (fbA a)) 0 0 (fbA a) := by
  refine Met.ofW (cc := cX2_forgetAll) (maxL := 2) (ret := (some .int)) (by decide) rfl ?_
  intro p e s m args below meth c s₁ B hml hpre
  obtain ⟨rfl, hP, hK, hD0⟩ := hpre
  have hx := B.exec
  have hb := B.bytes
  have hr := B.returns
  have hA : ∀ w ∈ AW, w.before _ s = true := fun w h => atoms_spec (ws := wsA yX2_forgetAll cX2_forgetAll 2 (some .int)) B.pre w (List.mem_cons_of_mem _ h)
  have hown : s.vm.findClass RX2 = some m.cls := findClass_of_methodNamed B.named
  have hlocks := B.notSynchronized
  have hDT := F_dT hD0
  have hDA := F_dA hD0
  have hS : va_S (fbA a) s.heap s.heap [] := va_S.rf
  have S : CallFix p m c cX2_forgetAll 2 s ([.ref (a 0)] : List Value).toArray AW RX2 := ⟨hx, hb, hml, hown, hA⟩
  have hl := lv_entry ([.ref (a 0)]) (n := 2) (Nat.le_of_ble_eq_true rfl)
  rw [lg_entry_eq]
  generalize (lg_sl ([.ref (a 0)]) ++ List.replicate (2 - (lg_sl ([.ref (a 0)])).length) Slot.unset).toArray = ls at hl ⊢
  have hl : lv_has ls 2 [(0, .ref (a 0))] := hl
  have h := hF
  unfold G_X2_forgetAll at h
  refine lv_aload_n hx hb dX2_forgetAll_0 rfl (lv_at hl 0 rfl) ?_
  refine F_g0_8 hx hb hA hown aF_RX2_37 hK hP dX2_forgetAll_1 ?_
  refine k_X4_size S aM_RX2_62 ⟨Nat.le_of_ble_eq_true rfl, Nat.le_of_ble_eq_true rfl⟩ ⟨Nat.zero_le _, Nat.zero_le _⟩ hP hK hDT hl.1 (Nat.le_of_ble_eq_true rfl) dX2_forgetAll_4 (fun r1 er1 => ?_)
  replace h := olet_s er1 h
  refine lv_istore_n (lv' := [(1, .int r1), (0, .ref (a 0))]) hx hb dX2_forgetAll_7 rfl hl (by decide) rfl (fun ls hl => ?_)
  refine lv_aload_n hx hb dX2_forgetAll_8 rfl (lv_at hl 1 rfl) ?_
  obtain ⟨w2, h3, h⟩ := obd_e h
  refine k_X2_emptyAll S aM_RX2_97 ⟨Nat.le_of_ble_eq_true rfl, Nat.le_of_ble_eq_true rfl⟩ ⟨Nat.zero_le _, Nat.zero_le _⟩ hP hK hDT hS h3 hl.1 (Nat.le_of_ble_eq_true rfl) dX2_forgetAll_9 (fun H locs hP hS => ?_)
  refine lv_aload_n hx hb dX2_forgetAll_12 rfl (lv_at hl 1 rfl) ?_
  refine F_g0_8 hx hb hA hown aF_RX2_37 hK hP dX2_forgetAll_13 ?_
  obtain ⟨w4, h5, h⟩ := obd_e h
  refine k_X4_empty S aM_RX2_100 ⟨Nat.le_of_ble_eq_true rfl, Nat.le_of_ble_eq_true rfl⟩ ⟨Nat.zero_le _, Nat.zero_le _⟩ hP hK hDT hS h5 hl.1 (Nat.le_of_ble_eq_true rfl) dX2_forgetAll_16 (fun H locs hP hS => ?_)
  refine lv_iload_n hx hb dX2_forgetAll_19 rfl (lv_at hl 0 rfl) ?_
  obtain ⟨rfl, rfl⟩ := os2 h
  exact W.iret (v := r1) hx hb hr (fun t ht hW => ⟨⟨_, (), rfl, rfl, by show va_P _ _ _ t.heap; rw [ht]; exact hP⟩, hS.F ht⟩) hS.2.2 dX2_forgetAll_20
theorem k_X2_forgetAll {p : Program} {l : Launch} {e : Env} {R : Room} {s : State} {m : MethodId} {args : Array Value} {below : List Frame} {meth : Method} {c : Code} {H : Heap} {locs : List Loc} {cells slots : Nat} {Q : State → Prop} {cc : ByteArray} {pc nL idx : Nat} {ls : Array Slot} {rest : List Value} {own : String} {D : va_G} {cI : ClassId} {a : Nat → Nat} {H0 : Heap} {N : Nat} {φ : M2} {r0 : Int32} {φr : M2} (S : CallFix p m c cc nL s args AW own) (h1 : Cond.methodLink own idx yX2_forgetAll ∈ AW) (hR : 1 + 1 ≤ R.frames ∧ 8 + (2 + 11) + 21 ≤ R.locals) (hc : cells ≤ R.cells ∧ slots ≤ R.slots) (hP : va_P D vwCl (fbW cI a φ) H) (hK : va_K D vwCl [(cI, .int)] s) (hDT : ∀ (φ2 : M2), va_D (fun _ => True) (fbW cI a φ2)) (hS : va_S (fbA a) H0 H locs) (hF : G_X2_forgetAll N φ = some (r0, φr)) (hsz : ls.size = nL) (hW : (rest.map fun v => v.category).sum ≤ 8) (hdg : decode cc pc = .ok (.invokevirtual idx, 3)) (kk : ∀ (H1 : Heap) (locs1 : List Loc), va_P D vwCl (fbW cI a φr) H1 → va_S (fbA a) H0 H1 locs1 → W p l e R s m args below meth c H1 locs1 cells slots Q (F0 m (pc + 3) ls (.int r0 :: rest))) : W p l e R s m args below meth c H locs cells slots Q (F0 m pc ls (.ref (a 0) :: rest)) :=
  fm_runVi (n := 0) (C := RX2) (As := []) S (c_X2_forgetAll l D cI a N φ r0 φr hF) (F_pre (q0 := 0) (ci := 0) hK hP (hDT _) rfl rfl) hS h1 aI_X2_forgetAll aV_X2_forgetAll aN_RX2 aC_X2_forgetAll rfl rfl (by decide +kernel) rfl hR hc hsz hW hdg (fun r H1 locs1 hr hP1 hS1 => by subst hr; exact kk H1 locs1 hP1 hS1)
set_option maxHeartbeats 4000000 in
set_option maxRecDepth 100000 in
theorem c_X2_cellAt (l : Launch) (D : va_G) (cI : ClassId) (a : Nat → Nat) (φ : M2) (p1 : Int32) (r0 : Int32) (hF : G_X2_cellAt φ p1 = some r0) : Met l yX2_cellAt (wsA yX2_cellAt cX2_cellAt 2 (some .int)) { frames := 0, cells := 0, slots := 0, locals := 0 } (va_Pc [.ref (a 0), .int p1] (fbP D cI a φ)) (vp_Si (fun r => r = r0)) 0 0 (fun _ => False) := by
  refine Met.ofW (cc := cX2_cellAt) (maxL := 2) (ret := (some .int)) (by decide) rfl ?_
  intro p e s m args below meth c s₁ B hml hpre
  obtain ⟨rfl, hP, hK, hD0⟩ := hpre
  have hx := B.exec
  have hb := B.bytes
  have hr := B.returns
  have hA : ∀ w ∈ AW, w.before _ s = true := fun w h => atoms_spec (ws := wsA yX2_cellAt cX2_cellAt 2 (some .int)) B.pre w (List.mem_cons_of_mem _ h)
  have hown : s.vm.findClass RX2 = some m.cls := findClass_of_methodNamed B.named
  have hlocks := B.notSynchronized
  have hDT := F_dT hD0
  have S : CallFix p m c cX2_cellAt 2 s ([.ref (a 0), .int p1] : List Value).toArray AW RX2 := ⟨hx, hb, hml, hown, hA⟩
  have hl := lv_entry ([.ref (a 0), .int p1]) (n := 2) (Nat.le_of_ble_eq_true rfl)
  rw [lg_entry_eq]
  generalize (lg_sl ([.ref (a 0), .int p1]) ++ List.replicate (2 - (lg_sl ([.ref (a 0), .int p1])).length) Slot.unset).toArray = ls at hl ⊢
  have hl : lv_has ls 2 [(0, .ref (a 0)), (1, .int p1)] := hl
  have h := hF
  unfold G_X2_cellAt at h
  refine lv_iload_n hx hb dX2_cellAt_0 rfl (lv_at hl 1 rfl) ?_
  refine lv_if_lt (tgt := 22) hx hb dX2_cellAt_1 (by decide) (fun hc => ?_) (fun hc => ?_)
  · replace h := oi_t hc h
    refine lv_iconst (v := (-1)) hx hb dX2_cellAt_22 (by decide) ?_
    obtain rfl := os1 h
    exact W.iret (v := (-1)) hx hb hr (fun t ht hW => ⟨_, rfl, rfl, ht⟩) (fun q hq => absurd hq List.not_mem_nil) dX2_cellAt_23
  · replace h := oi_f hc h
    refine lv_iload_n hx hb dX2_cellAt_4 rfl (lv_at hl 1 rfl) ?_
    refine lv_aload_n hx hb dX2_cellAt_5 rfl (lv_at hl 0 rfl) ?_
    refine F_g0_5 hx hb hA hown aF_RX2_27 hK hP dX2_cellAt_6 ?_
    refine F_ln1 hx hb hK hP dX2_cellAt_9 ?_
    refine lv_icmp_ge (tgt := 22) hx hb dX2_cellAt_10 (by decide) (fun hc => ?_) (fun hc => ?_)
    · replace h := oi_t hc h
      refine lv_iconst (v := (-1)) hx hb dX2_cellAt_22 (by decide) ?_
      obtain rfl := os1 h
      exact W.iret (v := (-1)) hx hb hr (fun t ht hW => ⟨_, rfl, rfl, ht⟩) (fun q hq => absurd hq List.not_mem_nil) dX2_cellAt_23
    · replace h := oi_f hc h
      refine lv_aload_n hx hb dX2_cellAt_13 rfl (lv_at hl 0 rfl) ?_
      refine F_g0_5 hx hb hA hown aF_RX2_27 hK hP dX2_cellAt_14 ?_
      refine lv_iload_n hx hb dX2_cellAt_17 rfl (lv_at hl 1 rfl) ?_
      obtain ⟨i1, h⟩ := oin_e h
      refine F_ld1 hx hb hK hP i1 dX2_cellAt_18 ?_
      refine lv_goto (tgt := 23) hx hb dX2_cellAt_19 (by decide) ?_
      obtain rfl := os1 h
      exact W.iret (v := (φ 1 p1.toNatClampNeg)) hx hb hr (fun t ht hW => ⟨_, rfl, rfl, ht⟩) (fun q hq => absurd hq List.not_mem_nil) dX2_cellAt_23
theorem k_X2_cellAt {p : Program} {l : Launch} {e : Env} {R : Room} {s : State} {m : MethodId} {args : Array Value} {below : List Frame} {meth : Method} {c : Code} {H : Heap} {locs : List Loc} {cells slots : Nat} {Q : State → Prop} {cc : ByteArray} {pc nL idx : Nat} {ls : Array Slot} {rest : List Value} {own : String} {D : va_G} {cI : ClassId} {a : Nat → Nat} {φ : M2} {p1 : Int32} {r0 : Int32} (S : CallFix p m c cc nL s args AW own) (h1 : Cond.methodLink own idx yX2_cellAt ∈ AW) (hR : 0 + 1 ≤ R.frames ∧ 8 + (2 + 11) + 0 ≤ R.locals) (hc : cells ≤ R.cells ∧ slots ≤ R.slots) (hP : va_P D vwCl (fbW cI a φ) H) (hK : va_K D vwCl [(cI, .int)] s) (hDT : ∀ (φ2 : M2), va_D (fun _ => True) (fbW cI a φ2)) (hF : G_X2_cellAt φ p1 = some r0) (hsz : ls.size = nL) (hW : (rest.map fun v => v.category).sum ≤ 8) (hdg : decode cc pc = .ok (.invokevirtual idx, 3)) (kk : W p l e R s m args below meth c H locs cells slots Q (F0 m (pc + 3) ls (.int r0 :: rest))) : W p l e R s m args below meth c H locs cells slots Q (F0 m pc ls (.int p1 :: .ref (a 0) :: rest)) :=
  fm_runV (n := 1) (C := RX2) (As := [.int p1]) S (c_X2_cellAt l D cI a φ p1 r0 hF) (F_pre (q0 := 0) (ci := 0) hK hP (hDT _) rfl rfl) h1 aI_X2_cellAt aV_X2_cellAt aN_RX2 aC_X2_cellAt rfl rfl (by decide +kernel) rfl hR hc hsz hW hdg (fun r hr => by subst hr; exact kk)
set_option maxHeartbeats 4000000 in
set_option maxRecDepth 100000 in
theorem c_X2_entriesIn (l : Launch) (D : va_G) (cI : ClassId) (a : Nat → Nat) (N : Nat) (φ : M2) (p1 : Int32) (r0 : Int32) (hF : G_X2_entriesIn N φ p1 = some r0) : Met l yX2_entriesIn (wsA yX2_entriesIn cX2_entriesIn 4 (some .int)) { frames := 1, cells := 0, slots := 0, locals := 21 } (va_Pc [.ref (a 0), .int p1] (fbP D cI a φ)) (vp_Si (fun r => r = r0)) 0 0 (fun _ => False) := by
  refine Met.ofW (cc := cX2_entriesIn) (maxL := 4) (ret := (some .int)) (by decide) rfl ?_
  intro p e s m args below meth c s₁ B hml hpre
  obtain ⟨rfl, hP, hK, hD0⟩ := hpre
  have hx := B.exec
  have hb := B.bytes
  have hr := B.returns
  have hA : ∀ w ∈ AW, w.before _ s = true := fun w h => atoms_spec (ws := wsA yX2_entriesIn cX2_entriesIn 4 (some .int)) B.pre w (List.mem_cons_of_mem _ h)
  have hown : s.vm.findClass RX2 = some m.cls := findClass_of_methodNamed B.named
  have hlocks := B.notSynchronized
  have hDT := F_dT hD0
  have S : CallFix p m c cX2_entriesIn 4 s ([.ref (a 0), .int p1] : List Value).toArray AW RX2 := ⟨hx, hb, hml, hown, hA⟩
  have hl := lv_entry ([.ref (a 0), .int p1]) (n := 4) (Nat.le_of_ble_eq_true rfl)
  rw [lg_entry_eq]
  generalize (lg_sl ([.ref (a 0), .int p1]) ++ List.replicate (4 - (lg_sl ([.ref (a 0), .int p1])).length) Slot.unset).toArray = ls at hl ⊢
  have hl : lv_has ls 4 [(0, .ref (a 0)), (1, .int p1)] := hl
  have hL4 : ∀ (k : Nat) (v1 : Int32) (v2 : Int32) (v3 : Int32) (ls : Array Slot) (o2 : Int32), L_X2_entriesIn_4 N φ v1 k v2 v3 = some o2 → lv_has ls 4 [(0, .ref (a 0)), (1, .int v1), (2, .int v2), (3, .int v3)] → (∀ (ls1 : Array Slot), lv_has ls1 4 [(2, .int o2)] → W p l e (headSpec (wsA yX2_entriesIn cX2_entriesIn 4 (some .int)) { frames := 1, cells := 0, slots := 0, locals := 21 }).room s m ([.ref (a 0), .int p1] : List Value).toArray below meth c s.heap [] 0 0 (MQ below (vp_Si (fun r => r = r0)) ([.ref (a 0), .int p1] : List Value).toArray s 0 0 (fun _ => False)) (F0 m 34 ls1 [])) → W p l e (headSpec (wsA yX2_entriesIn cX2_entriesIn 4 (some .int)) { frames := 1, cells := 0, slots := 0, locals := 21 }).room s m ([.ref (a 0), .int p1] : List Value).toArray below meth c s.heap [] 0 0 (MQ below (vp_Si (fun r => r = r0)) ([.ref (a 0), .int p1] : List Value).toArray s 0 0 (fun _ => False)) (F0 m 4 ls []) := by
    intro k
    induction k with
    | zero =>
      intro v1 v2 v3 ls o2 h hl kk
      exact no_s h
    | succ k ih =>
      intro v1 v2 v3 ls o2 h hl kk
      replace h : B_X2_entriesIn_4 N φ v1 (L_X2_entriesIn_4 N φ v1 k) v2 v3 = some o2 := h
      unfold B_X2_entriesIn_4 at h
      refine lv_iload_n hx hb dX2_entriesIn_4 rfl (lv_at hl 3 rfl) ?_
      refine lv_aload_n hx hb dX2_entriesIn_5 rfl (lv_at hl 0 rfl) ?_
      refine F_g0_1 hx hb hA hown aF_RX2_15 hK hP dX2_entriesIn_6 ?_
      refine lv_icmp_ge (tgt := 34) hx hb dX2_entriesIn_9 (by decide) (fun hc => ?_) (fun hc => ?_)
      · replace h := oi_t hc h
        obtain rfl := os1 h
        exact kk _ (lv_sub hl [2] rfl)
      · replace h := oi_f hc h
        refine lv_aload_n hx hb dX2_entriesIn_12 rfl (lv_at hl 0 rfl) ?_
        refine lv_iload_n hx hb dX2_entriesIn_13 rfl (lv_at hl 1 rfl) ?_
        refine lv_iload_n hx hb dX2_entriesIn_14 rfl (lv_at hl 3 rfl) ?_
        refine k_X2_placeIn S aM_RX2_116 ⟨Nat.le_of_ble_eq_true rfl, Nat.le_of_ble_eq_true rfl⟩ ⟨Nat.zero_le _, Nat.zero_le _⟩ hl.1 (Nat.le_of_ble_eq_true rfl) dX2_entriesIn_15 (fun r1 er1 => ?_)
        replace h := olet_s er1 h
        obtain ⟨r2, h3, h⟩ := obd_e h
        refine k_X2_cellAt S aM_RX2_119 ⟨Nat.le_of_ble_eq_true rfl, Nat.le_of_ble_eq_true rfl⟩ ⟨Nat.zero_le _, Nat.zero_le _⟩ hP hK hDT h3 hl.1 (Nat.le_of_ble_eq_true rfl) dX2_entriesIn_18 ?_
        refine lv_iconst (v := (-1)) hx hb dX2_entriesIn_21 (by decide) ?_
        refine lv_icmp_eq (tgt := 28) hx hb dX2_entriesIn_22 (by decide) (fun hc => ?_) (fun hc => ?_)
        · replace h := oi_t hc h
          refine lv_iinc (v := v3 + 1) (lv' := [(3, .int (v3 + 1)), (0, .ref (a 0)), (1, .int v1), (2, .int v2)]) hx hb dX2_entriesIn_28 hl (k := 3) rfl (fm_inc _ _ _ (by decide)) (by decide) rfl (fun ls hl => ?_)
          refine lv_goto (tgt := 4) hx hb dX2_entriesIn_31 (by decide) ?_
          exact ih _ _ _ _ _ h (lv_sub hl [1, 2, 3, 0] rfl) kk
        · replace h := oi_f hc h
          refine lv_iinc (v := v2 + 1) (lv' := [(2, .int (v2 + 1)), (0, .ref (a 0)), (1, .int v1), (3, .int v3)]) hx hb dX2_entriesIn_25 hl (k := 2) rfl (fm_inc _ _ _ (by decide)) (by decide) rfl (fun ls hl => ?_)
          refine lv_iinc (v := v3 + 1) (lv' := [(3, .int (v3 + 1)), (2, .int (v2 + 1)), (0, .ref (a 0)), (1, .int v1)]) hx hb dX2_entriesIn_28 hl (k := 3) rfl (fm_inc _ _ _ (by decide)) (by decide) rfl (fun ls hl => ?_)
          refine lv_goto (tgt := 4) hx hb dX2_entriesIn_31 (by decide) ?_
          exact ih _ _ _ _ _ h (lv_sub hl [2, 3, 1, 0] rfl) kk
  have h := hF
  unfold G_X2_entriesIn at h
  refine lv_iconst (v := 0) hx hb dX2_entriesIn_0 (by decide) ?_
  refine lv_istore_n (lv' := [(2, .int 0), (0, .ref (a 0)), (1, .int p1)]) hx hb dX2_entriesIn_1 rfl hl (by decide) rfl (fun ls hl => ?_)
  refine lv_iconst (v := 0) hx hb dX2_entriesIn_2 (by decide) ?_
  refine lv_istore_n (lv' := [(3, .int 0), (2, .int 0), (0, .ref (a 0)), (1, .int p1)]) hx hb dX2_entriesIn_3 rfl hl (by decide) rfl (fun ls hl => ?_)
  obtain ⟨y4, h5, h⟩ := obd_e h
  refine hL4 N _ _ _ _ _ h5 (lv_sub hl [2, 3, 1, 0] rfl) (fun ls hl => ?_)
  refine lv_iload_n hx hb dX2_entriesIn_34 rfl (lv_at hl 0 rfl) ?_
  obtain rfl := os1 h
  exact W.iret (v := y4) hx hb hr (fun t ht hW => ⟨_, rfl, rfl, ht⟩) (fun q hq => absurd hq List.not_mem_nil) dX2_entriesIn_35
theorem k_X2_entriesIn {p : Program} {l : Launch} {e : Env} {R : Room} {s : State} {m : MethodId} {args : Array Value} {below : List Frame} {meth : Method} {c : Code} {H : Heap} {locs : List Loc} {cells slots : Nat} {Q : State → Prop} {cc : ByteArray} {pc nL idx : Nat} {ls : Array Slot} {rest : List Value} {own : String} {D : va_G} {cI : ClassId} {a : Nat → Nat} {N : Nat} {φ : M2} {p1 : Int32} {r0 : Int32} (S : CallFix p m c cc nL s args AW own) (h1 : Cond.methodLink own idx yX2_entriesIn ∈ AW) (hR : 1 + 1 ≤ R.frames ∧ 8 + (4 + 11) + 21 ≤ R.locals) (hc : cells ≤ R.cells ∧ slots ≤ R.slots) (hP : va_P D vwCl (fbW cI a φ) H) (hK : va_K D vwCl [(cI, .int)] s) (hDT : ∀ (φ2 : M2), va_D (fun _ => True) (fbW cI a φ2)) (hF : G_X2_entriesIn N φ p1 = some r0) (hsz : ls.size = nL) (hW : (rest.map fun v => v.category).sum ≤ 8) (hdg : decode cc pc = .ok (.invokevirtual idx, 3)) (kk : W p l e R s m args below meth c H locs cells slots Q (F0 m (pc + 3) ls (.int r0 :: rest))) : W p l e R s m args below meth c H locs cells slots Q (F0 m pc ls (.int p1 :: .ref (a 0) :: rest)) :=
  fm_runV (n := 1) (C := RX2) (As := [.int p1]) S (c_X2_entriesIn l D cI a N φ p1 r0 hF) (F_pre (q0 := 0) (ci := 0) hK hP (hDT _) rfl rfl) h1 aI_X2_entriesIn aV_X2_entriesIn aN_RX2 aC_X2_entriesIn rfl rfl (by decide +kernel) rfl hR hc hsz hW hdg (fun r hr => by subst hr; exact kk)
set_option maxHeartbeats 4000000 in
set_option maxRecDepth 100000 in
theorem c_X2_entriesInSlots (l : Launch) (D : va_G) (cI : ClassId) (a : Nat → Nat) (N : Nat) (φ : M2) (r0 : Int32) (hF : G_X2_entriesInSlots N φ = some r0) : Met l yX2_entriesInSlots (wsA yX2_entriesInSlots cX2_entriesInSlots 3 (some .int)) { frames := 2, cells := 0, slots := 0, locals := 44 } (va_Pc [.ref (a 0)] (fbP D cI a φ)) (vp_Si (fun r => r = r0)) 0 0 (fun _ => False) := by
  refine Met.ofW (cc := cX2_entriesInSlots) (maxL := 3) (ret := (some .int)) (by decide) rfl ?_
  intro p e s m args below meth c s₁ B hml hpre
  obtain ⟨rfl, hP, hK, hD0⟩ := hpre
  have hx := B.exec
  have hb := B.bytes
  have hr := B.returns
  have hA : ∀ w ∈ AW, w.before _ s = true := fun w h => atoms_spec (ws := wsA yX2_entriesInSlots cX2_entriesInSlots 3 (some .int)) B.pre w (List.mem_cons_of_mem _ h)
  have hown : s.vm.findClass RX2 = some m.cls := findClass_of_methodNamed B.named
  have hlocks := B.notSynchronized
  have hDT := F_dT hD0
  have S : CallFix p m c cX2_entriesInSlots 3 s ([.ref (a 0)] : List Value).toArray AW RX2 := ⟨hx, hb, hml, hown, hA⟩
  have hl := lv_entry ([.ref (a 0)]) (n := 3) (Nat.le_of_ble_eq_true rfl)
  rw [lg_entry_eq]
  generalize (lg_sl ([.ref (a 0)]) ++ List.replicate (3 - (lg_sl ([.ref (a 0)])).length) Slot.unset).toArray = ls at hl ⊢
  have hl : lv_has ls 3 [(0, .ref (a 0))] := hl
  have hL4 : ∀ (k : Nat) (v1 : Int32) (v2 : Int32) (ls : Array Slot) (o1 : Int32), L_X2_entriesInSlots_4 N φ k v1 v2 = some o1 → lv_has ls 3 [(0, .ref (a 0)), (1, .int v1), (2, .int v2)] → (∀ (ls1 : Array Slot), lv_has ls1 3 [(1, .int o1)] → W p l e (headSpec (wsA yX2_entriesInSlots cX2_entriesInSlots 3 (some .int)) { frames := 2, cells := 0, slots := 0, locals := 44 }).room s m ([.ref (a 0)] : List Value).toArray below meth c s.heap [] 0 0 (MQ below (vp_Si (fun r => r = r0)) ([.ref (a 0)] : List Value).toArray s 0 0 (fun _ => False)) (F0 m 26 ls1 [])) → W p l e (headSpec (wsA yX2_entriesInSlots cX2_entriesInSlots 3 (some .int)) { frames := 2, cells := 0, slots := 0, locals := 44 }).room s m ([.ref (a 0)] : List Value).toArray below meth c s.heap [] 0 0 (MQ below (vp_Si (fun r => r = r0)) ([.ref (a 0)] : List Value).toArray s 0 0 (fun _ => False)) (F0 m 4 ls []) := by
    intro k
    induction k with
    | zero =>
      intro v1 v2 ls o1 h hl kk
      exact no_s h
    | succ k ih =>
      intro v1 v2 ls o1 h hl kk
      replace h : B_X2_entriesInSlots_4 N φ (L_X2_entriesInSlots_4 N φ k) v1 v2 = some o1 := h
      unfold B_X2_entriesInSlots_4 at h
      refine lv_iload_n hx hb dX2_entriesInSlots_4 rfl (lv_at hl 2 rfl) ?_
      refine lv_aload_n hx hb dX2_entriesInSlots_5 rfl (lv_at hl 0 rfl) ?_
      refine k_X2_bucketCount S aM_RX2_103 ⟨Nat.le_of_ble_eq_true rfl, Nat.le_of_ble_eq_true rfl⟩ ⟨Nat.zero_le _, Nat.zero_le _⟩ hP hK hDT hl.1 (Nat.le_of_ble_eq_true rfl) dX2_entriesInSlots_6 (fun r1 er1 => ?_)
      replace h := olet_s er1 h
      refine lv_icmp_ge (tgt := 26) hx hb dX2_entriesInSlots_9 (by decide) (fun hc => ?_) (fun hc => ?_)
      · replace h := oi_t hc h
        obtain rfl := os1 h
        exact kk _ (lv_sub hl [1] rfl)
      · replace h := oi_f hc h
        refine lv_iload_n hx hb dX2_entriesInSlots_12 rfl (lv_at hl 1 rfl) ?_
        refine lv_aload_n hx hb dX2_entriesInSlots_13 rfl (lv_at hl 0 rfl) ?_
        refine lv_iload_n hx hb dX2_entriesInSlots_14 rfl (lv_at hl 2 rfl) ?_
        obtain ⟨r2, h3, h⟩ := obd_e h
        refine k_X2_entriesIn S aM_RX2_128 ⟨Nat.le_of_ble_eq_true rfl, Nat.le_of_ble_eq_true rfl⟩ ⟨Nat.zero_le _, Nat.zero_le _⟩ hP hK hDT h3 hl.1 (Nat.le_of_ble_eq_true rfl) dX2_entriesInSlots_15 ?_
        refine lv_iadd hx hb dX2_entriesInSlots_18 ?_
        refine lv_topi (fun x4 ex4 => ?_)
        replace h := olet_s ex4 h
        refine lv_istore_n (lv' := [(1, .int x4), (0, .ref (a 0)), (2, .int v2)]) hx hb dX2_entriesInSlots_19 rfl hl (by decide) rfl (fun ls hl => ?_)
        refine lv_iinc (v := v2 + 1) (lv' := [(2, .int (v2 + 1)), (1, .int x4), (0, .ref (a 0))]) hx hb dX2_entriesInSlots_20 hl (k := 2) rfl (fm_inc _ _ _ (by decide)) (by decide) rfl (fun ls hl => ?_)
        refine lv_goto (tgt := 4) hx hb dX2_entriesInSlots_23 (by decide) ?_
        exact ih _ _ _ _ h (lv_sub hl [2, 1, 0] rfl) kk
  have h := hF
  unfold G_X2_entriesInSlots at h
  refine lv_iconst (v := 0) hx hb dX2_entriesInSlots_0 (by decide) ?_
  refine lv_istore_n (lv' := [(1, .int 0), (0, .ref (a 0))]) hx hb dX2_entriesInSlots_1 rfl hl (by decide) rfl (fun ls hl => ?_)
  refine lv_iconst (v := 0) hx hb dX2_entriesInSlots_2 (by decide) ?_
  refine lv_istore_n (lv' := [(2, .int 0), (1, .int 0), (0, .ref (a 0))]) hx hb dX2_entriesInSlots_3 rfl hl (by decide) rfl (fun ls hl => ?_)
  obtain ⟨y5, h6, h⟩ := obd_e h
  refine hL4 N _ _ _ _ h6 (lv_sub hl [2, 1, 0] rfl) (fun ls hl => ?_)
  refine lv_iload_n hx hb dX2_entriesInSlots_26 rfl (lv_at hl 0 rfl) ?_
  obtain rfl := os1 h
  exact W.iret (v := y5) hx hb hr (fun t ht hW => ⟨_, rfl, rfl, ht⟩) (fun q hq => absurd hq List.not_mem_nil) dX2_entriesInSlots_27
theorem k_X2_entriesInSlots {p : Program} {l : Launch} {e : Env} {R : Room} {s : State} {m : MethodId} {args : Array Value} {below : List Frame} {meth : Method} {c : Code} {H : Heap} {locs : List Loc} {cells slots : Nat} {Q : State → Prop} {cc : ByteArray} {pc nL idx : Nat} {ls : Array Slot} {rest : List Value} {own : String} {D : va_G} {cI : ClassId} {a : Nat → Nat} {N : Nat} {φ : M2} {r0 : Int32} (S : CallFix p m c cc nL s args AW own) (h1 : Cond.methodLink own idx yX2_entriesInSlots ∈ AW) (hR : 2 + 1 ≤ R.frames ∧ 8 + (3 + 11) + 44 ≤ R.locals) (hc : cells ≤ R.cells ∧ slots ≤ R.slots) (hP : va_P D vwCl (fbW cI a φ) H) (hK : va_K D vwCl [(cI, .int)] s) (hDT : ∀ (φ2 : M2), va_D (fun _ => True) (fbW cI a φ2)) (hF : G_X2_entriesInSlots N φ = some r0) (hsz : ls.size = nL) (hW : (rest.map fun v => v.category).sum ≤ 8) (hdg : decode cc pc = .ok (.invokevirtual idx, 3)) (kk : W p l e R s m args below meth c H locs cells slots Q (F0 m (pc + 3) ls (.int r0 :: rest))) : W p l e R s m args below meth c H locs cells slots Q (F0 m pc ls (.ref (a 0) :: rest)) :=
  fm_runV (n := 0) (C := RX2) (As := []) S (c_X2_entriesInSlots l D cI a N φ r0 hF) (F_pre (q0 := 0) (ci := 0) hK hP (hDT _) rfl rfl) h1 aI_X2_entriesInSlots aV_X2_entriesInSlots aN_RX2 aC_X2_entriesInSlots rfl rfl (by decide +kernel) rfl hR hc hsz hW hdg (fun r hr => by subst hr; exact kk)
set_option maxHeartbeats 4000000 in
set_option maxRecDepth 100000 in
theorem c_X2_stashAt (l : Launch) (D : va_G) (cI : ClassId) (a : Nat → Nat) (φ : M2) (p1 : Int32) (r0 : Int32) (hF : G_X2_stashAt φ p1 = some r0) : Met l yX2_stashAt (wsA yX2_stashAt cX2_stashAt 2 (some .int)) { frames := 0, cells := 0, slots := 0, locals := 0 } (va_Pc [.ref (a 0), .int p1] (fbP D cI a φ)) (vp_Si (fun r => r = r0)) 0 0 (fun _ => False) := by
  refine Met.ofW (cc := cX2_stashAt) (maxL := 2) (ret := (some .int)) (by decide) rfl ?_
  intro p e s m args below meth c s₁ B hml hpre
  obtain ⟨rfl, hP, hK, hD0⟩ := hpre
  have hx := B.exec
  have hb := B.bytes
  have hr := B.returns
  have hA : ∀ w ∈ AW, w.before _ s = true := fun w h => atoms_spec (ws := wsA yX2_stashAt cX2_stashAt 2 (some .int)) B.pre w (List.mem_cons_of_mem _ h)
  have hown : s.vm.findClass RX2 = some m.cls := findClass_of_methodNamed B.named
  have hlocks := B.notSynchronized
  have hDT := F_dT hD0
  have S : CallFix p m c cX2_stashAt 2 s ([.ref (a 0), .int p1] : List Value).toArray AW RX2 := ⟨hx, hb, hml, hown, hA⟩
  have hl := lv_entry ([.ref (a 0), .int p1]) (n := 2) (Nat.le_of_ble_eq_true rfl)
  rw [lg_entry_eq]
  generalize (lg_sl ([.ref (a 0), .int p1]) ++ List.replicate (2 - (lg_sl ([.ref (a 0), .int p1])).length) Slot.unset).toArray = ls at hl ⊢
  have hl : lv_has ls 2 [(0, .ref (a 0)), (1, .int p1)] := hl
  have h := hF
  unfold G_X2_stashAt at h
  refine lv_iload_n hx hb dX2_stashAt_0 rfl (lv_at hl 1 rfl) ?_
  refine lv_if_lt (tgt := 30) hx hb dX2_stashAt_1 (by decide) (fun hc => ?_) (fun hc => ?_)
  · replace h := oi_t hc h
    refine lv_iconst (v := (-1)) hx hb dX2_stashAt_30 (by decide) ?_
    obtain rfl := os1 h
    exact W.iret (v := (-1)) hx hb hr (fun t ht hW => ⟨_, rfl, rfl, ht⟩) (fun q hq => absurd hq List.not_mem_nil) dX2_stashAt_31
  · replace h := oi_f hc h
    refine lv_iload_n hx hb dX2_stashAt_4 rfl (lv_at hl 1 rfl) ?_
    refine lv_aload_n hx hb dX2_stashAt_5 rfl (lv_at hl 0 rfl) ?_
    refine F_g0_7 hx hb hA hown aF_RX2_55 hK hP dX2_stashAt_6 ?_
    refine lv_icmp_ge (tgt := 30) hx hb dX2_stashAt_9 (by decide) (fun hc => ?_) (fun hc => ?_)
    · replace h := oi_t hc h
      refine lv_iconst (v := (-1)) hx hb dX2_stashAt_30 (by decide) ?_
      obtain rfl := os1 h
      exact W.iret (v := (-1)) hx hb hr (fun t ht hW => ⟨_, rfl, rfl, ht⟩) (fun q hq => absurd hq List.not_mem_nil) dX2_stashAt_31
    · replace h := oi_f hc h
      refine lv_iload_n hx hb dX2_stashAt_12 rfl (lv_at hl 1 rfl) ?_
      refine lv_aload_n hx hb dX2_stashAt_13 rfl (lv_at hl 0 rfl) ?_
      refine F_g0_6 hx hb hA hown aF_RX2_31 hK hP dX2_stashAt_14 ?_
      refine F_ln2 hx hb hK hP dX2_stashAt_17 ?_
      refine lv_icmp_ge (tgt := 30) hx hb dX2_stashAt_18 (by decide) (fun hc => ?_) (fun hc => ?_)
      · replace h := oi_t hc h
        refine lv_iconst (v := (-1)) hx hb dX2_stashAt_30 (by decide) ?_
        obtain rfl := os1 h
        exact W.iret (v := (-1)) hx hb hr (fun t ht hW => ⟨_, rfl, rfl, ht⟩) (fun q hq => absurd hq List.not_mem_nil) dX2_stashAt_31
      · replace h := oi_f hc h
        refine lv_aload_n hx hb dX2_stashAt_21 rfl (lv_at hl 0 rfl) ?_
        refine F_g0_6 hx hb hA hown aF_RX2_31 hK hP dX2_stashAt_22 ?_
        refine lv_iload_n hx hb dX2_stashAt_25 rfl (lv_at hl 1 rfl) ?_
        obtain ⟨i1, h⟩ := oin_e h
        refine F_ld2 hx hb hK hP i1 dX2_stashAt_26 ?_
        refine lv_goto (tgt := 31) hx hb dX2_stashAt_27 (by decide) ?_
        obtain rfl := os1 h
        exact W.iret (v := (φ 2 p1.toNatClampNeg)) hx hb hr (fun t ht hW => ⟨_, rfl, rfl, ht⟩) (fun q hq => absurd hq List.not_mem_nil) dX2_stashAt_31
theorem k_X2_stashAt {p : Program} {l : Launch} {e : Env} {R : Room} {s : State} {m : MethodId} {args : Array Value} {below : List Frame} {meth : Method} {c : Code} {H : Heap} {locs : List Loc} {cells slots : Nat} {Q : State → Prop} {cc : ByteArray} {pc nL idx : Nat} {ls : Array Slot} {rest : List Value} {own : String} {D : va_G} {cI : ClassId} {a : Nat → Nat} {φ : M2} {p1 : Int32} {r0 : Int32} (S : CallFix p m c cc nL s args AW own) (h1 : Cond.methodLink own idx yX2_stashAt ∈ AW) (hR : 0 + 1 ≤ R.frames ∧ 8 + (2 + 11) + 0 ≤ R.locals) (hc : cells ≤ R.cells ∧ slots ≤ R.slots) (hP : va_P D vwCl (fbW cI a φ) H) (hK : va_K D vwCl [(cI, .int)] s) (hDT : ∀ (φ2 : M2), va_D (fun _ => True) (fbW cI a φ2)) (hF : G_X2_stashAt φ p1 = some r0) (hsz : ls.size = nL) (hW : (rest.map fun v => v.category).sum ≤ 8) (hdg : decode cc pc = .ok (.invokevirtual idx, 3)) (kk : W p l e R s m args below meth c H locs cells slots Q (F0 m (pc + 3) ls (.int r0 :: rest))) : W p l e R s m args below meth c H locs cells slots Q (F0 m pc ls (.int p1 :: .ref (a 0) :: rest)) :=
  fm_runV (n := 1) (C := RX2) (As := [.int p1]) S (c_X2_stashAt l D cI a φ p1 r0 hF) (F_pre (q0 := 0) (ci := 0) hK hP (hDT _) rfl rfl) h1 aI_X2_stashAt aV_X2_stashAt aN_RX2 aC_X2_stashAt rfl rfl (by decide +kernel) rfl hR hc hsz hW hdg (fun r hr => by subst hr; exact kk)
set_option maxHeartbeats 4000000 in
set_option maxRecDepth 100000 in
theorem c_X2_smallestLength (l : Launch) (D : va_G) (cI : ClassId) (a : Nat → Nat) (N : Nat) (φ : M2) (r0 : Int32) (hF : G_X2_smallestLength N φ = some r0) : Met l yX2_smallestLength (wsA yX2_smallestLength cX2_smallestLength 3 (some .int)) { frames := 2, cells := 0, slots := 0, locals := 42 } (va_Pc [.ref (a 0)] (fbP D cI a φ)) (vp_Si (fun r => r = r0)) 0 0 (fun _ => False) := by
  refine Met.ofW (cc := cX2_smallestLength) (maxL := 3) (ret := (some .int)) (by decide) rfl ?_
  intro p e s m args below meth c s₁ B hml hpre
  obtain ⟨rfl, hP, hK, hD0⟩ := hpre
  have hx := B.exec
  have hb := B.bytes
  have hr := B.returns
  have hA : ∀ w ∈ AW, w.before _ s = true := fun w h => atoms_spec (ws := wsA yX2_smallestLength cX2_smallestLength 3 (some .int)) B.pre w (List.mem_cons_of_mem _ h)
  have hown : s.vm.findClass RX2 = some m.cls := findClass_of_methodNamed B.named
  have hlocks := B.notSynchronized
  have hDT := F_dT hD0
  have S : CallFix p m c cX2_smallestLength 3 s ([.ref (a 0)] : List Value).toArray AW RX2 := ⟨hx, hb, hml, hown, hA⟩
  have hl := lv_entry ([.ref (a 0)]) (n := 3) (Nat.le_of_ble_eq_true rfl)
  rw [lg_entry_eq]
  generalize (lg_sl ([.ref (a 0)]) ++ List.replicate (3 - (lg_sl ([.ref (a 0)])).length) Slot.unset).toArray = ls at hl ⊢
  have hl : lv_has ls 3 [(0, .ref (a 0))] := hl
  have hL4 : ∀ (k : Nat) (v1 : Int32) (v2 : Int32) (ls : Array Slot) (o1 : Int32), L_X2_smallestLength_4 N φ k v1 v2 = some o1 → lv_has ls 3 [(0, .ref (a 0)), (1, .int v1), (2, .int v2)] → (∀ (ls1 : Array Slot), lv_has ls1 3 [(0, .ref (a 0)), (1, .int o1)] → W p l e (headSpec (wsA yX2_smallestLength cX2_smallestLength 3 (some .int)) { frames := 2, cells := 0, slots := 0, locals := 42 }).room s m ([.ref (a 0)] : List Value).toArray below meth c s.heap [] 0 0 (MQ below (vp_Si (fun r => r = r0)) ([.ref (a 0)] : List Value).toArray s 0 0 (fun _ => False)) (F0 m 30 ls1 [])) → W p l e (headSpec (wsA yX2_smallestLength cX2_smallestLength 3 (some .int)) { frames := 2, cells := 0, slots := 0, locals := 42 }).room s m ([.ref (a 0)] : List Value).toArray below meth c s.heap [] 0 0 (MQ below (vp_Si (fun r => r = r0)) ([.ref (a 0)] : List Value).toArray s 0 0 (fun _ => False)) (F0 m 4 ls []) := by
    intro k
    induction k with
    | zero =>
      intro v1 v2 ls o1 h hl kk
      exact no_s h
    | succ k ih =>
      intro v1 v2 ls o1 h hl kk
      replace h : B_X2_smallestLength_4 N φ (L_X2_smallestLength_4 N φ k) v1 v2 = some o1 := h
      unfold B_X2_smallestLength_4 at h
      refine lv_iload_n hx hb dX2_smallestLength_4 rfl (lv_at hl 2 rfl) ?_
      refine lv_aload_n hx hb dX2_smallestLength_5 rfl (lv_at hl 0 rfl) ?_
      refine F_g0_5 hx hb hA hown aF_RX2_27 hK hP dX2_smallestLength_6 ?_
      refine F_ln1 hx hb hK hP dX2_smallestLength_9 ?_
      refine lv_icmp_ge (tgt := 30) hx hb dX2_smallestLength_10 (by decide) (fun hc => ?_) (fun hc => ?_)
      · replace h := oi_t hc h
        obtain rfl := os1 h
        exact kk _ (lv_sub hl [0, 1] rfl)
      · replace h := oi_f hc h
        refine lv_iload_n hx hb dX2_smallestLength_13 rfl (lv_at hl 1 rfl) ?_
        refine lv_aload_n hx hb dX2_smallestLength_14 rfl (lv_at hl 0 rfl) ?_
        refine F_g0_5 hx hb hA hown aF_RX2_27 hK hP dX2_smallestLength_15 ?_
        refine lv_iload_n hx hb dX2_smallestLength_18 rfl (lv_at hl 2 rfl) ?_
        obtain ⟨i1, h⟩ := oin_e h
        refine F_ld1 hx hb hK hP i1 dX2_smallestLength_19 ?_
        refine k_X2_smallerLength S aM_RX2_240 ⟨Nat.le_of_ble_eq_true rfl, Nat.le_of_ble_eq_true rfl⟩ ⟨Nat.zero_le _, Nat.zero_le _⟩ hl.1 (Nat.le_of_ble_eq_true rfl) dX2_smallestLength_20 (fun r2 er2 => ?_)
        replace h := olet_s er2 h
        refine lv_istore_n (lv' := [(1, .int r2), (0, .ref (a 0)), (2, .int v2)]) hx hb dX2_smallestLength_23 rfl hl (by decide) rfl (fun ls hl => ?_)
        refine lv_iinc (v := v2 + 1) (lv' := [(2, .int (v2 + 1)), (1, .int r2), (0, .ref (a 0))]) hx hb dX2_smallestLength_24 hl (k := 2) rfl (fm_inc _ _ _ (by decide)) (by decide) rfl (fun ls hl => ?_)
        refine lv_goto (tgt := 4) hx hb dX2_smallestLength_27 (by decide) ?_
        exact ih _ _ _ _ h (lv_sub hl [2, 1, 0] rfl) kk
  have hL32 : ∀ (k : Nat) (v1 : Int32) (v2 : Int32) (ls : Array Slot) (o1 : Int32), L_X2_smallestLength_32 N φ k v1 v2 = some o1 → lv_has ls 3 [(0, .ref (a 0)), (1, .int v1), (2, .int v2)] → (∀ (ls1 : Array Slot), lv_has ls1 3 [(1, .int o1)] → W p l e (headSpec (wsA yX2_smallestLength cX2_smallestLength 3 (some .int)) { frames := 2, cells := 0, slots := 0, locals := 42 }).room s m ([.ref (a 0)] : List Value).toArray below meth c s.heap [] 0 0 (MQ below (vp_Si (fun r => r = r0)) ([.ref (a 0)] : List Value).toArray s 0 0 (fun _ => False)) (F0 m 56 ls1 [])) → W p l e (headSpec (wsA yX2_smallestLength cX2_smallestLength 3 (some .int)) { frames := 2, cells := 0, slots := 0, locals := 42 }).room s m ([.ref (a 0)] : List Value).toArray below meth c s.heap [] 0 0 (MQ below (vp_Si (fun r => r = r0)) ([.ref (a 0)] : List Value).toArray s 0 0 (fun _ => False)) (F0 m 32 ls []) := by
    intro k
    induction k with
    | zero =>
      intro v1 v2 ls o1 h hl kk
      exact no_s h
    | succ k ih =>
      intro v1 v2 ls o1 h hl kk
      replace h : B_X2_smallestLength_32 N φ (L_X2_smallestLength_32 N φ k) v1 v2 = some o1 := h
      unfold B_X2_smallestLength_32 at h
      refine lv_iload_n hx hb dX2_smallestLength_32 rfl (lv_at hl 2 rfl) ?_
      refine lv_aload_n hx hb dX2_smallestLength_33 rfl (lv_at hl 0 rfl) ?_
      refine F_g0_7 hx hb hA hown aF_RX2_55 hK hP dX2_smallestLength_34 ?_
      refine lv_icmp_ge (tgt := 56) hx hb dX2_smallestLength_37 (by decide) (fun hc => ?_) (fun hc => ?_)
      · replace h := oi_t hc h
        obtain rfl := os1 h
        exact kk _ (lv_sub hl [1] rfl)
      · replace h := oi_f hc h
        refine lv_iload_n hx hb dX2_smallestLength_40 rfl (lv_at hl 1 rfl) ?_
        refine lv_aload_n hx hb dX2_smallestLength_41 rfl (lv_at hl 0 rfl) ?_
        refine lv_iload_n hx hb dX2_smallestLength_42 rfl (lv_at hl 2 rfl) ?_
        obtain ⟨r5, h6, h⟩ := obd_e h
        refine k_X2_stashAt S aM_RX2_125 ⟨Nat.le_of_ble_eq_true rfl, Nat.le_of_ble_eq_true rfl⟩ ⟨Nat.zero_le _, Nat.zero_le _⟩ hP hK hDT h6 hl.1 (Nat.le_of_ble_eq_true rfl) dX2_smallestLength_43 ?_
        refine k_X2_smallerLength S aM_RX2_240 ⟨Nat.le_of_ble_eq_true rfl, Nat.le_of_ble_eq_true rfl⟩ ⟨Nat.zero_le _, Nat.zero_le _⟩ hl.1 (Nat.le_of_ble_eq_true rfl) dX2_smallestLength_46 (fun r7 er7 => ?_)
        replace h := olet_s er7 h
        refine lv_istore_n (lv' := [(1, .int r7), (0, .ref (a 0)), (2, .int v2)]) hx hb dX2_smallestLength_49 rfl hl (by decide) rfl (fun ls hl => ?_)
        refine lv_iinc (v := v2 + 1) (lv' := [(2, .int (v2 + 1)), (1, .int r7), (0, .ref (a 0))]) hx hb dX2_smallestLength_50 hl (k := 2) rfl (fm_inc _ _ _ (by decide)) (by decide) rfl (fun ls hl => ?_)
        refine lv_goto (tgt := 32) hx hb dX2_smallestLength_53 (by decide) ?_
        exact ih _ _ _ _ h (lv_sub hl [2, 1, 0] rfl) kk
  have h := hF
  unfold G_X2_smallestLength at h
  refine lv_iconst (v := (-1)) hx hb dX2_smallestLength_0 (by decide) ?_
  refine lv_istore_n (lv' := [(1, .int ((-1))), (0, .ref (a 0))]) hx hb dX2_smallestLength_1 rfl hl (by decide) rfl (fun ls hl => ?_)
  refine lv_iconst (v := 0) hx hb dX2_smallestLength_2 (by decide) ?_
  refine lv_istore_n (lv' := [(2, .int 0), (1, .int ((-1))), (0, .ref (a 0))]) hx hb dX2_smallestLength_3 rfl hl (by decide) rfl (fun ls hl => ?_)
  obtain ⟨y3, h4, h⟩ := obd_e h
  refine hL4 N _ _ _ _ h4 (lv_sub hl [2, 1, 0] rfl) (fun ls hl => ?_)
  refine lv_iconst (v := 0) hx hb dX2_smallestLength_30 (by decide) ?_
  refine lv_istore_n (lv' := [(2, .int 0), (0, .ref (a 0)), (1, .int y3)]) hx hb dX2_smallestLength_31 rfl hl (by decide) rfl (fun ls hl => ?_)
  obtain ⟨y8, h9, h⟩ := obd_e h
  refine hL32 N _ _ _ _ h9 (lv_sub hl [1, 2, 0] rfl) (fun ls hl => ?_)
  refine lv_iload_n hx hb dX2_smallestLength_56 rfl (lv_at hl 0 rfl) ?_
  obtain rfl := os1 h
  exact W.iret (v := y8) hx hb hr (fun t ht hW => ⟨_, rfl, rfl, ht⟩) (fun q hq => absurd hq List.not_mem_nil) dX2_smallestLength_57
theorem k_X2_smallestLength {p : Program} {l : Launch} {e : Env} {R : Room} {s : State} {m : MethodId} {args : Array Value} {below : List Frame} {meth : Method} {c : Code} {H : Heap} {locs : List Loc} {cells slots : Nat} {Q : State → Prop} {cc : ByteArray} {pc nL idx : Nat} {ls : Array Slot} {rest : List Value} {own : String} {D : va_G} {cI : ClassId} {a : Nat → Nat} {N : Nat} {φ : M2} {r0 : Int32} (S : CallFix p m c cc nL s args AW own) (h1 : Cond.methodLink own idx yX2_smallestLength ∈ AW) (hR : 2 + 1 ≤ R.frames ∧ 8 + (3 + 11) + 42 ≤ R.locals) (hc : cells ≤ R.cells ∧ slots ≤ R.slots) (hP : va_P D vwCl (fbW cI a φ) H) (hK : va_K D vwCl [(cI, .int)] s) (hDT : ∀ (φ2 : M2), va_D (fun _ => True) (fbW cI a φ2)) (hF : G_X2_smallestLength N φ = some r0) (hsz : ls.size = nL) (hW : (rest.map fun v => v.category).sum ≤ 8) (hdg : decode cc pc = .ok (.invokevirtual idx, 3)) (kk : W p l e R s m args below meth c H locs cells slots Q (F0 m (pc + 3) ls (.int r0 :: rest))) : W p l e R s m args below meth c H locs cells slots Q (F0 m pc ls (.ref (a 0) :: rest)) :=
  fm_runV (n := 0) (C := RX2) (As := []) S (c_X2_smallestLength l D cI a N φ r0 hF) (F_pre (q0 := 0) (ci := 0) hK hP (hDT _) rfl rfl) h1 aI_X2_smallestLength aV_X2_smallestLength aN_RX2 aC_X2_smallestLength rfl rfl (by decide +kernel) rfl hR hc hsz hW hdg (fun r hr => by subst hr; exact kk)
set_option maxHeartbeats 4000000 in
set_option maxRecDepth 100000 in
theorem c_X2_canDouble (l : Launch) (D : va_G) (cI : ClassId) (a : Nat → Nat) (N : Nat) (φ : M2) (r0 : Int32) (hF : G_X2_canDouble N φ = some r0) : Met l yX2_canDouble (wsA yX2_canDouble cX2_canDouble 1 (some .boolean)) { frames := 3, cells := 0, slots := 0, locals := 64 } (va_Pc [.ref (a 0)] (fbP D cI a φ)) (vp_Si (fun r => r = r0 ∧ (r = 0 ∨ r = 1))) 0 0 (fun _ => False) := by
  refine Met.ofW (cc := cX2_canDouble) (maxL := 1) (ret := (some .boolean)) (by decide) rfl ?_
  intro p e s m args below meth c s₁ B hml hpre
  obtain ⟨rfl, hP, hK, hD0⟩ := hpre
  have hx := B.exec
  have hb := B.bytes
  have hr := B.returns
  have hA : ∀ w ∈ AW, w.before _ s = true := fun w h => atoms_spec (ws := wsA yX2_canDouble cX2_canDouble 1 (some .boolean)) B.pre w (List.mem_cons_of_mem _ h)
  have hown : s.vm.findClass RX2 = some m.cls := findClass_of_methodNamed B.named
  have hlocks := B.notSynchronized
  have hDT := F_dT hD0
  have S : CallFix p m c cX2_canDouble 1 s ([.ref (a 0)] : List Value).toArray AW RX2 := ⟨hx, hb, hml, hown, hA⟩
  have hl := lv_entry ([.ref (a 0)]) (n := 1) (Nat.le_of_ble_eq_true rfl)
  rw [lg_entry_eq]
  generalize (lg_sl ([.ref (a 0)]) ++ List.replicate (1 - (lg_sl ([.ref (a 0)])).length) Slot.unset).toArray = ls at hl ⊢
  have hl : lv_has ls 1 [(0, .ref (a 0))] := hl
  have h := hF
  unfold G_X2_canDouble at h
  refine lv_aload_n hx hb dX2_canDouble_0 rfl (lv_at hl 0 rfl) ?_
  refine F_g0_0 hx hb hA hown aF_RX2_9 hK hP dX2_canDouble_1 ?_
  refine lv_bipush (v := 6) hx hb dX2_canDouble_4 (by decide) ?_
  refine lv_icmp_ge (tgt := 20) hx hb dX2_canDouble_6 (by decide) (fun hc => ?_) (fun hc => ?_)
  · replace h := oi_t hc h
    refine lv_iconst (v := 0) hx hb dX2_canDouble_20 (by decide) ?_
    obtain rfl := os1 h
    exact W.zret (v := 0) (ty := .boolean) hx hb hr rfl (fun t ht hW => ⟨_, rfl, ⟨rfl, (Or.inl rfl)⟩, ht⟩) (fun q hq => absurd hq List.not_mem_nil) dX2_canDouble_21
  · replace h := oi_f hc h
    refine lv_aload_n hx hb dX2_canDouble_9 rfl (lv_at hl 0 rfl) ?_
    obtain ⟨r1, h2, h⟩ := obd_e h
    refine k_X2_smallestLength S aM_RX2_109 ⟨Nat.le_of_ble_eq_true rfl, Nat.le_of_ble_eq_true rfl⟩ ⟨Nat.zero_le _, Nat.zero_le _⟩ hP hK hDT h2 hl.1 (Nat.le_of_ble_eq_true rfl) dX2_canDouble_10 ?_
    refine lv_if_eq (tgt := 20) hx hb dX2_canDouble_13 (by decide) (fun hc => ?_) (fun hc => ?_)
    · replace h := oi_t hc h
      refine lv_iconst (v := 0) hx hb dX2_canDouble_20 (by decide) ?_
      obtain rfl := os1 h
      exact W.zret (v := 0) (ty := .boolean) hx hb hr rfl (fun t ht hW => ⟨_, rfl, ⟨rfl, (Or.inl rfl)⟩, ht⟩) (fun q hq => absurd hq List.not_mem_nil) dX2_canDouble_21
    · replace h := oi_f hc h
      refine lv_iconst (v := 1) hx hb dX2_canDouble_16 (by decide) ?_
      refine lv_goto (tgt := 21) hx hb dX2_canDouble_17 (by decide) ?_
      obtain rfl := os1 h
      exact W.zret (v := 1) (ty := .boolean) hx hb hr rfl (fun t ht hW => ⟨_, rfl, ⟨rfl, (Or.inr rfl)⟩, ht⟩) (fun q hq => absurd hq List.not_mem_nil) dX2_canDouble_21
theorem k_X2_canDouble {p : Program} {l : Launch} {e : Env} {R : Room} {s : State} {m : MethodId} {args : Array Value} {below : List Frame} {meth : Method} {c : Code} {H : Heap} {locs : List Loc} {cells slots : Nat} {Q : State → Prop} {cc : ByteArray} {pc nL idx : Nat} {ls : Array Slot} {rest : List Value} {own : String} {D : va_G} {cI : ClassId} {a : Nat → Nat} {N : Nat} {φ : M2} {r0 : Int32} (S : CallFix p m c cc nL s args AW own) (h1 : Cond.methodLink own idx yX2_canDouble ∈ AW) (hR : 3 + 1 ≤ R.frames ∧ 8 + (1 + 11) + 64 ≤ R.locals) (hc : cells ≤ R.cells ∧ slots ≤ R.slots) (hP : va_P D vwCl (fbW cI a φ) H) (hK : va_K D vwCl [(cI, .int)] s) (hDT : ∀ (φ2 : M2), va_D (fun _ => True) (fbW cI a φ2)) (hF : G_X2_canDouble N φ = some r0) (hsz : ls.size = nL) (hW : (rest.map fun v => v.category).sum ≤ 8) (hdg : decode cc pc = .ok (.invokevirtual idx, 3)) (kk : (r0 = 0 ∨ r0 = 1) → W p l e R s m args below meth c H locs cells slots Q (F0 m (pc + 3) ls (.int r0 :: rest))) : W p l e R s m args below meth c H locs cells slots Q (F0 m pc ls (.ref (a 0) :: rest)) :=
  fm_runV (n := 0) (C := RX2) (As := []) S (c_X2_canDouble l D cI a N φ r0 hF) (F_pre (q0 := 0) (ci := 0) hK hP (hDT _) rfl rfl) h1 aI_X2_canDouble aV_X2_canDouble aN_RX2 aC_X2_canDouble rfl rfl (by decide +kernel) rfl hR hc hsz hW hdg (fun r hr => by obtain ⟨rfl, hz⟩ := hr; exact kk hz)
set_option maxHeartbeats 4000000 in
set_option maxRecDepth 100000 in
theorem c_X2_number (l : Launch) (D : va_G) (cI : ClassId) (a : Nat → Nat) (N : Nat) (φ : M2) (p1 : Int32) (r0 : Int32) (hF : G_X2_number N φ p1 = some r0) : Met l yX2_number (wsA yX2_number cX2_number 2 (some .int)) { frames := 4, cells := 0, slots := 0, locals := 84 } (va_Pc [.ref (a 0), .int p1] (fbP D cI a φ)) (vp_Si (fun r => r = r0)) 0 0 (fun _ => False) := by
  refine Met.ofW (cc := cX2_number) (maxL := 2) (ret := (some .int)) (by decide) rfl ?_
  intro p e s m args below meth c s₁ B hml hpre
  obtain ⟨rfl, hP, hK, hD0⟩ := hpre
  have hx := B.exec
  have hb := B.bytes
  have hr := B.returns
  have hA : ∀ w ∈ AW, w.before _ s = true := fun w h => atoms_spec (ws := wsA yX2_number cX2_number 2 (some .int)) B.pre w (List.mem_cons_of_mem _ h)
  have hown : s.vm.findClass RX2 = some m.cls := findClass_of_methodNamed B.named
  have hlocks := B.notSynchronized
  have hDT := F_dT hD0
  have S : CallFix p m c cX2_number 2 s ([.ref (a 0), .int p1] : List Value).toArray AW RX2 := ⟨hx, hb, hml, hown, hA⟩
  have hl := lv_entry ([.ref (a 0), .int p1]) (n := 2) (Nat.le_of_ble_eq_true rfl)
  rw [lg_entry_eq]
  generalize (lg_sl ([.ref (a 0), .int p1]) ++ List.replicate (2 - (lg_sl ([.ref (a 0), .int p1])).length) Slot.unset).toArray = ls at hl ⊢
  have hl : lv_has ls 2 [(0, .ref (a 0)), (1, .int p1)] := hl
  have h := hF
  unfold G_X2_number at h
  refine lv_iload_n hx hb dX2_number_0 rfl (lv_at hl 1 rfl) ?_
  by_cases n0 : p1 = 0
  · replace h := oi_t n0 h
    refine lv_tableIn (tgt := 52) hx hb dX2_number_1 (by rw [n0]; decide) (by rw [n0]; decide) (by rw [n0]; rfl) (by decide) ?_
    refine lv_aload_n hx hb dX2_number_52 rfl (lv_at hl 0 rfl) ?_
    refine k_X2_bucketCount S aM_RX2_103 ⟨Nat.le_of_ble_eq_true rfl, Nat.le_of_ble_eq_true rfl⟩ ⟨Nat.zero_le _, Nat.zero_le _⟩ hP hK hDT hl.1 (Nat.le_of_ble_eq_true rfl) dX2_number_53 (fun r1 er1 => ?_)
    replace h := olet_s er1 h
    obtain rfl := os1 h
    exact W.iret (v := r1) hx hb hr (fun t ht hW => ⟨_, rfl, rfl, ht⟩) (fun q hq => absurd hq List.not_mem_nil) dX2_number_56
  · replace h := oi_f n0 h
    by_cases n1 : p1 = 1
    · replace h := oi_t n1 h
      refine lv_tableIn (tgt := 57) hx hb dX2_number_1 (by rw [n1]; decide) (by rw [n1]; decide) (by rw [n1]; rfl) (by decide) ?_
      refine lv_aload_n hx hb dX2_number_57 rfl (lv_at hl 0 rfl) ?_
      refine F_g0_1 hx hb hA hown aF_RX2_15 hK hP dX2_number_58 ?_
      obtain rfl := os1 h
      exact W.iret (v := (φ 0 1)) hx hb hr (fun t ht hW => ⟨_, rfl, rfl, ht⟩) (fun q hq => absurd hq List.not_mem_nil) dX2_number_61
    · replace h := oi_f n1 h
      by_cases n2 : p1 = 2
      · replace h := oi_t n2 h
        refine lv_tableIn (tgt := 62) hx hb dX2_number_1 (by rw [n2]; decide) (by rw [n2]; decide) (by rw [n2]; rfl) (by decide) ?_
        refine lv_aload_n hx hb dX2_number_62 rfl (lv_at hl 0 rfl) ?_
        refine F_g0_2 hx hb hA hown aF_RX2_18 hK hP dX2_number_63 ?_
        obtain rfl := os1 h
        exact W.iret (v := (φ 0 2)) hx hb hr (fun t ht hW => ⟨_, rfl, rfl, ht⟩) (fun q hq => absurd hq List.not_mem_nil) dX2_number_66
      · replace h := oi_f n2 h
        by_cases n3 : p1 = 3
        · replace h := oi_t n3 h
          refine lv_tableIn (tgt := 67) hx hb dX2_number_1 (by rw [n3]; decide) (by rw [n3]; decide) (by rw [n3]; rfl) (by decide) ?_
          refine lv_aload_n hx hb dX2_number_67 rfl (lv_at hl 0 rfl) ?_
          refine F_g0_3 hx hb hA hown aF_RX2_21 hK hP dX2_number_68 ?_
          obtain rfl := os1 h
          exact W.iret (v := (φ 0 3)) hx hb hr (fun t ht hW => ⟨_, rfl, rfl, ht⟩) (fun q hq => absurd hq List.not_mem_nil) dX2_number_71
        · replace h := oi_f n3 h
          by_cases n4 : p1 = 4
          · replace h := oi_t n4 h
            refine lv_tableIn (tgt := 72) hx hb dX2_number_1 (by rw [n4]; decide) (by rw [n4]; decide) (by rw [n4]; rfl) (by decide) ?_
            refine lv_aload_n hx hb dX2_number_72 rfl (lv_at hl 0 rfl) ?_
            refine F_g0_4 hx hb hA hown aF_RX2_24 hK hP dX2_number_73 ?_
            obtain rfl := os1 h
            exact W.iret (v := (φ 0 4)) hx hb hr (fun t ht hW => ⟨_, rfl, rfl, ht⟩) (fun q hq => absurd hq List.not_mem_nil) dX2_number_76
          · replace h := oi_f n4 h
            by_cases n5 : p1 = 5
            · replace h := oi_t n5 h
              refine lv_tableIn (tgt := 77) hx hb dX2_number_1 (by rw [n5]; decide) (by rw [n5]; decide) (by rw [n5]; rfl) (by decide) ?_
              refine lv_aload_n hx hb dX2_number_77 rfl (lv_at hl 0 rfl) ?_
              obtain ⟨r2, h3, h⟩ := obd_e h
              refine k_X2_entriesInSlots S aM_RX2_106 ⟨Nat.le_of_ble_eq_true rfl, Nat.le_of_ble_eq_true rfl⟩ ⟨Nat.zero_le _, Nat.zero_le _⟩ hP hK hDT h3 hl.1 (Nat.le_of_ble_eq_true rfl) dX2_number_78 ?_
              obtain rfl := os1 h
              exact W.iret (v := r2) hx hb hr (fun t ht hW => ⟨_, rfl, rfl, ht⟩) (fun q hq => absurd hq List.not_mem_nil) dX2_number_81
            · replace h := oi_f n5 h
              by_cases n6 : p1 = 6
              · replace h := oi_t n6 h
                refine lv_tableIn (tgt := 82) hx hb dX2_number_1 (by rw [n6]; decide) (by rw [n6]; decide) (by rw [n6]; rfl) (by decide) ?_
                refine lv_aload_n hx hb dX2_number_82 rfl (lv_at hl 0 rfl) ?_
                refine F_g0_7 hx hb hA hown aF_RX2_55 hK hP dX2_number_83 ?_
                obtain rfl := os1 h
                exact W.iret (v := (φ 0 7)) hx hb hr (fun t ht hW => ⟨_, rfl, rfl, ht⟩) (fun q hq => absurd hq List.not_mem_nil) dX2_number_86
              · replace h := oi_f n6 h
                by_cases n7 : p1 = 7
                · replace h := oi_t n7 h
                  refine lv_tableIn (tgt := 87) hx hb dX2_number_1 (by rw [n7]; decide) (by rw [n7]; decide) (by rw [n7]; rfl) (by decide) ?_
                  refine lv_aload_n hx hb dX2_number_87 rfl (lv_at hl 0 rfl) ?_
                  obtain ⟨r4, h5, h⟩ := obd_e h
                  refine k_X2_smallestLength S aM_RX2_109 ⟨Nat.le_of_ble_eq_true rfl, Nat.le_of_ble_eq_true rfl⟩ ⟨Nat.zero_le _, Nat.zero_le _⟩ hP hK hDT h5 hl.1 (Nat.le_of_ble_eq_true rfl) dX2_number_88 ?_
                  obtain rfl := os1 h
                  exact W.iret (v := r4) hx hb hr (fun t ht hW => ⟨_, rfl, rfl, ht⟩) (fun q hq => absurd hq List.not_mem_nil) dX2_number_91
                · replace h := oi_f n7 h
                  by_cases n8 : p1 = 8
                  · replace h := oi_t n8 h
                    refine lv_tableIn (tgt := 92) hx hb dX2_number_1 (by rw [n8]; decide) (by rw [n8]; decide) (by rw [n8]; rfl) (by decide) ?_
                    refine lv_aload_n hx hb dX2_number_92 rfl (lv_at hl 0 rfl) ?_
                    obtain ⟨r6, h7, h⟩ := obd_e h
                    refine k_X2_canDouble S aM_RX2_112 ⟨Nat.le_of_ble_eq_true rfl, Nat.le_of_ble_eq_true rfl⟩ ⟨Nat.zero_le _, Nat.zero_le _⟩ hP hK hDT h7 hl.1 (Nat.le_of_ble_eq_true rfl) dX2_number_93 (fun br6 => ?_)
                    refine lv_if_eq (tgt := 103) hx hb dX2_number_96 (by decide) (fun hc => ?_) (fun hc => ?_)
                    · replace h := oi_t hc h
                      refine lv_iconst (v := 0) hx hb dX2_number_103 (by decide) ?_
                      obtain rfl := os1 h
                      exact W.iret (v := 0) hx hb hr (fun t ht hW => ⟨_, rfl, rfl, ht⟩) (fun q hq => absurd hq List.not_mem_nil) dX2_number_104
                    · replace h := oi_f hc h
                      refine lv_iconst (v := 1) hx hb dX2_number_99 (by decide) ?_
                      refine lv_goto (tgt := 104) hx hb dX2_number_100 (by decide) ?_
                      obtain rfl := os1 h
                      exact W.iret (v := 1) hx hb hr (fun t ht hW => ⟨_, rfl, rfl, ht⟩) (fun q hq => absurd hq List.not_mem_nil) dX2_number_104
                  · replace h := oi_f n8 h
                    refine lv_tableOut (tgt := 105) hx hb dX2_number_1 (fm_out8 n0 n1 n2 n3 n4 n5 n6 n7 n8) (by decide) ?_
                    refine lv_iconst (v := (-1)) hx hb dX2_number_105 (by decide) ?_
                    obtain rfl := os1 h
                    exact W.iret (v := (-1)) hx hb hr (fun t ht hW => ⟨_, rfl, rfl, ht⟩) (fun q hq => absurd hq List.not_mem_nil) dX2_number_106
theorem k_X2_number {p : Program} {l : Launch} {e : Env} {R : Room} {s : State} {m : MethodId} {args : Array Value} {below : List Frame} {meth : Method} {c : Code} {H : Heap} {locs : List Loc} {cells slots : Nat} {Q : State → Prop} {cc : ByteArray} {pc nL idx : Nat} {ls : Array Slot} {rest : List Value} {own : String} {D : va_G} {cI : ClassId} {a : Nat → Nat} {N : Nat} {φ : M2} {p1 : Int32} {r0 : Int32} (S : CallFix p m c cc nL s args AW own) (h1 : Cond.methodLink own idx yX2_number ∈ AW) (hR : 4 + 1 ≤ R.frames ∧ 8 + (2 + 11) + 84 ≤ R.locals) (hc : cells ≤ R.cells ∧ slots ≤ R.slots) (hP : va_P D vwCl (fbW cI a φ) H) (hK : va_K D vwCl [(cI, .int)] s) (hDT : ∀ (φ2 : M2), va_D (fun _ => True) (fbW cI a φ2)) (hF : G_X2_number N φ p1 = some r0) (hsz : ls.size = nL) (hW : (rest.map fun v => v.category).sum ≤ 8) (hdg : decode cc pc = .ok (.invokevirtual idx, 3)) (kk : W p l e R s m args below meth c H locs cells slots Q (F0 m (pc + 3) ls (.int r0 :: rest))) : W p l e R s m args below meth c H locs cells slots Q (F0 m pc ls (.int p1 :: .ref (a 0) :: rest)) :=
  fm_runV (n := 1) (C := RX2) (As := [.int p1]) S (c_X2_number l D cI a N φ p1 r0 hF) (F_pre (q0 := 0) (ci := 0) hK hP (hDT _) rfl rfl) h1 aI_X2_number aV_X2_number aN_RX2 aC_X2_number rfl rfl (by decide +kernel) rfl hR hc hsz hW hdg (fun r hr => by subst hr; exact kk)
set_option maxHeartbeats 4000000 in
set_option maxRecDepth 100000 in
theorem c_X2_partOfSlot (l : Launch) (D : va_G) (cI : ClassId) (a : Nat → Nat) (φ : M2) (p1 : Int32) (p2 : Int32) (p3 : Int32) (r0 : Int32) (hF : G_X2_partOfSlot φ p1 p2 p3 = some r0) : Met l yX2_partOfSlot (wsA yX2_partOfSlot cX2_partOfSlot 5 (some .int)) { frames := 2, cells := 0, slots := 0, locals := 41 } (va_Pc [.ref (a 0), .int p1, .int p2, .int p3] (fbP D cI a φ)) (vp_Si (fun r => r = r0)) 0 0 (fun _ => False) := by
  refine Met.ofW (cc := cX2_partOfSlot) (maxL := 5) (ret := (some .int)) (by decide) rfl ?_
  intro p e s m args below meth c s₁ B hml hpre
  obtain ⟨rfl, hP, hK, hD0⟩ := hpre
  have hx := B.exec
  have hb := B.bytes
  have hr := B.returns
  have hA : ∀ w ∈ AW, w.before _ s = true := fun w h => atoms_spec (ws := wsA yX2_partOfSlot cX2_partOfSlot 5 (some .int)) B.pre w (List.mem_cons_of_mem _ h)
  have hown : s.vm.findClass RX2 = some m.cls := findClass_of_methodNamed B.named
  have hlocks := B.notSynchronized
  have hDT := F_dT hD0
  have S : CallFix p m c cX2_partOfSlot 5 s ([.ref (a 0), .int p1, .int p2, .int p3] : List Value).toArray AW RX2 := ⟨hx, hb, hml, hown, hA⟩
  have hl := lv_entry ([.ref (a 0), .int p1, .int p2, .int p3]) (n := 5) (Nat.le_of_ble_eq_true rfl)
  rw [lg_entry_eq]
  generalize (lg_sl ([.ref (a 0), .int p1, .int p2, .int p3]) ++ List.replicate (5 - (lg_sl ([.ref (a 0), .int p1, .int p2, .int p3])).length) Slot.unset).toArray = ls at hl ⊢
  have hl : lv_has ls 5 [(0, .ref (a 0)), (1, .int p1), (2, .int p2), (3, .int p3)] := hl
  have h := hF
  unfold G_X2_partOfSlot at h
  refine lv_aload_n hx hb dX2_partOfSlot_0 rfl (lv_at hl 0 rfl) ?_
  refine lv_iload_n hx hb dX2_partOfSlot_1 rfl (lv_at hl 1 rfl) ?_
  refine lv_iload_n hx hb dX2_partOfSlot_2 rfl (lv_at hl 2 rfl) ?_
  refine k_X2_placeIn S aM_RX2_116 ⟨Nat.le_of_ble_eq_true rfl, Nat.le_of_ble_eq_true rfl⟩ ⟨Nat.zero_le _, Nat.zero_le _⟩ hl.1 (Nat.le_of_ble_eq_true rfl) dX2_partOfSlot_3 (fun r1 er1 => ?_)
  replace h := olet_s er1 h
  obtain ⟨r2, h3, h⟩ := obd_e h
  refine k_X2_cellAt S aM_RX2_119 ⟨Nat.le_of_ble_eq_true rfl, Nat.le_of_ble_eq_true rfl⟩ ⟨Nat.zero_le _, Nat.zero_le _⟩ hP hK hDT h3 hl.1 (Nat.le_of_ble_eq_true rfl) dX2_partOfSlot_6 ?_
  refine lv_istore (lv' := [(4, .int r2), (0, .ref (a 0)), (1, .int p1), (2, .int p2), (3, .int p3)]) hx hb dX2_partOfSlot_9 hl (by decide) rfl (fun ls hl => ?_)
  refine lv_iload hx hb dX2_partOfSlot_11 (lv_at hl 0 rfl) ?_
  refine lv_iconst (v := (-1)) hx hb dX2_partOfSlot_13 (by decide) ?_
  refine lv_icmp_ne (tgt := 19) hx hb dX2_partOfSlot_14 (by decide) (fun hc => ?_) (fun hc => ?_)
  · replace h := oi_f hc h
    refine lv_iload_n hx hb dX2_partOfSlot_19 rfl (lv_at hl 4 rfl) ?_
    refine lv_iconst (v := 3) hx hb dX2_partOfSlot_20 (by decide) ?_
    refine lv_icmp_ne (tgt := 39) hx hb dX2_partOfSlot_21 (by decide) (fun hc => ?_) (fun hc => ?_)
    · replace h := oi_f hc h
      refine lv_iload hx hb dX2_partOfSlot_39 (lv_at hl 0 rfl) ?_
      refine lv_iload_n hx hb dX2_partOfSlot_41 rfl (lv_at hl 4 rfl) ?_
      refine k_X2_partOf S aM_RX2_122 ⟨Nat.le_of_ble_eq_true rfl, Nat.le_of_ble_eq_true rfl⟩ ⟨Nat.zero_le _, Nat.zero_le _⟩ hl.1 (Nat.le_of_ble_eq_true rfl) dX2_partOfSlot_42 (fun r4 er4 => ?_)
      replace h := olet_s er4 h
      obtain rfl := os1 h
      exact W.iret (v := r4) hx hb hr (fun t ht hW => ⟨_, rfl, rfl, ht⟩) (fun q hq => absurd hq List.not_mem_nil) dX2_partOfSlot_45
    · replace h := oi_t hc h
      refine lv_iload hx hb dX2_partOfSlot_24 (lv_at hl 0 rfl) ?_
      refine k_X1_homeOf S aM_RX2_88 ⟨Nat.le_of_ble_eq_true rfl, Nat.le_of_ble_eq_true rfl⟩ ⟨Nat.zero_le _, Nat.zero_le _⟩ hl.1 (Nat.le_of_ble_eq_true rfl) dX2_partOfSlot_26 (fun r5 er5 => ?_)
      replace h := olet_s er5 h
      refine lv_iload_n hx hb dX2_partOfSlot_29 rfl (lv_at hl 2 rfl) ?_
      refine lv_icmp_ne (tgt := 37) hx hb dX2_partOfSlot_30 (by decide) (fun hc => ?_) (fun hc => ?_)
      · replace h := oi_f hc h
        refine lv_iconst (v := 1) hx hb dX2_partOfSlot_37 (by decide) ?_
        obtain rfl := os1 h
        exact W.iret (v := 1) hx hb hr (fun t ht hW => ⟨_, rfl, rfl, ht⟩) (fun q hq => absurd hq List.not_mem_nil) dX2_partOfSlot_38
      · replace h := oi_t hc h
        refine lv_iconst (v := 0) hx hb dX2_partOfSlot_33 (by decide) ?_
        refine lv_goto (tgt := 38) hx hb dX2_partOfSlot_34 (by decide) ?_
        obtain rfl := os1 h
        exact W.iret (v := 0) hx hb hr (fun t ht hW => ⟨_, rfl, rfl, ht⟩) (fun q hq => absurd hq List.not_mem_nil) dX2_partOfSlot_38
  · replace h := oi_t hc h
    refine lv_iconst (v := (-1)) hx hb dX2_partOfSlot_17 (by decide) ?_
    obtain rfl := os1 h
    exact W.iret (v := (-1)) hx hb hr (fun t ht hW => ⟨_, rfl, rfl, ht⟩) (fun q hq => absurd hq List.not_mem_nil) dX2_partOfSlot_18
theorem k_X2_partOfSlot {p : Program} {l : Launch} {e : Env} {R : Room} {s : State} {m : MethodId} {args : Array Value} {below : List Frame} {meth : Method} {c : Code} {H : Heap} {locs : List Loc} {cells slots : Nat} {Q : State → Prop} {cc : ByteArray} {pc nL idx : Nat} {ls : Array Slot} {rest : List Value} {own : String} {D : va_G} {cI : ClassId} {a : Nat → Nat} {φ : M2} {p1 : Int32} {p2 : Int32} {p3 : Int32} {r0 : Int32} (S : CallFix p m c cc nL s args AW own) (h1 : Cond.methodLink own idx yX2_partOfSlot ∈ AW) (hR : 2 + 1 ≤ R.frames ∧ 8 + (5 + 11) + 41 ≤ R.locals) (hc : cells ≤ R.cells ∧ slots ≤ R.slots) (hP : va_P D vwCl (fbW cI a φ) H) (hK : va_K D vwCl [(cI, .int)] s) (hDT : ∀ (φ2 : M2), va_D (fun _ => True) (fbW cI a φ2)) (hF : G_X2_partOfSlot φ p1 p2 p3 = some r0) (hsz : ls.size = nL) (hW : (rest.map fun v => v.category).sum ≤ 8) (hdg : decode cc pc = .ok (.invokevirtual idx, 3)) (kk : W p l e R s m args below meth c H locs cells slots Q (F0 m (pc + 3) ls (.int r0 :: rest))) : W p l e R s m args below meth c H locs cells slots Q (F0 m pc ls (.int p3 :: .int p2 :: .int p1 :: .ref (a 0) :: rest)) :=
  fm_runV (n := 3) (C := RX2) (As := [.int p1, .int p2, .int p3]) S (c_X2_partOfSlot l D cI a φ p1 p2 p3 r0 hF) (F_pre (q0 := 0) (ci := 0) hK hP (hDT _) rfl rfl) h1 aI_X2_partOfSlot aV_X2_partOfSlot aN_RX2 aC_X2_partOfSlot rfl rfl (by decide +kernel) rfl hR hc hsz hW hdg (fun r hr => by subst hr; exact kk)
set_option maxHeartbeats 4000000 in
set_option maxRecDepth 100000 in
theorem c_X2_partOfStash (l : Launch) (D : va_G) (cI : ClassId) (a : Nat → Nat) (φ : M2) (p1 : Int32) (p2 : Int32) (r0 : Int32) (hF : G_X2_partOfStash φ p1 p2 = some r0) : Met l yX2_partOfStash (wsA yX2_partOfStash cX2_partOfStash 4 (some .int)) { frames := 2, cells := 0, slots := 0, locals := 41 } (va_Pc [.ref (a 0), .int p1, .int p2] (fbP D cI a φ)) (vp_Si (fun r => r = r0)) 0 0 (fun _ => False) := by
  refine Met.ofW (cc := cX2_partOfStash) (maxL := 4) (ret := (some .int)) (by decide) rfl ?_
  intro p e s m args below meth c s₁ B hml hpre
  obtain ⟨rfl, hP, hK, hD0⟩ := hpre
  have hx := B.exec
  have hb := B.bytes
  have hr := B.returns
  have hA : ∀ w ∈ AW, w.before _ s = true := fun w h => atoms_spec (ws := wsA yX2_partOfStash cX2_partOfStash 4 (some .int)) B.pre w (List.mem_cons_of_mem _ h)
  have hown : s.vm.findClass RX2 = some m.cls := findClass_of_methodNamed B.named
  have hlocks := B.notSynchronized
  have hDT := F_dT hD0
  have S : CallFix p m c cX2_partOfStash 4 s ([.ref (a 0), .int p1, .int p2] : List Value).toArray AW RX2 := ⟨hx, hb, hml, hown, hA⟩
  have hl := lv_entry ([.ref (a 0), .int p1, .int p2]) (n := 4) (Nat.le_of_ble_eq_true rfl)
  rw [lg_entry_eq]
  generalize (lg_sl ([.ref (a 0), .int p1, .int p2]) ++ List.replicate (4 - (lg_sl ([.ref (a 0), .int p1, .int p2])).length) Slot.unset).toArray = ls at hl ⊢
  have hl : lv_has ls 4 [(0, .ref (a 0)), (1, .int p1), (2, .int p2)] := hl
  have h := hF
  unfold G_X2_partOfStash at h
  refine lv_aload_n hx hb dX2_partOfStash_0 rfl (lv_at hl 0 rfl) ?_
  refine lv_iload_n hx hb dX2_partOfStash_1 rfl (lv_at hl 1 rfl) ?_
  obtain ⟨r1, h2, h⟩ := obd_e h
  refine k_X2_stashAt S aM_RX2_125 ⟨Nat.le_of_ble_eq_true rfl, Nat.le_of_ble_eq_true rfl⟩ ⟨Nat.zero_le _, Nat.zero_le _⟩ hP hK hDT h2 hl.1 (Nat.le_of_ble_eq_true rfl) dX2_partOfStash_2 ?_
  refine lv_istore_n (lv' := [(3, .int r1), (0, .ref (a 0)), (1, .int p1), (2, .int p2)]) hx hb dX2_partOfStash_5 rfl hl (by decide) rfl (fun ls hl => ?_)
  refine lv_iload_n hx hb dX2_partOfStash_6 rfl (lv_at hl 3 rfl) ?_
  refine lv_iconst (v := 3) hx hb dX2_partOfStash_7 (by decide) ?_
  refine lv_icmp_ne (tgt := 18) hx hb dX2_partOfStash_8 (by decide) (fun hc => ?_) (fun hc => ?_)
  · replace h := oi_f hc h
    refine lv_iload_n hx hb dX2_partOfStash_18 rfl (lv_at hl 0 rfl) ?_
    refine lv_iload_n hx hb dX2_partOfStash_19 rfl (lv_at hl 3 rfl) ?_
    refine k_X2_partOf S aM_RX2_122 ⟨Nat.le_of_ble_eq_true rfl, Nat.le_of_ble_eq_true rfl⟩ ⟨Nat.zero_le _, Nat.zero_le _⟩ hl.1 (Nat.le_of_ble_eq_true rfl) dX2_partOfStash_20 (fun r3 er3 => ?_)
    replace h := olet_s er3 h
    obtain rfl := os1 h
    exact W.iret (v := r3) hx hb hr (fun t ht hW => ⟨_, rfl, rfl, ht⟩) (fun q hq => absurd hq List.not_mem_nil) dX2_partOfStash_23
  · replace h := oi_t hc h
    refine lv_iload_n hx hb dX2_partOfStash_11 rfl (lv_at hl 0 rfl) ?_
    refine k_X1_homeOf S aM_RX2_88 ⟨Nat.le_of_ble_eq_true rfl, Nat.le_of_ble_eq_true rfl⟩ ⟨Nat.zero_le _, Nat.zero_le _⟩ hl.1 (Nat.le_of_ble_eq_true rfl) dX2_partOfStash_12 (fun r4 er4 => ?_)
    replace h := olet_s er4 h
    refine lv_goto (tgt := 23) hx hb dX2_partOfStash_15 (by decide) ?_
    obtain rfl := os1 h
    exact W.iret (v := r4) hx hb hr (fun t ht hW => ⟨_, rfl, rfl, ht⟩) (fun q hq => absurd hq List.not_mem_nil) dX2_partOfStash_23
theorem k_X2_partOfStash {p : Program} {l : Launch} {e : Env} {R : Room} {s : State} {m : MethodId} {args : Array Value} {below : List Frame} {meth : Method} {c : Code} {H : Heap} {locs : List Loc} {cells slots : Nat} {Q : State → Prop} {cc : ByteArray} {pc nL idx : Nat} {ls : Array Slot} {rest : List Value} {own : String} {D : va_G} {cI : ClassId} {a : Nat → Nat} {φ : M2} {p1 : Int32} {p2 : Int32} {r0 : Int32} (S : CallFix p m c cc nL s args AW own) (h1 : Cond.methodLink own idx yX2_partOfStash ∈ AW) (hR : 2 + 1 ≤ R.frames ∧ 8 + (4 + 11) + 41 ≤ R.locals) (hc : cells ≤ R.cells ∧ slots ≤ R.slots) (hP : va_P D vwCl (fbW cI a φ) H) (hK : va_K D vwCl [(cI, .int)] s) (hDT : ∀ (φ2 : M2), va_D (fun _ => True) (fbW cI a φ2)) (hF : G_X2_partOfStash φ p1 p2 = some r0) (hsz : ls.size = nL) (hW : (rest.map fun v => v.category).sum ≤ 8) (hdg : decode cc pc = .ok (.invokevirtual idx, 3)) (kk : W p l e R s m args below meth c H locs cells slots Q (F0 m (pc + 3) ls (.int r0 :: rest))) : W p l e R s m args below meth c H locs cells slots Q (F0 m pc ls (.int p2 :: .int p1 :: .ref (a 0) :: rest)) :=
  fm_runV (n := 2) (C := RX2) (As := [.int p1, .int p2]) S (c_X2_partOfStash l D cI a φ p1 p2 r0 hF) (F_pre (q0 := 0) (ci := 0) hK hP (hDT _) rfl rfl) h1 aI_X2_partOfStash aV_X2_partOfStash aN_RX2 aC_X2_partOfStash rfl rfl (by decide +kernel) rfl hR hc hsz hW hdg (fun r hr => by subst hr; exact kk)
set_option maxHeartbeats 4000000 in
set_option maxRecDepth 100000 in
theorem c_X2_bucketsWith (l : Launch) (D : va_G) (cI : ClassId) (a : Nat → Nat) (N : Nat) (φ : M2) (p1 : Int32) (r0 : Int32) (hF : G_X2_bucketsWith N φ p1 = some r0) : Met l yX2_bucketsWith (wsA yX2_bucketsWith cX2_bucketsWith 4 (some .int)) { frames := 2, cells := 0, slots := 0, locals := 44 } (va_Pc [.ref (a 0), .int p1] (fbP D cI a φ)) (vp_Si (fun r => r = r0)) 0 0 (fun _ => False) := by
  refine Met.ofW (cc := cX2_bucketsWith) (maxL := 4) (ret := (some .int)) (by decide) rfl ?_
  intro p e s m args below meth c s₁ B hml hpre
  obtain ⟨rfl, hP, hK, hD0⟩ := hpre
  have hx := B.exec
  have hb := B.bytes
  have hr := B.returns
  have hA : ∀ w ∈ AW, w.before _ s = true := fun w h => atoms_spec (ws := wsA yX2_bucketsWith cX2_bucketsWith 4 (some .int)) B.pre w (List.mem_cons_of_mem _ h)
  have hown : s.vm.findClass RX2 = some m.cls := findClass_of_methodNamed B.named
  have hlocks := B.notSynchronized
  have hDT := F_dT hD0
  have S : CallFix p m c cX2_bucketsWith 4 s ([.ref (a 0), .int p1] : List Value).toArray AW RX2 := ⟨hx, hb, hml, hown, hA⟩
  have hl := lv_entry ([.ref (a 0), .int p1]) (n := 4) (Nat.le_of_ble_eq_true rfl)
  rw [lg_entry_eq]
  generalize (lg_sl ([.ref (a 0), .int p1]) ++ List.replicate (4 - (lg_sl ([.ref (a 0), .int p1])).length) Slot.unset).toArray = ls at hl ⊢
  have hl : lv_has ls 4 [(0, .ref (a 0)), (1, .int p1)] := hl
  have hL4 : ∀ (k : Nat) (v1 : Int32) (v2 : Int32) (v3 : Int32) (ls : Array Slot) (o2 : Int32), L_X2_bucketsWith_4 N φ v1 k v2 v3 = some o2 → lv_has ls 4 [(0, .ref (a 0)), (1, .int v1), (2, .int v2), (3, .int v3)] → (∀ (ls1 : Array Slot), lv_has ls1 4 [(2, .int o2)] → W p l e (headSpec (wsA yX2_bucketsWith cX2_bucketsWith 4 (some .int)) { frames := 2, cells := 0, slots := 0, locals := 44 }).room s m ([.ref (a 0), .int p1] : List Value).toArray below meth c s.heap [] 0 0 (MQ below (vp_Si (fun r => r = r0)) ([.ref (a 0), .int p1] : List Value).toArray s 0 0 (fun _ => False)) (F0 m 30 ls1 [])) → W p l e (headSpec (wsA yX2_bucketsWith cX2_bucketsWith 4 (some .int)) { frames := 2, cells := 0, slots := 0, locals := 44 }).room s m ([.ref (a 0), .int p1] : List Value).toArray below meth c s.heap [] 0 0 (MQ below (vp_Si (fun r => r = r0)) ([.ref (a 0), .int p1] : List Value).toArray s 0 0 (fun _ => False)) (F0 m 4 ls []) := by
    intro k
    induction k with
    | zero =>
      intro v1 v2 v3 ls o2 h hl kk
      exact no_s h
    | succ k ih =>
      intro v1 v2 v3 ls o2 h hl kk
      replace h : B_X2_bucketsWith_4 N φ v1 (L_X2_bucketsWith_4 N φ v1 k) v2 v3 = some o2 := h
      unfold B_X2_bucketsWith_4 at h
      refine lv_iload_n hx hb dX2_bucketsWith_4 rfl (lv_at hl 3 rfl) ?_
      refine lv_aload_n hx hb dX2_bucketsWith_5 rfl (lv_at hl 0 rfl) ?_
      refine k_X2_bucketCount S aM_RX2_103 ⟨Nat.le_of_ble_eq_true rfl, Nat.le_of_ble_eq_true rfl⟩ ⟨Nat.zero_le _, Nat.zero_le _⟩ hP hK hDT hl.1 (Nat.le_of_ble_eq_true rfl) dX2_bucketsWith_6 (fun r1 er1 => ?_)
      replace h := olet_s er1 h
      refine lv_icmp_ge (tgt := 30) hx hb dX2_bucketsWith_9 (by decide) (fun hc => ?_) (fun hc => ?_)
      · replace h := oi_t hc h
        obtain rfl := os1 h
        exact kk _ (lv_sub hl [2] rfl)
      · replace h := oi_f hc h
        refine lv_aload_n hx hb dX2_bucketsWith_12 rfl (lv_at hl 0 rfl) ?_
        refine lv_iload_n hx hb dX2_bucketsWith_13 rfl (lv_at hl 3 rfl) ?_
        obtain ⟨r2, h3, h⟩ := obd_e h
        refine k_X2_entriesIn S aM_RX2_128 ⟨Nat.le_of_ble_eq_true rfl, Nat.le_of_ble_eq_true rfl⟩ ⟨Nat.zero_le _, Nat.zero_le _⟩ hP hK hDT h3 hl.1 (Nat.le_of_ble_eq_true rfl) dX2_bucketsWith_14 ?_
        refine lv_iload_n hx hb dX2_bucketsWith_17 rfl (lv_at hl 1 rfl) ?_
        refine lv_icmp_ne (tgt := 24) hx hb dX2_bucketsWith_18 (by decide) (fun hc => ?_) (fun hc => ?_)
        · replace h := oi_f hc h
          refine lv_iinc (v := v3 + 1) (lv' := [(3, .int (v3 + 1)), (0, .ref (a 0)), (1, .int v1), (2, .int v2)]) hx hb dX2_bucketsWith_24 hl (k := 3) rfl (fm_inc _ _ _ (by decide)) (by decide) rfl (fun ls hl => ?_)
          refine lv_goto (tgt := 4) hx hb dX2_bucketsWith_27 (by decide) ?_
          exact ih _ _ _ _ _ h (lv_sub hl [1, 2, 3, 0] rfl) kk
        · replace h := oi_t hc h
          refine lv_iinc (v := v2 + 1) (lv' := [(2, .int (v2 + 1)), (0, .ref (a 0)), (1, .int v1), (3, .int v3)]) hx hb dX2_bucketsWith_21 hl (k := 2) rfl (fm_inc _ _ _ (by decide)) (by decide) rfl (fun ls hl => ?_)
          refine lv_iinc (v := v3 + 1) (lv' := [(3, .int (v3 + 1)), (2, .int (v2 + 1)), (0, .ref (a 0)), (1, .int v1)]) hx hb dX2_bucketsWith_24 hl (k := 3) rfl (fm_inc _ _ _ (by decide)) (by decide) rfl (fun ls hl => ?_)
          refine lv_goto (tgt := 4) hx hb dX2_bucketsWith_27 (by decide) ?_
          exact ih _ _ _ _ _ h (lv_sub hl [2, 3, 1, 0] rfl) kk
  have h := hF
  unfold G_X2_bucketsWith at h
  refine lv_iconst (v := 0) hx hb dX2_bucketsWith_0 (by decide) ?_
  refine lv_istore_n (lv' := [(2, .int 0), (0, .ref (a 0)), (1, .int p1)]) hx hb dX2_bucketsWith_1 rfl hl (by decide) rfl (fun ls hl => ?_)
  refine lv_iconst (v := 0) hx hb dX2_bucketsWith_2 (by decide) ?_
  refine lv_istore_n (lv' := [(3, .int 0), (2, .int 0), (0, .ref (a 0)), (1, .int p1)]) hx hb dX2_bucketsWith_3 rfl hl (by decide) rfl (fun ls hl => ?_)
  obtain ⟨y4, h5, h⟩ := obd_e h
  refine hL4 N _ _ _ _ _ h5 (lv_sub hl [2, 3, 1, 0] rfl) (fun ls hl => ?_)
  refine lv_iload_n hx hb dX2_bucketsWith_30 rfl (lv_at hl 0 rfl) ?_
  obtain rfl := os1 h
  exact W.iret (v := y4) hx hb hr (fun t ht hW => ⟨_, rfl, rfl, ht⟩) (fun q hq => absurd hq List.not_mem_nil) dX2_bucketsWith_31
theorem k_X2_bucketsWith {p : Program} {l : Launch} {e : Env} {R : Room} {s : State} {m : MethodId} {args : Array Value} {below : List Frame} {meth : Method} {c : Code} {H : Heap} {locs : List Loc} {cells slots : Nat} {Q : State → Prop} {cc : ByteArray} {pc nL idx : Nat} {ls : Array Slot} {rest : List Value} {own : String} {D : va_G} {cI : ClassId} {a : Nat → Nat} {N : Nat} {φ : M2} {p1 : Int32} {r0 : Int32} (S : CallFix p m c cc nL s args AW own) (h1 : Cond.methodLink own idx yX2_bucketsWith ∈ AW) (hR : 2 + 1 ≤ R.frames ∧ 8 + (4 + 11) + 44 ≤ R.locals) (hc : cells ≤ R.cells ∧ slots ≤ R.slots) (hP : va_P D vwCl (fbW cI a φ) H) (hK : va_K D vwCl [(cI, .int)] s) (hDT : ∀ (φ2 : M2), va_D (fun _ => True) (fbW cI a φ2)) (hF : G_X2_bucketsWith N φ p1 = some r0) (hsz : ls.size = nL) (hW : (rest.map fun v => v.category).sum ≤ 8) (hdg : decode cc pc = .ok (.invokevirtual idx, 3)) (kk : W p l e R s m args below meth c H locs cells slots Q (F0 m (pc + 3) ls (.int r0 :: rest))) : W p l e R s m args below meth c H locs cells slots Q (F0 m pc ls (.int p1 :: .ref (a 0) :: rest)) :=
  fm_runV (n := 1) (C := RX2) (As := [.int p1]) S (c_X2_bucketsWith l D cI a N φ p1 r0 hF) (F_pre (q0 := 0) (ci := 0) hK hP (hDT _) rfl rfl) h1 aI_X2_bucketsWith aV_X2_bucketsWith aN_RX2 aC_X2_bucketsWith rfl rfl (by decide +kernel) rfl hR hc hsz hW hdg (fun r hr => by subst hr; exact kk)
set_option maxHeartbeats 4000000 in
set_option maxRecDepth 100000 in
theorem c_X2_setCell (l : Launch) (D : va_G) (cI : ClassId) (a : Nat → Nat) (φ : M2) (p1 : Int32) (p2 : Int32) (φr : M2) (hF : G_X2_setCell φ p1 p2 = some φr) : Met l yX2_setCell (wsA yX2_setCell cX2_setCell 3 none) { frames := 0, cells := 0, slots := 0, locals := 0 } (va_Pc [.ref (a 0), .int p1, .int p2] (fbP D cI a φ)) (va_Qv (fun (_ : Unit) => True) (fun _ t => va_P D vwCl (fbW cI a φr) t.heap) (fbA a)) 0 0 (fbA a) := by
  refine Met.ofW (cc := cX2_setCell) (maxL := 3) (ret := none) (by decide) rfl ?_
  intro p e s m args below meth c s₁ B hml hpre
  obtain ⟨rfl, hP, hK, hD0⟩ := hpre
  have hx := B.exec
  have hb := B.bytes
  have hr := B.returns
  have hA : ∀ w ∈ AW, w.before _ s = true := fun w h => atoms_spec (ws := wsA yX2_setCell cX2_setCell 3 none) B.pre w (List.mem_cons_of_mem _ h)
  have hown : s.vm.findClass RX2 = some m.cls := findClass_of_methodNamed B.named
  have hlocks := B.notSynchronized
  have hDT := F_dT hD0
  have hDA := F_dA hD0
  have hS : va_S (fbA a) s.heap s.heap [] := va_S.rf
  have S : CallFix p m c cX2_setCell 3 s ([.ref (a 0), .int p1, .int p2] : List Value).toArray AW RX2 := ⟨hx, hb, hml, hown, hA⟩
  have hl := lv_entry ([.ref (a 0), .int p1, .int p2]) (n := 3) (Nat.le_of_ble_eq_true rfl)
  rw [lg_entry_eq]
  generalize (lg_sl ([.ref (a 0), .int p1, .int p2]) ++ List.replicate (3 - (lg_sl ([.ref (a 0), .int p1, .int p2])).length) Slot.unset).toArray = ls at hl ⊢
  have hl : lv_has ls 3 [(0, .ref (a 0)), (1, .int p1), (2, .int p2)] := hl
  have h := hF
  unfold G_X2_setCell at h
  refine lv_iload_n hx hb dX2_setCell_0 rfl (lv_at hl 1 rfl) ?_
  refine lv_if_lt (tgt := 20) hx hb dX2_setCell_1 (by decide) (fun hc => ?_) (fun hc => ?_)
  · replace h := oi_t hc h
    obtain rfl := os1 h
    exact W.vret hx hb hr (fun t ht hW => ⟨⟨(), rfl, trivial, by show va_P _ _ _ t.heap; rw [ht]; exact hP⟩, hS.F ht⟩) hS.2.2 dX2_setCell_20
  · replace h := oi_f hc h
    refine lv_iload_n hx hb dX2_setCell_4 rfl (lv_at hl 1 rfl) ?_
    refine lv_aload_n hx hb dX2_setCell_5 rfl (lv_at hl 0 rfl) ?_
    refine F_g0_5 hx hb hA hown aF_RX2_27 hK hP dX2_setCell_6 ?_
    refine F_ln1 hx hb hK hP dX2_setCell_9 ?_
    refine lv_icmp_ge (tgt := 20) hx hb dX2_setCell_10 (by decide) (fun hc => ?_) (fun hc => ?_)
    · replace h := oi_t hc h
      obtain rfl := os1 h
      exact W.vret hx hb hr (fun t ht hW => ⟨⟨(), rfl, trivial, by show va_P _ _ _ t.heap; rw [ht]; exact hP⟩, hS.F ht⟩) hS.2.2 dX2_setCell_20
    · replace h := oi_f hc h
      refine lv_aload_n hx hb dX2_setCell_13 rfl (lv_at hl 0 rfl) ?_
      refine F_g0_5 hx hb hA hown aF_RX2_27 hK hP dX2_setCell_14 ?_
      refine lv_iload_n hx hb dX2_setCell_17 rfl (lv_at hl 1 rfl) ?_
      refine lv_iload_n hx hb dX2_setCell_18 rfl (lv_at hl 2 rfl) ?_
      obtain ⟨i1, h⟩ := oin_e h
      refine F_st1 hx hb hK hP (hDA _) hS i1 dX2_setCell_19 (fun w2 H locs ew2 hP hS => ?_)
      replace h := olet_s ew2 h
      obtain rfl := os1 h
      exact W.vret hx hb hr (fun t ht hW => ⟨⟨(), rfl, trivial, by show va_P _ _ _ t.heap; rw [ht]; exact hP⟩, hS.F ht⟩) hS.2.2 dX2_setCell_20
theorem k_X2_setCell {p : Program} {l : Launch} {e : Env} {R : Room} {s : State} {m : MethodId} {args : Array Value} {below : List Frame} {meth : Method} {c : Code} {H : Heap} {locs : List Loc} {cells slots : Nat} {Q : State → Prop} {cc : ByteArray} {pc nL idx : Nat} {ls : Array Slot} {rest : List Value} {own : String} {D : va_G} {cI : ClassId} {a : Nat → Nat} {H0 : Heap} {φ : M2} {p1 : Int32} {p2 : Int32} {φr : M2} (S : CallFix p m c cc nL s args AW own) (h1 : Cond.methodLink own idx yX2_setCell ∈ AW) (hR : 0 + 1 ≤ R.frames ∧ 8 + (3 + 11) + 0 ≤ R.locals) (hc : cells ≤ R.cells ∧ slots ≤ R.slots) (hP : va_P D vwCl (fbW cI a φ) H) (hK : va_K D vwCl [(cI, .int)] s) (hDT : ∀ (φ2 : M2), va_D (fun _ => True) (fbW cI a φ2)) (hS : va_S (fbA a) H0 H locs) (hF : G_X2_setCell φ p1 p2 = some φr) (hsz : ls.size = nL) (hW : (rest.map fun v => v.category).sum ≤ 8) (hdg : decode cc pc = .ok (.invokevirtual idx, 3)) (kk : ∀ (H1 : Heap) (locs1 : List Loc), va_P D vwCl (fbW cI a φr) H1 → va_S (fbA a) H0 H1 locs1 → W p l e R s m args below meth c H1 locs1 cells slots Q (F0 m (pc + 3) ls (rest))) : W p l e R s m args below meth c H locs cells slots Q (F0 m pc ls (.int p2 :: .int p1 :: .ref (a 0) :: rest)) :=
  fm_runVv (n := 2) (C := RX2) (As := [.int p1, .int p2]) S (c_X2_setCell l D cI a φ p1 p2 φr hF) (F_pre (q0 := 0) (ci := 0) hK hP (hDT _) rfl rfl) hS h1 aI_X2_setCell aV_X2_setCell aN_RX2 aC_X2_setCell rfl rfl (by decide +kernel) rfl hR hc hsz hW hdg (fun H1 locs1 hP1 hS1 => kk H1 locs1 hP1 hS1)
set_option maxHeartbeats 4000000 in
set_option maxRecDepth 100000 in
theorem c_X2_emptySlot (l : Launch) (D : va_G) (cI : ClassId) (a : Nat → Nat) (φ : M2) (p1 : Int32) (p2 : Int32) (φr : M2) (hF : G_X2_emptySlot φ p1 p2 = some φr) : Met l yX2_emptySlot (wsA yX2_emptySlot cX2_emptySlot 3 none) { frames := 1, cells := 0, slots := 0, locals := 22 } (va_Pc [.ref (a 0), .int p1, .int p2] (fbP D cI a φ)) (va_Qv (fun (_ : Unit) => True) (fun _ t => va_P D vwCl (fbW cI a φr) t.heap) (fbA a)) 0 0 (fbA a) := by
  refine Met.ofW (cc := cX2_emptySlot) (maxL := 3) (ret := none) (by decide) rfl ?_
  intro p e s m args below meth c s₁ B hml hpre
  obtain ⟨rfl, hP, hK, hD0⟩ := hpre
  have hx := B.exec
  have hb := B.bytes
  have hr := B.returns
  have hA : ∀ w ∈ AW, w.before _ s = true := fun w h => atoms_spec (ws := wsA yX2_emptySlot cX2_emptySlot 3 none) B.pre w (List.mem_cons_of_mem _ h)
  have hown : s.vm.findClass RX2 = some m.cls := findClass_of_methodNamed B.named
  have hlocks := B.notSynchronized
  have hDT := F_dT hD0
  have hDA := F_dA hD0
  have hS : va_S (fbA a) s.heap s.heap [] := va_S.rf
  have S : CallFix p m c cX2_emptySlot 3 s ([.ref (a 0), .int p1, .int p2] : List Value).toArray AW RX2 := ⟨hx, hb, hml, hown, hA⟩
  have hl := lv_entry ([.ref (a 0), .int p1, .int p2]) (n := 3) (Nat.le_of_ble_eq_true rfl)
  rw [lg_entry_eq]
  generalize (lg_sl ([.ref (a 0), .int p1, .int p2]) ++ List.replicate (3 - (lg_sl ([.ref (a 0), .int p1, .int p2])).length) Slot.unset).toArray = ls at hl ⊢
  have hl : lv_has ls 3 [(0, .ref (a 0)), (1, .int p1), (2, .int p2)] := hl
  have h := hF
  unfold G_X2_emptySlot at h
  refine lv_aload_n hx hb dX2_emptySlot_0 rfl (lv_at hl 0 rfl) ?_
  refine lv_iload_n hx hb dX2_emptySlot_1 rfl (lv_at hl 1 rfl) ?_
  refine lv_iload_n hx hb dX2_emptySlot_2 rfl (lv_at hl 2 rfl) ?_
  refine k_X2_placeIn S aM_RX2_116 ⟨Nat.le_of_ble_eq_true rfl, Nat.le_of_ble_eq_true rfl⟩ ⟨Nat.zero_le _, Nat.zero_le _⟩ hl.1 (Nat.le_of_ble_eq_true rfl) dX2_emptySlot_3 (fun r1 er1 => ?_)
  replace h := olet_s er1 h
  refine lv_iconst (v := (-1)) hx hb dX2_emptySlot_6 (by decide) ?_
  obtain ⟨w2, h3, h⟩ := obd_e h
  refine k_X2_setCell S aM_RX2_131 ⟨Nat.le_of_ble_eq_true rfl, Nat.le_of_ble_eq_true rfl⟩ ⟨Nat.zero_le _, Nat.zero_le _⟩ hP hK hDT hS h3 hl.1 (Nat.le_of_ble_eq_true rfl) dX2_emptySlot_7 (fun H locs hP hS => ?_)
  obtain rfl := os1 h
  exact W.vret hx hb hr (fun t ht hW => ⟨⟨(), rfl, trivial, by show va_P _ _ _ t.heap; rw [ht]; exact hP⟩, hS.F ht⟩) hS.2.2 dX2_emptySlot_10
theorem k_X2_emptySlot {p : Program} {l : Launch} {e : Env} {R : Room} {s : State} {m : MethodId} {args : Array Value} {below : List Frame} {meth : Method} {c : Code} {H : Heap} {locs : List Loc} {cells slots : Nat} {Q : State → Prop} {cc : ByteArray} {pc nL idx : Nat} {ls : Array Slot} {rest : List Value} {own : String} {D : va_G} {cI : ClassId} {a : Nat → Nat} {H0 : Heap} {φ : M2} {p1 : Int32} {p2 : Int32} {φr : M2} (S : CallFix p m c cc nL s args AW own) (h1 : Cond.methodLink own idx yX2_emptySlot ∈ AW) (hR : 1 + 1 ≤ R.frames ∧ 8 + (3 + 11) + 22 ≤ R.locals) (hc : cells ≤ R.cells ∧ slots ≤ R.slots) (hP : va_P D vwCl (fbW cI a φ) H) (hK : va_K D vwCl [(cI, .int)] s) (hDT : ∀ (φ2 : M2), va_D (fun _ => True) (fbW cI a φ2)) (hS : va_S (fbA a) H0 H locs) (hF : G_X2_emptySlot φ p1 p2 = some φr) (hsz : ls.size = nL) (hW : (rest.map fun v => v.category).sum ≤ 8) (hdg : decode cc pc = .ok (.invokevirtual idx, 3)) (kk : ∀ (H1 : Heap) (locs1 : List Loc), va_P D vwCl (fbW cI a φr) H1 → va_S (fbA a) H0 H1 locs1 → W p l e R s m args below meth c H1 locs1 cells slots Q (F0 m (pc + 3) ls (rest))) : W p l e R s m args below meth c H locs cells slots Q (F0 m pc ls (.int p2 :: .int p1 :: .ref (a 0) :: rest)) :=
  fm_runVv (n := 2) (C := RX2) (As := [.int p1, .int p2]) S (c_X2_emptySlot l D cI a φ p1 p2 φr hF) (F_pre (q0 := 0) (ci := 0) hK hP (hDT _) rfl rfl) hS h1 aI_X2_emptySlot aV_X2_emptySlot aN_RX2 aC_X2_emptySlot rfl rfl (by decide +kernel) rfl hR hc hsz hW hdg (fun H1 locs1 hP1 hS1 => kk H1 locs1 hP1 hS1)
set_option maxHeartbeats 4000000 in
set_option maxRecDepth 100000 in
theorem c_X2_placeOf (l : Launch) (D : va_G) (cI : ClassId) (a : Nat → Nat) (N : Nat) (φ : M2) (p1 : Int32) (r0 : Int32) (hF : G_X2_placeOf N φ p1 = some r0) : Met l yX2_placeOf (wsA yX2_placeOf cX2_placeOf 10 (some .int)) { frames := 2, cells := 0, slots := 0, locals := 45 } (va_Pc [.ref (a 0), .int p1] (fbP D cI a φ)) (vp_Si (fun r => r = r0)) 0 0 (fun _ => False) := by
  refine Met.ofW (cc := cX2_placeOf) (maxL := 10) (ret := (some .int)) (by decide) rfl ?_
  intro p e s m args below meth c s₁ B hml hpre
  obtain ⟨rfl, hP, hK, hD0⟩ := hpre
  have hx := B.exec
  have hb := B.bytes
  have hr := B.returns
  have hA : ∀ w ∈ AW, w.before _ s = true := fun w h => atoms_spec (ws := wsA yX2_placeOf cX2_placeOf 10 (some .int)) B.pre w (List.mem_cons_of_mem _ h)
  have hown : s.vm.findClass RX2 = some m.cls := findClass_of_methodNamed B.named
  have hlocks := B.notSynchronized
  have hDT := F_dT hD0
  have S : CallFix p m c cX2_placeOf 10 s ([.ref (a 0), .int p1] : List Value).toArray AW RX2 := ⟨hx, hb, hml, hown, hA⟩
  have hl := lv_entry ([.ref (a 0), .int p1]) (n := 10) (Nat.le_of_ble_eq_true rfl)
  rw [lg_entry_eq]
  generalize (lg_sl ([.ref (a 0), .int p1]) ++ List.replicate (10 - (lg_sl ([.ref (a 0), .int p1])).length) Slot.unset).toArray = ls at hl ⊢
  have hl : lv_has ls 10 [(0, .ref (a 0)), (1, .int p1)] := hl
  have hL38 : ∀ (k : Nat) (v2 : Int32) (v3 : Int32) (v4 : Int32) (v5 : Int32) (v6 : Int32) (v7 : Int32) (ls : Array Slot) (o5 : Int32) (o6 : Int32), L_X2_placeOf_38 N φ v2 v3 v4 k v5 v6 v7 = some (o5, o6) → lv_has ls 10 [(0, .ref (a 0)), (2, .int v2), (3, .int v3), (4, .int v4), (5, .int v5), (6, .int v6), (7, .int v7)] → (∀ (ls1 : Array Slot), lv_has ls1 10 [(0, .ref (a 0)), (2, .int v2), (5, .int o5), (6, .int o6)] → W p l e (headSpec (wsA yX2_placeOf cX2_placeOf 10 (some .int)) { frames := 2, cells := 0, slots := 0, locals := 45 }).room s m ([.ref (a 0), .int p1] : List Value).toArray below meth c s.heap [] 0 0 (MQ below (vp_Si (fun r => r = r0)) ([.ref (a 0), .int p1] : List Value).toArray s 0 0 (fun _ => False)) (F0 m 118 ls1 [])) → W p l e (headSpec (wsA yX2_placeOf cX2_placeOf 10 (some .int)) { frames := 2, cells := 0, slots := 0, locals := 45 }).room s m ([.ref (a 0), .int p1] : List Value).toArray below meth c s.heap [] 0 0 (MQ below (vp_Si (fun r => r = r0)) ([.ref (a 0), .int p1] : List Value).toArray s 0 0 (fun _ => False)) (F0 m 38 ls []) := by
    intro k
    induction k with
    | zero =>
      intro v2 v3 v4 v5 v6 v7 ls o5 o6 h hl kk
      exact no_s h
    | succ k ih =>
      intro v2 v3 v4 v5 v6 v7 ls o5 o6 h hl kk
      replace h : B_X2_placeOf_38 N φ v2 v3 v4 (L_X2_placeOf_38 N φ v2 v3 v4 k) v5 v6 v7 = some (o5, o6) := h
      unfold B_X2_placeOf_38 at h
      have hJ79 : ∀ (v5 : Int32) (v6 : Int32) (v7 : Int32) (s0 : Int32) (ls : Array Slot), J_X2_placeOf_79_38 (L_X2_placeOf_38 N φ v2 v3 v4 k) N φ v2 v3 v4 v5 v6 v7 s0 = some (o5, o6) → lv_has ls 10 [(0, .ref (a 0)), (2, .int v2), (3, .int v3), (4, .int v4), (5, .int v5), (6, .int v6), (7, .int v7)] → W p l e (headSpec (wsA yX2_placeOf cX2_placeOf 10 (some .int)) { frames := 2, cells := 0, slots := 0, locals := 45 }).room s m ([.ref (a 0), .int p1] : List Value).toArray below meth c s.heap [] 0 0 (MQ below (vp_Si (fun r => r = r0)) ([.ref (a 0), .int p1] : List Value).toArray s 0 0 (fun _ => False)) (F0 m 79 ls [.int s0]) := by
        intro v5 v6 v7 s0 ls h hl
        unfold J_X2_placeOf_79_38 at h
        refine lv_istore (lv' := [(8, .int s0), (0, .ref (a 0)), (2, .int v2), (3, .int v3), (4, .int v4), (5, .int v5), (6, .int v6), (7, .int v7)]) hx hb dX2_placeOf_79 hl (by decide) rfl (fun ls hl => ?_)
        refine lv_aload_n hx hb dX2_placeOf_81 rfl (lv_at hl 1 rfl) ?_
        refine lv_iload hx hb dX2_placeOf_82 (lv_at hl 0 rfl) ?_
        obtain ⟨r6, h7, h⟩ := obd_e h
        refine k_X2_cellAt S aM_RX2_119 ⟨Nat.le_of_ble_eq_true rfl, Nat.le_of_ble_eq_true rfl⟩ ⟨Nat.zero_le _, Nat.zero_le _⟩ hP hK hDT h7 hl.1 (Nat.le_of_ble_eq_true rfl) dX2_placeOf_84 ?_
        refine lv_iload_n hx hb dX2_placeOf_87 rfl (lv_at hl 2 rfl) ?_
        refine lv_aload_n hx hb dX2_placeOf_88 rfl (lv_at hl 1 rfl) ?_
        refine F_g0_0 hx hb hA hown aF_RX2_9 hK hP dX2_placeOf_89 ?_
        refine k_X1_lengthIfMatching S aM_RX2_147 ⟨Nat.le_of_ble_eq_true rfl, Nat.le_of_ble_eq_true rfl⟩ ⟨Nat.zero_le _, Nat.zero_le _⟩ hl.1 (Nat.le_of_ble_eq_true rfl) dX2_placeOf_92 (fun r8 er8 => ?_)
        replace h := olet_s er8 h
        refine lv_istore (lv' := [(9, .int r8), (8, .int s0), (0, .ref (a 0)), (2, .int v2), (3, .int v3), (4, .int v4), (5, .int v5), (6, .int v6), (7, .int v7)]) hx hb dX2_placeOf_95 hl (by decide) rfl (fun ls hl => ?_)
        refine lv_iload hx hb dX2_placeOf_97 (lv_at hl 0 rfl) ?_
        refine lv_iload hx hb dX2_placeOf_99 (lv_at hl 7 rfl) ?_
        refine lv_icmp_le (tgt := 112) hx hb dX2_placeOf_101 (by decide) (fun hc => ?_) (fun hc => ?_)
        · replace h := oi_t hc h
          refine lv_iinc (v := v7 + 1) (lv' := [(7, .int (v7 + 1)), (9, .int r8), (8, .int s0), (0, .ref (a 0)), (2, .int v2), (3, .int v3), (4, .int v4), (5, .int v5), (6, .int v6)]) hx hb dX2_placeOf_112 hl (k := 8) rfl (fm_inc _ _ _ (by decide)) (by decide) rfl (fun ls hl => ?_)
          refine lv_goto (tgt := 38) hx hb dX2_placeOf_115 (by decide) ?_
          exact ih _ _ _ _ _ _ _ _ _ h (lv_sub hl [3, 4, 5, 6, 7, 8, 0] rfl) kk
        · replace h := oi_f hc h
          refine lv_iload hx hb dX2_placeOf_104 (lv_at hl 0 rfl) ?_
          refine lv_istore (lv' := [(6, .int r8), (9, .int r8), (8, .int s0), (0, .ref (a 0)), (2, .int v2), (3, .int v3), (4, .int v4), (5, .int v5), (7, .int v7)]) hx hb dX2_placeOf_106 hl (by decide) rfl (fun ls hl => ?_)
          refine lv_iload hx hb dX2_placeOf_108 (lv_at hl 2 rfl) ?_
          refine lv_istore (lv' := [(5, .int s0), (6, .int r8), (9, .int r8), (8, .int s0), (0, .ref (a 0)), (2, .int v2), (3, .int v3), (4, .int v4), (7, .int v7)]) hx hb dX2_placeOf_110 hl (by decide) rfl (fun ls hl => ?_)
          refine lv_iinc (v := v7 + 1) (lv' := [(7, .int (v7 + 1)), (5, .int s0), (6, .int r8), (9, .int r8), (8, .int s0), (0, .ref (a 0)), (2, .int v2), (3, .int v3), (4, .int v4)]) hx hb dX2_placeOf_112 hl (k := 8) rfl (fm_inc _ _ _ (by decide)) (by decide) rfl (fun ls hl => ?_)
          refine lv_goto (tgt := 38) hx hb dX2_placeOf_115 (by decide) ?_
          exact ih _ _ _ _ _ _ _ _ _ h (lv_sub hl [5, 6, 7, 8, 1, 2, 0] rfl) kk
      refine lv_iload hx hb dX2_placeOf_38 (lv_at hl 6 rfl) ?_
      refine lv_iconst (v := 2) hx hb dX2_placeOf_40 (by decide) ?_
      refine lv_aload_n hx hb dX2_placeOf_41 rfl (lv_at hl 0 rfl) ?_
      refine F_g0_1 hx hb hA hown aF_RX2_15 hK hP dX2_placeOf_42 ?_
      refine lv_imul hx hb dX2_placeOf_45 ?_
      refine lv_icmp_ge (tgt := 118) hx hb dX2_placeOf_46 (by decide) (fun hc => ?_) (fun hc => ?_)
      · replace h := oi_t hc h
        obtain ⟨rfl, rfl⟩ := os2 h
        exact kk _ (lv_sub hl [0, 1, 4, 5] rfl)
      · replace h := oi_f hc h
        refine lv_iload hx hb dX2_placeOf_49 (lv_at hl 6 rfl) ?_
        refine lv_aload_n hx hb dX2_placeOf_51 rfl (lv_at hl 0 rfl) ?_
        refine F_g0_1 hx hb hA hown aF_RX2_15 hK hP dX2_placeOf_52 ?_
        refine lv_icmp_ge (tgt := 67) hx hb dX2_placeOf_55 (by decide) (fun hc => ?_) (fun hc => ?_)
        · replace h := oi_t hc h
          refine lv_iload hx hb dX2_placeOf_67 (lv_at hl 3 rfl) ?_
          refine lv_iload hx hb dX2_placeOf_69 (lv_at hl 6 rfl) ?_
          refine lv_aload_n hx hb dX2_placeOf_71 rfl (lv_at hl 0 rfl) ?_
          refine F_g0_1 hx hb hA hown aF_RX2_15 hK hP dX2_placeOf_72 ?_
          refine lv_isub hx hb dX2_placeOf_75 ?_
          refine k_X2_placeIn S aM_RX2_116 ⟨Nat.le_of_ble_eq_true rfl, Nat.le_of_ble_eq_true rfl⟩ ⟨Nat.zero_le _, Nat.zero_le _⟩ hl.1 (Nat.le_of_ble_eq_true rfl) dX2_placeOf_76 (fun r5 er5 => ?_)
          replace h := olet_s er5 h
          exact hJ79 _ _ _ _ _ h (lv_sub hl [0, 1, 2, 3, 4, 5, 6] rfl)
        · replace h := oi_f hc h
          refine lv_iload_n hx hb dX2_placeOf_58 rfl (lv_at hl 2 rfl) ?_
          refine lv_iload hx hb dX2_placeOf_59 (lv_at hl 6 rfl) ?_
          refine k_X2_placeIn S aM_RX2_116 ⟨Nat.le_of_ble_eq_true rfl, Nat.le_of_ble_eq_true rfl⟩ ⟨Nat.zero_le _, Nat.zero_le _⟩ hl.1 (Nat.le_of_ble_eq_true rfl) dX2_placeOf_61 (fun r9 er9 => ?_)
          replace h := olet_s er9 h
          refine lv_goto (tgt := 79) hx hb dX2_placeOf_64 (by decide) ?_
          exact hJ79 _ _ _ _ _ h (lv_sub hl [0, 1, 2, 3, 4, 5, 6] rfl)
  have hL121 : ∀ (k : Nat) (v2 : Int32) (v5 : Int32) (v6 : Int32) (v7 : Int32) (ls : Array Slot) (o5 : Int32), L_X2_placeOf_121 N φ v2 k v5 v6 v7 = some o5 → lv_has ls 10 [(0, .ref (a 0)), (2, .int v2), (5, .int v5), (6, .int v6), (7, .int v7)] → (∀ (ls1 : Array Slot), lv_has ls1 10 [(5, .int o5)] → W p l e (headSpec (wsA yX2_placeOf cX2_placeOf 10 (some .int)) { frames := 2, cells := 0, slots := 0, locals := 45 }).room s m ([.ref (a 0), .int p1] : List Value).toArray below meth c s.heap [] 0 0 (MQ below (vp_Si (fun r => r = r0)) ([.ref (a 0), .int p1] : List Value).toArray s 0 0 (fun _ => False)) (F0 m 171 ls1 [])) → W p l e (headSpec (wsA yX2_placeOf cX2_placeOf 10 (some .int)) { frames := 2, cells := 0, slots := 0, locals := 45 }).room s m ([.ref (a 0), .int p1] : List Value).toArray below meth c s.heap [] 0 0 (MQ below (vp_Si (fun r => r = r0)) ([.ref (a 0), .int p1] : List Value).toArray s 0 0 (fun _ => False)) (F0 m 121 ls []) := by
    intro k
    induction k with
    | zero =>
      intro v2 v5 v6 v7 ls o5 h hl kk
      exact no_s h
    | succ k ih =>
      intro v2 v5 v6 v7 ls o5 h hl kk
      replace h : B_X2_placeOf_121 N φ v2 (L_X2_placeOf_121 N φ v2 k) v5 v6 v7 = some o5 := h
      unfold B_X2_placeOf_121 at h
      refine lv_iload hx hb dX2_placeOf_121 (lv_at hl 4 rfl) ?_
      refine lv_aload_n hx hb dX2_placeOf_123 rfl (lv_at hl 0 rfl) ?_
      refine F_g0_7 hx hb hA hown aF_RX2_55 hK hP dX2_placeOf_124 ?_
      refine lv_icmp_ge (tgt := 171) hx hb dX2_placeOf_127 (by decide) (fun hc => ?_) (fun hc => ?_)
      · replace h := oi_t hc h
        obtain rfl := os1 h
        exact kk _ (lv_sub hl [2] rfl)
      · replace h := oi_f hc h
        refine lv_aload_n hx hb dX2_placeOf_130 rfl (lv_at hl 0 rfl) ?_
        refine lv_iload hx hb dX2_placeOf_131 (lv_at hl 4 rfl) ?_
        obtain ⟨r13, h14, h⟩ := obd_e h
        refine k_X2_stashAt S aM_RX2_125 ⟨Nat.le_of_ble_eq_true rfl, Nat.le_of_ble_eq_true rfl⟩ ⟨Nat.zero_le _, Nat.zero_le _⟩ hP hK hDT h14 hl.1 (Nat.le_of_ble_eq_true rfl) dX2_placeOf_133 ?_
        refine lv_iload_n hx hb dX2_placeOf_136 rfl (lv_at hl 1 rfl) ?_
        refine lv_aload_n hx hb dX2_placeOf_137 rfl (lv_at hl 0 rfl) ?_
        refine F_g0_0 hx hb hA hown aF_RX2_9 hK hP dX2_placeOf_138 ?_
        refine k_X1_lengthIfMatching S aM_RX2_147 ⟨Nat.le_of_ble_eq_true rfl, Nat.le_of_ble_eq_true rfl⟩ ⟨Nat.zero_le _, Nat.zero_le _⟩ hl.1 (Nat.le_of_ble_eq_true rfl) dX2_placeOf_141 (fun r15 er15 => ?_)
        replace h := olet_s er15 h
        refine lv_istore (lv' := [(8, .int r15), (0, .ref (a 0)), (2, .int v2), (5, .int v5), (6, .int v6), (7, .int v7)]) hx hb dX2_placeOf_144 hl (by decide) rfl (fun ls hl => ?_)
        refine lv_iload hx hb dX2_placeOf_146 (lv_at hl 0 rfl) ?_
        refine lv_iload hx hb dX2_placeOf_148 (lv_at hl 4 rfl) ?_
        refine lv_icmp_le (tgt := 165) hx hb dX2_placeOf_150 (by decide) (fun hc => ?_) (fun hc => ?_)
        · replace h := oi_t hc h
          refine lv_iinc (v := v7 + 1) (lv' := [(7, .int (v7 + 1)), (8, .int r15), (0, .ref (a 0)), (2, .int v2), (5, .int v5), (6, .int v6)]) hx hb dX2_placeOf_165 hl (k := 5) rfl (fm_inc _ _ _ (by decide)) (by decide) rfl (fun ls hl => ?_)
          refine lv_goto (tgt := 121) hx hb dX2_placeOf_168 (by decide) ?_
          exact ih _ _ _ _ _ _ h (lv_sub hl [2, 3, 4, 5, 0] rfl) kk
        · replace h := oi_f hc h
          refine lv_iload hx hb dX2_placeOf_153 (lv_at hl 0 rfl) ?_
          refine lv_istore (lv' := [(6, .int r15), (8, .int r15), (0, .ref (a 0)), (2, .int v2), (5, .int v5), (7, .int v7)]) hx hb dX2_placeOf_155 hl (by decide) rfl (fun ls hl => ?_)
          refine lv_sipush (v := 1000) hx hb dX2_placeOf_157 (by decide) ?_
          refine lv_iload hx hb dX2_placeOf_160 (lv_at hl 5 rfl) ?_
          refine lv_iadd hx hb dX2_placeOf_162 ?_
          refine lv_topi (fun x16 ex16 => ?_)
          replace h := olet_s ex16 h
          refine lv_istore (lv' := [(5, .int x16), (6, .int r15), (8, .int r15), (0, .ref (a 0)), (2, .int v2), (7, .int v7)]) hx hb dX2_placeOf_163 hl (by decide) rfl (fun ls hl => ?_)
          refine lv_iinc (v := v7 + 1) (lv' := [(7, .int (v7 + 1)), (5, .int x16), (6, .int r15), (8, .int r15), (0, .ref (a 0)), (2, .int v2)]) hx hb dX2_placeOf_165 hl (k := 5) rfl (fm_inc _ _ _ (by decide)) (by decide) rfl (fun ls hl => ?_)
          refine lv_goto (tgt := 121) hx hb dX2_placeOf_168 (by decide) ?_
          exact ih _ _ _ _ _ _ h (lv_sub hl [4, 5, 1, 2, 0] rfl) kk
  have h := hF
  unfold G_X2_placeOf at h
  refine lv_aload_n hx hb dX2_placeOf_0 rfl (lv_at hl 0 rfl) ?_
  refine lv_iload_n hx hb dX2_placeOf_1 rfl (lv_at hl 1 rfl) ?_
  refine k_X2_codeOf S aM_RX2_80 ⟨Nat.le_of_ble_eq_true rfl, Nat.le_of_ble_eq_true rfl⟩ ⟨Nat.zero_le _, Nat.zero_le _⟩ hP hK hDT hl.1 (Nat.le_of_ble_eq_true rfl) dX2_placeOf_2 (fun r1 er1 => ?_)
  replace h := olet_s er1 h
  refine lv_istore_n (lv' := [(2, .int r1), (0, .ref (a 0)), (1, .int p1)]) hx hb dX2_placeOf_5 rfl hl (by decide) rfl (fun ls hl => ?_)
  refine lv_iload_n hx hb dX2_placeOf_6 rfl (lv_at hl 0 rfl) ?_
  refine lv_aload_n hx hb dX2_placeOf_7 rfl (lv_at hl 1 rfl) ?_
  refine F_g0_0 hx hb hA hown aF_RX2_9 hK hP dX2_placeOf_8 ?_
  refine k_X0_homeOf S aM_RX2_144 ⟨Nat.le_of_ble_eq_true rfl, Nat.le_of_ble_eq_true rfl⟩ ⟨Nat.zero_le _, Nat.zero_le _⟩ hl.1 (Nat.le_of_ble_eq_true rfl) dX2_placeOf_11 (fun r2 er2 => ?_)
  replace h := olet_s er2 h
  refine lv_istore_n (lv' := [(3, .int r2), (2, .int r1), (0, .ref (a 0)), (1, .int p1)]) hx hb dX2_placeOf_14 rfl hl (by decide) rfl (fun ls hl => ?_)
  refine lv_iload_n hx hb dX2_placeOf_15 rfl (lv_at hl 0 rfl) ?_
  refine lv_iload_n hx hb dX2_placeOf_16 rfl (lv_at hl 1 rfl) ?_
  refine k_X0_tagOf S aM_RX2_146 ⟨Nat.le_of_ble_eq_true rfl, Nat.le_of_ble_eq_true rfl⟩ ⟨Nat.zero_le _, Nat.zero_le _⟩ hl.1 (Nat.le_of_ble_eq_true rfl) dX2_placeOf_17 (fun r3 er3 => ?_)
  replace h := olet_s er3 h
  refine lv_aload_n hx hb dX2_placeOf_20 rfl (lv_at hl 2 rfl) ?_
  refine F_g0_0 hx hb hA hown aF_RX2_9 hK hP dX2_placeOf_21 ?_
  refine k_X0_partner S aM_RX2_94 ⟨Nat.le_of_ble_eq_true rfl, Nat.le_of_ble_eq_true rfl⟩ ⟨Nat.zero_le _, Nat.zero_le _⟩ hl.1 (Nat.le_of_ble_eq_true rfl) dX2_placeOf_24 (fun r4 er4 => ?_)
  replace h := olet_s er4 h
  refine lv_istore (lv' := [(4, .int r4), (3, .int r2), (2, .int r1), (0, .ref (a 0)), (1, .int p1)]) hx hb dX2_placeOf_27 hl (by decide) rfl (fun ls hl => ?_)
  refine lv_iconst (v := (-1)) hx hb dX2_placeOf_29 (by decide) ?_
  refine lv_istore (lv' := [(5, .int ((-1))), (4, .int r4), (3, .int r2), (2, .int r1), (0, .ref (a 0)), (1, .int p1)]) hx hb dX2_placeOf_30 hl (by decide) rfl (fun ls hl => ?_)
  refine lv_iconst (v := (-1)) hx hb dX2_placeOf_32 (by decide) ?_
  refine lv_istore (lv' := [(6, .int ((-1))), (5, .int ((-1))), (4, .int r4), (3, .int r2), (2, .int r1), (0, .ref (a 0)), (1, .int p1)]) hx hb dX2_placeOf_33 hl (by decide) rfl (fun ls hl => ?_)
  refine lv_iconst (v := 0) hx hb dX2_placeOf_35 (by decide) ?_
  refine lv_istore (lv' := [(7, .int 0), (6, .int ((-1))), (5, .int ((-1))), (4, .int r4), (3, .int r2), (2, .int r1), (0, .ref (a 0)), (1, .int p1)]) hx hb dX2_placeOf_36 hl (by decide) rfl (fun ls hl => ?_)
  obtain ⟨y10, y11, h12, h⟩ := obd2_e h
  refine hL38 N _ _ _ _ _ _ _ _ _ h12 (lv_sub hl [6, 5, 4, 3, 2, 1, 0] rfl) (fun ls hl => ?_)
  refine lv_iconst (v := 0) hx hb dX2_placeOf_118 (by decide) ?_
  refine lv_istore (lv' := [(7, .int 0), (0, .ref (a 0)), (2, .int r1), (5, .int y10), (6, .int y11)]) hx hb dX2_placeOf_119 hl (by decide) rfl (fun ls hl => ?_)
  obtain ⟨y17, h18, h⟩ := obd_e h
  refine hL121 N _ _ _ _ _ _ h18 (lv_sub hl [1, 2, 3, 4, 0] rfl) (fun ls hl => ?_)
  refine lv_iload hx hb dX2_placeOf_171 (lv_at hl 0 rfl) ?_
  obtain rfl := os1 h
  exact W.iret (v := y17) hx hb hr (fun t ht hW => ⟨_, rfl, rfl, ht⟩) (fun q hq => absurd hq List.not_mem_nil) dX2_placeOf_173
theorem k_X2_placeOf {p : Program} {l : Launch} {e : Env} {R : Room} {s : State} {m : MethodId} {args : Array Value} {below : List Frame} {meth : Method} {c : Code} {H : Heap} {locs : List Loc} {cells slots : Nat} {Q : State → Prop} {cc : ByteArray} {pc nL idx : Nat} {ls : Array Slot} {rest : List Value} {own : String} {D : va_G} {cI : ClassId} {a : Nat → Nat} {N : Nat} {φ : M2} {p1 : Int32} {r0 : Int32} (S : CallFix p m c cc nL s args AW own) (h1 : Cond.methodLink own idx yX2_placeOf ∈ AW) (hR : 2 + 1 ≤ R.frames ∧ 8 + (10 + 11) + 45 ≤ R.locals) (hc : cells ≤ R.cells ∧ slots ≤ R.slots) (hP : va_P D vwCl (fbW cI a φ) H) (hK : va_K D vwCl [(cI, .int)] s) (hDT : ∀ (φ2 : M2), va_D (fun _ => True) (fbW cI a φ2)) (hF : G_X2_placeOf N φ p1 = some r0) (hsz : ls.size = nL) (hW : (rest.map fun v => v.category).sum ≤ 8) (hdg : decode cc pc = .ok (.invokevirtual idx, 3)) (kk : W p l e R s m args below meth c H locs cells slots Q (F0 m (pc + 3) ls (.int r0 :: rest))) : W p l e R s m args below meth c H locs cells slots Q (F0 m pc ls (.int p1 :: .ref (a 0) :: rest)) :=
  fm_runV (n := 1) (C := RX2) (As := [.int p1]) S (c_X2_placeOf l D cI a N φ p1 r0 hF) (F_pre (q0 := 0) (ci := 0) hK hP (hDT _) rfl rfl) h1 aI_X2_placeOf aV_X2_placeOf aN_RX2 aC_X2_placeOf rfl rfl (by decide +kernel) rfl hR hc hsz hW hdg (fun r hr => by subst hr; exact kk)
set_option maxHeartbeats 4000000 in
set_option maxRecDepth 100000 in
theorem c_X2_finds (l : Launch) (D : va_G) (cI : ClassId) (a : Nat → Nat) (N : Nat) (φ : M2) (p1 : Int32) (r0 : Int32) (hF : G_X2_finds N φ p1 = some r0) : Met l yX2_finds (wsA yX2_finds cX2_finds 2 (some .boolean)) { frames := 3, cells := 0, slots := 0, locals := 74 } (va_Pc [.ref (a 0), .int p1] (fbP D cI a φ)) (vp_Si (fun r => r = r0 ∧ (r = 0 ∨ r = 1))) 0 0 (fun _ => False) := by
  refine Met.ofW (cc := cX2_finds) (maxL := 2) (ret := (some .boolean)) (by decide) rfl ?_
  intro p e s m args below meth c s₁ B hml hpre
  obtain ⟨rfl, hP, hK, hD0⟩ := hpre
  have hx := B.exec
  have hb := B.bytes
  have hr := B.returns
  have hA : ∀ w ∈ AW, w.before _ s = true := fun w h => atoms_spec (ws := wsA yX2_finds cX2_finds 2 (some .boolean)) B.pre w (List.mem_cons_of_mem _ h)
  have hown : s.vm.findClass RX2 = some m.cls := findClass_of_methodNamed B.named
  have hlocks := B.notSynchronized
  have hDT := F_dT hD0
  have S : CallFix p m c cX2_finds 2 s ([.ref (a 0), .int p1] : List Value).toArray AW RX2 := ⟨hx, hb, hml, hown, hA⟩
  have hl := lv_entry ([.ref (a 0), .int p1]) (n := 2) (Nat.le_of_ble_eq_true rfl)
  rw [lg_entry_eq]
  generalize (lg_sl ([.ref (a 0), .int p1]) ++ List.replicate (2 - (lg_sl ([.ref (a 0), .int p1])).length) Slot.unset).toArray = ls at hl ⊢
  have hl : lv_has ls 2 [(0, .ref (a 0)), (1, .int p1)] := hl
  have h := hF
  unfold G_X2_finds at h
  refine lv_aload_n hx hb dX2_finds_0 rfl (lv_at hl 0 rfl) ?_
  refine lv_iload_n hx hb dX2_finds_1 rfl (lv_at hl 1 rfl) ?_
  obtain ⟨r1, h2, h⟩ := obd_e h
  refine k_X2_placeOf S aM_RX2_135 ⟨Nat.le_of_ble_eq_true rfl, Nat.le_of_ble_eq_true rfl⟩ ⟨Nat.zero_le _, Nat.zero_le _⟩ hP hK hDT h2 hl.1 (Nat.le_of_ble_eq_true rfl) dX2_finds_2 ?_
  refine lv_iconst (v := (-1)) hx hb dX2_finds_5 (by decide) ?_
  refine lv_icmp_eq (tgt := 13) hx hb dX2_finds_6 (by decide) (fun hc => ?_) (fun hc => ?_)
  · replace h := oi_t hc h
    refine lv_iconst (v := 0) hx hb dX2_finds_13 (by decide) ?_
    obtain rfl := os1 h
    exact W.zret (v := 0) (ty := .boolean) hx hb hr rfl (fun t ht hW => ⟨_, rfl, ⟨rfl, (Or.inl rfl)⟩, ht⟩) (fun q hq => absurd hq List.not_mem_nil) dX2_finds_14
  · replace h := oi_f hc h
    refine lv_iconst (v := 1) hx hb dX2_finds_9 (by decide) ?_
    refine lv_goto (tgt := 14) hx hb dX2_finds_10 (by decide) ?_
    obtain rfl := os1 h
    exact W.zret (v := 1) (ty := .boolean) hx hb hr rfl (fun t ht hW => ⟨_, rfl, ⟨rfl, (Or.inr rfl)⟩, ht⟩) (fun q hq => absurd hq List.not_mem_nil) dX2_finds_14
theorem k_X2_finds {p : Program} {l : Launch} {e : Env} {R : Room} {s : State} {m : MethodId} {args : Array Value} {below : List Frame} {meth : Method} {c : Code} {H : Heap} {locs : List Loc} {cells slots : Nat} {Q : State → Prop} {cc : ByteArray} {pc nL idx : Nat} {ls : Array Slot} {rest : List Value} {own : String} {D : va_G} {cI : ClassId} {a : Nat → Nat} {N : Nat} {φ : M2} {p1 : Int32} {r0 : Int32} (S : CallFix p m c cc nL s args AW own) (h1 : Cond.methodLink own idx yX2_finds ∈ AW) (hR : 3 + 1 ≤ R.frames ∧ 8 + (2 + 11) + 74 ≤ R.locals) (hc : cells ≤ R.cells ∧ slots ≤ R.slots) (hP : va_P D vwCl (fbW cI a φ) H) (hK : va_K D vwCl [(cI, .int)] s) (hDT : ∀ (φ2 : M2), va_D (fun _ => True) (fbW cI a φ2)) (hF : G_X2_finds N φ p1 = some r0) (hsz : ls.size = nL) (hW : (rest.map fun v => v.category).sum ≤ 8) (hdg : decode cc pc = .ok (.invokevirtual idx, 3)) (kk : (r0 = 0 ∨ r0 = 1) → W p l e R s m args below meth c H locs cells slots Q (F0 m (pc + 3) ls (.int r0 :: rest))) : W p l e R s m args below meth c H locs cells slots Q (F0 m pc ls (.int p1 :: .ref (a 0) :: rest)) :=
  fm_runV (n := 1) (C := RX2) (As := [.int p1]) S (c_X2_finds l D cI a N φ p1 r0 hF) (F_pre (q0 := 0) (ci := 0) hK hP (hDT _) rfl rfl) h1 aI_X2_finds aV_X2_finds aN_RX2 aC_X2_finds rfl rfl (by decide +kernel) rfl hR hc hsz hW hdg (fun r hr => by obtain ⟨rfl, hz⟩ := hr; exact kk hz)
set_option maxHeartbeats 4000000 in
set_option maxRecDepth 100000 in
theorem c_X2_isFalse (l : Launch) (D : va_G) (cI : ClassId) (a : Nat → Nat) (N : Nat) (φ : M2) (p1 : Int32) (r0 : Int32) (hF : G_X2_isFalse N φ p1 = some r0) : Met l yX2_isFalse (wsA yX2_isFalse cX2_isFalse 2 (some .boolean)) { frames := 4, cells := 0, slots := 0, locals := 95 } (va_Pc [.ref (a 0), .int p1] (fbP D cI a φ)) (vp_Si (fun r => r = r0 ∧ (r = 0 ∨ r = 1))) 0 0 (fun _ => False) := by
  refine Met.ofW (cc := cX2_isFalse) (maxL := 2) (ret := (some .boolean)) (by decide) rfl ?_
  intro p e s m args below meth c s₁ B hml hpre
  obtain ⟨rfl, hP, hK, hD0⟩ := hpre
  have hx := B.exec
  have hb := B.bytes
  have hr := B.returns
  have hA : ∀ w ∈ AW, w.before _ s = true := fun w h => atoms_spec (ws := wsA yX2_isFalse cX2_isFalse 2 (some .boolean)) B.pre w (List.mem_cons_of_mem _ h)
  have hown : s.vm.findClass RX2 = some m.cls := findClass_of_methodNamed B.named
  have hlocks := B.notSynchronized
  have hDT := F_dT hD0
  have S : CallFix p m c cX2_isFalse 2 s ([.ref (a 0), .int p1] : List Value).toArray AW RX2 := ⟨hx, hb, hml, hown, hA⟩
  have hl := lv_entry ([.ref (a 0), .int p1]) (n := 2) (Nat.le_of_ble_eq_true rfl)
  rw [lg_entry_eq]
  generalize (lg_sl ([.ref (a 0), .int p1]) ++ List.replicate (2 - (lg_sl ([.ref (a 0), .int p1])).length) Slot.unset).toArray = ls at hl ⊢
  have hl : lv_has ls 2 [(0, .ref (a 0)), (1, .int p1)] := hl
  have h := hF
  unfold G_X2_isFalse at h
  refine lv_aload_n hx hb dX2_isFalse_0 rfl (lv_at hl 0 rfl) ?_
  refine lv_iload_n hx hb dX2_isFalse_1 rfl (lv_at hl 1 rfl) ?_
  obtain ⟨r1, h2, h⟩ := obd_e h
  refine k_X2_finds S aM_RX2_138 ⟨Nat.le_of_ble_eq_true rfl, Nat.le_of_ble_eq_true rfl⟩ ⟨Nat.zero_le _, Nat.zero_le _⟩ hP hK hDT h2 hl.1 (Nat.le_of_ble_eq_true rfl) dX2_isFalse_2 (fun br1 => ?_)
  refine lv_if_eq (tgt := 23) hx hb dX2_isFalse_5 (by decide) (fun hc => ?_) (fun hc => ?_)
  · replace h := oi_t hc h
    refine lv_iconst (v := 0) hx hb dX2_isFalse_23 (by decide) ?_
    obtain rfl := os1 h
    exact W.zret (v := 0) (ty := .boolean) hx hb hr rfl (fun t ht hW => ⟨_, rfl, ⟨rfl, (Or.inl rfl)⟩, ht⟩) (fun q hq => absurd hq List.not_mem_nil) dX2_isFalse_24
  · replace h := oi_f hc h
    refine lv_aload_n hx hb dX2_isFalse_8 rfl (lv_at hl 0 rfl) ?_
    refine F_g0_8 hx hb hA hown aF_RX2_37 hK hP dX2_isFalse_9 ?_
    refine lv_iload_n hx hb dX2_isFalse_12 rfl (lv_at hl 1 rfl) ?_
    obtain ⟨r3, h4, h⟩ := obd_e h
    refine k_X4_has S aM_RX2_70 ⟨Nat.le_of_ble_eq_true rfl, Nat.le_of_ble_eq_true rfl⟩ ⟨Nat.zero_le _, Nat.zero_le _⟩ hP hK hDT h4 hl.1 (Nat.le_of_ble_eq_true rfl) dX2_isFalse_13 (fun br3 => ?_)
    refine lv_if_ne (tgt := 23) hx hb dX2_isFalse_16 (by decide) (fun hc => ?_) (fun hc => ?_)
    · replace h := oi_f hc h
      refine lv_iconst (v := 0) hx hb dX2_isFalse_23 (by decide) ?_
      obtain rfl := os1 h
      exact W.zret (v := 0) (ty := .boolean) hx hb hr rfl (fun t ht hW => ⟨_, rfl, ⟨rfl, (Or.inl rfl)⟩, ht⟩) (fun q hq => absurd hq List.not_mem_nil) dX2_isFalse_24
    · replace h := oi_t hc h
      refine lv_iconst (v := 1) hx hb dX2_isFalse_19 (by decide) ?_
      refine lv_goto (tgt := 24) hx hb dX2_isFalse_20 (by decide) ?_
      obtain rfl := os1 h
      exact W.zret (v := 1) (ty := .boolean) hx hb hr rfl (fun t ht hW => ⟨_, rfl, ⟨rfl, (Or.inr rfl)⟩, ht⟩) (fun q hq => absurd hq List.not_mem_nil) dX2_isFalse_24
theorem k_X2_isFalse {p : Program} {l : Launch} {e : Env} {R : Room} {s : State} {m : MethodId} {args : Array Value} {below : List Frame} {meth : Method} {c : Code} {H : Heap} {locs : List Loc} {cells slots : Nat} {Q : State → Prop} {cc : ByteArray} {pc nL idx : Nat} {ls : Array Slot} {rest : List Value} {own : String} {D : va_G} {cI : ClassId} {a : Nat → Nat} {N : Nat} {φ : M2} {p1 : Int32} {r0 : Int32} (S : CallFix p m c cc nL s args AW own) (h1 : Cond.methodLink own idx yX2_isFalse ∈ AW) (hR : 4 + 1 ≤ R.frames ∧ 8 + (2 + 11) + 95 ≤ R.locals) (hc : cells ≤ R.cells ∧ slots ≤ R.slots) (hP : va_P D vwCl (fbW cI a φ) H) (hK : va_K D vwCl [(cI, .int)] s) (hDT : ∀ (φ2 : M2), va_D (fun _ => True) (fbW cI a φ2)) (hF : G_X2_isFalse N φ p1 = some r0) (hsz : ls.size = nL) (hW : (rest.map fun v => v.category).sum ≤ 8) (hdg : decode cc pc = .ok (.invokevirtual idx, 3)) (kk : (r0 = 0 ∨ r0 = 1) → W p l e R s m args below meth c H locs cells slots Q (F0 m (pc + 3) ls (.int r0 :: rest))) : W p l e R s m args below meth c H locs cells slots Q (F0 m pc ls (.int p1 :: .ref (a 0) :: rest)) :=
  fm_runV (n := 1) (C := RX2) (As := [.int p1]) S (c_X2_isFalse l D cI a N φ p1 r0 hF) (F_pre (q0 := 0) (ci := 0) hK hP (hDT _) rfl rfl) h1 aI_X2_isFalse aV_X2_isFalse aN_RX2 aC_X2_isFalse rfl rfl (by decide +kernel) rfl hR hc hsz hW hdg (fun r hr => by obtain ⟨rfl, hz⟩ := hr; exact kk hz)
set_option maxHeartbeats 4000000 in
set_option maxRecDepth 100000 in
theorem c_X2_falseBetween (l : Launch) (D : va_G) (cI : ClassId) (a : Nat → Nat) (N : Nat) (φ : M2) (p1 : Int32) (p2 : Int32) (r0 : Int32) (hF : G_X2_falseBetween N φ p1 p2 = some r0) : Met l yX2_falseBetween (wsA yX2_falseBetween cX2_falseBetween 5 (some .int)) { frames := 5, cells := 0, slots := 0, locals := 116 } (va_Pc [.ref (a 0), .int p1, .int p2] (fbP D cI a φ)) (vp_Si (fun r => r = r0)) 0 0 (fun _ => False) := by
  refine Met.ofW (cc := cX2_falseBetween) (maxL := 5) (ret := (some .int)) (by decide) rfl ?_
  intro p e s m args below meth c s₁ B hml hpre
  obtain ⟨rfl, hP, hK, hD0⟩ := hpre
  have hx := B.exec
  have hb := B.bytes
  have hr := B.returns
  have hA : ∀ w ∈ AW, w.before _ s = true := fun w h => atoms_spec (ws := wsA yX2_falseBetween cX2_falseBetween 5 (some .int)) B.pre w (List.mem_cons_of_mem _ h)
  have hown : s.vm.findClass RX2 = some m.cls := findClass_of_methodNamed B.named
  have hlocks := B.notSynchronized
  have hDT := F_dT hD0
  have S : CallFix p m c cX2_falseBetween 5 s ([.ref (a 0), .int p1, .int p2] : List Value).toArray AW RX2 := ⟨hx, hb, hml, hown, hA⟩
  have hl := lv_entry ([.ref (a 0), .int p1, .int p2]) (n := 5) (Nat.le_of_ble_eq_true rfl)
  rw [lg_entry_eq]
  generalize (lg_sl ([.ref (a 0), .int p1, .int p2]) ++ List.replicate (5 - (lg_sl ([.ref (a 0), .int p1, .int p2])).length) Slot.unset).toArray = ls at hl ⊢
  have hl : lv_has ls 5 [(0, .ref (a 0)), (1, .int p1), (2, .int p2)] := hl
  have hL5 : ∀ (k : Nat) (v2 : Int32) (v3 : Int32) (v4 : Int32) (ls : Array Slot) (o3 : Int32), L_X2_falseBetween_5 N φ v2 k v3 v4 = some o3 → lv_has ls 5 [(0, .ref (a 0)), (2, .int v2), (3, .int v3), (4, .int v4)] → (∀ (ls1 : Array Slot), lv_has ls1 5 [(3, .int o3)] → W p l e (headSpec (wsA yX2_falseBetween cX2_falseBetween 5 (some .int)) { frames := 5, cells := 0, slots := 0, locals := 116 }).room s m ([.ref (a 0), .int p1, .int p2] : List Value).toArray below meth c s.heap [] 0 0 (MQ below (vp_Si (fun r => r = r0)) ([.ref (a 0), .int p1, .int p2] : List Value).toArray s 0 0 (fun _ => False)) (F0 m 37 ls1 [])) → W p l e (headSpec (wsA yX2_falseBetween cX2_falseBetween 5 (some .int)) { frames := 5, cells := 0, slots := 0, locals := 116 }).room s m ([.ref (a 0), .int p1, .int p2] : List Value).toArray below meth c s.heap [] 0 0 (MQ below (vp_Si (fun r => r = r0)) ([.ref (a 0), .int p1, .int p2] : List Value).toArray s 0 0 (fun _ => False)) (F0 m 5 ls []) := by
    intro k
    induction k with
    | zero =>
      intro v2 v3 v4 ls o3 h hl kk
      exact no_s h
    | succ k ih =>
      intro v2 v3 v4 ls o3 h hl kk
      replace h : B_X2_falseBetween_5 N φ v2 (L_X2_falseBetween_5 N φ v2 k) v3 v4 = some o3 := h
      unfold B_X2_falseBetween_5 at h
      refine lv_iload hx hb dX2_falseBetween_5 (lv_at hl 3 rfl) ?_
      refine lv_iload_n hx hb dX2_falseBetween_7 rfl (lv_at hl 1 rfl) ?_
      refine lv_icmp_gt (tgt := 37) hx hb dX2_falseBetween_8 (by decide) (fun hc => ?_) (fun hc => ?_)
      · replace h := oi_t hc h
        obtain rfl := os1 h
        exact kk _ (lv_sub hl [2] rfl)
      · replace h := oi_f hc h
        refine lv_iload hx hb dX2_falseBetween_11 (lv_at hl 3 rfl) ?_
        refine lv_sipush (v := 1000) hx hb dX2_falseBetween_13 (by decide) ?_
        refine lv_icmp_ge (tgt := 37) hx hb dX2_falseBetween_16 (by decide) (fun hc => ?_) (fun hc => ?_)
        · replace h := oi_t hc h
          obtain rfl := os1 h
          exact kk _ (lv_sub hl [2] rfl)
        · replace h := oi_f hc h
          refine lv_aload_n hx hb dX2_falseBetween_19 rfl (lv_at hl 0 rfl) ?_
          refine lv_iload hx hb dX2_falseBetween_20 (lv_at hl 3 rfl) ?_
          obtain ⟨r1, h2, h⟩ := obd_e h
          refine k_X2_isFalse S aM_RX2_141 ⟨Nat.le_of_ble_eq_true rfl, Nat.le_of_ble_eq_true rfl⟩ ⟨Nat.zero_le _, Nat.zero_le _⟩ hP hK hDT h2 hl.1 (Nat.le_of_ble_eq_true rfl) dX2_falseBetween_22 (fun br1 => ?_)
          refine lv_if_eq (tgt := 31) hx hb dX2_falseBetween_25 (by decide) (fun hc => ?_) (fun hc => ?_)
          · replace h := oi_t hc h
            refine lv_iinc (v := v4 + 1) (lv' := [(4, .int (v4 + 1)), (0, .ref (a 0)), (2, .int v2), (3, .int v3)]) hx hb dX2_falseBetween_31 hl (k := 3) rfl (fm_inc _ _ _ (by decide)) (by decide) rfl (fun ls hl => ?_)
            refine lv_goto (tgt := 5) hx hb dX2_falseBetween_34 (by decide) ?_
            exact ih _ _ _ _ _ h (lv_sub hl [1, 2, 3, 0] rfl) kk
          · replace h := oi_f hc h
            refine lv_iinc (v := v3 + 1) (lv' := [(3, .int (v3 + 1)), (0, .ref (a 0)), (2, .int v2), (4, .int v4)]) hx hb dX2_falseBetween_28 hl (k := 2) rfl (fm_inc _ _ _ (by decide)) (by decide) rfl (fun ls hl => ?_)
            refine lv_iinc (v := v4 + 1) (lv' := [(4, .int (v4 + 1)), (3, .int (v3 + 1)), (0, .ref (a 0)), (2, .int v2)]) hx hb dX2_falseBetween_31 hl (k := 3) rfl (fm_inc _ _ _ (by decide)) (by decide) rfl (fun ls hl => ?_)
            refine lv_goto (tgt := 5) hx hb dX2_falseBetween_34 (by decide) ?_
            exact ih _ _ _ _ _ h (lv_sub hl [2, 3, 1, 0] rfl) kk
  have h := hF
  unfold G_X2_falseBetween at h
  refine lv_iconst (v := 0) hx hb dX2_falseBetween_0 (by decide) ?_
  refine lv_istore_n (lv' := [(3, .int 0), (0, .ref (a 0)), (1, .int p1), (2, .int p2)]) hx hb dX2_falseBetween_1 rfl hl (by decide) rfl (fun ls hl => ?_)
  refine lv_iload_n hx hb dX2_falseBetween_2 rfl (lv_at hl 2 rfl) ?_
  refine lv_istore (lv' := [(4, .int p1), (3, .int 0), (0, .ref (a 0)), (1, .int p1), (2, .int p2)]) hx hb dX2_falseBetween_3 hl (by decide) rfl (fun ls hl => ?_)
  obtain ⟨y3, h4, h⟩ := obd_e h
  refine hL5 N _ _ _ _ _ h4 (lv_sub hl [2, 4, 1, 0] rfl) (fun ls hl => ?_)
  refine lv_iload_n hx hb dX2_falseBetween_37 rfl (lv_at hl 0 rfl) ?_
  obtain rfl := os1 h
  exact W.iret (v := y3) hx hb hr (fun t ht hW => ⟨_, rfl, rfl, ht⟩) (fun q hq => absurd hq List.not_mem_nil) dX2_falseBetween_38
theorem k_X2_falseBetween {p : Program} {l : Launch} {e : Env} {R : Room} {s : State} {m : MethodId} {args : Array Value} {below : List Frame} {meth : Method} {c : Code} {H : Heap} {locs : List Loc} {cells slots : Nat} {Q : State → Prop} {cc : ByteArray} {pc nL idx : Nat} {ls : Array Slot} {rest : List Value} {own : String} {D : va_G} {cI : ClassId} {a : Nat → Nat} {N : Nat} {φ : M2} {p1 : Int32} {p2 : Int32} {r0 : Int32} (S : CallFix p m c cc nL s args AW own) (h1 : Cond.methodLink own idx yX2_falseBetween ∈ AW) (hR : 5 + 1 ≤ R.frames ∧ 8 + (5 + 11) + 116 ≤ R.locals) (hc : cells ≤ R.cells ∧ slots ≤ R.slots) (hP : va_P D vwCl (fbW cI a φ) H) (hK : va_K D vwCl [(cI, .int)] s) (hDT : ∀ (φ2 : M2), va_D (fun _ => True) (fbW cI a φ2)) (hF : G_X2_falseBetween N φ p1 p2 = some r0) (hsz : ls.size = nL) (hW : (rest.map fun v => v.category).sum ≤ 8) (hdg : decode cc pc = .ok (.invokevirtual idx, 3)) (kk : W p l e R s m args below meth c H locs cells slots Q (F0 m (pc + 3) ls (.int r0 :: rest))) : W p l e R s m args below meth c H locs cells slots Q (F0 m pc ls (.int p2 :: .int p1 :: .ref (a 0) :: rest)) :=
  fm_runV (n := 2) (C := RX2) (As := [.int p1, .int p2]) S (c_X2_falseBetween l D cI a N φ p1 p2 r0 hF) (F_pre (q0 := 0) (ci := 0) hK hP (hDT _) rfl rfl) h1 aI_X2_falseBetween aV_X2_falseBetween aN_RX2 aC_X2_falseBetween rfl rfl (by decide +kernel) rfl hR hc hsz hW hdg (fun r hr => by subst hr; exact kk)
set_option maxHeartbeats 4000000 in
set_option maxRecDepth 100000 in
theorem c_X2_twinPairs (l : Launch) (D : va_G) (cI : ClassId) (a : Nat → Nat) (N : Nat) (φ : M2) (r0 : Int32) (hF : G_X2_twinPairs N φ = some r0) : Met l yX2_twinPairs (wsA yX2_twinPairs cX2_twinPairs 5 (some .int)) { frames := 3, cells := 0, slots := 0, locals := 67 } (va_Pc [.ref (a 0)] (fbP D cI a φ)) (vp_Si (fun r => r = r0)) 0 0 (fun _ => False) := by
  refine Met.ofW (cc := cX2_twinPairs) (maxL := 5) (ret := (some .int)) (by decide) rfl ?_
  intro p e s m args below meth c s₁ B hml hpre
  obtain ⟨rfl, hP, hK, hD0⟩ := hpre
  have hx := B.exec
  have hb := B.bytes
  have hr := B.returns
  have hA : ∀ w ∈ AW, w.before _ s = true := fun w h => atoms_spec (ws := wsA yX2_twinPairs cX2_twinPairs 5 (some .int)) B.pre w (List.mem_cons_of_mem _ h)
  have hown : s.vm.findClass RX2 = some m.cls := findClass_of_methodNamed B.named
  have hlocks := B.notSynchronized
  have hDT := F_dT hD0
  have S : CallFix p m c cX2_twinPairs 5 s ([.ref (a 0)] : List Value).toArray AW RX2 := ⟨hx, hb, hml, hown, hA⟩
  have hl := lv_entry ([.ref (a 0)]) (n := 5) (Nat.le_of_ble_eq_true rfl)
  rw [lg_entry_eq]
  generalize (lg_sl ([.ref (a 0)]) ++ List.replicate (5 - (lg_sl ([.ref (a 0)])).length) Slot.unset).toArray = ls at hl ⊢
  have hl : lv_has ls 5 [(0, .ref (a 0))] := hl
  have hL31 : ∀ (k : Nat) (v2 : Int32) (v3 : Int32) (v1 : Int32) (v4 : Int32) (ls : Array Slot) (o1 : Int32), L_X2_twinPairs_31 N φ v2 v3 k v1 v4 = some o1 → lv_has ls 5 [(0, .ref (a 0)), (1, .int v1), (2, .int v2), (3, .int v3), (4, .int v4)] → (∀ (ls1 : Array Slot), lv_has ls1 5 [(0, .ref (a 0)), (1, .int o1), (2, .int v2)] → W p l e (headSpec (wsA yX2_twinPairs cX2_twinPairs 5 (some .int)) { frames := 3, cells := 0, slots := 0, locals := 67 }).room s m ([.ref (a 0)] : List Value).toArray below meth c s.heap [] 0 0 (MQ below (vp_Si (fun r => r = r0)) ([.ref (a 0)] : List Value).toArray s 0 0 (fun _ => False)) (F0 m 63 ls1 [])) → W p l e (headSpec (wsA yX2_twinPairs cX2_twinPairs 5 (some .int)) { frames := 3, cells := 0, slots := 0, locals := 67 }).room s m ([.ref (a 0)] : List Value).toArray below meth c s.heap [] 0 0 (MQ below (vp_Si (fun r => r = r0)) ([.ref (a 0)] : List Value).toArray s 0 0 (fun _ => False)) (F0 m 31 ls []) := by
    intro k
    induction k with
    | zero =>
      intro v2 v3 v1 v4 ls o1 h hl kk
      exact no_s h
    | succ k ih =>
      intro v2 v3 v1 v4 ls o1 h hl kk
      replace h : B_X2_twinPairs_31 N φ v2 v3 (L_X2_twinPairs_31 N φ v2 v3 k) v1 v4 = some o1 := h
      unfold B_X2_twinPairs_31 at h
      refine lv_iload hx hb dX2_twinPairs_31 (lv_at hl 4 rfl) ?_
      refine lv_iload_n hx hb dX2_twinPairs_33 rfl (lv_at hl 2 rfl) ?_
      refine lv_icmp_ge (tgt := 63) hx hb dX2_twinPairs_34 (by decide) (fun hc => ?_) (fun hc => ?_)
      · replace h := oi_t hc h
        obtain rfl := os1 h
        exact kk _ (lv_sub hl [0, 1, 2] rfl)
      · replace h := oi_f hc h
        refine lv_aload_n hx hb dX2_twinPairs_37 rfl (lv_at hl 0 rfl) ?_
        refine lv_aload_n hx hb dX2_twinPairs_38 rfl (lv_at hl 0 rfl) ?_
        refine F_g0_8 hx hb hA hown aF_RX2_37 hK hP dX2_twinPairs_39 ?_
        refine lv_iload hx hb dX2_twinPairs_42 (lv_at hl 4 rfl) ?_
        obtain ⟨r5, h6, h⟩ := obd_e h
        refine k_X4_keyAt S aM_RX2_66 ⟨Nat.le_of_ble_eq_true rfl, Nat.le_of_ble_eq_true rfl⟩ ⟨Nat.zero_le _, Nat.zero_le _⟩ hP hK hDT h6 hl.1 (Nat.le_of_ble_eq_true rfl) dX2_twinPairs_44 ?_
        refine k_X2_newEntry S aM_RX2_150 ⟨Nat.le_of_ble_eq_true rfl, Nat.le_of_ble_eq_true rfl⟩ ⟨Nat.zero_le _, Nat.zero_le _⟩ hP hK hDT hl.1 (Nat.le_of_ble_eq_true rfl) dX2_twinPairs_47 (fun r7 er7 => ?_)
        replace h := olet_s er7 h
        refine lv_iload_n hx hb dX2_twinPairs_50 rfl (lv_at hl 3 rfl) ?_
        refine lv_icmp_ne (tgt := 57) hx hb dX2_twinPairs_51 (by decide) (fun hc => ?_) (fun hc => ?_)
        · replace h := oi_f hc h
          refine lv_iinc (v := v4 + 1) (lv' := [(4, .int (v4 + 1)), (0, .ref (a 0)), (1, .int v1), (2, .int v2), (3, .int v3)]) hx hb dX2_twinPairs_57 hl (k := 4) rfl (fm_inc _ _ _ (by decide)) (by decide) rfl (fun ls hl => ?_)
          refine lv_goto (tgt := 31) hx hb dX2_twinPairs_60 (by decide) ?_
          exact ih _ _ _ _ _ _ h (lv_sub hl [1, 2, 3, 4, 0] rfl) kk
        · replace h := oi_t hc h
          refine lv_iinc (v := v1 + 1) (lv' := [(1, .int (v1 + 1)), (0, .ref (a 0)), (2, .int v2), (3, .int v3), (4, .int v4)]) hx hb dX2_twinPairs_54 hl (k := 1) rfl (fm_inc _ _ _ (by decide)) (by decide) rfl (fun ls hl => ?_)
          refine lv_iinc (v := v4 + 1) (lv' := [(4, .int (v4 + 1)), (1, .int (v1 + 1)), (0, .ref (a 0)), (2, .int v2), (3, .int v3)]) hx hb dX2_twinPairs_57 hl (k := 4) rfl (fm_inc _ _ _ (by decide)) (by decide) rfl (fun ls hl => ?_)
          refine lv_goto (tgt := 31) hx hb dX2_twinPairs_60 (by decide) ?_
          exact ih _ _ _ _ _ _ h (lv_sub hl [2, 1, 3, 4, 0] rfl) kk
  have hL4 : ∀ (k : Nat) (v1 : Int32) (v2 : Int32) (ls : Array Slot) (o1 : Int32), L_X2_twinPairs_4 N φ k v1 v2 = some o1 → lv_has ls 5 [(0, .ref (a 0)), (1, .int v1), (2, .int v2)] → (∀ (ls1 : Array Slot), lv_has ls1 5 [(1, .int o1)] → W p l e (headSpec (wsA yX2_twinPairs cX2_twinPairs 5 (some .int)) { frames := 3, cells := 0, slots := 0, locals := 67 }).room s m ([.ref (a 0)] : List Value).toArray below meth c s.heap [] 0 0 (MQ below (vp_Si (fun r => r = r0)) ([.ref (a 0)] : List Value).toArray s 0 0 (fun _ => False)) (F0 m 69 ls1 [])) → W p l e (headSpec (wsA yX2_twinPairs cX2_twinPairs 5 (some .int)) { frames := 3, cells := 0, slots := 0, locals := 67 }).room s m ([.ref (a 0)] : List Value).toArray below meth c s.heap [] 0 0 (MQ below (vp_Si (fun r => r = r0)) ([.ref (a 0)] : List Value).toArray s 0 0 (fun _ => False)) (F0 m 4 ls []) := by
    intro k
    induction k with
    | zero =>
      intro v1 v2 ls o1 h hl kk
      exact no_s h
    | succ k ih =>
      intro v1 v2 ls o1 h hl kk
      replace h : B_X2_twinPairs_4 N φ (L_X2_twinPairs_4 N φ k) v1 v2 = some o1 := h
      unfold B_X2_twinPairs_4 at h
      refine lv_iload_n hx hb dX2_twinPairs_4 rfl (lv_at hl 2 rfl) ?_
      refine lv_aload_n hx hb dX2_twinPairs_5 rfl (lv_at hl 0 rfl) ?_
      refine F_g0_8 hx hb hA hown aF_RX2_37 hK hP dX2_twinPairs_6 ?_
      refine k_X4_size S aM_RX2_62 ⟨Nat.le_of_ble_eq_true rfl, Nat.le_of_ble_eq_true rfl⟩ ⟨Nat.zero_le _, Nat.zero_le _⟩ hP hK hDT hl.1 (Nat.le_of_ble_eq_true rfl) dX2_twinPairs_9 (fun r1 er1 => ?_)
      replace h := olet_s er1 h
      refine lv_icmp_ge (tgt := 69) hx hb dX2_twinPairs_12 (by decide) (fun hc => ?_) (fun hc => ?_)
      · replace h := oi_t hc h
        obtain rfl := os1 h
        exact kk _ (lv_sub hl [1] rfl)
      · replace h := oi_f hc h
        refine lv_aload_n hx hb dX2_twinPairs_15 rfl (lv_at hl 0 rfl) ?_
        refine lv_aload_n hx hb dX2_twinPairs_16 rfl (lv_at hl 0 rfl) ?_
        refine F_g0_8 hx hb hA hown aF_RX2_37 hK hP dX2_twinPairs_17 ?_
        refine lv_iload_n hx hb dX2_twinPairs_20 rfl (lv_at hl 2 rfl) ?_
        obtain ⟨r2, h3, h⟩ := obd_e h
        refine k_X4_keyAt S aM_RX2_66 ⟨Nat.le_of_ble_eq_true rfl, Nat.le_of_ble_eq_true rfl⟩ ⟨Nat.zero_le _, Nat.zero_le _⟩ hP hK hDT h3 hl.1 (Nat.le_of_ble_eq_true rfl) dX2_twinPairs_21 ?_
        refine k_X2_newEntry S aM_RX2_150 ⟨Nat.le_of_ble_eq_true rfl, Nat.le_of_ble_eq_true rfl⟩ ⟨Nat.zero_le _, Nat.zero_le _⟩ hP hK hDT hl.1 (Nat.le_of_ble_eq_true rfl) dX2_twinPairs_24 (fun r4 er4 => ?_)
        replace h := olet_s er4 h
        refine lv_istore_n (lv' := [(3, .int r4), (0, .ref (a 0)), (1, .int v1), (2, .int v2)]) hx hb dX2_twinPairs_27 rfl hl (by decide) rfl (fun ls hl => ?_)
        refine lv_iconst (v := 0) hx hb dX2_twinPairs_28 (by decide) ?_
        refine lv_istore (lv' := [(4, .int 0), (3, .int r4), (0, .ref (a 0)), (1, .int v1), (2, .int v2)]) hx hb dX2_twinPairs_29 hl (by decide) rfl (fun ls hl => ?_)
        obtain ⟨y8, h9, h⟩ := obd_e h
        refine hL31 N _ _ _ _ _ _ h9 (lv_sub hl [2, 3, 4, 1, 0] rfl) (fun ls hl => ?_)
        refine lv_iinc (v := v2 + 1) (lv' := [(2, .int (v2 + 1)), (0, .ref (a 0)), (1, .int y8)]) hx hb dX2_twinPairs_63 hl (k := 2) rfl (fm_inc _ _ _ (by decide)) (by decide) rfl (fun ls hl => ?_)
        refine lv_goto (tgt := 4) hx hb dX2_twinPairs_66 (by decide) ?_
        exact ih _ _ _ _ h (lv_sub hl [1, 2, 0] rfl) kk
  have h := hF
  unfold G_X2_twinPairs at h
  refine lv_iconst (v := 0) hx hb dX2_twinPairs_0 (by decide) ?_
  refine lv_istore_n (lv' := [(1, .int 0), (0, .ref (a 0))]) hx hb dX2_twinPairs_1 rfl hl (by decide) rfl (fun ls hl => ?_)
  refine lv_iconst (v := 0) hx hb dX2_twinPairs_2 (by decide) ?_
  refine lv_istore_n (lv' := [(2, .int 0), (1, .int 0), (0, .ref (a 0))]) hx hb dX2_twinPairs_3 rfl hl (by decide) rfl (fun ls hl => ?_)
  obtain ⟨y10, h11, h⟩ := obd_e h
  refine hL4 N _ _ _ _ h11 (lv_sub hl [2, 1, 0] rfl) (fun ls hl => ?_)
  refine lv_iload_n hx hb dX2_twinPairs_69 rfl (lv_at hl 0 rfl) ?_
  obtain rfl := os1 h
  exact W.iret (v := y10) hx hb hr (fun t ht hW => ⟨_, rfl, rfl, ht⟩) (fun q hq => absurd hq List.not_mem_nil) dX2_twinPairs_70
theorem k_X2_twinPairs {p : Program} {l : Launch} {e : Env} {R : Room} {s : State} {m : MethodId} {args : Array Value} {below : List Frame} {meth : Method} {c : Code} {H : Heap} {locs : List Loc} {cells slots : Nat} {Q : State → Prop} {cc : ByteArray} {pc nL idx : Nat} {ls : Array Slot} {rest : List Value} {own : String} {D : va_G} {cI : ClassId} {a : Nat → Nat} {N : Nat} {φ : M2} {r0 : Int32} (S : CallFix p m c cc nL s args AW own) (h1 : Cond.methodLink own idx yX2_twinPairs ∈ AW) (hR : 3 + 1 ≤ R.frames ∧ 8 + (5 + 11) + 67 ≤ R.locals) (hc : cells ≤ R.cells ∧ slots ≤ R.slots) (hP : va_P D vwCl (fbW cI a φ) H) (hK : va_K D vwCl [(cI, .int)] s) (hDT : ∀ (φ2 : M2), va_D (fun _ => True) (fbW cI a φ2)) (hF : G_X2_twinPairs N φ = some r0) (hsz : ls.size = nL) (hW : (rest.map fun v => v.category).sum ≤ 8) (hdg : decode cc pc = .ok (.invokevirtual idx, 3)) (kk : W p l e R s m args below meth c H locs cells slots Q (F0 m (pc + 3) ls (.int r0 :: rest))) : W p l e R s m args below meth c H locs cells slots Q (F0 m pc ls (.ref (a 0) :: rest)) :=
  fm_runV (n := 0) (C := RX2) (As := []) S (c_X2_twinPairs l D cI a N φ r0 hF) (F_pre (q0 := 0) (ci := 0) hK hP (hDT _) rfl rfl) h1 aI_X2_twinPairs aV_X2_twinPairs aN_RX2 aC_X2_twinPairs rfl rfl (by decide +kernel) rfl hR hc hsz hW hdg (fun r hr => by subst hr; exact kk)
set_option maxHeartbeats 4000000 in
set_option maxRecDepth 100000 in
theorem c_X4_isFull (l : Launch) (D : va_G) (cI : ClassId) (a : Nat → Nat) (φ : M2) (r0 : Int32) (hF : G_X4_isFull φ = r0) : Met l yX4_isFull (wsA yX4_isFull cX4_isFull 1 (some .boolean)) { frames := 0, cells := 0, slots := 0, locals := 0 } (va_Pc [.ref (a 3)] (fbP D cI a φ)) (vp_Si (fun r => r = r0 ∧ (r = 0 ∨ r = 1))) 0 0 (fun _ => False) := by
  refine Met.ofW (cc := cX4_isFull) (maxL := 1) (ret := (some .boolean)) (by decide) rfl ?_
  intro p e s m args below meth c s₁ B hml hpre
  obtain ⟨rfl, hP, hK, hD0⟩ := hpre
  have hx := B.exec
  have hb := B.bytes
  have hr := B.returns
  have hA : ∀ w ∈ AW, w.before _ s = true := fun w h => atoms_spec (ws := wsA yX4_isFull cX4_isFull 1 (some .boolean)) B.pre w (List.mem_cons_of_mem _ h)
  have hown : s.vm.findClass RX4 = some m.cls := findClass_of_methodNamed B.named
  have hlocks := B.notSynchronized
  have hDT := F_dT hD0
  have S : CallFix p m c cX4_isFull 1 s ([.ref (a 3)] : List Value).toArray AW RX4 := ⟨hx, hb, hml, hown, hA⟩
  have hl := lv_entry ([.ref (a 3)]) (n := 1) (Nat.le_of_ble_eq_true rfl)
  rw [lg_entry_eq]
  generalize (lg_sl ([.ref (a 3)]) ++ List.replicate (1 - (lg_sl ([.ref (a 3)])).length) Slot.unset).toArray = ls at hl ⊢
  have hl : lv_has ls 1 [(0, .ref (a 3))] := hl
  have h := hF
  unfold G_X4_isFull at h
  refine lv_aload_n hx hb dX4_isFull_0 rfl (lv_at hl 0 rfl) ?_
  refine F_g3_1 hx hb hA hown aF_RX4_15 hK hP dX4_isFull_1 ?_
  refine lv_aload_n hx hb dX4_isFull_4 rfl (lv_at hl 0 rfl) ?_
  refine F_g3_0 hx hb hA hown aF_RX4_9 hK hP dX4_isFull_5 ?_
  refine F_ln4 hx hb hK hP dX4_isFull_8 ?_
  refine lv_icmp_lt (tgt := 16) hx hb dX4_isFull_9 (by decide) (fun hc => ?_) (fun hc => ?_)
  · replace h := oi_t hc h
    refine lv_iconst (v := 0) hx hb dX4_isFull_16 (by decide) ?_
    subst h
    exact W.zret (v := 0) (ty := .boolean) hx hb hr rfl (fun t ht hW => ⟨_, rfl, ⟨rfl, (Or.inl rfl)⟩, ht⟩) (fun q hq => absurd hq List.not_mem_nil) dX4_isFull_17
  · replace h := oi_f hc h
    refine lv_iconst (v := 1) hx hb dX4_isFull_12 (by decide) ?_
    refine lv_goto (tgt := 17) hx hb dX4_isFull_13 (by decide) ?_
    subst h
    exact W.zret (v := 1) (ty := .boolean) hx hb hr rfl (fun t ht hW => ⟨_, rfl, ⟨rfl, (Or.inr rfl)⟩, ht⟩) (fun q hq => absurd hq List.not_mem_nil) dX4_isFull_17
theorem k_X4_isFull {p : Program} {l : Launch} {e : Env} {R : Room} {s : State} {m : MethodId} {args : Array Value} {below : List Frame} {meth : Method} {c : Code} {H : Heap} {locs : List Loc} {cells slots : Nat} {Q : State → Prop} {cc : ByteArray} {pc nL idx : Nat} {ls : Array Slot} {rest : List Value} {own : String} {D : va_G} {cI : ClassId} {a : Nat → Nat} {φ : M2} (S : CallFix p m c cc nL s args AW own) (h1 : Cond.methodLink own idx yX4_isFull ∈ AW) (hR : 0 + 1 ≤ R.frames ∧ 8 + (1 + 11) + 0 ≤ R.locals) (hc : cells ≤ R.cells ∧ slots ≤ R.slots) (hP : va_P D vwCl (fbW cI a φ) H) (hK : va_K D vwCl [(cI, .int)] s) (hDT : ∀ (φ2 : M2), va_D (fun _ => True) (fbW cI a φ2)) (hsz : ls.size = nL) (hW : (rest.map fun v => v.category).sum ≤ 8) (hdg : decode cc pc = .ok (.invokevirtual idx, 3)) (kk : ∀ r : Int32, r = G_X4_isFull φ → (r = 0 ∨ r = 1) → W p l e R s m args below meth c H locs cells slots Q (F0 m (pc + 3) ls (.int r :: rest))) : W p l e R s m args below meth c H locs cells slots Q (F0 m pc ls (.ref (a 3) :: rest)) :=
  fm_runV (n := 0) (C := RX4) (As := []) S (c_X4_isFull l D cI a φ _ rfl) (F_pre (q0 := 3) (ci := 2) hK hP (hDT _) rfl rfl) h1 aI_X4_isFull aV_X4_isFull aN_RX4 aC_X4_isFull rfl rfl (by decide +kernel) rfl hR hc hsz hW hdg (fun r hr => kk r hr.1 hr.2)
set_option maxHeartbeats 4000000 in
set_option maxRecDepth 100000 in
theorem c_X7_restart (l : Launch) (D : va_G) (cI : ClassId) (a : Nat → Nat) (φ : M2) (φr : M2) (hF : G_X7_restart φ = some φr) : Met l yX7_restart (wsA yX7_restart cX7_restart 1 none) { frames := 0, cells := 0, slots := 0, locals := 0 } (va_Pc [.ref (a 5)] (fbP D cI a φ)) (va_Qv (fun (_ : Unit) => True) (fun _ t => va_P D vwCl (fbW cI a φr) t.heap) (fbA a)) 0 0 (fbA a) := by
  refine Met.ofW (cc := cX7_restart) (maxL := 1) (ret := none) (by decide) rfl ?_
  intro p e s m args below meth c s₁ B hml hpre
  obtain ⟨rfl, hP, hK, hD0⟩ := hpre
  have hx := B.exec
  have hb := B.bytes
  have hr := B.returns
  have hA : ∀ w ∈ AW, w.before _ s = true := fun w h => atoms_spec (ws := wsA yX7_restart cX7_restart 1 none) B.pre w (List.mem_cons_of_mem _ h)
  have hown : s.vm.findClass RX7 = some m.cls := findClass_of_methodNamed B.named
  have hlocks := B.notSynchronized
  have hDT := F_dT hD0
  have hDA := F_dA hD0
  have hS : va_S (fbA a) s.heap s.heap [] := va_S.rf
  have S : CallFix p m c cX7_restart 1 s ([.ref (a 5)] : List Value).toArray AW RX7 := ⟨hx, hb, hml, hown, hA⟩
  have hl := lv_entry ([.ref (a 5)]) (n := 1) (Nat.le_of_ble_eq_true rfl)
  rw [lg_entry_eq]
  generalize (lg_sl ([.ref (a 5)]) ++ List.replicate (1 - (lg_sl ([.ref (a 5)])).length) Slot.unset).toArray = ls at hl ⊢
  have hl : lv_has ls 1 [(0, .ref (a 5))] := hl
  have h := hF
  unfold G_X7_restart at h
  refine lv_aload_n hx hb dX7_restart_0 rfl (lv_at hl 0 rfl) ?_
  refine lv_iconst (v := 0) hx hb dX7_restart_1 (by decide) ?_
  refine F_p5_2 hx hb hA hown aF_RX7_18 hK hP (hDA _) hS dX7_restart_2 (fun w1 H locs ew1 hP hS => ?_)
  replace h := olet_s ew1 h
  obtain rfl := os1 h
  exact W.vret hx hb hr (fun t ht hW => ⟨⟨(), rfl, trivial, by show va_P _ _ _ t.heap; rw [ht]; exact hP⟩, hS.F ht⟩) hS.2.2 dX7_restart_5
theorem k_X7_restart {p : Program} {l : Launch} {e : Env} {R : Room} {s : State} {m : MethodId} {args : Array Value} {below : List Frame} {meth : Method} {c : Code} {H : Heap} {locs : List Loc} {cells slots : Nat} {Q : State → Prop} {cc : ByteArray} {pc nL idx : Nat} {ls : Array Slot} {rest : List Value} {own : String} {D : va_G} {cI : ClassId} {a : Nat → Nat} {H0 : Heap} {φ : M2} {φr : M2} (S : CallFix p m c cc nL s args AW own) (h1 : Cond.methodLink own idx yX7_restart ∈ AW) (hR : 0 + 1 ≤ R.frames ∧ 8 + (1 + 11) + 0 ≤ R.locals) (hc : cells ≤ R.cells ∧ slots ≤ R.slots) (hP : va_P D vwCl (fbW cI a φ) H) (hK : va_K D vwCl [(cI, .int)] s) (hDT : ∀ (φ2 : M2), va_D (fun _ => True) (fbW cI a φ2)) (hS : va_S (fbA a) H0 H locs) (hF : G_X7_restart φ = some φr) (hsz : ls.size = nL) (hW : (rest.map fun v => v.category).sum ≤ 8) (hdg : decode cc pc = .ok (.invokevirtual idx, 3)) (kk : ∀ (H1 : Heap) (locs1 : List Loc), va_P D vwCl (fbW cI a φr) H1 → va_S (fbA a) H0 H1 locs1 → W p l e R s m args below meth c H1 locs1 cells slots Q (F0 m (pc + 3) ls (rest))) : W p l e R s m args below meth c H locs cells slots Q (F0 m pc ls (.ref (a 5) :: rest)) :=
  fm_runVv (n := 0) (C := RX7) (As := []) S (c_X7_restart l D cI a φ φr hF) (F_pre (q0 := 5) (ci := 5) hK hP (hDT _) rfl rfl) hS h1 aI_X7_restart aV_X7_restart aN_RX7 aC_X7_restart rfl rfl (by decide +kernel) rfl hR hc hsz hW hdg (fun H1 locs1 hP1 hS1 => kk H1 locs1 hP1 hS1)
set_option maxHeartbeats 4000000 in
set_option maxRecDepth 100000 in
theorem c_X2_freePlace (l : Launch) (D : va_G) (cI : ClassId) (a : Nat → Nat) (N : Nat) (φ : M2) (p1 : Int32) (r0 : Int32) (hF : G_X2_freePlace N φ p1 = some r0) : Met l yX2_freePlace (wsA yX2_freePlace cX2_freePlace 4 (some .int)) { frames := 1, cells := 0, slots := 0, locals := 21 } (va_Pc [.ref (a 0), .int p1] (fbP D cI a φ)) (vp_Si (fun r => r = r0)) 0 0 (fun _ => False) := by
  refine Met.ofW (cc := cX2_freePlace) (maxL := 4) (ret := (some .int)) (by decide) rfl ?_
  intro p e s m args below meth c s₁ B hml hpre
  obtain ⟨rfl, hP, hK, hD0⟩ := hpre
  have hx := B.exec
  have hb := B.bytes
  have hr := B.returns
  have hA : ∀ w ∈ AW, w.before _ s = true := fun w h => atoms_spec (ws := wsA yX2_freePlace cX2_freePlace 4 (some .int)) B.pre w (List.mem_cons_of_mem _ h)
  have hown : s.vm.findClass RX2 = some m.cls := findClass_of_methodNamed B.named
  have hlocks := B.notSynchronized
  have hDT := F_dT hD0
  have S : CallFix p m c cX2_freePlace 4 s ([.ref (a 0), .int p1] : List Value).toArray AW RX2 := ⟨hx, hb, hml, hown, hA⟩
  have hl := lv_entry ([.ref (a 0), .int p1]) (n := 4) (Nat.le_of_ble_eq_true rfl)
  rw [lg_entry_eq]
  generalize (lg_sl ([.ref (a 0), .int p1]) ++ List.replicate (4 - (lg_sl ([.ref (a 0), .int p1])).length) Slot.unset).toArray = ls at hl ⊢
  have hl : lv_has ls 4 [(0, .ref (a 0)), (1, .int p1)] := hl
  have hL2 : ∀ (k : Nat) (v1 : Int32) (v2 : Int32) (ls : Array Slot) , L_X2_freePlace_2 N φ v1 k v2 = some r0 → lv_has ls 4 [(0, .ref (a 0)), (1, .int v1), (2, .int v2)] → W p l e (headSpec (wsA yX2_freePlace cX2_freePlace 4 (some .int)) { frames := 1, cells := 0, slots := 0, locals := 21 }).room s m ([.ref (a 0), .int p1] : List Value).toArray below meth c s.heap [] 0 0 (MQ below (vp_Si (fun r => r = r0)) ([.ref (a 0), .int p1] : List Value).toArray s 0 0 (fun _ => False)) (F0 m 2 ls []) := by
    intro k
    induction k with
    | zero =>
      intro v1 v2 ls h hl
      exact no_s h
    | succ k ih =>
      intro v1 v2 ls h hl
      replace h : B_X2_freePlace_2 N φ v1 (L_X2_freePlace_2 N φ v1 k) v2 = some r0 := h
      unfold B_X2_freePlace_2 at h
      refine lv_iload_n hx hb dX2_freePlace_2 rfl (lv_at hl 2 rfl) ?_
      refine lv_aload_n hx hb dX2_freePlace_3 rfl (lv_at hl 0 rfl) ?_
      refine F_g0_1 hx hb hA hown aF_RX2_15 hK hP dX2_freePlace_4 ?_
      refine lv_icmp_ge (tgt := 33) hx hb dX2_freePlace_7 (by decide) (fun hc => ?_) (fun hc => ?_)
      · replace h := oi_t hc h
        refine lv_iconst (v := (-1)) hx hb dX2_freePlace_33 (by decide) ?_
        obtain rfl := os1 h
        exact W.iret (v := (-1)) hx hb hr (fun t ht hW => ⟨_, rfl, rfl, ht⟩) (fun q hq => absurd hq List.not_mem_nil) dX2_freePlace_34
      · replace h := oi_f hc h
        refine lv_iload_n hx hb dX2_freePlace_10 rfl (lv_at hl 1 rfl) ?_
        refine lv_iload_n hx hb dX2_freePlace_11 rfl (lv_at hl 2 rfl) ?_
        refine k_X2_placeIn S aM_RX2_116 ⟨Nat.le_of_ble_eq_true rfl, Nat.le_of_ble_eq_true rfl⟩ ⟨Nat.zero_le _, Nat.zero_le _⟩ hl.1 (Nat.le_of_ble_eq_true rfl) dX2_freePlace_12 (fun r1 er1 => ?_)
        replace h := olet_s er1 h
        refine lv_istore_n (lv' := [(3, .int r1), (0, .ref (a 0)), (1, .int v1), (2, .int v2)]) hx hb dX2_freePlace_15 rfl hl (by decide) rfl (fun ls hl => ?_)
        refine lv_aload_n hx hb dX2_freePlace_16 rfl (lv_at hl 1 rfl) ?_
        refine lv_iload_n hx hb dX2_freePlace_17 rfl (lv_at hl 0 rfl) ?_
        obtain ⟨r2, h3, h⟩ := obd_e h
        refine k_X2_cellAt S aM_RX2_119 ⟨Nat.le_of_ble_eq_true rfl, Nat.le_of_ble_eq_true rfl⟩ ⟨Nat.zero_le _, Nat.zero_le _⟩ hP hK hDT h3 hl.1 (Nat.le_of_ble_eq_true rfl) dX2_freePlace_18 ?_
        refine lv_iconst (v := (-1)) hx hb dX2_freePlace_21 (by decide) ?_
        refine lv_icmp_ne (tgt := 27) hx hb dX2_freePlace_22 (by decide) (fun hc => ?_) (fun hc => ?_)
        · replace h := oi_f hc h
          refine lv_iinc (v := v2 + 1) (lv' := [(2, .int (v2 + 1)), (3, .int r1), (0, .ref (a 0)), (1, .int v1)]) hx hb dX2_freePlace_27 hl (k := 3) rfl (fm_inc _ _ _ (by decide)) (by decide) rfl (fun ls hl => ?_)
          refine lv_goto (tgt := 2) hx hb dX2_freePlace_30 (by decide) ?_
          exact ih _ _ _  h (lv_sub hl [2, 3, 0] rfl)
        · replace h := oi_t hc h
          refine lv_iload_n hx hb dX2_freePlace_25 rfl (lv_at hl 0 rfl) ?_
          obtain rfl := os1 h
          exact W.iret (v := r1) hx hb hr (fun t ht hW => ⟨_, rfl, rfl, ht⟩) (fun q hq => absurd hq List.not_mem_nil) dX2_freePlace_26
  have h := hF
  unfold G_X2_freePlace at h
  refine lv_iconst (v := 0) hx hb dX2_freePlace_0 (by decide) ?_
  refine lv_istore_n (lv' := [(2, .int 0), (0, .ref (a 0)), (1, .int p1)]) hx hb dX2_freePlace_1 rfl hl (by decide) rfl (fun ls hl => ?_)
  exact hL2 N _ _ _ h (lv_sub hl [1, 2, 0] rfl)
theorem k_X2_freePlace {p : Program} {l : Launch} {e : Env} {R : Room} {s : State} {m : MethodId} {args : Array Value} {below : List Frame} {meth : Method} {c : Code} {H : Heap} {locs : List Loc} {cells slots : Nat} {Q : State → Prop} {cc : ByteArray} {pc nL idx : Nat} {ls : Array Slot} {rest : List Value} {own : String} {D : va_G} {cI : ClassId} {a : Nat → Nat} {N : Nat} {φ : M2} {p1 : Int32} {r0 : Int32} (S : CallFix p m c cc nL s args AW own) (h1 : Cond.methodLink own idx yX2_freePlace ∈ AW) (hR : 1 + 1 ≤ R.frames ∧ 8 + (4 + 11) + 21 ≤ R.locals) (hc : cells ≤ R.cells ∧ slots ≤ R.slots) (hP : va_P D vwCl (fbW cI a φ) H) (hK : va_K D vwCl [(cI, .int)] s) (hDT : ∀ (φ2 : M2), va_D (fun _ => True) (fbW cI a φ2)) (hF : G_X2_freePlace N φ p1 = some r0) (hsz : ls.size = nL) (hW : (rest.map fun v => v.category).sum ≤ 8) (hdg : decode cc pc = .ok (.invokevirtual idx, 3)) (kk : W p l e R s m args below meth c H locs cells slots Q (F0 m (pc + 3) ls (.int r0 :: rest))) : W p l e R s m args below meth c H locs cells slots Q (F0 m pc ls (.int p1 :: .ref (a 0) :: rest)) :=
  fm_runV (n := 1) (C := RX2) (As := [.int p1]) S (c_X2_freePlace l D cI a N φ p1 r0 hF) (F_pre (q0 := 0) (ci := 0) hK hP (hDT _) rfl rfl) h1 aI_X2_freePlace aV_X2_freePlace aN_RX2 aC_X2_freePlace rfl rfl (by decide +kernel) rfl hR hc hsz hW hdg (fun r hr => by subst hr; exact kk)
set_option maxHeartbeats 4000000 in
set_option maxRecDepth 100000 in
theorem c_X2_settle (l : Launch) (D : va_G) (cI : ClassId) (a : Nat → Nat) (N : Nat) (φ : M2) (p1 : Int32) (r0 : Int32) (φr : M2) (hF : G_X2_settle N φ p1 = some (r0, φr)) : Met l yX2_settle (wsA yX2_settle cX2_settle 3 (some .boolean)) { frames := 2, cells := 0, slots := 0, locals := 44 } (va_Pc [.ref (a 0), .int p1] (fbP D cI a φ)) (va_Qi (fun (r : Int32) (_ : Unit) => r = r0 ∧ (r = 0 ∨ r = 1)) (fun _ t => va_P D vwCl (fbW cI a φr) t.heap) (fbA a)) 0 0 (fbA a) := by
  refine Met.ofW (cc := cX2_settle) (maxL := 3) (ret := (some .boolean)) (by decide) rfl ?_
  intro p e s m args below meth c s₁ B hml hpre
  obtain ⟨rfl, hP, hK, hD0⟩ := hpre
  have hx := B.exec
  have hb := B.bytes
  have hr := B.returns
  have hA : ∀ w ∈ AW, w.before _ s = true := fun w h => atoms_spec (ws := wsA yX2_settle cX2_settle 3 (some .boolean)) B.pre w (List.mem_cons_of_mem _ h)
  have hown : s.vm.findClass RX2 = some m.cls := findClass_of_methodNamed B.named
  have hlocks := B.notSynchronized
  have hDT := F_dT hD0
  have hDA := F_dA hD0
  have hS : va_S (fbA a) s.heap s.heap [] := va_S.rf
  have S : CallFix p m c cX2_settle 3 s ([.ref (a 0), .int p1] : List Value).toArray AW RX2 := ⟨hx, hb, hml, hown, hA⟩
  have hl := lv_entry ([.ref (a 0), .int p1]) (n := 3) (Nat.le_of_ble_eq_true rfl)
  rw [lg_entry_eq]
  generalize (lg_sl ([.ref (a 0), .int p1]) ++ List.replicate (3 - (lg_sl ([.ref (a 0), .int p1])).length) Slot.unset).toArray = ls at hl ⊢
  have hl : lv_has ls 3 [(0, .ref (a 0)), (1, .int p1)] := hl
  have h := hF
  unfold G_X2_settle at h
  refine lv_aload_n hx hb dX2_settle_0 rfl (lv_at hl 0 rfl) ?_
  refine lv_iload_n hx hb dX2_settle_1 rfl (lv_at hl 1 rfl) ?_
  refine k_X1_homeOf S aM_RX2_88 ⟨Nat.le_of_ble_eq_true rfl, Nat.le_of_ble_eq_true rfl⟩ ⟨Nat.zero_le _, Nat.zero_le _⟩ hl.1 (Nat.le_of_ble_eq_true rfl) dX2_settle_2 (fun r1 er1 => ?_)
  replace h := olet_s er1 h
  obtain ⟨r2, h3, h⟩ := obd_e h
  refine k_X2_freePlace S aM_RX2_213 ⟨Nat.le_of_ble_eq_true rfl, Nat.le_of_ble_eq_true rfl⟩ ⟨Nat.zero_le _, Nat.zero_le _⟩ hP hK hDT h3 hl.1 (Nat.le_of_ble_eq_true rfl) dX2_settle_5 ?_
  refine lv_istore_n (lv' := [(2, .int r2), (0, .ref (a 0)), (1, .int p1)]) hx hb dX2_settle_8 rfl hl (by decide) rfl (fun ls hl => ?_)
  refine lv_iload_n hx hb dX2_settle_9 rfl (lv_at hl 0 rfl) ?_
  refine lv_iconst (v := (-1)) hx hb dX2_settle_10 (by decide) ?_
  refine lv_icmp_ne (tgt := 24) hx hb dX2_settle_11 (by decide) (fun hc => ?_) (fun hc => ?_)
  · replace h := oi_f hc h
    refine lv_iload_n hx hb dX2_settle_24 rfl (lv_at hl 0 rfl) ?_
    refine lv_iconst (v := (-1)) hx hb dX2_settle_25 (by decide) ?_
    refine lv_icmp_ne (tgt := 31) hx hb dX2_settle_26 (by decide) (fun hc => ?_) (fun hc => ?_)
    · replace h := oi_f hc h
      refine lv_aload_n hx hb dX2_settle_31 rfl (lv_at hl 1 rfl) ?_
      refine lv_iload_n hx hb dX2_settle_32 rfl (lv_at hl 0 rfl) ?_
      refine lv_iload_n hx hb dX2_settle_33 rfl (lv_at hl 2 rfl) ?_
      obtain ⟨w4, h5, h⟩ := obd_e h
      refine k_X2_setCell S aM_RX2_131 ⟨Nat.le_of_ble_eq_true rfl, Nat.le_of_ble_eq_true rfl⟩ ⟨Nat.zero_le _, Nat.zero_le _⟩ hP hK hDT hS h5 hl.1 (Nat.le_of_ble_eq_true rfl) dX2_settle_34 (fun H locs hP hS => ?_)
      refine lv_iconst (v := 1) hx hb dX2_settle_37 (by decide) ?_
      obtain ⟨rfl, rfl⟩ := os2 h
      exact W.zret (v := 1) (ty := .boolean) hx hb hr rfl (fun t ht hW => ⟨⟨_, (), rfl, ⟨rfl, (Or.inr rfl)⟩, by show va_P _ _ _ t.heap; rw [ht]; exact hP⟩, hS.F ht⟩) hS.2.2 dX2_settle_38
    · replace h := oi_t hc h
      refine lv_iconst (v := 0) hx hb dX2_settle_29 (by decide) ?_
      obtain ⟨rfl, rfl⟩ := os2 h
      exact W.zret (v := 0) (ty := .boolean) hx hb hr rfl (fun t ht hW => ⟨⟨_, (), rfl, ⟨rfl, (Or.inl rfl)⟩, by show va_P _ _ _ t.heap; rw [ht]; exact hP⟩, hS.F ht⟩) hS.2.2 dX2_settle_30
  · replace h := oi_t hc h
    refine lv_aload_n hx hb dX2_settle_14 rfl (lv_at hl 1 rfl) ?_
    refine lv_aload_n hx hb dX2_settle_15 rfl (lv_at hl 1 rfl) ?_
    refine lv_iload_n hx hb dX2_settle_16 rfl (lv_at hl 2 rfl) ?_
    refine k_X2_otherOf S aM_RX2_204 ⟨Nat.le_of_ble_eq_true rfl, Nat.le_of_ble_eq_true rfl⟩ ⟨Nat.zero_le _, Nat.zero_le _⟩ hP hK hDT hl.1 (Nat.le_of_ble_eq_true rfl) dX2_settle_17 (fun r6 er6 => ?_)
    replace h := olet_s er6 h
    obtain ⟨r7, h8, h⟩ := obd_e h
    refine k_X2_freePlace S aM_RX2_213 ⟨Nat.le_of_ble_eq_true rfl, Nat.le_of_ble_eq_true rfl⟩ ⟨Nat.zero_le _, Nat.zero_le _⟩ hP hK hDT h8 hl.1 (Nat.le_of_ble_eq_true rfl) dX2_settle_20 ?_
    refine lv_istore_n (lv' := [(2, .int r7), (0, .ref (a 0)), (1, .int p1)]) hx hb dX2_settle_23 rfl hl (by decide) rfl (fun ls hl => ?_)
    refine lv_iload_n hx hb dX2_settle_24 rfl (lv_at hl 0 rfl) ?_
    refine lv_iconst (v := (-1)) hx hb dX2_settle_25 (by decide) ?_
    refine lv_icmp_ne (tgt := 31) hx hb dX2_settle_26 (by decide) (fun hc => ?_) (fun hc => ?_)
    · replace h := oi_f hc h
      refine lv_aload_n hx hb dX2_settle_31 rfl (lv_at hl 1 rfl) ?_
      refine lv_iload_n hx hb dX2_settle_32 rfl (lv_at hl 0 rfl) ?_
      refine lv_iload_n hx hb dX2_settle_33 rfl (lv_at hl 2 rfl) ?_
      obtain ⟨w9, h10, h⟩ := obd_e h
      refine k_X2_setCell S aM_RX2_131 ⟨Nat.le_of_ble_eq_true rfl, Nat.le_of_ble_eq_true rfl⟩ ⟨Nat.zero_le _, Nat.zero_le _⟩ hP hK hDT hS h10 hl.1 (Nat.le_of_ble_eq_true rfl) dX2_settle_34 (fun H locs hP hS => ?_)
      refine lv_iconst (v := 1) hx hb dX2_settle_37 (by decide) ?_
      obtain ⟨rfl, rfl⟩ := os2 h
      exact W.zret (v := 1) (ty := .boolean) hx hb hr rfl (fun t ht hW => ⟨⟨_, (), rfl, ⟨rfl, (Or.inr rfl)⟩, by show va_P _ _ _ t.heap; rw [ht]; exact hP⟩, hS.F ht⟩) hS.2.2 dX2_settle_38
    · replace h := oi_t hc h
      refine lv_iconst (v := 0) hx hb dX2_settle_29 (by decide) ?_
      obtain ⟨rfl, rfl⟩ := os2 h
      exact W.zret (v := 0) (ty := .boolean) hx hb hr rfl (fun t ht hW => ⟨⟨_, (), rfl, ⟨rfl, (Or.inl rfl)⟩, by show va_P _ _ _ t.heap; rw [ht]; exact hP⟩, hS.F ht⟩) hS.2.2 dX2_settle_30
theorem k_X2_settle {p : Program} {l : Launch} {e : Env} {R : Room} {s : State} {m : MethodId} {args : Array Value} {below : List Frame} {meth : Method} {c : Code} {H : Heap} {locs : List Loc} {cells slots : Nat} {Q : State → Prop} {cc : ByteArray} {pc nL idx : Nat} {ls : Array Slot} {rest : List Value} {own : String} {D : va_G} {cI : ClassId} {a : Nat → Nat} {H0 : Heap} {N : Nat} {φ : M2} {p1 : Int32} {r0 : Int32} {φr : M2} (S : CallFix p m c cc nL s args AW own) (h1 : Cond.methodLink own idx yX2_settle ∈ AW) (hR : 2 + 1 ≤ R.frames ∧ 8 + (3 + 11) + 44 ≤ R.locals) (hc : cells ≤ R.cells ∧ slots ≤ R.slots) (hP : va_P D vwCl (fbW cI a φ) H) (hK : va_K D vwCl [(cI, .int)] s) (hDT : ∀ (φ2 : M2), va_D (fun _ => True) (fbW cI a φ2)) (hS : va_S (fbA a) H0 H locs) (hF : G_X2_settle N φ p1 = some (r0, φr)) (hsz : ls.size = nL) (hW : (rest.map fun v => v.category).sum ≤ 8) (hdg : decode cc pc = .ok (.invokevirtual idx, 3)) (kk : (r0 = 0 ∨ r0 = 1) → ∀ (H1 : Heap) (locs1 : List Loc), va_P D vwCl (fbW cI a φr) H1 → va_S (fbA a) H0 H1 locs1 → W p l e R s m args below meth c H1 locs1 cells slots Q (F0 m (pc + 3) ls (.int r0 :: rest))) : W p l e R s m args below meth c H locs cells slots Q (F0 m pc ls (.int p1 :: .ref (a 0) :: rest)) :=
  fm_runVi (n := 1) (C := RX2) (As := [.int p1]) S (c_X2_settle l D cI a N φ p1 r0 φr hF) (F_pre (q0 := 0) (ci := 0) hK hP (hDT _) rfl rfl) hS h1 aI_X2_settle aV_X2_settle aN_RX2 aC_X2_settle rfl rfl (by decide +kernel) rfl hR hc hsz hW hdg (fun r H1 locs1 hr hP1 hS1 => by obtain ⟨rfl, hz⟩ := hr; exact kk hz H1 locs1 hP1 hS1)
set_option maxHeartbeats 4000000 in
set_option maxRecDepth 100000 in
theorem c_X7_note (l : Launch) (D : va_G) (cI : ClassId) (a : Nat → Nat) (φ : M2) (p1 : Int32) (p2 : Int32) (φr : M2) (hF : G_X7_note φ p1 p2 = some φr) : Met l yX7_note (wsA yX7_note cX7_note 3 none) { frames := 0, cells := 0, slots := 0, locals := 0 } (va_Pc [.ref (a 5), .int p1, .int p2] (fbP D cI a φ)) (va_Qv (fun (_ : Unit) => True) (fun _ t => va_P D vwCl (fbW cI a φr) t.heap) (fbA a)) 0 0 (fbA a) := by
  refine Met.ofW (cc := cX7_note) (maxL := 3) (ret := none) (by decide) rfl ?_
  intro p e s m args below meth c s₁ B hml hpre
  obtain ⟨rfl, hP, hK, hD0⟩ := hpre
  have hx := B.exec
  have hb := B.bytes
  have hr := B.returns
  have hA : ∀ w ∈ AW, w.before _ s = true := fun w h => atoms_spec (ws := wsA yX7_note cX7_note 3 none) B.pre w (List.mem_cons_of_mem _ h)
  have hown : s.vm.findClass RX7 = some m.cls := findClass_of_methodNamed B.named
  have hlocks := B.notSynchronized
  have hDT := F_dT hD0
  have hDA := F_dA hD0
  have hS : va_S (fbA a) s.heap s.heap [] := va_S.rf
  have S : CallFix p m c cX7_note 3 s ([.ref (a 5), .int p1, .int p2] : List Value).toArray AW RX7 := ⟨hx, hb, hml, hown, hA⟩
  have hl := lv_entry ([.ref (a 5), .int p1, .int p2]) (n := 3) (Nat.le_of_ble_eq_true rfl)
  rw [lg_entry_eq]
  generalize (lg_sl ([.ref (a 5), .int p1, .int p2]) ++ List.replicate (3 - (lg_sl ([.ref (a 5), .int p1, .int p2])).length) Slot.unset).toArray = ls at hl ⊢
  have hl : lv_has ls 3 [(0, .ref (a 5)), (1, .int p1), (2, .int p2)] := hl
  have h := hF
  unfold G_X7_note at h
  refine lv_aload_n hx hb dX7_note_0 rfl (lv_at hl 0 rfl) ?_
  refine F_g5_2 hx hb hA hown aF_RX7_18 hK hP dX7_note_1 ?_
  refine lv_if_lt (tgt := 61) hx hb dX7_note_4 (by decide) (fun hc => ?_) (fun hc => ?_)
  · replace h := oi_t hc h
    obtain rfl := os1 h
    exact W.vret hx hb hr (fun t ht hW => ⟨⟨(), rfl, trivial, by show va_P _ _ _ t.heap; rw [ht]; exact hP⟩, hS.F ht⟩) hS.2.2 dX7_note_61
  · replace h := oi_f hc h
    refine lv_aload_n hx hb dX7_note_7 rfl (lv_at hl 0 rfl) ?_
    refine F_g5_2 hx hb hA hown aF_RX7_18 hK hP dX7_note_8 ?_
    refine lv_aload_n hx hb dX7_note_11 rfl (lv_at hl 0 rfl) ?_
    refine F_g5_0 hx hb hA hown aF_RX7_9 hK hP dX7_note_12 ?_
    refine F_ln6 hx hb hK hP dX7_note_15 ?_
    refine lv_icmp_ge (tgt := 61) hx hb dX7_note_16 (by decide) (fun hc => ?_) (fun hc => ?_)
    · replace h := oi_t hc h
      obtain rfl := os1 h
      exact W.vret hx hb hr (fun t ht hW => ⟨⟨(), rfl, trivial, by show va_P _ _ _ t.heap; rw [ht]; exact hP⟩, hS.F ht⟩) hS.2.2 dX7_note_61
    · replace h := oi_f hc h
      refine lv_aload_n hx hb dX7_note_19 rfl (lv_at hl 0 rfl) ?_
      refine F_g5_2 hx hb hA hown aF_RX7_18 hK hP dX7_note_20 ?_
      refine lv_aload_n hx hb dX7_note_23 rfl (lv_at hl 0 rfl) ?_
      refine F_g5_1 hx hb hA hown aF_RX7_15 hK hP dX7_note_24 ?_
      refine F_ln7 hx hb hK hP dX7_note_27 ?_
      refine lv_icmp_ge (tgt := 61) hx hb dX7_note_28 (by decide) (fun hc => ?_) (fun hc => ?_)
      · replace h := oi_t hc h
        obtain rfl := os1 h
        exact W.vret hx hb hr (fun t ht hW => ⟨⟨(), rfl, trivial, by show va_P _ _ _ t.heap; rw [ht]; exact hP⟩, hS.F ht⟩) hS.2.2 dX7_note_61
      · replace h := oi_f hc h
        refine lv_aload_n hx hb dX7_note_31 rfl (lv_at hl 0 rfl) ?_
        refine F_g5_0 hx hb hA hown aF_RX7_9 hK hP dX7_note_32 ?_
        refine lv_aload_n hx hb dX7_note_35 rfl (lv_at hl 0 rfl) ?_
        refine F_g5_2 hx hb hA hown aF_RX7_18 hK hP dX7_note_36 ?_
        refine lv_iload_n hx hb dX7_note_39 rfl (lv_at hl 1 rfl) ?_
        obtain ⟨i1, h⟩ := oin_e h
        refine F_st6 hx hb hK hP (hDA _) hS i1 dX7_note_40 (fun w2 H locs ew2 hP hS => ?_)
        replace h := olet_s ew2 h
        refine lv_aload_n hx hb dX7_note_41 rfl (lv_at hl 0 rfl) ?_
        refine F_g5_1 hx hb hA hown aF_RX7_15 hK hP dX7_note_42 ?_
        refine lv_aload_n hx hb dX7_note_45 rfl (lv_at hl 0 rfl) ?_
        refine F_g5_2 hx hb hA hown aF_RX7_18 hK hP dX7_note_46 ?_
        refine lv_iload_n hx hb dX7_note_49 rfl (lv_at hl 2 rfl) ?_
        obtain ⟨i3, h⟩ := oin_e h
        refine F_st7 hx hb hK hP (hDA _) hS i3 dX7_note_50 (fun w4 H locs ew4 hP hS => ?_)
        replace h := olet_s ew4 h
        refine lv_aload_n hx hb dX7_note_51 rfl (lv_at hl 0 rfl) ?_
        refine lv_dup hx hb dX7_note_52 rfl ?_
        refine F_g5_2 hx hb hA hown aF_RX7_18 hK hP dX7_note_53 ?_
        refine lv_iconst (v := 1) hx hb dX7_note_56 (by decide) ?_
        refine lv_iadd hx hb dX7_note_57 ?_
        refine F_p5_2 hx hb hA hown aF_RX7_18 hK hP (hDA _) hS dX7_note_58 (fun w5 H locs ew5 hP hS => ?_)
        replace h := olet_s ew5 h
        obtain rfl := os1 h
        exact W.vret hx hb hr (fun t ht hW => ⟨⟨(), rfl, trivial, by show va_P _ _ _ t.heap; rw [ht]; exact hP⟩, hS.F ht⟩) hS.2.2 dX7_note_61
theorem k_X7_note {p : Program} {l : Launch} {e : Env} {R : Room} {s : State} {m : MethodId} {args : Array Value} {below : List Frame} {meth : Method} {c : Code} {H : Heap} {locs : List Loc} {cells slots : Nat} {Q : State → Prop} {cc : ByteArray} {pc nL idx : Nat} {ls : Array Slot} {rest : List Value} {own : String} {D : va_G} {cI : ClassId} {a : Nat → Nat} {H0 : Heap} {φ : M2} {p1 : Int32} {p2 : Int32} {φr : M2} (S : CallFix p m c cc nL s args AW own) (h1 : Cond.methodLink own idx yX7_note ∈ AW) (hR : 0 + 1 ≤ R.frames ∧ 8 + (3 + 11) + 0 ≤ R.locals) (hc : cells ≤ R.cells ∧ slots ≤ R.slots) (hP : va_P D vwCl (fbW cI a φ) H) (hK : va_K D vwCl [(cI, .int)] s) (hDT : ∀ (φ2 : M2), va_D (fun _ => True) (fbW cI a φ2)) (hS : va_S (fbA a) H0 H locs) (hF : G_X7_note φ p1 p2 = some φr) (hsz : ls.size = nL) (hW : (rest.map fun v => v.category).sum ≤ 8) (hdg : decode cc pc = .ok (.invokevirtual idx, 3)) (kk : ∀ (H1 : Heap) (locs1 : List Loc), va_P D vwCl (fbW cI a φr) H1 → va_S (fbA a) H0 H1 locs1 → W p l e R s m args below meth c H1 locs1 cells slots Q (F0 m (pc + 3) ls (rest))) : W p l e R s m args below meth c H locs cells slots Q (F0 m pc ls (.int p2 :: .int p1 :: .ref (a 5) :: rest)) :=
  fm_runVv (n := 2) (C := RX7) (As := [.int p1, .int p2]) S (c_X7_note l D cI a φ p1 p2 φr hF) (F_pre (q0 := 5) (ci := 5) hK hP (hDT _) rfl rfl) hS h1 aI_X7_note aV_X7_note aN_RX7 aC_X7_note rfl rfl (by decide +kernel) rfl hR hc hsz hW hdg (fun H1 locs1 hP1 hS1 => kk H1 locs1 hP1 hS1)
set_option maxHeartbeats 4000000 in
set_option maxRecDepth 100000 in
theorem c_X7_steps (l : Launch) (D : va_G) (cI : ClassId) (a : Nat → Nat) (φ : M2) (r0 : Int32) (hF : G_X7_steps φ = r0) : Met l yX7_steps (wsA yX7_steps cX7_steps 1 (some .int)) { frames := 0, cells := 0, slots := 0, locals := 0 } (va_Pc [.ref (a 5)] (fbP D cI a φ)) (vp_Si (fun r => r = r0)) 0 0 (fun _ => False) := by
  refine Met.ofW (cc := cX7_steps) (maxL := 1) (ret := (some .int)) (by decide) rfl ?_
  intro p e s m args below meth c s₁ B hml hpre
  obtain ⟨rfl, hP, hK, hD0⟩ := hpre
  have hx := B.exec
  have hb := B.bytes
  have hr := B.returns
  have hA : ∀ w ∈ AW, w.before _ s = true := fun w h => atoms_spec (ws := wsA yX7_steps cX7_steps 1 (some .int)) B.pre w (List.mem_cons_of_mem _ h)
  have hown : s.vm.findClass RX7 = some m.cls := findClass_of_methodNamed B.named
  have hlocks := B.notSynchronized
  have hDT := F_dT hD0
  have S : CallFix p m c cX7_steps 1 s ([.ref (a 5)] : List Value).toArray AW RX7 := ⟨hx, hb, hml, hown, hA⟩
  have hl := lv_entry ([.ref (a 5)]) (n := 1) (Nat.le_of_ble_eq_true rfl)
  rw [lg_entry_eq]
  generalize (lg_sl ([.ref (a 5)]) ++ List.replicate (1 - (lg_sl ([.ref (a 5)])).length) Slot.unset).toArray = ls at hl ⊢
  have hl : lv_has ls 1 [(0, .ref (a 5))] := hl
  have h := hF
  unfold G_X7_steps at h
  refine lv_aload_n hx hb dX7_steps_0 rfl (lv_at hl 0 rfl) ?_
  refine F_g5_2 hx hb hA hown aF_RX7_18 hK hP dX7_steps_1 ?_
  subst h
  exact W.iret (v := (φ 5 2)) hx hb hr (fun t ht hW => ⟨_, rfl, rfl, ht⟩) (fun q hq => absurd hq List.not_mem_nil) dX7_steps_4
theorem k_X7_steps {p : Program} {l : Launch} {e : Env} {R : Room} {s : State} {m : MethodId} {args : Array Value} {below : List Frame} {meth : Method} {c : Code} {H : Heap} {locs : List Loc} {cells slots : Nat} {Q : State → Prop} {cc : ByteArray} {pc nL idx : Nat} {ls : Array Slot} {rest : List Value} {own : String} {D : va_G} {cI : ClassId} {a : Nat → Nat} {φ : M2} (S : CallFix p m c cc nL s args AW own) (h1 : Cond.methodLink own idx yX7_steps ∈ AW) (hR : 0 + 1 ≤ R.frames ∧ 8 + (1 + 11) + 0 ≤ R.locals) (hc : cells ≤ R.cells ∧ slots ≤ R.slots) (hP : va_P D vwCl (fbW cI a φ) H) (hK : va_K D vwCl [(cI, .int)] s) (hDT : ∀ (φ2 : M2), va_D (fun _ => True) (fbW cI a φ2)) (hsz : ls.size = nL) (hW : (rest.map fun v => v.category).sum ≤ 8) (hdg : decode cc pc = .ok (.invokevirtual idx, 3)) (kk : ∀ r : Int32, r = G_X7_steps φ → W p l e R s m args below meth c H locs cells slots Q (F0 m (pc + 3) ls (.int r :: rest))) : W p l e R s m args below meth c H locs cells slots Q (F0 m pc ls (.ref (a 5) :: rest)) :=
  fm_runV (n := 0) (C := RX7) (As := []) S (c_X7_steps l D cI a φ _ rfl) (F_pre (q0 := 5) (ci := 5) hK hP (hDT _) rfl rfl) h1 aI_X7_steps aV_X7_steps aN_RX7 aC_X7_steps rfl rfl (by decide +kernel) rfl hR hc hsz hW hdg (fun r hr => kk r hr)
set_option maxHeartbeats 4000000 in
set_option maxRecDepth 100000 in
theorem c_X7_placeAt (l : Launch) (D : va_G) (cI : ClassId) (a : Nat → Nat) (φ : M2) (p1 : Int32) (r0 : Int32) (hF : G_X7_placeAt φ p1 = some r0) : Met l yX7_placeAt (wsA yX7_placeAt cX7_placeAt 2 (some .int)) { frames := 0, cells := 0, slots := 0, locals := 0 } (va_Pc [.ref (a 5), .int p1] (fbP D cI a φ)) (vp_Si (fun r => r = r0)) 0 0 (fun _ => False) := by
  refine Met.ofW (cc := cX7_placeAt) (maxL := 2) (ret := (some .int)) (by decide) rfl ?_
  intro p e s m args below meth c s₁ B hml hpre
  obtain ⟨rfl, hP, hK, hD0⟩ := hpre
  have hx := B.exec
  have hb := B.bytes
  have hr := B.returns
  have hA : ∀ w ∈ AW, w.before _ s = true := fun w h => atoms_spec (ws := wsA yX7_placeAt cX7_placeAt 2 (some .int)) B.pre w (List.mem_cons_of_mem _ h)
  have hown : s.vm.findClass RX7 = some m.cls := findClass_of_methodNamed B.named
  have hlocks := B.notSynchronized
  have hDT := F_dT hD0
  have S : CallFix p m c cX7_placeAt 2 s ([.ref (a 5), .int p1] : List Value).toArray AW RX7 := ⟨hx, hb, hml, hown, hA⟩
  have hl := lv_entry ([.ref (a 5), .int p1]) (n := 2) (Nat.le_of_ble_eq_true rfl)
  rw [lg_entry_eq]
  generalize (lg_sl ([.ref (a 5), .int p1]) ++ List.replicate (2 - (lg_sl ([.ref (a 5), .int p1])).length) Slot.unset).toArray = ls at hl ⊢
  have hl : lv_has ls 2 [(0, .ref (a 5)), (1, .int p1)] := hl
  have h := hF
  unfold G_X7_placeAt at h
  refine lv_iload_n hx hb dX7_placeAt_0 rfl (lv_at hl 1 rfl) ?_
  refine lv_if_lt (tgt := 30) hx hb dX7_placeAt_1 (by decide) (fun hc => ?_) (fun hc => ?_)
  · replace h := oi_t hc h
    refine lv_iconst (v := (-1)) hx hb dX7_placeAt_30 (by decide) ?_
    obtain rfl := os1 h
    exact W.iret (v := (-1)) hx hb hr (fun t ht hW => ⟨_, rfl, rfl, ht⟩) (fun q hq => absurd hq List.not_mem_nil) dX7_placeAt_31
  · replace h := oi_f hc h
    refine lv_iload_n hx hb dX7_placeAt_4 rfl (lv_at hl 1 rfl) ?_
    refine lv_aload_n hx hb dX7_placeAt_5 rfl (lv_at hl 0 rfl) ?_
    refine F_g5_2 hx hb hA hown aF_RX7_18 hK hP dX7_placeAt_6 ?_
    refine lv_icmp_ge (tgt := 30) hx hb dX7_placeAt_9 (by decide) (fun hc => ?_) (fun hc => ?_)
    · replace h := oi_t hc h
      refine lv_iconst (v := (-1)) hx hb dX7_placeAt_30 (by decide) ?_
      obtain rfl := os1 h
      exact W.iret (v := (-1)) hx hb hr (fun t ht hW => ⟨_, rfl, rfl, ht⟩) (fun q hq => absurd hq List.not_mem_nil) dX7_placeAt_31
    · replace h := oi_f hc h
      refine lv_iload_n hx hb dX7_placeAt_12 rfl (lv_at hl 1 rfl) ?_
      refine lv_aload_n hx hb dX7_placeAt_13 rfl (lv_at hl 0 rfl) ?_
      refine F_g5_0 hx hb hA hown aF_RX7_9 hK hP dX7_placeAt_14 ?_
      refine F_ln6 hx hb hK hP dX7_placeAt_17 ?_
      refine lv_icmp_ge (tgt := 30) hx hb dX7_placeAt_18 (by decide) (fun hc => ?_) (fun hc => ?_)
      · replace h := oi_t hc h
        refine lv_iconst (v := (-1)) hx hb dX7_placeAt_30 (by decide) ?_
        obtain rfl := os1 h
        exact W.iret (v := (-1)) hx hb hr (fun t ht hW => ⟨_, rfl, rfl, ht⟩) (fun q hq => absurd hq List.not_mem_nil) dX7_placeAt_31
      · replace h := oi_f hc h
        refine lv_aload_n hx hb dX7_placeAt_21 rfl (lv_at hl 0 rfl) ?_
        refine F_g5_0 hx hb hA hown aF_RX7_9 hK hP dX7_placeAt_22 ?_
        refine lv_iload_n hx hb dX7_placeAt_25 rfl (lv_at hl 1 rfl) ?_
        obtain ⟨i1, h⟩ := oin_e h
        refine F_ld6 hx hb hK hP i1 dX7_placeAt_26 ?_
        refine lv_goto (tgt := 31) hx hb dX7_placeAt_27 (by decide) ?_
        obtain rfl := os1 h
        exact W.iret (v := (φ 6 p1.toNatClampNeg)) hx hb hr (fun t ht hW => ⟨_, rfl, rfl, ht⟩) (fun q hq => absurd hq List.not_mem_nil) dX7_placeAt_31
theorem k_X7_placeAt {p : Program} {l : Launch} {e : Env} {R : Room} {s : State} {m : MethodId} {args : Array Value} {below : List Frame} {meth : Method} {c : Code} {H : Heap} {locs : List Loc} {cells slots : Nat} {Q : State → Prop} {cc : ByteArray} {pc nL idx : Nat} {ls : Array Slot} {rest : List Value} {own : String} {D : va_G} {cI : ClassId} {a : Nat → Nat} {φ : M2} {p1 : Int32} {r0 : Int32} (S : CallFix p m c cc nL s args AW own) (h1 : Cond.methodLink own idx yX7_placeAt ∈ AW) (hR : 0 + 1 ≤ R.frames ∧ 8 + (2 + 11) + 0 ≤ R.locals) (hc : cells ≤ R.cells ∧ slots ≤ R.slots) (hP : va_P D vwCl (fbW cI a φ) H) (hK : va_K D vwCl [(cI, .int)] s) (hDT : ∀ (φ2 : M2), va_D (fun _ => True) (fbW cI a φ2)) (hF : G_X7_placeAt φ p1 = some r0) (hsz : ls.size = nL) (hW : (rest.map fun v => v.category).sum ≤ 8) (hdg : decode cc pc = .ok (.invokevirtual idx, 3)) (kk : W p l e R s m args below meth c H locs cells slots Q (F0 m (pc + 3) ls (.int r0 :: rest))) : W p l e R s m args below meth c H locs cells slots Q (F0 m pc ls (.int p1 :: .ref (a 5) :: rest)) :=
  fm_runV (n := 1) (C := RX7) (As := [.int p1]) S (c_X7_placeAt l D cI a φ p1 r0 hF) (F_pre (q0 := 5) (ci := 5) hK hP (hDT _) rfl rfl) h1 aI_X7_placeAt aV_X7_placeAt aN_RX7 aC_X7_placeAt rfl rfl (by decide +kernel) rfl hR hc hsz hW hdg (fun r hr => by subst hr; exact kk)
set_option maxHeartbeats 4000000 in
set_option maxRecDepth 100000 in
theorem c_X2_walkBack (l : Launch) (D : va_G) (cI : ClassId) (a : Nat → Nat) (N : Nat) (φ : M2) (p1 : Int32) (φr : M2) (hF : G_X2_walkBack N φ p1 = some φr) : Met l yX2_walkBack (wsA yX2_walkBack cX2_walkBack 6 none) { frames := 1, cells := 0, slots := 0, locals := 22 } (va_Pc [.ref (a 0), .int p1] (fbP D cI a φ)) (va_Qv (fun (_ : Unit) => True) (fun _ t => va_P D vwCl (fbW cI a φr) t.heap) (fbA a)) 0 0 (fbA a) := by
  refine Met.ofW (cc := cX2_walkBack) (maxL := 6) (ret := none) (by decide) rfl ?_
  intro p e s m args below meth c s₁ B hml hpre
  obtain ⟨rfl, hP, hK, hD0⟩ := hpre
  have hx := B.exec
  have hb := B.bytes
  have hr := B.returns
  have hA : ∀ w ∈ AW, w.before _ s = true := fun w h => atoms_spec (ws := wsA yX2_walkBack cX2_walkBack 6 none) B.pre w (List.mem_cons_of_mem _ h)
  have hown : s.vm.findClass RX2 = some m.cls := findClass_of_methodNamed B.named
  have hlocks := B.notSynchronized
  have hDT := F_dT hD0
  have hDA := F_dA hD0
  have hS : va_S (fbA a) s.heap s.heap [] := va_S.rf
  have S : CallFix p m c cX2_walkBack 6 s ([.ref (a 0), .int p1] : List Value).toArray AW RX2 := ⟨hx, hb, hml, hown, hA⟩
  have hl := lv_entry ([.ref (a 0), .int p1]) (n := 6) (Nat.le_of_ble_eq_true rfl)
  rw [lg_entry_eq]
  generalize (lg_sl ([.ref (a 0), .int p1]) ++ List.replicate (6 - (lg_sl ([.ref (a 0), .int p1])).length) Slot.unset).toArray = ls at hl ⊢
  have hl : lv_has ls 6 [(0, .ref (a 0)), (1, .int p1)] := hl
  have hL12 : ∀ (k : Nat) (v2 : Int32) (v3 : Int32) (φ : M2) (H : Heap) (locs : List Loc) (ls : Array Slot) (φo : M2), L_X2_walkBack_12 N k v2 v3 φ = some φo → va_P D vwCl (fbW cI a φ) H → va_S (fbA a) s.heap H locs → lv_has ls 6 [(0, .ref (a 0)), (2, .int v2), (3, .int v3)] → (∀ (H1 : Heap) (locs1 : List Loc) (ls1 : Array Slot), va_P D vwCl (fbW cI a φo) H1 → va_S (fbA a) s.heap H1 locs1 → lv_has ls1 6 [] → W p l e (headSpec (wsA yX2_walkBack cX2_walkBack 6 none) { frames := 1, cells := 0, slots := 0, locals := 22 }).room s m ([.ref (a 0), .int p1] : List Value).toArray below meth c H1 locs1 0 0 (MQ below (va_Qv (fun (_ : Unit) => True) (fun _ t => va_P D vwCl (fbW cI a φr) t.heap) (fbA a)) ([.ref (a 0), .int p1] : List Value).toArray s 0 0 (fbA a)) (F0 m 50 ls1 [])) → W p l e (headSpec (wsA yX2_walkBack cX2_walkBack 6 none) { frames := 1, cells := 0, slots := 0, locals := 22 }).room s m ([.ref (a 0), .int p1] : List Value).toArray below meth c H locs 0 0 (MQ below (va_Qv (fun (_ : Unit) => True) (fun _ t => va_P D vwCl (fbW cI a φr) t.heap) (fbA a)) ([.ref (a 0), .int p1] : List Value).toArray s 0 0 (fbA a)) (F0 m 12 ls []) := by
    intro k
    induction k with
    | zero =>
      intro v2 v3 φ H locs ls φo h hP hS hl kk
      exact no_s h
    | succ k ih =>
      intro v2 v3 φ H locs ls φo h hP hS hl kk
      replace h : B_X2_walkBack_12 N (L_X2_walkBack_12 N k) v2 v3 φ = some φo := h
      unfold B_X2_walkBack_12 at h
      refine lv_iload_n hx hb dX2_walkBack_12 rfl (lv_at hl 2 rfl) ?_
      refine lv_if_lt (tgt := 50) hx hb dX2_walkBack_13 (by decide) (fun hc => ?_) (fun hc => ?_)
      · replace h := oi_t hc h
        obtain rfl := os1 h
        exact kk _ _ _ hP hS (lv_sub hl [] rfl)
      · replace h := oi_f hc h
        refine lv_aload_n hx hb dX2_walkBack_16 rfl (lv_at hl 0 rfl) ?_
        refine F_g0_9 hx hb hA hown aF_RX2_44 hK hP dX2_walkBack_17 ?_
        refine lv_iload_n hx hb dX2_walkBack_20 rfl (lv_at hl 2 rfl) ?_
        obtain ⟨r3, h4, h⟩ := obd_e h
        refine k_X7_placeAt S aM_RX2_225 ⟨Nat.le_of_ble_eq_true rfl, Nat.le_of_ble_eq_true rfl⟩ ⟨Nat.zero_le _, Nat.zero_le _⟩ hP hK hDT h4 hl.1 (Nat.le_of_ble_eq_true rfl) dX2_walkBack_21 ?_
        refine lv_istore (lv' := [(4, .int r3), (0, .ref (a 0)), (2, .int v2), (3, .int v3)]) hx hb dX2_walkBack_24 hl (by decide) rfl (fun ls hl => ?_)
        refine lv_aload_n hx hb dX2_walkBack_26 rfl (lv_at hl 1 rfl) ?_
        refine lv_iload hx hb dX2_walkBack_27 (lv_at hl 0 rfl) ?_
        obtain ⟨r5, h6, h⟩ := obd_e h
        refine k_X2_cellAt S aM_RX2_119 ⟨Nat.le_of_ble_eq_true rfl, Nat.le_of_ble_eq_true rfl⟩ ⟨Nat.zero_le _, Nat.zero_le _⟩ hP hK hDT h6 hl.1 (Nat.le_of_ble_eq_true rfl) dX2_walkBack_29 ?_
        refine lv_istore (lv' := [(5, .int r5), (4, .int r3), (0, .ref (a 0)), (2, .int v2), (3, .int v3)]) hx hb dX2_walkBack_32 hl (by decide) rfl (fun ls hl => ?_)
        refine lv_aload_n hx hb dX2_walkBack_34 rfl (lv_at hl 2 rfl) ?_
        refine lv_iload hx hb dX2_walkBack_35 (lv_at hl 1 rfl) ?_
        refine lv_iload_n hx hb dX2_walkBack_37 rfl (lv_at hl 3 rfl) ?_
        obtain ⟨w7, h8, h⟩ := obd_e h
        refine k_X2_setCell S aM_RX2_131 ⟨Nat.le_of_ble_eq_true rfl, Nat.le_of_ble_eq_true rfl⟩ ⟨Nat.zero_le _, Nat.zero_le _⟩ hP hK hDT hS h8 hl.1 (Nat.le_of_ble_eq_true rfl) dX2_walkBack_38 (fun H locs hP hS => ?_)
        refine lv_iload hx hb dX2_walkBack_41 (lv_at hl 0 rfl) ?_
        refine lv_istore_n (lv' := [(2, .int r5), (5, .int r5), (4, .int r3), (0, .ref (a 0)), (3, .int v3)]) hx hb dX2_walkBack_43 rfl hl (by decide) rfl (fun ls hl => ?_)
        refine lv_iinc (v := v3 + (-1)) (lv' := [(3, .int (v3 + (-1))), (2, .int r5), (5, .int r5), (4, .int r3), (0, .ref (a 0))]) hx hb dX2_walkBack_44 hl (k := 4) rfl (fm_inc _ _ _ (by decide)) (by decide) rfl (fun ls hl => ?_)
        refine lv_goto (tgt := 12) hx hb dX2_walkBack_47 (by decide) ?_
        exact ih _ _ _ _ _ _ _ h hP hS (lv_sub hl [4, 1, 0] rfl) kk
  have h := hF
  unfold G_X2_walkBack at h
  refine lv_iload_n hx hb dX2_walkBack_0 rfl (lv_at hl 1 rfl) ?_
  refine lv_istore_n (lv' := [(2, .int p1), (0, .ref (a 0)), (1, .int p1)]) hx hb dX2_walkBack_1 rfl hl (by decide) rfl (fun ls hl => ?_)
  refine lv_aload_n hx hb dX2_walkBack_2 rfl (lv_at hl 1 rfl) ?_
  refine F_g0_9 hx hb hA hown aF_RX2_44 hK hP dX2_walkBack_3 ?_
  refine k_X7_steps S aM_RX2_222 ⟨Nat.le_of_ble_eq_true rfl, Nat.le_of_ble_eq_true rfl⟩ ⟨Nat.zero_le _, Nat.zero_le _⟩ hP hK hDT hl.1 (Nat.le_of_ble_eq_true rfl) dX2_walkBack_6 (fun r1 er1 => ?_)
  replace h := olet_s er1 h
  refine lv_iconst (v := 1) hx hb dX2_walkBack_9 (by decide) ?_
  refine lv_isub hx hb dX2_walkBack_10 ?_
  refine lv_topi (fun x2 ex2 => ?_)
  replace h := olet_s ex2 h
  refine lv_istore_n (lv' := [(3, .int x2), (2, .int p1), (0, .ref (a 0)), (1, .int p1)]) hx hb dX2_walkBack_11 rfl hl (by decide) rfl (fun ls hl => ?_)
  obtain ⟨w9, h10, h⟩ := obd_e h
  refine hL12 N _ _ _ _ _ _ _ h10 hP hS (lv_sub hl [2, 1, 0] rfl) (fun H locs ls hP hS hl => ?_)
  obtain rfl := os1 h
  exact W.vret hx hb hr (fun t ht hW => ⟨⟨(), rfl, trivial, by show va_P _ _ _ t.heap; rw [ht]; exact hP⟩, hS.F ht⟩) hS.2.2 dX2_walkBack_50
theorem k_X2_walkBack {p : Program} {l : Launch} {e : Env} {R : Room} {s : State} {m : MethodId} {args : Array Value} {below : List Frame} {meth : Method} {c : Code} {H : Heap} {locs : List Loc} {cells slots : Nat} {Q : State → Prop} {cc : ByteArray} {pc nL idx : Nat} {ls : Array Slot} {rest : List Value} {own : String} {D : va_G} {cI : ClassId} {a : Nat → Nat} {H0 : Heap} {N : Nat} {φ : M2} {p1 : Int32} {φr : M2} (S : CallFix p m c cc nL s args AW own) (h1 : Cond.methodLink own idx yX2_walkBack ∈ AW) (hR : 1 + 1 ≤ R.frames ∧ 8 + (6 + 11) + 22 ≤ R.locals) (hc : cells ≤ R.cells ∧ slots ≤ R.slots) (hP : va_P D vwCl (fbW cI a φ) H) (hK : va_K D vwCl [(cI, .int)] s) (hDT : ∀ (φ2 : M2), va_D (fun _ => True) (fbW cI a φ2)) (hS : va_S (fbA a) H0 H locs) (hF : G_X2_walkBack N φ p1 = some φr) (hsz : ls.size = nL) (hW : (rest.map fun v => v.category).sum ≤ 8) (hdg : decode cc pc = .ok (.invokevirtual idx, 3)) (kk : ∀ (H1 : Heap) (locs1 : List Loc), va_P D vwCl (fbW cI a φr) H1 → va_S (fbA a) H0 H1 locs1 → W p l e R s m args below meth c H1 locs1 cells slots Q (F0 m (pc + 3) ls (rest))) : W p l e R s m args below meth c H locs cells slots Q (F0 m pc ls (.int p1 :: .ref (a 0) :: rest)) :=
  fm_runVv (n := 1) (C := RX2) (As := [.int p1]) S (c_X2_walkBack l D cI a N φ p1 φr hF) (F_pre (q0 := 0) (ci := 0) hK hP (hDT _) rfl rfl) hS h1 aI_X2_walkBack aV_X2_walkBack aN_RX2 aC_X2_walkBack rfl rfl (by decide +kernel) rfl hR hc hsz hW hdg (fun H1 locs1 hP1 hS1 => kk H1 locs1 hP1 hS1)
set_option maxHeartbeats 4000000 in
set_option maxRecDepth 100000 in
theorem c_X2_wander (l : Launch) (D : va_G) (cI : ClassId) (a : Nat → Nat) (N : Nat) (φ : M2) (p1 : Int32) (r0 : Int32) (φr : M2) (hF : G_X2_wander N φ p1 = some (r0, φr)) : Met l yX2_wander (wsA yX2_wander cX2_wander 9 (some .int)) { frames := 2, cells := 0, slots := 0, locals := 47 } (va_Pc [.ref (a 0), .int p1] (fbP D cI a φ)) (va_Qi (fun (r : Int32) (_ : Unit) => r = r0) (fun _ t => va_P D vwCl (fbW cI a φr) t.heap) (fbA a)) 0 0 (fbA a) := by
  refine Met.ofW (cc := cX2_wander) (maxL := 9) (ret := (some .int)) (by decide) rfl ?_
  intro p e s m args below meth c s₁ B hml hpre
  obtain ⟨rfl, hP, hK, hD0⟩ := hpre
  have hx := B.exec
  have hb := B.bytes
  have hr := B.returns
  have hA : ∀ w ∈ AW, w.before _ s = true := fun w h => atoms_spec (ws := wsA yX2_wander cX2_wander 9 (some .int)) B.pre w (List.mem_cons_of_mem _ h)
  have hown : s.vm.findClass RX2 = some m.cls := findClass_of_methodNamed B.named
  have hlocks := B.notSynchronized
  have hDT := F_dT hD0
  have hDA := F_dA hD0
  have hS : va_S (fbA a) s.heap s.heap [] := va_S.rf
  have S : CallFix p m c cX2_wander 9 s ([.ref (a 0), .int p1] : List Value).toArray AW RX2 := ⟨hx, hb, hml, hown, hA⟩
  have hl := lv_entry ([.ref (a 0), .int p1]) (n := 9) (Nat.le_of_ble_eq_true rfl)
  rw [lg_entry_eq]
  generalize (lg_sl ([.ref (a 0), .int p1]) ++ List.replicate (9 - (lg_sl ([.ref (a 0), .int p1])).length) Slot.unset).toArray = ls at hl ⊢
  have hl : lv_has ls 9 [(0, .ref (a 0)), (1, .int p1)] := hl
  have hL13 : ∀ (k : Nat) (v2 : Int32) (v3 : Int32) (v4 : Int32) (v5 : Int32) (φ : M2) (H : Heap) (locs : List Loc) (ls : Array Slot) , L_X2_wander_13 N k v2 v3 v4 v5 φ = some (r0, φr) → va_P D vwCl (fbW cI a φ) H → va_S (fbA a) s.heap H locs → lv_has ls 9 [(0, .ref (a 0)), (2, .int v2), (3, .int v3), (4, .int v4), (5, .int v5)] → W p l e (headSpec (wsA yX2_wander cX2_wander 9 (some .int)) { frames := 2, cells := 0, slots := 0, locals := 47 }).room s m ([.ref (a 0), .int p1] : List Value).toArray below meth c H locs 0 0 (MQ below (va_Qi (fun (r : Int32) (_ : Unit) => r = r0) (fun _ t => va_P D vwCl (fbW cI a φr) t.heap) (fbA a)) ([.ref (a 0), .int p1] : List Value).toArray s 0 0 (fbA a)) (F0 m 13 ls []) := by
    intro k
    induction k with
    | zero =>
      intro v2 v3 v4 v5 φ H locs ls h hP hS hl
      exact no_s h
    | succ k ih =>
      intro v2 v3 v4 v5 φ H locs ls h hP hS hl
      replace h : B_X2_wander_13 N (L_X2_wander_13 N k) v2 v3 v4 v5 φ = some (r0, φr) := h
      unfold B_X2_wander_13 at h
      refine lv_iload hx hb dX2_wander_13 (lv_at hl 4 rfl) ?_
      refine lv_aload_n hx hb dX2_wander_15 rfl (lv_at hl 0 rfl) ?_
      refine F_g0_4 hx hb hA hown aF_RX2_24 hK hP dX2_wander_16 ?_
      refine lv_icmp_ge (tgt := 134) hx hb dX2_wander_19 (by decide) (fun hc => ?_) (fun hc => ?_)
      · replace h := oi_t hc h
        refine lv_aload_n hx hb dX2_wander_134 rfl (lv_at hl 0 rfl) ?_
        refine lv_iload_n hx hb dX2_wander_135 rfl (lv_at hl 1 rfl) ?_
        obtain ⟨w2, h3, h⟩ := obd_e h
        refine k_X2_walkBack S aM_RX2_219 ⟨Nat.le_of_ble_eq_true rfl, Nat.le_of_ble_eq_true rfl⟩ ⟨Nat.zero_le _, Nat.zero_le _⟩ hP hK hDT hS h3 hl.1 (Nat.le_of_ble_eq_true rfl) dX2_wander_136 (fun H locs hP hS => ?_)
        refine lv_iconst (v := (-1)) hx hb dX2_wander_139 (by decide) ?_
        obtain ⟨rfl, rfl⟩ := os2 h
        exact W.iret (v := (-1)) hx hb hr (fun t ht hW => ⟨⟨_, (), rfl, rfl, by show va_P _ _ _ t.heap; rw [ht]; exact hP⟩, hS.F ht⟩) hS.2.2 dX2_wander_140
      · replace h := oi_f hc h
        refine lv_iload hx hb dX2_wander_22 (lv_at hl 4 rfl) ?_
        refine lv_bipush (v := 50) hx hb dX2_wander_24 (by decide) ?_
        refine lv_icmp_ge (tgt := 134) hx hb dX2_wander_26 (by decide) (fun hc => ?_) (fun hc => ?_)
        · replace h := oi_t hc h
          refine lv_aload_n hx hb dX2_wander_134 rfl (lv_at hl 0 rfl) ?_
          refine lv_iload_n hx hb dX2_wander_135 rfl (lv_at hl 1 rfl) ?_
          obtain ⟨w4, h5, h⟩ := obd_e h
          refine k_X2_walkBack S aM_RX2_219 ⟨Nat.le_of_ble_eq_true rfl, Nat.le_of_ble_eq_true rfl⟩ ⟨Nat.zero_le _, Nat.zero_le _⟩ hP hK hDT hS h5 hl.1 (Nat.le_of_ble_eq_true rfl) dX2_wander_136 (fun H locs hP hS => ?_)
          refine lv_iconst (v := (-1)) hx hb dX2_wander_139 (by decide) ?_
          obtain ⟨rfl, rfl⟩ := os2 h
          exact W.iret (v := (-1)) hx hb hr (fun t ht hW => ⟨⟨_, (), rfl, rfl, by show va_P _ _ _ t.heap; rw [ht]; exact hP⟩, hS.F ht⟩) hS.2.2 dX2_wander_140
        · replace h := oi_f hc h
          refine lv_iload_n hx hb dX2_wander_29 rfl (lv_at hl 2 rfl) ?_
          refine lv_iload hx hb dX2_wander_30 (lv_at hl 3 rfl) ?_
          refine k_X2_placeIn S aM_RX2_116 ⟨Nat.le_of_ble_eq_true rfl, Nat.le_of_ble_eq_true rfl⟩ ⟨Nat.zero_le _, Nat.zero_le _⟩ hl.1 (Nat.le_of_ble_eq_true rfl) dX2_wander_32 (fun r6 er6 => ?_)
          replace h := olet_s er6 h
          refine lv_istore (lv' := [(6, .int r6), (0, .ref (a 0)), (2, .int v2), (3, .int v3), (4, .int v4), (5, .int v5)]) hx hb dX2_wander_35 hl (by decide) rfl (fun ls hl => ?_)
          refine lv_aload_n hx hb dX2_wander_37 rfl (lv_at hl 1 rfl) ?_
          refine lv_iload hx hb dX2_wander_38 (lv_at hl 0 rfl) ?_
          obtain ⟨r7, h8, h⟩ := obd_e h
          refine k_X2_cellAt S aM_RX2_119 ⟨Nat.le_of_ble_eq_true rfl, Nat.le_of_ble_eq_true rfl⟩ ⟨Nat.zero_le _, Nat.zero_le _⟩ hP hK hDT h8 hl.1 (Nat.le_of_ble_eq_true rfl) dX2_wander_40 ?_
          refine lv_istore (lv' := [(7, .int r7), (6, .int r6), (0, .ref (a 0)), (2, .int v2), (3, .int v3), (4, .int v4), (5, .int v5)]) hx hb dX2_wander_43 hl (by decide) rfl (fun ls hl => ?_)
          refine lv_aload_n hx hb dX2_wander_45 rfl (lv_at hl 2 rfl) ?_
          refine lv_iload hx hb dX2_wander_46 (lv_at hl 1 rfl) ?_
          refine lv_iload_n hx hb dX2_wander_48 rfl (lv_at hl 3 rfl) ?_
          obtain ⟨w9, h10, h⟩ := obd_e h
          refine k_X2_setCell S aM_RX2_131 ⟨Nat.le_of_ble_eq_true rfl, Nat.le_of_ble_eq_true rfl⟩ ⟨Nat.zero_le _, Nat.zero_le _⟩ hP hK hDT hS h10 hl.1 (Nat.le_of_ble_eq_true rfl) dX2_wander_49 (fun H locs hP hS => ?_)
          refine lv_aload_n hx hb dX2_wander_52 rfl (lv_at hl 2 rfl) ?_
          refine F_g0_9 hx hb hA hown aF_RX2_44 hK hP dX2_wander_53 ?_
          refine lv_iload hx hb dX2_wander_56 (lv_at hl 1 rfl) ?_
          refine lv_iload hx hb dX2_wander_58 (lv_at hl 0 rfl) ?_
          refine k_X1_tagOf S aM_RX2_91 ⟨Nat.le_of_ble_eq_true rfl, Nat.le_of_ble_eq_true rfl⟩ ⟨Nat.zero_le _, Nat.zero_le _⟩ hl.1 (Nat.le_of_ble_eq_true rfl) dX2_wander_60 (fun r11 er11 => ?_)
          replace h := olet_s er11 h
          obtain ⟨w12, h13, h⟩ := obd_e h
          refine k_X7_note S aM_RX2_216 ⟨Nat.le_of_ble_eq_true rfl, Nat.le_of_ble_eq_true rfl⟩ ⟨Nat.zero_le _, Nat.zero_le _⟩ hP hK hDT hS h13 hl.1 (Nat.le_of_ble_eq_true rfl) dX2_wander_63 (fun H locs hP hS => ?_)
          refine lv_iload hx hb dX2_wander_66 (lv_at hl 0 rfl) ?_
          refine lv_istore_n (lv' := [(2, .int r7), (7, .int r7), (6, .int r6), (0, .ref (a 0)), (3, .int v3), (4, .int v4), (5, .int v5)]) hx hb dX2_wander_68 rfl hl (by decide) rfl (fun ls hl => ?_)
          refine lv_iload_n hx hb dX2_wander_69 rfl (lv_at hl 4 rfl) ?_
          refine lv_iload_n hx hb dX2_wander_70 rfl (lv_at hl 0 rfl) ?_
          refine k_X1_tagOf S aM_RX2_91 ⟨Nat.le_of_ble_eq_true rfl, Nat.le_of_ble_eq_true rfl⟩ ⟨Nat.zero_le _, Nat.zero_le _⟩ hl.1 (Nat.le_of_ble_eq_true rfl) dX2_wander_71 (fun r14 er14 => ?_)
          replace h := olet_s er14 h
          refine lv_aload_n hx hb dX2_wander_74 rfl (lv_at hl 3 rfl) ?_
          refine F_g0_0 hx hb hA hown aF_RX2_9 hK hP dX2_wander_75 ?_
          refine k_X0_partner S aM_RX2_94 ⟨Nat.le_of_ble_eq_true rfl, Nat.le_of_ble_eq_true rfl⟩ ⟨Nat.zero_le _, Nat.zero_le _⟩ hl.1 (Nat.le_of_ble_eq_true rfl) dX2_wander_78 (fun r15 er15 => ?_)
          replace h := olet_s er15 h
          refine lv_istore_n (lv' := [(3, .int r15), (2, .int r7), (7, .int r7), (6, .int r6), (0, .ref (a 0)), (4, .int v4), (5, .int v5)]) hx hb dX2_wander_81 rfl hl (by decide) rfl (fun ls hl => ?_)
          refine lv_aload_n hx hb dX2_wander_82 rfl (lv_at hl 4 rfl) ?_
          refine lv_iload_n hx hb dX2_wander_83 rfl (lv_at hl 0 rfl) ?_
          obtain ⟨r16, h17, h⟩ := obd_e h
          refine k_X2_freePlace S aM_RX2_213 ⟨Nat.le_of_ble_eq_true rfl, Nat.le_of_ble_eq_true rfl⟩ ⟨Nat.zero_le _, Nat.zero_le _⟩ hP hK hDT h17 hl.1 (Nat.le_of_ble_eq_true rfl) dX2_wander_84 ?_
          refine lv_istore (lv' := [(8, .int r16), (3, .int r15), (2, .int r7), (7, .int r7), (6, .int r6), (0, .ref (a 0)), (4, .int v4), (5, .int v5)]) hx hb dX2_wander_87 hl (by decide) rfl (fun ls hl => ?_)
          refine lv_iload hx hb dX2_wander_89 (lv_at hl 0 rfl) ?_
          refine lv_iconst (v := (-1)) hx hb dX2_wander_91 (by decide) ?_
          refine lv_icmp_eq (tgt := 107) hx hb dX2_wander_92 (by decide) (fun hc => ?_) (fun hc => ?_)
          · replace h := oi_t hc h
            refine lv_iload hx hb dX2_wander_107 (lv_at hl 6 rfl) ?_
            refine lv_iconst (v := 1) hx hb dX2_wander_109 (by decide) ?_
            refine lv_iadd hx hb dX2_wander_110 ?_
            refine lv_aload_n hx hb dX2_wander_111 rfl (lv_at hl 5 rfl) ?_
            refine F_g0_1 hx hb hA hown aF_RX2_15 hK hP dX2_wander_112 ?_
            refine lv_icmp_ge (tgt := 125) hx hb dX2_wander_115 (by decide) (fun hc => ?_) (fun hc => ?_)
            · replace h := oi_t hc h
              refine lv_iconst (v := 0) hx hb dX2_wander_125 (by decide) ?_
              refine lv_istore (lv' := [(4, .int 0), (8, .int r16), (3, .int r15), (2, .int r7), (7, .int r7), (6, .int r6), (0, .ref (a 0)), (5, .int v5)]) hx hb dX2_wander_126 hl (by decide) rfl (fun ls hl => ?_)
              refine lv_iinc (v := v5 + 1) (lv' := [(5, .int (v5 + 1)), (4, .int 0), (8, .int r16), (3, .int r15), (2, .int r7), (7, .int r7), (6, .int r6), (0, .ref (a 0))]) hx hb dX2_wander_128 hl (k := 7) rfl (fm_inc _ _ _ (by decide)) (by decide) rfl (fun ls hl => ?_)
              refine lv_goto (tgt := 13) hx hb dX2_wander_131 (by decide) ?_
              exact ih _ _ _ _ _ _ _ _  h hP hS (lv_sub hl [7, 4, 3, 1, 0] rfl)
            · replace h := oi_f hc h
              refine lv_iload hx hb dX2_wander_118 (lv_at hl 6 rfl) ?_
              refine lv_iconst (v := 1) hx hb dX2_wander_120 (by decide) ?_
              refine lv_iadd hx hb dX2_wander_121 ?_
              refine lv_goto (tgt := 126) hx hb dX2_wander_122 (by decide) ?_
              refine lv_topi (fun x18 ex18 => ?_)
              replace h := olet_s ex18 h
              refine lv_istore (lv' := [(4, .int x18), (8, .int r16), (3, .int r15), (2, .int r7), (7, .int r7), (6, .int r6), (0, .ref (a 0)), (5, .int v5)]) hx hb dX2_wander_126 hl (by decide) rfl (fun ls hl => ?_)
              refine lv_iinc (v := v5 + 1) (lv' := [(5, .int (v5 + 1)), (4, .int x18), (8, .int r16), (3, .int r15), (2, .int r7), (7, .int r7), (6, .int r6), (0, .ref (a 0))]) hx hb dX2_wander_128 hl (k := 7) rfl (fm_inc _ _ _ (by decide)) (by decide) rfl (fun ls hl => ?_)
              refine lv_goto (tgt := 13) hx hb dX2_wander_131 (by decide) ?_
              exact ih _ _ _ _ _ _ _ _  h hP hS (lv_sub hl [7, 4, 3, 1, 0] rfl)
          · replace h := oi_f hc h
            refine lv_aload_n hx hb dX2_wander_95 rfl (lv_at hl 5 rfl) ?_
            refine lv_iload hx hb dX2_wander_96 (lv_at hl 0 rfl) ?_
            refine lv_iload_n hx hb dX2_wander_98 rfl (lv_at hl 2 rfl) ?_
            obtain ⟨w19, h20, h⟩ := obd_e h
            refine k_X2_setCell S aM_RX2_131 ⟨Nat.le_of_ble_eq_true rfl, Nat.le_of_ble_eq_true rfl⟩ ⟨Nat.zero_le _, Nat.zero_le _⟩ hP hK hDT hS h20 hl.1 (Nat.le_of_ble_eq_true rfl) dX2_wander_99 (fun H locs hP hS => ?_)
            refine lv_iload hx hb dX2_wander_102 (lv_at hl 7 rfl) ?_
            refine lv_iconst (v := 1) hx hb dX2_wander_104 (by decide) ?_
            refine lv_iadd hx hb dX2_wander_105 ?_
            obtain ⟨rfl, rfl⟩ := os2 h
            exact W.iret (v := (v5 + 1)) hx hb hr (fun t ht hW => ⟨⟨_, (), rfl, rfl, by show va_P _ _ _ t.heap; rw [ht]; exact hP⟩, hS.F ht⟩) hS.2.2 dX2_wander_106
  have h := hF
  unfold G_X2_wander at h
  refine lv_iload_n hx hb dX2_wander_0 rfl (lv_at hl 1 rfl) ?_
  refine lv_istore_n (lv' := [(2, .int p1), (0, .ref (a 0)), (1, .int p1)]) hx hb dX2_wander_1 rfl hl (by decide) rfl (fun ls hl => ?_)
  refine lv_iload_n hx hb dX2_wander_2 rfl (lv_at hl 2 rfl) ?_
  refine k_X1_homeOf S aM_RX2_88 ⟨Nat.le_of_ble_eq_true rfl, Nat.le_of_ble_eq_true rfl⟩ ⟨Nat.zero_le _, Nat.zero_le _⟩ hl.1 (Nat.le_of_ble_eq_true rfl) dX2_wander_3 (fun r1 er1 => ?_)
  replace h := olet_s er1 h
  refine lv_istore_n (lv' := [(3, .int r1), (2, .int p1), (0, .ref (a 0)), (1, .int p1)]) hx hb dX2_wander_6 rfl hl (by decide) rfl (fun ls hl => ?_)
  refine lv_iconst (v := 0) hx hb dX2_wander_7 (by decide) ?_
  refine lv_istore (lv' := [(4, .int 0), (3, .int r1), (2, .int p1), (0, .ref (a 0)), (1, .int p1)]) hx hb dX2_wander_8 hl (by decide) rfl (fun ls hl => ?_)
  refine lv_iconst (v := 0) hx hb dX2_wander_10 (by decide) ?_
  refine lv_istore (lv' := [(5, .int 0), (4, .int 0), (3, .int r1), (2, .int p1), (0, .ref (a 0)), (1, .int p1)]) hx hb dX2_wander_11 hl (by decide) rfl (fun ls hl => ?_)
  exact hL13 N _ _ _ _ _ _ _ _ h hP hS (lv_sub hl [4, 3, 2, 1, 0] rfl)
theorem k_X2_wander {p : Program} {l : Launch} {e : Env} {R : Room} {s : State} {m : MethodId} {args : Array Value} {below : List Frame} {meth : Method} {c : Code} {H : Heap} {locs : List Loc} {cells slots : Nat} {Q : State → Prop} {cc : ByteArray} {pc nL idx : Nat} {ls : Array Slot} {rest : List Value} {own : String} {D : va_G} {cI : ClassId} {a : Nat → Nat} {H0 : Heap} {N : Nat} {φ : M2} {p1 : Int32} {r0 : Int32} {φr : M2} (S : CallFix p m c cc nL s args AW own) (h1 : Cond.methodLink own idx yX2_wander ∈ AW) (hR : 2 + 1 ≤ R.frames ∧ 8 + (9 + 11) + 47 ≤ R.locals) (hc : cells ≤ R.cells ∧ slots ≤ R.slots) (hP : va_P D vwCl (fbW cI a φ) H) (hK : va_K D vwCl [(cI, .int)] s) (hDT : ∀ (φ2 : M2), va_D (fun _ => True) (fbW cI a φ2)) (hS : va_S (fbA a) H0 H locs) (hF : G_X2_wander N φ p1 = some (r0, φr)) (hsz : ls.size = nL) (hW : (rest.map fun v => v.category).sum ≤ 8) (hdg : decode cc pc = .ok (.invokevirtual idx, 3)) (kk : ∀ (H1 : Heap) (locs1 : List Loc), va_P D vwCl (fbW cI a φr) H1 → va_S (fbA a) H0 H1 locs1 → W p l e R s m args below meth c H1 locs1 cells slots Q (F0 m (pc + 3) ls (.int r0 :: rest))) : W p l e R s m args below meth c H locs cells slots Q (F0 m pc ls (.int p1 :: .ref (a 0) :: rest)) :=
  fm_runVi (n := 1) (C := RX2) (As := [.int p1]) S (c_X2_wander l D cI a N φ p1 r0 φr hF) (F_pre (q0 := 0) (ci := 0) hK hP (hDT _) rfl rfl) hS h1 aI_X2_wander aV_X2_wander aN_RX2 aC_X2_wander rfl rfl (by decide +kernel) rfl hR hc hsz hW hdg (fun r H1 locs1 hr hP1 hS1 => by subst hr; exact kk H1 locs1 hP1 hS1)
set_option maxHeartbeats 4000000 in
set_option maxRecDepth 100000 in
theorem c_X2_insert (l : Launch) (D : va_G) (cI : ClassId) (a : Nat → Nat) (N : Nat) (φ : M2) (p1 : Int32) (r0 : Int32) (φr : M2) (hF : G_X2_insert N φ p1 = some (r0, φr)) : Met l yX2_insert (wsA yX2_insert cX2_insert 4 (some .int)) { frames := 3, cells := 0, slots := 0, locals := 75 } (va_Pc [.ref (a 0), .int p1] (fbP D cI a φ)) (va_Qi (fun (r : Int32) (_ : Unit) => r = r0) (fun _ t => va_P D vwCl (fbW cI a φr) t.heap) (fbA a)) 0 0 (fbA a) := by
  refine Met.ofW (cc := cX2_insert) (maxL := 4) (ret := (some .int)) (by decide) rfl ?_
  intro p e s m args below meth c s₁ B hml hpre
  obtain ⟨rfl, hP, hK, hD0⟩ := hpre
  have hx := B.exec
  have hb := B.bytes
  have hr := B.returns
  have hA : ∀ w ∈ AW, w.before _ s = true := fun w h => atoms_spec (ws := wsA yX2_insert cX2_insert 4 (some .int)) B.pre w (List.mem_cons_of_mem _ h)
  have hown : s.vm.findClass RX2 = some m.cls := findClass_of_methodNamed B.named
  have hlocks := B.notSynchronized
  have hDT := F_dT hD0
  have hDA := F_dA hD0
  have hS : va_S (fbA a) s.heap s.heap [] := va_S.rf
  have S : CallFix p m c cX2_insert 4 s ([.ref (a 0), .int p1] : List Value).toArray AW RX2 := ⟨hx, hb, hml, hown, hA⟩
  have hl := lv_entry ([.ref (a 0), .int p1]) (n := 4) (Nat.le_of_ble_eq_true rfl)
  rw [lg_entry_eq]
  generalize (lg_sl ([.ref (a 0), .int p1]) ++ List.replicate (4 - (lg_sl ([.ref (a 0), .int p1])).length) Slot.unset).toArray = ls at hl ⊢
  have hl : lv_has ls 4 [(0, .ref (a 0)), (1, .int p1)] := hl
  have h := hF
  unfold G_X2_insert at h
  refine lv_aload_n hx hb dX2_insert_0 rfl (lv_at hl 0 rfl) ?_
  refine F_g0_9 hx hb hA hown aF_RX2_44 hK hP dX2_insert_1 ?_
  obtain ⟨w1, h2, h⟩ := obd_e h
  refine k_X7_restart S aM_RX2_195 ⟨Nat.le_of_ble_eq_true rfl, Nat.le_of_ble_eq_true rfl⟩ ⟨Nat.zero_le _, Nat.zero_le _⟩ hP hK hDT hS h2 hl.1 (Nat.le_of_ble_eq_true rfl) dX2_insert_4 (fun H locs hP hS => ?_)
  refine lv_aload_n hx hb dX2_insert_7 rfl (lv_at hl 0 rfl) ?_
  refine lv_iload_n hx hb dX2_insert_8 rfl (lv_at hl 1 rfl) ?_
  refine k_X2_newEntry S aM_RX2_150 ⟨Nat.le_of_ble_eq_true rfl, Nat.le_of_ble_eq_true rfl⟩ ⟨Nat.zero_le _, Nat.zero_le _⟩ hP hK hDT hl.1 (Nat.le_of_ble_eq_true rfl) dX2_insert_9 (fun r3 er3 => ?_)
  replace h := olet_s er3 h
  refine lv_istore_n (lv' := [(2, .int r3), (0, .ref (a 0)), (1, .int p1)]) hx hb dX2_insert_12 rfl hl (by decide) rfl (fun ls hl => ?_)
  refine lv_aload_n hx hb dX2_insert_13 rfl (lv_at hl 1 rfl) ?_
  refine lv_iload_n hx hb dX2_insert_14 rfl (lv_at hl 0 rfl) ?_
  obtain ⟨r6, w4, h5, h⟩ := obd2_e h
  refine k_X2_settle S aM_RX2_198 ⟨Nat.le_of_ble_eq_true rfl, Nat.le_of_ble_eq_true rfl⟩ ⟨Nat.zero_le _, Nat.zero_le _⟩ hP hK hDT hS h5 hl.1 (Nat.le_of_ble_eq_true rfl) dX2_insert_15 (fun br6 H locs hP hS => ?_)
  refine lv_if_eq (tgt := 23) hx hb dX2_insert_18 (by decide) (fun hc => ?_) (fun hc => ?_)
  · replace h := oi_t hc h
    refine lv_aload_n hx hb dX2_insert_23 rfl (lv_at hl 1 rfl) ?_
    refine lv_iload_n hx hb dX2_insert_24 rfl (lv_at hl 0 rfl) ?_
    obtain ⟨r9, w7, h8, h⟩ := obd2_e h
    refine k_X2_wander S aM_RX2_201 ⟨Nat.le_of_ble_eq_true rfl, Nat.le_of_ble_eq_true rfl⟩ ⟨Nat.zero_le _, Nat.zero_le _⟩ hP hK hDT hS h8 hl.1 (Nat.le_of_ble_eq_true rfl) dX2_insert_25 (fun H locs hP hS => ?_)
    refine lv_istore_n (lv' := [(3, .int r9), (2, .int r3), (0, .ref (a 0)), (1, .int p1)]) hx hb dX2_insert_28 rfl hl (by decide) rfl (fun ls hl => ?_)
    refine lv_iload_n hx hb dX2_insert_29 rfl (lv_at hl 0 rfl) ?_
    refine lv_iconst (v := (-1)) hx hb dX2_insert_30 (by decide) ?_
    refine lv_icmp_eq (tgt := 36) hx hb dX2_insert_31 (by decide) (fun hc => ?_) (fun hc => ?_)
    · replace h := oi_t hc h
      refine lv_aload_n hx hb dX2_insert_36 rfl (lv_at hl 2 rfl) ?_
      refine F_g0_7 hx hb hA hown aF_RX2_55 hK hP dX2_insert_37 ?_
      refine lv_if_lt (tgt := 55) hx hb dX2_insert_40 (by decide) (fun hc => ?_) (fun hc => ?_)
      · replace h := oi_t hc h
        refine lv_iconst (v := (-1)) hx hb dX2_insert_55 (by decide) ?_
        obtain ⟨rfl, rfl⟩ := os2 h
        exact W.iret (v := (-1)) hx hb hr (fun t ht hW => ⟨⟨_, (), rfl, rfl, by show va_P _ _ _ t.heap; rw [ht]; exact hP⟩, hS.F ht⟩) hS.2.2 dX2_insert_56
      · replace h := oi_f hc h
        refine lv_aload_n hx hb dX2_insert_43 rfl (lv_at hl 2 rfl) ?_
        refine F_g0_7 hx hb hA hown aF_RX2_55 hK hP dX2_insert_44 ?_
        refine lv_aload_n hx hb dX2_insert_47 rfl (lv_at hl 2 rfl) ?_
        refine F_g0_6 hx hb hA hown aF_RX2_31 hK hP dX2_insert_48 ?_
        refine F_ln2 hx hb hK hP dX2_insert_51 ?_
        refine lv_icmp_lt (tgt := 57) hx hb dX2_insert_52 (by decide) (fun hc => ?_) (fun hc => ?_)
        · replace h := oi_t hc h
          refine lv_aload_n hx hb dX2_insert_57 rfl (lv_at hl 2 rfl) ?_
          refine F_g0_6 hx hb hA hown aF_RX2_31 hK hP dX2_insert_58 ?_
          refine lv_aload_n hx hb dX2_insert_61 rfl (lv_at hl 2 rfl) ?_
          refine F_g0_7 hx hb hA hown aF_RX2_55 hK hP dX2_insert_62 ?_
          refine lv_iload_n hx hb dX2_insert_65 rfl (lv_at hl 1 rfl) ?_
          obtain ⟨i10, h⟩ := oin_e h
          refine F_st2 hx hb hK hP (hDA _) hS i10 dX2_insert_66 (fun w11 H locs ew11 hP hS => ?_)
          replace h := olet_s ew11 h
          refine lv_aload_n hx hb dX2_insert_67 rfl (lv_at hl 2 rfl) ?_
          refine lv_dup hx hb dX2_insert_68 rfl ?_
          refine F_g0_7 hx hb hA hown aF_RX2_55 hK hP dX2_insert_69 ?_
          refine lv_iconst (v := 1) hx hb dX2_insert_72 (by decide) ?_
          refine lv_iadd hx hb dX2_insert_73 ?_
          refine F_p0_7 hx hb hA hown aF_RX2_55 hK hP (hDA _) hS dX2_insert_74 (fun w12 H locs ew12 hP hS => ?_)
          replace h := olet_s ew12 h
          refine lv_bipush (v := 100) hx hb dX2_insert_77 (by decide) ?_
          obtain ⟨rfl, rfl⟩ := os2 h
          exact W.iret (v := 100) hx hb hr (fun t ht hW => ⟨⟨_, (), rfl, rfl, by show va_P _ _ _ t.heap; rw [ht]; exact hP⟩, hS.F ht⟩) hS.2.2 dX2_insert_79
        · replace h := oi_f hc h
          refine lv_iconst (v := (-1)) hx hb dX2_insert_55 (by decide) ?_
          obtain ⟨rfl, rfl⟩ := os2 h
          exact W.iret (v := (-1)) hx hb hr (fun t ht hW => ⟨⟨_, (), rfl, rfl, by show va_P _ _ _ t.heap; rw [ht]; exact hP⟩, hS.F ht⟩) hS.2.2 dX2_insert_56
    · replace h := oi_f hc h
      refine lv_iload_n hx hb dX2_insert_34 rfl (lv_at hl 0 rfl) ?_
      obtain ⟨rfl, rfl⟩ := os2 h
      exact W.iret (v := r9) hx hb hr (fun t ht hW => ⟨⟨_, (), rfl, rfl, by show va_P _ _ _ t.heap; rw [ht]; exact hP⟩, hS.F ht⟩) hS.2.2 dX2_insert_35
  · replace h := oi_f hc h
    refine lv_iconst (v := 0) hx hb dX2_insert_21 (by decide) ?_
    obtain ⟨rfl, rfl⟩ := os2 h
    exact W.iret (v := 0) hx hb hr (fun t ht hW => ⟨⟨_, (), rfl, rfl, by show va_P _ _ _ t.heap; rw [ht]; exact hP⟩, hS.F ht⟩) hS.2.2 dX2_insert_22
theorem k_X2_insert {p : Program} {l : Launch} {e : Env} {R : Room} {s : State} {m : MethodId} {args : Array Value} {below : List Frame} {meth : Method} {c : Code} {H : Heap} {locs : List Loc} {cells slots : Nat} {Q : State → Prop} {cc : ByteArray} {pc nL idx : Nat} {ls : Array Slot} {rest : List Value} {own : String} {D : va_G} {cI : ClassId} {a : Nat → Nat} {H0 : Heap} {N : Nat} {φ : M2} {p1 : Int32} {r0 : Int32} {φr : M2} (S : CallFix p m c cc nL s args AW own) (h1 : Cond.methodLink own idx yX2_insert ∈ AW) (hR : 3 + 1 ≤ R.frames ∧ 8 + (4 + 11) + 75 ≤ R.locals) (hc : cells ≤ R.cells ∧ slots ≤ R.slots) (hP : va_P D vwCl (fbW cI a φ) H) (hK : va_K D vwCl [(cI, .int)] s) (hDT : ∀ (φ2 : M2), va_D (fun _ => True) (fbW cI a φ2)) (hS : va_S (fbA a) H0 H locs) (hF : G_X2_insert N φ p1 = some (r0, φr)) (hsz : ls.size = nL) (hW : (rest.map fun v => v.category).sum ≤ 8) (hdg : decode cc pc = .ok (.invokevirtual idx, 3)) (kk : ∀ (H1 : Heap) (locs1 : List Loc), va_P D vwCl (fbW cI a φr) H1 → va_S (fbA a) H0 H1 locs1 → W p l e R s m args below meth c H1 locs1 cells slots Q (F0 m (pc + 3) ls (.int r0 :: rest))) : W p l e R s m args below meth c H locs cells slots Q (F0 m pc ls (.int p1 :: .ref (a 0) :: rest)) :=
  fm_runVi (n := 1) (C := RX2) (As := [.int p1]) S (c_X2_insert l D cI a N φ p1 r0 φr hF) (F_pre (q0 := 0) (ci := 0) hK hP (hDT _) rfl rfl) hS h1 aI_X2_insert aV_X2_insert aN_RX2 aC_X2_insert rfl rfl (by decide +kernel) rfl hR hc hsz hW hdg (fun r H1 locs1 hr hP1 hS1 => by subst hr; exact kk H1 locs1 hP1 hS1)
set_option maxHeartbeats 4000000 in
set_option maxRecDepth 100000 in
theorem c_X4_put (l : Launch) (D : va_G) (cI : ClassId) (a : Nat → Nat) (φ : M2) (p1 : Int32) (φr : M2) (hF : G_X4_put φ p1 = some φr) : Met l yX4_put (wsA yX4_put cX4_put 2 none) { frames := 0, cells := 0, slots := 0, locals := 0 } (va_Pc [.ref (a 3), .int p1] (fbP D cI a φ)) (va_Qv (fun (_ : Unit) => True) (fun _ t => va_P D vwCl (fbW cI a φr) t.heap) (fbA a)) 0 0 (fbA a) := by
  refine Met.ofW (cc := cX4_put) (maxL := 2) (ret := none) (by decide) rfl ?_
  intro p e s m args below meth c s₁ B hml hpre
  obtain ⟨rfl, hP, hK, hD0⟩ := hpre
  have hx := B.exec
  have hb := B.bytes
  have hr := B.returns
  have hA : ∀ w ∈ AW, w.before _ s = true := fun w h => atoms_spec (ws := wsA yX4_put cX4_put 2 none) B.pre w (List.mem_cons_of_mem _ h)
  have hown : s.vm.findClass RX4 = some m.cls := findClass_of_methodNamed B.named
  have hlocks := B.notSynchronized
  have hDT := F_dT hD0
  have hDA := F_dA hD0
  have hS : va_S (fbA a) s.heap s.heap [] := va_S.rf
  have S : CallFix p m c cX4_put 2 s ([.ref (a 3), .int p1] : List Value).toArray AW RX4 := ⟨hx, hb, hml, hown, hA⟩
  have hl := lv_entry ([.ref (a 3), .int p1]) (n := 2) (Nat.le_of_ble_eq_true rfl)
  rw [lg_entry_eq]
  generalize (lg_sl ([.ref (a 3), .int p1]) ++ List.replicate (2 - (lg_sl ([.ref (a 3), .int p1])).length) Slot.unset).toArray = ls at hl ⊢
  have hl : lv_has ls 2 [(0, .ref (a 3)), (1, .int p1)] := hl
  have h := hF
  unfold G_X4_put at h
  refine lv_aload_n hx hb dX4_put_0 rfl (lv_at hl 0 rfl) ?_
  refine F_g3_1 hx hb hA hown aF_RX4_15 hK hP dX4_put_1 ?_
  refine lv_if_lt (tgt := 39) hx hb dX4_put_4 (by decide) (fun hc => ?_) (fun hc => ?_)
  · replace h := oi_t hc h
    obtain rfl := os1 h
    exact W.vret hx hb hr (fun t ht hW => ⟨⟨(), rfl, trivial, by show va_P _ _ _ t.heap; rw [ht]; exact hP⟩, hS.F ht⟩) hS.2.2 dX4_put_39
  · replace h := oi_f hc h
    refine lv_aload_n hx hb dX4_put_7 rfl (lv_at hl 0 rfl) ?_
    refine F_g3_1 hx hb hA hown aF_RX4_15 hK hP dX4_put_8 ?_
    refine lv_aload_n hx hb dX4_put_11 rfl (lv_at hl 0 rfl) ?_
    refine F_g3_0 hx hb hA hown aF_RX4_9 hK hP dX4_put_12 ?_
    refine F_ln4 hx hb hK hP dX4_put_15 ?_
    refine lv_icmp_ge (tgt := 39) hx hb dX4_put_16 (by decide) (fun hc => ?_) (fun hc => ?_)
    · replace h := oi_t hc h
      obtain rfl := os1 h
      exact W.vret hx hb hr (fun t ht hW => ⟨⟨(), rfl, trivial, by show va_P _ _ _ t.heap; rw [ht]; exact hP⟩, hS.F ht⟩) hS.2.2 dX4_put_39
    · replace h := oi_f hc h
      refine lv_aload_n hx hb dX4_put_19 rfl (lv_at hl 0 rfl) ?_
      refine F_g3_0 hx hb hA hown aF_RX4_9 hK hP dX4_put_20 ?_
      refine lv_aload_n hx hb dX4_put_23 rfl (lv_at hl 0 rfl) ?_
      refine F_g3_1 hx hb hA hown aF_RX4_15 hK hP dX4_put_24 ?_
      refine lv_iload_n hx hb dX4_put_27 rfl (lv_at hl 1 rfl) ?_
      obtain ⟨i1, h⟩ := oin_e h
      refine F_st4 hx hb hK hP (hDA _) hS i1 dX4_put_28 (fun w2 H locs ew2 hP hS => ?_)
      replace h := olet_s ew2 h
      refine lv_aload_n hx hb dX4_put_29 rfl (lv_at hl 0 rfl) ?_
      refine lv_dup hx hb dX4_put_30 rfl ?_
      refine F_g3_1 hx hb hA hown aF_RX4_15 hK hP dX4_put_31 ?_
      refine lv_iconst (v := 1) hx hb dX4_put_34 (by decide) ?_
      refine lv_iadd hx hb dX4_put_35 ?_
      refine F_p3_1 hx hb hA hown aF_RX4_15 hK hP (hDA _) hS dX4_put_36 (fun w3 H locs ew3 hP hS => ?_)
      replace h := olet_s ew3 h
      obtain rfl := os1 h
      exact W.vret hx hb hr (fun t ht hW => ⟨⟨(), rfl, trivial, by show va_P _ _ _ t.heap; rw [ht]; exact hP⟩, hS.F ht⟩) hS.2.2 dX4_put_39
theorem k_X4_put {p : Program} {l : Launch} {e : Env} {R : Room} {s : State} {m : MethodId} {args : Array Value} {below : List Frame} {meth : Method} {c : Code} {H : Heap} {locs : List Loc} {cells slots : Nat} {Q : State → Prop} {cc : ByteArray} {pc nL idx : Nat} {ls : Array Slot} {rest : List Value} {own : String} {D : va_G} {cI : ClassId} {a : Nat → Nat} {H0 : Heap} {φ : M2} {p1 : Int32} {φr : M2} (S : CallFix p m c cc nL s args AW own) (h1 : Cond.methodLink own idx yX4_put ∈ AW) (hR : 0 + 1 ≤ R.frames ∧ 8 + (2 + 11) + 0 ≤ R.locals) (hc : cells ≤ R.cells ∧ slots ≤ R.slots) (hP : va_P D vwCl (fbW cI a φ) H) (hK : va_K D vwCl [(cI, .int)] s) (hDT : ∀ (φ2 : M2), va_D (fun _ => True) (fbW cI a φ2)) (hS : va_S (fbA a) H0 H locs) (hF : G_X4_put φ p1 = some φr) (hsz : ls.size = nL) (hW : (rest.map fun v => v.category).sum ≤ 8) (hdg : decode cc pc = .ok (.invokevirtual idx, 3)) (kk : ∀ (H1 : Heap) (locs1 : List Loc), va_P D vwCl (fbW cI a φr) H1 → va_S (fbA a) H0 H1 locs1 → W p l e R s m args below meth c H1 locs1 cells slots Q (F0 m (pc + 3) ls (rest))) : W p l e R s m args below meth c H locs cells slots Q (F0 m pc ls (.int p1 :: .ref (a 3) :: rest)) :=
  fm_runVv (n := 1) (C := RX4) (As := [.int p1]) S (c_X4_put l D cI a φ p1 φr hF) (F_pre (q0 := 3) (ci := 2) hK hP (hDT _) rfl rfl) hS h1 aI_X4_put aV_X4_put aN_RX4 aC_X4_put rfl rfl (by decide +kernel) rfl hR hc hsz hW hdg (fun H1 locs1 hP1 hS1 => kk H1 locs1 hP1 hS1)
set_option maxHeartbeats 4000000 in
set_option maxRecDepth 100000 in
theorem c_X2_addKey (l : Launch) (D : va_G) (cI : ClassId) (a : Nat → Nat) (N : Nat) (φ : M2) (p1 : Int32) (r0 : Int32) (φr : M2) (hF : G_X2_addKey N φ p1 = some (r0, φr)) : Met l yX2_addKey (wsA yX2_addKey cX2_addKey 3 (some .int)) { frames := 4, cells := 0, slots := 0, locals := 98 } (va_Pc [.ref (a 0), .int p1] (fbP D cI a φ)) (va_Qi (fun (r : Int32) (_ : Unit) => r = r0) (fun _ t => va_P D vwCl (fbW cI a φr) t.heap) (fbA a)) 0 0 (fbA a) := by
  refine Met.ofW (cc := cX2_addKey) (maxL := 3) (ret := (some .int)) (by decide) rfl ?_
  intro p e s m args below meth c s₁ B hml hpre
  obtain ⟨rfl, hP, hK, hD0⟩ := hpre
  have hx := B.exec
  have hb := B.bytes
  have hr := B.returns
  have hA : ∀ w ∈ AW, w.before _ s = true := fun w h => atoms_spec (ws := wsA yX2_addKey cX2_addKey 3 (some .int)) B.pre w (List.mem_cons_of_mem _ h)
  have hown : s.vm.findClass RX2 = some m.cls := findClass_of_methodNamed B.named
  have hlocks := B.notSynchronized
  have hDT := F_dT hD0
  have hDA := F_dA hD0
  have hS : va_S (fbA a) s.heap s.heap [] := va_S.rf
  have S : CallFix p m c cX2_addKey 3 s ([.ref (a 0), .int p1] : List Value).toArray AW RX2 := ⟨hx, hb, hml, hown, hA⟩
  have hl := lv_entry ([.ref (a 0), .int p1]) (n := 3) (Nat.le_of_ble_eq_true rfl)
  rw [lg_entry_eq]
  generalize (lg_sl ([.ref (a 0), .int p1]) ++ List.replicate (3 - (lg_sl ([.ref (a 0), .int p1])).length) Slot.unset).toArray = ls at hl ⊢
  have hl : lv_has ls 3 [(0, .ref (a 0)), (1, .int p1)] := hl
  have h := hF
  unfold G_X2_addKey at h
  refine lv_aload_n hx hb dX2_addKey_0 rfl (lv_at hl 0 rfl) ?_
  refine F_g0_8 hx hb hA hown aF_RX2_37 hK hP dX2_addKey_1 ?_
  refine lv_iload_n hx hb dX2_addKey_4 rfl (lv_at hl 1 rfl) ?_
  obtain ⟨r1, h2, h⟩ := obd_e h
  refine k_X4_has S aM_RX2_70 ⟨Nat.le_of_ble_eq_true rfl, Nat.le_of_ble_eq_true rfl⟩ ⟨Nat.zero_le _, Nat.zero_le _⟩ hP hK hDT h2 hl.1 (Nat.le_of_ble_eq_true rfl) dX2_addKey_5 (fun br1 => ?_)
  refine lv_if_ne (tgt := 21) hx hb dX2_addKey_8 (by decide) (fun hc => ?_) (fun hc => ?_)
  · replace h := oi_f hc h
    refine lv_iconst (v := (-1)) hx hb dX2_addKey_21 (by decide) ?_
    obtain ⟨rfl, rfl⟩ := os2 h
    exact W.iret (v := (-1)) hx hb hr (fun t ht hW => ⟨⟨_, (), rfl, rfl, by show va_P _ _ _ t.heap; rw [ht]; exact hP⟩, hS.F ht⟩) hS.2.2 dX2_addKey_22
  · replace h := oi_t hc h
    refine lv_aload_n hx hb dX2_addKey_11 rfl (lv_at hl 0 rfl) ?_
    refine F_g0_8 hx hb hA hown aF_RX2_37 hK hP dX2_addKey_12 ?_
    refine k_X4_isFull S aM_RX2_153 ⟨Nat.le_of_ble_eq_true rfl, Nat.le_of_ble_eq_true rfl⟩ ⟨Nat.zero_le _, Nat.zero_le _⟩ hP hK hDT hl.1 (Nat.le_of_ble_eq_true rfl) dX2_addKey_15 (fun r3 er3 br3 => ?_)
    replace h := olet_s er3 h
    refine lv_if_eq (tgt := 23) hx hb dX2_addKey_18 (by decide) (fun hc => ?_) (fun hc => ?_)
    · replace h := oi_t hc h
      refine lv_aload_n hx hb dX2_addKey_23 rfl (lv_at hl 0 rfl) ?_
      refine lv_iload_n hx hb dX2_addKey_24 rfl (lv_at hl 1 rfl) ?_
      obtain ⟨r6, w4, h5, h⟩ := obd2_e h
      refine k_X2_insert S aM_RX2_156 ⟨Nat.le_of_ble_eq_true rfl, Nat.le_of_ble_eq_true rfl⟩ ⟨Nat.zero_le _, Nat.zero_le _⟩ hP hK hDT hS h5 hl.1 (Nat.le_of_ble_eq_true rfl) dX2_addKey_25 (fun H locs hP hS => ?_)
      refine lv_istore_n (lv' := [(2, .int r6), (0, .ref (a 0)), (1, .int p1)]) hx hb dX2_addKey_28 rfl hl (by decide) rfl (fun ls hl => ?_)
      refine lv_iload_n hx hb dX2_addKey_29 rfl (lv_at hl 0 rfl) ?_
      refine lv_iconst (v := (-1)) hx hb dX2_addKey_30 (by decide) ?_
      refine lv_icmp_eq (tgt := 42) hx hb dX2_addKey_31 (by decide) (fun hc => ?_) (fun hc => ?_)
      · replace h := oi_t hc h
        refine lv_iload_n hx hb dX2_addKey_42 rfl (lv_at hl 0 rfl) ?_
        obtain ⟨rfl, rfl⟩ := os2 h
        exact W.iret (v := r6) hx hb hr (fun t ht hW => ⟨⟨_, (), rfl, rfl, by show va_P _ _ _ t.heap; rw [ht]; exact hP⟩, hS.F ht⟩) hS.2.2 dX2_addKey_43
      · replace h := oi_f hc h
        refine lv_aload_n hx hb dX2_addKey_34 rfl (lv_at hl 1 rfl) ?_
        refine F_g0_8 hx hb hA hown aF_RX2_37 hK hP dX2_addKey_35 ?_
        refine lv_iload_n hx hb dX2_addKey_38 rfl (lv_at hl 2 rfl) ?_
        obtain ⟨w7, h8, h⟩ := obd_e h
        refine k_X4_put S aM_RX2_159 ⟨Nat.le_of_ble_eq_true rfl, Nat.le_of_ble_eq_true rfl⟩ ⟨Nat.zero_le _, Nat.zero_le _⟩ hP hK hDT hS h8 hl.1 (Nat.le_of_ble_eq_true rfl) dX2_addKey_39 (fun H locs hP hS => ?_)
        refine lv_iload_n hx hb dX2_addKey_42 rfl (lv_at hl 0 rfl) ?_
        obtain ⟨rfl, rfl⟩ := os2 h
        exact W.iret (v := r6) hx hb hr (fun t ht hW => ⟨⟨_, (), rfl, rfl, by show va_P _ _ _ t.heap; rw [ht]; exact hP⟩, hS.F ht⟩) hS.2.2 dX2_addKey_43
    · replace h := oi_f hc h
      refine lv_iconst (v := (-1)) hx hb dX2_addKey_21 (by decide) ?_
      obtain ⟨rfl, rfl⟩ := os2 h
      exact W.iret (v := (-1)) hx hb hr (fun t ht hW => ⟨⟨_, (), rfl, rfl, by show va_P _ _ _ t.heap; rw [ht]; exact hP⟩, hS.F ht⟩) hS.2.2 dX2_addKey_22
theorem k_X2_addKey {p : Program} {l : Launch} {e : Env} {R : Room} {s : State} {m : MethodId} {args : Array Value} {below : List Frame} {meth : Method} {c : Code} {H : Heap} {locs : List Loc} {cells slots : Nat} {Q : State → Prop} {cc : ByteArray} {pc nL idx : Nat} {ls : Array Slot} {rest : List Value} {own : String} {D : va_G} {cI : ClassId} {a : Nat → Nat} {H0 : Heap} {N : Nat} {φ : M2} {p1 : Int32} {r0 : Int32} {φr : M2} (S : CallFix p m c cc nL s args AW own) (h1 : Cond.methodLink own idx yX2_addKey ∈ AW) (hR : 4 + 1 ≤ R.frames ∧ 8 + (3 + 11) + 98 ≤ R.locals) (hc : cells ≤ R.cells ∧ slots ≤ R.slots) (hP : va_P D vwCl (fbW cI a φ) H) (hK : va_K D vwCl [(cI, .int)] s) (hDT : ∀ (φ2 : M2), va_D (fun _ => True) (fbW cI a φ2)) (hS : va_S (fbA a) H0 H locs) (hF : G_X2_addKey N φ p1 = some (r0, φr)) (hsz : ls.size = nL) (hW : (rest.map fun v => v.category).sum ≤ 8) (hdg : decode cc pc = .ok (.invokevirtual idx, 3)) (kk : ∀ (H1 : Heap) (locs1 : List Loc), va_P D vwCl (fbW cI a φr) H1 → va_S (fbA a) H0 H1 locs1 → W p l e R s m args below meth c H1 locs1 cells slots Q (F0 m (pc + 3) ls (.int r0 :: rest))) : W p l e R s m args below meth c H locs cells slots Q (F0 m pc ls (.int p1 :: .ref (a 0) :: rest)) :=
  fm_runVi (n := 1) (C := RX2) (As := [.int p1]) S (c_X2_addKey l D cI a N φ p1 r0 φr hF) (F_pre (q0 := 0) (ci := 0) hK hP (hDT _) rfl rfl) hS h1 aI_X2_addKey aV_X2_addKey aN_RX2 aC_X2_addKey rfl rfl (by decide +kernel) rfl hR hc hsz hW hdg (fun r H1 locs1 hr hP1 hS1 => by subst hr; exact kk H1 locs1 hP1 hS1)
set_option maxHeartbeats 4000000 in
set_option maxRecDepth 100000 in
theorem c_X5_restart (l : Launch) (D : va_G) (cI : ClassId) (a : Nat → Nat) (N : Nat) (φ : M2) (φr : M2) (hF : G_X5_restart N φ = some φr) : Met l yX5_restart (wsA yX5_restart cX5_restart 2 none) { frames := 0, cells := 0, slots := 0, locals := 0 } (va_Pc [.ref (a 8)] (fbP D cI a φ)) (va_Qv (fun (_ : Unit) => True) (fun _ t => va_P D vwCl (fbW cI a φr) t.heap) (fbA a)) 0 0 (fbA a) := by
  refine Met.ofW (cc := cX5_restart) (maxL := 2) (ret := none) (by decide) rfl ?_
  intro p e s m args below meth c s₁ B hml hpre
  obtain ⟨rfl, hP, hK, hD0⟩ := hpre
  have hx := B.exec
  have hb := B.bytes
  have hr := B.returns
  have hA : ∀ w ∈ AW, w.before _ s = true := fun w h => atoms_spec (ws := wsA yX5_restart cX5_restart 2 none) B.pre w (List.mem_cons_of_mem _ h)
  have hown : s.vm.findClass RX5 = some m.cls := findClass_of_methodNamed B.named
  have hlocks := B.notSynchronized
  have hDT := F_dT hD0
  have hDA := F_dA hD0
  have hS : va_S (fbA a) s.heap s.heap [] := va_S.rf
  have S : CallFix p m c cX5_restart 2 s ([.ref (a 8)] : List Value).toArray AW RX5 := ⟨hx, hb, hml, hown, hA⟩
  have hl := lv_entry ([.ref (a 8)]) (n := 2) (Nat.le_of_ble_eq_true rfl)
  rw [lg_entry_eq]
  generalize (lg_sl ([.ref (a 8)]) ++ List.replicate (2 - (lg_sl ([.ref (a 8)])).length) Slot.unset).toArray = ls at hl ⊢
  have hl : lv_has ls 2 [(0, .ref (a 8))] := hl
  have hL7 : ∀ (k : Nat) (v1 : Int32) (φ : M2) (H : Heap) (locs : List Loc) (ls : Array Slot) (φo : M2), L_X5_restart_7 N k v1 φ = some φo → va_P D vwCl (fbW cI a φ) H → va_S (fbA a) s.heap H locs → lv_has ls 2 [(0, .ref (a 8)), (1, .int v1)] → (∀ (H1 : Heap) (locs1 : List Loc) (ls1 : Array Slot), va_P D vwCl (fbW cI a φo) H1 → va_S (fbA a) s.heap H1 locs1 → lv_has ls1 2 [] → W p l e (headSpec (wsA yX5_restart cX5_restart 2 none) { frames := 0, cells := 0, slots := 0, locals := 0 }).room s m ([.ref (a 8)] : List Value).toArray below meth c H1 locs1 0 0 (MQ below (va_Qv (fun (_ : Unit) => True) (fun _ t => va_P D vwCl (fbW cI a φr) t.heap) (fbA a)) ([.ref (a 8)] : List Value).toArray s 0 0 (fbA a)) (F0 m 30 ls1 [])) → W p l e (headSpec (wsA yX5_restart cX5_restart 2 none) { frames := 0, cells := 0, slots := 0, locals := 0 }).room s m ([.ref (a 8)] : List Value).toArray below meth c H locs 0 0 (MQ below (va_Qv (fun (_ : Unit) => True) (fun _ t => va_P D vwCl (fbW cI a φr) t.heap) (fbA a)) ([.ref (a 8)] : List Value).toArray s 0 0 (fbA a)) (F0 m 7 ls []) := by
    intro k
    induction k with
    | zero =>
      intro v1 φ H locs ls φo h hP hS hl kk
      exact no_s h
    | succ k ih =>
      intro v1 φ H locs ls φo h hP hS hl kk
      replace h : B_X5_restart_7 N (L_X5_restart_7 N k) v1 φ = some φo := h
      unfold B_X5_restart_7 at h
      refine lv_iload_n hx hb dX5_restart_7 rfl (lv_at hl 1 rfl) ?_
      refine lv_aload_n hx hb dX5_restart_8 rfl (lv_at hl 0 rfl) ?_
      refine F_g8_1 hx hb hA hown aF_RX5_15 hK hP dX5_restart_9 ?_
      refine F_ln10 hx hb hK hP dX5_restart_12 ?_
      refine lv_icmp_ge (tgt := 30) hx hb dX5_restart_13 (by decide) (fun hc => ?_) (fun hc => ?_)
      · replace h := oi_t hc h
        obtain rfl := os1 h
        exact kk _ _ _ hP hS (lv_sub hl [] rfl)
      · replace h := oi_f hc h
        refine lv_aload_n hx hb dX5_restart_16 rfl (lv_at hl 0 rfl) ?_
        refine F_g8_1 hx hb hA hown aF_RX5_15 hK hP dX5_restart_17 ?_
        refine lv_iload_n hx hb dX5_restart_20 rfl (lv_at hl 1 rfl) ?_
        refine lv_bipush (v := (-2)) hx hb dX5_restart_21 (by decide) ?_
        obtain ⟨i2, h⟩ := oin_e h
        refine F_st10 hx hb hK hP (hDA _) hS i2 dX5_restart_23 (fun w3 H locs ew3 hP hS => ?_)
        replace h := olet_s ew3 h
        refine lv_iinc (v := v1 + 1) (lv' := [(1, .int (v1 + 1)), (0, .ref (a 8))]) hx hb dX5_restart_24 hl (k := 1) rfl (fm_inc _ _ _ (by decide)) (by decide) rfl (fun ls hl => ?_)
        refine lv_goto (tgt := 7) hx hb dX5_restart_27 (by decide) ?_
        exact ih _ _ _ _ _ _ h hP hS (lv_sub hl [1, 0] rfl) kk
  have h := hF
  unfold G_X5_restart at h
  refine lv_aload_n hx hb dX5_restart_0 rfl (lv_at hl 0 rfl) ?_
  refine lv_iconst (v := 0) hx hb dX5_restart_1 (by decide) ?_
  refine F_p8_2 hx hb hA hown aF_RX5_18 hK hP (hDA _) hS dX5_restart_2 (fun w1 H locs ew1 hP hS => ?_)
  replace h := olet_s ew1 h
  refine lv_iconst (v := 0) hx hb dX5_restart_5 (by decide) ?_
  refine lv_istore_n (lv' := [(1, .int 0), (0, .ref (a 8))]) hx hb dX5_restart_6 rfl hl (by decide) rfl (fun ls hl => ?_)
  obtain ⟨w4, h5, h⟩ := obd_e h
  refine hL7 N _ _ _ _ _ _ h5 hP hS (lv_sub hl [1, 0] rfl) (fun H locs ls hP hS hl => ?_)
  obtain rfl := os1 h
  exact W.vret hx hb hr (fun t ht hW => ⟨⟨(), rfl, trivial, by show va_P _ _ _ t.heap; rw [ht]; exact hP⟩, hS.F ht⟩) hS.2.2 dX5_restart_30
theorem k_X5_restart {p : Program} {l : Launch} {e : Env} {R : Room} {s : State} {m : MethodId} {args : Array Value} {below : List Frame} {meth : Method} {c : Code} {H : Heap} {locs : List Loc} {cells slots : Nat} {Q : State → Prop} {cc : ByteArray} {pc nL idx : Nat} {ls : Array Slot} {rest : List Value} {own : String} {D : va_G} {cI : ClassId} {a : Nat → Nat} {H0 : Heap} {N : Nat} {φ : M2} {φr : M2} (S : CallFix p m c cc nL s args AW own) (h1 : Cond.methodLink own idx yX5_restart ∈ AW) (hR : 0 + 1 ≤ R.frames ∧ 8 + (2 + 11) + 0 ≤ R.locals) (hc : cells ≤ R.cells ∧ slots ≤ R.slots) (hP : va_P D vwCl (fbW cI a φ) H) (hK : va_K D vwCl [(cI, .int)] s) (hDT : ∀ (φ2 : M2), va_D (fun _ => True) (fbW cI a φ2)) (hS : va_S (fbA a) H0 H locs) (hF : G_X5_restart N φ = some φr) (hsz : ls.size = nL) (hW : (rest.map fun v => v.category).sum ≤ 8) (hdg : decode cc pc = .ok (.invokevirtual idx, 3)) (kk : ∀ (H1 : Heap) (locs1 : List Loc), va_P D vwCl (fbW cI a φr) H1 → va_S (fbA a) H0 H1 locs1 → W p l e R s m args below meth c H1 locs1 cells slots Q (F0 m (pc + 3) ls (rest))) : W p l e R s m args below meth c H locs cells slots Q (F0 m pc ls (.ref (a 8) :: rest)) :=
  fm_runVv (n := 0) (C := RX5) (As := []) S (c_X5_restart l D cI a N φ φr hF) (F_pre (q0 := 8) (ci := 3) hK hP (hDT _) rfl rfl) hS h1 aI_X5_restart aV_X5_restart aN_RX5 aC_X5_restart rfl rfl (by decide +kernel) rfl hR hc hsz hW hdg (fun H1 locs1 hP1 hS1 => kk H1 locs1 hP1 hS1)
set_option maxHeartbeats 4000000 in
set_option maxRecDepth 100000 in
theorem c_X5_note (l : Launch) (D : va_G) (cI : ClassId) (a : Nat → Nat) (φ : M2) (p1 : Int32) (p2 : Int32) (φr : M2) (hF : G_X5_note φ p1 p2 = some φr) : Met l yX5_note (wsA yX5_note cX5_note 3 none) { frames := 0, cells := 0, slots := 0, locals := 0 } (va_Pc [.ref (a 8), .int p1, .int p2] (fbP D cI a φ)) (va_Qv (fun (_ : Unit) => True) (fun _ t => va_P D vwCl (fbW cI a φr) t.heap) (fbA a)) 0 0 (fbA a) := by
  refine Met.ofW (cc := cX5_note) (maxL := 3) (ret := none) (by decide) rfl ?_
  intro p e s m args below meth c s₁ B hml hpre
  obtain ⟨rfl, hP, hK, hD0⟩ := hpre
  have hx := B.exec
  have hb := B.bytes
  have hr := B.returns
  have hA : ∀ w ∈ AW, w.before _ s = true := fun w h => atoms_spec (ws := wsA yX5_note cX5_note 3 none) B.pre w (List.mem_cons_of_mem _ h)
  have hown : s.vm.findClass RX5 = some m.cls := findClass_of_methodNamed B.named
  have hlocks := B.notSynchronized
  have hDT := F_dT hD0
  have hDA := F_dA hD0
  have hS : va_S (fbA a) s.heap s.heap [] := va_S.rf
  have S : CallFix p m c cX5_note 3 s ([.ref (a 8), .int p1, .int p2] : List Value).toArray AW RX5 := ⟨hx, hb, hml, hown, hA⟩
  have hl := lv_entry ([.ref (a 8), .int p1, .int p2]) (n := 3) (Nat.le_of_ble_eq_true rfl)
  rw [lg_entry_eq]
  generalize (lg_sl ([.ref (a 8), .int p1, .int p2]) ++ List.replicate (3 - (lg_sl ([.ref (a 8), .int p1, .int p2])).length) Slot.unset).toArray = ls at hl ⊢
  have hl : lv_has ls 3 [(0, .ref (a 8)), (1, .int p1), (2, .int p2)] := hl
  have h := hF
  unfold G_X5_note at h
  refine lv_iload_n hx hb dX5_note_0 rfl (lv_at hl 1 rfl) ?_
  refine lv_if_lt (tgt := 32) hx hb dX5_note_1 (by decide) (fun hc => ?_) (fun hc => ?_)
  · replace h := oi_t hc h
    obtain rfl := os1 h
    exact W.vret hx hb hr (fun t ht hW => ⟨⟨(), rfl, trivial, by show va_P _ _ _ t.heap; rw [ht]; exact hP⟩, hS.F ht⟩) hS.2.2 dX5_note_32
  · replace h := oi_f hc h
    refine lv_iload_n hx hb dX5_note_4 rfl (lv_at hl 1 rfl) ?_
    refine lv_aload_n hx hb dX5_note_5 rfl (lv_at hl 0 rfl) ?_
    refine F_g8_1 hx hb hA hown aF_RX5_15 hK hP dX5_note_6 ?_
    refine F_ln10 hx hb hK hP dX5_note_9 ?_
    refine lv_icmp_ge (tgt := 32) hx hb dX5_note_10 (by decide) (fun hc => ?_) (fun hc => ?_)
    · replace h := oi_t hc h
      obtain rfl := os1 h
      exact W.vret hx hb hr (fun t ht hW => ⟨⟨(), rfl, trivial, by show va_P _ _ _ t.heap; rw [ht]; exact hP⟩, hS.F ht⟩) hS.2.2 dX5_note_32
    · replace h := oi_f hc h
      refine lv_aload_n hx hb dX5_note_13 rfl (lv_at hl 0 rfl) ?_
      refine F_g8_2 hx hb hA hown aF_RX5_18 hK hP dX5_note_14 ?_
      refine lv_if_lt (tgt := 32) hx hb dX5_note_17 (by decide) (fun hc => ?_) (fun hc => ?_)
      · replace h := oi_t hc h
        obtain rfl := os1 h
        exact W.vret hx hb hr (fun t ht hW => ⟨⟨(), rfl, trivial, by show va_P _ _ _ t.heap; rw [ht]; exact hP⟩, hS.F ht⟩) hS.2.2 dX5_note_32
      · replace h := oi_f hc h
        refine lv_aload_n hx hb dX5_note_20 rfl (lv_at hl 0 rfl) ?_
        refine F_g8_2 hx hb hA hown aF_RX5_18 hK hP dX5_note_21 ?_
        refine lv_aload_n hx hb dX5_note_24 rfl (lv_at hl 0 rfl) ?_
        refine F_g8_0 hx hb hA hown aF_RX5_9 hK hP dX5_note_25 ?_
        refine F_ln9 hx hb hK hP dX5_note_28 ?_
        refine lv_icmp_lt (tgt := 33) hx hb dX5_note_29 (by decide) (fun hc => ?_) (fun hc => ?_)
        · replace h := oi_t hc h
          refine lv_aload_n hx hb dX5_note_33 rfl (lv_at hl 0 rfl) ?_
          refine F_g8_1 hx hb hA hown aF_RX5_15 hK hP dX5_note_34 ?_
          refine lv_iload_n hx hb dX5_note_37 rfl (lv_at hl 1 rfl) ?_
          obtain ⟨i1, h⟩ := oin_e h
          refine F_ld10 hx hb hK hP i1 dX5_note_38 ?_
          refine lv_bipush (v := (-2)) hx hb dX5_note_39 (by decide) ?_
          refine lv_icmp_ne (tgt := 71) hx hb dX5_note_41 (by decide) (fun hc => ?_) (fun hc => ?_)
          · replace h := oi_f hc h
            obtain rfl := os1 h
            exact W.vret hx hb hr (fun t ht hW => ⟨⟨(), rfl, trivial, by show va_P _ _ _ t.heap; rw [ht]; exact hP⟩, hS.F ht⟩) hS.2.2 dX5_note_71
          · replace h := oi_t hc h
            refine lv_aload_n hx hb dX5_note_44 rfl (lv_at hl 0 rfl) ?_
            refine F_g8_1 hx hb hA hown aF_RX5_15 hK hP dX5_note_45 ?_
            refine lv_iload_n hx hb dX5_note_48 rfl (lv_at hl 1 rfl) ?_
            refine lv_iload_n hx hb dX5_note_49 rfl (lv_at hl 2 rfl) ?_
            obtain ⟨i2, h⟩ := oin_e h
            refine F_st10 hx hb hK hP (hDA _) hS i2 dX5_note_50 (fun w3 H locs ew3 hP hS => ?_)
            replace h := olet_s ew3 h
            refine lv_aload_n hx hb dX5_note_51 rfl (lv_at hl 0 rfl) ?_
            refine F_g8_0 hx hb hA hown aF_RX5_9 hK hP dX5_note_52 ?_
            refine lv_aload_n hx hb dX5_note_55 rfl (lv_at hl 0 rfl) ?_
            refine F_g8_2 hx hb hA hown aF_RX5_18 hK hP dX5_note_56 ?_
            refine lv_iload_n hx hb dX5_note_59 rfl (lv_at hl 1 rfl) ?_
            obtain ⟨i4, h⟩ := oin_e h
            refine F_st9 hx hb hK hP (hDA _) hS i4 dX5_note_60 (fun w5 H locs ew5 hP hS => ?_)
            replace h := olet_s ew5 h
            refine lv_aload_n hx hb dX5_note_61 rfl (lv_at hl 0 rfl) ?_
            refine lv_dup hx hb dX5_note_62 rfl ?_
            refine F_g8_2 hx hb hA hown aF_RX5_18 hK hP dX5_note_63 ?_
            refine lv_iconst (v := 1) hx hb dX5_note_66 (by decide) ?_
            refine lv_iadd hx hb dX5_note_67 ?_
            refine F_p8_2 hx hb hA hown aF_RX5_18 hK hP (hDA _) hS dX5_note_68 (fun w6 H locs ew6 hP hS => ?_)
            replace h := olet_s ew6 h
            obtain rfl := os1 h
            exact W.vret hx hb hr (fun t ht hW => ⟨⟨(), rfl, trivial, by show va_P _ _ _ t.heap; rw [ht]; exact hP⟩, hS.F ht⟩) hS.2.2 dX5_note_71
        · replace h := oi_f hc h
          obtain rfl := os1 h
          exact W.vret hx hb hr (fun t ht hW => ⟨⟨(), rfl, trivial, by show va_P _ _ _ t.heap; rw [ht]; exact hP⟩, hS.F ht⟩) hS.2.2 dX5_note_32
theorem k_X5_note {p : Program} {l : Launch} {e : Env} {R : Room} {s : State} {m : MethodId} {args : Array Value} {below : List Frame} {meth : Method} {c : Code} {H : Heap} {locs : List Loc} {cells slots : Nat} {Q : State → Prop} {cc : ByteArray} {pc nL idx : Nat} {ls : Array Slot} {rest : List Value} {own : String} {D : va_G} {cI : ClassId} {a : Nat → Nat} {H0 : Heap} {φ : M2} {p1 : Int32} {p2 : Int32} {φr : M2} (S : CallFix p m c cc nL s args AW own) (h1 : Cond.methodLink own idx yX5_note ∈ AW) (hR : 0 + 1 ≤ R.frames ∧ 8 + (3 + 11) + 0 ≤ R.locals) (hc : cells ≤ R.cells ∧ slots ≤ R.slots) (hP : va_P D vwCl (fbW cI a φ) H) (hK : va_K D vwCl [(cI, .int)] s) (hDT : ∀ (φ2 : M2), va_D (fun _ => True) (fbW cI a φ2)) (hS : va_S (fbA a) H0 H locs) (hF : G_X5_note φ p1 p2 = some φr) (hsz : ls.size = nL) (hW : (rest.map fun v => v.category).sum ≤ 8) (hdg : decode cc pc = .ok (.invokevirtual idx, 3)) (kk : ∀ (H1 : Heap) (locs1 : List Loc), va_P D vwCl (fbW cI a φr) H1 → va_S (fbA a) H0 H1 locs1 → W p l e R s m args below meth c H1 locs1 cells slots Q (F0 m (pc + 3) ls (rest))) : W p l e R s m args below meth c H locs cells slots Q (F0 m pc ls (.int p2 :: .int p1 :: .ref (a 8) :: rest)) :=
  fm_runVv (n := 2) (C := RX5) (As := [.int p1, .int p2]) S (c_X5_note l D cI a φ p1 p2 φr hF) (F_pre (q0 := 8) (ci := 3) hK hP (hDT _) rfl rfl) hS h1 aI_X5_note aV_X5_note aN_RX5 aC_X5_note rfl rfl (by decide +kernel) rfl hR hc hsz hW hdg (fun H1 locs1 hP1 hS1 => kk H1 locs1 hP1 hS1)
set_option maxHeartbeats 4000000 in
set_option maxRecDepth 100000 in
theorem c_X5_size (l : Launch) (D : va_G) (cI : ClassId) (a : Nat → Nat) (φ : M2) (r0 : Int32) (hF : G_X5_size φ = r0) : Met l yX5_size (wsA yX5_size cX5_size 1 (some .int)) { frames := 0, cells := 0, slots := 0, locals := 0 } (va_Pc [.ref (a 8)] (fbP D cI a φ)) (vp_Si (fun r => r = r0)) 0 0 (fun _ => False) := by
  refine Met.ofW (cc := cX5_size) (maxL := 1) (ret := (some .int)) (by decide) rfl ?_
  intro p e s m args below meth c s₁ B hml hpre
  obtain ⟨rfl, hP, hK, hD0⟩ := hpre
  have hx := B.exec
  have hb := B.bytes
  have hr := B.returns
  have hA : ∀ w ∈ AW, w.before _ s = true := fun w h => atoms_spec (ws := wsA yX5_size cX5_size 1 (some .int)) B.pre w (List.mem_cons_of_mem _ h)
  have hown : s.vm.findClass RX5 = some m.cls := findClass_of_methodNamed B.named
  have hlocks := B.notSynchronized
  have hDT := F_dT hD0
  have S : CallFix p m c cX5_size 1 s ([.ref (a 8)] : List Value).toArray AW RX5 := ⟨hx, hb, hml, hown, hA⟩
  have hl := lv_entry ([.ref (a 8)]) (n := 1) (Nat.le_of_ble_eq_true rfl)
  rw [lg_entry_eq]
  generalize (lg_sl ([.ref (a 8)]) ++ List.replicate (1 - (lg_sl ([.ref (a 8)])).length) Slot.unset).toArray = ls at hl ⊢
  have hl : lv_has ls 1 [(0, .ref (a 8))] := hl
  have h := hF
  unfold G_X5_size at h
  refine lv_aload_n hx hb dX5_size_0 rfl (lv_at hl 0 rfl) ?_
  refine F_g8_2 hx hb hA hown aF_RX5_18 hK hP dX5_size_1 ?_
  subst h
  exact W.iret (v := (φ 8 2)) hx hb hr (fun t ht hW => ⟨_, rfl, rfl, ht⟩) (fun q hq => absurd hq List.not_mem_nil) dX5_size_4
theorem k_X5_size {p : Program} {l : Launch} {e : Env} {R : Room} {s : State} {m : MethodId} {args : Array Value} {below : List Frame} {meth : Method} {c : Code} {H : Heap} {locs : List Loc} {cells slots : Nat} {Q : State → Prop} {cc : ByteArray} {pc nL idx : Nat} {ls : Array Slot} {rest : List Value} {own : String} {D : va_G} {cI : ClassId} {a : Nat → Nat} {φ : M2} (S : CallFix p m c cc nL s args AW own) (h1 : Cond.methodLink own idx yX5_size ∈ AW) (hR : 0 + 1 ≤ R.frames ∧ 8 + (1 + 11) + 0 ≤ R.locals) (hc : cells ≤ R.cells ∧ slots ≤ R.slots) (hP : va_P D vwCl (fbW cI a φ) H) (hK : va_K D vwCl [(cI, .int)] s) (hDT : ∀ (φ2 : M2), va_D (fun _ => True) (fbW cI a φ2)) (hsz : ls.size = nL) (hW : (rest.map fun v => v.category).sum ≤ 8) (hdg : decode cc pc = .ok (.invokevirtual idx, 3)) (kk : ∀ r : Int32, r = G_X5_size φ → W p l e R s m args below meth c H locs cells slots Q (F0 m (pc + 3) ls (.int r :: rest))) : W p l e R s m args below meth c H locs cells slots Q (F0 m pc ls (.ref (a 8) :: rest)) :=
  fm_runV (n := 0) (C := RX5) (As := []) S (c_X5_size l D cI a φ _ rfl) (F_pre (q0 := 8) (ci := 3) hK hP (hDT _) rfl rfl) h1 aI_X5_size aV_X5_size aN_RX5 aC_X5_size rfl rfl (by decide +kernel) rfl hR hc hsz hW hdg (fun r hr => kk r hr)
set_option maxHeartbeats 4000000 in
set_option maxRecDepth 100000 in
theorem c_X5_bucketAt (l : Launch) (D : va_G) (cI : ClassId) (a : Nat → Nat) (φ : M2) (p1 : Int32) (r0 : Int32) (hF : G_X5_bucketAt φ p1 = some r0) : Met l yX5_bucketAt (wsA yX5_bucketAt cX5_bucketAt 2 (some .int)) { frames := 0, cells := 0, slots := 0, locals := 0 } (va_Pc [.ref (a 8), .int p1] (fbP D cI a φ)) (vp_Si (fun r => r = r0)) 0 0 (fun _ => False) := by
  refine Met.ofW (cc := cX5_bucketAt) (maxL := 2) (ret := (some .int)) (by decide) rfl ?_
  intro p e s m args below meth c s₁ B hml hpre
  obtain ⟨rfl, hP, hK, hD0⟩ := hpre
  have hx := B.exec
  have hb := B.bytes
  have hr := B.returns
  have hA : ∀ w ∈ AW, w.before _ s = true := fun w h => atoms_spec (ws := wsA yX5_bucketAt cX5_bucketAt 2 (some .int)) B.pre w (List.mem_cons_of_mem _ h)
  have hown : s.vm.findClass RX5 = some m.cls := findClass_of_methodNamed B.named
  have hlocks := B.notSynchronized
  have hDT := F_dT hD0
  have S : CallFix p m c cX5_bucketAt 2 s ([.ref (a 8), .int p1] : List Value).toArray AW RX5 := ⟨hx, hb, hml, hown, hA⟩
  have hl := lv_entry ([.ref (a 8), .int p1]) (n := 2) (Nat.le_of_ble_eq_true rfl)
  rw [lg_entry_eq]
  generalize (lg_sl ([.ref (a 8), .int p1]) ++ List.replicate (2 - (lg_sl ([.ref (a 8), .int p1])).length) Slot.unset).toArray = ls at hl ⊢
  have hl : lv_has ls 2 [(0, .ref (a 8)), (1, .int p1)] := hl
  have h := hF
  unfold G_X5_bucketAt at h
  refine lv_iload_n hx hb dX5_bucketAt_0 rfl (lv_at hl 1 rfl) ?_
  refine lv_if_lt (tgt := 22) hx hb dX5_bucketAt_1 (by decide) (fun hc => ?_) (fun hc => ?_)
  · replace h := oi_t hc h
    refine lv_iconst (v := (-1)) hx hb dX5_bucketAt_22 (by decide) ?_
    obtain rfl := os1 h
    exact W.iret (v := (-1)) hx hb hr (fun t ht hW => ⟨_, rfl, rfl, ht⟩) (fun q hq => absurd hq List.not_mem_nil) dX5_bucketAt_23
  · replace h := oi_f hc h
    refine lv_iload_n hx hb dX5_bucketAt_4 rfl (lv_at hl 1 rfl) ?_
    refine lv_aload_n hx hb dX5_bucketAt_5 rfl (lv_at hl 0 rfl) ?_
    refine F_g8_0 hx hb hA hown aF_RX5_9 hK hP dX5_bucketAt_6 ?_
    refine F_ln9 hx hb hK hP dX5_bucketAt_9 ?_
    refine lv_icmp_ge (tgt := 22) hx hb dX5_bucketAt_10 (by decide) (fun hc => ?_) (fun hc => ?_)
    · replace h := oi_t hc h
      refine lv_iconst (v := (-1)) hx hb dX5_bucketAt_22 (by decide) ?_
      obtain rfl := os1 h
      exact W.iret (v := (-1)) hx hb hr (fun t ht hW => ⟨_, rfl, rfl, ht⟩) (fun q hq => absurd hq List.not_mem_nil) dX5_bucketAt_23
    · replace h := oi_f hc h
      refine lv_aload_n hx hb dX5_bucketAt_13 rfl (lv_at hl 0 rfl) ?_
      refine F_g8_0 hx hb hA hown aF_RX5_9 hK hP dX5_bucketAt_14 ?_
      refine lv_iload_n hx hb dX5_bucketAt_17 rfl (lv_at hl 1 rfl) ?_
      obtain ⟨i1, h⟩ := oin_e h
      refine F_ld9 hx hb hK hP i1 dX5_bucketAt_18 ?_
      refine lv_goto (tgt := 23) hx hb dX5_bucketAt_19 (by decide) ?_
      obtain rfl := os1 h
      exact W.iret (v := (φ 9 p1.toNatClampNeg)) hx hb hr (fun t ht hW => ⟨_, rfl, rfl, ht⟩) (fun q hq => absurd hq List.not_mem_nil) dX5_bucketAt_23
theorem k_X5_bucketAt {p : Program} {l : Launch} {e : Env} {R : Room} {s : State} {m : MethodId} {args : Array Value} {below : List Frame} {meth : Method} {c : Code} {H : Heap} {locs : List Loc} {cells slots : Nat} {Q : State → Prop} {cc : ByteArray} {pc nL idx : Nat} {ls : Array Slot} {rest : List Value} {own : String} {D : va_G} {cI : ClassId} {a : Nat → Nat} {φ : M2} {p1 : Int32} {r0 : Int32} (S : CallFix p m c cc nL s args AW own) (h1 : Cond.methodLink own idx yX5_bucketAt ∈ AW) (hR : 0 + 1 ≤ R.frames ∧ 8 + (2 + 11) + 0 ≤ R.locals) (hc : cells ≤ R.cells ∧ slots ≤ R.slots) (hP : va_P D vwCl (fbW cI a φ) H) (hK : va_K D vwCl [(cI, .int)] s) (hDT : ∀ (φ2 : M2), va_D (fun _ => True) (fbW cI a φ2)) (hF : G_X5_bucketAt φ p1 = some r0) (hsz : ls.size = nL) (hW : (rest.map fun v => v.category).sum ≤ 8) (hdg : decode cc pc = .ok (.invokevirtual idx, 3)) (kk : W p l e R s m args below meth c H locs cells slots Q (F0 m (pc + 3) ls (.int r0 :: rest))) : W p l e R s m args below meth c H locs cells slots Q (F0 m pc ls (.int p1 :: .ref (a 8) :: rest)) :=
  fm_runV (n := 1) (C := RX5) (As := [.int p1]) S (c_X5_bucketAt l D cI a φ p1 r0 hF) (F_pre (q0 := 8) (ci := 3) hK hP (hDT _) rfl rfl) h1 aI_X5_bucketAt aV_X5_bucketAt aN_RX5 aC_X5_bucketAt rfl rfl (by decide +kernel) rfl hR hc hsz hW hdg (fun r hr => by subst hr; exact kk)
set_option maxHeartbeats 4000000 in
set_option maxRecDepth 100000 in
theorem c_X2_endOfChain (l : Launch) (D : va_G) (cI : ClassId) (a : Nat → Nat) (N : Nat) (φ : M2) (p1 : Int32) (p2 : Int32) (r0 : Int32) (φr : M2) (hF : G_X2_endOfChain N φ p1 p2 = some (r0, φr)) : Met l yX2_endOfChain (wsA yX2_endOfChain cX2_endOfChain 7 (some .int)) { frames := 2, cells := 0, slots := 0, locals := 44 } (va_Pc [.ref (a 0), .int p1, .int p2] (fbP D cI a φ)) (va_Qi (fun (r : Int32) (_ : Unit) => r = r0) (fun _ t => va_P D vwCl (fbW cI a φr) t.heap) (fbA a)) 0 0 (fbA a) := by
  refine Met.ofW (cc := cX2_endOfChain) (maxL := 7) (ret := (some .int)) (by decide) rfl ?_
  intro p e s m args below meth c s₁ B hml hpre
  obtain ⟨rfl, hP, hK, hD0⟩ := hpre
  have hx := B.exec
  have hb := B.bytes
  have hr := B.returns
  have hA : ∀ w ∈ AW, w.before _ s = true := fun w h => atoms_spec (ws := wsA yX2_endOfChain cX2_endOfChain 7 (some .int)) B.pre w (List.mem_cons_of_mem _ h)
  have hown : s.vm.findClass RX2 = some m.cls := findClass_of_methodNamed B.named
  have hlocks := B.notSynchronized
  have hDT := F_dT hD0
  have hDA := F_dA hD0
  have hS : va_S (fbA a) s.heap s.heap [] := va_S.rf
  have S : CallFix p m c cX2_endOfChain 7 s ([.ref (a 0), .int p1, .int p2] : List Value).toArray AW RX2 := ⟨hx, hb, hml, hown, hA⟩
  have hl := lv_entry ([.ref (a 0), .int p1, .int p2]) (n := 7) (Nat.le_of_ble_eq_true rfl)
  rw [lg_entry_eq]
  generalize (lg_sl ([.ref (a 0), .int p1, .int p2]) ++ List.replicate (7 - (lg_sl ([.ref (a 0), .int p1, .int p2])).length) Slot.unset).toArray = ls at hl ⊢
  have hl : lv_has ls 7 [(0, .ref (a 0)), (1, .int p1), (2, .int p2)] := hl
  have hL70 : ∀ (k : Nat) (v3 : Int32) (v4 : Int32) (v5 : Int32) (φ : M2) (H : Heap) (locs : List Loc) (ls : Array Slot) (φo : M2), L_X2_endOfChain_70 N v3 v4 k v5 φ = some φo → va_P D vwCl (fbW cI a φ) H → va_S (fbA a) s.heap H locs → lv_has ls 7 [(0, .ref (a 0)), (3, .int v3), (4, .int v4), (5, .int v5)] → (∀ (H1 : Heap) (locs1 : List Loc) (ls1 : Array Slot), va_P D vwCl (fbW cI a φo) H1 → va_S (fbA a) s.heap H1 locs1 → lv_has ls1 7 [(0, .ref (a 0)), (3, .int v3)] → W p l e (headSpec (wsA yX2_endOfChain cX2_endOfChain 7 (some .int)) { frames := 2, cells := 0, slots := 0, locals := 44 }).room s m ([.ref (a 0), .int p1, .int p2] : List Value).toArray below meth c H1 locs1 0 0 (MQ below (va_Qi (fun (r : Int32) (_ : Unit) => r = r0) (fun _ t => va_P D vwCl (fbW cI a φr) t.heap) (fbA a)) ([.ref (a 0), .int p1, .int p2] : List Value).toArray s 0 0 (fbA a)) (F0 m 121 ls1 [])) → W p l e (headSpec (wsA yX2_endOfChain cX2_endOfChain 7 (some .int)) { frames := 2, cells := 0, slots := 0, locals := 44 }).room s m ([.ref (a 0), .int p1, .int p2] : List Value).toArray below meth c H locs 0 0 (MQ below (va_Qi (fun (r : Int32) (_ : Unit) => r = r0) (fun _ t => va_P D vwCl (fbW cI a φr) t.heap) (fbA a)) ([.ref (a 0), .int p1, .int p2] : List Value).toArray s 0 0 (fbA a)) (F0 m 70 ls []) := by
    intro k
    induction k with
    | zero =>
      intro v3 v4 v5 φ H locs ls φo h hP hS hl kk
      exact no_s h
    | succ k ih =>
      intro v3 v4 v5 φ H locs ls φo h hP hS hl kk
      replace h : B_X2_endOfChain_70 N v3 v4 (L_X2_endOfChain_70 N v3 v4 k) v5 φ = some φo := h
      unfold B_X2_endOfChain_70 at h
      refine lv_iload hx hb dX2_endOfChain_70 (lv_at hl 3 rfl) ?_
      refine lv_aload_n hx hb dX2_endOfChain_72 rfl (lv_at hl 0 rfl) ?_
      refine F_g0_1 hx hb hA hown aF_RX2_15 hK hP dX2_endOfChain_73 ?_
      refine lv_icmp_ge (tgt := 121) hx hb dX2_endOfChain_76 (by decide) (fun hc => ?_) (fun hc => ?_)
      · replace h := oi_t hc h
        obtain rfl := os1 h
        exact kk _ _ _ hP hS (lv_sub hl [0, 1] rfl)
      · replace h := oi_f hc h
        refine lv_iload hx hb dX2_endOfChain_79 (lv_at hl 2 rfl) ?_
        refine lv_iload hx hb dX2_endOfChain_81 (lv_at hl 3 rfl) ?_
        refine k_X2_placeIn S aM_RX2_116 ⟨Nat.le_of_ble_eq_true rfl, Nat.le_of_ble_eq_true rfl⟩ ⟨Nat.zero_le _, Nat.zero_le _⟩ hl.1 (Nat.le_of_ble_eq_true rfl) dX2_endOfChain_83 (fun r12 er12 => ?_)
        replace h := olet_s er12 h
        refine lv_istore (lv' := [(6, .int r12), (0, .ref (a 0)), (3, .int v3), (4, .int v4), (5, .int v5)]) hx hb dX2_endOfChain_86 hl (by decide) rfl (fun ls hl => ?_)
        refine lv_aload_n hx hb dX2_endOfChain_88 rfl (lv_at hl 1 rfl) ?_
        refine F_g0_10 hx hb hA hown aF_RX2_51 hK hP dX2_endOfChain_89 ?_
        refine lv_iload hx hb dX2_endOfChain_92 (lv_at hl 3 rfl) ?_
        refine lv_aload_n hx hb dX2_endOfChain_94 rfl (lv_at hl 1 rfl) ?_
        refine lv_iload hx hb dX2_endOfChain_95 (lv_at hl 0 rfl) ?_
        obtain ⟨r13, h14, h⟩ := obd_e h
        refine k_X2_cellAt S aM_RX2_119 ⟨Nat.le_of_ble_eq_true rfl, Nat.le_of_ble_eq_true rfl⟩ ⟨Nat.zero_le _, Nat.zero_le _⟩ hP hK hDT h14 hl.1 (Nat.le_of_ble_eq_true rfl) dX2_endOfChain_97 ?_
        refine k_X1_tagOf S aM_RX2_91 ⟨Nat.le_of_ble_eq_true rfl, Nat.le_of_ble_eq_true rfl⟩ ⟨Nat.zero_le _, Nat.zero_le _⟩ hl.1 (Nat.le_of_ble_eq_true rfl) dX2_endOfChain_100 (fun r15 er15 => ?_)
        replace h := olet_s er15 h
        refine lv_aload_n hx hb dX2_endOfChain_103 rfl (lv_at hl 1 rfl) ?_
        refine F_g0_0 hx hb hA hown aF_RX2_9 hK hP dX2_endOfChain_104 ?_
        refine k_X0_partner S aM_RX2_94 ⟨Nat.le_of_ble_eq_true rfl, Nat.le_of_ble_eq_true rfl⟩ ⟨Nat.zero_le _, Nat.zero_le _⟩ hl.1 (Nat.le_of_ble_eq_true rfl) dX2_endOfChain_107 (fun r16 er16 => ?_)
        replace h := olet_s er16 h
        refine lv_iload hx hb dX2_endOfChain_110 (lv_at hl 0 rfl) ?_
        obtain ⟨w17, h18, h⟩ := obd_e h
        refine k_X5_note S aM_RX2_229 ⟨Nat.le_of_ble_eq_true rfl, Nat.le_of_ble_eq_true rfl⟩ ⟨Nat.zero_le _, Nat.zero_le _⟩ hP hK hDT hS h18 hl.1 (Nat.le_of_ble_eq_true rfl) dX2_endOfChain_112 (fun H locs hP hS => ?_)
        refine lv_iinc (v := v5 + 1) (lv' := [(5, .int (v5 + 1)), (6, .int r12), (0, .ref (a 0)), (3, .int v3), (4, .int v4)]) hx hb dX2_endOfChain_115 hl (k := 4) rfl (fm_inc _ _ _ (by decide)) (by decide) rfl (fun ls hl => ?_)
        refine lv_goto (tgt := 70) hx hb dX2_endOfChain_118 (by decide) ?_
        exact ih _ _ _ _ _ _ _ _ h hP hS (lv_sub hl [2, 3, 4, 0] rfl) kk
  have hL27 : ∀ (k : Nat) (v3 : Int32) (φ : M2) (H : Heap) (locs : List Loc) (ls : Array Slot) , L_X2_endOfChain_27 N k v3 φ = some (r0, φr) → va_P D vwCl (fbW cI a φ) H → va_S (fbA a) s.heap H locs → lv_has ls 7 [(0, .ref (a 0)), (3, .int v3)] → W p l e (headSpec (wsA yX2_endOfChain cX2_endOfChain 7 (some .int)) { frames := 2, cells := 0, slots := 0, locals := 44 }).room s m ([.ref (a 0), .int p1, .int p2] : List Value).toArray below meth c H locs 0 0 (MQ below (va_Qi (fun (r : Int32) (_ : Unit) => r = r0) (fun _ t => va_P D vwCl (fbW cI a φr) t.heap) (fbA a)) ([.ref (a 0), .int p1, .int p2] : List Value).toArray s 0 0 (fbA a)) (F0 m 27 ls []) := by
    intro k
    induction k with
    | zero =>
      intro v3 φ H locs ls h hP hS hl
      exact no_s h
    | succ k ih =>
      intro v3 φ H locs ls h hP hS hl
      replace h : B_X2_endOfChain_27 N (L_X2_endOfChain_27 N k) v3 φ = some (r0, φr) := h
      unfold B_X2_endOfChain_27 at h
      refine lv_iload_n hx hb dX2_endOfChain_27 rfl (lv_at hl 1 rfl) ?_
      refine lv_bipush (v := 64) hx hb dX2_endOfChain_28 (by decide) ?_
      refine lv_icmp_ge (tgt := 127) hx hb dX2_endOfChain_30 (by decide) (fun hc => ?_) (fun hc => ?_)
      · replace h := oi_t hc h
        refine lv_iconst (v := (-1)) hx hb dX2_endOfChain_127 (by decide) ?_
        obtain ⟨rfl, rfl⟩ := os2 h
        exact W.iret (v := (-1)) hx hb hr (fun t ht hW => ⟨⟨_, (), rfl, rfl, by show va_P _ _ _ t.heap; rw [ht]; exact hP⟩, hS.F ht⟩) hS.2.2 dX2_endOfChain_128
      · replace h := oi_f hc h
        refine lv_iload_n hx hb dX2_endOfChain_33 rfl (lv_at hl 1 rfl) ?_
        refine lv_aload_n hx hb dX2_endOfChain_34 rfl (lv_at hl 0 rfl) ?_
        refine F_g0_10 hx hb hA hown aF_RX2_51 hK hP dX2_endOfChain_35 ?_
        refine k_X5_size S aM_RX2_230 ⟨Nat.le_of_ble_eq_true rfl, Nat.le_of_ble_eq_true rfl⟩ ⟨Nat.zero_le _, Nat.zero_le _⟩ hP hK hDT hl.1 (Nat.le_of_ble_eq_true rfl) dX2_endOfChain_38 (fun r7 er7 => ?_)
        replace h := olet_s er7 h
        refine lv_icmp_ge (tgt := 127) hx hb dX2_endOfChain_41 (by decide) (fun hc => ?_) (fun hc => ?_)
        · replace h := oi_t hc h
          refine lv_iconst (v := (-1)) hx hb dX2_endOfChain_127 (by decide) ?_
          obtain ⟨rfl, rfl⟩ := os2 h
          exact W.iret (v := (-1)) hx hb hr (fun t ht hW => ⟨⟨_, (), rfl, rfl, by show va_P _ _ _ t.heap; rw [ht]; exact hP⟩, hS.F ht⟩) hS.2.2 dX2_endOfChain_128
        · replace h := oi_f hc h
          refine lv_aload_n hx hb dX2_endOfChain_44 rfl (lv_at hl 0 rfl) ?_
          refine F_g0_10 hx hb hA hown aF_RX2_51 hK hP dX2_endOfChain_45 ?_
          refine lv_iload_n hx hb dX2_endOfChain_48 rfl (lv_at hl 1 rfl) ?_
          obtain ⟨r8, h9, h⟩ := obd_e h
          refine k_X5_bucketAt S aM_RX2_231 ⟨Nat.le_of_ble_eq_true rfl, Nat.le_of_ble_eq_true rfl⟩ ⟨Nat.zero_le _, Nat.zero_le _⟩ hP hK hDT h9 hl.1 (Nat.le_of_ble_eq_true rfl) dX2_endOfChain_49 ?_
          refine lv_istore (lv' := [(4, .int r8), (0, .ref (a 0)), (3, .int v3)]) hx hb dX2_endOfChain_52 hl (by decide) rfl (fun ls hl => ?_)
          refine lv_aload_n hx hb dX2_endOfChain_54 rfl (lv_at hl 1 rfl) ?_
          refine lv_iload hx hb dX2_endOfChain_55 (lv_at hl 0 rfl) ?_
          obtain ⟨r10, h11, h⟩ := obd_e h
          refine k_X2_freePlace S aM_RX2_213 ⟨Nat.le_of_ble_eq_true rfl, Nat.le_of_ble_eq_true rfl⟩ ⟨Nat.zero_le _, Nat.zero_le _⟩ hP hK hDT h11 hl.1 (Nat.le_of_ble_eq_true rfl) dX2_endOfChain_57 ?_
          refine lv_iconst (v := (-1)) hx hb dX2_endOfChain_60 (by decide) ?_
          refine lv_icmp_eq (tgt := 67) hx hb dX2_endOfChain_61 (by decide) (fun hc => ?_) (fun hc => ?_)
          · replace h := oi_t hc h
            refine lv_iconst (v := 0) hx hb dX2_endOfChain_67 (by decide) ?_
            refine lv_istore (lv' := [(5, .int 0), (4, .int r8), (0, .ref (a 0)), (3, .int v3)]) hx hb dX2_endOfChain_68 hl (by decide) rfl (fun ls hl => ?_)
            obtain ⟨w19, h20, h⟩ := obd_e h
            refine hL70 N _ _ _ _ _ _ _ _ h20 hP hS (lv_sub hl [2, 3, 1, 0] rfl) (fun H locs ls hP hS hl => ?_)
            refine lv_iinc (v := v3 + 1) (lv' := [(3, .int (v3 + 1)), (0, .ref (a 0))]) hx hb dX2_endOfChain_121 hl (k := 1) rfl (fm_inc _ _ _ (by decide)) (by decide) rfl (fun ls hl => ?_)
            refine lv_goto (tgt := 27) hx hb dX2_endOfChain_124 (by decide) ?_
            exact ih _ _ _ _ _  h hP hS (lv_sub hl [1, 0] rfl)
          · replace h := oi_f hc h
            refine lv_iload hx hb dX2_endOfChain_64 (lv_at hl 0 rfl) ?_
            obtain ⟨rfl, rfl⟩ := os2 h
            exact W.iret (v := r8) hx hb hr (fun t ht hW => ⟨⟨_, (), rfl, rfl, by show va_P _ _ _ t.heap; rw [ht]; exact hP⟩, hS.F ht⟩) hS.2.2 dX2_endOfChain_66
  have h := hF
  unfold G_X2_endOfChain at h
  refine lv_aload_n hx hb dX2_endOfChain_0 rfl (lv_at hl 0 rfl) ?_
  refine F_g0_10 hx hb hA hown aF_RX2_51 hK hP dX2_endOfChain_1 ?_
  obtain ⟨w1, h2, h⟩ := obd_e h
  refine k_X5_restart S aM_RX2_228 ⟨Nat.le_of_ble_eq_true rfl, Nat.le_of_ble_eq_true rfl⟩ ⟨Nat.zero_le _, Nat.zero_le _⟩ hP hK hDT hS h2 hl.1 (Nat.le_of_ble_eq_true rfl) dX2_endOfChain_4 (fun H locs hP hS => ?_)
  refine lv_aload_n hx hb dX2_endOfChain_7 rfl (lv_at hl 0 rfl) ?_
  refine F_g0_10 hx hb hA hown aF_RX2_51 hK hP dX2_endOfChain_8 ?_
  refine lv_iload_n hx hb dX2_endOfChain_11 rfl (lv_at hl 1 rfl) ?_
  refine lv_iconst (v := (-1)) hx hb dX2_endOfChain_12 (by decide) ?_
  obtain ⟨w3, h4, h⟩ := obd_e h
  refine k_X5_note S aM_RX2_229 ⟨Nat.le_of_ble_eq_true rfl, Nat.le_of_ble_eq_true rfl⟩ ⟨Nat.zero_le _, Nat.zero_le _⟩ hP hK hDT hS h4 hl.1 (Nat.le_of_ble_eq_true rfl) dX2_endOfChain_13 (fun H locs hP hS => ?_)
  refine lv_aload_n hx hb dX2_endOfChain_16 rfl (lv_at hl 0 rfl) ?_
  refine F_g0_10 hx hb hA hown aF_RX2_51 hK hP dX2_endOfChain_17 ?_
  refine lv_iload_n hx hb dX2_endOfChain_20 rfl (lv_at hl 2 rfl) ?_
  refine lv_iconst (v := (-1)) hx hb dX2_endOfChain_21 (by decide) ?_
  obtain ⟨w5, h6, h⟩ := obd_e h
  refine k_X5_note S aM_RX2_229 ⟨Nat.le_of_ble_eq_true rfl, Nat.le_of_ble_eq_true rfl⟩ ⟨Nat.zero_le _, Nat.zero_le _⟩ hP hK hDT hS h6 hl.1 (Nat.le_of_ble_eq_true rfl) dX2_endOfChain_22 (fun H locs hP hS => ?_)
  refine lv_iconst (v := 0) hx hb dX2_endOfChain_25 (by decide) ?_
  refine lv_istore_n (lv' := [(3, .int 0), (0, .ref (a 0)), (1, .int p1), (2, .int p2)]) hx hb dX2_endOfChain_26 rfl hl (by decide) rfl (fun ls hl => ?_)
  exact hL27 N _ _ _ _ _ h hP hS (lv_sub hl [1, 0] rfl)
theorem k_X2_endOfChain {p : Program} {l : Launch} {e : Env} {R : Room} {s : State} {m : MethodId} {args : Array Value} {below : List Frame} {meth : Method} {c : Code} {H : Heap} {locs : List Loc} {cells slots : Nat} {Q : State → Prop} {cc : ByteArray} {pc nL idx : Nat} {ls : Array Slot} {rest : List Value} {own : String} {D : va_G} {cI : ClassId} {a : Nat → Nat} {H0 : Heap} {N : Nat} {φ : M2} {p1 : Int32} {p2 : Int32} {r0 : Int32} {φr : M2} (S : CallFix p m c cc nL s args AW own) (h1 : Cond.methodLink own idx yX2_endOfChain ∈ AW) (hR : 2 + 1 ≤ R.frames ∧ 8 + (7 + 11) + 44 ≤ R.locals) (hc : cells ≤ R.cells ∧ slots ≤ R.slots) (hP : va_P D vwCl (fbW cI a φ) H) (hK : va_K D vwCl [(cI, .int)] s) (hDT : ∀ (φ2 : M2), va_D (fun _ => True) (fbW cI a φ2)) (hS : va_S (fbA a) H0 H locs) (hF : G_X2_endOfChain N φ p1 p2 = some (r0, φr)) (hsz : ls.size = nL) (hW : (rest.map fun v => v.category).sum ≤ 8) (hdg : decode cc pc = .ok (.invokevirtual idx, 3)) (kk : ∀ (H1 : Heap) (locs1 : List Loc), va_P D vwCl (fbW cI a φr) H1 → va_S (fbA a) H0 H1 locs1 → W p l e R s m args below meth c H1 locs1 cells slots Q (F0 m (pc + 3) ls (.int r0 :: rest))) : W p l e R s m args below meth c H locs cells slots Q (F0 m pc ls (.int p2 :: .int p1 :: .ref (a 0) :: rest)) :=
  fm_runVi (n := 2) (C := RX2) (As := [.int p1, .int p2]) S (c_X2_endOfChain l D cI a N φ p1 p2 r0 φr hF) (F_pre (q0 := 0) (ci := 0) hK hP (hDT _) rfl rfl) hS h1 aI_X2_endOfChain aV_X2_endOfChain aN_RX2 aC_X2_endOfChain rfl rfl (by decide +kernel) rfl hR hc hsz hW hdg (fun r H1 locs1 hr hP1 hS1 => by subst hr; exact kk H1 locs1 hP1 hS1)
set_option maxHeartbeats 4000000 in
set_option maxRecDepth 100000 in
theorem c_X5_placeBefore (l : Launch) (D : va_G) (cI : ClassId) (a : Nat → Nat) (φ : M2) (p1 : Int32) (r0 : Int32) (hF : G_X5_placeBefore φ p1 = some r0) : Met l yX5_placeBefore (wsA yX5_placeBefore cX5_placeBefore 2 (some .int)) { frames := 0, cells := 0, slots := 0, locals := 0 } (va_Pc [.ref (a 8), .int p1] (fbP D cI a φ)) (vp_Si (fun r => r = r0)) 0 0 (fun _ => False) := by
  refine Met.ofW (cc := cX5_placeBefore) (maxL := 2) (ret := (some .int)) (by decide) rfl ?_
  intro p e s m args below meth c s₁ B hml hpre
  obtain ⟨rfl, hP, hK, hD0⟩ := hpre
  have hx := B.exec
  have hb := B.bytes
  have hr := B.returns
  have hA : ∀ w ∈ AW, w.before _ s = true := fun w h => atoms_spec (ws := wsA yX5_placeBefore cX5_placeBefore 2 (some .int)) B.pre w (List.mem_cons_of_mem _ h)
  have hown : s.vm.findClass RX5 = some m.cls := findClass_of_methodNamed B.named
  have hlocks := B.notSynchronized
  have hDT := F_dT hD0
  have S : CallFix p m c cX5_placeBefore 2 s ([.ref (a 8), .int p1] : List Value).toArray AW RX5 := ⟨hx, hb, hml, hown, hA⟩
  have hl := lv_entry ([.ref (a 8), .int p1]) (n := 2) (Nat.le_of_ble_eq_true rfl)
  rw [lg_entry_eq]
  generalize (lg_sl ([.ref (a 8), .int p1]) ++ List.replicate (2 - (lg_sl ([.ref (a 8), .int p1])).length) Slot.unset).toArray = ls at hl ⊢
  have hl : lv_has ls 2 [(0, .ref (a 8)), (1, .int p1)] := hl
  have h := hF
  unfold G_X5_placeBefore at h
  refine lv_iload_n hx hb dX5_placeBefore_0 rfl (lv_at hl 1 rfl) ?_
  refine lv_if_lt (tgt := 22) hx hb dX5_placeBefore_1 (by decide) (fun hc => ?_) (fun hc => ?_)
  · replace h := oi_t hc h
    refine lv_iconst (v := (-1)) hx hb dX5_placeBefore_22 (by decide) ?_
    obtain rfl := os1 h
    exact W.iret (v := (-1)) hx hb hr (fun t ht hW => ⟨_, rfl, rfl, ht⟩) (fun q hq => absurd hq List.not_mem_nil) dX5_placeBefore_23
  · replace h := oi_f hc h
    refine lv_iload_n hx hb dX5_placeBefore_4 rfl (lv_at hl 1 rfl) ?_
    refine lv_aload_n hx hb dX5_placeBefore_5 rfl (lv_at hl 0 rfl) ?_
    refine F_g8_1 hx hb hA hown aF_RX5_15 hK hP dX5_placeBefore_6 ?_
    refine F_ln10 hx hb hK hP dX5_placeBefore_9 ?_
    refine lv_icmp_ge (tgt := 22) hx hb dX5_placeBefore_10 (by decide) (fun hc => ?_) (fun hc => ?_)
    · replace h := oi_t hc h
      refine lv_iconst (v := (-1)) hx hb dX5_placeBefore_22 (by decide) ?_
      obtain rfl := os1 h
      exact W.iret (v := (-1)) hx hb hr (fun t ht hW => ⟨_, rfl, rfl, ht⟩) (fun q hq => absurd hq List.not_mem_nil) dX5_placeBefore_23
    · replace h := oi_f hc h
      refine lv_aload_n hx hb dX5_placeBefore_13 rfl (lv_at hl 0 rfl) ?_
      refine F_g8_1 hx hb hA hown aF_RX5_15 hK hP dX5_placeBefore_14 ?_
      refine lv_iload_n hx hb dX5_placeBefore_17 rfl (lv_at hl 1 rfl) ?_
      obtain ⟨i1, h⟩ := oin_e h
      refine F_ld10 hx hb hK hP i1 dX5_placeBefore_18 ?_
      refine lv_goto (tgt := 23) hx hb dX5_placeBefore_19 (by decide) ?_
      obtain rfl := os1 h
      exact W.iret (v := (φ 10 p1.toNatClampNeg)) hx hb hr (fun t ht hW => ⟨_, rfl, rfl, ht⟩) (fun q hq => absurd hq List.not_mem_nil) dX5_placeBefore_23
theorem k_X5_placeBefore {p : Program} {l : Launch} {e : Env} {R : Room} {s : State} {m : MethodId} {args : Array Value} {below : List Frame} {meth : Method} {c : Code} {H : Heap} {locs : List Loc} {cells slots : Nat} {Q : State → Prop} {cc : ByteArray} {pc nL idx : Nat} {ls : Array Slot} {rest : List Value} {own : String} {D : va_G} {cI : ClassId} {a : Nat → Nat} {φ : M2} {p1 : Int32} {r0 : Int32} (S : CallFix p m c cc nL s args AW own) (h1 : Cond.methodLink own idx yX5_placeBefore ∈ AW) (hR : 0 + 1 ≤ R.frames ∧ 8 + (2 + 11) + 0 ≤ R.locals) (hc : cells ≤ R.cells ∧ slots ≤ R.slots) (hP : va_P D vwCl (fbW cI a φ) H) (hK : va_K D vwCl [(cI, .int)] s) (hDT : ∀ (φ2 : M2), va_D (fun _ => True) (fbW cI a φ2)) (hF : G_X5_placeBefore φ p1 = some r0) (hsz : ls.size = nL) (hW : (rest.map fun v => v.category).sum ≤ 8) (hdg : decode cc pc = .ok (.invokevirtual idx, 3)) (kk : W p l e R s m args below meth c H locs cells slots Q (F0 m (pc + 3) ls (.int r0 :: rest))) : W p l e R s m args below meth c H locs cells slots Q (F0 m pc ls (.int p1 :: .ref (a 8) :: rest)) :=
  fm_runV (n := 1) (C := RX5) (As := [.int p1]) S (c_X5_placeBefore l D cI a φ p1 r0 hF) (F_pre (q0 := 8) (ci := 3) hK hP (hDT _) rfl rfl) h1 aI_X5_placeBefore aV_X5_placeBefore aN_RX5 aC_X5_placeBefore rfl rfl (by decide +kernel) rfl hR hc hsz hW hdg (fun r hr => by subst hr; exact kk)
set_option maxHeartbeats 4000000 in
set_option maxRecDepth 100000 in
theorem c_X2_moveAlong (l : Launch) (D : va_G) (cI : ClassId) (a : Nat → Nat) (N : Nat) (φ : M2) (p1 : Int32) (p2 : Int32) (r0 : Int32) (φr : M2) (hF : G_X2_moveAlong N φ p1 p2 = some (r0, φr)) : Met l yX2_moveAlong (wsA yX2_moveAlong cX2_moveAlong 6 (some .int)) { frames := 2, cells := 0, slots := 0, locals := 44 } (va_Pc [.ref (a 0), .int p1, .int p2] (fbP D cI a φ)) (va_Qi (fun (r : Int32) (_ : Unit) => r = r0) (fun _ t => va_P D vwCl (fbW cI a φr) t.heap) (fbA a)) 0 0 (fbA a) := by
  refine Met.ofW (cc := cX2_moveAlong) (maxL := 6) (ret := (some .int)) (by decide) rfl ?_
  intro p e s m args below meth c s₁ B hml hpre
  obtain ⟨rfl, hP, hK, hD0⟩ := hpre
  have hx := B.exec
  have hb := B.bytes
  have hr := B.returns
  have hA : ∀ w ∈ AW, w.before _ s = true := fun w h => atoms_spec (ws := wsA yX2_moveAlong cX2_moveAlong 6 (some .int)) B.pre w (List.mem_cons_of_mem _ h)
  have hown : s.vm.findClass RX2 = some m.cls := findClass_of_methodNamed B.named
  have hlocks := B.notSynchronized
  have hDT := F_dT hD0
  have hDA := F_dA hD0
  have hS : va_S (fbA a) s.heap s.heap [] := va_S.rf
  have S : CallFix p m c cX2_moveAlong 6 s ([.ref (a 0), .int p1, .int p2] : List Value).toArray AW RX2 := ⟨hx, hb, hml, hown, hA⟩
  have hl := lv_entry ([.ref (a 0), .int p1, .int p2]) (n := 6) (Nat.le_of_ble_eq_true rfl)
  rw [lg_entry_eq]
  generalize (lg_sl ([.ref (a 0), .int p1, .int p2]) ++ List.replicate (6 - (lg_sl ([.ref (a 0), .int p1, .int p2])).length) Slot.unset).toArray = ls at hl ⊢
  have hl : lv_has ls 6 [(0, .ref (a 0)), (1, .int p1), (2, .int p2)] := hl
  have hL9 : ∀ (k : Nat) (v2 : Int32) (v3 : Int32) (v4 : Int32) (φ : M2) (H : Heap) (locs : List Loc) (ls : Array Slot) (o3 : Int32) (o4 : Int32) (φo : M2), L_X2_moveAlong_9 N v2 k v3 v4 φ = some (o3, o4, φo) → va_P D vwCl (fbW cI a φ) H → va_S (fbA a) s.heap H locs → lv_has ls 6 [(0, .ref (a 0)), (2, .int v2), (3, .int v3), (4, .int v4)] → (∀ (H1 : Heap) (locs1 : List Loc) (ls1 : Array Slot), va_P D vwCl (fbW cI a φo) H1 → va_S (fbA a) s.heap H1 locs1 → lv_has ls1 6 [(0, .ref (a 0)), (2, .int v2), (3, .int o3), (4, .int o4)] → W p l e (headSpec (wsA yX2_moveAlong cX2_moveAlong 6 (some .int)) { frames := 2, cells := 0, slots := 0, locals := 44 }).room s m ([.ref (a 0), .int p1, .int p2] : List Value).toArray below meth c H1 locs1 0 0 (MQ below (va_Qi (fun (r : Int32) (_ : Unit) => r = r0) (fun _ t => va_P D vwCl (fbW cI a φr) t.heap) (fbA a)) ([.ref (a 0), .int p1, .int p2] : List Value).toArray s 0 0 (fbA a)) (F0 m 56 ls1 [])) → W p l e (headSpec (wsA yX2_moveAlong cX2_moveAlong 6 (some .int)) { frames := 2, cells := 0, slots := 0, locals := 44 }).room s m ([.ref (a 0), .int p1, .int p2] : List Value).toArray below meth c H locs 0 0 (MQ below (va_Qi (fun (r : Int32) (_ : Unit) => r = r0) (fun _ t => va_P D vwCl (fbW cI a φr) t.heap) (fbA a)) ([.ref (a 0), .int p1, .int p2] : List Value).toArray s 0 0 (fbA a)) (F0 m 9 ls []) := by
    intro k
    induction k with
    | zero =>
      intro v2 v3 v4 φ H locs ls o3 o4 φo h hP hS hl kk
      exact no_s h
    | succ k ih =>
      intro v2 v3 v4 φ H locs ls o3 o4 φo h hP hS hl kk
      replace h : B_X2_moveAlong_9 N v2 (L_X2_moveAlong_9 N v2 k) v3 v4 φ = some (o3, o4, φo) := h
      unfold B_X2_moveAlong_9 at h
      refine lv_iload hx hb dX2_moveAlong_9 (lv_at hl 3 rfl) ?_
      refine lv_bipush (v := 64) hx hb dX2_moveAlong_11 (by decide) ?_
      refine lv_icmp_ge (tgt := 56) hx hb dX2_moveAlong_13 (by decide) (fun hc => ?_) (fun hc => ?_)
      · replace h := oi_t hc h
        obtain ⟨rfl, rfl, rfl⟩ := os3 h
        exact kk _ _ _ hP hS (lv_sub hl [0, 1, 2, 3] rfl)
      · replace h := oi_f hc h
        refine lv_aload_n hx hb dX2_moveAlong_16 rfl (lv_at hl 0 rfl) ?_
        refine F_g0_10 hx hb hA hown aF_RX2_51 hK hP dX2_moveAlong_17 ?_
        refine lv_iload_n hx hb dX2_moveAlong_20 rfl (lv_at hl 2 rfl) ?_
        refine lv_iconst (v := 4) hx hb dX2_moveAlong_21 (by decide) ?_
        refine lv_idiv hx hb dX2_moveAlong_22 (by decide) ?_
        obtain ⟨r3, h4, h⟩ := obd_e h
        refine k_X5_placeBefore S aM_RX2_234 ⟨Nat.le_of_ble_eq_true rfl, Nat.le_of_ble_eq_true rfl⟩ ⟨Nat.zero_le _, Nat.zero_le _⟩ hP hK hDT h4 hl.1 (Nat.le_of_ble_eq_true rfl) dX2_moveAlong_23 ?_
        refine lv_istore (lv' := [(5, .int r3), (0, .ref (a 0)), (2, .int v2), (3, .int v3), (4, .int v4)]) hx hb dX2_moveAlong_26 hl (by decide) rfl (fun ls hl => ?_)
        refine lv_iload hx hb dX2_moveAlong_28 (lv_at hl 0 rfl) ?_
        refine lv_if_ge (tgt := 36) hx hb dX2_moveAlong_30 (by decide) (fun hc => ?_) (fun hc => ?_)
        · replace h := oi_t hc h
          refine lv_aload_n hx hb dX2_moveAlong_36 rfl (lv_at hl 1 rfl) ?_
          refine lv_iload_n hx hb dX2_moveAlong_37 rfl (lv_at hl 3 rfl) ?_
          refine lv_aload_n hx hb dX2_moveAlong_38 rfl (lv_at hl 1 rfl) ?_
          refine lv_iload hx hb dX2_moveAlong_39 (lv_at hl 0 rfl) ?_
          obtain ⟨r5, h6, h⟩ := obd_e h
          refine k_X2_cellAt S aM_RX2_119 ⟨Nat.le_of_ble_eq_true rfl, Nat.le_of_ble_eq_true rfl⟩ ⟨Nat.zero_le _, Nat.zero_le _⟩ hP hK hDT h6 hl.1 (Nat.le_of_ble_eq_true rfl) dX2_moveAlong_41 ?_
          obtain ⟨w7, h8, h⟩ := obd_e h
          refine k_X2_setCell S aM_RX2_131 ⟨Nat.le_of_ble_eq_true rfl, Nat.le_of_ble_eq_true rfl⟩ ⟨Nat.zero_le _, Nat.zero_le _⟩ hP hK hDT hS h8 hl.1 (Nat.le_of_ble_eq_true rfl) dX2_moveAlong_44 (fun H locs hP hS => ?_)
          refine lv_iload hx hb dX2_moveAlong_47 (lv_at hl 0 rfl) ?_
          refine lv_istore_n (lv' := [(3, .int r3), (5, .int r3), (0, .ref (a 0)), (2, .int v2), (4, .int v4)]) hx hb dX2_moveAlong_49 rfl hl (by decide) rfl (fun ls hl => ?_)
          refine lv_iinc (v := v4 + 1) (lv' := [(4, .int (v4 + 1)), (3, .int r3), (5, .int r3), (0, .ref (a 0)), (2, .int v2)]) hx hb dX2_moveAlong_50 hl (k := 4) rfl (fm_inc _ _ _ (by decide)) (by decide) rfl (fun ls hl => ?_)
          refine lv_goto (tgt := 9) hx hb dX2_moveAlong_53 (by decide) ?_
          exact ih _ _ _ _ _ _ _ _ _ _ h hP hS (lv_sub hl [3, 4, 1, 0] rfl) kk
        · replace h := oi_f hc h
          refine lv_goto (tgt := 56) hx hb dX2_moveAlong_33 (by decide) ?_
          obtain ⟨rfl, rfl, rfl⟩ := os3 h
          exact kk _ _ _ hP hS (lv_sub hl [1, 2, 3, 4] rfl)
  have h := hF
  unfold G_X2_moveAlong at h
  refine lv_aload_n hx hb dX2_moveAlong_0 rfl (lv_at hl 0 rfl) ?_
  refine lv_iload_n hx hb dX2_moveAlong_1 rfl (lv_at hl 1 rfl) ?_
  obtain ⟨r1, h2, h⟩ := obd_e h
  refine k_X2_freePlace S aM_RX2_213 ⟨Nat.le_of_ble_eq_true rfl, Nat.le_of_ble_eq_true rfl⟩ ⟨Nat.zero_le _, Nat.zero_le _⟩ hP hK hDT h2 hl.1 (Nat.le_of_ble_eq_true rfl) dX2_moveAlong_2 ?_
  refine lv_istore_n (lv' := [(3, .int r1), (0, .ref (a 0)), (1, .int p1), (2, .int p2)]) hx hb dX2_moveAlong_5 rfl hl (by decide) rfl (fun ls hl => ?_)
  refine lv_iconst (v := 0) hx hb dX2_moveAlong_6 (by decide) ?_
  refine lv_istore (lv' := [(4, .int 0), (3, .int r1), (0, .ref (a 0)), (1, .int p1), (2, .int p2)]) hx hb dX2_moveAlong_7 hl (by decide) rfl (fun ls hl => ?_)
  obtain ⟨y9, y10, w11, h12, h⟩ := obd3_e h
  refine hL9 N _ _ _ _ _ _ _ _ _ _ h12 hP hS (lv_sub hl [2, 4, 1, 0] rfl) (fun H locs ls hP hS hl => ?_)
  refine lv_aload_n hx hb dX2_moveAlong_56 rfl (lv_at hl 0 rfl) ?_
  refine lv_iload_n hx hb dX2_moveAlong_57 rfl (lv_at hl 2 rfl) ?_
  refine lv_iload_n hx hb dX2_moveAlong_58 rfl (lv_at hl 1 rfl) ?_
  obtain ⟨w13, h14, h⟩ := obd_e h
  refine k_X2_setCell S aM_RX2_131 ⟨Nat.le_of_ble_eq_true rfl, Nat.le_of_ble_eq_true rfl⟩ ⟨Nat.zero_le _, Nat.zero_le _⟩ hP hK hDT hS h14 hl.1 (Nat.le_of_ble_eq_true rfl) dX2_moveAlong_59 (fun H locs hP hS => ?_)
  refine lv_iload hx hb dX2_moveAlong_62 (lv_at hl 3 rfl) ?_
  obtain ⟨rfl, rfl⟩ := os2 h
  exact W.iret (v := y10) hx hb hr (fun t ht hW => ⟨⟨_, (), rfl, rfl, by show va_P _ _ _ t.heap; rw [ht]; exact hP⟩, hS.F ht⟩) hS.2.2 dX2_moveAlong_64
theorem k_X2_moveAlong {p : Program} {l : Launch} {e : Env} {R : Room} {s : State} {m : MethodId} {args : Array Value} {below : List Frame} {meth : Method} {c : Code} {H : Heap} {locs : List Loc} {cells slots : Nat} {Q : State → Prop} {cc : ByteArray} {pc nL idx : Nat} {ls : Array Slot} {rest : List Value} {own : String} {D : va_G} {cI : ClassId} {a : Nat → Nat} {H0 : Heap} {N : Nat} {φ : M2} {p1 : Int32} {p2 : Int32} {r0 : Int32} {φr : M2} (S : CallFix p m c cc nL s args AW own) (h1 : Cond.methodLink own idx yX2_moveAlong ∈ AW) (hR : 2 + 1 ≤ R.frames ∧ 8 + (6 + 11) + 44 ≤ R.locals) (hc : cells ≤ R.cells ∧ slots ≤ R.slots) (hP : va_P D vwCl (fbW cI a φ) H) (hK : va_K D vwCl [(cI, .int)] s) (hDT : ∀ (φ2 : M2), va_D (fun _ => True) (fbW cI a φ2)) (hS : va_S (fbA a) H0 H locs) (hF : G_X2_moveAlong N φ p1 p2 = some (r0, φr)) (hsz : ls.size = nL) (hW : (rest.map fun v => v.category).sum ≤ 8) (hdg : decode cc pc = .ok (.invokevirtual idx, 3)) (kk : ∀ (H1 : Heap) (locs1 : List Loc), va_P D vwCl (fbW cI a φr) H1 → va_S (fbA a) H0 H1 locs1 → W p l e R s m args below meth c H1 locs1 cells slots Q (F0 m (pc + 3) ls (.int r0 :: rest))) : W p l e R s m args below meth c H locs cells slots Q (F0 m pc ls (.int p2 :: .int p1 :: .ref (a 0) :: rest)) :=
  fm_runVi (n := 2) (C := RX2) (As := [.int p1, .int p2]) S (c_X2_moveAlong l D cI a N φ p1 p2 r0 φr hF) (F_pre (q0 := 0) (ci := 0) hK hP (hDT _) rfl rfl) hS h1 aI_X2_moveAlong aV_X2_moveAlong aN_RX2 aC_X2_moveAlong rfl rfl (by decide +kernel) rfl hR hc hsz hW hdg (fun r H1 locs1 hr hP1 hS1 => by subst hr; exact kk H1 locs1 hP1 hS1)
set_option maxHeartbeats 4000000 in
set_option maxRecDepth 100000 in
theorem c_X2_insertShortest (l : Launch) (D : va_G) (cI : ClassId) (a : Nat → Nat) (N : Nat) (φ : M2) (p1 : Int32) (r0 : Int32) (φr : M2) (hF : G_X2_insertShortest N φ p1 = some (r0, φr)) : Met l yX2_insertShortest (wsA yX2_insertShortest cX2_insertShortest 4 (some .int)) { frames := 3, cells := 0, slots := 0, locals := 70 } (va_Pc [.ref (a 0), .int p1] (fbP D cI a φ)) (va_Qi (fun (r : Int32) (_ : Unit) => r = r0) (fun _ t => va_P D vwCl (fbW cI a φr) t.heap) (fbA a)) 0 0 (fbA a) := by
  refine Met.ofW (cc := cX2_insertShortest) (maxL := 4) (ret := (some .int)) (by decide) rfl ?_
  intro p e s m args below meth c s₁ B hml hpre
  obtain ⟨rfl, hP, hK, hD0⟩ := hpre
  have hx := B.exec
  have hb := B.bytes
  have hr := B.returns
  have hA : ∀ w ∈ AW, w.before _ s = true := fun w h => atoms_spec (ws := wsA yX2_insertShortest cX2_insertShortest 4 (some .int)) B.pre w (List.mem_cons_of_mem _ h)
  have hown : s.vm.findClass RX2 = some m.cls := findClass_of_methodNamed B.named
  have hlocks := B.notSynchronized
  have hDT := F_dT hD0
  have hDA := F_dA hD0
  have hS : va_S (fbA a) s.heap s.heap [] := va_S.rf
  have S : CallFix p m c cX2_insertShortest 4 s ([.ref (a 0), .int p1] : List Value).toArray AW RX2 := ⟨hx, hb, hml, hown, hA⟩
  have hl := lv_entry ([.ref (a 0), .int p1]) (n := 4) (Nat.le_of_ble_eq_true rfl)
  rw [lg_entry_eq]
  generalize (lg_sl ([.ref (a 0), .int p1]) ++ List.replicate (4 - (lg_sl ([.ref (a 0), .int p1])).length) Slot.unset).toArray = ls at hl ⊢
  have hl : lv_has ls 4 [(0, .ref (a 0)), (1, .int p1)] := hl
  have h := hF
  unfold G_X2_insertShortest at h
  refine lv_aload_n hx hb dX2_insertShortest_0 rfl (lv_at hl 0 rfl) ?_
  refine lv_iload_n hx hb dX2_insertShortest_1 rfl (lv_at hl 1 rfl) ?_
  refine k_X2_newEntry S aM_RX2_150 ⟨Nat.le_of_ble_eq_true rfl, Nat.le_of_ble_eq_true rfl⟩ ⟨Nat.zero_le _, Nat.zero_le _⟩ hP hK hDT hl.1 (Nat.le_of_ble_eq_true rfl) dX2_insertShortest_2 (fun r1 er1 => ?_)
  replace h := olet_s er1 h
  refine lv_istore_n (lv' := [(2, .int r1), (0, .ref (a 0)), (1, .int p1)]) hx hb dX2_insertShortest_5 rfl hl (by decide) rfl (fun ls hl => ?_)
  refine lv_aload_n hx hb dX2_insertShortest_6 rfl (lv_at hl 1 rfl) ?_
  refine lv_iload_n hx hb dX2_insertShortest_7 rfl (lv_at hl 0 rfl) ?_
  refine k_X1_homeOf S aM_RX2_88 ⟨Nat.le_of_ble_eq_true rfl, Nat.le_of_ble_eq_true rfl⟩ ⟨Nat.zero_le _, Nat.zero_le _⟩ hl.1 (Nat.le_of_ble_eq_true rfl) dX2_insertShortest_8 (fun r2 er2 => ?_)
  replace h := olet_s er2 h
  refine lv_aload_n hx hb dX2_insertShortest_11 rfl (lv_at hl 1 rfl) ?_
  refine lv_iload_n hx hb dX2_insertShortest_12 rfl (lv_at hl 0 rfl) ?_
  refine k_X2_otherOf S aM_RX2_204 ⟨Nat.le_of_ble_eq_true rfl, Nat.le_of_ble_eq_true rfl⟩ ⟨Nat.zero_le _, Nat.zero_le _⟩ hP hK hDT hl.1 (Nat.le_of_ble_eq_true rfl) dX2_insertShortest_13 (fun r3 er3 => ?_)
  replace h := olet_s er3 h
  obtain ⟨r6, w4, h5, h⟩ := obd2_e h
  refine k_X2_endOfChain S aM_RX2_207 ⟨Nat.le_of_ble_eq_true rfl, Nat.le_of_ble_eq_true rfl⟩ ⟨Nat.zero_le _, Nat.zero_le _⟩ hP hK hDT hS h5 hl.1 (Nat.le_of_ble_eq_true rfl) dX2_insertShortest_16 (fun H locs hP hS => ?_)
  refine lv_istore_n (lv' := [(3, .int r6), (2, .int r1), (0, .ref (a 0)), (1, .int p1)]) hx hb dX2_insertShortest_19 rfl hl (by decide) rfl (fun ls hl => ?_)
  refine lv_iload_n hx hb dX2_insertShortest_20 rfl (lv_at hl 0 rfl) ?_
  refine lv_iconst (v := (-1)) hx hb dX2_insertShortest_21 (by decide) ?_
  refine lv_icmp_ne (tgt := 29) hx hb dX2_insertShortest_22 (by decide) (fun hc => ?_) (fun hc => ?_)
  · replace h := oi_f hc h
    refine lv_aload_n hx hb dX2_insertShortest_29 rfl (lv_at hl 2 rfl) ?_
    refine lv_iload_n hx hb dX2_insertShortest_30 rfl (lv_at hl 0 rfl) ?_
    refine lv_iload_n hx hb dX2_insertShortest_31 rfl (lv_at hl 1 rfl) ?_
    obtain ⟨r9, w7, h8, h⟩ := obd2_e h
    refine k_X2_moveAlong S aM_RX2_210 ⟨Nat.le_of_ble_eq_true rfl, Nat.le_of_ble_eq_true rfl⟩ ⟨Nat.zero_le _, Nat.zero_le _⟩ hP hK hDT hS h8 hl.1 (Nat.le_of_ble_eq_true rfl) dX2_insertShortest_32 (fun H locs hP hS => ?_)
    obtain ⟨rfl, rfl⟩ := os2 h
    exact W.iret (v := r9) hx hb hr (fun t ht hW => ⟨⟨_, (), rfl, rfl, by show va_P _ _ _ t.heap; rw [ht]; exact hP⟩, hS.F ht⟩) hS.2.2 dX2_insertShortest_35
  · replace h := oi_t hc h
    refine lv_iconst (v := (-1)) hx hb dX2_insertShortest_25 (by decide) ?_
    refine lv_goto (tgt := 35) hx hb dX2_insertShortest_26 (by decide) ?_
    obtain ⟨rfl, rfl⟩ := os2 h
    exact W.iret (v := (-1)) hx hb hr (fun t ht hW => ⟨⟨_, (), rfl, rfl, by show va_P _ _ _ t.heap; rw [ht]; exact hP⟩, hS.F ht⟩) hS.2.2 dX2_insertShortest_35
theorem k_X2_insertShortest {p : Program} {l : Launch} {e : Env} {R : Room} {s : State} {m : MethodId} {args : Array Value} {below : List Frame} {meth : Method} {c : Code} {H : Heap} {locs : List Loc} {cells slots : Nat} {Q : State → Prop} {cc : ByteArray} {pc nL idx : Nat} {ls : Array Slot} {rest : List Value} {own : String} {D : va_G} {cI : ClassId} {a : Nat → Nat} {H0 : Heap} {N : Nat} {φ : M2} {p1 : Int32} {r0 : Int32} {φr : M2} (S : CallFix p m c cc nL s args AW own) (h1 : Cond.methodLink own idx yX2_insertShortest ∈ AW) (hR : 3 + 1 ≤ R.frames ∧ 8 + (4 + 11) + 70 ≤ R.locals) (hc : cells ≤ R.cells ∧ slots ≤ R.slots) (hP : va_P D vwCl (fbW cI a φ) H) (hK : va_K D vwCl [(cI, .int)] s) (hDT : ∀ (φ2 : M2), va_D (fun _ => True) (fbW cI a φ2)) (hS : va_S (fbA a) H0 H locs) (hF : G_X2_insertShortest N φ p1 = some (r0, φr)) (hsz : ls.size = nL) (hW : (rest.map fun v => v.category).sum ≤ 8) (hdg : decode cc pc = .ok (.invokevirtual idx, 3)) (kk : ∀ (H1 : Heap) (locs1 : List Loc), va_P D vwCl (fbW cI a φr) H1 → va_S (fbA a) H0 H1 locs1 → W p l e R s m args below meth c H1 locs1 cells slots Q (F0 m (pc + 3) ls (.int r0 :: rest))) : W p l e R s m args below meth c H locs cells slots Q (F0 m pc ls (.int p1 :: .ref (a 0) :: rest)) :=
  fm_runVi (n := 1) (C := RX2) (As := [.int p1]) S (c_X2_insertShortest l D cI a N φ p1 r0 φr hF) (F_pre (q0 := 0) (ci := 0) hK hP (hDT _) rfl rfl) hS h1 aI_X2_insertShortest aV_X2_insertShortest aN_RX2 aC_X2_insertShortest rfl rfl (by decide +kernel) rfl hR hc hsz hW hdg (fun r H1 locs1 hr hP1 hS1 => by subst hr; exact kk H1 locs1 hP1 hS1)
set_option maxHeartbeats 4000000 in
set_option maxRecDepth 100000 in
theorem c_X2_addKeyShortest (l : Launch) (D : va_G) (cI : ClassId) (a : Nat → Nat) (N : Nat) (φ : M2) (p1 : Int32) (r0 : Int32) (φr : M2) (hF : G_X2_addKeyShortest N φ p1 = some (r0, φr)) : Met l yX2_addKeyShortest (wsA yX2_addKeyShortest cX2_addKeyShortest 3 (some .int)) { frames := 4, cells := 0, slots := 0, locals := 93 } (va_Pc [.ref (a 0), .int p1] (fbP D cI a φ)) (va_Qi (fun (r : Int32) (_ : Unit) => r = r0) (fun _ t => va_P D vwCl (fbW cI a φr) t.heap) (fbA a)) 0 0 (fbA a) := by
  refine Met.ofW (cc := cX2_addKeyShortest) (maxL := 3) (ret := (some .int)) (by decide) rfl ?_
  intro p e s m args below meth c s₁ B hml hpre
  obtain ⟨rfl, hP, hK, hD0⟩ := hpre
  have hx := B.exec
  have hb := B.bytes
  have hr := B.returns
  have hA : ∀ w ∈ AW, w.before _ s = true := fun w h => atoms_spec (ws := wsA yX2_addKeyShortest cX2_addKeyShortest 3 (some .int)) B.pre w (List.mem_cons_of_mem _ h)
  have hown : s.vm.findClass RX2 = some m.cls := findClass_of_methodNamed B.named
  have hlocks := B.notSynchronized
  have hDT := F_dT hD0
  have hDA := F_dA hD0
  have hS : va_S (fbA a) s.heap s.heap [] := va_S.rf
  have S : CallFix p m c cX2_addKeyShortest 3 s ([.ref (a 0), .int p1] : List Value).toArray AW RX2 := ⟨hx, hb, hml, hown, hA⟩
  have hl := lv_entry ([.ref (a 0), .int p1]) (n := 3) (Nat.le_of_ble_eq_true rfl)
  rw [lg_entry_eq]
  generalize (lg_sl ([.ref (a 0), .int p1]) ++ List.replicate (3 - (lg_sl ([.ref (a 0), .int p1])).length) Slot.unset).toArray = ls at hl ⊢
  have hl : lv_has ls 3 [(0, .ref (a 0)), (1, .int p1)] := hl
  have h := hF
  unfold G_X2_addKeyShortest at h
  refine lv_aload_n hx hb dX2_addKeyShortest_0 rfl (lv_at hl 0 rfl) ?_
  refine F_g0_8 hx hb hA hown aF_RX2_37 hK hP dX2_addKeyShortest_1 ?_
  refine lv_iload_n hx hb dX2_addKeyShortest_4 rfl (lv_at hl 1 rfl) ?_
  obtain ⟨r1, h2, h⟩ := obd_e h
  refine k_X4_has S aM_RX2_70 ⟨Nat.le_of_ble_eq_true rfl, Nat.le_of_ble_eq_true rfl⟩ ⟨Nat.zero_le _, Nat.zero_le _⟩ hP hK hDT h2 hl.1 (Nat.le_of_ble_eq_true rfl) dX2_addKeyShortest_5 (fun br1 => ?_)
  refine lv_if_ne (tgt := 21) hx hb dX2_addKeyShortest_8 (by decide) (fun hc => ?_) (fun hc => ?_)
  · replace h := oi_f hc h
    refine lv_iconst (v := (-1)) hx hb dX2_addKeyShortest_21 (by decide) ?_
    obtain ⟨rfl, rfl⟩ := os2 h
    exact W.iret (v := (-1)) hx hb hr (fun t ht hW => ⟨⟨_, (), rfl, rfl, by show va_P _ _ _ t.heap; rw [ht]; exact hP⟩, hS.F ht⟩) hS.2.2 dX2_addKeyShortest_22
  · replace h := oi_t hc h
    refine lv_aload_n hx hb dX2_addKeyShortest_11 rfl (lv_at hl 0 rfl) ?_
    refine F_g0_8 hx hb hA hown aF_RX2_37 hK hP dX2_addKeyShortest_12 ?_
    refine k_X4_isFull S aM_RX2_153 ⟨Nat.le_of_ble_eq_true rfl, Nat.le_of_ble_eq_true rfl⟩ ⟨Nat.zero_le _, Nat.zero_le _⟩ hP hK hDT hl.1 (Nat.le_of_ble_eq_true rfl) dX2_addKeyShortest_15 (fun r3 er3 br3 => ?_)
    replace h := olet_s er3 h
    refine lv_if_eq (tgt := 23) hx hb dX2_addKeyShortest_18 (by decide) (fun hc => ?_) (fun hc => ?_)
    · replace h := oi_t hc h
      refine lv_aload_n hx hb dX2_addKeyShortest_23 rfl (lv_at hl 0 rfl) ?_
      refine lv_iload_n hx hb dX2_addKeyShortest_24 rfl (lv_at hl 1 rfl) ?_
      obtain ⟨r6, w4, h5, h⟩ := obd2_e h
      refine k_X2_insertShortest S aM_RX2_163 ⟨Nat.le_of_ble_eq_true rfl, Nat.le_of_ble_eq_true rfl⟩ ⟨Nat.zero_le _, Nat.zero_le _⟩ hP hK hDT hS h5 hl.1 (Nat.le_of_ble_eq_true rfl) dX2_addKeyShortest_25 (fun H locs hP hS => ?_)
      refine lv_istore_n (lv' := [(2, .int r6), (0, .ref (a 0)), (1, .int p1)]) hx hb dX2_addKeyShortest_28 rfl hl (by decide) rfl (fun ls hl => ?_)
      refine lv_iload_n hx hb dX2_addKeyShortest_29 rfl (lv_at hl 0 rfl) ?_
      refine lv_iconst (v := (-1)) hx hb dX2_addKeyShortest_30 (by decide) ?_
      refine lv_icmp_eq (tgt := 42) hx hb dX2_addKeyShortest_31 (by decide) (fun hc => ?_) (fun hc => ?_)
      · replace h := oi_t hc h
        refine lv_iload_n hx hb dX2_addKeyShortest_42 rfl (lv_at hl 0 rfl) ?_
        obtain ⟨rfl, rfl⟩ := os2 h
        exact W.iret (v := r6) hx hb hr (fun t ht hW => ⟨⟨_, (), rfl, rfl, by show va_P _ _ _ t.heap; rw [ht]; exact hP⟩, hS.F ht⟩) hS.2.2 dX2_addKeyShortest_43
      · replace h := oi_f hc h
        refine lv_aload_n hx hb dX2_addKeyShortest_34 rfl (lv_at hl 1 rfl) ?_
        refine F_g0_8 hx hb hA hown aF_RX2_37 hK hP dX2_addKeyShortest_35 ?_
        refine lv_iload_n hx hb dX2_addKeyShortest_38 rfl (lv_at hl 2 rfl) ?_
        obtain ⟨w7, h8, h⟩ := obd_e h
        refine k_X4_put S aM_RX2_159 ⟨Nat.le_of_ble_eq_true rfl, Nat.le_of_ble_eq_true rfl⟩ ⟨Nat.zero_le _, Nat.zero_le _⟩ hP hK hDT hS h8 hl.1 (Nat.le_of_ble_eq_true rfl) dX2_addKeyShortest_39 (fun H locs hP hS => ?_)
        refine lv_iload_n hx hb dX2_addKeyShortest_42 rfl (lv_at hl 0 rfl) ?_
        obtain ⟨rfl, rfl⟩ := os2 h
        exact W.iret (v := r6) hx hb hr (fun t ht hW => ⟨⟨_, (), rfl, rfl, by show va_P _ _ _ t.heap; rw [ht]; exact hP⟩, hS.F ht⟩) hS.2.2 dX2_addKeyShortest_43
    · replace h := oi_f hc h
      refine lv_iconst (v := (-1)) hx hb dX2_addKeyShortest_21 (by decide) ?_
      obtain ⟨rfl, rfl⟩ := os2 h
      exact W.iret (v := (-1)) hx hb hr (fun t ht hW => ⟨⟨_, (), rfl, rfl, by show va_P _ _ _ t.heap; rw [ht]; exact hP⟩, hS.F ht⟩) hS.2.2 dX2_addKeyShortest_22
theorem k_X2_addKeyShortest {p : Program} {l : Launch} {e : Env} {R : Room} {s : State} {m : MethodId} {args : Array Value} {below : List Frame} {meth : Method} {c : Code} {H : Heap} {locs : List Loc} {cells slots : Nat} {Q : State → Prop} {cc : ByteArray} {pc nL idx : Nat} {ls : Array Slot} {rest : List Value} {own : String} {D : va_G} {cI : ClassId} {a : Nat → Nat} {H0 : Heap} {N : Nat} {φ : M2} {p1 : Int32} {r0 : Int32} {φr : M2} (S : CallFix p m c cc nL s args AW own) (h1 : Cond.methodLink own idx yX2_addKeyShortest ∈ AW) (hR : 4 + 1 ≤ R.frames ∧ 8 + (3 + 11) + 93 ≤ R.locals) (hc : cells ≤ R.cells ∧ slots ≤ R.slots) (hP : va_P D vwCl (fbW cI a φ) H) (hK : va_K D vwCl [(cI, .int)] s) (hDT : ∀ (φ2 : M2), va_D (fun _ => True) (fbW cI a φ2)) (hS : va_S (fbA a) H0 H locs) (hF : G_X2_addKeyShortest N φ p1 = some (r0, φr)) (hsz : ls.size = nL) (hW : (rest.map fun v => v.category).sum ≤ 8) (hdg : decode cc pc = .ok (.invokevirtual idx, 3)) (kk : ∀ (H1 : Heap) (locs1 : List Loc), va_P D vwCl (fbW cI a φr) H1 → va_S (fbA a) H0 H1 locs1 → W p l e R s m args below meth c H1 locs1 cells slots Q (F0 m (pc + 3) ls (.int r0 :: rest))) : W p l e R s m args below meth c H locs cells slots Q (F0 m pc ls (.int p1 :: .ref (a 0) :: rest)) :=
  fm_runVi (n := 1) (C := RX2) (As := [.int p1]) S (c_X2_addKeyShortest l D cI a N φ p1 r0 φr hF) (F_pre (q0 := 0) (ci := 0) hK hP (hDT _) rfl rfl) hS h1 aI_X2_addKeyShortest aV_X2_addKeyShortest aN_RX2 aC_X2_addKeyShortest rfl rfl (by decide +kernel) rfl hR hc hsz hW hdg (fun r H1 locs1 hr hP1 hS1 => by subst hr; exact kk H1 locs1 hP1 hS1)
set_option maxHeartbeats 4000000 in
set_option maxRecDepth 100000 in
theorem c_X2_removeEntry (l : Launch) (D : va_G) (cI : ClassId) (a : Nat → Nat) (N : Nat) (φ : M2) (p1 : Int32) (φr : M2) (hF : G_X2_removeEntry N φ p1 = some φr) : Met l yX2_removeEntry (wsA yX2_removeEntry cX2_removeEntry 3 none) { frames := 1, cells := 0, slots := 0, locals := 22 } (va_Pc [.ref (a 0), .int p1] (fbP D cI a φ)) (va_Qv (fun (_ : Unit) => True) (fun _ t => va_P D vwCl (fbW cI a φr) t.heap) (fbA a)) 0 0 (fbA a) := by
  refine Met.ofW (cc := cX2_removeEntry) (maxL := 3) (ret := none) (by decide) rfl ?_
  intro p e s m args below meth c s₁ B hml hpre
  obtain ⟨rfl, hP, hK, hD0⟩ := hpre
  have hx := B.exec
  have hb := B.bytes
  have hr := B.returns
  have hA : ∀ w ∈ AW, w.before _ s = true := fun w h => atoms_spec (ws := wsA yX2_removeEntry cX2_removeEntry 3 none) B.pre w (List.mem_cons_of_mem _ h)
  have hown : s.vm.findClass RX2 = some m.cls := findClass_of_methodNamed B.named
  have hlocks := B.notSynchronized
  have hDT := F_dT hD0
  have hDA := F_dA hD0
  have hS : va_S (fbA a) s.heap s.heap [] := va_S.rf
  have S : CallFix p m c cX2_removeEntry 3 s ([.ref (a 0), .int p1] : List Value).toArray AW RX2 := ⟨hx, hb, hml, hown, hA⟩
  have hl := lv_entry ([.ref (a 0), .int p1]) (n := 3) (Nat.le_of_ble_eq_true rfl)
  rw [lg_entry_eq]
  generalize (lg_sl ([.ref (a 0), .int p1]) ++ List.replicate (3 - (lg_sl ([.ref (a 0), .int p1])).length) Slot.unset).toArray = ls at hl ⊢
  have hl : lv_has ls 3 [(0, .ref (a 0)), (1, .int p1)] := hl
  have hL20 : ∀ (k : Nat) (v2 : Int32) (φ : M2) (H : Heap) (locs : List Loc) (ls : Array Slot) (φo : M2), L_X2_removeEntry_20 N k v2 φ = some φo → va_P D vwCl (fbW cI a φ) H → va_S (fbA a) s.heap H locs → lv_has ls 3 [(0, .ref (a 0)), (2, .int v2)] → (∀ (H1 : Heap) (locs1 : List Loc) (ls1 : Array Slot), va_P D vwCl (fbW cI a φo) H1 → va_S (fbA a) s.heap H1 locs1 → lv_has ls1 3 [(0, .ref (a 0))] → W p l e (headSpec (wsA yX2_removeEntry cX2_removeEntry 3 none) { frames := 1, cells := 0, slots := 0, locals := 22 }).room s m ([.ref (a 0), .int p1] : List Value).toArray below meth c H1 locs1 0 0 (MQ below (va_Qv (fun (_ : Unit) => True) (fun _ t => va_P D vwCl (fbW cI a φr) t.heap) (fbA a)) ([.ref (a 0), .int p1] : List Value).toArray s 0 0 (fbA a)) (F0 m 65 ls1 [])) → W p l e (headSpec (wsA yX2_removeEntry cX2_removeEntry 3 none) { frames := 1, cells := 0, slots := 0, locals := 22 }).room s m ([.ref (a 0), .int p1] : List Value).toArray below meth c H locs 0 0 (MQ below (va_Qv (fun (_ : Unit) => True) (fun _ t => va_P D vwCl (fbW cI a φr) t.heap) (fbA a)) ([.ref (a 0), .int p1] : List Value).toArray s 0 0 (fbA a)) (F0 m 20 ls []) := by
    intro k
    induction k with
    | zero =>
      intro v2 φ H locs ls φo h hP hS hl kk
      exact no_s h
    | succ k ih =>
      intro v2 φ H locs ls φo h hP hS hl kk
      replace h : B_X2_removeEntry_20 N (L_X2_removeEntry_20 N k) v2 φ = some φo := h
      unfold B_X2_removeEntry_20 at h
      refine lv_iload_n hx hb dX2_removeEntry_20 rfl (lv_at hl 1 rfl) ?_
      refine lv_if_lt (tgt := 65) hx hb dX2_removeEntry_21 (by decide) (fun hc => ?_) (fun hc => ?_)
      · replace h := oi_t hc h
        obtain rfl := os1 h
        exact kk _ _ _ hP hS (lv_sub hl [0] rfl)
      · replace h := oi_f hc h
        refine lv_iload_n hx hb dX2_removeEntry_24 rfl (lv_at hl 1 rfl) ?_
        refine lv_iconst (v := 1) hx hb dX2_removeEntry_25 (by decide) ?_
        refine lv_iadd hx hb dX2_removeEntry_26 ?_
        refine lv_aload_n hx hb dX2_removeEntry_27 rfl (lv_at hl 0 rfl) ?_
        refine F_g0_7 hx hb hA hown aF_RX2_55 hK hP dX2_removeEntry_28 ?_
        refine lv_icmp_ge (tgt := 65) hx hb dX2_removeEntry_31 (by decide) (fun hc => ?_) (fun hc => ?_)
        · replace h := oi_t hc h
          obtain rfl := os1 h
          exact kk _ _ _ hP hS (lv_sub hl [0] rfl)
        · replace h := oi_f hc h
          refine lv_iload_n hx hb dX2_removeEntry_34 rfl (lv_at hl 1 rfl) ?_
          refine lv_iconst (v := 1) hx hb dX2_removeEntry_35 (by decide) ?_
          refine lv_iadd hx hb dX2_removeEntry_36 ?_
          refine lv_aload_n hx hb dX2_removeEntry_37 rfl (lv_at hl 0 rfl) ?_
          refine F_g0_6 hx hb hA hown aF_RX2_31 hK hP dX2_removeEntry_38 ?_
          refine F_ln2 hx hb hK hP dX2_removeEntry_41 ?_
          refine lv_icmp_ge (tgt := 65) hx hb dX2_removeEntry_42 (by decide) (fun hc => ?_) (fun hc => ?_)
          · replace h := oi_t hc h
            obtain rfl := os1 h
            exact kk _ _ _ hP hS (lv_sub hl [0] rfl)
          · replace h := oi_f hc h
            refine lv_aload_n hx hb dX2_removeEntry_45 rfl (lv_at hl 0 rfl) ?_
            refine F_g0_6 hx hb hA hown aF_RX2_31 hK hP dX2_removeEntry_46 ?_
            refine lv_iload_n hx hb dX2_removeEntry_49 rfl (lv_at hl 1 rfl) ?_
            refine lv_aload_n hx hb dX2_removeEntry_50 rfl (lv_at hl 0 rfl) ?_
            refine F_g0_6 hx hb hA hown aF_RX2_31 hK hP dX2_removeEntry_51 ?_
            refine lv_iload_n hx hb dX2_removeEntry_54 rfl (lv_at hl 1 rfl) ?_
            refine lv_iconst (v := 1) hx hb dX2_removeEntry_55 (by decide) ?_
            refine lv_iadd hx hb dX2_removeEntry_56 ?_
            obtain ⟨i2, h⟩ := oin_e h
            refine F_ld2 hx hb hK hP i2 dX2_removeEntry_57 ?_
            obtain ⟨i3, h⟩ := oin_e h
            refine F_st2 hx hb hK hP (hDA _) hS i3 dX2_removeEntry_58 (fun w4 H locs ew4 hP hS => ?_)
            replace h := olet_s ew4 h
            refine lv_iinc (v := v2 + 1) (lv' := [(2, .int (v2 + 1)), (0, .ref (a 0))]) hx hb dX2_removeEntry_59 hl (k := 1) rfl (fm_inc _ _ _ (by decide)) (by decide) rfl (fun ls hl => ?_)
            refine lv_goto (tgt := 20) hx hb dX2_removeEntry_62 (by decide) ?_
            exact ih _ _ _ _ _ _ h hP hS (lv_sub hl [1, 0] rfl) kk
  have h := hF
  unfold G_X2_removeEntry at h
  refine lv_iload_n hx hb dX2_removeEntry_0 rfl (lv_at hl 1 rfl) ?_
  refine lv_sipush (v := 1000) hx hb dX2_removeEntry_1 (by decide) ?_
  refine lv_icmp_ge (tgt := 14) hx hb dX2_removeEntry_4 (by decide) (fun hc => ?_) (fun hc => ?_)
  · replace h := oi_t hc h
    refine lv_iload_n hx hb dX2_removeEntry_14 rfl (lv_at hl 1 rfl) ?_
    refine lv_sipush (v := 1000) hx hb dX2_removeEntry_15 (by decide) ?_
    refine lv_isub hx hb dX2_removeEntry_18 ?_
    refine lv_topi (fun x1 ex1 => ?_)
    replace h := olet_s ex1 h
    refine lv_istore_n (lv' := [(2, .int x1), (0, .ref (a 0)), (1, .int p1)]) hx hb dX2_removeEntry_19 rfl hl (by decide) rfl (fun ls hl => ?_)
    obtain ⟨w5, h6, h⟩ := obd_e h
    refine hL20 N _ _ _ _ _ _ h6 hP hS (lv_sub hl [1, 0] rfl) (fun H locs ls hP hS hl => ?_)
    refine lv_aload_n hx hb dX2_removeEntry_65 rfl (lv_at hl 0 rfl) ?_
    refine lv_dup hx hb dX2_removeEntry_66 rfl ?_
    refine F_g0_7 hx hb hA hown aF_RX2_55 hK hP dX2_removeEntry_67 ?_
    refine lv_iconst (v := 1) hx hb dX2_removeEntry_70 (by decide) ?_
    refine lv_isub hx hb dX2_removeEntry_71 ?_
    refine F_p0_7 hx hb hA hown aF_RX2_55 hK hP (hDA _) hS dX2_removeEntry_72 (fun w7 H locs ew7 hP hS => ?_)
    replace h := olet_s ew7 h
    obtain rfl := os1 h
    exact W.vret hx hb hr (fun t ht hW => ⟨⟨(), rfl, trivial, by show va_P _ _ _ t.heap; rw [ht]; exact hP⟩, hS.F ht⟩) hS.2.2 dX2_removeEntry_75
  · replace h := oi_f hc h
    refine lv_aload_n hx hb dX2_removeEntry_7 rfl (lv_at hl 0 rfl) ?_
    refine lv_iload_n hx hb dX2_removeEntry_8 rfl (lv_at hl 1 rfl) ?_
    refine lv_iconst (v := (-1)) hx hb dX2_removeEntry_9 (by decide) ?_
    obtain ⟨w8, h9, h⟩ := obd_e h
    refine k_X2_setCell S aM_RX2_131 ⟨Nat.le_of_ble_eq_true rfl, Nat.le_of_ble_eq_true rfl⟩ ⟨Nat.zero_le _, Nat.zero_le _⟩ hP hK hDT hS h9 hl.1 (Nat.le_of_ble_eq_true rfl) dX2_removeEntry_10 (fun H locs hP hS => ?_)
    obtain rfl := os1 h
    exact W.vret hx hb hr (fun t ht hW => ⟨⟨(), rfl, trivial, by show va_P _ _ _ t.heap; rw [ht]; exact hP⟩, hS.F ht⟩) hS.2.2 dX2_removeEntry_13
theorem k_X2_removeEntry {p : Program} {l : Launch} {e : Env} {R : Room} {s : State} {m : MethodId} {args : Array Value} {below : List Frame} {meth : Method} {c : Code} {H : Heap} {locs : List Loc} {cells slots : Nat} {Q : State → Prop} {cc : ByteArray} {pc nL idx : Nat} {ls : Array Slot} {rest : List Value} {own : String} {D : va_G} {cI : ClassId} {a : Nat → Nat} {H0 : Heap} {N : Nat} {φ : M2} {p1 : Int32} {φr : M2} (S : CallFix p m c cc nL s args AW own) (h1 : Cond.methodLink own idx yX2_removeEntry ∈ AW) (hR : 1 + 1 ≤ R.frames ∧ 8 + (3 + 11) + 22 ≤ R.locals) (hc : cells ≤ R.cells ∧ slots ≤ R.slots) (hP : va_P D vwCl (fbW cI a φ) H) (hK : va_K D vwCl [(cI, .int)] s) (hDT : ∀ (φ2 : M2), va_D (fun _ => True) (fbW cI a φ2)) (hS : va_S (fbA a) H0 H locs) (hF : G_X2_removeEntry N φ p1 = some φr) (hsz : ls.size = nL) (hW : (rest.map fun v => v.category).sum ≤ 8) (hdg : decode cc pc = .ok (.invokevirtual idx, 3)) (kk : ∀ (H1 : Heap) (locs1 : List Loc), va_P D vwCl (fbW cI a φr) H1 → va_S (fbA a) H0 H1 locs1 → W p l e R s m args below meth c H1 locs1 cells slots Q (F0 m (pc + 3) ls (rest))) : W p l e R s m args below meth c H locs cells slots Q (F0 m pc ls (.int p1 :: .ref (a 0) :: rest)) :=
  fm_runVv (n := 1) (C := RX2) (As := [.int p1]) S (c_X2_removeEntry l D cI a N φ p1 φr hF) (F_pre (q0 := 0) (ci := 0) hK hP (hDT _) rfl rfl) hS h1 aI_X2_removeEntry aV_X2_removeEntry aN_RX2 aC_X2_removeEntry rfl rfl (by decide +kernel) rfl hR hc hsz hW hdg (fun H1 locs1 hP1 hS1 => kk H1 locs1 hP1 hS1)
set_option maxHeartbeats 4000000 in
set_option maxRecDepth 100000 in
theorem c_X4_remove (l : Launch) (D : va_G) (cI : ClassId) (a : Nat → Nat) (N : Nat) (φ : M2) (p1 : Int32) (φr : M2) (hF : G_X4_remove N φ p1 = some φr) : Met l yX4_remove (wsA yX4_remove cX4_remove 4 none) { frames := 1, cells := 0, slots := 0, locals := 22 } (va_Pc [.ref (a 3), .int p1] (fbP D cI a φ)) (va_Qv (fun (_ : Unit) => True) (fun _ t => va_P D vwCl (fbW cI a φr) t.heap) (fbA a)) 0 0 (fbA a) := by
  refine Met.ofW (cc := cX4_remove) (maxL := 4) (ret := none) (by decide) rfl ?_
  intro p e s m args below meth c s₁ B hml hpre
  obtain ⟨rfl, hP, hK, hD0⟩ := hpre
  have hx := B.exec
  have hb := B.bytes
  have hr := B.returns
  have hA : ∀ w ∈ AW, w.before _ s = true := fun w h => atoms_spec (ws := wsA yX4_remove cX4_remove 4 none) B.pre w (List.mem_cons_of_mem _ h)
  have hown : s.vm.findClass RX4 = some m.cls := findClass_of_methodNamed B.named
  have hlocks := B.notSynchronized
  have hDT := F_dT hD0
  have hDA := F_dA hD0
  have hS : va_S (fbA a) s.heap s.heap [] := va_S.rf
  have S : CallFix p m c cX4_remove 4 s ([.ref (a 3), .int p1] : List Value).toArray AW RX4 := ⟨hx, hb, hml, hown, hA⟩
  have hl := lv_entry ([.ref (a 3), .int p1]) (n := 4) (Nat.le_of_ble_eq_true rfl)
  rw [lg_entry_eq]
  generalize (lg_sl ([.ref (a 3), .int p1]) ++ List.replicate (4 - (lg_sl ([.ref (a 3), .int p1])).length) Slot.unset).toArray = ls at hl ⊢
  have hl : lv_has ls 4 [(0, .ref (a 3)), (1, .int p1)] := hl
  have hL14 : ∀ (k : Nat) (v3 : Int32) (φ : M2) (H : Heap) (locs : List Loc) (ls : Array Slot) (φo : M2), L_X4_remove_14 N k v3 φ = some φo → va_P D vwCl (fbW cI a φ) H → va_S (fbA a) s.heap H locs → lv_has ls 4 [(0, .ref (a 3)), (3, .int v3)] → (∀ (H1 : Heap) (locs1 : List Loc) (ls1 : Array Slot), va_P D vwCl (fbW cI a φo) H1 → va_S (fbA a) s.heap H1 locs1 → lv_has ls1 4 [(0, .ref (a 3))] → W p l e (headSpec (wsA yX4_remove cX4_remove 4 none) { frames := 1, cells := 0, slots := 0, locals := 22 }).room s m ([.ref (a 3), .int p1] : List Value).toArray below meth c H1 locs1 0 0 (MQ below (va_Qv (fun (_ : Unit) => True) (fun _ t => va_P D vwCl (fbW cI a φr) t.heap) (fbA a)) ([.ref (a 3), .int p1] : List Value).toArray s 0 0 (fbA a)) (F0 m 59 ls1 [])) → W p l e (headSpec (wsA yX4_remove cX4_remove 4 none) { frames := 1, cells := 0, slots := 0, locals := 22 }).room s m ([.ref (a 3), .int p1] : List Value).toArray below meth c H locs 0 0 (MQ below (va_Qv (fun (_ : Unit) => True) (fun _ t => va_P D vwCl (fbW cI a φr) t.heap) (fbA a)) ([.ref (a 3), .int p1] : List Value).toArray s 0 0 (fbA a)) (F0 m 14 ls []) := by
    intro k
    induction k with
    | zero =>
      intro v3 φ H locs ls φo h hP hS hl kk
      exact no_s h
    | succ k ih =>
      intro v3 φ H locs ls φo h hP hS hl kk
      replace h : B_X4_remove_14 N (L_X4_remove_14 N k) v3 φ = some φo := h
      unfold B_X4_remove_14 at h
      refine lv_iload_n hx hb dX4_remove_14 rfl (lv_at hl 1 rfl) ?_
      refine lv_if_lt (tgt := 59) hx hb dX4_remove_15 (by decide) (fun hc => ?_) (fun hc => ?_)
      · replace h := oi_t hc h
        obtain rfl := os1 h
        exact kk _ _ _ hP hS (lv_sub hl [0] rfl)
      · replace h := oi_f hc h
        refine lv_iload_n hx hb dX4_remove_18 rfl (lv_at hl 1 rfl) ?_
        refine lv_iconst (v := 1) hx hb dX4_remove_19 (by decide) ?_
        refine lv_iadd hx hb dX4_remove_20 ?_
        refine lv_aload_n hx hb dX4_remove_21 rfl (lv_at hl 0 rfl) ?_
        refine F_g3_1 hx hb hA hown aF_RX4_15 hK hP dX4_remove_22 ?_
        refine lv_icmp_ge (tgt := 59) hx hb dX4_remove_25 (by decide) (fun hc => ?_) (fun hc => ?_)
        · replace h := oi_t hc h
          obtain rfl := os1 h
          exact kk _ _ _ hP hS (lv_sub hl [0] rfl)
        · replace h := oi_f hc h
          refine lv_iload_n hx hb dX4_remove_28 rfl (lv_at hl 1 rfl) ?_
          refine lv_iconst (v := 1) hx hb dX4_remove_29 (by decide) ?_
          refine lv_iadd hx hb dX4_remove_30 ?_
          refine lv_aload_n hx hb dX4_remove_31 rfl (lv_at hl 0 rfl) ?_
          refine F_g3_0 hx hb hA hown aF_RX4_9 hK hP dX4_remove_32 ?_
          refine F_ln4 hx hb hK hP dX4_remove_35 ?_
          refine lv_icmp_ge (tgt := 59) hx hb dX4_remove_36 (by decide) (fun hc => ?_) (fun hc => ?_)
          · replace h := oi_t hc h
            obtain rfl := os1 h
            exact kk _ _ _ hP hS (lv_sub hl [0] rfl)
          · replace h := oi_f hc h
            refine lv_aload_n hx hb dX4_remove_39 rfl (lv_at hl 0 rfl) ?_
            refine F_g3_0 hx hb hA hown aF_RX4_9 hK hP dX4_remove_40 ?_
            refine lv_iload_n hx hb dX4_remove_43 rfl (lv_at hl 1 rfl) ?_
            refine lv_aload_n hx hb dX4_remove_44 rfl (lv_at hl 0 rfl) ?_
            refine F_g3_0 hx hb hA hown aF_RX4_9 hK hP dX4_remove_45 ?_
            refine lv_iload_n hx hb dX4_remove_48 rfl (lv_at hl 1 rfl) ?_
            refine lv_iconst (v := 1) hx hb dX4_remove_49 (by decide) ?_
            refine lv_iadd hx hb dX4_remove_50 ?_
            obtain ⟨i3, h⟩ := oin_e h
            refine F_ld4 hx hb hK hP i3 dX4_remove_51 ?_
            obtain ⟨i4, h⟩ := oin_e h
            refine F_st4 hx hb hK hP (hDA _) hS i4 dX4_remove_52 (fun w5 H locs ew5 hP hS => ?_)
            replace h := olet_s ew5 h
            refine lv_iinc (v := v3 + 1) (lv' := [(3, .int (v3 + 1)), (0, .ref (a 3))]) hx hb dX4_remove_53 hl (k := 1) rfl (fm_inc _ _ _ (by decide)) (by decide) rfl (fun ls hl => ?_)
            refine lv_goto (tgt := 14) hx hb dX4_remove_56 (by decide) ?_
            exact ih _ _ _ _ _ _ h hP hS (lv_sub hl [1, 0] rfl) kk
  have h := hF
  unfold G_X4_remove at h
  refine lv_aload_n hx hb dX4_remove_0 rfl (lv_at hl 0 rfl) ?_
  refine lv_iload_n hx hb dX4_remove_1 rfl (lv_at hl 1 rfl) ?_
  obtain ⟨r1, h2, h⟩ := obd_e h
  refine k_X4_indexOf S aM_RX4_19 ⟨Nat.le_of_ble_eq_true rfl, Nat.le_of_ble_eq_true rfl⟩ ⟨Nat.zero_le _, Nat.zero_le _⟩ hP hK hDT h2 hl.1 (Nat.le_of_ble_eq_true rfl) dX4_remove_2 ?_
  refine lv_istore_n (lv' := [(2, .int r1), (0, .ref (a 3)), (1, .int p1)]) hx hb dX4_remove_5 rfl hl (by decide) rfl (fun ls hl => ?_)
  refine lv_iload_n hx hb dX4_remove_6 rfl (lv_at hl 0 rfl) ?_
  refine lv_iconst (v := (-1)) hx hb dX4_remove_7 (by decide) ?_
  refine lv_icmp_ne (tgt := 12) hx hb dX4_remove_8 (by decide) (fun hc => ?_) (fun hc => ?_)
  · replace h := oi_f hc h
    refine lv_iload_n hx hb dX4_remove_12 rfl (lv_at hl 0 rfl) ?_
    refine lv_istore_n (lv' := [(3, .int r1), (2, .int r1), (0, .ref (a 3)), (1, .int p1)]) hx hb dX4_remove_13 rfl hl (by decide) rfl (fun ls hl => ?_)
    obtain ⟨w6, h7, h⟩ := obd_e h
    refine hL14 N _ _ _ _ _ _ h7 hP hS (lv_sub hl [2, 0] rfl) (fun H locs ls hP hS hl => ?_)
    refine lv_aload_n hx hb dX4_remove_59 rfl (lv_at hl 0 rfl) ?_
    refine lv_dup hx hb dX4_remove_60 rfl ?_
    refine F_g3_1 hx hb hA hown aF_RX4_15 hK hP dX4_remove_61 ?_
    refine lv_iconst (v := 1) hx hb dX4_remove_64 (by decide) ?_
    refine lv_isub hx hb dX4_remove_65 ?_
    refine F_p3_1 hx hb hA hown aF_RX4_15 hK hP (hDA _) hS dX4_remove_66 (fun w8 H locs ew8 hP hS => ?_)
    replace h := olet_s ew8 h
    obtain rfl := os1 h
    exact W.vret hx hb hr (fun t ht hW => ⟨⟨(), rfl, trivial, by show va_P _ _ _ t.heap; rw [ht]; exact hP⟩, hS.F ht⟩) hS.2.2 dX4_remove_69
  · replace h := oi_t hc h
    obtain rfl := os1 h
    exact W.vret hx hb hr (fun t ht hW => ⟨⟨(), rfl, trivial, by show va_P _ _ _ t.heap; rw [ht]; exact hP⟩, hS.F ht⟩) hS.2.2 dX4_remove_11
theorem k_X4_remove {p : Program} {l : Launch} {e : Env} {R : Room} {s : State} {m : MethodId} {args : Array Value} {below : List Frame} {meth : Method} {c : Code} {H : Heap} {locs : List Loc} {cells slots : Nat} {Q : State → Prop} {cc : ByteArray} {pc nL idx : Nat} {ls : Array Slot} {rest : List Value} {own : String} {D : va_G} {cI : ClassId} {a : Nat → Nat} {H0 : Heap} {N : Nat} {φ : M2} {p1 : Int32} {φr : M2} (S : CallFix p m c cc nL s args AW own) (h1 : Cond.methodLink own idx yX4_remove ∈ AW) (hR : 1 + 1 ≤ R.frames ∧ 8 + (4 + 11) + 22 ≤ R.locals) (hc : cells ≤ R.cells ∧ slots ≤ R.slots) (hP : va_P D vwCl (fbW cI a φ) H) (hK : va_K D vwCl [(cI, .int)] s) (hDT : ∀ (φ2 : M2), va_D (fun _ => True) (fbW cI a φ2)) (hS : va_S (fbA a) H0 H locs) (hF : G_X4_remove N φ p1 = some φr) (hsz : ls.size = nL) (hW : (rest.map fun v => v.category).sum ≤ 8) (hdg : decode cc pc = .ok (.invokevirtual idx, 3)) (kk : ∀ (H1 : Heap) (locs1 : List Loc), va_P D vwCl (fbW cI a φr) H1 → va_S (fbA a) H0 H1 locs1 → W p l e R s m args below meth c H1 locs1 cells slots Q (F0 m (pc + 3) ls (rest))) : W p l e R s m args below meth c H locs cells slots Q (F0 m pc ls (.int p1 :: .ref (a 3) :: rest)) :=
  fm_runVv (n := 1) (C := RX4) (As := [.int p1]) S (c_X4_remove l D cI a N φ p1 φr hF) (F_pre (q0 := 3) (ci := 2) hK hP (hDT _) rfl rfl) hS h1 aI_X4_remove aV_X4_remove aN_RX4 aC_X4_remove rfl rfl (by decide +kernel) rfl hR hc hsz hW hdg (fun H1 locs1 hP1 hS1 => kk H1 locs1 hP1 hS1)
set_option maxHeartbeats 4000000 in
set_option maxRecDepth 100000 in
theorem c_X2_leaveStash (l : Launch) (D : va_G) (cI : ClassId) (a : Nat → Nat) (N : Nat) (φ : M2) (r0 : Int32) (φr : M2) (hF : G_X2_leaveStash N φ = some (r0, φr)) : Met l yX2_leaveStash (wsA yX2_leaveStash cX2_leaveStash 5 (some .int)) { frames := 3, cells := 0, slots := 0, locals := 66 } (va_Pc [.ref (a 0)] (fbP D cI a φ)) (va_Qi (fun (r : Int32) (_ : Unit) => r = r0) (fun _ t => va_P D vwCl (fbW cI a φr) t.heap) (fbA a)) 0 0 (fbA a) := by
  refine Met.ofW (cc := cX2_leaveStash) (maxL := 5) (ret := (some .int)) (by decide) rfl ?_
  intro p e s m args below meth c s₁ B hml hpre
  obtain ⟨rfl, hP, hK, hD0⟩ := hpre
  have hx := B.exec
  have hb := B.bytes
  have hr := B.returns
  have hA : ∀ w ∈ AW, w.before _ s = true := fun w h => atoms_spec (ws := wsA yX2_leaveStash cX2_leaveStash 5 (some .int)) B.pre w (List.mem_cons_of_mem _ h)
  have hown : s.vm.findClass RX2 = some m.cls := findClass_of_methodNamed B.named
  have hlocks := B.notSynchronized
  have hDT := F_dT hD0
  have hDA := F_dA hD0
  have hS : va_S (fbA a) s.heap s.heap [] := va_S.rf
  have S : CallFix p m c cX2_leaveStash 5 s ([.ref (a 0)] : List Value).toArray AW RX2 := ⟨hx, hb, hml, hown, hA⟩
  have hl := lv_entry ([.ref (a 0)]) (n := 5) (Nat.le_of_ble_eq_true rfl)
  rw [lg_entry_eq]
  generalize (lg_sl ([.ref (a 0)]) ++ List.replicate (5 - (lg_sl ([.ref (a 0)])).length) Slot.unset).toArray = ls at hl ⊢
  have hl : lv_has ls 5 [(0, .ref (a 0))] := hl
  have hL6 : ∀ (k : Nat) (v1 : Int32) (v2 : Int32) (v3 : Int32) (φ : M2) (H : Heap) (locs : List Loc) (ls : Array Slot) (o1 : Int32) (o2 : Int32) (φo : M2), L_X2_leaveStash_6 N k v1 v2 v3 φ = some (o1, o2, φo) → va_P D vwCl (fbW cI a φ) H → va_S (fbA a) s.heap H locs → lv_has ls 5 [(0, .ref (a 0)), (1, .int v1), (2, .int v2), (3, .int v3)] → (∀ (H1 : Heap) (locs1 : List Loc) (ls1 : Array Slot), va_P D vwCl (fbW cI a φo) H1 → va_S (fbA a) s.heap H1 locs1 → lv_has ls1 5 [(0, .ref (a 0)), (1, .int o1), (2, .int o2)] → W p l e (headSpec (wsA yX2_leaveStash cX2_leaveStash 5 (some .int)) { frames := 3, cells := 0, slots := 0, locals := 66 }).room s m ([.ref (a 0)] : List Value).toArray below meth c H1 locs1 0 0 (MQ below (va_Qi (fun (r : Int32) (_ : Unit) => r = r0) (fun _ t => va_P D vwCl (fbW cI a φr) t.heap) (fbA a)) ([.ref (a 0)] : List Value).toArray s 0 0 (fbA a)) (F0 m 68 ls1 [])) → W p l e (headSpec (wsA yX2_leaveStash cX2_leaveStash 5 (some .int)) { frames := 3, cells := 0, slots := 0, locals := 66 }).room s m ([.ref (a 0)] : List Value).toArray below meth c H locs 0 0 (MQ below (va_Qi (fun (r : Int32) (_ : Unit) => r = r0) (fun _ t => va_P D vwCl (fbW cI a φr) t.heap) (fbA a)) ([.ref (a 0)] : List Value).toArray s 0 0 (fbA a)) (F0 m 6 ls []) := by
    intro k
    induction k with
    | zero =>
      intro v1 v2 v3 φ H locs ls o1 o2 φo h hP hS hl kk
      exact no_s h
    | succ k ih =>
      intro v1 v2 v3 φ H locs ls o1 o2 φo h hP hS hl kk
      replace h : B_X2_leaveStash_6 N (L_X2_leaveStash_6 N k) v1 v2 v3 φ = some (o1, o2, φo) := h
      unfold B_X2_leaveStash_6 at h
      refine lv_iload_n hx hb dX2_leaveStash_6 rfl (lv_at hl 3 rfl) ?_
      refine lv_aload_n hx hb dX2_leaveStash_7 rfl (lv_at hl 0 rfl) ?_
      refine F_g0_7 hx hb hA hown aF_RX2_55 hK hP dX2_leaveStash_8 ?_
      refine lv_icmp_ge (tgt := 68) hx hb dX2_leaveStash_11 (by decide) (fun hc => ?_) (fun hc => ?_)
      · replace h := oi_t hc h
        obtain ⟨rfl, rfl, rfl⟩ := os3 h
        exact kk _ _ _ hP hS (lv_sub hl [0, 1, 2] rfl)
      · replace h := oi_f hc h
        refine lv_iload_n hx hb dX2_leaveStash_14 rfl (lv_at hl 3 rfl) ?_
        refine lv_aload_n hx hb dX2_leaveStash_15 rfl (lv_at hl 0 rfl) ?_
        refine F_g0_6 hx hb hA hown aF_RX2_31 hK hP dX2_leaveStash_16 ?_
        refine F_ln2 hx hb hK hP dX2_leaveStash_19 ?_
        refine lv_icmp_ge (tgt := 68) hx hb dX2_leaveStash_20 (by decide) (fun hc => ?_) (fun hc => ?_)
        · replace h := oi_t hc h
          obtain ⟨rfl, rfl, rfl⟩ := os3 h
          exact kk _ _ _ hP hS (lv_sub hl [0, 1, 2] rfl)
        · replace h := oi_f hc h
          refine lv_aload_n hx hb dX2_leaveStash_23 rfl (lv_at hl 0 rfl) ?_
          refine F_g0_6 hx hb hA hown aF_RX2_31 hK hP dX2_leaveStash_24 ?_
          refine lv_iload_n hx hb dX2_leaveStash_27 rfl (lv_at hl 3 rfl) ?_
          obtain ⟨i1, h⟩ := oin_e h
          refine F_ld2 hx hb hK hP i1 dX2_leaveStash_28 ?_
          refine lv_topi (fun x2 ex2 => ?_)
          replace h := olet_s ex2 h
          refine lv_istore (lv' := [(4, .int x2), (0, .ref (a 0)), (1, .int v1), (2, .int v2), (3, .int v3)]) hx hb dX2_leaveStash_29 hl (by decide) rfl (fun ls hl => ?_)
          refine lv_aload_n hx hb dX2_leaveStash_31 rfl (lv_at hl 1 rfl) ?_
          refine lv_iload hx hb dX2_leaveStash_32 (lv_at hl 0 rfl) ?_
          obtain ⟨r5, w3, h4, h⟩ := obd2_e h
          refine k_X2_settle S aM_RX2_198 ⟨Nat.le_of_ble_eq_true rfl, Nat.le_of_ble_eq_true rfl⟩ ⟨Nat.zero_le _, Nat.zero_le _⟩ hP hK hDT hS h4 hl.1 (Nat.le_of_ble_eq_true rfl) dX2_leaveStash_34 (fun br5 H locs hP hS => ?_)
          refine lv_if_eq (tgt := 46) hx hb dX2_leaveStash_37 (by decide) (fun hc => ?_) (fun hc => ?_)
          · replace h := oi_t hc h
            refine lv_iload_n hx hb dX2_leaveStash_46 rfl (lv_at hl 2 rfl) ?_
            refine lv_iload_n hx hb dX2_leaveStash_47 rfl (lv_at hl 4 rfl) ?_
            refine lv_icmp_gt (tgt := 62) hx hb dX2_leaveStash_48 (by decide) (fun hc => ?_) (fun hc => ?_)
            · replace h := oi_t hc h
              refine lv_iinc (v := v3 + 1) (lv' := [(3, .int (v3 + 1)), (4, .int x2), (0, .ref (a 0)), (1, .int v1), (2, .int v2)]) hx hb dX2_leaveStash_62 hl (k := 4) rfl (fm_inc _ _ _ (by decide)) (by decide) rfl (fun ls hl => ?_)
              refine lv_goto (tgt := 6) hx hb dX2_leaveStash_65 (by decide) ?_
              exact ih _ _ _ _ _ _ _ _ _ _ h hP hS (lv_sub hl [2, 3, 4, 0] rfl) kk
            · replace h := oi_f hc h
              refine lv_aload_n hx hb dX2_leaveStash_51 rfl (lv_at hl 1 rfl) ?_
              refine F_g0_6 hx hb hA hown aF_RX2_31 hK hP dX2_leaveStash_52 ?_
              refine lv_iload_n hx hb dX2_leaveStash_55 rfl (lv_at hl 2 rfl) ?_
              refine lv_iload hx hb dX2_leaveStash_56 (lv_at hl 0 rfl) ?_
              obtain ⟨i6, h⟩ := oin_e h
              refine F_st2 hx hb hK hP (hDA _) hS i6 dX2_leaveStash_58 (fun w7 H locs ew7 hP hS => ?_)
              replace h := olet_s ew7 h
              refine lv_iinc (v := v1 + 1) (lv' := [(1, .int (v1 + 1)), (4, .int x2), (0, .ref (a 0)), (2, .int v2), (3, .int v3)]) hx hb dX2_leaveStash_59 hl (k := 2) rfl (fm_inc _ _ _ (by decide)) (by decide) rfl (fun ls hl => ?_)
              refine lv_iinc (v := v3 + 1) (lv' := [(3, .int (v3 + 1)), (1, .int (v1 + 1)), (4, .int x2), (0, .ref (a 0)), (2, .int v2)]) hx hb dX2_leaveStash_62 hl (k := 4) rfl (fm_inc _ _ _ (by decide)) (by decide) rfl (fun ls hl => ?_)
              refine lv_goto (tgt := 6) hx hb dX2_leaveStash_65 (by decide) ?_
              exact ih _ _ _ _ _ _ _ _ _ _ h hP hS (lv_sub hl [3, 1, 4, 0] rfl) kk
          · replace h := oi_f hc h
            refine lv_iinc (v := v2 + 1) (lv' := [(2, .int (v2 + 1)), (4, .int x2), (0, .ref (a 0)), (1, .int v1), (3, .int v3)]) hx hb dX2_leaveStash_40 hl (k := 3) rfl (fm_inc _ _ _ (by decide)) (by decide) rfl (fun ls hl => ?_)
            refine lv_goto (tgt := 62) hx hb dX2_leaveStash_43 (by decide) ?_
            refine lv_iinc (v := v3 + 1) (lv' := [(3, .int (v3 + 1)), (2, .int (v2 + 1)), (4, .int x2), (0, .ref (a 0)), (1, .int v1)]) hx hb dX2_leaveStash_62 hl (k := 4) rfl (fm_inc _ _ _ (by decide)) (by decide) rfl (fun ls hl => ?_)
            refine lv_goto (tgt := 6) hx hb dX2_leaveStash_65 (by decide) ?_
            exact ih _ _ _ _ _ _ _ _ _ _ h hP hS (lv_sub hl [3, 4, 1, 0] rfl) kk
  have h := hF
  unfold G_X2_leaveStash at h
  refine lv_iconst (v := 0) hx hb dX2_leaveStash_0 (by decide) ?_
  refine lv_istore_n (lv' := [(1, .int 0), (0, .ref (a 0))]) hx hb dX2_leaveStash_1 rfl hl (by decide) rfl (fun ls hl => ?_)
  refine lv_iconst (v := 0) hx hb dX2_leaveStash_2 (by decide) ?_
  refine lv_istore_n (lv' := [(2, .int 0), (1, .int 0), (0, .ref (a 0))]) hx hb dX2_leaveStash_3 rfl hl (by decide) rfl (fun ls hl => ?_)
  refine lv_iconst (v := 0) hx hb dX2_leaveStash_4 (by decide) ?_
  refine lv_istore_n (lv' := [(3, .int 0), (2, .int 0), (1, .int 0), (0, .ref (a 0))]) hx hb dX2_leaveStash_5 rfl hl (by decide) rfl (fun ls hl => ?_)
  obtain ⟨y8, y9, w10, h11, h⟩ := obd3_e h
  refine hL6 N _ _ _ _ _ _ _ _ _ _ h11 hP hS (lv_sub hl [3, 2, 1, 0] rfl) (fun H locs ls hP hS hl => ?_)
  refine lv_aload_n hx hb dX2_leaveStash_68 rfl (lv_at hl 0 rfl) ?_
  refine lv_iload_n hx hb dX2_leaveStash_69 rfl (lv_at hl 1 rfl) ?_
  refine F_p0_7 hx hb hA hown aF_RX2_55 hK hP (hDA _) hS dX2_leaveStash_70 (fun w12 H locs ew12 hP hS => ?_)
  replace h := olet_s ew12 h
  refine lv_iload_n hx hb dX2_leaveStash_73 rfl (lv_at hl 2 rfl) ?_
  obtain ⟨rfl, rfl⟩ := os2 h
  exact W.iret (v := y9) hx hb hr (fun t ht hW => ⟨⟨_, (), rfl, rfl, by show va_P _ _ _ t.heap; rw [ht]; exact hP⟩, hS.F ht⟩) hS.2.2 dX2_leaveStash_74
theorem k_X2_leaveStash {p : Program} {l : Launch} {e : Env} {R : Room} {s : State} {m : MethodId} {args : Array Value} {below : List Frame} {meth : Method} {c : Code} {H : Heap} {locs : List Loc} {cells slots : Nat} {Q : State → Prop} {cc : ByteArray} {pc nL idx : Nat} {ls : Array Slot} {rest : List Value} {own : String} {D : va_G} {cI : ClassId} {a : Nat → Nat} {H0 : Heap} {N : Nat} {φ : M2} {r0 : Int32} {φr : M2} (S : CallFix p m c cc nL s args AW own) (h1 : Cond.methodLink own idx yX2_leaveStash ∈ AW) (hR : 3 + 1 ≤ R.frames ∧ 8 + (5 + 11) + 66 ≤ R.locals) (hc : cells ≤ R.cells ∧ slots ≤ R.slots) (hP : va_P D vwCl (fbW cI a φ) H) (hK : va_K D vwCl [(cI, .int)] s) (hDT : ∀ (φ2 : M2), va_D (fun _ => True) (fbW cI a φ2)) (hS : va_S (fbA a) H0 H locs) (hF : G_X2_leaveStash N φ = some (r0, φr)) (hsz : ls.size = nL) (hW : (rest.map fun v => v.category).sum ≤ 8) (hdg : decode cc pc = .ok (.invokevirtual idx, 3)) (kk : ∀ (H1 : Heap) (locs1 : List Loc), va_P D vwCl (fbW cI a φr) H1 → va_S (fbA a) H0 H1 locs1 → W p l e R s m args below meth c H1 locs1 cells slots Q (F0 m (pc + 3) ls (.int r0 :: rest))) : W p l e R s m args below meth c H locs cells slots Q (F0 m pc ls (.ref (a 0) :: rest)) :=
  fm_runVi (n := 0) (C := RX2) (As := []) S (c_X2_leaveStash l D cI a N φ r0 φr hF) (F_pre (q0 := 0) (ci := 0) hK hP (hDT _) rfl rfl) hS h1 aI_X2_leaveStash aV_X2_leaveStash aN_RX2 aC_X2_leaveStash rfl rfl (by decide +kernel) rfl hR hc hsz hW hdg (fun r H1 locs1 hr hP1 hS1 => by subst hr; exact kk H1 locs1 hP1 hS1)
set_option maxHeartbeats 4000000 in
set_option maxRecDepth 100000 in
theorem c_X2_deleteKey (l : Launch) (D : va_G) (cI : ClassId) (a : Nat → Nat) (N : Nat) (φ : M2) (p1 : Int32) (r0 : Int32) (φr : M2) (hF : G_X2_deleteKey N φ p1 = some (r0, φr)) : Met l yX2_deleteKey (wsA yX2_deleteKey cX2_deleteKey 2 (some .int)) { frames := 4, cells := 0, slots := 0, locals := 90 } (va_Pc [.ref (a 0), .int p1] (fbP D cI a φ)) (va_Qi (fun (r : Int32) (_ : Unit) => r = r0) (fun _ t => va_P D vwCl (fbW cI a φr) t.heap) (fbA a)) 0 0 (fbA a) := by
  refine Met.ofW (cc := cX2_deleteKey) (maxL := 2) (ret := (some .int)) (by decide) rfl ?_
  intro p e s m args below meth c s₁ B hml hpre
  obtain ⟨rfl, hP, hK, hD0⟩ := hpre
  have hx := B.exec
  have hb := B.bytes
  have hr := B.returns
  have hA : ∀ w ∈ AW, w.before _ s = true := fun w h => atoms_spec (ws := wsA yX2_deleteKey cX2_deleteKey 2 (some .int)) B.pre w (List.mem_cons_of_mem _ h)
  have hown : s.vm.findClass RX2 = some m.cls := findClass_of_methodNamed B.named
  have hlocks := B.notSynchronized
  have hDT := F_dT hD0
  have hDA := F_dA hD0
  have hS : va_S (fbA a) s.heap s.heap [] := va_S.rf
  have S : CallFix p m c cX2_deleteKey 2 s ([.ref (a 0), .int p1] : List Value).toArray AW RX2 := ⟨hx, hb, hml, hown, hA⟩
  have hl := lv_entry ([.ref (a 0), .int p1]) (n := 2) (Nat.le_of_ble_eq_true rfl)
  rw [lg_entry_eq]
  generalize (lg_sl ([.ref (a 0), .int p1]) ++ List.replicate (2 - (lg_sl ([.ref (a 0), .int p1])).length) Slot.unset).toArray = ls at hl ⊢
  have hl : lv_has ls 2 [(0, .ref (a 0)), (1, .int p1)] := hl
  have h := hF
  unfold G_X2_deleteKey at h
  refine lv_aload_n hx hb dX2_deleteKey_0 rfl (lv_at hl 0 rfl) ?_
  refine F_g0_8 hx hb hA hown aF_RX2_37 hK hP dX2_deleteKey_1 ?_
  refine lv_iload_n hx hb dX2_deleteKey_4 rfl (lv_at hl 1 rfl) ?_
  obtain ⟨r1, h2, h⟩ := obd_e h
  refine k_X4_has S aM_RX2_70 ⟨Nat.le_of_ble_eq_true rfl, Nat.le_of_ble_eq_true rfl⟩ ⟨Nat.zero_le _, Nat.zero_le _⟩ hP hK hDT h2 hl.1 (Nat.le_of_ble_eq_true rfl) dX2_deleteKey_5 (fun br1 => ?_)
  refine lv_if_ne (tgt := 13) hx hb dX2_deleteKey_8 (by decide) (fun hc => ?_) (fun hc => ?_)
  · replace h := oi_f hc h
    refine lv_aload_n hx hb dX2_deleteKey_13 rfl (lv_at hl 0 rfl) ?_
    refine lv_aload_n hx hb dX2_deleteKey_14 rfl (lv_at hl 0 rfl) ?_
    refine lv_iload_n hx hb dX2_deleteKey_15 rfl (lv_at hl 1 rfl) ?_
    obtain ⟨r3, h4, h⟩ := obd_e h
    refine k_X2_placeOf S aM_RX2_135 ⟨Nat.le_of_ble_eq_true rfl, Nat.le_of_ble_eq_true rfl⟩ ⟨Nat.zero_le _, Nat.zero_le _⟩ hP hK hDT h4 hl.1 (Nat.le_of_ble_eq_true rfl) dX2_deleteKey_16 ?_
    obtain ⟨w5, h6, h⟩ := obd_e h
    refine k_X2_removeEntry S aM_RX2_166 ⟨Nat.le_of_ble_eq_true rfl, Nat.le_of_ble_eq_true rfl⟩ ⟨Nat.zero_le _, Nat.zero_le _⟩ hP hK hDT hS h6 hl.1 (Nat.le_of_ble_eq_true rfl) dX2_deleteKey_19 (fun H locs hP hS => ?_)
    refine lv_aload_n hx hb dX2_deleteKey_22 rfl (lv_at hl 0 rfl) ?_
    refine F_g0_8 hx hb hA hown aF_RX2_37 hK hP dX2_deleteKey_23 ?_
    refine lv_iload_n hx hb dX2_deleteKey_26 rfl (lv_at hl 1 rfl) ?_
    obtain ⟨w7, h8, h⟩ := obd_e h
    refine k_X4_remove S aM_RX2_169 ⟨Nat.le_of_ble_eq_true rfl, Nat.le_of_ble_eq_true rfl⟩ ⟨Nat.zero_le _, Nat.zero_le _⟩ hP hK hDT hS h8 hl.1 (Nat.le_of_ble_eq_true rfl) dX2_deleteKey_27 (fun H locs hP hS => ?_)
    refine lv_aload_n hx hb dX2_deleteKey_30 rfl (lv_at hl 0 rfl) ?_
    obtain ⟨r11, w9, h10, h⟩ := obd2_e h
    refine k_X2_leaveStash S aM_RX2_172 ⟨Nat.le_of_ble_eq_true rfl, Nat.le_of_ble_eq_true rfl⟩ ⟨Nat.zero_le _, Nat.zero_le _⟩ hP hK hDT hS h10 hl.1 (Nat.le_of_ble_eq_true rfl) dX2_deleteKey_31 (fun H locs hP hS => ?_)
    obtain ⟨rfl, rfl⟩ := os2 h
    exact W.iret (v := r11) hx hb hr (fun t ht hW => ⟨⟨_, (), rfl, rfl, by show va_P _ _ _ t.heap; rw [ht]; exact hP⟩, hS.F ht⟩) hS.2.2 dX2_deleteKey_34
  · replace h := oi_t hc h
    refine lv_iconst (v := (-1)) hx hb dX2_deleteKey_11 (by decide) ?_
    obtain ⟨rfl, rfl⟩ := os2 h
    exact W.iret (v := (-1)) hx hb hr (fun t ht hW => ⟨⟨_, (), rfl, rfl, by show va_P _ _ _ t.heap; rw [ht]; exact hP⟩, hS.F ht⟩) hS.2.2 dX2_deleteKey_12
theorem k_X2_deleteKey {p : Program} {l : Launch} {e : Env} {R : Room} {s : State} {m : MethodId} {args : Array Value} {below : List Frame} {meth : Method} {c : Code} {H : Heap} {locs : List Loc} {cells slots : Nat} {Q : State → Prop} {cc : ByteArray} {pc nL idx : Nat} {ls : Array Slot} {rest : List Value} {own : String} {D : va_G} {cI : ClassId} {a : Nat → Nat} {H0 : Heap} {N : Nat} {φ : M2} {p1 : Int32} {r0 : Int32} {φr : M2} (S : CallFix p m c cc nL s args AW own) (h1 : Cond.methodLink own idx yX2_deleteKey ∈ AW) (hR : 4 + 1 ≤ R.frames ∧ 8 + (2 + 11) + 90 ≤ R.locals) (hc : cells ≤ R.cells ∧ slots ≤ R.slots) (hP : va_P D vwCl (fbW cI a φ) H) (hK : va_K D vwCl [(cI, .int)] s) (hDT : ∀ (φ2 : M2), va_D (fun _ => True) (fbW cI a φ2)) (hS : va_S (fbA a) H0 H locs) (hF : G_X2_deleteKey N φ p1 = some (r0, φr)) (hsz : ls.size = nL) (hW : (rest.map fun v => v.category).sum ≤ 8) (hdg : decode cc pc = .ok (.invokevirtual idx, 3)) (kk : ∀ (H1 : Heap) (locs1 : List Loc), va_P D vwCl (fbW cI a φr) H1 → va_S (fbA a) H0 H1 locs1 → W p l e R s m args below meth c H1 locs1 cells slots Q (F0 m (pc + 3) ls (.int r0 :: rest))) : W p l e R s m args below meth c H locs cells slots Q (F0 m pc ls (.int p1 :: .ref (a 0) :: rest)) :=
  fm_runVi (n := 1) (C := RX2) (As := [.int p1]) S (c_X2_deleteKey l D cI a N φ p1 r0 φr hF) (F_pre (q0 := 0) (ci := 0) hK hP (hDT _) rfl rfl) hS h1 aI_X2_deleteKey aV_X2_deleteKey aN_RX2 aC_X2_deleteKey rfl rfl (by decide +kernel) rfl hR hc hsz hW hdg (fun r H1 locs1 hr hP1 hS1 => by subst hr; exact kk H1 locs1 hP1 hS1)
set_option maxHeartbeats 4000000 in
set_option maxRecDepth 100000 in
theorem c_X2_doubleSlot (l : Launch) (D : va_G) (cI : ClassId) (a : Nat → Nat) (φ : M2) (p1 : Int32) (p2 : Int32) (p3 : Int32) (φr : M2) (hF : G_X2_doubleSlot φ p1 p2 p3 = some φr) : Met l yX2_doubleSlot (wsA yX2_doubleSlot cX2_doubleSlot 7 none) { frames := 2, cells := 0, slots := 0, locals := 46 } (va_Pc [.ref (a 0), .int p1, .int p2, .int p3] (fbP D cI a φ)) (va_Qv (fun (_ : Unit) => True) (fun _ t => va_P D vwCl (fbW cI a φr) t.heap) (fbA a)) 0 0 (fbA a) := by
  refine Met.ofW (cc := cX2_doubleSlot) (maxL := 7) (ret := none) (by decide) rfl ?_
  intro p e s m args below meth c s₁ B hml hpre
  obtain ⟨rfl, hP, hK, hD0⟩ := hpre
  have hx := B.exec
  have hb := B.bytes
  have hr := B.returns
  have hA : ∀ w ∈ AW, w.before _ s = true := fun w h => atoms_spec (ws := wsA yX2_doubleSlot cX2_doubleSlot 7 none) B.pre w (List.mem_cons_of_mem _ h)
  have hown : s.vm.findClass RX2 = some m.cls := findClass_of_methodNamed B.named
  have hlocks := B.notSynchronized
  have hDT := F_dT hD0
  have hDA := F_dA hD0
  have hS : va_S (fbA a) s.heap s.heap [] := va_S.rf
  have S : CallFix p m c cX2_doubleSlot 7 s ([.ref (a 0), .int p1, .int p2, .int p3] : List Value).toArray AW RX2 := ⟨hx, hb, hml, hown, hA⟩
  have hl := lv_entry ([.ref (a 0), .int p1, .int p2, .int p3]) (n := 7) (Nat.le_of_ble_eq_true rfl)
  rw [lg_entry_eq]
  generalize (lg_sl ([.ref (a 0), .int p1, .int p2, .int p3]) ++ List.replicate (7 - (lg_sl ([.ref (a 0), .int p1, .int p2, .int p3])).length) Slot.unset).toArray = ls at hl ⊢
  have hl : lv_has ls 7 [(0, .ref (a 0)), (1, .int p1), (2, .int p2), (3, .int p3)] := hl
  have hJ46 : ∀ (v2 : Int32) (v5 : Int32) (s0 : Int32) (φ : M2) (H : Heap) (locs : List Loc) (ls : Array Slot), J_X2_doubleSlot_46 φ v2 v5 s0 = some φr → va_P D vwCl (fbW cI a φ) H → va_S (fbA a) s.heap H locs → lv_has ls 7 [(0, .ref (a 0)), (2, .int v2), (5, .int v5)] → W p l e (headSpec (wsA yX2_doubleSlot cX2_doubleSlot 7 none) { frames := 2, cells := 0, slots := 0, locals := 46 }).room s m ([.ref (a 0), .int p1, .int p2, .int p3] : List Value).toArray below meth c H locs 0 0 (MQ below (va_Qv (fun (_ : Unit) => True) (fun _ t => va_P D vwCl (fbW cI a φr) t.heap) (fbA a)) ([.ref (a 0), .int p1, .int p2, .int p3] : List Value).toArray s 0 0 (fbA a)) (F0 m 46 ls [.int s0]) := by
    intro v2 v5 s0 φ H locs ls h hP hS hl
    unfold J_X2_doubleSlot_46 at h
    refine lv_istore (lv' := [(6, .int s0), (0, .ref (a 0)), (2, .int v2), (5, .int v5)]) hx hb dX2_doubleSlot_46 hl (by decide) rfl (fun ls hl => ?_)
    refine lv_aload_n hx hb dX2_doubleSlot_48 rfl (lv_at hl 1 rfl) ?_
    refine lv_iload hx hb dX2_doubleSlot_49 (lv_at hl 0 rfl) ?_
    refine lv_if_eq (tgt := 62) hx hb dX2_doubleSlot_51 (by decide) (fun hc => ?_) (fun hc => ?_)
    · replace h := oi_t hc h
      refine lv_aload_n hx hb dX2_doubleSlot_62 rfl (lv_at hl 1 rfl) ?_
      refine lv_iload hx hb dX2_doubleSlot_63 (lv_at hl 3 rfl) ?_
      refine k_X2_otherOf S aM_RX2_204 ⟨Nat.le_of_ble_eq_true rfl, Nat.le_of_ble_eq_true rfl⟩ ⟨Nat.zero_le _, Nat.zero_le _⟩ hP hK hDT hl.1 (Nat.le_of_ble_eq_true rfl) dX2_doubleSlot_65 (fun r8 er8 => ?_)
      replace h := olet_s er8 h
      refine lv_iload_n hx hb dX2_doubleSlot_68 rfl (lv_at hl 2 rfl) ?_
      refine k_X2_placeIn S aM_RX2_116 ⟨Nat.le_of_ble_eq_true rfl, Nat.le_of_ble_eq_true rfl⟩ ⟨Nat.zero_le _, Nat.zero_le _⟩ hl.1 (Nat.le_of_ble_eq_true rfl) dX2_doubleSlot_69 (fun r9 er9 => ?_)
      replace h := olet_s er9 h
      refine lv_iload hx hb dX2_doubleSlot_72 (lv_at hl 3 rfl) ?_
      obtain ⟨w10, h11, h⟩ := obd_e h
      refine k_X2_setCell S aM_RX2_131 ⟨Nat.le_of_ble_eq_true rfl, Nat.le_of_ble_eq_true rfl⟩ ⟨Nat.zero_le _, Nat.zero_le _⟩ hP hK hDT hS h11 hl.1 (Nat.le_of_ble_eq_true rfl) dX2_doubleSlot_74 (fun H locs hP hS => ?_)
      obtain rfl := os1 h
      exact W.vret hx hb hr (fun t ht hW => ⟨⟨(), rfl, trivial, by show va_P _ _ _ t.heap; rw [ht]; exact hP⟩, hS.F ht⟩) hS.2.2 dX2_doubleSlot_77
    · replace h := oi_f hc h
      refine lv_iload hx hb dX2_doubleSlot_54 (lv_at hl 3 rfl) ?_
      refine k_X1_homeOf S aM_RX2_88 ⟨Nat.le_of_ble_eq_true rfl, Nat.le_of_ble_eq_true rfl⟩ ⟨Nat.zero_le _, Nat.zero_le _⟩ hl.1 (Nat.le_of_ble_eq_true rfl) dX2_doubleSlot_56 (fun r12 er12 => ?_)
      replace h := olet_s er12 h
      refine lv_goto (tgt := 68) hx hb dX2_doubleSlot_59 (by decide) ?_
      refine lv_iload_n hx hb dX2_doubleSlot_68 rfl (lv_at hl 2 rfl) ?_
      refine k_X2_placeIn S aM_RX2_116 ⟨Nat.le_of_ble_eq_true rfl, Nat.le_of_ble_eq_true rfl⟩ ⟨Nat.zero_le _, Nat.zero_le _⟩ hl.1 (Nat.le_of_ble_eq_true rfl) dX2_doubleSlot_69 (fun r13 er13 => ?_)
      replace h := olet_s er13 h
      refine lv_iload hx hb dX2_doubleSlot_72 (lv_at hl 3 rfl) ?_
      obtain ⟨w14, h15, h⟩ := obd_e h
      refine k_X2_setCell S aM_RX2_131 ⟨Nat.le_of_ble_eq_true rfl, Nat.le_of_ble_eq_true rfl⟩ ⟨Nat.zero_le _, Nat.zero_le _⟩ hP hK hDT hS h15 hl.1 (Nat.le_of_ble_eq_true rfl) dX2_doubleSlot_74 (fun H locs hP hS => ?_)
      obtain rfl := os1 h
      exact W.vret hx hb hr (fun t ht hW => ⟨⟨(), rfl, trivial, by show va_P _ _ _ t.heap; rw [ht]; exact hP⟩, hS.F ht⟩) hS.2.2 dX2_doubleSlot_77
  have h := hF
  unfold G_X2_doubleSlot at h
  refine lv_aload_n hx hb dX2_doubleSlot_0 rfl (lv_at hl 0 rfl) ?_
  refine lv_iload_n hx hb dX2_doubleSlot_1 rfl (lv_at hl 1 rfl) ?_
  refine lv_iload_n hx hb dX2_doubleSlot_2 rfl (lv_at hl 2 rfl) ?_
  refine k_X2_placeIn S aM_RX2_116 ⟨Nat.le_of_ble_eq_true rfl, Nat.le_of_ble_eq_true rfl⟩ ⟨Nat.zero_le _, Nat.zero_le _⟩ hl.1 (Nat.le_of_ble_eq_true rfl) dX2_doubleSlot_3 (fun r1 er1 => ?_)
  replace h := olet_s er1 h
  obtain ⟨r2, h3, h⟩ := obd_e h
  refine k_X2_cellAt S aM_RX2_119 ⟨Nat.le_of_ble_eq_true rfl, Nat.le_of_ble_eq_true rfl⟩ ⟨Nat.zero_le _, Nat.zero_le _⟩ hP hK hDT h3 hl.1 (Nat.le_of_ble_eq_true rfl) dX2_doubleSlot_6 ?_
  refine lv_istore (lv' := [(4, .int r2), (0, .ref (a 0)), (1, .int p1), (2, .int p2), (3, .int p3)]) hx hb dX2_doubleSlot_9 hl (by decide) rfl (fun ls hl => ?_)
  refine lv_iload hx hb dX2_doubleSlot_11 (lv_at hl 0 rfl) ?_
  refine lv_iconst (v := (-1)) hx hb dX2_doubleSlot_13 (by decide) ?_
  refine lv_icmp_ne (tgt := 18) hx hb dX2_doubleSlot_14 (by decide) (fun hc => ?_) (fun hc => ?_)
  · replace h := oi_f hc h
    refine lv_aload_n hx hb dX2_doubleSlot_18 rfl (lv_at hl 1 rfl) ?_
    refine lv_iload_n hx hb dX2_doubleSlot_19 rfl (lv_at hl 2 rfl) ?_
    refine lv_iload_n hx hb dX2_doubleSlot_20 rfl (lv_at hl 3 rfl) ?_
    obtain ⟨w4, h5, h⟩ := obd_e h
    refine k_X2_emptySlot S aM_RX2_237 ⟨Nat.le_of_ble_eq_true rfl, Nat.le_of_ble_eq_true rfl⟩ ⟨Nat.zero_le _, Nat.zero_le _⟩ hP hK hDT hS h5 hl.1 (Nat.le_of_ble_eq_true rfl) dX2_doubleSlot_21 (fun H locs hP hS => ?_)
    refine lv_iload hx hb dX2_doubleSlot_24 (lv_at hl 0 rfl) ?_
    refine lv_iload_n hx hb dX2_doubleSlot_26 rfl (lv_at hl 4 rfl) ?_
    refine k_X1_doubled S aM_RX2_179 ⟨Nat.le_of_ble_eq_true rfl, Nat.le_of_ble_eq_true rfl⟩ ⟨Nat.zero_le _, Nat.zero_le _⟩ hl.1 (Nat.le_of_ble_eq_true rfl) dX2_doubleSlot_27 (fun r6 er6 => ?_)
    replace h := olet_s er6 h
    refine lv_istore (lv' := [(5, .int r6), (4, .int r2), (0, .ref (a 0)), (1, .int p1), (2, .int p2), (3, .int p3)]) hx hb dX2_doubleSlot_30 hl (by decide) rfl (fun ls hl => ?_)
    refine lv_iload hx hb dX2_doubleSlot_32 (lv_at hl 1 rfl) ?_
    refine k_X1_homeOf S aM_RX2_88 ⟨Nat.le_of_ble_eq_true rfl, Nat.le_of_ble_eq_true rfl⟩ ⟨Nat.zero_le _, Nat.zero_le _⟩ hl.1 (Nat.le_of_ble_eq_true rfl) dX2_doubleSlot_34 (fun r7 er7 => ?_)
    replace h := olet_s er7 h
    refine lv_iload_n hx hb dX2_doubleSlot_37 rfl (lv_at hl 3 rfl) ?_
    refine lv_icmp_ne (tgt := 45) hx hb dX2_doubleSlot_38 (by decide) (fun hc => ?_) (fun hc => ?_)
    · replace h := oi_f hc h
      refine lv_iconst (v := 0) hx hb dX2_doubleSlot_45 (by decide) ?_
      exact hJ46 _ _ _ _ _ _ _ h hP hS (lv_sub hl [2, 4, 0] rfl)
    · replace h := oi_t hc h
      refine lv_iconst (v := 1) hx hb dX2_doubleSlot_41 (by decide) ?_
      refine lv_goto (tgt := 46) hx hb dX2_doubleSlot_42 (by decide) ?_
      exact hJ46 _ _ _ _ _ _ _ h hP hS (lv_sub hl [2, 4, 0] rfl)
  · replace h := oi_t hc h
    obtain rfl := os1 h
    exact W.vret hx hb hr (fun t ht hW => ⟨⟨(), rfl, trivial, by show va_P _ _ _ t.heap; rw [ht]; exact hP⟩, hS.F ht⟩) hS.2.2 dX2_doubleSlot_17
theorem k_X2_doubleSlot {p : Program} {l : Launch} {e : Env} {R : Room} {s : State} {m : MethodId} {args : Array Value} {below : List Frame} {meth : Method} {c : Code} {H : Heap} {locs : List Loc} {cells slots : Nat} {Q : State → Prop} {cc : ByteArray} {pc nL idx : Nat} {ls : Array Slot} {rest : List Value} {own : String} {D : va_G} {cI : ClassId} {a : Nat → Nat} {H0 : Heap} {φ : M2} {p1 : Int32} {p2 : Int32} {p3 : Int32} {φr : M2} (S : CallFix p m c cc nL s args AW own) (h1 : Cond.methodLink own idx yX2_doubleSlot ∈ AW) (hR : 2 + 1 ≤ R.frames ∧ 8 + (7 + 11) + 46 ≤ R.locals) (hc : cells ≤ R.cells ∧ slots ≤ R.slots) (hP : va_P D vwCl (fbW cI a φ) H) (hK : va_K D vwCl [(cI, .int)] s) (hDT : ∀ (φ2 : M2), va_D (fun _ => True) (fbW cI a φ2)) (hS : va_S (fbA a) H0 H locs) (hF : G_X2_doubleSlot φ p1 p2 p3 = some φr) (hsz : ls.size = nL) (hW : (rest.map fun v => v.category).sum ≤ 8) (hdg : decode cc pc = .ok (.invokevirtual idx, 3)) (kk : ∀ (H1 : Heap) (locs1 : List Loc), va_P D vwCl (fbW cI a φr) H1 → va_S (fbA a) H0 H1 locs1 → W p l e R s m args below meth c H1 locs1 cells slots Q (F0 m (pc + 3) ls (rest))) : W p l e R s m args below meth c H locs cells slots Q (F0 m pc ls (.int p3 :: .int p2 :: .int p1 :: .ref (a 0) :: rest)) :=
  fm_runVv (n := 3) (C := RX2) (As := [.int p1, .int p2, .int p3]) S (c_X2_doubleSlot l D cI a φ p1 p2 p3 φr hF) (F_pre (q0 := 0) (ci := 0) hK hP (hDT _) rfl rfl) hS h1 aI_X2_doubleSlot aV_X2_doubleSlot aN_RX2 aC_X2_doubleSlot rfl rfl (by decide +kernel) rfl hR hc hsz hW hdg (fun H1 locs1 hP1 hS1 => kk H1 locs1 hP1 hS1)
set_option maxHeartbeats 4000000 in
set_option maxRecDepth 100000 in
theorem c_X2_doubleBuckets (l : Launch) (D : va_G) (cI : ClassId) (a : Nat → Nat) (N : Nat) (φ : M2) (r0 : Int32) (φr : M2) (hF : G_X2_doubleBuckets N φ = some (r0, φr)) : Met l yX2_doubleBuckets (wsA yX2_doubleBuckets cX2_doubleBuckets 5 (some .int)) { frames := 4, cells := 0, slots := 0, locals := 90 } (va_Pc [.ref (a 0)] (fbP D cI a φ)) (va_Qi (fun (r : Int32) (_ : Unit) => r = r0) (fun _ t => va_P D vwCl (fbW cI a φr) t.heap) (fbA a)) 0 0 (fbA a) := by
  refine Met.ofW (cc := cX2_doubleBuckets) (maxL := 5) (ret := (some .int)) (by decide) rfl ?_
  intro p e s m args below meth c s₁ B hml hpre
  obtain ⟨rfl, hP, hK, hD0⟩ := hpre
  have hx := B.exec
  have hb := B.bytes
  have hr := B.returns
  have hA : ∀ w ∈ AW, w.before _ s = true := fun w h => atoms_spec (ws := wsA yX2_doubleBuckets cX2_doubleBuckets 5 (some .int)) B.pre w (List.mem_cons_of_mem _ h)
  have hown : s.vm.findClass RX2 = some m.cls := findClass_of_methodNamed B.named
  have hlocks := B.notSynchronized
  have hDT := F_dT hD0
  have hDA := F_dA hD0
  have hS : va_S (fbA a) s.heap s.heap [] := va_S.rf
  have S : CallFix p m c cX2_doubleBuckets 5 s ([.ref (a 0)] : List Value).toArray AW RX2 := ⟨hx, hb, hml, hown, hA⟩
  have hl := lv_entry ([.ref (a 0)]) (n := 5) (Nat.le_of_ble_eq_true rfl)
  rw [lg_entry_eq]
  generalize (lg_sl ([.ref (a 0)]) ++ List.replicate (5 - (lg_sl ([.ref (a 0)])).length) Slot.unset).toArray = ls at hl ⊢
  have hl : lv_has ls 5 [(0, .ref (a 0))] := hl
  have hL36 : ∀ (k : Nat) (v1 : Int32) (v2 : Int32) (v3 : Int32) (v4 : Int32) (φ : M2) (H : Heap) (locs : List Loc) (ls : Array Slot) (φo : M2), L_X2_doubleBuckets_36 N v1 v2 v3 k v4 φ = some φo → va_P D vwCl (fbW cI a φ) H → va_S (fbA a) s.heap H locs → lv_has ls 5 [(0, .ref (a 0)), (1, .int v1), (2, .int v2), (3, .int v3), (4, .int v4)] → (∀ (H1 : Heap) (locs1 : List Loc) (ls1 : Array Slot), va_P D vwCl (fbW cI a φo) H1 → va_S (fbA a) s.heap H1 locs1 → lv_has ls1 5 [(0, .ref (a 0)), (1, .int v1), (2, .int v2), (3, .int v3)] → W p l e (headSpec (wsA yX2_doubleBuckets cX2_doubleBuckets 5 (some .int)) { frames := 4, cells := 0, slots := 0, locals := 90 }).room s m ([.ref (a 0)] : List Value).toArray below meth c H1 locs1 0 0 (MQ below (va_Qi (fun (r : Int32) (_ : Unit) => r = r0) (fun _ t => va_P D vwCl (fbW cI a φr) t.heap) (fbA a)) ([.ref (a 0)] : List Value).toArray s 0 0 (fbA a)) (F0 m 59 ls1 [])) → W p l e (headSpec (wsA yX2_doubleBuckets cX2_doubleBuckets 5 (some .int)) { frames := 4, cells := 0, slots := 0, locals := 90 }).room s m ([.ref (a 0)] : List Value).toArray below meth c H locs 0 0 (MQ below (va_Qi (fun (r : Int32) (_ : Unit) => r = r0) (fun _ t => va_P D vwCl (fbW cI a φr) t.heap) (fbA a)) ([.ref (a 0)] : List Value).toArray s 0 0 (fbA a)) (F0 m 36 ls []) := by
    intro k
    induction k with
    | zero =>
      intro v1 v2 v3 v4 φ H locs ls φo h hP hS hl kk
      exact no_s h
    | succ k ih =>
      intro v1 v2 v3 v4 φ H locs ls φo h hP hS hl kk
      replace h : B_X2_doubleBuckets_36 N v1 v2 v3 (L_X2_doubleBuckets_36 N v1 v2 v3 k) v4 φ = some φo := h
      unfold B_X2_doubleBuckets_36 at h
      refine lv_iload hx hb dX2_doubleBuckets_36 (lv_at hl 4 rfl) ?_
      refine lv_aload_n hx hb dX2_doubleBuckets_38 rfl (lv_at hl 0 rfl) ?_
      refine F_g0_1 hx hb hA hown aF_RX2_15 hK hP dX2_doubleBuckets_39 ?_
      refine lv_icmp_ge (tgt := 59) hx hb dX2_doubleBuckets_42 (by decide) (fun hc => ?_) (fun hc => ?_)
      · replace h := oi_t hc h
        obtain rfl := os1 h
        exact kk _ _ _ hP hS (lv_sub hl [0, 1, 2, 3] rfl)
      · replace h := oi_f hc h
        refine lv_aload_n hx hb dX2_doubleBuckets_45 rfl (lv_at hl 0 rfl) ?_
        refine lv_iload_n hx hb dX2_doubleBuckets_46 rfl (lv_at hl 3 rfl) ?_
        refine lv_iload hx hb dX2_doubleBuckets_47 (lv_at hl 4 rfl) ?_
        refine lv_iload_n hx hb dX2_doubleBuckets_49 rfl (lv_at hl 1 rfl) ?_
        obtain ⟨w6, h7, h⟩ := obd_e h
        refine k_X2_doubleSlot S aM_RX2_175 ⟨Nat.le_of_ble_eq_true rfl, Nat.le_of_ble_eq_true rfl⟩ ⟨Nat.zero_le _, Nat.zero_le _⟩ hP hK hDT hS h7 hl.1 (Nat.le_of_ble_eq_true rfl) dX2_doubleBuckets_50 (fun H locs hP hS => ?_)
        refine lv_iinc (v := v4 + 1) (lv' := [(4, .int (v4 + 1)), (0, .ref (a 0)), (1, .int v1), (2, .int v2), (3, .int v3)]) hx hb dX2_doubleBuckets_53 hl (k := 4) rfl (fm_inc _ _ _ (by decide)) (by decide) rfl (fun ls hl => ?_)
        refine lv_goto (tgt := 36) hx hb dX2_doubleBuckets_56 (by decide) ?_
        exact ih _ _ _ _ _ _ _ _ _ h hP hS (lv_sub hl [1, 2, 3, 4, 0] rfl) kk
  have hL28 : ∀ (k : Nat) (v1 : Int32) (v2 : Int32) (v3 : Int32) (φ : M2) (H : Heap) (locs : List Loc) (ls : Array Slot) (φo : M2), L_X2_doubleBuckets_28 N v1 v2 k v3 φ = some φo → va_P D vwCl (fbW cI a φ) H → va_S (fbA a) s.heap H locs → lv_has ls 5 [(0, .ref (a 0)), (1, .int v1), (2, .int v2), (3, .int v3)] → (∀ (H1 : Heap) (locs1 : List Loc) (ls1 : Array Slot), va_P D vwCl (fbW cI a φo) H1 → va_S (fbA a) s.heap H1 locs1 → lv_has ls1 5 [(0, .ref (a 0)), (1, .int v1)] → W p l e (headSpec (wsA yX2_doubleBuckets cX2_doubleBuckets 5 (some .int)) { frames := 4, cells := 0, slots := 0, locals := 90 }).room s m ([.ref (a 0)] : List Value).toArray below meth c H1 locs1 0 0 (MQ below (va_Qi (fun (r : Int32) (_ : Unit) => r = r0) (fun _ t => va_P D vwCl (fbW cI a φr) t.heap) (fbA a)) ([.ref (a 0)] : List Value).toArray s 0 0 (fbA a)) (F0 m 65 ls1 [])) → W p l e (headSpec (wsA yX2_doubleBuckets cX2_doubleBuckets 5 (some .int)) { frames := 4, cells := 0, slots := 0, locals := 90 }).room s m ([.ref (a 0)] : List Value).toArray below meth c H locs 0 0 (MQ below (va_Qi (fun (r : Int32) (_ : Unit) => r = r0) (fun _ t => va_P D vwCl (fbW cI a φr) t.heap) (fbA a)) ([.ref (a 0)] : List Value).toArray s 0 0 (fbA a)) (F0 m 28 ls []) := by
    intro k
    induction k with
    | zero =>
      intro v1 v2 v3 φ H locs ls φo h hP hS hl kk
      exact no_s h
    | succ k ih =>
      intro v1 v2 v3 φ H locs ls φo h hP hS hl kk
      replace h : B_X2_doubleBuckets_28 N v1 v2 (L_X2_doubleBuckets_28 N v1 v2 k) v3 φ = some φo := h
      unfold B_X2_doubleBuckets_28 at h
      refine lv_iload_n hx hb dX2_doubleBuckets_28 rfl (lv_at hl 3 rfl) ?_
      refine lv_iload_n hx hb dX2_doubleBuckets_29 rfl (lv_at hl 2 rfl) ?_
      refine lv_icmp_ge (tgt := 65) hx hb dX2_doubleBuckets_30 (by decide) (fun hc => ?_) (fun hc => ?_)
      · replace h := oi_t hc h
        obtain rfl := os1 h
        exact kk _ _ _ hP hS (lv_sub hl [0, 1] rfl)
      · replace h := oi_f hc h
        refine lv_iconst (v := 0) hx hb dX2_doubleBuckets_33 (by decide) ?_
        refine lv_istore (lv' := [(4, .int 0), (0, .ref (a 0)), (1, .int v1), (2, .int v2), (3, .int v3)]) hx hb dX2_doubleBuckets_34 hl (by decide) rfl (fun ls hl => ?_)
        obtain ⟨w8, h9, h⟩ := obd_e h
        refine hL36 N _ _ _ _ _ _ _ _ _ h9 hP hS (lv_sub hl [1, 2, 3, 4, 0] rfl) (fun H locs ls hP hS hl => ?_)
        refine lv_iinc (v := v3 + 1) (lv' := [(3, .int (v3 + 1)), (0, .ref (a 0)), (1, .int v1), (2, .int v2)]) hx hb dX2_doubleBuckets_59 hl (k := 3) rfl (fm_inc _ _ _ (by decide)) (by decide) rfl (fun ls hl => ?_)
        refine lv_goto (tgt := 28) hx hb dX2_doubleBuckets_62 (by decide) ?_
        exact ih _ _ _ _ _ _ _ _ h hP hS (lv_sub hl [1, 2, 3, 0] rfl) kk
  have hL67 : ∀ (k : Nat) (v1 : Int32) (v3 : Int32) (φ : M2) (H : Heap) (locs : List Loc) (ls : Array Slot) (φo : M2), L_X2_doubleBuckets_67 N v1 k v3 φ = some φo → va_P D vwCl (fbW cI a φ) H → va_S (fbA a) s.heap H locs → lv_has ls 5 [(0, .ref (a 0)), (1, .int v1), (3, .int v3)] → (∀ (H1 : Heap) (locs1 : List Loc) (ls1 : Array Slot), va_P D vwCl (fbW cI a φo) H1 → va_S (fbA a) s.heap H1 locs1 → lv_has ls1 5 [(0, .ref (a 0))] → W p l e (headSpec (wsA yX2_doubleBuckets cX2_doubleBuckets 5 (some .int)) { frames := 4, cells := 0, slots := 0, locals := 90 }).room s m ([.ref (a 0)] : List Value).toArray below meth c H1 locs1 0 0 (MQ below (va_Qi (fun (r : Int32) (_ : Unit) => r = r0) (fun _ t => va_P D vwCl (fbW cI a φr) t.heap) (fbA a)) ([.ref (a 0)] : List Value).toArray s 0 0 (fbA a)) (F0 m 106 ls1 [])) → W p l e (headSpec (wsA yX2_doubleBuckets cX2_doubleBuckets 5 (some .int)) { frames := 4, cells := 0, slots := 0, locals := 90 }).room s m ([.ref (a 0)] : List Value).toArray below meth c H locs 0 0 (MQ below (va_Qi (fun (r : Int32) (_ : Unit) => r = r0) (fun _ t => va_P D vwCl (fbW cI a φr) t.heap) (fbA a)) ([.ref (a 0)] : List Value).toArray s 0 0 (fbA a)) (F0 m 67 ls []) := by
    intro k
    induction k with
    | zero =>
      intro v1 v3 φ H locs ls φo h hP hS hl kk
      exact no_s h
    | succ k ih =>
      intro v1 v3 φ H locs ls φo h hP hS hl kk
      replace h : B_X2_doubleBuckets_67 N v1 (L_X2_doubleBuckets_67 N v1 k) v3 φ = some φo := h
      unfold B_X2_doubleBuckets_67 at h
      refine lv_iload_n hx hb dX2_doubleBuckets_67 rfl (lv_at hl 2 rfl) ?_
      refine lv_aload_n hx hb dX2_doubleBuckets_68 rfl (lv_at hl 0 rfl) ?_
      refine F_g0_7 hx hb hA hown aF_RX2_55 hK hP dX2_doubleBuckets_69 ?_
      refine lv_icmp_ge (tgt := 106) hx hb dX2_doubleBuckets_72 (by decide) (fun hc => ?_) (fun hc => ?_)
      · replace h := oi_t hc h
        obtain rfl := os1 h
        exact kk _ _ _ hP hS (lv_sub hl [0] rfl)
      · replace h := oi_f hc h
        refine lv_iload_n hx hb dX2_doubleBuckets_75 rfl (lv_at hl 2 rfl) ?_
        refine lv_aload_n hx hb dX2_doubleBuckets_76 rfl (lv_at hl 0 rfl) ?_
        refine F_g0_6 hx hb hA hown aF_RX2_31 hK hP dX2_doubleBuckets_77 ?_
        refine F_ln2 hx hb hK hP dX2_doubleBuckets_80 ?_
        refine lv_icmp_ge (tgt := 106) hx hb dX2_doubleBuckets_81 (by decide) (fun hc => ?_) (fun hc => ?_)
        · replace h := oi_t hc h
          obtain rfl := os1 h
          exact kk _ _ _ hP hS (lv_sub hl [0] rfl)
        · replace h := oi_f hc h
          refine lv_aload_n hx hb dX2_doubleBuckets_84 rfl (lv_at hl 0 rfl) ?_
          refine F_g0_6 hx hb hA hown aF_RX2_31 hK hP dX2_doubleBuckets_85 ?_
          refine lv_iload_n hx hb dX2_doubleBuckets_88 rfl (lv_at hl 2 rfl) ?_
          refine lv_aload_n hx hb dX2_doubleBuckets_89 rfl (lv_at hl 0 rfl) ?_
          refine F_g0_6 hx hb hA hown aF_RX2_31 hK hP dX2_doubleBuckets_90 ?_
          refine lv_iload_n hx hb dX2_doubleBuckets_93 rfl (lv_at hl 2 rfl) ?_
          obtain ⟨i12, h⟩ := oin_e h
          refine F_ld2 hx hb hK hP i12 dX2_doubleBuckets_94 ?_
          refine lv_iload_n hx hb dX2_doubleBuckets_95 rfl (lv_at hl 1 rfl) ?_
          refine k_X1_doubled S aM_RX2_179 ⟨Nat.le_of_ble_eq_true rfl, Nat.le_of_ble_eq_true rfl⟩ ⟨Nat.zero_le _, Nat.zero_le _⟩ hl.1 (Nat.le_of_ble_eq_true rfl) dX2_doubleBuckets_96 (fun r13 er13 => ?_)
          replace h := olet_s er13 h
          obtain ⟨i14, h⟩ := oin_e h
          refine F_st2 hx hb hK hP (hDA _) hS i14 dX2_doubleBuckets_99 (fun w15 H locs ew15 hP hS => ?_)
          replace h := olet_s ew15 h
          refine lv_iinc (v := v3 + 1) (lv' := [(3, .int (v3 + 1)), (0, .ref (a 0)), (1, .int v1)]) hx hb dX2_doubleBuckets_100 hl (k := 2) rfl (fm_inc _ _ _ (by decide)) (by decide) rfl (fun ls hl => ?_)
          refine lv_goto (tgt := 67) hx hb dX2_doubleBuckets_103 (by decide) ?_
          exact ih _ _ _ _ _ _ _ h hP hS (lv_sub hl [1, 2, 0] rfl) kk
  have h := hF
  unfold G_X2_doubleBuckets at h
  refine lv_aload_n hx hb dX2_doubleBuckets_0 rfl (lv_at hl 0 rfl) ?_
  obtain ⟨r1, h2, h⟩ := obd_e h
  refine k_X2_canDouble S aM_RX2_112 ⟨Nat.le_of_ble_eq_true rfl, Nat.le_of_ble_eq_true rfl⟩ ⟨Nat.zero_le _, Nat.zero_le _⟩ hP hK hDT h2 hl.1 (Nat.le_of_ble_eq_true rfl) dX2_doubleBuckets_1 (fun br1 => ?_)
  refine lv_if_ne (tgt := 9) hx hb dX2_doubleBuckets_4 (by decide) (fun hc => ?_) (fun hc => ?_)
  · replace h := oi_f hc h
    refine lv_aload_n hx hb dX2_doubleBuckets_9 rfl (lv_at hl 0 rfl) ?_
    refine F_g0_0 hx hb hA hown aF_RX2_9 hK hP dX2_doubleBuckets_10 ?_
    refine lv_topi (fun x3 ex3 => ?_)
    replace h := olet_s ex3 h
    refine lv_istore_n (lv' := [(1, .int x3), (0, .ref (a 0))]) hx hb dX2_doubleBuckets_13 rfl hl (by decide) rfl (fun ls hl => ?_)
    refine lv_aload_n hx hb dX2_doubleBuckets_14 rfl (lv_at hl 1 rfl) ?_
    refine k_X2_bucketCount S aM_RX2_103 ⟨Nat.le_of_ble_eq_true rfl, Nat.le_of_ble_eq_true rfl⟩ ⟨Nat.zero_le _, Nat.zero_le _⟩ hP hK hDT hl.1 (Nat.le_of_ble_eq_true rfl) dX2_doubleBuckets_15 (fun r4 er4 => ?_)
    replace h := olet_s er4 h
    refine lv_istore_n (lv' := [(2, .int r4), (1, .int x3), (0, .ref (a 0))]) hx hb dX2_doubleBuckets_18 rfl hl (by decide) rfl (fun ls hl => ?_)
    refine lv_aload_n hx hb dX2_doubleBuckets_19 rfl (lv_at hl 2 rfl) ?_
    refine lv_iload_n hx hb dX2_doubleBuckets_20 rfl (lv_at hl 1 rfl) ?_
    refine lv_iconst (v := 1) hx hb dX2_doubleBuckets_21 (by decide) ?_
    refine lv_iadd hx hb dX2_doubleBuckets_22 ?_
    refine F_p0_0 hx hb hA hown aF_RX2_9 hK hP (hDA _) hS dX2_doubleBuckets_23 (fun w5 H locs ew5 hP hS => ?_)
    replace h := olet_s ew5 h
    refine lv_iconst (v := 0) hx hb dX2_doubleBuckets_26 (by decide) ?_
    refine lv_istore_n (lv' := [(3, .int 0), (2, .int r4), (1, .int x3), (0, .ref (a 0))]) hx hb dX2_doubleBuckets_27 rfl hl (by decide) rfl (fun ls hl => ?_)
    obtain ⟨w10, h11, h⟩ := obd_e h
    refine hL28 N _ _ _ _ _ _ _ _ h11 hP hS (lv_sub hl [3, 2, 1, 0] rfl) (fun H locs ls hP hS hl => ?_)
    refine lv_iconst (v := 0) hx hb dX2_doubleBuckets_65 (by decide) ?_
    refine lv_istore_n (lv' := [(3, .int 0), (0, .ref (a 0)), (1, .int x3)]) hx hb dX2_doubleBuckets_66 rfl hl (by decide) rfl (fun ls hl => ?_)
    obtain ⟨w16, h17, h⟩ := obd_e h
    refine hL67 N _ _ _ _ _ _ _ h17 hP hS (lv_sub hl [1, 2, 0] rfl) (fun H locs ls hP hS hl => ?_)
    refine lv_aload_n hx hb dX2_doubleBuckets_106 rfl (lv_at hl 0 rfl) ?_
    obtain ⟨r20, w18, h19, h⟩ := obd2_e h
    refine k_X2_leaveStash S aM_RX2_172 ⟨Nat.le_of_ble_eq_true rfl, Nat.le_of_ble_eq_true rfl⟩ ⟨Nat.zero_le _, Nat.zero_le _⟩ hP hK hDT hS h19 hl.1 (Nat.le_of_ble_eq_true rfl) dX2_doubleBuckets_107 (fun H locs hP hS => ?_)
    refine lv_pop hx hb dX2_doubleBuckets_110 rfl ?_
    refine lv_aload_n hx hb dX2_doubleBuckets_111 rfl (lv_at hl 0 rfl) ?_
    refine k_X2_bucketCount S aM_RX2_103 ⟨Nat.le_of_ble_eq_true rfl, Nat.le_of_ble_eq_true rfl⟩ ⟨Nat.zero_le _, Nat.zero_le _⟩ hP hK hDT hl.1 (Nat.le_of_ble_eq_true rfl) dX2_doubleBuckets_112 (fun r21 er21 => ?_)
    replace h := olet_s er21 h
    obtain ⟨rfl, rfl⟩ := os2 h
    exact W.iret (v := r21) hx hb hr (fun t ht hW => ⟨⟨_, (), rfl, rfl, by show va_P _ _ _ t.heap; rw [ht]; exact hP⟩, hS.F ht⟩) hS.2.2 dX2_doubleBuckets_115
  · replace h := oi_t hc h
    refine lv_iconst (v := (-1)) hx hb dX2_doubleBuckets_7 (by decide) ?_
    obtain ⟨rfl, rfl⟩ := os2 h
    exact W.iret (v := (-1)) hx hb hr (fun t ht hW => ⟨⟨_, (), rfl, rfl, by show va_P _ _ _ t.heap; rw [ht]; exact hP⟩, hS.F ht⟩) hS.2.2 dX2_doubleBuckets_8
theorem k_X2_doubleBuckets {p : Program} {l : Launch} {e : Env} {R : Room} {s : State} {m : MethodId} {args : Array Value} {below : List Frame} {meth : Method} {c : Code} {H : Heap} {locs : List Loc} {cells slots : Nat} {Q : State → Prop} {cc : ByteArray} {pc nL idx : Nat} {ls : Array Slot} {rest : List Value} {own : String} {D : va_G} {cI : ClassId} {a : Nat → Nat} {H0 : Heap} {N : Nat} {φ : M2} {r0 : Int32} {φr : M2} (S : CallFix p m c cc nL s args AW own) (h1 : Cond.methodLink own idx yX2_doubleBuckets ∈ AW) (hR : 4 + 1 ≤ R.frames ∧ 8 + (5 + 11) + 90 ≤ R.locals) (hc : cells ≤ R.cells ∧ slots ≤ R.slots) (hP : va_P D vwCl (fbW cI a φ) H) (hK : va_K D vwCl [(cI, .int)] s) (hDT : ∀ (φ2 : M2), va_D (fun _ => True) (fbW cI a φ2)) (hS : va_S (fbA a) H0 H locs) (hF : G_X2_doubleBuckets N φ = some (r0, φr)) (hsz : ls.size = nL) (hW : (rest.map fun v => v.category).sum ≤ 8) (hdg : decode cc pc = .ok (.invokevirtual idx, 3)) (kk : ∀ (H1 : Heap) (locs1 : List Loc), va_P D vwCl (fbW cI a φr) H1 → va_S (fbA a) H0 H1 locs1 → W p l e R s m args below meth c H1 locs1 cells slots Q (F0 m (pc + 3) ls (.int r0 :: rest))) : W p l e R s m args below meth c H locs cells slots Q (F0 m pc ls (.ref (a 0) :: rest)) :=
  fm_runVi (n := 0) (C := RX2) (As := []) S (c_X2_doubleBuckets l D cI a N φ r0 φr hF) (F_pre (q0 := 0) (ci := 0) hK hP (hDT _) rfl rfl) hS h1 aI_X2_doubleBuckets aV_X2_doubleBuckets aN_RX2 aC_X2_doubleBuckets rfl rfl (by decide +kernel) rfl hR hc hsz hW hdg (fun r H1 locs1 hr hP1 hS1 => by subst hr; exact kk H1 locs1 hP1 hS1)
set_option maxHeartbeats 4000000 in
set_option maxRecDepth 100000 in
theorem c_X2_perform (l : Launch) (D : va_G) (cI : ClassId) (a : Nat → Nat) (N : Nat) (φ : M2) (p1 : Int32) (p2 : Int32) (r0 : Int32) (φr : M2) (hF : G_X2_perform N φ p1 p2 = some (r0, φr)) : Met l yX2_perform (wsA yX2_perform cX2_perform 3 (some .int)) { frames := 5, cells := 0, slots := 0, locals := 120 } (va_Pc [.ref (a 0), .int p1, .int p2] (fbP D cI a φ)) (va_Qi (fun (r : Int32) (_ : Unit) => r = r0) (fun _ t => va_P D vwCl (fbW cI a φr) t.heap) (fbA a)) 0 0 (fbA a) := by
  refine Met.ofW (cc := cX2_perform) (maxL := 3) (ret := (some .int)) (by decide) rfl ?_
  intro p e s m args below meth c s₁ B hml hpre
  obtain ⟨rfl, hP, hK, hD0⟩ := hpre
  have hx := B.exec
  have hb := B.bytes
  have hr := B.returns
  have hA : ∀ w ∈ AW, w.before _ s = true := fun w h => atoms_spec (ws := wsA yX2_perform cX2_perform 3 (some .int)) B.pre w (List.mem_cons_of_mem _ h)
  have hown : s.vm.findClass RX2 = some m.cls := findClass_of_methodNamed B.named
  have hlocks := B.notSynchronized
  have hDT := F_dT hD0
  have hDA := F_dA hD0
  have hS : va_S (fbA a) s.heap s.heap [] := va_S.rf
  have S : CallFix p m c cX2_perform 3 s ([.ref (a 0), .int p1, .int p2] : List Value).toArray AW RX2 := ⟨hx, hb, hml, hown, hA⟩
  have hl := lv_entry ([.ref (a 0), .int p1, .int p2]) (n := 3) (Nat.le_of_ble_eq_true rfl)
  rw [lg_entry_eq]
  generalize (lg_sl ([.ref (a 0), .int p1, .int p2]) ++ List.replicate (3 - (lg_sl ([.ref (a 0), .int p1, .int p2])).length) Slot.unset).toArray = ls at hl ⊢
  have hl : lv_has ls 3 [(0, .ref (a 0)), (1, .int p1), (2, .int p2)] := hl
  have h := hF
  unfold G_X2_perform at h
  refine lv_iload_n hx hb dX2_perform_0 rfl (lv_at hl 1 rfl) ?_
  refine lv_bipush (v := 43) hx hb dX2_perform_1 (by decide) ?_
  refine lv_icmp_ne (tgt := 12) hx hb dX2_perform_3 (by decide) (fun hc => ?_) (fun hc => ?_)
  · replace h := oi_f hc h
    refine lv_iload_n hx hb dX2_perform_12 rfl (lv_at hl 1 rfl) ?_
    refine lv_bipush (v := 45) hx hb dX2_perform_13 (by decide) ?_
    refine lv_icmp_ne (tgt := 26) hx hb dX2_perform_15 (by decide) (fun hc => ?_) (fun hc => ?_)
    · replace h := oi_f hc h
      refine lv_aload_n hx hb dX2_perform_26 rfl (lv_at hl 0 rfl) ?_
      obtain ⟨r3, w1, h2, h⟩ := obd2_e h
      refine k_X2_doubleBuckets S aM_RX2_188 ⟨Nat.le_of_ble_eq_true rfl, Nat.le_of_ble_eq_true rfl⟩ ⟨Nat.zero_le _, Nat.zero_le _⟩ hP hK hDT hS h2 hl.1 (Nat.le_of_ble_eq_true rfl) dX2_perform_27 (fun H locs hP hS => ?_)
      obtain ⟨rfl, rfl⟩ := os2 h
      exact W.iret (v := r3) hx hb hr (fun t ht hW => ⟨⟨_, (), rfl, rfl, by show va_P _ _ _ t.heap; rw [ht]; exact hP⟩, hS.F ht⟩) hS.2.2 dX2_perform_30
    · replace h := oi_t hc h
      refine lv_aload_n hx hb dX2_perform_18 rfl (lv_at hl 0 rfl) ?_
      refine lv_iload_n hx hb dX2_perform_19 rfl (lv_at hl 2 rfl) ?_
      obtain ⟨r6, w4, h5, h⟩ := obd2_e h
      refine k_X2_deleteKey S aM_RX2_185 ⟨Nat.le_of_ble_eq_true rfl, Nat.le_of_ble_eq_true rfl⟩ ⟨Nat.zero_le _, Nat.zero_le _⟩ hP hK hDT hS h5 hl.1 (Nat.le_of_ble_eq_true rfl) dX2_perform_20 (fun H locs hP hS => ?_)
      refine lv_goto (tgt := 30) hx hb dX2_perform_23 (by decide) ?_
      obtain ⟨rfl, rfl⟩ := os2 h
      exact W.iret (v := r6) hx hb hr (fun t ht hW => ⟨⟨_, (), rfl, rfl, by show va_P _ _ _ t.heap; rw [ht]; exact hP⟩, hS.F ht⟩) hS.2.2 dX2_perform_30
  · replace h := oi_t hc h
    refine lv_aload_n hx hb dX2_perform_6 rfl (lv_at hl 0 rfl) ?_
    refine lv_iload_n hx hb dX2_perform_7 rfl (lv_at hl 2 rfl) ?_
    obtain ⟨r9, w7, h8, h⟩ := obd2_e h
    refine k_X2_addKey S aM_RX2_182 ⟨Nat.le_of_ble_eq_true rfl, Nat.le_of_ble_eq_true rfl⟩ ⟨Nat.zero_le _, Nat.zero_le _⟩ hP hK hDT hS h8 hl.1 (Nat.le_of_ble_eq_true rfl) dX2_perform_8 (fun H locs hP hS => ?_)
    obtain ⟨rfl, rfl⟩ := os2 h
    exact W.iret (v := r9) hx hb hr (fun t ht hW => ⟨⟨_, (), rfl, rfl, by show va_P _ _ _ t.heap; rw [ht]; exact hP⟩, hS.F ht⟩) hS.2.2 dX2_perform_11
theorem k_X2_perform {p : Program} {l : Launch} {e : Env} {R : Room} {s : State} {m : MethodId} {args : Array Value} {below : List Frame} {meth : Method} {c : Code} {H : Heap} {locs : List Loc} {cells slots : Nat} {Q : State → Prop} {cc : ByteArray} {pc nL idx : Nat} {ls : Array Slot} {rest : List Value} {own : String} {D : va_G} {cI : ClassId} {a : Nat → Nat} {H0 : Heap} {N : Nat} {φ : M2} {p1 : Int32} {p2 : Int32} {r0 : Int32} {φr : M2} (S : CallFix p m c cc nL s args AW own) (h1 : Cond.methodLink own idx yX2_perform ∈ AW) (hR : 5 + 1 ≤ R.frames ∧ 8 + (3 + 11) + 120 ≤ R.locals) (hc : cells ≤ R.cells ∧ slots ≤ R.slots) (hP : va_P D vwCl (fbW cI a φ) H) (hK : va_K D vwCl [(cI, .int)] s) (hDT : ∀ (φ2 : M2), va_D (fun _ => True) (fbW cI a φ2)) (hS : va_S (fbA a) H0 H locs) (hF : G_X2_perform N φ p1 p2 = some (r0, φr)) (hsz : ls.size = nL) (hW : (rest.map fun v => v.category).sum ≤ 8) (hdg : decode cc pc = .ok (.invokevirtual idx, 3)) (kk : ∀ (H1 : Heap) (locs1 : List Loc), va_P D vwCl (fbW cI a φr) H1 → va_S (fbA a) H0 H1 locs1 → W p l e R s m args below meth c H1 locs1 cells slots Q (F0 m (pc + 3) ls (.int r0 :: rest))) : W p l e R s m args below meth c H locs cells slots Q (F0 m pc ls (.int p2 :: .int p1 :: .ref (a 0) :: rest)) :=
  fm_runVi (n := 2) (C := RX2) (As := [.int p1, .int p2]) S (c_X2_perform l D cI a N φ p1 p2 r0 φr hF) (F_pre (q0 := 0) (ci := 0) hK hP (hDT _) rfl rfl) hS h1 aI_X2_perform aV_X2_perform aN_RX2 aC_X2_perform rfl rfl (by decide +kernel) rfl hR hc hsz hW hdg (fun r H1 locs1 hr hP1 hS1 => by subst hr; exact kk H1 locs1 hP1 hS1)
set_option maxHeartbeats 4000000 in
set_option maxRecDepth 100000 in
theorem c_X2_refill (l : Launch) (D : va_G) (cI : ClassId) (a : Nat → Nat) (N : Nat) (φ : M2) (p1 : Int32) (p2 : Int32) (p3 : Int32) (p4 : Int32) (r0 : Int32) (φr : M2) (hF : G_X2_refill N φ p1 p2 p3 p4 = some (r0, φr)) : Met l yX2_refill (wsA yX2_refill cX2_refill 6 (some .boolean)) { frames := 4, cells := 0, slots := 0, locals := 98 } (va_Pc [.ref (a 0), .int p1, .int p2, .int p3, .int p4] (fbP D cI a φ)) (va_Qi (fun (r : Int32) (_ : Unit) => r = r0 ∧ (r = 0 ∨ r = 1)) (fun _ t => va_P D vwCl (fbW cI a φr) t.heap) (fbA a)) 0 0 (fbA a) := by
  refine Met.ofW (cc := cX2_refill) (maxL := 6) (ret := (some .boolean)) (by decide) rfl ?_
  intro p e s m args below meth c s₁ B hml hpre
  obtain ⟨rfl, hP, hK, hD0⟩ := hpre
  have hx := B.exec
  have hb := B.bytes
  have hr := B.returns
  have hA : ∀ w ∈ AW, w.before _ s = true := fun w h => atoms_spec (ws := wsA yX2_refill cX2_refill 6 (some .boolean)) B.pre w (List.mem_cons_of_mem _ h)
  have hown : s.vm.findClass RX2 = some m.cls := findClass_of_methodNamed B.named
  have hlocks := B.notSynchronized
  have hDT := F_dT hD0
  have hDA := F_dA hD0
  have hS : va_S (fbA a) s.heap s.heap [] := va_S.rf
  have S : CallFix p m c cX2_refill 6 s ([.ref (a 0), .int p1, .int p2, .int p3, .int p4] : List Value).toArray AW RX2 := ⟨hx, hb, hml, hown, hA⟩
  have hl := lv_entry ([.ref (a 0), .int p1, .int p2, .int p3, .int p4]) (n := 6) (Nat.le_of_ble_eq_true rfl)
  rw [lg_entry_eq]
  generalize (lg_sl ([.ref (a 0), .int p1, .int p2, .int p3, .int p4]) ++ List.replicate (6 - (lg_sl ([.ref (a 0), .int p1, .int p2, .int p3, .int p4])).length) Slot.unset).toArray = ls at hl ⊢
  have hl : lv_has ls 6 [(0, .ref (a 0)), (1, .int p1), (2, .int p2), (3, .int p3), (4, .int p4)] := hl
  have hL28 : ∀ (k : Nat) (v5 : Int32) (φ : M2) (H : Heap) (locs : List Loc) (ls : Array Slot) , L_X2_refill_28 N k v5 φ = some (r0, φr) → va_P D vwCl (fbW cI a φ) H → va_S (fbA a) s.heap H locs → lv_has ls 6 [(0, .ref (a 0)), (5, .int v5)] → W p l e (headSpec (wsA yX2_refill cX2_refill 6 (some .boolean)) { frames := 4, cells := 0, slots := 0, locals := 98 }).room s m ([.ref (a 0), .int p1, .int p2, .int p3, .int p4] : List Value).toArray below meth c H locs 0 0 (MQ below (va_Qi (fun (r : Int32) (_ : Unit) => r = r0 ∧ (r = 0 ∨ r = 1)) (fun _ t => va_P D vwCl (fbW cI a φr) t.heap) (fbA a)) ([.ref (a 0), .int p1, .int p2, .int p3, .int p4] : List Value).toArray s 0 0 (fbA a)) (F0 m 28 ls []) := by
    intro k
    induction k with
    | zero =>
      intro v5 φ H locs ls h hP hS hl
      exact no_s h
    | succ k ih =>
      intro v5 φ H locs ls h hP hS hl
      replace h : B_X2_refill_28 N (L_X2_refill_28 N k) v5 φ = some (r0, φr) := h
      unfold B_X2_refill_28 at h
      refine lv_iload hx hb dX2_refill_28 (lv_at hl 1 rfl) ?_
      refine lv_aload_n hx hb dX2_refill_30 rfl (lv_at hl 0 rfl) ?_
      refine F_g0_8 hx hb hA hown aF_RX2_37 hK hP dX2_refill_31 ?_
      refine k_X4_size S aM_RX2_62 ⟨Nat.le_of_ble_eq_true rfl, Nat.le_of_ble_eq_true rfl⟩ ⟨Nat.zero_le _, Nat.zero_le _⟩ hP hK hDT hl.1 (Nat.le_of_ble_eq_true rfl) dX2_refill_34 (fun r7 er7 => ?_)
      replace h := olet_s er7 h
      refine lv_icmp_ge (tgt := 65) hx hb dX2_refill_37 (by decide) (fun hc => ?_) (fun hc => ?_)
      · replace h := oi_t hc h
        refine lv_iconst (v := 1) hx hb dX2_refill_65 (by decide) ?_
        obtain ⟨rfl, rfl⟩ := os2 h
        exact W.zret (v := 1) (ty := .boolean) hx hb hr rfl (fun t ht hW => ⟨⟨_, (), rfl, ⟨rfl, (Or.inr rfl)⟩, by show va_P _ _ _ t.heap; rw [ht]; exact hP⟩, hS.F ht⟩) hS.2.2 dX2_refill_66
      · replace h := oi_f hc h
        refine lv_aload_n hx hb dX2_refill_40 rfl (lv_at hl 0 rfl) ?_
        refine lv_aload_n hx hb dX2_refill_41 rfl (lv_at hl 0 rfl) ?_
        refine F_g0_8 hx hb hA hown aF_RX2_37 hK hP dX2_refill_42 ?_
        refine lv_iload hx hb dX2_refill_45 (lv_at hl 1 rfl) ?_
        obtain ⟨r8, h9, h⟩ := obd_e h
        refine k_X4_keyAt S aM_RX2_66 ⟨Nat.le_of_ble_eq_true rfl, Nat.le_of_ble_eq_true rfl⟩ ⟨Nat.zero_le _, Nat.zero_le _⟩ hP hK hDT h9 hl.1 (Nat.le_of_ble_eq_true rfl) dX2_refill_47 ?_
        obtain ⟨r12, w10, h11, h⟩ := obd2_e h
        refine k_X2_insert S aM_RX2_156 ⟨Nat.le_of_ble_eq_true rfl, Nat.le_of_ble_eq_true rfl⟩ ⟨Nat.zero_le _, Nat.zero_le _⟩ hP hK hDT hS h11 hl.1 (Nat.le_of_ble_eq_true rfl) dX2_refill_50 (fun H locs hP hS => ?_)
        refine lv_iconst (v := (-1)) hx hb dX2_refill_53 (by decide) ?_
        refine lv_icmp_ne (tgt := 59) hx hb dX2_refill_54 (by decide) (fun hc => ?_) (fun hc => ?_)
        · replace h := oi_f hc h
          refine lv_iinc (v := v5 + 1) (lv' := [(5, .int (v5 + 1)), (0, .ref (a 0))]) hx hb dX2_refill_59 hl (k := 1) rfl (fm_inc _ _ _ (by decide)) (by decide) rfl (fun ls hl => ?_)
          refine lv_goto (tgt := 28) hx hb dX2_refill_62 (by decide) ?_
          exact ih _ _ _ _ _  h hP hS (lv_sub hl [1, 0] rfl)
        · replace h := oi_t hc h
          refine lv_iconst (v := 0) hx hb dX2_refill_57 (by decide) ?_
          obtain ⟨rfl, rfl⟩ := os2 h
          exact W.zret (v := 0) (ty := .boolean) hx hb hr rfl (fun t ht hW => ⟨⟨_, (), rfl, ⟨rfl, (Or.inl rfl)⟩, by show va_P _ _ _ t.heap; rw [ht]; exact hP⟩, hS.F ht⟩) hS.2.2 dX2_refill_58
  have h := hF
  unfold G_X2_refill at h
  refine lv_aload_n hx hb dX2_refill_0 rfl (lv_at hl 0 rfl) ?_
  refine lv_iload_n hx hb dX2_refill_1 rfl (lv_at hl 1 rfl) ?_
  refine F_p0_0 hx hb hA hown aF_RX2_9 hK hP (hDA _) hS dX2_refill_2 (fun w1 H locs ew1 hP hS => ?_)
  replace h := olet_s ew1 h
  refine lv_aload_n hx hb dX2_refill_5 rfl (lv_at hl 0 rfl) ?_
  refine lv_iload_n hx hb dX2_refill_6 rfl (lv_at hl 2 rfl) ?_
  refine F_p0_1 hx hb hA hown aF_RX2_15 hK hP (hDA _) hS dX2_refill_7 (fun w2 H locs ew2 hP hS => ?_)
  replace h := olet_s ew2 h
  refine lv_aload_n hx hb dX2_refill_10 rfl (lv_at hl 0 rfl) ?_
  refine lv_iload_n hx hb dX2_refill_11 rfl (lv_at hl 3 rfl) ?_
  refine F_p0_2 hx hb hA hown aF_RX2_18 hK hP (hDA _) hS dX2_refill_12 (fun w3 H locs ew3 hP hS => ?_)
  replace h := olet_s ew3 h
  refine lv_aload_n hx hb dX2_refill_15 rfl (lv_at hl 0 rfl) ?_
  refine lv_iload hx hb dX2_refill_16 (lv_at hl 4 rfl) ?_
  refine F_p0_3 hx hb hA hown aF_RX2_21 hK hP (hDA _) hS dX2_refill_18 (fun w4 H locs ew4 hP hS => ?_)
  replace h := olet_s ew4 h
  refine lv_aload_n hx hb dX2_refill_21 rfl (lv_at hl 0 rfl) ?_
  obtain ⟨w5, h6, h⟩ := obd_e h
  refine k_X2_emptyAll S aM_RX2_97 ⟨Nat.le_of_ble_eq_true rfl, Nat.le_of_ble_eq_true rfl⟩ ⟨Nat.zero_le _, Nat.zero_le _⟩ hP hK hDT hS h6 hl.1 (Nat.le_of_ble_eq_true rfl) dX2_refill_22 (fun H locs hP hS => ?_)
  refine lv_iconst (v := 0) hx hb dX2_refill_25 (by decide) ?_
  refine lv_istore (lv' := [(5, .int 0), (0, .ref (a 0)), (1, .int p1), (2, .int p2), (3, .int p3), (4, .int p4)]) hx hb dX2_refill_26 hl (by decide) rfl (fun ls hl => ?_)
  exact hL28 N _ _ _ _ _ h hP hS (lv_sub hl [1, 0] rfl)
theorem k_X2_refill {p : Program} {l : Launch} {e : Env} {R : Room} {s : State} {m : MethodId} {args : Array Value} {below : List Frame} {meth : Method} {c : Code} {H : Heap} {locs : List Loc} {cells slots : Nat} {Q : State → Prop} {cc : ByteArray} {pc nL idx : Nat} {ls : Array Slot} {rest : List Value} {own : String} {D : va_G} {cI : ClassId} {a : Nat → Nat} {H0 : Heap} {N : Nat} {φ : M2} {p1 : Int32} {p2 : Int32} {p3 : Int32} {p4 : Int32} {r0 : Int32} {φr : M2} (S : CallFix p m c cc nL s args AW own) (h1 : Cond.methodLink own idx yX2_refill ∈ AW) (hR : 4 + 1 ≤ R.frames ∧ 8 + (6 + 11) + 98 ≤ R.locals) (hc : cells ≤ R.cells ∧ slots ≤ R.slots) (hP : va_P D vwCl (fbW cI a φ) H) (hK : va_K D vwCl [(cI, .int)] s) (hDT : ∀ (φ2 : M2), va_D (fun _ => True) (fbW cI a φ2)) (hS : va_S (fbA a) H0 H locs) (hF : G_X2_refill N φ p1 p2 p3 p4 = some (r0, φr)) (hsz : ls.size = nL) (hW : (rest.map fun v => v.category).sum ≤ 8) (hdg : decode cc pc = .ok (.invokevirtual idx, 3)) (kk : (r0 = 0 ∨ r0 = 1) → ∀ (H1 : Heap) (locs1 : List Loc), va_P D vwCl (fbW cI a φr) H1 → va_S (fbA a) H0 H1 locs1 → W p l e R s m args below meth c H1 locs1 cells slots Q (F0 m (pc + 3) ls (.int r0 :: rest))) : W p l e R s m args below meth c H locs cells slots Q (F0 m pc ls (.int p4 :: .int p3 :: .int p2 :: .int p1 :: .ref (a 0) :: rest)) :=
  fm_runVi (n := 4) (C := RX2) (As := [.int p1, .int p2, .int p3, .int p4]) S (c_X2_refill l D cI a N φ p1 p2 p3 p4 r0 φr hF) (F_pre (q0 := 0) (ci := 0) hK hP (hDT _) rfl rfl) hS h1 aI_X2_refill aV_X2_refill aN_RX2 aC_X2_refill rfl rfl (by decide +kernel) rfl hR hc hsz hW hdg (fun r H1 locs1 hr hP1 hS1 => by obtain ⟨rfl, hz⟩ := hr; exact kk hz H1 locs1 hP1 hS1)
set_option maxHeartbeats 4000000 in
set_option maxRecDepth 100000 in
theorem c_X2_refillWithSeed (l : Launch) (D : va_G) (cI : ClassId) (a : Nat → Nat) (N : Nat) (φ : M2) (p1 : Int32) (r0 : Int32) (φr : M2) (hF : G_X2_refillWithSeed N φ p1 = some (r0, φr)) : Met l yX2_refillWithSeed (wsA yX2_refillWithSeed cX2_refillWithSeed 2 (some .boolean)) { frames := 5, cells := 0, slots := 0, locals := 123 } (va_Pc [.ref (a 0), .int p1] (fbP D cI a φ)) (va_Qi (fun (r : Int32) (_ : Unit) => r = r0 ∧ (r = 0 ∨ r = 1)) (fun _ t => va_P D vwCl (fbW cI a φr) t.heap) (fbA a)) 0 0 (fbA a) := by
  refine Met.ofW (cc := cX2_refillWithSeed) (maxL := 2) (ret := (some .boolean)) (by decide) rfl ?_
  intro p e s m args below meth c s₁ B hml hpre
  obtain ⟨rfl, hP, hK, hD0⟩ := hpre
  have hx := B.exec
  have hb := B.bytes
  have hr := B.returns
  have hA : ∀ w ∈ AW, w.before _ s = true := fun w h => atoms_spec (ws := wsA yX2_refillWithSeed cX2_refillWithSeed 2 (some .boolean)) B.pre w (List.mem_cons_of_mem _ h)
  have hown : s.vm.findClass RX2 = some m.cls := findClass_of_methodNamed B.named
  have hlocks := B.notSynchronized
  have hDT := F_dT hD0
  have hDA := F_dA hD0
  have hS : va_S (fbA a) s.heap s.heap [] := va_S.rf
  have S : CallFix p m c cX2_refillWithSeed 2 s ([.ref (a 0), .int p1] : List Value).toArray AW RX2 := ⟨hx, hb, hml, hown, hA⟩
  have hl := lv_entry ([.ref (a 0), .int p1]) (n := 2) (Nat.le_of_ble_eq_true rfl)
  rw [lg_entry_eq]
  generalize (lg_sl ([.ref (a 0), .int p1]) ++ List.replicate (2 - (lg_sl ([.ref (a 0), .int p1])).length) Slot.unset).toArray = ls at hl ⊢
  have hl : lv_has ls 2 [(0, .ref (a 0)), (1, .int p1)] := hl
  have h := hF
  unfold G_X2_refillWithSeed at h
  refine lv_aload_n hx hb dX2_refillWithSeed_0 rfl (lv_at hl 0 rfl) ?_
  refine lv_aload_n hx hb dX2_refillWithSeed_1 rfl (lv_at hl 0 rfl) ?_
  refine F_g0_0 hx hb hA hown aF_RX2_9 hK hP dX2_refillWithSeed_2 ?_
  refine lv_aload_n hx hb dX2_refillWithSeed_5 rfl (lv_at hl 0 rfl) ?_
  refine F_g0_1 hx hb hA hown aF_RX2_15 hK hP dX2_refillWithSeed_6 ?_
  refine lv_aload_n hx hb dX2_refillWithSeed_9 rfl (lv_at hl 0 rfl) ?_
  refine F_g0_2 hx hb hA hown aF_RX2_18 hK hP dX2_refillWithSeed_10 ?_
  refine lv_iload_n hx hb dX2_refillWithSeed_13 rfl (lv_at hl 1 rfl) ?_
  obtain ⟨r3, w1, h2, h⟩ := obd2_e h
  refine k_X2_refill S aM_RX2_191 ⟨Nat.le_of_ble_eq_true rfl, Nat.le_of_ble_eq_true rfl⟩ ⟨Nat.zero_le _, Nat.zero_le _⟩ hP hK hDT hS h2 hl.1 (Nat.le_of_ble_eq_true rfl) dX2_refillWithSeed_14 (fun br3 H locs hP hS => ?_)
  obtain ⟨rfl, rfl⟩ := os2 h
  exact W.zret (v := r3) (ty := .boolean) hx hb hr (fm_nz br3) (fun t ht hW => ⟨⟨_, (), rfl, ⟨rfl, br3⟩, by show va_P _ _ _ t.heap; rw [ht]; exact hP⟩, hS.F ht⟩) hS.2.2 dX2_refillWithSeed_17
theorem k_X2_refillWithSeed {p : Program} {l : Launch} {e : Env} {R : Room} {s : State} {m : MethodId} {args : Array Value} {below : List Frame} {meth : Method} {c : Code} {H : Heap} {locs : List Loc} {cells slots : Nat} {Q : State → Prop} {cc : ByteArray} {pc nL idx : Nat} {ls : Array Slot} {rest : List Value} {own : String} {D : va_G} {cI : ClassId} {a : Nat → Nat} {H0 : Heap} {N : Nat} {φ : M2} {p1 : Int32} {r0 : Int32} {φr : M2} (S : CallFix p m c cc nL s args AW own) (h1 : Cond.methodLink own idx yX2_refillWithSeed ∈ AW) (hR : 5 + 1 ≤ R.frames ∧ 8 + (2 + 11) + 123 ≤ R.locals) (hc : cells ≤ R.cells ∧ slots ≤ R.slots) (hP : va_P D vwCl (fbW cI a φ) H) (hK : va_K D vwCl [(cI, .int)] s) (hDT : ∀ (φ2 : M2), va_D (fun _ => True) (fbW cI a φ2)) (hS : va_S (fbA a) H0 H locs) (hF : G_X2_refillWithSeed N φ p1 = some (r0, φr)) (hsz : ls.size = nL) (hW : (rest.map fun v => v.category).sum ≤ 8) (hdg : decode cc pc = .ok (.invokevirtual idx, 3)) (kk : (r0 = 0 ∨ r0 = 1) → ∀ (H1 : Heap) (locs1 : List Loc), va_P D vwCl (fbW cI a φr) H1 → va_S (fbA a) H0 H1 locs1 → W p l e R s m args below meth c H1 locs1 cells slots Q (F0 m (pc + 3) ls (.int r0 :: rest))) : W p l e R s m args below meth c H locs cells slots Q (F0 m pc ls (.int p1 :: .ref (a 0) :: rest)) :=
  fm_runVi (n := 1) (C := RX2) (As := [.int p1]) S (c_X2_refillWithSeed l D cI a N φ p1 r0 φr hF) (F_pre (q0 := 0) (ci := 0) hK hP (hDT _) rfl rfl) hS h1 aI_X2_refillWithSeed aV_X2_refillWithSeed aN_RX2 aC_X2_refillWithSeed rfl rfl (by decide +kernel) rfl hR hc hsz hW hdg (fun r H1 locs1 hr hP1 hS1 => by obtain ⟨rfl, hz⟩ := hr; exact kk hz H1 locs1 hP1 hS1)
set_option maxHeartbeats 4000000 in
set_option maxRecDepth 100000 in
theorem c_X2_refillWithBits (l : Launch) (D : va_G) (cI : ClassId) (a : Nat → Nat) (N : Nat) (φ : M2) (p1 : Int32) (p2 : Int32) (p3 : Int32) (r0 : Int32) (φr : M2) (hF : G_X2_refillWithBits N φ p1 p2 p3 = some (r0, φr)) : Met l yX2_refillWithBits (wsA yX2_refillWithBits cX2_refillWithBits 4 (some .boolean)) { frames := 5, cells := 0, slots := 0, locals := 123 } (va_Pc [.ref (a 0), .int p1, .int p2, .int p3] (fbP D cI a φ)) (va_Qi (fun (r : Int32) (_ : Unit) => r = r0 ∧ (r = 0 ∨ r = 1)) (fun _ t => va_P D vwCl (fbW cI a φr) t.heap) (fbA a)) 0 0 (fbA a) := by
  refine Met.ofW (cc := cX2_refillWithBits) (maxL := 4) (ret := (some .boolean)) (by decide) rfl ?_
  intro p e s m args below meth c s₁ B hml hpre
  obtain ⟨rfl, hP, hK, hD0⟩ := hpre
  have hx := B.exec
  have hb := B.bytes
  have hr := B.returns
  have hA : ∀ w ∈ AW, w.before _ s = true := fun w h => atoms_spec (ws := wsA yX2_refillWithBits cX2_refillWithBits 4 (some .boolean)) B.pre w (List.mem_cons_of_mem _ h)
  have hown : s.vm.findClass RX2 = some m.cls := findClass_of_methodNamed B.named
  have hlocks := B.notSynchronized
  have hDT := F_dT hD0
  have hDA := F_dA hD0
  have hS : va_S (fbA a) s.heap s.heap [] := va_S.rf
  have S : CallFix p m c cX2_refillWithBits 4 s ([.ref (a 0), .int p1, .int p2, .int p3] : List Value).toArray AW RX2 := ⟨hx, hb, hml, hown, hA⟩
  have hl := lv_entry ([.ref (a 0), .int p1, .int p2, .int p3]) (n := 4) (Nat.le_of_ble_eq_true rfl)
  rw [lg_entry_eq]
  generalize (lg_sl ([.ref (a 0), .int p1, .int p2, .int p3]) ++ List.replicate (4 - (lg_sl ([.ref (a 0), .int p1, .int p2, .int p3])).length) Slot.unset).toArray = ls at hl ⊢
  have hl : lv_has ls 4 [(0, .ref (a 0)), (1, .int p1), (2, .int p2), (3, .int p3)] := hl
  have h := hF
  unfold G_X2_refillWithBits at h
  refine lv_aload_n hx hb dX2_refillWithBits_0 rfl (lv_at hl 0 rfl) ?_
  refine lv_iload_n hx hb dX2_refillWithBits_1 rfl (lv_at hl 1 rfl) ?_
  refine lv_iload_n hx hb dX2_refillWithBits_2 rfl (lv_at hl 2 rfl) ?_
  refine lv_iload_n hx hb dX2_refillWithBits_3 rfl (lv_at hl 3 rfl) ?_
  refine lv_aload_n hx hb dX2_refillWithBits_4 rfl (lv_at hl 0 rfl) ?_
  refine F_g0_3 hx hb hA hown aF_RX2_21 hK hP dX2_refillWithBits_5 ?_
  obtain ⟨r3, w1, h2, h⟩ := obd2_e h
  refine k_X2_refill S aM_RX2_191 ⟨Nat.le_of_ble_eq_true rfl, Nat.le_of_ble_eq_true rfl⟩ ⟨Nat.zero_le _, Nat.zero_le _⟩ hP hK hDT hS h2 hl.1 (Nat.le_of_ble_eq_true rfl) dX2_refillWithBits_8 (fun br3 H locs hP hS => ?_)
  obtain ⟨rfl, rfl⟩ := os2 h
  exact W.zret (v := r3) (ty := .boolean) hx hb hr (fm_nz br3) (fun t ht hW => ⟨⟨_, (), rfl, ⟨rfl, br3⟩, by show va_P _ _ _ t.heap; rw [ht]; exact hP⟩, hS.F ht⟩) hS.2.2 dX2_refillWithBits_11
theorem k_X2_refillWithBits {p : Program} {l : Launch} {e : Env} {R : Room} {s : State} {m : MethodId} {args : Array Value} {below : List Frame} {meth : Method} {c : Code} {H : Heap} {locs : List Loc} {cells slots : Nat} {Q : State → Prop} {cc : ByteArray} {pc nL idx : Nat} {ls : Array Slot} {rest : List Value} {own : String} {D : va_G} {cI : ClassId} {a : Nat → Nat} {H0 : Heap} {N : Nat} {φ : M2} {p1 : Int32} {p2 : Int32} {p3 : Int32} {r0 : Int32} {φr : M2} (S : CallFix p m c cc nL s args AW own) (h1 : Cond.methodLink own idx yX2_refillWithBits ∈ AW) (hR : 5 + 1 ≤ R.frames ∧ 8 + (4 + 11) + 123 ≤ R.locals) (hc : cells ≤ R.cells ∧ slots ≤ R.slots) (hP : va_P D vwCl (fbW cI a φ) H) (hK : va_K D vwCl [(cI, .int)] s) (hDT : ∀ (φ2 : M2), va_D (fun _ => True) (fbW cI a φ2)) (hS : va_S (fbA a) H0 H locs) (hF : G_X2_refillWithBits N φ p1 p2 p3 = some (r0, φr)) (hsz : ls.size = nL) (hW : (rest.map fun v => v.category).sum ≤ 8) (hdg : decode cc pc = .ok (.invokevirtual idx, 3)) (kk : (r0 = 0 ∨ r0 = 1) → ∀ (H1 : Heap) (locs1 : List Loc), va_P D vwCl (fbW cI a φr) H1 → va_S (fbA a) H0 H1 locs1 → W p l e R s m args below meth c H1 locs1 cells slots Q (F0 m (pc + 3) ls (.int r0 :: rest))) : W p l e R s m args below meth c H locs cells slots Q (F0 m pc ls (.int p3 :: .int p2 :: .int p1 :: .ref (a 0) :: rest)) :=
  fm_runVi (n := 3) (C := RX2) (As := [.int p1, .int p2, .int p3]) S (c_X2_refillWithBits l D cI a N φ p1 p2 p3 r0 φr hF) (F_pre (q0 := 0) (ci := 0) hK hP (hDT _) rfl rfl) hS h1 aI_X2_refillWithBits aV_X2_refillWithBits aN_RX2 aC_X2_refillWithBits rfl rfl (by decide +kernel) rfl hR hc hsz hW hdg (fun r H1 locs1 hr hP1 hS1 => by obtain ⟨rfl, hz⟩ := hr; exact kk hz H1 locs1 hP1 hS1)
set_option maxHeartbeats 4000000 in
set_option maxRecDepth 100000 in
theorem c_X2_distribute (l : Launch) (D : va_G) (cI : ClassId) (a : Nat → Nat) (N : Nat) (φ : M2) (p1 : Int32) (p2 : Int32) (p3 : Int32) (r0 : Int32) (φr : M2) (hF : G_X2_distribute N φ p1 p2 p3 = some (r0, φr)) : Met l yX2_distribute (wsA yX2_distribute cX2_distribute 5 (some .boolean)) { frames := 4, cells := 0, slots := 0, locals := 93 } (va_Pc [.ref (a 0), .int p1, .int p2, .int p3] (fbP D cI a φ)) (va_Qi (fun (r : Int32) (_ : Unit) => r = r0 ∧ (r = 0 ∨ r = 1)) (fun _ t => va_P D vwCl (fbW cI a φr) t.heap) (fbA a)) 0 0 (fbA a) := by
  refine Met.ofW (cc := cX2_distribute) (maxL := 5) (ret := (some .boolean)) (by decide) rfl ?_
  intro p e s m args below meth c s₁ B hml hpre
  obtain ⟨rfl, hP, hK, hD0⟩ := hpre
  have hx := B.exec
  have hb := B.bytes
  have hr := B.returns
  have hA : ∀ w ∈ AW, w.before _ s = true := fun w h => atoms_spec (ws := wsA yX2_distribute cX2_distribute 5 (some .boolean)) B.pre w (List.mem_cons_of_mem _ h)
  have hown : s.vm.findClass RX2 = some m.cls := findClass_of_methodNamed B.named
  have hlocks := B.notSynchronized
  have hDT := F_dT hD0
  have hDA := F_dA hD0
  have hS : va_S (fbA a) s.heap s.heap [] := va_S.rf
  have S : CallFix p m c cX2_distribute 5 s ([.ref (a 0), .int p1, .int p2, .int p3] : List Value).toArray AW RX2 := ⟨hx, hb, hml, hown, hA⟩
  have hl := lv_entry ([.ref (a 0), .int p1, .int p2, .int p3]) (n := 5) (Nat.le_of_ble_eq_true rfl)
  rw [lg_entry_eq]
  generalize (lg_sl ([.ref (a 0), .int p1, .int p2, .int p3]) ++ List.replicate (5 - (lg_sl ([.ref (a 0), .int p1, .int p2, .int p3])).length) Slot.unset).toArray = ls at hl ⊢
  have hl : lv_has ls 5 [(0, .ref (a 0)), (1, .int p1), (2, .int p2), (3, .int p3)] := hl
  have hL22 : ∀ (k : Nat) (v4 : Int32) (φ : M2) (H : Heap) (locs : List Loc) (ls : Array Slot) , L_X2_distribute_22 N k v4 φ = some (r0, φr) → va_P D vwCl (fbW cI a φ) H → va_S (fbA a) s.heap H locs → lv_has ls 5 [(0, .ref (a 0)), (4, .int v4)] → W p l e (headSpec (wsA yX2_distribute cX2_distribute 5 (some .boolean)) { frames := 4, cells := 0, slots := 0, locals := 93 }).room s m ([.ref (a 0), .int p1, .int p2, .int p3] : List Value).toArray below meth c H locs 0 0 (MQ below (va_Qi (fun (r : Int32) (_ : Unit) => r = r0 ∧ (r = 0 ∨ r = 1)) (fun _ t => va_P D vwCl (fbW cI a φr) t.heap) (fbA a)) ([.ref (a 0), .int p1, .int p2, .int p3] : List Value).toArray s 0 0 (fbA a)) (F0 m 22 ls []) := by
    intro k
    induction k with
    | zero =>
      intro v4 φ H locs ls h hP hS hl
      exact no_s h
    | succ k ih =>
      intro v4 φ H locs ls h hP hS hl
      replace h : B_X2_distribute_22 N (L_X2_distribute_22 N k) v4 φ = some (r0, φr) := h
      unfold B_X2_distribute_22 at h
      refine lv_iload hx hb dX2_distribute_22 (lv_at hl 1 rfl) ?_
      refine lv_aload_n hx hb dX2_distribute_24 rfl (lv_at hl 0 rfl) ?_
      refine F_g0_8 hx hb hA hown aF_RX2_37 hK hP dX2_distribute_25 ?_
      refine k_X4_size S aM_RX2_62 ⟨Nat.le_of_ble_eq_true rfl, Nat.le_of_ble_eq_true rfl⟩ ⟨Nat.zero_le _, Nat.zero_le _⟩ hP hK hDT hl.1 (Nat.le_of_ble_eq_true rfl) dX2_distribute_28 (fun r6 er6 => ?_)
      replace h := olet_s er6 h
      refine lv_icmp_ge (tgt := 59) hx hb dX2_distribute_31 (by decide) (fun hc => ?_) (fun hc => ?_)
      · replace h := oi_t hc h
        refine lv_iconst (v := 1) hx hb dX2_distribute_59 (by decide) ?_
        obtain ⟨rfl, rfl⟩ := os2 h
        exact W.zret (v := 1) (ty := .boolean) hx hb hr rfl (fun t ht hW => ⟨⟨_, (), rfl, ⟨rfl, (Or.inr rfl)⟩, by show va_P _ _ _ t.heap; rw [ht]; exact hP⟩, hS.F ht⟩) hS.2.2 dX2_distribute_60
      · replace h := oi_f hc h
        refine lv_aload_n hx hb dX2_distribute_34 rfl (lv_at hl 0 rfl) ?_
        refine lv_aload_n hx hb dX2_distribute_35 rfl (lv_at hl 0 rfl) ?_
        refine F_g0_8 hx hb hA hown aF_RX2_37 hK hP dX2_distribute_36 ?_
        refine lv_iload hx hb dX2_distribute_39 (lv_at hl 1 rfl) ?_
        obtain ⟨r7, h8, h⟩ := obd_e h
        refine k_X4_keyAt S aM_RX2_66 ⟨Nat.le_of_ble_eq_true rfl, Nat.le_of_ble_eq_true rfl⟩ ⟨Nat.zero_le _, Nat.zero_le _⟩ hP hK hDT h8 hl.1 (Nat.le_of_ble_eq_true rfl) dX2_distribute_41 ?_
        obtain ⟨r11, w9, h10, h⟩ := obd2_e h
        refine k_X2_insertShortest S aM_RX2_163 ⟨Nat.le_of_ble_eq_true rfl, Nat.le_of_ble_eq_true rfl⟩ ⟨Nat.zero_le _, Nat.zero_le _⟩ hP hK hDT hS h10 hl.1 (Nat.le_of_ble_eq_true rfl) dX2_distribute_44 (fun H locs hP hS => ?_)
        refine lv_iconst (v := (-1)) hx hb dX2_distribute_47 (by decide) ?_
        refine lv_icmp_ne (tgt := 53) hx hb dX2_distribute_48 (by decide) (fun hc => ?_) (fun hc => ?_)
        · replace h := oi_f hc h
          refine lv_iinc (v := v4 + 1) (lv' := [(4, .int (v4 + 1)), (0, .ref (a 0))]) hx hb dX2_distribute_53 hl (k := 1) rfl (fm_inc _ _ _ (by decide)) (by decide) rfl (fun ls hl => ?_)
          refine lv_goto (tgt := 22) hx hb dX2_distribute_56 (by decide) ?_
          exact ih _ _ _ _ _  h hP hS (lv_sub hl [1, 0] rfl)
        · replace h := oi_t hc h
          refine lv_iconst (v := 0) hx hb dX2_distribute_51 (by decide) ?_
          obtain ⟨rfl, rfl⟩ := os2 h
          exact W.zret (v := 0) (ty := .boolean) hx hb hr rfl (fun t ht hW => ⟨⟨_, (), rfl, ⟨rfl, (Or.inl rfl)⟩, by show va_P _ _ _ t.heap; rw [ht]; exact hP⟩, hS.F ht⟩) hS.2.2 dX2_distribute_52
  have h := hF
  unfold G_X2_distribute at h
  refine lv_aload_n hx hb dX2_distribute_0 rfl (lv_at hl 0 rfl) ?_
  refine lv_iload_n hx hb dX2_distribute_1 rfl (lv_at hl 1 rfl) ?_
  refine F_p0_0 hx hb hA hown aF_RX2_9 hK hP (hDA _) hS dX2_distribute_2 (fun w1 H locs ew1 hP hS => ?_)
  replace h := olet_s ew1 h
  refine lv_aload_n hx hb dX2_distribute_5 rfl (lv_at hl 0 rfl) ?_
  refine lv_iload_n hx hb dX2_distribute_6 rfl (lv_at hl 2 rfl) ?_
  refine F_p0_1 hx hb hA hown aF_RX2_15 hK hP (hDA _) hS dX2_distribute_7 (fun w2 H locs ew2 hP hS => ?_)
  replace h := olet_s ew2 h
  refine lv_aload_n hx hb dX2_distribute_10 rfl (lv_at hl 0 rfl) ?_
  refine lv_iload_n hx hb dX2_distribute_11 rfl (lv_at hl 3 rfl) ?_
  refine F_p0_3 hx hb hA hown aF_RX2_21 hK hP (hDA _) hS dX2_distribute_12 (fun w3 H locs ew3 hP hS => ?_)
  replace h := olet_s ew3 h
  refine lv_aload_n hx hb dX2_distribute_15 rfl (lv_at hl 0 rfl) ?_
  obtain ⟨w4, h5, h⟩ := obd_e h
  refine k_X2_emptyAll S aM_RX2_97 ⟨Nat.le_of_ble_eq_true rfl, Nat.le_of_ble_eq_true rfl⟩ ⟨Nat.zero_le _, Nat.zero_le _⟩ hP hK hDT hS h5 hl.1 (Nat.le_of_ble_eq_true rfl) dX2_distribute_16 (fun H locs hP hS => ?_)
  refine lv_iconst (v := 0) hx hb dX2_distribute_19 (by decide) ?_
  refine lv_istore (lv' := [(4, .int 0), (0, .ref (a 0)), (1, .int p1), (2, .int p2), (3, .int p3)]) hx hb dX2_distribute_20 hl (by decide) rfl (fun ls hl => ?_)
  exact hL22 N _ _ _ _ _ h hP hS (lv_sub hl [1, 0] rfl)
theorem k_X2_distribute {p : Program} {l : Launch} {e : Env} {R : Room} {s : State} {m : MethodId} {args : Array Value} {below : List Frame} {meth : Method} {c : Code} {H : Heap} {locs : List Loc} {cells slots : Nat} {Q : State → Prop} {cc : ByteArray} {pc nL idx : Nat} {ls : Array Slot} {rest : List Value} {own : String} {D : va_G} {cI : ClassId} {a : Nat → Nat} {H0 : Heap} {N : Nat} {φ : M2} {p1 : Int32} {p2 : Int32} {p3 : Int32} {r0 : Int32} {φr : M2} (S : CallFix p m c cc nL s args AW own) (h1 : Cond.methodLink own idx yX2_distribute ∈ AW) (hR : 4 + 1 ≤ R.frames ∧ 8 + (5 + 11) + 93 ≤ R.locals) (hc : cells ≤ R.cells ∧ slots ≤ R.slots) (hP : va_P D vwCl (fbW cI a φ) H) (hK : va_K D vwCl [(cI, .int)] s) (hDT : ∀ (φ2 : M2), va_D (fun _ => True) (fbW cI a φ2)) (hS : va_S (fbA a) H0 H locs) (hF : G_X2_distribute N φ p1 p2 p3 = some (r0, φr)) (hsz : ls.size = nL) (hW : (rest.map fun v => v.category).sum ≤ 8) (hdg : decode cc pc = .ok (.invokevirtual idx, 3)) (kk : (r0 = 0 ∨ r0 = 1) → ∀ (H1 : Heap) (locs1 : List Loc), va_P D vwCl (fbW cI a φr) H1 → va_S (fbA a) H0 H1 locs1 → W p l e R s m args below meth c H1 locs1 cells slots Q (F0 m (pc + 3) ls (.int r0 :: rest))) : W p l e R s m args below meth c H locs cells slots Q (F0 m pc ls (.int p3 :: .int p2 :: .int p1 :: .ref (a 0) :: rest)) :=
  fm_runVi (n := 3) (C := RX2) (As := [.int p1, .int p2, .int p3]) S (c_X2_distribute l D cI a N φ p1 p2 p3 r0 φr hF) (F_pre (q0 := 0) (ci := 0) hK hP (hDT _) rfl rfl) hS h1 aI_X2_distribute aV_X2_distribute aN_RX2 aC_X2_distribute rfl rfl (by decide +kernel) rfl hR hc hsz hW hdg (fun r H1 locs1 hr hP1 hS1 => by obtain ⟨rfl, hz⟩ := hr; exact kk hz H1 locs1 hP1 hS1)
set_option maxHeartbeats 4000000 in
set_option maxRecDepth 100000 in
theorem c_X7_tagAt (l : Launch) (D : va_G) (cI : ClassId) (a : Nat → Nat) (φ : M2) (p1 : Int32) (r0 : Int32) (hF : G_X7_tagAt φ p1 = some r0) : Met l yX7_tagAt (wsA yX7_tagAt cX7_tagAt 2 (some .int)) { frames := 0, cells := 0, slots := 0, locals := 0 } (va_Pc [.ref (a 5), .int p1] (fbP D cI a φ)) (vp_Si (fun r => r = r0)) 0 0 (fun _ => False) := by
  refine Met.ofW (cc := cX7_tagAt) (maxL := 2) (ret := (some .int)) (by decide) rfl ?_
  intro p e s m args below meth c s₁ B hml hpre
  obtain ⟨rfl, hP, hK, hD0⟩ := hpre
  have hx := B.exec
  have hb := B.bytes
  have hr := B.returns
  have hA : ∀ w ∈ AW, w.before _ s = true := fun w h => atoms_spec (ws := wsA yX7_tagAt cX7_tagAt 2 (some .int)) B.pre w (List.mem_cons_of_mem _ h)
  have hown : s.vm.findClass RX7 = some m.cls := findClass_of_methodNamed B.named
  have hlocks := B.notSynchronized
  have hDT := F_dT hD0
  have S : CallFix p m c cX7_tagAt 2 s ([.ref (a 5), .int p1] : List Value).toArray AW RX7 := ⟨hx, hb, hml, hown, hA⟩
  have hl := lv_entry ([.ref (a 5), .int p1]) (n := 2) (Nat.le_of_ble_eq_true rfl)
  rw [lg_entry_eq]
  generalize (lg_sl ([.ref (a 5), .int p1]) ++ List.replicate (2 - (lg_sl ([.ref (a 5), .int p1])).length) Slot.unset).toArray = ls at hl ⊢
  have hl : lv_has ls 2 [(0, .ref (a 5)), (1, .int p1)] := hl
  have h := hF
  unfold G_X7_tagAt at h
  refine lv_iload_n hx hb dX7_tagAt_0 rfl (lv_at hl 1 rfl) ?_
  refine lv_if_lt (tgt := 30) hx hb dX7_tagAt_1 (by decide) (fun hc => ?_) (fun hc => ?_)
  · replace h := oi_t hc h
    refine lv_iconst (v := (-1)) hx hb dX7_tagAt_30 (by decide) ?_
    obtain rfl := os1 h
    exact W.iret (v := (-1)) hx hb hr (fun t ht hW => ⟨_, rfl, rfl, ht⟩) (fun q hq => absurd hq List.not_mem_nil) dX7_tagAt_31
  · replace h := oi_f hc h
    refine lv_iload_n hx hb dX7_tagAt_4 rfl (lv_at hl 1 rfl) ?_
    refine lv_aload_n hx hb dX7_tagAt_5 rfl (lv_at hl 0 rfl) ?_
    refine F_g5_2 hx hb hA hown aF_RX7_18 hK hP dX7_tagAt_6 ?_
    refine lv_icmp_ge (tgt := 30) hx hb dX7_tagAt_9 (by decide) (fun hc => ?_) (fun hc => ?_)
    · replace h := oi_t hc h
      refine lv_iconst (v := (-1)) hx hb dX7_tagAt_30 (by decide) ?_
      obtain rfl := os1 h
      exact W.iret (v := (-1)) hx hb hr (fun t ht hW => ⟨_, rfl, rfl, ht⟩) (fun q hq => absurd hq List.not_mem_nil) dX7_tagAt_31
    · replace h := oi_f hc h
      refine lv_iload_n hx hb dX7_tagAt_12 rfl (lv_at hl 1 rfl) ?_
      refine lv_aload_n hx hb dX7_tagAt_13 rfl (lv_at hl 0 rfl) ?_
      refine F_g5_1 hx hb hA hown aF_RX7_15 hK hP dX7_tagAt_14 ?_
      refine F_ln7 hx hb hK hP dX7_tagAt_17 ?_
      refine lv_icmp_ge (tgt := 30) hx hb dX7_tagAt_18 (by decide) (fun hc => ?_) (fun hc => ?_)
      · replace h := oi_t hc h
        refine lv_iconst (v := (-1)) hx hb dX7_tagAt_30 (by decide) ?_
        obtain rfl := os1 h
        exact W.iret (v := (-1)) hx hb hr (fun t ht hW => ⟨_, rfl, rfl, ht⟩) (fun q hq => absurd hq List.not_mem_nil) dX7_tagAt_31
      · replace h := oi_f hc h
        refine lv_aload_n hx hb dX7_tagAt_21 rfl (lv_at hl 0 rfl) ?_
        refine F_g5_1 hx hb hA hown aF_RX7_15 hK hP dX7_tagAt_22 ?_
        refine lv_iload_n hx hb dX7_tagAt_25 rfl (lv_at hl 1 rfl) ?_
        obtain ⟨i1, h⟩ := oin_e h
        refine F_ld7 hx hb hK hP i1 dX7_tagAt_26 ?_
        refine lv_goto (tgt := 31) hx hb dX7_tagAt_27 (by decide) ?_
        obtain rfl := os1 h
        exact W.iret (v := (φ 7 p1.toNatClampNeg)) hx hb hr (fun t ht hW => ⟨_, rfl, rfl, ht⟩) (fun q hq => absurd hq List.not_mem_nil) dX7_tagAt_31
theorem k_X7_tagAt {p : Program} {l : Launch} {e : Env} {R : Room} {s : State} {m : MethodId} {args : Array Value} {below : List Frame} {meth : Method} {c : Code} {H : Heap} {locs : List Loc} {cells slots : Nat} {Q : State → Prop} {cc : ByteArray} {pc nL idx : Nat} {ls : Array Slot} {rest : List Value} {own : String} {D : va_G} {cI : ClassId} {a : Nat → Nat} {φ : M2} {p1 : Int32} {r0 : Int32} (S : CallFix p m c cc nL s args AW own) (h1 : Cond.methodLink own idx yX7_tagAt ∈ AW) (hR : 0 + 1 ≤ R.frames ∧ 8 + (2 + 11) + 0 ≤ R.locals) (hc : cells ≤ R.cells ∧ slots ≤ R.slots) (hP : va_P D vwCl (fbW cI a φ) H) (hK : va_K D vwCl [(cI, .int)] s) (hDT : ∀ (φ2 : M2), va_D (fun _ => True) (fbW cI a φ2)) (hF : G_X7_tagAt φ p1 = some r0) (hsz : ls.size = nL) (hW : (rest.map fun v => v.category).sum ≤ 8) (hdg : decode cc pc = .ok (.invokevirtual idx, 3)) (kk : W p l e R s m args below meth c H locs cells slots Q (F0 m (pc + 3) ls (.int r0 :: rest))) : W p l e R s m args below meth c H locs cells slots Q (F0 m pc ls (.int p1 :: .ref (a 5) :: rest)) :=
  fm_runV (n := 1) (C := RX7) (As := [.int p1]) S (c_X7_tagAt l D cI a φ p1 r0 hF) (F_pre (q0 := 5) (ci := 5) hK hP (hDT _) rfl rfl) h1 aI_X7_tagAt aV_X7_tagAt aN_RX7 aC_X7_tagAt rfl rfl (by decide +kernel) rfl hR hc hsz hW hdg (fun r hr => by subst hr; exact kk)
set_option maxHeartbeats 4000000 in
set_option maxRecDepth 100000 in
theorem c_X4_copyFrom (l : Launch) (D : va_G) (cI : ClassId) (a : Nat → Nat) (N : Nat) (φ : M2) (φr : M2) (hF : G_X4_copyFrom N φ = some φr) : Met l yX4_copyFrom (wsA yX4_copyFrom cX4_copyFrom 3 none) { frames := 0, cells := 0, slots := 0, locals := 0 } (va_Pc [.ref (a 3), .ref (a 14)] (ppP D cI a φ)) (va_Qv (fun (_ : Unit) => True) (fun _ t => va_P D vwCl (ppW cI a φr) t.heap) (ppA a)) 0 0 (ppA a) := by
  refine Met.ofW (cc := cX4_copyFrom) (maxL := 3) (ret := none) (by decide) rfl ?_
  intro p e s m args below meth c s₁ B hml hpre
  obtain ⟨rfl, hP, hK, hD0⟩ := hpre
  have hx := B.exec
  have hb := B.bytes
  have hr := B.returns
  have hA : ∀ w ∈ AW, w.before _ s = true := fun w h => atoms_spec (ws := wsA yX4_copyFrom cX4_copyFrom 3 none) B.pre w (List.mem_cons_of_mem _ h)
  have hown : s.vm.findClass RX4 = some m.cls := findClass_of_methodNamed B.named
  have hlocks := B.notSynchronized
  have hDT := P_dT hD0
  have hDA := P_dA hD0
  have hS : va_S (ppA a) s.heap s.heap [] := va_S.rf
  have S : CallFix p m c cX4_copyFrom 3 s ([.ref (a 3), .ref (a 14)] : List Value).toArray AW RX4 := ⟨hx, hb, hml, hown, hA⟩
  have hl := lv_entry ([.ref (a 3), .ref (a 14)]) (n := 3) (Nat.le_of_ble_eq_true rfl)
  rw [lg_entry_eq]
  generalize (lg_sl ([.ref (a 3), .ref (a 14)]) ++ List.replicate (3 - (lg_sl ([.ref (a 3), .ref (a 14)])).length) Slot.unset).toArray = ls at hl ⊢
  have hl : lv_has ls 3 [(0, .ref (a 3)), (1, .ref (a 14))] := hl
  have hL2 : ∀ (k : Nat) (v2 : Int32) (φ : M2) (H : Heap) (locs : List Loc) (ls : Array Slot) (φo : M2), L_X4_copyFrom_2 N k v2 φ = some φo → va_P D vwCl (ppW cI a φ) H → va_S (ppA a) s.heap H locs → lv_has ls 3 [(0, .ref (a 3)), (1, .ref (a 14)), (2, .int v2)] → (∀ (H1 : Heap) (locs1 : List Loc) (ls1 : Array Slot), va_P D vwCl (ppW cI a φo) H1 → va_S (ppA a) s.heap H1 locs1 → lv_has ls1 3 [(0, .ref (a 3)), (1, .ref (a 14))] → W p l e (headSpec (wsA yX4_copyFrom cX4_copyFrom 3 none) { frames := 0, cells := 0, slots := 0, locals := 0 }).room s m ([.ref (a 3), .ref (a 14)] : List Value).toArray below meth c H1 locs1 0 0 (MQ below (va_Qv (fun (_ : Unit) => True) (fun _ t => va_P D vwCl (ppW cI a φr) t.heap) (ppA a)) ([.ref (a 3), .ref (a 14)] : List Value).toArray s 0 0 (ppA a)) (F0 m 38 ls1 [])) → W p l e (headSpec (wsA yX4_copyFrom cX4_copyFrom 3 none) { frames := 0, cells := 0, slots := 0, locals := 0 }).room s m ([.ref (a 3), .ref (a 14)] : List Value).toArray below meth c H locs 0 0 (MQ below (va_Qv (fun (_ : Unit) => True) (fun _ t => va_P D vwCl (ppW cI a φr) t.heap) (ppA a)) ([.ref (a 3), .ref (a 14)] : List Value).toArray s 0 0 (ppA a)) (F0 m 2 ls []) := by
    intro k
    induction k with
    | zero =>
      intro v2 φ H locs ls φo h hP hS hl kk
      exact no_s h
    | succ k ih =>
      intro v2 φ H locs ls φo h hP hS hl kk
      replace h : B_X4_copyFrom_2 N (L_X4_copyFrom_2 N k) v2 φ = some φo := h
      unfold B_X4_copyFrom_2 at h
      refine lv_iload_n hx hb dX4_copyFrom_2 rfl (lv_at hl 2 rfl) ?_
      refine lv_aload_n hx hb dX4_copyFrom_3 rfl (lv_at hl 0 rfl) ?_
      refine P_g3_0 hx hb hA hown aF_RX4_9 hK hP dX4_copyFrom_4 ?_
      refine P_ln4 hx hb hK hP dX4_copyFrom_7 ?_
      refine lv_icmp_ge (tgt := 38) hx hb dX4_copyFrom_8 (by decide) (fun hc => ?_) (fun hc => ?_)
      · replace h := oi_t hc h
        obtain rfl := os1 h
        exact kk _ _ _ hP hS (lv_sub hl [0, 1] rfl)
      · replace h := oi_f hc h
        refine lv_iload_n hx hb dX4_copyFrom_11 rfl (lv_at hl 2 rfl) ?_
        refine lv_aload_n hx hb dX4_copyFrom_12 rfl (lv_at hl 1 rfl) ?_
        refine P_g14_0 hx hb hA hown aF_RX4_9 hK hP dX4_copyFrom_13 ?_
        refine P_ln15 hx hb hK hP dX4_copyFrom_16 ?_
        refine lv_icmp_ge (tgt := 38) hx hb dX4_copyFrom_17 (by decide) (fun hc => ?_) (fun hc => ?_)
        · replace h := oi_t hc h
          obtain rfl := os1 h
          exact kk _ _ _ hP hS (lv_sub hl [0, 1] rfl)
        · replace h := oi_f hc h
          refine lv_aload_n hx hb dX4_copyFrom_20 rfl (lv_at hl 0 rfl) ?_
          refine P_g3_0 hx hb hA hown aF_RX4_9 hK hP dX4_copyFrom_21 ?_
          refine lv_iload_n hx hb dX4_copyFrom_24 rfl (lv_at hl 2 rfl) ?_
          refine lv_aload_n hx hb dX4_copyFrom_25 rfl (lv_at hl 1 rfl) ?_
          refine P_g14_0 hx hb hA hown aF_RX4_9 hK hP dX4_copyFrom_26 ?_
          refine lv_iload_n hx hb dX4_copyFrom_29 rfl (lv_at hl 2 rfl) ?_
          obtain ⟨i1, h⟩ := oin_e h
          refine P_ld15 hx hb hK hP i1 dX4_copyFrom_30 ?_
          obtain ⟨i2, h⟩ := oin_e h
          refine P_st4 hx hb hK hP (hDA _) hS i2 dX4_copyFrom_31 (fun w3 H locs ew3 hP hS => ?_)
          replace h := olet_s ew3 h
          refine lv_iinc (v := v2 + 1) (lv' := [(2, .int (v2 + 1)), (0, .ref (a 3)), (1, .ref (a 14))]) hx hb dX4_copyFrom_32 hl (k := 2) rfl (fm_inc _ _ _ (by decide)) (by decide) rfl (fun ls hl => ?_)
          refine lv_goto (tgt := 2) hx hb dX4_copyFrom_35 (by decide) ?_
          exact ih _ _ _ _ _ _ h hP hS (lv_sub hl [1, 2, 0] rfl) kk
  have h := hF
  unfold G_X4_copyFrom at h
  refine lv_iconst (v := 0) hx hb dX4_copyFrom_0 (by decide) ?_
  refine lv_istore_n (lv' := [(2, .int 0), (0, .ref (a 3)), (1, .ref (a 14))]) hx hb dX4_copyFrom_1 rfl hl (by decide) rfl (fun ls hl => ?_)
  obtain ⟨w4, h5, h⟩ := obd_e h
  refine hL2 N _ _ _ _ _ _ h5 hP hS (lv_sub hl [1, 2, 0] rfl) (fun H locs ls hP hS hl => ?_)
  refine lv_aload_n hx hb dX4_copyFrom_38 rfl (lv_at hl 0 rfl) ?_
  refine lv_aload_n hx hb dX4_copyFrom_39 rfl (lv_at hl 1 rfl) ?_
  refine P_g14_1 hx hb hA hown aF_RX4_15 hK hP dX4_copyFrom_40 ?_
  refine P_p3_1 hx hb hA hown aF_RX4_15 hK hP (hDA _) hS dX4_copyFrom_43 (fun w6 H locs ew6 hP hS => ?_)
  replace h := olet_s ew6 h
  obtain rfl := os1 h
  exact W.vret hx hb hr (fun t ht hW => ⟨⟨(), rfl, trivial, by show va_P _ _ _ t.heap; rw [ht]; exact hP⟩, hS.F ht⟩) hS.2.2 dX4_copyFrom_46
theorem k_X4_copyFrom {p : Program} {l : Launch} {e : Env} {R : Room} {s : State} {m : MethodId} {args : Array Value} {below : List Frame} {meth : Method} {c : Code} {H : Heap} {locs : List Loc} {cells slots : Nat} {Q : State → Prop} {cc : ByteArray} {pc nL idx : Nat} {ls : Array Slot} {rest : List Value} {own : String} {D : va_G} {cI : ClassId} {a : Nat → Nat} {H0 : Heap} {N : Nat} {φ : M2} {φr : M2} (S : CallFix p m c cc nL s args AW own) (h1 : Cond.methodLink own idx yX4_copyFrom ∈ AW) (hR : 0 + 1 ≤ R.frames ∧ 8 + (3 + 11) + 0 ≤ R.locals) (hc : cells ≤ R.cells ∧ slots ≤ R.slots) (hP : va_P D vwCl (ppW cI a φ) H) (hK : va_K D vwCl [(cI, .int)] s) (hDT : ∀ (φ2 : M2), va_D (fun _ => True) (ppW cI a φ2)) (hS : va_S (ppA a) H0 H locs) (hF : G_X4_copyFrom N φ = some φr) (hsz : ls.size = nL) (hW : (rest.map fun v => v.category).sum ≤ 8) (hdg : decode cc pc = .ok (.invokevirtual idx, 3)) (kk : ∀ (H1 : Heap) (locs1 : List Loc), va_P D vwCl (ppW cI a φr) H1 → va_S (ppA a) H0 H1 locs1 → W p l e R s m args below meth c H1 locs1 cells slots Q (F0 m (pc + 3) ls (rest))) : W p l e R s m args below meth c H locs cells slots Q (F0 m pc ls (.ref (a 14) :: .ref (a 3) :: rest)) :=
  fm_runVv (n := 1) (C := RX4) (As := [.ref (a 14)]) S (c_X4_copyFrom l D cI a N φ φr hF) (P_pre (q0 := 3) (ci := 2) hK hP (hDT _) rfl rfl) hS h1 aI_X4_copyFrom aV_X4_copyFrom aN_RX4 aC_X4_copyFrom rfl rfl (by decide +kernel) rfl hR hc hsz hW hdg (fun H1 locs1 hP1 hS1 => kk H1 locs1 hP1 hS1)
set_option maxHeartbeats 4000000 in
set_option maxRecDepth 100000 in
theorem c_X2_copyFrom (l : Launch) (D : va_G) (cI : ClassId) (a : Nat → Nat) (N : Nat) (φ : M2) (φr : M2) (hF : G_X2_copyFrom N φ = some φr) : Met l yX2_copyFrom (wsA yX2_copyFrom cX2_copyFrom 3 none) { frames := 1, cells := 0, slots := 0, locals := 22 } (va_Pc [.ref (a 0), .ref (a 11)] (ppP D cI a φ)) (va_Qv (fun (_ : Unit) => True) (fun _ t => va_P D vwCl (ppW cI a φr) t.heap) (ppA a)) 0 0 (ppA a) := by
  refine Met.ofW (cc := cX2_copyFrom) (maxL := 3) (ret := none) (by decide) rfl ?_
  intro p e s m args below meth c s₁ B hml hpre
  obtain ⟨rfl, hP, hK, hD0⟩ := hpre
  have hx := B.exec
  have hb := B.bytes
  have hr := B.returns
  have hA : ∀ w ∈ AW, w.before _ s = true := fun w h => atoms_spec (ws := wsA yX2_copyFrom cX2_copyFrom 3 none) B.pre w (List.mem_cons_of_mem _ h)
  have hown : s.vm.findClass RX2 = some m.cls := findClass_of_methodNamed B.named
  have hlocks := B.notSynchronized
  have hDT := P_dT hD0
  have hDA := P_dA hD0
  have hS : va_S (ppA a) s.heap s.heap [] := va_S.rf
  have S : CallFix p m c cX2_copyFrom 3 s ([.ref (a 0), .ref (a 11)] : List Value).toArray AW RX2 := ⟨hx, hb, hml, hown, hA⟩
  have hl := lv_entry ([.ref (a 0), .ref (a 11)]) (n := 3) (Nat.le_of_ble_eq_true rfl)
  rw [lg_entry_eq]
  generalize (lg_sl ([.ref (a 0), .ref (a 11)]) ++ List.replicate (3 - (lg_sl ([.ref (a 0), .ref (a 11)])).length) Slot.unset).toArray = ls at hl ⊢
  have hl : lv_has ls 3 [(0, .ref (a 0)), (1, .ref (a 11))] := hl
  have hL42 : ∀ (k : Nat) (v2 : Int32) (φ : M2) (H : Heap) (locs : List Loc) (ls : Array Slot) (φo : M2), L_X2_copyFrom_42 N k v2 φ = some φo → va_P D vwCl (ppW cI a φ) H → va_S (ppA a) s.heap H locs → lv_has ls 3 [(0, .ref (a 0)), (1, .ref (a 11)), (2, .int v2)] → (∀ (H1 : Heap) (locs1 : List Loc) (ls1 : Array Slot), va_P D vwCl (ppW cI a φo) H1 → va_S (ppA a) s.heap H1 locs1 → lv_has ls1 3 [(0, .ref (a 0)), (1, .ref (a 11))] → W p l e (headSpec (wsA yX2_copyFrom cX2_copyFrom 3 none) { frames := 1, cells := 0, slots := 0, locals := 22 }).room s m ([.ref (a 0), .ref (a 11)] : List Value).toArray below meth c H1 locs1 0 0 (MQ below (va_Qv (fun (_ : Unit) => True) (fun _ t => va_P D vwCl (ppW cI a φr) t.heap) (ppA a)) ([.ref (a 0), .ref (a 11)] : List Value).toArray s 0 0 (ppA a)) (F0 m 78 ls1 [])) → W p l e (headSpec (wsA yX2_copyFrom cX2_copyFrom 3 none) { frames := 1, cells := 0, slots := 0, locals := 22 }).room s m ([.ref (a 0), .ref (a 11)] : List Value).toArray below meth c H locs 0 0 (MQ below (va_Qv (fun (_ : Unit) => True) (fun _ t => va_P D vwCl (ppW cI a φr) t.heap) (ppA a)) ([.ref (a 0), .ref (a 11)] : List Value).toArray s 0 0 (ppA a)) (F0 m 42 ls []) := by
    intro k
    induction k with
    | zero =>
      intro v2 φ H locs ls φo h hP hS hl kk
      exact no_s h
    | succ k ih =>
      intro v2 φ H locs ls φo h hP hS hl kk
      replace h : B_X2_copyFrom_42 N (L_X2_copyFrom_42 N k) v2 φ = some φo := h
      unfold B_X2_copyFrom_42 at h
      refine lv_iload_n hx hb dX2_copyFrom_42 rfl (lv_at hl 2 rfl) ?_
      refine lv_aload_n hx hb dX2_copyFrom_43 rfl (lv_at hl 0 rfl) ?_
      refine P_g0_5 hx hb hA hown aF_RX2_27 hK hP dX2_copyFrom_44 ?_
      refine P_ln1 hx hb hK hP dX2_copyFrom_47 ?_
      refine lv_icmp_ge (tgt := 78) hx hb dX2_copyFrom_48 (by decide) (fun hc => ?_) (fun hc => ?_)
      · replace h := oi_t hc h
        obtain rfl := os1 h
        exact kk _ _ _ hP hS (lv_sub hl [0, 1] rfl)
      · replace h := oi_f hc h
        refine lv_iload_n hx hb dX2_copyFrom_51 rfl (lv_at hl 2 rfl) ?_
        refine lv_aload_n hx hb dX2_copyFrom_52 rfl (lv_at hl 1 rfl) ?_
        refine P_g11_5 hx hb hA hown aF_RX2_27 hK hP dX2_copyFrom_53 ?_
        refine P_ln12 hx hb hK hP dX2_copyFrom_56 ?_
        refine lv_icmp_ge (tgt := 78) hx hb dX2_copyFrom_57 (by decide) (fun hc => ?_) (fun hc => ?_)
        · replace h := oi_t hc h
          obtain rfl := os1 h
          exact kk _ _ _ hP hS (lv_sub hl [0, 1] rfl)
        · replace h := oi_f hc h
          refine lv_aload_n hx hb dX2_copyFrom_60 rfl (lv_at hl 0 rfl) ?_
          refine P_g0_5 hx hb hA hown aF_RX2_27 hK hP dX2_copyFrom_61 ?_
          refine lv_iload_n hx hb dX2_copyFrom_64 rfl (lv_at hl 2 rfl) ?_
          refine lv_aload_n hx hb dX2_copyFrom_65 rfl (lv_at hl 1 rfl) ?_
          refine P_g11_5 hx hb hA hown aF_RX2_27 hK hP dX2_copyFrom_66 ?_
          refine lv_iload_n hx hb dX2_copyFrom_69 rfl (lv_at hl 2 rfl) ?_
          obtain ⟨i6, h⟩ := oin_e h
          refine P_ld12 hx hb hK hP i6 dX2_copyFrom_70 ?_
          obtain ⟨i7, h⟩ := oin_e h
          refine P_st1 hx hb hK hP (hDA _) hS i7 dX2_copyFrom_71 (fun w8 H locs ew8 hP hS => ?_)
          replace h := olet_s ew8 h
          refine lv_iinc (v := v2 + 1) (lv' := [(2, .int (v2 + 1)), (0, .ref (a 0)), (1, .ref (a 11))]) hx hb dX2_copyFrom_72 hl (k := 2) rfl (fm_inc _ _ _ (by decide)) (by decide) rfl (fun ls hl => ?_)
          refine lv_goto (tgt := 42) hx hb dX2_copyFrom_75 (by decide) ?_
          exact ih _ _ _ _ _ _ h hP hS (lv_sub hl [1, 2, 0] rfl) kk
  have hL80 : ∀ (k : Nat) (v2 : Int32) (φ : M2) (H : Heap) (locs : List Loc) (ls : Array Slot) (φo : M2), L_X2_copyFrom_80 N k v2 φ = some φo → va_P D vwCl (ppW cI a φ) H → va_S (ppA a) s.heap H locs → lv_has ls 3 [(0, .ref (a 0)), (1, .ref (a 11)), (2, .int v2)] → (∀ (H1 : Heap) (locs1 : List Loc) (ls1 : Array Slot), va_P D vwCl (ppW cI a φo) H1 → va_S (ppA a) s.heap H1 locs1 → lv_has ls1 3 [(0, .ref (a 0)), (1, .ref (a 11))] → W p l e (headSpec (wsA yX2_copyFrom cX2_copyFrom 3 none) { frames := 1, cells := 0, slots := 0, locals := 22 }).room s m ([.ref (a 0), .ref (a 11)] : List Value).toArray below meth c H1 locs1 0 0 (MQ below (va_Qv (fun (_ : Unit) => True) (fun _ t => va_P D vwCl (ppW cI a φr) t.heap) (ppA a)) ([.ref (a 0), .ref (a 11)] : List Value).toArray s 0 0 (ppA a)) (F0 m 116 ls1 [])) → W p l e (headSpec (wsA yX2_copyFrom cX2_copyFrom 3 none) { frames := 1, cells := 0, slots := 0, locals := 22 }).room s m ([.ref (a 0), .ref (a 11)] : List Value).toArray below meth c H locs 0 0 (MQ below (va_Qv (fun (_ : Unit) => True) (fun _ t => va_P D vwCl (ppW cI a φr) t.heap) (ppA a)) ([.ref (a 0), .ref (a 11)] : List Value).toArray s 0 0 (ppA a)) (F0 m 80 ls []) := by
    intro k
    induction k with
    | zero =>
      intro v2 φ H locs ls φo h hP hS hl kk
      exact no_s h
    | succ k ih =>
      intro v2 φ H locs ls φo h hP hS hl kk
      replace h : B_X2_copyFrom_80 N (L_X2_copyFrom_80 N k) v2 φ = some φo := h
      unfold B_X2_copyFrom_80 at h
      refine lv_iload_n hx hb dX2_copyFrom_80 rfl (lv_at hl 2 rfl) ?_
      refine lv_aload_n hx hb dX2_copyFrom_81 rfl (lv_at hl 0 rfl) ?_
      refine P_g0_6 hx hb hA hown aF_RX2_31 hK hP dX2_copyFrom_82 ?_
      refine P_ln2 hx hb hK hP dX2_copyFrom_85 ?_
      refine lv_icmp_ge (tgt := 116) hx hb dX2_copyFrom_86 (by decide) (fun hc => ?_) (fun hc => ?_)
      · replace h := oi_t hc h
        obtain rfl := os1 h
        exact kk _ _ _ hP hS (lv_sub hl [0, 1] rfl)
      · replace h := oi_f hc h
        refine lv_iload_n hx hb dX2_copyFrom_89 rfl (lv_at hl 2 rfl) ?_
        refine lv_aload_n hx hb dX2_copyFrom_90 rfl (lv_at hl 1 rfl) ?_
        refine P_g11_6 hx hb hA hown aF_RX2_31 hK hP dX2_copyFrom_91 ?_
        refine P_ln13 hx hb hK hP dX2_copyFrom_94 ?_
        refine lv_icmp_ge (tgt := 116) hx hb dX2_copyFrom_95 (by decide) (fun hc => ?_) (fun hc => ?_)
        · replace h := oi_t hc h
          obtain rfl := os1 h
          exact kk _ _ _ hP hS (lv_sub hl [0, 1] rfl)
        · replace h := oi_f hc h
          refine lv_aload_n hx hb dX2_copyFrom_98 rfl (lv_at hl 0 rfl) ?_
          refine P_g0_6 hx hb hA hown aF_RX2_31 hK hP dX2_copyFrom_99 ?_
          refine lv_iload_n hx hb dX2_copyFrom_102 rfl (lv_at hl 2 rfl) ?_
          refine lv_aload_n hx hb dX2_copyFrom_103 rfl (lv_at hl 1 rfl) ?_
          refine P_g11_6 hx hb hA hown aF_RX2_31 hK hP dX2_copyFrom_104 ?_
          refine lv_iload_n hx hb dX2_copyFrom_107 rfl (lv_at hl 2 rfl) ?_
          obtain ⟨i11, h⟩ := oin_e h
          refine P_ld13 hx hb hK hP i11 dX2_copyFrom_108 ?_
          obtain ⟨i12, h⟩ := oin_e h
          refine P_st2 hx hb hK hP (hDA _) hS i12 dX2_copyFrom_109 (fun w13 H locs ew13 hP hS => ?_)
          replace h := olet_s ew13 h
          refine lv_iinc (v := v2 + 1) (lv' := [(2, .int (v2 + 1)), (0, .ref (a 0)), (1, .ref (a 11))]) hx hb dX2_copyFrom_110 hl (k := 2) rfl (fm_inc _ _ _ (by decide)) (by decide) rfl (fun ls hl => ?_)
          refine lv_goto (tgt := 80) hx hb dX2_copyFrom_113 (by decide) ?_
          exact ih _ _ _ _ _ _ h hP hS (lv_sub hl [1, 2, 0] rfl) kk
  have h := hF
  unfold G_X2_copyFrom at h
  refine lv_aload_n hx hb dX2_copyFrom_0 rfl (lv_at hl 0 rfl) ?_
  refine lv_aload_n hx hb dX2_copyFrom_1 rfl (lv_at hl 1 rfl) ?_
  refine P_g11_0 hx hb hA hown aF_RX2_9 hK hP dX2_copyFrom_2 ?_
  refine P_p0_0 hx hb hA hown aF_RX2_9 hK hP (hDA _) hS dX2_copyFrom_5 (fun w1 H locs ew1 hP hS => ?_)
  replace h := olet_s ew1 h
  refine lv_aload_n hx hb dX2_copyFrom_8 rfl (lv_at hl 0 rfl) ?_
  refine lv_aload_n hx hb dX2_copyFrom_9 rfl (lv_at hl 1 rfl) ?_
  refine P_g11_1 hx hb hA hown aF_RX2_15 hK hP dX2_copyFrom_10 ?_
  refine P_p0_1 hx hb hA hown aF_RX2_15 hK hP (hDA _) hS dX2_copyFrom_13 (fun w2 H locs ew2 hP hS => ?_)
  replace h := olet_s ew2 h
  refine lv_aload_n hx hb dX2_copyFrom_16 rfl (lv_at hl 0 rfl) ?_
  refine lv_aload_n hx hb dX2_copyFrom_17 rfl (lv_at hl 1 rfl) ?_
  refine P_g11_2 hx hb hA hown aF_RX2_18 hK hP dX2_copyFrom_18 ?_
  refine P_p0_2 hx hb hA hown aF_RX2_18 hK hP (hDA _) hS dX2_copyFrom_21 (fun w3 H locs ew3 hP hS => ?_)
  replace h := olet_s ew3 h
  refine lv_aload_n hx hb dX2_copyFrom_24 rfl (lv_at hl 0 rfl) ?_
  refine lv_aload_n hx hb dX2_copyFrom_25 rfl (lv_at hl 1 rfl) ?_
  refine P_g11_3 hx hb hA hown aF_RX2_21 hK hP dX2_copyFrom_26 ?_
  refine P_p0_3 hx hb hA hown aF_RX2_21 hK hP (hDA _) hS dX2_copyFrom_29 (fun w4 H locs ew4 hP hS => ?_)
  replace h := olet_s ew4 h
  refine lv_aload_n hx hb dX2_copyFrom_32 rfl (lv_at hl 0 rfl) ?_
  refine lv_aload_n hx hb dX2_copyFrom_33 rfl (lv_at hl 1 rfl) ?_
  refine P_g11_4 hx hb hA hown aF_RX2_24 hK hP dX2_copyFrom_34 ?_
  refine P_p0_4 hx hb hA hown aF_RX2_24 hK hP (hDA _) hS dX2_copyFrom_37 (fun w5 H locs ew5 hP hS => ?_)
  replace h := olet_s ew5 h
  refine lv_iconst (v := 0) hx hb dX2_copyFrom_40 (by decide) ?_
  refine lv_istore_n (lv' := [(2, .int 0), (0, .ref (a 0)), (1, .ref (a 11))]) hx hb dX2_copyFrom_41 rfl hl (by decide) rfl (fun ls hl => ?_)
  obtain ⟨w9, h10, h⟩ := obd_e h
  refine hL42 N _ _ _ _ _ _ h10 hP hS (lv_sub hl [1, 2, 0] rfl) (fun H locs ls hP hS hl => ?_)
  refine lv_iconst (v := 0) hx hb dX2_copyFrom_78 (by decide) ?_
  refine lv_istore_n (lv' := [(2, .int 0), (0, .ref (a 0)), (1, .ref (a 11))]) hx hb dX2_copyFrom_79 rfl hl (by decide) rfl (fun ls hl => ?_)
  obtain ⟨w14, h15, h⟩ := obd_e h
  refine hL80 N _ _ _ _ _ _ h15 hP hS (lv_sub hl [1, 2, 0] rfl) (fun H locs ls hP hS hl => ?_)
  refine lv_aload_n hx hb dX2_copyFrom_116 rfl (lv_at hl 0 rfl) ?_
  refine lv_aload_n hx hb dX2_copyFrom_117 rfl (lv_at hl 1 rfl) ?_
  refine P_g11_7 hx hb hA hown aF_RX2_55 hK hP dX2_copyFrom_118 ?_
  refine P_p0_7 hx hb hA hown aF_RX2_55 hK hP (hDA _) hS dX2_copyFrom_121 (fun w16 H locs ew16 hP hS => ?_)
  replace h := olet_s ew16 h
  refine lv_aload_n hx hb dX2_copyFrom_124 rfl (lv_at hl 0 rfl) ?_
  refine P_g0_8 hx hb hA hown aF_RX2_37 hK hP dX2_copyFrom_125 ?_
  refine lv_aload_n hx hb dX2_copyFrom_128 rfl (lv_at hl 1 rfl) ?_
  refine P_g11_8 hx hb hA hown aF_RX2_37 hK hP dX2_copyFrom_129 ?_
  obtain ⟨w17, h18, h⟩ := obd_e h
  refine k_X4_copyFrom S aM_RX2_58 ⟨Nat.le_of_ble_eq_true rfl, Nat.le_of_ble_eq_true rfl⟩ ⟨Nat.zero_le _, Nat.zero_le _⟩ hP hK hDT hS h18 hl.1 (Nat.le_of_ble_eq_true rfl) dX2_copyFrom_132 (fun H locs hP hS => ?_)
  obtain rfl := os1 h
  exact W.vret hx hb hr (fun t ht hW => ⟨⟨(), rfl, trivial, by show va_P _ _ _ t.heap; rw [ht]; exact hP⟩, hS.F ht⟩) hS.2.2 dX2_copyFrom_135
theorem k_X2_copyFrom {p : Program} {l : Launch} {e : Env} {R : Room} {s : State} {m : MethodId} {args : Array Value} {below : List Frame} {meth : Method} {c : Code} {H : Heap} {locs : List Loc} {cells slots : Nat} {Q : State → Prop} {cc : ByteArray} {pc nL idx : Nat} {ls : Array Slot} {rest : List Value} {own : String} {D : va_G} {cI : ClassId} {a : Nat → Nat} {H0 : Heap} {N : Nat} {φ : M2} {φr : M2} (S : CallFix p m c cc nL s args AW own) (h1 : Cond.methodLink own idx yX2_copyFrom ∈ AW) (hR : 1 + 1 ≤ R.frames ∧ 8 + (3 + 11) + 22 ≤ R.locals) (hc : cells ≤ R.cells ∧ slots ≤ R.slots) (hP : va_P D vwCl (ppW cI a φ) H) (hK : va_K D vwCl [(cI, .int)] s) (hDT : ∀ (φ2 : M2), va_D (fun _ => True) (ppW cI a φ2)) (hS : va_S (ppA a) H0 H locs) (hF : G_X2_copyFrom N φ = some φr) (hsz : ls.size = nL) (hW : (rest.map fun v => v.category).sum ≤ 8) (hdg : decode cc pc = .ok (.invokevirtual idx, 3)) (kk : ∀ (H1 : Heap) (locs1 : List Loc), va_P D vwCl (ppW cI a φr) H1 → va_S (ppA a) H0 H1 locs1 → W p l e R s m args below meth c H1 locs1 cells slots Q (F0 m (pc + 3) ls (rest))) : W p l e R s m args below meth c H locs cells slots Q (F0 m pc ls (.ref (a 11) :: .ref (a 0) :: rest)) :=
  fm_runVv (n := 1) (C := RX2) (As := [.ref (a 11)]) S (c_X2_copyFrom l D cI a N φ φr hF) (P_pre (q0 := 0) (ci := 0) hK hP (hDT _) rfl rfl) hS h1 aI_X2_copyFrom aV_X2_copyFrom aN_RX2 aC_X2_copyFrom rfl rfl (by decide +kernel) rfl hR hc hsz hW hdg (fun H1 locs1 hP1 hS1 => kk H1 locs1 hP1 hS1)
set_option maxHeartbeats 4000000 in
set_option maxRecDepth 100000 in
theorem c_X6_size (l : Launch) (D : va_G) (cI : ClassId) (a : Nat → Nat) (φ : M2) (r0 : Int32) (hF : G_X6_size φ = r0) : Met l yX6_size (wsA yX6_size cX6_size 1 (some .int)) { frames := 0, cells := 0, slots := 0, locals := 0 } (va_Pc [.ref (a 0)] (tbP D cI a φ)) (vp_Si (fun r => r = r0)) 0 0 (fun _ => False) := by
  refine Met.ofW (cc := cX6_size) (maxL := 1) (ret := (some .int)) (by decide) rfl ?_
  intro p e s m args below meth c s₁ B hml hpre
  obtain ⟨rfl, hP, hK, hD0⟩ := hpre
  have hx := B.exec
  have hb := B.bytes
  have hr := B.returns
  have hA : ∀ w ∈ AW, w.before _ s = true := fun w h => atoms_spec (ws := wsA yX6_size cX6_size 1 (some .int)) B.pre w (List.mem_cons_of_mem _ h)
  have hown : s.vm.findClass RX6 = some m.cls := findClass_of_methodNamed B.named
  have hlocks := B.notSynchronized
  have hDT := T_dT hD0
  have S : CallFix p m c cX6_size 1 s ([.ref (a 0)] : List Value).toArray AW RX6 := ⟨hx, hb, hml, hown, hA⟩
  have hl := lv_entry ([.ref (a 0)]) (n := 1) (Nat.le_of_ble_eq_true rfl)
  rw [lg_entry_eq]
  generalize (lg_sl ([.ref (a 0)]) ++ List.replicate (1 - (lg_sl ([.ref (a 0)])).length) Slot.unset).toArray = ls at hl ⊢
  have hl : lv_has ls 1 [(0, .ref (a 0))] := hl
  have h := hF
  unfold G_X6_size at h
  refine lv_aload_n hx hb dX6_size_0 rfl (lv_at hl 0 rfl) ?_
  refine T_g0_1 hx hb hA hown aF_RX6_15 hK hP dX6_size_1 ?_
  subst h
  exact W.iret (v := (φ 0 1)) hx hb hr (fun t ht hW => ⟨_, rfl, rfl, ht⟩) (fun q hq => absurd hq List.not_mem_nil) dX6_size_4
theorem k_X6_size {p : Program} {l : Launch} {e : Env} {R : Room} {s : State} {m : MethodId} {args : Array Value} {below : List Frame} {meth : Method} {c : Code} {H : Heap} {locs : List Loc} {cells slots : Nat} {Q : State → Prop} {cc : ByteArray} {pc nL idx : Nat} {ls : Array Slot} {rest : List Value} {own : String} {D : va_G} {cI : ClassId} {a : Nat → Nat} {φ : M2} (S : CallFix p m c cc nL s args AW own) (h1 : Cond.methodLink own idx yX6_size ∈ AW) (hR : 0 + 1 ≤ R.frames ∧ 8 + (1 + 11) + 0 ≤ R.locals) (hc : cells ≤ R.cells ∧ slots ≤ R.slots) (hP : va_P D vwCl (tbW cI a φ) H) (hK : va_K D vwCl [(cI, .int)] s) (hDT : ∀ (φ2 : M2), va_D (fun _ => True) (tbW cI a φ2)) (hsz : ls.size = nL) (hW : (rest.map fun v => v.category).sum ≤ 8) (hdg : decode cc pc = .ok (.invokevirtual idx, 3)) (kk : ∀ r : Int32, r = G_X6_size φ → W p l e R s m args below meth c H locs cells slots Q (F0 m (pc + 3) ls (.int r :: rest))) : W p l e R s m args below meth c H locs cells slots Q (F0 m pc ls (.ref (a 0) :: rest)) :=
  fm_runV (n := 0) (C := RX6) (As := []) S (c_X6_size l D cI a φ _ rfl) (T_pre (q0 := 0) (ci := 4) hK hP (hDT _) rfl rfl) h1 aI_X6_size aV_X6_size aN_RX6 aC_X6_size rfl rfl (by decide +kernel) rfl hR hc hsz hW hdg (fun r hr => kk r hr)
set_option maxHeartbeats 4000000 in
set_option maxRecDepth 100000 in
theorem c_X6_byteAt (l : Launch) (D : va_G) (cI : ClassId) (a : Nat → Nat) (φ : M2) (p1 : Int32) (r0 : Int32) (hF : G_X6_byteAt φ p1 = some r0) : Met l yX6_byteAt (wsA yX6_byteAt cX6_byteAt 2 (some .int)) { frames := 0, cells := 0, slots := 0, locals := 0 } (va_Pc [.ref (a 0), .int p1] (tbP D cI a φ)) (vp_Si (fun r => r = r0)) 0 0 (fun _ => False) := by
  refine Met.ofW (cc := cX6_byteAt) (maxL := 2) (ret := (some .int)) (by decide) rfl ?_
  intro p e s m args below meth c s₁ B hml hpre
  obtain ⟨rfl, hP, hK, hD0⟩ := hpre
  have hx := B.exec
  have hb := B.bytes
  have hr := B.returns
  have hA : ∀ w ∈ AW, w.before _ s = true := fun w h => atoms_spec (ws := wsA yX6_byteAt cX6_byteAt 2 (some .int)) B.pre w (List.mem_cons_of_mem _ h)
  have hown : s.vm.findClass RX6 = some m.cls := findClass_of_methodNamed B.named
  have hlocks := B.notSynchronized
  have hDT := T_dT hD0
  have S : CallFix p m c cX6_byteAt 2 s ([.ref (a 0), .int p1] : List Value).toArray AW RX6 := ⟨hx, hb, hml, hown, hA⟩
  have hl := lv_entry ([.ref (a 0), .int p1]) (n := 2) (Nat.le_of_ble_eq_true rfl)
  rw [lg_entry_eq]
  generalize (lg_sl ([.ref (a 0), .int p1]) ++ List.replicate (2 - (lg_sl ([.ref (a 0), .int p1])).length) Slot.unset).toArray = ls at hl ⊢
  have hl : lv_has ls 2 [(0, .ref (a 0)), (1, .int p1)] := hl
  have h := hF
  unfold G_X6_byteAt at h
  refine lv_iload_n hx hb dX6_byteAt_0 rfl (lv_at hl 1 rfl) ?_
  refine lv_if_lt (tgt := 30) hx hb dX6_byteAt_1 (by decide) (fun hc => ?_) (fun hc => ?_)
  · replace h := oi_t hc h
    refine lv_iconst (v := (-1)) hx hb dX6_byteAt_30 (by decide) ?_
    obtain rfl := os1 h
    exact W.iret (v := (-1)) hx hb hr (fun t ht hW => ⟨_, rfl, rfl, ht⟩) (fun q hq => absurd hq List.not_mem_nil) dX6_byteAt_31
  · replace h := oi_f hc h
    refine lv_iload_n hx hb dX6_byteAt_4 rfl (lv_at hl 1 rfl) ?_
    refine lv_aload_n hx hb dX6_byteAt_5 rfl (lv_at hl 0 rfl) ?_
    refine T_g0_1 hx hb hA hown aF_RX6_15 hK hP dX6_byteAt_6 ?_
    refine lv_icmp_ge (tgt := 30) hx hb dX6_byteAt_9 (by decide) (fun hc => ?_) (fun hc => ?_)
    · replace h := oi_t hc h
      refine lv_iconst (v := (-1)) hx hb dX6_byteAt_30 (by decide) ?_
      obtain rfl := os1 h
      exact W.iret (v := (-1)) hx hb hr (fun t ht hW => ⟨_, rfl, rfl, ht⟩) (fun q hq => absurd hq List.not_mem_nil) dX6_byteAt_31
    · replace h := oi_f hc h
      refine lv_iload_n hx hb dX6_byteAt_12 rfl (lv_at hl 1 rfl) ?_
      refine lv_aload_n hx hb dX6_byteAt_13 rfl (lv_at hl 0 rfl) ?_
      refine T_g0_0 hx hb hA hown aF_RX6_9 hK hP dX6_byteAt_14 ?_
      refine T_ln1 hx hb hK hP dX6_byteAt_17 ?_
      refine lv_icmp_ge (tgt := 30) hx hb dX6_byteAt_18 (by decide) (fun hc => ?_) (fun hc => ?_)
      · replace h := oi_t hc h
        refine lv_iconst (v := (-1)) hx hb dX6_byteAt_30 (by decide) ?_
        obtain rfl := os1 h
        exact W.iret (v := (-1)) hx hb hr (fun t ht hW => ⟨_, rfl, rfl, ht⟩) (fun q hq => absurd hq List.not_mem_nil) dX6_byteAt_31
      · replace h := oi_f hc h
        refine lv_aload_n hx hb dX6_byteAt_21 rfl (lv_at hl 0 rfl) ?_
        refine T_g0_0 hx hb hA hown aF_RX6_9 hK hP dX6_byteAt_22 ?_
        refine lv_iload_n hx hb dX6_byteAt_25 rfl (lv_at hl 1 rfl) ?_
        obtain ⟨i1, h⟩ := oin_e h
        refine T_ld1 hx hb hK hP i1 dX6_byteAt_26 ?_
        refine lv_goto (tgt := 31) hx hb dX6_byteAt_27 (by decide) ?_
        obtain rfl := os1 h
        exact W.iret (v := (φ 1 p1.toNatClampNeg)) hx hb hr (fun t ht hW => ⟨_, rfl, rfl, ht⟩) (fun q hq => absurd hq List.not_mem_nil) dX6_byteAt_31
theorem k_X6_byteAt {p : Program} {l : Launch} {e : Env} {R : Room} {s : State} {m : MethodId} {args : Array Value} {below : List Frame} {meth : Method} {c : Code} {H : Heap} {locs : List Loc} {cells slots : Nat} {Q : State → Prop} {cc : ByteArray} {pc nL idx : Nat} {ls : Array Slot} {rest : List Value} {own : String} {D : va_G} {cI : ClassId} {a : Nat → Nat} {φ : M2} {p1 : Int32} {r0 : Int32} (S : CallFix p m c cc nL s args AW own) (h1 : Cond.methodLink own idx yX6_byteAt ∈ AW) (hR : 0 + 1 ≤ R.frames ∧ 8 + (2 + 11) + 0 ≤ R.locals) (hc : cells ≤ R.cells ∧ slots ≤ R.slots) (hP : va_P D vwCl (tbW cI a φ) H) (hK : va_K D vwCl [(cI, .int)] s) (hDT : ∀ (φ2 : M2), va_D (fun _ => True) (tbW cI a φ2)) (hF : G_X6_byteAt φ p1 = some r0) (hsz : ls.size = nL) (hW : (rest.map fun v => v.category).sum ≤ 8) (hdg : decode cc pc = .ok (.invokevirtual idx, 3)) (kk : W p l e R s m args below meth c H locs cells slots Q (F0 m (pc + 3) ls (.int r0 :: rest))) : W p l e R s m args below meth c H locs cells slots Q (F0 m pc ls (.int p1 :: .ref (a 0) :: rest)) :=
  fm_runV (n := 1) (C := RX6) (As := [.int p1]) S (c_X6_byteAt l D cI a φ p1 r0 hF) (T_pre (q0 := 0) (ci := 4) hK hP (hDT _) rfl rfl) h1 aI_X6_byteAt aV_X6_byteAt aN_RX6 aC_X6_byteAt rfl rfl (by decide +kernel) rfl hR hc hsz hW hdg (fun r hr => by subst hr; exact kk)
set_option maxHeartbeats 4000000 in
set_option maxRecDepth 100000 in
theorem c_X6_put (l : Launch) (D : va_G) (cI : ClassId) (a : Nat → Nat) (φ : M2) (p1 : Int32) (r0 : Int32) (φr : M2) (hF : G_X6_put φ p1 = some (r0, φr)) : Met l yX6_put (wsA yX6_put cX6_put 2 (some .int)) { frames := 0, cells := 0, slots := 0, locals := 0 } (va_Pc [.ref (a 0), .int p1] (tbP D cI a φ)) (va_Qi (fun (r : Int32) (_ : Unit) => r = r0) (fun _ t => va_P D vwCl (tbW cI a φr) t.heap) (tbA a)) 0 0 (tbA a) := by
  refine Met.ofW (cc := cX6_put) (maxL := 2) (ret := (some .int)) (by decide) rfl ?_
  intro p e s m args below meth c s₁ B hml hpre
  obtain ⟨rfl, hP, hK, hD0⟩ := hpre
  have hx := B.exec
  have hb := B.bytes
  have hr := B.returns
  have hA : ∀ w ∈ AW, w.before _ s = true := fun w h => atoms_spec (ws := wsA yX6_put cX6_put 2 (some .int)) B.pre w (List.mem_cons_of_mem _ h)
  have hown : s.vm.findClass RX6 = some m.cls := findClass_of_methodNamed B.named
  have hlocks := B.notSynchronized
  have hDT := T_dT hD0
  have hDA := T_dA hD0
  have hS : va_S (tbA a) s.heap s.heap [] := va_S.rf
  have S : CallFix p m c cX6_put 2 s ([.ref (a 0), .int p1] : List Value).toArray AW RX6 := ⟨hx, hb, hml, hown, hA⟩
  have hl := lv_entry ([.ref (a 0), .int p1]) (n := 2) (Nat.le_of_ble_eq_true rfl)
  rw [lg_entry_eq]
  generalize (lg_sl ([.ref (a 0), .int p1]) ++ List.replicate (2 - (lg_sl ([.ref (a 0), .int p1])).length) Slot.unset).toArray = ls at hl ⊢
  have hl : lv_has ls 2 [(0, .ref (a 0)), (1, .int p1)] := hl
  have h := hF
  unfold G_X6_put at h
  refine lv_aload_n hx hb dX6_put_0 rfl (lv_at hl 0 rfl) ?_
  refine T_g0_1 hx hb hA hown aF_RX6_15 hK hP dX6_put_1 ?_
  refine lv_if_lt (tgt := 39) hx hb dX6_put_4 (by decide) (fun hc => ?_) (fun hc => ?_)
  · replace h := oi_t hc h
    refine lv_aload_n hx hb dX6_put_39 rfl (lv_at hl 0 rfl) ?_
    refine T_g0_1 hx hb hA hown aF_RX6_15 hK hP dX6_put_40 ?_
    obtain ⟨rfl, rfl⟩ := os2 h
    exact W.iret (v := (φ 0 1)) hx hb hr (fun t ht hW => ⟨⟨_, (), rfl, rfl, by show va_P _ _ _ t.heap; rw [ht]; exact hP⟩, hS.F ht⟩) hS.2.2 dX6_put_43
  · replace h := oi_f hc h
    refine lv_aload_n hx hb dX6_put_7 rfl (lv_at hl 0 rfl) ?_
    refine T_g0_1 hx hb hA hown aF_RX6_15 hK hP dX6_put_8 ?_
    refine lv_aload_n hx hb dX6_put_11 rfl (lv_at hl 0 rfl) ?_
    refine T_g0_0 hx hb hA hown aF_RX6_9 hK hP dX6_put_12 ?_
    refine T_ln1 hx hb hK hP dX6_put_15 ?_
    refine lv_icmp_ge (tgt := 39) hx hb dX6_put_16 (by decide) (fun hc => ?_) (fun hc => ?_)
    · replace h := oi_t hc h
      refine lv_aload_n hx hb dX6_put_39 rfl (lv_at hl 0 rfl) ?_
      refine T_g0_1 hx hb hA hown aF_RX6_15 hK hP dX6_put_40 ?_
      obtain ⟨rfl, rfl⟩ := os2 h
      exact W.iret (v := (φ 0 1)) hx hb hr (fun t ht hW => ⟨⟨_, (), rfl, rfl, by show va_P _ _ _ t.heap; rw [ht]; exact hP⟩, hS.F ht⟩) hS.2.2 dX6_put_43
    · replace h := oi_f hc h
      refine lv_aload_n hx hb dX6_put_19 rfl (lv_at hl 0 rfl) ?_
      refine T_g0_0 hx hb hA hown aF_RX6_9 hK hP dX6_put_20 ?_
      refine lv_aload_n hx hb dX6_put_23 rfl (lv_at hl 0 rfl) ?_
      refine T_g0_1 hx hb hA hown aF_RX6_15 hK hP dX6_put_24 ?_
      refine lv_iload_n hx hb dX6_put_27 rfl (lv_at hl 1 rfl) ?_
      obtain ⟨i1, h⟩ := oin_e h
      refine T_st1 hx hb hK hP (hDA _) hS i1 dX6_put_28 (fun w2 H locs ew2 hP hS => ?_)
      replace h := olet_s ew2 h
      refine lv_aload_n hx hb dX6_put_29 rfl (lv_at hl 0 rfl) ?_
      refine lv_dup hx hb dX6_put_30 rfl ?_
      refine T_g0_1 hx hb hA hown aF_RX6_15 hK hP dX6_put_31 ?_
      refine lv_iconst (v := 1) hx hb dX6_put_34 (by decide) ?_
      refine lv_iadd hx hb dX6_put_35 ?_
      refine T_p0_1 hx hb hA hown aF_RX6_15 hK hP (hDA _) hS dX6_put_36 (fun w3 H locs ew3 hP hS => ?_)
      replace h := olet_s ew3 h
      refine lv_aload_n hx hb dX6_put_39 rfl (lv_at hl 0 rfl) ?_
      refine T_g0_1 hx hb hA hown aF_RX6_15 hK hP dX6_put_40 ?_
      obtain ⟨rfl, rfl⟩ := os2 h
      exact W.iret (v := (w3 0 1)) hx hb hr (fun t ht hW => ⟨⟨_, (), rfl, rfl, by show va_P _ _ _ t.heap; rw [ht]; exact hP⟩, hS.F ht⟩) hS.2.2 dX6_put_43
theorem k_X6_put {p : Program} {l : Launch} {e : Env} {R : Room} {s : State} {m : MethodId} {args : Array Value} {below : List Frame} {meth : Method} {c : Code} {H : Heap} {locs : List Loc} {cells slots : Nat} {Q : State → Prop} {cc : ByteArray} {pc nL idx : Nat} {ls : Array Slot} {rest : List Value} {own : String} {D : va_G} {cI : ClassId} {a : Nat → Nat} {H0 : Heap} {φ : M2} {p1 : Int32} {r0 : Int32} {φr : M2} (S : CallFix p m c cc nL s args AW own) (h1 : Cond.methodLink own idx yX6_put ∈ AW) (hR : 0 + 1 ≤ R.frames ∧ 8 + (2 + 11) + 0 ≤ R.locals) (hc : cells ≤ R.cells ∧ slots ≤ R.slots) (hP : va_P D vwCl (tbW cI a φ) H) (hK : va_K D vwCl [(cI, .int)] s) (hDT : ∀ (φ2 : M2), va_D (fun _ => True) (tbW cI a φ2)) (hS : va_S (tbA a) H0 H locs) (hF : G_X6_put φ p1 = some (r0, φr)) (hsz : ls.size = nL) (hW : (rest.map fun v => v.category).sum ≤ 8) (hdg : decode cc pc = .ok (.invokevirtual idx, 3)) (kk : ∀ (H1 : Heap) (locs1 : List Loc), va_P D vwCl (tbW cI a φr) H1 → va_S (tbA a) H0 H1 locs1 → W p l e R s m args below meth c H1 locs1 cells slots Q (F0 m (pc + 3) ls (.int r0 :: rest))) : W p l e R s m args below meth c H locs cells slots Q (F0 m pc ls (.int p1 :: .ref (a 0) :: rest)) :=
  fm_runVi (n := 1) (C := RX6) (As := [.int p1]) S (c_X6_put l D cI a φ p1 r0 φr hF) (T_pre (q0 := 0) (ci := 4) hK hP (hDT _) rfl rfl) hS h1 aI_X6_put aV_X6_put aN_RX6 aC_X6_put rfl rfl (by decide +kernel) rfl hR hc hsz hW hdg (fun r H1 locs1 hr hP1 hS1 => by subst hr; exact kk H1 locs1 hP1 hS1)
set_option maxHeartbeats 4000000 in
set_option maxRecDepth 100000 in
theorem c_X6_empty (l : Launch) (D : va_G) (cI : ClassId) (a : Nat → Nat) (φ : M2) (r0 : Int32) (φr : M2) (hF : G_X6_empty φ = some (r0, φr)) : Met l yX6_empty (wsA yX6_empty cX6_empty 2 (some .int)) { frames := 0, cells := 0, slots := 0, locals := 0 } (va_Pc [.ref (a 0)] (tbP D cI a φ)) (va_Qi (fun (r : Int32) (_ : Unit) => r = r0) (fun _ t => va_P D vwCl (tbW cI a φr) t.heap) (tbA a)) 0 0 (tbA a) := by
  refine Met.ofW (cc := cX6_empty) (maxL := 2) (ret := (some .int)) (by decide) rfl ?_
  intro p e s m args below meth c s₁ B hml hpre
  obtain ⟨rfl, hP, hK, hD0⟩ := hpre
  have hx := B.exec
  have hb := B.bytes
  have hr := B.returns
  have hA : ∀ w ∈ AW, w.before _ s = true := fun w h => atoms_spec (ws := wsA yX6_empty cX6_empty 2 (some .int)) B.pre w (List.mem_cons_of_mem _ h)
  have hown : s.vm.findClass RX6 = some m.cls := findClass_of_methodNamed B.named
  have hlocks := B.notSynchronized
  have hDT := T_dT hD0
  have hDA := T_dA hD0
  have hS : va_S (tbA a) s.heap s.heap [] := va_S.rf
  have S : CallFix p m c cX6_empty 2 s ([.ref (a 0)] : List Value).toArray AW RX6 := ⟨hx, hb, hml, hown, hA⟩
  have hl := lv_entry ([.ref (a 0)]) (n := 2) (Nat.le_of_ble_eq_true rfl)
  rw [lg_entry_eq]
  generalize (lg_sl ([.ref (a 0)]) ++ List.replicate (2 - (lg_sl ([.ref (a 0)])).length) Slot.unset).toArray = ls at hl ⊢
  have hl : lv_has ls 2 [(0, .ref (a 0))] := hl
  have h := hF
  unfold G_X6_empty at h
  refine lv_aload_n hx hb dX6_empty_0 rfl (lv_at hl 0 rfl) ?_
  refine T_g0_1 hx hb hA hown aF_RX6_15 hK hP dX6_empty_1 ?_
  refine lv_topi (fun x1 ex1 => ?_)
  replace h := olet_s ex1 h
  refine lv_istore_n (lv' := [(1, .int x1), (0, .ref (a 0))]) hx hb dX6_empty_4 rfl hl (by decide) rfl (fun ls hl => ?_)
  refine lv_aload_n hx hb dX6_empty_5 rfl (lv_at hl 1 rfl) ?_
  refine lv_iconst (v := 0) hx hb dX6_empty_6 (by decide) ?_
  refine T_p0_1 hx hb hA hown aF_RX6_15 hK hP (hDA _) hS dX6_empty_7 (fun w2 H locs ew2 hP hS => ?_)
  replace h := olet_s ew2 h
  refine lv_iload_n hx hb dX6_empty_10 rfl (lv_at hl 0 rfl) ?_
  obtain ⟨rfl, rfl⟩ := os2 h
  exact W.iret (v := x1) hx hb hr (fun t ht hW => ⟨⟨_, (), rfl, rfl, by show va_P _ _ _ t.heap; rw [ht]; exact hP⟩, hS.F ht⟩) hS.2.2 dX6_empty_11
theorem k_X6_empty {p : Program} {l : Launch} {e : Env} {R : Room} {s : State} {m : MethodId} {args : Array Value} {below : List Frame} {meth : Method} {c : Code} {H : Heap} {locs : List Loc} {cells slots : Nat} {Q : State → Prop} {cc : ByteArray} {pc nL idx : Nat} {ls : Array Slot} {rest : List Value} {own : String} {D : va_G} {cI : ClassId} {a : Nat → Nat} {H0 : Heap} {φ : M2} {r0 : Int32} {φr : M2} (S : CallFix p m c cc nL s args AW own) (h1 : Cond.methodLink own idx yX6_empty ∈ AW) (hR : 0 + 1 ≤ R.frames ∧ 8 + (2 + 11) + 0 ≤ R.locals) (hc : cells ≤ R.cells ∧ slots ≤ R.slots) (hP : va_P D vwCl (tbW cI a φ) H) (hK : va_K D vwCl [(cI, .int)] s) (hDT : ∀ (φ2 : M2), va_D (fun _ => True) (tbW cI a φ2)) (hS : va_S (tbA a) H0 H locs) (hF : G_X6_empty φ = some (r0, φr)) (hsz : ls.size = nL) (hW : (rest.map fun v => v.category).sum ≤ 8) (hdg : decode cc pc = .ok (.invokevirtual idx, 3)) (kk : ∀ (H1 : Heap) (locs1 : List Loc), va_P D vwCl (tbW cI a φr) H1 → va_S (tbA a) H0 H1 locs1 → W p l e R s m args below meth c H1 locs1 cells slots Q (F0 m (pc + 3) ls (.int r0 :: rest))) : W p l e R s m args below meth c H locs cells slots Q (F0 m pc ls (.ref (a 0) :: rest)) :=
  fm_runVi (n := 0) (C := RX6) (As := []) S (c_X6_empty l D cI a φ r0 φr hF) (T_pre (q0 := 0) (ci := 4) hK hP (hDT _) rfl rfl) hS h1 aI_X6_empty aV_X6_empty aN_RX6 aC_X6_empty rfl rfl (by decide +kernel) rfl hR hc hsz hW hdg (fun r H1 locs1 hr hP1 hS1 => by subst hr; exact kk H1 locs1 hP1 hS1)
set_option maxHeartbeats 4000000 in
set_option maxRecDepth 100000 in
theorem c_X6_errorPosition (l : Launch) (D : va_G) (cI : ClassId) (a : Nat → Nat) (N : Nat) (φ : M2) (r0 : Int32) (hF : G_X6_errorPosition N φ = some r0) : Met l yX6_errorPosition (wsA yX6_errorPosition cX6_errorPosition 3 (some .int)) { frames := 2, cells := 0, slots := 0, locals := 41 } (va_Pc [.ref (a 0)] (tbP D cI a φ)) (vp_Si (fun r => r = r0)) 0 0 (fun _ => False) := by
  refine Met.ofW (cc := cX6_errorPosition) (maxL := 3) (ret := (some .int)) (by decide) rfl ?_
  intro p e s m args below meth c s₁ B hml hpre
  obtain ⟨rfl, hP, hK, hD0⟩ := hpre
  have hx := B.exec
  have hb := B.bytes
  have hr := B.returns
  have hA : ∀ w ∈ AW, w.before _ s = true := fun w h => atoms_spec (ws := wsA yX6_errorPosition cX6_errorPosition 3 (some .int)) B.pre w (List.mem_cons_of_mem _ h)
  have hown : s.vm.findClass RX6 = some m.cls := findClass_of_methodNamed B.named
  have hlocks := B.notSynchronized
  have hDT := T_dT hD0
  have S : CallFix p m c cX6_errorPosition 3 s ([.ref (a 0)] : List Value).toArray AW RX6 := ⟨hx, hb, hml, hown, hA⟩
  have hl := lv_entry ([.ref (a 0)]) (n := 3) (Nat.le_of_ble_eq_true rfl)
  rw [lg_entry_eq]
  generalize (lg_sl ([.ref (a 0)]) ++ List.replicate (3 - (lg_sl ([.ref (a 0)])).length) Slot.unset).toArray = ls at hl ⊢
  have hl : lv_has ls 3 [(0, .ref (a 0))] := hl
  have hL4 : ∀ (k : Nat) (v1 : Int32) (v2 : Int32) (ls : Array Slot) , L_X6_errorPosition_4 N φ k v1 v2 = some r0 → lv_has ls 3 [(0, .ref (a 0)), (1, .int v1), (2, .int v2)] → W p l e (headSpec (wsA yX6_errorPosition cX6_errorPosition 3 (some .int)) { frames := 2, cells := 0, slots := 0, locals := 41 }).room s m ([.ref (a 0)] : List Value).toArray below meth c s.heap [] 0 0 (MQ below (vp_Si (fun r => r = r0)) ([.ref (a 0)] : List Value).toArray s 0 0 (fun _ => False)) (F0 m 4 ls []) := by
    intro k
    induction k with
    | zero =>
      intro v1 v2 ls h hl
      exact no_s h
    | succ k ih =>
      intro v1 v2 ls h hl
      replace h : B_X6_errorPosition_4 N φ (L_X6_errorPosition_4 N φ k) v1 v2 = some r0 := h
      unfold B_X6_errorPosition_4 at h
      refine lv_iload_n hx hb dX6_errorPosition_4 rfl (lv_at hl 2 rfl) ?_
      refine lv_aload_n hx hb dX6_errorPosition_5 rfl (lv_at hl 0 rfl) ?_
      refine T_g0_1 hx hb hA hown aF_RX6_15 hK hP dX6_errorPosition_6 ?_
      refine lv_icmp_ge (tgt := 35) hx hb dX6_errorPosition_9 (by decide) (fun hc => ?_) (fun hc => ?_)
      · replace h := oi_t hc h
        refine lv_iload_n hx hb dX6_errorPosition_35 rfl (lv_at hl 1 rfl) ?_
        refine lv_if_ne (tgt := 43) hx hb dX6_errorPosition_36 (by decide) (fun hc => ?_) (fun hc => ?_)
        · replace h := oi_f hc h
          refine lv_aload_n hx hb dX6_errorPosition_43 rfl (lv_at hl 0 rfl) ?_
          refine T_g0_1 hx hb hA hown aF_RX6_15 hK hP dX6_errorPosition_44 ?_
          obtain rfl := os1 h
          exact W.iret (v := (φ 0 1)) hx hb hr (fun t ht hW => ⟨_, rfl, rfl, ht⟩) (fun q hq => absurd hq List.not_mem_nil) dX6_errorPosition_47
        · replace h := oi_t hc h
          refine lv_iconst (v := (-1)) hx hb dX6_errorPosition_39 (by decide) ?_
          refine lv_goto (tgt := 47) hx hb dX6_errorPosition_40 (by decide) ?_
          obtain rfl := os1 h
          exact W.iret (v := (-1)) hx hb hr (fun t ht hW => ⟨_, rfl, rfl, ht⟩) (fun q hq => absurd hq List.not_mem_nil) dX6_errorPosition_47
      · replace h := oi_f hc h
        refine lv_iload_n hx hb dX6_errorPosition_12 rfl (lv_at hl 1 rfl) ?_
        refine lv_aload_n hx hb dX6_errorPosition_13 rfl (lv_at hl 0 rfl) ?_
        refine lv_iload_n hx hb dX6_errorPosition_14 rfl (lv_at hl 2 rfl) ?_
        obtain ⟨r1, h2, h⟩ := obd_e h
        refine k_X6_byteAt S aM_RX6_19 ⟨Nat.le_of_ble_eq_true rfl, Nat.le_of_ble_eq_true rfl⟩ ⟨Nat.zero_le _, Nat.zero_le _⟩ hP hK hDT h2 hl.1 (Nat.le_of_ble_eq_true rfl) dX6_errorPosition_15 ?_
        refine k_X6_stateAfter S aM_RX6_23 ⟨Nat.le_of_ble_eq_true rfl, Nat.le_of_ble_eq_true rfl⟩ ⟨Nat.zero_le _, Nat.zero_le _⟩ hl.1 (Nat.le_of_ble_eq_true rfl) dX6_errorPosition_18 (fun r3 er3 => ?_)
        replace h := olet_s er3 h
        refine lv_istore_n (lv' := [(1, .int r3), (0, .ref (a 0)), (2, .int v2)]) hx hb dX6_errorPosition_21 rfl hl (by decide) rfl (fun ls hl => ?_)
        refine lv_iload_n hx hb dX6_errorPosition_22 rfl (lv_at hl 0 rfl) ?_
        refine lv_iconst (v := (-1)) hx hb dX6_errorPosition_23 (by decide) ?_
        refine lv_icmp_ne (tgt := 29) hx hb dX6_errorPosition_24 (by decide) (fun hc => ?_) (fun hc => ?_)
        · replace h := oi_f hc h
          refine lv_iinc (v := v2 + 1) (lv' := [(2, .int (v2 + 1)), (1, .int r3), (0, .ref (a 0))]) hx hb dX6_errorPosition_29 hl (k := 2) rfl (fm_inc _ _ _ (by decide)) (by decide) rfl (fun ls hl => ?_)
          refine lv_goto (tgt := 4) hx hb dX6_errorPosition_32 (by decide) ?_
          exact ih _ _ _  h (lv_sub hl [2, 1, 0] rfl)
        · replace h := oi_t hc h
          refine lv_iload_n hx hb dX6_errorPosition_27 rfl (lv_at hl 2 rfl) ?_
          obtain rfl := os1 h
          exact W.iret (v := v2) hx hb hr (fun t ht hW => ⟨_, rfl, rfl, ht⟩) (fun q hq => absurd hq List.not_mem_nil) dX6_errorPosition_28
  have h := hF
  unfold G_X6_errorPosition at h
  refine lv_iconst (v := 0) hx hb dX6_errorPosition_0 (by decide) ?_
  refine lv_istore_n (lv' := [(1, .int 0), (0, .ref (a 0))]) hx hb dX6_errorPosition_1 rfl hl (by decide) rfl (fun ls hl => ?_)
  refine lv_iconst (v := 0) hx hb dX6_errorPosition_2 (by decide) ?_
  refine lv_istore_n (lv' := [(2, .int 0), (1, .int 0), (0, .ref (a 0))]) hx hb dX6_errorPosition_3 rfl hl (by decide) rfl (fun ls hl => ?_)
  exact hL4 N _ _ _ h (lv_sub hl [2, 1, 0] rfl)
theorem k_X6_errorPosition {p : Program} {l : Launch} {e : Env} {R : Room} {s : State} {m : MethodId} {args : Array Value} {below : List Frame} {meth : Method} {c : Code} {H : Heap} {locs : List Loc} {cells slots : Nat} {Q : State → Prop} {cc : ByteArray} {pc nL idx : Nat} {ls : Array Slot} {rest : List Value} {own : String} {D : va_G} {cI : ClassId} {a : Nat → Nat} {N : Nat} {φ : M2} {r0 : Int32} (S : CallFix p m c cc nL s args AW own) (h1 : Cond.methodLink own idx yX6_errorPosition ∈ AW) (hR : 2 + 1 ≤ R.frames ∧ 8 + (3 + 11) + 41 ≤ R.locals) (hc : cells ≤ R.cells ∧ slots ≤ R.slots) (hP : va_P D vwCl (tbW cI a φ) H) (hK : va_K D vwCl [(cI, .int)] s) (hDT : ∀ (φ2 : M2), va_D (fun _ => True) (tbW cI a φ2)) (hF : G_X6_errorPosition N φ = some r0) (hsz : ls.size = nL) (hW : (rest.map fun v => v.category).sum ≤ 8) (hdg : decode cc pc = .ok (.invokevirtual idx, 3)) (kk : W p l e R s m args below meth c H locs cells slots Q (F0 m (pc + 3) ls (.int r0 :: rest))) : W p l e R s m args below meth c H locs cells slots Q (F0 m pc ls (.ref (a 0) :: rest)) :=
  fm_runV (n := 0) (C := RX6) (As := []) S (c_X6_errorPosition l D cI a N φ r0 hF) (T_pre (q0 := 0) (ci := 4) hK hP (hDT _) rfl rfl) h1 aI_X6_errorPosition aV_X6_errorPosition aN_RX6 aC_X6_errorPosition rfl rfl (by decide +kernel) rfl hR hc hsz hW hdg (fun r hr => by subst hr; exact kk)
