/-! History -/
section FX
variable {p : Program} {l : Launch} {e : Env} {R : Room} {s : State} {m : MethodId} {args : Array Value} {below : List Frame} {meth : Method} {c : Code} {H : Heap} {locs : List Loc} {cells slots : Nat} {Q : State → Prop}
variable {cc bytes : ByteArray} {pc maxL nL n idx : Nat} {ls : Array Slot} {rest st0 As : List Value} {aa : Array Value} {own C : String} {y : MethodName} {ret : Option FieldType} {rm : Room} {b : Addr} {Pc : Array Value → State → Prop} {H0 : Heap} {A0 A1 : Nat → Prop} {D : va_G} {ws' : va_W}
theorem fm_csV {v : Value} (hr : va_Run p l e R s m args below meth c H locs cells slots 0 0 (F0 m pc ls st0) rest (k2_QcV v aa) (fun _ => False)) (kk : W p l e R s m args below meth c H locs cells slots Q (F0 m (pc + 3) ls (v :: rest))) : W p l e R s m args below meth c H locs cells slots Q (F0 m pc ls st0) := by
  intro T hT X
  obtain ⟨v, st₀, t, T', L, h0, X', hL, e1, e2, ⟨hv, hh⟩, st⟩ := hr T hT X
  cases hv
  obtain ⟨t2, a1, b1⟩ := kk T' (by rw [e1, hh, h0]) (Stand.forget X' (fun q h => (hL q h).elim))
  exact ⟨t2, st t2 a1, b1⟩
/-- a method of an object that answers a value and writes nothing -/
theorem fx_runVal {v : Value} (S : CallFix p m c cc nL s args AW own) (hM : Met l y (wsA y bytes maxL ret) rm Pc (k2_QcV v) 0 0 (fun _ => False)) (hp : PreV s H C b Pc As)
    (h1 : Cond.methodLink own idx y ∈ AW) (h2 : Cond.instanceMethod y ∈ AW) (h3 : Cond.selects C y y ∈ AW) (h4 : Cond.initialized C ∈ AW) (h5 : Cond.code y bytes maxL ret ∈ AW) (hrc : rm.cells = 0) (hrs : rm.slots = 0)
    (hd : y.cls = C ∧ y.cls ≠ "java/lang/invoke/MethodHandle" ∧ y.cls ≠ "java/lang/invoke/VarHandle" ∧ (parseMethodDescriptor y.desc).map (fun d => d.parameters.length) = some n) (hn : As.length = n)
    (hR : rm.frames + 1 ≤ R.frames ∧ 8 + (maxL + 11) + rm.locals ≤ R.locals) (hc : cells ≤ R.cells ∧ slots ≤ R.slots) (hsz : ls.size = nL) (hW : (rest.map fun v => v.category).sum ≤ 8) (hdg : decode cc pc = .ok (.invokevirtual idx, 3))
    (kk : W p l e R s m args below meth c H locs cells slots Q (F0 m (pc + 3) ls (v :: rest))) : W p l e R s m args below meth c H locs cells slots Q (F0 m pc ls (As.reverse ++ .ref b :: rest)) :=
  fm_csV (va_runV (As := As) (rest := rest) S hM (cwV n S.2.2.2.2 (gV h1 h2 h3 h4 h5) rfl hrc hrs hd hR) hp rfl hn hsz rfl (lv_room hW) hdg ⟨hc.1, hc.2⟩) kk
/-- a method of a part of the world, with an int behind it: what it may write is a part of what the caller may -/
theorem fx_runVi {S0 : Type} {post : Int32 → S0 → Prop} {B : S0 → State → Prop} (S : CallFix p m c cc nL s args AW own) (hM : Met l y (wsA y bytes maxL ret) rm Pc (va_Qi post B A1) 0 0 A1) (hp : PreV s H C b Pc As) (hS : va_S A0 H0 H locs) (hA : ∀ q, A1 q → A0 q)
    (h1 : Cond.methodLink own idx y ∈ AW) (h2 : Cond.instanceMethod y ∈ AW) (h3 : Cond.selects C y y ∈ AW) (h4 : Cond.initialized C ∈ AW) (h5 : Cond.code y bytes maxL ret ∈ AW) (hrc : rm.cells = 0) (hrs : rm.slots = 0)
    (hd : y.cls = C ∧ y.cls ≠ "java/lang/invoke/MethodHandle" ∧ y.cls ≠ "java/lang/invoke/VarHandle" ∧ (parseMethodDescriptor y.desc).map (fun d => d.parameters.length) = some n) (hn : As.length = n)
    (hR : rm.frames + 1 ≤ R.frames ∧ 8 + (maxL + 11) + rm.locals ≤ R.locals) (hc : cells ≤ R.cells ∧ slots ≤ R.slots) (hsz : ls.size = nL) (hW : (rest.map fun v => v.category).sum ≤ 8) (hdg : decode cc pc = .ok (.invokevirtual idx, 3))
    (kk : ∀ (r : Int32) (u : S0) (t : State) (H1 : Heap) (locs1 : List Loc), t.heap = H1 → post r u → B u t → (∀ q : Nat, q < H.size → ¬ A1 q → H1[q]? = H[q]?) → H.size ≤ H1.size → va_S A0 H0 H1 locs1 → W p l e R s m args below meth c H1 locs1 cells slots Q (F0 m (pc + 3) ls (.int r :: rest))) : W p l e R s m args below meth c H locs cells slots Q (F0 m pc ls (As.reverse ++ .ref b :: rest)) :=
  va_calli (va_runV (As := As) (rest := rest) S hM (cwV n S.2.2.2.2 (gV h1 h2 h3 h4 h5) rfl hrc hrs hd hR) hp rfl hn hsz rfl (lv_room hW) hdg ⟨hc.1, hc.2⟩) hS (fun q _ h => hA q h) (fun q h => hA q h) (fun r u t H1 locs1 ht _ hp hB hz hk hS1 => kk r u t H1 locs1 ht hp hB hk hz hS1)
theorem fx_runVv {S0 : Type} {post : S0 → Prop} {B : S0 → State → Prop} (S : CallFix p m c cc nL s args AW own) (hM : Met l y (wsA y bytes maxL ret) rm Pc (va_Qv post B A1) 0 0 A1) (hp : PreV s H C b Pc As) (hS : va_S A0 H0 H locs) (hA : ∀ q, A1 q → A0 q)
    (h1 : Cond.methodLink own idx y ∈ AW) (h2 : Cond.instanceMethod y ∈ AW) (h3 : Cond.selects C y y ∈ AW) (h4 : Cond.initialized C ∈ AW) (h5 : Cond.code y bytes maxL ret ∈ AW) (hrc : rm.cells = 0) (hrs : rm.slots = 0)
    (hd : y.cls = C ∧ y.cls ≠ "java/lang/invoke/MethodHandle" ∧ y.cls ≠ "java/lang/invoke/VarHandle" ∧ (parseMethodDescriptor y.desc).map (fun d => d.parameters.length) = some n) (hn : As.length = n)
    (hR : rm.frames + 1 ≤ R.frames ∧ 8 + (maxL + 11) + rm.locals ≤ R.locals) (hc : cells ≤ R.cells ∧ slots ≤ R.slots) (hsz : ls.size = nL) (hW : (rest.map fun v => v.category).sum ≤ 8) (hdg : decode cc pc = .ok (.invokevirtual idx, 3))
    (kk : ∀ (u : S0) (t : State) (H1 : Heap) (locs1 : List Loc), t.heap = H1 → post u → B u t → (∀ q : Nat, q < H.size → ¬ A1 q → H1[q]? = H[q]?) → H.size ≤ H1.size → va_S A0 H0 H1 locs1 → W p l e R s m args below meth c H1 locs1 cells slots Q (F0 m (pc + 3) ls rest)) : W p l e R s m args below meth c H locs cells slots Q (F0 m pc ls (As.reverse ++ .ref b :: rest)) :=
  va_callv (va_runV (As := As) (rest := rest) S hM (cwV n S.2.2.2.2 (gV h1 h2 h3 h4 h5) rfl hrc hrs hd hR) hp rfl hn hsz rfl (lv_room hW) hdg ⟨hc.1, hc.2⟩) hS (fun q _ h => hA q h) (fun q h => hA q h) (fun u t H1 locs1 ht _ hp hB hz hk hS1 => kk u t H1 locs1 ht hp hB hk hz hS1)
end FX
def xH (D : va_G) (cI cF : ClassId) (b : Bf) (u0 u1 : M2) (η : HT) (τ : M2) (U : State) : Prop := va_P D vwCl (xW cI cF b u0 u1 η τ) U.heap ∧ va_K D vwCl (xTy cI cF) U ∧ va_D (fun _ => True) (xW cI cF b u0 u1 η τ)
theorem xH_pre {D : va_G} {cI cF : ClassId} {b : Bf} {u0 u1 : M2} {η : HT} {τ : M2} {s : State} {H : Heap} {As : List Value} (hK : va_K D vwCl (xTy cI cF) s) (hP : va_P D vwCl (xW cI cF b u0 u1 η τ) H) (hD : va_D (fun _ => True) (xW cI cF b u0 u1 η τ)) {q0 ci : Nat} {q : vw_C} {o : Nat} {fs : List Value} (hc : vwCl[ci]? = some q) (he : (xW cI cF b u0 u1 η τ)[q0]? = some (o, .inr (ci, fs))) : PreV s H q.1 o (va_Pc (.ref o :: As) (xH D cI cF b u0 u1 η τ)) As :=
  ⟨fun _ U _ _ q => ⟨q.1, q.2.1, va_K.moved (Vm.Alike.refl U.vm) q.2.2.1, q.2.2.2⟩, va_recv hK hP hc he, fun U hU hW => ⟨rfl, by rw [hU]; exact hP, va_K.moved hW.alike hK, hD⟩⟩
theorem ti0 : (0 : Int32).toNatClampNeg = 0 := by decide
theorem ti1 : (1 : Int32).toNatClampNeg = 1 := by decide
theorem ti2 : (2 : Int32).toNatClampNeg = 2 := by decide
theorem ti3 : (3 : Int32).toNatClampNeg = 3 := by decide
theorem xA_D {cI cF : ClassId} {b : Bf} {u0 u1 : M2} {η : HT} {τ : M2} (h : va_D (fun _ => True) (xW cI cF b u0 u1 η τ)) : va_D (xA b) (xW cI cF b u0 u1 η τ) := fm_DA h (fun q hq => hq)
def xRot (b : Bf) : Bf := fun i => if i = 2 then b 3 else if i = 3 then b 4 else if i = 4 then b 5 else if i = 5 then b 2 else b i
def eRot (e : Nat → M2) : Nat → M2 := fun j => if j = 0 then e 1 else if j = 1 then e 2 else if j = 2 then e 3 else e 0
def xWf (cI cF : ClassId) (b : Bf) (f : Nat → Option Nat) (u0 u1 : M2) (η : HT) (τ : M2) : va_W := [(b 6 0, .inr (6, [.ref (b 0 0), .ref (b 1 0), .ref (b 6 1), .ref (b 7 0)])), (b 6 1, .inr (1, [.ref (b 6 2), .int η.2])), (b 6 2, .inl (cF, 4, .inr (.inr (.inr (.inr f)))))] ++ (tbW cI (b 7) τ ++ (fbW cI (b 0) u0 ++ (fbW cI (b 1) u1 ++ (fbW cI (b 2) (η.1 0) ++ (fbW cI (b 3) (η.1 1) ++ (fbW cI (b 4) (η.1 2) ++ fbW cI (b 5) (η.1 3)))))))
theorem xRow {D : va_G} {a n : Nat} {cF : ClassId} {f g : Nat → Option Nat} {H : Heap} (h : va_at D vwCl (a, .inl (cF, n, .inr (.inr (.inr (.inr f))))) H) (e : ∀ j, j < n → f j = g j) : va_at D vwCl (a, .inl (cF, n, .inr (.inr (.inr (.inr g))))) H := by
  have h : H[a]? = some (arrV cF n (fun j => va_rf (f j))) := h
  show H[a]? = some (arrV cF n (fun j => va_rf (g j)))
  rw [h]
  have : (Array.ofFn (n := n) fun j => va_rf (f j.val)) = (Array.ofFn (n := n) fun j => va_rf (g j.val)) := congrArg Array.ofFn (funext fun j => by rw [e j.val j.isLt])
  unfold arrV
  rw [this]
set_option maxHeartbeats 4000000 in
set_option maxRecDepth 100000 in
theorem c_X3_size (l : Launch) (D : va_G) (cI cF : ClassId) (b : Bf) (u0 u1 : M2) (η : HT) (τ : M2) : Met l yX3_size (wsA yX3_size cX3_size 1 (some .int)) { frames := 0, cells := 0, slots := 0, locals := 0 } (va_Pc [.ref (b 6 1)] (xH D cI cF b u0 u1 η τ)) (vp_Si (fun r => r = η.2)) 0 0 (fun _ => False) := by
  refine Met.ofW (cc := cX3_size) (maxL := 1) (ret := (some .int)) (by decide) rfl ?_
  intro p e s m args below meth c s₁ B hml hpre
  obtain ⟨rfl, hP, hK, hD0⟩ := hpre
  have hx := B.exec
  have hb := B.bytes
  have hr := B.returns
  have hA : ∀ w ∈ AW, w.before _ s = true := fun w h => atoms_spec (ws := wsA yX3_size cX3_size 1 (some .int)) B.pre w (List.mem_cons_of_mem _ h)
  have hown : s.vm.findClass RX3 = some m.cls := findClass_of_methodNamed B.named
  have hlocks := B.notSynchronized
  have hDT := X_D hD0
  have S : CallFix p m c cX3_size 1 s ([.ref (b 6 1)] : List Value).toArray AW RX3 := ⟨hx, hb, hml, hown, hA⟩
  have hl := lv_entry ([.ref (b 6 1)]) (n := 1) (Nat.le_of_ble_eq_true rfl)
  rw [lg_entry_eq]
  generalize (lg_sl ([.ref (b 6 1)]) ++ List.replicate (1 - (lg_sl ([.ref (b 6 1)])).length) Slot.unset).toArray = ls at hl ⊢
  have hl : lv_has ls 1 [(0, .ref (b 6 1))] := hl
  refine lv_aload_n hx hb dX3_size_0 rfl (lv_at hl 0 rfl) ?_
  refine va_get (D := D) (ci := 1) (v := .int η.2) (C := RX3) (T := TX3) (N := 2) hx hb hA in_wsX30 hown hK hP 1 rfl rfl 1 (by decide) (hA _ aF_RX3_18) (fun _ h => h) rfl dX3_size_1 ?_
  exact W.iret (v := η.2) hx hb hr (fun t ht hW => ⟨_, rfl, rfl, ht⟩) (fun q hq => absurd hq List.not_mem_nil) dX3_size_4
set_option maxHeartbeats 4000000 in
set_option maxRecDepth 100000 in
theorem c_X3_stateAt_0 (l : Launch) (D : va_G) (cI cF : ClassId) (b : Bf) (u0 u1 : M2) (η : HT) (τ : M2) : Met l yX3_stateAt (wsA yX3_stateAt cX3_stateAt 2 (some (.object "CuckooAudit$Filter"))) { frames := 0, cells := 0, slots := 0, locals := 0 } (va_Pc [.ref (b 6 1), .int 0] (xH D cI cF b u0 u1 η τ)) (k2_QcV (.ref (b 2 0))) 0 0 (fun _ => False) := by
  refine Met.ofW (cc := cX3_stateAt) (maxL := 2) (ret := (some (.object "CuckooAudit$Filter"))) (by decide) rfl ?_
  intro p e s m args below meth c s₁ B hml hpre
  obtain ⟨rfl, hP, hK, hD0⟩ := hpre
  have hx := B.exec
  have hb := B.bytes
  have hr := B.returns
  have hA : ∀ w ∈ AW, w.before _ s = true := fun w h => atoms_spec (ws := wsA yX3_stateAt cX3_stateAt 2 (some (.object "CuckooAudit$Filter"))) B.pre w (List.mem_cons_of_mem _ h)
  have hown : s.vm.findClass RX3 = some m.cls := findClass_of_methodNamed B.named
  have hlocks := B.notSynchronized
  have hDT := X_D hD0
  have S : CallFix p m c cX3_stateAt 2 s ([.ref (b 6 1), .int 0] : List Value).toArray AW RX3 := ⟨hx, hb, hml, hown, hA⟩
  have hl := lv_entry ([.ref (b 6 1), .int 0]) (n := 2) (Nat.le_of_ble_eq_true rfl)
  rw [lg_entry_eq]
  generalize (lg_sl ([.ref (b 6 1), .int 0]) ++ List.replicate (2 - (lg_sl ([.ref (b 6 1), .int 0])).length) Slot.unset).toArray = ls at hl ⊢
  have hl : lv_has ls 2 [(0, .ref (b 6 1)), (1, .int 0)] := hl
  refine lv_iload_n hx hb dX3_stateAt_0 rfl (lv_at hl 1 rfl) ?_
  refine lv_if_lt (tgt := 22) hx hb dX3_stateAt_1 (by decide) (fun hc => absurd hc (by decide)) (fun _ => ?_)
  refine lv_iload_n hx hb dX3_stateAt_4 rfl (lv_at hl 1 rfl) ?_
  refine lv_aload_n hx hb dX3_stateAt_5 rfl (lv_at hl 0 rfl) ?_
  refine va_get (D := D) (ci := 1) (v := .ref (b 6 2)) (C := RX3) (T := TX3) (N := 2) hx hb hA in_wsX30 hown hK hP 1 rfl rfl 0 (by decide) (hA _ aF_RX3_11) (fun _ h => h) rfl dX3_stateAt_6 ?_
  refine va_alen hx hb hK hP 2 1 rfl rfl (show Int32.ofNat 4 = 4 by decide) dX3_stateAt_9 ?_
  refine lv_icmp_ge (tgt := 22) hx hb dX3_stateAt_10 (by decide) (fun hc => absurd hc (by decide)) (fun _ => ?_)
  refine lv_aload_n hx hb dX3_stateAt_13 rfl (lv_at hl 0 rfl) ?_
  refine va_get (D := D) (ci := 1) (v := .ref (b 6 2)) (C := RX3) (T := TX3) (N := 2) hx hb hA in_wsX30 hown hK hP 1 rfl rfl 0 (by decide) (hA _ aF_RX3_11) (fun _ h => h) rfl dX3_stateAt_14 ?_
  refine lv_iload_n hx hb dX3_stateAt_17 rfl (lv_at hl 1 rfl) ?_
  refine va_aldq hx hb hK hP 2 1 rfl rfl (show ¬ ((0 : Int32) < 0 ∨ 4 ≤ (0 : Int32).toNatClampNeg) by decide) dX3_stateAt_18 ?_
  rw [ti0]
  refine lv_goto (tgt := 23) hx hb dX3_stateAt_19 (by decide) ?_
  exact W.aret (v := .ref (b 2 0)) hx hb hr (Or.inl ⟨_, rfl⟩) (Or.inr ⟨_, rfl⟩) (fun t ht hW => ⟨rfl, ht⟩) (fun q hq => absurd hq List.not_mem_nil) dX3_stateAt_23
set_option maxHeartbeats 4000000 in
set_option maxRecDepth 100000 in
theorem c_X3_stateAt_1 (l : Launch) (D : va_G) (cI cF : ClassId) (b : Bf) (u0 u1 : M2) (η : HT) (τ : M2) : Met l yX3_stateAt (wsA yX3_stateAt cX3_stateAt 2 (some (.object "CuckooAudit$Filter"))) { frames := 0, cells := 0, slots := 0, locals := 0 } (va_Pc [.ref (b 6 1), .int 1] (xH D cI cF b u0 u1 η τ)) (k2_QcV (.ref (b 3 0))) 0 0 (fun _ => False) := by
  refine Met.ofW (cc := cX3_stateAt) (maxL := 2) (ret := (some (.object "CuckooAudit$Filter"))) (by decide) rfl ?_
  intro p e s m args below meth c s₁ B hml hpre
  obtain ⟨rfl, hP, hK, hD0⟩ := hpre
  have hx := B.exec
  have hb := B.bytes
  have hr := B.returns
  have hA : ∀ w ∈ AW, w.before _ s = true := fun w h => atoms_spec (ws := wsA yX3_stateAt cX3_stateAt 2 (some (.object "CuckooAudit$Filter"))) B.pre w (List.mem_cons_of_mem _ h)
  have hown : s.vm.findClass RX3 = some m.cls := findClass_of_methodNamed B.named
  have hlocks := B.notSynchronized
  have hDT := X_D hD0
  have S : CallFix p m c cX3_stateAt 2 s ([.ref (b 6 1), .int 1] : List Value).toArray AW RX3 := ⟨hx, hb, hml, hown, hA⟩
  have hl := lv_entry ([.ref (b 6 1), .int 1]) (n := 2) (Nat.le_of_ble_eq_true rfl)
  rw [lg_entry_eq]
  generalize (lg_sl ([.ref (b 6 1), .int 1]) ++ List.replicate (2 - (lg_sl ([.ref (b 6 1), .int 1])).length) Slot.unset).toArray = ls at hl ⊢
  have hl : lv_has ls 2 [(0, .ref (b 6 1)), (1, .int 1)] := hl
  refine lv_iload_n hx hb dX3_stateAt_0 rfl (lv_at hl 1 rfl) ?_
  refine lv_if_lt (tgt := 22) hx hb dX3_stateAt_1 (by decide) (fun hc => absurd hc (by decide)) (fun _ => ?_)
  refine lv_iload_n hx hb dX3_stateAt_4 rfl (lv_at hl 1 rfl) ?_
  refine lv_aload_n hx hb dX3_stateAt_5 rfl (lv_at hl 0 rfl) ?_
  refine va_get (D := D) (ci := 1) (v := .ref (b 6 2)) (C := RX3) (T := TX3) (N := 2) hx hb hA in_wsX30 hown hK hP 1 rfl rfl 0 (by decide) (hA _ aF_RX3_11) (fun _ h => h) rfl dX3_stateAt_6 ?_
  refine va_alen hx hb hK hP 2 1 rfl rfl (show Int32.ofNat 4 = 4 by decide) dX3_stateAt_9 ?_
  refine lv_icmp_ge (tgt := 22) hx hb dX3_stateAt_10 (by decide) (fun hc => absurd hc (by decide)) (fun _ => ?_)
  refine lv_aload_n hx hb dX3_stateAt_13 rfl (lv_at hl 0 rfl) ?_
  refine va_get (D := D) (ci := 1) (v := .ref (b 6 2)) (C := RX3) (T := TX3) (N := 2) hx hb hA in_wsX30 hown hK hP 1 rfl rfl 0 (by decide) (hA _ aF_RX3_11) (fun _ h => h) rfl dX3_stateAt_14 ?_
  refine lv_iload_n hx hb dX3_stateAt_17 rfl (lv_at hl 1 rfl) ?_
  refine va_aldq hx hb hK hP 2 1 rfl rfl (show ¬ ((1 : Int32) < 0 ∨ 4 ≤ (1 : Int32).toNatClampNeg) by decide) dX3_stateAt_18 ?_
  rw [ti1]
  refine lv_goto (tgt := 23) hx hb dX3_stateAt_19 (by decide) ?_
  exact W.aret (v := .ref (b 3 0)) hx hb hr (Or.inl ⟨_, rfl⟩) (Or.inr ⟨_, rfl⟩) (fun t ht hW => ⟨rfl, ht⟩) (fun q hq => absurd hq List.not_mem_nil) dX3_stateAt_23
set_option maxHeartbeats 4000000 in
set_option maxRecDepth 100000 in
theorem c_X3_stateAt_2 (l : Launch) (D : va_G) (cI cF : ClassId) (b : Bf) (u0 u1 : M2) (η : HT) (τ : M2) : Met l yX3_stateAt (wsA yX3_stateAt cX3_stateAt 2 (some (.object "CuckooAudit$Filter"))) { frames := 0, cells := 0, slots := 0, locals := 0 } (va_Pc [.ref (b 6 1), .int 2] (xH D cI cF b u0 u1 η τ)) (k2_QcV (.ref (b 4 0))) 0 0 (fun _ => False) := by
  refine Met.ofW (cc := cX3_stateAt) (maxL := 2) (ret := (some (.object "CuckooAudit$Filter"))) (by decide) rfl ?_
  intro p e s m args below meth c s₁ B hml hpre
  obtain ⟨rfl, hP, hK, hD0⟩ := hpre
  have hx := B.exec
  have hb := B.bytes
  have hr := B.returns
  have hA : ∀ w ∈ AW, w.before _ s = true := fun w h => atoms_spec (ws := wsA yX3_stateAt cX3_stateAt 2 (some (.object "CuckooAudit$Filter"))) B.pre w (List.mem_cons_of_mem _ h)
  have hown : s.vm.findClass RX3 = some m.cls := findClass_of_methodNamed B.named
  have hlocks := B.notSynchronized
  have hDT := X_D hD0
  have S : CallFix p m c cX3_stateAt 2 s ([.ref (b 6 1), .int 2] : List Value).toArray AW RX3 := ⟨hx, hb, hml, hown, hA⟩
  have hl := lv_entry ([.ref (b 6 1), .int 2]) (n := 2) (Nat.le_of_ble_eq_true rfl)
  rw [lg_entry_eq]
  generalize (lg_sl ([.ref (b 6 1), .int 2]) ++ List.replicate (2 - (lg_sl ([.ref (b 6 1), .int 2])).length) Slot.unset).toArray = ls at hl ⊢
  have hl : lv_has ls 2 [(0, .ref (b 6 1)), (1, .int 2)] := hl
  refine lv_iload_n hx hb dX3_stateAt_0 rfl (lv_at hl 1 rfl) ?_
  refine lv_if_lt (tgt := 22) hx hb dX3_stateAt_1 (by decide) (fun hc => absurd hc (by decide)) (fun _ => ?_)
  refine lv_iload_n hx hb dX3_stateAt_4 rfl (lv_at hl 1 rfl) ?_
  refine lv_aload_n hx hb dX3_stateAt_5 rfl (lv_at hl 0 rfl) ?_
  refine va_get (D := D) (ci := 1) (v := .ref (b 6 2)) (C := RX3) (T := TX3) (N := 2) hx hb hA in_wsX30 hown hK hP 1 rfl rfl 0 (by decide) (hA _ aF_RX3_11) (fun _ h => h) rfl dX3_stateAt_6 ?_
  refine va_alen hx hb hK hP 2 1 rfl rfl (show Int32.ofNat 4 = 4 by decide) dX3_stateAt_9 ?_
  refine lv_icmp_ge (tgt := 22) hx hb dX3_stateAt_10 (by decide) (fun hc => absurd hc (by decide)) (fun _ => ?_)
  refine lv_aload_n hx hb dX3_stateAt_13 rfl (lv_at hl 0 rfl) ?_
  refine va_get (D := D) (ci := 1) (v := .ref (b 6 2)) (C := RX3) (T := TX3) (N := 2) hx hb hA in_wsX30 hown hK hP 1 rfl rfl 0 (by decide) (hA _ aF_RX3_11) (fun _ h => h) rfl dX3_stateAt_14 ?_
  refine lv_iload_n hx hb dX3_stateAt_17 rfl (lv_at hl 1 rfl) ?_
  refine va_aldq hx hb hK hP 2 1 rfl rfl (show ¬ ((2 : Int32) < 0 ∨ 4 ≤ (2 : Int32).toNatClampNeg) by decide) dX3_stateAt_18 ?_
  rw [ti2]
  refine lv_goto (tgt := 23) hx hb dX3_stateAt_19 (by decide) ?_
  exact W.aret (v := .ref (b 4 0)) hx hb hr (Or.inl ⟨_, rfl⟩) (Or.inr ⟨_, rfl⟩) (fun t ht hW => ⟨rfl, ht⟩) (fun q hq => absurd hq List.not_mem_nil) dX3_stateAt_23
set_option maxHeartbeats 4000000 in
set_option maxRecDepth 100000 in
theorem c_X3_stateAt_3 (l : Launch) (D : va_G) (cI cF : ClassId) (b : Bf) (u0 u1 : M2) (η : HT) (τ : M2) : Met l yX3_stateAt (wsA yX3_stateAt cX3_stateAt 2 (some (.object "CuckooAudit$Filter"))) { frames := 0, cells := 0, slots := 0, locals := 0 } (va_Pc [.ref (b 6 1), .int 3] (xH D cI cF b u0 u1 η τ)) (k2_QcV (.ref (b 5 0))) 0 0 (fun _ => False) := by
  refine Met.ofW (cc := cX3_stateAt) (maxL := 2) (ret := (some (.object "CuckooAudit$Filter"))) (by decide) rfl ?_
  intro p e s m args below meth c s₁ B hml hpre
  obtain ⟨rfl, hP, hK, hD0⟩ := hpre
  have hx := B.exec
  have hb := B.bytes
  have hr := B.returns
  have hA : ∀ w ∈ AW, w.before _ s = true := fun w h => atoms_spec (ws := wsA yX3_stateAt cX3_stateAt 2 (some (.object "CuckooAudit$Filter"))) B.pre w (List.mem_cons_of_mem _ h)
  have hown : s.vm.findClass RX3 = some m.cls := findClass_of_methodNamed B.named
  have hlocks := B.notSynchronized
  have hDT := X_D hD0
  have S : CallFix p m c cX3_stateAt 2 s ([.ref (b 6 1), .int 3] : List Value).toArray AW RX3 := ⟨hx, hb, hml, hown, hA⟩
  have hl := lv_entry ([.ref (b 6 1), .int 3]) (n := 2) (Nat.le_of_ble_eq_true rfl)
  rw [lg_entry_eq]
  generalize (lg_sl ([.ref (b 6 1), .int 3]) ++ List.replicate (2 - (lg_sl ([.ref (b 6 1), .int 3])).length) Slot.unset).toArray = ls at hl ⊢
  have hl : lv_has ls 2 [(0, .ref (b 6 1)), (1, .int 3)] := hl
  refine lv_iload_n hx hb dX3_stateAt_0 rfl (lv_at hl 1 rfl) ?_
  refine lv_if_lt (tgt := 22) hx hb dX3_stateAt_1 (by decide) (fun hc => absurd hc (by decide)) (fun _ => ?_)
  refine lv_iload_n hx hb dX3_stateAt_4 rfl (lv_at hl 1 rfl) ?_
  refine lv_aload_n hx hb dX3_stateAt_5 rfl (lv_at hl 0 rfl) ?_
  refine va_get (D := D) (ci := 1) (v := .ref (b 6 2)) (C := RX3) (T := TX3) (N := 2) hx hb hA in_wsX30 hown hK hP 1 rfl rfl 0 (by decide) (hA _ aF_RX3_11) (fun _ h => h) rfl dX3_stateAt_6 ?_
  refine va_alen hx hb hK hP 2 1 rfl rfl (show Int32.ofNat 4 = 4 by decide) dX3_stateAt_9 ?_
  refine lv_icmp_ge (tgt := 22) hx hb dX3_stateAt_10 (by decide) (fun hc => absurd hc (by decide)) (fun _ => ?_)
  refine lv_aload_n hx hb dX3_stateAt_13 rfl (lv_at hl 0 rfl) ?_
  refine va_get (D := D) (ci := 1) (v := .ref (b 6 2)) (C := RX3) (T := TX3) (N := 2) hx hb hA in_wsX30 hown hK hP 1 rfl rfl 0 (by decide) (hA _ aF_RX3_11) (fun _ h => h) rfl dX3_stateAt_14 ?_
  refine lv_iload_n hx hb dX3_stateAt_17 rfl (lv_at hl 1 rfl) ?_
  refine va_aldq hx hb hK hP 2 1 rfl rfl (show ¬ ((3 : Int32) < 0 ∨ 4 ≤ (3 : Int32).toNatClampNeg) by decide) dX3_stateAt_18 ?_
  rw [ti3]
  refine lv_goto (tgt := 23) hx hb dX3_stateAt_19 (by decide) ?_
  exact W.aret (v := .ref (b 5 0)) hx hb hr (Or.inl ⟨_, rfl⟩) (Or.inr ⟨_, rfl⟩) (fun t ht hW => ⟨rfl, ht⟩) (fun q hq => absurd hq List.not_mem_nil) dX3_stateAt_23
section KST
variable {p : Program} {l : Launch} {e : Env} {R : Room} {s : State} {m : MethodId} {args : Array Value} {below : List Frame} {meth : Method} {c : Code} {H : Heap} {locs : List Loc} {cells slots : Nat} {Q : State → Prop} {cc : ByteArray} {pc nL idx : Nat} {ls : Array Slot} {rest : List Value} {own : String} {D : va_G} {cI cF : ClassId} {b : Bf} {u0 u1 : M2} {η : HT} {τ : M2}
theorem k_X3_stateAt_0 (S : CallFix p m c cc nL s args AW own) (h1 : Cond.methodLink own idx yX3_stateAt ∈ AW) (hR : 0 + 1 ≤ R.frames ∧ 8 + (2 + 11) + 0 ≤ R.locals) (hc : cells ≤ R.cells ∧ slots ≤ R.slots) (hP : va_P D vwCl (xW cI cF b u0 u1 η τ) H) (hK : va_K D vwCl (xTy cI cF) s) (hD : va_D (fun _ => True) (xW cI cF b u0 u1 η τ)) (hsz : ls.size = nL) (hW : (rest.map fun v => v.category).sum ≤ 8) (hdg : decode cc pc = .ok (.invokevirtual idx, 3)) (kk : W p l e R s m args below meth c H locs cells slots Q (F0 m (pc + 3) ls (.ref (b 2 0) :: rest))) : W p l e R s m args below meth c H locs cells slots Q (F0 m pc ls (.int 0 :: .ref (b 6 1) :: rest)) :=
  fx_runVal (n := 1) (C := RX3) (As := [.int 0]) S (c_X3_stateAt_0 l D cI cF b u0 u1 η τ) (xH_pre (q0 := 1) (ci := 1) hK hP hD rfl rfl) h1 aI_X3_stateAt aV_X3_stateAt aN_RX3 aC_X3_stateAt rfl rfl (by decide +kernel) rfl hR hc hsz hW hdg kk
theorem k_X3_stateAt_1 (S : CallFix p m c cc nL s args AW own) (h1 : Cond.methodLink own idx yX3_stateAt ∈ AW) (hR : 0 + 1 ≤ R.frames ∧ 8 + (2 + 11) + 0 ≤ R.locals) (hc : cells ≤ R.cells ∧ slots ≤ R.slots) (hP : va_P D vwCl (xW cI cF b u0 u1 η τ) H) (hK : va_K D vwCl (xTy cI cF) s) (hD : va_D (fun _ => True) (xW cI cF b u0 u1 η τ)) (hsz : ls.size = nL) (hW : (rest.map fun v => v.category).sum ≤ 8) (hdg : decode cc pc = .ok (.invokevirtual idx, 3)) (kk : W p l e R s m args below meth c H locs cells slots Q (F0 m (pc + 3) ls (.ref (b 3 0) :: rest))) : W p l e R s m args below meth c H locs cells slots Q (F0 m pc ls (.int 1 :: .ref (b 6 1) :: rest)) :=
  fx_runVal (n := 1) (C := RX3) (As := [.int 1]) S (c_X3_stateAt_1 l D cI cF b u0 u1 η τ) (xH_pre (q0 := 1) (ci := 1) hK hP hD rfl rfl) h1 aI_X3_stateAt aV_X3_stateAt aN_RX3 aC_X3_stateAt rfl rfl (by decide +kernel) rfl hR hc hsz hW hdg kk
theorem k_X3_stateAt_2 (S : CallFix p m c cc nL s args AW own) (h1 : Cond.methodLink own idx yX3_stateAt ∈ AW) (hR : 0 + 1 ≤ R.frames ∧ 8 + (2 + 11) + 0 ≤ R.locals) (hc : cells ≤ R.cells ∧ slots ≤ R.slots) (hP : va_P D vwCl (xW cI cF b u0 u1 η τ) H) (hK : va_K D vwCl (xTy cI cF) s) (hD : va_D (fun _ => True) (xW cI cF b u0 u1 η τ)) (hsz : ls.size = nL) (hW : (rest.map fun v => v.category).sum ≤ 8) (hdg : decode cc pc = .ok (.invokevirtual idx, 3)) (kk : W p l e R s m args below meth c H locs cells slots Q (F0 m (pc + 3) ls (.ref (b 4 0) :: rest))) : W p l e R s m args below meth c H locs cells slots Q (F0 m pc ls (.int 2 :: .ref (b 6 1) :: rest)) :=
  fx_runVal (n := 1) (C := RX3) (As := [.int 2]) S (c_X3_stateAt_2 l D cI cF b u0 u1 η τ) (xH_pre (q0 := 1) (ci := 1) hK hP hD rfl rfl) h1 aI_X3_stateAt aV_X3_stateAt aN_RX3 aC_X3_stateAt rfl rfl (by decide +kernel) rfl hR hc hsz hW hdg kk
theorem k_X3_stateAt_3 (S : CallFix p m c cc nL s args AW own) (h1 : Cond.methodLink own idx yX3_stateAt ∈ AW) (hR : 0 + 1 ≤ R.frames ∧ 8 + (2 + 11) + 0 ≤ R.locals) (hc : cells ≤ R.cells ∧ slots ≤ R.slots) (hP : va_P D vwCl (xW cI cF b u0 u1 η τ) H) (hK : va_K D vwCl (xTy cI cF) s) (hD : va_D (fun _ => True) (xW cI cF b u0 u1 η τ)) (hsz : ls.size = nL) (hW : (rest.map fun v => v.category).sum ≤ 8) (hdg : decode cc pc = .ok (.invokevirtual idx, 3)) (kk : W p l e R s m args below meth c H locs cells slots Q (F0 m (pc + 3) ls (.ref (b 5 0) :: rest))) : W p l e R s m args below meth c H locs cells slots Q (F0 m pc ls (.int 3 :: .ref (b 6 1) :: rest)) :=
  fx_runVal (n := 1) (C := RX3) (As := [.int 3]) S (c_X3_stateAt_3 l D cI cF b u0 u1 η τ) (xH_pre (q0 := 1) (ci := 1) hK hP hD rfl rfl) h1 aI_X3_stateAt aV_X3_stateAt aN_RX3 aC_X3_stateAt rfl rfl (by decide +kernel) rfl hR hc hsz hW hdg kk
end KST
set_option maxHeartbeats 4000000 in
set_option maxRecDepth 100000 in
theorem c_X3_dropOldest (l : Launch) (D : va_G) (cI cF : ClassId) (b : Bf) (u0 u1 : M2) (e0 : Nat → M2) (h0 : Int32) (τ : M2) : Met l yX3_dropOldest (wsA yX3_dropOldest cX3_dropOldest 3 none) { frames := 1, cells := 0, slots := 0, locals := 21 } (va_Pc [.ref (b 6 1)] (xH D cI cF b u0 u1 (e0, h0) τ)) (va_Qv (fun (_ : Unit) => True) (fun _ t => va_P D vwCl (xW cI cF (xRot b) u0 u1 (eRot e0, h0 - 1) τ) t.heap) (xA b)) 0 0 (xA b) := by
  refine Met.ofW (cc := cX3_dropOldest) (maxL := 3) (ret := none) (by decide) rfl ?_
  intro p e s m args below meth c s₁ B hml hpre
  obtain ⟨rfl, hP, hK, hD0⟩ := hpre
  have hx := B.exec
  have hb := B.bytes
  have hr := B.returns
  have hA : ∀ w ∈ AW, w.before _ s = true := fun w h => atoms_spec (ws := wsA yX3_dropOldest cX3_dropOldest 3 none) B.pre w (List.mem_cons_of_mem _ h)
  have hown : s.vm.findClass RX3 = some m.cls := findClass_of_methodNamed B.named
  have hlocks := B.notSynchronized
  have hDT := X_D hD0
  have hS : va_S (xA b) s.heap s.heap [] := va_S.rf
  have S : CallFix p m c cX3_dropOldest 3 s ([.ref (b 6 1)] : List Value).toArray AW RX3 := ⟨hx, hb, hml, hown, hA⟩
  have hl := lv_entry ([.ref (b 6 1)]) (n := 3) (Nat.le_of_ble_eq_true rfl)
  rw [lg_entry_eq]
  generalize (lg_sl ([.ref (b 6 1)]) ++ List.replicate (3 - (lg_sl ([.ref (b 6 1)])).length) Slot.unset).toArray = ls at hl ⊢
  have hl : lv_has ls 3 [(0, .ref (b 6 1))] := hl
  refine lv_aload_n hx hb dX3_dropOldest_0 rfl (lv_at hl 0 rfl) ?_
  refine lv_iconst (v := 0) hx hb dX3_dropOldest_1 (by decide) ?_
  refine k_X3_stateAt_0 S aM_RX3_25 ⟨Nat.le_of_ble_eq_true rfl, Nat.le_of_ble_eq_true rfl⟩ ⟨Nat.zero_le _, Nat.zero_le _⟩ hP hK hD0 hl.1 (Nat.le_of_ble_eq_true rfl) dX3_dropOldest_2 ?_
  refine lv_astore_n (lv' := [(1, .ref (b 2 0)), (0, .ref (b 6 1))]) hx hb dX3_dropOldest_5 rfl hl (by decide) rfl (fun ls hl => ?_)
  refine lv_iconst (v := 0) hx hb dX3_dropOldest_6 (by decide) ?_
  refine lv_istore_n (lv' := [(2, .int 0), (1, .ref (b 2 0)), (0, .ref (b 6 1))]) hx hb dX3_dropOldest_7 rfl hl (by decide) rfl (fun ls hl => ?_)
  obtain ⟨f, hf⟩ : ∃ f : Nat → Option Nat, f = fun j => some (b (j + 2) 0) := ⟨_, rfl⟩
  have hP : va_P D vwCl (xWf cI cF b f u0 u1 (e0, h0) τ) s.heap := by rw [hf]; exact hP
  have hDf : ∀ g : Nat → Option Nat, va_D (xA b) (xWf cI cF b g u0 u1 (e0, h0) τ) := fun g => fm_D (ws := xW cI cF b u0 u1 (e0, h0) τ) rfl (xA_D hD0)
  refine lv_iload_n hx hb dX3_dropOldest_8 rfl (lv_at hl 0 rfl) ?_
  refine lv_iconst (v := 1) hx hb dX3_dropOldest_9 (by decide) ?_
  refine lv_iadd hx hb dX3_dropOldest_10 ?_
  refine lv_aload_n hx hb dX3_dropOldest_11 rfl (lv_at hl 2 rfl) ?_
  refine va_get (D := D) (ci := 1) (v := .ref (b 6 2)) (C := RX3) (T := TX3) (N := 2) hx hb hA in_wsX30 hown hK hP 1 rfl rfl 0 (by decide) (hA _ aF_RX3_11) (fun _ h => h) rfl dX3_dropOldest_12 ?_
  refine va_alen hx hb hK hP 2 1 rfl rfl (show Int32.ofNat 4 = 4 by decide) dX3_dropOldest_15 ?_
  refine lv_icmp_ge (tgt := 39) hx hb dX3_dropOldest_16 (by decide) (fun hc => absurd hc (by decide)) (fun _ => ?_)
  refine lv_aload_n hx hb dX3_dropOldest_19 rfl (lv_at hl 2 rfl) ?_
  refine va_get (D := D) (ci := 1) (v := .ref (b 6 2)) (C := RX3) (T := TX3) (N := 2) hx hb hA in_wsX30 hown hK hP 1 rfl rfl 0 (by decide) (hA _ aF_RX3_11) (fun _ h => h) rfl dX3_dropOldest_20 ?_
  refine lv_iload_n hx hb dX3_dropOldest_23 rfl (lv_at hl 0 rfl) ?_
  refine lv_aload_n hx hb dX3_dropOldest_24 rfl (lv_at hl 2 rfl) ?_
  refine va_get (D := D) (ci := 1) (v := .ref (b 6 2)) (C := RX3) (T := TX3) (N := 2) hx hb hA in_wsX30 hown hK hP 1 rfl rfl 0 (by decide) (hA _ aF_RX3_11) (fun _ h => h) rfl dX3_dropOldest_25 ?_
  refine lv_iload_n hx hb dX3_dropOldest_28 rfl (lv_at hl 0 rfl) ?_
  refine lv_iconst (v := 1) hx hb dX3_dropOldest_29 (by decide) ?_
  refine lv_iadd hx hb dX3_dropOldest_30 ?_
  refine lv_topi (fun y ey => ?_)
  obtain rfl : y = 1 := ey.trans (by decide)
  refine va_aldq hx hb hK hP 2 1 rfl rfl (show ¬ ((1 : Int32) < 0 ∨ 4 ≤ (1 : Int32).toNatClampNeg) by decide) dX3_dropOldest_31 ?_
  rw [ti1, show f 1 = some (b 3 0) by simp [va_up, hf]]
  refine va_astq (q0 := 2) (t0 := 1) (qk := 38) (ci := 0) hx hb hK hP (hDf _) hS rfl rfl rfl rfl (show ¬ ((0 : Int32) < 0 ∨ 4 ≤ (0 : Int32).toNatClampNeg) by decide) dX3_dropOldest_32 (fun H locs hP _ hS => ?_)
  rw [ti0] at hP
  have hP : va_P D vwCl (xWf cI cF b (va_up f 0 (some (b 3 0))) u0 u1 (e0, h0) τ) H := hP
  refine lv_iinc (v := 1) (lv' := [(2, .int 1), (1, .ref (b 2 0)), (0, .ref (b 6 1))]) hx hb dX3_dropOldest_33 hl (k := 0) rfl (by decide) (by decide) rfl (fun ls hl => ?_)
  refine lv_goto (tgt := 8) hx hb dX3_dropOldest_36 (by decide) ?_
  refine lv_iload_n hx hb dX3_dropOldest_8 rfl (lv_at hl 0 rfl) ?_
  refine lv_iconst (v := 1) hx hb dX3_dropOldest_9 (by decide) ?_
  refine lv_iadd hx hb dX3_dropOldest_10 ?_
  refine lv_aload_n hx hb dX3_dropOldest_11 rfl (lv_at hl 2 rfl) ?_
  refine va_get (D := D) (ci := 1) (v := .ref (b 6 2)) (C := RX3) (T := TX3) (N := 2) hx hb hA in_wsX30 hown hK hP 1 rfl rfl 0 (by decide) (hA _ aF_RX3_11) (fun _ h => h) rfl dX3_dropOldest_12 ?_
  refine va_alen hx hb hK hP 2 1 rfl rfl (show Int32.ofNat 4 = 4 by decide) dX3_dropOldest_15 ?_
  refine lv_icmp_ge (tgt := 39) hx hb dX3_dropOldest_16 (by decide) (fun hc => absurd hc (by decide)) (fun _ => ?_)
  refine lv_aload_n hx hb dX3_dropOldest_19 rfl (lv_at hl 2 rfl) ?_
  refine va_get (D := D) (ci := 1) (v := .ref (b 6 2)) (C := RX3) (T := TX3) (N := 2) hx hb hA in_wsX30 hown hK hP 1 rfl rfl 0 (by decide) (hA _ aF_RX3_11) (fun _ h => h) rfl dX3_dropOldest_20 ?_
  refine lv_iload_n hx hb dX3_dropOldest_23 rfl (lv_at hl 0 rfl) ?_
  refine lv_aload_n hx hb dX3_dropOldest_24 rfl (lv_at hl 2 rfl) ?_
  refine va_get (D := D) (ci := 1) (v := .ref (b 6 2)) (C := RX3) (T := TX3) (N := 2) hx hb hA in_wsX30 hown hK hP 1 rfl rfl 0 (by decide) (hA _ aF_RX3_11) (fun _ h => h) rfl dX3_dropOldest_25 ?_
  refine lv_iload_n hx hb dX3_dropOldest_28 rfl (lv_at hl 0 rfl) ?_
  refine lv_iconst (v := 1) hx hb dX3_dropOldest_29 (by decide) ?_
  refine lv_iadd hx hb dX3_dropOldest_30 ?_
  refine lv_topi (fun y ey => ?_)
  obtain rfl : y = 2 := ey.trans (by decide)
  refine va_aldq hx hb hK hP 2 1 rfl rfl (show ¬ ((2 : Int32) < 0 ∨ 4 ≤ (2 : Int32).toNatClampNeg) by decide) dX3_dropOldest_31 ?_
  rw [ti2, show (va_up f 0 (some (b 3 0))) 2 = some (b 4 0) by simp [va_up, hf]]
  refine va_astq (q0 := 2) (t0 := 1) (qk := 49) (ci := 0) hx hb hK hP (hDf _) hS rfl rfl rfl rfl (show ¬ ((1 : Int32) < 0 ∨ 4 ≤ (1 : Int32).toNatClampNeg) by decide) dX3_dropOldest_32 (fun H locs hP _ hS => ?_)
  rw [ti1] at hP
  have hP : va_P D vwCl (xWf cI cF b (va_up (va_up f 0 (some (b 3 0))) 1 (some (b 4 0))) u0 u1 (e0, h0) τ) H := hP
  refine lv_iinc (v := 2) (lv' := [(2, .int 2), (1, .ref (b 2 0)), (0, .ref (b 6 1))]) hx hb dX3_dropOldest_33 hl (k := 0) rfl (by decide) (by decide) rfl (fun ls hl => ?_)
  refine lv_goto (tgt := 8) hx hb dX3_dropOldest_36 (by decide) ?_
  refine lv_iload_n hx hb dX3_dropOldest_8 rfl (lv_at hl 0 rfl) ?_
  refine lv_iconst (v := 1) hx hb dX3_dropOldest_9 (by decide) ?_
  refine lv_iadd hx hb dX3_dropOldest_10 ?_
  refine lv_aload_n hx hb dX3_dropOldest_11 rfl (lv_at hl 2 rfl) ?_
  refine va_get (D := D) (ci := 1) (v := .ref (b 6 2)) (C := RX3) (T := TX3) (N := 2) hx hb hA in_wsX30 hown hK hP 1 rfl rfl 0 (by decide) (hA _ aF_RX3_11) (fun _ h => h) rfl dX3_dropOldest_12 ?_
  refine va_alen hx hb hK hP 2 1 rfl rfl (show Int32.ofNat 4 = 4 by decide) dX3_dropOldest_15 ?_
  refine lv_icmp_ge (tgt := 39) hx hb dX3_dropOldest_16 (by decide) (fun hc => absurd hc (by decide)) (fun _ => ?_)
  refine lv_aload_n hx hb dX3_dropOldest_19 rfl (lv_at hl 2 rfl) ?_
  refine va_get (D := D) (ci := 1) (v := .ref (b 6 2)) (C := RX3) (T := TX3) (N := 2) hx hb hA in_wsX30 hown hK hP 1 rfl rfl 0 (by decide) (hA _ aF_RX3_11) (fun _ h => h) rfl dX3_dropOldest_20 ?_
  refine lv_iload_n hx hb dX3_dropOldest_23 rfl (lv_at hl 0 rfl) ?_
  refine lv_aload_n hx hb dX3_dropOldest_24 rfl (lv_at hl 2 rfl) ?_
  refine va_get (D := D) (ci := 1) (v := .ref (b 6 2)) (C := RX3) (T := TX3) (N := 2) hx hb hA in_wsX30 hown hK hP 1 rfl rfl 0 (by decide) (hA _ aF_RX3_11) (fun _ h => h) rfl dX3_dropOldest_25 ?_
  refine lv_iload_n hx hb dX3_dropOldest_28 rfl (lv_at hl 0 rfl) ?_
  refine lv_iconst (v := 1) hx hb dX3_dropOldest_29 (by decide) ?_
  refine lv_iadd hx hb dX3_dropOldest_30 ?_
  refine lv_topi (fun y ey => ?_)
  obtain rfl : y = 3 := ey.trans (by decide)
  refine va_aldq hx hb hK hP 2 1 rfl rfl (show ¬ ((3 : Int32) < 0 ∨ 4 ≤ (3 : Int32).toNatClampNeg) by decide) dX3_dropOldest_31 ?_
  rw [ti3, show (va_up (va_up f 0 (some (b 3 0))) 1 (some (b 4 0))) 3 = some (b 5 0) by simp [va_up, hf]]
  refine va_astq (q0 := 2) (t0 := 1) (qk := 60) (ci := 0) hx hb hK hP (hDf _) hS rfl rfl rfl rfl (show ¬ ((2 : Int32) < 0 ∨ 4 ≤ (2 : Int32).toNatClampNeg) by decide) dX3_dropOldest_32 (fun H locs hP _ hS => ?_)
  rw [ti2] at hP
  have hP : va_P D vwCl (xWf cI cF b (va_up (va_up (va_up f 0 (some (b 3 0))) 1 (some (b 4 0))) 2 (some (b 5 0))) u0 u1 (e0, h0) τ) H := hP
  refine lv_iinc (v := 3) (lv' := [(2, .int 3), (1, .ref (b 2 0)), (0, .ref (b 6 1))]) hx hb dX3_dropOldest_33 hl (k := 0) rfl (by decide) (by decide) rfl (fun ls hl => ?_)
  refine lv_goto (tgt := 8) hx hb dX3_dropOldest_36 (by decide) ?_
  refine lv_iload_n hx hb dX3_dropOldest_8 rfl (lv_at hl 0 rfl) ?_
  refine lv_iconst (v := 1) hx hb dX3_dropOldest_9 (by decide) ?_
  refine lv_iadd hx hb dX3_dropOldest_10 ?_
  refine lv_aload_n hx hb dX3_dropOldest_11 rfl (lv_at hl 2 rfl) ?_
  refine va_get (D := D) (ci := 1) (v := .ref (b 6 2)) (C := RX3) (T := TX3) (N := 2) hx hb hA in_wsX30 hown hK hP 1 rfl rfl 0 (by decide) (hA _ aF_RX3_11) (fun _ h => h) rfl dX3_dropOldest_12 ?_
  refine va_alen hx hb hK hP 2 1 rfl rfl (show Int32.ofNat 4 = 4 by decide) dX3_dropOldest_15 ?_
  refine lv_icmp_ge (tgt := 39) hx hb dX3_dropOldest_16 (by decide) (fun _ => ?_) (fun hc => absurd (by decide) hc)
  refine lv_aload_n hx hb dX3_dropOldest_39 rfl (lv_at hl 2 rfl) ?_
  refine va_get (D := D) (ci := 1) (v := .ref (b 6 2)) (C := RX3) (T := TX3) (N := 2) hx hb hA in_wsX30 hown hK hP 1 rfl rfl 0 (by decide) (hA _ aF_RX3_11) (fun _ h => h) rfl dX3_dropOldest_40 ?_
  refine va_alen hx hb hK hP 2 1 rfl rfl (show Int32.ofNat 4 = 4 by decide) dX3_dropOldest_43 ?_
  refine lv_if_le (tgt := 60) hx hb dX3_dropOldest_44 (by decide) (fun hc => absurd hc (by decide)) (fun _ => ?_)
  refine lv_aload_n hx hb dX3_dropOldest_47 rfl (lv_at hl 2 rfl) ?_
  refine va_get (D := D) (ci := 1) (v := .ref (b 6 2)) (C := RX3) (T := TX3) (N := 2) hx hb hA in_wsX30 hown hK hP 1 rfl rfl 0 (by decide) (hA _ aF_RX3_11) (fun _ h => h) rfl dX3_dropOldest_48 ?_
  refine lv_aload_n hx hb dX3_dropOldest_51 rfl (lv_at hl 2 rfl) ?_
  refine va_get (D := D) (ci := 1) (v := .ref (b 6 2)) (C := RX3) (T := TX3) (N := 2) hx hb hA in_wsX30 hown hK hP 1 rfl rfl 0 (by decide) (hA _ aF_RX3_11) (fun _ h => h) rfl dX3_dropOldest_52 ?_
  refine va_alen hx hb hK hP 2 1 rfl rfl (show Int32.ofNat 4 = 4 by decide) dX3_dropOldest_55 ?_
  refine lv_iconst (v := 1) hx hb dX3_dropOldest_56 (by decide) ?_
  refine lv_isub hx hb dX3_dropOldest_57 ?_
  refine lv_topi (fun y ey => ?_)
  obtain rfl : y = 3 := ey.trans (by decide)
  refine lv_aload_n hx hb dX3_dropOldest_58 rfl (lv_at hl 1 rfl) ?_
  refine va_astq (q0 := 2) (t0 := 1) (qk := 27) (ci := 0) hx hb hK hP (hDf _) hS rfl rfl rfl rfl (show ¬ ((3 : Int32) < 0 ∨ 4 ≤ (3 : Int32).toNatClampNeg) by decide) dX3_dropOldest_59 (fun H locs hP _ hS => ?_)
  rw [ti3] at hP
  have hP : va_P D vwCl (xWf cI cF b (va_up (va_up (va_up (va_up f 0 (some (b 3 0))) 1 (some (b 4 0))) 2 (some (b 5 0))) 3 (some (b 2 0))) u0 u1 (e0, h0) τ) H := hP
  refine lv_aload_n hx hb dX3_dropOldest_60 rfl (lv_at hl 2 rfl) ?_
  refine lv_dup hx hb dX3_dropOldest_61 rfl ?_
  refine va_get (D := D) (ci := 1) (v := .int h0) (C := RX3) (T := TX3) (N := 2) hx hb hA in_wsX30 hown hK hP 1 rfl rfl 1 (by decide) (hA _ aF_RX3_18) (fun _ h => h) rfl dX3_dropOldest_62 ?_
  refine lv_iconst (v := 1) hx hb dX3_dropOldest_65 (by decide) ?_
  refine lv_isub hx hb dX3_dropOldest_66 ?_
  refine va_put (D := D) (ci := 1) (v := .int (h0 - 1)) (ty := .int) (C := RX3) (T := TX3) (N := 2) hx hb hA in_wsX30 tyX3 tyX3_ok nmX3 hown hK hP (hDf _) hS 1 rfl rfl 1 (by decide) (hA _ aF_RX3_18) (fun _ h => h) rfl (by decide +kernel) rfl rfl (Nat.le_of_ble_eq_true rfl) dX3_dropOldest_67 (fun H locs hP _ hS => ?_)
  have hP : va_P D vwCl (xWf cI cF b (va_up (va_up (va_up (va_up f 0 (some (b 3 0))) 1 (some (b 4 0))) 2 (some (b 5 0))) 3 (some (b 2 0))) u0 u1 (e0, h0 - 1) τ) H := hP
  have hP : va_P D vwCl (xWf cI cF b (fun j => some (xRot b (j + 2) 0)) u0 u1 (e0, h0 - 1) τ) H := by
    intro k q hk
    by_cases h2 : k = 2
    · subst h2
      cases hk
      refine xRow (hP 2 _ rfl) (fun j hj => ?_)
      rcases (show j = 0 ∨ j = 1 ∨ j = 2 ∨ j = 3 by omega) with rfl | rfl | rfl | rfl <;> simp [va_up, xRot]
    · refine hP k q (Eq.trans ?_ hk)
      match k, h2 with
      | 0, _ => rfl
      | 1, _ => rfl
      | k + 3, _ => rfl
  have hP : va_P D vwCl (xW cI cF (xRot b) u0 u1 (eRot e0, h0 - 1) τ) H := hP.sub [0, 1, 2, 3, 4, 5, 6, 7, 8, 9, 10, 11, 12, 13, 14, 15, 16, 17, 18, 19, 20, 21, 22, 23, 24, 25, 26, 38, 39, 40, 41, 42, 43, 44, 45, 46, 47, 48, 49, 50, 51, 52, 53, 54, 55, 56, 57, 58, 59, 60, 61, 62, 63, 64, 65, 66, 67, 68, 69, 70, 27, 28, 29, 30, 31, 32, 33, 34, 35, 36, 37] rfl
  exact W.vret hx hb hr (fun t ht hW => ⟨⟨(), rfl, trivial, by show va_P _ _ _ t.heap; rw [ht]; exact hP⟩, hS.F ht⟩) hS.2.2 dX3_dropOldest_70
theorem xRot_D {cI cF : ClassId} {b : Bf} {u0 u1 : M2} {e0 : Nat → M2} {h0 h1 : Int32} {τ : M2} (h : va_D (fun _ => True) (xW cI cF b u0 u1 (e0, h0) τ)) : va_D (fun _ => True) (xW cI cF (xRot b) u0 u1 (eRot e0, h1) τ) := by
  have h2 : va_D (fun _ => True) (xWf cI cF b (fun j => some (xRot b (j + 2) 0)) u0 u1 (e0, h1) τ) := fm_D (ws := xW cI cF b u0 u1 (e0, h0) τ) rfl h
  exact h2.sub [0, 1, 2, 3, 4, 5, 6, 7, 8, 9, 10, 11, 12, 13, 14, 15, 16, 17, 18, 19, 20, 21, 22, 23, 24, 25, 26, 38, 39, 40, 41, 42, 43, 44, 45, 46, 47, 48, 49, 50, 51, 52, 53, 54, 55, 56, 57, 58, 59, 60, 61, 62, 63, 64, 65, 66, 67, 68, 69, 70, 27, 28, 29, 30, 31, 32, 33, 34, 35, 36, 37] (by decide) rfl
theorem xRot_A {b : Bf} {q : Nat} (h : xA (xRot b) q) : xA b q := by
  have h : q ∈ [b 6 0, b 6 1, b 6 2] ++ ((List.range 2).map (b 7) ++ ((List.range 11).map (b 0) ++ ((List.range 11).map (b 1) ++ ((List.range 11).map (b 3) ++ ((List.range 11).map (b 4) ++ ((List.range 11).map (b 5) ++ (List.range 11).map (b 2))))))) := h
  unfold xA xAd
  simp only [List.mem_append] at h ⊢
  rcases h with h | h | h | h | h | h | h | h
  all_goals simp only [h, true_or, or_true]
set_option maxHeartbeats 4000000 in
set_option maxRecDepth 100000 in
theorem c_X3_push_0 (l : Launch) (D : va_G) (cI cF : ClassId) (b : Bf) (u0 u1 : M2) (e0 : Nat → M2) (τ : M2) (N : Nat) (χ : M2) (hF : G_X2_copyFrom N (xPm (e0 0) u0) = some χ) : Met l yX3_push (wsA yX3_push cX3_push 3 none) { frames := 2, cells := 0, slots := 0, locals := 60 } (va_Pc [.ref (b 6 1), .ref (b 0 0)] (xH D cI cF b u0 u1 (e0, 0) τ)) (va_Qv (fun (_ : Unit) => True) (fun _ t => va_P D vwCl (xW cI cF b (xsh χ) u1 (hup (e0, 1) 0 χ) τ) t.heap) (xA b)) 0 0 (xA b) := by
  refine Met.ofW (cc := cX3_push) (maxL := 3) (ret := none) (by decide) rfl ?_
  intro p e s m args below meth c s₁ B hml hpre
  obtain ⟨rfl, hP, hK, hD0⟩ := hpre
  have hx := B.exec
  have hb := B.bytes
  have hr := B.returns
  have hA : ∀ w ∈ AW, w.before _ s = true := fun w h => atoms_spec (ws := wsA yX3_push cX3_push 3 none) B.pre w (List.mem_cons_of_mem _ h)
  have hown : s.vm.findClass RX3 = some m.cls := findClass_of_methodNamed B.named
  have hlocks := B.notSynchronized
  have hDT := X_D hD0
  have hS : va_S (xA b) s.heap s.heap [] := va_S.rf
  have S : CallFix p m c cX3_push 3 s ([.ref (b 6 1), .ref (b 0 0)] : List Value).toArray AW RX3 := ⟨hx, hb, hml, hown, hA⟩
  have hl := lv_entry ([.ref (b 6 1), .ref (b 0 0)]) (n := 3) (Nat.le_of_ble_eq_true rfl)
  rw [lg_entry_eq]
  generalize (lg_sl ([.ref (b 6 1), .ref (b 0 0)]) ++ List.replicate (3 - (lg_sl ([.ref (b 6 1), .ref (b 0 0)])).length) Slot.unset).toArray = ls at hl ⊢
  have hl : lv_has ls 3 [(0, .ref (b 6 1)), (1, .ref (b 0 0))] := hl
  refine lv_aload_n hx hb dX3_push_0 rfl (lv_at hl 0 rfl) ?_
  refine va_get (D := D) (ci := 1) (v := .int 0) (C := RX3) (T := TX3) (N := 2) hx hb hA in_wsX30 hown hK hP 1 rfl rfl 1 (by decide) (hA _ aF_RX3_18) (fun _ h => h) rfl dX3_push_1 ?_
  refine lv_iconst (v := 4) hx hb dX3_push_4 (by decide) ?_
  refine lv_icmp_lt (tgt := 12) hx hb dX3_push_5 (by decide) (fun _ => ?_) (fun hc => absurd (by decide) hc)
  have hDq := hD0
  have hAq : ∀ q, xA b q → xA b q := fun _ h => h
  refine lv_aload_n hx hb dX3_push_12 rfl (lv_at hl 0 rfl) ?_
  refine lv_aload_n hx hb dX3_push_13 rfl (lv_at hl 0 rfl) ?_
  refine va_get (D := D) (ci := 1) (v := .int 0) (C := RX3) (T := TX3) (N := 2) hx hb hA in_wsX30 hown hK hP 1 rfl rfl 1 (by decide) (hA _ aF_RX3_18) (fun _ h => h) rfl dX3_push_14 ?_
  refine lv_topi (fun y ey => ?_)
  obtain rfl : y = 0 := ey.trans (by decide)
  refine k_X3_stateAt_0 (b := b) S aM_RX3_25 ⟨Nat.le_of_ble_eq_true rfl, Nat.le_of_ble_eq_true rfl⟩ ⟨Nat.zero_le _, Nat.zero_le _⟩ hP hK hDq hl.1 (Nat.le_of_ble_eq_true rfl) dX3_push_17 ?_
  refine lv_astore_n (lv' := [(2, .ref (b 2 0)), (0, .ref (b 6 1)), (1, .ref (b 0 0))]) hx hb dX3_push_20 rfl hl (by decide) rfl (fun ls hl => ?_)
  refine lv_aload_n hx hb dX3_push_21 rfl (lv_at hl 0 rfl) ?_
  refine lv_ifnull hx hb dX3_push_22 ?_
  refine lv_aload_n hx hb dX3_push_25 rfl (lv_at hl 0 rfl) ?_
  refine lv_aload_n hx hb dX3_push_26 rfl (lv_at hl 2 rfl) ?_
  refine fx_runVv (n := 1) (C := RX2) (As := [.ref (b 0 0)]) S (c_X2_copyFrom l D cI (xPa (b 2) (b 0)) N (xPm (e0 0) u0) χ hF) (P_pre (q0 := 0) (ci := 0) (X_k hK) (X_p_push0 hP) (X_d_push0 hDq _) rfl rfl) hS (fun q h => hAq q (X_a_push0 h)) aM_RX3_29 aI_X2_copyFrom aV_X2_copyFrom aN_RX2 aC_X2_copyFrom rfl rfl (by decide +kernel) rfl ⟨Nat.le_of_ble_eq_true rfl, Nat.le_of_ble_eq_true rfl⟩ ⟨Nat.zero_le _, Nat.zero_le _⟩ hl.1 (Nat.le_of_ble_eq_true rfl) dX3_push_27 (fun _ t H1 locs ht _ hB hk hz hS => ?_)
  have hP := X_set_push0 hP hDq hk (by rw [← ht]; exact hB)
  refine lv_aload_n hx hb dX3_push_30 rfl (lv_at hl 1 rfl) ?_
  refine lv_dup hx hb dX3_push_31 rfl ?_
  refine va_get (D := D) (ci := 1) (v := .int 0) (C := RX3) (T := TX3) (N := 2) hx hb hA in_wsX30 hown hK hP 1 rfl rfl 1 (by decide) (hA _ aF_RX3_18) (fun _ h => h) rfl dX3_push_32 ?_
  refine lv_iconst (v := 1) hx hb dX3_push_35 (by decide) ?_
  refine lv_iadd hx hb dX3_push_36 ?_
  refine lv_topi (fun y ey => ?_)
  obtain rfl : y = 1 := ey.trans (by decide)
  refine va_put (D := D) (ci := 1) (v := .int 1) (ty := .int) (C := RX3) (T := TX3) (N := 2) hx hb hA in_wsX30 tyX3 tyX3_ok nmX3 hown hK hP (fm_D (ws := xW cI cF b u0 u1 (e0, 0) τ) rfl (fm_DA (B := xA b) hDq (fun q h => hAq q h))) hS 1 rfl rfl 1 (by decide) (hA _ aF_RX3_18) (fun _ h => h) rfl (by decide +kernel) rfl rfl (Nat.le_of_ble_eq_true rfl) dX3_push_37 (fun H2 locs hP _ hS => ?_)
  have hP : va_P D vwCl (xW cI cF b (xsh χ) u1 (hup (e0, 1) 0 χ) τ) H2 := hP
  exact W.vret hx hb hr (fun t ht hW => ⟨⟨(), rfl, trivial, by show va_P _ _ _ t.heap; rw [ht]; exact hP⟩, hS.F ht⟩) hS.2.2 dX3_push_40
set_option maxHeartbeats 4000000 in
set_option maxRecDepth 100000 in
theorem c_X3_push_1 (l : Launch) (D : va_G) (cI cF : ClassId) (b : Bf) (u0 u1 : M2) (e0 : Nat → M2) (τ : M2) (N : Nat) (χ : M2) (hF : G_X2_copyFrom N (xPm (e0 1) u0) = some χ) : Met l yX3_push (wsA yX3_push cX3_push 3 none) { frames := 2, cells := 0, slots := 0, locals := 60 } (va_Pc [.ref (b 6 1), .ref (b 0 0)] (xH D cI cF b u0 u1 (e0, 1) τ)) (va_Qv (fun (_ : Unit) => True) (fun _ t => va_P D vwCl (xW cI cF b (xsh χ) u1 (hup (e0, 2) 1 χ) τ) t.heap) (xA b)) 0 0 (xA b) := by
  refine Met.ofW (cc := cX3_push) (maxL := 3) (ret := none) (by decide) rfl ?_
  intro p e s m args below meth c s₁ B hml hpre
  obtain ⟨rfl, hP, hK, hD0⟩ := hpre
  have hx := B.exec
  have hb := B.bytes
  have hr := B.returns
  have hA : ∀ w ∈ AW, w.before _ s = true := fun w h => atoms_spec (ws := wsA yX3_push cX3_push 3 none) B.pre w (List.mem_cons_of_mem _ h)
  have hown : s.vm.findClass RX3 = some m.cls := findClass_of_methodNamed B.named
  have hlocks := B.notSynchronized
  have hDT := X_D hD0
  have hS : va_S (xA b) s.heap s.heap [] := va_S.rf
  have S : CallFix p m c cX3_push 3 s ([.ref (b 6 1), .ref (b 0 0)] : List Value).toArray AW RX3 := ⟨hx, hb, hml, hown, hA⟩
  have hl := lv_entry ([.ref (b 6 1), .ref (b 0 0)]) (n := 3) (Nat.le_of_ble_eq_true rfl)
  rw [lg_entry_eq]
  generalize (lg_sl ([.ref (b 6 1), .ref (b 0 0)]) ++ List.replicate (3 - (lg_sl ([.ref (b 6 1), .ref (b 0 0)])).length) Slot.unset).toArray = ls at hl ⊢
  have hl : lv_has ls 3 [(0, .ref (b 6 1)), (1, .ref (b 0 0))] := hl
  refine lv_aload_n hx hb dX3_push_0 rfl (lv_at hl 0 rfl) ?_
  refine va_get (D := D) (ci := 1) (v := .int 1) (C := RX3) (T := TX3) (N := 2) hx hb hA in_wsX30 hown hK hP 1 rfl rfl 1 (by decide) (hA _ aF_RX3_18) (fun _ h => h) rfl dX3_push_1 ?_
  refine lv_iconst (v := 4) hx hb dX3_push_4 (by decide) ?_
  refine lv_icmp_lt (tgt := 12) hx hb dX3_push_5 (by decide) (fun _ => ?_) (fun hc => absurd (by decide) hc)
  have hDq := hD0
  have hAq : ∀ q, xA b q → xA b q := fun _ h => h
  refine lv_aload_n hx hb dX3_push_12 rfl (lv_at hl 0 rfl) ?_
  refine lv_aload_n hx hb dX3_push_13 rfl (lv_at hl 0 rfl) ?_
  refine va_get (D := D) (ci := 1) (v := .int 1) (C := RX3) (T := TX3) (N := 2) hx hb hA in_wsX30 hown hK hP 1 rfl rfl 1 (by decide) (hA _ aF_RX3_18) (fun _ h => h) rfl dX3_push_14 ?_
  refine lv_topi (fun y ey => ?_)
  obtain rfl : y = 1 := ey.trans (by decide)
  refine k_X3_stateAt_1 (b := b) S aM_RX3_25 ⟨Nat.le_of_ble_eq_true rfl, Nat.le_of_ble_eq_true rfl⟩ ⟨Nat.zero_le _, Nat.zero_le _⟩ hP hK hDq hl.1 (Nat.le_of_ble_eq_true rfl) dX3_push_17 ?_
  refine lv_astore_n (lv' := [(2, .ref (b 3 0)), (0, .ref (b 6 1)), (1, .ref (b 0 0))]) hx hb dX3_push_20 rfl hl (by decide) rfl (fun ls hl => ?_)
  refine lv_aload_n hx hb dX3_push_21 rfl (lv_at hl 0 rfl) ?_
  refine lv_ifnull hx hb dX3_push_22 ?_
  refine lv_aload_n hx hb dX3_push_25 rfl (lv_at hl 0 rfl) ?_
  refine lv_aload_n hx hb dX3_push_26 rfl (lv_at hl 2 rfl) ?_
  refine fx_runVv (n := 1) (C := RX2) (As := [.ref (b 0 0)]) S (c_X2_copyFrom l D cI (xPa (b 3) (b 0)) N (xPm (e0 1) u0) χ hF) (P_pre (q0 := 0) (ci := 0) (X_k hK) (X_p_push1 hP) (X_d_push1 hDq _) rfl rfl) hS (fun q h => hAq q (X_a_push1 h)) aM_RX3_29 aI_X2_copyFrom aV_X2_copyFrom aN_RX2 aC_X2_copyFrom rfl rfl (by decide +kernel) rfl ⟨Nat.le_of_ble_eq_true rfl, Nat.le_of_ble_eq_true rfl⟩ ⟨Nat.zero_le _, Nat.zero_le _⟩ hl.1 (Nat.le_of_ble_eq_true rfl) dX3_push_27 (fun _ t H1 locs ht _ hB hk hz hS => ?_)
  have hP := X_set_push1 hP hDq hk (by rw [← ht]; exact hB)
  refine lv_aload_n hx hb dX3_push_30 rfl (lv_at hl 1 rfl) ?_
  refine lv_dup hx hb dX3_push_31 rfl ?_
  refine va_get (D := D) (ci := 1) (v := .int 1) (C := RX3) (T := TX3) (N := 2) hx hb hA in_wsX30 hown hK hP 1 rfl rfl 1 (by decide) (hA _ aF_RX3_18) (fun _ h => h) rfl dX3_push_32 ?_
  refine lv_iconst (v := 1) hx hb dX3_push_35 (by decide) ?_
  refine lv_iadd hx hb dX3_push_36 ?_
  refine lv_topi (fun y ey => ?_)
  obtain rfl : y = 2 := ey.trans (by decide)
  refine va_put (D := D) (ci := 1) (v := .int 2) (ty := .int) (C := RX3) (T := TX3) (N := 2) hx hb hA in_wsX30 tyX3 tyX3_ok nmX3 hown hK hP (fm_D (ws := xW cI cF b u0 u1 (e0, 1) τ) rfl (fm_DA (B := xA b) hDq (fun q h => hAq q h))) hS 1 rfl rfl 1 (by decide) (hA _ aF_RX3_18) (fun _ h => h) rfl (by decide +kernel) rfl rfl (Nat.le_of_ble_eq_true rfl) dX3_push_37 (fun H2 locs hP _ hS => ?_)
  have hP : va_P D vwCl (xW cI cF b (xsh χ) u1 (hup (e0, 2) 1 χ) τ) H2 := hP
  exact W.vret hx hb hr (fun t ht hW => ⟨⟨(), rfl, trivial, by show va_P _ _ _ t.heap; rw [ht]; exact hP⟩, hS.F ht⟩) hS.2.2 dX3_push_40
set_option maxHeartbeats 4000000 in
set_option maxRecDepth 100000 in
theorem c_X3_push_2 (l : Launch) (D : va_G) (cI cF : ClassId) (b : Bf) (u0 u1 : M2) (e0 : Nat → M2) (τ : M2) (N : Nat) (χ : M2) (hF : G_X2_copyFrom N (xPm (e0 2) u0) = some χ) : Met l yX3_push (wsA yX3_push cX3_push 3 none) { frames := 2, cells := 0, slots := 0, locals := 60 } (va_Pc [.ref (b 6 1), .ref (b 0 0)] (xH D cI cF b u0 u1 (e0, 2) τ)) (va_Qv (fun (_ : Unit) => True) (fun _ t => va_P D vwCl (xW cI cF b (xsh χ) u1 (hup (e0, 3) 2 χ) τ) t.heap) (xA b)) 0 0 (xA b) := by
  refine Met.ofW (cc := cX3_push) (maxL := 3) (ret := none) (by decide) rfl ?_
  intro p e s m args below meth c s₁ B hml hpre
  obtain ⟨rfl, hP, hK, hD0⟩ := hpre
  have hx := B.exec
  have hb := B.bytes
  have hr := B.returns
  have hA : ∀ w ∈ AW, w.before _ s = true := fun w h => atoms_spec (ws := wsA yX3_push cX3_push 3 none) B.pre w (List.mem_cons_of_mem _ h)
  have hown : s.vm.findClass RX3 = some m.cls := findClass_of_methodNamed B.named
  have hlocks := B.notSynchronized
  have hDT := X_D hD0
  have hS : va_S (xA b) s.heap s.heap [] := va_S.rf
  have S : CallFix p m c cX3_push 3 s ([.ref (b 6 1), .ref (b 0 0)] : List Value).toArray AW RX3 := ⟨hx, hb, hml, hown, hA⟩
  have hl := lv_entry ([.ref (b 6 1), .ref (b 0 0)]) (n := 3) (Nat.le_of_ble_eq_true rfl)
  rw [lg_entry_eq]
  generalize (lg_sl ([.ref (b 6 1), .ref (b 0 0)]) ++ List.replicate (3 - (lg_sl ([.ref (b 6 1), .ref (b 0 0)])).length) Slot.unset).toArray = ls at hl ⊢
  have hl : lv_has ls 3 [(0, .ref (b 6 1)), (1, .ref (b 0 0))] := hl
  refine lv_aload_n hx hb dX3_push_0 rfl (lv_at hl 0 rfl) ?_
  refine va_get (D := D) (ci := 1) (v := .int 2) (C := RX3) (T := TX3) (N := 2) hx hb hA in_wsX30 hown hK hP 1 rfl rfl 1 (by decide) (hA _ aF_RX3_18) (fun _ h => h) rfl dX3_push_1 ?_
  refine lv_iconst (v := 4) hx hb dX3_push_4 (by decide) ?_
  refine lv_icmp_lt (tgt := 12) hx hb dX3_push_5 (by decide) (fun _ => ?_) (fun hc => absurd (by decide) hc)
  have hDq := hD0
  have hAq : ∀ q, xA b q → xA b q := fun _ h => h
  refine lv_aload_n hx hb dX3_push_12 rfl (lv_at hl 0 rfl) ?_
  refine lv_aload_n hx hb dX3_push_13 rfl (lv_at hl 0 rfl) ?_
  refine va_get (D := D) (ci := 1) (v := .int 2) (C := RX3) (T := TX3) (N := 2) hx hb hA in_wsX30 hown hK hP 1 rfl rfl 1 (by decide) (hA _ aF_RX3_18) (fun _ h => h) rfl dX3_push_14 ?_
  refine lv_topi (fun y ey => ?_)
  obtain rfl : y = 2 := ey.trans (by decide)
  refine k_X3_stateAt_2 (b := b) S aM_RX3_25 ⟨Nat.le_of_ble_eq_true rfl, Nat.le_of_ble_eq_true rfl⟩ ⟨Nat.zero_le _, Nat.zero_le _⟩ hP hK hDq hl.1 (Nat.le_of_ble_eq_true rfl) dX3_push_17 ?_
  refine lv_astore_n (lv' := [(2, .ref (b 4 0)), (0, .ref (b 6 1)), (1, .ref (b 0 0))]) hx hb dX3_push_20 rfl hl (by decide) rfl (fun ls hl => ?_)
  refine lv_aload_n hx hb dX3_push_21 rfl (lv_at hl 0 rfl) ?_
  refine lv_ifnull hx hb dX3_push_22 ?_
  refine lv_aload_n hx hb dX3_push_25 rfl (lv_at hl 0 rfl) ?_
  refine lv_aload_n hx hb dX3_push_26 rfl (lv_at hl 2 rfl) ?_
  refine fx_runVv (n := 1) (C := RX2) (As := [.ref (b 0 0)]) S (c_X2_copyFrom l D cI (xPa (b 4) (b 0)) N (xPm (e0 2) u0) χ hF) (P_pre (q0 := 0) (ci := 0) (X_k hK) (X_p_push2 hP) (X_d_push2 hDq _) rfl rfl) hS (fun q h => hAq q (X_a_push2 h)) aM_RX3_29 aI_X2_copyFrom aV_X2_copyFrom aN_RX2 aC_X2_copyFrom rfl rfl (by decide +kernel) rfl ⟨Nat.le_of_ble_eq_true rfl, Nat.le_of_ble_eq_true rfl⟩ ⟨Nat.zero_le _, Nat.zero_le _⟩ hl.1 (Nat.le_of_ble_eq_true rfl) dX3_push_27 (fun _ t H1 locs ht _ hB hk hz hS => ?_)
  have hP := X_set_push2 hP hDq hk (by rw [← ht]; exact hB)
  refine lv_aload_n hx hb dX3_push_30 rfl (lv_at hl 1 rfl) ?_
  refine lv_dup hx hb dX3_push_31 rfl ?_
  refine va_get (D := D) (ci := 1) (v := .int 2) (C := RX3) (T := TX3) (N := 2) hx hb hA in_wsX30 hown hK hP 1 rfl rfl 1 (by decide) (hA _ aF_RX3_18) (fun _ h => h) rfl dX3_push_32 ?_
  refine lv_iconst (v := 1) hx hb dX3_push_35 (by decide) ?_
  refine lv_iadd hx hb dX3_push_36 ?_
  refine lv_topi (fun y ey => ?_)
  obtain rfl : y = 3 := ey.trans (by decide)
  refine va_put (D := D) (ci := 1) (v := .int 3) (ty := .int) (C := RX3) (T := TX3) (N := 2) hx hb hA in_wsX30 tyX3 tyX3_ok nmX3 hown hK hP (fm_D (ws := xW cI cF b u0 u1 (e0, 2) τ) rfl (fm_DA (B := xA b) hDq (fun q h => hAq q h))) hS 1 rfl rfl 1 (by decide) (hA _ aF_RX3_18) (fun _ h => h) rfl (by decide +kernel) rfl rfl (Nat.le_of_ble_eq_true rfl) dX3_push_37 (fun H2 locs hP _ hS => ?_)
  have hP : va_P D vwCl (xW cI cF b (xsh χ) u1 (hup (e0, 3) 2 χ) τ) H2 := hP
  exact W.vret hx hb hr (fun t ht hW => ⟨⟨(), rfl, trivial, by show va_P _ _ _ t.heap; rw [ht]; exact hP⟩, hS.F ht⟩) hS.2.2 dX3_push_40
set_option maxHeartbeats 4000000 in
set_option maxRecDepth 100000 in
theorem c_X3_push_3 (l : Launch) (D : va_G) (cI cF : ClassId) (b : Bf) (u0 u1 : M2) (e0 : Nat → M2) (τ : M2) (N : Nat) (χ : M2) (hF : G_X2_copyFrom N (xPm (e0 3) u0) = some χ) : Met l yX3_push (wsA yX3_push cX3_push 3 none) { frames := 2, cells := 0, slots := 0, locals := 60 } (va_Pc [.ref (b 6 1), .ref (b 0 0)] (xH D cI cF b u0 u1 (e0, 3) τ)) (va_Qv (fun (_ : Unit) => True) (fun _ t => va_P D vwCl (xW cI cF b (xsh χ) u1 (hup (e0, 4) 3 χ) τ) t.heap) (xA b)) 0 0 (xA b) := by
  refine Met.ofW (cc := cX3_push) (maxL := 3) (ret := none) (by decide) rfl ?_
  intro p e s m args below meth c s₁ B hml hpre
  obtain ⟨rfl, hP, hK, hD0⟩ := hpre
  have hx := B.exec
  have hb := B.bytes
  have hr := B.returns
  have hA : ∀ w ∈ AW, w.before _ s = true := fun w h => atoms_spec (ws := wsA yX3_push cX3_push 3 none) B.pre w (List.mem_cons_of_mem _ h)
  have hown : s.vm.findClass RX3 = some m.cls := findClass_of_methodNamed B.named
  have hlocks := B.notSynchronized
  have hDT := X_D hD0
  have hS : va_S (xA b) s.heap s.heap [] := va_S.rf
  have S : CallFix p m c cX3_push 3 s ([.ref (b 6 1), .ref (b 0 0)] : List Value).toArray AW RX3 := ⟨hx, hb, hml, hown, hA⟩
  have hl := lv_entry ([.ref (b 6 1), .ref (b 0 0)]) (n := 3) (Nat.le_of_ble_eq_true rfl)
  rw [lg_entry_eq]
  generalize (lg_sl ([.ref (b 6 1), .ref (b 0 0)]) ++ List.replicate (3 - (lg_sl ([.ref (b 6 1), .ref (b 0 0)])).length) Slot.unset).toArray = ls at hl ⊢
  have hl : lv_has ls 3 [(0, .ref (b 6 1)), (1, .ref (b 0 0))] := hl
  refine lv_aload_n hx hb dX3_push_0 rfl (lv_at hl 0 rfl) ?_
  refine va_get (D := D) (ci := 1) (v := .int 3) (C := RX3) (T := TX3) (N := 2) hx hb hA in_wsX30 hown hK hP 1 rfl rfl 1 (by decide) (hA _ aF_RX3_18) (fun _ h => h) rfl dX3_push_1 ?_
  refine lv_iconst (v := 4) hx hb dX3_push_4 (by decide) ?_
  refine lv_icmp_lt (tgt := 12) hx hb dX3_push_5 (by decide) (fun _ => ?_) (fun hc => absurd (by decide) hc)
  have hDq := hD0
  have hAq : ∀ q, xA b q → xA b q := fun _ h => h
  refine lv_aload_n hx hb dX3_push_12 rfl (lv_at hl 0 rfl) ?_
  refine lv_aload_n hx hb dX3_push_13 rfl (lv_at hl 0 rfl) ?_
  refine va_get (D := D) (ci := 1) (v := .int 3) (C := RX3) (T := TX3) (N := 2) hx hb hA in_wsX30 hown hK hP 1 rfl rfl 1 (by decide) (hA _ aF_RX3_18) (fun _ h => h) rfl dX3_push_14 ?_
  refine lv_topi (fun y ey => ?_)
  obtain rfl : y = 3 := ey.trans (by decide)
  refine k_X3_stateAt_3 (b := b) S aM_RX3_25 ⟨Nat.le_of_ble_eq_true rfl, Nat.le_of_ble_eq_true rfl⟩ ⟨Nat.zero_le _, Nat.zero_le _⟩ hP hK hDq hl.1 (Nat.le_of_ble_eq_true rfl) dX3_push_17 ?_
  refine lv_astore_n (lv' := [(2, .ref (b 5 0)), (0, .ref (b 6 1)), (1, .ref (b 0 0))]) hx hb dX3_push_20 rfl hl (by decide) rfl (fun ls hl => ?_)
  refine lv_aload_n hx hb dX3_push_21 rfl (lv_at hl 0 rfl) ?_
  refine lv_ifnull hx hb dX3_push_22 ?_
  refine lv_aload_n hx hb dX3_push_25 rfl (lv_at hl 0 rfl) ?_
  refine lv_aload_n hx hb dX3_push_26 rfl (lv_at hl 2 rfl) ?_
  refine fx_runVv (n := 1) (C := RX2) (As := [.ref (b 0 0)]) S (c_X2_copyFrom l D cI (xPa (b 5) (b 0)) N (xPm (e0 3) u0) χ hF) (P_pre (q0 := 0) (ci := 0) (X_k hK) (X_p_push3 hP) (X_d_push3 hDq _) rfl rfl) hS (fun q h => hAq q (X_a_push3 h)) aM_RX3_29 aI_X2_copyFrom aV_X2_copyFrom aN_RX2 aC_X2_copyFrom rfl rfl (by decide +kernel) rfl ⟨Nat.le_of_ble_eq_true rfl, Nat.le_of_ble_eq_true rfl⟩ ⟨Nat.zero_le _, Nat.zero_le _⟩ hl.1 (Nat.le_of_ble_eq_true rfl) dX3_push_27 (fun _ t H1 locs ht _ hB hk hz hS => ?_)
  have hP := X_set_push3 hP hDq hk (by rw [← ht]; exact hB)
  refine lv_aload_n hx hb dX3_push_30 rfl (lv_at hl 1 rfl) ?_
  refine lv_dup hx hb dX3_push_31 rfl ?_
  refine va_get (D := D) (ci := 1) (v := .int 3) (C := RX3) (T := TX3) (N := 2) hx hb hA in_wsX30 hown hK hP 1 rfl rfl 1 (by decide) (hA _ aF_RX3_18) (fun _ h => h) rfl dX3_push_32 ?_
  refine lv_iconst (v := 1) hx hb dX3_push_35 (by decide) ?_
  refine lv_iadd hx hb dX3_push_36 ?_
  refine lv_topi (fun y ey => ?_)
  obtain rfl : y = 4 := ey.trans (by decide)
  refine va_put (D := D) (ci := 1) (v := .int 4) (ty := .int) (C := RX3) (T := TX3) (N := 2) hx hb hA in_wsX30 tyX3 tyX3_ok nmX3 hown hK hP (fm_D (ws := xW cI cF b u0 u1 (e0, 3) τ) rfl (fm_DA (B := xA b) hDq (fun q h => hAq q h))) hS 1 rfl rfl 1 (by decide) (hA _ aF_RX3_18) (fun _ h => h) rfl (by decide +kernel) rfl rfl (Nat.le_of_ble_eq_true rfl) dX3_push_37 (fun H2 locs hP _ hS => ?_)
  have hP : va_P D vwCl (xW cI cF b (xsh χ) u1 (hup (e0, 4) 3 χ) τ) H2 := hP
  exact W.vret hx hb hr (fun t ht hW => ⟨⟨(), rfl, trivial, by show va_P _ _ _ t.heap; rw [ht]; exact hP⟩, hS.F ht⟩) hS.2.2 dX3_push_40
set_option maxHeartbeats 4000000 in
set_option maxRecDepth 100000 in
theorem c_X3_push_4 (l : Launch) (D : va_G) (cI cF : ClassId) (b : Bf) (u0 u1 : M2) (e0 : Nat → M2) (τ : M2) (N : Nat) (χ : M2) (hF : G_X2_copyFrom N (xPm ((eRot e0) 3) u0) = some χ) : Met l yX3_push (wsA yX3_push cX3_push 3 none) { frames := 2, cells := 0, slots := 0, locals := 60 } (va_Pc [.ref (b 6 1), .ref (b 0 0)] (xH D cI cF b u0 u1 (e0, 4) τ)) (va_Qv (fun (_ : Unit) => True) (fun _ t => va_P D vwCl (xW cI cF (xRot b) (xsh χ) u1 (hup (eRot e0, 4) 3 χ) τ) t.heap) (xA b)) 0 0 (xA b) := by
  refine Met.ofW (cc := cX3_push) (maxL := 3) (ret := none) (by decide) rfl ?_
  intro p e s m args below meth c s₁ B hml hpre
  obtain ⟨rfl, hP, hK, hD0⟩ := hpre
  have hx := B.exec
  have hb := B.bytes
  have hr := B.returns
  have hA : ∀ w ∈ AW, w.before _ s = true := fun w h => atoms_spec (ws := wsA yX3_push cX3_push 3 none) B.pre w (List.mem_cons_of_mem _ h)
  have hown : s.vm.findClass RX3 = some m.cls := findClass_of_methodNamed B.named
  have hlocks := B.notSynchronized
  have hDT := X_D hD0
  have hS : va_S (xA b) s.heap s.heap [] := va_S.rf
  have S : CallFix p m c cX3_push 3 s ([.ref (b 6 1), .ref (b 0 0)] : List Value).toArray AW RX3 := ⟨hx, hb, hml, hown, hA⟩
  have hl := lv_entry ([.ref (b 6 1), .ref (b 0 0)]) (n := 3) (Nat.le_of_ble_eq_true rfl)
  rw [lg_entry_eq]
  generalize (lg_sl ([.ref (b 6 1), .ref (b 0 0)]) ++ List.replicate (3 - (lg_sl ([.ref (b 6 1), .ref (b 0 0)])).length) Slot.unset).toArray = ls at hl ⊢
  have hl : lv_has ls 3 [(0, .ref (b 6 1)), (1, .ref (b 0 0))] := hl
  refine lv_aload_n hx hb dX3_push_0 rfl (lv_at hl 0 rfl) ?_
  refine va_get (D := D) (ci := 1) (v := .int 4) (C := RX3) (T := TX3) (N := 2) hx hb hA in_wsX30 hown hK hP 1 rfl rfl 1 (by decide) (hA _ aF_RX3_18) (fun _ h => h) rfl dX3_push_1 ?_
  refine lv_iconst (v := 4) hx hb dX3_push_4 (by decide) ?_
  refine lv_icmp_lt (tgt := 12) hx hb dX3_push_5 (by decide) (fun hc => absurd hc (by decide)) (fun _ => ?_)
  refine lv_aload_n hx hb dX3_push_8 rfl (lv_at hl 0 rfl) ?_
  refine fx_runVv (n := 0) (C := RX3) (As := []) S (c_X3_dropOldest l D cI cF b u0 u1 e0 4 τ) (xH_pre (q0 := 1) (ci := 1) hK hP hD0 rfl rfl) hS (fun _ h => h) aM_RX3_22 aI_X3_dropOldest aV_X3_dropOldest aN_RX3 aC_X3_dropOldest rfl rfl (by decide +kernel) rfl ⟨Nat.le_of_ble_eq_true rfl, Nat.le_of_ble_eq_true rfl⟩ ⟨Nat.zero_le _, Nat.zero_le _⟩ hl.1 (Nat.le_of_ble_eq_true rfl) dX3_push_9 (fun _ t H1 locs ht _ hB hk hz hS => ?_)
  have hP : va_P D vwCl (xW cI cF (xRot b) u0 u1 (eRot e0, 4 - 1) τ) H1 := by rw [← ht]; exact hB
  have hDq : va_D (fun _ => True) (xW cI cF (xRot b) u0 u1 (eRot e0, 4 - 1) τ) := xRot_D hD0
  have hAq : ∀ q, xA (xRot b) q → xA b q := fun _ h => xRot_A h
  refine lv_aload_n hx hb dX3_push_12 rfl (lv_at hl 0 rfl) ?_
  refine lv_aload_n hx hb dX3_push_13 rfl (lv_at hl 0 rfl) ?_
  refine va_get (D := D) (ci := 1) (v := .int (4 - 1)) (C := RX3) (T := TX3) (N := 2) hx hb hA in_wsX30 hown hK hP 1 rfl rfl 1 (by decide) (hA _ aF_RX3_18) (fun _ h => h) rfl dX3_push_14 ?_
  refine lv_topi (fun y ey => ?_)
  obtain rfl : y = 3 := ey.trans (by decide)
  refine k_X3_stateAt_3 (b := xRot b) S aM_RX3_25 ⟨Nat.le_of_ble_eq_true rfl, Nat.le_of_ble_eq_true rfl⟩ ⟨Nat.zero_le _, Nat.zero_le _⟩ hP hK hDq hl.1 (Nat.le_of_ble_eq_true rfl) dX3_push_17 ?_
  refine lv_astore_n (lv' := [(2, .ref ((xRot b) 5 0)), (0, .ref (b 6 1)), (1, .ref (b 0 0))]) hx hb dX3_push_20 rfl hl (by decide) rfl (fun ls hl => ?_)
  refine lv_aload_n hx hb dX3_push_21 rfl (lv_at hl 0 rfl) ?_
  refine lv_ifnull hx hb dX3_push_22 ?_
  refine lv_aload_n hx hb dX3_push_25 rfl (lv_at hl 0 rfl) ?_
  refine lv_aload_n hx hb dX3_push_26 rfl (lv_at hl 2 rfl) ?_
  refine fx_runVv (n := 1) (C := RX2) (As := [.ref (b 0 0)]) S (c_X2_copyFrom l D cI (xPa ((xRot b) 5) (b 0)) N (xPm ((eRot e0) 3) u0) χ hF) (P_pre (q0 := 0) (ci := 0) (X_k hK) (X_p_push3 hP) (X_d_push3 hDq _) rfl rfl) hS (fun q h => hAq q (X_a_push3 h)) aM_RX3_29 aI_X2_copyFrom aV_X2_copyFrom aN_RX2 aC_X2_copyFrom rfl rfl (by decide +kernel) rfl ⟨Nat.le_of_ble_eq_true rfl, Nat.le_of_ble_eq_true rfl⟩ ⟨Nat.zero_le _, Nat.zero_le _⟩ hl.1 (Nat.le_of_ble_eq_true rfl) dX3_push_27 (fun _ t H1 locs ht _ hB hk hz hS => ?_)
  have hP := X_set_push3 hP hDq hk (by rw [← ht]; exact hB)
  refine lv_aload_n hx hb dX3_push_30 rfl (lv_at hl 1 rfl) ?_
  refine lv_dup hx hb dX3_push_31 rfl ?_
  refine va_get (D := D) (ci := 1) (v := .int (4 - 1)) (C := RX3) (T := TX3) (N := 2) hx hb hA in_wsX30 hown hK hP 1 rfl rfl 1 (by decide) (hA _ aF_RX3_18) (fun _ h => h) rfl dX3_push_32 ?_
  refine lv_iconst (v := 1) hx hb dX3_push_35 (by decide) ?_
  refine lv_iadd hx hb dX3_push_36 ?_
  refine lv_topi (fun y ey => ?_)
  obtain rfl : y = 4 := ey.trans (by decide)
  refine va_put (D := D) (ci := 1) (v := .int 4) (ty := .int) (C := RX3) (T := TX3) (N := 2) hx hb hA in_wsX30 tyX3 tyX3_ok nmX3 hown hK hP (fm_D (ws := xW cI cF (xRot b) u0 u1 (eRot e0, (4 - 1)) τ) rfl (fm_DA (B := xA b) hDq (fun q h => hAq q h))) hS 1 rfl rfl 1 (by decide) (hA _ aF_RX3_18) (fun _ h => h) rfl (by decide +kernel) rfl rfl (Nat.le_of_ble_eq_true rfl) dX3_push_37 (fun H2 locs hP _ hS => ?_)
  have hP : va_P D vwCl (xW cI cF (xRot b) (xsh χ) u1 (hup (eRot e0, 4) 3 χ) τ) H2 := hP
  exact W.vret hx hb hr (fun t ht hW => ⟨⟨(), rfl, trivial, by show va_P _ _ _ t.heap; rw [ht]; exact hP⟩, hS.F ht⟩) hS.2.2 dX3_push_40
set_option maxHeartbeats 4000000 in
set_option maxRecDepth 100000 in
theorem c_X3_pop_1 (l : Launch) (D : va_G) (cI cF : ClassId) (b : Bf) (u0 u1 : M2) (e0 : Nat → M2) (τ : M2) (N : Nat) (χ : M2) (hF : G_X2_copyFrom N (xPm u0 (e0 0)) = some χ) : Met l yX3_pop (wsA yX3_pop cX3_pop 3 (some .int)) { frames := 2, cells := 0, slots := 0, locals := 60 } (va_Pc [.ref (b 6 1), .ref (b 0 0)] (xH D cI cF b u0 u1 (e0, 1) τ)) (va_Qi (fun (r : Int32) (_ : Unit) => r = 0) (fun _ t => va_P D vwCl (xW cI cF b χ u1 (hup (e0, 0) 0 (xsh χ)) τ) t.heap) (xA b)) 0 0 (xA b) := by
  refine Met.ofW (cc := cX3_pop) (maxL := 3) (ret := (some .int)) (by decide) rfl ?_
  intro p e s m args below meth c s₁ B hml hpre
  obtain ⟨rfl, hP, hK, hD0⟩ := hpre
  have hx := B.exec
  have hb := B.bytes
  have hr := B.returns
  have hA : ∀ w ∈ AW, w.before _ s = true := fun w h => atoms_spec (ws := wsA yX3_pop cX3_pop 3 (some .int)) B.pre w (List.mem_cons_of_mem _ h)
  have hown : s.vm.findClass RX3 = some m.cls := findClass_of_methodNamed B.named
  have hlocks := B.notSynchronized
  have hDT := X_D hD0
  have hS : va_S (xA b) s.heap s.heap [] := va_S.rf
  have S : CallFix p m c cX3_pop 3 s ([.ref (b 6 1), .ref (b 0 0)] : List Value).toArray AW RX3 := ⟨hx, hb, hml, hown, hA⟩
  have hl := lv_entry ([.ref (b 6 1), .ref (b 0 0)]) (n := 3) (Nat.le_of_ble_eq_true rfl)
  rw [lg_entry_eq]
  generalize (lg_sl ([.ref (b 6 1), .ref (b 0 0)]) ++ List.replicate (3 - (lg_sl ([.ref (b 6 1), .ref (b 0 0)])).length) Slot.unset).toArray = ls at hl ⊢
  have hl : lv_has ls 3 [(0, .ref (b 6 1)), (1, .ref (b 0 0))] := hl
  refine lv_aload_n hx hb dX3_pop_0 rfl (lv_at hl 0 rfl) ?_
  refine lv_aload_n hx hb dX3_pop_1 rfl (lv_at hl 0 rfl) ?_
  refine va_get (D := D) (ci := 1) (v := .int 1) (C := RX3) (T := TX3) (N := 2) hx hb hA in_wsX30 hown hK hP 1 rfl rfl 1 (by decide) (hA _ aF_RX3_18) (fun _ h => h) rfl dX3_pop_2 ?_
  refine lv_iconst (v := 1) hx hb dX3_pop_5 (by decide) ?_
  refine lv_isub hx hb dX3_pop_6 ?_
  refine lv_topi (fun y ey => ?_)
  obtain rfl : y = 0 := ey.trans (by decide)
  refine k_X3_stateAt_0 (b := b) S aM_RX3_25 ⟨Nat.le_of_ble_eq_true rfl, Nat.le_of_ble_eq_true rfl⟩ ⟨Nat.zero_le _, Nat.zero_le _⟩ hP hK hD0 hl.1 (Nat.le_of_ble_eq_true rfl) dX3_pop_7 ?_
  refine lv_astore_n (lv' := [(2, .ref (b 2 0)), (0, .ref (b 6 1)), (1, .ref (b 0 0))]) hx hb dX3_pop_10 rfl hl (by decide) rfl (fun ls hl => ?_)
  refine lv_aload_n hx hb dX3_pop_11 rfl (lv_at hl 0 rfl) ?_
  refine lv_ifnull hx hb dX3_pop_12 ?_
  refine lv_aload_n hx hb dX3_pop_15 rfl (lv_at hl 2 rfl) ?_
  refine lv_aload_n hx hb dX3_pop_16 rfl (lv_at hl 0 rfl) ?_
  refine fx_runVv (n := 1) (C := RX2) (As := [.ref (b 2 0)]) S (c_X2_copyFrom l D cI (xPa (b 0) (b 2)) N (xPm u0 (e0 0)) χ hF) (P_pre (q0 := 0) (ci := 0) (X_k hK) (X_p_pop0 hP) (X_d_pop0 hD0 _) rfl rfl) hS (fun q h => X_a_pop0 h) aM_RX3_29 aI_X2_copyFrom aV_X2_copyFrom aN_RX2 aC_X2_copyFrom rfl rfl (by decide +kernel) rfl ⟨Nat.le_of_ble_eq_true rfl, Nat.le_of_ble_eq_true rfl⟩ ⟨Nat.zero_le _, Nat.zero_le _⟩ hl.1 (Nat.le_of_ble_eq_true rfl) dX3_pop_17 (fun _ t H1 locs ht _ hB hk hz hS => ?_)
  have hP := X_set_pop0 hP hD0 hk (by rw [← ht]; exact hB)
  refine lv_aload_n hx hb dX3_pop_20 rfl (lv_at hl 1 rfl) ?_
  refine lv_dup hx hb dX3_pop_21 rfl ?_
  refine va_get (D := D) (ci := 1) (v := .int 1) (C := RX3) (T := TX3) (N := 2) hx hb hA in_wsX30 hown hK hP 1 rfl rfl 1 (by decide) (hA _ aF_RX3_18) (fun _ h => h) rfl dX3_pop_22 ?_
  refine lv_iconst (v := 1) hx hb dX3_pop_25 (by decide) ?_
  refine lv_isub hx hb dX3_pop_26 ?_
  refine lv_topi (fun y ey => ?_)
  obtain rfl : y = 0 := ey.trans (by decide)
  refine va_put (D := D) (ci := 1) (v := .int 0) (ty := .int) (C := RX3) (T := TX3) (N := 2) hx hb hA in_wsX30 tyX3 tyX3_ok nmX3 hown hK hP (fm_D (ws := xW cI cF b u0 u1 (e0, 1) τ) rfl (xA_D hD0)) hS 1 rfl rfl 1 (by decide) (hA _ aF_RX3_18) (fun _ h => h) rfl (by decide +kernel) rfl rfl (Nat.le_of_ble_eq_true rfl) dX3_pop_27 (fun H2 locs hP _ hS => ?_)
  have hP : va_P D vwCl (xW cI cF b χ u1 (hup (e0, 0) 0 (xsh χ)) τ) H2 := hP
  refine lv_aload_n hx hb dX3_pop_30 rfl (lv_at hl 1 rfl) ?_
  refine va_get (D := D) (ci := 1) (v := .int 0) (C := RX3) (T := TX3) (N := 2) hx hb hA in_wsX30 hown hK hP 1 rfl rfl 1 (by decide) (hA _ aF_RX3_18) (fun _ h => h) rfl dX3_pop_31 ?_
  exact W.iret (v := 0) hx hb hr (fun t ht hW => ⟨⟨_, (), rfl, rfl, by show va_P _ _ _ t.heap; rw [ht]; exact hP⟩, hS.F ht⟩) hS.2.2 dX3_pop_34
set_option maxHeartbeats 4000000 in
set_option maxRecDepth 100000 in
theorem c_X3_pop_2 (l : Launch) (D : va_G) (cI cF : ClassId) (b : Bf) (u0 u1 : M2) (e0 : Nat → M2) (τ : M2) (N : Nat) (χ : M2) (hF : G_X2_copyFrom N (xPm u0 (e0 1)) = some χ) : Met l yX3_pop (wsA yX3_pop cX3_pop 3 (some .int)) { frames := 2, cells := 0, slots := 0, locals := 60 } (va_Pc [.ref (b 6 1), .ref (b 0 0)] (xH D cI cF b u0 u1 (e0, 2) τ)) (va_Qi (fun (r : Int32) (_ : Unit) => r = 1) (fun _ t => va_P D vwCl (xW cI cF b χ u1 (hup (e0, 1) 1 (xsh χ)) τ) t.heap) (xA b)) 0 0 (xA b) := by
  refine Met.ofW (cc := cX3_pop) (maxL := 3) (ret := (some .int)) (by decide) rfl ?_
  intro p e s m args below meth c s₁ B hml hpre
  obtain ⟨rfl, hP, hK, hD0⟩ := hpre
  have hx := B.exec
  have hb := B.bytes
  have hr := B.returns
  have hA : ∀ w ∈ AW, w.before _ s = true := fun w h => atoms_spec (ws := wsA yX3_pop cX3_pop 3 (some .int)) B.pre w (List.mem_cons_of_mem _ h)
  have hown : s.vm.findClass RX3 = some m.cls := findClass_of_methodNamed B.named
  have hlocks := B.notSynchronized
  have hDT := X_D hD0
  have hS : va_S (xA b) s.heap s.heap [] := va_S.rf
  have S : CallFix p m c cX3_pop 3 s ([.ref (b 6 1), .ref (b 0 0)] : List Value).toArray AW RX3 := ⟨hx, hb, hml, hown, hA⟩
  have hl := lv_entry ([.ref (b 6 1), .ref (b 0 0)]) (n := 3) (Nat.le_of_ble_eq_true rfl)
  rw [lg_entry_eq]
  generalize (lg_sl ([.ref (b 6 1), .ref (b 0 0)]) ++ List.replicate (3 - (lg_sl ([.ref (b 6 1), .ref (b 0 0)])).length) Slot.unset).toArray = ls at hl ⊢
  have hl : lv_has ls 3 [(0, .ref (b 6 1)), (1, .ref (b 0 0))] := hl
  refine lv_aload_n hx hb dX3_pop_0 rfl (lv_at hl 0 rfl) ?_
  refine lv_aload_n hx hb dX3_pop_1 rfl (lv_at hl 0 rfl) ?_
  refine va_get (D := D) (ci := 1) (v := .int 2) (C := RX3) (T := TX3) (N := 2) hx hb hA in_wsX30 hown hK hP 1 rfl rfl 1 (by decide) (hA _ aF_RX3_18) (fun _ h => h) rfl dX3_pop_2 ?_
  refine lv_iconst (v := 1) hx hb dX3_pop_5 (by decide) ?_
  refine lv_isub hx hb dX3_pop_6 ?_
  refine lv_topi (fun y ey => ?_)
  obtain rfl : y = 1 := ey.trans (by decide)
  refine k_X3_stateAt_1 (b := b) S aM_RX3_25 ⟨Nat.le_of_ble_eq_true rfl, Nat.le_of_ble_eq_true rfl⟩ ⟨Nat.zero_le _, Nat.zero_le _⟩ hP hK hD0 hl.1 (Nat.le_of_ble_eq_true rfl) dX3_pop_7 ?_
  refine lv_astore_n (lv' := [(2, .ref (b 3 0)), (0, .ref (b 6 1)), (1, .ref (b 0 0))]) hx hb dX3_pop_10 rfl hl (by decide) rfl (fun ls hl => ?_)
  refine lv_aload_n hx hb dX3_pop_11 rfl (lv_at hl 0 rfl) ?_
  refine lv_ifnull hx hb dX3_pop_12 ?_
  refine lv_aload_n hx hb dX3_pop_15 rfl (lv_at hl 2 rfl) ?_
  refine lv_aload_n hx hb dX3_pop_16 rfl (lv_at hl 0 rfl) ?_
  refine fx_runVv (n := 1) (C := RX2) (As := [.ref (b 3 0)]) S (c_X2_copyFrom l D cI (xPa (b 0) (b 3)) N (xPm u0 (e0 1)) χ hF) (P_pre (q0 := 0) (ci := 0) (X_k hK) (X_p_pop1 hP) (X_d_pop1 hD0 _) rfl rfl) hS (fun q h => X_a_pop1 h) aM_RX3_29 aI_X2_copyFrom aV_X2_copyFrom aN_RX2 aC_X2_copyFrom rfl rfl (by decide +kernel) rfl ⟨Nat.le_of_ble_eq_true rfl, Nat.le_of_ble_eq_true rfl⟩ ⟨Nat.zero_le _, Nat.zero_le _⟩ hl.1 (Nat.le_of_ble_eq_true rfl) dX3_pop_17 (fun _ t H1 locs ht _ hB hk hz hS => ?_)
  have hP := X_set_pop1 hP hD0 hk (by rw [← ht]; exact hB)
  refine lv_aload_n hx hb dX3_pop_20 rfl (lv_at hl 1 rfl) ?_
  refine lv_dup hx hb dX3_pop_21 rfl ?_
  refine va_get (D := D) (ci := 1) (v := .int 2) (C := RX3) (T := TX3) (N := 2) hx hb hA in_wsX30 hown hK hP 1 rfl rfl 1 (by decide) (hA _ aF_RX3_18) (fun _ h => h) rfl dX3_pop_22 ?_
  refine lv_iconst (v := 1) hx hb dX3_pop_25 (by decide) ?_
  refine lv_isub hx hb dX3_pop_26 ?_
  refine lv_topi (fun y ey => ?_)
  obtain rfl : y = 1 := ey.trans (by decide)
  refine va_put (D := D) (ci := 1) (v := .int 1) (ty := .int) (C := RX3) (T := TX3) (N := 2) hx hb hA in_wsX30 tyX3 tyX3_ok nmX3 hown hK hP (fm_D (ws := xW cI cF b u0 u1 (e0, 2) τ) rfl (xA_D hD0)) hS 1 rfl rfl 1 (by decide) (hA _ aF_RX3_18) (fun _ h => h) rfl (by decide +kernel) rfl rfl (Nat.le_of_ble_eq_true rfl) dX3_pop_27 (fun H2 locs hP _ hS => ?_)
  have hP : va_P D vwCl (xW cI cF b χ u1 (hup (e0, 1) 1 (xsh χ)) τ) H2 := hP
  refine lv_aload_n hx hb dX3_pop_30 rfl (lv_at hl 1 rfl) ?_
  refine va_get (D := D) (ci := 1) (v := .int 1) (C := RX3) (T := TX3) (N := 2) hx hb hA in_wsX30 hown hK hP 1 rfl rfl 1 (by decide) (hA _ aF_RX3_18) (fun _ h => h) rfl dX3_pop_31 ?_
  exact W.iret (v := 1) hx hb hr (fun t ht hW => ⟨⟨_, (), rfl, rfl, by show va_P _ _ _ t.heap; rw [ht]; exact hP⟩, hS.F ht⟩) hS.2.2 dX3_pop_34
set_option maxHeartbeats 4000000 in
set_option maxRecDepth 100000 in
theorem c_X3_pop_3 (l : Launch) (D : va_G) (cI cF : ClassId) (b : Bf) (u0 u1 : M2) (e0 : Nat → M2) (τ : M2) (N : Nat) (χ : M2) (hF : G_X2_copyFrom N (xPm u0 (e0 2)) = some χ) : Met l yX3_pop (wsA yX3_pop cX3_pop 3 (some .int)) { frames := 2, cells := 0, slots := 0, locals := 60 } (va_Pc [.ref (b 6 1), .ref (b 0 0)] (xH D cI cF b u0 u1 (e0, 3) τ)) (va_Qi (fun (r : Int32) (_ : Unit) => r = 2) (fun _ t => va_P D vwCl (xW cI cF b χ u1 (hup (e0, 2) 2 (xsh χ)) τ) t.heap) (xA b)) 0 0 (xA b) := by
  refine Met.ofW (cc := cX3_pop) (maxL := 3) (ret := (some .int)) (by decide) rfl ?_
  intro p e s m args below meth c s₁ B hml hpre
  obtain ⟨rfl, hP, hK, hD0⟩ := hpre
  have hx := B.exec
  have hb := B.bytes
  have hr := B.returns
  have hA : ∀ w ∈ AW, w.before _ s = true := fun w h => atoms_spec (ws := wsA yX3_pop cX3_pop 3 (some .int)) B.pre w (List.mem_cons_of_mem _ h)
  have hown : s.vm.findClass RX3 = some m.cls := findClass_of_methodNamed B.named
  have hlocks := B.notSynchronized
  have hDT := X_D hD0
  have hS : va_S (xA b) s.heap s.heap [] := va_S.rf
  have S : CallFix p m c cX3_pop 3 s ([.ref (b 6 1), .ref (b 0 0)] : List Value).toArray AW RX3 := ⟨hx, hb, hml, hown, hA⟩
  have hl := lv_entry ([.ref (b 6 1), .ref (b 0 0)]) (n := 3) (Nat.le_of_ble_eq_true rfl)
  rw [lg_entry_eq]
  generalize (lg_sl ([.ref (b 6 1), .ref (b 0 0)]) ++ List.replicate (3 - (lg_sl ([.ref (b 6 1), .ref (b 0 0)])).length) Slot.unset).toArray = ls at hl ⊢
  have hl : lv_has ls 3 [(0, .ref (b 6 1)), (1, .ref (b 0 0))] := hl
  refine lv_aload_n hx hb dX3_pop_0 rfl (lv_at hl 0 rfl) ?_
  refine lv_aload_n hx hb dX3_pop_1 rfl (lv_at hl 0 rfl) ?_
  refine va_get (D := D) (ci := 1) (v := .int 3) (C := RX3) (T := TX3) (N := 2) hx hb hA in_wsX30 hown hK hP 1 rfl rfl 1 (by decide) (hA _ aF_RX3_18) (fun _ h => h) rfl dX3_pop_2 ?_
  refine lv_iconst (v := 1) hx hb dX3_pop_5 (by decide) ?_
  refine lv_isub hx hb dX3_pop_6 ?_
  refine lv_topi (fun y ey => ?_)
  obtain rfl : y = 2 := ey.trans (by decide)
  refine k_X3_stateAt_2 (b := b) S aM_RX3_25 ⟨Nat.le_of_ble_eq_true rfl, Nat.le_of_ble_eq_true rfl⟩ ⟨Nat.zero_le _, Nat.zero_le _⟩ hP hK hD0 hl.1 (Nat.le_of_ble_eq_true rfl) dX3_pop_7 ?_
  refine lv_astore_n (lv' := [(2, .ref (b 4 0)), (0, .ref (b 6 1)), (1, .ref (b 0 0))]) hx hb dX3_pop_10 rfl hl (by decide) rfl (fun ls hl => ?_)
  refine lv_aload_n hx hb dX3_pop_11 rfl (lv_at hl 0 rfl) ?_
  refine lv_ifnull hx hb dX3_pop_12 ?_
  refine lv_aload_n hx hb dX3_pop_15 rfl (lv_at hl 2 rfl) ?_
  refine lv_aload_n hx hb dX3_pop_16 rfl (lv_at hl 0 rfl) ?_
  refine fx_runVv (n := 1) (C := RX2) (As := [.ref (b 4 0)]) S (c_X2_copyFrom l D cI (xPa (b 0) (b 4)) N (xPm u0 (e0 2)) χ hF) (P_pre (q0 := 0) (ci := 0) (X_k hK) (X_p_pop2 hP) (X_d_pop2 hD0 _) rfl rfl) hS (fun q h => X_a_pop2 h) aM_RX3_29 aI_X2_copyFrom aV_X2_copyFrom aN_RX2 aC_X2_copyFrom rfl rfl (by decide +kernel) rfl ⟨Nat.le_of_ble_eq_true rfl, Nat.le_of_ble_eq_true rfl⟩ ⟨Nat.zero_le _, Nat.zero_le _⟩ hl.1 (Nat.le_of_ble_eq_true rfl) dX3_pop_17 (fun _ t H1 locs ht _ hB hk hz hS => ?_)
  have hP := X_set_pop2 hP hD0 hk (by rw [← ht]; exact hB)
  refine lv_aload_n hx hb dX3_pop_20 rfl (lv_at hl 1 rfl) ?_
  refine lv_dup hx hb dX3_pop_21 rfl ?_
  refine va_get (D := D) (ci := 1) (v := .int 3) (C := RX3) (T := TX3) (N := 2) hx hb hA in_wsX30 hown hK hP 1 rfl rfl 1 (by decide) (hA _ aF_RX3_18) (fun _ h => h) rfl dX3_pop_22 ?_
  refine lv_iconst (v := 1) hx hb dX3_pop_25 (by decide) ?_
  refine lv_isub hx hb dX3_pop_26 ?_
  refine lv_topi (fun y ey => ?_)
  obtain rfl : y = 2 := ey.trans (by decide)
  refine va_put (D := D) (ci := 1) (v := .int 2) (ty := .int) (C := RX3) (T := TX3) (N := 2) hx hb hA in_wsX30 tyX3 tyX3_ok nmX3 hown hK hP (fm_D (ws := xW cI cF b u0 u1 (e0, 3) τ) rfl (xA_D hD0)) hS 1 rfl rfl 1 (by decide) (hA _ aF_RX3_18) (fun _ h => h) rfl (by decide +kernel) rfl rfl (Nat.le_of_ble_eq_true rfl) dX3_pop_27 (fun H2 locs hP _ hS => ?_)
  have hP : va_P D vwCl (xW cI cF b χ u1 (hup (e0, 2) 2 (xsh χ)) τ) H2 := hP
  refine lv_aload_n hx hb dX3_pop_30 rfl (lv_at hl 1 rfl) ?_
  refine va_get (D := D) (ci := 1) (v := .int 2) (C := RX3) (T := TX3) (N := 2) hx hb hA in_wsX30 hown hK hP 1 rfl rfl 1 (by decide) (hA _ aF_RX3_18) (fun _ h => h) rfl dX3_pop_31 ?_
  exact W.iret (v := 2) hx hb hr (fun t ht hW => ⟨⟨_, (), rfl, rfl, by show va_P _ _ _ t.heap; rw [ht]; exact hP⟩, hS.F ht⟩) hS.2.2 dX3_pop_34
set_option maxHeartbeats 4000000 in
set_option maxRecDepth 100000 in
theorem c_X3_pop_4 (l : Launch) (D : va_G) (cI cF : ClassId) (b : Bf) (u0 u1 : M2) (e0 : Nat → M2) (τ : M2) (N : Nat) (χ : M2) (hF : G_X2_copyFrom N (xPm u0 (e0 3)) = some χ) : Met l yX3_pop (wsA yX3_pop cX3_pop 3 (some .int)) { frames := 2, cells := 0, slots := 0, locals := 60 } (va_Pc [.ref (b 6 1), .ref (b 0 0)] (xH D cI cF b u0 u1 (e0, 4) τ)) (va_Qi (fun (r : Int32) (_ : Unit) => r = 3) (fun _ t => va_P D vwCl (xW cI cF b χ u1 (hup (e0, 3) 3 (xsh χ)) τ) t.heap) (xA b)) 0 0 (xA b) := by
  refine Met.ofW (cc := cX3_pop) (maxL := 3) (ret := (some .int)) (by decide) rfl ?_
  intro p e s m args below meth c s₁ B hml hpre
  obtain ⟨rfl, hP, hK, hD0⟩ := hpre
  have hx := B.exec
  have hb := B.bytes
  have hr := B.returns
  have hA : ∀ w ∈ AW, w.before _ s = true := fun w h => atoms_spec (ws := wsA yX3_pop cX3_pop 3 (some .int)) B.pre w (List.mem_cons_of_mem _ h)
  have hown : s.vm.findClass RX3 = some m.cls := findClass_of_methodNamed B.named
  have hlocks := B.notSynchronized
  have hDT := X_D hD0
  have hS : va_S (xA b) s.heap s.heap [] := va_S.rf
  have S : CallFix p m c cX3_pop 3 s ([.ref (b 6 1), .ref (b 0 0)] : List Value).toArray AW RX3 := ⟨hx, hb, hml, hown, hA⟩
  have hl := lv_entry ([.ref (b 6 1), .ref (b 0 0)]) (n := 3) (Nat.le_of_ble_eq_true rfl)
  rw [lg_entry_eq]
  generalize (lg_sl ([.ref (b 6 1), .ref (b 0 0)]) ++ List.replicate (3 - (lg_sl ([.ref (b 6 1), .ref (b 0 0)])).length) Slot.unset).toArray = ls at hl ⊢
  have hl : lv_has ls 3 [(0, .ref (b 6 1)), (1, .ref (b 0 0))] := hl
  refine lv_aload_n hx hb dX3_pop_0 rfl (lv_at hl 0 rfl) ?_
  refine lv_aload_n hx hb dX3_pop_1 rfl (lv_at hl 0 rfl) ?_
  refine va_get (D := D) (ci := 1) (v := .int 4) (C := RX3) (T := TX3) (N := 2) hx hb hA in_wsX30 hown hK hP 1 rfl rfl 1 (by decide) (hA _ aF_RX3_18) (fun _ h => h) rfl dX3_pop_2 ?_
  refine lv_iconst (v := 1) hx hb dX3_pop_5 (by decide) ?_
  refine lv_isub hx hb dX3_pop_6 ?_
  refine lv_topi (fun y ey => ?_)
  obtain rfl : y = 3 := ey.trans (by decide)
  refine k_X3_stateAt_3 (b := b) S aM_RX3_25 ⟨Nat.le_of_ble_eq_true rfl, Nat.le_of_ble_eq_true rfl⟩ ⟨Nat.zero_le _, Nat.zero_le _⟩ hP hK hD0 hl.1 (Nat.le_of_ble_eq_true rfl) dX3_pop_7 ?_
  refine lv_astore_n (lv' := [(2, .ref (b 5 0)), (0, .ref (b 6 1)), (1, .ref (b 0 0))]) hx hb dX3_pop_10 rfl hl (by decide) rfl (fun ls hl => ?_)
  refine lv_aload_n hx hb dX3_pop_11 rfl (lv_at hl 0 rfl) ?_
  refine lv_ifnull hx hb dX3_pop_12 ?_
  refine lv_aload_n hx hb dX3_pop_15 rfl (lv_at hl 2 rfl) ?_
  refine lv_aload_n hx hb dX3_pop_16 rfl (lv_at hl 0 rfl) ?_
  refine fx_runVv (n := 1) (C := RX2) (As := [.ref (b 5 0)]) S (c_X2_copyFrom l D cI (xPa (b 0) (b 5)) N (xPm u0 (e0 3)) χ hF) (P_pre (q0 := 0) (ci := 0) (X_k hK) (X_p_pop3 hP) (X_d_pop3 hD0 _) rfl rfl) hS (fun q h => X_a_pop3 h) aM_RX3_29 aI_X2_copyFrom aV_X2_copyFrom aN_RX2 aC_X2_copyFrom rfl rfl (by decide +kernel) rfl ⟨Nat.le_of_ble_eq_true rfl, Nat.le_of_ble_eq_true rfl⟩ ⟨Nat.zero_le _, Nat.zero_le _⟩ hl.1 (Nat.le_of_ble_eq_true rfl) dX3_pop_17 (fun _ t H1 locs ht _ hB hk hz hS => ?_)
  have hP := X_set_pop3 hP hD0 hk (by rw [← ht]; exact hB)
  refine lv_aload_n hx hb dX3_pop_20 rfl (lv_at hl 1 rfl) ?_
  refine lv_dup hx hb dX3_pop_21 rfl ?_
  refine va_get (D := D) (ci := 1) (v := .int 4) (C := RX3) (T := TX3) (N := 2) hx hb hA in_wsX30 hown hK hP 1 rfl rfl 1 (by decide) (hA _ aF_RX3_18) (fun _ h => h) rfl dX3_pop_22 ?_
  refine lv_iconst (v := 1) hx hb dX3_pop_25 (by decide) ?_
  refine lv_isub hx hb dX3_pop_26 ?_
  refine lv_topi (fun y ey => ?_)
  obtain rfl : y = 3 := ey.trans (by decide)
  refine va_put (D := D) (ci := 1) (v := .int 3) (ty := .int) (C := RX3) (T := TX3) (N := 2) hx hb hA in_wsX30 tyX3 tyX3_ok nmX3 hown hK hP (fm_D (ws := xW cI cF b u0 u1 (e0, 4) τ) rfl (xA_D hD0)) hS 1 rfl rfl 1 (by decide) (hA _ aF_RX3_18) (fun _ h => h) rfl (by decide +kernel) rfl rfl (Nat.le_of_ble_eq_true rfl) dX3_pop_27 (fun H2 locs hP _ hS => ?_)
  have hP : va_P D vwCl (xW cI cF b χ u1 (hup (e0, 3) 3 (xsh χ)) τ) H2 := hP
  refine lv_aload_n hx hb dX3_pop_30 rfl (lv_at hl 1 rfl) ?_
  refine va_get (D := D) (ci := 1) (v := .int 3) (C := RX3) (T := TX3) (N := 2) hx hb hA in_wsX30 hown hK hP 1 rfl rfl 1 (by decide) (hA _ aF_RX3_18) (fun _ h => h) rfl dX3_pop_31 ?_
  exact W.iret (v := 3) hx hb hr (fun t ht hW => ⟨⟨_, (), rfl, rfl, by show va_P _ _ _ t.heap; rw [ht]; exact hP⟩, hS.F ht⟩) hS.2.2 dX3_pop_34
