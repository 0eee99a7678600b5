/-! floats: nothing here is ever NaN -/
def ofn {α : Type} (r : UInt32) (x : Option α) : Option α := if r &&& 0x7fffffff ≤ 0x7f800000 then x else none
theorem ofn_e {α : Type} {r : UInt32} {x : Option α} {y : α} (h : ofn r x = some y) : vf_n32 r ∧ x = some y := by
  unfold ofn at h
  by_cases g : r &&& 0x7fffffff ≤ 0x7f800000
  · rw [if_pos g] at h
    exact ⟨g, h⟩
  · rw [if_neg g] at h
    cases h
theorem fx_ofWF {l : Launch} {y : MethodName} {ws ws' : List Cond} {rm : Room} {Pc : Array Value → State → Prop} {Qc : Array Value → State → Outcome → State → Prop} {mc ms : Nat} {free : Addr → Prop} {cc : ByteArray} {maxL : Nat} {ret : Option FieldType}
    (hy : plainFor y = true) (hw : ws = Cond.code y cc maxL ret :: ws')
    (body : ∀ p e s m args below meth c s₁, BodyLoose p l y (headSpec ws rm) cc maxL ret e s m args below meth c s₁ → c.maxLocals = maxL → Pc args s →
      W p l e (headSpec ws rm).room s m args below meth c s.heap [] 0 0 (MQ below Qc args s mc ms free) (entryFrame m args maxL)) : Met l y ws rm Pc Qc mc ms free := by
  refine MetFree.of_bodySF (code := cc) (maxLocals := maxL) (ret := ret) hy ?_ ?_
  · intro args s m h hn
    obtain ⟨meth, c, h1, h2, h3, h4, h5, h6, -, -⟩ := Cond.code_spec hn (atoms_spec (ws := ws) h _ (by rw [hw]; exact List.mem_cons_self))
    exact ⟨meth, c, h1, h2, h3, h4, h5, h6⟩
  · intro p e s m args below meth c s₁ B hml hP _
    have hh0 : s₁.heap = s.heap := by rw [B.state]; rfl
    obtain ⟨t, a1, o, b1, b2, b3⟩ := body p e s m args below meth c s₁ B hml hP s₁ hh0 (Stand.of_body B)
    exact ⟨t, o, a1, b1, b2, ⟨b3.1, b3.2⟩⟩
def fNan (x : UInt32) : Int32 := if Op.cmpValue (FP.fcmp x x) .l = 0 then 0 else 1
def fBits (x : UInt32) : Int32 := if fNan x = 0 then x.toInt32 else 2143289344
set_option maxHeartbeats 4000000 in
theorem c_fNan (l : Launch) (x : UInt32) : Met l yJxf58ca_isNaN_12338 (wsA yJxf58ca_isNaN_12338 cJxf58ca_isNaN_12338 1 (some .boolean)) { frames := 0, cells := 0, slots := 0, locals := 0 } (va_Pc [.float x] (fun _ => True)) (vp_Si (fun r => r = fNan x)) 0 0 (fun _ => False) := by
  refine fx_ofWF (cc := cJxf58ca_isNaN_12338) (maxL := 1) (ret := (some .boolean)) (by decide +kernel) rfl ?_
  intro p e s m args below meth c s₁ B hml hpre
  obtain ⟨rfl, -⟩ := hpre
  have hx := B.exec
  have hb := B.bytes
  have hr := B.returns
  have hlocks := B.notSynchronized
  have hl := lv_entry ([.float x]) (n := 1) (Nat.le_of_ble_eq_true rfl)
  rw [lg_entry_eq]
  generalize (lg_sl ([.float x]) ++ List.replicate (1 - (lg_sl ([.float x])).length) Slot.unset).toArray = ls at hl ⊢
  have hl : lv_has ls 1 [(0, .float x)] := hl
  refine lv_fload_n hx hb dJxf58ca_isNaN_12338_0 rfl (lv_at hl 0 rfl) ?_
  refine lv_fload_n hx hb dJxf58ca_isNaN_12338_1 rfl (lv_at hl 0 rfl) ?_
  refine lv_fcmp hx hb dJxf58ca_isNaN_12338_2 ?_
  refine lv_if_eq (tgt := 10) hx hb dJxf58ca_isNaN_12338_3 (by decide) (fun hc => ?_) (fun hc => ?_)
  · refine lv_iconst (v := 0) hx hb dJxf58ca_isNaN_12338_10 (by decide) ?_
    exact W.zret (v := 0) (ty := .boolean) hx hb hr rfl (fun t ht hW => ⟨_, rfl, (by unfold fNan; rw [if_pos hc]), ht⟩) (fun q hq => absurd hq List.not_mem_nil) dJxf58ca_isNaN_12338_11
  · refine lv_iconst (v := 1) hx hb dJxf58ca_isNaN_12338_6 (by decide) ?_
    refine lv_goto (tgt := 11) hx hb dJxf58ca_isNaN_12338_7 (by decide) ?_
    exact W.zret (v := 1) (ty := .boolean) hx hb hr rfl (fun t ht hW => ⟨_, rfl, (by unfold fNan; rw [if_neg hc]), ht⟩) (fun q hq => absurd hq List.not_mem_nil) dJxf58ca_isNaN_12338_11
set_option maxHeartbeats 4000000 in
theorem c_fBits (l : Launch) (x : UInt32) : Met l yJxf58ca_floatToIntBits_5c35a (wsA yJxf58ca_floatToIntBits_5c35a cJxf58ca_floatToIntBits_5c35a 1 (some .int)) { frames := 1, cells := 0, slots := 0, locals := 20 } (va_Pc [.float x] (fun _ => True)) (vp_Si (fun r => r = fBits x)) 0 0 (fun _ => False) := by
  refine fx_ofWF (cc := cJxf58ca_floatToIntBits_5c35a) (maxL := 1) (ret := (some .int)) (by decide +kernel) rfl ?_
  intro p e s m args below meth c s₁ B hml hpre
  obtain ⟨rfl, -⟩ := hpre
  have hx := B.exec
  have hb := B.bytes
  have hr := B.returns
  have hA : ∀ w ∈ AW, w.before _ s = true := fun w h => atoms_spec (ws := wsA yJxf58ca_floatToIntBits_5c35a cJxf58ca_floatToIntBits_5c35a 1 (some .int)) B.pre w (List.mem_cons_of_mem _ h)
  have hown : s.vm.findClass RJxf58ca = some m.cls := findClass_of_methodNamed B.named
  have hlocks := B.notSynchronized
  have S : CallFix p m c cJxf58ca_floatToIntBits_5c35a 1 s ([.float x] : List Value).toArray AW RJxf58ca := ⟨hx, hb, hml, hown, hA⟩
  have hl := lv_entry ([.float x]) (n := 1) (Nat.le_of_ble_eq_true rfl)
  rw [lg_entry_eq]
  generalize (lg_sl ([.float x]) ++ List.replicate (1 - (lg_sl ([.float x])).length) Slot.unset).toArray = ls at hl ⊢
  have hl : lv_has ls 1 [(0, .float x)] := hl
  refine lv_fload_n hx hb dJxf58ca_floatToIntBits_5c35a_0 rfl (lv_at hl 0 rfl) ?_
  refine fm_runS (n := 1) (As := [.float x]) (rest := []) S (c_fNan l x) aM_RJxf58ca_59 aS_Jxf58ca_isNaN_12338 aN_RJxf58ca aC_Jxf58ca_isNaN_12338 rfl rfl (by decide +kernel) rfl ⟨Nat.le_of_ble_eq_true rfl, Nat.le_of_ble_eq_true rfl⟩ ⟨Nat.zero_le _, Nat.zero_le _⟩ hl.1 (Nat.le_of_ble_eq_true rfl) dJxf58ca_floatToIntBits_5c35a_1 (fun r er => ?_)
  refine lv_if_ne (tgt := 12) hx hb dJxf58ca_floatToIntBits_5c35a_4 (by decide) (fun hc => ?_) (fun hc => ?_)
  · refine lv_ldc hx hb hown (hA _ aK_RJxf58ca_77) dJxf58ca_floatToIntBits_5c35a_12 ?_
    exact W.iret (v := 2143289344) hx hb hr (fun t ht hW => ⟨_, rfl, (by unfold fBits; rw [if_neg (by rw [← er]; exact hc)]), ht⟩) (fun q hq => absurd hq List.not_mem_nil) dJxf58ca_floatToIntBits_5c35a_14
  · refine lv_fload_n hx hb dJxf58ca_floatToIntBits_5c35a_7 rfl (lv_at hl 0 rfl) ?_
    refine vn_f2i hx hb (hml.trans hl.1.symm) hown (hA _ aM_RJxf58ca_74) (hA _ aX_J_floatToRawIntBits) (hA _ aS_J_floatToRawIntBits) (hA _ aN_J_Float) (Nat.le_of_ble_eq_true rfl) (Nat.le_of_ble_eq_true rfl) dJxf58ca_floatToIntBits_5c35a_8 ?_
    exact W.iret (v := x.toInt32) hx hb hr (fun t ht hW => ⟨_, rfl, (by unfold fBits; rw [if_pos (by rw [← er]; exact hc)]), ht⟩) (fun q hq => absurd hq List.not_mem_nil) dJxf58ca_floatToIntBits_5c35a_11
theorem k_fBits {p : Program} {l : Launch} {e : Env} {R : Room} {s : State} {m : MethodId} {args : Array Value} {below : List Frame} {meth : Method} {c : Code} {H : Heap} {locs : List Loc} {cells slots : Nat} {Q : State → Prop} {cc : ByteArray} {pc nL idx : Nat} {ls : Array Slot} {rest : List Value} {own : String} {x : UInt32} (S : CallFix p m c cc nL s args AW own) (h1 : Cond.methodLink own idx yJxf58ca_floatToIntBits_5c35a ∈ AW) (hR : 1 + 1 ≤ R.frames ∧ 8 + (1 + 11) + 20 ≤ R.locals) (hc : cells ≤ R.cells ∧ slots ≤ R.slots) (hsz : ls.size = nL) (hW : (rest.map fun v => v.category).sum ≤ 8) (hdg : decode cc pc = .ok (.invokestatic idx, 3)) (kk : W p l e R s m args below meth c H locs cells slots Q (F0 m (pc + 3) ls (.int (fBits x) :: rest))) : W p l e R s m args below meth c H locs cells slots Q (F0 m pc ls (.float x :: rest)) :=
  fm_runS (n := 1) (As := [.float x]) S (c_fBits l x) h1 aS_Jxf58ca_floatToIntBits_5c35a aN_RJxf58ca aC_Jxf58ca_floatToIntBits_5c35a rfl rfl (by decide +kernel) rfl hR hc hsz hW hdg (fun r hr => by rw [hr]; exact kk)
def B_X8_bitsOf_13 (N : Nat) (rec : UInt32 → Int32 → Option (UInt32 × Int32)) (v1 : UInt32) (v2 : Int32) : Option (UInt32 × Int32) :=
  if 0 ≤ (Op.cmpValue (FP.fcmp v1 FP.fconst1) .g) then (
  some ((v1, v2))
  ) else (
  if v2 ≤ 1 then (
  some ((v1, v2))
  ) else (
  ofn (FP.fmul v1 FP.fconst2) <|
  rec ((FP.fmul v1 FP.fconst2)) (v2 + (-1))))
def L_X8_bitsOf_13 (N : Nat) : Nat → UInt32 → Int32 → Option (UInt32 × Int32)
  | 0, _, _ => none
  | k + 1, v1, v2 => B_X8_bitsOf_13 N (L_X8_bitsOf_13 N k) v1 v2
def J_X8_bitsOf_34 (N : Nat) (v1 : UInt32) (v2 : Int32) : Option Int32 :=
  ofn (FP.fsub v1 FP.fconst1) <|
  ofn (FP.fmul ((FP.fsub v1 FP.fconst1)) 1258291200) <|
  olet ((FP.f2i ((FP.fmul ((FP.fsub v1 FP.fconst1)) 1258291200)))) fun x7 =>
  some (((v2 <<< (23 &&& 31)) ||| x7))
def G_X8_bitsOf (N : Nat) (p0 : UInt32) : Option Int32 :=
  if 0 < (Op.cmpValue (FP.fcmp p0 FP.fconst0) .g) then (
  obd2 (L_X8_bitsOf_13 N N p0 127) fun y2 y3 =>
  J_X8_bitsOf_34 N y2 y3
  ) else (
  some 0)
set_option maxHeartbeats 4000000 in
set_option maxRecDepth 100000 in
theorem c_X8_bitsOf (l : Launch) (N : Nat) (p0 : UInt32) (r0 : Int32) (hF : G_X8_bitsOf N p0 = some r0) : Met l yX8_bitsOf (wsA yX8_bitsOf cX8_bitsOf 4 (some .int)) { frames := 0, cells := 0, slots := 0, locals := 0 } (va_Pc [.float p0] (fun _ => True)) (vp_Si (fun r => r = r0)) 0 0 (fun _ => False) := by
  refine Met.ofW (cc := cX8_bitsOf) (maxL := 4) (ret := (some .int)) (by decide) rfl ?_
  intro p e s m args below meth c s₁ B hml hpre
  obtain ⟨rfl, -⟩ := hpre
  have hx := B.exec
  have hb := B.bytes
  have hr := B.returns
  have hA : ∀ w ∈ AW, w.before _ s = true := fun w h => atoms_spec (ws := wsA yX8_bitsOf cX8_bitsOf 4 (some .int)) B.pre w (List.mem_cons_of_mem _ h)
  have hown : s.vm.findClass RX8 = some m.cls := findClass_of_methodNamed B.named
  have hlocks := B.notSynchronized
  have S : CallFix p m c cX8_bitsOf 4 s ([.float p0] : List Value).toArray AW RX8 := ⟨hx, hb, hml, hown, hA⟩
  have hl := lv_entry ([.float p0]) (n := 4) (Nat.le_of_ble_eq_true rfl)
  rw [lg_entry_eq]
  generalize (lg_sl ([.float p0]) ++ List.replicate (4 - (lg_sl ([.float p0])).length) Slot.unset).toArray = ls at hl ⊢
  have hl : lv_has ls 4 [(0, .float p0)] := hl
  have hL13 : ∀ (k : Nat) (v1 : UInt32) (v2 : Int32) (ls : Array Slot) (o1 : UInt32) (o2 : Int32), L_X8_bitsOf_13 N k v1 v2 = some (o1, o2) → lv_has ls 4 [(1, .float v1), (2, .int v2)] → (∀ (ls1 : Array Slot), lv_has ls1 4 [(1, .float o1), (2, .int o2)] → W p l e (headSpec (wsA yX8_bitsOf cX8_bitsOf 4 (some .int)) { frames := 0, cells := 0, slots := 0, locals := 0 }).room s m ([.float p0] : List Value).toArray below meth c s.heap [] 0 0 (MQ below (vp_Si (fun r => r = r0)) ([.float p0] : List Value).toArray s 0 0 (fun _ => False)) (F0 m 34 ls1 [])) → W p l e (headSpec (wsA yX8_bitsOf cX8_bitsOf 4 (some .int)) { frames := 0, cells := 0, slots := 0, locals := 0 }).room s m ([.float p0] : List Value).toArray below meth c s.heap [] 0 0 (MQ below (vp_Si (fun r => r = r0)) ([.float p0] : List Value).toArray s 0 0 (fun _ => False)) (F0 m 13 ls []) := by
    intro k
    induction k with
    | zero =>
      intro v1 v2 ls o1 o2 h hl kk
      exact no_s h
    | succ k ih =>
      intro v1 v2 ls o1 o2 h hl kk
      replace h : B_X8_bitsOf_13 N (L_X8_bitsOf_13 N k) v1 v2 = some (o1, o2) := h
      unfold B_X8_bitsOf_13 at h
      refine lv_fload_n hx hb dX8_bitsOf_13 rfl (lv_at hl 0 rfl) ?_
      refine lv_fconst1 hx hb dX8_bitsOf_14 ?_
      refine lv_fcmp hx hb dX8_bitsOf_15 ?_
      refine lv_if_ge (tgt := 34) hx hb dX8_bitsOf_16 (by decide) (fun hc => ?_) (fun hc => ?_)
      · replace h := oi_t hc h
        obtain ⟨rfl, rfl⟩ := os2 h
        exact kk _ (lv_sub hl [0, 1] rfl)
      · replace h := oi_f hc h
        refine lv_iload_n hx hb dX8_bitsOf_19 rfl (lv_at hl 1 rfl) ?_
        refine lv_iconst (v := 1) hx hb dX8_bitsOf_20 (by decide) ?_
        refine lv_icmp_le (tgt := 34) hx hb dX8_bitsOf_21 (by decide) (fun hc => ?_) (fun hc => ?_)
        · replace h := oi_t hc h
          obtain ⟨rfl, rfl⟩ := os2 h
          exact kk _ (lv_sub hl [0, 1] rfl)
        · replace h := oi_f hc h
          refine lv_fload_n hx hb dX8_bitsOf_24 rfl (lv_at hl 0 rfl) ?_
          refine lv_fconst2 hx hb dX8_bitsOf_25 ?_
          obtain ⟨n1, h⟩ := ofn_e h
          refine lv_fmul hx hb dX8_bitsOf_26 n1 ?_
          refine lv_fstore_n (lv' := [(1, .float ((FP.fmul v1 FP.fconst2))), (2, .int v2)]) hx hb dX8_bitsOf_27 rfl hl (by decide) rfl (fun ls hl => ?_)
          refine lv_iinc (v := v2 + (-1)) (lv' := [(2, .int (v2 + (-1))), (1, .float ((FP.fmul v1 FP.fconst2)))]) hx hb dX8_bitsOf_28 hl (k := 1) rfl (fm_inc _ _ _ (by decide)) (by decide) rfl (fun ls hl => ?_)
          refine lv_goto (tgt := 13) hx hb dX8_bitsOf_31 (by decide) ?_
          exact ih _ _ _ _ _ h (lv_sub hl [1, 0] rfl) kk
  have hJ34 : ∀ (v1 : UInt32) (v2 : Int32) (ls : Array Slot), J_X8_bitsOf_34 N v1 v2 = some r0 → lv_has ls 4 [(1, .float v1), (2, .int v2)] → W p l e (headSpec (wsA yX8_bitsOf cX8_bitsOf 4 (some .int)) { frames := 0, cells := 0, slots := 0, locals := 0 }).room s m ([.float p0] : List Value).toArray below meth c s.heap [] 0 0 (MQ below (vp_Si (fun r => r = r0)) ([.float p0] : List Value).toArray s 0 0 (fun _ => False)) (F0 m 34 ls []) := by
    intro v1 v2 ls h hl
    unfold J_X8_bitsOf_34 at h
    refine lv_fload_n hx hb dX8_bitsOf_34 rfl (lv_at hl 0 rfl) ?_
    refine lv_fconst1 hx hb dX8_bitsOf_35 ?_
    obtain ⟨n5, h⟩ := ofn_e h
    refine lv_fsub hx hb dX8_bitsOf_36 n5 ?_
    refine lv_ldcf hx hb hown (hA _ aK_RX8_250) dX8_bitsOf_37 ?_
    obtain ⟨n6, h⟩ := ofn_e h
    refine lv_fmul hx hb dX8_bitsOf_39 n6 ?_
    refine lv_f2i hx hb dX8_bitsOf_40 ?_
    refine lv_topi (fun x7 ex7 => ?_)
    replace h := olet_s ex7 h
    refine lv_istore_n (lv' := [(3, .int x7), (1, .float v1), (2, .int v2)]) hx hb dX8_bitsOf_41 rfl hl (by decide) rfl (fun ls hl => ?_)
    refine lv_iload_n hx hb dX8_bitsOf_42 rfl (lv_at hl 2 rfl) ?_
    refine lv_bipush (v := 23) hx hb dX8_bitsOf_43 (by decide) ?_
    refine lv_ishl hx hb dX8_bitsOf_45 ?_
    refine lv_iload_n hx hb dX8_bitsOf_46 rfl (lv_at hl 0 rfl) ?_
    refine lv_ior hx hb dX8_bitsOf_47 ?_
    obtain rfl := os1 h
    exact W.iret (v := ((v2 <<< (23 &&& 31)) ||| x7)) hx hb hr (fun t ht hW => ⟨_, rfl, rfl, ht⟩) (fun q hq => absurd hq List.not_mem_nil) dX8_bitsOf_48
  have h := hF
  unfold G_X8_bitsOf at h
  refine lv_fload_n hx hb dX8_bitsOf_0 rfl (lv_at hl 0 rfl) ?_
  refine lv_fconst0 hx hb dX8_bitsOf_1 ?_
  refine lv_fcmp hx hb dX8_bitsOf_2 ?_
  refine lv_if_gt (tgt := 8) hx hb dX8_bitsOf_3 (by decide) (fun hc => ?_) (fun hc => ?_)
  · replace h := oi_t hc h
    refine lv_fload_n hx hb dX8_bitsOf_8 rfl (lv_at hl 0 rfl) ?_
    refine lv_fstore_n (lv' := [(1, .float p0), (0, .float p0)]) hx hb dX8_bitsOf_9 rfl hl (by decide) rfl (fun ls hl => ?_)
    refine lv_bipush (v := 127) hx hb dX8_bitsOf_10 (by decide) ?_
    refine lv_istore_n (lv' := [(2, .int 127), (1, .float p0), (0, .float p0)]) hx hb dX8_bitsOf_12 rfl hl (by decide) rfl (fun ls hl => ?_)
    obtain ⟨y2, y3, h4, h⟩ := obd2_e h
    refine hL13 N _ _ _ _ _ h4 (lv_sub hl [1, 0] rfl) (fun ls hl => ?_)
    exact hJ34 _ _ _ h (lv_sub hl [0, 1] rfl)
  · replace h := oi_f hc h
    refine lv_iconst (v := 0) hx hb dX8_bitsOf_6 (by decide) ?_
    obtain rfl := os1 h
    exact W.iret (v := 0) hx hb hr (fun t ht hW => ⟨_, rfl, rfl, ht⟩) (fun q hq => absurd hq List.not_mem_nil) dX8_bitsOf_7
theorem k_X8_bitsOf {p : Program} {l : Launch} {e : Env} {R : Room} {s : State} {m : MethodId} {args : Array Value} {below : List Frame} {meth : Method} {c : Code} {H : Heap} {locs : List Loc} {cells slots : Nat} {Q : State → Prop} {cc : ByteArray} {pc nL idx : Nat} {ls : Array Slot} {rest : List Value} {own : String} {N : Nat} {p0 : UInt32} {r0 : Int32} (S : CallFix p m c cc nL s args AW own) (h1 : Cond.methodLink own idx yX8_bitsOf ∈ AW) (hR : 0 + 1 ≤ R.frames ∧ 8 + (4 + 11) + 0 ≤ R.locals) (hc : cells ≤ R.cells ∧ slots ≤ R.slots) (hF : G_X8_bitsOf N p0 = some r0) (hsz : ls.size = nL) (hW : (rest.map fun v => v.category).sum ≤ 8) (hdg : decode cc pc = .ok (.invokestatic idx, 3)) (kk : W p l e R s m args below meth c H locs cells slots Q (F0 m (pc + 3) ls (.int r0 :: rest))) : W p l e R s m args below meth c H locs cells slots Q (F0 m pc ls (.float p0 :: rest)) :=
  fm_runS (n := 1) (As := [.float p0]) S (c_X8_bitsOf l N p0 r0 hF) h1 aS_X8_bitsOf aN_RX8 aC_X8_bitsOf rfl rfl (by decide +kernel) rfl hR hc hsz hW hdg (fun r hr => by rw [hr]; exact kk)
def G_X9_rateBits (N : Nat) (φ : M2) : Option (Int32 × M2) :=
  olet (upd2 φ 0 5 0) fun w1 =>
  obd (G_X9_falseMany N w1 0 999) fun r2 =>
  oin 1042 1163 <|
  ofn (FP.fdiv ((FP.i2f r2)) ((FP.i2f ((1000 - (w1 1 (1042 : Int32).toNatClampNeg)))))) <|
  some (((fBits ((FP.fdiv ((FP.i2f r2)) ((FP.i2f ((1000 - (w1 1 (1042 : Int32).toNatClampNeg)))))))), w1))
set_option maxHeartbeats 4000000 in
set_option maxRecDepth 100000 in
theorem c_X9_rateBits (l : Launch) (D : va_G) (cI : ClassId) (a : Nat → Nat) (N : Nat) (φ : M2) (hv : Int64) (r0 : Int32) (φr : M2) (hF : G_X9_rateBits N φ = some (r0, φr)) : Met l yX9_rateBits (wsA yX9_rateBits cX9_rateBits 1 (some .int)) { frames := 7, cells := 0, slots := 0, locals := 160 } (va_Pc [.ref (a 0)] (mbP D cI a φ hv)) (va_Qi (fun (r : Int32) (_ : Unit) => r = r0) (fun _ t => va_P D vwCl (mbW cI a φr hv) t.heap) (mbA a)) 0 0 (mbA a) := by
  refine Met.ofW (cc := cX9_rateBits) (maxL := 1) (ret := (some .int)) (by decide) rfl ?_
  intro p e s m args below meth c s₁ B hml hpre
  obtain ⟨rfl, hP, hK, hD0⟩ := hpre
  have hx := B.exec
  have hb := B.bytes
  have hr := B.returns
  have hA : ∀ w ∈ AW, w.before _ s = true := fun w h => atoms_spec (ws := wsA yX9_rateBits cX9_rateBits 1 (some .int)) B.pre w (List.mem_cons_of_mem _ h)
  have hown : s.vm.findClass RX9 = some m.cls := findClass_of_methodNamed B.named
  have hlocks := B.notSynchronized
  have hDT := M_dT hD0
  have hDA := M_dA hD0
  have hS : va_S (mbA a) s.heap s.heap [] := va_S.rf
  have S : CallFix p m c cX9_rateBits 1 s ([.ref (a 0)] : List Value).toArray AW RX9 := ⟨hx, hb, hml, hown, hA⟩
  have hl := lv_entry ([.ref (a 0)]) (n := 1) (Nat.le_of_ble_eq_true rfl)
  rw [lg_entry_eq]
  generalize (lg_sl ([.ref (a 0)]) ++ List.replicate (1 - (lg_sl ([.ref (a 0)])).length) Slot.unset).toArray = ls at hl ⊢
  have hl : lv_has ls 1 [(0, .ref (a 0))] := hl
  have h := hF
  unfold G_X9_rateBits at h
  refine lv_aload_n hx hb dX9_rateBits_0 rfl (lv_at hl 0 rfl) ?_
  refine lv_iconst (v := 0) hx hb dX9_rateBits_1 (by decide) ?_
  refine M_p0_5 hx hb hA hown aF_RX9_64 hK hP (hDA _ _) hS dX9_rateBits_2 (fun w1 H locs ew1 hP hS => ?_)
  replace h := olet_s ew1 h
  refine lv_aload_n hx hb dX9_rateBits_5 rfl (lv_at hl 0 rfl) ?_
  refine lv_iconst (v := 0) hx hb dX9_rateBits_6 (by decide) ?_
  refine lv_sipush (v := 999) hx hb dX9_rateBits_7 (by decide) ?_
  obtain ⟨r2, h3, h⟩ := obd_e h
  refine k_X9_falseMany S aM_RX9_256 ⟨Nat.le_of_ble_eq_true rfl, Nat.le_of_ble_eq_true rfl⟩ ⟨Nat.zero_le _, Nat.zero_le _⟩ hP hK hDT h3 hl.1 (Nat.le_of_ble_eq_true rfl) dX9_rateBits_10 ?_
  refine lv_i2f hx hb dX9_rateBits_13 ?_
  refine lv_sipush (v := 1000) hx hb dX9_rateBits_14 (by decide) ?_
  refine lv_aload_n hx hb dX9_rateBits_17 rfl (lv_at hl 0 rfl) ?_
  refine M_g0_0 hx hb hA hown aF_RX9_7 hK hP dX9_rateBits_18 ?_
  refine lv_sipush (v := 1042) hx hb dX9_rateBits_21 (by decide) ?_
  obtain ⟨i4, h⟩ := oin_e h
  refine M_ld1 hx hb hK hP i4 dX9_rateBits_24 ?_
  refine lv_isub hx hb dX9_rateBits_25 ?_
  refine lv_i2f hx hb dX9_rateBits_26 ?_
  obtain ⟨n5, h⟩ := ofn_e h
  refine lv_fdiv hx hb dX9_rateBits_27 n5 ?_
  refine k_fBits S aM_RX9_265 ⟨Nat.le_of_ble_eq_true rfl, Nat.le_of_ble_eq_true rfl⟩ ⟨Nat.zero_le _, Nat.zero_le _⟩ hl.1 (Nat.le_of_ble_eq_true rfl) dX9_rateBits_28 ?_
  obtain ⟨rfl, rfl⟩ := os2 h
  exact W.iret (v := (fBits ((FP.fdiv ((FP.i2f r2)) ((FP.i2f ((1000 - (w1 1 (1042 : Int32).toNatClampNeg))))))))) hx hb hr (fun t ht hW => ⟨⟨_, (), rfl, rfl, by show va_P _ _ _ t.heap; rw [ht]; exact hP⟩, hS.F ht⟩) hS.2.2 dX9_rateBits_31
theorem k_X9_rateBits {p : Program} {l : Launch} {e : Env} {R : Room} {s : State} {m : MethodId} {args : Array Value} {below : List Frame} {meth : Method} {c : Code} {H : Heap} {locs : List Loc} {cells slots : Nat} {Q : State → Prop} {cc : ByteArray} {pc nL idx : Nat} {ls : Array Slot} {rest : List Value} {own : String} {D : va_G} {cI : ClassId} {a : Nat → Nat} {H0 : Heap} {N : Nat} {φ : M2} {hv : Int64} {r0 : Int32} {φr : M2} (S : CallFix p m c cc nL s args AW own) (h1 : Cond.methodLink own idx yX9_rateBits ∈ AW) (hR : 7 + 1 ≤ R.frames ∧ 8 + (1 + 11) + 160 ≤ R.locals) (hc : cells ≤ R.cells ∧ slots ≤ R.slots) (hP : va_P D vwCl (mbW cI a φ hv) H) (hK : va_K D vwCl [(cI, .int)] s) (hDT : ∀ (φ2 : M2) (hv2 : Int64), va_D (fun _ => True) (mbW cI a φ2 hv2)) (hS : va_S (mbA a) H0 H locs) (hF : G_X9_rateBits N φ = some (r0, φr)) (hsz : ls.size = nL) (hW : (rest.map fun v => v.category).sum ≤ 8) (hdg : decode cc pc = .ok (.invokevirtual idx, 3)) (kk : ∀ (H1 : Heap) (locs1 : List Loc), va_P D vwCl (mbW cI a φr hv) H1 → va_S (mbA a) H0 H1 locs1 → W p l e R s m args below meth c H1 locs1 cells slots Q (F0 m (pc + 3) ls (.int r0 :: rest))) : W p l e R s m args below meth c H locs cells slots Q (F0 m pc ls (.ref (a 0) :: rest)) :=
  fm_runVi (n := 0) (C := RX9) (As := []) S (c_X9_rateBits l D cI a N φ hv r0 φr hF) (M_pre (q0 := 0) (ci := 7) hK hP (hDT _ _) rfl rfl) hS h1 aI_X9_rateBits aV_X9_rateBits aN_RX9 aC_X9_rateBits rfl rfl (by decide +kernel) rfl hR hc hsz hW hdg (fun r H1 locs1 hr hP1 hS1 => by subst hr; exact kk H1 locs1 hP1 hS1)
def G_X8_rateBits (N : Nat) (u0 : M2) (φ : M2) (η : HT) (τ : M2) : Option (Nat × Int32 × M2 × M2 × HT × M2) :=
  olet (G_X2_keyCount u0) fun r1 =>
  olet ((1000 - r1)) fun x2 =>
  if 0 < x2 then (
  obd (G_X2_falseBetween N u0 0 999) fun r3 =>
  ofn (FP.fdiv ((FP.i2f r3)) ((FP.i2f x2))) <|
  obd (G_X8_bitsOf N ((FP.fdiv ((FP.i2f r3)) ((FP.i2f x2))))) fun r6 =>
  some (0, r6, u0, φ, η, τ)
  ) else (
  some (0, 0, u0, φ, η, τ))
set_option maxHeartbeats 4000000 in
set_option maxRecDepth 100000 in
theorem c_X8_rateBits (l : Launch) (hl0 : l.stackTraces = false) (D : va_G) (cI cF : ClassId) (b : Bf) (N : Nat) (u0 : M2) (φ : M2) (η : HT) (τ : M2) (k0 : Nat) (r0 : Int32) (u0r φr : M2) (ηr : HT) (τr : M2) (hF : G_X8_rateBits N u0 φ η τ = some (k0, r0, u0r, φr, ηr, τr)) : vx_Met l yX8_rateBits (wsA yX8_rateBits cX8_rateBits 2 (some .int)) { frames := 6, cells := 0, slots := 0, locals := 140 } (va_Pc [.ref (b 6 0)] (xP D cI cF b u0 φ η τ)) (va_Qi (fun (r : Int32) (u : Bf) => k0 = 0 ∧ r = r0 ∧ xSame b u) (fun u t => va_P D vwCl (xW cI cF u u0r φr ηr τr) t.heap ∧ va_D (fun _ => True) (xW cI cF u u0r φr ηr τr)) (xA b)) (vx_X (fun (u : Bf) => xSame b u) (fun E u t => ¬ k0 = 0 ∧ E = eOf k0 ∧ va_P D vwCl (xW cI cF u u0r φr ηr τr) t.heap ∧ va_D (fun _ => True) (xW cI cF u u0r φr ηr τr)) (xA b)) 0 0 (xA b) := by
  refine vx_ofW (cc := cX8_rateBits) (maxL := 2) (ret := (some .int)) (by decide) rfl ?_
  intro p e s m args below meth c s₁ B hml htab hpre
  obtain ⟨rfl, hP, hK, hD0, hT, hZ⟩ := hpre
  have hx := B.exec
  have hb := B.bytes
  have hr := B.returns
  have hA : ∀ w ∈ AW, w.before _ s = true := fun w h => atoms_spec (ws := wsA yX8_rateBits cX8_rateBits 2 (some .int)) B.pre w (List.mem_cons_of_mem _ h)
  have hown : s.vm.findClass RX8 = some m.cls := findClass_of_methodNamed B.named
  have hlocks := B.notSynchronized
  have hDX := X_D hD0
  have hDcur := X_d_cur hD0
  have hDtho := X_d_tho hD0
  have hDtxt := X_d_txt hD0
  have hDtc := X_d_tc hD0
  have hZ0 := hZ
  have hS : va_S (xA b) s.heap s.heap [] := va_S.rf
  have S : CallFix p m c cX8_rateBits 2 s ([.ref (b 6 0)] : List Value).toArray AW RX8 := ⟨hx, hb, hml, hown, hA⟩
  have hl := lv_entry ([.ref (b 6 0)]) (n := 2) (Nat.le_of_ble_eq_true rfl)
  rw [lg_entry_eq]
  generalize (lg_sl ([.ref (b 6 0)]) ++ List.replicate (2 - (lg_sl ([.ref (b 6 0)])).length) Slot.unset).toArray = ls at hl ⊢
  have hl : lv_has ls 2 [(0, .ref (b 6 0))] := hl
  have h := hF
  unfold G_X8_rateBits at h
  refine lv_sipush (v := 1000) hx hb dX8_rateBits_0 (by decide) ?_
  refine lv_aload_n hx hb dX8_rateBits_3 rfl (lv_at hl 0 rfl) ?_
  refine xg_current hx hb hA hown aF_RX8_10 hK hP dX8_rateBits_4 ?_
  refine k_X2_keyCount S aM_RX8_67 ⟨Nat.le_of_ble_eq_true rfl, Nat.le_of_ble_eq_true rfl⟩ ⟨by decide, by decide⟩ (X_p_cur hP) (X_k hK) hDcur hl.1 (Nat.le_of_ble_eq_true rfl) dX8_rateBits_7 (fun r1 er1 => ?_)
  replace h := olet_s er1 h
  refine lv_isub hx hb dX8_rateBits_10 ?_
  refine lv_topi (fun x2 ex2 => ?_)
  replace h := olet_s ex2 h
  refine lv_istore_n (lv' := [(1, .int x2), (0, .ref (b 6 0))]) hx hb dX8_rateBits_11 rfl hl (by decide) rfl (fun ls hl => ?_)
  refine lv_iload_n hx hb dX8_rateBits_12 rfl (lv_at hl 0 rfl) ?_
  refine lv_if_gt (tgt := 18) hx hb dX8_rateBits_13 (by decide) (fun hc => ?_) (fun hc => ?_)
  · replace h := oi_t hc h
    refine lv_aload_n hx hb dX8_rateBits_18 rfl (lv_at hl 1 rfl) ?_
    refine xg_current hx hb hA hown aF_RX8_10 hK hP dX8_rateBits_19 ?_
    refine lv_iconst (v := 0) hx hb dX8_rateBits_22 (by decide) ?_
    refine lv_sipush (v := 999) hx hb dX8_rateBits_23 (by decide) ?_
    obtain ⟨r3, h4, h⟩ := obd_e h
    refine k_X2_falseBetween S aM_RX8_165 ⟨Nat.le_of_ble_eq_true rfl, Nat.le_of_ble_eq_true rfl⟩ ⟨by decide, by decide⟩ (X_p_cur hP) (X_k hK) hDcur h4 hl.1 (Nat.le_of_ble_eq_true rfl) dX8_rateBits_26 ?_
    refine lv_i2f hx hb dX8_rateBits_29 ?_
    refine lv_iload_n hx hb dX8_rateBits_30 rfl (lv_at hl 0 rfl) ?_
    refine lv_i2f hx hb dX8_rateBits_31 ?_
    obtain ⟨n5, h⟩ := ofn_e h
    refine lv_fdiv hx hb dX8_rateBits_32 n5 ?_
    obtain ⟨r6, h7, h⟩ := obd_e h
    refine k_X8_bitsOf S aM_RX8_186 ⟨Nat.le_of_ble_eq_true rfl, Nat.le_of_ble_eq_true rfl⟩ ⟨by decide, by decide⟩ h7 hl.1 (Nat.le_of_ble_eq_true rfl) dX8_rateBits_33 ?_
    obtain ⟨rfl, rfl, rfl, rfl, rfl, rfl⟩ := os6 h
    refine vx_ret ?_
    refine W.widen (k := 0) (n := 0) (by decide) (by decide) ?_
    exact W.iret (v := r6) hx hb hr (fun t ht hW => ⟨⟨_, b, rfl, ⟨rfl, rfl, xSame_rf⟩, (by rw [ht]; exact hP), (hDX _ _ _ _)⟩, hS.F ht⟩) hS.2.2 dX8_rateBits_36
  · replace h := oi_f hc h
    refine lv_iconst (v := 0) hx hb dX8_rateBits_16 (by decide) ?_
    obtain ⟨rfl, rfl, rfl, rfl, rfl, rfl⟩ := os6 h
    refine vx_ret ?_
    refine W.widen (k := 0) (n := 0) (by decide) (by decide) ?_
    exact W.iret (v := 0) hx hb hr (fun t ht hW => ⟨⟨_, b, rfl, ⟨rfl, rfl, xSame_rf⟩, (by rw [ht]; exact hP), (hDX _ _ _ _)⟩, hS.F ht⟩) hS.2.2 dX8_rateBits_17
