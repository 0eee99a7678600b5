set_option maxHeartbeats 4000000 in
set_option maxRecDepth 100000 in
theorem c_X9_thrown (l : Launch) (D : va_G) (cI : ClassId) (a : Nat → Nat) (φ : M2) (hv : Int64) (r0 : Int32) (hF : G_X9_thrown φ = r0) : Met l yX9_thrown (wsA yX9_thrown cX9_thrown 1 (some .int)) { frames := 0, cells := 0, slots := 0, locals := 0 } (va_Pc [.ref (a 0)] (mbP D cI a φ hv)) (vp_Si (fun r => r = r0)) 0 0 (fun _ => False) := by
  refine Met.ofW (cc := cX9_thrown) (maxL := 1) (ret := (some .int)) (by decide) rfl ?_
  intro p e s m args below meth c s₁ B hml hpre
  obtain ⟨rfl, hP, hK, hD0⟩ := hpre
  have hx := B.exec
  have hb := B.bytes
  have hr := B.returns
  have hA : ∀ w ∈ AW, w.before _ s = true := fun w h => atoms_spec (ws := wsA yX9_thrown cX9_thrown 1 (some .int)) B.pre w (List.mem_cons_of_mem _ h)
  have hown : s.vm.findClass RX9 = some m.cls := findClass_of_methodNamed B.named
  have hlocks := B.notSynchronized
  have hDT := M_dT hD0
  have S : CallFix p m c cX9_thrown 1 s ([.ref (a 0)] : List Value).toArray AW RX9 := ⟨hx, hb, hml, hown, hA⟩
  have hl := lv_entry ([.ref (a 0)]) (n := 1) (Nat.le_of_ble_eq_true rfl)
  rw [lg_entry_eq]
  generalize (lg_sl ([.ref (a 0)]) ++ List.replicate (1 - (lg_sl ([.ref (a 0)])).length) Slot.unset).toArray = ls at hl ⊢
  have hl : lv_has ls 1 [(0, .ref (a 0))] := hl
  have h := hF
  unfold G_X9_thrown at h
  refine lv_aload_n hx hb dX9_thrown_0 rfl (lv_at hl 0 rfl) ?_
  refine M_g0_5 hx hb hA hown aF_RX9_64 hK hP dX9_thrown_1 ?_
  subst h
  exact W.iret (v := (φ 0 5)) hx hb hr (fun t ht hW => ⟨_, rfl, rfl, ht⟩) (fun q hq => absurd hq List.not_mem_nil) dX9_thrown_4
theorem k_X9_thrown {p : Program} {l : Launch} {e : Env} {R : Room} {s : State} {m : MethodId} {args : Array Value} {below : List Frame} {meth : Method} {c : Code} {H : Heap} {locs : List Loc} {cells slots : Nat} {Q : State → Prop} {cc : ByteArray} {pc nL idx : Nat} {ls : Array Slot} {rest : List Value} {own : String} {D : va_G} {cI : ClassId} {a : Nat → Nat} {φ : M2} {hv : Int64} (S : CallFix p m c cc nL s args AW own) (h1 : Cond.methodLink own idx yX9_thrown ∈ AW) (hR : 0 + 1 ≤ R.frames ∧ 8 + (1 + 11) + 0 ≤ R.locals) (hc : cells ≤ R.cells ∧ slots ≤ R.slots) (hP : va_P D vwCl (mbW cI a φ hv) H) (hK : va_K D vwCl [(cI, .int)] s) (hDT : ∀ (φ2 : M2) (hv2 : Int64), va_D (fun _ => True) (mbW cI a φ2 hv2)) (hsz : ls.size = nL) (hW : (rest.map fun v => v.category).sum ≤ 8) (hdg : decode cc pc = .ok (.invokevirtual idx, 3)) (kk : ∀ r : Int32, r = G_X9_thrown φ → W p l e R s m args below meth c H locs cells slots Q (F0 m (pc + 3) ls (.int r :: rest))) : W p l e R s m args below meth c H locs cells slots Q (F0 m pc ls (.ref (a 0) :: rest)) :=
  fm_runV (n := 0) (C := RX9) (As := []) S (c_X9_thrown l D cI a φ hv _ rfl) (M_pre (q0 := 0) (ci := 7) hK hP (hDT _ _) rfl rfl) h1 aI_X9_thrown aV_X9_thrown aN_RX9 aC_X9_thrown rfl rfl (by decide +kernel) rfl hR hc hsz hW hdg (fun r hr => kk r hr)
set_option maxHeartbeats 4000000 in
set_option maxRecDepth 100000 in
theorem c_X9_in (l : Launch) (p0 : Int32) (p1 : Int32) (p2 : Int32) (r0 : Int32) (hF : G_X9_in p0 p1 p2 = r0) : Met l yX9_in (wsA yX9_in cX9_in 3 (some .boolean)) { frames := 0, cells := 0, slots := 0, locals := 0 } (va_Pc [.int p0, .int p1, .int p2] (fun _ => True)) (vp_Si (fun r => r = r0 ∧ (r = 0 ∨ r = 1))) 0 0 (fun _ => False) := by
  refine Met.ofW (cc := cX9_in) (maxL := 3) (ret := (some .boolean)) (by decide) rfl ?_
  intro p e s m args below meth c s₁ B hml hpre
  obtain ⟨rfl, -⟩ := hpre
  have hx := B.exec
  have hb := B.bytes
  have hr := B.returns
  have hA : ∀ w ∈ AW, w.before _ s = true := fun w h => atoms_spec (ws := wsA yX9_in cX9_in 3 (some .boolean)) B.pre w (List.mem_cons_of_mem _ h)
  have hown : s.vm.findClass RX9 = some m.cls := findClass_of_methodNamed B.named
  have hlocks := B.notSynchronized
  have S : CallFix p m c cX9_in 3 s ([.int p0, .int p1, .int p2] : List Value).toArray AW RX9 := ⟨hx, hb, hml, hown, hA⟩
  have hl := lv_entry ([.int p0, .int p1, .int p2]) (n := 3) (Nat.le_of_ble_eq_true rfl)
  rw [lg_entry_eq]
  generalize (lg_sl ([.int p0, .int p1, .int p2]) ++ List.replicate (3 - (lg_sl ([.int p0, .int p1, .int p2])).length) Slot.unset).toArray = ls at hl ⊢
  have hl : lv_has ls 3 [(0, .int p0), (1, .int p1), (2, .int p2)] := hl
  have h := hF
  unfold G_X9_in at h
  refine lv_iload_n hx hb dX9_in_0 rfl (lv_at hl 0 rfl) ?_
  refine lv_iload_n hx hb dX9_in_1 rfl (lv_at hl 1 rfl) ?_
  refine lv_icmp_lt (tgt := 14) hx hb dX9_in_2 (by decide) (fun hc => ?_) (fun hc => ?_)
  · replace h := oi_t hc h
    refine lv_iconst (v := 0) hx hb dX9_in_14 (by decide) ?_
    subst h
    exact W.zret (v := 0) (ty := .boolean) hx hb hr rfl (fun t ht hW => ⟨_, rfl, ⟨rfl, (Or.inl rfl)⟩, ht⟩) (fun q hq => absurd hq List.not_mem_nil) dX9_in_15
  · replace h := oi_f hc h
    refine lv_iload_n hx hb dX9_in_5 rfl (lv_at hl 0 rfl) ?_
    refine lv_iload_n hx hb dX9_in_6 rfl (lv_at hl 2 rfl) ?_
    refine lv_icmp_gt (tgt := 14) hx hb dX9_in_7 (by decide) (fun hc => ?_) (fun hc => ?_)
    · replace h := oi_t hc h
      refine lv_iconst (v := 0) hx hb dX9_in_14 (by decide) ?_
      subst h
      exact W.zret (v := 0) (ty := .boolean) hx hb hr rfl (fun t ht hW => ⟨_, rfl, ⟨rfl, (Or.inl rfl)⟩, ht⟩) (fun q hq => absurd hq List.not_mem_nil) dX9_in_15
    · replace h := oi_f hc h
      refine lv_iconst (v := 1) hx hb dX9_in_10 (by decide) ?_
      refine lv_goto (tgt := 15) hx hb dX9_in_11 (by decide) ?_
      subst h
      exact W.zret (v := 1) (ty := .boolean) hx hb hr rfl (fun t ht hW => ⟨_, rfl, ⟨rfl, (Or.inr rfl)⟩, ht⟩) (fun q hq => absurd hq List.not_mem_nil) dX9_in_15
theorem k_X9_in {p : Program} {l : Launch} {e : Env} {R : Room} {s : State} {m : MethodId} {args : Array Value} {below : List Frame} {meth : Method} {c : Code} {H : Heap} {locs : List Loc} {cells slots : Nat} {Q : State → Prop} {cc : ByteArray} {pc nL idx : Nat} {ls : Array Slot} {rest : List Value} {own : String} {p0 : Int32} {p1 : Int32} {p2 : Int32} (S : CallFix p m c cc nL s args AW own) (h1 : Cond.methodLink own idx yX9_in ∈ AW) (hR : 0 + 1 ≤ R.frames ∧ 8 + (3 + 11) + 0 ≤ R.locals) (hc : cells ≤ R.cells ∧ slots ≤ R.slots) (hsz : ls.size = nL) (hW : (rest.map fun v => v.category).sum ≤ 8) (hdg : decode cc pc = .ok (.invokestatic idx, 3)) (kk : ∀ r : Int32, r = G_X9_in p0 p1 p2 → (r = 0 ∨ r = 1) → W p l e R s m args below meth c H locs cells slots Q (F0 m (pc + 3) ls (.int r :: rest))) : W p l e R s m args below meth c H locs cells slots Q (F0 m pc ls (.int p2 :: .int p1 :: .int p0 :: rest)) :=
  fm_runS (n := 3) (As := [.int p0, .int p1, .int p2]) S (c_X9_in l p0 p1 p2 _ rfl) h1 aS_X9_in aN_RX9 aC_X9_in rfl rfl (by decide +kernel) rfl hR hc hsz hW hdg (fun r hr => kk r hr.1 hr.2)
set_option maxHeartbeats 4000000 in
set_option maxRecDepth 100000 in
theorem c_X9_copy (l : Launch) (D : va_G) (cI : ClassId) (a : Nat → Nat) (N : Nat) (φ : M2) (p1 : Int32) (hv : Int64) (φr : M2) (hF : G_X9_copy N φ p1 = some φr) : Met l yX9_copy (wsA yX9_copy cX9_copy 3 none) { frames := 0, cells := 0, slots := 0, locals := 0 } (va_Pc [.ref (a 0), .int p1] (mbP D cI a φ hv)) (va_Qv (fun (_ : Unit) => True) (fun _ t => va_P D vwCl (mbW cI a φr hv) t.heap) (mbA a)) 0 0 (mbA a) := by
  refine Met.ofW (cc := cX9_copy) (maxL := 3) (ret := none) (by decide) rfl ?_
  intro p e s m args below meth c s₁ B hml hpre
  obtain ⟨rfl, hP, hK, hD0⟩ := hpre
  have hx := B.exec
  have hb := B.bytes
  have hr := B.returns
  have hA : ∀ w ∈ AW, w.before _ s = true := fun w h => atoms_spec (ws := wsA yX9_copy cX9_copy 3 none) B.pre w (List.mem_cons_of_mem _ h)
  have hown : s.vm.findClass RX9 = some m.cls := findClass_of_methodNamed B.named
  have hlocks := B.notSynchronized
  have hDT := M_dT hD0
  have hDA := M_dA hD0
  have hS : va_S (mbA a) s.heap s.heap [] := va_S.rf
  have S : CallFix p m c cX9_copy 3 s ([.ref (a 0), .int p1] : List Value).toArray AW RX9 := ⟨hx, hb, hml, hown, hA⟩
  have hl := lv_entry ([.ref (a 0), .int p1]) (n := 3) (Nat.le_of_ble_eq_true rfl)
  rw [lg_entry_eq]
  generalize (lg_sl ([.ref (a 0), .int p1]) ++ List.replicate (3 - (lg_sl ([.ref (a 0), .int p1])).length) Slot.unset).toArray = ls at hl ⊢
  have hl : lv_has ls 3 [(0, .ref (a 0)), (1, .int p1)] := hl
  have hL2 : ∀ (k : Nat) (v1 : Int32) (v2 : Int32) (φ : M2) (H : Heap) (locs : List Loc) (ls : Array Slot) (φo : M2), L_X9_copy_2 N v1 k v2 φ = some φo → va_P D vwCl (mbW cI a φ hv) H → va_S (mbA a) s.heap H locs → lv_has ls 3 [(0, .ref (a 0)), (1, .int v1), (2, .int v2)] → (∀ (H1 : Heap) (locs1 : List Loc) (ls1 : Array Slot), va_P D vwCl (mbW cI a φo hv) H1 → va_S (mbA a) s.heap H1 locs1 → lv_has ls1 3 [] → W p l e (headSpec (wsA yX9_copy cX9_copy 3 none) { frames := 0, cells := 0, slots := 0, locals := 0 }).room s m ([.ref (a 0), .int p1] : List Value).toArray below meth c H1 locs1 0 0 (MQ below (va_Qv (fun (_ : Unit) => True) (fun _ t => va_P D vwCl (mbW cI a φr hv) t.heap) (mbA a)) ([.ref (a 0), .int p1] : List Value).toArray s 0 0 (mbA a)) (F0 m 33 ls1 [])) → W p l e (headSpec (wsA yX9_copy cX9_copy 3 none) { frames := 0, cells := 0, slots := 0, locals := 0 }).room s m ([.ref (a 0), .int p1] : List Value).toArray below meth c H locs 0 0 (MQ below (va_Qv (fun (_ : Unit) => True) (fun _ t => va_P D vwCl (mbW cI a φr hv) t.heap) (mbA a)) ([.ref (a 0), .int p1] : List Value).toArray s 0 0 (mbA a)) (F0 m 2 ls []) := by
    intro k
    induction k with
    | zero =>
      intro v1 v2 φ H locs ls φo h hP hS hl kk
      exact no_s h
    | succ k ih =>
      intro v1 v2 φ H locs ls φo h hP hS hl kk
      replace h : B_X9_copy_2 N v1 (L_X9_copy_2 N v1 k) v2 φ = some φo := h
      unfold B_X9_copy_2 at h
      refine lv_iload_n hx hb dX9_copy_2 rfl (lv_at hl 2 rfl) ?_
      refine lv_sipush (v := 1163) hx hb dX9_copy_3 (by decide) ?_
      refine lv_icmp_ge (tgt := 33) hx hb dX9_copy_6 (by decide) (fun hc => ?_) (fun hc => ?_)
      · replace h := oi_t hc h
        obtain rfl := os1 h
        exact kk _ _ _ hP hS (lv_sub hl [] rfl)
      · replace h := oi_f hc h
        refine lv_aload_n hx hb dX9_copy_9 rfl (lv_at hl 0 rfl) ?_
        refine M_g0_1 hx hb hA hown aF_RX9_13 hK hP dX9_copy_10 ?_
        refine lv_sipush (v := 1163) hx hb dX9_copy_13 (by decide) ?_
        refine lv_iload_n hx hb dX9_copy_16 rfl (lv_at hl 1 rfl) ?_
        refine lv_imul hx hb dX9_copy_17 ?_
        refine lv_iload_n hx hb dX9_copy_18 rfl (lv_at hl 2 rfl) ?_
        refine lv_iadd hx hb dX9_copy_19 ?_
        refine lv_aload_n hx hb dX9_copy_20 rfl (lv_at hl 0 rfl) ?_
        refine M_g0_0 hx hb hA hown aF_RX9_7 hK hP dX9_copy_21 ?_
        refine lv_iload_n hx hb dX9_copy_24 rfl (lv_at hl 2 rfl) ?_
        obtain ⟨i1, h⟩ := oin_e h
        refine M_ld1 hx hb hK hP i1 dX9_copy_25 ?_
        obtain ⟨i2, h⟩ := oin_e h
        refine M_st2 hx hb hK hP (hDA _ _) hS i2 dX9_copy_26 (fun w3 H locs ew3 hP hS => ?_)
        replace h := olet_s ew3 h
        refine lv_iinc (v := v2 + 1) (lv' := [(2, .int (v2 + 1)), (0, .ref (a 0)), (1, .int v1)]) hx hb dX9_copy_27 hl (k := 2) rfl (fm_inc _ _ _ (by decide)) (by decide) rfl (fun ls hl => ?_)
        refine lv_goto (tgt := 2) hx hb dX9_copy_30 (by decide) ?_
        exact ih _ _ _ _ _ _ _ h hP hS (lv_sub hl [1, 2, 0] rfl) kk
  have h := hF
  unfold G_X9_copy at h
  refine lv_iconst (v := 0) hx hb dX9_copy_0 (by decide) ?_
  refine lv_istore_n (lv' := [(2, .int 0), (0, .ref (a 0)), (1, .int p1)]) hx hb dX9_copy_1 rfl hl (by decide) rfl (fun ls hl => ?_)
  obtain ⟨w4, h5, h⟩ := obd_e h
  refine hL2 N _ _ _ _ _ _ _ h5 hP hS (lv_sub hl [1, 2, 0] rfl) (fun H locs ls hP hS hl => ?_)
  obtain rfl := os1 h
  exact W.vret hx hb hr (fun t ht hW => ⟨⟨(), rfl, trivial, by show va_P _ _ _ t.heap; rw [ht]; exact hP⟩, hS.F ht⟩) hS.2.2 dX9_copy_33
theorem k_X9_copy {p : Program} {l : Launch} {e : Env} {R : Room} {s : State} {m : MethodId} {args : Array Value} {below : List Frame} {meth : Method} {c : Code} {H : Heap} {locs : List Loc} {cells slots : Nat} {Q : State → Prop} {cc : ByteArray} {pc nL idx : Nat} {ls : Array Slot} {rest : List Value} {own : String} {D : va_G} {cI : ClassId} {a : Nat → Nat} {H0 : Heap} {N : Nat} {φ : M2} {p1 : Int32} {hv : Int64} {φr : M2} (S : CallFix p m c cc nL s args AW own) (h1 : Cond.methodLink own idx yX9_copy ∈ AW) (hR : 0 + 1 ≤ R.frames ∧ 8 + (3 + 11) + 0 ≤ R.locals) (hc : cells ≤ R.cells ∧ slots ≤ R.slots) (hP : va_P D vwCl (mbW cI a φ hv) H) (hK : va_K D vwCl [(cI, .int)] s) (hDT : ∀ (φ2 : M2) (hv2 : Int64), va_D (fun _ => True) (mbW cI a φ2 hv2)) (hS : va_S (mbA a) H0 H locs) (hF : G_X9_copy N φ p1 = some φr) (hsz : ls.size = nL) (hW : (rest.map fun v => v.category).sum ≤ 8) (hdg : decode cc pc = .ok (.invokevirtual idx, 3)) (kk : ∀ (H1 : Heap) (locs1 : List Loc), va_P D vwCl (mbW cI a φr hv) H1 → va_S (mbA a) H0 H1 locs1 → W p l e R s m args below meth c H1 locs1 cells slots Q (F0 m (pc + 3) ls (rest))) : W p l e R s m args below meth c H locs cells slots Q (F0 m pc ls (.int p1 :: .ref (a 0) :: rest)) :=
  fm_runVv (n := 1) (C := RX9) (As := [.int p1]) S (c_X9_copy l D cI a N φ p1 hv φr hF) (M_pre (q0 := 0) (ci := 7) hK hP (hDT _ _) rfl rfl) hS h1 aI_X9_copy aV_X9_copy aN_RX9 aC_X9_copy rfl rfl (by decide +kernel) rfl hR hc hsz hW hdg (fun H1 locs1 hP1 hS1 => kk H1 locs1 hP1 hS1)
set_option maxHeartbeats 4000000 in
set_option maxRecDepth 100000 in
theorem c_X9_layBack (l : Launch) (D : va_G) (cI : ClassId) (a : Nat → Nat) (N : Nat) (φ : M2) (p1 : Int32) (hv : Int64) (φr : M2) (hF : G_X9_layBack N φ p1 = some φr) : Met l yX9_layBack (wsA yX9_layBack cX9_layBack 3 none) { frames := 0, cells := 0, slots := 0, locals := 0 } (va_Pc [.ref (a 0), .int p1] (mbP D cI a φ hv)) (va_Qv (fun (_ : Unit) => True) (fun _ t => va_P D vwCl (mbW cI a φr hv) t.heap) (mbA a)) 0 0 (mbA a) := by
  refine Met.ofW (cc := cX9_layBack) (maxL := 3) (ret := none) (by decide) rfl ?_
  intro p e s m args below meth c s₁ B hml hpre
  obtain ⟨rfl, hP, hK, hD0⟩ := hpre
  have hx := B.exec
  have hb := B.bytes
  have hr := B.returns
  have hA : ∀ w ∈ AW, w.before _ s = true := fun w h => atoms_spec (ws := wsA yX9_layBack cX9_layBack 3 none) B.pre w (List.mem_cons_of_mem _ h)
  have hown : s.vm.findClass RX9 = some m.cls := findClass_of_methodNamed B.named
  have hlocks := B.notSynchronized
  have hDT := M_dT hD0
  have hDA := M_dA hD0
  have hS : va_S (mbA a) s.heap s.heap [] := va_S.rf
  have S : CallFix p m c cX9_layBack 3 s ([.ref (a 0), .int p1] : List Value).toArray AW RX9 := ⟨hx, hb, hml, hown, hA⟩
  have hl := lv_entry ([.ref (a 0), .int p1]) (n := 3) (Nat.le_of_ble_eq_true rfl)
  rw [lg_entry_eq]
  generalize (lg_sl ([.ref (a 0), .int p1]) ++ List.replicate (3 - (lg_sl ([.ref (a 0), .int p1])).length) Slot.unset).toArray = ls at hl ⊢
  have hl : lv_has ls 3 [(0, .ref (a 0)), (1, .int p1)] := hl
  have hL2 : ∀ (k : Nat) (v1 : Int32) (v2 : Int32) (φ : M2) (H : Heap) (locs : List Loc) (ls : Array Slot) (φo : M2), L_X9_layBack_2 N v1 k v2 φ = some φo → va_P D vwCl (mbW cI a φ hv) H → va_S (mbA a) s.heap H locs → lv_has ls 3 [(0, .ref (a 0)), (1, .int v1), (2, .int v2)] → (∀ (H1 : Heap) (locs1 : List Loc) (ls1 : Array Slot), va_P D vwCl (mbW cI a φo hv) H1 → va_S (mbA a) s.heap H1 locs1 → lv_has ls1 3 [] → W p l e (headSpec (wsA yX9_layBack cX9_layBack 3 none) { frames := 0, cells := 0, slots := 0, locals := 0 }).room s m ([.ref (a 0), .int p1] : List Value).toArray below meth c H1 locs1 0 0 (MQ below (va_Qv (fun (_ : Unit) => True) (fun _ t => va_P D vwCl (mbW cI a φr hv) t.heap) (mbA a)) ([.ref (a 0), .int p1] : List Value).toArray s 0 0 (mbA a)) (F0 m 33 ls1 [])) → W p l e (headSpec (wsA yX9_layBack cX9_layBack 3 none) { frames := 0, cells := 0, slots := 0, locals := 0 }).room s m ([.ref (a 0), .int p1] : List Value).toArray below meth c H locs 0 0 (MQ below (va_Qv (fun (_ : Unit) => True) (fun _ t => va_P D vwCl (mbW cI a φr hv) t.heap) (mbA a)) ([.ref (a 0), .int p1] : List Value).toArray s 0 0 (mbA a)) (F0 m 2 ls []) := by
    intro k
    induction k with
    | zero =>
      intro v1 v2 φ H locs ls φo h hP hS hl kk
      exact no_s h
    | succ k ih =>
      intro v1 v2 φ H locs ls φo h hP hS hl kk
      replace h : B_X9_layBack_2 N v1 (L_X9_layBack_2 N v1 k) v2 φ = some φo := h
      unfold B_X9_layBack_2 at h
      refine lv_iload_n hx hb dX9_layBack_2 rfl (lv_at hl 2 rfl) ?_
      refine lv_sipush (v := 1163) hx hb dX9_layBack_3 (by decide) ?_
      refine lv_icmp_ge (tgt := 33) hx hb dX9_layBack_6 (by decide) (fun hc => ?_) (fun hc => ?_)
      · replace h := oi_t hc h
        obtain rfl := os1 h
        exact kk _ _ _ hP hS (lv_sub hl [] rfl)
      · replace h := oi_f hc h
        refine lv_aload_n hx hb dX9_layBack_9 rfl (lv_at hl 0 rfl) ?_
        refine M_g0_0 hx hb hA hown aF_RX9_7 hK hP dX9_layBack_10 ?_
        refine lv_iload_n hx hb dX9_layBack_13 rfl (lv_at hl 2 rfl) ?_
        refine lv_aload_n hx hb dX9_layBack_14 rfl (lv_at hl 0 rfl) ?_
        refine M_g0_1 hx hb hA hown aF_RX9_13 hK hP dX9_layBack_15 ?_
        refine lv_sipush (v := 1163) hx hb dX9_layBack_18 (by decide) ?_
        refine lv_iload_n hx hb dX9_layBack_21 rfl (lv_at hl 1 rfl) ?_
        refine lv_imul hx hb dX9_layBack_22 ?_
        refine lv_iload_n hx hb dX9_layBack_23 rfl (lv_at hl 2 rfl) ?_
        refine lv_iadd hx hb dX9_layBack_24 ?_
        obtain ⟨i1, h⟩ := oin_e h
        refine M_ld2 hx hb hK hP i1 dX9_layBack_25 ?_
        obtain ⟨i2, h⟩ := oin_e h
        refine M_st1 hx hb hK hP (hDA _ _) hS i2 dX9_layBack_26 (fun w3 H locs ew3 hP hS => ?_)
        replace h := olet_s ew3 h
        refine lv_iinc (v := v2 + 1) (lv' := [(2, .int (v2 + 1)), (0, .ref (a 0)), (1, .int v1)]) hx hb dX9_layBack_27 hl (k := 2) rfl (fm_inc _ _ _ (by decide)) (by decide) rfl (fun ls hl => ?_)
        refine lv_goto (tgt := 2) hx hb dX9_layBack_30 (by decide) ?_
        exact ih _ _ _ _ _ _ _ h hP hS (lv_sub hl [1, 2, 0] rfl) kk
  have h := hF
  unfold G_X9_layBack at h
  refine lv_iconst (v := 0) hx hb dX9_layBack_0 (by decide) ?_
  refine lv_istore_n (lv' := [(2, .int 0), (0, .ref (a 0)), (1, .int p1)]) hx hb dX9_layBack_1 rfl hl (by decide) rfl (fun ls hl => ?_)
  obtain ⟨w4, h5, h⟩ := obd_e h
  refine hL2 N _ _ _ _ _ _ _ h5 hP hS (lv_sub hl [1, 2, 0] rfl) (fun H locs ls hP hS hl => ?_)
  obtain rfl := os1 h
  exact W.vret hx hb hr (fun t ht hW => ⟨⟨(), rfl, trivial, by show va_P _ _ _ t.heap; rw [ht]; exact hP⟩, hS.F ht⟩) hS.2.2 dX9_layBack_33
theorem k_X9_layBack {p : Program} {l : Launch} {e : Env} {R : Room} {s : State} {m : MethodId} {args : Array Value} {below : List Frame} {meth : Method} {c : Code} {H : Heap} {locs : List Loc} {cells slots : Nat} {Q : State → Prop} {cc : ByteArray} {pc nL idx : Nat} {ls : Array Slot} {rest : List Value} {own : String} {D : va_G} {cI : ClassId} {a : Nat → Nat} {H0 : Heap} {N : Nat} {φ : M2} {p1 : Int32} {hv : Int64} {φr : M2} (S : CallFix p m c cc nL s args AW own) (h1 : Cond.methodLink own idx yX9_layBack ∈ AW) (hR : 0 + 1 ≤ R.frames ∧ 8 + (3 + 11) + 0 ≤ R.locals) (hc : cells ≤ R.cells ∧ slots ≤ R.slots) (hP : va_P D vwCl (mbW cI a φ hv) H) (hK : va_K D vwCl [(cI, .int)] s) (hDT : ∀ (φ2 : M2) (hv2 : Int64), va_D (fun _ => True) (mbW cI a φ2 hv2)) (hS : va_S (mbA a) H0 H locs) (hF : G_X9_layBack N φ p1 = some φr) (hsz : ls.size = nL) (hW : (rest.map fun v => v.category).sum ≤ 8) (hdg : decode cc pc = .ok (.invokevirtual idx, 3)) (kk : ∀ (H1 : Heap) (locs1 : List Loc), va_P D vwCl (mbW cI a φr hv) H1 → va_S (mbA a) H0 H1 locs1 → W p l e R s m args below meth c H1 locs1 cells slots Q (F0 m (pc + 3) ls (rest))) : W p l e R s m args below meth c H locs cells slots Q (F0 m pc ls (.int p1 :: .ref (a 0) :: rest)) :=
  fm_runVv (n := 1) (C := RX9) (As := [.int p1]) S (c_X9_layBack l D cI a N φ p1 hv φr hF) (M_pre (q0 := 0) (ci := 7) hK hP (hDT _ _) rfl rfl) hS h1 aI_X9_layBack aV_X9_layBack aN_RX9 aC_X9_layBack rfl rfl (by decide +kernel) rfl hR hc hsz hW hdg (fun H1 locs1 hP1 hS1 => kk H1 locs1 hP1 hS1)
set_option maxHeartbeats 4000000 in
set_option maxRecDepth 100000 in
theorem c_X9_makeRoom (l : Launch) (D : va_G) (cI : ClassId) (a : Nat → Nat) (N : Nat) (φ : M2) (hv : Int64) (φr : M2) (hF : G_X9_makeRoom N φ = some φr) : Met l yX9_makeRoom (wsA yX9_makeRoom cX9_makeRoom 2 none) { frames := 0, cells := 0, slots := 0, locals := 0 } (va_Pc [.ref (a 0)] (mbP D cI a φ hv)) (va_Qv (fun (_ : Unit) => True) (fun _ t => va_P D vwCl (mbW cI a φr hv) t.heap) (mbA a)) 0 0 (mbA a) := by
  refine Met.ofW (cc := cX9_makeRoom) (maxL := 2) (ret := none) (by decide) rfl ?_
  intro p e s m args below meth c s₁ B hml hpre
  obtain ⟨rfl, hP, hK, hD0⟩ := hpre
  have hx := B.exec
  have hb := B.bytes
  have hr := B.returns
  have hA : ∀ w ∈ AW, w.before _ s = true := fun w h => atoms_spec (ws := wsA yX9_makeRoom cX9_makeRoom 2 none) B.pre w (List.mem_cons_of_mem _ h)
  have hown : s.vm.findClass RX9 = some m.cls := findClass_of_methodNamed B.named
  have hlocks := B.notSynchronized
  have hDT := M_dT hD0
  have hDA := M_dA hD0
  have hS : va_S (mbA a) s.heap s.heap [] := va_S.rf
  have S : CallFix p m c cX9_makeRoom 2 s ([.ref (a 0)] : List Value).toArray AW RX9 := ⟨hx, hb, hml, hown, hA⟩
  have hl := lv_entry ([.ref (a 0)]) (n := 2) (Nat.le_of_ble_eq_true rfl)
  rw [lg_entry_eq]
  generalize (lg_sl ([.ref (a 0)]) ++ List.replicate (2 - (lg_sl ([.ref (a 0)])).length) Slot.unset).toArray = ls at hl ⊢
  have hl : lv_has ls 2 [(0, .ref (a 0))] := hl
  have hL10 : ∀ (k : Nat) (v1 : Int32) (φ : M2) (H : Heap) (locs : List Loc) (ls : Array Slot) (φo : M2), L_X9_makeRoom_10 N k v1 φ = some φo → va_P D vwCl (mbW cI a φ hv) H → va_S (mbA a) s.heap H locs → lv_has ls 2 [(0, .ref (a 0)), (1, .int v1)] → (∀ (H1 : Heap) (locs1 : List Loc) (ls1 : Array Slot), va_P D vwCl (mbW cI a φo hv) H1 → va_S (mbA a) s.heap H1 locs1 → lv_has ls1 2 [(0, .ref (a 0))] → W p l e (headSpec (wsA yX9_makeRoom cX9_makeRoom 2 none) { frames := 0, cells := 0, slots := 0, locals := 0 }).room s m ([.ref (a 0)] : List Value).toArray below meth c H1 locs1 0 0 (MQ below (va_Qv (fun (_ : Unit) => True) (fun _ t => va_P D vwCl (mbW cI a φr hv) t.heap) (mbA a)) ([.ref (a 0)] : List Value).toArray s 0 0 (mbA a)) (F0 m 39 ls1 [])) → W p l e (headSpec (wsA yX9_makeRoom cX9_makeRoom 2 none) { frames := 0, cells := 0, slots := 0, locals := 0 }).room s m ([.ref (a 0)] : List Value).toArray below meth c H locs 0 0 (MQ below (va_Qv (fun (_ : Unit) => True) (fun _ t => va_P D vwCl (mbW cI a φr hv) t.heap) (mbA a)) ([.ref (a 0)] : List Value).toArray s 0 0 (mbA a)) (F0 m 10 ls []) := by
    intro k
    induction k with
    | zero =>
      intro v1 φ H locs ls φo h hP hS hl kk
      exact no_s h
    | succ k ih =>
      intro v1 φ H locs ls φo h hP hS hl kk
      replace h : B_X9_makeRoom_10 N (L_X9_makeRoom_10 N k) v1 φ = some φo := h
      unfold B_X9_makeRoom_10 at h
      refine lv_iload_n hx hb dX9_makeRoom_10 rfl (lv_at hl 1 rfl) ?_
      refine lv_sipush (v := 3489) hx hb dX9_makeRoom_11 (by decide) ?_
      refine lv_icmp_ge (tgt := 39) hx hb dX9_makeRoom_14 (by decide) (fun hc => ?_) (fun hc => ?_)
      · replace h := oi_t hc h
        obtain rfl := os1 h
        exact kk _ _ _ hP hS (lv_sub hl [0] rfl)
      · replace h := oi_f hc h
        refine lv_aload_n hx hb dX9_makeRoom_17 rfl (lv_at hl 0 rfl) ?_
        refine M_g0_1 hx hb hA hown aF_RX9_13 hK hP dX9_makeRoom_18 ?_
        refine lv_iload_n hx hb dX9_makeRoom_21 rfl (lv_at hl 1 rfl) ?_
        refine lv_aload_n hx hb dX9_makeRoom_22 rfl (lv_at hl 0 rfl) ?_
        refine M_g0_1 hx hb hA hown aF_RX9_13 hK hP dX9_makeRoom_23 ?_
        refine lv_iload_n hx hb dX9_makeRoom_26 rfl (lv_at hl 1 rfl) ?_
        refine lv_sipush (v := 1163) hx hb dX9_makeRoom_27 (by decide) ?_
        refine lv_iadd hx hb dX9_makeRoom_30 ?_
        obtain ⟨i1, h⟩ := oin_e h
        refine M_ld2 hx hb hK hP i1 dX9_makeRoom_31 ?_
        obtain ⟨i2, h⟩ := oin_e h
        refine M_st2 hx hb hK hP (hDA _ _) hS i2 dX9_makeRoom_32 (fun w3 H locs ew3 hP hS => ?_)
        replace h := olet_s ew3 h
        refine lv_iinc (v := v1 + 1) (lv' := [(1, .int (v1 + 1)), (0, .ref (a 0))]) hx hb dX9_makeRoom_33 hl (k := 1) rfl (fm_inc _ _ _ (by decide)) (by decide) rfl (fun ls hl => ?_)
        refine lv_goto (tgt := 10) hx hb dX9_makeRoom_36 (by decide) ?_
        exact ih _ _ _ _ _ _ h hP hS (lv_sub hl [1, 0] rfl) kk
  have h := hF
  unfold G_X9_makeRoom at h
  refine lv_aload_n hx hb dX9_makeRoom_0 rfl (lv_at hl 0 rfl) ?_
  refine M_g0_2 hx hb hA hown aF_RX9_68 hK hP dX9_makeRoom_1 ?_
  refine lv_iconst (v := 4) hx hb dX9_makeRoom_4 (by decide) ?_
  refine lv_icmp_ne (tgt := 49) hx hb dX9_makeRoom_5 (by decide) (fun hc => ?_) (fun hc => ?_)
  · replace h := oi_f hc h
    obtain rfl := os1 h
    exact W.vret hx hb hr (fun t ht hW => ⟨⟨(), rfl, trivial, by show va_P _ _ _ t.heap; rw [ht]; exact hP⟩, hS.F ht⟩) hS.2.2 dX9_makeRoom_49
  · replace h := oi_t hc h
    refine lv_iconst (v := 0) hx hb dX9_makeRoom_8 (by decide) ?_
    refine lv_istore_n (lv' := [(1, .int 0), (0, .ref (a 0))]) hx hb dX9_makeRoom_9 rfl hl (by decide) rfl (fun ls hl => ?_)
    obtain ⟨w4, h5, h⟩ := obd_e h
    refine hL10 N _ _ _ _ _ _ h5 hP hS (lv_sub hl [1, 0] rfl) (fun H locs ls hP hS hl => ?_)
    refine lv_aload_n hx hb dX9_makeRoom_39 rfl (lv_at hl 0 rfl) ?_
    refine lv_dup hx hb dX9_makeRoom_40 rfl ?_
    refine M_g0_2 hx hb hA hown aF_RX9_68 hK hP dX9_makeRoom_41 ?_
    refine lv_iconst (v := 1) hx hb dX9_makeRoom_44 (by decide) ?_
    refine lv_isub hx hb dX9_makeRoom_45 ?_
    refine M_p0_2 hx hb hA hown aF_RX9_68 hK hP (hDA _ _) hS dX9_makeRoom_46 (fun w6 H locs ew6 hP hS => ?_)
    replace h := olet_s ew6 h
    obtain rfl := os1 h
    exact W.vret hx hb hr (fun t ht hW => ⟨⟨(), rfl, trivial, by show va_P _ _ _ t.heap; rw [ht]; exact hP⟩, hS.F ht⟩) hS.2.2 dX9_makeRoom_49
theorem k_X9_makeRoom {p : Program} {l : Launch} {e : Env} {R : Room} {s : State} {m : MethodId} {args : Array Value} {below : List Frame} {meth : Method} {c : Code} {H : Heap} {locs : List Loc} {cells slots : Nat} {Q : State → Prop} {cc : ByteArray} {pc nL idx : Nat} {ls : Array Slot} {rest : List Value} {own : String} {D : va_G} {cI : ClassId} {a : Nat → Nat} {H0 : Heap} {N : Nat} {φ : M2} {hv : Int64} {φr : M2} (S : CallFix p m c cc nL s args AW own) (h1 : Cond.methodLink own idx yX9_makeRoom ∈ AW) (hR : 0 + 1 ≤ R.frames ∧ 8 + (2 + 11) + 0 ≤ R.locals) (hc : cells ≤ R.cells ∧ slots ≤ R.slots) (hP : va_P D vwCl (mbW cI a φ hv) H) (hK : va_K D vwCl [(cI, .int)] s) (hDT : ∀ (φ2 : M2) (hv2 : Int64), va_D (fun _ => True) (mbW cI a φ2 hv2)) (hS : va_S (mbA a) H0 H locs) (hF : G_X9_makeRoom N φ = some φr) (hsz : ls.size = nL) (hW : (rest.map fun v => v.category).sum ≤ 8) (hdg : decode cc pc = .ok (.invokevirtual idx, 3)) (kk : ∀ (H1 : Heap) (locs1 : List Loc), va_P D vwCl (mbW cI a φr hv) H1 → va_S (mbA a) H0 H1 locs1 → W p l e R s m args below meth c H1 locs1 cells slots Q (F0 m (pc + 3) ls (rest))) : W p l e R s m args below meth c H locs cells slots Q (F0 m pc ls (.ref (a 0) :: rest)) :=
  fm_runVv (n := 0) (C := RX9) (As := []) S (c_X9_makeRoom l D cI a N φ hv φr hF) (M_pre (q0 := 0) (ci := 7) hK hP (hDT _ _) rfl rfl) hS h1 aI_X9_makeRoom aV_X9_makeRoom aN_RX9 aC_X9_makeRoom rfl rfl (by decide +kernel) rfl hR hc hsz hW hdg (fun H1 locs1 hP1 hS1 => kk H1 locs1 hP1 hS1)
set_option maxHeartbeats 4000000 in
set_option maxRecDepth 100000 in
theorem c_X9_keep (l : Launch) (D : va_G) (cI : ClassId) (a : Nat → Nat) (N : Nat) (φ : M2) (hv : Int64) (φr : M2) (hF : G_X9_keep N φ = some φr) : Met l yX9_keep (wsA yX9_keep cX9_keep 1 none) { frames := 1, cells := 0, slots := 0, locals := 22 } (va_Pc [.ref (a 0)] (mbP D cI a φ hv)) (va_Qv (fun (_ : Unit) => True) (fun _ t => va_P D vwCl (mbW cI a φr hv) t.heap) (mbA a)) 0 0 (mbA a) := by
  refine Met.ofW (cc := cX9_keep) (maxL := 1) (ret := none) (by decide) rfl ?_
  intro p e s m args below meth c s₁ B hml hpre
  obtain ⟨rfl, hP, hK, hD0⟩ := hpre
  have hx := B.exec
  have hb := B.bytes
  have hr := B.returns
  have hA : ∀ w ∈ AW, w.before _ s = true := fun w h => atoms_spec (ws := wsA yX9_keep cX9_keep 1 none) B.pre w (List.mem_cons_of_mem _ h)
  have hown : s.vm.findClass RX9 = some m.cls := findClass_of_methodNamed B.named
  have hlocks := B.notSynchronized
  have hDT := M_dT hD0
  have hDA := M_dA hD0
  have hS : va_S (mbA a) s.heap s.heap [] := va_S.rf
  have S : CallFix p m c cX9_keep 1 s ([.ref (a 0)] : List Value).toArray AW RX9 := ⟨hx, hb, hml, hown, hA⟩
  have hl := lv_entry ([.ref (a 0)]) (n := 1) (Nat.le_of_ble_eq_true rfl)
  rw [lg_entry_eq]
  generalize (lg_sl ([.ref (a 0)]) ++ List.replicate (1 - (lg_sl ([.ref (a 0)])).length) Slot.unset).toArray = ls at hl ⊢
  have hl : lv_has ls 1 [(0, .ref (a 0))] := hl
  have h := hF
  unfold G_X9_keep at h
  refine lv_aload_n hx hb dX9_keep_0 rfl (lv_at hl 0 rfl) ?_
  obtain ⟨w1, h2, h⟩ := obd_e h
  refine k_X9_makeRoom S aM_RX9_71 ⟨Nat.le_of_ble_eq_true rfl, Nat.le_of_ble_eq_true rfl⟩ ⟨Nat.zero_le _, Nat.zero_le _⟩ hP hK hDT hS h2 hl.1 (Nat.le_of_ble_eq_true rfl) dX9_keep_1 (fun H locs hP hS => ?_)
  refine lv_aload_n hx hb dX9_keep_4 rfl (lv_at hl 0 rfl) ?_
  refine lv_aload_n hx hb dX9_keep_5 rfl (lv_at hl 0 rfl) ?_
  refine M_g0_2 hx hb hA hown aF_RX9_68 hK hP dX9_keep_6 ?_
  obtain ⟨w3, h4, h⟩ := obd_e h
  refine k_X9_copy S aM_RX9_74 ⟨Nat.le_of_ble_eq_true rfl, Nat.le_of_ble_eq_true rfl⟩ ⟨Nat.zero_le _, Nat.zero_le _⟩ hP hK hDT hS h4 hl.1 (Nat.le_of_ble_eq_true rfl) dX9_keep_9 (fun H locs hP hS => ?_)
  refine lv_aload_n hx hb dX9_keep_12 rfl (lv_at hl 0 rfl) ?_
  refine lv_dup hx hb dX9_keep_13 rfl ?_
  refine M_g0_2 hx hb hA hown aF_RX9_68 hK hP dX9_keep_14 ?_
  refine lv_iconst (v := 1) hx hb dX9_keep_17 (by decide) ?_
  refine lv_iadd hx hb dX9_keep_18 ?_
  refine M_p0_2 hx hb hA hown aF_RX9_68 hK hP (hDA _ _) hS dX9_keep_19 (fun w5 H locs ew5 hP hS => ?_)
  replace h := olet_s ew5 h
  obtain rfl := os1 h
  exact W.vret hx hb hr (fun t ht hW => ⟨⟨(), rfl, trivial, by show va_P _ _ _ t.heap; rw [ht]; exact hP⟩, hS.F ht⟩) hS.2.2 dX9_keep_22
theorem k_X9_keep {p : Program} {l : Launch} {e : Env} {R : Room} {s : State} {m : MethodId} {args : Array Value} {below : List Frame} {meth : Method} {c : Code} {H : Heap} {locs : List Loc} {cells slots : Nat} {Q : State → Prop} {cc : ByteArray} {pc nL idx : Nat} {ls : Array Slot} {rest : List Value} {own : String} {D : va_G} {cI : ClassId} {a : Nat → Nat} {H0 : Heap} {N : Nat} {φ : M2} {hv : Int64} {φr : M2} (S : CallFix p m c cc nL s args AW own) (h1 : Cond.methodLink own idx yX9_keep ∈ AW) (hR : 1 + 1 ≤ R.frames ∧ 8 + (1 + 11) + 22 ≤ R.locals) (hc : cells ≤ R.cells ∧ slots ≤ R.slots) (hP : va_P D vwCl (mbW cI a φ hv) H) (hK : va_K D vwCl [(cI, .int)] s) (hDT : ∀ (φ2 : M2) (hv2 : Int64), va_D (fun _ => True) (mbW cI a φ2 hv2)) (hS : va_S (mbA a) H0 H locs) (hF : G_X9_keep N φ = some φr) (hsz : ls.size = nL) (hW : (rest.map fun v => v.category).sum ≤ 8) (hdg : decode cc pc = .ok (.invokevirtual idx, 3)) (kk : ∀ (H1 : Heap) (locs1 : List Loc), va_P D vwCl (mbW cI a φr hv) H1 → va_S (mbA a) H0 H1 locs1 → W p l e R s m args below meth c H1 locs1 cells slots Q (F0 m (pc + 3) ls (rest))) : W p l e R s m args below meth c H locs cells slots Q (F0 m pc ls (.ref (a 0) :: rest)) :=
  fm_runVv (n := 0) (C := RX9) (As := []) S (c_X9_keep l D cI a N φ hv φr hF) (M_pre (q0 := 0) (ci := 7) hK hP (hDT _ _) rfl rfl) hS h1 aI_X9_keep aV_X9_keep aN_RX9 aC_X9_keep rfl rfl (by decide +kernel) rfl hR hc hsz hW hdg (fun H1 locs1 hP1 hS1 => kk H1 locs1 hP1 hS1)
set_option maxHeartbeats 4000000 in
set_option maxRecDepth 100000 in
theorem c_X9_empties (l : Launch) (D : va_G) (cI : ClassId) (a : Nat → Nat) (N : Nat) (φ : M2) (hv : Int64) (φr : M2) (hF : G_X9_empties N φ = some φr) : Met l yX9_empties (wsA yX9_empties cX9_empties 2 none) { frames := 0, cells := 0, slots := 0, locals := 0 } (va_Pc [.ref (a 0)] (mbP D cI a φ hv)) (va_Qv (fun (_ : Unit) => True) (fun _ t => va_P D vwCl (mbW cI a φr hv) t.heap) (mbA a)) 0 0 (mbA a) := by
  refine Met.ofW (cc := cX9_empties) (maxL := 2) (ret := none) (by decide) rfl ?_
  intro p e s m args below meth c s₁ B hml hpre
  obtain ⟨rfl, hP, hK, hD0⟩ := hpre
  have hx := B.exec
  have hb := B.bytes
  have hr := B.returns
  have hA : ∀ w ∈ AW, w.before _ s = true := fun w h => atoms_spec (ws := wsA yX9_empties cX9_empties 2 none) B.pre w (List.mem_cons_of_mem _ h)
  have hown : s.vm.findClass RX9 = some m.cls := findClass_of_methodNamed B.named
  have hlocks := B.notSynchronized
  have hDT := M_dT hD0
  have hDA := M_dA hD0
  have hS : va_S (mbA a) s.heap s.heap [] := va_S.rf
  have S : CallFix p m c cX9_empties 2 s ([.ref (a 0)] : List Value).toArray AW RX9 := ⟨hx, hb, hml, hown, hA⟩
  have hl := lv_entry ([.ref (a 0)]) (n := 2) (Nat.le_of_ble_eq_true rfl)
  rw [lg_entry_eq]
  generalize (lg_sl ([.ref (a 0)]) ++ List.replicate (2 - (lg_sl ([.ref (a 0)])).length) Slot.unset).toArray = ls at hl ⊢
  have hl : lv_has ls 2 [(0, .ref (a 0))] := hl
  have hL10 : ∀ (k : Nat) (v1 : Int32) (φ : M2) (H : Heap) (locs : List Loc) (ls : Array Slot) (φo : M2), L_X9_empties_10 N k v1 φ = some φo → va_P D vwCl (mbW cI a φ hv) H → va_S (mbA a) s.heap H locs → lv_has ls 2 [(0, .ref (a 0)), (1, .int v1)] → (∀ (H1 : Heap) (locs1 : List Loc) (ls1 : Array Slot), va_P D vwCl (mbW cI a φo hv) H1 → va_S (mbA a) s.heap H1 locs1 → lv_has ls1 2 [] → W p l e (headSpec (wsA yX9_empties cX9_empties 2 none) { frames := 0, cells := 0, slots := 0, locals := 0 }).room s m ([.ref (a 0)] : List Value).toArray below meth c H1 locs1 0 0 (MQ below (va_Qv (fun (_ : Unit) => True) (fun _ t => va_P D vwCl (mbW cI a φr hv) t.heap) (mbA a)) ([.ref (a 0)] : List Value).toArray s 0 0 (mbA a)) (F0 m 30 ls1 [])) → W p l e (headSpec (wsA yX9_empties cX9_empties 2 none) { frames := 0, cells := 0, slots := 0, locals := 0 }).room s m ([.ref (a 0)] : List Value).toArray below meth c H locs 0 0 (MQ below (va_Qv (fun (_ : Unit) => True) (fun _ t => va_P D vwCl (mbW cI a φr hv) t.heap) (mbA a)) ([.ref (a 0)] : List Value).toArray s 0 0 (mbA a)) (F0 m 10 ls []) := by
    intro k
    induction k with
    | zero =>
      intro v1 φ H locs ls φo h hP hS hl kk
      exact no_s h
    | succ k ih =>
      intro v1 φ H locs ls φo h hP hS hl kk
      replace h : B_X9_empties_10 N (L_X9_empties_10 N k) v1 φ = some φo := h
      unfold B_X9_empties_10 at h
      refine lv_iload_n hx hb dX9_empties_10 rfl (lv_at hl 1 rfl) ?_
      refine lv_sipush (v := 1042) hx hb dX9_empties_11 (by decide) ?_
      refine lv_icmp_ge (tgt := 30) hx hb dX9_empties_14 (by decide) (fun hc => ?_) (fun hc => ?_)
      · replace h := oi_t hc h
        obtain rfl := os1 h
        exact kk _ _ _ hP hS (lv_sub hl [] rfl)
      · replace h := oi_f hc h
        refine lv_aload_n hx hb dX9_empties_17 rfl (lv_at hl 0 rfl) ?_
        refine M_g0_0 hx hb hA hown aF_RX9_7 hK hP dX9_empties_18 ?_
        refine lv_iload_n hx hb dX9_empties_21 rfl (lv_at hl 1 rfl) ?_
        refine lv_iconst (v := (-1)) hx hb dX9_empties_22 (by decide) ?_
        obtain ⟨i3, h⟩ := oin_e h
        refine M_st1 hx hb hK hP (hDA _ _) hS i3 dX9_empties_23 (fun w4 H locs ew4 hP hS => ?_)
        replace h := olet_s ew4 h
        refine lv_iinc (v := v1 + 1) (lv' := [(1, .int (v1 + 1)), (0, .ref (a 0))]) hx hb dX9_empties_24 hl (k := 1) rfl (fm_inc _ _ _ (by decide)) (by decide) rfl (fun ls hl => ?_)
        refine lv_goto (tgt := 10) hx hb dX9_empties_27 (by decide) ?_
        exact ih _ _ _ _ _ _ h hP hS (lv_sub hl [1, 0] rfl) kk
  have h := hF
  unfold G_X9_empties at h
  refine lv_aload_n hx hb dX9_empties_0 rfl (lv_at hl 0 rfl) ?_
  refine M_g0_0 hx hb hA hown aF_RX9_7 hK hP dX9_empties_1 ?_
  refine lv_iconst (v := 5) hx hb dX9_empties_4 (by decide) ?_
  refine lv_iconst (v := 0) hx hb dX9_empties_5 (by decide) ?_
  obtain ⟨i1, h⟩ := oin_e h
  refine M_st1 hx hb hK hP (hDA _ _) hS i1 dX9_empties_6 (fun w2 H locs ew2 hP hS => ?_)
  replace h := olet_s ew2 h
  refine lv_bipush (v := 18) hx hb dX9_empties_7 (by decide) ?_
  refine lv_istore_n (lv' := [(1, .int 18), (0, .ref (a 0))]) hx hb dX9_empties_9 rfl hl (by decide) rfl (fun ls hl => ?_)
  obtain ⟨w5, h6, h⟩ := obd_e h
  refine hL10 N _ _ _ _ _ _ h6 hP hS (lv_sub hl [1, 0] rfl) (fun H locs ls hP hS hl => ?_)
  obtain rfl := os1 h
  exact W.vret hx hb hr (fun t ht hW => ⟨⟨(), rfl, trivial, by show va_P _ _ _ t.heap; rw [ht]; exact hP⟩, hS.F ht⟩) hS.2.2 dX9_empties_30
theorem k_X9_empties {p : Program} {l : Launch} {e : Env} {R : Room} {s : State} {m : MethodId} {args : Array Value} {below : List Frame} {meth : Method} {c : Code} {H : Heap} {locs : List Loc} {cells slots : Nat} {Q : State → Prop} {cc : ByteArray} {pc nL idx : Nat} {ls : Array Slot} {rest : List Value} {own : String} {D : va_G} {cI : ClassId} {a : Nat → Nat} {H0 : Heap} {N : Nat} {φ : M2} {hv : Int64} {φr : M2} (S : CallFix p m c cc nL s args AW own) (h1 : Cond.methodLink own idx yX9_empties ∈ AW) (hR : 0 + 1 ≤ R.frames ∧ 8 + (2 + 11) + 0 ≤ R.locals) (hc : cells ≤ R.cells ∧ slots ≤ R.slots) (hP : va_P D vwCl (mbW cI a φ hv) H) (hK : va_K D vwCl [(cI, .int)] s) (hDT : ∀ (φ2 : M2) (hv2 : Int64), va_D (fun _ => True) (mbW cI a φ2 hv2)) (hS : va_S (mbA a) H0 H locs) (hF : G_X9_empties N φ = some φr) (hsz : ls.size = nL) (hW : (rest.map fun v => v.category).sum ≤ 8) (hdg : decode cc pc = .ok (.invokevirtual idx, 3)) (kk : ∀ (H1 : Heap) (locs1 : List Loc), va_P D vwCl (mbW cI a φr hv) H1 → va_S (mbA a) H0 H1 locs1 → W p l e R s m args below meth c H1 locs1 cells slots Q (F0 m (pc + 3) ls (rest))) : W p l e R s m args below meth c H locs cells slots Q (F0 m pc ls (.ref (a 0) :: rest)) :=
  fm_runVv (n := 0) (C := RX9) (As := []) S (c_X9_empties l D cI a N φ hv φr hF) (M_pre (q0 := 0) (ci := 7) hK hP (hDT _ _) rfl rfl) hS h1 aI_X9_empties aV_X9_empties aN_RX9 aC_X9_empties rfl rfl (by decide +kernel) rfl hR hc hsz hW hdg (fun H1 locs1 hP1 hS1 => kk H1 locs1 hP1 hS1)
set_option maxHeartbeats 4000000 in
set_option maxRecDepth 100000 in
theorem c_X9_isKey (l : Launch) (p0 : Int32) (r0 : Int32) (hF : G_X9_isKey p0 = r0) : Met l yX9_isKey (wsA yX9_isKey cX9_isKey 1 (some .boolean)) { frames := 1, cells := 0, slots := 0, locals := 22 } (va_Pc [.int p0] (fun _ => True)) (vp_Si (fun r => r = r0 ∧ (r = 0 ∨ r = 1))) 0 0 (fun _ => False) := by
  refine Met.ofW (cc := cX9_isKey) (maxL := 1) (ret := (some .boolean)) (by decide) rfl ?_
  intro p e s m args below meth c s₁ B hml hpre
  obtain ⟨rfl, -⟩ := hpre
  have hx := B.exec
  have hb := B.bytes
  have hr := B.returns
  have hA : ∀ w ∈ AW, w.before _ s = true := fun w h => atoms_spec (ws := wsA yX9_isKey cX9_isKey 1 (some .boolean)) B.pre w (List.mem_cons_of_mem _ h)
  have hown : s.vm.findClass RX9 = some m.cls := findClass_of_methodNamed B.named
  have hlocks := B.notSynchronized
  have S : CallFix p m c cX9_isKey 1 s ([.int p0] : List Value).toArray AW RX9 := ⟨hx, hb, hml, hown, hA⟩
  have hl := lv_entry ([.int p0]) (n := 1) (Nat.le_of_ble_eq_true rfl)
  rw [lg_entry_eq]
  generalize (lg_sl ([.int p0]) ++ List.replicate (1 - (lg_sl ([.int p0])).length) Slot.unset).toArray = ls at hl ⊢
  have hl : lv_has ls 1 [(0, .int p0)] := hl
  have h := hF
  unfold G_X9_isKey at h
  refine lv_iload_n hx hb dX9_isKey_0 rfl (lv_at hl 0 rfl) ?_
  refine lv_iconst (v := 0) hx hb dX9_isKey_1 (by decide) ?_
  refine lv_sipush (v := 999) hx hb dX9_isKey_2 (by decide) ?_
  refine k_X9_in S aM_RX9_78 ⟨Nat.le_of_ble_eq_true rfl, Nat.le_of_ble_eq_true rfl⟩ ⟨Nat.zero_le _, Nat.zero_le _⟩ hl.1 (Nat.le_of_ble_eq_true rfl) dX9_isKey_5 (fun r1 er1 br1 => ?_)
  replace h := olet_s er1 h
  subst h
  exact W.zret (v := r1) (ty := .boolean) hx hb hr (fm_nz br1) (fun t ht hW => ⟨_, rfl, ⟨rfl, br1⟩, ht⟩) (fun q hq => absurd hq List.not_mem_nil) dX9_isKey_8
theorem k_X9_isKey {p : Program} {l : Launch} {e : Env} {R : Room} {s : State} {m : MethodId} {args : Array Value} {below : List Frame} {meth : Method} {c : Code} {H : Heap} {locs : List Loc} {cells slots : Nat} {Q : State → Prop} {cc : ByteArray} {pc nL idx : Nat} {ls : Array Slot} {rest : List Value} {own : String} {p0 : Int32} (S : CallFix p m c cc nL s args AW own) (h1 : Cond.methodLink own idx yX9_isKey ∈ AW) (hR : 1 + 1 ≤ R.frames ∧ 8 + (1 + 11) + 22 ≤ R.locals) (hc : cells ≤ R.cells ∧ slots ≤ R.slots) (hsz : ls.size = nL) (hW : (rest.map fun v => v.category).sum ≤ 8) (hdg : decode cc pc = .ok (.invokestatic idx, 3)) (kk : ∀ r : Int32, r = G_X9_isKey p0 → (r = 0 ∨ r = 1) → W p l e R s m args below meth c H locs cells slots Q (F0 m (pc + 3) ls (.int r :: rest))) : W p l e R s m args below meth c H locs cells slots Q (F0 m pc ls (.int p0 :: rest)) :=
  fm_runS (n := 1) (As := [.int p0]) S (c_X9_isKey l p0 _ rfl) h1 aS_X9_isKey aN_RX9 aC_X9_isKey rfl rfl (by decide +kernel) rfl hR hc hsz hW hdg (fun r hr => kk r hr.1 hr.2)
set_option maxHeartbeats 4000000 in
set_option maxRecDepth 100000 in
theorem c_X9_codeOf (l : Launch) (p0 : Int32) (p1 : Int32) (r0 : Int32) (hF : G_X9_codeOf p0 p1 = r0) : Met l yX9_codeOf (wsA yX9_codeOf cX9_codeOf 4 (some .int)) { frames := 0, cells := 0, slots := 0, locals := 0 } (va_Pc [.int p0, .int p1] (fun _ => True)) (vp_Si (fun r => r = r0)) 0 0 (fun _ => False) := by
  refine Met.ofW (cc := cX9_codeOf) (maxL := 4) (ret := (some .int)) (by decide) rfl ?_
  intro p e s m args below meth c s₁ B hml hpre
  obtain ⟨rfl, -⟩ := hpre
  have hx := B.exec
  have hb := B.bytes
  have hr := B.returns
  have hA : ∀ w ∈ AW, w.before _ s = true := fun w h => atoms_spec (ws := wsA yX9_codeOf cX9_codeOf 4 (some .int)) B.pre w (List.mem_cons_of_mem _ h)
  have hown : s.vm.findClass RX9 = some m.cls := findClass_of_methodNamed B.named
  have hlocks := B.notSynchronized
  have S : CallFix p m c cX9_codeOf 4 s ([.int p0, .int p1] : List Value).toArray AW RX9 := ⟨hx, hb, hml, hown, hA⟩
  have hl := lv_entry ([.int p0, .int p1]) (n := 4) (Nat.le_of_ble_eq_true rfl)
  rw [lg_entry_eq]
  generalize (lg_sl ([.int p0, .int p1]) ++ List.replicate (4 - (lg_sl ([.int p0, .int p1])).length) Slot.unset).toArray = ls at hl ⊢
  have hl : lv_has ls 4 [(0, .int p0), (1, .int p1)] := hl
  have h := hF
  unfold G_X9_codeOf at h
  refine lv_iload_n hx hb dX9_codeOf_0 rfl (lv_at hl 0 rfl) ?_
  refine lv_i2l hx hb dX9_codeOf_1 rfl ?_
  refine lv_ldc2 hx hb hown (hA _ aK_RX9_82) dX9_codeOf_2 ?_
  refine lv_lmul hx hb dX9_codeOf_5 ?_
  refine lv_iload_n hx hb dX9_codeOf_6 rfl (lv_at hl 1 rfl) ?_
  refine lv_i2l hx hb dX9_codeOf_7 rfl ?_
  refine lv_ldc2 hx hb hown (hA _ aK_RX9_84) dX9_codeOf_8 ?_
  refine lv_lmul hx hb dX9_codeOf_11 ?_
  refine lv_ladd hx hb dX9_codeOf_12 ?_
  refine lv_ldc2 hx hb hown (hA _ aK_RX9_86) dX9_codeOf_13 ?_
  refine lv_ladd hx hb dX9_codeOf_16 ?_
  refine lv_ldc2 hx hb hown (hA _ aK_RX9_88) dX9_codeOf_17 ?_
  refine lv_lrem hx hb dX9_codeOf_20 (by decide) ?_
  refine lv_topl (fun x1 ex1 => ?_)
  replace h := olet_s ex1 h
  refine lv_lstore_n (lv' := [(2, .long x1), (0, .int p0), (1, .int p1)]) hx hb dX9_codeOf_21 rfl hl (by decide) rfl (fun ls hl => ?_)
  refine lv_lload_n hx hb dX9_codeOf_22 rfl (lv_at hl 0 rfl) ?_
  refine lv_lload_n hx hb dX9_codeOf_23 rfl (lv_at hl 0 rfl) ?_
  refine lv_ldc2 hx hb hown (hA _ aK_RX9_90) dX9_codeOf_24 ?_
  refine lv_ldiv hx hb dX9_codeOf_27 (by decide) ?_
  refine lv_lxor hx hb dX9_codeOf_28 ?_
  refine lv_topl (fun x2 ex2 => ?_)
  replace h := olet_s ex2 h
  refine lv_lstore_n (lv' := [(2, .long x2), (0, .int p0), (1, .int p1)]) hx hb dX9_codeOf_29 rfl hl (by decide) rfl (fun ls hl => ?_)
  refine lv_lload_n hx hb dX9_codeOf_30 rfl (lv_at hl 0 rfl) ?_
  refine lv_ldc2 hx hb hown (hA _ aK_RX9_92) dX9_codeOf_31 ?_
  refine lv_lmul hx hb dX9_codeOf_34 ?_
  refine lv_lconst (v := 1) hx hb dX9_codeOf_35 (by decide) ?_
  refine lv_ladd hx hb dX9_codeOf_36 ?_
  refine lv_ldc2 hx hb hown (hA _ aK_RX9_88) dX9_codeOf_37 ?_
  refine lv_lrem hx hb dX9_codeOf_40 (by decide) ?_
  refine lv_topl (fun x3 ex3 => ?_)
  replace h := olet_s ex3 h
  refine lv_lstore_n (lv' := [(2, .long x3), (0, .int p0), (1, .int p1)]) hx hb dX9_codeOf_41 rfl hl (by decide) rfl (fun ls hl => ?_)
  refine lv_lload_n hx hb dX9_codeOf_42 rfl (lv_at hl 0 rfl) ?_
  refine lv_lload_n hx hb dX9_codeOf_43 rfl (lv_at hl 0 rfl) ?_
  refine lv_ldc2 hx hb hown (hA _ aK_RX9_94) dX9_codeOf_44 ?_
  refine lv_ldiv hx hb dX9_codeOf_47 (by decide) ?_
  refine lv_lxor hx hb dX9_codeOf_48 ?_
  refine lv_topl (fun x4 ex4 => ?_)
  replace h := olet_s ex4 h
  refine lv_lstore_n (lv' := [(2, .long x4), (0, .int p0), (1, .int p1)]) hx hb dX9_codeOf_49 rfl hl (by decide) rfl (fun ls hl => ?_)
  refine lv_lload_n hx hb dX9_codeOf_50 rfl (lv_at hl 0 rfl) ?_
  refine lv_l2i hx hb dX9_codeOf_51 rfl ?_
  subst h
  exact W.iret (v := x4.toInt32) hx hb hr (fun t ht hW => ⟨_, rfl, rfl, ht⟩) (fun q hq => absurd hq List.not_mem_nil) dX9_codeOf_52
theorem k_X9_codeOf {p : Program} {l : Launch} {e : Env} {R : Room} {s : State} {m : MethodId} {args : Array Value} {below : List Frame} {meth : Method} {c : Code} {H : Heap} {locs : List Loc} {cells slots : Nat} {Q : State → Prop} {cc : ByteArray} {pc nL idx : Nat} {ls : Array Slot} {rest : List Value} {own : String} {p0 : Int32} {p1 : Int32} (S : CallFix p m c cc nL s args AW own) (h1 : Cond.methodLink own idx yX9_codeOf ∈ AW) (hR : 0 + 1 ≤ R.frames ∧ 8 + (4 + 11) + 0 ≤ R.locals) (hc : cells ≤ R.cells ∧ slots ≤ R.slots) (hsz : ls.size = nL) (hW : (rest.map fun v => v.category).sum ≤ 8) (hdg : decode cc pc = .ok (.invokestatic idx, 3)) (kk : ∀ r : Int32, r = G_X9_codeOf p0 p1 → W p l e R s m args below meth c H locs cells slots Q (F0 m (pc + 3) ls (.int r :: rest))) : W p l e R s m args below meth c H locs cells slots Q (F0 m pc ls (.int p1 :: .int p0 :: rest)) :=
  fm_runS (n := 2) (As := [.int p0, .int p1]) S (c_X9_codeOf l p0 p1 _ rfl) h1 aS_X9_codeOf aN_RX9 aC_X9_codeOf rfl rfl (by decide +kernel) rfl hR hc hsz hW hdg (fun r hr => kk r hr)
set_option maxHeartbeats 4000000 in
set_option maxRecDepth 100000 in
theorem c_X9_tagOf (l : Launch) (D : va_G) (cI : ClassId) (a : Nat → Nat) (φ : M2) (p1 : Int32) (hv : Int64) (r0 : Int32) (hF : G_X9_tagOf φ p1 = some r0) : Met l yX9_tagOf (wsA yX9_tagOf cX9_tagOf 2 (some .int)) { frames := 1, cells := 0, slots := 0, locals := 23 } (va_Pc [.ref (a 0), .int p1] (mbP D cI a φ hv)) (vp_Si (fun r => r = r0)) 0 0 (fun _ => False) := by
  refine Met.ofW (cc := cX9_tagOf) (maxL := 2) (ret := (some .int)) (by decide) rfl ?_
  intro p e s m args below meth c s₁ B hml hpre
  obtain ⟨rfl, hP, hK, hD0⟩ := hpre
  have hx := B.exec
  have hb := B.bytes
  have hr := B.returns
  have hA : ∀ w ∈ AW, w.before _ s = true := fun w h => atoms_spec (ws := wsA yX9_tagOf cX9_tagOf 2 (some .int)) B.pre w (List.mem_cons_of_mem _ h)
  have hown : s.vm.findClass RX9 = some m.cls := findClass_of_methodNamed B.named
  have hlocks := B.notSynchronized
  have hDT := M_dT hD0
  have S : CallFix p m c cX9_tagOf 2 s ([.ref (a 0), .int p1] : List Value).toArray AW RX9 := ⟨hx, hb, hml, hown, hA⟩
  have hl := lv_entry ([.ref (a 0), .int p1]) (n := 2) (Nat.le_of_ble_eq_true rfl)
  rw [lg_entry_eq]
  generalize (lg_sl ([.ref (a 0), .int p1]) ++ List.replicate (2 - (lg_sl ([.ref (a 0), .int p1])).length) Slot.unset).toArray = ls at hl ⊢
  have hl : lv_has ls 2 [(0, .ref (a 0)), (1, .int p1)] := hl
  have h := hF
  unfold G_X9_tagOf at h
  refine lv_iload_n hx hb dX9_tagOf_0 rfl (lv_at hl 1 rfl) ?_
  refine lv_aload_n hx hb dX9_tagOf_1 rfl (lv_at hl 0 rfl) ?_
  refine M_g0_0 hx hb hA hown aF_RX9_7 hK hP dX9_tagOf_2 ?_
  refine lv_iconst (v := 3) hx hb dX9_tagOf_5 (by decide) ?_
  obtain ⟨i1, h⟩ := oin_e h
  refine M_ld1 hx hb hK hP i1 dX9_tagOf_6 ?_
  refine k_X9_codeOf S aM_RX9_96 ⟨Nat.le_of_ble_eq_true rfl, Nat.le_of_ble_eq_true rfl⟩ ⟨Nat.zero_le _, Nat.zero_le _⟩ hl.1 (Nat.le_of_ble_eq_true rfl) dX9_tagOf_7 (fun r2 er2 => ?_)
  replace h := olet_s er2 h
  refine lv_sipush (v := 16384) hx hb dX9_tagOf_10 (by decide) ?_
  refine lv_idiv hx hb dX9_tagOf_13 (by decide) ?_
  obtain rfl := os1 h
  exact W.iret (v := (r2 / 16384)) hx hb hr (fun t ht hW => ⟨_, rfl, rfl, ht⟩) (fun q hq => absurd hq List.not_mem_nil) dX9_tagOf_14
theorem k_X9_tagOf {p : Program} {l : Launch} {e : Env} {R : Room} {s : State} {m : MethodId} {args : Array Value} {below : List Frame} {meth : Method} {c : Code} {H : Heap} {locs : List Loc} {cells slots : Nat} {Q : State → Prop} {cc : ByteArray} {pc nL idx : Nat} {ls : Array Slot} {rest : List Value} {own : String} {D : va_G} {cI : ClassId} {a : Nat → Nat} {φ : M2} {p1 : Int32} {hv : Int64} {r0 : Int32} (S : CallFix p m c cc nL s args AW own) (h1 : Cond.methodLink own idx yX9_tagOf ∈ AW) (hR : 1 + 1 ≤ R.frames ∧ 8 + (2 + 11) + 23 ≤ R.locals) (hc : cells ≤ R.cells ∧ slots ≤ R.slots) (hP : va_P D vwCl (mbW cI a φ hv) H) (hK : va_K D vwCl [(cI, .int)] s) (hDT : ∀ (φ2 : M2) (hv2 : Int64), va_D (fun _ => True) (mbW cI a φ2 hv2)) (hF : G_X9_tagOf φ p1 = some r0) (hsz : ls.size = nL) (hW : (rest.map fun v => v.category).sum ≤ 8) (hdg : decode cc pc = .ok (.invokevirtual idx, 3)) (kk : W p l e R s m args below meth c H locs cells slots Q (F0 m (pc + 3) ls (.int r0 :: rest))) : W p l e R s m args below meth c H locs cells slots Q (F0 m pc ls (.int p1 :: .ref (a 0) :: rest)) :=
  fm_runV (n := 1) (C := RX9) (As := [.int p1]) S (c_X9_tagOf l D cI a φ p1 hv r0 hF) (M_pre (q0 := 0) (ci := 7) hK hP (hDT _ _) rfl rfl) h1 aI_X9_tagOf aV_X9_tagOf aN_RX9 aC_X9_tagOf rfl rfl (by decide +kernel) rfl hR hc hsz hW hdg (fun r hr => by subst hr; exact kk)
set_option maxHeartbeats 4000000 in
set_option maxRecDepth 100000 in
theorem c_X9_bodyOf (l : Launch) (D : va_G) (cI : ClassId) (a : Nat → Nat) (φ : M2) (p1 : Int32) (hv : Int64) (r0 : Int32) (hF : G_X9_bodyOf φ p1 = some r0) : Met l yX9_bodyOf (wsA yX9_bodyOf cX9_bodyOf 2 (some .int)) { frames := 1, cells := 0, slots := 0, locals := 23 } (va_Pc [.ref (a 0), .int p1] (mbP D cI a φ hv)) (vp_Si (fun r => r = r0)) 0 0 (fun _ => False) := by
  refine Met.ofW (cc := cX9_bodyOf) (maxL := 2) (ret := (some .int)) (by decide) rfl ?_
  intro p e s m args below meth c s₁ B hml hpre
  obtain ⟨rfl, hP, hK, hD0⟩ := hpre
  have hx := B.exec
  have hb := B.bytes
  have hr := B.returns
  have hA : ∀ w ∈ AW, w.before _ s = true := fun w h => atoms_spec (ws := wsA yX9_bodyOf cX9_bodyOf 2 (some .int)) B.pre w (List.mem_cons_of_mem _ h)
  have hown : s.vm.findClass RX9 = some m.cls := findClass_of_methodNamed B.named
  have hlocks := B.notSynchronized
  have hDT := M_dT hD0
  have S : CallFix p m c cX9_bodyOf 2 s ([.ref (a 0), .int p1] : List Value).toArray AW RX9 := ⟨hx, hb, hml, hown, hA⟩
  have hl := lv_entry ([.ref (a 0), .int p1]) (n := 2) (Nat.le_of_ble_eq_true rfl)
  rw [lg_entry_eq]
  generalize (lg_sl ([.ref (a 0), .int p1]) ++ List.replicate (2 - (lg_sl ([.ref (a 0), .int p1])).length) Slot.unset).toArray = ls at hl ⊢
  have hl : lv_has ls 2 [(0, .ref (a 0)), (1, .int p1)] := hl
  have h := hF
  unfold G_X9_bodyOf at h
  refine lv_iload_n hx hb dX9_bodyOf_0 rfl (lv_at hl 1 rfl) ?_
  refine lv_aload_n hx hb dX9_bodyOf_1 rfl (lv_at hl 0 rfl) ?_
  refine M_g0_0 hx hb hA hown aF_RX9_7 hK hP dX9_bodyOf_2 ?_
  refine lv_iconst (v := 3) hx hb dX9_bodyOf_5 (by decide) ?_
  obtain ⟨i1, h⟩ := oin_e h
  refine M_ld1 hx hb hK hP i1 dX9_bodyOf_6 ?_
  refine k_X9_codeOf S aM_RX9_96 ⟨Nat.le_of_ble_eq_true rfl, Nat.le_of_ble_eq_true rfl⟩ ⟨Nat.zero_le _, Nat.zero_le _⟩ hl.1 (Nat.le_of_ble_eq_true rfl) dX9_bodyOf_7 (fun r2 er2 => ?_)
  replace h := olet_s er2 h
  refine lv_sipush (v := 16384) hx hb dX9_bodyOf_10 (by decide) ?_
  refine lv_irem hx hb dX9_bodyOf_13 (by decide) ?_
  obtain rfl := os1 h
  exact W.iret (v := (irm r2 16384)) hx hb hr (fun t ht hW => ⟨_, rfl, rfl, ht⟩) (fun q hq => absurd hq List.not_mem_nil) dX9_bodyOf_14
theorem k_X9_bodyOf {p : Program} {l : Launch} {e : Env} {R : Room} {s : State} {m : MethodId} {args : Array Value} {below : List Frame} {meth : Method} {c : Code} {H : Heap} {locs : List Loc} {cells slots : Nat} {Q : State → Prop} {cc : ByteArray} {pc nL idx : Nat} {ls : Array Slot} {rest : List Value} {own : String} {D : va_G} {cI : ClassId} {a : Nat → Nat} {φ : M2} {p1 : Int32} {hv : Int64} {r0 : Int32} (S : CallFix p m c cc nL s args AW own) (h1 : Cond.methodLink own idx yX9_bodyOf ∈ AW) (hR : 1 + 1 ≤ R.frames ∧ 8 + (2 + 11) + 23 ≤ R.locals) (hc : cells ≤ R.cells ∧ slots ≤ R.slots) (hP : va_P D vwCl (mbW cI a φ hv) H) (hK : va_K D vwCl [(cI, .int)] s) (hDT : ∀ (φ2 : M2) (hv2 : Int64), va_D (fun _ => True) (mbW cI a φ2 hv2)) (hF : G_X9_bodyOf φ p1 = some r0) (hsz : ls.size = nL) (hW : (rest.map fun v => v.category).sum ≤ 8) (hdg : decode cc pc = .ok (.invokevirtual idx, 3)) (kk : W p l e R s m args below meth c H locs cells slots Q (F0 m (pc + 3) ls (.int r0 :: rest))) : W p l e R s m args below meth c H locs cells slots Q (F0 m pc ls (.int p1 :: .ref (a 0) :: rest)) :=
  fm_runV (n := 1) (C := RX9) (As := [.int p1]) S (c_X9_bodyOf l D cI a φ p1 hv r0 hF) (M_pre (q0 := 0) (ci := 7) hK hP (hDT _ _) rfl rfl) h1 aI_X9_bodyOf aV_X9_bodyOf aN_RX9 aC_X9_bodyOf rfl rfl (by decide +kernel) rfl hR hc hsz hW hdg (fun r hr => by subst hr; exact kk)
set_option maxHeartbeats 4000000 in
set_option maxRecDepth 100000 in
theorem c_X9_buckets (l : Launch) (D : va_G) (cI : ClassId) (a : Nat → Nat) (φ : M2) (hv : Int64) (r0 : Int32) (hF : G_X9_buckets φ = some r0) : Met l yX9_buckets (wsA yX9_buckets cX9_buckets 1 (some .int)) { frames := 0, cells := 0, slots := 0, locals := 0 } (va_Pc [.ref (a 0)] (mbP D cI a φ hv)) (vp_Si (fun r => r = r0)) 0 0 (fun _ => False) := by
  refine Met.ofW (cc := cX9_buckets) (maxL := 1) (ret := (some .int)) (by decide) rfl ?_
  intro p e s m args below meth c s₁ B hml hpre
  obtain ⟨rfl, hP, hK, hD0⟩ := hpre
  have hx := B.exec
  have hb := B.bytes
  have hr := B.returns
  have hA : ∀ w ∈ AW, w.before _ s = true := fun w h => atoms_spec (ws := wsA yX9_buckets cX9_buckets 1 (some .int)) B.pre w (List.mem_cons_of_mem _ h)
  have hown : s.vm.findClass RX9 = some m.cls := findClass_of_methodNamed B.named
  have hlocks := B.notSynchronized
  have hDT := M_dT hD0
  have S : CallFix p m c cX9_buckets 1 s ([.ref (a 0)] : List Value).toArray AW RX9 := ⟨hx, hb, hml, hown, hA⟩
  have hl := lv_entry ([.ref (a 0)]) (n := 1) (Nat.le_of_ble_eq_true rfl)
  rw [lg_entry_eq]
  generalize (lg_sl ([.ref (a 0)]) ++ List.replicate (1 - (lg_sl ([.ref (a 0)])).length) Slot.unset).toArray = ls at hl ⊢
  have hl : lv_has ls 1 [(0, .ref (a 0))] := hl
  have h := hF
  unfold G_X9_buckets at h
  refine lv_iconst (v := 1) hx hb dX9_buckets_0 (by decide) ?_
  refine lv_aload_n hx hb dX9_buckets_1 rfl (lv_at hl 0 rfl) ?_
  refine M_g0_0 hx hb hA hown aF_RX9_7 hK hP dX9_buckets_2 ?_
  refine lv_iconst (v := 0) hx hb dX9_buckets_5 (by decide) ?_
  obtain ⟨i1, h⟩ := oin_e h
  refine M_ld1 hx hb hK hP i1 dX9_buckets_6 ?_
  refine lv_ishl hx hb dX9_buckets_7 ?_
  obtain rfl := os1 h
  exact W.iret (v := (1 <<< ((φ 1 (0 : Int32).toNatClampNeg) &&& 31))) hx hb hr (fun t ht hW => ⟨_, rfl, rfl, ht⟩) (fun q hq => absurd hq List.not_mem_nil) dX9_buckets_8
theorem k_X9_buckets {p : Program} {l : Launch} {e : Env} {R : Room} {s : State} {m : MethodId} {args : Array Value} {below : List Frame} {meth : Method} {c : Code} {H : Heap} {locs : List Loc} {cells slots : Nat} {Q : State → Prop} {cc : ByteArray} {pc nL idx : Nat} {ls : Array Slot} {rest : List Value} {own : String} {D : va_G} {cI : ClassId} {a : Nat → Nat} {φ : M2} {hv : Int64} {r0 : Int32} (S : CallFix p m c cc nL s args AW own) (h1 : Cond.methodLink own idx yX9_buckets ∈ AW) (hR : 0 + 1 ≤ R.frames ∧ 8 + (1 + 11) + 0 ≤ R.locals) (hc : cells ≤ R.cells ∧ slots ≤ R.slots) (hP : va_P D vwCl (mbW cI a φ hv) H) (hK : va_K D vwCl [(cI, .int)] s) (hDT : ∀ (φ2 : M2) (hv2 : Int64), va_D (fun _ => True) (mbW cI a φ2 hv2)) (hF : G_X9_buckets φ = some r0) (hsz : ls.size = nL) (hW : (rest.map fun v => v.category).sum ≤ 8) (hdg : decode cc pc = .ok (.invokevirtual idx, 3)) (kk : W p l e R s m args below meth c H locs cells slots Q (F0 m (pc + 3) ls (.int r0 :: rest))) : W p l e R s m args below meth c H locs cells slots Q (F0 m pc ls (.ref (a 0) :: rest)) :=
  fm_runV (n := 0) (C := RX9) (As := []) S (c_X9_buckets l D cI a φ hv r0 hF) (M_pre (q0 := 0) (ci := 7) hK hP (hDT _ _) rfl rfl) h1 aI_X9_buckets aV_X9_buckets aN_RX9 aC_X9_buckets rfl rfl (by decide +kernel) rfl hR hc hsz hW hdg (fun r hr => by subst hr; exact kk)
set_option maxHeartbeats 4000000 in
set_option maxRecDepth 100000 in
theorem c_X9_stepOf (l : Launch) (p0 : Int32) (p1 : Int32) (r0 : Int32) (hF : G_X9_stepOf p0 p1 = some r0) : Met l yX9_stepOf (wsA yX9_stepOf cX9_stepOf 2 (some .int)) { frames := 0, cells := 0, slots := 0, locals := 0 } (va_Pc [.int p0, .int p1] (fun _ => True)) (vp_Si (fun r => r = r0)) 0 0 (fun _ => False) := by
  refine Met.ofW (cc := cX9_stepOf) (maxL := 2) (ret := (some .int)) (by decide) rfl ?_
  intro p e s m args below meth c s₁ B hml hpre
  obtain ⟨rfl, -⟩ := hpre
  have hx := B.exec
  have hb := B.bytes
  have hr := B.returns
  have hA : ∀ w ∈ AW, w.before _ s = true := fun w h => atoms_spec (ws := wsA yX9_stepOf cX9_stepOf 2 (some .int)) B.pre w (List.mem_cons_of_mem _ h)
  have hown : s.vm.findClass RX9 = some m.cls := findClass_of_methodNamed B.named
  have hlocks := B.notSynchronized
  have S : CallFix p m c cX9_stepOf 2 s ([.int p0, .int p1] : List Value).toArray AW RX9 := ⟨hx, hb, hml, hown, hA⟩
  have hl := lv_entry ([.int p0, .int p1]) (n := 2) (Nat.le_of_ble_eq_true rfl)
  rw [lg_entry_eq]
  generalize (lg_sl ([.int p0, .int p1]) ++ List.replicate (2 - (lg_sl ([.int p0, .int p1])).length) Slot.unset).toArray = ls at hl ⊢
  have hl : lv_has ls 2 [(0, .int p0), (1, .int p1)] := hl
  have h := hF
  unfold G_X9_stepOf at h
  refine lv_bipush (v := 37) hx hb dX9_stepOf_0 (by decide) ?_
  refine lv_iload_n hx hb dX9_stepOf_2 rfl (lv_at hl 0 rfl) ?_
  refine lv_imul hx hb dX9_stepOf_3 ?_
  refine lv_bipush (v := 11) hx hb dX9_stepOf_4 (by decide) ?_
  refine lv_iadd hx hb dX9_stepOf_6 ?_
  refine lv_bipush (v := 64) hx hb dX9_stepOf_7 (by decide) ?_
  refine lv_irem hx hb dX9_stepOf_9 (by decide) ?_
  refine lv_iconst (v := 1) hx hb dX9_stepOf_10 (by decide) ?_
  refine lv_ior hx hb dX9_stepOf_11 ?_
  refine lv_iconst (v := 1) hx hb dX9_stepOf_12 (by decide) ?_
  refine lv_iload_n hx hb dX9_stepOf_13 rfl (lv_at hl 1 rfl) ?_
  refine lv_ishl hx hb dX9_stepOf_14 ?_
  obtain ⟨z1, h⟩ := onz_e h
  refine lv_irem hx hb dX9_stepOf_15 z1 ?_
  obtain rfl := os1 h
  exact W.iret (v := (irm (((irm (((37 * p0) + 11)) 64) ||| 1)) ((1 <<< (p1 &&& 31))))) hx hb hr (fun t ht hW => ⟨_, rfl, rfl, ht⟩) (fun q hq => absurd hq List.not_mem_nil) dX9_stepOf_16
theorem k_X9_stepOf {p : Program} {l : Launch} {e : Env} {R : Room} {s : State} {m : MethodId} {args : Array Value} {below : List Frame} {meth : Method} {c : Code} {H : Heap} {locs : List Loc} {cells slots : Nat} {Q : State → Prop} {cc : ByteArray} {pc nL idx : Nat} {ls : Array Slot} {rest : List Value} {own : String} {p0 : Int32} {p1 : Int32} {r0 : Int32} (S : CallFix p m c cc nL s args AW own) (h1 : Cond.methodLink own idx yX9_stepOf ∈ AW) (hR : 0 + 1 ≤ R.frames ∧ 8 + (2 + 11) + 0 ≤ R.locals) (hc : cells ≤ R.cells ∧ slots ≤ R.slots) (hF : G_X9_stepOf p0 p1 = some r0) (hsz : ls.size = nL) (hW : (rest.map fun v => v.category).sum ≤ 8) (hdg : decode cc pc = .ok (.invokestatic idx, 3)) (kk : W p l e R s m args below meth c H locs cells slots Q (F0 m (pc + 3) ls (.int r0 :: rest))) : W p l e R s m args below meth c H locs cells slots Q (F0 m pc ls (.int p1 :: .int p0 :: rest)) :=
  fm_runS (n := 2) (As := [.int p0, .int p1]) S (c_X9_stepOf l p0 p1 r0 hF) h1 aS_X9_stepOf aN_RX9 aC_X9_stepOf rfl rfl (by decide +kernel) rfl hR hc hsz hW hdg (fun r hr => by rw [hr]; exact kk)
set_option maxHeartbeats 4000000 in
set_option maxRecDepth 100000 in
theorem c_X9_homeOf (l : Launch) (D : va_G) (cI : ClassId) (a : Nat → Nat) (φ : M2) (p1 : Int32) (hv : Int64) (r0 : Int32) (hF : G_X9_homeOf φ p1 = some r0) : Met l yX9_homeOf (wsA yX9_homeOf cX9_homeOf 2 (some .int)) { frames := 2, cells := 0, slots := 0, locals := 44 } (va_Pc [.ref (a 0), .int p1] (mbP D cI a φ hv)) (vp_Si (fun r => r = r0)) 0 0 (fun _ => False) := by
  refine Met.ofW (cc := cX9_homeOf) (maxL := 2) (ret := (some .int)) (by decide) rfl ?_
  intro p e s m args below meth c s₁ B hml hpre
  obtain ⟨rfl, hP, hK, hD0⟩ := hpre
  have hx := B.exec
  have hb := B.bytes
  have hr := B.returns
  have hA : ∀ w ∈ AW, w.before _ s = true := fun w h => atoms_spec (ws := wsA yX9_homeOf cX9_homeOf 2 (some .int)) B.pre w (List.mem_cons_of_mem _ h)
  have hown : s.vm.findClass RX9 = some m.cls := findClass_of_methodNamed B.named
  have hlocks := B.notSynchronized
  have hDT := M_dT hD0
  have S : CallFix p m c cX9_homeOf 2 s ([.ref (a 0), .int p1] : List Value).toArray AW RX9 := ⟨hx, hb, hml, hown, hA⟩
  have hl := lv_entry ([.ref (a 0), .int p1]) (n := 2) (Nat.le_of_ble_eq_true rfl)
  rw [lg_entry_eq]
  generalize (lg_sl ([.ref (a 0), .int p1]) ++ List.replicate (2 - (lg_sl ([.ref (a 0), .int p1])).length) Slot.unset).toArray = ls at hl ⊢
  have hl : lv_has ls 2 [(0, .ref (a 0)), (1, .int p1)] := hl
  have h := hF
  unfold G_X9_homeOf at h
  refine lv_aload_n hx hb dX9_homeOf_0 rfl (lv_at hl 0 rfl) ?_
  refine lv_iload_n hx hb dX9_homeOf_1 rfl (lv_at hl 1 rfl) ?_
  obtain ⟨r1, h2, h⟩ := obd_e h
  refine k_X9_bodyOf S aM_RX9_100 ⟨Nat.le_of_ble_eq_true rfl, Nat.le_of_ble_eq_true rfl⟩ ⟨Nat.zero_le _, Nat.zero_le _⟩ hP hK hDT h2 hl.1 (Nat.le_of_ble_eq_true rfl) dX9_homeOf_2 ?_
  refine lv_aload_n hx hb dX9_homeOf_5 rfl (lv_at hl 0 rfl) ?_
  obtain ⟨r3, h4, h⟩ := obd_e h
  refine k_X9_buckets S aM_RX9_104 ⟨Nat.le_of_ble_eq_true rfl, Nat.le_of_ble_eq_true rfl⟩ ⟨Nat.zero_le _, Nat.zero_le _⟩ hP hK hDT h4 hl.1 (Nat.le_of_ble_eq_true rfl) dX9_homeOf_6 ?_
  obtain ⟨z5, h⟩ := onz_e h
  refine lv_irem hx hb dX9_homeOf_9 z5 ?_
  obtain rfl := os1 h
  exact W.iret (v := (irm r1 r3)) hx hb hr (fun t ht hW => ⟨_, rfl, rfl, ht⟩) (fun q hq => absurd hq List.not_mem_nil) dX9_homeOf_10
theorem k_X9_homeOf {p : Program} {l : Launch} {e : Env} {R : Room} {s : State} {m : MethodId} {args : Array Value} {below : List Frame} {meth : Method} {c : Code} {H : Heap} {locs : List Loc} {cells slots : Nat} {Q : State → Prop} {cc : ByteArray} {pc nL idx : Nat} {ls : Array Slot} {rest : List Value} {own : String} {D : va_G} {cI : ClassId} {a : Nat → Nat} {φ : M2} {p1 : Int32} {hv : Int64} {r0 : Int32} (S : CallFix p m c cc nL s args AW own) (h1 : Cond.methodLink own idx yX9_homeOf ∈ AW) (hR : 2 + 1 ≤ R.frames ∧ 8 + (2 + 11) + 44 ≤ R.locals) (hc : cells ≤ R.cells ∧ slots ≤ R.slots) (hP : va_P D vwCl (mbW cI a φ hv) H) (hK : va_K D vwCl [(cI, .int)] s) (hDT : ∀ (φ2 : M2) (hv2 : Int64), va_D (fun _ => True) (mbW cI a φ2 hv2)) (hF : G_X9_homeOf φ p1 = some r0) (hsz : ls.size = nL) (hW : (rest.map fun v => v.category).sum ≤ 8) (hdg : decode cc pc = .ok (.invokevirtual idx, 3)) (kk : W p l e R s m args below meth c H locs cells slots Q (F0 m (pc + 3) ls (.int r0 :: rest))) : W p l e R s m args below meth c H locs cells slots Q (F0 m pc ls (.int p1 :: .ref (a 0) :: rest)) :=
  fm_runV (n := 1) (C := RX9) (As := [.int p1]) S (c_X9_homeOf l D cI a φ p1 hv r0 hF) (M_pre (q0 := 0) (ci := 7) hK hP (hDT _ _) rfl rfl) h1 aI_X9_homeOf aV_X9_homeOf aN_RX9 aC_X9_homeOf rfl rfl (by decide +kernel) rfl hR hc hsz hW hdg (fun r hr => by subst hr; exact kk)
set_option maxHeartbeats 4000000 in
set_option maxRecDepth 100000 in
theorem c_X9_otherOf (l : Launch) (D : va_G) (cI : ClassId) (a : Nat → Nat) (φ : M2) (p1 : Int32) (hv : Int64) (r0 : Int32) (hF : G_X9_otherOf φ p1 = some r0) : Met l yX9_otherOf (wsA yX9_otherOf cX9_otherOf 2 (some .int)) { frames := 3, cells := 0, slots := 0, locals := 65 } (va_Pc [.ref (a 0), .int p1] (mbP D cI a φ hv)) (vp_Si (fun r => r = r0)) 0 0 (fun _ => False) := by
  refine Met.ofW (cc := cX9_otherOf) (maxL := 2) (ret := (some .int)) (by decide) rfl ?_
  intro p e s m args below meth c s₁ B hml hpre
  obtain ⟨rfl, hP, hK, hD0⟩ := hpre
  have hx := B.exec
  have hb := B.bytes
  have hr := B.returns
  have hA : ∀ w ∈ AW, w.before _ s = true := fun w h => atoms_spec (ws := wsA yX9_otherOf cX9_otherOf 2 (some .int)) B.pre w (List.mem_cons_of_mem _ h)
  have hown : s.vm.findClass RX9 = some m.cls := findClass_of_methodNamed B.named
  have hlocks := B.notSynchronized
  have hDT := M_dT hD0
  have S : CallFix p m c cX9_otherOf 2 s ([.ref (a 0), .int p1] : List Value).toArray AW RX9 := ⟨hx, hb, hml, hown, hA⟩
  have hl := lv_entry ([.ref (a 0), .int p1]) (n := 2) (Nat.le_of_ble_eq_true rfl)
  rw [lg_entry_eq]
  generalize (lg_sl ([.ref (a 0), .int p1]) ++ List.replicate (2 - (lg_sl ([.ref (a 0), .int p1])).length) Slot.unset).toArray = ls at hl ⊢
  have hl : lv_has ls 2 [(0, .ref (a 0)), (1, .int p1)] := hl
  have h := hF
  unfold G_X9_otherOf at h
  refine lv_aload_n hx hb dX9_otherOf_0 rfl (lv_at hl 0 rfl) ?_
  refine lv_iload_n hx hb dX9_otherOf_1 rfl (lv_at hl 1 rfl) ?_
  obtain ⟨r1, h2, h⟩ := obd_e h
  refine k_X9_homeOf S aM_RX9_108 ⟨Nat.le_of_ble_eq_true rfl, Nat.le_of_ble_eq_true rfl⟩ ⟨Nat.zero_le _, Nat.zero_le _⟩ hP hK hDT h2 hl.1 (Nat.le_of_ble_eq_true rfl) dX9_otherOf_2 ?_
  refine lv_aload_n hx hb dX9_otherOf_5 rfl (lv_at hl 0 rfl) ?_
  refine lv_iload_n hx hb dX9_otherOf_6 rfl (lv_at hl 1 rfl) ?_
  obtain ⟨r3, h4, h⟩ := obd_e h
  refine k_X9_tagOf S aM_RX9_111 ⟨Nat.le_of_ble_eq_true rfl, Nat.le_of_ble_eq_true rfl⟩ ⟨Nat.zero_le _, Nat.zero_le _⟩ hP hK hDT h4 hl.1 (Nat.le_of_ble_eq_true rfl) dX9_otherOf_7 ?_
  refine lv_aload_n hx hb dX9_otherOf_10 rfl (lv_at hl 0 rfl) ?_
  refine M_g0_0 hx hb hA hown aF_RX9_7 hK hP dX9_otherOf_11 ?_
  refine lv_iconst (v := 0) hx hb dX9_otherOf_14 (by decide) ?_
  obtain ⟨i5, h⟩ := oin_e h
  refine M_ld1 hx hb hK hP i5 dX9_otherOf_15 ?_
  obtain ⟨r6, h7, h⟩ := obd_e h
  refine k_X9_stepOf S aM_RX9_114 ⟨Nat.le_of_ble_eq_true rfl, Nat.le_of_ble_eq_true rfl⟩ ⟨Nat.zero_le _, Nat.zero_le _⟩ h7 hl.1 (Nat.le_of_ble_eq_true rfl) dX9_otherOf_16 ?_
  refine lv_ixor hx hb dX9_otherOf_19 ?_
  obtain rfl := os1 h
  exact W.iret (v := (r1 ^^^ r6)) hx hb hr (fun t ht hW => ⟨_, rfl, rfl, ht⟩) (fun q hq => absurd hq List.not_mem_nil) dX9_otherOf_20
theorem k_X9_otherOf {p : Program} {l : Launch} {e : Env} {R : Room} {s : State} {m : MethodId} {args : Array Value} {below : List Frame} {meth : Method} {c : Code} {H : Heap} {locs : List Loc} {cells slots : Nat} {Q : State → Prop} {cc : ByteArray} {pc nL idx : Nat} {ls : Array Slot} {rest : List Value} {own : String} {D : va_G} {cI : ClassId} {a : Nat → Nat} {φ : M2} {p1 : Int32} {hv : Int64} {r0 : Int32} (S : CallFix p m c cc nL s args AW own) (h1 : Cond.methodLink own idx yX9_otherOf ∈ AW) (hR : 3 + 1 ≤ R.frames ∧ 8 + (2 + 11) + 65 ≤ R.locals) (hc : cells ≤ R.cells ∧ slots ≤ R.slots) (hP : va_P D vwCl (mbW cI a φ hv) H) (hK : va_K D vwCl [(cI, .int)] s) (hDT : ∀ (φ2 : M2) (hv2 : Int64), va_D (fun _ => True) (mbW cI a φ2 hv2)) (hF : G_X9_otherOf φ p1 = some r0) (hsz : ls.size = nL) (hW : (rest.map fun v => v.category).sum ≤ 8) (hdg : decode cc pc = .ok (.invokevirtual idx, 3)) (kk : W p l e R s m args below meth c H locs cells slots Q (F0 m (pc + 3) ls (.int r0 :: rest))) : W p l e R s m args below meth c H locs cells slots Q (F0 m pc ls (.int p1 :: .ref (a 0) :: rest)) :=
  fm_runV (n := 1) (C := RX9) (As := [.int p1]) S (c_X9_otherOf l D cI a φ p1 hv r0 hF) (M_pre (q0 := 0) (ci := 7) hK hP (hDT _ _) rfl rfl) h1 aI_X9_otherOf aV_X9_otherOf aN_RX9 aC_X9_otherOf rfl rfl (by decide +kernel) rfl hR hc hsz hW hdg (fun r hr => by subst hr; exact kk)
set_option maxHeartbeats 4000000 in
set_option maxRecDepth 100000 in
theorem c_X9_printOf (l : Launch) (D : va_G) (cI : ClassId) (a : Nat → Nat) (φ : M2) (p1 : Int32) (p2 : Int32) (hv : Int64) (r0 : Int32) (hF : G_X9_printOf φ p1 p2 = some r0) : Met l yX9_printOf (wsA yX9_printOf cX9_printOf 3 (some .int)) { frames := 2, cells := 0, slots := 0, locals := 44 } (va_Pc [.ref (a 0), .int p1, .int p2] (mbP D cI a φ hv)) (vp_Si (fun r => r = r0)) 0 0 (fun _ => False) := by
  refine Met.ofW (cc := cX9_printOf) (maxL := 3) (ret := (some .int)) (by decide) rfl ?_
  intro p e s m args below meth c s₁ B hml hpre
  obtain ⟨rfl, hP, hK, hD0⟩ := hpre
  have hx := B.exec
  have hb := B.bytes
  have hr := B.returns
  have hA : ∀ w ∈ AW, w.before _ s = true := fun w h => atoms_spec (ws := wsA yX9_printOf cX9_printOf 3 (some .int)) B.pre w (List.mem_cons_of_mem _ h)
  have hown : s.vm.findClass RX9 = some m.cls := findClass_of_methodNamed B.named
  have hlocks := B.notSynchronized
  have hDT := M_dT hD0
  have S : CallFix p m c cX9_printOf 3 s ([.ref (a 0), .int p1, .int p2] : List Value).toArray AW RX9 := ⟨hx, hb, hml, hown, hA⟩
  have hl := lv_entry ([.ref (a 0), .int p1, .int p2]) (n := 3) (Nat.le_of_ble_eq_true rfl)
  rw [lg_entry_eq]
  generalize (lg_sl ([.ref (a 0), .int p1, .int p2]) ++ List.replicate (3 - (lg_sl ([.ref (a 0), .int p1, .int p2])).length) Slot.unset).toArray = ls at hl ⊢
  have hl : lv_has ls 3 [(0, .ref (a 0)), (1, .int p1), (2, .int p2)] := hl
  have h := hF
  unfold G_X9_printOf at h
  refine lv_aload_n hx hb dX9_printOf_0 rfl (lv_at hl 0 rfl) ?_
  refine lv_iload_n hx hb dX9_printOf_1 rfl (lv_at hl 1 rfl) ?_
  obtain ⟨r1, h2, h⟩ := obd_e h
  refine k_X9_bodyOf S aM_RX9_100 ⟨Nat.le_of_ble_eq_true rfl, Nat.le_of_ble_eq_true rfl⟩ ⟨Nat.zero_le _, Nat.zero_le _⟩ hP hK hDT h2 hl.1 (Nat.le_of_ble_eq_true rfl) dX9_printOf_2 ?_
  refine lv_aload_n hx hb dX9_printOf_5 rfl (lv_at hl 0 rfl) ?_
  refine M_g0_0 hx hb hA hown aF_RX9_7 hK hP dX9_printOf_6 ?_
  refine lv_iconst (v := 0) hx hb dX9_printOf_9 (by decide) ?_
  obtain ⟨i3, h⟩ := oin_e h
  refine M_ld1 hx hb hK hP i3 dX9_printOf_10 ?_
  refine lv_ishr hx hb dX9_printOf_11 ?_
  refine lv_iconst (v := 1) hx hb dX9_printOf_12 (by decide) ?_
  refine lv_iload_n hx hb dX9_printOf_13 rfl (lv_at hl 2 rfl) ?_
  refine lv_ishl hx hb dX9_printOf_14 ?_
  obtain ⟨z4, h⟩ := onz_e h
  refine lv_irem hx hb dX9_printOf_15 z4 ?_
  obtain rfl := os1 h
  exact W.iret (v := (irm ((r1 >>> ((φ 1 (0 : Int32).toNatClampNeg) &&& 31))) ((1 <<< (p2 &&& 31))))) hx hb hr (fun t ht hW => ⟨_, rfl, rfl, ht⟩) (fun q hq => absurd hq List.not_mem_nil) dX9_printOf_16
theorem k_X9_printOf {p : Program} {l : Launch} {e : Env} {R : Room} {s : State} {m : MethodId} {args : Array Value} {below : List Frame} {meth : Method} {c : Code} {H : Heap} {locs : List Loc} {cells slots : Nat} {Q : State → Prop} {cc : ByteArray} {pc nL idx : Nat} {ls : Array Slot} {rest : List Value} {own : String} {D : va_G} {cI : ClassId} {a : Nat → Nat} {φ : M2} {p1 : Int32} {p2 : Int32} {hv : Int64} {r0 : Int32} (S : CallFix p m c cc nL s args AW own) (h1 : Cond.methodLink own idx yX9_printOf ∈ AW) (hR : 2 + 1 ≤ R.frames ∧ 8 + (3 + 11) + 44 ≤ R.locals) (hc : cells ≤ R.cells ∧ slots ≤ R.slots) (hP : va_P D vwCl (mbW cI a φ hv) H) (hK : va_K D vwCl [(cI, .int)] s) (hDT : ∀ (φ2 : M2) (hv2 : Int64), va_D (fun _ => True) (mbW cI a φ2 hv2)) (hF : G_X9_printOf φ p1 p2 = some r0) (hsz : ls.size = nL) (hW : (rest.map fun v => v.category).sum ≤ 8) (hdg : decode cc pc = .ok (.invokevirtual idx, 3)) (kk : W p l e R s m args below meth c H locs cells slots Q (F0 m (pc + 3) ls (.int r0 :: rest))) : W p l e R s m args below meth c H locs cells slots Q (F0 m pc ls (.int p2 :: .int p1 :: .ref (a 0) :: rest)) :=
  fm_runV (n := 2) (C := RX9) (As := [.int p1, .int p2]) S (c_X9_printOf l D cI a φ p1 p2 hv r0 hF) (M_pre (q0 := 0) (ci := 7) hK hP (hDT _ _) rfl rfl) h1 aI_X9_printOf aV_X9_printOf aN_RX9 aC_X9_printOf rfl rfl (by decide +kernel) rfl hR hc hsz hW hdg (fun r hr => by subst hr; exact kk)
set_option maxHeartbeats 4000000 in
set_option maxRecDepth 100000 in
theorem c_X9_at (l : Launch) (p0 : Int32) (p1 : Int32) (r0 : Int32) (hF : G_X9_at p0 p1 = r0) : Met l yX9_at (wsA yX9_at cX9_at 2 (some .int)) { frames := 0, cells := 0, slots := 0, locals := 0 } (va_Pc [.int p0, .int p1] (fun _ => True)) (vp_Si (fun r => r = r0)) 0 0 (fun _ => False) := by
  refine Met.ofW (cc := cX9_at) (maxL := 2) (ret := (some .int)) (by decide) rfl ?_
  intro p e s m args below meth c s₁ B hml hpre
  obtain ⟨rfl, -⟩ := hpre
  have hx := B.exec
  have hb := B.bytes
  have hr := B.returns
  have hA : ∀ w ∈ AW, w.before _ s = true := fun w h => atoms_spec (ws := wsA yX9_at cX9_at 2 (some .int)) B.pre w (List.mem_cons_of_mem _ h)
  have hown : s.vm.findClass RX9 = some m.cls := findClass_of_methodNamed B.named
  have hlocks := B.notSynchronized
  have S : CallFix p m c cX9_at 2 s ([.int p0, .int p1] : List Value).toArray AW RX9 := ⟨hx, hb, hml, hown, hA⟩
  have hl := lv_entry ([.int p0, .int p1]) (n := 2) (Nat.le_of_ble_eq_true rfl)
  rw [lg_entry_eq]
  generalize (lg_sl ([.int p0, .int p1]) ++ List.replicate (2 - (lg_sl ([.int p0, .int p1])).length) Slot.unset).toArray = ls at hl ⊢
  have hl : lv_has ls 2 [(0, .int p0), (1, .int p1)] := hl
  have h := hF
  unfold G_X9_at at h
  refine lv_bipush (v := 18) hx hb dX9_at_0 (by decide) ?_
  refine lv_iconst (v := 4) hx hb dX9_at_2 (by decide) ?_
  refine lv_iconst (v := 4) hx hb dX9_at_3 (by decide) ?_
  refine lv_iload_n hx hb dX9_at_4 rfl (lv_at hl 0 rfl) ?_
  refine lv_imul hx hb dX9_at_5 ?_
  refine lv_iload_n hx hb dX9_at_6 rfl (lv_at hl 1 rfl) ?_
  refine lv_iadd hx hb dX9_at_7 ?_
  refine lv_imul hx hb dX9_at_8 ?_
  refine lv_iadd hx hb dX9_at_9 ?_
  subst h
  exact W.iret (v := (18 + (4 * ((4 * p0) + p1)))) hx hb hr (fun t ht hW => ⟨_, rfl, rfl, ht⟩) (fun q hq => absurd hq List.not_mem_nil) dX9_at_10
theorem k_X9_at {p : Program} {l : Launch} {e : Env} {R : Room} {s : State} {m : MethodId} {args : Array Value} {below : List Frame} {meth : Method} {c : Code} {H : Heap} {locs : List Loc} {cells slots : Nat} {Q : State → Prop} {cc : ByteArray} {pc nL idx : Nat} {ls : Array Slot} {rest : List Value} {own : String} {p0 : Int32} {p1 : Int32} (S : CallFix p m c cc nL s args AW own) (h1 : Cond.methodLink own idx yX9_at ∈ AW) (hR : 0 + 1 ≤ R.frames ∧ 8 + (2 + 11) + 0 ≤ R.locals) (hc : cells ≤ R.cells ∧ slots ≤ R.slots) (hsz : ls.size = nL) (hW : (rest.map fun v => v.category).sum ≤ 8) (hdg : decode cc pc = .ok (.invokestatic idx, 3)) (kk : ∀ r : Int32, r = G_X9_at p0 p1 → W p l e R s m args below meth c H locs cells slots Q (F0 m (pc + 3) ls (.int r :: rest))) : W p l e R s m args below meth c H locs cells slots Q (F0 m pc ls (.int p1 :: .int p0 :: rest)) :=
  fm_runS (n := 2) (As := [.int p0, .int p1]) S (c_X9_at l p0 p1 _ rfl) h1 aS_X9_at aN_RX9 aC_X9_at rfl rfl (by decide +kernel) rfl hR hc hsz hW hdg (fun r hr => kk r hr)
set_option maxHeartbeats 4000000 in
set_option maxRecDepth 100000 in
theorem c_X9_isEmpty (l : Launch) (D : va_G) (cI : ClassId) (a : Nat → Nat) (φ : M2) (p1 : Int32) (p2 : Int32) (hv : Int64) (r0 : Int32) (hF : G_X9_isEmpty φ p1 p2 = some r0) : Met l yX9_isEmpty (wsA yX9_isEmpty cX9_isEmpty 3 (some .boolean)) { frames := 1, cells := 0, slots := 0, locals := 21 } (va_Pc [.ref (a 0), .int p1, .int p2] (mbP D cI a φ hv)) (vp_Si (fun r => r = r0 ∧ (r = 0 ∨ r = 1))) 0 0 (fun _ => False) := by
  refine Met.ofW (cc := cX9_isEmpty) (maxL := 3) (ret := (some .boolean)) (by decide) rfl ?_
  intro p e s m args below meth c s₁ B hml hpre
  obtain ⟨rfl, hP, hK, hD0⟩ := hpre
  have hx := B.exec
  have hb := B.bytes
  have hr := B.returns
  have hA : ∀ w ∈ AW, w.before _ s = true := fun w h => atoms_spec (ws := wsA yX9_isEmpty cX9_isEmpty 3 (some .boolean)) B.pre w (List.mem_cons_of_mem _ h)
  have hown : s.vm.findClass RX9 = some m.cls := findClass_of_methodNamed B.named
  have hlocks := B.notSynchronized
  have hDT := M_dT hD0
  have S : CallFix p m c cX9_isEmpty 3 s ([.ref (a 0), .int p1, .int p2] : List Value).toArray AW RX9 := ⟨hx, hb, hml, hown, hA⟩
  have hl := lv_entry ([.ref (a 0), .int p1, .int p2]) (n := 3) (Nat.le_of_ble_eq_true rfl)
  rw [lg_entry_eq]
  generalize (lg_sl ([.ref (a 0), .int p1, .int p2]) ++ List.replicate (3 - (lg_sl ([.ref (a 0), .int p1, .int p2])).length) Slot.unset).toArray = ls at hl ⊢
  have hl : lv_has ls 3 [(0, .ref (a 0)), (1, .int p1), (2, .int p2)] := hl
  have h := hF
  unfold G_X9_isEmpty at h
  refine lv_aload_n hx hb dX9_isEmpty_0 rfl (lv_at hl 0 rfl) ?_
  refine M_g0_0 hx hb hA hown aF_RX9_7 hK hP dX9_isEmpty_1 ?_
  refine lv_iload_n hx hb dX9_isEmpty_4 rfl (lv_at hl 1 rfl) ?_
  refine lv_iload_n hx hb dX9_isEmpty_5 rfl (lv_at hl 2 rfl) ?_
  refine k_X9_at S aM_RX9_117 ⟨Nat.le_of_ble_eq_true rfl, Nat.le_of_ble_eq_true rfl⟩ ⟨Nat.zero_le _, Nat.zero_le _⟩ hl.1 (Nat.le_of_ble_eq_true rfl) dX9_isEmpty_6 (fun r1 er1 => ?_)
  replace h := olet_s er1 h
  obtain ⟨i2, h⟩ := oin_e h
  refine M_ld1 hx hb hK hP i2 dX9_isEmpty_9 ?_
  refine lv_iconst (v := (-1)) hx hb dX9_isEmpty_10 (by decide) ?_
  refine lv_icmp_ne (tgt := 18) hx hb dX9_isEmpty_11 (by decide) (fun hc => ?_) (fun hc => ?_)
  · replace h := oi_f hc h
    refine lv_iconst (v := 0) hx hb dX9_isEmpty_18 (by decide) ?_
    obtain rfl := os1 h
    exact W.zret (v := 0) (ty := .boolean) hx hb hr rfl (fun t ht hW => ⟨_, rfl, ⟨rfl, (Or.inl rfl)⟩, ht⟩) (fun q hq => absurd hq List.not_mem_nil) dX9_isEmpty_19
  · replace h := oi_t hc h
    refine lv_iconst (v := 1) hx hb dX9_isEmpty_14 (by decide) ?_
    refine lv_goto (tgt := 19) hx hb dX9_isEmpty_15 (by decide) ?_
    obtain rfl := os1 h
    exact W.zret (v := 1) (ty := .boolean) hx hb hr rfl (fun t ht hW => ⟨_, rfl, ⟨rfl, (Or.inr rfl)⟩, ht⟩) (fun q hq => absurd hq List.not_mem_nil) dX9_isEmpty_19
theorem k_X9_isEmpty {p : Program} {l : Launch} {e : Env} {R : Room} {s : State} {m : MethodId} {args : Array Value} {below : List Frame} {meth : Method} {c : Code} {H : Heap} {locs : List Loc} {cells slots : Nat} {Q : State → Prop} {cc : ByteArray} {pc nL idx : Nat} {ls : Array Slot} {rest : List Value} {own : String} {D : va_G} {cI : ClassId} {a : Nat → Nat} {φ : M2} {p1 : Int32} {p2 : Int32} {hv : Int64} {r0 : Int32} (S : CallFix p m c cc nL s args AW own) (h1 : Cond.methodLink own idx yX9_isEmpty ∈ AW) (hR : 1 + 1 ≤ R.frames ∧ 8 + (3 + 11) + 21 ≤ R.locals) (hc : cells ≤ R.cells ∧ slots ≤ R.slots) (hP : va_P D vwCl (mbW cI a φ hv) H) (hK : va_K D vwCl [(cI, .int)] s) (hDT : ∀ (φ2 : M2) (hv2 : Int64), va_D (fun _ => True) (mbW cI a φ2 hv2)) (hF : G_X9_isEmpty φ p1 p2 = some r0) (hsz : ls.size = nL) (hW : (rest.map fun v => v.category).sum ≤ 8) (hdg : decode cc pc = .ok (.invokevirtual idx, 3)) (kk : (r0 = 0 ∨ r0 = 1) → W p l e R s m args below meth c H locs cells slots Q (F0 m (pc + 3) ls (.int r0 :: rest))) : W p l e R s m args below meth c H locs cells slots Q (F0 m pc ls (.int p2 :: .int p1 :: .ref (a 0) :: rest)) :=
  fm_runV (n := 2) (C := RX9) (As := [.int p1, .int p2]) S (c_X9_isEmpty l D cI a φ p1 p2 hv r0 hF) (M_pre (q0 := 0) (ci := 7) hK hP (hDT _ _) rfl rfl) h1 aI_X9_isEmpty aV_X9_isEmpty aN_RX9 aC_X9_isEmpty rfl rfl (by decide +kernel) rfl hR hc hsz hW hdg (fun r hr => by obtain ⟨rfl, hz⟩ := hr; exact kk hz)
set_option maxHeartbeats 4000000 in
set_option maxRecDepth 100000 in
theorem c_X9_room (l : Launch) (D : va_G) (cI : ClassId) (a : Nat → Nat) (N : Nat) (φ : M2) (p1 : Int32) (hv : Int64) (r0 : Int32) (hF : G_X9_room N φ p1 = some r0) : Met l yX9_room (wsA yX9_room cX9_room 3 (some .int)) { frames := 2, cells := 0, slots := 0, locals := 43 } (va_Pc [.ref (a 0), .int p1] (mbP D cI a φ hv)) (vp_Si (fun r => r = r0)) 0 0 (fun _ => False) := by
  refine Met.ofW (cc := cX9_room) (maxL := 3) (ret := (some .int)) (by decide) rfl ?_
  intro p e s m args below meth c s₁ B hml hpre
  obtain ⟨rfl, hP, hK, hD0⟩ := hpre
  have hx := B.exec
  have hb := B.bytes
  have hr := B.returns
  have hA : ∀ w ∈ AW, w.before _ s = true := fun w h => atoms_spec (ws := wsA yX9_room cX9_room 3 (some .int)) B.pre w (List.mem_cons_of_mem _ h)
  have hown : s.vm.findClass RX9 = some m.cls := findClass_of_methodNamed B.named
  have hlocks := B.notSynchronized
  have hDT := M_dT hD0
  have S : CallFix p m c cX9_room 3 s ([.ref (a 0), .int p1] : List Value).toArray AW RX9 := ⟨hx, hb, hml, hown, hA⟩
  have hl := lv_entry ([.ref (a 0), .int p1]) (n := 3) (Nat.le_of_ble_eq_true rfl)
  rw [lg_entry_eq]
  generalize (lg_sl ([.ref (a 0), .int p1]) ++ List.replicate (3 - (lg_sl ([.ref (a 0), .int p1])).length) Slot.unset).toArray = ls at hl ⊢
  have hl : lv_has ls 3 [(0, .ref (a 0)), (1, .int p1)] := hl
  have hL2 : ∀ (k : Nat) (v1 : Int32) (v2 : Int32) (ls : Array Slot) , L_X9_room_2 N φ v1 k v2 = some r0 → lv_has ls 3 [(0, .ref (a 0)), (1, .int v1), (2, .int v2)] → W p l e (headSpec (wsA yX9_room cX9_room 3 (some .int)) { frames := 2, cells := 0, slots := 0, locals := 43 }).room s m ([.ref (a 0), .int p1] : List Value).toArray below meth c s.heap [] 0 0 (MQ below (vp_Si (fun r => r = r0)) ([.ref (a 0), .int p1] : List Value).toArray s 0 0 (fun _ => False)) (F0 m 2 ls []) := by
    intro k
    induction k with
    | zero =>
      intro v1 v2 ls h hl
      exact no_s h
    | succ k ih =>
      intro v1 v2 ls h hl
      replace h : B_X9_room_2 N φ v1 (L_X9_room_2 N φ v1 k) v2 = some r0 := h
      unfold B_X9_room_2 at h
      refine lv_iload_n hx hb dX9_room_2 rfl (lv_at hl 2 rfl) ?_
      refine lv_aload_n hx hb dX9_room_3 rfl (lv_at hl 0 rfl) ?_
      refine M_g0_0 hx hb hA hown aF_RX9_7 hK hP dX9_room_4 ?_
      refine lv_iconst (v := 1) hx hb dX9_room_7 (by decide) ?_
      obtain ⟨i1, h⟩ := oin_e h
      refine M_ld1 hx hb hK hP i1 dX9_room_8 ?_
      refine lv_icmp_ge (tgt := 29) hx hb dX9_room_9 (by decide) (fun hc => ?_) (fun hc => ?_)
      · replace h := oi_t hc h
        refine lv_iconst (v := (-1)) hx hb dX9_room_29 (by decide) ?_
        obtain rfl := os1 h
        exact W.iret (v := (-1)) hx hb hr (fun t ht hW => ⟨_, rfl, rfl, ht⟩) (fun q hq => absurd hq List.not_mem_nil) dX9_room_30
      · replace h := oi_f hc h
        refine lv_aload_n hx hb dX9_room_12 rfl (lv_at hl 0 rfl) ?_
        refine lv_iload_n hx hb dX9_room_13 rfl (lv_at hl 1 rfl) ?_
        refine lv_iload_n hx hb dX9_room_14 rfl (lv_at hl 2 rfl) ?_
        obtain ⟨r2, h3, h⟩ := obd_e h
        refine k_X9_isEmpty S aM_RX9_120 ⟨Nat.le_of_ble_eq_true rfl, Nat.le_of_ble_eq_true rfl⟩ ⟨Nat.zero_le _, Nat.zero_le _⟩ hP hK hDT h3 hl.1 (Nat.le_of_ble_eq_true rfl) dX9_room_15 (fun br2 => ?_)
        refine lv_if_eq (tgt := 23) hx hb dX9_room_18 (by decide) (fun hc => ?_) (fun hc => ?_)
        · replace h := oi_t hc h
          refine lv_iinc (v := v2 + 1) (lv' := [(2, .int (v2 + 1)), (0, .ref (a 0)), (1, .int v1)]) hx hb dX9_room_23 hl (k := 2) rfl (fm_inc _ _ _ (by decide)) (by decide) rfl (fun ls hl => ?_)
          refine lv_goto (tgt := 2) hx hb dX9_room_26 (by decide) ?_
          exact ih _ _ _  h (lv_sub hl [1, 2, 0] rfl)
        · replace h := oi_f hc h
          refine lv_iload_n hx hb dX9_room_21 rfl (lv_at hl 2 rfl) ?_
          obtain rfl := os1 h
          exact W.iret (v := v2) hx hb hr (fun t ht hW => ⟨_, rfl, rfl, ht⟩) (fun q hq => absurd hq List.not_mem_nil) dX9_room_22
  have h := hF
  unfold G_X9_room at h
  refine lv_iconst (v := 0) hx hb dX9_room_0 (by decide) ?_
  refine lv_istore_n (lv' := [(2, .int 0), (0, .ref (a 0)), (1, .int p1)]) hx hb dX9_room_1 rfl hl (by decide) rfl (fun ls hl => ?_)
  exact hL2 N _ _ _ h (lv_sub hl [1, 2, 0] rfl)
theorem k_X9_room {p : Program} {l : Launch} {e : Env} {R : Room} {s : State} {m : MethodId} {args : Array Value} {below : List Frame} {meth : Method} {c : Code} {H : Heap} {locs : List Loc} {cells slots : Nat} {Q : State → Prop} {cc : ByteArray} {pc nL idx : Nat} {ls : Array Slot} {rest : List Value} {own : String} {D : va_G} {cI : ClassId} {a : Nat → Nat} {N : Nat} {φ : M2} {p1 : Int32} {hv : Int64} {r0 : Int32} (S : CallFix p m c cc nL s args AW own) (h1 : Cond.methodLink own idx yX9_room ∈ AW) (hR : 2 + 1 ≤ R.frames ∧ 8 + (3 + 11) + 43 ≤ R.locals) (hc : cells ≤ R.cells ∧ slots ≤ R.slots) (hP : va_P D vwCl (mbW cI a φ hv) H) (hK : va_K D vwCl [(cI, .int)] s) (hDT : ∀ (φ2 : M2) (hv2 : Int64), va_D (fun _ => True) (mbW cI a φ2 hv2)) (hF : G_X9_room N φ p1 = some r0) (hsz : ls.size = nL) (hW : (rest.map fun v => v.category).sum ≤ 8) (hdg : decode cc pc = .ok (.invokevirtual idx, 3)) (kk : W p l e R s m args below meth c H locs cells slots Q (F0 m (pc + 3) ls (.int r0 :: rest))) : W p l e R s m args below meth c H locs cells slots Q (F0 m pc ls (.int p1 :: .ref (a 0) :: rest)) :=
  fm_runV (n := 1) (C := RX9) (As := [.int p1]) S (c_X9_room l D cI a N φ p1 hv r0 hF) (M_pre (q0 := 0) (ci := 7) hK hP (hDT _ _) rfl rfl) h1 aI_X9_room aV_X9_room aN_RX9 aC_X9_room rfl rfl (by decide +kernel) rfl hR hc hsz hW hdg (fun r hr => by subst hr; exact kk)
set_option maxHeartbeats 4000000 in
set_option maxRecDepth 100000 in
theorem c_X9_put (l : Launch) (D : va_G) (cI : ClassId) (a : Nat → Nat) (φ : M2) (p1 : Int32) (p2 : Int32) (p3 : Int32) (p4 : Int32) (p5 : Int32) (p6 : Int32) (hv : Int64) (φr : M2) (hF : G_X9_put φ p1 p2 p3 p4 p5 p6 = some φr) : Met l yX9_put (wsA yX9_put cX9_put 8 none) { frames := 1, cells := 0, slots := 0, locals := 21 } (va_Pc [.ref (a 0), .int p1, .int p2, .int p3, .int p4, .int p5, .int p6] (mbP D cI a φ hv)) (va_Qv (fun (_ : Unit) => True) (fun _ t => va_P D vwCl (mbW cI a φr hv) t.heap) (mbA a)) 0 0 (mbA a) := by
  refine Met.ofW (cc := cX9_put) (maxL := 8) (ret := none) (by decide) rfl ?_
  intro p e s m args below meth c s₁ B hml hpre
  obtain ⟨rfl, hP, hK, hD0⟩ := hpre
  have hx := B.exec
  have hb := B.bytes
  have hr := B.returns
  have hA : ∀ w ∈ AW, w.before _ s = true := fun w h => atoms_spec (ws := wsA yX9_put cX9_put 8 none) B.pre w (List.mem_cons_of_mem _ h)
  have hown : s.vm.findClass RX9 = some m.cls := findClass_of_methodNamed B.named
  have hlocks := B.notSynchronized
  have hDT := M_dT hD0
  have hDA := M_dA hD0
  have hS : va_S (mbA a) s.heap s.heap [] := va_S.rf
  have S : CallFix p m c cX9_put 8 s ([.ref (a 0), .int p1, .int p2, .int p3, .int p4, .int p5, .int p6] : List Value).toArray AW RX9 := ⟨hx, hb, hml, hown, hA⟩
  have hl := lv_entry ([.ref (a 0), .int p1, .int p2, .int p3, .int p4, .int p5, .int p6]) (n := 8) (Nat.le_of_ble_eq_true rfl)
  rw [lg_entry_eq]
  generalize (lg_sl ([.ref (a 0), .int p1, .int p2, .int p3, .int p4, .int p5, .int p6]) ++ List.replicate (8 - (lg_sl ([.ref (a 0), .int p1, .int p2, .int p3, .int p4, .int p5, .int p6])).length) Slot.unset).toArray = ls at hl ⊢
  have hl : lv_has ls 8 [(0, .ref (a 0)), (1, .int p1), (2, .int p2), (3, .int p3), (4, .int p4), (5, .int p5), (6, .int p6)] := hl
  have h := hF
  unfold G_X9_put at h
  refine lv_iload_n hx hb dX9_put_0 rfl (lv_at hl 1 rfl) ?_
  refine lv_iload_n hx hb dX9_put_1 rfl (lv_at hl 2 rfl) ?_
  refine k_X9_at S aM_RX9_117 ⟨Nat.le_of_ble_eq_true rfl, Nat.le_of_ble_eq_true rfl⟩ ⟨Nat.zero_le _, Nat.zero_le _⟩ hl.1 (Nat.le_of_ble_eq_true rfl) dX9_put_2 (fun r1 er1 => ?_)
  replace h := olet_s er1 h
  refine lv_istore (lv' := [(7, .int r1), (0, .ref (a 0)), (1, .int p1), (2, .int p2), (3, .int p3), (4, .int p4), (5, .int p5), (6, .int p6)]) hx hb dX9_put_5 hl (by decide) rfl (fun ls hl => ?_)
  refine lv_aload_n hx hb dX9_put_7 rfl (lv_at hl 1 rfl) ?_
  refine M_g0_0 hx hb hA hown aF_RX9_7 hK hP dX9_put_8 ?_
  refine lv_iload hx hb dX9_put_11 (lv_at hl 0 rfl) ?_
  refine lv_iload_n hx hb dX9_put_13 rfl (lv_at hl 4 rfl) ?_
  obtain ⟨i2, h⟩ := oin_e h
  refine M_st1 hx hb hK hP (hDA _ _) hS i2 dX9_put_14 (fun w3 H locs ew3 hP hS => ?_)
  replace h := olet_s ew3 h
  refine lv_aload_n hx hb dX9_put_15 rfl (lv_at hl 1 rfl) ?_
  refine M_g0_0 hx hb hA hown aF_RX9_7 hK hP dX9_put_16 ?_
  refine lv_iload hx hb dX9_put_19 (lv_at hl 0 rfl) ?_
  refine lv_iconst (v := 1) hx hb dX9_put_21 (by decide) ?_
  refine lv_iadd hx hb dX9_put_22 ?_
  refine lv_iload hx hb dX9_put_23 (lv_at hl 5 rfl) ?_
  obtain ⟨i4, h⟩ := oin_e h
  refine M_st1 hx hb hK hP (hDA _ _) hS i4 dX9_put_25 (fun w5 H locs ew5 hP hS => ?_)
  replace h := olet_s ew5 h
  refine lv_aload_n hx hb dX9_put_26 rfl (lv_at hl 1 rfl) ?_
  refine M_g0_0 hx hb hA hown aF_RX9_7 hK hP dX9_put_27 ?_
  refine lv_iload hx hb dX9_put_30 (lv_at hl 0 rfl) ?_
  refine lv_iconst (v := 2) hx hb dX9_put_32 (by decide) ?_
  refine lv_iadd hx hb dX9_put_33 ?_
  refine lv_iload hx hb dX9_put_34 (lv_at hl 6 rfl) ?_
  obtain ⟨i6, h⟩ := oin_e h
  refine M_st1 hx hb hK hP (hDA _ _) hS i6 dX9_put_36 (fun w7 H locs ew7 hP hS => ?_)
  replace h := olet_s ew7 h
  refine lv_aload_n hx hb dX9_put_37 rfl (lv_at hl 1 rfl) ?_
  refine M_g0_0 hx hb hA hown aF_RX9_7 hK hP dX9_put_38 ?_
  refine lv_iload hx hb dX9_put_41 (lv_at hl 0 rfl) ?_
  refine lv_iconst (v := 3) hx hb dX9_put_43 (by decide) ?_
  refine lv_iadd hx hb dX9_put_44 ?_
  refine lv_iload hx hb dX9_put_45 (lv_at hl 7 rfl) ?_
  obtain ⟨i8, h⟩ := oin_e h
  refine M_st1 hx hb hK hP (hDA _ _) hS i8 dX9_put_47 (fun w9 H locs ew9 hP hS => ?_)
  replace h := olet_s ew9 h
  obtain rfl := os1 h
  exact W.vret hx hb hr (fun t ht hW => ⟨⟨(), rfl, trivial, by show va_P _ _ _ t.heap; rw [ht]; exact hP⟩, hS.F ht⟩) hS.2.2 dX9_put_48
theorem k_X9_put {p : Program} {l : Launch} {e : Env} {R : Room} {s : State} {m : MethodId} {args : Array Value} {below : List Frame} {meth : Method} {c : Code} {H : Heap} {locs : List Loc} {cells slots : Nat} {Q : State → Prop} {cc : ByteArray} {pc nL idx : Nat} {ls : Array Slot} {rest : List Value} {own : String} {D : va_G} {cI : ClassId} {a : Nat → Nat} {H0 : Heap} {φ : M2} {p1 : Int32} {p2 : Int32} {p3 : Int32} {p4 : Int32} {p5 : Int32} {p6 : Int32} {hv : Int64} {φr : M2} (S : CallFix p m c cc nL s args AW own) (h1 : Cond.methodLink own idx yX9_put ∈ AW) (hR : 1 + 1 ≤ R.frames ∧ 8 + (8 + 11) + 21 ≤ R.locals) (hc : cells ≤ R.cells ∧ slots ≤ R.slots) (hP : va_P D vwCl (mbW cI a φ hv) H) (hK : va_K D vwCl [(cI, .int)] s) (hDT : ∀ (φ2 : M2) (hv2 : Int64), va_D (fun _ => True) (mbW cI a φ2 hv2)) (hS : va_S (mbA a) H0 H locs) (hF : G_X9_put φ p1 p2 p3 p4 p5 p6 = some φr) (hsz : ls.size = nL) (hW : (rest.map fun v => v.category).sum ≤ 8) (hdg : decode cc pc = .ok (.invokevirtual idx, 3)) (kk : ∀ (H1 : Heap) (locs1 : List Loc), va_P D vwCl (mbW cI a φr hv) H1 → va_S (mbA a) H0 H1 locs1 → W p l e R s m args below meth c H1 locs1 cells slots Q (F0 m (pc + 3) ls (rest))) : W p l e R s m args below meth c H locs cells slots Q (F0 m pc ls (.int p6 :: .int p5 :: .int p4 :: .int p3 :: .int p2 :: .int p1 :: .ref (a 0) :: rest)) :=
  fm_runVv (n := 6) (C := RX9) (As := [.int p1, .int p2, .int p3, .int p4, .int p5, .int p6]) S (c_X9_put l D cI a φ p1 p2 p3 p4 p5 p6 hv φr hF) (M_pre (q0 := 0) (ci := 7) hK hP (hDT _ _) rfl rfl) hS h1 aI_X9_put aV_X9_put aN_RX9 aC_X9_put rfl rfl (by decide +kernel) rfl hR hc hsz hW hdg (fun H1 locs1 hP1 hS1 => kk H1 locs1 hP1 hS1)
set_option maxHeartbeats 4000000 in
set_option maxRecDepth 100000 in
theorem c_X9_matches (l : Launch) (D : va_G) (cI : ClassId) (a : Nat → Nat) (φ : M2) (p1 : Int32) (p2 : Int32) (hv : Int64) (r0 : Int32) (hF : G_X9_matches φ p1 p2 = some r0) : Met l yX9_matches (wsA yX9_matches cX9_matches 3 (some .boolean)) { frames := 3, cells := 0, slots := 0, locals := 66 } (va_Pc [.ref (a 0), .int p1, .int p2] (mbP D cI a φ hv)) (vp_Si (fun r => r = r0 ∧ (r = 0 ∨ r = 1))) 0 0 (fun _ => False) := by
  refine Met.ofW (cc := cX9_matches) (maxL := 3) (ret := (some .boolean)) (by decide) rfl ?_
  intro p e s m args below meth c s₁ B hml hpre
  obtain ⟨rfl, hP, hK, hD0⟩ := hpre
  have hx := B.exec
  have hb := B.bytes
  have hr := B.returns
  have hA : ∀ w ∈ AW, w.before _ s = true := fun w h => atoms_spec (ws := wsA yX9_matches cX9_matches 3 (some .boolean)) B.pre w (List.mem_cons_of_mem _ h)
  have hown : s.vm.findClass RX9 = some m.cls := findClass_of_methodNamed B.named
  have hlocks := B.notSynchronized
  have hDT := M_dT hD0
  have S : CallFix p m c cX9_matches 3 s ([.ref (a 0), .int p1, .int p2] : List Value).toArray AW RX9 := ⟨hx, hb, hml, hown, hA⟩
  have hl := lv_entry ([.ref (a 0), .int p1, .int p2]) (n := 3) (Nat.le_of_ble_eq_true rfl)
  rw [lg_entry_eq]
  generalize (lg_sl ([.ref (a 0), .int p1, .int p2]) ++ List.replicate (3 - (lg_sl ([.ref (a 0), .int p1, .int p2])).length) Slot.unset).toArray = ls at hl ⊢
  have hl : lv_has ls 3 [(0, .ref (a 0)), (1, .int p1), (2, .int p2)] := hl
  have h := hF
  unfold G_X9_matches at h
  refine lv_aload_n hx hb dX9_matches_0 rfl (lv_at hl 0 rfl) ?_
  refine M_g0_0 hx hb hA hown aF_RX9_7 hK hP dX9_matches_1 ?_
  refine lv_iload_n hx hb dX9_matches_4 rfl (lv_at hl 2 rfl) ?_
  obtain ⟨i1, h⟩ := oin_e h
  refine M_ld1 hx hb hK hP i1 dX9_matches_5 ?_
  refine lv_aload_n hx hb dX9_matches_6 rfl (lv_at hl 0 rfl) ?_
  refine lv_iload_n hx hb dX9_matches_7 rfl (lv_at hl 1 rfl) ?_
  obtain ⟨r2, h3, h⟩ := obd_e h
  refine k_X9_tagOf S aM_RX9_111 ⟨Nat.le_of_ble_eq_true rfl, Nat.le_of_ble_eq_true rfl⟩ ⟨Nat.zero_le _, Nat.zero_le _⟩ hP hK hDT h3 hl.1 (Nat.le_of_ble_eq_true rfl) dX9_matches_8 ?_
  refine lv_icmp_ne (tgt := 42) hx hb dX9_matches_11 (by decide) (fun hc => ?_) (fun hc => ?_)
  · replace h := oi_f hc h
    refine lv_iconst (v := 0) hx hb dX9_matches_42 (by decide) ?_
    obtain rfl := os1 h
    exact W.zret (v := 0) (ty := .boolean) hx hb hr rfl (fun t ht hW => ⟨_, rfl, ⟨rfl, (Or.inl rfl)⟩, ht⟩) (fun q hq => absurd hq List.not_mem_nil) dX9_matches_43
  · replace h := oi_t hc h
    refine lv_aload_n hx hb dX9_matches_14 rfl (lv_at hl 0 rfl) ?_
    refine M_g0_0 hx hb hA hown aF_RX9_7 hK hP dX9_matches_15 ?_
    refine lv_iload_n hx hb dX9_matches_18 rfl (lv_at hl 2 rfl) ?_
    refine lv_iconst (v := 2) hx hb dX9_matches_19 (by decide) ?_
    refine lv_iadd hx hb dX9_matches_20 ?_
    obtain ⟨i4, h⟩ := oin_e h
    refine M_ld1 hx hb hK hP i4 dX9_matches_21 ?_
    refine lv_aload_n hx hb dX9_matches_22 rfl (lv_at hl 0 rfl) ?_
    refine lv_iload_n hx hb dX9_matches_23 rfl (lv_at hl 1 rfl) ?_
    refine lv_aload_n hx hb dX9_matches_24 rfl (lv_at hl 0 rfl) ?_
    refine M_g0_0 hx hb hA hown aF_RX9_7 hK hP dX9_matches_25 ?_
    refine lv_iload_n hx hb dX9_matches_28 rfl (lv_at hl 2 rfl) ?_
    refine lv_iconst (v := 1) hx hb dX9_matches_29 (by decide) ?_
    refine lv_iadd hx hb dX9_matches_30 ?_
    obtain ⟨i5, h⟩ := oin_e h
    refine M_ld1 hx hb hK hP i5 dX9_matches_31 ?_
    obtain ⟨r6, h7, h⟩ := obd_e h
    refine k_X9_printOf S aM_RX9_124 ⟨Nat.le_of_ble_eq_true rfl, Nat.le_of_ble_eq_true rfl⟩ ⟨Nat.zero_le _, Nat.zero_le _⟩ hP hK hDT h7 hl.1 (Nat.le_of_ble_eq_true rfl) dX9_matches_32 ?_
    refine lv_icmp_ne (tgt := 42) hx hb dX9_matches_35 (by decide) (fun hc => ?_) (fun hc => ?_)
    · replace h := oi_f hc h
      refine lv_iconst (v := 0) hx hb dX9_matches_42 (by decide) ?_
      obtain rfl := os1 h
      exact W.zret (v := 0) (ty := .boolean) hx hb hr rfl (fun t ht hW => ⟨_, rfl, ⟨rfl, (Or.inl rfl)⟩, ht⟩) (fun q hq => absurd hq List.not_mem_nil) dX9_matches_43
    · replace h := oi_t hc h
      refine lv_iconst (v := 1) hx hb dX9_matches_38 (by decide) ?_
      refine lv_goto (tgt := 43) hx hb dX9_matches_39 (by decide) ?_
      obtain rfl := os1 h
      exact W.zret (v := 1) (ty := .boolean) hx hb hr rfl (fun t ht hW => ⟨_, rfl, ⟨rfl, (Or.inr rfl)⟩, ht⟩) (fun q hq => absurd hq List.not_mem_nil) dX9_matches_43
theorem k_X9_matches {p : Program} {l : Launch} {e : Env} {R : Room} {s : State} {m : MethodId} {args : Array Value} {below : List Frame} {meth : Method} {c : Code} {H : Heap} {locs : List Loc} {cells slots : Nat} {Q : State → Prop} {cc : ByteArray} {pc nL idx : Nat} {ls : Array Slot} {rest : List Value} {own : String} {D : va_G} {cI : ClassId} {a : Nat → Nat} {φ : M2} {p1 : Int32} {p2 : Int32} {hv : Int64} {r0 : Int32} (S : CallFix p m c cc nL s args AW own) (h1 : Cond.methodLink own idx yX9_matches ∈ AW) (hR : 3 + 1 ≤ R.frames ∧ 8 + (3 + 11) + 66 ≤ R.locals) (hc : cells ≤ R.cells ∧ slots ≤ R.slots) (hP : va_P D vwCl (mbW cI a φ hv) H) (hK : va_K D vwCl [(cI, .int)] s) (hDT : ∀ (φ2 : M2) (hv2 : Int64), va_D (fun _ => True) (mbW cI a φ2 hv2)) (hF : G_X9_matches φ p1 p2 = some r0) (hsz : ls.size = nL) (hW : (rest.map fun v => v.category).sum ≤ 8) (hdg : decode cc pc = .ok (.invokevirtual idx, 3)) (kk : (r0 = 0 ∨ r0 = 1) → W p l e R s m args below meth c H locs cells slots Q (F0 m (pc + 3) ls (.int r0 :: rest))) : W p l e R s m args below meth c H locs cells slots Q (F0 m pc ls (.int p2 :: .int p1 :: .ref (a 0) :: rest)) :=
  fm_runV (n := 2) (C := RX9) (As := [.int p1, .int p2]) S (c_X9_matches l D cI a φ p1 p2 hv r0 hF) (M_pre (q0 := 0) (ci := 7) hK hP (hDT _ _) rfl rfl) h1 aI_X9_matches aV_X9_matches aN_RX9 aC_X9_matches rfl rfl (by decide +kernel) rfl hR hc hsz hW hdg (fun r hr => by obtain ⟨rfl, hz⟩ := hr; exact kk hz)
set_option maxHeartbeats 4000000 in
set_option maxRecDepth 100000 in
theorem c_X9_placeOf (l : Launch) (D : va_G) (cI : ClassId) (a : Nat → Nat) (N : Nat) (φ : M2) (p1 : Int32) (hv : Int64) (r0 : Int32) (hF : G_X9_placeOf N φ p1 = some r0) : Met l yX9_placeOf (wsA yX9_placeOf cX9_placeOf 8 (some .int)) { frames := 4, cells := 0, slots := 0, locals := 88 } (va_Pc [.ref (a 0), .int p1] (mbP D cI a φ hv)) (vp_Si (fun r => r = r0)) 0 0 (fun _ => False) := by
  refine Met.ofW (cc := cX9_placeOf) (maxL := 8) (ret := (some .int)) (by decide) rfl ?_
  intro p e s m args below meth c s₁ B hml hpre
  obtain ⟨rfl, hP, hK, hD0⟩ := hpre
  have hx := B.exec
  have hb := B.bytes
  have hr := B.returns
  have hA : ∀ w ∈ AW, w.before _ s = true := fun w h => atoms_spec (ws := wsA yX9_placeOf cX9_placeOf 8 (some .int)) B.pre w (List.mem_cons_of_mem _ h)
  have hown : s.vm.findClass RX9 = some m.cls := findClass_of_methodNamed B.named
  have hlocks := B.notSynchronized
  have hDT := M_dT hD0
  have S : CallFix p m c cX9_placeOf 8 s ([.ref (a 0), .int p1] : List Value).toArray AW RX9 := ⟨hx, hb, hml, hown, hA⟩
  have hl := lv_entry ([.ref (a 0), .int p1]) (n := 8) (Nat.le_of_ble_eq_true rfl)
  rw [lg_entry_eq]
  generalize (lg_sl ([.ref (a 0), .int p1]) ++ List.replicate (8 - (lg_sl ([.ref (a 0), .int p1])).length) Slot.unset).toArray = ls at hl ⊢
  have hl : lv_has ls 8 [(0, .ref (a 0)), (1, .int p1)] := hl
  have hL36 : ∀ (k : Nat) (v1 : Int32) (v4 : Int32) (v5 : Int32) (v2 : Int32) (v3 : Int32) (v6 : Int32) (ls : Array Slot) (o2 : Int32) (o3 : Int32), L_X9_placeOf_36 N φ v1 v4 v5 k v2 v3 v6 = some (o2, o3) → lv_has ls 8 [(0, .ref (a 0)), (1, .int v1), (2, .int v2), (3, .int v3), (4, .int v4), (5, .int v5), (6, .int v6)] → (∀ (ls1 : Array Slot), lv_has ls1 8 [(0, .ref (a 0)), (1, .int v1), (2, .int o2), (3, .int o3), (4, .int v4)] → W p l e (headSpec (wsA yX9_placeOf cX9_placeOf 8 (some .int)) { frames := 4, cells := 0, slots := 0, locals := 88 }).room s m ([.ref (a 0), .int p1] : List Value).toArray below meth c s.heap [] 0 0 (MQ below (vp_Si (fun r => r = r0)) ([.ref (a 0), .int p1] : List Value).toArray s 0 0 (fun _ => False)) (F0 m 128 ls1 [])) → W p l e (headSpec (wsA yX9_placeOf cX9_placeOf 8 (some .int)) { frames := 4, cells := 0, slots := 0, locals := 88 }).room s m ([.ref (a 0), .int p1] : List Value).toArray below meth c s.heap [] 0 0 (MQ below (vp_Si (fun r => r = r0)) ([.ref (a 0), .int p1] : List Value).toArray s 0 0 (fun _ => False)) (F0 m 36 ls []) := by
    intro k
    induction k with
    | zero =>
      intro v1 v4 v5 v2 v3 v6 ls o2 o3 h hl kk
      exact no_s h
    | succ k ih =>
      intro v1 v4 v5 v2 v3 v6 ls o2 o3 h hl kk
      replace h : B_X9_placeOf_36 N φ v1 v4 v5 (L_X9_placeOf_36 N φ v1 v4 v5 k) v2 v3 v6 = some (o2, o3) := h
      unfold B_X9_placeOf_36 at h
      refine lv_iload hx hb dX9_placeOf_36 (lv_at hl 6 rfl) ?_
      refine lv_aload_n hx hb dX9_placeOf_38 rfl (lv_at hl 0 rfl) ?_
      refine M_g0_0 hx hb hA hown aF_RX9_7 hK hP dX9_placeOf_39 ?_
      refine lv_iconst (v := 1) hx hb dX9_placeOf_42 (by decide) ?_
      obtain ⟨i3, h⟩ := oin_e h
      refine M_ld1 hx hb hK hP i3 dX9_placeOf_43 ?_
      refine lv_icmp_ge (tgt := 128) hx hb dX9_placeOf_44 (by decide) (fun hc => ?_) (fun hc => ?_)
      · replace h := oi_t hc h
        obtain ⟨rfl, rfl⟩ := os2 h
        exact kk _ (lv_sub hl [0, 1, 2, 3, 4] rfl)
      · replace h := oi_f hc h
        refine lv_iload hx hb dX9_placeOf_47 (lv_at hl 5 rfl) ?_
        refine lv_iload hx hb dX9_placeOf_49 (lv_at hl 6 rfl) ?_
        refine k_X9_at S aM_RX9_117 ⟨Nat.le_of_ble_eq_true rfl, Nat.le_of_ble_eq_true rfl⟩ ⟨Nat.zero_le _, Nat.zero_le _⟩ hl.1 (Nat.le_of_ble_eq_true rfl) dX9_placeOf_51 (fun r4 er4 => ?_)
        replace h := olet_s er4 h
        refine lv_istore (lv' := [(7, .int r4), (0, .ref (a 0)), (1, .int v1), (2, .int v2), (3, .int v3), (4, .int v4), (5, .int v5), (6, .int v6)]) hx hb dX9_placeOf_54 hl (by decide) rfl (fun ls hl => ?_)
        refine lv_aload_n hx hb dX9_placeOf_56 rfl (lv_at hl 1 rfl) ?_
        refine lv_iload hx hb dX9_placeOf_57 (lv_at hl 6 rfl) ?_
        refine lv_iload hx hb dX9_placeOf_59 (lv_at hl 7 rfl) ?_
        obtain ⟨r5, h6, h⟩ := obd_e h
        refine k_X9_isEmpty S aM_RX9_120 ⟨Nat.le_of_ble_eq_true rfl, Nat.le_of_ble_eq_true rfl⟩ ⟨Nat.zero_le _, Nat.zero_le _⟩ hP hK hDT h6 hl.1 (Nat.le_of_ble_eq_true rfl) dX9_placeOf_61 (fun br5 => ?_)
        refine lv_if_ne (tgt := 122) hx hb dX9_placeOf_64 (by decide) (fun hc => ?_) (fun hc => ?_)
        · replace h := oi_f hc h
          refine lv_iinc (v := v6 + 1) (lv' := [(6, .int (v6 + 1)), (7, .int r4), (0, .ref (a 0)), (1, .int v1), (2, .int v2), (3, .int v3), (4, .int v4), (5, .int v5)]) hx hb dX9_placeOf_122 hl (k := 7) rfl (fm_inc _ _ _ (by decide)) (by decide) rfl (fun ls hl => ?_)
          refine lv_goto (tgt := 36) hx hb dX9_placeOf_125 (by decide) ?_
          exact ih _ _ _ _ _ _ _ _ _ h (lv_sub hl [2, 3, 4, 5, 6, 7, 0] rfl) kk
        · replace h := oi_t hc h
          refine lv_aload_n hx hb dX9_placeOf_67 rfl (lv_at hl 1 rfl) ?_
          refine M_g0_0 hx hb hA hown aF_RX9_7 hK hP dX9_placeOf_68 ?_
          refine lv_iload hx hb dX9_placeOf_71 (lv_at hl 0 rfl) ?_
          refine lv_iconst (v := 3) hx hb dX9_placeOf_73 (by decide) ?_
          refine lv_iadd hx hb dX9_placeOf_74 ?_
          obtain ⟨i7, h⟩ := oin_e h
          refine M_ld1 hx hb hK hP i7 dX9_placeOf_75 ?_
          refine lv_iload hx hb dX9_placeOf_76 (lv_at hl 5 rfl) ?_
          refine lv_icmp_ne (tgt := 122) hx hb dX9_placeOf_78 (by decide) (fun hc => ?_) (fun hc => ?_)
          · replace h := oi_f hc h
            refine lv_iinc (v := v6 + 1) (lv' := [(6, .int (v6 + 1)), (7, .int r4), (0, .ref (a 0)), (1, .int v1), (2, .int v2), (3, .int v3), (4, .int v4), (5, .int v5)]) hx hb dX9_placeOf_122 hl (k := 7) rfl (fm_inc _ _ _ (by decide)) (by decide) rfl (fun ls hl => ?_)
            refine lv_goto (tgt := 36) hx hb dX9_placeOf_125 (by decide) ?_
            exact ih _ _ _ _ _ _ _ _ _ h (lv_sub hl [2, 3, 4, 5, 6, 7, 0] rfl) kk
          · replace h := oi_t hc h
            refine lv_aload_n hx hb dX9_placeOf_81 rfl (lv_at hl 1 rfl) ?_
            refine lv_iload_n hx hb dX9_placeOf_82 rfl (lv_at hl 2 rfl) ?_
            refine lv_iload hx hb dX9_placeOf_83 (lv_at hl 0 rfl) ?_
            obtain ⟨r8, h9, h⟩ := obd_e h
            refine k_X9_matches S aM_RX9_130 ⟨Nat.le_of_ble_eq_true rfl, Nat.le_of_ble_eq_true rfl⟩ ⟨Nat.zero_le _, Nat.zero_le _⟩ hP hK hDT h9 hl.1 (Nat.le_of_ble_eq_true rfl) dX9_placeOf_85 (fun br8 => ?_)
            refine lv_if_eq (tgt := 122) hx hb dX9_placeOf_88 (by decide) (fun hc => ?_) (fun hc => ?_)
            · replace h := oi_t hc h
              refine lv_iinc (v := v6 + 1) (lv' := [(6, .int (v6 + 1)), (7, .int r4), (0, .ref (a 0)), (1, .int v1), (2, .int v2), (3, .int v3), (4, .int v4), (5, .int v5)]) hx hb dX9_placeOf_122 hl (k := 7) rfl (fm_inc _ _ _ (by decide)) (by decide) rfl (fun ls hl => ?_)
              refine lv_goto (tgt := 36) hx hb dX9_placeOf_125 (by decide) ?_
              exact ih _ _ _ _ _ _ _ _ _ h (lv_sub hl [2, 3, 4, 5, 6, 7, 0] rfl) kk
            · replace h := oi_f hc h
              refine lv_aload_n hx hb dX9_placeOf_91 rfl (lv_at hl 1 rfl) ?_
              refine M_g0_0 hx hb hA hown aF_RX9_7 hK hP dX9_placeOf_92 ?_
              refine lv_iload hx hb dX9_placeOf_95 (lv_at hl 0 rfl) ?_
              refine lv_iconst (v := 1) hx hb dX9_placeOf_97 (by decide) ?_
              refine lv_iadd hx hb dX9_placeOf_98 ?_
              obtain ⟨i10, h⟩ := oin_e h
              refine M_ld1 hx hb hK hP i10 dX9_placeOf_99 ?_
              refine lv_iload_n hx hb dX9_placeOf_100 rfl (lv_at hl 4 rfl) ?_
              refine lv_icmp_le (tgt := 122) hx hb dX9_placeOf_101 (by decide) (fun hc => ?_) (fun hc => ?_)
              · replace h := oi_t hc h
                refine lv_iinc (v := v6 + 1) (lv' := [(6, .int (v6 + 1)), (7, .int r4), (0, .ref (a 0)), (1, .int v1), (2, .int v2), (3, .int v3), (4, .int v4), (5, .int v5)]) hx hb dX9_placeOf_122 hl (k := 7) rfl (fm_inc _ _ _ (by decide)) (by decide) rfl (fun ls hl => ?_)
                refine lv_goto (tgt := 36) hx hb dX9_placeOf_125 (by decide) ?_
                exact ih _ _ _ _ _ _ _ _ _ h (lv_sub hl [2, 3, 4, 5, 6, 7, 0] rfl) kk
              · replace h := oi_f hc h
                refine lv_iconst (v := 4) hx hb dX9_placeOf_104 (by decide) ?_
                refine lv_iload hx hb dX9_placeOf_105 (lv_at hl 6 rfl) ?_
                refine lv_imul hx hb dX9_placeOf_107 ?_
                refine lv_iload hx hb dX9_placeOf_108 (lv_at hl 7 rfl) ?_
                refine lv_iadd hx hb dX9_placeOf_110 ?_
                refine lv_topi (fun x11 ex11 => ?_)
                replace h := olet_s ex11 h
                refine lv_istore_n (lv' := [(2, .int x11), (7, .int r4), (0, .ref (a 0)), (1, .int v1), (3, .int v3), (4, .int v4), (5, .int v5), (6, .int v6)]) hx hb dX9_placeOf_111 rfl hl (by decide) rfl (fun ls hl => ?_)
                refine lv_aload_n hx hb dX9_placeOf_112 rfl (lv_at hl 2 rfl) ?_
                refine M_g0_0 hx hb hA hown aF_RX9_7 hK hP dX9_placeOf_113 ?_
                refine lv_iload hx hb dX9_placeOf_116 (lv_at hl 1 rfl) ?_
                refine lv_iconst (v := 1) hx hb dX9_placeOf_118 (by decide) ?_
                refine lv_iadd hx hb dX9_placeOf_119 ?_
                obtain ⟨i12, h⟩ := oin_e h
                refine M_ld1 hx hb hK hP i12 dX9_placeOf_120 ?_
                refine lv_topi (fun x13 ex13 => ?_)
                replace h := olet_s ex13 h
                refine lv_istore_n (lv' := [(3, .int x13), (2, .int x11), (7, .int r4), (0, .ref (a 0)), (1, .int v1), (4, .int v4), (5, .int v5), (6, .int v6)]) hx hb dX9_placeOf_121 rfl hl (by decide) rfl (fun ls hl => ?_)
                refine lv_iinc (v := v6 + 1) (lv' := [(6, .int (v6 + 1)), (3, .int x13), (2, .int x11), (7, .int r4), (0, .ref (a 0)), (1, .int v1), (4, .int v4), (5, .int v5)]) hx hb dX9_placeOf_122 hl (k := 7) rfl (fm_inc _ _ _ (by decide)) (by decide) rfl (fun ls hl => ?_)
                refine lv_goto (tgt := 36) hx hb dX9_placeOf_125 (by decide) ?_
                exact ih _ _ _ _ _ _ _ _ _ h (lv_sub hl [4, 5, 2, 1, 6, 7, 0] rfl) kk
  have hL7 : ∀ (k : Nat) (v1 : Int32) (v2 : Int32) (v3 : Int32) (v4 : Int32) (ls : Array Slot) (o2 : Int32) (o3 : Int32), L_X9_placeOf_7 N φ v1 k v2 v3 v4 = some (o2, o3) → lv_has ls 8 [(0, .ref (a 0)), (1, .int v1), (2, .int v2), (3, .int v3), (4, .int v4)] → (∀ (ls1 : Array Slot), lv_has ls1 8 [(0, .ref (a 0)), (1, .int v1), (2, .int o2), (3, .int o3)] → W p l e (headSpec (wsA yX9_placeOf cX9_placeOf 8 (some .int)) { frames := 4, cells := 0, slots := 0, locals := 88 }).room s m ([.ref (a 0), .int p1] : List Value).toArray below meth c s.heap [] 0 0 (MQ below (vp_Si (fun r => r = r0)) ([.ref (a 0), .int p1] : List Value).toArray s 0 0 (fun _ => False)) (F0 m 134 ls1 [])) → W p l e (headSpec (wsA yX9_placeOf cX9_placeOf 8 (some .int)) { frames := 4, cells := 0, slots := 0, locals := 88 }).room s m ([.ref (a 0), .int p1] : List Value).toArray below meth c s.heap [] 0 0 (MQ below (vp_Si (fun r => r = r0)) ([.ref (a 0), .int p1] : List Value).toArray s 0 0 (fun _ => False)) (F0 m 7 ls []) := by
    intro k
    induction k with
    | zero =>
      intro v1 v2 v3 v4 ls o2 o3 h hl kk
      exact no_s h
    | succ k ih =>
      intro v1 v2 v3 v4 ls o2 o3 h hl kk
      replace h : B_X9_placeOf_7 N φ v1 (L_X9_placeOf_7 N φ v1 k) v2 v3 v4 = some (o2, o3) := h
      unfold B_X9_placeOf_7 at h
      refine lv_iload hx hb dX9_placeOf_7 (lv_at hl 4 rfl) ?_
      refine lv_iconst (v := 2) hx hb dX9_placeOf_9 (by decide) ?_
      refine lv_icmp_ge (tgt := 134) hx hb dX9_placeOf_10 (by decide) (fun hc => ?_) (fun hc => ?_)
      · replace h := oi_t hc h
        obtain ⟨rfl, rfl⟩ := os2 h
        exact kk _ (lv_sub hl [0, 1, 2, 3] rfl)
      · replace h := oi_f hc h
        refine lv_iload hx hb dX9_placeOf_13 (lv_at hl 4 rfl) ?_
        refine lv_if_ne (tgt := 26) hx hb dX9_placeOf_15 (by decide) (fun hc => ?_) (fun hc => ?_)
        · replace h := oi_f hc h
          refine lv_aload_n hx hb dX9_placeOf_26 rfl (lv_at hl 0 rfl) ?_
          refine lv_iload_n hx hb dX9_placeOf_27 rfl (lv_at hl 1 rfl) ?_
          obtain ⟨r1, h2, h⟩ := obd_e h
          refine k_X9_otherOf S aM_RX9_127 ⟨Nat.le_of_ble_eq_true rfl, Nat.le_of_ble_eq_true rfl⟩ ⟨Nat.zero_le _, Nat.zero_le _⟩ hP hK hDT h2 hl.1 (Nat.le_of_ble_eq_true rfl) dX9_placeOf_28 ?_
          refine lv_istore (lv' := [(5, .int r1), (0, .ref (a 0)), (1, .int v1), (2, .int v2), (3, .int v3), (4, .int v4)]) hx hb dX9_placeOf_31 hl (by decide) rfl (fun ls hl => ?_)
          refine lv_iconst (v := 0) hx hb dX9_placeOf_33 (by decide) ?_
          refine lv_istore (lv' := [(6, .int 0), (5, .int r1), (0, .ref (a 0)), (1, .int v1), (2, .int v2), (3, .int v3), (4, .int v4)]) hx hb dX9_placeOf_34 hl (by decide) rfl (fun ls hl => ?_)
          obtain ⟨y14, y15, h16, h⟩ := obd2_e h
          refine hL36 N _ _ _ _ _ _ _ _ _ h16 (lv_sub hl [2, 3, 4, 5, 6, 1, 0] rfl) (fun ls hl => ?_)
          refine lv_iinc (v := v4 + 1) (lv' := [(4, .int (v4 + 1)), (0, .ref (a 0)), (1, .int v1), (2, .int y14), (3, .int y15)]) hx hb dX9_placeOf_128 hl (k := 4) rfl (fm_inc _ _ _ (by decide)) (by decide) rfl (fun ls hl => ?_)
          refine lv_goto (tgt := 7) hx hb dX9_placeOf_131 (by decide) ?_
          exact ih _ _ _ _ _ _ _ h (lv_sub hl [1, 2, 3, 4, 0] rfl) kk
        · replace h := oi_t hc h
          refine lv_aload_n hx hb dX9_placeOf_18 rfl (lv_at hl 0 rfl) ?_
          refine lv_iload_n hx hb dX9_placeOf_19 rfl (lv_at hl 1 rfl) ?_
          obtain ⟨r17, h18, h⟩ := obd_e h
          refine k_X9_homeOf S aM_RX9_108 ⟨Nat.le_of_ble_eq_true rfl, Nat.le_of_ble_eq_true rfl⟩ ⟨Nat.zero_le _, Nat.zero_le _⟩ hP hK hDT h18 hl.1 (Nat.le_of_ble_eq_true rfl) dX9_placeOf_20 ?_
          refine lv_goto (tgt := 31) hx hb dX9_placeOf_23 (by decide) ?_
          refine lv_istore (lv' := [(5, .int r17), (0, .ref (a 0)), (1, .int v1), (2, .int v2), (3, .int v3), (4, .int v4)]) hx hb dX9_placeOf_31 hl (by decide) rfl (fun ls hl => ?_)
          refine lv_iconst (v := 0) hx hb dX9_placeOf_33 (by decide) ?_
          refine lv_istore (lv' := [(6, .int 0), (5, .int r17), (0, .ref (a 0)), (1, .int v1), (2, .int v2), (3, .int v3), (4, .int v4)]) hx hb dX9_placeOf_34 hl (by decide) rfl (fun ls hl => ?_)
          obtain ⟨y19, y20, h21, h⟩ := obd2_e h
          refine hL36 N _ _ _ _ _ _ _ _ _ h21 (lv_sub hl [2, 3, 4, 5, 6, 1, 0] rfl) (fun ls hl => ?_)
          refine lv_iinc (v := v4 + 1) (lv' := [(4, .int (v4 + 1)), (0, .ref (a 0)), (1, .int v1), (2, .int y19), (3, .int y20)]) hx hb dX9_placeOf_128 hl (k := 4) rfl (fm_inc _ _ _ (by decide)) (by decide) rfl (fun ls hl => ?_)
          refine lv_goto (tgt := 7) hx hb dX9_placeOf_131 (by decide) ?_
          exact ih _ _ _ _ _ _ _ h (lv_sub hl [1, 2, 3, 4, 0] rfl) kk
  have hL137 : ∀ (k : Nat) (v1 : Int32) (v2 : Int32) (v3 : Int32) (v4 : Int32) (ls : Array Slot) (o2 : Int32), L_X9_placeOf_137 N φ v1 k v2 v3 v4 = some o2 → lv_has ls 8 [(0, .ref (a 0)), (1, .int v1), (2, .int v2), (3, .int v3), (4, .int v4)] → (∀ (ls1 : Array Slot), lv_has ls1 8 [(2, .int o2)] → W p l e (headSpec (wsA yX9_placeOf cX9_placeOf 8 (some .int)) { frames := 4, cells := 0, slots := 0, locals := 88 }).room s m ([.ref (a 0), .int p1] : List Value).toArray below meth c s.heap [] 0 0 (MQ below (vp_Si (fun r => r = r0)) ([.ref (a 0), .int p1] : List Value).toArray s 0 0 (fun _ => False)) (F0 m 220 ls1 [])) → W p l e (headSpec (wsA yX9_placeOf cX9_placeOf 8 (some .int)) { frames := 4, cells := 0, slots := 0, locals := 88 }).room s m ([.ref (a 0), .int p1] : List Value).toArray below meth c s.heap [] 0 0 (MQ below (vp_Si (fun r => r = r0)) ([.ref (a 0), .int p1] : List Value).toArray s 0 0 (fun _ => False)) (F0 m 137 ls []) := by
    intro k
    induction k with
    | zero =>
      intro v1 v2 v3 v4 ls o2 h hl kk
      exact no_s h
    | succ k ih =>
      intro v1 v2 v3 v4 ls o2 h hl kk
      replace h : B_X9_placeOf_137 N φ v1 (L_X9_placeOf_137 N φ v1 k) v2 v3 v4 = some o2 := h
      unfold B_X9_placeOf_137 at h
      refine lv_iload hx hb dX9_placeOf_137 (lv_at hl 4 rfl) ?_
      refine lv_aload_n hx hb dX9_placeOf_139 rfl (lv_at hl 0 rfl) ?_
      refine M_g0_0 hx hb hA hown aF_RX9_7 hK hP dX9_placeOf_140 ?_
      refine lv_iconst (v := 5) hx hb dX9_placeOf_143 (by decide) ?_
      obtain ⟨i25, h⟩ := oin_e h
      refine M_ld1 hx hb hK hP i25 dX9_placeOf_144 ?_
      refine lv_icmp_ge (tgt := 220) hx hb dX9_placeOf_145 (by decide) (fun hc => ?_) (fun hc => ?_)
      · replace h := oi_t hc h
        obtain rfl := os1 h
        exact kk _ (lv_sub hl [2] rfl)
      · replace h := oi_f hc h
        refine lv_bipush (v := 6) hx hb dX9_placeOf_148 (by decide) ?_
        refine lv_iconst (v := 4) hx hb dX9_placeOf_150 (by decide) ?_
        refine lv_iload hx hb dX9_placeOf_151 (lv_at hl 4 rfl) ?_
        refine lv_imul hx hb dX9_placeOf_153 ?_
        refine lv_iadd hx hb dX9_placeOf_154 ?_
        refine lv_topi (fun x26 ex26 => ?_)
        replace h := olet_s ex26 h
        refine lv_istore (lv' := [(5, .int x26), (0, .ref (a 0)), (1, .int v1), (2, .int v2), (3, .int v3), (4, .int v4)]) hx hb dX9_placeOf_155 hl (by decide) rfl (fun ls hl => ?_)
        refine lv_aload_n hx hb dX9_placeOf_157 rfl (lv_at hl 1 rfl) ?_
        refine M_g0_0 hx hb hA hown aF_RX9_7 hK hP dX9_placeOf_158 ?_
        refine lv_iload hx hb dX9_placeOf_161 (lv_at hl 0 rfl) ?_
        refine lv_iconst (v := 3) hx hb dX9_placeOf_163 (by decide) ?_
        refine lv_iadd hx hb dX9_placeOf_164 ?_
        obtain ⟨i27, h⟩ := oin_e h
        refine M_ld1 hx hb hK hP i27 dX9_placeOf_165 ?_
        refine lv_aload_n hx hb dX9_placeOf_166 rfl (lv_at hl 1 rfl) ?_
        refine lv_iload_n hx hb dX9_placeOf_167 rfl (lv_at hl 2 rfl) ?_
        obtain ⟨r28, h29, h⟩ := obd_e h
        refine k_X9_homeOf S aM_RX9_108 ⟨Nat.le_of_ble_eq_true rfl, Nat.le_of_ble_eq_true rfl⟩ ⟨Nat.zero_le _, Nat.zero_le _⟩ hP hK hDT h29 hl.1 (Nat.le_of_ble_eq_true rfl) dX9_placeOf_168 ?_
        refine lv_icmp_ne (tgt := 214) hx hb dX9_placeOf_171 (by decide) (fun hc => ?_) (fun hc => ?_)
        · replace h := oi_f hc h
          refine lv_iinc (v := v4 + 1) (lv' := [(4, .int (v4 + 1)), (5, .int x26), (0, .ref (a 0)), (1, .int v1), (2, .int v2), (3, .int v3)]) hx hb dX9_placeOf_214 hl (k := 5) rfl (fm_inc _ _ _ (by decide)) (by decide) rfl (fun ls hl => ?_)
          refine lv_goto (tgt := 137) hx hb dX9_placeOf_217 (by decide) ?_
          exact ih _ _ _ _ _ _ h (lv_sub hl [2, 3, 4, 5, 0] rfl) kk
        · replace h := oi_t hc h
          refine lv_aload_n hx hb dX9_placeOf_174 rfl (lv_at hl 1 rfl) ?_
          refine lv_iload_n hx hb dX9_placeOf_175 rfl (lv_at hl 2 rfl) ?_
          refine lv_iload hx hb dX9_placeOf_176 (lv_at hl 0 rfl) ?_
          obtain ⟨r30, h31, h⟩ := obd_e h
          refine k_X9_matches S aM_RX9_130 ⟨Nat.le_of_ble_eq_true rfl, Nat.le_of_ble_eq_true rfl⟩ ⟨Nat.zero_le _, Nat.zero_le _⟩ hP hK hDT h31 hl.1 (Nat.le_of_ble_eq_true rfl) dX9_placeOf_178 (fun br30 => ?_)
          refine lv_if_eq (tgt := 214) hx hb dX9_placeOf_181 (by decide) (fun hc => ?_) (fun hc => ?_)
          · replace h := oi_t hc h
            refine lv_iinc (v := v4 + 1) (lv' := [(4, .int (v4 + 1)), (5, .int x26), (0, .ref (a 0)), (1, .int v1), (2, .int v2), (3, .int v3)]) hx hb dX9_placeOf_214 hl (k := 5) rfl (fm_inc _ _ _ (by decide)) (by decide) rfl (fun ls hl => ?_)
            refine lv_goto (tgt := 137) hx hb dX9_placeOf_217 (by decide) ?_
            exact ih _ _ _ _ _ _ h (lv_sub hl [2, 3, 4, 5, 0] rfl) kk
          · replace h := oi_f hc h
            refine lv_aload_n hx hb dX9_placeOf_184 rfl (lv_at hl 1 rfl) ?_
            refine M_g0_0 hx hb hA hown aF_RX9_7 hK hP dX9_placeOf_185 ?_
            refine lv_iload hx hb dX9_placeOf_188 (lv_at hl 0 rfl) ?_
            refine lv_iconst (v := 1) hx hb dX9_placeOf_190 (by decide) ?_
            refine lv_iadd hx hb dX9_placeOf_191 ?_
            obtain ⟨i32, h⟩ := oin_e h
            refine M_ld1 hx hb hK hP i32 dX9_placeOf_192 ?_
            refine lv_iload_n hx hb dX9_placeOf_193 rfl (lv_at hl 4 rfl) ?_
            refine lv_icmp_le (tgt := 214) hx hb dX9_placeOf_194 (by decide) (fun hc => ?_) (fun hc => ?_)
            · replace h := oi_t hc h
              refine lv_iinc (v := v4 + 1) (lv' := [(4, .int (v4 + 1)), (5, .int x26), (0, .ref (a 0)), (1, .int v1), (2, .int v2), (3, .int v3)]) hx hb dX9_placeOf_214 hl (k := 5) rfl (fm_inc _ _ _ (by decide)) (by decide) rfl (fun ls hl => ?_)
              refine lv_goto (tgt := 137) hx hb dX9_placeOf_217 (by decide) ?_
              exact ih _ _ _ _ _ _ h (lv_sub hl [2, 3, 4, 5, 0] rfl) kk
            · replace h := oi_f hc h
              refine lv_sipush (v := 1000) hx hb dX9_placeOf_197 (by decide) ?_
              refine lv_iload hx hb dX9_placeOf_200 (lv_at hl 5 rfl) ?_
              refine lv_iadd hx hb dX9_placeOf_202 ?_
              refine lv_topi (fun x33 ex33 => ?_)
              replace h := olet_s ex33 h
              refine lv_istore_n (lv' := [(2, .int x33), (5, .int x26), (0, .ref (a 0)), (1, .int v1), (3, .int v3), (4, .int v4)]) hx hb dX9_placeOf_203 rfl hl (by decide) rfl (fun ls hl => ?_)
              refine lv_aload_n hx hb dX9_placeOf_204 rfl (lv_at hl 2 rfl) ?_
              refine M_g0_0 hx hb hA hown aF_RX9_7 hK hP dX9_placeOf_205 ?_
              refine lv_iload hx hb dX9_placeOf_208 (lv_at hl 1 rfl) ?_
              refine lv_iconst (v := 1) hx hb dX9_placeOf_210 (by decide) ?_
              refine lv_iadd hx hb dX9_placeOf_211 ?_
              obtain ⟨i34, h⟩ := oin_e h
              refine M_ld1 hx hb hK hP i34 dX9_placeOf_212 ?_
              refine lv_topi (fun x35 ex35 => ?_)
              replace h := olet_s ex35 h
              refine lv_istore_n (lv' := [(3, .int x35), (2, .int x33), (5, .int x26), (0, .ref (a 0)), (1, .int v1), (4, .int v4)]) hx hb dX9_placeOf_213 rfl hl (by decide) rfl (fun ls hl => ?_)
              refine lv_iinc (v := v4 + 1) (lv' := [(4, .int (v4 + 1)), (3, .int x35), (2, .int x33), (5, .int x26), (0, .ref (a 0)), (1, .int v1)]) hx hb dX9_placeOf_214 hl (k := 5) rfl (fm_inc _ _ _ (by decide)) (by decide) rfl (fun ls hl => ?_)
              refine lv_goto (tgt := 137) hx hb dX9_placeOf_217 (by decide) ?_
              exact ih _ _ _ _ _ _ h (lv_sub hl [4, 5, 2, 1, 0] rfl) kk
  have h := hF
  unfold G_X9_placeOf at h
  refine lv_iconst (v := (-1)) hx hb dX9_placeOf_0 (by decide) ?_
  refine lv_istore_n (lv' := [(2, .int ((-1))), (0, .ref (a 0)), (1, .int p1)]) hx hb dX9_placeOf_1 rfl hl (by decide) rfl (fun ls hl => ?_)
  refine lv_iconst (v := (-1)) hx hb dX9_placeOf_2 (by decide) ?_
  refine lv_istore_n (lv' := [(3, .int ((-1))), (2, .int ((-1))), (0, .ref (a 0)), (1, .int p1)]) hx hb dX9_placeOf_3 rfl hl (by decide) rfl (fun ls hl => ?_)
  refine lv_iconst (v := 0) hx hb dX9_placeOf_4 (by decide) ?_
  refine lv_istore (lv' := [(4, .int 0), (3, .int ((-1))), (2, .int ((-1))), (0, .ref (a 0)), (1, .int p1)]) hx hb dX9_placeOf_5 hl (by decide) rfl (fun ls hl => ?_)
  obtain ⟨y22, y23, h24, h⟩ := obd2_e h
  refine hL7 N _ _ _ _ _ _ _ h24 (lv_sub hl [3, 4, 2, 1, 0] rfl) (fun ls hl => ?_)
  refine lv_iconst (v := 0) hx hb dX9_placeOf_134 (by decide) ?_
  refine lv_istore (lv' := [(4, .int 0), (0, .ref (a 0)), (1, .int p1), (2, .int y22), (3, .int y23)]) hx hb dX9_placeOf_135 hl (by decide) rfl (fun ls hl => ?_)
  obtain ⟨y36, h37, h⟩ := obd_e h
  refine hL137 N _ _ _ _ _ _ h37 (lv_sub hl [1, 2, 3, 4, 0] rfl) (fun ls hl => ?_)
  refine lv_iload_n hx hb dX9_placeOf_220 rfl (lv_at hl 0 rfl) ?_
  obtain rfl := os1 h
  exact W.iret (v := y36) hx hb hr (fun t ht hW => ⟨_, rfl, rfl, ht⟩) (fun q hq => absurd hq List.not_mem_nil) dX9_placeOf_221
theorem k_X9_placeOf {p : Program} {l : Launch} {e : Env} {R : Room} {s : State} {m : MethodId} {args : Array Value} {below : List Frame} {meth : Method} {c : Code} {H : Heap} {locs : List Loc} {cells slots : Nat} {Q : State → Prop} {cc : ByteArray} {pc nL idx : Nat} {ls : Array Slot} {rest : List Value} {own : String} {D : va_G} {cI : ClassId} {a : Nat → Nat} {N : Nat} {φ : M2} {p1 : Int32} {hv : Int64} {r0 : Int32} (S : CallFix p m c cc nL s args AW own) (h1 : Cond.methodLink own idx yX9_placeOf ∈ AW) (hR : 4 + 1 ≤ R.frames ∧ 8 + (8 + 11) + 88 ≤ R.locals) (hc : cells ≤ R.cells ∧ slots ≤ R.slots) (hP : va_P D vwCl (mbW cI a φ hv) H) (hK : va_K D vwCl [(cI, .int)] s) (hDT : ∀ (φ2 : M2) (hv2 : Int64), va_D (fun _ => True) (mbW cI a φ2 hv2)) (hF : G_X9_placeOf N φ p1 = some r0) (hsz : ls.size = nL) (hW : (rest.map fun v => v.category).sum ≤ 8) (hdg : decode cc pc = .ok (.invokevirtual idx, 3)) (kk : W p l e R s m args below meth c H locs cells slots Q (F0 m (pc + 3) ls (.int r0 :: rest))) : W p l e R s m args below meth c H locs cells slots Q (F0 m pc ls (.int p1 :: .ref (a 0) :: rest)) :=
  fm_runV (n := 1) (C := RX9) (As := [.int p1]) S (c_X9_placeOf l D cI a N φ p1 hv r0 hF) (M_pre (q0 := 0) (ci := 7) hK hP (hDT _ _) rfl rfl) h1 aI_X9_placeOf aV_X9_placeOf aN_RX9 aC_X9_placeOf rfl rfl (by decide +kernel) rfl hR hc hsz hW hdg (fun r hr => by subst hr; exact kk)
set_option maxHeartbeats 4000000 in
set_option maxRecDepth 100000 in
theorem c_X9_indexOf (l : Launch) (D : va_G) (cI : ClassId) (a : Nat → Nat) (N : Nat) (φ : M2) (p1 : Int32) (hv : Int64) (r0 : Int32) (hF : G_X9_indexOf N φ p1 = some r0) : Met l yX9_indexOf (wsA yX9_indexOf cX9_indexOf 3 (some .int)) { frames := 0, cells := 0, slots := 0, locals := 0 } (va_Pc [.ref (a 0), .int p1] (mbP D cI a φ hv)) (vp_Si (fun r => r = r0)) 0 0 (fun _ => False) := by
  refine Met.ofW (cc := cX9_indexOf) (maxL := 3) (ret := (some .int)) (by decide) rfl ?_
  intro p e s m args below meth c s₁ B hml hpre
  obtain ⟨rfl, hP, hK, hD0⟩ := hpre
  have hx := B.exec
  have hb := B.bytes
  have hr := B.returns
  have hA : ∀ w ∈ AW, w.before _ s = true := fun w h => atoms_spec (ws := wsA yX9_indexOf cX9_indexOf 3 (some .int)) B.pre w (List.mem_cons_of_mem _ h)
  have hown : s.vm.findClass RX9 = some m.cls := findClass_of_methodNamed B.named
  have hlocks := B.notSynchronized
  have hDT := M_dT hD0
  have S : CallFix p m c cX9_indexOf 3 s ([.ref (a 0), .int p1] : List Value).toArray AW RX9 := ⟨hx, hb, hml, hown, hA⟩
  have hl := lv_entry ([.ref (a 0), .int p1]) (n := 3) (Nat.le_of_ble_eq_true rfl)
  rw [lg_entry_eq]
  generalize (lg_sl ([.ref (a 0), .int p1]) ++ List.replicate (3 - (lg_sl ([.ref (a 0), .int p1])).length) Slot.unset).toArray = ls at hl ⊢
  have hl : lv_has ls 3 [(0, .ref (a 0)), (1, .int p1)] := hl
  have hL2 : ∀ (k : Nat) (v1 : Int32) (v2 : Int32) (ls : Array Slot) , L_X9_indexOf_2 N φ v1 k v2 = some r0 → lv_has ls 3 [(0, .ref (a 0)), (1, .int v1), (2, .int v2)] → W p l e (headSpec (wsA yX9_indexOf cX9_indexOf 3 (some .int)) { frames := 0, cells := 0, slots := 0, locals := 0 }).room s m ([.ref (a 0), .int p1] : List Value).toArray below meth c s.heap [] 0 0 (MQ below (vp_Si (fun r => r = r0)) ([.ref (a 0), .int p1] : List Value).toArray s 0 0 (fun _ => False)) (F0 m 2 ls []) := by
    intro k
    induction k with
    | zero =>
      intro v1 v2 ls h hl
      exact no_s h
    | succ k ih =>
      intro v1 v2 ls h hl
      replace h : B_X9_indexOf_2 N φ v1 (L_X9_indexOf_2 N φ v1 k) v2 = some r0 := h
      unfold B_X9_indexOf_2 at h
      refine lv_iload_n hx hb dX9_indexOf_2 rfl (lv_at hl 2 rfl) ?_
      refine lv_aload_n hx hb dX9_indexOf_3 rfl (lv_at hl 0 rfl) ?_
      refine M_g0_0 hx hb hA hown aF_RX9_7 hK hP dX9_indexOf_4 ?_
      refine lv_sipush (v := 1042) hx hb dX9_indexOf_7 (by decide) ?_
      obtain ⟨i1, h⟩ := oin_e h
      refine M_ld1 hx hb hK hP i1 dX9_indexOf_10 ?_
      refine lv_icmp_ge (tgt := 36) hx hb dX9_indexOf_11 (by decide) (fun hc => ?_) (fun hc => ?_)
      · replace h := oi_t hc h
        refine lv_iconst (v := (-1)) hx hb dX9_indexOf_36 (by decide) ?_
        obtain rfl := os1 h
        exact W.iret (v := (-1)) hx hb hr (fun t ht hW => ⟨_, rfl, rfl, ht⟩) (fun q hq => absurd hq List.not_mem_nil) dX9_indexOf_37
      · replace h := oi_f hc h
        refine lv_aload_n hx hb dX9_indexOf_14 rfl (lv_at hl 0 rfl) ?_
        refine M_g0_0 hx hb hA hown aF_RX9_7 hK hP dX9_indexOf_15 ?_
        refine lv_sipush (v := 1043) hx hb dX9_indexOf_18 (by decide) ?_
        refine lv_iload_n hx hb dX9_indexOf_21 rfl (lv_at hl 2 rfl) ?_
        refine lv_iadd hx hb dX9_indexOf_22 ?_
        obtain ⟨i2, h⟩ := oin_e h
        refine M_ld1 hx hb hK hP i2 dX9_indexOf_23 ?_
        refine lv_iload_n hx hb dX9_indexOf_24 rfl (lv_at hl 1 rfl) ?_
        refine lv_icmp_ne (tgt := 30) hx hb dX9_indexOf_25 (by decide) (fun hc => ?_) (fun hc => ?_)
        · replace h := oi_f hc h
          refine lv_iinc (v := v2 + 1) (lv' := [(2, .int (v2 + 1)), (0, .ref (a 0)), (1, .int v1)]) hx hb dX9_indexOf_30 hl (k := 2) rfl (fm_inc _ _ _ (by decide)) (by decide) rfl (fun ls hl => ?_)
          refine lv_goto (tgt := 2) hx hb dX9_indexOf_33 (by decide) ?_
          exact ih _ _ _  h (lv_sub hl [1, 2, 0] rfl)
        · replace h := oi_t hc h
          refine lv_iload_n hx hb dX9_indexOf_28 rfl (lv_at hl 2 rfl) ?_
          obtain rfl := os1 h
          exact W.iret (v := v2) hx hb hr (fun t ht hW => ⟨_, rfl, rfl, ht⟩) (fun q hq => absurd hq List.not_mem_nil) dX9_indexOf_29
  have h := hF
  unfold G_X9_indexOf at h
  refine lv_iconst (v := 0) hx hb dX9_indexOf_0 (by decide) ?_
  refine lv_istore_n (lv' := [(2, .int 0), (0, .ref (a 0)), (1, .int p1)]) hx hb dX9_indexOf_1 rfl hl (by decide) rfl (fun ls hl => ?_)
  exact hL2 N _ _ _ h (lv_sub hl [1, 2, 0] rfl)
theorem k_X9_indexOf {p : Program} {l : Launch} {e : Env} {R : Room} {s : State} {m : MethodId} {args : Array Value} {below : List Frame} {meth : Method} {c : Code} {H : Heap} {locs : List Loc} {cells slots : Nat} {Q : State → Prop} {cc : ByteArray} {pc nL idx : Nat} {ls : Array Slot} {rest : List Value} {own : String} {D : va_G} {cI : ClassId} {a : Nat → Nat} {N : Nat} {φ : M2} {p1 : Int32} {hv : Int64} {r0 : Int32} (S : CallFix p m c cc nL s args AW own) (h1 : Cond.methodLink own idx yX9_indexOf ∈ AW) (hR : 0 + 1 ≤ R.frames ∧ 8 + (3 + 11) + 0 ≤ R.locals) (hc : cells ≤ R.cells ∧ slots ≤ R.slots) (hP : va_P D vwCl (mbW cI a φ hv) H) (hK : va_K D vwCl [(cI, .int)] s) (hDT : ∀ (φ2 : M2) (hv2 : Int64), va_D (fun _ => True) (mbW cI a φ2 hv2)) (hF : G_X9_indexOf N φ p1 = some r0) (hsz : ls.size = nL) (hW : (rest.map fun v => v.category).sum ≤ 8) (hdg : decode cc pc = .ok (.invokevirtual idx, 3)) (kk : W p l e R s m args below meth c H locs cells slots Q (F0 m (pc + 3) ls (.int r0 :: rest))) : W p l e R s m args below meth c H locs cells slots Q (F0 m pc ls (.int p1 :: .ref (a 0) :: rest)) :=
  fm_runV (n := 1) (C := RX9) (As := [.int p1]) S (c_X9_indexOf l D cI a N φ p1 hv r0 hF) (M_pre (q0 := 0) (ci := 7) hK hP (hDT _ _) rfl rfl) h1 aI_X9_indexOf aV_X9_indexOf aN_RX9 aC_X9_indexOf rfl rfl (by decide +kernel) rfl hR hc hsz hW hdg (fun r hr => by subst hr; exact kk)
set_option maxHeartbeats 4000000 in
set_option maxRecDepth 100000 in
theorem c_X9_settles (l : Launch) (D : va_G) (cI : ClassId) (a : Nat → Nat) (N : Nat) (φ : M2) (p1 : Int32) (hv : Int64) (r0 : Int32) (φr : M2) (hF : G_X9_settles N φ p1 = some (r0, φr)) : Met l yX9_settles (wsA yX9_settles cX9_settles 3 (some .boolean)) { frames := 3, cells := 0, slots := 0, locals := 65 } (va_Pc [.ref (a 0), .int p1] (mbP D cI a φ hv)) (va_Qi (fun (r : Int32) (_ : Unit) => r = r0 ∧ (r = 0 ∨ r = 1)) (fun _ t => va_P D vwCl (mbW cI a φr hv) t.heap) (mbA a)) 0 0 (mbA a) := by
  refine Met.ofW (cc := cX9_settles) (maxL := 3) (ret := (some .boolean)) (by decide) rfl ?_
  intro p e s m args below meth c s₁ B hml hpre
  obtain ⟨rfl, hP, hK, hD0⟩ := hpre
  have hx := B.exec
  have hb := B.bytes
  have hr := B.returns
  have hA : ∀ w ∈ AW, w.before _ s = true := fun w h => atoms_spec (ws := wsA yX9_settles cX9_settles 3 (some .boolean)) B.pre w (List.mem_cons_of_mem _ h)
  have hown : s.vm.findClass RX9 = some m.cls := findClass_of_methodNamed B.named
  have hlocks := B.notSynchronized
  have hDT := M_dT hD0
  have hDA := M_dA hD0
  have hS : va_S (mbA a) s.heap s.heap [] := va_S.rf
  have S : CallFix p m c cX9_settles 3 s ([.ref (a 0), .int p1] : List Value).toArray AW RX9 := ⟨hx, hb, hml, hown, hA⟩
  have hl := lv_entry ([.ref (a 0), .int p1]) (n := 3) (Nat.le_of_ble_eq_true rfl)
  rw [lg_entry_eq]
  generalize (lg_sl ([.ref (a 0), .int p1]) ++ List.replicate (3 - (lg_sl ([.ref (a 0), .int p1])).length) Slot.unset).toArray = ls at hl ⊢
  have hl : lv_has ls 3 [(0, .ref (a 0)), (1, .int p1)] := hl
  have h := hF
  unfold G_X9_settles at h
  refine lv_aload_n hx hb dX9_settles_0 rfl (lv_at hl 0 rfl) ?_
  refine lv_iload_n hx hb dX9_settles_1 rfl (lv_at hl 1 rfl) ?_
  obtain ⟨r1, h2, h⟩ := obd_e h
  refine k_X9_room S aM_RX9_133 ⟨Nat.le_of_ble_eq_true rfl, Nat.le_of_ble_eq_true rfl⟩ ⟨Nat.zero_le _, Nat.zero_le _⟩ hP hK hDT h2 hl.1 (Nat.le_of_ble_eq_true rfl) dX9_settles_2 ?_
  refine lv_istore_n (lv' := [(2, .int r1), (0, .ref (a 0)), (1, .int p1)]) hx hb dX9_settles_5 rfl hl (by decide) rfl (fun ls hl => ?_)
  refine lv_iload_n hx hb dX9_settles_6 rfl (lv_at hl 0 rfl) ?_
  refine lv_iconst (v := (-1)) hx hb dX9_settles_7 (by decide) ?_
  refine lv_icmp_eq (tgt := 42) hx hb dX9_settles_8 (by decide) (fun hc => ?_) (fun hc => ?_)
  · replace h := oi_t hc h
    refine lv_iload_n hx hb dX9_settles_42 rfl (lv_at hl 0 rfl) ?_
    refine lv_iconst (v := (-1)) hx hb dX9_settles_43 (by decide) ?_
    refine lv_icmp_eq (tgt := 51) hx hb dX9_settles_44 (by decide) (fun hc => ?_) (fun hc => ?_)
    · replace h := oi_t hc h
      refine lv_iconst (v := 0) hx hb dX9_settles_51 (by decide) ?_
      obtain ⟨rfl, rfl⟩ := os2 h
      exact W.zret (v := 0) (ty := .boolean) hx hb hr rfl (fun t ht hW => ⟨⟨_, (), rfl, ⟨rfl, (Or.inl rfl)⟩, by show va_P _ _ _ t.heap; rw [ht]; exact hP⟩, hS.F ht⟩) hS.2.2 dX9_settles_52
    · replace h := oi_f hc h
      refine lv_iconst (v := 1) hx hb dX9_settles_47 (by decide) ?_
      refine lv_goto (tgt := 52) hx hb dX9_settles_48 (by decide) ?_
      obtain ⟨rfl, rfl⟩ := os2 h
      exact W.zret (v := 1) (ty := .boolean) hx hb hr rfl (fun t ht hW => ⟨⟨_, (), rfl, ⟨rfl, (Or.inr rfl)⟩, by show va_P _ _ _ t.heap; rw [ht]; exact hP⟩, hS.F ht⟩) hS.2.2 dX9_settles_52
  · replace h := oi_f hc h
    refine lv_aload_n hx hb dX9_settles_11 rfl (lv_at hl 1 rfl) ?_
    refine lv_iload_n hx hb dX9_settles_12 rfl (lv_at hl 2 rfl) ?_
    refine lv_iload_n hx hb dX9_settles_13 rfl (lv_at hl 0 rfl) ?_
    refine lv_aload_n hx hb dX9_settles_14 rfl (lv_at hl 1 rfl) ?_
    refine M_g0_6 hx hb hA hown aF_RX9_136 hK hP dX9_settles_15 ?_
    refine lv_aload_n hx hb dX9_settles_18 rfl (lv_at hl 1 rfl) ?_
    refine M_g0_7 hx hb hA hown aF_RX9_139 hK hP dX9_settles_19 ?_
    refine lv_aload_n hx hb dX9_settles_22 rfl (lv_at hl 1 rfl) ?_
    refine M_g0_8 hx hb hA hown aF_RX9_142 hK hP dX9_settles_23 ?_
    refine lv_iload_n hx hb dX9_settles_26 rfl (lv_at hl 2 rfl) ?_
    refine lv_aload_n hx hb dX9_settles_27 rfl (lv_at hl 1 rfl) ?_
    refine M_g0_9 hx hb hA hown aF_RX9_145 hK hP dX9_settles_28 ?_
    refine lv_icmp_ne (tgt := 38) hx hb dX9_settles_31 (by decide) (fun hc => ?_) (fun hc => ?_)
    · replace h := oi_f hc h
      refine lv_iconst (v := 1) hx hb dX9_settles_38 (by decide) ?_
      obtain ⟨w3, h4, h⟩ := obd_e h
      refine k_X9_put S aM_RX9_148 ⟨Nat.le_of_ble_eq_true rfl, Nat.le_of_ble_eq_true rfl⟩ ⟨Nat.zero_le _, Nat.zero_le _⟩ hP hK hDT hS h4 hl.1 (Nat.le_of_ble_eq_true rfl) dX9_settles_39 (fun H locs hP hS => ?_)
      refine lv_iload_n hx hb dX9_settles_42 rfl (lv_at hl 0 rfl) ?_
      refine lv_iconst (v := (-1)) hx hb dX9_settles_43 (by decide) ?_
      refine lv_icmp_eq (tgt := 51) hx hb dX9_settles_44 (by decide) (fun hc => ?_) (fun hc => ?_)
      · replace h := oi_t hc h
        refine lv_iconst (v := 0) hx hb dX9_settles_51 (by decide) ?_
        obtain ⟨rfl, rfl⟩ := os2 h
        exact W.zret (v := 0) (ty := .boolean) hx hb hr rfl (fun t ht hW => ⟨⟨_, (), rfl, ⟨rfl, (Or.inl rfl)⟩, by show va_P _ _ _ t.heap; rw [ht]; exact hP⟩, hS.F ht⟩) hS.2.2 dX9_settles_52
      · replace h := oi_f hc h
        refine lv_iconst (v := 1) hx hb dX9_settles_47 (by decide) ?_
        refine lv_goto (tgt := 52) hx hb dX9_settles_48 (by decide) ?_
        obtain ⟨rfl, rfl⟩ := os2 h
        exact W.zret (v := 1) (ty := .boolean) hx hb hr rfl (fun t ht hW => ⟨⟨_, (), rfl, ⟨rfl, (Or.inr rfl)⟩, by show va_P _ _ _ t.heap; rw [ht]; exact hP⟩, hS.F ht⟩) hS.2.2 dX9_settles_52
    · replace h := oi_t hc h
      refine lv_iconst (v := 0) hx hb dX9_settles_34 (by decide) ?_
      refine lv_goto (tgt := 39) hx hb dX9_settles_35 (by decide) ?_
      obtain ⟨w5, h6, h⟩ := obd_e h
      refine k_X9_put S aM_RX9_148 ⟨Nat.le_of_ble_eq_true rfl, Nat.le_of_ble_eq_true rfl⟩ ⟨Nat.zero_le _, Nat.zero_le _⟩ hP hK hDT hS h6 hl.1 (Nat.le_of_ble_eq_true rfl) dX9_settles_39 (fun H locs hP hS => ?_)
      refine lv_iload_n hx hb dX9_settles_42 rfl (lv_at hl 0 rfl) ?_
      refine lv_iconst (v := (-1)) hx hb dX9_settles_43 (by decide) ?_
      refine lv_icmp_eq (tgt := 51) hx hb dX9_settles_44 (by decide) (fun hc => ?_) (fun hc => ?_)
      · replace h := oi_t hc h
        refine lv_iconst (v := 0) hx hb dX9_settles_51 (by decide) ?_
        obtain ⟨rfl, rfl⟩ := os2 h
        exact W.zret (v := 0) (ty := .boolean) hx hb hr rfl (fun t ht hW => ⟨⟨_, (), rfl, ⟨rfl, (Or.inl rfl)⟩, by show va_P _ _ _ t.heap; rw [ht]; exact hP⟩, hS.F ht⟩) hS.2.2 dX9_settles_52
      · replace h := oi_f hc h
        refine lv_iconst (v := 1) hx hb dX9_settles_47 (by decide) ?_
        refine lv_goto (tgt := 52) hx hb dX9_settles_48 (by decide) ?_
        obtain ⟨rfl, rfl⟩ := os2 h
        exact W.zret (v := 1) (ty := .boolean) hx hb hr rfl (fun t ht hW => ⟨⟨_, (), rfl, ⟨rfl, (Or.inr rfl)⟩, by show va_P _ _ _ t.heap; rw [ht]; exact hP⟩, hS.F ht⟩) hS.2.2 dX9_settles_52
theorem k_X9_settles {p : Program} {l : Launch} {e : Env} {R : Room} {s : State} {m : MethodId} {args : Array Value} {below : List Frame} {meth : Method} {c : Code} {H : Heap} {locs : List Loc} {cells slots : Nat} {Q : State → Prop} {cc : ByteArray} {pc nL idx : Nat} {ls : Array Slot} {rest : List Value} {own : String} {D : va_G} {cI : ClassId} {a : Nat → Nat} {H0 : Heap} {N : Nat} {φ : M2} {p1 : Int32} {hv : Int64} {r0 : Int32} {φr : M2} (S : CallFix p m c cc nL s args AW own) (h1 : Cond.methodLink own idx yX9_settles ∈ AW) (hR : 3 + 1 ≤ R.frames ∧ 8 + (3 + 11) + 65 ≤ R.locals) (hc : cells ≤ R.cells ∧ slots ≤ R.slots) (hP : va_P D vwCl (mbW cI a φ hv) H) (hK : va_K D vwCl [(cI, .int)] s) (hDT : ∀ (φ2 : M2) (hv2 : Int64), va_D (fun _ => True) (mbW cI a φ2 hv2)) (hS : va_S (mbA a) H0 H locs) (hF : G_X9_settles N φ p1 = some (r0, φr)) (hsz : ls.size = nL) (hW : (rest.map fun v => v.category).sum ≤ 8) (hdg : decode cc pc = .ok (.invokevirtual idx, 3)) (kk : (r0 = 0 ∨ r0 = 1) → ∀ (H1 : Heap) (locs1 : List Loc), va_P D vwCl (mbW cI a φr hv) H1 → va_S (mbA a) H0 H1 locs1 → W p l e R s m args below meth c H1 locs1 cells slots Q (F0 m (pc + 3) ls (.int r0 :: rest))) : W p l e R s m args below meth c H locs cells slots Q (F0 m pc ls (.int p1 :: .ref (a 0) :: rest)) :=
  fm_runVi (n := 1) (C := RX9) (As := [.int p1]) S (c_X9_settles l D cI a N φ p1 hv r0 φr hF) (M_pre (q0 := 0) (ci := 7) hK hP (hDT _ _) rfl rfl) hS h1 aI_X9_settles aV_X9_settles aN_RX9 aC_X9_settles rfl rfl (by decide +kernel) rfl hR hc hsz hW hdg (fun r H1 locs1 hr hP1 hS1 => by obtain ⟨rfl, hz⟩ := hr; exact kk hz H1 locs1 hP1 hS1)
set_option maxHeartbeats 4000000 in
set_option maxRecDepth 100000 in
theorem c_X9_hold (l : Launch) (D : va_G) (cI : ClassId) (a : Nat → Nat) (φ : M2) (p1 : Int32) (hv : Int64) (φr : M2) (hF : G_X9_hold φ p1 = some φr) : Met l yX9_hold (wsA yX9_hold cX9_hold 2 none) { frames := 3, cells := 0, slots := 0, locals := 66 } (va_Pc [.ref (a 0), .int p1] (mbP D cI a φ hv)) (va_Qv (fun (_ : Unit) => True) (fun _ t => va_P D vwCl (mbW cI a φr hv) t.heap) (mbA a)) 0 0 (mbA a) := by
  refine Met.ofW (cc := cX9_hold) (maxL := 2) (ret := none) (by decide) rfl ?_
  intro p e s m args below meth c s₁ B hml hpre
  obtain ⟨rfl, hP, hK, hD0⟩ := hpre
  have hx := B.exec
  have hb := B.bytes
  have hr := B.returns
  have hA : ∀ w ∈ AW, w.before _ s = true := fun w h => atoms_spec (ws := wsA yX9_hold cX9_hold 2 none) B.pre w (List.mem_cons_of_mem _ h)
  have hown : s.vm.findClass RX9 = some m.cls := findClass_of_methodNamed B.named
  have hlocks := B.notSynchronized
  have hDT := M_dT hD0
  have hDA := M_dA hD0
  have hS : va_S (mbA a) s.heap s.heap [] := va_S.rf
  have S : CallFix p m c cX9_hold 2 s ([.ref (a 0), .int p1] : List Value).toArray AW RX9 := ⟨hx, hb, hml, hown, hA⟩
  have hl := lv_entry ([.ref (a 0), .int p1]) (n := 2) (Nat.le_of_ble_eq_true rfl)
  rw [lg_entry_eq]
  generalize (lg_sl ([.ref (a 0), .int p1]) ++ List.replicate (2 - (lg_sl ([.ref (a 0), .int p1])).length) Slot.unset).toArray = ls at hl ⊢
  have hl : lv_has ls 2 [(0, .ref (a 0)), (1, .int p1)] := hl
  have h := hF
  unfold G_X9_hold at h
  refine lv_aload_n hx hb dX9_hold_0 rfl (lv_at hl 0 rfl) ?_
  refine lv_aload_n hx hb dX9_hold_1 rfl (lv_at hl 0 rfl) ?_
  refine lv_iload_n hx hb dX9_hold_2 rfl (lv_at hl 1 rfl) ?_
  obtain ⟨r1, h2, h⟩ := obd_e h
  refine k_X9_tagOf S aM_RX9_111 ⟨Nat.le_of_ble_eq_true rfl, Nat.le_of_ble_eq_true rfl⟩ ⟨Nat.zero_le _, Nat.zero_le _⟩ hP hK hDT h2 hl.1 (Nat.le_of_ble_eq_true rfl) dX9_hold_3 ?_
  refine M_p0_6 hx hb hA hown aF_RX9_136 hK hP (hDA _ _) hS dX9_hold_6 (fun w3 H locs ew3 hP hS => ?_)
  replace h := olet_s ew3 h
  refine lv_aload_n hx hb dX9_hold_9 rfl (lv_at hl 0 rfl) ?_
  refine lv_aload_n hx hb dX9_hold_10 rfl (lv_at hl 0 rfl) ?_
  refine M_g0_0 hx hb hA hown aF_RX9_7 hK hP dX9_hold_11 ?_
  refine lv_iconst (v := 2) hx hb dX9_hold_14 (by decide) ?_
  obtain ⟨i4, h⟩ := oin_e h
  refine M_ld1 hx hb hK hP i4 dX9_hold_15 ?_
  refine M_p0_7 hx hb hA hown aF_RX9_139 hK hP (hDA _ _) hS dX9_hold_16 (fun w5 H locs ew5 hP hS => ?_)
  replace h := olet_s ew5 h
  refine lv_aload_n hx hb dX9_hold_19 rfl (lv_at hl 0 rfl) ?_
  refine lv_aload_n hx hb dX9_hold_20 rfl (lv_at hl 0 rfl) ?_
  refine lv_iload_n hx hb dX9_hold_21 rfl (lv_at hl 1 rfl) ?_
  refine lv_aload_n hx hb dX9_hold_22 rfl (lv_at hl 0 rfl) ?_
  refine M_g0_0 hx hb hA hown aF_RX9_7 hK hP dX9_hold_23 ?_
  refine lv_iconst (v := 2) hx hb dX9_hold_26 (by decide) ?_
  obtain ⟨i6, h⟩ := oin_e h
  refine M_ld1 hx hb hK hP i6 dX9_hold_27 ?_
  obtain ⟨r7, h8, h⟩ := obd_e h
  refine k_X9_printOf S aM_RX9_124 ⟨Nat.le_of_ble_eq_true rfl, Nat.le_of_ble_eq_true rfl⟩ ⟨Nat.zero_le _, Nat.zero_le _⟩ hP hK hDT h8 hl.1 (Nat.le_of_ble_eq_true rfl) dX9_hold_28 ?_
  refine M_p0_8 hx hb hA hown aF_RX9_142 hK hP (hDA _ _) hS dX9_hold_31 (fun w9 H locs ew9 hP hS => ?_)
  replace h := olet_s ew9 h
  refine lv_aload_n hx hb dX9_hold_34 rfl (lv_at hl 0 rfl) ?_
  refine lv_aload_n hx hb dX9_hold_35 rfl (lv_at hl 0 rfl) ?_
  refine lv_iload_n hx hb dX9_hold_36 rfl (lv_at hl 1 rfl) ?_
  obtain ⟨r10, h11, h⟩ := obd_e h
  refine k_X9_homeOf S aM_RX9_108 ⟨Nat.le_of_ble_eq_true rfl, Nat.le_of_ble_eq_true rfl⟩ ⟨Nat.zero_le _, Nat.zero_le _⟩ hP hK hDT h11 hl.1 (Nat.le_of_ble_eq_true rfl) dX9_hold_37 ?_
  refine M_p0_9 hx hb hA hown aF_RX9_145 hK hP (hDA _ _) hS dX9_hold_40 (fun w12 H locs ew12 hP hS => ?_)
  replace h := olet_s ew12 h
  obtain rfl := os1 h
  exact W.vret hx hb hr (fun t ht hW => ⟨⟨(), rfl, trivial, by show va_P _ _ _ t.heap; rw [ht]; exact hP⟩, hS.F ht⟩) hS.2.2 dX9_hold_43
theorem k_X9_hold {p : Program} {l : Launch} {e : Env} {R : Room} {s : State} {m : MethodId} {args : Array Value} {below : List Frame} {meth : Method} {c : Code} {H : Heap} {locs : List Loc} {cells slots : Nat} {Q : State → Prop} {cc : ByteArray} {pc nL idx : Nat} {ls : Array Slot} {rest : List Value} {own : String} {D : va_G} {cI : ClassId} {a : Nat → Nat} {H0 : Heap} {φ : M2} {p1 : Int32} {hv : Int64} {φr : M2} (S : CallFix p m c cc nL s args AW own) (h1 : Cond.methodLink own idx yX9_hold ∈ AW) (hR : 3 + 1 ≤ R.frames ∧ 8 + (2 + 11) + 66 ≤ R.locals) (hc : cells ≤ R.cells ∧ slots ≤ R.slots) (hP : va_P D vwCl (mbW cI a φ hv) H) (hK : va_K D vwCl [(cI, .int)] s) (hDT : ∀ (φ2 : M2) (hv2 : Int64), va_D (fun _ => True) (mbW cI a φ2 hv2)) (hS : va_S (mbA a) H0 H locs) (hF : G_X9_hold φ p1 = some φr) (hsz : ls.size = nL) (hW : (rest.map fun v => v.category).sum ≤ 8) (hdg : decode cc pc = .ok (.invokevirtual idx, 3)) (kk : ∀ (H1 : Heap) (locs1 : List Loc), va_P D vwCl (mbW cI a φr hv) H1 → va_S (mbA a) H0 H1 locs1 → W p l e R s m args below meth c H1 locs1 cells slots Q (F0 m (pc + 3) ls (rest))) : W p l e R s m args below meth c H locs cells slots Q (F0 m pc ls (.int p1 :: .ref (a 0) :: rest)) :=
  fm_runVv (n := 1) (C := RX9) (As := [.int p1]) S (c_X9_hold l D cI a φ p1 hv φr hF) (M_pre (q0 := 0) (ci := 7) hK hP (hDT _ _) rfl rfl) hS h1 aI_X9_hold aV_X9_hold aN_RX9 aC_X9_hold rfl rfl (by decide +kernel) rfl hR hc hsz hW hdg (fun H1 locs1 hP1 hS1 => kk H1 locs1 hP1 hS1)
set_option maxHeartbeats 4000000 in
set_option maxRecDepth 100000 in
theorem c_X9_exchange (l : Launch) (D : va_G) (cI : ClassId) (a : Nat → Nat) (φ : M2) (p1 : Int32) (p2 : Int32) (hv : Int64) (φr : M2) (hF : G_X9_exchange φ p1 p2 = some φr) : Met l yX9_exchange (wsA yX9_exchange cX9_exchange 8 none) { frames := 2, cells := 0, slots := 0, locals := 48 } (va_Pc [.ref (a 0), .int p1, .int p2] (mbP D cI a φ hv)) (va_Qv (fun (_ : Unit) => True) (fun _ t => va_P D vwCl (mbW cI a φr hv) t.heap) (mbA a)) 0 0 (mbA a) := by
  refine Met.ofW (cc := cX9_exchange) (maxL := 8) (ret := none) (by decide) rfl ?_
  intro p e s m args below meth c s₁ B hml hpre
  obtain ⟨rfl, hP, hK, hD0⟩ := hpre
  have hx := B.exec
  have hb := B.bytes
  have hr := B.returns
  have hA : ∀ w ∈ AW, w.before _ s = true := fun w h => atoms_spec (ws := wsA yX9_exchange cX9_exchange 8 none) B.pre w (List.mem_cons_of_mem _ h)
  have hown : s.vm.findClass RX9 = some m.cls := findClass_of_methodNamed B.named
  have hlocks := B.notSynchronized
  have hDT := M_dT hD0
  have hDA := M_dA hD0
  have hS : va_S (mbA a) s.heap s.heap [] := va_S.rf
  have S : CallFix p m c cX9_exchange 8 s ([.ref (a 0), .int p1, .int p2] : List Value).toArray AW RX9 := ⟨hx, hb, hml, hown, hA⟩
  have hl := lv_entry ([.ref (a 0), .int p1, .int p2]) (n := 8) (Nat.le_of_ble_eq_true rfl)
  rw [lg_entry_eq]
  generalize (lg_sl ([.ref (a 0), .int p1, .int p2]) ++ List.replicate (8 - (lg_sl ([.ref (a 0), .int p1, .int p2])).length) Slot.unset).toArray = ls at hl ⊢
  have hl : lv_has ls 8 [(0, .ref (a 0)), (1, .int p1), (2, .int p2)] := hl
  have hJ92 : ∀ (v4 : Int32) (v5 : Int32) (v6 : Int32) (v7 : Int32) (s0 : Int32) (s1 : Int32) (s2 : Int32) (s3 : Int32) (s4 : Int32) (s5 : Int32) (φ : M2) (H : Heap) (locs : List Loc) (ls : Array Slot), J_X9_exchange_92 φ v4 v5 v6 v7 s0 s1 s2 s3 s4 s5 = some φr → va_P D vwCl (mbW cI a φ hv) H → va_S (mbA a) s.heap H locs → lv_has ls 8 [(0, .ref (a 0)), (4, .int v4), (5, .int v5), (6, .int v6), (7, .int v7)] → W p l e (headSpec (wsA yX9_exchange cX9_exchange 8 none) { frames := 2, cells := 0, slots := 0, locals := 48 }).room s m ([.ref (a 0), .int p1, .int p2] : List Value).toArray below meth c H locs 0 0 (MQ below (va_Qv (fun (_ : Unit) => True) (fun _ t => va_P D vwCl (mbW cI a φr hv) t.heap) (mbA a)) ([.ref (a 0), .int p1, .int p2] : List Value).toArray s 0 0 (mbA a)) (F0 m 92 ls [.int s0, .int s1, .int s2, .int s3, .int s4, .int s5, .ref (a 0)]) := by
    intro v4 v5 v6 v7 s0 s1 s2 s3 s4 s5 φ H locs ls h hP hS hl
    unfold J_X9_exchange_92 at h
    obtain ⟨w12, h13, h⟩ := obd_e h
    refine k_X9_put S aM_RX9_148 ⟨Nat.le_of_ble_eq_true rfl, Nat.le_of_ble_eq_true rfl⟩ ⟨Nat.zero_le _, Nat.zero_le _⟩ hP hK hDT hS h13 hl.1 (Nat.le_of_ble_eq_true rfl) dX9_exchange_92 (fun H locs hP hS => ?_)
    refine lv_aload_n hx hb dX9_exchange_95 rfl (lv_at hl 0 rfl) ?_
    refine lv_iload hx hb dX9_exchange_96 (lv_at hl 1 rfl) ?_
    refine M_p0_6 hx hb hA hown aF_RX9_136 hK hP (hDA _ _) hS dX9_exchange_98 (fun w14 H locs ew14 hP hS => ?_)
    replace h := olet_s ew14 h
    refine lv_aload_n hx hb dX9_exchange_101 rfl (lv_at hl 0 rfl) ?_
    refine lv_iload hx hb dX9_exchange_102 (lv_at hl 2 rfl) ?_
    refine M_p0_7 hx hb hA hown aF_RX9_139 hK hP (hDA _ _) hS dX9_exchange_104 (fun w15 H locs ew15 hP hS => ?_)
    replace h := olet_s ew15 h
    refine lv_aload_n hx hb dX9_exchange_107 rfl (lv_at hl 0 rfl) ?_
    refine lv_iload hx hb dX9_exchange_108 (lv_at hl 3 rfl) ?_
    refine M_p0_8 hx hb hA hown aF_RX9_142 hK hP (hDA _ _) hS dX9_exchange_110 (fun w16 H locs ew16 hP hS => ?_)
    replace h := olet_s ew16 h
    refine lv_aload_n hx hb dX9_exchange_113 rfl (lv_at hl 0 rfl) ?_
    refine lv_iload hx hb dX9_exchange_114 (lv_at hl 4 rfl) ?_
    refine M_p0_9 hx hb hA hown aF_RX9_145 hK hP (hDA _ _) hS dX9_exchange_116 (fun w17 H locs ew17 hP hS => ?_)
    replace h := olet_s ew17 h
    obtain rfl := os1 h
    exact W.vret hx hb hr (fun t ht hW => ⟨⟨(), rfl, trivial, by show va_P _ _ _ t.heap; rw [ht]; exact hP⟩, hS.F ht⟩) hS.2.2 dX9_exchange_119
  have hJ62 : ∀ (v1 : Int32) (v2 : Int32) (v4 : Int32) (v5 : Int32) (v6 : Int32) (s0 : Int32) (φ : M2) (H : Heap) (locs : List Loc) (ls : Array Slot), J_X9_exchange_62 φ v1 v2 v4 v5 v6 s0 = some φr → va_P D vwCl (mbW cI a φ hv) H → va_S (mbA a) s.heap H locs → lv_has ls 8 [(0, .ref (a 0)), (1, .int v1), (2, .int v2), (4, .int v4), (5, .int v5), (6, .int v6)] → W p l e (headSpec (wsA yX9_exchange cX9_exchange 8 none) { frames := 2, cells := 0, slots := 0, locals := 48 }).room s m ([.ref (a 0), .int p1, .int p2] : List Value).toArray below meth c H locs 0 0 (MQ below (va_Qv (fun (_ : Unit) => True) (fun _ t => va_P D vwCl (mbW cI a φr hv) t.heap) (mbA a)) ([.ref (a 0), .int p1, .int p2] : List Value).toArray s 0 0 (mbA a)) (F0 m 62 ls [.int s0]) := by
    intro v1 v2 v4 v5 v6 s0 φ H locs ls h hP hS hl
    unfold J_X9_exchange_62 at h
    refine lv_istore (lv' := [(7, .int s0), (0, .ref (a 0)), (1, .int v1), (2, .int v2), (4, .int v4), (5, .int v5), (6, .int v6)]) hx hb dX9_exchange_62 hl (by decide) rfl (fun ls hl => ?_)
    refine lv_aload_n hx hb dX9_exchange_64 rfl (lv_at hl 1 rfl) ?_
    refine lv_iload_n hx hb dX9_exchange_65 rfl (lv_at hl 2 rfl) ?_
    refine lv_iload_n hx hb dX9_exchange_66 rfl (lv_at hl 3 rfl) ?_
    refine lv_aload_n hx hb dX9_exchange_67 rfl (lv_at hl 1 rfl) ?_
    refine M_g0_6 hx hb hA hown aF_RX9_136 hK hP dX9_exchange_68 ?_
    refine lv_aload_n hx hb dX9_exchange_71 rfl (lv_at hl 1 rfl) ?_
    refine M_g0_7 hx hb hA hown aF_RX9_139 hK hP dX9_exchange_72 ?_
    refine lv_aload_n hx hb dX9_exchange_75 rfl (lv_at hl 1 rfl) ?_
    refine M_g0_8 hx hb hA hown aF_RX9_142 hK hP dX9_exchange_76 ?_
    refine lv_iload_n hx hb dX9_exchange_79 rfl (lv_at hl 2 rfl) ?_
    refine lv_aload_n hx hb dX9_exchange_80 rfl (lv_at hl 1 rfl) ?_
    refine M_g0_9 hx hb hA hown aF_RX9_145 hK hP dX9_exchange_81 ?_
    refine lv_icmp_ne (tgt := 91) hx hb dX9_exchange_84 (by decide) (fun hc => ?_) (fun hc => ?_)
    · replace h := oi_f hc h
      refine lv_iconst (v := 1) hx hb dX9_exchange_91 (by decide) ?_
      exact hJ92 _ _ _ _ _ _ _ _ _ _ _ _ _ _ h hP hS (lv_sub hl [1, 4, 5, 6, 0] rfl)
    · replace h := oi_t hc h
      refine lv_iconst (v := 0) hx hb dX9_exchange_87 (by decide) ?_
      refine lv_goto (tgt := 92) hx hb dX9_exchange_88 (by decide) ?_
      exact hJ92 _ _ _ _ _ _ _ _ _ _ _ _ _ _ h hP hS (lv_sub hl [1, 4, 5, 6, 0] rfl)
  have h := hF
  unfold G_X9_exchange at h
  refine lv_iload_n hx hb dX9_exchange_0 rfl (lv_at hl 1 rfl) ?_
  refine lv_iload_n hx hb dX9_exchange_1 rfl (lv_at hl 2 rfl) ?_
  refine k_X9_at S aM_RX9_117 ⟨Nat.le_of_ble_eq_true rfl, Nat.le_of_ble_eq_true rfl⟩ ⟨Nat.zero_le _, Nat.zero_le _⟩ hl.1 (Nat.le_of_ble_eq_true rfl) dX9_exchange_2 (fun r1 er1 => ?_)
  replace h := olet_s er1 h
  refine lv_istore_n (lv' := [(3, .int r1), (0, .ref (a 0)), (1, .int p1), (2, .int p2)]) hx hb dX9_exchange_5 rfl hl (by decide) rfl (fun ls hl => ?_)
  refine lv_aload_n hx hb dX9_exchange_6 rfl (lv_at hl 1 rfl) ?_
  refine M_g0_0 hx hb hA hown aF_RX9_7 hK hP dX9_exchange_7 ?_
  refine lv_iload_n hx hb dX9_exchange_10 rfl (lv_at hl 0 rfl) ?_
  obtain ⟨i2, h⟩ := oin_e h
  refine M_ld1 hx hb hK hP i2 dX9_exchange_11 ?_
  refine lv_topi (fun x3 ex3 => ?_)
  replace h := olet_s ex3 h
  refine lv_istore (lv' := [(4, .int x3), (3, .int r1), (0, .ref (a 0)), (1, .int p1), (2, .int p2)]) hx hb dX9_exchange_12 hl (by decide) rfl (fun ls hl => ?_)
  refine lv_aload_n hx hb dX9_exchange_14 rfl (lv_at hl 2 rfl) ?_
  refine M_g0_0 hx hb hA hown aF_RX9_7 hK hP dX9_exchange_15 ?_
  refine lv_iload_n hx hb dX9_exchange_18 rfl (lv_at hl 1 rfl) ?_
  refine lv_iconst (v := 1) hx hb dX9_exchange_19 (by decide) ?_
  refine lv_iadd hx hb dX9_exchange_20 ?_
  obtain ⟨i4, h⟩ := oin_e h
  refine M_ld1 hx hb hK hP i4 dX9_exchange_21 ?_
  refine lv_topi (fun x5 ex5 => ?_)
  replace h := olet_s ex5 h
  refine lv_istore (lv' := [(5, .int x5), (4, .int x3), (3, .int r1), (0, .ref (a 0)), (1, .int p1), (2, .int p2)]) hx hb dX9_exchange_22 hl (by decide) rfl (fun ls hl => ?_)
  refine lv_aload_n hx hb dX9_exchange_24 rfl (lv_at hl 3 rfl) ?_
  refine M_g0_0 hx hb hA hown aF_RX9_7 hK hP dX9_exchange_25 ?_
  refine lv_iload_n hx hb dX9_exchange_28 rfl (lv_at hl 2 rfl) ?_
  refine lv_iconst (v := 2) hx hb dX9_exchange_29 (by decide) ?_
  refine lv_iadd hx hb dX9_exchange_30 ?_
  obtain ⟨i6, h⟩ := oin_e h
  refine M_ld1 hx hb hK hP i6 dX9_exchange_31 ?_
  refine lv_topi (fun x7 ex7 => ?_)
  replace h := olet_s ex7 h
  refine lv_istore (lv' := [(6, .int x7), (5, .int x5), (4, .int x3), (3, .int r1), (0, .ref (a 0)), (1, .int p1), (2, .int p2)]) hx hb dX9_exchange_32 hl (by decide) rfl (fun ls hl => ?_)
  refine lv_aload_n hx hb dX9_exchange_34 rfl (lv_at hl 4 rfl) ?_
  refine M_g0_0 hx hb hA hown aF_RX9_7 hK hP dX9_exchange_35 ?_
  refine lv_iload_n hx hb dX9_exchange_38 rfl (lv_at hl 3 rfl) ?_
  refine lv_iconst (v := 3) hx hb dX9_exchange_39 (by decide) ?_
  refine lv_iadd hx hb dX9_exchange_40 ?_
  obtain ⟨i8, h⟩ := oin_e h
  refine M_ld1 hx hb hK hP i8 dX9_exchange_41 ?_
  refine lv_if_ne (tgt := 49) hx hb dX9_exchange_42 (by decide) (fun hc => ?_) (fun hc => ?_)
  · replace h := oi_f hc h
    refine lv_iload_n hx hb dX9_exchange_49 rfl (lv_at hl 5 rfl) ?_
    refine lv_iload hx hb dX9_exchange_50 (lv_at hl 2 rfl) ?_
    refine lv_aload_n hx hb dX9_exchange_52 rfl (lv_at hl 4 rfl) ?_
    refine M_g0_0 hx hb hA hown aF_RX9_7 hK hP dX9_exchange_53 ?_
    refine lv_iconst (v := 0) hx hb dX9_exchange_56 (by decide) ?_
    obtain ⟨i9, h⟩ := oin_e h
    refine M_ld1 hx hb hK hP i9 dX9_exchange_57 ?_
    obtain ⟨r10, h11, h⟩ := obd_e h
    refine k_X9_stepOf S aM_RX9_114 ⟨Nat.le_of_ble_eq_true rfl, Nat.le_of_ble_eq_true rfl⟩ ⟨Nat.zero_le _, Nat.zero_le _⟩ h11 hl.1 (Nat.le_of_ble_eq_true rfl) dX9_exchange_58 ?_
    refine lv_ixor hx hb dX9_exchange_61 ?_
    exact hJ62 _ _ _ _ _ _ _ _ _ _ h hP hS (lv_sub hl [4, 5, 6, 2, 1, 0] rfl)
  · replace h := oi_t hc h
    refine lv_iload_n hx hb dX9_exchange_45 rfl (lv_at hl 5 rfl) ?_
    refine lv_goto (tgt := 62) hx hb dX9_exchange_46 (by decide) ?_
    exact hJ62 _ _ _ _ _ _ _ _ _ _ h hP hS (lv_sub hl [4, 5, 6, 2, 1, 0] rfl)
theorem k_X9_exchange {p : Program} {l : Launch} {e : Env} {R : Room} {s : State} {m : MethodId} {args : Array Value} {below : List Frame} {meth : Method} {c : Code} {H : Heap} {locs : List Loc} {cells slots : Nat} {Q : State → Prop} {cc : ByteArray} {pc nL idx : Nat} {ls : Array Slot} {rest : List Value} {own : String} {D : va_G} {cI : ClassId} {a : Nat → Nat} {H0 : Heap} {φ : M2} {p1 : Int32} {p2 : Int32} {hv : Int64} {φr : M2} (S : CallFix p m c cc nL s args AW own) (h1 : Cond.methodLink own idx yX9_exchange ∈ AW) (hR : 2 + 1 ≤ R.frames ∧ 8 + (8 + 11) + 48 ≤ R.locals) (hc : cells ≤ R.cells ∧ slots ≤ R.slots) (hP : va_P D vwCl (mbW cI a φ hv) H) (hK : va_K D vwCl [(cI, .int)] s) (hDT : ∀ (φ2 : M2) (hv2 : Int64), va_D (fun _ => True) (mbW cI a φ2 hv2)) (hS : va_S (mbA a) H0 H locs) (hF : G_X9_exchange φ p1 p2 = some φr) (hsz : ls.size = nL) (hW : (rest.map fun v => v.category).sum ≤ 8) (hdg : decode cc pc = .ok (.invokevirtual idx, 3)) (kk : ∀ (H1 : Heap) (locs1 : List Loc), va_P D vwCl (mbW cI a φr hv) H1 → va_S (mbA a) H0 H1 locs1 → W p l e R s m args below meth c H1 locs1 cells slots Q (F0 m (pc + 3) ls (rest))) : W p l e R s m args below meth c H locs cells slots Q (F0 m pc ls (.int p2 :: .int p1 :: .ref (a 0) :: rest)) :=
  fm_runVv (n := 2) (C := RX9) (As := [.int p1, .int p2]) S (c_X9_exchange l D cI a φ p1 p2 hv φr hF) (M_pre (q0 := 0) (ci := 7) hK hP (hDT _ _) rfl rfl) hS h1 aI_X9_exchange aV_X9_exchange aN_RX9 aC_X9_exchange rfl rfl (by decide +kernel) rfl hR hc hsz hW hdg (fun H1 locs1 hP1 hS1 => kk H1 locs1 hP1 hS1)
set_option maxHeartbeats 4000000 in
set_option maxRecDepth 100000 in
theorem c_X9_walks (l : Launch) (D : va_G) (cI : ClassId) (a : Nat → Nat) (N : Nat) (φ : M2) (p1 : Int32) (hv : Int64) (r0 : Int32) (φr : M2) (hF : G_X9_walks N φ p1 = some (r0, φr)) : Met l yX9_walks (wsA yX9_walks cX9_walks 4 (some .boolean)) { frames := 4, cells := 0, slots := 0, locals := 87 } (va_Pc [.ref (a 0), .int p1] (mbP D cI a φ hv)) (va_Qi (fun (r : Int32) (_ : Unit) => r = r0 ∧ (r = 0 ∨ r = 1)) (fun _ t => va_P D vwCl (mbW cI a φr hv) t.heap) (mbA a)) 0 0 (mbA a) := by
  refine Met.ofW (cc := cX9_walks) (maxL := 4) (ret := (some .boolean)) (by decide) rfl ?_
  intro p e s m args below meth c s₁ B hml hpre
  obtain ⟨rfl, hP, hK, hD0⟩ := hpre
  have hx := B.exec
  have hb := B.bytes
  have hr := B.returns
  have hA : ∀ w ∈ AW, w.before _ s = true := fun w h => atoms_spec (ws := wsA yX9_walks cX9_walks 4 (some .boolean)) B.pre w (List.mem_cons_of_mem _ h)
  have hown : s.vm.findClass RX9 = some m.cls := findClass_of_methodNamed B.named
  have hlocks := B.notSynchronized
  have hDT := M_dT hD0
  have hDA := M_dA hD0
  have hS : va_S (mbA a) s.heap s.heap [] := va_S.rf
  have S : CallFix p m c cX9_walks 4 s ([.ref (a 0), .int p1] : List Value).toArray AW RX9 := ⟨hx, hb, hml, hown, hA⟩
  have hl := lv_entry ([.ref (a 0), .int p1]) (n := 4) (Nat.le_of_ble_eq_true rfl)
  rw [lg_entry_eq]
  generalize (lg_sl ([.ref (a 0), .int p1]) ++ List.replicate (4 - (lg_sl ([.ref (a 0), .int p1])).length) Slot.unset).toArray = ls at hl ⊢
  have hl : lv_has ls 4 [(0, .ref (a 0)), (1, .int p1)] := hl
  have hL2 : ∀ (k : Nat) (v1 : Int32) (v2 : Int32) (φ : M2) (H : Heap) (locs : List Loc) (ls : Array Slot) (φo : M2), L_X9_walks_2 N v1 k v2 φ = some φo → va_P D vwCl (mbW cI a φ hv) H → va_S (mbA a) s.heap H locs → lv_has ls 4 [(0, .ref (a 0)), (1, .int v1), (2, .int v2)] → (∀ (H1 : Heap) (locs1 : List Loc) (ls1 : Array Slot), va_P D vwCl (mbW cI a φo hv) H1 → va_S (mbA a) s.heap H1 locs1 → lv_has ls1 4 [(0, .ref (a 0)), (1, .int v1)] → W p l e (headSpec (wsA yX9_walks cX9_walks 4 (some .boolean)) { frames := 4, cells := 0, slots := 0, locals := 87 }).room s m ([.ref (a 0), .int p1] : List Value).toArray below meth c H1 locs1 0 0 (MQ below (va_Qi (fun (r : Int32) (_ : Unit) => r = r0 ∧ (r = 0 ∨ r = 1)) (fun _ t => va_P D vwCl (mbW cI a φr hv) t.heap) (mbA a)) ([.ref (a 0), .int p1] : List Value).toArray s 0 0 (mbA a)) (F0 m 30 ls1 [])) → W p l e (headSpec (wsA yX9_walks cX9_walks 4 (some .boolean)) { frames := 4, cells := 0, slots := 0, locals := 87 }).room s m ([.ref (a 0), .int p1] : List Value).toArray below meth c H locs 0 0 (MQ below (va_Qi (fun (r : Int32) (_ : Unit) => r = r0 ∧ (r = 0 ∨ r = 1)) (fun _ t => va_P D vwCl (mbW cI a φr hv) t.heap) (mbA a)) ([.ref (a 0), .int p1] : List Value).toArray s 0 0 (mbA a)) (F0 m 2 ls []) := by
    intro k
    induction k with
    | zero =>
      intro v1 v2 φ H locs ls φo h hP hS hl kk
      exact no_s h
    | succ k ih =>
      intro v1 v2 φ H locs ls φo h hP hS hl kk
      replace h : B_X9_walks_2 N v1 (L_X9_walks_2 N v1 k) v2 φ = some φo := h
      unfold B_X9_walks_2 at h
      refine lv_iload_n hx hb dX9_walks_2 rfl (lv_at hl 2 rfl) ?_
      refine lv_sipush (v := 1024) hx hb dX9_walks_3 (by decide) ?_
      refine lv_icmp_ge (tgt := 30) hx hb dX9_walks_6 (by decide) (fun hc => ?_) (fun hc => ?_)
      · replace h := oi_t hc h
        obtain rfl := os1 h
        exact kk _ _ _ hP hS (lv_sub hl [0, 1] rfl)
      · replace h := oi_f hc h
        refine lv_aload_n hx hb dX9_walks_9 rfl (lv_at hl 0 rfl) ?_
        refine M_g0_13 hx hb hA hown aF_RX9_25 hK hP dX9_walks_10 ?_
        refine lv_iload_n hx hb dX9_walks_13 rfl (lv_at hl 2 rfl) ?_
        refine lv_aload_n hx hb dX9_walks_14 rfl (lv_at hl 0 rfl) ?_
        refine M_g0_0 hx hb hA hown aF_RX9_7 hK hP dX9_walks_15 ?_
        refine lv_bipush (v := 18) hx hb dX9_walks_18 (by decide) ?_
        refine lv_iload_n hx hb dX9_walks_20 rfl (lv_at hl 2 rfl) ?_
        refine lv_iadd hx hb dX9_walks_21 ?_
        obtain ⟨i1, h⟩ := oin_e h
        refine M_ld1 hx hb hK hP i1 dX9_walks_22 ?_
        obtain ⟨i2, h⟩ := oin_e h
        refine M_st6 hx hb hK hP (hDA _ _) hS i2 dX9_walks_23 (fun w3 H locs ew3 hP hS => ?_)
        replace h := olet_s ew3 h
        refine lv_iinc (v := v2 + 1) (lv' := [(2, .int (v2 + 1)), (0, .ref (a 0)), (1, .int v1)]) hx hb dX9_walks_24 hl (k := 2) rfl (fm_inc _ _ _ (by decide)) (by decide) rfl (fun ls hl => ?_)
        refine lv_goto (tgt := 2) hx hb dX9_walks_27 (by decide) ?_
        exact ih _ _ _ _ _ _ _ h hP hS (lv_sub hl [1, 2, 0] rfl) kk
  have hL131 : ∀ (k : Nat) (v3 : Int32) (φ : M2) (H : Heap) (locs : List Loc) (ls : Array Slot) (φo : M2), L_X9_walks_131 N k v3 φ = some φo → va_P D vwCl (mbW cI a φ hv) H → va_S (mbA a) s.heap H locs → lv_has ls 4 [(0, .ref (a 0)), (3, .int v3)] → (∀ (H1 : Heap) (locs1 : List Loc) (ls1 : Array Slot), va_P D vwCl (mbW cI a φo hv) H1 → va_S (mbA a) s.heap H1 locs1 → lv_has ls1 4 [] → W p l e (headSpec (wsA yX9_walks cX9_walks 4 (some .boolean)) { frames := 4, cells := 0, slots := 0, locals := 87 }).room s m ([.ref (a 0), .int p1] : List Value).toArray below meth c H1 locs1 0 0 (MQ below (va_Qi (fun (r : Int32) (_ : Unit) => r = r0 ∧ (r = 0 ∨ r = 1)) (fun _ t => va_P D vwCl (mbW cI a φr hv) t.heap) (mbA a)) ([.ref (a 0), .int p1] : List Value).toArray s 0 0 (mbA a)) (F0 m 159 ls1 [])) → W p l e (headSpec (wsA yX9_walks cX9_walks 4 (some .boolean)) { frames := 4, cells := 0, slots := 0, locals := 87 }).room s m ([.ref (a 0), .int p1] : List Value).toArray below meth c H locs 0 0 (MQ below (va_Qi (fun (r : Int32) (_ : Unit) => r = r0 ∧ (r = 0 ∨ r = 1)) (fun _ t => va_P D vwCl (mbW cI a φr hv) t.heap) (mbA a)) ([.ref (a 0), .int p1] : List Value).toArray s 0 0 (mbA a)) (F0 m 131 ls []) := by
    intro k
    induction k with
    | zero =>
      intro v3 φ H locs ls φo h hP hS hl kk
      exact no_s h
    | succ k ih =>
      intro v3 φ H locs ls φo h hP hS hl kk
      replace h : B_X9_walks_131 N (L_X9_walks_131 N k) v3 φ = some φo := h
      unfold B_X9_walks_131 at h
      refine lv_iload_n hx hb dX9_walks_131 rfl (lv_at hl 1 rfl) ?_
      refine lv_sipush (v := 1024) hx hb dX9_walks_132 (by decide) ?_
      refine lv_icmp_ge (tgt := 159) hx hb dX9_walks_135 (by decide) (fun hc => ?_) (fun hc => ?_)
      · replace h := oi_t hc h
        obtain rfl := os1 h
        exact kk _ _ _ hP hS (lv_sub hl [] rfl)
      · replace h := oi_f hc h
        refine lv_aload_n hx hb dX9_walks_138 rfl (lv_at hl 0 rfl) ?_
        refine M_g0_0 hx hb hA hown aF_RX9_7 hK hP dX9_walks_139 ?_
        refine lv_bipush (v := 18) hx hb dX9_walks_142 (by decide) ?_
        refine lv_iload_n hx hb dX9_walks_144 rfl (lv_at hl 1 rfl) ?_
        refine lv_iadd hx hb dX9_walks_145 ?_
        refine lv_aload_n hx hb dX9_walks_146 rfl (lv_at hl 0 rfl) ?_
        refine M_g0_13 hx hb hA hown aF_RX9_25 hK hP dX9_walks_147 ?_
        refine lv_iload_n hx hb dX9_walks_150 rfl (lv_at hl 1 rfl) ?_
        obtain ⟨i7, h⟩ := oin_e h
        refine M_ld6 hx hb hK hP i7 dX9_walks_151 ?_
        obtain ⟨i8, h⟩ := oin_e h
        refine M_st1 hx hb hK hP (hDA _ _) hS i8 dX9_walks_152 (fun w9 H locs ew9 hP hS => ?_)
        replace h := olet_s ew9 h
        refine lv_iinc (v := v3 + 1) (lv' := [(3, .int (v3 + 1)), (0, .ref (a 0))]) hx hb dX9_walks_153 hl (k := 1) rfl (fm_inc _ _ _ (by decide)) (by decide) rfl (fun ls hl => ?_)
        refine lv_goto (tgt := 131) hx hb dX9_walks_156 (by decide) ?_
        exact ih _ _ _ _ _ _ h hP hS (lv_sub hl [1, 0] rfl) kk
  have hL32 : ∀ (k : Nat) (v2 : Int32) (φ : M2) (H : Heap) (locs : List Loc) (ls : Array Slot) , L_X9_walks_32 N k v2 φ = some (r0, φr) → va_P D vwCl (mbW cI a φ hv) H → va_S (mbA a) s.heap H locs → lv_has ls 4 [(0, .ref (a 0)), (2, .int v2)] → W p l e (headSpec (wsA yX9_walks cX9_walks 4 (some .boolean)) { frames := 4, cells := 0, slots := 0, locals := 87 }).room s m ([.ref (a 0), .int p1] : List Value).toArray below meth c H locs 0 0 (MQ below (va_Qi (fun (r : Int32) (_ : Unit) => r = r0 ∧ (r = 0 ∨ r = 1)) (fun _ t => va_P D vwCl (mbW cI a φr hv) t.heap) (mbA a)) ([.ref (a 0), .int p1] : List Value).toArray s 0 0 (mbA a)) (F0 m 32 ls []) := by
    intro k
    induction k with
    | zero =>
      intro v2 φ H locs ls h hP hS hl
      exact no_s h
    | succ k ih =>
      intro v2 φ H locs ls h hP hS hl
      replace h : B_X9_walks_32 N (L_X9_walks_32 N k) v2 φ = some (r0, φr) := h
      unfold B_X9_walks_32 at h
      refine lv_aload_n hx hb dX9_walks_32 rfl (lv_at hl 0 rfl) ?_
      refine M_g0_12 hx hb hA hown aF_RX9_152 hK hP dX9_walks_33 ?_
      refine lv_aload_n hx hb dX9_walks_36 rfl (lv_at hl 0 rfl) ?_
      refine M_g0_0 hx hb hA hown aF_RX9_7 hK hP dX9_walks_37 ?_
      refine lv_iconst (v := 4) hx hb dX9_walks_40 (by decide) ?_
      obtain ⟨i6, h⟩ := oin_e h
      refine M_ld1 hx hb hK hP i6 dX9_walks_41 ?_
      refine lv_icmp_ge (tgt := 129) hx hb dX9_walks_42 (by decide) (fun hc => ?_) (fun hc => ?_)
      · replace h := oi_t hc h
        refine lv_iconst (v := 0) hx hb dX9_walks_129 (by decide) ?_
        refine lv_istore_n (lv' := [(3, .int 0), (0, .ref (a 0)), (2, .int v2)]) hx hb dX9_walks_130 rfl hl (by decide) rfl (fun ls hl => ?_)
        obtain ⟨w10, h11, h⟩ := obd_e h
        refine hL131 N _ _ _ _ _ _ h11 hP hS (lv_sub hl [1, 0] rfl) (fun H locs ls hP hS hl => ?_)
        refine lv_iconst (v := 0) hx hb dX9_walks_159 (by decide) ?_
        obtain ⟨rfl, rfl⟩ := os2 h
        exact W.zret (v := 0) (ty := .boolean) hx hb hr rfl (fun t ht hW => ⟨⟨_, (), rfl, ⟨rfl, (Or.inl rfl)⟩, by show va_P _ _ _ t.heap; rw [ht]; exact hP⟩, hS.F ht⟩) hS.2.2 dX9_walks_160
      · replace h := oi_f hc h
        refine lv_aload_n hx hb dX9_walks_45 rfl (lv_at hl 0 rfl) ?_
        refine M_g0_12 hx hb hA hown aF_RX9_152 hK hP dX9_walks_46 ?_
        refine lv_aload_n hx hb dX9_walks_49 rfl (lv_at hl 0 rfl) ?_
        refine M_g0_0 hx hb hA hown aF_RX9_7 hK hP dX9_walks_50 ?_
        refine lv_iconst (v := 1) hx hb dX9_walks_53 (by decide) ?_
        obtain ⟨i12, h⟩ := oin_e h
        refine M_ld1 hx hb hK hP i12 dX9_walks_54 ?_
        obtain ⟨z13, h⟩ := onz_e h
        refine lv_irem hx hb dX9_walks_55 z13 ?_
        refine lv_topi (fun x14 ex14 => ?_)
        replace h := olet_s ex14 h
        refine lv_istore_n (lv' := [(3, .int x14), (0, .ref (a 0)), (2, .int v2)]) hx hb dX9_walks_56 rfl hl (by decide) rfl (fun ls hl => ?_)
        refine lv_aload_n hx hb dX9_walks_57 rfl (lv_at hl 1 rfl) ?_
        refine M_g0_10 hx hb hA hown aF_RX9_19 hK hP dX9_walks_58 ?_
        refine lv_aload_n hx hb dX9_walks_61 rfl (lv_at hl 1 rfl) ?_
        refine M_g0_12 hx hb hA hown aF_RX9_152 hK hP dX9_walks_62 ?_
        refine lv_iconst (v := 4) hx hb dX9_walks_65 (by decide) ?_
        refine lv_iload_n hx hb dX9_walks_66 rfl (lv_at hl 2 rfl) ?_
        refine lv_imul hx hb dX9_walks_67 ?_
        refine lv_iload_n hx hb dX9_walks_68 rfl (lv_at hl 0 rfl) ?_
        refine lv_iadd hx hb dX9_walks_69 ?_
        obtain ⟨i15, h⟩ := oin_e h
        refine M_st4 hx hb hK hP (hDA _ _) hS i15 dX9_walks_70 (fun w16 H locs ew16 hP hS => ?_)
        replace h := olet_s ew16 h
        refine lv_aload_n hx hb dX9_walks_71 rfl (lv_at hl 1 rfl) ?_
        refine lv_iload_n hx hb dX9_walks_72 rfl (lv_at hl 2 rfl) ?_
        refine lv_iload_n hx hb dX9_walks_73 rfl (lv_at hl 0 rfl) ?_
        obtain ⟨w17, h18, h⟩ := obd_e h
        refine k_X9_exchange S aM_RX9_155 ⟨Nat.le_of_ble_eq_true rfl, Nat.le_of_ble_eq_true rfl⟩ ⟨Nat.zero_le _, Nat.zero_le _⟩ hP hK hDT hS h18 hl.1 (Nat.le_of_ble_eq_true rfl) dX9_walks_74 (fun H locs hP hS => ?_)
        refine lv_aload_n hx hb dX9_walks_77 rfl (lv_at hl 1 rfl) ?_
        refine M_g0_11 hx hb hA hown aF_RX9_22 hK hP dX9_walks_78 ?_
        refine lv_aload_n hx hb dX9_walks_81 rfl (lv_at hl 1 rfl) ?_
        refine M_g0_12 hx hb hA hown aF_RX9_152 hK hP dX9_walks_82 ?_
        refine lv_aload_n hx hb dX9_walks_85 rfl (lv_at hl 1 rfl) ?_
        refine M_g0_6 hx hb hA hown aF_RX9_136 hK hP dX9_walks_86 ?_
        obtain ⟨i19, h⟩ := oin_e h
        refine M_st5 hx hb hK hP (hDA _ _) hS i19 dX9_walks_89 (fun w20 H locs ew20 hP hS => ?_)
        replace h := olet_s ew20 h
        refine lv_aload_n hx hb dX9_walks_90 rfl (lv_at hl 1 rfl) ?_
        refine lv_dup hx hb dX9_walks_91 rfl ?_
        refine M_g0_12 hx hb hA hown aF_RX9_152 hK hP dX9_walks_92 ?_
        refine lv_iconst (v := 1) hx hb dX9_walks_95 (by decide) ?_
        refine lv_iadd hx hb dX9_walks_96 ?_
        refine M_p0_12 hx hb hA hown aF_RX9_152 hK hP (hDA _ _) hS dX9_walks_97 (fun w21 H locs ew21 hP hS => ?_)
        replace h := olet_s ew21 h
        refine lv_iload_n hx hb dX9_walks_100 rfl (lv_at hl 2 rfl) ?_
        refine lv_aload_n hx hb dX9_walks_101 rfl (lv_at hl 1 rfl) ?_
        refine M_g0_6 hx hb hA hown aF_RX9_136 hK hP dX9_walks_102 ?_
        refine lv_aload_n hx hb dX9_walks_105 rfl (lv_at hl 1 rfl) ?_
        refine M_g0_0 hx hb hA hown aF_RX9_7 hK hP dX9_walks_106 ?_
        refine lv_iconst (v := 0) hx hb dX9_walks_109 (by decide) ?_
        obtain ⟨i22, h⟩ := oin_e h
        refine M_ld1 hx hb hK hP i22 dX9_walks_110 ?_
        obtain ⟨r23, h24, h⟩ := obd_e h
        refine k_X9_stepOf S aM_RX9_114 ⟨Nat.le_of_ble_eq_true rfl, Nat.le_of_ble_eq_true rfl⟩ ⟨Nat.zero_le _, Nat.zero_le _⟩ h24 hl.1 (Nat.le_of_ble_eq_true rfl) dX9_walks_111 ?_
        refine lv_ixor hx hb dX9_walks_114 ?_
        refine lv_topi (fun x25 ex25 => ?_)
        replace h := olet_s ex25 h
        refine lv_istore_n (lv' := [(2, .int x25), (3, .int x14), (0, .ref (a 0))]) hx hb dX9_walks_115 rfl hl (by decide) rfl (fun ls hl => ?_)
        refine lv_aload_n hx hb dX9_walks_116 rfl (lv_at hl 2 rfl) ?_
        refine lv_iload_n hx hb dX9_walks_117 rfl (lv_at hl 0 rfl) ?_
        obtain ⟨r28, w26, h27, h⟩ := obd2_e h
        refine k_X9_settles S aM_RX9_159 ⟨Nat.le_of_ble_eq_true rfl, Nat.le_of_ble_eq_true rfl⟩ ⟨Nat.zero_le _, Nat.zero_le _⟩ hP hK hDT hS h27 hl.1 (Nat.le_of_ble_eq_true rfl) dX9_walks_118 (fun br28 H locs hP hS => ?_)
        refine lv_if_eq (tgt := 126) hx hb dX9_walks_121 (by decide) (fun hc => ?_) (fun hc => ?_)
        · replace h := oi_t hc h
          refine lv_goto (tgt := 32) hx hb dX9_walks_126 (by decide) ?_
          exact ih _ _ _ _ _  h hP hS (lv_sub hl [2, 0] rfl)
        · replace h := oi_f hc h
          refine lv_iconst (v := 1) hx hb dX9_walks_124 (by decide) ?_
          obtain ⟨rfl, rfl⟩ := os2 h
          exact W.zret (v := 1) (ty := .boolean) hx hb hr rfl (fun t ht hW => ⟨⟨_, (), rfl, ⟨rfl, (Or.inr rfl)⟩, by show va_P _ _ _ t.heap; rw [ht]; exact hP⟩, hS.F ht⟩) hS.2.2 dX9_walks_125
  have h := hF
  unfold G_X9_walks at h
  refine lv_iconst (v := 0) hx hb dX9_walks_0 (by decide) ?_
  refine lv_istore_n (lv' := [(2, .int 0), (0, .ref (a 0)), (1, .int p1)]) hx hb dX9_walks_1 rfl hl (by decide) rfl (fun ls hl => ?_)
  obtain ⟨w4, h5, h⟩ := obd_e h
  refine hL2 N _ _ _ _ _ _ _ h5 hP hS (lv_sub hl [1, 2, 0] rfl) (fun H locs ls hP hS hl => ?_)
  refine lv_iload_n hx hb dX9_walks_30 rfl (lv_at hl 1 rfl) ?_
  refine lv_istore_n (lv' := [(2, .int p1), (0, .ref (a 0)), (1, .int p1)]) hx hb dX9_walks_31 rfl hl (by decide) rfl (fun ls hl => ?_)
  exact hL32 N _ _ _ _ _ h hP hS (lv_sub hl [1, 0] rfl)
theorem k_X9_walks {p : Program} {l : Launch} {e : Env} {R : Room} {s : State} {m : MethodId} {args : Array Value} {below : List Frame} {meth : Method} {c : Code} {H : Heap} {locs : List Loc} {cells slots : Nat} {Q : State → Prop} {cc : ByteArray} {pc nL idx : Nat} {ls : Array Slot} {rest : List Value} {own : String} {D : va_G} {cI : ClassId} {a : Nat → Nat} {H0 : Heap} {N : Nat} {φ : M2} {p1 : Int32} {hv : Int64} {r0 : Int32} {φr : M2} (S : CallFix p m c cc nL s args AW own) (h1 : Cond.methodLink own idx yX9_walks ∈ AW) (hR : 4 + 1 ≤ R.frames ∧ 8 + (4 + 11) + 87 ≤ R.locals) (hc : cells ≤ R.cells ∧ slots ≤ R.slots) (hP : va_P D vwCl (mbW cI a φ hv) H) (hK : va_K D vwCl [(cI, .int)] s) (hDT : ∀ (φ2 : M2) (hv2 : Int64), va_D (fun _ => True) (mbW cI a φ2 hv2)) (hS : va_S (mbA a) H0 H locs) (hF : G_X9_walks N φ p1 = some (r0, φr)) (hsz : ls.size = nL) (hW : (rest.map fun v => v.category).sum ≤ 8) (hdg : decode cc pc = .ok (.invokevirtual idx, 3)) (kk : (r0 = 0 ∨ r0 = 1) → ∀ (H1 : Heap) (locs1 : List Loc), va_P D vwCl (mbW cI a φr hv) H1 → va_S (mbA a) H0 H1 locs1 → W p l e R s m args below meth c H1 locs1 cells slots Q (F0 m (pc + 3) ls (.int r0 :: rest))) : W p l e R s m args below meth c H locs cells slots Q (F0 m pc ls (.int p1 :: .ref (a 0) :: rest)) :=
  fm_runVi (n := 1) (C := RX9) (As := [.int p1]) S (c_X9_walks l D cI a N φ p1 hv r0 φr hF) (M_pre (q0 := 0) (ci := 7) hK hP (hDT _ _) rfl rfl) hS h1 aI_X9_walks aV_X9_walks aN_RX9 aC_X9_walks rfl rfl (by decide +kernel) rfl hR hc hsz hW hdg (fun r H1 locs1 hr hP1 hS1 => by obtain ⟨rfl, hz⟩ := hr; exact kk hz H1 locs1 hP1 hS1)
set_option maxHeartbeats 4000000 in
set_option maxRecDepth 100000 in
theorem c_X9_addEntry (l : Launch) (D : va_G) (cI : ClassId) (a : Nat → Nat) (N : Nat) (φ : M2) (p1 : Int32) (hv : Int64) (r0 : Int32) (φr : M2) (hF : G_X9_addEntry N φ p1 = some (r0, φr)) : Met l yX9_addEntry (wsA yX9_addEntry cX9_addEntry 4 (some .int)) { frames := 5, cells := 0, slots := 0, locals := 110 } (va_Pc [.ref (a 0), .int p1] (mbP D cI a φ hv)) (va_Qi (fun (r : Int32) (_ : Unit) => r = r0) (fun _ t => va_P D vwCl (mbW cI a φr hv) t.heap) (mbA a)) 0 0 (mbA a) := by
  refine Met.ofW (cc := cX9_addEntry) (maxL := 4) (ret := (some .int)) (by decide) rfl ?_
  intro p e s m args below meth c s₁ B hml hpre
  obtain ⟨rfl, hP, hK, hD0⟩ := hpre
  have hx := B.exec
  have hb := B.bytes
  have hr := B.returns
  have hA : ∀ w ∈ AW, w.before _ s = true := fun w h => atoms_spec (ws := wsA yX9_addEntry cX9_addEntry 4 (some .int)) B.pre w (List.mem_cons_of_mem _ h)
  have hown : s.vm.findClass RX9 = some m.cls := findClass_of_methodNamed B.named
  have hlocks := B.notSynchronized
  have hDT := M_dT hD0
  have hDA := M_dA hD0
  have hS : va_S (mbA a) s.heap s.heap [] := va_S.rf
  have S : CallFix p m c cX9_addEntry 4 s ([.ref (a 0), .int p1] : List Value).toArray AW RX9 := ⟨hx, hb, hml, hown, hA⟩
  have hl := lv_entry ([.ref (a 0), .int p1]) (n := 4) (Nat.le_of_ble_eq_true rfl)
  rw [lg_entry_eq]
  generalize (lg_sl ([.ref (a 0), .int p1]) ++ List.replicate (4 - (lg_sl ([.ref (a 0), .int p1])).length) Slot.unset).toArray = ls at hl ⊢
  have hl : lv_has ls 4 [(0, .ref (a 0)), (1, .int p1)] := hl
  have h := hF
  unfold G_X9_addEntry at h
  refine lv_aload_n hx hb dX9_addEntry_0 rfl (lv_at hl 0 rfl) ?_
  refine lv_iconst (v := 0) hx hb dX9_addEntry_1 (by decide) ?_
  refine M_p0_12 hx hb hA hown aF_RX9_152 hK hP (hDA _ _) hS dX9_addEntry_2 (fun w1 H locs ew1 hP hS => ?_)
  replace h := olet_s ew1 h
  refine lv_aload_n hx hb dX9_addEntry_5 rfl (lv_at hl 0 rfl) ?_
  refine lv_iload_n hx hb dX9_addEntry_6 rfl (lv_at hl 1 rfl) ?_
  obtain ⟨w2, h3, h⟩ := obd_e h
  refine k_X9_hold S aM_RX9_163 ⟨Nat.le_of_ble_eq_true rfl, Nat.le_of_ble_eq_true rfl⟩ ⟨Nat.zero_le _, Nat.zero_le _⟩ hP hK hDT hS h3 hl.1 (Nat.le_of_ble_eq_true rfl) dX9_addEntry_7 (fun H locs hP hS => ?_)
  refine lv_aload_n hx hb dX9_addEntry_10 rfl (lv_at hl 0 rfl) ?_
  refine M_g0_9 hx hb hA hown aF_RX9_145 hK hP dX9_addEntry_11 ?_
  refine lv_topi (fun x4 ex4 => ?_)
  replace h := olet_s ex4 h
  refine lv_istore_n (lv' := [(2, .int x4), (0, .ref (a 0)), (1, .int p1)]) hx hb dX9_addEntry_14 rfl hl (by decide) rfl (fun ls hl => ?_)
  refine lv_aload_n hx hb dX9_addEntry_15 rfl (lv_at hl 1 rfl) ?_
  refine lv_iload_n hx hb dX9_addEntry_16 rfl (lv_at hl 0 rfl) ?_
  obtain ⟨r7, w5, h6, h⟩ := obd2_e h
  refine k_X9_settles S aM_RX9_159 ⟨Nat.le_of_ble_eq_true rfl, Nat.le_of_ble_eq_true rfl⟩ ⟨Nat.zero_le _, Nat.zero_le _⟩ hP hK hDT hS h6 hl.1 (Nat.le_of_ble_eq_true rfl) dX9_addEntry_17 (fun br7 H locs hP hS => ?_)
  refine lv_if_ne (tgt := 35) hx hb dX9_addEntry_20 (by decide) (fun hc => ?_) (fun hc => ?_)
  · replace h := oi_f hc h
    refine lv_iconst (v := 0) hx hb dX9_addEntry_35 (by decide) ?_
    obtain ⟨rfl, rfl⟩ := os2 h
    exact W.iret (v := 0) hx hb hr (fun t ht hW => ⟨⟨_, (), rfl, rfl, by show va_P _ _ _ t.heap; rw [ht]; exact hP⟩, hS.F ht⟩) hS.2.2 dX9_addEntry_36
  · replace h := oi_t hc h
    refine lv_aload_n hx hb dX9_addEntry_23 rfl (lv_at hl 1 rfl) ?_
    refine lv_aload_n hx hb dX9_addEntry_24 rfl (lv_at hl 1 rfl) ?_
    refine lv_iload_n hx hb dX9_addEntry_25 rfl (lv_at hl 2 rfl) ?_
    obtain ⟨r8, h9, h⟩ := obd_e h
    refine k_X9_otherOf S aM_RX9_127 ⟨Nat.le_of_ble_eq_true rfl, Nat.le_of_ble_eq_true rfl⟩ ⟨Nat.zero_le _, Nat.zero_le _⟩ hP hK hDT h9 hl.1 (Nat.le_of_ble_eq_true rfl) dX9_addEntry_26 ?_
    obtain ⟨r12, w10, h11, h⟩ := obd2_e h
    refine k_X9_settles S aM_RX9_159 ⟨Nat.le_of_ble_eq_true rfl, Nat.le_of_ble_eq_true rfl⟩ ⟨Nat.zero_le _, Nat.zero_le _⟩ hP hK hDT hS h11 hl.1 (Nat.le_of_ble_eq_true rfl) dX9_addEntry_29 (fun br12 H locs hP hS => ?_)
    refine lv_if_eq (tgt := 37) hx hb dX9_addEntry_32 (by decide) (fun hc => ?_) (fun hc => ?_)
    · replace h := oi_t hc h
      refine lv_aload_n hx hb dX9_addEntry_37 rfl (lv_at hl 1 rfl) ?_
      refine lv_iload_n hx hb dX9_addEntry_38 rfl (lv_at hl 0 rfl) ?_
      obtain ⟨r15, w13, h14, h⟩ := obd2_e h
      refine k_X9_walks S aM_RX9_166 ⟨Nat.le_of_ble_eq_true rfl, Nat.le_of_ble_eq_true rfl⟩ ⟨Nat.zero_le _, Nat.zero_le _⟩ hP hK hDT hS h14 hl.1 (Nat.le_of_ble_eq_true rfl) dX9_addEntry_39 (fun br15 H locs hP hS => ?_)
      refine lv_if_eq (tgt := 50) hx hb dX9_addEntry_42 (by decide) (fun hc => ?_) (fun hc => ?_)
      · replace h := oi_t hc h
        refine lv_aload_n hx hb dX9_addEntry_50 rfl (lv_at hl 1 rfl) ?_
        refine M_g0_0 hx hb hA hown aF_RX9_7 hK hP dX9_addEntry_51 ?_
        refine lv_iconst (v := 5) hx hb dX9_addEntry_54 (by decide) ?_
        obtain ⟨i16, h⟩ := oin_e h
        refine M_ld1 hx hb hK hP i16 dX9_addEntry_55 ?_
        refine lv_iconst (v := 3) hx hb dX9_addEntry_56 (by decide) ?_
        refine lv_icmp_ne (tgt := 62) hx hb dX9_addEntry_57 (by decide) (fun hc => ?_) (fun hc => ?_)
        · replace h := oi_f hc h
          refine lv_bipush (v := 6) hx hb dX9_addEntry_62 (by decide) ?_
          refine lv_iconst (v := 4) hx hb dX9_addEntry_64 (by decide) ?_
          refine lv_aload_n hx hb dX9_addEntry_65 rfl (lv_at hl 1 rfl) ?_
          refine M_g0_0 hx hb hA hown aF_RX9_7 hK hP dX9_addEntry_66 ?_
          refine lv_iconst (v := 5) hx hb dX9_addEntry_69 (by decide) ?_
          obtain ⟨i17, h⟩ := oin_e h
          refine M_ld1 hx hb hK hP i17 dX9_addEntry_70 ?_
          refine lv_imul hx hb dX9_addEntry_71 ?_
          refine lv_iadd hx hb dX9_addEntry_72 ?_
          refine lv_topi (fun x18 ex18 => ?_)
          replace h := olet_s ex18 h
          refine lv_istore_n (lv' := [(3, .int x18), (2, .int x4), (0, .ref (a 0)), (1, .int p1)]) hx hb dX9_addEntry_73 rfl hl (by decide) rfl (fun ls hl => ?_)
          refine lv_aload_n hx hb dX9_addEntry_74 rfl (lv_at hl 2 rfl) ?_
          refine M_g0_0 hx hb hA hown aF_RX9_7 hK hP dX9_addEntry_75 ?_
          refine lv_iload_n hx hb dX9_addEntry_78 rfl (lv_at hl 0 rfl) ?_
          refine lv_aload_n hx hb dX9_addEntry_79 rfl (lv_at hl 2 rfl) ?_
          refine lv_iload_n hx hb dX9_addEntry_80 rfl (lv_at hl 3 rfl) ?_
          obtain ⟨r19, h20, h⟩ := obd_e h
          refine k_X9_tagOf S aM_RX9_111 ⟨Nat.le_of_ble_eq_true rfl, Nat.le_of_ble_eq_true rfl⟩ ⟨Nat.zero_le _, Nat.zero_le _⟩ hP hK hDT h20 hl.1 (Nat.le_of_ble_eq_true rfl) dX9_addEntry_81 ?_
          obtain ⟨i21, h⟩ := oin_e h
          refine M_st1 hx hb hK hP (hDA _ _) hS i21 dX9_addEntry_84 (fun w22 H locs ew22 hP hS => ?_)
          replace h := olet_s ew22 h
          refine lv_aload_n hx hb dX9_addEntry_85 rfl (lv_at hl 2 rfl) ?_
          refine M_g0_0 hx hb hA hown aF_RX9_7 hK hP dX9_addEntry_86 ?_
          refine lv_iload_n hx hb dX9_addEntry_89 rfl (lv_at hl 0 rfl) ?_
          refine lv_iconst (v := 1) hx hb dX9_addEntry_90 (by decide) ?_
          refine lv_iadd hx hb dX9_addEntry_91 ?_
          refine lv_aload_n hx hb dX9_addEntry_92 rfl (lv_at hl 2 rfl) ?_
          refine M_g0_0 hx hb hA hown aF_RX9_7 hK hP dX9_addEntry_93 ?_
          refine lv_iconst (v := 2) hx hb dX9_addEntry_96 (by decide) ?_
          obtain ⟨i23, h⟩ := oin_e h
          refine M_ld1 hx hb hK hP i23 dX9_addEntry_97 ?_
          obtain ⟨i24, h⟩ := oin_e h
          refine M_st1 hx hb hK hP (hDA _ _) hS i24 dX9_addEntry_98 (fun w25 H locs ew25 hP hS => ?_)
          replace h := olet_s ew25 h
          refine lv_aload_n hx hb dX9_addEntry_99 rfl (lv_at hl 2 rfl) ?_
          refine M_g0_0 hx hb hA hown aF_RX9_7 hK hP dX9_addEntry_100 ?_
          refine lv_iload_n hx hb dX9_addEntry_103 rfl (lv_at hl 0 rfl) ?_
          refine lv_iconst (v := 2) hx hb dX9_addEntry_104 (by decide) ?_
          refine lv_iadd hx hb dX9_addEntry_105 ?_
          refine lv_aload_n hx hb dX9_addEntry_106 rfl (lv_at hl 2 rfl) ?_
          refine lv_iload_n hx hb dX9_addEntry_107 rfl (lv_at hl 3 rfl) ?_
          refine lv_aload_n hx hb dX9_addEntry_108 rfl (lv_at hl 2 rfl) ?_
          refine M_g0_0 hx hb hA hown aF_RX9_7 hK hP dX9_addEntry_109 ?_
          refine lv_iconst (v := 2) hx hb dX9_addEntry_112 (by decide) ?_
          obtain ⟨i26, h⟩ := oin_e h
          refine M_ld1 hx hb hK hP i26 dX9_addEntry_113 ?_
          obtain ⟨r27, h28, h⟩ := obd_e h
          refine k_X9_printOf S aM_RX9_124 ⟨Nat.le_of_ble_eq_true rfl, Nat.le_of_ble_eq_true rfl⟩ ⟨Nat.zero_le _, Nat.zero_le _⟩ hP hK hDT h28 hl.1 (Nat.le_of_ble_eq_true rfl) dX9_addEntry_114 ?_
          obtain ⟨i29, h⟩ := oin_e h
          refine M_st1 hx hb hK hP (hDA _ _) hS i29 dX9_addEntry_117 (fun w30 H locs ew30 hP hS => ?_)
          replace h := olet_s ew30 h
          refine lv_aload_n hx hb dX9_addEntry_118 rfl (lv_at hl 2 rfl) ?_
          refine M_g0_0 hx hb hA hown aF_RX9_7 hK hP dX9_addEntry_119 ?_
          refine lv_iload_n hx hb dX9_addEntry_122 rfl (lv_at hl 0 rfl) ?_
          refine lv_iconst (v := 3) hx hb dX9_addEntry_123 (by decide) ?_
          refine lv_iadd hx hb dX9_addEntry_124 ?_
          refine lv_iload_n hx hb dX9_addEntry_125 rfl (lv_at hl 1 rfl) ?_
          obtain ⟨i31, h⟩ := oin_e h
          refine M_st1 hx hb hK hP (hDA _ _) hS i31 dX9_addEntry_126 (fun w32 H locs ew32 hP hS => ?_)
          replace h := olet_s ew32 h
          refine lv_aload_n hx hb dX9_addEntry_127 rfl (lv_at hl 2 rfl) ?_
          refine M_g0_0 hx hb hA hown aF_RX9_7 hK hP dX9_addEntry_128 ?_
          refine lv_iconst (v := 5) hx hb dX9_addEntry_131 (by decide) ?_
          refine lv_dup2_11 hx hb dX9_addEntry_132 rfl rfl ?_
          obtain ⟨i33, h⟩ := oin_e h
          refine M_ld1 hx hb hK hP i33 dX9_addEntry_133 ?_
          refine lv_iconst (v := 1) hx hb dX9_addEntry_134 (by decide) ?_
          refine lv_iadd hx hb dX9_addEntry_135 ?_
          obtain ⟨i34, h⟩ := oin_e h
          refine M_st1 hx hb hK hP (hDA _ _) hS i34 dX9_addEntry_136 (fun w35 H locs ew35 hP hS => ?_)
          replace h := olet_s ew35 h
          refine lv_bipush (v := 100) hx hb dX9_addEntry_137 (by decide) ?_
          obtain ⟨rfl, rfl⟩ := os2 h
          exact W.iret (v := 100) hx hb hr (fun t ht hW => ⟨⟨_, (), rfl, rfl, by show va_P _ _ _ t.heap; rw [ht]; exact hP⟩, hS.F ht⟩) hS.2.2 dX9_addEntry_139
        · replace h := oi_t hc h
          refine lv_iconst (v := (-1)) hx hb dX9_addEntry_60 (by decide) ?_
          obtain ⟨rfl, rfl⟩ := os2 h
          exact W.iret (v := (-1)) hx hb hr (fun t ht hW => ⟨⟨_, (), rfl, rfl, by show va_P _ _ _ t.heap; rw [ht]; exact hP⟩, hS.F ht⟩) hS.2.2 dX9_addEntry_61
      · replace h := oi_f hc h
        refine lv_aload_n hx hb dX9_addEntry_45 rfl (lv_at hl 1 rfl) ?_
        refine M_g0_12 hx hb hA hown aF_RX9_152 hK hP dX9_addEntry_46 ?_
        obtain ⟨rfl, rfl⟩ := os2 h
        exact W.iret (v := (w13 0 12)) hx hb hr (fun t ht hW => ⟨⟨_, (), rfl, rfl, by show va_P _ _ _ t.heap; rw [ht]; exact hP⟩, hS.F ht⟩) hS.2.2 dX9_addEntry_49
    · replace h := oi_f hc h
      refine lv_iconst (v := 0) hx hb dX9_addEntry_35 (by decide) ?_
      obtain ⟨rfl, rfl⟩ := os2 h
      exact W.iret (v := 0) hx hb hr (fun t ht hW => ⟨⟨_, (), rfl, rfl, by show va_P _ _ _ t.heap; rw [ht]; exact hP⟩, hS.F ht⟩) hS.2.2 dX9_addEntry_36
theorem k_X9_addEntry {p : Program} {l : Launch} {e : Env} {R : Room} {s : State} {m : MethodId} {args : Array Value} {below : List Frame} {meth : Method} {c : Code} {H : Heap} {locs : List Loc} {cells slots : Nat} {Q : State → Prop} {cc : ByteArray} {pc nL idx : Nat} {ls : Array Slot} {rest : List Value} {own : String} {D : va_G} {cI : ClassId} {a : Nat → Nat} {H0 : Heap} {N : Nat} {φ : M2} {p1 : Int32} {hv : Int64} {r0 : Int32} {φr : M2} (S : CallFix p m c cc nL s args AW own) (h1 : Cond.methodLink own idx yX9_addEntry ∈ AW) (hR : 5 + 1 ≤ R.frames ∧ 8 + (4 + 11) + 110 ≤ R.locals) (hc : cells ≤ R.cells ∧ slots ≤ R.slots) (hP : va_P D vwCl (mbW cI a φ hv) H) (hK : va_K D vwCl [(cI, .int)] s) (hDT : ∀ (φ2 : M2) (hv2 : Int64), va_D (fun _ => True) (mbW cI a φ2 hv2)) (hS : va_S (mbA a) H0 H locs) (hF : G_X9_addEntry N φ p1 = some (r0, φr)) (hsz : ls.size = nL) (hW : (rest.map fun v => v.category).sum ≤ 8) (hdg : decode cc pc = .ok (.invokevirtual idx, 3)) (kk : ∀ (H1 : Heap) (locs1 : List Loc), va_P D vwCl (mbW cI a φr hv) H1 → va_S (mbA a) H0 H1 locs1 → W p l e R s m args below meth c H1 locs1 cells slots Q (F0 m (pc + 3) ls (.int r0 :: rest))) : W p l e R s m args below meth c H locs cells slots Q (F0 m pc ls (.int p1 :: .ref (a 0) :: rest)) :=
  fm_runVi (n := 1) (C := RX9) (As := [.int p1]) S (c_X9_addEntry l D cI a N φ p1 hv r0 φr hF) (M_pre (q0 := 0) (ci := 7) hK hP (hDT _ _) rfl rfl) hS h1 aI_X9_addEntry aV_X9_addEntry aN_RX9 aC_X9_addEntry rfl rfl (by decide +kernel) rfl hR hc hsz hW hdg (fun r H1 locs1 hr hP1 hS1 => by subst hr; exact kk H1 locs1 hP1 hS1)
set_option maxHeartbeats 4000000 in
set_option maxRecDepth 100000 in
theorem c_X9_mayAdd (l : Launch) (D : va_G) (cI : ClassId) (a : Nat → Nat) (N : Nat) (φ : M2) (p1 : Int32) (hv : Int64) (r0 : Int32) (hF : G_X9_mayAdd N φ p1 = some r0) : Met l yX9_mayAdd (wsA yX9_mayAdd cX9_mayAdd 2 (some .boolean)) { frames := 1, cells := 0, slots := 0, locals := 22 } (va_Pc [.ref (a 0), .int p1] (mbP D cI a φ hv)) (vp_Si (fun r => r = r0 ∧ (r = 0 ∨ r = 1))) 0 0 (fun _ => False) := by
  refine Met.ofW (cc := cX9_mayAdd) (maxL := 2) (ret := (some .boolean)) (by decide) rfl ?_
  intro p e s m args below meth c s₁ B hml hpre
  obtain ⟨rfl, hP, hK, hD0⟩ := hpre
  have hx := B.exec
  have hb := B.bytes
  have hr := B.returns
  have hA : ∀ w ∈ AW, w.before _ s = true := fun w h => atoms_spec (ws := wsA yX9_mayAdd cX9_mayAdd 2 (some .boolean)) B.pre w (List.mem_cons_of_mem _ h)
  have hown : s.vm.findClass RX9 = some m.cls := findClass_of_methodNamed B.named
  have hlocks := B.notSynchronized
  have hDT := M_dT hD0
  have S : CallFix p m c cX9_mayAdd 2 s ([.ref (a 0), .int p1] : List Value).toArray AW RX9 := ⟨hx, hb, hml, hown, hA⟩
  have hl := lv_entry ([.ref (a 0), .int p1]) (n := 2) (Nat.le_of_ble_eq_true rfl)
  rw [lg_entry_eq]
  generalize (lg_sl ([.ref (a 0), .int p1]) ++ List.replicate (2 - (lg_sl ([.ref (a 0), .int p1])).length) Slot.unset).toArray = ls at hl ⊢
  have hl : lv_has ls 2 [(0, .ref (a 0)), (1, .int p1)] := hl
  have h := hF
  unfold G_X9_mayAdd at h
  refine lv_aload_n hx hb dX9_mayAdd_0 rfl (lv_at hl 0 rfl) ?_
  refine lv_iload_n hx hb dX9_mayAdd_1 rfl (lv_at hl 1 rfl) ?_
  obtain ⟨r1, h2, h⟩ := obd_e h
  refine k_X9_indexOf S aM_RX9_169 ⟨Nat.le_of_ble_eq_true rfl, Nat.le_of_ble_eq_true rfl⟩ ⟨Nat.zero_le _, Nat.zero_le _⟩ hP hK hDT h2 hl.1 (Nat.le_of_ble_eq_true rfl) dX9_mayAdd_2 ?_
  refine lv_iconst (v := (-1)) hx hb dX9_mayAdd_5 (by decide) ?_
  refine lv_icmp_ne (tgt := 26) hx hb dX9_mayAdd_6 (by decide) (fun hc => ?_) (fun hc => ?_)
  · replace h := oi_f hc h
    refine lv_iconst (v := 0) hx hb dX9_mayAdd_26 (by decide) ?_
    obtain rfl := os1 h
    exact W.zret (v := 0) (ty := .boolean) hx hb hr rfl (fun t ht hW => ⟨_, rfl, ⟨rfl, (Or.inl rfl)⟩, ht⟩) (fun q hq => absurd hq List.not_mem_nil) dX9_mayAdd_27
  · replace h := oi_t hc h
    refine lv_aload_n hx hb dX9_mayAdd_9 rfl (lv_at hl 0 rfl) ?_
    refine M_g0_0 hx hb hA hown aF_RX9_7 hK hP dX9_mayAdd_10 ?_
    refine lv_sipush (v := 1042) hx hb dX9_mayAdd_13 (by decide) ?_
    obtain ⟨i3, h⟩ := oin_e h
    refine M_ld1 hx hb hK hP i3 dX9_mayAdd_16 ?_
    refine lv_bipush (v := 120) hx hb dX9_mayAdd_17 (by decide) ?_
    refine lv_icmp_ge (tgt := 26) hx hb dX9_mayAdd_19 (by decide) (fun hc => ?_) (fun hc => ?_)
    · replace h := oi_t hc h
      refine lv_iconst (v := 0) hx hb dX9_mayAdd_26 (by decide) ?_
      obtain rfl := os1 h
      exact W.zret (v := 0) (ty := .boolean) hx hb hr rfl (fun t ht hW => ⟨_, rfl, ⟨rfl, (Or.inl rfl)⟩, ht⟩) (fun q hq => absurd hq List.not_mem_nil) dX9_mayAdd_27
    · replace h := oi_f hc h
      refine lv_iconst (v := 1) hx hb dX9_mayAdd_22 (by decide) ?_
      refine lv_goto (tgt := 27) hx hb dX9_mayAdd_23 (by decide) ?_
      obtain rfl := os1 h
      exact W.zret (v := 1) (ty := .boolean) hx hb hr rfl (fun t ht hW => ⟨_, rfl, ⟨rfl, (Or.inr rfl)⟩, ht⟩) (fun q hq => absurd hq List.not_mem_nil) dX9_mayAdd_27
theorem k_X9_mayAdd {p : Program} {l : Launch} {e : Env} {R : Room} {s : State} {m : MethodId} {args : Array Value} {below : List Frame} {meth : Method} {c : Code} {H : Heap} {locs : List Loc} {cells slots : Nat} {Q : State → Prop} {cc : ByteArray} {pc nL idx : Nat} {ls : Array Slot} {rest : List Value} {own : String} {D : va_G} {cI : ClassId} {a : Nat → Nat} {N : Nat} {φ : M2} {p1 : Int32} {hv : Int64} {r0 : Int32} (S : CallFix p m c cc nL s args AW own) (h1 : Cond.methodLink own idx yX9_mayAdd ∈ AW) (hR : 1 + 1 ≤ R.frames ∧ 8 + (2 + 11) + 22 ≤ R.locals) (hc : cells ≤ R.cells ∧ slots ≤ R.slots) (hP : va_P D vwCl (mbW cI a φ hv) H) (hK : va_K D vwCl [(cI, .int)] s) (hDT : ∀ (φ2 : M2) (hv2 : Int64), va_D (fun _ => True) (mbW cI a φ2 hv2)) (hF : G_X9_mayAdd N φ p1 = some r0) (hsz : ls.size = nL) (hW : (rest.map fun v => v.category).sum ≤ 8) (hdg : decode cc pc = .ok (.invokevirtual idx, 3)) (kk : (r0 = 0 ∨ r0 = 1) → W p l e R s m args below meth c H locs cells slots Q (F0 m (pc + 3) ls (.int r0 :: rest))) : W p l e R s m args below meth c H locs cells slots Q (F0 m pc ls (.int p1 :: .ref (a 0) :: rest)) :=
  fm_runV (n := 1) (C := RX9) (As := [.int p1]) S (c_X9_mayAdd l D cI a N φ p1 hv r0 hF) (M_pre (q0 := 0) (ci := 7) hK hP (hDT _ _) rfl rfl) h1 aI_X9_mayAdd aV_X9_mayAdd aN_RX9 aC_X9_mayAdd rfl rfl (by decide +kernel) rfl hR hc hsz hW hdg (fun r hr => by obtain ⟨rfl, hz⟩ := hr; exact kk hz)
set_option maxHeartbeats 4000000 in
set_option maxRecDepth 100000 in
theorem c_X9_noteKey (l : Launch) (D : va_G) (cI : ClassId) (a : Nat → Nat) (φ : M2) (p1 : Int32) (hv : Int64) (φr : M2) (hF : G_X9_noteKey φ p1 = some φr) : Met l yX9_noteKey (wsA yX9_noteKey cX9_noteKey 2 none) { frames := 0, cells := 0, slots := 0, locals := 0 } (va_Pc [.ref (a 0), .int p1] (mbP D cI a φ hv)) (va_Qv (fun (_ : Unit) => True) (fun _ t => va_P D vwCl (mbW cI a φr hv) t.heap) (mbA a)) 0 0 (mbA a) := by
  refine Met.ofW (cc := cX9_noteKey) (maxL := 2) (ret := none) (by decide) rfl ?_
  intro p e s m args below meth c s₁ B hml hpre
  obtain ⟨rfl, hP, hK, hD0⟩ := hpre
  have hx := B.exec
  have hb := B.bytes
  have hr := B.returns
  have hA : ∀ w ∈ AW, w.before _ s = true := fun w h => atoms_spec (ws := wsA yX9_noteKey cX9_noteKey 2 none) B.pre w (List.mem_cons_of_mem _ h)
  have hown : s.vm.findClass RX9 = some m.cls := findClass_of_methodNamed B.named
  have hlocks := B.notSynchronized
  have hDT := M_dT hD0
  have hDA := M_dA hD0
  have hS : va_S (mbA a) s.heap s.heap [] := va_S.rf
  have S : CallFix p m c cX9_noteKey 2 s ([.ref (a 0), .int p1] : List Value).toArray AW RX9 := ⟨hx, hb, hml, hown, hA⟩
  have hl := lv_entry ([.ref (a 0), .int p1]) (n := 2) (Nat.le_of_ble_eq_true rfl)
  rw [lg_entry_eq]
  generalize (lg_sl ([.ref (a 0), .int p1]) ++ List.replicate (2 - (lg_sl ([.ref (a 0), .int p1])).length) Slot.unset).toArray = ls at hl ⊢
  have hl : lv_has ls 2 [(0, .ref (a 0)), (1, .int p1)] := hl
  have h := hF
  unfold G_X9_noteKey at h
  refine lv_aload_n hx hb dX9_noteKey_0 rfl (lv_at hl 0 rfl) ?_
  refine M_g0_0 hx hb hA hown aF_RX9_7 hK hP dX9_noteKey_1 ?_
  refine lv_sipush (v := 1043) hx hb dX9_noteKey_4 (by decide) ?_
  refine lv_aload_n hx hb dX9_noteKey_7 rfl (lv_at hl 0 rfl) ?_
  refine M_g0_0 hx hb hA hown aF_RX9_7 hK hP dX9_noteKey_8 ?_
  refine lv_sipush (v := 1042) hx hb dX9_noteKey_11 (by decide) ?_
  obtain ⟨i1, h⟩ := oin_e h
  refine M_ld1 hx hb hK hP i1 dX9_noteKey_14 ?_
  refine lv_iadd hx hb dX9_noteKey_15 ?_
  refine lv_iload_n hx hb dX9_noteKey_16 rfl (lv_at hl 1 rfl) ?_
  obtain ⟨i2, h⟩ := oin_e h
  refine M_st1 hx hb hK hP (hDA _ _) hS i2 dX9_noteKey_17 (fun w3 H locs ew3 hP hS => ?_)
  replace h := olet_s ew3 h
  refine lv_aload_n hx hb dX9_noteKey_18 rfl (lv_at hl 0 rfl) ?_
  refine M_g0_0 hx hb hA hown aF_RX9_7 hK hP dX9_noteKey_19 ?_
  refine lv_sipush (v := 1042) hx hb dX9_noteKey_22 (by decide) ?_
  refine lv_dup2_11 hx hb dX9_noteKey_25 rfl rfl ?_
  obtain ⟨i4, h⟩ := oin_e h
  refine M_ld1 hx hb hK hP i4 dX9_noteKey_26 ?_
  refine lv_iconst (v := 1) hx hb dX9_noteKey_27 (by decide) ?_
  refine lv_iadd hx hb dX9_noteKey_28 ?_
  obtain ⟨i5, h⟩ := oin_e h
  refine M_st1 hx hb hK hP (hDA _ _) hS i5 dX9_noteKey_29 (fun w6 H locs ew6 hP hS => ?_)
  replace h := olet_s ew6 h
  obtain rfl := os1 h
  exact W.vret hx hb hr (fun t ht hW => ⟨⟨(), rfl, trivial, by show va_P _ _ _ t.heap; rw [ht]; exact hP⟩, hS.F ht⟩) hS.2.2 dX9_noteKey_30
theorem k_X9_noteKey {p : Program} {l : Launch} {e : Env} {R : Room} {s : State} {m : MethodId} {args : Array Value} {below : List Frame} {meth : Method} {c : Code} {H : Heap} {locs : List Loc} {cells slots : Nat} {Q : State → Prop} {cc : ByteArray} {pc nL idx : Nat} {ls : Array Slot} {rest : List Value} {own : String} {D : va_G} {cI : ClassId} {a : Nat → Nat} {H0 : Heap} {φ : M2} {p1 : Int32} {hv : Int64} {φr : M2} (S : CallFix p m c cc nL s args AW own) (h1 : Cond.methodLink own idx yX9_noteKey ∈ AW) (hR : 0 + 1 ≤ R.frames ∧ 8 + (2 + 11) + 0 ≤ R.locals) (hc : cells ≤ R.cells ∧ slots ≤ R.slots) (hP : va_P D vwCl (mbW cI a φ hv) H) (hK : va_K D vwCl [(cI, .int)] s) (hDT : ∀ (φ2 : M2) (hv2 : Int64), va_D (fun _ => True) (mbW cI a φ2 hv2)) (hS : va_S (mbA a) H0 H locs) (hF : G_X9_noteKey φ p1 = some φr) (hsz : ls.size = nL) (hW : (rest.map fun v => v.category).sum ≤ 8) (hdg : decode cc pc = .ok (.invokevirtual idx, 3)) (kk : ∀ (H1 : Heap) (locs1 : List Loc), va_P D vwCl (mbW cI a φr hv) H1 → va_S (mbA a) H0 H1 locs1 → W p l e R s m args below meth c H1 locs1 cells slots Q (F0 m (pc + 3) ls (rest))) : W p l e R s m args below meth c H locs cells slots Q (F0 m pc ls (.int p1 :: .ref (a 0) :: rest)) :=
  fm_runVv (n := 1) (C := RX9) (As := [.int p1]) S (c_X9_noteKey l D cI a φ p1 hv φr hF) (M_pre (q0 := 0) (ci := 7) hK hP (hDT _ _) rfl rfl) hS h1 aI_X9_noteKey aV_X9_noteKey aN_RX9 aC_X9_noteKey rfl rfl (by decide +kernel) rfl hR hc hsz hW hdg (fun H1 locs1 hP1 hS1 => kk H1 locs1 hP1 hS1)
set_option maxHeartbeats 4000000 in
set_option maxRecDepth 100000 in
theorem c_X9_reach (l : Launch) (D : va_G) (cI : ClassId) (a : Nat → Nat) (φ : M2) (p1 : Int32) (p2 : Int32) (p3 : Int32) (hv : Int64) (φr : M2) (hF : G_X9_reach φ p1 p2 p3 = some φr) : Met l yX9_reach (wsA yX9_reach cX9_reach 4 none) { frames := 0, cells := 0, slots := 0, locals := 0 } (va_Pc [.ref (a 0), .int p1, .int p2, .int p3] (mbP D cI a φ hv)) (va_Qv (fun (_ : Unit) => True) (fun _ t => va_P D vwCl (mbW cI a φr hv) t.heap) (mbA a)) 0 0 (mbA a) := by
  refine Met.ofW (cc := cX9_reach) (maxL := 4) (ret := none) (by decide) rfl ?_
  intro p e s m args below meth c s₁ B hml hpre
  obtain ⟨rfl, hP, hK, hD0⟩ := hpre
  have hx := B.exec
  have hb := B.bytes
  have hr := B.returns
  have hA : ∀ w ∈ AW, w.before _ s = true := fun w h => atoms_spec (ws := wsA yX9_reach cX9_reach 4 none) B.pre w (List.mem_cons_of_mem _ h)
  have hown : s.vm.findClass RX9 = some m.cls := findClass_of_methodNamed B.named
  have hlocks := B.notSynchronized
  have hDT := M_dT hD0
  have hDA := M_dA hD0
  have hS : va_S (mbA a) s.heap s.heap [] := va_S.rf
  have S : CallFix p m c cX9_reach 4 s ([.ref (a 0), .int p1, .int p2, .int p3] : List Value).toArray AW RX9 := ⟨hx, hb, hml, hown, hA⟩
  have hl := lv_entry ([.ref (a 0), .int p1, .int p2, .int p3]) (n := 4) (Nat.le_of_ble_eq_true rfl)
  rw [lg_entry_eq]
  generalize (lg_sl ([.ref (a 0), .int p1, .int p2, .int p3]) ++ List.replicate (4 - (lg_sl ([.ref (a 0), .int p1, .int p2, .int p3])).length) Slot.unset).toArray = ls at hl ⊢
  have hl : lv_has ls 4 [(0, .ref (a 0)), (1, .int p1), (2, .int p2), (3, .int p3)] := hl
  have h := hF
  unfold G_X9_reach at h
  refine lv_aload_n hx hb dX9_reach_0 rfl (lv_at hl 0 rfl) ?_
  refine M_g0_16 hx hb hA hown aF_RX9_31 hK hP dX9_reach_1 ?_
  refine lv_iload_n hx hb dX9_reach_4 rfl (lv_at hl 1 rfl) ?_
  obtain ⟨i1, h⟩ := oin_e h
  refine M_ld8 hx hb hK hP i1 dX9_reach_5 ?_
  refine lv_iconst (v := (-1)) hx hb dX9_reach_6 (by decide) ?_
  refine lv_icmp_ne (tgt := 44) hx hb dX9_reach_7 (by decide) (fun hc => ?_) (fun hc => ?_)
  · replace h := oi_f hc h
    obtain rfl := os1 h
    exact W.vret hx hb hr (fun t ht hW => ⟨⟨(), rfl, trivial, by show va_P _ _ _ t.heap; rw [ht]; exact hP⟩, hS.F ht⟩) hS.2.2 dX9_reach_44
  · replace h := oi_t hc h
    refine lv_aload_n hx hb dX9_reach_10 rfl (lv_at hl 0 rfl) ?_
    refine M_g0_16 hx hb hA hown aF_RX9_31 hK hP dX9_reach_11 ?_
    refine lv_iload_n hx hb dX9_reach_14 rfl (lv_at hl 1 rfl) ?_
    refine lv_iload_n hx hb dX9_reach_15 rfl (lv_at hl 2 rfl) ?_
    obtain ⟨i2, h⟩ := oin_e h
    refine M_st8 hx hb hK hP (hDA _ _) hS i2 dX9_reach_16 (fun w3 H locs ew3 hP hS => ?_)
    replace h := olet_s ew3 h
    refine lv_aload_n hx hb dX9_reach_17 rfl (lv_at hl 0 rfl) ?_
    refine M_g0_17 hx hb hA hown aF_RX9_34 hK hP dX9_reach_18 ?_
    refine lv_iload_n hx hb dX9_reach_21 rfl (lv_at hl 1 rfl) ?_
    refine lv_iload_n hx hb dX9_reach_22 rfl (lv_at hl 3 rfl) ?_
    obtain ⟨i4, h⟩ := oin_e h
    refine M_st9 hx hb hK hP (hDA _ _) hS i4 dX9_reach_23 (fun w5 H locs ew5 hP hS => ?_)
    replace h := olet_s ew5 h
    refine lv_aload_n hx hb dX9_reach_24 rfl (lv_at hl 0 rfl) ?_
    refine M_g0_14 hx hb hA hown aF_RX9_28 hK hP dX9_reach_25 ?_
    refine lv_aload_n hx hb dX9_reach_28 rfl (lv_at hl 0 rfl) ?_
    refine M_g0_15 hx hb hA hown aF_RX9_172 hK hP dX9_reach_29 ?_
    refine lv_iload_n hx hb dX9_reach_32 rfl (lv_at hl 1 rfl) ?_
    obtain ⟨i6, h⟩ := oin_e h
    refine M_st7 hx hb hK hP (hDA _ _) hS i6 dX9_reach_33 (fun w7 H locs ew7 hP hS => ?_)
    replace h := olet_s ew7 h
    refine lv_aload_n hx hb dX9_reach_34 rfl (lv_at hl 0 rfl) ?_
    refine lv_dup hx hb dX9_reach_35 rfl ?_
    refine M_g0_15 hx hb hA hown aF_RX9_172 hK hP dX9_reach_36 ?_
    refine lv_iconst (v := 1) hx hb dX9_reach_39 (by decide) ?_
    refine lv_iadd hx hb dX9_reach_40 ?_
    refine M_p0_15 hx hb hA hown aF_RX9_172 hK hP (hDA _ _) hS dX9_reach_41 (fun w8 H locs ew8 hP hS => ?_)
    replace h := olet_s ew8 h
    obtain rfl := os1 h
    exact W.vret hx hb hr (fun t ht hW => ⟨⟨(), rfl, trivial, by show va_P _ _ _ t.heap; rw [ht]; exact hP⟩, hS.F ht⟩) hS.2.2 dX9_reach_44
theorem k_X9_reach {p : Program} {l : Launch} {e : Env} {R : Room} {s : State} {m : MethodId} {args : Array Value} {below : List Frame} {meth : Method} {c : Code} {H : Heap} {locs : List Loc} {cells slots : Nat} {Q : State → Prop} {cc : ByteArray} {pc nL idx : Nat} {ls : Array Slot} {rest : List Value} {own : String} {D : va_G} {cI : ClassId} {a : Nat → Nat} {H0 : Heap} {φ : M2} {p1 : Int32} {p2 : Int32} {p3 : Int32} {hv : Int64} {φr : M2} (S : CallFix p m c cc nL s args AW own) (h1 : Cond.methodLink own idx yX9_reach ∈ AW) (hR : 0 + 1 ≤ R.frames ∧ 8 + (4 + 11) + 0 ≤ R.locals) (hc : cells ≤ R.cells ∧ slots ≤ R.slots) (hP : va_P D vwCl (mbW cI a φ hv) H) (hK : va_K D vwCl [(cI, .int)] s) (hDT : ∀ (φ2 : M2) (hv2 : Int64), va_D (fun _ => True) (mbW cI a φ2 hv2)) (hS : va_S (mbA a) H0 H locs) (hF : G_X9_reach φ p1 p2 p3 = some φr) (hsz : ls.size = nL) (hW : (rest.map fun v => v.category).sum ≤ 8) (hdg : decode cc pc = .ok (.invokevirtual idx, 3)) (kk : ∀ (H1 : Heap) (locs1 : List Loc), va_P D vwCl (mbW cI a φr hv) H1 → va_S (mbA a) H0 H1 locs1 → W p l e R s m args below meth c H1 locs1 cells slots Q (F0 m (pc + 3) ls (rest))) : W p l e R s m args below meth c H locs cells slots Q (F0 m pc ls (.int p3 :: .int p2 :: .int p1 :: .ref (a 0) :: rest)) :=
  fm_runVv (n := 3) (C := RX9) (As := [.int p1, .int p2, .int p3]) S (c_X9_reach l D cI a φ p1 p2 p3 hv φr hF) (M_pre (q0 := 0) (ci := 7) hK hP (hDT _ _) rfl rfl) hS h1 aI_X9_reach aV_X9_reach aN_RX9 aC_X9_reach rfl rfl (by decide +kernel) rfl hR hc hsz hW hdg (fun H1 locs1 hP1 hS1 => kk H1 locs1 hP1 hS1)
set_option maxHeartbeats 4000000 in
set_option maxRecDepth 100000 in
theorem c_X9_endOfChain (l : Launch) (D : va_G) (cI : ClassId) (a : Nat → Nat) (N : Nat) (φ : M2) (p1 : Int32) (hv : Int64) (r0 : Int32) (φr : M2) (hF : G_X9_endOfChain N φ p1 = some (r0, φr)) : Met l yX9_endOfChain (wsA yX9_endOfChain cX9_endOfChain 5 (some .int)) { frames := 4, cells := 0, slots := 0, locals := 86 } (va_Pc [.ref (a 0), .int p1] (mbP D cI a φ hv)) (va_Qi (fun (r : Int32) (_ : Unit) => r = r0) (fun _ t => va_P D vwCl (mbW cI a φr hv) t.heap) (mbA a)) 0 0 (mbA a) := by
  refine Met.ofW (cc := cX9_endOfChain) (maxL := 5) (ret := (some .int)) (by decide) rfl ?_
  intro p e s m args below meth c s₁ B hml hpre
  obtain ⟨rfl, hP, hK, hD0⟩ := hpre
  have hx := B.exec
  have hb := B.bytes
  have hr := B.returns
  have hA : ∀ w ∈ AW, w.before _ s = true := fun w h => atoms_spec (ws := wsA yX9_endOfChain cX9_endOfChain 5 (some .int)) B.pre w (List.mem_cons_of_mem _ h)
  have hown : s.vm.findClass RX9 = some m.cls := findClass_of_methodNamed B.named
  have hlocks := B.notSynchronized
  have hDT := M_dT hD0
  have hDA := M_dA hD0
  have hS : va_S (mbA a) s.heap s.heap [] := va_S.rf
  have S : CallFix p m c cX9_endOfChain 5 s ([.ref (a 0), .int p1] : List Value).toArray AW RX9 := ⟨hx, hb, hml, hown, hA⟩
  have hl := lv_entry ([.ref (a 0), .int p1]) (n := 5) (Nat.le_of_ble_eq_true rfl)
  rw [lg_entry_eq]
  generalize (lg_sl ([.ref (a 0), .int p1]) ++ List.replicate (5 - (lg_sl ([.ref (a 0), .int p1])).length) Slot.unset).toArray = ls at hl ⊢
  have hl : lv_has ls 5 [(0, .ref (a 0)), (1, .int p1)] := hl
  have hL7 : ∀ (k : Nat) (v1 : Int32) (v2 : Int32) (φ : M2) (H : Heap) (locs : List Loc) (ls : Array Slot) (φo : M2), L_X9_endOfChain_7 N v1 k v2 φ = some φo → va_P D vwCl (mbW cI a φ hv) H → va_S (mbA a) s.heap H locs → lv_has ls 5 [(0, .ref (a 0)), (1, .int v1), (2, .int v2)] → (∀ (H1 : Heap) (locs1 : List Loc) (ls1 : Array Slot), va_P D vwCl (mbW cI a φo hv) H1 → va_S (mbA a) s.heap H1 locs1 → lv_has ls1 5 [(0, .ref (a 0)), (1, .int v1)] → W p l e (headSpec (wsA yX9_endOfChain cX9_endOfChain 5 (some .int)) { frames := 4, cells := 0, slots := 0, locals := 86 }).room s m ([.ref (a 0), .int p1] : List Value).toArray below meth c H1 locs1 0 0 (MQ below (va_Qi (fun (r : Int32) (_ : Unit) => r = r0) (fun _ t => va_P D vwCl (mbW cI a φr hv) t.heap) (mbA a)) ([.ref (a 0), .int p1] : List Value).toArray s 0 0 (mbA a)) (F0 m 26 ls1 [])) → W p l e (headSpec (wsA yX9_endOfChain cX9_endOfChain 5 (some .int)) { frames := 4, cells := 0, slots := 0, locals := 86 }).room s m ([.ref (a 0), .int p1] : List Value).toArray below meth c H locs 0 0 (MQ below (va_Qi (fun (r : Int32) (_ : Unit) => r = r0) (fun _ t => va_P D vwCl (mbW cI a φr hv) t.heap) (mbA a)) ([.ref (a 0), .int p1] : List Value).toArray s 0 0 (mbA a)) (F0 m 7 ls []) := by
    intro k
    induction k with
    | zero =>
      intro v1 v2 φ H locs ls φo h hP hS hl kk
      exact no_s h
    | succ k ih =>
      intro v1 v2 φ H locs ls φo h hP hS hl kk
      replace h : B_X9_endOfChain_7 N v1 (L_X9_endOfChain_7 N v1 k) v2 φ = some φo := h
      unfold B_X9_endOfChain_7 at h
      refine lv_iload_n hx hb dX9_endOfChain_7 rfl (lv_at hl 2 rfl) ?_
      refine lv_bipush (v := 64) hx hb dX9_endOfChain_8 (by decide) ?_
      refine lv_icmp_ge (tgt := 26) hx hb dX9_endOfChain_10 (by decide) (fun hc => ?_) (fun hc => ?_)
      · replace h := oi_t hc h
        obtain rfl := os1 h
        exact kk _ _ _ hP hS (lv_sub hl [0, 1] rfl)
      · replace h := oi_f hc h
        refine lv_aload_n hx hb dX9_endOfChain_13 rfl (lv_at hl 0 rfl) ?_
        refine M_g0_16 hx hb hA hown aF_RX9_31 hK hP dX9_endOfChain_14 ?_
        refine lv_iload_n hx hb dX9_endOfChain_17 rfl (lv_at hl 2 rfl) ?_
        refine lv_iconst (v := (-1)) hx hb dX9_endOfChain_18 (by decide) ?_
        obtain ⟨i2, h⟩ := oin_e h
        refine M_st8 hx hb hK hP (hDA _ _) hS i2 dX9_endOfChain_19 (fun w3 H locs ew3 hP hS => ?_)
        replace h := olet_s ew3 h
        refine lv_iinc (v := v2 + 1) (lv' := [(2, .int (v2 + 1)), (0, .ref (a 0)), (1, .int v1)]) hx hb dX9_endOfChain_20 hl (k := 2) rfl (fm_inc _ _ _ (by decide)) (by decide) rfl (fun ls hl => ?_)
        refine lv_goto (tgt := 7) hx hb dX9_endOfChain_23 (by decide) ?_
        exact ih _ _ _ _ _ _ _ h hP hS (lv_sub hl [1, 2, 0] rfl) kk
  have hL79 : ∀ (k : Nat) (v2 : Int32) (v3 : Int32) (v4 : Int32) (φ : M2) (H : Heap) (locs : List Loc) (ls : Array Slot) (φo : M2), L_X9_endOfChain_79 N v2 v3 k v4 φ = some φo → va_P D vwCl (mbW cI a φ hv) H → va_S (mbA a) s.heap H locs → lv_has ls 5 [(0, .ref (a 0)), (2, .int v2), (3, .int v3), (4, .int v4)] → (∀ (H1 : Heap) (locs1 : List Loc) (ls1 : Array Slot), va_P D vwCl (mbW cI a φo hv) H1 → va_S (mbA a) s.heap H1 locs1 → lv_has ls1 5 [(0, .ref (a 0)), (2, .int v2)] → W p l e (headSpec (wsA yX9_endOfChain cX9_endOfChain 5 (some .int)) { frames := 4, cells := 0, slots := 0, locals := 86 }).room s m ([.ref (a 0), .int p1] : List Value).toArray below meth c H1 locs1 0 0 (MQ below (va_Qi (fun (r : Int32) (_ : Unit) => r = r0) (fun _ t => va_P D vwCl (mbW cI a φr hv) t.heap) (mbA a)) ([.ref (a 0), .int p1] : List Value).toArray s 0 0 (mbA a)) (F0 m 136 ls1 [])) → W p l e (headSpec (wsA yX9_endOfChain cX9_endOfChain 5 (some .int)) { frames := 4, cells := 0, slots := 0, locals := 86 }).room s m ([.ref (a 0), .int p1] : List Value).toArray below meth c H locs 0 0 (MQ below (va_Qi (fun (r : Int32) (_ : Unit) => r = r0) (fun _ t => va_P D vwCl (mbW cI a φr hv) t.heap) (mbA a)) ([.ref (a 0), .int p1] : List Value).toArray s 0 0 (mbA a)) (F0 m 79 ls []) := by
    intro k
    induction k with
    | zero =>
      intro v2 v3 v4 φ H locs ls φo h hP hS hl kk
      exact no_s h
    | succ k ih =>
      intro v2 v3 v4 φ H locs ls φo h hP hS hl kk
      replace h : B_X9_endOfChain_79 N v2 v3 (L_X9_endOfChain_79 N v2 v3 k) v4 φ = some φo := h
      unfold B_X9_endOfChain_79 at h
      refine lv_iload hx hb dX9_endOfChain_79 (lv_at hl 3 rfl) ?_
      refine lv_aload_n hx hb dX9_endOfChain_81 rfl (lv_at hl 0 rfl) ?_
      refine M_g0_0 hx hb hA hown aF_RX9_7 hK hP dX9_endOfChain_82 ?_
      refine lv_iconst (v := 1) hx hb dX9_endOfChain_85 (by decide) ?_
      obtain ⟨i18, h⟩ := oin_e h
      refine M_ld1 hx hb hK hP i18 dX9_endOfChain_86 ?_
      refine lv_icmp_ge (tgt := 136) hx hb dX9_endOfChain_87 (by decide) (fun hc => ?_) (fun hc => ?_)
      · replace h := oi_t hc h
        obtain rfl := os1 h
        exact kk _ _ _ hP hS (lv_sub hl [0, 1] rfl)
      · replace h := oi_f hc h
        refine lv_aload_n hx hb dX9_endOfChain_90 rfl (lv_at hl 0 rfl) ?_
        refine lv_iload_n hx hb dX9_endOfChain_91 rfl (lv_at hl 2 rfl) ?_
        refine lv_aload_n hx hb dX9_endOfChain_92 rfl (lv_at hl 0 rfl) ?_
        refine M_g0_0 hx hb hA hown aF_RX9_7 hK hP dX9_endOfChain_93 ?_
        refine lv_iload_n hx hb dX9_endOfChain_96 rfl (lv_at hl 2 rfl) ?_
        refine lv_iload hx hb dX9_endOfChain_97 (lv_at hl 3 rfl) ?_
        refine k_X9_at S aM_RX9_117 ⟨Nat.le_of_ble_eq_true rfl, Nat.le_of_ble_eq_true rfl⟩ ⟨Nat.zero_le _, Nat.zero_le _⟩ hl.1 (Nat.le_of_ble_eq_true rfl) dX9_endOfChain_99 (fun r19 er19 => ?_)
        replace h := olet_s er19 h
        obtain ⟨i20, h⟩ := oin_e h
        refine M_ld1 hx hb hK hP i20 dX9_endOfChain_102 ?_
        refine lv_aload_n hx hb dX9_endOfChain_103 rfl (lv_at hl 0 rfl) ?_
        refine M_g0_0 hx hb hA hown aF_RX9_7 hK hP dX9_endOfChain_104 ?_
        refine lv_iconst (v := 0) hx hb dX9_endOfChain_107 (by decide) ?_
        obtain ⟨i21, h⟩ := oin_e h
        refine M_ld1 hx hb hK hP i21 dX9_endOfChain_108 ?_
        obtain ⟨r22, h23, h⟩ := obd_e h
        refine k_X9_stepOf S aM_RX9_114 ⟨Nat.le_of_ble_eq_true rfl, Nat.le_of_ble_eq_true rfl⟩ ⟨Nat.zero_le _, Nat.zero_le _⟩ h23 hl.1 (Nat.le_of_ble_eq_true rfl) dX9_endOfChain_109 ?_
        refine lv_ixor hx hb dX9_endOfChain_112 ?_
        refine lv_aload_n hx hb dX9_endOfChain_113 rfl (lv_at hl 0 rfl) ?_
        refine M_g0_16 hx hb hA hown aF_RX9_31 hK hP dX9_endOfChain_114 ?_
        refine lv_iload_n hx hb dX9_endOfChain_117 rfl (lv_at hl 2 rfl) ?_
        obtain ⟨i24, h⟩ := oin_e h
        refine M_ld8 hx hb hK hP i24 dX9_endOfChain_118 ?_
        refine lv_iconst (v := 1) hx hb dX9_endOfChain_119 (by decide) ?_
        refine lv_iadd hx hb dX9_endOfChain_120 ?_
        refine lv_iconst (v := 4) hx hb dX9_endOfChain_121 (by decide) ?_
        refine lv_iload_n hx hb dX9_endOfChain_122 rfl (lv_at hl 2 rfl) ?_
        refine lv_imul hx hb dX9_endOfChain_123 ?_
        refine lv_iload hx hb dX9_endOfChain_124 (lv_at hl 3 rfl) ?_
        refine lv_iadd hx hb dX9_endOfChain_126 ?_
        obtain ⟨w25, h26, h⟩ := obd_e h
        refine k_X9_reach S aM_RX9_175 ⟨Nat.le_of_ble_eq_true rfl, Nat.le_of_ble_eq_true rfl⟩ ⟨Nat.zero_le _, Nat.zero_le _⟩ hP hK hDT hS h26 hl.1 (Nat.le_of_ble_eq_true rfl) dX9_endOfChain_127 (fun H locs hP hS => ?_)
        refine lv_iinc (v := v4 + 1) (lv' := [(4, .int (v4 + 1)), (0, .ref (a 0)), (2, .int v2), (3, .int v3)]) hx hb dX9_endOfChain_130 hl (k := 3) rfl (fm_inc _ _ _ (by decide)) (by decide) rfl (fun ls hl => ?_)
        refine lv_goto (tgt := 79) hx hb dX9_endOfChain_133 (by decide) ?_
        exact ih _ _ _ _ _ _ _ _ h hP hS (lv_sub hl [1, 2, 3, 0] rfl) kk
  have hL50 : ∀ (k : Nat) (v2 : Int32) (φ : M2) (H : Heap) (locs : List Loc) (ls : Array Slot) , L_X9_endOfChain_50 N k v2 φ = some (r0, φr) → va_P D vwCl (mbW cI a φ hv) H → va_S (mbA a) s.heap H locs → lv_has ls 5 [(0, .ref (a 0)), (2, .int v2)] → W p l e (headSpec (wsA yX9_endOfChain cX9_endOfChain 5 (some .int)) { frames := 4, cells := 0, slots := 0, locals := 86 }).room s m ([.ref (a 0), .int p1] : List Value).toArray below meth c H locs 0 0 (MQ below (va_Qi (fun (r : Int32) (_ : Unit) => r = r0) (fun _ t => va_P D vwCl (mbW cI a φr hv) t.heap) (mbA a)) ([.ref (a 0), .int p1] : List Value).toArray s 0 0 (mbA a)) (F0 m 50 ls []) := by
    intro k
    induction k with
    | zero =>
      intro v2 φ H locs ls h hP hS hl
      exact no_s h
    | succ k ih =>
      intro v2 φ H locs ls h hP hS hl
      replace h : B_X9_endOfChain_50 N (L_X9_endOfChain_50 N k) v2 φ = some (r0, φr) := h
      unfold B_X9_endOfChain_50 at h
      refine lv_iload_n hx hb dX9_endOfChain_50 rfl (lv_at hl 1 rfl) ?_
      refine lv_aload_n hx hb dX9_endOfChain_51 rfl (lv_at hl 0 rfl) ?_
      refine M_g0_15 hx hb hA hown aF_RX9_172 hK hP dX9_endOfChain_52 ?_
      refine lv_icmp_ge (tgt := 142) hx hb dX9_endOfChain_55 (by decide) (fun hc => ?_) (fun hc => ?_)
      · replace h := oi_t hc h
        refine lv_iconst (v := (-1)) hx hb dX9_endOfChain_142 (by decide) ?_
        obtain ⟨rfl, rfl⟩ := os2 h
        exact W.iret (v := (-1)) hx hb hr (fun t ht hW => ⟨⟨_, (), rfl, rfl, by show va_P _ _ _ t.heap; rw [ht]; exact hP⟩, hS.F ht⟩) hS.2.2 dX9_endOfChain_143
      · replace h := oi_f hc h
        refine lv_aload_n hx hb dX9_endOfChain_58 rfl (lv_at hl 0 rfl) ?_
        refine M_g0_14 hx hb hA hown aF_RX9_28 hK hP dX9_endOfChain_59 ?_
        refine lv_iload_n hx hb dX9_endOfChain_62 rfl (lv_at hl 1 rfl) ?_
        obtain ⟨i14, h⟩ := oin_e h
        refine M_ld7 hx hb hK hP i14 dX9_endOfChain_63 ?_
        refine lv_topi (fun x15 ex15 => ?_)
        replace h := olet_s ex15 h
        refine lv_istore_n (lv' := [(3, .int x15), (0, .ref (a 0)), (2, .int v2)]) hx hb dX9_endOfChain_64 rfl hl (by decide) rfl (fun ls hl => ?_)
        refine lv_aload_n hx hb dX9_endOfChain_65 rfl (lv_at hl 1 rfl) ?_
        refine lv_iload_n hx hb dX9_endOfChain_66 rfl (lv_at hl 0 rfl) ?_
        obtain ⟨r16, h17, h⟩ := obd_e h
        refine k_X9_room S aM_RX9_133 ⟨Nat.le_of_ble_eq_true rfl, Nat.le_of_ble_eq_true rfl⟩ ⟨Nat.zero_le _, Nat.zero_le _⟩ hP hK hDT h17 hl.1 (Nat.le_of_ble_eq_true rfl) dX9_endOfChain_67 ?_
        refine lv_iconst (v := (-1)) hx hb dX9_endOfChain_70 (by decide) ?_
        refine lv_icmp_eq (tgt := 76) hx hb dX9_endOfChain_71 (by decide) (fun hc => ?_) (fun hc => ?_)
        · replace h := oi_t hc h
          refine lv_iconst (v := 0) hx hb dX9_endOfChain_76 (by decide) ?_
          refine lv_istore (lv' := [(4, .int 0), (3, .int x15), (0, .ref (a 0)), (2, .int v2)]) hx hb dX9_endOfChain_77 hl (by decide) rfl (fun ls hl => ?_)
          obtain ⟨w27, h28, h⟩ := obd_e h
          refine hL79 N _ _ _ _ _ _ _ _ h28 hP hS (lv_sub hl [2, 3, 1, 0] rfl) (fun H locs ls hP hS hl => ?_)
          refine lv_iinc (v := v2 + 1) (lv' := [(2, .int (v2 + 1)), (0, .ref (a 0))]) hx hb dX9_endOfChain_136 hl (k := 1) rfl (fm_inc _ _ _ (by decide)) (by decide) rfl (fun ls hl => ?_)
          refine lv_goto (tgt := 50) hx hb dX9_endOfChain_139 (by decide) ?_
          exact ih _ _ _ _ _  h hP hS (lv_sub hl [1, 0] rfl)
        · replace h := oi_f hc h
          refine lv_iload_n hx hb dX9_endOfChain_74 rfl (lv_at hl 0 rfl) ?_
          obtain ⟨rfl, rfl⟩ := os2 h
          exact W.iret (v := x15) hx hb hr (fun t ht hW => ⟨⟨_, (), rfl, rfl, by show va_P _ _ _ t.heap; rw [ht]; exact hP⟩, hS.F ht⟩) hS.2.2 dX9_endOfChain_75
  have h := hF
  unfold G_X9_endOfChain at h
  refine lv_aload_n hx hb dX9_endOfChain_0 rfl (lv_at hl 0 rfl) ?_
  refine lv_iconst (v := 0) hx hb dX9_endOfChain_1 (by decide) ?_
  refine M_p0_15 hx hb hA hown aF_RX9_172 hK hP (hDA _ _) hS dX9_endOfChain_2 (fun w1 H locs ew1 hP hS => ?_)
  replace h := olet_s ew1 h
  refine lv_iconst (v := 0) hx hb dX9_endOfChain_5 (by decide) ?_
  refine lv_istore_n (lv' := [(2, .int 0), (0, .ref (a 0)), (1, .int p1)]) hx hb dX9_endOfChain_6 rfl hl (by decide) rfl (fun ls hl => ?_)
  obtain ⟨w4, h5, h⟩ := obd_e h
  refine hL7 N _ _ _ _ _ _ _ h5 hP hS (lv_sub hl [1, 2, 0] rfl) (fun H locs ls hP hS hl => ?_)
  refine lv_aload_n hx hb dX9_endOfChain_26 rfl (lv_at hl 0 rfl) ?_
  refine lv_aload_n hx hb dX9_endOfChain_27 rfl (lv_at hl 0 rfl) ?_
  refine lv_iload_n hx hb dX9_endOfChain_28 rfl (lv_at hl 1 rfl) ?_
  obtain ⟨r6, h7, h⟩ := obd_e h
  refine k_X9_homeOf S aM_RX9_108 ⟨Nat.le_of_ble_eq_true rfl, Nat.le_of_ble_eq_true rfl⟩ ⟨Nat.zero_le _, Nat.zero_le _⟩ hP hK hDT h7 hl.1 (Nat.le_of_ble_eq_true rfl) dX9_endOfChain_29 ?_
  refine lv_iconst (v := 0) hx hb dX9_endOfChain_32 (by decide) ?_
  refine lv_iconst (v := (-1)) hx hb dX9_endOfChain_33 (by decide) ?_
  obtain ⟨w8, h9, h⟩ := obd_e h
  refine k_X9_reach S aM_RX9_175 ⟨Nat.le_of_ble_eq_true rfl, Nat.le_of_ble_eq_true rfl⟩ ⟨Nat.zero_le _, Nat.zero_le _⟩ hP hK hDT hS h9 hl.1 (Nat.le_of_ble_eq_true rfl) dX9_endOfChain_34 (fun H locs hP hS => ?_)
  refine lv_aload_n hx hb dX9_endOfChain_37 rfl (lv_at hl 0 rfl) ?_
  refine lv_aload_n hx hb dX9_endOfChain_38 rfl (lv_at hl 0 rfl) ?_
  refine lv_iload_n hx hb dX9_endOfChain_39 rfl (lv_at hl 1 rfl) ?_
  obtain ⟨r10, h11, h⟩ := obd_e h
  refine k_X9_otherOf S aM_RX9_127 ⟨Nat.le_of_ble_eq_true rfl, Nat.le_of_ble_eq_true rfl⟩ ⟨Nat.zero_le _, Nat.zero_le _⟩ hP hK hDT h11 hl.1 (Nat.le_of_ble_eq_true rfl) dX9_endOfChain_40 ?_
  refine lv_iconst (v := 0) hx hb dX9_endOfChain_43 (by decide) ?_
  refine lv_iconst (v := (-1)) hx hb dX9_endOfChain_44 (by decide) ?_
  obtain ⟨w12, h13, h⟩ := obd_e h
  refine k_X9_reach S aM_RX9_175 ⟨Nat.le_of_ble_eq_true rfl, Nat.le_of_ble_eq_true rfl⟩ ⟨Nat.zero_le _, Nat.zero_le _⟩ hP hK hDT hS h13 hl.1 (Nat.le_of_ble_eq_true rfl) dX9_endOfChain_45 (fun H locs hP hS => ?_)
  refine lv_iconst (v := 0) hx hb dX9_endOfChain_48 (by decide) ?_
  refine lv_istore_n (lv' := [(2, .int 0), (0, .ref (a 0)), (1, .int p1)]) hx hb dX9_endOfChain_49 rfl hl (by decide) rfl (fun ls hl => ?_)
  exact hL50 N _ _ _ _ _ h hP hS (lv_sub hl [1, 0] rfl)
theorem k_X9_endOfChain {p : Program} {l : Launch} {e : Env} {R : Room} {s : State} {m : MethodId} {args : Array Value} {below : List Frame} {meth : Method} {c : Code} {H : Heap} {locs : List Loc} {cells slots : Nat} {Q : State → Prop} {cc : ByteArray} {pc nL idx : Nat} {ls : Array Slot} {rest : List Value} {own : String} {D : va_G} {cI : ClassId} {a : Nat → Nat} {H0 : Heap} {N : Nat} {φ : M2} {p1 : Int32} {hv : Int64} {r0 : Int32} {φr : M2} (S : CallFix p m c cc nL s args AW own) (h1 : Cond.methodLink own idx yX9_endOfChain ∈ AW) (hR : 4 + 1 ≤ R.frames ∧ 8 + (5 + 11) + 86 ≤ R.locals) (hc : cells ≤ R.cells ∧ slots ≤ R.slots) (hP : va_P D vwCl (mbW cI a φ hv) H) (hK : va_K D vwCl [(cI, .int)] s) (hDT : ∀ (φ2 : M2) (hv2 : Int64), va_D (fun _ => True) (mbW cI a φ2 hv2)) (hS : va_S (mbA a) H0 H locs) (hF : G_X9_endOfChain N φ p1 = some (r0, φr)) (hsz : ls.size = nL) (hW : (rest.map fun v => v.category).sum ≤ 8) (hdg : decode cc pc = .ok (.invokevirtual idx, 3)) (kk : ∀ (H1 : Heap) (locs1 : List Loc), va_P D vwCl (mbW cI a φr hv) H1 → va_S (mbA a) H0 H1 locs1 → W p l e R s m args below meth c H1 locs1 cells slots Q (F0 m (pc + 3) ls (.int r0 :: rest))) : W p l e R s m args below meth c H locs cells slots Q (F0 m pc ls (.int p1 :: .ref (a 0) :: rest)) :=
  fm_runVi (n := 1) (C := RX9) (As := [.int p1]) S (c_X9_endOfChain l D cI a N φ p1 hv r0 φr hF) (M_pre (q0 := 0) (ci := 7) hK hP (hDT _ _) rfl rfl) hS h1 aI_X9_endOfChain aV_X9_endOfChain aN_RX9 aC_X9_endOfChain rfl rfl (by decide +kernel) rfl hR hc hsz hW hdg (fun r H1 locs1 hr hP1 hS1 => by subst hr; exact kk H1 locs1 hP1 hS1)
set_option maxHeartbeats 4000000 in
set_option maxRecDepth 100000 in
theorem c_X9_moveChain (l : Launch) (D : va_G) (cI : ClassId) (a : Nat → Nat) (N : Nat) (φ : M2) (p1 : Int32) (p2 : Int32) (hv : Int64) (φr : M2) (hF : G_X9_moveChain N φ p1 p2 = some φr) : Met l yX9_moveChain (wsA yX9_moveChain cX9_moveChain 6 none) { frames := 4, cells := 0, slots := 0, locals := 87 } (va_Pc [.ref (a 0), .int p1, .int p2] (mbP D cI a φ hv)) (va_Qv (fun (_ : Unit) => True) (fun _ t => va_P D vwCl (mbW cI a φr hv) t.heap) (mbA a)) 0 0 (mbA a) := by
  refine Met.ofW (cc := cX9_moveChain) (maxL := 6) (ret := none) (by decide) rfl ?_
  intro p e s m args below meth c s₁ B hml hpre
  obtain ⟨rfl, hP, hK, hD0⟩ := hpre
  have hx := B.exec
  have hb := B.bytes
  have hr := B.returns
  have hA : ∀ w ∈ AW, w.before _ s = true := fun w h => atoms_spec (ws := wsA yX9_moveChain cX9_moveChain 6 none) B.pre w (List.mem_cons_of_mem _ h)
  have hown : s.vm.findClass RX9 = some m.cls := findClass_of_methodNamed B.named
  have hlocks := B.notSynchronized
  have hDT := M_dT hD0
  have hDA := M_dA hD0
  have hS : va_S (mbA a) s.heap s.heap [] := va_S.rf
  have S : CallFix p m c cX9_moveChain 6 s ([.ref (a 0), .int p1, .int p2] : List Value).toArray AW RX9 := ⟨hx, hb, hml, hown, hA⟩
  have hl := lv_entry ([.ref (a 0), .int p1, .int p2]) (n := 6) (Nat.le_of_ble_eq_true rfl)
  rw [lg_entry_eq]
  generalize (lg_sl ([.ref (a 0), .int p1, .int p2]) ++ List.replicate (6 - (lg_sl ([.ref (a 0), .int p1, .int p2])).length) Slot.unset).toArray = ls at hl ⊢
  have hl : lv_has ls 6 [(0, .ref (a 0)), (1, .int p1), (2, .int p2)] := hl
  have hL9 : ∀ (k : Nat) (v1 : Int32) (v3 : Int32) (v4 : Int32) (φ : M2) (H : Heap) (locs : List Loc) (ls : Array Slot) (o3 : Int32) (o4 : Int32) (φo : M2), L_X9_moveChain_9 N v1 k v3 v4 φ = some (o3, o4, φo) → va_P D vwCl (mbW cI a φ hv) H → va_S (mbA a) s.heap H locs → lv_has ls 6 [(0, .ref (a 0)), (1, .int v1), (3, .int v3), (4, .int v4)] → (∀ (H1 : Heap) (locs1 : List Loc) (ls1 : Array Slot), va_P D vwCl (mbW cI a φo hv) H1 → va_S (mbA a) s.heap H1 locs1 → lv_has ls1 6 [(0, .ref (a 0)), (1, .int v1), (3, .int o3), (4, .int o4)] → W p l e (headSpec (wsA yX9_moveChain cX9_moveChain 6 none) { frames := 4, cells := 0, slots := 0, locals := 87 }).room s m ([.ref (a 0), .int p1, .int p2] : List Value).toArray below meth c H1 locs1 0 0 (MQ below (va_Qv (fun (_ : Unit) => True) (fun _ t => va_P D vwCl (mbW cI a φr hv) t.heap) (mbA a)) ([.ref (a 0), .int p1, .int p2] : List Value).toArray s 0 0 (mbA a)) (F0 m 105 ls1 [])) → W p l e (headSpec (wsA yX9_moveChain cX9_moveChain 6 none) { frames := 4, cells := 0, slots := 0, locals := 87 }).room s m ([.ref (a 0), .int p1, .int p2] : List Value).toArray below meth c H locs 0 0 (MQ below (va_Qv (fun (_ : Unit) => True) (fun _ t => va_P D vwCl (mbW cI a φr hv) t.heap) (mbA a)) ([.ref (a 0), .int p1, .int p2] : List Value).toArray s 0 0 (mbA a)) (F0 m 9 ls []) := by
    intro k
    induction k with
    | zero =>
      intro v1 v3 v4 φ H locs ls o3 o4 φo h hP hS hl kk
      exact no_s h
    | succ k ih =>
      intro v1 v3 v4 φ H locs ls o3 o4 φo h hP hS hl kk
      replace h : B_X9_moveChain_9 N v1 (L_X9_moveChain_9 N v1 k) v3 v4 φ = some (o3, o4, φo) := h
      unfold B_X9_moveChain_9 at h
      refine lv_aload_n hx hb dX9_moveChain_9 rfl (lv_at hl 0 rfl) ?_
      refine M_g0_17 hx hb hA hown aF_RX9_34 hK hP dX9_moveChain_10 ?_
      refine lv_iload_n hx hb dX9_moveChain_13 rfl (lv_at hl 2 rfl) ?_
      obtain ⟨i3, h⟩ := oin_e h
      refine M_ld9 hx hb hK hP i3 dX9_moveChain_14 ?_
      refine lv_iconst (v := (-1)) hx hb dX9_moveChain_15 (by decide) ?_
      refine lv_icmp_eq (tgt := 105) hx hb dX9_moveChain_16 (by decide) (fun hc => ?_) (fun hc => ?_)
      · replace h := oi_t hc h
        obtain ⟨rfl, rfl, rfl⟩ := os3 h
        exact kk _ _ _ hP hS (lv_sub hl [0, 1, 2, 3] rfl)
      · replace h := oi_f hc h
        refine lv_aload_n hx hb dX9_moveChain_19 rfl (lv_at hl 0 rfl) ?_
        refine M_g0_17 hx hb hA hown aF_RX9_34 hK hP dX9_moveChain_20 ?_
        refine lv_iload_n hx hb dX9_moveChain_23 rfl (lv_at hl 2 rfl) ?_
        obtain ⟨i4, h⟩ := oin_e h
        refine M_ld9 hx hb hK hP i4 dX9_moveChain_24 ?_
        refine lv_iconst (v := 4) hx hb dX9_moveChain_25 (by decide) ?_
        refine lv_idiv hx hb dX9_moveChain_26 (by decide) ?_
        refine lv_aload_n hx hb dX9_moveChain_27 rfl (lv_at hl 0 rfl) ?_
        refine M_g0_17 hx hb hA hown aF_RX9_34 hK hP dX9_moveChain_28 ?_
        refine lv_iload_n hx hb dX9_moveChain_31 rfl (lv_at hl 2 rfl) ?_
        obtain ⟨i5, h⟩ := oin_e h
        refine M_ld9 hx hb hK hP i5 dX9_moveChain_32 ?_
        refine lv_iconst (v := 4) hx hb dX9_moveChain_33 (by decide) ?_
        refine lv_irem hx hb dX9_moveChain_34 (by decide) ?_
        refine k_X9_at S aM_RX9_117 ⟨Nat.le_of_ble_eq_true rfl, Nat.le_of_ble_eq_true rfl⟩ ⟨Nat.zero_le _, Nat.zero_le _⟩ hl.1 (Nat.le_of_ble_eq_true rfl) dX9_moveChain_35 (fun r6 er6 => ?_)
        replace h := olet_s er6 h
        refine lv_istore (lv' := [(5, .int r6), (0, .ref (a 0)), (1, .int v1), (3, .int v3), (4, .int v4)]) hx hb dX9_moveChain_38 hl (by decide) rfl (fun ls hl => ?_)
        refine lv_aload_n hx hb dX9_moveChain_40 rfl (lv_at hl 1 rfl) ?_
        refine lv_iload_n hx hb dX9_moveChain_41 rfl (lv_at hl 3 rfl) ?_
        refine lv_iload hx hb dX9_moveChain_42 (lv_at hl 4 rfl) ?_
        refine lv_aload_n hx hb dX9_moveChain_44 rfl (lv_at hl 1 rfl) ?_
        refine M_g0_0 hx hb hA hown aF_RX9_7 hK hP dX9_moveChain_45 ?_
        refine lv_iload hx hb dX9_moveChain_48 (lv_at hl 0 rfl) ?_
        obtain ⟨i7, h⟩ := oin_e h
        refine M_ld1 hx hb hK hP i7 dX9_moveChain_50 ?_
        refine lv_aload_n hx hb dX9_moveChain_51 rfl (lv_at hl 1 rfl) ?_
        refine M_g0_0 hx hb hA hown aF_RX9_7 hK hP dX9_moveChain_52 ?_
        refine lv_iload hx hb dX9_moveChain_55 (lv_at hl 0 rfl) ?_
        refine lv_iconst (v := 1) hx hb dX9_moveChain_57 (by decide) ?_
        refine lv_iadd hx hb dX9_moveChain_58 ?_
        obtain ⟨i8, h⟩ := oin_e h
        refine M_ld1 hx hb hK hP i8 dX9_moveChain_59 ?_
        refine lv_aload_n hx hb dX9_moveChain_60 rfl (lv_at hl 1 rfl) ?_
        refine M_g0_0 hx hb hA hown aF_RX9_7 hK hP dX9_moveChain_61 ?_
        refine lv_iload hx hb dX9_moveChain_64 (lv_at hl 0 rfl) ?_
        refine lv_iconst (v := 2) hx hb dX9_moveChain_66 (by decide) ?_
        refine lv_iadd hx hb dX9_moveChain_67 ?_
        obtain ⟨i9, h⟩ := oin_e h
        refine M_ld1 hx hb hK hP i9 dX9_moveChain_68 ?_
        refine lv_iconst (v := 1) hx hb dX9_moveChain_69 (by decide) ?_
        refine lv_aload_n hx hb dX9_moveChain_70 rfl (lv_at hl 1 rfl) ?_
        refine M_g0_0 hx hb hA hown aF_RX9_7 hK hP dX9_moveChain_71 ?_
        refine lv_iload hx hb dX9_moveChain_74 (lv_at hl 0 rfl) ?_
        refine lv_iconst (v := 3) hx hb dX9_moveChain_76 (by decide) ?_
        refine lv_iadd hx hb dX9_moveChain_77 ?_
        obtain ⟨i10, h⟩ := oin_e h
        refine M_ld1 hx hb hK hP i10 dX9_moveChain_78 ?_
        refine lv_isub hx hb dX9_moveChain_79 ?_
        obtain ⟨w11, h12, h⟩ := obd_e h
        refine k_X9_put S aM_RX9_148 ⟨Nat.le_of_ble_eq_true rfl, Nat.le_of_ble_eq_true rfl⟩ ⟨Nat.zero_le _, Nat.zero_le _⟩ hP hK hDT hS h12 hl.1 (Nat.le_of_ble_eq_true rfl) dX9_moveChain_80 (fun H locs hP hS => ?_)
        refine lv_aload_n hx hb dX9_moveChain_83 rfl (lv_at hl 1 rfl) ?_
        refine M_g0_17 hx hb hA hown aF_RX9_34 hK hP dX9_moveChain_84 ?_
        refine lv_iload_n hx hb dX9_moveChain_87 rfl (lv_at hl 3 rfl) ?_
        obtain ⟨i13, h⟩ := oin_e h
        refine M_ld9 hx hb hK hP i13 dX9_moveChain_88 ?_
        refine lv_iconst (v := 4) hx hb dX9_moveChain_89 (by decide) ?_
        refine lv_irem hx hb dX9_moveChain_90 (by decide) ?_
        refine lv_topi (fun x14 ex14 => ?_)
        replace h := olet_s ex14 h
        refine lv_istore (lv' := [(4, .int x14), (5, .int r6), (0, .ref (a 0)), (1, .int v1), (3, .int v3)]) hx hb dX9_moveChain_91 hl (by decide) rfl (fun ls hl => ?_)
        refine lv_aload_n hx hb dX9_moveChain_93 rfl (lv_at hl 2 rfl) ?_
        refine M_g0_17 hx hb hA hown aF_RX9_34 hK hP dX9_moveChain_94 ?_
        refine lv_iload_n hx hb dX9_moveChain_97 rfl (lv_at hl 4 rfl) ?_
        obtain ⟨i15, h⟩ := oin_e h
        refine M_ld9 hx hb hK hP i15 dX9_moveChain_98 ?_
        refine lv_iconst (v := 4) hx hb dX9_moveChain_99 (by decide) ?_
        refine lv_idiv hx hb dX9_moveChain_100 (by decide) ?_
        refine lv_topi (fun x16 ex16 => ?_)
        replace h := olet_s ex16 h
        refine lv_istore_n (lv' := [(3, .int x16), (4, .int x14), (5, .int r6), (0, .ref (a 0)), (1, .int v1)]) hx hb dX9_moveChain_101 rfl hl (by decide) rfl (fun ls hl => ?_)
        refine lv_goto (tgt := 9) hx hb dX9_moveChain_102 (by decide) ?_
        exact ih _ _ _ _ _ _ _ _ _ _ h hP hS (lv_sub hl [3, 4, 0, 1] rfl) kk
  have h := hF
  unfold G_X9_moveChain at h
  refine lv_iload_n hx hb dX9_moveChain_0 rfl (lv_at hl 2 rfl) ?_
  refine lv_istore_n (lv' := [(3, .int p2), (0, .ref (a 0)), (1, .int p1), (2, .int p2)]) hx hb dX9_moveChain_1 rfl hl (by decide) rfl (fun ls hl => ?_)
  refine lv_aload_n hx hb dX9_moveChain_2 rfl (lv_at hl 1 rfl) ?_
  refine lv_iload_n hx hb dX9_moveChain_3 rfl (lv_at hl 3 rfl) ?_
  obtain ⟨r1, h2, h⟩ := obd_e h
  refine k_X9_room S aM_RX9_133 ⟨Nat.le_of_ble_eq_true rfl, Nat.le_of_ble_eq_true rfl⟩ ⟨Nat.zero_le _, Nat.zero_le _⟩ hP hK hDT h2 hl.1 (Nat.le_of_ble_eq_true rfl) dX9_moveChain_4 ?_
  refine lv_istore (lv' := [(4, .int r1), (3, .int p2), (0, .ref (a 0)), (1, .int p1), (2, .int p2)]) hx hb dX9_moveChain_7 hl (by decide) rfl (fun ls hl => ?_)
  obtain ⟨y17, y18, w19, h20, h⟩ := obd3_e h
  refine hL9 N _ _ _ _ _ _ _ _ _ _ h20 hP hS (lv_sub hl [2, 3, 1, 0] rfl) (fun H locs ls hP hS hl => ?_)
  refine lv_aload_n hx hb dX9_moveChain_105 rfl (lv_at hl 0 rfl) ?_
  refine lv_iload_n hx hb dX9_moveChain_106 rfl (lv_at hl 1 rfl) ?_
  obtain ⟨w21, h22, h⟩ := obd_e h
  refine k_X9_hold S aM_RX9_163 ⟨Nat.le_of_ble_eq_true rfl, Nat.le_of_ble_eq_true rfl⟩ ⟨Nat.zero_le _, Nat.zero_le _⟩ hP hK hDT hS h22 hl.1 (Nat.le_of_ble_eq_true rfl) dX9_moveChain_107 (fun H locs hP hS => ?_)
  refine lv_aload_n hx hb dX9_moveChain_110 rfl (lv_at hl 0 rfl) ?_
  refine lv_iload_n hx hb dX9_moveChain_111 rfl (lv_at hl 2 rfl) ?_
  refine lv_iload hx hb dX9_moveChain_112 (lv_at hl 3 rfl) ?_
  refine lv_aload_n hx hb dX9_moveChain_114 rfl (lv_at hl 0 rfl) ?_
  refine M_g0_6 hx hb hA hown aF_RX9_136 hK hP dX9_moveChain_115 ?_
  refine lv_aload_n hx hb dX9_moveChain_118 rfl (lv_at hl 0 rfl) ?_
  refine M_g0_7 hx hb hA hown aF_RX9_139 hK hP dX9_moveChain_119 ?_
  refine lv_aload_n hx hb dX9_moveChain_122 rfl (lv_at hl 0 rfl) ?_
  refine M_g0_8 hx hb hA hown aF_RX9_142 hK hP dX9_moveChain_123 ?_
  refine lv_iload_n hx hb dX9_moveChain_126 rfl (lv_at hl 2 rfl) ?_
  refine lv_aload_n hx hb dX9_moveChain_127 rfl (lv_at hl 0 rfl) ?_
  refine M_g0_9 hx hb hA hown aF_RX9_145 hK hP dX9_moveChain_128 ?_
  refine lv_icmp_ne (tgt := 138) hx hb dX9_moveChain_131 (by decide) (fun hc => ?_) (fun hc => ?_)
  · replace h := oi_f hc h
    refine lv_iconst (v := 1) hx hb dX9_moveChain_138 (by decide) ?_
    obtain ⟨w23, h24, h⟩ := obd_e h
    refine k_X9_put S aM_RX9_148 ⟨Nat.le_of_ble_eq_true rfl, Nat.le_of_ble_eq_true rfl⟩ ⟨Nat.zero_le _, Nat.zero_le _⟩ hP hK hDT hS h24 hl.1 (Nat.le_of_ble_eq_true rfl) dX9_moveChain_139 (fun H locs hP hS => ?_)
    obtain rfl := os1 h
    exact W.vret hx hb hr (fun t ht hW => ⟨⟨(), rfl, trivial, by show va_P _ _ _ t.heap; rw [ht]; exact hP⟩, hS.F ht⟩) hS.2.2 dX9_moveChain_142
  · replace h := oi_t hc h
    refine lv_iconst (v := 0) hx hb dX9_moveChain_134 (by decide) ?_
    refine lv_goto (tgt := 139) hx hb dX9_moveChain_135 (by decide) ?_
    obtain ⟨w25, h26, h⟩ := obd_e h
    refine k_X9_put S aM_RX9_148 ⟨Nat.le_of_ble_eq_true rfl, Nat.le_of_ble_eq_true rfl⟩ ⟨Nat.zero_le _, Nat.zero_le _⟩ hP hK hDT hS h26 hl.1 (Nat.le_of_ble_eq_true rfl) dX9_moveChain_139 (fun H locs hP hS => ?_)
    obtain rfl := os1 h
    exact W.vret hx hb hr (fun t ht hW => ⟨⟨(), rfl, trivial, by show va_P _ _ _ t.heap; rw [ht]; exact hP⟩, hS.F ht⟩) hS.2.2 dX9_moveChain_142
theorem k_X9_moveChain {p : Program} {l : Launch} {e : Env} {R : Room} {s : State} {m : MethodId} {args : Array Value} {below : List Frame} {meth : Method} {c : Code} {H : Heap} {locs : List Loc} {cells slots : Nat} {Q : State → Prop} {cc : ByteArray} {pc nL idx : Nat} {ls : Array Slot} {rest : List Value} {own : String} {D : va_G} {cI : ClassId} {a : Nat → Nat} {H0 : Heap} {N : Nat} {φ : M2} {p1 : Int32} {p2 : Int32} {hv : Int64} {φr : M2} (S : CallFix p m c cc nL s args AW own) (h1 : Cond.methodLink own idx yX9_moveChain ∈ AW) (hR : 4 + 1 ≤ R.frames ∧ 8 + (6 + 11) + 87 ≤ R.locals) (hc : cells ≤ R.cells ∧ slots ≤ R.slots) (hP : va_P D vwCl (mbW cI a φ hv) H) (hK : va_K D vwCl [(cI, .int)] s) (hDT : ∀ (φ2 : M2) (hv2 : Int64), va_D (fun _ => True) (mbW cI a φ2 hv2)) (hS : va_S (mbA a) H0 H locs) (hF : G_X9_moveChain N φ p1 p2 = some φr) (hsz : ls.size = nL) (hW : (rest.map fun v => v.category).sum ≤ 8) (hdg : decode cc pc = .ok (.invokevirtual idx, 3)) (kk : ∀ (H1 : Heap) (locs1 : List Loc), va_P D vwCl (mbW cI a φr hv) H1 → va_S (mbA a) H0 H1 locs1 → W p l e R s m args below meth c H1 locs1 cells slots Q (F0 m (pc + 3) ls (rest))) : W p l e R s m args below meth c H locs cells slots Q (F0 m pc ls (.int p2 :: .int p1 :: .ref (a 0) :: rest)) :=
  fm_runVv (n := 2) (C := RX9) (As := [.int p1, .int p2]) S (c_X9_moveChain l D cI a N φ p1 p2 hv φr hF) (M_pre (q0 := 0) (ci := 7) hK hP (hDT _ _) rfl rfl) hS h1 aI_X9_moveChain aV_X9_moveChain aN_RX9 aC_X9_moveChain rfl rfl (by decide +kernel) rfl hR hc hsz hW hdg (fun H1 locs1 hP1 hS1 => kk H1 locs1 hP1 hS1)
set_option maxHeartbeats 4000000 in
set_option maxRecDepth 100000 in
theorem c_X9_dropStash (l : Launch) (D : va_G) (cI : ClassId) (a : Nat → Nat) (N : Nat) (φ : M2) (p1 : Int32) (hv : Int64) (φr : M2) (hF : G_X9_dropStash N φ p1 = some φr) : Met l yX9_dropStash (wsA yX9_dropStash cX9_dropStash 3 none) { frames := 0, cells := 0, slots := 0, locals := 0 } (va_Pc [.ref (a 0), .int p1] (mbP D cI a φ hv)) (va_Qv (fun (_ : Unit) => True) (fun _ t => va_P D vwCl (mbW cI a φr hv) t.heap) (mbA a)) 0 0 (mbA a) := by
  refine Met.ofW (cc := cX9_dropStash) (maxL := 3) (ret := none) (by decide) rfl ?_
  intro p e s m args below meth c s₁ B hml hpre
  obtain ⟨rfl, hP, hK, hD0⟩ := hpre
  have hx := B.exec
  have hb := B.bytes
  have hr := B.returns
  have hA : ∀ w ∈ AW, w.before _ s = true := fun w h => atoms_spec (ws := wsA yX9_dropStash cX9_dropStash 3 none) B.pre w (List.mem_cons_of_mem _ h)
  have hown : s.vm.findClass RX9 = some m.cls := findClass_of_methodNamed B.named
  have hlocks := B.notSynchronized
  have hDT := M_dT hD0
  have hDA := M_dA hD0
  have hS : va_S (mbA a) s.heap s.heap [] := va_S.rf
  have S : CallFix p m c cX9_dropStash 3 s ([.ref (a 0), .int p1] : List Value).toArray AW RX9 := ⟨hx, hb, hml, hown, hA⟩
  have hl := lv_entry ([.ref (a 0), .int p1]) (n := 3) (Nat.le_of_ble_eq_true rfl)
  rw [lg_entry_eq]
  generalize (lg_sl ([.ref (a 0), .int p1]) ++ List.replicate (3 - (lg_sl ([.ref (a 0), .int p1])).length) Slot.unset).toArray = ls at hl ⊢
  have hl : lv_has ls 3 [(0, .ref (a 0)), (1, .int p1)] := hl
  have hL17 : ∀ (k : Nat) (v2 : Int32) (φ : M2) (H : Heap) (locs : List Loc) (ls : Array Slot) (φo : M2), L_X9_dropStash_17 N k v2 φ = some φo → va_P D vwCl (mbW cI a φ hv) H → va_S (mbA a) s.heap H locs → lv_has ls 3 [(0, .ref (a 0)), (2, .int v2)] → (∀ (H1 : Heap) (locs1 : List Loc) (ls1 : Array Slot), va_P D vwCl (mbW cI a φo hv) H1 → va_S (mbA a) s.heap H1 locs1 → lv_has ls1 3 [] → W p l e (headSpec (wsA yX9_dropStash cX9_dropStash 3 none) { frames := 0, cells := 0, slots := 0, locals := 0 }).room s m ([.ref (a 0), .int p1] : List Value).toArray below meth c H1 locs1 0 0 (MQ below (va_Qv (fun (_ : Unit) => True) (fun _ t => va_P D vwCl (mbW cI a φr hv) t.heap) (mbA a)) ([.ref (a 0), .int p1] : List Value).toArray s 0 0 (mbA a)) (F0 m 52 ls1 [])) → W p l e (headSpec (wsA yX9_dropStash cX9_dropStash 3 none) { frames := 0, cells := 0, slots := 0, locals := 0 }).room s m ([.ref (a 0), .int p1] : List Value).toArray below meth c H locs 0 0 (MQ below (va_Qv (fun (_ : Unit) => True) (fun _ t => va_P D vwCl (mbW cI a φr hv) t.heap) (mbA a)) ([.ref (a 0), .int p1] : List Value).toArray s 0 0 (mbA a)) (F0 m 17 ls []) := by
    intro k
    induction k with
    | zero =>
      intro v2 φ H locs ls φo h hP hS hl kk
      exact no_s h
    | succ k ih =>
      intro v2 φ H locs ls φo h hP hS hl kk
      replace h : B_X9_dropStash_17 N (L_X9_dropStash_17 N k) v2 φ = some φo := h
      unfold B_X9_dropStash_17 at h
      refine lv_iload_n hx hb dX9_dropStash_17 rfl (lv_at hl 1 rfl) ?_
      refine lv_bipush (v := 6) hx hb dX9_dropStash_18 (by decide) ?_
      refine lv_iconst (v := 4) hx hb dX9_dropStash_20 (by decide) ?_
      refine lv_aload_n hx hb dX9_dropStash_21 rfl (lv_at hl 0 rfl) ?_
      refine M_g0_0 hx hb hA hown aF_RX9_7 hK hP dX9_dropStash_22 ?_
      refine lv_iconst (v := 5) hx hb dX9_dropStash_25 (by decide) ?_
      obtain ⟨i5, h⟩ := oin_e h
      refine M_ld1 hx hb hK hP i5 dX9_dropStash_26 ?_
      refine lv_imul hx hb dX9_dropStash_27 ?_
      refine lv_iadd hx hb dX9_dropStash_28 ?_
      refine lv_icmp_ge (tgt := 52) hx hb dX9_dropStash_29 (by decide) (fun hc => ?_) (fun hc => ?_)
      · replace h := oi_t hc h
        obtain rfl := os1 h
        exact kk _ _ _ hP hS (lv_sub hl [] rfl)
      · replace h := oi_f hc h
        refine lv_aload_n hx hb dX9_dropStash_32 rfl (lv_at hl 0 rfl) ?_
        refine M_g0_0 hx hb hA hown aF_RX9_7 hK hP dX9_dropStash_33 ?_
        refine lv_iload_n hx hb dX9_dropStash_36 rfl (lv_at hl 1 rfl) ?_
        refine lv_aload_n hx hb dX9_dropStash_37 rfl (lv_at hl 0 rfl) ?_
        refine M_g0_0 hx hb hA hown aF_RX9_7 hK hP dX9_dropStash_38 ?_
        refine lv_iload_n hx hb dX9_dropStash_41 rfl (lv_at hl 1 rfl) ?_
        refine lv_iconst (v := 4) hx hb dX9_dropStash_42 (by decide) ?_
        refine lv_iadd hx hb dX9_dropStash_43 ?_
        obtain ⟨i6, h⟩ := oin_e h
        refine M_ld1 hx hb hK hP i6 dX9_dropStash_44 ?_
        obtain ⟨i7, h⟩ := oin_e h
        refine M_st1 hx hb hK hP (hDA _ _) hS i7 dX9_dropStash_45 (fun w8 H locs ew8 hP hS => ?_)
        replace h := olet_s ew8 h
        refine lv_iinc (v := v2 + 1) (lv' := [(2, .int (v2 + 1)), (0, .ref (a 0))]) hx hb dX9_dropStash_46 hl (k := 1) rfl (fm_inc _ _ _ (by decide)) (by decide) rfl (fun ls hl => ?_)
        refine lv_goto (tgt := 17) hx hb dX9_dropStash_49 (by decide) ?_
        exact ih _ _ _ _ _ _ h hP hS (lv_sub hl [1, 0] rfl) kk
  have h := hF
  unfold G_X9_dropStash at h
  refine lv_aload_n hx hb dX9_dropStash_0 rfl (lv_at hl 0 rfl) ?_
  refine M_g0_0 hx hb hA hown aF_RX9_7 hK hP dX9_dropStash_1 ?_
  refine lv_iconst (v := 5) hx hb dX9_dropStash_4 (by decide) ?_
  refine lv_dup2_11 hx hb dX9_dropStash_5 rfl rfl ?_
  obtain ⟨i1, h⟩ := oin_e h
  refine M_ld1 hx hb hK hP i1 dX9_dropStash_6 ?_
  refine lv_iconst (v := 1) hx hb dX9_dropStash_7 (by decide) ?_
  refine lv_isub hx hb dX9_dropStash_8 ?_
  obtain ⟨i2, h⟩ := oin_e h
  refine M_st1 hx hb hK hP (hDA _ _) hS i2 dX9_dropStash_9 (fun w3 H locs ew3 hP hS => ?_)
  replace h := olet_s ew3 h
  refine lv_bipush (v := 6) hx hb dX9_dropStash_10 (by decide) ?_
  refine lv_iconst (v := 4) hx hb dX9_dropStash_12 (by decide) ?_
  refine lv_iload_n hx hb dX9_dropStash_13 rfl (lv_at hl 1 rfl) ?_
  refine lv_imul hx hb dX9_dropStash_14 ?_
  refine lv_iadd hx hb dX9_dropStash_15 ?_
  refine lv_topi (fun x4 ex4 => ?_)
  replace h := olet_s ex4 h
  refine lv_istore_n (lv' := [(2, .int x4), (0, .ref (a 0)), (1, .int p1)]) hx hb dX9_dropStash_16 rfl hl (by decide) rfl (fun ls hl => ?_)
  obtain ⟨w9, h10, h⟩ := obd_e h
  refine hL17 N _ _ _ _ _ _ h10 hP hS (lv_sub hl [1, 0] rfl) (fun H locs ls hP hS hl => ?_)
  obtain rfl := os1 h
  exact W.vret hx hb hr (fun t ht hW => ⟨⟨(), rfl, trivial, by show va_P _ _ _ t.heap; rw [ht]; exact hP⟩, hS.F ht⟩) hS.2.2 dX9_dropStash_52
theorem k_X9_dropStash {p : Program} {l : Launch} {e : Env} {R : Room} {s : State} {m : MethodId} {args : Array Value} {below : List Frame} {meth : Method} {c : Code} {H : Heap} {locs : List Loc} {cells slots : Nat} {Q : State → Prop} {cc : ByteArray} {pc nL idx : Nat} {ls : Array Slot} {rest : List Value} {own : String} {D : va_G} {cI : ClassId} {a : Nat → Nat} {H0 : Heap} {N : Nat} {φ : M2} {p1 : Int32} {hv : Int64} {φr : M2} (S : CallFix p m c cc nL s args AW own) (h1 : Cond.methodLink own idx yX9_dropStash ∈ AW) (hR : 0 + 1 ≤ R.frames ∧ 8 + (3 + 11) + 0 ≤ R.locals) (hc : cells ≤ R.cells ∧ slots ≤ R.slots) (hP : va_P D vwCl (mbW cI a φ hv) H) (hK : va_K D vwCl [(cI, .int)] s) (hDT : ∀ (φ2 : M2) (hv2 : Int64), va_D (fun _ => True) (mbW cI a φ2 hv2)) (hS : va_S (mbA a) H0 H locs) (hF : G_X9_dropStash N φ p1 = some φr) (hsz : ls.size = nL) (hW : (rest.map fun v => v.category).sum ≤ 8) (hdg : decode cc pc = .ok (.invokevirtual idx, 3)) (kk : ∀ (H1 : Heap) (locs1 : List Loc), va_P D vwCl (mbW cI a φr hv) H1 → va_S (mbA a) H0 H1 locs1 → W p l e R s m args below meth c H1 locs1 cells slots Q (F0 m (pc + 3) ls (rest))) : W p l e R s m args below meth c H locs cells slots Q (F0 m pc ls (.int p1 :: .ref (a 0) :: rest)) :=
  fm_runVv (n := 1) (C := RX9) (As := [.int p1]) S (c_X9_dropStash l D cI a N φ p1 hv φr hF) (M_pre (q0 := 0) (ci := 7) hK hP (hDT _ _) rfl rfl) hS h1 aI_X9_dropStash aV_X9_dropStash aN_RX9 aC_X9_dropStash rfl rfl (by decide +kernel) rfl hR hc hsz hW hdg (fun H1 locs1 hP1 hS1 => kk H1 locs1 hP1 hS1)
set_option maxHeartbeats 4000000 in
set_option maxRecDepth 100000 in
theorem c_X9_leave (l : Launch) (D : va_G) (cI : ClassId) (a : Nat → Nat) (N : Nat) (φ : M2) (hv : Int64) (r0 : Int32) (φr : M2) (hF : G_X9_leave N φ = some (r0, φr)) : Met l yX9_leave (wsA yX9_leave cX9_leave 4 (some .int)) { frames := 4, cells := 0, slots := 0, locals := 87 } (va_Pc [.ref (a 0)] (mbP D cI a φ hv)) (va_Qi (fun (r : Int32) (_ : Unit) => r = r0) (fun _ t => va_P D vwCl (mbW cI a φr hv) t.heap) (mbA a)) 0 0 (mbA a) := by
  refine Met.ofW (cc := cX9_leave) (maxL := 4) (ret := (some .int)) (by decide) rfl ?_
  intro p e s m args below meth c s₁ B hml hpre
  obtain ⟨rfl, hP, hK, hD0⟩ := hpre
  have hx := B.exec
  have hb := B.bytes
  have hr := B.returns
  have hA : ∀ w ∈ AW, w.before _ s = true := fun w h => atoms_spec (ws := wsA yX9_leave cX9_leave 4 (some .int)) B.pre w (List.mem_cons_of_mem _ h)
  have hown : s.vm.findClass RX9 = some m.cls := findClass_of_methodNamed B.named
  have hlocks := B.notSynchronized
  have hDT := M_dT hD0
  have hDA := M_dA hD0
  have hS : va_S (mbA a) s.heap s.heap [] := va_S.rf
  have S : CallFix p m c cX9_leave 4 s ([.ref (a 0)] : List Value).toArray AW RX9 := ⟨hx, hb, hml, hown, hA⟩
  have hl := lv_entry ([.ref (a 0)]) (n := 4) (Nat.le_of_ble_eq_true rfl)
  rw [lg_entry_eq]
  generalize (lg_sl ([.ref (a 0)]) ++ List.replicate (4 - (lg_sl ([.ref (a 0)])).length) Slot.unset).toArray = ls at hl ⊢
  have hl : lv_has ls 4 [(0, .ref (a 0))] := hl
  have hL4 : ∀ (k : Nat) (v1 : Int32) (v2 : Int32) (φ : M2) (H : Heap) (locs : List Loc) (ls : Array Slot) (o1 : Int32) (φo : M2), L_X9_leave_4 N k v1 v2 φ = some (o1, φo) → va_P D vwCl (mbW cI a φ hv) H → va_S (mbA a) s.heap H locs → lv_has ls 4 [(0, .ref (a 0)), (1, .int v1), (2, .int v2)] → (∀ (H1 : Heap) (locs1 : List Loc) (ls1 : Array Slot), va_P D vwCl (mbW cI a φo hv) H1 → va_S (mbA a) s.heap H1 locs1 → lv_has ls1 4 [(1, .int o1)] → W p l e (headSpec (wsA yX9_leave cX9_leave 4 (some .int)) { frames := 4, cells := 0, slots := 0, locals := 87 }).room s m ([.ref (a 0)] : List Value).toArray below meth c H1 locs1 0 0 (MQ below (va_Qi (fun (r : Int32) (_ : Unit) => r = r0) (fun _ t => va_P D vwCl (mbW cI a φr hv) t.heap) (mbA a)) ([.ref (a 0)] : List Value).toArray s 0 0 (mbA a)) (F0 m 120 ls1 [])) → W p l e (headSpec (wsA yX9_leave cX9_leave 4 (some .int)) { frames := 4, cells := 0, slots := 0, locals := 87 }).room s m ([.ref (a 0)] : List Value).toArray below meth c H locs 0 0 (MQ below (va_Qi (fun (r : Int32) (_ : Unit) => r = r0) (fun _ t => va_P D vwCl (mbW cI a φr hv) t.heap) (mbA a)) ([.ref (a 0)] : List Value).toArray s 0 0 (mbA a)) (F0 m 4 ls []) := by
    intro k
    induction k with
    | zero =>
      intro v1 v2 φ H locs ls o1 φo h hP hS hl kk
      exact no_s h
    | succ k ih =>
      intro v1 v2 φ H locs ls o1 φo h hP hS hl kk
      replace h : B_X9_leave_4 N (L_X9_leave_4 N k) v1 v2 φ = some (o1, φo) := h
      unfold B_X9_leave_4 at h
      refine lv_iload_n hx hb dX9_leave_4 rfl (lv_at hl 2 rfl) ?_
      refine lv_aload_n hx hb dX9_leave_5 rfl (lv_at hl 0 rfl) ?_
      refine M_g0_0 hx hb hA hown aF_RX9_7 hK hP dX9_leave_6 ?_
      refine lv_iconst (v := 5) hx hb dX9_leave_9 (by decide) ?_
      obtain ⟨i1, h⟩ := oin_e h
      refine M_ld1 hx hb hK hP i1 dX9_leave_10 ?_
      refine lv_icmp_ge (tgt := 120) hx hb dX9_leave_11 (by decide) (fun hc => ?_) (fun hc => ?_)
      · replace h := oi_t hc h
        obtain ⟨rfl, rfl⟩ := os2 h
        exact kk _ _ _ hP hS (lv_sub hl [1] rfl)
      · replace h := oi_f hc h
        refine lv_bipush (v := 6) hx hb dX9_leave_14 (by decide) ?_
        refine lv_iconst (v := 4) hx hb dX9_leave_16 (by decide) ?_
        refine lv_iload_n hx hb dX9_leave_17 rfl (lv_at hl 2 rfl) ?_
        refine lv_imul hx hb dX9_leave_18 ?_
        refine lv_iadd hx hb dX9_leave_19 ?_
        refine lv_topi (fun x2 ex2 => ?_)
        replace h := olet_s ex2 h
        refine lv_istore_n (lv' := [(3, .int x2), (0, .ref (a 0)), (1, .int v1), (2, .int v2)]) hx hb dX9_leave_20 rfl hl (by decide) rfl (fun ls hl => ?_)
        refine lv_aload_n hx hb dX9_leave_21 rfl (lv_at hl 1 rfl) ?_
        refine lv_aload_n hx hb dX9_leave_22 rfl (lv_at hl 1 rfl) ?_
        refine M_g0_0 hx hb hA hown aF_RX9_7 hK hP dX9_leave_23 ?_
        refine lv_iload_n hx hb dX9_leave_26 rfl (lv_at hl 0 rfl) ?_
        obtain ⟨i3, h⟩ := oin_e h
        refine M_ld1 hx hb hK hP i3 dX9_leave_27 ?_
        refine M_p0_6 hx hb hA hown aF_RX9_136 hK hP (hDA _ _) hS dX9_leave_28 (fun w4 H locs ew4 hP hS => ?_)
        replace h := olet_s ew4 h
        refine lv_aload_n hx hb dX9_leave_31 rfl (lv_at hl 1 rfl) ?_
        refine lv_aload_n hx hb dX9_leave_32 rfl (lv_at hl 1 rfl) ?_
        refine M_g0_0 hx hb hA hown aF_RX9_7 hK hP dX9_leave_33 ?_
        refine lv_iload_n hx hb dX9_leave_36 rfl (lv_at hl 0 rfl) ?_
        refine lv_iconst (v := 1) hx hb dX9_leave_37 (by decide) ?_
        refine lv_iadd hx hb dX9_leave_38 ?_
        obtain ⟨i5, h⟩ := oin_e h
        refine M_ld1 hx hb hK hP i5 dX9_leave_39 ?_
        refine M_p0_7 hx hb hA hown aF_RX9_139 hK hP (hDA _ _) hS dX9_leave_40 (fun w6 H locs ew6 hP hS => ?_)
        replace h := olet_s ew6 h
        refine lv_aload_n hx hb dX9_leave_43 rfl (lv_at hl 1 rfl) ?_
        refine lv_aload_n hx hb dX9_leave_44 rfl (lv_at hl 1 rfl) ?_
        refine M_g0_0 hx hb hA hown aF_RX9_7 hK hP dX9_leave_45 ?_
        refine lv_iload_n hx hb dX9_leave_48 rfl (lv_at hl 0 rfl) ?_
        refine lv_iconst (v := 2) hx hb dX9_leave_49 (by decide) ?_
        refine lv_iadd hx hb dX9_leave_50 ?_
        obtain ⟨i7, h⟩ := oin_e h
        refine M_ld1 hx hb hK hP i7 dX9_leave_51 ?_
        refine M_p0_8 hx hb hA hown aF_RX9_142 hK hP (hDA _ _) hS dX9_leave_52 (fun w8 H locs ew8 hP hS => ?_)
        replace h := olet_s ew8 h
        refine lv_aload_n hx hb dX9_leave_55 rfl (lv_at hl 1 rfl) ?_
        refine lv_aload_n hx hb dX9_leave_56 rfl (lv_at hl 1 rfl) ?_
        refine M_g0_0 hx hb hA hown aF_RX9_7 hK hP dX9_leave_57 ?_
        refine lv_iload_n hx hb dX9_leave_60 rfl (lv_at hl 0 rfl) ?_
        refine lv_iconst (v := 3) hx hb dX9_leave_61 (by decide) ?_
        refine lv_iadd hx hb dX9_leave_62 ?_
        obtain ⟨i9, h⟩ := oin_e h
        refine M_ld1 hx hb hK hP i9 dX9_leave_63 ?_
        refine M_p0_9 hx hb hA hown aF_RX9_145 hK hP (hDA _ _) hS dX9_leave_64 (fun w10 H locs ew10 hP hS => ?_)
        replace h := olet_s ew10 h
        refine lv_aload_n hx hb dX9_leave_67 rfl (lv_at hl 1 rfl) ?_
        refine lv_aload_n hx hb dX9_leave_68 rfl (lv_at hl 1 rfl) ?_
        refine M_g0_9 hx hb hA hown aF_RX9_145 hK hP dX9_leave_69 ?_
        obtain ⟨r13, w11, h12, h⟩ := obd2_e h
        refine k_X9_settles S aM_RX9_159 ⟨Nat.le_of_ble_eq_true rfl, Nat.le_of_ble_eq_true rfl⟩ ⟨Nat.zero_le _, Nat.zero_le _⟩ hP hK hDT hS h12 hl.1 (Nat.le_of_ble_eq_true rfl) dX9_leave_72 (fun br13 H locs hP hS => ?_)
        refine lv_if_ne (tgt := 103) hx hb dX9_leave_75 (by decide) (fun hc => ?_) (fun hc => ?_)
        · replace h := oi_f hc h
          refine lv_aload_n hx hb dX9_leave_103 rfl (lv_at hl 1 rfl) ?_
          refine lv_iload_n hx hb dX9_leave_104 rfl (lv_at hl 3 rfl) ?_
          obtain ⟨w14, h15, h⟩ := obd_e h
          refine k_X9_dropStash S aM_RX9_179 ⟨Nat.le_of_ble_eq_true rfl, Nat.le_of_ble_eq_true rfl⟩ ⟨Nat.zero_le _, Nat.zero_le _⟩ hP hK hDT hS h15 hl.1 (Nat.le_of_ble_eq_true rfl) dX9_leave_105 (fun H locs hP hS => ?_)
          refine lv_iinc (v := v1 + 1) (lv' := [(1, .int (v1 + 1)), (3, .int x2), (0, .ref (a 0)), (2, .int v2)]) hx hb dX9_leave_108 hl (k := 2) rfl (fm_inc _ _ _ (by decide)) (by decide) rfl (fun ls hl => ?_)
          refine lv_goto (tgt := 117) hx hb dX9_leave_111 (by decide) ?_
          refine lv_goto (tgt := 4) hx hb dX9_leave_117 (by decide) ?_
          exact ih _ _ _ _ _ _ _ _ h hP hS (lv_sub hl [2, 0, 3] rfl) kk
        · replace h := oi_t hc h
          refine lv_aload_n hx hb dX9_leave_78 rfl (lv_at hl 1 rfl) ?_
          refine lv_aload_n hx hb dX9_leave_79 rfl (lv_at hl 1 rfl) ?_
          refine M_g0_9 hx hb hA hown aF_RX9_145 hK hP dX9_leave_80 ?_
          refine lv_aload_n hx hb dX9_leave_83 rfl (lv_at hl 1 rfl) ?_
          refine M_g0_6 hx hb hA hown aF_RX9_136 hK hP dX9_leave_84 ?_
          refine lv_aload_n hx hb dX9_leave_87 rfl (lv_at hl 1 rfl) ?_
          refine M_g0_0 hx hb hA hown aF_RX9_7 hK hP dX9_leave_88 ?_
          refine lv_iconst (v := 0) hx hb dX9_leave_91 (by decide) ?_
          obtain ⟨i16, h⟩ := oin_e h
          refine M_ld1 hx hb hK hP i16 dX9_leave_92 ?_
          obtain ⟨r17, h18, h⟩ := obd_e h
          refine k_X9_stepOf S aM_RX9_114 ⟨Nat.le_of_ble_eq_true rfl, Nat.le_of_ble_eq_true rfl⟩ ⟨Nat.zero_le _, Nat.zero_le _⟩ h18 hl.1 (Nat.le_of_ble_eq_true rfl) dX9_leave_93 ?_
          refine lv_ixor hx hb dX9_leave_96 ?_
          obtain ⟨r21, w19, h20, h⟩ := obd2_e h
          refine k_X9_settles S aM_RX9_159 ⟨Nat.le_of_ble_eq_true rfl, Nat.le_of_ble_eq_true rfl⟩ ⟨Nat.zero_le _, Nat.zero_le _⟩ hP hK hDT hS h20 hl.1 (Nat.le_of_ble_eq_true rfl) dX9_leave_97 (fun br21 H locs hP hS => ?_)
          refine lv_if_eq (tgt := 114) hx hb dX9_leave_100 (by decide) (fun hc => ?_) (fun hc => ?_)
          · replace h := oi_t hc h
            refine lv_iinc (v := v2 + 1) (lv' := [(2, .int (v2 + 1)), (3, .int x2), (0, .ref (a 0)), (1, .int v1)]) hx hb dX9_leave_114 hl (k := 3) rfl (fm_inc _ _ _ (by decide)) (by decide) rfl (fun ls hl => ?_)
            refine lv_goto (tgt := 4) hx hb dX9_leave_117 (by decide) ?_
            exact ih _ _ _ _ _ _ _ _ h hP hS (lv_sub hl [2, 3, 0] rfl) kk
          · replace h := oi_f hc h
            refine lv_aload_n hx hb dX9_leave_103 rfl (lv_at hl 1 rfl) ?_
            refine lv_iload_n hx hb dX9_leave_104 rfl (lv_at hl 3 rfl) ?_
            obtain ⟨w22, h23, h⟩ := obd_e h
            refine k_X9_dropStash S aM_RX9_179 ⟨Nat.le_of_ble_eq_true rfl, Nat.le_of_ble_eq_true rfl⟩ ⟨Nat.zero_le _, Nat.zero_le _⟩ hP hK hDT hS h23 hl.1 (Nat.le_of_ble_eq_true rfl) dX9_leave_105 (fun H locs hP hS => ?_)
            refine lv_iinc (v := v1 + 1) (lv' := [(1, .int (v1 + 1)), (3, .int x2), (0, .ref (a 0)), (2, .int v2)]) hx hb dX9_leave_108 hl (k := 2) rfl (fm_inc _ _ _ (by decide)) (by decide) rfl (fun ls hl => ?_)
            refine lv_goto (tgt := 117) hx hb dX9_leave_111 (by decide) ?_
            refine lv_goto (tgt := 4) hx hb dX9_leave_117 (by decide) ?_
            exact ih _ _ _ _ _ _ _ _ h hP hS (lv_sub hl [2, 0, 3] rfl) kk
  have h := hF
  unfold G_X9_leave at h
  refine lv_iconst (v := 0) hx hb dX9_leave_0 (by decide) ?_
  refine lv_istore_n (lv' := [(1, .int 0), (0, .ref (a 0))]) hx hb dX9_leave_1 rfl hl (by decide) rfl (fun ls hl => ?_)
  refine lv_iconst (v := 0) hx hb dX9_leave_2 (by decide) ?_
  refine lv_istore_n (lv' := [(2, .int 0), (1, .int 0), (0, .ref (a 0))]) hx hb dX9_leave_3 rfl hl (by decide) rfl (fun ls hl => ?_)
  obtain ⟨y24, w25, h26, h⟩ := obd2_e h
  refine hL4 N _ _ _ _ _ _ _ _ h26 hP hS (lv_sub hl [2, 1, 0] rfl) (fun H locs ls hP hS hl => ?_)
  refine lv_iload_n hx hb dX9_leave_120 rfl (lv_at hl 0 rfl) ?_
  obtain ⟨rfl, rfl⟩ := os2 h
  exact W.iret (v := y24) hx hb hr (fun t ht hW => ⟨⟨_, (), rfl, rfl, by show va_P _ _ _ t.heap; rw [ht]; exact hP⟩, hS.F ht⟩) hS.2.2 dX9_leave_121
theorem k_X9_leave {p : Program} {l : Launch} {e : Env} {R : Room} {s : State} {m : MethodId} {args : Array Value} {below : List Frame} {meth : Method} {c : Code} {H : Heap} {locs : List Loc} {cells slots : Nat} {Q : State → Prop} {cc : ByteArray} {pc nL idx : Nat} {ls : Array Slot} {rest : List Value} {own : String} {D : va_G} {cI : ClassId} {a : Nat → Nat} {H0 : Heap} {N : Nat} {φ : M2} {hv : Int64} {r0 : Int32} {φr : M2} (S : CallFix p m c cc nL s args AW own) (h1 : Cond.methodLink own idx yX9_leave ∈ AW) (hR : 4 + 1 ≤ R.frames ∧ 8 + (4 + 11) + 87 ≤ R.locals) (hc : cells ≤ R.cells ∧ slots ≤ R.slots) (hP : va_P D vwCl (mbW cI a φ hv) H) (hK : va_K D vwCl [(cI, .int)] s) (hDT : ∀ (φ2 : M2) (hv2 : Int64), va_D (fun _ => True) (mbW cI a φ2 hv2)) (hS : va_S (mbA a) H0 H locs) (hF : G_X9_leave N φ = some (r0, φr)) (hsz : ls.size = nL) (hW : (rest.map fun v => v.category).sum ≤ 8) (hdg : decode cc pc = .ok (.invokevirtual idx, 3)) (kk : ∀ (H1 : Heap) (locs1 : List Loc), va_P D vwCl (mbW cI a φr hv) H1 → va_S (mbA a) H0 H1 locs1 → W p l e R s m args below meth c H1 locs1 cells slots Q (F0 m (pc + 3) ls (.int r0 :: rest))) : W p l e R s m args below meth c H locs cells slots Q (F0 m pc ls (.ref (a 0) :: rest)) :=
  fm_runVi (n := 0) (C := RX9) (As := []) S (c_X9_leave l D cI a N φ hv r0 φr hF) (M_pre (q0 := 0) (ci := 7) hK hP (hDT _ _) rfl rfl) hS h1 aI_X9_leave aV_X9_leave aN_RX9 aC_X9_leave rfl rfl (by decide +kernel) rfl hR hc hsz hW hdg (fun r H1 locs1 hr hP1 hS1 => by subst hr; exact kk H1 locs1 hP1 hS1)
set_option maxHeartbeats 4000000 in
set_option maxRecDepth 100000 in
theorem c_X9_deletes (l : Launch) (D : va_G) (cI : ClassId) (a : Nat → Nat) (N : Nat) (φ : M2) (p1 : Int32) (p2 : Int32) (hv : Int64) (r0 : Int32) (φr : M2) (hF : G_X9_deletes N φ p1 p2 = some (r0, φr)) : Met l yX9_deletes (wsA yX9_deletes cX9_deletes 5 (some .int)) { frames := 5, cells := 0, slots := 0, locals := 115 } (va_Pc [.ref (a 0), .int p1, .int p2] (mbP D cI a φ hv)) (va_Qi (fun (r : Int32) (_ : Unit) => r = r0) (fun _ t => va_P D vwCl (mbW cI a φr hv) t.heap) (mbA a)) 0 0 (mbA a) := by
  refine Met.ofW (cc := cX9_deletes) (maxL := 5) (ret := (some .int)) (by decide) rfl ?_
  intro p e s m args below meth c s₁ B hml hpre
  obtain ⟨rfl, hP, hK, hD0⟩ := hpre
  have hx := B.exec
  have hb := B.bytes
  have hr := B.returns
  have hA : ∀ w ∈ AW, w.before _ s = true := fun w h => atoms_spec (ws := wsA yX9_deletes cX9_deletes 5 (some .int)) B.pre w (List.mem_cons_of_mem _ h)
  have hown : s.vm.findClass RX9 = some m.cls := findClass_of_methodNamed B.named
  have hlocks := B.notSynchronized
  have hDT := M_dT hD0
  have hDA := M_dA hD0
  have hS : va_S (mbA a) s.heap s.heap [] := va_S.rf
  have S : CallFix p m c cX9_deletes 5 s ([.ref (a 0), .int p1, .int p2] : List Value).toArray AW RX9 := ⟨hx, hb, hml, hown, hA⟩
  have hl := lv_entry ([.ref (a 0), .int p1, .int p2]) (n := 5) (Nat.le_of_ble_eq_true rfl)
  rw [lg_entry_eq]
  generalize (lg_sl ([.ref (a 0), .int p1, .int p2]) ++ List.replicate (5 - (lg_sl ([.ref (a 0), .int p1, .int p2])).length) Slot.unset).toArray = ls at hl ⊢
  have hl : lv_has ls 5 [(0, .ref (a 0)), (1, .int p1), (2, .int p2)] := hl
  have hL25 : ∀ (k : Nat) (v3 : Int32) (v4 : Int32) (φ : M2) (H : Heap) (locs : List Loc) (ls : Array Slot) (φo : M2), L_X9_deletes_25 N v3 k v4 φ = some φo → va_P D vwCl (mbW cI a φ hv) H → va_S (mbA a) s.heap H locs → lv_has ls 5 [(0, .ref (a 0)), (3, .int v3), (4, .int v4)] → (∀ (H1 : Heap) (locs1 : List Loc) (ls1 : Array Slot), va_P D vwCl (mbW cI a φo hv) H1 → va_S (mbA a) s.heap H1 locs1 → lv_has ls1 5 [(0, .ref (a 0)), (3, .int v3)] → W p l e (headSpec (wsA yX9_deletes cX9_deletes 5 (some .int)) { frames := 5, cells := 0, slots := 0, locals := 115 }).room s m ([.ref (a 0), .int p1, .int p2] : List Value).toArray below meth c H1 locs1 0 0 (MQ below (va_Qi (fun (r : Int32) (_ : Unit) => r = r0) (fun _ t => va_P D vwCl (mbW cI a φr hv) t.heap) (mbA a)) ([.ref (a 0), .int p1, .int p2] : List Value).toArray s 0 0 (mbA a)) (F0 m 64 ls1 [])) → W p l e (headSpec (wsA yX9_deletes cX9_deletes 5 (some .int)) { frames := 5, cells := 0, slots := 0, locals := 115 }).room s m ([.ref (a 0), .int p1, .int p2] : List Value).toArray below meth c H locs 0 0 (MQ below (va_Qi (fun (r : Int32) (_ : Unit) => r = r0) (fun _ t => va_P D vwCl (mbW cI a φr hv) t.heap) (mbA a)) ([.ref (a 0), .int p1, .int p2] : List Value).toArray s 0 0 (mbA a)) (F0 m 25 ls []) := by
    intro k
    induction k with
    | zero =>
      intro v3 v4 φ H locs ls φo h hP hS hl kk
      exact no_s h
    | succ k ih =>
      intro v3 v4 φ H locs ls φo h hP hS hl kk
      replace h : B_X9_deletes_25 N v3 (L_X9_deletes_25 N v3 k) v4 φ = some φo := h
      unfold B_X9_deletes_25 at h
      refine lv_iload hx hb dX9_deletes_25 (lv_at hl 2 rfl) ?_
      refine lv_sipush (v := 1043) hx hb dX9_deletes_27 (by decide) ?_
      refine lv_aload_n hx hb dX9_deletes_30 rfl (lv_at hl 0 rfl) ?_
      refine M_g0_0 hx hb hA hown aF_RX9_7 hK hP dX9_deletes_31 ?_
      refine lv_sipush (v := 1042) hx hb dX9_deletes_34 (by decide) ?_
      obtain ⟨i7, h⟩ := oin_e h
      refine M_ld1 hx hb hK hP i7 dX9_deletes_37 ?_
      refine lv_iadd hx hb dX9_deletes_38 ?_
      refine lv_icmp_ge (tgt := 64) hx hb dX9_deletes_39 (by decide) (fun hc => ?_) (fun hc => ?_)
      · replace h := oi_t hc h
        obtain rfl := os1 h
        exact kk _ _ _ hP hS (lv_sub hl [0, 1] rfl)
      · replace h := oi_f hc h
        refine lv_aload_n hx hb dX9_deletes_42 rfl (lv_at hl 0 rfl) ?_
        refine M_g0_0 hx hb hA hown aF_RX9_7 hK hP dX9_deletes_43 ?_
        refine lv_iload hx hb dX9_deletes_46 (lv_at hl 2 rfl) ?_
        refine lv_aload_n hx hb dX9_deletes_48 rfl (lv_at hl 0 rfl) ?_
        refine M_g0_0 hx hb hA hown aF_RX9_7 hK hP dX9_deletes_49 ?_
        refine lv_iload hx hb dX9_deletes_52 (lv_at hl 2 rfl) ?_
        refine lv_iconst (v := 1) hx hb dX9_deletes_54 (by decide) ?_
        refine lv_iadd hx hb dX9_deletes_55 ?_
        obtain ⟨i8, h⟩ := oin_e h
        refine M_ld1 hx hb hK hP i8 dX9_deletes_56 ?_
        obtain ⟨i9, h⟩ := oin_e h
        refine M_st1 hx hb hK hP (hDA _ _) hS i9 dX9_deletes_57 (fun w10 H locs ew10 hP hS => ?_)
        replace h := olet_s ew10 h
        refine lv_iinc (v := v4 + 1) (lv' := [(4, .int (v4 + 1)), (0, .ref (a 0)), (3, .int v3)]) hx hb dX9_deletes_58 hl (k := 2) rfl (fm_inc _ _ _ (by decide)) (by decide) rfl (fun ls hl => ?_)
        refine lv_goto (tgt := 25) hx hb dX9_deletes_61 (by decide) ?_
        exact ih _ _ _ _ _ _ _ h hP hS (lv_sub hl [1, 2, 0] rfl) kk
  have h := hF
  unfold G_X9_deletes at h
  refine lv_aload_n hx hb dX9_deletes_0 rfl (lv_at hl 0 rfl) ?_
  refine lv_iload_n hx hb dX9_deletes_1 rfl (lv_at hl 1 rfl) ?_
  obtain ⟨r1, h2, h⟩ := obd_e h
  refine k_X9_placeOf S aM_RX9_182 ⟨Nat.le_of_ble_eq_true rfl, Nat.le_of_ble_eq_true rfl⟩ ⟨Nat.zero_le _, Nat.zero_le _⟩ hP hK hDT h2 hl.1 (Nat.le_of_ble_eq_true rfl) dX9_deletes_2 ?_
  refine lv_istore_n (lv' := [(3, .int r1), (0, .ref (a 0)), (1, .int p1), (2, .int p2)]) hx hb dX9_deletes_5 rfl hl (by decide) rfl (fun ls hl => ?_)
  refine lv_aload_n hx hb dX9_deletes_6 rfl (lv_at hl 1 rfl) ?_
  refine M_g0_0 hx hb hA hown aF_RX9_7 hK hP dX9_deletes_7 ?_
  refine lv_sipush (v := 1042) hx hb dX9_deletes_10 (by decide) ?_
  refine lv_dup2_11 hx hb dX9_deletes_13 rfl rfl ?_
  obtain ⟨i3, h⟩ := oin_e h
  refine M_ld1 hx hb hK hP i3 dX9_deletes_14 ?_
  refine lv_iconst (v := 1) hx hb dX9_deletes_15 (by decide) ?_
  refine lv_isub hx hb dX9_deletes_16 ?_
  obtain ⟨i4, h⟩ := oin_e h
  refine M_st1 hx hb hK hP (hDA _ _) hS i4 dX9_deletes_17 (fun w5 H locs ew5 hP hS => ?_)
  replace h := olet_s ew5 h
  refine lv_sipush (v := 1043) hx hb dX9_deletes_18 (by decide) ?_
  refine lv_iload_n hx hb dX9_deletes_21 rfl (lv_at hl 3 rfl) ?_
  refine lv_iadd hx hb dX9_deletes_22 ?_
  refine lv_topi (fun x6 ex6 => ?_)
  replace h := olet_s ex6 h
  refine lv_istore (lv' := [(4, .int x6), (3, .int r1), (0, .ref (a 0)), (1, .int p1), (2, .int p2)]) hx hb dX9_deletes_23 hl (by decide) rfl (fun ls hl => ?_)
  obtain ⟨w11, h12, h⟩ := obd_e h
  refine hL25 N _ _ _ _ _ _ _ h12 hP hS (lv_sub hl [2, 1, 0] rfl) (fun H locs ls hP hS hl => ?_)
  refine lv_iload_n hx hb dX9_deletes_64 rfl (lv_at hl 1 rfl) ?_
  refine lv_sipush (v := 1000) hx hb dX9_deletes_65 (by decide) ?_
  refine lv_icmp_lt (tgt := 83) hx hb dX9_deletes_68 (by decide) (fun hc => ?_) (fun hc => ?_)
  · replace h := oi_t hc h
    refine lv_iload_n hx hb dX9_deletes_83 rfl (lv_at hl 1 rfl) ?_
    refine lv_iconst (v := (-1)) hx hb dX9_deletes_84 (by decide) ?_
    refine lv_icmp_eq (tgt := 102) hx hb dX9_deletes_85 (by decide) (fun hc => ?_) (fun hc => ?_)
    · replace h := oi_t hc h
      refine lv_aload_n hx hb dX9_deletes_102 rfl (lv_at hl 0 rfl) ?_
      obtain ⟨r15, w13, h14, h⟩ := obd2_e h
      refine k_X9_leave S aM_RX9_185 ⟨Nat.le_of_ble_eq_true rfl, Nat.le_of_ble_eq_true rfl⟩ ⟨Nat.zero_le _, Nat.zero_le _⟩ hP hK hDT hS h14 hl.1 (Nat.le_of_ble_eq_true rfl) dX9_deletes_103 (fun H locs hP hS => ?_)
      obtain ⟨rfl, rfl⟩ := os2 h
      exact W.iret (v := r15) hx hb hr (fun t ht hW => ⟨⟨_, (), rfl, rfl, by show va_P _ _ _ t.heap; rw [ht]; exact hP⟩, hS.F ht⟩) hS.2.2 dX9_deletes_106
    · replace h := oi_f hc h
      refine lv_aload_n hx hb dX9_deletes_88 rfl (lv_at hl 0 rfl) ?_
      refine lv_iload_n hx hb dX9_deletes_89 rfl (lv_at hl 1 rfl) ?_
      refine lv_iconst (v := 4) hx hb dX9_deletes_90 (by decide) ?_
      refine lv_idiv hx hb dX9_deletes_91 (by decide) ?_
      refine lv_iload_n hx hb dX9_deletes_92 rfl (lv_at hl 1 rfl) ?_
      refine lv_iconst (v := 4) hx hb dX9_deletes_93 (by decide) ?_
      refine lv_irem hx hb dX9_deletes_94 (by decide) ?_
      refine lv_iconst (v := (-1)) hx hb dX9_deletes_95 (by decide) ?_
      refine lv_iconst (v := (-1)) hx hb dX9_deletes_96 (by decide) ?_
      refine lv_iconst (v := (-1)) hx hb dX9_deletes_97 (by decide) ?_
      refine lv_iconst (v := (-1)) hx hb dX9_deletes_98 (by decide) ?_
      obtain ⟨w16, h17, h⟩ := obd_e h
      refine k_X9_put S aM_RX9_148 ⟨Nat.le_of_ble_eq_true rfl, Nat.le_of_ble_eq_true rfl⟩ ⟨Nat.zero_le _, Nat.zero_le _⟩ hP hK hDT hS h17 hl.1 (Nat.le_of_ble_eq_true rfl) dX9_deletes_99 (fun H locs hP hS => ?_)
      refine lv_aload_n hx hb dX9_deletes_102 rfl (lv_at hl 0 rfl) ?_
      obtain ⟨r20, w18, h19, h⟩ := obd2_e h
      refine k_X9_leave S aM_RX9_185 ⟨Nat.le_of_ble_eq_true rfl, Nat.le_of_ble_eq_true rfl⟩ ⟨Nat.zero_le _, Nat.zero_le _⟩ hP hK hDT hS h19 hl.1 (Nat.le_of_ble_eq_true rfl) dX9_deletes_103 (fun H locs hP hS => ?_)
      obtain ⟨rfl, rfl⟩ := os2 h
      exact W.iret (v := r20) hx hb hr (fun t ht hW => ⟨⟨_, (), rfl, rfl, by show va_P _ _ _ t.heap; rw [ht]; exact hP⟩, hS.F ht⟩) hS.2.2 dX9_deletes_106
  · replace h := oi_f hc h
    refine lv_aload_n hx hb dX9_deletes_71 rfl (lv_at hl 0 rfl) ?_
    refine lv_iload_n hx hb dX9_deletes_72 rfl (lv_at hl 1 rfl) ?_
    refine lv_sipush (v := 1000) hx hb dX9_deletes_73 (by decide) ?_
    refine lv_isub hx hb dX9_deletes_76 ?_
    obtain ⟨w21, h22, h⟩ := obd_e h
    refine k_X9_dropStash S aM_RX9_179 ⟨Nat.le_of_ble_eq_true rfl, Nat.le_of_ble_eq_true rfl⟩ ⟨Nat.zero_le _, Nat.zero_le _⟩ hP hK hDT hS h22 hl.1 (Nat.le_of_ble_eq_true rfl) dX9_deletes_77 (fun H locs hP hS => ?_)
    refine lv_goto (tgt := 102) hx hb dX9_deletes_80 (by decide) ?_
    refine lv_aload_n hx hb dX9_deletes_102 rfl (lv_at hl 0 rfl) ?_
    obtain ⟨r25, w23, h24, h⟩ := obd2_e h
    refine k_X9_leave S aM_RX9_185 ⟨Nat.le_of_ble_eq_true rfl, Nat.le_of_ble_eq_true rfl⟩ ⟨Nat.zero_le _, Nat.zero_le _⟩ hP hK hDT hS h24 hl.1 (Nat.le_of_ble_eq_true rfl) dX9_deletes_103 (fun H locs hP hS => ?_)
    obtain ⟨rfl, rfl⟩ := os2 h
    exact W.iret (v := r25) hx hb hr (fun t ht hW => ⟨⟨_, (), rfl, rfl, by show va_P _ _ _ t.heap; rw [ht]; exact hP⟩, hS.F ht⟩) hS.2.2 dX9_deletes_106
theorem k_X9_deletes {p : Program} {l : Launch} {e : Env} {R : Room} {s : State} {m : MethodId} {args : Array Value} {below : List Frame} {meth : Method} {c : Code} {H : Heap} {locs : List Loc} {cells slots : Nat} {Q : State → Prop} {cc : ByteArray} {pc nL idx : Nat} {ls : Array Slot} {rest : List Value} {own : String} {D : va_G} {cI : ClassId} {a : Nat → Nat} {H0 : Heap} {N : Nat} {φ : M2} {p1 : Int32} {p2 : Int32} {hv : Int64} {r0 : Int32} {φr : M2} (S : CallFix p m c cc nL s args AW own) (h1 : Cond.methodLink own idx yX9_deletes ∈ AW) (hR : 5 + 1 ≤ R.frames ∧ 8 + (5 + 11) + 115 ≤ R.locals) (hc : cells ≤ R.cells ∧ slots ≤ R.slots) (hP : va_P D vwCl (mbW cI a φ hv) H) (hK : va_K D vwCl [(cI, .int)] s) (hDT : ∀ (φ2 : M2) (hv2 : Int64), va_D (fun _ => True) (mbW cI a φ2 hv2)) (hS : va_S (mbA a) H0 H locs) (hF : G_X9_deletes N φ p1 p2 = some (r0, φr)) (hsz : ls.size = nL) (hW : (rest.map fun v => v.category).sum ≤ 8) (hdg : decode cc pc = .ok (.invokevirtual idx, 3)) (kk : ∀ (H1 : Heap) (locs1 : List Loc), va_P D vwCl (mbW cI a φr hv) H1 → va_S (mbA a) H0 H1 locs1 → W p l e R s m args below meth c H1 locs1 cells slots Q (F0 m (pc + 3) ls (.int r0 :: rest))) : W p l e R s m args below meth c H locs cells slots Q (F0 m pc ls (.int p2 :: .int p1 :: .ref (a 0) :: rest)) :=
  fm_runVi (n := 2) (C := RX9) (As := [.int p1, .int p2]) S (c_X9_deletes l D cI a N φ p1 p2 hv r0 φr hF) (M_pre (q0 := 0) (ci := 7) hK hP (hDT _ _) rfl rfl) hS h1 aI_X9_deletes aV_X9_deletes aN_RX9 aC_X9_deletes rfl rfl (by decide +kernel) rfl hR hc hsz hW hdg (fun r H1 locs1 hr hP1 hS1 => by subst hr; exact kk H1 locs1 hP1 hS1)
set_option maxHeartbeats 4000000 in
set_option maxRecDepth 100000 in
theorem c_X9_shortest (l : Launch) (D : va_G) (cI : ClassId) (a : Nat → Nat) (N : Nat) (φ : M2) (hv : Int64) (r0 : Int32) (hF : G_X9_shortest N φ = some r0) : Met l yX9_shortest (wsA yX9_shortest cX9_shortest 3 (some .int)) { frames := 0, cells := 0, slots := 0, locals := 0 } (va_Pc [.ref (a 0)] (mbP D cI a φ hv)) (vp_Si (fun r => r = r0)) 0 0 (fun _ => False) := by
  refine Met.ofW (cc := cX9_shortest) (maxL := 3) (ret := (some .int)) (by decide) rfl ?_
  intro p e s m args below meth c s₁ B hml hpre
  obtain ⟨rfl, hP, hK, hD0⟩ := hpre
  have hx := B.exec
  have hb := B.bytes
  have hr := B.returns
  have hA : ∀ w ∈ AW, w.before _ s = true := fun w h => atoms_spec (ws := wsA yX9_shortest cX9_shortest 3 (some .int)) B.pre w (List.mem_cons_of_mem _ h)
  have hown : s.vm.findClass RX9 = some m.cls := findClass_of_methodNamed B.named
  have hlocks := B.notSynchronized
  have hDT := M_dT hD0
  have S : CallFix p m c cX9_shortest 3 s ([.ref (a 0)] : List Value).toArray AW RX9 := ⟨hx, hb, hml, hown, hA⟩
  have hl := lv_entry ([.ref (a 0)]) (n := 3) (Nat.le_of_ble_eq_true rfl)
  rw [lg_entry_eq]
  generalize (lg_sl ([.ref (a 0)]) ++ List.replicate (3 - (lg_sl ([.ref (a 0)])).length) Slot.unset).toArray = ls at hl ⊢
  have hl : lv_has ls 3 [(0, .ref (a 0))] := hl
  have hL5 : ∀ (k : Nat) (v1 : Int32) (v2 : Int32) (ls : Array Slot) (o1 : Int32), L_X9_shortest_5 N φ k v1 v2 = some o1 → lv_has ls 3 [(0, .ref (a 0)), (1, .int v1), (2, .int v2)] → (∀ (ls1 : Array Slot), lv_has ls1 3 [(0, .ref (a 0)), (1, .int o1)] → W p l e (headSpec (wsA yX9_shortest cX9_shortest 3 (some .int)) { frames := 0, cells := 0, slots := 0, locals := 0 }).room s m ([.ref (a 0)] : List Value).toArray below meth c s.heap [] 0 0 (MQ below (vp_Si (fun r => r = r0)) ([.ref (a 0)] : List Value).toArray s 0 0 (fun _ => False)) (F0 m 58 ls1 [])) → W p l e (headSpec (wsA yX9_shortest cX9_shortest 3 (some .int)) { frames := 0, cells := 0, slots := 0, locals := 0 }).room s m ([.ref (a 0)] : List Value).toArray below meth c s.heap [] 0 0 (MQ below (vp_Si (fun r => r = r0)) ([.ref (a 0)] : List Value).toArray s 0 0 (fun _ => False)) (F0 m 5 ls []) := by
    intro k
    induction k with
    | zero =>
      intro v1 v2 ls o1 h hl kk
      exact no_s h
    | succ k ih =>
      intro v1 v2 ls o1 h hl kk
      replace h : B_X9_shortest_5 N φ (L_X9_shortest_5 N φ k) v1 v2 = some o1 := h
      unfold B_X9_shortest_5 at h
      refine lv_iload_n hx hb dX9_shortest_5 rfl (lv_at hl 2 rfl) ?_
      refine lv_sipush (v := 1042) hx hb dX9_shortest_6 (by decide) ?_
      refine lv_icmp_ge (tgt := 58) hx hb dX9_shortest_9 (by decide) (fun hc => ?_) (fun hc => ?_)
      · replace h := oi_t hc h
        obtain rfl := os1 h
        exact kk _ (lv_sub hl [0, 1] rfl)
      · replace h := oi_f hc h
        refine lv_aload_n hx hb dX9_shortest_12 rfl (lv_at hl 0 rfl) ?_
        refine M_g0_0 hx hb hA hown aF_RX9_7 hK hP dX9_shortest_13 ?_
        refine lv_iload_n hx hb dX9_shortest_16 rfl (lv_at hl 2 rfl) ?_
        obtain ⟨i1, h⟩ := oin_e h
        refine M_ld1 hx hb hK hP i1 dX9_shortest_17 ?_
        refine lv_iconst (v := (-1)) hx hb dX9_shortest_18 (by decide) ?_
        refine lv_icmp_eq (tgt := 50) hx hb dX9_shortest_19 (by decide) (fun hc => ?_) (fun hc => ?_)
        · replace h := oi_t hc h
          refine lv_iload_n hx hb dX9_shortest_50 rfl (lv_at hl 1 rfl) ?_
          refine lv_istore_n (lv' := [(1, .int v1), (0, .ref (a 0)), (2, .int v2)]) hx hb dX9_shortest_51 rfl hl (by decide) rfl (fun ls hl => ?_)
          refine lv_iinc (v := v2 + 4) (lv' := [(2, .int (v2 + 4)), (1, .int v1), (0, .ref (a 0))]) hx hb dX9_shortest_52 hl (k := 2) rfl (fm_inc _ _ _ (by decide)) (by decide) rfl (fun ls hl => ?_)
          refine lv_goto (tgt := 5) hx hb dX9_shortest_55 (by decide) ?_
          exact ih _ _ _ _ h (lv_sub hl [2, 1, 0] rfl) kk
        · replace h := oi_f hc h
          refine lv_iload_n hx hb dX9_shortest_22 rfl (lv_at hl 1 rfl) ?_
          refine lv_iconst (v := (-1)) hx hb dX9_shortest_23 (by decide) ?_
          refine lv_icmp_eq (tgt := 39) hx hb dX9_shortest_24 (by decide) (fun hc => ?_) (fun hc => ?_)
          · replace h := oi_t hc h
            refine lv_aload_n hx hb dX9_shortest_39 rfl (lv_at hl 0 rfl) ?_
            refine M_g0_0 hx hb hA hown aF_RX9_7 hK hP dX9_shortest_40 ?_
            refine lv_iload_n hx hb dX9_shortest_43 rfl (lv_at hl 2 rfl) ?_
            refine lv_iconst (v := 1) hx hb dX9_shortest_44 (by decide) ?_
            refine lv_iadd hx hb dX9_shortest_45 ?_
            obtain ⟨i2, h⟩ := oin_e h
            refine M_ld1 hx hb hK hP i2 dX9_shortest_46 ?_
            refine lv_goto (tgt := 51) hx hb dX9_shortest_47 (by decide) ?_
            refine lv_topi (fun x3 ex3 => ?_)
            replace h := olet_s ex3 h
            refine lv_istore_n (lv' := [(1, .int x3), (0, .ref (a 0)), (2, .int v2)]) hx hb dX9_shortest_51 rfl hl (by decide) rfl (fun ls hl => ?_)
            refine lv_iinc (v := v2 + 4) (lv' := [(2, .int (v2 + 4)), (1, .int x3), (0, .ref (a 0))]) hx hb dX9_shortest_52 hl (k := 2) rfl (fm_inc _ _ _ (by decide)) (by decide) rfl (fun ls hl => ?_)
            refine lv_goto (tgt := 5) hx hb dX9_shortest_55 (by decide) ?_
            exact ih _ _ _ _ h (lv_sub hl [2, 1, 0] rfl) kk
          · replace h := oi_f hc h
            refine lv_aload_n hx hb dX9_shortest_27 rfl (lv_at hl 0 rfl) ?_
            refine M_g0_0 hx hb hA hown aF_RX9_7 hK hP dX9_shortest_28 ?_
            refine lv_iload_n hx hb dX9_shortest_31 rfl (lv_at hl 2 rfl) ?_
            refine lv_iconst (v := 1) hx hb dX9_shortest_32 (by decide) ?_
            refine lv_iadd hx hb dX9_shortest_33 ?_
            obtain ⟨i4, h⟩ := oin_e h
            refine M_ld1 hx hb hK hP i4 dX9_shortest_34 ?_
            refine lv_iload_n hx hb dX9_shortest_35 rfl (lv_at hl 1 rfl) ?_
            refine lv_icmp_ge (tgt := 50) hx hb dX9_shortest_36 (by decide) (fun hc => ?_) (fun hc => ?_)
            · replace h := oi_t hc h
              refine lv_iload_n hx hb dX9_shortest_50 rfl (lv_at hl 1 rfl) ?_
              refine lv_istore_n (lv' := [(1, .int v1), (0, .ref (a 0)), (2, .int v2)]) hx hb dX9_shortest_51 rfl hl (by decide) rfl (fun ls hl => ?_)
              refine lv_iinc (v := v2 + 4) (lv' := [(2, .int (v2 + 4)), (1, .int v1), (0, .ref (a 0))]) hx hb dX9_shortest_52 hl (k := 2) rfl (fm_inc _ _ _ (by decide)) (by decide) rfl (fun ls hl => ?_)
              refine lv_goto (tgt := 5) hx hb dX9_shortest_55 (by decide) ?_
              exact ih _ _ _ _ h (lv_sub hl [2, 1, 0] rfl) kk
            · replace h := oi_f hc h
              refine lv_aload_n hx hb dX9_shortest_39 rfl (lv_at hl 0 rfl) ?_
              refine M_g0_0 hx hb hA hown aF_RX9_7 hK hP dX9_shortest_40 ?_
              refine lv_iload_n hx hb dX9_shortest_43 rfl (lv_at hl 2 rfl) ?_
              refine lv_iconst (v := 1) hx hb dX9_shortest_44 (by decide) ?_
              refine lv_iadd hx hb dX9_shortest_45 ?_
              obtain ⟨i5, h⟩ := oin_e h
              refine M_ld1 hx hb hK hP i5 dX9_shortest_46 ?_
              refine lv_goto (tgt := 51) hx hb dX9_shortest_47 (by decide) ?_
              refine lv_topi (fun x6 ex6 => ?_)
              replace h := olet_s ex6 h
              refine lv_istore_n (lv' := [(1, .int x6), (0, .ref (a 0)), (2, .int v2)]) hx hb dX9_shortest_51 rfl hl (by decide) rfl (fun ls hl => ?_)
              refine lv_iinc (v := v2 + 4) (lv' := [(2, .int (v2 + 4)), (1, .int x6), (0, .ref (a 0))]) hx hb dX9_shortest_52 hl (k := 2) rfl (fm_inc _ _ _ (by decide)) (by decide) rfl (fun ls hl => ?_)
              refine lv_goto (tgt := 5) hx hb dX9_shortest_55 (by decide) ?_
              exact ih _ _ _ _ h (lv_sub hl [2, 1, 0] rfl) kk
  have hL60 : ∀ (k : Nat) (v1 : Int32) (v2 : Int32) (ls : Array Slot) (o1 : Int32), L_X9_shortest_60 N φ k v1 v2 = some o1 → lv_has ls 3 [(0, .ref (a 0)), (1, .int v1), (2, .int v2)] → (∀ (ls1 : Array Slot), lv_has ls1 3 [(1, .int o1)] → W p l e (headSpec (wsA yX9_shortest cX9_shortest 3 (some .int)) { frames := 0, cells := 0, slots := 0, locals := 0 }).room s m ([.ref (a 0)] : List Value).toArray below meth c s.heap [] 0 0 (MQ below (vp_Si (fun r => r = r0)) ([.ref (a 0)] : List Value).toArray s 0 0 (fun _ => False)) (F0 m 116 ls1 [])) → W p l e (headSpec (wsA yX9_shortest cX9_shortest 3 (some .int)) { frames := 0, cells := 0, slots := 0, locals := 0 }).room s m ([.ref (a 0)] : List Value).toArray below meth c s.heap [] 0 0 (MQ below (vp_Si (fun r => r = r0)) ([.ref (a 0)] : List Value).toArray s 0 0 (fun _ => False)) (F0 m 60 ls []) := by
    intro k
    induction k with
    | zero =>
      intro v1 v2 ls o1 h hl kk
      exact no_s h
    | succ k ih =>
      intro v1 v2 ls o1 h hl kk
      replace h : B_X9_shortest_60 N φ (L_X9_shortest_60 N φ k) v1 v2 = some o1 := h
      unfold B_X9_shortest_60 at h
      have hJ92 : ∀ (v2 : Int32) (ls : Array Slot), J_X9_shortest_92_60 (L_X9_shortest_60 N φ k) N φ v2 = some o1 → lv_has ls 3 [(0, .ref (a 0)), (2, .int v2)] → W p l e (headSpec (wsA yX9_shortest cX9_shortest 3 (some .int)) { frames := 0, cells := 0, slots := 0, locals := 0 }).room s m ([.ref (a 0)] : List Value).toArray below meth c s.heap [] 0 0 (MQ below (vp_Si (fun r => r = r0)) ([.ref (a 0)] : List Value).toArray s 0 0 (fun _ => False)) (F0 m 92 ls []) := by
        intro v2 ls h hl
        unfold J_X9_shortest_92_60 at h
        refine lv_aload_n hx hb dX9_shortest_92 rfl (lv_at hl 0 rfl) ?_
        refine M_g0_0 hx hb hA hown aF_RX9_7 hK hP dX9_shortest_93 ?_
        refine lv_bipush (v := 6) hx hb dX9_shortest_96 (by decide) ?_
        refine lv_iconst (v := 4) hx hb dX9_shortest_98 (by decide) ?_
        refine lv_iload_n hx hb dX9_shortest_99 rfl (lv_at hl 1 rfl) ?_
        refine lv_imul hx hb dX9_shortest_100 ?_
        refine lv_iadd hx hb dX9_shortest_101 ?_
        refine lv_iconst (v := 1) hx hb dX9_shortest_102 (by decide) ?_
        refine lv_iadd hx hb dX9_shortest_103 ?_
        obtain ⟨i10, h⟩ := oin_e h
        refine M_ld1 hx hb hK hP i10 dX9_shortest_104 ?_
        refine lv_goto (tgt := 109) hx hb dX9_shortest_105 (by decide) ?_
        refine lv_topi (fun x11 ex11 => ?_)
        replace h := olet_s ex11 h
        refine lv_istore_n (lv' := [(1, .int x11), (0, .ref (a 0)), (2, .int v2)]) hx hb dX9_shortest_109 rfl hl (by decide) rfl (fun ls hl => ?_)
        refine lv_iinc (v := v2 + 1) (lv' := [(2, .int (v2 + 1)), (1, .int x11), (0, .ref (a 0))]) hx hb dX9_shortest_110 hl (k := 2) rfl (fm_inc _ _ _ (by decide)) (by decide) rfl (fun ls hl => ?_)
        refine lv_goto (tgt := 60) hx hb dX9_shortest_113 (by decide) ?_
        exact ih _ _ _ _ h (lv_sub hl [2, 1, 0] rfl) kk
      refine lv_iload_n hx hb dX9_shortest_60 rfl (lv_at hl 2 rfl) ?_
      refine lv_aload_n hx hb dX9_shortest_61 rfl (lv_at hl 0 rfl) ?_
      refine M_g0_0 hx hb hA hown aF_RX9_7 hK hP dX9_shortest_62 ?_
      refine lv_iconst (v := 5) hx hb dX9_shortest_65 (by decide) ?_
      obtain ⟨i9, h⟩ := oin_e h
      refine M_ld1 hx hb hK hP i9 dX9_shortest_66 ?_
      refine lv_icmp_ge (tgt := 116) hx hb dX9_shortest_67 (by decide) (fun hc => ?_) (fun hc => ?_)
      · replace h := oi_t hc h
        obtain rfl := os1 h
        exact kk _ (lv_sub hl [1] rfl)
      · replace h := oi_f hc h
        refine lv_iload_n hx hb dX9_shortest_70 rfl (lv_at hl 1 rfl) ?_
        refine lv_iconst (v := (-1)) hx hb dX9_shortest_71 (by decide) ?_
        refine lv_icmp_eq (tgt := 92) hx hb dX9_shortest_72 (by decide) (fun hc => ?_) (fun hc => ?_)
        · replace h := oi_t hc h
          exact hJ92 _ _ h (lv_sub hl [0, 2] rfl)
        · replace h := oi_f hc h
          refine lv_aload_n hx hb dX9_shortest_75 rfl (lv_at hl 0 rfl) ?_
          refine M_g0_0 hx hb hA hown aF_RX9_7 hK hP dX9_shortest_76 ?_
          refine lv_bipush (v := 6) hx hb dX9_shortest_79 (by decide) ?_
          refine lv_iconst (v := 4) hx hb dX9_shortest_81 (by decide) ?_
          refine lv_iload_n hx hb dX9_shortest_82 rfl (lv_at hl 2 rfl) ?_
          refine lv_imul hx hb dX9_shortest_83 ?_
          refine lv_iadd hx hb dX9_shortest_84 ?_
          refine lv_iconst (v := 1) hx hb dX9_shortest_85 (by decide) ?_
          refine lv_iadd hx hb dX9_shortest_86 ?_
          obtain ⟨i12, h⟩ := oin_e h
          refine M_ld1 hx hb hK hP i12 dX9_shortest_87 ?_
          refine lv_iload_n hx hb dX9_shortest_88 rfl (lv_at hl 1 rfl) ?_
          refine lv_icmp_ge (tgt := 108) hx hb dX9_shortest_89 (by decide) (fun hc => ?_) (fun hc => ?_)
          · replace h := oi_t hc h
            refine lv_iload_n hx hb dX9_shortest_108 rfl (lv_at hl 1 rfl) ?_
            refine lv_istore_n (lv' := [(1, .int v1), (0, .ref (a 0)), (2, .int v2)]) hx hb dX9_shortest_109 rfl hl (by decide) rfl (fun ls hl => ?_)
            refine lv_iinc (v := v2 + 1) (lv' := [(2, .int (v2 + 1)), (1, .int v1), (0, .ref (a 0))]) hx hb dX9_shortest_110 hl (k := 2) rfl (fm_inc _ _ _ (by decide)) (by decide) rfl (fun ls hl => ?_)
            refine lv_goto (tgt := 60) hx hb dX9_shortest_113 (by decide) ?_
            exact ih _ _ _ _ h (lv_sub hl [2, 1, 0] rfl) kk
          · replace h := oi_f hc h
            exact hJ92 _ _ h (lv_sub hl [0, 2] rfl)
  have h := hF
  unfold G_X9_shortest at h
  refine lv_iconst (v := (-1)) hx hb dX9_shortest_0 (by decide) ?_
  refine lv_istore_n (lv' := [(1, .int ((-1))), (0, .ref (a 0))]) hx hb dX9_shortest_1 rfl hl (by decide) rfl (fun ls hl => ?_)
  refine lv_bipush (v := 18) hx hb dX9_shortest_2 (by decide) ?_
  refine lv_istore_n (lv' := [(2, .int 18), (1, .int ((-1))), (0, .ref (a 0))]) hx hb dX9_shortest_4 rfl hl (by decide) rfl (fun ls hl => ?_)
  obtain ⟨y7, h8, h⟩ := obd_e h
  refine hL5 N _ _ _ _ h8 (lv_sub hl [2, 1, 0] rfl) (fun ls hl => ?_)
  refine lv_iconst (v := 0) hx hb dX9_shortest_58 (by decide) ?_
  refine lv_istore_n (lv' := [(2, .int 0), (0, .ref (a 0)), (1, .int y7)]) hx hb dX9_shortest_59 rfl hl (by decide) rfl (fun ls hl => ?_)
  obtain ⟨y13, h14, h⟩ := obd_e h
  refine hL60 N _ _ _ _ h14 (lv_sub hl [1, 2, 0] rfl) (fun ls hl => ?_)
  refine lv_iload_n hx hb dX9_shortest_116 rfl (lv_at hl 0 rfl) ?_
  obtain rfl := os1 h
  exact W.iret (v := y13) hx hb hr (fun t ht hW => ⟨_, rfl, rfl, ht⟩) (fun q hq => absurd hq List.not_mem_nil) dX9_shortest_117
theorem k_X9_shortest {p : Program} {l : Launch} {e : Env} {R : Room} {s : State} {m : MethodId} {args : Array Value} {below : List Frame} {meth : Method} {c : Code} {H : Heap} {locs : List Loc} {cells slots : Nat} {Q : State → Prop} {cc : ByteArray} {pc nL idx : Nat} {ls : Array Slot} {rest : List Value} {own : String} {D : va_G} {cI : ClassId} {a : Nat → Nat} {N : Nat} {φ : M2} {hv : Int64} {r0 : Int32} (S : CallFix p m c cc nL s args AW own) (h1 : Cond.methodLink own idx yX9_shortest ∈ AW) (hR : 0 + 1 ≤ R.frames ∧ 8 + (3 + 11) + 0 ≤ R.locals) (hc : cells ≤ R.cells ∧ slots ≤ R.slots) (hP : va_P D vwCl (mbW cI a φ hv) H) (hK : va_K D vwCl [(cI, .int)] s) (hDT : ∀ (φ2 : M2) (hv2 : Int64), va_D (fun _ => True) (mbW cI a φ2 hv2)) (hF : G_X9_shortest N φ = some r0) (hsz : ls.size = nL) (hW : (rest.map fun v => v.category).sum ≤ 8) (hdg : decode cc pc = .ok (.invokevirtual idx, 3)) (kk : W p l e R s m args below meth c H locs cells slots Q (F0 m (pc + 3) ls (.int r0 :: rest))) : W p l e R s m args below meth c H locs cells slots Q (F0 m pc ls (.ref (a 0) :: rest)) :=
  fm_runV (n := 0) (C := RX9) (As := []) S (c_X9_shortest l D cI a N φ hv r0 hF) (M_pre (q0 := 0) (ci := 7) hK hP (hDT _ _) rfl rfl) h1 aI_X9_shortest aV_X9_shortest aN_RX9 aC_X9_shortest rfl rfl (by decide +kernel) rfl hR hc hsz hW hdg (fun r hr => by subst hr; exact kk)
set_option maxHeartbeats 4000000 in
set_option maxRecDepth 100000 in
theorem c_X9_mayGrow (l : Launch) (D : va_G) (cI : ClassId) (a : Nat → Nat) (N : Nat) (φ : M2) (hv : Int64) (r0 : Int32) (hF : G_X9_mayGrow N φ = some r0) : Met l yX9_mayGrow (wsA yX9_mayGrow cX9_mayGrow 1 (some .boolean)) { frames := 1, cells := 0, slots := 0, locals := 22 } (va_Pc [.ref (a 0)] (mbP D cI a φ hv)) (vp_Si (fun r => r = r0 ∧ (r = 0 ∨ r = 1))) 0 0 (fun _ => False) := by
  refine Met.ofW (cc := cX9_mayGrow) (maxL := 1) (ret := (some .boolean)) (by decide) rfl ?_
  intro p e s m args below meth c s₁ B hml hpre
  obtain ⟨rfl, hP, hK, hD0⟩ := hpre
  have hx := B.exec
  have hb := B.bytes
  have hr := B.returns
  have hA : ∀ w ∈ AW, w.before _ s = true := fun w h => atoms_spec (ws := wsA yX9_mayGrow cX9_mayGrow 1 (some .boolean)) B.pre w (List.mem_cons_of_mem _ h)
  have hown : s.vm.findClass RX9 = some m.cls := findClass_of_methodNamed B.named
  have hlocks := B.notSynchronized
  have hDT := M_dT hD0
  have S : CallFix p m c cX9_mayGrow 1 s ([.ref (a 0)] : List Value).toArray AW RX9 := ⟨hx, hb, hml, hown, hA⟩
  have hl := lv_entry ([.ref (a 0)]) (n := 1) (Nat.le_of_ble_eq_true rfl)
  rw [lg_entry_eq]
  generalize (lg_sl ([.ref (a 0)]) ++ List.replicate (1 - (lg_sl ([.ref (a 0)])).length) Slot.unset).toArray = ls at hl ⊢
  have hl : lv_has ls 1 [(0, .ref (a 0))] := hl
  have h := hF
  unfold G_X9_mayGrow at h
  refine lv_aload_n hx hb dX9_mayGrow_0 rfl (lv_at hl 0 rfl) ?_
  refine M_g0_0 hx hb hA hown aF_RX9_7 hK hP dX9_mayGrow_1 ?_
  refine lv_iconst (v := 0) hx hb dX9_mayGrow_4 (by decide) ?_
  obtain ⟨i1, h⟩ := oin_e h
  refine M_ld1 hx hb hK hP i1 dX9_mayGrow_5 ?_
  refine lv_bipush (v := 6) hx hb dX9_mayGrow_6 (by decide) ?_
  refine lv_icmp_ge (tgt := 22) hx hb dX9_mayGrow_8 (by decide) (fun hc => ?_) (fun hc => ?_)
  · replace h := oi_t hc h
    refine lv_iconst (v := 0) hx hb dX9_mayGrow_22 (by decide) ?_
    obtain rfl := os1 h
    exact W.zret (v := 0) (ty := .boolean) hx hb hr rfl (fun t ht hW => ⟨_, rfl, ⟨rfl, (Or.inl rfl)⟩, ht⟩) (fun q hq => absurd hq List.not_mem_nil) dX9_mayGrow_23
  · replace h := oi_f hc h
    refine lv_aload_n hx hb dX9_mayGrow_11 rfl (lv_at hl 0 rfl) ?_
    obtain ⟨r2, h3, h⟩ := obd_e h
    refine k_X9_shortest S aM_RX9_188 ⟨Nat.le_of_ble_eq_true rfl, Nat.le_of_ble_eq_true rfl⟩ ⟨Nat.zero_le _, Nat.zero_le _⟩ hP hK hDT h3 hl.1 (Nat.le_of_ble_eq_true rfl) dX9_mayGrow_12 ?_
    refine lv_if_eq (tgt := 22) hx hb dX9_mayGrow_15 (by decide) (fun hc => ?_) (fun hc => ?_)
    · replace h := oi_t hc h
      refine lv_iconst (v := 0) hx hb dX9_mayGrow_22 (by decide) ?_
      obtain rfl := os1 h
      exact W.zret (v := 0) (ty := .boolean) hx hb hr rfl (fun t ht hW => ⟨_, rfl, ⟨rfl, (Or.inl rfl)⟩, ht⟩) (fun q hq => absurd hq List.not_mem_nil) dX9_mayGrow_23
    · replace h := oi_f hc h
      refine lv_iconst (v := 1) hx hb dX9_mayGrow_18 (by decide) ?_
      refine lv_goto (tgt := 23) hx hb dX9_mayGrow_19 (by decide) ?_
      obtain rfl := os1 h
      exact W.zret (v := 1) (ty := .boolean) hx hb hr rfl (fun t ht hW => ⟨_, rfl, ⟨rfl, (Or.inr rfl)⟩, ht⟩) (fun q hq => absurd hq List.not_mem_nil) dX9_mayGrow_23
theorem k_X9_mayGrow {p : Program} {l : Launch} {e : Env} {R : Room} {s : State} {m : MethodId} {args : Array Value} {below : List Frame} {meth : Method} {c : Code} {H : Heap} {locs : List Loc} {cells slots : Nat} {Q : State → Prop} {cc : ByteArray} {pc nL idx : Nat} {ls : Array Slot} {rest : List Value} {own : String} {D : va_G} {cI : ClassId} {a : Nat → Nat} {N : Nat} {φ : M2} {hv : Int64} {r0 : Int32} (S : CallFix p m c cc nL s args AW own) (h1 : Cond.methodLink own idx yX9_mayGrow ∈ AW) (hR : 1 + 1 ≤ R.frames ∧ 8 + (1 + 11) + 22 ≤ R.locals) (hc : cells ≤ R.cells ∧ slots ≤ R.slots) (hP : va_P D vwCl (mbW cI a φ hv) H) (hK : va_K D vwCl [(cI, .int)] s) (hDT : ∀ (φ2 : M2) (hv2 : Int64), va_D (fun _ => True) (mbW cI a φ2 hv2)) (hF : G_X9_mayGrow N φ = some r0) (hsz : ls.size = nL) (hW : (rest.map fun v => v.category).sum ≤ 8) (hdg : decode cc pc = .ok (.invokevirtual idx, 3)) (kk : (r0 = 0 ∨ r0 = 1) → W p l e R s m args below meth c H locs cells slots Q (F0 m (pc + 3) ls (.int r0 :: rest))) : W p l e R s m args below meth c H locs cells slots Q (F0 m pc ls (.ref (a 0) :: rest)) :=
  fm_runV (n := 0) (C := RX9) (As := []) S (c_X9_mayGrow l D cI a N φ hv r0 hF) (M_pre (q0 := 0) (ci := 7) hK hP (hDT _ _) rfl rfl) h1 aI_X9_mayGrow aV_X9_mayGrow aN_RX9 aC_X9_mayGrow rfl rfl (by decide +kernel) rfl hR hc hsz hW hdg (fun r hr => by obtain ⟨rfl, hz⟩ := hr; exact kk hz)
set_option maxHeartbeats 4000000 in
set_option maxRecDepth 100000 in
theorem c_X9_grows (l : Launch) (D : va_G) (cI : ClassId) (a : Nat → Nat) (N : Nat) (φ : M2) (hv : Int64) (φr : M2) (hF : G_X9_grows N φ = some φr) : Met l yX9_grows (wsA yX9_grows cX9_grows 8 none) { frames := 5, cells := 0, slots := 0, locals := 110 } (va_Pc [.ref (a 0)] (mbP D cI a φ hv)) (va_Qv (fun (_ : Unit) => True) (fun _ t => va_P D vwCl (mbW cI a φr hv) t.heap) (mbA a)) 0 0 (mbA a) := by
  refine Met.ofW (cc := cX9_grows) (maxL := 8) (ret := none) (by decide) rfl ?_
  intro p e s m args below meth c s₁ B hml hpre
  obtain ⟨rfl, hP, hK, hD0⟩ := hpre
  have hx := B.exec
  have hb := B.bytes
  have hr := B.returns
  have hA : ∀ w ∈ AW, w.before _ s = true := fun w h => atoms_spec (ws := wsA yX9_grows cX9_grows 8 none) B.pre w (List.mem_cons_of_mem _ h)
  have hown : s.vm.findClass RX9 = some m.cls := findClass_of_methodNamed B.named
  have hlocks := B.notSynchronized
  have hDT := M_dT hD0
  have hDA := M_dA hD0
  have hS : va_S (mbA a) s.heap s.heap [] := va_S.rf
  have S : CallFix p m c cX9_grows 8 s ([.ref (a 0)] : List Value).toArray AW RX9 := ⟨hx, hb, hml, hown, hA⟩
  have hl := lv_entry ([.ref (a 0)]) (n := 8) (Nat.le_of_ble_eq_true rfl)
  rw [lg_entry_eq]
  generalize (lg_sl ([.ref (a 0)]) ++ List.replicate (8 - (lg_sl ([.ref (a 0)])).length) Slot.unset).toArray = ls at hl ⊢
  have hl : lv_has ls 8 [(0, .ref (a 0))] := hl
  have hL9 : ∀ (k : Nat) (v1 : Int32) (v2 : Int32) (φ : M2) (H : Heap) (locs : List Loc) (ls : Array Slot) (φo : M2), L_X9_grows_9 N v1 k v2 φ = some φo → va_P D vwCl (mbW cI a φ hv) H → va_S (mbA a) s.heap H locs → lv_has ls 8 [(0, .ref (a 0)), (1, .int v1), (2, .int v2)] → (∀ (H1 : Heap) (locs1 : List Loc) (ls1 : Array Slot), va_P D vwCl (mbW cI a φo hv) H1 → va_S (mbA a) s.heap H1 locs1 → lv_has ls1 8 [(0, .ref (a 0)), (1, .int v1)] → W p l e (headSpec (wsA yX9_grows cX9_grows 8 none) { frames := 5, cells := 0, slots := 0, locals := 110 }).room s m ([.ref (a 0)] : List Value).toArray below meth c H1 locs1 0 0 (MQ below (va_Qv (fun (_ : Unit) => True) (fun _ t => va_P D vwCl (mbW cI a φr hv) t.heap) (mbA a)) ([.ref (a 0)] : List Value).toArray s 0 0 (mbA a)) (F0 m 47 ls1 [])) → W p l e (headSpec (wsA yX9_grows cX9_grows 8 none) { frames := 5, cells := 0, slots := 0, locals := 110 }).room s m ([.ref (a 0)] : List Value).toArray below meth c H locs 0 0 (MQ below (va_Qv (fun (_ : Unit) => True) (fun _ t => va_P D vwCl (mbW cI a φr hv) t.heap) (mbA a)) ([.ref (a 0)] : List Value).toArray s 0 0 (mbA a)) (F0 m 9 ls []) := by
    intro k
    induction k with
    | zero =>
      intro v1 v2 φ H locs ls φo h hP hS hl kk
      exact no_s h
    | succ k ih =>
      intro v1 v2 φ H locs ls φo h hP hS hl kk
      replace h : B_X9_grows_9 N v1 (L_X9_grows_9 N v1 k) v2 φ = some φo := h
      unfold B_X9_grows_9 at h
      refine lv_iload_n hx hb dX9_grows_9 rfl (lv_at hl 2 rfl) ?_
      refine lv_sipush (v := 1024) hx hb dX9_grows_10 (by decide) ?_
      refine lv_icmp_ge (tgt := 47) hx hb dX9_grows_13 (by decide) (fun hc => ?_) (fun hc => ?_)
      · replace h := oi_t hc h
        obtain rfl := os1 h
        exact kk _ _ _ hP hS (lv_sub hl [0, 1] rfl)
      · replace h := oi_f hc h
        refine lv_aload_n hx hb dX9_grows_16 rfl (lv_at hl 0 rfl) ?_
        refine M_g0_13 hx hb hA hown aF_RX9_25 hK hP dX9_grows_17 ?_
        refine lv_iload_n hx hb dX9_grows_20 rfl (lv_at hl 2 rfl) ?_
        refine lv_aload_n hx hb dX9_grows_21 rfl (lv_at hl 0 rfl) ?_
        refine M_g0_0 hx hb hA hown aF_RX9_7 hK hP dX9_grows_22 ?_
        refine lv_bipush (v := 18) hx hb dX9_grows_25 (by decide) ?_
        refine lv_iload_n hx hb dX9_grows_27 rfl (lv_at hl 2 rfl) ?_
        refine lv_iadd hx hb dX9_grows_28 ?_
        obtain ⟨i3, h⟩ := oin_e h
        refine M_ld1 hx hb hK hP i3 dX9_grows_29 ?_
        obtain ⟨i4, h⟩ := oin_e h
        refine M_st6 hx hb hK hP (hDA _ _) hS i4 dX9_grows_30 (fun w5 H locs ew5 hP hS => ?_)
        replace h := olet_s ew5 h
        refine lv_aload_n hx hb dX9_grows_31 rfl (lv_at hl 0 rfl) ?_
        refine M_g0_0 hx hb hA hown aF_RX9_7 hK hP dX9_grows_32 ?_
        refine lv_bipush (v := 18) hx hb dX9_grows_35 (by decide) ?_
        refine lv_iload_n hx hb dX9_grows_37 rfl (lv_at hl 2 rfl) ?_
        refine lv_iadd hx hb dX9_grows_38 ?_
        refine lv_iconst (v := (-1)) hx hb dX9_grows_39 (by decide) ?_
        obtain ⟨i6, h⟩ := oin_e h
        refine M_st1 hx hb hK hP (hDA _ _) hS i6 dX9_grows_40 (fun w7 H locs ew7 hP hS => ?_)
        replace h := olet_s ew7 h
        refine lv_iinc (v := v2 + 1) (lv' := [(2, .int (v2 + 1)), (0, .ref (a 0)), (1, .int v1)]) hx hb dX9_grows_41 hl (k := 2) rfl (fm_inc _ _ _ (by decide)) (by decide) rfl (fun ls hl => ?_)
        refine lv_goto (tgt := 9) hx hb dX9_grows_44 (by decide) ?_
        exact ih _ _ _ _ _ _ _ h hP hS (lv_sub hl [1, 2, 0] rfl) kk
  have hL59 : ∀ (k : Nat) (v1 : Int32) (v2 : Int32) (φ : M2) (H : Heap) (locs : List Loc) (ls : Array Slot) (φo : M2), L_X9_grows_59 N v1 k v2 φ = some φo → va_P D vwCl (mbW cI a φ hv) H → va_S (mbA a) s.heap H locs → lv_has ls 8 [(0, .ref (a 0)), (1, .int v1), (2, .int v2)] → (∀ (H1 : Heap) (locs1 : List Loc) (ls1 : Array Slot), va_P D vwCl (mbW cI a φo hv) H1 → va_S (mbA a) s.heap H1 locs1 → lv_has ls1 8 [(0, .ref (a 0)), (1, .int v1)] → W p l e (headSpec (wsA yX9_grows cX9_grows 8 none) { frames := 5, cells := 0, slots := 0, locals := 110 }).room s m ([.ref (a 0)] : List Value).toArray below meth c H1 locs1 0 0 (MQ below (va_Qv (fun (_ : Unit) => True) (fun _ t => va_P D vwCl (mbW cI a φr hv) t.heap) (mbA a)) ([.ref (a 0)] : List Value).toArray s 0 0 (mbA a)) (F0 m 206 ls1 [])) → W p l e (headSpec (wsA yX9_grows cX9_grows 8 none) { frames := 5, cells := 0, slots := 0, locals := 110 }).room s m ([.ref (a 0)] : List Value).toArray below meth c H locs 0 0 (MQ below (va_Qv (fun (_ : Unit) => True) (fun _ t => va_P D vwCl (mbW cI a φr hv) t.heap) (mbA a)) ([.ref (a 0)] : List Value).toArray s 0 0 (mbA a)) (F0 m 59 ls []) := by
    intro k
    induction k with
    | zero =>
      intro v1 v2 φ H locs ls φo h hP hS hl kk
      exact no_s h
    | succ k ih =>
      intro v1 v2 φ H locs ls φo h hP hS hl kk
      replace h : B_X9_grows_59 N v1 (L_X9_grows_59 N v1 k) v2 φ = some φo := h
      unfold B_X9_grows_59 at h
      have hJ159 : ∀ (v2 : Int32) (v3 : Int32) (v4 : Int32) (s0 : Int32) (φ : M2) (H : Heap) (locs : List Loc) (ls : Array Slot), J_X9_grows_159_59 (L_X9_grows_59 N v1 k) N φ v1 v2 v3 v4 s0 = some φo → va_P D vwCl (mbW cI a φ hv) H → va_S (mbA a) s.heap H locs → lv_has ls 8 [(0, .ref (a 0)), (1, .int v1), (2, .int v2), (3, .int v3), (4, .int v4)] → W p l e (headSpec (wsA yX9_grows cX9_grows 8 none) { frames := 5, cells := 0, slots := 0, locals := 110 }).room s m ([.ref (a 0)] : List Value).toArray below meth c H locs 0 0 (MQ below (va_Qv (fun (_ : Unit) => True) (fun _ t => va_P D vwCl (mbW cI a φr hv) t.heap) (mbA a)) ([.ref (a 0)] : List Value).toArray s 0 0 (mbA a)) (F0 m 159 ls [.int s0]) := by
        intro v2 v3 v4 s0 φ H locs ls h hP hS hl
        unfold J_X9_grows_159_59 at h
        refine lv_istore (lv' := [(7, .int s0), (0, .ref (a 0)), (1, .int v1), (2, .int v2), (3, .int v3), (4, .int v4)]) hx hb dX9_grows_159 hl (by decide) rfl (fun ls hl => ?_)
        refine lv_aload_n hx hb dX9_grows_161 rfl (lv_at hl 1 rfl) ?_
        refine lv_iload hx hb dX9_grows_162 (lv_at hl 0 rfl) ?_
        refine lv_iload_n hx hb dX9_grows_164 rfl (lv_at hl 3 rfl) ?_
        refine lv_iconst (v := 4) hx hb dX9_grows_165 (by decide) ?_
        refine lv_irem hx hb dX9_grows_166 (by decide) ?_
        refine lv_iload hx hb dX9_grows_167 (lv_at hl 5 rfl) ?_
        refine lv_aload_n hx hb dX9_grows_169 rfl (lv_at hl 1 rfl) ?_
        refine M_g0_13 hx hb hA hown aF_RX9_25 hK hP dX9_grows_170 ?_
        refine lv_iload_n hx hb dX9_grows_173 rfl (lv_at hl 4 rfl) ?_
        refine lv_iconst (v := 1) hx hb dX9_grows_174 (by decide) ?_
        refine lv_iadd hx hb dX9_grows_175 ?_
        obtain ⟨i26, h⟩ := oin_e h
        refine M_ld6 hx hb hK hP i26 dX9_grows_176 ?_
        refine lv_iconst (v := 1) hx hb dX9_grows_177 (by decide) ?_
        refine lv_isub hx hb dX9_grows_178 ?_
        refine lv_aload_n hx hb dX9_grows_179 rfl (lv_at hl 1 rfl) ?_
        refine M_g0_13 hx hb hA hown aF_RX9_25 hK hP dX9_grows_180 ?_
        refine lv_iload_n hx hb dX9_grows_183 rfl (lv_at hl 4 rfl) ?_
        refine lv_iconst (v := 2) hx hb dX9_grows_184 (by decide) ?_
        refine lv_iadd hx hb dX9_grows_185 ?_
        obtain ⟨i27, h⟩ := oin_e h
        refine M_ld6 hx hb hK hP i27 dX9_grows_186 ?_
        refine lv_iconst (v := 2) hx hb dX9_grows_187 (by decide) ?_
        refine lv_idiv hx hb dX9_grows_188 (by decide) ?_
        refine lv_aload_n hx hb dX9_grows_189 rfl (lv_at hl 1 rfl) ?_
        refine M_g0_13 hx hb hA hown aF_RX9_25 hK hP dX9_grows_190 ?_
        refine lv_iload_n hx hb dX9_grows_193 rfl (lv_at hl 4 rfl) ?_
        refine lv_iconst (v := 3) hx hb dX9_grows_194 (by decide) ?_
        refine lv_iadd hx hb dX9_grows_195 ?_
        obtain ⟨i28, h⟩ := oin_e h
        refine M_ld6 hx hb hK hP i28 dX9_grows_196 ?_
        obtain ⟨w29, h30, h⟩ := obd_e h
        refine k_X9_put S aM_RX9_148 ⟨Nat.le_of_ble_eq_true rfl, Nat.le_of_ble_eq_true rfl⟩ ⟨Nat.zero_le _, Nat.zero_le _⟩ hP hK hDT hS h30 hl.1 (Nat.le_of_ble_eq_true rfl) dX9_grows_197 (fun H locs hP hS => ?_)
        refine lv_iinc (v := v2 + 1) (lv' := [(2, .int (v2 + 1)), (7, .int s0), (0, .ref (a 0)), (1, .int v1), (3, .int v3), (4, .int v4)]) hx hb dX9_grows_200 hl (k := 3) rfl (fm_inc _ _ _ (by decide)) (by decide) rfl (fun ls hl => ?_)
        refine lv_goto (tgt := 59) hx hb dX9_grows_203 (by decide) ?_
        exact ih _ _ _ _ _ _ _ h hP hS (lv_sub hl [2, 3, 0] rfl) kk
      have hJ114 : ∀ (v2 : Int32) (v3 : Int32) (v4 : Int32) (s0 : Int32) (φ : M2) (H : Heap) (locs : List Loc) (ls : Array Slot), J_X9_grows_114_59 (L_X9_grows_59 N v1 k) N φ v1 v2 v3 v4 s0 = some φo → va_P D vwCl (mbW cI a φ hv) H → va_S (mbA a) s.heap H locs → lv_has ls 8 [(0, .ref (a 0)), (1, .int v1), (2, .int v2), (3, .int v3), (4, .int v4)] → W p l e (headSpec (wsA yX9_grows cX9_grows 8 none) { frames := 5, cells := 0, slots := 0, locals := 110 }).room s m ([.ref (a 0)] : List Value).toArray below meth c H locs 0 0 (MQ below (va_Qv (fun (_ : Unit) => True) (fun _ t => va_P D vwCl (mbW cI a φr hv) t.heap) (mbA a)) ([.ref (a 0)] : List Value).toArray s 0 0 (mbA a)) (F0 m 114 ls [.int s0]) := by
        intro v2 v3 v4 s0 φ H locs ls h hP hS hl
        unfold J_X9_grows_114_59 at h
        refine lv_aload_n hx hb dX9_grows_114 rfl (lv_at hl 0 rfl) ?_
        refine M_g0_13 hx hb hA hown aF_RX9_25 hK hP dX9_grows_115 ?_
        refine lv_iload_n hx hb dX9_grows_118 rfl (lv_at hl 3 rfl) ?_
        refine lv_iconst (v := 2) hx hb dX9_grows_119 (by decide) ?_
        refine lv_iadd hx hb dX9_grows_120 ?_
        obtain ⟨i20, h⟩ := oin_e h
        refine M_ld6 hx hb hK hP i20 dX9_grows_121 ?_
        refine lv_iconst (v := 2) hx hb dX9_grows_122 (by decide) ?_
        refine lv_irem hx hb dX9_grows_123 (by decide) ?_
        refine lv_iload_n hx hb dX9_grows_124 rfl (lv_at hl 1 rfl) ?_
        refine lv_ishl hx hb dX9_grows_125 ?_
        refine lv_iadd hx hb dX9_grows_126 ?_
        refine lv_topi (fun x21 ex21 => ?_)
        replace h := olet_s ex21 h
        refine lv_istore (lv' := [(6, .int x21), (0, .ref (a 0)), (1, .int v1), (2, .int v2), (3, .int v3), (4, .int v4)]) hx hb dX9_grows_127 hl (by decide) rfl (fun ls hl => ?_)
        refine lv_aload_n hx hb dX9_grows_129 rfl (lv_at hl 1 rfl) ?_
        refine M_g0_13 hx hb hA hown aF_RX9_25 hK hP dX9_grows_130 ?_
        refine lv_iload_n hx hb dX9_grows_133 rfl (lv_at hl 4 rfl) ?_
        refine lv_iconst (v := 3) hx hb dX9_grows_134 (by decide) ?_
        refine lv_iadd hx hb dX9_grows_135 ?_
        obtain ⟨i22, h⟩ := oin_e h
        refine M_ld6 hx hb hK hP i22 dX9_grows_136 ?_
        refine lv_if_ne (tgt := 145) hx hb dX9_grows_137 (by decide) (fun hc => ?_) (fun hc => ?_)
        · replace h := oi_f hc h
          refine lv_iload hx hb dX9_grows_145 (lv_at hl 0 rfl) ?_
          refine lv_iload hx hb dX9_grows_147 (lv_at hl 5 rfl) ?_
          refine lv_aload_n hx hb dX9_grows_149 rfl (lv_at hl 1 rfl) ?_
          refine M_g0_0 hx hb hA hown aF_RX9_7 hK hP dX9_grows_150 ?_
          refine lv_iconst (v := 0) hx hb dX9_grows_153 (by decide) ?_
          obtain ⟨i23, h⟩ := oin_e h
          refine M_ld1 hx hb hK hP i23 dX9_grows_154 ?_
          obtain ⟨r24, h25, h⟩ := obd_e h
          refine k_X9_stepOf S aM_RX9_114 ⟨Nat.le_of_ble_eq_true rfl, Nat.le_of_ble_eq_true rfl⟩ ⟨Nat.zero_le _, Nat.zero_le _⟩ h25 hl.1 (Nat.le_of_ble_eq_true rfl) dX9_grows_155 ?_
          refine lv_ixor hx hb dX9_grows_158 ?_
          exact hJ159 _ _ _ _ _ _ _ _ h hP hS (lv_sub hl [1, 2, 3, 4, 5] rfl)
        · replace h := oi_t hc h
          refine lv_iload hx hb dX9_grows_140 (lv_at hl 0 rfl) ?_
          refine lv_goto (tgt := 159) hx hb dX9_grows_142 (by decide) ?_
          exact hJ159 _ _ _ _ _ _ _ _ h hP hS (lv_sub hl [1, 2, 3, 4, 5] rfl)
      refine lv_iload_n hx hb dX9_grows_59 rfl (lv_at hl 2 rfl) ?_
      refine lv_sipush (v := 256) hx hb dX9_grows_60 (by decide) ?_
      refine lv_icmp_ge (tgt := 206) hx hb dX9_grows_63 (by decide) (fun hc => ?_) (fun hc => ?_)
      · replace h := oi_t hc h
        obtain rfl := os1 h
        exact kk _ _ _ hP hS (lv_sub hl [0, 1] rfl)
      · replace h := oi_f hc h
        refine lv_iconst (v := 4) hx hb dX9_grows_66 (by decide) ?_
        refine lv_iload_n hx hb dX9_grows_67 rfl (lv_at hl 2 rfl) ?_
        refine lv_imul hx hb dX9_grows_68 ?_
        refine lv_topi (fun x13 ex13 => ?_)
        replace h := olet_s ex13 h
        refine lv_istore_n (lv' := [(3, .int x13), (0, .ref (a 0)), (1, .int v1), (2, .int v2)]) hx hb dX9_grows_69 rfl hl (by decide) rfl (fun ls hl => ?_)
        refine lv_aload_n hx hb dX9_grows_70 rfl (lv_at hl 1 rfl) ?_
        refine M_g0_13 hx hb hA hown aF_RX9_25 hK hP dX9_grows_71 ?_
        refine lv_iload_n hx hb dX9_grows_74 rfl (lv_at hl 0 rfl) ?_
        obtain ⟨i14, h⟩ := oin_e h
        refine M_ld6 hx hb hK hP i14 dX9_grows_75 ?_
        refine lv_topi (fun x15 ex15 => ?_)
        replace h := olet_s ex15 h
        refine lv_istore (lv' := [(4, .int x15), (3, .int x13), (0, .ref (a 0)), (1, .int v1), (2, .int v2)]) hx hb dX9_grows_76 hl (by decide) rfl (fun ls hl => ?_)
        refine lv_iload hx hb dX9_grows_78 (lv_at hl 0 rfl) ?_
        refine lv_iconst (v := (-1)) hx hb dX9_grows_80 (by decide) ?_
        refine lv_icmp_eq (tgt := 200) hx hb dX9_grows_81 (by decide) (fun hc => ?_) (fun hc => ?_)
        · replace h := oi_t hc h
          refine lv_iinc (v := v2 + 1) (lv' := [(2, .int (v2 + 1)), (4, .int x15), (3, .int x13), (0, .ref (a 0)), (1, .int v1)]) hx hb dX9_grows_200 hl (k := 4) rfl (fm_inc _ _ _ (by decide)) (by decide) rfl (fun ls hl => ?_)
          refine lv_goto (tgt := 59) hx hb dX9_grows_203 (by decide) ?_
          exact ih _ _ _ _ _ _ _ h hP hS (lv_sub hl [3, 4, 0] rfl) kk
        · replace h := oi_f hc h
          refine lv_iload_n hx hb dX9_grows_84 rfl (lv_at hl 4 rfl) ?_
          refine lv_iconst (v := 4) hx hb dX9_grows_85 (by decide) ?_
          refine lv_idiv hx hb dX9_grows_86 (by decide) ?_
          refine lv_topi (fun x16 ex16 => ?_)
          replace h := olet_s ex16 h
          refine lv_istore (lv' := [(5, .int x16), (4, .int x15), (3, .int x13), (0, .ref (a 0)), (1, .int v1), (2, .int v2)]) hx hb dX9_grows_87 hl (by decide) rfl (fun ls hl => ?_)
          refine lv_aload_n hx hb dX9_grows_89 rfl (lv_at hl 3 rfl) ?_
          refine M_g0_13 hx hb hA hown aF_RX9_25 hK hP dX9_grows_90 ?_
          refine lv_iload_n hx hb dX9_grows_93 rfl (lv_at hl 2 rfl) ?_
          refine lv_iconst (v := 3) hx hb dX9_grows_94 (by decide) ?_
          refine lv_iadd hx hb dX9_grows_95 ?_
          obtain ⟨i17, h⟩ := oin_e h
          refine M_ld6 hx hb hK hP i17 dX9_grows_96 ?_
          refine lv_if_ne (tgt := 105) hx hb dX9_grows_97 (by decide) (fun hc => ?_) (fun hc => ?_)
          · replace h := oi_f hc h
            refine lv_iload hx hb dX9_grows_105 (lv_at hl 0 rfl) ?_
            refine lv_iload hx hb dX9_grows_107 (lv_at hl 1 rfl) ?_
            refine lv_iload_n hx hb dX9_grows_109 rfl (lv_at hl 4 rfl) ?_
            obtain ⟨r18, h19, h⟩ := obd_e h
            refine k_X9_stepOf S aM_RX9_114 ⟨Nat.le_of_ble_eq_true rfl, Nat.le_of_ble_eq_true rfl⟩ ⟨Nat.zero_le _, Nat.zero_le _⟩ h19 hl.1 (Nat.le_of_ble_eq_true rfl) dX9_grows_110 ?_
            refine lv_ixor hx hb dX9_grows_113 ?_
            exact hJ114 _ _ _ _ _ _ _ _ h hP hS (lv_sub hl [3, 4, 5, 2, 1] rfl)
          · replace h := oi_t hc h
            refine lv_iload hx hb dX9_grows_100 (lv_at hl 0 rfl) ?_
            refine lv_goto (tgt := 114) hx hb dX9_grows_102 (by decide) ?_
            exact hJ114 _ _ _ _ _ _ _ _ h hP hS (lv_sub hl [3, 4, 5, 2, 1] rfl)
  have hL208 : ∀ (k : Nat) (v1 : Int32) (v2 : Int32) (φ : M2) (H : Heap) (locs : List Loc) (ls : Array Slot) (φo : M2), L_X9_grows_208 N v1 k v2 φ = some φo → va_P D vwCl (mbW cI a φ hv) H → va_S (mbA a) s.heap H locs → lv_has ls 8 [(0, .ref (a 0)), (1, .int v1), (2, .int v2)] → (∀ (H1 : Heap) (locs1 : List Loc) (ls1 : Array Slot), va_P D vwCl (mbW cI a φo hv) H1 → va_S (mbA a) s.heap H1 locs1 → lv_has ls1 8 [(0, .ref (a 0))] → W p l e (headSpec (wsA yX9_grows cX9_grows 8 none) { frames := 5, cells := 0, slots := 0, locals := 110 }).room s m ([.ref (a 0)] : List Value).toArray below meth c H1 locs1 0 0 (MQ below (va_Qv (fun (_ : Unit) => True) (fun _ t => va_P D vwCl (mbW cI a φr hv) t.heap) (mbA a)) ([.ref (a 0)] : List Value).toArray s 0 0 (mbA a)) (F0 m 278 ls1 [])) → W p l e (headSpec (wsA yX9_grows cX9_grows 8 none) { frames := 5, cells := 0, slots := 0, locals := 110 }).room s m ([.ref (a 0)] : List Value).toArray below meth c H locs 0 0 (MQ below (va_Qv (fun (_ : Unit) => True) (fun _ t => va_P D vwCl (mbW cI a φr hv) t.heap) (mbA a)) ([.ref (a 0)] : List Value).toArray s 0 0 (mbA a)) (F0 m 208 ls []) := by
    intro k
    induction k with
    | zero =>
      intro v1 v2 φ H locs ls φo h hP hS hl kk
      exact no_s h
    | succ k ih =>
      intro v1 v2 φ H locs ls φo h hP hS hl kk
      replace h : B_X9_grows_208 N v1 (L_X9_grows_208 N v1 k) v2 φ = some φo := h
      unfold B_X9_grows_208 at h
      refine lv_iload_n hx hb dX9_grows_208 rfl (lv_at hl 2 rfl) ?_
      refine lv_aload_n hx hb dX9_grows_209 rfl (lv_at hl 0 rfl) ?_
      refine M_g0_0 hx hb hA hown aF_RX9_7 hK hP dX9_grows_210 ?_
      refine lv_iconst (v := 5) hx hb dX9_grows_213 (by decide) ?_
      obtain ⟨i33, h⟩ := oin_e h
      refine M_ld1 hx hb hK hP i33 dX9_grows_214 ?_
      refine lv_icmp_ge (tgt := 278) hx hb dX9_grows_215 (by decide) (fun hc => ?_) (fun hc => ?_)
      · replace h := oi_t hc h
        obtain rfl := os1 h
        exact kk _ _ _ hP hS (lv_sub hl [0] rfl)
      · replace h := oi_f hc h
        refine lv_bipush (v := 6) hx hb dX9_grows_218 (by decide) ?_
        refine lv_iconst (v := 4) hx hb dX9_grows_220 (by decide) ?_
        refine lv_iload_n hx hb dX9_grows_221 rfl (lv_at hl 2 rfl) ?_
        refine lv_imul hx hb dX9_grows_222 ?_
        refine lv_iadd hx hb dX9_grows_223 ?_
        refine lv_topi (fun x34 ex34 => ?_)
        replace h := olet_s ex34 h
        refine lv_istore_n (lv' := [(3, .int x34), (0, .ref (a 0)), (1, .int v1), (2, .int v2)]) hx hb dX9_grows_224 rfl hl (by decide) rfl (fun ls hl => ?_)
        refine lv_aload_n hx hb dX9_grows_225 rfl (lv_at hl 1 rfl) ?_
        refine M_g0_0 hx hb hA hown aF_RX9_7 hK hP dX9_grows_226 ?_
        refine lv_iload_n hx hb dX9_grows_229 rfl (lv_at hl 0 rfl) ?_
        refine lv_iconst (v := 3) hx hb dX9_grows_230 (by decide) ?_
        refine lv_iadd hx hb dX9_grows_231 ?_
        refine lv_dup2_11 hx hb dX9_grows_232 rfl rfl ?_
        obtain ⟨i35, h⟩ := oin_e h
        refine M_ld1 hx hb hK hP i35 dX9_grows_233 ?_
        refine lv_aload_n hx hb dX9_grows_234 rfl (lv_at hl 1 rfl) ?_
        refine M_g0_0 hx hb hA hown aF_RX9_7 hK hP dX9_grows_235 ?_
        refine lv_iload_n hx hb dX9_grows_238 rfl (lv_at hl 0 rfl) ?_
        refine lv_iconst (v := 2) hx hb dX9_grows_239 (by decide) ?_
        refine lv_iadd hx hb dX9_grows_240 ?_
        obtain ⟨i36, h⟩ := oin_e h
        refine M_ld1 hx hb hK hP i36 dX9_grows_241 ?_
        refine lv_iconst (v := 2) hx hb dX9_grows_242 (by decide) ?_
        refine lv_irem hx hb dX9_grows_243 (by decide) ?_
        refine lv_iload_n hx hb dX9_grows_244 rfl (lv_at hl 2 rfl) ?_
        refine lv_ishl hx hb dX9_grows_245 ?_
        refine lv_iadd hx hb dX9_grows_246 ?_
        obtain ⟨i37, h⟩ := oin_e h
        refine M_st1 hx hb hK hP (hDA _ _) hS i37 dX9_grows_247 (fun w38 H locs ew38 hP hS => ?_)
        replace h := olet_s ew38 h
        refine lv_aload_n hx hb dX9_grows_248 rfl (lv_at hl 1 rfl) ?_
        refine M_g0_0 hx hb hA hown aF_RX9_7 hK hP dX9_grows_249 ?_
        refine lv_iload_n hx hb dX9_grows_252 rfl (lv_at hl 0 rfl) ?_
        refine lv_iconst (v := 1) hx hb dX9_grows_253 (by decide) ?_
        refine lv_iadd hx hb dX9_grows_254 ?_
        refine lv_dup2_11 hx hb dX9_grows_255 rfl rfl ?_
        obtain ⟨i39, h⟩ := oin_e h
        refine M_ld1 hx hb hK hP i39 dX9_grows_256 ?_
        refine lv_iconst (v := 1) hx hb dX9_grows_257 (by decide) ?_
        refine lv_isub hx hb dX9_grows_258 ?_
        obtain ⟨i40, h⟩ := oin_e h
        refine M_st1 hx hb hK hP (hDA _ _) hS i40 dX9_grows_259 (fun w41 H locs ew41 hP hS => ?_)
        replace h := olet_s ew41 h
        refine lv_aload_n hx hb dX9_grows_260 rfl (lv_at hl 1 rfl) ?_
        refine M_g0_0 hx hb hA hown aF_RX9_7 hK hP dX9_grows_261 ?_
        refine lv_iload_n hx hb dX9_grows_264 rfl (lv_at hl 0 rfl) ?_
        refine lv_iconst (v := 2) hx hb dX9_grows_265 (by decide) ?_
        refine lv_iadd hx hb dX9_grows_266 ?_
        refine lv_dup2_11 hx hb dX9_grows_267 rfl rfl ?_
        obtain ⟨i42, h⟩ := oin_e h
        refine M_ld1 hx hb hK hP i42 dX9_grows_268 ?_
        refine lv_iconst (v := 2) hx hb dX9_grows_269 (by decide) ?_
        refine lv_idiv hx hb dX9_grows_270 (by decide) ?_
        obtain ⟨i43, h⟩ := oin_e h
        refine M_st1 hx hb hK hP (hDA _ _) hS i43 dX9_grows_271 (fun w44 H locs ew44 hP hS => ?_)
        replace h := olet_s ew44 h
        refine lv_iinc (v := v2 + 1) (lv' := [(2, .int (v2 + 1)), (3, .int x34), (0, .ref (a 0)), (1, .int v1)]) hx hb dX9_grows_272 hl (k := 3) rfl (fm_inc _ _ _ (by decide)) (by decide) rfl (fun ls hl => ?_)
        refine lv_goto (tgt := 208) hx hb dX9_grows_275 (by decide) ?_
        exact ih _ _ _ _ _ _ _ h hP hS (lv_sub hl [2, 3, 0] rfl) kk
  have h := hF
  unfold G_X9_grows at h
  refine lv_aload_n hx hb dX9_grows_0 rfl (lv_at hl 0 rfl) ?_
  refine M_g0_0 hx hb hA hown aF_RX9_7 hK hP dX9_grows_1 ?_
  refine lv_iconst (v := 0) hx hb dX9_grows_4 (by decide) ?_
  obtain ⟨i1, h⟩ := oin_e h
  refine M_ld1 hx hb hK hP i1 dX9_grows_5 ?_
  refine lv_topi (fun x2 ex2 => ?_)
  replace h := olet_s ex2 h
  refine lv_istore_n (lv' := [(1, .int x2), (0, .ref (a 0))]) hx hb dX9_grows_6 rfl hl (by decide) rfl (fun ls hl => ?_)
  refine lv_iconst (v := 0) hx hb dX9_grows_7 (by decide) ?_
  refine lv_istore_n (lv' := [(2, .int 0), (1, .int x2), (0, .ref (a 0))]) hx hb dX9_grows_8 rfl hl (by decide) rfl (fun ls hl => ?_)
  obtain ⟨w8, h9, h⟩ := obd_e h
  refine hL9 N _ _ _ _ _ _ _ h9 hP hS (lv_sub hl [2, 1, 0] rfl) (fun H locs ls hP hS hl => ?_)
  refine lv_aload_n hx hb dX9_grows_47 rfl (lv_at hl 0 rfl) ?_
  refine M_g0_0 hx hb hA hown aF_RX9_7 hK hP dX9_grows_48 ?_
  refine lv_iconst (v := 0) hx hb dX9_grows_51 (by decide) ?_
  refine lv_dup2_11 hx hb dX9_grows_52 rfl rfl ?_
  obtain ⟨i10, h⟩ := oin_e h
  refine M_ld1 hx hb hK hP i10 dX9_grows_53 ?_
  refine lv_iconst (v := 1) hx hb dX9_grows_54 (by decide) ?_
  refine lv_iadd hx hb dX9_grows_55 ?_
  obtain ⟨i11, h⟩ := oin_e h
  refine M_st1 hx hb hK hP (hDA _ _) hS i11 dX9_grows_56 (fun w12 H locs ew12 hP hS => ?_)
  replace h := olet_s ew12 h
  refine lv_iconst (v := 0) hx hb dX9_grows_57 (by decide) ?_
  refine lv_istore_n (lv' := [(2, .int 0), (0, .ref (a 0)), (1, .int x2)]) hx hb dX9_grows_58 rfl hl (by decide) rfl (fun ls hl => ?_)
  obtain ⟨w31, h32, h⟩ := obd_e h
  refine hL59 N _ _ _ _ _ _ _ h32 hP hS (lv_sub hl [1, 2, 0] rfl) (fun H locs ls hP hS hl => ?_)
  refine lv_iconst (v := 0) hx hb dX9_grows_206 (by decide) ?_
  refine lv_istore_n (lv' := [(2, .int 0), (0, .ref (a 0)), (1, .int x2)]) hx hb dX9_grows_207 rfl hl (by decide) rfl (fun ls hl => ?_)
  obtain ⟨w45, h46, h⟩ := obd_e h
  refine hL208 N _ _ _ _ _ _ _ h46 hP hS (lv_sub hl [1, 2, 0] rfl) (fun H locs ls hP hS hl => ?_)
  refine lv_aload_n hx hb dX9_grows_278 rfl (lv_at hl 0 rfl) ?_
  obtain ⟨r49, w47, h48, h⟩ := obd2_e h
  refine k_X9_leave S aM_RX9_185 ⟨Nat.le_of_ble_eq_true rfl, Nat.le_of_ble_eq_true rfl⟩ ⟨Nat.zero_le _, Nat.zero_le _⟩ hP hK hDT hS h48 hl.1 (Nat.le_of_ble_eq_true rfl) dX9_grows_279 (fun H locs hP hS => ?_)
  refine lv_istore_n (lv' := [(2, .int r49), (0, .ref (a 0))]) hx hb dX9_grows_282 rfl hl (by decide) rfl (fun ls hl => ?_)
  obtain rfl := os1 h
  exact W.vret hx hb hr (fun t ht hW => ⟨⟨(), rfl, trivial, by show va_P _ _ _ t.heap; rw [ht]; exact hP⟩, hS.F ht⟩) hS.2.2 dX9_grows_283
theorem k_X9_grows {p : Program} {l : Launch} {e : Env} {R : Room} {s : State} {m : MethodId} {args : Array Value} {below : List Frame} {meth : Method} {c : Code} {H : Heap} {locs : List Loc} {cells slots : Nat} {Q : State → Prop} {cc : ByteArray} {pc nL idx : Nat} {ls : Array Slot} {rest : List Value} {own : String} {D : va_G} {cI : ClassId} {a : Nat → Nat} {H0 : Heap} {N : Nat} {φ : M2} {hv : Int64} {φr : M2} (S : CallFix p m c cc nL s args AW own) (h1 : Cond.methodLink own idx yX9_grows ∈ AW) (hR : 5 + 1 ≤ R.frames ∧ 8 + (8 + 11) + 110 ≤ R.locals) (hc : cells ≤ R.cells ∧ slots ≤ R.slots) (hP : va_P D vwCl (mbW cI a φ hv) H) (hK : va_K D vwCl [(cI, .int)] s) (hDT : ∀ (φ2 : M2) (hv2 : Int64), va_D (fun _ => True) (mbW cI a φ2 hv2)) (hS : va_S (mbA a) H0 H locs) (hF : G_X9_grows N φ = some φr) (hsz : ls.size = nL) (hW : (rest.map fun v => v.category).sum ≤ 8) (hdg : decode cc pc = .ok (.invokevirtual idx, 3)) (kk : ∀ (H1 : Heap) (locs1 : List Loc), va_P D vwCl (mbW cI a φr hv) H1 → va_S (mbA a) H0 H1 locs1 → W p l e R s m args below meth c H1 locs1 cells slots Q (F0 m (pc + 3) ls (rest))) : W p l e R s m args below meth c H locs cells slots Q (F0 m pc ls (.ref (a 0) :: rest)) :=
  fm_runVv (n := 0) (C := RX9) (As := []) S (c_X9_grows l D cI a N φ hv φr hF) (M_pre (q0 := 0) (ci := 7) hK hP (hDT _ _) rfl rfl) hS h1 aI_X9_grows aV_X9_grows aN_RX9 aC_X9_grows rfl rfl (by decide +kernel) rfl hR hc hsz hW hdg (fun H1 locs1 hP1 hS1 => kk H1 locs1 hP1 hS1)
set_option maxHeartbeats 4000000 in
set_option maxRecDepth 100000 in
theorem c_X9_rebuilds (l : Launch) (D : va_G) (cI : ClassId) (a : Nat → Nat) (N : Nat) (φ : M2) (p1 : Int32) (p2 : Int32) (p3 : Int32) (p4 : Int32) (hv : Int64) (r0 : Int32) (φr : M2) (hF : G_X9_rebuilds N φ p1 p2 p3 p4 = some (r0, φr)) : Met l yX9_rebuilds (wsA yX9_rebuilds cX9_rebuilds 6 (some .boolean)) { frames := 6, cells := 0, slots := 0, locals := 133 } (va_Pc [.ref (a 0), .int p1, .int p2, .int p3, .int p4] (mbP D cI a φ hv)) (va_Qi (fun (r : Int32) (_ : Unit) => r = r0 ∧ (r = 0 ∨ r = 1)) (fun _ t => va_P D vwCl (mbW cI a φr hv) t.heap) (mbA a)) 0 0 (mbA a) := by
  refine Met.ofW (cc := cX9_rebuilds) (maxL := 6) (ret := (some .boolean)) (by decide) rfl ?_
  intro p e s m args below meth c s₁ B hml hpre
  obtain ⟨rfl, hP, hK, hD0⟩ := hpre
  have hx := B.exec
  have hb := B.bytes
  have hr := B.returns
  have hA : ∀ w ∈ AW, w.before _ s = true := fun w h => atoms_spec (ws := wsA yX9_rebuilds cX9_rebuilds 6 (some .boolean)) B.pre w (List.mem_cons_of_mem _ h)
  have hown : s.vm.findClass RX9 = some m.cls := findClass_of_methodNamed B.named
  have hlocks := B.notSynchronized
  have hDT := M_dT hD0
  have hDA := M_dA hD0
  have hS : va_S (mbA a) s.heap s.heap [] := va_S.rf
  have S : CallFix p m c cX9_rebuilds 6 s ([.ref (a 0), .int p1, .int p2, .int p3, .int p4] : List Value).toArray AW RX9 := ⟨hx, hb, hml, hown, hA⟩
  have hl := lv_entry ([.ref (a 0), .int p1, .int p2, .int p3, .int p4]) (n := 6) (Nat.le_of_ble_eq_true rfl)
  rw [lg_entry_eq]
  generalize (lg_sl ([.ref (a 0), .int p1, .int p2, .int p3, .int p4]) ++ List.replicate (6 - (lg_sl ([.ref (a 0), .int p1, .int p2, .int p3, .int p4])).length) Slot.unset).toArray = ls at hl ⊢
  have hl : lv_has ls 6 [(0, .ref (a 0)), (1, .int p1), (2, .int p2), (3, .int p3), (4, .int p4)] := hl
  have hL36 : ∀ (k : Nat) (v5 : Int32) (φ : M2) (H : Heap) (locs : List Loc) (ls : Array Slot) , L_X9_rebuilds_36 N k v5 φ = some (r0, φr) → va_P D vwCl (mbW cI a φ hv) H → va_S (mbA a) s.heap H locs → lv_has ls 6 [(0, .ref (a 0)), (5, .int v5)] → W p l e (headSpec (wsA yX9_rebuilds cX9_rebuilds 6 (some .boolean)) { frames := 6, cells := 0, slots := 0, locals := 133 }).room s m ([.ref (a 0), .int p1, .int p2, .int p3, .int p4] : List Value).toArray below meth c H locs 0 0 (MQ below (va_Qi (fun (r : Int32) (_ : Unit) => r = r0 ∧ (r = 0 ∨ r = 1)) (fun _ t => va_P D vwCl (mbW cI a φr hv) t.heap) (mbA a)) ([.ref (a 0), .int p1, .int p2, .int p3, .int p4] : List Value).toArray s 0 0 (mbA a)) (F0 m 36 ls []) := by
    intro k
    induction k with
    | zero =>
      intro v5 φ H locs ls h hP hS hl
      exact no_s h
    | succ k ih =>
      intro v5 φ H locs ls h hP hS hl
      replace h : B_X9_rebuilds_36 N (L_X9_rebuilds_36 N k) v5 φ = some (r0, φr) := h
      unfold B_X9_rebuilds_36 at h
      refine lv_iload hx hb dX9_rebuilds_36 (lv_at hl 1 rfl) ?_
      refine lv_aload_n hx hb dX9_rebuilds_38 rfl (lv_at hl 0 rfl) ?_
      refine M_g0_0 hx hb hA hown aF_RX9_7 hK hP dX9_rebuilds_39 ?_
      refine lv_sipush (v := 1042) hx hb dX9_rebuilds_42 (by decide) ?_
      obtain ⟨i11, h⟩ := oin_e h
      refine M_ld1 hx hb hK hP i11 dX9_rebuilds_45 ?_
      refine lv_icmp_ge (tgt := 76) hx hb dX9_rebuilds_46 (by decide) (fun hc => ?_) (fun hc => ?_)
      · replace h := oi_t hc h
        refine lv_iconst (v := 1) hx hb dX9_rebuilds_76 (by decide) ?_
        obtain ⟨rfl, rfl⟩ := os2 h
        exact W.zret (v := 1) (ty := .boolean) hx hb hr rfl (fun t ht hW => ⟨⟨_, (), rfl, ⟨rfl, (Or.inr rfl)⟩, by show va_P _ _ _ t.heap; rw [ht]; exact hP⟩, hS.F ht⟩) hS.2.2 dX9_rebuilds_77
      · replace h := oi_f hc h
        refine lv_aload_n hx hb dX9_rebuilds_49 rfl (lv_at hl 0 rfl) ?_
        refine lv_aload_n hx hb dX9_rebuilds_50 rfl (lv_at hl 0 rfl) ?_
        refine M_g0_0 hx hb hA hown aF_RX9_7 hK hP dX9_rebuilds_51 ?_
        refine lv_sipush (v := 1043) hx hb dX9_rebuilds_54 (by decide) ?_
        refine lv_iload hx hb dX9_rebuilds_57 (lv_at hl 1 rfl) ?_
        refine lv_iadd hx hb dX9_rebuilds_59 ?_
        obtain ⟨i12, h⟩ := oin_e h
        refine M_ld1 hx hb hK hP i12 dX9_rebuilds_60 ?_
        obtain ⟨r15, w13, h14, h⟩ := obd2_e h
        refine k_X9_addEntry S aM_RX9_191 ⟨Nat.le_of_ble_eq_true rfl, Nat.le_of_ble_eq_true rfl⟩ ⟨Nat.zero_le _, Nat.zero_le _⟩ hP hK hDT hS h14 hl.1 (Nat.le_of_ble_eq_true rfl) dX9_rebuilds_61 (fun H locs hP hS => ?_)
        refine lv_iconst (v := (-1)) hx hb dX9_rebuilds_64 (by decide) ?_
        refine lv_icmp_ne (tgt := 70) hx hb dX9_rebuilds_65 (by decide) (fun hc => ?_) (fun hc => ?_)
        · replace h := oi_f hc h
          refine lv_iinc (v := v5 + 1) (lv' := [(5, .int (v5 + 1)), (0, .ref (a 0))]) hx hb dX9_rebuilds_70 hl (k := 1) rfl (fm_inc _ _ _ (by decide)) (by decide) rfl (fun ls hl => ?_)
          refine lv_goto (tgt := 36) hx hb dX9_rebuilds_73 (by decide) ?_
          exact ih _ _ _ _ _  h hP hS (lv_sub hl [1, 0] rfl)
        · replace h := oi_t hc h
          refine lv_iconst (v := 0) hx hb dX9_rebuilds_68 (by decide) ?_
          obtain ⟨rfl, rfl⟩ := os2 h
          exact W.zret (v := 0) (ty := .boolean) hx hb hr rfl (fun t ht hW => ⟨⟨_, (), rfl, ⟨rfl, (Or.inl rfl)⟩, by show va_P _ _ _ t.heap; rw [ht]; exact hP⟩, hS.F ht⟩) hS.2.2 dX9_rebuilds_69
  have h := hF
  unfold G_X9_rebuilds at h
  refine lv_aload_n hx hb dX9_rebuilds_0 rfl (lv_at hl 0 rfl) ?_
  refine M_g0_0 hx hb hA hown aF_RX9_7 hK hP dX9_rebuilds_1 ?_
  refine lv_iconst (v := 0) hx hb dX9_rebuilds_4 (by decide) ?_
  refine lv_iload_n hx hb dX9_rebuilds_5 rfl (lv_at hl 1 rfl) ?_
  obtain ⟨i1, h⟩ := oin_e h
  refine M_st1 hx hb hK hP (hDA _ _) hS i1 dX9_rebuilds_6 (fun w2 H locs ew2 hP hS => ?_)
  replace h := olet_s ew2 h
  refine lv_aload_n hx hb dX9_rebuilds_7 rfl (lv_at hl 0 rfl) ?_
  refine M_g0_0 hx hb hA hown aF_RX9_7 hK hP dX9_rebuilds_8 ?_
  refine lv_iconst (v := 1) hx hb dX9_rebuilds_11 (by decide) ?_
  refine lv_iload_n hx hb dX9_rebuilds_12 rfl (lv_at hl 2 rfl) ?_
  obtain ⟨i3, h⟩ := oin_e h
  refine M_st1 hx hb hK hP (hDA _ _) hS i3 dX9_rebuilds_13 (fun w4 H locs ew4 hP hS => ?_)
  replace h := olet_s ew4 h
  refine lv_aload_n hx hb dX9_rebuilds_14 rfl (lv_at hl 0 rfl) ?_
  refine M_g0_0 hx hb hA hown aF_RX9_7 hK hP dX9_rebuilds_15 ?_
  refine lv_iconst (v := 2) hx hb dX9_rebuilds_18 (by decide) ?_
  refine lv_iload_n hx hb dX9_rebuilds_19 rfl (lv_at hl 3 rfl) ?_
  obtain ⟨i5, h⟩ := oin_e h
  refine M_st1 hx hb hK hP (hDA _ _) hS i5 dX9_rebuilds_20 (fun w6 H locs ew6 hP hS => ?_)
  replace h := olet_s ew6 h
  refine lv_aload_n hx hb dX9_rebuilds_21 rfl (lv_at hl 0 rfl) ?_
  refine M_g0_0 hx hb hA hown aF_RX9_7 hK hP dX9_rebuilds_22 ?_
  refine lv_iconst (v := 3) hx hb dX9_rebuilds_25 (by decide) ?_
  refine lv_iload hx hb dX9_rebuilds_26 (lv_at hl 4 rfl) ?_
  obtain ⟨i7, h⟩ := oin_e h
  refine M_st1 hx hb hK hP (hDA _ _) hS i7 dX9_rebuilds_28 (fun w8 H locs ew8 hP hS => ?_)
  replace h := olet_s ew8 h
  refine lv_aload_n hx hb dX9_rebuilds_29 rfl (lv_at hl 0 rfl) ?_
  obtain ⟨w9, h10, h⟩ := obd_e h
  refine k_X9_empties S aM_RX9_61 ⟨Nat.le_of_ble_eq_true rfl, Nat.le_of_ble_eq_true rfl⟩ ⟨Nat.zero_le _, Nat.zero_le _⟩ hP hK hDT hS h10 hl.1 (Nat.le_of_ble_eq_true rfl) dX9_rebuilds_30 (fun H locs hP hS => ?_)
  refine lv_iconst (v := 0) hx hb dX9_rebuilds_33 (by decide) ?_
  refine lv_istore (lv' := [(5, .int 0), (0, .ref (a 0)), (1, .int p1), (2, .int p2), (3, .int p3), (4, .int p4)]) hx hb dX9_rebuilds_34 hl (by decide) rfl (fun ls hl => ?_)
  exact hL36 N _ _ _ _ _ h hP hS (lv_sub hl [1, 0] rfl)
theorem k_X9_rebuilds {p : Program} {l : Launch} {e : Env} {R : Room} {s : State} {m : MethodId} {args : Array Value} {below : List Frame} {meth : Method} {c : Code} {H : Heap} {locs : List Loc} {cells slots : Nat} {Q : State → Prop} {cc : ByteArray} {pc nL idx : Nat} {ls : Array Slot} {rest : List Value} {own : String} {D : va_G} {cI : ClassId} {a : Nat → Nat} {H0 : Heap} {N : Nat} {φ : M2} {p1 : Int32} {p2 : Int32} {p3 : Int32} {p4 : Int32} {hv : Int64} {r0 : Int32} {φr : M2} (S : CallFix p m c cc nL s args AW own) (h1 : Cond.methodLink own idx yX9_rebuilds ∈ AW) (hR : 6 + 1 ≤ R.frames ∧ 8 + (6 + 11) + 133 ≤ R.locals) (hc : cells ≤ R.cells ∧ slots ≤ R.slots) (hP : va_P D vwCl (mbW cI a φ hv) H) (hK : va_K D vwCl [(cI, .int)] s) (hDT : ∀ (φ2 : M2) (hv2 : Int64), va_D (fun _ => True) (mbW cI a φ2 hv2)) (hS : va_S (mbA a) H0 H locs) (hF : G_X9_rebuilds N φ p1 p2 p3 p4 = some (r0, φr)) (hsz : ls.size = nL) (hW : (rest.map fun v => v.category).sum ≤ 8) (hdg : decode cc pc = .ok (.invokevirtual idx, 3)) (kk : (r0 = 0 ∨ r0 = 1) → ∀ (H1 : Heap) (locs1 : List Loc), va_P D vwCl (mbW cI a φr hv) H1 → va_S (mbA a) H0 H1 locs1 → W p l e R s m args below meth c H1 locs1 cells slots Q (F0 m (pc + 3) ls (.int r0 :: rest))) : W p l e R s m args below meth c H locs cells slots Q (F0 m pc ls (.int p4 :: .int p3 :: .int p2 :: .int p1 :: .ref (a 0) :: rest)) :=
  fm_runVi (n := 4) (C := RX9) (As := [.int p1, .int p2, .int p3, .int p4]) S (c_X9_rebuilds l D cI a N φ p1 p2 p3 p4 hv r0 φr hF) (M_pre (q0 := 0) (ci := 7) hK hP (hDT _ _) rfl rfl) hS h1 aI_X9_rebuilds aV_X9_rebuilds aN_RX9 aC_X9_rebuilds rfl rfl (by decide +kernel) rfl hR hc hsz hW hdg (fun r H1 locs1 hr hP1 hS1 => by obtain ⟨rfl, hz⟩ := hr; exact kk hz H1 locs1 hP1 hS1)
set_option maxHeartbeats 4000000 in
set_option maxRecDepth 100000 in
theorem c_X9_tag (l : Launch) (D : va_G) (cI : ClassId) (a : Nat → Nat) (φ : M2) (p1 : Int32) (hv : Int64) (r0 : Int32) (φr : M2) (hF : G_X9_tag φ p1 = some (r0, φr)) : Met l yX9_tag (wsA yX9_tag cX9_tag 2 (some .int)) { frames := 2, cells := 0, slots := 0, locals := 44 } (va_Pc [.ref (a 0), .int p1] (mbP D cI a φ hv)) (va_Qi (fun (r : Int32) (_ : Unit) => r = r0) (fun _ t => va_P D vwCl (mbW cI a φr hv) t.heap) (mbA a)) 0 0 (mbA a) := by
  refine Met.ofW (cc := cX9_tag) (maxL := 2) (ret := (some .int)) (by decide) rfl ?_
  intro p e s m args below meth c s₁ B hml hpre
  obtain ⟨rfl, hP, hK, hD0⟩ := hpre
  have hx := B.exec
  have hb := B.bytes
  have hr := B.returns
  have hA : ∀ w ∈ AW, w.before _ s = true := fun w h => atoms_spec (ws := wsA yX9_tag cX9_tag 2 (some .int)) B.pre w (List.mem_cons_of_mem _ h)
  have hown : s.vm.findClass RX9 = some m.cls := findClass_of_methodNamed B.named
  have hlocks := B.notSynchronized
  have hDT := M_dT hD0
  have hDA := M_dA hD0
  have hS : va_S (mbA a) s.heap s.heap [] := va_S.rf
  have S : CallFix p m c cX9_tag 2 s ([.ref (a 0), .int p1] : List Value).toArray AW RX9 := ⟨hx, hb, hml, hown, hA⟩
  have hl := lv_entry ([.ref (a 0), .int p1]) (n := 2) (Nat.le_of_ble_eq_true rfl)
  rw [lg_entry_eq]
  generalize (lg_sl ([.ref (a 0), .int p1]) ++ List.replicate (2 - (lg_sl ([.ref (a 0), .int p1])).length) Slot.unset).toArray = ls at hl ⊢
  have hl : lv_has ls 2 [(0, .ref (a 0)), (1, .int p1)] := hl
  have h := hF
  unfold G_X9_tag at h
  refine lv_aload_n hx hb dX9_tag_0 rfl (lv_at hl 0 rfl) ?_
  refine lv_iload_n hx hb dX9_tag_1 rfl (lv_at hl 1 rfl) ?_
  refine k_X9_isKey S aM_RX9_194 ⟨Nat.le_of_ble_eq_true rfl, Nat.le_of_ble_eq_true rfl⟩ ⟨Nat.zero_le _, Nat.zero_le _⟩ hl.1 (Nat.le_of_ble_eq_true rfl) dX9_tag_2 (fun r1 er1 br1 => ?_)
  replace h := olet_s er1 h
  refine lv_if_eq (tgt := 12) hx hb dX9_tag_5 (by decide) (fun hc => ?_) (fun hc => ?_)
  · replace h := oi_t hc h
    refine lv_iconst (v := 1) hx hb dX9_tag_12 (by decide) ?_
    refine M_p0_5 hx hb hA hown aF_RX9_64 hK hP (hDA _ _) hS dX9_tag_13 (fun w2 H locs ew2 hP hS => ?_)
    replace h := olet_s ew2 h
    refine lv_aload_n hx hb dX9_tag_16 rfl (lv_at hl 0 rfl) ?_
    refine M_g0_5 hx hb hA hown aF_RX9_64 hK hP dX9_tag_17 ?_
    refine lv_if_eq (tgt := 27) hx hb dX9_tag_20 (by decide) (fun hc => ?_) (fun hc => ?_)
    · replace h := oi_t hc h
      refine lv_aload_n hx hb dX9_tag_27 rfl (lv_at hl 0 rfl) ?_
      refine lv_iload_n hx hb dX9_tag_28 rfl (lv_at hl 1 rfl) ?_
      obtain ⟨r3, h4, h⟩ := obd_e h
      refine k_X9_tagOf S aM_RX9_111 ⟨Nat.le_of_ble_eq_true rfl, Nat.le_of_ble_eq_true rfl⟩ ⟨Nat.zero_le _, Nat.zero_le _⟩ hP hK hDT h4 hl.1 (Nat.le_of_ble_eq_true rfl) dX9_tag_29 ?_
      obtain ⟨rfl, rfl⟩ := os2 h
      exact W.iret (v := r3) hx hb hr (fun t ht hW => ⟨⟨_, (), rfl, rfl, by show va_P _ _ _ t.heap; rw [ht]; exact hP⟩, hS.F ht⟩) hS.2.2 dX9_tag_32
    · replace h := oi_f hc h
      refine lv_iconst (v := 0) hx hb dX9_tag_23 (by decide) ?_
      refine lv_goto (tgt := 32) hx hb dX9_tag_24 (by decide) ?_
      obtain ⟨rfl, rfl⟩ := os2 h
      exact W.iret (v := 0) hx hb hr (fun t ht hW => ⟨⟨_, (), rfl, rfl, by show va_P _ _ _ t.heap; rw [ht]; exact hP⟩, hS.F ht⟩) hS.2.2 dX9_tag_32
  · replace h := oi_f hc h
    refine lv_iconst (v := 0) hx hb dX9_tag_8 (by decide) ?_
    refine lv_goto (tgt := 13) hx hb dX9_tag_9 (by decide) ?_
    refine M_p0_5 hx hb hA hown aF_RX9_64 hK hP (hDA _ _) hS dX9_tag_13 (fun w5 H locs ew5 hP hS => ?_)
    replace h := olet_s ew5 h
    refine lv_aload_n hx hb dX9_tag_16 rfl (lv_at hl 0 rfl) ?_
    refine M_g0_5 hx hb hA hown aF_RX9_64 hK hP dX9_tag_17 ?_
    refine lv_if_eq (tgt := 27) hx hb dX9_tag_20 (by decide) (fun hc => ?_) (fun hc => ?_)
    · replace h := oi_t hc h
      refine lv_aload_n hx hb dX9_tag_27 rfl (lv_at hl 0 rfl) ?_
      refine lv_iload_n hx hb dX9_tag_28 rfl (lv_at hl 1 rfl) ?_
      obtain ⟨r6, h7, h⟩ := obd_e h
      refine k_X9_tagOf S aM_RX9_111 ⟨Nat.le_of_ble_eq_true rfl, Nat.le_of_ble_eq_true rfl⟩ ⟨Nat.zero_le _, Nat.zero_le _⟩ hP hK hDT h7 hl.1 (Nat.le_of_ble_eq_true rfl) dX9_tag_29 ?_
      obtain ⟨rfl, rfl⟩ := os2 h
      exact W.iret (v := r6) hx hb hr (fun t ht hW => ⟨⟨_, (), rfl, rfl, by show va_P _ _ _ t.heap; rw [ht]; exact hP⟩, hS.F ht⟩) hS.2.2 dX9_tag_32
    · replace h := oi_f hc h
      refine lv_iconst (v := 0) hx hb dX9_tag_23 (by decide) ?_
      refine lv_goto (tgt := 32) hx hb dX9_tag_24 (by decide) ?_
      obtain ⟨rfl, rfl⟩ := os2 h
      exact W.iret (v := 0) hx hb hr (fun t ht hW => ⟨⟨_, (), rfl, rfl, by show va_P _ _ _ t.heap; rw [ht]; exact hP⟩, hS.F ht⟩) hS.2.2 dX9_tag_32
theorem k_X9_tag {p : Program} {l : Launch} {e : Env} {R : Room} {s : State} {m : MethodId} {args : Array Value} {below : List Frame} {meth : Method} {c : Code} {H : Heap} {locs : List Loc} {cells slots : Nat} {Q : State → Prop} {cc : ByteArray} {pc nL idx : Nat} {ls : Array Slot} {rest : List Value} {own : String} {D : va_G} {cI : ClassId} {a : Nat → Nat} {H0 : Heap} {φ : M2} {p1 : Int32} {hv : Int64} {r0 : Int32} {φr : M2} (S : CallFix p m c cc nL s args AW own) (h1 : Cond.methodLink own idx yX9_tag ∈ AW) (hR : 2 + 1 ≤ R.frames ∧ 8 + (2 + 11) + 44 ≤ R.locals) (hc : cells ≤ R.cells ∧ slots ≤ R.slots) (hP : va_P D vwCl (mbW cI a φ hv) H) (hK : va_K D vwCl [(cI, .int)] s) (hDT : ∀ (φ2 : M2) (hv2 : Int64), va_D (fun _ => True) (mbW cI a φ2 hv2)) (hS : va_S (mbA a) H0 H locs) (hF : G_X9_tag φ p1 = some (r0, φr)) (hsz : ls.size = nL) (hW : (rest.map fun v => v.category).sum ≤ 8) (hdg : decode cc pc = .ok (.invokevirtual idx, 3)) (kk : ∀ (H1 : Heap) (locs1 : List Loc), va_P D vwCl (mbW cI a φr hv) H1 → va_S (mbA a) H0 H1 locs1 → W p l e R s m args below meth c H1 locs1 cells slots Q (F0 m (pc + 3) ls (.int r0 :: rest))) : W p l e R s m args below meth c H locs cells slots Q (F0 m pc ls (.int p1 :: .ref (a 0) :: rest)) :=
  fm_runVi (n := 1) (C := RX9) (As := [.int p1]) S (c_X9_tag l D cI a φ p1 hv r0 φr hF) (M_pre (q0 := 0) (ci := 7) hK hP (hDT _ _) rfl rfl) hS h1 aI_X9_tag aV_X9_tag aN_RX9 aC_X9_tag rfl rfl (by decide +kernel) rfl hR hc hsz hW hdg (fun r H1 locs1 hr hP1 hS1 => by subst hr; exact kk H1 locs1 hP1 hS1)
set_option maxHeartbeats 4000000 in
set_option maxRecDepth 100000 in
theorem c_X9_body (l : Launch) (D : va_G) (cI : ClassId) (a : Nat → Nat) (φ : M2) (p1 : Int32) (hv : Int64) (r0 : Int32) (φr : M2) (hF : G_X9_body φ p1 = some (r0, φr)) : Met l yX9_body (wsA yX9_body cX9_body 2 (some .int)) { frames := 2, cells := 0, slots := 0, locals := 44 } (va_Pc [.ref (a 0), .int p1] (mbP D cI a φ hv)) (va_Qi (fun (r : Int32) (_ : Unit) => r = r0) (fun _ t => va_P D vwCl (mbW cI a φr hv) t.heap) (mbA a)) 0 0 (mbA a) := by
  refine Met.ofW (cc := cX9_body) (maxL := 2) (ret := (some .int)) (by decide) rfl ?_
  intro p e s m args below meth c s₁ B hml hpre
  obtain ⟨rfl, hP, hK, hD0⟩ := hpre
  have hx := B.exec
  have hb := B.bytes
  have hr := B.returns
  have hA : ∀ w ∈ AW, w.before _ s = true := fun w h => atoms_spec (ws := wsA yX9_body cX9_body 2 (some .int)) B.pre w (List.mem_cons_of_mem _ h)
  have hown : s.vm.findClass RX9 = some m.cls := findClass_of_methodNamed B.named
  have hlocks := B.notSynchronized
  have hDT := M_dT hD0
  have hDA := M_dA hD0
  have hS : va_S (mbA a) s.heap s.heap [] := va_S.rf
  have S : CallFix p m c cX9_body 2 s ([.ref (a 0), .int p1] : List Value).toArray AW RX9 := ⟨hx, hb, hml, hown, hA⟩
  have hl := lv_entry ([.ref (a 0), .int p1]) (n := 2) (Nat.le_of_ble_eq_true rfl)
  rw [lg_entry_eq]
  generalize (lg_sl ([.ref (a 0), .int p1]) ++ List.replicate (2 - (lg_sl ([.ref (a 0), .int p1])).length) Slot.unset).toArray = ls at hl ⊢
  have hl : lv_has ls 2 [(0, .ref (a 0)), (1, .int p1)] := hl
  have h := hF
  unfold G_X9_body at h
  refine lv_aload_n hx hb dX9_body_0 rfl (lv_at hl 0 rfl) ?_
  refine lv_iload_n hx hb dX9_body_1 rfl (lv_at hl 1 rfl) ?_
  refine k_X9_isKey S aM_RX9_194 ⟨Nat.le_of_ble_eq_true rfl, Nat.le_of_ble_eq_true rfl⟩ ⟨Nat.zero_le _, Nat.zero_le _⟩ hl.1 (Nat.le_of_ble_eq_true rfl) dX9_body_2 (fun r1 er1 br1 => ?_)
  replace h := olet_s er1 h
  refine lv_if_eq (tgt := 12) hx hb dX9_body_5 (by decide) (fun hc => ?_) (fun hc => ?_)
  · replace h := oi_t hc h
    refine lv_iconst (v := 1) hx hb dX9_body_12 (by decide) ?_
    refine M_p0_5 hx hb hA hown aF_RX9_64 hK hP (hDA _ _) hS dX9_body_13 (fun w2 H locs ew2 hP hS => ?_)
    replace h := olet_s ew2 h
    refine lv_aload_n hx hb dX9_body_16 rfl (lv_at hl 0 rfl) ?_
    refine M_g0_5 hx hb hA hown aF_RX9_64 hK hP dX9_body_17 ?_
    refine lv_if_eq (tgt := 27) hx hb dX9_body_20 (by decide) (fun hc => ?_) (fun hc => ?_)
    · replace h := oi_t hc h
      refine lv_aload_n hx hb dX9_body_27 rfl (lv_at hl 0 rfl) ?_
      refine lv_iload_n hx hb dX9_body_28 rfl (lv_at hl 1 rfl) ?_
      obtain ⟨r3, h4, h⟩ := obd_e h
      refine k_X9_bodyOf S aM_RX9_100 ⟨Nat.le_of_ble_eq_true rfl, Nat.le_of_ble_eq_true rfl⟩ ⟨Nat.zero_le _, Nat.zero_le _⟩ hP hK hDT h4 hl.1 (Nat.le_of_ble_eq_true rfl) dX9_body_29 ?_
      obtain ⟨rfl, rfl⟩ := os2 h
      exact W.iret (v := r3) hx hb hr (fun t ht hW => ⟨⟨_, (), rfl, rfl, by show va_P _ _ _ t.heap; rw [ht]; exact hP⟩, hS.F ht⟩) hS.2.2 dX9_body_32
    · replace h := oi_f hc h
      refine lv_iconst (v := 0) hx hb dX9_body_23 (by decide) ?_
      refine lv_goto (tgt := 32) hx hb dX9_body_24 (by decide) ?_
      obtain ⟨rfl, rfl⟩ := os2 h
      exact W.iret (v := 0) hx hb hr (fun t ht hW => ⟨⟨_, (), rfl, rfl, by show va_P _ _ _ t.heap; rw [ht]; exact hP⟩, hS.F ht⟩) hS.2.2 dX9_body_32
  · replace h := oi_f hc h
    refine lv_iconst (v := 0) hx hb dX9_body_8 (by decide) ?_
    refine lv_goto (tgt := 13) hx hb dX9_body_9 (by decide) ?_
    refine M_p0_5 hx hb hA hown aF_RX9_64 hK hP (hDA _ _) hS dX9_body_13 (fun w5 H locs ew5 hP hS => ?_)
    replace h := olet_s ew5 h
    refine lv_aload_n hx hb dX9_body_16 rfl (lv_at hl 0 rfl) ?_
    refine M_g0_5 hx hb hA hown aF_RX9_64 hK hP dX9_body_17 ?_
    refine lv_if_eq (tgt := 27) hx hb dX9_body_20 (by decide) (fun hc => ?_) (fun hc => ?_)
    · replace h := oi_t hc h
      refine lv_aload_n hx hb dX9_body_27 rfl (lv_at hl 0 rfl) ?_
      refine lv_iload_n hx hb dX9_body_28 rfl (lv_at hl 1 rfl) ?_
      obtain ⟨r6, h7, h⟩ := obd_e h
      refine k_X9_bodyOf S aM_RX9_100 ⟨Nat.le_of_ble_eq_true rfl, Nat.le_of_ble_eq_true rfl⟩ ⟨Nat.zero_le _, Nat.zero_le _⟩ hP hK hDT h7 hl.1 (Nat.le_of_ble_eq_true rfl) dX9_body_29 ?_
      obtain ⟨rfl, rfl⟩ := os2 h
      exact W.iret (v := r6) hx hb hr (fun t ht hW => ⟨⟨_, (), rfl, rfl, by show va_P _ _ _ t.heap; rw [ht]; exact hP⟩, hS.F ht⟩) hS.2.2 dX9_body_32
    · replace h := oi_f hc h
      refine lv_iconst (v := 0) hx hb dX9_body_23 (by decide) ?_
      refine lv_goto (tgt := 32) hx hb dX9_body_24 (by decide) ?_
      obtain ⟨rfl, rfl⟩ := os2 h
      exact W.iret (v := 0) hx hb hr (fun t ht hW => ⟨⟨_, (), rfl, rfl, by show va_P _ _ _ t.heap; rw [ht]; exact hP⟩, hS.F ht⟩) hS.2.2 dX9_body_32
theorem k_X9_body {p : Program} {l : Launch} {e : Env} {R : Room} {s : State} {m : MethodId} {args : Array Value} {below : List Frame} {meth : Method} {c : Code} {H : Heap} {locs : List Loc} {cells slots : Nat} {Q : State → Prop} {cc : ByteArray} {pc nL idx : Nat} {ls : Array Slot} {rest : List Value} {own : String} {D : va_G} {cI : ClassId} {a : Nat → Nat} {H0 : Heap} {φ : M2} {p1 : Int32} {hv : Int64} {r0 : Int32} {φr : M2} (S : CallFix p m c cc nL s args AW own) (h1 : Cond.methodLink own idx yX9_body ∈ AW) (hR : 2 + 1 ≤ R.frames ∧ 8 + (2 + 11) + 44 ≤ R.locals) (hc : cells ≤ R.cells ∧ slots ≤ R.slots) (hP : va_P D vwCl (mbW cI a φ hv) H) (hK : va_K D vwCl [(cI, .int)] s) (hDT : ∀ (φ2 : M2) (hv2 : Int64), va_D (fun _ => True) (mbW cI a φ2 hv2)) (hS : va_S (mbA a) H0 H locs) (hF : G_X9_body φ p1 = some (r0, φr)) (hsz : ls.size = nL) (hW : (rest.map fun v => v.category).sum ≤ 8) (hdg : decode cc pc = .ok (.invokevirtual idx, 3)) (kk : ∀ (H1 : Heap) (locs1 : List Loc), va_P D vwCl (mbW cI a φr hv) H1 → va_S (mbA a) H0 H1 locs1 → W p l e R s m args below meth c H1 locs1 cells slots Q (F0 m (pc + 3) ls (.int r0 :: rest))) : W p l e R s m args below meth c H locs cells slots Q (F0 m pc ls (.int p1 :: .ref (a 0) :: rest)) :=
  fm_runVi (n := 1) (C := RX9) (As := [.int p1]) S (c_X9_body l D cI a φ p1 hv r0 φr hF) (M_pre (q0 := 0) (ci := 7) hK hP (hDT _ _) rfl rfl) hS h1 aI_X9_body aV_X9_body aN_RX9 aC_X9_body rfl rfl (by decide +kernel) rfl hR hc hsz hW hdg (fun r H1 locs1 hr hP1 hS1 => by subst hr; exact kk H1 locs1 hP1 hS1)
set_option maxHeartbeats 4000000 in
set_option maxRecDepth 100000 in
theorem c_X9_bucket (l : Launch) (D : va_G) (cI : ClassId) (a : Nat → Nat) (φ : M2) (p1 : Int32) (p2 : Int32) (hv : Int64) (r0 : Int32) (φr : M2) (hF : G_X9_bucket φ p1 p2 = some (r0, φr)) : Met l yX9_bucket (wsA yX9_bucket cX9_bucket 3 (some .int)) { frames := 4, cells := 0, slots := 0, locals := 86 } (va_Pc [.ref (a 0), .int p1, .int p2] (mbP D cI a φ hv)) (va_Qi (fun (r : Int32) (_ : Unit) => r = r0) (fun _ t => va_P D vwCl (mbW cI a φr hv) t.heap) (mbA a)) 0 0 (mbA a) := by
  refine Met.ofW (cc := cX9_bucket) (maxL := 3) (ret := (some .int)) (by decide) rfl ?_
  intro p e s m args below meth c s₁ B hml hpre
  obtain ⟨rfl, hP, hK, hD0⟩ := hpre
  have hx := B.exec
  have hb := B.bytes
  have hr := B.returns
  have hA : ∀ w ∈ AW, w.before _ s = true := fun w h => atoms_spec (ws := wsA yX9_bucket cX9_bucket 3 (some .int)) B.pre w (List.mem_cons_of_mem _ h)
  have hown : s.vm.findClass RX9 = some m.cls := findClass_of_methodNamed B.named
  have hlocks := B.notSynchronized
  have hDT := M_dT hD0
  have hDA := M_dA hD0
  have hS : va_S (mbA a) s.heap s.heap [] := va_S.rf
  have S : CallFix p m c cX9_bucket 3 s ([.ref (a 0), .int p1, .int p2] : List Value).toArray AW RX9 := ⟨hx, hb, hml, hown, hA⟩
  have hl := lv_entry ([.ref (a 0), .int p1, .int p2]) (n := 3) (Nat.le_of_ble_eq_true rfl)
  rw [lg_entry_eq]
  generalize (lg_sl ([.ref (a 0), .int p1, .int p2]) ++ List.replicate (3 - (lg_sl ([.ref (a 0), .int p1, .int p2])).length) Slot.unset).toArray = ls at hl ⊢
  have hl : lv_has ls 3 [(0, .ref (a 0)), (1, .int p1), (2, .int p2)] := hl
  have hJ13 : ∀ (v1 : Int32) (v2 : Int32) (s0 : Int32) (φ : M2) (H : Heap) (locs : List Loc) (ls : Array Slot), J_X9_bucket_13 φ v1 v2 s0 = some (r0, φr) → va_P D vwCl (mbW cI a φ hv) H → va_S (mbA a) s.heap H locs → lv_has ls 3 [(0, .ref (a 0)), (1, .int v1), (2, .int v2)] → W p l e (headSpec (wsA yX9_bucket cX9_bucket 3 (some .int)) { frames := 4, cells := 0, slots := 0, locals := 86 }).room s m ([.ref (a 0), .int p1, .int p2] : List Value).toArray below meth c H locs 0 0 (MQ below (va_Qi (fun (r : Int32) (_ : Unit) => r = r0) (fun _ t => va_P D vwCl (mbW cI a φr hv) t.heap) (mbA a)) ([.ref (a 0), .int p1, .int p2] : List Value).toArray s 0 0 (mbA a)) (F0 m 13 ls [.int s0, .ref (a 0)]) := by
    intro v1 v2 s0 φ H locs ls h hP hS hl
    unfold J_X9_bucket_13 at h
    refine M_p0_5 hx hb hA hown aF_RX9_64 hK hP (hDA _ _) hS dX9_bucket_13 (fun w2 H locs ew2 hP hS => ?_)
    replace h := olet_s ew2 h
    refine lv_aload_n hx hb dX9_bucket_16 rfl (lv_at hl 0 rfl) ?_
    refine M_g0_5 hx hb hA hown aF_RX9_64 hK hP dX9_bucket_17 ?_
    refine lv_if_eq (tgt := 27) hx hb dX9_bucket_20 (by decide) (fun hc => ?_) (fun hc => ?_)
    · replace h := oi_t hc h
      refine lv_iload_n hx hb dX9_bucket_27 rfl (lv_at hl 2 rfl) ?_
      refine lv_if_eq (tgt := 39) hx hb dX9_bucket_28 (by decide) (fun hc => ?_) (fun hc => ?_)
      · replace h := oi_t hc h
        refine lv_aload_n hx hb dX9_bucket_39 rfl (lv_at hl 0 rfl) ?_
        refine lv_iload_n hx hb dX9_bucket_40 rfl (lv_at hl 1 rfl) ?_
        obtain ⟨r3, h4, h⟩ := obd_e h
        refine k_X9_homeOf S aM_RX9_108 ⟨Nat.le_of_ble_eq_true rfl, Nat.le_of_ble_eq_true rfl⟩ ⟨Nat.zero_le _, Nat.zero_le _⟩ hP hK hDT h4 hl.1 (Nat.le_of_ble_eq_true rfl) dX9_bucket_41 ?_
        obtain ⟨rfl, rfl⟩ := os2 h
        exact W.iret (v := r3) hx hb hr (fun t ht hW => ⟨⟨_, (), rfl, rfl, by show va_P _ _ _ t.heap; rw [ht]; exact hP⟩, hS.F ht⟩) hS.2.2 dX9_bucket_44
      · replace h := oi_f hc h
        refine lv_aload_n hx hb dX9_bucket_31 rfl (lv_at hl 0 rfl) ?_
        refine lv_iload_n hx hb dX9_bucket_32 rfl (lv_at hl 1 rfl) ?_
        obtain ⟨r5, h6, h⟩ := obd_e h
        refine k_X9_otherOf S aM_RX9_127 ⟨Nat.le_of_ble_eq_true rfl, Nat.le_of_ble_eq_true rfl⟩ ⟨Nat.zero_le _, Nat.zero_le _⟩ hP hK hDT h6 hl.1 (Nat.le_of_ble_eq_true rfl) dX9_bucket_33 ?_
        refine lv_goto (tgt := 44) hx hb dX9_bucket_36 (by decide) ?_
        obtain ⟨rfl, rfl⟩ := os2 h
        exact W.iret (v := r5) hx hb hr (fun t ht hW => ⟨⟨_, (), rfl, rfl, by show va_P _ _ _ t.heap; rw [ht]; exact hP⟩, hS.F ht⟩) hS.2.2 dX9_bucket_44
    · replace h := oi_f hc h
      refine lv_iconst (v := 0) hx hb dX9_bucket_23 (by decide) ?_
      refine lv_goto (tgt := 44) hx hb dX9_bucket_24 (by decide) ?_
      obtain ⟨rfl, rfl⟩ := os2 h
      exact W.iret (v := 0) hx hb hr (fun t ht hW => ⟨⟨_, (), rfl, rfl, by show va_P _ _ _ t.heap; rw [ht]; exact hP⟩, hS.F ht⟩) hS.2.2 dX9_bucket_44
  have h := hF
  unfold G_X9_bucket at h
  refine lv_aload_n hx hb dX9_bucket_0 rfl (lv_at hl 0 rfl) ?_
  refine lv_iload_n hx hb dX9_bucket_1 rfl (lv_at hl 1 rfl) ?_
  refine k_X9_isKey S aM_RX9_194 ⟨Nat.le_of_ble_eq_true rfl, Nat.le_of_ble_eq_true rfl⟩ ⟨Nat.zero_le _, Nat.zero_le _⟩ hl.1 (Nat.le_of_ble_eq_true rfl) dX9_bucket_2 (fun r1 er1 br1 => ?_)
  replace h := olet_s er1 h
  refine lv_if_eq (tgt := 12) hx hb dX9_bucket_5 (by decide) (fun hc => ?_) (fun hc => ?_)
  · replace h := oi_t hc h
    refine lv_iconst (v := 1) hx hb dX9_bucket_12 (by decide) ?_
    exact hJ13 _ _ _ _ _ _ _ h hP hS (lv_sub hl [0, 1, 2] rfl)
  · replace h := oi_f hc h
    refine lv_iconst (v := 0) hx hb dX9_bucket_8 (by decide) ?_
    refine lv_goto (tgt := 13) hx hb dX9_bucket_9 (by decide) ?_
    exact hJ13 _ _ _ _ _ _ _ h hP hS (lv_sub hl [0, 1, 2] rfl)
theorem k_X9_bucket {p : Program} {l : Launch} {e : Env} {R : Room} {s : State} {m : MethodId} {args : Array Value} {below : List Frame} {meth : Method} {c : Code} {H : Heap} {locs : List Loc} {cells slots : Nat} {Q : State → Prop} {cc : ByteArray} {pc nL idx : Nat} {ls : Array Slot} {rest : List Value} {own : String} {D : va_G} {cI : ClassId} {a : Nat → Nat} {H0 : Heap} {φ : M2} {p1 : Int32} {p2 : Int32} {hv : Int64} {r0 : Int32} {φr : M2} (S : CallFix p m c cc nL s args AW own) (h1 : Cond.methodLink own idx yX9_bucket ∈ AW) (hR : 4 + 1 ≤ R.frames ∧ 8 + (3 + 11) + 86 ≤ R.locals) (hc : cells ≤ R.cells ∧ slots ≤ R.slots) (hP : va_P D vwCl (mbW cI a φ hv) H) (hK : va_K D vwCl [(cI, .int)] s) (hDT : ∀ (φ2 : M2) (hv2 : Int64), va_D (fun _ => True) (mbW cI a φ2 hv2)) (hS : va_S (mbA a) H0 H locs) (hF : G_X9_bucket φ p1 p2 = some (r0, φr)) (hsz : ls.size = nL) (hW : (rest.map fun v => v.category).sum ≤ 8) (hdg : decode cc pc = .ok (.invokevirtual idx, 3)) (kk : ∀ (H1 : Heap) (locs1 : List Loc), va_P D vwCl (mbW cI a φr hv) H1 → va_S (mbA a) H0 H1 locs1 → W p l e R s m args below meth c H1 locs1 cells slots Q (F0 m (pc + 3) ls (.int r0 :: rest))) : W p l e R s m args below meth c H locs cells slots Q (F0 m pc ls (.int p2 :: .int p1 :: .ref (a 0) :: rest)) :=
  fm_runVi (n := 2) (C := RX9) (As := [.int p1, .int p2]) S (c_X9_bucket l D cI a φ p1 p2 hv r0 φr hF) (M_pre (q0 := 0) (ci := 7) hK hP (hDT _ _) rfl rfl) hS h1 aI_X9_bucket aV_X9_bucket aN_RX9 aC_X9_bucket rfl rfl (by decide +kernel) rfl hR hc hsz hW hdg (fun r H1 locs1 hr hP1 hS1 => by subst hr; exact kk H1 locs1 hP1 hS1)
set_option maxHeartbeats 4000000 in
set_option maxRecDepth 100000 in
theorem c_X9_found (l : Launch) (D : va_G) (cI : ClassId) (a : Nat → Nat) (N : Nat) (φ : M2) (p1 : Int32) (hv : Int64) (r0 : Int32) (φr : M2) (hF : G_X9_found N φ p1 = some (r0, φr)) : Met l yX9_found (wsA yX9_found cX9_found 2 (some .boolean)) { frames := 5, cells := 0, slots := 0, locals := 115 } (va_Pc [.ref (a 0), .int p1] (mbP D cI a φ hv)) (va_Qi (fun (r : Int32) (_ : Unit) => r = r0 ∧ (r = 0 ∨ r = 1)) (fun _ t => va_P D vwCl (mbW cI a φr hv) t.heap) (mbA a)) 0 0 (mbA a) := by
  refine Met.ofW (cc := cX9_found) (maxL := 2) (ret := (some .boolean)) (by decide) rfl ?_
  intro p e s m args below meth c s₁ B hml hpre
  obtain ⟨rfl, hP, hK, hD0⟩ := hpre
  have hx := B.exec
  have hb := B.bytes
  have hr := B.returns
  have hA : ∀ w ∈ AW, w.before _ s = true := fun w h => atoms_spec (ws := wsA yX9_found cX9_found 2 (some .boolean)) B.pre w (List.mem_cons_of_mem _ h)
  have hown : s.vm.findClass RX9 = some m.cls := findClass_of_methodNamed B.named
  have hlocks := B.notSynchronized
  have hDT := M_dT hD0
  have hDA := M_dA hD0
  have hS : va_S (mbA a) s.heap s.heap [] := va_S.rf
  have S : CallFix p m c cX9_found 2 s ([.ref (a 0), .int p1] : List Value).toArray AW RX9 := ⟨hx, hb, hml, hown, hA⟩
  have hl := lv_entry ([.ref (a 0), .int p1]) (n := 2) (Nat.le_of_ble_eq_true rfl)
  rw [lg_entry_eq]
  generalize (lg_sl ([.ref (a 0), .int p1]) ++ List.replicate (2 - (lg_sl ([.ref (a 0), .int p1])).length) Slot.unset).toArray = ls at hl ⊢
  have hl : lv_has ls 2 [(0, .ref (a 0)), (1, .int p1)] := hl
  have hJ13 : ∀ (v1 : Int32) (s0 : Int32) (φ : M2) (H : Heap) (locs : List Loc) (ls : Array Slot), J_X9_found_13 N φ v1 s0 = some (r0, φr) → va_P D vwCl (mbW cI a φ hv) H → va_S (mbA a) s.heap H locs → lv_has ls 2 [(0, .ref (a 0)), (1, .int v1)] → W p l e (headSpec (wsA yX9_found cX9_found 2 (some .boolean)) { frames := 5, cells := 0, slots := 0, locals := 115 }).room s m ([.ref (a 0), .int p1] : List Value).toArray below meth c H locs 0 0 (MQ below (va_Qi (fun (r : Int32) (_ : Unit) => r = r0 ∧ (r = 0 ∨ r = 1)) (fun _ t => va_P D vwCl (mbW cI a φr hv) t.heap) (mbA a)) ([.ref (a 0), .int p1] : List Value).toArray s 0 0 (mbA a)) (F0 m 13 ls [.int s0, .ref (a 0)]) := by
    intro v1 s0 φ H locs ls h hP hS hl
    unfold J_X9_found_13 at h
    refine M_p0_5 hx hb hA hown aF_RX9_64 hK hP (hDA _ _) hS dX9_found_13 (fun w2 H locs ew2 hP hS => ?_)
    replace h := olet_s ew2 h
    refine lv_aload_n hx hb dX9_found_16 rfl (lv_at hl 0 rfl) ?_
    refine M_g0_5 hx hb hA hown aF_RX9_64 hK hP dX9_found_17 ?_
    refine lv_if_ne (tgt := 36) hx hb dX9_found_20 (by decide) (fun hc => ?_) (fun hc => ?_)
    · replace h := oi_f hc h
      refine lv_iconst (v := 0) hx hb dX9_found_36 (by decide) ?_
      obtain ⟨rfl, rfl⟩ := os2 h
      exact W.zret (v := 0) (ty := .boolean) hx hb hr rfl (fun t ht hW => ⟨⟨_, (), rfl, ⟨rfl, (Or.inl rfl)⟩, by show va_P _ _ _ t.heap; rw [ht]; exact hP⟩, hS.F ht⟩) hS.2.2 dX9_found_37
    · replace h := oi_t hc h
      refine lv_aload_n hx hb dX9_found_23 rfl (lv_at hl 0 rfl) ?_
      refine lv_iload_n hx hb dX9_found_24 rfl (lv_at hl 1 rfl) ?_
      obtain ⟨r3, h4, h⟩ := obd_e h
      refine k_X9_placeOf S aM_RX9_182 ⟨Nat.le_of_ble_eq_true rfl, Nat.le_of_ble_eq_true rfl⟩ ⟨Nat.zero_le _, Nat.zero_le _⟩ hP hK hDT h4 hl.1 (Nat.le_of_ble_eq_true rfl) dX9_found_25 ?_
      refine lv_iconst (v := (-1)) hx hb dX9_found_28 (by decide) ?_
      refine lv_icmp_eq (tgt := 36) hx hb dX9_found_29 (by decide) (fun hc => ?_) (fun hc => ?_)
      · replace h := oi_t hc h
        refine lv_iconst (v := 0) hx hb dX9_found_36 (by decide) ?_
        obtain ⟨rfl, rfl⟩ := os2 h
        exact W.zret (v := 0) (ty := .boolean) hx hb hr rfl (fun t ht hW => ⟨⟨_, (), rfl, ⟨rfl, (Or.inl rfl)⟩, by show va_P _ _ _ t.heap; rw [ht]; exact hP⟩, hS.F ht⟩) hS.2.2 dX9_found_37
      · replace h := oi_f hc h
        refine lv_iconst (v := 1) hx hb dX9_found_32 (by decide) ?_
        refine lv_goto (tgt := 37) hx hb dX9_found_33 (by decide) ?_
        obtain ⟨rfl, rfl⟩ := os2 h
        exact W.zret (v := 1) (ty := .boolean) hx hb hr rfl (fun t ht hW => ⟨⟨_, (), rfl, ⟨rfl, (Or.inr rfl)⟩, by show va_P _ _ _ t.heap; rw [ht]; exact hP⟩, hS.F ht⟩) hS.2.2 dX9_found_37
  have h := hF
  unfold G_X9_found at h
  refine lv_aload_n hx hb dX9_found_0 rfl (lv_at hl 0 rfl) ?_
  refine lv_iload_n hx hb dX9_found_1 rfl (lv_at hl 1 rfl) ?_
  refine k_X9_isKey S aM_RX9_194 ⟨Nat.le_of_ble_eq_true rfl, Nat.le_of_ble_eq_true rfl⟩ ⟨Nat.zero_le _, Nat.zero_le _⟩ hl.1 (Nat.le_of_ble_eq_true rfl) dX9_found_2 (fun r1 er1 br1 => ?_)
  replace h := olet_s er1 h
  refine lv_if_eq (tgt := 12) hx hb dX9_found_5 (by decide) (fun hc => ?_) (fun hc => ?_)
  · replace h := oi_t hc h
    refine lv_iconst (v := 1) hx hb dX9_found_12 (by decide) ?_
    exact hJ13 _ _ _ _ _ _ h hP hS (lv_sub hl [0, 1] rfl)
  · replace h := oi_f hc h
    refine lv_iconst (v := 0) hx hb dX9_found_8 (by decide) ?_
    refine lv_goto (tgt := 13) hx hb dX9_found_9 (by decide) ?_
    exact hJ13 _ _ _ _ _ _ h hP hS (lv_sub hl [0, 1] rfl)
theorem k_X9_found {p : Program} {l : Launch} {e : Env} {R : Room} {s : State} {m : MethodId} {args : Array Value} {below : List Frame} {meth : Method} {c : Code} {H : Heap} {locs : List Loc} {cells slots : Nat} {Q : State → Prop} {cc : ByteArray} {pc nL idx : Nat} {ls : Array Slot} {rest : List Value} {own : String} {D : va_G} {cI : ClassId} {a : Nat → Nat} {H0 : Heap} {N : Nat} {φ : M2} {p1 : Int32} {hv : Int64} {r0 : Int32} {φr : M2} (S : CallFix p m c cc nL s args AW own) (h1 : Cond.methodLink own idx yX9_found ∈ AW) (hR : 5 + 1 ≤ R.frames ∧ 8 + (2 + 11) + 115 ≤ R.locals) (hc : cells ≤ R.cells ∧ slots ≤ R.slots) (hP : va_P D vwCl (mbW cI a φ hv) H) (hK : va_K D vwCl [(cI, .int)] s) (hDT : ∀ (φ2 : M2) (hv2 : Int64), va_D (fun _ => True) (mbW cI a φ2 hv2)) (hS : va_S (mbA a) H0 H locs) (hF : G_X9_found N φ p1 = some (r0, φr)) (hsz : ls.size = nL) (hW : (rest.map fun v => v.category).sum ≤ 8) (hdg : decode cc pc = .ok (.invokevirtual idx, 3)) (kk : (r0 = 0 ∨ r0 = 1) → ∀ (H1 : Heap) (locs1 : List Loc), va_P D vwCl (mbW cI a φr hv) H1 → va_S (mbA a) H0 H1 locs1 → W p l e R s m args below meth c H1 locs1 cells slots Q (F0 m (pc + 3) ls (.int r0 :: rest))) : W p l e R s m args below meth c H locs cells slots Q (F0 m pc ls (.int p1 :: .ref (a 0) :: rest)) :=
  fm_runVi (n := 1) (C := RX9) (As := [.int p1]) S (c_X9_found l D cI a N φ p1 hv r0 φr hF) (M_pre (q0 := 0) (ci := 7) hK hP (hDT _ _) rfl rfl) hS h1 aI_X9_found aV_X9_found aN_RX9 aC_X9_found rfl rfl (by decide +kernel) rfl hR hc hsz hW hdg (fun r H1 locs1 hr hP1 hS1 => by obtain ⟨rfl, hz⟩ := hr; exact kk hz H1 locs1 hP1 hS1)
set_option maxHeartbeats 4000000 in
set_option maxRecDepth 100000 in
theorem c_X9_place (l : Launch) (D : va_G) (cI : ClassId) (a : Nat → Nat) (N : Nat) (φ : M2) (p1 : Int32) (hv : Int64) (r0 : Int32) (φr : M2) (hF : G_X9_place N φ p1 = some (r0, φr)) : Met l yX9_place (wsA yX9_place cX9_place 2 (some .int)) { frames := 5, cells := 0, slots := 0, locals := 115 } (va_Pc [.ref (a 0), .int p1] (mbP D cI a φ hv)) (va_Qi (fun (r : Int32) (_ : Unit) => r = r0) (fun _ t => va_P D vwCl (mbW cI a φr hv) t.heap) (mbA a)) 0 0 (mbA a) := by
  refine Met.ofW (cc := cX9_place) (maxL := 2) (ret := (some .int)) (by decide) rfl ?_
  intro p e s m args below meth c s₁ B hml hpre
  obtain ⟨rfl, hP, hK, hD0⟩ := hpre
  have hx := B.exec
  have hb := B.bytes
  have hr := B.returns
  have hA : ∀ w ∈ AW, w.before _ s = true := fun w h => atoms_spec (ws := wsA yX9_place cX9_place 2 (some .int)) B.pre w (List.mem_cons_of_mem _ h)
  have hown : s.vm.findClass RX9 = some m.cls := findClass_of_methodNamed B.named
  have hlocks := B.notSynchronized
  have hDT := M_dT hD0
  have hDA := M_dA hD0
  have hS : va_S (mbA a) s.heap s.heap [] := va_S.rf
  have S : CallFix p m c cX9_place 2 s ([.ref (a 0), .int p1] : List Value).toArray AW RX9 := ⟨hx, hb, hml, hown, hA⟩
  have hl := lv_entry ([.ref (a 0), .int p1]) (n := 2) (Nat.le_of_ble_eq_true rfl)
  rw [lg_entry_eq]
  generalize (lg_sl ([.ref (a 0), .int p1]) ++ List.replicate (2 - (lg_sl ([.ref (a 0), .int p1])).length) Slot.unset).toArray = ls at hl ⊢
  have hl : lv_has ls 2 [(0, .ref (a 0)), (1, .int p1)] := hl
  have h := hF
  unfold G_X9_place at h
  refine lv_aload_n hx hb dX9_place_0 rfl (lv_at hl 0 rfl) ?_
  refine lv_iload_n hx hb dX9_place_1 rfl (lv_at hl 1 rfl) ?_
  refine k_X9_isKey S aM_RX9_194 ⟨Nat.le_of_ble_eq_true rfl, Nat.le_of_ble_eq_true rfl⟩ ⟨Nat.zero_le _, Nat.zero_le _⟩ hl.1 (Nat.le_of_ble_eq_true rfl) dX9_place_2 (fun r1 er1 br1 => ?_)
  replace h := olet_s er1 h
  refine lv_if_eq (tgt := 12) hx hb dX9_place_5 (by decide) (fun hc => ?_) (fun hc => ?_)
  · replace h := oi_t hc h
    refine lv_iconst (v := 1) hx hb dX9_place_12 (by decide) ?_
    refine M_p0_5 hx hb hA hown aF_RX9_64 hK hP (hDA _ _) hS dX9_place_13 (fun w2 H locs ew2 hP hS => ?_)
    replace h := olet_s ew2 h
    refine lv_aload_n hx hb dX9_place_16 rfl (lv_at hl 0 rfl) ?_
    refine M_g0_5 hx hb hA hown aF_RX9_64 hK hP dX9_place_17 ?_
    refine lv_if_eq (tgt := 27) hx hb dX9_place_20 (by decide) (fun hc => ?_) (fun hc => ?_)
    · replace h := oi_t hc h
      refine lv_aload_n hx hb dX9_place_27 rfl (lv_at hl 0 rfl) ?_
      refine lv_iload_n hx hb dX9_place_28 rfl (lv_at hl 1 rfl) ?_
      obtain ⟨r3, h4, h⟩ := obd_e h
      refine k_X9_placeOf S aM_RX9_182 ⟨Nat.le_of_ble_eq_true rfl, Nat.le_of_ble_eq_true rfl⟩ ⟨Nat.zero_le _, Nat.zero_le _⟩ hP hK hDT h4 hl.1 (Nat.le_of_ble_eq_true rfl) dX9_place_29 ?_
      obtain ⟨rfl, rfl⟩ := os2 h
      exact W.iret (v := r3) hx hb hr (fun t ht hW => ⟨⟨_, (), rfl, rfl, by show va_P _ _ _ t.heap; rw [ht]; exact hP⟩, hS.F ht⟩) hS.2.2 dX9_place_32
    · replace h := oi_f hc h
      refine lv_iconst (v := 0) hx hb dX9_place_23 (by decide) ?_
      refine lv_goto (tgt := 32) hx hb dX9_place_24 (by decide) ?_
      obtain ⟨rfl, rfl⟩ := os2 h
      exact W.iret (v := 0) hx hb hr (fun t ht hW => ⟨⟨_, (), rfl, rfl, by show va_P _ _ _ t.heap; rw [ht]; exact hP⟩, hS.F ht⟩) hS.2.2 dX9_place_32
  · replace h := oi_f hc h
    refine lv_iconst (v := 0) hx hb dX9_place_8 (by decide) ?_
    refine lv_goto (tgt := 13) hx hb dX9_place_9 (by decide) ?_
    refine M_p0_5 hx hb hA hown aF_RX9_64 hK hP (hDA _ _) hS dX9_place_13 (fun w5 H locs ew5 hP hS => ?_)
    replace h := olet_s ew5 h
    refine lv_aload_n hx hb dX9_place_16 rfl (lv_at hl 0 rfl) ?_
    refine M_g0_5 hx hb hA hown aF_RX9_64 hK hP dX9_place_17 ?_
    refine lv_if_eq (tgt := 27) hx hb dX9_place_20 (by decide) (fun hc => ?_) (fun hc => ?_)
    · replace h := oi_t hc h
      refine lv_aload_n hx hb dX9_place_27 rfl (lv_at hl 0 rfl) ?_
      refine lv_iload_n hx hb dX9_place_28 rfl (lv_at hl 1 rfl) ?_
      obtain ⟨r6, h7, h⟩ := obd_e h
      refine k_X9_placeOf S aM_RX9_182 ⟨Nat.le_of_ble_eq_true rfl, Nat.le_of_ble_eq_true rfl⟩ ⟨Nat.zero_le _, Nat.zero_le _⟩ hP hK hDT h7 hl.1 (Nat.le_of_ble_eq_true rfl) dX9_place_29 ?_
      obtain ⟨rfl, rfl⟩ := os2 h
      exact W.iret (v := r6) hx hb hr (fun t ht hW => ⟨⟨_, (), rfl, rfl, by show va_P _ _ _ t.heap; rw [ht]; exact hP⟩, hS.F ht⟩) hS.2.2 dX9_place_32
    · replace h := oi_f hc h
      refine lv_iconst (v := 0) hx hb dX9_place_23 (by decide) ?_
      refine lv_goto (tgt := 32) hx hb dX9_place_24 (by decide) ?_
      obtain ⟨rfl, rfl⟩ := os2 h
      exact W.iret (v := 0) hx hb hr (fun t ht hW => ⟨⟨_, (), rfl, rfl, by show va_P _ _ _ t.heap; rw [ht]; exact hP⟩, hS.F ht⟩) hS.2.2 dX9_place_32
theorem k_X9_place {p : Program} {l : Launch} {e : Env} {R : Room} {s : State} {m : MethodId} {args : Array Value} {below : List Frame} {meth : Method} {c : Code} {H : Heap} {locs : List Loc} {cells slots : Nat} {Q : State → Prop} {cc : ByteArray} {pc nL idx : Nat} {ls : Array Slot} {rest : List Value} {own : String} {D : va_G} {cI : ClassId} {a : Nat → Nat} {H0 : Heap} {N : Nat} {φ : M2} {p1 : Int32} {hv : Int64} {r0 : Int32} {φr : M2} (S : CallFix p m c cc nL s args AW own) (h1 : Cond.methodLink own idx yX9_place ∈ AW) (hR : 5 + 1 ≤ R.frames ∧ 8 + (2 + 11) + 115 ≤ R.locals) (hc : cells ≤ R.cells ∧ slots ≤ R.slots) (hP : va_P D vwCl (mbW cI a φ hv) H) (hK : va_K D vwCl [(cI, .int)] s) (hDT : ∀ (φ2 : M2) (hv2 : Int64), va_D (fun _ => True) (mbW cI a φ2 hv2)) (hS : va_S (mbA a) H0 H locs) (hF : G_X9_place N φ p1 = some (r0, φr)) (hsz : ls.size = nL) (hW : (rest.map fun v => v.category).sum ≤ 8) (hdg : decode cc pc = .ok (.invokevirtual idx, 3)) (kk : ∀ (H1 : Heap) (locs1 : List Loc), va_P D vwCl (mbW cI a φr hv) H1 → va_S (mbA a) H0 H1 locs1 → W p l e R s m args below meth c H1 locs1 cells slots Q (F0 m (pc + 3) ls (.int r0 :: rest))) : W p l e R s m args below meth c H locs cells slots Q (F0 m pc ls (.int p1 :: .ref (a 0) :: rest)) :=
  fm_runVi (n := 1) (C := RX9) (As := [.int p1]) S (c_X9_place l D cI a N φ p1 hv r0 φr hF) (M_pre (q0 := 0) (ci := 7) hK hP (hDT _ _) rfl rfl) hS h1 aI_X9_place aV_X9_place aN_RX9 aC_X9_place rfl rfl (by decide +kernel) rfl hR hc hsz hW hdg (fun r H1 locs1 hr hP1 hS1 => by subst hr; exact kk H1 locs1 hP1 hS1)
set_option maxHeartbeats 4000000 in
set_option maxRecDepth 100000 in
theorem c_X9_present (l : Launch) (D : va_G) (cI : ClassId) (a : Nat → Nat) (φ : M2) (p1 : Int32) (hv : Int64) (r0 : Int32) (φr : M2) (hF : G_X9_present φ p1 = some (r0, φr)) : Met l yX9_present (wsA yX9_present cX9_present 2 (some .int)) { frames := 1, cells := 0, slots := 0, locals := 22 } (va_Pc [.ref (a 0), .int p1] (mbP D cI a φ hv)) (va_Qi (fun (r : Int32) (_ : Unit) => r = r0) (fun _ t => va_P D vwCl (mbW cI a φr hv) t.heap) (mbA a)) 0 0 (mbA a) := by
  refine Met.ofW (cc := cX9_present) (maxL := 2) (ret := (some .int)) (by decide) rfl ?_
  intro p e s m args below meth c s₁ B hml hpre
  obtain ⟨rfl, hP, hK, hD0⟩ := hpre
  have hx := B.exec
  have hb := B.bytes
  have hr := B.returns
  have hA : ∀ w ∈ AW, w.before _ s = true := fun w h => atoms_spec (ws := wsA yX9_present cX9_present 2 (some .int)) B.pre w (List.mem_cons_of_mem _ h)
  have hown : s.vm.findClass RX9 = some m.cls := findClass_of_methodNamed B.named
  have hlocks := B.notSynchronized
  have hDT := M_dT hD0
  have hDA := M_dA hD0
  have hS : va_S (mbA a) s.heap s.heap [] := va_S.rf
  have S : CallFix p m c cX9_present 2 s ([.ref (a 0), .int p1] : List Value).toArray AW RX9 := ⟨hx, hb, hml, hown, hA⟩
  have hl := lv_entry ([.ref (a 0), .int p1]) (n := 2) (Nat.le_of_ble_eq_true rfl)
  rw [lg_entry_eq]
  generalize (lg_sl ([.ref (a 0), .int p1]) ++ List.replicate (2 - (lg_sl ([.ref (a 0), .int p1])).length) Slot.unset).toArray = ls at hl ⊢
  have hl : lv_has ls 2 [(0, .ref (a 0)), (1, .int p1)] := hl
  have hJ24 : ∀ (v1 : Int32) (s0 : Int32) (φ : M2) (H : Heap) (locs : List Loc) (ls : Array Slot), J_X9_present_24 φ v1 s0 = some (r0, φr) → va_P D vwCl (mbW cI a φ hv) H → va_S (mbA a) s.heap H locs → lv_has ls 2 [(0, .ref (a 0)), (1, .int v1)] → W p l e (headSpec (wsA yX9_present cX9_present 2 (some .int)) { frames := 1, cells := 0, slots := 0, locals := 22 }).room s m ([.ref (a 0), .int p1] : List Value).toArray below meth c H locs 0 0 (MQ below (va_Qi (fun (r : Int32) (_ : Unit) => r = r0) (fun _ t => va_P D vwCl (mbW cI a φr hv) t.heap) (mbA a)) ([.ref (a 0), .int p1] : List Value).toArray s 0 0 (mbA a)) (F0 m 24 ls [.int s0, .ref (a 0)]) := by
    intro v1 s0 φ H locs ls h hP hS hl
    unfold J_X9_present_24 at h
    refine M_p0_5 hx hb hA hown aF_RX9_64 hK hP (hDA _ _) hS dX9_present_24 (fun w3 H locs ew3 hP hS => ?_)
    replace h := olet_s ew3 h
    refine lv_aload_n hx hb dX9_present_27 rfl (lv_at hl 0 rfl) ?_
    refine M_g0_5 hx hb hA hown aF_RX9_64 hK hP dX9_present_28 ?_
    refine lv_if_eq (tgt := 38) hx hb dX9_present_31 (by decide) (fun hc => ?_) (fun hc => ?_)
    · replace h := oi_t hc h
      refine lv_aload_n hx hb dX9_present_38 rfl (lv_at hl 0 rfl) ?_
      refine M_g0_0 hx hb hA hown aF_RX9_7 hK hP dX9_present_39 ?_
      refine lv_sipush (v := 1043) hx hb dX9_present_42 (by decide) ?_
      refine lv_iload_n hx hb dX9_present_45 rfl (lv_at hl 1 rfl) ?_
      refine lv_iadd hx hb dX9_present_46 ?_
      obtain ⟨i4, h⟩ := oin_e h
      refine M_ld1 hx hb hK hP i4 dX9_present_47 ?_
      obtain ⟨rfl, rfl⟩ := os2 h
      exact W.iret (v := (w3 1 ((1043 + v1)).toNatClampNeg)) hx hb hr (fun t ht hW => ⟨⟨_, (), rfl, rfl, by show va_P _ _ _ t.heap; rw [ht]; exact hP⟩, hS.F ht⟩) hS.2.2 dX9_present_48
    · replace h := oi_f hc h
      refine lv_iconst (v := 0) hx hb dX9_present_34 (by decide) ?_
      refine lv_goto (tgt := 48) hx hb dX9_present_35 (by decide) ?_
      obtain ⟨rfl, rfl⟩ := os2 h
      exact W.iret (v := 0) hx hb hr (fun t ht hW => ⟨⟨_, (), rfl, rfl, by show va_P _ _ _ t.heap; rw [ht]; exact hP⟩, hS.F ht⟩) hS.2.2 dX9_present_48
  have h := hF
  unfold G_X9_present at h
  refine lv_aload_n hx hb dX9_present_0 rfl (lv_at hl 0 rfl) ?_
  refine lv_iload_n hx hb dX9_present_1 rfl (lv_at hl 1 rfl) ?_
  refine lv_iconst (v := 0) hx hb dX9_present_2 (by decide) ?_
  refine lv_aload_n hx hb dX9_present_3 rfl (lv_at hl 0 rfl) ?_
  refine M_g0_0 hx hb hA hown aF_RX9_7 hK hP dX9_present_4 ?_
  refine lv_sipush (v := 1042) hx hb dX9_present_7 (by decide) ?_
  obtain ⟨i1, h⟩ := oin_e h
  refine M_ld1 hx hb hK hP i1 dX9_present_10 ?_
  refine lv_iconst (v := 1) hx hb dX9_present_11 (by decide) ?_
  refine lv_isub hx hb dX9_present_12 ?_
  refine k_X9_in S aM_RX9_78 ⟨Nat.le_of_ble_eq_true rfl, Nat.le_of_ble_eq_true rfl⟩ ⟨Nat.zero_le _, Nat.zero_le _⟩ hl.1 (Nat.le_of_ble_eq_true rfl) dX9_present_13 (fun r2 er2 br2 => ?_)
  replace h := olet_s er2 h
  refine lv_if_eq (tgt := 23) hx hb dX9_present_16 (by decide) (fun hc => ?_) (fun hc => ?_)
  · replace h := oi_t hc h
    refine lv_iconst (v := 1) hx hb dX9_present_23 (by decide) ?_
    exact hJ24 _ _ _ _ _ _ h hP hS (lv_sub hl [0, 1] rfl)
  · replace h := oi_f hc h
    refine lv_iconst (v := 0) hx hb dX9_present_19 (by decide) ?_
    refine lv_goto (tgt := 24) hx hb dX9_present_20 (by decide) ?_
    exact hJ24 _ _ _ _ _ _ h hP hS (lv_sub hl [0, 1] rfl)
theorem k_X9_present {p : Program} {l : Launch} {e : Env} {R : Room} {s : State} {m : MethodId} {args : Array Value} {below : List Frame} {meth : Method} {c : Code} {H : Heap} {locs : List Loc} {cells slots : Nat} {Q : State → Prop} {cc : ByteArray} {pc nL idx : Nat} {ls : Array Slot} {rest : List Value} {own : String} {D : va_G} {cI : ClassId} {a : Nat → Nat} {H0 : Heap} {φ : M2} {p1 : Int32} {hv : Int64} {r0 : Int32} {φr : M2} (S : CallFix p m c cc nL s args AW own) (h1 : Cond.methodLink own idx yX9_present ∈ AW) (hR : 1 + 1 ≤ R.frames ∧ 8 + (2 + 11) + 22 ≤ R.locals) (hc : cells ≤ R.cells ∧ slots ≤ R.slots) (hP : va_P D vwCl (mbW cI a φ hv) H) (hK : va_K D vwCl [(cI, .int)] s) (hDT : ∀ (φ2 : M2) (hv2 : Int64), va_D (fun _ => True) (mbW cI a φ2 hv2)) (hS : va_S (mbA a) H0 H locs) (hF : G_X9_present φ p1 = some (r0, φr)) (hsz : ls.size = nL) (hW : (rest.map fun v => v.category).sum ≤ 8) (hdg : decode cc pc = .ok (.invokevirtual idx, 3)) (kk : ∀ (H1 : Heap) (locs1 : List Loc), va_P D vwCl (mbW cI a φr hv) H1 → va_S (mbA a) H0 H1 locs1 → W p l e R s m args below meth c H1 locs1 cells slots Q (F0 m (pc + 3) ls (.int r0 :: rest))) : W p l e R s m args below meth c H locs cells slots Q (F0 m pc ls (.int p1 :: .ref (a 0) :: rest)) :=
  fm_runVi (n := 1) (C := RX9) (As := [.int p1]) S (c_X9_present l D cI a φ p1 hv r0 φr hF) (M_pre (q0 := 0) (ci := 7) hK hP (hDT _ _) rfl rfl) hS h1 aI_X9_present aV_X9_present aN_RX9 aC_X9_present rfl rfl (by decide +kernel) rfl hR hc hsz hW hdg (fun r H1 locs1 hr hP1 hS1 => by subst hr; exact kk H1 locs1 hP1 hS1)
set_option maxHeartbeats 4000000 in
set_option maxRecDepth 100000 in
theorem c_X9_count (l : Launch) (D : va_G) (cI : ClassId) (a : Nat → Nat) (φ : M2) (hv : Int64) (r0 : Int32) (φr : M2) (hF : G_X9_count φ = some (r0, φr)) : Met l yX9_count (wsA yX9_count cX9_count 1 (some .int)) { frames := 0, cells := 0, slots := 0, locals := 0 } (va_Pc [.ref (a 0)] (mbP D cI a φ hv)) (va_Qi (fun (r : Int32) (_ : Unit) => r = r0) (fun _ t => va_P D vwCl (mbW cI a φr hv) t.heap) (mbA a)) 0 0 (mbA a) := by
  refine Met.ofW (cc := cX9_count) (maxL := 1) (ret := (some .int)) (by decide) rfl ?_
  intro p e s m args below meth c s₁ B hml hpre
  obtain ⟨rfl, hP, hK, hD0⟩ := hpre
  have hx := B.exec
  have hb := B.bytes
  have hr := B.returns
  have hA : ∀ w ∈ AW, w.before _ s = true := fun w h => atoms_spec (ws := wsA yX9_count cX9_count 1 (some .int)) B.pre w (List.mem_cons_of_mem _ h)
  have hown : s.vm.findClass RX9 = some m.cls := findClass_of_methodNamed B.named
  have hlocks := B.notSynchronized
  have hDT := M_dT hD0
  have hDA := M_dA hD0
  have hS : va_S (mbA a) s.heap s.heap [] := va_S.rf
  have S : CallFix p m c cX9_count 1 s ([.ref (a 0)] : List Value).toArray AW RX9 := ⟨hx, hb, hml, hown, hA⟩
  have hl := lv_entry ([.ref (a 0)]) (n := 1) (Nat.le_of_ble_eq_true rfl)
  rw [lg_entry_eq]
  generalize (lg_sl ([.ref (a 0)]) ++ List.replicate (1 - (lg_sl ([.ref (a 0)])).length) Slot.unset).toArray = ls at hl ⊢
  have hl : lv_has ls 1 [(0, .ref (a 0))] := hl
  have h := hF
  unfold G_X9_count at h
  refine lv_aload_n hx hb dX9_count_0 rfl (lv_at hl 0 rfl) ?_
  refine lv_iconst (v := 0) hx hb dX9_count_1 (by decide) ?_
  refine M_p0_5 hx hb hA hown aF_RX9_64 hK hP (hDA _ _) hS dX9_count_2 (fun w1 H locs ew1 hP hS => ?_)
  replace h := olet_s ew1 h
  refine lv_aload_n hx hb dX9_count_5 rfl (lv_at hl 0 rfl) ?_
  refine M_g0_0 hx hb hA hown aF_RX9_7 hK hP dX9_count_6 ?_
  refine lv_sipush (v := 1042) hx hb dX9_count_9 (by decide) ?_
  obtain ⟨i2, h⟩ := oin_e h
  refine M_ld1 hx hb hK hP i2 dX9_count_12 ?_
  obtain ⟨rfl, rfl⟩ := os2 h
  exact W.iret (v := (w1 1 (1042 : Int32).toNatClampNeg)) hx hb hr (fun t ht hW => ⟨⟨_, (), rfl, rfl, by show va_P _ _ _ t.heap; rw [ht]; exact hP⟩, hS.F ht⟩) hS.2.2 dX9_count_13
theorem k_X9_count {p : Program} {l : Launch} {e : Env} {R : Room} {s : State} {m : MethodId} {args : Array Value} {below : List Frame} {meth : Method} {c : Code} {H : Heap} {locs : List Loc} {cells slots : Nat} {Q : State → Prop} {cc : ByteArray} {pc nL idx : Nat} {ls : Array Slot} {rest : List Value} {own : String} {D : va_G} {cI : ClassId} {a : Nat → Nat} {H0 : Heap} {φ : M2} {hv : Int64} {r0 : Int32} {φr : M2} (S : CallFix p m c cc nL s args AW own) (h1 : Cond.methodLink own idx yX9_count ∈ AW) (hR : 0 + 1 ≤ R.frames ∧ 8 + (1 + 11) + 0 ≤ R.locals) (hc : cells ≤ R.cells ∧ slots ≤ R.slots) (hP : va_P D vwCl (mbW cI a φ hv) H) (hK : va_K D vwCl [(cI, .int)] s) (hDT : ∀ (φ2 : M2) (hv2 : Int64), va_D (fun _ => True) (mbW cI a φ2 hv2)) (hS : va_S (mbA a) H0 H locs) (hF : G_X9_count φ = some (r0, φr)) (hsz : ls.size = nL) (hW : (rest.map fun v => v.category).sum ≤ 8) (hdg : decode cc pc = .ok (.invokevirtual idx, 3)) (kk : ∀ (H1 : Heap) (locs1 : List Loc), va_P D vwCl (mbW cI a φr hv) H1 → va_S (mbA a) H0 H1 locs1 → W p l e R s m args below meth c H1 locs1 cells slots Q (F0 m (pc + 3) ls (.int r0 :: rest))) : W p l e R s m args below meth c H locs cells slots Q (F0 m pc ls (.ref (a 0) :: rest)) :=
  fm_runVi (n := 0) (C := RX9) (As := []) S (c_X9_count l D cI a φ hv r0 φr hF) (M_pre (q0 := 0) (ci := 7) hK hP (hDT _ _) rfl rfl) hS h1 aI_X9_count aV_X9_count aN_RX9 aC_X9_count rfl rfl (by decide +kernel) rfl hR hc hsz hW hdg (fun r H1 locs1 hr hP1 hS1 => by subst hr; exact kk H1 locs1 hP1 hS1)
set_option maxHeartbeats 4000000 in
set_option maxRecDepth 100000 in
theorem c_X9_tryAdd (l : Launch) (D : va_G) (cI : ClassId) (a : Nat → Nat) (N : Nat) (φ : M2) (p1 : Int32) (hv : Int64) (r0 : Int32) (φr : M2) (hF : G_X9_tryAdd N φ p1 = some (r0, φr)) : Met l yX9_tryAdd (wsA yX9_tryAdd cX9_tryAdd 3 (some .int)) { frames := 6, cells := 0, slots := 0, locals := 133 } (va_Pc [.ref (a 0), .int p1] (mbP D cI a φ hv)) (va_Qi (fun (r : Int32) (_ : Unit) => r = r0) (fun _ t => va_P D vwCl (mbW cI a φr hv) t.heap) (mbA a)) 0 0 (mbA a) := by
  refine Met.ofW (cc := cX9_tryAdd) (maxL := 3) (ret := (some .int)) (by decide) rfl ?_
  intro p e s m args below meth c s₁ B hml hpre
  obtain ⟨rfl, hP, hK, hD0⟩ := hpre
  have hx := B.exec
  have hb := B.bytes
  have hr := B.returns
  have hA : ∀ w ∈ AW, w.before _ s = true := fun w h => atoms_spec (ws := wsA yX9_tryAdd cX9_tryAdd 3 (some .int)) B.pre w (List.mem_cons_of_mem _ h)
  have hown : s.vm.findClass RX9 = some m.cls := findClass_of_methodNamed B.named
  have hlocks := B.notSynchronized
  have hDT := M_dT hD0
  have hDA := M_dA hD0
  have hS : va_S (mbA a) s.heap s.heap [] := va_S.rf
  have S : CallFix p m c cX9_tryAdd 3 s ([.ref (a 0), .int p1] : List Value).toArray AW RX9 := ⟨hx, hb, hml, hown, hA⟩
  have hl := lv_entry ([.ref (a 0), .int p1]) (n := 3) (Nat.le_of_ble_eq_true rfl)
  rw [lg_entry_eq]
  generalize (lg_sl ([.ref (a 0), .int p1]) ++ List.replicate (3 - (lg_sl ([.ref (a 0), .int p1])).length) Slot.unset).toArray = ls at hl ⊢
  have hl : lv_has ls 3 [(0, .ref (a 0)), (1, .int p1)] := hl
  have h := hF
  unfold G_X9_tryAdd at h
  refine lv_aload_n hx hb dX9_tryAdd_0 rfl (lv_at hl 0 rfl) ?_
  refine lv_iload_n hx hb dX9_tryAdd_1 rfl (lv_at hl 1 rfl) ?_
  obtain ⟨r1, h2, h⟩ := obd_e h
  refine k_X9_mayAdd S aM_RX9_197 ⟨Nat.le_of_ble_eq_true rfl, Nat.le_of_ble_eq_true rfl⟩ ⟨Nat.zero_le _, Nat.zero_le _⟩ hP hK hDT h2 hl.1 (Nat.le_of_ble_eq_true rfl) dX9_tryAdd_2 (fun br1 => ?_)
  refine lv_if_eq (tgt := 16) hx hb dX9_tryAdd_5 (by decide) (fun hc => ?_) (fun hc => ?_)
  · replace h := oi_t hc h
    refine lv_iconst (v := (-1)) hx hb dX9_tryAdd_16 (by decide) ?_
    refine lv_istore_n (lv' := [(2, .int ((-1))), (0, .ref (a 0)), (1, .int p1)]) hx hb dX9_tryAdd_17 rfl hl (by decide) rfl (fun ls hl => ?_)
    refine lv_iload_n hx hb dX9_tryAdd_18 rfl (lv_at hl 0 rfl) ?_
    refine lv_iconst (v := (-1)) hx hb dX9_tryAdd_19 (by decide) ?_
    refine lv_icmp_eq (tgt := 28) hx hb dX9_tryAdd_20 (by decide) (fun _ => ?_) (fun hc => absurd hc (by decide))
    refine lv_iload_n hx hb dX9_tryAdd_28 rfl (lv_at hl 0 rfl) ?_
    obtain ⟨rfl, rfl⟩ := os2 h
    exact W.iret (v := (-1)) hx hb hr (fun t ht hW => ⟨⟨_, (), rfl, rfl, by show va_P _ _ _ t.heap; rw [ht]; exact hP⟩, hS.F ht⟩) hS.2.2 dX9_tryAdd_29
  · replace h := oi_f hc h
    refine lv_aload_n hx hb dX9_tryAdd_8 rfl (lv_at hl 0 rfl) ?_
    refine lv_iload_n hx hb dX9_tryAdd_9 rfl (lv_at hl 1 rfl) ?_
    obtain ⟨r5, w3, h4, h⟩ := obd2_e h
    refine k_X9_addEntry S aM_RX9_191 ⟨Nat.le_of_ble_eq_true rfl, Nat.le_of_ble_eq_true rfl⟩ ⟨Nat.zero_le _, Nat.zero_le _⟩ hP hK hDT hS h4 hl.1 (Nat.le_of_ble_eq_true rfl) dX9_tryAdd_10 (fun H locs hP hS => ?_)
    refine lv_goto (tgt := 17) hx hb dX9_tryAdd_13 (by decide) ?_
    refine lv_istore_n (lv' := [(2, .int r5), (0, .ref (a 0)), (1, .int p1)]) hx hb dX9_tryAdd_17 rfl hl (by decide) rfl (fun ls hl => ?_)
    refine lv_iload_n hx hb dX9_tryAdd_18 rfl (lv_at hl 0 rfl) ?_
    refine lv_iconst (v := (-1)) hx hb dX9_tryAdd_19 (by decide) ?_
    refine lv_icmp_eq (tgt := 28) hx hb dX9_tryAdd_20 (by decide) (fun hc => ?_) (fun hc => ?_)
    · replace h := oi_t hc h
      refine lv_iload_n hx hb dX9_tryAdd_28 rfl (lv_at hl 0 rfl) ?_
      obtain ⟨rfl, rfl⟩ := os2 h
      exact W.iret (v := r5) hx hb hr (fun t ht hW => ⟨⟨_, (), rfl, rfl, by show va_P _ _ _ t.heap; rw [ht]; exact hP⟩, hS.F ht⟩) hS.2.2 dX9_tryAdd_29
    · replace h := oi_f hc h
      refine lv_aload_n hx hb dX9_tryAdd_23 rfl (lv_at hl 1 rfl) ?_
      refine lv_iload_n hx hb dX9_tryAdd_24 rfl (lv_at hl 2 rfl) ?_
      obtain ⟨w6, h7, h⟩ := obd_e h
      refine k_X9_noteKey S aM_RX9_200 ⟨Nat.le_of_ble_eq_true rfl, Nat.le_of_ble_eq_true rfl⟩ ⟨Nat.zero_le _, Nat.zero_le _⟩ hP hK hDT hS h7 hl.1 (Nat.le_of_ble_eq_true rfl) dX9_tryAdd_25 (fun H locs hP hS => ?_)
      refine lv_iload_n hx hb dX9_tryAdd_28 rfl (lv_at hl 0 rfl) ?_
      obtain ⟨rfl, rfl⟩ := os2 h
      exact W.iret (v := r5) hx hb hr (fun t ht hW => ⟨⟨_, (), rfl, rfl, by show va_P _ _ _ t.heap; rw [ht]; exact hP⟩, hS.F ht⟩) hS.2.2 dX9_tryAdd_29
theorem k_X9_tryAdd {p : Program} {l : Launch} {e : Env} {R : Room} {s : State} {m : MethodId} {args : Array Value} {below : List Frame} {meth : Method} {c : Code} {H : Heap} {locs : List Loc} {cells slots : Nat} {Q : State → Prop} {cc : ByteArray} {pc nL idx : Nat} {ls : Array Slot} {rest : List Value} {own : String} {D : va_G} {cI : ClassId} {a : Nat → Nat} {H0 : Heap} {N : Nat} {φ : M2} {p1 : Int32} {hv : Int64} {r0 : Int32} {φr : M2} (S : CallFix p m c cc nL s args AW own) (h1 : Cond.methodLink own idx yX9_tryAdd ∈ AW) (hR : 6 + 1 ≤ R.frames ∧ 8 + (3 + 11) + 133 ≤ R.locals) (hc : cells ≤ R.cells ∧ slots ≤ R.slots) (hP : va_P D vwCl (mbW cI a φ hv) H) (hK : va_K D vwCl [(cI, .int)] s) (hDT : ∀ (φ2 : M2) (hv2 : Int64), va_D (fun _ => True) (mbW cI a φ2 hv2)) (hS : va_S (mbA a) H0 H locs) (hF : G_X9_tryAdd N φ p1 = some (r0, φr)) (hsz : ls.size = nL) (hW : (rest.map fun v => v.category).sum ≤ 8) (hdg : decode cc pc = .ok (.invokevirtual idx, 3)) (kk : ∀ (H1 : Heap) (locs1 : List Loc), va_P D vwCl (mbW cI a φr hv) H1 → va_S (mbA a) H0 H1 locs1 → W p l e R s m args below meth c H1 locs1 cells slots Q (F0 m (pc + 3) ls (.int r0 :: rest))) : W p l e R s m args below meth c H locs cells slots Q (F0 m pc ls (.int p1 :: .ref (a 0) :: rest)) :=
  fm_runVi (n := 1) (C := RX9) (As := [.int p1]) S (c_X9_tryAdd l D cI a N φ p1 hv r0 φr hF) (M_pre (q0 := 0) (ci := 7) hK hP (hDT _ _) rfl rfl) hS h1 aI_X9_tryAdd aV_X9_tryAdd aN_RX9 aC_X9_tryAdd rfl rfl (by decide +kernel) rfl hR hc hsz hW hdg (fun r H1 locs1 hr hP1 hS1 => by subst hr; exact kk H1 locs1 hP1 hS1)
set_option maxHeartbeats 4000000 in
set_option maxRecDepth 100000 in
theorem c_X9_keepAside (l : Launch) (D : va_G) (cI : ClassId) (a : Nat → Nat) (N : Nat) (φ : M2) (p1 : Int32) (hv : Int64) (φr : M2) (hF : G_X9_keepAside N φ p1 = some φr) : Met l yX9_keepAside (wsA yX9_keepAside cX9_keepAside 3 none) { frames := 1, cells := 0, slots := 0, locals := 21 } (va_Pc [.ref (a 0), .int p1] (mbP D cI a φ hv)) (va_Qv (fun (_ : Unit) => True) (fun _ t => va_P D vwCl (mbW cI a φr hv) t.heap) (mbA a)) 0 0 (mbA a) := by
  refine Met.ofW (cc := cX9_keepAside) (maxL := 3) (ret := none) (by decide) rfl ?_
  intro p e s m args below meth c s₁ B hml hpre
  obtain ⟨rfl, hP, hK, hD0⟩ := hpre
  have hx := B.exec
  have hb := B.bytes
  have hr := B.returns
  have hA : ∀ w ∈ AW, w.before _ s = true := fun w h => atoms_spec (ws := wsA yX9_keepAside cX9_keepAside 3 none) B.pre w (List.mem_cons_of_mem _ h)
  have hown : s.vm.findClass RX9 = some m.cls := findClass_of_methodNamed B.named
  have hlocks := B.notSynchronized
  have hDT := M_dT hD0
  have hDA := M_dA hD0
  have hS : va_S (mbA a) s.heap s.heap [] := va_S.rf
  have S : CallFix p m c cX9_keepAside 3 s ([.ref (a 0), .int p1] : List Value).toArray AW RX9 := ⟨hx, hb, hml, hown, hA⟩
  have hl := lv_entry ([.ref (a 0), .int p1]) (n := 3) (Nat.le_of_ble_eq_true rfl)
  rw [lg_entry_eq]
  generalize (lg_sl ([.ref (a 0), .int p1]) ++ List.replicate (3 - (lg_sl ([.ref (a 0), .int p1])).length) Slot.unset).toArray = ls at hl ⊢
  have hl : lv_has ls 3 [(0, .ref (a 0)), (1, .int p1)] := hl
  have hL6 : ∀ (k : Nat) (v1 : Int32) (v2 : Int32) (φ : M2) (H : Heap) (locs : List Loc) (ls : Array Slot) (φo : M2), L_X9_keepAside_6 N v1 k v2 φ = some φo → va_P D vwCl (mbW cI a φ hv) H → va_S (mbA a) s.heap H locs → lv_has ls 3 [(0, .ref (a 0)), (1, .int v1), (2, .int v2)] → (∀ (H1 : Heap) (locs1 : List Loc) (ls1 : Array Slot), va_P D vwCl (mbW cI a φo hv) H1 → va_S (mbA a) s.heap H1 locs1 → lv_has ls1 3 [(0, .ref (a 0))] → W p l e (headSpec (wsA yX9_keepAside cX9_keepAside 3 none) { frames := 1, cells := 0, slots := 0, locals := 21 }).room s m ([.ref (a 0), .int p1] : List Value).toArray below meth c H1 locs1 0 0 (MQ below (va_Qv (fun (_ : Unit) => True) (fun _ t => va_P D vwCl (mbW cI a φr hv) t.heap) (mbA a)) ([.ref (a 0), .int p1] : List Value).toArray s 0 0 (mbA a)) (F0 m 46 ls1 [])) → W p l e (headSpec (wsA yX9_keepAside cX9_keepAside 3 none) { frames := 1, cells := 0, slots := 0, locals := 21 }).room s m ([.ref (a 0), .int p1] : List Value).toArray below meth c H locs 0 0 (MQ below (va_Qv (fun (_ : Unit) => True) (fun _ t => va_P D vwCl (mbW cI a φr hv) t.heap) (mbA a)) ([.ref (a 0), .int p1] : List Value).toArray s 0 0 (mbA a)) (F0 m 6 ls []) := by
    intro k
    induction k with
    | zero =>
      intro v1 v2 φ H locs ls φo h hP hS hl kk
      exact no_s h
    | succ k ih =>
      intro v1 v2 φ H locs ls φo h hP hS hl kk
      replace h : B_X9_keepAside_6 N v1 (L_X9_keepAside_6 N v1 k) v2 φ = some φo := h
      unfold B_X9_keepAside_6 at h
      refine lv_iload_n hx hb dX9_keepAside_6 rfl (lv_at hl 2 rfl) ?_
      refine lv_sipush (v := 1163) hx hb dX9_keepAside_7 (by decide) ?_
      refine lv_icmp_ge (tgt := 46) hx hb dX9_keepAside_10 (by decide) (fun hc => ?_) (fun hc => ?_)
      · replace h := oi_t hc h
        obtain rfl := os1 h
        exact kk _ _ _ hP hS (lv_sub hl [0] rfl)
      · replace h := oi_f hc h
        refine lv_aload_n hx hb dX9_keepAside_13 rfl (lv_at hl 0 rfl) ?_
        refine M_g0_1 hx hb hA hown aF_RX9_13 hK hP dX9_keepAside_14 ?_
        refine lv_sipush (v := 1163) hx hb dX9_keepAside_17 (by decide) ?_
        refine lv_aload_n hx hb dX9_keepAside_20 rfl (lv_at hl 0 rfl) ?_
        refine M_g0_2 hx hb hA hown aF_RX9_68 hK hP dX9_keepAside_21 ?_
        refine lv_imul hx hb dX9_keepAside_24 ?_
        refine lv_iload_n hx hb dX9_keepAside_25 rfl (lv_at hl 2 rfl) ?_
        refine lv_iadd hx hb dX9_keepAside_26 ?_
        refine lv_aload_n hx hb dX9_keepAside_27 rfl (lv_at hl 0 rfl) ?_
        refine M_g0_1 hx hb hA hown aF_RX9_13 hK hP dX9_keepAside_28 ?_
        refine lv_sipush (v := 1163) hx hb dX9_keepAside_31 (by decide) ?_
        refine lv_iload_n hx hb dX9_keepAside_34 rfl (lv_at hl 1 rfl) ?_
        refine lv_imul hx hb dX9_keepAside_35 ?_
        refine lv_iload_n hx hb dX9_keepAside_36 rfl (lv_at hl 2 rfl) ?_
        refine lv_iadd hx hb dX9_keepAside_37 ?_
        obtain ⟨i3, h⟩ := oin_e h
        refine M_ld2 hx hb hK hP i3 dX9_keepAside_38 ?_
        obtain ⟨i4, h⟩ := oin_e h
        refine M_st2 hx hb hK hP (hDA _ _) hS i4 dX9_keepAside_39 (fun w5 H locs ew5 hP hS => ?_)
        replace h := olet_s ew5 h
        refine lv_iinc (v := v2 + 1) (lv' := [(2, .int (v2 + 1)), (0, .ref (a 0)), (1, .int v1)]) hx hb dX9_keepAside_40 hl (k := 2) rfl (fm_inc _ _ _ (by decide)) (by decide) rfl (fun ls hl => ?_)
        refine lv_goto (tgt := 6) hx hb dX9_keepAside_43 (by decide) ?_
        exact ih _ _ _ _ _ _ _ h hP hS (lv_sub hl [1, 2, 0] rfl) kk
  have h := hF
  unfold G_X9_keepAside at h
  refine lv_aload_n hx hb dX9_keepAside_0 rfl (lv_at hl 0 rfl) ?_
  obtain ⟨w1, h2, h⟩ := obd_e h
  refine k_X9_makeRoom S aM_RX9_71 ⟨Nat.le_of_ble_eq_true rfl, Nat.le_of_ble_eq_true rfl⟩ ⟨Nat.zero_le _, Nat.zero_le _⟩ hP hK hDT hS h2 hl.1 (Nat.le_of_ble_eq_true rfl) dX9_keepAside_1 (fun H locs hP hS => ?_)
  refine lv_iconst (v := 0) hx hb dX9_keepAside_4 (by decide) ?_
  refine lv_istore_n (lv' := [(2, .int 0), (0, .ref (a 0)), (1, .int p1)]) hx hb dX9_keepAside_5 rfl hl (by decide) rfl (fun ls hl => ?_)
  obtain ⟨w6, h7, h⟩ := obd_e h
  refine hL6 N _ _ _ _ _ _ _ h7 hP hS (lv_sub hl [1, 2, 0] rfl) (fun H locs ls hP hS hl => ?_)
  refine lv_aload_n hx hb dX9_keepAside_46 rfl (lv_at hl 0 rfl) ?_
  refine lv_dup hx hb dX9_keepAside_47 rfl ?_
  refine M_g0_2 hx hb hA hown aF_RX9_68 hK hP dX9_keepAside_48 ?_
  refine lv_iconst (v := 1) hx hb dX9_keepAside_51 (by decide) ?_
  refine lv_iadd hx hb dX9_keepAside_52 ?_
  refine M_p0_2 hx hb hA hown aF_RX9_68 hK hP (hDA _ _) hS dX9_keepAside_53 (fun w8 H locs ew8 hP hS => ?_)
  replace h := olet_s ew8 h
  obtain rfl := os1 h
  exact W.vret hx hb hr (fun t ht hW => ⟨⟨(), rfl, trivial, by show va_P _ _ _ t.heap; rw [ht]; exact hP⟩, hS.F ht⟩) hS.2.2 dX9_keepAside_56
theorem k_X9_keepAside {p : Program} {l : Launch} {e : Env} {R : Room} {s : State} {m : MethodId} {args : Array Value} {below : List Frame} {meth : Method} {c : Code} {H : Heap} {locs : List Loc} {cells slots : Nat} {Q : State → Prop} {cc : ByteArray} {pc nL idx : Nat} {ls : Array Slot} {rest : List Value} {own : String} {D : va_G} {cI : ClassId} {a : Nat → Nat} {H0 : Heap} {N : Nat} {φ : M2} {p1 : Int32} {hv : Int64} {φr : M2} (S : CallFix p m c cc nL s args AW own) (h1 : Cond.methodLink own idx yX9_keepAside ∈ AW) (hR : 1 + 1 ≤ R.frames ∧ 8 + (3 + 11) + 21 ≤ R.locals) (hc : cells ≤ R.cells ∧ slots ≤ R.slots) (hP : va_P D vwCl (mbW cI a φ hv) H) (hK : va_K D vwCl [(cI, .int)] s) (hDT : ∀ (φ2 : M2) (hv2 : Int64), va_D (fun _ => True) (mbW cI a φ2 hv2)) (hS : va_S (mbA a) H0 H locs) (hF : G_X9_keepAside N φ p1 = some φr) (hsz : ls.size = nL) (hW : (rest.map fun v => v.category).sum ≤ 8) (hdg : decode cc pc = .ok (.invokevirtual idx, 3)) (kk : ∀ (H1 : Heap) (locs1 : List Loc), va_P D vwCl (mbW cI a φr hv) H1 → va_S (mbA a) H0 H1 locs1 → W p l e R s m args below meth c H1 locs1 cells slots Q (F0 m (pc + 3) ls (rest))) : W p l e R s m args below meth c H locs cells slots Q (F0 m pc ls (.int p1 :: .ref (a 0) :: rest)) :=
  fm_runVv (n := 1) (C := RX9) (As := [.int p1]) S (c_X9_keepAside l D cI a N φ p1 hv φr hF) (M_pre (q0 := 0) (ci := 7) hK hP (hDT _ _) rfl rfl) hS h1 aI_X9_keepAside aV_X9_keepAside aN_RX9 aC_X9_keepAside rfl rfl (by decide +kernel) rfl hR hc hsz hW hdg (fun H1 locs1 hP1 hS1 => kk H1 locs1 hP1 hS1)
set_option maxHeartbeats 4000000 in
set_option maxRecDepth 100000 in
theorem c_X9_add (l : Launch) (D : va_G) (cI : ClassId) (a : Nat → Nat) (N : Nat) (φ : M2) (p1 : Int32) (hv : Int64) (r0 : Int32) (φr : M2) (hF : G_X9_add N φ p1 = some (r0, φr)) : Met l yX9_add (wsA yX9_add cX9_add 3 (some .int)) { frames := 7, cells := 0, slots := 0, locals := 155 } (va_Pc [.ref (a 0), .int p1] (mbP D cI a φ hv)) (va_Qi (fun (r : Int32) (_ : Unit) => r = r0) (fun _ t => va_P D vwCl (mbW cI a φr hv) t.heap) (mbA a)) 0 0 (mbA a) := by
  refine Met.ofW (cc := cX9_add) (maxL := 3) (ret := (some .int)) (by decide) rfl ?_
  intro p e s m args below meth c s₁ B hml hpre
  obtain ⟨rfl, hP, hK, hD0⟩ := hpre
  have hx := B.exec
  have hb := B.bytes
  have hr := B.returns
  have hA : ∀ w ∈ AW, w.before _ s = true := fun w h => atoms_spec (ws := wsA yX9_add cX9_add 3 (some .int)) B.pre w (List.mem_cons_of_mem _ h)
  have hown : s.vm.findClass RX9 = some m.cls := findClass_of_methodNamed B.named
  have hlocks := B.notSynchronized
  have hDT := M_dT hD0
  have hDA := M_dA hD0
  have hS : va_S (mbA a) s.heap s.heap [] := va_S.rf
  have S : CallFix p m c cX9_add 3 s ([.ref (a 0), .int p1] : List Value).toArray AW RX9 := ⟨hx, hb, hml, hown, hA⟩
  have hl := lv_entry ([.ref (a 0), .int p1]) (n := 3) (Nat.le_of_ble_eq_true rfl)
  rw [lg_entry_eq]
  generalize (lg_sl ([.ref (a 0), .int p1]) ++ List.replicate (3 - (lg_sl ([.ref (a 0), .int p1])).length) Slot.unset).toArray = ls at hl ⊢
  have hl : lv_has ls 3 [(0, .ref (a 0)), (1, .int p1)] := hl
  have hJ13 : ∀ (v1 : Int32) (s0 : Int32) (φ : M2) (H : Heap) (locs : List Loc) (ls : Array Slot), J_X9_add_13 N φ v1 s0 = some (r0, φr) → va_P D vwCl (mbW cI a φ hv) H → va_S (mbA a) s.heap H locs → lv_has ls 3 [(0, .ref (a 0)), (1, .int v1)] → W p l e (headSpec (wsA yX9_add cX9_add 3 (some .int)) { frames := 7, cells := 0, slots := 0, locals := 155 }).room s m ([.ref (a 0), .int p1] : List Value).toArray below meth c H locs 0 0 (MQ below (va_Qi (fun (r : Int32) (_ : Unit) => r = r0) (fun _ t => va_P D vwCl (mbW cI a φr hv) t.heap) (mbA a)) ([.ref (a 0), .int p1] : List Value).toArray s 0 0 (mbA a)) (F0 m 13 ls [.int s0, .ref (a 0)]) := by
    intro v1 s0 φ H locs ls h hP hS hl
    unfold J_X9_add_13 at h
    refine M_p0_5 hx hb hA hown aF_RX9_64 hK hP (hDA _ _) hS dX9_add_13 (fun w2 H locs ew2 hP hS => ?_)
    replace h := olet_s ew2 h
    refine lv_aload_n hx hb dX9_add_16 rfl (lv_at hl 0 rfl) ?_
    refine M_g0_5 hx hb hA hown aF_RX9_64 hK hP dX9_add_17 ?_
    refine lv_if_eq (tgt := 25) hx hb dX9_add_20 (by decide) (fun hc => ?_) (fun hc => ?_)
    · replace h := oi_t hc h
      refine lv_aload_n hx hb dX9_add_25 rfl (lv_at hl 0 rfl) ?_
      refine lv_iconst (v := 4) hx hb dX9_add_26 (by decide) ?_
      obtain ⟨w3, h4, h⟩ := obd_e h
      refine k_X9_copy S aM_RX9_74 ⟨Nat.le_of_ble_eq_true rfl, Nat.le_of_ble_eq_true rfl⟩ ⟨Nat.zero_le _, Nat.zero_le _⟩ hP hK hDT hS h4 hl.1 (Nat.le_of_ble_eq_true rfl) dX9_add_27 (fun H locs hP hS => ?_)
      refine lv_aload_n hx hb dX9_add_30 rfl (lv_at hl 0 rfl) ?_
      refine lv_iload_n hx hb dX9_add_31 rfl (lv_at hl 1 rfl) ?_
      obtain ⟨r7, w5, h6, h⟩ := obd2_e h
      refine k_X9_tryAdd S aM_RX9_203 ⟨Nat.le_of_ble_eq_true rfl, Nat.le_of_ble_eq_true rfl⟩ ⟨Nat.zero_le _, Nat.zero_le _⟩ hP hK hDT hS h6 hl.1 (Nat.le_of_ble_eq_true rfl) dX9_add_32 (fun H locs hP hS => ?_)
      refine lv_istore_n (lv' := [(2, .int r7), (0, .ref (a 0)), (1, .int v1)]) hx hb dX9_add_35 rfl hl (by decide) rfl (fun ls hl => ?_)
      refine lv_iload_n hx hb dX9_add_36 rfl (lv_at hl 0 rfl) ?_
      refine lv_iconst (v := (-1)) hx hb dX9_add_37 (by decide) ?_
      refine lv_icmp_ne (tgt := 53) hx hb dX9_add_38 (by decide) (fun hc => ?_) (fun hc => ?_)
      · replace h := oi_f hc h
        refine lv_aload_n hx hb dX9_add_53 rfl (lv_at hl 1 rfl) ?_
        refine lv_iconst (v := 4) hx hb dX9_add_54 (by decide) ?_
        obtain ⟨w8, h9, h⟩ := obd_e h
        refine k_X9_keepAside S aM_RX9_209 ⟨Nat.le_of_ble_eq_true rfl, Nat.le_of_ble_eq_true rfl⟩ ⟨Nat.zero_le _, Nat.zero_le _⟩ hP hK hDT hS h9 hl.1 (Nat.le_of_ble_eq_true rfl) dX9_add_55 (fun H locs hP hS => ?_)
        refine lv_iload_n hx hb dX9_add_58 rfl (lv_at hl 0 rfl) ?_
        obtain ⟨rfl, rfl⟩ := os2 h
        exact W.iret (v := r7) hx hb hr (fun t ht hW => ⟨⟨_, (), rfl, rfl, by show va_P _ _ _ t.heap; rw [ht]; exact hP⟩, hS.F ht⟩) hS.2.2 dX9_add_59
      · replace h := oi_t hc h
        refine lv_aload_n hx hb dX9_add_41 rfl (lv_at hl 1 rfl) ?_
        refine lv_iconst (v := 4) hx hb dX9_add_42 (by decide) ?_
        obtain ⟨w10, h11, h⟩ := obd_e h
        refine k_X9_layBack S aM_RX9_206 ⟨Nat.le_of_ble_eq_true rfl, Nat.le_of_ble_eq_true rfl⟩ ⟨Nat.zero_le _, Nat.zero_le _⟩ hP hK hDT hS h11 hl.1 (Nat.le_of_ble_eq_true rfl) dX9_add_43 (fun H locs hP hS => ?_)
        refine lv_aload_n hx hb dX9_add_46 rfl (lv_at hl 1 rfl) ?_
        refine lv_iconst (v := 2) hx hb dX9_add_47 (by decide) ?_
        refine M_p0_5 hx hb hA hown aF_RX9_64 hK hP (hDA _ _) hS dX9_add_48 (fun w12 H locs ew12 hP hS => ?_)
        replace h := olet_s ew12 h
        refine lv_iconst (v := 0) hx hb dX9_add_51 (by decide) ?_
        obtain ⟨rfl, rfl⟩ := os2 h
        exact W.iret (v := 0) hx hb hr (fun t ht hW => ⟨⟨_, (), rfl, rfl, by show va_P _ _ _ t.heap; rw [ht]; exact hP⟩, hS.F ht⟩) hS.2.2 dX9_add_52
    · replace h := oi_f hc h
      refine lv_iconst (v := 0) hx hb dX9_add_23 (by decide) ?_
      obtain ⟨rfl, rfl⟩ := os2 h
      exact W.iret (v := 0) hx hb hr (fun t ht hW => ⟨⟨_, (), rfl, rfl, by show va_P _ _ _ t.heap; rw [ht]; exact hP⟩, hS.F ht⟩) hS.2.2 dX9_add_24
  have h := hF
  unfold G_X9_add at h
  refine lv_aload_n hx hb dX9_add_0 rfl (lv_at hl 0 rfl) ?_
  refine lv_iload_n hx hb dX9_add_1 rfl (lv_at hl 1 rfl) ?_
  refine k_X9_isKey S aM_RX9_194 ⟨Nat.le_of_ble_eq_true rfl, Nat.le_of_ble_eq_true rfl⟩ ⟨Nat.zero_le _, Nat.zero_le _⟩ hl.1 (Nat.le_of_ble_eq_true rfl) dX9_add_2 (fun r1 er1 br1 => ?_)
  replace h := olet_s er1 h
  refine lv_if_eq (tgt := 12) hx hb dX9_add_5 (by decide) (fun hc => ?_) (fun hc => ?_)
  · replace h := oi_t hc h
    refine lv_iconst (v := 1) hx hb dX9_add_12 (by decide) ?_
    exact hJ13 _ _ _ _ _ _ h hP hS (lv_sub hl [0, 1] rfl)
  · replace h := oi_f hc h
    refine lv_iconst (v := 0) hx hb dX9_add_8 (by decide) ?_
    refine lv_goto (tgt := 13) hx hb dX9_add_9 (by decide) ?_
    exact hJ13 _ _ _ _ _ _ h hP hS (lv_sub hl [0, 1] rfl)
theorem k_X9_add {p : Program} {l : Launch} {e : Env} {R : Room} {s : State} {m : MethodId} {args : Array Value} {below : List Frame} {meth : Method} {c : Code} {H : Heap} {locs : List Loc} {cells slots : Nat} {Q : State → Prop} {cc : ByteArray} {pc nL idx : Nat} {ls : Array Slot} {rest : List Value} {own : String} {D : va_G} {cI : ClassId} {a : Nat → Nat} {H0 : Heap} {N : Nat} {φ : M2} {p1 : Int32} {hv : Int64} {r0 : Int32} {φr : M2} (S : CallFix p m c cc nL s args AW own) (h1 : Cond.methodLink own idx yX9_add ∈ AW) (hR : 7 + 1 ≤ R.frames ∧ 8 + (3 + 11) + 155 ≤ R.locals) (hc : cells ≤ R.cells ∧ slots ≤ R.slots) (hP : va_P D vwCl (mbW cI a φ hv) H) (hK : va_K D vwCl [(cI, .int)] s) (hDT : ∀ (φ2 : M2) (hv2 : Int64), va_D (fun _ => True) (mbW cI a φ2 hv2)) (hS : va_S (mbA a) H0 H locs) (hF : G_X9_add N φ p1 = some (r0, φr)) (hsz : ls.size = nL) (hW : (rest.map fun v => v.category).sum ≤ 8) (hdg : decode cc pc = .ok (.invokevirtual idx, 3)) (kk : ∀ (H1 : Heap) (locs1 : List Loc), va_P D vwCl (mbW cI a φr hv) H1 → va_S (mbA a) H0 H1 locs1 → W p l e R s m args below meth c H1 locs1 cells slots Q (F0 m (pc + 3) ls (.int r0 :: rest))) : W p l e R s m args below meth c H locs cells slots Q (F0 m pc ls (.int p1 :: .ref (a 0) :: rest)) :=
  fm_runVi (n := 1) (C := RX9) (As := [.int p1]) S (c_X9_add l D cI a N φ p1 hv r0 φr hF) (M_pre (q0 := 0) (ci := 7) hK hP (hDT _ _) rfl rfl) hS h1 aI_X9_add aV_X9_add aN_RX9 aC_X9_add rfl rfl (by decide +kernel) rfl hR hc hsz hW hdg (fun r H1 locs1 hr hP1 hS1 => by subst hr; exact kk H1 locs1 hP1 hS1)
set_option maxHeartbeats 4000000 in
set_option maxRecDepth 100000 in
theorem c_X9_addShortest (l : Launch) (D : va_G) (cI : ClassId) (a : Nat → Nat) (N : Nat) (φ : M2) (p1 : Int32) (hv : Int64) (r0 : Int32) (φr : M2) (hF : G_X9_addShortest N φ p1 = some (r0, φr)) : Met l yX9_addShortest (wsA yX9_addShortest cX9_addShortest 3 (some .int)) { frames := 5, cells := 0, slots := 0, locals := 112 } (va_Pc [.ref (a 0), .int p1] (mbP D cI a φ hv)) (va_Qi (fun (r : Int32) (_ : Unit) => r = r0) (fun _ t => va_P D vwCl (mbW cI a φr hv) t.heap) (mbA a)) 0 0 (mbA a) := by
  refine Met.ofW (cc := cX9_addShortest) (maxL := 3) (ret := (some .int)) (by decide) rfl ?_
  intro p e s m args below meth c s₁ B hml hpre
  obtain ⟨rfl, hP, hK, hD0⟩ := hpre
  have hx := B.exec
  have hb := B.bytes
  have hr := B.returns
  have hA : ∀ w ∈ AW, w.before _ s = true := fun w h => atoms_spec (ws := wsA yX9_addShortest cX9_addShortest 3 (some .int)) B.pre w (List.mem_cons_of_mem _ h)
  have hown : s.vm.findClass RX9 = some m.cls := findClass_of_methodNamed B.named
  have hlocks := B.notSynchronized
  have hDT := M_dT hD0
  have hDA := M_dA hD0
  have hS : va_S (mbA a) s.heap s.heap [] := va_S.rf
  have S : CallFix p m c cX9_addShortest 3 s ([.ref (a 0), .int p1] : List Value).toArray AW RX9 := ⟨hx, hb, hml, hown, hA⟩
  have hl := lv_entry ([.ref (a 0), .int p1]) (n := 3) (Nat.le_of_ble_eq_true rfl)
  rw [lg_entry_eq]
  generalize (lg_sl ([.ref (a 0), .int p1]) ++ List.replicate (3 - (lg_sl ([.ref (a 0), .int p1])).length) Slot.unset).toArray = ls at hl ⊢
  have hl : lv_has ls 3 [(0, .ref (a 0)), (1, .int p1)] := hl
  have hJ42 : ∀ (v1 : Int32) (s0 : Int32) (φ : M2) (H : Heap) (locs : List Loc) (ls : Array Slot), J_X9_addShortest_42 N φ v1 s0 = some (r0, φr) → va_P D vwCl (mbW cI a φ hv) H → va_S (mbA a) s.heap H locs → lv_has ls 3 [(0, .ref (a 0)), (1, .int v1)] → W p l e (headSpec (wsA yX9_addShortest cX9_addShortest 3 (some .int)) { frames := 5, cells := 0, slots := 0, locals := 112 }).room s m ([.ref (a 0), .int p1] : List Value).toArray below meth c H locs 0 0 (MQ below (va_Qi (fun (r : Int32) (_ : Unit) => r = r0) (fun _ t => va_P D vwCl (mbW cI a φr hv) t.heap) (mbA a)) ([.ref (a 0), .int p1] : List Value).toArray s 0 0 (mbA a)) (F0 m 42 ls [.int s0]) := by
    intro v1 s0 φ H locs ls h hP hS hl
    unfold J_X9_addShortest_42 at h
    refine lv_istore_n (lv' := [(2, .int s0), (0, .ref (a 0)), (1, .int v1)]) hx hb dX9_addShortest_42 rfl hl (by decide) rfl (fun ls hl => ?_)
    refine lv_iload_n hx hb dX9_addShortest_43 rfl (lv_at hl 0 rfl) ?_
    refine lv_iconst (v := (-1)) hx hb dX9_addShortest_44 (by decide) ?_
    refine lv_icmp_ne (tgt := 55) hx hb dX9_addShortest_45 (by decide) (fun hc => ?_) (fun hc => ?_)
    · replace h := oi_f hc h
      refine lv_aload_n hx hb dX9_addShortest_55 rfl (lv_at hl 1 rfl) ?_
      obtain ⟨w5, h6, h⟩ := obd_e h
      refine k_X9_keep S aM_RX9_215 ⟨Nat.le_of_ble_eq_true rfl, Nat.le_of_ble_eq_true rfl⟩ ⟨Nat.zero_le _, Nat.zero_le _⟩ hP hK hDT hS h6 hl.1 (Nat.le_of_ble_eq_true rfl) dX9_addShortest_56 (fun H locs hP hS => ?_)
      refine lv_aload_n hx hb dX9_addShortest_59 rfl (lv_at hl 1 rfl) ?_
      refine lv_iload_n hx hb dX9_addShortest_60 rfl (lv_at hl 2 rfl) ?_
      refine lv_iload_n hx hb dX9_addShortest_61 rfl (lv_at hl 0 rfl) ?_
      obtain ⟨w7, h8, h⟩ := obd_e h
      refine k_X9_moveChain S aM_RX9_218 ⟨Nat.le_of_ble_eq_true rfl, Nat.le_of_ble_eq_true rfl⟩ ⟨Nat.zero_le _, Nat.zero_le _⟩ hP hK hDT hS h8 hl.1 (Nat.le_of_ble_eq_true rfl) dX9_addShortest_62 (fun H locs hP hS => ?_)
      refine lv_aload_n hx hb dX9_addShortest_65 rfl (lv_at hl 1 rfl) ?_
      refine lv_iload_n hx hb dX9_addShortest_66 rfl (lv_at hl 2 rfl) ?_
      obtain ⟨w9, h10, h⟩ := obd_e h
      refine k_X9_noteKey S aM_RX9_200 ⟨Nat.le_of_ble_eq_true rfl, Nat.le_of_ble_eq_true rfl⟩ ⟨Nat.zero_le _, Nat.zero_le _⟩ hP hK hDT hS h10 hl.1 (Nat.le_of_ble_eq_true rfl) dX9_addShortest_67 (fun H locs hP hS => ?_)
      refine lv_aload_n hx hb dX9_addShortest_70 rfl (lv_at hl 1 rfl) ?_
      refine M_g0_16 hx hb hA hown aF_RX9_31 hK hP dX9_addShortest_71 ?_
      refine lv_iload_n hx hb dX9_addShortest_74 rfl (lv_at hl 0 rfl) ?_
      obtain ⟨i11, h⟩ := oin_e h
      refine M_ld8 hx hb hK hP i11 dX9_addShortest_75 ?_
      obtain ⟨rfl, rfl⟩ := os2 h
      exact W.iret (v := (w9 8 s0.toNatClampNeg)) hx hb hr (fun t ht hW => ⟨⟨_, (), rfl, rfl, by show va_P _ _ _ t.heap; rw [ht]; exact hP⟩, hS.F ht⟩) hS.2.2 dX9_addShortest_76
    · replace h := oi_t hc h
      refine lv_aload_n hx hb dX9_addShortest_48 rfl (lv_at hl 1 rfl) ?_
      refine lv_iconst (v := 2) hx hb dX9_addShortest_49 (by decide) ?_
      refine M_p0_5 hx hb hA hown aF_RX9_64 hK hP (hDA _ _) hS dX9_addShortest_50 (fun w12 H locs ew12 hP hS => ?_)
      replace h := olet_s ew12 h
      refine lv_iconst (v := 0) hx hb dX9_addShortest_53 (by decide) ?_
      obtain ⟨rfl, rfl⟩ := os2 h
      exact W.iret (v := 0) hx hb hr (fun t ht hW => ⟨⟨_, (), rfl, rfl, by show va_P _ _ _ t.heap; rw [ht]; exact hP⟩, hS.F ht⟩) hS.2.2 dX9_addShortest_54
  have hJ13 : ∀ (v1 : Int32) (s0 : Int32) (φ : M2) (H : Heap) (locs : List Loc) (ls : Array Slot), J_X9_addShortest_13 N φ v1 s0 = some (r0, φr) → va_P D vwCl (mbW cI a φ hv) H → va_S (mbA a) s.heap H locs → lv_has ls 3 [(0, .ref (a 0)), (1, .int v1)] → W p l e (headSpec (wsA yX9_addShortest cX9_addShortest 3 (some .int)) { frames := 5, cells := 0, slots := 0, locals := 112 }).room s m ([.ref (a 0), .int p1] : List Value).toArray below meth c H locs 0 0 (MQ below (va_Qi (fun (r : Int32) (_ : Unit) => r = r0) (fun _ t => va_P D vwCl (mbW cI a φr hv) t.heap) (mbA a)) ([.ref (a 0), .int p1] : List Value).toArray s 0 0 (mbA a)) (F0 m 13 ls [.int s0, .ref (a 0)]) := by
    intro v1 s0 φ H locs ls h hP hS hl
    unfold J_X9_addShortest_13 at h
    refine M_p0_5 hx hb hA hown aF_RX9_64 hK hP (hDA _ _) hS dX9_addShortest_13 (fun w2 H locs ew2 hP hS => ?_)
    replace h := olet_s ew2 h
    refine lv_aload_n hx hb dX9_addShortest_16 rfl (lv_at hl 0 rfl) ?_
    refine M_g0_5 hx hb hA hown aF_RX9_64 hK hP dX9_addShortest_17 ?_
    refine lv_if_eq (tgt := 25) hx hb dX9_addShortest_20 (by decide) (fun hc => ?_) (fun hc => ?_)
    · replace h := oi_t hc h
      refine lv_aload_n hx hb dX9_addShortest_25 rfl (lv_at hl 0 rfl) ?_
      refine lv_iload_n hx hb dX9_addShortest_26 rfl (lv_at hl 1 rfl) ?_
      obtain ⟨r3, h4, h⟩ := obd_e h
      refine k_X9_mayAdd S aM_RX9_197 ⟨Nat.le_of_ble_eq_true rfl, Nat.le_of_ble_eq_true rfl⟩ ⟨Nat.zero_le _, Nat.zero_le _⟩ hP hK hDT h4 hl.1 (Nat.le_of_ble_eq_true rfl) dX9_addShortest_27 (fun br3 => ?_)
      refine lv_if_eq (tgt := 41) hx hb dX9_addShortest_30 (by decide) (fun hc => ?_) (fun hc => ?_)
      · replace h := oi_t hc h
        refine lv_iconst (v := (-1)) hx hb dX9_addShortest_41 (by decide) ?_
        exact hJ42 _ _ _ _ _ _ h hP hS (lv_sub hl [0, 1] rfl)
      · replace h := oi_f hc h
        refine lv_aload_n hx hb dX9_addShortest_33 rfl (lv_at hl 0 rfl) ?_
        refine lv_iload_n hx hb dX9_addShortest_34 rfl (lv_at hl 1 rfl) ?_
        obtain ⟨r15, w13, h14, h⟩ := obd2_e h
        refine k_X9_endOfChain S aM_RX9_212 ⟨Nat.le_of_ble_eq_true rfl, Nat.le_of_ble_eq_true rfl⟩ ⟨Nat.zero_le _, Nat.zero_le _⟩ hP hK hDT hS h14 hl.1 (Nat.le_of_ble_eq_true rfl) dX9_addShortest_35 (fun H locs hP hS => ?_)
        refine lv_goto (tgt := 42) hx hb dX9_addShortest_38 (by decide) ?_
        exact hJ42 _ _ _ _ _ _ h hP hS (lv_sub hl [0, 1] rfl)
    · replace h := oi_f hc h
      refine lv_iconst (v := 0) hx hb dX9_addShortest_23 (by decide) ?_
      obtain ⟨rfl, rfl⟩ := os2 h
      exact W.iret (v := 0) hx hb hr (fun t ht hW => ⟨⟨_, (), rfl, rfl, by show va_P _ _ _ t.heap; rw [ht]; exact hP⟩, hS.F ht⟩) hS.2.2 dX9_addShortest_24
  have h := hF
  unfold G_X9_addShortest at h
  refine lv_aload_n hx hb dX9_addShortest_0 rfl (lv_at hl 0 rfl) ?_
  refine lv_iload_n hx hb dX9_addShortest_1 rfl (lv_at hl 1 rfl) ?_
  refine k_X9_isKey S aM_RX9_194 ⟨Nat.le_of_ble_eq_true rfl, Nat.le_of_ble_eq_true rfl⟩ ⟨Nat.zero_le _, Nat.zero_le _⟩ hl.1 (Nat.le_of_ble_eq_true rfl) dX9_addShortest_2 (fun r1 er1 br1 => ?_)
  replace h := olet_s er1 h
  refine lv_if_eq (tgt := 12) hx hb dX9_addShortest_5 (by decide) (fun hc => ?_) (fun hc => ?_)
  · replace h := oi_t hc h
    refine lv_iconst (v := 1) hx hb dX9_addShortest_12 (by decide) ?_
    exact hJ13 _ _ _ _ _ _ h hP hS (lv_sub hl [0, 1] rfl)
  · replace h := oi_f hc h
    refine lv_iconst (v := 0) hx hb dX9_addShortest_8 (by decide) ?_
    refine lv_goto (tgt := 13) hx hb dX9_addShortest_9 (by decide) ?_
    exact hJ13 _ _ _ _ _ _ h hP hS (lv_sub hl [0, 1] rfl)
theorem k_X9_addShortest {p : Program} {l : Launch} {e : Env} {R : Room} {s : State} {m : MethodId} {args : Array Value} {below : List Frame} {meth : Method} {c : Code} {H : Heap} {locs : List Loc} {cells slots : Nat} {Q : State → Prop} {cc : ByteArray} {pc nL idx : Nat} {ls : Array Slot} {rest : List Value} {own : String} {D : va_G} {cI : ClassId} {a : Nat → Nat} {H0 : Heap} {N : Nat} {φ : M2} {p1 : Int32} {hv : Int64} {r0 : Int32} {φr : M2} (S : CallFix p m c cc nL s args AW own) (h1 : Cond.methodLink own idx yX9_addShortest ∈ AW) (hR : 5 + 1 ≤ R.frames ∧ 8 + (3 + 11) + 112 ≤ R.locals) (hc : cells ≤ R.cells ∧ slots ≤ R.slots) (hP : va_P D vwCl (mbW cI a φ hv) H) (hK : va_K D vwCl [(cI, .int)] s) (hDT : ∀ (φ2 : M2) (hv2 : Int64), va_D (fun _ => True) (mbW cI a φ2 hv2)) (hS : va_S (mbA a) H0 H locs) (hF : G_X9_addShortest N φ p1 = some (r0, φr)) (hsz : ls.size = nL) (hW : (rest.map fun v => v.category).sum ≤ 8) (hdg : decode cc pc = .ok (.invokevirtual idx, 3)) (kk : ∀ (H1 : Heap) (locs1 : List Loc), va_P D vwCl (mbW cI a φr hv) H1 → va_S (mbA a) H0 H1 locs1 → W p l e R s m args below meth c H1 locs1 cells slots Q (F0 m (pc + 3) ls (.int r0 :: rest))) : W p l e R s m args below meth c H locs cells slots Q (F0 m pc ls (.int p1 :: .ref (a 0) :: rest)) :=
  fm_runVi (n := 1) (C := RX9) (As := [.int p1]) S (c_X9_addShortest l D cI a N φ p1 hv r0 φr hF) (M_pre (q0 := 0) (ci := 7) hK hP (hDT _ _) rfl rfl) hS h1 aI_X9_addShortest aV_X9_addShortest aN_RX9 aC_X9_addShortest rfl rfl (by decide +kernel) rfl hR hc hsz hW hdg (fun r H1 locs1 hr hP1 hS1 => by subst hr; exact kk H1 locs1 hP1 hS1)
set_option maxHeartbeats 4000000 in
set_option maxRecDepth 100000 in
theorem c_X9_delete (l : Launch) (D : va_G) (cI : ClassId) (a : Nat → Nat) (N : Nat) (φ : M2) (p1 : Int32) (hv : Int64) (r0 : Int32) (φr : M2) (hF : G_X9_delete N φ p1 = some (r0, φr)) : Met l yX9_delete (wsA yX9_delete cX9_delete 2 (some .int)) { frames := 6, cells := 0, slots := 0, locals := 139 } (va_Pc [.ref (a 0), .int p1] (mbP D cI a φ hv)) (va_Qi (fun (r : Int32) (_ : Unit) => r = r0) (fun _ t => va_P D vwCl (mbW cI a φr hv) t.heap) (mbA a)) 0 0 (mbA a) := by
  refine Met.ofW (cc := cX9_delete) (maxL := 2) (ret := (some .int)) (by decide) rfl ?_
  intro p e s m args below meth c s₁ B hml hpre
  obtain ⟨rfl, hP, hK, hD0⟩ := hpre
  have hx := B.exec
  have hb := B.bytes
  have hr := B.returns
  have hA : ∀ w ∈ AW, w.before _ s = true := fun w h => atoms_spec (ws := wsA yX9_delete cX9_delete 2 (some .int)) B.pre w (List.mem_cons_of_mem _ h)
  have hown : s.vm.findClass RX9 = some m.cls := findClass_of_methodNamed B.named
  have hlocks := B.notSynchronized
  have hDT := M_dT hD0
  have hDA := M_dA hD0
  have hS : va_S (mbA a) s.heap s.heap [] := va_S.rf
  have S : CallFix p m c cX9_delete 2 s ([.ref (a 0), .int p1] : List Value).toArray AW RX9 := ⟨hx, hb, hml, hown, hA⟩
  have hl := lv_entry ([.ref (a 0), .int p1]) (n := 2) (Nat.le_of_ble_eq_true rfl)
  rw [lg_entry_eq]
  generalize (lg_sl ([.ref (a 0), .int p1]) ++ List.replicate (2 - (lg_sl ([.ref (a 0), .int p1])).length) Slot.unset).toArray = ls at hl ⊢
  have hl : lv_has ls 2 [(0, .ref (a 0)), (1, .int p1)] := hl
  have hJ26 : ∀ (v1 : Int32) (s0 : Int32) (φ : M2) (H : Heap) (locs : List Loc) (ls : Array Slot), J_X9_delete_26 N φ v1 s0 = some (r0, φr) → va_P D vwCl (mbW cI a φ hv) H → va_S (mbA a) s.heap H locs → lv_has ls 2 [(0, .ref (a 0)), (1, .int v1)] → W p l e (headSpec (wsA yX9_delete cX9_delete 2 (some .int)) { frames := 6, cells := 0, slots := 0, locals := 139 }).room s m ([.ref (a 0), .int p1] : List Value).toArray below meth c H locs 0 0 (MQ below (va_Qi (fun (r : Int32) (_ : Unit) => r = r0) (fun _ t => va_P D vwCl (mbW cI a φr hv) t.heap) (mbA a)) ([.ref (a 0), .int p1] : List Value).toArray s 0 0 (mbA a)) (F0 m 26 ls [.int s0, .ref (a 0)]) := by
    intro v1 s0 φ H locs ls h hP hS hl
    unfold J_X9_delete_26 at h
    refine M_p0_5 hx hb hA hown aF_RX9_64 hK hP (hDA _ _) hS dX9_delete_26 (fun w4 H locs ew4 hP hS => ?_)
    replace h := olet_s ew4 h
    refine lv_aload_n hx hb dX9_delete_29 rfl (lv_at hl 0 rfl) ?_
    refine M_g0_5 hx hb hA hown aF_RX9_64 hK hP dX9_delete_30 ?_
    refine lv_if_eq (tgt := 38) hx hb dX9_delete_33 (by decide) (fun hc => ?_) (fun hc => ?_)
    · replace h := oi_t hc h
      refine lv_aload_n hx hb dX9_delete_38 rfl (lv_at hl 0 rfl) ?_
      obtain ⟨w5, h6, h⟩ := obd_e h
      refine k_X9_keep S aM_RX9_215 ⟨Nat.le_of_ble_eq_true rfl, Nat.le_of_ble_eq_true rfl⟩ ⟨Nat.zero_le _, Nat.zero_le _⟩ hP hK hDT hS h6 hl.1 (Nat.le_of_ble_eq_true rfl) dX9_delete_39 (fun H locs hP hS => ?_)
      refine lv_aload_n hx hb dX9_delete_42 rfl (lv_at hl 0 rfl) ?_
      refine lv_iload_n hx hb dX9_delete_43 rfl (lv_at hl 1 rfl) ?_
      refine lv_aload_n hx hb dX9_delete_44 rfl (lv_at hl 0 rfl) ?_
      refine lv_iload_n hx hb dX9_delete_45 rfl (lv_at hl 1 rfl) ?_
      obtain ⟨r7, h8, h⟩ := obd_e h
      refine k_X9_indexOf S aM_RX9_169 ⟨Nat.le_of_ble_eq_true rfl, Nat.le_of_ble_eq_true rfl⟩ ⟨Nat.zero_le _, Nat.zero_le _⟩ hP hK hDT h8 hl.1 (Nat.le_of_ble_eq_true rfl) dX9_delete_46 ?_
      obtain ⟨r11, w9, h10, h⟩ := obd2_e h
      refine k_X9_deletes S aM_RX9_221 ⟨Nat.le_of_ble_eq_true rfl, Nat.le_of_ble_eq_true rfl⟩ ⟨Nat.zero_le _, Nat.zero_le _⟩ hP hK hDT hS h10 hl.1 (Nat.le_of_ble_eq_true rfl) dX9_delete_49 (fun H locs hP hS => ?_)
      obtain ⟨rfl, rfl⟩ := os2 h
      exact W.iret (v := r11) hx hb hr (fun t ht hW => ⟨⟨_, (), rfl, rfl, by show va_P _ _ _ t.heap; rw [ht]; exact hP⟩, hS.F ht⟩) hS.2.2 dX9_delete_52
    · replace h := oi_f hc h
      refine lv_iconst (v := 0) hx hb dX9_delete_36 (by decide) ?_
      obtain ⟨rfl, rfl⟩ := os2 h
      exact W.iret (v := 0) hx hb hr (fun t ht hW => ⟨⟨_, (), rfl, rfl, by show va_P _ _ _ t.heap; rw [ht]; exact hP⟩, hS.F ht⟩) hS.2.2 dX9_delete_37
  have h := hF
  unfold G_X9_delete at h
  refine lv_aload_n hx hb dX9_delete_0 rfl (lv_at hl 0 rfl) ?_
  refine lv_iload_n hx hb dX9_delete_1 rfl (lv_at hl 1 rfl) ?_
  refine k_X9_isKey S aM_RX9_194 ⟨Nat.le_of_ble_eq_true rfl, Nat.le_of_ble_eq_true rfl⟩ ⟨Nat.zero_le _, Nat.zero_le _⟩ hl.1 (Nat.le_of_ble_eq_true rfl) dX9_delete_2 (fun r1 er1 br1 => ?_)
  replace h := olet_s er1 h
  refine lv_if_ne (tgt := 12) hx hb dX9_delete_5 (by decide) (fun hc => ?_) (fun hc => ?_)
  · replace h := oi_f hc h
    refine lv_aload_n hx hb dX9_delete_12 rfl (lv_at hl 0 rfl) ?_
    refine lv_iload_n hx hb dX9_delete_13 rfl (lv_at hl 1 rfl) ?_
    obtain ⟨r2, h3, h⟩ := obd_e h
    refine k_X9_indexOf S aM_RX9_169 ⟨Nat.le_of_ble_eq_true rfl, Nat.le_of_ble_eq_true rfl⟩ ⟨Nat.zero_le _, Nat.zero_le _⟩ hP hK hDT h3 hl.1 (Nat.le_of_ble_eq_true rfl) dX9_delete_14 ?_
    refine lv_iconst (v := (-1)) hx hb dX9_delete_17 (by decide) ?_
    refine lv_icmp_ne (tgt := 25) hx hb dX9_delete_18 (by decide) (fun hc => ?_) (fun hc => ?_)
    · replace h := oi_f hc h
      refine lv_iconst (v := 0) hx hb dX9_delete_25 (by decide) ?_
      exact hJ26 _ _ _ _ _ _ h hP hS (lv_sub hl [0, 1] rfl)
    · replace h := oi_t hc h
      refine lv_iconst (v := 2) hx hb dX9_delete_21 (by decide) ?_
      refine lv_goto (tgt := 26) hx hb dX9_delete_22 (by decide) ?_
      exact hJ26 _ _ _ _ _ _ h hP hS (lv_sub hl [0, 1] rfl)
  · replace h := oi_t hc h
    refine lv_iconst (v := 1) hx hb dX9_delete_8 (by decide) ?_
    refine lv_goto (tgt := 26) hx hb dX9_delete_9 (by decide) ?_
    exact hJ26 _ _ _ _ _ _ h hP hS (lv_sub hl [0, 1] rfl)
theorem k_X9_delete {p : Program} {l : Launch} {e : Env} {R : Room} {s : State} {m : MethodId} {args : Array Value} {below : List Frame} {meth : Method} {c : Code} {H : Heap} {locs : List Loc} {cells slots : Nat} {Q : State → Prop} {cc : ByteArray} {pc nL idx : Nat} {ls : Array Slot} {rest : List Value} {own : String} {D : va_G} {cI : ClassId} {a : Nat → Nat} {H0 : Heap} {N : Nat} {φ : M2} {p1 : Int32} {hv : Int64} {r0 : Int32} {φr : M2} (S : CallFix p m c cc nL s args AW own) (h1 : Cond.methodLink own idx yX9_delete ∈ AW) (hR : 6 + 1 ≤ R.frames ∧ 8 + (2 + 11) + 139 ≤ R.locals) (hc : cells ≤ R.cells ∧ slots ≤ R.slots) (hP : va_P D vwCl (mbW cI a φ hv) H) (hK : va_K D vwCl [(cI, .int)] s) (hDT : ∀ (φ2 : M2) (hv2 : Int64), va_D (fun _ => True) (mbW cI a φ2 hv2)) (hS : va_S (mbA a) H0 H locs) (hF : G_X9_delete N φ p1 = some (r0, φr)) (hsz : ls.size = nL) (hW : (rest.map fun v => v.category).sum ≤ 8) (hdg : decode cc pc = .ok (.invokevirtual idx, 3)) (kk : ∀ (H1 : Heap) (locs1 : List Loc), va_P D vwCl (mbW cI a φr hv) H1 → va_S (mbA a) H0 H1 locs1 → W p l e R s m args below meth c H1 locs1 cells slots Q (F0 m (pc + 3) ls (.int r0 :: rest))) : W p l e R s m args below meth c H locs cells slots Q (F0 m pc ls (.int p1 :: .ref (a 0) :: rest)) :=
  fm_runVi (n := 1) (C := RX9) (As := [.int p1]) S (c_X9_delete l D cI a N φ p1 hv r0 φr hF) (M_pre (q0 := 0) (ci := 7) hK hP (hDT _ _) rfl rfl) hS h1 aI_X9_delete aV_X9_delete aN_RX9 aC_X9_delete rfl rfl (by decide +kernel) rfl hR hc hsz hW hdg (fun r H1 locs1 hr hP1 hS1 => by subst hr; exact kk H1 locs1 hP1 hS1)
set_option maxHeartbeats 4000000 in
set_option maxRecDepth 100000 in
theorem c_X9_grow (l : Launch) (D : va_G) (cI : ClassId) (a : Nat → Nat) (N : Nat) (φ : M2) (hv : Int64) (r0 : Int32) (φr : M2) (hF : G_X9_grow N φ = some (r0, φr)) : Met l yX9_grow (wsA yX9_grow cX9_grow 1 (some .int)) { frames := 6, cells := 0, slots := 0, locals := 137 } (va_Pc [.ref (a 0)] (mbP D cI a φ hv)) (va_Qi (fun (r : Int32) (_ : Unit) => r = r0) (fun _ t => va_P D vwCl (mbW cI a φr hv) t.heap) (mbA a)) 0 0 (mbA a) := by
  refine Met.ofW (cc := cX9_grow) (maxL := 1) (ret := (some .int)) (by decide) rfl ?_
  intro p e s m args below meth c s₁ B hml hpre
  obtain ⟨rfl, hP, hK, hD0⟩ := hpre
  have hx := B.exec
  have hb := B.bytes
  have hr := B.returns
  have hA : ∀ w ∈ AW, w.before _ s = true := fun w h => atoms_spec (ws := wsA yX9_grow cX9_grow 1 (some .int)) B.pre w (List.mem_cons_of_mem _ h)
  have hown : s.vm.findClass RX9 = some m.cls := findClass_of_methodNamed B.named
  have hlocks := B.notSynchronized
  have hDT := M_dT hD0
  have hDA := M_dA hD0
  have hS : va_S (mbA a) s.heap s.heap [] := va_S.rf
  have S : CallFix p m c cX9_grow 1 s ([.ref (a 0)] : List Value).toArray AW RX9 := ⟨hx, hb, hml, hown, hA⟩
  have hl := lv_entry ([.ref (a 0)]) (n := 1) (Nat.le_of_ble_eq_true rfl)
  rw [lg_entry_eq]
  generalize (lg_sl ([.ref (a 0)]) ++ List.replicate (1 - (lg_sl ([.ref (a 0)])).length) Slot.unset).toArray = ls at hl ⊢
  have hl : lv_has ls 1 [(0, .ref (a 0))] := hl
  have hJ13 : ∀ (s0 : Int32) (φ : M2) (H : Heap) (locs : List Loc) (ls : Array Slot), J_X9_grow_13 N φ s0 = some (r0, φr) → va_P D vwCl (mbW cI a φ hv) H → va_S (mbA a) s.heap H locs → lv_has ls 1 [(0, .ref (a 0))] → W p l e (headSpec (wsA yX9_grow cX9_grow 1 (some .int)) { frames := 6, cells := 0, slots := 0, locals := 137 }).room s m ([.ref (a 0)] : List Value).toArray below meth c H locs 0 0 (MQ below (va_Qi (fun (r : Int32) (_ : Unit) => r = r0) (fun _ t => va_P D vwCl (mbW cI a φr hv) t.heap) (mbA a)) ([.ref (a 0)] : List Value).toArray s 0 0 (mbA a)) (F0 m 13 ls [.int s0, .ref (a 0)]) := by
    intro s0 φ H locs ls h hP hS hl
    unfold J_X9_grow_13 at h
    refine M_p0_5 hx hb hA hown aF_RX9_64 hK hP (hDA _ _) hS dX9_grow_13 (fun w3 H locs ew3 hP hS => ?_)
    replace h := olet_s ew3 h
    refine lv_aload_n hx hb dX9_grow_16 rfl (lv_at hl 0 rfl) ?_
    refine M_g0_5 hx hb hA hown aF_RX9_64 hK hP dX9_grow_17 ?_
    refine lv_if_eq (tgt := 25) hx hb dX9_grow_20 (by decide) (fun hc => ?_) (fun hc => ?_)
    · replace h := oi_t hc h
      refine lv_aload_n hx hb dX9_grow_25 rfl (lv_at hl 0 rfl) ?_
      obtain ⟨w4, h5, h⟩ := obd_e h
      refine k_X9_keep S aM_RX9_215 ⟨Nat.le_of_ble_eq_true rfl, Nat.le_of_ble_eq_true rfl⟩ ⟨Nat.zero_le _, Nat.zero_le _⟩ hP hK hDT hS h5 hl.1 (Nat.le_of_ble_eq_true rfl) dX9_grow_26 (fun H locs hP hS => ?_)
      refine lv_aload_n hx hb dX9_grow_29 rfl (lv_at hl 0 rfl) ?_
      obtain ⟨w6, h7, h⟩ := obd_e h
      refine k_X9_grows S aM_RX9_228 ⟨Nat.le_of_ble_eq_true rfl, Nat.le_of_ble_eq_true rfl⟩ ⟨Nat.zero_le _, Nat.zero_le _⟩ hP hK hDT hS h7 hl.1 (Nat.le_of_ble_eq_true rfl) dX9_grow_30 (fun H locs hP hS => ?_)
      refine lv_aload_n hx hb dX9_grow_33 rfl (lv_at hl 0 rfl) ?_
      obtain ⟨r8, h9, h⟩ := obd_e h
      refine k_X9_buckets S aM_RX9_104 ⟨Nat.le_of_ble_eq_true rfl, Nat.le_of_ble_eq_true rfl⟩ ⟨Nat.zero_le _, Nat.zero_le _⟩ hP hK hDT h9 hl.1 (Nat.le_of_ble_eq_true rfl) dX9_grow_34 ?_
      obtain ⟨rfl, rfl⟩ := os2 h
      exact W.iret (v := r8) hx hb hr (fun t ht hW => ⟨⟨_, (), rfl, rfl, by show va_P _ _ _ t.heap; rw [ht]; exact hP⟩, hS.F ht⟩) hS.2.2 dX9_grow_37
    · replace h := oi_f hc h
      refine lv_iconst (v := 0) hx hb dX9_grow_23 (by decide) ?_
      obtain ⟨rfl, rfl⟩ := os2 h
      exact W.iret (v := 0) hx hb hr (fun t ht hW => ⟨⟨_, (), rfl, rfl, by show va_P _ _ _ t.heap; rw [ht]; exact hP⟩, hS.F ht⟩) hS.2.2 dX9_grow_24
  have h := hF
  unfold G_X9_grow at h
  refine lv_aload_n hx hb dX9_grow_0 rfl (lv_at hl 0 rfl) ?_
  refine lv_aload_n hx hb dX9_grow_1 rfl (lv_at hl 0 rfl) ?_
  obtain ⟨r1, h2, h⟩ := obd_e h
  refine k_X9_mayGrow S aM_RX9_224 ⟨Nat.le_of_ble_eq_true rfl, Nat.le_of_ble_eq_true rfl⟩ ⟨Nat.zero_le _, Nat.zero_le _⟩ hP hK hDT h2 hl.1 (Nat.le_of_ble_eq_true rfl) dX9_grow_2 (fun br1 => ?_)
  refine lv_if_eq (tgt := 12) hx hb dX9_grow_5 (by decide) (fun hc => ?_) (fun hc => ?_)
  · replace h := oi_t hc h
    refine lv_iconst (v := 1) hx hb dX9_grow_12 (by decide) ?_
    exact hJ13 _ _ _ _ _ h hP hS (lv_sub hl [0] rfl)
  · replace h := oi_f hc h
    refine lv_iconst (v := 0) hx hb dX9_grow_8 (by decide) ?_
    refine lv_goto (tgt := 13) hx hb dX9_grow_9 (by decide) ?_
    exact hJ13 _ _ _ _ _ h hP hS (lv_sub hl [0] rfl)
theorem k_X9_grow {p : Program} {l : Launch} {e : Env} {R : Room} {s : State} {m : MethodId} {args : Array Value} {below : List Frame} {meth : Method} {c : Code} {H : Heap} {locs : List Loc} {cells slots : Nat} {Q : State → Prop} {cc : ByteArray} {pc nL idx : Nat} {ls : Array Slot} {rest : List Value} {own : String} {D : va_G} {cI : ClassId} {a : Nat → Nat} {H0 : Heap} {N : Nat} {φ : M2} {hv : Int64} {r0 : Int32} {φr : M2} (S : CallFix p m c cc nL s args AW own) (h1 : Cond.methodLink own idx yX9_grow ∈ AW) (hR : 6 + 1 ≤ R.frames ∧ 8 + (1 + 11) + 137 ≤ R.locals) (hc : cells ≤ R.cells ∧ slots ≤ R.slots) (hP : va_P D vwCl (mbW cI a φ hv) H) (hK : va_K D vwCl [(cI, .int)] s) (hDT : ∀ (φ2 : M2) (hv2 : Int64), va_D (fun _ => True) (mbW cI a φ2 hv2)) (hS : va_S (mbA a) H0 H locs) (hF : G_X9_grow N φ = some (r0, φr)) (hsz : ls.size = nL) (hW : (rest.map fun v => v.category).sum ≤ 8) (hdg : decode cc pc = .ok (.invokevirtual idx, 3)) (kk : ∀ (H1 : Heap) (locs1 : List Loc), va_P D vwCl (mbW cI a φr hv) H1 → va_S (mbA a) H0 H1 locs1 → W p l e R s m args below meth c H1 locs1 cells slots Q (F0 m (pc + 3) ls (.int r0 :: rest))) : W p l e R s m args below meth c H locs cells slots Q (F0 m pc ls (.ref (a 0) :: rest)) :=
  fm_runVi (n := 0) (C := RX9) (As := []) S (c_X9_grow l D cI a N φ hv r0 φr hF) (M_pre (q0 := 0) (ci := 7) hK hP (hDT _ _) rfl rfl) hS h1 aI_X9_grow aV_X9_grow aN_RX9 aC_X9_grow rfl rfl (by decide +kernel) rfl hR hc hsz hW hdg (fun r H1 locs1 hr hP1 hS1 => by subst hr; exact kk H1 locs1 hP1 hS1)
set_option maxHeartbeats 4000000 in
set_option maxRecDepth 100000 in
theorem c_X9_areNumbers (l : Launch) (p0 : Int32) (p1 : Int32) (p2 : Int32) (p3 : Int32) (r0 : Int32) (hF : G_X9_areNumbers p0 p1 p2 p3 = r0) : Met l yX9_areNumbers (wsA yX9_areNumbers cX9_areNumbers 4 (some .boolean)) { frames := 1, cells := 0, slots := 0, locals := 22 } (va_Pc [.int p0, .int p1, .int p2, .int p3] (fun _ => True)) (vp_Si (fun r => r = r0 ∧ (r = 0 ∨ r = 1))) 0 0 (fun _ => False) := by
  refine Met.ofW (cc := cX9_areNumbers) (maxL := 4) (ret := (some .boolean)) (by decide) rfl ?_
  intro p e s m args below meth c s₁ B hml hpre
  obtain ⟨rfl, -⟩ := hpre
  have hx := B.exec
  have hb := B.bytes
  have hr := B.returns
  have hA : ∀ w ∈ AW, w.before _ s = true := fun w h => atoms_spec (ws := wsA yX9_areNumbers cX9_areNumbers 4 (some .boolean)) B.pre w (List.mem_cons_of_mem _ h)
  have hown : s.vm.findClass RX9 = some m.cls := findClass_of_methodNamed B.named
  have hlocks := B.notSynchronized
  have S : CallFix p m c cX9_areNumbers 4 s ([.int p0, .int p1, .int p2, .int p3] : List Value).toArray AW RX9 := ⟨hx, hb, hml, hown, hA⟩
  have hl := lv_entry ([.int p0, .int p1, .int p2, .int p3]) (n := 4) (Nat.le_of_ble_eq_true rfl)
  rw [lg_entry_eq]
  generalize (lg_sl ([.int p0, .int p1, .int p2, .int p3]) ++ List.replicate (4 - (lg_sl ([.int p0, .int p1, .int p2, .int p3])).length) Slot.unset).toArray = ls at hl ⊢
  have hl : lv_has ls 4 [(0, .int p0), (1, .int p1), (2, .int p2), (3, .int p3)] := hl
  have h := hF
  unfold G_X9_areNumbers at h
  refine lv_iload_n hx hb dX9_areNumbers_0 rfl (lv_at hl 0 rfl) ?_
  refine lv_iconst (v := 1) hx hb dX9_areNumbers_1 (by decide) ?_
  refine lv_bipush (v := 6) hx hb dX9_areNumbers_2 (by decide) ?_
  refine k_X9_in S aM_RX9_78 ⟨Nat.le_of_ble_eq_true rfl, Nat.le_of_ble_eq_true rfl⟩ ⟨Nat.zero_le _, Nat.zero_le _⟩ hl.1 (Nat.le_of_ble_eq_true rfl) dX9_areNumbers_4 (fun r1 er1 br1 => ?_)
  replace h := olet_s er1 h
  refine lv_if_eq (tgt := 43) hx hb dX9_areNumbers_7 (by decide) (fun hc => ?_) (fun hc => ?_)
  · replace h := oi_t hc h
    refine lv_iconst (v := 0) hx hb dX9_areNumbers_43 (by decide) ?_
    subst h
    exact W.zret (v := 0) (ty := .boolean) hx hb hr rfl (fun t ht hW => ⟨_, rfl, ⟨rfl, (Or.inl rfl)⟩, ht⟩) (fun q hq => absurd hq List.not_mem_nil) dX9_areNumbers_44
  · replace h := oi_f hc h
    refine lv_iload_n hx hb dX9_areNumbers_10 rfl (lv_at hl 1 rfl) ?_
    refine lv_iconst (v := 1) hx hb dX9_areNumbers_11 (by decide) ?_
    refine lv_iconst (v := 4) hx hb dX9_areNumbers_12 (by decide) ?_
    refine k_X9_in S aM_RX9_78 ⟨Nat.le_of_ble_eq_true rfl, Nat.le_of_ble_eq_true rfl⟩ ⟨Nat.zero_le _, Nat.zero_le _⟩ hl.1 (Nat.le_of_ble_eq_true rfl) dX9_areNumbers_13 (fun r2 er2 br2 => ?_)
    replace h := olet_s er2 h
    refine lv_if_eq (tgt := 43) hx hb dX9_areNumbers_16 (by decide) (fun hc => ?_) (fun hc => ?_)
    · replace h := oi_t hc h
      refine lv_iconst (v := 0) hx hb dX9_areNumbers_43 (by decide) ?_
      subst h
      exact W.zret (v := 0) (ty := .boolean) hx hb hr rfl (fun t ht hW => ⟨_, rfl, ⟨rfl, (Or.inl rfl)⟩, ht⟩) (fun q hq => absurd hq List.not_mem_nil) dX9_areNumbers_44
    · replace h := oi_f hc h
      refine lv_iload_n hx hb dX9_areNumbers_19 rfl (lv_at hl 2 rfl) ?_
      refine lv_iconst (v := 1) hx hb dX9_areNumbers_20 (by decide) ?_
      refine lv_bipush (v := 8) hx hb dX9_areNumbers_21 (by decide) ?_
      refine k_X9_in S aM_RX9_78 ⟨Nat.le_of_ble_eq_true rfl, Nat.le_of_ble_eq_true rfl⟩ ⟨Nat.zero_le _, Nat.zero_le _⟩ hl.1 (Nat.le_of_ble_eq_true rfl) dX9_areNumbers_23 (fun r3 er3 br3 => ?_)
      replace h := olet_s er3 h
      refine lv_if_eq (tgt := 43) hx hb dX9_areNumbers_26 (by decide) (fun hc => ?_) (fun hc => ?_)
      · replace h := oi_t hc h
        refine lv_iconst (v := 0) hx hb dX9_areNumbers_43 (by decide) ?_
        subst h
        exact W.zret (v := 0) (ty := .boolean) hx hb hr rfl (fun t ht hW => ⟨_, rfl, ⟨rfl, (Or.inl rfl)⟩, ht⟩) (fun q hq => absurd hq List.not_mem_nil) dX9_areNumbers_44
      · replace h := oi_f hc h
        refine lv_iload_n hx hb dX9_areNumbers_29 rfl (lv_at hl 3 rfl) ?_
        refine lv_iconst (v := 0) hx hb dX9_areNumbers_30 (by decide) ?_
        refine lv_bipush (v := 99) hx hb dX9_areNumbers_31 (by decide) ?_
        refine k_X9_in S aM_RX9_78 ⟨Nat.le_of_ble_eq_true rfl, Nat.le_of_ble_eq_true rfl⟩ ⟨Nat.zero_le _, Nat.zero_le _⟩ hl.1 (Nat.le_of_ble_eq_true rfl) dX9_areNumbers_33 (fun r4 er4 br4 => ?_)
        replace h := olet_s er4 h
        refine lv_if_eq (tgt := 43) hx hb dX9_areNumbers_36 (by decide) (fun hc => ?_) (fun hc => ?_)
        · replace h := oi_t hc h
          refine lv_iconst (v := 0) hx hb dX9_areNumbers_43 (by decide) ?_
          subst h
          exact W.zret (v := 0) (ty := .boolean) hx hb hr rfl (fun t ht hW => ⟨_, rfl, ⟨rfl, (Or.inl rfl)⟩, ht⟩) (fun q hq => absurd hq List.not_mem_nil) dX9_areNumbers_44
        · replace h := oi_f hc h
          refine lv_iconst (v := 1) hx hb dX9_areNumbers_39 (by decide) ?_
          refine lv_goto (tgt := 44) hx hb dX9_areNumbers_40 (by decide) ?_
          subst h
          exact W.zret (v := 1) (ty := .boolean) hx hb hr rfl (fun t ht hW => ⟨_, rfl, ⟨rfl, (Or.inr rfl)⟩, ht⟩) (fun q hq => absurd hq List.not_mem_nil) dX9_areNumbers_44
theorem k_X9_areNumbers {p : Program} {l : Launch} {e : Env} {R : Room} {s : State} {m : MethodId} {args : Array Value} {below : List Frame} {meth : Method} {c : Code} {H : Heap} {locs : List Loc} {cells slots : Nat} {Q : State → Prop} {cc : ByteArray} {pc nL idx : Nat} {ls : Array Slot} {rest : List Value} {own : String} {p0 : Int32} {p1 : Int32} {p2 : Int32} {p3 : Int32} (S : CallFix p m c cc nL s args AW own) (h1 : Cond.methodLink own idx yX9_areNumbers ∈ AW) (hR : 1 + 1 ≤ R.frames ∧ 8 + (4 + 11) + 22 ≤ R.locals) (hc : cells ≤ R.cells ∧ slots ≤ R.slots) (hsz : ls.size = nL) (hW : (rest.map fun v => v.category).sum ≤ 8) (hdg : decode cc pc = .ok (.invokestatic idx, 3)) (kk : ∀ r : Int32, r = G_X9_areNumbers p0 p1 p2 p3 → (r = 0 ∨ r = 1) → W p l e R s m args below meth c H locs cells slots Q (F0 m (pc + 3) ls (.int r :: rest))) : W p l e R s m args below meth c H locs cells slots Q (F0 m pc ls (.int p3 :: .int p2 :: .int p1 :: .int p0 :: rest)) :=
  fm_runS (n := 4) (As := [.int p0, .int p1, .int p2, .int p3]) S (c_X9_areNumbers l p0 p1 p2 p3 _ rfl) h1 aS_X9_areNumbers aN_RX9 aC_X9_areNumbers rfl rfl (by decide +kernel) rfl hR hc hsz hW hdg (fun r hr => kk r hr.1 hr.2)
set_option maxHeartbeats 4000000 in
set_option maxRecDepth 100000 in
theorem c_X9_rebuild (l : Launch) (D : va_G) (cI : ClassId) (a : Nat → Nat) (N : Nat) (φ : M2) (p1 : Int32) (p2 : Int32) (p3 : Int32) (p4 : Int32) (hv : Int64) (r0 : Int32) (φr : M2) (hF : G_X9_rebuild N φ p1 p2 p3 p4 = some (r0, φr)) : Met l yX9_rebuild (wsA yX9_rebuild cX9_rebuild 5 (some .int)) { frames := 7, cells := 0, slots := 0, locals := 158 } (va_Pc [.ref (a 0), .int p1, .int p2, .int p3, .int p4] (mbP D cI a φ hv)) (va_Qi (fun (r : Int32) (_ : Unit) => r = r0) (fun _ t => va_P D vwCl (mbW cI a φr hv) t.heap) (mbA a)) 0 0 (mbA a) := by
  refine Met.ofW (cc := cX9_rebuild) (maxL := 5) (ret := (some .int)) (by decide) rfl ?_
  intro p e s m args below meth c s₁ B hml hpre
  obtain ⟨rfl, hP, hK, hD0⟩ := hpre
  have hx := B.exec
  have hb := B.bytes
  have hr := B.returns
  have hA : ∀ w ∈ AW, w.before _ s = true := fun w h => atoms_spec (ws := wsA yX9_rebuild cX9_rebuild 5 (some .int)) B.pre w (List.mem_cons_of_mem _ h)
  have hown : s.vm.findClass RX9 = some m.cls := findClass_of_methodNamed B.named
  have hlocks := B.notSynchronized
  have hDT := M_dT hD0
  have hDA := M_dA hD0
  have hS : va_S (mbA a) s.heap s.heap [] := va_S.rf
  have S : CallFix p m c cX9_rebuild 5 s ([.ref (a 0), .int p1, .int p2, .int p3, .int p4] : List Value).toArray AW RX9 := ⟨hx, hb, hml, hown, hA⟩
  have hl := lv_entry ([.ref (a 0), .int p1, .int p2, .int p3, .int p4]) (n := 5) (Nat.le_of_ble_eq_true rfl)
  rw [lg_entry_eq]
  generalize (lg_sl ([.ref (a 0), .int p1, .int p2, .int p3, .int p4]) ++ List.replicate (5 - (lg_sl ([.ref (a 0), .int p1, .int p2, .int p3, .int p4])).length) Slot.unset).toArray = ls at hl ⊢
  have hl : lv_has ls 5 [(0, .ref (a 0)), (1, .int p1), (2, .int p2), (3, .int p3), (4, .int p4)] := hl
  have hJ17 : ∀ (v1 : Int32) (v2 : Int32) (v3 : Int32) (v4 : Int32) (s0 : Int32) (φ : M2) (H : Heap) (locs : List Loc) (ls : Array Slot), J_X9_rebuild_17 N φ v1 v2 v3 v4 s0 = some (r0, φr) → va_P D vwCl (mbW cI a φ hv) H → va_S (mbA a) s.heap H locs → lv_has ls 5 [(0, .ref (a 0)), (1, .int v1), (2, .int v2), (3, .int v3), (4, .int v4)] → W p l e (headSpec (wsA yX9_rebuild cX9_rebuild 5 (some .int)) { frames := 7, cells := 0, slots := 0, locals := 158 }).room s m ([.ref (a 0), .int p1, .int p2, .int p3, .int p4] : List Value).toArray below meth c H locs 0 0 (MQ below (va_Qi (fun (r : Int32) (_ : Unit) => r = r0) (fun _ t => va_P D vwCl (mbW cI a φr hv) t.heap) (mbA a)) ([.ref (a 0), .int p1, .int p2, .int p3, .int p4] : List Value).toArray s 0 0 (mbA a)) (F0 m 17 ls [.int s0, .ref (a 0)]) := by
    intro v1 v2 v3 v4 s0 φ H locs ls h hP hS hl
    unfold J_X9_rebuild_17 at h
    refine M_p0_5 hx hb hA hown aF_RX9_64 hK hP (hDA _ _) hS dX9_rebuild_17 (fun w2 H locs ew2 hP hS => ?_)
    replace h := olet_s ew2 h
    refine lv_aload_n hx hb dX9_rebuild_20 rfl (lv_at hl 0 rfl) ?_
    refine M_g0_5 hx hb hA hown aF_RX9_64 hK hP dX9_rebuild_21 ?_
    refine lv_if_eq (tgt := 29) hx hb dX9_rebuild_24 (by decide) (fun hc => ?_) (fun hc => ?_)
    · replace h := oi_t hc h
      refine lv_aload_n hx hb dX9_rebuild_29 rfl (lv_at hl 0 rfl) ?_
      refine lv_iconst (v := 4) hx hb dX9_rebuild_30 (by decide) ?_
      obtain ⟨w3, h4, h⟩ := obd_e h
      refine k_X9_copy S aM_RX9_74 ⟨Nat.le_of_ble_eq_true rfl, Nat.le_of_ble_eq_true rfl⟩ ⟨Nat.zero_le _, Nat.zero_le _⟩ hP hK hDT hS h4 hl.1 (Nat.le_of_ble_eq_true rfl) dX9_rebuild_31 (fun H locs hP hS => ?_)
      refine lv_aload_n hx hb dX9_rebuild_34 rfl (lv_at hl 0 rfl) ?_
      refine lv_iload_n hx hb dX9_rebuild_35 rfl (lv_at hl 1 rfl) ?_
      refine lv_iload_n hx hb dX9_rebuild_36 rfl (lv_at hl 2 rfl) ?_
      refine lv_iload_n hx hb dX9_rebuild_37 rfl (lv_at hl 3 rfl) ?_
      refine lv_iload hx hb dX9_rebuild_38 (lv_at hl 4 rfl) ?_
      obtain ⟨r7, w5, h6, h⟩ := obd2_e h
      refine k_X9_rebuilds S aM_RX9_235 ⟨Nat.le_of_ble_eq_true rfl, Nat.le_of_ble_eq_true rfl⟩ ⟨Nat.zero_le _, Nat.zero_le _⟩ hP hK hDT hS h6 hl.1 (Nat.le_of_ble_eq_true rfl) dX9_rebuild_40 (fun br7 H locs hP hS => ?_)
      refine lv_if_ne (tgt := 58) hx hb dX9_rebuild_43 (by decide) (fun hc => ?_) (fun hc => ?_)
      · replace h := oi_f hc h
        refine lv_aload_n hx hb dX9_rebuild_58 rfl (lv_at hl 0 rfl) ?_
        refine lv_iconst (v := 4) hx hb dX9_rebuild_59 (by decide) ?_
        obtain ⟨w8, h9, h⟩ := obd_e h
        refine k_X9_keepAside S aM_RX9_209 ⟨Nat.le_of_ble_eq_true rfl, Nat.le_of_ble_eq_true rfl⟩ ⟨Nat.zero_le _, Nat.zero_le _⟩ hP hK hDT hS h9 hl.1 (Nat.le_of_ble_eq_true rfl) dX9_rebuild_60 (fun H locs hP hS => ?_)
        refine lv_aload_n hx hb dX9_rebuild_63 rfl (lv_at hl 0 rfl) ?_
        refine M_g0_0 hx hb hA hown aF_RX9_7 hK hP dX9_rebuild_64 ?_
        refine lv_iconst (v := 5) hx hb dX9_rebuild_67 (by decide) ?_
        obtain ⟨i10, h⟩ := oin_e h
        refine M_ld1 hx hb hK hP i10 dX9_rebuild_68 ?_
        obtain ⟨rfl, rfl⟩ := os2 h
        exact W.iret (v := (w8 1 (5 : Int32).toNatClampNeg)) hx hb hr (fun t ht hW => ⟨⟨_, (), rfl, rfl, by show va_P _ _ _ t.heap; rw [ht]; exact hP⟩, hS.F ht⟩) hS.2.2 dX9_rebuild_69
      · replace h := oi_t hc h
        refine lv_aload_n hx hb dX9_rebuild_46 rfl (lv_at hl 0 rfl) ?_
        refine lv_iconst (v := 4) hx hb dX9_rebuild_47 (by decide) ?_
        obtain ⟨w11, h12, h⟩ := obd_e h
        refine k_X9_layBack S aM_RX9_206 ⟨Nat.le_of_ble_eq_true rfl, Nat.le_of_ble_eq_true rfl⟩ ⟨Nat.zero_le _, Nat.zero_le _⟩ hP hK hDT hS h12 hl.1 (Nat.le_of_ble_eq_true rfl) dX9_rebuild_48 (fun H locs hP hS => ?_)
        refine lv_aload_n hx hb dX9_rebuild_51 rfl (lv_at hl 0 rfl) ?_
        refine lv_iconst (v := 2) hx hb dX9_rebuild_52 (by decide) ?_
        refine M_p0_5 hx hb hA hown aF_RX9_64 hK hP (hDA _ _) hS dX9_rebuild_53 (fun w13 H locs ew13 hP hS => ?_)
        replace h := olet_s ew13 h
        refine lv_iconst (v := 0) hx hb dX9_rebuild_56 (by decide) ?_
        obtain ⟨rfl, rfl⟩ := os2 h
        exact W.iret (v := 0) hx hb hr (fun t ht hW => ⟨⟨_, (), rfl, rfl, by show va_P _ _ _ t.heap; rw [ht]; exact hP⟩, hS.F ht⟩) hS.2.2 dX9_rebuild_57
    · replace h := oi_f hc h
      refine lv_iconst (v := 0) hx hb dX9_rebuild_27 (by decide) ?_
      obtain ⟨rfl, rfl⟩ := os2 h
      exact W.iret (v := 0) hx hb hr (fun t ht hW => ⟨⟨_, (), rfl, rfl, by show va_P _ _ _ t.heap; rw [ht]; exact hP⟩, hS.F ht⟩) hS.2.2 dX9_rebuild_28
  have h := hF
  unfold G_X9_rebuild at h
  refine lv_aload_n hx hb dX9_rebuild_0 rfl (lv_at hl 0 rfl) ?_
  refine lv_iload_n hx hb dX9_rebuild_1 rfl (lv_at hl 1 rfl) ?_
  refine lv_iload_n hx hb dX9_rebuild_2 rfl (lv_at hl 2 rfl) ?_
  refine lv_iload_n hx hb dX9_rebuild_3 rfl (lv_at hl 3 rfl) ?_
  refine lv_iload hx hb dX9_rebuild_4 (lv_at hl 4 rfl) ?_
  refine k_X9_areNumbers S aM_RX9_231 ⟨Nat.le_of_ble_eq_true rfl, Nat.le_of_ble_eq_true rfl⟩ ⟨Nat.zero_le _, Nat.zero_le _⟩ hl.1 (Nat.le_of_ble_eq_true rfl) dX9_rebuild_6 (fun r1 er1 br1 => ?_)
  replace h := olet_s er1 h
  refine lv_if_eq (tgt := 16) hx hb dX9_rebuild_9 (by decide) (fun hc => ?_) (fun hc => ?_)
  · replace h := oi_t hc h
    refine lv_iconst (v := 1) hx hb dX9_rebuild_16 (by decide) ?_
    exact hJ17 _ _ _ _ _ _ _ _ _ h hP hS (lv_sub hl [0, 1, 2, 3, 4] rfl)
  · replace h := oi_f hc h
    refine lv_iconst (v := 0) hx hb dX9_rebuild_12 (by decide) ?_
    refine lv_goto (tgt := 17) hx hb dX9_rebuild_13 (by decide) ?_
    exact hJ17 _ _ _ _ _ _ _ _ _ h hP hS (lv_sub hl [0, 1, 2, 3, 4] rfl)
theorem k_X9_rebuild {p : Program} {l : Launch} {e : Env} {R : Room} {s : State} {m : MethodId} {args : Array Value} {below : List Frame} {meth : Method} {c : Code} {H : Heap} {locs : List Loc} {cells slots : Nat} {Q : State → Prop} {cc : ByteArray} {pc nL idx : Nat} {ls : Array Slot} {rest : List Value} {own : String} {D : va_G} {cI : ClassId} {a : Nat → Nat} {H0 : Heap} {N : Nat} {φ : M2} {p1 : Int32} {p2 : Int32} {p3 : Int32} {p4 : Int32} {hv : Int64} {r0 : Int32} {φr : M2} (S : CallFix p m c cc nL s args AW own) (h1 : Cond.methodLink own idx yX9_rebuild ∈ AW) (hR : 7 + 1 ≤ R.frames ∧ 8 + (5 + 11) + 158 ≤ R.locals) (hc : cells ≤ R.cells ∧ slots ≤ R.slots) (hP : va_P D vwCl (mbW cI a φ hv) H) (hK : va_K D vwCl [(cI, .int)] s) (hDT : ∀ (φ2 : M2) (hv2 : Int64), va_D (fun _ => True) (mbW cI a φ2 hv2)) (hS : va_S (mbA a) H0 H locs) (hF : G_X9_rebuild N φ p1 p2 p3 p4 = some (r0, φr)) (hsz : ls.size = nL) (hW : (rest.map fun v => v.category).sum ≤ 8) (hdg : decode cc pc = .ok (.invokevirtual idx, 3)) (kk : ∀ (H1 : Heap) (locs1 : List Loc), va_P D vwCl (mbW cI a φr hv) H1 → va_S (mbA a) H0 H1 locs1 → W p l e R s m args below meth c H1 locs1 cells slots Q (F0 m (pc + 3) ls (.int r0 :: rest))) : W p l e R s m args below meth c H locs cells slots Q (F0 m pc ls (.int p4 :: .int p3 :: .int p2 :: .int p1 :: .ref (a 0) :: rest)) :=
  fm_runVi (n := 4) (C := RX9) (As := [.int p1, .int p2, .int p3, .int p4]) S (c_X9_rebuild l D cI a N φ p1 p2 p3 p4 hv r0 φr hF) (M_pre (q0 := 0) (ci := 7) hK hP (hDT _ _) rfl rfl) hS h1 aI_X9_rebuild aV_X9_rebuild aN_RX9 aC_X9_rebuild rfl rfl (by decide +kernel) rfl hR hc hsz hW hdg (fun r H1 locs1 hr hP1 hS1 => by subst hr; exact kk H1 locs1 hP1 hS1)
set_option maxHeartbeats 4000000 in
set_option maxRecDepth 100000 in
theorem c_X9_setLimit (l : Launch) (D : va_G) (cI : ClassId) (a : Nat → Nat) (N : Nat) (φ : M2) (p1 : Int32) (hv : Int64) (r0 : Int32) (φr : M2) (hF : G_X9_setLimit N φ p1 = some (r0, φr)) : Met l yX9_setLimit (wsA yX9_setLimit cX9_setLimit 3 (some .int)) { frames := 2, cells := 0, slots := 0, locals := 42 } (va_Pc [.ref (a 0), .int p1] (mbP D cI a φ hv)) (va_Qi (fun (r : Int32) (_ : Unit) => r = r0) (fun _ t => va_P D vwCl (mbW cI a φr hv) t.heap) (mbA a)) 0 0 (mbA a) := by
  refine Met.ofW (cc := cX9_setLimit) (maxL := 3) (ret := (some .int)) (by decide) rfl ?_
  intro p e s m args below meth c s₁ B hml hpre
  obtain ⟨rfl, hP, hK, hD0⟩ := hpre
  have hx := B.exec
  have hb := B.bytes
  have hr := B.returns
  have hA : ∀ w ∈ AW, w.before _ s = true := fun w h => atoms_spec (ws := wsA yX9_setLimit cX9_setLimit 3 (some .int)) B.pre w (List.mem_cons_of_mem _ h)
  have hown : s.vm.findClass RX9 = some m.cls := findClass_of_methodNamed B.named
  have hlocks := B.notSynchronized
  have hDT := M_dT hD0
  have hDA := M_dA hD0
  have hS : va_S (mbA a) s.heap s.heap [] := va_S.rf
  have S : CallFix p m c cX9_setLimit 3 s ([.ref (a 0), .int p1] : List Value).toArray AW RX9 := ⟨hx, hb, hml, hown, hA⟩
  have hl := lv_entry ([.ref (a 0), .int p1]) (n := 3) (Nat.le_of_ble_eq_true rfl)
  rw [lg_entry_eq]
  generalize (lg_sl ([.ref (a 0), .int p1]) ++ List.replicate (3 - (lg_sl ([.ref (a 0), .int p1])).length) Slot.unset).toArray = ls at hl ⊢
  have hl : lv_has ls 3 [(0, .ref (a 0)), (1, .int p1)] := hl
  have hJ16 : ∀ (v1 : Int32) (s0 : Int32) (φ : M2) (H : Heap) (locs : List Loc) (ls : Array Slot), J_X9_setLimit_16 N φ v1 s0 = some (r0, φr) → va_P D vwCl (mbW cI a φ hv) H → va_S (mbA a) s.heap H locs → lv_has ls 3 [(0, .ref (a 0)), (1, .int v1)] → W p l e (headSpec (wsA yX9_setLimit cX9_setLimit 3 (some .int)) { frames := 2, cells := 0, slots := 0, locals := 42 }).room s m ([.ref (a 0), .int p1] : List Value).toArray below meth c H locs 0 0 (MQ below (va_Qi (fun (r : Int32) (_ : Unit) => r = r0) (fun _ t => va_P D vwCl (mbW cI a φr hv) t.heap) (mbA a)) ([.ref (a 0), .int p1] : List Value).toArray s 0 0 (mbA a)) (F0 m 16 ls [.int s0, .ref (a 0)]) := by
    intro v1 s0 φ H locs ls h hP hS hl
    unfold J_X9_setLimit_16 at h
    refine M_p0_5 hx hb hA hown aF_RX9_64 hK hP (hDA _ _) hS dX9_setLimit_16 (fun w2 H locs ew2 hP hS => ?_)
    replace h := olet_s ew2 h
    refine lv_aload_n hx hb dX9_setLimit_19 rfl (lv_at hl 0 rfl) ?_
    refine M_g0_5 hx hb hA hown aF_RX9_64 hK hP dX9_setLimit_20 ?_
    refine lv_if_eq (tgt := 28) hx hb dX9_setLimit_23 (by decide) (fun hc => ?_) (fun hc => ?_)
    · replace h := oi_t hc h
      refine lv_aload_n hx hb dX9_setLimit_28 rfl (lv_at hl 0 rfl) ?_
      obtain ⟨w3, h4, h⟩ := obd_e h
      refine k_X9_keep S aM_RX9_215 ⟨Nat.le_of_ble_eq_true rfl, Nat.le_of_ble_eq_true rfl⟩ ⟨Nat.zero_le _, Nat.zero_le _⟩ hP hK hDT hS h4 hl.1 (Nat.le_of_ble_eq_true rfl) dX9_setLimit_29 (fun H locs hP hS => ?_)
      refine lv_aload_n hx hb dX9_setLimit_32 rfl (lv_at hl 0 rfl) ?_
      refine M_g0_0 hx hb hA hown aF_RX9_7 hK hP dX9_setLimit_33 ?_
      refine lv_iconst (v := 4) hx hb dX9_setLimit_36 (by decide) ?_
      obtain ⟨i5, h⟩ := oin_e h
      refine M_ld1 hx hb hK hP i5 dX9_setLimit_37 ?_
      refine lv_topi (fun x6 ex6 => ?_)
      replace h := olet_s ex6 h
      refine lv_istore_n (lv' := [(2, .int x6), (0, .ref (a 0)), (1, .int v1)]) hx hb dX9_setLimit_38 rfl hl (by decide) rfl (fun ls hl => ?_)
      refine lv_aload_n hx hb dX9_setLimit_39 rfl (lv_at hl 1 rfl) ?_
      refine M_g0_0 hx hb hA hown aF_RX9_7 hK hP dX9_setLimit_40 ?_
      refine lv_iconst (v := 4) hx hb dX9_setLimit_43 (by decide) ?_
      refine lv_iload_n hx hb dX9_setLimit_44 rfl (lv_at hl 2 rfl) ?_
      obtain ⟨i7, h⟩ := oin_e h
      refine M_st1 hx hb hK hP (hDA _ _) hS i7 dX9_setLimit_45 (fun w8 H locs ew8 hP hS => ?_)
      replace h := olet_s ew8 h
      refine lv_iload_n hx hb dX9_setLimit_46 rfl (lv_at hl 0 rfl) ?_
      obtain ⟨rfl, rfl⟩ := os2 h
      exact W.iret (v := x6) hx hb hr (fun t ht hW => ⟨⟨_, (), rfl, rfl, by show va_P _ _ _ t.heap; rw [ht]; exact hP⟩, hS.F ht⟩) hS.2.2 dX9_setLimit_47
    · replace h := oi_f hc h
      refine lv_iconst (v := 0) hx hb dX9_setLimit_26 (by decide) ?_
      obtain ⟨rfl, rfl⟩ := os2 h
      exact W.iret (v := 0) hx hb hr (fun t ht hW => ⟨⟨_, (), rfl, rfl, by show va_P _ _ _ t.heap; rw [ht]; exact hP⟩, hS.F ht⟩) hS.2.2 dX9_setLimit_27
  have h := hF
  unfold G_X9_setLimit at h
  refine lv_aload_n hx hb dX9_setLimit_0 rfl (lv_at hl 0 rfl) ?_
  refine lv_iload_n hx hb dX9_setLimit_1 rfl (lv_at hl 1 rfl) ?_
  refine lv_iconst (v := 0) hx hb dX9_setLimit_2 (by decide) ?_
  refine lv_bipush (v := 50) hx hb dX9_setLimit_3 (by decide) ?_
  refine k_X9_in S aM_RX9_78 ⟨Nat.le_of_ble_eq_true rfl, Nat.le_of_ble_eq_true rfl⟩ ⟨Nat.zero_le _, Nat.zero_le _⟩ hl.1 (Nat.le_of_ble_eq_true rfl) dX9_setLimit_5 (fun r1 er1 br1 => ?_)
  replace h := olet_s er1 h
  refine lv_if_eq (tgt := 15) hx hb dX9_setLimit_8 (by decide) (fun hc => ?_) (fun hc => ?_)
  · replace h := oi_t hc h
    refine lv_iconst (v := 1) hx hb dX9_setLimit_15 (by decide) ?_
    exact hJ16 _ _ _ _ _ _ h hP hS (lv_sub hl [0, 1] rfl)
  · replace h := oi_f hc h
    refine lv_iconst (v := 0) hx hb dX9_setLimit_11 (by decide) ?_
    refine lv_goto (tgt := 16) hx hb dX9_setLimit_12 (by decide) ?_
    exact hJ16 _ _ _ _ _ _ h hP hS (lv_sub hl [0, 1] rfl)
theorem k_X9_setLimit {p : Program} {l : Launch} {e : Env} {R : Room} {s : State} {m : MethodId} {args : Array Value} {below : List Frame} {meth : Method} {c : Code} {H : Heap} {locs : List Loc} {cells slots : Nat} {Q : State → Prop} {cc : ByteArray} {pc nL idx : Nat} {ls : Array Slot} {rest : List Value} {own : String} {D : va_G} {cI : ClassId} {a : Nat → Nat} {H0 : Heap} {N : Nat} {φ : M2} {p1 : Int32} {hv : Int64} {r0 : Int32} {φr : M2} (S : CallFix p m c cc nL s args AW own) (h1 : Cond.methodLink own idx yX9_setLimit ∈ AW) (hR : 2 + 1 ≤ R.frames ∧ 8 + (3 + 11) + 42 ≤ R.locals) (hc : cells ≤ R.cells ∧ slots ≤ R.slots) (hP : va_P D vwCl (mbW cI a φ hv) H) (hK : va_K D vwCl [(cI, .int)] s) (hDT : ∀ (φ2 : M2) (hv2 : Int64), va_D (fun _ => True) (mbW cI a φ2 hv2)) (hS : va_S (mbA a) H0 H locs) (hF : G_X9_setLimit N φ p1 = some (r0, φr)) (hsz : ls.size = nL) (hW : (rest.map fun v => v.category).sum ≤ 8) (hdg : decode cc pc = .ok (.invokevirtual idx, 3)) (kk : ∀ (H1 : Heap) (locs1 : List Loc), va_P D vwCl (mbW cI a φr hv) H1 → va_S (mbA a) H0 H1 locs1 → W p l e R s m args below meth c H1 locs1 cells slots Q (F0 m (pc + 3) ls (.int r0 :: rest))) : W p l e R s m args below meth c H locs cells slots Q (F0 m pc ls (.int p1 :: .ref (a 0) :: rest)) :=
  fm_runVi (n := 1) (C := RX9) (As := [.int p1]) S (c_X9_setLimit l D cI a N φ p1 hv r0 φr hF) (M_pre (q0 := 0) (ci := 7) hK hP (hDT _ _) rfl rfl) hS h1 aI_X9_setLimit aV_X9_setLimit aN_RX9 aC_X9_setLimit rfl rfl (by decide +kernel) rfl hR hc hsz hW hdg (fun r H1 locs1 hr hP1 hS1 => by subst hr; exact kk H1 locs1 hP1 hS1)
set_option maxHeartbeats 4000000 in
set_option maxRecDepth 100000 in
theorem c_X9_setLength (l : Launch) (D : va_G) (cI : ClassId) (a : Nat → Nat) (N : Nat) (φ : M2) (p1 : Int32) (hv : Int64) (r0 : Int32) (φr : M2) (hF : G_X9_setLength N φ p1 = some (r0, φr)) : Met l yX9_setLength (wsA yX9_setLength cX9_setLength 3 (some .int)) { frames := 2, cells := 0, slots := 0, locals := 42 } (va_Pc [.ref (a 0), .int p1] (mbP D cI a φ hv)) (va_Qi (fun (r : Int32) (_ : Unit) => r = r0) (fun _ t => va_P D vwCl (mbW cI a φr hv) t.heap) (mbA a)) 0 0 (mbA a) := by
  refine Met.ofW (cc := cX9_setLength) (maxL := 3) (ret := (some .int)) (by decide) rfl ?_
  intro p e s m args below meth c s₁ B hml hpre
  obtain ⟨rfl, hP, hK, hD0⟩ := hpre
  have hx := B.exec
  have hb := B.bytes
  have hr := B.returns
  have hA : ∀ w ∈ AW, w.before _ s = true := fun w h => atoms_spec (ws := wsA yX9_setLength cX9_setLength 3 (some .int)) B.pre w (List.mem_cons_of_mem _ h)
  have hown : s.vm.findClass RX9 = some m.cls := findClass_of_methodNamed B.named
  have hlocks := B.notSynchronized
  have hDT := M_dT hD0
  have hDA := M_dA hD0
  have hS : va_S (mbA a) s.heap s.heap [] := va_S.rf
  have S : CallFix p m c cX9_setLength 3 s ([.ref (a 0), .int p1] : List Value).toArray AW RX9 := ⟨hx, hb, hml, hown, hA⟩
  have hl := lv_entry ([.ref (a 0), .int p1]) (n := 3) (Nat.le_of_ble_eq_true rfl)
  rw [lg_entry_eq]
  generalize (lg_sl ([.ref (a 0), .int p1]) ++ List.replicate (3 - (lg_sl ([.ref (a 0), .int p1])).length) Slot.unset).toArray = ls at hl ⊢
  have hl : lv_has ls 3 [(0, .ref (a 0)), (1, .int p1)] := hl
  have hJ16 : ∀ (v1 : Int32) (s0 : Int32) (φ : M2) (H : Heap) (locs : List Loc) (ls : Array Slot), J_X9_setLength_16 N φ v1 s0 = some (r0, φr) → va_P D vwCl (mbW cI a φ hv) H → va_S (mbA a) s.heap H locs → lv_has ls 3 [(0, .ref (a 0)), (1, .int v1)] → W p l e (headSpec (wsA yX9_setLength cX9_setLength 3 (some .int)) { frames := 2, cells := 0, slots := 0, locals := 42 }).room s m ([.ref (a 0), .int p1] : List Value).toArray below meth c H locs 0 0 (MQ below (va_Qi (fun (r : Int32) (_ : Unit) => r = r0) (fun _ t => va_P D vwCl (mbW cI a φr hv) t.heap) (mbA a)) ([.ref (a 0), .int p1] : List Value).toArray s 0 0 (mbA a)) (F0 m 16 ls [.int s0, .ref (a 0)]) := by
    intro v1 s0 φ H locs ls h hP hS hl
    unfold J_X9_setLength_16 at h
    refine M_p0_5 hx hb hA hown aF_RX9_64 hK hP (hDA _ _) hS dX9_setLength_16 (fun w2 H locs ew2 hP hS => ?_)
    replace h := olet_s ew2 h
    refine lv_aload_n hx hb dX9_setLength_19 rfl (lv_at hl 0 rfl) ?_
    refine M_g0_5 hx hb hA hown aF_RX9_64 hK hP dX9_setLength_20 ?_
    refine lv_if_eq (tgt := 28) hx hb dX9_setLength_23 (by decide) (fun hc => ?_) (fun hc => ?_)
    · replace h := oi_t hc h
      refine lv_aload_n hx hb dX9_setLength_28 rfl (lv_at hl 0 rfl) ?_
      obtain ⟨w3, h4, h⟩ := obd_e h
      refine k_X9_keep S aM_RX9_215 ⟨Nat.le_of_ble_eq_true rfl, Nat.le_of_ble_eq_true rfl⟩ ⟨Nat.zero_le _, Nat.zero_le _⟩ hP hK hDT hS h4 hl.1 (Nat.le_of_ble_eq_true rfl) dX9_setLength_29 (fun H locs hP hS => ?_)
      refine lv_aload_n hx hb dX9_setLength_32 rfl (lv_at hl 0 rfl) ?_
      refine M_g0_0 hx hb hA hown aF_RX9_7 hK hP dX9_setLength_33 ?_
      refine lv_iconst (v := 2) hx hb dX9_setLength_36 (by decide) ?_
      obtain ⟨i5, h⟩ := oin_e h
      refine M_ld1 hx hb hK hP i5 dX9_setLength_37 ?_
      refine lv_topi (fun x6 ex6 => ?_)
      replace h := olet_s ex6 h
      refine lv_istore_n (lv' := [(2, .int x6), (0, .ref (a 0)), (1, .int v1)]) hx hb dX9_setLength_38 rfl hl (by decide) rfl (fun ls hl => ?_)
      refine lv_aload_n hx hb dX9_setLength_39 rfl (lv_at hl 1 rfl) ?_
      refine M_g0_0 hx hb hA hown aF_RX9_7 hK hP dX9_setLength_40 ?_
      refine lv_iconst (v := 2) hx hb dX9_setLength_43 (by decide) ?_
      refine lv_iload_n hx hb dX9_setLength_44 rfl (lv_at hl 2 rfl) ?_
      obtain ⟨i7, h⟩ := oin_e h
      refine M_st1 hx hb hK hP (hDA _ _) hS i7 dX9_setLength_45 (fun w8 H locs ew8 hP hS => ?_)
      replace h := olet_s ew8 h
      refine lv_iload_n hx hb dX9_setLength_46 rfl (lv_at hl 0 rfl) ?_
      obtain ⟨rfl, rfl⟩ := os2 h
      exact W.iret (v := x6) hx hb hr (fun t ht hW => ⟨⟨_, (), rfl, rfl, by show va_P _ _ _ t.heap; rw [ht]; exact hP⟩, hS.F ht⟩) hS.2.2 dX9_setLength_47
    · replace h := oi_f hc h
      refine lv_iconst (v := 0) hx hb dX9_setLength_26 (by decide) ?_
      obtain ⟨rfl, rfl⟩ := os2 h
      exact W.iret (v := 0) hx hb hr (fun t ht hW => ⟨⟨_, (), rfl, rfl, by show va_P _ _ _ t.heap; rw [ht]; exact hP⟩, hS.F ht⟩) hS.2.2 dX9_setLength_27
  have h := hF
  unfold G_X9_setLength at h
  refine lv_aload_n hx hb dX9_setLength_0 rfl (lv_at hl 0 rfl) ?_
  refine lv_iload_n hx hb dX9_setLength_1 rfl (lv_at hl 1 rfl) ?_
  refine lv_iconst (v := 1) hx hb dX9_setLength_2 (by decide) ?_
  refine lv_bipush (v := 8) hx hb dX9_setLength_3 (by decide) ?_
  refine k_X9_in S aM_RX9_78 ⟨Nat.le_of_ble_eq_true rfl, Nat.le_of_ble_eq_true rfl⟩ ⟨Nat.zero_le _, Nat.zero_le _⟩ hl.1 (Nat.le_of_ble_eq_true rfl) dX9_setLength_5 (fun r1 er1 br1 => ?_)
  replace h := olet_s er1 h
  refine lv_if_eq (tgt := 15) hx hb dX9_setLength_8 (by decide) (fun hc => ?_) (fun hc => ?_)
  · replace h := oi_t hc h
    refine lv_iconst (v := 1) hx hb dX9_setLength_15 (by decide) ?_
    exact hJ16 _ _ _ _ _ _ h hP hS (lv_sub hl [0, 1] rfl)
  · replace h := oi_f hc h
    refine lv_iconst (v := 0) hx hb dX9_setLength_11 (by decide) ?_
    refine lv_goto (tgt := 16) hx hb dX9_setLength_12 (by decide) ?_
    exact hJ16 _ _ _ _ _ _ h hP hS (lv_sub hl [0, 1] rfl)
theorem k_X9_setLength {p : Program} {l : Launch} {e : Env} {R : Room} {s : State} {m : MethodId} {args : Array Value} {below : List Frame} {meth : Method} {c : Code} {H : Heap} {locs : List Loc} {cells slots : Nat} {Q : State → Prop} {cc : ByteArray} {pc nL idx : Nat} {ls : Array Slot} {rest : List Value} {own : String} {D : va_G} {cI : ClassId} {a : Nat → Nat} {H0 : Heap} {N : Nat} {φ : M2} {p1 : Int32} {hv : Int64} {r0 : Int32} {φr : M2} (S : CallFix p m c cc nL s args AW own) (h1 : Cond.methodLink own idx yX9_setLength ∈ AW) (hR : 2 + 1 ≤ R.frames ∧ 8 + (3 + 11) + 42 ≤ R.locals) (hc : cells ≤ R.cells ∧ slots ≤ R.slots) (hP : va_P D vwCl (mbW cI a φ hv) H) (hK : va_K D vwCl [(cI, .int)] s) (hDT : ∀ (φ2 : M2) (hv2 : Int64), va_D (fun _ => True) (mbW cI a φ2 hv2)) (hS : va_S (mbA a) H0 H locs) (hF : G_X9_setLength N φ p1 = some (r0, φr)) (hsz : ls.size = nL) (hW : (rest.map fun v => v.category).sum ≤ 8) (hdg : decode cc pc = .ok (.invokevirtual idx, 3)) (kk : ∀ (H1 : Heap) (locs1 : List Loc), va_P D vwCl (mbW cI a φr hv) H1 → va_S (mbA a) H0 H1 locs1 → W p l e R s m args below meth c H1 locs1 cells slots Q (F0 m (pc + 3) ls (.int r0 :: rest))) : W p l e R s m args below meth c H locs cells slots Q (F0 m pc ls (.int p1 :: .ref (a 0) :: rest)) :=
  fm_runVi (n := 1) (C := RX9) (As := [.int p1]) S (c_X9_setLength l D cI a N φ p1 hv r0 φr hF) (M_pre (q0 := 0) (ci := 7) hK hP (hDT _ _) rfl rfl) hS h1 aI_X9_setLength aV_X9_setLength aN_RX9 aC_X9_setLength rfl rfl (by decide +kernel) rfl hR hc hsz hW hdg (fun r H1 locs1 hr hP1 hS1 => by subst hr; exact kk H1 locs1 hP1 hS1)
set_option maxHeartbeats 4000000 in
set_option maxRecDepth 100000 in
theorem c_X9_clear (l : Launch) (D : va_G) (cI : ClassId) (a : Nat → Nat) (N : Nat) (φ : M2) (hv : Int64) (r0 : Int32) (φr : M2) (hF : G_X9_clear N φ = some (r0, φr)) : Met l yX9_clear (wsA yX9_clear cX9_clear 2 (some .int)) { frames := 2, cells := 0, slots := 0, locals := 42 } (va_Pc [.ref (a 0)] (mbP D cI a φ hv)) (va_Qi (fun (r : Int32) (_ : Unit) => r = r0) (fun _ t => va_P D vwCl (mbW cI a φr hv) t.heap) (mbA a)) 0 0 (mbA a) := by
  refine Met.ofW (cc := cX9_clear) (maxL := 2) (ret := (some .int)) (by decide) rfl ?_
  intro p e s m args below meth c s₁ B hml hpre
  obtain ⟨rfl, hP, hK, hD0⟩ := hpre
  have hx := B.exec
  have hb := B.bytes
  have hr := B.returns
  have hA : ∀ w ∈ AW, w.before _ s = true := fun w h => atoms_spec (ws := wsA yX9_clear cX9_clear 2 (some .int)) B.pre w (List.mem_cons_of_mem _ h)
  have hown : s.vm.findClass RX9 = some m.cls := findClass_of_methodNamed B.named
  have hlocks := B.notSynchronized
  have hDT := M_dT hD0
  have hDA := M_dA hD0
  have hS : va_S (mbA a) s.heap s.heap [] := va_S.rf
  have S : CallFix p m c cX9_clear 2 s ([.ref (a 0)] : List Value).toArray AW RX9 := ⟨hx, hb, hml, hown, hA⟩
  have hl := lv_entry ([.ref (a 0)]) (n := 2) (Nat.le_of_ble_eq_true rfl)
  rw [lg_entry_eq]
  generalize (lg_sl ([.ref (a 0)]) ++ List.replicate (2 - (lg_sl ([.ref (a 0)])).length) Slot.unset).toArray = ls at hl ⊢
  have hl : lv_has ls 2 [(0, .ref (a 0))] := hl
  have h := hF
  unfold G_X9_clear at h
  refine lv_aload_n hx hb dX9_clear_0 rfl (lv_at hl 0 rfl) ?_
  refine lv_iconst (v := 0) hx hb dX9_clear_1 (by decide) ?_
  refine M_p0_5 hx hb hA hown aF_RX9_64 hK hP (hDA _ _) hS dX9_clear_2 (fun w1 H locs ew1 hP hS => ?_)
  replace h := olet_s ew1 h
  refine lv_aload_n hx hb dX9_clear_5 rfl (lv_at hl 0 rfl) ?_
  obtain ⟨w2, h3, h⟩ := obd_e h
  refine k_X9_keep S aM_RX9_215 ⟨Nat.le_of_ble_eq_true rfl, Nat.le_of_ble_eq_true rfl⟩ ⟨Nat.zero_le _, Nat.zero_le _⟩ hP hK hDT hS h3 hl.1 (Nat.le_of_ble_eq_true rfl) dX9_clear_6 (fun H locs hP hS => ?_)
  refine lv_aload_n hx hb dX9_clear_9 rfl (lv_at hl 0 rfl) ?_
  refine M_g0_0 hx hb hA hown aF_RX9_7 hK hP dX9_clear_10 ?_
  refine lv_sipush (v := 1042) hx hb dX9_clear_13 (by decide) ?_
  obtain ⟨i4, h⟩ := oin_e h
  refine M_ld1 hx hb hK hP i4 dX9_clear_16 ?_
  refine lv_topi (fun x5 ex5 => ?_)
  replace h := olet_s ex5 h
  refine lv_istore_n (lv' := [(1, .int x5), (0, .ref (a 0))]) hx hb dX9_clear_17 rfl hl (by decide) rfl (fun ls hl => ?_)
  refine lv_aload_n hx hb dX9_clear_18 rfl (lv_at hl 1 rfl) ?_
  refine M_g0_0 hx hb hA hown aF_RX9_7 hK hP dX9_clear_19 ?_
  refine lv_sipush (v := 1042) hx hb dX9_clear_22 (by decide) ?_
  refine lv_iconst (v := 0) hx hb dX9_clear_25 (by decide) ?_
  obtain ⟨i6, h⟩ := oin_e h
  refine M_st1 hx hb hK hP (hDA _ _) hS i6 dX9_clear_26 (fun w7 H locs ew7 hP hS => ?_)
  replace h := olet_s ew7 h
  refine lv_aload_n hx hb dX9_clear_27 rfl (lv_at hl 1 rfl) ?_
  obtain ⟨w8, h9, h⟩ := obd_e h
  refine k_X9_empties S aM_RX9_61 ⟨Nat.le_of_ble_eq_true rfl, Nat.le_of_ble_eq_true rfl⟩ ⟨Nat.zero_le _, Nat.zero_le _⟩ hP hK hDT hS h9 hl.1 (Nat.le_of_ble_eq_true rfl) dX9_clear_28 (fun H locs hP hS => ?_)
  refine lv_iload_n hx hb dX9_clear_31 rfl (lv_at hl 0 rfl) ?_
  obtain ⟨rfl, rfl⟩ := os2 h
  exact W.iret (v := x5) hx hb hr (fun t ht hW => ⟨⟨_, (), rfl, rfl, by show va_P _ _ _ t.heap; rw [ht]; exact hP⟩, hS.F ht⟩) hS.2.2 dX9_clear_32
theorem k_X9_clear {p : Program} {l : Launch} {e : Env} {R : Room} {s : State} {m : MethodId} {args : Array Value} {below : List Frame} {meth : Method} {c : Code} {H : Heap} {locs : List Loc} {cells slots : Nat} {Q : State → Prop} {cc : ByteArray} {pc nL idx : Nat} {ls : Array Slot} {rest : List Value} {own : String} {D : va_G} {cI : ClassId} {a : Nat → Nat} {H0 : Heap} {N : Nat} {φ : M2} {hv : Int64} {r0 : Int32} {φr : M2} (S : CallFix p m c cc nL s args AW own) (h1 : Cond.methodLink own idx yX9_clear ∈ AW) (hR : 2 + 1 ≤ R.frames ∧ 8 + (2 + 11) + 42 ≤ R.locals) (hc : cells ≤ R.cells ∧ slots ≤ R.slots) (hP : va_P D vwCl (mbW cI a φ hv) H) (hK : va_K D vwCl [(cI, .int)] s) (hDT : ∀ (φ2 : M2) (hv2 : Int64), va_D (fun _ => True) (mbW cI a φ2 hv2)) (hS : va_S (mbA a) H0 H locs) (hF : G_X9_clear N φ = some (r0, φr)) (hsz : ls.size = nL) (hW : (rest.map fun v => v.category).sum ≤ 8) (hdg : decode cc pc = .ok (.invokevirtual idx, 3)) (kk : ∀ (H1 : Heap) (locs1 : List Loc), va_P D vwCl (mbW cI a φr hv) H1 → va_S (mbA a) H0 H1 locs1 → W p l e R s m args below meth c H1 locs1 cells slots Q (F0 m (pc + 3) ls (.int r0 :: rest))) : W p l e R s m args below meth c H locs cells slots Q (F0 m pc ls (.ref (a 0) :: rest)) :=
  fm_runVi (n := 0) (C := RX9) (As := []) S (c_X9_clear l D cI a N φ hv r0 φr hF) (M_pre (q0 := 0) (ci := 7) hK hP (hDT _ _) rfl rfl) hS h1 aI_X9_clear aV_X9_clear aN_RX9 aC_X9_clear rfl rfl (by decide +kernel) rfl hR hc hsz hW hdg (fun r H1 locs1 hr hP1 hS1 => by subst hr; exact kk H1 locs1 hP1 hS1)
set_option maxHeartbeats 4000000 in
set_option maxRecDepth 100000 in
theorem c_X9_entries (l : Launch) (D : va_G) (cI : ClassId) (a : Nat → Nat) (N : Nat) (φ : M2) (p1 : Int32) (hv : Int64) (r0 : Int32) (hF : G_X9_entries N φ p1 = some r0) : Met l yX9_entries (wsA yX9_entries cX9_entries 4 (some .int)) { frames := 2, cells := 0, slots := 0, locals := 43 } (va_Pc [.ref (a 0), .int p1] (mbP D cI a φ hv)) (vp_Si (fun r => r = r0)) 0 0 (fun _ => False) := by
  refine Met.ofW (cc := cX9_entries) (maxL := 4) (ret := (some .int)) (by decide) rfl ?_
  intro p e s m args below meth c s₁ B hml hpre
  obtain ⟨rfl, hP, hK, hD0⟩ := hpre
  have hx := B.exec
  have hb := B.bytes
  have hr := B.returns
  have hA : ∀ w ∈ AW, w.before _ s = true := fun w h => atoms_spec (ws := wsA yX9_entries cX9_entries 4 (some .int)) B.pre w (List.mem_cons_of_mem _ h)
  have hown : s.vm.findClass RX9 = some m.cls := findClass_of_methodNamed B.named
  have hlocks := B.notSynchronized
  have hDT := M_dT hD0
  have S : CallFix p m c cX9_entries 4 s ([.ref (a 0), .int p1] : List Value).toArray AW RX9 := ⟨hx, hb, hml, hown, hA⟩
  have hl := lv_entry ([.ref (a 0), .int p1]) (n := 4) (Nat.le_of_ble_eq_true rfl)
  rw [lg_entry_eq]
  generalize (lg_sl ([.ref (a 0), .int p1]) ++ List.replicate (4 - (lg_sl ([.ref (a 0), .int p1])).length) Slot.unset).toArray = ls at hl ⊢
  have hl : lv_has ls 4 [(0, .ref (a 0)), (1, .int p1)] := hl
  have hL4 : ∀ (k : Nat) (v1 : Int32) (v2 : Int32) (v3 : Int32) (ls : Array Slot) (o2 : Int32), L_X9_entries_4 N φ v1 k v2 v3 = some o2 → lv_has ls 4 [(0, .ref (a 0)), (1, .int v1), (2, .int v2), (3, .int v3)] → (∀ (ls1 : Array Slot), lv_has ls1 4 [(2, .int o2)] → W p l e (headSpec (wsA yX9_entries cX9_entries 4 (some .int)) { frames := 2, cells := 0, slots := 0, locals := 43 }).room s m ([.ref (a 0), .int p1] : List Value).toArray below meth c s.heap [] 0 0 (MQ below (vp_Si (fun r => r = r0)) ([.ref (a 0), .int p1] : List Value).toArray s 0 0 (fun _ => False)) (F0 m 32 ls1 [])) → W p l e (headSpec (wsA yX9_entries cX9_entries 4 (some .int)) { frames := 2, cells := 0, slots := 0, locals := 43 }).room s m ([.ref (a 0), .int p1] : List Value).toArray below meth c s.heap [] 0 0 (MQ below (vp_Si (fun r => r = r0)) ([.ref (a 0), .int p1] : List Value).toArray s 0 0 (fun _ => False)) (F0 m 4 ls []) := by
    intro k
    induction k with
    | zero =>
      intro v1 v2 v3 ls o2 h hl kk
      exact no_s h
    | succ k ih =>
      intro v1 v2 v3 ls o2 h hl kk
      replace h : B_X9_entries_4 N φ v1 (L_X9_entries_4 N φ v1 k) v2 v3 = some o2 := h
      unfold B_X9_entries_4 at h
      refine lv_iload_n hx hb dX9_entries_4 rfl (lv_at hl 3 rfl) ?_
      refine lv_iconst (v := 4) hx hb dX9_entries_5 (by decide) ?_
      refine lv_icmp_ge (tgt := 32) hx hb dX9_entries_6 (by decide) (fun hc => ?_) (fun hc => ?_)
      · replace h := oi_t hc h
        obtain rfl := os1 h
        exact kk _ (lv_sub hl [2] rfl)
      · replace h := oi_f hc h
        refine lv_iload_n hx hb dX9_entries_9 rfl (lv_at hl 2 rfl) ?_
        refine lv_aload_n hx hb dX9_entries_10 rfl (lv_at hl 0 rfl) ?_
        refine lv_iload_n hx hb dX9_entries_11 rfl (lv_at hl 1 rfl) ?_
        refine lv_iload_n hx hb dX9_entries_12 rfl (lv_at hl 3 rfl) ?_
        obtain ⟨r1, h2, h⟩ := obd_e h
        refine k_X9_isEmpty S aM_RX9_120 ⟨Nat.le_of_ble_eq_true rfl, Nat.le_of_ble_eq_true rfl⟩ ⟨Nat.zero_le _, Nat.zero_le _⟩ hP hK hDT h2 hl.1 (Nat.le_of_ble_eq_true rfl) dX9_entries_13 (fun br1 => ?_)
        refine lv_if_eq (tgt := 23) hx hb dX9_entries_16 (by decide) (fun hc => ?_) (fun hc => ?_)
        · replace h := oi_t hc h
          refine lv_iconst (v := 1) hx hb dX9_entries_23 (by decide) ?_
          refine lv_iadd hx hb dX9_entries_24 ?_
          refine lv_topi (fun x3 ex3 => ?_)
          replace h := olet_s ex3 h
          refine lv_istore_n (lv' := [(2, .int x3), (0, .ref (a 0)), (1, .int v1), (3, .int v3)]) hx hb dX9_entries_25 rfl hl (by decide) rfl (fun ls hl => ?_)
          refine lv_iinc (v := v3 + 1) (lv' := [(3, .int (v3 + 1)), (2, .int x3), (0, .ref (a 0)), (1, .int v1)]) hx hb dX9_entries_26 hl (k := 3) rfl (fm_inc _ _ _ (by decide)) (by decide) rfl (fun ls hl => ?_)
          refine lv_goto (tgt := 4) hx hb dX9_entries_29 (by decide) ?_
          exact ih _ _ _ _ _ h (lv_sub hl [2, 3, 1, 0] rfl) kk
        · replace h := oi_f hc h
          refine lv_iconst (v := 0) hx hb dX9_entries_19 (by decide) ?_
          refine lv_goto (tgt := 24) hx hb dX9_entries_20 (by decide) ?_
          refine lv_iadd hx hb dX9_entries_24 ?_
          refine lv_topi (fun x4 ex4 => ?_)
          replace h := olet_s ex4 h
          refine lv_istore_n (lv' := [(2, .int x4), (0, .ref (a 0)), (1, .int v1), (3, .int v3)]) hx hb dX9_entries_25 rfl hl (by decide) rfl (fun ls hl => ?_)
          refine lv_iinc (v := v3 + 1) (lv' := [(3, .int (v3 + 1)), (2, .int x4), (0, .ref (a 0)), (1, .int v1)]) hx hb dX9_entries_26 hl (k := 3) rfl (fm_inc _ _ _ (by decide)) (by decide) rfl (fun ls hl => ?_)
          refine lv_goto (tgt := 4) hx hb dX9_entries_29 (by decide) ?_
          exact ih _ _ _ _ _ h (lv_sub hl [2, 3, 1, 0] rfl) kk
  have h := hF
  unfold G_X9_entries at h
  refine lv_iconst (v := 0) hx hb dX9_entries_0 (by decide) ?_
  refine lv_istore_n (lv' := [(2, .int 0), (0, .ref (a 0)), (1, .int p1)]) hx hb dX9_entries_1 rfl hl (by decide) rfl (fun ls hl => ?_)
  refine lv_iconst (v := 0) hx hb dX9_entries_2 (by decide) ?_
  refine lv_istore_n (lv' := [(3, .int 0), (2, .int 0), (0, .ref (a 0)), (1, .int p1)]) hx hb dX9_entries_3 rfl hl (by decide) rfl (fun ls hl => ?_)
  obtain ⟨y5, h6, h⟩ := obd_e h
  refine hL4 N _ _ _ _ _ h6 (lv_sub hl [2, 3, 1, 0] rfl) (fun ls hl => ?_)
  refine lv_iload_n hx hb dX9_entries_32 rfl (lv_at hl 0 rfl) ?_
  obtain rfl := os1 h
  exact W.iret (v := y5) hx hb hr (fun t ht hW => ⟨_, rfl, rfl, ht⟩) (fun q hq => absurd hq List.not_mem_nil) dX9_entries_33
theorem k_X9_entries {p : Program} {l : Launch} {e : Env} {R : Room} {s : State} {m : MethodId} {args : Array Value} {below : List Frame} {meth : Method} {c : Code} {H : Heap} {locs : List Loc} {cells slots : Nat} {Q : State → Prop} {cc : ByteArray} {pc nL idx : Nat} {ls : Array Slot} {rest : List Value} {own : String} {D : va_G} {cI : ClassId} {a : Nat → Nat} {N : Nat} {φ : M2} {p1 : Int32} {hv : Int64} {r0 : Int32} (S : CallFix p m c cc nL s args AW own) (h1 : Cond.methodLink own idx yX9_entries ∈ AW) (hR : 2 + 1 ≤ R.frames ∧ 8 + (4 + 11) + 43 ≤ R.locals) (hc : cells ≤ R.cells ∧ slots ≤ R.slots) (hP : va_P D vwCl (mbW cI a φ hv) H) (hK : va_K D vwCl [(cI, .int)] s) (hDT : ∀ (φ2 : M2) (hv2 : Int64), va_D (fun _ => True) (mbW cI a φ2 hv2)) (hF : G_X9_entries N φ p1 = some r0) (hsz : ls.size = nL) (hW : (rest.map fun v => v.category).sum ≤ 8) (hdg : decode cc pc = .ok (.invokevirtual idx, 3)) (kk : W p l e R s m args below meth c H locs cells slots Q (F0 m (pc + 3) ls (.int r0 :: rest))) : W p l e R s m args below meth c H locs cells slots Q (F0 m pc ls (.int p1 :: .ref (a 0) :: rest)) :=
  fm_runV (n := 1) (C := RX9) (As := [.int p1]) S (c_X9_entries l D cI a N φ p1 hv r0 hF) (M_pre (q0 := 0) (ci := 7) hK hP (hDT _ _) rfl rfl) h1 aI_X9_entries aV_X9_entries aN_RX9 aC_X9_entries rfl rfl (by decide +kernel) rfl hR hc hsz hW hdg (fun r hr => by subst hr; exact kk)
set_option maxHeartbeats 4000000 in
set_option maxRecDepth 100000 in
theorem c_X9_infoOf (l : Launch) (D : va_G) (cI : ClassId) (a : Nat → Nat) (N : Nat) (φ : M2) (p1 : Int32) (hv : Int64) (r0 : Int32) (hF : G_X9_infoOf N φ p1 = some r0) : Met l yX9_infoOf (wsA yX9_infoOf cX9_infoOf 4 (some .int)) { frames := 3, cells := 0, slots := 0, locals := 66 } (va_Pc [.ref (a 0), .int p1] (mbP D cI a φ hv)) (vp_Si (fun r => r = r0)) 0 0 (fun _ => False) := by
  refine Met.ofW (cc := cX9_infoOf) (maxL := 4) (ret := (some .int)) (by decide) rfl ?_
  intro p e s m args below meth c s₁ B hml hpre
  obtain ⟨rfl, hP, hK, hD0⟩ := hpre
  have hx := B.exec
  have hb := B.bytes
  have hr := B.returns
  have hA : ∀ w ∈ AW, w.before _ s = true := fun w h => atoms_spec (ws := wsA yX9_infoOf cX9_infoOf 4 (some .int)) B.pre w (List.mem_cons_of_mem _ h)
  have hown : s.vm.findClass RX9 = some m.cls := findClass_of_methodNamed B.named
  have hlocks := B.notSynchronized
  have hDT := M_dT hD0
  have S : CallFix p m c cX9_infoOf 4 s ([.ref (a 0), .int p1] : List Value).toArray AW RX9 := ⟨hx, hb, hml, hown, hA⟩
  have hl := lv_entry ([.ref (a 0), .int p1]) (n := 4) (Nat.le_of_ble_eq_true rfl)
  rw [lg_entry_eq]
  generalize (lg_sl ([.ref (a 0), .int p1]) ++ List.replicate (4 - (lg_sl ([.ref (a 0), .int p1])).length) Slot.unset).toArray = ls at hl ⊢
  have hl : lv_has ls 4 [(0, .ref (a 0)), (1, .int p1)] := hl
  have hL61 : ∀ (k : Nat) (v2 : Int32) (v3 : Int32) (ls : Array Slot) (o2 : Int32), L_X9_infoOf_61 N φ k v2 v3 = some o2 → lv_has ls 4 [(0, .ref (a 0)), (2, .int v2), (3, .int v3)] → (∀ (ls1 : Array Slot), lv_has ls1 4 [(2, .int o2)] → W p l e (headSpec (wsA yX9_infoOf cX9_infoOf 4 (some .int)) { frames := 3, cells := 0, slots := 0, locals := 66 }).room s m ([.ref (a 0), .int p1] : List Value).toArray below meth c s.heap [] 0 0 (MQ below (vp_Si (fun r => r = r0)) ([.ref (a 0), .int p1] : List Value).toArray s 0 0 (fun _ => False)) (F0 m 81 ls1 [])) → W p l e (headSpec (wsA yX9_infoOf cX9_infoOf 4 (some .int)) { frames := 3, cells := 0, slots := 0, locals := 66 }).room s m ([.ref (a 0), .int p1] : List Value).toArray below meth c s.heap [] 0 0 (MQ below (vp_Si (fun r => r = r0)) ([.ref (a 0), .int p1] : List Value).toArray s 0 0 (fun _ => False)) (F0 m 61 ls []) := by
    intro k
    induction k with
    | zero =>
      intro v2 v3 ls o2 h hl kk
      exact no_s h
    | succ k ih =>
      intro v2 v3 ls o2 h hl kk
      replace h : B_X9_infoOf_61 N φ (L_X9_infoOf_61 N φ k) v2 v3 = some o2 := h
      unfold B_X9_infoOf_61 at h
      refine lv_iload_n hx hb dX9_infoOf_61 rfl (lv_at hl 2 rfl) ?_
      refine lv_bipush (v := 64) hx hb dX9_infoOf_62 (by decide) ?_
      refine lv_icmp_ge (tgt := 81) hx hb dX9_infoOf_64 (by decide) (fun hc => ?_) (fun hc => ?_)
      · replace h := oi_t hc h
        obtain rfl := os1 h
        exact kk _ (lv_sub hl [1] rfl)
      · replace h := oi_f hc h
        refine lv_iload_n hx hb dX9_infoOf_67 rfl (lv_at hl 1 rfl) ?_
        refine lv_aload_n hx hb dX9_infoOf_68 rfl (lv_at hl 0 rfl) ?_
        refine lv_iload_n hx hb dX9_infoOf_69 rfl (lv_at hl 2 rfl) ?_
        obtain ⟨r7, h8, h⟩ := obd_e h
        refine k_X9_entries S aM_RX9_238 ⟨Nat.le_of_ble_eq_true rfl, Nat.le_of_ble_eq_true rfl⟩ ⟨Nat.zero_le _, Nat.zero_le _⟩ hP hK hDT h8 hl.1 (Nat.le_of_ble_eq_true rfl) dX9_infoOf_70 ?_
        refine lv_iadd hx hb dX9_infoOf_73 ?_
        refine lv_topi (fun x9 ex9 => ?_)
        replace h := olet_s ex9 h
        refine lv_istore_n (lv' := [(2, .int x9), (0, .ref (a 0)), (3, .int v3)]) hx hb dX9_infoOf_74 rfl hl (by decide) rfl (fun ls hl => ?_)
        refine lv_iinc (v := v3 + 1) (lv' := [(3, .int (v3 + 1)), (2, .int x9), (0, .ref (a 0))]) hx hb dX9_infoOf_75 hl (k := 2) rfl (fm_inc _ _ _ (by decide)) (by decide) rfl (fun ls hl => ?_)
        refine lv_goto (tgt := 61) hx hb dX9_infoOf_78 (by decide) ?_
        exact ih _ _ _ _ h (lv_sub hl [2, 1, 0] rfl) kk
  have h := hF
  unfold G_X9_infoOf at h
  refine lv_iload_n hx hb dX9_infoOf_0 rfl (lv_at hl 1 rfl) ?_
  by_cases n0 : p1 = 0
  · replace h := oi_t n0 h
    refine lv_tableIn (tgt := 52) hx hb dX9_infoOf_1 (by rw [n0]; decide) (by rw [n0]; decide) (by rw [n0]; rfl) (by decide) ?_
    refine lv_aload_n hx hb dX9_infoOf_52 rfl (lv_at hl 0 rfl) ?_
    obtain ⟨r1, h2, h⟩ := obd_e h
    refine k_X9_buckets S aM_RX9_104 ⟨Nat.le_of_ble_eq_true rfl, Nat.le_of_ble_eq_true rfl⟩ ⟨Nat.zero_le _, Nat.zero_le _⟩ hP hK hDT h2 hl.1 (Nat.le_of_ble_eq_true rfl) dX9_infoOf_53 ?_
    obtain rfl := os1 h
    exact W.iret (v := r1) hx hb hr (fun t ht hW => ⟨_, rfl, rfl, ht⟩) (fun q hq => absurd hq List.not_mem_nil) dX9_infoOf_56
  · replace h := oi_f n0 h
    by_cases n1 : p1 = 1
    · replace h := oi_t n1 h
      refine lv_tableIn (tgt := 108) hx hb dX9_infoOf_1 (by rw [n1]; decide) (by rw [n1]; decide) (by rw [n1]; rfl) (by decide) ?_
      refine lv_aload_n hx hb dX9_infoOf_108 rfl (lv_at hl 0 rfl) ?_
      refine M_g0_0 hx hb hA hown aF_RX9_7 hK hP dX9_infoOf_109 ?_
      refine lv_iload_n hx hb dX9_infoOf_112 rfl (lv_at hl 1 rfl) ?_
      obtain ⟨i3, h⟩ := oin_e h
      refine M_ld1 hx hb hK hP i3 dX9_infoOf_113 ?_
      obtain rfl := os1 h
      exact W.iret (v := (φ 1 p1.toNatClampNeg)) hx hb hr (fun t ht hW => ⟨_, rfl, rfl, ht⟩) (fun q hq => absurd hq List.not_mem_nil) dX9_infoOf_114
    · replace h := oi_f n1 h
      by_cases n2 : p1 = 2
      · replace h := oi_t n2 h
        refine lv_tableIn (tgt := 108) hx hb dX9_infoOf_1 (by rw [n2]; decide) (by rw [n2]; decide) (by rw [n2]; rfl) (by decide) ?_
        refine lv_aload_n hx hb dX9_infoOf_108 rfl (lv_at hl 0 rfl) ?_
        refine M_g0_0 hx hb hA hown aF_RX9_7 hK hP dX9_infoOf_109 ?_
        refine lv_iload_n hx hb dX9_infoOf_112 rfl (lv_at hl 1 rfl) ?_
        obtain ⟨i4, h⟩ := oin_e h
        refine M_ld1 hx hb hK hP i4 dX9_infoOf_113 ?_
        obtain rfl := os1 h
        exact W.iret (v := (φ 1 p1.toNatClampNeg)) hx hb hr (fun t ht hW => ⟨_, rfl, rfl, ht⟩) (fun q hq => absurd hq List.not_mem_nil) dX9_infoOf_114
      · replace h := oi_f n2 h
        by_cases n3 : p1 = 3
        · replace h := oi_t n3 h
          refine lv_tableIn (tgt := 108) hx hb dX9_infoOf_1 (by rw [n3]; decide) (by rw [n3]; decide) (by rw [n3]; rfl) (by decide) ?_
          refine lv_aload_n hx hb dX9_infoOf_108 rfl (lv_at hl 0 rfl) ?_
          refine M_g0_0 hx hb hA hown aF_RX9_7 hK hP dX9_infoOf_109 ?_
          refine lv_iload_n hx hb dX9_infoOf_112 rfl (lv_at hl 1 rfl) ?_
          obtain ⟨i5, h⟩ := oin_e h
          refine M_ld1 hx hb hK hP i5 dX9_infoOf_113 ?_
          obtain rfl := os1 h
          exact W.iret (v := (φ 1 p1.toNatClampNeg)) hx hb hr (fun t ht hW => ⟨_, rfl, rfl, ht⟩) (fun q hq => absurd hq List.not_mem_nil) dX9_infoOf_114
        · replace h := oi_f n3 h
          by_cases n4 : p1 = 4
          · replace h := oi_t n4 h
            refine lv_tableIn (tgt := 108) hx hb dX9_infoOf_1 (by rw [n4]; decide) (by rw [n4]; decide) (by rw [n4]; rfl) (by decide) ?_
            refine lv_aload_n hx hb dX9_infoOf_108 rfl (lv_at hl 0 rfl) ?_
            refine M_g0_0 hx hb hA hown aF_RX9_7 hK hP dX9_infoOf_109 ?_
            refine lv_iload_n hx hb dX9_infoOf_112 rfl (lv_at hl 1 rfl) ?_
            obtain ⟨i6, h⟩ := oin_e h
            refine M_ld1 hx hb hK hP i6 dX9_infoOf_113 ?_
            obtain rfl := os1 h
            exact W.iret (v := (φ 1 p1.toNatClampNeg)) hx hb hr (fun t ht hW => ⟨_, rfl, rfl, ht⟩) (fun q hq => absurd hq List.not_mem_nil) dX9_infoOf_114
          · replace h := oi_f n4 h
            by_cases n5 : p1 = 5
            · replace h := oi_t n5 h
              refine lv_tableIn (tgt := 57) hx hb dX9_infoOf_1 (by rw [n5]; decide) (by rw [n5]; decide) (by rw [n5]; rfl) (by decide) ?_
              refine lv_iconst (v := 0) hx hb dX9_infoOf_57 (by decide) ?_
              refine lv_istore_n (lv' := [(2, .int 0), (0, .ref (a 0)), (1, .int p1)]) hx hb dX9_infoOf_58 rfl hl (by decide) rfl (fun ls hl => ?_)
              refine lv_iconst (v := 0) hx hb dX9_infoOf_59 (by decide) ?_
              refine lv_istore_n (lv' := [(3, .int 0), (2, .int 0), (0, .ref (a 0)), (1, .int p1)]) hx hb dX9_infoOf_60 rfl hl (by decide) rfl (fun ls hl => ?_)
              obtain ⟨y10, h11, h⟩ := obd_e h
              refine hL61 N _ _ _ _ h11 (lv_sub hl [2, 1, 0] rfl) (fun ls hl => ?_)
              refine lv_iload_n hx hb dX9_infoOf_81 rfl (lv_at hl 0 rfl) ?_
              obtain rfl := os1 h
              exact W.iret (v := y10) hx hb hr (fun t ht hW => ⟨_, rfl, rfl, ht⟩) (fun q hq => absurd hq List.not_mem_nil) dX9_infoOf_82
            · replace h := oi_f n5 h
              by_cases n6 : p1 = 6
              · replace h := oi_t n6 h
                refine lv_tableIn (tgt := 83) hx hb dX9_infoOf_1 (by rw [n6]; decide) (by rw [n6]; decide) (by rw [n6]; rfl) (by decide) ?_
                refine lv_aload_n hx hb dX9_infoOf_83 rfl (lv_at hl 0 rfl) ?_
                refine M_g0_0 hx hb hA hown aF_RX9_7 hK hP dX9_infoOf_84 ?_
                refine lv_iconst (v := 5) hx hb dX9_infoOf_87 (by decide) ?_
                obtain ⟨i12, h⟩ := oin_e h
                refine M_ld1 hx hb hK hP i12 dX9_infoOf_88 ?_
                obtain rfl := os1 h
                exact W.iret (v := (φ 1 (5 : Int32).toNatClampNeg)) hx hb hr (fun t ht hW => ⟨_, rfl, rfl, ht⟩) (fun q hq => absurd hq List.not_mem_nil) dX9_infoOf_89
              · replace h := oi_f n6 h
                by_cases n7 : p1 = 7
                · replace h := oi_t n7 h
                  refine lv_tableIn (tgt := 90) hx hb dX9_infoOf_1 (by rw [n7]; decide) (by rw [n7]; decide) (by rw [n7]; rfl) (by decide) ?_
                  refine lv_aload_n hx hb dX9_infoOf_90 rfl (lv_at hl 0 rfl) ?_
                  obtain ⟨r13, h14, h⟩ := obd_e h
                  refine k_X9_shortest S aM_RX9_188 ⟨Nat.le_of_ble_eq_true rfl, Nat.le_of_ble_eq_true rfl⟩ ⟨Nat.zero_le _, Nat.zero_le _⟩ hP hK hDT h14 hl.1 (Nat.le_of_ble_eq_true rfl) dX9_infoOf_91 ?_
                  obtain rfl := os1 h
                  exact W.iret (v := r13) hx hb hr (fun t ht hW => ⟨_, rfl, rfl, ht⟩) (fun q hq => absurd hq List.not_mem_nil) dX9_infoOf_94
                · replace h := oi_f n7 h
                  by_cases n8 : p1 = 8
                  · replace h := oi_t n8 h
                    refine lv_tableIn (tgt := 95) hx hb dX9_infoOf_1 (by rw [n8]; decide) (by rw [n8]; decide) (by rw [n8]; rfl) (by decide) ?_
                    refine lv_aload_n hx hb dX9_infoOf_95 rfl (lv_at hl 0 rfl) ?_
                    obtain ⟨r15, h16, h⟩ := obd_e h
                    refine k_X9_mayGrow S aM_RX9_224 ⟨Nat.le_of_ble_eq_true rfl, Nat.le_of_ble_eq_true rfl⟩ ⟨Nat.zero_le _, Nat.zero_le _⟩ hP hK hDT h16 hl.1 (Nat.le_of_ble_eq_true rfl) dX9_infoOf_96 (fun br15 => ?_)
                    refine lv_if_eq (tgt := 106) hx hb dX9_infoOf_99 (by decide) (fun hc => ?_) (fun hc => ?_)
                    · replace h := oi_t hc h
                      refine lv_iconst (v := 0) hx hb dX9_infoOf_106 (by decide) ?_
                      obtain rfl := os1 h
                      exact W.iret (v := 0) hx hb hr (fun t ht hW => ⟨_, rfl, rfl, ht⟩) (fun q hq => absurd hq List.not_mem_nil) dX9_infoOf_107
                    · replace h := oi_f hc h
                      refine lv_iconst (v := 1) hx hb dX9_infoOf_102 (by decide) ?_
                      refine lv_goto (tgt := 107) hx hb dX9_infoOf_103 (by decide) ?_
                      obtain rfl := os1 h
                      exact W.iret (v := 1) hx hb hr (fun t ht hW => ⟨_, rfl, rfl, ht⟩) (fun q hq => absurd hq List.not_mem_nil) dX9_infoOf_107
                  · replace h := oi_f n8 h
                    refine lv_tableOut (tgt := 108) hx hb dX9_infoOf_1 (fm_out8 n0 n1 n2 n3 n4 n5 n6 n7 n8) (by decide) ?_
                    refine lv_aload_n hx hb dX9_infoOf_108 rfl (lv_at hl 0 rfl) ?_
                    refine M_g0_0 hx hb hA hown aF_RX9_7 hK hP dX9_infoOf_109 ?_
                    refine lv_iload_n hx hb dX9_infoOf_112 rfl (lv_at hl 1 rfl) ?_
                    obtain ⟨i17, h⟩ := oin_e h
                    refine M_ld1 hx hb hK hP i17 dX9_infoOf_113 ?_
                    obtain rfl := os1 h
                    exact W.iret (v := (φ 1 p1.toNatClampNeg)) hx hb hr (fun t ht hW => ⟨_, rfl, rfl, ht⟩) (fun q hq => absurd hq List.not_mem_nil) dX9_infoOf_114
theorem k_X9_infoOf {p : Program} {l : Launch} {e : Env} {R : Room} {s : State} {m : MethodId} {args : Array Value} {below : List Frame} {meth : Method} {c : Code} {H : Heap} {locs : List Loc} {cells slots : Nat} {Q : State → Prop} {cc : ByteArray} {pc nL idx : Nat} {ls : Array Slot} {rest : List Value} {own : String} {D : va_G} {cI : ClassId} {a : Nat → Nat} {N : Nat} {φ : M2} {p1 : Int32} {hv : Int64} {r0 : Int32} (S : CallFix p m c cc nL s args AW own) (h1 : Cond.methodLink own idx yX9_infoOf ∈ AW) (hR : 3 + 1 ≤ R.frames ∧ 8 + (4 + 11) + 66 ≤ R.locals) (hc : cells ≤ R.cells ∧ slots ≤ R.slots) (hP : va_P D vwCl (mbW cI a φ hv) H) (hK : va_K D vwCl [(cI, .int)] s) (hDT : ∀ (φ2 : M2) (hv2 : Int64), va_D (fun _ => True) (mbW cI a φ2 hv2)) (hF : G_X9_infoOf N φ p1 = some r0) (hsz : ls.size = nL) (hW : (rest.map fun v => v.category).sum ≤ 8) (hdg : decode cc pc = .ok (.invokevirtual idx, 3)) (kk : W p l e R s m args below meth c H locs cells slots Q (F0 m (pc + 3) ls (.int r0 :: rest))) : W p l e R s m args below meth c H locs cells slots Q (F0 m pc ls (.int p1 :: .ref (a 0) :: rest)) :=
  fm_runV (n := 1) (C := RX9) (As := [.int p1]) S (c_X9_infoOf l D cI a N φ p1 hv r0 hF) (M_pre (q0 := 0) (ci := 7) hK hP (hDT _ _) rfl rfl) h1 aI_X9_infoOf aV_X9_infoOf aN_RX9 aC_X9_infoOf rfl rfl (by decide +kernel) rfl hR hc hsz hW hdg (fun r hr => by subst hr; exact kk)
set_option maxHeartbeats 4000000 in
set_option maxRecDepth 100000 in
theorem c_X9_info (l : Launch) (D : va_G) (cI : ClassId) (a : Nat → Nat) (N : Nat) (φ : M2) (p1 : Int32) (hv : Int64) (r0 : Int32) (φr : M2) (hF : G_X9_info N φ p1 = some (r0, φr)) : Met l yX9_info (wsA yX9_info cX9_info 2 (some .int)) { frames := 4, cells := 0, slots := 0, locals := 89 } (va_Pc [.ref (a 0), .int p1] (mbP D cI a φ hv)) (va_Qi (fun (r : Int32) (_ : Unit) => r = r0) (fun _ t => va_P D vwCl (mbW cI a φr hv) t.heap) (mbA a)) 0 0 (mbA a) := by
  refine Met.ofW (cc := cX9_info) (maxL := 2) (ret := (some .int)) (by decide) rfl ?_
  intro p e s m args below meth c s₁ B hml hpre
  obtain ⟨rfl, hP, hK, hD0⟩ := hpre
  have hx := B.exec
  have hb := B.bytes
  have hr := B.returns
  have hA : ∀ w ∈ AW, w.before _ s = true := fun w h => atoms_spec (ws := wsA yX9_info cX9_info 2 (some .int)) B.pre w (List.mem_cons_of_mem _ h)
  have hown : s.vm.findClass RX9 = some m.cls := findClass_of_methodNamed B.named
  have hlocks := B.notSynchronized
  have hDT := M_dT hD0
  have hDA := M_dA hD0
  have hS : va_S (mbA a) s.heap s.heap [] := va_S.rf
  have S : CallFix p m c cX9_info 2 s ([.ref (a 0), .int p1] : List Value).toArray AW RX9 := ⟨hx, hb, hml, hown, hA⟩
  have hl := lv_entry ([.ref (a 0), .int p1]) (n := 2) (Nat.le_of_ble_eq_true rfl)
  rw [lg_entry_eq]
  generalize (lg_sl ([.ref (a 0), .int p1]) ++ List.replicate (2 - (lg_sl ([.ref (a 0), .int p1])).length) Slot.unset).toArray = ls at hl ⊢
  have hl : lv_has ls 2 [(0, .ref (a 0)), (1, .int p1)] := hl
  have h := hF
  unfold G_X9_info at h
  refine lv_aload_n hx hb dX9_info_0 rfl (lv_at hl 0 rfl) ?_
  refine lv_iload_n hx hb dX9_info_1 rfl (lv_at hl 1 rfl) ?_
  refine lv_iconst (v := 0) hx hb dX9_info_2 (by decide) ?_
  refine lv_bipush (v := 8) hx hb dX9_info_3 (by decide) ?_
  refine k_X9_in S aM_RX9_78 ⟨Nat.le_of_ble_eq_true rfl, Nat.le_of_ble_eq_true rfl⟩ ⟨Nat.zero_le _, Nat.zero_le _⟩ hl.1 (Nat.le_of_ble_eq_true rfl) dX9_info_5 (fun r1 er1 br1 => ?_)
  replace h := olet_s er1 h
  refine lv_if_eq (tgt := 15) hx hb dX9_info_8 (by decide) (fun hc => ?_) (fun hc => ?_)
  · replace h := oi_t hc h
    refine lv_iconst (v := 1) hx hb dX9_info_15 (by decide) ?_
    refine M_p0_5 hx hb hA hown aF_RX9_64 hK hP (hDA _ _) hS dX9_info_16 (fun w2 H locs ew2 hP hS => ?_)
    replace h := olet_s ew2 h
    refine lv_aload_n hx hb dX9_info_19 rfl (lv_at hl 0 rfl) ?_
    refine M_g0_5 hx hb hA hown aF_RX9_64 hK hP dX9_info_20 ?_
    refine lv_if_eq (tgt := 30) hx hb dX9_info_23 (by decide) (fun hc => ?_) (fun hc => ?_)
    · replace h := oi_t hc h
      refine lv_aload_n hx hb dX9_info_30 rfl (lv_at hl 0 rfl) ?_
      refine lv_iload_n hx hb dX9_info_31 rfl (lv_at hl 1 rfl) ?_
      obtain ⟨r3, h4, h⟩ := obd_e h
      refine k_X9_infoOf S aM_RX9_241 ⟨Nat.le_of_ble_eq_true rfl, Nat.le_of_ble_eq_true rfl⟩ ⟨Nat.zero_le _, Nat.zero_le _⟩ hP hK hDT h4 hl.1 (Nat.le_of_ble_eq_true rfl) dX9_info_32 ?_
      obtain ⟨rfl, rfl⟩ := os2 h
      exact W.iret (v := r3) hx hb hr (fun t ht hW => ⟨⟨_, (), rfl, rfl, by show va_P _ _ _ t.heap; rw [ht]; exact hP⟩, hS.F ht⟩) hS.2.2 dX9_info_35
    · replace h := oi_f hc h
      refine lv_iconst (v := 0) hx hb dX9_info_26 (by decide) ?_
      refine lv_goto (tgt := 35) hx hb dX9_info_27 (by decide) ?_
      obtain ⟨rfl, rfl⟩ := os2 h
      exact W.iret (v := 0) hx hb hr (fun t ht hW => ⟨⟨_, (), rfl, rfl, by show va_P _ _ _ t.heap; rw [ht]; exact hP⟩, hS.F ht⟩) hS.2.2 dX9_info_35
  · replace h := oi_f hc h
    refine lv_iconst (v := 0) hx hb dX9_info_11 (by decide) ?_
    refine lv_goto (tgt := 16) hx hb dX9_info_12 (by decide) ?_
    refine M_p0_5 hx hb hA hown aF_RX9_64 hK hP (hDA _ _) hS dX9_info_16 (fun w5 H locs ew5 hP hS => ?_)
    replace h := olet_s ew5 h
    refine lv_aload_n hx hb dX9_info_19 rfl (lv_at hl 0 rfl) ?_
    refine M_g0_5 hx hb hA hown aF_RX9_64 hK hP dX9_info_20 ?_
    refine lv_if_eq (tgt := 30) hx hb dX9_info_23 (by decide) (fun hc => ?_) (fun hc => ?_)
    · replace h := oi_t hc h
      refine lv_aload_n hx hb dX9_info_30 rfl (lv_at hl 0 rfl) ?_
      refine lv_iload_n hx hb dX9_info_31 rfl (lv_at hl 1 rfl) ?_
      obtain ⟨r6, h7, h⟩ := obd_e h
      refine k_X9_infoOf S aM_RX9_241 ⟨Nat.le_of_ble_eq_true rfl, Nat.le_of_ble_eq_true rfl⟩ ⟨Nat.zero_le _, Nat.zero_le _⟩ hP hK hDT h7 hl.1 (Nat.le_of_ble_eq_true rfl) dX9_info_32 ?_
      obtain ⟨rfl, rfl⟩ := os2 h
      exact W.iret (v := r6) hx hb hr (fun t ht hW => ⟨⟨_, (), rfl, rfl, by show va_P _ _ _ t.heap; rw [ht]; exact hP⟩, hS.F ht⟩) hS.2.2 dX9_info_35
    · replace h := oi_f hc h
      refine lv_iconst (v := 0) hx hb dX9_info_26 (by decide) ?_
      refine lv_goto (tgt := 35) hx hb dX9_info_27 (by decide) ?_
      obtain ⟨rfl, rfl⟩ := os2 h
      exact W.iret (v := 0) hx hb hr (fun t ht hW => ⟨⟨_, (), rfl, rfl, by show va_P _ _ _ t.heap; rw [ht]; exact hP⟩, hS.F ht⟩) hS.2.2 dX9_info_35
theorem k_X9_info {p : Program} {l : Launch} {e : Env} {R : Room} {s : State} {m : MethodId} {args : Array Value} {below : List Frame} {meth : Method} {c : Code} {H : Heap} {locs : List Loc} {cells slots : Nat} {Q : State → Prop} {cc : ByteArray} {pc nL idx : Nat} {ls : Array Slot} {rest : List Value} {own : String} {D : va_G} {cI : ClassId} {a : Nat → Nat} {H0 : Heap} {N : Nat} {φ : M2} {p1 : Int32} {hv : Int64} {r0 : Int32} {φr : M2} (S : CallFix p m c cc nL s args AW own) (h1 : Cond.methodLink own idx yX9_info ∈ AW) (hR : 4 + 1 ≤ R.frames ∧ 8 + (2 + 11) + 89 ≤ R.locals) (hc : cells ≤ R.cells ∧ slots ≤ R.slots) (hP : va_P D vwCl (mbW cI a φ hv) H) (hK : va_K D vwCl [(cI, .int)] s) (hDT : ∀ (φ2 : M2) (hv2 : Int64), va_D (fun _ => True) (mbW cI a φ2 hv2)) (hS : va_S (mbA a) H0 H locs) (hF : G_X9_info N φ p1 = some (r0, φr)) (hsz : ls.size = nL) (hW : (rest.map fun v => v.category).sum ≤ 8) (hdg : decode cc pc = .ok (.invokevirtual idx, 3)) (kk : ∀ (H1 : Heap) (locs1 : List Loc), va_P D vwCl (mbW cI a φr hv) H1 → va_S (mbA a) H0 H1 locs1 → W p l e R s m args below meth c H1 locs1 cells slots Q (F0 m (pc + 3) ls (.int r0 :: rest))) : W p l e R s m args below meth c H locs cells slots Q (F0 m pc ls (.int p1 :: .ref (a 0) :: rest)) :=
  fm_runVi (n := 1) (C := RX9) (As := [.int p1]) S (c_X9_info l D cI a N φ p1 hv r0 φr hF) (M_pre (q0 := 0) (ci := 7) hK hP (hDT _ _) rfl rfl) hS h1 aI_X9_info aV_X9_info aN_RX9 aC_X9_info rfl rfl (by decide +kernel) rfl hR hc hsz hW hdg (fun r H1 locs1 hr hP1 hS1 => by subst hr; exact kk H1 locs1 hP1 hS1)
set_option maxHeartbeats 4000000 in
set_option maxRecDepth 100000 in
theorem c_X9_isSlot (l : Launch) (D : va_G) (cI : ClassId) (a : Nat → Nat) (φ : M2) (p1 : Int32) (p2 : Int32) (hv : Int64) (r0 : Int32) (hF : G_X9_isSlot φ p1 p2 = some r0) : Met l yX9_isSlot (wsA yX9_isSlot cX9_isSlot 3 (some .boolean)) { frames := 1, cells := 0, slots := 0, locals := 22 } (va_Pc [.ref (a 0), .int p1, .int p2] (mbP D cI a φ hv)) (vp_Si (fun r => r = r0 ∧ (r = 0 ∨ r = 1))) 0 0 (fun _ => False) := by
  refine Met.ofW (cc := cX9_isSlot) (maxL := 3) (ret := (some .boolean)) (by decide) rfl ?_
  intro p e s m args below meth c s₁ B hml hpre
  obtain ⟨rfl, hP, hK, hD0⟩ := hpre
  have hx := B.exec
  have hb := B.bytes
  have hr := B.returns
  have hA : ∀ w ∈ AW, w.before _ s = true := fun w h => atoms_spec (ws := wsA yX9_isSlot cX9_isSlot 3 (some .boolean)) B.pre w (List.mem_cons_of_mem _ h)
  have hown : s.vm.findClass RX9 = some m.cls := findClass_of_methodNamed B.named
  have hlocks := B.notSynchronized
  have hDT := M_dT hD0
  have S : CallFix p m c cX9_isSlot 3 s ([.ref (a 0), .int p1, .int p2] : List Value).toArray AW RX9 := ⟨hx, hb, hml, hown, hA⟩
  have hl := lv_entry ([.ref (a 0), .int p1, .int p2]) (n := 3) (Nat.le_of_ble_eq_true rfl)
  rw [lg_entry_eq]
  generalize (lg_sl ([.ref (a 0), .int p1, .int p2]) ++ List.replicate (3 - (lg_sl ([.ref (a 0), .int p1, .int p2])).length) Slot.unset).toArray = ls at hl ⊢
  have hl : lv_has ls 3 [(0, .ref (a 0)), (1, .int p1), (2, .int p2)] := hl
  have h := hF
  unfold G_X9_isSlot at h
  refine lv_iload_n hx hb dX9_isSlot_0 rfl (lv_at hl 1 rfl) ?_
  refine lv_iconst (v := 0) hx hb dX9_isSlot_1 (by decide) ?_
  refine lv_aload_n hx hb dX9_isSlot_2 rfl (lv_at hl 0 rfl) ?_
  obtain ⟨r1, h2, h⟩ := obd_e h
  refine k_X9_buckets S aM_RX9_104 ⟨Nat.le_of_ble_eq_true rfl, Nat.le_of_ble_eq_true rfl⟩ ⟨Nat.zero_le _, Nat.zero_le _⟩ hP hK hDT h2 hl.1 (Nat.le_of_ble_eq_true rfl) dX9_isSlot_3 ?_
  refine lv_iconst (v := 1) hx hb dX9_isSlot_6 (by decide) ?_
  refine lv_isub hx hb dX9_isSlot_7 ?_
  refine k_X9_in S aM_RX9_78 ⟨Nat.le_of_ble_eq_true rfl, Nat.le_of_ble_eq_true rfl⟩ ⟨Nat.zero_le _, Nat.zero_le _⟩ hl.1 (Nat.le_of_ble_eq_true rfl) dX9_isSlot_8 (fun r3 er3 br3 => ?_)
  replace h := olet_s er3 h
  refine lv_if_eq (tgt := 34) hx hb dX9_isSlot_11 (by decide) (fun hc => ?_) (fun hc => ?_)
  · replace h := oi_t hc h
    refine lv_iconst (v := 0) hx hb dX9_isSlot_34 (by decide) ?_
    obtain rfl := os1 h
    exact W.zret (v := 0) (ty := .boolean) hx hb hr rfl (fun t ht hW => ⟨_, rfl, ⟨rfl, (Or.inl rfl)⟩, ht⟩) (fun q hq => absurd hq List.not_mem_nil) dX9_isSlot_35
  · replace h := oi_f hc h
    refine lv_iload_n hx hb dX9_isSlot_14 rfl (lv_at hl 2 rfl) ?_
    refine lv_iconst (v := 0) hx hb dX9_isSlot_15 (by decide) ?_
    refine lv_aload_n hx hb dX9_isSlot_16 rfl (lv_at hl 0 rfl) ?_
    refine M_g0_0 hx hb hA hown aF_RX9_7 hK hP dX9_isSlot_17 ?_
    refine lv_iconst (v := 1) hx hb dX9_isSlot_20 (by decide) ?_
    obtain ⟨i4, h⟩ := oin_e h
    refine M_ld1 hx hb hK hP i4 dX9_isSlot_21 ?_
    refine lv_iconst (v := 1) hx hb dX9_isSlot_22 (by decide) ?_
    refine lv_isub hx hb dX9_isSlot_23 ?_
    refine k_X9_in S aM_RX9_78 ⟨Nat.le_of_ble_eq_true rfl, Nat.le_of_ble_eq_true rfl⟩ ⟨Nat.zero_le _, Nat.zero_le _⟩ hl.1 (Nat.le_of_ble_eq_true rfl) dX9_isSlot_24 (fun r5 er5 br5 => ?_)
    replace h := olet_s er5 h
    refine lv_if_eq (tgt := 34) hx hb dX9_isSlot_27 (by decide) (fun hc => ?_) (fun hc => ?_)
    · replace h := oi_t hc h
      refine lv_iconst (v := 0) hx hb dX9_isSlot_34 (by decide) ?_
      obtain rfl := os1 h
      exact W.zret (v := 0) (ty := .boolean) hx hb hr rfl (fun t ht hW => ⟨_, rfl, ⟨rfl, (Or.inl rfl)⟩, ht⟩) (fun q hq => absurd hq List.not_mem_nil) dX9_isSlot_35
    · replace h := oi_f hc h
      refine lv_iconst (v := 1) hx hb dX9_isSlot_30 (by decide) ?_
      refine lv_goto (tgt := 35) hx hb dX9_isSlot_31 (by decide) ?_
      obtain rfl := os1 h
      exact W.zret (v := 1) (ty := .boolean) hx hb hr rfl (fun t ht hW => ⟨_, rfl, ⟨rfl, (Or.inr rfl)⟩, ht⟩) (fun q hq => absurd hq List.not_mem_nil) dX9_isSlot_35
theorem k_X9_isSlot {p : Program} {l : Launch} {e : Env} {R : Room} {s : State} {m : MethodId} {args : Array Value} {below : List Frame} {meth : Method} {c : Code} {H : Heap} {locs : List Loc} {cells slots : Nat} {Q : State → Prop} {cc : ByteArray} {pc nL idx : Nat} {ls : Array Slot} {rest : List Value} {own : String} {D : va_G} {cI : ClassId} {a : Nat → Nat} {φ : M2} {p1 : Int32} {p2 : Int32} {hv : Int64} {r0 : Int32} (S : CallFix p m c cc nL s args AW own) (h1 : Cond.methodLink own idx yX9_isSlot ∈ AW) (hR : 1 + 1 ≤ R.frames ∧ 8 + (3 + 11) + 22 ≤ R.locals) (hc : cells ≤ R.cells ∧ slots ≤ R.slots) (hP : va_P D vwCl (mbW cI a φ hv) H) (hK : va_K D vwCl [(cI, .int)] s) (hDT : ∀ (φ2 : M2) (hv2 : Int64), va_D (fun _ => True) (mbW cI a φ2 hv2)) (hF : G_X9_isSlot φ p1 p2 = some r0) (hsz : ls.size = nL) (hW : (rest.map fun v => v.category).sum ≤ 8) (hdg : decode cc pc = .ok (.invokevirtual idx, 3)) (kk : (r0 = 0 ∨ r0 = 1) → W p l e R s m args below meth c H locs cells slots Q (F0 m (pc + 3) ls (.int r0 :: rest))) : W p l e R s m args below meth c H locs cells slots Q (F0 m pc ls (.int p2 :: .int p1 :: .ref (a 0) :: rest)) :=
  fm_runV (n := 2) (C := RX9) (As := [.int p1, .int p2]) S (c_X9_isSlot l D cI a φ p1 p2 hv r0 hF) (M_pre (q0 := 0) (ci := 7) hK hP (hDT _ _) rfl rfl) h1 aI_X9_isSlot aV_X9_isSlot aN_RX9 aC_X9_isSlot rfl rfl (by decide +kernel) rfl hR hc hsz hW hdg (fun r hr => by obtain ⟨rfl, hz⟩ := hr; exact kk hz)
set_option maxHeartbeats 4000000 in
set_option maxRecDepth 100000 in
theorem c_X9_slot (l : Launch) (D : va_G) (cI : ClassId) (a : Nat → Nat) (φ : M2) (p1 : Int32) (p2 : Int32) (p3 : Int32) (hv : Int64) (r0 : Int32) (φr : M2) (hF : G_X9_slot φ p1 p2 p3 = some (r0, φr)) : Met l yX9_slot (wsA yX9_slot cX9_slot 4 (some .int)) { frames := 2, cells := 0, slots := 0, locals := 44 } (va_Pc [.ref (a 0), .int p1, .int p2, .int p3] (mbP D cI a φ hv)) (va_Qi (fun (r : Int32) (_ : Unit) => r = r0) (fun _ t => va_P D vwCl (mbW cI a φr hv) t.heap) (mbA a)) 0 0 (mbA a) := by
  refine Met.ofW (cc := cX9_slot) (maxL := 4) (ret := (some .int)) (by decide) rfl ?_
  intro p e s m args below meth c s₁ B hml hpre
  obtain ⟨rfl, hP, hK, hD0⟩ := hpre
  have hx := B.exec
  have hb := B.bytes
  have hr := B.returns
  have hA : ∀ w ∈ AW, w.before _ s = true := fun w h => atoms_spec (ws := wsA yX9_slot cX9_slot 4 (some .int)) B.pre w (List.mem_cons_of_mem _ h)
  have hown : s.vm.findClass RX9 = some m.cls := findClass_of_methodNamed B.named
  have hlocks := B.notSynchronized
  have hDT := M_dT hD0
  have hDA := M_dA hD0
  have hS : va_S (mbA a) s.heap s.heap [] := va_S.rf
  have S : CallFix p m c cX9_slot 4 s ([.ref (a 0), .int p1, .int p2, .int p3] : List Value).toArray AW RX9 := ⟨hx, hb, hml, hown, hA⟩
  have hl := lv_entry ([.ref (a 0), .int p1, .int p2, .int p3]) (n := 4) (Nat.le_of_ble_eq_true rfl)
  rw [lg_entry_eq]
  generalize (lg_sl ([.ref (a 0), .int p1, .int p2, .int p3]) ++ List.replicate (4 - (lg_sl ([.ref (a 0), .int p1, .int p2, .int p3])).length) Slot.unset).toArray = ls at hl ⊢
  have hl : lv_has ls 4 [(0, .ref (a 0)), (1, .int p1), (2, .int p2), (3, .int p3)] := hl
  have hJ28 : ∀ (v1 : Int32) (v2 : Int32) (v3 : Int32) (s0 : Int32) (φ : M2) (H : Heap) (locs : List Loc) (ls : Array Slot), J_X9_slot_28 φ v1 v2 v3 s0 = some (r0, φr) → va_P D vwCl (mbW cI a φ hv) H → va_S (mbA a) s.heap H locs → lv_has ls 4 [(0, .ref (a 0)), (1, .int v1), (2, .int v2), (3, .int v3)] → W p l e (headSpec (wsA yX9_slot cX9_slot 4 (some .int)) { frames := 2, cells := 0, slots := 0, locals := 44 }).room s m ([.ref (a 0), .int p1, .int p2, .int p3] : List Value).toArray below meth c H locs 0 0 (MQ below (va_Qi (fun (r : Int32) (_ : Unit) => r = r0) (fun _ t => va_P D vwCl (mbW cI a φr hv) t.heap) (mbA a)) ([.ref (a 0), .int p1, .int p2, .int p3] : List Value).toArray s 0 0 (mbA a)) (F0 m 28 ls [.int s0, .ref (a 0)]) := by
    intro v1 v2 v3 s0 φ H locs ls h hP hS hl
    unfold J_X9_slot_28 at h
    refine M_p0_5 hx hb hA hown aF_RX9_64 hK hP (hDA _ _) hS dX9_slot_28 (fun w4 H locs ew4 hP hS => ?_)
    replace h := olet_s ew4 h
    refine lv_aload_n hx hb dX9_slot_31 rfl (lv_at hl 0 rfl) ?_
    refine M_g0_5 hx hb hA hown aF_RX9_64 hK hP dX9_slot_32 ?_
    refine lv_if_eq (tgt := 42) hx hb dX9_slot_35 (by decide) (fun hc => ?_) (fun hc => ?_)
    · replace h := oi_t hc h
      refine lv_aload_n hx hb dX9_slot_42 rfl (lv_at hl 0 rfl) ?_
      refine M_g0_0 hx hb hA hown aF_RX9_7 hK hP dX9_slot_43 ?_
      refine lv_iload_n hx hb dX9_slot_46 rfl (lv_at hl 1 rfl) ?_
      refine lv_iload_n hx hb dX9_slot_47 rfl (lv_at hl 2 rfl) ?_
      refine k_X9_at S aM_RX9_117 ⟨Nat.le_of_ble_eq_true rfl, Nat.le_of_ble_eq_true rfl⟩ ⟨Nat.zero_le _, Nat.zero_le _⟩ hl.1 (Nat.le_of_ble_eq_true rfl) dX9_slot_48 (fun r5 er5 => ?_)
      replace h := olet_s er5 h
      refine lv_iload_n hx hb dX9_slot_51 rfl (lv_at hl 3 rfl) ?_
      refine lv_iadd hx hb dX9_slot_52 ?_
      obtain ⟨i6, h⟩ := oin_e h
      refine M_ld1 hx hb hK hP i6 dX9_slot_53 ?_
      obtain ⟨rfl, rfl⟩ := os2 h
      exact W.iret (v := (w4 1 ((r5 + v3)).toNatClampNeg)) hx hb hr (fun t ht hW => ⟨⟨_, (), rfl, rfl, by show va_P _ _ _ t.heap; rw [ht]; exact hP⟩, hS.F ht⟩) hS.2.2 dX9_slot_54
    · replace h := oi_f hc h
      refine lv_iconst (v := 0) hx hb dX9_slot_38 (by decide) ?_
      refine lv_goto (tgt := 54) hx hb dX9_slot_39 (by decide) ?_
      obtain ⟨rfl, rfl⟩ := os2 h
      exact W.iret (v := 0) hx hb hr (fun t ht hW => ⟨⟨_, (), rfl, rfl, by show va_P _ _ _ t.heap; rw [ht]; exact hP⟩, hS.F ht⟩) hS.2.2 dX9_slot_54
  have h := hF
  unfold G_X9_slot at h
  refine lv_aload_n hx hb dX9_slot_0 rfl (lv_at hl 0 rfl) ?_
  refine lv_aload_n hx hb dX9_slot_1 rfl (lv_at hl 0 rfl) ?_
  refine lv_iload_n hx hb dX9_slot_2 rfl (lv_at hl 1 rfl) ?_
  refine lv_iload_n hx hb dX9_slot_3 rfl (lv_at hl 2 rfl) ?_
  obtain ⟨r1, h2, h⟩ := obd_e h
  refine k_X9_isSlot S aM_RX9_244 ⟨Nat.le_of_ble_eq_true rfl, Nat.le_of_ble_eq_true rfl⟩ ⟨Nat.zero_le _, Nat.zero_le _⟩ hP hK hDT h2 hl.1 (Nat.le_of_ble_eq_true rfl) dX9_slot_4 (fun br1 => ?_)
  refine lv_if_ne (tgt := 14) hx hb dX9_slot_7 (by decide) (fun hc => ?_) (fun hc => ?_)
  · replace h := oi_f hc h
    refine lv_iload_n hx hb dX9_slot_14 rfl (lv_at hl 3 rfl) ?_
    refine lv_iconst (v := 0) hx hb dX9_slot_15 (by decide) ?_
    refine lv_iconst (v := 3) hx hb dX9_slot_16 (by decide) ?_
    refine k_X9_in S aM_RX9_78 ⟨Nat.le_of_ble_eq_true rfl, Nat.le_of_ble_eq_true rfl⟩ ⟨Nat.zero_le _, Nat.zero_le _⟩ hl.1 (Nat.le_of_ble_eq_true rfl) dX9_slot_17 (fun r3 er3 br3 => ?_)
    replace h := olet_s er3 h
    refine lv_if_ne (tgt := 27) hx hb dX9_slot_20 (by decide) (fun hc => ?_) (fun hc => ?_)
    · replace h := oi_f hc h
      refine lv_iconst (v := 0) hx hb dX9_slot_27 (by decide) ?_
      exact hJ28 _ _ _ _ _ _ _ _ h hP hS (lv_sub hl [0, 1, 2, 3] rfl)
    · replace h := oi_t hc h
      refine lv_iconst (v := 2) hx hb dX9_slot_23 (by decide) ?_
      refine lv_goto (tgt := 28) hx hb dX9_slot_24 (by decide) ?_
      exact hJ28 _ _ _ _ _ _ _ _ h hP hS (lv_sub hl [0, 1, 2, 3] rfl)
  · replace h := oi_t hc h
    refine lv_iconst (v := 1) hx hb dX9_slot_10 (by decide) ?_
    refine lv_goto (tgt := 28) hx hb dX9_slot_11 (by decide) ?_
    exact hJ28 _ _ _ _ _ _ _ _ h hP hS (lv_sub hl [0, 1, 2, 3] rfl)
theorem k_X9_slot {p : Program} {l : Launch} {e : Env} {R : Room} {s : State} {m : MethodId} {args : Array Value} {below : List Frame} {meth : Method} {c : Code} {H : Heap} {locs : List Loc} {cells slots : Nat} {Q : State → Prop} {cc : ByteArray} {pc nL idx : Nat} {ls : Array Slot} {rest : List Value} {own : String} {D : va_G} {cI : ClassId} {a : Nat → Nat} {H0 : Heap} {φ : M2} {p1 : Int32} {p2 : Int32} {p3 : Int32} {hv : Int64} {r0 : Int32} {φr : M2} (S : CallFix p m c cc nL s args AW own) (h1 : Cond.methodLink own idx yX9_slot ∈ AW) (hR : 2 + 1 ≤ R.frames ∧ 8 + (4 + 11) + 44 ≤ R.locals) (hc : cells ≤ R.cells ∧ slots ≤ R.slots) (hP : va_P D vwCl (mbW cI a φ hv) H) (hK : va_K D vwCl [(cI, .int)] s) (hDT : ∀ (φ2 : M2) (hv2 : Int64), va_D (fun _ => True) (mbW cI a φ2 hv2)) (hS : va_S (mbA a) H0 H locs) (hF : G_X9_slot φ p1 p2 p3 = some (r0, φr)) (hsz : ls.size = nL) (hW : (rest.map fun v => v.category).sum ≤ 8) (hdg : decode cc pc = .ok (.invokevirtual idx, 3)) (kk : ∀ (H1 : Heap) (locs1 : List Loc), va_P D vwCl (mbW cI a φr hv) H1 → va_S (mbA a) H0 H1 locs1 → W p l e R s m args below meth c H1 locs1 cells slots Q (F0 m (pc + 3) ls (.int r0 :: rest))) : W p l e R s m args below meth c H locs cells slots Q (F0 m pc ls (.int p3 :: .int p2 :: .int p1 :: .ref (a 0) :: rest)) :=
  fm_runVi (n := 3) (C := RX9) (As := [.int p1, .int p2, .int p3]) S (c_X9_slot l D cI a φ p1 p2 p3 hv r0 φr hF) (M_pre (q0 := 0) (ci := 7) hK hP (hDT _ _) rfl rfl) hS h1 aI_X9_slot aV_X9_slot aN_RX9 aC_X9_slot rfl rfl (by decide +kernel) rfl hR hc hsz hW hdg (fun r H1 locs1 hr hP1 hS1 => by subst hr; exact kk H1 locs1 hP1 hS1)
set_option maxHeartbeats 4000000 in
set_option maxRecDepth 100000 in
theorem c_X9_stashed (l : Launch) (D : va_G) (cI : ClassId) (a : Nat → Nat) (φ : M2) (p1 : Int32) (p2 : Int32) (hv : Int64) (r0 : Int32) (φr : M2) (hF : G_X9_stashed φ p1 p2 = some (r0, φr)) : Met l yX9_stashed (wsA yX9_stashed cX9_stashed 3 (some .int)) { frames := 1, cells := 0, slots := 0, locals := 22 } (va_Pc [.ref (a 0), .int p1, .int p2] (mbP D cI a φ hv)) (va_Qi (fun (r : Int32) (_ : Unit) => r = r0) (fun _ t => va_P D vwCl (mbW cI a φr hv) t.heap) (mbA a)) 0 0 (mbA a) := by
  refine Met.ofW (cc := cX9_stashed) (maxL := 3) (ret := (some .int)) (by decide) rfl ?_
  intro p e s m args below meth c s₁ B hml hpre
  obtain ⟨rfl, hP, hK, hD0⟩ := hpre
  have hx := B.exec
  have hb := B.bytes
  have hr := B.returns
  have hA : ∀ w ∈ AW, w.before _ s = true := fun w h => atoms_spec (ws := wsA yX9_stashed cX9_stashed 3 (some .int)) B.pre w (List.mem_cons_of_mem _ h)
  have hown : s.vm.findClass RX9 = some m.cls := findClass_of_methodNamed B.named
  have hlocks := B.notSynchronized
  have hDT := M_dT hD0
  have hDA := M_dA hD0
  have hS : va_S (mbA a) s.heap s.heap [] := va_S.rf
  have S : CallFix p m c cX9_stashed 3 s ([.ref (a 0), .int p1, .int p2] : List Value).toArray AW RX9 := ⟨hx, hb, hml, hown, hA⟩
  have hl := lv_entry ([.ref (a 0), .int p1, .int p2]) (n := 3) (Nat.le_of_ble_eq_true rfl)
  rw [lg_entry_eq]
  generalize (lg_sl ([.ref (a 0), .int p1, .int p2]) ++ List.replicate (3 - (lg_sl ([.ref (a 0), .int p1, .int p2])).length) Slot.unset).toArray = ls at hl ⊢
  have hl : lv_has ls 3 [(0, .ref (a 0)), (1, .int p1), (2, .int p2)] := hl
  have hJ35 : ∀ (v1 : Int32) (v2 : Int32) (s0 : Int32) (φ : M2) (H : Heap) (locs : List Loc) (ls : Array Slot), J_X9_stashed_35 φ v1 v2 s0 = some (r0, φr) → va_P D vwCl (mbW cI a φ hv) H → va_S (mbA a) s.heap H locs → lv_has ls 3 [(0, .ref (a 0)), (1, .int v1), (2, .int v2)] → W p l e (headSpec (wsA yX9_stashed cX9_stashed 3 (some .int)) { frames := 1, cells := 0, slots := 0, locals := 22 }).room s m ([.ref (a 0), .int p1, .int p2] : List Value).toArray below meth c H locs 0 0 (MQ below (va_Qi (fun (r : Int32) (_ : Unit) => r = r0) (fun _ t => va_P D vwCl (mbW cI a φr hv) t.heap) (mbA a)) ([.ref (a 0), .int p1, .int p2] : List Value).toArray s 0 0 (mbA a)) (F0 m 35 ls [.int s0, .ref (a 0)]) := by
    intro v1 v2 s0 φ H locs ls h hP hS hl
    unfold J_X9_stashed_35 at h
    refine M_p0_5 hx hb hA hown aF_RX9_64 hK hP (hDA _ _) hS dX9_stashed_35 (fun w4 H locs ew4 hP hS => ?_)
    replace h := olet_s ew4 h
    refine lv_aload_n hx hb dX9_stashed_38 rfl (lv_at hl 0 rfl) ?_
    refine M_g0_5 hx hb hA hown aF_RX9_64 hK hP dX9_stashed_39 ?_
    refine lv_if_eq (tgt := 49) hx hb dX9_stashed_42 (by decide) (fun hc => ?_) (fun hc => ?_)
    · replace h := oi_t hc h
      refine lv_aload_n hx hb dX9_stashed_49 rfl (lv_at hl 0 rfl) ?_
      refine M_g0_0 hx hb hA hown aF_RX9_7 hK hP dX9_stashed_50 ?_
      refine lv_bipush (v := 6) hx hb dX9_stashed_53 (by decide) ?_
      refine lv_iconst (v := 4) hx hb dX9_stashed_55 (by decide) ?_
      refine lv_iload_n hx hb dX9_stashed_56 rfl (lv_at hl 1 rfl) ?_
      refine lv_imul hx hb dX9_stashed_57 ?_
      refine lv_iadd hx hb dX9_stashed_58 ?_
      refine lv_iload_n hx hb dX9_stashed_59 rfl (lv_at hl 2 rfl) ?_
      refine lv_iadd hx hb dX9_stashed_60 ?_
      obtain ⟨i5, h⟩ := oin_e h
      refine M_ld1 hx hb hK hP i5 dX9_stashed_61 ?_
      obtain ⟨rfl, rfl⟩ := os2 h
      exact W.iret (v := (w4 1 (((6 + (4 * v1)) + v2)).toNatClampNeg)) hx hb hr (fun t ht hW => ⟨⟨_, (), rfl, rfl, by show va_P _ _ _ t.heap; rw [ht]; exact hP⟩, hS.F ht⟩) hS.2.2 dX9_stashed_62
    · replace h := oi_f hc h
      refine lv_iconst (v := 0) hx hb dX9_stashed_45 (by decide) ?_
      refine lv_goto (tgt := 62) hx hb dX9_stashed_46 (by decide) ?_
      obtain ⟨rfl, rfl⟩ := os2 h
      exact W.iret (v := 0) hx hb hr (fun t ht hW => ⟨⟨_, (), rfl, rfl, by show va_P _ _ _ t.heap; rw [ht]; exact hP⟩, hS.F ht⟩) hS.2.2 dX9_stashed_62
  have h := hF
  unfold G_X9_stashed at h
  refine lv_aload_n hx hb dX9_stashed_0 rfl (lv_at hl 0 rfl) ?_
  refine lv_iload_n hx hb dX9_stashed_1 rfl (lv_at hl 1 rfl) ?_
  refine lv_iconst (v := 0) hx hb dX9_stashed_2 (by decide) ?_
  refine lv_aload_n hx hb dX9_stashed_3 rfl (lv_at hl 0 rfl) ?_
  refine M_g0_0 hx hb hA hown aF_RX9_7 hK hP dX9_stashed_4 ?_
  refine lv_iconst (v := 5) hx hb dX9_stashed_7 (by decide) ?_
  obtain ⟨i1, h⟩ := oin_e h
  refine M_ld1 hx hb hK hP i1 dX9_stashed_8 ?_
  refine lv_iconst (v := 1) hx hb dX9_stashed_9 (by decide) ?_
  refine lv_isub hx hb dX9_stashed_10 ?_
  refine k_X9_in S aM_RX9_78 ⟨Nat.le_of_ble_eq_true rfl, Nat.le_of_ble_eq_true rfl⟩ ⟨Nat.zero_le _, Nat.zero_le _⟩ hl.1 (Nat.le_of_ble_eq_true rfl) dX9_stashed_11 (fun r2 er2 br2 => ?_)
  replace h := olet_s er2 h
  refine lv_if_ne (tgt := 21) hx hb dX9_stashed_14 (by decide) (fun hc => ?_) (fun hc => ?_)
  · replace h := oi_f hc h
    refine lv_iload_n hx hb dX9_stashed_21 rfl (lv_at hl 2 rfl) ?_
    refine lv_iconst (v := 0) hx hb dX9_stashed_22 (by decide) ?_
    refine lv_iconst (v := 3) hx hb dX9_stashed_23 (by decide) ?_
    refine k_X9_in S aM_RX9_78 ⟨Nat.le_of_ble_eq_true rfl, Nat.le_of_ble_eq_true rfl⟩ ⟨Nat.zero_le _, Nat.zero_le _⟩ hl.1 (Nat.le_of_ble_eq_true rfl) dX9_stashed_24 (fun r3 er3 br3 => ?_)
    replace h := olet_s er3 h
    refine lv_if_ne (tgt := 34) hx hb dX9_stashed_27 (by decide) (fun hc => ?_) (fun hc => ?_)
    · replace h := oi_f hc h
      refine lv_iconst (v := 0) hx hb dX9_stashed_34 (by decide) ?_
      exact hJ35 _ _ _ _ _ _ _ h hP hS (lv_sub hl [0, 1, 2] rfl)
    · replace h := oi_t hc h
      refine lv_iconst (v := 2) hx hb dX9_stashed_30 (by decide) ?_
      refine lv_goto (tgt := 35) hx hb dX9_stashed_31 (by decide) ?_
      exact hJ35 _ _ _ _ _ _ _ h hP hS (lv_sub hl [0, 1, 2] rfl)
  · replace h := oi_t hc h
    refine lv_iconst (v := 1) hx hb dX9_stashed_17 (by decide) ?_
    refine lv_goto (tgt := 35) hx hb dX9_stashed_18 (by decide) ?_
    exact hJ35 _ _ _ _ _ _ _ h hP hS (lv_sub hl [0, 1, 2] rfl)
theorem k_X9_stashed {p : Program} {l : Launch} {e : Env} {R : Room} {s : State} {m : MethodId} {args : Array Value} {below : List Frame} {meth : Method} {c : Code} {H : Heap} {locs : List Loc} {cells slots : Nat} {Q : State → Prop} {cc : ByteArray} {pc nL idx : Nat} {ls : Array Slot} {rest : List Value} {own : String} {D : va_G} {cI : ClassId} {a : Nat → Nat} {H0 : Heap} {φ : M2} {p1 : Int32} {p2 : Int32} {hv : Int64} {r0 : Int32} {φr : M2} (S : CallFix p m c cc nL s args AW own) (h1 : Cond.methodLink own idx yX9_stashed ∈ AW) (hR : 1 + 1 ≤ R.frames ∧ 8 + (3 + 11) + 22 ≤ R.locals) (hc : cells ≤ R.cells ∧ slots ≤ R.slots) (hP : va_P D vwCl (mbW cI a φ hv) H) (hK : va_K D vwCl [(cI, .int)] s) (hDT : ∀ (φ2 : M2) (hv2 : Int64), va_D (fun _ => True) (mbW cI a φ2 hv2)) (hS : va_S (mbA a) H0 H locs) (hF : G_X9_stashed φ p1 p2 = some (r0, φr)) (hsz : ls.size = nL) (hW : (rest.map fun v => v.category).sum ≤ 8) (hdg : decode cc pc = .ok (.invokevirtual idx, 3)) (kk : ∀ (H1 : Heap) (locs1 : List Loc), va_P D vwCl (mbW cI a φr hv) H1 → va_S (mbA a) H0 H1 locs1 → W p l e R s m args below meth c H1 locs1 cells slots Q (F0 m (pc + 3) ls (.int r0 :: rest))) : W p l e R s m args below meth c H locs cells slots Q (F0 m pc ls (.int p2 :: .int p1 :: .ref (a 0) :: rest)) :=
  fm_runVi (n := 2) (C := RX9) (As := [.int p1, .int p2]) S (c_X9_stashed l D cI a φ p1 p2 hv r0 φr hF) (M_pre (q0 := 0) (ci := 7) hK hP (hDT _ _) rfl rfl) hS h1 aI_X9_stashed aV_X9_stashed aN_RX9 aC_X9_stashed rfl rfl (by decide +kernel) rfl hR hc hsz hW hdg (fun r H1 locs1 hr hP1 hS1 => by subst hr; exact kk H1 locs1 hP1 hS1)
set_option maxHeartbeats 4000000 in
set_option maxRecDepth 100000 in
theorem c_X9_filled (l : Launch) (D : va_G) (cI : ClassId) (a : Nat → Nat) (N : Nat) (φ : M2) (p1 : Int32) (hv : Int64) (r0 : Int32) (φr : M2) (hF : G_X9_filled N φ p1 = some (r0, φr)) : Met l yX9_filled (wsA yX9_filled cX9_filled 4 (some .int)) { frames := 3, cells := 0, slots := 0, locals := 66 } (va_Pc [.ref (a 0), .int p1] (mbP D cI a φ hv)) (va_Qi (fun (r : Int32) (_ : Unit) => r = r0) (fun _ t => va_P D vwCl (mbW cI a φr hv) t.heap) (mbA a)) 0 0 (mbA a) := by
  refine Met.ofW (cc := cX9_filled) (maxL := 4) (ret := (some .int)) (by decide) rfl ?_
  intro p e s m args below meth c s₁ B hml hpre
  obtain ⟨rfl, hP, hK, hD0⟩ := hpre
  have hx := B.exec
  have hb := B.bytes
  have hr := B.returns
  have hA : ∀ w ∈ AW, w.before _ s = true := fun w h => atoms_spec (ws := wsA yX9_filled cX9_filled 4 (some .int)) B.pre w (List.mem_cons_of_mem _ h)
  have hown : s.vm.findClass RX9 = some m.cls := findClass_of_methodNamed B.named
  have hlocks := B.notSynchronized
  have hDT := M_dT hD0
  have hDA := M_dA hD0
  have hS : va_S (mbA a) s.heap s.heap [] := va_S.rf
  have S : CallFix p m c cX9_filled 4 s ([.ref (a 0), .int p1] : List Value).toArray AW RX9 := ⟨hx, hb, hml, hown, hA⟩
  have hl := lv_entry ([.ref (a 0), .int p1]) (n := 4) (Nat.le_of_ble_eq_true rfl)
  rw [lg_entry_eq]
  generalize (lg_sl ([.ref (a 0), .int p1]) ++ List.replicate (4 - (lg_sl ([.ref (a 0), .int p1])).length) Slot.unset).toArray = ls at hl ⊢
  have hl : lv_has ls 4 [(0, .ref (a 0)), (1, .int p1)] := hl
  have hL31 : ∀ (k : Nat) (v1 : Int32) (v2 : Int32) (v3 : Int32) (φ : M2) (H : Heap) (locs : List Loc) (ls : Array Slot) (o2 : Int32), L_X9_filled_31 N φ v1 k v2 v3 = some o2 → va_P D vwCl (mbW cI a φ hv) H → va_S (mbA a) s.heap H locs → lv_has ls 4 [(0, .ref (a 0)), (1, .int v1), (2, .int v2), (3, .int v3)] → (∀ (H1 : Heap) (locs1 : List Loc) (ls1 : Array Slot), va_P D vwCl (mbW cI a φ hv) H1 → va_S (mbA a) s.heap H1 locs1 → lv_has ls1 4 [(2, .int o2)] → W p l e (headSpec (wsA yX9_filled cX9_filled 4 (some .int)) { frames := 3, cells := 0, slots := 0, locals := 66 }).room s m ([.ref (a 0), .int p1] : List Value).toArray below meth c H1 locs1 0 0 (MQ below (va_Qi (fun (r : Int32) (_ : Unit) => r = r0) (fun _ t => va_P D vwCl (mbW cI a φr hv) t.heap) (mbA a)) ([.ref (a 0), .int p1] : List Value).toArray s 0 0 (mbA a)) (F0 m 62 ls1 [])) → W p l e (headSpec (wsA yX9_filled cX9_filled 4 (some .int)) { frames := 3, cells := 0, slots := 0, locals := 66 }).room s m ([.ref (a 0), .int p1] : List Value).toArray below meth c H locs 0 0 (MQ below (va_Qi (fun (r : Int32) (_ : Unit) => r = r0) (fun _ t => va_P D vwCl (mbW cI a φr hv) t.heap) (mbA a)) ([.ref (a 0), .int p1] : List Value).toArray s 0 0 (mbA a)) (F0 m 31 ls []) := by
    intro k
    induction k with
    | zero =>
      intro v1 v2 v3 φ H locs ls o2 h hP hS hl kk
      exact no_s h
    | succ k ih =>
      intro v1 v2 v3 φ H locs ls o2 h hP hS hl kk
      replace h : B_X9_filled_31 N φ v1 (L_X9_filled_31 N φ v1 k) v2 v3 = some o2 := h
      unfold B_X9_filled_31 at h
      refine lv_iload_n hx hb dX9_filled_31 rfl (lv_at hl 3 rfl) ?_
      refine lv_aload_n hx hb dX9_filled_32 rfl (lv_at hl 0 rfl) ?_
      obtain ⟨r3, h4, h⟩ := obd_e h
      refine k_X9_buckets S aM_RX9_104 ⟨Nat.le_of_ble_eq_true rfl, Nat.le_of_ble_eq_true rfl⟩ ⟨Nat.zero_le _, Nat.zero_le _⟩ hP hK hDT h4 hl.1 (Nat.le_of_ble_eq_true rfl) dX9_filled_33 ?_
      refine lv_icmp_ge (tgt := 62) hx hb dX9_filled_36 (by decide) (fun hc => ?_) (fun hc => ?_)
      · replace h := oi_t hc h
        obtain rfl := os1 h
        exact kk _ _ _ hP hS (lv_sub hl [2] rfl)
      · replace h := oi_f hc h
        refine lv_iload_n hx hb dX9_filled_39 rfl (lv_at hl 2 rfl) ?_
        refine lv_aload_n hx hb dX9_filled_40 rfl (lv_at hl 0 rfl) ?_
        refine lv_iload_n hx hb dX9_filled_41 rfl (lv_at hl 3 rfl) ?_
        obtain ⟨r5, h6, h⟩ := obd_e h
        refine k_X9_entries S aM_RX9_238 ⟨Nat.le_of_ble_eq_true rfl, Nat.le_of_ble_eq_true rfl⟩ ⟨Nat.zero_le _, Nat.zero_le _⟩ hP hK hDT h6 hl.1 (Nat.le_of_ble_eq_true rfl) dX9_filled_42 ?_
        refine lv_iload_n hx hb dX9_filled_45 rfl (lv_at hl 1 rfl) ?_
        refine lv_icmp_ne (tgt := 53) hx hb dX9_filled_46 (by decide) (fun hc => ?_) (fun hc => ?_)
        · replace h := oi_f hc h
          refine lv_iconst (v := 0) hx hb dX9_filled_53 (by decide) ?_
          refine lv_iadd hx hb dX9_filled_54 ?_
          refine lv_topi (fun x7 ex7 => ?_)
          replace h := olet_s ex7 h
          refine lv_istore_n (lv' := [(2, .int x7), (0, .ref (a 0)), (1, .int v1), (3, .int v3)]) hx hb dX9_filled_55 rfl hl (by decide) rfl (fun ls hl => ?_)
          refine lv_iinc (v := v3 + 1) (lv' := [(3, .int (v3 + 1)), (2, .int x7), (0, .ref (a 0)), (1, .int v1)]) hx hb dX9_filled_56 hl (k := 3) rfl (fm_inc _ _ _ (by decide)) (by decide) rfl (fun ls hl => ?_)
          refine lv_goto (tgt := 31) hx hb dX9_filled_59 (by decide) ?_
          exact ih _ _ _ _ _ _ _ _ h hP hS (lv_sub hl [2, 3, 1, 0] rfl) kk
        · replace h := oi_t hc h
          refine lv_iconst (v := 1) hx hb dX9_filled_49 (by decide) ?_
          refine lv_goto (tgt := 54) hx hb dX9_filled_50 (by decide) ?_
          refine lv_iadd hx hb dX9_filled_54 ?_
          refine lv_topi (fun x8 ex8 => ?_)
          replace h := olet_s ex8 h
          refine lv_istore_n (lv' := [(2, .int x8), (0, .ref (a 0)), (1, .int v1), (3, .int v3)]) hx hb dX9_filled_55 rfl hl (by decide) rfl (fun ls hl => ?_)
          refine lv_iinc (v := v3 + 1) (lv' := [(3, .int (v3 + 1)), (2, .int x8), (0, .ref (a 0)), (1, .int v1)]) hx hb dX9_filled_56 hl (k := 3) rfl (fm_inc _ _ _ (by decide)) (by decide) rfl (fun ls hl => ?_)
          refine lv_goto (tgt := 31) hx hb dX9_filled_59 (by decide) ?_
          exact ih _ _ _ _ _ _ _ _ h hP hS (lv_sub hl [2, 3, 1, 0] rfl) kk
  have h := hF
  unfold G_X9_filled at h
  refine lv_aload_n hx hb dX9_filled_0 rfl (lv_at hl 0 rfl) ?_
  refine lv_iload_n hx hb dX9_filled_1 rfl (lv_at hl 1 rfl) ?_
  refine lv_iconst (v := 0) hx hb dX9_filled_2 (by decide) ?_
  refine lv_iconst (v := 4) hx hb dX9_filled_3 (by decide) ?_
  refine k_X9_in S aM_RX9_78 ⟨Nat.le_of_ble_eq_true rfl, Nat.le_of_ble_eq_true rfl⟩ ⟨Nat.zero_le _, Nat.zero_le _⟩ hl.1 (Nat.le_of_ble_eq_true rfl) dX9_filled_4 (fun r1 er1 br1 => ?_)
  replace h := olet_s er1 h
  refine lv_if_eq (tgt := 14) hx hb dX9_filled_7 (by decide) (fun hc => ?_) (fun hc => ?_)
  · replace h := oi_t hc h
    refine lv_iconst (v := 1) hx hb dX9_filled_14 (by decide) ?_
    refine M_p0_5 hx hb hA hown aF_RX9_64 hK hP (hDA _ _) hS dX9_filled_15 (fun w2 H locs ew2 hP hS => ?_)
    replace h := olet_s ew2 h
    refine lv_aload_n hx hb dX9_filled_18 rfl (lv_at hl 0 rfl) ?_
    refine M_g0_5 hx hb hA hown aF_RX9_64 hK hP dX9_filled_19 ?_
    refine lv_if_eq (tgt := 27) hx hb dX9_filled_22 (by decide) (fun hc => ?_) (fun hc => ?_)
    · replace h := oi_t hc h
      refine lv_iconst (v := 0) hx hb dX9_filled_27 (by decide) ?_
      refine lv_istore_n (lv' := [(2, .int 0), (0, .ref (a 0)), (1, .int p1)]) hx hb dX9_filled_28 rfl hl (by decide) rfl (fun ls hl => ?_)
      refine lv_iconst (v := 0) hx hb dX9_filled_29 (by decide) ?_
      refine lv_istore_n (lv' := [(3, .int 0), (2, .int 0), (0, .ref (a 0)), (1, .int p1)]) hx hb dX9_filled_30 rfl hl (by decide) rfl (fun ls hl => ?_)
      obtain ⟨y9, h10, h⟩ := obd_e h
      refine hL31 N _ _ _ _ _ _ _ _ h10 hP hS (lv_sub hl [2, 3, 1, 0] rfl) (fun H locs ls hP hS hl => ?_)
      refine lv_iload_n hx hb dX9_filled_62 rfl (lv_at hl 0 rfl) ?_
      obtain ⟨rfl, rfl⟩ := os2 h
      exact W.iret (v := y9) hx hb hr (fun t ht hW => ⟨⟨_, (), rfl, rfl, by show va_P _ _ _ t.heap; rw [ht]; exact hP⟩, hS.F ht⟩) hS.2.2 dX9_filled_63
    · replace h := oi_f hc h
      refine lv_iconst (v := 0) hx hb dX9_filled_25 (by decide) ?_
      obtain ⟨rfl, rfl⟩ := os2 h
      exact W.iret (v := 0) hx hb hr (fun t ht hW => ⟨⟨_, (), rfl, rfl, by show va_P _ _ _ t.heap; rw [ht]; exact hP⟩, hS.F ht⟩) hS.2.2 dX9_filled_26
  · replace h := oi_f hc h
    refine lv_iconst (v := 0) hx hb dX9_filled_10 (by decide) ?_
    refine lv_goto (tgt := 15) hx hb dX9_filled_11 (by decide) ?_
    refine M_p0_5 hx hb hA hown aF_RX9_64 hK hP (hDA _ _) hS dX9_filled_15 (fun w11 H locs ew11 hP hS => ?_)
    replace h := olet_s ew11 h
    refine lv_aload_n hx hb dX9_filled_18 rfl (lv_at hl 0 rfl) ?_
    refine M_g0_5 hx hb hA hown aF_RX9_64 hK hP dX9_filled_19 ?_
    refine lv_if_eq (tgt := 27) hx hb dX9_filled_22 (by decide) (fun hc => ?_) (fun hc => ?_)
    · replace h := oi_t hc h
      refine lv_iconst (v := 0) hx hb dX9_filled_27 (by decide) ?_
      refine lv_istore_n (lv' := [(2, .int 0), (0, .ref (a 0)), (1, .int p1)]) hx hb dX9_filled_28 rfl hl (by decide) rfl (fun ls hl => ?_)
      refine lv_iconst (v := 0) hx hb dX9_filled_29 (by decide) ?_
      refine lv_istore_n (lv' := [(3, .int 0), (2, .int 0), (0, .ref (a 0)), (1, .int p1)]) hx hb dX9_filled_30 rfl hl (by decide) rfl (fun ls hl => ?_)
      obtain ⟨y12, h13, h⟩ := obd_e h
      refine hL31 N _ _ _ _ _ _ _ _ h13 hP hS (lv_sub hl [2, 3, 1, 0] rfl) (fun H locs ls hP hS hl => ?_)
      refine lv_iload_n hx hb dX9_filled_62 rfl (lv_at hl 0 rfl) ?_
      obtain ⟨rfl, rfl⟩ := os2 h
      exact W.iret (v := y12) hx hb hr (fun t ht hW => ⟨⟨_, (), rfl, rfl, by show va_P _ _ _ t.heap; rw [ht]; exact hP⟩, hS.F ht⟩) hS.2.2 dX9_filled_63
    · replace h := oi_f hc h
      refine lv_iconst (v := 0) hx hb dX9_filled_25 (by decide) ?_
      obtain ⟨rfl, rfl⟩ := os2 h
      exact W.iret (v := 0) hx hb hr (fun t ht hW => ⟨⟨_, (), rfl, rfl, by show va_P _ _ _ t.heap; rw [ht]; exact hP⟩, hS.F ht⟩) hS.2.2 dX9_filled_26
theorem k_X9_filled {p : Program} {l : Launch} {e : Env} {R : Room} {s : State} {m : MethodId} {args : Array Value} {below : List Frame} {meth : Method} {c : Code} {H : Heap} {locs : List Loc} {cells slots : Nat} {Q : State → Prop} {cc : ByteArray} {pc nL idx : Nat} {ls : Array Slot} {rest : List Value} {own : String} {D : va_G} {cI : ClassId} {a : Nat → Nat} {H0 : Heap} {N : Nat} {φ : M2} {p1 : Int32} {hv : Int64} {r0 : Int32} {φr : M2} (S : CallFix p m c cc nL s args AW own) (h1 : Cond.methodLink own idx yX9_filled ∈ AW) (hR : 3 + 1 ≤ R.frames ∧ 8 + (4 + 11) + 66 ≤ R.locals) (hc : cells ≤ R.cells ∧ slots ≤ R.slots) (hP : va_P D vwCl (mbW cI a φ hv) H) (hK : va_K D vwCl [(cI, .int)] s) (hDT : ∀ (φ2 : M2) (hv2 : Int64), va_D (fun _ => True) (mbW cI a φ2 hv2)) (hS : va_S (mbA a) H0 H locs) (hF : G_X9_filled N φ p1 = some (r0, φr)) (hsz : ls.size = nL) (hW : (rest.map fun v => v.category).sum ≤ 8) (hdg : decode cc pc = .ok (.invokevirtual idx, 3)) (kk : ∀ (H1 : Heap) (locs1 : List Loc), va_P D vwCl (mbW cI a φr hv) H1 → va_S (mbA a) H0 H1 locs1 → W p l e R s m args below meth c H1 locs1 cells slots Q (F0 m (pc + 3) ls (.int r0 :: rest))) : W p l e R s m args below meth c H locs cells slots Q (F0 m pc ls (.int p1 :: .ref (a 0) :: rest)) :=
  fm_runVi (n := 1) (C := RX9) (As := [.int p1]) S (c_X9_filled l D cI a N φ p1 hv r0 φr hF) (M_pre (q0 := 0) (ci := 7) hK hP (hDT _ _) rfl rfl) hS h1 aI_X9_filled aV_X9_filled aN_RX9 aC_X9_filled rfl rfl (by decide +kernel) rfl hR hc hsz hW hdg (fun r H1 locs1 hr hP1 hS1 => by subst hr; exact kk H1 locs1 hP1 hS1)
set_option maxHeartbeats 4000000 in
set_option maxRecDepth 100000 in
theorem c_X9_wouldAdd (l : Launch) (D : va_G) (cI : ClassId) (a : Nat → Nat) (N : Nat) (φ : M2) (p1 : Int32) (hv : Int64) (r0 : Int32) (φr : M2) (hF : G_X9_wouldAdd N φ p1 = some (r0, φr)) : Met l yX9_wouldAdd (wsA yX9_wouldAdd cX9_wouldAdd 3 (some .int)) { frames := 6, cells := 0, slots := 0, locals := 133 } (va_Pc [.ref (a 0), .int p1] (mbP D cI a φ hv)) (va_Qi (fun (r : Int32) (_ : Unit) => r = r0) (fun _ t => va_P D vwCl (mbW cI a φr hv) t.heap) (mbA a)) 0 0 (mbA a) := by
  refine Met.ofW (cc := cX9_wouldAdd) (maxL := 3) (ret := (some .int)) (by decide) rfl ?_
  intro p e s m args below meth c s₁ B hml hpre
  obtain ⟨rfl, hP, hK, hD0⟩ := hpre
  have hx := B.exec
  have hb := B.bytes
  have hr := B.returns
  have hA : ∀ w ∈ AW, w.before _ s = true := fun w h => atoms_spec (ws := wsA yX9_wouldAdd cX9_wouldAdd 3 (some .int)) B.pre w (List.mem_cons_of_mem _ h)
  have hown : s.vm.findClass RX9 = some m.cls := findClass_of_methodNamed B.named
  have hlocks := B.notSynchronized
  have hDT := M_dT hD0
  have hDA := M_dA hD0
  have hS : va_S (mbA a) s.heap s.heap [] := va_S.rf
  have S : CallFix p m c cX9_wouldAdd 3 s ([.ref (a 0), .int p1] : List Value).toArray AW RX9 := ⟨hx, hb, hml, hown, hA⟩
  have hl := lv_entry ([.ref (a 0), .int p1]) (n := 3) (Nat.le_of_ble_eq_true rfl)
  rw [lg_entry_eq]
  generalize (lg_sl ([.ref (a 0), .int p1]) ++ List.replicate (3 - (lg_sl ([.ref (a 0), .int p1])).length) Slot.unset).toArray = ls at hl ⊢
  have hl : lv_has ls 3 [(0, .ref (a 0)), (1, .int p1)] := hl
  have h := hF
  unfold G_X9_wouldAdd at h
  refine lv_aload_n hx hb dX9_wouldAdd_0 rfl (lv_at hl 0 rfl) ?_
  refine lv_iconst (v := 4) hx hb dX9_wouldAdd_1 (by decide) ?_
  obtain ⟨w1, h2, h⟩ := obd_e h
  refine k_X9_copy S aM_RX9_74 ⟨Nat.le_of_ble_eq_true rfl, Nat.le_of_ble_eq_true rfl⟩ ⟨Nat.zero_le _, Nat.zero_le _⟩ hP hK hDT hS h2 hl.1 (Nat.le_of_ble_eq_true rfl) dX9_wouldAdd_2 (fun H locs hP hS => ?_)
  refine lv_aload_n hx hb dX9_wouldAdd_5 rfl (lv_at hl 0 rfl) ?_
  refine lv_iload_n hx hb dX9_wouldAdd_6 rfl (lv_at hl 1 rfl) ?_
  obtain ⟨r5, w3, h4, h⟩ := obd2_e h
  refine k_X9_addEntry S aM_RX9_191 ⟨Nat.le_of_ble_eq_true rfl, Nat.le_of_ble_eq_true rfl⟩ ⟨Nat.zero_le _, Nat.zero_le _⟩ hP hK hDT hS h4 hl.1 (Nat.le_of_ble_eq_true rfl) dX9_wouldAdd_7 (fun H locs hP hS => ?_)
  refine lv_istore_n (lv' := [(2, .int r5), (0, .ref (a 0)), (1, .int p1)]) hx hb dX9_wouldAdd_10 rfl hl (by decide) rfl (fun ls hl => ?_)
  refine lv_aload_n hx hb dX9_wouldAdd_11 rfl (lv_at hl 1 rfl) ?_
  refine lv_iconst (v := 4) hx hb dX9_wouldAdd_12 (by decide) ?_
  obtain ⟨w6, h7, h⟩ := obd_e h
  refine k_X9_layBack S aM_RX9_206 ⟨Nat.le_of_ble_eq_true rfl, Nat.le_of_ble_eq_true rfl⟩ ⟨Nat.zero_le _, Nat.zero_le _⟩ hP hK hDT hS h7 hl.1 (Nat.le_of_ble_eq_true rfl) dX9_wouldAdd_13 (fun H locs hP hS => ?_)
  refine lv_iload_n hx hb dX9_wouldAdd_16 rfl (lv_at hl 0 rfl) ?_
  obtain ⟨rfl, rfl⟩ := os2 h
  exact W.iret (v := r5) hx hb hr (fun t ht hW => ⟨⟨_, (), rfl, rfl, by show va_P _ _ _ t.heap; rw [ht]; exact hP⟩, hS.F ht⟩) hS.2.2 dX9_wouldAdd_17
theorem k_X9_wouldAdd {p : Program} {l : Launch} {e : Env} {R : Room} {s : State} {m : MethodId} {args : Array Value} {below : List Frame} {meth : Method} {c : Code} {H : Heap} {locs : List Loc} {cells slots : Nat} {Q : State → Prop} {cc : ByteArray} {pc nL idx : Nat} {ls : Array Slot} {rest : List Value} {own : String} {D : va_G} {cI : ClassId} {a : Nat → Nat} {H0 : Heap} {N : Nat} {φ : M2} {p1 : Int32} {hv : Int64} {r0 : Int32} {φr : M2} (S : CallFix p m c cc nL s args AW own) (h1 : Cond.methodLink own idx yX9_wouldAdd ∈ AW) (hR : 6 + 1 ≤ R.frames ∧ 8 + (3 + 11) + 133 ≤ R.locals) (hc : cells ≤ R.cells ∧ slots ≤ R.slots) (hP : va_P D vwCl (mbW cI a φ hv) H) (hK : va_K D vwCl [(cI, .int)] s) (hDT : ∀ (φ2 : M2) (hv2 : Int64), va_D (fun _ => True) (mbW cI a φ2 hv2)) (hS : va_S (mbA a) H0 H locs) (hF : G_X9_wouldAdd N φ p1 = some (r0, φr)) (hsz : ls.size = nL) (hW : (rest.map fun v => v.category).sum ≤ 8) (hdg : decode cc pc = .ok (.invokevirtual idx, 3)) (kk : ∀ (H1 : Heap) (locs1 : List Loc), va_P D vwCl (mbW cI a φr hv) H1 → va_S (mbA a) H0 H1 locs1 → W p l e R s m args below meth c H1 locs1 cells slots Q (F0 m (pc + 3) ls (.int r0 :: rest))) : W p l e R s m args below meth c H locs cells slots Q (F0 m pc ls (.int p1 :: .ref (a 0) :: rest)) :=
  fm_runVi (n := 1) (C := RX9) (As := [.int p1]) S (c_X9_wouldAdd l D cI a N φ p1 hv r0 φr hF) (M_pre (q0 := 0) (ci := 7) hK hP (hDT _ _) rfl rfl) hS h1 aI_X9_wouldAdd aV_X9_wouldAdd aN_RX9 aC_X9_wouldAdd rfl rfl (by decide +kernel) rfl hR hc hsz hW hdg (fun r H1 locs1 hr hP1 hS1 => by subst hr; exact kk H1 locs1 hP1 hS1)
set_option maxHeartbeats 4000000 in
set_option maxRecDepth 100000 in
theorem c_X9_walk (l : Launch) (D : va_G) (cI : ClassId) (a : Nat → Nat) (N : Nat) (φ : M2) (p1 : Int32) (hv : Int64) (r0 : Int32) (φr : M2) (hF : G_X9_walk N φ p1 = some (r0, φr)) : Met l yX9_walk (wsA yX9_walk cX9_walk 2 (some .int)) { frames := 7, cells := 0, slots := 0, locals := 155 } (va_Pc [.ref (a 0), .int p1] (mbP D cI a φ hv)) (va_Qi (fun (r : Int32) (_ : Unit) => r = r0) (fun _ t => va_P D vwCl (mbW cI a φr hv) t.heap) (mbA a)) 0 0 (mbA a) := by
  refine Met.ofW (cc := cX9_walk) (maxL := 2) (ret := (some .int)) (by decide) rfl ?_
  intro p e s m args below meth c s₁ B hml hpre
  obtain ⟨rfl, hP, hK, hD0⟩ := hpre
  have hx := B.exec
  have hb := B.bytes
  have hr := B.returns
  have hA : ∀ w ∈ AW, w.before _ s = true := fun w h => atoms_spec (ws := wsA yX9_walk cX9_walk 2 (some .int)) B.pre w (List.mem_cons_of_mem _ h)
  have hown : s.vm.findClass RX9 = some m.cls := findClass_of_methodNamed B.named
  have hlocks := B.notSynchronized
  have hDT := M_dT hD0
  have hDA := M_dA hD0
  have hS : va_S (mbA a) s.heap s.heap [] := va_S.rf
  have S : CallFix p m c cX9_walk 2 s ([.ref (a 0), .int p1] : List Value).toArray AW RX9 := ⟨hx, hb, hml, hown, hA⟩
  have hl := lv_entry ([.ref (a 0), .int p1]) (n := 2) (Nat.le_of_ble_eq_true rfl)
  rw [lg_entry_eq]
  generalize (lg_sl ([.ref (a 0), .int p1]) ++ List.replicate (2 - (lg_sl ([.ref (a 0), .int p1])).length) Slot.unset).toArray = ls at hl ⊢
  have hl : lv_has ls 2 [(0, .ref (a 0)), (1, .int p1)] := hl
  have h := hF
  unfold G_X9_walk at h
  refine lv_aload_n hx hb dX9_walk_0 rfl (lv_at hl 0 rfl) ?_
  refine lv_iload_n hx hb dX9_walk_1 rfl (lv_at hl 1 rfl) ?_
  refine k_X9_isKey S aM_RX9_194 ⟨Nat.le_of_ble_eq_true rfl, Nat.le_of_ble_eq_true rfl⟩ ⟨Nat.zero_le _, Nat.zero_le _⟩ hl.1 (Nat.le_of_ble_eq_true rfl) dX9_walk_2 (fun r1 er1 br1 => ?_)
  replace h := olet_s er1 h
  refine lv_if_eq (tgt := 12) hx hb dX9_walk_5 (by decide) (fun hc => ?_) (fun hc => ?_)
  · replace h := oi_t hc h
    refine lv_iconst (v := 1) hx hb dX9_walk_12 (by decide) ?_
    refine M_p0_5 hx hb hA hown aF_RX9_64 hK hP (hDA _ _) hS dX9_walk_13 (fun w2 H locs ew2 hP hS => ?_)
    replace h := olet_s ew2 h
    refine lv_aload_n hx hb dX9_walk_16 rfl (lv_at hl 0 rfl) ?_
    refine M_g0_5 hx hb hA hown aF_RX9_64 hK hP dX9_walk_17 ?_
    refine lv_if_eq (tgt := 27) hx hb dX9_walk_20 (by decide) (fun hc => ?_) (fun hc => ?_)
    · replace h := oi_t hc h
      refine lv_aload_n hx hb dX9_walk_27 rfl (lv_at hl 0 rfl) ?_
      refine lv_iload_n hx hb dX9_walk_28 rfl (lv_at hl 1 rfl) ?_
      obtain ⟨r5, w3, h4, h⟩ := obd2_e h
      refine k_X9_wouldAdd S aM_RX9_247 ⟨Nat.le_of_ble_eq_true rfl, Nat.le_of_ble_eq_true rfl⟩ ⟨Nat.zero_le _, Nat.zero_le _⟩ hP hK hDT hS h4 hl.1 (Nat.le_of_ble_eq_true rfl) dX9_walk_29 (fun H locs hP hS => ?_)
      obtain ⟨rfl, rfl⟩ := os2 h
      exact W.iret (v := r5) hx hb hr (fun t ht hW => ⟨⟨_, (), rfl, rfl, by show va_P _ _ _ t.heap; rw [ht]; exact hP⟩, hS.F ht⟩) hS.2.2 dX9_walk_32
    · replace h := oi_f hc h
      refine lv_iconst (v := 0) hx hb dX9_walk_23 (by decide) ?_
      refine lv_goto (tgt := 32) hx hb dX9_walk_24 (by decide) ?_
      obtain ⟨rfl, rfl⟩ := os2 h
      exact W.iret (v := 0) hx hb hr (fun t ht hW => ⟨⟨_, (), rfl, rfl, by show va_P _ _ _ t.heap; rw [ht]; exact hP⟩, hS.F ht⟩) hS.2.2 dX9_walk_32
  · replace h := oi_f hc h
    refine lv_iconst (v := 0) hx hb dX9_walk_8 (by decide) ?_
    refine lv_goto (tgt := 13) hx hb dX9_walk_9 (by decide) ?_
    refine M_p0_5 hx hb hA hown aF_RX9_64 hK hP (hDA _ _) hS dX9_walk_13 (fun w6 H locs ew6 hP hS => ?_)
    replace h := olet_s ew6 h
    refine lv_aload_n hx hb dX9_walk_16 rfl (lv_at hl 0 rfl) ?_
    refine M_g0_5 hx hb hA hown aF_RX9_64 hK hP dX9_walk_17 ?_
    refine lv_if_eq (tgt := 27) hx hb dX9_walk_20 (by decide) (fun hc => ?_) (fun hc => ?_)
    · replace h := oi_t hc h
      refine lv_aload_n hx hb dX9_walk_27 rfl (lv_at hl 0 rfl) ?_
      refine lv_iload_n hx hb dX9_walk_28 rfl (lv_at hl 1 rfl) ?_
      obtain ⟨r9, w7, h8, h⟩ := obd2_e h
      refine k_X9_wouldAdd S aM_RX9_247 ⟨Nat.le_of_ble_eq_true rfl, Nat.le_of_ble_eq_true rfl⟩ ⟨Nat.zero_le _, Nat.zero_le _⟩ hP hK hDT hS h8 hl.1 (Nat.le_of_ble_eq_true rfl) dX9_walk_29 (fun H locs hP hS => ?_)
      obtain ⟨rfl, rfl⟩ := os2 h
      exact W.iret (v := r9) hx hb hr (fun t ht hW => ⟨⟨_, (), rfl, rfl, by show va_P _ _ _ t.heap; rw [ht]; exact hP⟩, hS.F ht⟩) hS.2.2 dX9_walk_32
    · replace h := oi_f hc h
      refine lv_iconst (v := 0) hx hb dX9_walk_23 (by decide) ?_
      refine lv_goto (tgt := 32) hx hb dX9_walk_24 (by decide) ?_
      obtain ⟨rfl, rfl⟩ := os2 h
      exact W.iret (v := 0) hx hb hr (fun t ht hW => ⟨⟨_, (), rfl, rfl, by show va_P _ _ _ t.heap; rw [ht]; exact hP⟩, hS.F ht⟩) hS.2.2 dX9_walk_32
theorem k_X9_walk {p : Program} {l : Launch} {e : Env} {R : Room} {s : State} {m : MethodId} {args : Array Value} {below : List Frame} {meth : Method} {c : Code} {H : Heap} {locs : List Loc} {cells slots : Nat} {Q : State → Prop} {cc : ByteArray} {pc nL idx : Nat} {ls : Array Slot} {rest : List Value} {own : String} {D : va_G} {cI : ClassId} {a : Nat → Nat} {H0 : Heap} {N : Nat} {φ : M2} {p1 : Int32} {hv : Int64} {r0 : Int32} {φr : M2} (S : CallFix p m c cc nL s args AW own) (h1 : Cond.methodLink own idx yX9_walk ∈ AW) (hR : 7 + 1 ≤ R.frames ∧ 8 + (2 + 11) + 155 ≤ R.locals) (hc : cells ≤ R.cells ∧ slots ≤ R.slots) (hP : va_P D vwCl (mbW cI a φ hv) H) (hK : va_K D vwCl [(cI, .int)] s) (hDT : ∀ (φ2 : M2) (hv2 : Int64), va_D (fun _ => True) (mbW cI a φ2 hv2)) (hS : va_S (mbA a) H0 H locs) (hF : G_X9_walk N φ p1 = some (r0, φr)) (hsz : ls.size = nL) (hW : (rest.map fun v => v.category).sum ≤ 8) (hdg : decode cc pc = .ok (.invokevirtual idx, 3)) (kk : ∀ (H1 : Heap) (locs1 : List Loc), va_P D vwCl (mbW cI a φr hv) H1 → va_S (mbA a) H0 H1 locs1 → W p l e R s m args below meth c H1 locs1 cells slots Q (F0 m (pc + 3) ls (.int r0 :: rest))) : W p l e R s m args below meth c H locs cells slots Q (F0 m pc ls (.int p1 :: .ref (a 0) :: rest)) :=
  fm_runVi (n := 1) (C := RX9) (As := [.int p1]) S (c_X9_walk l D cI a N φ p1 hv r0 φr hF) (M_pre (q0 := 0) (ci := 7) hK hP (hDT _ _) rfl rfl) hS h1 aI_X9_walk aV_X9_walk aN_RX9 aC_X9_walk rfl rfl (by decide +kernel) rfl hR hc hsz hW hdg (fun r H1 locs1 hr hP1 hS1 => by subst hr; exact kk H1 locs1 hP1 hS1)
set_option maxHeartbeats 4000000 in
set_option maxRecDepth 100000 in
theorem c_X9_walkStep (l : Launch) (D : va_G) (cI : ClassId) (a : Nat → Nat) (N : Nat) (φ : M2) (p1 : Int32) (p2 : Int32) (p3 : Int32) (hv : Int64) (r0 : Int32) (φr : M2) (hF : G_X9_walkStep N φ p1 p2 p3 = some (r0, φr)) : Met l yX9_walkStep (wsA yX9_walkStep cX9_walkStep 5 (some .int)) { frames := 7, cells := 0, slots := 0, locals := 155 } (va_Pc [.ref (a 0), .int p1, .int p2, .int p3] (mbP D cI a φ hv)) (va_Qi (fun (r : Int32) (_ : Unit) => r = r0) (fun _ t => va_P D vwCl (mbW cI a φr hv) t.heap) (mbA a)) 0 0 (mbA a) := by
  refine Met.ofW (cc := cX9_walkStep) (maxL := 5) (ret := (some .int)) (by decide) rfl ?_
  intro p e s m args below meth c s₁ B hml hpre
  obtain ⟨rfl, hP, hK, hD0⟩ := hpre
  have hx := B.exec
  have hb := B.bytes
  have hr := B.returns
  have hA : ∀ w ∈ AW, w.before _ s = true := fun w h => atoms_spec (ws := wsA yX9_walkStep cX9_walkStep 5 (some .int)) B.pre w (List.mem_cons_of_mem _ h)
  have hown : s.vm.findClass RX9 = some m.cls := findClass_of_methodNamed B.named
  have hlocks := B.notSynchronized
  have hDT := M_dT hD0
  have hDA := M_dA hD0
  have hS : va_S (mbA a) s.heap s.heap [] := va_S.rf
  have S : CallFix p m c cX9_walkStep 5 s ([.ref (a 0), .int p1, .int p2, .int p3] : List Value).toArray AW RX9 := ⟨hx, hb, hml, hown, hA⟩
  have hl := lv_entry ([.ref (a 0), .int p1, .int p2, .int p3]) (n := 5) (Nat.le_of_ble_eq_true rfl)
  rw [lg_entry_eq]
  generalize (lg_sl ([.ref (a 0), .int p1, .int p2, .int p3]) ++ List.replicate (5 - (lg_sl ([.ref (a 0), .int p1, .int p2, .int p3])).length) Slot.unset).toArray = ls at hl ⊢
  have hl : lv_has ls 5 [(0, .ref (a 0)), (1, .int p1), (2, .int p2), (3, .int p3)] := hl
  have hJ13 : ∀ (v1 : Int32) (v2 : Int32) (v3 : Int32) (s0 : Int32) (φ : M2) (H : Heap) (locs : List Loc) (ls : Array Slot), J_X9_walkStep_13 N φ v1 v2 v3 s0 = some (r0, φr) → va_P D vwCl (mbW cI a φ hv) H → va_S (mbA a) s.heap H locs → lv_has ls 5 [(0, .ref (a 0)), (1, .int v1), (2, .int v2), (3, .int v3)] → W p l e (headSpec (wsA yX9_walkStep cX9_walkStep 5 (some .int)) { frames := 7, cells := 0, slots := 0, locals := 155 }).room s m ([.ref (a 0), .int p1, .int p2, .int p3] : List Value).toArray below meth c H locs 0 0 (MQ below (va_Qi (fun (r : Int32) (_ : Unit) => r = r0) (fun _ t => va_P D vwCl (mbW cI a φr hv) t.heap) (mbA a)) ([.ref (a 0), .int p1, .int p2, .int p3] : List Value).toArray s 0 0 (mbA a)) (F0 m 13 ls [.int s0, .ref (a 0)]) := by
    intro v1 v2 v3 s0 φ H locs ls h hP hS hl
    unfold J_X9_walkStep_13 at h
    refine M_p0_5 hx hb hA hown aF_RX9_64 hK hP (hDA _ _) hS dX9_walkStep_13 (fun w2 H locs ew2 hP hS => ?_)
    replace h := olet_s ew2 h
    refine lv_aload_n hx hb dX9_walkStep_16 rfl (lv_at hl 0 rfl) ?_
    refine M_g0_5 hx hb hA hown aF_RX9_64 hK hP dX9_walkStep_17 ?_
    refine lv_if_eq (tgt := 25) hx hb dX9_walkStep_20 (by decide) (fun hc => ?_) (fun hc => ?_)
    · replace h := oi_t hc h
      refine lv_aload_n hx hb dX9_walkStep_25 rfl (lv_at hl 0 rfl) ?_
      refine lv_iload_n hx hb dX9_walkStep_26 rfl (lv_at hl 1 rfl) ?_
      obtain ⟨r5, w3, h4, h⟩ := obd2_e h
      refine k_X9_wouldAdd S aM_RX9_247 ⟨Nat.le_of_ble_eq_true rfl, Nat.le_of_ble_eq_true rfl⟩ ⟨Nat.zero_le _, Nat.zero_le _⟩ hP hK hDT hS h4 hl.1 (Nat.le_of_ble_eq_true rfl) dX9_walkStep_27 (fun H locs hP hS => ?_)
      refine lv_istore (lv' := [(4, .int r5), (0, .ref (a 0)), (1, .int v1), (2, .int v2), (3, .int v3)]) hx hb dX9_walkStep_30 hl (by decide) rfl (fun ls hl => ?_)
      refine lv_iload_n hx hb dX9_walkStep_32 rfl (lv_at hl 3 rfl) ?_
      refine lv_iconst (v := 0) hx hb dX9_walkStep_33 (by decide) ?_
      refine lv_aload_n hx hb dX9_walkStep_34 rfl (lv_at hl 1 rfl) ?_
      refine M_g0_12 hx hb hA hown aF_RX9_152 hK hP dX9_walkStep_35 ?_
      refine lv_iconst (v := 1) hx hb dX9_walkStep_38 (by decide) ?_
      refine lv_isub hx hb dX9_walkStep_39 ?_
      refine k_X9_in S aM_RX9_78 ⟨Nat.le_of_ble_eq_true rfl, Nat.le_of_ble_eq_true rfl⟩ ⟨Nat.zero_le _, Nat.zero_le _⟩ hl.1 (Nat.le_of_ble_eq_true rfl) dX9_walkStep_40 (fun r6 er6 br6 => ?_)
      replace h := olet_s er6 h
      refine lv_if_ne (tgt := 48) hx hb dX9_walkStep_43 (by decide) (fun hc => ?_) (fun hc => ?_)
      · replace h := oi_f hc h
        refine lv_iload_n hx hb dX9_walkStep_48 rfl (lv_at hl 4 rfl) ?_
        refine lv_if_eq (tgt := 61) hx hb dX9_walkStep_49 (by decide) (fun hc => ?_) (fun hc => ?_)
        · replace h := oi_t hc h
          refine lv_aload_n hx hb dX9_walkStep_61 rfl (lv_at hl 1 rfl) ?_
          refine M_g0_10 hx hb hA hown aF_RX9_19 hK hP dX9_walkStep_62 ?_
          refine lv_iload_n hx hb dX9_walkStep_65 rfl (lv_at hl 3 rfl) ?_
          obtain ⟨i7, h⟩ := oin_e h
          refine M_ld4 hx hb hK hP i7 dX9_walkStep_66 ?_
          obtain ⟨rfl, rfl⟩ := os2 h
          exact W.iret (v := (w3 4 v2.toNatClampNeg)) hx hb hr (fun t ht hW => ⟨⟨_, (), rfl, rfl, by show va_P _ _ _ t.heap; rw [ht]; exact hP⟩, hS.F ht⟩) hS.2.2 dX9_walkStep_67
        · replace h := oi_f hc h
          refine lv_aload_n hx hb dX9_walkStep_52 rfl (lv_at hl 1 rfl) ?_
          refine M_g0_11 hx hb hA hown aF_RX9_22 hK hP dX9_walkStep_53 ?_
          refine lv_iload_n hx hb dX9_walkStep_56 rfl (lv_at hl 3 rfl) ?_
          obtain ⟨i8, h⟩ := oin_e h
          refine M_ld5 hx hb hK hP i8 dX9_walkStep_57 ?_
          refine lv_goto (tgt := 67) hx hb dX9_walkStep_58 (by decide) ?_
          obtain ⟨rfl, rfl⟩ := os2 h
          exact W.iret (v := (w3 5 v2.toNatClampNeg)) hx hb hr (fun t ht hW => ⟨⟨_, (), rfl, rfl, by show va_P _ _ _ t.heap; rw [ht]; exact hP⟩, hS.F ht⟩) hS.2.2 dX9_walkStep_67
      · replace h := oi_t hc h
        refine lv_iconst (v := (-1)) hx hb dX9_walkStep_46 (by decide) ?_
        obtain ⟨rfl, rfl⟩ := os2 h
        exact W.iret (v := (-1)) hx hb hr (fun t ht hW => ⟨⟨_, (), rfl, rfl, by show va_P _ _ _ t.heap; rw [ht]; exact hP⟩, hS.F ht⟩) hS.2.2 dX9_walkStep_47
    · replace h := oi_f hc h
      refine lv_iconst (v := 0) hx hb dX9_walkStep_23 (by decide) ?_
      obtain ⟨rfl, rfl⟩ := os2 h
      exact W.iret (v := 0) hx hb hr (fun t ht hW => ⟨⟨_, (), rfl, rfl, by show va_P _ _ _ t.heap; rw [ht]; exact hP⟩, hS.F ht⟩) hS.2.2 dX9_walkStep_24
  have h := hF
  unfold G_X9_walkStep at h
  refine lv_aload_n hx hb dX9_walkStep_0 rfl (lv_at hl 0 rfl) ?_
  refine lv_iload_n hx hb dX9_walkStep_1 rfl (lv_at hl 1 rfl) ?_
  refine k_X9_isKey S aM_RX9_194 ⟨Nat.le_of_ble_eq_true rfl, Nat.le_of_ble_eq_true rfl⟩ ⟨Nat.zero_le _, Nat.zero_le _⟩ hl.1 (Nat.le_of_ble_eq_true rfl) dX9_walkStep_2 (fun r1 er1 br1 => ?_)
  replace h := olet_s er1 h
  refine lv_if_eq (tgt := 12) hx hb dX9_walkStep_5 (by decide) (fun hc => ?_) (fun hc => ?_)
  · replace h := oi_t hc h
    refine lv_iconst (v := 1) hx hb dX9_walkStep_12 (by decide) ?_
    exact hJ13 _ _ _ _ _ _ _ _ h hP hS (lv_sub hl [0, 1, 2, 3] rfl)
  · replace h := oi_f hc h
    refine lv_iconst (v := 0) hx hb dX9_walkStep_8 (by decide) ?_
    refine lv_goto (tgt := 13) hx hb dX9_walkStep_9 (by decide) ?_
    exact hJ13 _ _ _ _ _ _ _ _ h hP hS (lv_sub hl [0, 1, 2, 3] rfl)
theorem k_X9_walkStep {p : Program} {l : Launch} {e : Env} {R : Room} {s : State} {m : MethodId} {args : Array Value} {below : List Frame} {meth : Method} {c : Code} {H : Heap} {locs : List Loc} {cells slots : Nat} {Q : State → Prop} {cc : ByteArray} {pc nL idx : Nat} {ls : Array Slot} {rest : List Value} {own : String} {D : va_G} {cI : ClassId} {a : Nat → Nat} {H0 : Heap} {N : Nat} {φ : M2} {p1 : Int32} {p2 : Int32} {p3 : Int32} {hv : Int64} {r0 : Int32} {φr : M2} (S : CallFix p m c cc nL s args AW own) (h1 : Cond.methodLink own idx yX9_walkStep ∈ AW) (hR : 7 + 1 ≤ R.frames ∧ 8 + (5 + 11) + 155 ≤ R.locals) (hc : cells ≤ R.cells ∧ slots ≤ R.slots) (hP : va_P D vwCl (mbW cI a φ hv) H) (hK : va_K D vwCl [(cI, .int)] s) (hDT : ∀ (φ2 : M2) (hv2 : Int64), va_D (fun _ => True) (mbW cI a φ2 hv2)) (hS : va_S (mbA a) H0 H locs) (hF : G_X9_walkStep N φ p1 p2 p3 = some (r0, φr)) (hsz : ls.size = nL) (hW : (rest.map fun v => v.category).sum ≤ 8) (hdg : decode cc pc = .ok (.invokevirtual idx, 3)) (kk : ∀ (H1 : Heap) (locs1 : List Loc), va_P D vwCl (mbW cI a φr hv) H1 → va_S (mbA a) H0 H1 locs1 → W p l e R s m args below meth c H1 locs1 cells slots Q (F0 m (pc + 3) ls (.int r0 :: rest))) : W p l e R s m args below meth c H locs cells slots Q (F0 m pc ls (.int p3 :: .int p2 :: .int p1 :: .ref (a 0) :: rest)) :=
  fm_runVi (n := 3) (C := RX9) (As := [.int p1, .int p2, .int p3]) S (c_X9_walkStep l D cI a N φ p1 p2 p3 hv r0 φr hF) (M_pre (q0 := 0) (ci := 7) hK hP (hDT _ _) rfl rfl) hS h1 aI_X9_walkStep aV_X9_walkStep aN_RX9 aC_X9_walkStep rfl rfl (by decide +kernel) rfl hR hc hsz hW hdg (fun r H1 locs1 hr hP1 hS1 => by subst hr; exact kk H1 locs1 hP1 hS1)
set_option maxHeartbeats 4000000 in
set_option maxRecDepth 100000 in
theorem c_X9_leastMoves (l : Launch) (D : va_G) (cI : ClassId) (a : Nat → Nat) (N : Nat) (φ : M2) (p1 : Int32) (hv : Int64) (r0 : Int32) (φr : M2) (hF : G_X9_leastMoves N φ p1 = some (r0, φr)) : Met l yX9_leastMoves (wsA yX9_leastMoves cX9_leastMoves 3 (some .int)) { frames := 5, cells := 0, slots := 0, locals := 110 } (va_Pc [.ref (a 0), .int p1] (mbP D cI a φ hv)) (va_Qi (fun (r : Int32) (_ : Unit) => r = r0) (fun _ t => va_P D vwCl (mbW cI a φr hv) t.heap) (mbA a)) 0 0 (mbA a) := by
  refine Met.ofW (cc := cX9_leastMoves) (maxL := 3) (ret := (some .int)) (by decide) rfl ?_
  intro p e s m args below meth c s₁ B hml hpre
  obtain ⟨rfl, hP, hK, hD0⟩ := hpre
  have hx := B.exec
  have hb := B.bytes
  have hr := B.returns
  have hA : ∀ w ∈ AW, w.before _ s = true := fun w h => atoms_spec (ws := wsA yX9_leastMoves cX9_leastMoves 3 (some .int)) B.pre w (List.mem_cons_of_mem _ h)
  have hown : s.vm.findClass RX9 = some m.cls := findClass_of_methodNamed B.named
  have hlocks := B.notSynchronized
  have hDT := M_dT hD0
  have hDA := M_dA hD0
  have hS : va_S (mbA a) s.heap s.heap [] := va_S.rf
  have S : CallFix p m c cX9_leastMoves 3 s ([.ref (a 0), .int p1] : List Value).toArray AW RX9 := ⟨hx, hb, hml, hown, hA⟩
  have hl := lv_entry ([.ref (a 0), .int p1]) (n := 3) (Nat.le_of_ble_eq_true rfl)
  rw [lg_entry_eq]
  generalize (lg_sl ([.ref (a 0), .int p1]) ++ List.replicate (3 - (lg_sl ([.ref (a 0), .int p1])).length) Slot.unset).toArray = ls at hl ⊢
  have hl : lv_has ls 3 [(0, .ref (a 0)), (1, .int p1)] := hl
  have hJ13 : ∀ (v1 : Int32) (s0 : Int32) (φ : M2) (H : Heap) (locs : List Loc) (ls : Array Slot), J_X9_leastMoves_13 N φ v1 s0 = some (r0, φr) → va_P D vwCl (mbW cI a φ hv) H → va_S (mbA a) s.heap H locs → lv_has ls 3 [(0, .ref (a 0)), (1, .int v1)] → W p l e (headSpec (wsA yX9_leastMoves cX9_leastMoves 3 (some .int)) { frames := 5, cells := 0, slots := 0, locals := 110 }).room s m ([.ref (a 0), .int p1] : List Value).toArray below meth c H locs 0 0 (MQ below (va_Qi (fun (r : Int32) (_ : Unit) => r = r0) (fun _ t => va_P D vwCl (mbW cI a φr hv) t.heap) (mbA a)) ([.ref (a 0), .int p1] : List Value).toArray s 0 0 (mbA a)) (F0 m 13 ls [.int s0, .ref (a 0)]) := by
    intro v1 s0 φ H locs ls h hP hS hl
    unfold J_X9_leastMoves_13 at h
    refine M_p0_5 hx hb hA hown aF_RX9_64 hK hP (hDA _ _) hS dX9_leastMoves_13 (fun w2 H locs ew2 hP hS => ?_)
    replace h := olet_s ew2 h
    refine lv_aload_n hx hb dX9_leastMoves_16 rfl (lv_at hl 0 rfl) ?_
    refine M_g0_5 hx hb hA hown aF_RX9_64 hK hP dX9_leastMoves_17 ?_
    refine lv_if_eq (tgt := 25) hx hb dX9_leastMoves_20 (by decide) (fun hc => ?_) (fun hc => ?_)
    · replace h := oi_t hc h
      refine lv_aload_n hx hb dX9_leastMoves_25 rfl (lv_at hl 0 rfl) ?_
      refine lv_iload_n hx hb dX9_leastMoves_26 rfl (lv_at hl 1 rfl) ?_
      obtain ⟨r5, w3, h4, h⟩ := obd2_e h
      refine k_X9_endOfChain S aM_RX9_212 ⟨Nat.le_of_ble_eq_true rfl, Nat.le_of_ble_eq_true rfl⟩ ⟨Nat.zero_le _, Nat.zero_le _⟩ hP hK hDT hS h4 hl.1 (Nat.le_of_ble_eq_true rfl) dX9_leastMoves_27 (fun H locs hP hS => ?_)
      refine lv_istore_n (lv' := [(2, .int r5), (0, .ref (a 0)), (1, .int v1)]) hx hb dX9_leastMoves_30 rfl hl (by decide) rfl (fun ls hl => ?_)
      refine lv_iload_n hx hb dX9_leastMoves_31 rfl (lv_at hl 0 rfl) ?_
      refine lv_iconst (v := (-1)) hx hb dX9_leastMoves_32 (by decide) ?_
      refine lv_icmp_ne (tgt := 40) hx hb dX9_leastMoves_33 (by decide) (fun hc => ?_) (fun hc => ?_)
      · replace h := oi_f hc h
        refine lv_aload_n hx hb dX9_leastMoves_40 rfl (lv_at hl 1 rfl) ?_
        refine M_g0_16 hx hb hA hown aF_RX9_31 hK hP dX9_leastMoves_41 ?_
        refine lv_iload_n hx hb dX9_leastMoves_44 rfl (lv_at hl 0 rfl) ?_
        obtain ⟨i6, h⟩ := oin_e h
        refine M_ld8 hx hb hK hP i6 dX9_leastMoves_45 ?_
        obtain ⟨rfl, rfl⟩ := os2 h
        exact W.iret (v := (w3 8 r5.toNatClampNeg)) hx hb hr (fun t ht hW => ⟨⟨_, (), rfl, rfl, by show va_P _ _ _ t.heap; rw [ht]; exact hP⟩, hS.F ht⟩) hS.2.2 dX9_leastMoves_46
      · replace h := oi_t hc h
        refine lv_iconst (v := (-1)) hx hb dX9_leastMoves_36 (by decide) ?_
        refine lv_goto (tgt := 46) hx hb dX9_leastMoves_37 (by decide) ?_
        obtain ⟨rfl, rfl⟩ := os2 h
        exact W.iret (v := (-1)) hx hb hr (fun t ht hW => ⟨⟨_, (), rfl, rfl, by show va_P _ _ _ t.heap; rw [ht]; exact hP⟩, hS.F ht⟩) hS.2.2 dX9_leastMoves_46
    · replace h := oi_f hc h
      refine lv_iconst (v := 0) hx hb dX9_leastMoves_23 (by decide) ?_
      obtain ⟨rfl, rfl⟩ := os2 h
      exact W.iret (v := 0) hx hb hr (fun t ht hW => ⟨⟨_, (), rfl, rfl, by show va_P _ _ _ t.heap; rw [ht]; exact hP⟩, hS.F ht⟩) hS.2.2 dX9_leastMoves_24
  have h := hF
  unfold G_X9_leastMoves at h
  refine lv_aload_n hx hb dX9_leastMoves_0 rfl (lv_at hl 0 rfl) ?_
  refine lv_iload_n hx hb dX9_leastMoves_1 rfl (lv_at hl 1 rfl) ?_
  refine k_X9_isKey S aM_RX9_194 ⟨Nat.le_of_ble_eq_true rfl, Nat.le_of_ble_eq_true rfl⟩ ⟨Nat.zero_le _, Nat.zero_le _⟩ hl.1 (Nat.le_of_ble_eq_true rfl) dX9_leastMoves_2 (fun r1 er1 br1 => ?_)
  replace h := olet_s er1 h
  refine lv_if_eq (tgt := 12) hx hb dX9_leastMoves_5 (by decide) (fun hc => ?_) (fun hc => ?_)
  · replace h := oi_t hc h
    refine lv_iconst (v := 1) hx hb dX9_leastMoves_12 (by decide) ?_
    exact hJ13 _ _ _ _ _ _ h hP hS (lv_sub hl [0, 1] rfl)
  · replace h := oi_f hc h
    refine lv_iconst (v := 0) hx hb dX9_leastMoves_8 (by decide) ?_
    refine lv_goto (tgt := 13) hx hb dX9_leastMoves_9 (by decide) ?_
    exact hJ13 _ _ _ _ _ _ h hP hS (lv_sub hl [0, 1] rfl)
theorem k_X9_leastMoves {p : Program} {l : Launch} {e : Env} {R : Room} {s : State} {m : MethodId} {args : Array Value} {below : List Frame} {meth : Method} {c : Code} {H : Heap} {locs : List Loc} {cells slots : Nat} {Q : State → Prop} {cc : ByteArray} {pc nL idx : Nat} {ls : Array Slot} {rest : List Value} {own : String} {D : va_G} {cI : ClassId} {a : Nat → Nat} {H0 : Heap} {N : Nat} {φ : M2} {p1 : Int32} {hv : Int64} {r0 : Int32} {φr : M2} (S : CallFix p m c cc nL s args AW own) (h1 : Cond.methodLink own idx yX9_leastMoves ∈ AW) (hR : 5 + 1 ≤ R.frames ∧ 8 + (3 + 11) + 110 ≤ R.locals) (hc : cells ≤ R.cells ∧ slots ≤ R.slots) (hP : va_P D vwCl (mbW cI a φ hv) H) (hK : va_K D vwCl [(cI, .int)] s) (hDT : ∀ (φ2 : M2) (hv2 : Int64), va_D (fun _ => True) (mbW cI a φ2 hv2)) (hS : va_S (mbA a) H0 H locs) (hF : G_X9_leastMoves N φ p1 = some (r0, φr)) (hsz : ls.size = nL) (hW : (rest.map fun v => v.category).sum ≤ 8) (hdg : decode cc pc = .ok (.invokevirtual idx, 3)) (kk : ∀ (H1 : Heap) (locs1 : List Loc), va_P D vwCl (mbW cI a φr hv) H1 → va_S (mbA a) H0 H1 locs1 → W p l e R s m args below meth c H1 locs1 cells slots Q (F0 m (pc + 3) ls (.int r0 :: rest))) : W p l e R s m args below meth c H locs cells slots Q (F0 m pc ls (.int p1 :: .ref (a 0) :: rest)) :=
  fm_runVi (n := 1) (C := RX9) (As := [.int p1]) S (c_X9_leastMoves l D cI a N φ p1 hv r0 φr hF) (M_pre (q0 := 0) (ci := 7) hK hP (hDT _ _) rfl rfl) hS h1 aI_X9_leastMoves aV_X9_leastMoves aN_RX9 aC_X9_leastMoves rfl rfl (by decide +kernel) rfl hR hc hsz hW hdg (fun r H1 locs1 hr hP1 hS1 => by subst hr; exact kk H1 locs1 hP1 hS1)
set_option maxHeartbeats 4000000 in
set_option maxRecDepth 100000 in
theorem c_X9_isRange (l : Launch) (p0 : Int32) (p1 : Int32) (r0 : Int32) (hF : G_X9_isRange p0 p1 = r0) : Met l yX9_isRange (wsA yX9_isRange cX9_isRange 2 (some .boolean)) { frames := 2, cells := 0, slots := 0, locals := 42 } (va_Pc [.int p0, .int p1] (fun _ => True)) (vp_Si (fun r => r = r0 ∧ (r = 0 ∨ r = 1))) 0 0 (fun _ => False) := by
  refine Met.ofW (cc := cX9_isRange) (maxL := 2) (ret := (some .boolean)) (by decide) rfl ?_
  intro p e s m args below meth c s₁ B hml hpre
  obtain ⟨rfl, -⟩ := hpre
  have hx := B.exec
  have hb := B.bytes
  have hr := B.returns
  have hA : ∀ w ∈ AW, w.before _ s = true := fun w h => atoms_spec (ws := wsA yX9_isRange cX9_isRange 2 (some .boolean)) B.pre w (List.mem_cons_of_mem _ h)
  have hown : s.vm.findClass RX9 = some m.cls := findClass_of_methodNamed B.named
  have hlocks := B.notSynchronized
  have S : CallFix p m c cX9_isRange 2 s ([.int p0, .int p1] : List Value).toArray AW RX9 := ⟨hx, hb, hml, hown, hA⟩
  have hl := lv_entry ([.int p0, .int p1]) (n := 2) (Nat.le_of_ble_eq_true rfl)
  rw [lg_entry_eq]
  generalize (lg_sl ([.int p0, .int p1]) ++ List.replicate (2 - (lg_sl ([.int p0, .int p1])).length) Slot.unset).toArray = ls at hl ⊢
  have hl : lv_has ls 2 [(0, .int p0), (1, .int p1)] := hl
  have h := hF
  unfold G_X9_isRange at h
  refine lv_iload_n hx hb dX9_isRange_0 rfl (lv_at hl 0 rfl) ?_
  refine k_X9_isKey S aM_RX9_194 ⟨Nat.le_of_ble_eq_true rfl, Nat.le_of_ble_eq_true rfl⟩ ⟨Nat.zero_le _, Nat.zero_le _⟩ hl.1 (Nat.le_of_ble_eq_true rfl) dX9_isRange_1 (fun r1 er1 br1 => ?_)
  replace h := olet_s er1 h
  refine lv_if_eq (tgt := 23) hx hb dX9_isRange_4 (by decide) (fun hc => ?_) (fun hc => ?_)
  · replace h := oi_t hc h
    refine lv_iconst (v := 0) hx hb dX9_isRange_23 (by decide) ?_
    subst h
    exact W.zret (v := 0) (ty := .boolean) hx hb hr rfl (fun t ht hW => ⟨_, rfl, ⟨rfl, (Or.inl rfl)⟩, ht⟩) (fun q hq => absurd hq List.not_mem_nil) dX9_isRange_24
  · replace h := oi_f hc h
    refine lv_iload_n hx hb dX9_isRange_7 rfl (lv_at hl 1 rfl) ?_
    refine k_X9_isKey S aM_RX9_194 ⟨Nat.le_of_ble_eq_true rfl, Nat.le_of_ble_eq_true rfl⟩ ⟨Nat.zero_le _, Nat.zero_le _⟩ hl.1 (Nat.le_of_ble_eq_true rfl) dX9_isRange_8 (fun r2 er2 br2 => ?_)
    replace h := olet_s er2 h
    refine lv_if_eq (tgt := 23) hx hb dX9_isRange_11 (by decide) (fun hc => ?_) (fun hc => ?_)
    · replace h := oi_t hc h
      refine lv_iconst (v := 0) hx hb dX9_isRange_23 (by decide) ?_
      subst h
      exact W.zret (v := 0) (ty := .boolean) hx hb hr rfl (fun t ht hW => ⟨_, rfl, ⟨rfl, (Or.inl rfl)⟩, ht⟩) (fun q hq => absurd hq List.not_mem_nil) dX9_isRange_24
    · replace h := oi_f hc h
      refine lv_iload_n hx hb dX9_isRange_14 rfl (lv_at hl 0 rfl) ?_
      refine lv_iload_n hx hb dX9_isRange_15 rfl (lv_at hl 1 rfl) ?_
      refine lv_icmp_gt (tgt := 23) hx hb dX9_isRange_16 (by decide) (fun hc => ?_) (fun hc => ?_)
      · replace h := oi_t hc h
        refine lv_iconst (v := 0) hx hb dX9_isRange_23 (by decide) ?_
        subst h
        exact W.zret (v := 0) (ty := .boolean) hx hb hr rfl (fun t ht hW => ⟨_, rfl, ⟨rfl, (Or.inl rfl)⟩, ht⟩) (fun q hq => absurd hq List.not_mem_nil) dX9_isRange_24
      · replace h := oi_f hc h
        refine lv_iconst (v := 1) hx hb dX9_isRange_19 (by decide) ?_
        refine lv_goto (tgt := 24) hx hb dX9_isRange_20 (by decide) ?_
        subst h
        exact W.zret (v := 1) (ty := .boolean) hx hb hr rfl (fun t ht hW => ⟨_, rfl, ⟨rfl, (Or.inr rfl)⟩, ht⟩) (fun q hq => absurd hq List.not_mem_nil) dX9_isRange_24
theorem k_X9_isRange {p : Program} {l : Launch} {e : Env} {R : Room} {s : State} {m : MethodId} {args : Array Value} {below : List Frame} {meth : Method} {c : Code} {H : Heap} {locs : List Loc} {cells slots : Nat} {Q : State → Prop} {cc : ByteArray} {pc nL idx : Nat} {ls : Array Slot} {rest : List Value} {own : String} {p0 : Int32} {p1 : Int32} (S : CallFix p m c cc nL s args AW own) (h1 : Cond.methodLink own idx yX9_isRange ∈ AW) (hR : 2 + 1 ≤ R.frames ∧ 8 + (2 + 11) + 42 ≤ R.locals) (hc : cells ≤ R.cells ∧ slots ≤ R.slots) (hsz : ls.size = nL) (hW : (rest.map fun v => v.category).sum ≤ 8) (hdg : decode cc pc = .ok (.invokestatic idx, 3)) (kk : ∀ r : Int32, r = G_X9_isRange p0 p1 → (r = 0 ∨ r = 1) → W p l e R s m args below meth c H locs cells slots Q (F0 m (pc + 3) ls (.int r :: rest))) : W p l e R s m args below meth c H locs cells slots Q (F0 m pc ls (.int p1 :: .int p0 :: rest)) :=
  fm_runS (n := 2) (As := [.int p0, .int p1]) S (c_X9_isRange l p0 p1 _ rfl) h1 aS_X9_isRange aN_RX9 aC_X9_isRange rfl rfl (by decide +kernel) rfl hR hc hsz hW hdg (fun r hr => kk r hr.1 hr.2)
set_option maxHeartbeats 4000000 in
set_option maxRecDepth 100000 in
theorem c_X9_roomFor (l : Launch) (D : va_G) (cI : ClassId) (a : Nat → Nat) (N : Nat) (φ : M2) (p1 : Int32) (p2 : Int32) (hv : Int64) (r0 : Int32) (φr : M2) (hF : G_X9_roomFor N φ p1 p2 = some (r0, φr)) : Met l yX9_roomFor (wsA yX9_roomFor cX9_roomFor 6 (some .int)) { frames := 7, cells := 0, slots := 0, locals := 155 } (va_Pc [.ref (a 0), .int p1, .int p2] (mbP D cI a φ hv)) (va_Qi (fun (r : Int32) (_ : Unit) => r = r0) (fun _ t => va_P D vwCl (mbW cI a φr hv) t.heap) (mbA a)) 0 0 (mbA a) := by
  refine Met.ofW (cc := cX9_roomFor) (maxL := 6) (ret := (some .int)) (by decide) rfl ?_
  intro p e s m args below meth c s₁ B hml hpre
  obtain ⟨rfl, hP, hK, hD0⟩ := hpre
  have hx := B.exec
  have hb := B.bytes
  have hr := B.returns
  have hA : ∀ w ∈ AW, w.before _ s = true := fun w h => atoms_spec (ws := wsA yX9_roomFor cX9_roomFor 6 (some .int)) B.pre w (List.mem_cons_of_mem _ h)
  have hown : s.vm.findClass RX9 = some m.cls := findClass_of_methodNamed B.named
  have hlocks := B.notSynchronized
  have hDT := M_dT hD0
  have hDA := M_dA hD0
  have hS : va_S (mbA a) s.heap s.heap [] := va_S.rf
  have S : CallFix p m c cX9_roomFor 6 s ([.ref (a 0), .int p1, .int p2] : List Value).toArray AW RX9 := ⟨hx, hb, hml, hown, hA⟩
  have hl := lv_entry ([.ref (a 0), .int p1, .int p2]) (n := 6) (Nat.le_of_ble_eq_true rfl)
  rw [lg_entry_eq]
  generalize (lg_sl ([.ref (a 0), .int p1, .int p2]) ++ List.replicate (6 - (lg_sl ([.ref (a 0), .int p1, .int p2])).length) Slot.unset).toArray = ls at hl ⊢
  have hl : lv_has ls 6 [(0, .ref (a 0)), (1, .int p1), (2, .int p2)] := hl
  have hL39 : ∀ (k : Nat) (v2 : Int32) (v3 : Int32) (v4 : Int32) (v5 : Int32) (φ : M2) (H : Heap) (locs : List Loc) (ls : Array Slot) (o3 : Int32) (φo : M2), L_X9_roomFor_39 N v2 k v3 v4 v5 φ = some (o3, φo) → va_P D vwCl (mbW cI a φ hv) H → va_S (mbA a) s.heap H locs → lv_has ls 6 [(0, .ref (a 0)), (2, .int v2), (3, .int v3), (4, .int v4), (5, .int v5)] → (∀ (H1 : Heap) (locs1 : List Loc) (ls1 : Array Slot), va_P D vwCl (mbW cI a φo hv) H1 → va_S (mbA a) s.heap H1 locs1 → lv_has ls1 6 [(0, .ref (a 0)), (3, .int o3)] → W p l e (headSpec (wsA yX9_roomFor cX9_roomFor 6 (some .int)) { frames := 7, cells := 0, slots := 0, locals := 155 }).room s m ([.ref (a 0), .int p1, .int p2] : List Value).toArray below meth c H1 locs1 0 0 (MQ below (va_Qi (fun (r : Int32) (_ : Unit) => r = r0) (fun _ t => va_P D vwCl (mbW cI a φr hv) t.heap) (mbA a)) ([.ref (a 0), .int p1, .int p2] : List Value).toArray s 0 0 (mbA a)) (F0 m 96 ls1 [])) → W p l e (headSpec (wsA yX9_roomFor cX9_roomFor 6 (some .int)) { frames := 7, cells := 0, slots := 0, locals := 155 }).room s m ([.ref (a 0), .int p1, .int p2] : List Value).toArray below meth c H locs 0 0 (MQ below (va_Qi (fun (r : Int32) (_ : Unit) => r = r0) (fun _ t => va_P D vwCl (mbW cI a φr hv) t.heap) (mbA a)) ([.ref (a 0), .int p1, .int p2] : List Value).toArray s 0 0 (mbA a)) (F0 m 39 ls []) := by
    intro k
    induction k with
    | zero =>
      intro v2 v3 v4 v5 φ H locs ls o3 φo h hP hS hl kk
      exact no_s h
    | succ k ih =>
      intro v2 v3 v4 v5 φ H locs ls o3 φo h hP hS hl kk
      replace h : B_X9_roomFor_39 N v2 (L_X9_roomFor_39 N v2 k) v3 v4 v5 φ = some (o3, φo) := h
      unfold B_X9_roomFor_39 at h
      refine lv_iload hx hb dX9_roomFor_39 (lv_at hl 4 rfl) ?_
      refine lv_iload_n hx hb dX9_roomFor_41 rfl (lv_at hl 1 rfl) ?_
      refine lv_icmp_gt (tgt := 96) hx hb dX9_roomFor_42 (by decide) (fun hc => ?_) (fun hc => ?_)
      · replace h := oi_t hc h
        obtain ⟨rfl, rfl⟩ := os2 h
        exact kk _ _ _ hP hS (lv_sub hl [0, 2] rfl)
      · replace h := oi_f hc h
        refine lv_iload hx hb dX9_roomFor_45 (lv_at hl 3 rfl) ?_
        refine lv_if_eq (tgt := 96) hx hb dX9_roomFor_47 (by decide) (fun hc => ?_) (fun hc => ?_)
        · replace h := oi_t hc h
          obtain ⟨rfl, rfl⟩ := os2 h
          exact kk _ _ _ hP hS (lv_sub hl [0, 2] rfl)
        · replace h := oi_f hc h
          refine lv_aload_n hx hb dX9_roomFor_50 rfl (lv_at hl 0 rfl) ?_
          refine lv_iload hx hb dX9_roomFor_51 (lv_at hl 4 rfl) ?_
          obtain ⟨r5, h6, h⟩ := obd_e h
          refine k_X9_indexOf S aM_RX9_169 ⟨Nat.le_of_ble_eq_true rfl, Nat.le_of_ble_eq_true rfl⟩ ⟨Nat.zero_le _, Nat.zero_le _⟩ hP hK hDT h6 hl.1 (Nat.le_of_ble_eq_true rfl) dX9_roomFor_53 ?_
          refine lv_iconst (v := (-1)) hx hb dX9_roomFor_56 (by decide) ?_
          refine lv_icmp_ne (tgt := 90) hx hb dX9_roomFor_57 (by decide) (fun hc => ?_) (fun hc => ?_)
          · replace h := oi_f hc h
            refine lv_iinc (v := v5 + 1) (lv' := [(5, .int (v5 + 1)), (0, .ref (a 0)), (2, .int v2), (3, .int v3), (4, .int v4)]) hx hb dX9_roomFor_90 hl (k := 4) rfl (fm_inc _ _ _ (by decide)) (by decide) rfl (fun ls hl => ?_)
            refine lv_goto (tgt := 39) hx hb dX9_roomFor_93 (by decide) ?_
            exact ih _ _ _ _ _ _ _ _ _ _ h hP hS (lv_sub hl [1, 2, 3, 4, 0] rfl) kk
          · replace h := oi_t hc h
            refine lv_aload_n hx hb dX9_roomFor_60 rfl (lv_at hl 0 rfl) ?_
            refine lv_iload hx hb dX9_roomFor_61 (lv_at hl 4 rfl) ?_
            obtain ⟨r9, w7, h8, h⟩ := obd2_e h
            refine k_X9_tryAdd S aM_RX9_203 ⟨Nat.le_of_ble_eq_true rfl, Nat.le_of_ble_eq_true rfl⟩ ⟨Nat.zero_le _, Nat.zero_le _⟩ hP hK hDT hS h8 hl.1 (Nat.le_of_ble_eq_true rfl) dX9_roomFor_63 (fun H locs hP hS => ?_)
            refine lv_iconst (v := (-1)) hx hb dX9_roomFor_66 (by decide) ?_
            refine lv_icmp_eq (tgt := 74) hx hb dX9_roomFor_67 (by decide) (fun hc => ?_) (fun hc => ?_)
            · replace h := oi_t hc h
              refine lv_iconst (v := 0) hx hb dX9_roomFor_74 (by decide) ?_
              refine lv_istore (lv' := [(4, .int 0), (0, .ref (a 0)), (2, .int v2), (3, .int v3), (5, .int v5)]) hx hb dX9_roomFor_75 hl (by decide) rfl (fun ls hl => ?_)
              refine lv_iload_n hx hb dX9_roomFor_77 rfl (lv_at hl 3 rfl) ?_
              refine lv_iload hx hb dX9_roomFor_78 (lv_at hl 0 rfl) ?_
              refine lv_if_eq (tgt := 87) hx hb dX9_roomFor_80 (by decide) (fun _ => ?_) (fun hc => absurd hc (by decide))
              refine lv_iconst (v := 0) hx hb dX9_roomFor_87 (by decide) ?_
              refine lv_iadd hx hb dX9_roomFor_88 ?_
              refine lv_topi (fun x10 ex10 => ?_)
              replace h := olet_s ex10 h
              refine lv_istore_n (lv' := [(3, .int x10), (4, .int 0), (0, .ref (a 0)), (2, .int v2), (5, .int v5)]) hx hb dX9_roomFor_89 rfl hl (by decide) rfl (fun ls hl => ?_)
              refine lv_iinc (v := v5 + 1) (lv' := [(5, .int (v5 + 1)), (3, .int x10), (4, .int 0), (0, .ref (a 0)), (2, .int v2)]) hx hb dX9_roomFor_90 hl (k := 4) rfl (fm_inc _ _ _ (by decide)) (by decide) rfl (fun ls hl => ?_)
              refine lv_goto (tgt := 39) hx hb dX9_roomFor_93 (by decide) ?_
              exact ih _ _ _ _ _ _ _ _ _ _ h hP hS (lv_sub hl [3, 4, 1, 2, 0] rfl) kk
            · replace h := oi_f hc h
              refine lv_iconst (v := 1) hx hb dX9_roomFor_70 (by decide) ?_
              refine lv_goto (tgt := 75) hx hb dX9_roomFor_71 (by decide) ?_
              refine lv_istore (lv' := [(4, .int 1), (0, .ref (a 0)), (2, .int v2), (3, .int v3), (5, .int v5)]) hx hb dX9_roomFor_75 hl (by decide) rfl (fun ls hl => ?_)
              refine lv_iload_n hx hb dX9_roomFor_77 rfl (lv_at hl 3 rfl) ?_
              refine lv_iload hx hb dX9_roomFor_78 (lv_at hl 0 rfl) ?_
              refine lv_if_eq (tgt := 87) hx hb dX9_roomFor_80 (by decide) (fun hc => absurd hc (by decide)) (fun _ => ?_)
              refine lv_iconst (v := 1) hx hb dX9_roomFor_83 (by decide) ?_
              refine lv_goto (tgt := 88) hx hb dX9_roomFor_84 (by decide) ?_
              refine lv_iadd hx hb dX9_roomFor_88 ?_
              refine lv_topi (fun x11 ex11 => ?_)
              replace h := olet_s ex11 h
              refine lv_istore_n (lv' := [(3, .int x11), (4, .int 1), (0, .ref (a 0)), (2, .int v2), (5, .int v5)]) hx hb dX9_roomFor_89 rfl hl (by decide) rfl (fun ls hl => ?_)
              refine lv_iinc (v := v5 + 1) (lv' := [(5, .int (v5 + 1)), (3, .int x11), (4, .int 1), (0, .ref (a 0)), (2, .int v2)]) hx hb dX9_roomFor_90 hl (k := 4) rfl (fm_inc _ _ _ (by decide)) (by decide) rfl (fun ls hl => ?_)
              refine lv_goto (tgt := 39) hx hb dX9_roomFor_93 (by decide) ?_
              exact ih _ _ _ _ _ _ _ _ _ _ h hP hS (lv_sub hl [3, 4, 1, 2, 0] rfl) kk
  have hJ14 : ∀ (v1 : Int32) (v2 : Int32) (s0 : Int32) (φ : M2) (H : Heap) (locs : List Loc) (ls : Array Slot), J_X9_roomFor_14 N φ v1 v2 s0 = some (r0, φr) → va_P D vwCl (mbW cI a φ hv) H → va_S (mbA a) s.heap H locs → lv_has ls 6 [(0, .ref (a 0)), (1, .int v1), (2, .int v2)] → W p l e (headSpec (wsA yX9_roomFor cX9_roomFor 6 (some .int)) { frames := 7, cells := 0, slots := 0, locals := 155 }).room s m ([.ref (a 0), .int p1, .int p2] : List Value).toArray below meth c H locs 0 0 (MQ below (va_Qi (fun (r : Int32) (_ : Unit) => r = r0) (fun _ t => va_P D vwCl (mbW cI a φr hv) t.heap) (mbA a)) ([.ref (a 0), .int p1, .int p2] : List Value).toArray s 0 0 (mbA a)) (F0 m 14 ls [.int s0, .ref (a 0)]) := by
    intro v1 v2 s0 φ H locs ls h hP hS hl
    unfold J_X9_roomFor_14 at h
    refine M_p0_5 hx hb hA hown aF_RX9_64 hK hP (hDA _ _) hS dX9_roomFor_14 (fun w2 H locs ew2 hP hS => ?_)
    replace h := olet_s ew2 h
    refine lv_aload_n hx hb dX9_roomFor_17 rfl (lv_at hl 0 rfl) ?_
    refine M_g0_5 hx hb hA hown aF_RX9_64 hK hP dX9_roomFor_18 ?_
    refine lv_if_eq (tgt := 26) hx hb dX9_roomFor_21 (by decide) (fun hc => ?_) (fun hc => ?_)
    · replace h := oi_t hc h
      refine lv_aload_n hx hb dX9_roomFor_26 rfl (lv_at hl 0 rfl) ?_
      refine lv_iconst (v := 4) hx hb dX9_roomFor_27 (by decide) ?_
      obtain ⟨w3, h4, h⟩ := obd_e h
      refine k_X9_copy S aM_RX9_74 ⟨Nat.le_of_ble_eq_true rfl, Nat.le_of_ble_eq_true rfl⟩ ⟨Nat.zero_le _, Nat.zero_le _⟩ hP hK hDT hS h4 hl.1 (Nat.le_of_ble_eq_true rfl) dX9_roomFor_28 (fun H locs hP hS => ?_)
      refine lv_iconst (v := 0) hx hb dX9_roomFor_31 (by decide) ?_
      refine lv_istore_n (lv' := [(3, .int 0), (0, .ref (a 0)), (1, .int v1), (2, .int v2)]) hx hb dX9_roomFor_32 rfl hl (by decide) rfl (fun ls hl => ?_)
      refine lv_iconst (v := 1) hx hb dX9_roomFor_33 (by decide) ?_
      refine lv_istore (lv' := [(4, .int 1), (3, .int 0), (0, .ref (a 0)), (1, .int v1), (2, .int v2)]) hx hb dX9_roomFor_34 hl (by decide) rfl (fun ls hl => ?_)
      refine lv_iload_n hx hb dX9_roomFor_36 rfl (lv_at hl 3 rfl) ?_
      refine lv_istore (lv' := [(5, .int v1), (4, .int 1), (3, .int 0), (0, .ref (a 0)), (1, .int v1), (2, .int v2)]) hx hb dX9_roomFor_37 hl (by decide) rfl (fun ls hl => ?_)
      obtain ⟨y12, w13, h14, h⟩ := obd2_e h
      refine hL39 N _ _ _ _ _ _ _ _ _ _ h14 hP hS (lv_sub hl [3, 5, 2, 1, 0] rfl) (fun H locs ls hP hS hl => ?_)
      refine lv_aload_n hx hb dX9_roomFor_96 rfl (lv_at hl 0 rfl) ?_
      refine lv_iconst (v := 4) hx hb dX9_roomFor_97 (by decide) ?_
      obtain ⟨w15, h16, h⟩ := obd_e h
      refine k_X9_layBack S aM_RX9_206 ⟨Nat.le_of_ble_eq_true rfl, Nat.le_of_ble_eq_true rfl⟩ ⟨Nat.zero_le _, Nat.zero_le _⟩ hP hK hDT hS h16 hl.1 (Nat.le_of_ble_eq_true rfl) dX9_roomFor_98 (fun H locs hP hS => ?_)
      refine lv_iload_n hx hb dX9_roomFor_101 rfl (lv_at hl 1 rfl) ?_
      obtain ⟨rfl, rfl⟩ := os2 h
      exact W.iret (v := y12) hx hb hr (fun t ht hW => ⟨⟨_, (), rfl, rfl, by show va_P _ _ _ t.heap; rw [ht]; exact hP⟩, hS.F ht⟩) hS.2.2 dX9_roomFor_102
    · replace h := oi_f hc h
      refine lv_iconst (v := 0) hx hb dX9_roomFor_24 (by decide) ?_
      obtain ⟨rfl, rfl⟩ := os2 h
      exact W.iret (v := 0) hx hb hr (fun t ht hW => ⟨⟨_, (), rfl, rfl, by show va_P _ _ _ t.heap; rw [ht]; exact hP⟩, hS.F ht⟩) hS.2.2 dX9_roomFor_25
  have h := hF
  unfold G_X9_roomFor at h
  refine lv_aload_n hx hb dX9_roomFor_0 rfl (lv_at hl 0 rfl) ?_
  refine lv_iload_n hx hb dX9_roomFor_1 rfl (lv_at hl 1 rfl) ?_
  refine lv_iload_n hx hb dX9_roomFor_2 rfl (lv_at hl 2 rfl) ?_
  refine k_X9_isRange S aM_RX9_250 ⟨Nat.le_of_ble_eq_true rfl, Nat.le_of_ble_eq_true rfl⟩ ⟨Nat.zero_le _, Nat.zero_le _⟩ hl.1 (Nat.le_of_ble_eq_true rfl) dX9_roomFor_3 (fun r1 er1 br1 => ?_)
  replace h := olet_s er1 h
  refine lv_if_eq (tgt := 13) hx hb dX9_roomFor_6 (by decide) (fun hc => ?_) (fun hc => ?_)
  · replace h := oi_t hc h
    refine lv_iconst (v := 1) hx hb dX9_roomFor_13 (by decide) ?_
    exact hJ14 _ _ _ _ _ _ _ h hP hS (lv_sub hl [0, 1, 2] rfl)
  · replace h := oi_f hc h
    refine lv_iconst (v := 0) hx hb dX9_roomFor_9 (by decide) ?_
    refine lv_goto (tgt := 14) hx hb dX9_roomFor_10 (by decide) ?_
    exact hJ14 _ _ _ _ _ _ _ h hP hS (lv_sub hl [0, 1, 2] rfl)
theorem k_X9_roomFor {p : Program} {l : Launch} {e : Env} {R : Room} {s : State} {m : MethodId} {args : Array Value} {below : List Frame} {meth : Method} {c : Code} {H : Heap} {locs : List Loc} {cells slots : Nat} {Q : State → Prop} {cc : ByteArray} {pc nL idx : Nat} {ls : Array Slot} {rest : List Value} {own : String} {D : va_G} {cI : ClassId} {a : Nat → Nat} {H0 : Heap} {N : Nat} {φ : M2} {p1 : Int32} {p2 : Int32} {hv : Int64} {r0 : Int32} {φr : M2} (S : CallFix p m c cc nL s args AW own) (h1 : Cond.methodLink own idx yX9_roomFor ∈ AW) (hR : 7 + 1 ≤ R.frames ∧ 8 + (6 + 11) + 155 ≤ R.locals) (hc : cells ≤ R.cells ∧ slots ≤ R.slots) (hP : va_P D vwCl (mbW cI a φ hv) H) (hK : va_K D vwCl [(cI, .int)] s) (hDT : ∀ (φ2 : M2) (hv2 : Int64), va_D (fun _ => True) (mbW cI a φ2 hv2)) (hS : va_S (mbA a) H0 H locs) (hF : G_X9_roomFor N φ p1 p2 = some (r0, φr)) (hsz : ls.size = nL) (hW : (rest.map fun v => v.category).sum ≤ 8) (hdg : decode cc pc = .ok (.invokevirtual idx, 3)) (kk : ∀ (H1 : Heap) (locs1 : List Loc), va_P D vwCl (mbW cI a φr hv) H1 → va_S (mbA a) H0 H1 locs1 → W p l e R s m args below meth c H1 locs1 cells slots Q (F0 m (pc + 3) ls (.int r0 :: rest))) : W p l e R s m args below meth c H locs cells slots Q (F0 m pc ls (.int p2 :: .int p1 :: .ref (a 0) :: rest)) :=
  fm_runVi (n := 2) (C := RX9) (As := [.int p1, .int p2]) S (c_X9_roomFor l D cI a N φ p1 p2 hv r0 φr hF) (M_pre (q0 := 0) (ci := 7) hK hP (hDT _ _) rfl rfl) hS h1 aI_X9_roomFor aV_X9_roomFor aN_RX9 aC_X9_roomFor rfl rfl (by decide +kernel) rfl hR hc hsz hW hdg (fun r H1 locs1 hr hP1 hS1 => by subst hr; exact kk H1 locs1 hP1 hS1)
set_option maxHeartbeats 4000000 in
set_option maxRecDepth 100000 in
theorem c_X9_isFalse (l : Launch) (D : va_G) (cI : ClassId) (a : Nat → Nat) (N : Nat) (φ : M2) (p1 : Int32) (hv : Int64) (r0 : Int32) (hF : G_X9_isFalse N φ p1 = some r0) : Met l yX9_isFalse (wsA yX9_isFalse cX9_isFalse 2 (some .boolean)) { frames := 5, cells := 0, slots := 0, locals := 115 } (va_Pc [.ref (a 0), .int p1] (mbP D cI a φ hv)) (vp_Si (fun r => r = r0 ∧ (r = 0 ∨ r = 1))) 0 0 (fun _ => False) := by
  refine Met.ofW (cc := cX9_isFalse) (maxL := 2) (ret := (some .boolean)) (by decide) rfl ?_
  intro p e s m args below meth c s₁ B hml hpre
  obtain ⟨rfl, hP, hK, hD0⟩ := hpre
  have hx := B.exec
  have hb := B.bytes
  have hr := B.returns
  have hA : ∀ w ∈ AW, w.before _ s = true := fun w h => atoms_spec (ws := wsA yX9_isFalse cX9_isFalse 2 (some .boolean)) B.pre w (List.mem_cons_of_mem _ h)
  have hown : s.vm.findClass RX9 = some m.cls := findClass_of_methodNamed B.named
  have hlocks := B.notSynchronized
  have hDT := M_dT hD0
  have S : CallFix p m c cX9_isFalse 2 s ([.ref (a 0), .int p1] : List Value).toArray AW RX9 := ⟨hx, hb, hml, hown, hA⟩
  have hl := lv_entry ([.ref (a 0), .int p1]) (n := 2) (Nat.le_of_ble_eq_true rfl)
  rw [lg_entry_eq]
  generalize (lg_sl ([.ref (a 0), .int p1]) ++ List.replicate (2 - (lg_sl ([.ref (a 0), .int p1])).length) Slot.unset).toArray = ls at hl ⊢
  have hl : lv_has ls 2 [(0, .ref (a 0)), (1, .int p1)] := hl
  have h := hF
  unfold G_X9_isFalse at h
  refine lv_aload_n hx hb dX9_isFalse_0 rfl (lv_at hl 0 rfl) ?_
  refine lv_iload_n hx hb dX9_isFalse_1 rfl (lv_at hl 1 rfl) ?_
  obtain ⟨r1, h2, h⟩ := obd_e h
  refine k_X9_placeOf S aM_RX9_182 ⟨Nat.le_of_ble_eq_true rfl, Nat.le_of_ble_eq_true rfl⟩ ⟨Nat.zero_le _, Nat.zero_le _⟩ hP hK hDT h2 hl.1 (Nat.le_of_ble_eq_true rfl) dX9_isFalse_2 ?_
  refine lv_iconst (v := (-1)) hx hb dX9_isFalse_5 (by decide) ?_
  refine lv_icmp_eq (tgt := 22) hx hb dX9_isFalse_6 (by decide) (fun hc => ?_) (fun hc => ?_)
  · replace h := oi_t hc h
    refine lv_iconst (v := 0) hx hb dX9_isFalse_22 (by decide) ?_
    obtain rfl := os1 h
    exact W.zret (v := 0) (ty := .boolean) hx hb hr rfl (fun t ht hW => ⟨_, rfl, ⟨rfl, (Or.inl rfl)⟩, ht⟩) (fun q hq => absurd hq List.not_mem_nil) dX9_isFalse_23
  · replace h := oi_f hc h
    refine lv_aload_n hx hb dX9_isFalse_9 rfl (lv_at hl 0 rfl) ?_
    refine lv_iload_n hx hb dX9_isFalse_10 rfl (lv_at hl 1 rfl) ?_
    obtain ⟨r3, h4, h⟩ := obd_e h
    refine k_X9_indexOf S aM_RX9_169 ⟨Nat.le_of_ble_eq_true rfl, Nat.le_of_ble_eq_true rfl⟩ ⟨Nat.zero_le _, Nat.zero_le _⟩ hP hK hDT h4 hl.1 (Nat.le_of_ble_eq_true rfl) dX9_isFalse_11 ?_
    refine lv_iconst (v := (-1)) hx hb dX9_isFalse_14 (by decide) ?_
    refine lv_icmp_ne (tgt := 22) hx hb dX9_isFalse_15 (by decide) (fun hc => ?_) (fun hc => ?_)
    · replace h := oi_f hc h
      refine lv_iconst (v := 0) hx hb dX9_isFalse_22 (by decide) ?_
      obtain rfl := os1 h
      exact W.zret (v := 0) (ty := .boolean) hx hb hr rfl (fun t ht hW => ⟨_, rfl, ⟨rfl, (Or.inl rfl)⟩, ht⟩) (fun q hq => absurd hq List.not_mem_nil) dX9_isFalse_23
    · replace h := oi_t hc h
      refine lv_iconst (v := 1) hx hb dX9_isFalse_18 (by decide) ?_
      refine lv_goto (tgt := 23) hx hb dX9_isFalse_19 (by decide) ?_
      obtain rfl := os1 h
      exact W.zret (v := 1) (ty := .boolean) hx hb hr rfl (fun t ht hW => ⟨_, rfl, ⟨rfl, (Or.inr rfl)⟩, ht⟩) (fun q hq => absurd hq List.not_mem_nil) dX9_isFalse_23
theorem k_X9_isFalse {p : Program} {l : Launch} {e : Env} {R : Room} {s : State} {m : MethodId} {args : Array Value} {below : List Frame} {meth : Method} {c : Code} {H : Heap} {locs : List Loc} {cells slots : Nat} {Q : State → Prop} {cc : ByteArray} {pc nL idx : Nat} {ls : Array Slot} {rest : List Value} {own : String} {D : va_G} {cI : ClassId} {a : Nat → Nat} {N : Nat} {φ : M2} {p1 : Int32} {hv : Int64} {r0 : Int32} (S : CallFix p m c cc nL s args AW own) (h1 : Cond.methodLink own idx yX9_isFalse ∈ AW) (hR : 5 + 1 ≤ R.frames ∧ 8 + (2 + 11) + 115 ≤ R.locals) (hc : cells ≤ R.cells ∧ slots ≤ R.slots) (hP : va_P D vwCl (mbW cI a φ hv) H) (hK : va_K D vwCl [(cI, .int)] s) (hDT : ∀ (φ2 : M2) (hv2 : Int64), va_D (fun _ => True) (mbW cI a φ2 hv2)) (hF : G_X9_isFalse N φ p1 = some r0) (hsz : ls.size = nL) (hW : (rest.map fun v => v.category).sum ≤ 8) (hdg : decode cc pc = .ok (.invokevirtual idx, 3)) (kk : (r0 = 0 ∨ r0 = 1) → W p l e R s m args below meth c H locs cells slots Q (F0 m (pc + 3) ls (.int r0 :: rest))) : W p l e R s m args below meth c H locs cells slots Q (F0 m pc ls (.int p1 :: .ref (a 0) :: rest)) :=
  fm_runV (n := 1) (C := RX9) (As := [.int p1]) S (c_X9_isFalse l D cI a N φ p1 hv r0 hF) (M_pre (q0 := 0) (ci := 7) hK hP (hDT _ _) rfl rfl) h1 aI_X9_isFalse aV_X9_isFalse aN_RX9 aC_X9_isFalse rfl rfl (by decide +kernel) rfl hR hc hsz hW hdg (fun r hr => by obtain ⟨rfl, hz⟩ := hr; exact kk hz)
set_option maxHeartbeats 4000000 in
set_option maxRecDepth 100000 in
theorem c_X9_falseMany (l : Launch) (D : va_G) (cI : ClassId) (a : Nat → Nat) (N : Nat) (φ : M2) (p1 : Int32) (p2 : Int32) (hv : Int64) (r0 : Int32) (hF : G_X9_falseMany N φ p1 p2 = some r0) : Met l yX9_falseMany (wsA yX9_falseMany cX9_falseMany 5 (some .int)) { frames := 6, cells := 0, slots := 0, locals := 136 } (va_Pc [.ref (a 0), .int p1, .int p2] (mbP D cI a φ hv)) (vp_Si (fun r => r = r0)) 0 0 (fun _ => False) := by
  refine Met.ofW (cc := cX9_falseMany) (maxL := 5) (ret := (some .int)) (by decide) rfl ?_
  intro p e s m args below meth c s₁ B hml hpre
  obtain ⟨rfl, hP, hK, hD0⟩ := hpre
  have hx := B.exec
  have hb := B.bytes
  have hr := B.returns
  have hA : ∀ w ∈ AW, w.before _ s = true := fun w h => atoms_spec (ws := wsA yX9_falseMany cX9_falseMany 5 (some .int)) B.pre w (List.mem_cons_of_mem _ h)
  have hown : s.vm.findClass RX9 = some m.cls := findClass_of_methodNamed B.named
  have hlocks := B.notSynchronized
  have hDT := M_dT hD0
  have S : CallFix p m c cX9_falseMany 5 s ([.ref (a 0), .int p1, .int p2] : List Value).toArray AW RX9 := ⟨hx, hb, hml, hown, hA⟩
  have hl := lv_entry ([.ref (a 0), .int p1, .int p2]) (n := 5) (Nat.le_of_ble_eq_true rfl)
  rw [lg_entry_eq]
  generalize (lg_sl ([.ref (a 0), .int p1, .int p2]) ++ List.replicate (5 - (lg_sl ([.ref (a 0), .int p1, .int p2])).length) Slot.unset).toArray = ls at hl ⊢
  have hl : lv_has ls 5 [(0, .ref (a 0)), (1, .int p1), (2, .int p2)] := hl
  have hL5 : ∀ (k : Nat) (v2 : Int32) (v3 : Int32) (v4 : Int32) (ls : Array Slot) (o3 : Int32), L_X9_falseMany_5 N φ v2 k v3 v4 = some o3 → lv_has ls 5 [(0, .ref (a 0)), (2, .int v2), (3, .int v3), (4, .int v4)] → (∀ (ls1 : Array Slot), lv_has ls1 5 [(3, .int o3)] → W p l e (headSpec (wsA yX9_falseMany cX9_falseMany 5 (some .int)) { frames := 6, cells := 0, slots := 0, locals := 136 }).room s m ([.ref (a 0), .int p1, .int p2] : List Value).toArray below meth c s.heap [] 0 0 (MQ below (vp_Si (fun r => r = r0)) ([.ref (a 0), .int p1, .int p2] : List Value).toArray s 0 0 (fun _ => False)) (F0 m 34 ls1 [])) → W p l e (headSpec (wsA yX9_falseMany cX9_falseMany 5 (some .int)) { frames := 6, cells := 0, slots := 0, locals := 136 }).room s m ([.ref (a 0), .int p1, .int p2] : List Value).toArray below meth c s.heap [] 0 0 (MQ below (vp_Si (fun r => r = r0)) ([.ref (a 0), .int p1, .int p2] : List Value).toArray s 0 0 (fun _ => False)) (F0 m 5 ls []) := by
    intro k
    induction k with
    | zero =>
      intro v2 v3 v4 ls o3 h hl kk
      exact no_s h
    | succ k ih =>
      intro v2 v3 v4 ls o3 h hl kk
      replace h : B_X9_falseMany_5 N φ v2 (L_X9_falseMany_5 N φ v2 k) v3 v4 = some o3 := h
      unfold B_X9_falseMany_5 at h
      refine lv_iload hx hb dX9_falseMany_5 (lv_at hl 3 rfl) ?_
      refine lv_iload_n hx hb dX9_falseMany_7 rfl (lv_at hl 1 rfl) ?_
      refine lv_icmp_gt (tgt := 34) hx hb dX9_falseMany_8 (by decide) (fun hc => ?_) (fun hc => ?_)
      · replace h := oi_t hc h
        obtain rfl := os1 h
        exact kk _ (lv_sub hl [2] rfl)
      · replace h := oi_f hc h
        refine lv_iload_n hx hb dX9_falseMany_11 rfl (lv_at hl 2 rfl) ?_
        refine lv_aload_n hx hb dX9_falseMany_12 rfl (lv_at hl 0 rfl) ?_
        refine lv_iload hx hb dX9_falseMany_13 (lv_at hl 3 rfl) ?_
        obtain ⟨r1, h2, h⟩ := obd_e h
        refine k_X9_isFalse S aM_RX9_253 ⟨Nat.le_of_ble_eq_true rfl, Nat.le_of_ble_eq_true rfl⟩ ⟨Nat.zero_le _, Nat.zero_le _⟩ hP hK hDT h2 hl.1 (Nat.le_of_ble_eq_true rfl) dX9_falseMany_15 (fun br1 => ?_)
        refine lv_if_eq (tgt := 25) hx hb dX9_falseMany_18 (by decide) (fun hc => ?_) (fun hc => ?_)
        · replace h := oi_t hc h
          refine lv_iconst (v := 0) hx hb dX9_falseMany_25 (by decide) ?_
          refine lv_iadd hx hb dX9_falseMany_26 ?_
          refine lv_topi (fun x3 ex3 => ?_)
          replace h := olet_s ex3 h
          refine lv_istore_n (lv' := [(3, .int x3), (0, .ref (a 0)), (2, .int v2), (4, .int v4)]) hx hb dX9_falseMany_27 rfl hl (by decide) rfl (fun ls hl => ?_)
          refine lv_iinc (v := v4 + 1) (lv' := [(4, .int (v4 + 1)), (3, .int x3), (0, .ref (a 0)), (2, .int v2)]) hx hb dX9_falseMany_28 hl (k := 3) rfl (fm_inc _ _ _ (by decide)) (by decide) rfl (fun ls hl => ?_)
          refine lv_goto (tgt := 5) hx hb dX9_falseMany_31 (by decide) ?_
          exact ih _ _ _ _ _ h (lv_sub hl [2, 3, 1, 0] rfl) kk
        · replace h := oi_f hc h
          refine lv_iconst (v := 1) hx hb dX9_falseMany_21 (by decide) ?_
          refine lv_goto (tgt := 26) hx hb dX9_falseMany_22 (by decide) ?_
          refine lv_iadd hx hb dX9_falseMany_26 ?_
          refine lv_topi (fun x4 ex4 => ?_)
          replace h := olet_s ex4 h
          refine lv_istore_n (lv' := [(3, .int x4), (0, .ref (a 0)), (2, .int v2), (4, .int v4)]) hx hb dX9_falseMany_27 rfl hl (by decide) rfl (fun ls hl => ?_)
          refine lv_iinc (v := v4 + 1) (lv' := [(4, .int (v4 + 1)), (3, .int x4), (0, .ref (a 0)), (2, .int v2)]) hx hb dX9_falseMany_28 hl (k := 3) rfl (fm_inc _ _ _ (by decide)) (by decide) rfl (fun ls hl => ?_)
          refine lv_goto (tgt := 5) hx hb dX9_falseMany_31 (by decide) ?_
          exact ih _ _ _ _ _ h (lv_sub hl [2, 3, 1, 0] rfl) kk
  have h := hF
  unfold G_X9_falseMany at h
  refine lv_iconst (v := 0) hx hb dX9_falseMany_0 (by decide) ?_
  refine lv_istore_n (lv' := [(3, .int 0), (0, .ref (a 0)), (1, .int p1), (2, .int p2)]) hx hb dX9_falseMany_1 rfl hl (by decide) rfl (fun ls hl => ?_)
  refine lv_iload_n hx hb dX9_falseMany_2 rfl (lv_at hl 2 rfl) ?_
  refine lv_istore (lv' := [(4, .int p1), (3, .int 0), (0, .ref (a 0)), (1, .int p1), (2, .int p2)]) hx hb dX9_falseMany_3 hl (by decide) rfl (fun ls hl => ?_)
  obtain ⟨y5, h6, h⟩ := obd_e h
  refine hL5 N _ _ _ _ _ h6 (lv_sub hl [2, 4, 1, 0] rfl) (fun ls hl => ?_)
  refine lv_iload_n hx hb dX9_falseMany_34 rfl (lv_at hl 0 rfl) ?_
  obtain rfl := os1 h
  exact W.iret (v := y5) hx hb hr (fun t ht hW => ⟨_, rfl, rfl, ht⟩) (fun q hq => absurd hq List.not_mem_nil) dX9_falseMany_35
theorem k_X9_falseMany {p : Program} {l : Launch} {e : Env} {R : Room} {s : State} {m : MethodId} {args : Array Value} {below : List Frame} {meth : Method} {c : Code} {H : Heap} {locs : List Loc} {cells slots : Nat} {Q : State → Prop} {cc : ByteArray} {pc nL idx : Nat} {ls : Array Slot} {rest : List Value} {own : String} {D : va_G} {cI : ClassId} {a : Nat → Nat} {N : Nat} {φ : M2} {p1 : Int32} {p2 : Int32} {hv : Int64} {r0 : Int32} (S : CallFix p m c cc nL s args AW own) (h1 : Cond.methodLink own idx yX9_falseMany ∈ AW) (hR : 6 + 1 ≤ R.frames ∧ 8 + (5 + 11) + 136 ≤ R.locals) (hc : cells ≤ R.cells ∧ slots ≤ R.slots) (hP : va_P D vwCl (mbW cI a φ hv) H) (hK : va_K D vwCl [(cI, .int)] s) (hDT : ∀ (φ2 : M2) (hv2 : Int64), va_D (fun _ => True) (mbW cI a φ2 hv2)) (hF : G_X9_falseMany N φ p1 p2 = some r0) (hsz : ls.size = nL) (hW : (rest.map fun v => v.category).sum ≤ 8) (hdg : decode cc pc = .ok (.invokevirtual idx, 3)) (kk : W p l e R s m args below meth c H locs cells slots Q (F0 m (pc + 3) ls (.int r0 :: rest))) : W p l e R s m args below meth c H locs cells slots Q (F0 m pc ls (.int p2 :: .int p1 :: .ref (a 0) :: rest)) :=
  fm_runV (n := 2) (C := RX9) (As := [.int p1, .int p2]) S (c_X9_falseMany l D cI a N φ p1 p2 hv r0 hF) (M_pre (q0 := 0) (ci := 7) hK hP (hDT _ _) rfl rfl) h1 aI_X9_falseMany aV_X9_falseMany aN_RX9 aC_X9_falseMany rfl rfl (by decide +kernel) rfl hR hc hsz hW hdg (fun r hr => by subst hr; exact kk)
set_option maxHeartbeats 4000000 in
set_option maxRecDepth 100000 in
theorem c_X9_falseKeys (l : Launch) (D : va_G) (cI : ClassId) (a : Nat → Nat) (N : Nat) (φ : M2) (p1 : Int32) (p2 : Int32) (hv : Int64) (r0 : Int32) (φr : M2) (hF : G_X9_falseKeys N φ p1 p2 = some (r0, φr)) : Met l yX9_falseKeys (wsA yX9_falseKeys cX9_falseKeys 3 (some .int)) { frames := 7, cells := 0, slots := 0, locals := 160 } (va_Pc [.ref (a 0), .int p1, .int p2] (mbP D cI a φ hv)) (va_Qi (fun (r : Int32) (_ : Unit) => r = r0) (fun _ t => va_P D vwCl (mbW cI a φr hv) t.heap) (mbA a)) 0 0 (mbA a) := by
  refine Met.ofW (cc := cX9_falseKeys) (maxL := 3) (ret := (some .int)) (by decide) rfl ?_
  intro p e s m args below meth c s₁ B hml hpre
  obtain ⟨rfl, hP, hK, hD0⟩ := hpre
  have hx := B.exec
  have hb := B.bytes
  have hr := B.returns
  have hA : ∀ w ∈ AW, w.before _ s = true := fun w h => atoms_spec (ws := wsA yX9_falseKeys cX9_falseKeys 3 (some .int)) B.pre w (List.mem_cons_of_mem _ h)
  have hown : s.vm.findClass RX9 = some m.cls := findClass_of_methodNamed B.named
  have hlocks := B.notSynchronized
  have hDT := M_dT hD0
  have hDA := M_dA hD0
  have hS : va_S (mbA a) s.heap s.heap [] := va_S.rf
  have S : CallFix p m c cX9_falseKeys 3 s ([.ref (a 0), .int p1, .int p2] : List Value).toArray AW RX9 := ⟨hx, hb, hml, hown, hA⟩
  have hl := lv_entry ([.ref (a 0), .int p1, .int p2]) (n := 3) (Nat.le_of_ble_eq_true rfl)
  rw [lg_entry_eq]
  generalize (lg_sl ([.ref (a 0), .int p1, .int p2]) ++ List.replicate (3 - (lg_sl ([.ref (a 0), .int p1, .int p2])).length) Slot.unset).toArray = ls at hl ⊢
  have hl : lv_has ls 3 [(0, .ref (a 0)), (1, .int p1), (2, .int p2)] := hl
  have h := hF
  unfold G_X9_falseKeys at h
  refine lv_aload_n hx hb dX9_falseKeys_0 rfl (lv_at hl 0 rfl) ?_
  refine lv_iload_n hx hb dX9_falseKeys_1 rfl (lv_at hl 1 rfl) ?_
  refine lv_iload_n hx hb dX9_falseKeys_2 rfl (lv_at hl 2 rfl) ?_
  refine k_X9_isRange S aM_RX9_250 ⟨Nat.le_of_ble_eq_true rfl, Nat.le_of_ble_eq_true rfl⟩ ⟨Nat.zero_le _, Nat.zero_le _⟩ hl.1 (Nat.le_of_ble_eq_true rfl) dX9_falseKeys_3 (fun r1 er1 br1 => ?_)
  replace h := olet_s er1 h
  refine lv_if_eq (tgt := 13) hx hb dX9_falseKeys_6 (by decide) (fun hc => ?_) (fun hc => ?_)
  · replace h := oi_t hc h
    refine lv_iconst (v := 1) hx hb dX9_falseKeys_13 (by decide) ?_
    refine M_p0_5 hx hb hA hown aF_RX9_64 hK hP (hDA _ _) hS dX9_falseKeys_14 (fun w2 H locs ew2 hP hS => ?_)
    replace h := olet_s ew2 h
    refine lv_aload_n hx hb dX9_falseKeys_17 rfl (lv_at hl 0 rfl) ?_
    refine M_g0_5 hx hb hA hown aF_RX9_64 hK hP dX9_falseKeys_18 ?_
    refine lv_if_eq (tgt := 28) hx hb dX9_falseKeys_21 (by decide) (fun hc => ?_) (fun hc => ?_)
    · replace h := oi_t hc h
      refine lv_aload_n hx hb dX9_falseKeys_28 rfl (lv_at hl 0 rfl) ?_
      refine lv_iload_n hx hb dX9_falseKeys_29 rfl (lv_at hl 1 rfl) ?_
      refine lv_iload_n hx hb dX9_falseKeys_30 rfl (lv_at hl 2 rfl) ?_
      obtain ⟨r3, h4, h⟩ := obd_e h
      refine k_X9_falseMany S aM_RX9_256 ⟨Nat.le_of_ble_eq_true rfl, Nat.le_of_ble_eq_true rfl⟩ ⟨Nat.zero_le _, Nat.zero_le _⟩ hP hK hDT h4 hl.1 (Nat.le_of_ble_eq_true rfl) dX9_falseKeys_31 ?_
      obtain ⟨rfl, rfl⟩ := os2 h
      exact W.iret (v := r3) hx hb hr (fun t ht hW => ⟨⟨_, (), rfl, rfl, by show va_P _ _ _ t.heap; rw [ht]; exact hP⟩, hS.F ht⟩) hS.2.2 dX9_falseKeys_34
    · replace h := oi_f hc h
      refine lv_iconst (v := 0) hx hb dX9_falseKeys_24 (by decide) ?_
      refine lv_goto (tgt := 34) hx hb dX9_falseKeys_25 (by decide) ?_
      obtain ⟨rfl, rfl⟩ := os2 h
      exact W.iret (v := 0) hx hb hr (fun t ht hW => ⟨⟨_, (), rfl, rfl, by show va_P _ _ _ t.heap; rw [ht]; exact hP⟩, hS.F ht⟩) hS.2.2 dX9_falseKeys_34
  · replace h := oi_f hc h
    refine lv_iconst (v := 0) hx hb dX9_falseKeys_9 (by decide) ?_
    refine lv_goto (tgt := 14) hx hb dX9_falseKeys_10 (by decide) ?_
    refine M_p0_5 hx hb hA hown aF_RX9_64 hK hP (hDA _ _) hS dX9_falseKeys_14 (fun w5 H locs ew5 hP hS => ?_)
    replace h := olet_s ew5 h
    refine lv_aload_n hx hb dX9_falseKeys_17 rfl (lv_at hl 0 rfl) ?_
    refine M_g0_5 hx hb hA hown aF_RX9_64 hK hP dX9_falseKeys_18 ?_
    refine lv_if_eq (tgt := 28) hx hb dX9_falseKeys_21 (by decide) (fun hc => ?_) (fun hc => ?_)
    · replace h := oi_t hc h
      refine lv_aload_n hx hb dX9_falseKeys_28 rfl (lv_at hl 0 rfl) ?_
      refine lv_iload_n hx hb dX9_falseKeys_29 rfl (lv_at hl 1 rfl) ?_
      refine lv_iload_n hx hb dX9_falseKeys_30 rfl (lv_at hl 2 rfl) ?_
      obtain ⟨r6, h7, h⟩ := obd_e h
      refine k_X9_falseMany S aM_RX9_256 ⟨Nat.le_of_ble_eq_true rfl, Nat.le_of_ble_eq_true rfl⟩ ⟨Nat.zero_le _, Nat.zero_le _⟩ hP hK hDT h7 hl.1 (Nat.le_of_ble_eq_true rfl) dX9_falseKeys_31 ?_
      obtain ⟨rfl, rfl⟩ := os2 h
      exact W.iret (v := r6) hx hb hr (fun t ht hW => ⟨⟨_, (), rfl, rfl, by show va_P _ _ _ t.heap; rw [ht]; exact hP⟩, hS.F ht⟩) hS.2.2 dX9_falseKeys_34
    · replace h := oi_f hc h
      refine lv_iconst (v := 0) hx hb dX9_falseKeys_24 (by decide) ?_
      refine lv_goto (tgt := 34) hx hb dX9_falseKeys_25 (by decide) ?_
      obtain ⟨rfl, rfl⟩ := os2 h
      exact W.iret (v := 0) hx hb hr (fun t ht hW => ⟨⟨_, (), rfl, rfl, by show va_P _ _ _ t.heap; rw [ht]; exact hP⟩, hS.F ht⟩) hS.2.2 dX9_falseKeys_34
theorem k_X9_falseKeys {p : Program} {l : Launch} {e : Env} {R : Room} {s : State} {m : MethodId} {args : Array Value} {below : List Frame} {meth : Method} {c : Code} {H : Heap} {locs : List Loc} {cells slots : Nat} {Q : State → Prop} {cc : ByteArray} {pc nL idx : Nat} {ls : Array Slot} {rest : List Value} {own : String} {D : va_G} {cI : ClassId} {a : Nat → Nat} {H0 : Heap} {N : Nat} {φ : M2} {p1 : Int32} {p2 : Int32} {hv : Int64} {r0 : Int32} {φr : M2} (S : CallFix p m c cc nL s args AW own) (h1 : Cond.methodLink own idx yX9_falseKeys ∈ AW) (hR : 7 + 1 ≤ R.frames ∧ 8 + (3 + 11) + 160 ≤ R.locals) (hc : cells ≤ R.cells ∧ slots ≤ R.slots) (hP : va_P D vwCl (mbW cI a φ hv) H) (hK : va_K D vwCl [(cI, .int)] s) (hDT : ∀ (φ2 : M2) (hv2 : Int64), va_D (fun _ => True) (mbW cI a φ2 hv2)) (hS : va_S (mbA a) H0 H locs) (hF : G_X9_falseKeys N φ p1 p2 = some (r0, φr)) (hsz : ls.size = nL) (hW : (rest.map fun v => v.category).sum ≤ 8) (hdg : decode cc pc = .ok (.invokevirtual idx, 3)) (kk : ∀ (H1 : Heap) (locs1 : List Loc), va_P D vwCl (mbW cI a φr hv) H1 → va_S (mbA a) H0 H1 locs1 → W p l e R s m args below meth c H1 locs1 cells slots Q (F0 m (pc + 3) ls (.int r0 :: rest))) : W p l e R s m args below meth c H locs cells slots Q (F0 m pc ls (.int p2 :: .int p1 :: .ref (a 0) :: rest)) :=
  fm_runVi (n := 2) (C := RX9) (As := [.int p1, .int p2]) S (c_X9_falseKeys l D cI a N φ p1 p2 hv r0 φr hF) (M_pre (q0 := 0) (ci := 7) hK hP (hDT _ _) rfl rfl) hS h1 aI_X9_falseKeys aV_X9_falseKeys aN_RX9 aC_X9_falseKeys rfl rfl (by decide +kernel) rfl hR hc hsz hW hdg (fun r H1 locs1 hr hP1 hS1 => by subst hr; exact kk H1 locs1 hP1 hS1)
set_option maxHeartbeats 4000000 in
set_option maxRecDepth 100000 in
theorem c_X9_falseKey (l : Launch) (D : va_G) (cI : ClassId) (a : Nat → Nat) (N : Nat) (φ : M2) (p1 : Int32) (hv : Int64) (r0 : Int32) (φr : M2) (hF : G_X9_falseKey N φ p1 = some (r0, φr)) : Met l yX9_falseKey (wsA yX9_falseKey cX9_falseKey 4 (some .int)) { frames := 6, cells := 0, slots := 0, locals := 136 } (va_Pc [.ref (a 0), .int p1] (mbP D cI a φ hv)) (va_Qi (fun (r : Int32) (_ : Unit) => r = r0) (fun _ t => va_P D vwCl (mbW cI a φr hv) t.heap) (mbA a)) 0 0 (mbA a) := by
  refine Met.ofW (cc := cX9_falseKey) (maxL := 4) (ret := (some .int)) (by decide) rfl ?_
  intro p e s m args below meth c s₁ B hml hpre
  obtain ⟨rfl, hP, hK, hD0⟩ := hpre
  have hx := B.exec
  have hb := B.bytes
  have hr := B.returns
  have hA : ∀ w ∈ AW, w.before _ s = true := fun w h => atoms_spec (ws := wsA yX9_falseKey cX9_falseKey 4 (some .int)) B.pre w (List.mem_cons_of_mem _ h)
  have hown : s.vm.findClass RX9 = some m.cls := findClass_of_methodNamed B.named
  have hlocks := B.notSynchronized
  have hDT := M_dT hD0
  have hDA := M_dA hD0
  have hS : va_S (mbA a) s.heap s.heap [] := va_S.rf
  have S : CallFix p m c cX9_falseKey 4 s ([.ref (a 0), .int p1] : List Value).toArray AW RX9 := ⟨hx, hb, hml, hown, hA⟩
  have hl := lv_entry ([.ref (a 0), .int p1]) (n := 4) (Nat.le_of_ble_eq_true rfl)
  rw [lg_entry_eq]
  generalize (lg_sl ([.ref (a 0), .int p1]) ++ List.replicate (4 - (lg_sl ([.ref (a 0), .int p1])).length) Slot.unset).toArray = ls at hl ⊢
  have hl : lv_has ls 4 [(0, .ref (a 0)), (1, .int p1)] := hl
  have hL9 : ∀ (k : Nat) (v1 : Int32) (v2 : Int32) (v3 : Int32) (φ : M2) (H : Heap) (locs : List Loc) (ls : Array Slot) , L_X9_falseKey_9 N v1 k v2 v3 φ = some (r0, φr) → va_P D vwCl (mbW cI a φ hv) H → va_S (mbA a) s.heap H locs → lv_has ls 4 [(0, .ref (a 0)), (1, .int v1), (2, .int v2), (3, .int v3)] → W p l e (headSpec (wsA yX9_falseKey cX9_falseKey 4 (some .int)) { frames := 6, cells := 0, slots := 0, locals := 136 }).room s m ([.ref (a 0), .int p1] : List Value).toArray below meth c H locs 0 0 (MQ below (va_Qi (fun (r : Int32) (_ : Unit) => r = r0) (fun _ t => va_P D vwCl (mbW cI a φr hv) t.heap) (mbA a)) ([.ref (a 0), .int p1] : List Value).toArray s 0 0 (mbA a)) (F0 m 9 ls []) := by
    intro k
    induction k with
    | zero =>
      intro v1 v2 v3 φ H locs ls h hP hS hl
      exact no_s h
    | succ k ih =>
      intro v1 v2 v3 φ H locs ls h hP hS hl
      replace h : B_X9_falseKey_9 N v1 (L_X9_falseKey_9 N v1 k) v2 v3 φ = some (r0, φr) := h
      unfold B_X9_falseKey_9 at h
      refine lv_iload_n hx hb dX9_falseKey_9 rfl (lv_at hl 3 rfl) ?_
      refine lv_sipush (v := 1000) hx hb dX9_falseKey_10 (by decide) ?_
      refine lv_icmp_ge (tgt := 43) hx hb dX9_falseKey_13 (by decide) (fun hc => ?_) (fun hc => ?_)
      · replace h := oi_t hc h
        refine lv_iconst (v := (-1)) hx hb dX9_falseKey_43 (by decide) ?_
        obtain ⟨rfl, rfl⟩ := os2 h
        exact W.iret (v := (-1)) hx hb hr (fun t ht hW => ⟨⟨_, (), rfl, rfl, by show va_P _ _ _ t.heap; rw [ht]; exact hP⟩, hS.F ht⟩) hS.2.2 dX9_falseKey_44
      · replace h := oi_f hc h
        refine lv_iload_n hx hb dX9_falseKey_16 rfl (lv_at hl 1 rfl) ?_
        refine lv_if_lt (tgt := 43) hx hb dX9_falseKey_17 (by decide) (fun hc => ?_) (fun hc => ?_)
        · replace h := oi_t hc h
          refine lv_iconst (v := (-1)) hx hb dX9_falseKey_43 (by decide) ?_
          obtain ⟨rfl, rfl⟩ := os2 h
          exact W.iret (v := (-1)) hx hb hr (fun t ht hW => ⟨⟨_, (), rfl, rfl, by show va_P _ _ _ t.heap; rw [ht]; exact hP⟩, hS.F ht⟩) hS.2.2 dX9_falseKey_44
        · replace h := oi_f hc h
          refine lv_aload_n hx hb dX9_falseKey_20 rfl (lv_at hl 0 rfl) ?_
          refine lv_iload_n hx hb dX9_falseKey_21 rfl (lv_at hl 3 rfl) ?_
          obtain ⟨r2, h3, h⟩ := obd_e h
          refine k_X9_isFalse S aM_RX9_253 ⟨Nat.le_of_ble_eq_true rfl, Nat.le_of_ble_eq_true rfl⟩ ⟨Nat.zero_le _, Nat.zero_le _⟩ hP hK hDT h3 hl.1 (Nat.le_of_ble_eq_true rfl) dX9_falseKey_22 (fun br2 => ?_)
          refine lv_if_eq (tgt := 37) hx hb dX9_falseKey_25 (by decide) (fun hc => ?_) (fun hc => ?_)
          · replace h := oi_t hc h
            refine lv_iinc (v := v3 + 1) (lv' := [(3, .int (v3 + 1)), (0, .ref (a 0)), (1, .int v1), (2, .int v2)]) hx hb dX9_falseKey_37 hl (k := 3) rfl (fm_inc _ _ _ (by decide)) (by decide) rfl (fun ls hl => ?_)
            refine lv_goto (tgt := 9) hx hb dX9_falseKey_40 (by decide) ?_
            exact ih _ _ _ _ _ _ _  h hP hS (lv_sub hl [1, 2, 3, 0] rfl)
          · replace h := oi_f hc h
            refine lv_iload_n hx hb dX9_falseKey_28 rfl (lv_at hl 2 rfl) ?_
            refine lv_if_ne (tgt := 34) hx hb dX9_falseKey_29 (by decide) (fun hc => ?_) (fun hc => ?_)
            · replace h := oi_f hc h
              refine lv_iinc (v := v2 + (-1)) (lv' := [(2, .int (v2 + (-1))), (0, .ref (a 0)), (1, .int v1), (3, .int v3)]) hx hb dX9_falseKey_34 hl (k := 2) rfl (fm_inc _ _ _ (by decide)) (by decide) rfl (fun ls hl => ?_)
              refine lv_iinc (v := v3 + 1) (lv' := [(3, .int (v3 + 1)), (2, .int (v2 + (-1))), (0, .ref (a 0)), (1, .int v1)]) hx hb dX9_falseKey_37 hl (k := 3) rfl (fm_inc _ _ _ (by decide)) (by decide) rfl (fun ls hl => ?_)
              refine lv_goto (tgt := 9) hx hb dX9_falseKey_40 (by decide) ?_
              exact ih _ _ _ _ _ _ _  h hP hS (lv_sub hl [2, 3, 1, 0] rfl)
            · replace h := oi_t hc h
              refine lv_iload_n hx hb dX9_falseKey_32 rfl (lv_at hl 3 rfl) ?_
              obtain ⟨rfl, rfl⟩ := os2 h
              exact W.iret (v := v3) hx hb hr (fun t ht hW => ⟨⟨_, (), rfl, rfl, by show va_P _ _ _ t.heap; rw [ht]; exact hP⟩, hS.F ht⟩) hS.2.2 dX9_falseKey_33
  have h := hF
  unfold G_X9_falseKey at h
  refine lv_aload_n hx hb dX9_falseKey_0 rfl (lv_at hl 0 rfl) ?_
  refine lv_iconst (v := 0) hx hb dX9_falseKey_1 (by decide) ?_
  refine M_p0_5 hx hb hA hown aF_RX9_64 hK hP (hDA _ _) hS dX9_falseKey_2 (fun w1 H locs ew1 hP hS => ?_)
  replace h := olet_s ew1 h
  refine lv_iload_n hx hb dX9_falseKey_5 rfl (lv_at hl 1 rfl) ?_
  refine lv_istore_n (lv' := [(2, .int p1), (0, .ref (a 0)), (1, .int p1)]) hx hb dX9_falseKey_6 rfl hl (by decide) rfl (fun ls hl => ?_)
  refine lv_iconst (v := 0) hx hb dX9_falseKey_7 (by decide) ?_
  refine lv_istore_n (lv' := [(3, .int 0), (2, .int p1), (0, .ref (a 0)), (1, .int p1)]) hx hb dX9_falseKey_8 rfl hl (by decide) rfl (fun ls hl => ?_)
  exact hL9 N _ _ _ _ _ _ _ h hP hS (lv_sub hl [2, 3, 1, 0] rfl)
theorem k_X9_falseKey {p : Program} {l : Launch} {e : Env} {R : Room} {s : State} {m : MethodId} {args : Array Value} {below : List Frame} {meth : Method} {c : Code} {H : Heap} {locs : List Loc} {cells slots : Nat} {Q : State → Prop} {cc : ByteArray} {pc nL idx : Nat} {ls : Array Slot} {rest : List Value} {own : String} {D : va_G} {cI : ClassId} {a : Nat → Nat} {H0 : Heap} {N : Nat} {φ : M2} {p1 : Int32} {hv : Int64} {r0 : Int32} {φr : M2} (S : CallFix p m c cc nL s args AW own) (h1 : Cond.methodLink own idx yX9_falseKey ∈ AW) (hR : 6 + 1 ≤ R.frames ∧ 8 + (4 + 11) + 136 ≤ R.locals) (hc : cells ≤ R.cells ∧ slots ≤ R.slots) (hP : va_P D vwCl (mbW cI a φ hv) H) (hK : va_K D vwCl [(cI, .int)] s) (hDT : ∀ (φ2 : M2) (hv2 : Int64), va_D (fun _ => True) (mbW cI a φ2 hv2)) (hS : va_S (mbA a) H0 H locs) (hF : G_X9_falseKey N φ p1 = some (r0, φr)) (hsz : ls.size = nL) (hW : (rest.map fun v => v.category).sum ≤ 8) (hdg : decode cc pc = .ok (.invokevirtual idx, 3)) (kk : ∀ (H1 : Heap) (locs1 : List Loc), va_P D vwCl (mbW cI a φr hv) H1 → va_S (mbA a) H0 H1 locs1 → W p l e R s m args below meth c H1 locs1 cells slots Q (F0 m (pc + 3) ls (.int r0 :: rest))) : W p l e R s m args below meth c H locs cells slots Q (F0 m pc ls (.int p1 :: .ref (a 0) :: rest)) :=
  fm_runVi (n := 1) (C := RX9) (As := [.int p1]) S (c_X9_falseKey l D cI a N φ p1 hv r0 φr hF) (M_pre (q0 := 0) (ci := 7) hK hP (hDT _ _) rfl rfl) hS h1 aI_X9_falseKey aV_X9_falseKey aN_RX9 aC_X9_falseKey rfl rfl (by decide +kernel) rfl hR hc hsz hW hdg (fun r H1 locs1 hr hP1 hS1 => by subst hr; exact kk H1 locs1 hP1 hS1)
set_option maxHeartbeats 4000000 in
set_option maxRecDepth 100000 in
theorem c_X9_blamed (l : Launch) (D : va_G) (cI : ClassId) (a : Nat → Nat) (N : Nat) (φ : M2) (p1 : Int32) (p2 : Int32) (hv : Int64) (r0 : Int32) (φr : M2) (hF : G_X9_blamed N φ p1 p2 = some (r0, φr)) : Met l yX9_blamed (wsA yX9_blamed cX9_blamed 7 (some .int)) { frames := 7, cells := 0, slots := 0, locals := 160 } (va_Pc [.ref (a 0), .int p1, .int p2] (mbP D cI a φ hv)) (va_Qi (fun (r : Int32) (_ : Unit) => r = r0) (fun _ t => va_P D vwCl (mbW cI a φr hv) t.heap) (mbA a)) 0 0 (mbA a) := by
  refine Met.ofW (cc := cX9_blamed) (maxL := 7) (ret := (some .int)) (by decide) rfl ?_
  intro p e s m args below meth c s₁ B hml hpre
  obtain ⟨rfl, hP, hK, hD0⟩ := hpre
  have hx := B.exec
  have hb := B.bytes
  have hr := B.returns
  have hA : ∀ w ∈ AW, w.before _ s = true := fun w h => atoms_spec (ws := wsA yX9_blamed cX9_blamed 7 (some .int)) B.pre w (List.mem_cons_of_mem _ h)
  have hown : s.vm.findClass RX9 = some m.cls := findClass_of_methodNamed B.named
  have hlocks := B.notSynchronized
  have hDT := M_dT hD0
  have hDA := M_dA hD0
  have hS : va_S (mbA a) s.heap s.heap [] := va_S.rf
  have S : CallFix p m c cX9_blamed 7 s ([.ref (a 0), .int p1, .int p2] : List Value).toArray AW RX9 := ⟨hx, hb, hml, hown, hA⟩
  have hl := lv_entry ([.ref (a 0), .int p1, .int p2]) (n := 7) (Nat.le_of_ble_eq_true rfl)
  rw [lg_entry_eq]
  generalize (lg_sl ([.ref (a 0), .int p1, .int p2]) ++ List.replicate (7 - (lg_sl ([.ref (a 0), .int p1, .int p2])).length) Slot.unset).toArray = ls at hl ⊢
  have hl : lv_has ls 7 [(0, .ref (a 0)), (1, .int p1), (2, .int p2)] := hl
  have hJ15 : ∀ (v1 : Int32) (v2 : Int32) (s0 : Int32) (φ : M2) (H : Heap) (locs : List Loc) (ls : Array Slot), J_X9_blamed_15 N φ v1 v2 s0 = some (r0, φr) → va_P D vwCl (mbW cI a φ hv) H → va_S (mbA a) s.heap H locs → lv_has ls 7 [(0, .ref (a 0)), (1, .int v1), (2, .int v2)] → W p l e (headSpec (wsA yX9_blamed cX9_blamed 7 (some .int)) { frames := 7, cells := 0, slots := 0, locals := 160 }).room s m ([.ref (a 0), .int p1, .int p2] : List Value).toArray below meth c H locs 0 0 (MQ below (va_Qi (fun (r : Int32) (_ : Unit) => r = r0) (fun _ t => va_P D vwCl (mbW cI a φr hv) t.heap) (mbA a)) ([.ref (a 0), .int p1, .int p2] : List Value).toArray s 0 0 (mbA a)) (F0 m 15 ls [.int s0, .ref (a 0)]) := by
    intro v1 v2 s0 φ H locs ls h hP hS hl
    unfold J_X9_blamed_15 at h
    refine M_p0_5 hx hb hA hown aF_RX9_64 hK hP (hDA _ _) hS dX9_blamed_15 (fun w3 H locs ew3 hP hS => ?_)
    replace h := olet_s ew3 h
    refine lv_aload_n hx hb dX9_blamed_18 rfl (lv_at hl 0 rfl) ?_
    refine M_g0_5 hx hb hA hown aF_RX9_64 hK hP dX9_blamed_19 ?_
    refine lv_if_eq (tgt := 27) hx hb dX9_blamed_22 (by decide) (fun hc => ?_) (fun hc => ?_)
    · replace h := oi_t hc h
      refine lv_aload_n hx hb dX9_blamed_27 rfl (lv_at hl 0 rfl) ?_
      refine lv_iconst (v := 0) hx hb dX9_blamed_28 (by decide) ?_
      refine lv_sipush (v := 999) hx hb dX9_blamed_29 (by decide) ?_
      obtain ⟨r4, h5, h⟩ := obd_e h
      refine k_X9_falseMany S aM_RX9_256 ⟨Nat.le_of_ble_eq_true rfl, Nat.le_of_ble_eq_true rfl⟩ ⟨Nat.zero_le _, Nat.zero_le _⟩ hP hK hDT h5 hl.1 (Nat.le_of_ble_eq_true rfl) dX9_blamed_32 ?_
      refine lv_istore_n (lv' := [(3, .int r4), (0, .ref (a 0)), (1, .int v1), (2, .int v2)]) hx hb dX9_blamed_35 rfl hl (by decide) rfl (fun ls hl => ?_)
      refine lv_iload_n hx hb dX9_blamed_36 rfl (lv_at hl 2 rfl) ?_
      refine lv_iload_n hx hb dX9_blamed_37 rfl (lv_at hl 3 rfl) ?_
      refine k_X9_at S aM_RX9_117 ⟨Nat.le_of_ble_eq_true rfl, Nat.le_of_ble_eq_true rfl⟩ ⟨Nat.zero_le _, Nat.zero_le _⟩ hl.1 (Nat.le_of_ble_eq_true rfl) dX9_blamed_38 (fun r6 er6 => ?_)
      replace h := olet_s er6 h
      refine lv_istore (lv' := [(4, .int r6), (3, .int r4), (0, .ref (a 0)), (1, .int v1), (2, .int v2)]) hx hb dX9_blamed_41 hl (by decide) rfl (fun ls hl => ?_)
      refine lv_aload_n hx hb dX9_blamed_43 rfl (lv_at hl 2 rfl) ?_
      refine M_g0_0 hx hb hA hown aF_RX9_7 hK hP dX9_blamed_44 ?_
      refine lv_iload hx hb dX9_blamed_47 (lv_at hl 0 rfl) ?_
      obtain ⟨i7, h⟩ := oin_e h
      refine M_ld1 hx hb hK hP i7 dX9_blamed_49 ?_
      refine lv_topi (fun x8 ex8 => ?_)
      replace h := olet_s ex8 h
      refine lv_istore (lv' := [(5, .int x8), (4, .int r6), (3, .int r4), (0, .ref (a 0)), (1, .int v1), (2, .int v2)]) hx hb dX9_blamed_50 hl (by decide) rfl (fun ls hl => ?_)
      refine lv_aload_n hx hb dX9_blamed_52 rfl (lv_at hl 3 rfl) ?_
      refine M_g0_0 hx hb hA hown aF_RX9_7 hK hP dX9_blamed_53 ?_
      refine lv_iload hx hb dX9_blamed_56 (lv_at hl 1 rfl) ?_
      refine lv_iconst (v := (-1)) hx hb dX9_blamed_58 (by decide) ?_
      obtain ⟨i9, h⟩ := oin_e h
      refine M_st1 hx hb hK hP (hDA _ _) hS i9 dX9_blamed_59 (fun w10 H locs ew10 hP hS => ?_)
      replace h := olet_s ew10 h
      refine lv_aload_n hx hb dX9_blamed_60 rfl (lv_at hl 3 rfl) ?_
      refine lv_iconst (v := 0) hx hb dX9_blamed_61 (by decide) ?_
      refine lv_sipush (v := 999) hx hb dX9_blamed_62 (by decide) ?_
      obtain ⟨r11, h12, h⟩ := obd_e h
      refine k_X9_falseMany S aM_RX9_256 ⟨Nat.le_of_ble_eq_true rfl, Nat.le_of_ble_eq_true rfl⟩ ⟨Nat.zero_le _, Nat.zero_le _⟩ hP hK hDT h12 hl.1 (Nat.le_of_ble_eq_true rfl) dX9_blamed_65 ?_
      refine lv_istore (lv' := [(6, .int r11), (5, .int x8), (4, .int r6), (3, .int r4), (0, .ref (a 0)), (1, .int v1), (2, .int v2)]) hx hb dX9_blamed_68 hl (by decide) rfl (fun ls hl => ?_)
      refine lv_aload_n hx hb dX9_blamed_70 rfl (lv_at hl 4 rfl) ?_
      refine M_g0_0 hx hb hA hown aF_RX9_7 hK hP dX9_blamed_71 ?_
      refine lv_iload hx hb dX9_blamed_74 (lv_at hl 2 rfl) ?_
      refine lv_iload hx hb dX9_blamed_76 (lv_at hl 1 rfl) ?_
      obtain ⟨i13, h⟩ := oin_e h
      refine M_st1 hx hb hK hP (hDA _ _) hS i13 dX9_blamed_78 (fun w14 H locs ew14 hP hS => ?_)
      replace h := olet_s ew14 h
      refine lv_iload_n hx hb dX9_blamed_79 rfl (lv_at hl 3 rfl) ?_
      refine lv_iload hx hb dX9_blamed_80 (lv_at hl 0 rfl) ?_
      refine lv_isub hx hb dX9_blamed_82 ?_
      obtain ⟨rfl, rfl⟩ := os2 h
      exact W.iret (v := (r4 - r11)) hx hb hr (fun t ht hW => ⟨⟨_, (), rfl, rfl, by show va_P _ _ _ t.heap; rw [ht]; exact hP⟩, hS.F ht⟩) hS.2.2 dX9_blamed_83
    · replace h := oi_f hc h
      refine lv_iconst (v := 0) hx hb dX9_blamed_25 (by decide) ?_
      obtain ⟨rfl, rfl⟩ := os2 h
      exact W.iret (v := 0) hx hb hr (fun t ht hW => ⟨⟨_, (), rfl, rfl, by show va_P _ _ _ t.heap; rw [ht]; exact hP⟩, hS.F ht⟩) hS.2.2 dX9_blamed_26
  have h := hF
  unfold G_X9_blamed at h
  refine lv_aload_n hx hb dX9_blamed_0 rfl (lv_at hl 0 rfl) ?_
  refine lv_aload_n hx hb dX9_blamed_1 rfl (lv_at hl 0 rfl) ?_
  refine lv_iload_n hx hb dX9_blamed_2 rfl (lv_at hl 1 rfl) ?_
  refine lv_iload_n hx hb dX9_blamed_3 rfl (lv_at hl 2 rfl) ?_
  obtain ⟨r1, h2, h⟩ := obd_e h
  refine k_X9_isSlot S aM_RX9_244 ⟨Nat.le_of_ble_eq_true rfl, Nat.le_of_ble_eq_true rfl⟩ ⟨Nat.zero_le _, Nat.zero_le _⟩ hP hK hDT h2 hl.1 (Nat.le_of_ble_eq_true rfl) dX9_blamed_4 (fun br1 => ?_)
  refine lv_if_eq (tgt := 14) hx hb dX9_blamed_7 (by decide) (fun hc => ?_) (fun hc => ?_)
  · replace h := oi_t hc h
    refine lv_iconst (v := 1) hx hb dX9_blamed_14 (by decide) ?_
    exact hJ15 _ _ _ _ _ _ _ h hP hS (lv_sub hl [0, 1, 2] rfl)
  · replace h := oi_f hc h
    refine lv_iconst (v := 0) hx hb dX9_blamed_10 (by decide) ?_
    refine lv_goto (tgt := 15) hx hb dX9_blamed_11 (by decide) ?_
    exact hJ15 _ _ _ _ _ _ _ h hP hS (lv_sub hl [0, 1, 2] rfl)
theorem k_X9_blamed {p : Program} {l : Launch} {e : Env} {R : Room} {s : State} {m : MethodId} {args : Array Value} {below : List Frame} {meth : Method} {c : Code} {H : Heap} {locs : List Loc} {cells slots : Nat} {Q : State → Prop} {cc : ByteArray} {pc nL idx : Nat} {ls : Array Slot} {rest : List Value} {own : String} {D : va_G} {cI : ClassId} {a : Nat → Nat} {H0 : Heap} {N : Nat} {φ : M2} {p1 : Int32} {p2 : Int32} {hv : Int64} {r0 : Int32} {φr : M2} (S : CallFix p m c cc nL s args AW own) (h1 : Cond.methodLink own idx yX9_blamed ∈ AW) (hR : 7 + 1 ≤ R.frames ∧ 8 + (7 + 11) + 160 ≤ R.locals) (hc : cells ≤ R.cells ∧ slots ≤ R.slots) (hP : va_P D vwCl (mbW cI a φ hv) H) (hK : va_K D vwCl [(cI, .int)] s) (hDT : ∀ (φ2 : M2) (hv2 : Int64), va_D (fun _ => True) (mbW cI a φ2 hv2)) (hS : va_S (mbA a) H0 H locs) (hF : G_X9_blamed N φ p1 p2 = some (r0, φr)) (hsz : ls.size = nL) (hW : (rest.map fun v => v.category).sum ≤ 8) (hdg : decode cc pc = .ok (.invokevirtual idx, 3)) (kk : ∀ (H1 : Heap) (locs1 : List Loc), va_P D vwCl (mbW cI a φr hv) H1 → va_S (mbA a) H0 H1 locs1 → W p l e R s m args below meth c H1 locs1 cells slots Q (F0 m (pc + 3) ls (.int r0 :: rest))) : W p l e R s m args below meth c H locs cells slots Q (F0 m pc ls (.int p2 :: .int p1 :: .ref (a 0) :: rest)) :=
  fm_runVi (n := 2) (C := RX9) (As := [.int p1, .int p2]) S (c_X9_blamed l D cI a N φ p1 p2 hv r0 φr hF) (M_pre (q0 := 0) (ci := 7) hK hP (hDT _ _) rfl rfl) hS h1 aI_X9_blamed aV_X9_blamed aN_RX9 aC_X9_blamed rfl rfl (by decide +kernel) rfl hR hc hsz hW hdg (fun r H1 locs1 hr hP1 hS1 => by subst hr; exact kk H1 locs1 hP1 hS1)
set_option maxHeartbeats 4000000 in
set_option maxRecDepth 100000 in
theorem c_X9_twins (l : Launch) (D : va_G) (cI : ClassId) (a : Nat → Nat) (N : Nat) (φ : M2) (hv : Int64) (r0 : Int32) (φr : M2) (hF : G_X9_twins N φ = some (r0, φr)) : Met l yX9_twins (wsA yX9_twins cX9_twins 6 (some .int)) { frames := 3, cells := 0, slots := 0, locals := 66 } (va_Pc [.ref (a 0)] (mbP D cI a φ hv)) (va_Qi (fun (r : Int32) (_ : Unit) => r = r0) (fun _ t => va_P D vwCl (mbW cI a φr hv) t.heap) (mbA a)) 0 0 (mbA a) := by
  refine Met.ofW (cc := cX9_twins) (maxL := 6) (ret := (some .int)) (by decide) rfl ?_
  intro p e s m args below meth c s₁ B hml hpre
  obtain ⟨rfl, hP, hK, hD0⟩ := hpre
  have hx := B.exec
  have hb := B.bytes
  have hr := B.returns
  have hA : ∀ w ∈ AW, w.before _ s = true := fun w h => atoms_spec (ws := wsA yX9_twins cX9_twins 6 (some .int)) B.pre w (List.mem_cons_of_mem _ h)
  have hown : s.vm.findClass RX9 = some m.cls := findClass_of_methodNamed B.named
  have hlocks := B.notSynchronized
  have hDT := M_dT hD0
  have hDA := M_dA hD0
  have hS : va_S (mbA a) s.heap s.heap [] := va_S.rf
  have S : CallFix p m c cX9_twins 6 s ([.ref (a 0)] : List Value).toArray AW RX9 := ⟨hx, hb, hml, hown, hA⟩
  have hl := lv_entry ([.ref (a 0)]) (n := 6) (Nat.le_of_ble_eq_true rfl)
  rw [lg_entry_eq]
  generalize (lg_sl ([.ref (a 0)]) ++ List.replicate (6 - (lg_sl ([.ref (a 0)])).length) Slot.unset).toArray = ls at hl ⊢
  have hl : lv_has ls 6 [(0, .ref (a 0))] := hl
  have hL23 : ∀ (k : Nat) (v2 : Int32) (v1 : Int32) (v3 : Int32) (φ : M2) (H : Heap) (locs : List Loc) (ls : Array Slot) (o1 : Int32), L_X9_twins_23 N φ v2 k v1 v3 = some o1 → va_P D vwCl (mbW cI a φ hv) H → va_S (mbA a) s.heap H locs → lv_has ls 6 [(0, .ref (a 0)), (1, .int v1), (2, .int v2), (3, .int v3)] → (∀ (H1 : Heap) (locs1 : List Loc) (ls1 : Array Slot), va_P D vwCl (mbW cI a φ hv) H1 → va_S (mbA a) s.heap H1 locs1 → lv_has ls1 6 [(0, .ref (a 0)), (1, .int o1), (2, .int v2)] → W p l e (headSpec (wsA yX9_twins cX9_twins 6 (some .int)) { frames := 3, cells := 0, slots := 0, locals := 66 }).room s m ([.ref (a 0)] : List Value).toArray below meth c H1 locs1 0 0 (MQ below (va_Qi (fun (r : Int32) (_ : Unit) => r = r0) (fun _ t => va_P D vwCl (mbW cI a φr hv) t.heap) (mbA a)) ([.ref (a 0)] : List Value).toArray s 0 0 (mbA a)) (F0 m 123 ls1 [])) → W p l e (headSpec (wsA yX9_twins cX9_twins 6 (some .int)) { frames := 3, cells := 0, slots := 0, locals := 66 }).room s m ([.ref (a 0)] : List Value).toArray below meth c H locs 0 0 (MQ below (va_Qi (fun (r : Int32) (_ : Unit) => r = r0) (fun _ t => va_P D vwCl (mbW cI a φr hv) t.heap) (mbA a)) ([.ref (a 0)] : List Value).toArray s 0 0 (mbA a)) (F0 m 23 ls []) := by
    intro k
    induction k with
    | zero =>
      intro v2 v1 v3 φ H locs ls o1 h hP hS hl kk
      exact no_s h
    | succ k ih =>
      intro v2 v1 v3 φ H locs ls o1 h hP hS hl kk
      replace h : B_X9_twins_23 N φ v2 (L_X9_twins_23 N φ v2 k) v1 v3 = some o1 := h
      unfold B_X9_twins_23 at h
      refine lv_iload_n hx hb dX9_twins_23 rfl (lv_at hl 3 rfl) ?_
      refine lv_iload_n hx hb dX9_twins_24 rfl (lv_at hl 2 rfl) ?_
      refine lv_icmp_ge (tgt := 123) hx hb dX9_twins_25 (by decide) (fun hc => ?_) (fun hc => ?_)
      · replace h := oi_t hc h
        obtain rfl := os1 h
        exact kk _ _ _ hP hS (lv_sub hl [0, 1, 2] rfl)
      · replace h := oi_f hc h
        refine lv_aload_n hx hb dX9_twins_28 rfl (lv_at hl 0 rfl) ?_
        refine M_g0_0 hx hb hA hown aF_RX9_7 hK hP dX9_twins_29 ?_
        refine lv_sipush (v := 1043) hx hb dX9_twins_32 (by decide) ?_
        refine lv_iload_n hx hb dX9_twins_35 rfl (lv_at hl 2 rfl) ?_
        refine lv_iadd hx hb dX9_twins_36 ?_
        obtain ⟨i3, h⟩ := oin_e h
        refine M_ld1 hx hb hK hP i3 dX9_twins_37 ?_
        refine lv_topi (fun x4 ex4 => ?_)
        replace h := olet_s ex4 h
        refine lv_istore (lv' := [(4, .int x4), (0, .ref (a 0)), (1, .int v1), (2, .int v2), (3, .int v3)]) hx hb dX9_twins_38 hl (by decide) rfl (fun ls hl => ?_)
        refine lv_aload_n hx hb dX9_twins_40 rfl (lv_at hl 1 rfl) ?_
        refine M_g0_0 hx hb hA hown aF_RX9_7 hK hP dX9_twins_41 ?_
        refine lv_sipush (v := 1043) hx hb dX9_twins_44 (by decide) ?_
        refine lv_iload_n hx hb dX9_twins_47 rfl (lv_at hl 4 rfl) ?_
        refine lv_iadd hx hb dX9_twins_48 ?_
        obtain ⟨i5, h⟩ := oin_e h
        refine M_ld1 hx hb hK hP i5 dX9_twins_49 ?_
        refine lv_topi (fun x6 ex6 => ?_)
        replace h := olet_s ex6 h
        refine lv_istore (lv' := [(5, .int x6), (4, .int x4), (0, .ref (a 0)), (1, .int v1), (2, .int v2), (3, .int v3)]) hx hb dX9_twins_50 hl (by decide) rfl (fun ls hl => ?_)
        refine lv_iload_n hx hb dX9_twins_52 rfl (lv_at hl 3 rfl) ?_
        refine lv_aload_n hx hb dX9_twins_53 rfl (lv_at hl 2 rfl) ?_
        refine lv_iload hx hb dX9_twins_54 (lv_at hl 1 rfl) ?_
        obtain ⟨r7, h8, h⟩ := obd_e h
        refine k_X9_tagOf S aM_RX9_111 ⟨Nat.le_of_ble_eq_true rfl, Nat.le_of_ble_eq_true rfl⟩ ⟨Nat.zero_le _, Nat.zero_le _⟩ hP hK hDT h8 hl.1 (Nat.le_of_ble_eq_true rfl) dX9_twins_56 ?_
        refine lv_aload_n hx hb dX9_twins_59 rfl (lv_at hl 2 rfl) ?_
        refine lv_iload hx hb dX9_twins_60 (lv_at hl 0 rfl) ?_
        obtain ⟨r9, h10, h⟩ := obd_e h
        refine k_X9_tagOf S aM_RX9_111 ⟨Nat.le_of_ble_eq_true rfl, Nat.le_of_ble_eq_true rfl⟩ ⟨Nat.zero_le _, Nat.zero_le _⟩ hP hK hDT h10 hl.1 (Nat.le_of_ble_eq_true rfl) dX9_twins_62 ?_
        refine lv_icmp_ne (tgt := 114) hx hb dX9_twins_65 (by decide) (fun hc => ?_) (fun hc => ?_)
        · replace h := oi_f hc h
          refine lv_iconst (v := 0) hx hb dX9_twins_114 (by decide) ?_
          refine lv_iadd hx hb dX9_twins_115 ?_
          refine lv_topi (fun x11 ex11 => ?_)
          replace h := olet_s ex11 h
          refine lv_istore_n (lv' := [(1, .int x11), (5, .int x6), (4, .int x4), (0, .ref (a 0)), (2, .int v2), (3, .int v3)]) hx hb dX9_twins_116 rfl hl (by decide) rfl (fun ls hl => ?_)
          refine lv_iinc (v := v3 + 1) (lv' := [(3, .int (v3 + 1)), (1, .int x11), (5, .int x6), (4, .int x4), (0, .ref (a 0)), (2, .int v2)]) hx hb dX9_twins_117 hl (k := 5) rfl (fm_inc _ _ _ (by decide)) (by decide) rfl (fun ls hl => ?_)
          refine lv_goto (tgt := 23) hx hb dX9_twins_120 (by decide) ?_
          exact ih _ _ _ _ _ _ _ _ h hP hS (lv_sub hl [4, 1, 5, 0] rfl) kk
        · replace h := oi_t hc h
          refine lv_aload_n hx hb dX9_twins_68 rfl (lv_at hl 2 rfl) ?_
          refine lv_iload hx hb dX9_twins_69 (lv_at hl 1 rfl) ?_
          obtain ⟨r12, h13, h⟩ := obd_e h
          refine k_X9_homeOf S aM_RX9_108 ⟨Nat.le_of_ble_eq_true rfl, Nat.le_of_ble_eq_true rfl⟩ ⟨Nat.zero_le _, Nat.zero_le _⟩ hP hK hDT h13 hl.1 (Nat.le_of_ble_eq_true rfl) dX9_twins_71 ?_
          refine lv_aload_n hx hb dX9_twins_74 rfl (lv_at hl 2 rfl) ?_
          refine lv_iload hx hb dX9_twins_75 (lv_at hl 0 rfl) ?_
          obtain ⟨r14, h15, h⟩ := obd_e h
          refine k_X9_homeOf S aM_RX9_108 ⟨Nat.le_of_ble_eq_true rfl, Nat.le_of_ble_eq_true rfl⟩ ⟨Nat.zero_le _, Nat.zero_le _⟩ hP hK hDT h15 hl.1 (Nat.le_of_ble_eq_true rfl) dX9_twins_77 ?_
          refine lv_icmp_ne (tgt := 114) hx hb dX9_twins_80 (by decide) (fun hc => ?_) (fun hc => ?_)
          · replace h := oi_f hc h
            refine lv_iconst (v := 0) hx hb dX9_twins_114 (by decide) ?_
            refine lv_iadd hx hb dX9_twins_115 ?_
            refine lv_topi (fun x16 ex16 => ?_)
            replace h := olet_s ex16 h
            refine lv_istore_n (lv' := [(1, .int x16), (5, .int x6), (4, .int x4), (0, .ref (a 0)), (2, .int v2), (3, .int v3)]) hx hb dX9_twins_116 rfl hl (by decide) rfl (fun ls hl => ?_)
            refine lv_iinc (v := v3 + 1) (lv' := [(3, .int (v3 + 1)), (1, .int x16), (5, .int x6), (4, .int x4), (0, .ref (a 0)), (2, .int v2)]) hx hb dX9_twins_117 hl (k := 5) rfl (fm_inc _ _ _ (by decide)) (by decide) rfl (fun ls hl => ?_)
            refine lv_goto (tgt := 23) hx hb dX9_twins_120 (by decide) ?_
            exact ih _ _ _ _ _ _ _ _ h hP hS (lv_sub hl [4, 1, 5, 0] rfl) kk
          · replace h := oi_t hc h
            refine lv_aload_n hx hb dX9_twins_83 rfl (lv_at hl 2 rfl) ?_
            refine lv_iload hx hb dX9_twins_84 (lv_at hl 1 rfl) ?_
            refine lv_aload_n hx hb dX9_twins_86 rfl (lv_at hl 2 rfl) ?_
            refine M_g0_0 hx hb hA hown aF_RX9_7 hK hP dX9_twins_87 ?_
            refine lv_iconst (v := 2) hx hb dX9_twins_90 (by decide) ?_
            obtain ⟨i17, h⟩ := oin_e h
            refine M_ld1 hx hb hK hP i17 dX9_twins_91 ?_
            obtain ⟨r18, h19, h⟩ := obd_e h
            refine k_X9_printOf S aM_RX9_124 ⟨Nat.le_of_ble_eq_true rfl, Nat.le_of_ble_eq_true rfl⟩ ⟨Nat.zero_le _, Nat.zero_le _⟩ hP hK hDT h19 hl.1 (Nat.le_of_ble_eq_true rfl) dX9_twins_92 ?_
            refine lv_aload_n hx hb dX9_twins_95 rfl (lv_at hl 2 rfl) ?_
            refine lv_iload hx hb dX9_twins_96 (lv_at hl 0 rfl) ?_
            refine lv_aload_n hx hb dX9_twins_98 rfl (lv_at hl 2 rfl) ?_
            refine M_g0_0 hx hb hA hown aF_RX9_7 hK hP dX9_twins_99 ?_
            refine lv_iconst (v := 2) hx hb dX9_twins_102 (by decide) ?_
            obtain ⟨i20, h⟩ := oin_e h
            refine M_ld1 hx hb hK hP i20 dX9_twins_103 ?_
            obtain ⟨r21, h22, h⟩ := obd_e h
            refine k_X9_printOf S aM_RX9_124 ⟨Nat.le_of_ble_eq_true rfl, Nat.le_of_ble_eq_true rfl⟩ ⟨Nat.zero_le _, Nat.zero_le _⟩ hP hK hDT h22 hl.1 (Nat.le_of_ble_eq_true rfl) dX9_twins_104 ?_
            refine lv_icmp_ne (tgt := 114) hx hb dX9_twins_107 (by decide) (fun hc => ?_) (fun hc => ?_)
            · replace h := oi_f hc h
              refine lv_iconst (v := 0) hx hb dX9_twins_114 (by decide) ?_
              refine lv_iadd hx hb dX9_twins_115 ?_
              refine lv_topi (fun x23 ex23 => ?_)
              replace h := olet_s ex23 h
              refine lv_istore_n (lv' := [(1, .int x23), (5, .int x6), (4, .int x4), (0, .ref (a 0)), (2, .int v2), (3, .int v3)]) hx hb dX9_twins_116 rfl hl (by decide) rfl (fun ls hl => ?_)
              refine lv_iinc (v := v3 + 1) (lv' := [(3, .int (v3 + 1)), (1, .int x23), (5, .int x6), (4, .int x4), (0, .ref (a 0)), (2, .int v2)]) hx hb dX9_twins_117 hl (k := 5) rfl (fm_inc _ _ _ (by decide)) (by decide) rfl (fun ls hl => ?_)
              refine lv_goto (tgt := 23) hx hb dX9_twins_120 (by decide) ?_
              exact ih _ _ _ _ _ _ _ _ h hP hS (lv_sub hl [4, 1, 5, 0] rfl) kk
            · replace h := oi_t hc h
              refine lv_iconst (v := 1) hx hb dX9_twins_110 (by decide) ?_
              refine lv_goto (tgt := 115) hx hb dX9_twins_111 (by decide) ?_
              refine lv_iadd hx hb dX9_twins_115 ?_
              refine lv_topi (fun x24 ex24 => ?_)
              replace h := olet_s ex24 h
              refine lv_istore_n (lv' := [(1, .int x24), (5, .int x6), (4, .int x4), (0, .ref (a 0)), (2, .int v2), (3, .int v3)]) hx hb dX9_twins_116 rfl hl (by decide) rfl (fun ls hl => ?_)
              refine lv_iinc (v := v3 + 1) (lv' := [(3, .int (v3 + 1)), (1, .int x24), (5, .int x6), (4, .int x4), (0, .ref (a 0)), (2, .int v2)]) hx hb dX9_twins_117 hl (k := 5) rfl (fm_inc _ _ _ (by decide)) (by decide) rfl (fun ls hl => ?_)
              refine lv_goto (tgt := 23) hx hb dX9_twins_120 (by decide) ?_
              exact ih _ _ _ _ _ _ _ _ h hP hS (lv_sub hl [4, 1, 5, 0] rfl) kk
  have hL9 : ∀ (k : Nat) (v1 : Int32) (v2 : Int32) (φ : M2) (H : Heap) (locs : List Loc) (ls : Array Slot) (o1 : Int32), L_X9_twins_9 N φ k v1 v2 = some o1 → va_P D vwCl (mbW cI a φ hv) H → va_S (mbA a) s.heap H locs → lv_has ls 6 [(0, .ref (a 0)), (1, .int v1), (2, .int v2)] → (∀ (H1 : Heap) (locs1 : List Loc) (ls1 : Array Slot), va_P D vwCl (mbW cI a φ hv) H1 → va_S (mbA a) s.heap H1 locs1 → lv_has ls1 6 [(1, .int o1)] → W p l e (headSpec (wsA yX9_twins cX9_twins 6 (some .int)) { frames := 3, cells := 0, slots := 0, locals := 66 }).room s m ([.ref (a 0)] : List Value).toArray below meth c H1 locs1 0 0 (MQ below (va_Qi (fun (r : Int32) (_ : Unit) => r = r0) (fun _ t => va_P D vwCl (mbW cI a φr hv) t.heap) (mbA a)) ([.ref (a 0)] : List Value).toArray s 0 0 (mbA a)) (F0 m 129 ls1 [])) → W p l e (headSpec (wsA yX9_twins cX9_twins 6 (some .int)) { frames := 3, cells := 0, slots := 0, locals := 66 }).room s m ([.ref (a 0)] : List Value).toArray below meth c H locs 0 0 (MQ below (va_Qi (fun (r : Int32) (_ : Unit) => r = r0) (fun _ t => va_P D vwCl (mbW cI a φr hv) t.heap) (mbA a)) ([.ref (a 0)] : List Value).toArray s 0 0 (mbA a)) (F0 m 9 ls []) := by
    intro k
    induction k with
    | zero =>
      intro v1 v2 φ H locs ls o1 h hP hS hl kk
      exact no_s h
    | succ k ih =>
      intro v1 v2 φ H locs ls o1 h hP hS hl kk
      replace h : B_X9_twins_9 N φ (L_X9_twins_9 N φ k) v1 v2 = some o1 := h
      unfold B_X9_twins_9 at h
      refine lv_iload_n hx hb dX9_twins_9 rfl (lv_at hl 2 rfl) ?_
      refine lv_aload_n hx hb dX9_twins_10 rfl (lv_at hl 0 rfl) ?_
      refine M_g0_0 hx hb hA hown aF_RX9_7 hK hP dX9_twins_11 ?_
      refine lv_sipush (v := 1042) hx hb dX9_twins_14 (by decide) ?_
      obtain ⟨i2, h⟩ := oin_e h
      refine M_ld1 hx hb hK hP i2 dX9_twins_17 ?_
      refine lv_icmp_ge (tgt := 129) hx hb dX9_twins_18 (by decide) (fun hc => ?_) (fun hc => ?_)
      · replace h := oi_t hc h
        obtain rfl := os1 h
        exact kk _ _ _ hP hS (lv_sub hl [1] rfl)
      · replace h := oi_f hc h
        refine lv_iconst (v := 0) hx hb dX9_twins_21 (by decide) ?_
        refine lv_istore_n (lv' := [(3, .int 0), (0, .ref (a 0)), (1, .int v1), (2, .int v2)]) hx hb dX9_twins_22 rfl hl (by decide) rfl (fun ls hl => ?_)
        obtain ⟨y25, h26, h⟩ := obd_e h
        refine hL23 N _ _ _ _ _ _ _ _ h26 hP hS (lv_sub hl [1, 2, 3, 0] rfl) (fun H locs ls hP hS hl => ?_)
        refine lv_iinc (v := v2 + 1) (lv' := [(2, .int (v2 + 1)), (0, .ref (a 0)), (1, .int y25)]) hx hb dX9_twins_123 hl (k := 2) rfl (fm_inc _ _ _ (by decide)) (by decide) rfl (fun ls hl => ?_)
        refine lv_goto (tgt := 9) hx hb dX9_twins_126 (by decide) ?_
        exact ih _ _ _ _ _ _ _ h hP hS (lv_sub hl [1, 2, 0] rfl) kk
  have h := hF
  unfold G_X9_twins at h
  refine lv_aload_n hx hb dX9_twins_0 rfl (lv_at hl 0 rfl) ?_
  refine lv_iconst (v := 0) hx hb dX9_twins_1 (by decide) ?_
  refine M_p0_5 hx hb hA hown aF_RX9_64 hK hP (hDA _ _) hS dX9_twins_2 (fun w1 H locs ew1 hP hS => ?_)
  replace h := olet_s ew1 h
  refine lv_iconst (v := 0) hx hb dX9_twins_5 (by decide) ?_
  refine lv_istore_n (lv' := [(1, .int 0), (0, .ref (a 0))]) hx hb dX9_twins_6 rfl hl (by decide) rfl (fun ls hl => ?_)
  refine lv_iconst (v := 0) hx hb dX9_twins_7 (by decide) ?_
  refine lv_istore_n (lv' := [(2, .int 0), (1, .int 0), (0, .ref (a 0))]) hx hb dX9_twins_8 rfl hl (by decide) rfl (fun ls hl => ?_)
  obtain ⟨y27, h28, h⟩ := obd_e h
  refine hL9 N _ _ _ _ _ _ _ h28 hP hS (lv_sub hl [2, 1, 0] rfl) (fun H locs ls hP hS hl => ?_)
  refine lv_iload_n hx hb dX9_twins_129 rfl (lv_at hl 0 rfl) ?_
  obtain ⟨rfl, rfl⟩ := os2 h
  exact W.iret (v := y27) hx hb hr (fun t ht hW => ⟨⟨_, (), rfl, rfl, by show va_P _ _ _ t.heap; rw [ht]; exact hP⟩, hS.F ht⟩) hS.2.2 dX9_twins_130
theorem k_X9_twins {p : Program} {l : Launch} {e : Env} {R : Room} {s : State} {m : MethodId} {args : Array Value} {below : List Frame} {meth : Method} {c : Code} {H : Heap} {locs : List Loc} {cells slots : Nat} {Q : State → Prop} {cc : ByteArray} {pc nL idx : Nat} {ls : Array Slot} {rest : List Value} {own : String} {D : va_G} {cI : ClassId} {a : Nat → Nat} {H0 : Heap} {N : Nat} {φ : M2} {hv : Int64} {r0 : Int32} {φr : M2} (S : CallFix p m c cc nL s args AW own) (h1 : Cond.methodLink own idx yX9_twins ∈ AW) (hR : 3 + 1 ≤ R.frames ∧ 8 + (6 + 11) + 66 ≤ R.locals) (hc : cells ≤ R.cells ∧ slots ≤ R.slots) (hP : va_P D vwCl (mbW cI a φ hv) H) (hK : va_K D vwCl [(cI, .int)] s) (hDT : ∀ (φ2 : M2) (hv2 : Int64), va_D (fun _ => True) (mbW cI a φ2 hv2)) (hS : va_S (mbA a) H0 H locs) (hF : G_X9_twins N φ = some (r0, φr)) (hsz : ls.size = nL) (hW : (rest.map fun v => v.category).sum ≤ 8) (hdg : decode cc pc = .ok (.invokevirtual idx, 3)) (kk : ∀ (H1 : Heap) (locs1 : List Loc), va_P D vwCl (mbW cI a φr hv) H1 → va_S (mbA a) H0 H1 locs1 → W p l e R s m args below meth c H1 locs1 cells slots Q (F0 m (pc + 3) ls (.int r0 :: rest))) : W p l e R s m args below meth c H locs cells slots Q (F0 m pc ls (.ref (a 0) :: rest)) :=
  fm_runVi (n := 0) (C := RX9) (As := []) S (c_X9_twins l D cI a N φ hv r0 φr hF) (M_pre (q0 := 0) (ci := 7) hK hP (hDT _ _) rfl rfl) hS h1 aI_X9_twins aV_X9_twins aN_RX9 aC_X9_twins rfl rfl (by decide +kernel) rfl hR hc hsz hW hdg (fun r H1 locs1 hr hP1 hS1 => by subst hr; exact kk H1 locs1 hP1 hS1)
set_option maxHeartbeats 4000000 in
set_option maxRecDepth 100000 in
theorem c_X9_bestSeed (l : Launch) (D : va_G) (cI : ClassId) (a : Nat → Nat) (N : Nat) (φ : M2) (p1 : Int32) (hv : Int64) (r0 : Int32) (φr : M2) (hF : G_X9_bestSeed N φ p1 = some (r0, φr)) : Met l yX9_bestSeed (wsA yX9_bestSeed cX9_bestSeed 6 (some .int)) { frames := 7, cells := 0, slots := 0, locals := 160 } (va_Pc [.ref (a 0), .int p1] (mbP D cI a φ hv)) (va_Qi (fun (r : Int32) (_ : Unit) => r = r0) (fun _ t => va_P D vwCl (mbW cI a φr hv) t.heap) (mbA a)) 0 0 (mbA a) := by
  refine Met.ofW (cc := cX9_bestSeed) (maxL := 6) (ret := (some .int)) (by decide) rfl ?_
  intro p e s m args below meth c s₁ B hml hpre
  obtain ⟨rfl, hP, hK, hD0⟩ := hpre
  have hx := B.exec
  have hb := B.bytes
  have hr := B.returns
  have hA : ∀ w ∈ AW, w.before _ s = true := fun w h => atoms_spec (ws := wsA yX9_bestSeed cX9_bestSeed 6 (some .int)) B.pre w (List.mem_cons_of_mem _ h)
  have hown : s.vm.findClass RX9 = some m.cls := findClass_of_methodNamed B.named
  have hlocks := B.notSynchronized
  have hDT := M_dT hD0
  have hDA := M_dA hD0
  have hS : va_S (mbA a) s.heap s.heap [] := va_S.rf
  have S : CallFix p m c cX9_bestSeed 6 s ([.ref (a 0), .int p1] : List Value).toArray AW RX9 := ⟨hx, hb, hml, hown, hA⟩
  have hl := lv_entry ([.ref (a 0), .int p1]) (n := 6) (Nat.le_of_ble_eq_true rfl)
  rw [lg_entry_eq]
  generalize (lg_sl ([.ref (a 0), .int p1]) ++ List.replicate (6 - (lg_sl ([.ref (a 0), .int p1])).length) Slot.unset).toArray = ls at hl ⊢
  have hl : lv_has ls 6 [(0, .ref (a 0)), (1, .int p1)] := hl
  have hL42 : ∀ (k : Nat) (v1 : Int32) (v2 : Int32) (v3 : Int32) (v4 : Int32) (φ : M2) (H : Heap) (locs : List Loc) (ls : Array Slot) (o2 : Int32) (φo : M2), L_X9_bestSeed_42 N v1 k v2 v3 v4 φ = some (o2, φo) → va_P D vwCl (mbW cI a φ hv) H → va_S (mbA a) s.heap H locs → lv_has ls 6 [(0, .ref (a 0)), (1, .int v1), (2, .int v2), (3, .int v3), (4, .int v4)] → (∀ (H1 : Heap) (locs1 : List Loc) (ls1 : Array Slot), va_P D vwCl (mbW cI a φo hv) H1 → va_S (mbA a) s.heap H1 locs1 → lv_has ls1 6 [(0, .ref (a 0)), (2, .int o2)] → W p l e (headSpec (wsA yX9_bestSeed cX9_bestSeed 6 (some .int)) { frames := 7, cells := 0, slots := 0, locals := 160 }).room s m ([.ref (a 0), .int p1] : List Value).toArray below meth c H1 locs1 0 0 (MQ below (va_Qi (fun (r : Int32) (_ : Unit) => r = r0) (fun _ t => va_P D vwCl (mbW cI a φr hv) t.heap) (mbA a)) ([.ref (a 0), .int p1] : List Value).toArray s 0 0 (mbA a)) (F0 m 123 ls1 [])) → W p l e (headSpec (wsA yX9_bestSeed cX9_bestSeed 6 (some .int)) { frames := 7, cells := 0, slots := 0, locals := 160 }).room s m ([.ref (a 0), .int p1] : List Value).toArray below meth c H locs 0 0 (MQ below (va_Qi (fun (r : Int32) (_ : Unit) => r = r0) (fun _ t => va_P D vwCl (mbW cI a φr hv) t.heap) (mbA a)) ([.ref (a 0), .int p1] : List Value).toArray s 0 0 (mbA a)) (F0 m 42 ls []) := by
    intro k
    induction k with
    | zero =>
      intro v1 v2 v3 v4 φ H locs ls o2 φo h hP hS hl kk
      exact no_s h
    | succ k ih =>
      intro v1 v2 v3 v4 φ H locs ls o2 φo h hP hS hl kk
      replace h : B_X9_bestSeed_42 N v1 (L_X9_bestSeed_42 N v1 k) v2 v3 v4 φ = some (o2, φo) := h
      unfold B_X9_bestSeed_42 at h
      have hJ89 : ∀ (v2 : Int32) (v3 : Int32) (v4 : Int32) (s0 : Int32) (φ : M2) (H : Heap) (locs : List Loc) (ls : Array Slot), J_X9_bestSeed_89_42 (L_X9_bestSeed_42 N v1 k) N φ v1 v2 v3 v4 s0 = some (o2, φo) → va_P D vwCl (mbW cI a φ hv) H → va_S (mbA a) s.heap H locs → lv_has ls 6 [(0, .ref (a 0)), (1, .int v1), (2, .int v2), (3, .int v3), (4, .int v4)] → W p l e (headSpec (wsA yX9_bestSeed cX9_bestSeed 6 (some .int)) { frames := 7, cells := 0, slots := 0, locals := 160 }).room s m ([.ref (a 0), .int p1] : List Value).toArray below meth c H locs 0 0 (MQ below (va_Qi (fun (r : Int32) (_ : Unit) => r = r0) (fun _ t => va_P D vwCl (mbW cI a φr hv) t.heap) (mbA a)) ([.ref (a 0), .int p1] : List Value).toArray s 0 0 (mbA a)) (F0 m 89 ls [.int s0]) := by
        intro v2 v3 v4 s0 φ H locs ls h hP hS hl
        unfold J_X9_bestSeed_89_42 at h
        refine lv_istore (lv' := [(5, .int s0), (0, .ref (a 0)), (1, .int v1), (2, .int v2), (3, .int v3), (4, .int v4)]) hx hb dX9_bestSeed_89 hl (by decide) rfl (fun ls hl => ?_)
        refine lv_iload hx hb dX9_bestSeed_91 (lv_at hl 0 rfl) ?_
        refine lv_iload_n hx hb dX9_bestSeed_93 rfl (lv_at hl 4 rfl) ?_
        refine lv_icmp_ge (tgt := 102) hx hb dX9_bestSeed_94 (by decide) (fun hc => ?_) (fun hc => ?_)
        · replace h := oi_t hc h
          refine lv_iload_n hx hb dX9_bestSeed_102 rfl (lv_at hl 3 rfl) ?_
          refine lv_istore_n (lv' := [(2, .int v2), (5, .int s0), (0, .ref (a 0)), (1, .int v1), (3, .int v3), (4, .int v4)]) hx hb dX9_bestSeed_103 rfl hl (by decide) rfl (fun ls hl => ?_)
          refine lv_iload hx hb dX9_bestSeed_104 (lv_at hl 1 rfl) ?_
          refine lv_iload_n hx hb dX9_bestSeed_106 rfl (lv_at hl 4 rfl) ?_
          refine lv_icmp_ge (tgt := 115) hx hb dX9_bestSeed_107 (by decide) (fun hc => ?_) (fun hc => ?_)
          · replace h := oi_t hc h
            refine lv_iload_n hx hb dX9_bestSeed_115 rfl (lv_at hl 4 rfl) ?_
            refine lv_istore_n (lv' := [(3, .int v3), (2, .int v2), (5, .int s0), (0, .ref (a 0)), (1, .int v1), (4, .int v4)]) hx hb dX9_bestSeed_116 rfl hl (by decide) rfl (fun ls hl => ?_)
            refine lv_iinc (v := v4 + 1) (lv' := [(4, .int (v4 + 1)), (3, .int v3), (2, .int v2), (5, .int s0), (0, .ref (a 0)), (1, .int v1)]) hx hb dX9_bestSeed_117 hl (k := 5) rfl (fm_inc _ _ _ (by decide)) (by decide) rfl (fun ls hl => ?_)
            refine lv_goto (tgt := 42) hx hb dX9_bestSeed_120 (by decide) ?_
            exact ih _ _ _ _ _ _ _ _ _ _ h hP hS (lv_sub hl [4, 5, 2, 1, 0] rfl) kk
          · replace h := oi_f hc h
            refine lv_iload hx hb dX9_bestSeed_110 (lv_at hl 1 rfl) ?_
            refine lv_goto (tgt := 116) hx hb dX9_bestSeed_112 (by decide) ?_
            refine lv_istore_n (lv' := [(3, .int s0), (2, .int v2), (5, .int s0), (0, .ref (a 0)), (1, .int v1), (4, .int v4)]) hx hb dX9_bestSeed_116 rfl hl (by decide) rfl (fun ls hl => ?_)
            refine lv_iinc (v := v4 + 1) (lv' := [(4, .int (v4 + 1)), (3, .int s0), (2, .int v2), (5, .int s0), (0, .ref (a 0)), (1, .int v1)]) hx hb dX9_bestSeed_117 hl (k := 5) rfl (fm_inc _ _ _ (by decide)) (by decide) rfl (fun ls hl => ?_)
            refine lv_goto (tgt := 42) hx hb dX9_bestSeed_120 (by decide) ?_
            exact ih _ _ _ _ _ _ _ _ _ _ h hP hS (lv_sub hl [4, 5, 2, 1, 0] rfl) kk
        · replace h := oi_f hc h
          refine lv_iload hx hb dX9_bestSeed_97 (lv_at hl 5 rfl) ?_
          refine lv_goto (tgt := 103) hx hb dX9_bestSeed_99 (by decide) ?_
          refine lv_istore_n (lv' := [(2, .int v4), (5, .int s0), (0, .ref (a 0)), (1, .int v1), (3, .int v3), (4, .int v4)]) hx hb dX9_bestSeed_103 rfl hl (by decide) rfl (fun ls hl => ?_)
          refine lv_iload hx hb dX9_bestSeed_104 (lv_at hl 1 rfl) ?_
          refine lv_iload_n hx hb dX9_bestSeed_106 rfl (lv_at hl 4 rfl) ?_
          refine lv_icmp_ge (tgt := 115) hx hb dX9_bestSeed_107 (by decide) (fun hc => ?_) (fun hc => ?_)
          · replace h := oi_t hc h
            refine lv_iload_n hx hb dX9_bestSeed_115 rfl (lv_at hl 4 rfl) ?_
            refine lv_istore_n (lv' := [(3, .int v3), (2, .int v4), (5, .int s0), (0, .ref (a 0)), (1, .int v1), (4, .int v4)]) hx hb dX9_bestSeed_116 rfl hl (by decide) rfl (fun ls hl => ?_)
            refine lv_iinc (v := v4 + 1) (lv' := [(4, .int (v4 + 1)), (3, .int v3), (2, .int v4), (5, .int s0), (0, .ref (a 0)), (1, .int v1)]) hx hb dX9_bestSeed_117 hl (k := 5) rfl (fm_inc _ _ _ (by decide)) (by decide) rfl (fun ls hl => ?_)
            refine lv_goto (tgt := 42) hx hb dX9_bestSeed_120 (by decide) ?_
            exact ih _ _ _ _ _ _ _ _ _ _ h hP hS (lv_sub hl [4, 5, 2, 1, 0] rfl) kk
          · replace h := oi_f hc h
            refine lv_iload hx hb dX9_bestSeed_110 (lv_at hl 1 rfl) ?_
            refine lv_goto (tgt := 116) hx hb dX9_bestSeed_112 (by decide) ?_
            refine lv_istore_n (lv' := [(3, .int s0), (2, .int v4), (5, .int s0), (0, .ref (a 0)), (1, .int v1), (4, .int v4)]) hx hb dX9_bestSeed_116 rfl hl (by decide) rfl (fun ls hl => ?_)
            refine lv_iinc (v := v4 + 1) (lv' := [(4, .int (v4 + 1)), (3, .int s0), (2, .int v4), (5, .int s0), (0, .ref (a 0)), (1, .int v1)]) hx hb dX9_bestSeed_117 hl (k := 5) rfl (fm_inc _ _ _ (by decide)) (by decide) rfl (fun ls hl => ?_)
            refine lv_goto (tgt := 42) hx hb dX9_bestSeed_120 (by decide) ?_
            exact ih _ _ _ _ _ _ _ _ _ _ h hP hS (lv_sub hl [4, 5, 2, 1, 0] rfl) kk
      refine lv_iload hx hb dX9_bestSeed_42 (lv_at hl 4 rfl) ?_
      refine lv_iload_n hx hb dX9_bestSeed_44 rfl (lv_at hl 1 rfl) ?_
      refine lv_icmp_ge (tgt := 123) hx hb dX9_bestSeed_45 (by decide) (fun hc => ?_) (fun hc => ?_)
      · replace h := oi_t hc h
        obtain ⟨rfl, rfl⟩ := os2 h
        exact kk _ _ _ hP hS (lv_sub hl [0, 2] rfl)
      · replace h := oi_f hc h
        refine lv_aload_n hx hb dX9_bestSeed_48 rfl (lv_at hl 0 rfl) ?_
        refine lv_aload_n hx hb dX9_bestSeed_49 rfl (lv_at hl 0 rfl) ?_
        refine M_g0_0 hx hb hA hown aF_RX9_7 hK hP dX9_bestSeed_50 ?_
        refine lv_iconst (v := 0) hx hb dX9_bestSeed_53 (by decide) ?_
        obtain ⟨i5, h⟩ := oin_e h
        refine M_ld1 hx hb hK hP i5 dX9_bestSeed_54 ?_
        refine lv_aload_n hx hb dX9_bestSeed_55 rfl (lv_at hl 0 rfl) ?_
        refine M_g0_0 hx hb hA hown aF_RX9_7 hK hP dX9_bestSeed_56 ?_
        refine lv_iconst (v := 1) hx hb dX9_bestSeed_59 (by decide) ?_
        obtain ⟨i6, h⟩ := oin_e h
        refine M_ld1 hx hb hK hP i6 dX9_bestSeed_60 ?_
        refine lv_aload_n hx hb dX9_bestSeed_61 rfl (lv_at hl 0 rfl) ?_
        refine M_g0_0 hx hb hA hown aF_RX9_7 hK hP dX9_bestSeed_62 ?_
        refine lv_iconst (v := 2) hx hb dX9_bestSeed_65 (by decide) ?_
        obtain ⟨i7, h⟩ := oin_e h
        refine M_ld1 hx hb hK hP i7 dX9_bestSeed_66 ?_
        refine lv_iload hx hb dX9_bestSeed_67 (lv_at hl 4 rfl) ?_
        obtain ⟨r10, w8, h9, h⟩ := obd2_e h
        refine k_X9_rebuilds S aM_RX9_235 ⟨Nat.le_of_ble_eq_true rfl, Nat.le_of_ble_eq_true rfl⟩ ⟨Nat.zero_le _, Nat.zero_le _⟩ hP hK hDT hS h9 hl.1 (Nat.le_of_ble_eq_true rfl) dX9_bestSeed_69 (fun br10 H locs hP hS => ?_)
        refine lv_if_eq (tgt := 86) hx hb dX9_bestSeed_72 (by decide) (fun hc => ?_) (fun hc => ?_)
        · replace h := oi_t hc h
          refine lv_sipush (v := 1001) hx hb dX9_bestSeed_86 (by decide) ?_
          exact hJ89 _ _ _ _ _ _ _ _ h hP hS (lv_sub hl [0, 1, 2, 3, 4] rfl)
        · replace h := oi_f hc h
          refine lv_aload_n hx hb dX9_bestSeed_75 rfl (lv_at hl 0 rfl) ?_
          refine lv_iconst (v := 0) hx hb dX9_bestSeed_76 (by decide) ?_
          refine lv_sipush (v := 999) hx hb dX9_bestSeed_77 (by decide) ?_
          obtain ⟨r11, h12, h⟩ := obd_e h
          refine k_X9_falseMany S aM_RX9_256 ⟨Nat.le_of_ble_eq_true rfl, Nat.le_of_ble_eq_true rfl⟩ ⟨Nat.zero_le _, Nat.zero_le _⟩ hP hK hDT h12 hl.1 (Nat.le_of_ble_eq_true rfl) dX9_bestSeed_80 ?_
          refine lv_goto (tgt := 89) hx hb dX9_bestSeed_83 (by decide) ?_
          exact hJ89 _ _ _ _ _ _ _ _ h hP hS (lv_sub hl [0, 1, 2, 3, 4] rfl)
  have hJ16 : ∀ (v1 : Int32) (s0 : Int32) (φ : M2) (H : Heap) (locs : List Loc) (ls : Array Slot), J_X9_bestSeed_16 N φ v1 s0 = some (r0, φr) → va_P D vwCl (mbW cI a φ hv) H → va_S (mbA a) s.heap H locs → lv_has ls 6 [(0, .ref (a 0)), (1, .int v1)] → W p l e (headSpec (wsA yX9_bestSeed cX9_bestSeed 6 (some .int)) { frames := 7, cells := 0, slots := 0, locals := 160 }).room s m ([.ref (a 0), .int p1] : List Value).toArray below meth c H locs 0 0 (MQ below (va_Qi (fun (r : Int32) (_ : Unit) => r = r0) (fun _ t => va_P D vwCl (mbW cI a φr hv) t.heap) (mbA a)) ([.ref (a 0), .int p1] : List Value).toArray s 0 0 (mbA a)) (F0 m 16 ls [.int s0, .ref (a 0)]) := by
    intro v1 s0 φ H locs ls h hP hS hl
    unfold J_X9_bestSeed_16 at h
    refine M_p0_5 hx hb hA hown aF_RX9_64 hK hP (hDA _ _) hS dX9_bestSeed_16 (fun w2 H locs ew2 hP hS => ?_)
    replace h := olet_s ew2 h
    refine lv_aload_n hx hb dX9_bestSeed_19 rfl (lv_at hl 0 rfl) ?_
    refine M_g0_5 hx hb hA hown aF_RX9_64 hK hP dX9_bestSeed_20 ?_
    refine lv_if_eq (tgt := 28) hx hb dX9_bestSeed_23 (by decide) (fun hc => ?_) (fun hc => ?_)
    · replace h := oi_t hc h
      refine lv_aload_n hx hb dX9_bestSeed_28 rfl (lv_at hl 0 rfl) ?_
      refine lv_iconst (v := 4) hx hb dX9_bestSeed_29 (by decide) ?_
      obtain ⟨w3, h4, h⟩ := obd_e h
      refine k_X9_copy S aM_RX9_74 ⟨Nat.le_of_ble_eq_true rfl, Nat.le_of_ble_eq_true rfl⟩ ⟨Nat.zero_le _, Nat.zero_le _⟩ hP hK hDT hS h4 hl.1 (Nat.le_of_ble_eq_true rfl) dX9_bestSeed_30 (fun H locs hP hS => ?_)
      refine lv_iconst (v := (-1)) hx hb dX9_bestSeed_33 (by decide) ?_
      refine lv_istore_n (lv' := [(2, .int ((-1))), (0, .ref (a 0)), (1, .int v1)]) hx hb dX9_bestSeed_34 rfl hl (by decide) rfl (fun ls hl => ?_)
      refine lv_sipush (v := 1001) hx hb dX9_bestSeed_35 (by decide) ?_
      refine lv_istore_n (lv' := [(3, .int 1001), (2, .int ((-1))), (0, .ref (a 0)), (1, .int v1)]) hx hb dX9_bestSeed_38 rfl hl (by decide) rfl (fun ls hl => ?_)
      refine lv_iconst (v := 0) hx hb dX9_bestSeed_39 (by decide) ?_
      refine lv_istore (lv' := [(4, .int 0), (3, .int 1001), (2, .int ((-1))), (0, .ref (a 0)), (1, .int v1)]) hx hb dX9_bestSeed_40 hl (by decide) rfl (fun ls hl => ?_)
      obtain ⟨y13, w14, h15, h⟩ := obd2_e h
      refine hL42 N _ _ _ _ _ _ _ _ _ _ h15 hP hS (lv_sub hl [3, 4, 2, 1, 0] rfl) (fun H locs ls hP hS hl => ?_)
      refine lv_aload_n hx hb dX9_bestSeed_123 rfl (lv_at hl 0 rfl) ?_
      refine lv_iconst (v := 4) hx hb dX9_bestSeed_124 (by decide) ?_
      obtain ⟨w16, h17, h⟩ := obd_e h
      refine k_X9_layBack S aM_RX9_206 ⟨Nat.le_of_ble_eq_true rfl, Nat.le_of_ble_eq_true rfl⟩ ⟨Nat.zero_le _, Nat.zero_le _⟩ hP hK hDT hS h17 hl.1 (Nat.le_of_ble_eq_true rfl) dX9_bestSeed_125 (fun H locs hP hS => ?_)
      refine lv_iload_n hx hb dX9_bestSeed_128 rfl (lv_at hl 1 rfl) ?_
      obtain ⟨rfl, rfl⟩ := os2 h
      exact W.iret (v := y13) hx hb hr (fun t ht hW => ⟨⟨_, (), rfl, rfl, by show va_P _ _ _ t.heap; rw [ht]; exact hP⟩, hS.F ht⟩) hS.2.2 dX9_bestSeed_129
    · replace h := oi_f hc h
      refine lv_iconst (v := 0) hx hb dX9_bestSeed_26 (by decide) ?_
      obtain ⟨rfl, rfl⟩ := os2 h
      exact W.iret (v := 0) hx hb hr (fun t ht hW => ⟨⟨_, (), rfl, rfl, by show va_P _ _ _ t.heap; rw [ht]; exact hP⟩, hS.F ht⟩) hS.2.2 dX9_bestSeed_27
  have h := hF
  unfold G_X9_bestSeed at h
  refine lv_aload_n hx hb dX9_bestSeed_0 rfl (lv_at hl 0 rfl) ?_
  refine lv_iload_n hx hb dX9_bestSeed_1 rfl (lv_at hl 1 rfl) ?_
  refine lv_iconst (v := 1) hx hb dX9_bestSeed_2 (by decide) ?_
  refine lv_bipush (v := 20) hx hb dX9_bestSeed_3 (by decide) ?_
  refine k_X9_in S aM_RX9_78 ⟨Nat.le_of_ble_eq_true rfl, Nat.le_of_ble_eq_true rfl⟩ ⟨Nat.zero_le _, Nat.zero_le _⟩ hl.1 (Nat.le_of_ble_eq_true rfl) dX9_bestSeed_5 (fun r1 er1 br1 => ?_)
  replace h := olet_s er1 h
  refine lv_if_eq (tgt := 15) hx hb dX9_bestSeed_8 (by decide) (fun hc => ?_) (fun hc => ?_)
  · replace h := oi_t hc h
    refine lv_iconst (v := 1) hx hb dX9_bestSeed_15 (by decide) ?_
    exact hJ16 _ _ _ _ _ _ h hP hS (lv_sub hl [0, 1] rfl)
  · replace h := oi_f hc h
    refine lv_iconst (v := 0) hx hb dX9_bestSeed_11 (by decide) ?_
    refine lv_goto (tgt := 16) hx hb dX9_bestSeed_12 (by decide) ?_
    exact hJ16 _ _ _ _ _ _ h hP hS (lv_sub hl [0, 1] rfl)
theorem k_X9_bestSeed {p : Program} {l : Launch} {e : Env} {R : Room} {s : State} {m : MethodId} {args : Array Value} {below : List Frame} {meth : Method} {c : Code} {H : Heap} {locs : List Loc} {cells slots : Nat} {Q : State → Prop} {cc : ByteArray} {pc nL idx : Nat} {ls : Array Slot} {rest : List Value} {own : String} {D : va_G} {cI : ClassId} {a : Nat → Nat} {H0 : Heap} {N : Nat} {φ : M2} {p1 : Int32} {hv : Int64} {r0 : Int32} {φr : M2} (S : CallFix p m c cc nL s args AW own) (h1 : Cond.methodLink own idx yX9_bestSeed ∈ AW) (hR : 7 + 1 ≤ R.frames ∧ 8 + (6 + 11) + 160 ≤ R.locals) (hc : cells ≤ R.cells ∧ slots ≤ R.slots) (hP : va_P D vwCl (mbW cI a φ hv) H) (hK : va_K D vwCl [(cI, .int)] s) (hDT : ∀ (φ2 : M2) (hv2 : Int64), va_D (fun _ => True) (mbW cI a φ2 hv2)) (hS : va_S (mbA a) H0 H locs) (hF : G_X9_bestSeed N φ p1 = some (r0, φr)) (hsz : ls.size = nL) (hW : (rest.map fun v => v.category).sum ≤ 8) (hdg : decode cc pc = .ok (.invokevirtual idx, 3)) (kk : ∀ (H1 : Heap) (locs1 : List Loc), va_P D vwCl (mbW cI a φr hv) H1 → va_S (mbA a) H0 H1 locs1 → W p l e R s m args below meth c H1 locs1 cells slots Q (F0 m (pc + 3) ls (.int r0 :: rest))) : W p l e R s m args below meth c H locs cells slots Q (F0 m pc ls (.int p1 :: .ref (a 0) :: rest)) :=
  fm_runVi (n := 1) (C := RX9) (As := [.int p1]) S (c_X9_bestSeed l D cI a N φ p1 hv r0 φr hF) (M_pre (q0 := 0) (ci := 7) hK hP (hDT _ _) rfl rfl) hS h1 aI_X9_bestSeed aV_X9_bestSeed aN_RX9 aC_X9_bestSeed rfl rfl (by decide +kernel) rfl hR hc hsz hW hdg (fun r H1 locs1 hr hP1 hS1 => by subst hr; exact kk H1 locs1 hP1 hS1)
set_option maxHeartbeats 4000000 in
set_option maxRecDepth 100000 in
theorem c_X9_leastBits (l : Launch) (D : va_G) (cI : ClassId) (a : Nat → Nat) (N : Nat) (φ : M2) (p1 : Int32) (p2 : Int32) (hv : Int64) (r0 : Int32) (φr : M2) (hF : G_X9_leastBits N φ p1 p2 = some (r0, φr)) : Met l yX9_leastBits (wsA yX9_leastBits cX9_leastBits 4 (some .int)) { frames := 7, cells := 0, slots := 0, locals := 158 } (va_Pc [.ref (a 0), .int p1, .int p2] (mbP D cI a φ hv)) (va_Qi (fun (r : Int32) (_ : Unit) => r = r0) (fun _ t => va_P D vwCl (mbW cI a φr hv) t.heap) (mbA a)) 0 0 (mbA a) := by
  refine Met.ofW (cc := cX9_leastBits) (maxL := 4) (ret := (some .int)) (by decide) rfl ?_
  intro p e s m args below meth c s₁ B hml hpre
  obtain ⟨rfl, hP, hK, hD0⟩ := hpre
  have hx := B.exec
  have hb := B.bytes
  have hr := B.returns
  have hA : ∀ w ∈ AW, w.before _ s = true := fun w h => atoms_spec (ws := wsA yX9_leastBits cX9_leastBits 4 (some .int)) B.pre w (List.mem_cons_of_mem _ h)
  have hown : s.vm.findClass RX9 = some m.cls := findClass_of_methodNamed B.named
  have hlocks := B.notSynchronized
  have hDT := M_dT hD0
  have hDA := M_dA hD0
  have hS : va_S (mbA a) s.heap s.heap [] := va_S.rf
  have S : CallFix p m c cX9_leastBits 4 s ([.ref (a 0), .int p1, .int p2] : List Value).toArray AW RX9 := ⟨hx, hb, hml, hown, hA⟩
  have hl := lv_entry ([.ref (a 0), .int p1, .int p2]) (n := 4) (Nat.le_of_ble_eq_true rfl)
  rw [lg_entry_eq]
  generalize (lg_sl ([.ref (a 0), .int p1, .int p2]) ++ List.replicate (4 - (lg_sl ([.ref (a 0), .int p1, .int p2])).length) Slot.unset).toArray = ls at hl ⊢
  have hl : lv_has ls 4 [(0, .ref (a 0)), (1, .int p1), (2, .int p2)] := hl
  have hL44 : ∀ (k : Nat) (v1 : Int32) (v2 : Int32) (v3 : Int32) (φ : M2) (H : Heap) (locs : List Loc) (ls : Array Slot) (o3 : Int32) (φo : M2), L_X9_leastBits_44 N v1 v2 k v3 φ = some (o3, φo) → va_P D vwCl (mbW cI a φ hv) H → va_S (mbA a) s.heap H locs → lv_has ls 4 [(0, .ref (a 0)), (1, .int v1), (2, .int v2), (3, .int v3)] → (∀ (H1 : Heap) (locs1 : List Loc) (ls1 : Array Slot), va_P D vwCl (mbW cI a φo hv) H1 → va_S (mbA a) s.heap H1 locs1 → lv_has ls1 4 [(0, .ref (a 0)), (3, .int o3)] → W p l e (headSpec (wsA yX9_leastBits cX9_leastBits 4 (some .int)) { frames := 7, cells := 0, slots := 0, locals := 158 }).room s m ([.ref (a 0), .int p1, .int p2] : List Value).toArray below meth c H1 locs1 0 0 (MQ below (va_Qi (fun (r : Int32) (_ : Unit) => r = r0) (fun _ t => va_P D vwCl (mbW cI a φr hv) t.heap) (mbA a)) ([.ref (a 0), .int p1, .int p2] : List Value).toArray s 0 0 (mbA a)) (F0 m 72 ls1 [])) → W p l e (headSpec (wsA yX9_leastBits cX9_leastBits 4 (some .int)) { frames := 7, cells := 0, slots := 0, locals := 158 }).room s m ([.ref (a 0), .int p1, .int p2] : List Value).toArray below meth c H locs 0 0 (MQ below (va_Qi (fun (r : Int32) (_ : Unit) => r = r0) (fun _ t => va_P D vwCl (mbW cI a φr hv) t.heap) (mbA a)) ([.ref (a 0), .int p1, .int p2] : List Value).toArray s 0 0 (mbA a)) (F0 m 44 ls []) := by
    intro k
    induction k with
    | zero =>
      intro v1 v2 v3 φ H locs ls o3 φo h hP hS hl kk
      exact no_s h
    | succ k ih =>
      intro v1 v2 v3 φ H locs ls o3 φo h hP hS hl kk
      replace h : B_X9_leastBits_44 N v1 v2 (L_X9_leastBits_44 N v1 v2 k) v3 φ = some (o3, φo) := h
      unfold B_X9_leastBits_44 at h
      refine lv_iload_n hx hb dX9_leastBits_44 rfl (lv_at hl 3 rfl) ?_
      refine lv_bipush (v := 7) hx hb dX9_leastBits_45 (by decide) ?_
      refine lv_icmp_ge (tgt := 72) hx hb dX9_leastBits_47 (by decide) (fun hc => ?_) (fun hc => ?_)
      · replace h := oi_t hc h
        obtain ⟨rfl, rfl⟩ := os2 h
        exact kk _ _ _ hP hS (lv_sub hl [0, 3] rfl)
      · replace h := oi_f hc h
        refine lv_aload_n hx hb dX9_leastBits_50 rfl (lv_at hl 0 rfl) ?_
        refine lv_iload_n hx hb dX9_leastBits_51 rfl (lv_at hl 3 rfl) ?_
        refine lv_iload_n hx hb dX9_leastBits_52 rfl (lv_at hl 1 rfl) ?_
        refine lv_iload_n hx hb dX9_leastBits_53 rfl (lv_at hl 2 rfl) ?_
        refine lv_aload_n hx hb dX9_leastBits_54 rfl (lv_at hl 0 rfl) ?_
        refine M_g0_0 hx hb hA hown aF_RX9_7 hK hP dX9_leastBits_55 ?_
        refine lv_iconst (v := 3) hx hb dX9_leastBits_58 (by decide) ?_
        obtain ⟨i5, h⟩ := oin_e h
        refine M_ld1 hx hb hK hP i5 dX9_leastBits_59 ?_
        obtain ⟨r8, w6, h7, h⟩ := obd2_e h
        refine k_X9_rebuilds S aM_RX9_235 ⟨Nat.le_of_ble_eq_true rfl, Nat.le_of_ble_eq_true rfl⟩ ⟨Nat.zero_le _, Nat.zero_le _⟩ hP hK hDT hS h7 hl.1 (Nat.le_of_ble_eq_true rfl) dX9_leastBits_60 (fun br8 H locs hP hS => ?_)
        refine lv_if_ne (tgt := 72) hx hb dX9_leastBits_63 (by decide) (fun hc => ?_) (fun hc => ?_)
        · replace h := oi_f hc h
          obtain ⟨rfl, rfl⟩ := os2 h
          exact kk _ _ _ hP hS (lv_sub hl [0, 3] rfl)
        · replace h := oi_t hc h
          refine lv_iinc (v := v3 + 1) (lv' := [(3, .int (v3 + 1)), (0, .ref (a 0)), (1, .int v1), (2, .int v2)]) hx hb dX9_leastBits_66 hl (k := 3) rfl (fm_inc _ _ _ (by decide)) (by decide) rfl (fun ls hl => ?_)
          refine lv_goto (tgt := 44) hx hb dX9_leastBits_69 (by decide) ?_
          exact ih _ _ _ _ _ _ _ _ _ h hP hS (lv_sub hl [1, 2, 3, 0] rfl) kk
  have hJ24 : ∀ (v1 : Int32) (v2 : Int32) (φ : M2) (H : Heap) (locs : List Loc) (ls : Array Slot), J_X9_leastBits_24 N φ v1 v2 = some (r0, φr) → va_P D vwCl (mbW cI a φ hv) H → va_S (mbA a) s.heap H locs → lv_has ls 4 [(0, .ref (a 0)), (1, .int v1), (2, .int v2)] → W p l e (headSpec (wsA yX9_leastBits cX9_leastBits 4 (some .int)) { frames := 7, cells := 0, slots := 0, locals := 158 }).room s m ([.ref (a 0), .int p1, .int p2] : List Value).toArray below meth c H locs 0 0 (MQ below (va_Qi (fun (r : Int32) (_ : Unit) => r = r0) (fun _ t => va_P D vwCl (mbW cI a φr hv) t.heap) (mbA a)) ([.ref (a 0), .int p1, .int p2] : List Value).toArray s 0 0 (mbA a)) (F0 m 24 ls [.ref (a 0)]) := by
    intro v1 v2 φ H locs ls h hP hS hl
    unfold J_X9_leastBits_24 at h
    refine lv_iconst (v := 1) hx hb dX9_leastBits_24 (by decide) ?_
    refine M_p0_5 hx hb hA hown aF_RX9_64 hK hP (hDA _ _) hS dX9_leastBits_25 (fun w2 H locs ew2 hP hS => ?_)
    replace h := olet_s ew2 h
    refine lv_aload_n hx hb dX9_leastBits_28 rfl (lv_at hl 0 rfl) ?_
    refine M_g0_5 hx hb hA hown aF_RX9_64 hK hP dX9_leastBits_29 ?_
    refine lv_if_eq (tgt := 37) hx hb dX9_leastBits_32 (by decide) (fun hc => ?_) (fun hc => ?_)
    · replace h := oi_t hc h
      refine lv_aload_n hx hb dX9_leastBits_37 rfl (lv_at hl 0 rfl) ?_
      refine lv_iconst (v := 4) hx hb dX9_leastBits_38 (by decide) ?_
      obtain ⟨w3, h4, h⟩ := obd_e h
      refine k_X9_copy S aM_RX9_74 ⟨Nat.le_of_ble_eq_true rfl, Nat.le_of_ble_eq_true rfl⟩ ⟨Nat.zero_le _, Nat.zero_le _⟩ hP hK hDT hS h4 hl.1 (Nat.le_of_ble_eq_true rfl) dX9_leastBits_39 (fun H locs hP hS => ?_)
      refine lv_iconst (v := 1) hx hb dX9_leastBits_42 (by decide) ?_
      refine lv_istore_n (lv' := [(3, .int 1), (0, .ref (a 0)), (1, .int v1), (2, .int v2)]) hx hb dX9_leastBits_43 rfl hl (by decide) rfl (fun ls hl => ?_)
      obtain ⟨y9, w10, h11, h⟩ := obd2_e h
      refine hL44 N _ _ _ _ _ _ _ _ _ h11 hP hS (lv_sub hl [1, 2, 3, 0] rfl) (fun H locs ls hP hS hl => ?_)
      refine lv_aload_n hx hb dX9_leastBits_72 rfl (lv_at hl 0 rfl) ?_
      refine lv_iconst (v := 4) hx hb dX9_leastBits_73 (by decide) ?_
      obtain ⟨w12, h13, h⟩ := obd_e h
      refine k_X9_layBack S aM_RX9_206 ⟨Nat.le_of_ble_eq_true rfl, Nat.le_of_ble_eq_true rfl⟩ ⟨Nat.zero_le _, Nat.zero_le _⟩ hP hK hDT hS h13 hl.1 (Nat.le_of_ble_eq_true rfl) dX9_leastBits_74 (fun H locs hP hS => ?_)
      refine lv_iload_n hx hb dX9_leastBits_77 rfl (lv_at hl 1 rfl) ?_
      refine lv_bipush (v := 7) hx hb dX9_leastBits_78 (by decide) ?_
      refine lv_icmp_ge (tgt := 87) hx hb dX9_leastBits_80 (by decide) (fun hc => ?_) (fun hc => ?_)
      · replace h := oi_t hc h
        refine lv_iconst (v := (-1)) hx hb dX9_leastBits_87 (by decide) ?_
        obtain ⟨rfl, rfl⟩ := os2 h
        exact W.iret (v := (-1)) hx hb hr (fun t ht hW => ⟨⟨_, (), rfl, rfl, by show va_P _ _ _ t.heap; rw [ht]; exact hP⟩, hS.F ht⟩) hS.2.2 dX9_leastBits_88
      · replace h := oi_f hc h
        refine lv_iload_n hx hb dX9_leastBits_83 rfl (lv_at hl 1 rfl) ?_
        refine lv_goto (tgt := 88) hx hb dX9_leastBits_84 (by decide) ?_
        obtain ⟨rfl, rfl⟩ := os2 h
        exact W.iret (v := y9) hx hb hr (fun t ht hW => ⟨⟨_, (), rfl, rfl, by show va_P _ _ _ t.heap; rw [ht]; exact hP⟩, hS.F ht⟩) hS.2.2 dX9_leastBits_88
    · replace h := oi_f hc h
      refine lv_iconst (v := 0) hx hb dX9_leastBits_35 (by decide) ?_
      obtain ⟨rfl, rfl⟩ := os2 h
      exact W.iret (v := 0) hx hb hr (fun t ht hW => ⟨⟨_, (), rfl, rfl, by show va_P _ _ _ t.heap; rw [ht]; exact hP⟩, hS.F ht⟩) hS.2.2 dX9_leastBits_36
  have h := hF
  unfold G_X9_leastBits at h
  refine lv_aload_n hx hb dX9_leastBits_0 rfl (lv_at hl 0 rfl) ?_
  refine lv_iload_n hx hb dX9_leastBits_1 rfl (lv_at hl 1 rfl) ?_
  refine lv_iconst (v := 1) hx hb dX9_leastBits_2 (by decide) ?_
  refine lv_iconst (v := 4) hx hb dX9_leastBits_3 (by decide) ?_
  refine k_X9_in S aM_RX9_78 ⟨Nat.le_of_ble_eq_true rfl, Nat.le_of_ble_eq_true rfl⟩ ⟨Nat.zero_le _, Nat.zero_le _⟩ hl.1 (Nat.le_of_ble_eq_true rfl) dX9_leastBits_4 (fun r1 er1 br1 => ?_)
  replace h := olet_s er1 h
  refine lv_if_eq (tgt := 24) hx hb dX9_leastBits_7 (by decide) (fun hc => ?_) (fun hc => ?_)
  · replace h := oi_t hc h
    exact hJ24 _ _ _ _ _ _ h hP hS (lv_sub hl [0, 1, 2] rfl)
  · replace h := oi_f hc h
    refine lv_iload_n hx hb dX9_leastBits_10 rfl (lv_at hl 2 rfl) ?_
    refine lv_iconst (v := 1) hx hb dX9_leastBits_11 (by decide) ?_
    refine lv_bipush (v := 8) hx hb dX9_leastBits_12 (by decide) ?_
    refine k_X9_in S aM_RX9_78 ⟨Nat.le_of_ble_eq_true rfl, Nat.le_of_ble_eq_true rfl⟩ ⟨Nat.zero_le _, Nat.zero_le _⟩ hl.1 (Nat.le_of_ble_eq_true rfl) dX9_leastBits_14 (fun r14 er14 br14 => ?_)
    replace h := olet_s er14 h
    refine lv_if_eq (tgt := 24) hx hb dX9_leastBits_17 (by decide) (fun hc => ?_) (fun hc => ?_)
    · replace h := oi_t hc h
      exact hJ24 _ _ _ _ _ _ h hP hS (lv_sub hl [0, 1, 2] rfl)
    · replace h := oi_f hc h
      refine lv_iconst (v := 0) hx hb dX9_leastBits_20 (by decide) ?_
      refine lv_goto (tgt := 25) hx hb dX9_leastBits_21 (by decide) ?_
      refine M_p0_5 hx hb hA hown aF_RX9_64 hK hP (hDA _ _) hS dX9_leastBits_25 (fun w15 H locs ew15 hP hS => ?_)
      replace h := olet_s ew15 h
      refine lv_aload_n hx hb dX9_leastBits_28 rfl (lv_at hl 0 rfl) ?_
      refine M_g0_5 hx hb hA hown aF_RX9_64 hK hP dX9_leastBits_29 ?_
      refine lv_if_eq (tgt := 37) hx hb dX9_leastBits_32 (by decide) (fun hc => ?_) (fun hc => ?_)
      · replace h := oi_t hc h
        refine lv_aload_n hx hb dX9_leastBits_37 rfl (lv_at hl 0 rfl) ?_
        refine lv_iconst (v := 4) hx hb dX9_leastBits_38 (by decide) ?_
        obtain ⟨w16, h17, h⟩ := obd_e h
        refine k_X9_copy S aM_RX9_74 ⟨Nat.le_of_ble_eq_true rfl, Nat.le_of_ble_eq_true rfl⟩ ⟨Nat.zero_le _, Nat.zero_le _⟩ hP hK hDT hS h17 hl.1 (Nat.le_of_ble_eq_true rfl) dX9_leastBits_39 (fun H locs hP hS => ?_)
        refine lv_iconst (v := 1) hx hb dX9_leastBits_42 (by decide) ?_
        refine lv_istore_n (lv' := [(3, .int 1), (0, .ref (a 0)), (1, .int p1), (2, .int p2)]) hx hb dX9_leastBits_43 rfl hl (by decide) rfl (fun ls hl => ?_)
        obtain ⟨y18, w19, h20, h⟩ := obd2_e h
        refine hL44 N _ _ _ _ _ _ _ _ _ h20 hP hS (lv_sub hl [1, 2, 3, 0] rfl) (fun H locs ls hP hS hl => ?_)
        refine lv_aload_n hx hb dX9_leastBits_72 rfl (lv_at hl 0 rfl) ?_
        refine lv_iconst (v := 4) hx hb dX9_leastBits_73 (by decide) ?_
        obtain ⟨w21, h22, h⟩ := obd_e h
        refine k_X9_layBack S aM_RX9_206 ⟨Nat.le_of_ble_eq_true rfl, Nat.le_of_ble_eq_true rfl⟩ ⟨Nat.zero_le _, Nat.zero_le _⟩ hP hK hDT hS h22 hl.1 (Nat.le_of_ble_eq_true rfl) dX9_leastBits_74 (fun H locs hP hS => ?_)
        refine lv_iload_n hx hb dX9_leastBits_77 rfl (lv_at hl 1 rfl) ?_
        refine lv_bipush (v := 7) hx hb dX9_leastBits_78 (by decide) ?_
        refine lv_icmp_ge (tgt := 87) hx hb dX9_leastBits_80 (by decide) (fun hc => ?_) (fun hc => ?_)
        · replace h := oi_t hc h
          refine lv_iconst (v := (-1)) hx hb dX9_leastBits_87 (by decide) ?_
          obtain ⟨rfl, rfl⟩ := os2 h
          exact W.iret (v := (-1)) hx hb hr (fun t ht hW => ⟨⟨_, (), rfl, rfl, by show va_P _ _ _ t.heap; rw [ht]; exact hP⟩, hS.F ht⟩) hS.2.2 dX9_leastBits_88
        · replace h := oi_f hc h
          refine lv_iload_n hx hb dX9_leastBits_83 rfl (lv_at hl 1 rfl) ?_
          refine lv_goto (tgt := 88) hx hb dX9_leastBits_84 (by decide) ?_
          obtain ⟨rfl, rfl⟩ := os2 h
          exact W.iret (v := y18) hx hb hr (fun t ht hW => ⟨⟨_, (), rfl, rfl, by show va_P _ _ _ t.heap; rw [ht]; exact hP⟩, hS.F ht⟩) hS.2.2 dX9_leastBits_88
      · replace h := oi_f hc h
        refine lv_iconst (v := 0) hx hb dX9_leastBits_35 (by decide) ?_
        obtain ⟨rfl, rfl⟩ := os2 h
        exact W.iret (v := 0) hx hb hr (fun t ht hW => ⟨⟨_, (), rfl, rfl, by show va_P _ _ _ t.heap; rw [ht]; exact hP⟩, hS.F ht⟩) hS.2.2 dX9_leastBits_36
theorem k_X9_leastBits {p : Program} {l : Launch} {e : Env} {R : Room} {s : State} {m : MethodId} {args : Array Value} {below : List Frame} {meth : Method} {c : Code} {H : Heap} {locs : List Loc} {cells slots : Nat} {Q : State → Prop} {cc : ByteArray} {pc nL idx : Nat} {ls : Array Slot} {rest : List Value} {own : String} {D : va_G} {cI : ClassId} {a : Nat → Nat} {H0 : Heap} {N : Nat} {φ : M2} {p1 : Int32} {p2 : Int32} {hv : Int64} {r0 : Int32} {φr : M2} (S : CallFix p m c cc nL s args AW own) (h1 : Cond.methodLink own idx yX9_leastBits ∈ AW) (hR : 7 + 1 ≤ R.frames ∧ 8 + (4 + 11) + 158 ≤ R.locals) (hc : cells ≤ R.cells ∧ slots ≤ R.slots) (hP : va_P D vwCl (mbW cI a φ hv) H) (hK : va_K D vwCl [(cI, .int)] s) (hDT : ∀ (φ2 : M2) (hv2 : Int64), va_D (fun _ => True) (mbW cI a φ2 hv2)) (hS : va_S (mbA a) H0 H locs) (hF : G_X9_leastBits N φ p1 p2 = some (r0, φr)) (hsz : ls.size = nL) (hW : (rest.map fun v => v.category).sum ≤ 8) (hdg : decode cc pc = .ok (.invokevirtual idx, 3)) (kk : ∀ (H1 : Heap) (locs1 : List Loc), va_P D vwCl (mbW cI a φr hv) H1 → va_S (mbA a) H0 H1 locs1 → W p l e R s m args below meth c H1 locs1 cells slots Q (F0 m (pc + 3) ls (.int r0 :: rest))) : W p l e R s m args below meth c H locs cells slots Q (F0 m pc ls (.int p2 :: .int p1 :: .ref (a 0) :: rest)) :=
  fm_runVi (n := 2) (C := RX9) (As := [.int p1, .int p2]) S (c_X9_leastBits l D cI a N φ p1 p2 hv r0 φr hF) (M_pre (q0 := 0) (ci := 7) hK hP (hDT _ _) rfl rfl) hS h1 aI_X9_leastBits aV_X9_leastBits aN_RX9 aC_X9_leastBits rfl rfl (by decide +kernel) rfl hR hc hsz hW hdg (fun r H1 locs1 hr hP1 hS1 => by subst hr; exact kk H1 locs1 hP1 hS1)
set_option maxHeartbeats 4000000 in
set_option maxRecDepth 100000 in
theorem c_X9_shifts (l : Launch) (D : va_G) (cI : ClassId) (a : Nat → Nat) (N : Nat) (φ : M2) (p1 : Int32) (p2 : Int32) (hv : Int64) (φr : M2) (hF : G_X9_shifts N φ p1 p2 = some φr) : Met l yX9_shifts (wsA yX9_shifts cX9_shifts 6 none) { frames := 0, cells := 0, slots := 0, locals := 0 } (va_Pc [.ref (a 0), .int p1, .int p2] (mbP D cI a φ hv)) (va_Qv (fun (_ : Unit) => True) (fun _ t => va_P D vwCl (mbW cI a φr hv) t.heap) (mbA a)) 0 0 (mbA a) := by
  refine Met.ofW (cc := cX9_shifts) (maxL := 6) (ret := none) (by decide) rfl ?_
  intro p e s m args below meth c s₁ B hml hpre
  obtain ⟨rfl, hP, hK, hD0⟩ := hpre
  have hx := B.exec
  have hb := B.bytes
  have hr := B.returns
  have hA : ∀ w ∈ AW, w.before _ s = true := fun w h => atoms_spec (ws := wsA yX9_shifts cX9_shifts 6 none) B.pre w (List.mem_cons_of_mem _ h)
  have hown : s.vm.findClass RX9 = some m.cls := findClass_of_methodNamed B.named
  have hlocks := B.notSynchronized
  have hDT := M_dT hD0
  have hDA := M_dA hD0
  have hS : va_S (mbA a) s.heap s.heap [] := va_S.rf
  have S : CallFix p m c cX9_shifts 6 s ([.ref (a 0), .int p1, .int p2] : List Value).toArray AW RX9 := ⟨hx, hb, hml, hown, hA⟩
  have hl := lv_entry ([.ref (a 0), .int p1, .int p2]) (n := 6) (Nat.le_of_ble_eq_true rfl)
  rw [lg_entry_eq]
  generalize (lg_sl ([.ref (a 0), .int p1, .int p2]) ++ List.replicate (6 - (lg_sl ([.ref (a 0), .int p1, .int p2])).length) Slot.unset).toArray = ls at hl ⊢
  have hl : lv_has ls 6 [(0, .ref (a 0)), (1, .int p1), (2, .int p2)] := hl
  have hL12 : ∀ (k : Nat) (v1 : Int32) (v3 : Int32) (φ : M2) (H : Heap) (locs : List Loc) (ls : Array Slot) (o3 : Int32) (φo : M2), L_X9_shifts_12 N v1 k v3 φ = some (o3, φo) → va_P D vwCl (mbW cI a φ hv) H → va_S (mbA a) s.heap H locs → lv_has ls 6 [(0, .ref (a 0)), (1, .int v1), (3, .int v3)] → (∀ (H1 : Heap) (locs1 : List Loc) (ls1 : Array Slot), va_P D vwCl (mbW cI a φo hv) H1 → va_S (mbA a) s.heap H1 locs1 → lv_has ls1 6 [(0, .ref (a 0)), (1, .int v1), (3, .int o3)] → W p l e (headSpec (wsA yX9_shifts cX9_shifts 6 none) { frames := 0, cells := 0, slots := 0, locals := 0 }).room s m ([.ref (a 0), .int p1, .int p2] : List Value).toArray below meth c H1 locs1 0 0 (MQ below (va_Qv (fun (_ : Unit) => True) (fun _ t => va_P D vwCl (mbW cI a φr hv) t.heap) (mbA a)) ([.ref (a 0), .int p1, .int p2] : List Value).toArray s 0 0 (mbA a)) (F0 m 53 ls1 [])) → W p l e (headSpec (wsA yX9_shifts cX9_shifts 6 none) { frames := 0, cells := 0, slots := 0, locals := 0 }).room s m ([.ref (a 0), .int p1, .int p2] : List Value).toArray below meth c H locs 0 0 (MQ below (va_Qv (fun (_ : Unit) => True) (fun _ t => va_P D vwCl (mbW cI a φr hv) t.heap) (mbA a)) ([.ref (a 0), .int p1, .int p2] : List Value).toArray s 0 0 (mbA a)) (F0 m 12 ls []) := by
    intro k
    induction k with
    | zero =>
      intro v1 v3 φ H locs ls o3 φo h hP hS hl kk
      exact no_s h
    | succ k ih =>
      intro v1 v3 φ H locs ls o3 φo h hP hS hl kk
      replace h : B_X9_shifts_12 N v1 (L_X9_shifts_12 N v1 k) v3 φ = some (o3, φo) := h
      unfold B_X9_shifts_12 at h
      refine lv_aload_n hx hb dX9_shifts_12 rfl (lv_at hl 0 rfl) ?_
      refine M_g0_23 hx hb hA hown aF_RX9_52 hK hP dX9_shifts_13 ?_
      refine lv_iload_n hx hb dX9_shifts_16 rfl (lv_at hl 2 rfl) ?_
      obtain ⟨i4, h⟩ := oin_e h
      refine M_ld15 hx hb hK hP i4 dX9_shifts_17 ?_
      refine lv_iload_n hx hb dX9_shifts_18 rfl (lv_at hl 1 rfl) ?_
      refine lv_icmp_eq (tgt := 53) hx hb dX9_shifts_19 (by decide) (fun hc => ?_) (fun hc => ?_)
      · replace h := oi_t hc h
        obtain ⟨rfl, rfl⟩ := os2 h
        exact kk _ _ _ hP hS (lv_sub hl [0, 1, 2] rfl)
      · replace h := oi_f hc h
        refine lv_aload_n hx hb dX9_shifts_22 rfl (lv_at hl 0 rfl) ?_
        refine M_g0_23 hx hb hA hown aF_RX9_52 hK hP dX9_shifts_23 ?_
        refine lv_iload_n hx hb dX9_shifts_26 rfl (lv_at hl 2 rfl) ?_
        obtain ⟨i5, h⟩ := oin_e h
        refine M_ld15 hx hb hK hP i5 dX9_shifts_27 ?_
        refine lv_topi (fun x6 ex6 => ?_)
        replace h := olet_s ex6 h
        refine lv_istore (lv' := [(4, .int x6), (0, .ref (a 0)), (1, .int v1), (3, .int v3)]) hx hb dX9_shifts_28 hl (by decide) rfl (fun ls hl => ?_)
        refine lv_aload_n hx hb dX9_shifts_30 rfl (lv_at hl 1 rfl) ?_
        refine M_g0_20 hx hb hA hown aF_RX9_43 hK hP dX9_shifts_31 ?_
        refine lv_iload hx hb dX9_shifts_34 (lv_at hl 0 rfl) ?_
        obtain ⟨i7, h⟩ := oin_e h
        refine M_ld12 hx hb hK hP i7 dX9_shifts_36 ?_
        refine lv_topi (fun x8 ex8 => ?_)
        replace h := olet_s ex8 h
        refine lv_istore (lv' := [(5, .int x8), (4, .int x6), (0, .ref (a 0)), (1, .int v1), (3, .int v3)]) hx hb dX9_shifts_37 hl (by decide) rfl (fun ls hl => ?_)
        refine lv_aload_n hx hb dX9_shifts_39 rfl (lv_at hl 2 rfl) ?_
        refine M_g0_20 hx hb hA hown aF_RX9_43 hK hP dX9_shifts_40 ?_
        refine lv_iload hx hb dX9_shifts_43 (lv_at hl 1 rfl) ?_
        refine lv_iload_n hx hb dX9_shifts_45 rfl (lv_at hl 4 rfl) ?_
        obtain ⟨i9, h⟩ := oin_e h
        refine M_st12 hx hb hK hP (hDA _ _) hS i9 dX9_shifts_46 (fun w10 H locs ew10 hP hS => ?_)
        replace h := olet_s ew10 h
        refine lv_iload hx hb dX9_shifts_47 (lv_at hl 0 rfl) ?_
        refine lv_istore_n (lv' := [(3, .int x8), (5, .int x8), (4, .int x6), (0, .ref (a 0)), (1, .int v1)]) hx hb dX9_shifts_49 rfl hl (by decide) rfl (fun ls hl => ?_)
        refine lv_goto (tgt := 12) hx hb dX9_shifts_50 (by decide) ?_
        exact ih _ _ _ _ _ _ _ _ h hP hS (lv_sub hl [3, 4, 0] rfl) kk
  have h := hF
  unfold G_X9_shifts at h
  refine lv_aload_n hx hb dX9_shifts_0 rfl (lv_at hl 0 rfl) ?_
  refine M_g0_21 hx hb hA hown aF_RX9_46 hK hP dX9_shifts_1 ?_
  refine lv_iload_n hx hb dX9_shifts_4 rfl (lv_at hl 2 rfl) ?_
  refine lv_dup2_11 hx hb dX9_shifts_5 rfl rfl ?_
  obtain ⟨i1, h⟩ := oin_e h
  refine M_ld13 hx hb hK hP i1 dX9_shifts_6 ?_
  refine lv_iconst (v := 1) hx hb dX9_shifts_7 (by decide) ?_
  refine lv_iadd hx hb dX9_shifts_8 ?_
  obtain ⟨i2, h⟩ := oin_e h
  refine M_st13 hx hb hK hP (hDA _ _) hS i2 dX9_shifts_9 (fun w3 H locs ew3 hP hS => ?_)
  replace h := olet_s ew3 h
  refine lv_iload_n hx hb dX9_shifts_10 rfl (lv_at hl 2 rfl) ?_
  refine lv_istore_n (lv' := [(3, .int p2), (0, .ref (a 0)), (1, .int p1), (2, .int p2)]) hx hb dX9_shifts_11 rfl hl (by decide) rfl (fun ls hl => ?_)
  obtain ⟨y11, w12, h13, h⟩ := obd2_e h
  refine hL12 N _ _ _ _ _ _ _ _ h13 hP hS (lv_sub hl [1, 2, 0] rfl) (fun H locs ls hP hS hl => ?_)
  refine lv_aload_n hx hb dX9_shifts_53 rfl (lv_at hl 0 rfl) ?_
  refine M_g0_20 hx hb hA hown aF_RX9_43 hK hP dX9_shifts_54 ?_
  refine lv_iload_n hx hb dX9_shifts_57 rfl (lv_at hl 1 rfl) ?_
  refine lv_iload_n hx hb dX9_shifts_58 rfl (lv_at hl 2 rfl) ?_
  obtain ⟨i14, h⟩ := oin_e h
  refine M_st12 hx hb hK hP (hDA _ _) hS i14 dX9_shifts_59 (fun w15 H locs ew15 hP hS => ?_)
  replace h := olet_s ew15 h
  obtain rfl := os1 h
  exact W.vret hx hb hr (fun t ht hW => ⟨⟨(), rfl, trivial, by show va_P _ _ _ t.heap; rw [ht]; exact hP⟩, hS.F ht⟩) hS.2.2 dX9_shifts_60
theorem k_X9_shifts {p : Program} {l : Launch} {e : Env} {R : Room} {s : State} {m : MethodId} {args : Array Value} {below : List Frame} {meth : Method} {c : Code} {H : Heap} {locs : List Loc} {cells slots : Nat} {Q : State → Prop} {cc : ByteArray} {pc nL idx : Nat} {ls : Array Slot} {rest : List Value} {own : String} {D : va_G} {cI : ClassId} {a : Nat → Nat} {H0 : Heap} {N : Nat} {φ : M2} {p1 : Int32} {p2 : Int32} {hv : Int64} {φr : M2} (S : CallFix p m c cc nL s args AW own) (h1 : Cond.methodLink own idx yX9_shifts ∈ AW) (hR : 0 + 1 ≤ R.frames ∧ 8 + (6 + 11) + 0 ≤ R.locals) (hc : cells ≤ R.cells ∧ slots ≤ R.slots) (hP : va_P D vwCl (mbW cI a φ hv) H) (hK : va_K D vwCl [(cI, .int)] s) (hDT : ∀ (φ2 : M2) (hv2 : Int64), va_D (fun _ => True) (mbW cI a φ2 hv2)) (hS : va_S (mbA a) H0 H locs) (hF : G_X9_shifts N φ p1 p2 = some φr) (hsz : ls.size = nL) (hW : (rest.map fun v => v.category).sum ≤ 8) (hdg : decode cc pc = .ok (.invokevirtual idx, 3)) (kk : ∀ (H1 : Heap) (locs1 : List Loc), va_P D vwCl (mbW cI a φr hv) H1 → va_S (mbA a) H0 H1 locs1 → W p l e R s m args below meth c H1 locs1 cells slots Q (F0 m (pc + 3) ls (rest))) : W p l e R s m args below meth c H locs cells slots Q (F0 m pc ls (.int p2 :: .int p1 :: .ref (a 0) :: rest)) :=
  fm_runVv (n := 2) (C := RX9) (As := [.int p1, .int p2]) S (c_X9_shifts l D cI a N φ p1 p2 hv φr hF) (M_pre (q0 := 0) (ci := 7) hK hP (hDT _ _) rfl rfl) hS h1 aI_X9_shifts aV_X9_shifts aN_RX9 aC_X9_shifts rfl rfl (by decide +kernel) rfl hR hc hsz hW hdg (fun H1 locs1 hP1 hS1 => kk H1 locs1 hP1 hS1)
set_option maxHeartbeats 4000000 in
set_option maxRecDepth 100000 in
theorem c_X9_distributes (l : Launch) (D : va_G) (cI : ClassId) (a : Nat → Nat) (N : Nat) (φ : M2) (p1 : Int32) (p2 : Int32) (hv : Int64) (r0 : Int32) (φr : M2) (hF : G_X9_distributes N φ p1 p2 = some (r0, φr)) : Met l yX9_distributes (wsA yX9_distributes cX9_distributes 7 (some .boolean)) { frames := 1, cells := 0, slots := 0, locals := 25 } (va_Pc [.ref (a 0), .int p1, .int p2] (mbP D cI a φ hv)) (va_Qi (fun (r : Int32) (_ : Unit) => r = r0 ∧ (r = 0 ∨ r = 1)) (fun _ t => va_P D vwCl (mbW cI a φr hv) t.heap) (mbA a)) 0 0 (mbA a) := by
  refine Met.ofW (cc := cX9_distributes) (maxL := 7) (ret := (some .boolean)) (by decide) rfl ?_
  intro p e s m args below meth c s₁ B hml hpre
  obtain ⟨rfl, hP, hK, hD0⟩ := hpre
  have hx := B.exec
  have hb := B.bytes
  have hr := B.returns
  have hA : ∀ w ∈ AW, w.before _ s = true := fun w h => atoms_spec (ws := wsA yX9_distributes cX9_distributes 7 (some .boolean)) B.pre w (List.mem_cons_of_mem _ h)
  have hown : s.vm.findClass RX9 = some m.cls := findClass_of_methodNamed B.named
  have hlocks := B.notSynchronized
  have hDT := M_dT hD0
  have hDA := M_dA hD0
  have hS : va_S (mbA a) s.heap s.heap [] := va_S.rf
  have S : CallFix p m c cX9_distributes 7 s ([.ref (a 0), .int p1, .int p2] : List Value).toArray AW RX9 := ⟨hx, hb, hml, hown, hA⟩
  have hl := lv_entry ([.ref (a 0), .int p1, .int p2]) (n := 7) (Nat.le_of_ble_eq_true rfl)
  rw [lg_entry_eq]
  generalize (lg_sl ([.ref (a 0), .int p1, .int p2]) ++ List.replicate (7 - (lg_sl ([.ref (a 0), .int p1, .int p2])).length) Slot.unset).toArray = ls at hl ⊢
  have hl : lv_has ls 7 [(0, .ref (a 0)), (1, .int p1), (2, .int p2)] := hl
  have hL2 : ∀ (k : Nat) (v1 : Int32) (v2 : Int32) (v3 : Int32) (φ : M2) (H : Heap) (locs : List Loc) (ls : Array Slot) (φo : M2), L_X9_distributes_2 N v1 v2 k v3 φ = some φo → va_P D vwCl (mbW cI a φ hv) H → va_S (mbA a) s.heap H locs → lv_has ls 7 [(0, .ref (a 0)), (1, .int v1), (2, .int v2), (3, .int v3)] → (∀ (H1 : Heap) (locs1 : List Loc) (ls1 : Array Slot), va_P D vwCl (mbW cI a φo hv) H1 → va_S (mbA a) s.heap H1 locs1 → lv_has ls1 7 [(0, .ref (a 0)), (1, .int v1), (2, .int v2)] → W p l e (headSpec (wsA yX9_distributes cX9_distributes 7 (some .boolean)) { frames := 1, cells := 0, slots := 0, locals := 25 }).room s m ([.ref (a 0), .int p1, .int p2] : List Value).toArray below meth c H1 locs1 0 0 (MQ below (va_Qi (fun (r : Int32) (_ : Unit) => r = r0 ∧ (r = 0 ∨ r = 1)) (fun _ t => va_P D vwCl (mbW cI a φr hv) t.heap) (mbA a)) ([.ref (a 0), .int p1, .int p2] : List Value).toArray s 0 0 (mbA a)) (F0 m 21 ls1 [])) → W p l e (headSpec (wsA yX9_distributes cX9_distributes 7 (some .boolean)) { frames := 1, cells := 0, slots := 0, locals := 25 }).room s m ([.ref (a 0), .int p1, .int p2] : List Value).toArray below meth c H locs 0 0 (MQ below (va_Qi (fun (r : Int32) (_ : Unit) => r = r0 ∧ (r = 0 ∨ r = 1)) (fun _ t => va_P D vwCl (mbW cI a φr hv) t.heap) (mbA a)) ([.ref (a 0), .int p1, .int p2] : List Value).toArray s 0 0 (mbA a)) (F0 m 2 ls []) := by
    intro k
    induction k with
    | zero =>
      intro v1 v2 v3 φ H locs ls φo h hP hS hl kk
      exact no_s h
    | succ k ih =>
      intro v1 v2 v3 φ H locs ls φo h hP hS hl kk
      replace h : B_X9_distributes_2 N v1 v2 (L_X9_distributes_2 N v1 v2 k) v3 φ = some φo := h
      unfold B_X9_distributes_2 at h
      refine lv_iload_n hx hb dX9_distributes_2 rfl (lv_at hl 3 rfl) ?_
      refine lv_bipush (v := 64) hx hb dX9_distributes_3 (by decide) ?_
      refine lv_icmp_ge (tgt := 21) hx hb dX9_distributes_5 (by decide) (fun hc => ?_) (fun hc => ?_)
      · replace h := oi_t hc h
        obtain rfl := os1 h
        exact kk _ _ _ hP hS (lv_sub hl [0, 1, 2] rfl)
      · replace h := oi_f hc h
        refine lv_aload_n hx hb dX9_distributes_8 rfl (lv_at hl 0 rfl) ?_
        refine M_g0_23 hx hb hA hown aF_RX9_52 hK hP dX9_distributes_9 ?_
        refine lv_iload_n hx hb dX9_distributes_12 rfl (lv_at hl 3 rfl) ?_
        refine lv_iconst (v := (-1)) hx hb dX9_distributes_13 (by decide) ?_
        obtain ⟨i1, h⟩ := oin_e h
        refine M_st15 hx hb hK hP (hDA _ _) hS i1 dX9_distributes_14 (fun w2 H locs ew2 hP hS => ?_)
        replace h := olet_s ew2 h
        refine lv_iinc (v := v3 + 1) (lv' := [(3, .int (v3 + 1)), (0, .ref (a 0)), (1, .int v1), (2, .int v2)]) hx hb dX9_distributes_15 hl (k := 3) rfl (fm_inc _ _ _ (by decide)) (by decide) rfl (fun ls hl => ?_)
        refine lv_goto (tgt := 2) hx hb dX9_distributes_18 (by decide) ?_
        exact ih _ _ _ _ _ _ _ _ h hP hS (lv_sub hl [1, 2, 3, 0] rfl) kk
  have hL113 : ∀ (k : Nat) (v1 : Int32) (v2 : Int32) (v4 : Int32) (v3 : Int32) (v5 : Int32) (φ : M2) (H : Heap) (locs : List Loc) (ls : Array Slot) (o3 : Int32) (φo : M2), L_X9_distributes_113 N v1 v2 v4 k v3 v5 φ = some (o3, φo) → va_P D vwCl (mbW cI a φ hv) H → va_S (mbA a) s.heap H locs → lv_has ls 7 [(0, .ref (a 0)), (1, .int v1), (2, .int v2), (3, .int v3), (4, .int v4), (5, .int v5)] → (∀ (H1 : Heap) (locs1 : List Loc) (ls1 : Array Slot), va_P D vwCl (mbW cI a φo hv) H1 → va_S (mbA a) s.heap H1 locs1 → lv_has ls1 7 [(0, .ref (a 0)), (1, .int v1), (2, .int v2), (3, .int o3), (4, .int v4)] → W p l e (headSpec (wsA yX9_distributes cX9_distributes 7 (some .boolean)) { frames := 1, cells := 0, slots := 0, locals := 25 }).room s m ([.ref (a 0), .int p1, .int p2] : List Value).toArray below meth c H1 locs1 0 0 (MQ below (va_Qi (fun (r : Int32) (_ : Unit) => r = r0 ∧ (r = 0 ∨ r = 1)) (fun _ t => va_P D vwCl (mbW cI a φr hv) t.heap) (mbA a)) ([.ref (a 0), .int p1, .int p2] : List Value).toArray s 0 0 (mbA a)) (F0 m 198 ls1 [])) → W p l e (headSpec (wsA yX9_distributes cX9_distributes 7 (some .boolean)) { frames := 1, cells := 0, slots := 0, locals := 25 }).room s m ([.ref (a 0), .int p1, .int p2] : List Value).toArray below meth c H locs 0 0 (MQ below (va_Qi (fun (r : Int32) (_ : Unit) => r = r0 ∧ (r = 0 ∨ r = 1)) (fun _ t => va_P D vwCl (mbW cI a φr hv) t.heap) (mbA a)) ([.ref (a 0), .int p1, .int p2] : List Value).toArray s 0 0 (mbA a)) (F0 m 113 ls []) := by
    intro k
    induction k with
    | zero =>
      intro v1 v2 v4 v3 v5 φ H locs ls o3 φo h hP hS hl kk
      exact no_s h
    | succ k ih =>
      intro v1 v2 v4 v3 v5 φ H locs ls o3 φo h hP hS hl kk
      replace h : B_X9_distributes_113 N v1 v2 v4 (L_X9_distributes_113 N v1 v2 v4 k) v3 v5 φ = some (o3, φo) := h
      unfold B_X9_distributes_113 at h
      refine lv_iload hx hb dX9_distributes_113 (lv_at hl 5 rfl) ?_
      refine lv_iload_n hx hb dX9_distributes_115 rfl (lv_at hl 1 rfl) ?_
      refine lv_icmp_ge (tgt := 198) hx hb dX9_distributes_116 (by decide) (fun hc => ?_) (fun hc => ?_)
      · replace h := oi_t hc h
        obtain ⟨rfl, rfl⟩ := os2 h
        exact kk _ _ _ hP hS (lv_sub hl [0, 1, 2, 3, 4] rfl)
      · replace h := oi_f hc h
        refine lv_aload_n hx hb dX9_distributes_119 rfl (lv_at hl 0 rfl) ?_
        refine M_g0_18 hx hb hA hown aF_RX9_37 hK hP dX9_distributes_120 ?_
        refine lv_iload hx hb dX9_distributes_123 (lv_at hl 5 rfl) ?_
        obtain ⟨i19, h⟩ := oin_e h
        refine M_ld10 hx hb hK hP i19 dX9_distributes_125 ?_
        refine lv_aload_n hx hb dX9_distributes_126 rfl (lv_at hl 0 rfl) ?_
        refine M_g0_19 hx hb hA hown aF_RX9_40 hK hP dX9_distributes_127 ?_
        refine lv_iload hx hb dX9_distributes_130 (lv_at hl 5 rfl) ?_
        obtain ⟨i20, h⟩ := oin_e h
        refine M_ld11 hx hb hK hP i20 dX9_distributes_132 ?_
        refine lv_ixor hx hb dX9_distributes_133 ?_
        refine lv_aload_n hx hb dX9_distributes_134 rfl (lv_at hl 0 rfl) ?_
        refine M_g0_20 hx hb hA hown aF_RX9_43 hK hP dX9_distributes_135 ?_
        refine lv_iload hx hb dX9_distributes_138 (lv_at hl 5 rfl) ?_
        obtain ⟨i21, h⟩ := oin_e h
        refine M_ld12 hx hb hK hP i21 dX9_distributes_140 ?_
        refine lv_ixor hx hb dX9_distributes_141 ?_
        refine lv_topi (fun x22 ex22 => ?_)
        replace h := olet_s ex22 h
        refine lv_istore (lv' := [(6, .int x22), (0, .ref (a 0)), (1, .int v1), (2, .int v2), (3, .int v3), (4, .int v4), (5, .int v5)]) hx hb dX9_distributes_142 hl (by decide) rfl (fun ls hl => ?_)
        refine lv_aload_n hx hb dX9_distributes_144 rfl (lv_at hl 1 rfl) ?_
        refine M_g0_20 hx hb hA hown aF_RX9_43 hK hP dX9_distributes_145 ?_
        refine lv_iload hx hb dX9_distributes_148 (lv_at hl 6 rfl) ?_
        obtain ⟨i23, h⟩ := oin_e h
        refine M_ld12 hx hb hK hP i23 dX9_distributes_150 ?_
        refine lv_aload_n hx hb dX9_distributes_151 rfl (lv_at hl 1 rfl) ?_
        refine M_g0_22 hx hb hA hown aF_RX9_49 hK hP dX9_distributes_152 ?_
        refine lv_iload hx hb dX9_distributes_155 (lv_at hl 5 rfl) ?_
        obtain ⟨i24, h⟩ := oin_e h
        refine M_ld14 hx hb hK hP i24 dX9_distributes_157 ?_
        refine lv_icmp_ne (tgt := 192) hx hb dX9_distributes_158 (by decide) (fun hc => ?_) (fun hc => ?_)
        · replace h := oi_f hc h
          refine lv_iinc (v := v5 + 1) (lv' := [(5, .int (v5 + 1)), (6, .int x22), (0, .ref (a 0)), (1, .int v1), (2, .int v2), (3, .int v3), (4, .int v4)]) hx hb dX9_distributes_192 hl (k := 6) rfl (fm_inc _ _ _ (by decide)) (by decide) rfl (fun ls hl => ?_)
          refine lv_goto (tgt := 113) hx hb dX9_distributes_195 (by decide) ?_
          exact ih _ _ _ _ _ _ _ _ _ _ _ h hP hS (lv_sub hl [2, 3, 4, 5, 6, 0] rfl) kk
        · replace h := oi_t hc h
          refine lv_aload_n hx hb dX9_distributes_161 rfl (lv_at hl 1 rfl) ?_
          refine M_g0_23 hx hb hA hown aF_RX9_52 hK hP dX9_distributes_162 ?_
          refine lv_iload hx hb dX9_distributes_165 (lv_at hl 0 rfl) ?_
          obtain ⟨i25, h⟩ := oin_e h
          refine M_ld15 hx hb hK hP i25 dX9_distributes_167 ?_
          refine lv_iconst (v := (-1)) hx hb dX9_distributes_168 (by decide) ?_
          refine lv_icmp_ne (tgt := 192) hx hb dX9_distributes_169 (by decide) (fun hc => ?_) (fun hc => ?_)
          · replace h := oi_f hc h
            refine lv_iinc (v := v5 + 1) (lv' := [(5, .int (v5 + 1)), (6, .int x22), (0, .ref (a 0)), (1, .int v1), (2, .int v2), (3, .int v3), (4, .int v4)]) hx hb dX9_distributes_192 hl (k := 6) rfl (fm_inc _ _ _ (by decide)) (by decide) rfl (fun ls hl => ?_)
            refine lv_goto (tgt := 113) hx hb dX9_distributes_195 (by decide) ?_
            exact ih _ _ _ _ _ _ _ _ _ _ _ h hP hS (lv_sub hl [2, 3, 4, 5, 6, 0] rfl) kk
          · replace h := oi_t hc h
            refine lv_aload_n hx hb dX9_distributes_172 rfl (lv_at hl 1 rfl) ?_
            refine M_g0_23 hx hb hA hown aF_RX9_52 hK hP dX9_distributes_173 ?_
            refine lv_iload hx hb dX9_distributes_176 (lv_at hl 0 rfl) ?_
            refine lv_iload hx hb dX9_distributes_178 (lv_at hl 6 rfl) ?_
            obtain ⟨i26, h⟩ := oin_e h
            refine M_st15 hx hb hK hP (hDA _ _) hS i26 dX9_distributes_180 (fun w27 H locs ew27 hP hS => ?_)
            replace h := olet_s ew27 h
            refine lv_aload_n hx hb dX9_distributes_181 rfl (lv_at hl 1 rfl) ?_
            refine M_g0_22 hx hb hA hown aF_RX9_49 hK hP dX9_distributes_182 ?_
            refine lv_iload_n hx hb dX9_distributes_185 rfl (lv_at hl 4 rfl) ?_
            refine lv_iload hx hb dX9_distributes_186 (lv_at hl 0 rfl) ?_
            obtain ⟨i28, h⟩ := oin_e h
            refine M_st14 hx hb hK hP (hDA _ _) hS i28 dX9_distributes_188 (fun w29 H locs ew29 hP hS => ?_)
            replace h := olet_s ew29 h
            refine lv_iinc (v := v3 + 1) (lv' := [(3, .int (v3 + 1)), (6, .int x22), (0, .ref (a 0)), (1, .int v1), (2, .int v2), (4, .int v4), (5, .int v5)]) hx hb dX9_distributes_189 hl (k := 4) rfl (fm_inc _ _ _ (by decide)) (by decide) rfl (fun ls hl => ?_)
            refine lv_iinc (v := v5 + 1) (lv' := [(5, .int (v5 + 1)), (3, .int (v3 + 1)), (6, .int x22), (0, .ref (a 0)), (1, .int v1), (2, .int v2), (4, .int v4)]) hx hb dX9_distributes_192 hl (k := 6) rfl (fm_inc _ _ _ (by decide)) (by decide) rfl (fun ls hl => ?_)
            refine lv_goto (tgt := 113) hx hb dX9_distributes_195 (by decide) ?_
            exact ih _ _ _ _ _ _ _ _ _ _ _ h hP hS (lv_sub hl [3, 4, 5, 1, 6, 0] rfl) kk
  have hL74 : ∀ (k : Nat) (v1 : Int32) (v2 : Int32) (v3 : Int32) (v4 : Int32) (φ : M2) (H : Heap) (locs : List Loc) (ls : Array Slot) , L_X9_distributes_74 N v1 v2 k v3 v4 φ = some (r0, φr) → va_P D vwCl (mbW cI a φ hv) H → va_S (mbA a) s.heap H locs → lv_has ls 7 [(0, .ref (a 0)), (1, .int v1), (2, .int v2), (3, .int v3), (4, .int v4)] → W p l e (headSpec (wsA yX9_distributes cX9_distributes 7 (some .boolean)) { frames := 1, cells := 0, slots := 0, locals := 25 }).room s m ([.ref (a 0), .int p1, .int p2] : List Value).toArray below meth c H locs 0 0 (MQ below (va_Qi (fun (r : Int32) (_ : Unit) => r = r0 ∧ (r = 0 ∨ r = 1)) (fun _ t => va_P D vwCl (mbW cI a φr hv) t.heap) (mbA a)) ([.ref (a 0), .int p1, .int p2] : List Value).toArray s 0 0 (mbA a)) (F0 m 74 ls []) := by
    intro k
    induction k with
    | zero =>
      intro v1 v2 v3 v4 φ H locs ls h hP hS hl
      exact no_s h
    | succ k ih =>
      intro v1 v2 v3 v4 φ H locs ls h hP hS hl
      replace h : B_X9_distributes_74 N v1 v2 (L_X9_distributes_74 N v1 v2 k) v3 v4 φ = some (r0, φr) := h
      unfold B_X9_distributes_74 at h
      refine lv_iload hx hb dX9_distributes_74 (lv_at hl 4 rfl) ?_
      refine lv_iload_n hx hb dX9_distributes_76 rfl (lv_at hl 3 rfl) ?_
      refine lv_icmp_ge (tgt := 204) hx hb dX9_distributes_77 (by decide) (fun hc => ?_) (fun hc => ?_)
      · replace h := oi_t hc h
        refine lv_iconst (v := 0) hx hb dX9_distributes_204 (by decide) ?_
        obtain ⟨rfl, rfl⟩ := os2 h
        exact W.zret (v := 0) (ty := .boolean) hx hb hr rfl (fun t ht hW => ⟨⟨_, (), rfl, ⟨rfl, (Or.inl rfl)⟩, by show va_P _ _ _ t.heap; rw [ht]; exact hP⟩, hS.F ht⟩) hS.2.2 dX9_distributes_205
      · replace h := oi_f hc h
        refine lv_aload_n hx hb dX9_distributes_80 rfl (lv_at hl 0 rfl) ?_
        refine M_g0_21 hx hb hA hown aF_RX9_46 hK hP dX9_distributes_81 ?_
        refine lv_aload_n hx hb dX9_distributes_84 rfl (lv_at hl 0 rfl) ?_
        refine M_g0_22 hx hb hA hown aF_RX9_49 hK hP dX9_distributes_85 ?_
        refine lv_iload hx hb dX9_distributes_88 (lv_at hl 4 rfl) ?_
        obtain ⟨i17, h⟩ := oin_e h
        refine M_ld14 hx hb hK hP i17 dX9_distributes_90 ?_
        obtain ⟨i18, h⟩ := oin_e h
        refine M_ld13 hx hb hK hP i18 dX9_distributes_91 ?_
        refine lv_iload_n hx hb dX9_distributes_92 rfl (lv_at hl 2 rfl) ?_
        refine lv_icmp_ge (tgt := 110) hx hb dX9_distributes_93 (by decide) (fun hc => ?_) (fun hc => ?_)
        · replace h := oi_t hc h
          refine lv_iconst (v := 0) hx hb dX9_distributes_110 (by decide) ?_
          refine lv_istore (lv' := [(5, .int 0), (0, .ref (a 0)), (1, .int v1), (2, .int v2), (3, .int v3), (4, .int v4)]) hx hb dX9_distributes_111 hl (by decide) rfl (fun ls hl => ?_)
          obtain ⟨y30, w31, h32, h⟩ := obd2_e h
          refine hL113 N _ _ _ _ _ _ _ _ _ _ _ h32 hP hS (lv_sub hl [1, 2, 3, 4, 5, 0] rfl) (fun H locs ls hP hS hl => ?_)
          refine lv_iinc (v := v4 + 1) (lv' := [(4, .int (v4 + 1)), (0, .ref (a 0)), (1, .int v1), (2, .int v2), (3, .int y30)]) hx hb dX9_distributes_198 hl (k := 4) rfl (fm_inc _ _ _ (by decide)) (by decide) rfl (fun ls hl => ?_)
          refine lv_goto (tgt := 74) hx hb dX9_distributes_201 (by decide) ?_
          exact ih _ _ _ _ _ _ _ _  h hP hS (lv_sub hl [1, 2, 3, 4, 0] rfl)
        · replace h := oi_f hc h
          refine lv_aload_n hx hb dX9_distributes_96 rfl (lv_at hl 0 rfl) ?_
          refine lv_iload_n hx hb dX9_distributes_97 rfl (lv_at hl 1 rfl) ?_
          refine lv_aload_n hx hb dX9_distributes_98 rfl (lv_at hl 0 rfl) ?_
          refine M_g0_22 hx hb hA hown aF_RX9_49 hK hP dX9_distributes_99 ?_
          refine lv_iload hx hb dX9_distributes_102 (lv_at hl 4 rfl) ?_
          obtain ⟨i33, h⟩ := oin_e h
          refine M_ld14 hx hb hK hP i33 dX9_distributes_104 ?_
          obtain ⟨w34, h35, h⟩ := obd_e h
          refine k_X9_shifts S aM_RX9_259 ⟨Nat.le_of_ble_eq_true rfl, Nat.le_of_ble_eq_true rfl⟩ ⟨Nat.zero_le _, Nat.zero_le _⟩ hP hK hDT hS h35 hl.1 (Nat.le_of_ble_eq_true rfl) dX9_distributes_105 (fun H locs hP hS => ?_)
          refine lv_iconst (v := 1) hx hb dX9_distributes_108 (by decide) ?_
          obtain ⟨rfl, rfl⟩ := os2 h
          exact W.zret (v := 1) (ty := .boolean) hx hb hr rfl (fun t ht hW => ⟨⟨_, (), rfl, ⟨rfl, (Or.inr rfl)⟩, by show va_P _ _ _ t.heap; rw [ht]; exact hP⟩, hS.F ht⟩) hS.2.2 dX9_distributes_109
  have h := hF
  unfold G_X9_distributes at h
  refine lv_iconst (v := 0) hx hb dX9_distributes_0 (by decide) ?_
  refine lv_istore_n (lv' := [(3, .int 0), (0, .ref (a 0)), (1, .int p1), (2, .int p2)]) hx hb dX9_distributes_1 rfl hl (by decide) rfl (fun ls hl => ?_)
  obtain ⟨w3, h4, h⟩ := obd_e h
  refine hL2 N _ _ _ _ _ _ _ _ h4 hP hS (lv_sub hl [1, 2, 3, 0] rfl) (fun H locs ls hP hS hl => ?_)
  refine lv_aload_n hx hb dX9_distributes_21 rfl (lv_at hl 0 rfl) ?_
  refine M_g0_22 hx hb hA hown aF_RX9_49 hK hP dX9_distributes_22 ?_
  refine lv_iconst (v := 0) hx hb dX9_distributes_25 (by decide) ?_
  refine lv_aload_n hx hb dX9_distributes_26 rfl (lv_at hl 0 rfl) ?_
  refine M_g0_18 hx hb hA hown aF_RX9_37 hK hP dX9_distributes_27 ?_
  refine lv_iload_n hx hb dX9_distributes_30 rfl (lv_at hl 1 rfl) ?_
  obtain ⟨i5, h⟩ := oin_e h
  refine M_ld10 hx hb hK hP i5 dX9_distributes_31 ?_
  obtain ⟨i6, h⟩ := oin_e h
  refine M_st14 hx hb hK hP (hDA _ _) hS i6 dX9_distributes_32 (fun w7 H locs ew7 hP hS => ?_)
  replace h := olet_s ew7 h
  refine lv_aload_n hx hb dX9_distributes_33 rfl (lv_at hl 0 rfl) ?_
  refine M_g0_22 hx hb hA hown aF_RX9_49 hK hP dX9_distributes_34 ?_
  refine lv_iconst (v := 1) hx hb dX9_distributes_37 (by decide) ?_
  refine lv_aload_n hx hb dX9_distributes_38 rfl (lv_at hl 0 rfl) ?_
  refine M_g0_19 hx hb hA hown aF_RX9_40 hK hP dX9_distributes_39 ?_
  refine lv_iload_n hx hb dX9_distributes_42 rfl (lv_at hl 1 rfl) ?_
  obtain ⟨i8, h⟩ := oin_e h
  refine M_ld11 hx hb hK hP i8 dX9_distributes_43 ?_
  obtain ⟨i9, h⟩ := oin_e h
  refine M_st14 hx hb hK hP (hDA _ _) hS i9 dX9_distributes_44 (fun w10 H locs ew10 hP hS => ?_)
  replace h := olet_s ew10 h
  refine lv_aload_n hx hb dX9_distributes_45 rfl (lv_at hl 0 rfl) ?_
  refine M_g0_23 hx hb hA hown aF_RX9_52 hK hP dX9_distributes_46 ?_
  refine lv_aload_n hx hb dX9_distributes_49 rfl (lv_at hl 0 rfl) ?_
  refine M_g0_18 hx hb hA hown aF_RX9_37 hK hP dX9_distributes_50 ?_
  refine lv_iload_n hx hb dX9_distributes_53 rfl (lv_at hl 1 rfl) ?_
  obtain ⟨i11, h⟩ := oin_e h
  refine M_ld10 hx hb hK hP i11 dX9_distributes_54 ?_
  refine lv_iload_n hx hb dX9_distributes_55 rfl (lv_at hl 1 rfl) ?_
  obtain ⟨i12, h⟩ := oin_e h
  refine M_st15 hx hb hK hP (hDA _ _) hS i12 dX9_distributes_56 (fun w13 H locs ew13 hP hS => ?_)
  replace h := olet_s ew13 h
  refine lv_aload_n hx hb dX9_distributes_57 rfl (lv_at hl 0 rfl) ?_
  refine M_g0_23 hx hb hA hown aF_RX9_52 hK hP dX9_distributes_58 ?_
  refine lv_aload_n hx hb dX9_distributes_61 rfl (lv_at hl 0 rfl) ?_
  refine M_g0_19 hx hb hA hown aF_RX9_40 hK hP dX9_distributes_62 ?_
  refine lv_iload_n hx hb dX9_distributes_65 rfl (lv_at hl 1 rfl) ?_
  obtain ⟨i14, h⟩ := oin_e h
  refine M_ld11 hx hb hK hP i14 dX9_distributes_66 ?_
  refine lv_iload_n hx hb dX9_distributes_67 rfl (lv_at hl 1 rfl) ?_
  obtain ⟨i15, h⟩ := oin_e h
  refine M_st15 hx hb hK hP (hDA _ _) hS i15 dX9_distributes_68 (fun w16 H locs ew16 hP hS => ?_)
  replace h := olet_s ew16 h
  refine lv_iconst (v := 2) hx hb dX9_distributes_69 (by decide) ?_
  refine lv_istore_n (lv' := [(3, .int 2), (0, .ref (a 0)), (1, .int p1), (2, .int p2)]) hx hb dX9_distributes_70 rfl hl (by decide) rfl (fun ls hl => ?_)
  refine lv_iconst (v := 0) hx hb dX9_distributes_71 (by decide) ?_
  refine lv_istore (lv' := [(4, .int 0), (3, .int 2), (0, .ref (a 0)), (1, .int p1), (2, .int p2)]) hx hb dX9_distributes_72 hl (by decide) rfl (fun ls hl => ?_)
  exact hL74 N _ _ _ _ _ _ _ _ h hP hS (lv_sub hl [2, 3, 4, 1, 0] rfl)
theorem k_X9_distributes {p : Program} {l : Launch} {e : Env} {R : Room} {s : State} {m : MethodId} {args : Array Value} {below : List Frame} {meth : Method} {c : Code} {H : Heap} {locs : List Loc} {cells slots : Nat} {Q : State → Prop} {cc : ByteArray} {pc nL idx : Nat} {ls : Array Slot} {rest : List Value} {own : String} {D : va_G} {cI : ClassId} {a : Nat → Nat} {H0 : Heap} {N : Nat} {φ : M2} {p1 : Int32} {p2 : Int32} {hv : Int64} {r0 : Int32} {φr : M2} (S : CallFix p m c cc nL s args AW own) (h1 : Cond.methodLink own idx yX9_distributes ∈ AW) (hR : 1 + 1 ≤ R.frames ∧ 8 + (7 + 11) + 25 ≤ R.locals) (hc : cells ≤ R.cells ∧ slots ≤ R.slots) (hP : va_P D vwCl (mbW cI a φ hv) H) (hK : va_K D vwCl [(cI, .int)] s) (hDT : ∀ (φ2 : M2) (hv2 : Int64), va_D (fun _ => True) (mbW cI a φ2 hv2)) (hS : va_S (mbA a) H0 H locs) (hF : G_X9_distributes N φ p1 p2 = some (r0, φr)) (hsz : ls.size = nL) (hW : (rest.map fun v => v.category).sum ≤ 8) (hdg : decode cc pc = .ok (.invokevirtual idx, 3)) (kk : (r0 = 0 ∨ r0 = 1) → ∀ (H1 : Heap) (locs1 : List Loc), va_P D vwCl (mbW cI a φr hv) H1 → va_S (mbA a) H0 H1 locs1 → W p l e R s m args below meth c H1 locs1 cells slots Q (F0 m (pc + 3) ls (.int r0 :: rest))) : W p l e R s m args below meth c H locs cells slots Q (F0 m pc ls (.int p2 :: .int p1 :: .ref (a 0) :: rest)) :=
  fm_runVi (n := 2) (C := RX9) (As := [.int p1, .int p2]) S (c_X9_distributes l D cI a N φ p1 p2 hv r0 φr hF) (M_pre (q0 := 0) (ci := 7) hK hP (hDT _ _) rfl rfl) hS h1 aI_X9_distributes aV_X9_distributes aN_RX9 aC_X9_distributes rfl rfl (by decide +kernel) rfl hR hc hsz hW hdg (fun r H1 locs1 hr hP1 hS1 => by obtain ⟨rfl, hz⟩ := hr; exact kk hz H1 locs1 hP1 hS1)
set_option maxHeartbeats 4000000 in
set_option maxRecDepth 100000 in
theorem c_X9_couldFit (l : Launch) (D : va_G) (cI : ClassId) (a : Nat → Nat) (N : Nat) (φ : M2) (p1 : Int32) (p2 : Int32) (p3 : Int32) (hv : Int64) (r0 : Int32) (φr : M2) (hF : G_X9_couldFit N φ p1 p2 p3 = some (r0, φr)) : Met l yX9_couldFit (wsA yX9_couldFit cX9_couldFit 6 (some .boolean)) { frames := 2, cells := 0, slots := 0, locals := 51 } (va_Pc [.ref (a 0), .int p1, .int p2, .int p3] (mbP D cI a φ hv)) (va_Qi (fun (r : Int32) (_ : Unit) => r = r0 ∧ (r = 0 ∨ r = 1)) (fun _ t => va_P D vwCl (mbW cI a φr hv) t.heap) (mbA a)) 0 0 (mbA a) := by
  refine Met.ofW (cc := cX9_couldFit) (maxL := 6) (ret := (some .boolean)) (by decide) rfl ?_
  intro p e s m args below meth c s₁ B hml hpre
  obtain ⟨rfl, hP, hK, hD0⟩ := hpre
  have hx := B.exec
  have hb := B.bytes
  have hr := B.returns
  have hA : ∀ w ∈ AW, w.before _ s = true := fun w h => atoms_spec (ws := wsA yX9_couldFit cX9_couldFit 6 (some .boolean)) B.pre w (List.mem_cons_of_mem _ h)
  have hown : s.vm.findClass RX9 = some m.cls := findClass_of_methodNamed B.named
  have hlocks := B.notSynchronized
  have hDT := M_dT hD0
  have hDA := M_dA hD0
  have hS : va_S (mbA a) s.heap s.heap [] := va_S.rf
  have S : CallFix p m c cX9_couldFit 6 s ([.ref (a 0), .int p1, .int p2, .int p3] : List Value).toArray AW RX9 := ⟨hx, hb, hml, hown, hA⟩
  have hl := lv_entry ([.ref (a 0), .int p1, .int p2, .int p3]) (n := 6) (Nat.le_of_ble_eq_true rfl)
  rw [lg_entry_eq]
  generalize (lg_sl ([.ref (a 0), .int p1, .int p2, .int p3]) ++ List.replicate (6 - (lg_sl ([.ref (a 0), .int p1, .int p2, .int p3])).length) Slot.unset).toArray = ls at hl ⊢
  have hl : lv_has ls 6 [(0, .ref (a 0)), (1, .int p1), (2, .int p2), (3, .int p3)] := hl
  have hL31 : ∀ (k : Nat) (v1 : Int32) (v2 : Int32) (v3 : Int32) (v4 : Int32) (φ : M2) (H : Heap) (locs : List Loc) (ls : Array Slot) (φo : M2), L_X9_couldFit_31 N v1 v2 v3 k v4 φ = some φo → va_P D vwCl (mbW cI a φ hv) H → va_S (mbA a) s.heap H locs → lv_has ls 6 [(0, .ref (a 0)), (1, .int v1), (2, .int v2), (3, .int v3), (4, .int v4)] → (∀ (H1 : Heap) (locs1 : List Loc) (ls1 : Array Slot), va_P D vwCl (mbW cI a φo hv) H1 → va_S (mbA a) s.heap H1 locs1 → lv_has ls1 6 [(0, .ref (a 0)), (1, .int v1), (2, .int v2), (3, .int v3)] → W p l e (headSpec (wsA yX9_couldFit cX9_couldFit 6 (some .boolean)) { frames := 2, cells := 0, slots := 0, locals := 51 }).room s m ([.ref (a 0), .int p1, .int p2, .int p3] : List Value).toArray below meth c H1 locs1 0 0 (MQ below (va_Qi (fun (r : Int32) (_ : Unit) => r = r0 ∧ (r = 0 ∨ r = 1)) (fun _ t => va_P D vwCl (mbW cI a φr hv) t.heap) (mbA a)) ([.ref (a 0), .int p1, .int p2, .int p3] : List Value).toArray s 0 0 (mbA a)) (F0 m 52 ls1 [])) → W p l e (headSpec (wsA yX9_couldFit cX9_couldFit 6 (some .boolean)) { frames := 2, cells := 0, slots := 0, locals := 51 }).room s m ([.ref (a 0), .int p1, .int p2, .int p3] : List Value).toArray below meth c H locs 0 0 (MQ below (va_Qi (fun (r : Int32) (_ : Unit) => r = r0 ∧ (r = 0 ∨ r = 1)) (fun _ t => va_P D vwCl (mbW cI a φr hv) t.heap) (mbA a)) ([.ref (a 0), .int p1, .int p2, .int p3] : List Value).toArray s 0 0 (mbA a)) (F0 m 31 ls []) := by
    intro k
    induction k with
    | zero =>
      intro v1 v2 v3 v4 φ H locs ls φo h hP hS hl kk
      exact no_s h
    | succ k ih =>
      intro v1 v2 v3 v4 φ H locs ls φo h hP hS hl kk
      replace h : B_X9_couldFit_31 N v1 v2 v3 (L_X9_couldFit_31 N v1 v2 v3 k) v4 φ = some φo := h
      unfold B_X9_couldFit_31 at h
      refine lv_iload hx hb dX9_couldFit_31 (lv_at hl 4 rfl) ?_
      refine lv_bipush (v := 64) hx hb dX9_couldFit_33 (by decide) ?_
      refine lv_icmp_ge (tgt := 52) hx hb dX9_couldFit_35 (by decide) (fun hc => ?_) (fun hc => ?_)
      · replace h := oi_t hc h
        obtain rfl := os1 h
        exact kk _ _ _ hP hS (lv_sub hl [0, 1, 2, 3] rfl)
      · replace h := oi_f hc h
        refine lv_aload_n hx hb dX9_couldFit_38 rfl (lv_at hl 0 rfl) ?_
        refine M_g0_21 hx hb hA hown aF_RX9_46 hK hP dX9_couldFit_39 ?_
        refine lv_iload hx hb dX9_couldFit_42 (lv_at hl 4 rfl) ?_
        refine lv_iconst (v := 0) hx hb dX9_couldFit_44 (by decide) ?_
        obtain ⟨i3, h⟩ := oin_e h
        refine M_st13 hx hb hK hP (hDA _ _) hS i3 dX9_couldFit_45 (fun w4 H locs ew4 hP hS => ?_)
        replace h := olet_s ew4 h
        refine lv_iinc (v := v4 + 1) (lv' := [(4, .int (v4 + 1)), (0, .ref (a 0)), (1, .int v1), (2, .int v2), (3, .int v3)]) hx hb dX9_couldFit_46 hl (k := 4) rfl (fm_inc _ _ _ (by decide)) (by decide) rfl (fun ls hl => ?_)
        refine lv_goto (tgt := 31) hx hb dX9_couldFit_49 (by decide) ?_
        exact ih _ _ _ _ _ _ _ _ _ h hP hS (lv_sub hl [1, 2, 3, 4, 0] rfl) kk
  have hL55 : ∀ (k : Nat) (v1 : Int32) (v2 : Int32) (v3 : Int32) (v4 : Int32) (φ : M2) (H : Heap) (locs : List Loc) (ls : Array Slot) , L_X9_couldFit_55 N v1 v2 v3 k v4 φ = some (r0, φr) → va_P D vwCl (mbW cI a φ hv) H → va_S (mbA a) s.heap H locs → lv_has ls 6 [(0, .ref (a 0)), (1, .int v1), (2, .int v2), (3, .int v3), (4, .int v4)] → W p l e (headSpec (wsA yX9_couldFit cX9_couldFit 6 (some .boolean)) { frames := 2, cells := 0, slots := 0, locals := 51 }).room s m ([.ref (a 0), .int p1, .int p2, .int p3] : List Value).toArray below meth c H locs 0 0 (MQ below (va_Qi (fun (r : Int32) (_ : Unit) => r = r0 ∧ (r = 0 ∨ r = 1)) (fun _ t => va_P D vwCl (mbW cI a φr hv) t.heap) (mbA a)) ([.ref (a 0), .int p1, .int p2, .int p3] : List Value).toArray s 0 0 (mbA a)) (F0 m 55 ls []) := by
    intro k
    induction k with
    | zero =>
      intro v1 v2 v3 v4 φ H locs ls h hP hS hl
      exact no_s h
    | succ k ih =>
      intro v1 v2 v3 v4 φ H locs ls h hP hS hl
      replace h : B_X9_couldFit_55 N v1 v2 v3 (L_X9_couldFit_55 N v1 v2 v3 k) v4 φ = some (r0, φr) := h
      unfold B_X9_couldFit_55 at h
      refine lv_iload hx hb dX9_couldFit_55 (lv_at hl 4 rfl) ?_
      refine lv_aload_n hx hb dX9_couldFit_57 rfl (lv_at hl 0 rfl) ?_
      refine M_g0_0 hx hb hA hown aF_RX9_7 hK hP dX9_couldFit_58 ?_
      refine lv_sipush (v := 1042) hx hb dX9_couldFit_61 (by decide) ?_
      obtain ⟨i7, h⟩ := oin_e h
      refine M_ld1 hx hb hK hP i7 dX9_couldFit_64 ?_
      refine lv_icmp_ge (tgt := 145) hx hb dX9_couldFit_65 (by decide) (fun hc => ?_) (fun hc => ?_)
      · replace h := oi_t hc h
        refine lv_iconst (v := 1) hx hb dX9_couldFit_145 (by decide) ?_
        obtain ⟨rfl, rfl⟩ := os2 h
        exact W.zret (v := 1) (ty := .boolean) hx hb hr rfl (fun t ht hW => ⟨⟨_, (), rfl, ⟨rfl, (Or.inr rfl)⟩, by show va_P _ _ _ t.heap; rw [ht]; exact hP⟩, hS.F ht⟩) hS.2.2 dX9_couldFit_146
      · replace h := oi_f hc h
        refine lv_aload_n hx hb dX9_couldFit_68 rfl (lv_at hl 0 rfl) ?_
        refine M_g0_0 hx hb hA hown aF_RX9_7 hK hP dX9_couldFit_69 ?_
        refine lv_sipush (v := 1043) hx hb dX9_couldFit_72 (by decide) ?_
        refine lv_iload hx hb dX9_couldFit_75 (lv_at hl 4 rfl) ?_
        refine lv_iadd hx hb dX9_couldFit_77 ?_
        obtain ⟨i8, h⟩ := oin_e h
        refine M_ld1 hx hb hK hP i8 dX9_couldFit_78 ?_
        refine lv_iload_n hx hb dX9_couldFit_79 rfl (lv_at hl 3 rfl) ?_
        refine k_X9_codeOf S aM_RX9_96 ⟨Nat.le_of_ble_eq_true rfl, Nat.le_of_ble_eq_true rfl⟩ ⟨Nat.zero_le _, Nat.zero_le _⟩ hl.1 (Nat.le_of_ble_eq_true rfl) dX9_couldFit_80 (fun r9 er9 => ?_)
        replace h := olet_s er9 h
        refine lv_istore (lv' := [(5, .int r9), (0, .ref (a 0)), (1, .int v1), (2, .int v2), (3, .int v3), (4, .int v4)]) hx hb dX9_couldFit_83 hl (by decide) rfl (fun ls hl => ?_)
        refine lv_aload_n hx hb dX9_couldFit_85 rfl (lv_at hl 1 rfl) ?_
        refine M_g0_18 hx hb hA hown aF_RX9_37 hK hP dX9_couldFit_86 ?_
        refine lv_iload hx hb dX9_couldFit_89 (lv_at hl 5 rfl) ?_
        refine lv_iload hx hb dX9_couldFit_91 (lv_at hl 0 rfl) ?_
        refine lv_sipush (v := 16384) hx hb dX9_couldFit_93 (by decide) ?_
        refine lv_irem hx hb dX9_couldFit_96 (by decide) ?_
        refine lv_iconst (v := 1) hx hb dX9_couldFit_97 (by decide) ?_
        refine lv_iload_n hx hb dX9_couldFit_98 rfl (lv_at hl 2 rfl) ?_
        refine lv_ishl hx hb dX9_couldFit_99 ?_
        obtain ⟨z10, h⟩ := onz_e h
        refine lv_irem hx hb dX9_couldFit_100 z10 ?_
        obtain ⟨i11, h⟩ := oin_e h
        refine M_st10 hx hb hK hP (hDA _ _) hS i11 dX9_couldFit_101 (fun w12 H locs ew12 hP hS => ?_)
        replace h := olet_s ew12 h
        refine lv_aload_n hx hb dX9_couldFit_102 rfl (lv_at hl 1 rfl) ?_
        refine M_g0_19 hx hb hA hown aF_RX9_40 hK hP dX9_couldFit_103 ?_
        refine lv_iload hx hb dX9_couldFit_106 (lv_at hl 5 rfl) ?_
        refine lv_aload_n hx hb dX9_couldFit_108 rfl (lv_at hl 1 rfl) ?_
        refine M_g0_18 hx hb hA hown aF_RX9_37 hK hP dX9_couldFit_109 ?_
        refine lv_iload hx hb dX9_couldFit_112 (lv_at hl 5 rfl) ?_
        obtain ⟨i13, h⟩ := oin_e h
        refine M_ld10 hx hb hK hP i13 dX9_couldFit_114 ?_
        refine lv_iload hx hb dX9_couldFit_115 (lv_at hl 0 rfl) ?_
        refine lv_sipush (v := 16384) hx hb dX9_couldFit_117 (by decide) ?_
        refine lv_idiv hx hb dX9_couldFit_120 (by decide) ?_
        refine lv_iload_n hx hb dX9_couldFit_121 rfl (lv_at hl 2 rfl) ?_
        obtain ⟨r14, h15, h⟩ := obd_e h
        refine k_X9_stepOf S aM_RX9_114 ⟨Nat.le_of_ble_eq_true rfl, Nat.le_of_ble_eq_true rfl⟩ ⟨Nat.zero_le _, Nat.zero_le _⟩ h15 hl.1 (Nat.le_of_ble_eq_true rfl) dX9_couldFit_122 ?_
        refine lv_ixor hx hb dX9_couldFit_125 ?_
        obtain ⟨i16, h⟩ := oin_e h
        refine M_st11 hx hb hK hP (hDA _ _) hS i16 dX9_couldFit_126 (fun w17 H locs ew17 hP hS => ?_)
        replace h := olet_s ew17 h
        refine lv_aload_n hx hb dX9_couldFit_127 rfl (lv_at hl 1 rfl) ?_
        refine lv_iload hx hb dX9_couldFit_128 (lv_at hl 5 rfl) ?_
        refine lv_iload_n hx hb dX9_couldFit_130 rfl (lv_at hl 3 rfl) ?_
        obtain ⟨r20, w18, h19, h⟩ := obd2_e h
        refine k_X9_distributes S aM_RX9_262 ⟨Nat.le_of_ble_eq_true rfl, Nat.le_of_ble_eq_true rfl⟩ ⟨Nat.zero_le _, Nat.zero_le _⟩ hP hK hDT hS h19 hl.1 (Nat.le_of_ble_eq_true rfl) dX9_couldFit_131 (fun br20 H locs hP hS => ?_)
        refine lv_if_ne (tgt := 139) hx hb dX9_couldFit_134 (by decide) (fun hc => ?_) (fun hc => ?_)
        · replace h := oi_f hc h
          refine lv_iinc (v := v4 + 1) (lv' := [(4, .int (v4 + 1)), (5, .int r9), (0, .ref (a 0)), (1, .int v1), (2, .int v2), (3, .int v3)]) hx hb dX9_couldFit_139 hl (k := 5) rfl (fm_inc _ _ _ (by decide)) (by decide) rfl (fun ls hl => ?_)
          refine lv_goto (tgt := 55) hx hb dX9_couldFit_142 (by decide) ?_
          exact ih _ _ _ _ _ _ _ _  h hP hS (lv_sub hl [2, 3, 4, 5, 0] rfl)
        · replace h := oi_t hc h
          refine lv_iconst (v := 0) hx hb dX9_couldFit_137 (by decide) ?_
          obtain ⟨rfl, rfl⟩ := os2 h
          exact W.zret (v := 0) (ty := .boolean) hx hb hr rfl (fun t ht hW => ⟨⟨_, (), rfl, ⟨rfl, (Or.inl rfl)⟩, by show va_P _ _ _ t.heap; rw [ht]; exact hP⟩, hS.F ht⟩) hS.2.2 dX9_couldFit_138
  have h := hF
  unfold G_X9_couldFit at h
  refine lv_aload_n hx hb dX9_couldFit_0 rfl (lv_at hl 0 rfl) ?_
  refine lv_iload_n hx hb dX9_couldFit_1 rfl (lv_at hl 1 rfl) ?_
  refine lv_iload_n hx hb dX9_couldFit_2 rfl (lv_at hl 2 rfl) ?_
  refine lv_iconst (v := 1) hx hb dX9_couldFit_3 (by decide) ?_
  refine lv_iload_n hx hb dX9_couldFit_4 rfl (lv_at hl 3 rfl) ?_
  refine k_X9_areNumbers S aM_RX9_231 ⟨Nat.le_of_ble_eq_true rfl, Nat.le_of_ble_eq_true rfl⟩ ⟨Nat.zero_le _, Nat.zero_le _⟩ hl.1 (Nat.le_of_ble_eq_true rfl) dX9_couldFit_5 (fun r1 er1 br1 => ?_)
  replace h := olet_s er1 h
  refine lv_if_eq (tgt := 15) hx hb dX9_couldFit_8 (by decide) (fun hc => ?_) (fun hc => ?_)
  · replace h := oi_t hc h
    refine lv_iconst (v := 1) hx hb dX9_couldFit_15 (by decide) ?_
    refine M_p0_5 hx hb hA hown aF_RX9_64 hK hP (hDA _ _) hS dX9_couldFit_16 (fun w2 H locs ew2 hP hS => ?_)
    replace h := olet_s ew2 h
    refine lv_aload_n hx hb dX9_couldFit_19 rfl (lv_at hl 0 rfl) ?_
    refine M_g0_5 hx hb hA hown aF_RX9_64 hK hP dX9_couldFit_20 ?_
    refine lv_if_eq (tgt := 28) hx hb dX9_couldFit_23 (by decide) (fun hc => ?_) (fun hc => ?_)
    · replace h := oi_t hc h
      refine lv_iconst (v := 0) hx hb dX9_couldFit_28 (by decide) ?_
      refine lv_istore (lv' := [(4, .int 0), (0, .ref (a 0)), (1, .int p1), (2, .int p2), (3, .int p3)]) hx hb dX9_couldFit_29 hl (by decide) rfl (fun ls hl => ?_)
      obtain ⟨w5, h6, h⟩ := obd_e h
      refine hL31 N _ _ _ _ _ _ _ _ _ h6 hP hS (lv_sub hl [1, 2, 3, 4, 0] rfl) (fun H locs ls hP hS hl => ?_)
      refine lv_iconst (v := 0) hx hb dX9_couldFit_52 (by decide) ?_
      refine lv_istore (lv' := [(4, .int 0), (0, .ref (a 0)), (1, .int p1), (2, .int p2), (3, .int p3)]) hx hb dX9_couldFit_53 hl (by decide) rfl (fun ls hl => ?_)
      exact hL55 N _ _ _ _ _ _ _ _ h hP hS (lv_sub hl [1, 2, 3, 4, 0] rfl)
    · replace h := oi_f hc h
      refine lv_iconst (v := 0) hx hb dX9_couldFit_26 (by decide) ?_
      obtain ⟨rfl, rfl⟩ := os2 h
      exact W.zret (v := 0) (ty := .boolean) hx hb hr rfl (fun t ht hW => ⟨⟨_, (), rfl, ⟨rfl, (Or.inl rfl)⟩, by show va_P _ _ _ t.heap; rw [ht]; exact hP⟩, hS.F ht⟩) hS.2.2 dX9_couldFit_27
  · replace h := oi_f hc h
    refine lv_iconst (v := 0) hx hb dX9_couldFit_11 (by decide) ?_
    refine lv_goto (tgt := 16) hx hb dX9_couldFit_12 (by decide) ?_
    refine M_p0_5 hx hb hA hown aF_RX9_64 hK hP (hDA _ _) hS dX9_couldFit_16 (fun w21 H locs ew21 hP hS => ?_)
    replace h := olet_s ew21 h
    refine lv_aload_n hx hb dX9_couldFit_19 rfl (lv_at hl 0 rfl) ?_
    refine M_g0_5 hx hb hA hown aF_RX9_64 hK hP dX9_couldFit_20 ?_
    refine lv_if_eq (tgt := 28) hx hb dX9_couldFit_23 (by decide) (fun hc => ?_) (fun hc => ?_)
    · replace h := oi_t hc h
      refine lv_iconst (v := 0) hx hb dX9_couldFit_28 (by decide) ?_
      refine lv_istore (lv' := [(4, .int 0), (0, .ref (a 0)), (1, .int p1), (2, .int p2), (3, .int p3)]) hx hb dX9_couldFit_29 hl (by decide) rfl (fun ls hl => ?_)
      obtain ⟨w22, h23, h⟩ := obd_e h
      refine hL31 N _ _ _ _ _ _ _ _ _ h23 hP hS (lv_sub hl [1, 2, 3, 4, 0] rfl) (fun H locs ls hP hS hl => ?_)
      refine lv_iconst (v := 0) hx hb dX9_couldFit_52 (by decide) ?_
      refine lv_istore (lv' := [(4, .int 0), (0, .ref (a 0)), (1, .int p1), (2, .int p2), (3, .int p3)]) hx hb dX9_couldFit_53 hl (by decide) rfl (fun ls hl => ?_)
      exact hL55 N _ _ _ _ _ _ _ _ h hP hS (lv_sub hl [1, 2, 3, 4, 0] rfl)
    · replace h := oi_f hc h
      refine lv_iconst (v := 0) hx hb dX9_couldFit_26 (by decide) ?_
      obtain ⟨rfl, rfl⟩ := os2 h
      exact W.zret (v := 0) (ty := .boolean) hx hb hr rfl (fun t ht hW => ⟨⟨_, (), rfl, ⟨rfl, (Or.inl rfl)⟩, by show va_P _ _ _ t.heap; rw [ht]; exact hP⟩, hS.F ht⟩) hS.2.2 dX9_couldFit_27
theorem k_X9_couldFit {p : Program} {l : Launch} {e : Env} {R : Room} {s : State} {m : MethodId} {args : Array Value} {below : List Frame} {meth : Method} {c : Code} {H : Heap} {locs : List Loc} {cells slots : Nat} {Q : State → Prop} {cc : ByteArray} {pc nL idx : Nat} {ls : Array Slot} {rest : List Value} {own : String} {D : va_G} {cI : ClassId} {a : Nat → Nat} {H0 : Heap} {N : Nat} {φ : M2} {p1 : Int32} {p2 : Int32} {p3 : Int32} {hv : Int64} {r0 : Int32} {φr : M2} (S : CallFix p m c cc nL s args AW own) (h1 : Cond.methodLink own idx yX9_couldFit ∈ AW) (hR : 2 + 1 ≤ R.frames ∧ 8 + (6 + 11) + 51 ≤ R.locals) (hc : cells ≤ R.cells ∧ slots ≤ R.slots) (hP : va_P D vwCl (mbW cI a φ hv) H) (hK : va_K D vwCl [(cI, .int)] s) (hDT : ∀ (φ2 : M2) (hv2 : Int64), va_D (fun _ => True) (mbW cI a φ2 hv2)) (hS : va_S (mbA a) H0 H locs) (hF : G_X9_couldFit N φ p1 p2 p3 = some (r0, φr)) (hsz : ls.size = nL) (hW : (rest.map fun v => v.category).sum ≤ 8) (hdg : decode cc pc = .ok (.invokevirtual idx, 3)) (kk : (r0 = 0 ∨ r0 = 1) → ∀ (H1 : Heap) (locs1 : List Loc), va_P D vwCl (mbW cI a φr hv) H1 → va_S (mbA a) H0 H1 locs1 → W p l e R s m args below meth c H1 locs1 cells slots Q (F0 m (pc + 3) ls (.int r0 :: rest))) : W p l e R s m args below meth c H locs cells slots Q (F0 m pc ls (.int p3 :: .int p2 :: .int p1 :: .ref (a 0) :: rest)) :=
  fm_runVi (n := 3) (C := RX9) (As := [.int p1, .int p2, .int p3]) S (c_X9_couldFit l D cI a N φ p1 p2 p3 hv r0 φr hF) (M_pre (q0 := 0) (ci := 7) hK hP (hDT _ _) rfl rfl) hS h1 aI_X9_couldFit aV_X9_couldFit aN_RX9 aC_X9_couldFit rfl rfl (by decide +kernel) rfl hR hc hsz hW hdg (fun r H1 locs1 hr hP1 hS1 => by obtain ⟨rfl, hz⟩ := hr; exact kk hz H1 locs1 hP1 hS1)
set_option maxHeartbeats 4000000 in
set_option maxRecDepth 100000 in
theorem c_X9_append (l : Launch) (D : va_G) (cI : ClassId) (a : Nat → Nat) (φ : M2) (p1 : Int32) (hv : Int64) (r0 : Int32) (φr : M2) (hF : G_X9_append φ p1 = some (r0, φr)) : Met l yX9_append (wsA yX9_append cX9_append 2 (some .int)) { frames := 1, cells := 0, slots := 0, locals := 22 } (va_Pc [.ref (a 0), .int p1] (mbP D cI a φ hv)) (va_Qi (fun (r : Int32) (_ : Unit) => r = r0) (fun _ t => va_P D vwCl (mbW cI a φr hv) t.heap) (mbA a)) 0 0 (mbA a) := by
  refine Met.ofW (cc := cX9_append) (maxL := 2) (ret := (some .int)) (by decide) rfl ?_
  intro p e s m args below meth c s₁ B hml hpre
  obtain ⟨rfl, hP, hK, hD0⟩ := hpre
  have hx := B.exec
  have hb := B.bytes
  have hr := B.returns
  have hA : ∀ w ∈ AW, w.before _ s = true := fun w h => atoms_spec (ws := wsA yX9_append cX9_append 2 (some .int)) B.pre w (List.mem_cons_of_mem _ h)
  have hown : s.vm.findClass RX9 = some m.cls := findClass_of_methodNamed B.named
  have hlocks := B.notSynchronized
  have hDT := M_dT hD0
  have hDA := M_dA hD0
  have hS : va_S (mbA a) s.heap s.heap [] := va_S.rf
  have S : CallFix p m c cX9_append 2 s ([.ref (a 0), .int p1] : List Value).toArray AW RX9 := ⟨hx, hb, hml, hown, hA⟩
  have hl := lv_entry ([.ref (a 0), .int p1]) (n := 2) (Nat.le_of_ble_eq_true rfl)
  rw [lg_entry_eq]
  generalize (lg_sl ([.ref (a 0), .int p1]) ++ List.replicate (2 - (lg_sl ([.ref (a 0), .int p1])).length) Slot.unset).toArray = ls at hl ⊢
  have hl : lv_has ls 2 [(0, .ref (a 0)), (1, .int p1)] := hl
  have hJ29 : ∀ (v1 : Int32) (s0 : Int32) (φ : M2) (H : Heap) (locs : List Loc) (ls : Array Slot), J_X9_append_29 φ v1 s0 = some (r0, φr) → va_P D vwCl (mbW cI a φ hv) H → va_S (mbA a) s.heap H locs → lv_has ls 2 [(0, .ref (a 0)), (1, .int v1)] → W p l e (headSpec (wsA yX9_append cX9_append 2 (some .int)) { frames := 1, cells := 0, slots := 0, locals := 22 }).room s m ([.ref (a 0), .int p1] : List Value).toArray below meth c H locs 0 0 (MQ below (va_Qi (fun (r : Int32) (_ : Unit) => r = r0) (fun _ t => va_P D vwCl (mbW cI a φr hv) t.heap) (mbA a)) ([.ref (a 0), .int p1] : List Value).toArray s 0 0 (mbA a)) (F0 m 29 ls [.int s0, .ref (a 0)]) := by
    intro v1 s0 φ H locs ls h hP hS hl
    unfold J_X9_append_29 at h
    refine M_p0_5 hx hb hA hown aF_RX9_64 hK hP (hDA _ _) hS dX9_append_29 (fun w2 H locs ew2 hP hS => ?_)
    replace h := olet_s ew2 h
    refine lv_aload_n hx hb dX9_append_32 rfl (lv_at hl 0 rfl) ?_
    refine M_g0_5 hx hb hA hown aF_RX9_64 hK hP dX9_append_33 ?_
    refine lv_if_eq (tgt := 41) hx hb dX9_append_36 (by decide) (fun hc => ?_) (fun hc => ?_)
    · replace h := oi_t hc h
      refine lv_aload_n hx hb dX9_append_41 rfl (lv_at hl 0 rfl) ?_
      refine M_g0_3 hx hb hA hown aF_RX9_16 hK hP dX9_append_42 ?_
      refine lv_aload_n hx hb dX9_append_45 rfl (lv_at hl 0 rfl) ?_
      refine M_g0_4 hx hb hA hown aF_RX9_271 hK hP dX9_append_46 ?_
      refine lv_iload_n hx hb dX9_append_49 rfl (lv_at hl 1 rfl) ?_
      obtain ⟨i3, h⟩ := oin_e h
      refine M_st3 hx hb hK hP (hDA _ _) hS i3 dX9_append_50 (fun w4 H locs ew4 hP hS => ?_)
      replace h := olet_s ew4 h
      refine lv_aload_n hx hb dX9_append_51 rfl (lv_at hl 0 rfl) ?_
      refine lv_dup hx hb dX9_append_52 rfl ?_
      refine M_g0_4 hx hb hA hown aF_RX9_271 hK hP dX9_append_53 ?_
      refine lv_iconst (v := 1) hx hb dX9_append_56 (by decide) ?_
      refine lv_iadd hx hb dX9_append_57 ?_
      refine M_p0_4 hx hb hA hown aF_RX9_271 hK hP (hDA _ _) hS dX9_append_58 (fun w5 H locs ew5 hP hS => ?_)
      replace h := olet_s ew5 h
      refine lv_aload_n hx hb dX9_append_61 rfl (lv_at hl 0 rfl) ?_
      refine M_g0_4 hx hb hA hown aF_RX9_271 hK hP dX9_append_62 ?_
      obtain ⟨rfl, rfl⟩ := os2 h
      exact W.iret (v := (w5 0 4)) hx hb hr (fun t ht hW => ⟨⟨_, (), rfl, rfl, by show va_P _ _ _ t.heap; rw [ht]; exact hP⟩, hS.F ht⟩) hS.2.2 dX9_append_65
    · replace h := oi_f hc h
      refine lv_iconst (v := 0) hx hb dX9_append_39 (by decide) ?_
      obtain ⟨rfl, rfl⟩ := os2 h
      exact W.iret (v := 0) hx hb hr (fun t ht hW => ⟨⟨_, (), rfl, rfl, by show va_P _ _ _ t.heap; rw [ht]; exact hP⟩, hS.F ht⟩) hS.2.2 dX9_append_40
  have h := hF
  unfold G_X9_append at h
  refine lv_aload_n hx hb dX9_append_0 rfl (lv_at hl 0 rfl) ?_
  refine lv_iload_n hx hb dX9_append_1 rfl (lv_at hl 1 rfl) ?_
  refine lv_iconst (v := 0) hx hb dX9_append_2 (by decide) ?_
  refine lv_bipush (v := 127) hx hb dX9_append_3 (by decide) ?_
  refine k_X9_in S aM_RX9_78 ⟨Nat.le_of_ble_eq_true rfl, Nat.le_of_ble_eq_true rfl⟩ ⟨Nat.zero_le _, Nat.zero_le _⟩ hl.1 (Nat.le_of_ble_eq_true rfl) dX9_append_5 (fun r1 er1 br1 => ?_)
  replace h := olet_s er1 h
  refine lv_if_ne (tgt := 15) hx hb dX9_append_8 (by decide) (fun hc => ?_) (fun hc => ?_)
  · replace h := oi_f hc h
    refine lv_aload_n hx hb dX9_append_15 rfl (lv_at hl 0 rfl) ?_
    refine M_g0_4 hx hb hA hown aF_RX9_271 hK hP dX9_append_16 ?_
    refine lv_bipush (v := 100) hx hb dX9_append_19 (by decide) ?_
    refine lv_icmp_ne (tgt := 28) hx hb dX9_append_21 (by decide) (fun hc => ?_) (fun hc => ?_)
    · replace h := oi_f hc h
      refine lv_iconst (v := 0) hx hb dX9_append_28 (by decide) ?_
      exact hJ29 _ _ _ _ _ _ h hP hS (lv_sub hl [0, 1] rfl)
    · replace h := oi_t hc h
      refine lv_iconst (v := 2) hx hb dX9_append_24 (by decide) ?_
      refine lv_goto (tgt := 29) hx hb dX9_append_25 (by decide) ?_
      exact hJ29 _ _ _ _ _ _ h hP hS (lv_sub hl [0, 1] rfl)
  · replace h := oi_t hc h
    refine lv_iconst (v := 1) hx hb dX9_append_11 (by decide) ?_
    refine lv_goto (tgt := 29) hx hb dX9_append_12 (by decide) ?_
    exact hJ29 _ _ _ _ _ _ h hP hS (lv_sub hl [0, 1] rfl)
theorem k_X9_append {p : Program} {l : Launch} {e : Env} {R : Room} {s : State} {m : MethodId} {args : Array Value} {below : List Frame} {meth : Method} {c : Code} {H : Heap} {locs : List Loc} {cells slots : Nat} {Q : State → Prop} {cc : ByteArray} {pc nL idx : Nat} {ls : Array Slot} {rest : List Value} {own : String} {D : va_G} {cI : ClassId} {a : Nat → Nat} {H0 : Heap} {φ : M2} {p1 : Int32} {hv : Int64} {r0 : Int32} {φr : M2} (S : CallFix p m c cc nL s args AW own) (h1 : Cond.methodLink own idx yX9_append ∈ AW) (hR : 1 + 1 ≤ R.frames ∧ 8 + (2 + 11) + 22 ≤ R.locals) (hc : cells ≤ R.cells ∧ slots ≤ R.slots) (hP : va_P D vwCl (mbW cI a φ hv) H) (hK : va_K D vwCl [(cI, .int)] s) (hDT : ∀ (φ2 : M2) (hv2 : Int64), va_D (fun _ => True) (mbW cI a φ2 hv2)) (hS : va_S (mbA a) H0 H locs) (hF : G_X9_append φ p1 = some (r0, φr)) (hsz : ls.size = nL) (hW : (rest.map fun v => v.category).sum ≤ 8) (hdg : decode cc pc = .ok (.invokevirtual idx, 3)) (kk : ∀ (H1 : Heap) (locs1 : List Loc), va_P D vwCl (mbW cI a φr hv) H1 → va_S (mbA a) H0 H1 locs1 → W p l e R s m args below meth c H1 locs1 cells slots Q (F0 m (pc + 3) ls (.int r0 :: rest))) : W p l e R s m args below meth c H locs cells slots Q (F0 m pc ls (.int p1 :: .ref (a 0) :: rest)) :=
  fm_runVi (n := 1) (C := RX9) (As := [.int p1]) S (c_X9_append l D cI a φ p1 hv r0 φr hF) (M_pre (q0 := 0) (ci := 7) hK hP (hDT _ _) rfl rfl) hS h1 aI_X9_append aV_X9_append aN_RX9 aC_X9_append rfl rfl (by decide +kernel) rfl hR hc hsz hW hdg (fun r H1 locs1 hr hP1 hS1 => by subst hr; exact kk H1 locs1 hP1 hS1)
set_option maxHeartbeats 4000000 in
set_option maxRecDepth 100000 in
theorem c_X9_clearText (l : Launch) (D : va_G) (cI : ClassId) (a : Nat → Nat) (φ : M2) (hv : Int64) (r0 : Int32) (φr : M2) (hF : G_X9_clearText φ = some (r0, φr)) : Met l yX9_clearText (wsA yX9_clearText cX9_clearText 2 (some .int)) { frames := 0, cells := 0, slots := 0, locals := 0 } (va_Pc [.ref (a 0)] (mbP D cI a φ hv)) (va_Qi (fun (r : Int32) (_ : Unit) => r = r0) (fun _ t => va_P D vwCl (mbW cI a φr hv) t.heap) (mbA a)) 0 0 (mbA a) := by
  refine Met.ofW (cc := cX9_clearText) (maxL := 2) (ret := (some .int)) (by decide) rfl ?_
  intro p e s m args below meth c s₁ B hml hpre
  obtain ⟨rfl, hP, hK, hD0⟩ := hpre
  have hx := B.exec
  have hb := B.bytes
  have hr := B.returns
  have hA : ∀ w ∈ AW, w.before _ s = true := fun w h => atoms_spec (ws := wsA yX9_clearText cX9_clearText 2 (some .int)) B.pre w (List.mem_cons_of_mem _ h)
  have hown : s.vm.findClass RX9 = some m.cls := findClass_of_methodNamed B.named
  have hlocks := B.notSynchronized
  have hDT := M_dT hD0
  have hDA := M_dA hD0
  have hS : va_S (mbA a) s.heap s.heap [] := va_S.rf
  have S : CallFix p m c cX9_clearText 2 s ([.ref (a 0)] : List Value).toArray AW RX9 := ⟨hx, hb, hml, hown, hA⟩
  have hl := lv_entry ([.ref (a 0)]) (n := 2) (Nat.le_of_ble_eq_true rfl)
  rw [lg_entry_eq]
  generalize (lg_sl ([.ref (a 0)]) ++ List.replicate (2 - (lg_sl ([.ref (a 0)])).length) Slot.unset).toArray = ls at hl ⊢
  have hl : lv_has ls 2 [(0, .ref (a 0))] := hl
  have h := hF
  unfold G_X9_clearText at h
  refine lv_aload_n hx hb dX9_clearText_0 rfl (lv_at hl 0 rfl) ?_
  refine lv_iconst (v := 0) hx hb dX9_clearText_1 (by decide) ?_
  refine M_p0_5 hx hb hA hown aF_RX9_64 hK hP (hDA _ _) hS dX9_clearText_2 (fun w1 H locs ew1 hP hS => ?_)
  replace h := olet_s ew1 h
  refine lv_aload_n hx hb dX9_clearText_5 rfl (lv_at hl 0 rfl) ?_
  refine M_g0_4 hx hb hA hown aF_RX9_271 hK hP dX9_clearText_6 ?_
  refine lv_topi (fun x2 ex2 => ?_)
  replace h := olet_s ex2 h
  refine lv_istore_n (lv' := [(1, .int x2), (0, .ref (a 0))]) hx hb dX9_clearText_9 rfl hl (by decide) rfl (fun ls hl => ?_)
  refine lv_aload_n hx hb dX9_clearText_10 rfl (lv_at hl 1 rfl) ?_
  refine lv_iconst (v := 0) hx hb dX9_clearText_11 (by decide) ?_
  refine M_p0_4 hx hb hA hown aF_RX9_271 hK hP (hDA _ _) hS dX9_clearText_12 (fun w3 H locs ew3 hP hS => ?_)
  replace h := olet_s ew3 h
  refine lv_iload_n hx hb dX9_clearText_15 rfl (lv_at hl 0 rfl) ?_
  obtain ⟨rfl, rfl⟩ := os2 h
  exact W.iret (v := x2) hx hb hr (fun t ht hW => ⟨⟨_, (), rfl, rfl, by show va_P _ _ _ t.heap; rw [ht]; exact hP⟩, hS.F ht⟩) hS.2.2 dX9_clearText_16
theorem k_X9_clearText {p : Program} {l : Launch} {e : Env} {R : Room} {s : State} {m : MethodId} {args : Array Value} {below : List Frame} {meth : Method} {c : Code} {H : Heap} {locs : List Loc} {cells slots : Nat} {Q : State → Prop} {cc : ByteArray} {pc nL idx : Nat} {ls : Array Slot} {rest : List Value} {own : String} {D : va_G} {cI : ClassId} {a : Nat → Nat} {H0 : Heap} {φ : M2} {hv : Int64} {r0 : Int32} {φr : M2} (S : CallFix p m c cc nL s args AW own) (h1 : Cond.methodLink own idx yX9_clearText ∈ AW) (hR : 0 + 1 ≤ R.frames ∧ 8 + (2 + 11) + 0 ≤ R.locals) (hc : cells ≤ R.cells ∧ slots ≤ R.slots) (hP : va_P D vwCl (mbW cI a φ hv) H) (hK : va_K D vwCl [(cI, .int)] s) (hDT : ∀ (φ2 : M2) (hv2 : Int64), va_D (fun _ => True) (mbW cI a φ2 hv2)) (hS : va_S (mbA a) H0 H locs) (hF : G_X9_clearText φ = some (r0, φr)) (hsz : ls.size = nL) (hW : (rest.map fun v => v.category).sum ≤ 8) (hdg : decode cc pc = .ok (.invokevirtual idx, 3)) (kk : ∀ (H1 : Heap) (locs1 : List Loc), va_P D vwCl (mbW cI a φr hv) H1 → va_S (mbA a) H0 H1 locs1 → W p l e R s m args below meth c H1 locs1 cells slots Q (F0 m (pc + 3) ls (.int r0 :: rest))) : W p l e R s m args below meth c H locs cells slots Q (F0 m pc ls (.ref (a 0) :: rest)) :=
  fm_runVi (n := 0) (C := RX9) (As := []) S (c_X9_clearText l D cI a φ hv r0 φr hF) (M_pre (q0 := 0) (ci := 7) hK hP (hDT _ _) rfl rfl) hS h1 aI_X9_clearText aV_X9_clearText aN_RX9 aC_X9_clearText rfl rfl (by decide +kernel) rfl hR hc hsz hW hdg (fun r H1 locs1 hr hP1 hS1 => by subst hr; exact kk H1 locs1 hP1 hS1)
set_option maxHeartbeats 4000000 in
set_option maxRecDepth 100000 in
theorem c_X9_here (l : Launch) (D : va_G) (cI : ClassId) (a : Nat → Nat) (φ : M2) (hv : Int64) (r0 : Int32) (hF : G_X9_here φ = some r0) : Met l yX9_here (wsA yX9_here cX9_here 1 (some .int)) { frames := 0, cells := 0, slots := 0, locals := 0 } (va_Pc [.ref (a 0)] (mbP D cI a φ hv)) (vp_Si (fun r => r = r0)) 0 0 (fun _ => False) := by
  refine Met.ofW (cc := cX9_here) (maxL := 1) (ret := (some .int)) (by decide) rfl ?_
  intro p e s m args below meth c s₁ B hml hpre
  obtain ⟨rfl, hP, hK, hD0⟩ := hpre
  have hx := B.exec
  have hb := B.bytes
  have hr := B.returns
  have hA : ∀ w ∈ AW, w.before _ s = true := fun w h => atoms_spec (ws := wsA yX9_here cX9_here 1 (some .int)) B.pre w (List.mem_cons_of_mem _ h)
  have hown : s.vm.findClass RX9 = some m.cls := findClass_of_methodNamed B.named
  have hlocks := B.notSynchronized
  have hDT := M_dT hD0
  have S : CallFix p m c cX9_here 1 s ([.ref (a 0)] : List Value).toArray AW RX9 := ⟨hx, hb, hml, hown, hA⟩
  have hl := lv_entry ([.ref (a 0)]) (n := 1) (Nat.le_of_ble_eq_true rfl)
  rw [lg_entry_eq]
  generalize (lg_sl ([.ref (a 0)]) ++ List.replicate (1 - (lg_sl ([.ref (a 0)])).length) Slot.unset).toArray = ls at hl ⊢
  have hl : lv_has ls 1 [(0, .ref (a 0))] := hl
  have h := hF
  unfold G_X9_here at h
  refine lv_aload_n hx hb dX9_here_0 rfl (lv_at hl 0 rfl) ?_
  refine M_g0_24 hx hb hA hown aF_RX9_274 hK hP dX9_here_1 ?_
  refine lv_aload_n hx hb dX9_here_4 rfl (lv_at hl 0 rfl) ?_
  refine M_g0_4 hx hb hA hown aF_RX9_271 hK hP dX9_here_5 ?_
  refine lv_icmp_ge (tgt := 23) hx hb dX9_here_8 (by decide) (fun hc => ?_) (fun hc => ?_)
  · replace h := oi_t hc h
    refine lv_iconst (v := (-1)) hx hb dX9_here_23 (by decide) ?_
    obtain rfl := os1 h
    exact W.iret (v := (-1)) hx hb hr (fun t ht hW => ⟨_, rfl, rfl, ht⟩) (fun q hq => absurd hq List.not_mem_nil) dX9_here_24
  · replace h := oi_f hc h
    refine lv_aload_n hx hb dX9_here_11 rfl (lv_at hl 0 rfl) ?_
    refine M_g0_3 hx hb hA hown aF_RX9_16 hK hP dX9_here_12 ?_
    refine lv_aload_n hx hb dX9_here_15 rfl (lv_at hl 0 rfl) ?_
    refine M_g0_24 hx hb hA hown aF_RX9_274 hK hP dX9_here_16 ?_
    obtain ⟨i1, h⟩ := oin_e h
    refine M_ld3 hx hb hK hP i1 dX9_here_19 ?_
    refine lv_goto (tgt := 24) hx hb dX9_here_20 (by decide) ?_
    obtain rfl := os1 h
    exact W.iret (v := (φ 3 ((φ 0 24)).toNatClampNeg)) hx hb hr (fun t ht hW => ⟨_, rfl, rfl, ht⟩) (fun q hq => absurd hq List.not_mem_nil) dX9_here_24
theorem k_X9_here {p : Program} {l : Launch} {e : Env} {R : Room} {s : State} {m : MethodId} {args : Array Value} {below : List Frame} {meth : Method} {c : Code} {H : Heap} {locs : List Loc} {cells slots : Nat} {Q : State → Prop} {cc : ByteArray} {pc nL idx : Nat} {ls : Array Slot} {rest : List Value} {own : String} {D : va_G} {cI : ClassId} {a : Nat → Nat} {φ : M2} {hv : Int64} {r0 : Int32} (S : CallFix p m c cc nL s args AW own) (h1 : Cond.methodLink own idx yX9_here ∈ AW) (hR : 0 + 1 ≤ R.frames ∧ 8 + (1 + 11) + 0 ≤ R.locals) (hc : cells ≤ R.cells ∧ slots ≤ R.slots) (hP : va_P D vwCl (mbW cI a φ hv) H) (hK : va_K D vwCl [(cI, .int)] s) (hDT : ∀ (φ2 : M2) (hv2 : Int64), va_D (fun _ => True) (mbW cI a φ2 hv2)) (hF : G_X9_here φ = some r0) (hsz : ls.size = nL) (hW : (rest.map fun v => v.category).sum ≤ 8) (hdg : decode cc pc = .ok (.invokevirtual idx, 3)) (kk : W p l e R s m args below meth c H locs cells slots Q (F0 m (pc + 3) ls (.int r0 :: rest))) : W p l e R s m args below meth c H locs cells slots Q (F0 m pc ls (.ref (a 0) :: rest)) :=
  fm_runV (n := 0) (C := RX9) (As := []) S (c_X9_here l D cI a φ hv r0 hF) (M_pre (q0 := 0) (ci := 7) hK hP (hDT _ _) rfl rfl) h1 aI_X9_here aV_X9_here aN_RX9 aC_X9_here rfl rfl (by decide +kernel) rfl hR hc hsz hW hdg (fun r hr => by subst hr; exact kk)
set_option maxHeartbeats 4000000 in
set_option maxRecDepth 100000 in
theorem c_X9_readCommand (l : Launch) (D : va_G) (cI : ClassId) (a : Nat → Nat) (N : Nat) (φ : M2) (hv : Int64) (r0 : Int32) (φr : M2) (hF : G_X9_readCommand N φ = some (r0, φr)) : Met l yX9_readCommand (wsA yX9_readCommand cX9_readCommand 4 (some .boolean)) { frames := 1, cells := 0, slots := 0, locals := 22 } (va_Pc [.ref (a 0)] (mbP D cI a φ hv)) (va_Qi (fun (r : Int32) (_ : Unit) => r = r0 ∧ (r = 0 ∨ r = 1)) (fun _ t => va_P D vwCl (mbW cI a φr hv) t.heap) (mbA a)) 0 0 (mbA a) := by
  refine Met.ofW (cc := cX9_readCommand) (maxL := 4) (ret := (some .boolean)) (by decide) rfl ?_
  intro p e s m args below meth c s₁ B hml hpre
  obtain ⟨rfl, hP, hK, hD0⟩ := hpre
  have hx := B.exec
  have hb := B.bytes
  have hr := B.returns
  have hA : ∀ w ∈ AW, w.before _ s = true := fun w h => atoms_spec (ws := wsA yX9_readCommand cX9_readCommand 4 (some .boolean)) B.pre w (List.mem_cons_of_mem _ h)
  have hown : s.vm.findClass RX9 = some m.cls := findClass_of_methodNamed B.named
  have hlocks := B.notSynchronized
  have hDT := M_dT hD0
  have hDA := M_dA hD0
  have hS : va_S (mbA a) s.heap s.heap [] := va_S.rf
  have S : CallFix p m c cX9_readCommand 4 s ([.ref (a 0)] : List Value).toArray AW RX9 := ⟨hx, hb, hml, hown, hA⟩
  have hl := lv_entry ([.ref (a 0)]) (n := 4) (Nat.le_of_ble_eq_true rfl)
  rw [lg_entry_eq]
  generalize (lg_sl ([.ref (a 0)]) ++ List.replicate (4 - (lg_sl ([.ref (a 0)])).length) Slot.unset).toArray = ls at hl ⊢
  have hl : lv_has ls 4 [(0, .ref (a 0))] := hl
  have hL42 : ∀ (k : Nat) (v1 : Int32) (v2 : Int32) (v3 : Int32) (φ : M2) (H : Heap) (locs : List Loc) (ls : Array Slot) (o3 : Int32) (φo : M2), L_X9_readCommand_42 N v1 v2 k v3 φ = some (o3, φo) → va_P D vwCl (mbW cI a φ hv) H → va_S (mbA a) s.heap H locs → lv_has ls 4 [(0, .ref (a 0)), (1, .int v1), (2, .int v2), (3, .int v3)] → (∀ (H1 : Heap) (locs1 : List Loc) (ls1 : Array Slot), va_P D vwCl (mbW cI a φo hv) H1 → va_S (mbA a) s.heap H1 locs1 → lv_has ls1 4 [(0, .ref (a 0)), (1, .int v1), (2, .int v2), (3, .int o3)] → W p l e (headSpec (wsA yX9_readCommand cX9_readCommand 4 (some .boolean)) { frames := 1, cells := 0, slots := 0, locals := 22 }).room s m ([.ref (a 0)] : List Value).toArray below meth c H1 locs1 0 0 (MQ below (va_Qi (fun (r : Int32) (_ : Unit) => r = r0 ∧ (r = 0 ∨ r = 1)) (fun _ t => va_P D vwCl (mbW cI a φr hv) t.heap) (mbA a)) ([.ref (a 0)] : List Value).toArray s 0 0 (mbA a)) (F0 m 98 ls1 [])) → W p l e (headSpec (wsA yX9_readCommand cX9_readCommand 4 (some .boolean)) { frames := 1, cells := 0, slots := 0, locals := 22 }).room s m ([.ref (a 0)] : List Value).toArray below meth c H locs 0 0 (MQ below (va_Qi (fun (r : Int32) (_ : Unit) => r = r0 ∧ (r = 0 ∨ r = 1)) (fun _ t => va_P D vwCl (mbW cI a φr hv) t.heap) (mbA a)) ([.ref (a 0)] : List Value).toArray s 0 0 (mbA a)) (F0 m 42 ls []) := by
    intro k
    induction k with
    | zero =>
      intro v1 v2 v3 φ H locs ls o3 φo h hP hS hl kk
      exact no_s h
    | succ k ih =>
      intro v1 v2 v3 φ H locs ls o3 φo h hP hS hl kk
      replace h : B_X9_readCommand_42 N v1 v2 (L_X9_readCommand_42 N v1 v2 k) v3 φ = some (o3, φo) := h
      unfold B_X9_readCommand_42 at h
      refine lv_iload_n hx hb dX9_readCommand_42 rfl (lv_at hl 1 rfl) ?_
      refine lv_bipush (v := 42) hx hb dX9_readCommand_43 (by decide) ?_
      refine lv_icmp_eq (tgt := 98) hx hb dX9_readCommand_45 (by decide) (fun hc => ?_) (fun hc => ?_)
      · replace h := oi_t hc h
        obtain ⟨rfl, rfl⟩ := os2 h
        exact kk _ _ _ hP hS (lv_sub hl [0, 1, 2, 3] rfl)
      · replace h := oi_f hc h
        refine lv_aload_n hx hb dX9_readCommand_48 rfl (lv_at hl 0 rfl) ?_
        refine M_g0_24 hx hb hA hown aF_RX9_274 hK hP dX9_readCommand_49 ?_
        refine lv_iload_n hx hb dX9_readCommand_52 rfl (lv_at hl 2 rfl) ?_
        refine lv_iconst (v := 3) hx hb dX9_readCommand_53 (by decide) ?_
        refine lv_iadd hx hb dX9_readCommand_54 ?_
        refine lv_icmp_ge (tgt := 98) hx hb dX9_readCommand_55 (by decide) (fun hc => ?_) (fun hc => ?_)
        · replace h := oi_t hc h
          obtain ⟨rfl, rfl⟩ := os2 h
          exact kk _ _ _ hP hS (lv_sub hl [0, 1, 2, 3] rfl)
        · replace h := oi_f hc h
          refine lv_aload_n hx hb dX9_readCommand_58 rfl (lv_at hl 0 rfl) ?_
          obtain ⟨r5, h6, h⟩ := obd_e h
          refine k_X9_here S aM_RX9_277 ⟨Nat.le_of_ble_eq_true rfl, Nat.le_of_ble_eq_true rfl⟩ ⟨Nat.zero_le _, Nat.zero_le _⟩ hP hK hDT h6 hl.1 (Nat.le_of_ble_eq_true rfl) dX9_readCommand_59 ?_
          refine lv_bipush (v := 48) hx hb dX9_readCommand_62 (by decide) ?_
          refine lv_bipush (v := 57) hx hb dX9_readCommand_64 (by decide) ?_
          refine k_X9_in S aM_RX9_78 ⟨Nat.le_of_ble_eq_true rfl, Nat.le_of_ble_eq_true rfl⟩ ⟨Nat.zero_le _, Nat.zero_le _⟩ hl.1 (Nat.le_of_ble_eq_true rfl) dX9_readCommand_66 (fun r7 er7 br7 => ?_)
          replace h := olet_s er7 h
          refine lv_if_eq (tgt := 98) hx hb dX9_readCommand_69 (by decide) (fun hc => ?_) (fun hc => ?_)
          · replace h := oi_t hc h
            obtain ⟨rfl, rfl⟩ := os2 h
            exact kk _ _ _ hP hS (lv_sub hl [0, 1, 2, 3] rfl)
          · replace h := oi_f hc h
            refine lv_bipush (v := 10) hx hb dX9_readCommand_72 (by decide) ?_
            refine lv_iload_n hx hb dX9_readCommand_74 rfl (lv_at hl 3 rfl) ?_
            refine lv_imul hx hb dX9_readCommand_75 ?_
            refine lv_aload_n hx hb dX9_readCommand_76 rfl (lv_at hl 0 rfl) ?_
            obtain ⟨r8, h9, h⟩ := obd_e h
            refine k_X9_here S aM_RX9_277 ⟨Nat.le_of_ble_eq_true rfl, Nat.le_of_ble_eq_true rfl⟩ ⟨Nat.zero_le _, Nat.zero_le _⟩ hP hK hDT h9 hl.1 (Nat.le_of_ble_eq_true rfl) dX9_readCommand_77 ?_
            refine lv_iadd hx hb dX9_readCommand_80 ?_
            refine lv_bipush (v := 48) hx hb dX9_readCommand_81 (by decide) ?_
            refine lv_isub hx hb dX9_readCommand_83 ?_
            refine lv_topi (fun x10 ex10 => ?_)
            replace h := olet_s ex10 h
            refine lv_istore_n (lv' := [(3, .int x10), (0, .ref (a 0)), (1, .int v1), (2, .int v2)]) hx hb dX9_readCommand_84 rfl hl (by decide) rfl (fun ls hl => ?_)
            refine lv_aload_n hx hb dX9_readCommand_85 rfl (lv_at hl 1 rfl) ?_
            refine lv_dup hx hb dX9_readCommand_86 rfl ?_
            refine M_g0_24 hx hb hA hown aF_RX9_274 hK hP dX9_readCommand_87 ?_
            refine lv_iconst (v := 1) hx hb dX9_readCommand_90 (by decide) ?_
            refine lv_iadd hx hb dX9_readCommand_91 ?_
            refine M_p0_24 hx hb hA hown aF_RX9_274 hK hP (hDA _ _) hS dX9_readCommand_92 (fun w11 H locs ew11 hP hS => ?_)
            replace h := olet_s ew11 h
            refine lv_goto (tgt := 42) hx hb dX9_readCommand_95 (by decide) ?_
            exact ih _ _ _ _ _ _ _ _ _ h hP hS (lv_sub hl [1, 2, 3, 0] rfl) kk
  have hJ112 : ∀ (v1 : Int32) (v3 : Int32) (φ : M2) (H : Heap) (locs : List Loc) (ls : Array Slot), J_X9_readCommand_112 N φ v1 v3 = some (r0, φr) → va_P D vwCl (mbW cI a φ hv) H → va_S (mbA a) s.heap H locs → lv_has ls 4 [(0, .ref (a 0)), (1, .int v1), (3, .int v3)] → W p l e (headSpec (wsA yX9_readCommand cX9_readCommand 4 (some .boolean)) { frames := 1, cells := 0, slots := 0, locals := 22 }).room s m ([.ref (a 0)] : List Value).toArray below meth c H locs 0 0 (MQ below (va_Qi (fun (r : Int32) (_ : Unit) => r = r0 ∧ (r = 0 ∨ r = 1)) (fun _ t => va_P D vwCl (mbW cI a φr hv) t.heap) (mbA a)) ([.ref (a 0)] : List Value).toArray s 0 0 (mbA a)) (F0 m 112 ls []) := by
    intro v1 v3 φ H locs ls h hP hS hl
    unfold J_X9_readCommand_112 at h
    refine lv_aload_n hx hb dX9_readCommand_112 rfl (lv_at hl 0 rfl) ?_
    obtain ⟨r15, h16, h⟩ := obd_e h
    refine k_X9_here S aM_RX9_277 ⟨Nat.le_of_ble_eq_true rfl, Nat.le_of_ble_eq_true rfl⟩ ⟨Nat.zero_le _, Nat.zero_le _⟩ hP hK hDT h16 hl.1 (Nat.le_of_ble_eq_true rfl) dX9_readCommand_113 ?_
    refine lv_bipush (v := 59) hx hb dX9_readCommand_116 (by decide) ?_
    refine lv_icmp_eq (tgt := 123) hx hb dX9_readCommand_118 (by decide) (fun hc => ?_) (fun hc => ?_)
    · replace h := oi_t hc h
      refine lv_aload_n hx hb dX9_readCommand_123 rfl (lv_at hl 0 rfl) ?_
      refine lv_dup hx hb dX9_readCommand_124 rfl ?_
      refine M_g0_24 hx hb hA hown aF_RX9_274 hK hP dX9_readCommand_125 ?_
      refine lv_iconst (v := 1) hx hb dX9_readCommand_128 (by decide) ?_
      refine lv_iadd hx hb dX9_readCommand_129 ?_
      refine M_p0_24 hx hb hA hown aF_RX9_274 hK hP (hDA _ _) hS dX9_readCommand_130 (fun w17 H locs ew17 hP hS => ?_)
      replace h := olet_s ew17 h
      refine lv_aload_n hx hb dX9_readCommand_133 rfl (lv_at hl 0 rfl) ?_
      refine M_g0_26 hx hb hA hown aF_RX9_55 hK hP dX9_readCommand_134 ?_
      refine lv_aload_n hx hb dX9_readCommand_137 rfl (lv_at hl 0 rfl) ?_
      refine M_g0_25 hx hb hA hown aF_RX9_280 hK hP dX9_readCommand_138 ?_
      refine lv_iload_n hx hb dX9_readCommand_141 rfl (lv_at hl 1 rfl) ?_
      obtain ⟨i18, h⟩ := oin_e h
      refine M_st16 hx hb hK hP (hDA _ _) hS i18 dX9_readCommand_142 (fun w19 H locs ew19 hP hS => ?_)
      replace h := olet_s ew19 h
      refine lv_aload_n hx hb dX9_readCommand_143 rfl (lv_at hl 0 rfl) ?_
      refine M_g0_27 hx hb hA hown aF_RX9_58 hK hP dX9_readCommand_144 ?_
      refine lv_aload_n hx hb dX9_readCommand_147 rfl (lv_at hl 0 rfl) ?_
      refine M_g0_25 hx hb hA hown aF_RX9_280 hK hP dX9_readCommand_148 ?_
      refine lv_iload_n hx hb dX9_readCommand_151 rfl (lv_at hl 2 rfl) ?_
      obtain ⟨i20, h⟩ := oin_e h
      refine M_st17 hx hb hK hP (hDA _ _) hS i20 dX9_readCommand_152 (fun w21 H locs ew21 hP hS => ?_)
      replace h := olet_s ew21 h
      refine lv_aload_n hx hb dX9_readCommand_153 rfl (lv_at hl 0 rfl) ?_
      refine lv_dup hx hb dX9_readCommand_154 rfl ?_
      refine M_g0_25 hx hb hA hown aF_RX9_280 hK hP dX9_readCommand_155 ?_
      refine lv_iconst (v := 1) hx hb dX9_readCommand_158 (by decide) ?_
      refine lv_iadd hx hb dX9_readCommand_159 ?_
      refine M_p0_25 hx hb hA hown aF_RX9_280 hK hP (hDA _ _) hS dX9_readCommand_160 (fun w22 H locs ew22 hP hS => ?_)
      replace h := olet_s ew22 h
      refine lv_iconst (v := 1) hx hb dX9_readCommand_163 (by decide) ?_
      obtain ⟨rfl, rfl⟩ := os2 h
      exact W.zret (v := 1) (ty := .boolean) hx hb hr rfl (fun t ht hW => ⟨⟨_, (), rfl, ⟨rfl, (Or.inr rfl)⟩, by show va_P _ _ _ t.heap; rw [ht]; exact hP⟩, hS.F ht⟩) hS.2.2 dX9_readCommand_164
    · replace h := oi_f hc h
      refine lv_iconst (v := 0) hx hb dX9_readCommand_121 (by decide) ?_
      obtain ⟨rfl, rfl⟩ := os2 h
      exact W.zret (v := 0) (ty := .boolean) hx hb hr rfl (fun t ht hW => ⟨⟨_, (), rfl, ⟨rfl, (Or.inl rfl)⟩, by show va_P _ _ _ t.heap; rw [ht]; exact hP⟩, hS.F ht⟩) hS.2.2 dX9_readCommand_122
  have hJ98 : ∀ (v1 : Int32) (v2 : Int32) (v3 : Int32) (φ : M2) (H : Heap) (locs : List Loc) (ls : Array Slot), J_X9_readCommand_98 N φ v1 v2 v3 = some (r0, φr) → va_P D vwCl (mbW cI a φ hv) H → va_S (mbA a) s.heap H locs → lv_has ls 4 [(0, .ref (a 0)), (1, .int v1), (2, .int v2), (3, .int v3)] → W p l e (headSpec (wsA yX9_readCommand cX9_readCommand 4 (some .boolean)) { frames := 1, cells := 0, slots := 0, locals := 22 }).room s m ([.ref (a 0)] : List Value).toArray below meth c H locs 0 0 (MQ below (va_Qi (fun (r : Int32) (_ : Unit) => r = r0 ∧ (r = 0 ∨ r = 1)) (fun _ t => va_P D vwCl (mbW cI a φr hv) t.heap) (mbA a)) ([.ref (a 0)] : List Value).toArray s 0 0 (mbA a)) (F0 m 98 ls []) := by
    intro v1 v2 v3 φ H locs ls h hP hS hl
    unfold J_X9_readCommand_98 at h
    refine lv_iload_n hx hb dX9_readCommand_98 rfl (lv_at hl 1 rfl) ?_
    refine lv_bipush (v := 42) hx hb dX9_readCommand_99 (by decide) ?_
    refine lv_icmp_eq (tgt := 112) hx hb dX9_readCommand_101 (by decide) (fun hc => ?_) (fun hc => ?_)
    · replace h := oi_t hc h
      exact hJ112 _ _ _ _ _ _ h hP hS (lv_sub hl [0, 1, 3] rfl)
    · replace h := oi_f hc h
      refine lv_aload_n hx hb dX9_readCommand_104 rfl (lv_at hl 0 rfl) ?_
      refine M_g0_24 hx hb hA hown aF_RX9_274 hK hP dX9_readCommand_105 ?_
      refine lv_iload_n hx hb dX9_readCommand_108 rfl (lv_at hl 2 rfl) ?_
      refine lv_icmp_eq (tgt := 121) hx hb dX9_readCommand_109 (by decide) (fun hc => ?_) (fun hc => ?_)
      · replace h := oi_t hc h
        refine lv_iconst (v := 0) hx hb dX9_readCommand_121 (by decide) ?_
        obtain ⟨rfl, rfl⟩ := os2 h
        exact W.zret (v := 0) (ty := .boolean) hx hb hr rfl (fun t ht hW => ⟨⟨_, (), rfl, ⟨rfl, (Or.inl rfl)⟩, by show va_P _ _ _ t.heap; rw [ht]; exact hP⟩, hS.F ht⟩) hS.2.2 dX9_readCommand_122
      · replace h := oi_f hc h
        exact hJ112 _ _ _ _ _ _ h hP hS (lv_sub hl [0, 1, 3] rfl)
  have h := hF
  unfold G_X9_readCommand at h
  refine lv_aload_n hx hb dX9_readCommand_0 rfl (lv_at hl 0 rfl) ?_
  obtain ⟨r1, h2, h⟩ := obd_e h
  refine k_X9_here S aM_RX9_277 ⟨Nat.le_of_ble_eq_true rfl, Nat.le_of_ble_eq_true rfl⟩ ⟨Nat.zero_le _, Nat.zero_le _⟩ hP hK hDT h2 hl.1 (Nat.le_of_ble_eq_true rfl) dX9_readCommand_1 ?_
  refine lv_istore_n (lv' := [(1, .int r1), (0, .ref (a 0))]) hx hb dX9_readCommand_4 rfl hl (by decide) rfl (fun ls hl => ?_)
  refine lv_iload_n hx hb dX9_readCommand_5 rfl (lv_at hl 0 rfl) ?_
  refine lv_bipush (v := 43) hx hb dX9_readCommand_6 (by decide) ?_
  refine lv_icmp_eq (tgt := 25) hx hb dX9_readCommand_8 (by decide) (fun hc => ?_) (fun hc => ?_)
  · replace h := oi_t hc h
    refine lv_aload_n hx hb dX9_readCommand_25 rfl (lv_at hl 1 rfl) ?_
    refine lv_dup hx hb dX9_readCommand_26 rfl ?_
    refine M_g0_24 hx hb hA hown aF_RX9_274 hK hP dX9_readCommand_27 ?_
    refine lv_iconst (v := 1) hx hb dX9_readCommand_30 (by decide) ?_
    refine lv_iadd hx hb dX9_readCommand_31 ?_
    refine M_p0_24 hx hb hA hown aF_RX9_274 hK hP (hDA _ _) hS dX9_readCommand_32 (fun w3 H locs ew3 hP hS => ?_)
    replace h := olet_s ew3 h
    refine lv_aload_n hx hb dX9_readCommand_35 rfl (lv_at hl 1 rfl) ?_
    refine M_g0_24 hx hb hA hown aF_RX9_274 hK hP dX9_readCommand_36 ?_
    refine lv_topi (fun x4 ex4 => ?_)
    replace h := olet_s ex4 h
    refine lv_istore_n (lv' := [(2, .int x4), (1, .int r1), (0, .ref (a 0))]) hx hb dX9_readCommand_39 rfl hl (by decide) rfl (fun ls hl => ?_)
    refine lv_iconst (v := 0) hx hb dX9_readCommand_40 (by decide) ?_
    refine lv_istore_n (lv' := [(3, .int 0), (2, .int x4), (1, .int r1), (0, .ref (a 0))]) hx hb dX9_readCommand_41 rfl hl (by decide) rfl (fun ls hl => ?_)
    obtain ⟨y12, w13, h14, h⟩ := obd2_e h
    refine hL42 N _ _ _ _ _ _ _ _ _ h14 hP hS (lv_sub hl [3, 2, 1, 0] rfl) (fun H locs ls hP hS hl => ?_)
    exact hJ98 _ _ _ _ _ _ _ h hP hS (lv_sub hl [0, 1, 2, 3] rfl)
  · replace h := oi_f hc h
    refine lv_iload_n hx hb dX9_readCommand_11 rfl (lv_at hl 0 rfl) ?_
    refine lv_bipush (v := 45) hx hb dX9_readCommand_12 (by decide) ?_
    refine lv_icmp_eq (tgt := 25) hx hb dX9_readCommand_14 (by decide) (fun hc => ?_) (fun hc => ?_)
    · replace h := oi_t hc h
      refine lv_aload_n hx hb dX9_readCommand_25 rfl (lv_at hl 1 rfl) ?_
      refine lv_dup hx hb dX9_readCommand_26 rfl ?_
      refine M_g0_24 hx hb hA hown aF_RX9_274 hK hP dX9_readCommand_27 ?_
      refine lv_iconst (v := 1) hx hb dX9_readCommand_30 (by decide) ?_
      refine lv_iadd hx hb dX9_readCommand_31 ?_
      refine M_p0_24 hx hb hA hown aF_RX9_274 hK hP (hDA _ _) hS dX9_readCommand_32 (fun w23 H locs ew23 hP hS => ?_)
      replace h := olet_s ew23 h
      refine lv_aload_n hx hb dX9_readCommand_35 rfl (lv_at hl 1 rfl) ?_
      refine M_g0_24 hx hb hA hown aF_RX9_274 hK hP dX9_readCommand_36 ?_
      refine lv_topi (fun x24 ex24 => ?_)
      replace h := olet_s ex24 h
      refine lv_istore_n (lv' := [(2, .int x24), (1, .int r1), (0, .ref (a 0))]) hx hb dX9_readCommand_39 rfl hl (by decide) rfl (fun ls hl => ?_)
      refine lv_iconst (v := 0) hx hb dX9_readCommand_40 (by decide) ?_
      refine lv_istore_n (lv' := [(3, .int 0), (2, .int x24), (1, .int r1), (0, .ref (a 0))]) hx hb dX9_readCommand_41 rfl hl (by decide) rfl (fun ls hl => ?_)
      obtain ⟨y25, w26, h27, h⟩ := obd2_e h
      refine hL42 N _ _ _ _ _ _ _ _ _ h27 hP hS (lv_sub hl [3, 2, 1, 0] rfl) (fun H locs ls hP hS hl => ?_)
      exact hJ98 _ _ _ _ _ _ _ h hP hS (lv_sub hl [0, 1, 2, 3] rfl)
    · replace h := oi_f hc h
      refine lv_iload_n hx hb dX9_readCommand_17 rfl (lv_at hl 0 rfl) ?_
      refine lv_bipush (v := 42) hx hb dX9_readCommand_18 (by decide) ?_
      refine lv_icmp_eq (tgt := 25) hx hb dX9_readCommand_20 (by decide) (fun hc => ?_) (fun hc => ?_)
      · replace h := oi_t hc h
        refine lv_aload_n hx hb dX9_readCommand_25 rfl (lv_at hl 1 rfl) ?_
        refine lv_dup hx hb dX9_readCommand_26 rfl ?_
        refine M_g0_24 hx hb hA hown aF_RX9_274 hK hP dX9_readCommand_27 ?_
        refine lv_iconst (v := 1) hx hb dX9_readCommand_30 (by decide) ?_
        refine lv_iadd hx hb dX9_readCommand_31 ?_
        refine M_p0_24 hx hb hA hown aF_RX9_274 hK hP (hDA _ _) hS dX9_readCommand_32 (fun w28 H locs ew28 hP hS => ?_)
        replace h := olet_s ew28 h
        refine lv_aload_n hx hb dX9_readCommand_35 rfl (lv_at hl 1 rfl) ?_
        refine M_g0_24 hx hb hA hown aF_RX9_274 hK hP dX9_readCommand_36 ?_
        refine lv_topi (fun x29 ex29 => ?_)
        replace h := olet_s ex29 h
        refine lv_istore_n (lv' := [(2, .int x29), (1, .int r1), (0, .ref (a 0))]) hx hb dX9_readCommand_39 rfl hl (by decide) rfl (fun ls hl => ?_)
        refine lv_iconst (v := 0) hx hb dX9_readCommand_40 (by decide) ?_
        refine lv_istore_n (lv' := [(3, .int 0), (2, .int x29), (1, .int r1), (0, .ref (a 0))]) hx hb dX9_readCommand_41 rfl hl (by decide) rfl (fun ls hl => ?_)
        obtain ⟨y30, w31, h32, h⟩ := obd2_e h
        refine hL42 N _ _ _ _ _ _ _ _ _ h32 hP hS (lv_sub hl [3, 2, 1, 0] rfl) (fun H locs ls hP hS hl => ?_)
        exact hJ98 _ _ _ _ _ _ _ h hP hS (lv_sub hl [0, 1, 2, 3] rfl)
      · replace h := oi_f hc h
        refine lv_iconst (v := 0) hx hb dX9_readCommand_23 (by decide) ?_
        obtain ⟨rfl, rfl⟩ := os2 h
        exact W.zret (v := 0) (ty := .boolean) hx hb hr rfl (fun t ht hW => ⟨⟨_, (), rfl, ⟨rfl, (Or.inl rfl)⟩, by show va_P _ _ _ t.heap; rw [ht]; exact hP⟩, hS.F ht⟩) hS.2.2 dX9_readCommand_24
theorem k_X9_readCommand {p : Program} {l : Launch} {e : Env} {R : Room} {s : State} {m : MethodId} {args : Array Value} {below : List Frame} {meth : Method} {c : Code} {H : Heap} {locs : List Loc} {cells slots : Nat} {Q : State → Prop} {cc : ByteArray} {pc nL idx : Nat} {ls : Array Slot} {rest : List Value} {own : String} {D : va_G} {cI : ClassId} {a : Nat → Nat} {H0 : Heap} {N : Nat} {φ : M2} {hv : Int64} {r0 : Int32} {φr : M2} (S : CallFix p m c cc nL s args AW own) (h1 : Cond.methodLink own idx yX9_readCommand ∈ AW) (hR : 1 + 1 ≤ R.frames ∧ 8 + (4 + 11) + 22 ≤ R.locals) (hc : cells ≤ R.cells ∧ slots ≤ R.slots) (hP : va_P D vwCl (mbW cI a φ hv) H) (hK : va_K D vwCl [(cI, .int)] s) (hDT : ∀ (φ2 : M2) (hv2 : Int64), va_D (fun _ => True) (mbW cI a φ2 hv2)) (hS : va_S (mbA a) H0 H locs) (hF : G_X9_readCommand N φ = some (r0, φr)) (hsz : ls.size = nL) (hW : (rest.map fun v => v.category).sum ≤ 8) (hdg : decode cc pc = .ok (.invokevirtual idx, 3)) (kk : (r0 = 0 ∨ r0 = 1) → ∀ (H1 : Heap) (locs1 : List Loc), va_P D vwCl (mbW cI a φr hv) H1 → va_S (mbA a) H0 H1 locs1 → W p l e R s m args below meth c H1 locs1 cells slots Q (F0 m (pc + 3) ls (.int r0 :: rest))) : W p l e R s m args below meth c H locs cells slots Q (F0 m pc ls (.ref (a 0) :: rest)) :=
  fm_runVi (n := 0) (C := RX9) (As := []) S (c_X9_readCommand l D cI a N φ hv r0 φr hF) (M_pre (q0 := 0) (ci := 7) hK hP (hDT _ _) rfl rfl) hS h1 aI_X9_readCommand aV_X9_readCommand aN_RX9 aC_X9_readCommand rfl rfl (by decide +kernel) rfl hR hc hsz hW hdg (fun r H1 locs1 hr hP1 hS1 => by obtain ⟨rfl, hz⟩ := hr; exact kk hz H1 locs1 hP1 hS1)
set_option maxHeartbeats 4000000 in
set_option maxRecDepth 100000 in
theorem c_X9_readAll (l : Launch) (D : va_G) (cI : ClassId) (a : Nat → Nat) (N : Nat) (φ : M2) (hv : Int64) (r0 : Int32) (φr : M2) (hF : G_X9_readAll N φ = some (r0, φr)) : Met l yX9_readAll (wsA yX9_readAll cX9_readAll 2 (some .boolean)) { frames := 2, cells := 0, slots := 0, locals := 45 } (va_Pc [.ref (a 0)] (mbP D cI a φ hv)) (va_Qi (fun (r : Int32) (_ : Unit) => r = r0 ∧ (r = 0 ∨ r = 1)) (fun _ t => va_P D vwCl (mbW cI a φr hv) t.heap) (mbA a)) 0 0 (mbA a) := by
  refine Met.ofW (cc := cX9_readAll) (maxL := 2) (ret := (some .boolean)) (by decide) rfl ?_
  intro p e s m args below meth c s₁ B hml hpre
  obtain ⟨rfl, hP, hK, hD0⟩ := hpre
  have hx := B.exec
  have hb := B.bytes
  have hr := B.returns
  have hA : ∀ w ∈ AW, w.before _ s = true := fun w h => atoms_spec (ws := wsA yX9_readAll cX9_readAll 2 (some .boolean)) B.pre w (List.mem_cons_of_mem _ h)
  have hown : s.vm.findClass RX9 = some m.cls := findClass_of_methodNamed B.named
  have hlocks := B.notSynchronized
  have hDT := M_dT hD0
  have hDA := M_dA hD0
  have hS : va_S (mbA a) s.heap s.heap [] := va_S.rf
  have S : CallFix p m c cX9_readAll 2 s ([.ref (a 0)] : List Value).toArray AW RX9 := ⟨hx, hb, hml, hown, hA⟩
  have hl := lv_entry ([.ref (a 0)]) (n := 2) (Nat.le_of_ble_eq_true rfl)
  rw [lg_entry_eq]
  generalize (lg_sl ([.ref (a 0)]) ++ List.replicate (2 - (lg_sl ([.ref (a 0)])).length) Slot.unset).toArray = ls at hl ⊢
  have hl : lv_has ls 2 [(0, .ref (a 0))] := hl
  have hL12 : ∀ (k : Nat) (v1 : Int32) (φ : M2) (H : Heap) (locs : List Loc) (ls : Array Slot) (o1 : Int32) (φo : M2), L_X9_readAll_12 N k v1 φ = some (o1, φo) → va_P D vwCl (mbW cI a φ hv) H → va_S (mbA a) s.heap H locs → lv_has ls 2 [(0, .ref (a 0)), (1, .int v1)] → (∀ (H1 : Heap) (locs1 : List Loc) (ls1 : Array Slot), va_P D vwCl (mbW cI a φo hv) H1 → va_S (mbA a) s.heap H1 locs1 → lv_has ls1 2 [(1, .int o1)] → W p l e (headSpec (wsA yX9_readAll cX9_readAll 2 (some .boolean)) { frames := 2, cells := 0, slots := 0, locals := 45 }).room s m ([.ref (a 0)] : List Value).toArray below meth c H1 locs1 0 0 (MQ below (va_Qi (fun (r : Int32) (_ : Unit) => r = r0 ∧ (r = 0 ∨ r = 1)) (fun _ t => va_P D vwCl (mbW cI a φr hv) t.heap) (mbA a)) ([.ref (a 0)] : List Value).toArray s 0 0 (mbA a)) (F0 m 35 ls1 [])) → W p l e (headSpec (wsA yX9_readAll cX9_readAll 2 (some .boolean)) { frames := 2, cells := 0, slots := 0, locals := 45 }).room s m ([.ref (a 0)] : List Value).toArray below meth c H locs 0 0 (MQ below (va_Qi (fun (r : Int32) (_ : Unit) => r = r0 ∧ (r = 0 ∨ r = 1)) (fun _ t => va_P D vwCl (mbW cI a φr hv) t.heap) (mbA a)) ([.ref (a 0)] : List Value).toArray s 0 0 (mbA a)) (F0 m 12 ls []) := by
    intro k
    induction k with
    | zero =>
      intro v1 φ H locs ls o1 φo h hP hS hl kk
      exact no_s h
    | succ k ih =>
      intro v1 φ H locs ls o1 φo h hP hS hl kk
      replace h : B_X9_readAll_12 N (L_X9_readAll_12 N k) v1 φ = some (o1, φo) := h
      unfold B_X9_readAll_12 at h
      refine lv_iload_n hx hb dX9_readAll_12 rfl (lv_at hl 1 rfl) ?_
      refine lv_if_eq (tgt := 35) hx hb dX9_readAll_13 (by decide) (fun hc => ?_) (fun hc => ?_)
      · replace h := oi_t hc h
        obtain ⟨rfl, rfl⟩ := os2 h
        exact kk _ _ _ hP hS (lv_sub hl [1] rfl)
      · replace h := oi_f hc h
        refine lv_aload_n hx hb dX9_readAll_16 rfl (lv_at hl 0 rfl) ?_
        refine M_g0_24 hx hb hA hown aF_RX9_274 hK hP dX9_readAll_17 ?_
        refine lv_aload_n hx hb dX9_readAll_20 rfl (lv_at hl 0 rfl) ?_
        refine M_g0_4 hx hb hA hown aF_RX9_271 hK hP dX9_readAll_21 ?_
        refine lv_icmp_ge (tgt := 35) hx hb dX9_readAll_24 (by decide) (fun hc => ?_) (fun hc => ?_)
        · replace h := oi_t hc h
          obtain ⟨rfl, rfl⟩ := os2 h
          exact kk _ _ _ hP hS (lv_sub hl [1] rfl)
        · replace h := oi_f hc h
          refine lv_aload_n hx hb dX9_readAll_27 rfl (lv_at hl 0 rfl) ?_
          obtain ⟨r5, w3, h4, h⟩ := obd2_e h
          refine k_X9_readCommand S aM_RX9_283 ⟨Nat.le_of_ble_eq_true rfl, Nat.le_of_ble_eq_true rfl⟩ ⟨Nat.zero_le _, Nat.zero_le _⟩ hP hK hDT hS h4 hl.1 (Nat.le_of_ble_eq_true rfl) dX9_readAll_28 (fun br5 H locs hP hS => ?_)
          refine lv_istore_n (lv' := [(1, .int r5), (0, .ref (a 0))]) hx hb dX9_readAll_31 rfl hl (by decide) rfl (fun ls hl => ?_)
          refine lv_goto (tgt := 12) hx hb dX9_readAll_32 (by decide) ?_
          exact ih _ _ _ _ _ _ _ h hP hS (lv_sub hl [1, 0] rfl) kk
  have h := hF
  unfold G_X9_readAll at h
  refine lv_aload_n hx hb dX9_readAll_0 rfl (lv_at hl 0 rfl) ?_
  refine lv_iconst (v := 0) hx hb dX9_readAll_1 (by decide) ?_
  refine M_p0_24 hx hb hA hown aF_RX9_274 hK hP (hDA _ _) hS dX9_readAll_2 (fun w1 H locs ew1 hP hS => ?_)
  replace h := olet_s ew1 h
  refine lv_aload_n hx hb dX9_readAll_5 rfl (lv_at hl 0 rfl) ?_
  refine lv_iconst (v := 0) hx hb dX9_readAll_6 (by decide) ?_
  refine M_p0_25 hx hb hA hown aF_RX9_280 hK hP (hDA _ _) hS dX9_readAll_7 (fun w2 H locs ew2 hP hS => ?_)
  replace h := olet_s ew2 h
  refine lv_iconst (v := 1) hx hb dX9_readAll_10 (by decide) ?_
  refine lv_istore_n (lv' := [(1, .int 1), (0, .ref (a 0))]) hx hb dX9_readAll_11 rfl hl (by decide) rfl (fun ls hl => ?_)
  obtain ⟨y6, w7, h8, h⟩ := obd2_e h
  refine hL12 N _ _ _ _ _ _ _ h8 hP hS (lv_sub hl [1, 0] rfl) (fun H locs ls hP hS hl => ?_)
  refine lv_iload_n hx hb dX9_readAll_35 rfl (lv_at hl 0 rfl) ?_
  obtain ⟨by6, h⟩ := obz_e h
  obtain ⟨rfl, rfl⟩ := os2 h
  exact W.zret (v := y6) (ty := .boolean) hx hb hr (fm_nz by6) (fun t ht hW => ⟨⟨_, (), rfl, ⟨rfl, by6⟩, by show va_P _ _ _ t.heap; rw [ht]; exact hP⟩, hS.F ht⟩) hS.2.2 dX9_readAll_36
theorem k_X9_readAll {p : Program} {l : Launch} {e : Env} {R : Room} {s : State} {m : MethodId} {args : Array Value} {below : List Frame} {meth : Method} {c : Code} {H : Heap} {locs : List Loc} {cells slots : Nat} {Q : State → Prop} {cc : ByteArray} {pc nL idx : Nat} {ls : Array Slot} {rest : List Value} {own : String} {D : va_G} {cI : ClassId} {a : Nat → Nat} {H0 : Heap} {N : Nat} {φ : M2} {hv : Int64} {r0 : Int32} {φr : M2} (S : CallFix p m c cc nL s args AW own) (h1 : Cond.methodLink own idx yX9_readAll ∈ AW) (hR : 2 + 1 ≤ R.frames ∧ 8 + (2 + 11) + 45 ≤ R.locals) (hc : cells ≤ R.cells ∧ slots ≤ R.slots) (hP : va_P D vwCl (mbW cI a φ hv) H) (hK : va_K D vwCl [(cI, .int)] s) (hDT : ∀ (φ2 : M2) (hv2 : Int64), va_D (fun _ => True) (mbW cI a φ2 hv2)) (hS : va_S (mbA a) H0 H locs) (hF : G_X9_readAll N φ = some (r0, φr)) (hsz : ls.size = nL) (hW : (rest.map fun v => v.category).sum ≤ 8) (hdg : decode cc pc = .ok (.invokevirtual idx, 3)) (kk : (r0 = 0 ∨ r0 = 1) → ∀ (H1 : Heap) (locs1 : List Loc), va_P D vwCl (mbW cI a φr hv) H1 → va_S (mbA a) H0 H1 locs1 → W p l e R s m args below meth c H1 locs1 cells slots Q (F0 m (pc + 3) ls (.int r0 :: rest))) : W p l e R s m args below meth c H locs cells slots Q (F0 m pc ls (.ref (a 0) :: rest)) :=
  fm_runVi (n := 0) (C := RX9) (As := []) S (c_X9_readAll l D cI a N φ hv r0 φr hF) (M_pre (q0 := 0) (ci := 7) hK hP (hDT _ _) rfl rfl) hS h1 aI_X9_readAll aV_X9_readAll aN_RX9 aC_X9_readAll rfl rfl (by decide +kernel) rfl hR hc hsz hW hdg (fun r H1 locs1 hr hP1 hS1 => by obtain ⟨rfl, hz⟩ := hr; exact kk hz H1 locs1 hP1 hS1)
set_option maxHeartbeats 4000000 in
set_option maxRecDepth 100000 in
theorem c_X9_does (l : Launch) (D : va_G) (cI : ClassId) (a : Nat → Nat) (N : Nat) (φ : M2) (p1 : Int32) (hv : Int64) (r0 : Int32) (φr : M2) (hF : G_X9_does N φ p1 = some (r0, φr)) : Met l yX9_does (wsA yX9_does cX9_does 4 (some .boolean)) { frames := 7, cells := 0, slots := 0, locals := 155 } (va_Pc [.ref (a 0), .int p1] (mbP D cI a φ hv)) (va_Qi (fun (r : Int32) (_ : Unit) => r = r0 ∧ (r = 0 ∨ r = 1)) (fun _ t => va_P D vwCl (mbW cI a φr hv) t.heap) (mbA a)) 0 0 (mbA a) := by
  refine Met.ofW (cc := cX9_does) (maxL := 4) (ret := (some .boolean)) (by decide) rfl ?_
  intro p e s m args below meth c s₁ B hml hpre
  obtain ⟨rfl, hP, hK, hD0⟩ := hpre
  have hx := B.exec
  have hb := B.bytes
  have hr := B.returns
  have hA : ∀ w ∈ AW, w.before _ s = true := fun w h => atoms_spec (ws := wsA yX9_does cX9_does 4 (some .boolean)) B.pre w (List.mem_cons_of_mem _ h)
  have hown : s.vm.findClass RX9 = some m.cls := findClass_of_methodNamed B.named
  have hlocks := B.notSynchronized
  have hDT := M_dT hD0
  have hDA := M_dA hD0
  have hS : va_S (mbA a) s.heap s.heap [] := va_S.rf
  have S : CallFix p m c cX9_does 4 s ([.ref (a 0), .int p1] : List Value).toArray AW RX9 := ⟨hx, hb, hml, hown, hA⟩
  have hl := lv_entry ([.ref (a 0), .int p1]) (n := 4) (Nat.le_of_ble_eq_true rfl)
  rw [lg_entry_eq]
  generalize (lg_sl ([.ref (a 0), .int p1]) ++ List.replicate (4 - (lg_sl ([.ref (a 0), .int p1])).length) Slot.unset).toArray = ls at hl ⊢
  have hl : lv_has ls 4 [(0, .ref (a 0)), (1, .int p1)] := hl
  have h := hF
  unfold G_X9_does at h
  refine lv_aload_n hx hb dX9_does_0 rfl (lv_at hl 0 rfl) ?_
  refine M_g0_27 hx hb hA hown aF_RX9_58 hK hP dX9_does_1 ?_
  refine lv_iload_n hx hb dX9_does_4 rfl (lv_at hl 1 rfl) ?_
  obtain ⟨i1, h⟩ := oin_e h
  refine M_ld17 hx hb hK hP i1 dX9_does_5 ?_
  refine lv_topi (fun x2 ex2 => ?_)
  replace h := olet_s ex2 h
  refine lv_istore_n (lv' := [(2, .int x2), (0, .ref (a 0)), (1, .int p1)]) hx hb dX9_does_6 rfl hl (by decide) rfl (fun ls hl => ?_)
  refine lv_aload_n hx hb dX9_does_7 rfl (lv_at hl 1 rfl) ?_
  refine M_g0_26 hx hb hA hown aF_RX9_55 hK hP dX9_does_8 ?_
  refine lv_iload_n hx hb dX9_does_11 rfl (lv_at hl 2 rfl) ?_
  obtain ⟨i3, h⟩ := oin_e h
  refine M_ld16 hx hb hK hP i3 dX9_does_12 ?_
  refine lv_bipush (v := 43) hx hb dX9_does_13 (by decide) ?_
  refine lv_icmp_ne (tgt := 33) hx hb dX9_does_15 (by decide) (fun hc => ?_) (fun hc => ?_)
  · replace h := oi_f hc h
    refine lv_aload_n hx hb dX9_does_33 rfl (lv_at hl 1 rfl) ?_
    refine M_g0_26 hx hb hA hown aF_RX9_55 hK hP dX9_does_34 ?_
    refine lv_iload_n hx hb dX9_does_37 rfl (lv_at hl 2 rfl) ?_
    obtain ⟨i4, h⟩ := oin_e h
    refine M_ld16 hx hb hK hP i4 dX9_does_38 ?_
    refine lv_bipush (v := 42) hx hb dX9_does_39 (by decide) ?_
    refine lv_icmp_ne (tgt := 59) hx hb dX9_does_41 (by decide) (fun hc => ?_) (fun hc => ?_)
    · replace h := oi_f hc h
      refine lv_aload_n hx hb dX9_does_59 rfl (lv_at hl 1 rfl) ?_
      refine lv_iload_n hx hb dX9_does_60 rfl (lv_at hl 0 rfl) ?_
      obtain ⟨r5, h6, h⟩ := obd_e h
      refine k_X9_indexOf S aM_RX9_169 ⟨Nat.le_of_ble_eq_true rfl, Nat.le_of_ble_eq_true rfl⟩ ⟨Nat.zero_le _, Nat.zero_le _⟩ hP hK hDT h6 hl.1 (Nat.le_of_ble_eq_true rfl) dX9_does_61 ?_
      refine lv_istore_n (lv' := [(3, .int r5), (2, .int x2), (0, .ref (a 0)), (1, .int p1)]) hx hb dX9_does_64 rfl hl (by decide) rfl (fun ls hl => ?_)
      refine lv_iload_n hx hb dX9_does_65 rfl (lv_at hl 0 rfl) ?_
      refine lv_iconst (v := (-1)) hx hb dX9_does_66 (by decide) ?_
      refine lv_icmp_eq (tgt := 83) hx hb dX9_does_67 (by decide) (fun hc => ?_) (fun hc => ?_)
      · replace h := oi_t hc h
        refine lv_iconst (v := 0) hx hb dX9_does_83 (by decide) ?_
        obtain ⟨rfl, rfl⟩ := os2 h
        exact W.zret (v := 0) (ty := .boolean) hx hb hr rfl (fun t ht hW => ⟨⟨_, (), rfl, ⟨rfl, (Or.inl rfl)⟩, by show va_P _ _ _ t.heap; rw [ht]; exact hP⟩, hS.F ht⟩) hS.2.2 dX9_does_84
      · replace h := oi_f hc h
        refine lv_aload_n hx hb dX9_does_70 rfl (lv_at hl 2 rfl) ?_
        refine lv_iload_n hx hb dX9_does_71 rfl (lv_at hl 1 rfl) ?_
        refine lv_iload_n hx hb dX9_does_72 rfl (lv_at hl 0 rfl) ?_
        obtain ⟨r9, w7, h8, h⟩ := obd2_e h
        refine k_X9_deletes S aM_RX9_221 ⟨Nat.le_of_ble_eq_true rfl, Nat.le_of_ble_eq_true rfl⟩ ⟨Nat.zero_le _, Nat.zero_le _⟩ hP hK hDT hS h8 hl.1 (Nat.le_of_ble_eq_true rfl) dX9_does_73 (fun H locs hP hS => ?_)
        refine lv_if_lt (tgt := 83) hx hb dX9_does_76 (by decide) (fun hc => ?_) (fun hc => ?_)
        · replace h := oi_t hc h
          refine lv_iconst (v := 0) hx hb dX9_does_83 (by decide) ?_
          obtain ⟨rfl, rfl⟩ := os2 h
          exact W.zret (v := 0) (ty := .boolean) hx hb hr rfl (fun t ht hW => ⟨⟨_, (), rfl, ⟨rfl, (Or.inl rfl)⟩, by show va_P _ _ _ t.heap; rw [ht]; exact hP⟩, hS.F ht⟩) hS.2.2 dX9_does_84
        · replace h := oi_f hc h
          refine lv_iconst (v := 1) hx hb dX9_does_79 (by decide) ?_
          refine lv_goto (tgt := 84) hx hb dX9_does_80 (by decide) ?_
          obtain ⟨rfl, rfl⟩ := os2 h
          exact W.zret (v := 1) (ty := .boolean) hx hb hr rfl (fun t ht hW => ⟨⟨_, (), rfl, ⟨rfl, (Or.inr rfl)⟩, by show va_P _ _ _ t.heap; rw [ht]; exact hP⟩, hS.F ht⟩) hS.2.2 dX9_does_84
    · replace h := oi_t hc h
      refine lv_aload_n hx hb dX9_does_44 rfl (lv_at hl 1 rfl) ?_
      obtain ⟨r10, h11, h⟩ := obd_e h
      refine k_X9_mayGrow S aM_RX9_224 ⟨Nat.le_of_ble_eq_true rfl, Nat.le_of_ble_eq_true rfl⟩ ⟨Nat.zero_le _, Nat.zero_le _⟩ hP hK hDT h11 hl.1 (Nat.le_of_ble_eq_true rfl) dX9_does_45 (fun br10 => ?_)
      refine lv_istore_n (lv' := [(3, .int r10), (2, .int x2), (0, .ref (a 0)), (1, .int p1)]) hx hb dX9_does_48 rfl hl (by decide) rfl (fun ls hl => ?_)
      refine lv_iload_n hx hb dX9_does_49 rfl (lv_at hl 0 rfl) ?_
      refine lv_if_eq (tgt := 57) hx hb dX9_does_50 (by decide) (fun hc => ?_) (fun hc => ?_)
      · replace h := oi_t hc h
        refine lv_iload_n hx hb dX9_does_57 rfl (lv_at hl 0 rfl) ?_
        obtain ⟨rfl, rfl⟩ := os2 h
        exact W.zret (v := r10) (ty := .boolean) hx hb hr (fm_nz br10) (fun t ht hW => ⟨⟨_, (), rfl, ⟨rfl, br10⟩, by show va_P _ _ _ t.heap; rw [ht]; exact hP⟩, hS.F ht⟩) hS.2.2 dX9_does_58
      · replace h := oi_f hc h
        refine lv_aload_n hx hb dX9_does_53 rfl (lv_at hl 2 rfl) ?_
        obtain ⟨w12, h13, h⟩ := obd_e h
        refine k_X9_grows S aM_RX9_228 ⟨Nat.le_of_ble_eq_true rfl, Nat.le_of_ble_eq_true rfl⟩ ⟨Nat.zero_le _, Nat.zero_le _⟩ hP hK hDT hS h13 hl.1 (Nat.le_of_ble_eq_true rfl) dX9_does_54 (fun H locs hP hS => ?_)
        refine lv_iload_n hx hb dX9_does_57 rfl (lv_at hl 0 rfl) ?_
        obtain ⟨rfl, rfl⟩ := os2 h
        exact W.zret (v := r10) (ty := .boolean) hx hb hr (fm_nz br10) (fun t ht hW => ⟨⟨_, (), rfl, ⟨rfl, br10⟩, by show va_P _ _ _ t.heap; rw [ht]; exact hP⟩, hS.F ht⟩) hS.2.2 dX9_does_58
  · replace h := oi_t hc h
    refine lv_aload_n hx hb dX9_does_18 rfl (lv_at hl 1 rfl) ?_
    refine lv_iload_n hx hb dX9_does_19 rfl (lv_at hl 0 rfl) ?_
    obtain ⟨r16, w14, h15, h⟩ := obd2_e h
    refine k_X9_tryAdd S aM_RX9_203 ⟨Nat.le_of_ble_eq_true rfl, Nat.le_of_ble_eq_true rfl⟩ ⟨Nat.zero_le _, Nat.zero_le _⟩ hP hK hDT hS h15 hl.1 (Nat.le_of_ble_eq_true rfl) dX9_does_20 (fun H locs hP hS => ?_)
    refine lv_iconst (v := (-1)) hx hb dX9_does_23 (by decide) ?_
    refine lv_icmp_eq (tgt := 31) hx hb dX9_does_24 (by decide) (fun hc => ?_) (fun hc => ?_)
    · replace h := oi_t hc h
      refine lv_iconst (v := 0) hx hb dX9_does_31 (by decide) ?_
      obtain ⟨rfl, rfl⟩ := os2 h
      exact W.zret (v := 0) (ty := .boolean) hx hb hr rfl (fun t ht hW => ⟨⟨_, (), rfl, ⟨rfl, (Or.inl rfl)⟩, by show va_P _ _ _ t.heap; rw [ht]; exact hP⟩, hS.F ht⟩) hS.2.2 dX9_does_32
    · replace h := oi_f hc h
      refine lv_iconst (v := 1) hx hb dX9_does_27 (by decide) ?_
      refine lv_goto (tgt := 32) hx hb dX9_does_28 (by decide) ?_
      obtain ⟨rfl, rfl⟩ := os2 h
      exact W.zret (v := 1) (ty := .boolean) hx hb hr rfl (fun t ht hW => ⟨⟨_, (), rfl, ⟨rfl, (Or.inr rfl)⟩, by show va_P _ _ _ t.heap; rw [ht]; exact hP⟩, hS.F ht⟩) hS.2.2 dX9_does_32
theorem k_X9_does {p : Program} {l : Launch} {e : Env} {R : Room} {s : State} {m : MethodId} {args : Array Value} {below : List Frame} {meth : Method} {c : Code} {H : Heap} {locs : List Loc} {cells slots : Nat} {Q : State → Prop} {cc : ByteArray} {pc nL idx : Nat} {ls : Array Slot} {rest : List Value} {own : String} {D : va_G} {cI : ClassId} {a : Nat → Nat} {H0 : Heap} {N : Nat} {φ : M2} {p1 : Int32} {hv : Int64} {r0 : Int32} {φr : M2} (S : CallFix p m c cc nL s args AW own) (h1 : Cond.methodLink own idx yX9_does ∈ AW) (hR : 7 + 1 ≤ R.frames ∧ 8 + (4 + 11) + 155 ≤ R.locals) (hc : cells ≤ R.cells ∧ slots ≤ R.slots) (hP : va_P D vwCl (mbW cI a φ hv) H) (hK : va_K D vwCl [(cI, .int)] s) (hDT : ∀ (φ2 : M2) (hv2 : Int64), va_D (fun _ => True) (mbW cI a φ2 hv2)) (hS : va_S (mbA a) H0 H locs) (hF : G_X9_does N φ p1 = some (r0, φr)) (hsz : ls.size = nL) (hW : (rest.map fun v => v.category).sum ≤ 8) (hdg : decode cc pc = .ok (.invokevirtual idx, 3)) (kk : (r0 = 0 ∨ r0 = 1) → ∀ (H1 : Heap) (locs1 : List Loc), va_P D vwCl (mbW cI a φr hv) H1 → va_S (mbA a) H0 H1 locs1 → W p l e R s m args below meth c H1 locs1 cells slots Q (F0 m (pc + 3) ls (.int r0 :: rest))) : W p l e R s m args below meth c H locs cells slots Q (F0 m pc ls (.int p1 :: .ref (a 0) :: rest)) :=
  fm_runVi (n := 1) (C := RX9) (As := [.int p1]) S (c_X9_does l D cI a N φ p1 hv r0 φr hF) (M_pre (q0 := 0) (ci := 7) hK hP (hDT _ _) rfl rfl) hS h1 aI_X9_does aV_X9_does aN_RX9 aC_X9_does rfl rfl (by decide +kernel) rfl hR hc hsz hW hdg (fun r H1 locs1 hr hP1 hS1 => by obtain ⟨rfl, hz⟩ := hr; exact kk hz H1 locs1 hP1 hS1)
set_option maxHeartbeats 4000000 in
set_option maxRecDepth 100000 in
theorem c_X9_execute (l : Launch) (D : va_G) (cI : ClassId) (a : Nat → Nat) (N : Nat) (φ : M2) (hv : Int64) (r0 : Int32) (φr : M2) (hF : G_X9_execute N φ = some (r0, φr)) : Met l yX9_execute (wsA yX9_execute cX9_execute 2 (some .int)) { frames := 8, cells := 0, slots := 0, locals := 178 } (va_Pc [.ref (a 0)] (mbP D cI a φ hv)) (va_Qi (fun (r : Int32) (_ : Unit) => r = r0) (fun _ t => va_P D vwCl (mbW cI a φr hv) t.heap) (mbA a)) 0 0 (mbA a) := by
  refine Met.ofW (cc := cX9_execute) (maxL := 2) (ret := (some .int)) (by decide) rfl ?_
  intro p e s m args below meth c s₁ B hml hpre
  obtain ⟨rfl, hP, hK, hD0⟩ := hpre
  have hx := B.exec
  have hb := B.bytes
  have hr := B.returns
  have hA : ∀ w ∈ AW, w.before _ s = true := fun w h => atoms_spec (ws := wsA yX9_execute cX9_execute 2 (some .int)) B.pre w (List.mem_cons_of_mem _ h)
  have hown : s.vm.findClass RX9 = some m.cls := findClass_of_methodNamed B.named
  have hlocks := B.notSynchronized
  have hDT := M_dT hD0
  have hDA := M_dA hD0
  have hS : va_S (mbA a) s.heap s.heap [] := va_S.rf
  have S : CallFix p m c cX9_execute 2 s ([.ref (a 0)] : List Value).toArray AW RX9 := ⟨hx, hb, hml, hown, hA⟩
  have hl := lv_entry ([.ref (a 0)]) (n := 2) (Nat.le_of_ble_eq_true rfl)
  rw [lg_entry_eq]
  generalize (lg_sl ([.ref (a 0)]) ++ List.replicate (2 - (lg_sl ([.ref (a 0)])).length) Slot.unset).toArray = ls at hl ⊢
  have hl : lv_has ls 2 [(0, .ref (a 0))] := hl
  have hL27 : ∀ (k : Nat) (v1 : Int32) (φ : M2) (H : Heap) (locs : List Loc) (ls : Array Slot) , L_X9_execute_27 N k v1 φ = some (r0, φr) → va_P D vwCl (mbW cI a φ hv) H → va_S (mbA a) s.heap H locs → lv_has ls 2 [(0, .ref (a 0)), (1, .int v1)] → W p l e (headSpec (wsA yX9_execute cX9_execute 2 (some .int)) { frames := 8, cells := 0, slots := 0, locals := 178 }).room s m ([.ref (a 0)] : List Value).toArray below meth c H locs 0 0 (MQ below (va_Qi (fun (r : Int32) (_ : Unit) => r = r0) (fun _ t => va_P D vwCl (mbW cI a φr hv) t.heap) (mbA a)) ([.ref (a 0)] : List Value).toArray s 0 0 (mbA a)) (F0 m 27 ls []) := by
    intro k
    induction k with
    | zero =>
      intro v1 φ H locs ls h hP hS hl
      exact no_s h
    | succ k ih =>
      intro v1 φ H locs ls h hP hS hl
      replace h : B_X9_execute_27 N (L_X9_execute_27 N k) v1 φ = some (r0, φr) := h
      unfold B_X9_execute_27 at h
      refine lv_iload_n hx hb dX9_execute_27 rfl (lv_at hl 1 rfl) ?_
      refine lv_aload_n hx hb dX9_execute_28 rfl (lv_at hl 0 rfl) ?_
      refine M_g0_25 hx hb hA hown aF_RX9_280 hK hP dX9_execute_29 ?_
      refine lv_icmp_ge (tgt := 60) hx hb dX9_execute_32 (by decide) (fun hc => ?_) (fun hc => ?_)
      · replace h := oi_t hc h
        refine lv_aload_n hx hb dX9_execute_60 rfl (lv_at hl 0 rfl) ?_
        refine lv_iconst (v := 5) hx hb dX9_execute_61 (by decide) ?_
        obtain ⟨w7, h8, h⟩ := obd_e h
        refine k_X9_keepAside S aM_RX9_209 ⟨Nat.le_of_ble_eq_true rfl, Nat.le_of_ble_eq_true rfl⟩ ⟨Nat.zero_le _, Nat.zero_le _⟩ hP hK hDT hS h8 hl.1 (Nat.le_of_ble_eq_true rfl) dX9_execute_62 (fun H locs hP hS => ?_)
        refine lv_aload_n hx hb dX9_execute_65 rfl (lv_at hl 0 rfl) ?_
        refine M_g0_25 hx hb hA hown aF_RX9_280 hK hP dX9_execute_66 ?_
        obtain ⟨rfl, rfl⟩ := os2 h
        exact W.iret (v := (w7 0 25)) hx hb hr (fun t ht hW => ⟨⟨_, (), rfl, rfl, by show va_P _ _ _ t.heap; rw [ht]; exact hP⟩, hS.F ht⟩) hS.2.2 dX9_execute_69
      · replace h := oi_f hc h
        refine lv_aload_n hx hb dX9_execute_35 rfl (lv_at hl 0 rfl) ?_
        refine lv_iload_n hx hb dX9_execute_36 rfl (lv_at hl 1 rfl) ?_
        obtain ⟨r11, w9, h10, h⟩ := obd2_e h
        refine k_X9_does S aM_RX9_289 ⟨Nat.le_of_ble_eq_true rfl, Nat.le_of_ble_eq_true rfl⟩ ⟨Nat.zero_le _, Nat.zero_le _⟩ hP hK hDT hS h10 hl.1 (Nat.le_of_ble_eq_true rfl) dX9_execute_37 (fun br11 H locs hP hS => ?_)
        refine lv_if_ne (tgt := 54) hx hb dX9_execute_40 (by decide) (fun hc => ?_) (fun hc => ?_)
        · replace h := oi_f hc h
          refine lv_iinc (v := v1 + 1) (lv' := [(1, .int (v1 + 1)), (0, .ref (a 0))]) hx hb dX9_execute_54 hl (k := 1) rfl (fm_inc _ _ _ (by decide)) (by decide) rfl (fun ls hl => ?_)
          refine lv_goto (tgt := 27) hx hb dX9_execute_57 (by decide) ?_
          exact ih _ _ _ _ _  h hP hS (lv_sub hl [1, 0] rfl)
        · replace h := oi_t hc h
          refine lv_aload_n hx hb dX9_execute_43 rfl (lv_at hl 0 rfl) ?_
          refine lv_iconst (v := 5) hx hb dX9_execute_44 (by decide) ?_
          obtain ⟨w12, h13, h⟩ := obd_e h
          refine k_X9_layBack S aM_RX9_206 ⟨Nat.le_of_ble_eq_true rfl, Nat.le_of_ble_eq_true rfl⟩ ⟨Nat.zero_le _, Nat.zero_le _⟩ hP hK hDT hS h13 hl.1 (Nat.le_of_ble_eq_true rfl) dX9_execute_45 (fun H locs hP hS => ?_)
          refine lv_sipush (v := (-1000)) hx hb dX9_execute_48 (by decide) ?_
          refine lv_iload_n hx hb dX9_execute_51 rfl (lv_at hl 1 rfl) ?_
          refine lv_isub hx hb dX9_execute_52 ?_
          obtain ⟨rfl, rfl⟩ := os2 h
          exact W.iret (v := ((-1000) - v1)) hx hb hr (fun t ht hW => ⟨⟨_, (), rfl, rfl, by show va_P _ _ _ t.heap; rw [ht]; exact hP⟩, hS.F ht⟩) hS.2.2 dX9_execute_53
  have h := hF
  unfold G_X9_execute at h
  refine lv_aload_n hx hb dX9_execute_0 rfl (lv_at hl 0 rfl) ?_
  refine lv_iconst (v := 0) hx hb dX9_execute_1 (by decide) ?_
  refine M_p0_5 hx hb hA hown aF_RX9_64 hK hP (hDA _ _) hS dX9_execute_2 (fun w1 H locs ew1 hP hS => ?_)
  replace h := olet_s ew1 h
  refine lv_aload_n hx hb dX9_execute_5 rfl (lv_at hl 0 rfl) ?_
  obtain ⟨r4, w2, h3, h⟩ := obd2_e h
  refine k_X9_readAll S aM_RX9_286 ⟨Nat.le_of_ble_eq_true rfl, Nat.le_of_ble_eq_true rfl⟩ ⟨Nat.zero_le _, Nat.zero_le _⟩ hP hK hDT hS h3 hl.1 (Nat.le_of_ble_eq_true rfl) dX9_execute_6 (fun br4 H locs hP hS => ?_)
  refine lv_if_ne (tgt := 20) hx hb dX9_execute_9 (by decide) (fun hc => ?_) (fun hc => ?_)
  · replace h := oi_f hc h
    refine lv_aload_n hx hb dX9_execute_20 rfl (lv_at hl 0 rfl) ?_
    refine lv_iconst (v := 5) hx hb dX9_execute_21 (by decide) ?_
    obtain ⟨w5, h6, h⟩ := obd_e h
    refine k_X9_copy S aM_RX9_74 ⟨Nat.le_of_ble_eq_true rfl, Nat.le_of_ble_eq_true rfl⟩ ⟨Nat.zero_le _, Nat.zero_le _⟩ hP hK hDT hS h6 hl.1 (Nat.le_of_ble_eq_true rfl) dX9_execute_22 (fun H locs hP hS => ?_)
    refine lv_iconst (v := 0) hx hb dX9_execute_25 (by decide) ?_
    refine lv_istore_n (lv' := [(1, .int 0), (0, .ref (a 0))]) hx hb dX9_execute_26 rfl hl (by decide) rfl (fun ls hl => ?_)
    exact hL27 N _ _ _ _ _ h hP hS (lv_sub hl [1, 0] rfl)
  · replace h := oi_t hc h
    refine lv_bipush (v := (-10)) hx hb dX9_execute_12 (by decide) ?_
    refine lv_aload_n hx hb dX9_execute_14 rfl (lv_at hl 0 rfl) ?_
    refine M_g0_24 hx hb hA hown aF_RX9_274 hK hP dX9_execute_15 ?_
    refine lv_isub hx hb dX9_execute_18 ?_
    obtain ⟨rfl, rfl⟩ := os2 h
    exact W.iret (v := ((-10) - (w2 0 24))) hx hb hr (fun t ht hW => ⟨⟨_, (), rfl, rfl, by show va_P _ _ _ t.heap; rw [ht]; exact hP⟩, hS.F ht⟩) hS.2.2 dX9_execute_19
theorem k_X9_execute {p : Program} {l : Launch} {e : Env} {R : Room} {s : State} {m : MethodId} {args : Array Value} {below : List Frame} {meth : Method} {c : Code} {H : Heap} {locs : List Loc} {cells slots : Nat} {Q : State → Prop} {cc : ByteArray} {pc nL idx : Nat} {ls : Array Slot} {rest : List Value} {own : String} {D : va_G} {cI : ClassId} {a : Nat → Nat} {H0 : Heap} {N : Nat} {φ : M2} {hv : Int64} {r0 : Int32} {φr : M2} (S : CallFix p m c cc nL s args AW own) (h1 : Cond.methodLink own idx yX9_execute ∈ AW) (hR : 8 + 1 ≤ R.frames ∧ 8 + (2 + 11) + 178 ≤ R.locals) (hc : cells ≤ R.cells ∧ slots ≤ R.slots) (hP : va_P D vwCl (mbW cI a φ hv) H) (hK : va_K D vwCl [(cI, .int)] s) (hDT : ∀ (φ2 : M2) (hv2 : Int64), va_D (fun _ => True) (mbW cI a φ2 hv2)) (hS : va_S (mbA a) H0 H locs) (hF : G_X9_execute N φ = some (r0, φr)) (hsz : ls.size = nL) (hW : (rest.map fun v => v.category).sum ≤ 8) (hdg : decode cc pc = .ok (.invokevirtual idx, 3)) (kk : ∀ (H1 : Heap) (locs1 : List Loc), va_P D vwCl (mbW cI a φr hv) H1 → va_S (mbA a) H0 H1 locs1 → W p l e R s m args below meth c H1 locs1 cells slots Q (F0 m (pc + 3) ls (.int r0 :: rest))) : W p l e R s m args below meth c H locs cells slots Q (F0 m pc ls (.ref (a 0) :: rest)) :=
  fm_runVi (n := 0) (C := RX9) (As := []) S (c_X9_execute l D cI a N φ hv r0 φr hF) (M_pre (q0 := 0) (ci := 7) hK hP (hDT _ _) rfl rfl) hS h1 aI_X9_execute aV_X9_execute aN_RX9 aC_X9_execute rfl rfl (by decide +kernel) rfl hR hc hsz hW hdg (fun r H1 locs1 hr hP1 hS1 => by subst hr; exact kk H1 locs1 hP1 hS1)
set_option maxHeartbeats 4000000 in
set_option maxRecDepth 100000 in
theorem c_X9_undo (l : Launch) (D : va_G) (cI : ClassId) (a : Nat → Nat) (N : Nat) (φ : M2) (hv : Int64) (r0 : Int32) (φr : M2) (hF : G_X9_undo N φ = some (r0, φr)) : Met l yX9_undo (wsA yX9_undo cX9_undo 1 (some .int)) { frames := 1, cells := 0, slots := 0, locals := 22 } (va_Pc [.ref (a 0)] (mbP D cI a φ hv)) (va_Qi (fun (r : Int32) (_ : Unit) => r = r0) (fun _ t => va_P D vwCl (mbW cI a φr hv) t.heap) (mbA a)) 0 0 (mbA a) := by
  refine Met.ofW (cc := cX9_undo) (maxL := 1) (ret := (some .int)) (by decide) rfl ?_
  intro p e s m args below meth c s₁ B hml hpre
  obtain ⟨rfl, hP, hK, hD0⟩ := hpre
  have hx := B.exec
  have hb := B.bytes
  have hr := B.returns
  have hA : ∀ w ∈ AW, w.before _ s = true := fun w h => atoms_spec (ws := wsA yX9_undo cX9_undo 1 (some .int)) B.pre w (List.mem_cons_of_mem _ h)
  have hown : s.vm.findClass RX9 = some m.cls := findClass_of_methodNamed B.named
  have hlocks := B.notSynchronized
  have hDT := M_dT hD0
  have hDA := M_dA hD0
  have hS : va_S (mbA a) s.heap s.heap [] := va_S.rf
  have S : CallFix p m c cX9_undo 1 s ([.ref (a 0)] : List Value).toArray AW RX9 := ⟨hx, hb, hml, hown, hA⟩
  have hl := lv_entry ([.ref (a 0)]) (n := 1) (Nat.le_of_ble_eq_true rfl)
  rw [lg_entry_eq]
  generalize (lg_sl ([.ref (a 0)]) ++ List.replicate (1 - (lg_sl ([.ref (a 0)])).length) Slot.unset).toArray = ls at hl ⊢
  have hl : lv_has ls 1 [(0, .ref (a 0))] := hl
  have hJ13 : ∀ (s0 : Int32) (φ : M2) (H : Heap) (locs : List Loc) (ls : Array Slot), J_X9_undo_13 N φ s0 = some (r0, φr) → va_P D vwCl (mbW cI a φ hv) H → va_S (mbA a) s.heap H locs → lv_has ls 1 [(0, .ref (a 0))] → W p l e (headSpec (wsA yX9_undo cX9_undo 1 (some .int)) { frames := 1, cells := 0, slots := 0, locals := 22 }).room s m ([.ref (a 0)] : List Value).toArray below meth c H locs 0 0 (MQ below (va_Qi (fun (r : Int32) (_ : Unit) => r = r0) (fun _ t => va_P D vwCl (mbW cI a φr hv) t.heap) (mbA a)) ([.ref (a 0)] : List Value).toArray s 0 0 (mbA a)) (F0 m 13 ls [.int s0, .ref (a 0)]) := by
    intro s0 φ H locs ls h hP hS hl
    unfold J_X9_undo_13 at h
    refine M_p0_5 hx hb hA hown aF_RX9_64 hK hP (hDA _ _) hS dX9_undo_13 (fun w1 H locs ew1 hP hS => ?_)
    replace h := olet_s ew1 h
    refine lv_aload_n hx hb dX9_undo_16 rfl (lv_at hl 0 rfl) ?_
    refine M_g0_5 hx hb hA hown aF_RX9_64 hK hP dX9_undo_17 ?_
    refine lv_if_eq (tgt := 25) hx hb dX9_undo_20 (by decide) (fun hc => ?_) (fun hc => ?_)
    · replace h := oi_t hc h
      refine lv_aload_n hx hb dX9_undo_25 rfl (lv_at hl 0 rfl) ?_
      refine lv_dup hx hb dX9_undo_26 rfl ?_
      refine M_g0_2 hx hb hA hown aF_RX9_68 hK hP dX9_undo_27 ?_
      refine lv_iconst (v := 1) hx hb dX9_undo_30 (by decide) ?_
      refine lv_isub hx hb dX9_undo_31 ?_
      refine M_p0_2 hx hb hA hown aF_RX9_68 hK hP (hDA _ _) hS dX9_undo_32 (fun w2 H locs ew2 hP hS => ?_)
      replace h := olet_s ew2 h
      refine lv_aload_n hx hb dX9_undo_35 rfl (lv_at hl 0 rfl) ?_
      refine lv_aload_n hx hb dX9_undo_36 rfl (lv_at hl 0 rfl) ?_
      refine M_g0_2 hx hb hA hown aF_RX9_68 hK hP dX9_undo_37 ?_
      obtain ⟨w3, h4, h⟩ := obd_e h
      refine k_X9_layBack S aM_RX9_206 ⟨Nat.le_of_ble_eq_true rfl, Nat.le_of_ble_eq_true rfl⟩ ⟨Nat.zero_le _, Nat.zero_le _⟩ hP hK hDT hS h4 hl.1 (Nat.le_of_ble_eq_true rfl) dX9_undo_40 (fun H locs hP hS => ?_)
      refine lv_aload_n hx hb dX9_undo_43 rfl (lv_at hl 0 rfl) ?_
      refine M_g0_2 hx hb hA hown aF_RX9_68 hK hP dX9_undo_44 ?_
      obtain ⟨rfl, rfl⟩ := os2 h
      exact W.iret (v := (w3 0 2)) hx hb hr (fun t ht hW => ⟨⟨_, (), rfl, rfl, by show va_P _ _ _ t.heap; rw [ht]; exact hP⟩, hS.F ht⟩) hS.2.2 dX9_undo_47
    · replace h := oi_f hc h
      refine lv_iconst (v := 0) hx hb dX9_undo_23 (by decide) ?_
      obtain ⟨rfl, rfl⟩ := os2 h
      exact W.iret (v := 0) hx hb hr (fun t ht hW => ⟨⟨_, (), rfl, rfl, by show va_P _ _ _ t.heap; rw [ht]; exact hP⟩, hS.F ht⟩) hS.2.2 dX9_undo_24
  have h := hF
  unfold G_X9_undo at h
  refine lv_aload_n hx hb dX9_undo_0 rfl (lv_at hl 0 rfl) ?_
  refine lv_aload_n hx hb dX9_undo_1 rfl (lv_at hl 0 rfl) ?_
  refine M_g0_2 hx hb hA hown aF_RX9_68 hK hP dX9_undo_2 ?_
  refine lv_if_ne (tgt := 12) hx hb dX9_undo_5 (by decide) (fun hc => ?_) (fun hc => ?_)
  · replace h := oi_f hc h
    refine lv_iconst (v := 0) hx hb dX9_undo_12 (by decide) ?_
    exact hJ13 _ _ _ _ _ h hP hS (lv_sub hl [0] rfl)
  · replace h := oi_t hc h
    refine lv_iconst (v := 1) hx hb dX9_undo_8 (by decide) ?_
    refine lv_goto (tgt := 13) hx hb dX9_undo_9 (by decide) ?_
    exact hJ13 _ _ _ _ _ h hP hS (lv_sub hl [0] rfl)
theorem k_X9_undo {p : Program} {l : Launch} {e : Env} {R : Room} {s : State} {m : MethodId} {args : Array Value} {below : List Frame} {meth : Method} {c : Code} {H : Heap} {locs : List Loc} {cells slots : Nat} {Q : State → Prop} {cc : ByteArray} {pc nL idx : Nat} {ls : Array Slot} {rest : List Value} {own : String} {D : va_G} {cI : ClassId} {a : Nat → Nat} {H0 : Heap} {N : Nat} {φ : M2} {hv : Int64} {r0 : Int32} {φr : M2} (S : CallFix p m c cc nL s args AW own) (h1 : Cond.methodLink own idx yX9_undo ∈ AW) (hR : 1 + 1 ≤ R.frames ∧ 8 + (1 + 11) + 22 ≤ R.locals) (hc : cells ≤ R.cells ∧ slots ≤ R.slots) (hP : va_P D vwCl (mbW cI a φ hv) H) (hK : va_K D vwCl [(cI, .int)] s) (hDT : ∀ (φ2 : M2) (hv2 : Int64), va_D (fun _ => True) (mbW cI a φ2 hv2)) (hS : va_S (mbA a) H0 H locs) (hF : G_X9_undo N φ = some (r0, φr)) (hsz : ls.size = nL) (hW : (rest.map fun v => v.category).sum ≤ 8) (hdg : decode cc pc = .ok (.invokevirtual idx, 3)) (kk : ∀ (H1 : Heap) (locs1 : List Loc), va_P D vwCl (mbW cI a φr hv) H1 → va_S (mbA a) H0 H1 locs1 → W p l e R s m args below meth c H1 locs1 cells slots Q (F0 m (pc + 3) ls (.int r0 :: rest))) : W p l e R s m args below meth c H locs cells slots Q (F0 m pc ls (.ref (a 0) :: rest)) :=
  fm_runVi (n := 0) (C := RX9) (As := []) S (c_X9_undo l D cI a N φ hv r0 φr hF) (M_pre (q0 := 0) (ci := 7) hK hP (hDT _ _) rfl rfl) hS h1 aI_X9_undo aV_X9_undo aN_RX9 aC_X9_undo rfl rfl (by decide +kernel) rfl hR hc hsz hW hdg (fun r H1 locs1 hr hP1 hS1 => by subst hr; exact kk H1 locs1 hP1 hS1)
set_option maxHeartbeats 4000000 in
set_option maxRecDepth 100000 in
theorem c_X9_mix (l : Launch) (D : va_G) (cI : ClassId) (a : Nat → Nat) (φ : M2) (p1 : Int64) (hv : Int64) (φr : M2) (hvr : Int64) (hF : G_X9_mix φ hv p1 = some (φr, hvr)) : Met l yX9_mix (wsA yX9_mix cX9_mix 3 none) { frames := 0, cells := 0, slots := 0, locals := 0 } (va_Pc [.ref (a 0), .long p1] (mbP D cI a φ hv)) (va_Qv (fun (_ : Unit) => True) (fun _ t => va_P D vwCl (mbW cI a φr hvr) t.heap) (mbA a)) 0 0 (mbA a) := by
  refine Met.ofW (cc := cX9_mix) (maxL := 3) (ret := none) (by decide) rfl ?_
  intro p e s m args below meth c s₁ B hml hpre
  obtain ⟨rfl, hP, hK, hD0⟩ := hpre
  have hx := B.exec
  have hb := B.bytes
  have hr := B.returns
  have hA : ∀ w ∈ AW, w.before _ s = true := fun w h => atoms_spec (ws := wsA yX9_mix cX9_mix 3 none) B.pre w (List.mem_cons_of_mem _ h)
  have hown : s.vm.findClass RX9 = some m.cls := findClass_of_methodNamed B.named
  have hlocks := B.notSynchronized
  have hDT := M_dT hD0
  have hDA := M_dA hD0
  have hS : va_S (mbA a) s.heap s.heap [] := va_S.rf
  have S : CallFix p m c cX9_mix 3 s ([.ref (a 0), .long p1] : List Value).toArray AW RX9 := ⟨hx, hb, hml, hown, hA⟩
  have hl := lv_entry ([.ref (a 0), .long p1]) (n := 3) (Nat.le_of_ble_eq_true rfl)
  rw [lg_entry_eq]
  generalize (lg_sl ([.ref (a 0), .long p1]) ++ List.replicate (3 - (lg_sl ([.ref (a 0), .long p1])).length) Slot.unset).toArray = ls at hl ⊢
  have hl : lv_has ls 3 [(0, .ref (a 0)), (1, .long p1)] := hl
  have h := hF
  unfold G_X9_mix at h
  refine lv_aload_n hx hb dX9_mix_0 rfl (lv_at hl 0 rfl) ?_
  refine lv_ldc2 hx hb hown (hA _ aK_RX9_292) dX9_mix_1 ?_
  refine lv_aload_n hx hb dX9_mix_4 rfl (lv_at hl 0 rfl) ?_
  refine M_g0_28 hx hb hA hown aF_RX9_294 hK hP dX9_mix_5 ?_
  refine lv_lmul hx hb dX9_mix_8 ?_
  refine lv_lload_n hx hb dX9_mix_9 rfl (lv_at hl 1 rfl) ?_
  refine lv_ladd hx hb dX9_mix_10 ?_
  refine M_p0_28 hx hb hA hown aF_RX9_294 hK hP (hDA _ _) hS dX9_mix_11 (fun H locs hP hS => ?_)
  obtain ⟨rfl, rfl⟩ := os2 h
  exact W.vret hx hb hr (fun t ht hW => ⟨⟨(), rfl, trivial, by show va_P _ _ _ t.heap; rw [ht]; exact hP⟩, hS.F ht⟩) hS.2.2 dX9_mix_14
theorem k_X9_mix {p : Program} {l : Launch} {e : Env} {R : Room} {s : State} {m : MethodId} {args : Array Value} {below : List Frame} {meth : Method} {c : Code} {H : Heap} {locs : List Loc} {cells slots : Nat} {Q : State → Prop} {cc : ByteArray} {pc nL idx : Nat} {ls : Array Slot} {rest : List Value} {own : String} {D : va_G} {cI : ClassId} {a : Nat → Nat} {H0 : Heap} {φ : M2} {p1 : Int64} {hv : Int64} {φr : M2} {hvr : Int64} (S : CallFix p m c cc nL s args AW own) (h1 : Cond.methodLink own idx yX9_mix ∈ AW) (hR : 0 + 1 ≤ R.frames ∧ 8 + (3 + 11) + 0 ≤ R.locals) (hc : cells ≤ R.cells ∧ slots ≤ R.slots) (hP : va_P D vwCl (mbW cI a φ hv) H) (hK : va_K D vwCl [(cI, .int)] s) (hDT : ∀ (φ2 : M2) (hv2 : Int64), va_D (fun _ => True) (mbW cI a φ2 hv2)) (hS : va_S (mbA a) H0 H locs) (hF : G_X9_mix φ hv p1 = some (φr, hvr)) (hsz : ls.size = nL) (hW : (rest.map fun v => v.category).sum ≤ 8) (hdg : decode cc pc = .ok (.invokevirtual idx, 3)) (kk : ∀ (H1 : Heap) (locs1 : List Loc), va_P D vwCl (mbW cI a φr hvr) H1 → va_S (mbA a) H0 H1 locs1 → W p l e R s m args below meth c H1 locs1 cells slots Q (F0 m (pc + 3) ls (rest))) : W p l e R s m args below meth c H locs cells slots Q (F0 m pc ls (.long p1 :: .ref (a 0) :: rest)) :=
  fm_runVv (n := 1) (C := RX9) (As := [.long p1]) S (c_X9_mix l D cI a φ p1 hv φr hvr hF) (M_pre (q0 := 0) (ci := 7) hK hP (hDT _ _) rfl rfl) hS h1 aI_X9_mix aV_X9_mix aN_RX9 aC_X9_mix rfl rfl (by decide +kernel) rfl hR hc hsz hW hdg (fun H1 locs1 hP1 hS1 => kk H1 locs1 hP1 hS1)
set_option maxHeartbeats 4000000 in
set_option maxRecDepth 100000 in
theorem c_X9_digest (l : Launch) (D : va_G) (cI : ClassId) (a : Nat → Nat) (N : Nat) (φ : M2) (hv : Int64) (r0 : Int64) (φr : M2) (hvr : Int64) (hF : G_X9_digest N φ hv = some (r0, φr, hvr)) : Met l yX9_digest (wsA yX9_digest cX9_digest 3 (some .long)) { frames := 7, cells := 0, slots := 0, locals := 160 } (va_Pc [.ref (a 0)] (mbP D cI a φ hv)) (va_Ql (fun (r : Int64) (_ : Unit) => r = r0) (fun _ t => va_P D vwCl (mbW cI a φr hvr) t.heap) (mbA a)) 0 0 (mbA a) := by
  refine Met.ofW (cc := cX9_digest) (maxL := 3) (ret := (some .long)) (by decide) rfl ?_
  intro p e s m args below meth c s₁ B hml hpre
  obtain ⟨rfl, hP, hK, hD0⟩ := hpre
  have hx := B.exec
  have hb := B.bytes
  have hr := B.returns
  have hA : ∀ w ∈ AW, w.before _ s = true := fun w h => atoms_spec (ws := wsA yX9_digest cX9_digest 3 (some .long)) B.pre w (List.mem_cons_of_mem _ h)
  have hown : s.vm.findClass RX9 = some m.cls := findClass_of_methodNamed B.named
  have hlocks := B.notSynchronized
  have hDT := M_dT hD0
  have hDA := M_dA hD0
  have hS : va_S (mbA a) s.heap s.heap [] := va_S.rf
  have S : CallFix p m c cX9_digest 3 s ([.ref (a 0)] : List Value).toArray AW RX9 := ⟨hx, hb, hml, hown, hA⟩
  have hl := lv_entry ([.ref (a 0)]) (n := 3) (Nat.le_of_ble_eq_true rfl)
  rw [lg_entry_eq]
  generalize (lg_sl ([.ref (a 0)]) ++ List.replicate (3 - (lg_sl ([.ref (a 0)])).length) Slot.unset).toArray = ls at hl ⊢
  have hl : lv_has ls 3 [(0, .ref (a 0))] := hl
  have hL14 : ∀ (k : Nat) (v1 : Int32) (φ : M2) (hv : Int64) (H : Heap) (locs : List Loc) (ls : Array Slot) (φo : M2) (hvo : Int64), L_X9_digest_14 N k v1 φ hv = some (φo, hvo) → va_P D vwCl (mbW cI a φ hv) H → va_S (mbA a) s.heap H locs → lv_has ls 3 [(0, .ref (a 0)), (1, .int v1)] → (∀ (H1 : Heap) (locs1 : List Loc) (ls1 : Array Slot), va_P D vwCl (mbW cI a φo hvo) H1 → va_S (mbA a) s.heap H1 locs1 → lv_has ls1 3 [(0, .ref (a 0))] → W p l e (headSpec (wsA yX9_digest cX9_digest 3 (some .long)) { frames := 7, cells := 0, slots := 0, locals := 160 }).room s m ([.ref (a 0)] : List Value).toArray below meth c H1 locs1 0 0 (MQ below (va_Ql (fun (r : Int64) (_ : Unit) => r = r0) (fun _ t => va_P D vwCl (mbW cI a φr hvr) t.heap) (mbA a)) ([.ref (a 0)] : List Value).toArray s 0 0 (mbA a)) (F0 m 36 ls1 [])) → W p l e (headSpec (wsA yX9_digest cX9_digest 3 (some .long)) { frames := 7, cells := 0, slots := 0, locals := 160 }).room s m ([.ref (a 0)] : List Value).toArray below meth c H locs 0 0 (MQ below (va_Ql (fun (r : Int64) (_ : Unit) => r = r0) (fun _ t => va_P D vwCl (mbW cI a φr hvr) t.heap) (mbA a)) ([.ref (a 0)] : List Value).toArray s 0 0 (mbA a)) (F0 m 14 ls []) := by
    intro k
    induction k with
    | zero =>
      intro v1 φ hv H locs ls φo hvo h hP hS hl kk
      exact no_s h
    | succ k ih =>
      intro v1 φ hv H locs ls φo hvo h hP hS hl kk
      replace h : B_X9_digest_14 N (L_X9_digest_14 N k) v1 φ hv = some (φo, hvo) := h
      unfold B_X9_digest_14 at h
      refine lv_iload_n hx hb dX9_digest_14 rfl (lv_at hl 1 rfl) ?_
      refine lv_bipush (v := 9) hx hb dX9_digest_15 (by decide) ?_
      refine lv_icmp_ge (tgt := 36) hx hb dX9_digest_17 (by decide) (fun hc => ?_) (fun hc => ?_)
      · replace h := oi_t hc h
        obtain ⟨rfl, rfl⟩ := os2 h
        exact kk _ _ _ hP hS (lv_sub hl [0] rfl)
      · replace h := oi_f hc h
        refine lv_aload_n hx hb dX9_digest_20 rfl (lv_at hl 0 rfl) ?_
        refine lv_aload_n hx hb dX9_digest_21 rfl (lv_at hl 0 rfl) ?_
        refine lv_iload_n hx hb dX9_digest_22 rfl (lv_at hl 1 rfl) ?_
        obtain ⟨r2, h3, h⟩ := obd_e h
        refine k_X9_infoOf S aM_RX9_241 ⟨Nat.le_of_ble_eq_true rfl, Nat.le_of_ble_eq_true rfl⟩ ⟨Nat.zero_le _, Nat.zero_le _⟩ hP hK hDT h3 hl.1 (Nat.le_of_ble_eq_true rfl) dX9_digest_23 ?_
        refine lv_i2l hx hb dX9_digest_26 rfl ?_
        obtain ⟨w4, u6, h5, h⟩ := obd2_e h
        refine k_X9_mix S aM_RX9_300 ⟨Nat.le_of_ble_eq_true rfl, Nat.le_of_ble_eq_true rfl⟩ ⟨Nat.zero_le _, Nat.zero_le _⟩ hP hK hDT hS h5 hl.1 (Nat.le_of_ble_eq_true rfl) dX9_digest_27 (fun H locs hP hS => ?_)
        refine lv_iinc (v := v1 + 1) (lv' := [(1, .int (v1 + 1)), (0, .ref (a 0))]) hx hb dX9_digest_30 hl (k := 1) rfl (fm_inc _ _ _ (by decide)) (by decide) rfl (fun ls hl => ?_)
        refine lv_goto (tgt := 14) hx hb dX9_digest_33 (by decide) ?_
        exact ih _ _ _ _ _ _ _ _ h hP hS (lv_sub hl [1, 0] rfl) kk
  have hL48 : ∀ (k : Nat) (v1 : Int32) (v2 : Int32) (φ : M2) (hv : Int64) (H : Heap) (locs : List Loc) (ls : Array Slot) (φo : M2) (hvo : Int64), L_X9_digest_48 N v1 k v2 φ hv = some (φo, hvo) → va_P D vwCl (mbW cI a φ hv) H → va_S (mbA a) s.heap H locs → lv_has ls 3 [(0, .ref (a 0)), (1, .int v1), (2, .int v2)] → (∀ (H1 : Heap) (locs1 : List Loc) (ls1 : Array Slot), va_P D vwCl (mbW cI a φo hvo) H1 → va_S (mbA a) s.heap H1 locs1 → lv_has ls1 3 [(0, .ref (a 0)), (1, .int v1)] → W p l e (headSpec (wsA yX9_digest cX9_digest 3 (some .long)) { frames := 7, cells := 0, slots := 0, locals := 160 }).room s m ([.ref (a 0)] : List Value).toArray below meth c H1 locs1 0 0 (MQ below (va_Ql (fun (r : Int64) (_ : Unit) => r = r0) (fun _ t => va_P D vwCl (mbW cI a φr hvr) t.heap) (mbA a)) ([.ref (a 0)] : List Value).toArray s 0 0 (mbA a)) (F0 m 83 ls1 [])) → W p l e (headSpec (wsA yX9_digest cX9_digest 3 (some .long)) { frames := 7, cells := 0, slots := 0, locals := 160 }).room s m ([.ref (a 0)] : List Value).toArray below meth c H locs 0 0 (MQ below (va_Ql (fun (r : Int64) (_ : Unit) => r = r0) (fun _ t => va_P D vwCl (mbW cI a φr hvr) t.heap) (mbA a)) ([.ref (a 0)] : List Value).toArray s 0 0 (mbA a)) (F0 m 48 ls []) := by
    intro k
    induction k with
    | zero =>
      intro v1 v2 φ hv H locs ls φo hvo h hP hS hl kk
      exact no_s h
    | succ k ih =>
      intro v1 v2 φ hv H locs ls φo hvo h hP hS hl kk
      replace h : B_X9_digest_48 N v1 (L_X9_digest_48 N v1 k) v2 φ hv = some (φo, hvo) := h
      unfold B_X9_digest_48 at h
      refine lv_iload_n hx hb dX9_digest_48 rfl (lv_at hl 2 rfl) ?_
      refine lv_iconst (v := 4) hx hb dX9_digest_49 (by decide) ?_
      refine lv_aload_n hx hb dX9_digest_50 rfl (lv_at hl 0 rfl) ?_
      refine M_g0_0 hx hb hA hown aF_RX9_7 hK hP dX9_digest_51 ?_
      refine lv_iconst (v := 1) hx hb dX9_digest_54 (by decide) ?_
      obtain ⟨i12, h⟩ := oin_e h
      refine M_ld1 hx hb hK hP i12 dX9_digest_55 ?_
      refine lv_imul hx hb dX9_digest_56 ?_
      refine lv_icmp_ge (tgt := 83) hx hb dX9_digest_57 (by decide) (fun hc => ?_) (fun hc => ?_)
      · replace h := oi_t hc h
        obtain ⟨rfl, rfl⟩ := os2 h
        exact kk _ _ _ hP hS (lv_sub hl [0, 1] rfl)
      · replace h := oi_f hc h
        refine lv_aload_n hx hb dX9_digest_60 rfl (lv_at hl 0 rfl) ?_
        refine lv_aload_n hx hb dX9_digest_61 rfl (lv_at hl 0 rfl) ?_
        refine M_g0_0 hx hb hA hown aF_RX9_7 hK hP dX9_digest_62 ?_
        refine lv_iload_n hx hb dX9_digest_65 rfl (lv_at hl 1 rfl) ?_
        refine lv_iconst (v := 0) hx hb dX9_digest_66 (by decide) ?_
        refine k_X9_at S aM_RX9_117 ⟨Nat.le_of_ble_eq_true rfl, Nat.le_of_ble_eq_true rfl⟩ ⟨Nat.zero_le _, Nat.zero_le _⟩ hl.1 (Nat.le_of_ble_eq_true rfl) dX9_digest_67 (fun r13 er13 => ?_)
        replace h := olet_s er13 h
        refine lv_iload_n hx hb dX9_digest_70 rfl (lv_at hl 2 rfl) ?_
        refine lv_iadd hx hb dX9_digest_71 ?_
        obtain ⟨i14, h⟩ := oin_e h
        refine M_ld1 hx hb hK hP i14 dX9_digest_72 ?_
        refine lv_i2l hx hb dX9_digest_73 rfl ?_
        obtain ⟨w15, u17, h16, h⟩ := obd2_e h
        refine k_X9_mix S aM_RX9_300 ⟨Nat.le_of_ble_eq_true rfl, Nat.le_of_ble_eq_true rfl⟩ ⟨Nat.zero_le _, Nat.zero_le _⟩ hP hK hDT hS h16 hl.1 (Nat.le_of_ble_eq_true rfl) dX9_digest_74 (fun H locs hP hS => ?_)
        refine lv_iinc (v := v2 + 1) (lv' := [(2, .int (v2 + 1)), (0, .ref (a 0)), (1, .int v1)]) hx hb dX9_digest_77 hl (k := 2) rfl (fm_inc _ _ _ (by decide)) (by decide) rfl (fun ls hl => ?_)
        refine lv_goto (tgt := 48) hx hb dX9_digest_80 (by decide) ?_
        exact ih _ _ _ _ _ _ _ _ _ h hP hS (lv_sub hl [1, 2, 0] rfl) kk
  have hL38 : ∀ (k : Nat) (v1 : Int32) (φ : M2) (hv : Int64) (H : Heap) (locs : List Loc) (ls : Array Slot) (φo : M2) (hvo : Int64), L_X9_digest_38 N k v1 φ hv = some (φo, hvo) → va_P D vwCl (mbW cI a φ hv) H → va_S (mbA a) s.heap H locs → lv_has ls 3 [(0, .ref (a 0)), (1, .int v1)] → (∀ (H1 : Heap) (locs1 : List Loc) (ls1 : Array Slot), va_P D vwCl (mbW cI a φo hvo) H1 → va_S (mbA a) s.heap H1 locs1 → lv_has ls1 3 [(0, .ref (a 0))] → W p l e (headSpec (wsA yX9_digest cX9_digest 3 (some .long)) { frames := 7, cells := 0, slots := 0, locals := 160 }).room s m ([.ref (a 0)] : List Value).toArray below meth c H1 locs1 0 0 (MQ below (va_Ql (fun (r : Int64) (_ : Unit) => r = r0) (fun _ t => va_P D vwCl (mbW cI a φr hvr) t.heap) (mbA a)) ([.ref (a 0)] : List Value).toArray s 0 0 (mbA a)) (F0 m 89 ls1 [])) → W p l e (headSpec (wsA yX9_digest cX9_digest 3 (some .long)) { frames := 7, cells := 0, slots := 0, locals := 160 }).room s m ([.ref (a 0)] : List Value).toArray below meth c H locs 0 0 (MQ below (va_Ql (fun (r : Int64) (_ : Unit) => r = r0) (fun _ t => va_P D vwCl (mbW cI a φr hvr) t.heap) (mbA a)) ([.ref (a 0)] : List Value).toArray s 0 0 (mbA a)) (F0 m 38 ls []) := by
    intro k
    induction k with
    | zero =>
      intro v1 φ hv H locs ls φo hvo h hP hS hl kk
      exact no_s h
    | succ k ih =>
      intro v1 φ hv H locs ls φo hvo h hP hS hl kk
      replace h : B_X9_digest_38 N (L_X9_digest_38 N k) v1 φ hv = some (φo, hvo) := h
      unfold B_X9_digest_38 at h
      refine lv_iload_n hx hb dX9_digest_38 rfl (lv_at hl 1 rfl) ?_
      refine lv_aload_n hx hb dX9_digest_39 rfl (lv_at hl 0 rfl) ?_
      obtain ⟨r10, h11, h⟩ := obd_e h
      refine k_X9_buckets S aM_RX9_104 ⟨Nat.le_of_ble_eq_true rfl, Nat.le_of_ble_eq_true rfl⟩ ⟨Nat.zero_le _, Nat.zero_le _⟩ hP hK hDT h11 hl.1 (Nat.le_of_ble_eq_true rfl) dX9_digest_40 ?_
      refine lv_icmp_ge (tgt := 89) hx hb dX9_digest_43 (by decide) (fun hc => ?_) (fun hc => ?_)
      · replace h := oi_t hc h
        obtain ⟨rfl, rfl⟩ := os2 h
        exact kk _ _ _ hP hS (lv_sub hl [0] rfl)
      · replace h := oi_f hc h
        refine lv_iconst (v := 0) hx hb dX9_digest_46 (by decide) ?_
        refine lv_istore_n (lv' := [(2, .int 0), (0, .ref (a 0)), (1, .int v1)]) hx hb dX9_digest_47 rfl hl (by decide) rfl (fun ls hl => ?_)
        obtain ⟨w18, u19, h20, h⟩ := obd2_e h
        refine hL48 N _ _ _ _ _ _ _ _ _ h20 hP hS (lv_sub hl [1, 2, 0] rfl) (fun H locs ls hP hS hl => ?_)
        refine lv_iinc (v := v1 + 1) (lv' := [(1, .int (v1 + 1)), (0, .ref (a 0))]) hx hb dX9_digest_83 hl (k := 1) rfl (fm_inc _ _ _ (by decide)) (by decide) rfl (fun ls hl => ?_)
        refine lv_goto (tgt := 38) hx hb dX9_digest_86 (by decide) ?_
        exact ih _ _ _ _ _ _ _ _ h hP hS (lv_sub hl [1, 0] rfl) kk
  have hL91 : ∀ (k : Nat) (v1 : Int32) (φ : M2) (hv : Int64) (H : Heap) (locs : List Loc) (ls : Array Slot) (φo : M2) (hvo : Int64), L_X9_digest_91 N k v1 φ hv = some (φo, hvo) → va_P D vwCl (mbW cI a φ hv) H → va_S (mbA a) s.heap H locs → lv_has ls 3 [(0, .ref (a 0)), (1, .int v1)] → (∀ (H1 : Heap) (locs1 : List Loc) (ls1 : Array Slot), va_P D vwCl (mbW cI a φo hvo) H1 → va_S (mbA a) s.heap H1 locs1 → lv_has ls1 3 [(0, .ref (a 0))] → W p l e (headSpec (wsA yX9_digest cX9_digest 3 (some .long)) { frames := 7, cells := 0, slots := 0, locals := 160 }).room s m ([.ref (a 0)] : List Value).toArray below meth c H1 locs1 0 0 (MQ below (va_Ql (fun (r : Int64) (_ : Unit) => r = r0) (fun _ t => va_P D vwCl (mbW cI a φr hvr) t.heap) (mbA a)) ([.ref (a 0)] : List Value).toArray s 0 0 (mbA a)) (F0 m 123 ls1 [])) → W p l e (headSpec (wsA yX9_digest cX9_digest 3 (some .long)) { frames := 7, cells := 0, slots := 0, locals := 160 }).room s m ([.ref (a 0)] : List Value).toArray below meth c H locs 0 0 (MQ below (va_Ql (fun (r : Int64) (_ : Unit) => r = r0) (fun _ t => va_P D vwCl (mbW cI a φr hvr) t.heap) (mbA a)) ([.ref (a 0)] : List Value).toArray s 0 0 (mbA a)) (F0 m 91 ls []) := by
    intro k
    induction k with
    | zero =>
      intro v1 φ hv H locs ls φo hvo h hP hS hl kk
      exact no_s h
    | succ k ih =>
      intro v1 φ hv H locs ls φo hvo h hP hS hl kk
      replace h : B_X9_digest_91 N (L_X9_digest_91 N k) v1 φ hv = some (φo, hvo) := h
      unfold B_X9_digest_91 at h
      refine lv_iload_n hx hb dX9_digest_91 rfl (lv_at hl 1 rfl) ?_
      refine lv_iconst (v := 4) hx hb dX9_digest_92 (by decide) ?_
      refine lv_aload_n hx hb dX9_digest_93 rfl (lv_at hl 0 rfl) ?_
      refine M_g0_0 hx hb hA hown aF_RX9_7 hK hP dX9_digest_94 ?_
      refine lv_iconst (v := 5) hx hb dX9_digest_97 (by decide) ?_
      obtain ⟨i24, h⟩ := oin_e h
      refine M_ld1 hx hb hK hP i24 dX9_digest_98 ?_
      refine lv_imul hx hb dX9_digest_99 ?_
      refine lv_icmp_ge (tgt := 123) hx hb dX9_digest_100 (by decide) (fun hc => ?_) (fun hc => ?_)
      · replace h := oi_t hc h
        obtain ⟨rfl, rfl⟩ := os2 h
        exact kk _ _ _ hP hS (lv_sub hl [0] rfl)
      · replace h := oi_f hc h
        refine lv_aload_n hx hb dX9_digest_103 rfl (lv_at hl 0 rfl) ?_
        refine lv_aload_n hx hb dX9_digest_104 rfl (lv_at hl 0 rfl) ?_
        refine M_g0_0 hx hb hA hown aF_RX9_7 hK hP dX9_digest_105 ?_
        refine lv_bipush (v := 6) hx hb dX9_digest_108 (by decide) ?_
        refine lv_iload_n hx hb dX9_digest_110 rfl (lv_at hl 1 rfl) ?_
        refine lv_iadd hx hb dX9_digest_111 ?_
        obtain ⟨i25, h⟩ := oin_e h
        refine M_ld1 hx hb hK hP i25 dX9_digest_112 ?_
        refine lv_i2l hx hb dX9_digest_113 rfl ?_
        obtain ⟨w26, u28, h27, h⟩ := obd2_e h
        refine k_X9_mix S aM_RX9_300 ⟨Nat.le_of_ble_eq_true rfl, Nat.le_of_ble_eq_true rfl⟩ ⟨Nat.zero_le _, Nat.zero_le _⟩ hP hK hDT hS h27 hl.1 (Nat.le_of_ble_eq_true rfl) dX9_digest_114 (fun H locs hP hS => ?_)
        refine lv_iinc (v := v1 + 1) (lv' := [(1, .int (v1 + 1)), (0, .ref (a 0))]) hx hb dX9_digest_117 hl (k := 1) rfl (fm_inc _ _ _ (by decide)) (by decide) rfl (fun ls hl => ?_)
        refine lv_goto (tgt := 91) hx hb dX9_digest_120 (by decide) ?_
        exact ih _ _ _ _ _ _ _ _ h hP hS (lv_sub hl [1, 0] rfl) kk
  have hL138 : ∀ (k : Nat) (v1 : Int32) (φ : M2) (hv : Int64) (H : Heap) (locs : List Loc) (ls : Array Slot) (φo : M2) (hvo : Int64), L_X9_digest_138 N k v1 φ hv = some (φo, hvo) → va_P D vwCl (mbW cI a φ hv) H → va_S (mbA a) s.heap H locs → lv_has ls 3 [(0, .ref (a 0)), (1, .int v1)] → (∀ (H1 : Heap) (locs1 : List Loc) (ls1 : Array Slot), va_P D vwCl (mbW cI a φo hvo) H1 → va_S (mbA a) s.heap H1 locs1 → lv_has ls1 3 [(0, .ref (a 0))] → W p l e (headSpec (wsA yX9_digest cX9_digest 3 (some .long)) { frames := 7, cells := 0, slots := 0, locals := 160 }).room s m ([.ref (a 0)] : List Value).toArray below meth c H1 locs1 0 0 (MQ below (va_Ql (fun (r : Int64) (_ : Unit) => r = r0) (fun _ t => va_P D vwCl (mbW cI a φr hvr) t.heap) (mbA a)) ([.ref (a 0)] : List Value).toArray s 0 0 (mbA a)) (F0 m 171 ls1 [])) → W p l e (headSpec (wsA yX9_digest cX9_digest 3 (some .long)) { frames := 7, cells := 0, slots := 0, locals := 160 }).room s m ([.ref (a 0)] : List Value).toArray below meth c H locs 0 0 (MQ below (va_Ql (fun (r : Int64) (_ : Unit) => r = r0) (fun _ t => va_P D vwCl (mbW cI a φr hvr) t.heap) (mbA a)) ([.ref (a 0)] : List Value).toArray s 0 0 (mbA a)) (F0 m 138 ls []) := by
    intro k
    induction k with
    | zero =>
      intro v1 φ hv H locs ls φo hvo h hP hS hl kk
      exact no_s h
    | succ k ih =>
      intro v1 φ hv H locs ls φo hvo h hP hS hl kk
      replace h : B_X9_digest_138 N (L_X9_digest_138 N k) v1 φ hv = some (φo, hvo) := h
      unfold B_X9_digest_138 at h
      refine lv_iload_n hx hb dX9_digest_138 rfl (lv_at hl 1 rfl) ?_
      refine lv_aload_n hx hb dX9_digest_139 rfl (lv_at hl 0 rfl) ?_
      refine M_g0_0 hx hb hA hown aF_RX9_7 hK hP dX9_digest_140 ?_
      refine lv_sipush (v := 1042) hx hb dX9_digest_143 (by decide) ?_
      obtain ⟨i36, h⟩ := oin_e h
      refine M_ld1 hx hb hK hP i36 dX9_digest_146 ?_
      refine lv_icmp_ge (tgt := 171) hx hb dX9_digest_147 (by decide) (fun hc => ?_) (fun hc => ?_)
      · replace h := oi_t hc h
        obtain ⟨rfl, rfl⟩ := os2 h
        exact kk _ _ _ hP hS (lv_sub hl [0] rfl)
      · replace h := oi_f hc h
        refine lv_aload_n hx hb dX9_digest_150 rfl (lv_at hl 0 rfl) ?_
        refine lv_aload_n hx hb dX9_digest_151 rfl (lv_at hl 0 rfl) ?_
        refine M_g0_0 hx hb hA hown aF_RX9_7 hK hP dX9_digest_152 ?_
        refine lv_sipush (v := 1043) hx hb dX9_digest_155 (by decide) ?_
        refine lv_iload_n hx hb dX9_digest_158 rfl (lv_at hl 1 rfl) ?_
        refine lv_iadd hx hb dX9_digest_159 ?_
        obtain ⟨i37, h⟩ := oin_e h
        refine M_ld1 hx hb hK hP i37 dX9_digest_160 ?_
        refine lv_i2l hx hb dX9_digest_161 rfl ?_
        obtain ⟨w38, u40, h39, h⟩ := obd2_e h
        refine k_X9_mix S aM_RX9_300 ⟨Nat.le_of_ble_eq_true rfl, Nat.le_of_ble_eq_true rfl⟩ ⟨Nat.zero_le _, Nat.zero_le _⟩ hP hK hDT hS h39 hl.1 (Nat.le_of_ble_eq_true rfl) dX9_digest_162 (fun H locs hP hS => ?_)
        refine lv_iinc (v := v1 + 1) (lv' := [(1, .int (v1 + 1)), (0, .ref (a 0))]) hx hb dX9_digest_165 hl (k := 1) rfl (fm_inc _ _ _ (by decide)) (by decide) rfl (fun ls hl => ?_)
        refine lv_goto (tgt := 138) hx hb dX9_digest_168 (by decide) ?_
        exact ih _ _ _ _ _ _ _ _ h hP hS (lv_sub hl [1, 0] rfl) kk
  have h := hF
  unfold G_X9_digest at h
  refine lv_aload_n hx hb dX9_digest_0 rfl (lv_at hl 0 rfl) ?_
  refine lv_iconst (v := 0) hx hb dX9_digest_1 (by decide) ?_
  refine M_p0_5 hx hb hA hown aF_RX9_64 hK hP (hDA _ _) hS dX9_digest_2 (fun w1 H locs ew1 hP hS => ?_)
  replace h := olet_s ew1 h
  refine lv_aload_n hx hb dX9_digest_5 rfl (lv_at hl 0 rfl) ?_
  refine lv_ldc2 hx hb hown (hA _ aK_RX9_298) dX9_digest_6 ?_
  refine M_p0_28 hx hb hA hown aF_RX9_294 hK hP (hDA _ _) hS dX9_digest_9 (fun H locs hP hS => ?_)
  refine lv_iconst (v := 0) hx hb dX9_digest_12 (by decide) ?_
  refine lv_istore_n (lv' := [(1, .int 0), (0, .ref (a 0))]) hx hb dX9_digest_13 rfl hl (by decide) rfl (fun ls hl => ?_)
  obtain ⟨w7, u8, h9, h⟩ := obd2_e h
  refine hL14 N _ _ _ _ _ _ _ _ h9 hP hS (lv_sub hl [1, 0] rfl) (fun H locs ls hP hS hl => ?_)
  refine lv_iconst (v := 0) hx hb dX9_digest_36 (by decide) ?_
  refine lv_istore_n (lv' := [(1, .int 0), (0, .ref (a 0))]) hx hb dX9_digest_37 rfl hl (by decide) rfl (fun ls hl => ?_)
  obtain ⟨w21, u22, h23, h⟩ := obd2_e h
  refine hL38 N _ _ _ _ _ _ _ _ h23 hP hS (lv_sub hl [1, 0] rfl) (fun H locs ls hP hS hl => ?_)
  refine lv_iconst (v := 0) hx hb dX9_digest_89 (by decide) ?_
  refine lv_istore_n (lv' := [(1, .int 0), (0, .ref (a 0))]) hx hb dX9_digest_90 rfl hl (by decide) rfl (fun ls hl => ?_)
  obtain ⟨w29, u30, h31, h⟩ := obd2_e h
  refine hL91 N _ _ _ _ _ _ _ _ h31 hP hS (lv_sub hl [1, 0] rfl) (fun H locs ls hP hS hl => ?_)
  refine lv_aload_n hx hb dX9_digest_123 rfl (lv_at hl 0 rfl) ?_
  refine lv_aload_n hx hb dX9_digest_124 rfl (lv_at hl 0 rfl) ?_
  refine M_g0_0 hx hb hA hown aF_RX9_7 hK hP dX9_digest_125 ?_
  refine lv_sipush (v := 1042) hx hb dX9_digest_128 (by decide) ?_
  obtain ⟨i32, h⟩ := oin_e h
  refine M_ld1 hx hb hK hP i32 dX9_digest_131 ?_
  refine lv_i2l hx hb dX9_digest_132 rfl ?_
  obtain ⟨w33, u35, h34, h⟩ := obd2_e h
  refine k_X9_mix S aM_RX9_300 ⟨Nat.le_of_ble_eq_true rfl, Nat.le_of_ble_eq_true rfl⟩ ⟨Nat.zero_le _, Nat.zero_le _⟩ hP hK hDT hS h34 hl.1 (Nat.le_of_ble_eq_true rfl) dX9_digest_133 (fun H locs hP hS => ?_)
  refine lv_iconst (v := 0) hx hb dX9_digest_136 (by decide) ?_
  refine lv_istore_n (lv' := [(1, .int 0), (0, .ref (a 0))]) hx hb dX9_digest_137 rfl hl (by decide) rfl (fun ls hl => ?_)
  obtain ⟨w41, u42, h43, h⟩ := obd2_e h
  refine hL138 N _ _ _ _ _ _ _ _ h43 hP hS (lv_sub hl [1, 0] rfl) (fun H locs ls hP hS hl => ?_)
  refine lv_aload_n hx hb dX9_digest_171 rfl (lv_at hl 0 rfl) ?_
  refine lv_aload_n hx hb dX9_digest_172 rfl (lv_at hl 0 rfl) ?_
  refine lv_iconst (v := 0) hx hb dX9_digest_173 (by decide) ?_
  refine lv_sipush (v := 999) hx hb dX9_digest_174 (by decide) ?_
  obtain ⟨r44, h45, h⟩ := obd_e h
  refine k_X9_falseMany S aM_RX9_256 ⟨Nat.le_of_ble_eq_true rfl, Nat.le_of_ble_eq_true rfl⟩ ⟨Nat.zero_le _, Nat.zero_le _⟩ hP hK hDT h45 hl.1 (Nat.le_of_ble_eq_true rfl) dX9_digest_177 ?_
  refine lv_i2l hx hb dX9_digest_180 rfl ?_
  obtain ⟨w46, u48, h47, h⟩ := obd2_e h
  refine k_X9_mix S aM_RX9_300 ⟨Nat.le_of_ble_eq_true rfl, Nat.le_of_ble_eq_true rfl⟩ ⟨Nat.zero_le _, Nat.zero_le _⟩ hP hK hDT hS h47 hl.1 (Nat.le_of_ble_eq_true rfl) dX9_digest_181 (fun H locs hP hS => ?_)
  refine lv_aload_n hx hb dX9_digest_184 rfl (lv_at hl 0 rfl) ?_
  refine lv_aload_n hx hb dX9_digest_185 rfl (lv_at hl 0 rfl) ?_
  refine M_g0_4 hx hb hA hown aF_RX9_271 hK hP dX9_digest_186 ?_
  refine lv_i2l hx hb dX9_digest_189 rfl ?_
  obtain ⟨w49, u51, h50, h⟩ := obd2_e h
  refine k_X9_mix S aM_RX9_300 ⟨Nat.le_of_ble_eq_true rfl, Nat.le_of_ble_eq_true rfl⟩ ⟨Nat.zero_le _, Nat.zero_le _⟩ hP hK hDT hS h50 hl.1 (Nat.le_of_ble_eq_true rfl) dX9_digest_190 (fun H locs hP hS => ?_)
  refine lv_aload_n hx hb dX9_digest_193 rfl (lv_at hl 0 rfl) ?_
  refine lv_aload_n hx hb dX9_digest_194 rfl (lv_at hl 0 rfl) ?_
  refine M_g0_2 hx hb hA hown aF_RX9_68 hK hP dX9_digest_195 ?_
  refine lv_i2l hx hb dX9_digest_198 rfl ?_
  obtain ⟨w52, u54, h53, h⟩ := obd2_e h
  refine k_X9_mix S aM_RX9_300 ⟨Nat.le_of_ble_eq_true rfl, Nat.le_of_ble_eq_true rfl⟩ ⟨Nat.zero_le _, Nat.zero_le _⟩ hP hK hDT hS h53 hl.1 (Nat.le_of_ble_eq_true rfl) dX9_digest_199 (fun H locs hP hS => ?_)
  refine lv_aload_n hx hb dX9_digest_202 rfl (lv_at hl 0 rfl) ?_
  refine M_g0_28 hx hb hA hown aF_RX9_294 hK hP dX9_digest_203 ?_
  obtain ⟨rfl, rfl, rfl⟩ := os3 h
  exact W.lret (v := u54) hx hb hr (fun t ht hW => ⟨⟨_, (), rfl, rfl, by show va_P _ _ _ t.heap; rw [ht]; exact hP⟩, hS.F ht⟩) hS.2.2 dX9_digest_206
theorem k_X9_digest {p : Program} {l : Launch} {e : Env} {R : Room} {s : State} {m : MethodId} {args : Array Value} {below : List Frame} {meth : Method} {c : Code} {H : Heap} {locs : List Loc} {cells slots : Nat} {Q : State → Prop} {cc : ByteArray} {pc nL idx : Nat} {ls : Array Slot} {rest : List Value} {own : String} {D : va_G} {cI : ClassId} {a : Nat → Nat} {H0 : Heap} {N : Nat} {φ : M2} {hv : Int64} {r0 : Int64} {φr : M2} {hvr : Int64} (S : CallFix p m c cc nL s args AW own) (h1 : Cond.methodLink own idx yX9_digest ∈ AW) (hR : 7 + 1 ≤ R.frames ∧ 8 + (3 + 11) + 160 ≤ R.locals) (hc : cells ≤ R.cells ∧ slots ≤ R.slots) (hP : va_P D vwCl (mbW cI a φ hv) H) (hK : va_K D vwCl [(cI, .int)] s) (hDT : ∀ (φ2 : M2) (hv2 : Int64), va_D (fun _ => True) (mbW cI a φ2 hv2)) (hS : va_S (mbA a) H0 H locs) (hF : G_X9_digest N φ hv = some (r0, φr, hvr)) (hsz : ls.size = nL) (hW : (rest.map fun v => v.category).sum ≤ 8) (hdg : decode cc pc = .ok (.invokevirtual idx, 3)) (kk : ∀ (H1 : Heap) (locs1 : List Loc), va_P D vwCl (mbW cI a φr hvr) H1 → va_S (mbA a) H0 H1 locs1 → W p l e R s m args below meth c H1 locs1 cells slots Q (F0 m (pc + 3) ls (.long r0 :: rest))) : W p l e R s m args below meth c H locs cells slots Q (F0 m pc ls (.ref (a 0) :: rest)) :=
  fm_runVl (n := 0) (C := RX9) (As := []) S (c_X9_digest l D cI a N φ hv r0 φr hvr hF) (M_pre (q0 := 0) (ci := 7) hK hP (hDT _ _) rfl rfl) hS h1 aI_X9_digest aV_X9_digest aN_RX9 aC_X9_digest rfl rfl (by decide +kernel) rfl hR hc hsz hW hdg (fun r H1 locs1 hr hP1 hS1 => by subst hr; exact kk H1 locs1 hP1 hS1)
