/-! the law's helpers: the whole object, and the array of one long -/
abbrev wsH (y : MethodName) (cc : ByteArray) (n : Nat) (ret : Option FieldType) (hh : List (Nat × Nat × Nat × Nat)) : List Cond := .codeWith y cc n ret hh :: AW
def hWd (cI cF cL : ClassId) (b : Bf) (u0 u1 : M2) (η : HT) (τ : M2) (q : Nat) (f : Nat → Int64) : va_W := xW cI cF b u0 u1 η τ ++ [(q, .inl (cL, 1, .inr (.inl f)))]
abbrev hTy (cI cF cL : ClassId) : List (ClassId × FieldType) := [(cI, .int), (cF, .object "CuckooAudit$Filter"), (cL, .long)]
def hAd (b : Bf) (q : Nat) : Nat → Prop := fun x => xA b x ∨ x = q
def xNc (U : State) : Prop := va_Nc eIS eIA U ∧ va_Nc eIA eIO U
theorem xNc.moved {u U : State} (hvm : u.vm.Alike U.vm) (h : xNc u) : xNc U := ⟨va_Nc.moved hvm h.1, va_Nc.moved hvm h.2⟩
def hPd (D : va_G) (cI cF cL : ClassId) (b : Bf) (u0 u1 : M2) (η : HT) (τ : M2) (q : Nat) (f : Nat → Int64) (U : State) : Prop := va_P D vwCl (hWd cI cF cL b u0 u1 η τ q f) U.heap ∧ va_K D vwCl (hTy cI cF cL) U ∧ va_D (fun _ => True) (hWd cI cF cL b u0 u1 η τ q f) ∧ xT U ∧ xZ (hAd b q) U U.heap ∧ xNc U
/-- what a helper answers where its method ended in k0; a: what its first handler catches -/
def hkc (a k0 : Nat) : Int32 := if k0 = 0 then 0 else if k0 = a then 1 else 2
section HX
variable {p : Program} {l : Launch} {e : Env} {R : Room} {s : State} {m : MethodId} {args : Array Value} {below : List Frame} {meth : Method} {c : Code} {H H1 : Heap} {locs : List Loc} {cells slots : Nat} {Q : State → Prop} {cc : ByteArray} {pc nL idx : Nat} {ls : Array Slot} {rest : List Value} {own : String}
variable {D : va_G} {cI cF cL : ClassId} {b u : Bf} {u0 u1 : M2} {η : HT} {τ : M2} {q : Nat} {f : Nat → Int64} {H0 : Heap}
theorem hx_no (hD : va_D (fun _ => True) (hWd cI cF cL b u0 u1 η τ q f)) : ¬ xA b q := by
  intro h
  have h1 : q ∈ (xW cI cF b u0 u1 η τ).map (fun q => q.1) := h
  obtain ⟨e, he, hq⟩ := List.mem_map.mp h1
  obtain ⟨k, hk⟩ := List.getElem?_of_mem he
  have hlt : k < (xW cI cF b u0 u1 η τ).length := (List.getElem?_eq_some_iff.mp hk).1
  have h71 : (xW cI cF b u0 u1 η τ).length = 71 := rfl
  have h2 := hD.1 k 71 e (q, .inl (cL, 1, .inr (.inl f))) (by unfold hWd; rw [List.getElem?_append_left hlt]; exact hk) rfl hq
  omega
theorem hx_P (hP : va_P D vwCl (xW cI cF u u0 u1 η τ) H1) (hq : H1[q]? = some (vp_cell cL (1, .inr (.inl f)))) : va_P D vwCl (hWd cI cF cL u u0 u1 η τ q f) H1 :=
  hP.app (fun k x hx => by
    match k, hx with
    | 0, hx => cases hx; exact hq
    | k + 1, hx => simp at hx)
theorem hx_D (hD : va_D (fun _ => True) (xW cI cF u u0 u1 η τ)) (hn : ¬ xA u q) : va_D (fun _ => True) (hWd cI cF cL u u0 u1 η τ q f) :=
  hD.app ⟨fun i j x y hi hj _ => by
    have h1 : i < 1 := (List.getElem?_eq_some_iff.mp hi).1
    have h2 : j < 1 := (List.getElem?_eq_some_iff.mp hj).1
    omega, fun _ _ _ => trivial⟩ (fun i j x y hx hy hxy => by
    have h2 : j < 1 := (List.getElem?_eq_some_iff.mp hy).1
    rw [show j = 0 by omega] at hy
    cases hy
    exact hn (show q ∈ (xW cI cF u u0 u1 η τ).map (fun q => q.1) from List.mem_map.mpr ⟨x, List.mem_of_getElem? hx, hxy⟩))
theorem hx_p (hP : va_P D vwCl (hWd cI cF cL b u0 u1 η τ q f) H) : va_P D vwCl (xW cI cF b u0 u1 η τ) H := hP.sub (List.range 71) rfl
theorem hx_d (hD : va_D (fun _ => True) (hWd cI cF cL b u0 u1 η τ q f)) : va_D (fun _ => True) (xW cI cF b u0 u1 η τ) := hD.sub (List.range 71) (by decide) rfl
/-- a public method, called over the array of one long -/
theorem hx_call {k0 : Nat} {r0 : Int32} {u0r u1r : M2} {ηr : HT} {τr : M2} {mc ms n maxL : Nat} {y : MethodName} {bytes : ByteArray} {ret : Option FieldType} {rm : Room} {As : List Value} {post : Int32 → Bf → Prop} (S : CallFix p m c cc nL s args AW own)
    (hM : vx_Met l y (wsA y bytes maxL ret) rm (va_Pc (.ref (b 6 0) :: As) (xP D cI cF b u0 u1 η τ)) (va_Qi post (fun u t => va_P D vwCl (xW cI cF u u0r u1r ηr τr) t.heap ∧ va_D (fun _ => True) (xW cI cF u u0r u1r ηr τr)) (xA b)) (vx_X (fun (u : Bf) => xSame b u) (fun E u t => ¬ k0 = 0 ∧ E = eOf k0 ∧ va_P D vwCl (xW cI cF u u0r u1r ηr τr) t.heap ∧ va_D (fun _ => True) (xW cI cF u u0r u1r ηr τr)) (xA b)) mc ms (xA b))
    (hpost : ∀ r u, post r u → k0 = 0 ∧ r = r0 ∧ xSame b u)
    (h1 : Cond.methodLink own idx y ∈ AW) (h2 : Cond.instanceMethod y ∈ AW) (h3 : Cond.selects RX8 y y ∈ AW) (h5 : Cond.code y bytes maxL ret ∈ AW) (hrc : rm.cells = mc) (hrs : rm.slots = ms)
    (hd : y.cls = RX8 ∧ y.cls ≠ "java/lang/invoke/MethodHandle" ∧ y.cls ≠ "java/lang/invoke/VarHandle" ∧ (parseMethodDescriptor y.desc).map (fun d => d.parameters.length) = some n) (hn : As.length = n)
    (hR : rm.frames + 1 ≤ R.frames ∧ 8 + (maxL + 11) + rm.locals ≤ R.locals) (hc : cells + mc ≤ R.cells ∧ slots + ms ≤ R.slots)
    (hP : va_P D vwCl (hWd cI cF cL b u0 u1 η τ q f) H) (hK : va_K D vwCl (hTy cI cF cL) s) (hD : va_D (fun _ => True) (hWd cI cF cL b u0 u1 η τ q f)) (hT : xT s) (hZ : xZ (hAd b q) s H) (hS : va_S (hAd b q) H0 H locs)
    (hsz : ls.size = nL) (hW : (rest.map fun v => v.category).sum ≤ 8) (hdg : decode cc pc = .ok (.invokevirtual idx, 3))
    (kx : ¬ k0 = 0 → ∀ (u : Bf) (ce : Cell) (q9 : Addr) (H1 : Heap) (locs1 : List Loc), xSame b u → va_P D vwCl (hWd cI cF cL u u0r u1r ηr τr q f) H1 → va_D (fun _ => True) (hWd cI cF cL u u0r u1r ηr τr q f) → va_S (hAd b q) H0 H1 locs1 → H1[q9]? = some ce → ce.vm = .none → s.vm.findClass (eOf k0) = some ce.cls → vx_W p l e R s m args below meth c H1 locs1 (cells + mc) (slots + ms) Q (F0 m pc ls rest) q9)
    (kk : k0 = 0 → ∀ (u : Bf) (H1 : Heap) (locs1 : List Loc), xSame b u → va_P D vwCl (hWd cI cF cL u u0r u1r ηr τr q f) H1 → va_D (fun _ => True) (hWd cI cF cL u u0r u1r ηr τr q f) → va_S (hAd b q) H0 H1 locs1 → (∃ u', post r0 u') → W p l e R s m args below meth c H1 locs1 (cells + mc) (slots + ms) Q (F0 m (pc + 3) ls (.int r0 :: rest))) : W p l e R s m args below meth c H locs cells slots Q (F0 m pc ls (As.reverse ++ .ref (b 6 0) :: rest)) := by
  have hno := hx_no hD
  have hqc : H[q]? = some (vp_cell cL (1, .inr (.inl f))) := hP 71 _ rfl
  have hql : q < H.size := (Array.getElem?_eq_some_iff.mp hqc).1
  exact vx_calli (vx_runV (As := As) (rest := rest) S hM (cwV n S.2.2.2.2 (gV h1 h2 h3 aN_RX8 h5) rfl hrc hrs hd hR) (xP_pre (hK.sub [0, 1] rfl) (hx_p hP) (hx_d hD) hT (hZ.narrow (fun _ h => Or.inl h))) rfl hn hsz rfl (lv_room hW) hdg hc) hS (fun _ _ h => Or.inl h) (fun _ h => Or.inl h) (fun _ _ h => Or.inl h)
    (fun E ce q9 u t H1 locs1 ht _ hsm hE hz hk hS1 h9 hv hcl => by
      obtain ⟨hne, rfl, hB, hDu⟩ := hE
      rw [ht] at hB
      exact kx hne u ce q9 H1 locs1 hsm (hx_P hB ((hk q hql hno).trans hqc)) (hx_D hDu (fun z => hno (hsm.2.2.2.2 q z))) hS1 h9 hv hcl)
    (fun r u t H1 locs1 ht _ hg hB hz hk hS1 => by
      have hu := hg
      obtain ⟨h0, rfl, hsm⟩ := hpost r u hg
      obtain ⟨hB, hDu⟩ := hB
      rw [ht] at hB
      exact kk h0 u H1 locs1 hsm (hx_P hB ((hk q hql hno).trans hqc)) (hx_D hDu (fun z => hno (hsm.2.2.2.2 q z))) hS1 ⟨u, hu⟩)
theorem hx_st (hx : p.tables.exec = Jvm.exec) (hb : c.code = cc) (hK : va_K D vwCl (hTy cI cF cL) s) (hP : va_P D vwCl (hWd cI cF cL u u0 u1 η τ q f) H) (hD : va_D (fun _ => True) (hWd cI cF cL u u0 u1 η τ q f)) (hu : ∀ x, xA u x → xA b x) (hS : va_S (hAd b q) H0 H locs) {x : Int64} (hdg : decode cc pc = .ok (.lastore, 1))
    (kk : ∀ (f1 : Nat → Int64) (H1 : Heap) (locs1 : List Loc), f1 0 = x → va_P D vwCl (hWd cI cF cL u u0 u1 η τ q f1) H1 → va_D (fun _ => True) (hWd cI cF cL u u0 u1 η τ q f1) → va_S (hAd b q) H0 H1 locs1 → W p l e R s m args below meth c H1 locs1 cells slots Q (F0 m (pc + 1) ls rest)) : W p l e R s m args below meth c H locs cells slots Q (F0 m pc ls (.long x :: .int 0 :: .ref q :: rest)) := by
  have hDA : va_D (hAd b q) (hWd cI cF cL u u0 u1 η τ q f) := fm_DA hD (fun z hz => by
    unfold hWd at hz
    rw [List.map_append] at hz
    rcases List.mem_append.mp hz with h | h
    · exact Or.inl (hu z h)
    · exact Or.inr (List.mem_singleton.mp h))
  refine va_last hx hb hK hP hDA hS 71 2 rfl rfl (by unfold vp_in; decide) hdg (fun H1 locs1 hP1 _ hS1 => ?_)
  refine kk _ H1 locs1 ?_ hP1 (fm_D (ws := hWd cI cF cL u u0 u1 η τ q f) rfl hD) hS1
  rfl
end HX
set_option maxHeartbeats 4000000 in
set_option maxRecDepth 100000 in
theorem c_L_tag (l : Launch) (hl0 : l.stackTraces = false) (D : va_G) (cI cF cL : ClassId) (b : Bf) (q : Nat) (f : Nat → Int64) (N : Nat) (u0 φ : M2) (η : HT) (τ : M2) (p1 : Int32) (k0 : Nat) (r0 : Int32) (u0r φr : M2) (ηr : HT) (τr : M2) (hF : G_X8_tag N u0 φ η τ p1 = some (k0, r0, u0r, φr, ηr, τr)) (hk0 : k0 = 0 ∨ k0 = 1) : Met l yL_tag (wsH yL_tag cL_tag 4 (some .int) [(0, 9, 12, 13)]) { frames := 9, cells := 1, slots := 6, locals := 143 } (va_Pc [.ref (b 6 0), .int p1, .ref q] (hPd D cI cF cL b u0 φ η τ q f)) (va_Qi (fun (r : Int32) (z : Bf × (Nat → Int64)) => r = hkc 1 k0 ∧ xSame b z.1 ∧ (k0 = 0 → z.2 0 = r0.toInt64)) (fun z t => va_P D vwCl (hWd cI cF cL z.1 u0r φr ηr τr q z.2) t.heap ∧ va_D (fun _ => True) (hWd cI cF cL z.1 u0r φr ηr τr q z.2)) (hAd b q)) 1 6 (hAd b q) := by
  refine va_MetW (cc := cL_tag) (maxL := 4) (ret := (some .int)) (hh := [(0, 9, 12, 13)]) (by decide) rfl ?_
  intro p e s m args below meth c s₁ B hml hpre
  obtain ⟨rfl, hP, hK, hD, hT, hZ, hNc⟩ := hpre
  have hx := B.exec
  have hb := B.bytes
  have hr := B.returns
  have hws := atoms_spec (ws := (wsH yL_tag cL_tag 4 (some .int) [(0, 9, 12, 13)])) B.pre
  have hA : ∀ w ∈ AW, w.before _ s = true := fun w h => hws w (List.mem_cons_of_mem _ h)
  have htab : c.exceptionTable.toList = [⟨0, 9, 12, 13⟩] := vx_table (x := yL_tag) B (hws _ List.mem_cons_self)
  have hown : s.vm.findClass RL = some m.cls := findClass_of_methodNamed B.named
  have hlocks := B.notSynchronized
  have hS : va_S (hAd b q) s.heap s.heap [] := va_S.rf
  have S : CallFix p m c cL_tag 4 s ([.ref (b 6 0), .int p1, .ref q] : List Value).toArray AW RL := ⟨hx, hb, hml, hown, hA⟩
  have hl := lv_entry ([.ref (b 6 0), .int p1, .ref q]) (n := 4) (Nat.le_of_ble_eq_true rfl)
  rw [lg_entry_eq]
  generalize (lg_sl ([.ref (b 6 0), .int p1, .ref q]) ++ List.replicate (4 - (lg_sl ([.ref (b 6 0), .int p1, .ref q])).length) Slot.unset).toArray = ls at hl ⊢
  have hl : lv_has ls 4 [(0, .ref (b 6 0)), (1, .int p1), (2, .ref q)] := hl
  refine lv_aload_n hx hb dL_tag_0 rfl (lv_at hl 2 rfl) ?_
  refine lv_iconst (v := 0) hx hb dL_tag_1 (by decide) ?_
  refine lv_aload_n hx hb dL_tag_2 rfl (lv_at hl 0 rfl) ?_
  refine lv_iload_n hx hb dL_tag_3 rfl (lv_at hl 1 rfl) ?_
  refine hx_call (n := 1) (As := [.int p1]) (rest := [.int 0, .ref q]) (post := fun (r : Int32) (u : Bf) => k0 = 0 ∧ r = r0 ∧ xSame b u) S (c_X8_tag l hl0 D cI cF b N u0 φ η τ p1 k0 r0 u0r φr ηr τr hF) (fun r u h => h) aM_RL_7 aI_X8_tag aV_X8_tag aC_X8_tag rfl rfl (by decide +kernel) rfl ⟨Nat.le_of_ble_eq_true rfl, Nat.le_of_ble_eq_true rfl⟩ ⟨Nat.le_of_ble_eq_true rfl, Nat.le_of_ble_eq_true rfl⟩ hP hK hD hT hZ hS hl.1 (Nat.le_of_ble_eq_true rfl) dL_tag_4 (fun hne u ce q9 H1 locs1 hsm hP1 hD1 hS1 h9 hv hcl => ?_) (fun h0 u H1 locs1 hsm hP1 hD1 hS1 hu0 => ?_)
  · rcases hk0 with h0 | rfl
    · exact absurd h0 hne
    · refine vx_catch (E := eIA) (name := eIA) hown [] ⟨0, 9, 12, 13⟩ [] htab (fun z hz => absurd hz List.not_mem_nil) rfl (by decide) (hA _ aL_RL_13) (va_Nw.use rfl hT.1) h9 hv hcl ?_
      refine lv_astore_n (lv' := [(3, .ref q9), (0, .ref (b 6 0)), (1, .int p1), (2, .ref q)]) hx hb dL_tag_12 rfl hl (by decide) rfl (fun ls hl => ?_)
      refine lv_iconst (v := 1) hx hb dL_tag_13 (by decide) ?_
      exact W.iret (v := 1) hx hb hr (fun t ht hW => ⟨⟨_, (u, f), rfl, ⟨rfl, hsm, fun z => absurd z (by decide)⟩, by rw [ht]; exact hP1, hD1⟩, hS1.F ht⟩) hS1.2.2 dL_tag_14
  · refine lv_i2l hx hb dL_tag_7 rfl ?_
    refine hx_st hx hb hK hP1 hD1 hsm.2.2.2.2 hS1 dL_tag_8 (fun f1 H2 locs2 e1 hP2 hD2 hS2 => ?_)
    refine lv_goto (tgt := 15) hx hb dL_tag_9 (by decide) ?_
    refine lv_iconst (v := 0) hx hb dL_tag_15 (by decide) ?_
    exact W.iret (v := 0) hx hb hr (fun t ht hW => ⟨⟨_, (u, f1), rfl, ⟨by rw [h0]; rfl, hsm, fun _ => e1⟩, by rw [ht]; exact hP2, hD2⟩, hS2.F ht⟩) hS2.2.2 dL_tag_16
set_option maxHeartbeats 4000000 in
set_option maxRecDepth 100000 in
theorem c_L_body (l : Launch) (hl0 : l.stackTraces = false) (D : va_G) (cI cF cL : ClassId) (b : Bf) (q : Nat) (f : Nat → Int64) (N : Nat) (u0 φ : M2) (η : HT) (τ : M2) (p1 : Int32) (k0 : Nat) (r0 : Int32) (u0r φr : M2) (ηr : HT) (τr : M2) (hF : G_X8_body N u0 φ η τ p1 = some (k0, r0, u0r, φr, ηr, τr)) (hk0 : k0 = 0 ∨ k0 = 1) : Met l yL_body (wsH yL_body cL_body 4 (some .int) [(0, 9, 12, 13)]) { frames := 9, cells := 1, slots := 6, locals := 143 } (va_Pc [.ref (b 6 0), .int p1, .ref q] (hPd D cI cF cL b u0 φ η τ q f)) (va_Qi (fun (r : Int32) (z : Bf × (Nat → Int64)) => r = hkc 1 k0 ∧ xSame b z.1 ∧ (k0 = 0 → z.2 0 = r0.toInt64)) (fun z t => va_P D vwCl (hWd cI cF cL z.1 u0r φr ηr τr q z.2) t.heap ∧ va_D (fun _ => True) (hWd cI cF cL z.1 u0r φr ηr τr q z.2)) (hAd b q)) 1 6 (hAd b q) := by
  refine va_MetW (cc := cL_body) (maxL := 4) (ret := (some .int)) (hh := [(0, 9, 12, 13)]) (by decide) rfl ?_
  intro p e s m args below meth c s₁ B hml hpre
  obtain ⟨rfl, hP, hK, hD, hT, hZ, hNc⟩ := hpre
  have hx := B.exec
  have hb := B.bytes
  have hr := B.returns
  have hws := atoms_spec (ws := (wsH yL_body cL_body 4 (some .int) [(0, 9, 12, 13)])) B.pre
  have hA : ∀ w ∈ AW, w.before _ s = true := fun w h => hws w (List.mem_cons_of_mem _ h)
  have htab : c.exceptionTable.toList = [⟨0, 9, 12, 13⟩] := vx_table (x := yL_body) B (hws _ List.mem_cons_self)
  have hown : s.vm.findClass RL = some m.cls := findClass_of_methodNamed B.named
  have hlocks := B.notSynchronized
  have hS : va_S (hAd b q) s.heap s.heap [] := va_S.rf
  have S : CallFix p m c cL_body 4 s ([.ref (b 6 0), .int p1, .ref q] : List Value).toArray AW RL := ⟨hx, hb, hml, hown, hA⟩
  have hl := lv_entry ([.ref (b 6 0), .int p1, .ref q]) (n := 4) (Nat.le_of_ble_eq_true rfl)
  rw [lg_entry_eq]
  generalize (lg_sl ([.ref (b 6 0), .int p1, .ref q]) ++ List.replicate (4 - (lg_sl ([.ref (b 6 0), .int p1, .ref q])).length) Slot.unset).toArray = ls at hl ⊢
  have hl : lv_has ls 4 [(0, .ref (b 6 0)), (1, .int p1), (2, .ref q)] := hl
  refine lv_aload_n hx hb dL_body_0 rfl (lv_at hl 2 rfl) ?_
  refine lv_iconst (v := 0) hx hb dL_body_1 (by decide) ?_
  refine lv_aload_n hx hb dL_body_2 rfl (lv_at hl 0 rfl) ?_
  refine lv_iload_n hx hb dL_body_3 rfl (lv_at hl 1 rfl) ?_
  refine hx_call (n := 1) (As := [.int p1]) (rest := [.int 0, .ref q]) (post := fun (r : Int32) (u : Bf) => k0 = 0 ∧ r = r0 ∧ xSame b u) S (c_X8_body l hl0 D cI cF b N u0 φ η τ p1 k0 r0 u0r φr ηr τr hF) (fun r u h => h) aM_RL_15 aI_X8_body aV_X8_body aC_X8_body rfl rfl (by decide +kernel) rfl ⟨Nat.le_of_ble_eq_true rfl, Nat.le_of_ble_eq_true rfl⟩ ⟨Nat.le_of_ble_eq_true rfl, Nat.le_of_ble_eq_true rfl⟩ hP hK hD hT hZ hS hl.1 (Nat.le_of_ble_eq_true rfl) dL_body_4 (fun hne u ce q9 H1 locs1 hsm hP1 hD1 hS1 h9 hv hcl => ?_) (fun h0 u H1 locs1 hsm hP1 hD1 hS1 hu0 => ?_)
  · rcases hk0 with h0 | rfl
    · exact absurd h0 hne
    · refine vx_catch (E := eIA) (name := eIA) hown [] ⟨0, 9, 12, 13⟩ [] htab (fun z hz => absurd hz List.not_mem_nil) rfl (by decide) (hA _ aL_RL_13) (va_Nw.use rfl hT.1) h9 hv hcl ?_
      refine lv_astore_n (lv' := [(3, .ref q9), (0, .ref (b 6 0)), (1, .int p1), (2, .ref q)]) hx hb dL_body_12 rfl hl (by decide) rfl (fun ls hl => ?_)
      refine lv_iconst (v := 1) hx hb dL_body_13 (by decide) ?_
      exact W.iret (v := 1) hx hb hr (fun t ht hW => ⟨⟨_, (u, f), rfl, ⟨rfl, hsm, fun z => absurd z (by decide)⟩, by rw [ht]; exact hP1, hD1⟩, hS1.F ht⟩) hS1.2.2 dL_body_14
  · refine lv_i2l hx hb dL_body_7 rfl ?_
    refine hx_st hx hb hK hP1 hD1 hsm.2.2.2.2 hS1 dL_body_8 (fun f1 H2 locs2 e1 hP2 hD2 hS2 => ?_)
    refine lv_goto (tgt := 15) hx hb dL_body_9 (by decide) ?_
    refine lv_iconst (v := 0) hx hb dL_body_15 (by decide) ?_
    exact W.iret (v := 0) hx hb hr (fun t ht hW => ⟨⟨_, (u, f1), rfl, ⟨by rw [h0]; rfl, hsm, fun _ => e1⟩, by rw [ht]; exact hP2, hD2⟩, hS2.F ht⟩) hS2.2.2 dL_body_16
set_option maxHeartbeats 4000000 in
set_option maxRecDepth 100000 in
theorem c_L_bucket (l : Launch) (hl0 : l.stackTraces = false) (D : va_G) (cI cF cL : ClassId) (b : Bf) (q : Nat) (f : Nat → Int64) (N : Nat) (u0 φ : M2) (η : HT) (τ : M2) (p1 : Int32) (p2 : Int32) (k0 : Nat) (r0 : Int32) (u0r φr : M2) (ηr : HT) (τr : M2) (hF : G_X8_bucket N u0 φ η τ p1 p2 = some (k0, r0, u0r, φr, ηr, τr)) (hk0 : k0 = 0 ∨ k0 = 1) : Met l yL_bucket (wsH yL_bucket cL_bucket 5 (some .int) [(0, 10, 13, 13)]) { frames := 9, cells := 1, slots := 6, locals := 145 } (va_Pc [.ref (b 6 0), .int p1, .int p2, .ref q] (hPd D cI cF cL b u0 φ η τ q f)) (va_Qi (fun (r : Int32) (z : Bf × (Nat → Int64)) => r = hkc 1 k0 ∧ xSame b z.1 ∧ (k0 = 0 → z.2 0 = r0.toInt64)) (fun z t => va_P D vwCl (hWd cI cF cL z.1 u0r φr ηr τr q z.2) t.heap ∧ va_D (fun _ => True) (hWd cI cF cL z.1 u0r φr ηr τr q z.2)) (hAd b q)) 1 6 (hAd b q) := by
  refine va_MetW (cc := cL_bucket) (maxL := 5) (ret := (some .int)) (hh := [(0, 10, 13, 13)]) (by decide) rfl ?_
  intro p e s m args below meth c s₁ B hml hpre
  obtain ⟨rfl, hP, hK, hD, hT, hZ, hNc⟩ := hpre
  have hx := B.exec
  have hb := B.bytes
  have hr := B.returns
  have hws := atoms_spec (ws := (wsH yL_bucket cL_bucket 5 (some .int) [(0, 10, 13, 13)])) B.pre
  have hA : ∀ w ∈ AW, w.before _ s = true := fun w h => hws w (List.mem_cons_of_mem _ h)
  have htab : c.exceptionTable.toList = [⟨0, 10, 13, 13⟩] := vx_table (x := yL_bucket) B (hws _ List.mem_cons_self)
  have hown : s.vm.findClass RL = some m.cls := findClass_of_methodNamed B.named
  have hlocks := B.notSynchronized
  have hS : va_S (hAd b q) s.heap s.heap [] := va_S.rf
  have S : CallFix p m c cL_bucket 5 s ([.ref (b 6 0), .int p1, .int p2, .ref q] : List Value).toArray AW RL := ⟨hx, hb, hml, hown, hA⟩
  have hl := lv_entry ([.ref (b 6 0), .int p1, .int p2, .ref q]) (n := 5) (Nat.le_of_ble_eq_true rfl)
  rw [lg_entry_eq]
  generalize (lg_sl ([.ref (b 6 0), .int p1, .int p2, .ref q]) ++ List.replicate (5 - (lg_sl ([.ref (b 6 0), .int p1, .int p2, .ref q])).length) Slot.unset).toArray = ls at hl ⊢
  have hl : lv_has ls 5 [(0, .ref (b 6 0)), (1, .int p1), (2, .int p2), (3, .ref q)] := hl
  refine lv_aload_n hx hb dL_bucket_0 rfl (lv_at hl 3 rfl) ?_
  refine lv_iconst (v := 0) hx hb dL_bucket_1 (by decide) ?_
  refine lv_aload_n hx hb dL_bucket_2 rfl (lv_at hl 0 rfl) ?_
  refine lv_iload_n hx hb dL_bucket_3 rfl (lv_at hl 1 rfl) ?_
  refine lv_iload_n hx hb dL_bucket_4 rfl (lv_at hl 2 rfl) ?_
  refine hx_call (n := 2) (As := [.int p1, .int p2]) (rest := [.int 0, .ref q]) (post := fun (r : Int32) (u : Bf) => k0 = 0 ∧ r = r0 ∧ xSame b u) S (c_X8_bucket l hl0 D cI cF b N u0 φ η τ p1 p2 k0 r0 u0r φr ηr τr hF) (fun r u h => h) aM_RL_18 aI_X8_bucket aV_X8_bucket aC_X8_bucket rfl rfl (by decide +kernel) rfl ⟨Nat.le_of_ble_eq_true rfl, Nat.le_of_ble_eq_true rfl⟩ ⟨Nat.le_of_ble_eq_true rfl, Nat.le_of_ble_eq_true rfl⟩ hP hK hD hT hZ hS hl.1 (Nat.le_of_ble_eq_true rfl) dL_bucket_5 (fun hne u ce q9 H1 locs1 hsm hP1 hD1 hS1 h9 hv hcl => ?_) (fun h0 u H1 locs1 hsm hP1 hD1 hS1 hu0 => ?_)
  · rcases hk0 with h0 | rfl
    · exact absurd h0 hne
    · refine vx_catch (E := eIA) (name := eIA) hown [] ⟨0, 10, 13, 13⟩ [] htab (fun z hz => absurd hz List.not_mem_nil) rfl (by decide) (hA _ aL_RL_13) (va_Nw.use rfl hT.1) h9 hv hcl ?_
      refine lv_astore (lv' := [(4, .ref q9), (0, .ref (b 6 0)), (1, .int p1), (2, .int p2), (3, .ref q)]) hx hb dL_bucket_13 hl (by decide) rfl (fun ls hl => ?_)
      refine lv_iconst (v := 1) hx hb dL_bucket_15 (by decide) ?_
      exact W.iret (v := 1) hx hb hr (fun t ht hW => ⟨⟨_, (u, f), rfl, ⟨rfl, hsm, fun z => absurd z (by decide)⟩, by rw [ht]; exact hP1, hD1⟩, hS1.F ht⟩) hS1.2.2 dL_bucket_16
  · refine lv_i2l hx hb dL_bucket_8 rfl ?_
    refine hx_st hx hb hK hP1 hD1 hsm.2.2.2.2 hS1 dL_bucket_9 (fun f1 H2 locs2 e1 hP2 hD2 hS2 => ?_)
    refine lv_goto (tgt := 17) hx hb dL_bucket_10 (by decide) ?_
    refine lv_iconst (v := 0) hx hb dL_bucket_17 (by decide) ?_
    exact W.iret (v := 0) hx hb hr (fun t ht hW => ⟨⟨_, (u, f1), rfl, ⟨by rw [h0]; rfl, hsm, fun _ => e1⟩, by rw [ht]; exact hP2, hD2⟩, hS2.F ht⟩) hS2.2.2 dL_bucket_18
set_option maxHeartbeats 4000000 in
set_option maxRecDepth 100000 in
theorem c_L_found (l : Launch) (hl0 : l.stackTraces = false) (D : va_G) (cI cF cL : ClassId) (b : Bf) (q : Nat) (f : Nat → Int64) (N : Nat) (u0 φ : M2) (η : HT) (τ : M2) (p1 : Int32) (k0 : Nat) (r0 : Int32) (u0r φr : M2) (ηr : HT) (τr : M2) (hF : G_X8_found N u0 φ η τ p1 = some (k0, r0, u0r, φr, ηr, τr)) (hk0 : k0 = 0 ∨ k0 = 1) : Met l yL_found (wsH yL_found cL_found 4 (some .int) [(0, 16, 19, 13)]) { frames := 9, cells := 1, slots := 6, locals := 143 } (va_Pc [.ref (b 6 0), .int p1, .ref q] (hPd D cI cF cL b u0 φ η τ q f)) (va_Qi (fun (r : Int32) (z : Bf × (Nat → Int64)) => r = hkc 1 k0 ∧ xSame b z.1 ∧ (k0 = 0 → z.2 0 = r0.toInt64)) (fun z t => va_P D vwCl (hWd cI cF cL z.1 u0r φr ηr τr q z.2) t.heap ∧ va_D (fun _ => True) (hWd cI cF cL z.1 u0r φr ηr τr q z.2)) (hAd b q)) 1 6 (hAd b q) := by
  refine va_MetW (cc := cL_found) (maxL := 4) (ret := (some .int)) (hh := [(0, 16, 19, 13)]) (by decide) rfl ?_
  intro p e s m args below meth c s₁ B hml hpre
  obtain ⟨rfl, hP, hK, hD, hT, hZ, hNc⟩ := hpre
  have hx := B.exec
  have hb := B.bytes
  have hr := B.returns
  have hws := atoms_spec (ws := (wsH yL_found cL_found 4 (some .int) [(0, 16, 19, 13)])) B.pre
  have hA : ∀ w ∈ AW, w.before _ s = true := fun w h => hws w (List.mem_cons_of_mem _ h)
  have htab : c.exceptionTable.toList = [⟨0, 16, 19, 13⟩] := vx_table (x := yL_found) B (hws _ List.mem_cons_self)
  have hown : s.vm.findClass RL = some m.cls := findClass_of_methodNamed B.named
  have hlocks := B.notSynchronized
  have hS : va_S (hAd b q) s.heap s.heap [] := va_S.rf
  have S : CallFix p m c cL_found 4 s ([.ref (b 6 0), .int p1, .ref q] : List Value).toArray AW RL := ⟨hx, hb, hml, hown, hA⟩
  have hl := lv_entry ([.ref (b 6 0), .int p1, .ref q]) (n := 4) (Nat.le_of_ble_eq_true rfl)
  rw [lg_entry_eq]
  generalize (lg_sl ([.ref (b 6 0), .int p1, .ref q]) ++ List.replicate (4 - (lg_sl ([.ref (b 6 0), .int p1, .ref q])).length) Slot.unset).toArray = ls at hl ⊢
  have hl : lv_has ls 4 [(0, .ref (b 6 0)), (1, .int p1), (2, .ref q)] := hl
  refine lv_aload_n hx hb dL_found_0 rfl (lv_at hl 2 rfl) ?_
  refine lv_iconst (v := 0) hx hb dL_found_1 (by decide) ?_
  refine lv_aload_n hx hb dL_found_2 rfl (lv_at hl 0 rfl) ?_
  refine lv_iload_n hx hb dL_found_3 rfl (lv_at hl 1 rfl) ?_
  refine hx_call (n := 1) (As := [.int p1]) (rest := [.int 0, .ref q]) (post := fun (r : Int32) (u : Bf) => k0 = 0 ∧ r = r0 ∧ xSame b u ∧ (r = 0 ∨ r = 1)) S (c_X8_found l hl0 D cI cF b N u0 φ η τ p1 k0 r0 u0r φr ηr τr hF) (fun r u h => ⟨h.1, h.2.1, h.2.2.1⟩) aM_RL_22 aI_X8_found aV_X8_found aC_X8_found rfl rfl (by decide +kernel) rfl ⟨Nat.le_of_ble_eq_true rfl, Nat.le_of_ble_eq_true rfl⟩ ⟨Nat.le_of_ble_eq_true rfl, Nat.le_of_ble_eq_true rfl⟩ hP hK hD hT hZ hS hl.1 (Nat.le_of_ble_eq_true rfl) dL_found_4 (fun hne u ce q9 H1 locs1 hsm hP1 hD1 hS1 h9 hv hcl => ?_) (fun h0 u H1 locs1 hsm hP1 hD1 hS1 hu0 => ?_)
  · rcases hk0 with h0 | rfl
    · exact absurd h0 hne
    · refine vx_catch (E := eIA) (name := eIA) hown [] ⟨0, 16, 19, 13⟩ [] htab (fun z hz => absurd hz List.not_mem_nil) rfl (by decide) (hA _ aL_RL_13) (va_Nw.use rfl hT.1) h9 hv hcl ?_
      refine lv_astore_n (lv' := [(3, .ref q9), (0, .ref (b 6 0)), (1, .int p1), (2, .ref q)]) hx hb dL_found_19 rfl hl (by decide) rfl (fun ls hl => ?_)
      refine lv_iconst (v := 1) hx hb dL_found_20 (by decide) ?_
      exact W.iret (v := 1) hx hb hr (fun t ht hW => ⟨⟨_, (u, f), rfl, ⟨rfl, hsm, fun z => absurd z (by decide)⟩, by rw [ht]; exact hP1, hD1⟩, hS1.F ht⟩) hS1.2.2 dL_found_21
  · refine lv_if_eq (tgt := 14) hx hb dL_found_7 (by decide) (fun hc => ?_) (fun hc => ?_)
    · refine lv_lconst (v := 0) hx hb dL_found_14 (by decide) ?_
      refine hx_st hx hb hK hP1 hD1 hsm.2.2.2.2 hS1 dL_found_15 (fun f1 H2 locs2 e1 hP2 hD2 hS2 => ?_)
      refine lv_goto (tgt := 22) hx hb dL_found_16 (by decide) ?_
      refine lv_iconst (v := 0) hx hb dL_found_22 (by decide) ?_
      exact W.iret (v := 0) hx hb hr (fun t ht hW => ⟨⟨_, (u, f1), rfl, ⟨by rw [h0]; rfl, hsm, fun _ => by show f1 0 = _; rw [e1, hc]; rfl⟩, by rw [ht]; exact hP2, hD2⟩, hS2.F ht⟩) hS2.2.2 dL_found_23
    · have h1 : r0 = 1 := hu0.elim (fun _ hq => hq.2.2.2.resolve_left hc)
      refine lv_lconst (v := 1) hx hb dL_found_10 (by decide) ?_
      refine lv_goto (tgt := 15) hx hb dL_found_11 (by decide) ?_
      refine hx_st hx hb hK hP1 hD1 hsm.2.2.2.2 hS1 dL_found_15 (fun f1 H2 locs2 e1 hP2 hD2 hS2 => ?_)
      refine lv_goto (tgt := 22) hx hb dL_found_16 (by decide) ?_
      refine lv_iconst (v := 0) hx hb dL_found_22 (by decide) ?_
      exact W.iret (v := 0) hx hb hr (fun t ht hW => ⟨⟨_, (u, f1), rfl, ⟨by rw [h0]; rfl, hsm, fun _ => by show f1 0 = _; rw [e1, h1]; rfl⟩, by rw [ht]; exact hP2, hD2⟩, hS2.F ht⟩) hS2.2.2 dL_found_23
set_option maxHeartbeats 4000000 in
set_option maxRecDepth 100000 in
theorem c_L_place (l : Launch) (hl0 : l.stackTraces = false) (D : va_G) (cI cF cL : ClassId) (b : Bf) (q : Nat) (f : Nat → Int64) (N : Nat) (u0 φ : M2) (η : HT) (τ : M2) (p1 : Int32) (k0 : Nat) (r0 : Int32) (u0r φr : M2) (ηr : HT) (τr : M2) (hF : G_X8_place N u0 φ η τ p1 = some (k0, r0, u0r, φr, ηr, τr)) (hk0 : k0 = 0 ∨ k0 = 1) : Met l yL_place (wsH yL_place cL_place 4 (some .int) [(0, 9, 12, 13)]) { frames := 9, cells := 1, slots := 6, locals := 143 } (va_Pc [.ref (b 6 0), .int p1, .ref q] (hPd D cI cF cL b u0 φ η τ q f)) (va_Qi (fun (r : Int32) (z : Bf × (Nat → Int64)) => r = hkc 1 k0 ∧ xSame b z.1 ∧ (k0 = 0 → z.2 0 = r0.toInt64)) (fun z t => va_P D vwCl (hWd cI cF cL z.1 u0r φr ηr τr q z.2) t.heap ∧ va_D (fun _ => True) (hWd cI cF cL z.1 u0r φr ηr τr q z.2)) (hAd b q)) 1 6 (hAd b q) := by
  refine va_MetW (cc := cL_place) (maxL := 4) (ret := (some .int)) (hh := [(0, 9, 12, 13)]) (by decide) rfl ?_
  intro p e s m args below meth c s₁ B hml hpre
  obtain ⟨rfl, hP, hK, hD, hT, hZ, hNc⟩ := hpre
  have hx := B.exec
  have hb := B.bytes
  have hr := B.returns
  have hws := atoms_spec (ws := (wsH yL_place cL_place 4 (some .int) [(0, 9, 12, 13)])) B.pre
  have hA : ∀ w ∈ AW, w.before _ s = true := fun w h => hws w (List.mem_cons_of_mem _ h)
  have htab : c.exceptionTable.toList = [⟨0, 9, 12, 13⟩] := vx_table (x := yL_place) B (hws _ List.mem_cons_self)
  have hown : s.vm.findClass RL = some m.cls := findClass_of_methodNamed B.named
  have hlocks := B.notSynchronized
  have hS : va_S (hAd b q) s.heap s.heap [] := va_S.rf
  have S : CallFix p m c cL_place 4 s ([.ref (b 6 0), .int p1, .ref q] : List Value).toArray AW RL := ⟨hx, hb, hml, hown, hA⟩
  have hl := lv_entry ([.ref (b 6 0), .int p1, .ref q]) (n := 4) (Nat.le_of_ble_eq_true rfl)
  rw [lg_entry_eq]
  generalize (lg_sl ([.ref (b 6 0), .int p1, .ref q]) ++ List.replicate (4 - (lg_sl ([.ref (b 6 0), .int p1, .ref q])).length) Slot.unset).toArray = ls at hl ⊢
  have hl : lv_has ls 4 [(0, .ref (b 6 0)), (1, .int p1), (2, .ref q)] := hl
  refine lv_aload_n hx hb dL_place_0 rfl (lv_at hl 2 rfl) ?_
  refine lv_iconst (v := 0) hx hb dL_place_1 (by decide) ?_
  refine lv_aload_n hx hb dL_place_2 rfl (lv_at hl 0 rfl) ?_
  refine lv_iload_n hx hb dL_place_3 rfl (lv_at hl 1 rfl) ?_
  refine hx_call (n := 1) (As := [.int p1]) (rest := [.int 0, .ref q]) (post := fun (r : Int32) (u : Bf) => k0 = 0 ∧ r = r0 ∧ xSame b u) S (c_X8_place l hl0 D cI cF b N u0 φ η τ p1 k0 r0 u0r φr ηr τr hF) (fun r u h => h) aM_RL_26 aI_X8_place aV_X8_place aC_X8_place rfl rfl (by decide +kernel) rfl ⟨Nat.le_of_ble_eq_true rfl, Nat.le_of_ble_eq_true rfl⟩ ⟨Nat.le_of_ble_eq_true rfl, Nat.le_of_ble_eq_true rfl⟩ hP hK hD hT hZ hS hl.1 (Nat.le_of_ble_eq_true rfl) dL_place_4 (fun hne u ce q9 H1 locs1 hsm hP1 hD1 hS1 h9 hv hcl => ?_) (fun h0 u H1 locs1 hsm hP1 hD1 hS1 hu0 => ?_)
  · rcases hk0 with h0 | rfl
    · exact absurd h0 hne
    · refine vx_catch (E := eIA) (name := eIA) hown [] ⟨0, 9, 12, 13⟩ [] htab (fun z hz => absurd hz List.not_mem_nil) rfl (by decide) (hA _ aL_RL_13) (va_Nw.use rfl hT.1) h9 hv hcl ?_
      refine lv_astore_n (lv' := [(3, .ref q9), (0, .ref (b 6 0)), (1, .int p1), (2, .ref q)]) hx hb dL_place_12 rfl hl (by decide) rfl (fun ls hl => ?_)
      refine lv_iconst (v := 1) hx hb dL_place_13 (by decide) ?_
      exact W.iret (v := 1) hx hb hr (fun t ht hW => ⟨⟨_, (u, f), rfl, ⟨rfl, hsm, fun z => absurd z (by decide)⟩, by rw [ht]; exact hP1, hD1⟩, hS1.F ht⟩) hS1.2.2 dL_place_14
  · refine lv_i2l hx hb dL_place_7 rfl ?_
    refine hx_st hx hb hK hP1 hD1 hsm.2.2.2.2 hS1 dL_place_8 (fun f1 H2 locs2 e1 hP2 hD2 hS2 => ?_)
    refine lv_goto (tgt := 15) hx hb dL_place_9 (by decide) ?_
    refine lv_iconst (v := 0) hx hb dL_place_15 (by decide) ?_
    exact W.iret (v := 0) hx hb hr (fun t ht hW => ⟨⟨_, (u, f1), rfl, ⟨by rw [h0]; rfl, hsm, fun _ => e1⟩, by rw [ht]; exact hP2, hD2⟩, hS2.F ht⟩) hS2.2.2 dL_place_16
set_option maxHeartbeats 4000000 in
set_option maxRecDepth 100000 in
theorem c_L_present (l : Launch) (hl0 : l.stackTraces = false) (D : va_G) (cI cF cL : ClassId) (b : Bf) (q : Nat) (f : Nat → Int64) (N : Nat) (u0 φ : M2) (η : HT) (τ : M2) (p1 : Int32) (k0 : Nat) (r0 : Int32) (u0r φr : M2) (ηr : HT) (τr : M2) (hF : G_X8_present N u0 φ η τ p1 = some (k0, r0, u0r, φr, ηr, τr)) (hk0 : k0 = 0 ∨ k0 = 3) : Met l yL_present (wsH yL_present cL_present 4 (some .int) [(0, 9, 12, 32)]) { frames := 8, cells := 1, slots := 6, locals := 123 } (va_Pc [.ref (b 6 0), .int p1, .ref q] (hPd D cI cF cL b u0 φ η τ q f)) (va_Qi (fun (r : Int32) (z : Bf × (Nat → Int64)) => r = hkc 3 k0 ∧ xSame b z.1 ∧ (k0 = 0 → z.2 0 = r0.toInt64)) (fun z t => va_P D vwCl (hWd cI cF cL z.1 u0r φr ηr τr q z.2) t.heap ∧ va_D (fun _ => True) (hWd cI cF cL z.1 u0r φr ηr τr q z.2)) (hAd b q)) 1 6 (hAd b q) := by
  refine va_MetW (cc := cL_present) (maxL := 4) (ret := (some .int)) (hh := [(0, 9, 12, 32)]) (by decide) rfl ?_
  intro p e s m args below meth c s₁ B hml hpre
  obtain ⟨rfl, hP, hK, hD, hT, hZ, hNc⟩ := hpre
  have hx := B.exec
  have hb := B.bytes
  have hr := B.returns
  have hws := atoms_spec (ws := (wsH yL_present cL_present 4 (some .int) [(0, 9, 12, 32)])) B.pre
  have hA : ∀ w ∈ AW, w.before _ s = true := fun w h => hws w (List.mem_cons_of_mem _ h)
  have htab : c.exceptionTable.toList = [⟨0, 9, 12, 32⟩] := vx_table (x := yL_present) B (hws _ List.mem_cons_self)
  have hown : s.vm.findClass RL = some m.cls := findClass_of_methodNamed B.named
  have hlocks := B.notSynchronized
  have hS : va_S (hAd b q) s.heap s.heap [] := va_S.rf
  have S : CallFix p m c cL_present 4 s ([.ref (b 6 0), .int p1, .ref q] : List Value).toArray AW RL := ⟨hx, hb, hml, hown, hA⟩
  have hl := lv_entry ([.ref (b 6 0), .int p1, .ref q]) (n := 4) (Nat.le_of_ble_eq_true rfl)
  rw [lg_entry_eq]
  generalize (lg_sl ([.ref (b 6 0), .int p1, .ref q]) ++ List.replicate (4 - (lg_sl ([.ref (b 6 0), .int p1, .ref q])).length) Slot.unset).toArray = ls at hl ⊢
  have hl : lv_has ls 4 [(0, .ref (b 6 0)), (1, .int p1), (2, .ref q)] := hl
  refine lv_aload_n hx hb dL_present_0 rfl (lv_at hl 2 rfl) ?_
  refine lv_iconst (v := 0) hx hb dL_present_1 (by decide) ?_
  refine lv_aload_n hx hb dL_present_2 rfl (lv_at hl 0 rfl) ?_
  refine lv_iload_n hx hb dL_present_3 rfl (lv_at hl 1 rfl) ?_
  refine hx_call (n := 1) (As := [.int p1]) (rest := [.int 0, .ref q]) (post := fun (r : Int32) (u : Bf) => k0 = 0 ∧ r = r0 ∧ xSame b u) S (c_X8_present l hl0 D cI cF b N u0 φ η τ p1 k0 r0 u0r φr ηr τr hF) (fun r u h => h) aM_RL_29 aI_X8_present aV_X8_present aC_X8_present rfl rfl (by decide +kernel) rfl ⟨Nat.le_of_ble_eq_true rfl, Nat.le_of_ble_eq_true rfl⟩ ⟨Nat.le_of_ble_eq_true rfl, Nat.le_of_ble_eq_true rfl⟩ hP hK hD hT hZ hS hl.1 (Nat.le_of_ble_eq_true rfl) dL_present_4 (fun hne u ce q9 H1 locs1 hsm hP1 hD1 hS1 h9 hv hcl => ?_) (fun h0 u H1 locs1 hsm hP1 hD1 hS1 hu0 => ?_)
  · rcases hk0 with h0 | rfl
    · exact absurd h0 hne
    · refine vx_catch (E := eIO) (name := eIO) hown [] ⟨0, 9, 12, 32⟩ [] htab (fun z hz => absurd hz List.not_mem_nil) rfl (by decide) (hA _ aL_RL_32) (va_Nw.use rfl hT.2.1) h9 hv hcl ?_
      refine lv_astore_n (lv' := [(3, .ref q9), (0, .ref (b 6 0)), (1, .int p1), (2, .ref q)]) hx hb dL_present_12 rfl hl (by decide) rfl (fun ls hl => ?_)
      refine lv_iconst (v := 1) hx hb dL_present_13 (by decide) ?_
      exact W.iret (v := 1) hx hb hr (fun t ht hW => ⟨⟨_, (u, f), rfl, ⟨rfl, hsm, fun z => absurd z (by decide)⟩, by rw [ht]; exact hP1, hD1⟩, hS1.F ht⟩) hS1.2.2 dL_present_14
  · refine lv_i2l hx hb dL_present_7 rfl ?_
    refine hx_st hx hb hK hP1 hD1 hsm.2.2.2.2 hS1 dL_present_8 (fun f1 H2 locs2 e1 hP2 hD2 hS2 => ?_)
    refine lv_goto (tgt := 15) hx hb dL_present_9 (by decide) ?_
    refine lv_iconst (v := 0) hx hb dL_present_15 (by decide) ?_
    exact W.iret (v := 0) hx hb hr (fun t ht hW => ⟨⟨_, (u, f1), rfl, ⟨by rw [h0]; rfl, hsm, fun _ => e1⟩, by rw [ht]; exact hP2, hD2⟩, hS2.F ht⟩) hS2.2.2 dL_present_16
set_option maxHeartbeats 4000000 in
set_option maxRecDepth 100000 in
theorem c_L_add (l : Launch) (hl0 : l.stackTraces = false) (D : va_G) (cI cF cL : ClassId) (b : Bf) (q : Nat) (f : Nat → Int64) (N : Nat) (u0 φ : M2) (η : HT) (τ : M2) (p1 : Int32) (k0 : Nat) (r0 : Int32) (u0r φr : M2) (ηr : HT) (τr : M2) (hF : G_X8_add N u0 φ η τ p1 = some (k0, r0, u0r, φr, ηr, τr)) (hk0 : k0 = 0 ∨ k0 = 1 ∨ k0 = 2) : Met l yL_add (wsH yL_add cL_add 4 (some .int) [(0, 9, 12, 13), (0, 9, 15, 37)]) { frames := 9, cells := 2, slots := 12, locals := 145 } (va_Pc [.ref (b 6 0), .int p1, .ref q] (hPd D cI cF cL b u0 φ η τ q f)) (va_Qi (fun (r : Int32) (z : Bf × (Nat → Int64)) => r = hkc 1 k0 ∧ xSame b z.1 ∧ (k0 = 0 → z.2 0 = r0.toInt64)) (fun z t => va_P D vwCl (hWd cI cF cL z.1 u0r φr ηr τr q z.2) t.heap ∧ va_D (fun _ => True) (hWd cI cF cL z.1 u0r φr ηr τr q z.2)) (hAd b q)) 2 12 (hAd b q) := by
  refine va_MetW (cc := cL_add) (maxL := 4) (ret := (some .int)) (hh := [(0, 9, 12, 13), (0, 9, 15, 37)]) (by decide) rfl ?_
  intro p e s m args below meth c s₁ B hml hpre
  obtain ⟨rfl, hP, hK, hD, hT, hZ, hNc⟩ := hpre
  have hx := B.exec
  have hb := B.bytes
  have hr := B.returns
  have hws := atoms_spec (ws := (wsH yL_add cL_add 4 (some .int) [(0, 9, 12, 13), (0, 9, 15, 37)])) B.pre
  have hA : ∀ w ∈ AW, w.before _ s = true := fun w h => hws w (List.mem_cons_of_mem _ h)
  have htab : c.exceptionTable.toList = [⟨0, 9, 12, 13⟩, ⟨0, 9, 15, 37⟩] := vx_table (x := yL_add) B (hws _ List.mem_cons_self)
  have hown : s.vm.findClass RL = some m.cls := findClass_of_methodNamed B.named
  have hlocks := B.notSynchronized
  have hS : va_S (hAd b q) s.heap s.heap [] := va_S.rf
  have S : CallFix p m c cL_add 4 s ([.ref (b 6 0), .int p1, .ref q] : List Value).toArray AW RL := ⟨hx, hb, hml, hown, hA⟩
  have hl := lv_entry ([.ref (b 6 0), .int p1, .ref q]) (n := 4) (Nat.le_of_ble_eq_true rfl)
  rw [lg_entry_eq]
  generalize (lg_sl ([.ref (b 6 0), .int p1, .ref q]) ++ List.replicate (4 - (lg_sl ([.ref (b 6 0), .int p1, .ref q])).length) Slot.unset).toArray = ls at hl ⊢
  have hl : lv_has ls 4 [(0, .ref (b 6 0)), (1, .int p1), (2, .ref q)] := hl
  refine lv_aload_n hx hb dL_add_0 rfl (lv_at hl 2 rfl) ?_
  refine lv_iconst (v := 0) hx hb dL_add_1 (by decide) ?_
  refine lv_aload_n hx hb dL_add_2 rfl (lv_at hl 0 rfl) ?_
  refine lv_iload_n hx hb dL_add_3 rfl (lv_at hl 1 rfl) ?_
  refine hx_call (n := 1) (As := [.int p1]) (rest := [.int 0, .ref q]) (post := fun (r : Int32) (u : Bf) => k0 = 0 ∧ r = r0 ∧ xSame b u) S (c_X8_add l hl0 D cI cF b N u0 φ η τ p1 k0 r0 u0r φr ηr τr hF) (fun r u h => h) aM_RL_34 aI_X8_add aV_X8_add aC_X8_add rfl rfl (by decide +kernel) rfl ⟨Nat.le_of_ble_eq_true rfl, Nat.le_of_ble_eq_true rfl⟩ ⟨Nat.le_of_ble_eq_true rfl, Nat.le_of_ble_eq_true rfl⟩ hP hK hD hT hZ hS hl.1 (Nat.le_of_ble_eq_true rfl) dL_add_4 (fun hne u ce q9 H1 locs1 hsm hP1 hD1 hS1 h9 hv hcl => ?_) (fun h0 u H1 locs1 hsm hP1 hD1 hS1 hu0 => ?_)
  · rcases hk0 with h0 | rfl | rfl
    · exact absurd h0 hne
    · refine vx_catch (E := eIA) (name := eIA) hown [] ⟨0, 9, 12, 13⟩ [⟨0, 9, 15, 37⟩] htab (fun z hz => absurd hz List.not_mem_nil) rfl (by decide) (hA _ aL_RL_13) (va_Nw.use rfl hT.1) h9 hv hcl ?_
      refine lv_astore_n (lv' := [(3, .ref q9), (0, .ref (b 6 0)), (1, .int p1), (2, .ref q)]) hx hb dL_add_12 rfl hl (by decide) rfl (fun ls hl => ?_)
      refine lv_iconst (v := 1) hx hb dL_add_13 (by decide) ?_
      exact W.iret (v := 1) hx hb hr (fun t ht hW => ⟨⟨_, (u, f), rfl, ⟨rfl, hsm, fun z => absurd z (by decide)⟩, by rw [ht]; exact hP1, hD1⟩, hS1.F ht⟩) hS1.2.2 dL_add_14
    · refine vx_catch (E := eIS) (name := eIS) hown [⟨0, 9, 12, 13⟩] ⟨0, 9, 15, 37⟩ [] htab (fun z hz => by rcases List.mem_singleton.mp hz with rfl; exact Or.inr ⟨by decide, _, hA _ aL_RL_13, hNc.1⟩) rfl (by decide) (hA _ aL_RL_37) (va_Nw.use rfl hT.2.2.1) h9 hv hcl ?_
      refine lv_astore_n (lv' := [(3, .ref q9), (0, .ref (b 6 0)), (1, .int p1), (2, .ref q)]) hx hb dL_add_15 rfl hl (by decide) rfl (fun ls hl => ?_)
      refine lv_iconst (v := 2) hx hb dL_add_16 (by decide) ?_
      exact W.iret (v := 2) hx hb hr (fun t ht hW => ⟨⟨_, (u, f), rfl, ⟨rfl, hsm, fun z => absurd z (by decide)⟩, by rw [ht]; exact hP1, hD1⟩, hS1.F ht⟩) hS1.2.2 dL_add_17
  · refine lv_i2l hx hb dL_add_7 rfl ?_
    refine hx_st hx hb hK hP1 hD1 hsm.2.2.2.2 hS1 dL_add_8 (fun f1 H2 locs2 e1 hP2 hD2 hS2 => ?_)
    refine lv_goto (tgt := 18) hx hb dL_add_9 (by decide) ?_
    refine lv_iconst (v := 0) hx hb dL_add_18 (by decide) ?_
    exact W.iret (v := 0) hx hb hr (fun t ht hW => ⟨⟨_, (u, f1), rfl, ⟨by rw [h0]; rfl, hsm, fun _ => e1⟩, by rw [ht]; exact hP2, hD2⟩, hS2.F ht⟩) hS2.2.2 dL_add_19
set_option maxHeartbeats 4000000 in
set_option maxRecDepth 100000 in
theorem c_L_addShortest (l : Launch) (hl0 : l.stackTraces = false) (D : va_G) (cI cF cL : ClassId) (b : Bf) (q : Nat) (f : Nat → Int64) (N : Nat) (u0 φ : M2) (η : HT) (τ : M2) (p1 : Int32) (k0 : Nat) (r0 : Int32) (u0r φr : M2) (ηr : HT) (τr : M2) (hF : G_X8_addShortest N u0 φ η τ p1 = some (k0, r0, u0r, φr, ηr, τr)) (hk0 : k0 = 0 ∨ k0 = 1 ∨ k0 = 2) : Met l yL_addShortest (wsH yL_addShortest cL_addShortest 4 (some .int) [(0, 9, 12, 13), (0, 9, 15, 37)]) { frames := 9, cells := 2, slots := 12, locals := 145 } (va_Pc [.ref (b 6 0), .int p1, .ref q] (hPd D cI cF cL b u0 φ η τ q f)) (va_Qi (fun (r : Int32) (z : Bf × (Nat → Int64)) => r = hkc 1 k0 ∧ xSame b z.1 ∧ (k0 = 0 → z.2 0 = r0.toInt64)) (fun z t => va_P D vwCl (hWd cI cF cL z.1 u0r φr ηr τr q z.2) t.heap ∧ va_D (fun _ => True) (hWd cI cF cL z.1 u0r φr ηr τr q z.2)) (hAd b q)) 2 12 (hAd b q) := by
  refine va_MetW (cc := cL_addShortest) (maxL := 4) (ret := (some .int)) (hh := [(0, 9, 12, 13), (0, 9, 15, 37)]) (by decide) rfl ?_
  intro p e s m args below meth c s₁ B hml hpre
  obtain ⟨rfl, hP, hK, hD, hT, hZ, hNc⟩ := hpre
  have hx := B.exec
  have hb := B.bytes
  have hr := B.returns
  have hws := atoms_spec (ws := (wsH yL_addShortest cL_addShortest 4 (some .int) [(0, 9, 12, 13), (0, 9, 15, 37)])) B.pre
  have hA : ∀ w ∈ AW, w.before _ s = true := fun w h => hws w (List.mem_cons_of_mem _ h)
  have htab : c.exceptionTable.toList = [⟨0, 9, 12, 13⟩, ⟨0, 9, 15, 37⟩] := vx_table (x := yL_addShortest) B (hws _ List.mem_cons_self)
  have hown : s.vm.findClass RL = some m.cls := findClass_of_methodNamed B.named
  have hlocks := B.notSynchronized
  have hS : va_S (hAd b q) s.heap s.heap [] := va_S.rf
  have S : CallFix p m c cL_addShortest 4 s ([.ref (b 6 0), .int p1, .ref q] : List Value).toArray AW RL := ⟨hx, hb, hml, hown, hA⟩
  have hl := lv_entry ([.ref (b 6 0), .int p1, .ref q]) (n := 4) (Nat.le_of_ble_eq_true rfl)
  rw [lg_entry_eq]
  generalize (lg_sl ([.ref (b 6 0), .int p1, .ref q]) ++ List.replicate (4 - (lg_sl ([.ref (b 6 0), .int p1, .ref q])).length) Slot.unset).toArray = ls at hl ⊢
  have hl : lv_has ls 4 [(0, .ref (b 6 0)), (1, .int p1), (2, .ref q)] := hl
  refine lv_aload_n hx hb dL_addShortest_0 rfl (lv_at hl 2 rfl) ?_
  refine lv_iconst (v := 0) hx hb dL_addShortest_1 (by decide) ?_
  refine lv_aload_n hx hb dL_addShortest_2 rfl (lv_at hl 0 rfl) ?_
  refine lv_iload_n hx hb dL_addShortest_3 rfl (lv_at hl 1 rfl) ?_
  refine hx_call (n := 1) (As := [.int p1]) (rest := [.int 0, .ref q]) (post := fun (r : Int32) (u : Bf) => k0 = 0 ∧ r = r0 ∧ xSame b u) S (c_X8_addShortest l hl0 D cI cF b N u0 φ η τ p1 k0 r0 u0r φr ηr τr hF) (fun r u h => h) aM_RL_39 aI_X8_addShortest aV_X8_addShortest aC_X8_addShortest rfl rfl (by decide +kernel) rfl ⟨Nat.le_of_ble_eq_true rfl, Nat.le_of_ble_eq_true rfl⟩ ⟨Nat.le_of_ble_eq_true rfl, Nat.le_of_ble_eq_true rfl⟩ hP hK hD hT hZ hS hl.1 (Nat.le_of_ble_eq_true rfl) dL_addShortest_4 (fun hne u ce q9 H1 locs1 hsm hP1 hD1 hS1 h9 hv hcl => ?_) (fun h0 u H1 locs1 hsm hP1 hD1 hS1 hu0 => ?_)
  · rcases hk0 with h0 | rfl | rfl
    · exact absurd h0 hne
    · refine vx_catch (E := eIA) (name := eIA) hown [] ⟨0, 9, 12, 13⟩ [⟨0, 9, 15, 37⟩] htab (fun z hz => absurd hz List.not_mem_nil) rfl (by decide) (hA _ aL_RL_13) (va_Nw.use rfl hT.1) h9 hv hcl ?_
      refine lv_astore_n (lv' := [(3, .ref q9), (0, .ref (b 6 0)), (1, .int p1), (2, .ref q)]) hx hb dL_addShortest_12 rfl hl (by decide) rfl (fun ls hl => ?_)
      refine lv_iconst (v := 1) hx hb dL_addShortest_13 (by decide) ?_
      exact W.iret (v := 1) hx hb hr (fun t ht hW => ⟨⟨_, (u, f), rfl, ⟨rfl, hsm, fun z => absurd z (by decide)⟩, by rw [ht]; exact hP1, hD1⟩, hS1.F ht⟩) hS1.2.2 dL_addShortest_14
    · refine vx_catch (E := eIS) (name := eIS) hown [⟨0, 9, 12, 13⟩] ⟨0, 9, 15, 37⟩ [] htab (fun z hz => by rcases List.mem_singleton.mp hz with rfl; exact Or.inr ⟨by decide, _, hA _ aL_RL_13, hNc.1⟩) rfl (by decide) (hA _ aL_RL_37) (va_Nw.use rfl hT.2.2.1) h9 hv hcl ?_
      refine lv_astore_n (lv' := [(3, .ref q9), (0, .ref (b 6 0)), (1, .int p1), (2, .ref q)]) hx hb dL_addShortest_15 rfl hl (by decide) rfl (fun ls hl => ?_)
      refine lv_iconst (v := 2) hx hb dL_addShortest_16 (by decide) ?_
      exact W.iret (v := 2) hx hb hr (fun t ht hW => ⟨⟨_, (u, f), rfl, ⟨rfl, hsm, fun z => absurd z (by decide)⟩, by rw [ht]; exact hP1, hD1⟩, hS1.F ht⟩) hS1.2.2 dL_addShortest_17
  · refine lv_i2l hx hb dL_addShortest_7 rfl ?_
    refine hx_st hx hb hK hP1 hD1 hsm.2.2.2.2 hS1 dL_addShortest_8 (fun f1 H2 locs2 e1 hP2 hD2 hS2 => ?_)
    refine lv_goto (tgt := 18) hx hb dL_addShortest_9 (by decide) ?_
    refine lv_iconst (v := 0) hx hb dL_addShortest_18 (by decide) ?_
    exact W.iret (v := 0) hx hb hr (fun t ht hW => ⟨⟨_, (u, f1), rfl, ⟨by rw [h0]; rfl, hsm, fun _ => e1⟩, by rw [ht]; exact hP2, hD2⟩, hS2.F ht⟩) hS2.2.2 dL_addShortest_19
set_option maxHeartbeats 4000000 in
set_option maxRecDepth 100000 in
theorem c_L_delete (l : Launch) (hl0 : l.stackTraces = false) (D : va_G) (cI cF cL : ClassId) (b : Bf) (q : Nat) (f : Nat → Int64) (N : Nat) (u0 φ : M2) (η : HT) (τ : M2) (p1 : Int32) (k0 : Nat) (r0 : Int32) (u0r φr : M2) (ηr : HT) (τr : M2) (hF : G_X8_delete N u0 φ η τ p1 = some (k0, r0, u0r, φr, ηr, τr)) (hk0 : k0 = 0 ∨ k0 = 1 ∨ k0 = 2) : Met l yL_delete (wsH yL_delete cL_delete 4 (some .int) [(0, 9, 12, 13), (0, 9, 15, 37)]) { frames := 9, cells := 2, slots := 12, locals := 145 } (va_Pc [.ref (b 6 0), .int p1, .ref q] (hPd D cI cF cL b u0 φ η τ q f)) (va_Qi (fun (r : Int32) (z : Bf × (Nat → Int64)) => r = hkc 1 k0 ∧ xSame b z.1 ∧ (k0 = 0 → z.2 0 = r0.toInt64)) (fun z t => va_P D vwCl (hWd cI cF cL z.1 u0r φr ηr τr q z.2) t.heap ∧ va_D (fun _ => True) (hWd cI cF cL z.1 u0r φr ηr τr q z.2)) (hAd b q)) 2 12 (hAd b q) := by
  refine va_MetW (cc := cL_delete) (maxL := 4) (ret := (some .int)) (hh := [(0, 9, 12, 13), (0, 9, 15, 37)]) (by decide) rfl ?_
  intro p e s m args below meth c s₁ B hml hpre
  obtain ⟨rfl, hP, hK, hD, hT, hZ, hNc⟩ := hpre
  have hx := B.exec
  have hb := B.bytes
  have hr := B.returns
  have hws := atoms_spec (ws := (wsH yL_delete cL_delete 4 (some .int) [(0, 9, 12, 13), (0, 9, 15, 37)])) B.pre
  have hA : ∀ w ∈ AW, w.before _ s = true := fun w h => hws w (List.mem_cons_of_mem _ h)
  have htab : c.exceptionTable.toList = [⟨0, 9, 12, 13⟩, ⟨0, 9, 15, 37⟩] := vx_table (x := yL_delete) B (hws _ List.mem_cons_self)
  have hown : s.vm.findClass RL = some m.cls := findClass_of_methodNamed B.named
  have hlocks := B.notSynchronized
  have hS : va_S (hAd b q) s.heap s.heap [] := va_S.rf
  have S : CallFix p m c cL_delete 4 s ([.ref (b 6 0), .int p1, .ref q] : List Value).toArray AW RL := ⟨hx, hb, hml, hown, hA⟩
  have hl := lv_entry ([.ref (b 6 0), .int p1, .ref q]) (n := 4) (Nat.le_of_ble_eq_true rfl)
  rw [lg_entry_eq]
  generalize (lg_sl ([.ref (b 6 0), .int p1, .ref q]) ++ List.replicate (4 - (lg_sl ([.ref (b 6 0), .int p1, .ref q])).length) Slot.unset).toArray = ls at hl ⊢
  have hl : lv_has ls 4 [(0, .ref (b 6 0)), (1, .int p1), (2, .ref q)] := hl
  refine lv_aload_n hx hb dL_delete_0 rfl (lv_at hl 2 rfl) ?_
  refine lv_iconst (v := 0) hx hb dL_delete_1 (by decide) ?_
  refine lv_aload_n hx hb dL_delete_2 rfl (lv_at hl 0 rfl) ?_
  refine lv_iload_n hx hb dL_delete_3 rfl (lv_at hl 1 rfl) ?_
  refine hx_call (n := 1) (As := [.int p1]) (rest := [.int 0, .ref q]) (post := fun (r : Int32) (u : Bf) => k0 = 0 ∧ r = r0 ∧ xSame b u) S (c_X8_delete l hl0 D cI cF b N u0 φ η τ p1 k0 r0 u0r φr ηr τr hF) (fun r u h => h) aM_RL_42 aI_X8_delete aV_X8_delete aC_X8_delete rfl rfl (by decide +kernel) rfl ⟨Nat.le_of_ble_eq_true rfl, Nat.le_of_ble_eq_true rfl⟩ ⟨Nat.le_of_ble_eq_true rfl, Nat.le_of_ble_eq_true rfl⟩ hP hK hD hT hZ hS hl.1 (Nat.le_of_ble_eq_true rfl) dL_delete_4 (fun hne u ce q9 H1 locs1 hsm hP1 hD1 hS1 h9 hv hcl => ?_) (fun h0 u H1 locs1 hsm hP1 hD1 hS1 hu0 => ?_)
  · rcases hk0 with h0 | rfl | rfl
    · exact absurd h0 hne
    · refine vx_catch (E := eIA) (name := eIA) hown [] ⟨0, 9, 12, 13⟩ [⟨0, 9, 15, 37⟩] htab (fun z hz => absurd hz List.not_mem_nil) rfl (by decide) (hA _ aL_RL_13) (va_Nw.use rfl hT.1) h9 hv hcl ?_
      refine lv_astore_n (lv' := [(3, .ref q9), (0, .ref (b 6 0)), (1, .int p1), (2, .ref q)]) hx hb dL_delete_12 rfl hl (by decide) rfl (fun ls hl => ?_)
      refine lv_iconst (v := 1) hx hb dL_delete_13 (by decide) ?_
      exact W.iret (v := 1) hx hb hr (fun t ht hW => ⟨⟨_, (u, f), rfl, ⟨rfl, hsm, fun z => absurd z (by decide)⟩, by rw [ht]; exact hP1, hD1⟩, hS1.F ht⟩) hS1.2.2 dL_delete_14
    · refine vx_catch (E := eIS) (name := eIS) hown [⟨0, 9, 12, 13⟩] ⟨0, 9, 15, 37⟩ [] htab (fun z hz => by rcases List.mem_singleton.mp hz with rfl; exact Or.inr ⟨by decide, _, hA _ aL_RL_13, hNc.1⟩) rfl (by decide) (hA _ aL_RL_37) (va_Nw.use rfl hT.2.2.1) h9 hv hcl ?_
      refine lv_astore_n (lv' := [(3, .ref q9), (0, .ref (b 6 0)), (1, .int p1), (2, .ref q)]) hx hb dL_delete_15 rfl hl (by decide) rfl (fun ls hl => ?_)
      refine lv_iconst (v := 2) hx hb dL_delete_16 (by decide) ?_
      exact W.iret (v := 2) hx hb hr (fun t ht hW => ⟨⟨_, (u, f), rfl, ⟨rfl, hsm, fun z => absurd z (by decide)⟩, by rw [ht]; exact hP1, hD1⟩, hS1.F ht⟩) hS1.2.2 dL_delete_17
  · refine lv_i2l hx hb dL_delete_7 rfl ?_
    refine hx_st hx hb hK hP1 hD1 hsm.2.2.2.2 hS1 dL_delete_8 (fun f1 H2 locs2 e1 hP2 hD2 hS2 => ?_)
    refine lv_goto (tgt := 18) hx hb dL_delete_9 (by decide) ?_
    refine lv_iconst (v := 0) hx hb dL_delete_18 (by decide) ?_
    exact W.iret (v := 0) hx hb hr (fun t ht hW => ⟨⟨_, (u, f1), rfl, ⟨by rw [h0]; rfl, hsm, fun _ => e1⟩, by rw [ht]; exact hP2, hD2⟩, hS2.F ht⟩) hS2.2.2 dL_delete_19
set_option maxHeartbeats 4000000 in
set_option maxRecDepth 100000 in
theorem c_L_grow (l : Launch) (hl0 : l.stackTraces = false) (D : va_G) (cI cF cL : ClassId) (b : Bf) (q : Nat) (f : Nat → Int64) (N : Nat) (u0 φ : M2) (η : HT) (τ : M2) (k0 : Nat) (r0 : Int32) (u0r φr : M2) (ηr : HT) (τr : M2) (hF : G_X8_grow N u0 φ η τ = some (k0, r0, u0r, φr, ηr, τr)) (hk0 : k0 = 0 ∨ k0 = 2) : Met l yL_grow (wsH yL_grow cL_grow 3 (some .int) [(0, 8, 11, 37)]) { frames := 8, cells := 1, slots := 6, locals := 144 } (va_Pc [.ref (b 6 0), .ref q] (hPd D cI cF cL b u0 φ η τ q f)) (va_Qi (fun (r : Int32) (z : Bf × (Nat → Int64)) => r = hkc 2 k0 ∧ xSame b z.1 ∧ (k0 = 0 → z.2 0 = r0.toInt64)) (fun z t => va_P D vwCl (hWd cI cF cL z.1 u0r φr ηr τr q z.2) t.heap ∧ va_D (fun _ => True) (hWd cI cF cL z.1 u0r φr ηr τr q z.2)) (hAd b q)) 1 6 (hAd b q) := by
  refine va_MetW (cc := cL_grow) (maxL := 3) (ret := (some .int)) (hh := [(0, 8, 11, 37)]) (by decide) rfl ?_
  intro p e s m args below meth c s₁ B hml hpre
  obtain ⟨rfl, hP, hK, hD, hT, hZ, hNc⟩ := hpre
  have hx := B.exec
  have hb := B.bytes
  have hr := B.returns
  have hws := atoms_spec (ws := (wsH yL_grow cL_grow 3 (some .int) [(0, 8, 11, 37)])) B.pre
  have hA : ∀ w ∈ AW, w.before _ s = true := fun w h => hws w (List.mem_cons_of_mem _ h)
  have htab : c.exceptionTable.toList = [⟨0, 8, 11, 37⟩] := vx_table (x := yL_grow) B (hws _ List.mem_cons_self)
  have hown : s.vm.findClass RL = some m.cls := findClass_of_methodNamed B.named
  have hlocks := B.notSynchronized
  have hS : va_S (hAd b q) s.heap s.heap [] := va_S.rf
  have S : CallFix p m c cL_grow 3 s ([.ref (b 6 0), .ref q] : List Value).toArray AW RL := ⟨hx, hb, hml, hown, hA⟩
  have hl := lv_entry ([.ref (b 6 0), .ref q]) (n := 3) (Nat.le_of_ble_eq_true rfl)
  rw [lg_entry_eq]
  generalize (lg_sl ([.ref (b 6 0), .ref q]) ++ List.replicate (3 - (lg_sl ([.ref (b 6 0), .ref q])).length) Slot.unset).toArray = ls at hl ⊢
  have hl : lv_has ls 3 [(0, .ref (b 6 0)), (1, .ref q)] := hl
  refine lv_aload_n hx hb dL_grow_0 rfl (lv_at hl 1 rfl) ?_
  refine lv_iconst (v := 0) hx hb dL_grow_1 (by decide) ?_
  refine lv_aload_n hx hb dL_grow_2 rfl (lv_at hl 0 rfl) ?_
  refine hx_call (n := 0) (As := []) (rest := [.int 0, .ref q]) (post := fun (r : Int32) (u : Bf) => k0 = 0 ∧ r = r0 ∧ xSame b u) S (c_X8_grow l hl0 D cI cF b N u0 φ η τ k0 r0 u0r φr ηr τr hF) (fun r u h => h) aM_RL_45 aI_X8_grow aV_X8_grow aC_X8_grow rfl rfl (by decide +kernel) rfl ⟨Nat.le_of_ble_eq_true rfl, Nat.le_of_ble_eq_true rfl⟩ ⟨Nat.le_of_ble_eq_true rfl, Nat.le_of_ble_eq_true rfl⟩ hP hK hD hT hZ hS hl.1 (Nat.le_of_ble_eq_true rfl) dL_grow_3 (fun hne u ce q9 H1 locs1 hsm hP1 hD1 hS1 h9 hv hcl => ?_) (fun h0 u H1 locs1 hsm hP1 hD1 hS1 hu0 => ?_)
  · rcases hk0 with h0 | rfl
    · exact absurd h0 hne
    · refine vx_catch (E := eIS) (name := eIS) hown [] ⟨0, 8, 11, 37⟩ [] htab (fun z hz => absurd hz List.not_mem_nil) rfl (by decide) (hA _ aL_RL_37) (va_Nw.use rfl hT.2.2.1) h9 hv hcl ?_
      refine lv_astore_n (lv' := [(2, .ref q9), (0, .ref (b 6 0)), (1, .ref q)]) hx hb dL_grow_11 rfl hl (by decide) rfl (fun ls hl => ?_)
      refine lv_iconst (v := 1) hx hb dL_grow_12 (by decide) ?_
      exact W.iret (v := 1) hx hb hr (fun t ht hW => ⟨⟨_, (u, f), rfl, ⟨rfl, hsm, fun z => absurd z (by decide)⟩, by rw [ht]; exact hP1, hD1⟩, hS1.F ht⟩) hS1.2.2 dL_grow_13
  · refine lv_i2l hx hb dL_grow_6 rfl ?_
    refine hx_st hx hb hK hP1 hD1 hsm.2.2.2.2 hS1 dL_grow_7 (fun f1 H2 locs2 e1 hP2 hD2 hS2 => ?_)
    refine lv_goto (tgt := 14) hx hb dL_grow_8 (by decide) ?_
    refine lv_iconst (v := 0) hx hb dL_grow_14 (by decide) ?_
    exact W.iret (v := 0) hx hb hr (fun t ht hW => ⟨⟨_, (u, f1), rfl, ⟨by rw [h0]; rfl, hsm, fun _ => e1⟩, by rw [ht]; exact hP2, hD2⟩, hS2.F ht⟩) hS2.2.2 dL_grow_15
set_option maxHeartbeats 4000000 in
set_option maxRecDepth 100000 in
theorem c_L_rebuild (l : Launch) (hl0 : l.stackTraces = false) (D : va_G) (cI cF cL : ClassId) (b : Bf) (q : Nat) (f : Nat → Int64) (N : Nat) (u0 φ : M2) (η : HT) (τ : M2) (p1 : Int32) (p2 : Int32) (p3 : Int32) (p4 : Int32) (k0 : Nat) (r0 : Int32) (u0r φr : M2) (ηr : HT) (τr : M2) (hF : G_X8_rebuild N u0 φ η τ p1 p2 p3 p4 = some (k0, r0, u0r, φr, ηr, τr)) (hk0 : k0 = 0 ∨ k0 = 1 ∨ k0 = 2) : Met l yL_rebuild (wsH yL_rebuild cL_rebuild 7 (some .int) [(0, 14, 17, 13), (0, 14, 21, 37)]) { frames := 8, cells := 5, slots := 30, locals := 149 } (va_Pc [.ref (b 6 0), .int p1, .int p2, .int p3, .int p4, .ref q] (hPd D cI cF cL b u0 φ η τ q f)) (va_Qi (fun (r : Int32) (z : Bf × (Nat → Int64)) => r = hkc 1 k0 ∧ xSame b z.1 ∧ (k0 = 0 → z.2 0 = r0.toInt64)) (fun z t => va_P D vwCl (hWd cI cF cL z.1 u0r φr ηr τr q z.2) t.heap ∧ va_D (fun _ => True) (hWd cI cF cL z.1 u0r φr ηr τr q z.2)) (hAd b q)) 5 30 (hAd b q) := by
  refine va_MetW (cc := cL_rebuild) (maxL := 7) (ret := (some .int)) (hh := [(0, 14, 17, 13), (0, 14, 21, 37)]) (by decide) rfl ?_
  intro p e s m args below meth c s₁ B hml hpre
  obtain ⟨rfl, hP, hK, hD, hT, hZ, hNc⟩ := hpre
  have hx := B.exec
  have hb := B.bytes
  have hr := B.returns
  have hws := atoms_spec (ws := (wsH yL_rebuild cL_rebuild 7 (some .int) [(0, 14, 17, 13), (0, 14, 21, 37)])) B.pre
  have hA : ∀ w ∈ AW, w.before _ s = true := fun w h => hws w (List.mem_cons_of_mem _ h)
  have htab : c.exceptionTable.toList = [⟨0, 14, 17, 13⟩, ⟨0, 14, 21, 37⟩] := vx_table (x := yL_rebuild) B (hws _ List.mem_cons_self)
  have hown : s.vm.findClass RL = some m.cls := findClass_of_methodNamed B.named
  have hlocks := B.notSynchronized
  have hS : va_S (hAd b q) s.heap s.heap [] := va_S.rf
  have S : CallFix p m c cL_rebuild 7 s ([.ref (b 6 0), .int p1, .int p2, .int p3, .int p4, .ref q] : List Value).toArray AW RL := ⟨hx, hb, hml, hown, hA⟩
  have hl := lv_entry ([.ref (b 6 0), .int p1, .int p2, .int p3, .int p4, .ref q]) (n := 7) (Nat.le_of_ble_eq_true rfl)
  rw [lg_entry_eq]
  generalize (lg_sl ([.ref (b 6 0), .int p1, .int p2, .int p3, .int p4, .ref q]) ++ List.replicate (7 - (lg_sl ([.ref (b 6 0), .int p1, .int p2, .int p3, .int p4, .ref q])).length) Slot.unset).toArray = ls at hl ⊢
  have hl : lv_has ls 7 [(0, .ref (b 6 0)), (1, .int p1), (2, .int p2), (3, .int p3), (4, .int p4), (5, .ref q)] := hl
  refine lv_aload hx hb dL_rebuild_0 (lv_at hl 5 rfl) ?_
  refine lv_iconst (v := 0) hx hb dL_rebuild_2 (by decide) ?_
  refine lv_aload_n hx hb dL_rebuild_3 rfl (lv_at hl 0 rfl) ?_
  refine lv_iload_n hx hb dL_rebuild_4 rfl (lv_at hl 1 rfl) ?_
  refine lv_iload_n hx hb dL_rebuild_5 rfl (lv_at hl 2 rfl) ?_
  refine lv_iload_n hx hb dL_rebuild_6 rfl (lv_at hl 3 rfl) ?_
  refine lv_iload hx hb dL_rebuild_7 (lv_at hl 4 rfl) ?_
  refine hx_call (n := 4) (As := [.int p1, .int p2, .int p3, .int p4]) (rest := [.int 0, .ref q]) (post := fun (r : Int32) (u : Bf) => k0 = 0 ∧ r = r0 ∧ xSame b u) S (c_X8_rebuild l hl0 D cI cF b N u0 φ η τ p1 p2 p3 p4 k0 r0 u0r φr ηr τr hF) (fun r u h => h) aM_RL_49 aI_X8_rebuild aV_X8_rebuild aC_X8_rebuild rfl rfl (by decide +kernel) rfl ⟨Nat.le_of_ble_eq_true rfl, Nat.le_of_ble_eq_true rfl⟩ ⟨Nat.le_of_ble_eq_true rfl, Nat.le_of_ble_eq_true rfl⟩ hP hK hD hT hZ hS hl.1 (Nat.le_of_ble_eq_true rfl) dL_rebuild_9 (fun hne u ce q9 H1 locs1 hsm hP1 hD1 hS1 h9 hv hcl => ?_) (fun h0 u H1 locs1 hsm hP1 hD1 hS1 hu0 => ?_)
  · rcases hk0 with h0 | rfl | rfl
    · exact absurd h0 hne
    · refine vx_catch (E := eIA) (name := eIA) hown [] ⟨0, 14, 17, 13⟩ [⟨0, 14, 21, 37⟩] htab (fun z hz => absurd hz List.not_mem_nil) rfl (by decide) (hA _ aL_RL_13) (va_Nw.use rfl hT.1) h9 hv hcl ?_
      refine lv_astore (lv' := [(6, .ref q9), (0, .ref (b 6 0)), (1, .int p1), (2, .int p2), (3, .int p3), (4, .int p4), (5, .ref q)]) hx hb dL_rebuild_17 hl (by decide) rfl (fun ls hl => ?_)
      refine lv_iconst (v := 1) hx hb dL_rebuild_19 (by decide) ?_
      exact W.iret (v := 1) hx hb hr (fun t ht hW => ⟨⟨_, (u, f), rfl, ⟨rfl, hsm, fun z => absurd z (by decide)⟩, by rw [ht]; exact hP1, hD1⟩, hS1.F ht⟩) hS1.2.2 dL_rebuild_20
    · refine vx_catch (E := eIS) (name := eIS) hown [⟨0, 14, 17, 13⟩] ⟨0, 14, 21, 37⟩ [] htab (fun z hz => by rcases List.mem_singleton.mp hz with rfl; exact Or.inr ⟨by decide, _, hA _ aL_RL_13, hNc.1⟩) rfl (by decide) (hA _ aL_RL_37) (va_Nw.use rfl hT.2.2.1) h9 hv hcl ?_
      refine lv_astore (lv' := [(6, .ref q9), (0, .ref (b 6 0)), (1, .int p1), (2, .int p2), (3, .int p3), (4, .int p4), (5, .ref q)]) hx hb dL_rebuild_21 hl (by decide) rfl (fun ls hl => ?_)
      refine lv_iconst (v := 2) hx hb dL_rebuild_23 (by decide) ?_
      exact W.iret (v := 2) hx hb hr (fun t ht hW => ⟨⟨_, (u, f), rfl, ⟨rfl, hsm, fun z => absurd z (by decide)⟩, by rw [ht]; exact hP1, hD1⟩, hS1.F ht⟩) hS1.2.2 dL_rebuild_24
  · refine lv_i2l hx hb dL_rebuild_12 rfl ?_
    refine hx_st hx hb hK hP1 hD1 hsm.2.2.2.2 hS1 dL_rebuild_13 (fun f1 H2 locs2 e1 hP2 hD2 hS2 => ?_)
    refine lv_goto (tgt := 25) hx hb dL_rebuild_14 (by decide) ?_
    refine lv_iconst (v := 0) hx hb dL_rebuild_25 (by decide) ?_
    exact W.iret (v := 0) hx hb hr (fun t ht hW => ⟨⟨_, (u, f1), rfl, ⟨by rw [h0]; rfl, hsm, fun _ => e1⟩, by rw [ht]; exact hP2, hD2⟩, hS2.F ht⟩) hS2.2.2 dL_rebuild_26
set_option maxHeartbeats 4000000 in
set_option maxRecDepth 100000 in
theorem c_L_setLimit (l : Launch) (hl0 : l.stackTraces = false) (D : va_G) (cI cF cL : ClassId) (b : Bf) (q : Nat) (f : Nat → Int64) (N : Nat) (u0 φ : M2) (η : HT) (τ : M2) (p1 : Int32) (k0 : Nat) (r0 : Int32) (u0r φr : M2) (ηr : HT) (τr : M2) (hF : G_X8_setLimit N u0 φ η τ p1 = some (k0, r0, u0r, φr, ηr, τr)) (hk0 : k0 = 0 ∨ k0 = 1) : Met l yL_setLimit (wsH yL_setLimit cL_setLimit 4 (some .int) [(0, 9, 12, 13)]) { frames := 8, cells := 1, slots := 6, locals := 124 } (va_Pc [.ref (b 6 0), .int p1, .ref q] (hPd D cI cF cL b u0 φ η τ q f)) (va_Qi (fun (r : Int32) (z : Bf × (Nat → Int64)) => r = hkc 1 k0 ∧ xSame b z.1 ∧ (k0 = 0 → z.2 0 = r0.toInt64)) (fun z t => va_P D vwCl (hWd cI cF cL z.1 u0r φr ηr τr q z.2) t.heap ∧ va_D (fun _ => True) (hWd cI cF cL z.1 u0r φr ηr τr q z.2)) (hAd b q)) 1 6 (hAd b q) := by
  refine va_MetW (cc := cL_setLimit) (maxL := 4) (ret := (some .int)) (hh := [(0, 9, 12, 13)]) (by decide) rfl ?_
  intro p e s m args below meth c s₁ B hml hpre
  obtain ⟨rfl, hP, hK, hD, hT, hZ, hNc⟩ := hpre
  have hx := B.exec
  have hb := B.bytes
  have hr := B.returns
  have hws := atoms_spec (ws := (wsH yL_setLimit cL_setLimit 4 (some .int) [(0, 9, 12, 13)])) B.pre
  have hA : ∀ w ∈ AW, w.before _ s = true := fun w h => hws w (List.mem_cons_of_mem _ h)
  have htab : c.exceptionTable.toList = [⟨0, 9, 12, 13⟩] := vx_table (x := yL_setLimit) B (hws _ List.mem_cons_self)
  have hown : s.vm.findClass RL = some m.cls := findClass_of_methodNamed B.named
  have hlocks := B.notSynchronized
  have hS : va_S (hAd b q) s.heap s.heap [] := va_S.rf
  have S : CallFix p m c cL_setLimit 4 s ([.ref (b 6 0), .int p1, .ref q] : List Value).toArray AW RL := ⟨hx, hb, hml, hown, hA⟩
  have hl := lv_entry ([.ref (b 6 0), .int p1, .ref q]) (n := 4) (Nat.le_of_ble_eq_true rfl)
  rw [lg_entry_eq]
  generalize (lg_sl ([.ref (b 6 0), .int p1, .ref q]) ++ List.replicate (4 - (lg_sl ([.ref (b 6 0), .int p1, .ref q])).length) Slot.unset).toArray = ls at hl ⊢
  have hl : lv_has ls 4 [(0, .ref (b 6 0)), (1, .int p1), (2, .ref q)] := hl
  refine lv_aload_n hx hb dL_setLimit_0 rfl (lv_at hl 2 rfl) ?_
  refine lv_iconst (v := 0) hx hb dL_setLimit_1 (by decide) ?_
  refine lv_aload_n hx hb dL_setLimit_2 rfl (lv_at hl 0 rfl) ?_
  refine lv_iload_n hx hb dL_setLimit_3 rfl (lv_at hl 1 rfl) ?_
  refine hx_call (n := 1) (As := [.int p1]) (rest := [.int 0, .ref q]) (post := fun (r : Int32) (u : Bf) => k0 = 0 ∧ r = r0 ∧ xSame b u) S (c_X8_setLimit l hl0 D cI cF b N u0 φ η τ p1 k0 r0 u0r φr ηr τr hF) (fun r u h => h) aM_RL_53 aI_X8_setLimit aV_X8_setLimit aC_X8_setLimit rfl rfl (by decide +kernel) rfl ⟨Nat.le_of_ble_eq_true rfl, Nat.le_of_ble_eq_true rfl⟩ ⟨Nat.le_of_ble_eq_true rfl, Nat.le_of_ble_eq_true rfl⟩ hP hK hD hT hZ hS hl.1 (Nat.le_of_ble_eq_true rfl) dL_setLimit_4 (fun hne u ce q9 H1 locs1 hsm hP1 hD1 hS1 h9 hv hcl => ?_) (fun h0 u H1 locs1 hsm hP1 hD1 hS1 hu0 => ?_)
  · rcases hk0 with h0 | rfl
    · exact absurd h0 hne
    · refine vx_catch (E := eIA) (name := eIA) hown [] ⟨0, 9, 12, 13⟩ [] htab (fun z hz => absurd hz List.not_mem_nil) rfl (by decide) (hA _ aL_RL_13) (va_Nw.use rfl hT.1) h9 hv hcl ?_
      refine lv_astore_n (lv' := [(3, .ref q9), (0, .ref (b 6 0)), (1, .int p1), (2, .ref q)]) hx hb dL_setLimit_12 rfl hl (by decide) rfl (fun ls hl => ?_)
      refine lv_iconst (v := 1) hx hb dL_setLimit_13 (by decide) ?_
      exact W.iret (v := 1) hx hb hr (fun t ht hW => ⟨⟨_, (u, f), rfl, ⟨rfl, hsm, fun z => absurd z (by decide)⟩, by rw [ht]; exact hP1, hD1⟩, hS1.F ht⟩) hS1.2.2 dL_setLimit_14
  · refine lv_i2l hx hb dL_setLimit_7 rfl ?_
    refine hx_st hx hb hK hP1 hD1 hsm.2.2.2.2 hS1 dL_setLimit_8 (fun f1 H2 locs2 e1 hP2 hD2 hS2 => ?_)
    refine lv_goto (tgt := 15) hx hb dL_setLimit_9 (by decide) ?_
    refine lv_iconst (v := 0) hx hb dL_setLimit_15 (by decide) ?_
    exact W.iret (v := 0) hx hb hr (fun t ht hW => ⟨⟨_, (u, f1), rfl, ⟨by rw [h0]; rfl, hsm, fun _ => e1⟩, by rw [ht]; exact hP2, hD2⟩, hS2.F ht⟩) hS2.2.2 dL_setLimit_16
set_option maxHeartbeats 4000000 in
set_option maxRecDepth 100000 in
theorem c_L_setLength (l : Launch) (hl0 : l.stackTraces = false) (D : va_G) (cI cF cL : ClassId) (b : Bf) (q : Nat) (f : Nat → Int64) (N : Nat) (u0 φ : M2) (η : HT) (τ : M2) (p1 : Int32) (k0 : Nat) (r0 : Int32) (u0r φr : M2) (ηr : HT) (τr : M2) (hF : G_X8_setLength N u0 φ η τ p1 = some (k0, r0, u0r, φr, ηr, τr)) (hk0 : k0 = 0 ∨ k0 = 1) : Met l yL_setLength (wsH yL_setLength cL_setLength 4 (some .int) [(0, 9, 12, 13)]) { frames := 8, cells := 1, slots := 6, locals := 124 } (va_Pc [.ref (b 6 0), .int p1, .ref q] (hPd D cI cF cL b u0 φ η τ q f)) (va_Qi (fun (r : Int32) (z : Bf × (Nat → Int64)) => r = hkc 1 k0 ∧ xSame b z.1 ∧ (k0 = 0 → z.2 0 = r0.toInt64)) (fun z t => va_P D vwCl (hWd cI cF cL z.1 u0r φr ηr τr q z.2) t.heap ∧ va_D (fun _ => True) (hWd cI cF cL z.1 u0r φr ηr τr q z.2)) (hAd b q)) 1 6 (hAd b q) := by
  refine va_MetW (cc := cL_setLength) (maxL := 4) (ret := (some .int)) (hh := [(0, 9, 12, 13)]) (by decide) rfl ?_
  intro p e s m args below meth c s₁ B hml hpre
  obtain ⟨rfl, hP, hK, hD, hT, hZ, hNc⟩ := hpre
  have hx := B.exec
  have hb := B.bytes
  have hr := B.returns
  have hws := atoms_spec (ws := (wsH yL_setLength cL_setLength 4 (some .int) [(0, 9, 12, 13)])) B.pre
  have hA : ∀ w ∈ AW, w.before _ s = true := fun w h => hws w (List.mem_cons_of_mem _ h)
  have htab : c.exceptionTable.toList = [⟨0, 9, 12, 13⟩] := vx_table (x := yL_setLength) B (hws _ List.mem_cons_self)
  have hown : s.vm.findClass RL = some m.cls := findClass_of_methodNamed B.named
  have hlocks := B.notSynchronized
  have hS : va_S (hAd b q) s.heap s.heap [] := va_S.rf
  have S : CallFix p m c cL_setLength 4 s ([.ref (b 6 0), .int p1, .ref q] : List Value).toArray AW RL := ⟨hx, hb, hml, hown, hA⟩
  have hl := lv_entry ([.ref (b 6 0), .int p1, .ref q]) (n := 4) (Nat.le_of_ble_eq_true rfl)
  rw [lg_entry_eq]
  generalize (lg_sl ([.ref (b 6 0), .int p1, .ref q]) ++ List.replicate (4 - (lg_sl ([.ref (b 6 0), .int p1, .ref q])).length) Slot.unset).toArray = ls at hl ⊢
  have hl : lv_has ls 4 [(0, .ref (b 6 0)), (1, .int p1), (2, .ref q)] := hl
  refine lv_aload_n hx hb dL_setLength_0 rfl (lv_at hl 2 rfl) ?_
  refine lv_iconst (v := 0) hx hb dL_setLength_1 (by decide) ?_
  refine lv_aload_n hx hb dL_setLength_2 rfl (lv_at hl 0 rfl) ?_
  refine lv_iload_n hx hb dL_setLength_3 rfl (lv_at hl 1 rfl) ?_
  refine hx_call (n := 1) (As := [.int p1]) (rest := [.int 0, .ref q]) (post := fun (r : Int32) (u : Bf) => k0 = 0 ∧ r = r0 ∧ xSame b u) S (c_X8_setLength l hl0 D cI cF b N u0 φ η τ p1 k0 r0 u0r φr ηr τr hF) (fun r u h => h) aM_RL_56 aI_X8_setLength aV_X8_setLength aC_X8_setLength rfl rfl (by decide +kernel) rfl ⟨Nat.le_of_ble_eq_true rfl, Nat.le_of_ble_eq_true rfl⟩ ⟨Nat.le_of_ble_eq_true rfl, Nat.le_of_ble_eq_true rfl⟩ hP hK hD hT hZ hS hl.1 (Nat.le_of_ble_eq_true rfl) dL_setLength_4 (fun hne u ce q9 H1 locs1 hsm hP1 hD1 hS1 h9 hv hcl => ?_) (fun h0 u H1 locs1 hsm hP1 hD1 hS1 hu0 => ?_)
  · rcases hk0 with h0 | rfl
    · exact absurd h0 hne
    · refine vx_catch (E := eIA) (name := eIA) hown [] ⟨0, 9, 12, 13⟩ [] htab (fun z hz => absurd hz List.not_mem_nil) rfl (by decide) (hA _ aL_RL_13) (va_Nw.use rfl hT.1) h9 hv hcl ?_
      refine lv_astore_n (lv' := [(3, .ref q9), (0, .ref (b 6 0)), (1, .int p1), (2, .ref q)]) hx hb dL_setLength_12 rfl hl (by decide) rfl (fun ls hl => ?_)
      refine lv_iconst (v := 1) hx hb dL_setLength_13 (by decide) ?_
      exact W.iret (v := 1) hx hb hr (fun t ht hW => ⟨⟨_, (u, f), rfl, ⟨rfl, hsm, fun z => absurd z (by decide)⟩, by rw [ht]; exact hP1, hD1⟩, hS1.F ht⟩) hS1.2.2 dL_setLength_14
  · refine lv_i2l hx hb dL_setLength_7 rfl ?_
    refine hx_st hx hb hK hP1 hD1 hsm.2.2.2.2 hS1 dL_setLength_8 (fun f1 H2 locs2 e1 hP2 hD2 hS2 => ?_)
    refine lv_goto (tgt := 15) hx hb dL_setLength_9 (by decide) ?_
    refine lv_iconst (v := 0) hx hb dL_setLength_15 (by decide) ?_
    exact W.iret (v := 0) hx hb hr (fun t ht hW => ⟨⟨_, (u, f1), rfl, ⟨by rw [h0]; rfl, hsm, fun _ => e1⟩, by rw [ht]; exact hP2, hD2⟩, hS2.F ht⟩) hS2.2.2 dL_setLength_16
set_option maxHeartbeats 4000000 in
set_option maxRecDepth 100000 in
theorem c_L_info (l : Launch) (hl0 : l.stackTraces = false) (D : va_G) (cI cF cL : ClassId) (b : Bf) (q : Nat) (f : Nat → Int64) (N : Nat) (u0 φ : M2) (η : HT) (τ : M2) (p1 : Int32) (k0 : Nat) (r0 : Int32) (u0r φr : M2) (ηr : HT) (τr : M2) (hF : G_X8_info N u0 φ η τ p1 = some (k0, r0, u0r, φr, ηr, τr)) (hk0 : k0 = 0 ∨ k0 = 1) : Met l yL_info (wsH yL_info cL_info 4 (some .int) [(0, 9, 12, 13)]) { frames := 8, cells := 1, slots := 6, locals := 126 } (va_Pc [.ref (b 6 0), .int p1, .ref q] (hPd D cI cF cL b u0 φ η τ q f)) (va_Qi (fun (r : Int32) (z : Bf × (Nat → Int64)) => r = hkc 1 k0 ∧ xSame b z.1 ∧ (k0 = 0 → z.2 0 = r0.toInt64)) (fun z t => va_P D vwCl (hWd cI cF cL z.1 u0r φr ηr τr q z.2) t.heap ∧ va_D (fun _ => True) (hWd cI cF cL z.1 u0r φr ηr τr q z.2)) (hAd b q)) 1 6 (hAd b q) := by
  refine va_MetW (cc := cL_info) (maxL := 4) (ret := (some .int)) (hh := [(0, 9, 12, 13)]) (by decide) rfl ?_
  intro p e s m args below meth c s₁ B hml hpre
  obtain ⟨rfl, hP, hK, hD, hT, hZ, hNc⟩ := hpre
  have hx := B.exec
  have hb := B.bytes
  have hr := B.returns
  have hws := atoms_spec (ws := (wsH yL_info cL_info 4 (some .int) [(0, 9, 12, 13)])) B.pre
  have hA : ∀ w ∈ AW, w.before _ s = true := fun w h => hws w (List.mem_cons_of_mem _ h)
  have htab : c.exceptionTable.toList = [⟨0, 9, 12, 13⟩] := vx_table (x := yL_info) B (hws _ List.mem_cons_self)
  have hown : s.vm.findClass RL = some m.cls := findClass_of_methodNamed B.named
  have hlocks := B.notSynchronized
  have hS : va_S (hAd b q) s.heap s.heap [] := va_S.rf
  have S : CallFix p m c cL_info 4 s ([.ref (b 6 0), .int p1, .ref q] : List Value).toArray AW RL := ⟨hx, hb, hml, hown, hA⟩
  have hl := lv_entry ([.ref (b 6 0), .int p1, .ref q]) (n := 4) (Nat.le_of_ble_eq_true rfl)
  rw [lg_entry_eq]
  generalize (lg_sl ([.ref (b 6 0), .int p1, .ref q]) ++ List.replicate (4 - (lg_sl ([.ref (b 6 0), .int p1, .ref q])).length) Slot.unset).toArray = ls at hl ⊢
  have hl : lv_has ls 4 [(0, .ref (b 6 0)), (1, .int p1), (2, .ref q)] := hl
  refine lv_aload_n hx hb dL_info_0 rfl (lv_at hl 2 rfl) ?_
  refine lv_iconst (v := 0) hx hb dL_info_1 (by decide) ?_
  refine lv_aload_n hx hb dL_info_2 rfl (lv_at hl 0 rfl) ?_
  refine lv_iload_n hx hb dL_info_3 rfl (lv_at hl 1 rfl) ?_
  refine hx_call (n := 1) (As := [.int p1]) (rest := [.int 0, .ref q]) (post := fun (r : Int32) (u : Bf) => k0 = 0 ∧ r = r0 ∧ xSame b u) S (c_X8_info l hl0 D cI cF b N u0 φ η τ p1 k0 r0 u0r φr ηr τr hF) (fun r u h => h) aM_RL_59 aI_X8_info aV_X8_info aC_X8_info rfl rfl (by decide +kernel) rfl ⟨Nat.le_of_ble_eq_true rfl, Nat.le_of_ble_eq_true rfl⟩ ⟨Nat.le_of_ble_eq_true rfl, Nat.le_of_ble_eq_true rfl⟩ hP hK hD hT hZ hS hl.1 (Nat.le_of_ble_eq_true rfl) dL_info_4 (fun hne u ce q9 H1 locs1 hsm hP1 hD1 hS1 h9 hv hcl => ?_) (fun h0 u H1 locs1 hsm hP1 hD1 hS1 hu0 => ?_)
  · rcases hk0 with h0 | rfl
    · exact absurd h0 hne
    · refine vx_catch (E := eIA) (name := eIA) hown [] ⟨0, 9, 12, 13⟩ [] htab (fun z hz => absurd hz List.not_mem_nil) rfl (by decide) (hA _ aL_RL_13) (va_Nw.use rfl hT.1) h9 hv hcl ?_
      refine lv_astore_n (lv' := [(3, .ref q9), (0, .ref (b 6 0)), (1, .int p1), (2, .ref q)]) hx hb dL_info_12 rfl hl (by decide) rfl (fun ls hl => ?_)
      refine lv_iconst (v := 1) hx hb dL_info_13 (by decide) ?_
      exact W.iret (v := 1) hx hb hr (fun t ht hW => ⟨⟨_, (u, f), rfl, ⟨rfl, hsm, fun z => absurd z (by decide)⟩, by rw [ht]; exact hP1, hD1⟩, hS1.F ht⟩) hS1.2.2 dL_info_14
  · refine lv_i2l hx hb dL_info_7 rfl ?_
    refine hx_st hx hb hK hP1 hD1 hsm.2.2.2.2 hS1 dL_info_8 (fun f1 H2 locs2 e1 hP2 hD2 hS2 => ?_)
    refine lv_goto (tgt := 15) hx hb dL_info_9 (by decide) ?_
    refine lv_iconst (v := 0) hx hb dL_info_15 (by decide) ?_
    exact W.iret (v := 0) hx hb hr (fun t ht hW => ⟨⟨_, (u, f1), rfl, ⟨by rw [h0]; rfl, hsm, fun _ => e1⟩, by rw [ht]; exact hP2, hD2⟩, hS2.F ht⟩) hS2.2.2 dL_info_16
set_option maxHeartbeats 4000000 in
set_option maxRecDepth 100000 in
theorem c_L_slot (l : Launch) (hl0 : l.stackTraces = false) (D : va_G) (cI cF cL : ClassId) (b : Bf) (q : Nat) (f : Nat → Int64) (N : Nat) (u0 φ : M2) (η : HT) (τ : M2) (p1 : Int32) (p2 : Int32) (p3 : Int32) (k0 : Nat) (r0 : Int32) (u0r φr : M2) (ηr : HT) (τr : M2) (hF : G_X8_slot N u0 φ η τ p1 p2 p3 = some (k0, r0, u0r, φr, ηr, τr)) (hk0 : k0 = 0 ∨ k0 = 3 ∨ k0 = 1) : Met l yL_slot (wsH yL_slot cL_slot 6 (some .int) [(0, 12, 15, 32), (0, 12, 19, 13)]) { frames := 9, cells := 3, slots := 18, locals := 147 } (va_Pc [.ref (b 6 0), .int p1, .int p2, .int p3, .ref q] (hPd D cI cF cL b u0 φ η τ q f)) (va_Qi (fun (r : Int32) (z : Bf × (Nat → Int64)) => r = hkc 3 k0 ∧ xSame b z.1 ∧ (k0 = 0 → z.2 0 = r0.toInt64)) (fun z t => va_P D vwCl (hWd cI cF cL z.1 u0r φr ηr τr q z.2) t.heap ∧ va_D (fun _ => True) (hWd cI cF cL z.1 u0r φr ηr τr q z.2)) (hAd b q)) 3 18 (hAd b q) := by
  refine va_MetW (cc := cL_slot) (maxL := 6) (ret := (some .int)) (hh := [(0, 12, 15, 32), (0, 12, 19, 13)]) (by decide) rfl ?_
  intro p e s m args below meth c s₁ B hml hpre
  obtain ⟨rfl, hP, hK, hD, hT, hZ, hNc⟩ := hpre
  have hx := B.exec
  have hb := B.bytes
  have hr := B.returns
  have hws := atoms_spec (ws := (wsH yL_slot cL_slot 6 (some .int) [(0, 12, 15, 32), (0, 12, 19, 13)])) B.pre
  have hA : ∀ w ∈ AW, w.before _ s = true := fun w h => hws w (List.mem_cons_of_mem _ h)
  have htab : c.exceptionTable.toList = [⟨0, 12, 15, 32⟩, ⟨0, 12, 19, 13⟩] := vx_table (x := yL_slot) B (hws _ List.mem_cons_self)
  have hown : s.vm.findClass RL = some m.cls := findClass_of_methodNamed B.named
  have hlocks := B.notSynchronized
  have hS : va_S (hAd b q) s.heap s.heap [] := va_S.rf
  have S : CallFix p m c cL_slot 6 s ([.ref (b 6 0), .int p1, .int p2, .int p3, .ref q] : List Value).toArray AW RL := ⟨hx, hb, hml, hown, hA⟩
  have hl := lv_entry ([.ref (b 6 0), .int p1, .int p2, .int p3, .ref q]) (n := 6) (Nat.le_of_ble_eq_true rfl)
  rw [lg_entry_eq]
  generalize (lg_sl ([.ref (b 6 0), .int p1, .int p2, .int p3, .ref q]) ++ List.replicate (6 - (lg_sl ([.ref (b 6 0), .int p1, .int p2, .int p3, .ref q])).length) Slot.unset).toArray = ls at hl ⊢
  have hl : lv_has ls 6 [(0, .ref (b 6 0)), (1, .int p1), (2, .int p2), (3, .int p3), (4, .ref q)] := hl
  refine lv_aload hx hb dL_slot_0 (lv_at hl 4 rfl) ?_
  refine lv_iconst (v := 0) hx hb dL_slot_2 (by decide) ?_
  refine lv_aload_n hx hb dL_slot_3 rfl (lv_at hl 0 rfl) ?_
  refine lv_iload_n hx hb dL_slot_4 rfl (lv_at hl 1 rfl) ?_
  refine lv_iload_n hx hb dL_slot_5 rfl (lv_at hl 2 rfl) ?_
  refine lv_iload_n hx hb dL_slot_6 rfl (lv_at hl 3 rfl) ?_
  refine hx_call (n := 3) (As := [.int p1, .int p2, .int p3]) (rest := [.int 0, .ref q]) (post := fun (r : Int32) (u : Bf) => k0 = 0 ∧ r = r0 ∧ xSame b u) S (c_X8_slot l hl0 D cI cF b N u0 φ η τ p1 p2 p3 k0 r0 u0r φr ηr τr hF) (fun r u h => h) aM_RL_62 aI_X8_slot aV_X8_slot aC_X8_slot rfl rfl (by decide +kernel) rfl ⟨Nat.le_of_ble_eq_true rfl, Nat.le_of_ble_eq_true rfl⟩ ⟨Nat.le_of_ble_eq_true rfl, Nat.le_of_ble_eq_true rfl⟩ hP hK hD hT hZ hS hl.1 (Nat.le_of_ble_eq_true rfl) dL_slot_7 (fun hne u ce q9 H1 locs1 hsm hP1 hD1 hS1 h9 hv hcl => ?_) (fun h0 u H1 locs1 hsm hP1 hD1 hS1 hu0 => ?_)
  · rcases hk0 with h0 | rfl | rfl
    · exact absurd h0 hne
    · refine vx_catch (E := eIO) (name := eIO) hown [] ⟨0, 12, 15, 32⟩ [⟨0, 12, 19, 13⟩] htab (fun z hz => absurd hz List.not_mem_nil) rfl (by decide) (hA _ aL_RL_32) (va_Nw.use rfl hT.2.1) h9 hv hcl ?_
      refine lv_astore (lv' := [(5, .ref q9), (0, .ref (b 6 0)), (1, .int p1), (2, .int p2), (3, .int p3), (4, .ref q)]) hx hb dL_slot_15 hl (by decide) rfl (fun ls hl => ?_)
      refine lv_iconst (v := 1) hx hb dL_slot_17 (by decide) ?_
      exact W.iret (v := 1) hx hb hr (fun t ht hW => ⟨⟨_, (u, f), rfl, ⟨rfl, hsm, fun z => absurd z (by decide)⟩, by rw [ht]; exact hP1, hD1⟩, hS1.F ht⟩) hS1.2.2 dL_slot_18
    · refine vx_catch (E := eIA) (name := eIA) hown [⟨0, 12, 15, 32⟩] ⟨0, 12, 19, 13⟩ [] htab (fun z hz => by rcases List.mem_singleton.mp hz with rfl; exact Or.inr ⟨by decide, _, hA _ aL_RL_32, hNc.2⟩) rfl (by decide) (hA _ aL_RL_13) (va_Nw.use rfl hT.1) h9 hv hcl ?_
      refine lv_astore (lv' := [(5, .ref q9), (0, .ref (b 6 0)), (1, .int p1), (2, .int p2), (3, .int p3), (4, .ref q)]) hx hb dL_slot_19 hl (by decide) rfl (fun ls hl => ?_)
      refine lv_iconst (v := 2) hx hb dL_slot_21 (by decide) ?_
      exact W.iret (v := 2) hx hb hr (fun t ht hW => ⟨⟨_, (u, f), rfl, ⟨rfl, hsm, fun z => absurd z (by decide)⟩, by rw [ht]; exact hP1, hD1⟩, hS1.F ht⟩) hS1.2.2 dL_slot_22
  · refine lv_i2l hx hb dL_slot_10 rfl ?_
    refine hx_st hx hb hK hP1 hD1 hsm.2.2.2.2 hS1 dL_slot_11 (fun f1 H2 locs2 e1 hP2 hD2 hS2 => ?_)
    refine lv_goto (tgt := 23) hx hb dL_slot_12 (by decide) ?_
    refine lv_iconst (v := 0) hx hb dL_slot_23 (by decide) ?_
    exact W.iret (v := 0) hx hb hr (fun t ht hW => ⟨⟨_, (u, f1), rfl, ⟨by rw [h0]; rfl, hsm, fun _ => e1⟩, by rw [ht]; exact hP2, hD2⟩, hS2.F ht⟩) hS2.2.2 dL_slot_24
set_option maxHeartbeats 4000000 in
set_option maxRecDepth 100000 in
theorem c_L_stashed (l : Launch) (hl0 : l.stackTraces = false) (D : va_G) (cI cF cL : ClassId) (b : Bf) (q : Nat) (f : Nat → Int64) (N : Nat) (u0 φ : M2) (η : HT) (τ : M2) (p1 : Int32) (p2 : Int32) (k0 : Nat) (r0 : Int32) (u0r φr : M2) (ηr : HT) (τr : M2) (hF : G_X8_stashed N u0 φ η τ p1 p2 = some (k0, r0, u0r, φr, ηr, τr)) (hk0 : k0 = 0 ∨ k0 = 3 ∨ k0 = 1) : Met l yL_stashed (wsH yL_stashed cL_stashed 5 (some .int) [(0, 10, 13, 32), (0, 10, 17, 13)]) { frames := 8, cells := 2, slots := 12, locals := 124 } (va_Pc [.ref (b 6 0), .int p1, .int p2, .ref q] (hPd D cI cF cL b u0 φ η τ q f)) (va_Qi (fun (r : Int32) (z : Bf × (Nat → Int64)) => r = hkc 3 k0 ∧ xSame b z.1 ∧ (k0 = 0 → z.2 0 = r0.toInt64)) (fun z t => va_P D vwCl (hWd cI cF cL z.1 u0r φr ηr τr q z.2) t.heap ∧ va_D (fun _ => True) (hWd cI cF cL z.1 u0r φr ηr τr q z.2)) (hAd b q)) 2 12 (hAd b q) := by
  refine va_MetW (cc := cL_stashed) (maxL := 5) (ret := (some .int)) (hh := [(0, 10, 13, 32), (0, 10, 17, 13)]) (by decide) rfl ?_
  intro p e s m args below meth c s₁ B hml hpre
  obtain ⟨rfl, hP, hK, hD, hT, hZ, hNc⟩ := hpre
  have hx := B.exec
  have hb := B.bytes
  have hr := B.returns
  have hws := atoms_spec (ws := (wsH yL_stashed cL_stashed 5 (some .int) [(0, 10, 13, 32), (0, 10, 17, 13)])) B.pre
  have hA : ∀ w ∈ AW, w.before _ s = true := fun w h => hws w (List.mem_cons_of_mem _ h)
  have htab : c.exceptionTable.toList = [⟨0, 10, 13, 32⟩, ⟨0, 10, 17, 13⟩] := vx_table (x := yL_stashed) B (hws _ List.mem_cons_self)
  have hown : s.vm.findClass RL = some m.cls := findClass_of_methodNamed B.named
  have hlocks := B.notSynchronized
  have hS : va_S (hAd b q) s.heap s.heap [] := va_S.rf
  have S : CallFix p m c cL_stashed 5 s ([.ref (b 6 0), .int p1, .int p2, .ref q] : List Value).toArray AW RL := ⟨hx, hb, hml, hown, hA⟩
  have hl := lv_entry ([.ref (b 6 0), .int p1, .int p2, .ref q]) (n := 5) (Nat.le_of_ble_eq_true rfl)
  rw [lg_entry_eq]
  generalize (lg_sl ([.ref (b 6 0), .int p1, .int p2, .ref q]) ++ List.replicate (5 - (lg_sl ([.ref (b 6 0), .int p1, .int p2, .ref q])).length) Slot.unset).toArray = ls at hl ⊢
  have hl : lv_has ls 5 [(0, .ref (b 6 0)), (1, .int p1), (2, .int p2), (3, .ref q)] := hl
  refine lv_aload_n hx hb dL_stashed_0 rfl (lv_at hl 3 rfl) ?_
  refine lv_iconst (v := 0) hx hb dL_stashed_1 (by decide) ?_
  refine lv_aload_n hx hb dL_stashed_2 rfl (lv_at hl 0 rfl) ?_
  refine lv_iload_n hx hb dL_stashed_3 rfl (lv_at hl 1 rfl) ?_
  refine lv_iload_n hx hb dL_stashed_4 rfl (lv_at hl 2 rfl) ?_
  refine hx_call (n := 2) (As := [.int p1, .int p2]) (rest := [.int 0, .ref q]) (post := fun (r : Int32) (u : Bf) => k0 = 0 ∧ r = r0 ∧ xSame b u) S (c_X8_stashed l hl0 D cI cF b N u0 φ η τ p1 p2 k0 r0 u0r φr ηr τr hF) (fun r u h => h) aM_RL_66 aI_X8_stashed aV_X8_stashed aC_X8_stashed rfl rfl (by decide +kernel) rfl ⟨Nat.le_of_ble_eq_true rfl, Nat.le_of_ble_eq_true rfl⟩ ⟨Nat.le_of_ble_eq_true rfl, Nat.le_of_ble_eq_true rfl⟩ hP hK hD hT hZ hS hl.1 (Nat.le_of_ble_eq_true rfl) dL_stashed_5 (fun hne u ce q9 H1 locs1 hsm hP1 hD1 hS1 h9 hv hcl => ?_) (fun h0 u H1 locs1 hsm hP1 hD1 hS1 hu0 => ?_)
  · rcases hk0 with h0 | rfl | rfl
    · exact absurd h0 hne
    · refine vx_catch (E := eIO) (name := eIO) hown [] ⟨0, 10, 13, 32⟩ [⟨0, 10, 17, 13⟩] htab (fun z hz => absurd hz List.not_mem_nil) rfl (by decide) (hA _ aL_RL_32) (va_Nw.use rfl hT.2.1) h9 hv hcl ?_
      refine lv_astore (lv' := [(4, .ref q9), (0, .ref (b 6 0)), (1, .int p1), (2, .int p2), (3, .ref q)]) hx hb dL_stashed_13 hl (by decide) rfl (fun ls hl => ?_)
      refine lv_iconst (v := 1) hx hb dL_stashed_15 (by decide) ?_
      exact W.iret (v := 1) hx hb hr (fun t ht hW => ⟨⟨_, (u, f), rfl, ⟨rfl, hsm, fun z => absurd z (by decide)⟩, by rw [ht]; exact hP1, hD1⟩, hS1.F ht⟩) hS1.2.2 dL_stashed_16
    · refine vx_catch (E := eIA) (name := eIA) hown [⟨0, 10, 13, 32⟩] ⟨0, 10, 17, 13⟩ [] htab (fun z hz => by rcases List.mem_singleton.mp hz with rfl; exact Or.inr ⟨by decide, _, hA _ aL_RL_32, hNc.2⟩) rfl (by decide) (hA _ aL_RL_13) (va_Nw.use rfl hT.1) h9 hv hcl ?_
      refine lv_astore (lv' := [(4, .ref q9), (0, .ref (b 6 0)), (1, .int p1), (2, .int p2), (3, .ref q)]) hx hb dL_stashed_17 hl (by decide) rfl (fun ls hl => ?_)
      refine lv_iconst (v := 2) hx hb dL_stashed_19 (by decide) ?_
      exact W.iret (v := 2) hx hb hr (fun t ht hW => ⟨⟨_, (u, f), rfl, ⟨rfl, hsm, fun z => absurd z (by decide)⟩, by rw [ht]; exact hP1, hD1⟩, hS1.F ht⟩) hS1.2.2 dL_stashed_20
  · refine lv_i2l hx hb dL_stashed_8 rfl ?_
    refine hx_st hx hb hK hP1 hD1 hsm.2.2.2.2 hS1 dL_stashed_9 (fun f1 H2 locs2 e1 hP2 hD2 hS2 => ?_)
    refine lv_goto (tgt := 21) hx hb dL_stashed_10 (by decide) ?_
    refine lv_iconst (v := 0) hx hb dL_stashed_21 (by decide) ?_
    exact W.iret (v := 0) hx hb hr (fun t ht hW => ⟨⟨_, (u, f1), rfl, ⟨by rw [h0]; rfl, hsm, fun _ => e1⟩, by rw [ht]; exact hP2, hD2⟩, hS2.F ht⟩) hS2.2.2 dL_stashed_22
set_option maxHeartbeats 4000000 in
set_option maxRecDepth 100000 in
theorem c_L_filled (l : Launch) (hl0 : l.stackTraces = false) (D : va_G) (cI cF cL : ClassId) (b : Bf) (q : Nat) (f : Nat → Int64) (N : Nat) (u0 φ : M2) (η : HT) (τ : M2) (p1 : Int32) (k0 : Nat) (r0 : Int32) (u0r φr : M2) (ηr : HT) (τr : M2) (hF : G_X8_filled N u0 φ η τ p1 = some (k0, r0, u0r, φr, ηr, τr)) (hk0 : k0 = 0 ∨ k0 = 1) : Met l yL_filled (wsH yL_filled cL_filled 4 (some .int) [(0, 9, 12, 13)]) { frames := 8, cells := 1, slots := 6, locals := 123 } (va_Pc [.ref (b 6 0), .int p1, .ref q] (hPd D cI cF cL b u0 φ η τ q f)) (va_Qi (fun (r : Int32) (z : Bf × (Nat → Int64)) => r = hkc 1 k0 ∧ xSame b z.1 ∧ (k0 = 0 → z.2 0 = r0.toInt64)) (fun z t => va_P D vwCl (hWd cI cF cL z.1 u0r φr ηr τr q z.2) t.heap ∧ va_D (fun _ => True) (hWd cI cF cL z.1 u0r φr ηr τr q z.2)) (hAd b q)) 1 6 (hAd b q) := by
  refine va_MetW (cc := cL_filled) (maxL := 4) (ret := (some .int)) (hh := [(0, 9, 12, 13)]) (by decide) rfl ?_
  intro p e s m args below meth c s₁ B hml hpre
  obtain ⟨rfl, hP, hK, hD, hT, hZ, hNc⟩ := hpre
  have hx := B.exec
  have hb := B.bytes
  have hr := B.returns
  have hws := atoms_spec (ws := (wsH yL_filled cL_filled 4 (some .int) [(0, 9, 12, 13)])) B.pre
  have hA : ∀ w ∈ AW, w.before _ s = true := fun w h => hws w (List.mem_cons_of_mem _ h)
  have htab : c.exceptionTable.toList = [⟨0, 9, 12, 13⟩] := vx_table (x := yL_filled) B (hws _ List.mem_cons_self)
  have hown : s.vm.findClass RL = some m.cls := findClass_of_methodNamed B.named
  have hlocks := B.notSynchronized
  have hS : va_S (hAd b q) s.heap s.heap [] := va_S.rf
  have S : CallFix p m c cL_filled 4 s ([.ref (b 6 0), .int p1, .ref q] : List Value).toArray AW RL := ⟨hx, hb, hml, hown, hA⟩
  have hl := lv_entry ([.ref (b 6 0), .int p1, .ref q]) (n := 4) (Nat.le_of_ble_eq_true rfl)
  rw [lg_entry_eq]
  generalize (lg_sl ([.ref (b 6 0), .int p1, .ref q]) ++ List.replicate (4 - (lg_sl ([.ref (b 6 0), .int p1, .ref q])).length) Slot.unset).toArray = ls at hl ⊢
  have hl : lv_has ls 4 [(0, .ref (b 6 0)), (1, .int p1), (2, .ref q)] := hl
  refine lv_aload_n hx hb dL_filled_0 rfl (lv_at hl 2 rfl) ?_
  refine lv_iconst (v := 0) hx hb dL_filled_1 (by decide) ?_
  refine lv_aload_n hx hb dL_filled_2 rfl (lv_at hl 0 rfl) ?_
  refine lv_iload_n hx hb dL_filled_3 rfl (lv_at hl 1 rfl) ?_
  refine hx_call (n := 1) (As := [.int p1]) (rest := [.int 0, .ref q]) (post := fun (r : Int32) (u : Bf) => k0 = 0 ∧ r = r0 ∧ xSame b u) S (c_X8_filled l hl0 D cI cF b N u0 φ η τ p1 k0 r0 u0r φr ηr τr hF) (fun r u h => h) aM_RL_70 aI_X8_filled aV_X8_filled aC_X8_filled rfl rfl (by decide +kernel) rfl ⟨Nat.le_of_ble_eq_true rfl, Nat.le_of_ble_eq_true rfl⟩ ⟨Nat.le_of_ble_eq_true rfl, Nat.le_of_ble_eq_true rfl⟩ hP hK hD hT hZ hS hl.1 (Nat.le_of_ble_eq_true rfl) dL_filled_4 (fun hne u ce q9 H1 locs1 hsm hP1 hD1 hS1 h9 hv hcl => ?_) (fun h0 u H1 locs1 hsm hP1 hD1 hS1 hu0 => ?_)
  · rcases hk0 with h0 | rfl
    · exact absurd h0 hne
    · refine vx_catch (E := eIA) (name := eIA) hown [] ⟨0, 9, 12, 13⟩ [] htab (fun z hz => absurd hz List.not_mem_nil) rfl (by decide) (hA _ aL_RL_13) (va_Nw.use rfl hT.1) h9 hv hcl ?_
      refine lv_astore_n (lv' := [(3, .ref q9), (0, .ref (b 6 0)), (1, .int p1), (2, .ref q)]) hx hb dL_filled_12 rfl hl (by decide) rfl (fun ls hl => ?_)
      refine lv_iconst (v := 1) hx hb dL_filled_13 (by decide) ?_
      exact W.iret (v := 1) hx hb hr (fun t ht hW => ⟨⟨_, (u, f), rfl, ⟨rfl, hsm, fun z => absurd z (by decide)⟩, by rw [ht]; exact hP1, hD1⟩, hS1.F ht⟩) hS1.2.2 dL_filled_14
  · refine lv_i2l hx hb dL_filled_7 rfl ?_
    refine hx_st hx hb hK hP1 hD1 hsm.2.2.2.2 hS1 dL_filled_8 (fun f1 H2 locs2 e1 hP2 hD2 hS2 => ?_)
    refine lv_goto (tgt := 15) hx hb dL_filled_9 (by decide) ?_
    refine lv_iconst (v := 0) hx hb dL_filled_15 (by decide) ?_
    exact W.iret (v := 0) hx hb hr (fun t ht hW => ⟨⟨_, (u, f1), rfl, ⟨by rw [h0]; rfl, hsm, fun _ => e1⟩, by rw [ht]; exact hP2, hD2⟩, hS2.F ht⟩) hS2.2.2 dL_filled_16
set_option maxHeartbeats 4000000 in
set_option maxRecDepth 100000 in
theorem c_L_walk (l : Launch) (hl0 : l.stackTraces = false) (D : va_G) (cI cF cL : ClassId) (b : Bf) (q : Nat) (f : Nat → Int64) (N : Nat) (u0 φ : M2) (η : HT) (τ : M2) (p1 : Int32) (k0 : Nat) (r0 : Int32) (u0r φr : M2) (ηr : HT) (τr : M2) (hF : G_X8_walk N u0 φ η τ p1 = some (k0, r0, u0r, φr, ηr, τr)) (hk0 : k0 = 0 ∨ k0 = 1) : Met l yL_walk (wsH yL_walk cL_walk 4 (some .int) [(0, 9, 12, 13)]) { frames := 9, cells := 1, slots := 6, locals := 143 } (va_Pc [.ref (b 6 0), .int p1, .ref q] (hPd D cI cF cL b u0 φ η τ q f)) (va_Qi (fun (r : Int32) (z : Bf × (Nat → Int64)) => r = hkc 1 k0 ∧ xSame b z.1 ∧ (k0 = 0 → z.2 0 = r0.toInt64)) (fun z t => va_P D vwCl (hWd cI cF cL z.1 u0r φr ηr τr q z.2) t.heap ∧ va_D (fun _ => True) (hWd cI cF cL z.1 u0r φr ηr τr q z.2)) (hAd b q)) 1 6 (hAd b q) := by
  refine va_MetW (cc := cL_walk) (maxL := 4) (ret := (some .int)) (hh := [(0, 9, 12, 13)]) (by decide) rfl ?_
  intro p e s m args below meth c s₁ B hml hpre
  obtain ⟨rfl, hP, hK, hD, hT, hZ, hNc⟩ := hpre
  have hx := B.exec
  have hb := B.bytes
  have hr := B.returns
  have hws := atoms_spec (ws := (wsH yL_walk cL_walk 4 (some .int) [(0, 9, 12, 13)])) B.pre
  have hA : ∀ w ∈ AW, w.before _ s = true := fun w h => hws w (List.mem_cons_of_mem _ h)
  have htab : c.exceptionTable.toList = [⟨0, 9, 12, 13⟩] := vx_table (x := yL_walk) B (hws _ List.mem_cons_self)
  have hown : s.vm.findClass RL = some m.cls := findClass_of_methodNamed B.named
  have hlocks := B.notSynchronized
  have hS : va_S (hAd b q) s.heap s.heap [] := va_S.rf
  have S : CallFix p m c cL_walk 4 s ([.ref (b 6 0), .int p1, .ref q] : List Value).toArray AW RL := ⟨hx, hb, hml, hown, hA⟩
  have hl := lv_entry ([.ref (b 6 0), .int p1, .ref q]) (n := 4) (Nat.le_of_ble_eq_true rfl)
  rw [lg_entry_eq]
  generalize (lg_sl ([.ref (b 6 0), .int p1, .ref q]) ++ List.replicate (4 - (lg_sl ([.ref (b 6 0), .int p1, .ref q])).length) Slot.unset).toArray = ls at hl ⊢
  have hl : lv_has ls 4 [(0, .ref (b 6 0)), (1, .int p1), (2, .ref q)] := hl
  refine lv_aload_n hx hb dL_walk_0 rfl (lv_at hl 2 rfl) ?_
  refine lv_iconst (v := 0) hx hb dL_walk_1 (by decide) ?_
  refine lv_aload_n hx hb dL_walk_2 rfl (lv_at hl 0 rfl) ?_
  refine lv_iload_n hx hb dL_walk_3 rfl (lv_at hl 1 rfl) ?_
  refine hx_call (n := 1) (As := [.int p1]) (rest := [.int 0, .ref q]) (post := fun (r : Int32) (u : Bf) => k0 = 0 ∧ r = r0 ∧ xSame b u) S (c_X8_walk l hl0 D cI cF b N u0 φ η τ p1 k0 r0 u0r φr ηr τr hF) (fun r u h => h) aM_RL_73 aI_X8_walk aV_X8_walk aC_X8_walk rfl rfl (by decide +kernel) rfl ⟨Nat.le_of_ble_eq_true rfl, Nat.le_of_ble_eq_true rfl⟩ ⟨Nat.le_of_ble_eq_true rfl, Nat.le_of_ble_eq_true rfl⟩ hP hK hD hT hZ hS hl.1 (Nat.le_of_ble_eq_true rfl) dL_walk_4 (fun hne u ce q9 H1 locs1 hsm hP1 hD1 hS1 h9 hv hcl => ?_) (fun h0 u H1 locs1 hsm hP1 hD1 hS1 hu0 => ?_)
  · rcases hk0 with h0 | rfl
    · exact absurd h0 hne
    · refine vx_catch (E := eIA) (name := eIA) hown [] ⟨0, 9, 12, 13⟩ [] htab (fun z hz => absurd hz List.not_mem_nil) rfl (by decide) (hA _ aL_RL_13) (va_Nw.use rfl hT.1) h9 hv hcl ?_
      refine lv_astore_n (lv' := [(3, .ref q9), (0, .ref (b 6 0)), (1, .int p1), (2, .ref q)]) hx hb dL_walk_12 rfl hl (by decide) rfl (fun ls hl => ?_)
      refine lv_iconst (v := 1) hx hb dL_walk_13 (by decide) ?_
      exact W.iret (v := 1) hx hb hr (fun t ht hW => ⟨⟨_, (u, f), rfl, ⟨rfl, hsm, fun z => absurd z (by decide)⟩, by rw [ht]; exact hP1, hD1⟩, hS1.F ht⟩) hS1.2.2 dL_walk_14
  · refine lv_i2l hx hb dL_walk_7 rfl ?_
    refine hx_st hx hb hK hP1 hD1 hsm.2.2.2.2 hS1 dL_walk_8 (fun f1 H2 locs2 e1 hP2 hD2 hS2 => ?_)
    refine lv_goto (tgt := 15) hx hb dL_walk_9 (by decide) ?_
    refine lv_iconst (v := 0) hx hb dL_walk_15 (by decide) ?_
    exact W.iret (v := 0) hx hb hr (fun t ht hW => ⟨⟨_, (u, f1), rfl, ⟨by rw [h0]; rfl, hsm, fun _ => e1⟩, by rw [ht]; exact hP2, hD2⟩, hS2.F ht⟩) hS2.2.2 dL_walk_16
set_option maxHeartbeats 4000000 in
set_option maxRecDepth 100000 in
theorem c_L_walkStep (l : Launch) (hl0 : l.stackTraces = false) (D : va_G) (cI cF cL : ClassId) (b : Bf) (q : Nat) (f : Nat → Int64) (N : Nat) (u0 φ : M2) (η : HT) (τ : M2) (p1 : Int32) (p2 : Int32) (p3 : Int32) (k0 : Nat) (r0 : Int32) (u0r φr : M2) (ηr : HT) (τr : M2) (hF : G_X8_walkStep N u0 φ η τ p1 p2 p3 = some (k0, r0, u0r, φr, ηr, τr)) (hk0 : k0 = 0 ∨ k0 = 1) : Met l yL_walkStep (wsH yL_walkStep cL_walkStep 6 (some .int) [(0, 12, 15, 13)]) { frames := 9, cells := 1, slots := 6, locals := 145 } (va_Pc [.ref (b 6 0), .int p1, .int p2, .int p3, .ref q] (hPd D cI cF cL b u0 φ η τ q f)) (va_Qi (fun (r : Int32) (z : Bf × (Nat → Int64)) => r = hkc 1 k0 ∧ xSame b z.1 ∧ (k0 = 0 → z.2 0 = r0.toInt64)) (fun z t => va_P D vwCl (hWd cI cF cL z.1 u0r φr ηr τr q z.2) t.heap ∧ va_D (fun _ => True) (hWd cI cF cL z.1 u0r φr ηr τr q z.2)) (hAd b q)) 1 6 (hAd b q) := by
  refine va_MetW (cc := cL_walkStep) (maxL := 6) (ret := (some .int)) (hh := [(0, 12, 15, 13)]) (by decide) rfl ?_
  intro p e s m args below meth c s₁ B hml hpre
  obtain ⟨rfl, hP, hK, hD, hT, hZ, hNc⟩ := hpre
  have hx := B.exec
  have hb := B.bytes
  have hr := B.returns
  have hws := atoms_spec (ws := (wsH yL_walkStep cL_walkStep 6 (some .int) [(0, 12, 15, 13)])) B.pre
  have hA : ∀ w ∈ AW, w.before _ s = true := fun w h => hws w (List.mem_cons_of_mem _ h)
  have htab : c.exceptionTable.toList = [⟨0, 12, 15, 13⟩] := vx_table (x := yL_walkStep) B (hws _ List.mem_cons_self)
  have hown : s.vm.findClass RL = some m.cls := findClass_of_methodNamed B.named
  have hlocks := B.notSynchronized
  have hS : va_S (hAd b q) s.heap s.heap [] := va_S.rf
  have S : CallFix p m c cL_walkStep 6 s ([.ref (b 6 0), .int p1, .int p2, .int p3, .ref q] : List Value).toArray AW RL := ⟨hx, hb, hml, hown, hA⟩
  have hl := lv_entry ([.ref (b 6 0), .int p1, .int p2, .int p3, .ref q]) (n := 6) (Nat.le_of_ble_eq_true rfl)
  rw [lg_entry_eq]
  generalize (lg_sl ([.ref (b 6 0), .int p1, .int p2, .int p3, .ref q]) ++ List.replicate (6 - (lg_sl ([.ref (b 6 0), .int p1, .int p2, .int p3, .ref q])).length) Slot.unset).toArray = ls at hl ⊢
  have hl : lv_has ls 6 [(0, .ref (b 6 0)), (1, .int p1), (2, .int p2), (3, .int p3), (4, .ref q)] := hl
  refine lv_aload hx hb dL_walkStep_0 (lv_at hl 4 rfl) ?_
  refine lv_iconst (v := 0) hx hb dL_walkStep_2 (by decide) ?_
  refine lv_aload_n hx hb dL_walkStep_3 rfl (lv_at hl 0 rfl) ?_
  refine lv_iload_n hx hb dL_walkStep_4 rfl (lv_at hl 1 rfl) ?_
  refine lv_iload_n hx hb dL_walkStep_5 rfl (lv_at hl 2 rfl) ?_
  refine lv_iload_n hx hb dL_walkStep_6 rfl (lv_at hl 3 rfl) ?_
  refine hx_call (n := 3) (As := [.int p1, .int p2, .int p3]) (rest := [.int 0, .ref q]) (post := fun (r : Int32) (u : Bf) => k0 = 0 ∧ r = r0 ∧ xSame b u) S (c_X8_walkStep l hl0 D cI cF b N u0 φ η τ p1 p2 p3 k0 r0 u0r φr ηr τr hF) (fun r u h => h) aM_RL_76 aI_X8_walkStep aV_X8_walkStep aC_X8_walkStep rfl rfl (by decide +kernel) rfl ⟨Nat.le_of_ble_eq_true rfl, Nat.le_of_ble_eq_true rfl⟩ ⟨Nat.le_of_ble_eq_true rfl, Nat.le_of_ble_eq_true rfl⟩ hP hK hD hT hZ hS hl.1 (Nat.le_of_ble_eq_true rfl) dL_walkStep_7 (fun hne u ce q9 H1 locs1 hsm hP1 hD1 hS1 h9 hv hcl => ?_) (fun h0 u H1 locs1 hsm hP1 hD1 hS1 hu0 => ?_)
  · rcases hk0 with h0 | rfl
    · exact absurd h0 hne
    · refine vx_catch (E := eIA) (name := eIA) hown [] ⟨0, 12, 15, 13⟩ [] htab (fun z hz => absurd hz List.not_mem_nil) rfl (by decide) (hA _ aL_RL_13) (va_Nw.use rfl hT.1) h9 hv hcl ?_
      refine lv_astore (lv' := [(5, .ref q9), (0, .ref (b 6 0)), (1, .int p1), (2, .int p2), (3, .int p3), (4, .ref q)]) hx hb dL_walkStep_15 hl (by decide) rfl (fun ls hl => ?_)
      refine lv_iconst (v := 1) hx hb dL_walkStep_17 (by decide) ?_
      exact W.iret (v := 1) hx hb hr (fun t ht hW => ⟨⟨_, (u, f), rfl, ⟨rfl, hsm, fun z => absurd z (by decide)⟩, by rw [ht]; exact hP1, hD1⟩, hS1.F ht⟩) hS1.2.2 dL_walkStep_18
  · refine lv_i2l hx hb dL_walkStep_10 rfl ?_
    refine hx_st hx hb hK hP1 hD1 hsm.2.2.2.2 hS1 dL_walkStep_11 (fun f1 H2 locs2 e1 hP2 hD2 hS2 => ?_)
    refine lv_goto (tgt := 19) hx hb dL_walkStep_12 (by decide) ?_
    refine lv_iconst (v := 0) hx hb dL_walkStep_19 (by decide) ?_
    exact W.iret (v := 0) hx hb hr (fun t ht hW => ⟨⟨_, (u, f1), rfl, ⟨by rw [h0]; rfl, hsm, fun _ => e1⟩, by rw [ht]; exact hP2, hD2⟩, hS2.F ht⟩) hS2.2.2 dL_walkStep_20
set_option maxHeartbeats 4000000 in
set_option maxRecDepth 100000 in
theorem c_L_leastMoves (l : Launch) (hl0 : l.stackTraces = false) (D : va_G) (cI cF cL : ClassId) (b : Bf) (q : Nat) (f : Nat → Int64) (N : Nat) (u0 φ : M2) (η : HT) (τ : M2) (p1 : Int32) (k0 : Nat) (r0 : Int32) (u0r φr : M2) (ηr : HT) (τr : M2) (hF : G_X8_leastMoves N u0 φ η τ p1 = some (k0, r0, u0r, φr, ηr, τr)) (hk0 : k0 = 0 ∨ k0 = 1) : Met l yL_leastMoves (wsH yL_leastMoves cL_leastMoves 4 (some .int) [(0, 9, 12, 13)]) { frames := 9, cells := 1, slots := 6, locals := 143 } (va_Pc [.ref (b 6 0), .int p1, .ref q] (hPd D cI cF cL b u0 φ η τ q f)) (va_Qi (fun (r : Int32) (z : Bf × (Nat → Int64)) => r = hkc 1 k0 ∧ xSame b z.1 ∧ (k0 = 0 → z.2 0 = r0.toInt64)) (fun z t => va_P D vwCl (hWd cI cF cL z.1 u0r φr ηr τr q z.2) t.heap ∧ va_D (fun _ => True) (hWd cI cF cL z.1 u0r φr ηr τr q z.2)) (hAd b q)) 1 6 (hAd b q) := by
  refine va_MetW (cc := cL_leastMoves) (maxL := 4) (ret := (some .int)) (hh := [(0, 9, 12, 13)]) (by decide) rfl ?_
  intro p e s m args below meth c s₁ B hml hpre
  obtain ⟨rfl, hP, hK, hD, hT, hZ, hNc⟩ := hpre
  have hx := B.exec
  have hb := B.bytes
  have hr := B.returns
  have hws := atoms_spec (ws := (wsH yL_leastMoves cL_leastMoves 4 (some .int) [(0, 9, 12, 13)])) B.pre
  have hA : ∀ w ∈ AW, w.before _ s = true := fun w h => hws w (List.mem_cons_of_mem _ h)
  have htab : c.exceptionTable.toList = [⟨0, 9, 12, 13⟩] := vx_table (x := yL_leastMoves) B (hws _ List.mem_cons_self)
  have hown : s.vm.findClass RL = some m.cls := findClass_of_methodNamed B.named
  have hlocks := B.notSynchronized
  have hS : va_S (hAd b q) s.heap s.heap [] := va_S.rf
  have S : CallFix p m c cL_leastMoves 4 s ([.ref (b 6 0), .int p1, .ref q] : List Value).toArray AW RL := ⟨hx, hb, hml, hown, hA⟩
  have hl := lv_entry ([.ref (b 6 0), .int p1, .ref q]) (n := 4) (Nat.le_of_ble_eq_true rfl)
  rw [lg_entry_eq]
  generalize (lg_sl ([.ref (b 6 0), .int p1, .ref q]) ++ List.replicate (4 - (lg_sl ([.ref (b 6 0), .int p1, .ref q])).length) Slot.unset).toArray = ls at hl ⊢
  have hl : lv_has ls 4 [(0, .ref (b 6 0)), (1, .int p1), (2, .ref q)] := hl
  refine lv_aload_n hx hb dL_leastMoves_0 rfl (lv_at hl 2 rfl) ?_
  refine lv_iconst (v := 0) hx hb dL_leastMoves_1 (by decide) ?_
  refine lv_aload_n hx hb dL_leastMoves_2 rfl (lv_at hl 0 rfl) ?_
  refine lv_iload_n hx hb dL_leastMoves_3 rfl (lv_at hl 1 rfl) ?_
  refine hx_call (n := 1) (As := [.int p1]) (rest := [.int 0, .ref q]) (post := fun (r : Int32) (u : Bf) => k0 = 0 ∧ r = r0 ∧ xSame b u) S (c_X8_leastMoves l hl0 D cI cF b N u0 φ η τ p1 k0 r0 u0r φr ηr τr hF) (fun r u h => h) aM_RL_80 aI_X8_leastMoves aV_X8_leastMoves aC_X8_leastMoves rfl rfl (by decide +kernel) rfl ⟨Nat.le_of_ble_eq_true rfl, Nat.le_of_ble_eq_true rfl⟩ ⟨Nat.le_of_ble_eq_true rfl, Nat.le_of_ble_eq_true rfl⟩ hP hK hD hT hZ hS hl.1 (Nat.le_of_ble_eq_true rfl) dL_leastMoves_4 (fun hne u ce q9 H1 locs1 hsm hP1 hD1 hS1 h9 hv hcl => ?_) (fun h0 u H1 locs1 hsm hP1 hD1 hS1 hu0 => ?_)
  · rcases hk0 with h0 | rfl
    · exact absurd h0 hne
    · refine vx_catch (E := eIA) (name := eIA) hown [] ⟨0, 9, 12, 13⟩ [] htab (fun z hz => absurd hz List.not_mem_nil) rfl (by decide) (hA _ aL_RL_13) (va_Nw.use rfl hT.1) h9 hv hcl ?_
      refine lv_astore_n (lv' := [(3, .ref q9), (0, .ref (b 6 0)), (1, .int p1), (2, .ref q)]) hx hb dL_leastMoves_12 rfl hl (by decide) rfl (fun ls hl => ?_)
      refine lv_iconst (v := 1) hx hb dL_leastMoves_13 (by decide) ?_
      exact W.iret (v := 1) hx hb hr (fun t ht hW => ⟨⟨_, (u, f), rfl, ⟨rfl, hsm, fun z => absurd z (by decide)⟩, by rw [ht]; exact hP1, hD1⟩, hS1.F ht⟩) hS1.2.2 dL_leastMoves_14
  · refine lv_i2l hx hb dL_leastMoves_7 rfl ?_
    refine hx_st hx hb hK hP1 hD1 hsm.2.2.2.2 hS1 dL_leastMoves_8 (fun f1 H2 locs2 e1 hP2 hD2 hS2 => ?_)
    refine lv_goto (tgt := 15) hx hb dL_leastMoves_9 (by decide) ?_
    refine lv_iconst (v := 0) hx hb dL_leastMoves_15 (by decide) ?_
    exact W.iret (v := 0) hx hb hr (fun t ht hW => ⟨⟨_, (u, f1), rfl, ⟨by rw [h0]; rfl, hsm, fun _ => e1⟩, by rw [ht]; exact hP2, hD2⟩, hS2.F ht⟩) hS2.2.2 dL_leastMoves_16
set_option maxHeartbeats 4000000 in
set_option maxRecDepth 100000 in
theorem c_L_roomFor (l : Launch) (hl0 : l.stackTraces = false) (D : va_G) (cI cF cL : ClassId) (b : Bf) (q : Nat) (f : Nat → Int64) (N : Nat) (u0 φ : M2) (η : HT) (τ : M2) (p1 : Int32) (p2 : Int32) (k0 : Nat) (r0 : Int32) (u0r φr : M2) (ηr : HT) (τr : M2) (hF : G_X8_roomFor N u0 φ η τ p1 p2 = some (k0, r0, u0r, φr, ηr, τr)) (hk0 : k0 = 0 ∨ k0 = 1) : Met l yL_roomFor (wsH yL_roomFor cL_roomFor 5 (some .int) [(0, 10, 13, 13)]) { frames := 9, cells := 1, slots := 6, locals := 147 } (va_Pc [.ref (b 6 0), .int p1, .int p2, .ref q] (hPd D cI cF cL b u0 φ η τ q f)) (va_Qi (fun (r : Int32) (z : Bf × (Nat → Int64)) => r = hkc 1 k0 ∧ xSame b z.1 ∧ (k0 = 0 → z.2 0 = r0.toInt64)) (fun z t => va_P D vwCl (hWd cI cF cL z.1 u0r φr ηr τr q z.2) t.heap ∧ va_D (fun _ => True) (hWd cI cF cL z.1 u0r φr ηr τr q z.2)) (hAd b q)) 1 6 (hAd b q) := by
  refine va_MetW (cc := cL_roomFor) (maxL := 5) (ret := (some .int)) (hh := [(0, 10, 13, 13)]) (by decide) rfl ?_
  intro p e s m args below meth c s₁ B hml hpre
  obtain ⟨rfl, hP, hK, hD, hT, hZ, hNc⟩ := hpre
  have hx := B.exec
  have hb := B.bytes
  have hr := B.returns
  have hws := atoms_spec (ws := (wsH yL_roomFor cL_roomFor 5 (some .int) [(0, 10, 13, 13)])) B.pre
  have hA : ∀ w ∈ AW, w.before _ s = true := fun w h => hws w (List.mem_cons_of_mem _ h)
  have htab : c.exceptionTable.toList = [⟨0, 10, 13, 13⟩] := vx_table (x := yL_roomFor) B (hws _ List.mem_cons_self)
  have hown : s.vm.findClass RL = some m.cls := findClass_of_methodNamed B.named
  have hlocks := B.notSynchronized
  have hS : va_S (hAd b q) s.heap s.heap [] := va_S.rf
  have S : CallFix p m c cL_roomFor 5 s ([.ref (b 6 0), .int p1, .int p2, .ref q] : List Value).toArray AW RL := ⟨hx, hb, hml, hown, hA⟩
  have hl := lv_entry ([.ref (b 6 0), .int p1, .int p2, .ref q]) (n := 5) (Nat.le_of_ble_eq_true rfl)
  rw [lg_entry_eq]
  generalize (lg_sl ([.ref (b 6 0), .int p1, .int p2, .ref q]) ++ List.replicate (5 - (lg_sl ([.ref (b 6 0), .int p1, .int p2, .ref q])).length) Slot.unset).toArray = ls at hl ⊢
  have hl : lv_has ls 5 [(0, .ref (b 6 0)), (1, .int p1), (2, .int p2), (3, .ref q)] := hl
  refine lv_aload_n hx hb dL_roomFor_0 rfl (lv_at hl 3 rfl) ?_
  refine lv_iconst (v := 0) hx hb dL_roomFor_1 (by decide) ?_
  refine lv_aload_n hx hb dL_roomFor_2 rfl (lv_at hl 0 rfl) ?_
  refine lv_iload_n hx hb dL_roomFor_3 rfl (lv_at hl 1 rfl) ?_
  refine lv_iload_n hx hb dL_roomFor_4 rfl (lv_at hl 2 rfl) ?_
  refine hx_call (n := 2) (As := [.int p1, .int p2]) (rest := [.int 0, .ref q]) (post := fun (r : Int32) (u : Bf) => k0 = 0 ∧ r = r0 ∧ xSame b u) S (c_X8_roomFor l hl0 D cI cF b N u0 φ η τ p1 p2 k0 r0 u0r φr ηr τr hF) (fun r u h => h) aM_RL_83 aI_X8_roomFor aV_X8_roomFor aC_X8_roomFor rfl rfl (by decide +kernel) rfl ⟨Nat.le_of_ble_eq_true rfl, Nat.le_of_ble_eq_true rfl⟩ ⟨Nat.le_of_ble_eq_true rfl, Nat.le_of_ble_eq_true rfl⟩ hP hK hD hT hZ hS hl.1 (Nat.le_of_ble_eq_true rfl) dL_roomFor_5 (fun hne u ce q9 H1 locs1 hsm hP1 hD1 hS1 h9 hv hcl => ?_) (fun h0 u H1 locs1 hsm hP1 hD1 hS1 hu0 => ?_)
  · rcases hk0 with h0 | rfl
    · exact absurd h0 hne
    · refine vx_catch (E := eIA) (name := eIA) hown [] ⟨0, 10, 13, 13⟩ [] htab (fun z hz => absurd hz List.not_mem_nil) rfl (by decide) (hA _ aL_RL_13) (va_Nw.use rfl hT.1) h9 hv hcl ?_
      refine lv_astore (lv' := [(4, .ref q9), (0, .ref (b 6 0)), (1, .int p1), (2, .int p2), (3, .ref q)]) hx hb dL_roomFor_13 hl (by decide) rfl (fun ls hl => ?_)
      refine lv_iconst (v := 1) hx hb dL_roomFor_15 (by decide) ?_
      exact W.iret (v := 1) hx hb hr (fun t ht hW => ⟨⟨_, (u, f), rfl, ⟨rfl, hsm, fun z => absurd z (by decide)⟩, by rw [ht]; exact hP1, hD1⟩, hS1.F ht⟩) hS1.2.2 dL_roomFor_16
  · refine lv_i2l hx hb dL_roomFor_8 rfl ?_
    refine hx_st hx hb hK hP1 hD1 hsm.2.2.2.2 hS1 dL_roomFor_9 (fun f1 H2 locs2 e1 hP2 hD2 hS2 => ?_)
    refine lv_goto (tgt := 17) hx hb dL_roomFor_10 (by decide) ?_
    refine lv_iconst (v := 0) hx hb dL_roomFor_17 (by decide) ?_
    exact W.iret (v := 0) hx hb hr (fun t ht hW => ⟨⟨_, (u, f1), rfl, ⟨by rw [h0]; rfl, hsm, fun _ => e1⟩, by rw [ht]; exact hP2, hD2⟩, hS2.F ht⟩) hS2.2.2 dL_roomFor_18
set_option maxHeartbeats 4000000 in
set_option maxRecDepth 100000 in
theorem c_L_falseKeys (l : Launch) (hl0 : l.stackTraces = false) (D : va_G) (cI cF cL : ClassId) (b : Bf) (q : Nat) (f : Nat → Int64) (N : Nat) (u0 φ : M2) (η : HT) (τ : M2) (p1 : Int32) (p2 : Int32) (k0 : Nat) (r0 : Int32) (u0r φr : M2) (ηr : HT) (τr : M2) (hF : G_X8_falseKeys N u0 φ η τ p1 p2 = some (k0, r0, u0r, φr, ηr, τr)) (hk0 : k0 = 0 ∨ k0 = 1) : Met l yL_falseKeys (wsH yL_falseKeys cL_falseKeys 5 (some .int) [(0, 10, 13, 13)]) { frames := 9, cells := 1, slots := 6, locals := 162 } (va_Pc [.ref (b 6 0), .int p1, .int p2, .ref q] (hPd D cI cF cL b u0 φ η τ q f)) (va_Qi (fun (r : Int32) (z : Bf × (Nat → Int64)) => r = hkc 1 k0 ∧ xSame b z.1 ∧ (k0 = 0 → z.2 0 = r0.toInt64)) (fun z t => va_P D vwCl (hWd cI cF cL z.1 u0r φr ηr τr q z.2) t.heap ∧ va_D (fun _ => True) (hWd cI cF cL z.1 u0r φr ηr τr q z.2)) (hAd b q)) 1 6 (hAd b q) := by
  refine va_MetW (cc := cL_falseKeys) (maxL := 5) (ret := (some .int)) (hh := [(0, 10, 13, 13)]) (by decide) rfl ?_
  intro p e s m args below meth c s₁ B hml hpre
  obtain ⟨rfl, hP, hK, hD, hT, hZ, hNc⟩ := hpre
  have hx := B.exec
  have hb := B.bytes
  have hr := B.returns
  have hws := atoms_spec (ws := (wsH yL_falseKeys cL_falseKeys 5 (some .int) [(0, 10, 13, 13)])) B.pre
  have hA : ∀ w ∈ AW, w.before _ s = true := fun w h => hws w (List.mem_cons_of_mem _ h)
  have htab : c.exceptionTable.toList = [⟨0, 10, 13, 13⟩] := vx_table (x := yL_falseKeys) B (hws _ List.mem_cons_self)
  have hown : s.vm.findClass RL = some m.cls := findClass_of_methodNamed B.named
  have hlocks := B.notSynchronized
  have hS : va_S (hAd b q) s.heap s.heap [] := va_S.rf
  have S : CallFix p m c cL_falseKeys 5 s ([.ref (b 6 0), .int p1, .int p2, .ref q] : List Value).toArray AW RL := ⟨hx, hb, hml, hown, hA⟩
  have hl := lv_entry ([.ref (b 6 0), .int p1, .int p2, .ref q]) (n := 5) (Nat.le_of_ble_eq_true rfl)
  rw [lg_entry_eq]
  generalize (lg_sl ([.ref (b 6 0), .int p1, .int p2, .ref q]) ++ List.replicate (5 - (lg_sl ([.ref (b 6 0), .int p1, .int p2, .ref q])).length) Slot.unset).toArray = ls at hl ⊢
  have hl : lv_has ls 5 [(0, .ref (b 6 0)), (1, .int p1), (2, .int p2), (3, .ref q)] := hl
  refine lv_aload_n hx hb dL_falseKeys_0 rfl (lv_at hl 3 rfl) ?_
  refine lv_iconst (v := 0) hx hb dL_falseKeys_1 (by decide) ?_
  refine lv_aload_n hx hb dL_falseKeys_2 rfl (lv_at hl 0 rfl) ?_
  refine lv_iload_n hx hb dL_falseKeys_3 rfl (lv_at hl 1 rfl) ?_
  refine lv_iload_n hx hb dL_falseKeys_4 rfl (lv_at hl 2 rfl) ?_
  refine hx_call (n := 2) (As := [.int p1, .int p2]) (rest := [.int 0, .ref q]) (post := fun (r : Int32) (u : Bf) => k0 = 0 ∧ r = r0 ∧ xSame b u) S (c_X8_falseKeys l hl0 D cI cF b N u0 φ η τ p1 p2 k0 r0 u0r φr ηr τr hF) (fun r u h => h) aM_RL_86 aI_X8_falseKeys aV_X8_falseKeys aC_X8_falseKeys rfl rfl (by decide +kernel) rfl ⟨Nat.le_of_ble_eq_true rfl, Nat.le_of_ble_eq_true rfl⟩ ⟨Nat.le_of_ble_eq_true rfl, Nat.le_of_ble_eq_true rfl⟩ hP hK hD hT hZ hS hl.1 (Nat.le_of_ble_eq_true rfl) dL_falseKeys_5 (fun hne u ce q9 H1 locs1 hsm hP1 hD1 hS1 h9 hv hcl => ?_) (fun h0 u H1 locs1 hsm hP1 hD1 hS1 hu0 => ?_)
  · rcases hk0 with h0 | rfl
    · exact absurd h0 hne
    · refine vx_catch (E := eIA) (name := eIA) hown [] ⟨0, 10, 13, 13⟩ [] htab (fun z hz => absurd hz List.not_mem_nil) rfl (by decide) (hA _ aL_RL_13) (va_Nw.use rfl hT.1) h9 hv hcl ?_
      refine lv_astore (lv' := [(4, .ref q9), (0, .ref (b 6 0)), (1, .int p1), (2, .int p2), (3, .ref q)]) hx hb dL_falseKeys_13 hl (by decide) rfl (fun ls hl => ?_)
      refine lv_iconst (v := 1) hx hb dL_falseKeys_15 (by decide) ?_
      exact W.iret (v := 1) hx hb hr (fun t ht hW => ⟨⟨_, (u, f), rfl, ⟨rfl, hsm, fun z => absurd z (by decide)⟩, by rw [ht]; exact hP1, hD1⟩, hS1.F ht⟩) hS1.2.2 dL_falseKeys_16
  · refine lv_i2l hx hb dL_falseKeys_8 rfl ?_
    refine hx_st hx hb hK hP1 hD1 hsm.2.2.2.2 hS1 dL_falseKeys_9 (fun f1 H2 locs2 e1 hP2 hD2 hS2 => ?_)
    refine lv_goto (tgt := 17) hx hb dL_falseKeys_10 (by decide) ?_
    refine lv_iconst (v := 0) hx hb dL_falseKeys_17 (by decide) ?_
    exact W.iret (v := 0) hx hb hr (fun t ht hW => ⟨⟨_, (u, f1), rfl, ⟨by rw [h0]; rfl, hsm, fun _ => e1⟩, by rw [ht]; exact hP2, hD2⟩, hS2.F ht⟩) hS2.2.2 dL_falseKeys_18
set_option maxHeartbeats 4000000 in
set_option maxRecDepth 100000 in
theorem c_L_blamed (l : Launch) (hl0 : l.stackTraces = false) (D : va_G) (cI cF cL : ClassId) (b : Bf) (q : Nat) (f : Nat → Int64) (N : Nat) (u0 φ : M2) (η : HT) (τ : M2) (p1 : Int32) (p2 : Int32) (k0 : Nat) (r0 : Int32) (u0r φr : M2) (ηr : HT) (τr : M2) (hF : G_X8_blamed N u0 φ η τ p1 p2 = some (k0, r0, u0r, φr, ηr, τr)) (hk0 : k0 = 0 ∨ k0 = 3) : Met l yL_blamed (wsH yL_blamed cL_blamed 5 (some .int) [(0, 10, 13, 32)]) { frames := 9, cells := 2, slots := 12, locals := 148 } (va_Pc [.ref (b 6 0), .int p1, .int p2, .ref q] (hPd D cI cF cL b u0 φ η τ q f)) (va_Qi (fun (r : Int32) (z : Bf × (Nat → Int64)) => r = hkc 3 k0 ∧ xSame b z.1 ∧ (k0 = 0 → z.2 0 = r0.toInt64)) (fun z t => va_P D vwCl (hWd cI cF cL z.1 u0r φr ηr τr q z.2) t.heap ∧ va_D (fun _ => True) (hWd cI cF cL z.1 u0r φr ηr τr q z.2)) (hAd b q)) 2 12 (hAd b q) := by
  refine va_MetW (cc := cL_blamed) (maxL := 5) (ret := (some .int)) (hh := [(0, 10, 13, 32)]) (by decide) rfl ?_
  intro p e s m args below meth c s₁ B hml hpre
  obtain ⟨rfl, hP, hK, hD, hT, hZ, hNc⟩ := hpre
  have hx := B.exec
  have hb := B.bytes
  have hr := B.returns
  have hws := atoms_spec (ws := (wsH yL_blamed cL_blamed 5 (some .int) [(0, 10, 13, 32)])) B.pre
  have hA : ∀ w ∈ AW, w.before _ s = true := fun w h => hws w (List.mem_cons_of_mem _ h)
  have htab : c.exceptionTable.toList = [⟨0, 10, 13, 32⟩] := vx_table (x := yL_blamed) B (hws _ List.mem_cons_self)
  have hown : s.vm.findClass RL = some m.cls := findClass_of_methodNamed B.named
  have hlocks := B.notSynchronized
  have hS : va_S (hAd b q) s.heap s.heap [] := va_S.rf
  have S : CallFix p m c cL_blamed 5 s ([.ref (b 6 0), .int p1, .int p2, .ref q] : List Value).toArray AW RL := ⟨hx, hb, hml, hown, hA⟩
  have hl := lv_entry ([.ref (b 6 0), .int p1, .int p2, .ref q]) (n := 5) (Nat.le_of_ble_eq_true rfl)
  rw [lg_entry_eq]
  generalize (lg_sl ([.ref (b 6 0), .int p1, .int p2, .ref q]) ++ List.replicate (5 - (lg_sl ([.ref (b 6 0), .int p1, .int p2, .ref q])).length) Slot.unset).toArray = ls at hl ⊢
  have hl : lv_has ls 5 [(0, .ref (b 6 0)), (1, .int p1), (2, .int p2), (3, .ref q)] := hl
  refine lv_aload_n hx hb dL_blamed_0 rfl (lv_at hl 3 rfl) ?_
  refine lv_iconst (v := 0) hx hb dL_blamed_1 (by decide) ?_
  refine lv_aload_n hx hb dL_blamed_2 rfl (lv_at hl 0 rfl) ?_
  refine lv_iload_n hx hb dL_blamed_3 rfl (lv_at hl 1 rfl) ?_
  refine lv_iload_n hx hb dL_blamed_4 rfl (lv_at hl 2 rfl) ?_
  refine hx_call (n := 2) (As := [.int p1, .int p2]) (rest := [.int 0, .ref q]) (post := fun (r : Int32) (u : Bf) => k0 = 0 ∧ r = r0 ∧ xSame b u) S (c_X8_blamed l hl0 D cI cF b N u0 φ η τ p1 p2 k0 r0 u0r φr ηr τr hF) (fun r u h => h) aM_RL_89 aI_X8_blamed aV_X8_blamed aC_X8_blamed rfl rfl (by decide +kernel) rfl ⟨Nat.le_of_ble_eq_true rfl, Nat.le_of_ble_eq_true rfl⟩ ⟨Nat.le_of_ble_eq_true rfl, Nat.le_of_ble_eq_true rfl⟩ hP hK hD hT hZ hS hl.1 (Nat.le_of_ble_eq_true rfl) dL_blamed_5 (fun hne u ce q9 H1 locs1 hsm hP1 hD1 hS1 h9 hv hcl => ?_) (fun h0 u H1 locs1 hsm hP1 hD1 hS1 hu0 => ?_)
  · rcases hk0 with h0 | rfl
    · exact absurd h0 hne
    · refine vx_catch (E := eIO) (name := eIO) hown [] ⟨0, 10, 13, 32⟩ [] htab (fun z hz => absurd hz List.not_mem_nil) rfl (by decide) (hA _ aL_RL_32) (va_Nw.use rfl hT.2.1) h9 hv hcl ?_
      refine lv_astore (lv' := [(4, .ref q9), (0, .ref (b 6 0)), (1, .int p1), (2, .int p2), (3, .ref q)]) hx hb dL_blamed_13 hl (by decide) rfl (fun ls hl => ?_)
      refine lv_iconst (v := 1) hx hb dL_blamed_15 (by decide) ?_
      exact W.iret (v := 1) hx hb hr (fun t ht hW => ⟨⟨_, (u, f), rfl, ⟨rfl, hsm, fun z => absurd z (by decide)⟩, by rw [ht]; exact hP1, hD1⟩, hS1.F ht⟩) hS1.2.2 dL_blamed_16
  · refine lv_i2l hx hb dL_blamed_8 rfl ?_
    refine hx_st hx hb hK hP1 hD1 hsm.2.2.2.2 hS1 dL_blamed_9 (fun f1 H2 locs2 e1 hP2 hD2 hS2 => ?_)
    refine lv_goto (tgt := 17) hx hb dL_blamed_10 (by decide) ?_
    refine lv_iconst (v := 0) hx hb dL_blamed_17 (by decide) ?_
    exact W.iret (v := 0) hx hb hr (fun t ht hW => ⟨⟨_, (u, f1), rfl, ⟨by rw [h0]; rfl, hsm, fun _ => e1⟩, by rw [ht]; exact hP2, hD2⟩, hS2.F ht⟩) hS2.2.2 dL_blamed_18
set_option maxHeartbeats 4000000 in
set_option maxRecDepth 100000 in
theorem c_L_bestSeed (l : Launch) (hl0 : l.stackTraces = false) (D : va_G) (cI cF cL : ClassId) (b : Bf) (q : Nat) (f : Nat → Int64) (N : Nat) (u0 φ : M2) (η : HT) (τ : M2) (p1 : Int32) (k0 : Nat) (r0 : Int32) (u0r φr : M2) (ηr : HT) (τr : M2) (hF : G_X8_bestSeed N u0 φ η τ p1 = some (k0, r0, u0r, φr, ηr, τr)) (hk0 : k0 = 0 ∨ k0 = 1) : Met l yL_bestSeed (wsH yL_bestSeed cL_bestSeed 4 (some .int) [(0, 9, 12, 13)]) { frames := 8, cells := 1, slots := 6, locals := 169 } (va_Pc [.ref (b 6 0), .int p1, .ref q] (hPd D cI cF cL b u0 φ η τ q f)) (va_Qi (fun (r : Int32) (z : Bf × (Nat → Int64)) => r = hkc 1 k0 ∧ xSame b z.1 ∧ (k0 = 0 → z.2 0 = r0.toInt64)) (fun z t => va_P D vwCl (hWd cI cF cL z.1 u0r φr ηr τr q z.2) t.heap ∧ va_D (fun _ => True) (hWd cI cF cL z.1 u0r φr ηr τr q z.2)) (hAd b q)) 1 6 (hAd b q) := by
  refine va_MetW (cc := cL_bestSeed) (maxL := 4) (ret := (some .int)) (hh := [(0, 9, 12, 13)]) (by decide) rfl ?_
  intro p e s m args below meth c s₁ B hml hpre
  obtain ⟨rfl, hP, hK, hD, hT, hZ, hNc⟩ := hpre
  have hx := B.exec
  have hb := B.bytes
  have hr := B.returns
  have hws := atoms_spec (ws := (wsH yL_bestSeed cL_bestSeed 4 (some .int) [(0, 9, 12, 13)])) B.pre
  have hA : ∀ w ∈ AW, w.before _ s = true := fun w h => hws w (List.mem_cons_of_mem _ h)
  have htab : c.exceptionTable.toList = [⟨0, 9, 12, 13⟩] := vx_table (x := yL_bestSeed) B (hws _ List.mem_cons_self)
  have hown : s.vm.findClass RL = some m.cls := findClass_of_methodNamed B.named
  have hlocks := B.notSynchronized
  have hS : va_S (hAd b q) s.heap s.heap [] := va_S.rf
  have S : CallFix p m c cL_bestSeed 4 s ([.ref (b 6 0), .int p1, .ref q] : List Value).toArray AW RL := ⟨hx, hb, hml, hown, hA⟩
  have hl := lv_entry ([.ref (b 6 0), .int p1, .ref q]) (n := 4) (Nat.le_of_ble_eq_true rfl)
  rw [lg_entry_eq]
  generalize (lg_sl ([.ref (b 6 0), .int p1, .ref q]) ++ List.replicate (4 - (lg_sl ([.ref (b 6 0), .int p1, .ref q])).length) Slot.unset).toArray = ls at hl ⊢
  have hl : lv_has ls 4 [(0, .ref (b 6 0)), (1, .int p1), (2, .ref q)] := hl
  refine lv_aload_n hx hb dL_bestSeed_0 rfl (lv_at hl 2 rfl) ?_
  refine lv_iconst (v := 0) hx hb dL_bestSeed_1 (by decide) ?_
  refine lv_aload_n hx hb dL_bestSeed_2 rfl (lv_at hl 0 rfl) ?_
  refine lv_iload_n hx hb dL_bestSeed_3 rfl (lv_at hl 1 rfl) ?_
  refine hx_call (n := 1) (As := [.int p1]) (rest := [.int 0, .ref q]) (post := fun (r : Int32) (u : Bf) => k0 = 0 ∧ r = r0 ∧ xSame b u) S (c_X8_bestSeed l hl0 D cI cF b N u0 φ η τ p1 k0 r0 u0r φr ηr τr hF) (fun r u h => h) aM_RL_92 aI_X8_bestSeed aV_X8_bestSeed aC_X8_bestSeed rfl rfl (by decide +kernel) rfl ⟨Nat.le_of_ble_eq_true rfl, Nat.le_of_ble_eq_true rfl⟩ ⟨Nat.le_of_ble_eq_true rfl, Nat.le_of_ble_eq_true rfl⟩ hP hK hD hT hZ hS hl.1 (Nat.le_of_ble_eq_true rfl) dL_bestSeed_4 (fun hne u ce q9 H1 locs1 hsm hP1 hD1 hS1 h9 hv hcl => ?_) (fun h0 u H1 locs1 hsm hP1 hD1 hS1 hu0 => ?_)
  · rcases hk0 with h0 | rfl
    · exact absurd h0 hne
    · refine vx_catch (E := eIA) (name := eIA) hown [] ⟨0, 9, 12, 13⟩ [] htab (fun z hz => absurd hz List.not_mem_nil) rfl (by decide) (hA _ aL_RL_13) (va_Nw.use rfl hT.1) h9 hv hcl ?_
      refine lv_astore_n (lv' := [(3, .ref q9), (0, .ref (b 6 0)), (1, .int p1), (2, .ref q)]) hx hb dL_bestSeed_12 rfl hl (by decide) rfl (fun ls hl => ?_)
      refine lv_iconst (v := 1) hx hb dL_bestSeed_13 (by decide) ?_
      exact W.iret (v := 1) hx hb hr (fun t ht hW => ⟨⟨_, (u, f), rfl, ⟨rfl, hsm, fun z => absurd z (by decide)⟩, by rw [ht]; exact hP1, hD1⟩, hS1.F ht⟩) hS1.2.2 dL_bestSeed_14
  · refine lv_i2l hx hb dL_bestSeed_7 rfl ?_
    refine hx_st hx hb hK hP1 hD1 hsm.2.2.2.2 hS1 dL_bestSeed_8 (fun f1 H2 locs2 e1 hP2 hD2 hS2 => ?_)
    refine lv_goto (tgt := 15) hx hb dL_bestSeed_9 (by decide) ?_
    refine lv_iconst (v := 0) hx hb dL_bestSeed_15 (by decide) ?_
    exact W.iret (v := 0) hx hb hr (fun t ht hW => ⟨⟨_, (u, f1), rfl, ⟨by rw [h0]; rfl, hsm, fun _ => e1⟩, by rw [ht]; exact hP2, hD2⟩, hS2.F ht⟩) hS2.2.2 dL_bestSeed_16
set_option maxHeartbeats 4000000 in
set_option maxRecDepth 100000 in
theorem c_L_leastBits (l : Launch) (hl0 : l.stackTraces = false) (D : va_G) (cI cF cL : ClassId) (b : Bf) (q : Nat) (f : Nat → Int64) (N : Nat) (u0 φ : M2) (η : HT) (τ : M2) (p1 : Int32) (p2 : Int32) (k0 : Nat) (r0 : Int32) (u0r φr : M2) (ηr : HT) (τr : M2) (hF : G_X8_leastBits N u0 φ η τ p1 p2 = some (k0, r0, u0r, φr, ηr, τr)) (hk0 : k0 = 0 ∨ k0 = 1) : Met l yL_leastBits (wsH yL_leastBits cL_leastBits 5 (some .int) [(0, 10, 13, 13)]) { frames := 8, cells := 2, slots := 12, locals := 169 } (va_Pc [.ref (b 6 0), .int p1, .int p2, .ref q] (hPd D cI cF cL b u0 φ η τ q f)) (va_Qi (fun (r : Int32) (z : Bf × (Nat → Int64)) => r = hkc 1 k0 ∧ xSame b z.1 ∧ (k0 = 0 → z.2 0 = r0.toInt64)) (fun z t => va_P D vwCl (hWd cI cF cL z.1 u0r φr ηr τr q z.2) t.heap ∧ va_D (fun _ => True) (hWd cI cF cL z.1 u0r φr ηr τr q z.2)) (hAd b q)) 2 12 (hAd b q) := by
  refine va_MetW (cc := cL_leastBits) (maxL := 5) (ret := (some .int)) (hh := [(0, 10, 13, 13)]) (by decide) rfl ?_
  intro p e s m args below meth c s₁ B hml hpre
  obtain ⟨rfl, hP, hK, hD, hT, hZ, hNc⟩ := hpre
  have hx := B.exec
  have hb := B.bytes
  have hr := B.returns
  have hws := atoms_spec (ws := (wsH yL_leastBits cL_leastBits 5 (some .int) [(0, 10, 13, 13)])) B.pre
  have hA : ∀ w ∈ AW, w.before _ s = true := fun w h => hws w (List.mem_cons_of_mem _ h)
  have htab : c.exceptionTable.toList = [⟨0, 10, 13, 13⟩] := vx_table (x := yL_leastBits) B (hws _ List.mem_cons_self)
  have hown : s.vm.findClass RL = some m.cls := findClass_of_methodNamed B.named
  have hlocks := B.notSynchronized
  have hS : va_S (hAd b q) s.heap s.heap [] := va_S.rf
  have S : CallFix p m c cL_leastBits 5 s ([.ref (b 6 0), .int p1, .int p2, .ref q] : List Value).toArray AW RL := ⟨hx, hb, hml, hown, hA⟩
  have hl := lv_entry ([.ref (b 6 0), .int p1, .int p2, .ref q]) (n := 5) (Nat.le_of_ble_eq_true rfl)
  rw [lg_entry_eq]
  generalize (lg_sl ([.ref (b 6 0), .int p1, .int p2, .ref q]) ++ List.replicate (5 - (lg_sl ([.ref (b 6 0), .int p1, .int p2, .ref q])).length) Slot.unset).toArray = ls at hl ⊢
  have hl : lv_has ls 5 [(0, .ref (b 6 0)), (1, .int p1), (2, .int p2), (3, .ref q)] := hl
  refine lv_aload_n hx hb dL_leastBits_0 rfl (lv_at hl 3 rfl) ?_
  refine lv_iconst (v := 0) hx hb dL_leastBits_1 (by decide) ?_
  refine lv_aload_n hx hb dL_leastBits_2 rfl (lv_at hl 0 rfl) ?_
  refine lv_iload_n hx hb dL_leastBits_3 rfl (lv_at hl 1 rfl) ?_
  refine lv_iload_n hx hb dL_leastBits_4 rfl (lv_at hl 2 rfl) ?_
  refine hx_call (n := 2) (As := [.int p1, .int p2]) (rest := [.int 0, .ref q]) (post := fun (r : Int32) (u : Bf) => k0 = 0 ∧ r = r0 ∧ xSame b u) S (c_X8_leastBits l hl0 D cI cF b N u0 φ η τ p1 p2 k0 r0 u0r φr ηr τr hF) (fun r u h => h) aM_RL_95 aI_X8_leastBits aV_X8_leastBits aC_X8_leastBits rfl rfl (by decide +kernel) rfl ⟨Nat.le_of_ble_eq_true rfl, Nat.le_of_ble_eq_true rfl⟩ ⟨Nat.le_of_ble_eq_true rfl, Nat.le_of_ble_eq_true rfl⟩ hP hK hD hT hZ hS hl.1 (Nat.le_of_ble_eq_true rfl) dL_leastBits_5 (fun hne u ce q9 H1 locs1 hsm hP1 hD1 hS1 h9 hv hcl => ?_) (fun h0 u H1 locs1 hsm hP1 hD1 hS1 hu0 => ?_)
  · rcases hk0 with h0 | rfl
    · exact absurd h0 hne
    · refine vx_catch (E := eIA) (name := eIA) hown [] ⟨0, 10, 13, 13⟩ [] htab (fun z hz => absurd hz List.not_mem_nil) rfl (by decide) (hA _ aL_RL_13) (va_Nw.use rfl hT.1) h9 hv hcl ?_
      refine lv_astore (lv' := [(4, .ref q9), (0, .ref (b 6 0)), (1, .int p1), (2, .int p2), (3, .ref q)]) hx hb dL_leastBits_13 hl (by decide) rfl (fun ls hl => ?_)
      refine lv_iconst (v := 1) hx hb dL_leastBits_15 (by decide) ?_
      exact W.iret (v := 1) hx hb hr (fun t ht hW => ⟨⟨_, (u, f), rfl, ⟨rfl, hsm, fun z => absurd z (by decide)⟩, by rw [ht]; exact hP1, hD1⟩, hS1.F ht⟩) hS1.2.2 dL_leastBits_16
  · refine lv_i2l hx hb dL_leastBits_8 rfl ?_
    refine hx_st hx hb hK hP1 hD1 hsm.2.2.2.2 hS1 dL_leastBits_9 (fun f1 H2 locs2 e1 hP2 hD2 hS2 => ?_)
    refine lv_goto (tgt := 17) hx hb dL_leastBits_10 (by decide) ?_
    refine lv_iconst (v := 0) hx hb dL_leastBits_17 (by decide) ?_
    exact W.iret (v := 0) hx hb hr (fun t ht hW => ⟨⟨_, (u, f1), rfl, ⟨by rw [h0]; rfl, hsm, fun _ => e1⟩, by rw [ht]; exact hP2, hD2⟩, hS2.F ht⟩) hS2.2.2 dL_leastBits_18
set_option maxHeartbeats 4000000 in
set_option maxRecDepth 100000 in
theorem c_L_couldFit (l : Launch) (hl0 : l.stackTraces = false) (D : va_G) (cI cF cL : ClassId) (b : Bf) (q : Nat) (f : Nat → Int64) (N : Nat) (u0 φ : M2) (η : HT) (τ : M2) (p1 : Int32) (p2 : Int32) (p3 : Int32) (k0 : Nat) (r0 : Int32) (u0r φr : M2) (ηr : HT) (τr : M2) (hF : G_X8_couldFit N u0 φ η τ p1 p2 p3 = some (k0, r0, u0r, φr, ηr, τr)) (hk0 : k0 = 0 ∨ k0 = 1) : Met l yL_couldFit (wsH yL_couldFit cL_couldFit 6 (some .int) [(0, 19, 22, 13)]) { frames := 8, cells := 3, slots := 18, locals := 140 } (va_Pc [.ref (b 6 0), .int p1, .int p2, .int p3, .ref q] (hPd D cI cF cL b u0 φ η τ q f)) (va_Qi (fun (r : Int32) (z : Bf × (Nat → Int64)) => r = hkc 1 k0 ∧ xSame b z.1 ∧ (k0 = 0 → z.2 0 = r0.toInt64)) (fun z t => va_P D vwCl (hWd cI cF cL z.1 u0r φr ηr τr q z.2) t.heap ∧ va_D (fun _ => True) (hWd cI cF cL z.1 u0r φr ηr τr q z.2)) (hAd b q)) 3 18 (hAd b q) := by
  refine va_MetW (cc := cL_couldFit) (maxL := 6) (ret := (some .int)) (hh := [(0, 19, 22, 13)]) (by decide) rfl ?_
  intro p e s m args below meth c s₁ B hml hpre
  obtain ⟨rfl, hP, hK, hD, hT, hZ, hNc⟩ := hpre
  have hx := B.exec
  have hb := B.bytes
  have hr := B.returns
  have hws := atoms_spec (ws := (wsH yL_couldFit cL_couldFit 6 (some .int) [(0, 19, 22, 13)])) B.pre
  have hA : ∀ w ∈ AW, w.before _ s = true := fun w h => hws w (List.mem_cons_of_mem _ h)
  have htab : c.exceptionTable.toList = [⟨0, 19, 22, 13⟩] := vx_table (x := yL_couldFit) B (hws _ List.mem_cons_self)
  have hown : s.vm.findClass RL = some m.cls := findClass_of_methodNamed B.named
  have hlocks := B.notSynchronized
  have hS : va_S (hAd b q) s.heap s.heap [] := va_S.rf
  have S : CallFix p m c cL_couldFit 6 s ([.ref (b 6 0), .int p1, .int p2, .int p3, .ref q] : List Value).toArray AW RL := ⟨hx, hb, hml, hown, hA⟩
  have hl := lv_entry ([.ref (b 6 0), .int p1, .int p2, .int p3, .ref q]) (n := 6) (Nat.le_of_ble_eq_true rfl)
  rw [lg_entry_eq]
  generalize (lg_sl ([.ref (b 6 0), .int p1, .int p2, .int p3, .ref q]) ++ List.replicate (6 - (lg_sl ([.ref (b 6 0), .int p1, .int p2, .int p3, .ref q])).length) Slot.unset).toArray = ls at hl ⊢
  have hl : lv_has ls 6 [(0, .ref (b 6 0)), (1, .int p1), (2, .int p2), (3, .int p3), (4, .ref q)] := hl
  refine lv_aload hx hb dL_couldFit_0 (lv_at hl 4 rfl) ?_
  refine lv_iconst (v := 0) hx hb dL_couldFit_2 (by decide) ?_
  refine lv_aload_n hx hb dL_couldFit_3 rfl (lv_at hl 0 rfl) ?_
  refine lv_iload_n hx hb dL_couldFit_4 rfl (lv_at hl 1 rfl) ?_
  refine lv_iload_n hx hb dL_couldFit_5 rfl (lv_at hl 2 rfl) ?_
  refine lv_iload_n hx hb dL_couldFit_6 rfl (lv_at hl 3 rfl) ?_
  refine hx_call (n := 3) (As := [.int p1, .int p2, .int p3]) (rest := [.int 0, .ref q]) (post := fun (r : Int32) (u : Bf) => k0 = 0 ∧ r = r0 ∧ xSame b u ∧ (r = 0 ∨ r = 1)) S (c_X8_couldFit l hl0 D cI cF b N u0 φ η τ p1 p2 p3 k0 r0 u0r φr ηr τr hF) (fun r u h => ⟨h.1, h.2.1, h.2.2.1⟩) aM_RL_98 aI_X8_couldFit aV_X8_couldFit aC_X8_couldFit rfl rfl (by decide +kernel) rfl ⟨Nat.le_of_ble_eq_true rfl, Nat.le_of_ble_eq_true rfl⟩ ⟨Nat.le_of_ble_eq_true rfl, Nat.le_of_ble_eq_true rfl⟩ hP hK hD hT hZ hS hl.1 (Nat.le_of_ble_eq_true rfl) dL_couldFit_7 (fun hne u ce q9 H1 locs1 hsm hP1 hD1 hS1 h9 hv hcl => ?_) (fun h0 u H1 locs1 hsm hP1 hD1 hS1 hu0 => ?_)
  · rcases hk0 with h0 | rfl
    · exact absurd h0 hne
    · refine vx_catch (E := eIA) (name := eIA) hown [] ⟨0, 19, 22, 13⟩ [] htab (fun z hz => absurd hz List.not_mem_nil) rfl (by decide) (hA _ aL_RL_13) (va_Nw.use rfl hT.1) h9 hv hcl ?_
      refine lv_astore (lv' := [(5, .ref q9), (0, .ref (b 6 0)), (1, .int p1), (2, .int p2), (3, .int p3), (4, .ref q)]) hx hb dL_couldFit_22 hl (by decide) rfl (fun ls hl => ?_)
      refine lv_iconst (v := 1) hx hb dL_couldFit_24 (by decide) ?_
      exact W.iret (v := 1) hx hb hr (fun t ht hW => ⟨⟨_, (u, f), rfl, ⟨rfl, hsm, fun z => absurd z (by decide)⟩, by rw [ht]; exact hP1, hD1⟩, hS1.F ht⟩) hS1.2.2 dL_couldFit_25
  · refine lv_if_eq (tgt := 17) hx hb dL_couldFit_10 (by decide) (fun hc => ?_) (fun hc => ?_)
    · refine lv_lconst (v := 0) hx hb dL_couldFit_17 (by decide) ?_
      refine hx_st hx hb hK hP1 hD1 hsm.2.2.2.2 hS1 dL_couldFit_18 (fun f1 H2 locs2 e1 hP2 hD2 hS2 => ?_)
      refine lv_goto (tgt := 26) hx hb dL_couldFit_19 (by decide) ?_
      refine lv_iconst (v := 0) hx hb dL_couldFit_26 (by decide) ?_
      exact W.iret (v := 0) hx hb hr (fun t ht hW => ⟨⟨_, (u, f1), rfl, ⟨by rw [h0]; rfl, hsm, fun _ => by show f1 0 = _; rw [e1, hc]; rfl⟩, by rw [ht]; exact hP2, hD2⟩, hS2.F ht⟩) hS2.2.2 dL_couldFit_27
    · have h1 : r0 = 1 := hu0.elim (fun _ hq => hq.2.2.2.resolve_left hc)
      refine lv_lconst (v := 1) hx hb dL_couldFit_13 (by decide) ?_
      refine lv_goto (tgt := 18) hx hb dL_couldFit_14 (by decide) ?_
      refine hx_st hx hb hK hP1 hD1 hsm.2.2.2.2 hS1 dL_couldFit_18 (fun f1 H2 locs2 e1 hP2 hD2 hS2 => ?_)
      refine lv_goto (tgt := 26) hx hb dL_couldFit_19 (by decide) ?_
      refine lv_iconst (v := 0) hx hb dL_couldFit_26 (by decide) ?_
      exact W.iret (v := 0) hx hb hr (fun t ht hW => ⟨⟨_, (u, f1), rfl, ⟨by rw [h0]; rfl, hsm, fun _ => by show f1 0 = _; rw [e1, h1]; rfl⟩, by rw [ht]; exact hP2, hD2⟩, hS2.F ht⟩) hS2.2.2 dL_couldFit_27
set_option maxHeartbeats 4000000 in
set_option maxRecDepth 100000 in
theorem c_L_append (l : Launch) (hl0 : l.stackTraces = false) (D : va_G) (cI cF cL : ClassId) (b : Bf) (q : Nat) (f : Nat → Int64) (N : Nat) (u0 φ : M2) (η : HT) (τ : M2) (p1 : Int32) (k0 : Nat) (r0 : Int32) (u0r φr : M2) (ηr : HT) (τr : M2) (hF : G_X8_append N u0 φ η τ p1 = some (k0, r0, u0r, φr, ηr, τr)) (hk0 : k0 = 0 ∨ k0 = 1 ∨ k0 = 2) : Met l yL_append (wsH yL_append cL_append 4 (some .int) [(0, 9, 12, 13), (0, 9, 15, 37)]) { frames := 8, cells := 2, slots := 12, locals := 123 } (va_Pc [.ref (b 6 0), .int p1, .ref q] (hPd D cI cF cL b u0 φ η τ q f)) (va_Qi (fun (r : Int32) (z : Bf × (Nat → Int64)) => r = hkc 1 k0 ∧ xSame b z.1 ∧ (k0 = 0 → z.2 0 = r0.toInt64)) (fun z t => va_P D vwCl (hWd cI cF cL z.1 u0r φr ηr τr q z.2) t.heap ∧ va_D (fun _ => True) (hWd cI cF cL z.1 u0r φr ηr τr q z.2)) (hAd b q)) 2 12 (hAd b q) := by
  refine va_MetW (cc := cL_append) (maxL := 4) (ret := (some .int)) (hh := [(0, 9, 12, 13), (0, 9, 15, 37)]) (by decide) rfl ?_
  intro p e s m args below meth c s₁ B hml hpre
  obtain ⟨rfl, hP, hK, hD, hT, hZ, hNc⟩ := hpre
  have hx := B.exec
  have hb := B.bytes
  have hr := B.returns
  have hws := atoms_spec (ws := (wsH yL_append cL_append 4 (some .int) [(0, 9, 12, 13), (0, 9, 15, 37)])) B.pre
  have hA : ∀ w ∈ AW, w.before _ s = true := fun w h => hws w (List.mem_cons_of_mem _ h)
  have htab : c.exceptionTable.toList = [⟨0, 9, 12, 13⟩, ⟨0, 9, 15, 37⟩] := vx_table (x := yL_append) B (hws _ List.mem_cons_self)
  have hown : s.vm.findClass RL = some m.cls := findClass_of_methodNamed B.named
  have hlocks := B.notSynchronized
  have hS : va_S (hAd b q) s.heap s.heap [] := va_S.rf
  have S : CallFix p m c cL_append 4 s ([.ref (b 6 0), .int p1, .ref q] : List Value).toArray AW RL := ⟨hx, hb, hml, hown, hA⟩
  have hl := lv_entry ([.ref (b 6 0), .int p1, .ref q]) (n := 4) (Nat.le_of_ble_eq_true rfl)
  rw [lg_entry_eq]
  generalize (lg_sl ([.ref (b 6 0), .int p1, .ref q]) ++ List.replicate (4 - (lg_sl ([.ref (b 6 0), .int p1, .ref q])).length) Slot.unset).toArray = ls at hl ⊢
  have hl : lv_has ls 4 [(0, .ref (b 6 0)), (1, .int p1), (2, .ref q)] := hl
  refine lv_aload_n hx hb dL_append_0 rfl (lv_at hl 2 rfl) ?_
  refine lv_iconst (v := 0) hx hb dL_append_1 (by decide) ?_
  refine lv_aload_n hx hb dL_append_2 rfl (lv_at hl 0 rfl) ?_
  refine lv_iload_n hx hb dL_append_3 rfl (lv_at hl 1 rfl) ?_
  refine hx_call (n := 1) (As := [.int p1]) (rest := [.int 0, .ref q]) (post := fun (r : Int32) (u : Bf) => k0 = 0 ∧ r = r0 ∧ xSame b u) S (c_X8_append l hl0 D cI cF b N u0 φ η τ p1 k0 r0 u0r φr ηr τr hF) (fun r u h => h) aM_RL_102 aI_X8_append aV_X8_append aC_X8_append rfl rfl (by decide +kernel) rfl ⟨Nat.le_of_ble_eq_true rfl, Nat.le_of_ble_eq_true rfl⟩ ⟨Nat.le_of_ble_eq_true rfl, Nat.le_of_ble_eq_true rfl⟩ hP hK hD hT hZ hS hl.1 (Nat.le_of_ble_eq_true rfl) dL_append_4 (fun hne u ce q9 H1 locs1 hsm hP1 hD1 hS1 h9 hv hcl => ?_) (fun h0 u H1 locs1 hsm hP1 hD1 hS1 hu0 => ?_)
  · rcases hk0 with h0 | rfl | rfl
    · exact absurd h0 hne
    · refine vx_catch (E := eIA) (name := eIA) hown [] ⟨0, 9, 12, 13⟩ [⟨0, 9, 15, 37⟩] htab (fun z hz => absurd hz List.not_mem_nil) rfl (by decide) (hA _ aL_RL_13) (va_Nw.use rfl hT.1) h9 hv hcl ?_
      refine lv_astore_n (lv' := [(3, .ref q9), (0, .ref (b 6 0)), (1, .int p1), (2, .ref q)]) hx hb dL_append_12 rfl hl (by decide) rfl (fun ls hl => ?_)
      refine lv_iconst (v := 1) hx hb dL_append_13 (by decide) ?_
      exact W.iret (v := 1) hx hb hr (fun t ht hW => ⟨⟨_, (u, f), rfl, ⟨rfl, hsm, fun z => absurd z (by decide)⟩, by rw [ht]; exact hP1, hD1⟩, hS1.F ht⟩) hS1.2.2 dL_append_14
    · refine vx_catch (E := eIS) (name := eIS) hown [⟨0, 9, 12, 13⟩] ⟨0, 9, 15, 37⟩ [] htab (fun z hz => by rcases List.mem_singleton.mp hz with rfl; exact Or.inr ⟨by decide, _, hA _ aL_RL_13, hNc.1⟩) rfl (by decide) (hA _ aL_RL_37) (va_Nw.use rfl hT.2.2.1) h9 hv hcl ?_
      refine lv_astore_n (lv' := [(3, .ref q9), (0, .ref (b 6 0)), (1, .int p1), (2, .ref q)]) hx hb dL_append_15 rfl hl (by decide) rfl (fun ls hl => ?_)
      refine lv_iconst (v := 2) hx hb dL_append_16 (by decide) ?_
      exact W.iret (v := 2) hx hb hr (fun t ht hW => ⟨⟨_, (u, f), rfl, ⟨rfl, hsm, fun z => absurd z (by decide)⟩, by rw [ht]; exact hP1, hD1⟩, hS1.F ht⟩) hS1.2.2 dL_append_17
  · refine lv_i2l hx hb dL_append_7 rfl ?_
    refine hx_st hx hb hK hP1 hD1 hsm.2.2.2.2 hS1 dL_append_8 (fun f1 H2 locs2 e1 hP2 hD2 hS2 => ?_)
    refine lv_goto (tgt := 18) hx hb dL_append_9 (by decide) ?_
    refine lv_iconst (v := 0) hx hb dL_append_18 (by decide) ?_
    exact W.iret (v := 0) hx hb hr (fun t ht hW => ⟨⟨_, (u, f1), rfl, ⟨by rw [h0]; rfl, hsm, fun _ => e1⟩, by rw [ht]; exact hP2, hD2⟩, hS2.F ht⟩) hS2.2.2 dL_append_19
set_option maxHeartbeats 4000000 in
set_option maxRecDepth 100000 in
theorem c_L_undo (l : Launch) (hl0 : l.stackTraces = false) (D : va_G) (cI cF cL : ClassId) (b : Bf) (q : Nat) (f : Nat → Int64) (N : Nat) (u0 φ : M2) (η : HT) (τ : M2) (k0 : Nat) (r0 : Int32) (u0r φr : M2) (ηr : HT) (τr : M2) (hF : G_X8_undo N u0 φ η τ = some (k0, r0, u0r, φr, ηr, τr)) (hk0 : k0 = 0 ∨ k0 = 2) : Met l yL_undo (wsH yL_undo cL_undo 3 (some .int) [(0, 8, 11, 37)]) { frames := 7, cells := 1, slots := 6, locals := 102 } (va_Pc [.ref (b 6 0), .ref q] (hPd D cI cF cL b u0 φ η τ q f)) (va_Qi (fun (r : Int32) (z : Bf × (Nat → Int64)) => r = hkc 2 k0 ∧ xSame b z.1 ∧ (k0 = 0 → z.2 0 = r0.toInt64)) (fun z t => va_P D vwCl (hWd cI cF cL z.1 u0r φr ηr τr q z.2) t.heap ∧ va_D (fun _ => True) (hWd cI cF cL z.1 u0r φr ηr τr q z.2)) (hAd b q)) 1 6 (hAd b q) := by
  refine va_MetW (cc := cL_undo) (maxL := 3) (ret := (some .int)) (hh := [(0, 8, 11, 37)]) (by decide) rfl ?_
  intro p e s m args below meth c s₁ B hml hpre
  obtain ⟨rfl, hP, hK, hD, hT, hZ, hNc⟩ := hpre
  have hx := B.exec
  have hb := B.bytes
  have hr := B.returns
  have hws := atoms_spec (ws := (wsH yL_undo cL_undo 3 (some .int) [(0, 8, 11, 37)])) B.pre
  have hA : ∀ w ∈ AW, w.before _ s = true := fun w h => hws w (List.mem_cons_of_mem _ h)
  have htab : c.exceptionTable.toList = [⟨0, 8, 11, 37⟩] := vx_table (x := yL_undo) B (hws _ List.mem_cons_self)
  have hown : s.vm.findClass RL = some m.cls := findClass_of_methodNamed B.named
  have hlocks := B.notSynchronized
  have hS : va_S (hAd b q) s.heap s.heap [] := va_S.rf
  have S : CallFix p m c cL_undo 3 s ([.ref (b 6 0), .ref q] : List Value).toArray AW RL := ⟨hx, hb, hml, hown, hA⟩
  have hl := lv_entry ([.ref (b 6 0), .ref q]) (n := 3) (Nat.le_of_ble_eq_true rfl)
  rw [lg_entry_eq]
  generalize (lg_sl ([.ref (b 6 0), .ref q]) ++ List.replicate (3 - (lg_sl ([.ref (b 6 0), .ref q])).length) Slot.unset).toArray = ls at hl ⊢
  have hl : lv_has ls 3 [(0, .ref (b 6 0)), (1, .ref q)] := hl
  refine lv_aload_n hx hb dL_undo_0 rfl (lv_at hl 1 rfl) ?_
  refine lv_iconst (v := 0) hx hb dL_undo_1 (by decide) ?_
  refine lv_aload_n hx hb dL_undo_2 rfl (lv_at hl 0 rfl) ?_
  refine hx_call (n := 0) (As := []) (rest := [.int 0, .ref q]) (post := fun (r : Int32) (u : Bf) => k0 = 0 ∧ r = r0 ∧ xSame b u) S (c_X8_undo l hl0 D cI cF b N u0 φ η τ k0 r0 u0r φr ηr τr hF) (fun r u h => h) aM_RL_105 aI_X8_undo aV_X8_undo aC_X8_undo rfl rfl (by decide +kernel) rfl ⟨Nat.le_of_ble_eq_true rfl, Nat.le_of_ble_eq_true rfl⟩ ⟨Nat.le_of_ble_eq_true rfl, Nat.le_of_ble_eq_true rfl⟩ hP hK hD hT hZ hS hl.1 (Nat.le_of_ble_eq_true rfl) dL_undo_3 (fun hne u ce q9 H1 locs1 hsm hP1 hD1 hS1 h9 hv hcl => ?_) (fun h0 u H1 locs1 hsm hP1 hD1 hS1 hu0 => ?_)
  · rcases hk0 with h0 | rfl
    · exact absurd h0 hne
    · refine vx_catch (E := eIS) (name := eIS) hown [] ⟨0, 8, 11, 37⟩ [] htab (fun z hz => absurd hz List.not_mem_nil) rfl (by decide) (hA _ aL_RL_37) (va_Nw.use rfl hT.2.2.1) h9 hv hcl ?_
      refine lv_astore_n (lv' := [(2, .ref q9), (0, .ref (b 6 0)), (1, .ref q)]) hx hb dL_undo_11 rfl hl (by decide) rfl (fun ls hl => ?_)
      refine lv_iconst (v := 1) hx hb dL_undo_12 (by decide) ?_
      exact W.iret (v := 1) hx hb hr (fun t ht hW => ⟨⟨_, (u, f), rfl, ⟨rfl, hsm, fun z => absurd z (by decide)⟩, by rw [ht]; exact hP1, hD1⟩, hS1.F ht⟩) hS1.2.2 dL_undo_13
  · refine lv_i2l hx hb dL_undo_6 rfl ?_
    refine hx_st hx hb hK hP1 hD1 hsm.2.2.2.2 hS1 dL_undo_7 (fun f1 H2 locs2 e1 hP2 hD2 hS2 => ?_)
    refine lv_goto (tgt := 14) hx hb dL_undo_8 (by decide) ?_
    refine lv_iconst (v := 0) hx hb dL_undo_14 (by decide) ?_
    exact W.iret (v := 0) hx hb hr (fun t ht hW => ⟨⟨_, (u, f1), rfl, ⟨by rw [h0]; rfl, hsm, fun _ => e1⟩, by rw [ht]; exact hP2, hD2⟩, hS2.F ht⟩) hS2.2.2 dL_undo_15
