/-! rows of the whole object's own methods -/
def eOf (k : Nat) : String := if k = 1 then eIA else if k = 2 then eIS else eIO
theorem xSame_rf {b : Bf} : xSame b b := ⟨rfl, rfl, rfl, rfl, fun _ h => h⟩
section XR
variable {p : Program} {l : Launch} {e : Env} {R : Room} {s : State} {m : MethodId} {args : Array Value} {below : List Frame} {meth : Method} {c : Code} {H : Heap} {locs : List Loc} {cells slots : Nat} {Q : State → Prop} {cc : ByteArray} {pc nL idx : Nat} {ls : Array Slot} {rest : List Value} {own : String} {D : va_G} {cI cF : ClassId} {b : Bf} {u0 u1 : M2} {η : HT} {τ : M2}
variable {H0 : Heap} {A A0 : Nat → Prop} {y : MethodName} {bytes : ByteArray} {maxL n : Nat} {rm : Room} {As : List Value} {g : Int32} {E0 : String}
/-- a static check: it throws where g is 0 -/
theorem fx_chk (S : CallFix p m c cc nL s args AW own) (hM : vx_Met l y (wsA y bytes maxL none) rm (va_Pc As (xE A)) (va_Qv (fun (_ : Unit) => ¬ g = 0) (fun _ _ => True) (fun _ => False)) (vx_X (fun (_ : Unit) => g = 0) (fun E _ _ => E = E0) (fun _ => False)) 1 6 (fun _ => False)) (hT : xT s) (hZ : xZ A s H) (hS : va_S A0 H0 H locs)
    (h1 : Cond.methodLink own idx y ∈ AW) (h2 : Cond.static y ∈ AW) (h3 : Cond.initialized y.cls ∈ AW) (h4 : Cond.code y bytes maxL none ∈ AW) (hrc : rm.cells = 1) (hrs : rm.slots = 6)
    (hd : y.cls ≠ "java/lang/invoke/MethodHandle" ∧ y.cls ≠ "java/lang/invoke/VarHandle" ∧ (parseMethodDescriptor y.desc).map (fun d => d.parameters.length) = some n) (hn : As.length = n)
    (hR : rm.frames + 1 ≤ R.frames ∧ 8 + (maxL + 11) + rm.locals ≤ R.locals) (hc : cells + 1 ≤ R.cells ∧ slots + 6 ≤ R.slots) (hsz : ls.size = nL) (hW : (rest.map fun v => v.category).sum ≤ 8) (hdg : decode cc pc = .ok (.invokestatic idx, 3))
    (kx : g = 0 → ∀ (ce : Cell) (q9 : Addr) (H1 : Heap) (locs1 : List Loc), (∀ q : Nat, q < H.size → H1[q]? = H[q]?) → H.size ≤ H1.size → va_S A0 H0 H1 locs1 → H1[q9]? = some ce → ce.vm = .none → s.vm.findClass E0 = some ce.cls → vx_W p l e R s m args below meth c H1 locs1 (cells + 1) (slots + 6) Q (F0 m pc ls rest) q9)
    (kk : ¬ g = 0 → ∀ (H1 : Heap) (locs1 : List Loc), (∀ q : Nat, q < H.size → H1[q]? = H[q]?) → H.size ≤ H1.size → va_S A0 H0 H1 locs1 → W p l e R s m args below meth c H1 locs1 (cells + 1) (slots + 6) Q (F0 m (pc + 3) ls rest)) : W p l e R s m args below meth c H locs cells slots Q (F0 m pc ls (As.reverse ++ rest)) :=
  vx_callv (vx_runS (As := As) (rest := rest) S hM (va_cwS n S.2.2.2.2 (gS h1 h2 h3 h4) rfl hrc hrs hd hR) ⟨fun _ _ _ _ q => ⟨q.1, q.2.call⟩, fun U hU hW => ⟨rfl, xE.at hT hZ hU hW⟩⟩ rfl hn hsz rfl (lv_room hW) hdg ⟨hc.1, hc.2⟩) hS (fun _ _ h => h.elim) (fun _ h => h.elim) (fun _ _ h => h.elim)
    (fun E ce q9 u t H1 locs1 ht _ hg hE hz hk hS1 h9 hv hcl => by
      subst hE
      exact kx hg ce q9 H1 locs1 (fun q hq => hk q hq (fun z => z)) hz hS1 h9 hv hcl)
    (fun u t H1 locs1 ht _ hg _ hz hk hS1 => kk hg H1 locs1 (fun q hq => hk q hq (fun z => z)) hz hS1)
theorem X_all {H1 : Heap} (hP : va_P D vwCl (xW cI cF b u0 u1 η τ) H) (hk : ∀ q : Nat, q < H.size → H1[q]? = H[q]?) : va_P D vwCl (xW cI cF b u0 u1 η τ) H1 := hP.kept (fun k q h => hk q.1 (hP k q h).lt)
theorem xg_current (hx : p.tables.exec = Jvm.exec) (hb : c.code = cc) (hA : ∀ w ∈ AW, w.before args s = true) (hown : s.vm.findClass own = some m.cls) (hl : Cond.fieldLink own idx "CuckooAudit" "current" "LCuckooAudit$Filter;" ∈ AW) (hK : va_K D vwCl (xTy cI cF) s) (hP : va_P D vwCl (xW cI cF b u0 u1 η τ) H) (hd : decode cc pc = .ok (.getfield idx, 3)) (k : W p l e R s m args below meth c H locs cells slots Q (F0 m (pc + 3) ls (.ref (b 0 0) :: rest))) : W p l e R s m args below meth c H locs cells slots Q (F0 m pc ls (.ref (b 6 0) :: rest)) :=
  va_get (D := D) (ci := 6) (v := .ref (b 0 0)) (C := RX8) (T := TX8) (N := 4) hx hb hA in_wsX80 hown hK hP 0 rfl rfl 0 (by decide) (hA _ hl) (fun _ h => h) rfl hd k
theorem xg_thought (hx : p.tables.exec = Jvm.exec) (hb : c.code = cc) (hA : ∀ w ∈ AW, w.before args s = true) (hown : s.vm.findClass own = some m.cls) (hl : Cond.fieldLink own idx "CuckooAudit" "thought" "LCuckooAudit$Filter;" ∈ AW) (hK : va_K D vwCl (xTy cI cF) s) (hP : va_P D vwCl (xW cI cF b u0 u1 η τ) H) (hd : decode cc pc = .ok (.getfield idx, 3)) (k : W p l e R s m args below meth c H locs cells slots Q (F0 m (pc + 3) ls (.ref (b 1 0) :: rest))) : W p l e R s m args below meth c H locs cells slots Q (F0 m pc ls (.ref (b 6 0) :: rest)) :=
  va_get (D := D) (ci := 6) (v := .ref (b 1 0)) (C := RX8) (T := TX8) (N := 4) hx hb hA in_wsX80 hown hK hP 0 rfl rfl 1 (by decide) (hA _ hl) (fun _ h => h) rfl hd k
theorem xg_history (hx : p.tables.exec = Jvm.exec) (hb : c.code = cc) (hA : ∀ w ∈ AW, w.before args s = true) (hown : s.vm.findClass own = some m.cls) (hl : Cond.fieldLink own idx "CuckooAudit" "history" "LCuckooAudit$History;" ∈ AW) (hK : va_K D vwCl (xTy cI cF) s) (hP : va_P D vwCl (xW cI cF b u0 u1 η τ) H) (hd : decode cc pc = .ok (.getfield idx, 3)) (k : W p l e R s m args below meth c H locs cells slots Q (F0 m (pc + 3) ls (.ref (b 6 1) :: rest))) : W p l e R s m args below meth c H locs cells slots Q (F0 m pc ls (.ref (b 6 0) :: rest)) :=
  va_get (D := D) (ci := 6) (v := .ref (b 6 1)) (C := RX8) (T := TX8) (N := 4) hx hb hA in_wsX80 hown hK hP 0 rfl rfl 2 (by decide) (hA _ hl) (fun _ h => h) rfl hd k
theorem xg_text (hx : p.tables.exec = Jvm.exec) (hb : c.code = cc) (hA : ∀ w ∈ AW, w.before args s = true) (hown : s.vm.findClass own = some m.cls) (hl : Cond.fieldLink own idx "CuckooAudit" "text" "LCuckooAudit$Text;" ∈ AW) (hK : va_K D vwCl (xTy cI cF) s) (hP : va_P D vwCl (xW cI cF b u0 u1 η τ) H) (hd : decode cc pc = .ok (.getfield idx, 3)) (k : W p l e R s m args below meth c H locs cells slots Q (F0 m (pc + 3) ls (.ref (b 7 0) :: rest))) : W p l e R s m args below meth c H locs cells slots Q (F0 m pc ls (.ref (b 6 0) :: rest)) :=
  va_get (D := D) (ci := 6) (v := .ref (b 7 0)) (C := RX8) (T := TX8) (N := 4) hx hb hA in_wsX80 hown hK hP 0 rfl rfl 3 (by decide) (hA _ hl) (fun _ h => h) rfl hd k
theorem k_X3_size (S : CallFix p m c cc nL s args AW own) (h1 : Cond.methodLink own idx yX3_size ∈ AW) (hR : 0 + 1 ≤ R.frames ∧ 8 + (1 + 11) + 0 ≤ R.locals) (hc : cells ≤ R.cells ∧ slots ≤ R.slots) (hP : va_P D vwCl (xW cI cF b u0 u1 η τ) H) (hK : va_K D vwCl (xTy cI cF) s) (hD : va_D (fun _ => True) (xW cI cF b u0 u1 η τ)) (hsz : ls.size = nL) (hW : (rest.map fun v => v.category).sum ≤ 8) (hdg : decode cc pc = .ok (.invokevirtual idx, 3)) (kk : W p l e R s m args below meth c H locs cells slots Q (F0 m (pc + 3) ls (.int η.2 :: rest))) : W p l e R s m args below meth c H locs cells slots Q (F0 m pc ls (.ref (b 6 1) :: rest)) :=
  fm_runV (n := 0) (C := RX3) (As := []) S (c_X3_size l D cI cF b u0 u1 η τ) (xH_pre (q0 := 1) (ci := 1) hK hP hD rfl rfl) h1 aI_X3_size aV_X3_size aN_RX3 aC_X3_size rfl rfl (by decide +kernel) rfl hR hc hsz hW hdg (fun r hr => by subst hr; exact kk)
end XR
def H_push (N : Nat) (u0 : M2) (η : HT) : Option (M2 × HT) :=
  if η.2 = 0 then obd (G_X2_copyFrom N (xPm (η.1 0) u0)) fun q => some (xsh q, hup (η.1, 1) 0 q)
  else if η.2 = 1 then obd (G_X2_copyFrom N (xPm (η.1 1) u0)) fun q => some (xsh q, hup (η.1, 2) 1 q)
  else if η.2 = 2 then obd (G_X2_copyFrom N (xPm (η.1 2) u0)) fun q => some (xsh q, hup (η.1, 3) 2 q)
  else if η.2 = 3 then obd (G_X2_copyFrom N (xPm (η.1 3) u0)) fun q => some (xsh q, hup (η.1, 4) 3 q)
  else if η.2 = 4 then obd (G_X2_copyFrom N (xPm (eRot η.1 3) u0)) fun q => some (xsh q, hup (eRot η.1, 4) 3 q)
  else none
def H_pop (N : Nat) (u0 : M2) (η : HT) : Option (Int32 × M2 × HT) :=
  if η.2 = 1 then obd (G_X2_copyFrom N (xPm u0 (η.1 0))) fun q => some (0, q, hup (η.1, 0) 0 (xsh q))
  else if η.2 = 2 then obd (G_X2_copyFrom N (xPm u0 (η.1 1))) fun q => some (1, q, hup (η.1, 1) 1 (xsh q))
  else if η.2 = 3 then obd (G_X2_copyFrom N (xPm u0 (η.1 2))) fun q => some (2, q, hup (η.1, 2) 2 (xsh q))
  else if η.2 = 4 then obd (G_X2_copyFrom N (xPm u0 (η.1 3))) fun q => some (3, q, hup (η.1, 3) 3 (xsh q))
  else none
section XR2
variable {p : Program} {l : Launch} {e : Env} {R : Room} {s : State} {m : MethodId} {args : Array Value} {below : List Frame} {meth : Method} {c : Code} {H : Heap} {locs : List Loc} {cells slots : Nat} {Q : State → Prop} {cc : ByteArray} {pc nL idx : Nat} {ls : Array Slot} {rest : List Value} {own : String} {D : va_G} {cI cF : ClassId} {b : Bf} {u0 u1 : M2} {η : HT} {τ : M2}
variable {H0 : Heap} {A0 : Nat → Prop}
theorem k_X3_push {N : Nat} {u0r : M2} {ηr : HT} (S : CallFix p m c cc nL s args AW own) (h1 : Cond.methodLink own idx yX3_push ∈ AW) (hR : 2 + 1 ≤ R.frames ∧ 8 + (3 + 11) + 60 ≤ R.locals) (hc : cells ≤ R.cells ∧ slots ≤ R.slots) (hP : va_P D vwCl (xW cI cF b u0 u1 η τ) H) (hK : va_K D vwCl (xTy cI cF) s) (hD : va_D (fun _ => True) (xW cI cF b u0 u1 η τ)) (hS : va_S A0 H0 H locs) (hA0 : ∀ q, xA b q → A0 q) (hF : H_push N u0 η = some (u0r, ηr)) (hsz : ls.size = nL) (hW : (rest.map fun v => v.category).sum ≤ 8) (hdg : decode cc pc = .ok (.invokevirtual idx, 3)) (kk : ∀ (u : Bf) (H1 : Heap) (locs1 : List Loc), xSame b u → (∀ q, xA u q → xA b q) → va_P D vwCl (xW cI cF u u0r u1 ηr τ) H1 → va_D (fun _ => True) (xW cI cF u u0r u1 ηr τ) → (∀ q : Nat, q < H.size → ¬ xA b q → H1[q]? = H[q]?) → H.size ≤ H1.size → va_S A0 H0 H1 locs1 → W p l e R s m args below meth c H1 locs1 cells slots Q (F0 m (pc + 3) ls rest)) : W p l e R s m args below meth c H locs cells slots Q (F0 m pc ls (.ref (b 0 0) :: .ref (b 6 1) :: rest)) := by
  obtain ⟨e0, h0⟩ := η
  unfold H_push at hF
  by_cases n0 : h0 = 0
  · replace hF := oi_t n0 hF
    subst n0
    obtain ⟨χ, hχ, hF⟩ := obd_e hF
    obtain ⟨rfl, rfl⟩ := os2 hF
    exact fx_runVv (n := 1) (C := RX3) (As := [.ref (b 0 0)]) S (c_X3_push_0 l D cI cF b u0 u1 e0 τ N χ hχ) (xH_pre (q0 := 1) (ci := 1) hK hP hD rfl rfl) hS hA0 h1 aI_X3_push aV_X3_push aN_RX3 aC_X3_push rfl rfl (by decide +kernel) rfl hR hc hsz hW hdg (fun _ t H1 locs1 ht _ hB hk hz hS1 => kk b H1 locs1 xSame_rf (fun q h => h) (by rw [← ht]; exact hB) (X_D hD _ _ _ _) hk hz hS1)
  by_cases n1 : h0 = 1
  · replace hF := oi_f n0 hF
    replace hF := oi_t n1 hF
    subst n1
    obtain ⟨χ, hχ, hF⟩ := obd_e hF
    obtain ⟨rfl, rfl⟩ := os2 hF
    exact fx_runVv (n := 1) (C := RX3) (As := [.ref (b 0 0)]) S (c_X3_push_1 l D cI cF b u0 u1 e0 τ N χ hχ) (xH_pre (q0 := 1) (ci := 1) hK hP hD rfl rfl) hS hA0 h1 aI_X3_push aV_X3_push aN_RX3 aC_X3_push rfl rfl (by decide +kernel) rfl hR hc hsz hW hdg (fun _ t H1 locs1 ht _ hB hk hz hS1 => kk b H1 locs1 xSame_rf (fun q h => h) (by rw [← ht]; exact hB) (X_D hD _ _ _ _) hk hz hS1)
  by_cases n2 : h0 = 2
  · replace hF := oi_f n0 hF
    replace hF := oi_f n1 hF
    replace hF := oi_t n2 hF
    subst n2
    obtain ⟨χ, hχ, hF⟩ := obd_e hF
    obtain ⟨rfl, rfl⟩ := os2 hF
    exact fx_runVv (n := 1) (C := RX3) (As := [.ref (b 0 0)]) S (c_X3_push_2 l D cI cF b u0 u1 e0 τ N χ hχ) (xH_pre (q0 := 1) (ci := 1) hK hP hD rfl rfl) hS hA0 h1 aI_X3_push aV_X3_push aN_RX3 aC_X3_push rfl rfl (by decide +kernel) rfl hR hc hsz hW hdg (fun _ t H1 locs1 ht _ hB hk hz hS1 => kk b H1 locs1 xSame_rf (fun q h => h) (by rw [← ht]; exact hB) (X_D hD _ _ _ _) hk hz hS1)
  by_cases n3 : h0 = 3
  · replace hF := oi_f n0 hF
    replace hF := oi_f n1 hF
    replace hF := oi_f n2 hF
    replace hF := oi_t n3 hF
    subst n3
    obtain ⟨χ, hχ, hF⟩ := obd_e hF
    obtain ⟨rfl, rfl⟩ := os2 hF
    exact fx_runVv (n := 1) (C := RX3) (As := [.ref (b 0 0)]) S (c_X3_push_3 l D cI cF b u0 u1 e0 τ N χ hχ) (xH_pre (q0 := 1) (ci := 1) hK hP hD rfl rfl) hS hA0 h1 aI_X3_push aV_X3_push aN_RX3 aC_X3_push rfl rfl (by decide +kernel) rfl hR hc hsz hW hdg (fun _ t H1 locs1 ht _ hB hk hz hS1 => kk b H1 locs1 xSame_rf (fun q h => h) (by rw [← ht]; exact hB) (X_D hD _ _ _ _) hk hz hS1)
  by_cases n4 : h0 = 4
  · replace hF := oi_f n0 hF
    replace hF := oi_f n1 hF
    replace hF := oi_f n2 hF
    replace hF := oi_f n3 hF
    replace hF := oi_t n4 hF
    subst n4
    obtain ⟨χ, hχ, hF⟩ := obd_e hF
    obtain ⟨rfl, rfl⟩ := os2 hF
    exact fx_runVv (n := 1) (C := RX3) (As := [.ref (b 0 0)]) S (c_X3_push_4 l D cI cF b u0 u1 e0 τ N χ hχ) (xH_pre (q0 := 1) (ci := 1) hK hP hD rfl rfl) hS hA0 h1 aI_X3_push aV_X3_push aN_RX3 aC_X3_push rfl rfl (by decide +kernel) rfl hR hc hsz hW hdg (fun _ t H1 locs1 ht _ hB hk hz hS1 => kk (xRot b) H1 locs1 ⟨rfl, rfl, rfl, rfl, fun _ h => xRot_A h⟩ (fun q h => xRot_A h) (by rw [← ht]; exact hB) (X_D (xRot_D (h1 := 4) hD) _ _ _ _) hk hz hS1)
  replace hF := oi_f n0 hF
  replace hF := oi_f n1 hF
  replace hF := oi_f n2 hF
  replace hF := oi_f n3 hF
  replace hF := oi_f n4 hF
  exact no_s hF
theorem k_X3_pop {N : Nat} {r0 : Int32} {u0r : M2} {ηr : HT} (S : CallFix p m c cc nL s args AW own) (h1 : Cond.methodLink own idx yX3_pop ∈ AW) (hR : 2 + 1 ≤ R.frames ∧ 8 + (3 + 11) + 60 ≤ R.locals) (hc : cells ≤ R.cells ∧ slots ≤ R.slots) (hP : va_P D vwCl (xW cI cF b u0 u1 η τ) H) (hK : va_K D vwCl (xTy cI cF) s) (hD : va_D (fun _ => True) (xW cI cF b u0 u1 η τ)) (hS : va_S A0 H0 H locs) (hA0 : ∀ q, xA b q → A0 q) (hF : H_pop N u0 η = some (r0, u0r, ηr)) (hsz : ls.size = nL) (hW : (rest.map fun v => v.category).sum ≤ 8) (hdg : decode cc pc = .ok (.invokevirtual idx, 3)) (kk : ∀ (H1 : Heap) (locs1 : List Loc), va_P D vwCl (xW cI cF b u0r u1 ηr τ) H1 → (∀ q : Nat, q < H.size → ¬ xA b q → H1[q]? = H[q]?) → H.size ≤ H1.size → va_S A0 H0 H1 locs1 → W p l e R s m args below meth c H1 locs1 cells slots Q (F0 m (pc + 3) ls (.int r0 :: rest))) : W p l e R s m args below meth c H locs cells slots Q (F0 m pc ls (.ref (b 0 0) :: .ref (b 6 1) :: rest)) := by
  obtain ⟨e0, h0⟩ := η
  unfold H_pop at hF
  by_cases n1 : h0 = 1
  · replace hF := oi_t n1 hF
    subst n1
    obtain ⟨χ, hχ, hF⟩ := obd_e hF
    obtain ⟨rfl, rfl, rfl⟩ := os3 hF
    exact fx_runVi (n := 1) (C := RX3) (As := [.ref (b 0 0)]) S (c_X3_pop_1 l D cI cF b u0 u1 e0 τ N χ hχ) (xH_pre (q0 := 1) (ci := 1) hK hP hD rfl rfl) hS hA0 h1 aI_X3_pop aV_X3_pop aN_RX3 aC_X3_pop rfl rfl (by decide +kernel) rfl hR hc hsz hW hdg (fun r _ t H1 locs1 ht hr hB hk hz hS1 => by subst hr; exact kk H1 locs1 (by rw [← ht]; exact hB) hk hz hS1)
  by_cases n2 : h0 = 2
  · replace hF := oi_f n1 hF
    replace hF := oi_t n2 hF
    subst n2
    obtain ⟨χ, hχ, hF⟩ := obd_e hF
    obtain ⟨rfl, rfl, rfl⟩ := os3 hF
    exact fx_runVi (n := 1) (C := RX3) (As := [.ref (b 0 0)]) S (c_X3_pop_2 l D cI cF b u0 u1 e0 τ N χ hχ) (xH_pre (q0 := 1) (ci := 1) hK hP hD rfl rfl) hS hA0 h1 aI_X3_pop aV_X3_pop aN_RX3 aC_X3_pop rfl rfl (by decide +kernel) rfl hR hc hsz hW hdg (fun r _ t H1 locs1 ht hr hB hk hz hS1 => by subst hr; exact kk H1 locs1 (by rw [← ht]; exact hB) hk hz hS1)
  by_cases n3 : h0 = 3
  · replace hF := oi_f n1 hF
    replace hF := oi_f n2 hF
    replace hF := oi_t n3 hF
    subst n3
    obtain ⟨χ, hχ, hF⟩ := obd_e hF
    obtain ⟨rfl, rfl, rfl⟩ := os3 hF
    exact fx_runVi (n := 1) (C := RX3) (As := [.ref (b 0 0)]) S (c_X3_pop_3 l D cI cF b u0 u1 e0 τ N χ hχ) (xH_pre (q0 := 1) (ci := 1) hK hP hD rfl rfl) hS hA0 h1 aI_X3_pop aV_X3_pop aN_RX3 aC_X3_pop rfl rfl (by decide +kernel) rfl hR hc hsz hW hdg (fun r _ t H1 locs1 ht hr hB hk hz hS1 => by subst hr; exact kk H1 locs1 (by rw [← ht]; exact hB) hk hz hS1)
  by_cases n4 : h0 = 4
  · replace hF := oi_f n1 hF
    replace hF := oi_f n2 hF
    replace hF := oi_f n3 hF
    replace hF := oi_t n4 hF
    subst n4
    obtain ⟨χ, hχ, hF⟩ := obd_e hF
    obtain ⟨rfl, rfl, rfl⟩ := os3 hF
    exact fx_runVi (n := 1) (C := RX3) (As := [.ref (b 0 0)]) S (c_X3_pop_4 l D cI cF b u0 u1 e0 τ N χ hχ) (xH_pre (q0 := 1) (ci := 1) hK hP hD rfl rfl) hS hA0 h1 aI_X3_pop aV_X3_pop aN_RX3 aC_X3_pop rfl rfl (by decide +kernel) rfl hR hc hsz hW hdg (fun r _ t H1 locs1 ht hr hB hk hz hS1 => by subst hr; exact kk H1 locs1 (by rw [← ht]; exact hB) hk hz hS1)
  replace hF := oi_f n1 hF
  replace hF := oi_f n2 hF
  replace hF := oi_f n3 hF
  replace hF := oi_f n4 hF
  exact no_s hF
end XR2
set_option maxHeartbeats 4000000 in
set_option maxRecDepth 100000 in
theorem c_X2_walked (l : Launch) (D : va_G) (cI : ClassId) (a : Nat → Nat) (φ : M2) : Met l yX2_walked (wsA yX2_walked cX2_walked 1 (some (.object "CuckooAudit$Walk"))) { frames := 0, cells := 0, slots := 0, locals := 0 } (va_Pc [.ref (a 0)] (fbP D cI a φ)) (k2_QcV (.ref (a 5))) 0 0 (fun _ => False) := by
  refine Met.ofW (cc := cX2_walked) (maxL := 1) (ret := (some (.object "CuckooAudit$Walk"))) (by decide) rfl ?_
  intro p e s m args below meth c s₁ B hml hpre
  obtain ⟨rfl, hP, hK, hD0⟩ := hpre
  have hx := B.exec
  have hb := B.bytes
  have hr := B.returns
  have hA : ∀ w ∈ AW, w.before _ s = true := fun w h => atoms_spec (ws := wsA yX2_walked cX2_walked 1 (some (.object "CuckooAudit$Walk"))) B.pre w (List.mem_cons_of_mem _ h)
  have hown : s.vm.findClass RX2 = some m.cls := findClass_of_methodNamed B.named
  have hlocks := B.notSynchronized
  have S : CallFix p m c cX2_walked 1 s ([.ref (a 0)] : List Value).toArray AW RX2 := ⟨hx, hb, hml, hown, hA⟩
  have hl := lv_entry ([.ref (a 0)]) (n := 1) (Nat.le_of_ble_eq_true rfl)
  rw [lg_entry_eq]
  generalize (lg_sl ([.ref (a 0)]) ++ List.replicate (1 - (lg_sl ([.ref (a 0)])).length) Slot.unset).toArray = ls at hl ⊢
  have hl : lv_has ls 1 [(0, .ref (a 0))] := hl
  refine lv_aload_n hx hb dX2_walked_0 rfl (lv_at hl 0 rfl) ?_
  refine F_g0_9 hx hb hA hown aF_RX2_44 hK hP dX2_walked_1 ?_
  exact W.aret (v := .ref (a 5)) hx hb hr (Or.inl ⟨_, rfl⟩) (Or.inr ⟨_, rfl⟩) (fun t ht hW => ⟨rfl, ht⟩) (fun q hq => absurd hq List.not_mem_nil) dX2_walked_4
theorem k_X2_walked {p : Program} {l : Launch} {e : Env} {R : Room} {s : State} {m : MethodId} {args : Array Value} {below : List Frame} {meth : Method} {c : Code} {H : Heap} {locs : List Loc} {cells slots : Nat} {Q : State → Prop} {cc : ByteArray} {pc nL idx : Nat} {ls : Array Slot} {rest : List Value} {own : String} {D : va_G} {cI : ClassId} {a : Nat → Nat} {φ : M2} (S : CallFix p m c cc nL s args AW own) (h1 : Cond.methodLink own idx yX2_walked ∈ AW) (hR : 0 + 1 ≤ R.frames ∧ 8 + (1 + 11) + 0 ≤ R.locals) (hc : cells ≤ R.cells ∧ slots ≤ R.slots) (hP : va_P D vwCl (fbW cI a φ) H) (hK : va_K D vwCl [(cI, .int)] s) (hDT : ∀ (φ2 : M2), va_D (fun _ => True) (fbW cI a φ2)) (hsz : ls.size = nL) (hW : (rest.map fun v => v.category).sum ≤ 8) (hdg : decode cc pc = .ok (.invokevirtual idx, 3)) (kk : W p l e R s m args below meth c H locs cells slots Q (F0 m (pc + 3) ls (.ref (a 5) :: rest))) : W p l e R s m args below meth c H locs cells slots Q (F0 m pc ls (.ref (a 0) :: rest)) :=
  fx_runVal (n := 0) (C := RX2) (As := []) S (c_X2_walked l D cI a φ) (F_pre (q0 := 0) (ci := 0) hK hP (hDT _) rfl rfl) h1 aI_X2_walked aV_X2_walked aN_RX2 aC_X2_walked rfl rfl (by decide +kernel) rfl hR hc hsz hW hdg kk
def G_X8_checkKey (p0 : Int32) : Int32 := G_X8_within p0 0 999
set_option maxHeartbeats 4000000 in
set_option maxRecDepth 100000 in
theorem c_X8_checkKey (l : Launch) (hl0 : l.stackTraces = false) (A : Nat → Prop) (p0 : Int32) : vx_Met l yX8_checkKey (wsA yX8_checkKey cX8_checkKey 1 none) { frames := 7, cells := 1, slots := 6, locals := 102 } (va_Pc [.int p0] (xE A)) (va_Qv (fun (_ : Unit) => ¬ G_X8_checkKey p0 = 0) (fun _ _ => True) (fun _ => False)) (vx_X (fun (_ : Unit) => G_X8_checkKey p0 = 0) (fun E _ _ => E = eIA) (fun _ => False)) 1 6 (fun _ => False) := by
  refine vx_ofW (cc := cX8_checkKey) (maxL := 1) (ret := none) (by decide) rfl ?_
  intro p e s m args below meth c s₁ B hml htab hpre
  obtain ⟨rfl, hT, hZ⟩ := hpre
  have hx := B.exec
  have hb := B.bytes
  have hr := B.returns
  have hA : ∀ w ∈ AW, w.before _ s = true := fun w h => atoms_spec (ws := wsA yX8_checkKey cX8_checkKey 1 none) B.pre w (List.mem_cons_of_mem _ h)
  have hown : s.vm.findClass RX8 = some m.cls := findClass_of_methodNamed B.named
  have hlocks := B.notSynchronized
  have S : CallFix p m c cX8_checkKey 1 s ([.int p0] : List Value).toArray AW RX8 := ⟨hx, hb, hml, hown, hA⟩
  have hl := lv_entry ([.int p0]) (n := 1) (Nat.le_of_ble_eq_true rfl)
  rw [lg_entry_eq]
  generalize (lg_sl ([.int p0]) ++ List.replicate (1 - (lg_sl ([.int p0])).length) Slot.unset).toArray = ls at hl ⊢
  have hl : lv_has ls 1 [(0, .int p0)] := hl
  have hS : va_S (fun _ => False) s.heap s.heap [] := va_S.rf
  refine lv_iload_n hx hb dX8_checkKey_0 rfl (lv_at hl 0 rfl) ?_
  refine lv_iconst (v := 0) hx hb dX8_checkKey_1 (by decide) ?_
  refine lv_sipush (v := 999) hx hb dX8_checkKey_2 (by decide) ?_
  refine k_X8_within S aM_RX8_71 ⟨Nat.le_of_ble_eq_true rfl, Nat.le_of_ble_eq_true rfl⟩ ⟨Nat.zero_le _, Nat.zero_le _⟩ hl.1 (Nat.le_of_ble_eq_true rfl) dX8_checkKey_5 (fun r1 er1 br1 => ?_)
  have hg0 : r1 = G_X8_checkKey p0 := er1
  rw [hg0]
  refine fx_chk (n := 1) (As := [.int (G_X8_checkKey p0)]) S (c_X8_checkArgument l hl0 A (G_X8_checkKey p0)) hT hZ hS aM_RX8_101 aS_X8_checkArgument aN_RX8 aC_X8_checkArgument rfl rfl (by decide +kernel) rfl ⟨Nat.le_of_ble_eq_true rfl, Nat.le_of_ble_eq_true rfl⟩ ⟨by decide, by decide⟩ hl.1 (Nat.le_of_ble_eq_true rfl) dX8_checkKey_8 (fun hg ce q9 H1 locs1 hk hz hS h9 hv hcl => vx_out (fun x hx => (htab x hx).elim) hlocks h9 hv hcl (fun t ht _ => ⟨(), hg, rfl, hS.F ht⟩) hS.2.2 (Nat.le_refl _) (Nat.le_refl _)) (fun hg H1 locs hk hz hS => ?_)
  refine vx_ret ?_
  exact W.vret hx hb hr (fun t ht hW => ⟨⟨(), rfl, hg, trivial⟩, hS.F ht⟩) hS.2.2 dX8_checkKey_11
def G_X8_checkRange (p0 p1 : Int32) : Int32 := if p0 < 0 then 0 else if p1 < p0 then 0 else if 1000 ≤ p1 then 0 else 1
set_option maxHeartbeats 4000000 in
set_option maxRecDepth 100000 in
theorem c_X8_checkRange (l : Launch) (hl0 : l.stackTraces = false) (A : Nat → Prop) (p0 p1 : Int32) : vx_Met l yX8_checkRange (wsA yX8_checkRange cX8_checkRange 2 none) { frames := 7, cells := 1, slots := 6, locals := 102 } (va_Pc [.int p0, .int p1] (xE A)) (va_Qv (fun (_ : Unit) => ¬ G_X8_checkRange p0 p1 = 0) (fun _ _ => True) (fun _ => False)) (vx_X (fun (_ : Unit) => G_X8_checkRange p0 p1 = 0) (fun E _ _ => E = eIA) (fun _ => False)) 1 6 (fun _ => False) := by
  refine vx_ofW (cc := cX8_checkRange) (maxL := 2) (ret := none) (by decide) rfl ?_
  intro p e s m args below meth c s₁ B hml htab hpre
  obtain ⟨rfl, hT, hZ⟩ := hpre
  have hx := B.exec
  have hb := B.bytes
  have hr := B.returns
  have hA : ∀ w ∈ AW, w.before _ s = true := fun w h => atoms_spec (ws := wsA yX8_checkRange cX8_checkRange 2 none) B.pre w (List.mem_cons_of_mem _ h)
  have hown : s.vm.findClass RX8 = some m.cls := findClass_of_methodNamed B.named
  have hlocks := B.notSynchronized
  have S : CallFix p m c cX8_checkRange 2 s ([.int p0, .int p1] : List Value).toArray AW RX8 := ⟨hx, hb, hml, hown, hA⟩
  have hl := lv_entry ([.int p0, .int p1]) (n := 2) (Nat.le_of_ble_eq_true rfl)
  rw [lg_entry_eq]
  generalize (lg_sl ([.int p0, .int p1]) ++ List.replicate (2 - (lg_sl ([.int p0, .int p1])).length) Slot.unset).toArray = ls at hl ⊢
  have hl : lv_has ls 2 [(0, .int p0), (1, .int p1)] := hl
  have hS : va_S (fun _ => False) s.heap s.heap [] := va_S.rf
  refine lv_iload_n hx hb dX8_checkRange_0 rfl (lv_at hl 0 rfl) ?_
  refine lv_if_lt (tgt := 20) hx hb dX8_checkRange_1 (by decide) (fun c1 => ?_) (fun c1 => ?_)
  · have hgq : G_X8_checkRange p0 p1 = 0 := by unfold G_X8_checkRange; rw [if_pos c1]
    refine lv_iconst (v := 0) hx hb dX8_checkRange_20 (by decide) ?_
    refine fx_chk (n := 1) (As := [.int 0]) S (c_X8_checkArgument l hl0 A 0) hT hZ hS aM_RX8_101 aS_X8_checkArgument aN_RX8 aC_X8_checkArgument rfl rfl (by decide +kernel) rfl ⟨Nat.le_of_ble_eq_true rfl, Nat.le_of_ble_eq_true rfl⟩ ⟨by decide, by decide⟩ hl.1 (Nat.le_of_ble_eq_true rfl) dX8_checkRange_21 (fun hg ce q9 H1 locs1 hk hz hS h9 hv hcl => vx_out (fun x hx => (htab x hx).elim) hlocks h9 hv hcl (fun t ht _ => ⟨(), (hgq.trans hg), rfl, hS.F ht⟩) hS.2.2 (Nat.le_refl _) (Nat.le_refl _)) (fun hg H1 locs hk hz hS => ?_)
    refine vx_ret ?_
    exact W.vret hx hb hr (fun t ht hW => ⟨⟨(), rfl, (fun z => hg (hgq.symm.trans z)), trivial⟩, hS.F ht⟩) hS.2.2 dX8_checkRange_24
  · refine lv_iload_n hx hb dX8_checkRange_4 rfl (lv_at hl 0 rfl) ?_
    refine lv_iload_n hx hb dX8_checkRange_5 rfl (lv_at hl 1 rfl) ?_
    refine lv_icmp_gt (tgt := 20) hx hb dX8_checkRange_6 (by decide) (fun c2 => ?_) (fun c2 => ?_)
    · have hgq : G_X8_checkRange p0 p1 = 0 := by unfold G_X8_checkRange; rw [if_neg c1, if_pos c2]
      refine lv_iconst (v := 0) hx hb dX8_checkRange_20 (by decide) ?_
      refine fx_chk (n := 1) (As := [.int 0]) S (c_X8_checkArgument l hl0 A 0) hT hZ hS aM_RX8_101 aS_X8_checkArgument aN_RX8 aC_X8_checkArgument rfl rfl (by decide +kernel) rfl ⟨Nat.le_of_ble_eq_true rfl, Nat.le_of_ble_eq_true rfl⟩ ⟨by decide, by decide⟩ hl.1 (Nat.le_of_ble_eq_true rfl) dX8_checkRange_21 (fun hg ce q9 H1 locs1 hk hz hS h9 hv hcl => vx_out (fun x hx => (htab x hx).elim) hlocks h9 hv hcl (fun t ht _ => ⟨(), (hgq.trans hg), rfl, hS.F ht⟩) hS.2.2 (Nat.le_refl _) (Nat.le_refl _)) (fun hg H1 locs hk hz hS => ?_)
      refine vx_ret ?_
      exact W.vret hx hb hr (fun t ht hW => ⟨⟨(), rfl, (fun z => hg (hgq.symm.trans z)), trivial⟩, hS.F ht⟩) hS.2.2 dX8_checkRange_24
    · refine lv_iload_n hx hb dX8_checkRange_9 rfl (lv_at hl 1 rfl) ?_
      refine lv_sipush (v := 1000) hx hb dX8_checkRange_10 (by decide) ?_
      refine lv_icmp_ge (tgt := 20) hx hb dX8_checkRange_13 (by decide) (fun c3 => ?_) (fun c3 => ?_)
      · have hgq : G_X8_checkRange p0 p1 = 0 := by unfold G_X8_checkRange; rw [if_neg c1, if_neg c2, if_pos c3]
        refine lv_iconst (v := 0) hx hb dX8_checkRange_20 (by decide) ?_
        refine fx_chk (n := 1) (As := [.int 0]) S (c_X8_checkArgument l hl0 A 0) hT hZ hS aM_RX8_101 aS_X8_checkArgument aN_RX8 aC_X8_checkArgument rfl rfl (by decide +kernel) rfl ⟨Nat.le_of_ble_eq_true rfl, Nat.le_of_ble_eq_true rfl⟩ ⟨by decide, by decide⟩ hl.1 (Nat.le_of_ble_eq_true rfl) dX8_checkRange_21 (fun hg ce q9 H1 locs1 hk hz hS h9 hv hcl => vx_out (fun x hx => (htab x hx).elim) hlocks h9 hv hcl (fun t ht _ => ⟨(), (hgq.trans hg), rfl, hS.F ht⟩) hS.2.2 (Nat.le_refl _) (Nat.le_refl _)) (fun hg H1 locs hk hz hS => ?_)
        refine vx_ret ?_
        exact W.vret hx hb hr (fun t ht hW => ⟨⟨(), rfl, (fun z => hg (hgq.symm.trans z)), trivial⟩, hS.F ht⟩) hS.2.2 dX8_checkRange_24
      · have hgq : G_X8_checkRange p0 p1 = 1 := by unfold G_X8_checkRange; rw [if_neg c1, if_neg c2, if_neg c3]
        refine lv_iconst (v := 1) hx hb dX8_checkRange_16 (by decide) ?_
        refine lv_goto (tgt := 21) hx hb dX8_checkRange_17 (by decide) ?_
        refine fx_chk (n := 1) (As := [.int 1]) S (c_X8_checkArgument l hl0 A 1) hT hZ hS aM_RX8_101 aS_X8_checkArgument aN_RX8 aC_X8_checkArgument rfl rfl (by decide +kernel) rfl ⟨Nat.le_of_ble_eq_true rfl, Nat.le_of_ble_eq_true rfl⟩ ⟨by decide, by decide⟩ hl.1 (Nat.le_of_ble_eq_true rfl) dX8_checkRange_21 (fun hg ce q9 H1 locs1 hk hz hS h9 hv hcl => vx_out (fun x hx => (htab x hx).elim) hlocks h9 hv hcl (fun t ht _ => ⟨(), (hgq.trans hg), rfl, hS.F ht⟩) hS.2.2 (Nat.le_refl _) (Nat.le_refl _)) (fun hg H1 locs hk hz hS => ?_)
        refine vx_ret ?_
        exact W.vret hx hb hr (fun t ht hW => ⟨⟨(), rfl, (fun z => hg (hgq.symm.trans z)), trivial⟩, hS.F ht⟩) hS.2.2 dX8_checkRange_24
def G_X8_checkSlot (u0 : M2) (p1 p2 : Int32) : Int32 := if G_X8_within p1 0 (G_X2_bucketCount u0 - 1) = 0 then 0 else G_X8_within p2 0 (G_X2_slotCount u0 - 1)
set_option maxHeartbeats 4000000 in
set_option maxRecDepth 100000 in
theorem c_X8_checkSlot (l : Launch) (hl0 : l.stackTraces = false) (D : va_G) (cI cF : ClassId) (b : Bf) (u0 u1 : M2) (η : HT) (τ : M2) (p1 p2 : Int32) : vx_Met l yX8_checkSlot (wsA yX8_checkSlot cX8_checkSlot 3 none) { frames := 7, cells := 2, slots := 12, locals := 102 } (va_Pc [.ref (b 6 0), .int p1, .int p2] (xP D cI cF b u0 u1 η τ)) (va_Qv (fun (_ : Unit) => ¬ G_X8_checkSlot u0 p1 p2 = 0) (fun _ _ => True) (fun _ => False)) (vx_X (fun (_ : Unit) => G_X8_checkSlot u0 p1 p2 = 0) (fun E _ _ => E = eIO) (fun _ => False)) 2 12 (fun _ => False) := by
  refine vx_ofW (cc := cX8_checkSlot) (maxL := 3) (ret := none) (by decide) rfl ?_
  intro p e s m args below meth c s₁ B hml htab hpre
  obtain ⟨rfl, hP, hK, hD0, hT, hZ⟩ := hpre
  have hx := B.exec
  have hb := B.bytes
  have hr := B.returns
  have hA : ∀ w ∈ AW, w.before _ s = true := fun w h => atoms_spec (ws := wsA yX8_checkSlot cX8_checkSlot 3 none) B.pre w (List.mem_cons_of_mem _ h)
  have hown : s.vm.findClass RX8 = some m.cls := findClass_of_methodNamed B.named
  have hlocks := B.notSynchronized
  have S : CallFix p m c cX8_checkSlot 3 s ([.ref (b 6 0), .int p1, .int p2] : List Value).toArray AW RX8 := ⟨hx, hb, hml, hown, hA⟩
  have hl := lv_entry ([.ref (b 6 0), .int p1, .int p2]) (n := 3) (Nat.le_of_ble_eq_true rfl)
  rw [lg_entry_eq]
  generalize (lg_sl ([.ref (b 6 0), .int p1, .int p2]) ++ List.replicate (3 - (lg_sl ([.ref (b 6 0), .int p1, .int p2])).length) Slot.unset).toArray = ls at hl ⊢
  have hl : lv_has ls 3 [(0, .ref (b 6 0)), (1, .int p1), (2, .int p2)] := hl
  have hS : va_S (fun _ => False) s.heap s.heap [] := va_S.rf
  refine lv_iload_n hx hb dX8_checkSlot_0 rfl (lv_at hl 1 rfl) ?_
  refine lv_iconst (v := 0) hx hb dX8_checkSlot_1 (by decide) ?_
  refine lv_aload_n hx hb dX8_checkSlot_2 rfl (lv_at hl 0 rfl) ?_
  refine xg_current hx hb hA hown aF_RX8_10 hK hP dX8_checkSlot_3 ?_
  refine k_X2_bucketCount S aM_RX8_229 ⟨Nat.le_of_ble_eq_true rfl, Nat.le_of_ble_eq_true rfl⟩ ⟨Nat.zero_le _, Nat.zero_le _⟩ (X_p_cur hP) (X_k hK) (X_d_cur hD0) hl.1 (Nat.le_of_ble_eq_true rfl) dX8_checkSlot_6 (fun r1 er1 => ?_)
  subst er1
  refine lv_iconst (v := 1) hx hb dX8_checkSlot_9 (by decide) ?_
  refine lv_isub hx hb dX8_checkSlot_10 ?_
  refine k_X8_within S aM_RX8_71 ⟨Nat.le_of_ble_eq_true rfl, Nat.le_of_ble_eq_true rfl⟩ ⟨Nat.zero_le _, Nat.zero_le _⟩ hl.1 (Nat.le_of_ble_eq_true rfl) dX8_checkSlot_11 (fun r2 er2 br2 => ?_)
  refine fx_chk (n := 1) (As := [.int r2]) S (c_X8_checkPosition l hl0 (xA b) r2) hT hZ hS aM_RX8_75 aS_X8_checkPosition aN_RX8 aC_X8_checkPosition rfl rfl (by decide +kernel) rfl ⟨Nat.le_of_ble_eq_true rfl, Nat.le_of_ble_eq_true rfl⟩ ⟨by decide, by decide⟩ hl.1 (Nat.le_of_ble_eq_true rfl) dX8_checkSlot_14 (fun hg ce q9 H1 locs1 hk hz hS h9 hv hcl => vx_out (fun x hx => (htab x hx).elim) hlocks h9 hv hcl (fun t ht _ => ⟨(), (by unfold G_X8_checkSlot; rw [← er2, if_pos hg]), rfl, hS.F ht⟩) hS.2.2 (by decide) (by decide)) (fun hg1 H locs hk hz hS => ?_)
  have hP := X_all hP hk
  have hZ := hZ.kept (fun a ha _ => hk a ha)
  refine lv_iload_n hx hb dX8_checkSlot_17 rfl (lv_at hl 2 rfl) ?_
  refine lv_iconst (v := 0) hx hb dX8_checkSlot_18 (by decide) ?_
  refine lv_aload_n hx hb dX8_checkSlot_19 rfl (lv_at hl 0 rfl) ?_
  refine xg_current hx hb hA hown aF_RX8_10 hK hP dX8_checkSlot_20 ?_
  refine k_X2_slotCount S aM_RX8_232 ⟨Nat.le_of_ble_eq_true rfl, Nat.le_of_ble_eq_true rfl⟩ ⟨by decide, by decide⟩ (X_p_cur hP) (X_k hK) (X_d_cur hD0) hl.1 (Nat.le_of_ble_eq_true rfl) dX8_checkSlot_23 (fun r3 er3 => ?_)
  subst er3
  refine lv_iconst (v := 1) hx hb dX8_checkSlot_26 (by decide) ?_
  refine lv_isub hx hb dX8_checkSlot_27 ?_
  refine k_X8_within S aM_RX8_71 ⟨Nat.le_of_ble_eq_true rfl, Nat.le_of_ble_eq_true rfl⟩ ⟨by decide, by decide⟩ hl.1 (Nat.le_of_ble_eq_true rfl) dX8_checkSlot_28 (fun r4 er4 br4 => ?_)
  have hq : G_X8_checkSlot u0 p1 p2 = r4 := by unfold G_X8_checkSlot; rw [← er2, if_neg hg1, ← er4]
  refine fx_chk (n := 1) (As := [.int r4]) S (c_X8_checkPosition l hl0 (xA b) r4) hT hZ hS aM_RX8_75 aS_X8_checkPosition aN_RX8 aC_X8_checkPosition rfl rfl (by decide +kernel) rfl ⟨Nat.le_of_ble_eq_true rfl, Nat.le_of_ble_eq_true rfl⟩ ⟨by decide, by decide⟩ hl.1 (Nat.le_of_ble_eq_true rfl) dX8_checkSlot_31 (fun hg ce q9 H1 locs1 hk hz hS h9 hv hcl => vx_out (fun x hx => (htab x hx).elim) hlocks h9 hv hcl (fun t ht _ => ⟨(), (hq.trans hg), rfl, hS.F ht⟩) hS.2.2 (by decide) (by decide)) (fun hg2 H locs hk hz hS => ?_)
  refine vx_ret ?_
  exact W.vret hx hb hr (fun t ht hW => ⟨⟨(), rfl, (fun z => hg2 (hq.symm.trans z)), trivial⟩, hS.F ht⟩) hS.2.2 dX8_checkSlot_34
def G_X8_accept (N : Nat) (u0 u1 : M2) (η : HT) : Option (M2 × M2 × HT) :=
  obd2 (H_push N u0 η) fun w e =>
  obd (G_X2_copyFrom N (xPm w u1)) fun q =>
  some (q, xsh q, e)
set_option maxHeartbeats 4000000 in
set_option maxRecDepth 100000 in
theorem c_X8_accept (l : Launch) (D : va_G) (cI cF : ClassId) (b : Bf) (u0 u1 : M2) (η : HT) (τ : M2) (N : Nat) (p1 : Int32) (u0r u1r : M2) (ηr : HT) (hF : G_X8_accept N u0 u1 η = some (u0r, u1r, ηr)) : Met l yX8_accept (wsA yX8_accept cX8_accept 2 (some .int)) { frames := 3, cells := 0, slots := 0, locals := 82 } (va_Pc [.ref (b 6 0), .int p1] (xH D cI cF b u0 u1 η τ)) (va_Qi (fun (r : Int32) (u : Bf) => r = p1 ∧ xSame b u) (fun u t => va_P D vwCl (xW cI cF u u0r u1r ηr τ) t.heap ∧ va_D (fun _ => True) (xW cI cF u u0r u1r ηr τ)) (xA b)) 0 0 (xA b) := by
  refine Met.ofW (cc := cX8_accept) (maxL := 2) (ret := (some .int)) (by decide) rfl ?_
  intro p e s m args below meth c s₁ B hml hpre
  obtain ⟨rfl, hP, hK, hD0⟩ := hpre
  have hx := B.exec
  have hb := B.bytes
  have hr := B.returns
  have hA : ∀ w ∈ AW, w.before _ s = true := fun w h => atoms_spec (ws := wsA yX8_accept cX8_accept 2 (some .int)) B.pre w (List.mem_cons_of_mem _ h)
  have hown : s.vm.findClass RX8 = some m.cls := findClass_of_methodNamed B.named
  have hlocks := B.notSynchronized
  have S : CallFix p m c cX8_accept 2 s ([.ref (b 6 0), .int p1] : List Value).toArray AW RX8 := ⟨hx, hb, hml, hown, hA⟩
  have hl := lv_entry ([.ref (b 6 0), .int p1]) (n := 2) (Nat.le_of_ble_eq_true rfl)
  rw [lg_entry_eq]
  generalize (lg_sl ([.ref (b 6 0), .int p1]) ++ List.replicate (2 - (lg_sl ([.ref (b 6 0), .int p1])).length) Slot.unset).toArray = ls at hl ⊢
  have hl : lv_has ls 2 [(0, .ref (b 6 0)), (1, .int p1)] := hl
  have hS : va_S (xA b) s.heap s.heap [] := va_S.rf
  unfold G_X8_accept at hF
  obtain ⟨w, e2, hF1, hF⟩ := obd2_e hF
  obtain ⟨q0, hF2, hF⟩ := obd_e hF
  obtain ⟨rfl, rfl, rfl⟩ := os3 hF
  refine lv_aload_n hx hb dX8_accept_0 rfl (lv_at hl 0 rfl) ?_
  refine xg_history hx hb hA hown aF_RX8_22 hK hP dX8_accept_1 ?_
  refine lv_aload_n hx hb dX8_accept_4 rfl (lv_at hl 0 rfl) ?_
  refine xg_current hx hb hA hown aF_RX8_10 hK hP dX8_accept_5 ?_
  refine k_X3_push S aM_RX8_237 ⟨Nat.le_of_ble_eq_true rfl, Nat.le_of_ble_eq_true rfl⟩ ⟨Nat.zero_le _, Nat.zero_le _⟩ hP hK hD0 hS (fun _ h => h) hF1 hl.1 (Nat.le_of_ble_eq_true rfl) dX8_accept_8 (fun u H locs hsm hAu hP hDu hk hz hS => ?_)
  have e0 : b 6 = u 6 := hsm.2.2.1.symm
  rw [e0] at hl
  refine lv_aload_n hx hb dX8_accept_11 rfl (lv_at hl 0 rfl) ?_
  refine xg_current hx hb hA hown aF_RX8_10 hK hP dX8_accept_12 ?_
  refine lv_aload_n hx hb dX8_accept_15 rfl (lv_at hl 0 rfl) ?_
  refine xg_thought hx hb hA hown aF_RX8_16 hK hP dX8_accept_16 ?_
  refine fx_runVv (n := 1) (C := RX2) (As := [.ref (u 1 0)]) (S := ⟨hx, hb, hml, hown, hA⟩) (c_X2_copyFrom l D cI (xPa (u 0) (u 1)) N (xPm w u1) q0 hF2) (P_pre (q0 := 0) (ci := 0) (X_k hK) (X_p_ct hP) (X_d_ct hDu _) rfl rfl) hS (fun q h => hAu q (X_a_ct h)) aM_RX8_82 aI_X2_copyFrom aV_X2_copyFrom aN_RX2 aC_X2_copyFrom rfl rfl (by decide +kernel) rfl ⟨Nat.le_of_ble_eq_true rfl, Nat.le_of_ble_eq_true rfl⟩ ⟨Nat.zero_le _, Nat.zero_le _⟩ hl.1 (Nat.le_of_ble_eq_true rfl) dX8_accept_19 (fun _ t H locs ht _ hB hk hz hS => ?_)
  have hP := X_set_ct hP hDu hk (by rw [← ht]; exact hB)
  refine lv_iload_n hx hb dX8_accept_22 rfl (lv_at hl 1 rfl) ?_
  exact W.iret (v := p1) hx hb hr (fun t ht hW => ⟨⟨_, u, rfl, ⟨rfl, hsm⟩, (by rw [ht]; exact hP), X_D hDu _ _ _ _⟩, hS.F ht⟩) hS.2.2 dX8_accept_23
