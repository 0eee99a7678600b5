theorem os6 {α β γ δ ε ζ : Type} {x y : α} {z w : β} {u v : γ} {a b : δ} {c d : ε} {e f : ζ} (h : some (x, z, u, a, c, e) = some (y, w, v, b, d, f)) : x = y ∧ z = w ∧ u = v ∧ a = b ∧ c = d ∧ e = f := by
  cases h
  exact ⟨rfl, rfl, rfl, rfl, rfl, rfl⟩
theorem fx_F {A : Nat → Prop} {s t : State} {H : Heap} {locs : List Loc} (hS : va_S A s.heap H locs) (h1 : H.size ≤ t.heap.size) (h2 : ∀ q : Nat, q < H.size → t.heap[q]? = H[q]?) : va_F A s t :=
  ⟨Nat.le_trans hS.1 h1, fun q hq hn => (h2 q (Nat.lt_of_lt_of_le hq hS.1)).trans (hS.2.1 q hq hn)⟩
theorem xP_pre {D : va_G} {cI cF : ClassId} {b : Bf} {u0 u1 : M2} {η : HT} {τ : M2} {s : State} {H : Heap} {As : List Value} (hK : va_K D vwCl (xTy cI cF) s) (hP : va_P D vwCl (xW cI cF b u0 u1 η τ) H) (hD : va_D (fun _ => True) (xW cI cF b u0 u1 η τ)) (hT : xT s) (hZ : xZ (xA b) s H) : PreV s H RX8 (b 6 0) (va_Pc (.ref (b 6 0) :: As) (xP D cI cF b u0 u1 η τ)) As :=
  ⟨fun _ U _ _ q => ⟨q.1, q.2.1, va_K.moved (Vm.Alike.refl U.vm) q.2.2.1, q.2.2.2.1, q.2.2.2.2.1.same rfl, xZ.moved (Vm.Alike.refl U.vm) q.2.2.2.2.2⟩, va_recv (q0 := 0) (ci := 6) (q := (RX8, TX8, 4)) hK hP rfl rfl, fun U hU hW => ⟨rfl, by rw [hU]; exact hP, va_K.moved hW.alike hK, hD, hT.warm hW, by rw [hU]; exact xZ.moved hW.alike hZ⟩⟩
section XA2
variable {p : Program} {l : Launch} {e : Env} {R : Room} {s : State} {m : MethodId} {args : Array Value} {below : List Frame} {meth : Method} {c : Code} {H : Heap} {locs : List Loc} {cells slots : Nat} {Q : State → Prop} {cc : ByteArray} {pc nL idx : Nat} {ls : Array Slot} {rest : List Value} {own : String}
variable {D : va_G} {cI cF : ClassId} {b : Bf} {u0 u1 : M2} {η : HT} {τ : M2} {H0 : Heap} {A0 : Nat → Prop}
theorem kx_accept {N : Nat} {p1 : Int32} {u0r u1r : M2} {ηr : HT} (S : CallFix p m c cc nL s args AW own) (h1 : Cond.methodLink own idx yX8_accept ∈ AW) (hR : 3 + 1 ≤ R.frames ∧ 8 + (2 + 11) + 82 ≤ R.locals) (hc : cells ≤ R.cells ∧ slots ≤ R.slots) (hP : va_P D vwCl (xW cI cF b u0 u1 η τ) H) (hK : va_K D vwCl (xTy cI cF) s) (hD : va_D (fun _ => True) (xW cI cF b u0 u1 η τ)) (hS : va_S (xA b) H0 H locs) (hF : G_X8_accept N u0 u1 η = some (u0r, u1r, ηr)) (hsz : ls.size = nL) (hW : (rest.map fun v => v.category).sum ≤ 8) (hdg : decode cc pc = .ok (.invokevirtual idx, 3)) (kk : ∀ (u : Bf) (H1 : Heap) (locs1 : List Loc), xSame b u → va_P D vwCl (xW cI cF u u0r u1r ηr τ) H1 → va_D (fun _ => True) (xW cI cF u u0r u1r ηr τ) → va_S (xA b) H0 H1 locs1 → W p l e R s m args below meth c H1 locs1 cells slots Q (F0 m (pc + 3) ls (.int p1 :: rest))) : W p l e R s m args below meth c H locs cells slots Q (F0 m pc ls (.int p1 :: .ref (b 6 0) :: rest)) :=
  fx_runVi (n := 1) (C := RX8) (As := [.int p1]) S (c_X8_accept l D cI cF b u0 u1 η τ N p1 u0r u1r ηr hF) ⟨fun _ U _ _ q => ⟨q.1, q.2.1, va_K.moved (Vm.Alike.refl U.vm) q.2.2.1, q.2.2.2⟩, va_recv (q0 := 0) (ci := 6) (q := (RX8, TX8, 4)) hK hP rfl rfl, fun U hU hW => ⟨rfl, by rw [hU]; exact hP, va_K.moved hW.alike hK, hD⟩⟩ hS (fun _ h => h) h1 aI_X8_accept aV_X8_accept aN_RX8 aC_X8_accept rfl rfl (by decide +kernel) rfl hR hc hsz hW hdg (fun r u t H1 locs1 ht hr hB hk hz hS1 => by
    obtain ⟨rfl, hsm⟩ := hr
    exact kk u H1 locs1 hsm (by rw [← ht]; exact hB.1) hB.2 hS1)
end XA2
set_option maxHeartbeats 4000000 in
set_option maxRecDepth 100000 in
theorem c_X8_acceptIfPossible (l : Launch) (hl0 : l.stackTraces = false) (D : va_G) (cI cF : ClassId) (b : Bf) (u0 u1 : M2) (η : HT) (τ : M2) (N : Nat) (p1 : Int32) (u0r u1r : M2) (ηr : HT) (hF : ¬ p1 = -1 → G_X8_accept N u0 u1 η = some (u0r, u1r, ηr)) : vx_Met l yX8_acceptIfPossible (wsA yX8_acceptIfPossible cX8_acceptIfPossible 2 (some .int)) { frames := 6, cells := 1, slots := 6, locals := 103 } (va_Pc [.ref (b 6 0), .int p1] (xP D cI cF b u0 u1 η τ)) (va_Qi (fun (r : Int32) (u : Bf) => ¬ p1 = -1 ∧ r = p1 ∧ xSame b u) (fun u t => va_P D vwCl (xW cI cF u u0r u1r ηr τ) t.heap ∧ va_D (fun _ => True) (xW cI cF u u0r u1r ηr τ)) (xA b)) (vx_X (fun (_ : Unit) => p1 = -1) (fun E _ _ => E = eIS) (fun _ => False)) 1 6 (xA b) := by
  refine vx_ofW (cc := cX8_acceptIfPossible) (maxL := 2) (ret := (some .int)) (by decide) rfl ?_
  intro p e s m args below meth c s₁ B hml htab hpre
  obtain ⟨rfl, hP, hK, hD0, hT, hZ⟩ := hpre
  have hx := B.exec
  have hb := B.bytes
  have hr := B.returns
  have hA : ∀ w ∈ AW, w.before _ s = true := fun w h => atoms_spec (ws := wsA yX8_acceptIfPossible cX8_acceptIfPossible 2 (some .int)) B.pre w (List.mem_cons_of_mem _ h)
  have hown : s.vm.findClass RX8 = some m.cls := findClass_of_methodNamed B.named
  have hlocks := B.notSynchronized
  have hS : va_S (xA b) s.heap s.heap [] := va_S.rf
  have S : CallFix p m c cX8_acceptIfPossible 2 s ([.ref (b 6 0), .int p1] : List Value).toArray AW RX8 := ⟨hx, hb, hml, hown, hA⟩
  have hl := lv_entry ([.ref (b 6 0), .int p1]) (n := 2) (Nat.le_of_ble_eq_true rfl)
  rw [lg_entry_eq]
  generalize (lg_sl ([.ref (b 6 0), .int p1]) ++ List.replicate (2 - (lg_sl ([.ref (b 6 0), .int p1])).length) Slot.unset).toArray = ls at hl ⊢
  have hl : lv_has ls 2 [(0, .ref (b 6 0)), (1, .int p1)] := hl
  refine lv_iload_n hx hb dX8_acceptIfPossible_0 rfl (lv_at hl 1 rfl) ?_
  refine lv_iconst (v := (-1)) hx hb dX8_acceptIfPossible_1 (by decide) ?_
  refine lv_icmp_ne (tgt := 15) hx hb dX8_acceptIfPossible_2 (by decide) (fun hc => ?_) (fun hc => ?_)
  · refine lv_aload_n hx hb dX8_acceptIfPossible_15 rfl (lv_at hl 0 rfl) ?_
    refine lv_iload_n hx hb dX8_acceptIfPossible_16 rfl (lv_at hl 1 rfl) ?_
    refine kx_accept S aM_RX8_114 ⟨Nat.le_of_ble_eq_true rfl, Nat.le_of_ble_eq_true rfl⟩ ⟨by decide, by decide⟩ hP hK hD0 hS (hF hc) hl.1 (Nat.le_of_ble_eq_true rfl) dX8_acceptIfPossible_17 (fun u H locs hsm hP hDu hS => ?_)
    refine vx_ret ?_
    refine W.widen (k := 1) (n := 6) (by decide) (by decide) ?_
    exact W.iret (v := p1) hx hb hr (fun t ht hW => ⟨⟨_, u, rfl, ⟨hc, rfl, hsm⟩, (by rw [ht]; exact hP), hDu⟩, hS.F ht⟩) hS.2.2 dX8_acceptIfPossible_20
  · obtain ⟨sa, hsa⟩ := hT.2.2.2.2.2.2.1
    exact vx_throwS (names := eNames) hx hb hl0 hown (by decide) (by decide) (hA _ aL_RX8_193) (hA _ aN_J_IllegalStateException) hsa (vx_hat (fun w h => hA w (in_akx2 w h)) bw_IS (vx_c (va_Nw.use rfl hT.2.2.1) (eDs_ok hT))) (by decide +kernel) hZ.1 hZ.2 hS (hl.1.trans hml.symm) dX8_acceptIfPossible_5 dX8_acceptIfPossible_8 dX8_acceptIfPossible_9 dX8_acceptIfPossible_11 dX8_acceptIfPossible_14
      (fun x hx => (htab x hx).elim) (by decide) (by decide) (by decide) (by decide) hlocks (fun t _ h1 h2 => ⟨(), hc, rfl, h1, fun q h3 _ => h2 q h3⟩) hS.2.2 (by decide) (by decide)
section XA3
variable {p : Program} {l : Launch} {e : Env} {R : Room} {s : State} {m : MethodId} {args : Array Value} {below : List Frame} {meth : Method} {c : Code} {H : Heap} {locs : List Loc} {cells slots : Nat} {Q : State → Prop} {cc : ByteArray} {pc nL idx : Nat} {ls : Array Slot} {rest : List Value} {own : String}
variable {D : va_G} {cI cF : ClassId} {b : Bf} {u0 u1 : M2} {η : HT} {τ : M2} {H0 : Heap}
theorem kx_accIf {N : Nat} {p1 : Int32} {u0r u1r : M2} {ηr : HT} (S : CallFix p m c cc nL s args AW own) (hl0 : l.stackTraces = false) (h1 : Cond.methodLink own idx yX8_acceptIfPossible ∈ AW) (hR : 6 + 1 ≤ R.frames ∧ 8 + (2 + 11) + 103 ≤ R.locals) (hc : cells + 1 ≤ R.cells ∧ slots + 6 ≤ R.slots) (hP : va_P D vwCl (xW cI cF b u0 u1 η τ) H) (hK : va_K D vwCl (xTy cI cF) s) (hD : va_D (fun _ => True) (xW cI cF b u0 u1 η τ)) (hT : xT s) (hZ : xZ (xA b) s H) (hS : va_S (xA b) H0 H locs) (hF : ¬ p1 = -1 → G_X8_accept N u0 u1 η = some (u0r, u1r, ηr)) (hsz : ls.size = nL) (hW : (rest.map fun v => v.category).sum ≤ 8) (hdg : decode cc pc = .ok (.invokevirtual idx, 3))
    (kx : p1 = -1 → ∀ (ce : Cell) (q9 : Addr) (H1 : Heap) (locs1 : List Loc), (∀ q : Nat, q < H.size → H1[q]? = H[q]?) → H.size ≤ H1.size → va_S (xA b) H0 H1 locs1 → H1[q9]? = some ce → ce.vm = .none → s.vm.findClass eIS = some ce.cls → vx_W p l e R s m args below meth c H1 locs1 (cells + 1) (slots + 6) Q (F0 m pc ls rest) q9)
    (kk : ¬ p1 = -1 → ∀ (u : Bf) (H1 : Heap) (locs1 : List Loc), xSame b u → va_P D vwCl (xW cI cF u u0r u1r ηr τ) H1 → va_D (fun _ => True) (xW cI cF u u0r u1r ηr τ) → va_S (xA b) H0 H1 locs1 → W p l e R s m args below meth c H1 locs1 (cells + 1) (slots + 6) Q (F0 m (pc + 3) ls (.int p1 :: rest))) : W p l e R s m args below meth c H locs cells slots Q (F0 m pc ls (.int p1 :: .ref (b 6 0) :: rest)) :=
  vx_calli (vx_runV (As := [.int p1]) (rest := rest) S (c_X8_acceptIfPossible l hl0 D cI cF b u0 u1 η τ N p1 u0r u1r ηr hF) (cwV 1 S.2.2.2.2 (gV h1 aI_X8_acceptIfPossible aV_X8_acceptIfPossible aN_RX8 aC_X8_acceptIfPossible) rfl rfl rfl (by decide +kernel) hR) (xP_pre hK hP hD hT hZ) rfl rfl hsz rfl (lv_room hW) hdg ⟨hc.1, hc.2⟩) hS (fun _ _ h => h) (fun _ h => h) (fun _ _ h => h.elim)
    (fun E ce q9 u t H1 locs1 ht _ hg hE hz hk hS1 h9 hv hcl => by
      subst hE
      exact kx hg ce q9 H1 locs1 (fun q hq => hk q hq (fun z => z)) hz hS1 h9 hv hcl)
    (fun r u t H1 locs1 ht _ hg hB hz hk hS1 => by
      obtain ⟨hne, rfl, hsm⟩ := hg
      exact kk hne u H1 locs1 hsm (by rw [← ht]; exact hB.1) hB.2 hS1)
theorem kx_accIf_t {p1 : Int32} (S : CallFix p m c cc nL s args AW own) (hl0 : l.stackTraces = false) (h1 : Cond.methodLink own idx yX8_acceptIfPossible ∈ AW) (hR : 6 + 1 ≤ R.frames ∧ 8 + (2 + 11) + 103 ≤ R.locals) (hc : cells + 1 ≤ R.cells ∧ slots + 6 ≤ R.slots) (hP : va_P D vwCl (xW cI cF b u0 u1 η τ) H) (hK : va_K D vwCl (xTy cI cF) s) (hD : va_D (fun _ => True) (xW cI cF b u0 u1 η τ)) (hT : xT s) (hZ : xZ (xA b) s H) (hS : va_S (xA b) H0 H locs) (hn : p1 = -1) (hsz : ls.size = nL) (hW : (rest.map fun v => v.category).sum ≤ 8) (hdg : decode cc pc = .ok (.invokevirtual idx, 3))
    (kx : ∀ (ce : Cell) (q9 : Addr) (H1 : Heap) (locs1 : List Loc), (∀ q : Nat, q < H.size → H1[q]? = H[q]?) → H.size ≤ H1.size → va_S (xA b) H0 H1 locs1 → H1[q9]? = some ce → ce.vm = .none → s.vm.findClass eIS = some ce.cls → vx_W p l e R s m args below meth c H1 locs1 (cells + 1) (slots + 6) Q (F0 m pc ls rest) q9) : W p l e R s m args below meth c H locs cells slots Q (F0 m pc ls (.int p1 :: .ref (b 6 0) :: rest)) :=
  kx_accIf (N := 0) (u0r := u0) (u1r := u1) (ηr := η) S hl0 h1 hR hc hP hK hD hT hZ hS (fun h => absurd hn h) hsz hW hdg (fun _ => kx) (fun h => absurd hn h)
theorem kx_accIf_f {N : Nat} {p1 : Int32} {u0r u1r : M2} {ηr : HT} (S : CallFix p m c cc nL s args AW own) (hl0 : l.stackTraces = false) (h1 : Cond.methodLink own idx yX8_acceptIfPossible ∈ AW) (hR : 6 + 1 ≤ R.frames ∧ 8 + (2 + 11) + 103 ≤ R.locals) (hc : cells + 1 ≤ R.cells ∧ slots + 6 ≤ R.slots) (hP : va_P D vwCl (xW cI cF b u0 u1 η τ) H) (hK : va_K D vwCl (xTy cI cF) s) (hD : va_D (fun _ => True) (xW cI cF b u0 u1 η τ)) (hT : xT s) (hZ : xZ (xA b) s H) (hS : va_S (xA b) H0 H locs) (hn : ¬ p1 = -1) (hF : G_X8_accept N u0 u1 η = some (u0r, u1r, ηr)) (hsz : ls.size = nL) (hW : (rest.map fun v => v.category).sum ≤ 8) (hdg : decode cc pc = .ok (.invokevirtual idx, 3))
    (kk : ∀ (u : Bf) (H1 : Heap) (locs1 : List Loc), xSame b u → va_P D vwCl (xW cI cF u u0r u1r ηr τ) H1 → va_D (fun _ => True) (xW cI cF u u0r u1r ηr τ) → va_S (xA b) H0 H1 locs1 → W p l e R s m args below meth c H1 locs1 (cells + 1) (slots + 6) Q (F0 m (pc + 3) ls (.int p1 :: rest))) : W p l e R s m args below meth c H locs cells slots Q (F0 m pc ls (.int p1 :: .ref (b 6 0) :: rest)) :=
  kx_accIf S hl0 h1 hR hc hP hK hD hT hZ hS (fun _ => hF) hsz hW hdg (fun h => absurd h hn) (fun _ => kk)
theorem kx_checkSlot {p1 p2 : Int32} {A0 : Nat → Prop} (S : CallFix p m c cc nL s args AW own) (hl0 : l.stackTraces = false) (h1 : Cond.methodLink own idx yX8_checkSlot ∈ AW) (hR : 7 + 1 ≤ R.frames ∧ 8 + (3 + 11) + 102 ≤ R.locals) (hc : cells + 2 ≤ R.cells ∧ slots + 12 ≤ R.slots) (hP : va_P D vwCl (xW cI cF b u0 u1 η τ) H) (hK : va_K D vwCl (xTy cI cF) s) (hD : va_D (fun _ => True) (xW cI cF b u0 u1 η τ)) (hT : xT s) (hZ : xZ (xA b) s H) (hS : va_S A0 H0 H locs) (hsz : ls.size = nL) (hW : (rest.map fun v => v.category).sum ≤ 8) (hdg : decode cc pc = .ok (.invokevirtual idx, 3))
    (kx : G_X8_checkSlot u0 p1 p2 = 0 → ∀ (ce : Cell) (q9 : Addr) (H1 : Heap) (locs1 : List Loc), (∀ q : Nat, q < H.size → H1[q]? = H[q]?) → H.size ≤ H1.size → va_S A0 H0 H1 locs1 → H1[q9]? = some ce → ce.vm = .none → s.vm.findClass eIO = some ce.cls → vx_W p l e R s m args below meth c H1 locs1 (cells + 2) (slots + 12) Q (F0 m pc ls rest) q9)
    (kk : ¬ G_X8_checkSlot u0 p1 p2 = 0 → ∀ (H1 : Heap) (locs1 : List Loc), (∀ q : Nat, q < H.size → H1[q]? = H[q]?) → H.size ≤ H1.size → va_S A0 H0 H1 locs1 → W p l e R s m args below meth c H1 locs1 (cells + 2) (slots + 12) Q (F0 m (pc + 3) ls rest)) : W p l e R s m args below meth c H locs cells slots Q (F0 m pc ls (.int p2 :: .int p1 :: .ref (b 6 0) :: rest)) :=
  vx_callv (vx_runV (As := [.int p1, .int p2]) (rest := rest) S (c_X8_checkSlot l hl0 D cI cF b u0 u1 η τ p1 p2) (cwV 2 S.2.2.2.2 (gV h1 aI_X8_checkSlot aV_X8_checkSlot aN_RX8 aC_X8_checkSlot) rfl rfl rfl (by decide +kernel) hR) (xP_pre hK hP hD hT hZ) rfl rfl hsz rfl (lv_room hW) hdg ⟨hc.1, hc.2⟩) hS (fun _ _ h => h.elim) (fun _ h => h.elim) (fun _ _ h => h.elim)
    (fun E ce q9 u t H1 locs1 ht _ hg hE hz hk hS1 h9 hv hcl => by
      subst hE
      exact kx hg ce q9 H1 locs1 (fun q hq => hk q hq (fun z => z)) hz hS1 h9 hv hcl)
    (fun u t H1 locs1 ht _ hg _ hz hk hS1 => kk hg H1 locs1 (fun q hq => hk q hq (fun z => z)) hz hS1)
end XA3
def G_X8_tag (N : Nat) (u0 : M2) (φ : M2) (η : HT) (τ : M2) (p1 : Int32) : Option (Nat × Int32 × M2 × M2 × HT × M2) :=
  if G_X8_checkKey p1 = 0 then (
  some (1, 0, u0, φ, η, τ)
  ) else (
  olet (G_X2_codeOf u0 p1) fun r1 =>
  olet (G_X0_tagOf r1) fun r2 =>
  some (0, r2, u0, φ, η, τ))
def G_X8_body (N : Nat) (u0 : M2) (φ : M2) (η : HT) (τ : M2) (p1 : Int32) : Option (Nat × Int32 × M2 × M2 × HT × M2) :=
  if G_X8_checkKey p1 = 0 then (
  some (1, 0, u0, φ, η, τ)
  ) else (
  olet (G_X2_codeOf u0 p1) fun r1 =>
  olet (G_X0_bodyOf r1) fun r2 =>
  some (0, r2, u0, φ, η, τ))
def G_X8_bucket (N : Nat) (u0 : M2) (φ : M2) (η : HT) (τ : M2) (p1 : Int32) (p2 : Int32) : Option (Nat × Int32 × M2 × M2 × HT × M2) :=
  if G_X8_checkKey p1 = 0 then (
  some (1, 0, u0, φ, η, τ)
  ) else (
  olet (G_X2_newEntry u0 p1) fun r1 =>
  if p2 = 0 then (
  olet (G_X1_homeOf r1) fun r2 =>
  some (0, r2, u0, φ, η, τ)
  ) else (
  olet (G_X2_otherOf u0 r1) fun r3 =>
  some (0, r3, u0, φ, η, τ)))
def G_X8_found (N : Nat) (u0 : M2) (φ : M2) (η : HT) (τ : M2) (p1 : Int32) : Option (Nat × Int32 × M2 × M2 × HT × M2) :=
  if G_X8_checkKey p1 = 0 then (
  some (1, 0, u0, φ, η, τ)
  ) else (
  obd (G_X2_finds N u0 p1) fun r1 =>
  some (0, r1, u0, φ, η, τ))
def G_X8_place (N : Nat) (u0 : M2) (φ : M2) (η : HT) (τ : M2) (p1 : Int32) : Option (Nat × Int32 × M2 × M2 × HT × M2) :=
  if G_X8_checkKey p1 = 0 then (
  some (1, 0, u0, φ, η, τ)
  ) else (
  obd (G_X2_placeOf N u0 p1) fun r1 =>
  some (0, r1, u0, φ, η, τ))
def G_X8_present (N : Nat) (u0 : M2) (φ : M2) (η : HT) (τ : M2) (p1 : Int32) : Option (Nat × Int32 × M2 × M2 × HT × M2) :=
  olet (G_X2_keyCount u0) fun r1 =>
  olet (G_X8_within p1 0 ((r1 - 1))) fun r2 =>
  if r2 = 0 then (
  some (3, 0, u0, φ, η, τ)
  ) else (
  obd (G_X2_keyAt u0 p1) fun r3 =>
  some (0, r3, u0, φ, η, τ))
def G_X8_count (N : Nat) (u0 : M2) (φ : M2) (η : HT) (τ : M2) : Option (Nat × Int32 × M2 × M2 × HT × M2) :=
  olet (G_X2_keyCount u0) fun r1 =>
  some (0, r1, u0, φ, η, τ)
def G_X8_add (N : Nat) (u0 : M2) (φ : M2) (η : HT) (τ : M2) (p1 : Int32) : Option (Nat × Int32 × M2 × M2 × HT × M2) :=
  if G_X8_checkKey p1 = 0 then (
  some (1, 0, u0, φ, η, τ)
  ) else (
  obd (G_X2_copyFrom N (xPm φ u0)) fun w1 =>
  olet (xsh w1) fun u3 =>
  obd2 (G_X2_addKey N w1 p1) fun r6 w4 =>
  if r6 = (-1) then (
  some (2, 0, u3, w4, η, τ)
  ) else (
  obd3 (G_X8_accept N u3 w4 η) fun w7 w8 e9 =>
  some (0, r6, w7, w8, e9, τ)))
def G_X8_addShortest (N : Nat) (u0 : M2) (φ : M2) (η : HT) (τ : M2) (p1 : Int32) : Option (Nat × Int32 × M2 × M2 × HT × M2) :=
  if G_X8_checkKey p1 = 0 then (
  some (1, 0, u0, φ, η, τ)
  ) else (
  obd (G_X2_copyFrom N (xPm φ u0)) fun w1 =>
  olet (xsh w1) fun u3 =>
  obd2 (G_X2_addKeyShortest N w1 p1) fun r6 w4 =>
  if r6 = (-1) then (
  some (2, 0, u3, w4, η, τ)
  ) else (
  obd3 (G_X8_accept N u3 w4 η) fun w7 w8 e9 =>
  some (0, r6, w7, w8, e9, τ)))
def G_X8_delete (N : Nat) (u0 : M2) (φ : M2) (η : HT) (τ : M2) (p1 : Int32) : Option (Nat × Int32 × M2 × M2 × HT × M2) :=
  if G_X8_checkKey p1 = 0 then (
  some (1, 0, u0, φ, η, τ)
  ) else (
  obd (G_X2_copyFrom N (xPm φ u0)) fun w1 =>
  olet (xsh w1) fun u3 =>
  obd2 (G_X2_deleteKey N w1 p1) fun r6 w4 =>
  if r6 = (-1) then (
  some (2, 0, u3, w4, η, τ)
  ) else (
  obd3 (G_X8_accept N u3 w4 η) fun w7 w8 e9 =>
  some (0, r6, w7, w8, e9, τ)))
def G_X8_grow (N : Nat) (u0 : M2) (φ : M2) (η : HT) (τ : M2) : Option (Nat × Int32 × M2 × M2 × HT × M2) :=
  obd (G_X2_copyFrom N (xPm φ u0)) fun w1 =>
  olet (xsh w1) fun u3 =>
  obd2 (G_X2_doubleBuckets N w1) fun r6 w4 =>
  if r6 = (-1) then (
  some (2, 0, u3, w4, η, τ)
  ) else (
  obd3 (G_X8_accept N u3 w4 η) fun w7 w8 e9 =>
  some (0, r6, w7, w8, e9, τ))
def G_X8_rebuild (N : Nat) (u0 : M2) (φ : M2) (η : HT) (τ : M2) (p1 : Int32) (p2 : Int32) (p3 : Int32) (p4 : Int32) : Option (Nat × Int32 × M2 × M2 × HT × M2) :=
  olet (G_X8_within p1 1 6) fun r1 =>
  if r1 = 0 then (
  some (1, 0, u0, φ, η, τ)
  ) else (
  olet (G_X8_within p2 1 4) fun r2 =>
  if r2 = 0 then (
  some (1, 0, u0, φ, η, τ)
  ) else (
  olet (G_X8_within p3 1 8) fun r3 =>
  if r3 = 0 then (
  some (1, 0, u0, φ, η, τ)
  ) else (
  olet (G_X8_within p4 0 99) fun r4 =>
  if r4 = 0 then (
  some (1, 0, u0, φ, η, τ)
  ) else (
  obd (G_X2_copyFrom N (xPm φ u0)) fun w5 =>
  olet (xsh w5) fun u7 =>
  obd2 (G_X2_refill N w5 p1 p2 p3 p4) fun r10 w8 =>
  if r10 = 0 then (
  some (2, 0, u7, w8, η, τ)
  ) else (
  olet (G_X2_stashSize w8) fun r15 =>
  if r15 = (-1) then (
  some (2, 0, u7, w8, η, τ)
  ) else (
  obd3 (G_X8_accept N u7 w8 η) fun w16 w17 e18 =>
  some (0, r15, w16, w17, e18, τ)))))))
def G_X8_setLimit (N : Nat) (u0 : M2) (φ : M2) (η : HT) (τ : M2) (p1 : Int32) : Option (Nat × Int32 × M2 × M2 × HT × M2) :=
  olet (G_X8_within p1 0 50) fun r1 =>
  if r1 = 0 then (
  some (1, 0, u0, φ, η, τ)
  ) else (
  obd (G_X2_copyFrom N (xPm φ u0)) fun w2 =>
  olet (xsh w2) fun u4 =>
  obd2 (G_X2_changeLimit w2 p1) fun r7 w5 =>
  obd3 (G_X8_accept N u4 w5 η) fun w8 w9 e10 =>
  some (0, r7, w8, w9, e10, τ))
def G_X8_setLength (N : Nat) (u0 : M2) (φ : M2) (η : HT) (τ : M2) (p1 : Int32) : Option (Nat × Int32 × M2 × M2 × HT × M2) :=
  olet (G_X8_within p1 1 8) fun r1 =>
  if r1 = 0 then (
  some (1, 0, u0, φ, η, τ)
  ) else (
  obd (G_X2_copyFrom N (xPm φ u0)) fun w2 =>
  olet (xsh w2) fun u4 =>
  obd2 (G_X2_changeLength w2 p1) fun r7 w5 =>
  obd3 (G_X8_accept N u4 w5 η) fun w8 w9 e10 =>
  some (0, r7, w8, w9, e10, τ))
def G_X8_clear (N : Nat) (u0 : M2) (φ : M2) (η : HT) (τ : M2) : Option (Nat × Int32 × M2 × M2 × HT × M2) :=
  obd (G_X2_copyFrom N (xPm φ u0)) fun w1 =>
  olet (xsh w1) fun u3 =>
  obd2 (G_X2_forgetAll N w1) fun r6 w4 =>
  obd3 (G_X8_accept N u3 w4 η) fun w7 w8 e9 =>
  some (0, r6, w7, w8, e9, τ)
def G_X8_info (N : Nat) (u0 : M2) (φ : M2) (η : HT) (τ : M2) (p1 : Int32) : Option (Nat × Int32 × M2 × M2 × HT × M2) :=
  olet (G_X8_within p1 0 8) fun r1 =>
  if r1 = 0 then (
  some (1, 0, u0, φ, η, τ)
  ) else (
  obd (G_X2_number N u0 p1) fun r2 =>
  some (0, r2, u0, φ, η, τ))
def G_X8_slot (N : Nat) (u0 : M2) (φ : M2) (η : HT) (τ : M2) (p1 : Int32) (p2 : Int32) (p3 : Int32) : Option (Nat × Int32 × M2 × M2 × HT × M2) :=
  if G_X8_checkSlot u0 p1 p2 = 0 then (
  some (3, 0, u0, φ, η, τ)
  ) else (
  olet (G_X8_within p3 0 3) fun r1 =>
  if r1 = 0 then (
  some (1, 0, u0, φ, η, τ)
  ) else (
  obd (G_X2_partOfSlot u0 p1 p2 p3) fun r2 =>
  some (0, r2, u0, φ, η, τ)))
def G_X8_stashed (N : Nat) (u0 : M2) (φ : M2) (η : HT) (τ : M2) (p1 : Int32) (p2 : Int32) : Option (Nat × Int32 × M2 × M2 × HT × M2) :=
  olet (G_X2_stashSize u0) fun r1 =>
  olet (G_X8_within p1 0 ((r1 - 1))) fun r2 =>
  if r2 = 0 then (
  some (3, 0, u0, φ, η, τ)
  ) else (
  olet (G_X8_within p2 0 3) fun r3 =>
  if r3 = 0 then (
  some (1, 0, u0, φ, η, τ)
  ) else (
  obd (G_X2_partOfStash u0 p1 p2) fun r4 =>
  some (0, r4, u0, φ, η, τ)))
def G_X8_filled (N : Nat) (u0 : M2) (φ : M2) (η : HT) (τ : M2) (p1 : Int32) : Option (Nat × Int32 × M2 × M2 × HT × M2) :=
  olet (G_X8_within p1 0 4) fun r1 =>
  if r1 = 0 then (
  some (1, 0, u0, φ, η, τ)
  ) else (
  obd (G_X2_bucketsWith N u0 p1) fun r2 =>
  some (0, r2, u0, φ, η, τ))
def G_X8_walk (N : Nat) (u0 : M2) (φ : M2) (η : HT) (τ : M2) (p1 : Int32) : Option (Nat × Int32 × M2 × M2 × HT × M2) :=
  if G_X8_checkKey p1 = 0 then (
  some (1, 0, u0, φ, η, τ)
  ) else (
  obd (G_X2_copyFrom N (xPm φ u0)) fun w1 =>
  olet (xsh w1) fun u3 =>
  obd2 (G_X2_insert N w1 p1) fun r6 w4 =>
  some (0, r6, u3, w4, η, τ))
def G_X8_walkStep (N : Nat) (u0 : M2) (φ : M2) (η : HT) (τ : M2) (p1 : Int32) (p2 : Int32) (p3 : Int32) : Option (Nat × Int32 × M2 × M2 × HT × M2) :=
  if G_X8_checkKey p1 = 0 then (
  some (1, 0, u0, φ, η, τ)
  ) else (
  obd (G_X2_copyFrom N (xPm φ u0)) fun w1 =>
  olet (xsh w1) fun u3 =>
  obd2 (G_X2_insert N w1 p1) fun r6 w4 =>
  if p3 = 0 then (
  obd (G_X7_placeAt w4 p2) fun r7 =>
  some (0, r7, u3, w4, η, τ)
  ) else (
  obd (G_X7_tagAt w4 p2) fun r9 =>
  some (0, r9, u3, w4, η, τ)))
def G_X8_leastMoves (N : Nat) (u0 : M2) (φ : M2) (η : HT) (τ : M2) (p1 : Int32) : Option (Nat × Int32 × M2 × M2 × HT × M2) :=
  if G_X8_checkKey p1 = 0 then (
  some (1, 0, u0, φ, η, τ)
  ) else (
  obd (G_X2_copyFrom N (xPm φ u0)) fun w1 =>
  olet (xsh w1) fun u3 =>
  obd2 (G_X2_insertShortest N w1 p1) fun r6 w4 =>
  some (0, r6, u3, w4, η, τ))
def B_X8_roomFor_21 (N : Nat) (u0 : M2) (η : HT) (τ : M2) (v2 : Int32) (rec : Int32 → Int32 → M2 → Option (Nat × Int32 × M2 × M2 × HT × M2)) (v3 : Int32) (v4 : Int32) (φ : M2) : Option (Nat × Int32 × M2 × M2 × HT × M2) :=
  if v2 < v4 then (
  some (0, v3, u0, φ, η, τ)
  ) else (
  obd (G_X2_isPresent N φ v4) fun r4 =>
  if r4 = 0 then (
  obd2 (G_X2_addKey N φ v4) fun r8 w6 =>
  if r8 = (-1) then (
  some (0, v3, u0, w6, η, τ)
  ) else (
  rec (v3 + 1) (v4 + 1) w6)
  ) else (
  rec v3 (v4 + 1) φ))
def L_X8_roomFor_21 (N : Nat) (u0 : M2) (η : HT) (τ : M2) (v2 : Int32) : Nat → Int32 → Int32 → M2 → Option (Nat × Int32 × M2 × M2 × HT × M2)
  | 0, _, _, _ => none
  | k + 1, v3, v4, φ => B_X8_roomFor_21 N u0 η τ v2 (L_X8_roomFor_21 N u0 η τ v2 k) v3 v4 φ
def G_X8_roomFor (N : Nat) (u0 : M2) (φ : M2) (η : HT) (τ : M2) (p1 : Int32) (p2 : Int32) : Option (Nat × Int32 × M2 × M2 × HT × M2) :=
  if G_X8_checkRange p1 p2 = 0 then (
  some (1, 0, u0, φ, η, τ)
  ) else (
  obd (G_X2_copyFrom N (xPm φ u0)) fun w1 =>
  olet (xsh w1) fun u3 =>
  L_X8_roomFor_21 N u3 η τ p2 N 0 p1 w1)
def G_X8_falseKeys (N : Nat) (u0 : M2) (φ : M2) (η : HT) (τ : M2) (p1 : Int32) (p2 : Int32) : Option (Nat × Int32 × M2 × M2 × HT × M2) :=
  if G_X8_checkRange p1 p2 = 0 then (
  some (1, 0, u0, φ, η, τ)
  ) else (
  obd (G_X2_falseBetween N u0 p1 p2) fun r1 =>
  some (0, r1, u0, φ, η, τ))
def B_X8_falseKey_4 (N : Nat) (u0 : M2) (η : HT) (τ : M2) (v1 : Int32) (rec : Int32 → Int32 → M2 → Option (Nat × Int32 × M2 × M2 × HT × M2)) (v2 : Int32) (v3 : Int32) (φ : M2) : Option (Nat × Int32 × M2 × M2 × HT × M2) :=
  if 1000 ≤ v3 then (
  some (0, (-1), u0, φ, η, τ)
  ) else (
  obd (G_X2_isFalse N u0 v3) fun r1 =>
  if r1 = 0 then (
  rec v2 (v3 + 1) φ
  ) else (
  if v2 = v1 then (
  some (0, v3, u0, φ, η, τ)
  ) else (
  rec (v2 + 1) (v3 + 1) φ)))
def L_X8_falseKey_4 (N : Nat) (u0 : M2) (η : HT) (τ : M2) (v1 : Int32) : Nat → Int32 → Int32 → M2 → Option (Nat × Int32 × M2 × M2 × HT × M2)
  | 0, _, _, _ => none
  | k + 1, v2, v3, φ => B_X8_falseKey_4 N u0 η τ v1 (L_X8_falseKey_4 N u0 η τ v1 k) v2 v3 φ
def G_X8_falseKey (N : Nat) (u0 : M2) (φ : M2) (η : HT) (τ : M2) (p1 : Int32) : Option (Nat × Int32 × M2 × M2 × HT × M2) :=
  L_X8_falseKey_4 N u0 η τ p1 N 0 0 φ
def B_X8_blamed_31 (N : Nat) (φ : M2) (u0 : M2) (η : HT) (τ : M2) (rec : Int32 → Int32 → Option Int32) (v3 : Int32) (v4 : Int32) : Option Int32 :=
  if 1000 ≤ v4 then (
  some v3
  ) else (
  obd (G_X2_isFalse N u0 v4) fun r6 =>
  if r6 = 0 then (
  rec v3 (v4 + 1)
  ) else (
  obd (G_X2_finds N φ v4) fun r8 =>
  if r8 = 0 then (
  rec (v3 + 1) (v4 + 1)
  ) else (
  rec v3 (v4 + 1))))
def L_X8_blamed_31 (N : Nat) (φ : M2) (u0 : M2) (η : HT) (τ : M2) : Nat → Int32 → Int32 → Option Int32
  | 0, _, _ => none
  | k + 1, v3, v4 => B_X8_blamed_31 N φ u0 η τ (L_X8_blamed_31 N φ u0 η τ k) v3 v4
def G_X8_blamed (N : Nat) (u0 : M2) (φ : M2) (η : HT) (τ : M2) (p1 : Int32) (p2 : Int32) : Option (Nat × Int32 × M2 × M2 × HT × M2) :=
  if G_X8_checkSlot u0 p1 p2 = 0 then (
  some (3, 0, u0, φ, η, τ)
  ) else (
  obd (G_X2_copyFrom N (xPm φ u0)) fun w1 =>
  olet (xsh w1) fun u3 =>
  obd (G_X2_emptySlot w1 p1 p2) fun w4 =>
  obd (L_X8_blamed_31 N w4 u3 η τ N 0 0) fun y10 =>
  some (0, y10, u3, w4, η, τ))
def G_X8_twins (N : Nat) (u0 : M2) (φ : M2) (η : HT) (τ : M2) : Option (Nat × Int32 × M2 × M2 × HT × M2) :=
  obd (G_X2_twinPairs N u0) fun r1 =>
  some (0, r1, u0, φ, η, τ)
def B_X8_bestSeed_30 (N : Nat) (u0 : M2) (η : HT) (τ : M2) (v1 : Int32) (rec : Int32 → Int32 → Int32 → M2 → Option (Int32 × M2)) (v2 : Int32) (v3 : Int32) (v4 : Int32) (φ : M2) : Option (Int32 × M2) :=
  if v1 ≤ v4 then (
  some ((v2, φ))
  ) else (
  obd2 (G_X2_refillWithSeed N φ v4) fun r7 w5 =>
  if r7 = 0 then (
  rec v2 v3 (v4 + 1) w5
  ) else (
  obd (G_X2_falseBetween N w5 0 999) fun r8 =>
  if v3 ≤ r8 then (
  rec v2 v3 (v4 + 1) w5
  ) else (
  rec v4 r8 (v4 + 1) w5)))
def L_X8_bestSeed_30 (N : Nat) (u0 : M2) (η : HT) (τ : M2) (v1 : Int32) : Nat → Int32 → Int32 → Int32 → M2 → Option (Int32 × M2)
  | 0, _, _, _, _ => none
  | k + 1, v2, v3, v4, φ => B_X8_bestSeed_30 N u0 η τ v1 (L_X8_bestSeed_30 N u0 η τ v1 k) v2 v3 v4 φ
def G_X8_bestSeed (N : Nat) (u0 : M2) (φ : M2) (η : HT) (τ : M2) (p1 : Int32) : Option (Nat × Int32 × M2 × M2 × HT × M2) :=
  olet (G_X8_within p1 1 20) fun r1 =>
  if r1 = 0 then (
  some (1, 0, u0, φ, η, τ)
  ) else (
  obd (G_X2_copyFrom N (xPm φ u0)) fun w2 =>
  olet (xsh w2) fun u4 =>
  obd2 (L_X8_bestSeed_30 N u4 η τ p1 N ((-1)) 1001 0 w2) fun y10 w11 =>
  some (0, y10, u4, w11, η, τ))
def B_X8_leastBits_32 (N : Nat) (u0 : M2) (η : HT) (τ : M2) (v1 : Int32) (v2 : Int32) (rec : Int32 → M2 → Option (Nat × Int32 × M2 × M2 × HT × M2)) (v3 : Int32) (φ : M2) : Option (Nat × Int32 × M2 × M2 × HT × M2) :=
  if 6 < v3 then (
  some (0, (-1), u0, φ, η, τ)
  ) else (
  obd2 (G_X2_refillWithBits N φ v3 v1 v2) fun r8 w6 =>
  if r8 = 0 then (
  rec (v3 + 1) w6
  ) else (
  some (0, v3, u0, w6, η, τ)))
def L_X8_leastBits_32 (N : Nat) (u0 : M2) (η : HT) (τ : M2) (v1 : Int32) (v2 : Int32) : Nat → Int32 → M2 → Option (Nat × Int32 × M2 × M2 × HT × M2)
  | 0, _, _ => none
  | k + 1, v3, φ => B_X8_leastBits_32 N u0 η τ v1 v2 (L_X8_leastBits_32 N u0 η τ v1 v2 k) v3 φ
def G_X8_leastBits (N : Nat) (u0 : M2) (φ : M2) (η : HT) (τ : M2) (p1 : Int32) (p2 : Int32) : Option (Nat × Int32 × M2 × M2 × HT × M2) :=
  olet (G_X8_within p1 1 4) fun r1 =>
  if r1 = 0 then (
  some (1, 0, u0, φ, η, τ)
  ) else (
  olet (G_X8_within p2 1 8) fun r2 =>
  if r2 = 0 then (
  some (1, 0, u0, φ, η, τ)
  ) else (
  obd (G_X2_copyFrom N (xPm φ u0)) fun w3 =>
  olet (xsh w3) fun u5 =>
  L_X8_leastBits_32 N u5 η τ p1 p2 N 1 w3))
def G_X8_couldFit (N : Nat) (u0 : M2) (φ : M2) (η : HT) (τ : M2) (p1 : Int32) (p2 : Int32) (p3 : Int32) : Option (Nat × Int32 × M2 × M2 × HT × M2) :=
  olet (G_X8_within p1 1 6) fun r1 =>
  if r1 = 0 then (
  some (1, 0, u0, φ, η, τ)
  ) else (
  olet (G_X8_within p2 1 4) fun r2 =>
  if r2 = 0 then (
  some (1, 0, u0, φ, η, τ)
  ) else (
  olet (G_X8_within p3 0 99) fun r3 =>
  if r3 = 0 then (
  some (1, 0, u0, φ, η, τ)
  ) else (
  obd (G_X2_copyFrom N (xPm φ u0)) fun w4 =>
  olet (xsh w4) fun u6 =>
  obd2 (G_X2_distribute N w4 p1 p2 p3) fun r9 w7 =>
  some (0, r9, u6, w7, η, τ))))
def G_X8_append (N : Nat) (u0 : M2) (φ : M2) (η : HT) (τ : M2) (p1 : Int32) : Option (Nat × Int32 × M2 × M2 × HT × M2) :=
  olet (G_X8_within p1 0 127) fun r1 =>
  if r1 = 0 then (
  some (1, 0, u0, φ, η, τ)
  ) else (
  olet (G_X6_size τ) fun r2 =>
  if r2 < 100 then (
  obd2 (G_X6_put τ p1) fun r5 w3 =>
  some (0, r5, u0, φ, η, w3)
  ) else (
  some (2, 0, u0, φ, η, τ)))
def G_X8_clearText (N : Nat) (u0 : M2) (φ : M2) (η : HT) (τ : M2) : Option (Nat × Int32 × M2 × M2 × HT × M2) :=
  obd2 (G_X6_empty τ) fun r3 w1 =>
  some (0, r3, u0, φ, η, w1)
def B_X8_execute_39 (N : Nat) (u0 : M2) (η : HT) (τ : M2) (rec : Int32 → Int32 → Int32 → Int32 → M2 → Option (Nat × Int32 × M2 × M2 × HT × M2)) (v2 : Int32) (v3 : Int32) (v4 : Int32) (v5 : Int32) (φ : M2) : Option (Nat × Int32 × M2 × M2 × HT × M2) :=
  olet (G_X6_size τ) fun r6 =>
  if r6 ≤ v5 then (
  obd3 (G_X8_accept N u0 φ η) fun w7 w8 e9 =>
  some (0, v2, w7, w8, e9, τ)
  ) else (
  obd (G_X6_byteAt τ v5) fun r11 =>
  if r11 = 59 then (
  obd2 (G_X2_perform N φ v3 v4) fun r17 w15 =>
  if r17 = (-1) then (
  some (0, ((-1000) - v2), u0, w15, η, τ)
  ) else (
  rec (v2 + 1) v3 v4 (v5 + 1) w15)
  ) else (
  olet (G_X6_isDigit r11) fun r13 =>
  if r13 = 0 then (
  rec v2 r11 0 (v5 + 1) φ
  ) else (
  olet (((v4 * 10) + (r11 - 48))) fun x14 =>
  rec v2 v3 x14 (v5 + 1) φ)))
def L_X8_execute_39 (N : Nat) (u0 : M2) (η : HT) (τ : M2) : Nat → Int32 → Int32 → Int32 → Int32 → M2 → Option (Nat × Int32 × M2 × M2 × HT × M2)
  | 0, _, _, _, _, _ => none
  | k + 1, v2, v3, v4, v5, φ => B_X8_execute_39 N u0 η τ (L_X8_execute_39 N u0 η τ k) v2 v3 v4 v5 φ
def G_X8_execute (N : Nat) (u0 : M2) (φ : M2) (η : HT) (τ : M2) : Option (Nat × Int32 × M2 × M2 × HT × M2) :=
  obd (G_X6_errorPosition N τ) fun r1 =>
  if r1 = (-1) then (
  obd (G_X2_copyFrom N (xPm φ u0)) fun w3 =>
  olet (xsh w3) fun u5 =>
  L_X8_execute_39 N u5 η τ N 0 0 0 0 w3
  ) else (
  some (0, ((-10) - r1), u0, φ, η, τ))
def G_X8_undo (N : Nat) (u0 : M2) (φ : M2) (η : HT) (τ : M2) : Option (Nat × Int32 × M2 × M2 × HT × M2) :=
  if η.2 = 0 then (
  some (2, 0, u0, φ, η, τ)
  ) else (
  obd3 (H_pop N u0 η) fun r1 w2 e3 =>
  some (0, r1, w2, φ, e3, τ))
def B_X8_digest_6 (N : Nat) (φ : M2) (u0 : M2) (η : HT) (τ : M2) (rec : Int64 → Int32 → Option Int64) (v1 : Int64) (v3 : Int32) : Option Int64 :=
  if 8 < v3 then (
  some v1
  ) else (
  obd (G_X2_number N u0 v3) fun r1 =>
  olet (((31 * v1) + r1.toInt64)) fun x3 =>
  rec x3 (v3 + 1))
def L_X8_digest_6 (N : Nat) (φ : M2) (u0 : M2) (η : HT) (τ : M2) : Nat → Int64 → Int32 → Option Int64
  | 0, _, _ => none
  | k + 1, v1, v3 => B_X8_digest_6 N φ u0 η τ (L_X8_digest_6 N φ u0 η τ k) v1 v3
def B_X8_digest_65 (N : Nat) (φ : M2) (u0 : M2) (η : HT) (τ : M2) (v3 : Int32) (v4 : Int32) (rec : Int64 → Int32 → Option Int64) (v1 : Int64) (v5 : Int32) : Option Int64 :=
  if 3 < v5 then (
  some v1
  ) else (
  obd (G_X2_partOfSlot u0 v3 v4 v5) fun r8 =>
  olet (((31 * v1) + r8.toInt64)) fun x10 =>
  rec x10 (v5 + 1))
def L_X8_digest_65 (N : Nat) (φ : M2) (u0 : M2) (η : HT) (τ : M2) (v3 : Int32) (v4 : Int32) : Nat → Int64 → Int32 → Option Int64
  | 0, _, _ => none
  | k + 1, v1, v5 => B_X8_digest_65 N φ u0 η τ v3 v4 (L_X8_digest_65 N φ u0 η τ v3 v4 k) v1 v5
def B_X8_digest_50 (N : Nat) (φ : M2) (u0 : M2) (η : HT) (τ : M2) (v3 : Int32) (rec : Int64 → Int32 → Option Int64) (v1 : Int64) (v4 : Int32) : Option Int64 :=
  olet (G_X2_slotCount u0) fun r7 =>
  if r7 ≤ v4 then (
  some v1
  ) else (
  obd (L_X8_digest_65 N φ u0 η τ v3 v4 N v1 0) fun y11 =>
  rec y11 (v4 + 1))
def L_X8_digest_50 (N : Nat) (φ : M2) (u0 : M2) (η : HT) (τ : M2) (v3 : Int32) : Nat → Int64 → Int32 → Option Int64
  | 0, _, _ => none
  | k + 1, v1, v4 => B_X8_digest_50 N φ u0 η τ v3 (L_X8_digest_50 N φ u0 η τ v3 k) v1 v4
def B_X8_digest_36 (N : Nat) (φ : M2) (u0 : M2) (η : HT) (τ : M2) (rec : Int64 → Int32 → Option Int64) (v1 : Int64) (v3 : Int32) : Option Int64 :=
  olet (G_X2_bucketCount u0) fun r6 =>
  if r6 ≤ v3 then (
  some v1
  ) else (
  obd (L_X8_digest_50 N φ u0 η τ v3 N v1 0) fun y13 =>
  rec y13 (v3 + 1))
def L_X8_digest_36 (N : Nat) (φ : M2) (u0 : M2) (η : HT) (τ : M2) : Nat → Int64 → Int32 → Option Int64
  | 0, _, _ => none
  | k + 1, v1, v3 => B_X8_digest_36 N φ u0 η τ (L_X8_digest_36 N φ u0 η τ k) v1 v3
def B_X8_digest_125 (N : Nat) (φ : M2) (u0 : M2) (η : HT) (τ : M2) (v3 : Int32) (rec : Int64 → Int32 → Option Int64) (v1 : Int64) (v4 : Int32) : Option Int64 :=
  if 3 < v4 then (
  some v1
  ) else (
  obd (G_X2_partOfStash u0 v3 v4) fun r18 =>
  olet (((31 * v1) + r18.toInt64)) fun x20 =>
  rec x20 (v4 + 1))
def L_X8_digest_125 (N : Nat) (φ : M2) (u0 : M2) (η : HT) (τ : M2) (v3 : Int32) : Nat → Int64 → Int32 → Option Int64
  | 0, _, _ => none
  | k + 1, v1, v4 => B_X8_digest_125 N φ u0 η τ v3 (L_X8_digest_125 N φ u0 η τ v3 k) v1 v4
def B_X8_digest_111 (N : Nat) (φ : M2) (u0 : M2) (η : HT) (τ : M2) (rec : Int64 → Int32 → Option Int64) (v1 : Int64) (v3 : Int32) : Option Int64 :=
  olet (G_X2_stashSize u0) fun r17 =>
  if r17 ≤ v3 then (
  some v1
  ) else (
  obd (L_X8_digest_125 N φ u0 η τ v3 N v1 0) fun y21 =>
  rec y21 (v3 + 1))
def L_X8_digest_111 (N : Nat) (φ : M2) (u0 : M2) (η : HT) (τ : M2) : Nat → Int64 → Int32 → Option Int64
  | 0, _, _ => none
  | k + 1, v1, v3 => B_X8_digest_111 N φ u0 η τ (L_X8_digest_111 N φ u0 η τ k) v1 v3
def B_X8_digest_178 (N : Nat) (φ : M2) (u0 : M2) (η : HT) (τ : M2) (rec : Int64 → Int32 → Option Int64) (v1 : Int64) (v3 : Int32) : Option Int64 :=
  olet (G_X2_keyCount u0) fun r27 =>
  if r27 ≤ v3 then (
  some v1
  ) else (
  obd (G_X2_keyAt u0 v3) fun r28 =>
  olet (((31 * v1) + r28.toInt64)) fun x30 =>
  rec x30 (v3 + 1))
def L_X8_digest_178 (N : Nat) (φ : M2) (u0 : M2) (η : HT) (τ : M2) : Nat → Int64 → Int32 → Option Int64
  | 0, _, _ => none
  | k + 1, v1, v3 => B_X8_digest_178 N φ u0 η τ (L_X8_digest_178 N φ u0 η τ k) v1 v3
def G_X8_digest (N : Nat) (u0 : M2) (φ : M2) (η : HT) (τ : M2) : Option (Nat × Int64 × M2 × M2 × HT × M2) :=
  obd (L_X8_digest_6 N φ u0 η τ N 1960 0) fun y4 =>
  obd (L_X8_digest_36 N φ u0 η τ N y4 0) fun y15 =>
  obd (L_X8_digest_111 N φ u0 η τ N y15 0) fun y23 =>
  olet (G_X2_keyCount u0) fun r25 =>
  olet (((31 * y23) + r25.toInt64)) fun x26 =>
  obd (L_X8_digest_178 N φ u0 η τ N x26 0) fun y31 =>
  obd (G_X2_falseBetween N u0 0 999) fun r33 =>
  olet (((31 * y31) + r33.toInt64)) fun x35 =>
  olet (G_X6_size τ) fun r36 =>
  olet (((31 * x35) + r36.toInt64)) fun x37 =>
  some (0, ((31 * x37) + η.2.toInt64), u0, φ, η, τ)
set_option maxHeartbeats 4000000 in
set_option maxRecDepth 100000 in
theorem c_X8_tag (l : Launch) (hl0 : l.stackTraces = false) (D : va_G) (cI cF : ClassId) (b : Bf) (N : Nat) (u0 : M2) (φ : M2) (η : HT) (τ : M2) (p1 : Int32) (k0 : Nat) (r0 : Int32) (u0r φr : M2) (ηr : HT) (τr : M2) (hF : G_X8_tag N u0 φ η τ p1 = some (k0, r0, u0r, φr, ηr, τr)) : vx_Met l yX8_tag (wsA yX8_tag cX8_tag 2 (some .int)) { frames := 8, cells := 1, slots := 6, locals := 122 } (va_Pc [.ref (b 6 0), .int p1] (xP D cI cF b u0 φ η τ)) (va_Qi (fun (r : Int32) (u : Bf) => k0 = 0 ∧ r = r0 ∧ xSame b u) (fun u t => va_P D vwCl (xW cI cF u u0r φr ηr τr) t.heap ∧ va_D (fun _ => True) (xW cI cF u u0r φr ηr τr)) (xA b)) (vx_X (fun (u : Bf) => xSame b u) (fun E u t => ¬ k0 = 0 ∧ E = eOf k0 ∧ va_P D vwCl (xW cI cF u u0r φr ηr τr) t.heap ∧ va_D (fun _ => True) (xW cI cF u u0r φr ηr τr)) (xA b)) 1 6 (xA b) := by
  refine vx_ofW (cc := cX8_tag) (maxL := 2) (ret := (some .int)) (by decide) rfl ?_
  intro p e s m args below meth c s₁ B hml htab hpre
  obtain ⟨rfl, hP, hK, hD0, hT, hZ⟩ := hpre
  have hx := B.exec
  have hb := B.bytes
  have hr := B.returns
  have hA : ∀ w ∈ AW, w.before _ s = true := fun w h => atoms_spec (ws := wsA yX8_tag cX8_tag 2 (some .int)) B.pre w (List.mem_cons_of_mem _ h)
  have hown : s.vm.findClass RX8 = some m.cls := findClass_of_methodNamed B.named
  have hlocks := B.notSynchronized
  have hDX := X_D hD0
  have hDcur := X_d_cur hD0
  have hDtho := X_d_tho hD0
  have hDtxt := X_d_txt hD0
  have hDtc := X_d_tc hD0
  have hZ0 := hZ
  have hS : va_S (xA b) s.heap s.heap [] := va_S.rf
  have S : CallFix p m c cX8_tag 2 s ([.ref (b 6 0), .int p1] : List Value).toArray AW RX8 := ⟨hx, hb, hml, hown, hA⟩
  have hl := lv_entry ([.ref (b 6 0), .int p1]) (n := 2) (Nat.le_of_ble_eq_true rfl)
  rw [lg_entry_eq]
  generalize (lg_sl ([.ref (b 6 0), .int p1]) ++ List.replicate (2 - (lg_sl ([.ref (b 6 0), .int p1])).length) Slot.unset).toArray = ls at hl ⊢
  have hl : lv_has ls 2 [(0, .ref (b 6 0)), (1, .int p1)] := hl
  have h := hF
  unfold G_X8_tag at h
  refine lv_iload_n hx hb dX8_tag_0 rfl (lv_at hl 1 rfl) ?_
  refine fx_chk (n := 1) (As := [.int p1]) S (c_X8_checkKey l hl0 (xA b) p1) hT hZ hS aM_RX8_33 aS_X8_checkKey aN_RX8 aC_X8_checkKey rfl rfl (by decide +kernel) rfl ⟨Nat.le_of_ble_eq_true rfl, Nat.le_of_ble_eq_true rfl⟩ ⟨by decide, by decide⟩ hl.1 (Nat.le_of_ble_eq_true rfl) dX8_tag_1 (fun hg ce q9 H locs hk hz hS h9 hv hcl => ?_) (fun hg H locs hk hz hS => ?_)
  · replace h := oi_t hg h
    obtain ⟨rfl, rfl, rfl, rfl, rfl, rfl⟩ := os6 h
    exact vx_out (fun x hx => (htab x hx).elim) hlocks h9 hv hcl (fun t ht _ => ⟨b, xSame_rf, ⟨by decide, rfl, (by rw [ht]; exact X_all hP hk), hDX _ _ _ _⟩, hS.F ht⟩) hS.2.2 (by decide) (by decide)
  · replace h := oi_f hg h
    have hP := X_all hP hk
    have hZ := hZ.kept (fun a ha _ => hk a ha)
    refine lv_aload_n hx hb dX8_tag_4 rfl (lv_at hl 0 rfl) ?_
    refine xg_current hx hb hA hown aF_RX8_10 hK hP dX8_tag_5 ?_
    refine lv_iload_n hx hb dX8_tag_8 rfl (lv_at hl 1 rfl) ?_
    refine k_X2_codeOf S aM_RX8_37 ⟨Nat.le_of_ble_eq_true rfl, Nat.le_of_ble_eq_true rfl⟩ ⟨by decide, by decide⟩ (X_p_cur hP) (X_k hK) hDcur hl.1 (Nat.le_of_ble_eq_true rfl) dX8_tag_9 (fun r1 er1 => ?_)
    replace h := olet_s er1 h
    refine k_X0_tagOf S aM_RX8_41 ⟨Nat.le_of_ble_eq_true rfl, Nat.le_of_ble_eq_true rfl⟩ ⟨by decide, by decide⟩ hl.1 (Nat.le_of_ble_eq_true rfl) dX8_tag_12 (fun r2 er2 => ?_)
    replace h := olet_s er2 h
    obtain ⟨rfl, rfl, rfl, rfl, rfl, rfl⟩ := os6 h
    refine vx_ret ?_
    refine W.widen (k := 1) (n := 6) (by decide) (by decide) ?_
    exact W.iret (v := r2) hx hb hr (fun t ht hW => ⟨⟨_, b, rfl, ⟨rfl, rfl, xSame_rf⟩, (by rw [ht]; exact hP), (hDX _ _ _ _)⟩, hS.F ht⟩) hS.2.2 dX8_tag_15
set_option maxHeartbeats 4000000 in
set_option maxRecDepth 100000 in
theorem c_X8_body (l : Launch) (hl0 : l.stackTraces = false) (D : va_G) (cI cF : ClassId) (b : Bf) (N : Nat) (u0 : M2) (φ : M2) (η : HT) (τ : M2) (p1 : Int32) (k0 : Nat) (r0 : Int32) (u0r φr : M2) (ηr : HT) (τr : M2) (hF : G_X8_body N u0 φ η τ p1 = some (k0, r0, u0r, φr, ηr, τr)) : vx_Met l yX8_body (wsA yX8_body cX8_body 2 (some .int)) { frames := 8, cells := 1, slots := 6, locals := 122 } (va_Pc [.ref (b 6 0), .int p1] (xP D cI cF b u0 φ η τ)) (va_Qi (fun (r : Int32) (u : Bf) => k0 = 0 ∧ r = r0 ∧ xSame b u) (fun u t => va_P D vwCl (xW cI cF u u0r φr ηr τr) t.heap ∧ va_D (fun _ => True) (xW cI cF u u0r φr ηr τr)) (xA b)) (vx_X (fun (u : Bf) => xSame b u) (fun E u t => ¬ k0 = 0 ∧ E = eOf k0 ∧ va_P D vwCl (xW cI cF u u0r φr ηr τr) t.heap ∧ va_D (fun _ => True) (xW cI cF u u0r φr ηr τr)) (xA b)) 1 6 (xA b) := by
  refine vx_ofW (cc := cX8_body) (maxL := 2) (ret := (some .int)) (by decide) rfl ?_
  intro p e s m args below meth c s₁ B hml htab hpre
  obtain ⟨rfl, hP, hK, hD0, hT, hZ⟩ := hpre
  have hx := B.exec
  have hb := B.bytes
  have hr := B.returns
  have hA : ∀ w ∈ AW, w.before _ s = true := fun w h => atoms_spec (ws := wsA yX8_body cX8_body 2 (some .int)) B.pre w (List.mem_cons_of_mem _ h)
  have hown : s.vm.findClass RX8 = some m.cls := findClass_of_methodNamed B.named
  have hlocks := B.notSynchronized
  have hDX := X_D hD0
  have hDcur := X_d_cur hD0
  have hDtho := X_d_tho hD0
  have hDtxt := X_d_txt hD0
  have hDtc := X_d_tc hD0
  have hZ0 := hZ
  have hS : va_S (xA b) s.heap s.heap [] := va_S.rf
  have S : CallFix p m c cX8_body 2 s ([.ref (b 6 0), .int p1] : List Value).toArray AW RX8 := ⟨hx, hb, hml, hown, hA⟩
  have hl := lv_entry ([.ref (b 6 0), .int p1]) (n := 2) (Nat.le_of_ble_eq_true rfl)
  rw [lg_entry_eq]
  generalize (lg_sl ([.ref (b 6 0), .int p1]) ++ List.replicate (2 - (lg_sl ([.ref (b 6 0), .int p1])).length) Slot.unset).toArray = ls at hl ⊢
  have hl : lv_has ls 2 [(0, .ref (b 6 0)), (1, .int p1)] := hl
  have h := hF
  unfold G_X8_body at h
  refine lv_iload_n hx hb dX8_body_0 rfl (lv_at hl 1 rfl) ?_
  refine fx_chk (n := 1) (As := [.int p1]) S (c_X8_checkKey l hl0 (xA b) p1) hT hZ hS aM_RX8_33 aS_X8_checkKey aN_RX8 aC_X8_checkKey rfl rfl (by decide +kernel) rfl ⟨Nat.le_of_ble_eq_true rfl, Nat.le_of_ble_eq_true rfl⟩ ⟨by decide, by decide⟩ hl.1 (Nat.le_of_ble_eq_true rfl) dX8_body_1 (fun hg ce q9 H locs hk hz hS h9 hv hcl => ?_) (fun hg H locs hk hz hS => ?_)
  · replace h := oi_t hg h
    obtain ⟨rfl, rfl, rfl, rfl, rfl, rfl⟩ := os6 h
    exact vx_out (fun x hx => (htab x hx).elim) hlocks h9 hv hcl (fun t ht _ => ⟨b, xSame_rf, ⟨by decide, rfl, (by rw [ht]; exact X_all hP hk), hDX _ _ _ _⟩, hS.F ht⟩) hS.2.2 (by decide) (by decide)
  · replace h := oi_f hg h
    have hP := X_all hP hk
    have hZ := hZ.kept (fun a ha _ => hk a ha)
    refine lv_aload_n hx hb dX8_body_4 rfl (lv_at hl 0 rfl) ?_
    refine xg_current hx hb hA hown aF_RX8_10 hK hP dX8_body_5 ?_
    refine lv_iload_n hx hb dX8_body_8 rfl (lv_at hl 1 rfl) ?_
    refine k_X2_codeOf S aM_RX8_37 ⟨Nat.le_of_ble_eq_true rfl, Nat.le_of_ble_eq_true rfl⟩ ⟨by decide, by decide⟩ (X_p_cur hP) (X_k hK) hDcur hl.1 (Nat.le_of_ble_eq_true rfl) dX8_body_9 (fun r1 er1 => ?_)
    replace h := olet_s er1 h
    refine k_X0_bodyOf S aM_RX8_46 ⟨Nat.le_of_ble_eq_true rfl, Nat.le_of_ble_eq_true rfl⟩ ⟨by decide, by decide⟩ hl.1 (Nat.le_of_ble_eq_true rfl) dX8_body_12 (fun r2 er2 => ?_)
    replace h := olet_s er2 h
    obtain ⟨rfl, rfl, rfl, rfl, rfl, rfl⟩ := os6 h
    refine vx_ret ?_
    refine W.widen (k := 1) (n := 6) (by decide) (by decide) ?_
    exact W.iret (v := r2) hx hb hr (fun t ht hW => ⟨⟨_, b, rfl, ⟨rfl, rfl, xSame_rf⟩, (by rw [ht]; exact hP), (hDX _ _ _ _)⟩, hS.F ht⟩) hS.2.2 dX8_body_15
set_option maxHeartbeats 4000000 in
set_option maxRecDepth 100000 in
theorem c_X8_bucket (l : Launch) (hl0 : l.stackTraces = false) (D : va_G) (cI cF : ClassId) (b : Bf) (N : Nat) (u0 : M2) (φ : M2) (η : HT) (τ : M2) (p1 : Int32) (p2 : Int32) (k0 : Nat) (r0 : Int32) (u0r φr : M2) (ηr : HT) (τr : M2) (hF : G_X8_bucket N u0 φ η τ p1 p2 = some (k0, r0, u0r, φr, ηr, τr)) : vx_Met l yX8_bucket (wsA yX8_bucket cX8_bucket 4 (some .int)) { frames := 8, cells := 1, slots := 6, locals := 122 } (va_Pc [.ref (b 6 0), .int p1, .int p2] (xP D cI cF b u0 φ η τ)) (va_Qi (fun (r : Int32) (u : Bf) => k0 = 0 ∧ r = r0 ∧ xSame b u) (fun u t => va_P D vwCl (xW cI cF u u0r φr ηr τr) t.heap ∧ va_D (fun _ => True) (xW cI cF u u0r φr ηr τr)) (xA b)) (vx_X (fun (u : Bf) => xSame b u) (fun E u t => ¬ k0 = 0 ∧ E = eOf k0 ∧ va_P D vwCl (xW cI cF u u0r φr ηr τr) t.heap ∧ va_D (fun _ => True) (xW cI cF u u0r φr ηr τr)) (xA b)) 1 6 (xA b) := by
  refine vx_ofW (cc := cX8_bucket) (maxL := 4) (ret := (some .int)) (by decide) rfl ?_
  intro p e s m args below meth c s₁ B hml htab hpre
  obtain ⟨rfl, hP, hK, hD0, hT, hZ⟩ := hpre
  have hx := B.exec
  have hb := B.bytes
  have hr := B.returns
  have hA : ∀ w ∈ AW, w.before _ s = true := fun w h => atoms_spec (ws := wsA yX8_bucket cX8_bucket 4 (some .int)) B.pre w (List.mem_cons_of_mem _ h)
  have hown : s.vm.findClass RX8 = some m.cls := findClass_of_methodNamed B.named
  have hlocks := B.notSynchronized
  have hDX := X_D hD0
  have hDcur := X_d_cur hD0
  have hDtho := X_d_tho hD0
  have hDtxt := X_d_txt hD0
  have hDtc := X_d_tc hD0
  have hZ0 := hZ
  have hS : va_S (xA b) s.heap s.heap [] := va_S.rf
  have S : CallFix p m c cX8_bucket 4 s ([.ref (b 6 0), .int p1, .int p2] : List Value).toArray AW RX8 := ⟨hx, hb, hml, hown, hA⟩
  have hl := lv_entry ([.ref (b 6 0), .int p1, .int p2]) (n := 4) (Nat.le_of_ble_eq_true rfl)
  rw [lg_entry_eq]
  generalize (lg_sl ([.ref (b 6 0), .int p1, .int p2]) ++ List.replicate (4 - (lg_sl ([.ref (b 6 0), .int p1, .int p2])).length) Slot.unset).toArray = ls at hl ⊢
  have hl : lv_has ls 4 [(0, .ref (b 6 0)), (1, .int p1), (2, .int p2)] := hl
  have h := hF
  unfold G_X8_bucket at h
  refine lv_iload_n hx hb dX8_bucket_0 rfl (lv_at hl 1 rfl) ?_
  refine fx_chk (n := 1) (As := [.int p1]) S (c_X8_checkKey l hl0 (xA b) p1) hT hZ hS aM_RX8_33 aS_X8_checkKey aN_RX8 aC_X8_checkKey rfl rfl (by decide +kernel) rfl ⟨Nat.le_of_ble_eq_true rfl, Nat.le_of_ble_eq_true rfl⟩ ⟨by decide, by decide⟩ hl.1 (Nat.le_of_ble_eq_true rfl) dX8_bucket_1 (fun hg ce q9 H locs hk hz hS h9 hv hcl => ?_) (fun hg H locs hk hz hS => ?_)
  · replace h := oi_t hg h
    obtain ⟨rfl, rfl, rfl, rfl, rfl, rfl⟩ := os6 h
    exact vx_out (fun x hx => (htab x hx).elim) hlocks h9 hv hcl (fun t ht _ => ⟨b, xSame_rf, ⟨by decide, rfl, (by rw [ht]; exact X_all hP hk), hDX _ _ _ _⟩, hS.F ht⟩) hS.2.2 (by decide) (by decide)
  · replace h := oi_f hg h
    have hP := X_all hP hk
    have hZ := hZ.kept (fun a ha _ => hk a ha)
    refine lv_aload_n hx hb dX8_bucket_4 rfl (lv_at hl 0 rfl) ?_
    refine xg_current hx hb hA hown aF_RX8_10 hK hP dX8_bucket_5 ?_
    refine lv_iload_n hx hb dX8_bucket_8 rfl (lv_at hl 1 rfl) ?_
    refine k_X2_newEntry S aM_RX8_49 ⟨Nat.le_of_ble_eq_true rfl, Nat.le_of_ble_eq_true rfl⟩ ⟨by decide, by decide⟩ (X_p_cur hP) (X_k hK) hDcur hl.1 (Nat.le_of_ble_eq_true rfl) dX8_bucket_9 (fun r1 er1 => ?_)
    replace h := olet_s er1 h
    refine lv_istore_n (lv' := [(3, .int r1), (0, .ref (b 6 0)), (1, .int p1), (2, .int p2)]) hx hb dX8_bucket_12 rfl hl (by decide) rfl (fun ls hl => ?_)
    refine lv_iload_n hx hb dX8_bucket_13 rfl (lv_at hl 3 rfl) ?_
    refine lv_if_eq (tgt := 28) hx hb dX8_bucket_14 (by decide) (fun hc => ?_) (fun hc => ?_)
    · replace h := oi_t hc h
      refine lv_iload_n hx hb dX8_bucket_28 rfl (lv_at hl 0 rfl) ?_
      refine k_X1_homeOf S aM_RX8_55 ⟨Nat.le_of_ble_eq_true rfl, Nat.le_of_ble_eq_true rfl⟩ ⟨by decide, by decide⟩ hl.1 (Nat.le_of_ble_eq_true rfl) dX8_bucket_29 (fun r2 er2 => ?_)
      replace h := olet_s er2 h
      obtain ⟨rfl, rfl, rfl, rfl, rfl, rfl⟩ := os6 h
      refine vx_ret ?_
      refine W.widen (k := 1) (n := 6) (by decide) (by decide) ?_
      exact W.iret (v := r2) hx hb hr (fun t ht hW => ⟨⟨_, b, rfl, ⟨rfl, rfl, xSame_rf⟩, (by rw [ht]; exact hP), (hDX _ _ _ _)⟩, hS.F ht⟩) hS.2.2 dX8_bucket_32
    · replace h := oi_f hc h
      refine lv_aload_n hx hb dX8_bucket_17 rfl (lv_at hl 1 rfl) ?_
      refine xg_current hx hb hA hown aF_RX8_10 hK hP dX8_bucket_18 ?_
      refine lv_iload_n hx hb dX8_bucket_21 rfl (lv_at hl 0 rfl) ?_
      refine k_X2_otherOf S aM_RX8_52 ⟨Nat.le_of_ble_eq_true rfl, Nat.le_of_ble_eq_true rfl⟩ ⟨by decide, by decide⟩ (X_p_cur hP) (X_k hK) hDcur hl.1 (Nat.le_of_ble_eq_true rfl) dX8_bucket_22 (fun r3 er3 => ?_)
      replace h := olet_s er3 h
      refine lv_goto (tgt := 32) hx hb dX8_bucket_25 (by decide) ?_
      obtain ⟨rfl, rfl, rfl, rfl, rfl, rfl⟩ := os6 h
      refine vx_ret ?_
      refine W.widen (k := 1) (n := 6) (by decide) (by decide) ?_
      exact W.iret (v := r3) hx hb hr (fun t ht hW => ⟨⟨_, b, rfl, ⟨rfl, rfl, xSame_rf⟩, (by rw [ht]; exact hP), (hDX _ _ _ _)⟩, hS.F ht⟩) hS.2.2 dX8_bucket_32
set_option maxHeartbeats 4000000 in
set_option maxRecDepth 100000 in
theorem c_X8_found (l : Launch) (hl0 : l.stackTraces = false) (D : va_G) (cI cF : ClassId) (b : Bf) (N : Nat) (u0 : M2) (φ : M2) (η : HT) (τ : M2) (p1 : Int32) (k0 : Nat) (r0 : Int32) (u0r φr : M2) (ηr : HT) (τr : M2) (hF : G_X8_found N u0 φ η τ p1 = some (k0, r0, u0r, φr, ηr, τr)) : vx_Met l yX8_found (wsA yX8_found cX8_found 2 (some .boolean)) { frames := 8, cells := 1, slots := 6, locals := 122 } (va_Pc [.ref (b 6 0), .int p1] (xP D cI cF b u0 φ η τ)) (va_Qi (fun (r : Int32) (u : Bf) => k0 = 0 ∧ r = r0 ∧ xSame b u ∧ (r = 0 ∨ r = 1)) (fun u t => va_P D vwCl (xW cI cF u u0r φr ηr τr) t.heap ∧ va_D (fun _ => True) (xW cI cF u u0r φr ηr τr)) (xA b)) (vx_X (fun (u : Bf) => xSame b u) (fun E u t => ¬ k0 = 0 ∧ E = eOf k0 ∧ va_P D vwCl (xW cI cF u u0r φr ηr τr) t.heap ∧ va_D (fun _ => True) (xW cI cF u u0r φr ηr τr)) (xA b)) 1 6 (xA b) := by
  refine vx_ofW (cc := cX8_found) (maxL := 2) (ret := (some .boolean)) (by decide) rfl ?_
  intro p e s m args below meth c s₁ B hml htab hpre
  obtain ⟨rfl, hP, hK, hD0, hT, hZ⟩ := hpre
  have hx := B.exec
  have hb := B.bytes
  have hr := B.returns
  have hA : ∀ w ∈ AW, w.before _ s = true := fun w h => atoms_spec (ws := wsA yX8_found cX8_found 2 (some .boolean)) B.pre w (List.mem_cons_of_mem _ h)
  have hown : s.vm.findClass RX8 = some m.cls := findClass_of_methodNamed B.named
  have hlocks := B.notSynchronized
  have hDX := X_D hD0
  have hDcur := X_d_cur hD0
  have hDtho := X_d_tho hD0
  have hDtxt := X_d_txt hD0
  have hDtc := X_d_tc hD0
  have hZ0 := hZ
  have hS : va_S (xA b) s.heap s.heap [] := va_S.rf
  have S : CallFix p m c cX8_found 2 s ([.ref (b 6 0), .int p1] : List Value).toArray AW RX8 := ⟨hx, hb, hml, hown, hA⟩
  have hl := lv_entry ([.ref (b 6 0), .int p1]) (n := 2) (Nat.le_of_ble_eq_true rfl)
  rw [lg_entry_eq]
  generalize (lg_sl ([.ref (b 6 0), .int p1]) ++ List.replicate (2 - (lg_sl ([.ref (b 6 0), .int p1])).length) Slot.unset).toArray = ls at hl ⊢
  have hl : lv_has ls 2 [(0, .ref (b 6 0)), (1, .int p1)] := hl
  have h := hF
  unfold G_X8_found at h
  refine lv_iload_n hx hb dX8_found_0 rfl (lv_at hl 1 rfl) ?_
  refine fx_chk (n := 1) (As := [.int p1]) S (c_X8_checkKey l hl0 (xA b) p1) hT hZ hS aM_RX8_33 aS_X8_checkKey aN_RX8 aC_X8_checkKey rfl rfl (by decide +kernel) rfl ⟨Nat.le_of_ble_eq_true rfl, Nat.le_of_ble_eq_true rfl⟩ ⟨by decide, by decide⟩ hl.1 (Nat.le_of_ble_eq_true rfl) dX8_found_1 (fun hg ce q9 H locs hk hz hS h9 hv hcl => ?_) (fun hg H locs hk hz hS => ?_)
  · replace h := oi_t hg h
    obtain ⟨rfl, rfl, rfl, rfl, rfl, rfl⟩ := os6 h
    exact vx_out (fun x hx => (htab x hx).elim) hlocks h9 hv hcl (fun t ht _ => ⟨b, xSame_rf, ⟨by decide, rfl, (by rw [ht]; exact X_all hP hk), hDX _ _ _ _⟩, hS.F ht⟩) hS.2.2 (by decide) (by decide)
  · replace h := oi_f hg h
    have hP := X_all hP hk
    have hZ := hZ.kept (fun a ha _ => hk a ha)
    refine lv_aload_n hx hb dX8_found_4 rfl (lv_at hl 0 rfl) ?_
    refine xg_current hx hb hA hown aF_RX8_10 hK hP dX8_found_5 ?_
    refine lv_iload_n hx hb dX8_found_8 rfl (lv_at hl 1 rfl) ?_
    obtain ⟨r1, h2, h⟩ := obd_e h
    refine k_X2_finds S aM_RX8_60 ⟨Nat.le_of_ble_eq_true rfl, Nat.le_of_ble_eq_true rfl⟩ ⟨by decide, by decide⟩ (X_p_cur hP) (X_k hK) hDcur h2 hl.1 (Nat.le_of_ble_eq_true rfl) dX8_found_9 (fun br1 => ?_)
    obtain ⟨rfl, rfl, rfl, rfl, rfl, rfl⟩ := os6 h
    refine vx_ret ?_
    refine W.widen (k := 1) (n := 6) (by decide) (by decide) ?_
    exact W.zret (v := r1) (ty := .boolean) hx hb hr (fm_nz br1) (fun t ht hW => ⟨⟨_, b, rfl, ⟨rfl, rfl, xSame_rf, br1⟩, (by rw [ht]; exact hP), (hDX _ _ _ _)⟩, hS.F ht⟩) hS.2.2 dX8_found_12
set_option maxHeartbeats 4000000 in
set_option maxRecDepth 100000 in
theorem c_X8_place (l : Launch) (hl0 : l.stackTraces = false) (D : va_G) (cI cF : ClassId) (b : Bf) (N : Nat) (u0 : M2) (φ : M2) (η : HT) (τ : M2) (p1 : Int32) (k0 : Nat) (r0 : Int32) (u0r φr : M2) (ηr : HT) (τr : M2) (hF : G_X8_place N u0 φ η τ p1 = some (k0, r0, u0r, φr, ηr, τr)) : vx_Met l yX8_place (wsA yX8_place cX8_place 2 (some .int)) { frames := 8, cells := 1, slots := 6, locals := 122 } (va_Pc [.ref (b 6 0), .int p1] (xP D cI cF b u0 φ η τ)) (va_Qi (fun (r : Int32) (u : Bf) => k0 = 0 ∧ r = r0 ∧ xSame b u) (fun u t => va_P D vwCl (xW cI cF u u0r φr ηr τr) t.heap ∧ va_D (fun _ => True) (xW cI cF u u0r φr ηr τr)) (xA b)) (vx_X (fun (u : Bf) => xSame b u) (fun E u t => ¬ k0 = 0 ∧ E = eOf k0 ∧ va_P D vwCl (xW cI cF u u0r φr ηr τr) t.heap ∧ va_D (fun _ => True) (xW cI cF u u0r φr ηr τr)) (xA b)) 1 6 (xA b) := by
  refine vx_ofW (cc := cX8_place) (maxL := 2) (ret := (some .int)) (by decide) rfl ?_
  intro p e s m args below meth c s₁ B hml htab hpre
  obtain ⟨rfl, hP, hK, hD0, hT, hZ⟩ := hpre
  have hx := B.exec
  have hb := B.bytes
  have hr := B.returns
  have hA : ∀ w ∈ AW, w.before _ s = true := fun w h => atoms_spec (ws := wsA yX8_place cX8_place 2 (some .int)) B.pre w (List.mem_cons_of_mem _ h)
  have hown : s.vm.findClass RX8 = some m.cls := findClass_of_methodNamed B.named
  have hlocks := B.notSynchronized
  have hDX := X_D hD0
  have hDcur := X_d_cur hD0
  have hDtho := X_d_tho hD0
  have hDtxt := X_d_txt hD0
  have hDtc := X_d_tc hD0
  have hZ0 := hZ
  have hS : va_S (xA b) s.heap s.heap [] := va_S.rf
  have S : CallFix p m c cX8_place 2 s ([.ref (b 6 0), .int p1] : List Value).toArray AW RX8 := ⟨hx, hb, hml, hown, hA⟩
  have hl := lv_entry ([.ref (b 6 0), .int p1]) (n := 2) (Nat.le_of_ble_eq_true rfl)
  rw [lg_entry_eq]
  generalize (lg_sl ([.ref (b 6 0), .int p1]) ++ List.replicate (2 - (lg_sl ([.ref (b 6 0), .int p1])).length) Slot.unset).toArray = ls at hl ⊢
  have hl : lv_has ls 2 [(0, .ref (b 6 0)), (1, .int p1)] := hl
  have h := hF
  unfold G_X8_place at h
  refine lv_iload_n hx hb dX8_place_0 rfl (lv_at hl 1 rfl) ?_
  refine fx_chk (n := 1) (As := [.int p1]) S (c_X8_checkKey l hl0 (xA b) p1) hT hZ hS aM_RX8_33 aS_X8_checkKey aN_RX8 aC_X8_checkKey rfl rfl (by decide +kernel) rfl ⟨Nat.le_of_ble_eq_true rfl, Nat.le_of_ble_eq_true rfl⟩ ⟨by decide, by decide⟩ hl.1 (Nat.le_of_ble_eq_true rfl) dX8_place_1 (fun hg ce q9 H locs hk hz hS h9 hv hcl => ?_) (fun hg H locs hk hz hS => ?_)
  · replace h := oi_t hg h
    obtain ⟨rfl, rfl, rfl, rfl, rfl, rfl⟩ := os6 h
    exact vx_out (fun x hx => (htab x hx).elim) hlocks h9 hv hcl (fun t ht _ => ⟨b, xSame_rf, ⟨by decide, rfl, (by rw [ht]; exact X_all hP hk), hDX _ _ _ _⟩, hS.F ht⟩) hS.2.2 (by decide) (by decide)
  · replace h := oi_f hg h
    have hP := X_all hP hk
    have hZ := hZ.kept (fun a ha _ => hk a ha)
    refine lv_aload_n hx hb dX8_place_4 rfl (lv_at hl 0 rfl) ?_
    refine xg_current hx hb hA hown aF_RX8_10 hK hP dX8_place_5 ?_
    refine lv_iload_n hx hb dX8_place_8 rfl (lv_at hl 1 rfl) ?_
    obtain ⟨r1, h2, h⟩ := obd_e h
    refine k_X2_placeOf S aM_RX8_64 ⟨Nat.le_of_ble_eq_true rfl, Nat.le_of_ble_eq_true rfl⟩ ⟨by decide, by decide⟩ (X_p_cur hP) (X_k hK) hDcur h2 hl.1 (Nat.le_of_ble_eq_true rfl) dX8_place_9 ?_
    obtain ⟨rfl, rfl, rfl, rfl, rfl, rfl⟩ := os6 h
    refine vx_ret ?_
    refine W.widen (k := 1) (n := 6) (by decide) (by decide) ?_
    exact W.iret (v := r1) hx hb hr (fun t ht hW => ⟨⟨_, b, rfl, ⟨rfl, rfl, xSame_rf⟩, (by rw [ht]; exact hP), (hDX _ _ _ _)⟩, hS.F ht⟩) hS.2.2 dX8_place_12
set_option maxHeartbeats 4000000 in
set_option maxRecDepth 100000 in
theorem c_X8_present (l : Launch) (hl0 : l.stackTraces = false) (D : va_G) (cI cF : ClassId) (b : Bf) (N : Nat) (u0 : M2) (φ : M2) (η : HT) (τ : M2) (p1 : Int32) (k0 : Nat) (r0 : Int32) (u0r φr : M2) (ηr : HT) (τr : M2) (hF : G_X8_present N u0 φ η τ p1 = some (k0, r0, u0r, φr, ηr, τr)) : vx_Met l yX8_present (wsA yX8_present cX8_present 2 (some .int)) { frames := 7, cells := 1, slots := 6, locals := 102 } (va_Pc [.ref (b 6 0), .int p1] (xP D cI cF b u0 φ η τ)) (va_Qi (fun (r : Int32) (u : Bf) => k0 = 0 ∧ r = r0 ∧ xSame b u) (fun u t => va_P D vwCl (xW cI cF u u0r φr ηr τr) t.heap ∧ va_D (fun _ => True) (xW cI cF u u0r φr ηr τr)) (xA b)) (vx_X (fun (u : Bf) => xSame b u) (fun E u t => ¬ k0 = 0 ∧ E = eOf k0 ∧ va_P D vwCl (xW cI cF u u0r φr ηr τr) t.heap ∧ va_D (fun _ => True) (xW cI cF u u0r φr ηr τr)) (xA b)) 1 6 (xA b) := by
  refine vx_ofW (cc := cX8_present) (maxL := 2) (ret := (some .int)) (by decide) rfl ?_
  intro p e s m args below meth c s₁ B hml htab hpre
  obtain ⟨rfl, hP, hK, hD0, hT, hZ⟩ := hpre
  have hx := B.exec
  have hb := B.bytes
  have hr := B.returns
  have hA : ∀ w ∈ AW, w.before _ s = true := fun w h => atoms_spec (ws := wsA yX8_present cX8_present 2 (some .int)) B.pre w (List.mem_cons_of_mem _ h)
  have hown : s.vm.findClass RX8 = some m.cls := findClass_of_methodNamed B.named
  have hlocks := B.notSynchronized
  have hDX := X_D hD0
  have hDcur := X_d_cur hD0
  have hDtho := X_d_tho hD0
  have hDtxt := X_d_txt hD0
  have hDtc := X_d_tc hD0
  have hZ0 := hZ
  have hS : va_S (xA b) s.heap s.heap [] := va_S.rf
  have S : CallFix p m c cX8_present 2 s ([.ref (b 6 0), .int p1] : List Value).toArray AW RX8 := ⟨hx, hb, hml, hown, hA⟩
  have hl := lv_entry ([.ref (b 6 0), .int p1]) (n := 2) (Nat.le_of_ble_eq_true rfl)
  rw [lg_entry_eq]
  generalize (lg_sl ([.ref (b 6 0), .int p1]) ++ List.replicate (2 - (lg_sl ([.ref (b 6 0), .int p1])).length) Slot.unset).toArray = ls at hl ⊢
  have hl : lv_has ls 2 [(0, .ref (b 6 0)), (1, .int p1)] := hl
  have h := hF
  unfold G_X8_present at h
  refine lv_iload_n hx hb dX8_present_0 rfl (lv_at hl 1 rfl) ?_
  refine lv_iconst (v := 0) hx hb dX8_present_1 (by decide) ?_
  refine lv_aload_n hx hb dX8_present_2 rfl (lv_at hl 0 rfl) ?_
  refine xg_current hx hb hA hown aF_RX8_10 hK hP dX8_present_3 ?_
  refine k_X2_keyCount S aM_RX8_67 ⟨Nat.le_of_ble_eq_true rfl, Nat.le_of_ble_eq_true rfl⟩ ⟨by decide, by decide⟩ (X_p_cur hP) (X_k hK) hDcur hl.1 (Nat.le_of_ble_eq_true rfl) dX8_present_6 (fun r1 er1 => ?_)
  replace h := olet_s er1 h
  refine lv_iconst (v := 1) hx hb dX8_present_9 (by decide) ?_
  refine lv_isub hx hb dX8_present_10 ?_
  refine k_X8_within S aM_RX8_71 ⟨Nat.le_of_ble_eq_true rfl, Nat.le_of_ble_eq_true rfl⟩ ⟨by decide, by decide⟩ hl.1 (Nat.le_of_ble_eq_true rfl) dX8_present_11 (fun r2 er2 br2 => ?_)
  replace h := olet_s er2 h
  refine fx_chk (n := 1) (As := [.int r2]) S (c_X8_checkPosition l hl0 (xA b) r2) hT hZ hS aM_RX8_75 aS_X8_checkPosition aN_RX8 aC_X8_checkPosition rfl rfl (by decide +kernel) rfl ⟨Nat.le_of_ble_eq_true rfl, Nat.le_of_ble_eq_true rfl⟩ ⟨by decide, by decide⟩ hl.1 (Nat.le_of_ble_eq_true rfl) dX8_present_14 (fun hg ce q9 H locs hk hz hS h9 hv hcl => ?_) (fun hg H locs hk hz hS => ?_)
  · replace h := oi_t hg h
    obtain ⟨rfl, rfl, rfl, rfl, rfl, rfl⟩ := os6 h
    exact vx_out (fun x hx => (htab x hx).elim) hlocks h9 hv hcl (fun t ht _ => ⟨b, xSame_rf, ⟨by decide, rfl, (by rw [ht]; exact X_all hP hk), hDX _ _ _ _⟩, hS.F ht⟩) hS.2.2 (by decide) (by decide)
  · replace h := oi_f hg h
    have hP := X_all hP hk
    have hZ := hZ.kept (fun a ha _ => hk a ha)
    refine lv_aload_n hx hb dX8_present_17 rfl (lv_at hl 0 rfl) ?_
    refine xg_current hx hb hA hown aF_RX8_10 hK hP dX8_present_18 ?_
    refine lv_iload_n hx hb dX8_present_21 rfl (lv_at hl 1 rfl) ?_
    obtain ⟨r3, h4, h⟩ := obd_e h
    refine k_X2_keyAt S aM_RX8_79 ⟨Nat.le_of_ble_eq_true rfl, Nat.le_of_ble_eq_true rfl⟩ ⟨by decide, by decide⟩ (X_p_cur hP) (X_k hK) hDcur h4 hl.1 (Nat.le_of_ble_eq_true rfl) dX8_present_22 ?_
    obtain ⟨rfl, rfl, rfl, rfl, rfl, rfl⟩ := os6 h
    refine vx_ret ?_
    refine W.widen (k := 1) (n := 6) (by decide) (by decide) ?_
    exact W.iret (v := r3) hx hb hr (fun t ht hW => ⟨⟨_, b, rfl, ⟨rfl, rfl, xSame_rf⟩, (by rw [ht]; exact hP), (hDX _ _ _ _)⟩, hS.F ht⟩) hS.2.2 dX8_present_25
set_option maxHeartbeats 4000000 in
set_option maxRecDepth 100000 in
theorem c_X8_count (l : Launch) (hl0 : l.stackTraces = false) (D : va_G) (cI cF : ClassId) (b : Bf) (N : Nat) (u0 : M2) (φ : M2) (η : HT) (τ : M2) (k0 : Nat) (r0 : Int32) (u0r φr : M2) (ηr : HT) (τr : M2) (hF : G_X8_count N u0 φ η τ = some (k0, r0, u0r, φr, ηr, τr)) : vx_Met l yX8_count (wsA yX8_count cX8_count 1 (some .int)) { frames := 2, cells := 0, slots := 0, locals := 40 } (va_Pc [.ref (b 6 0)] (xP D cI cF b u0 φ η τ)) (va_Qi (fun (r : Int32) (u : Bf) => k0 = 0 ∧ r = r0 ∧ xSame b u) (fun u t => va_P D vwCl (xW cI cF u u0r φr ηr τr) t.heap ∧ va_D (fun _ => True) (xW cI cF u u0r φr ηr τr)) (xA b)) (vx_X (fun (u : Bf) => xSame b u) (fun E u t => ¬ k0 = 0 ∧ E = eOf k0 ∧ va_P D vwCl (xW cI cF u u0r φr ηr τr) t.heap ∧ va_D (fun _ => True) (xW cI cF u u0r φr ηr τr)) (xA b)) 0 0 (xA b) := by
  refine vx_ofW (cc := cX8_count) (maxL := 1) (ret := (some .int)) (by decide) rfl ?_
  intro p e s m args below meth c s₁ B hml htab hpre
  obtain ⟨rfl, hP, hK, hD0, hT, hZ⟩ := hpre
  have hx := B.exec
  have hb := B.bytes
  have hr := B.returns
  have hA : ∀ w ∈ AW, w.before _ s = true := fun w h => atoms_spec (ws := wsA yX8_count cX8_count 1 (some .int)) B.pre w (List.mem_cons_of_mem _ h)
  have hown : s.vm.findClass RX8 = some m.cls := findClass_of_methodNamed B.named
  have hlocks := B.notSynchronized
  have hDX := X_D hD0
  have hDcur := X_d_cur hD0
  have hDtho := X_d_tho hD0
  have hDtxt := X_d_txt hD0
  have hDtc := X_d_tc hD0
  have hZ0 := hZ
  have hS : va_S (xA b) s.heap s.heap [] := va_S.rf
  have S : CallFix p m c cX8_count 1 s ([.ref (b 6 0)] : List Value).toArray AW RX8 := ⟨hx, hb, hml, hown, hA⟩
  have hl := lv_entry ([.ref (b 6 0)]) (n := 1) (Nat.le_of_ble_eq_true rfl)
  rw [lg_entry_eq]
  generalize (lg_sl ([.ref (b 6 0)]) ++ List.replicate (1 - (lg_sl ([.ref (b 6 0)])).length) Slot.unset).toArray = ls at hl ⊢
  have hl : lv_has ls 1 [(0, .ref (b 6 0))] := hl
  have h := hF
  unfold G_X8_count at h
  refine lv_aload_n hx hb dX8_count_0 rfl (lv_at hl 0 rfl) ?_
  refine xg_current hx hb hA hown aF_RX8_10 hK hP dX8_count_1 ?_
  refine k_X2_keyCount S aM_RX8_67 ⟨Nat.le_of_ble_eq_true rfl, Nat.le_of_ble_eq_true rfl⟩ ⟨by decide, by decide⟩ (X_p_cur hP) (X_k hK) hDcur hl.1 (Nat.le_of_ble_eq_true rfl) dX8_count_4 (fun r1 er1 => ?_)
  replace h := olet_s er1 h
  obtain ⟨rfl, rfl, rfl, rfl, rfl, rfl⟩ := os6 h
  refine vx_ret ?_
  refine W.widen (k := 0) (n := 0) (by decide) (by decide) ?_
  exact W.iret (v := r1) hx hb hr (fun t ht hW => ⟨⟨_, b, rfl, ⟨rfl, rfl, xSame_rf⟩, (by rw [ht]; exact hP), (hDX _ _ _ _)⟩, hS.F ht⟩) hS.2.2 dX8_count_7
set_option maxHeartbeats 4000000 in
set_option maxRecDepth 100000 in
theorem c_X8_add (l : Launch) (hl0 : l.stackTraces = false) (D : va_G) (cI cF : ClassId) (b : Bf) (N : Nat) (u0 : M2) (φ : M2) (η : HT) (τ : M2) (p1 : Int32) (k0 : Nat) (r0 : Int32) (u0r φr : M2) (ηr : HT) (τr : M2) (hF : G_X8_add N u0 φ η τ p1 = some (k0, r0, u0r, φr, ηr, τr)) : vx_Met l yX8_add (wsA yX8_add cX8_add 2 (some .int)) { frames := 8, cells := 2, slots := 12, locals := 124 } (va_Pc [.ref (b 6 0), .int p1] (xP D cI cF b u0 φ η τ)) (va_Qi (fun (r : Int32) (u : Bf) => k0 = 0 ∧ r = r0 ∧ xSame b u) (fun u t => va_P D vwCl (xW cI cF u u0r φr ηr τr) t.heap ∧ va_D (fun _ => True) (xW cI cF u u0r φr ηr τr)) (xA b)) (vx_X (fun (u : Bf) => xSame b u) (fun E u t => ¬ k0 = 0 ∧ E = eOf k0 ∧ va_P D vwCl (xW cI cF u u0r φr ηr τr) t.heap ∧ va_D (fun _ => True) (xW cI cF u u0r φr ηr τr)) (xA b)) 2 12 (xA b) := by
  refine vx_ofW (cc := cX8_add) (maxL := 2) (ret := (some .int)) (by decide) rfl ?_
  intro p e s m args below meth c s₁ B hml htab hpre
  obtain ⟨rfl, hP, hK, hD0, hT, hZ⟩ := hpre
  have hx := B.exec
  have hb := B.bytes
  have hr := B.returns
  have hA : ∀ w ∈ AW, w.before _ s = true := fun w h => atoms_spec (ws := wsA yX8_add cX8_add 2 (some .int)) B.pre w (List.mem_cons_of_mem _ h)
  have hown : s.vm.findClass RX8 = some m.cls := findClass_of_methodNamed B.named
  have hlocks := B.notSynchronized
  have hDX := X_D hD0
  have hDcur := X_d_cur hD0
  have hDtho := X_d_tho hD0
  have hDtxt := X_d_txt hD0
  have hDtc := X_d_tc hD0
  have hZ0 := hZ
  have hS : va_S (xA b) s.heap s.heap [] := va_S.rf
  have S : CallFix p m c cX8_add 2 s ([.ref (b 6 0), .int p1] : List Value).toArray AW RX8 := ⟨hx, hb, hml, hown, hA⟩
  have hl := lv_entry ([.ref (b 6 0), .int p1]) (n := 2) (Nat.le_of_ble_eq_true rfl)
  rw [lg_entry_eq]
  generalize (lg_sl ([.ref (b 6 0), .int p1]) ++ List.replicate (2 - (lg_sl ([.ref (b 6 0), .int p1])).length) Slot.unset).toArray = ls at hl ⊢
  have hl : lv_has ls 2 [(0, .ref (b 6 0)), (1, .int p1)] := hl
  have h := hF
  unfold G_X8_add at h
  refine lv_iload_n hx hb dX8_add_0 rfl (lv_at hl 1 rfl) ?_
  refine fx_chk (n := 1) (As := [.int p1]) S (c_X8_checkKey l hl0 (xA b) p1) hT hZ hS aM_RX8_33 aS_X8_checkKey aN_RX8 aC_X8_checkKey rfl rfl (by decide +kernel) rfl ⟨Nat.le_of_ble_eq_true rfl, Nat.le_of_ble_eq_true rfl⟩ ⟨by decide, by decide⟩ hl.1 (Nat.le_of_ble_eq_true rfl) dX8_add_1 (fun hg ce q9 H locs hk hz hS h9 hv hcl => ?_) (fun hg H locs hk hz hS => ?_)
  · replace h := oi_t hg h
    obtain ⟨rfl, rfl, rfl, rfl, rfl, rfl⟩ := os6 h
    exact vx_out (fun x hx => (htab x hx).elim) hlocks h9 hv hcl (fun t ht _ => ⟨b, xSame_rf, ⟨by decide, rfl, (by rw [ht]; exact X_all hP hk), hDX _ _ _ _⟩, hS.F ht⟩) hS.2.2 (by decide) (by decide)
  · replace h := oi_f hg h
    have hP := X_all hP hk
    have hZ := hZ.kept (fun a ha _ => hk a ha)
    refine lv_aload_n hx hb dX8_add_4 rfl (lv_at hl 0 rfl) ?_
    refine xg_thought hx hb hA hown aF_RX8_16 hK hP dX8_add_5 ?_
    refine lv_aload_n hx hb dX8_add_8 rfl (lv_at hl 0 rfl) ?_
    refine xg_current hx hb hA hown aF_RX8_10 hK hP dX8_add_9 ?_
    obtain ⟨w1, h2, h⟩ := obd_e h
    refine fx_runVv (n := 1) (C := RX2) (As := [.ref (b 0 0)]) S (c_X2_copyFrom l D cI (xPa (b 1) (b 0)) N (xPm φ u0) w1 h2) (P_pre (q0 := 0) (ci := 0) (X_k hK) (X_p_tc hP) (hDtc _) rfl rfl) hS (fun q h => X_a_tc h) aM_RX8_82 aI_X2_copyFrom aV_X2_copyFrom aN_RX2 aC_X2_copyFrom rfl rfl (by decide +kernel) rfl ⟨Nat.le_of_ble_eq_true rfl, Nat.le_of_ble_eq_true rfl⟩ ⟨by decide, by decide⟩ hl.1 (Nat.le_of_ble_eq_true rfl) dX8_add_12 (fun _ t H locs ht _ hB hk hz hS => ?_)
    have hP := X_set_tc hP (hDX _ _ _ _) hk (by rw [← ht]; exact hB)
    have hZ := hZ.kept (fun a ha hn => hk a ha (fun z => hn (X_a_tc z)))
    obtain ⟨u3, eu3⟩ : ∃ u3, u3 = xsh w1 := ⟨_, rfl⟩
    rw [← eu3] at hP
    replace h := olet_s eu3 h
    refine lv_aload_n hx hb dX8_add_15 rfl (lv_at hl 0 rfl) ?_
    refine lv_aload_n hx hb dX8_add_16 rfl (lv_at hl 0 rfl) ?_
    refine xg_thought hx hb hA hown aF_RX8_16 hK hP dX8_add_17 ?_
    refine lv_iload_n hx hb dX8_add_20 rfl (lv_at hl 1 rfl) ?_
    obtain ⟨r6, w4, h5, h⟩ := obd2_e h
    refine fx_runVi (n := 1) (C := RX2) (As := [.int p1]) S (c_X2_addKey l D cI (b 1) N w1 p1 r6 w4 h5) (F_pre (q0 := 0) (ci := 0) (X_k hK) (X_p_tho hP) (hDtho _) rfl rfl) hS (fun q h => X_a_tho h) aM_RX8_86 aI_X2_addKey aV_X2_addKey aN_RX2 aC_X2_addKey rfl rfl (by decide +kernel) rfl ⟨Nat.le_of_ble_eq_true rfl, Nat.le_of_ble_eq_true rfl⟩ ⟨by decide, by decide⟩ hl.1 (Nat.le_of_ble_eq_true rfl) dX8_add_21 (fun rr _ t H locs ht hr hB hk hz hS => ?_)
    replace hr := hr.symm
    subst hr
    have hP := X_set_tho hP (hDX _ _ _ _) hk (by rw [← ht]; exact hB)
    have hZ := hZ.kept (fun a ha hn => hk a ha (fun z => hn (X_a_tho z)))
    by_cases hc : r6 = -1
    · replace h := oi_t hc h
      obtain ⟨rfl, rfl, rfl, rfl, rfl, rfl⟩ := os6 h
      refine kx_accIf_t S hl0 aM_RX8_89 ⟨Nat.le_of_ble_eq_true rfl, Nat.le_of_ble_eq_true rfl⟩ ⟨by decide, by decide⟩ hP hK (hDX _ _ _ _) hT hZ hS hc hl.1 (Nat.le_of_ble_eq_true rfl) dX8_add_24 (fun ce q9 H locs hk hz hS h9 hv hcl => ?_)
      exact vx_out (fun x hx => (htab x hx).elim) hlocks h9 hv hcl (fun t ht _ => ⟨b, xSame_rf, ⟨by decide, rfl, (by rw [ht]; exact X_all hP hk), hDX _ _ _ _⟩, hS.F ht⟩) hS.2.2 (by decide) (by decide)
    · replace h := oi_f hc h
      obtain ⟨w7, w8, e9, h10, h⟩ := obd3_e h
      refine kx_accIf_f S hl0 aM_RX8_89 ⟨Nat.le_of_ble_eq_true rfl, Nat.le_of_ble_eq_true rfl⟩ ⟨by decide, by decide⟩ hP hK (hDX _ _ _ _) hT hZ hS hc h10 hl.1 (Nat.le_of_ble_eq_true rfl) dX8_add_24 (fun u H locs hsm hP hDu hS => ?_)
      obtain ⟨rfl, rfl, rfl, rfl, rfl, rfl⟩ := os6 h
      refine vx_ret ?_
      refine W.widen (k := 2) (n := 12) (by decide) (by decide) ?_
      exact W.iret (v := r6) hx hb hr (fun t ht hW => ⟨⟨_, u, rfl, ⟨rfl, rfl, hsm⟩, (by rw [ht]; exact hP), hDu⟩, hS.F ht⟩) hS.2.2 dX8_add_27
set_option maxHeartbeats 4000000 in
set_option maxRecDepth 100000 in
theorem c_X8_addShortest (l : Launch) (hl0 : l.stackTraces = false) (D : va_G) (cI cF : ClassId) (b : Bf) (N : Nat) (u0 : M2) (φ : M2) (η : HT) (τ : M2) (p1 : Int32) (k0 : Nat) (r0 : Int32) (u0r φr : M2) (ηr : HT) (τr : M2) (hF : G_X8_addShortest N u0 φ η τ p1 = some (k0, r0, u0r, φr, ηr, τr)) : vx_Met l yX8_addShortest (wsA yX8_addShortest cX8_addShortest 2 (some .int)) { frames := 8, cells := 2, slots := 12, locals := 124 } (va_Pc [.ref (b 6 0), .int p1] (xP D cI cF b u0 φ η τ)) (va_Qi (fun (r : Int32) (u : Bf) => k0 = 0 ∧ r = r0 ∧ xSame b u) (fun u t => va_P D vwCl (xW cI cF u u0r φr ηr τr) t.heap ∧ va_D (fun _ => True) (xW cI cF u u0r φr ηr τr)) (xA b)) (vx_X (fun (u : Bf) => xSame b u) (fun E u t => ¬ k0 = 0 ∧ E = eOf k0 ∧ va_P D vwCl (xW cI cF u u0r φr ηr τr) t.heap ∧ va_D (fun _ => True) (xW cI cF u u0r φr ηr τr)) (xA b)) 2 12 (xA b) := by
  refine vx_ofW (cc := cX8_addShortest) (maxL := 2) (ret := (some .int)) (by decide) rfl ?_
  intro p e s m args below meth c s₁ B hml htab hpre
  obtain ⟨rfl, hP, hK, hD0, hT, hZ⟩ := hpre
  have hx := B.exec
  have hb := B.bytes
  have hr := B.returns
  have hA : ∀ w ∈ AW, w.before _ s = true := fun w h => atoms_spec (ws := wsA yX8_addShortest cX8_addShortest 2 (some .int)) B.pre w (List.mem_cons_of_mem _ h)
  have hown : s.vm.findClass RX8 = some m.cls := findClass_of_methodNamed B.named
  have hlocks := B.notSynchronized
  have hDX := X_D hD0
  have hDcur := X_d_cur hD0
  have hDtho := X_d_tho hD0
  have hDtxt := X_d_txt hD0
  have hDtc := X_d_tc hD0
  have hZ0 := hZ
  have hS : va_S (xA b) s.heap s.heap [] := va_S.rf
  have S : CallFix p m c cX8_addShortest 2 s ([.ref (b 6 0), .int p1] : List Value).toArray AW RX8 := ⟨hx, hb, hml, hown, hA⟩
  have hl := lv_entry ([.ref (b 6 0), .int p1]) (n := 2) (Nat.le_of_ble_eq_true rfl)
  rw [lg_entry_eq]
  generalize (lg_sl ([.ref (b 6 0), .int p1]) ++ List.replicate (2 - (lg_sl ([.ref (b 6 0), .int p1])).length) Slot.unset).toArray = ls at hl ⊢
  have hl : lv_has ls 2 [(0, .ref (b 6 0)), (1, .int p1)] := hl
  have h := hF
  unfold G_X8_addShortest at h
  refine lv_iload_n hx hb dX8_addShortest_0 rfl (lv_at hl 1 rfl) ?_
  refine fx_chk (n := 1) (As := [.int p1]) S (c_X8_checkKey l hl0 (xA b) p1) hT hZ hS aM_RX8_33 aS_X8_checkKey aN_RX8 aC_X8_checkKey rfl rfl (by decide +kernel) rfl ⟨Nat.le_of_ble_eq_true rfl, Nat.le_of_ble_eq_true rfl⟩ ⟨by decide, by decide⟩ hl.1 (Nat.le_of_ble_eq_true rfl) dX8_addShortest_1 (fun hg ce q9 H locs hk hz hS h9 hv hcl => ?_) (fun hg H locs hk hz hS => ?_)
  · replace h := oi_t hg h
    obtain ⟨rfl, rfl, rfl, rfl, rfl, rfl⟩ := os6 h
    exact vx_out (fun x hx => (htab x hx).elim) hlocks h9 hv hcl (fun t ht _ => ⟨b, xSame_rf, ⟨by decide, rfl, (by rw [ht]; exact X_all hP hk), hDX _ _ _ _⟩, hS.F ht⟩) hS.2.2 (by decide) (by decide)
  · replace h := oi_f hg h
    have hP := X_all hP hk
    have hZ := hZ.kept (fun a ha _ => hk a ha)
    refine lv_aload_n hx hb dX8_addShortest_4 rfl (lv_at hl 0 rfl) ?_
    refine xg_thought hx hb hA hown aF_RX8_16 hK hP dX8_addShortest_5 ?_
    refine lv_aload_n hx hb dX8_addShortest_8 rfl (lv_at hl 0 rfl) ?_
    refine xg_current hx hb hA hown aF_RX8_10 hK hP dX8_addShortest_9 ?_
    obtain ⟨w1, h2, h⟩ := obd_e h
    refine fx_runVv (n := 1) (C := RX2) (As := [.ref (b 0 0)]) S (c_X2_copyFrom l D cI (xPa (b 1) (b 0)) N (xPm φ u0) w1 h2) (P_pre (q0 := 0) (ci := 0) (X_k hK) (X_p_tc hP) (hDtc _) rfl rfl) hS (fun q h => X_a_tc h) aM_RX8_82 aI_X2_copyFrom aV_X2_copyFrom aN_RX2 aC_X2_copyFrom rfl rfl (by decide +kernel) rfl ⟨Nat.le_of_ble_eq_true rfl, Nat.le_of_ble_eq_true rfl⟩ ⟨by decide, by decide⟩ hl.1 (Nat.le_of_ble_eq_true rfl) dX8_addShortest_12 (fun _ t H locs ht _ hB hk hz hS => ?_)
    have hP := X_set_tc hP (hDX _ _ _ _) hk (by rw [← ht]; exact hB)
    have hZ := hZ.kept (fun a ha hn => hk a ha (fun z => hn (X_a_tc z)))
    obtain ⟨u3, eu3⟩ : ∃ u3, u3 = xsh w1 := ⟨_, rfl⟩
    rw [← eu3] at hP
    replace h := olet_s eu3 h
    refine lv_aload_n hx hb dX8_addShortest_15 rfl (lv_at hl 0 rfl) ?_
    refine lv_aload_n hx hb dX8_addShortest_16 rfl (lv_at hl 0 rfl) ?_
    refine xg_thought hx hb hA hown aF_RX8_16 hK hP dX8_addShortest_17 ?_
    refine lv_iload_n hx hb dX8_addShortest_20 rfl (lv_at hl 1 rfl) ?_
    obtain ⟨r6, w4, h5, h⟩ := obd2_e h
    refine fx_runVi (n := 1) (C := RX2) (As := [.int p1]) S (c_X2_addKeyShortest l D cI (b 1) N w1 p1 r6 w4 h5) (F_pre (q0 := 0) (ci := 0) (X_k hK) (X_p_tho hP) (hDtho _) rfl rfl) hS (fun q h => X_a_tho h) aM_RX8_92 aI_X2_addKeyShortest aV_X2_addKeyShortest aN_RX2 aC_X2_addKeyShortest rfl rfl (by decide +kernel) rfl ⟨Nat.le_of_ble_eq_true rfl, Nat.le_of_ble_eq_true rfl⟩ ⟨by decide, by decide⟩ hl.1 (Nat.le_of_ble_eq_true rfl) dX8_addShortest_21 (fun rr _ t H locs ht hr hB hk hz hS => ?_)
    replace hr := hr.symm
    subst hr
    have hP := X_set_tho hP (hDX _ _ _ _) hk (by rw [← ht]; exact hB)
    have hZ := hZ.kept (fun a ha hn => hk a ha (fun z => hn (X_a_tho z)))
    by_cases hc : r6 = -1
    · replace h := oi_t hc h
      obtain ⟨rfl, rfl, rfl, rfl, rfl, rfl⟩ := os6 h
      refine kx_accIf_t S hl0 aM_RX8_89 ⟨Nat.le_of_ble_eq_true rfl, Nat.le_of_ble_eq_true rfl⟩ ⟨by decide, by decide⟩ hP hK (hDX _ _ _ _) hT hZ hS hc hl.1 (Nat.le_of_ble_eq_true rfl) dX8_addShortest_24 (fun ce q9 H locs hk hz hS h9 hv hcl => ?_)
      exact vx_out (fun x hx => (htab x hx).elim) hlocks h9 hv hcl (fun t ht _ => ⟨b, xSame_rf, ⟨by decide, rfl, (by rw [ht]; exact X_all hP hk), hDX _ _ _ _⟩, hS.F ht⟩) hS.2.2 (by decide) (by decide)
    · replace h := oi_f hc h
      obtain ⟨w7, w8, e9, h10, h⟩ := obd3_e h
      refine kx_accIf_f S hl0 aM_RX8_89 ⟨Nat.le_of_ble_eq_true rfl, Nat.le_of_ble_eq_true rfl⟩ ⟨by decide, by decide⟩ hP hK (hDX _ _ _ _) hT hZ hS hc h10 hl.1 (Nat.le_of_ble_eq_true rfl) dX8_addShortest_24 (fun u H locs hsm hP hDu hS => ?_)
      obtain ⟨rfl, rfl, rfl, rfl, rfl, rfl⟩ := os6 h
      refine vx_ret ?_
      refine W.widen (k := 2) (n := 12) (by decide) (by decide) ?_
      exact W.iret (v := r6) hx hb hr (fun t ht hW => ⟨⟨_, u, rfl, ⟨rfl, rfl, hsm⟩, (by rw [ht]; exact hP), hDu⟩, hS.F ht⟩) hS.2.2 dX8_addShortest_27
set_option maxHeartbeats 4000000 in
set_option maxRecDepth 100000 in
theorem c_X8_delete (l : Launch) (hl0 : l.stackTraces = false) (D : va_G) (cI cF : ClassId) (b : Bf) (N : Nat) (u0 : M2) (φ : M2) (η : HT) (τ : M2) (p1 : Int32) (k0 : Nat) (r0 : Int32) (u0r φr : M2) (ηr : HT) (τr : M2) (hF : G_X8_delete N u0 φ η τ p1 = some (k0, r0, u0r, φr, ηr, τr)) : vx_Met l yX8_delete (wsA yX8_delete cX8_delete 2 (some .int)) { frames := 8, cells := 2, slots := 12, locals := 124 } (va_Pc [.ref (b 6 0), .int p1] (xP D cI cF b u0 φ η τ)) (va_Qi (fun (r : Int32) (u : Bf) => k0 = 0 ∧ r = r0 ∧ xSame b u) (fun u t => va_P D vwCl (xW cI cF u u0r φr ηr τr) t.heap ∧ va_D (fun _ => True) (xW cI cF u u0r φr ηr τr)) (xA b)) (vx_X (fun (u : Bf) => xSame b u) (fun E u t => ¬ k0 = 0 ∧ E = eOf k0 ∧ va_P D vwCl (xW cI cF u u0r φr ηr τr) t.heap ∧ va_D (fun _ => True) (xW cI cF u u0r φr ηr τr)) (xA b)) 2 12 (xA b) := by
  refine vx_ofW (cc := cX8_delete) (maxL := 2) (ret := (some .int)) (by decide) rfl ?_
  intro p e s m args below meth c s₁ B hml htab hpre
  obtain ⟨rfl, hP, hK, hD0, hT, hZ⟩ := hpre
  have hx := B.exec
  have hb := B.bytes
  have hr := B.returns
  have hA : ∀ w ∈ AW, w.before _ s = true := fun w h => atoms_spec (ws := wsA yX8_delete cX8_delete 2 (some .int)) B.pre w (List.mem_cons_of_mem _ h)
  have hown : s.vm.findClass RX8 = some m.cls := findClass_of_methodNamed B.named
  have hlocks := B.notSynchronized
  have hDX := X_D hD0
  have hDcur := X_d_cur hD0
  have hDtho := X_d_tho hD0
  have hDtxt := X_d_txt hD0
  have hDtc := X_d_tc hD0
  have hZ0 := hZ
  have hS : va_S (xA b) s.heap s.heap [] := va_S.rf
  have S : CallFix p m c cX8_delete 2 s ([.ref (b 6 0), .int p1] : List Value).toArray AW RX8 := ⟨hx, hb, hml, hown, hA⟩
  have hl := lv_entry ([.ref (b 6 0), .int p1]) (n := 2) (Nat.le_of_ble_eq_true rfl)
  rw [lg_entry_eq]
  generalize (lg_sl ([.ref (b 6 0), .int p1]) ++ List.replicate (2 - (lg_sl ([.ref (b 6 0), .int p1])).length) Slot.unset).toArray = ls at hl ⊢
  have hl : lv_has ls 2 [(0, .ref (b 6 0)), (1, .int p1)] := hl
  have h := hF
  unfold G_X8_delete at h
  refine lv_iload_n hx hb dX8_delete_0 rfl (lv_at hl 1 rfl) ?_
  refine fx_chk (n := 1) (As := [.int p1]) S (c_X8_checkKey l hl0 (xA b) p1) hT hZ hS aM_RX8_33 aS_X8_checkKey aN_RX8 aC_X8_checkKey rfl rfl (by decide +kernel) rfl ⟨Nat.le_of_ble_eq_true rfl, Nat.le_of_ble_eq_true rfl⟩ ⟨by decide, by decide⟩ hl.1 (Nat.le_of_ble_eq_true rfl) dX8_delete_1 (fun hg ce q9 H locs hk hz hS h9 hv hcl => ?_) (fun hg H locs hk hz hS => ?_)
  · replace h := oi_t hg h
    obtain ⟨rfl, rfl, rfl, rfl, rfl, rfl⟩ := os6 h
    exact vx_out (fun x hx => (htab x hx).elim) hlocks h9 hv hcl (fun t ht _ => ⟨b, xSame_rf, ⟨by decide, rfl, (by rw [ht]; exact X_all hP hk), hDX _ _ _ _⟩, hS.F ht⟩) hS.2.2 (by decide) (by decide)
  · replace h := oi_f hg h
    have hP := X_all hP hk
    have hZ := hZ.kept (fun a ha _ => hk a ha)
    refine lv_aload_n hx hb dX8_delete_4 rfl (lv_at hl 0 rfl) ?_
    refine xg_thought hx hb hA hown aF_RX8_16 hK hP dX8_delete_5 ?_
    refine lv_aload_n hx hb dX8_delete_8 rfl (lv_at hl 0 rfl) ?_
    refine xg_current hx hb hA hown aF_RX8_10 hK hP dX8_delete_9 ?_
    obtain ⟨w1, h2, h⟩ := obd_e h
    refine fx_runVv (n := 1) (C := RX2) (As := [.ref (b 0 0)]) S (c_X2_copyFrom l D cI (xPa (b 1) (b 0)) N (xPm φ u0) w1 h2) (P_pre (q0 := 0) (ci := 0) (X_k hK) (X_p_tc hP) (hDtc _) rfl rfl) hS (fun q h => X_a_tc h) aM_RX8_82 aI_X2_copyFrom aV_X2_copyFrom aN_RX2 aC_X2_copyFrom rfl rfl (by decide +kernel) rfl ⟨Nat.le_of_ble_eq_true rfl, Nat.le_of_ble_eq_true rfl⟩ ⟨by decide, by decide⟩ hl.1 (Nat.le_of_ble_eq_true rfl) dX8_delete_12 (fun _ t H locs ht _ hB hk hz hS => ?_)
    have hP := X_set_tc hP (hDX _ _ _ _) hk (by rw [← ht]; exact hB)
    have hZ := hZ.kept (fun a ha hn => hk a ha (fun z => hn (X_a_tc z)))
    obtain ⟨u3, eu3⟩ : ∃ u3, u3 = xsh w1 := ⟨_, rfl⟩
    rw [← eu3] at hP
    replace h := olet_s eu3 h
    refine lv_aload_n hx hb dX8_delete_15 rfl (lv_at hl 0 rfl) ?_
    refine lv_aload_n hx hb dX8_delete_16 rfl (lv_at hl 0 rfl) ?_
    refine xg_thought hx hb hA hown aF_RX8_16 hK hP dX8_delete_17 ?_
    refine lv_iload_n hx hb dX8_delete_20 rfl (lv_at hl 1 rfl) ?_
    obtain ⟨r6, w4, h5, h⟩ := obd2_e h
    refine fx_runVi (n := 1) (C := RX2) (As := [.int p1]) S (c_X2_deleteKey l D cI (b 1) N w1 p1 r6 w4 h5) (F_pre (q0 := 0) (ci := 0) (X_k hK) (X_p_tho hP) (hDtho _) rfl rfl) hS (fun q h => X_a_tho h) aM_RX8_95 aI_X2_deleteKey aV_X2_deleteKey aN_RX2 aC_X2_deleteKey rfl rfl (by decide +kernel) rfl ⟨Nat.le_of_ble_eq_true rfl, Nat.le_of_ble_eq_true rfl⟩ ⟨by decide, by decide⟩ hl.1 (Nat.le_of_ble_eq_true rfl) dX8_delete_21 (fun rr _ t H locs ht hr hB hk hz hS => ?_)
    replace hr := hr.symm
    subst hr
    have hP := X_set_tho hP (hDX _ _ _ _) hk (by rw [← ht]; exact hB)
    have hZ := hZ.kept (fun a ha hn => hk a ha (fun z => hn (X_a_tho z)))
    by_cases hc : r6 = -1
    · replace h := oi_t hc h
      obtain ⟨rfl, rfl, rfl, rfl, rfl, rfl⟩ := os6 h
      refine kx_accIf_t S hl0 aM_RX8_89 ⟨Nat.le_of_ble_eq_true rfl, Nat.le_of_ble_eq_true rfl⟩ ⟨by decide, by decide⟩ hP hK (hDX _ _ _ _) hT hZ hS hc hl.1 (Nat.le_of_ble_eq_true rfl) dX8_delete_24 (fun ce q9 H locs hk hz hS h9 hv hcl => ?_)
      exact vx_out (fun x hx => (htab x hx).elim) hlocks h9 hv hcl (fun t ht _ => ⟨b, xSame_rf, ⟨by decide, rfl, (by rw [ht]; exact X_all hP hk), hDX _ _ _ _⟩, hS.F ht⟩) hS.2.2 (by decide) (by decide)
    · replace h := oi_f hc h
      obtain ⟨w7, w8, e9, h10, h⟩ := obd3_e h
      refine kx_accIf_f S hl0 aM_RX8_89 ⟨Nat.le_of_ble_eq_true rfl, Nat.le_of_ble_eq_true rfl⟩ ⟨by decide, by decide⟩ hP hK (hDX _ _ _ _) hT hZ hS hc h10 hl.1 (Nat.le_of_ble_eq_true rfl) dX8_delete_24 (fun u H locs hsm hP hDu hS => ?_)
      obtain ⟨rfl, rfl, rfl, rfl, rfl, rfl⟩ := os6 h
      refine vx_ret ?_
      refine W.widen (k := 2) (n := 12) (by decide) (by decide) ?_
      exact W.iret (v := r6) hx hb hr (fun t ht hW => ⟨⟨_, u, rfl, ⟨rfl, rfl, hsm⟩, (by rw [ht]; exact hP), hDu⟩, hS.F ht⟩) hS.2.2 dX8_delete_27
set_option maxHeartbeats 4000000 in
set_option maxRecDepth 100000 in
theorem c_X8_grow (l : Launch) (hl0 : l.stackTraces = false) (D : va_G) (cI cF : ClassId) (b : Bf) (N : Nat) (u0 : M2) (φ : M2) (η : HT) (τ : M2) (k0 : Nat) (r0 : Int32) (u0r φr : M2) (ηr : HT) (τr : M2) (hF : G_X8_grow N u0 φ η τ = some (k0, r0, u0r, φr, ηr, τr)) : vx_Met l yX8_grow (wsA yX8_grow cX8_grow 1 (some .int)) { frames := 7, cells := 1, slots := 6, locals := 124 } (va_Pc [.ref (b 6 0)] (xP D cI cF b u0 φ η τ)) (va_Qi (fun (r : Int32) (u : Bf) => k0 = 0 ∧ r = r0 ∧ xSame b u) (fun u t => va_P D vwCl (xW cI cF u u0r φr ηr τr) t.heap ∧ va_D (fun _ => True) (xW cI cF u u0r φr ηr τr)) (xA b)) (vx_X (fun (u : Bf) => xSame b u) (fun E u t => ¬ k0 = 0 ∧ E = eOf k0 ∧ va_P D vwCl (xW cI cF u u0r φr ηr τr) t.heap ∧ va_D (fun _ => True) (xW cI cF u u0r φr ηr τr)) (xA b)) 1 6 (xA b) := by
  refine vx_ofW (cc := cX8_grow) (maxL := 1) (ret := (some .int)) (by decide) rfl ?_
  intro p e s m args below meth c s₁ B hml htab hpre
  obtain ⟨rfl, hP, hK, hD0, hT, hZ⟩ := hpre
  have hx := B.exec
  have hb := B.bytes
  have hr := B.returns
  have hA : ∀ w ∈ AW, w.before _ s = true := fun w h => atoms_spec (ws := wsA yX8_grow cX8_grow 1 (some .int)) B.pre w (List.mem_cons_of_mem _ h)
  have hown : s.vm.findClass RX8 = some m.cls := findClass_of_methodNamed B.named
  have hlocks := B.notSynchronized
  have hDX := X_D hD0
  have hDcur := X_d_cur hD0
  have hDtho := X_d_tho hD0
  have hDtxt := X_d_txt hD0
  have hDtc := X_d_tc hD0
  have hZ0 := hZ
  have hS : va_S (xA b) s.heap s.heap [] := va_S.rf
  have S : CallFix p m c cX8_grow 1 s ([.ref (b 6 0)] : List Value).toArray AW RX8 := ⟨hx, hb, hml, hown, hA⟩
  have hl := lv_entry ([.ref (b 6 0)]) (n := 1) (Nat.le_of_ble_eq_true rfl)
  rw [lg_entry_eq]
  generalize (lg_sl ([.ref (b 6 0)]) ++ List.replicate (1 - (lg_sl ([.ref (b 6 0)])).length) Slot.unset).toArray = ls at hl ⊢
  have hl : lv_has ls 1 [(0, .ref (b 6 0))] := hl
  have h := hF
  unfold G_X8_grow at h
  refine lv_aload_n hx hb dX8_grow_0 rfl (lv_at hl 0 rfl) ?_
  refine xg_thought hx hb hA hown aF_RX8_16 hK hP dX8_grow_1 ?_
  refine lv_aload_n hx hb dX8_grow_4 rfl (lv_at hl 0 rfl) ?_
  refine xg_current hx hb hA hown aF_RX8_10 hK hP dX8_grow_5 ?_
  obtain ⟨w1, h2, h⟩ := obd_e h
  refine fx_runVv (n := 1) (C := RX2) (As := [.ref (b 0 0)]) S (c_X2_copyFrom l D cI (xPa (b 1) (b 0)) N (xPm φ u0) w1 h2) (P_pre (q0 := 0) (ci := 0) (X_k hK) (X_p_tc hP) (hDtc _) rfl rfl) hS (fun q h => X_a_tc h) aM_RX8_82 aI_X2_copyFrom aV_X2_copyFrom aN_RX2 aC_X2_copyFrom rfl rfl (by decide +kernel) rfl ⟨Nat.le_of_ble_eq_true rfl, Nat.le_of_ble_eq_true rfl⟩ ⟨by decide, by decide⟩ hl.1 (Nat.le_of_ble_eq_true rfl) dX8_grow_8 (fun _ t H locs ht _ hB hk hz hS => ?_)
  have hP := X_set_tc hP (hDX _ _ _ _) hk (by rw [← ht]; exact hB)
  have hZ := hZ.kept (fun a ha hn => hk a ha (fun z => hn (X_a_tc z)))
  obtain ⟨u3, eu3⟩ : ∃ u3, u3 = xsh w1 := ⟨_, rfl⟩
  rw [← eu3] at hP
  replace h := olet_s eu3 h
  refine lv_aload_n hx hb dX8_grow_11 rfl (lv_at hl 0 rfl) ?_
  refine lv_aload_n hx hb dX8_grow_12 rfl (lv_at hl 0 rfl) ?_
  refine xg_thought hx hb hA hown aF_RX8_16 hK hP dX8_grow_13 ?_
  obtain ⟨r6, w4, h5, h⟩ := obd2_e h
  refine fx_runVi (n := 0) (C := RX2) (As := []) S (c_X2_doubleBuckets l D cI (b 1) N w1 r6 w4 h5) (F_pre (q0 := 0) (ci := 0) (X_k hK) (X_p_tho hP) (hDtho _) rfl rfl) hS (fun q h => X_a_tho h) aM_RX8_98 aI_X2_doubleBuckets aV_X2_doubleBuckets aN_RX2 aC_X2_doubleBuckets rfl rfl (by decide +kernel) rfl ⟨Nat.le_of_ble_eq_true rfl, Nat.le_of_ble_eq_true rfl⟩ ⟨by decide, by decide⟩ hl.1 (Nat.le_of_ble_eq_true rfl) dX8_grow_16 (fun rr _ t H locs ht hr hB hk hz hS => ?_)
  replace hr := hr.symm
  subst hr
  have hP := X_set_tho hP (hDX _ _ _ _) hk (by rw [← ht]; exact hB)
  have hZ := hZ.kept (fun a ha hn => hk a ha (fun z => hn (X_a_tho z)))
  by_cases hc : r6 = -1
  · replace h := oi_t hc h
    obtain ⟨rfl, rfl, rfl, rfl, rfl, rfl⟩ := os6 h
    refine kx_accIf_t S hl0 aM_RX8_89 ⟨Nat.le_of_ble_eq_true rfl, Nat.le_of_ble_eq_true rfl⟩ ⟨by decide, by decide⟩ hP hK (hDX _ _ _ _) hT hZ hS hc hl.1 (Nat.le_of_ble_eq_true rfl) dX8_grow_19 (fun ce q9 H locs hk hz hS h9 hv hcl => ?_)
    exact vx_out (fun x hx => (htab x hx).elim) hlocks h9 hv hcl (fun t ht _ => ⟨b, xSame_rf, ⟨by decide, rfl, (by rw [ht]; exact X_all hP hk), hDX _ _ _ _⟩, hS.F ht⟩) hS.2.2 (by decide) (by decide)
  · replace h := oi_f hc h
    obtain ⟨w7, w8, e9, h10, h⟩ := obd3_e h
    refine kx_accIf_f S hl0 aM_RX8_89 ⟨Nat.le_of_ble_eq_true rfl, Nat.le_of_ble_eq_true rfl⟩ ⟨by decide, by decide⟩ hP hK (hDX _ _ _ _) hT hZ hS hc h10 hl.1 (Nat.le_of_ble_eq_true rfl) dX8_grow_19 (fun u H locs hsm hP hDu hS => ?_)
    obtain ⟨rfl, rfl, rfl, rfl, rfl, rfl⟩ := os6 h
    refine vx_ret ?_
    refine W.widen (k := 1) (n := 6) (by decide) (by decide) ?_
    exact W.iret (v := r6) hx hb hr (fun t ht hW => ⟨⟨_, u, rfl, ⟨rfl, rfl, hsm⟩, (by rw [ht]; exact hP), hDu⟩, hS.F ht⟩) hS.2.2 dX8_grow_22
set_option maxHeartbeats 4000000 in
set_option maxRecDepth 100000 in
theorem c_X8_rebuild (l : Launch) (hl0 : l.stackTraces = false) (D : va_G) (cI cF : ClassId) (b : Bf) (N : Nat) (u0 : M2) (φ : M2) (η : HT) (τ : M2) (p1 : Int32) (p2 : Int32) (p3 : Int32) (p4 : Int32) (k0 : Nat) (r0 : Int32) (u0r φr : M2) (ηr : HT) (τr : M2) (hF : G_X8_rebuild N u0 φ η τ p1 p2 p3 p4 = some (k0, r0, u0r, φr, ηr, τr)) : vx_Met l yX8_rebuild (wsA yX8_rebuild cX8_rebuild 6 (some .int)) { frames := 7, cells := 5, slots := 30, locals := 124 } (va_Pc [.ref (b 6 0), .int p1, .int p2, .int p3, .int p4] (xP D cI cF b u0 φ η τ)) (va_Qi (fun (r : Int32) (u : Bf) => k0 = 0 ∧ r = r0 ∧ xSame b u) (fun u t => va_P D vwCl (xW cI cF u u0r φr ηr τr) t.heap ∧ va_D (fun _ => True) (xW cI cF u u0r φr ηr τr)) (xA b)) (vx_X (fun (u : Bf) => xSame b u) (fun E u t => ¬ k0 = 0 ∧ E = eOf k0 ∧ va_P D vwCl (xW cI cF u u0r φr ηr τr) t.heap ∧ va_D (fun _ => True) (xW cI cF u u0r φr ηr τr)) (xA b)) 5 30 (xA b) := by
  refine vx_ofW (cc := cX8_rebuild) (maxL := 6) (ret := (some .int)) (by decide) rfl ?_
  intro p e s m args below meth c s₁ B hml htab hpre
  obtain ⟨rfl, hP, hK, hD0, hT, hZ⟩ := hpre
  have hx := B.exec
  have hb := B.bytes
  have hr := B.returns
  have hA : ∀ w ∈ AW, w.before _ s = true := fun w h => atoms_spec (ws := wsA yX8_rebuild cX8_rebuild 6 (some .int)) B.pre w (List.mem_cons_of_mem _ h)
  have hown : s.vm.findClass RX8 = some m.cls := findClass_of_methodNamed B.named
  have hlocks := B.notSynchronized
  have hDX := X_D hD0
  have hDcur := X_d_cur hD0
  have hDtho := X_d_tho hD0
  have hDtxt := X_d_txt hD0
  have hDtc := X_d_tc hD0
  have hZ0 := hZ
  have hS : va_S (xA b) s.heap s.heap [] := va_S.rf
  have S : CallFix p m c cX8_rebuild 6 s ([.ref (b 6 0), .int p1, .int p2, .int p3, .int p4] : List Value).toArray AW RX8 := ⟨hx, hb, hml, hown, hA⟩
  have hl := lv_entry ([.ref (b 6 0), .int p1, .int p2, .int p3, .int p4]) (n := 6) (Nat.le_of_ble_eq_true rfl)
  rw [lg_entry_eq]
  generalize (lg_sl ([.ref (b 6 0), .int p1, .int p2, .int p3, .int p4]) ++ List.replicate (6 - (lg_sl ([.ref (b 6 0), .int p1, .int p2, .int p3, .int p4])).length) Slot.unset).toArray = ls at hl ⊢
  have hl : lv_has ls 6 [(0, .ref (b 6 0)), (1, .int p1), (2, .int p2), (3, .int p3), (4, .int p4)] := hl
  have h := hF
  unfold G_X8_rebuild at h
  refine lv_iload_n hx hb dX8_rebuild_0 rfl (lv_at hl 1 rfl) ?_
  refine lv_iconst (v := 1) hx hb dX8_rebuild_1 (by decide) ?_
  refine lv_bipush (v := 6) hx hb dX8_rebuild_2 (by decide) ?_
  refine k_X8_within S aM_RX8_71 ⟨Nat.le_of_ble_eq_true rfl, Nat.le_of_ble_eq_true rfl⟩ ⟨by decide, by decide⟩ hl.1 (Nat.le_of_ble_eq_true rfl) dX8_rebuild_4 (fun r1 er1 br1 => ?_)
  replace h := olet_s er1 h
  refine fx_chk (n := 1) (As := [.int r1]) S (c_X8_checkArgument l hl0 (xA b) r1) hT hZ hS aM_RX8_101 aS_X8_checkArgument aN_RX8 aC_X8_checkArgument rfl rfl (by decide +kernel) rfl ⟨Nat.le_of_ble_eq_true rfl, Nat.le_of_ble_eq_true rfl⟩ ⟨by decide, by decide⟩ hl.1 (Nat.le_of_ble_eq_true rfl) dX8_rebuild_7 (fun hg ce q9 H locs hk hz hS h9 hv hcl => ?_) (fun hg H locs hk hz hS => ?_)
  · replace h := oi_t hg h
    obtain ⟨rfl, rfl, rfl, rfl, rfl, rfl⟩ := os6 h
    exact vx_out (fun x hx => (htab x hx).elim) hlocks h9 hv hcl (fun t ht _ => ⟨b, xSame_rf, ⟨by decide, rfl, (by rw [ht]; exact X_all hP hk), hDX _ _ _ _⟩, hS.F ht⟩) hS.2.2 (by decide) (by decide)
  · replace h := oi_f hg h
    have hP := X_all hP hk
    have hZ := hZ.kept (fun a ha _ => hk a ha)
    refine lv_iload_n hx hb dX8_rebuild_10 rfl (lv_at hl 2 rfl) ?_
    refine lv_iconst (v := 1) hx hb dX8_rebuild_11 (by decide) ?_
    refine lv_iconst (v := 4) hx hb dX8_rebuild_12 (by decide) ?_
    refine k_X8_within S aM_RX8_71 ⟨Nat.le_of_ble_eq_true rfl, Nat.le_of_ble_eq_true rfl⟩ ⟨by decide, by decide⟩ hl.1 (Nat.le_of_ble_eq_true rfl) dX8_rebuild_13 (fun r2 er2 br2 => ?_)
    replace h := olet_s er2 h
    refine fx_chk (n := 1) (As := [.int r2]) S (c_X8_checkArgument l hl0 (xA b) r2) hT hZ hS aM_RX8_101 aS_X8_checkArgument aN_RX8 aC_X8_checkArgument rfl rfl (by decide +kernel) rfl ⟨Nat.le_of_ble_eq_true rfl, Nat.le_of_ble_eq_true rfl⟩ ⟨by decide, by decide⟩ hl.1 (Nat.le_of_ble_eq_true rfl) dX8_rebuild_16 (fun hg ce q9 H locs hk hz hS h9 hv hcl => ?_) (fun hg H locs hk hz hS => ?_)
    · replace h := oi_t hg h
      obtain ⟨rfl, rfl, rfl, rfl, rfl, rfl⟩ := os6 h
      exact vx_out (fun x hx => (htab x hx).elim) hlocks h9 hv hcl (fun t ht _ => ⟨b, xSame_rf, ⟨by decide, rfl, (by rw [ht]; exact X_all hP hk), hDX _ _ _ _⟩, hS.F ht⟩) hS.2.2 (by decide) (by decide)
    · replace h := oi_f hg h
      have hP := X_all hP hk
      have hZ := hZ.kept (fun a ha _ => hk a ha)
      refine lv_iload_n hx hb dX8_rebuild_19 rfl (lv_at hl 3 rfl) ?_
      refine lv_iconst (v := 1) hx hb dX8_rebuild_20 (by decide) ?_
      refine lv_bipush (v := 8) hx hb dX8_rebuild_21 (by decide) ?_
      refine k_X8_within S aM_RX8_71 ⟨Nat.le_of_ble_eq_true rfl, Nat.le_of_ble_eq_true rfl⟩ ⟨by decide, by decide⟩ hl.1 (Nat.le_of_ble_eq_true rfl) dX8_rebuild_23 (fun r3 er3 br3 => ?_)
      replace h := olet_s er3 h
      refine fx_chk (n := 1) (As := [.int r3]) S (c_X8_checkArgument l hl0 (xA b) r3) hT hZ hS aM_RX8_101 aS_X8_checkArgument aN_RX8 aC_X8_checkArgument rfl rfl (by decide +kernel) rfl ⟨Nat.le_of_ble_eq_true rfl, Nat.le_of_ble_eq_true rfl⟩ ⟨by decide, by decide⟩ hl.1 (Nat.le_of_ble_eq_true rfl) dX8_rebuild_26 (fun hg ce q9 H locs hk hz hS h9 hv hcl => ?_) (fun hg H locs hk hz hS => ?_)
      · replace h := oi_t hg h
        obtain ⟨rfl, rfl, rfl, rfl, rfl, rfl⟩ := os6 h
        exact vx_out (fun x hx => (htab x hx).elim) hlocks h9 hv hcl (fun t ht _ => ⟨b, xSame_rf, ⟨by decide, rfl, (by rw [ht]; exact X_all hP hk), hDX _ _ _ _⟩, hS.F ht⟩) hS.2.2 (by decide) (by decide)
      · replace h := oi_f hg h
        have hP := X_all hP hk
        have hZ := hZ.kept (fun a ha _ => hk a ha)
        refine lv_iload hx hb dX8_rebuild_29 (lv_at hl 4 rfl) ?_
        refine lv_iconst (v := 0) hx hb dX8_rebuild_31 (by decide) ?_
        refine lv_bipush (v := 99) hx hb dX8_rebuild_32 (by decide) ?_
        refine k_X8_within S aM_RX8_71 ⟨Nat.le_of_ble_eq_true rfl, Nat.le_of_ble_eq_true rfl⟩ ⟨by decide, by decide⟩ hl.1 (Nat.le_of_ble_eq_true rfl) dX8_rebuild_34 (fun r4 er4 br4 => ?_)
        replace h := olet_s er4 h
        refine fx_chk (n := 1) (As := [.int r4]) S (c_X8_checkArgument l hl0 (xA b) r4) hT hZ hS aM_RX8_101 aS_X8_checkArgument aN_RX8 aC_X8_checkArgument rfl rfl (by decide +kernel) rfl ⟨Nat.le_of_ble_eq_true rfl, Nat.le_of_ble_eq_true rfl⟩ ⟨by decide, by decide⟩ hl.1 (Nat.le_of_ble_eq_true rfl) dX8_rebuild_37 (fun hg ce q9 H locs hk hz hS h9 hv hcl => ?_) (fun hg H locs hk hz hS => ?_)
        · replace h := oi_t hg h
          obtain ⟨rfl, rfl, rfl, rfl, rfl, rfl⟩ := os6 h
          exact vx_out (fun x hx => (htab x hx).elim) hlocks h9 hv hcl (fun t ht _ => ⟨b, xSame_rf, ⟨by decide, rfl, (by rw [ht]; exact X_all hP hk), hDX _ _ _ _⟩, hS.F ht⟩) hS.2.2 (by decide) (by decide)
        · replace h := oi_f hg h
          have hP := X_all hP hk
          have hZ := hZ.kept (fun a ha _ => hk a ha)
          refine lv_aload_n hx hb dX8_rebuild_40 rfl (lv_at hl 0 rfl) ?_
          refine xg_thought hx hb hA hown aF_RX8_16 hK hP dX8_rebuild_41 ?_
          refine lv_aload_n hx hb dX8_rebuild_44 rfl (lv_at hl 0 rfl) ?_
          refine xg_current hx hb hA hown aF_RX8_10 hK hP dX8_rebuild_45 ?_
          obtain ⟨w5, h6, h⟩ := obd_e h
          refine fx_runVv (n := 1) (C := RX2) (As := [.ref (b 0 0)]) S (c_X2_copyFrom l D cI (xPa (b 1) (b 0)) N (xPm φ u0) w5 h6) (P_pre (q0 := 0) (ci := 0) (X_k hK) (X_p_tc hP) (hDtc _) rfl rfl) hS (fun q h => X_a_tc h) aM_RX8_82 aI_X2_copyFrom aV_X2_copyFrom aN_RX2 aC_X2_copyFrom rfl rfl (by decide +kernel) rfl ⟨Nat.le_of_ble_eq_true rfl, Nat.le_of_ble_eq_true rfl⟩ ⟨by decide, by decide⟩ hl.1 (Nat.le_of_ble_eq_true rfl) dX8_rebuild_48 (fun _ t H locs ht _ hB hk hz hS => ?_)
          have hP := X_set_tc hP (hDX _ _ _ _) hk (by rw [← ht]; exact hB)
          have hZ := hZ.kept (fun a ha hn => hk a ha (fun z => hn (X_a_tc z)))
          obtain ⟨u7, eu7⟩ : ∃ u7, u7 = xsh w5 := ⟨_, rfl⟩
          rw [← eu7] at hP
          replace h := olet_s eu7 h
          refine lv_aload_n hx hb dX8_rebuild_51 rfl (lv_at hl 0 rfl) ?_
          refine xg_thought hx hb hA hown aF_RX8_16 hK hP dX8_rebuild_52 ?_
          refine lv_iload_n hx hb dX8_rebuild_55 rfl (lv_at hl 1 rfl) ?_
          refine lv_iload_n hx hb dX8_rebuild_56 rfl (lv_at hl 2 rfl) ?_
          refine lv_iload_n hx hb dX8_rebuild_57 rfl (lv_at hl 3 rfl) ?_
          refine lv_iload hx hb dX8_rebuild_58 (lv_at hl 4 rfl) ?_
          obtain ⟨r10, w8, h9, h⟩ := obd2_e h
          refine fx_runVi (n := 4) (C := RX2) (As := [.int p1, .int p2, .int p3, .int p4]) S (c_X2_refill l D cI (b 1) N w5 p1 p2 p3 p4 r10 w8 h9) (F_pre (q0 := 0) (ci := 0) (X_k hK) (X_p_tho hP) (hDtho _) rfl rfl) hS (fun q h => X_a_tho h) aM_RX8_104 aI_X2_refill aV_X2_refill aN_RX2 aC_X2_refill rfl rfl (by decide +kernel) rfl ⟨Nat.le_of_ble_eq_true rfl, Nat.le_of_ble_eq_true rfl⟩ ⟨by decide, by decide⟩ hl.1 (Nat.le_of_ble_eq_true rfl) dX8_rebuild_60 (fun rr _ t H locs ht hr hB hk hz hS => ?_)
          obtain ⟨hr, br10⟩ := hr
          rw [hr] at br10
          replace hr := hr.symm
          subst hr
          have hP := X_set_tho hP (hDX _ _ _ _) hk (by rw [← ht]; exact hB)
          have hZ := hZ.kept (fun a ha hn => hk a ha (fun z => hn (X_a_tho z)))
          refine lv_istore (lv' := [(5, .int r10), (0, .ref (b 6 0)), (1, .int p1), (2, .int p2), (3, .int p3), (4, .int p4)]) hx hb dX8_rebuild_63 hl (by decide) rfl (fun ls hl => ?_)
          refine lv_aload_n hx hb dX8_rebuild_65 rfl (lv_at hl 1 rfl) ?_
          refine lv_iload hx hb dX8_rebuild_66 (lv_at hl 0 rfl) ?_
          refine lv_if_eq (tgt := 81) hx hb dX8_rebuild_68 (by decide) (fun hc => ?_) (fun hc => ?_)
          · replace h := oi_t hc h
            refine lv_iconst (v := (-1)) hx hb dX8_rebuild_81 (by decide) ?_
            obtain ⟨rfl, rfl, rfl, rfl, rfl, rfl⟩ := os6 h
            refine kx_accIf_t S hl0 aM_RX8_89 ⟨Nat.le_of_ble_eq_true rfl, Nat.le_of_ble_eq_true rfl⟩ ⟨by decide, by decide⟩ hP hK (hDX _ _ _ _) hT hZ hS rfl hl.1 (Nat.le_of_ble_eq_true rfl) dX8_rebuild_82 (fun ce q9 H locs hk hz hS h9 hv hcl => ?_)
            exact vx_out (fun x hx => (htab x hx).elim) hlocks h9 hv hcl (fun t ht _ => ⟨b, xSame_rf, ⟨by decide, rfl, (by rw [ht]; exact X_all hP hk), hDX _ _ _ _⟩, hS.F ht⟩) hS.2.2 (by decide) (by decide)
          · replace h := oi_f hc h
            refine lv_aload_n hx hb dX8_rebuild_71 rfl (lv_at hl 1 rfl) ?_
            refine xg_thought hx hb hA hown aF_RX8_16 hK hP dX8_rebuild_72 ?_
            refine k_X2_stashSize S aM_RX8_108 ⟨Nat.le_of_ble_eq_true rfl, Nat.le_of_ble_eq_true rfl⟩ ⟨by decide, by decide⟩ (X_p_tho hP) (X_k hK) hDtho hl.1 (Nat.le_of_ble_eq_true rfl) dX8_rebuild_75 (fun r15 er15 => ?_)
            replace h := olet_s er15 h
            refine lv_goto (tgt := 82) hx hb dX8_rebuild_78 (by decide) ?_
            by_cases hc : r15 = -1
            · replace h := oi_t hc h
              obtain ⟨rfl, rfl, rfl, rfl, rfl, rfl⟩ := os6 h
              refine kx_accIf_t S hl0 aM_RX8_89 ⟨Nat.le_of_ble_eq_true rfl, Nat.le_of_ble_eq_true rfl⟩ ⟨by decide, by decide⟩ hP hK (hDX _ _ _ _) hT hZ hS hc hl.1 (Nat.le_of_ble_eq_true rfl) dX8_rebuild_82 (fun ce q9 H locs hk hz hS h9 hv hcl => ?_)
              exact vx_out (fun x hx => (htab x hx).elim) hlocks h9 hv hcl (fun t ht _ => ⟨b, xSame_rf, ⟨by decide, rfl, (by rw [ht]; exact X_all hP hk), hDX _ _ _ _⟩, hS.F ht⟩) hS.2.2 (by decide) (by decide)
            · replace h := oi_f hc h
              obtain ⟨w16, w17, e18, h19, h⟩ := obd3_e h
              refine kx_accIf_f S hl0 aM_RX8_89 ⟨Nat.le_of_ble_eq_true rfl, Nat.le_of_ble_eq_true rfl⟩ ⟨by decide, by decide⟩ hP hK (hDX _ _ _ _) hT hZ hS hc h19 hl.1 (Nat.le_of_ble_eq_true rfl) dX8_rebuild_82 (fun u H locs hsm hP hDu hS => ?_)
              obtain ⟨rfl, rfl, rfl, rfl, rfl, rfl⟩ := os6 h
              refine vx_ret ?_
              refine W.widen (k := 5) (n := 30) (by decide) (by decide) ?_
              exact W.iret (v := r15) hx hb hr (fun t ht hW => ⟨⟨_, u, rfl, ⟨rfl, rfl, hsm⟩, (by rw [ht]; exact hP), hDu⟩, hS.F ht⟩) hS.2.2 dX8_rebuild_85
set_option maxHeartbeats 4000000 in
set_option maxRecDepth 100000 in
theorem c_X8_setLimit (l : Launch) (hl0 : l.stackTraces = false) (D : va_G) (cI cF : ClassId) (b : Bf) (N : Nat) (u0 : M2) (φ : M2) (η : HT) (τ : M2) (p1 : Int32) (k0 : Nat) (r0 : Int32) (u0r φr : M2) (ηr : HT) (τr : M2) (hF : G_X8_setLimit N u0 φ η τ p1 = some (k0, r0, u0r, φr, ηr, τr)) : vx_Met l yX8_setLimit (wsA yX8_setLimit cX8_setLimit 2 (some .int)) { frames := 7, cells := 1, slots := 6, locals := 103 } (va_Pc [.ref (b 6 0), .int p1] (xP D cI cF b u0 φ η τ)) (va_Qi (fun (r : Int32) (u : Bf) => k0 = 0 ∧ r = r0 ∧ xSame b u) (fun u t => va_P D vwCl (xW cI cF u u0r φr ηr τr) t.heap ∧ va_D (fun _ => True) (xW cI cF u u0r φr ηr τr)) (xA b)) (vx_X (fun (u : Bf) => xSame b u) (fun E u t => ¬ k0 = 0 ∧ E = eOf k0 ∧ va_P D vwCl (xW cI cF u u0r φr ηr τr) t.heap ∧ va_D (fun _ => True) (xW cI cF u u0r φr ηr τr)) (xA b)) 1 6 (xA b) := by
  refine vx_ofW (cc := cX8_setLimit) (maxL := 2) (ret := (some .int)) (by decide) rfl ?_
  intro p e s m args below meth c s₁ B hml htab hpre
  obtain ⟨rfl, hP, hK, hD0, hT, hZ⟩ := hpre
  have hx := B.exec
  have hb := B.bytes
  have hr := B.returns
  have hA : ∀ w ∈ AW, w.before _ s = true := fun w h => atoms_spec (ws := wsA yX8_setLimit cX8_setLimit 2 (some .int)) B.pre w (List.mem_cons_of_mem _ h)
  have hown : s.vm.findClass RX8 = some m.cls := findClass_of_methodNamed B.named
  have hlocks := B.notSynchronized
  have hDX := X_D hD0
  have hDcur := X_d_cur hD0
  have hDtho := X_d_tho hD0
  have hDtxt := X_d_txt hD0
  have hDtc := X_d_tc hD0
  have hZ0 := hZ
  have hS : va_S (xA b) s.heap s.heap [] := va_S.rf
  have S : CallFix p m c cX8_setLimit 2 s ([.ref (b 6 0), .int p1] : List Value).toArray AW RX8 := ⟨hx, hb, hml, hown, hA⟩
  have hl := lv_entry ([.ref (b 6 0), .int p1]) (n := 2) (Nat.le_of_ble_eq_true rfl)
  rw [lg_entry_eq]
  generalize (lg_sl ([.ref (b 6 0), .int p1]) ++ List.replicate (2 - (lg_sl ([.ref (b 6 0), .int p1])).length) Slot.unset).toArray = ls at hl ⊢
  have hl : lv_has ls 2 [(0, .ref (b 6 0)), (1, .int p1)] := hl
  have h := hF
  unfold G_X8_setLimit at h
  refine lv_iload_n hx hb dX8_setLimit_0 rfl (lv_at hl 1 rfl) ?_
  refine lv_iconst (v := 0) hx hb dX8_setLimit_1 (by decide) ?_
  refine lv_bipush (v := 50) hx hb dX8_setLimit_2 (by decide) ?_
  refine k_X8_within S aM_RX8_71 ⟨Nat.le_of_ble_eq_true rfl, Nat.le_of_ble_eq_true rfl⟩ ⟨by decide, by decide⟩ hl.1 (Nat.le_of_ble_eq_true rfl) dX8_setLimit_4 (fun r1 er1 br1 => ?_)
  replace h := olet_s er1 h
  refine fx_chk (n := 1) (As := [.int r1]) S (c_X8_checkArgument l hl0 (xA b) r1) hT hZ hS aM_RX8_101 aS_X8_checkArgument aN_RX8 aC_X8_checkArgument rfl rfl (by decide +kernel) rfl ⟨Nat.le_of_ble_eq_true rfl, Nat.le_of_ble_eq_true rfl⟩ ⟨by decide, by decide⟩ hl.1 (Nat.le_of_ble_eq_true rfl) dX8_setLimit_7 (fun hg ce q9 H locs hk hz hS h9 hv hcl => ?_) (fun hg H locs hk hz hS => ?_)
  · replace h := oi_t hg h
    obtain ⟨rfl, rfl, rfl, rfl, rfl, rfl⟩ := os6 h
    exact vx_out (fun x hx => (htab x hx).elim) hlocks h9 hv hcl (fun t ht _ => ⟨b, xSame_rf, ⟨by decide, rfl, (by rw [ht]; exact X_all hP hk), hDX _ _ _ _⟩, hS.F ht⟩) hS.2.2 (by decide) (by decide)
  · replace h := oi_f hg h
    have hP := X_all hP hk
    have hZ := hZ.kept (fun a ha _ => hk a ha)
    refine lv_aload_n hx hb dX8_setLimit_10 rfl (lv_at hl 0 rfl) ?_
    refine xg_thought hx hb hA hown aF_RX8_16 hK hP dX8_setLimit_11 ?_
    refine lv_aload_n hx hb dX8_setLimit_14 rfl (lv_at hl 0 rfl) ?_
    refine xg_current hx hb hA hown aF_RX8_10 hK hP dX8_setLimit_15 ?_
    obtain ⟨w2, h3, h⟩ := obd_e h
    refine fx_runVv (n := 1) (C := RX2) (As := [.ref (b 0 0)]) S (c_X2_copyFrom l D cI (xPa (b 1) (b 0)) N (xPm φ u0) w2 h3) (P_pre (q0 := 0) (ci := 0) (X_k hK) (X_p_tc hP) (hDtc _) rfl rfl) hS (fun q h => X_a_tc h) aM_RX8_82 aI_X2_copyFrom aV_X2_copyFrom aN_RX2 aC_X2_copyFrom rfl rfl (by decide +kernel) rfl ⟨Nat.le_of_ble_eq_true rfl, Nat.le_of_ble_eq_true rfl⟩ ⟨by decide, by decide⟩ hl.1 (Nat.le_of_ble_eq_true rfl) dX8_setLimit_18 (fun _ t H locs ht _ hB hk hz hS => ?_)
    have hP := X_set_tc hP (hDX _ _ _ _) hk (by rw [← ht]; exact hB)
    have hZ := hZ.kept (fun a ha hn => hk a ha (fun z => hn (X_a_tc z)))
    obtain ⟨u4, eu4⟩ : ∃ u4, u4 = xsh w2 := ⟨_, rfl⟩
    rw [← eu4] at hP
    replace h := olet_s eu4 h
    refine lv_aload_n hx hb dX8_setLimit_21 rfl (lv_at hl 0 rfl) ?_
    refine lv_aload_n hx hb dX8_setLimit_22 rfl (lv_at hl 0 rfl) ?_
    refine xg_thought hx hb hA hown aF_RX8_16 hK hP dX8_setLimit_23 ?_
    refine lv_iload_n hx hb dX8_setLimit_26 rfl (lv_at hl 1 rfl) ?_
    obtain ⟨r7, w5, h6, h⟩ := obd2_e h
    refine fx_runVi (n := 1) (C := RX2) (As := [.int p1]) S (c_X2_changeLimit l D cI (b 1) w2 p1 r7 w5 h6) (F_pre (q0 := 0) (ci := 0) (X_k hK) (X_p_tho hP) (hDtho _) rfl rfl) hS (fun q h => X_a_tho h) aM_RX8_111 aI_X2_changeLimit aV_X2_changeLimit aN_RX2 aC_X2_changeLimit rfl rfl (by decide +kernel) rfl ⟨Nat.le_of_ble_eq_true rfl, Nat.le_of_ble_eq_true rfl⟩ ⟨by decide, by decide⟩ hl.1 (Nat.le_of_ble_eq_true rfl) dX8_setLimit_27 (fun rr _ t H locs ht hr hB hk hz hS => ?_)
    replace hr := hr.symm
    subst hr
    have hP := X_set_tho hP (hDX _ _ _ _) hk (by rw [← ht]; exact hB)
    have hZ := hZ.kept (fun a ha hn => hk a ha (fun z => hn (X_a_tho z)))
    obtain ⟨w8, w9, e10, h11, h⟩ := obd3_e h
    refine kx_accept S aM_RX8_114 ⟨Nat.le_of_ble_eq_true rfl, Nat.le_of_ble_eq_true rfl⟩ ⟨by decide, by decide⟩ hP hK (hDX _ _ _ _) hS h11 hl.1 (Nat.le_of_ble_eq_true rfl) dX8_setLimit_30 (fun u H locs hsm hP hDu hS => ?_)
    obtain ⟨rfl, rfl, rfl, rfl, rfl, rfl⟩ := os6 h
    refine vx_ret ?_
    refine W.widen (k := 1) (n := 6) (by decide) (by decide) ?_
    exact W.iret (v := r7) hx hb hr (fun t ht hW => ⟨⟨_, u, rfl, ⟨rfl, rfl, hsm⟩, (by rw [ht]; exact hP), hDu⟩, hS.F ht⟩) hS.2.2 dX8_setLimit_33
set_option maxHeartbeats 4000000 in
set_option maxRecDepth 100000 in
theorem c_X8_setLength (l : Launch) (hl0 : l.stackTraces = false) (D : va_G) (cI cF : ClassId) (b : Bf) (N : Nat) (u0 : M2) (φ : M2) (η : HT) (τ : M2) (p1 : Int32) (k0 : Nat) (r0 : Int32) (u0r φr : M2) (ηr : HT) (τr : M2) (hF : G_X8_setLength N u0 φ η τ p1 = some (k0, r0, u0r, φr, ηr, τr)) : vx_Met l yX8_setLength (wsA yX8_setLength cX8_setLength 2 (some .int)) { frames := 7, cells := 1, slots := 6, locals := 103 } (va_Pc [.ref (b 6 0), .int p1] (xP D cI cF b u0 φ η τ)) (va_Qi (fun (r : Int32) (u : Bf) => k0 = 0 ∧ r = r0 ∧ xSame b u) (fun u t => va_P D vwCl (xW cI cF u u0r φr ηr τr) t.heap ∧ va_D (fun _ => True) (xW cI cF u u0r φr ηr τr)) (xA b)) (vx_X (fun (u : Bf) => xSame b u) (fun E u t => ¬ k0 = 0 ∧ E = eOf k0 ∧ va_P D vwCl (xW cI cF u u0r φr ηr τr) t.heap ∧ va_D (fun _ => True) (xW cI cF u u0r φr ηr τr)) (xA b)) 1 6 (xA b) := by
  refine vx_ofW (cc := cX8_setLength) (maxL := 2) (ret := (some .int)) (by decide) rfl ?_
  intro p e s m args below meth c s₁ B hml htab hpre
  obtain ⟨rfl, hP, hK, hD0, hT, hZ⟩ := hpre
  have hx := B.exec
  have hb := B.bytes
  have hr := B.returns
  have hA : ∀ w ∈ AW, w.before _ s = true := fun w h => atoms_spec (ws := wsA yX8_setLength cX8_setLength 2 (some .int)) B.pre w (List.mem_cons_of_mem _ h)
  have hown : s.vm.findClass RX8 = some m.cls := findClass_of_methodNamed B.named
  have hlocks := B.notSynchronized
  have hDX := X_D hD0
  have hDcur := X_d_cur hD0
  have hDtho := X_d_tho hD0
  have hDtxt := X_d_txt hD0
  have hDtc := X_d_tc hD0
  have hZ0 := hZ
  have hS : va_S (xA b) s.heap s.heap [] := va_S.rf
  have S : CallFix p m c cX8_setLength 2 s ([.ref (b 6 0), .int p1] : List Value).toArray AW RX8 := ⟨hx, hb, hml, hown, hA⟩
  have hl := lv_entry ([.ref (b 6 0), .int p1]) (n := 2) (Nat.le_of_ble_eq_true rfl)
  rw [lg_entry_eq]
  generalize (lg_sl ([.ref (b 6 0), .int p1]) ++ List.replicate (2 - (lg_sl ([.ref (b 6 0), .int p1])).length) Slot.unset).toArray = ls at hl ⊢
  have hl : lv_has ls 2 [(0, .ref (b 6 0)), (1, .int p1)] := hl
  have h := hF
  unfold G_X8_setLength at h
  refine lv_iload_n hx hb dX8_setLength_0 rfl (lv_at hl 1 rfl) ?_
  refine lv_iconst (v := 1) hx hb dX8_setLength_1 (by decide) ?_
  refine lv_bipush (v := 8) hx hb dX8_setLength_2 (by decide) ?_
  refine k_X8_within S aM_RX8_71 ⟨Nat.le_of_ble_eq_true rfl, Nat.le_of_ble_eq_true rfl⟩ ⟨by decide, by decide⟩ hl.1 (Nat.le_of_ble_eq_true rfl) dX8_setLength_4 (fun r1 er1 br1 => ?_)
  replace h := olet_s er1 h
  refine fx_chk (n := 1) (As := [.int r1]) S (c_X8_checkArgument l hl0 (xA b) r1) hT hZ hS aM_RX8_101 aS_X8_checkArgument aN_RX8 aC_X8_checkArgument rfl rfl (by decide +kernel) rfl ⟨Nat.le_of_ble_eq_true rfl, Nat.le_of_ble_eq_true rfl⟩ ⟨by decide, by decide⟩ hl.1 (Nat.le_of_ble_eq_true rfl) dX8_setLength_7 (fun hg ce q9 H locs hk hz hS h9 hv hcl => ?_) (fun hg H locs hk hz hS => ?_)
  · replace h := oi_t hg h
    obtain ⟨rfl, rfl, rfl, rfl, rfl, rfl⟩ := os6 h
    exact vx_out (fun x hx => (htab x hx).elim) hlocks h9 hv hcl (fun t ht _ => ⟨b, xSame_rf, ⟨by decide, rfl, (by rw [ht]; exact X_all hP hk), hDX _ _ _ _⟩, hS.F ht⟩) hS.2.2 (by decide) (by decide)
  · replace h := oi_f hg h
    have hP := X_all hP hk
    have hZ := hZ.kept (fun a ha _ => hk a ha)
    refine lv_aload_n hx hb dX8_setLength_10 rfl (lv_at hl 0 rfl) ?_
    refine xg_thought hx hb hA hown aF_RX8_16 hK hP dX8_setLength_11 ?_
    refine lv_aload_n hx hb dX8_setLength_14 rfl (lv_at hl 0 rfl) ?_
    refine xg_current hx hb hA hown aF_RX8_10 hK hP dX8_setLength_15 ?_
    obtain ⟨w2, h3, h⟩ := obd_e h
    refine fx_runVv (n := 1) (C := RX2) (As := [.ref (b 0 0)]) S (c_X2_copyFrom l D cI (xPa (b 1) (b 0)) N (xPm φ u0) w2 h3) (P_pre (q0 := 0) (ci := 0) (X_k hK) (X_p_tc hP) (hDtc _) rfl rfl) hS (fun q h => X_a_tc h) aM_RX8_82 aI_X2_copyFrom aV_X2_copyFrom aN_RX2 aC_X2_copyFrom rfl rfl (by decide +kernel) rfl ⟨Nat.le_of_ble_eq_true rfl, Nat.le_of_ble_eq_true rfl⟩ ⟨by decide, by decide⟩ hl.1 (Nat.le_of_ble_eq_true rfl) dX8_setLength_18 (fun _ t H locs ht _ hB hk hz hS => ?_)
    have hP := X_set_tc hP (hDX _ _ _ _) hk (by rw [← ht]; exact hB)
    have hZ := hZ.kept (fun a ha hn => hk a ha (fun z => hn (X_a_tc z)))
    obtain ⟨u4, eu4⟩ : ∃ u4, u4 = xsh w2 := ⟨_, rfl⟩
    rw [← eu4] at hP
    replace h := olet_s eu4 h
    refine lv_aload_n hx hb dX8_setLength_21 rfl (lv_at hl 0 rfl) ?_
    refine lv_aload_n hx hb dX8_setLength_22 rfl (lv_at hl 0 rfl) ?_
    refine xg_thought hx hb hA hown aF_RX8_16 hK hP dX8_setLength_23 ?_
    refine lv_iload_n hx hb dX8_setLength_26 rfl (lv_at hl 1 rfl) ?_
    obtain ⟨r7, w5, h6, h⟩ := obd2_e h
    refine fx_runVi (n := 1) (C := RX2) (As := [.int p1]) S (c_X2_changeLength l D cI (b 1) w2 p1 r7 w5 h6) (F_pre (q0 := 0) (ci := 0) (X_k hK) (X_p_tho hP) (hDtho _) rfl rfl) hS (fun q h => X_a_tho h) aM_RX8_117 aI_X2_changeLength aV_X2_changeLength aN_RX2 aC_X2_changeLength rfl rfl (by decide +kernel) rfl ⟨Nat.le_of_ble_eq_true rfl, Nat.le_of_ble_eq_true rfl⟩ ⟨by decide, by decide⟩ hl.1 (Nat.le_of_ble_eq_true rfl) dX8_setLength_27 (fun rr _ t H locs ht hr hB hk hz hS => ?_)
    replace hr := hr.symm
    subst hr
    have hP := X_set_tho hP (hDX _ _ _ _) hk (by rw [← ht]; exact hB)
    have hZ := hZ.kept (fun a ha hn => hk a ha (fun z => hn (X_a_tho z)))
    obtain ⟨w8, w9, e10, h11, h⟩ := obd3_e h
    refine kx_accept S aM_RX8_114 ⟨Nat.le_of_ble_eq_true rfl, Nat.le_of_ble_eq_true rfl⟩ ⟨by decide, by decide⟩ hP hK (hDX _ _ _ _) hS h11 hl.1 (Nat.le_of_ble_eq_true rfl) dX8_setLength_30 (fun u H locs hsm hP hDu hS => ?_)
    obtain ⟨rfl, rfl, rfl, rfl, rfl, rfl⟩ := os6 h
    refine vx_ret ?_
    refine W.widen (k := 1) (n := 6) (by decide) (by decide) ?_
    exact W.iret (v := r7) hx hb hr (fun t ht hW => ⟨⟨_, u, rfl, ⟨rfl, rfl, hsm⟩, (by rw [ht]; exact hP), hDu⟩, hS.F ht⟩) hS.2.2 dX8_setLength_33
set_option maxHeartbeats 4000000 in
set_option maxRecDepth 100000 in
theorem c_X8_clear (l : Launch) (hl0 : l.stackTraces = false) (D : va_G) (cI cF : ClassId) (b : Bf) (N : Nat) (u0 : M2) (φ : M2) (η : HT) (τ : M2) (k0 : Nat) (r0 : Int32) (u0r φr : M2) (ηr : HT) (τr : M2) (hF : G_X8_clear N u0 φ η τ = some (k0, r0, u0r, φr, ηr, τr)) : vx_Met l yX8_clear (wsA yX8_clear cX8_clear 1 (some .int)) { frames := 4, cells := 0, slots := 0, locals := 103 } (va_Pc [.ref (b 6 0)] (xP D cI cF b u0 φ η τ)) (va_Qi (fun (r : Int32) (u : Bf) => k0 = 0 ∧ r = r0 ∧ xSame b u) (fun u t => va_P D vwCl (xW cI cF u u0r φr ηr τr) t.heap ∧ va_D (fun _ => True) (xW cI cF u u0r φr ηr τr)) (xA b)) (vx_X (fun (u : Bf) => xSame b u) (fun E u t => ¬ k0 = 0 ∧ E = eOf k0 ∧ va_P D vwCl (xW cI cF u u0r φr ηr τr) t.heap ∧ va_D (fun _ => True) (xW cI cF u u0r φr ηr τr)) (xA b)) 0 0 (xA b) := by
  refine vx_ofW (cc := cX8_clear) (maxL := 1) (ret := (some .int)) (by decide) rfl ?_
  intro p e s m args below meth c s₁ B hml htab hpre
  obtain ⟨rfl, hP, hK, hD0, hT, hZ⟩ := hpre
  have hx := B.exec
  have hb := B.bytes
  have hr := B.returns
  have hA : ∀ w ∈ AW, w.before _ s = true := fun w h => atoms_spec (ws := wsA yX8_clear cX8_clear 1 (some .int)) B.pre w (List.mem_cons_of_mem _ h)
  have hown : s.vm.findClass RX8 = some m.cls := findClass_of_methodNamed B.named
  have hlocks := B.notSynchronized
  have hDX := X_D hD0
  have hDcur := X_d_cur hD0
  have hDtho := X_d_tho hD0
  have hDtxt := X_d_txt hD0
  have hDtc := X_d_tc hD0
  have hZ0 := hZ
  have hS : va_S (xA b) s.heap s.heap [] := va_S.rf
  have S : CallFix p m c cX8_clear 1 s ([.ref (b 6 0)] : List Value).toArray AW RX8 := ⟨hx, hb, hml, hown, hA⟩
  have hl := lv_entry ([.ref (b 6 0)]) (n := 1) (Nat.le_of_ble_eq_true rfl)
  rw [lg_entry_eq]
  generalize (lg_sl ([.ref (b 6 0)]) ++ List.replicate (1 - (lg_sl ([.ref (b 6 0)])).length) Slot.unset).toArray = ls at hl ⊢
  have hl : lv_has ls 1 [(0, .ref (b 6 0))] := hl
  have h := hF
  unfold G_X8_clear at h
  refine lv_aload_n hx hb dX8_clear_0 rfl (lv_at hl 0 rfl) ?_
  refine xg_thought hx hb hA hown aF_RX8_16 hK hP dX8_clear_1 ?_
  refine lv_aload_n hx hb dX8_clear_4 rfl (lv_at hl 0 rfl) ?_
  refine xg_current hx hb hA hown aF_RX8_10 hK hP dX8_clear_5 ?_
  obtain ⟨w1, h2, h⟩ := obd_e h
  refine fx_runVv (n := 1) (C := RX2) (As := [.ref (b 0 0)]) S (c_X2_copyFrom l D cI (xPa (b 1) (b 0)) N (xPm φ u0) w1 h2) (P_pre (q0 := 0) (ci := 0) (X_k hK) (X_p_tc hP) (hDtc _) rfl rfl) hS (fun q h => X_a_tc h) aM_RX8_82 aI_X2_copyFrom aV_X2_copyFrom aN_RX2 aC_X2_copyFrom rfl rfl (by decide +kernel) rfl ⟨Nat.le_of_ble_eq_true rfl, Nat.le_of_ble_eq_true rfl⟩ ⟨by decide, by decide⟩ hl.1 (Nat.le_of_ble_eq_true rfl) dX8_clear_8 (fun _ t H locs ht _ hB hk hz hS => ?_)
  have hP := X_set_tc hP (hDX _ _ _ _) hk (by rw [← ht]; exact hB)
  have hZ := hZ.kept (fun a ha hn => hk a ha (fun z => hn (X_a_tc z)))
  obtain ⟨u3, eu3⟩ : ∃ u3, u3 = xsh w1 := ⟨_, rfl⟩
  rw [← eu3] at hP
  replace h := olet_s eu3 h
  refine lv_aload_n hx hb dX8_clear_11 rfl (lv_at hl 0 rfl) ?_
  refine lv_aload_n hx hb dX8_clear_12 rfl (lv_at hl 0 rfl) ?_
  refine xg_thought hx hb hA hown aF_RX8_16 hK hP dX8_clear_13 ?_
  obtain ⟨r6, w4, h5, h⟩ := obd2_e h
  refine fx_runVi (n := 0) (C := RX2) (As := []) S (c_X2_forgetAll l D cI (b 1) N w1 r6 w4 h5) (F_pre (q0 := 0) (ci := 0) (X_k hK) (X_p_tho hP) (hDtho _) rfl rfl) hS (fun q h => X_a_tho h) aM_RX8_120 aI_X2_forgetAll aV_X2_forgetAll aN_RX2 aC_X2_forgetAll rfl rfl (by decide +kernel) rfl ⟨Nat.le_of_ble_eq_true rfl, Nat.le_of_ble_eq_true rfl⟩ ⟨by decide, by decide⟩ hl.1 (Nat.le_of_ble_eq_true rfl) dX8_clear_16 (fun rr _ t H locs ht hr hB hk hz hS => ?_)
  replace hr := hr.symm
  subst hr
  have hP := X_set_tho hP (hDX _ _ _ _) hk (by rw [← ht]; exact hB)
  have hZ := hZ.kept (fun a ha hn => hk a ha (fun z => hn (X_a_tho z)))
  obtain ⟨w7, w8, e9, h10, h⟩ := obd3_e h
  refine kx_accept S aM_RX8_114 ⟨Nat.le_of_ble_eq_true rfl, Nat.le_of_ble_eq_true rfl⟩ ⟨by decide, by decide⟩ hP hK (hDX _ _ _ _) hS h10 hl.1 (Nat.le_of_ble_eq_true rfl) dX8_clear_19 (fun u H locs hsm hP hDu hS => ?_)
  obtain ⟨rfl, rfl, rfl, rfl, rfl, rfl⟩ := os6 h
  refine vx_ret ?_
  refine W.widen (k := 0) (n := 0) (by decide) (by decide) ?_
  exact W.iret (v := r6) hx hb hr (fun t ht hW => ⟨⟨_, u, rfl, ⟨rfl, rfl, hsm⟩, (by rw [ht]; exact hP), hDu⟩, hS.F ht⟩) hS.2.2 dX8_clear_22
set_option maxHeartbeats 4000000 in
set_option maxRecDepth 100000 in
theorem c_X8_info (l : Launch) (hl0 : l.stackTraces = false) (D : va_G) (cI cF : ClassId) (b : Bf) (N : Nat) (u0 : M2) (φ : M2) (η : HT) (τ : M2) (p1 : Int32) (k0 : Nat) (r0 : Int32) (u0r φr : M2) (ηr : HT) (τr : M2) (hF : G_X8_info N u0 φ η τ p1 = some (k0, r0, u0r, φr, ηr, τr)) : vx_Met l yX8_info (wsA yX8_info cX8_info 2 (some .int)) { frames := 7, cells := 1, slots := 6, locals := 105 } (va_Pc [.ref (b 6 0), .int p1] (xP D cI cF b u0 φ η τ)) (va_Qi (fun (r : Int32) (u : Bf) => k0 = 0 ∧ r = r0 ∧ xSame b u) (fun u t => va_P D vwCl (xW cI cF u u0r φr ηr τr) t.heap ∧ va_D (fun _ => True) (xW cI cF u u0r φr ηr τr)) (xA b)) (vx_X (fun (u : Bf) => xSame b u) (fun E u t => ¬ k0 = 0 ∧ E = eOf k0 ∧ va_P D vwCl (xW cI cF u u0r φr ηr τr) t.heap ∧ va_D (fun _ => True) (xW cI cF u u0r φr ηr τr)) (xA b)) 1 6 (xA b) := by
  refine vx_ofW (cc := cX8_info) (maxL := 2) (ret := (some .int)) (by decide) rfl ?_
  intro p e s m args below meth c s₁ B hml htab hpre
  obtain ⟨rfl, hP, hK, hD0, hT, hZ⟩ := hpre
  have hx := B.exec
  have hb := B.bytes
  have hr := B.returns
  have hA : ∀ w ∈ AW, w.before _ s = true := fun w h => atoms_spec (ws := wsA yX8_info cX8_info 2 (some .int)) B.pre w (List.mem_cons_of_mem _ h)
  have hown : s.vm.findClass RX8 = some m.cls := findClass_of_methodNamed B.named
  have hlocks := B.notSynchronized
  have hDX := X_D hD0
  have hDcur := X_d_cur hD0
  have hDtho := X_d_tho hD0
  have hDtxt := X_d_txt hD0
  have hDtc := X_d_tc hD0
  have hZ0 := hZ
  have hS : va_S (xA b) s.heap s.heap [] := va_S.rf
  have S : CallFix p m c cX8_info 2 s ([.ref (b 6 0), .int p1] : List Value).toArray AW RX8 := ⟨hx, hb, hml, hown, hA⟩
  have hl := lv_entry ([.ref (b 6 0), .int p1]) (n := 2) (Nat.le_of_ble_eq_true rfl)
  rw [lg_entry_eq]
  generalize (lg_sl ([.ref (b 6 0), .int p1]) ++ List.replicate (2 - (lg_sl ([.ref (b 6 0), .int p1])).length) Slot.unset).toArray = ls at hl ⊢
  have hl : lv_has ls 2 [(0, .ref (b 6 0)), (1, .int p1)] := hl
  have h := hF
  unfold G_X8_info at h
  refine lv_iload_n hx hb dX8_info_0 rfl (lv_at hl 1 rfl) ?_
  refine lv_iconst (v := 0) hx hb dX8_info_1 (by decide) ?_
  refine lv_bipush (v := 8) hx hb dX8_info_2 (by decide) ?_
  refine k_X8_within S aM_RX8_71 ⟨Nat.le_of_ble_eq_true rfl, Nat.le_of_ble_eq_true rfl⟩ ⟨by decide, by decide⟩ hl.1 (Nat.le_of_ble_eq_true rfl) dX8_info_4 (fun r1 er1 br1 => ?_)
  replace h := olet_s er1 h
  refine fx_chk (n := 1) (As := [.int r1]) S (c_X8_checkArgument l hl0 (xA b) r1) hT hZ hS aM_RX8_101 aS_X8_checkArgument aN_RX8 aC_X8_checkArgument rfl rfl (by decide +kernel) rfl ⟨Nat.le_of_ble_eq_true rfl, Nat.le_of_ble_eq_true rfl⟩ ⟨by decide, by decide⟩ hl.1 (Nat.le_of_ble_eq_true rfl) dX8_info_7 (fun hg ce q9 H locs hk hz hS h9 hv hcl => ?_) (fun hg H locs hk hz hS => ?_)
  · replace h := oi_t hg h
    obtain ⟨rfl, rfl, rfl, rfl, rfl, rfl⟩ := os6 h
    exact vx_out (fun x hx => (htab x hx).elim) hlocks h9 hv hcl (fun t ht _ => ⟨b, xSame_rf, ⟨by decide, rfl, (by rw [ht]; exact X_all hP hk), hDX _ _ _ _⟩, hS.F ht⟩) hS.2.2 (by decide) (by decide)
  · replace h := oi_f hg h
    have hP := X_all hP hk
    have hZ := hZ.kept (fun a ha _ => hk a ha)
    refine lv_aload_n hx hb dX8_info_10 rfl (lv_at hl 0 rfl) ?_
    refine xg_current hx hb hA hown aF_RX8_10 hK hP dX8_info_11 ?_
    refine lv_iload_n hx hb dX8_info_14 rfl (lv_at hl 1 rfl) ?_
    obtain ⟨r2, h3, h⟩ := obd_e h
    refine k_X2_number S aM_RX8_123 ⟨Nat.le_of_ble_eq_true rfl, Nat.le_of_ble_eq_true rfl⟩ ⟨by decide, by decide⟩ (X_p_cur hP) (X_k hK) hDcur h3 hl.1 (Nat.le_of_ble_eq_true rfl) dX8_info_15 ?_
    obtain ⟨rfl, rfl, rfl, rfl, rfl, rfl⟩ := os6 h
    refine vx_ret ?_
    refine W.widen (k := 1) (n := 6) (by decide) (by decide) ?_
    exact W.iret (v := r2) hx hb hr (fun t ht hW => ⟨⟨_, b, rfl, ⟨rfl, rfl, xSame_rf⟩, (by rw [ht]; exact hP), (hDX _ _ _ _)⟩, hS.F ht⟩) hS.2.2 dX8_info_18
set_option maxHeartbeats 4000000 in
set_option maxRecDepth 100000 in
theorem c_X8_slot (l : Launch) (hl0 : l.stackTraces = false) (D : va_G) (cI cF : ClassId) (b : Bf) (N : Nat) (u0 : M2) (φ : M2) (η : HT) (τ : M2) (p1 : Int32) (p2 : Int32) (p3 : Int32) (k0 : Nat) (r0 : Int32) (u0r φr : M2) (ηr : HT) (τr : M2) (hF : G_X8_slot N u0 φ η τ p1 p2 p3 = some (k0, r0, u0r, φr, ηr, τr)) : vx_Met l yX8_slot (wsA yX8_slot cX8_slot 4 (some .int)) { frames := 8, cells := 3, slots := 18, locals := 124 } (va_Pc [.ref (b 6 0), .int p1, .int p2, .int p3] (xP D cI cF b u0 φ η τ)) (va_Qi (fun (r : Int32) (u : Bf) => k0 = 0 ∧ r = r0 ∧ xSame b u) (fun u t => va_P D vwCl (xW cI cF u u0r φr ηr τr) t.heap ∧ va_D (fun _ => True) (xW cI cF u u0r φr ηr τr)) (xA b)) (vx_X (fun (u : Bf) => xSame b u) (fun E u t => ¬ k0 = 0 ∧ E = eOf k0 ∧ va_P D vwCl (xW cI cF u u0r φr ηr τr) t.heap ∧ va_D (fun _ => True) (xW cI cF u u0r φr ηr τr)) (xA b)) 3 18 (xA b) := by
  refine vx_ofW (cc := cX8_slot) (maxL := 4) (ret := (some .int)) (by decide) rfl ?_
  intro p e s m args below meth c s₁ B hml htab hpre
  obtain ⟨rfl, hP, hK, hD0, hT, hZ⟩ := hpre
  have hx := B.exec
  have hb := B.bytes
  have hr := B.returns
  have hA : ∀ w ∈ AW, w.before _ s = true := fun w h => atoms_spec (ws := wsA yX8_slot cX8_slot 4 (some .int)) B.pre w (List.mem_cons_of_mem _ h)
  have hown : s.vm.findClass RX8 = some m.cls := findClass_of_methodNamed B.named
  have hlocks := B.notSynchronized
  have hDX := X_D hD0
  have hDcur := X_d_cur hD0
  have hDtho := X_d_tho hD0
  have hDtxt := X_d_txt hD0
  have hDtc := X_d_tc hD0
  have hZ0 := hZ
  have hS : va_S (xA b) s.heap s.heap [] := va_S.rf
  have S : CallFix p m c cX8_slot 4 s ([.ref (b 6 0), .int p1, .int p2, .int p3] : List Value).toArray AW RX8 := ⟨hx, hb, hml, hown, hA⟩
  have hl := lv_entry ([.ref (b 6 0), .int p1, .int p2, .int p3]) (n := 4) (Nat.le_of_ble_eq_true rfl)
  rw [lg_entry_eq]
  generalize (lg_sl ([.ref (b 6 0), .int p1, .int p2, .int p3]) ++ List.replicate (4 - (lg_sl ([.ref (b 6 0), .int p1, .int p2, .int p3])).length) Slot.unset).toArray = ls at hl ⊢
  have hl : lv_has ls 4 [(0, .ref (b 6 0)), (1, .int p1), (2, .int p2), (3, .int p3)] := hl
  have h := hF
  unfold G_X8_slot at h
  refine lv_aload_n hx hb dX8_slot_0 rfl (lv_at hl 0 rfl) ?_
  refine lv_iload_n hx hb dX8_slot_1 rfl (lv_at hl 1 rfl) ?_
  refine lv_iload_n hx hb dX8_slot_2 rfl (lv_at hl 2 rfl) ?_
  refine kx_checkSlot S hl0 aM_RX8_126 ⟨Nat.le_of_ble_eq_true rfl, Nat.le_of_ble_eq_true rfl⟩ ⟨by decide, by decide⟩ hP hK (hDX _ _ _ _) hT hZ hS hl.1 (Nat.le_of_ble_eq_true rfl) dX8_slot_3 (fun hg ce q9 H locs hk hz hS h9 hv hcl => ?_) (fun hg H locs hk hz hS => ?_)
  · replace h := oi_t hg h
    obtain ⟨rfl, rfl, rfl, rfl, rfl, rfl⟩ := os6 h
    exact vx_out (fun x hx => (htab x hx).elim) hlocks h9 hv hcl (fun t ht _ => ⟨b, xSame_rf, ⟨by decide, rfl, (by rw [ht]; exact X_all hP hk), hDX _ _ _ _⟩, hS.F ht⟩) hS.2.2 (by decide) (by decide)
  · replace h := oi_f hg h
    have hP := X_all hP hk
    have hZ := hZ.kept (fun a ha _ => hk a ha)
    refine lv_iload_n hx hb dX8_slot_6 rfl (lv_at hl 3 rfl) ?_
    refine lv_iconst (v := 0) hx hb dX8_slot_7 (by decide) ?_
    refine lv_iconst (v := 3) hx hb dX8_slot_8 (by decide) ?_
    refine k_X8_within S aM_RX8_71 ⟨Nat.le_of_ble_eq_true rfl, Nat.le_of_ble_eq_true rfl⟩ ⟨by decide, by decide⟩ hl.1 (Nat.le_of_ble_eq_true rfl) dX8_slot_9 (fun r1 er1 br1 => ?_)
    replace h := olet_s er1 h
    refine fx_chk (n := 1) (As := [.int r1]) S (c_X8_checkArgument l hl0 (xA b) r1) hT hZ hS aM_RX8_101 aS_X8_checkArgument aN_RX8 aC_X8_checkArgument rfl rfl (by decide +kernel) rfl ⟨Nat.le_of_ble_eq_true rfl, Nat.le_of_ble_eq_true rfl⟩ ⟨by decide, by decide⟩ hl.1 (Nat.le_of_ble_eq_true rfl) dX8_slot_12 (fun hg ce q9 H locs hk hz hS h9 hv hcl => ?_) (fun hg H locs hk hz hS => ?_)
    · replace h := oi_t hg h
      obtain ⟨rfl, rfl, rfl, rfl, rfl, rfl⟩ := os6 h
      exact vx_out (fun x hx => (htab x hx).elim) hlocks h9 hv hcl (fun t ht _ => ⟨b, xSame_rf, ⟨by decide, rfl, (by rw [ht]; exact X_all hP hk), hDX _ _ _ _⟩, hS.F ht⟩) hS.2.2 (by decide) (by decide)
    · replace h := oi_f hg h
      have hP := X_all hP hk
      have hZ := hZ.kept (fun a ha _ => hk a ha)
      refine lv_aload_n hx hb dX8_slot_15 rfl (lv_at hl 0 rfl) ?_
      refine xg_current hx hb hA hown aF_RX8_10 hK hP dX8_slot_16 ?_
      refine lv_iload_n hx hb dX8_slot_19 rfl (lv_at hl 1 rfl) ?_
      refine lv_iload_n hx hb dX8_slot_20 rfl (lv_at hl 2 rfl) ?_
      refine lv_iload_n hx hb dX8_slot_21 rfl (lv_at hl 3 rfl) ?_
      obtain ⟨r2, h3, h⟩ := obd_e h
      refine k_X2_partOfSlot S aM_RX8_130 ⟨Nat.le_of_ble_eq_true rfl, Nat.le_of_ble_eq_true rfl⟩ ⟨by decide, by decide⟩ (X_p_cur hP) (X_k hK) hDcur h3 hl.1 (Nat.le_of_ble_eq_true rfl) dX8_slot_22 ?_
      obtain ⟨rfl, rfl, rfl, rfl, rfl, rfl⟩ := os6 h
      refine vx_ret ?_
      refine W.widen (k := 3) (n := 18) (by decide) (by decide) ?_
      exact W.iret (v := r2) hx hb hr (fun t ht hW => ⟨⟨_, b, rfl, ⟨rfl, rfl, xSame_rf⟩, (by rw [ht]; exact hP), (hDX _ _ _ _)⟩, hS.F ht⟩) hS.2.2 dX8_slot_25
set_option maxHeartbeats 4000000 in
set_option maxRecDepth 100000 in
theorem c_X8_stashed (l : Launch) (hl0 : l.stackTraces = false) (D : va_G) (cI cF : ClassId) (b : Bf) (N : Nat) (u0 : M2) (φ : M2) (η : HT) (τ : M2) (p1 : Int32) (p2 : Int32) (k0 : Nat) (r0 : Int32) (u0r φr : M2) (ηr : HT) (τr : M2) (hF : G_X8_stashed N u0 φ η τ p1 p2 = some (k0, r0, u0r, φr, ηr, τr)) : vx_Met l yX8_stashed (wsA yX8_stashed cX8_stashed 3 (some .int)) { frames := 7, cells := 2, slots := 12, locals := 102 } (va_Pc [.ref (b 6 0), .int p1, .int p2] (xP D cI cF b u0 φ η τ)) (va_Qi (fun (r : Int32) (u : Bf) => k0 = 0 ∧ r = r0 ∧ xSame b u) (fun u t => va_P D vwCl (xW cI cF u u0r φr ηr τr) t.heap ∧ va_D (fun _ => True) (xW cI cF u u0r φr ηr τr)) (xA b)) (vx_X (fun (u : Bf) => xSame b u) (fun E u t => ¬ k0 = 0 ∧ E = eOf k0 ∧ va_P D vwCl (xW cI cF u u0r φr ηr τr) t.heap ∧ va_D (fun _ => True) (xW cI cF u u0r φr ηr τr)) (xA b)) 2 12 (xA b) := by
  refine vx_ofW (cc := cX8_stashed) (maxL := 3) (ret := (some .int)) (by decide) rfl ?_
  intro p e s m args below meth c s₁ B hml htab hpre
  obtain ⟨rfl, hP, hK, hD0, hT, hZ⟩ := hpre
  have hx := B.exec
  have hb := B.bytes
  have hr := B.returns
  have hA : ∀ w ∈ AW, w.before _ s = true := fun w h => atoms_spec (ws := wsA yX8_stashed cX8_stashed 3 (some .int)) B.pre w (List.mem_cons_of_mem _ h)
  have hown : s.vm.findClass RX8 = some m.cls := findClass_of_methodNamed B.named
  have hlocks := B.notSynchronized
  have hDX := X_D hD0
  have hDcur := X_d_cur hD0
  have hDtho := X_d_tho hD0
  have hDtxt := X_d_txt hD0
  have hDtc := X_d_tc hD0
  have hZ0 := hZ
  have hS : va_S (xA b) s.heap s.heap [] := va_S.rf
  have S : CallFix p m c cX8_stashed 3 s ([.ref (b 6 0), .int p1, .int p2] : List Value).toArray AW RX8 := ⟨hx, hb, hml, hown, hA⟩
  have hl := lv_entry ([.ref (b 6 0), .int p1, .int p2]) (n := 3) (Nat.le_of_ble_eq_true rfl)
  rw [lg_entry_eq]
  generalize (lg_sl ([.ref (b 6 0), .int p1, .int p2]) ++ List.replicate (3 - (lg_sl ([.ref (b 6 0), .int p1, .int p2])).length) Slot.unset).toArray = ls at hl ⊢
  have hl : lv_has ls 3 [(0, .ref (b 6 0)), (1, .int p1), (2, .int p2)] := hl
  have h := hF
  unfold G_X8_stashed at h
  refine lv_iload_n hx hb dX8_stashed_0 rfl (lv_at hl 1 rfl) ?_
  refine lv_iconst (v := 0) hx hb dX8_stashed_1 (by decide) ?_
  refine lv_aload_n hx hb dX8_stashed_2 rfl (lv_at hl 0 rfl) ?_
  refine xg_current hx hb hA hown aF_RX8_10 hK hP dX8_stashed_3 ?_
  refine k_X2_stashSize S aM_RX8_108 ⟨Nat.le_of_ble_eq_true rfl, Nat.le_of_ble_eq_true rfl⟩ ⟨by decide, by decide⟩ (X_p_cur hP) (X_k hK) hDcur hl.1 (Nat.le_of_ble_eq_true rfl) dX8_stashed_6 (fun r1 er1 => ?_)
  replace h := olet_s er1 h
  refine lv_iconst (v := 1) hx hb dX8_stashed_9 (by decide) ?_
  refine lv_isub hx hb dX8_stashed_10 ?_
  refine k_X8_within S aM_RX8_71 ⟨Nat.le_of_ble_eq_true rfl, Nat.le_of_ble_eq_true rfl⟩ ⟨by decide, by decide⟩ hl.1 (Nat.le_of_ble_eq_true rfl) dX8_stashed_11 (fun r2 er2 br2 => ?_)
  replace h := olet_s er2 h
  refine fx_chk (n := 1) (As := [.int r2]) S (c_X8_checkPosition l hl0 (xA b) r2) hT hZ hS aM_RX8_75 aS_X8_checkPosition aN_RX8 aC_X8_checkPosition rfl rfl (by decide +kernel) rfl ⟨Nat.le_of_ble_eq_true rfl, Nat.le_of_ble_eq_true rfl⟩ ⟨by decide, by decide⟩ hl.1 (Nat.le_of_ble_eq_true rfl) dX8_stashed_14 (fun hg ce q9 H locs hk hz hS h9 hv hcl => ?_) (fun hg H locs hk hz hS => ?_)
  · replace h := oi_t hg h
    obtain ⟨rfl, rfl, rfl, rfl, rfl, rfl⟩ := os6 h
    exact vx_out (fun x hx => (htab x hx).elim) hlocks h9 hv hcl (fun t ht _ => ⟨b, xSame_rf, ⟨by decide, rfl, (by rw [ht]; exact X_all hP hk), hDX _ _ _ _⟩, hS.F ht⟩) hS.2.2 (by decide) (by decide)
  · replace h := oi_f hg h
    have hP := X_all hP hk
    have hZ := hZ.kept (fun a ha _ => hk a ha)
    refine lv_iload_n hx hb dX8_stashed_17 rfl (lv_at hl 2 rfl) ?_
    refine lv_iconst (v := 0) hx hb dX8_stashed_18 (by decide) ?_
    refine lv_iconst (v := 3) hx hb dX8_stashed_19 (by decide) ?_
    refine k_X8_within S aM_RX8_71 ⟨Nat.le_of_ble_eq_true rfl, Nat.le_of_ble_eq_true rfl⟩ ⟨by decide, by decide⟩ hl.1 (Nat.le_of_ble_eq_true rfl) dX8_stashed_20 (fun r3 er3 br3 => ?_)
    replace h := olet_s er3 h
    refine fx_chk (n := 1) (As := [.int r3]) S (c_X8_checkArgument l hl0 (xA b) r3) hT hZ hS aM_RX8_101 aS_X8_checkArgument aN_RX8 aC_X8_checkArgument rfl rfl (by decide +kernel) rfl ⟨Nat.le_of_ble_eq_true rfl, Nat.le_of_ble_eq_true rfl⟩ ⟨by decide, by decide⟩ hl.1 (Nat.le_of_ble_eq_true rfl) dX8_stashed_23 (fun hg ce q9 H locs hk hz hS h9 hv hcl => ?_) (fun hg H locs hk hz hS => ?_)
    · replace h := oi_t hg h
      obtain ⟨rfl, rfl, rfl, rfl, rfl, rfl⟩ := os6 h
      exact vx_out (fun x hx => (htab x hx).elim) hlocks h9 hv hcl (fun t ht _ => ⟨b, xSame_rf, ⟨by decide, rfl, (by rw [ht]; exact X_all hP hk), hDX _ _ _ _⟩, hS.F ht⟩) hS.2.2 (by decide) (by decide)
    · replace h := oi_f hg h
      have hP := X_all hP hk
      have hZ := hZ.kept (fun a ha _ => hk a ha)
      refine lv_aload_n hx hb dX8_stashed_26 rfl (lv_at hl 0 rfl) ?_
      refine xg_current hx hb hA hown aF_RX8_10 hK hP dX8_stashed_27 ?_
      refine lv_iload_n hx hb dX8_stashed_30 rfl (lv_at hl 1 rfl) ?_
      refine lv_iload_n hx hb dX8_stashed_31 rfl (lv_at hl 2 rfl) ?_
      obtain ⟨r4, h5, h⟩ := obd_e h
      refine k_X2_partOfStash S aM_RX8_134 ⟨Nat.le_of_ble_eq_true rfl, Nat.le_of_ble_eq_true rfl⟩ ⟨by decide, by decide⟩ (X_p_cur hP) (X_k hK) hDcur h5 hl.1 (Nat.le_of_ble_eq_true rfl) dX8_stashed_32 ?_
      obtain ⟨rfl, rfl, rfl, rfl, rfl, rfl⟩ := os6 h
      refine vx_ret ?_
      refine W.widen (k := 2) (n := 12) (by decide) (by decide) ?_
      exact W.iret (v := r4) hx hb hr (fun t ht hW => ⟨⟨_, b, rfl, ⟨rfl, rfl, xSame_rf⟩, (by rw [ht]; exact hP), (hDX _ _ _ _)⟩, hS.F ht⟩) hS.2.2 dX8_stashed_35
set_option maxHeartbeats 4000000 in
set_option maxRecDepth 100000 in
theorem c_X8_filled (l : Launch) (hl0 : l.stackTraces = false) (D : va_G) (cI cF : ClassId) (b : Bf) (N : Nat) (u0 : M2) (φ : M2) (η : HT) (τ : M2) (p1 : Int32) (k0 : Nat) (r0 : Int32) (u0r φr : M2) (ηr : HT) (τr : M2) (hF : G_X8_filled N u0 φ η τ p1 = some (k0, r0, u0r, φr, ηr, τr)) : vx_Met l yX8_filled (wsA yX8_filled cX8_filled 2 (some .int)) { frames := 7, cells := 1, slots := 6, locals := 102 } (va_Pc [.ref (b 6 0), .int p1] (xP D cI cF b u0 φ η τ)) (va_Qi (fun (r : Int32) (u : Bf) => k0 = 0 ∧ r = r0 ∧ xSame b u) (fun u t => va_P D vwCl (xW cI cF u u0r φr ηr τr) t.heap ∧ va_D (fun _ => True) (xW cI cF u u0r φr ηr τr)) (xA b)) (vx_X (fun (u : Bf) => xSame b u) (fun E u t => ¬ k0 = 0 ∧ E = eOf k0 ∧ va_P D vwCl (xW cI cF u u0r φr ηr τr) t.heap ∧ va_D (fun _ => True) (xW cI cF u u0r φr ηr τr)) (xA b)) 1 6 (xA b) := by
  refine vx_ofW (cc := cX8_filled) (maxL := 2) (ret := (some .int)) (by decide) rfl ?_
  intro p e s m args below meth c s₁ B hml htab hpre
  obtain ⟨rfl, hP, hK, hD0, hT, hZ⟩ := hpre
  have hx := B.exec
  have hb := B.bytes
  have hr := B.returns
  have hA : ∀ w ∈ AW, w.before _ s = true := fun w h => atoms_spec (ws := wsA yX8_filled cX8_filled 2 (some .int)) B.pre w (List.mem_cons_of_mem _ h)
  have hown : s.vm.findClass RX8 = some m.cls := findClass_of_methodNamed B.named
  have hlocks := B.notSynchronized
  have hDX := X_D hD0
  have hDcur := X_d_cur hD0
  have hDtho := X_d_tho hD0
  have hDtxt := X_d_txt hD0
  have hDtc := X_d_tc hD0
  have hZ0 := hZ
  have hS : va_S (xA b) s.heap s.heap [] := va_S.rf
  have S : CallFix p m c cX8_filled 2 s ([.ref (b 6 0), .int p1] : List Value).toArray AW RX8 := ⟨hx, hb, hml, hown, hA⟩
  have hl := lv_entry ([.ref (b 6 0), .int p1]) (n := 2) (Nat.le_of_ble_eq_true rfl)
  rw [lg_entry_eq]
  generalize (lg_sl ([.ref (b 6 0), .int p1]) ++ List.replicate (2 - (lg_sl ([.ref (b 6 0), .int p1])).length) Slot.unset).toArray = ls at hl ⊢
  have hl : lv_has ls 2 [(0, .ref (b 6 0)), (1, .int p1)] := hl
  have h := hF
  unfold G_X8_filled at h
  refine lv_iload_n hx hb dX8_filled_0 rfl (lv_at hl 1 rfl) ?_
  refine lv_iconst (v := 0) hx hb dX8_filled_1 (by decide) ?_
  refine lv_iconst (v := 4) hx hb dX8_filled_2 (by decide) ?_
  refine k_X8_within S aM_RX8_71 ⟨Nat.le_of_ble_eq_true rfl, Nat.le_of_ble_eq_true rfl⟩ ⟨by decide, by decide⟩ hl.1 (Nat.le_of_ble_eq_true rfl) dX8_filled_3 (fun r1 er1 br1 => ?_)
  replace h := olet_s er1 h
  refine fx_chk (n := 1) (As := [.int r1]) S (c_X8_checkArgument l hl0 (xA b) r1) hT hZ hS aM_RX8_101 aS_X8_checkArgument aN_RX8 aC_X8_checkArgument rfl rfl (by decide +kernel) rfl ⟨Nat.le_of_ble_eq_true rfl, Nat.le_of_ble_eq_true rfl⟩ ⟨by decide, by decide⟩ hl.1 (Nat.le_of_ble_eq_true rfl) dX8_filled_6 (fun hg ce q9 H locs hk hz hS h9 hv hcl => ?_) (fun hg H locs hk hz hS => ?_)
  · replace h := oi_t hg h
    obtain ⟨rfl, rfl, rfl, rfl, rfl, rfl⟩ := os6 h
    exact vx_out (fun x hx => (htab x hx).elim) hlocks h9 hv hcl (fun t ht _ => ⟨b, xSame_rf, ⟨by decide, rfl, (by rw [ht]; exact X_all hP hk), hDX _ _ _ _⟩, hS.F ht⟩) hS.2.2 (by decide) (by decide)
  · replace h := oi_f hg h
    have hP := X_all hP hk
    have hZ := hZ.kept (fun a ha _ => hk a ha)
    refine lv_aload_n hx hb dX8_filled_9 rfl (lv_at hl 0 rfl) ?_
    refine xg_current hx hb hA hown aF_RX8_10 hK hP dX8_filled_10 ?_
    refine lv_iload_n hx hb dX8_filled_13 rfl (lv_at hl 1 rfl) ?_
    obtain ⟨r2, h3, h⟩ := obd_e h
    refine k_X2_bucketsWith S aM_RX8_138 ⟨Nat.le_of_ble_eq_true rfl, Nat.le_of_ble_eq_true rfl⟩ ⟨by decide, by decide⟩ (X_p_cur hP) (X_k hK) hDcur h3 hl.1 (Nat.le_of_ble_eq_true rfl) dX8_filled_14 ?_
    obtain ⟨rfl, rfl, rfl, rfl, rfl, rfl⟩ := os6 h
    refine vx_ret ?_
    refine W.widen (k := 1) (n := 6) (by decide) (by decide) ?_
    exact W.iret (v := r2) hx hb hr (fun t ht hW => ⟨⟨_, b, rfl, ⟨rfl, rfl, xSame_rf⟩, (by rw [ht]; exact hP), (hDX _ _ _ _)⟩, hS.F ht⟩) hS.2.2 dX8_filled_17
set_option maxHeartbeats 4000000 in
set_option maxRecDepth 100000 in
theorem c_X8_walk (l : Launch) (hl0 : l.stackTraces = false) (D : va_G) (cI cF : ClassId) (b : Bf) (N : Nat) (u0 : M2) (φ : M2) (η : HT) (τ : M2) (p1 : Int32) (k0 : Nat) (r0 : Int32) (u0r φr : M2) (ηr : HT) (τr : M2) (hF : G_X8_walk N u0 φ η τ p1 = some (k0, r0, u0r, φr, ηr, τr)) : vx_Met l yX8_walk (wsA yX8_walk cX8_walk 2 (some .int)) { frames := 8, cells := 1, slots := 6, locals := 122 } (va_Pc [.ref (b 6 0), .int p1] (xP D cI cF b u0 φ η τ)) (va_Qi (fun (r : Int32) (u : Bf) => k0 = 0 ∧ r = r0 ∧ xSame b u) (fun u t => va_P D vwCl (xW cI cF u u0r φr ηr τr) t.heap ∧ va_D (fun _ => True) (xW cI cF u u0r φr ηr τr)) (xA b)) (vx_X (fun (u : Bf) => xSame b u) (fun E u t => ¬ k0 = 0 ∧ E = eOf k0 ∧ va_P D vwCl (xW cI cF u u0r φr ηr τr) t.heap ∧ va_D (fun _ => True) (xW cI cF u u0r φr ηr τr)) (xA b)) 1 6 (xA b) := by
  refine vx_ofW (cc := cX8_walk) (maxL := 2) (ret := (some .int)) (by decide) rfl ?_
  intro p e s m args below meth c s₁ B hml htab hpre
  obtain ⟨rfl, hP, hK, hD0, hT, hZ⟩ := hpre
  have hx := B.exec
  have hb := B.bytes
  have hr := B.returns
  have hA : ∀ w ∈ AW, w.before _ s = true := fun w h => atoms_spec (ws := wsA yX8_walk cX8_walk 2 (some .int)) B.pre w (List.mem_cons_of_mem _ h)
  have hown : s.vm.findClass RX8 = some m.cls := findClass_of_methodNamed B.named
  have hlocks := B.notSynchronized
  have hDX := X_D hD0
  have hDcur := X_d_cur hD0
  have hDtho := X_d_tho hD0
  have hDtxt := X_d_txt hD0
  have hDtc := X_d_tc hD0
  have hZ0 := hZ
  have hS : va_S (xA b) s.heap s.heap [] := va_S.rf
  have S : CallFix p m c cX8_walk 2 s ([.ref (b 6 0), .int p1] : List Value).toArray AW RX8 := ⟨hx, hb, hml, hown, hA⟩
  have hl := lv_entry ([.ref (b 6 0), .int p1]) (n := 2) (Nat.le_of_ble_eq_true rfl)
  rw [lg_entry_eq]
  generalize (lg_sl ([.ref (b 6 0), .int p1]) ++ List.replicate (2 - (lg_sl ([.ref (b 6 0), .int p1])).length) Slot.unset).toArray = ls at hl ⊢
  have hl : lv_has ls 2 [(0, .ref (b 6 0)), (1, .int p1)] := hl
  have h := hF
  unfold G_X8_walk at h
  refine lv_iload_n hx hb dX8_walk_0 rfl (lv_at hl 1 rfl) ?_
  refine fx_chk (n := 1) (As := [.int p1]) S (c_X8_checkKey l hl0 (xA b) p1) hT hZ hS aM_RX8_33 aS_X8_checkKey aN_RX8 aC_X8_checkKey rfl rfl (by decide +kernel) rfl ⟨Nat.le_of_ble_eq_true rfl, Nat.le_of_ble_eq_true rfl⟩ ⟨by decide, by decide⟩ hl.1 (Nat.le_of_ble_eq_true rfl) dX8_walk_1 (fun hg ce q9 H locs hk hz hS h9 hv hcl => ?_) (fun hg H locs hk hz hS => ?_)
  · replace h := oi_t hg h
    obtain ⟨rfl, rfl, rfl, rfl, rfl, rfl⟩ := os6 h
    exact vx_out (fun x hx => (htab x hx).elim) hlocks h9 hv hcl (fun t ht _ => ⟨b, xSame_rf, ⟨by decide, rfl, (by rw [ht]; exact X_all hP hk), hDX _ _ _ _⟩, hS.F ht⟩) hS.2.2 (by decide) (by decide)
  · replace h := oi_f hg h
    have hP := X_all hP hk
    have hZ := hZ.kept (fun a ha _ => hk a ha)
    refine lv_aload_n hx hb dX8_walk_4 rfl (lv_at hl 0 rfl) ?_
    refine xg_thought hx hb hA hown aF_RX8_16 hK hP dX8_walk_5 ?_
    refine lv_aload_n hx hb dX8_walk_8 rfl (lv_at hl 0 rfl) ?_
    refine xg_current hx hb hA hown aF_RX8_10 hK hP dX8_walk_9 ?_
    obtain ⟨w1, h2, h⟩ := obd_e h
    refine fx_runVv (n := 1) (C := RX2) (As := [.ref (b 0 0)]) S (c_X2_copyFrom l D cI (xPa (b 1) (b 0)) N (xPm φ u0) w1 h2) (P_pre (q0 := 0) (ci := 0) (X_k hK) (X_p_tc hP) (hDtc _) rfl rfl) hS (fun q h => X_a_tc h) aM_RX8_82 aI_X2_copyFrom aV_X2_copyFrom aN_RX2 aC_X2_copyFrom rfl rfl (by decide +kernel) rfl ⟨Nat.le_of_ble_eq_true rfl, Nat.le_of_ble_eq_true rfl⟩ ⟨by decide, by decide⟩ hl.1 (Nat.le_of_ble_eq_true rfl) dX8_walk_12 (fun _ t H locs ht _ hB hk hz hS => ?_)
    have hP := X_set_tc hP (hDX _ _ _ _) hk (by rw [← ht]; exact hB)
    have hZ := hZ.kept (fun a ha hn => hk a ha (fun z => hn (X_a_tc z)))
    obtain ⟨u3, eu3⟩ : ∃ u3, u3 = xsh w1 := ⟨_, rfl⟩
    rw [← eu3] at hP
    replace h := olet_s eu3 h
    refine lv_aload_n hx hb dX8_walk_15 rfl (lv_at hl 0 rfl) ?_
    refine xg_thought hx hb hA hown aF_RX8_16 hK hP dX8_walk_16 ?_
    refine lv_iload_n hx hb dX8_walk_19 rfl (lv_at hl 1 rfl) ?_
    obtain ⟨r6, w4, h5, h⟩ := obd2_e h
    refine fx_runVi (n := 1) (C := RX2) (As := [.int p1]) S (c_X2_insert l D cI (b 1) N w1 p1 r6 w4 h5) (F_pre (q0 := 0) (ci := 0) (X_k hK) (X_p_tho hP) (hDtho _) rfl rfl) hS (fun q h => X_a_tho h) aM_RX8_141 aI_X2_insert aV_X2_insert aN_RX2 aC_X2_insert rfl rfl (by decide +kernel) rfl ⟨Nat.le_of_ble_eq_true rfl, Nat.le_of_ble_eq_true rfl⟩ ⟨by decide, by decide⟩ hl.1 (Nat.le_of_ble_eq_true rfl) dX8_walk_20 (fun rr _ t H locs ht hr hB hk hz hS => ?_)
    replace hr := hr.symm
    subst hr
    have hP := X_set_tho hP (hDX _ _ _ _) hk (by rw [← ht]; exact hB)
    have hZ := hZ.kept (fun a ha hn => hk a ha (fun z => hn (X_a_tho z)))
    obtain ⟨rfl, rfl, rfl, rfl, rfl, rfl⟩ := os6 h
    refine vx_ret ?_
    refine W.widen (k := 1) (n := 6) (by decide) (by decide) ?_
    exact W.iret (v := r6) hx hb hr (fun t ht hW => ⟨⟨_, b, rfl, ⟨rfl, rfl, xSame_rf⟩, (by rw [ht]; exact hP), (hDX _ _ _ _)⟩, hS.F ht⟩) hS.2.2 dX8_walk_23
set_option maxHeartbeats 4000000 in
set_option maxRecDepth 100000 in
theorem c_X8_walkStep (l : Launch) (hl0 : l.stackTraces = false) (D : va_G) (cI cF : ClassId) (b : Bf) (N : Nat) (u0 : M2) (φ : M2) (η : HT) (τ : M2) (p1 : Int32) (p2 : Int32) (p3 : Int32) (k0 : Nat) (r0 : Int32) (u0r φr : M2) (ηr : HT) (τr : M2) (hF : G_X8_walkStep N u0 φ η τ p1 p2 p3 = some (k0, r0, u0r, φr, ηr, τr)) : vx_Met l yX8_walkStep (wsA yX8_walkStep cX8_walkStep 4 (some .int)) { frames := 8, cells := 1, slots := 6, locals := 122 } (va_Pc [.ref (b 6 0), .int p1, .int p2, .int p3] (xP D cI cF b u0 φ η τ)) (va_Qi (fun (r : Int32) (u : Bf) => k0 = 0 ∧ r = r0 ∧ xSame b u) (fun u t => va_P D vwCl (xW cI cF u u0r φr ηr τr) t.heap ∧ va_D (fun _ => True) (xW cI cF u u0r φr ηr τr)) (xA b)) (vx_X (fun (u : Bf) => xSame b u) (fun E u t => ¬ k0 = 0 ∧ E = eOf k0 ∧ va_P D vwCl (xW cI cF u u0r φr ηr τr) t.heap ∧ va_D (fun _ => True) (xW cI cF u u0r φr ηr τr)) (xA b)) 1 6 (xA b) := by
  refine vx_ofW (cc := cX8_walkStep) (maxL := 4) (ret := (some .int)) (by decide) rfl ?_
  intro p e s m args below meth c s₁ B hml htab hpre
  obtain ⟨rfl, hP, hK, hD0, hT, hZ⟩ := hpre
  have hx := B.exec
  have hb := B.bytes
  have hr := B.returns
  have hA : ∀ w ∈ AW, w.before _ s = true := fun w h => atoms_spec (ws := wsA yX8_walkStep cX8_walkStep 4 (some .int)) B.pre w (List.mem_cons_of_mem _ h)
  have hown : s.vm.findClass RX8 = some m.cls := findClass_of_methodNamed B.named
  have hlocks := B.notSynchronized
  have hDX := X_D hD0
  have hDcur := X_d_cur hD0
  have hDtho := X_d_tho hD0
  have hDtxt := X_d_txt hD0
  have hDtc := X_d_tc hD0
  have hZ0 := hZ
  have hS : va_S (xA b) s.heap s.heap [] := va_S.rf
  have S : CallFix p m c cX8_walkStep 4 s ([.ref (b 6 0), .int p1, .int p2, .int p3] : List Value).toArray AW RX8 := ⟨hx, hb, hml, hown, hA⟩
  have hl := lv_entry ([.ref (b 6 0), .int p1, .int p2, .int p3]) (n := 4) (Nat.le_of_ble_eq_true rfl)
  rw [lg_entry_eq]
  generalize (lg_sl ([.ref (b 6 0), .int p1, .int p2, .int p3]) ++ List.replicate (4 - (lg_sl ([.ref (b 6 0), .int p1, .int p2, .int p3])).length) Slot.unset).toArray = ls at hl ⊢
  have hl : lv_has ls 4 [(0, .ref (b 6 0)), (1, .int p1), (2, .int p2), (3, .int p3)] := hl
  have h := hF
  unfold G_X8_walkStep at h
  refine lv_iload_n hx hb dX8_walkStep_0 rfl (lv_at hl 1 rfl) ?_
  refine fx_chk (n := 1) (As := [.int p1]) S (c_X8_checkKey l hl0 (xA b) p1) hT hZ hS aM_RX8_33 aS_X8_checkKey aN_RX8 aC_X8_checkKey rfl rfl (by decide +kernel) rfl ⟨Nat.le_of_ble_eq_true rfl, Nat.le_of_ble_eq_true rfl⟩ ⟨by decide, by decide⟩ hl.1 (Nat.le_of_ble_eq_true rfl) dX8_walkStep_1 (fun hg ce q9 H locs hk hz hS h9 hv hcl => ?_) (fun hg H locs hk hz hS => ?_)
  · replace h := oi_t hg h
    obtain ⟨rfl, rfl, rfl, rfl, rfl, rfl⟩ := os6 h
    exact vx_out (fun x hx => (htab x hx).elim) hlocks h9 hv hcl (fun t ht _ => ⟨b, xSame_rf, ⟨by decide, rfl, (by rw [ht]; exact X_all hP hk), hDX _ _ _ _⟩, hS.F ht⟩) hS.2.2 (by decide) (by decide)
  · replace h := oi_f hg h
    have hP := X_all hP hk
    have hZ := hZ.kept (fun a ha _ => hk a ha)
    refine lv_aload_n hx hb dX8_walkStep_4 rfl (lv_at hl 0 rfl) ?_
    refine xg_thought hx hb hA hown aF_RX8_16 hK hP dX8_walkStep_5 ?_
    refine lv_aload_n hx hb dX8_walkStep_8 rfl (lv_at hl 0 rfl) ?_
    refine xg_current hx hb hA hown aF_RX8_10 hK hP dX8_walkStep_9 ?_
    obtain ⟨w1, h2, h⟩ := obd_e h
    refine fx_runVv (n := 1) (C := RX2) (As := [.ref (b 0 0)]) S (c_X2_copyFrom l D cI (xPa (b 1) (b 0)) N (xPm φ u0) w1 h2) (P_pre (q0 := 0) (ci := 0) (X_k hK) (X_p_tc hP) (hDtc _) rfl rfl) hS (fun q h => X_a_tc h) aM_RX8_82 aI_X2_copyFrom aV_X2_copyFrom aN_RX2 aC_X2_copyFrom rfl rfl (by decide +kernel) rfl ⟨Nat.le_of_ble_eq_true rfl, Nat.le_of_ble_eq_true rfl⟩ ⟨by decide, by decide⟩ hl.1 (Nat.le_of_ble_eq_true rfl) dX8_walkStep_12 (fun _ t H locs ht _ hB hk hz hS => ?_)
    have hP := X_set_tc hP (hDX _ _ _ _) hk (by rw [← ht]; exact hB)
    have hZ := hZ.kept (fun a ha hn => hk a ha (fun z => hn (X_a_tc z)))
    obtain ⟨u3, eu3⟩ : ∃ u3, u3 = xsh w1 := ⟨_, rfl⟩
    rw [← eu3] at hP
    replace h := olet_s eu3 h
    refine lv_aload_n hx hb dX8_walkStep_15 rfl (lv_at hl 0 rfl) ?_
    refine xg_thought hx hb hA hown aF_RX8_16 hK hP dX8_walkStep_16 ?_
    refine lv_iload_n hx hb dX8_walkStep_19 rfl (lv_at hl 1 rfl) ?_
    obtain ⟨r6, w4, h5, h⟩ := obd2_e h
    refine fx_runVi (n := 1) (C := RX2) (As := [.int p1]) S (c_X2_insert l D cI (b 1) N w1 p1 r6 w4 h5) (F_pre (q0 := 0) (ci := 0) (X_k hK) (X_p_tho hP) (hDtho _) rfl rfl) hS (fun q h => X_a_tho h) aM_RX8_141 aI_X2_insert aV_X2_insert aN_RX2 aC_X2_insert rfl rfl (by decide +kernel) rfl ⟨Nat.le_of_ble_eq_true rfl, Nat.le_of_ble_eq_true rfl⟩ ⟨by decide, by decide⟩ hl.1 (Nat.le_of_ble_eq_true rfl) dX8_walkStep_20 (fun rr _ t H locs ht hr hB hk hz hS => ?_)
    replace hr := hr.symm
    subst hr
    have hP := X_set_tho hP (hDX _ _ _ _) hk (by rw [← ht]; exact hB)
    have hZ := hZ.kept (fun a ha hn => hk a ha (fun z => hn (X_a_tho z)))
    refine lv_pop hx hb dX8_walkStep_23 rfl ?_
    refine lv_iload_n hx hb dX8_walkStep_24 rfl (lv_at hl 3 rfl) ?_
    refine lv_if_eq (tgt := 42) hx hb dX8_walkStep_25 (by decide) (fun hc => ?_) (fun hc => ?_)
    · replace h := oi_t hc h
      refine lv_aload_n hx hb dX8_walkStep_42 rfl (lv_at hl 0 rfl) ?_
      refine xg_thought hx hb hA hown aF_RX8_16 hK hP dX8_walkStep_43 ?_
      refine k_X2_walked S aM_RX8_144 ⟨Nat.le_of_ble_eq_true rfl, Nat.le_of_ble_eq_true rfl⟩ ⟨by decide, by decide⟩ (X_p_tho hP) (X_k hK) hDtho hl.1 (Nat.le_of_ble_eq_true rfl) dX8_walkStep_46 ?_
      refine lv_iload_n hx hb dX8_walkStep_49 rfl (lv_at hl 2 rfl) ?_
      obtain ⟨r7, h8, h⟩ := obd_e h
      refine k_X7_placeAt S aM_RX8_153 ⟨Nat.le_of_ble_eq_true rfl, Nat.le_of_ble_eq_true rfl⟩ ⟨by decide, by decide⟩ (X_p_tho hP) (X_k hK) hDtho h8 hl.1 (Nat.le_of_ble_eq_true rfl) dX8_walkStep_50 ?_
      obtain ⟨rfl, rfl, rfl, rfl, rfl, rfl⟩ := os6 h
      refine vx_ret ?_
      refine W.widen (k := 1) (n := 6) (by decide) (by decide) ?_
      exact W.iret (v := r7) hx hb hr (fun t ht hW => ⟨⟨_, b, rfl, ⟨rfl, rfl, xSame_rf⟩, (by rw [ht]; exact hP), (hDX _ _ _ _)⟩, hS.F ht⟩) hS.2.2 dX8_walkStep_53
    · replace h := oi_f hc h
      refine lv_aload_n hx hb dX8_walkStep_28 rfl (lv_at hl 0 rfl) ?_
      refine xg_thought hx hb hA hown aF_RX8_16 hK hP dX8_walkStep_29 ?_
      refine k_X2_walked S aM_RX8_144 ⟨Nat.le_of_ble_eq_true rfl, Nat.le_of_ble_eq_true rfl⟩ ⟨by decide, by decide⟩ (X_p_tho hP) (X_k hK) hDtho hl.1 (Nat.le_of_ble_eq_true rfl) dX8_walkStep_32 ?_
      refine lv_iload_n hx hb dX8_walkStep_35 rfl (lv_at hl 2 rfl) ?_
      obtain ⟨r9, h10, h⟩ := obd_e h
      refine k_X7_tagAt S aM_RX8_148 ⟨Nat.le_of_ble_eq_true rfl, Nat.le_of_ble_eq_true rfl⟩ ⟨by decide, by decide⟩ (X_p_tho hP) (X_k hK) hDtho h10 hl.1 (Nat.le_of_ble_eq_true rfl) dX8_walkStep_36 ?_
      refine lv_goto (tgt := 53) hx hb dX8_walkStep_39 (by decide) ?_
      obtain ⟨rfl, rfl, rfl, rfl, rfl, rfl⟩ := os6 h
      refine vx_ret ?_
      refine W.widen (k := 1) (n := 6) (by decide) (by decide) ?_
      exact W.iret (v := r9) hx hb hr (fun t ht hW => ⟨⟨_, b, rfl, ⟨rfl, rfl, xSame_rf⟩, (by rw [ht]; exact hP), (hDX _ _ _ _)⟩, hS.F ht⟩) hS.2.2 dX8_walkStep_53
set_option maxHeartbeats 4000000 in
set_option maxRecDepth 100000 in
theorem c_X8_leastMoves (l : Launch) (hl0 : l.stackTraces = false) (D : va_G) (cI cF : ClassId) (b : Bf) (N : Nat) (u0 : M2) (φ : M2) (η : HT) (τ : M2) (p1 : Int32) (k0 : Nat) (r0 : Int32) (u0r φr : M2) (ηr : HT) (τr : M2) (hF : G_X8_leastMoves N u0 φ η τ p1 = some (k0, r0, u0r, φr, ηr, τr)) : vx_Met l yX8_leastMoves (wsA yX8_leastMoves cX8_leastMoves 2 (some .int)) { frames := 8, cells := 1, slots := 6, locals := 122 } (va_Pc [.ref (b 6 0), .int p1] (xP D cI cF b u0 φ η τ)) (va_Qi (fun (r : Int32) (u : Bf) => k0 = 0 ∧ r = r0 ∧ xSame b u) (fun u t => va_P D vwCl (xW cI cF u u0r φr ηr τr) t.heap ∧ va_D (fun _ => True) (xW cI cF u u0r φr ηr τr)) (xA b)) (vx_X (fun (u : Bf) => xSame b u) (fun E u t => ¬ k0 = 0 ∧ E = eOf k0 ∧ va_P D vwCl (xW cI cF u u0r φr ηr τr) t.heap ∧ va_D (fun _ => True) (xW cI cF u u0r φr ηr τr)) (xA b)) 1 6 (xA b) := by
  refine vx_ofW (cc := cX8_leastMoves) (maxL := 2) (ret := (some .int)) (by decide) rfl ?_
  intro p e s m args below meth c s₁ B hml htab hpre
  obtain ⟨rfl, hP, hK, hD0, hT, hZ⟩ := hpre
  have hx := B.exec
  have hb := B.bytes
  have hr := B.returns
  have hA : ∀ w ∈ AW, w.before _ s = true := fun w h => atoms_spec (ws := wsA yX8_leastMoves cX8_leastMoves 2 (some .int)) B.pre w (List.mem_cons_of_mem _ h)
  have hown : s.vm.findClass RX8 = some m.cls := findClass_of_methodNamed B.named
  have hlocks := B.notSynchronized
  have hDX := X_D hD0
  have hDcur := X_d_cur hD0
  have hDtho := X_d_tho hD0
  have hDtxt := X_d_txt hD0
  have hDtc := X_d_tc hD0
  have hZ0 := hZ
  have hS : va_S (xA b) s.heap s.heap [] := va_S.rf
  have S : CallFix p m c cX8_leastMoves 2 s ([.ref (b 6 0), .int p1] : List Value).toArray AW RX8 := ⟨hx, hb, hml, hown, hA⟩
  have hl := lv_entry ([.ref (b 6 0), .int p1]) (n := 2) (Nat.le_of_ble_eq_true rfl)
  rw [lg_entry_eq]
  generalize (lg_sl ([.ref (b 6 0), .int p1]) ++ List.replicate (2 - (lg_sl ([.ref (b 6 0), .int p1])).length) Slot.unset).toArray = ls at hl ⊢
  have hl : lv_has ls 2 [(0, .ref (b 6 0)), (1, .int p1)] := hl
  have h := hF
  unfold G_X8_leastMoves at h
  refine lv_iload_n hx hb dX8_leastMoves_0 rfl (lv_at hl 1 rfl) ?_
  refine fx_chk (n := 1) (As := [.int p1]) S (c_X8_checkKey l hl0 (xA b) p1) hT hZ hS aM_RX8_33 aS_X8_checkKey aN_RX8 aC_X8_checkKey rfl rfl (by decide +kernel) rfl ⟨Nat.le_of_ble_eq_true rfl, Nat.le_of_ble_eq_true rfl⟩ ⟨by decide, by decide⟩ hl.1 (Nat.le_of_ble_eq_true rfl) dX8_leastMoves_1 (fun hg ce q9 H locs hk hz hS h9 hv hcl => ?_) (fun hg H locs hk hz hS => ?_)
  · replace h := oi_t hg h
    obtain ⟨rfl, rfl, rfl, rfl, rfl, rfl⟩ := os6 h
    exact vx_out (fun x hx => (htab x hx).elim) hlocks h9 hv hcl (fun t ht _ => ⟨b, xSame_rf, ⟨by decide, rfl, (by rw [ht]; exact X_all hP hk), hDX _ _ _ _⟩, hS.F ht⟩) hS.2.2 (by decide) (by decide)
  · replace h := oi_f hg h
    have hP := X_all hP hk
    have hZ := hZ.kept (fun a ha _ => hk a ha)
    refine lv_aload_n hx hb dX8_leastMoves_4 rfl (lv_at hl 0 rfl) ?_
    refine xg_thought hx hb hA hown aF_RX8_16 hK hP dX8_leastMoves_5 ?_
    refine lv_aload_n hx hb dX8_leastMoves_8 rfl (lv_at hl 0 rfl) ?_
    refine xg_current hx hb hA hown aF_RX8_10 hK hP dX8_leastMoves_9 ?_
    obtain ⟨w1, h2, h⟩ := obd_e h
    refine fx_runVv (n := 1) (C := RX2) (As := [.ref (b 0 0)]) S (c_X2_copyFrom l D cI (xPa (b 1) (b 0)) N (xPm φ u0) w1 h2) (P_pre (q0 := 0) (ci := 0) (X_k hK) (X_p_tc hP) (hDtc _) rfl rfl) hS (fun q h => X_a_tc h) aM_RX8_82 aI_X2_copyFrom aV_X2_copyFrom aN_RX2 aC_X2_copyFrom rfl rfl (by decide +kernel) rfl ⟨Nat.le_of_ble_eq_true rfl, Nat.le_of_ble_eq_true rfl⟩ ⟨by decide, by decide⟩ hl.1 (Nat.le_of_ble_eq_true rfl) dX8_leastMoves_12 (fun _ t H locs ht _ hB hk hz hS => ?_)
    have hP := X_set_tc hP (hDX _ _ _ _) hk (by rw [← ht]; exact hB)
    have hZ := hZ.kept (fun a ha hn => hk a ha (fun z => hn (X_a_tc z)))
    obtain ⟨u3, eu3⟩ : ∃ u3, u3 = xsh w1 := ⟨_, rfl⟩
    rw [← eu3] at hP
    replace h := olet_s eu3 h
    refine lv_aload_n hx hb dX8_leastMoves_15 rfl (lv_at hl 0 rfl) ?_
    refine xg_thought hx hb hA hown aF_RX8_16 hK hP dX8_leastMoves_16 ?_
    refine lv_iload_n hx hb dX8_leastMoves_19 rfl (lv_at hl 1 rfl) ?_
    obtain ⟨r6, w4, h5, h⟩ := obd2_e h
    refine fx_runVi (n := 1) (C := RX2) (As := [.int p1]) S (c_X2_insertShortest l D cI (b 1) N w1 p1 r6 w4 h5) (F_pre (q0 := 0) (ci := 0) (X_k hK) (X_p_tho hP) (hDtho _) rfl rfl) hS (fun q h => X_a_tho h) aM_RX8_156 aI_X2_insertShortest aV_X2_insertShortest aN_RX2 aC_X2_insertShortest rfl rfl (by decide +kernel) rfl ⟨Nat.le_of_ble_eq_true rfl, Nat.le_of_ble_eq_true rfl⟩ ⟨by decide, by decide⟩ hl.1 (Nat.le_of_ble_eq_true rfl) dX8_leastMoves_20 (fun rr _ t H locs ht hr hB hk hz hS => ?_)
    replace hr := hr.symm
    subst hr
    have hP := X_set_tho hP (hDX _ _ _ _) hk (by rw [← ht]; exact hB)
    have hZ := hZ.kept (fun a ha hn => hk a ha (fun z => hn (X_a_tho z)))
    obtain ⟨rfl, rfl, rfl, rfl, rfl, rfl⟩ := os6 h
    refine vx_ret ?_
    refine W.widen (k := 1) (n := 6) (by decide) (by decide) ?_
    exact W.iret (v := r6) hx hb hr (fun t ht hW => ⟨⟨_, b, rfl, ⟨rfl, rfl, xSame_rf⟩, (by rw [ht]; exact hP), (hDX _ _ _ _)⟩, hS.F ht⟩) hS.2.2 dX8_leastMoves_23
set_option maxHeartbeats 4000000 in
set_option maxRecDepth 100000 in
theorem c_X8_roomFor (l : Launch) (hl0 : l.stackTraces = false) (D : va_G) (cI cF : ClassId) (b : Bf) (N : Nat) (u0 : M2) (φ : M2) (η : HT) (τ : M2) (p1 : Int32) (p2 : Int32) (k0 : Nat) (r0 : Int32) (u0r φr : M2) (ηr : HT) (τr : M2) (hF : G_X8_roomFor N u0 φ η τ p1 p2 = some (k0, r0, u0r, φr, ηr, τr)) : vx_Met l yX8_roomFor (wsA yX8_roomFor cX8_roomFor 5 (some .int)) { frames := 8, cells := 1, slots := 6, locals := 123 } (va_Pc [.ref (b 6 0), .int p1, .int p2] (xP D cI cF b u0 φ η τ)) (va_Qi (fun (r : Int32) (u : Bf) => k0 = 0 ∧ r = r0 ∧ xSame b u) (fun u t => va_P D vwCl (xW cI cF u u0r φr ηr τr) t.heap ∧ va_D (fun _ => True) (xW cI cF u u0r φr ηr τr)) (xA b)) (vx_X (fun (u : Bf) => xSame b u) (fun E u t => ¬ k0 = 0 ∧ E = eOf k0 ∧ va_P D vwCl (xW cI cF u u0r φr ηr τr) t.heap ∧ va_D (fun _ => True) (xW cI cF u u0r φr ηr τr)) (xA b)) 1 6 (xA b) := by
  refine vx_ofW (cc := cX8_roomFor) (maxL := 5) (ret := (some .int)) (by decide) rfl ?_
  intro p e s m args below meth c s₁ B hml htab hpre
  obtain ⟨rfl, hP, hK, hD0, hT, hZ⟩ := hpre
  have hx := B.exec
  have hb := B.bytes
  have hr := B.returns
  have hA : ∀ w ∈ AW, w.before _ s = true := fun w h => atoms_spec (ws := wsA yX8_roomFor cX8_roomFor 5 (some .int)) B.pre w (List.mem_cons_of_mem _ h)
  have hown : s.vm.findClass RX8 = some m.cls := findClass_of_methodNamed B.named
  have hlocks := B.notSynchronized
  have hDX := X_D hD0
  have hDcur := X_d_cur hD0
  have hDtho := X_d_tho hD0
  have hDtxt := X_d_txt hD0
  have hDtc := X_d_tc hD0
  have hZ0 := hZ
  have hS : va_S (xA b) s.heap s.heap [] := va_S.rf
  have S : CallFix p m c cX8_roomFor 5 s ([.ref (b 6 0), .int p1, .int p2] : List Value).toArray AW RX8 := ⟨hx, hb, hml, hown, hA⟩
  have hl := lv_entry ([.ref (b 6 0), .int p1, .int p2]) (n := 5) (Nat.le_of_ble_eq_true rfl)
  rw [lg_entry_eq]
  generalize (lg_sl ([.ref (b 6 0), .int p1, .int p2]) ++ List.replicate (5 - (lg_sl ([.ref (b 6 0), .int p1, .int p2])).length) Slot.unset).toArray = ls at hl ⊢
  have hl : lv_has ls 5 [(0, .ref (b 6 0)), (1, .int p1), (2, .int p2)] := hl
  have hL21 : ∀ (k : Nat) (v2 : Int32) (v3 : Int32) (v4 : Int32) (u0 : M2) (φ : M2) (H : Heap) (locs : List Loc) (ls : Array Slot) , L_X8_roomFor_21 N u0 η τ v2 k v3 v4 φ = some (k0, r0, u0r, φr, ηr, τr) → va_P D vwCl (xW cI cF b u0 φ η τ) H → va_S (xA b) s.heap H locs → xZ (xA b) s H → lv_has ls 5 [(0, .ref (b 6 0)), (2, .int v2), (3, .int v3), (4, .int v4)] → W p l e (headSpec (wsA yX8_roomFor cX8_roomFor 5 (some .int)) { frames := 8, cells := 1, slots := 6, locals := 123 }).room s m ([.ref (b 6 0), .int p1, .int p2] : List Value).toArray below meth c H locs 1 6 (vx_MQ below (va_Qi (fun (r : Int32) (u : Bf) => k0 = 0 ∧ r = r0 ∧ xSame b u) (fun u t => va_P D vwCl (xW cI cF u u0r φr ηr τr) t.heap ∧ va_D (fun _ => True) (xW cI cF u u0r φr ηr τr)) (xA b)) (vx_X (fun (u : Bf) => xSame b u) (fun E u t => ¬ k0 = 0 ∧ E = eOf k0 ∧ va_P D vwCl (xW cI cF u u0r φr ηr τr) t.heap ∧ va_D (fun _ => True) (xW cI cF u u0r φr ηr τr)) (xA b)) ([.ref (b 6 0), .int p1, .int p2] : List Value).toArray s 1 6 (xA b)) (F0 m 21 ls []) := by
    intro k
    induction k with
    | zero =>
      intro v2 v3 v4 u0 φ H locs ls h hP hS hZ hl
      exact no_s h
    | succ k ih =>
      intro v2 v3 v4 u0 φ H locs ls h hP hS hZ hl
      replace h : B_X8_roomFor_21 N u0 η τ v2 (L_X8_roomFor_21 N u0 η τ v2 k) v3 v4 φ = some (k0, r0, u0r, φr, ηr, τr) := h
      unfold B_X8_roomFor_21 at h
      refine lv_iload hx hb dX8_roomFor_21 (lv_at hl 3 rfl) ?_
      refine lv_iload_n hx hb dX8_roomFor_23 rfl (lv_at hl 1 rfl) ?_
      refine lv_icmp_gt (tgt := 63) hx hb dX8_roomFor_24 (by decide) (fun hc => ?_) (fun hc => ?_)
      · replace h := oi_t hc h
        refine lv_iload_n hx hb dX8_roomFor_63 rfl (lv_at hl 2 rfl) ?_
        obtain ⟨rfl, rfl, rfl, rfl, rfl, rfl⟩ := os6 h
        refine vx_ret ?_
        refine W.widen (k := 1) (n := 6) (by decide) (by decide) ?_
        exact W.iret (v := v3) hx hb hr (fun t ht hW => ⟨⟨_, b, rfl, ⟨rfl, rfl, xSame_rf⟩, (by rw [ht]; exact hP), (hDX _ _ _ _)⟩, hS.F ht⟩) hS.2.2 dX8_roomFor_64
      · replace h := oi_f hc h
        refine lv_aload_n hx hb dX8_roomFor_27 rfl (lv_at hl 0 rfl) ?_
        refine xg_thought hx hb hA hown aF_RX8_16 hK hP dX8_roomFor_28 ?_
        refine lv_iload hx hb dX8_roomFor_31 (lv_at hl 3 rfl) ?_
        obtain ⟨r4, h5, h⟩ := obd_e h
        refine k_X2_isPresent S aM_RX8_162 ⟨Nat.le_of_ble_eq_true rfl, Nat.le_of_ble_eq_true rfl⟩ ⟨by decide, by decide⟩ (X_p_tho hP) (X_k hK) hDtho h5 hl.1 (Nat.le_of_ble_eq_true rfl) dX8_roomFor_33 (fun br4 => ?_)
        refine lv_if_ne (tgt := 57) hx hb dX8_roomFor_36 (by decide) (fun hc => ?_) (fun hc => ?_)
        · replace h := oi_f hc h
          refine lv_iinc (v := v4 + 1) (lv' := [(4, .int (v4 + 1)), (0, .ref (b 6 0)), (2, .int v2), (3, .int v3)]) hx hb dX8_roomFor_57 hl (k := 3) rfl (fm_inc _ _ _ (by decide)) (by decide) rfl (fun ls hl => ?_)
          refine lv_goto (tgt := 21) hx hb dX8_roomFor_60 (by decide) ?_
          exact ih _ _ _ _ _ _ _ _  h hP hS hZ (lv_sub hl [1, 2, 3, 0] rfl)
        · replace h := oi_t hc h
          refine lv_aload_n hx hb dX8_roomFor_39 rfl (lv_at hl 0 rfl) ?_
          refine xg_thought hx hb hA hown aF_RX8_16 hK hP dX8_roomFor_40 ?_
          refine lv_iload hx hb dX8_roomFor_43 (lv_at hl 3 rfl) ?_
          obtain ⟨r8, w6, h7, h⟩ := obd2_e h
          refine fx_runVi (n := 1) (C := RX2) (As := [.int v4]) S (c_X2_addKey l D cI (b 1) N φ v4 r8 w6 h7) (F_pre (q0 := 0) (ci := 0) (X_k hK) (X_p_tho hP) (hDtho _) rfl rfl) hS (fun q h => X_a_tho h) aM_RX8_86 aI_X2_addKey aV_X2_addKey aN_RX2 aC_X2_addKey rfl rfl (by decide +kernel) rfl ⟨Nat.le_of_ble_eq_true rfl, Nat.le_of_ble_eq_true rfl⟩ ⟨by decide, by decide⟩ hl.1 (Nat.le_of_ble_eq_true rfl) dX8_roomFor_45 (fun rr _ t H locs ht hr hB hk hz hS => ?_)
          replace hr := hr.symm
          subst hr
          have hP := X_set_tho hP (hDX _ _ _ _) hk (by rw [← ht]; exact hB)
          have hZ := hZ.kept (fun a ha hn => hk a ha (fun z => hn (X_a_tho z)))
          refine lv_iconst (v := (-1)) hx hb dX8_roomFor_48 (by decide) ?_
          refine lv_icmp_ne (tgt := 54) hx hb dX8_roomFor_49 (by decide) (fun hc => ?_) (fun hc => ?_)
          · replace h := oi_f hc h
            refine lv_iinc (v := v3 + 1) (lv' := [(3, .int (v3 + 1)), (0, .ref (b 6 0)), (2, .int v2), (4, .int v4)]) hx hb dX8_roomFor_54 hl (k := 2) rfl (fm_inc _ _ _ (by decide)) (by decide) rfl (fun ls hl => ?_)
            refine lv_iinc (v := v4 + 1) (lv' := [(4, .int (v4 + 1)), (3, .int (v3 + 1)), (0, .ref (b 6 0)), (2, .int v2)]) hx hb dX8_roomFor_57 hl (k := 3) rfl (fm_inc _ _ _ (by decide)) (by decide) rfl (fun ls hl => ?_)
            refine lv_goto (tgt := 21) hx hb dX8_roomFor_60 (by decide) ?_
            exact ih _ _ _ _ _ _ _ _  h hP hS hZ (lv_sub hl [2, 3, 1, 0] rfl)
          · replace h := oi_t hc h
            refine lv_iload_n hx hb dX8_roomFor_52 rfl (lv_at hl 2 rfl) ?_
            obtain ⟨rfl, rfl, rfl, rfl, rfl, rfl⟩ := os6 h
            refine vx_ret ?_
            refine W.widen (k := 1) (n := 6) (by decide) (by decide) ?_
            exact W.iret (v := v3) hx hb hr (fun t ht hW => ⟨⟨_, b, rfl, ⟨rfl, rfl, xSame_rf⟩, (by rw [ht]; exact hP), (hDX _ _ _ _)⟩, hS.F ht⟩) hS.2.2 dX8_roomFor_53
  have h := hF
  unfold G_X8_roomFor at h
  refine lv_iload_n hx hb dX8_roomFor_0 rfl (lv_at hl 1 rfl) ?_
  refine lv_iload_n hx hb dX8_roomFor_1 rfl (lv_at hl 2 rfl) ?_
  refine fx_chk (n := 2) (As := [.int p1, .int p2]) S (c_X8_checkRange l hl0 (xA b) p1 p2) hT hZ hS aM_RX8_159 aS_X8_checkRange aN_RX8 aC_X8_checkRange rfl rfl (by decide +kernel) rfl ⟨Nat.le_of_ble_eq_true rfl, Nat.le_of_ble_eq_true rfl⟩ ⟨by decide, by decide⟩ hl.1 (Nat.le_of_ble_eq_true rfl) dX8_roomFor_2 (fun hg ce q9 H locs hk hz hS h9 hv hcl => ?_) (fun hg H locs hk hz hS => ?_)
  · replace h := oi_t hg h
    obtain ⟨rfl, rfl, rfl, rfl, rfl, rfl⟩ := os6 h
    exact vx_out (fun x hx => (htab x hx).elim) hlocks h9 hv hcl (fun t ht _ => ⟨b, xSame_rf, ⟨by decide, rfl, (by rw [ht]; exact X_all hP hk), hDX _ _ _ _⟩, hS.F ht⟩) hS.2.2 (by decide) (by decide)
  · replace h := oi_f hg h
    have hP := X_all hP hk
    have hZ := hZ.kept (fun a ha _ => hk a ha)
    refine lv_aload_n hx hb dX8_roomFor_5 rfl (lv_at hl 0 rfl) ?_
    refine xg_thought hx hb hA hown aF_RX8_16 hK hP dX8_roomFor_6 ?_
    refine lv_aload_n hx hb dX8_roomFor_9 rfl (lv_at hl 0 rfl) ?_
    refine xg_current hx hb hA hown aF_RX8_10 hK hP dX8_roomFor_10 ?_
    obtain ⟨w1, h2, h⟩ := obd_e h
    refine fx_runVv (n := 1) (C := RX2) (As := [.ref (b 0 0)]) S (c_X2_copyFrom l D cI (xPa (b 1) (b 0)) N (xPm φ u0) w1 h2) (P_pre (q0 := 0) (ci := 0) (X_k hK) (X_p_tc hP) (hDtc _) rfl rfl) hS (fun q h => X_a_tc h) aM_RX8_82 aI_X2_copyFrom aV_X2_copyFrom aN_RX2 aC_X2_copyFrom rfl rfl (by decide +kernel) rfl ⟨Nat.le_of_ble_eq_true rfl, Nat.le_of_ble_eq_true rfl⟩ ⟨by decide, by decide⟩ hl.1 (Nat.le_of_ble_eq_true rfl) dX8_roomFor_13 (fun _ t H locs ht _ hB hk hz hS => ?_)
    have hP := X_set_tc hP (hDX _ _ _ _) hk (by rw [← ht]; exact hB)
    have hZ := hZ.kept (fun a ha hn => hk a ha (fun z => hn (X_a_tc z)))
    obtain ⟨u3, eu3⟩ : ∃ u3, u3 = xsh w1 := ⟨_, rfl⟩
    rw [← eu3] at hP
    replace h := olet_s eu3 h
    refine lv_iconst (v := 0) hx hb dX8_roomFor_16 (by decide) ?_
    refine lv_istore_n (lv' := [(3, .int 0), (0, .ref (b 6 0)), (1, .int p1), (2, .int p2)]) hx hb dX8_roomFor_17 rfl hl (by decide) rfl (fun ls hl => ?_)
    refine lv_iload_n hx hb dX8_roomFor_18 rfl (lv_at hl 2 rfl) ?_
    refine lv_istore (lv' := [(4, .int p1), (3, .int 0), (0, .ref (b 6 0)), (1, .int p1), (2, .int p2)]) hx hb dX8_roomFor_19 hl (by decide) rfl (fun ls hl => ?_)
    exact hL21 N _ _ _ _ _ _ _ _ h hP hS hZ (lv_sub hl [2, 4, 1, 0] rfl)
set_option maxHeartbeats 4000000 in
set_option maxRecDepth 100000 in
theorem c_X8_falseKeys (l : Launch) (hl0 : l.stackTraces = false) (D : va_G) (cI cF : ClassId) (b : Bf) (N : Nat) (u0 : M2) (φ : M2) (η : HT) (τ : M2) (p1 : Int32) (p2 : Int32) (k0 : Nat) (r0 : Int32) (u0r φr : M2) (ηr : HT) (τr : M2) (hF : G_X8_falseKeys N u0 φ η τ p1 p2 = some (k0, r0, u0r, φr, ηr, τr)) : vx_Met l yX8_falseKeys (wsA yX8_falseKeys cX8_falseKeys 3 (some .int)) { frames := 8, cells := 1, slots := 6, locals := 140 } (va_Pc [.ref (b 6 0), .int p1, .int p2] (xP D cI cF b u0 φ η τ)) (va_Qi (fun (r : Int32) (u : Bf) => k0 = 0 ∧ r = r0 ∧ xSame b u) (fun u t => va_P D vwCl (xW cI cF u u0r φr ηr τr) t.heap ∧ va_D (fun _ => True) (xW cI cF u u0r φr ηr τr)) (xA b)) (vx_X (fun (u : Bf) => xSame b u) (fun E u t => ¬ k0 = 0 ∧ E = eOf k0 ∧ va_P D vwCl (xW cI cF u u0r φr ηr τr) t.heap ∧ va_D (fun _ => True) (xW cI cF u u0r φr ηr τr)) (xA b)) 1 6 (xA b) := by
  refine vx_ofW (cc := cX8_falseKeys) (maxL := 3) (ret := (some .int)) (by decide) rfl ?_
  intro p e s m args below meth c s₁ B hml htab hpre
  obtain ⟨rfl, hP, hK, hD0, hT, hZ⟩ := hpre
  have hx := B.exec
  have hb := B.bytes
  have hr := B.returns
  have hA : ∀ w ∈ AW, w.before _ s = true := fun w h => atoms_spec (ws := wsA yX8_falseKeys cX8_falseKeys 3 (some .int)) B.pre w (List.mem_cons_of_mem _ h)
  have hown : s.vm.findClass RX8 = some m.cls := findClass_of_methodNamed B.named
  have hlocks := B.notSynchronized
  have hDX := X_D hD0
  have hDcur := X_d_cur hD0
  have hDtho := X_d_tho hD0
  have hDtxt := X_d_txt hD0
  have hDtc := X_d_tc hD0
  have hZ0 := hZ
  have hS : va_S (xA b) s.heap s.heap [] := va_S.rf
  have S : CallFix p m c cX8_falseKeys 3 s ([.ref (b 6 0), .int p1, .int p2] : List Value).toArray AW RX8 := ⟨hx, hb, hml, hown, hA⟩
  have hl := lv_entry ([.ref (b 6 0), .int p1, .int p2]) (n := 3) (Nat.le_of_ble_eq_true rfl)
  rw [lg_entry_eq]
  generalize (lg_sl ([.ref (b 6 0), .int p1, .int p2]) ++ List.replicate (3 - (lg_sl ([.ref (b 6 0), .int p1, .int p2])).length) Slot.unset).toArray = ls at hl ⊢
  have hl : lv_has ls 3 [(0, .ref (b 6 0)), (1, .int p1), (2, .int p2)] := hl
  have h := hF
  unfold G_X8_falseKeys at h
  refine lv_iload_n hx hb dX8_falseKeys_0 rfl (lv_at hl 1 rfl) ?_
  refine lv_iload_n hx hb dX8_falseKeys_1 rfl (lv_at hl 2 rfl) ?_
  refine fx_chk (n := 2) (As := [.int p1, .int p2]) S (c_X8_checkRange l hl0 (xA b) p1 p2) hT hZ hS aM_RX8_159 aS_X8_checkRange aN_RX8 aC_X8_checkRange rfl rfl (by decide +kernel) rfl ⟨Nat.le_of_ble_eq_true rfl, Nat.le_of_ble_eq_true rfl⟩ ⟨by decide, by decide⟩ hl.1 (Nat.le_of_ble_eq_true rfl) dX8_falseKeys_2 (fun hg ce q9 H locs hk hz hS h9 hv hcl => ?_) (fun hg H locs hk hz hS => ?_)
  · replace h := oi_t hg h
    obtain ⟨rfl, rfl, rfl, rfl, rfl, rfl⟩ := os6 h
    exact vx_out (fun x hx => (htab x hx).elim) hlocks h9 hv hcl (fun t ht _ => ⟨b, xSame_rf, ⟨by decide, rfl, (by rw [ht]; exact X_all hP hk), hDX _ _ _ _⟩, hS.F ht⟩) hS.2.2 (by decide) (by decide)
  · replace h := oi_f hg h
    have hP := X_all hP hk
    have hZ := hZ.kept (fun a ha _ => hk a ha)
    refine lv_aload_n hx hb dX8_falseKeys_5 rfl (lv_at hl 0 rfl) ?_
    refine xg_current hx hb hA hown aF_RX8_10 hK hP dX8_falseKeys_6 ?_
    refine lv_iload_n hx hb dX8_falseKeys_9 rfl (lv_at hl 1 rfl) ?_
    refine lv_iload_n hx hb dX8_falseKeys_10 rfl (lv_at hl 2 rfl) ?_
    obtain ⟨r1, h2, h⟩ := obd_e h
    refine k_X2_falseBetween S aM_RX8_165 ⟨Nat.le_of_ble_eq_true rfl, Nat.le_of_ble_eq_true rfl⟩ ⟨by decide, by decide⟩ (X_p_cur hP) (X_k hK) hDcur h2 hl.1 (Nat.le_of_ble_eq_true rfl) dX8_falseKeys_11 ?_
    obtain ⟨rfl, rfl, rfl, rfl, rfl, rfl⟩ := os6 h
    refine vx_ret ?_
    refine W.widen (k := 1) (n := 6) (by decide) (by decide) ?_
    exact W.iret (v := r1) hx hb hr (fun t ht hW => ⟨⟨_, b, rfl, ⟨rfl, rfl, xSame_rf⟩, (by rw [ht]; exact hP), (hDX _ _ _ _)⟩, hS.F ht⟩) hS.2.2 dX8_falseKeys_14
set_option maxHeartbeats 4000000 in
set_option maxRecDepth 100000 in
theorem c_X8_falseKey (l : Launch) (hl0 : l.stackTraces = false) (D : va_G) (cI cF : ClassId) (b : Bf) (N : Nat) (u0 : M2) (φ : M2) (η : HT) (τ : M2) (p1 : Int32) (k0 : Nat) (r0 : Int32) (u0r φr : M2) (ηr : HT) (τr : M2) (hF : G_X8_falseKey N u0 φ η τ p1 = some (k0, r0, u0r, φr, ηr, τr)) : vx_Met l yX8_falseKey (wsA yX8_falseKey cX8_falseKey 4 (some .int)) { frames := 5, cells := 0, slots := 0, locals := 116 } (va_Pc [.ref (b 6 0), .int p1] (xP D cI cF b u0 φ η τ)) (va_Qi (fun (r : Int32) (u : Bf) => k0 = 0 ∧ r = r0 ∧ xSame b u) (fun u t => va_P D vwCl (xW cI cF u u0r φr ηr τr) t.heap ∧ va_D (fun _ => True) (xW cI cF u u0r φr ηr τr)) (xA b)) (vx_X (fun (u : Bf) => xSame b u) (fun E u t => ¬ k0 = 0 ∧ E = eOf k0 ∧ va_P D vwCl (xW cI cF u u0r φr ηr τr) t.heap ∧ va_D (fun _ => True) (xW cI cF u u0r φr ηr τr)) (xA b)) 0 0 (xA b) := by
  refine vx_ofW (cc := cX8_falseKey) (maxL := 4) (ret := (some .int)) (by decide) rfl ?_
  intro p e s m args below meth c s₁ B hml htab hpre
  obtain ⟨rfl, hP, hK, hD0, hT, hZ⟩ := hpre
  have hx := B.exec
  have hb := B.bytes
  have hr := B.returns
  have hA : ∀ w ∈ AW, w.before _ s = true := fun w h => atoms_spec (ws := wsA yX8_falseKey cX8_falseKey 4 (some .int)) B.pre w (List.mem_cons_of_mem _ h)
  have hown : s.vm.findClass RX8 = some m.cls := findClass_of_methodNamed B.named
  have hlocks := B.notSynchronized
  have hDX := X_D hD0
  have hDcur := X_d_cur hD0
  have hDtho := X_d_tho hD0
  have hDtxt := X_d_txt hD0
  have hDtc := X_d_tc hD0
  have hZ0 := hZ
  have hS : va_S (xA b) s.heap s.heap [] := va_S.rf
  have S : CallFix p m c cX8_falseKey 4 s ([.ref (b 6 0), .int p1] : List Value).toArray AW RX8 := ⟨hx, hb, hml, hown, hA⟩
  have hl := lv_entry ([.ref (b 6 0), .int p1]) (n := 4) (Nat.le_of_ble_eq_true rfl)
  rw [lg_entry_eq]
  generalize (lg_sl ([.ref (b 6 0), .int p1]) ++ List.replicate (4 - (lg_sl ([.ref (b 6 0), .int p1])).length) Slot.unset).toArray = ls at hl ⊢
  have hl : lv_has ls 4 [(0, .ref (b 6 0)), (1, .int p1)] := hl
  have hL4 : ∀ (k : Nat) (v1 : Int32) (v2 : Int32) (v3 : Int32) (u0 : M2) (φ : M2) (H : Heap) (locs : List Loc) (ls : Array Slot) , L_X8_falseKey_4 N u0 η τ v1 k v2 v3 φ = some (k0, r0, u0r, φr, ηr, τr) → va_P D vwCl (xW cI cF b u0 φ η τ) H → va_S (xA b) s.heap H locs → xZ (xA b) s H → lv_has ls 4 [(0, .ref (b 6 0)), (1, .int v1), (2, .int v2), (3, .int v3)] → W p l e (headSpec (wsA yX8_falseKey cX8_falseKey 4 (some .int)) { frames := 5, cells := 0, slots := 0, locals := 116 }).room s m ([.ref (b 6 0), .int p1] : List Value).toArray below meth c H locs 0 0 (vx_MQ below (va_Qi (fun (r : Int32) (u : Bf) => k0 = 0 ∧ r = r0 ∧ xSame b u) (fun u t => va_P D vwCl (xW cI cF u u0r φr ηr τr) t.heap ∧ va_D (fun _ => True) (xW cI cF u u0r φr ηr τr)) (xA b)) (vx_X (fun (u : Bf) => xSame b u) (fun E u t => ¬ k0 = 0 ∧ E = eOf k0 ∧ va_P D vwCl (xW cI cF u u0r φr ηr τr) t.heap ∧ va_D (fun _ => True) (xW cI cF u u0r φr ηr τr)) (xA b)) ([.ref (b 6 0), .int p1] : List Value).toArray s 0 0 (xA b)) (F0 m 4 ls []) := by
    intro k
    induction k with
    | zero =>
      intro v1 v2 v3 u0 φ H locs ls h hP hS hZ hl
      exact no_s h
    | succ k ih =>
      intro v1 v2 v3 u0 φ H locs ls h hP hS hZ hl
      replace h : B_X8_falseKey_4 N u0 η τ v1 (L_X8_falseKey_4 N u0 η τ v1 k) v2 v3 φ = some (k0, r0, u0r, φr, ηr, τr) := h
      unfold B_X8_falseKey_4 at h
      refine lv_iload_n hx hb dX8_falseKey_4 rfl (lv_at hl 3 rfl) ?_
      refine lv_sipush (v := 1000) hx hb dX8_falseKey_5 (by decide) ?_
      refine lv_icmp_ge (tgt := 38) hx hb dX8_falseKey_8 (by decide) (fun hc => ?_) (fun hc => ?_)
      · replace h := oi_t hc h
        refine lv_iconst (v := (-1)) hx hb dX8_falseKey_38 (by decide) ?_
        obtain ⟨rfl, rfl, rfl, rfl, rfl, rfl⟩ := os6 h
        refine vx_ret ?_
        refine W.widen (k := 0) (n := 0) (by decide) (by decide) ?_
        exact W.iret (v := (-1)) hx hb hr (fun t ht hW => ⟨⟨_, b, rfl, ⟨rfl, rfl, xSame_rf⟩, (by rw [ht]; exact hP), (hDX _ _ _ _)⟩, hS.F ht⟩) hS.2.2 dX8_falseKey_39
      · replace h := oi_f hc h
        refine lv_aload_n hx hb dX8_falseKey_11 rfl (lv_at hl 0 rfl) ?_
        refine xg_current hx hb hA hown aF_RX8_10 hK hP dX8_falseKey_12 ?_
        refine lv_iload_n hx hb dX8_falseKey_15 rfl (lv_at hl 3 rfl) ?_
        obtain ⟨r1, h2, h⟩ := obd_e h
        refine k_X2_isFalse S aM_RX8_168 ⟨Nat.le_of_ble_eq_true rfl, Nat.le_of_ble_eq_true rfl⟩ ⟨by decide, by decide⟩ (X_p_cur hP) (X_k hK) hDcur h2 hl.1 (Nat.le_of_ble_eq_true rfl) dX8_falseKey_16 (fun br1 => ?_)
        refine lv_if_eq (tgt := 32) hx hb dX8_falseKey_19 (by decide) (fun hc => ?_) (fun hc => ?_)
        · replace h := oi_t hc h
          refine lv_iinc (v := v3 + 1) (lv' := [(3, .int (v3 + 1)), (0, .ref (b 6 0)), (1, .int v1), (2, .int v2)]) hx hb dX8_falseKey_32 hl (k := 3) rfl (fm_inc _ _ _ (by decide)) (by decide) rfl (fun ls hl => ?_)
          refine lv_goto (tgt := 4) hx hb dX8_falseKey_35 (by decide) ?_
          exact ih _ _ _ _ _ _ _ _  h hP hS hZ (lv_sub hl [1, 2, 3, 0] rfl)
        · replace h := oi_f hc h
          refine lv_iload_n hx hb dX8_falseKey_22 rfl (lv_at hl 2 rfl) ?_
          refine lv_iload_n hx hb dX8_falseKey_23 rfl (lv_at hl 1 rfl) ?_
          refine lv_icmp_ne (tgt := 29) hx hb dX8_falseKey_24 (by decide) (fun hc => ?_) (fun hc => ?_)
          · replace h := oi_f hc h
            refine lv_iinc (v := v2 + 1) (lv' := [(2, .int (v2 + 1)), (0, .ref (b 6 0)), (1, .int v1), (3, .int v3)]) hx hb dX8_falseKey_29 hl (k := 2) rfl (fm_inc _ _ _ (by decide)) (by decide) rfl (fun ls hl => ?_)
            refine lv_iinc (v := v3 + 1) (lv' := [(3, .int (v3 + 1)), (2, .int (v2 + 1)), (0, .ref (b 6 0)), (1, .int v1)]) hx hb dX8_falseKey_32 hl (k := 3) rfl (fm_inc _ _ _ (by decide)) (by decide) rfl (fun ls hl => ?_)
            refine lv_goto (tgt := 4) hx hb dX8_falseKey_35 (by decide) ?_
            exact ih _ _ _ _ _ _ _ _  h hP hS hZ (lv_sub hl [2, 3, 1, 0] rfl)
          · replace h := oi_t hc h
            refine lv_iload_n hx hb dX8_falseKey_27 rfl (lv_at hl 3 rfl) ?_
            obtain ⟨rfl, rfl, rfl, rfl, rfl, rfl⟩ := os6 h
            refine vx_ret ?_
            refine W.widen (k := 0) (n := 0) (by decide) (by decide) ?_
            exact W.iret (v := v3) hx hb hr (fun t ht hW => ⟨⟨_, b, rfl, ⟨rfl, rfl, xSame_rf⟩, (by rw [ht]; exact hP), (hDX _ _ _ _)⟩, hS.F ht⟩) hS.2.2 dX8_falseKey_28
  have h := hF
  unfold G_X8_falseKey at h
  refine lv_iconst (v := 0) hx hb dX8_falseKey_0 (by decide) ?_
  refine lv_istore_n (lv' := [(2, .int 0), (0, .ref (b 6 0)), (1, .int p1)]) hx hb dX8_falseKey_1 rfl hl (by decide) rfl (fun ls hl => ?_)
  refine lv_iconst (v := 0) hx hb dX8_falseKey_2 (by decide) ?_
  refine lv_istore_n (lv' := [(3, .int 0), (2, .int 0), (0, .ref (b 6 0)), (1, .int p1)]) hx hb dX8_falseKey_3 rfl hl (by decide) rfl (fun ls hl => ?_)
  exact hL4 N _ _ _ _ _ _ _ _ h hP hS hZ (lv_sub hl [2, 3, 1, 0] rfl)
set_option maxHeartbeats 4000000 in
set_option maxRecDepth 100000 in
theorem c_X8_blamed (l : Launch) (hl0 : l.stackTraces = false) (D : va_G) (cI cF : ClassId) (b : Bf) (N : Nat) (u0 : M2) (φ : M2) (η : HT) (τ : M2) (p1 : Int32) (p2 : Int32) (k0 : Nat) (r0 : Int32) (u0r φr : M2) (ηr : HT) (τr : M2) (hF : G_X8_blamed N u0 φ η τ p1 p2 = some (k0, r0, u0r, φr, ηr, τr)) : vx_Met l yX8_blamed (wsA yX8_blamed cX8_blamed 5 (some .int)) { frames := 8, cells := 2, slots := 12, locals := 124 } (va_Pc [.ref (b 6 0), .int p1, .int p2] (xP D cI cF b u0 φ η τ)) (va_Qi (fun (r : Int32) (u : Bf) => k0 = 0 ∧ r = r0 ∧ xSame b u) (fun u t => va_P D vwCl (xW cI cF u u0r φr ηr τr) t.heap ∧ va_D (fun _ => True) (xW cI cF u u0r φr ηr τr)) (xA b)) (vx_X (fun (u : Bf) => xSame b u) (fun E u t => ¬ k0 = 0 ∧ E = eOf k0 ∧ va_P D vwCl (xW cI cF u u0r φr ηr τr) t.heap ∧ va_D (fun _ => True) (xW cI cF u u0r φr ηr τr)) (xA b)) 2 12 (xA b) := by
  refine vx_ofW (cc := cX8_blamed) (maxL := 5) (ret := (some .int)) (by decide) rfl ?_
  intro p e s m args below meth c s₁ B hml htab hpre
  obtain ⟨rfl, hP, hK, hD0, hT, hZ⟩ := hpre
  have hx := B.exec
  have hb := B.bytes
  have hr := B.returns
  have hA : ∀ w ∈ AW, w.before _ s = true := fun w h => atoms_spec (ws := wsA yX8_blamed cX8_blamed 5 (some .int)) B.pre w (List.mem_cons_of_mem _ h)
  have hown : s.vm.findClass RX8 = some m.cls := findClass_of_methodNamed B.named
  have hlocks := B.notSynchronized
  have hDX := X_D hD0
  have hDcur := X_d_cur hD0
  have hDtho := X_d_tho hD0
  have hDtxt := X_d_txt hD0
  have hDtc := X_d_tc hD0
  have hZ0 := hZ
  have hS : va_S (xA b) s.heap s.heap [] := va_S.rf
  have S : CallFix p m c cX8_blamed 5 s ([.ref (b 6 0), .int p1, .int p2] : List Value).toArray AW RX8 := ⟨hx, hb, hml, hown, hA⟩
  have hl := lv_entry ([.ref (b 6 0), .int p1, .int p2]) (n := 5) (Nat.le_of_ble_eq_true rfl)
  rw [lg_entry_eq]
  generalize (lg_sl ([.ref (b 6 0), .int p1, .int p2]) ++ List.replicate (5 - (lg_sl ([.ref (b 6 0), .int p1, .int p2])).length) Slot.unset).toArray = ls at hl ⊢
  have hl : lv_has ls 5 [(0, .ref (b 6 0)), (1, .int p1), (2, .int p2)] := hl
  have hL31 : ∀ (k : Nat) (v3 : Int32) (v4 : Int32) (u0 : M2) (φ : M2) (H : Heap) (locs : List Loc) (ls : Array Slot) (o3 : Int32), L_X8_blamed_31 N φ u0 η τ k v3 v4 = some o3 → va_P D vwCl (xW cI cF b u0 φ η τ) H → va_S (xA b) s.heap H locs → xZ (xA b) s H → lv_has ls 5 [(0, .ref (b 6 0)), (3, .int v3), (4, .int v4)] → (∀ (H1 : Heap) (locs1 : List Loc) (ls1 : Array Slot), va_P D vwCl (xW cI cF b u0 φ η τ) H1 → va_S (xA b) s.heap H1 locs1 → xZ (xA b) s H1 → lv_has ls1 5 [(3, .int o3)] → W p l e (headSpec (wsA yX8_blamed cX8_blamed 5 (some .int)) { frames := 8, cells := 2, slots := 12, locals := 124 }).room s m ([.ref (b 6 0), .int p1, .int p2] : List Value).toArray below meth c H1 locs1 2 12 (vx_MQ below (va_Qi (fun (r : Int32) (u : Bf) => k0 = 0 ∧ r = r0 ∧ xSame b u) (fun u t => va_P D vwCl (xW cI cF u u0r φr ηr τr) t.heap ∧ va_D (fun _ => True) (xW cI cF u u0r φr ηr τr)) (xA b)) (vx_X (fun (u : Bf) => xSame b u) (fun E u t => ¬ k0 = 0 ∧ E = eOf k0 ∧ va_P D vwCl (xW cI cF u u0r φr ηr τr) t.heap ∧ va_D (fun _ => True) (xW cI cF u u0r φr ηr τr)) (xA b)) ([.ref (b 6 0), .int p1, .int p2] : List Value).toArray s 2 12 (xA b)) (F0 m 72 ls1 [])) → W p l e (headSpec (wsA yX8_blamed cX8_blamed 5 (some .int)) { frames := 8, cells := 2, slots := 12, locals := 124 }).room s m ([.ref (b 6 0), .int p1, .int p2] : List Value).toArray below meth c H locs 2 12 (vx_MQ below (va_Qi (fun (r : Int32) (u : Bf) => k0 = 0 ∧ r = r0 ∧ xSame b u) (fun u t => va_P D vwCl (xW cI cF u u0r φr ηr τr) t.heap ∧ va_D (fun _ => True) (xW cI cF u u0r φr ηr τr)) (xA b)) (vx_X (fun (u : Bf) => xSame b u) (fun E u t => ¬ k0 = 0 ∧ E = eOf k0 ∧ va_P D vwCl (xW cI cF u u0r φr ηr τr) t.heap ∧ va_D (fun _ => True) (xW cI cF u u0r φr ηr τr)) (xA b)) ([.ref (b 6 0), .int p1, .int p2] : List Value).toArray s 2 12 (xA b)) (F0 m 31 ls []) := by
    intro k
    induction k with
    | zero =>
      intro v3 v4 u0 φ H locs ls o3 h hP hS hZ hl kk
      exact no_s h
    | succ k ih =>
      intro v3 v4 u0 φ H locs ls o3 h hP hS hZ hl kk
      replace h : B_X8_blamed_31 N φ u0 η τ (L_X8_blamed_31 N φ u0 η τ k) v3 v4 = some o3 := h
      unfold B_X8_blamed_31 at h
      refine lv_iload hx hb dX8_blamed_31 (lv_at hl 2 rfl) ?_
      refine lv_sipush (v := 1000) hx hb dX8_blamed_33 (by decide) ?_
      refine lv_icmp_ge (tgt := 72) hx hb dX8_blamed_36 (by decide) (fun hc => ?_) (fun hc => ?_)
      · replace h := oi_t hc h
        obtain rfl := os1 h
        exact kk _ _ _ hP hS hZ (lv_sub hl [1] rfl)
      · replace h := oi_f hc h
        refine lv_aload_n hx hb dX8_blamed_39 rfl (lv_at hl 0 rfl) ?_
        refine xg_current hx hb hA hown aF_RX8_10 hK hP dX8_blamed_40 ?_
        refine lv_iload hx hb dX8_blamed_43 (lv_at hl 2 rfl) ?_
        obtain ⟨r6, h7, h⟩ := obd_e h
        refine k_X2_isFalse S aM_RX8_168 ⟨Nat.le_of_ble_eq_true rfl, Nat.le_of_ble_eq_true rfl⟩ ⟨by decide, by decide⟩ (X_p_cur hP) (X_k hK) hDcur h7 hl.1 (Nat.le_of_ble_eq_true rfl) dX8_blamed_45 (fun br6 => ?_)
        refine lv_if_eq (tgt := 66) hx hb dX8_blamed_48 (by decide) (fun hc => ?_) (fun hc => ?_)
        · replace h := oi_t hc h
          refine lv_iinc (v := v4 + 1) (lv' := [(4, .int (v4 + 1)), (0, .ref (b 6 0)), (3, .int v3)]) hx hb dX8_blamed_66 hl (k := 2) rfl (fm_inc _ _ _ (by decide)) (by decide) rfl (fun ls hl => ?_)
          refine lv_goto (tgt := 31) hx hb dX8_blamed_69 (by decide) ?_
          exact ih _ _ _ _ _ _ _ _ h hP hS hZ (lv_sub hl [1, 2, 0] rfl) kk
        · replace h := oi_f hc h
          refine lv_aload_n hx hb dX8_blamed_51 rfl (lv_at hl 0 rfl) ?_
          refine xg_thought hx hb hA hown aF_RX8_16 hK hP dX8_blamed_52 ?_
          refine lv_iload hx hb dX8_blamed_55 (lv_at hl 2 rfl) ?_
          obtain ⟨r8, h9, h⟩ := obd_e h
          refine k_X2_finds S aM_RX8_60 ⟨Nat.le_of_ble_eq_true rfl, Nat.le_of_ble_eq_true rfl⟩ ⟨by decide, by decide⟩ (X_p_tho hP) (X_k hK) hDtho h9 hl.1 (Nat.le_of_ble_eq_true rfl) dX8_blamed_57 (fun br8 => ?_)
          refine lv_if_ne (tgt := 66) hx hb dX8_blamed_60 (by decide) (fun hc => ?_) (fun hc => ?_)
          · replace h := oi_f hc h
            refine lv_iinc (v := v4 + 1) (lv' := [(4, .int (v4 + 1)), (0, .ref (b 6 0)), (3, .int v3)]) hx hb dX8_blamed_66 hl (k := 2) rfl (fm_inc _ _ _ (by decide)) (by decide) rfl (fun ls hl => ?_)
            refine lv_goto (tgt := 31) hx hb dX8_blamed_69 (by decide) ?_
            exact ih _ _ _ _ _ _ _ _ h hP hS hZ (lv_sub hl [1, 2, 0] rfl) kk
          · replace h := oi_t hc h
            refine lv_iinc (v := v3 + 1) (lv' := [(3, .int (v3 + 1)), (0, .ref (b 6 0)), (4, .int v4)]) hx hb dX8_blamed_63 hl (k := 1) rfl (fm_inc _ _ _ (by decide)) (by decide) rfl (fun ls hl => ?_)
            refine lv_iinc (v := v4 + 1) (lv' := [(4, .int (v4 + 1)), (3, .int (v3 + 1)), (0, .ref (b 6 0))]) hx hb dX8_blamed_66 hl (k := 2) rfl (fm_inc _ _ _ (by decide)) (by decide) rfl (fun ls hl => ?_)
            refine lv_goto (tgt := 31) hx hb dX8_blamed_69 (by decide) ?_
            exact ih _ _ _ _ _ _ _ _ h hP hS hZ (lv_sub hl [2, 1, 0] rfl) kk
  have h := hF
  unfold G_X8_blamed at h
  refine lv_aload_n hx hb dX8_blamed_0 rfl (lv_at hl 0 rfl) ?_
  refine lv_iload_n hx hb dX8_blamed_1 rfl (lv_at hl 1 rfl) ?_
  refine lv_iload_n hx hb dX8_blamed_2 rfl (lv_at hl 2 rfl) ?_
  refine kx_checkSlot S hl0 aM_RX8_126 ⟨Nat.le_of_ble_eq_true rfl, Nat.le_of_ble_eq_true rfl⟩ ⟨by decide, by decide⟩ hP hK (hDX _ _ _ _) hT hZ hS hl.1 (Nat.le_of_ble_eq_true rfl) dX8_blamed_3 (fun hg ce q9 H locs hk hz hS h9 hv hcl => ?_) (fun hg H locs hk hz hS => ?_)
  · replace h := oi_t hg h
    obtain ⟨rfl, rfl, rfl, rfl, rfl, rfl⟩ := os6 h
    exact vx_out (fun x hx => (htab x hx).elim) hlocks h9 hv hcl (fun t ht _ => ⟨b, xSame_rf, ⟨by decide, rfl, (by rw [ht]; exact X_all hP hk), hDX _ _ _ _⟩, hS.F ht⟩) hS.2.2 (by decide) (by decide)
  · replace h := oi_f hg h
    have hP := X_all hP hk
    have hZ := hZ.kept (fun a ha _ => hk a ha)
    refine lv_aload_n hx hb dX8_blamed_6 rfl (lv_at hl 0 rfl) ?_
    refine xg_thought hx hb hA hown aF_RX8_16 hK hP dX8_blamed_7 ?_
    refine lv_aload_n hx hb dX8_blamed_10 rfl (lv_at hl 0 rfl) ?_
    refine xg_current hx hb hA hown aF_RX8_10 hK hP dX8_blamed_11 ?_
    obtain ⟨w1, h2, h⟩ := obd_e h
    refine fx_runVv (n := 1) (C := RX2) (As := [.ref (b 0 0)]) S (c_X2_copyFrom l D cI (xPa (b 1) (b 0)) N (xPm φ u0) w1 h2) (P_pre (q0 := 0) (ci := 0) (X_k hK) (X_p_tc hP) (hDtc _) rfl rfl) hS (fun q h => X_a_tc h) aM_RX8_82 aI_X2_copyFrom aV_X2_copyFrom aN_RX2 aC_X2_copyFrom rfl rfl (by decide +kernel) rfl ⟨Nat.le_of_ble_eq_true rfl, Nat.le_of_ble_eq_true rfl⟩ ⟨by decide, by decide⟩ hl.1 (Nat.le_of_ble_eq_true rfl) dX8_blamed_14 (fun _ t H locs ht _ hB hk hz hS => ?_)
    have hP := X_set_tc hP (hDX _ _ _ _) hk (by rw [← ht]; exact hB)
    have hZ := hZ.kept (fun a ha hn => hk a ha (fun z => hn (X_a_tc z)))
    obtain ⟨u3, eu3⟩ : ∃ u3, u3 = xsh w1 := ⟨_, rfl⟩
    rw [← eu3] at hP
    replace h := olet_s eu3 h
    refine lv_aload_n hx hb dX8_blamed_17 rfl (lv_at hl 0 rfl) ?_
    refine xg_thought hx hb hA hown aF_RX8_16 hK hP dX8_blamed_18 ?_
    refine lv_iload_n hx hb dX8_blamed_21 rfl (lv_at hl 1 rfl) ?_
    refine lv_iload_n hx hb dX8_blamed_22 rfl (lv_at hl 2 rfl) ?_
    obtain ⟨w4, h5, h⟩ := obd_e h
    refine fx_runVv (n := 2) (C := RX2) (As := [.int p1, .int p2]) S (c_X2_emptySlot l D cI (b 1) w1 p1 p2 w4 h5) (F_pre (q0 := 0) (ci := 0) (X_k hK) (X_p_tho hP) (hDtho _) rfl rfl) hS (fun q h => X_a_tho h) aM_RX8_171 aI_X2_emptySlot aV_X2_emptySlot aN_RX2 aC_X2_emptySlot rfl rfl (by decide +kernel) rfl ⟨Nat.le_of_ble_eq_true rfl, Nat.le_of_ble_eq_true rfl⟩ ⟨by decide, by decide⟩ hl.1 (Nat.le_of_ble_eq_true rfl) dX8_blamed_23 (fun _ t H locs ht _ hB hk hz hS => ?_)
    have hP := X_set_tho hP (hDX _ _ _ _) hk (by rw [← ht]; exact hB)
    have hZ := hZ.kept (fun a ha hn => hk a ha (fun z => hn (X_a_tho z)))
    refine lv_iconst (v := 0) hx hb dX8_blamed_26 (by decide) ?_
    refine lv_istore_n (lv' := [(3, .int 0), (0, .ref (b 6 0)), (1, .int p1), (2, .int p2)]) hx hb dX8_blamed_27 rfl hl (by decide) rfl (fun ls hl => ?_)
    refine lv_iconst (v := 0) hx hb dX8_blamed_28 (by decide) ?_
    refine lv_istore (lv' := [(4, .int 0), (3, .int 0), (0, .ref (b 6 0)), (1, .int p1), (2, .int p2)]) hx hb dX8_blamed_29 hl (by decide) rfl (fun ls hl => ?_)
    obtain ⟨y10, h11, h⟩ := obd_e h
    refine hL31 N _ _ _ _ _ _ _ _ h11 hP hS hZ (lv_sub hl [2, 1, 0] rfl) (fun H locs ls hP hS hZ hl => ?_)
    refine lv_iload_n hx hb dX8_blamed_72 rfl (lv_at hl 0 rfl) ?_
    obtain ⟨rfl, rfl, rfl, rfl, rfl, rfl⟩ := os6 h
    refine vx_ret ?_
    refine W.widen (k := 2) (n := 12) (by decide) (by decide) ?_
    exact W.iret (v := y10) hx hb hr (fun t ht hW => ⟨⟨_, b, rfl, ⟨rfl, rfl, xSame_rf⟩, (by rw [ht]; exact hP), (hDX _ _ _ _)⟩, hS.F ht⟩) hS.2.2 dX8_blamed_73
set_option maxHeartbeats 4000000 in
set_option maxRecDepth 100000 in
theorem c_X8_twins (l : Launch) (hl0 : l.stackTraces = false) (D : va_G) (cI cF : ClassId) (b : Bf) (N : Nat) (u0 : M2) (φ : M2) (η : HT) (τ : M2) (k0 : Nat) (r0 : Int32) (u0r φr : M2) (ηr : HT) (τr : M2) (hF : G_X8_twins N u0 φ η τ = some (k0, r0, u0r, φr, ηr, τr)) : vx_Met l yX8_twins (wsA yX8_twins cX8_twins 1 (some .int)) { frames := 4, cells := 0, slots := 0, locals := 91 } (va_Pc [.ref (b 6 0)] (xP D cI cF b u0 φ η τ)) (va_Qi (fun (r : Int32) (u : Bf) => k0 = 0 ∧ r = r0 ∧ xSame b u) (fun u t => va_P D vwCl (xW cI cF u u0r φr ηr τr) t.heap ∧ va_D (fun _ => True) (xW cI cF u u0r φr ηr τr)) (xA b)) (vx_X (fun (u : Bf) => xSame b u) (fun E u t => ¬ k0 = 0 ∧ E = eOf k0 ∧ va_P D vwCl (xW cI cF u u0r φr ηr τr) t.heap ∧ va_D (fun _ => True) (xW cI cF u u0r φr ηr τr)) (xA b)) 0 0 (xA b) := by
  refine vx_ofW (cc := cX8_twins) (maxL := 1) (ret := (some .int)) (by decide) rfl ?_
  intro p e s m args below meth c s₁ B hml htab hpre
  obtain ⟨rfl, hP, hK, hD0, hT, hZ⟩ := hpre
  have hx := B.exec
  have hb := B.bytes
  have hr := B.returns
  have hA : ∀ w ∈ AW, w.before _ s = true := fun w h => atoms_spec (ws := wsA yX8_twins cX8_twins 1 (some .int)) B.pre w (List.mem_cons_of_mem _ h)
  have hown : s.vm.findClass RX8 = some m.cls := findClass_of_methodNamed B.named
  have hlocks := B.notSynchronized
  have hDX := X_D hD0
  have hDcur := X_d_cur hD0
  have hDtho := X_d_tho hD0
  have hDtxt := X_d_txt hD0
  have hDtc := X_d_tc hD0
  have hZ0 := hZ
  have hS : va_S (xA b) s.heap s.heap [] := va_S.rf
  have S : CallFix p m c cX8_twins 1 s ([.ref (b 6 0)] : List Value).toArray AW RX8 := ⟨hx, hb, hml, hown, hA⟩
  have hl := lv_entry ([.ref (b 6 0)]) (n := 1) (Nat.le_of_ble_eq_true rfl)
  rw [lg_entry_eq]
  generalize (lg_sl ([.ref (b 6 0)]) ++ List.replicate (1 - (lg_sl ([.ref (b 6 0)])).length) Slot.unset).toArray = ls at hl ⊢
  have hl : lv_has ls 1 [(0, .ref (b 6 0))] := hl
  have h := hF
  unfold G_X8_twins at h
  refine lv_aload_n hx hb dX8_twins_0 rfl (lv_at hl 0 rfl) ?_
  refine xg_current hx hb hA hown aF_RX8_10 hK hP dX8_twins_1 ?_
  obtain ⟨r1, h2, h⟩ := obd_e h
  refine k_X2_twinPairs S aM_RX8_174 ⟨Nat.le_of_ble_eq_true rfl, Nat.le_of_ble_eq_true rfl⟩ ⟨by decide, by decide⟩ (X_p_cur hP) (X_k hK) hDcur h2 hl.1 (Nat.le_of_ble_eq_true rfl) dX8_twins_4 ?_
  obtain ⟨rfl, rfl, rfl, rfl, rfl, rfl⟩ := os6 h
  refine vx_ret ?_
  refine W.widen (k := 0) (n := 0) (by decide) (by decide) ?_
  exact W.iret (v := r1) hx hb hr (fun t ht hW => ⟨⟨_, b, rfl, ⟨rfl, rfl, xSame_rf⟩, (by rw [ht]; exact hP), (hDX _ _ _ _)⟩, hS.F ht⟩) hS.2.2 dX8_twins_7
set_option maxHeartbeats 4000000 in
set_option maxRecDepth 100000 in
theorem c_X8_bestSeed (l : Launch) (hl0 : l.stackTraces = false) (D : va_G) (cI cF : ClassId) (b : Bf) (N : Nat) (u0 : M2) (φ : M2) (η : HT) (τ : M2) (p1 : Int32) (k0 : Nat) (r0 : Int32) (u0r φr : M2) (ηr : HT) (τr : M2) (hF : G_X8_bestSeed N u0 φ η τ p1 = some (k0, r0, u0r, φr, ηr, τr)) : vx_Met l yX8_bestSeed (wsA yX8_bestSeed cX8_bestSeed 6 (some .int)) { frames := 7, cells := 1, slots := 6, locals := 144 } (va_Pc [.ref (b 6 0), .int p1] (xP D cI cF b u0 φ η τ)) (va_Qi (fun (r : Int32) (u : Bf) => k0 = 0 ∧ r = r0 ∧ xSame b u) (fun u t => va_P D vwCl (xW cI cF u u0r φr ηr τr) t.heap ∧ va_D (fun _ => True) (xW cI cF u u0r φr ηr τr)) (xA b)) (vx_X (fun (u : Bf) => xSame b u) (fun E u t => ¬ k0 = 0 ∧ E = eOf k0 ∧ va_P D vwCl (xW cI cF u u0r φr ηr τr) t.heap ∧ va_D (fun _ => True) (xW cI cF u u0r φr ηr τr)) (xA b)) 1 6 (xA b) := by
  refine vx_ofW (cc := cX8_bestSeed) (maxL := 6) (ret := (some .int)) (by decide) rfl ?_
  intro p e s m args below meth c s₁ B hml htab hpre
  obtain ⟨rfl, hP, hK, hD0, hT, hZ⟩ := hpre
  have hx := B.exec
  have hb := B.bytes
  have hr := B.returns
  have hA : ∀ w ∈ AW, w.before _ s = true := fun w h => atoms_spec (ws := wsA yX8_bestSeed cX8_bestSeed 6 (some .int)) B.pre w (List.mem_cons_of_mem _ h)
  have hown : s.vm.findClass RX8 = some m.cls := findClass_of_methodNamed B.named
  have hlocks := B.notSynchronized
  have hDX := X_D hD0
  have hDcur := X_d_cur hD0
  have hDtho := X_d_tho hD0
  have hDtxt := X_d_txt hD0
  have hDtc := X_d_tc hD0
  have hZ0 := hZ
  have hS : va_S (xA b) s.heap s.heap [] := va_S.rf
  have S : CallFix p m c cX8_bestSeed 6 s ([.ref (b 6 0), .int p1] : List Value).toArray AW RX8 := ⟨hx, hb, hml, hown, hA⟩
  have hl := lv_entry ([.ref (b 6 0), .int p1]) (n := 6) (Nat.le_of_ble_eq_true rfl)
  rw [lg_entry_eq]
  generalize (lg_sl ([.ref (b 6 0), .int p1]) ++ List.replicate (6 - (lg_sl ([.ref (b 6 0), .int p1])).length) Slot.unset).toArray = ls at hl ⊢
  have hl : lv_has ls 6 [(0, .ref (b 6 0)), (1, .int p1)] := hl
  have hL30 : ∀ (k : Nat) (v1 : Int32) (v2 : Int32) (v3 : Int32) (v4 : Int32) (u0 : M2) (φ : M2) (H : Heap) (locs : List Loc) (ls : Array Slot) (o2 : Int32) (φo : M2), L_X8_bestSeed_30 N u0 η τ v1 k v2 v3 v4 φ = some (o2, φo) → va_P D vwCl (xW cI cF b u0 φ η τ) H → va_S (xA b) s.heap H locs → xZ (xA b) s H → lv_has ls 6 [(0, .ref (b 6 0)), (1, .int v1), (2, .int v2), (3, .int v3), (4, .int v4)] → (∀ (H1 : Heap) (locs1 : List Loc) (ls1 : Array Slot), va_P D vwCl (xW cI cF b u0 φo η τ) H1 → va_S (xA b) s.heap H1 locs1 → xZ (xA b) s H1 → lv_has ls1 6 [(2, .int o2)] → W p l e (headSpec (wsA yX8_bestSeed cX8_bestSeed 6 (some .int)) { frames := 7, cells := 1, slots := 6, locals := 144 }).room s m ([.ref (b 6 0), .int p1] : List Value).toArray below meth c H1 locs1 1 6 (vx_MQ below (va_Qi (fun (r : Int32) (u : Bf) => k0 = 0 ∧ r = r0 ∧ xSame b u) (fun u t => va_P D vwCl (xW cI cF u u0r φr ηr τr) t.heap ∧ va_D (fun _ => True) (xW cI cF u u0r φr ηr τr)) (xA b)) (vx_X (fun (u : Bf) => xSame b u) (fun E u t => ¬ k0 = 0 ∧ E = eOf k0 ∧ va_P D vwCl (xW cI cF u u0r φr ηr τr) t.heap ∧ va_D (fun _ => True) (xW cI cF u u0r φr ηr τr)) (xA b)) ([.ref (b 6 0), .int p1] : List Value).toArray s 1 6 (xA b)) (F0 m 79 ls1 [])) → W p l e (headSpec (wsA yX8_bestSeed cX8_bestSeed 6 (some .int)) { frames := 7, cells := 1, slots := 6, locals := 144 }).room s m ([.ref (b 6 0), .int p1] : List Value).toArray below meth c H locs 1 6 (vx_MQ below (va_Qi (fun (r : Int32) (u : Bf) => k0 = 0 ∧ r = r0 ∧ xSame b u) (fun u t => va_P D vwCl (xW cI cF u u0r φr ηr τr) t.heap ∧ va_D (fun _ => True) (xW cI cF u u0r φr ηr τr)) (xA b)) (vx_X (fun (u : Bf) => xSame b u) (fun E u t => ¬ k0 = 0 ∧ E = eOf k0 ∧ va_P D vwCl (xW cI cF u u0r φr ηr τr) t.heap ∧ va_D (fun _ => True) (xW cI cF u u0r φr ηr τr)) (xA b)) ([.ref (b 6 0), .int p1] : List Value).toArray s 1 6 (xA b)) (F0 m 30 ls []) := by
    intro k
    induction k with
    | zero =>
      intro v1 v2 v3 v4 u0 φ H locs ls o2 φo h hP hS hZ hl kk
      exact no_s h
    | succ k ih =>
      intro v1 v2 v3 v4 u0 φ H locs ls o2 φo h hP hS hZ hl kk
      replace h : B_X8_bestSeed_30 N u0 η τ v1 (L_X8_bestSeed_30 N u0 η τ v1 k) v2 v3 v4 φ = some (o2, φo) := h
      unfold B_X8_bestSeed_30 at h
      refine lv_iload hx hb dX8_bestSeed_30 (lv_at hl 4 rfl) ?_
      refine lv_iload_n hx hb dX8_bestSeed_32 rfl (lv_at hl 1 rfl) ?_
      refine lv_icmp_ge (tgt := 79) hx hb dX8_bestSeed_33 (by decide) (fun hc => ?_) (fun hc => ?_)
      · replace h := oi_t hc h
        obtain ⟨rfl, rfl⟩ := os2 h
        exact kk _ _ _ hP hS hZ (lv_sub hl [2] rfl)
      · replace h := oi_f hc h
        refine lv_aload_n hx hb dX8_bestSeed_36 rfl (lv_at hl 0 rfl) ?_
        refine xg_thought hx hb hA hown aF_RX8_16 hK hP dX8_bestSeed_37 ?_
        refine lv_iload hx hb dX8_bestSeed_40 (lv_at hl 4 rfl) ?_
        obtain ⟨r7, w5, h6, h⟩ := obd2_e h
        refine fx_runVi (n := 1) (C := RX2) (As := [.int v4]) S (c_X2_refillWithSeed l D cI (b 1) N φ v4 r7 w5 h6) (F_pre (q0 := 0) (ci := 0) (X_k hK) (X_p_tho hP) (hDtho _) rfl rfl) hS (fun q h => X_a_tho h) aM_RX8_177 aI_X2_refillWithSeed aV_X2_refillWithSeed aN_RX2 aC_X2_refillWithSeed rfl rfl (by decide +kernel) rfl ⟨Nat.le_of_ble_eq_true rfl, Nat.le_of_ble_eq_true rfl⟩ ⟨by decide, by decide⟩ hl.1 (Nat.le_of_ble_eq_true rfl) dX8_bestSeed_42 (fun rr _ t H locs ht hr hB hk hz hS => ?_)
        obtain ⟨hr, br7⟩ := hr
        rw [hr] at br7
        replace hr := hr.symm
        subst hr
        have hP := X_set_tho hP (hDX _ _ _ _) hk (by rw [← ht]; exact hB)
        have hZ := hZ.kept (fun a ha hn => hk a ha (fun z => hn (X_a_tho z)))
        refine lv_if_eq (tgt := 73) hx hb dX8_bestSeed_45 (by decide) (fun hc => ?_) (fun hc => ?_)
        · replace h := oi_t hc h
          refine lv_iinc (v := v4 + 1) (lv' := [(4, .int (v4 + 1)), (0, .ref (b 6 0)), (1, .int v1), (2, .int v2), (3, .int v3)]) hx hb dX8_bestSeed_73 hl (k := 4) rfl (fm_inc _ _ _ (by decide)) (by decide) rfl (fun ls hl => ?_)
          refine lv_goto (tgt := 30) hx hb dX8_bestSeed_76 (by decide) ?_
          exact ih _ _ _ _ _ _ _ _ _ _ _ h hP hS hZ (lv_sub hl [1, 2, 3, 4, 0] rfl) kk
        · replace h := oi_f hc h
          refine lv_aload_n hx hb dX8_bestSeed_48 rfl (lv_at hl 0 rfl) ?_
          refine xg_thought hx hb hA hown aF_RX8_16 hK hP dX8_bestSeed_49 ?_
          refine lv_iconst (v := 0) hx hb dX8_bestSeed_52 (by decide) ?_
          refine lv_sipush (v := 999) hx hb dX8_bestSeed_53 (by decide) ?_
          obtain ⟨r8, h9, h⟩ := obd_e h
          refine k_X2_falseBetween S aM_RX8_165 ⟨Nat.le_of_ble_eq_true rfl, Nat.le_of_ble_eq_true rfl⟩ ⟨by decide, by decide⟩ (X_p_tho hP) (X_k hK) hDtho h9 hl.1 (Nat.le_of_ble_eq_true rfl) dX8_bestSeed_56 ?_
          refine lv_istore (lv' := [(5, .int r8), (0, .ref (b 6 0)), (1, .int v1), (2, .int v2), (3, .int v3), (4, .int v4)]) hx hb dX8_bestSeed_59 hl (by decide) rfl (fun ls hl => ?_)
          refine lv_iload hx hb dX8_bestSeed_61 (lv_at hl 0 rfl) ?_
          refine lv_iload_n hx hb dX8_bestSeed_63 rfl (lv_at hl 4 rfl) ?_
          refine lv_icmp_ge (tgt := 73) hx hb dX8_bestSeed_64 (by decide) (fun hc => ?_) (fun hc => ?_)
          · replace h := oi_t hc h
            refine lv_iinc (v := v4 + 1) (lv' := [(4, .int (v4 + 1)), (5, .int r8), (0, .ref (b 6 0)), (1, .int v1), (2, .int v2), (3, .int v3)]) hx hb dX8_bestSeed_73 hl (k := 5) rfl (fm_inc _ _ _ (by decide)) (by decide) rfl (fun ls hl => ?_)
            refine lv_goto (tgt := 30) hx hb dX8_bestSeed_76 (by decide) ?_
            exact ih _ _ _ _ _ _ _ _ _ _ _ h hP hS hZ (lv_sub hl [2, 3, 4, 5, 0] rfl) kk
          · replace h := oi_f hc h
            refine lv_iload hx hb dX8_bestSeed_67 (lv_at hl 0 rfl) ?_
            refine lv_istore_n (lv' := [(3, .int r8), (5, .int r8), (0, .ref (b 6 0)), (1, .int v1), (2, .int v2), (4, .int v4)]) hx hb dX8_bestSeed_69 rfl hl (by decide) rfl (fun ls hl => ?_)
            refine lv_iload hx hb dX8_bestSeed_70 (lv_at hl 5 rfl) ?_
            refine lv_istore_n (lv' := [(2, .int v4), (3, .int r8), (5, .int r8), (0, .ref (b 6 0)), (1, .int v1), (4, .int v4)]) hx hb dX8_bestSeed_72 rfl hl (by decide) rfl (fun ls hl => ?_)
            refine lv_iinc (v := v4 + 1) (lv' := [(4, .int (v4 + 1)), (2, .int v4), (3, .int r8), (5, .int r8), (0, .ref (b 6 0)), (1, .int v1)]) hx hb dX8_bestSeed_73 hl (k := 5) rfl (fm_inc _ _ _ (by decide)) (by decide) rfl (fun ls hl => ?_)
            refine lv_goto (tgt := 30) hx hb dX8_bestSeed_76 (by decide) ?_
            exact ih _ _ _ _ _ _ _ _ _ _ _ h hP hS hZ (lv_sub hl [4, 5, 1, 2, 0] rfl) kk
  have h := hF
  unfold G_X8_bestSeed at h
  refine lv_iload_n hx hb dX8_bestSeed_0 rfl (lv_at hl 1 rfl) ?_
  refine lv_iconst (v := 1) hx hb dX8_bestSeed_1 (by decide) ?_
  refine lv_bipush (v := 20) hx hb dX8_bestSeed_2 (by decide) ?_
  refine k_X8_within S aM_RX8_71 ⟨Nat.le_of_ble_eq_true rfl, Nat.le_of_ble_eq_true rfl⟩ ⟨by decide, by decide⟩ hl.1 (Nat.le_of_ble_eq_true rfl) dX8_bestSeed_4 (fun r1 er1 br1 => ?_)
  replace h := olet_s er1 h
  refine fx_chk (n := 1) (As := [.int r1]) S (c_X8_checkArgument l hl0 (xA b) r1) hT hZ hS aM_RX8_101 aS_X8_checkArgument aN_RX8 aC_X8_checkArgument rfl rfl (by decide +kernel) rfl ⟨Nat.le_of_ble_eq_true rfl, Nat.le_of_ble_eq_true rfl⟩ ⟨by decide, by decide⟩ hl.1 (Nat.le_of_ble_eq_true rfl) dX8_bestSeed_7 (fun hg ce q9 H locs hk hz hS h9 hv hcl => ?_) (fun hg H locs hk hz hS => ?_)
  · replace h := oi_t hg h
    obtain ⟨rfl, rfl, rfl, rfl, rfl, rfl⟩ := os6 h
    exact vx_out (fun x hx => (htab x hx).elim) hlocks h9 hv hcl (fun t ht _ => ⟨b, xSame_rf, ⟨by decide, rfl, (by rw [ht]; exact X_all hP hk), hDX _ _ _ _⟩, hS.F ht⟩) hS.2.2 (by decide) (by decide)
  · replace h := oi_f hg h
    have hP := X_all hP hk
    have hZ := hZ.kept (fun a ha _ => hk a ha)
    refine lv_aload_n hx hb dX8_bestSeed_10 rfl (lv_at hl 0 rfl) ?_
    refine xg_thought hx hb hA hown aF_RX8_16 hK hP dX8_bestSeed_11 ?_
    refine lv_aload_n hx hb dX8_bestSeed_14 rfl (lv_at hl 0 rfl) ?_
    refine xg_current hx hb hA hown aF_RX8_10 hK hP dX8_bestSeed_15 ?_
    obtain ⟨w2, h3, h⟩ := obd_e h
    refine fx_runVv (n := 1) (C := RX2) (As := [.ref (b 0 0)]) S (c_X2_copyFrom l D cI (xPa (b 1) (b 0)) N (xPm φ u0) w2 h3) (P_pre (q0 := 0) (ci := 0) (X_k hK) (X_p_tc hP) (hDtc _) rfl rfl) hS (fun q h => X_a_tc h) aM_RX8_82 aI_X2_copyFrom aV_X2_copyFrom aN_RX2 aC_X2_copyFrom rfl rfl (by decide +kernel) rfl ⟨Nat.le_of_ble_eq_true rfl, Nat.le_of_ble_eq_true rfl⟩ ⟨by decide, by decide⟩ hl.1 (Nat.le_of_ble_eq_true rfl) dX8_bestSeed_18 (fun _ t H locs ht _ hB hk hz hS => ?_)
    have hP := X_set_tc hP (hDX _ _ _ _) hk (by rw [← ht]; exact hB)
    have hZ := hZ.kept (fun a ha hn => hk a ha (fun z => hn (X_a_tc z)))
    obtain ⟨u4, eu4⟩ : ∃ u4, u4 = xsh w2 := ⟨_, rfl⟩
    rw [← eu4] at hP
    replace h := olet_s eu4 h
    refine lv_iconst (v := (-1)) hx hb dX8_bestSeed_21 (by decide) ?_
    refine lv_istore_n (lv' := [(2, .int ((-1))), (0, .ref (b 6 0)), (1, .int p1)]) hx hb dX8_bestSeed_22 rfl hl (by decide) rfl (fun ls hl => ?_)
    refine lv_sipush (v := 1001) hx hb dX8_bestSeed_23 (by decide) ?_
    refine lv_istore_n (lv' := [(3, .int 1001), (2, .int ((-1))), (0, .ref (b 6 0)), (1, .int p1)]) hx hb dX8_bestSeed_26 rfl hl (by decide) rfl (fun ls hl => ?_)
    refine lv_iconst (v := 0) hx hb dX8_bestSeed_27 (by decide) ?_
    refine lv_istore (lv' := [(4, .int 0), (3, .int 1001), (2, .int ((-1))), (0, .ref (b 6 0)), (1, .int p1)]) hx hb dX8_bestSeed_28 hl (by decide) rfl (fun ls hl => ?_)
    obtain ⟨y10, w11, h12, h⟩ := obd2_e h
    refine hL30 N _ _ _ _ _ _ _ _ _ _ _ h12 hP hS hZ (lv_sub hl [3, 4, 2, 1, 0] rfl) (fun H locs ls hP hS hZ hl => ?_)
    refine lv_iload_n hx hb dX8_bestSeed_79 rfl (lv_at hl 0 rfl) ?_
    obtain ⟨rfl, rfl, rfl, rfl, rfl, rfl⟩ := os6 h
    refine vx_ret ?_
    refine W.widen (k := 1) (n := 6) (by decide) (by decide) ?_
    exact W.iret (v := y10) hx hb hr (fun t ht hW => ⟨⟨_, b, rfl, ⟨rfl, rfl, xSame_rf⟩, (by rw [ht]; exact hP), (hDX _ _ _ _)⟩, hS.F ht⟩) hS.2.2 dX8_bestSeed_80
set_option maxHeartbeats 4000000 in
set_option maxRecDepth 100000 in
theorem c_X8_leastBits (l : Launch) (hl0 : l.stackTraces = false) (D : va_G) (cI cF : ClassId) (b : Bf) (N : Nat) (u0 : M2) (φ : M2) (η : HT) (τ : M2) (p1 : Int32) (p2 : Int32) (k0 : Nat) (r0 : Int32) (u0r φr : M2) (ηr : HT) (τr : M2) (hF : G_X8_leastBits N u0 φ η τ p1 p2 = some (k0, r0, u0r, φr, ηr, τr)) : vx_Met l yX8_leastBits (wsA yX8_leastBits cX8_leastBits 4 (some .int)) { frames := 7, cells := 2, slots := 12, locals := 146 } (va_Pc [.ref (b 6 0), .int p1, .int p2] (xP D cI cF b u0 φ η τ)) (va_Qi (fun (r : Int32) (u : Bf) => k0 = 0 ∧ r = r0 ∧ xSame b u) (fun u t => va_P D vwCl (xW cI cF u u0r φr ηr τr) t.heap ∧ va_D (fun _ => True) (xW cI cF u u0r φr ηr τr)) (xA b)) (vx_X (fun (u : Bf) => xSame b u) (fun E u t => ¬ k0 = 0 ∧ E = eOf k0 ∧ va_P D vwCl (xW cI cF u u0r φr ηr τr) t.heap ∧ va_D (fun _ => True) (xW cI cF u u0r φr ηr τr)) (xA b)) 2 12 (xA b) := by
  refine vx_ofW (cc := cX8_leastBits) (maxL := 4) (ret := (some .int)) (by decide) rfl ?_
  intro p e s m args below meth c s₁ B hml htab hpre
  obtain ⟨rfl, hP, hK, hD0, hT, hZ⟩ := hpre
  have hx := B.exec
  have hb := B.bytes
  have hr := B.returns
  have hA : ∀ w ∈ AW, w.before _ s = true := fun w h => atoms_spec (ws := wsA yX8_leastBits cX8_leastBits 4 (some .int)) B.pre w (List.mem_cons_of_mem _ h)
  have hown : s.vm.findClass RX8 = some m.cls := findClass_of_methodNamed B.named
  have hlocks := B.notSynchronized
  have hDX := X_D hD0
  have hDcur := X_d_cur hD0
  have hDtho := X_d_tho hD0
  have hDtxt := X_d_txt hD0
  have hDtc := X_d_tc hD0
  have hZ0 := hZ
  have hS : va_S (xA b) s.heap s.heap [] := va_S.rf
  have S : CallFix p m c cX8_leastBits 4 s ([.ref (b 6 0), .int p1, .int p2] : List Value).toArray AW RX8 := ⟨hx, hb, hml, hown, hA⟩
  have hl := lv_entry ([.ref (b 6 0), .int p1, .int p2]) (n := 4) (Nat.le_of_ble_eq_true rfl)
  rw [lg_entry_eq]
  generalize (lg_sl ([.ref (b 6 0), .int p1, .int p2]) ++ List.replicate (4 - (lg_sl ([.ref (b 6 0), .int p1, .int p2])).length) Slot.unset).toArray = ls at hl ⊢
  have hl : lv_has ls 4 [(0, .ref (b 6 0)), (1, .int p1), (2, .int p2)] := hl
  have hL32 : ∀ (k : Nat) (v1 : Int32) (v2 : Int32) (v3 : Int32) (u0 : M2) (φ : M2) (H : Heap) (locs : List Loc) (ls : Array Slot) , L_X8_leastBits_32 N u0 η τ v1 v2 k v3 φ = some (k0, r0, u0r, φr, ηr, τr) → va_P D vwCl (xW cI cF b u0 φ η τ) H → va_S (xA b) s.heap H locs → xZ (xA b) s H → lv_has ls 4 [(0, .ref (b 6 0)), (1, .int v1), (2, .int v2), (3, .int v3)] → W p l e (headSpec (wsA yX8_leastBits cX8_leastBits 4 (some .int)) { frames := 7, cells := 2, slots := 12, locals := 146 }).room s m ([.ref (b 6 0), .int p1, .int p2] : List Value).toArray below meth c H locs 2 12 (vx_MQ below (va_Qi (fun (r : Int32) (u : Bf) => k0 = 0 ∧ r = r0 ∧ xSame b u) (fun u t => va_P D vwCl (xW cI cF u u0r φr ηr τr) t.heap ∧ va_D (fun _ => True) (xW cI cF u u0r φr ηr τr)) (xA b)) (vx_X (fun (u : Bf) => xSame b u) (fun E u t => ¬ k0 = 0 ∧ E = eOf k0 ∧ va_P D vwCl (xW cI cF u u0r φr ηr τr) t.heap ∧ va_D (fun _ => True) (xW cI cF u u0r φr ηr τr)) (xA b)) ([.ref (b 6 0), .int p1, .int p2] : List Value).toArray s 2 12 (xA b)) (F0 m 32 ls []) := by
    intro k
    induction k with
    | zero =>
      intro v1 v2 v3 u0 φ H locs ls h hP hS hZ hl
      exact no_s h
    | succ k ih =>
      intro v1 v2 v3 u0 φ H locs ls h hP hS hZ hl
      replace h : B_X8_leastBits_32 N u0 η τ v1 v2 (L_X8_leastBits_32 N u0 η τ v1 v2 k) v3 φ = some (k0, r0, u0r, φr, ηr, τr) := h
      unfold B_X8_leastBits_32 at h
      refine lv_iload_n hx hb dX8_leastBits_32 rfl (lv_at hl 3 rfl) ?_
      refine lv_bipush (v := 6) hx hb dX8_leastBits_33 (by decide) ?_
      refine lv_icmp_gt (tgt := 59) hx hb dX8_leastBits_35 (by decide) (fun hc => ?_) (fun hc => ?_)
      · replace h := oi_t hc h
        refine lv_iconst (v := (-1)) hx hb dX8_leastBits_59 (by decide) ?_
        obtain ⟨rfl, rfl, rfl, rfl, rfl, rfl⟩ := os6 h
        refine vx_ret ?_
        refine W.widen (k := 2) (n := 12) (by decide) (by decide) ?_
        exact W.iret (v := (-1)) hx hb hr (fun t ht hW => ⟨⟨_, b, rfl, ⟨rfl, rfl, xSame_rf⟩, (by rw [ht]; exact hP), (hDX _ _ _ _)⟩, hS.F ht⟩) hS.2.2 dX8_leastBits_60
      · replace h := oi_f hc h
        refine lv_aload_n hx hb dX8_leastBits_38 rfl (lv_at hl 0 rfl) ?_
        refine xg_thought hx hb hA hown aF_RX8_16 hK hP dX8_leastBits_39 ?_
        refine lv_iload_n hx hb dX8_leastBits_42 rfl (lv_at hl 3 rfl) ?_
        refine lv_iload_n hx hb dX8_leastBits_43 rfl (lv_at hl 1 rfl) ?_
        refine lv_iload_n hx hb dX8_leastBits_44 rfl (lv_at hl 2 rfl) ?_
        obtain ⟨r8, w6, h7, h⟩ := obd2_e h
        refine fx_runVi (n := 3) (C := RX2) (As := [.int v3, .int v1, .int v2]) S (c_X2_refillWithBits l D cI (b 1) N φ v3 v1 v2 r8 w6 h7) (F_pre (q0 := 0) (ci := 0) (X_k hK) (X_p_tho hP) (hDtho _) rfl rfl) hS (fun q h => X_a_tho h) aM_RX8_180 aI_X2_refillWithBits aV_X2_refillWithBits aN_RX2 aC_X2_refillWithBits rfl rfl (by decide +kernel) rfl ⟨Nat.le_of_ble_eq_true rfl, Nat.le_of_ble_eq_true rfl⟩ ⟨by decide, by decide⟩ hl.1 (Nat.le_of_ble_eq_true rfl) dX8_leastBits_45 (fun rr _ t H locs ht hr hB hk hz hS => ?_)
        obtain ⟨hr, br8⟩ := hr
        rw [hr] at br8
        replace hr := hr.symm
        subst hr
        have hP := X_set_tho hP (hDX _ _ _ _) hk (by rw [← ht]; exact hB)
        have hZ := hZ.kept (fun a ha hn => hk a ha (fun z => hn (X_a_tho z)))
        refine lv_if_eq (tgt := 53) hx hb dX8_leastBits_48 (by decide) (fun hc => ?_) (fun hc => ?_)
        · replace h := oi_t hc h
          refine lv_iinc (v := v3 + 1) (lv' := [(3, .int (v3 + 1)), (0, .ref (b 6 0)), (1, .int v1), (2, .int v2)]) hx hb dX8_leastBits_53 hl (k := 3) rfl (fm_inc _ _ _ (by decide)) (by decide) rfl (fun ls hl => ?_)
          refine lv_goto (tgt := 32) hx hb dX8_leastBits_56 (by decide) ?_
          exact ih _ _ _ _ _ _ _ _  h hP hS hZ (lv_sub hl [1, 2, 3, 0] rfl)
        · replace h := oi_f hc h
          refine lv_iload_n hx hb dX8_leastBits_51 rfl (lv_at hl 3 rfl) ?_
          obtain ⟨rfl, rfl, rfl, rfl, rfl, rfl⟩ := os6 h
          refine vx_ret ?_
          refine W.widen (k := 2) (n := 12) (by decide) (by decide) ?_
          exact W.iret (v := v3) hx hb hr (fun t ht hW => ⟨⟨_, b, rfl, ⟨rfl, rfl, xSame_rf⟩, (by rw [ht]; exact hP), (hDX _ _ _ _)⟩, hS.F ht⟩) hS.2.2 dX8_leastBits_52
  have h := hF
  unfold G_X8_leastBits at h
  refine lv_iload_n hx hb dX8_leastBits_0 rfl (lv_at hl 1 rfl) ?_
  refine lv_iconst (v := 1) hx hb dX8_leastBits_1 (by decide) ?_
  refine lv_iconst (v := 4) hx hb dX8_leastBits_2 (by decide) ?_
  refine k_X8_within S aM_RX8_71 ⟨Nat.le_of_ble_eq_true rfl, Nat.le_of_ble_eq_true rfl⟩ ⟨by decide, by decide⟩ hl.1 (Nat.le_of_ble_eq_true rfl) dX8_leastBits_3 (fun r1 er1 br1 => ?_)
  replace h := olet_s er1 h
  refine fx_chk (n := 1) (As := [.int r1]) S (c_X8_checkArgument l hl0 (xA b) r1) hT hZ hS aM_RX8_101 aS_X8_checkArgument aN_RX8 aC_X8_checkArgument rfl rfl (by decide +kernel) rfl ⟨Nat.le_of_ble_eq_true rfl, Nat.le_of_ble_eq_true rfl⟩ ⟨by decide, by decide⟩ hl.1 (Nat.le_of_ble_eq_true rfl) dX8_leastBits_6 (fun hg ce q9 H locs hk hz hS h9 hv hcl => ?_) (fun hg H locs hk hz hS => ?_)
  · replace h := oi_t hg h
    obtain ⟨rfl, rfl, rfl, rfl, rfl, rfl⟩ := os6 h
    exact vx_out (fun x hx => (htab x hx).elim) hlocks h9 hv hcl (fun t ht _ => ⟨b, xSame_rf, ⟨by decide, rfl, (by rw [ht]; exact X_all hP hk), hDX _ _ _ _⟩, hS.F ht⟩) hS.2.2 (by decide) (by decide)
  · replace h := oi_f hg h
    have hP := X_all hP hk
    have hZ := hZ.kept (fun a ha _ => hk a ha)
    refine lv_iload_n hx hb dX8_leastBits_9 rfl (lv_at hl 2 rfl) ?_
    refine lv_iconst (v := 1) hx hb dX8_leastBits_10 (by decide) ?_
    refine lv_bipush (v := 8) hx hb dX8_leastBits_11 (by decide) ?_
    refine k_X8_within S aM_RX8_71 ⟨Nat.le_of_ble_eq_true rfl, Nat.le_of_ble_eq_true rfl⟩ ⟨by decide, by decide⟩ hl.1 (Nat.le_of_ble_eq_true rfl) dX8_leastBits_13 (fun r2 er2 br2 => ?_)
    replace h := olet_s er2 h
    refine fx_chk (n := 1) (As := [.int r2]) S (c_X8_checkArgument l hl0 (xA b) r2) hT hZ hS aM_RX8_101 aS_X8_checkArgument aN_RX8 aC_X8_checkArgument rfl rfl (by decide +kernel) rfl ⟨Nat.le_of_ble_eq_true rfl, Nat.le_of_ble_eq_true rfl⟩ ⟨by decide, by decide⟩ hl.1 (Nat.le_of_ble_eq_true rfl) dX8_leastBits_16 (fun hg ce q9 H locs hk hz hS h9 hv hcl => ?_) (fun hg H locs hk hz hS => ?_)
    · replace h := oi_t hg h
      obtain ⟨rfl, rfl, rfl, rfl, rfl, rfl⟩ := os6 h
      exact vx_out (fun x hx => (htab x hx).elim) hlocks h9 hv hcl (fun t ht _ => ⟨b, xSame_rf, ⟨by decide, rfl, (by rw [ht]; exact X_all hP hk), hDX _ _ _ _⟩, hS.F ht⟩) hS.2.2 (by decide) (by decide)
    · replace h := oi_f hg h
      have hP := X_all hP hk
      have hZ := hZ.kept (fun a ha _ => hk a ha)
      refine lv_aload_n hx hb dX8_leastBits_19 rfl (lv_at hl 0 rfl) ?_
      refine xg_thought hx hb hA hown aF_RX8_16 hK hP dX8_leastBits_20 ?_
      refine lv_aload_n hx hb dX8_leastBits_23 rfl (lv_at hl 0 rfl) ?_
      refine xg_current hx hb hA hown aF_RX8_10 hK hP dX8_leastBits_24 ?_
      obtain ⟨w3, h4, h⟩ := obd_e h
      refine fx_runVv (n := 1) (C := RX2) (As := [.ref (b 0 0)]) S (c_X2_copyFrom l D cI (xPa (b 1) (b 0)) N (xPm φ u0) w3 h4) (P_pre (q0 := 0) (ci := 0) (X_k hK) (X_p_tc hP) (hDtc _) rfl rfl) hS (fun q h => X_a_tc h) aM_RX8_82 aI_X2_copyFrom aV_X2_copyFrom aN_RX2 aC_X2_copyFrom rfl rfl (by decide +kernel) rfl ⟨Nat.le_of_ble_eq_true rfl, Nat.le_of_ble_eq_true rfl⟩ ⟨by decide, by decide⟩ hl.1 (Nat.le_of_ble_eq_true rfl) dX8_leastBits_27 (fun _ t H locs ht _ hB hk hz hS => ?_)
      have hP := X_set_tc hP (hDX _ _ _ _) hk (by rw [← ht]; exact hB)
      have hZ := hZ.kept (fun a ha hn => hk a ha (fun z => hn (X_a_tc z)))
      obtain ⟨u5, eu5⟩ : ∃ u5, u5 = xsh w3 := ⟨_, rfl⟩
      rw [← eu5] at hP
      replace h := olet_s eu5 h
      refine lv_iconst (v := 1) hx hb dX8_leastBits_30 (by decide) ?_
      refine lv_istore_n (lv' := [(3, .int 1), (0, .ref (b 6 0)), (1, .int p1), (2, .int p2)]) hx hb dX8_leastBits_31 rfl hl (by decide) rfl (fun ls hl => ?_)
      exact hL32 N _ _ _ _ _ _ _ _ h hP hS hZ (lv_sub hl [1, 2, 3, 0] rfl)
set_option maxHeartbeats 4000000 in
set_option maxRecDepth 100000 in
theorem c_X8_couldFit (l : Launch) (hl0 : l.stackTraces = false) (D : va_G) (cI cF : ClassId) (b : Bf) (N : Nat) (u0 : M2) (φ : M2) (η : HT) (τ : M2) (p1 : Int32) (p2 : Int32) (p3 : Int32) (k0 : Nat) (r0 : Int32) (u0r φr : M2) (ηr : HT) (τr : M2) (hF : G_X8_couldFit N u0 φ η τ p1 p2 p3 = some (k0, r0, u0r, φr, ηr, τr)) : vx_Met l yX8_couldFit (wsA yX8_couldFit cX8_couldFit 4 (some .boolean)) { frames := 7, cells := 3, slots := 18, locals := 117 } (va_Pc [.ref (b 6 0), .int p1, .int p2, .int p3] (xP D cI cF b u0 φ η τ)) (va_Qi (fun (r : Int32) (u : Bf) => k0 = 0 ∧ r = r0 ∧ xSame b u ∧ (r = 0 ∨ r = 1)) (fun u t => va_P D vwCl (xW cI cF u u0r φr ηr τr) t.heap ∧ va_D (fun _ => True) (xW cI cF u u0r φr ηr τr)) (xA b)) (vx_X (fun (u : Bf) => xSame b u) (fun E u t => ¬ k0 = 0 ∧ E = eOf k0 ∧ va_P D vwCl (xW cI cF u u0r φr ηr τr) t.heap ∧ va_D (fun _ => True) (xW cI cF u u0r φr ηr τr)) (xA b)) 3 18 (xA b) := by
  refine vx_ofW (cc := cX8_couldFit) (maxL := 4) (ret := (some .boolean)) (by decide) rfl ?_
  intro p e s m args below meth c s₁ B hml htab hpre
  obtain ⟨rfl, hP, hK, hD0, hT, hZ⟩ := hpre
  have hx := B.exec
  have hb := B.bytes
  have hr := B.returns
  have hA : ∀ w ∈ AW, w.before _ s = true := fun w h => atoms_spec (ws := wsA yX8_couldFit cX8_couldFit 4 (some .boolean)) B.pre w (List.mem_cons_of_mem _ h)
  have hown : s.vm.findClass RX8 = some m.cls := findClass_of_methodNamed B.named
  have hlocks := B.notSynchronized
  have hDX := X_D hD0
  have hDcur := X_d_cur hD0
  have hDtho := X_d_tho hD0
  have hDtxt := X_d_txt hD0
  have hDtc := X_d_tc hD0
  have hZ0 := hZ
  have hS : va_S (xA b) s.heap s.heap [] := va_S.rf
  have S : CallFix p m c cX8_couldFit 4 s ([.ref (b 6 0), .int p1, .int p2, .int p3] : List Value).toArray AW RX8 := ⟨hx, hb, hml, hown, hA⟩
  have hl := lv_entry ([.ref (b 6 0), .int p1, .int p2, .int p3]) (n := 4) (Nat.le_of_ble_eq_true rfl)
  rw [lg_entry_eq]
  generalize (lg_sl ([.ref (b 6 0), .int p1, .int p2, .int p3]) ++ List.replicate (4 - (lg_sl ([.ref (b 6 0), .int p1, .int p2, .int p3])).length) Slot.unset).toArray = ls at hl ⊢
  have hl : lv_has ls 4 [(0, .ref (b 6 0)), (1, .int p1), (2, .int p2), (3, .int p3)] := hl
  have h := hF
  unfold G_X8_couldFit at h
  refine lv_iload_n hx hb dX8_couldFit_0 rfl (lv_at hl 1 rfl) ?_
  refine lv_iconst (v := 1) hx hb dX8_couldFit_1 (by decide) ?_
  refine lv_bipush (v := 6) hx hb dX8_couldFit_2 (by decide) ?_
  refine k_X8_within S aM_RX8_71 ⟨Nat.le_of_ble_eq_true rfl, Nat.le_of_ble_eq_true rfl⟩ ⟨by decide, by decide⟩ hl.1 (Nat.le_of_ble_eq_true rfl) dX8_couldFit_4 (fun r1 er1 br1 => ?_)
  replace h := olet_s er1 h
  refine fx_chk (n := 1) (As := [.int r1]) S (c_X8_checkArgument l hl0 (xA b) r1) hT hZ hS aM_RX8_101 aS_X8_checkArgument aN_RX8 aC_X8_checkArgument rfl rfl (by decide +kernel) rfl ⟨Nat.le_of_ble_eq_true rfl, Nat.le_of_ble_eq_true rfl⟩ ⟨by decide, by decide⟩ hl.1 (Nat.le_of_ble_eq_true rfl) dX8_couldFit_7 (fun hg ce q9 H locs hk hz hS h9 hv hcl => ?_) (fun hg H locs hk hz hS => ?_)
  · replace h := oi_t hg h
    obtain ⟨rfl, rfl, rfl, rfl, rfl, rfl⟩ := os6 h
    exact vx_out (fun x hx => (htab x hx).elim) hlocks h9 hv hcl (fun t ht _ => ⟨b, xSame_rf, ⟨by decide, rfl, (by rw [ht]; exact X_all hP hk), hDX _ _ _ _⟩, hS.F ht⟩) hS.2.2 (by decide) (by decide)
  · replace h := oi_f hg h
    have hP := X_all hP hk
    have hZ := hZ.kept (fun a ha _ => hk a ha)
    refine lv_iload_n hx hb dX8_couldFit_10 rfl (lv_at hl 2 rfl) ?_
    refine lv_iconst (v := 1) hx hb dX8_couldFit_11 (by decide) ?_
    refine lv_iconst (v := 4) hx hb dX8_couldFit_12 (by decide) ?_
    refine k_X8_within S aM_RX8_71 ⟨Nat.le_of_ble_eq_true rfl, Nat.le_of_ble_eq_true rfl⟩ ⟨by decide, by decide⟩ hl.1 (Nat.le_of_ble_eq_true rfl) dX8_couldFit_13 (fun r2 er2 br2 => ?_)
    replace h := olet_s er2 h
    refine fx_chk (n := 1) (As := [.int r2]) S (c_X8_checkArgument l hl0 (xA b) r2) hT hZ hS aM_RX8_101 aS_X8_checkArgument aN_RX8 aC_X8_checkArgument rfl rfl (by decide +kernel) rfl ⟨Nat.le_of_ble_eq_true rfl, Nat.le_of_ble_eq_true rfl⟩ ⟨by decide, by decide⟩ hl.1 (Nat.le_of_ble_eq_true rfl) dX8_couldFit_16 (fun hg ce q9 H locs hk hz hS h9 hv hcl => ?_) (fun hg H locs hk hz hS => ?_)
    · replace h := oi_t hg h
      obtain ⟨rfl, rfl, rfl, rfl, rfl, rfl⟩ := os6 h
      exact vx_out (fun x hx => (htab x hx).elim) hlocks h9 hv hcl (fun t ht _ => ⟨b, xSame_rf, ⟨by decide, rfl, (by rw [ht]; exact X_all hP hk), hDX _ _ _ _⟩, hS.F ht⟩) hS.2.2 (by decide) (by decide)
    · replace h := oi_f hg h
      have hP := X_all hP hk
      have hZ := hZ.kept (fun a ha _ => hk a ha)
      refine lv_iload_n hx hb dX8_couldFit_19 rfl (lv_at hl 3 rfl) ?_
      refine lv_iconst (v := 0) hx hb dX8_couldFit_20 (by decide) ?_
      refine lv_bipush (v := 99) hx hb dX8_couldFit_21 (by decide) ?_
      refine k_X8_within S aM_RX8_71 ⟨Nat.le_of_ble_eq_true rfl, Nat.le_of_ble_eq_true rfl⟩ ⟨by decide, by decide⟩ hl.1 (Nat.le_of_ble_eq_true rfl) dX8_couldFit_23 (fun r3 er3 br3 => ?_)
      replace h := olet_s er3 h
      refine fx_chk (n := 1) (As := [.int r3]) S (c_X8_checkArgument l hl0 (xA b) r3) hT hZ hS aM_RX8_101 aS_X8_checkArgument aN_RX8 aC_X8_checkArgument rfl rfl (by decide +kernel) rfl ⟨Nat.le_of_ble_eq_true rfl, Nat.le_of_ble_eq_true rfl⟩ ⟨by decide, by decide⟩ hl.1 (Nat.le_of_ble_eq_true rfl) dX8_couldFit_26 (fun hg ce q9 H locs hk hz hS h9 hv hcl => ?_) (fun hg H locs hk hz hS => ?_)
      · replace h := oi_t hg h
        obtain ⟨rfl, rfl, rfl, rfl, rfl, rfl⟩ := os6 h
        exact vx_out (fun x hx => (htab x hx).elim) hlocks h9 hv hcl (fun t ht _ => ⟨b, xSame_rf, ⟨by decide, rfl, (by rw [ht]; exact X_all hP hk), hDX _ _ _ _⟩, hS.F ht⟩) hS.2.2 (by decide) (by decide)
      · replace h := oi_f hg h
        have hP := X_all hP hk
        have hZ := hZ.kept (fun a ha _ => hk a ha)
        refine lv_aload_n hx hb dX8_couldFit_29 rfl (lv_at hl 0 rfl) ?_
        refine xg_thought hx hb hA hown aF_RX8_16 hK hP dX8_couldFit_30 ?_
        refine lv_aload_n hx hb dX8_couldFit_33 rfl (lv_at hl 0 rfl) ?_
        refine xg_current hx hb hA hown aF_RX8_10 hK hP dX8_couldFit_34 ?_
        obtain ⟨w4, h5, h⟩ := obd_e h
        refine fx_runVv (n := 1) (C := RX2) (As := [.ref (b 0 0)]) S (c_X2_copyFrom l D cI (xPa (b 1) (b 0)) N (xPm φ u0) w4 h5) (P_pre (q0 := 0) (ci := 0) (X_k hK) (X_p_tc hP) (hDtc _) rfl rfl) hS (fun q h => X_a_tc h) aM_RX8_82 aI_X2_copyFrom aV_X2_copyFrom aN_RX2 aC_X2_copyFrom rfl rfl (by decide +kernel) rfl ⟨Nat.le_of_ble_eq_true rfl, Nat.le_of_ble_eq_true rfl⟩ ⟨by decide, by decide⟩ hl.1 (Nat.le_of_ble_eq_true rfl) dX8_couldFit_37 (fun _ t H locs ht _ hB hk hz hS => ?_)
        have hP := X_set_tc hP (hDX _ _ _ _) hk (by rw [← ht]; exact hB)
        have hZ := hZ.kept (fun a ha hn => hk a ha (fun z => hn (X_a_tc z)))
        obtain ⟨u6, eu6⟩ : ∃ u6, u6 = xsh w4 := ⟨_, rfl⟩
        rw [← eu6] at hP
        replace h := olet_s eu6 h
        refine lv_aload_n hx hb dX8_couldFit_40 rfl (lv_at hl 0 rfl) ?_
        refine xg_thought hx hb hA hown aF_RX8_16 hK hP dX8_couldFit_41 ?_
        refine lv_iload_n hx hb dX8_couldFit_44 rfl (lv_at hl 1 rfl) ?_
        refine lv_iload_n hx hb dX8_couldFit_45 rfl (lv_at hl 2 rfl) ?_
        refine lv_iload_n hx hb dX8_couldFit_46 rfl (lv_at hl 3 rfl) ?_
        obtain ⟨r9, w7, h8, h⟩ := obd2_e h
        refine fx_runVi (n := 3) (C := RX2) (As := [.int p1, .int p2, .int p3]) S (c_X2_distribute l D cI (b 1) N w4 p1 p2 p3 r9 w7 h8) (F_pre (q0 := 0) (ci := 0) (X_k hK) (X_p_tho hP) (hDtho _) rfl rfl) hS (fun q h => X_a_tho h) aM_RX8_183 aI_X2_distribute aV_X2_distribute aN_RX2 aC_X2_distribute rfl rfl (by decide +kernel) rfl ⟨Nat.le_of_ble_eq_true rfl, Nat.le_of_ble_eq_true rfl⟩ ⟨by decide, by decide⟩ hl.1 (Nat.le_of_ble_eq_true rfl) dX8_couldFit_47 (fun rr _ t H locs ht hr hB hk hz hS => ?_)
        obtain ⟨hr, br9⟩ := hr
        rw [hr] at br9
        replace hr := hr.symm
        subst hr
        have hP := X_set_tho hP (hDX _ _ _ _) hk (by rw [← ht]; exact hB)
        have hZ := hZ.kept (fun a ha hn => hk a ha (fun z => hn (X_a_tho z)))
        obtain ⟨rfl, rfl, rfl, rfl, rfl, rfl⟩ := os6 h
        refine vx_ret ?_
        refine W.widen (k := 3) (n := 18) (by decide) (by decide) ?_
        exact W.zret (v := r9) (ty := .boolean) hx hb hr (fm_nz br9) (fun t ht hW => ⟨⟨_, b, rfl, ⟨rfl, rfl, xSame_rf, br9⟩, (by rw [ht]; exact hP), (hDX _ _ _ _)⟩, hS.F ht⟩) hS.2.2 dX8_couldFit_50
set_option maxHeartbeats 4000000 in
set_option maxRecDepth 100000 in
theorem c_X8_append (l : Launch) (hl0 : l.stackTraces = false) (D : va_G) (cI cF : ClassId) (b : Bf) (N : Nat) (u0 : M2) (φ : M2) (η : HT) (τ : M2) (p1 : Int32) (k0 : Nat) (r0 : Int32) (u0r φr : M2) (ηr : HT) (τr : M2) (hF : G_X8_append N u0 φ η τ p1 = some (k0, r0, u0r, φr, ηr, τr)) : vx_Met l yX8_append (wsA yX8_append cX8_append 2 (some .int)) { frames := 7, cells := 2, slots := 12, locals := 102 } (va_Pc [.ref (b 6 0), .int p1] (xP D cI cF b u0 φ η τ)) (va_Qi (fun (r : Int32) (u : Bf) => k0 = 0 ∧ r = r0 ∧ xSame b u) (fun u t => va_P D vwCl (xW cI cF u u0r φr ηr τr) t.heap ∧ va_D (fun _ => True) (xW cI cF u u0r φr ηr τr)) (xA b)) (vx_X (fun (u : Bf) => xSame b u) (fun E u t => ¬ k0 = 0 ∧ E = eOf k0 ∧ va_P D vwCl (xW cI cF u u0r φr ηr τr) t.heap ∧ va_D (fun _ => True) (xW cI cF u u0r φr ηr τr)) (xA b)) 2 12 (xA b) := by
  refine vx_ofW (cc := cX8_append) (maxL := 2) (ret := (some .int)) (by decide) rfl ?_
  intro p e s m args below meth c s₁ B hml htab hpre
  obtain ⟨rfl, hP, hK, hD0, hT, hZ⟩ := hpre
  have hx := B.exec
  have hb := B.bytes
  have hr := B.returns
  have hA : ∀ w ∈ AW, w.before _ s = true := fun w h => atoms_spec (ws := wsA yX8_append cX8_append 2 (some .int)) B.pre w (List.mem_cons_of_mem _ h)
  have hown : s.vm.findClass RX8 = some m.cls := findClass_of_methodNamed B.named
  have hlocks := B.notSynchronized
  have hDX := X_D hD0
  have hDcur := X_d_cur hD0
  have hDtho := X_d_tho hD0
  have hDtxt := X_d_txt hD0
  have hDtc := X_d_tc hD0
  have hZ0 := hZ
  have hS : va_S (xA b) s.heap s.heap [] := va_S.rf
  have S : CallFix p m c cX8_append 2 s ([.ref (b 6 0), .int p1] : List Value).toArray AW RX8 := ⟨hx, hb, hml, hown, hA⟩
  have hl := lv_entry ([.ref (b 6 0), .int p1]) (n := 2) (Nat.le_of_ble_eq_true rfl)
  rw [lg_entry_eq]
  generalize (lg_sl ([.ref (b 6 0), .int p1]) ++ List.replicate (2 - (lg_sl ([.ref (b 6 0), .int p1])).length) Slot.unset).toArray = ls at hl ⊢
  have hl : lv_has ls 2 [(0, .ref (b 6 0)), (1, .int p1)] := hl
  have h := hF
  unfold G_X8_append at h
  refine lv_iload_n hx hb dX8_append_0 rfl (lv_at hl 1 rfl) ?_
  refine lv_iconst (v := 0) hx hb dX8_append_1 (by decide) ?_
  refine lv_bipush (v := 127) hx hb dX8_append_2 (by decide) ?_
  refine k_X8_within S aM_RX8_71 ⟨Nat.le_of_ble_eq_true rfl, Nat.le_of_ble_eq_true rfl⟩ ⟨by decide, by decide⟩ hl.1 (Nat.le_of_ble_eq_true rfl) dX8_append_4 (fun r1 er1 br1 => ?_)
  replace h := olet_s er1 h
  refine fx_chk (n := 1) (As := [.int r1]) S (c_X8_checkArgument l hl0 (xA b) r1) hT hZ hS aM_RX8_101 aS_X8_checkArgument aN_RX8 aC_X8_checkArgument rfl rfl (by decide +kernel) rfl ⟨Nat.le_of_ble_eq_true rfl, Nat.le_of_ble_eq_true rfl⟩ ⟨by decide, by decide⟩ hl.1 (Nat.le_of_ble_eq_true rfl) dX8_append_7 (fun hg ce q9 H locs hk hz hS h9 hv hcl => ?_) (fun hg H locs hk hz hS => ?_)
  · replace h := oi_t hg h
    obtain ⟨rfl, rfl, rfl, rfl, rfl, rfl⟩ := os6 h
    exact vx_out (fun x hx => (htab x hx).elim) hlocks h9 hv hcl (fun t ht _ => ⟨b, xSame_rf, ⟨by decide, rfl, (by rw [ht]; exact X_all hP hk), hDX _ _ _ _⟩, hS.F ht⟩) hS.2.2 (by decide) (by decide)
  · replace h := oi_f hg h
    have hP := X_all hP hk
    have hZ := hZ.kept (fun a ha _ => hk a ha)
    refine lv_aload_n hx hb dX8_append_10 rfl (lv_at hl 0 rfl) ?_
    refine xg_text hx hb hA hown aF_RX8_29 hK hP dX8_append_11 ?_
    refine k_X6_size S aM_RX8_190 ⟨Nat.le_of_ble_eq_true rfl, Nat.le_of_ble_eq_true rfl⟩ ⟨by decide, by decide⟩ (X_p_txt hP) (X_k hK) hDtxt hl.1 (Nat.le_of_ble_eq_true rfl) dX8_append_14 (fun r2 er2 => ?_)
    replace h := olet_s er2 h
    refine lv_bipush (v := 100) hx hb dX8_append_17 (by decide) ?_
    refine lv_icmp_lt (tgt := 32) hx hb dX8_append_19 (by decide) (fun hc => ?_) (fun hc => ?_)
    · replace h := oi_t hc h
      refine lv_aload_n hx hb dX8_append_32 rfl (lv_at hl 0 rfl) ?_
      refine xg_text hx hb hA hown aF_RX8_29 hK hP dX8_append_33 ?_
      refine lv_iload_n hx hb dX8_append_36 rfl (lv_at hl 1 rfl) ?_
      obtain ⟨r5, w3, h4, h⟩ := obd2_e h
      refine fx_runVi (n := 1) (C := RX6) (As := [.int p1]) S (c_X6_put l D cI (b 7) τ p1 r5 w3 h4) (T_pre (q0 := 0) (ci := 4) (X_k hK) (X_p_txt hP) (hDtxt _) rfl rfl) hS (fun q h => X_a_txt h) aM_RX8_200 aI_X6_put aV_X6_put aN_RX6 aC_X6_put rfl rfl (by decide +kernel) rfl ⟨Nat.le_of_ble_eq_true rfl, Nat.le_of_ble_eq_true rfl⟩ ⟨by decide, by decide⟩ hl.1 (Nat.le_of_ble_eq_true rfl) dX8_append_37 (fun rr _ t H locs ht hr hB hk hz hS => ?_)
      replace hr := hr.symm
      subst hr
      have hP := X_set_txt hP (hDX _ _ _ _) hk (by rw [← ht]; exact hB)
      have hZ := hZ.kept (fun a ha hn => hk a ha (fun z => hn (X_a_txt z)))
      obtain ⟨rfl, rfl, rfl, rfl, rfl, rfl⟩ := os6 h
      refine vx_ret ?_
      refine W.widen (k := 2) (n := 12) (by decide) (by decide) ?_
      exact W.iret (v := r5) hx hb hr (fun t ht hW => ⟨⟨_, b, rfl, ⟨rfl, rfl, xSame_rf⟩, (by rw [ht]; exact hP), (hDX _ _ _ _)⟩, hS.F ht⟩) hS.2.2 dX8_append_40
    · replace h := oi_f hc h
      obtain ⟨rfl, rfl, rfl, rfl, rfl, rfl⟩ := os6 h
      obtain ⟨sa, hsa⟩ := hT.2.2.2.2.2.2.2.1
      exact vx_throwS (names := eNames) hx hb hl0 hown (by decide) (by decide) (hA _ aL_RX8_193) (hA _ aN_J_IllegalStateException) hsa (vx_hat (fun w h => hA w (in_akx2 w h)) bw_IS (vx_c (va_Nw.use rfl hT.2.2.1) (eDs_ok hT))) (by decide +kernel) hZ0.1 hZ0.2 hS (hl.1.trans hml.symm) dX8_append_22 dX8_append_25 dX8_append_26 dX8_append_28 dX8_append_31 (fun x hx => (htab x hx).elim) (by decide) (by decide) (by decide) (by decide) hlocks (fun t _ h1 h2 => ⟨b, xSame_rf, ⟨by decide, rfl, X_all hP h2, hDX _ _ _ _⟩, fx_F hS h1 h2⟩) hS.2.2 (by decide) (by decide)
set_option maxHeartbeats 4000000 in
set_option maxRecDepth 100000 in
theorem c_X8_clearText (l : Launch) (hl0 : l.stackTraces = false) (D : va_G) (cI cF : ClassId) (b : Bf) (N : Nat) (u0 : M2) (φ : M2) (η : HT) (τ : M2) (k0 : Nat) (r0 : Int32) (u0r φr : M2) (ηr : HT) (τr : M2) (hF : G_X8_clearText N u0 φ η τ = some (k0, r0, u0r, φr, ηr, τr)) : vx_Met l yX8_clearText (wsA yX8_clearText cX8_clearText 1 (some .int)) { frames := 1, cells := 0, slots := 0, locals := 21 } (va_Pc [.ref (b 6 0)] (xP D cI cF b u0 φ η τ)) (va_Qi (fun (r : Int32) (u : Bf) => k0 = 0 ∧ r = r0 ∧ xSame b u) (fun u t => va_P D vwCl (xW cI cF u u0r φr ηr τr) t.heap ∧ va_D (fun _ => True) (xW cI cF u u0r φr ηr τr)) (xA b)) (vx_X (fun (u : Bf) => xSame b u) (fun E u t => ¬ k0 = 0 ∧ E = eOf k0 ∧ va_P D vwCl (xW cI cF u u0r φr ηr τr) t.heap ∧ va_D (fun _ => True) (xW cI cF u u0r φr ηr τr)) (xA b)) 0 0 (xA b) := by
  refine vx_ofW (cc := cX8_clearText) (maxL := 1) (ret := (some .int)) (by decide) rfl ?_
  intro p e s m args below meth c s₁ B hml htab hpre
  obtain ⟨rfl, hP, hK, hD0, hT, hZ⟩ := hpre
  have hx := B.exec
  have hb := B.bytes
  have hr := B.returns
  have hA : ∀ w ∈ AW, w.before _ s = true := fun w h => atoms_spec (ws := wsA yX8_clearText cX8_clearText 1 (some .int)) B.pre w (List.mem_cons_of_mem _ h)
  have hown : s.vm.findClass RX8 = some m.cls := findClass_of_methodNamed B.named
  have hlocks := B.notSynchronized
  have hDX := X_D hD0
  have hDcur := X_d_cur hD0
  have hDtho := X_d_tho hD0
  have hDtxt := X_d_txt hD0
  have hDtc := X_d_tc hD0
  have hZ0 := hZ
  have hS : va_S (xA b) s.heap s.heap [] := va_S.rf
  have S : CallFix p m c cX8_clearText 1 s ([.ref (b 6 0)] : List Value).toArray AW RX8 := ⟨hx, hb, hml, hown, hA⟩
  have hl := lv_entry ([.ref (b 6 0)]) (n := 1) (Nat.le_of_ble_eq_true rfl)
  rw [lg_entry_eq]
  generalize (lg_sl ([.ref (b 6 0)]) ++ List.replicate (1 - (lg_sl ([.ref (b 6 0)])).length) Slot.unset).toArray = ls at hl ⊢
  have hl : lv_has ls 1 [(0, .ref (b 6 0))] := hl
  have h := hF
  unfold G_X8_clearText at h
  refine lv_aload_n hx hb dX8_clearText_0 rfl (lv_at hl 0 rfl) ?_
  refine xg_text hx hb hA hown aF_RX8_29 hK hP dX8_clearText_1 ?_
  obtain ⟨r3, w1, h2, h⟩ := obd2_e h
  refine fx_runVi (n := 0) (C := RX6) (As := []) S (c_X6_empty l D cI (b 7) τ r3 w1 h2) (T_pre (q0 := 0) (ci := 4) (X_k hK) (X_p_txt hP) (hDtxt _) rfl rfl) hS (fun q h => X_a_txt h) aM_RX8_203 aI_X6_empty aV_X6_empty aN_RX6 aC_X6_empty rfl rfl (by decide +kernel) rfl ⟨Nat.le_of_ble_eq_true rfl, Nat.le_of_ble_eq_true rfl⟩ ⟨by decide, by decide⟩ hl.1 (Nat.le_of_ble_eq_true rfl) dX8_clearText_4 (fun rr _ t H locs ht hr hB hk hz hS => ?_)
  replace hr := hr.symm
  subst hr
  have hP := X_set_txt hP (hDX _ _ _ _) hk (by rw [← ht]; exact hB)
  have hZ := hZ.kept (fun a ha hn => hk a ha (fun z => hn (X_a_txt z)))
  obtain ⟨rfl, rfl, rfl, rfl, rfl, rfl⟩ := os6 h
  refine vx_ret ?_
  refine W.widen (k := 0) (n := 0) (by decide) (by decide) ?_
  exact W.iret (v := r3) hx hb hr (fun t ht hW => ⟨⟨_, b, rfl, ⟨rfl, rfl, xSame_rf⟩, (by rw [ht]; exact hP), (hDX _ _ _ _)⟩, hS.F ht⟩) hS.2.2 dX8_clearText_7
set_option maxHeartbeats 4000000 in
set_option maxRecDepth 100000 in
theorem c_X8_execute (l : Launch) (hl0 : l.stackTraces = false) (D : va_G) (cI cF : ClassId) (b : Bf) (N : Nat) (u0 : M2) (φ : M2) (η : HT) (τ : M2) (k0 : Nat) (r0 : Int32) (u0r φr : M2) (ηr : HT) (τr : M2) (hF : G_X8_execute N u0 φ η τ = some (k0, r0, u0r, φr, ηr, τr)) : vx_Met l yX8_execute (wsA yX8_execute cX8_execute 7 (some .int)) { frames := 6, cells := 0, slots := 0, locals := 142 } (va_Pc [.ref (b 6 0)] (xP D cI cF b u0 φ η τ)) (va_Qi (fun (r : Int32) (u : Bf) => k0 = 0 ∧ r = r0 ∧ xSame b u) (fun u t => va_P D vwCl (xW cI cF u u0r φr ηr τr) t.heap ∧ va_D (fun _ => True) (xW cI cF u u0r φr ηr τr)) (xA b)) (vx_X (fun (u : Bf) => xSame b u) (fun E u t => ¬ k0 = 0 ∧ E = eOf k0 ∧ va_P D vwCl (xW cI cF u u0r φr ηr τr) t.heap ∧ va_D (fun _ => True) (xW cI cF u u0r φr ηr τr)) (xA b)) 0 0 (xA b) := by
  refine vx_ofW (cc := cX8_execute) (maxL := 7) (ret := (some .int)) (by decide) rfl ?_
  intro p e s m args below meth c s₁ B hml htab hpre
  obtain ⟨rfl, hP, hK, hD0, hT, hZ⟩ := hpre
  have hx := B.exec
  have hb := B.bytes
  have hr := B.returns
  have hA : ∀ w ∈ AW, w.before _ s = true := fun w h => atoms_spec (ws := wsA yX8_execute cX8_execute 7 (some .int)) B.pre w (List.mem_cons_of_mem _ h)
  have hown : s.vm.findClass RX8 = some m.cls := findClass_of_methodNamed B.named
  have hlocks := B.notSynchronized
  have hDX := X_D hD0
  have hDcur := X_d_cur hD0
  have hDtho := X_d_tho hD0
  have hDtxt := X_d_txt hD0
  have hDtc := X_d_tc hD0
  have hZ0 := hZ
  have hS : va_S (xA b) s.heap s.heap [] := va_S.rf
  have S : CallFix p m c cX8_execute 7 s ([.ref (b 6 0)] : List Value).toArray AW RX8 := ⟨hx, hb, hml, hown, hA⟩
  have hl := lv_entry ([.ref (b 6 0)]) (n := 7) (Nat.le_of_ble_eq_true rfl)
  rw [lg_entry_eq]
  generalize (lg_sl ([.ref (b 6 0)]) ++ List.replicate (7 - (lg_sl ([.ref (b 6 0)])).length) Slot.unset).toArray = ls at hl ⊢
  have hl : lv_has ls 7 [(0, .ref (b 6 0))] := hl
  have hL39 : ∀ (k : Nat) (v2 : Int32) (v3 : Int32) (v4 : Int32) (v5 : Int32) (u0 : M2) (φ : M2) (H : Heap) (locs : List Loc) (ls : Array Slot) , L_X8_execute_39 N u0 η τ k v2 v3 v4 v5 φ = some (k0, r0, u0r, φr, ηr, τr) → va_P D vwCl (xW cI cF b u0 φ η τ) H → va_S (xA b) s.heap H locs → xZ (xA b) s H → lv_has ls 7 [(0, .ref (b 6 0)), (2, .int v2), (3, .int v3), (4, .int v4), (5, .int v5)] → W p l e (headSpec (wsA yX8_execute cX8_execute 7 (some .int)) { frames := 6, cells := 0, slots := 0, locals := 142 }).room s m ([.ref (b 6 0)] : List Value).toArray below meth c H locs 0 0 (vx_MQ below (va_Qi (fun (r : Int32) (u : Bf) => k0 = 0 ∧ r = r0 ∧ xSame b u) (fun u t => va_P D vwCl (xW cI cF u u0r φr ηr τr) t.heap ∧ va_D (fun _ => True) (xW cI cF u u0r φr ηr τr)) (xA b)) (vx_X (fun (u : Bf) => xSame b u) (fun E u t => ¬ k0 = 0 ∧ E = eOf k0 ∧ va_P D vwCl (xW cI cF u u0r φr ηr τr) t.heap ∧ va_D (fun _ => True) (xW cI cF u u0r φr ηr τr)) (xA b)) ([.ref (b 6 0)] : List Value).toArray s 0 0 (xA b)) (F0 m 39 ls []) := by
    intro k
    induction k with
    | zero =>
      intro v2 v3 v4 v5 u0 φ H locs ls h hP hS hZ hl
      exact no_s h
    | succ k ih =>
      intro v2 v3 v4 v5 u0 φ H locs ls h hP hS hZ hl
      replace h : B_X8_execute_39 N u0 η τ (L_X8_execute_39 N u0 η τ k) v2 v3 v4 v5 φ = some (k0, r0, u0r, φr, ηr, τr) := h
      unfold B_X8_execute_39 at h
      refine lv_iload hx hb dX8_execute_39 (lv_at hl 4 rfl) ?_
      refine lv_aload_n hx hb dX8_execute_41 rfl (lv_at hl 0 rfl) ?_
      refine xg_text hx hb hA hown aF_RX8_29 hK hP dX8_execute_42 ?_
      refine k_X6_size S aM_RX8_190 ⟨Nat.le_of_ble_eq_true rfl, Nat.le_of_ble_eq_true rfl⟩ ⟨by decide, by decide⟩ (X_p_txt hP) (X_k hK) hDtxt hl.1 (Nat.le_of_ble_eq_true rfl) dX8_execute_45 (fun r6 er6 => ?_)
      replace h := olet_s er6 h
      refine lv_icmp_ge (tgt := 131) hx hb dX8_execute_48 (by decide) (fun hc => ?_) (fun hc => ?_)
      · replace h := oi_t hc h
        refine lv_aload_n hx hb dX8_execute_131 rfl (lv_at hl 0 rfl) ?_
        refine lv_iload_n hx hb dX8_execute_132 rfl (lv_at hl 1 rfl) ?_
        obtain ⟨w7, w8, e9, h10, h⟩ := obd3_e h
        refine kx_accept S aM_RX8_114 ⟨Nat.le_of_ble_eq_true rfl, Nat.le_of_ble_eq_true rfl⟩ ⟨by decide, by decide⟩ hP hK (hDX _ _ _ _) hS h10 hl.1 (Nat.le_of_ble_eq_true rfl) dX8_execute_133 (fun u H locs hsm hP hDu hS => ?_)
        obtain ⟨rfl, rfl, rfl, rfl, rfl, rfl⟩ := os6 h
        refine vx_ret ?_
        refine W.widen (k := 0) (n := 0) (by decide) (by decide) ?_
        exact W.iret (v := v2) hx hb hr (fun t ht hW => ⟨⟨_, u, rfl, ⟨rfl, rfl, hsm⟩, (by rw [ht]; exact hP), hDu⟩, hS.F ht⟩) hS.2.2 dX8_execute_136
      · replace h := oi_f hc h
        refine lv_aload_n hx hb dX8_execute_51 rfl (lv_at hl 0 rfl) ?_
        refine xg_text hx hb hA hown aF_RX8_29 hK hP dX8_execute_52 ?_
        refine lv_iload hx hb dX8_execute_55 (lv_at hl 4 rfl) ?_
        obtain ⟨r11, h12, h⟩ := obd_e h
        refine k_X6_byteAt S aM_RX8_209 ⟨Nat.le_of_ble_eq_true rfl, Nat.le_of_ble_eq_true rfl⟩ ⟨by decide, by decide⟩ (X_p_txt hP) (X_k hK) hDtxt h12 hl.1 (Nat.le_of_ble_eq_true rfl) dX8_execute_57 ?_
        refine lv_istore (lv' := [(6, .int r11), (0, .ref (b 6 0)), (2, .int v2), (3, .int v3), (4, .int v4), (5, .int v5)]) hx hb dX8_execute_60 hl (by decide) rfl (fun ls hl => ?_)
        refine lv_iload hx hb dX8_execute_62 (lv_at hl 0 rfl) ?_
        refine lv_bipush (v := 59) hx hb dX8_execute_64 (by decide) ?_
        refine lv_icmp_ne (tgt := 95) hx hb dX8_execute_66 (by decide) (fun hc => ?_) (fun hc => ?_)
        · replace h := oi_f hc h
          refine lv_iload hx hb dX8_execute_95 (lv_at hl 0 rfl) ?_
          refine k_X6_isDigit S aM_RX8_215 ⟨Nat.le_of_ble_eq_true rfl, Nat.le_of_ble_eq_true rfl⟩ ⟨by decide, by decide⟩ hl.1 (Nat.le_of_ble_eq_true rfl) dX8_execute_97 (fun r13 er13 br13 => ?_)
          replace h := olet_s er13 h
          refine lv_if_eq (tgt := 119) hx hb dX8_execute_100 (by decide) (fun hc => ?_) (fun hc => ?_)
          · replace h := oi_t hc h
            refine lv_iload hx hb dX8_execute_119 (lv_at hl 0 rfl) ?_
            refine lv_istore_n (lv' := [(3, .int r11), (6, .int r11), (0, .ref (b 6 0)), (2, .int v2), (4, .int v4), (5, .int v5)]) hx hb dX8_execute_121 rfl hl (by decide) rfl (fun ls hl => ?_)
            refine lv_iconst (v := 0) hx hb dX8_execute_122 (by decide) ?_
            refine lv_istore (lv' := [(4, .int 0), (3, .int r11), (6, .int r11), (0, .ref (b 6 0)), (2, .int v2), (5, .int v5)]) hx hb dX8_execute_123 hl (by decide) rfl (fun ls hl => ?_)
            refine lv_iinc (v := v5 + 1) (lv' := [(5, .int (v5 + 1)), (4, .int 0), (3, .int r11), (6, .int r11), (0, .ref (b 6 0)), (2, .int v2)]) hx hb dX8_execute_125 hl (k := 5) rfl (fm_inc _ _ _ (by decide)) (by decide) rfl (fun ls hl => ?_)
            refine lv_goto (tgt := 39) hx hb dX8_execute_128 (by decide) ?_
            exact ih _ _ _ _ _ _ _ _ _  h hP hS hZ (lv_sub hl [4, 5, 2, 1, 0] rfl)
          · replace h := oi_f hc h
            refine lv_iload hx hb dX8_execute_103 (lv_at hl 4 rfl) ?_
            refine lv_bipush (v := 10) hx hb dX8_execute_105 (by decide) ?_
            refine lv_imul hx hb dX8_execute_107 ?_
            refine lv_iload hx hb dX8_execute_108 (lv_at hl 0 rfl) ?_
            refine lv_bipush (v := 48) hx hb dX8_execute_110 (by decide) ?_
            refine lv_isub hx hb dX8_execute_112 ?_
            refine lv_iadd hx hb dX8_execute_113 ?_
            refine lv_topi (fun x14 ex14 => ?_)
            replace h := olet_s ex14 h
            refine lv_istore (lv' := [(4, .int x14), (6, .int r11), (0, .ref (b 6 0)), (2, .int v2), (3, .int v3), (5, .int v5)]) hx hb dX8_execute_114 hl (by decide) rfl (fun ls hl => ?_)
            refine lv_goto (tgt := 125) hx hb dX8_execute_116 (by decide) ?_
            refine lv_iinc (v := v5 + 1) (lv' := [(5, .int (v5 + 1)), (4, .int x14), (6, .int r11), (0, .ref (b 6 0)), (2, .int v2), (3, .int v3)]) hx hb dX8_execute_125 hl (k := 5) rfl (fm_inc _ _ _ (by decide)) (by decide) rfl (fun ls hl => ?_)
            refine lv_goto (tgt := 39) hx hb dX8_execute_128 (by decide) ?_
            exact ih _ _ _ _ _ _ _ _ _  h hP hS hZ (lv_sub hl [3, 4, 5, 1, 0] rfl)
        · replace h := oi_t hc h
          refine lv_aload_n hx hb dX8_execute_69 rfl (lv_at hl 1 rfl) ?_
          refine xg_thought hx hb hA hown aF_RX8_16 hK hP dX8_execute_70 ?_
          refine lv_iload_n hx hb dX8_execute_73 rfl (lv_at hl 3 rfl) ?_
          refine lv_iload hx hb dX8_execute_74 (lv_at hl 4 rfl) ?_
          obtain ⟨r17, w15, h16, h⟩ := obd2_e h
          refine fx_runVi (n := 2) (C := RX2) (As := [.int v3, .int v4]) S (c_X2_perform l D cI (b 1) N φ v3 v4 r17 w15 h16) (F_pre (q0 := 0) (ci := 0) (X_k hK) (X_p_tho hP) (hDtho _) rfl rfl) hS (fun q h => X_a_tho h) aM_RX8_212 aI_X2_perform aV_X2_perform aN_RX2 aC_X2_perform rfl rfl (by decide +kernel) rfl ⟨Nat.le_of_ble_eq_true rfl, Nat.le_of_ble_eq_true rfl⟩ ⟨by decide, by decide⟩ hl.1 (Nat.le_of_ble_eq_true rfl) dX8_execute_76 (fun rr _ t H locs ht hr hB hk hz hS => ?_)
          replace hr := hr.symm
          subst hr
          have hP := X_set_tho hP (hDX _ _ _ _) hk (by rw [← ht]; exact hB)
          have hZ := hZ.kept (fun a ha hn => hk a ha (fun z => hn (X_a_tho z)))
          refine lv_iconst (v := (-1)) hx hb dX8_execute_79 (by decide) ?_
          refine lv_icmp_ne (tgt := 89) hx hb dX8_execute_80 (by decide) (fun hc => ?_) (fun hc => ?_)
          · replace h := oi_f hc h
            refine lv_iinc (v := v2 + 1) (lv' := [(2, .int (v2 + 1)), (6, .int r11), (0, .ref (b 6 0)), (3, .int v3), (4, .int v4), (5, .int v5)]) hx hb dX8_execute_89 hl (k := 2) rfl (fm_inc _ _ _ (by decide)) (by decide) rfl (fun ls hl => ?_)
            refine lv_goto (tgt := 125) hx hb dX8_execute_92 (by decide) ?_
            refine lv_iinc (v := v5 + 1) (lv' := [(5, .int (v5 + 1)), (2, .int (v2 + 1)), (6, .int r11), (0, .ref (b 6 0)), (3, .int v3), (4, .int v4)]) hx hb dX8_execute_125 hl (k := 5) rfl (fm_inc _ _ _ (by decide)) (by decide) rfl (fun ls hl => ?_)
            refine lv_goto (tgt := 39) hx hb dX8_execute_128 (by decide) ?_
            exact ih _ _ _ _ _ _ _ _ _  h hP hS hZ (lv_sub hl [3, 1, 4, 5, 0] rfl)
          · replace h := oi_t hc h
            refine lv_sipush (v := (-1000)) hx hb dX8_execute_83 (by decide) ?_
            refine lv_iload_n hx hb dX8_execute_86 rfl (lv_at hl 2 rfl) ?_
            refine lv_isub hx hb dX8_execute_87 ?_
            obtain ⟨rfl, rfl, rfl, rfl, rfl, rfl⟩ := os6 h
            refine vx_ret ?_
            refine W.widen (k := 0) (n := 0) (by decide) (by decide) ?_
            exact W.iret (v := ((-1000) - v2)) hx hb hr (fun t ht hW => ⟨⟨_, b, rfl, ⟨rfl, rfl, xSame_rf⟩, (by rw [ht]; exact hP), (hDX _ _ _ _)⟩, hS.F ht⟩) hS.2.2 dX8_execute_88
  have h := hF
  unfold G_X8_execute at h
  refine lv_aload_n hx hb dX8_execute_0 rfl (lv_at hl 0 rfl) ?_
  refine xg_text hx hb hA hown aF_RX8_29 hK hP dX8_execute_1 ?_
  obtain ⟨r1, h2, h⟩ := obd_e h
  refine k_X6_errorPosition S aM_RX8_206 ⟨Nat.le_of_ble_eq_true rfl, Nat.le_of_ble_eq_true rfl⟩ ⟨by decide, by decide⟩ (X_p_txt hP) (X_k hK) hDtxt h2 hl.1 (Nat.le_of_ble_eq_true rfl) dX8_execute_4 ?_
  refine lv_istore_n (lv' := [(1, .int r1), (0, .ref (b 6 0))]) hx hb dX8_execute_7 rfl hl (by decide) rfl (fun ls hl => ?_)
  refine lv_iload_n hx hb dX8_execute_8 rfl (lv_at hl 0 rfl) ?_
  refine lv_iconst (v := (-1)) hx hb dX8_execute_9 (by decide) ?_
  refine lv_icmp_eq (tgt := 18) hx hb dX8_execute_10 (by decide) (fun hc => ?_) (fun hc => ?_)
  · replace h := oi_t hc h
    refine lv_aload_n hx hb dX8_execute_18 rfl (lv_at hl 1 rfl) ?_
    refine xg_thought hx hb hA hown aF_RX8_16 hK hP dX8_execute_19 ?_
    refine lv_aload_n hx hb dX8_execute_22 rfl (lv_at hl 1 rfl) ?_
    refine xg_current hx hb hA hown aF_RX8_10 hK hP dX8_execute_23 ?_
    obtain ⟨w3, h4, h⟩ := obd_e h
    refine fx_runVv (n := 1) (C := RX2) (As := [.ref (b 0 0)]) S (c_X2_copyFrom l D cI (xPa (b 1) (b 0)) N (xPm φ u0) w3 h4) (P_pre (q0 := 0) (ci := 0) (X_k hK) (X_p_tc hP) (hDtc _) rfl rfl) hS (fun q h => X_a_tc h) aM_RX8_82 aI_X2_copyFrom aV_X2_copyFrom aN_RX2 aC_X2_copyFrom rfl rfl (by decide +kernel) rfl ⟨Nat.le_of_ble_eq_true rfl, Nat.le_of_ble_eq_true rfl⟩ ⟨by decide, by decide⟩ hl.1 (Nat.le_of_ble_eq_true rfl) dX8_execute_26 (fun _ t H locs ht _ hB hk hz hS => ?_)
    have hP := X_set_tc hP (hDX _ _ _ _) hk (by rw [← ht]; exact hB)
    have hZ := hZ.kept (fun a ha hn => hk a ha (fun z => hn (X_a_tc z)))
    obtain ⟨u5, eu5⟩ : ∃ u5, u5 = xsh w3 := ⟨_, rfl⟩
    rw [← eu5] at hP
    replace h := olet_s eu5 h
    refine lv_iconst (v := 0) hx hb dX8_execute_29 (by decide) ?_
    refine lv_istore_n (lv' := [(2, .int 0), (1, .int r1), (0, .ref (b 6 0))]) hx hb dX8_execute_30 rfl hl (by decide) rfl (fun ls hl => ?_)
    refine lv_iconst (v := 0) hx hb dX8_execute_31 (by decide) ?_
    refine lv_istore_n (lv' := [(3, .int 0), (2, .int 0), (1, .int r1), (0, .ref (b 6 0))]) hx hb dX8_execute_32 rfl hl (by decide) rfl (fun ls hl => ?_)
    refine lv_iconst (v := 0) hx hb dX8_execute_33 (by decide) ?_
    refine lv_istore (lv' := [(4, .int 0), (3, .int 0), (2, .int 0), (1, .int r1), (0, .ref (b 6 0))]) hx hb dX8_execute_34 hl (by decide) rfl (fun ls hl => ?_)
    refine lv_iconst (v := 0) hx hb dX8_execute_36 (by decide) ?_
    refine lv_istore (lv' := [(5, .int 0), (4, .int 0), (3, .int 0), (2, .int 0), (1, .int r1), (0, .ref (b 6 0))]) hx hb dX8_execute_37 hl (by decide) rfl (fun ls hl => ?_)
    exact hL39 N _ _ _ _ _ _ _ _ _ h hP hS hZ (lv_sub hl [5, 3, 2, 1, 0] rfl)
  · replace h := oi_f hc h
    refine lv_bipush (v := (-10)) hx hb dX8_execute_13 (by decide) ?_
    refine lv_iload_n hx hb dX8_execute_15 rfl (lv_at hl 0 rfl) ?_
    refine lv_isub hx hb dX8_execute_16 ?_
    obtain ⟨rfl, rfl, rfl, rfl, rfl, rfl⟩ := os6 h
    refine vx_ret ?_
    refine W.widen (k := 0) (n := 0) (by decide) (by decide) ?_
    exact W.iret (v := ((-10) - r1)) hx hb hr (fun t ht hW => ⟨⟨_, b, rfl, ⟨rfl, rfl, xSame_rf⟩, (by rw [ht]; exact hP), (hDX _ _ _ _)⟩, hS.F ht⟩) hS.2.2 dX8_execute_17
set_option maxHeartbeats 4000000 in
set_option maxRecDepth 100000 in
theorem c_X8_undo (l : Launch) (hl0 : l.stackTraces = false) (D : va_G) (cI cF : ClassId) (b : Bf) (N : Nat) (u0 : M2) (φ : M2) (η : HT) (τ : M2) (k0 : Nat) (r0 : Int32) (u0r φr : M2) (ηr : HT) (τr : M2) (hF : G_X8_undo N u0 φ η τ = some (k0, r0, u0r, φr, ηr, τr)) : vx_Met l yX8_undo (wsA yX8_undo cX8_undo 1 (some .int)) { frames := 6, cells := 1, slots := 6, locals := 82 } (va_Pc [.ref (b 6 0)] (xP D cI cF b u0 φ η τ)) (va_Qi (fun (r : Int32) (u : Bf) => k0 = 0 ∧ r = r0 ∧ xSame b u) (fun u t => va_P D vwCl (xW cI cF u u0r φr ηr τr) t.heap ∧ va_D (fun _ => True) (xW cI cF u u0r φr ηr τr)) (xA b)) (vx_X (fun (u : Bf) => xSame b u) (fun E u t => ¬ k0 = 0 ∧ E = eOf k0 ∧ va_P D vwCl (xW cI cF u u0r φr ηr τr) t.heap ∧ va_D (fun _ => True) (xW cI cF u u0r φr ηr τr)) (xA b)) 1 6 (xA b) := by
  refine vx_ofW (cc := cX8_undo) (maxL := 1) (ret := (some .int)) (by decide) rfl ?_
  intro p e s m args below meth c s₁ B hml htab hpre
  obtain ⟨rfl, hP, hK, hD0, hT, hZ⟩ := hpre
  have hx := B.exec
  have hb := B.bytes
  have hr := B.returns
  have hA : ∀ w ∈ AW, w.before _ s = true := fun w h => atoms_spec (ws := wsA yX8_undo cX8_undo 1 (some .int)) B.pre w (List.mem_cons_of_mem _ h)
  have hown : s.vm.findClass RX8 = some m.cls := findClass_of_methodNamed B.named
  have hlocks := B.notSynchronized
  have hDX := X_D hD0
  have hDcur := X_d_cur hD0
  have hDtho := X_d_tho hD0
  have hDtxt := X_d_txt hD0
  have hDtc := X_d_tc hD0
  have hZ0 := hZ
  have hS : va_S (xA b) s.heap s.heap [] := va_S.rf
  have S : CallFix p m c cX8_undo 1 s ([.ref (b 6 0)] : List Value).toArray AW RX8 := ⟨hx, hb, hml, hown, hA⟩
  have hl := lv_entry ([.ref (b 6 0)]) (n := 1) (Nat.le_of_ble_eq_true rfl)
  rw [lg_entry_eq]
  generalize (lg_sl ([.ref (b 6 0)]) ++ List.replicate (1 - (lg_sl ([.ref (b 6 0)])).length) Slot.unset).toArray = ls at hl ⊢
  have hl : lv_has ls 1 [(0, .ref (b 6 0))] := hl
  have h := hF
  unfold G_X8_undo at h
  refine lv_aload_n hx hb dX8_undo_0 rfl (lv_at hl 0 rfl) ?_
  refine xg_history hx hb hA hown aF_RX8_22 hK hP dX8_undo_1 ?_
  refine k_X3_size S aM_RX8_218 ⟨Nat.le_of_ble_eq_true rfl, Nat.le_of_ble_eq_true rfl⟩ ⟨by decide, by decide⟩ hP hK (hDX _ _ _ _) hl.1 (Nat.le_of_ble_eq_true rfl) dX8_undo_4 ?_
  refine lv_if_ne (tgt := 20) hx hb dX8_undo_7 (by decide) (fun hc => ?_) (fun hc => ?_)
  · replace h := oi_f hc h
    refine lv_aload_n hx hb dX8_undo_20 rfl (lv_at hl 0 rfl) ?_
    refine xg_history hx hb hA hown aF_RX8_22 hK hP dX8_undo_21 ?_
    refine lv_aload_n hx hb dX8_undo_24 rfl (lv_at hl 0 rfl) ?_
    refine xg_current hx hb hA hown aF_RX8_10 hK hP dX8_undo_25 ?_
    obtain ⟨r1, w2, e3, h4, h⟩ := obd3_e h
    refine k_X3_pop S aM_RX8_221 ⟨Nat.le_of_ble_eq_true rfl, Nat.le_of_ble_eq_true rfl⟩ ⟨by decide, by decide⟩ hP hK (hDX _ _ _ _) hS (fun _ h => h) h4 hl.1 (Nat.le_of_ble_eq_true rfl) dX8_undo_28 (fun H locs hP hk hz hS => ?_)
    obtain ⟨rfl, rfl, rfl, rfl, rfl, rfl⟩ := os6 h
    refine vx_ret ?_
    refine W.widen (k := 1) (n := 6) (by decide) (by decide) ?_
    exact W.iret (v := r1) hx hb hr (fun t ht hW => ⟨⟨_, b, rfl, ⟨rfl, rfl, xSame_rf⟩, (by rw [ht]; exact hP), (hDX _ _ _ _)⟩, hS.F ht⟩) hS.2.2 dX8_undo_31
  · replace h := oi_t hc h
    obtain ⟨rfl, rfl, rfl, rfl, rfl, rfl⟩ := os6 h
    obtain ⟨sa, hsa⟩ := hT.2.2.2.2.2.2.2.2
    exact vx_throwS (names := eNames) hx hb hl0 hown (by decide) (by decide) (hA _ aL_RX8_193) (hA _ aN_J_IllegalStateException) hsa (vx_hat (fun w h => hA w (in_akx2 w h)) bw_IS (vx_c (va_Nw.use rfl hT.2.2.1) (eDs_ok hT))) (by decide +kernel) hZ0.1 hZ0.2 hS (hl.1.trans hml.symm) dX8_undo_10 dX8_undo_13 dX8_undo_14 dX8_undo_16 dX8_undo_19 (fun x hx => (htab x hx).elim) (by decide) (by decide) (by decide) (by decide) hlocks (fun t _ h1 h2 => ⟨b, xSame_rf, ⟨by decide, rfl, X_all hP h2, hDX _ _ _ _⟩, fx_F hS h1 h2⟩) hS.2.2 (by decide) (by decide)
set_option maxHeartbeats 4000000 in
set_option maxRecDepth 100000 in
theorem c_X8_digest (l : Launch) (hl0 : l.stackTraces = false) (D : va_G) (cI cF : ClassId) (b : Bf) (N : Nat) (u0 : M2) (φ : M2) (η : HT) (τ : M2) (k0 : Nat) (r0 : Int64) (u0r φr : M2) (ηr : HT) (τr : M2) (hF : G_X8_digest N u0 φ η τ = some (k0, r0, u0r, φr, ηr, τr)) : vx_Met l yX8_digest (wsA yX8_digest cX8_digest 6 (some .long)) { frames := 6, cells := 0, slots := 0, locals := 140 } (va_Pc [.ref (b 6 0)] (xP D cI cF b u0 φ η τ)) (va_Ql (fun (r : Int64) (u : Bf) => k0 = 0 ∧ r = r0 ∧ xSame b u) (fun u t => va_P D vwCl (xW cI cF u u0r φr ηr τr) t.heap ∧ va_D (fun _ => True) (xW cI cF u u0r φr ηr τr)) (xA b)) (vx_X (fun (u : Bf) => xSame b u) (fun E u t => ¬ k0 = 0 ∧ E = eOf k0 ∧ va_P D vwCl (xW cI cF u u0r φr ηr τr) t.heap ∧ va_D (fun _ => True) (xW cI cF u u0r φr ηr τr)) (xA b)) 0 0 (xA b) := by
  refine vx_ofW (cc := cX8_digest) (maxL := 6) (ret := (some .long)) (by decide) rfl ?_
  intro p e s m args below meth c s₁ B hml htab hpre
  obtain ⟨rfl, hP, hK, hD0, hT, hZ⟩ := hpre
  have hx := B.exec
  have hb := B.bytes
  have hr := B.returns
  have hA : ∀ w ∈ AW, w.before _ s = true := fun w h => atoms_spec (ws := wsA yX8_digest cX8_digest 6 (some .long)) B.pre w (List.mem_cons_of_mem _ h)
  have hown : s.vm.findClass RX8 = some m.cls := findClass_of_methodNamed B.named
  have hlocks := B.notSynchronized
  have hDX := X_D hD0
  have hDcur := X_d_cur hD0
  have hDtho := X_d_tho hD0
  have hDtxt := X_d_txt hD0
  have hDtc := X_d_tc hD0
  have hZ0 := hZ
  have hS : va_S (xA b) s.heap s.heap [] := va_S.rf
  have S : CallFix p m c cX8_digest 6 s ([.ref (b 6 0)] : List Value).toArray AW RX8 := ⟨hx, hb, hml, hown, hA⟩
  have hl := lv_entry ([.ref (b 6 0)]) (n := 6) (Nat.le_of_ble_eq_true rfl)
  rw [lg_entry_eq]
  generalize (lg_sl ([.ref (b 6 0)]) ++ List.replicate (6 - (lg_sl ([.ref (b 6 0)])).length) Slot.unset).toArray = ls at hl ⊢
  have hl : lv_has ls 6 [(0, .ref (b 6 0))] := hl
  have hL6 : ∀ (k : Nat) (v1 : Int64) (v3 : Int32) (u0 : M2) (φ : M2) (H : Heap) (locs : List Loc) (ls : Array Slot) (o1 : Int64), L_X8_digest_6 N φ u0 η τ k v1 v3 = some o1 → va_P D vwCl (xW cI cF b u0 φ η τ) H → va_S (xA b) s.heap H locs → xZ (xA b) s H → lv_has ls 6 [(0, .ref (b 6 0)), (1, .long v1), (3, .int v3)] → (∀ (H1 : Heap) (locs1 : List Loc) (ls1 : Array Slot), va_P D vwCl (xW cI cF b u0 φ η τ) H1 → va_S (xA b) s.heap H1 locs1 → xZ (xA b) s H1 → lv_has ls1 6 [(0, .ref (b 6 0)), (1, .long o1)] → W p l e (headSpec (wsA yX8_digest cX8_digest 6 (some .long)) { frames := 6, cells := 0, slots := 0, locals := 140 }).room s m ([.ref (b 6 0)] : List Value).toArray below meth c H1 locs1 0 0 (vx_MQ below (va_Ql (fun (r : Int64) (u : Bf) => k0 = 0 ∧ r = r0 ∧ xSame b u) (fun u t => va_P D vwCl (xW cI cF u u0r φr ηr τr) t.heap ∧ va_D (fun _ => True) (xW cI cF u u0r φr ηr τr)) (xA b)) (vx_X (fun (u : Bf) => xSame b u) (fun E u t => ¬ k0 = 0 ∧ E = eOf k0 ∧ va_P D vwCl (xW cI cF u u0r φr ηr τr) t.heap ∧ va_D (fun _ => True) (xW cI cF u u0r φr ηr τr)) (xA b)) ([.ref (b 6 0)] : List Value).toArray s 0 0 (xA b)) (F0 m 34 ls1 [])) → W p l e (headSpec (wsA yX8_digest cX8_digest 6 (some .long)) { frames := 6, cells := 0, slots := 0, locals := 140 }).room s m ([.ref (b 6 0)] : List Value).toArray below meth c H locs 0 0 (vx_MQ below (va_Ql (fun (r : Int64) (u : Bf) => k0 = 0 ∧ r = r0 ∧ xSame b u) (fun u t => va_P D vwCl (xW cI cF u u0r φr ηr τr) t.heap ∧ va_D (fun _ => True) (xW cI cF u u0r φr ηr τr)) (xA b)) (vx_X (fun (u : Bf) => xSame b u) (fun E u t => ¬ k0 = 0 ∧ E = eOf k0 ∧ va_P D vwCl (xW cI cF u u0r φr ηr τr) t.heap ∧ va_D (fun _ => True) (xW cI cF u u0r φr ηr τr)) (xA b)) ([.ref (b 6 0)] : List Value).toArray s 0 0 (xA b)) (F0 m 6 ls []) := by
    intro k
    induction k with
    | zero =>
      intro v1 v3 u0 φ H locs ls o1 h hP hS hZ hl kk
      exact no_s h
    | succ k ih =>
      intro v1 v3 u0 φ H locs ls o1 h hP hS hZ hl kk
      replace h : B_X8_digest_6 N φ u0 η τ (L_X8_digest_6 N φ u0 η τ k) v1 v3 = some o1 := h
      unfold B_X8_digest_6 at h
      refine lv_iload_n hx hb dX8_digest_6 rfl (lv_at hl 2 rfl) ?_
      refine lv_bipush (v := 8) hx hb dX8_digest_7 (by decide) ?_
      refine lv_icmp_gt (tgt := 34) hx hb dX8_digest_9 (by decide) (fun hc => ?_) (fun hc => ?_)
      · replace h := oi_t hc h
        obtain rfl := os1 h
        exact kk _ _ _ hP hS hZ (lv_sub hl [0, 1] rfl)
      · replace h := oi_f hc h
        refine lv_ldc2 hx hb hown (hA _ aK_RX8_227) dX8_digest_12 ?_
        refine lv_lload_n hx hb dX8_digest_15 rfl (lv_at hl 1 rfl) ?_
        refine lv_lmul hx hb dX8_digest_16 ?_
        refine lv_aload_n hx hb dX8_digest_17 rfl (lv_at hl 0 rfl) ?_
        refine xg_current hx hb hA hown aF_RX8_10 hK hP dX8_digest_18 ?_
        refine lv_iload_n hx hb dX8_digest_21 rfl (lv_at hl 2 rfl) ?_
        obtain ⟨r1, h2, h⟩ := obd_e h
        refine k_X2_number S aM_RX8_123 ⟨Nat.le_of_ble_eq_true rfl, Nat.le_of_ble_eq_true rfl⟩ ⟨by decide, by decide⟩ (X_p_cur hP) (X_k hK) hDcur h2 hl.1 (Nat.le_of_ble_eq_true rfl) dX8_digest_22 ?_
        refine lv_i2l hx hb dX8_digest_25 rfl ?_
        refine lv_ladd hx hb dX8_digest_26 ?_
        refine lv_topl (fun x3 ex3 => ?_)
        replace h := olet_s ex3 h
        refine lv_lstore_n (lv' := [(1, .long x3), (0, .ref (b 6 0)), (3, .int v3)]) hx hb dX8_digest_27 rfl hl (by decide) rfl (fun ls hl => ?_)
        refine lv_iinc (v := v3 + 1) (lv' := [(3, .int (v3 + 1)), (1, .long x3), (0, .ref (b 6 0))]) hx hb dX8_digest_28 hl (k := 2) rfl (fm_inc _ _ _ (by decide)) (by decide) rfl (fun ls hl => ?_)
        refine lv_goto (tgt := 6) hx hb dX8_digest_31 (by decide) ?_
        exact ih _ _ _ _ _ _ _ _ h hP hS hZ (lv_sub hl [2, 1, 0] rfl) kk
  have hL65 : ∀ (k : Nat) (v3 : Int32) (v4 : Int32) (v1 : Int64) (v5 : Int32) (u0 : M2) (φ : M2) (H : Heap) (locs : List Loc) (ls : Array Slot) (o1 : Int64), L_X8_digest_65 N φ u0 η τ v3 v4 k v1 v5 = some o1 → va_P D vwCl (xW cI cF b u0 φ η τ) H → va_S (xA b) s.heap H locs → xZ (xA b) s H → lv_has ls 6 [(0, .ref (b 6 0)), (1, .long v1), (3, .int v3), (4, .int v4), (5, .int v5)] → (∀ (H1 : Heap) (locs1 : List Loc) (ls1 : Array Slot), va_P D vwCl (xW cI cF b u0 φ η τ) H1 → va_S (xA b) s.heap H1 locs1 → xZ (xA b) s H1 → lv_has ls1 6 [(0, .ref (b 6 0)), (1, .long o1), (3, .int v3), (4, .int v4)] → W p l e (headSpec (wsA yX8_digest cX8_digest 6 (some .long)) { frames := 6, cells := 0, slots := 0, locals := 140 }).room s m ([.ref (b 6 0)] : List Value).toArray below meth c H1 locs1 0 0 (vx_MQ below (va_Ql (fun (r : Int64) (u : Bf) => k0 = 0 ∧ r = r0 ∧ xSame b u) (fun u t => va_P D vwCl (xW cI cF u u0r φr ηr τr) t.heap ∧ va_D (fun _ => True) (xW cI cF u u0r φr ηr τr)) (xA b)) (vx_X (fun (u : Bf) => xSame b u) (fun E u t => ¬ k0 = 0 ∧ E = eOf k0 ∧ va_P D vwCl (xW cI cF u u0r φr ηr τr) t.heap ∧ va_D (fun _ => True) (xW cI cF u u0r φr ηr τr)) (xA b)) ([.ref (b 6 0)] : List Value).toArray s 0 0 (xA b)) (F0 m 97 ls1 [])) → W p l e (headSpec (wsA yX8_digest cX8_digest 6 (some .long)) { frames := 6, cells := 0, slots := 0, locals := 140 }).room s m ([.ref (b 6 0)] : List Value).toArray below meth c H locs 0 0 (vx_MQ below (va_Ql (fun (r : Int64) (u : Bf) => k0 = 0 ∧ r = r0 ∧ xSame b u) (fun u t => va_P D vwCl (xW cI cF u u0r φr ηr τr) t.heap ∧ va_D (fun _ => True) (xW cI cF u u0r φr ηr τr)) (xA b)) (vx_X (fun (u : Bf) => xSame b u) (fun E u t => ¬ k0 = 0 ∧ E = eOf k0 ∧ va_P D vwCl (xW cI cF u u0r φr ηr τr) t.heap ∧ va_D (fun _ => True) (xW cI cF u u0r φr ηr τr)) (xA b)) ([.ref (b 6 0)] : List Value).toArray s 0 0 (xA b)) (F0 m 65 ls []) := by
    intro k
    induction k with
    | zero =>
      intro v3 v4 v1 v5 u0 φ H locs ls o1 h hP hS hZ hl kk
      exact no_s h
    | succ k ih =>
      intro v3 v4 v1 v5 u0 φ H locs ls o1 h hP hS hZ hl kk
      replace h : B_X8_digest_65 N φ u0 η τ v3 v4 (L_X8_digest_65 N φ u0 η τ v3 v4 k) v1 v5 = some o1 := h
      unfold B_X8_digest_65 at h
      refine lv_iload hx hb dX8_digest_65 (lv_at hl 4 rfl) ?_
      refine lv_iconst (v := 3) hx hb dX8_digest_67 (by decide) ?_
      refine lv_icmp_gt (tgt := 97) hx hb dX8_digest_68 (by decide) (fun hc => ?_) (fun hc => ?_)
      · replace h := oi_t hc h
        obtain rfl := os1 h
        exact kk _ _ _ hP hS hZ (lv_sub hl [0, 1, 2, 3] rfl)
      · replace h := oi_f hc h
        refine lv_ldc2 hx hb hown (hA _ aK_RX8_227) dX8_digest_71 ?_
        refine lv_lload_n hx hb dX8_digest_74 rfl (lv_at hl 1 rfl) ?_
        refine lv_lmul hx hb dX8_digest_75 ?_
        refine lv_aload_n hx hb dX8_digest_76 rfl (lv_at hl 0 rfl) ?_
        refine xg_current hx hb hA hown aF_RX8_10 hK hP dX8_digest_77 ?_
        refine lv_iload_n hx hb dX8_digest_80 rfl (lv_at hl 2 rfl) ?_
        refine lv_iload hx hb dX8_digest_81 (lv_at hl 3 rfl) ?_
        refine lv_iload hx hb dX8_digest_83 (lv_at hl 4 rfl) ?_
        obtain ⟨r8, h9, h⟩ := obd_e h
        refine k_X2_partOfSlot S aM_RX8_130 ⟨Nat.le_of_ble_eq_true rfl, Nat.le_of_ble_eq_true rfl⟩ ⟨by decide, by decide⟩ (X_p_cur hP) (X_k hK) hDcur h9 hl.1 (Nat.le_of_ble_eq_true rfl) dX8_digest_85 ?_
        refine lv_i2l hx hb dX8_digest_88 rfl ?_
        refine lv_ladd hx hb dX8_digest_89 ?_
        refine lv_topl (fun x10 ex10 => ?_)
        replace h := olet_s ex10 h
        refine lv_lstore_n (lv' := [(1, .long x10), (0, .ref (b 6 0)), (3, .int v3), (4, .int v4), (5, .int v5)]) hx hb dX8_digest_90 rfl hl (by decide) rfl (fun ls hl => ?_)
        refine lv_iinc (v := v5 + 1) (lv' := [(5, .int (v5 + 1)), (1, .long x10), (0, .ref (b 6 0)), (3, .int v3), (4, .int v4)]) hx hb dX8_digest_91 hl (k := 4) rfl (fm_inc _ _ _ (by decide)) (by decide) rfl (fun ls hl => ?_)
        refine lv_goto (tgt := 65) hx hb dX8_digest_94 (by decide) ?_
        exact ih _ _ _ _ _ _ _ _ _ _ h hP hS hZ (lv_sub hl [2, 1, 3, 4, 0] rfl) kk
  have hL50 : ∀ (k : Nat) (v3 : Int32) (v1 : Int64) (v4 : Int32) (u0 : M2) (φ : M2) (H : Heap) (locs : List Loc) (ls : Array Slot) (o1 : Int64), L_X8_digest_50 N φ u0 η τ v3 k v1 v4 = some o1 → va_P D vwCl (xW cI cF b u0 φ η τ) H → va_S (xA b) s.heap H locs → xZ (xA b) s H → lv_has ls 6 [(0, .ref (b 6 0)), (1, .long v1), (3, .int v3), (4, .int v4)] → (∀ (H1 : Heap) (locs1 : List Loc) (ls1 : Array Slot), va_P D vwCl (xW cI cF b u0 φ η τ) H1 → va_S (xA b) s.heap H1 locs1 → xZ (xA b) s H1 → lv_has ls1 6 [(0, .ref (b 6 0)), (1, .long o1), (3, .int v3)] → W p l e (headSpec (wsA yX8_digest cX8_digest 6 (some .long)) { frames := 6, cells := 0, slots := 0, locals := 140 }).room s m ([.ref (b 6 0)] : List Value).toArray below meth c H1 locs1 0 0 (vx_MQ below (va_Ql (fun (r : Int64) (u : Bf) => k0 = 0 ∧ r = r0 ∧ xSame b u) (fun u t => va_P D vwCl (xW cI cF u u0r φr ηr τr) t.heap ∧ va_D (fun _ => True) (xW cI cF u u0r φr ηr τr)) (xA b)) (vx_X (fun (u : Bf) => xSame b u) (fun E u t => ¬ k0 = 0 ∧ E = eOf k0 ∧ va_P D vwCl (xW cI cF u u0r φr ηr τr) t.heap ∧ va_D (fun _ => True) (xW cI cF u u0r φr ηr τr)) (xA b)) ([.ref (b 6 0)] : List Value).toArray s 0 0 (xA b)) (F0 m 103 ls1 [])) → W p l e (headSpec (wsA yX8_digest cX8_digest 6 (some .long)) { frames := 6, cells := 0, slots := 0, locals := 140 }).room s m ([.ref (b 6 0)] : List Value).toArray below meth c H locs 0 0 (vx_MQ below (va_Ql (fun (r : Int64) (u : Bf) => k0 = 0 ∧ r = r0 ∧ xSame b u) (fun u t => va_P D vwCl (xW cI cF u u0r φr ηr τr) t.heap ∧ va_D (fun _ => True) (xW cI cF u u0r φr ηr τr)) (xA b)) (vx_X (fun (u : Bf) => xSame b u) (fun E u t => ¬ k0 = 0 ∧ E = eOf k0 ∧ va_P D vwCl (xW cI cF u u0r φr ηr τr) t.heap ∧ va_D (fun _ => True) (xW cI cF u u0r φr ηr τr)) (xA b)) ([.ref (b 6 0)] : List Value).toArray s 0 0 (xA b)) (F0 m 50 ls []) := by
    intro k
    induction k with
    | zero =>
      intro v3 v1 v4 u0 φ H locs ls o1 h hP hS hZ hl kk
      exact no_s h
    | succ k ih =>
      intro v3 v1 v4 u0 φ H locs ls o1 h hP hS hZ hl kk
      replace h : B_X8_digest_50 N φ u0 η τ v3 (L_X8_digest_50 N φ u0 η τ v3 k) v1 v4 = some o1 := h
      unfold B_X8_digest_50 at h
      refine lv_iload hx hb dX8_digest_50 (lv_at hl 3 rfl) ?_
      refine lv_aload_n hx hb dX8_digest_52 rfl (lv_at hl 0 rfl) ?_
      refine xg_current hx hb hA hown aF_RX8_10 hK hP dX8_digest_53 ?_
      refine k_X2_slotCount S aM_RX8_232 ⟨Nat.le_of_ble_eq_true rfl, Nat.le_of_ble_eq_true rfl⟩ ⟨by decide, by decide⟩ (X_p_cur hP) (X_k hK) hDcur hl.1 (Nat.le_of_ble_eq_true rfl) dX8_digest_56 (fun r7 er7 => ?_)
      replace h := olet_s er7 h
      refine lv_icmp_ge (tgt := 103) hx hb dX8_digest_59 (by decide) (fun hc => ?_) (fun hc => ?_)
      · replace h := oi_t hc h
        obtain rfl := os1 h
        exact kk _ _ _ hP hS hZ (lv_sub hl [0, 1, 2] rfl)
      · replace h := oi_f hc h
        refine lv_iconst (v := 0) hx hb dX8_digest_62 (by decide) ?_
        refine lv_istore (lv' := [(5, .int 0), (0, .ref (b 6 0)), (1, .long v1), (3, .int v3), (4, .int v4)]) hx hb dX8_digest_63 hl (by decide) rfl (fun ls hl => ?_)
        obtain ⟨y11, h12, h⟩ := obd_e h
        refine hL65 N _ _ _ _ _ _ _ _ _ _ h12 hP hS hZ (lv_sub hl [1, 2, 3, 4, 0] rfl) (fun H locs ls hP hS hZ hl => ?_)
        refine lv_iinc (v := v4 + 1) (lv' := [(4, .int (v4 + 1)), (0, .ref (b 6 0)), (1, .long y11), (3, .int v3)]) hx hb dX8_digest_97 hl (k := 3) rfl (fm_inc _ _ _ (by decide)) (by decide) rfl (fun ls hl => ?_)
        refine lv_goto (tgt := 50) hx hb dX8_digest_100 (by decide) ?_
        exact ih _ _ _ _ _ _ _ _ _ h hP hS hZ (lv_sub hl [1, 2, 3, 0] rfl) kk
  have hL36 : ∀ (k : Nat) (v1 : Int64) (v3 : Int32) (u0 : M2) (φ : M2) (H : Heap) (locs : List Loc) (ls : Array Slot) (o1 : Int64), L_X8_digest_36 N φ u0 η τ k v1 v3 = some o1 → va_P D vwCl (xW cI cF b u0 φ η τ) H → va_S (xA b) s.heap H locs → xZ (xA b) s H → lv_has ls 6 [(0, .ref (b 6 0)), (1, .long v1), (3, .int v3)] → (∀ (H1 : Heap) (locs1 : List Loc) (ls1 : Array Slot), va_P D vwCl (xW cI cF b u0 φ η τ) H1 → va_S (xA b) s.heap H1 locs1 → xZ (xA b) s H1 → lv_has ls1 6 [(0, .ref (b 6 0)), (1, .long o1)] → W p l e (headSpec (wsA yX8_digest cX8_digest 6 (some .long)) { frames := 6, cells := 0, slots := 0, locals := 140 }).room s m ([.ref (b 6 0)] : List Value).toArray below meth c H1 locs1 0 0 (vx_MQ below (va_Ql (fun (r : Int64) (u : Bf) => k0 = 0 ∧ r = r0 ∧ xSame b u) (fun u t => va_P D vwCl (xW cI cF u u0r φr ηr τr) t.heap ∧ va_D (fun _ => True) (xW cI cF u u0r φr ηr τr)) (xA b)) (vx_X (fun (u : Bf) => xSame b u) (fun E u t => ¬ k0 = 0 ∧ E = eOf k0 ∧ va_P D vwCl (xW cI cF u u0r φr ηr τr) t.heap ∧ va_D (fun _ => True) (xW cI cF u u0r φr ηr τr)) (xA b)) ([.ref (b 6 0)] : List Value).toArray s 0 0 (xA b)) (F0 m 109 ls1 [])) → W p l e (headSpec (wsA yX8_digest cX8_digest 6 (some .long)) { frames := 6, cells := 0, slots := 0, locals := 140 }).room s m ([.ref (b 6 0)] : List Value).toArray below meth c H locs 0 0 (vx_MQ below (va_Ql (fun (r : Int64) (u : Bf) => k0 = 0 ∧ r = r0 ∧ xSame b u) (fun u t => va_P D vwCl (xW cI cF u u0r φr ηr τr) t.heap ∧ va_D (fun _ => True) (xW cI cF u u0r φr ηr τr)) (xA b)) (vx_X (fun (u : Bf) => xSame b u) (fun E u t => ¬ k0 = 0 ∧ E = eOf k0 ∧ va_P D vwCl (xW cI cF u u0r φr ηr τr) t.heap ∧ va_D (fun _ => True) (xW cI cF u u0r φr ηr τr)) (xA b)) ([.ref (b 6 0)] : List Value).toArray s 0 0 (xA b)) (F0 m 36 ls []) := by
    intro k
    induction k with
    | zero =>
      intro v1 v3 u0 φ H locs ls o1 h hP hS hZ hl kk
      exact no_s h
    | succ k ih =>
      intro v1 v3 u0 φ H locs ls o1 h hP hS hZ hl kk
      replace h : B_X8_digest_36 N φ u0 η τ (L_X8_digest_36 N φ u0 η τ k) v1 v3 = some o1 := h
      unfold B_X8_digest_36 at h
      refine lv_iload_n hx hb dX8_digest_36 rfl (lv_at hl 2 rfl) ?_
      refine lv_aload_n hx hb dX8_digest_37 rfl (lv_at hl 0 rfl) ?_
      refine xg_current hx hb hA hown aF_RX8_10 hK hP dX8_digest_38 ?_
      refine k_X2_bucketCount S aM_RX8_229 ⟨Nat.le_of_ble_eq_true rfl, Nat.le_of_ble_eq_true rfl⟩ ⟨by decide, by decide⟩ (X_p_cur hP) (X_k hK) hDcur hl.1 (Nat.le_of_ble_eq_true rfl) dX8_digest_41 (fun r6 er6 => ?_)
      replace h := olet_s er6 h
      refine lv_icmp_ge (tgt := 109) hx hb dX8_digest_44 (by decide) (fun hc => ?_) (fun hc => ?_)
      · replace h := oi_t hc h
        obtain rfl := os1 h
        exact kk _ _ _ hP hS hZ (lv_sub hl [0, 1] rfl)
      · replace h := oi_f hc h
        refine lv_iconst (v := 0) hx hb dX8_digest_47 (by decide) ?_
        refine lv_istore (lv' := [(4, .int 0), (0, .ref (b 6 0)), (1, .long v1), (3, .int v3)]) hx hb dX8_digest_48 hl (by decide) rfl (fun ls hl => ?_)
        obtain ⟨y13, h14, h⟩ := obd_e h
        refine hL50 N _ _ _ _ _ _ _ _ _ h14 hP hS hZ (lv_sub hl [1, 2, 3, 0] rfl) (fun H locs ls hP hS hZ hl => ?_)
        refine lv_iinc (v := v3 + 1) (lv' := [(3, .int (v3 + 1)), (0, .ref (b 6 0)), (1, .long y13)]) hx hb dX8_digest_103 hl (k := 2) rfl (fm_inc _ _ _ (by decide)) (by decide) rfl (fun ls hl => ?_)
        refine lv_goto (tgt := 36) hx hb dX8_digest_106 (by decide) ?_
        exact ih _ _ _ _ _ _ _ _ h hP hS hZ (lv_sub hl [1, 2, 0] rfl) kk
  have hL125 : ∀ (k : Nat) (v3 : Int32) (v1 : Int64) (v4 : Int32) (u0 : M2) (φ : M2) (H : Heap) (locs : List Loc) (ls : Array Slot) (o1 : Int64), L_X8_digest_125 N φ u0 η τ v3 k v1 v4 = some o1 → va_P D vwCl (xW cI cF b u0 φ η τ) H → va_S (xA b) s.heap H locs → xZ (xA b) s H → lv_has ls 6 [(0, .ref (b 6 0)), (1, .long v1), (3, .int v3), (4, .int v4)] → (∀ (H1 : Heap) (locs1 : List Loc) (ls1 : Array Slot), va_P D vwCl (xW cI cF b u0 φ η τ) H1 → va_S (xA b) s.heap H1 locs1 → xZ (xA b) s H1 → lv_has ls1 6 [(0, .ref (b 6 0)), (1, .long o1), (3, .int v3)] → W p l e (headSpec (wsA yX8_digest cX8_digest 6 (some .long)) { frames := 6, cells := 0, slots := 0, locals := 140 }).room s m ([.ref (b 6 0)] : List Value).toArray below meth c H1 locs1 0 0 (vx_MQ below (va_Ql (fun (r : Int64) (u : Bf) => k0 = 0 ∧ r = r0 ∧ xSame b u) (fun u t => va_P D vwCl (xW cI cF u u0r φr ηr τr) t.heap ∧ va_D (fun _ => True) (xW cI cF u u0r φr ηr τr)) (xA b)) (vx_X (fun (u : Bf) => xSame b u) (fun E u t => ¬ k0 = 0 ∧ E = eOf k0 ∧ va_P D vwCl (xW cI cF u u0r φr ηr τr) t.heap ∧ va_D (fun _ => True) (xW cI cF u u0r φr ηr τr)) (xA b)) ([.ref (b 6 0)] : List Value).toArray s 0 0 (xA b)) (F0 m 155 ls1 [])) → W p l e (headSpec (wsA yX8_digest cX8_digest 6 (some .long)) { frames := 6, cells := 0, slots := 0, locals := 140 }).room s m ([.ref (b 6 0)] : List Value).toArray below meth c H locs 0 0 (vx_MQ below (va_Ql (fun (r : Int64) (u : Bf) => k0 = 0 ∧ r = r0 ∧ xSame b u) (fun u t => va_P D vwCl (xW cI cF u u0r φr ηr τr) t.heap ∧ va_D (fun _ => True) (xW cI cF u u0r φr ηr τr)) (xA b)) (vx_X (fun (u : Bf) => xSame b u) (fun E u t => ¬ k0 = 0 ∧ E = eOf k0 ∧ va_P D vwCl (xW cI cF u u0r φr ηr τr) t.heap ∧ va_D (fun _ => True) (xW cI cF u u0r φr ηr τr)) (xA b)) ([.ref (b 6 0)] : List Value).toArray s 0 0 (xA b)) (F0 m 125 ls []) := by
    intro k
    induction k with
    | zero =>
      intro v3 v1 v4 u0 φ H locs ls o1 h hP hS hZ hl kk
      exact no_s h
    | succ k ih =>
      intro v3 v1 v4 u0 φ H locs ls o1 h hP hS hZ hl kk
      replace h : B_X8_digest_125 N φ u0 η τ v3 (L_X8_digest_125 N φ u0 η τ v3 k) v1 v4 = some o1 := h
      unfold B_X8_digest_125 at h
      refine lv_iload hx hb dX8_digest_125 (lv_at hl 3 rfl) ?_
      refine lv_iconst (v := 3) hx hb dX8_digest_127 (by decide) ?_
      refine lv_icmp_gt (tgt := 155) hx hb dX8_digest_128 (by decide) (fun hc => ?_) (fun hc => ?_)
      · replace h := oi_t hc h
        obtain rfl := os1 h
        exact kk _ _ _ hP hS hZ (lv_sub hl [0, 1, 2] rfl)
      · replace h := oi_f hc h
        refine lv_ldc2 hx hb hown (hA _ aK_RX8_227) dX8_digest_131 ?_
        refine lv_lload_n hx hb dX8_digest_134 rfl (lv_at hl 1 rfl) ?_
        refine lv_lmul hx hb dX8_digest_135 ?_
        refine lv_aload_n hx hb dX8_digest_136 rfl (lv_at hl 0 rfl) ?_
        refine xg_current hx hb hA hown aF_RX8_10 hK hP dX8_digest_137 ?_
        refine lv_iload_n hx hb dX8_digest_140 rfl (lv_at hl 2 rfl) ?_
        refine lv_iload hx hb dX8_digest_141 (lv_at hl 3 rfl) ?_
        obtain ⟨r18, h19, h⟩ := obd_e h
        refine k_X2_partOfStash S aM_RX8_134 ⟨Nat.le_of_ble_eq_true rfl, Nat.le_of_ble_eq_true rfl⟩ ⟨by decide, by decide⟩ (X_p_cur hP) (X_k hK) hDcur h19 hl.1 (Nat.le_of_ble_eq_true rfl) dX8_digest_143 ?_
        refine lv_i2l hx hb dX8_digest_146 rfl ?_
        refine lv_ladd hx hb dX8_digest_147 ?_
        refine lv_topl (fun x20 ex20 => ?_)
        replace h := olet_s ex20 h
        refine lv_lstore_n (lv' := [(1, .long x20), (0, .ref (b 6 0)), (3, .int v3), (4, .int v4)]) hx hb dX8_digest_148 rfl hl (by decide) rfl (fun ls hl => ?_)
        refine lv_iinc (v := v4 + 1) (lv' := [(4, .int (v4 + 1)), (1, .long x20), (0, .ref (b 6 0)), (3, .int v3)]) hx hb dX8_digest_149 hl (k := 3) rfl (fm_inc _ _ _ (by decide)) (by decide) rfl (fun ls hl => ?_)
        refine lv_goto (tgt := 125) hx hb dX8_digest_152 (by decide) ?_
        exact ih _ _ _ _ _ _ _ _ _ h hP hS hZ (lv_sub hl [2, 1, 3, 0] rfl) kk
  have hL111 : ∀ (k : Nat) (v1 : Int64) (v3 : Int32) (u0 : M2) (φ : M2) (H : Heap) (locs : List Loc) (ls : Array Slot) (o1 : Int64), L_X8_digest_111 N φ u0 η τ k v1 v3 = some o1 → va_P D vwCl (xW cI cF b u0 φ η τ) H → va_S (xA b) s.heap H locs → xZ (xA b) s H → lv_has ls 6 [(0, .ref (b 6 0)), (1, .long v1), (3, .int v3)] → (∀ (H1 : Heap) (locs1 : List Loc) (ls1 : Array Slot), va_P D vwCl (xW cI cF b u0 φ η τ) H1 → va_S (xA b) s.heap H1 locs1 → xZ (xA b) s H1 → lv_has ls1 6 [(0, .ref (b 6 0)), (1, .long o1)] → W p l e (headSpec (wsA yX8_digest cX8_digest 6 (some .long)) { frames := 6, cells := 0, slots := 0, locals := 140 }).room s m ([.ref (b 6 0)] : List Value).toArray below meth c H1 locs1 0 0 (vx_MQ below (va_Ql (fun (r : Int64) (u : Bf) => k0 = 0 ∧ r = r0 ∧ xSame b u) (fun u t => va_P D vwCl (xW cI cF u u0r φr ηr τr) t.heap ∧ va_D (fun _ => True) (xW cI cF u u0r φr ηr τr)) (xA b)) (vx_X (fun (u : Bf) => xSame b u) (fun E u t => ¬ k0 = 0 ∧ E = eOf k0 ∧ va_P D vwCl (xW cI cF u u0r φr ηr τr) t.heap ∧ va_D (fun _ => True) (xW cI cF u u0r φr ηr τr)) (xA b)) ([.ref (b 6 0)] : List Value).toArray s 0 0 (xA b)) (F0 m 161 ls1 [])) → W p l e (headSpec (wsA yX8_digest cX8_digest 6 (some .long)) { frames := 6, cells := 0, slots := 0, locals := 140 }).room s m ([.ref (b 6 0)] : List Value).toArray below meth c H locs 0 0 (vx_MQ below (va_Ql (fun (r : Int64) (u : Bf) => k0 = 0 ∧ r = r0 ∧ xSame b u) (fun u t => va_P D vwCl (xW cI cF u u0r φr ηr τr) t.heap ∧ va_D (fun _ => True) (xW cI cF u u0r φr ηr τr)) (xA b)) (vx_X (fun (u : Bf) => xSame b u) (fun E u t => ¬ k0 = 0 ∧ E = eOf k0 ∧ va_P D vwCl (xW cI cF u u0r φr ηr τr) t.heap ∧ va_D (fun _ => True) (xW cI cF u u0r φr ηr τr)) (xA b)) ([.ref (b 6 0)] : List Value).toArray s 0 0 (xA b)) (F0 m 111 ls []) := by
    intro k
    induction k with
    | zero =>
      intro v1 v3 u0 φ H locs ls o1 h hP hS hZ hl kk
      exact no_s h
    | succ k ih =>
      intro v1 v3 u0 φ H locs ls o1 h hP hS hZ hl kk
      replace h : B_X8_digest_111 N φ u0 η τ (L_X8_digest_111 N φ u0 η τ k) v1 v3 = some o1 := h
      unfold B_X8_digest_111 at h
      refine lv_iload_n hx hb dX8_digest_111 rfl (lv_at hl 2 rfl) ?_
      refine lv_aload_n hx hb dX8_digest_112 rfl (lv_at hl 0 rfl) ?_
      refine xg_current hx hb hA hown aF_RX8_10 hK hP dX8_digest_113 ?_
      refine k_X2_stashSize S aM_RX8_108 ⟨Nat.le_of_ble_eq_true rfl, Nat.le_of_ble_eq_true rfl⟩ ⟨by decide, by decide⟩ (X_p_cur hP) (X_k hK) hDcur hl.1 (Nat.le_of_ble_eq_true rfl) dX8_digest_116 (fun r17 er17 => ?_)
      replace h := olet_s er17 h
      refine lv_icmp_ge (tgt := 161) hx hb dX8_digest_119 (by decide) (fun hc => ?_) (fun hc => ?_)
      · replace h := oi_t hc h
        obtain rfl := os1 h
        exact kk _ _ _ hP hS hZ (lv_sub hl [0, 1] rfl)
      · replace h := oi_f hc h
        refine lv_iconst (v := 0) hx hb dX8_digest_122 (by decide) ?_
        refine lv_istore (lv' := [(4, .int 0), (0, .ref (b 6 0)), (1, .long v1), (3, .int v3)]) hx hb dX8_digest_123 hl (by decide) rfl (fun ls hl => ?_)
        obtain ⟨y21, h22, h⟩ := obd_e h
        refine hL125 N _ _ _ _ _ _ _ _ _ h22 hP hS hZ (lv_sub hl [1, 2, 3, 0] rfl) (fun H locs ls hP hS hZ hl => ?_)
        refine lv_iinc (v := v3 + 1) (lv' := [(3, .int (v3 + 1)), (0, .ref (b 6 0)), (1, .long y21)]) hx hb dX8_digest_155 hl (k := 2) rfl (fm_inc _ _ _ (by decide)) (by decide) rfl (fun ls hl => ?_)
        refine lv_goto (tgt := 111) hx hb dX8_digest_158 (by decide) ?_
        exact ih _ _ _ _ _ _ _ _ h hP hS hZ (lv_sub hl [1, 2, 0] rfl) kk
  have hL178 : ∀ (k : Nat) (v1 : Int64) (v3 : Int32) (u0 : M2) (φ : M2) (H : Heap) (locs : List Loc) (ls : Array Slot) (o1 : Int64), L_X8_digest_178 N φ u0 η τ k v1 v3 = some o1 → va_P D vwCl (xW cI cF b u0 φ η τ) H → va_S (xA b) s.heap H locs → xZ (xA b) s H → lv_has ls 6 [(0, .ref (b 6 0)), (1, .long v1), (3, .int v3)] → (∀ (H1 : Heap) (locs1 : List Loc) (ls1 : Array Slot), va_P D vwCl (xW cI cF b u0 φ η τ) H1 → va_S (xA b) s.heap H1 locs1 → xZ (xA b) s H1 → lv_has ls1 6 [(0, .ref (b 6 0)), (1, .long o1)] → W p l e (headSpec (wsA yX8_digest cX8_digest 6 (some .long)) { frames := 6, cells := 0, slots := 0, locals := 140 }).room s m ([.ref (b 6 0)] : List Value).toArray below meth c H1 locs1 0 0 (vx_MQ below (va_Ql (fun (r : Int64) (u : Bf) => k0 = 0 ∧ r = r0 ∧ xSame b u) (fun u t => va_P D vwCl (xW cI cF u u0r φr ηr τr) t.heap ∧ va_D (fun _ => True) (xW cI cF u u0r φr ηr τr)) (xA b)) (vx_X (fun (u : Bf) => xSame b u) (fun E u t => ¬ k0 = 0 ∧ E = eOf k0 ∧ va_P D vwCl (xW cI cF u u0r φr ηr τr) t.heap ∧ va_D (fun _ => True) (xW cI cF u u0r φr ηr τr)) (xA b)) ([.ref (b 6 0)] : List Value).toArray s 0 0 (xA b)) (F0 m 211 ls1 [])) → W p l e (headSpec (wsA yX8_digest cX8_digest 6 (some .long)) { frames := 6, cells := 0, slots := 0, locals := 140 }).room s m ([.ref (b 6 0)] : List Value).toArray below meth c H locs 0 0 (vx_MQ below (va_Ql (fun (r : Int64) (u : Bf) => k0 = 0 ∧ r = r0 ∧ xSame b u) (fun u t => va_P D vwCl (xW cI cF u u0r φr ηr τr) t.heap ∧ va_D (fun _ => True) (xW cI cF u u0r φr ηr τr)) (xA b)) (vx_X (fun (u : Bf) => xSame b u) (fun E u t => ¬ k0 = 0 ∧ E = eOf k0 ∧ va_P D vwCl (xW cI cF u u0r φr ηr τr) t.heap ∧ va_D (fun _ => True) (xW cI cF u u0r φr ηr τr)) (xA b)) ([.ref (b 6 0)] : List Value).toArray s 0 0 (xA b)) (F0 m 178 ls []) := by
    intro k
    induction k with
    | zero =>
      intro v1 v3 u0 φ H locs ls o1 h hP hS hZ hl kk
      exact no_s h
    | succ k ih =>
      intro v1 v3 u0 φ H locs ls o1 h hP hS hZ hl kk
      replace h : B_X8_digest_178 N φ u0 η τ (L_X8_digest_178 N φ u0 η τ k) v1 v3 = some o1 := h
      unfold B_X8_digest_178 at h
      refine lv_iload_n hx hb dX8_digest_178 rfl (lv_at hl 2 rfl) ?_
      refine lv_aload_n hx hb dX8_digest_179 rfl (lv_at hl 0 rfl) ?_
      refine xg_current hx hb hA hown aF_RX8_10 hK hP dX8_digest_180 ?_
      refine k_X2_keyCount S aM_RX8_67 ⟨Nat.le_of_ble_eq_true rfl, Nat.le_of_ble_eq_true rfl⟩ ⟨by decide, by decide⟩ (X_p_cur hP) (X_k hK) hDcur hl.1 (Nat.le_of_ble_eq_true rfl) dX8_digest_183 (fun r27 er27 => ?_)
      replace h := olet_s er27 h
      refine lv_icmp_ge (tgt := 211) hx hb dX8_digest_186 (by decide) (fun hc => ?_) (fun hc => ?_)
      · replace h := oi_t hc h
        obtain rfl := os1 h
        exact kk _ _ _ hP hS hZ (lv_sub hl [0, 1] rfl)
      · replace h := oi_f hc h
        refine lv_ldc2 hx hb hown (hA _ aK_RX8_227) dX8_digest_189 ?_
        refine lv_lload_n hx hb dX8_digest_192 rfl (lv_at hl 1 rfl) ?_
        refine lv_lmul hx hb dX8_digest_193 ?_
        refine lv_aload_n hx hb dX8_digest_194 rfl (lv_at hl 0 rfl) ?_
        refine xg_current hx hb hA hown aF_RX8_10 hK hP dX8_digest_195 ?_
        refine lv_iload_n hx hb dX8_digest_198 rfl (lv_at hl 2 rfl) ?_
        obtain ⟨r28, h29, h⟩ := obd_e h
        refine k_X2_keyAt S aM_RX8_79 ⟨Nat.le_of_ble_eq_true rfl, Nat.le_of_ble_eq_true rfl⟩ ⟨by decide, by decide⟩ (X_p_cur hP) (X_k hK) hDcur h29 hl.1 (Nat.le_of_ble_eq_true rfl) dX8_digest_199 ?_
        refine lv_i2l hx hb dX8_digest_202 rfl ?_
        refine lv_ladd hx hb dX8_digest_203 ?_
        refine lv_topl (fun x30 ex30 => ?_)
        replace h := olet_s ex30 h
        refine lv_lstore_n (lv' := [(1, .long x30), (0, .ref (b 6 0)), (3, .int v3)]) hx hb dX8_digest_204 rfl hl (by decide) rfl (fun ls hl => ?_)
        refine lv_iinc (v := v3 + 1) (lv' := [(3, .int (v3 + 1)), (1, .long x30), (0, .ref (b 6 0))]) hx hb dX8_digest_205 hl (k := 2) rfl (fm_inc _ _ _ (by decide)) (by decide) rfl (fun ls hl => ?_)
        refine lv_goto (tgt := 178) hx hb dX8_digest_208 (by decide) ?_
        exact ih _ _ _ _ _ _ _ _ h hP hS hZ (lv_sub hl [2, 1, 0] rfl) kk
  have h := hF
  unfold G_X8_digest at h
  refine lv_ldc2 hx hb hown (hA _ aK_RX8_225) dX8_digest_0 ?_
  refine lv_lstore_n (lv' := [(1, .long 1960), (0, .ref (b 6 0))]) hx hb dX8_digest_3 rfl hl (by decide) rfl (fun ls hl => ?_)
  refine lv_iconst (v := 0) hx hb dX8_digest_4 (by decide) ?_
  refine lv_istore_n (lv' := [(3, .int 0), (1, .long 1960), (0, .ref (b 6 0))]) hx hb dX8_digest_5 rfl hl (by decide) rfl (fun ls hl => ?_)
  obtain ⟨y4, h5, h⟩ := obd_e h
  refine hL6 N _ _ _ _ _ _ _ _ h5 hP hS hZ (lv_sub hl [2, 1, 0] rfl) (fun H locs ls hP hS hZ hl => ?_)
  refine lv_iconst (v := 0) hx hb dX8_digest_34 (by decide) ?_
  refine lv_istore_n (lv' := [(3, .int 0), (0, .ref (b 6 0)), (1, .long y4)]) hx hb dX8_digest_35 rfl hl (by decide) rfl (fun ls hl => ?_)
  obtain ⟨y15, h16, h⟩ := obd_e h
  refine hL36 N _ _ _ _ _ _ _ _ h16 hP hS hZ (lv_sub hl [1, 2, 0] rfl) (fun H locs ls hP hS hZ hl => ?_)
  refine lv_iconst (v := 0) hx hb dX8_digest_109 (by decide) ?_
  refine lv_istore_n (lv' := [(3, .int 0), (0, .ref (b 6 0)), (1, .long y15)]) hx hb dX8_digest_110 rfl hl (by decide) rfl (fun ls hl => ?_)
  obtain ⟨y23, h24, h⟩ := obd_e h
  refine hL111 N _ _ _ _ _ _ _ _ h24 hP hS hZ (lv_sub hl [1, 2, 0] rfl) (fun H locs ls hP hS hZ hl => ?_)
  refine lv_ldc2 hx hb hown (hA _ aK_RX8_227) dX8_digest_161 ?_
  refine lv_lload_n hx hb dX8_digest_164 rfl (lv_at hl 1 rfl) ?_
  refine lv_lmul hx hb dX8_digest_165 ?_
  refine lv_aload_n hx hb dX8_digest_166 rfl (lv_at hl 0 rfl) ?_
  refine xg_current hx hb hA hown aF_RX8_10 hK hP dX8_digest_167 ?_
  refine k_X2_keyCount S aM_RX8_67 ⟨Nat.le_of_ble_eq_true rfl, Nat.le_of_ble_eq_true rfl⟩ ⟨by decide, by decide⟩ (X_p_cur hP) (X_k hK) hDcur hl.1 (Nat.le_of_ble_eq_true rfl) dX8_digest_170 (fun r25 er25 => ?_)
  replace h := olet_s er25 h
  refine lv_i2l hx hb dX8_digest_173 rfl ?_
  refine lv_ladd hx hb dX8_digest_174 ?_
  refine lv_topl (fun x26 ex26 => ?_)
  replace h := olet_s ex26 h
  refine lv_lstore_n (lv' := [(1, .long x26), (0, .ref (b 6 0))]) hx hb dX8_digest_175 rfl hl (by decide) rfl (fun ls hl => ?_)
  refine lv_iconst (v := 0) hx hb dX8_digest_176 (by decide) ?_
  refine lv_istore_n (lv' := [(3, .int 0), (1, .long x26), (0, .ref (b 6 0))]) hx hb dX8_digest_177 rfl hl (by decide) rfl (fun ls hl => ?_)
  obtain ⟨y31, h32, h⟩ := obd_e h
  refine hL178 N _ _ _ _ _ _ _ _ h32 hP hS hZ (lv_sub hl [2, 1, 0] rfl) (fun H locs ls hP hS hZ hl => ?_)
  refine lv_ldc2 hx hb hown (hA _ aK_RX8_227) dX8_digest_211 ?_
  refine lv_lload_n hx hb dX8_digest_214 rfl (lv_at hl 1 rfl) ?_
  refine lv_lmul hx hb dX8_digest_215 ?_
  refine lv_aload_n hx hb dX8_digest_216 rfl (lv_at hl 0 rfl) ?_
  refine xg_current hx hb hA hown aF_RX8_10 hK hP dX8_digest_217 ?_
  refine lv_iconst (v := 0) hx hb dX8_digest_220 (by decide) ?_
  refine lv_sipush (v := 999) hx hb dX8_digest_221 (by decide) ?_
  obtain ⟨r33, h34, h⟩ := obd_e h
  refine k_X2_falseBetween S aM_RX8_165 ⟨Nat.le_of_ble_eq_true rfl, Nat.le_of_ble_eq_true rfl⟩ ⟨by decide, by decide⟩ (X_p_cur hP) (X_k hK) hDcur h34 hl.1 (Nat.le_of_ble_eq_true rfl) dX8_digest_224 ?_
  refine lv_i2l hx hb dX8_digest_227 rfl ?_
  refine lv_ladd hx hb dX8_digest_228 ?_
  refine lv_topl (fun x35 ex35 => ?_)
  replace h := olet_s ex35 h
  refine lv_lstore_n (lv' := [(1, .long x35), (0, .ref (b 6 0))]) hx hb dX8_digest_229 rfl hl (by decide) rfl (fun ls hl => ?_)
  refine lv_ldc2 hx hb hown (hA _ aK_RX8_227) dX8_digest_230 ?_
  refine lv_lload_n hx hb dX8_digest_233 rfl (lv_at hl 0 rfl) ?_
  refine lv_lmul hx hb dX8_digest_234 ?_
  refine lv_aload_n hx hb dX8_digest_235 rfl (lv_at hl 1 rfl) ?_
  refine xg_text hx hb hA hown aF_RX8_29 hK hP dX8_digest_236 ?_
  refine k_X6_size S aM_RX8_190 ⟨Nat.le_of_ble_eq_true rfl, Nat.le_of_ble_eq_true rfl⟩ ⟨by decide, by decide⟩ (X_p_txt hP) (X_k hK) hDtxt hl.1 (Nat.le_of_ble_eq_true rfl) dX8_digest_239 (fun r36 er36 => ?_)
  replace h := olet_s er36 h
  refine lv_i2l hx hb dX8_digest_242 rfl ?_
  refine lv_ladd hx hb dX8_digest_243 ?_
  refine lv_topl (fun x37 ex37 => ?_)
  replace h := olet_s ex37 h
  refine lv_lstore_n (lv' := [(1, .long x37), (0, .ref (b 6 0))]) hx hb dX8_digest_244 rfl hl (by decide) rfl (fun ls hl => ?_)
  refine lv_ldc2 hx hb hown (hA _ aK_RX8_227) dX8_digest_245 ?_
  refine lv_lload_n hx hb dX8_digest_248 rfl (lv_at hl 0 rfl) ?_
  refine lv_lmul hx hb dX8_digest_249 ?_
  refine lv_aload_n hx hb dX8_digest_250 rfl (lv_at hl 1 rfl) ?_
  refine xg_history hx hb hA hown aF_RX8_22 hK hP dX8_digest_251 ?_
  refine k_X3_size S aM_RX8_218 ⟨Nat.le_of_ble_eq_true rfl, Nat.le_of_ble_eq_true rfl⟩ ⟨by decide, by decide⟩ hP hK (hDX _ _ _ _) hl.1 (Nat.le_of_ble_eq_true rfl) dX8_digest_254 ?_
  refine lv_i2l hx hb dX8_digest_257 rfl ?_
  refine lv_ladd hx hb dX8_digest_258 ?_
  obtain ⟨rfl, rfl, rfl, rfl, rfl, rfl⟩ := os6 h
  refine vx_ret ?_
  refine W.widen (k := 0) (n := 0) (by decide) (by decide) ?_
  exact W.lret (v := ((31 * x37) + η.2.toInt64)) hx hb hr (fun t ht hW => ⟨⟨_, b, rfl, ⟨rfl, rfl, xSame_rf⟩, (by rw [ht]; exact hP), (hDX _ _ _ _)⟩, hS.F ht⟩) hS.2.2 dX8_digest_259
