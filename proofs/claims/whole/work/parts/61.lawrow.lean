/-! the law's world: the whole object, the array of one long, the model -/
def lW (cI cF cL : ClassId) (b : Bf) (q : Nat) (u0 φ : M2) (η : HT) (τ : M2) (f : Nat → Int64) (a : Nat → Nat) (ψ : M2) (hv : Int64) : va_W := hWd cI cF cL b u0 φ η τ q f ++ mbW cI a ψ hv
section LX
variable {p : Program} {l : Launch} {e : Env} {R : Room} {s : State} {m : MethodId} {args : Array Value} {below : List Frame} {meth : Method} {c : Code} {H H1 : Heap} {locs : List Loc} {cells slots : Nat} {Q : State → Prop} {cc : ByteArray} {pc nL idx n maxL mc ms : Nat} {ls : Array Slot} {rest As : List Value} {own : String} {y : MethodName} {bytes : ByteArray} {ret : Option FieldType} {rm : Room}
variable {D : va_G} {cI cF cL : ClassId} {b u : Bf} {u0 φ u0r φr : M2} {η ηr : HT} {τ τr : M2} {q : Nat} {f f1 : Nat → Int64} {a : Nat → Nat} {ψ ψr : M2} {hv hvr : Int64} {H0 : Heap} {A0 : Nat → Prop}
theorem hx_in {x : Nat} (h : hAd b q x) : x ∈ (hWd cI cF cL b u0 φ η τ q f).map (fun q => q.1) := by
  unfold hWd
  rw [List.map_append]
  rcases h with h | h
  · exact List.mem_append_left _ h
  · exact List.mem_append_right _ (List.mem_singleton.mpr h)
theorem hx_of {x : Nat} (h : x ∈ (hWd cI cF cL b u0 φ η τ q f).map (fun q => q.1)) : hAd b q x := by
  unfold hWd at h
  rw [List.map_append] at h
  rcases List.mem_append.mp h with h | h
  · exact Or.inl h
  · exact Or.inr (List.mem_singleton.mp h)
theorem lx_pH (hP : va_P D vwCl (lW cI cF cL b q u0 φ η τ f a ψ hv) H) : va_P D vwCl (hWd cI cF cL b u0 φ η τ q f) H := hP.sub (List.range 72) rfl
theorem lx_dH {A : Nat → Prop} (hD : va_D A (lW cI cF cL b q u0 φ η τ f a ψ hv)) : va_D A (hWd cI cF cL b u0 φ η τ q f) := hD.sub (List.range 72) (by decide) rfl
theorem lx_pM (hP : va_P D vwCl (lW cI cF cL b q u0 φ η τ f a ψ hv) H) : va_P D vwCl (mbW cI a ψ hv) H := hP.sub (List.range' 72 18) rfl
theorem lx_dM {A : Nat → Prop} (hD : va_D A (lW cI cF cL b q u0 φ η τ f a ψ hv)) : va_D A (mbW cI a ψ hv) := hD.sub (List.range' 72 18) (by decide) rfl
theorem lx_Ty (hK : va_K D vwCl (hTy cI cF cL) s) : va_K D vwCl [(cI, .int)] s := hK.sub [0] rfl
set_option maxRecDepth 100000 in
theorem lx_setH (hP : va_P D vwCl (lW cI cF cL b q u0 φ η τ f a ψ hv) H) (hD : va_D A0 (lW cI cF cL b q u0 φ η τ f a ψ hv)) (hS : va_S A0 H0 H locs) (hAq : ∀ q, H0.size ≤ q → A0 q) (hk : ∀ x : Nat, x < H.size → ¬ hAd b q x → H1[x]? = H[x]?) (hs : ∀ x, xA u x → xA b x) (hP1 : va_P D vwCl (hWd cI cF cL u u0r φr ηr τr q f1) H1) (hD1 : va_D (fun _ => True) (hWd cI cF cL u u0r φr ηr τr q f1)) : va_P D vwCl (lW cI cF cL u q u0r φr ηr τr f1 a ψ hv) H1 ∧ va_D A0 (lW cI cF cL u q u0r φr ηr τr f1 a ψ hv) := by
  obtain ⟨h1, h2⟩ := va_join (wc := hWd cI cF cL b u0 φ η τ q f) (wr := mbW cI a ψ hv) (w1 := hWd cI cF cL u u0r φr ηr τr q f1) hP hD (List.range 72) (List.range' 72 18) rfl rfl (by decide) (by decide) (fun x hx h => hk x hx (fun z => h (fm_inA (hx_in z)))) (va_free hD hS hAq (List.range 72) rfl) hP1
    (fm_DA hD1 (fun x hx => fm_inA (hx_in ((hx_of hx).elim (fun z => Or.inl (hs x z)) Or.inr))))
  exact ⟨h1.sub (List.range' 18 72 ++ List.range 18) rfl, h2.sub (List.range' 18 72 ++ List.range 18) (by decide) rfl⟩
set_option maxRecDepth 100000 in
theorem lx_setM (hP : va_P D vwCl (lW cI cF cL b q u0 φ η τ f a ψ hv) H) (hD : va_D A0 (lW cI cF cL b q u0 φ η τ f a ψ hv)) (hS : va_S A0 H0 H locs) (hAq : ∀ q, H0.size ≤ q → A0 q) (hk : ∀ x : Nat, x < H.size → ¬ mbA a x → H1[x]? = H[x]?) (hP1 : va_P D vwCl (mbW cI a ψr hvr) H1) : va_P D vwCl (lW cI cF cL b q u0 φ η τ f a ψr hvr) H1 ∧ va_D A0 (lW cI cF cL b q u0 φ η τ f a ψr hvr) := by
  have hd : va_D A0 (mbW cI a ψr hvr) := fm_D (ws := mbW cI a ψ hv) rfl (lx_dM hD)
  exact va_join (wc := mbW cI a ψ hv) (wr := hWd cI cF cL b u0 φ η τ q f) (w1 := mbW cI a ψr hvr) hP hD (List.range' 72 18) (List.range 72) rfl rfl (by decide) (by decide) (fun x hx h => hk x hx (fun z => h (fm_inA z))) (va_free hD hS hAq (List.range' 72 18) rfl) hP1 (fm_DA hd (fun x hx => fm_inA hx))
/-- what stands at every point of the law's loop -/
def lxS (D : va_G) (A0 : Nat → Prop) (H0 : Heap) (cI cF cL : ClassId) (b : Bf) (q : Nat) (u0 φ : M2) (η : HT) (τ : M2) (f : Nat → Int64) (a : Nat → Nat) (ψ : M2) (hv : Int64) (H : Heap) (locs : List Loc) : Prop :=
  va_P D vwCl (lW cI cF cL b q u0 φ η τ f a ψ hv) H ∧ va_D A0 (lW cI cF cL b q u0 φ η τ f a ψ hv) ∧ va_S A0 H0 H locs
theorem gSW {own : String} {idx n : Nat} {y : MethodName} {bytes : ByteArray} {ret : Option FieldType} {hh : List (Nat × Nat × Nat × Nat)} (h1 : Cond.methodLink own idx y ∈ AW) (h2 : Cond.static y ∈ AW) (h3 : Cond.initialized y.cls ∈ AW) (h4 : Cond.codeWith y bytes n ret hh ∈ AW) : GoodIn AW (va_wsS own idx y (wsH y bytes n ret hh)) := by
  intro w hw
  have hm : w ∈ AW := by
    unfold va_wsS at hw
    rcases List.mem_append.mp hw with hw | hw
    · simp only [List.mem_cons, List.not_mem_nil, or_false] at hw
      rcases hw with rfl | rfl | rfl
      · exact h1
      · exact h2
      · exact h3
    · rcases List.mem_cons.mp hw with rfl | hw
      · exact h4
      · exact hw
  exact ⟨hm, good_of_word (AW_good w hm)⟩
/-- the words that stand through the whole law -/
def lxC (D : va_G) (A0 : Nat → Prop) (cI cF cL : ClassId) (s : State) : Prop := va_K D vwCl (hTy cI cF cL) s ∧ xT s ∧ xZ A0 s s.heap ∧ xNc s ∧ ∀ q, s.heap.size ≤ q → A0 q
theorem lx_help {hh : List (Nat × Nat × Nat × Nat)} {k0 : Nat} {r0 r1 : Int32} (S : CallFix p m c cc nL s args AW RL)
    (hM : Met l y (wsH y bytes maxL ret hh) rm (va_Pc As (hPd D cI cF cL b u0 φ η τ q f)) (va_Qi (fun (r : Int32) (z : Bf × (Nat → Int64)) => r = r1 ∧ xSame b z.1 ∧ (k0 = 0 → z.2 0 = r0.toInt64)) (fun z t => va_P D vwCl (hWd cI cF cL z.1 u0r φr ηr τr q z.2) t.heap ∧ va_D (fun _ => True) (hWd cI cF cL z.1 u0r φr ηr τr q z.2)) (hAd b q)) mc ms (hAd b q))
    (h1 : Cond.methodLink RL idx y ∈ AW) (h2 : Cond.static y ∈ AW) (h3 : Cond.initialized y.cls ∈ AW) (h4 : Cond.codeWith y bytes maxL ret hh ∈ AW) (hrc : rm.cells = mc) (hrs : rm.slots = ms)
    (hd : y.cls ≠ "java/lang/invoke/MethodHandle" ∧ y.cls ≠ "java/lang/invoke/VarHandle" ∧ (parseMethodDescriptor y.desc).map (fun d => d.parameters.length) = some n) (hn : As.length = n)
    (hR : rm.frames + 1 ≤ R.frames ∧ 8 + (maxL + 11) + rm.locals ≤ R.locals) (hc : cells + mc ≤ R.cells ∧ slots + ms ≤ R.slots)
    (hL : lxS D A0 s.heap cI cF cL b q u0 φ η τ f a ψ hv H locs) (hC : lxC D A0 cI cF cL s)
    (hsz : ls.size = nL) (hW : (rest.map fun v => v.category).sum ≤ 8) (hdg : decode cc pc = .ok (.invokestatic idx, 3))
    (kk : ∀ (u : Bf) (f1 : Nat → Int64) (H1 : Heap) (locs1 : List Loc), xSame b u → (k0 = 0 → f1 0 = r0.toInt64) → lxS D A0 s.heap cI cF cL u q u0r φr ηr τr f1 a ψ hv H1 locs1 → W p l e R s m args below meth c H1 locs1 (cells + mc) (slots + ms) Q (F0 m (pc + 3) ls (.int r1 :: rest))) : W p l e R s m args below meth c H locs cells slots Q (F0 m pc ls (As.reverse ++ rest)) := by
  obtain ⟨hP, hD, hS⟩ := hL
  obtain ⟨hK, hT, hZ0, hNc, hAq⟩ := hC
  have hin : ∀ x, hAd b q x → A0 x := fun x hx => fm_aA (lx_dH hD) x (hx_in hx)
  have hZ : xZ (hAd b q) s H := (hZ0.kept (fun z hz hn => hS.2.1 z hz hn)).narrow hin
  exact va_calli (vx_runSW (As := As) (rest := rest) S hM (vx_cwSW n S.2.2.2.2 (gSW h1 h2 h3 h4) rfl hrc hrs hd hR) ⟨fun aa U g mk w => ⟨w.1, w.2.1, va_K.moved (u := U) (U := U.calling g mk aa) (Vm.Alike.refl U.vm) w.2.2.1, w.2.2.2.1, w.2.2.2.2.1.same rfl, xZ.moved (Vm.Alike.refl U.vm) w.2.2.2.2.2.1, xNc.moved (Vm.Alike.refl U.vm) w.2.2.2.2.2.2⟩,
      fun U hU hW => ⟨rfl, by rw [hU]; exact lx_pH hP, va_K.moved hW.alike hK, (lx_dH hD).weaken (fun _ _ _ _ => trivial), hT.warm hW, by rw [hU]; exact xZ.moved hW.alike hZ, xNc.moved hW.alike hNc⟩⟩ rfl hn hsz rfl (lv_room hW) hdg hc) hS (fun x _ h => hin x h) hin
    (fun r z t H1 locs1 ht _ hp hB _ hk hS1 => by
      obtain ⟨rfl, hsm, hf⟩ := hp
      obtain ⟨hP1, hD1⟩ := hB
      rw [ht] at hP1
      obtain ⟨hP2, hD2⟩ := lx_setH hP hD hS hAq hk hsm.2.2.2.2 hP1 hD1
      exact kk z.1 z.2 H1 locs1 hsm hf ⟨hP2, hD2, hS1⟩)
theorem lx_mod {post : Int32 → Prop} (S : CallFix p m c cc nL s args AW own) (hM : Met l y (wsA y bytes maxL ret) rm (va_Pc (.ref (a 0) :: As) (mbP D cI a ψ hv)) (va_Qi (fun (r : Int32) (_ : Unit) => post r) (fun _ t => va_P D vwCl (mbW cI a ψr hvr) t.heap) (mbA a)) 0 0 (mbA a))
    (h1 : Cond.methodLink own idx y ∈ AW) (h2 : Cond.instanceMethod y ∈ AW) (h3 : Cond.selects RX9 y y ∈ AW) (h5 : Cond.code y bytes maxL ret ∈ AW) (hrc : rm.cells = 0) (hrs : rm.slots = 0)
    (hd : y.cls = RX9 ∧ y.cls ≠ "java/lang/invoke/MethodHandle" ∧ y.cls ≠ "java/lang/invoke/VarHandle" ∧ (parseMethodDescriptor y.desc).map (fun d => d.parameters.length) = some n) (hn : As.length = n)
    (hR : rm.frames + 1 ≤ R.frames ∧ 8 + (maxL + 11) + rm.locals ≤ R.locals) (hc : cells ≤ R.cells ∧ slots ≤ R.slots)
    (hL : lxS D A0 s.heap cI cF cL b q u0 φ η τ f a ψ hv H locs) (hC : lxC D A0 cI cF cL s)
    (hsz : ls.size = nL) (hW : (rest.map fun v => v.category).sum ≤ 8) (hdg : decode cc pc = .ok (.invokevirtual idx, 3))
    (kk : ∀ (r : Int32) (H1 : Heap) (locs1 : List Loc), post r → lxS D A0 s.heap cI cF cL b q u0 φ η τ f a ψr hvr H1 locs1 → W p l e R s m args below meth c H1 locs1 cells slots Q (F0 m (pc + 3) ls (.int r :: rest))) : W p l e R s m args below meth c H locs cells slots Q (F0 m pc ls (As.reverse ++ .ref (a 0) :: rest)) := by
  obtain ⟨hP, hD, hS⟩ := hL
  obtain ⟨hK, hT, hZ0, hNc, hAq⟩ := hC
  exact fx_runVi (n := n) (C := RX9) (As := As) S hM (M_pre (q0 := 0) (ci := 7) (lx_Ty hK) (lx_pM hP) ((lx_dM hD).weaken (fun _ _ _ _ => trivial)) rfl rfl) hS (fun x hx => fm_aA (lx_dM hD) x hx) h1 h2 h3 aN_RX9 h5 hrc hrs hd hn hR hc hsz hW hdg
    (fun r _ t H1 locs1 ht hp hB hk _ hS1 => by
      rw [ht] at hB
      obtain ⟨hP2, hD2⟩ := lx_setM hP hD hS hAq hk hB
      exact kk r H1 locs1 hp ⟨hP2, hD2, hS1⟩)
theorem lx_x {post : Int32 → Bf → Prop} {k0 : Nat} {r0 : Int32} (S : CallFix p m c cc nL s args AW own)
    (hM : vx_Met l y (wsA y bytes maxL ret) rm (va_Pc (.ref (b 6 0) :: As) (xP D cI cF b u0 φ η τ)) (va_Qi post (fun u t => va_P D vwCl (xW cI cF u u0r φr ηr τr) t.heap ∧ va_D (fun _ => True) (xW cI cF u u0r φr ηr τr)) (xA b)) (vx_X (fun (u : Bf) => xSame b u) (fun E u t => ¬ k0 = 0 ∧ E = eOf k0 ∧ va_P D vwCl (xW cI cF u u0r φr ηr τr) t.heap ∧ va_D (fun _ => True) (xW cI cF u u0r φr ηr τr)) (xA b)) mc ms (xA b))
    (hpost : ∀ r u, post r u → r = r0 ∧ xSame b u) (h00 : k0 = 0)
    (h1 : Cond.methodLink own idx y ∈ AW) (h2 : Cond.instanceMethod y ∈ AW) (h3 : Cond.selects RX8 y y ∈ AW) (h5 : Cond.code y bytes maxL ret ∈ AW) (hrc : rm.cells = mc) (hrs : rm.slots = ms)
    (hd : y.cls = RX8 ∧ y.cls ≠ "java/lang/invoke/MethodHandle" ∧ y.cls ≠ "java/lang/invoke/VarHandle" ∧ (parseMethodDescriptor y.desc).map (fun d => d.parameters.length) = some n) (hn : As.length = n)
    (hR : rm.frames + 1 ≤ R.frames ∧ 8 + (maxL + 11) + rm.locals ≤ R.locals) (hc : cells + mc ≤ R.cells ∧ slots + ms ≤ R.slots)
    (hL : lxS D A0 s.heap cI cF cL b q u0 φ η τ f a ψ hv H locs) (hC : lxC D A0 cI cF cL s)
    (hsz : ls.size = nL) (hW : (rest.map fun v => v.category).sum ≤ 8) (hdg : decode cc pc = .ok (.invokevirtual idx, 3))
    (kk : ∀ (u : Bf) (H1 : Heap) (locs1 : List Loc), xSame b u → lxS D A0 s.heap cI cF cL u q u0r φr ηr τr f a ψ hv H1 locs1 → W p l e R s m args below meth c H1 locs1 (cells + mc) (slots + ms) Q (F0 m (pc + 3) ls (.int r0 :: rest))) : W p l e R s m args below meth c H locs cells slots Q (F0 m pc ls (As.reverse ++ .ref (b 6 0) :: rest)) := by
  obtain ⟨hP, hD, hS⟩ := hL
  obtain ⟨hK, hT, hZ0, hNc, hAq⟩ := hC
  have hin : ∀ x, hAd b q x → A0 x := fun x hx => fm_aA (lx_dH hD) x (hx_in hx)
  have hZ : xZ (hAd b q) s H := (hZ0.kept (fun z hz hn => hS.2.1 z hz hn)).narrow hin
  have hPh := lx_pH hP
  have hDh : va_D (fun _ => True) (hWd cI cF cL b u0 φ η τ q f) := (lx_dH hD).weaken (fun _ _ _ _ => trivial)
  have hno := hx_no hDh
  have hqc : H[q]? = some (vp_cell cL (1, .inr (.inl f))) := hPh 71 _ rfl
  have hql : q < H.size := (Array.getElem?_eq_some_iff.mp hqc).1
  exact vx_calli (vx_runV (As := As) (rest := rest) S hM (cwV n S.2.2.2.2 (gV h1 h2 h3 aN_RX8 h5) rfl hrc hrs hd hR) (xP_pre (hK.sub [0, 1] rfl) (hx_p hPh) (hx_d hDh) hT (hZ.narrow (fun _ h => Or.inl h))) rfl hn hsz rfl (lv_room hW) hdg hc) hS (fun x _ h => hin x (Or.inl h)) (fun x h => hin x (Or.inl h)) (fun x _ h => hin x (Or.inl h))
    (fun E ce q9 u t H1 locs1 ht _ hsm hE hz hk hS1 h9 hv hcl => absurd h00 hE.1)
    (fun r u t H1 locs1 ht _ hg hB hz hk hS1 => by
      obtain ⟨rfl, hsm⟩ := hpost r u hg
      obtain ⟨hB, hDu⟩ := hB
      rw [ht] at hB
      obtain ⟨hP2, hD2⟩ := lx_setH hP hD hS hAq (fun x hx hn => hk x hx (fun z => hn (Or.inl z))) hsm.2.2.2.2 (hx_P hB ((hk q hql hno).trans hqc)) (hx_D hDu (fun z => hno (hsm.2.2.2.2 q z)))
      exact kk u H1 locs1 hsm ⟨hP2, hD2, hS1⟩)
theorem lx_xl {post : Int64 → Bf → Prop} {k0 : Nat} {r0 : Int64} (S : CallFix p m c cc nL s args AW own)
    (hM : vx_Met l y (wsA y bytes maxL ret) rm (va_Pc (.ref (b 6 0) :: As) (xP D cI cF b u0 φ η τ)) (va_Ql post (fun u t => va_P D vwCl (xW cI cF u u0r φr ηr τr) t.heap ∧ va_D (fun _ => True) (xW cI cF u u0r φr ηr τr)) (xA b)) (vx_X (fun (u : Bf) => xSame b u) (fun E u t => ¬ k0 = 0 ∧ E = eOf k0 ∧ va_P D vwCl (xW cI cF u u0r φr ηr τr) t.heap ∧ va_D (fun _ => True) (xW cI cF u u0r φr ηr τr)) (xA b)) mc ms (xA b))
    (hpost : ∀ r u, post r u → r = r0 ∧ xSame b u) (h00 : k0 = 0)
    (h1 : Cond.methodLink own idx y ∈ AW) (h2 : Cond.instanceMethod y ∈ AW) (h3 : Cond.selects RX8 y y ∈ AW) (h5 : Cond.code y bytes maxL ret ∈ AW) (hrc : rm.cells = mc) (hrs : rm.slots = ms)
    (hd : y.cls = RX8 ∧ y.cls ≠ "java/lang/invoke/MethodHandle" ∧ y.cls ≠ "java/lang/invoke/VarHandle" ∧ (parseMethodDescriptor y.desc).map (fun d => d.parameters.length) = some n) (hn : As.length = n)
    (hR : rm.frames + 1 ≤ R.frames ∧ 8 + (maxL + 11) + rm.locals ≤ R.locals) (hc : cells + mc ≤ R.cells ∧ slots + ms ≤ R.slots)
    (hL : lxS D A0 s.heap cI cF cL b q u0 φ η τ f a ψ hv H locs) (hC : lxC D A0 cI cF cL s)
    (hsz : ls.size = nL) (hW : (rest.map fun v => v.category).sum ≤ 8) (hdg : decode cc pc = .ok (.invokevirtual idx, 3))
    (kk : ∀ (u : Bf) (H1 : Heap) (locs1 : List Loc), xSame b u → lxS D A0 s.heap cI cF cL u q u0r φr ηr τr f a ψ hv H1 locs1 → W p l e R s m args below meth c H1 locs1 (cells + mc) (slots + ms) Q (F0 m (pc + 3) ls (.long r0 :: rest))) : W p l e R s m args below meth c H locs cells slots Q (F0 m pc ls (As.reverse ++ .ref (b 6 0) :: rest)) := by
  obtain ⟨hP, hD, hS⟩ := hL
  obtain ⟨hK, hT, hZ0, hNc, hAq⟩ := hC
  have hin : ∀ x, hAd b q x → A0 x := fun x hx => fm_aA (lx_dH hD) x (hx_in hx)
  have hZ : xZ (hAd b q) s H := (hZ0.kept (fun z hz hn => hS.2.1 z hz hn)).narrow hin
  have hPh := lx_pH hP
  have hDh : va_D (fun _ => True) (hWd cI cF cL b u0 φ η τ q f) := (lx_dH hD).weaken (fun _ _ _ _ => trivial)
  have hno := hx_no hDh
  have hqc : H[q]? = some (vp_cell cL (1, .inr (.inl f))) := hPh 71 _ rfl
  have hql : q < H.size := (Array.getElem?_eq_some_iff.mp hqc).1
  exact vx_calll (vx_runV (As := As) (rest := rest) S hM (cwV n S.2.2.2.2 (gV h1 h2 h3 aN_RX8 h5) rfl hrc hrs hd hR) (xP_pre (hK.sub [0, 1] rfl) (hx_p hPh) (hx_d hDh) hT (hZ.narrow (fun _ h => Or.inl h))) rfl hn hsz rfl (lv_room hW) hdg hc) hS (fun x _ h => hin x (Or.inl h)) (fun x h => hin x (Or.inl h)) (fun x _ h => hin x (Or.inl h))
    (fun E ce q9 u t H1 locs1 ht _ hsm hE hz hk hS1 h9 hv hcl => absurd h00 hE.1)
    (fun r u t H1 locs1 ht _ hg hB hz hk hS1 => by
      obtain ⟨rfl, hsm⟩ := hpost r u hg
      obtain ⟨hB, hDu⟩ := hB
      rw [ht] at hB
      obtain ⟨hP2, hD2⟩ := lx_setH hP hD hS hAq (fun x hx hn => hk x hx (fun z => hn (Or.inl z))) hsm.2.2.2.2 (hx_P hB ((hk q hql hno).trans hqc)) (hx_D hDu (fun z => hno (hsm.2.2.2.2 q z)))
      exact kk u H1 locs1 hsm ⟨hP2, hD2, hS1⟩)
theorem lx_modl {post : Int64 → Prop} (S : CallFix p m c cc nL s args AW own) (hM : Met l y (wsA y bytes maxL ret) rm (va_Pc (.ref (a 0) :: As) (mbP D cI a ψ hv)) (va_Ql (fun (r : Int64) (_ : Unit) => post r) (fun _ t => va_P D vwCl (mbW cI a ψr hvr) t.heap) (mbA a)) 0 0 (mbA a))
    (h1 : Cond.methodLink own idx y ∈ AW) (h2 : Cond.instanceMethod y ∈ AW) (h3 : Cond.selects RX9 y y ∈ AW) (h5 : Cond.code y bytes maxL ret ∈ AW) (hrc : rm.cells = 0) (hrs : rm.slots = 0)
    (hd : y.cls = RX9 ∧ y.cls ≠ "java/lang/invoke/MethodHandle" ∧ y.cls ≠ "java/lang/invoke/VarHandle" ∧ (parseMethodDescriptor y.desc).map (fun d => d.parameters.length) = some n) (hn : As.length = n)
    (hR : rm.frames + 1 ≤ R.frames ∧ 8 + (maxL + 11) + rm.locals ≤ R.locals) (hc : cells ≤ R.cells ∧ slots ≤ R.slots)
    (hL : lxS D A0 s.heap cI cF cL b q u0 φ η τ f a ψ hv H locs) (hC : lxC D A0 cI cF cL s)
    (hsz : ls.size = nL) (hW : (rest.map fun v => v.category).sum ≤ 8) (hdg : decode cc pc = .ok (.invokevirtual idx, 3))
    (kk : ∀ (r : Int64) (H1 : Heap) (locs1 : List Loc), post r → lxS D A0 s.heap cI cF cL b q u0 φ η τ f a ψr hvr H1 locs1 → W p l e R s m args below meth c H1 locs1 cells slots Q (F0 m (pc + 3) ls (.long r :: rest))) : W p l e R s m args below meth c H locs cells slots Q (F0 m pc ls (As.reverse ++ .ref (a 0) :: rest)) := by
  obtain ⟨hP, hD, hS⟩ := hL
  obtain ⟨hK, hT, hZ0, hNc, hAq⟩ := hC
  exact va_calll (va_runV (As := As) (rest := rest) S hM (cwV n S.2.2.2.2 (gV h1 h2 h3 aN_RX9 h5) rfl hrc hrs hd hR) (M_pre (q0 := 0) (ci := 7) (lx_Ty hK) (lx_pM hP) ((lx_dM hD).weaken (fun _ _ _ _ => trivial)) rfl rfl) rfl hn hsz rfl (lv_room hW) hdg ⟨hc.1, hc.2⟩) hS (fun x _ hx => fm_aA (lx_dM hD) x hx) (fun x hx => fm_aA (lx_dM hD) x hx)
    (fun r _ t H1 locs1 ht _ hp hB _ hk hS1 => by
      rw [ht] at hB
      obtain ⟨hP2, hD2⟩ := lx_setM hP hD hS hAq hk hB
      exact kk r H1 locs1 hp ⟨hP2, hD2, hS1⟩)
theorem lx_thr (S : CallFix p m c cc nL s args AW own) (h1 : Cond.methodLink own idx yX9_thrown ∈ AW) (hR : 1 ≤ R.frames ∧ 20 ≤ R.locals) (hc : cells ≤ R.cells ∧ slots ≤ R.slots) (hL : lxS D A0 s.heap cI cF cL b q u0 φ η τ f a ψ hv H locs) (hC : lxC D A0 cI cF cL s) (hsz : ls.size = nL) (hW : (rest.map fun v => v.category).sum ≤ 8) (hdg : decode cc pc = .ok (.invokevirtual idx, 3))
    (kk : W p l e R s m args below meth c H locs cells slots Q (F0 m (pc + 3) ls (.int (ψ 0 5) :: rest))) : W p l e R s m args below meth c H locs cells slots Q (F0 m pc ls (.ref (a 0) :: rest)) :=
  k_X9_thrown S h1 hR hc (lx_pM hL.1) (lx_Ty hC.1) (fun _ _ => fm_D (ws := mbW cI a ψ hv) rfl ((lx_dM hL.2.1).weaken (fun _ _ _ _ => trivial))) hsz hW hdg (fun r hr => by rw [hr]; exact kk)
theorem lx_out (hx : p.tables.exec = Jvm.exec) (hb : c.code = cc) (hL : lxS D A0 s.heap cI cF cL b q u0 φ η τ f a ψ hv H locs) (hC : lxC D A0 cI cF cL s) (hdg : decode cc pc = .ok (.laload, 1)) (kk : W p l e R s m args below meth c H locs cells slots Q (F0 m (pc + 1) ls (.long (f 0) :: rest))) : W p l e R s m args below meth c H locs cells slots Q (F0 m pc ls (.int 0 :: .ref q :: rest)) :=
  va_lald hx hb hC.1 hL.1 71 2 rfl rfl (by unfold vp_in; decide) hdg kk
theorem lx_sc (hx : p.tables.exec = Jvm.exec) (hb : c.code = cc) {sb L : Nat} {xs : Nat → Int32} (hX : va_X sb L xs s s.heap) (hbl : sb < s.heap.size) (hbA : ¬ A0 sb) (hL : lxS D A0 s.heap cI cF cL b q u0 φ η τ f a ψ hv H locs) {i : Int32} (hin : vp_in i L) (hdg : decode cc pc = .ok (.iaload, 1)) (kk : W p l e R s m args below meth c H locs cells slots Q (F0 m (pc + 1) ls (.int (xs i.toNatClampNeg) :: rest))) : W p l e R s m args below meth c H locs cells slots Q (F0 m pc ls (.int i :: .ref sb :: rest)) :=
  va_sld hx hb hX hbl hbA hL.2.2 hin hdg kk
end LX
