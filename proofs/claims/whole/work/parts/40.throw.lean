/-! throws: what must stand for one, and the two checks that throw -/
def eIA : String := "java/lang/IllegalArgumentException"
def eIS : String := "java/lang/IllegalStateException"
def eIO : String := "java/lang/IndexOutOfBoundsException"
def eD (X : String) : MethodName := ⟨X, "<init>", "(Ljava/lang/String;)V"⟩
abbrev eDs : List Cond := [.declares (eD "java/lang/RuntimeException"), .declares (eD "java/lang/Exception"), .declares (eD "java/lang/Throwable")]
abbrev eNames : List String := ["java/lang/RuntimeException", "java/lang/Exception"]
theorem bw_IA : ∀ w ∈ (vx_atS RX8 244 eIA eNames).filter (fun w => !goodWord w), w ∈ Cond.castable eIA eIA :: eDs := by decide +kernel
theorem bw_IO : ∀ w ∈ (vx_atS RX8 249 eIO eNames).filter (fun w => !goodWord w), w ∈ Cond.castable eIO eIO :: eDs := by decide +kernel
theorem bw_IS : ∀ w ∈ (vx_atS RX8 197 eIS eNames).filter (fun w => !goodWord w), w ∈ Cond.castable eIS eIS :: eDs := by decide +kernel
/-- the tables' part: the exceptions' own words, the texts -/
def xT (U : State) : Prop := va_Nw (.castable eIA eIA) U ∧ va_Nw (.castable eIO eIO) U ∧ va_Nw (.castable eIS eIS) U ∧ (va_Nw (.declares (eD "java/lang/RuntimeException")) U ∧ va_Nw (.declares (eD "java/lang/Exception")) U ∧ va_Nw (.declares (eD "java/lang/Throwable")) U) ∧ (∃ a, vk_R RX8 242 "an argument is out of range" a U) ∧ (∃ a, vk_R RX8 247 "there is no such position" a U) ∧ (∃ a, vk_R RX8 235 "not possible in this state" a U) ∧ (∃ a, vk_R RX8 195 "the text is full" a U) ∧ (∃ a, vk_R RX8 219 "no state is saved" a U)
/-- the heap's part: two statics of Throwable, in no cell of A -/
def xZ (A : Nat → Prop) (U : State) (H : Heap) : Prop := vx_Zq Bundle.tN "UNASSIGNED_STACK" Bundle.steD A U H ∧ vx_Zq Bundle.tN "SUPPRESSED_SENTINEL" Bundle.listD A U H
def xE (A : Nat → Prop) (U : State) : Prop := xT U ∧ xZ A U U.heap
theorem eDs_ok {args : Array Value} {U : State} (hT : xT U) : ∀ w ∈ eDs, w.before args U = true := vx_c (va_Nw.use rfl hT.2.2.2.1.1) (vx_c (va_Nw.use rfl hT.2.2.2.1.2.1) (vx_c (va_Nw.use rfl hT.2.2.2.1.2.2) vx_n))
theorem xT.same {u U : State} (h : u.vm = U.vm) (hT : xT u) : xT U := by
  obtain ⟨h1, h2, h3, ⟨d1, d2, d3⟩, ⟨a1, r1⟩, ⟨a2, r2⟩, ⟨a3, r3⟩, ⟨a4, r4⟩, ⟨a5, r5⟩⟩ := hT
  exact ⟨h1.same rfl h, h2.same rfl h, h3.same rfl h, ⟨d1.same rfl h, d2.same rfl h, d3.same rfl h⟩, ⟨a1, r1.same h.symm⟩, ⟨a2, r2.same h.symm⟩, ⟨a3, r3.same h.symm⟩, ⟨a4, r4.same h.symm⟩, ⟨a5, r5.same h.symm⟩⟩
theorem xT.warm {s U : State} (hW : s.WarmedH U.vm) (hT : xT s) : xT U := by
  obtain ⟨h1, h2, h3, ⟨d1, d2, d3⟩, ⟨a1, r1⟩, ⟨a2, r2⟩, ⟨a3, r3⟩, ⟨a4, r4⟩, ⟨a5, r5⟩⟩ := hT
  exact ⟨h1.warmC hW, h2.warmC hW, h3.warmC hW, ⟨d1.warmD hW, d2.warmD hW, d3.warmD hW⟩, ⟨a1, r1.warm hW⟩, ⟨a2, r2.warm hW⟩, ⟨a3, r3.warm hW⟩, ⟨a4, r4.warm hW⟩, ⟨a5, r5.warm hW⟩⟩
theorem xZ.moved {A : Nat → Prop} {u U : State} {H : Heap} (hvm : u.vm.Alike U.vm) (h : xZ A u H) : xZ A U H := ⟨vx_Zq.moved hvm h.1, vx_Zq.moved hvm h.2⟩
theorem xZ.kept {A : Nat → Prop} {U : State} {H H1 : Heap} (h : xZ A U H) (hq : ∀ a : Nat, a < H.size → ¬ A a → H1[a]? = H[a]?) : xZ A U H1 := ⟨vx_Zq.kept h.1 hq, vx_Zq.kept h.2 hq⟩
theorem xZ.narrow {A B : Nat → Prop} {U : State} {H : Heap} (h : xZ A U H) (hAB : ∀ q, B q → A q) : xZ B U H := ⟨vx_Zq.narrow h.1 hAB, vx_Zq.narrow h.2 hAB⟩
theorem xE.call {A : Nat → Prop} {U : State} {g : JFrame} {mk : MethodId} {a : Array Value} (h : xE A U) : xE A (U.calling g mk a) := ⟨h.1.same rfl, xZ.moved (Vm.Alike.refl U.vm) h.2⟩
theorem xE.at {A : Nat → Prop} {s U : State} {H : Heap} (hT : xT s) (hZ : xZ A s H) (hU : U.heap = H) (hW : s.WarmedH U.vm) : xE A U := ⟨hT.warm hW, by rw [hU]; exact xZ.moved hW.alike hZ⟩
/-- the room of a throw -/
abbrev xRm : Room := { frames := 6, cells := 1, slots := 6, locals := 82 }
set_option maxHeartbeats 4000000 in
set_option maxRecDepth 100000 in
theorem c_X8_checkArgument (l : Launch) (hl0 : l.stackTraces = false) (A : Nat → Prop) (p0 : Int32) : vx_Met l yX8_checkArgument (wsA yX8_checkArgument cX8_checkArgument 1 none) xRm (va_Pc [.int p0] (xE A)) (va_Qv (fun (_ : Unit) => ¬ p0 = 0) (fun _ _ => True) (fun _ => False)) (vx_X (fun (_ : Unit) => p0 = 0) (fun E _ _ => E = eIA) (fun _ => False)) 1 6 (fun _ => False) := by
  refine vx_ofW (cc := cX8_checkArgument) (maxL := 1) (ret := none) (by decide) rfl ?_
  intro p e s m args below meth c s₁ B hml htab hpre
  obtain ⟨rfl, hT, hZ⟩ := hpre
  have hx := B.exec
  have hb := B.bytes
  have hr := B.returns
  have hA : ∀ w ∈ AW, w.before _ s = true := fun w h => atoms_spec (ws := wsA yX8_checkArgument cX8_checkArgument 1 none) B.pre w (List.mem_cons_of_mem _ h)
  have hown : s.vm.findClass RX8 = some m.cls := findClass_of_methodNamed B.named
  have hlocks := B.notSynchronized
  have hl := lv_entry ([.int p0]) (n := 1) (Nat.le_of_ble_eq_true rfl)
  rw [lg_entry_eq]
  generalize (lg_sl ([.int p0]) ++ List.replicate (1 - (lg_sl ([.int p0])).length) Slot.unset).toArray = ls at hl ⊢
  have hl : lv_has ls 1 [(0, .int p0)] := hl
  have hS : va_S (fun _ => False) s.heap s.heap [] := va_S.rf
  refine lv_iload_n hx hb dX8_checkArgument_0 rfl (lv_at hl 0 rfl) ?_
  refine lv_if_ne (tgt := 14) hx hb dX8_checkArgument_1 (by decide) (fun hc => ?_) (fun hc => ?_)
  · refine vx_ret ?_
    refine W.widen (k := 1) (n := 6) (by decide) (by decide) ?_
    exact W.vret hx hb hr (fun t ht hW => ⟨⟨(), rfl, hc, trivial⟩, hS.F ht⟩) hS.2.2 dX8_checkArgument_14
  · obtain ⟨sa, hsa⟩ := hT.2.2.2.2.1
    exact vx_throwS (names := eNames) hx hb hl0 hown (by decide) (by decide) (hA _ aL_RX8_240) (hA _ aN_J_IllegalArgumentException) hsa
      (vx_hat (fun w h => hA w (in_akx0 w h)) bw_IA (vx_c (va_Nw.use rfl hT.1) (eDs_ok hT)))
      (by decide +kernel) (vx_Zq.narrow hZ.1 (fun _ h => h.elim)) (vx_Zq.narrow hZ.2 (fun _ h => h.elim)) hS (hl.1.trans hml.symm) dX8_checkArgument_4 dX8_checkArgument_7 dX8_checkArgument_8 dX8_checkArgument_10 dX8_checkArgument_13
      (fun x hx => (htab x hx).elim) (by decide) (by decide) (by decide) (by decide) hlocks (fun t _ h1 h2 => ⟨(), hc, rfl, h1, fun q h3 _ => h2 q h3⟩) hS.2.2 (by decide) (by decide)
set_option maxHeartbeats 4000000 in
set_option maxRecDepth 100000 in
theorem c_X8_checkPosition (l : Launch) (hl0 : l.stackTraces = false) (A : Nat → Prop) (p0 : Int32) : vx_Met l yX8_checkPosition (wsA yX8_checkPosition cX8_checkPosition 1 none) xRm (va_Pc [.int p0] (xE A)) (va_Qv (fun (_ : Unit) => ¬ p0 = 0) (fun _ _ => True) (fun _ => False)) (vx_X (fun (_ : Unit) => p0 = 0) (fun E _ _ => E = eIO) (fun _ => False)) 1 6 (fun _ => False) := by
  refine vx_ofW (cc := cX8_checkPosition) (maxL := 1) (ret := none) (by decide) rfl ?_
  intro p e s m args below meth c s₁ B hml htab hpre
  obtain ⟨rfl, hT, hZ⟩ := hpre
  have hx := B.exec
  have hb := B.bytes
  have hr := B.returns
  have hA : ∀ w ∈ AW, w.before _ s = true := fun w h => atoms_spec (ws := wsA yX8_checkPosition cX8_checkPosition 1 none) B.pre w (List.mem_cons_of_mem _ h)
  have hown : s.vm.findClass RX8 = some m.cls := findClass_of_methodNamed B.named
  have hlocks := B.notSynchronized
  have hl := lv_entry ([.int p0]) (n := 1) (Nat.le_of_ble_eq_true rfl)
  rw [lg_entry_eq]
  generalize (lg_sl ([.int p0]) ++ List.replicate (1 - (lg_sl ([.int p0])).length) Slot.unset).toArray = ls at hl ⊢
  have hl : lv_has ls 1 [(0, .int p0)] := hl
  have hS : va_S (fun _ => False) s.heap s.heap [] := va_S.rf
  refine lv_iload_n hx hb dX8_checkPosition_0 rfl (lv_at hl 0 rfl) ?_
  refine lv_if_ne (tgt := 14) hx hb dX8_checkPosition_1 (by decide) (fun hc => ?_) (fun hc => ?_)
  · refine vx_ret ?_
    refine W.widen (k := 1) (n := 6) (by decide) (by decide) ?_
    exact W.vret hx hb hr (fun t ht hW => ⟨⟨(), rfl, hc, trivial⟩, hS.F ht⟩) hS.2.2 dX8_checkPosition_14
  · obtain ⟨sa, hsa⟩ := hT.2.2.2.2.2.1
    exact vx_throwS (names := eNames) hx hb hl0 hown (by decide) (by decide) (hA _ aL_RX8_245) (hA _ aN_J_IndexOutOfBoundsException) hsa
      (vx_hat (fun w h => hA w (in_akx1 w h)) bw_IO (vx_c (va_Nw.use rfl hT.2.1) (eDs_ok hT)))
      (by decide +kernel) (vx_Zq.narrow hZ.1 (fun _ h => h.elim)) (vx_Zq.narrow hZ.2 (fun _ h => h.elim)) hS (hl.1.trans hml.symm) dX8_checkPosition_4 dX8_checkPosition_7 dX8_checkPosition_8 dX8_checkPosition_10 dX8_checkPosition_13
      (fun x hx => (htab x hx).elim) (by decide) (by decide) (by decide) (by decide) hlocks (fun t _ h1 h2 => ⟨(), hc, rfl, h1, fun q h3 _ => h2 q h3⟩) hS.2.2 (by decide) (by decide)
