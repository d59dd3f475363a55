/-- a method's own word -/
def zcw (y : zY) : Cond := match y.2.2.2.2 with
  | [] => Cond.code y.nm y.cc y.nL y.rt
  | q :: r => Cond.codeWith y.nm y.cc y.nL y.rt (q :: r)
theorem zcw_spec {y : zY} {args : Array Value} {s : State} (h : (zcw y).before args s = true) : ∃ mk meth c, s.methodNamed? y.nm = some mk ∧ s.vm.method? mk = some meth ∧ meth.code = some c ∧ c.code = y.cc ∧ c.maxLocals = y.nL ∧ c.exceptionTable.toList.map (fun h => (h.startPc, h.endPc, h.handlerPc, h.catchType)) = y.hh ∧ meth.sig.returnType = y.rt ∧ meth.locks = false ∧ parseMethodDescriptor y.nm.desc = some meth.sig := by
  obtain ⟨n, cc, nL, rt, hh⟩ := y
  cases hh with
  | nil =>
    have h : (Cond.code n cc nL rt).before args s = true := h
    obtain ⟨mk, hn⟩ := Cond.code_named h
    obtain ⟨meth, c, h1, h2, h3, h4, h5, h6, h7, h8⟩ := Cond.code_spec hn h
    refine ⟨mk, meth, c, hn, h1, h2, h3, h4, ?_, h5, h6, h8⟩
    rw [Array.isEmpty_iff.mp h7]
    rfl
  | cons q r =>
    exact Cond.codeWith_spec (show (Cond.codeWith n cc nL rt (q :: r)).before args s = true from h)
def znp (C : String) : Prop := C ≠ "java/lang/invoke/MethodHandle" ∧ C ≠ "java/lang/invoke/VarHandle"
/-- the call is made: the callee stands at its beginning -/
def zInv (p : Program) (l : Launch) (e : Env) (R : Room) (s : State) (m : MethodId) (args : Array Value) (below : List Frame) (meth : Method) (c : Code) (T : State) (locs : List Loc) (cells slots : Nat) (y : MethodName) (g : JFrame) (as : Array Value) (rest : List Value) : Prop :=
  ∃ mk vm₁, s.WarmedH vm₁ ∧ Stand p l e R s m args below meth c (T.setVm vm₁) locs cells slots ∧ s.methodNamed? y = some mk ∧ ∀ target, Steps p.tables e below (doInvoke e ((T.setVm vm₁).setTop { g with stack := rest }) [] mk as).1 target → Steps p.tables e below (T.setTop g) target
section
variable {p : Program} {l : Launch} {e : Env} {R : Room} {s : State} {m : MethodId} {args : Array Value} {below : List Frame} {meth : Method} {c : Code} {T : State} {locs : List Loc} {cells slots : Nat}
theorem zInvV (X : Stand p l e R s m args below meth c T locs cells slots) (hexec : p.tables.exec = Jvm.exec) {own C : String} {index : Nat} {y : zY}
    (hown : s.vm.findClass own = some m.cls) (hlink : (Cond.methodLink own index y.nm).before args s = true) (hinst : (Cond.instanceMethod y.nm).before args s = true) (hsel : (Cond.selects C y.nm y.nm).before args s = true)
    (hcode : (zcw y).before args s = true) (hy : znp y.nm.cls) {b : Addr} {cellB : Cell} (hcell : T.heap[b]? = some cellB) (hobj : cellB.vm.isStatics = false) (hcls : s.vm.findClass C = some cellB.cls)
    {g : JFrame} (hg : g.method = m) {argsL rest : List Value} (hlen : (parseMethodDescriptor y.nm.desc).map (fun d => d.parameters.length) = some argsL.length)
    (hstack : g.stack = argsL.reverse ++ .ref b :: rest) (hdg : decode c.code g.pc = .ok (.invokevirtual index, 3)) : zInv p l e R s m args below meth c T locs cells slots y.nm g (Value.ref b :: argsL).toArray rest := by
  obtain ⟨mk, methM, hnamed, hmethM, hstM, habM⟩ := Cond.instanceMethod_spec hinst
  obtain ⟨mk', methM', cM, hnamed', hmethM', -, -, -, -, -, -, hsigM⟩ := zcw_spec hcode
  cases hnamed.symm.trans hnamed'
  cases hmethM.symm.trans hmethM'
  obtain ⟨c2, r2, m2, q1, q2, q3, q4, kP, hkP, hkPi⟩ := Cond.selects_spec hsel
  cases hcls.symm.trans q1
  cases (State.methodFound?_of_named hnamed hy).symm.trans q2
  cases hnamed.symm.trans q3
  have hselP : selectMethod e.platform s.vm cellB.cls mk = .method mk := by rw [Launch.admits_selectMethod X.admits]; exact q4
  rw [hsigM] at hlen
  obtain ⟨vm₁, X₁, hstep₁⟩ := X.invokevirtual hexec hown hlink hnamed hmethM hstM hkP hkPi hy (a := b) (cell := cellB) hcell
    (fun z h => by rw [h] at hobj; cases hobj) hselP hmethM habM hkP hkPi (g := g) hg (argsL := argsL) (rest := rest) (Option.some.inj hlen).symm hstack hdg
  exact ⟨mk, vm₁, X₁.warmed, X₁, hnamed, fun target h => hstep₁ _ fun acts => by rw [doInvoke_state]; exact h⟩
theorem zInvS (X : Stand p l e R s m args below meth c T locs cells slots) (hexec : p.tables.exec = Jvm.exec) {own : String} {index : Nat} {y : zY}
    (hown : s.vm.findClass own = some m.cls) (hlink : (Cond.methodLink own index y.nm).before args s = true) (hstat : (Cond.static y.nm).before args s = true) (hinit : (Cond.initialized y.nm.cls).before args s = true)
    (hcode : (zcw y).before args s = true) (hy : znp y.nm.cls)
    {g : JFrame} (hg : g.method = m) {argsL rest : List Value} (hlen : (parseMethodDescriptor y.nm.desc).map (fun d => d.parameters.length) = some argsL.length)
    (hstack : g.stack = argsL.reverse ++ rest) (hdg : decode c.code g.pc = .ok (.invokestatic index, 3)) : zInv p l e R s m args below meth c T locs cells slots y.nm g argsL.toArray rest := by
  obtain ⟨mk, methM, cM, hnamed, hmethM, -, -, -, -, -, -, hsigM⟩ := zcw_spec hcode
  have hstatic : methM.isStatic = true := Cond.static_spec hnamed hmethM hstat
  obtain ⟨kP, hkP, -⟩ := className_of_methodNamed hnamed
  have hinitP : kP.init = .initialized := Cond.initialized_spec (findClass_of_methodNamed hnamed) hkP hinit
  rw [hsigM] at hlen
  obtain ⟨vm₁, X₁, hstep₁⟩ := X.invokestatic hexec hown hlink hnamed hmethM hstatic hkP hinitP hy (g := g) hg (argsL := argsL) (rest := rest) (Option.some.inj hlen).symm hstack hdg
  exact ⟨mk, vm₁, X₁.warmed, X₁, hnamed, fun target h => hstep₁ _ fun acts => by rw [doInvoke_state]; exact h⟩
theorem zInvI (X : Stand p l e R s m args below meth c T locs cells slots) (hexec : p.tables.exec = Jvm.exec) {own : String} {index : Nat} {y : MethodName} {bytes : ByteArray} {maxL : Nat}
    (hown : s.vm.findClass own = some m.cls) (hy1 : y.name = "<init>") (hlink : (Cond.methodLink own index y).before args s = true ∨ ∃ host, (Cond.methodLinkNest own index y host).before args s = true) (hinst : (Cond.instanceMethod y).before args s = true)
    (hcode : (Cond.code y bytes maxL none).before args s = true) (hy : znp y.cls)
    {g : JFrame} (hg : g.method = m) {a : Addr} {argsL rest : List Value} (hlen : (parseMethodDescriptor y.desc).map (fun d => d.parameters.length) = some argsL.length)
    (hstack : g.stack = argsL.reverse ++ .ref a :: rest) (hdg : decode c.code g.pc = .ok (.invokespecial index, 3)) : zInv p l e R s m args below meth c T locs cells slots y g (Value.ref a :: argsL).toArray rest := by
  subst hg
  have hpl : e.platform.magicAccessors = ({} : Platform).magicAccessors := by rw [X.admits.platform]
  have hlen' : ∀ sig, parseMethodDescriptor y.desc = some sig → argsL.length = sig.parameters.length := fun sig h => by
    rw [h] at hlen
    exact (Option.some.inj hlen).symm
  rcases hlink with hlink | ⟨host, hlink⟩
  · obtain ⟨mk, methM, cM, kP, vm₁, hnamed, hmethM, -, -, -, -, hkP, -, hW₁, hstep₁⟩ := Steps.initColdArgs (e := e) X.here hexec X.warmed hpl hown hy1 hy hlink hinst hcode (f := g) rfl hlen' hstack hdg
    exact ⟨mk, vm₁, hW₁, X.noted hW₁, hnamed, fun target h => hstep₁ _ fun acts => by rw [doInvoke_state]; exact h⟩
  · obtain ⟨mk, methM, cM, kP, vm₁, hnamed, hmethM, -, -, -, -, hkP, -, hW₁, hstep₁⟩ := Steps.initColdArgsNest (e := e) X.here hexec X.warmed hpl hown hy1 hy hlink hinst hcode (f := g) rfl hlen' hstack hdg
    exact ⟨mk, vm₁, hW₁, X.noted hW₁, hnamed, fun target h => hstep₁ _ fun acts => by rw [doInvoke_state]; exact h⟩
/-- what a callee may count on -/
def zpre (G : zG) (l : Launch) (as : List Value) (h : zH) : Array Value → State → Prop := fun a st => a = (as.map (zmv G)).toArray ∧ zRel G h st.heap ∧ zGl G l st
/-- what a method does, at any state of the law -/
def zMet (G : zG) (l : Launch) (d : Nat) (y : zY) (as : List Value) (h : zH) (Q : zR → zH → Prop) : Prop := MetFree l y.nm (headSpec zW0 (zroom d h)) (zpre G l as h) (fun _ _ _ _ _ => True) (fun _ => zQ G Q h)
theorem zpay {G : zG} {d : Nat} {y : zY} {as rest : List Value} {h : zH} {Q : zR → zH → Prop} {g : JFrame} {ig : Instr} (X : Stand p l e R s m args below meth c T locs cells slots) (hM : zMet G l d y as h Q) (hI : zInv p l e R s m args below meth c T locs cells slots y.nm g (as.map (zmv G)).toArray rest)
    (hts : ∀ w ∈ zW0, w.before args s = true) (hcw : zcw y ∈ zW0) (hini : Cond.initialized y.nm.cls ∈ zW0) (hgl : zGl G l s) (hrel : zRel G h T.heap)
    (hfr : zfr d + 1 ≤ R.frames) (hlo : 2 * g.monitorRoom + (rest.map fun v => v.category).sum + (y.nL + 11) + zlo d ≤ R.locals) (hce : cells + (zNL - h.2.1) ≤ R.cells) (hsl : slots + (zSL - h.2.2.1) ≤ R.slots)
    (hg : g.method = m) (hsize : g.locals.size = c.maxLocals) (hdg : decode c.code g.pc = .ok (ig, 3)) :
    (∃ (v : Option Value) (h' : zH) (L : List Loc) (T' : State), Q (.inl v) h' ∧ zRel G h' T'.heap ∧ T.heap.size ≤ T'.heap.size ∧ h.2.1 ≤ h'.2.1 ∧ h.2.2.1 ≤ h'.2.2.1 ∧ (∀ z ∈ L, G.sz ≤ z.base) ∧
      Stand p l e R s m args below meth c T' (locs ++ L) (cells + (h'.2.1 - h.2.1)) (slots + (h'.2.2.1 - h.2.2.1)) ∧ ∀ target, Steps p.tables e below (T'.setTop { g with pc := g.pc + 3, stack := (v.map (zmv G)).toList ++ rest }) target → Steps p.tables e below (T.setTop g) target) ∨
    (∃ (q : Addr) (x : Nat) (h' : zH) (ce : Cell) (L : List Loc) (T' : State), Q (.inr x) h' ∧ x < 2 ∧ zRel G h' T'.heap ∧ T.heap.size ≤ T'.heap.size ∧ h.2.1 ≤ h'.2.1 ∧ h.2.2.1 ≤ h'.2.2.1 ∧ (∀ z ∈ L, G.sz ≤ z.base) ∧ T'.heap[q]? = some ce ∧ ce.vm = .none ∧ s.vm.findClass (zNE x) = some ce.cls ∧
      Stand p l e R s m args below meth c T' (locs ++ L) (cells + (h'.2.1 - h.2.1)) (slots + (h'.2.2.1 - h.2.2.1)) ∧ Steps p.tables e below (T.setTop g) ((T'.setTop { g with stack := rest }).pushFrame (.throwing q))) := by
  obtain ⟨mk, vm₁, hW₁, X₁, hn0, step⟩ := hI
  obtain ⟨a, ha⟩ : ∃ a, a = (as.map (zmv G)).toArray := ⟨_, rfl⟩
  rw [← ha] at step
  obtain ⟨g1, hg1⟩ : ∃ g1, g1 = ({ g with stack := rest } : JFrame) := ⟨_, rfl⟩
  rw [← hg1] at step ⊢
  obtain ⟨U, hU⟩ : ∃ U, U = T.setVm vm₁ := ⟨_, rfl⟩
  rw [← hU] at X₁ step
  have hUh : U.heap = T.heap := by rw [hU]; rfl
  have e1 : g1.method = m := by rw [hg1]; exact hg
  have e2 : g1.locals.size = c.maxLocals := by rw [hg1]; exact hsize
  have e3 : g1.pc = g.pc := by rw [hg1]
  have e4 : g1.stack = rest := by rw [hg1]
  have e5 : g1.monitorRoom = g.monitorRoom := by rw [hg1]
  have hn : U.methodNamed? y.nm = some mk := X₁.named hn0
  have hws := zW0_ws hts
  have w1 : (headSpec zW0 (zroom d h)).pre.before a U = true := atoms_intro fun w hw => hws w hw _ _ X₁.warmed
  have w2 : (zcw y).before a U = true := hws _ hcw _ _ X₁.warmed
  have w3 : (Cond.initialized y.nm.cls).before a U = true := hws _ hini _ _ X₁.warmed
  obtain ⟨mk', methY, cY, hn', hmY, hcY, -, hlY, -, -, -, -⟩ := zcw_spec w2
  cases hn.symm.trans hn'
  obtain ⟨kY, hkY, -⟩ := className_of_methodNamed hn
  have hinitY : kY.init = .initialized := Cond.initialized_spec (findClass_of_methodNamed hn) hkY w3
  have hat : At U g1.method c below := by rw [e1]; exact X₁.here
  have hd1 : decode c.code g1.pc = .ok (ig, 3) := by rw [e3]; exact hdg
  have happ : (headSpec zW0 (zroom d h)).appliesLoose y.nm e.platform (U.calling g1 mk a) = true :=
    Spec.appliesLoose_calling (g := g1) hat hd1 hn hkY hinitY
      (X₁.room_calling (g := g1) (R' := zroom d h) e2 hmY hcY hfr (by rw [hlY, e4, e5]; show _ + zlo d ≤ _; omega) hce hsl) w1
  obtain ⟨mid, hmid⟩ := hat.above
  have hfr9 : (U.setTop g1).frames = (.java g1 :: mid) ++ below := by rw [State.frames_setTop' g1 hat.top, hmid]; rfl
  have hP : zpre G l as h a (U.calling g1 mk a) := ⟨ha, by show zRel G h U.heap; rw [hUh]; exact hrel, (hgl.moved X₁.warmed).calling g1 mk a⟩
  obtain ⟨o, s₂, hsteps, -, hend, hq⟩ := Steps.callFree hM p X₁.admits X₁.cas X₁.clock (acts := []) hfr9 happ hP trivial
  have hq : zQ G Q h (U.calling g1 mk a) o s₂ := hq
  rw [State.frames_setTop' g1 hat.top] at hend
  obtain ⟨g₀, hg0⟩ := Option.isSome_iff_exists.mp hat.top
  obtain ⟨r, hr⟩ := State.topJava?_eq_some.mp hg0
  obtain ⟨V, hV⟩ : ∃ V, V = ({ U with heap := s₂.heap, slotsUsed := s₂.slotsUsed } : State) := ⟨_, rfl⟩
  have hr' : (V.setVm s₂.vm).frames = .java g₀ :: r := by rw [hV]; exact hr
  have hVh : (V.setVm s₂.vm).heap = s₂.heap := by rw [hV]; rfl
  have same : ∀ {L : List Loc} {k n : Nat}, (U.calling g1 mk a).sameButNew ({ s₂ with vm := (U.calling g1 mk a).vm } : State) L k n → U.sameButNew V L k n ∧ s₂ = (V.setFrames s₂.frames).setVm s₂.vm := by
    rintro L k n ⟨b1, b2, b3, b4, b5, b6⟩
    refine ⟨⟨?_, by rw [hV]; exact b2, by rw [hV]; exact b3, by rw [hV]; exact b4, by rw [hV]; exact b5, by rw [hV]; exact b6⟩, ?_⟩
    · obtain ⟨t, ht, -⟩ := State.frames_cons hr
      rw [hV]
      show ({ U with heap := s₂.heap, slotsUsed := s₂.slotsUsed } : State) = { U.setFrames U.frames with heap := s₂.heap, slotsUsed := s₂.slotsUsed }
      rw [State.setFrames_self ht]
    · have : s₂ = ({ s₂ with vm := (U.calling g1 mk a).vm } : State).setVm s₂.vm := rfl
      rw [b1] at this
      refine this.trans ?_
      rw [hV, State.calling_eq hat.top, State.setFrames_setFrames]
      rfl
  have stand : ∀ {L : List Loc} {k n : Nat}, U.WarmedH s₂.vm → U.sameButNew V L k n → Stand p l e R s m args below meth c (V.setVm s₂.vm) (locs ++ L) (cells + k) (slots + n) := by
    intro L k n hW' hs
    refine ⟨X₁.admits, X₁.cas, X₁.clock, X₁.frames, X₁.room, X₁.hears, X₁.method, X₁.code, ?_, ?_, State.WarmedH.trans X₁.warmed hW', ?_, ?_, X₁.same.trans (hs.setVm s.vm)⟩
    · rw [hV]; exact (X₁.here.setHeapUsed s₂.heap s₂.slotsUsed).setVm hW'.alike
    · rw [hV]; exact X₁.tail
    · rw [hV]; exact X₁.limits
    · rw [hV]; exact X₁.bytes
  rcases hq with ⟨v, h', L, rfl, hQ, z1, z2, z3, z4, hfe, hL⟩ | ⟨q, x, h', ce, L, rfl, hQ, z1, z2, z3, z4, hce9, hcv, hcl, hW₂, hsm, hL, hx⟩
  · obtain ⟨-, hW₂, hsm⟩ := id hfe
    obtain ⟨hs, e9⟩ := same hsm
    have hW' : U.WarmedH s₂.vm := hW₂
    obtain ⟨c₂, i₂, len₂, hc₂, hd₂, hf₂⟩ := hend
    have hcc : c₂ = c := by
      have h1 : s₂.code? g1.method = U.code? g1.method := by rw [State.code?_eq, State.code?_eq, hW'.alike.method?]
      exact Option.some.inj (hc₂.symm.trans (h1.trans hat.code))
    subst hcc
    have hlen : len₂ = 3 := by rw [hd1] at hd₂; cases hd₂; rfl
    subst hlen
    have hs₂ : s₂ = (V.setVm s₂.vm).setTop { g1 with pc := g1.pc + 3, stack := (v.map (zmv G)).toList ++ g1.stack } := by
      refine e9.trans ?_
      rw [hf₂, State.setTop_of_frames _ hr', hr]
      rfl
    refine Or.inl ⟨v, h', L, V.setVm s₂.vm, hQ, by rw [hVh]; exact z1, by rw [hVh, ← hUh]; exact z2, z3, z4, hL, stand hW' hs, fun target ht => step _ (hsteps.trans ?_)⟩
    rw [hs₂, e4, e3, hg1]
    exact ht
  · obtain ⟨hs, e9⟩ := same hsm
    have hW' : U.WarmedH s₂.vm := hW₂
    have hf₂ : s₂.frames = .throwing q :: .java g1 :: U.frames.tail := hend
    have hs₂ : s₂ = ((V.setVm s₂.vm).setTop g1).pushFrame (.throwing q) := by
      refine e9.trans ?_
      rw [hf₂, State.pushFrame, State.frames_setTop _ hr', State.setTop_of_frames _ hr', State.setFrames_setFrames, hr]
      rfl
    refine Or.inr ⟨q, x, h', ce, L, V.setVm s₂.vm, hQ, hx, by rw [hVh]; exact z1, by rw [hVh, ← hUh]; exact z2, z3, z4, hL, by rw [hVh]; exact hce9, hcv, ?_, stand hW' hs, step _ ?_⟩
    · exact vx_cls (T := T) hW₁ (by rw [← hU]; exact hcl)
    · rw [← hs₂]
      exact hsteps
end
