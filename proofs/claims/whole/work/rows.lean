section
/-! CALLS THAT MAY THROW: a method's contract with both outcomes; a call of it; the caller goes on behind it or at a handler, or is left -/
section XM
/-- the caller's state behind a call: the value on its stack, or the note of the exception over its frame -/
def xm_after (B : State) (g : JFrame) (len : Nat) (o : Outcome) : State := match o with
  | .returned v => B.setTop { g with pc := g.pc + len, stack := v.toList ++ g.stack }
  | .threw x => (B.setTop g).pushFrame (.throwing x)
/-- what a method's end keeps: warmer tables; nothing but the slots L and at most mc new cells of ms slots has moved -/
def xm_End (st : State) (t : State) (mc ms : Nat) (free : Addr → Prop) : Prop := ∃ L : List Loc, st.WarmedH t.vm ∧ st.sameButNew ({ t with vm := st.vm } : State) L mc ms ∧ ∀ q ∈ L, free q.base
def xm_Met (l : Launch) (y : MethodName) (w0 : Cond) (rm : Room) (Pc : Array Value → State → Prop) (Qc : Array Value → State → Outcome → State → Prop) (mc ms : Nat) (free : Addr → Prop) : Prop :=
  MetFree l y (headSpec [w0] rm) Pc (fun _ _ _ _ _ => True) (fun a st o t => Qc a st o t ∧ xm_End st t mc ms free)
/-- the end that a walk comes to -/
def xm_MQ (below : List Frame) (Qc : Array Value → State → Outcome → State → Prop) (a : Array Value) (s : State) (mc ms : Nat) (free : Addr → Prop) : State → Prop := fun t =>
  ∃ o, t.status = .running ∧ Ended t below o ∧ Qc a s o t ∧ xm_End s t mc ms free
/-- what a word on a method's code says -/
def xm_code (s : State) (y : MethodName) (bytes : ByteArray) (maxL : Nat) (ret : Option FieldType) : Prop :=
  ∃ mk meth c, s.methodNamed? y = some mk ∧ s.vm.method? mk = some meth ∧ meth.code = some c ∧ c.code = bytes ∧ c.maxLocals = maxL ∧ meth.sig.returnType = ret ∧ meth.locks = false ∧ parseMethodDescriptor y.desc = some meth.sig
theorem xm_code_of {args : Array Value} {s : State} {y : MethodName} {bytes : ByteArray} {maxL : Nat} {ret : Option FieldType} (h : (Cond.code y bytes maxL ret).before args s = true) : xm_code s y bytes maxL ret := by
  obtain ⟨mk, hn⟩ := Cond.code_named h
  obtain ⟨meth, c, h1, h2, h3, h4, h5, h6, -, h7⟩ := Cond.code_spec hn h
  exact ⟨mk, meth, c, hn, h1, h2, h3, h4, h5, h6, h7⟩
theorem xm_code_with {args : Array Value} {s : State} {y : MethodName} {bytes : ByteArray} {maxL : Nat} {ret : Option FieldType} {hh : List (Nat × Nat × Nat × Nat)} (h : (Cond.codeWith y bytes maxL ret hh).before args s = true) : xm_code s y bytes maxL ret := by
  obtain ⟨mk, meth, c, hn, h1, h2, h3, h4, -, h5, h6, h7⟩ := Cond.codeWith_spec h
  exact ⟨mk, meth, c, hn, h1, h2, h3, h4, h5, h6, h7⟩
theorem xm_of {l : Launch} {y : MethodName} {w0 : Cond} {rm : Room} {Pc : Array Value → State → Prop} {Qc : Array Value → State → Outcome → State → Prop} {mc ms : Nat} {free : Addr → Prop} {cc : ByteArray} {maxL : Nat} {ret : Option FieldType}
    (hy : plainFor y = true) (hw : ∀ (args : Array Value) (s : State), w0.before args s = true → xm_code s y cc maxL ret)
    (body : ∀ p e s m args below meth c s₁, BodyLoose p l y (headSpec [w0] rm) cc maxL ret e s m args below meth c s₁ → c.maxLocals = maxL → Pc args s →
      W p l e (headSpec [w0] rm).room s m args below meth c s.heap [] 0 0 (xm_MQ below Qc args s mc ms free) (entryFrame m args maxL)) : xm_Met l y w0 rm Pc Qc mc ms free := by
  refine MetFree.of_bodySF (code := cc) (maxLocals := maxL) (ret := ret) hy ?_ ?_
  · intro args s m h hn
    obtain ⟨mk, meth, c, hn', h1, h2, h3, h4, h5, h6, -⟩ := hw args s (atoms_spec (ws := [w0]) h _ List.mem_cons_self)
    cases hn.symm.trans hn'
    exact ⟨meth, c, h1, h2, h3, h4, h5, h6⟩
  · intro p e s m args below meth c s₁ B hml hP _
    have hh0 : s₁.heap = s.heap := by rw [B.state]; rfl
    obtain ⟨t, a1, o, b1, b2, b3⟩ := body p e s m args below meth c s₁ B hml hP s₁ hh0 (Stand.of_body B)
    exact ⟨t, o, a1, b1, b2, ⟨b3.1, b3.2⟩⟩
variable {p : Program} {l : Launch} {e : Env} {R : Room} {s : State} {m : MethodId} {args : Array Value} {below : List Frame} {meth : Method} {c : Code} {locs : List Loc} {cells slots : Nat}
theorem xm_back {y : MethodName} {w0 : Cond} {rm : Room} {Pc : Array Value → State → Prop} {Qc : Array Value → State → Outcome → State → Prop} {mc ms maxL len : Nat} {free : Addr → Prop} {bytes : ByteArray} {ret : Option FieldType} {U : State}
    (hM : xm_Met l y w0 rm Pc Qc mc ms free) (hframes : rm.frames + 1 ≤ R.frames) (hlocals : 8 + (maxL + 11) + rm.locals ≤ R.locals)
    (X : Stand p l e R s m args below meth c U locs cells slots) {g : JFrame} {ig : Instr} {mk : MethodId} {a : Array Value} (hg : g.method = m) (hsize : g.locals.size = c.maxLocals) (hdg : decode c.code g.pc = .ok (ig, len))
    (hW : 2 * g.monitorRoom + (g.stack.map fun v => v.category).sum ≤ 8) (hn : U.methodNamed? y = some mk) (hpre : w0.before a U = true) (hcd : xm_code U y bytes maxL ret) (hini : (Cond.initialized y.cls).before a U = true)
    (hc : cells + rm.cells ≤ R.cells) (hs : slots + rm.slots ≤ R.slots) (hP : Pc a (U.calling g mk a)) :
    ∃ (o : Outcome) (t B : State) (L : List Loc), Stand p l e R s m args below meth c B (locs ++ L) (cells + mc) (slots + ms) ∧ Qc a (U.calling g mk a) o t ∧ (∀ q ∈ L, free q.base) ∧ B.heap = t.heap ∧ B.vm = t.vm ∧ U.WarmedH t.vm ∧
      Steps p.tables e below (doInvoke e (U.setTop g) [] mk a).1 (xm_after B g len o) := by
  obtain ⟨mk', methY, cY, hn', hmY, hcY, -, hlY, -⟩ := hcd
  cases hn.symm.trans hn'
  obtain ⟨kY, hkY, -⟩ := className_of_methodNamed hn
  have hinitY : kY.init = .initialized := Cond.initialized_spec (findClass_of_methodNamed hn) hkY hini
  have h : At U g.method c below := by rw [hg]; exact X.here
  have happ : (headSpec [w0] rm).appliesLoose y e.platform (U.calling g mk a) = true :=
    Spec.appliesLoose_calling (g := g) h hdg hn hkY hinitY
      (X.room_calling (g := g) (R' := rm) hsize hmY hcY hframes (by rw [hlY]; omega) hc hs) (atoms_intro fun w hw => by rw [List.mem_singleton.mp hw]; exact hpre)
  obtain ⟨mid, hmid⟩ := h.above
  have hfr : (U.setTop g).frames = (.java g :: mid) ++ below := by rw [State.frames_setTop' g h.top, hmid]; rfl
  obtain ⟨o, s₂, hsteps, -, hend, hq⟩ := Steps.callFree hM p X.admits X.cas X.clock (acts := []) hfr happ hP trivial
  have hq' : Qc a (U.calling g mk a) o s₂ ∧ xm_End (U.calling g mk a) s₂ mc ms free := hq
  rw [State.frames_setTop' g h.top] at hend
  obtain ⟨hq1, L, hW₂, hsame, hL⟩ := hq'
  have hW' : U.WarmedH s₂.vm := hW₂
  cases o with
  | returned v =>
    obtain ⟨e2, q2, q3, q4, q5, q6⟩ := id hsame
    have e3 : s₂ = ({ (U.calling g mk a).setFrames s₂.frames with heap := s₂.heap, slotsUsed := s₂.slotsUsed } : State).setVm s₂.vm := by
      have : s₂ = ({ s₂ with vm := (U.calling g mk a).vm } : State).setVm s₂.vm := rfl
      rw [e2] at this
      exact this
    obtain ⟨c₂, i₂, len₂, hc₂, hd₂, hf₂⟩ := hend
    have hcc : c₂ = c := by
      have h1 : s₂.code? g.method = U.code? g.method := by
        rw [State.code?_eq, State.code?_eq, hW'.alike.method?]
      exact Option.some.inj (hc₂.symm.trans (h1.trans h.code))
    subst hcc
    have hlen : len₂ = len := by rw [hdg] at hd₂; cases hd₂; rfl
    subst hlen
    obtain ⟨g₀, hg0⟩ := Option.isSome_iff_exists.mp h.top
    obtain ⟨r, hr⟩ := State.topJava?_eq_some.mp hg0
    have hs₂ : s₂ = (({ U with heap := s₂.heap, slotsUsed := s₂.slotsUsed } : State).setVm s₂.vm).setTop { g with pc := g.pc + len₂, stack := v.toList ++ g.stack } := by
      have hr' : (({ U with heap := s₂.heap, slotsUsed := s₂.slotsUsed } : State).setVm s₂.vm).frames = .java g₀ :: r := hr
      refine e3.trans ?_
      rw [hf₂, State.calling_eq h.top, State.setFrames_setFrames, State.setTop_of_frames _ hr', hr]
      rfl
    have hsm : U.sameButNew ({ U with heap := s₂.heap, slotsUsed := s₂.slotsUsed } : State) L mc ms := by
      refine ⟨?_, q2, q3, q4, q5, q6⟩
      obtain ⟨t, ht, -⟩ := State.frames_cons hr
      show ({ U with heap := s₂.heap, slotsUsed := s₂.slotsUsed } : State) = { U.setFrames U.frames with heap := s₂.heap, slotsUsed := s₂.slotsUsed }
      rw [State.setFrames_self ht]
    subst hg
    refine ⟨.returned v, s₂, (({ U with heap := s₂.heap, slotsUsed := s₂.slotsUsed } : State).setVm s₂.vm), L,
      ⟨X.admits, X.cas, X.clock, X.frames, X.room, X.hears, X.method, X.code, (X.here.setHeapUsed s₂.heap s₂.slotsUsed).setVm hW'.alike, X.tail, State.WarmedH.trans X.warmed hW', X.limits, X.bytes, X.same.trans (hsm.setVm s.vm)⟩,
      hq1, hL, rfl, rfl, hW', ?_⟩
    show Steps p.tables e below _ ((({ U with heap := s₂.heap, slotsUsed := s₂.slotsUsed } : State).setVm s₂.vm).setTop { g with pc := g.pc + len₂, stack := v.toList ++ g.stack })
    rw [← hs₂]
    exact hsteps
  | threw x =>
    have hend' : Ended s₂ (.java g :: below) (.threw x) := by
      have ht : U.frames.tail = below := X.tail
      rw [ht] at hend
      exact hend
    obtain ⟨T', X', hW3, hsm, ht⟩ := X.outOfThrown hg hend' hW₂ hsame
    refine ⟨.threw x, s₂, T', L, X', hq1, hL, ?_, ?_, hW', ?_⟩
    · rw [ht, Stand.throwing_heap]
    · rw [ht, Stand.throwing_vm]
    · show Steps p.tables e below _ ((T'.setTop g).pushFrame (.throwing x))
      rw [← ht]
      exact hsteps
end XM
end
section
/-! ENTERING A METHOD, by each kind of invoke; then the call whole; exceptions that leave or are caught -/
section XE
variable {p : Program} {l : Launch} {e : Env} {R : Room} {s : State} {m : MethodId} {args : Array Value} {below : List Frame} {meth : Method} {c : Code} {locs : List Loc} {cells slots : Nat} {T : State}
/-- the instruction at g has been done up to the invocation of y with a -/
def xm_Ent (p : Program) (l : Launch) (e : Env) (R : Room) (s : State) (m : MethodId) (args : Array Value) (below : List Frame) (meth : Method) (c : Code) (T : State) (locs : List Loc) (cells slots : Nat) (g : JFrame) (rest : List Value) (y : MethodName) (a : Array Value) : Prop :=
  ∃ (vm₁ : Vm) (mk : MethodId), Stand p l e R s m args below meth c (T.setVm vm₁) locs cells slots ∧ s.methodNamed? y = some mk ∧
    ∀ target, (∀ acts, Steps p.tables e below (doInvoke e ((T.setVm vm₁).setTop { g with stack := rest }) acts mk a).1 target) → Steps p.tables e below (T.setTop g) target
theorem xm_entV (X : Stand p l e R s m args below meth c T locs cells slots) (hexec : p.tables.exec = Jvm.exec) {own C : String} {index : Nat} {y : MethodName} {bytes : ByteArray} {maxL : Nat} {ret : Option FieldType}
    (hown : s.vm.findClass own = some m.cls) (hlink : (Cond.methodLink own index y).before args s = true) (hinst : (Cond.instanceMethod y).before args s = true) (hsel : (Cond.selects C y y).before args s = true)
    (hcode : xm_code s y bytes maxL ret) (hy : y.cls ≠ "java/lang/invoke/MethodHandle" ∧ y.cls ≠ "java/lang/invoke/VarHandle")
    {b : Addr} {cellB : Cell} (hcell : T.heap[b]? = some cellB) (hobj : cellB.vm.isStatics = false) (hcls : s.vm.findClass C = some cellB.cls)
    {g : JFrame} (hg : g.method = m) {argsL rest : List Value} (hlen : ∀ sig, parseMethodDescriptor y.desc = some sig → argsL.length = sig.parameters.length)
    (hstack : g.stack = argsL.reverse ++ .ref b :: rest) (hdg : decode c.code g.pc = .ok (.invokevirtual index, 3)) :
    xm_Ent p l e R s m args below meth c T locs cells slots g rest y (Value.ref b :: argsL).toArray := by
  obtain ⟨mk, methM, hnamed, hmethM, hstM, habM⟩ := Cond.instanceMethod_spec hinst
  obtain ⟨mk', methM', cM, hn', hmethM', -, -, -, -, -, hsigM⟩ := hcode
  cases hnamed.symm.trans hn'
  cases hmethM.symm.trans hmethM'
  obtain ⟨c2, r2, m2, q1, q2, q3, q4, kP, hkP, hkPi⟩ := Cond.selects_spec hsel
  cases hcls.symm.trans q1
  cases (State.methodFound?_of_named hnamed hy).symm.trans q2
  cases hnamed.symm.trans q3
  have hselP : selectMethod e.platform s.vm cellB.cls mk = .method mk := by rw [Launch.admits_selectMethod X.admits]; exact q4
  obtain ⟨vm₁, X₁, hstep₁⟩ := X.invokevirtual hexec hown hlink hnamed hmethM hstM hkP hkPi hy (a := b) (cell := cellB) hcell
    (fun z h => by rw [h] at hobj; cases hobj) hselP hmethM habM hkP hkPi (g := g) hg (argsL := argsL) (rest := rest) (hlen _ hsigM) hstack hdg
  exact ⟨vm₁, mk, X₁, hnamed, hstep₁⟩
theorem xm_entVN (X : Stand p l e R s m args below meth c T locs cells slots) (hexec : p.tables.exec = Jvm.exec) {own C : String} {index : Nat} {host : String} {y : MethodName} {bytes : ByteArray} {maxL : Nat} {ret : Option FieldType}
    (hown : s.vm.findClass own = some m.cls) (hlink : (Cond.methodLinkNest own index y host).before args s = true) (hinst : (Cond.instanceMethod y).before args s = true) (hsel : (Cond.selects C y y).before args s = true)
    (hcode : xm_code s y bytes maxL ret) (hy : y.cls ≠ "java/lang/invoke/MethodHandle" ∧ y.cls ≠ "java/lang/invoke/VarHandle")
    {b : Addr} {cellB : Cell} (hcell : T.heap[b]? = some cellB) (hobj : cellB.vm.isStatics = false) (hcls : s.vm.findClass C = some cellB.cls)
    {g : JFrame} (hg : g.method = m) {argsL rest : List Value} (hlen : ∀ sig, parseMethodDescriptor y.desc = some sig → argsL.length = sig.parameters.length)
    (hstack : g.stack = argsL.reverse ++ .ref b :: rest) (hdg : decode c.code g.pc = .ok (.invokevirtual index, 3)) :
    xm_Ent p l e R s m args below meth c T locs cells slots g rest y (Value.ref b :: argsL).toArray := by
  obtain ⟨mk, methM, hnamed, hmethM, hstM, habM⟩ := Cond.instanceMethod_spec hinst
  obtain ⟨mk', methM', cM, hn', hmethM', -, -, -, -, -, hsigM⟩ := hcode
  cases hnamed.symm.trans hn'
  cases hmethM.symm.trans hmethM'
  obtain ⟨c2, r2, m2, q1, q2, q3, q4, kP, hkP, hkPi⟩ := Cond.selects_spec hsel
  cases hcls.symm.trans q1
  cases (State.methodFound?_of_named hnamed hy).symm.trans q2
  cases hnamed.symm.trans q3
  have hselP : selectMethod e.platform s.vm cellB.cls mk = .method mk := by rw [Launch.admits_selectMethod X.admits]; exact q4
  obtain ⟨vm₁, X₁, hstep₁⟩ := X.invokevirtualNest hexec hown hlink hnamed hmethM hstM hkP hkPi hy (a := b) (cell := cellB) hcell
    (fun z h => by rw [h] at hobj; cases hobj) hselP hmethM habM hkP hkPi (g := g) hg (argsL := argsL) (rest := rest) (hlen _ hsigM) hstack hdg
  exact ⟨vm₁, mk, X₁, hnamed, hstep₁⟩
theorem xm_entS (X : Stand p l e R s m args below meth c T locs cells slots) (hexec : p.tables.exec = Jvm.exec) {own : String} {index : Nat} {y : MethodName} {bytes : ByteArray} {maxL : Nat} {ret : Option FieldType}
    (hown : s.vm.findClass own = some m.cls) (hlink : (Cond.methodLink own index y).before args s = true) (hstat : (Cond.static y).before args s = true) (hinit : (Cond.initialized y.cls).before args s = true)
    (hcode : xm_code s y bytes maxL ret) (hy : y.cls ≠ "java/lang/invoke/MethodHandle" ∧ y.cls ≠ "java/lang/invoke/VarHandle")
    {g : JFrame} (hg : g.method = m) {argsL rest : List Value} (hlen : ∀ sig, parseMethodDescriptor y.desc = some sig → argsL.length = sig.parameters.length)
    (hstack : g.stack = argsL.reverse ++ rest) (hdg : decode c.code g.pc = .ok (.invokestatic index, 3)) :
    xm_Ent p l e R s m args below meth c T locs cells slots g rest y argsL.toArray := by
  obtain ⟨mk, methM, cM, hnamed, hmethM, -, -, -, -, -, hsigM⟩ := hcode
  have hstatic : methM.isStatic = true := Cond.static_spec hnamed hmethM hstat
  obtain ⟨kP, hkP, -⟩ := className_of_methodNamed hnamed
  have hinitP : kP.init = .initialized := Cond.initialized_spec (findClass_of_methodNamed hnamed) hkP hinit
  obtain ⟨vm₁, X₁, hstep₁⟩ := X.invokestatic hexec hown hlink hnamed hmethM hstatic hkP hinitP hy (g := g) hg (argsL := argsL) (rest := rest) (hlen _ hsigM) hstack hdg
  exact ⟨vm₁, mk, X₁, hnamed, hstep₁⟩
theorem xm_entSN (X : Stand p l e R s m args below meth c T locs cells slots) (hexec : p.tables.exec = Jvm.exec) {own : String} {index : Nat} {host : String} {y : MethodName} {bytes : ByteArray} {maxL : Nat} {ret : Option FieldType}
    (hown : s.vm.findClass own = some m.cls) (hlink : (Cond.methodLinkNest own index y host).before args s = true) (hstat : (Cond.static y).before args s = true) (hinit : (Cond.initialized y.cls).before args s = true)
    (hcode : xm_code s y bytes maxL ret) (hy : y.cls ≠ "java/lang/invoke/MethodHandle" ∧ y.cls ≠ "java/lang/invoke/VarHandle")
    {g : JFrame} (hg : g.method = m) {argsL rest : List Value} (hlen : ∀ sig, parseMethodDescriptor y.desc = some sig → argsL.length = sig.parameters.length)
    (hstack : g.stack = argsL.reverse ++ rest) (hdg : decode c.code g.pc = .ok (.invokestatic index, 3)) :
    xm_Ent p l e R s m args below meth c T locs cells slots g rest y argsL.toArray := by
  obtain ⟨mk, methM, cM, hnamed, hmethM, -, -, -, -, -, hsigM⟩ := hcode
  have hstatic : methM.isStatic = true := Cond.static_spec hnamed hmethM hstat
  obtain ⟨kP, hkP, -⟩ := className_of_methodNamed hnamed
  have hinitP : kP.init = .initialized := Cond.initialized_spec (findClass_of_methodNamed hnamed) hkP hinit
  obtain ⟨vm₁, X₁, hstep₁⟩ := X.invokestaticNest hexec hown hlink hnamed hmethM hstatic hkP hinitP hy (g := g) hg (argsL := argsL) (rest := rest) (hlen _ hsigM) hstack hdg
  exact ⟨vm₁, mk, X₁, hnamed, hstep₁⟩
theorem xm_entI (X : Stand p l e R s m args below meth c T locs cells slots) (hexec : p.tables.exec = Jvm.exec) {own : String} {index : Nat} {y : MethodName} {bytes : ByteArray} {maxL : Nat}
    (hown : s.vm.findClass own = some m.cls) (hy1 : y.name = "<init>") (hlink : (Cond.methodLink own index y).before args s = true) (hinst : (Cond.instanceMethod y).before args s = true)
    (hcode : (Cond.code y bytes maxL none).before args s = true) (hy : y.cls ≠ "java/lang/invoke/MethodHandle" ∧ y.cls ≠ "java/lang/invoke/VarHandle")
    {g : JFrame} (hg : g.method = m) {a : Addr} {argsL rest : List Value} (hlen : ∀ sig, parseMethodDescriptor y.desc = some sig → argsL.length = sig.parameters.length)
    (hstack : g.stack = argsL.reverse ++ .ref a :: rest) (hdg : decode c.code g.pc = .ok (.invokespecial index, 3)) :
    xm_Ent p l e R s m args below meth c T locs cells slots g rest y (Value.ref a :: argsL).toArray := by
  subst hg
  have hpl : e.platform.magicAccessors = ({} : Platform).magicAccessors := by rw [X.admits.platform]
  obtain ⟨mk, methM, cM, kP, vm₁, hnamed, hmethM, hcodeM, -, hlocalsM, -, hkP, -, hW₁, hstep₁⟩ := Steps.initColdArgs (e := e) X.here hexec X.warmed hpl hown hy1 hy hlink hinst hcode (f := g) rfl hlen hstack hdg
  exact ⟨vm₁, mk, X.noted hW₁, hnamed, hstep₁⟩
theorem xm_entIN (X : Stand p l e R s m args below meth c T locs cells slots) (hexec : p.tables.exec = Jvm.exec) {own : String} {index : Nat} {host : String} {y : MethodName} {bytes : ByteArray} {maxL : Nat}
    (hown : s.vm.findClass own = some m.cls) (hy1 : y.name = "<init>") (hlink : (Cond.methodLinkNest own index y host).before args s = true) (hinst : (Cond.instanceMethod y).before args s = true)
    (hcode : (Cond.code y bytes maxL none).before args s = true) (hy : y.cls ≠ "java/lang/invoke/MethodHandle" ∧ y.cls ≠ "java/lang/invoke/VarHandle")
    {g : JFrame} (hg : g.method = m) {a : Addr} {argsL rest : List Value} (hlen : ∀ sig, parseMethodDescriptor y.desc = some sig → argsL.length = sig.parameters.length)
    (hstack : g.stack = argsL.reverse ++ .ref a :: rest) (hdg : decode c.code g.pc = .ok (.invokespecial index, 3)) :
    xm_Ent p l e R s m args below meth c T locs cells slots g rest y (Value.ref a :: argsL).toArray := by
  subst hg
  have hpl : e.platform.magicAccessors = ({} : Platform).magicAccessors := by rw [X.admits.platform]
  obtain ⟨mk, methM, cM, kP, vm₁, hnamed, hmethM, hcodeM, -, hlocalsM, -, hkP, -, hW₁, hstep₁⟩ := Steps.initColdArgsNest (e := e) X.here hexec X.warmed hpl hown hy1 hy hlink hinst hcode (f := g) rfl hlen hstack hdg
  exact ⟨vm₁, mk, X.noted hW₁, hnamed, hstep₁⟩
/-- the call whole: the callee's contract; either outcome -/
theorem xm_call {y : MethodName} {w0 : Cond} {rm : Room} {Pc : Array Value → State → Prop} {Qc : Array Value → State → Outcome → State → Prop} {mc ms maxL : Nat} {free : Addr → Prop} {bytes : ByteArray} {ret : Option FieldType}
    {g : JFrame} {ig : Instr} {rest : List Value} {a : Array Value} {len : Nat}
    (hE : xm_Ent p l e R s m args below meth c T locs cells slots g rest y a)
    (hM : xm_Met l y w0 rm Pc Qc mc ms free) (hframes : rm.frames + 1 ≤ R.frames) (hlocals : 8 + (maxL + 11) + rm.locals ≤ R.locals)
    (hg : g.method = m) (hsize : g.locals.size = c.maxLocals) (hdg : decode c.code g.pc = .ok (ig, len))
    (hW : 2 * g.monitorRoom + (rest.map fun v => v.category).sum ≤ 8)
    (hw0 : ∀ U : State, s.WarmedH U.vm → w0.before a U = true ∧ xm_code U y bytes maxL ret ∧ (Cond.initialized y.cls).before a U = true)
    (hc : cells + rm.cells ≤ R.cells) (hs : slots + rm.slots ≤ R.slots) (hP : ∀ U : State, U.heap = T.heap → s.WarmedH U.vm → Pc a U) :
    ∃ (o : Outcome) (st t B : State) (L : List Loc), st.heap = T.heap ∧ s.WarmedH st.vm ∧ Stand p l e R s m args below meth c B (locs ++ L) (cells + mc) (slots + ms) ∧ Qc a st o t ∧ (∀ q ∈ L, free q.base) ∧ B.heap = t.heap ∧ B.vm = t.vm ∧ s.WarmedH t.vm ∧
      ∀ target, Steps p.tables e below (xm_after B { g with stack := rest } len o) target → Steps p.tables e below (T.setTop g) target := by
  obtain ⟨vm₁, mk, X₁, hn, hst⟩ := hE
  obtain ⟨h1, h2, h3⟩ := hw0 (T.setVm vm₁) X₁.warmed
  obtain ⟨o, t, B, L, X', hq, hL, e1, e2, hW2, st2⟩ := xm_back (g := { g with stack := rest }) hM hframes hlocals X₁ hg hsize hdg hW (X₁.named hn) h1 h2 h3 hc hs (hP _ rfl X₁.warmed)
  exact ⟨o, (T.setVm vm₁).calling { g with stack := rest } mk a, t, B, L, rfl, X₁.warmed, X', hq, hL, e1, e2, State.WarmedH.trans X₁.warmed hW2, fun target h => hst _ fun acts => by rw [doInvoke_state]; exact st2.trans h⟩
end XE
end
section
-- ===== PART A: goes FIRST, ahead of the names: the tables' words, and 'selects' of the private methods out of them =====
/-- a private method of a class that the tables say can be made, by its rows of tables_1 -/
def lw_okq (q : MethodName × Nat) : Prop := (q.1.cls ≠ "java/lang/invoke/MethodHandle" ∧ q.1.cls ≠ "java/lang/invoke/VarHandle") ∧ Cond.instantiable q.1.cls q.2 ∈ tables_1 ∧ Cond.privateMethod q.1 ∈ tables_1 ∧ Cond.instanceMethod q.1 ∈ tables_1
theorem lw_p0 : lw_okq (⟨"java/lang/Throwable", "fillInStackTrace", "(I)Ljava/lang/Throwable;"⟩, 6) := ⟨⟨by decide +kernel, by decide +kernel⟩, List.mem_of_getElem? (i := 308) (by decide +kernel), List.mem_of_getElem? (i := 306) (by decide +kernel), List.mem_of_getElem? (i := 307) (by decide +kernel)⟩
theorem lw_p1 : lw_okq (⟨"BlockFront", "isAccepted", "()Z"⟩, 7) := ⟨⟨by decide +kernel, by decide +kernel⟩, List.mem_of_getElem? (i := 25) (by decide +kernel), List.mem_of_getElem? (i := 378) (by decide +kernel), List.mem_of_getElem? (i := 379) (by decide +kernel)⟩
theorem lw_p2 : lw_okq (⟨"BlockFront$Scanner", "begin", "()V"⟩, 8) := ⟨⟨by decide +kernel, by decide +kernel⟩, List.mem_of_getElem? (i := 128) (by decide +kernel), List.mem_of_getElem? (i := 386) (by decide +kernel), List.mem_of_getElem? (i := 387) (by decide +kernel)⟩
theorem lw_p3 : lw_okq (⟨"BlockFront$Scanner", "beginLine", "()V"⟩, 8) := ⟨⟨by decide +kernel, by decide +kernel⟩, List.mem_of_getElem? (i := 128) (by decide +kernel), List.mem_of_getElem? (i := 394) (by decide +kernel), List.mem_of_getElem? (i := 395) (by decide +kernel)⟩
theorem lw_p4 : lw_okq (⟨"BlockFront$Scanner", "passToEndOfLine", "()V"⟩, 8) := ⟨⟨by decide +kernel, by decide +kernel⟩, List.mem_of_getElem? (i := 128) (by decide +kernel), List.mem_of_getElem? (i := 405) (by decide +kernel), List.mem_of_getElem? (i := 406) (by decide +kernel)⟩
theorem lw_p5 : lw_okq (⟨"BlockFront$Scanner", "compareWidths", "(II)V"⟩, 8) := ⟨⟨by decide +kernel, by decide +kernel⟩, List.mem_of_getElem? (i := 128) (by decide +kernel), List.mem_of_getElem? (i := 412) (by decide +kernel), List.mem_of_getElem? (i := 413) (by decide +kernel)⟩
theorem lw_p6 : lw_okq (⟨"BlockFront$Scanner", "beginBlock", "(II)V"⟩, 8) := ⟨⟨by decide +kernel, by decide +kernel⟩, List.mem_of_getElem? (i := 128) (by decide +kernel), List.mem_of_getElem? (i := 420) (by decide +kernel), List.mem_of_getElem? (i := 421) (by decide +kernel)⟩
theorem lw_p7 : lw_okq (⟨"BlockFront$Scanner", "take", "(III)V"⟩, 8) := ⟨⟨by decide +kernel, by decide +kernel⟩, List.mem_of_getElem? (i := 128) (by decide +kernel), List.mem_of_getElem? (i := 431) (by decide +kernel), List.mem_of_getElem? (i := 432) (by decide +kernel)⟩
theorem lw_p8 : lw_okq (⟨"BlockFront$Scanner", "takeNext", "()V"⟩, 8) := ⟨⟨by decide +kernel, by decide +kernel⟩, List.mem_of_getElem? (i := 128) (by decide +kernel), List.mem_of_getElem? (i := 443) (by decide +kernel), List.mem_of_getElem? (i := 444) (by decide +kernel)⟩
theorem lw_p9 : lw_okq (⟨"BlockFront$Scanner", "takeEndOfLine", "()V"⟩, 8) := ⟨⟨by decide +kernel, by decide +kernel⟩, List.mem_of_getElem? (i := 128) (by decide +kernel), List.mem_of_getElem? (i := 447) (by decide +kernel), List.mem_of_getElem? (i := 448) (by decide +kernel)⟩
theorem lw_p10 : lw_okq (⟨"BlockFront$Scanner", "takeName", "()V"⟩, 8) := ⟨⟨by decide +kernel, by decide +kernel⟩, List.mem_of_getElem? (i := 128) (by decide +kernel), List.mem_of_getElem? (i := 454) (by decide +kernel), List.mem_of_getElem? (i := 455) (by decide +kernel)⟩
theorem lw_p11 : lw_okq (⟨"BlockFront$Scanner", "markOfName", "(II)I"⟩, 8) := ⟨⟨by decide +kernel, by decide +kernel⟩, List.mem_of_getElem? (i := 128) (by decide +kernel), List.mem_of_getElem? (i := 461) (by decide +kernel), List.mem_of_getElem? (i := 462) (by decide +kernel)⟩
theorem lw_p12 : lw_okq (⟨"BlockFront$Scanner", "takeNumber", "()V"⟩, 8) := ⟨⟨by decide +kernel, by decide +kernel⟩, List.mem_of_getElem? (i := 128) (by decide +kernel), List.mem_of_getElem? (i := 529) (by decide +kernel), List.mem_of_getElem? (i := 530) (by decide +kernel)⟩
theorem lw_p13 : lw_okq (⟨"BlockFront$Scanner", "takeString", "(C)V"⟩, 8) := ⟨⟨by decide +kernel, by decide +kernel⟩, List.mem_of_getElem? (i := 128) (by decide +kernel), List.mem_of_getElem? (i := 533) (by decide +kernel), List.mem_of_getElem? (i := 534) (by decide +kernel)⟩
theorem lw_p14 : lw_okq (⟨"BlockFront$Scanner", "takeSign", "(C)V"⟩, 8) := ⟨⟨by decide +kernel, by decide +kernel⟩, List.mem_of_getElem? (i := 128) (by decide +kernel), List.mem_of_getElem? (i := 537) (by decide +kernel), List.mem_of_getElem? (i := 538) (by decide +kernel)⟩
theorem lw_p15 : lw_okq (⟨"BlockFront$Scanner", "openBracket", "()V"⟩, 8) := ⟨⟨by decide +kernel, by decide +kernel⟩, List.mem_of_getElem? (i := 128) (by decide +kernel), List.mem_of_getElem? (i := 598) (by decide +kernel), List.mem_of_getElem? (i := 599) (by decide +kernel)⟩
def lw_privs_1 : List (MethodName × Nat) := [(⟨"java/lang/Throwable", "fillInStackTrace", "(I)Ljava/lang/Throwable;"⟩, 6), (⟨"BlockFront", "isAccepted", "()Z"⟩, 7), (⟨"BlockFront$Scanner", "begin", "()V"⟩, 8), (⟨"BlockFront$Scanner", "beginLine", "()V"⟩, 8), (⟨"BlockFront$Scanner", "passToEndOfLine", "()V"⟩, 8), (⟨"BlockFront$Scanner", "compareWidths", "(II)V"⟩, 8), (⟨"BlockFront$Scanner", "beginBlock", "(II)V"⟩, 8), (⟨"BlockFront$Scanner", "take", "(III)V"⟩, 8), (⟨"BlockFront$Scanner", "takeNext", "()V"⟩, 8), (⟨"BlockFront$Scanner", "takeEndOfLine", "()V"⟩, 8), (⟨"BlockFront$Scanner", "takeName", "()V"⟩, 8), (⟨"BlockFront$Scanner", "markOfName", "(II)I"⟩, 8), (⟨"BlockFront$Scanner", "takeNumber", "()V"⟩, 8), (⟨"BlockFront$Scanner", "takeString", "(C)V"⟩, 8), (⟨"BlockFront$Scanner", "takeSign", "(C)V"⟩, 8), (⟨"BlockFront$Scanner", "openBracket", "()V"⟩, 8)]
theorem lw_r1 : ∀ q ∈ lw_privs_1, lw_okq q := List.forall_mem_cons.mpr ⟨lw_p0, List.forall_mem_cons.mpr ⟨lw_p1, List.forall_mem_cons.mpr ⟨lw_p2, List.forall_mem_cons.mpr ⟨lw_p3, List.forall_mem_cons.mpr ⟨lw_p4, List.forall_mem_cons.mpr ⟨lw_p5, List.forall_mem_cons.mpr ⟨lw_p6, List.forall_mem_cons.mpr ⟨lw_p7, List.forall_mem_cons.mpr ⟨lw_p8, List.forall_mem_cons.mpr ⟨lw_p9, List.forall_mem_cons.mpr ⟨lw_p10, List.forall_mem_cons.mpr ⟨lw_p11, List.forall_mem_cons.mpr ⟨lw_p12, List.forall_mem_cons.mpr ⟨lw_p13, List.forall_mem_cons.mpr ⟨lw_p14, List.forall_mem_cons.mpr ⟨lw_p15, fun _ h => absurd h List.not_mem_nil⟩⟩⟩⟩⟩⟩⟩⟩⟩⟩⟩⟩⟩⟩⟩⟩
theorem lw_p16 : lw_okq (⟨"BlockFront$Scanner", "closeBracket", "(C)V"⟩, 8) := ⟨⟨by decide +kernel, by decide +kernel⟩, List.mem_of_getElem? (i := 128) (by decide +kernel), List.mem_of_getElem? (i := 602) (by decide +kernel), List.mem_of_getElem? (i := 603) (by decide +kernel)⟩
theorem lw_p17 : lw_okq (⟨"BlockFront$Scanner", "finish", "()V"⟩, 8) := ⟨⟨by decide +kernel, by decide +kernel⟩, List.mem_of_getElem? (i := 128) (by decide +kernel), List.mem_of_getElem? (i := 606) (by decide +kernel), List.mem_of_getElem? (i := 607) (by decide +kernel)⟩
theorem lw_p18 : lw_okq (⟨"BlockFront$Parser", "isAt", "(I)Z"⟩, 4) := ⟨⟨by decide +kernel, by decide +kernel⟩, List.mem_of_getElem? (i := 176) (by decide +kernel), List.mem_of_getElem? (i := 627) (by decide +kernel), List.mem_of_getElem? (i := 628) (by decide +kernel)⟩
theorem lw_p19 : lw_okq (⟨"BlockFront$Parser", "statement", "(II)V"⟩, 4) := ⟨⟨by decide +kernel, by decide +kernel⟩, List.mem_of_getElem? (i := 176) (by decide +kernel), List.mem_of_getElem? (i := 635) (by decide +kernel), List.mem_of_getElem? (i := 636) (by decide +kernel)⟩
theorem lw_p20 : lw_okq (⟨"BlockFront$Parser", "branches", "(I)I"⟩, 4) := ⟨⟨by decide +kernel, by decide +kernel⟩, List.mem_of_getElem? (i := 176) (by decide +kernel), List.mem_of_getElem? (i := 639) (by decide +kernel), List.mem_of_getElem? (i := 640) (by decide +kernel)⟩
theorem lw_p21 : lw_okq (⟨"BlockFront$Parser", "conditional", "(II)I"⟩, 4) := ⟨⟨by decide +kernel, by decide +kernel⟩, List.mem_of_getElem? (i := 176) (by decide +kernel), List.mem_of_getElem? (i := 643) (by decide +kernel), List.mem_of_getElem? (i := 644) (by decide +kernel)⟩
theorem lw_p22 : lw_okq (⟨"BlockFront$Parser", "advance", "()I"⟩, 4) := ⟨⟨by decide +kernel, by decide +kernel⟩, List.mem_of_getElem? (i := 176) (by decide +kernel), List.mem_of_getElem? (i := 647) (by decide +kernel), List.mem_of_getElem? (i := 648) (by decide +kernel)⟩
theorem lw_p23 : lw_okq (⟨"BlockFront$Parser", "tier", "(II)I"⟩, 4) := ⟨⟨by decide +kernel, by decide +kernel⟩, List.mem_of_getElem? (i := 176) (by decide +kernel), List.mem_of_getElem? (i := 651) (by decide +kernel), List.mem_of_getElem? (i := 652) (by decide +kernel)⟩
theorem lw_p24 : lw_okq (⟨"BlockFront$Parser", "prefixed", "(II)I"⟩, 4) := ⟨⟨by decide +kernel, by decide +kernel⟩, List.mem_of_getElem? (i := 176) (by decide +kernel), List.mem_of_getElem? (i := 655) (by decide +kernel), List.mem_of_getElem? (i := 656) (by decide +kernel)⟩
theorem lw_p25 : lw_okq (⟨"BlockFront$Parser", "opened", "(II)I"⟩, 4) := ⟨⟨by decide +kernel, by decide +kernel⟩, List.mem_of_getElem? (i := 176) (by decide +kernel), List.mem_of_getElem? (i := 659) (by decide +kernel), List.mem_of_getElem? (i := 660) (by decide +kernel)⟩
theorem lw_p26 : lw_okq (⟨"BlockFront$Tree", "has", "(I)Z"⟩, 10) := ⟨⟨by decide +kernel, by decide +kernel⟩, List.mem_of_getElem? (i := 89) (by decide +kernel), List.mem_of_getElem? (i := 667) (by decide +kernel), List.mem_of_getElem? (i := 668) (by decide +kernel)⟩
theorem lw_p27 : lw_okq (⟨"BlockFront$Parser", "checkHeight", "(I)V"⟩, 4) := ⟨⟨by decide +kernel, by decide +kernel⟩, List.mem_of_getElem? (i := 176) (by decide +kernel), List.mem_of_getElem? (i := 672) (by decide +kernel), List.mem_of_getElem? (i := 673) (by decide +kernel)⟩
theorem lw_p28 : lw_okq (⟨"BlockFront$Parser", "part", "(I)I"⟩, 4) := ⟨⟨by decide +kernel, by decide +kernel⟩, List.mem_of_getElem? (i := 176) (by decide +kernel), List.mem_of_getElem? (i := 684) (by decide +kernel), List.mem_of_getElem? (i := 685) (by decide +kernel)⟩
theorem lw_p29 : lw_okq (⟨"BlockFront$Parser", "atom", "(I)I"⟩, 4) := ⟨⟨by decide +kernel, by decide +kernel⟩, List.mem_of_getElem? (i := 176) (by decide +kernel), List.mem_of_getElem? (i := 688) (by decide +kernel), List.mem_of_getElem? (i := 689) (by decide +kernel)⟩
theorem lw_p30 : lw_okq (⟨"BlockFront$Parser", "bracketed", "(I)I"⟩, 4) := ⟨⟨by decide +kernel, by decide +kernel⟩, List.mem_of_getElem? (i := 176) (by decide +kernel), List.mem_of_getElem? (i := 692) (by decide +kernel), List.mem_of_getElem? (i := 693) (by decide +kernel)⟩
theorem lw_p31 : lw_okq (⟨"BlockFront$Parser", "expect", "(I)I"⟩, 4) := ⟨⟨by decide +kernel, by decide +kernel⟩, List.mem_of_getElem? (i := 176) (by decide +kernel), List.mem_of_getElem? (i := 696) (by decide +kernel), List.mem_of_getElem? (i := 697) (by decide +kernel)⟩
def lw_privs_2 : List (MethodName × Nat) := [(⟨"BlockFront$Scanner", "closeBracket", "(C)V"⟩, 8), (⟨"BlockFront$Scanner", "finish", "()V"⟩, 8), (⟨"BlockFront$Parser", "isAt", "(I)Z"⟩, 4), (⟨"BlockFront$Parser", "statement", "(II)V"⟩, 4), (⟨"BlockFront$Parser", "branches", "(I)I"⟩, 4), (⟨"BlockFront$Parser", "conditional", "(II)I"⟩, 4), (⟨"BlockFront$Parser", "advance", "()I"⟩, 4), (⟨"BlockFront$Parser", "tier", "(II)I"⟩, 4), (⟨"BlockFront$Parser", "prefixed", "(II)I"⟩, 4), (⟨"BlockFront$Parser", "opened", "(II)I"⟩, 4), (⟨"BlockFront$Tree", "has", "(I)Z"⟩, 10), (⟨"BlockFront$Parser", "checkHeight", "(I)V"⟩, 4), (⟨"BlockFront$Parser", "part", "(I)I"⟩, 4), (⟨"BlockFront$Parser", "atom", "(I)I"⟩, 4), (⟨"BlockFront$Parser", "bracketed", "(I)I"⟩, 4), (⟨"BlockFront$Parser", "expect", "(I)I"⟩, 4)]
theorem lw_r2 : ∀ q ∈ lw_privs_2, lw_okq q := List.forall_mem_cons.mpr ⟨lw_p16, List.forall_mem_cons.mpr ⟨lw_p17, List.forall_mem_cons.mpr ⟨lw_p18, List.forall_mem_cons.mpr ⟨lw_p19, List.forall_mem_cons.mpr ⟨lw_p20, List.forall_mem_cons.mpr ⟨lw_p21, List.forall_mem_cons.mpr ⟨lw_p22, List.forall_mem_cons.mpr ⟨lw_p23, List.forall_mem_cons.mpr ⟨lw_p24, List.forall_mem_cons.mpr ⟨lw_p25, List.forall_mem_cons.mpr ⟨lw_p26, List.forall_mem_cons.mpr ⟨lw_p27, List.forall_mem_cons.mpr ⟨lw_p28, List.forall_mem_cons.mpr ⟨lw_p29, List.forall_mem_cons.mpr ⟨lw_p30, List.forall_mem_cons.mpr ⟨lw_p31, fun _ h => absurd h List.not_mem_nil⟩⟩⟩⟩⟩⟩⟩⟩⟩⟩⟩⟩⟩⟩⟩⟩
theorem lw_p32 : lw_okq (⟨"BlockFront$Parser", "list", "(I)I"⟩, 4) := ⟨⟨by decide +kernel, by decide +kernel⟩, List.mem_of_getElem? (i := 176) (by decide +kernel), List.mem_of_getElem? (i := 700) (by decide +kernel), List.mem_of_getElem? (i := 701) (by decide +kernel)⟩
theorem lw_p33 : lw_okq (⟨"BlockFront$Parser", "addExpressions", "(III)V"⟩, 4) := ⟨⟨by decide +kernel, by decide +kernel⟩, List.mem_of_getElem? (i := 176) (by decide +kernel), List.mem_of_getElem? (i := 704) (by decide +kernel), List.mem_of_getElem? (i := 705) (by decide +kernel)⟩
theorem lw_p34 : lw_okq (⟨"BlockFront$Parser", "member", "(I)I"⟩, 4) := ⟨⟨by decide +kernel, by decide +kernel⟩, List.mem_of_getElem? (i := 176) (by decide +kernel), List.mem_of_getElem? (i := 708) (by decide +kernel), List.mem_of_getElem? (i := 709) (by decide +kernel)⟩
theorem lw_p35 : lw_okq (⟨"BlockFront$Parser", "call", "(II)I"⟩, 4) := ⟨⟨by decide +kernel, by decide +kernel⟩, List.mem_of_getElem? (i := 176) (by decide +kernel), List.mem_of_getElem? (i := 712) (by decide +kernel), List.mem_of_getElem? (i := 713) (by decide +kernel)⟩
theorem lw_p36 : lw_okq (⟨"BlockFront$Parser", "index", "(II)I"⟩, 4) := ⟨⟨by decide +kernel, by decide +kernel⟩, List.mem_of_getElem? (i := 176) (by decide +kernel), List.mem_of_getElem? (i := 716) (by decide +kernel), List.mem_of_getElem? (i := 717) (by decide +kernel)⟩
theorem lw_p37 : lw_okq (⟨"BlockFront$Parser", "block", "(I)I"⟩, 4) := ⟨⟨by decide +kernel, by decide +kernel⟩, List.mem_of_getElem? (i := 176) (by decide +kernel), List.mem_of_getElem? (i := 726) (by decide +kernel), List.mem_of_getElem? (i := 727) (by decide +kernel)⟩
theorem lw_p38 : lw_okq (⟨"BlockFront$Parser", "line", "(I)V"⟩, 4) := ⟨⟨by decide +kernel, by decide +kernel⟩, List.mem_of_getElem? (i := 176) (by decide +kernel), List.mem_of_getElem? (i := 731) (by decide +kernel), List.mem_of_getElem? (i := 732) (by decide +kernel)⟩
theorem lw_p39 : lw_okq (⟨"BlockFront$Parser", "small", "(I)V"⟩, 4) := ⟨⟨by decide +kernel, by decide +kernel⟩, List.mem_of_getElem? (i := 176) (by decide +kernel), List.mem_of_getElem? (i := 735) (by decide +kernel), List.mem_of_getElem? (i := 736) (by decide +kernel)⟩
theorem lw_p40 : lw_okq (⟨"BlockFront$Parser", "addStatement", "(II)V"⟩, 4) := ⟨⟨by decide +kernel, by decide +kernel⟩, List.mem_of_getElem? (i := 176) (by decide +kernel), List.mem_of_getElem? (i := 739) (by decide +kernel), List.mem_of_getElem? (i := 740) (by decide +kernel)⟩
theorem lw_p41 : lw_okq (⟨"BlockFront$Parser", "definition", "(I)I"⟩, 4) := ⟨⟨by decide +kernel, by decide +kernel⟩, List.mem_of_getElem? (i := 176) (by decide +kernel), List.mem_of_getElem? (i := 751) (by decide +kernel), List.mem_of_getElem? (i := 752) (by decide +kernel)⟩
theorem lw_p42 : lw_okq (⟨"BlockFront$Tree", "behind", "(I)I"⟩, 10) := ⟨⟨by decide +kernel, by decide +kernel⟩, List.mem_of_getElem? (i := 89) (by decide +kernel), List.mem_of_getElem? (i := 759) (by decide +kernel), List.mem_of_getElem? (i := 760) (by decide +kernel)⟩
theorem lw_p43 : lw_okq (⟨"BlockFront$Writer", "writeBlock", "(II)V"⟩, 5) := ⟨⟨by decide +kernel, by decide +kernel⟩, List.mem_of_getElem? (i := 195) (by decide +kernel), List.mem_of_getElem? (i := 787) (by decide +kernel), List.mem_of_getElem? (i := 788) (by decide +kernel)⟩
theorem lw_p44 : lw_okq (⟨"BlockFront$Writer", "writeStatement", "(II)V"⟩, 5) := ⟨⟨by decide +kernel, by decide +kernel⟩, List.mem_of_getElem? (i := 195) (by decide +kernel), List.mem_of_getElem? (i := 795) (by decide +kernel), List.mem_of_getElem? (i := 796) (by decide +kernel)⟩
theorem lw_p45 : lw_okq (⟨"BlockFront$Writer", "beginLine", "(I)V"⟩, 5) := ⟨⟨by decide +kernel, by decide +kernel⟩, List.mem_of_getElem? (i := 195) (by decide +kernel), List.mem_of_getElem? (i := 799) (by decide +kernel), List.mem_of_getElem? (i := 800) (by decide +kernel)⟩
theorem lw_p46 : lw_okq (⟨"BlockFront$Writer", "putWord", "(Ljava/lang/String;)V"⟩, 5) := ⟨⟨by decide +kernel, by decide +kernel⟩, List.mem_of_getElem? (i := 195) (by decide +kernel), List.mem_of_getElem? (i := 804) (by decide +kernel), List.mem_of_getElem? (i := 805) (by decide +kernel)⟩
theorem lw_p47 : lw_okq (⟨"BlockFront$Writer", "put", "(C)V"⟩, 5) := ⟨⟨by decide +kernel, by decide +kernel⟩, List.mem_of_getElem? (i := 195) (by decide +kernel), List.mem_of_getElem? (i := 810) (by decide +kernel), List.mem_of_getElem? (i := 811) (by decide +kernel)⟩
def lw_privs_3 : List (MethodName × Nat) := [(⟨"BlockFront$Parser", "list", "(I)I"⟩, 4), (⟨"BlockFront$Parser", "addExpressions", "(III)V"⟩, 4), (⟨"BlockFront$Parser", "member", "(I)I"⟩, 4), (⟨"BlockFront$Parser", "call", "(II)I"⟩, 4), (⟨"BlockFront$Parser", "index", "(II)I"⟩, 4), (⟨"BlockFront$Parser", "block", "(I)I"⟩, 4), (⟨"BlockFront$Parser", "line", "(I)V"⟩, 4), (⟨"BlockFront$Parser", "small", "(I)V"⟩, 4), (⟨"BlockFront$Parser", "addStatement", "(II)V"⟩, 4), (⟨"BlockFront$Parser", "definition", "(I)I"⟩, 4), (⟨"BlockFront$Tree", "behind", "(I)I"⟩, 10), (⟨"BlockFront$Writer", "writeBlock", "(II)V"⟩, 5), (⟨"BlockFront$Writer", "writeStatement", "(II)V"⟩, 5), (⟨"BlockFront$Writer", "beginLine", "(I)V"⟩, 5), (⟨"BlockFront$Writer", "putWord", "(Ljava/lang/String;)V"⟩, 5), (⟨"BlockFront$Writer", "put", "(C)V"⟩, 5)]
theorem lw_r3 : ∀ q ∈ lw_privs_3, lw_okq q := List.forall_mem_cons.mpr ⟨lw_p32, List.forall_mem_cons.mpr ⟨lw_p33, List.forall_mem_cons.mpr ⟨lw_p34, List.forall_mem_cons.mpr ⟨lw_p35, List.forall_mem_cons.mpr ⟨lw_p36, List.forall_mem_cons.mpr ⟨lw_p37, List.forall_mem_cons.mpr ⟨lw_p38, List.forall_mem_cons.mpr ⟨lw_p39, List.forall_mem_cons.mpr ⟨lw_p40, List.forall_mem_cons.mpr ⟨lw_p41, List.forall_mem_cons.mpr ⟨lw_p42, List.forall_mem_cons.mpr ⟨lw_p43, List.forall_mem_cons.mpr ⟨lw_p44, List.forall_mem_cons.mpr ⟨lw_p45, List.forall_mem_cons.mpr ⟨lw_p46, List.forall_mem_cons.mpr ⟨lw_p47, fun _ h => absurd h List.not_mem_nil⟩⟩⟩⟩⟩⟩⟩⟩⟩⟩⟩⟩⟩⟩⟩⟩
theorem lw_p48 : lw_okq (⟨"BlockFront$Writer", "writeBranches", "(II)V"⟩, 5) := ⟨⟨by decide +kernel, by decide +kernel⟩, List.mem_of_getElem? (i := 195) (by decide +kernel), List.mem_of_getElem? (i := 818) (by decide +kernel), List.mem_of_getElem? (i := 819) (by decide +kernel)⟩
theorem lw_p49 : lw_okq (⟨"BlockFront$Writer", "writeConditional", "(II)I"⟩, 5) := ⟨⟨by decide +kernel, by decide +kernel⟩, List.mem_of_getElem? (i := 195) (by decide +kernel), List.mem_of_getElem? (i := 822) (by decide +kernel), List.mem_of_getElem? (i := 823) (by decide +kernel)⟩
theorem lw_p50 : lw_okq (⟨"BlockFront$Writer", "putTokenOf", "(I)V"⟩, 5) := ⟨⟨by decide +kernel, by decide +kernel⟩, List.mem_of_getElem? (i := 195) (by decide +kernel), List.mem_of_getElem? (i := 827) (by decide +kernel), List.mem_of_getElem? (i := 828) (by decide +kernel)⟩
theorem lw_p51 : lw_okq (⟨"BlockFront$Writer", "writeExpression", "(II)V"⟩, 5) := ⟨⟨by decide +kernel, by decide +kernel⟩, List.mem_of_getElem? (i := 195) (by decide +kernel), List.mem_of_getElem? (i := 838) (by decide +kernel), List.mem_of_getElem? (i := 839) (by decide +kernel)⟩
theorem lw_p52 : lw_okq (⟨"BlockFront$Writer", "writePart", "(III)V"⟩, 5) := ⟨⟨by decide +kernel, by decide +kernel⟩, List.mem_of_getElem? (i := 195) (by decide +kernel), List.mem_of_getElem? (i := 842) (by decide +kernel), List.mem_of_getElem? (i := 843) (by decide +kernel)⟩
theorem lw_p53 : lw_okq (⟨"BlockFront$Writer", "needsBrackets", "(II)Z"⟩, 5) := ⟨⟨by decide +kernel, by decide +kernel⟩, List.mem_of_getElem? (i := 195) (by decide +kernel), List.mem_of_getElem? (i := 846) (by decide +kernel), List.mem_of_getElem? (i := 847) (by decide +kernel)⟩
theorem lw_p54 : lw_okq (⟨"BlockFront$Writer", "strengthOf", "(I)I"⟩, 5) := ⟨⟨by decide +kernel, by decide +kernel⟩, List.mem_of_getElem? (i := 195) (by decide +kernel), List.mem_of_getElem? (i := 850) (by decide +kernel), List.mem_of_getElem? (i := 851) (by decide +kernel)⟩
theorem lw_p55 : lw_okq (⟨"BlockFront$Writer", "writeExpressions", "(CICI)V"⟩, 5) := ⟨⟨by decide +kernel, by decide +kernel⟩, List.mem_of_getElem? (i := 195) (by decide +kernel), List.mem_of_getElem? (i := 857) (by decide +kernel), List.mem_of_getElem? (i := 858) (by decide +kernel)⟩
theorem lw_p56 : lw_okq (⟨"BlockFront$Writer", "writeDefinition", "(II)V"⟩, 5) := ⟨⟨by decide +kernel, by decide +kernel⟩, List.mem_of_getElem? (i := 195) (by decide +kernel), List.mem_of_getElem? (i := 864) (by decide +kernel), List.mem_of_getElem? (i := 865) (by decide +kernel)⟩
theorem lw_p57 : lw_okq (⟨"BlockFront$Writer", "writeSmall", "(I)V"⟩, 5) := ⟨⟨by decide +kernel, by decide +kernel⟩, List.mem_of_getElem? (i := 195) (by decide +kernel), List.mem_of_getElem? (i := 870) (by decide +kernel), List.mem_of_getElem? (i := 871) (by decide +kernel)⟩
theorem lw_p58 : lw_okq (⟨"BlockFrontModel", "take", "()Z"⟩, 43) := ⟨⟨by decide +kernel, by decide +kernel⟩, List.mem_of_getElem? (i := 932) (by decide +kernel), List.mem_of_getElem? (i := 1090) (by decide +kernel), List.mem_of_getElem? (i := 1091) (by decide +kernel)⟩
theorem lw_p59 : lw_okq (⟨"BlockFrontModel", "beginLine", "(I)I"⟩, 43) := ⟨⟨by decide +kernel, by decide +kernel⟩, List.mem_of_getElem? (i := 932) (by decide +kernel), List.mem_of_getElem? (i := 1094) (by decide +kernel), List.mem_of_getElem? (i := 1095) (by decide +kernel)⟩
theorem lw_p60 : lw_okq (⟨"BlockFrontModel", "character", "(I)I"⟩, 43) := ⟨⟨by decide +kernel, by decide +kernel⟩, List.mem_of_getElem? (i := 932) (by decide +kernel), List.mem_of_getElem? (i := 1098) (by decide +kernel), List.mem_of_getElem? (i := 1099) (by decide +kernel)⟩
theorem lw_p61 : lw_okq (⟨"BlockFrontModel", "lineEnd", "(I)I"⟩, 43) := ⟨⟨by decide +kernel, by decide +kernel⟩, List.mem_of_getElem? (i := 932) (by decide +kernel), List.mem_of_getElem? (i := 1105) (by decide +kernel), List.mem_of_getElem? (i := 1106) (by decide +kernel)⟩
theorem lw_p62 : lw_okq (⟨"BlockFrontModel", "compare", "(I)Z"⟩, 43) := ⟨⟨by decide +kernel, by decide +kernel⟩, List.mem_of_getElem? (i := 932) (by decide +kernel), List.mem_of_getElem? (i := 1109) (by decide +kernel), List.mem_of_getElem? (i := 1110) (by decide +kernel)⟩
theorem lw_p63 : lw_okq (⟨"BlockFrontModel", "fault", "(II)Z"⟩, 43) := ⟨⟨by decide +kernel, by decide +kernel⟩, List.mem_of_getElem? (i := 932) (by decide +kernel), List.mem_of_getElem? (i := 1113) (by decide +kernel), List.mem_of_getElem? (i := 1114) (by decide +kernel)⟩
def lw_privs_4 : List (MethodName × Nat) := [(⟨"BlockFront$Writer", "writeBranches", "(II)V"⟩, 5), (⟨"BlockFront$Writer", "writeConditional", "(II)I"⟩, 5), (⟨"BlockFront$Writer", "putTokenOf", "(I)V"⟩, 5), (⟨"BlockFront$Writer", "writeExpression", "(II)V"⟩, 5), (⟨"BlockFront$Writer", "writePart", "(III)V"⟩, 5), (⟨"BlockFront$Writer", "needsBrackets", "(II)Z"⟩, 5), (⟨"BlockFront$Writer", "strengthOf", "(I)I"⟩, 5), (⟨"BlockFront$Writer", "writeExpressions", "(CICI)V"⟩, 5), (⟨"BlockFront$Writer", "writeDefinition", "(II)V"⟩, 5), (⟨"BlockFront$Writer", "writeSmall", "(I)V"⟩, 5), (⟨"BlockFrontModel", "take", "()Z"⟩, 43), (⟨"BlockFrontModel", "beginLine", "(I)I"⟩, 43), (⟨"BlockFrontModel", "character", "(I)I"⟩, 43), (⟨"BlockFrontModel", "lineEnd", "(I)I"⟩, 43), (⟨"BlockFrontModel", "compare", "(I)Z"⟩, 43), (⟨"BlockFrontModel", "fault", "(II)Z"⟩, 43)]
theorem lw_r4 : ∀ q ∈ lw_privs_4, lw_okq q := List.forall_mem_cons.mpr ⟨lw_p48, List.forall_mem_cons.mpr ⟨lw_p49, List.forall_mem_cons.mpr ⟨lw_p50, List.forall_mem_cons.mpr ⟨lw_p51, List.forall_mem_cons.mpr ⟨lw_p52, List.forall_mem_cons.mpr ⟨lw_p53, List.forall_mem_cons.mpr ⟨lw_p54, List.forall_mem_cons.mpr ⟨lw_p55, List.forall_mem_cons.mpr ⟨lw_p56, List.forall_mem_cons.mpr ⟨lw_p57, List.forall_mem_cons.mpr ⟨lw_p58, List.forall_mem_cons.mpr ⟨lw_p59, List.forall_mem_cons.mpr ⟨lw_p60, List.forall_mem_cons.mpr ⟨lw_p61, List.forall_mem_cons.mpr ⟨lw_p62, List.forall_mem_cons.mpr ⟨lw_p63, fun _ h => absurd h List.not_mem_nil⟩⟩⟩⟩⟩⟩⟩⟩⟩⟩⟩⟩⟩⟩⟩⟩
theorem lw_p64 : lw_okq (⟨"BlockFrontModel", "add", "(IIIJ)Z"⟩, 43) := ⟨⟨by decide +kernel, by decide +kernel⟩, List.mem_of_getElem? (i := 932) (by decide +kernel), List.mem_of_getElem? (i := 1117) (by decide +kernel), List.mem_of_getElem? (i := 1118) (by decide +kernel)⟩
theorem lw_p65 : lw_okq (⟨"BlockFrontModel", "goOn", "(I)I"⟩, 43) := ⟨⟨by decide +kernel, by decide +kernel⟩, List.mem_of_getElem? (i := 932) (by decide +kernel), List.mem_of_getElem? (i := 1121) (by decide +kernel), List.mem_of_getElem? (i := 1122) (by decide +kernel)⟩
theorem lw_p66 : lw_okq (⟨"BlockFrontModel", "nameFrom", "(I)I"⟩, 43) := ⟨⟨by decide +kernel, by decide +kernel⟩, List.mem_of_getElem? (i := 932) (by decide +kernel), List.mem_of_getElem? (i := 1128) (by decide +kernel), List.mem_of_getElem? (i := 1129) (by decide +kernel)⟩
theorem lw_p67 : lw_okq (⟨"BlockFrontModel", "numberFrom", "(I)I"⟩, 43) := ⟨⟨by decide +kernel, by decide +kernel⟩, List.mem_of_getElem? (i := 932) (by decide +kernel), List.mem_of_getElem? (i := 1147) (by decide +kernel), List.mem_of_getElem? (i := 1148) (by decide +kernel)⟩
theorem lw_p68 : lw_okq (⟨"BlockFrontModel", "stringFrom", "(I)I"⟩, 43) := ⟨⟨by decide +kernel, by decide +kernel⟩, List.mem_of_getElem? (i := 932) (by decide +kernel), List.mem_of_getElem? (i := 1151) (by decide +kernel), List.mem_of_getElem? (i := 1152) (by decide +kernel)⟩
theorem lw_p69 : lw_okq (⟨"BlockFrontModel", "signFrom", "(I)I"⟩, 43) := ⟨⟨by decide +kernel, by decide +kernel⟩, List.mem_of_getElem? (i := 932) (by decide +kernel), List.mem_of_getElem? (i := 1155) (by decide +kernel), List.mem_of_getElem? (i := 1156) (by decide +kernel)⟩
theorem lw_p70 : lw_okq (⟨"BlockFrontModel", "bracket", "(II)Z"⟩, 43) := ⟨⟨by decide +kernel, by decide +kernel⟩, List.mem_of_getElem? (i := 932) (by decide +kernel), List.mem_of_getElem? (i := 1162) (by decide +kernel), List.mem_of_getElem? (i := 1163) (by decide +kernel)⟩
theorem lw_p71 : lw_okq (⟨"BlockFrontModel", "parse", "()Z"⟩, 43) := ⟨⟨by decide +kernel, by decide +kernel⟩, List.mem_of_getElem? (i := 932) (by decide +kernel), List.mem_of_getElem? (i := 1166) (by decide +kernel), List.mem_of_getElem? (i := 1167) (by decide +kernel)⟩
theorem lw_p72 : lw_okq (⟨"BlockFrontModel", "make", "(II)I"⟩, 43) := ⟨⟨by decide +kernel, by decide +kernel⟩, List.mem_of_getElem? (i := 932) (by decide +kernel), List.mem_of_getElem? (i := 1170) (by decide +kernel), List.mem_of_getElem? (i := 1171) (by decide +kernel)⟩
theorem lw_p73 : lw_okq (⟨"BlockFrontModel", "append", "(II)V"⟩, 43) := ⟨⟨by decide +kernel, by decide +kernel⟩, List.mem_of_getElem? (i := 932) (by decide +kernel), List.mem_of_getElem? (i := 1174) (by decide +kernel), List.mem_of_getElem? (i := 1175) (by decide +kernel)⟩
theorem lw_p74 : lw_okq (⟨"BlockFrontModel", "pass", "(Z)Z"⟩, 43) := ⟨⟨by decide +kernel, by decide +kernel⟩, List.mem_of_getElem? (i := 932) (by decide +kernel), List.mem_of_getElem? (i := 1178) (by decide +kernel), List.mem_of_getElem? (i := 1179) (by decide +kernel)⟩
theorem lw_p75 : lw_okq (⟨"BlockFrontModel", "unfit", "()Z"⟩, 43) := ⟨⟨by decide +kernel, by decide +kernel⟩, List.mem_of_getElem? (i := 932) (by decide +kernel), List.mem_of_getElem? (i := 1182) (by decide +kernel), List.mem_of_getElem? (i := 1183) (by decide +kernel)⟩
theorem lw_p76 : lw_okq (⟨"BlockFrontModel", "line", "(I)Z"⟩, 43) := ⟨⟨by decide +kernel, by decide +kernel⟩, List.mem_of_getElem? (i := 932) (by decide +kernel), List.mem_of_getElem? (i := 1186) (by decide +kernel), List.mem_of_getElem? (i := 1187) (by decide +kernel)⟩
theorem lw_p77 : lw_okq (⟨"BlockFrontModel", "small", "(I)Z"⟩, 43) := ⟨⟨by decide +kernel, by decide +kernel⟩, List.mem_of_getElem? (i := 932) (by decide +kernel), List.mem_of_getElem? (i := 1190) (by decide +kernel), List.mem_of_getElem? (i := 1191) (by decide +kernel)⟩
theorem lw_p78 : lw_okq (⟨"BlockFrontModel", "isWordHere", "(J)Z"⟩, 43) := ⟨⟨by decide +kernel, by decide +kernel⟩, List.mem_of_getElem? (i := 932) (by decide +kernel), List.mem_of_getElem? (i := 1194) (by decide +kernel), List.mem_of_getElem? (i := 1195) (by decide +kernel)⟩
theorem lw_p79 : lw_okq (⟨"BlockFrontModel", "isSignHere", "(I)Z"⟩, 43) := ⟨⟨by decide +kernel, by decide +kernel⟩, List.mem_of_getElem? (i := 932) (by decide +kernel), List.mem_of_getElem? (i := 1198) (by decide +kernel), List.mem_of_getElem? (i := 1199) (by decide +kernel)⟩
def lw_privs_5 : List (MethodName × Nat) := [(⟨"BlockFrontModel", "add", "(IIIJ)Z"⟩, 43), (⟨"BlockFrontModel", "goOn", "(I)I"⟩, 43), (⟨"BlockFrontModel", "nameFrom", "(I)I"⟩, 43), (⟨"BlockFrontModel", "numberFrom", "(I)I"⟩, 43), (⟨"BlockFrontModel", "stringFrom", "(I)I"⟩, 43), (⟨"BlockFrontModel", "signFrom", "(I)I"⟩, 43), (⟨"BlockFrontModel", "bracket", "(II)Z"⟩, 43), (⟨"BlockFrontModel", "parse", "()Z"⟩, 43), (⟨"BlockFrontModel", "make", "(II)I"⟩, 43), (⟨"BlockFrontModel", "append", "(II)V"⟩, 43), (⟨"BlockFrontModel", "pass", "(Z)Z"⟩, 43), (⟨"BlockFrontModel", "unfit", "()Z"⟩, 43), (⟨"BlockFrontModel", "line", "(I)Z"⟩, 43), (⟨"BlockFrontModel", "small", "(I)Z"⟩, 43), (⟨"BlockFrontModel", "isWordHere", "(J)Z"⟩, 43), (⟨"BlockFrontModel", "isSignHere", "(I)Z"⟩, 43)]
theorem lw_r5 : ∀ q ∈ lw_privs_5, lw_okq q := List.forall_mem_cons.mpr ⟨lw_p64, List.forall_mem_cons.mpr ⟨lw_p65, List.forall_mem_cons.mpr ⟨lw_p66, List.forall_mem_cons.mpr ⟨lw_p67, List.forall_mem_cons.mpr ⟨lw_p68, List.forall_mem_cons.mpr ⟨lw_p69, List.forall_mem_cons.mpr ⟨lw_p70, List.forall_mem_cons.mpr ⟨lw_p71, List.forall_mem_cons.mpr ⟨lw_p72, List.forall_mem_cons.mpr ⟨lw_p73, List.forall_mem_cons.mpr ⟨lw_p74, List.forall_mem_cons.mpr ⟨lw_p75, List.forall_mem_cons.mpr ⟨lw_p76, List.forall_mem_cons.mpr ⟨lw_p77, List.forall_mem_cons.mpr ⟨lw_p78, List.forall_mem_cons.mpr ⟨lw_p79, fun _ h => absurd h List.not_mem_nil⟩⟩⟩⟩⟩⟩⟩⟩⟩⟩⟩⟩⟩⟩⟩⟩
theorem lw_p80 : lw_okq (⟨"BlockFrontModel", "expressionOf", "(I)Z"⟩, 43) := ⟨⟨by decide +kernel, by decide +kernel⟩, List.mem_of_getElem? (i := 932) (by decide +kernel), List.mem_of_getElem? (i := 1202) (by decide +kernel), List.mem_of_getElem? (i := 1203) (by decide +kernel)⟩
theorem lw_p81 : lw_okq (⟨"BlockFrontModel", "expression", "()I"⟩, 43) := ⟨⟨by decide +kernel, by decide +kernel⟩, List.mem_of_getElem? (i := 932) (by decide +kernel), List.mem_of_getElem? (i := 1206) (by decide +kernel), List.mem_of_getElem? (i := 1207) (by decide +kernel)⟩
theorem lw_p82 : lw_okq (⟨"BlockFrontModel", "part", "()I"⟩, 43) := ⟨⟨by decide +kernel, by decide +kernel⟩, List.mem_of_getElem? (i := 932) (by decide +kernel), List.mem_of_getElem? (i := 1210) (by decide +kernel), List.mem_of_getElem? (i := 1211) (by decide +kernel)⟩
theorem lw_p83 : lw_okq (⟨"BlockFrontModel", "opener", "()I"⟩, 43) := ⟨⟨by decide +kernel, by decide +kernel⟩, List.mem_of_getElem? (i := 932) (by decide +kernel), List.mem_of_getElem? (i := 1214) (by decide +kernel), List.mem_of_getElem? (i := 1215) (by decide +kernel)⟩
theorem lw_p84 : lw_okq (⟨"BlockFrontModel", "enter", "(II)Z"⟩, 43) := ⟨⟨by decide +kernel, by decide +kernel⟩, List.mem_of_getElem? (i := 932) (by decide +kernel), List.mem_of_getElem? (i := 1218) (by decide +kernel), List.mem_of_getElem? (i := 1219) (by decide +kernel)⟩
theorem lw_p85 : lw_okq (⟨"BlockFrontModel", "endBracket", "(Z)Z"⟩, 43) := ⟨⟨by decide +kernel, by decide +kernel⟩, List.mem_of_getElem? (i := 932) (by decide +kernel), List.mem_of_getElem? (i := 1222) (by decide +kernel), List.mem_of_getElem? (i := 1223) (by decide +kernel)⟩
theorem lw_p86 : lw_okq (⟨"BlockFrontModel", "finish", "(I)Z"⟩, 43) := ⟨⟨by decide +kernel, by decide +kernel⟩, List.mem_of_getElem? (i := 932) (by decide +kernel), List.mem_of_getElem? (i := 1226) (by decide +kernel), List.mem_of_getElem? (i := 1227) (by decide +kernel)⟩
theorem lw_p87 : lw_okq (⟨"BlockFrontModel", "behind", "()I"⟩, 43) := ⟨⟨by decide +kernel, by decide +kernel⟩, List.mem_of_getElem? (i := 932) (by decide +kernel), List.mem_of_getElem? (i := 1230) (by decide +kernel), List.mem_of_getElem? (i := 1231) (by decide +kernel)⟩
theorem lw_p88 : lw_okq (⟨"BlockFrontModel", "apply", "(II)I"⟩, 43) := ⟨⟨by decide +kernel, by decide +kernel⟩, List.mem_of_getElem? (i := 932) (by decide +kernel), List.mem_of_getElem? (i := 1234) (by decide +kernel), List.mem_of_getElem? (i := 1235) (by decide +kernel)⟩
theorem lw_p89 : lw_okq (⟨"BlockFrontModel", "member", "()I"⟩, 43) := ⟨⟨by decide +kernel, by decide +kernel⟩, List.mem_of_getElem? (i := 932) (by decide +kernel), List.mem_of_getElem? (i := 1238) (by decide +kernel), List.mem_of_getElem? (i := 1239) (by decide +kernel)⟩
theorem lw_p90 : lw_okq (⟨"BlockFrontModel", "strength", "()I"⟩, 43) := ⟨⟨by decide +kernel, by decide +kernel⟩, List.mem_of_getElem? (i := 932) (by decide +kernel), List.mem_of_getElem? (i := 1242) (by decide +kernel), List.mem_of_getElem? (i := 1243) (by decide +kernel)⟩
theorem lw_p91 : lw_okq (⟨"BlockFrontModel", "close", "(I)Z"⟩, 43) := ⟨⟨by decide +kernel, by decide +kernel⟩, List.mem_of_getElem? (i := 932) (by decide +kernel), List.mem_of_getElem? (i := 1246) (by decide +kernel), List.mem_of_getElem? (i := 1247) (by decide +kernel)⟩
theorem lw_p92 : lw_okq (⟨"BlockFrontModel", "head", "(I)Z"⟩, 43) := ⟨⟨by decide +kernel, by decide +kernel⟩, List.mem_of_getElem? (i := 932) (by decide +kernel), List.mem_of_getElem? (i := 1254) (by decide +kernel), List.mem_of_getElem? (i := 1255) (by decide +kernel)⟩
theorem lw_p93 : lw_okq (⟨"BlockFrontModel", "parameters", "(I)Z"⟩, 43) := ⟨⟨by decide +kernel, by decide +kernel⟩, List.mem_of_getElem? (i := 932) (by decide +kernel), List.mem_of_getElem? (i := 1258) (by decide +kernel), List.mem_of_getElem? (i := 1259) (by decide +kernel)⟩
theorem lw_p94 : lw_okq (⟨"BlockFrontModel", "blockOf", "(I)I"⟩, 43) := ⟨⟨by decide +kernel, by decide +kernel⟩, List.mem_of_getElem? (i := 932) (by decide +kernel), List.mem_of_getElem? (i := 1262) (by decide +kernel), List.mem_of_getElem? (i := 1263) (by decide +kernel)⟩
theorem lw_p95 : lw_okq (⟨"BlockFrontModel", "compound", "()I"⟩, 43) := ⟨⟨by decide +kernel, by decide +kernel⟩, List.mem_of_getElem? (i := 932) (by decide +kernel), List.mem_of_getElem? (i := 1266) (by decide +kernel), List.mem_of_getElem? (i := 1267) (by decide +kernel)⟩
def lw_privs_6 : List (MethodName × Nat) := [(⟨"BlockFrontModel", "expressionOf", "(I)Z"⟩, 43), (⟨"BlockFrontModel", "expression", "()I"⟩, 43), (⟨"BlockFrontModel", "part", "()I"⟩, 43), (⟨"BlockFrontModel", "opener", "()I"⟩, 43), (⟨"BlockFrontModel", "enter", "(II)Z"⟩, 43), (⟨"BlockFrontModel", "endBracket", "(Z)Z"⟩, 43), (⟨"BlockFrontModel", "finish", "(I)Z"⟩, 43), (⟨"BlockFrontModel", "behind", "()I"⟩, 43), (⟨"BlockFrontModel", "apply", "(II)I"⟩, 43), (⟨"BlockFrontModel", "member", "()I"⟩, 43), (⟨"BlockFrontModel", "strength", "()I"⟩, 43), (⟨"BlockFrontModel", "close", "(I)Z"⟩, 43), (⟨"BlockFrontModel", "head", "(I)Z"⟩, 43), (⟨"BlockFrontModel", "parameters", "(I)Z"⟩, 43), (⟨"BlockFrontModel", "blockOf", "(I)I"⟩, 43), (⟨"BlockFrontModel", "compound", "()I"⟩, 43)]
theorem lw_r6 : ∀ q ∈ lw_privs_6, lw_okq q := List.forall_mem_cons.mpr ⟨lw_p80, List.forall_mem_cons.mpr ⟨lw_p81, List.forall_mem_cons.mpr ⟨lw_p82, List.forall_mem_cons.mpr ⟨lw_p83, List.forall_mem_cons.mpr ⟨lw_p84, List.forall_mem_cons.mpr ⟨lw_p85, List.forall_mem_cons.mpr ⟨lw_p86, List.forall_mem_cons.mpr ⟨lw_p87, List.forall_mem_cons.mpr ⟨lw_p88, List.forall_mem_cons.mpr ⟨lw_p89, List.forall_mem_cons.mpr ⟨lw_p90, List.forall_mem_cons.mpr ⟨lw_p91, List.forall_mem_cons.mpr ⟨lw_p92, List.forall_mem_cons.mpr ⟨lw_p93, List.forall_mem_cons.mpr ⟨lw_p94, List.forall_mem_cons.mpr ⟨lw_p95, fun _ h => absurd h List.not_mem_nil⟩⟩⟩⟩⟩⟩⟩⟩⟩⟩⟩⟩⟩⟩⟩⟩
theorem lw_p96 : lw_okq (⟨"BlockFrontModel", "count", "()V"⟩, 43) := ⟨⟨by decide +kernel, by decide +kernel⟩, List.mem_of_getElem? (i := 932) (by decide +kernel), List.mem_of_getElem? (i := 1270) (by decide +kernel), List.mem_of_getElem? (i := 1271) (by decide +kernel)⟩
theorem lw_p97 : lw_okq (⟨"BlockFrontModel", "write", "()V"⟩, 43) := ⟨⟨by decide +kernel, by decide +kernel⟩, List.mem_of_getElem? (i := 932) (by decide +kernel), List.mem_of_getElem? (i := 1274) (by decide +kernel), List.mem_of_getElem? (i := 1275) (by decide +kernel)⟩
theorem lw_p98 : lw_okq (⟨"BlockFrontModel", "indent", "(I)V"⟩, 43) := ⟨⟨by decide +kernel, by decide +kernel⟩, List.mem_of_getElem? (i := 932) (by decide +kernel), List.mem_of_getElem? (i := 1278) (by decide +kernel), List.mem_of_getElem? (i := 1279) (by decide +kernel)⟩
theorem lw_p99 : lw_okq (⟨"BlockFrontModel", "put", "(I)V"⟩, 43) := ⟨⟨by decide +kernel, by decide +kernel⟩, List.mem_of_getElem? (i := 932) (by decide +kernel), List.mem_of_getElem? (i := 1282) (by decide +kernel), List.mem_of_getElem? (i := 1283) (by decide +kernel)⟩
theorem lw_p100 : lw_okq (⟨"BlockFrontModel", "isCompound", "(I)Z"⟩, 43) := ⟨⟨by decide +kernel, by decide +kernel⟩, List.mem_of_getElem? (i := 932) (by decide +kernel), List.mem_of_getElem? (i := 1286) (by decide +kernel), List.mem_of_getElem? (i := 1287) (by decide +kernel)⟩
theorem lw_p101 : lw_okq (⟨"BlockFrontModel", "putHead", "(I)V"⟩, 43) := ⟨⟨by decide +kernel, by decide +kernel⟩, List.mem_of_getElem? (i := 932) (by decide +kernel), List.mem_of_getElem? (i := 1290) (by decide +kernel), List.mem_of_getElem? (i := 1291) (by decide +kernel)⟩
theorem lw_p102 : lw_okq (⟨"BlockFrontModel", "putWord", "(J)V"⟩, 43) := ⟨⟨by decide +kernel, by decide +kernel⟩, List.mem_of_getElem? (i := 932) (by decide +kernel), List.mem_of_getElem? (i := 1294) (by decide +kernel), List.mem_of_getElem? (i := 1295) (by decide +kernel)⟩
theorem lw_p103 : lw_okq (⟨"BlockFrontModel", "putToken", "(I)V"⟩, 43) := ⟨⟨by decide +kernel, by decide +kernel⟩, List.mem_of_getElem? (i := 932) (by decide +kernel), List.mem_of_getElem? (i := 1298) (by decide +kernel), List.mem_of_getElem? (i := 1299) (by decide +kernel)⟩
theorem lw_p104 : lw_okq (⟨"BlockFrontModel", "putExpression", "(I)V"⟩, 43) := ⟨⟨by decide +kernel, by decide +kernel⟩, List.mem_of_getElem? (i := 932) (by decide +kernel), List.mem_of_getElem? (i := 1302) (by decide +kernel), List.mem_of_getElem? (i := 1303) (by decide +kernel)⟩
theorem lw_p105 : lw_okq (⟨"BlockFrontModel", "putBefore", "(II)V"⟩, 43) := ⟨⟨by decide +kernel, by decide +kernel⟩, List.mem_of_getElem? (i := 932) (by decide +kernel), List.mem_of_getElem? (i := 1306) (by decide +kernel), List.mem_of_getElem? (i := 1307) (by decide +kernel)⟩
theorem lw_p106 : lw_okq (⟨"BlockFrontModel", "inBrackets", "(III)Z"⟩, 43) := ⟨⟨by decide +kernel, by decide +kernel⟩, List.mem_of_getElem? (i := 932) (by decide +kernel), List.mem_of_getElem? (i := 1310) (by decide +kernel), List.mem_of_getElem? (i := 1311) (by decide +kernel)⟩
theorem lw_p107 : lw_okq (⟨"BlockFrontModel", "strengthOf", "(I)I"⟩, 43) := ⟨⟨by decide +kernel, by decide +kernel⟩, List.mem_of_getElem? (i := 932) (by decide +kernel), List.mem_of_getElem? (i := 1314) (by decide +kernel), List.mem_of_getElem? (i := 1315) (by decide +kernel)⟩
theorem lw_p108 : lw_okq (⟨"BlockFrontModel", "putSimple", "(I)V"⟩, 43) := ⟨⟨by decide +kernel, by decide +kernel⟩, List.mem_of_getElem? (i := 932) (by decide +kernel), List.mem_of_getElem? (i := 1318) (by decide +kernel), List.mem_of_getElem? (i := 1319) (by decide +kernel)⟩
def lw_privs_7 : List (MethodName × Nat) := [(⟨"BlockFrontModel", "count", "()V"⟩, 43), (⟨"BlockFrontModel", "write", "()V"⟩, 43), (⟨"BlockFrontModel", "indent", "(I)V"⟩, 43), (⟨"BlockFrontModel", "put", "(I)V"⟩, 43), (⟨"BlockFrontModel", "isCompound", "(I)Z"⟩, 43), (⟨"BlockFrontModel", "putHead", "(I)V"⟩, 43), (⟨"BlockFrontModel", "putWord", "(J)V"⟩, 43), (⟨"BlockFrontModel", "putToken", "(I)V"⟩, 43), (⟨"BlockFrontModel", "putExpression", "(I)V"⟩, 43), (⟨"BlockFrontModel", "putBefore", "(II)V"⟩, 43), (⟨"BlockFrontModel", "inBrackets", "(III)Z"⟩, 43), (⟨"BlockFrontModel", "strengthOf", "(I)I"⟩, 43), (⟨"BlockFrontModel", "putSimple", "(I)V"⟩, 43)]
theorem lw_r7 : ∀ q ∈ lw_privs_7, lw_okq q := List.forall_mem_cons.mpr ⟨lw_p96, List.forall_mem_cons.mpr ⟨lw_p97, List.forall_mem_cons.mpr ⟨lw_p98, List.forall_mem_cons.mpr ⟨lw_p99, List.forall_mem_cons.mpr ⟨lw_p100, List.forall_mem_cons.mpr ⟨lw_p101, List.forall_mem_cons.mpr ⟨lw_p102, List.forall_mem_cons.mpr ⟨lw_p103, List.forall_mem_cons.mpr ⟨lw_p104, List.forall_mem_cons.mpr ⟨lw_p105, List.forall_mem_cons.mpr ⟨lw_p106, List.forall_mem_cons.mpr ⟨lw_p107, List.forall_mem_cons.mpr ⟨lw_p108, fun _ h => absurd h List.not_mem_nil⟩⟩⟩⟩⟩⟩⟩⟩⟩⟩⟩⟩⟩
def lw_privs : List (MethodName × Nat) := lw_privs_1 ++ (lw_privs_2 ++ (lw_privs_3 ++ (lw_privs_4 ++ (lw_privs_5 ++ (lw_privs_6 ++ (lw_privs_7))))))
def lw_tbl : List Cond := k2_sels lw_privs ++ tables_1
theorem lw_privs_ok : ∀ q ∈ lw_privs, lw_okq q := by
  show ∀ q ∈ lw_privs_1 ++ (lw_privs_2 ++ (lw_privs_3 ++ (lw_privs_4 ++ (lw_privs_5 ++ (lw_privs_6 ++ (lw_privs_7)))))), lw_okq q
  exact List.forall_mem_append.mpr ⟨lw_r1, List.forall_mem_append.mpr ⟨lw_r2, List.forall_mem_append.mpr ⟨lw_r3, List.forall_mem_append.mpr ⟨lw_r4, List.forall_mem_append.mpr ⟨lw_r5, List.forall_mem_append.mpr ⟨lw_r6, lw_r7⟩⟩⟩⟩⟩⟩
-- ===== the tables of the program, printed by a text program of ours out of the Statement =====
def am_nm : List String := ["BlockFront$Parser", "BlockFront$Pile", "BlockFront$Refusal", "BlockFront$Scanner", "BlockFront$Text", "BlockFront$Tokens", "BlockFront$Tree", "BlockFront$Writer", "BlockFront", "BlockFrontModel", "BlockFrontLaw", "java/lang/Math", "java/lang/String", "java/lang/StringLatin1"]
def am_ex : List String := ["java/lang/IllegalArgumentException", "java/lang/IllegalStateException", "java/lang/UnsupportedOperationException", "java/util/NoSuchElementException"]
def am_F0 : List (String × String × String × Bool) := [("BlockFront$Parser", "tokens", "LBlockFront$Tokens;", true), ("BlockFront$Parser", "tree", "LBlockFront$Tree;", true), ("BlockFront$Parser", "refusal", "LBlockFront$Refusal;", true), ("BlockFront$Parser", "next", "I", false)]
def am_T0 : u_T := fun k => am_F0.getD k ("", "", "", false)
def am_t0 : List FieldType := [.object "BlockFront$Tokens", .object "BlockFront$Tree", .object "BlockFront$Refusal", .int]
def am_F1 : List (String × String × String × Bool) := [("BlockFront$Pile", "numbers", "[I", true), ("BlockFront$Pile", "size", "I", false)]
def am_T1 : u_T := fun k => am_F1.getD k ("", "", "", false)
def am_t1 : List FieldType := [.array .int, .int]
def am_F2 : List (String × String × String × Bool) := [("BlockFront$Refusal", "reason", "I", false), ("BlockFront$Refusal", "place", "I", false)]
def am_T2 : u_T := fun k => am_F2.getD k ("", "", "", false)
def am_t2 : List FieldType := [.int, .int]
def am_F3 : List (String × String × String × Bool) := [("BlockFront$Scanner", "text", "LBlockFront$Text;", true), ("BlockFront$Scanner", "tokens", "LBlockFront$Tokens;", true), ("BlockFront$Scanner", "refusal", "LBlockFront$Refusal;", true), ("BlockFront$Scanner", "widths", "LBlockFront$Pile;", true), ("BlockFront$Scanner", "narrows", "LBlockFront$Pile;", true), ("BlockFront$Scanner", "brackets", "LBlockFront$Pile;", true), ("BlockFront$Scanner", "place", "I", false), ("BlockFront$Scanner", "inLine", "Z", false)]
def am_T3 : u_T := fun k => am_F3.getD k ("", "", "", false)
def am_t3 : List FieldType := [.object "BlockFront$Text", .object "BlockFront$Tokens", .object "BlockFront$Refusal", .object "BlockFront$Pile", .object "BlockFront$Pile", .object "BlockFront$Pile", .int, .boolean]
def am_F4 : List (String × String × String × Bool) := [("BlockFront$Text", "characters", "[C", true), ("BlockFront$Text", "size", "I", false)]
def am_T4 : u_T := fun k => am_F4.getD k ("", "", "", false)
def am_t4 : List FieldType := [.array .char, .int]
def am_F5 : List (String × String × String × Bool) := [("BlockFront$Tokens", "kinds", "[I", true), ("BlockFront$Tokens", "marks", "[I", true), ("BlockFront$Tokens", "places", "[I", true), ("BlockFront$Tokens", "extents", "[I", true), ("BlockFront$Tokens", "size", "I", false)]
def am_T5 : u_T := fun k => am_F5.getD k ("", "", "", false)
def am_t5 : List FieldType := [.array .int, .array .int, .array .int, .array .int, .int]
def am_F6 : List (String × String × String × Bool) := [("BlockFront$Tree", "kinds", "[I", true), ("BlockFront$Tree", "tokens", "[I", true), ("BlockFront$Tree", "heights", "[I", true), ("BlockFront$Tree", "parts", "[I", true), ("BlockFront$Tree", "firsts", "[I", true), ("BlockFront$Tree", "lasts", "[I", true), ("BlockFront$Tree", "nexts", "[I", true), ("BlockFront$Tree", "parents", "[I", true), ("BlockFront$Tree", "order", "[I", true), ("BlockFront$Tree", "size", "I", false)]
def am_T6 : u_T := fun k => am_F6.getD k ("", "", "", false)
def am_t6 : List FieldType := [.array .int, .array .int, .array .int, .array .int, .array .int, .array .int, .array .int, .array .int, .array .int, .int]
def am_F7 : List (String × String × String × Bool) := [("BlockFront$Writer", "text", "LBlockFront$Text;", true), ("BlockFront$Writer", "tokens", "LBlockFront$Tokens;", true), ("BlockFront$Writer", "tree", "LBlockFront$Tree;", true), ("BlockFront$Writer", "written", "[C", true), ("BlockFront$Writer", "size", "I", false)]
def am_T7 : u_T := fun k => am_F7.getD k ("", "", "", false)
def am_t7 : List FieldType := [.object "BlockFront$Text", .object "BlockFront$Tokens", .object "BlockFront$Tree", .array .char, .int]
def am_F8 : List (String × String × String × Bool) := [("BlockFront", "text", "LBlockFront$Text;", true), ("BlockFront", "refusal", "LBlockFront$Refusal;", true), ("BlockFront", "tokens", "LBlockFront$Tokens;", true), ("BlockFront", "tree", "LBlockFront$Tree;", true), ("BlockFront", "scanner", "LBlockFront$Scanner;", true), ("BlockFront", "parser", "LBlockFront$Parser;", true), ("BlockFront", "writer", "LBlockFront$Writer;", true)]
def am_T8 : u_T := fun k => am_F8.getD k ("", "", "", false)
def am_t8 : List FieldType := [.object "BlockFront$Text", .object "BlockFront$Refusal", .object "BlockFront$Tokens", .object "BlockFront$Tree", .object "BlockFront$Scanner", .object "BlockFront$Parser", .object "BlockFront$Writer"]
def am_F9 : List (String × String × String × Bool) := [("BlockFrontModel", "thrown", "I", false), ("BlockFrontModel", "text", "[I", true), ("BlockFrontModel", "size", "I", false), ("BlockFrontModel", "why", "I", false), ("BlockFrontModel", "where", "I", false), ("BlockFrontModel", "kept", "[I", true), ("BlockFrontModel", "end", "I", false), ("BlockFrontModel", "tokenKind", "[I", true), ("BlockFrontModel", "tokenPlace", "[I", true), ("BlockFrontModel", "tokenLength", "[I", true), ("BlockFrontModel", "tokenCode", "[J", true), ("BlockFrontModel", "tokens", "I", false), ("BlockFrontModel", "wide", "[I", true), ("BlockFrontModel", "narrow", "[I", true), ("BlockFrontModel", "widths", "I", false), ("BlockFrontModel", "width", "I", false), ("BlockFrontModel", "blanks", "I", false), ("BlockFrontModel", "begins", "Z", false), ("BlockFrontModel", "opened", "[I", true), ("BlockFrontModel", "open", "I", false), ("BlockFrontModel", "kind", "[I", true), ("BlockFrontModel", "token", "[I", true), ("BlockFrontModel", "parts", "[I", true), ("BlockFrontModel", "first", "[I", true), ("BlockFrontModel", "last", "[I", true), ("BlockFrontModel", "next", "[I", true), ("BlockFrontModel", "parent", "[I", true), ("BlockFrontModel", "height", "[I", true), ("BlockFrontModel", "order", "[I", true), ("BlockFrontModel", "made", "I", false), ("BlockFrontModel", "nodes", "I", false), ("BlockFrontModel", "at", "I", false), ("BlockFrontModel", "openKind", "[I", true), ("BlockFrontModel", "openToken", "[I", true), ("BlockFrontModel", "openNode", "[I", true), ("BlockFrontModel", "depth", "I", false), ("BlockFrontModel", "whole", "[I", true), ("BlockFrontModel", "wholes", "I", false), ("BlockFrontModel", "out", "[I", true), ("BlockFrontModel", "outs", "I", false), ("BlockFrontModel", "going", "[I", true), ("BlockFrontModel", "done", "[I", true), ("BlockFrontModel", "bracketed", "[Z", true)]
def am_T9 : u_T := fun k => am_F9.getD k ("", "", "", false)
def am_t9 : List FieldType := [.int, .array .int, .int, .int, .int, .array .int, .int, .array .int, .array .int, .array .int, .array .long, .int, .array .int, .array .int, .int, .int, .int, .boolean, .array .int, .int, .array .int, .array .int, .array .int, .array .int, .array .int, .array .int, .array .int, .array .int, .array .int, .int, .int, .int, .array .int, .array .int, .array .int, .int, .array .int, .int, .array .int, .int, .array .int, .array .int, .array .boolean]
def am_tys : List (List FieldType) := [am_t0, am_t1, am_t2, am_t3, am_t4, am_t5, am_t6, am_t7, am_t8, am_t9]
def am_cl : List vw_C := [("BlockFront$Parser", am_T0, 4), ("BlockFront$Pile", am_T1, 2), ("BlockFront$Refusal", am_T2, 2), ("BlockFront$Scanner", am_T3, 8), ("BlockFront$Text", am_T4, 2), ("BlockFront$Tokens", am_T5, 5), ("BlockFront$Tree", am_T6, 10), ("BlockFront$Writer", am_T7, 5), ("BlockFront", am_T8, 7), ("BlockFrontModel", am_T9, 43)]
/-- fields by own class: entry, class, slot, place of the word, nest -/
def am_fr : List (List (Nat × Nat × Nat × Nat × Bool)) := [[(27, 6, 9, 213, true), (15, 0, 0, 290, false), (19, 0, 1, 291, false), (23, 0, 2, 292, false), (9, 0, 3, 293, false)], [(21, 1, 0, 251, false), (9, 1, 1, 252, false)], [(9, 2, 0, 163, false), (15, 2, 1, 165, false)], [(49, 4, 1, 149, true), (63, 5, 4, 183, true), (66, 1, 1, 253, true), (34, 3, 0, 259, false), (38, 3, 1, 260, false), (42, 3, 2, 261, false), (14, 3, 3, 262, false), (20, 3, 4, 263, false), (23, 3, 5, 264, false), (26, 3, 6, 265, false), (30, 3, 7, 266, false)], [(9, 4, 0, 147, false), (15, 4, 1, 148, false)], [(9, 5, 0, 178, false), (15, 5, 1, 179, false), (18, 5, 2, 180, false), (21, 5, 3, 181, false), (24, 5, 4, 182, false)], [(9, 6, 0, 203, false), (15, 6, 1, 204, false), (18, 6, 2, 205, false), (21, 6, 3, 206, false), (24, 6, 4, 207, false), (27, 6, 5, 208, false), (30, 6, 6, 209, false), (33, 6, 7, 210, false), (36, 6, 8, 211, false), (39, 6, 9, 212, false)], [(19, 7, 0, 309, false), (23, 7, 1, 310, false), (27, 7, 2, 311, false), (9, 7, 3, 312, false), (15, 7, 4, 313, false)], [(81, 4, 1, 150, true), (112, 2, 0, 164, true), (115, 2, 1, 166, true), (101, 5, 4, 184, true), (102, 6, 9, 214, true), (103, 7, 4, 314, true), (21, 8, 0, 326, false), (25, 8, 1, 327, false), (29, 8, 2, 328, false), (33, 8, 3, 329, false), (42, 8, 4, 330, false), (51, 8, 5, 331, false), (60, 8, 6, 332, false)], [(94, 9, 0, 1046, false), (7, 9, 1, 1047, false), (103, 9, 2, 1048, false), (106, 9, 3, 1049, false), (13, 9, 4, 1050, false), (17, 9, 5, 1051, false), (109, 9, 6, 1052, false), (20, 9, 7, 1053, false), (23, 9, 8, 1054, false), (26, 9, 9, 1055, false), (29, 9, 10, 1056, false), (112, 9, 11, 1057, false), (33, 9, 12, 1058, false), (36, 9, 13, 1059, false), (119, 9, 14, 1060, false), (122, 9, 15, 1061, false), (125, 9, 16, 1062, false), (142, 9, 17, 1063, false), (39, 9, 18, 1064, false), (179, 9, 19, 1065, false), (42, 9, 20, 1066, false), (45, 9, 21, 1067, false), (48, 9, 22, 1068, false), (51, 9, 23, 1069, false), (54, 9, 24, 1070, false), (57, 9, 25, 1071, false), (60, 9, 26, 1072, false), (63, 9, 27, 1073, false), (66, 9, 28, 1074, false), (206, 9, 29, 1075, false), (301, 9, 30, 1076, false), (209, 9, 31, 1077, false), (69, 9, 32, 1078, false), (72, 9, 33, 1079, false), (75, 9, 34, 1080, false), (219, 9, 35, 1081, false), (78, 9, 36, 1082, false), (216, 9, 37, 1083, false), (81, 9, 38, 1084, false), (304, 9, 39, 1085, false), (84, 9, 40, 1086, false), (87, 9, 41, 1087, false), (90, 9, 42, 1088, false)], [], [], [], []]
/-- methods by own class: entry, method, place of the word, nest -/
def am_mr : List (List (Nat × Nat × Nat × Bool)) := [[(38, 29, 726, false), (41, 16, 730, false), (51, 32, 731, false), (55, 65, 735, false), (32, 28, 739, false), (59, 69, 743, false), (65, 71, 747, false), (71, 72, 751, false), (47, 66, 755, false), (96, 77, 759, false), (105, 78, 763, false), (114, 87, 767, false), (90, 33, 771, false), (120, 88, 780, false), (145, 38, 784, false), (84, 37, 788, false), (108, 79, 792, false), (123, 84, 796, false), (139, 85, 800, false), (62, 67, 804, false), (142, 86, 808, false), (135, 83, 812, false), (126, 80, 816, false), (129, 81, 820, false), (132, 82, 824, false), (111, 124, 828, true), (117, 125, 831, true), (93, 74, 834, false), (99, 68, 838, false), (77, 75, 839, false), (102, 76, 843, false), (68, 70, 847, false), (81, 39, 851, false), (87, 34, 855, false), (74, 73, 859, false)], [(15, 0, 248, false)], [], [(11, 21, 244, false), (46, 47, 494, false), (67, 22, 498, false), (54, 48, 502, false), (71, 19, 506, false), (75, 121, 510, true), (79, 49, 513, false), (82, 1, 517, false), (88, 50, 520, false), (92, 24, 524, false), (96, 51, 528, false), (106, 16, 532, false), (102, 52, 539, false), (111, 26, 543, false), (99, 23, 547, false), (57, 53, 551, false), (115, 54, 555, false), (118, 123, 559, true), (121, 55, 562, false), (124, 122, 566, true), (137, 56, 569, false), (142, 20, 574, false), (127, 57, 637, false), (130, 58, 641, false), (134, 59, 645, false), (168, 4, 650, false), (176, 60, 706, false), (179, 61, 710, false), (60, 62, 714, false)], [(19, 2, 578, false), (25, 3, 588, false), (29, 19, 626, false)], [], [(43, 35, 775, false), (47, 0, 779, false), (53, 44, 867, false), (57, 41, 871, false)], [(31, 96, 895, false), (74, 40, 899, false), (77, 97, 903, false), (83, 95, 907, false), (70, 93, 912, false), (35, 2, 916, false), (41, 3, 917, false), (45, 92, 918, false), (87, 36, 922, false), (90, 98, 926, false), (93, 99, 930, false), (80, 41, 934, false), (105, 94, 935, false), (49, 37, 939, false), (55, 29, 940, false), (60, 30, 941, false), (63, 19, 945, false), (108, 102, 946, false), (121, 104, 950, false), (131, 105, 954, false), (135, 106, 958, false), (138, 28, 962, false), (141, 124, 963, true), (127, 103, 965, false), (97, 100, 972, false), (100, 101, 978, false)], [(11, 17, 143, true), (14, 14, 159, true), (17, 25, 174, true), (20, 31, 199, true), (39, 45, 238, false), (48, 63, 286, false), (57, 89, 305, false), (71, 119, 446, false), (75, 120, 450, false), (90, 18, 470, false), (94, 15, 482, false), (97, 118, 486, false), (153, 46, 490, false), (156, 64, 718, false), (159, 68, 722, false), (163, 43, 863, false), (109, 91, 891, false), (123, 27, 1007, false), (127, 29, 1011, false), (130, 30, 1012, false), (135, 42, 1021, false), (138, 36, 1025, false), (141, 37, 1026, false), (144, 39, 1027, false), (149, 90, 1036, false)], [(99, 128, 1187, false), (343, 147, 1198, false), (200, 139, 1202, false), (132, 132, 1206, false), (136, 133, 1210, false), (139, 137, 1213, false), (146, 138, 1217, false), (115, 131, 1221, false), (128, 136, 1225, false), (203, 146, 1229, false), (149, 135, 1233, false), (188, 140, 1236, false), (152, 134, 1240, false), (191, 141, 1255, false), (194, 142, 1259, false), (197, 145, 1263, false), (182, 143, 1267, false), (185, 144, 1270, false), (346, 173, 1274, false), (225, 148, 1278, false), (229, 149, 1282, false), (283, 153, 1286, false), (212, 150, 1290, false), (289, 168, 1294, false), (280, 167, 1298, false), (236, 152, 1302, false), (247, 151, 1306, false), (275, 166, 1310, false), (272, 165, 1314, false), (266, 161, 1318, false), (240, 159, 1322, false), (244, 157, 1326, false), (250, 160, 1330, false), (233, 154, 1334, false), (269, 164, 1338, false), (254, 162, 1342, false), (257, 163, 1346, false), (260, 158, 1350, false), (263, 156, 1354, false), (222, 155, 1358, false), (292, 170, 1362, false), (286, 169, 1366, false), (295, 171, 1370, false), (298, 172, 1374, false), (349, 174, 1378, false), (352, 186, 1382, false), (331, 182, 1386, false), (307, 175, 1390, false), (334, 185, 1394, false), (337, 183, 1398, false), (324, 181, 1402, false), (314, 176, 1406, false), (328, 180, 1410, false), (317, 179, 1414, false), (320, 178, 1418, false), (311, 177, 1422, false), (340, 184, 1426, false)], [(36, 107, 135, false), (51, 109, 348, false), (59, 111, 352, false), (63, 112, 356, false), (71, 114, 360, false), (78, 116, 364, false), (42, 195, 368, false), (7, 108, 373, false), (55, 196, 474, false), (17, 110, 478, false), (67, 197, 983, false), (23, 113, 987, false), (75, 198, 1013, false), (29, 115, 1016, false), (82, 199, 1028, false), (32, 117, 1031, false), (39, 126, 1042, false), (48, 127, 1178, false), (47, 129, 1182, false), (54, 130, 1190, false), (58, 187, 1194, false), (62, 188, 1430, false), (66, 189, 1434, false), (70, 190, 1438, false), (74, 191, 1442, false), (77, 192, 1446, false), (81, 193, 1450, false), (85, 194, 1454, false)], [], [(335, 6, 582, false), (492, 7, 592, false), (495, 10, 596, false), (633, 5, 654, false), (505, 2, 658, false), (637, 12, 659, false)], [(9, 8, 599, false), (88, 11, 662, false), (92, 0, 665, false), (38, 1, 666, false), (95, 13, 667, false)]]
/-- texts by own class: entry, number -/
def am_sr : List (List (Nat × Nat)) := [[], [], [(20, 3)], [(140, 4), (146, 5), (148, 6), (150, 7), (152, 8), (154, 9), (156, 10), (158, 11), (160, 12), (162, 13), (164, 14), (166, 15), (174, 16)], [], [], [], [(68, 18), (125, 19), (115, 20), (111, 21), (103, 22), (113, 23), (117, 24), (119, 25)], [(66, 0), (79, 1), (87, 2), (106, 17), (120, 26), (133, 27), (147, 28)], [], [], [], [], []]
/-- classes by own class: entry, number (exceptions from 100), place of the word -/
def am_kr : List (List (Nat × Nat × Nat)) := [[], [], [(18, 101, 536)], [(9, 1, 242)], [], [], [], [], [(9, 4, 141), (12, 2, 157), (15, 5, 172), (18, 6, 197), (37, 3, 236), (46, 0, 284), (55, 7, 303), (64, 100, 377), (85, 101, 454), (104, 102, 875), (118, 103, 991)], [], [(8, 8, 133), (13, 100, 371), (15, 101, 372), (21, 102, 477), (27, 103, 986), (37, 9, 1040)], [], [], []]
def am_lr : List (List (Nat × Int64 × Nat)) := [[], [], [], [], [], [], [], [], [(166, 255, 449)], [(97, 255, 1186), (155, 256, 1243), (157, 26982, 1244), (159, 1701603686, 1245), (161, 1701606245, 1246), (163, 6579558, 1247), (165, 1885434739, 1248), (167, 6385252, 1249), (169, 28530, 1250), (171, 7237492, 1251), (173, 512852847717, 1252), (175, 125780071117422, 1253), (177, 422826041707, 1254), (278, 61, 1361)], [(40, 4294967295, 1458)], [], [], []]
end
section
/-- java/lang/Math.max(II)I -/
def am_c0 : List (Nat × Instr × Nat × List Nat × Int32 × List Int32) := [(0, .iload_n 0, 1, [], 0, []), (1, .iload_n 1, 2, [], 0, []), (2, .if_icmp .lt 7, 5, [9], 0, []), (5, .iload_n 0, 6, [], 0, []), (6, .goto 4, 9, [10], 0, []), (9, .iload_n 1, 10, [], 0, []), (10, .ireturn, 11, [], 0, [])]
/-- java/lang/Math.min(II)I -/
def am_c1 : List (Nat × Instr × Nat × List Nat × Int32 × List Int32) := [(0, .iload_n 0, 1, [], 0, []), (1, .iload_n 1, 2, [], 0, []), (2, .if_icmp .gt 7, 5, [9], 0, []), (5, .iload_n 0, 6, [], 0, []), (6, .goto 4, 9, [10], 0, []), (9, .iload_n 1, 10, [], 0, []), (10, .ireturn, 11, [], 0, [])]
/-- java/lang/String.length()I -/
def am_c2 : List (Nat × Instr × Nat × List Nat × Int32 × List Int32) := [(0, .aload_n 0, 1, [], 0, []), (1, .getfield 9, 4, [], 0, []), (4, .arraylength, 5, [], 0, []), (5, .aload_n 0, 6, [], 0, []), (6, .invokevirtual 335, 9, [], 0, []), (9, .ishr, 10, [], 0, []), (10, .ireturn, 11, [], 0, [])]
/-- java/lang/String.charAt(I)C -/
def am_c3 : List (Nat × Instr × Nat × List Nat × Int32 × List Int32) := [(0, .aload_n 0, 1, [], 0, []), (1, .invokevirtual 492, 4, [], 0, []), (4, .ifCond .eq 12, 7, [16], 0, []), (7, .aload_n 0, 8, [], 0, []), (8, .getfield 9, 11, [], 0, []), (11, .iload_n 1, 12, [], 0, []), (12, .invokestatic 495, 15, [], 0, []), (15, .ireturn, 16, [], 0, []), (16, .aload_n 0, 17, [], 0, []), (17, .getfield 9, 20, [], 0, []), (20, .iload_n 1, 21, [], 0, []), (21, .invokestatic 498, 24, [], 0, []), (24, .ireturn, 25, [], 0, [])]
/-- java/lang/String.indexOf(I)I -/
def am_c4 : List (Nat × Instr × Nat × List Nat × Int32 × List Int32) := [(0, .aload_n 0, 1, [], 0, []), (1, .iload_n 1, 2, [], 0, []), (2, .iconst 0, 3, [], 0, []), (3, .invokevirtual 633, 6, [], 0, []), (6, .ireturn, 7, [], 0, [])]
/-- java/lang/String.indexOf(II)I -/
def am_c5 : List (Nat × Instr × Nat × List Nat × Int32 × List Int32) := [(0, .aload_n 0, 1, [], 0, []), (1, .invokevirtual 492, 4, [], 0, []), (4, .ifCond .eq 19, 7, [23], 0, []), (7, .aload_n 0, 8, [], 0, []), (8, .getfield 9, 11, [], 0, []), (11, .iload_n 1, 12, [], 0, []), (12, .iload_n 2, 13, [], 0, []), (13, .aload_n 0, 14, [], 0, []), (14, .invokevirtual 505, 17, [], 0, []), (17, .invokestatic 637, 20, [], 0, []), (20, .goto 16, 23, [36], 0, []), (23, .aload_n 0, 24, [], 0, []), (24, .getfield 9, 27, [], 0, []), (27, .iload_n 1, 28, [], 0, []), (28, .iload_n 2, 29, [], 0, []), (29, .aload_n 0, 30, [], 0, []), (30, .invokevirtual 505, 33, [], 0, []), (33, .invokestatic 640, 36, [], 0, []), (36, .ireturn, 37, [], 0, [])]
/-- java/lang/String.coder()B -/
def am_c6 : List (Nat × Instr × Nat × List Nat × Int32 × List Int32) := [(0, .getstatic 38, 3, [], 0, []), (3, .ifCond .eq 10, 6, [13], 0, []), (6, .aload_n 0, 7, [], 0, []), (7, .getfield 15, 10, [], 0, []), (10, .goto 4, 13, [14], 0, []), (13, .iconst 1, 14, [], 1, []), (14, .ireturn, 15, [], 0, [])]
/-- java/lang/String.isLatin1()Z -/
def am_c7 : List (Nat × Instr × Nat × List Nat × Int32 × List Int32) := [(0, .getstatic 38, 3, [], 0, []), (3, .ifCond .eq 14, 6, [17], 0, []), (6, .aload_n 0, 7, [], 0, []), (7, .getfield 15, 10, [], 0, []), (10, .ifCond .ne 7, 13, [17], 0, []), (13, .iconst 1, 14, [], 1, []), (14, .goto 4, 17, [18], 0, []), (17, .iconst 0, 18, [], 0, []), (18, .ireturn, 19, [], 0, [])]
/-- java/lang/String.checkIndex(II)V -/
def am_c8 : List (Nat × Instr × Nat × List Nat × Int32 × List Int32) := [(0, .iload_n 0, 1, [], 0, []), (1, .iload_n 1, 2, [], 0, []), (2, .getstatic 1053, 5, [], 0, []), (5, .invokestatic 1059, 8, [], 0, []), (8, .pop, 9, [], 0, []), (9, .return_, 10, [], 0, [])]
/-- java/lang/String.checkBoundsBeginEnd(III)V -/
def am_c9 : List (Nat × Instr × Nat × List Nat × Int32 × List Int32) := [(0, .iload_n 0, 1, [], 0, []), (1, .iload_n 1, 2, [], 0, []), (2, .iload_n 2, 3, [], 0, []), (3, .getstatic 1053, 6, [], 0, []), (6, .invokestatic 1062, 9, [], 0, []), (9, .pop, 10, [], 0, []), (10, .return_, 11, [], 0, [])]
/-- java/lang/StringLatin1.charAt([BI)C -/
def am_c10 : List (Nat × Instr × Nat × List Nat × Int32 × List Int32) := [(0, .iload_n 1, 1, [], 0, []), (1, .aload_n 0, 2, [], 0, []), (2, .arraylength, 3, [], 0, []), (3, .invokestatic 9, 6, [], 0, []), (6, .aload_n 0, 7, [], 0, []), (7, .iload_n 1, 8, [], 0, []), (8, .baload, 9, [], 0, []), (9, .sipush 255, 12, [], 255, []), (12, .iand, 13, [], 0, []), (13, .i2c, 14, [], 0, []), (14, .ireturn, 15, [], 0, [])]
/-- java/lang/StringLatin1.canEncode(I)Z -/
def am_c11 : List (Nat × Instr × Nat × List Nat × Int32 × List Int32) := [(0, .iload_n 0, 1, [], 0, []), (1, .ifCond .lt 14, 4, [15], 0, []), (4, .iload_n 0, 5, [], 0, []), (5, .sipush 255, 8, [], 255, []), (8, .if_icmp .gt 7, 11, [15], 0, []), (11, .iconst 1, 12, [], 1, []), (12, .goto 4, 15, [16], 0, []), (15, .iconst 0, 16, [], 0, []), (16, .ireturn, 17, [], 0, [])]
/-- java/lang/StringLatin1.indexOf([BIII)I -/
def am_c12 : List (Nat × Instr × Nat × List Nat × Int32 × List Int32) := [(0, .iload_n 1, 1, [], 0, []), (1, .invokestatic 88, 4, [], 0, []), (4, .ifCond .ne 5, 7, [9], 0, []), (7, .iconst (-1), 8, [], (-1), []), (8, .ireturn, 9, [], 0, []), (9, .iload_n 2, 10, [], 0, []), (10, .iconst 0, 11, [], 0, []), (11, .invokestatic 92, 14, [], 0, []), (14, .istore_n 2, 15, [], 0, []), (15, .iload_n 3, 16, [], 0, []), (16, .aload_n 0, 17, [], 0, []), (17, .arraylength, 18, [], 0, []), (18, .invokestatic 38, 21, [], 0, []), (21, .istore_n 3, 22, [], 0, []), (22, .iload_n 2, 23, [], 0, []), (23, .iload_n 3, 24, [], 0, []), (24, .if_icmp .lt 5, 27, [29], 0, []), (27, .iconst (-1), 28, [], (-1), []), (28, .ireturn, 29, [], 0, []), (29, .aload_n 0, 30, [], 0, []), (30, .iload_n 1, 31, [], 0, []), (31, .iload_n 2, 32, [], 0, []), (32, .iload_n 3, 33, [], 0, []), (33, .invokestatic 95, 36, [], 0, []), (36, .ireturn, 37, [], 0, [])]
/-- java/lang/StringLatin1.indexOfChar([BIII)I -/
def am_c13 : List (Nat × Instr × Nat × List Nat × Int32 × List Int32) := [(0, .iload_n 1, 1, [], 0, []), (1, .i2b, 2, [], 0, []), (2, .istore 4, 4, [], 0, []), (4, .iload_n 2, 5, [], 0, []), (5, .istore 5, 7, [], 0, []), (7, .iload 5, 9, [], 0, []), (9, .iload_n 3, 10, [], 0, []), (10, .if_icmp .ge 21, 13, [31], 0, []), (13, .aload_n 0, 14, [], 0, []), (14, .iload 5, 16, [], 0, []), (16, .baload, 17, [], 0, []), (17, .iload 4, 19, [], 0, []), (19, .if_icmp .ne 6, 22, [25], 0, []), (22, .iload 5, 24, [], 0, []), (24, .ireturn, 25, [], 0, []), (25, .iinc 5 1, 28, [], 1, []), (28, .goto (-21), 31, [7], 0, []), (31, .iconst (-1), 32, [], (-1), []), (32, .ireturn, 33, [], 0, [])]
/-- BlockFront$Refusal.<init>()V -/
def am_c14 : List (Nat × Instr × Nat × List Nat × Int32 × List Int32) := [(0, .aload_n 0, 1, [], 0, []), (1, .invokespecial 3, 4, [], 0, []), (4, .aload_n 0, 5, [], 0, []), (5, .iconst 0, 6, [], 0, []), (6, .putfield 9, 9, [], 0, []), (9, .aload_n 0, 10, [], 0, []), (10, .iconst (-1), 11, [], (-1), []), (11, .putfield 15, 14, [], 0, []), (14, .return_, 15, [], 0, [])]
/-- BlockFront$Refusal.forget()V -/
def am_c15 : List (Nat × Instr × Nat × List Nat × Int32 × List Int32) := [(0, .aload_n 0, 1, [], 0, []), (1, .iconst 0, 2, [], 0, []), (2, .putfield 9, 5, [], 0, []), (5, .aload_n 0, 6, [], 0, []), (6, .iconst (-1), 7, [], (-1), []), (7, .putfield 15, 10, [], 0, []), (10, .return_, 11, [], 0, [])]
/-- BlockFront$Refusal.refuse(II)V -/
def am_c16 : List (Nat × Instr × Nat × List Nat × Int32 × List Int32) := [(0, .aload_n 0, 1, [], 0, []), (1, .iload_n 1, 2, [], 0, []), (2, .putfield 9, 5, [], 0, []), (5, .aload_n 0, 6, [], 0, []), (6, .iload_n 2, 7, [], 0, []), (7, .putfield 15, 10, [], 0, []), (10, .new 18, 13, [], 0, []), (13, .dup, 14, [], 0, []), (14, .ldc 20, 16, [], 0, []), (16, .invokespecial 22, 19, [], 0, []), (19, .athrow, 20, [], 0, [])]
/-- BlockFront$Text.<init>()V -/
def am_c17 : List (Nat × Instr × Nat × List Nat × Int32 × List Int32) := [(0, .aload_n 0, 1, [], 0, []), (1, .invokespecial 3, 4, [], 0, []), (4, .aload_n 0, 5, [], 0, []), (5, .sipush 600, 8, [], 600, []), (8, .newarray .char, 10, [], 0, []), (10, .putfield 9, 13, [], 0, []), (13, .aload_n 0, 14, [], 0, []), (14, .iconst 0, 15, [], 0, []), (15, .putfield 15, 18, [], 0, []), (18, .return_, 19, [], 0, [])]
/-- BlockFront$Text.add(C)V -/
def am_c18 : List (Nat × Instr × Nat × List Nat × Int32 × List Int32) := [(0, .aload_n 0, 1, [], 0, []), (1, .getfield 15, 4, [], 0, []), (4, .ifCond .lt 35, 7, [39], 0, []), (7, .aload_n 0, 8, [], 0, []), (8, .getfield 15, 11, [], 0, []), (11, .aload_n 0, 12, [], 0, []), (12, .getfield 9, 15, [], 0, []), (15, .arraylength, 16, [], 0, []), (16, .if_icmp .ge 23, 19, [39], 0, []), (19, .aload_n 0, 20, [], 0, []), (20, .getfield 9, 23, [], 0, []), (23, .aload_n 0, 24, [], 0, []), (24, .getfield 15, 27, [], 0, []), (27, .iload_n 1, 28, [], 0, []), (28, .castore, 29, [], 0, []), (29, .aload_n 0, 30, [], 0, []), (30, .dup, 31, [], 0, []), (31, .getfield 15, 34, [], 0, []), (34, .iconst 1, 35, [], 1, []), (35, .iadd, 36, [], 0, []), (36, .putfield 15, 39, [], 0, []), (39, .return_, 40, [], 0, [])]
/-- BlockFront$Text.at(I)C -/
def am_c19 : List (Nat × Instr × Nat × List Nat × Int32 × List Int32) := [(0, .iload_n 1, 1, [], 0, []), (1, .ifCond .lt 29, 4, [30], 0, []), (4, .iload_n 1, 5, [], 0, []), (5, .aload_n 0, 6, [], 0, []), (6, .getfield 15, 9, [], 0, []), (9, .if_icmp .ge 21, 12, [30], 0, []), (12, .iload_n 1, 13, [], 0, []), (13, .aload_n 0, 14, [], 0, []), (14, .getfield 9, 17, [], 0, []), (17, .arraylength, 18, [], 0, []), (18, .if_icmp .ge 12, 21, [30], 0, []), (21, .aload_n 0, 22, [], 0, []), (22, .getfield 9, 25, [], 0, []), (25, .iload_n 1, 26, [], 0, []), (26, .caload, 27, [], 0, []), (27, .goto 4, 30, [31], 0, []), (30, .iconst 0, 31, [], 0, []), (31, .ireturn, 32, [], 0, [])]
/-- BlockFront$Text.reads(Ljava/lang/String;II)Z -/
def am_c20 : List (Nat × Instr × Nat × List Nat × Int32 × List Int32) := [(0, .aload_n 1, 1, [], 0, []), (1, .invokevirtual 19, 4, [], 0, []), (4, .iload_n 3, 5, [], 0, []), (5, .if_icmp .eq 5, 8, [10], 0, []), (8, .iconst 0, 9, [], 0, []), (9, .ireturn, 10, [], 0, []), (10, .iconst 0, 11, [], 0, []), (11, .istore 4, 13, [], 0, []), (13, .iload 4, 15, [], 0, []), (15, .aload_n 1, 16, [], 0, []), (16, .invokevirtual 19, 19, [], 0, []), (19, .if_icmp .ge 28, 22, [47], 0, []), (22, .aload_n 1, 23, [], 0, []), (23, .iload 4, 25, [], 0, []), (25, .invokevirtual 25, 28, [], 0, []), (28, .aload_n 0, 29, [], 0, []), (29, .iload_n 2, 30, [], 0, []), (30, .iload 4, 32, [], 0, []), (32, .iadd, 33, [], 0, []), (33, .invokevirtual 29, 36, [], 0, []), (36, .if_icmp .eq 5, 39, [41], 0, []), (39, .iconst 0, 40, [], 0, []), (40, .ireturn, 41, [], 0, []), (41, .iinc 4 1, 44, [], 1, []), (44, .goto (-31), 47, [13], 0, []), (47, .iconst 1, 48, [], 1, []), (48, .ireturn, 49, [], 0, [])]
/-- BlockFront$Pile.<init>(I)V -/
def am_c21 : List (Nat × Instr × Nat × List Nat × Int32 × List Int32) := [(0, .aload_n 0, 1, [], 0, []), (1, .invokespecial 3, 4, [], 0, []), (4, .aload_n 0, 5, [], 0, []), (5, .iconst 0, 6, [], 0, []), (6, .putfield 9, 9, [], 0, []), (9, .aload_n 0, 10, [], 0, []), (10, .iload_n 1, 11, [], 0, []), (11, .iconst 0, 12, [], 0, []), (12, .invokestatic 15, 15, [], 0, []), (15, .newarray .int, 17, [], 0, []), (17, .putfield 21, 20, [], 0, []), (20, .return_, 21, [], 0, [])]
/-- BlockFront$Pile.push(I)Z -/
def am_c22 : List (Nat × Instr × Nat × List Nat × Int32 × List Int32) := [(0, .aload_n 0, 1, [], 0, []), (1, .getfield 9, 4, [], 0, []), (4, .ifCond .lt 15, 7, [19], 0, []), (7, .aload_n 0, 8, [], 0, []), (8, .getfield 9, 11, [], 0, []), (11, .aload_n 0, 12, [], 0, []), (12, .getfield 21, 15, [], 0, []), (15, .arraylength, 16, [], 0, []), (16, .if_icmp .lt 5, 19, [21], 0, []), (19, .iconst 0, 20, [], 0, []), (20, .ireturn, 21, [], 0, []), (21, .aload_n 0, 22, [], 0, []), (22, .getfield 21, 25, [], 0, []), (25, .aload_n 0, 26, [], 0, []), (26, .getfield 9, 29, [], 0, []), (29, .iload_n 1, 30, [], 0, []), (30, .iastore, 31, [], 0, []), (31, .aload_n 0, 32, [], 0, []), (32, .dup, 33, [], 0, []), (33, .getfield 9, 36, [], 0, []), (36, .iconst 1, 37, [], 1, []), (37, .iadd, 38, [], 0, []), (38, .putfield 9, 41, [], 0, []), (41, .iconst 1, 42, [], 1, []), (42, .ireturn, 43, [], 0, [])]
/-- BlockFront$Pile.pop()V -/
def am_c23 : List (Nat × Instr × Nat × List Nat × Int32 × List Int32) := [(0, .aload_n 0, 1, [], 0, []), (1, .getfield 9, 4, [], 0, []), (4, .ifCond .le 13, 7, [17], 0, []), (7, .aload_n 0, 8, [], 0, []), (8, .dup, 9, [], 0, []), (9, .getfield 9, 12, [], 0, []), (12, .iconst 1, 13, [], 1, []), (13, .isub, 14, [], 0, []), (14, .putfield 9, 17, [], 0, []), (17, .return_, 18, [], 0, [])]
/-- BlockFront$Pile.last()I -/
def am_c24 : List (Nat × Instr × Nat × List Nat × Int32 × List Int32) := [(0, .aload_n 0, 1, [], 0, []), (1, .getfield 9, 4, [], 0, []), (4, .ifCond .le 29, 7, [33], 0, []), (7, .aload_n 0, 8, [], 0, []), (8, .getfield 9, 11, [], 0, []), (11, .aload_n 0, 12, [], 0, []), (12, .getfield 21, 15, [], 0, []), (15, .arraylength, 16, [], 0, []), (16, .if_icmp .gt 17, 19, [33], 0, []), (19, .aload_n 0, 20, [], 0, []), (20, .getfield 21, 23, [], 0, []), (23, .aload_n 0, 24, [], 0, []), (24, .getfield 9, 27, [], 0, []), (27, .iconst 1, 28, [], 1, []), (28, .isub, 29, [], 0, []), (29, .iaload, 30, [], 0, []), (30, .goto 4, 33, [34], 0, []), (33, .iconst (-1), 34, [], (-1), []), (34, .ireturn, 35, [], 0, [])]
/-- BlockFront$Tokens.<init>()V -/
def am_c25 : List (Nat × Instr × Nat × List Nat × Int32 × List Int32) := [(0, .aload_n 0, 1, [], 0, []), (1, .invokespecial 3, 4, [], 0, []), (4, .aload_n 0, 5, [], 0, []), (5, .bipush 120, 7, [], 120, []), (7, .newarray .int, 9, [], 0, []), (9, .putfield 9, 12, [], 0, []), (12, .aload_n 0, 13, [], 0, []), (13, .bipush 120, 15, [], 120, []), (15, .newarray .int, 17, [], 0, []), (17, .putfield 15, 20, [], 0, []), (20, .aload_n 0, 21, [], 0, []), (21, .bipush 120, 23, [], 120, []), (23, .newarray .int, 25, [], 0, []), (25, .putfield 18, 28, [], 0, []), (28, .aload_n 0, 29, [], 0, []), (29, .bipush 120, 31, [], 120, []), (31, .newarray .int, 33, [], 0, []), (33, .putfield 21, 36, [], 0, []), (36, .aload_n 0, 37, [], 0, []), (37, .iconst 0, 38, [], 0, []), (38, .putfield 24, 41, [], 0, []), (41, .return_, 42, [], 0, [])]
/-- BlockFront$Tokens.add(IIII)Z -/
def am_c26 : List (Nat × Instr × Nat × List Nat × Int32 × List Int32) := [(0, .aload_n 0, 1, [], 0, []), (1, .getfield 24, 4, [], 0, []), (4, .ifCond .lt 12, 7, [16], 0, []), (7, .aload_n 0, 8, [], 0, []), (8, .getfield 24, 11, [], 0, []), (11, .bipush 120, 13, [], 120, []), (13, .if_icmp .lt 5, 16, [18], 0, []), (16, .iconst 0, 17, [], 0, []), (17, .ireturn, 18, [], 0, []), (18, .aload_n 0, 19, [], 0, []), (19, .getfield 9, 22, [], 0, []), (22, .aload_n 0, 23, [], 0, []), (23, .getfield 24, 26, [], 0, []), (26, .iload_n 1, 27, [], 0, []), (27, .iastore, 28, [], 0, []), (28, .aload_n 0, 29, [], 0, []), (29, .getfield 15, 32, [], 0, []), (32, .aload_n 0, 33, [], 0, []), (33, .getfield 24, 36, [], 0, []), (36, .iload_n 2, 37, [], 0, []), (37, .iastore, 38, [], 0, []), (38, .aload_n 0, 39, [], 0, []), (39, .getfield 18, 42, [], 0, []), (42, .aload_n 0, 43, [], 0, []), (43, .getfield 24, 46, [], 0, []), (46, .iload_n 3, 47, [], 0, []), (47, .iastore, 48, [], 0, []), (48, .aload_n 0, 49, [], 0, []), (49, .getfield 21, 52, [], 0, []), (52, .aload_n 0, 53, [], 0, []), (53, .getfield 24, 56, [], 0, []), (56, .iload 4, 58, [], 0, []), (58, .iastore, 59, [], 0, []), (59, .aload_n 0, 60, [], 0, []), (60, .dup, 61, [], 0, []), (61, .getfield 24, 64, [], 0, []), (64, .iconst 1, 65, [], 1, []), (65, .iadd, 66, [], 0, []), (66, .putfield 24, 69, [], 0, []), (69, .iconst 1, 70, [], 1, []), (70, .ireturn, 71, [], 0, [])]
/-- BlockFront$Tokens.kindAt(I)I -/
def am_c27 : List (Nat × Instr × Nat × List Nat × Int32 × List Int32) := [(0, .iload_n 1, 1, [], 0, []), (1, .ifCond .lt 20, 4, [21], 0, []), (4, .iload_n 1, 5, [], 0, []), (5, .aload_n 0, 6, [], 0, []), (6, .getfield 24, 9, [], 0, []), (9, .if_icmp .ge 12, 12, [21], 0, []), (12, .aload_n 0, 13, [], 0, []), (13, .getfield 9, 16, [], 0, []), (16, .iload_n 1, 17, [], 0, []), (17, .iaload, 18, [], 0, []), (18, .goto 4, 21, [22], 0, []), (21, .iconst (-1), 22, [], (-1), []), (22, .ireturn, 23, [], 0, [])]
/-- BlockFront$Tokens.markAt(I)I -/
def am_c28 : List (Nat × Instr × Nat × List Nat × Int32 × List Int32) := [(0, .iload_n 1, 1, [], 0, []), (1, .ifCond .lt 20, 4, [21], 0, []), (4, .iload_n 1, 5, [], 0, []), (5, .aload_n 0, 6, [], 0, []), (6, .getfield 24, 9, [], 0, []), (9, .if_icmp .ge 12, 12, [21], 0, []), (12, .aload_n 0, 13, [], 0, []), (13, .getfield 15, 16, [], 0, []), (16, .iload_n 1, 17, [], 0, []), (17, .iaload, 18, [], 0, []), (18, .goto 4, 21, [22], 0, []), (21, .iconst (-1), 22, [], (-1), []), (22, .ireturn, 23, [], 0, [])]
/-- BlockFront$Tokens.placeAt(I)I -/
def am_c29 : List (Nat × Instr × Nat × List Nat × Int32 × List Int32) := [(0, .iload_n 1, 1, [], 0, []), (1, .ifCond .lt 20, 4, [21], 0, []), (4, .iload_n 1, 5, [], 0, []), (5, .aload_n 0, 6, [], 0, []), (6, .getfield 24, 9, [], 0, []), (9, .if_icmp .ge 12, 12, [21], 0, []), (12, .aload_n 0, 13, [], 0, []), (13, .getfield 18, 16, [], 0, []), (16, .iload_n 1, 17, [], 0, []), (17, .iaload, 18, [], 0, []), (18, .goto 4, 21, [22], 0, []), (21, .iconst (-1), 22, [], (-1), []), (22, .ireturn, 23, [], 0, [])]
/-- BlockFront$Tokens.extentAt(I)I -/
def am_c30 : List (Nat × Instr × Nat × List Nat × Int32 × List Int32) := [(0, .iload_n 1, 1, [], 0, []), (1, .ifCond .lt 20, 4, [21], 0, []), (4, .iload_n 1, 5, [], 0, []), (5, .aload_n 0, 6, [], 0, []), (6, .getfield 24, 9, [], 0, []), (9, .if_icmp .ge 12, 12, [21], 0, []), (12, .aload_n 0, 13, [], 0, []), (13, .getfield 21, 16, [], 0, []), (16, .iload_n 1, 17, [], 0, []), (17, .iaload, 18, [], 0, []), (18, .goto 4, 21, [22], 0, []), (21, .iconst 0, 22, [], 0, []), (22, .ireturn, 23, [], 0, [])]
/-- BlockFront$Tree.<init>()V -/
def am_c31 : List (Nat × Instr × Nat × List Nat × Int32 × List Int32) := [(0, .aload_n 0, 1, [], 0, []), (1, .invokespecial 3, 4, [], 0, []), (4, .aload_n 0, 5, [], 0, []), (5, .sipush 360, 8, [], 360, []), (8, .newarray .int, 10, [], 0, []), (10, .putfield 9, 13, [], 0, []), (13, .aload_n 0, 14, [], 0, []), (14, .sipush 360, 17, [], 360, []), (17, .newarray .int, 19, [], 0, []), (19, .putfield 15, 22, [], 0, []), (22, .aload_n 0, 23, [], 0, []), (23, .sipush 360, 26, [], 360, []), (26, .newarray .int, 28, [], 0, []), (28, .putfield 18, 31, [], 0, []), (31, .aload_n 0, 32, [], 0, []), (32, .sipush 360, 35, [], 360, []), (35, .newarray .int, 37, [], 0, []), (37, .putfield 21, 40, [], 0, []), (40, .aload_n 0, 41, [], 0, []), (41, .sipush 360, 44, [], 360, []), (44, .newarray .int, 46, [], 0, []), (46, .putfield 24, 49, [], 0, []), (49, .aload_n 0, 50, [], 0, []), (50, .sipush 360, 53, [], 360, []), (53, .newarray .int, 55, [], 0, []), (55, .putfield 27, 58, [], 0, []), (58, .aload_n 0, 59, [], 0, []), (59, .sipush 360, 62, [], 360, []), (62, .newarray .int, 64, [], 0, []), (64, .putfield 30, 67, [], 0, []), (67, .aload_n 0, 68, [], 0, []), (68, .sipush 360, 71, [], 360, []), (71, .newarray .int, 73, [], 0, []), (73, .putfield 33, 76, [], 0, []), (76, .aload_n 0, 77, [], 0, []), (77, .sipush 360, 80, [], 360, []), (80, .newarray .int, 82, [], 0, []), (82, .putfield 36, 85, [], 0, []), (85, .aload_n 0, 86, [], 0, []), (86, .iconst 0, 87, [], 0, []), (87, .putfield 39, 90, [], 0, []), (90, .return_, 91, [], 0, [])]
/-- BlockFront$Tree.add(II)I -/
def am_c32 : List (Nat × Instr × Nat × List Nat × Int32 × List Int32) := [(0, .aload_n 0, 1, [], 0, []), (1, .getfield 39, 4, [], 0, []), (4, .ifCond .lt 13, 7, [17], 0, []), (7, .aload_n 0, 8, [], 0, []), (8, .getfield 39, 11, [], 0, []), (11, .sipush 360, 14, [], 360, []), (14, .if_icmp .lt 5, 17, [19], 0, []), (17, .iconst (-1), 18, [], (-1), []), (18, .ireturn, 19, [], 0, []), (19, .aload_n 0, 20, [], 0, []), (20, .getfield 39, 23, [], 0, []), (23, .istore_n 3, 24, [], 0, []), (24, .aload_n 0, 25, [], 0, []), (25, .dup, 26, [], 0, []), (26, .getfield 39, 29, [], 0, []), (29, .iconst 1, 30, [], 1, []), (30, .iadd, 31, [], 0, []), (31, .putfield 39, 34, [], 0, []), (34, .aload_n 0, 35, [], 0, []), (35, .getfield 9, 38, [], 0, []), (38, .iload_n 3, 39, [], 0, []), (39, .iload_n 1, 40, [], 0, []), (40, .iastore, 41, [], 0, []), (41, .aload_n 0, 42, [], 0, []), (42, .getfield 15, 45, [], 0, []), (45, .iload_n 3, 46, [], 0, []), (46, .iload_n 2, 47, [], 0, []), (47, .iastore, 48, [], 0, []), (48, .aload_n 0, 49, [], 0, []), (49, .getfield 18, 52, [], 0, []), (52, .iload_n 3, 53, [], 0, []), (53, .iconst 1, 54, [], 1, []), (54, .iastore, 55, [], 0, []), (55, .aload_n 0, 56, [], 0, []), (56, .getfield 21, 59, [], 0, []), (59, .iload_n 3, 60, [], 0, []), (60, .iconst 0, 61, [], 0, []), (61, .iastore, 62, [], 0, []), (62, .aload_n 0, 63, [], 0, []), (63, .getfield 24, 66, [], 0, []), (66, .iload_n 3, 67, [], 0, []), (67, .iconst (-1), 68, [], (-1), []), (68, .iastore, 69, [], 0, []), (69, .aload_n 0, 70, [], 0, []), (70, .getfield 27, 73, [], 0, []), (73, .iload_n 3, 74, [], 0, []), (74, .iconst (-1), 75, [], (-1), []), (75, .iastore, 76, [], 0, []), (76, .aload_n 0, 77, [], 0, []), (77, .getfield 30, 80, [], 0, []), (80, .iload_n 3, 81, [], 0, []), (81, .iconst (-1), 82, [], (-1), []), (82, .iastore, 83, [], 0, []), (83, .aload_n 0, 84, [], 0, []), (84, .getfield 33, 87, [], 0, []), (87, .iload_n 3, 88, [], 0, []), (88, .iconst (-1), 89, [], (-1), []), (89, .iastore, 90, [], 0, []), (90, .iload_n 3, 91, [], 0, []), (91, .ireturn, 92, [], 0, [])]
/-- BlockFront$Tree.append(II)V -/
def am_c33 : List (Nat × Instr × Nat × List Nat × Int32 × List Int32) := [(0, .aload_n 0, 1, [], 0, []), (1, .iload_n 1, 2, [], 0, []), (2, .invokevirtual 43, 5, [], 0, []), (5, .ifCond .eq 11, 8, [16], 0, []), (8, .aload_n 0, 9, [], 0, []), (9, .iload_n 2, 10, [], 0, []), (10, .invokevirtual 43, 13, [], 0, []), (13, .ifCond .ne 4, 16, [17], 0, []), (16, .return_, 17, [], 0, []), (17, .aload_n 0, 18, [], 0, []), (18, .getfield 27, 21, [], 0, []), (21, .iload_n 1, 22, [], 0, []), (22, .iaload, 23, [], 0, []), (23, .istore_n 3, 24, [], 0, []), (24, .aload_n 0, 25, [], 0, []), (25, .iload_n 3, 26, [], 0, []), (26, .invokevirtual 43, 29, [], 0, []), (29, .ifCond .eq 13, 32, [42], 0, []), (32, .aload_n 0, 33, [], 0, []), (33, .getfield 30, 36, [], 0, []), (36, .iload_n 3, 37, [], 0, []), (37, .iload_n 2, 38, [], 0, []), (38, .iastore, 39, [], 0, []), (39, .goto 10, 42, [49], 0, []), (42, .aload_n 0, 43, [], 0, []), (43, .getfield 24, 46, [], 0, []), (46, .iload_n 1, 47, [], 0, []), (47, .iload_n 2, 48, [], 0, []), (48, .iastore, 49, [], 0, []), (49, .aload_n 0, 50, [], 0, []), (50, .getfield 27, 53, [], 0, []), (53, .iload_n 1, 54, [], 0, []), (54, .iload_n 2, 55, [], 0, []), (55, .iastore, 56, [], 0, []), (56, .aload_n 0, 57, [], 0, []), (57, .getfield 33, 60, [], 0, []), (60, .iload_n 2, 61, [], 0, []), (61, .iload_n 1, 62, [], 0, []), (62, .iastore, 63, [], 0, []), (63, .aload_n 0, 64, [], 0, []), (64, .getfield 21, 67, [], 0, []), (67, .iload_n 1, 68, [], 0, []), (68, .dup2, 69, [], 0, []), (69, .iaload, 70, [], 0, []), (70, .iconst 1, 71, [], 1, []), (71, .iadd, 72, [], 0, []), (72, .iastore, 73, [], 0, []), (73, .aload_n 0, 74, [], 0, []), (74, .getfield 18, 77, [], 0, []), (77, .iload_n 1, 78, [], 0, []), (78, .aload_n 0, 79, [], 0, []), (79, .getfield 18, 82, [], 0, []), (82, .iload_n 1, 83, [], 0, []), (83, .iaload, 84, [], 0, []), (84, .aload_n 0, 85, [], 0, []), (85, .getfield 18, 88, [], 0, []), (88, .iload_n 2, 89, [], 0, []), (89, .iaload, 90, [], 0, []), (90, .iconst 1, 91, [], 1, []), (91, .iadd, 92, [], 0, []), (92, .invokestatic 47, 95, [], 0, []), (95, .iastore, 96, [], 0, []), (96, .return_, 97, [], 0, [])]
/-- BlockFront$Tree.setToken(II)V -/
def am_c34 : List (Nat × Instr × Nat × List Nat × Int32 × List Int32) := [(0, .aload_n 0, 1, [], 0, []), (1, .iload_n 1, 2, [], 0, []), (2, .invokevirtual 43, 5, [], 0, []), (5, .ifCond .eq 10, 8, [15], 0, []), (8, .aload_n 0, 9, [], 0, []), (9, .getfield 15, 12, [], 0, []), (12, .iload_n 1, 13, [], 0, []), (13, .iload_n 2, 14, [], 0, []), (14, .iastore, 15, [], 0, []), (15, .return_, 16, [], 0, [])]
/-- BlockFront$Tree.has(I)Z -/
def am_c35 : List (Nat × Instr × Nat × List Nat × Int32 × List Int32) := [(0, .iload_n 1, 1, [], 0, []), (1, .ifCond .lt 15, 4, [16], 0, []), (4, .iload_n 1, 5, [], 0, []), (5, .aload_n 0, 6, [], 0, []), (6, .getfield 39, 9, [], 0, []), (9, .if_icmp .ge 7, 12, [16], 0, []), (12, .iconst 1, 13, [], 1, []), (13, .goto 4, 16, [17], 0, []), (16, .iconst 0, 17, [], 0, []), (17, .ireturn, 18, [], 0, [])]
/-- BlockFront$Tree.kindOf(I)I -/
def am_c36 : List (Nat × Instr × Nat × List Nat × Int32 × List Int32) := [(0, .iload_n 1, 1, [], 0, []), (1, .ifCond .lt 20, 4, [21], 0, []), (4, .iload_n 1, 5, [], 0, []), (5, .aload_n 0, 6, [], 0, []), (6, .getfield 39, 9, [], 0, []), (9, .if_icmp .ge 12, 12, [21], 0, []), (12, .aload_n 0, 13, [], 0, []), (13, .getfield 9, 16, [], 0, []), (16, .iload_n 1, 17, [], 0, []), (17, .iaload, 18, [], 0, []), (18, .goto 4, 21, [22], 0, []), (21, .iconst (-1), 22, [], (-1), []), (22, .ireturn, 23, [], 0, [])]
/-- BlockFront$Tree.tokenOf(I)I -/
def am_c37 : List (Nat × Instr × Nat × List Nat × Int32 × List Int32) := [(0, .iload_n 1, 1, [], 0, []), (1, .ifCond .lt 20, 4, [21], 0, []), (4, .iload_n 1, 5, [], 0, []), (5, .aload_n 0, 6, [], 0, []), (6, .getfield 39, 9, [], 0, []), (9, .if_icmp .ge 12, 12, [21], 0, []), (12, .aload_n 0, 13, [], 0, []), (13, .getfield 15, 16, [], 0, []), (16, .iload_n 1, 17, [], 0, []), (17, .iaload, 18, [], 0, []), (18, .goto 4, 21, [22], 0, []), (21, .iconst (-1), 22, [], (-1), []), (22, .ireturn, 23, [], 0, [])]
/-- BlockFront$Tree.heightOf(I)I -/
def am_c38 : List (Nat × Instr × Nat × List Nat × Int32 × List Int32) := [(0, .iload_n 1, 1, [], 0, []), (1, .ifCond .lt 20, 4, [21], 0, []), (4, .iload_n 1, 5, [], 0, []), (5, .aload_n 0, 6, [], 0, []), (6, .getfield 39, 9, [], 0, []), (9, .if_icmp .ge 12, 12, [21], 0, []), (12, .aload_n 0, 13, [], 0, []), (13, .getfield 18, 16, [], 0, []), (16, .iload_n 1, 17, [], 0, []), (17, .iaload, 18, [], 0, []), (18, .goto 4, 21, [22], 0, []), (21, .iconst 0, 22, [], 0, []), (22, .ireturn, 23, [], 0, [])]
/-- BlockFront$Tree.partsOf(I)I -/
def am_c39 : List (Nat × Instr × Nat × List Nat × Int32 × List Int32) := [(0, .iload_n 1, 1, [], 0, []), (1, .ifCond .lt 20, 4, [21], 0, []), (4, .iload_n 1, 5, [], 0, []), (5, .aload_n 0, 6, [], 0, []), (6, .getfield 39, 9, [], 0, []), (9, .if_icmp .ge 12, 12, [21], 0, []), (12, .aload_n 0, 13, [], 0, []), (13, .getfield 21, 16, [], 0, []), (16, .iload_n 1, 17, [], 0, []), (17, .iaload, 18, [], 0, []), (18, .goto 4, 21, [22], 0, []), (21, .iconst 0, 22, [], 0, []), (22, .ireturn, 23, [], 0, [])]
/-- BlockFront$Tree.firstOf(I)I -/
def am_c40 : List (Nat × Instr × Nat × List Nat × Int32 × List Int32) := [(0, .iload_n 1, 1, [], 0, []), (1, .ifCond .lt 20, 4, [21], 0, []), (4, .iload_n 1, 5, [], 0, []), (5, .aload_n 0, 6, [], 0, []), (6, .getfield 39, 9, [], 0, []), (9, .if_icmp .ge 12, 12, [21], 0, []), (12, .aload_n 0, 13, [], 0, []), (13, .getfield 24, 16, [], 0, []), (16, .iload_n 1, 17, [], 0, []), (17, .iaload, 18, [], 0, []), (18, .goto 4, 21, [22], 0, []), (21, .iconst (-1), 22, [], (-1), []), (22, .ireturn, 23, [], 0, [])]
/-- BlockFront$Tree.nextOf(I)I -/
def am_c41 : List (Nat × Instr × Nat × List Nat × Int32 × List Int32) := [(0, .iload_n 1, 1, [], 0, []), (1, .ifCond .lt 20, 4, [21], 0, []), (4, .iload_n 1, 5, [], 0, []), (5, .aload_n 0, 6, [], 0, []), (6, .getfield 39, 9, [], 0, []), (9, .if_icmp .ge 12, 12, [21], 0, []), (12, .aload_n 0, 13, [], 0, []), (13, .getfield 30, 16, [], 0, []), (16, .iload_n 1, 17, [], 0, []), (17, .iaload, 18, [], 0, []), (18, .goto 4, 21, [22], 0, []), (21, .iconst (-1), 22, [], (-1), []), (22, .ireturn, 23, [], 0, [])]
/-- BlockFront$Tree.numbered(I)I -/
def am_c42 : List (Nat × Instr × Nat × List Nat × Int32 × List Int32) := [(0, .iload_n 1, 1, [], 0, []), (1, .ifCond .lt 20, 4, [21], 0, []), (4, .iload_n 1, 5, [], 0, []), (5, .aload_n 0, 6, [], 0, []), (6, .getfield 39, 9, [], 0, []), (9, .if_icmp .ge 12, 12, [21], 0, []), (12, .aload_n 0, 13, [], 0, []), (13, .getfield 36, 16, [], 0, []), (16, .iload_n 1, 17, [], 0, []), (17, .iaload, 18, [], 0, []), (18, .goto 4, 21, [22], 0, []), (21, .iconst (-1), 22, [], (-1), []), (22, .ireturn, 23, [], 0, [])]
/-- BlockFront$Tree.number()V -/
def am_c43 : List (Nat × Instr × Nat × List Nat × Int32 × List Int32) := [(0, .iconst 0, 1, [], 0, []), (1, .istore_n 1, 2, [], 0, []), (2, .iconst 0, 3, [], 0, []), (3, .istore_n 2, 4, [], 0, []), (4, .iload_n 2, 5, [], 0, []), (5, .aload_n 0, 6, [], 0, []), (6, .getfield 39, 9, [], 0, []), (9, .if_icmp .ge 52, 12, [61], 0, []), (12, .aload_n 0, 13, [], 0, []), (13, .iload_n 1, 14, [], 0, []), (14, .invokevirtual 43, 17, [], 0, []), (17, .ifCond .eq 44, 20, [61], 0, []), (20, .aload_n 0, 21, [], 0, []), (21, .getfield 36, 24, [], 0, []), (24, .iload_n 2, 25, [], 0, []), (25, .iload_n 1, 26, [], 0, []), (26, .iastore, 27, [], 0, []), (27, .aload_n 0, 28, [], 0, []), (28, .aload_n 0, 29, [], 0, []), (29, .getfield 24, 32, [], 0, []), (32, .iload_n 1, 33, [], 0, []), (33, .iaload, 34, [], 0, []), (34, .invokevirtual 43, 37, [], 0, []), (37, .ifCond .eq 12, 40, [49], 0, []), (40, .aload_n 0, 41, [], 0, []), (41, .getfield 24, 44, [], 0, []), (44, .iload_n 1, 45, [], 0, []), (45, .iaload, 46, [], 0, []), (46, .goto 8, 49, [54], 0, []), (49, .aload_n 0, 50, [], 0, []), (50, .iload_n 1, 51, [], 0, []), (51, .invokevirtual 53, 54, [], 0, []), (54, .istore_n 1, 55, [], 0, []), (55, .iinc 2 1, 58, [], 1, []), (58, .goto (-54), 61, [4], 0, []), (61, .return_, 62, [], 0, [])]
/-- BlockFront$Tree.behind(I)I -/
def am_c44 : List (Nat × Instr × Nat × List Nat × Int32 × List Int32) := [(0, .iload_n 1, 1, [], 0, []), (1, .istore_n 2, 2, [], 0, []), (2, .iconst 0, 3, [], 0, []), (3, .istore_n 3, 4, [], 0, []), (4, .iload_n 3, 5, [], 0, []), (5, .sipush 360, 8, [], 360, []), (8, .if_icmp .ge 37, 11, [45], 0, []), (11, .aload_n 0, 12, [], 0, []), (12, .iload_n 2, 13, [], 0, []), (13, .invokevirtual 43, 16, [], 0, []), (16, .ifCond .eq 29, 19, [45], 0, []), (19, .aload_n 0, 20, [], 0, []), (20, .aload_n 0, 21, [], 0, []), (21, .getfield 30, 24, [], 0, []), (24, .iload_n 2, 25, [], 0, []), (25, .iaload, 26, [], 0, []), (26, .invokevirtual 43, 29, [], 0, []), (29, .ifCond .ne 16, 32, [45], 0, []), (32, .aload_n 0, 33, [], 0, []), (33, .getfield 33, 36, [], 0, []), (36, .iload_n 2, 37, [], 0, []), (37, .iaload, 38, [], 0, []), (38, .istore_n 2, 39, [], 0, []), (39, .iinc 3 1, 42, [], 1, []), (42, .goto (-38), 45, [4], 0, []), (45, .aload_n 0, 46, [], 0, []), (46, .iload_n 2, 47, [], 0, []), (47, .invokevirtual 57, 50, [], 0, []), (50, .ireturn, 51, [], 0, [])]
/-- BlockFront$Scanner.<init>(LBlockFront$Text;LBlockFront$Tokens;LBlockFront$Refusal;)V -/
def am_c45 : List (Nat × Instr × Nat × List Nat × Int32 × List Int32) := [(0, .aload_n 0, 1, [], 0, []), (1, .invokespecial 3, 4, [], 0, []), (4, .aload_n 0, 5, [], 0, []), (5, .new 9, 8, [], 0, []), (8, .dup, 9, [], 0, []), (9, .bipush 9, 11, [], 9, []), (11, .invokespecial 11, 14, [], 0, []), (14, .putfield 14, 17, [], 0, []), (17, .aload_n 0, 18, [], 0, []), (18, .new 9, 21, [], 0, []), (21, .dup, 22, [], 0, []), (22, .bipush 9, 24, [], 9, []), (24, .invokespecial 11, 27, [], 0, []), (27, .putfield 20, 30, [], 0, []), (30, .aload_n 0, 31, [], 0, []), (31, .new 9, 34, [], 0, []), (34, .dup, 35, [], 0, []), (35, .bipush 8, 37, [], 8, []), (37, .invokespecial 11, 40, [], 0, []), (40, .putfield 23, 43, [], 0, []), (43, .aload_n 0, 44, [], 0, []), (44, .iconst 0, 45, [], 0, []), (45, .putfield 26, 48, [], 0, []), (48, .aload_n 0, 49, [], 0, []), (49, .iconst 0, 50, [], 0, []), (50, .putfield 30, 53, [], 0, []), (53, .aload_n 0, 54, [], 0, []), (54, .aload_n 1, 55, [], 0, []), (55, .putfield 34, 58, [], 0, []), (58, .aload_n 0, 59, [], 0, []), (59, .aload_n 2, 60, [], 0, []), (60, .putfield 38, 63, [], 0, []), (63, .aload_n 0, 64, [], 0, []), (64, .aload_n 3, 65, [], 0, []), (65, .putfield 42, 68, [], 0, []), (68, .return_, 69, [], 0, [])]
/-- BlockFront$Scanner.scan()V -/
def am_c46 : List (Nat × Instr × Nat × List Nat × Int32 × List Int32) := [(0, .aload_n 0, 1, [], 0, []), (1, .invokevirtual 46, 4, [], 0, []), (4, .iconst 0, 5, [], 0, []), (5, .istore_n 1, 6, [], 0, []), (6, .iload_n 1, 7, [], 0, []), (7, .sipush 600, 10, [], 600, []), (10, .if_icmp .ge 45, 13, [55], 0, []), (13, .aload_n 0, 14, [], 0, []), (14, .getfield 26, 17, [], 0, []), (17, .aload_n 0, 18, [], 0, []), (18, .getfield 34, 21, [], 0, []), (21, .getfield 49, 24, [], 0, []), (24, .if_icmp .ge 31, 27, [55], 0, []), (27, .aload_n 0, 28, [], 0, []), (28, .getfield 30, 31, [], 0, []), (31, .ifCond .ne 7, 34, [38], 0, []), (34, .aload_n 0, 35, [], 0, []), (35, .invokevirtual 54, 38, [], 0, []), (38, .aload_n 0, 39, [], 0, []), (39, .getfield 30, 42, [], 0, []), (42, .ifCond .eq 7, 45, [49], 0, []), (45, .aload_n 0, 46, [], 0, []), (46, .invokevirtual 57, 49, [], 0, []), (49, .iinc 1 1, 52, [], 1, []), (52, .goto (-46), 55, [6], 0, []), (55, .aload_n 0, 56, [], 0, []), (56, .invokevirtual 60, 59, [], 0, []), (59, .return_, 60, [], 0, [])]
/-- BlockFront$Scanner.begin()V -/
def am_c47 : List (Nat × Instr × Nat × List Nat × Int32 × List Int32) := [(0, .aload_n 0, 1, [], 0, []), (1, .getfield 38, 4, [], 0, []), (4, .iconst 0, 5, [], 0, []), (5, .putfield 63, 8, [], 0, []), (8, .aload_n 0, 9, [], 0, []), (9, .getfield 23, 12, [], 0, []), (12, .iconst 0, 13, [], 0, []), (13, .putfield 66, 16, [], 0, []), (16, .aload_n 0, 17, [], 0, []), (17, .getfield 14, 20, [], 0, []), (20, .iconst 0, 21, [], 0, []), (21, .putfield 66, 24, [], 0, []), (24, .aload_n 0, 25, [], 0, []), (25, .getfield 14, 28, [], 0, []), (28, .iconst 0, 29, [], 0, []), (29, .invokevirtual 67, 32, [], 0, []), (32, .pop, 33, [], 0, []), (33, .aload_n 0, 34, [], 0, []), (34, .getfield 20, 37, [], 0, []), (37, .iconst 0, 38, [], 0, []), (38, .putfield 66, 41, [], 0, []), (41, .aload_n 0, 42, [], 0, []), (42, .getfield 20, 45, [], 0, []), (45, .iconst 0, 46, [], 0, []), (46, .invokevirtual 67, 49, [], 0, []), (49, .pop, 50, [], 0, []), (50, .aload_n 0, 51, [], 0, []), (51, .iconst 0, 52, [], 0, []), (52, .putfield 26, 55, [], 0, []), (55, .aload_n 0, 56, [], 0, []), (56, .iconst 0, 57, [], 0, []), (57, .putfield 30, 60, [], 0, []), (60, .return_, 61, [], 0, [])]
/-- BlockFront$Scanner.beginLine()V -/
def am_c48 : List (Nat × Instr × Nat × List Nat × Int32 × List Int32) := [(0, .aload_n 0, 1, [], 0, []), (1, .getfield 26, 4, [], 0, []), (4, .istore_n 1, 5, [], 0, []), (5, .iconst 0, 6, [], 0, []), (6, .istore_n 2, 7, [], 0, []), (7, .aload_n 0, 8, [], 0, []), (8, .getfield 26, 11, [], 0, []), (11, .aload_n 0, 12, [], 0, []), (12, .getfield 34, 15, [], 0, []), (15, .getfield 49, 18, [], 0, []), (18, .if_icmp .ge 66, 21, [84], 0, []), (21, .aload_n 0, 22, [], 0, []), (22, .getfield 34, 25, [], 0, []), (25, .aload_n 0, 26, [], 0, []), (26, .getfield 26, 29, [], 0, []), (29, .invokevirtual 71, 32, [], 0, []), (32, .invokestatic 75, 35, [], 0, []), (35, .ifCond .eq 49, 38, [84], 0, []), (38, .aload_n 0, 39, [], 0, []), (39, .getfield 34, 42, [], 0, []), (42, .aload_n 0, 43, [], 0, []), (43, .getfield 26, 46, [], 0, []), (46, .invokevirtual 71, 49, [], 0, []), (49, .bipush 9, 51, [], 9, []), (51, .if_icmp .ne 16, 54, [67], 0, []), (54, .iload_n 2, 55, [], 0, []), (55, .bipush 8, 57, [], 8, []), (57, .idiv, 58, [], 0, []), (58, .bipush 8, 60, [], 8, []), (60, .imul, 61, [], 0, []), (61, .bipush 8, 63, [], 8, []), (63, .iadd, 64, [], 0, []), (64, .goto 6, 67, [70], 0, []), (67, .iload_n 2, 68, [], 0, []), (68, .iconst 1, 69, [], 1, []), (69, .iadd, 70, [], 0, []), (70, .istore_n 2, 71, [], 0, []), (71, .aload_n 0, 72, [], 0, []), (72, .dup, 73, [], 0, []), (73, .getfield 26, 76, [], 0, []), (76, .iconst 1, 77, [], 1, []), (77, .iadd, 78, [], 0, []), (78, .putfield 26, 81, [], 0, []), (81, .goto (-74), 84, [7], 0, []), (84, .aload_n 0, 85, [], 0, []), (85, .getfield 34, 88, [], 0, []), (88, .aload_n 0, 89, [], 0, []), (89, .getfield 26, 92, [], 0, []), (92, .invokevirtual 71, 95, [], 0, []), (95, .istore_n 3, 96, [], 0, []), (96, .aload_n 0, 97, [], 0, []), (97, .getfield 26, 100, [], 0, []), (100, .aload_n 0, 101, [], 0, []), (101, .getfield 34, 104, [], 0, []), (104, .getfield 49, 107, [], 0, []), (107, .if_icmp .ge 15, 110, [122], 0, []), (110, .iload_n 3, 111, [], 0, []), (111, .bipush 10, 113, [], 10, []), (113, .if_icmp .eq 9, 116, [122], 0, []), (116, .iload_n 3, 117, [], 0, []), (117, .bipush 35, 119, [], 35, []), (119, .if_icmp .ne 28, 122, [147], 0, []), (122, .aload_n 0, 123, [], 0, []), (123, .invokevirtual 79, 126, [], 0, []), (126, .aload_n 0, 127, [], 0, []), (127, .aload_n 0, 128, [], 0, []), (128, .getfield 26, 131, [], 0, []), (131, .iconst 1, 132, [], 1, []), (132, .iadd, 133, [], 0, []), (133, .aload_n 0, 134, [], 0, []), (134, .getfield 34, 137, [], 0, []), (137, .getfield 49, 140, [], 0, []), (140, .invokestatic 82, 143, [], 0, []), (143, .putfield 26, 146, [], 0, []), (146, .return_, 147, [], 0, []), (147, .aload_n 0, 148, [], 0, []), (148, .iload_n 2, 149, [], 0, []), (149, .aload_n 0, 150, [], 0, []), (150, .getfield 26, 153, [], 0, []), (153, .iload_n 1, 154, [], 0, []), (154, .isub, 155, [], 0, []), (155, .invokevirtual 88, 158, [], 0, []), (158, .aload_n 0, 159, [], 0, []), (159, .iconst 1, 160, [], 1, []), (160, .putfield 30, 163, [], 0, []), (163, .return_, 164, [], 0, [])]
/-- BlockFront$Scanner.passToEndOfLine()V -/
def am_c49 : List (Nat × Instr × Nat × List Nat × Int32 × List Int32) := [(0, .aload_n 0, 1, [], 0, []), (1, .getfield 26, 4, [], 0, []), (4, .aload_n 0, 5, [], 0, []), (5, .getfield 34, 8, [], 0, []), (8, .getfield 49, 11, [], 0, []), (11, .if_icmp .ge 32, 14, [43], 0, []), (14, .aload_n 0, 15, [], 0, []), (15, .getfield 34, 18, [], 0, []), (18, .aload_n 0, 19, [], 0, []), (19, .getfield 26, 22, [], 0, []), (22, .invokevirtual 71, 25, [], 0, []), (25, .bipush 10, 27, [], 10, []), (27, .if_icmp .eq 16, 30, [43], 0, []), (30, .aload_n 0, 31, [], 0, []), (31, .dup, 32, [], 0, []), (32, .getfield 26, 35, [], 0, []), (35, .iconst 1, 36, [], 1, []), (36, .iadd, 37, [], 0, []), (37, .putfield 26, 40, [], 0, []), (40, .goto (-40), 43, [0], 0, []), (43, .return_, 44, [], 0, [])]
/-- BlockFront$Scanner.compareWidths(II)V -/
def am_c50 : List (Nat × Instr × Nat × List Nat × Int32 × List Int32) := [(0, .iload_n 1, 1, [], 0, []), (1, .aload_n 0, 2, [], 0, []), (2, .getfield 14, 5, [], 0, []), (5, .invokevirtual 92, 8, [], 0, []), (8, .if_icmp .le 10, 11, [18], 0, []), (11, .aload_n 0, 12, [], 0, []), (12, .iload_n 1, 13, [], 0, []), (13, .iload_n 2, 14, [], 0, []), (14, .invokevirtual 96, 17, [], 0, []), (17, .return_, 18, [], 0, []), (18, .iconst 0, 19, [], 0, []), (19, .istore_n 3, 20, [], 0, []), (20, .iload_n 3, 21, [], 0, []), (21, .bipush 9, 23, [], 9, []), (23, .if_icmp .ge 43, 26, [66], 0, []), (26, .aload_n 0, 27, [], 0, []), (27, .getfield 14, 30, [], 0, []), (30, .invokevirtual 92, 33, [], 0, []), (33, .iload_n 1, 34, [], 0, []), (34, .if_icmp .le 32, 37, [66], 0, []), (37, .aload_n 0, 38, [], 0, []), (38, .getfield 14, 41, [], 0, []), (41, .invokevirtual 99, 44, [], 0, []), (44, .aload_n 0, 45, [], 0, []), (45, .getfield 20, 48, [], 0, []), (48, .invokevirtual 99, 51, [], 0, []), (51, .aload_n 0, 52, [], 0, []), (52, .bipush 8, 54, [], 8, []), (54, .bipush 8, 56, [], 8, []), (56, .iconst 0, 57, [], 0, []), (57, .invokevirtual 102, 60, [], 0, []), (60, .iinc 3 1, 63, [], 1, []), (63, .goto (-43), 66, [20], 0, []), (66, .aload_n 0, 67, [], 0, []), (67, .getfield 14, 70, [], 0, []), (70, .invokevirtual 92, 73, [], 0, []), (73, .iload_n 1, 74, [], 0, []), (74, .if_icmp .eq 15, 77, [89], 0, []), (77, .aload_n 0, 78, [], 0, []), (78, .getfield 42, 81, [], 0, []), (81, .iconst 2, 82, [], 2, []), (82, .aload_n 0, 83, [], 0, []), (83, .getfield 26, 86, [], 0, []), (86, .invokevirtual 106, 89, [], 0, []), (89, .aload_n 0, 90, [], 0, []), (90, .getfield 20, 93, [], 0, []), (93, .invokevirtual 92, 96, [], 0, []), (96, .iload_n 2, 97, [], 0, []), (97, .if_icmp .eq 15, 100, [112], 0, []), (100, .aload_n 0, 101, [], 0, []), (101, .getfield 42, 104, [], 0, []), (104, .iconst 1, 105, [], 1, []), (105, .aload_n 0, 106, [], 0, []), (106, .getfield 26, 109, [], 0, []), (109, .invokevirtual 106, 112, [], 0, []), (112, .return_, 113, [], 0, [])]
/-- BlockFront$Scanner.beginBlock(II)V -/
def am_c51 : List (Nat × Instr × Nat × List Nat × Int32 × List Int32) := [(0, .iload_n 2, 1, [], 0, []), (1, .aload_n 0, 2, [], 0, []), (2, .getfield 20, 5, [], 0, []), (5, .invokevirtual 92, 8, [], 0, []), (8, .if_icmp .gt 15, 11, [23], 0, []), (11, .aload_n 0, 12, [], 0, []), (12, .getfield 42, 15, [], 0, []), (15, .iconst 1, 16, [], 1, []), (16, .aload_n 0, 17, [], 0, []), (17, .getfield 26, 20, [], 0, []), (20, .invokevirtual 106, 23, [], 0, []), (23, .aload_n 0, 24, [], 0, []), (24, .getfield 14, 27, [], 0, []), (27, .iload_n 1, 28, [], 0, []), (28, .invokevirtual 67, 31, [], 0, []), (31, .ifCond .eq 14, 34, [45], 0, []), (34, .aload_n 0, 35, [], 0, []), (35, .getfield 20, 38, [], 0, []), (38, .iload_n 2, 39, [], 0, []), (39, .invokevirtual 67, 42, [], 0, []), (42, .ifCond .ne 15, 45, [57], 0, []), (45, .aload_n 0, 46, [], 0, []), (46, .getfield 42, 49, [], 0, []), (49, .iconst 3, 50, [], 3, []), (50, .aload_n 0, 51, [], 0, []), (51, .getfield 26, 54, [], 0, []), (54, .invokevirtual 106, 57, [], 0, []), (57, .aload_n 0, 58, [], 0, []), (58, .bipush 7, 60, [], 7, []), (60, .bipush 7, 62, [], 7, []), (62, .iconst 0, 63, [], 0, []), (63, .invokevirtual 102, 66, [], 0, []), (66, .return_, 67, [], 0, [])]
/-- BlockFront$Scanner.take(III)V -/
def am_c52 : List (Nat × Instr × Nat × List Nat × Int32 × List Int32) := [(0, .aload_n 0, 1, [], 0, []), (1, .getfield 38, 4, [], 0, []), (4, .iload_n 1, 5, [], 0, []), (5, .iload_n 2, 6, [], 0, []), (6, .aload_n 0, 7, [], 0, []), (7, .getfield 26, 10, [], 0, []), (10, .iload_n 3, 11, [], 0, []), (11, .invokevirtual 111, 14, [], 0, []), (14, .ifCond .ne 16, 17, [30], 0, []), (17, .aload_n 0, 18, [], 0, []), (18, .getfield 42, 21, [], 0, []), (21, .bipush 8, 23, [], 8, []), (23, .aload_n 0, 24, [], 0, []), (24, .getfield 26, 27, [], 0, []), (27, .invokevirtual 106, 30, [], 0, []), (30, .aload_n 0, 31, [], 0, []), (31, .dup, 32, [], 0, []), (32, .getfield 26, 35, [], 0, []), (35, .iload_n 3, 36, [], 0, []), (36, .iadd, 37, [], 0, []), (37, .putfield 26, 40, [], 0, []), (40, .return_, 41, [], 0, [])]
/-- BlockFront$Scanner.takeNext()V -/
def am_c53 : List (Nat × Instr × Nat × List Nat × Int32 × List Int32) := [(0, .aload_n 0, 1, [], 0, []), (1, .getfield 34, 4, [], 0, []), (4, .aload_n 0, 5, [], 0, []), (5, .getfield 26, 8, [], 0, []), (8, .invokevirtual 71, 11, [], 0, []), (11, .istore_n 1, 12, [], 0, []), (12, .iload_n 1, 13, [], 0, []), (13, .invokestatic 75, 16, [], 0, []), (16, .ifCond .eq 16, 19, [32], 0, []), (19, .aload_n 0, 20, [], 0, []), (20, .dup, 21, [], 0, []), (21, .getfield 26, 24, [], 0, []), (24, .iconst 1, 25, [], 1, []), (25, .iadd, 26, [], 0, []), (26, .putfield 26, 29, [], 0, []), (29, .goto 119, 32, [148], 0, []), (32, .iload_n 1, 33, [], 0, []), (33, .bipush 35, 35, [], 35, []), (35, .if_icmp .ne 10, 38, [45], 0, []), (38, .aload_n 0, 39, [], 0, []), (39, .invokevirtual 79, 42, [], 0, []), (42, .goto 106, 45, [148], 0, []), (45, .iload_n 1, 46, [], 0, []), (46, .bipush 92, 48, [], 92, []), (48, .if_icmp .ne 34, 51, [82], 0, []), (51, .aload_n 0, 52, [], 0, []), (52, .getfield 34, 55, [], 0, []), (55, .aload_n 0, 56, [], 0, []), (56, .getfield 26, 59, [], 0, []), (59, .iconst 1, 60, [], 1, []), (60, .iadd, 61, [], 0, []), (61, .invokevirtual 71, 64, [], 0, []), (64, .bipush 10, 66, [], 10, []), (66, .if_icmp .ne 16, 69, [82], 0, []), (69, .aload_n 0, 70, [], 0, []), (70, .dup, 71, [], 0, []), (71, .getfield 26, 74, [], 0, []), (74, .iconst 2, 75, [], 2, []), (75, .iadd, 76, [], 0, []), (76, .putfield 26, 79, [], 0, []), (79, .goto 69, 82, [148], 0, []), (82, .iload_n 1, 83, [], 0, []), (83, .bipush 10, 85, [], 10, []), (85, .if_icmp .ne 10, 88, [95], 0, []), (88, .aload_n 0, 89, [], 0, []), (89, .invokevirtual 115, 92, [], 0, []), (92, .goto 56, 95, [148], 0, []), (95, .iload_n 1, 96, [], 0, []), (96, .invokestatic 118, 99, [], 0, []), (99, .ifCond .eq 10, 102, [109], 0, []), (102, .aload_n 0, 103, [], 0, []), (103, .invokevirtual 121, 106, [], 0, []), (106, .goto 42, 109, [148], 0, []), (109, .iload_n 1, 110, [], 0, []), (110, .invokestatic 124, 113, [], 0, []), (113, .ifCond .eq 10, 116, [123], 0, []), (116, .aload_n 0, 117, [], 0, []), (117, .invokevirtual 127, 120, [], 0, []), (120, .goto 28, 123, [148], 0, []), (123, .iload_n 1, 124, [], 0, []), (124, .bipush 39, 126, [], 39, []), (126, .if_icmp .eq 9, 129, [135], 0, []), (129, .iload_n 1, 130, [], 0, []), (130, .bipush 34, 132, [], 34, []), (132, .if_icmp .ne 11, 135, [143], 0, []), (135, .aload_n 0, 136, [], 0, []), (136, .iload_n 1, 137, [], 0, []), (137, .invokevirtual 130, 140, [], 0, []), (140, .goto 8, 143, [148], 0, []), (143, .aload_n 0, 144, [], 0, []), (144, .iload_n 1, 145, [], 0, []), (145, .invokevirtual 134, 148, [], 0, []), (148, .return_, 149, [], 0, [])]
/-- BlockFront$Scanner.takeEndOfLine()V -/
def am_c54 : List (Nat × Instr × Nat × List Nat × Int32 × List Int32) := [(0, .aload_n 0, 1, [], 0, []), (1, .getfield 23, 4, [], 0, []), (4, .getfield 66, 7, [], 0, []), (7, .ifCond .le 14, 10, [21], 0, []), (10, .aload_n 0, 11, [], 0, []), (11, .dup, 12, [], 0, []), (12, .getfield 26, 15, [], 0, []), (15, .iconst 1, 16, [], 1, []), (16, .iadd, 17, [], 0, []), (17, .putfield 26, 20, [], 0, []), (20, .return_, 21, [], 0, []), (21, .aload_n 0, 22, [], 0, []), (22, .bipush 6, 24, [], 6, []), (24, .bipush 6, 26, [], 6, []), (26, .iconst 1, 27, [], 1, []), (27, .invokevirtual 102, 30, [], 0, []), (30, .aload_n 0, 31, [], 0, []), (31, .iconst 0, 32, [], 0, []), (32, .putfield 30, 35, [], 0, []), (35, .return_, 36, [], 0, [])]
/-- BlockFront$Scanner.takeName()V -/
def am_c55 : List (Nat × Instr × Nat × List Nat × Int32 × List Int32) := [(0, .aload_n 0, 1, [], 0, []), (1, .getfield 26, 4, [], 0, []), (4, .iconst 1, 5, [], 1, []), (5, .iadd, 6, [], 0, []), (6, .istore_n 1, 7, [], 0, []), (7, .iload_n 1, 8, [], 0, []), (8, .aload_n 0, 9, [], 0, []), (9, .getfield 34, 12, [], 0, []), (12, .getfield 49, 15, [], 0, []), (15, .if_icmp .ge 37, 18, [52], 0, []), (18, .aload_n 0, 19, [], 0, []), (19, .getfield 34, 22, [], 0, []), (22, .iload_n 1, 23, [], 0, []), (23, .invokevirtual 71, 26, [], 0, []), (26, .invokestatic 118, 29, [], 0, []), (29, .ifCond .ne 17, 32, [46], 0, []), (32, .aload_n 0, 33, [], 0, []), (33, .getfield 34, 36, [], 0, []), (36, .iload_n 1, 37, [], 0, []), (37, .invokevirtual 71, 40, [], 0, []), (40, .invokestatic 124, 43, [], 0, []), (43, .ifCond .eq 9, 46, [52], 0, []), (46, .iinc 1 1, 49, [], 1, []), (49, .goto (-42), 52, [7], 0, []), (52, .aload_n 0, 53, [], 0, []), (53, .aload_n 0, 54, [], 0, []), (54, .getfield 26, 57, [], 0, []), (57, .iload_n 1, 58, [], 0, []), (58, .aload_n 0, 59, [], 0, []), (59, .getfield 26, 62, [], 0, []), (62, .isub, 63, [], 0, []), (63, .invokevirtual 137, 66, [], 0, []), (66, .istore_n 2, 67, [], 0, []), (67, .aload_n 0, 68, [], 0, []), (68, .iload_n 2, 69, [], 0, []), (69, .iconst 1, 70, [], 1, []), (70, .if_icmp .ne 7, 73, [77], 0, []), (73, .iconst 1, 74, [], 1, []), (74, .goto 4, 77, [78], 0, []), (77, .iconst 2, 78, [], 2, []), (78, .iload_n 2, 79, [], 0, []), (79, .iload_n 1, 80, [], 0, []), (80, .aload_n 0, 81, [], 0, []), (81, .getfield 26, 84, [], 0, []), (84, .isub, 85, [], 0, []), (85, .invokevirtual 102, 88, [], 0, []), (88, .return_, 89, [], 0, [])]
/-- BlockFront$Scanner.markOfName(II)I -/
def am_c56 : List (Nat × Instr × Nat × List Nat × Int32 × List Int32) := [(0, .aload_n 0, 1, [], 0, []), (1, .getfield 34, 4, [], 0, []), (4, .ldc 140, 6, [], 0, []), (6, .iload_n 1, 7, [], 0, []), (7, .iload_n 2, 8, [], 0, []), (8, .invokevirtual 142, 11, [], 0, []), (11, .ifCond .eq 6, 14, [17], 0, []), (14, .bipush 11, 16, [], 11, []), (16, .ireturn, 17, [], 0, []), (17, .aload_n 0, 18, [], 0, []), (18, .getfield 34, 21, [], 0, []), (21, .ldc 146, 23, [], 0, []), (23, .iload_n 1, 24, [], 0, []), (24, .iload_n 2, 25, [], 0, []), (25, .invokevirtual 142, 28, [], 0, []), (28, .ifCond .eq 6, 31, [34], 0, []), (31, .bipush 12, 33, [], 12, []), (33, .ireturn, 34, [], 0, []), (34, .aload_n 0, 35, [], 0, []), (35, .getfield 34, 38, [], 0, []), (38, .ldc 148, 40, [], 0, []), (40, .iload_n 1, 41, [], 0, []), (41, .iload_n 2, 42, [], 0, []), (42, .invokevirtual 142, 45, [], 0, []), (45, .ifCond .eq 6, 48, [51], 0, []), (48, .bipush 13, 50, [], 13, []), (50, .ireturn, 51, [], 0, []), (51, .aload_n 0, 52, [], 0, []), (52, .getfield 34, 55, [], 0, []), (55, .ldc 150, 57, [], 0, []), (57, .iload_n 1, 58, [], 0, []), (58, .iload_n 2, 59, [], 0, []), (59, .invokevirtual 142, 62, [], 0, []), (62, .ifCond .eq 6, 65, [68], 0, []), (65, .bipush 14, 67, [], 14, []), (67, .ireturn, 68, [], 0, []), (68, .aload_n 0, 69, [], 0, []), (69, .getfield 34, 72, [], 0, []), (72, .ldc 152, 74, [], 0, []), (74, .iload_n 1, 75, [], 0, []), (75, .iload_n 2, 76, [], 0, []), (76, .invokevirtual 142, 79, [], 0, []), (79, .ifCond .eq 6, 82, [85], 0, []), (82, .bipush 15, 84, [], 15, []), (84, .ireturn, 85, [], 0, []), (85, .aload_n 0, 86, [], 0, []), (86, .getfield 34, 89, [], 0, []), (89, .ldc 154, 91, [], 0, []), (91, .iload_n 1, 92, [], 0, []), (92, .iload_n 2, 93, [], 0, []), (93, .invokevirtual 142, 96, [], 0, []), (96, .ifCond .eq 6, 99, [102], 0, []), (99, .bipush 16, 101, [], 16, []), (101, .ireturn, 102, [], 0, []), (102, .aload_n 0, 103, [], 0, []), (103, .getfield 34, 106, [], 0, []), (106, .ldc 156, 108, [], 0, []), (108, .iload_n 1, 109, [], 0, []), (109, .iload_n 2, 110, [], 0, []), (110, .invokevirtual 142, 113, [], 0, []), (113, .ifCond .eq 6, 116, [119], 0, []), (116, .bipush 17, 118, [], 17, []), (118, .ireturn, 119, [], 0, []), (119, .aload_n 0, 120, [], 0, []), (120, .getfield 34, 123, [], 0, []), (123, .ldc 158, 125, [], 0, []), (125, .iload_n 1, 126, [], 0, []), (126, .iload_n 2, 127, [], 0, []), (127, .invokevirtual 142, 130, [], 0, []), (130, .ifCond .eq 6, 133, [136], 0, []), (133, .bipush 18, 135, [], 18, []), (135, .ireturn, 136, [], 0, []), (136, .aload_n 0, 137, [], 0, []), (137, .getfield 34, 140, [], 0, []), (140, .ldc 160, 142, [], 0, []), (142, .iload_n 1, 143, [], 0, []), (143, .iload_n 2, 144, [], 0, []), (144, .invokevirtual 142, 147, [], 0, []), (147, .ifCond .eq 6, 150, [153], 0, []), (150, .bipush 19, 152, [], 19, []), (152, .ireturn, 153, [], 0, []), (153, .aload_n 0, 154, [], 0, []), (154, .getfield 34, 157, [], 0, []), (157, .ldc 162, 159, [], 0, []), (159, .iload_n 1, 160, [], 0, []), (160, .iload_n 2, 161, [], 0, []), (161, .invokevirtual 142, 164, [], 0, []), (164, .ifCond .eq 6, 167, [170], 0, []), (167, .bipush 20, 169, [], 20, []), (169, .ireturn, 170, [], 0, []), (170, .aload_n 0, 171, [], 0, []), (171, .getfield 34, 174, [], 0, []), (174, .ldc 164, 176, [], 0, []), (176, .iload_n 1, 177, [], 0, []), (177, .iload_n 2, 178, [], 0, []), (178, .invokevirtual 142, 181, [], 0, []), (181, .ifCond .eq 8, 184, [189], 0, []), (184, .bipush 21, 186, [], 21, []), (186, .goto 4, 189, [190], 0, []), (189, .iconst 1, 190, [], 1, []), (190, .ireturn, 191, [], 0, [])]
end
section
/-- BlockFront$Scanner.takeNumber()V -/
def am_c57 : List (Nat × Instr × Nat × List Nat × Int32 × List Int32) := [(0, .aload_n 0, 1, [], 0, []), (1, .getfield 26, 4, [], 0, []), (4, .iconst 1, 5, [], 1, []), (5, .iadd, 6, [], 0, []), (6, .istore_n 1, 7, [], 0, []), (7, .iload_n 1, 8, [], 0, []), (8, .aload_n 0, 9, [], 0, []), (9, .getfield 34, 12, [], 0, []), (12, .getfield 49, 15, [], 0, []), (15, .if_icmp .ge 23, 18, [38], 0, []), (18, .aload_n 0, 19, [], 0, []), (19, .getfield 34, 22, [], 0, []), (22, .iload_n 1, 23, [], 0, []), (23, .invokevirtual 71, 26, [], 0, []), (26, .invokestatic 124, 29, [], 0, []), (29, .ifCond .eq 9, 32, [38], 0, []), (32, .iinc 1 1, 35, [], 1, []), (35, .goto (-28), 38, [7], 0, []), (38, .aload_n 0, 39, [], 0, []), (39, .getfield 34, 42, [], 0, []), (42, .iload_n 1, 43, [], 0, []), (43, .invokevirtual 71, 46, [], 0, []), (46, .invokestatic 118, 49, [], 0, []), (49, .ifCond .eq 16, 52, [65], 0, []), (52, .aload_n 0, 53, [], 0, []), (53, .getfield 42, 56, [], 0, []), (56, .bipush 6, 58, [], 6, []), (58, .aload_n 0, 59, [], 0, []), (59, .getfield 26, 62, [], 0, []), (62, .invokevirtual 106, 65, [], 0, []), (65, .aload_n 0, 66, [], 0, []), (66, .iconst 3, 67, [], 3, []), (67, .iconst 3, 68, [], 3, []), (68, .iload_n 1, 69, [], 0, []), (69, .aload_n 0, 70, [], 0, []), (70, .getfield 26, 73, [], 0, []), (73, .isub, 74, [], 0, []), (74, .invokevirtual 102, 77, [], 0, []), (77, .return_, 78, [], 0, [])]
/-- BlockFront$Scanner.takeString(C)V -/
def am_c58 : List (Nat × Instr × Nat × List Nat × Int32 × List Int32) := [(0, .aload_n 0, 1, [], 0, []), (1, .getfield 26, 4, [], 0, []), (4, .iconst 1, 5, [], 1, []), (5, .iadd, 6, [], 0, []), (6, .istore_n 2, 7, [], 0, []), (7, .iload_n 2, 8, [], 0, []), (8, .aload_n 0, 9, [], 0, []), (9, .getfield 34, 12, [], 0, []), (12, .getfield 49, 15, [], 0, []), (15, .if_icmp .ge 62, 18, [77], 0, []), (18, .aload_n 0, 19, [], 0, []), (19, .getfield 34, 22, [], 0, []), (22, .iload_n 2, 23, [], 0, []), (23, .invokevirtual 71, 26, [], 0, []), (26, .iload_n 1, 27, [], 0, []), (27, .if_icmp .eq 50, 30, [77], 0, []), (30, .aload_n 0, 31, [], 0, []), (31, .getfield 34, 34, [], 0, []), (34, .iload_n 2, 35, [], 0, []), (35, .invokevirtual 71, 38, [], 0, []), (38, .bipush 92, 40, [], 92, []), (40, .if_icmp .ne 6, 43, [46], 0, []), (43, .iinc 2 1, 46, [], 1, []), (46, .aload_n 0, 47, [], 0, []), (47, .getfield 34, 50, [], 0, []), (50, .iload_n 2, 51, [], 0, []), (51, .invokevirtual 71, 54, [], 0, []), (54, .bipush 10, 56, [], 10, []), (56, .if_icmp .ne 15, 59, [71], 0, []), (59, .aload_n 0, 60, [], 0, []), (60, .getfield 42, 63, [], 0, []), (63, .iconst 5, 64, [], 5, []), (64, .aload_n 0, 65, [], 0, []), (65, .getfield 26, 68, [], 0, []), (68, .invokevirtual 106, 71, [], 0, []), (71, .iinc 2 1, 74, [], 1, []), (74, .goto (-67), 77, [7], 0, []), (77, .iload_n 2, 78, [], 0, []), (78, .aload_n 0, 79, [], 0, []), (79, .getfield 34, 82, [], 0, []), (82, .getfield 49, 85, [], 0, []), (85, .if_icmp .lt 15, 88, [100], 0, []), (88, .aload_n 0, 89, [], 0, []), (89, .getfield 42, 92, [], 0, []), (92, .iconst 5, 93, [], 5, []), (93, .aload_n 0, 94, [], 0, []), (94, .getfield 26, 97, [], 0, []), (97, .invokevirtual 106, 100, [], 0, []), (100, .aload_n 0, 101, [], 0, []), (101, .iconst 4, 102, [], 4, []), (102, .iconst 4, 103, [], 4, []), (103, .iload_n 2, 104, [], 0, []), (104, .iconst 1, 105, [], 1, []), (105, .iadd, 106, [], 0, []), (106, .aload_n 0, 107, [], 0, []), (107, .getfield 26, 110, [], 0, []), (110, .isub, 111, [], 0, []), (111, .invokevirtual 102, 114, [], 0, []), (114, .return_, 115, [], 0, [])]
/-- BlockFront$Scanner.takeSign(C)V -/
def am_c59 : List (Nat × Instr × Nat × List Nat × Int32 × List Int32) := [(0, .ldc 166, 2, [], 0, []), (2, .iload_n 1, 3, [], 0, []), (3, .invokevirtual 168, 6, [], 0, []), (6, .ifCond .lt 33, 9, [39], 0, []), (9, .aload_n 0, 10, [], 0, []), (10, .getfield 34, 13, [], 0, []), (13, .aload_n 0, 14, [], 0, []), (14, .getfield 26, 17, [], 0, []), (17, .iconst 1, 18, [], 1, []), (18, .iadd, 19, [], 0, []), (19, .invokevirtual 71, 22, [], 0, []), (22, .bipush 61, 24, [], 61, []), (24, .if_icmp .ne 15, 27, [39], 0, []), (27, .aload_n 0, 28, [], 0, []), (28, .iconst 5, 29, [], 5, []), (29, .iload_n 1, 30, [], 0, []), (30, .sipush 128, 33, [], 128, []), (33, .iadd, 34, [], 0, []), (34, .iconst 2, 35, [], 2, []), (35, .invokevirtual 102, 38, [], 0, []), (38, .return_, 39, [], 0, []), (39, .ldc 174, 41, [], 0, []), (41, .iload_n 1, 42, [], 0, []), (42, .invokevirtual 168, 45, [], 0, []), (45, .ifCond .ge 16, 48, [61], 0, []), (48, .aload_n 0, 49, [], 0, []), (49, .getfield 42, 52, [], 0, []), (52, .bipush 7, 54, [], 7, []), (54, .aload_n 0, 55, [], 0, []), (55, .getfield 26, 58, [], 0, []), (58, .invokevirtual 106, 61, [], 0, []), (61, .iload_n 1, 62, [], 0, []), (62, .bipush 40, 64, [], 40, []), (64, .if_icmp .eq 9, 67, [73], 0, []), (67, .iload_n 1, 68, [], 0, []), (68, .bipush 91, 70, [], 91, []), (70, .if_icmp .ne 7, 73, [77], 0, []), (73, .aload_n 0, 74, [], 0, []), (74, .invokevirtual 176, 77, [], 0, []), (77, .iload_n 1, 78, [], 0, []), (78, .bipush 41, 80, [], 41, []), (80, .if_icmp .eq 9, 83, [89], 0, []), (83, .iload_n 1, 84, [], 0, []), (84, .bipush 93, 86, [], 93, []), (86, .if_icmp .ne 8, 89, [94], 0, []), (89, .aload_n 0, 90, [], 0, []), (90, .iload_n 1, 91, [], 0, []), (91, .invokevirtual 179, 94, [], 0, []), (94, .aload_n 0, 95, [], 0, []), (95, .iconst 5, 96, [], 5, []), (96, .iload_n 1, 97, [], 0, []), (97, .iconst 1, 98, [], 1, []), (98, .invokevirtual 102, 101, [], 0, []), (101, .return_, 102, [], 0, [])]
/-- BlockFront$Scanner.openBracket()V -/
def am_c60 : List (Nat × Instr × Nat × List Nat × Int32 × List Int32) := [(0, .aload_n 0, 1, [], 0, []), (1, .getfield 23, 4, [], 0, []), (4, .aload_n 0, 5, [], 0, []), (5, .getfield 26, 8, [], 0, []), (8, .invokevirtual 67, 11, [], 0, []), (11, .ifCond .ne 15, 14, [26], 0, []), (14, .aload_n 0, 15, [], 0, []), (15, .getfield 42, 18, [], 0, []), (18, .iconst 3, 19, [], 3, []), (19, .aload_n 0, 20, [], 0, []), (20, .getfield 26, 23, [], 0, []), (23, .invokevirtual 106, 26, [], 0, []), (26, .return_, 27, [], 0, [])]
/-- BlockFront$Scanner.closeBracket(C)V -/
def am_c61 : List (Nat × Instr × Nat × List Nat × Int32 × List Int32) := [(0, .iload_n 1, 1, [], 0, []), (1, .bipush 41, 3, [], 41, []), (3, .if_icmp .ne 8, 6, [11], 0, []), (6, .bipush 40, 8, [], 40, []), (8, .goto 5, 11, [13], 0, []), (11, .bipush 91, 13, [], 91, []), (13, .istore_n 2, 14, [], 0, []), (14, .aload_n 0, 15, [], 0, []), (15, .getfield 23, 18, [], 0, []), (18, .getfield 66, 21, [], 0, []), (21, .ifCond .eq 21, 24, [42], 0, []), (24, .aload_n 0, 25, [], 0, []), (25, .getfield 34, 28, [], 0, []), (28, .aload_n 0, 29, [], 0, []), (29, .getfield 23, 32, [], 0, []), (32, .invokevirtual 92, 35, [], 0, []), (35, .invokevirtual 71, 38, [], 0, []), (38, .iload_n 2, 39, [], 0, []), (39, .if_icmp .eq 15, 42, [54], 0, []), (42, .aload_n 0, 43, [], 0, []), (43, .getfield 42, 46, [], 0, []), (46, .iconst 4, 47, [], 4, []), (47, .aload_n 0, 48, [], 0, []), (48, .getfield 26, 51, [], 0, []), (51, .invokevirtual 106, 54, [], 0, []), (54, .aload_n 0, 55, [], 0, []), (55, .getfield 23, 58, [], 0, []), (58, .invokevirtual 99, 61, [], 0, []), (61, .return_, 62, [], 0, [])]
/-- BlockFront$Scanner.finish()V -/
def am_c62 : List (Nat × Instr × Nat × List Nat × Int32 × List Int32) := [(0, .aload_n 0, 1, [], 0, []), (1, .getfield 23, 4, [], 0, []), (4, .getfield 66, 7, [], 0, []), (7, .ifCond .le 18, 10, [25], 0, []), (10, .aload_n 0, 11, [], 0, []), (11, .getfield 42, 14, [], 0, []), (14, .iconst 4, 15, [], 4, []), (15, .aload_n 0, 16, [], 0, []), (16, .getfield 23, 19, [], 0, []), (19, .invokevirtual 92, 22, [], 0, []), (22, .invokevirtual 106, 25, [], 0, []), (25, .aload_n 0, 26, [], 0, []), (26, .getfield 30, 29, [], 0, []), (29, .ifCond .eq 12, 32, [41], 0, []), (32, .aload_n 0, 33, [], 0, []), (33, .bipush 6, 35, [], 6, []), (35, .bipush 6, 37, [], 6, []), (37, .iconst 0, 38, [], 0, []), (38, .invokevirtual 102, 41, [], 0, []), (41, .iconst 1, 42, [], 1, []), (42, .istore_n 1, 43, [], 0, []), (43, .iload_n 1, 44, [], 0, []), (44, .aload_n 0, 45, [], 0, []), (45, .getfield 14, 48, [], 0, []), (48, .getfield 66, 51, [], 0, []), (51, .if_icmp .ge 18, 54, [69], 0, []), (54, .aload_n 0, 55, [], 0, []), (55, .bipush 8, 57, [], 8, []), (57, .bipush 8, 59, [], 8, []), (59, .iconst 0, 60, [], 0, []), (60, .invokevirtual 102, 63, [], 0, []), (63, .iinc 1 1, 66, [], 1, []), (66, .goto (-23), 69, [43], 0, []), (69, .aload_n 0, 70, [], 0, []), (70, .bipush 9, 72, [], 9, []), (72, .bipush 9, 74, [], 9, []), (74, .iconst 0, 75, [], 0, []), (75, .invokevirtual 102, 78, [], 0, []), (78, .return_, 79, [], 0, [])]
/-- BlockFront$Parser.<init>(LBlockFront$Tokens;LBlockFront$Tree;LBlockFront$Refusal;)V -/
def am_c63 : List (Nat × Instr × Nat × List Nat × Int32 × List Int32) := [(0, .aload_n 0, 1, [], 0, []), (1, .invokespecial 3, 4, [], 0, []), (4, .aload_n 0, 5, [], 0, []), (5, .iconst 0, 6, [], 0, []), (6, .putfield 9, 9, [], 0, []), (9, .aload_n 0, 10, [], 0, []), (10, .aload_n 1, 11, [], 0, []), (11, .putfield 15, 14, [], 0, []), (14, .aload_n 0, 15, [], 0, []), (15, .aload_n 2, 16, [], 0, []), (16, .putfield 19, 19, [], 0, []), (19, .aload_n 0, 20, [], 0, []), (20, .aload_n 3, 21, [], 0, []), (21, .putfield 23, 24, [], 0, []), (24, .return_, 25, [], 0, [])]
/-- BlockFront$Parser.begin()V -/
def am_c64 : List (Nat × Instr × Nat × List Nat × Int32 × List Int32) := [(0, .aload_n 0, 1, [], 0, []), (1, .iconst 0, 2, [], 0, []), (2, .putfield 9, 5, [], 0, []), (5, .aload_n 0, 6, [], 0, []), (6, .getfield 19, 9, [], 0, []), (9, .iconst 0, 10, [], 0, []), (10, .putfield 27, 13, [], 0, []), (13, .return_, 14, [], 0, [])]
/-- BlockFront$Parser.isAt(I)Z -/
def am_c65 : List (Nat × Instr × Nat × List Nat × Int32 × List Int32) := [(0, .aload_n 0, 1, [], 0, []), (1, .getfield 15, 4, [], 0, []), (4, .aload_n 0, 5, [], 0, []), (5, .getfield 9, 8, [], 0, []), (8, .invokevirtual 32, 11, [], 0, []), (11, .iload_n 1, 12, [], 0, []), (12, .if_icmp .ne 7, 15, [19], 0, []), (15, .iconst 1, 16, [], 1, []), (16, .goto 4, 19, [20], 0, []), (19, .iconst 0, 20, [], 0, []), (20, .ireturn, 21, [], 0, [])]
/-- BlockFront$Parser.advance()I -/
def am_c66 : List (Nat × Instr × Nat × List Nat × Int32 × List Int32) := [(0, .aload_n 0, 1, [], 0, []), (1, .dup, 2, [], 0, []), (2, .getfield 9, 5, [], 0, []), (5, .iconst 1, 6, [], 1, []), (6, .iadd, 7, [], 0, []), (7, .putfield 9, 10, [], 0, []), (10, .aload_n 0, 11, [], 0, []), (11, .getfield 9, 14, [], 0, []), (14, .iconst 1, 15, [], 1, []), (15, .isub, 16, [], 0, []), (16, .ireturn, 17, [], 0, [])]
/-- BlockFront$Parser.expect(I)I -/
def am_c67 : List (Nat × Instr × Nat × List Nat × Int32 × List Int32) := [(0, .aload_n 0, 1, [], 0, []), (1, .getfield 15, 4, [], 0, []), (4, .aload_n 0, 5, [], 0, []), (5, .getfield 9, 8, [], 0, []), (8, .invokevirtual 32, 11, [], 0, []), (11, .iload_n 1, 12, [], 0, []), (12, .if_icmp .eq 23, 15, [35], 0, []), (15, .aload_n 0, 16, [], 0, []), (16, .getfield 23, 19, [], 0, []), (19, .bipush 9, 21, [], 9, []), (21, .aload_n 0, 22, [], 0, []), (22, .getfield 15, 25, [], 0, []), (25, .aload_n 0, 26, [], 0, []), (26, .getfield 9, 29, [], 0, []), (29, .invokevirtual 38, 32, [], 0, []), (32, .invokevirtual 41, 35, [], 0, []), (35, .aload_n 0, 36, [], 0, []), (36, .invokevirtual 47, 39, [], 0, []), (39, .ireturn, 40, [], 0, [])]
/-- BlockFront$Parser.statements(II)I -/
def am_c68 : List (Nat × Instr × Nat × List Nat × Int32 × List Int32) := [(0, .iload_n 2, 1, [], 0, []), (1, .bipush 9, 3, [], 9, []), (3, .if_icmp .lt 22, 6, [25], 0, []), (6, .aload_n 0, 7, [], 0, []), (7, .getfield 23, 10, [], 0, []), (10, .iconst 3, 11, [], 3, []), (11, .aload_n 0, 12, [], 0, []), (12, .getfield 15, 15, [], 0, []), (15, .aload_n 0, 16, [], 0, []), (16, .getfield 9, 19, [], 0, []), (19, .invokevirtual 38, 22, [], 0, []), (22, .invokevirtual 41, 25, [], 0, []), (25, .aload_n 0, 26, [], 0, []), (26, .getfield 19, 29, [], 0, []), (29, .bipush 9, 31, [], 9, []), (31, .aload_n 0, 32, [], 0, []), (32, .getfield 9, 35, [], 0, []), (35, .invokevirtual 51, 38, [], 0, []), (38, .istore_n 3, 39, [], 0, []), (39, .iconst 0, 40, [], 0, []), (40, .istore 4, 42, [], 0, []), (42, .iload 4, 44, [], 0, []), (44, .bipush 120, 46, [], 120, []), (46, .if_icmp .ge 23, 49, [69], 0, []), (49, .aload_n 0, 50, [], 0, []), (50, .iload_n 1, 51, [], 0, []), (51, .invokevirtual 55, 54, [], 0, []), (54, .ifCond .ne 15, 57, [69], 0, []), (57, .aload_n 0, 58, [], 0, []), (58, .iload_n 3, 59, [], 0, []), (59, .iload_n 2, 60, [], 0, []), (60, .invokevirtual 59, 63, [], 0, []), (63, .iinc 4 1, 66, [], 1, []), (66, .goto (-24), 69, [42], 0, []), (69, .aload_n 0, 70, [], 0, []), (70, .iload_n 1, 71, [], 0, []), (71, .invokevirtual 62, 74, [], 0, []), (74, .pop, 75, [], 0, []), (75, .iload_n 3, 76, [], 0, []), (76, .ireturn, 77, [], 0, [])]
/-- BlockFront$Parser.statement(II)V -/
def am_c69 : List (Nat × Instr × Nat × List Nat × Int32 × List Int32) := [(0, .aload_n 0, 1, [], 0, []), (1, .getfield 15, 4, [], 0, []), (4, .aload_n 0, 5, [], 0, []), (5, .getfield 9, 8, [], 0, []), (8, .invokevirtual 32, 11, [], 0, []), (11, .tableswitch 74 11 15 #[33, 74, 74, 46, 61], 44, [85, 44, 85, 85, 57, 72], 0, [11, 12, 13, 14, 15]), (44, .aload_n 0, 45, [], 0, []), (45, .iload_n 1, 46, [], 0, []), (46, .aload_n 0, 47, [], 0, []), (47, .iload_n 2, 48, [], 0, []), (48, .invokevirtual 65, 51, [], 0, []), (51, .invokevirtual 68, 54, [], 0, []), (54, .goto 36, 57, [90], 0, []), (57, .aload_n 0, 58, [], 0, []), (58, .iload_n 1, 59, [], 0, []), (59, .aload_n 0, 60, [], 0, []), (60, .bipush 7, 62, [], 7, []), (62, .iload_n 2, 63, [], 0, []), (63, .invokevirtual 71, 66, [], 0, []), (66, .invokevirtual 68, 69, [], 0, []), (69, .goto 21, 72, [90], 0, []), (72, .aload_n 0, 73, [], 0, []), (73, .iload_n 1, 74, [], 0, []), (74, .aload_n 0, 75, [], 0, []), (75, .iload_n 2, 76, [], 0, []), (76, .invokevirtual 74, 79, [], 0, []), (79, .invokevirtual 68, 82, [], 0, []), (82, .goto 8, 85, [90], 0, []), (85, .aload_n 0, 86, [], 0, []), (86, .iload_n 1, 87, [], 0, []), (87, .invokevirtual 77, 90, [], 0, []), (90, .return_, 91, [], 0, [])]
/-- BlockFront$Parser.addStatement(II)V -/
def am_c70 : List (Nat × Instr × Nat × List Nat × Int32 × List Int32) := [(0, .aload_n 0, 1, [], 0, []), (1, .getfield 19, 4, [], 0, []), (4, .iload_n 1, 5, [], 0, []), (5, .invokevirtual 81, 8, [], 0, []), (8, .ifCond .ne 19, 11, [27], 0, []), (11, .aload_n 0, 12, [], 0, []), (12, .getfield 19, 15, [], 0, []), (15, .iload_n 1, 16, [], 0, []), (16, .aload_n 0, 17, [], 0, []), (17, .getfield 19, 20, [], 0, []), (20, .iload_n 2, 21, [], 0, []), (21, .invokevirtual 84, 24, [], 0, []), (24, .invokevirtual 87, 27, [], 0, []), (27, .aload_n 0, 28, [], 0, []), (28, .getfield 19, 31, [], 0, []), (31, .iload_n 1, 32, [], 0, []), (32, .iload_n 2, 33, [], 0, []), (33, .invokevirtual 90, 36, [], 0, []), (36, .return_, 37, [], 0, [])]
/-- BlockFront$Parser.branches(I)I -/
def am_c71 : List (Nat × Instr × Nat × List Nat × Int32 × List Int32) := [(0, .aload_n 0, 1, [], 0, []), (1, .bipush 6, 3, [], 6, []), (3, .iload_n 1, 4, [], 0, []), (4, .invokevirtual 71, 7, [], 0, []), (7, .istore_n 2, 8, [], 0, []), (8, .iload_n 2, 9, [], 0, []), (9, .istore_n 3, 10, [], 0, []), (10, .iconst 0, 11, [], 0, []), (11, .istore 4, 13, [], 0, []), (13, .iload 4, 15, [], 0, []), (15, .bipush 120, 17, [], 120, []), (17, .if_icmp .ge 40, 20, [57], 0, []), (20, .aload_n 0, 21, [], 0, []), (21, .bipush 12, 23, [], 12, []), (23, .invokevirtual 55, 26, [], 0, []), (26, .ifCond .eq 31, 29, [57], 0, []), (29, .aload_n 0, 30, [], 0, []), (30, .bipush 6, 32, [], 6, []), (32, .iload_n 1, 33, [], 0, []), (33, .invokevirtual 71, 36, [], 0, []), (36, .istore 5, 38, [], 0, []), (38, .aload_n 0, 39, [], 0, []), (39, .getfield 19, 42, [], 0, []), (42, .iload_n 3, 43, [], 0, []), (43, .iload 5, 45, [], 0, []), (45, .invokevirtual 90, 48, [], 0, []), (48, .iload 5, 50, [], 0, []), (50, .istore_n 3, 51, [], 0, []), (51, .iinc 4 1, 54, [], 1, []), (54, .goto (-41), 57, [13], 0, []), (57, .aload_n 0, 58, [], 0, []), (58, .bipush 13, 60, [], 13, []), (60, .invokevirtual 55, 63, [], 0, []), (63, .ifCond .eq 28, 66, [91], 0, []), (66, .aload_n 0, 67, [], 0, []), (67, .invokevirtual 47, 70, [], 0, []), (70, .pop, 71, [], 0, []), (71, .aload_n 0, 72, [], 0, []), (72, .bipush 58, 74, [], 58, []), (74, .invokevirtual 62, 77, [], 0, []), (77, .pop, 78, [], 0, []), (78, .aload_n 0, 79, [], 0, []), (79, .getfield 19, 82, [], 0, []), (82, .iload_n 3, 83, [], 0, []), (83, .aload_n 0, 84, [], 0, []), (84, .iload_n 1, 85, [], 0, []), (85, .invokevirtual 93, 88, [], 0, []), (88, .invokevirtual 90, 91, [], 0, []), (91, .iload_n 2, 92, [], 0, []), (92, .ireturn, 93, [], 0, [])]
/-- BlockFront$Parser.conditional(II)I -/
def am_c72 : List (Nat × Instr × Nat × List Nat × Int32 × List Int32) := [(0, .aload_n 0, 1, [], 0, []), (1, .getfield 19, 4, [], 0, []), (4, .iload_n 1, 5, [], 0, []), (5, .aload_n 0, 6, [], 0, []), (6, .invokevirtual 47, 9, [], 0, []), (9, .invokevirtual 51, 12, [], 0, []), (12, .istore_n 3, 13, [], 0, []), (13, .aload_n 0, 14, [], 0, []), (14, .getfield 19, 17, [], 0, []), (17, .iload_n 3, 18, [], 0, []), (18, .aload_n 0, 19, [], 0, []), (19, .iconst 1, 20, [], 1, []), (20, .iconst 0, 21, [], 0, []), (21, .invokevirtual 96, 24, [], 0, []), (24, .invokevirtual 90, 27, [], 0, []), (27, .aload_n 0, 28, [], 0, []), (28, .bipush 58, 30, [], 58, []), (30, .invokevirtual 62, 33, [], 0, []), (33, .pop, 34, [], 0, []), (34, .aload_n 0, 35, [], 0, []), (35, .getfield 19, 38, [], 0, []), (38, .iload_n 3, 39, [], 0, []), (39, .aload_n 0, 40, [], 0, []), (40, .iload_n 2, 41, [], 0, []), (41, .invokevirtual 93, 44, [], 0, []), (44, .invokevirtual 90, 47, [], 0, []), (47, .iload_n 3, 48, [], 0, []), (48, .ireturn, 49, [], 0, [])]
/-- BlockFront$Parser.definition(I)I -/
def am_c73 : List (Nat × Instr × Nat × List Nat × Int32 × List Int32) := [(0, .aload_n 0, 1, [], 0, []), (1, .invokevirtual 47, 4, [], 0, []), (4, .pop, 5, [], 0, []), (5, .aload_n 0, 6, [], 0, []), (6, .getfield 19, 9, [], 0, []), (9, .bipush 8, 11, [], 8, []), (11, .aload_n 0, 12, [], 0, []), (12, .iconst 1, 13, [], 1, []), (13, .invokevirtual 62, 16, [], 0, []), (16, .invokevirtual 51, 19, [], 0, []), (19, .istore_n 2, 20, [], 0, []), (20, .aload_n 0, 21, [], 0, []), (21, .bipush 40, 23, [], 40, []), (23, .invokevirtual 62, 26, [], 0, []), (26, .pop, 27, [], 0, []), (27, .aload_n 0, 28, [], 0, []), (28, .bipush 41, 30, [], 41, []), (30, .invokevirtual 55, 33, [], 0, []), (33, .ifCond .ne 75, 36, [108], 0, []), (36, .aload_n 0, 37, [], 0, []), (37, .getfield 19, 40, [], 0, []), (40, .iload_n 2, 41, [], 0, []), (41, .aload_n 0, 42, [], 0, []), (42, .getfield 19, 45, [], 0, []), (45, .bipush 24, 47, [], 24, []), (47, .aload_n 0, 48, [], 0, []), (48, .iconst 1, 49, [], 1, []), (49, .invokevirtual 62, 52, [], 0, []), (52, .invokevirtual 51, 55, [], 0, []), (55, .invokevirtual 90, 58, [], 0, []), (58, .iconst 0, 59, [], 0, []), (59, .istore_n 3, 60, [], 0, []), (60, .iload_n 3, 61, [], 0, []), (61, .bipush 120, 63, [], 120, []), (63, .if_icmp .ge 45, 66, [108], 0, []), (66, .aload_n 0, 67, [], 0, []), (67, .bipush 44, 69, [], 44, []), (69, .invokevirtual 55, 72, [], 0, []), (72, .ifCond .eq 36, 75, [108], 0, []), (75, .aload_n 0, 76, [], 0, []), (76, .invokevirtual 47, 79, [], 0, []), (79, .pop, 80, [], 0, []), (80, .aload_n 0, 81, [], 0, []), (81, .getfield 19, 84, [], 0, []), (84, .iload_n 2, 85, [], 0, []), (85, .aload_n 0, 86, [], 0, []), (86, .getfield 19, 89, [], 0, []), (89, .bipush 24, 91, [], 24, []), (91, .aload_n 0, 92, [], 0, []), (92, .iconst 1, 93, [], 1, []), (93, .invokevirtual 62, 96, [], 0, []), (96, .invokevirtual 51, 99, [], 0, []), (99, .invokevirtual 90, 102, [], 0, []), (102, .iinc 3 1, 105, [], 1, []), (105, .goto (-45), 108, [60], 0, []), (108, .aload_n 0, 109, [], 0, []), (109, .bipush 41, 111, [], 41, []), (111, .invokevirtual 62, 114, [], 0, []), (114, .pop, 115, [], 0, []), (115, .aload_n 0, 116, [], 0, []), (116, .bipush 58, 118, [], 58, []), (118, .invokevirtual 62, 121, [], 0, []), (121, .pop, 122, [], 0, []), (122, .aload_n 0, 123, [], 0, []), (123, .getfield 19, 126, [], 0, []), (126, .iload_n 2, 127, [], 0, []), (127, .aload_n 0, 128, [], 0, []), (128, .iload_n 1, 129, [], 0, []), (129, .invokevirtual 93, 132, [], 0, []), (132, .invokevirtual 90, 135, [], 0, []), (135, .iload_n 2, 136, [], 0, []), (136, .ireturn, 137, [], 0, [])]
/-- BlockFront$Parser.block(I)I -/
def am_c74 : List (Nat × Instr × Nat × List Nat × Int32 × List Int32) := [(0, .aload_n 0, 1, [], 0, []), (1, .bipush 6, 3, [], 6, []), (3, .invokevirtual 55, 6, [], 0, []), (6, .ifCond .eq 25, 9, [31], 0, []), (9, .aload_n 0, 10, [], 0, []), (10, .invokevirtual 47, 13, [], 0, []), (13, .pop, 14, [], 0, []), (14, .aload_n 0, 15, [], 0, []), (15, .bipush 7, 17, [], 7, []), (17, .invokevirtual 62, 20, [], 0, []), (20, .pop, 21, [], 0, []), (21, .aload_n 0, 22, [], 0, []), (22, .bipush 8, 24, [], 8, []), (24, .iload_n 1, 25, [], 0, []), (25, .iconst 1, 26, [], 1, []), (26, .iadd, 27, [], 0, []), (27, .invokevirtual 99, 30, [], 0, []), (30, .ireturn, 31, [], 0, []), (31, .aload_n 0, 32, [], 0, []), (32, .getfield 19, 35, [], 0, []), (35, .bipush 9, 37, [], 9, []), (37, .aload_n 0, 38, [], 0, []), (38, .getfield 9, 41, [], 0, []), (41, .invokevirtual 51, 44, [], 0, []), (44, .istore_n 2, 45, [], 0, []), (45, .aload_n 0, 46, [], 0, []), (46, .iload_n 2, 47, [], 0, []), (47, .invokevirtual 77, 50, [], 0, []), (50, .iload_n 2, 51, [], 0, []), (51, .ireturn, 52, [], 0, [])]
/-- BlockFront$Parser.line(I)V -/
def am_c75 : List (Nat × Instr × Nat × List Nat × Int32 × List Int32) := [(0, .aload_n 0, 1, [], 0, []), (1, .iload_n 1, 2, [], 0, []), (2, .invokevirtual 102, 5, [], 0, []), (5, .iconst 0, 6, [], 0, []), (6, .istore_n 2, 7, [], 0, []), (7, .iload_n 2, 8, [], 0, []), (8, .bipush 120, 10, [], 120, []), (10, .if_icmp .ge 40, 13, [50], 0, []), (13, .aload_n 0, 14, [], 0, []), (14, .bipush 59, 16, [], 59, []), (16, .invokevirtual 55, 19, [], 0, []), (19, .ifCond .eq 31, 22, [50], 0, []), (22, .aload_n 0, 23, [], 0, []), (23, .invokevirtual 47, 26, [], 0, []), (26, .pop, 27, [], 0, []), (27, .aload_n 0, 28, [], 0, []), (28, .bipush 6, 30, [], 6, []), (30, .invokevirtual 55, 33, [], 0, []), (33, .ifCond .eq 6, 36, [39], 0, []), (36, .goto 14, 39, [50], 0, []), (39, .aload_n 0, 40, [], 0, []), (40, .iload_n 1, 41, [], 0, []), (41, .invokevirtual 102, 44, [], 0, []), (44, .iinc 2 1, 47, [], 1, []), (47, .goto (-40), 50, [7], 0, []), (50, .aload_n 0, 51, [], 0, []), (51, .bipush 6, 53, [], 6, []), (53, .invokevirtual 62, 56, [], 0, []), (56, .pop, 57, [], 0, []), (57, .return_, 58, [], 0, [])]
/-- BlockFront$Parser.small(I)V -/
def am_c76 : List (Nat × Instr × Nat × List Nat × Int32 × List Int32) := [(0, .aload_n 0, 1, [], 0, []), (1, .getfield 15, 4, [], 0, []), (4, .aload_n 0, 5, [], 0, []), (5, .getfield 9, 8, [], 0, []), (8, .invokevirtual 32, 11, [], 0, []), (11, .istore_n 2, 12, [], 0, []), (12, .iload_n 2, 13, [], 0, []), (13, .bipush 17, 15, [], 17, []), (15, .if_icmp .eq 9, 18, [24], 0, []), (18, .iload_n 2, 19, [], 0, []), (19, .bipush 18, 21, [], 18, []), (21, .if_icmp .ne 29, 24, [50], 0, []), (24, .aload_n 0, 25, [], 0, []), (25, .getfield 19, 28, [], 0, []), (28, .iload_n 2, 29, [], 0, []), (29, .bipush 17, 31, [], 17, []), (31, .if_icmp .ne 7, 34, [38], 0, []), (34, .iconst 1, 35, [], 1, []), (35, .goto 4, 38, [39], 0, []), (38, .iconst 2, 39, [], 2, []), (39, .aload_n 0, 40, [], 0, []), (40, .invokevirtual 47, 43, [], 0, []), (43, .invokevirtual 51, 46, [], 0, []), (46, .istore_n 3, 47, [], 0, []), (47, .goto 153, 50, [200], 0, []), (50, .iload_n 2, 51, [], 0, []), (51, .bipush 16, 53, [], 16, []), (53, .if_icmp .ne 51, 56, [104], 0, []), (56, .aload_n 0, 57, [], 0, []), (57, .getfield 19, 60, [], 0, []), (60, .iconst 3, 61, [], 3, []), (61, .aload_n 0, 62, [], 0, []), (62, .invokevirtual 47, 65, [], 0, []), (65, .invokevirtual 51, 68, [], 0, []), (68, .istore_n 3, 69, [], 0, []), (69, .aload_n 0, 70, [], 0, []), (70, .bipush 6, 72, [], 6, []), (72, .invokevirtual 55, 75, [], 0, []), (75, .ifCond .ne 125, 78, [200], 0, []), (78, .aload_n 0, 79, [], 0, []), (79, .bipush 59, 81, [], 59, []), (81, .invokevirtual 55, 84, [], 0, []), (84, .ifCond .ne 116, 87, [200], 0, []), (87, .aload_n 0, 88, [], 0, []), (88, .getfield 19, 91, [], 0, []), (91, .iload_n 3, 92, [], 0, []), (92, .aload_n 0, 93, [], 0, []), (93, .iconst 1, 94, [], 1, []), (94, .iconst 0, 95, [], 0, []), (95, .invokevirtual 96, 98, [], 0, []), (98, .invokevirtual 90, 101, [], 0, []), (101, .goto 99, 104, [200], 0, []), (104, .iload_n 2, 105, [], 0, []), (105, .iconst 1, 106, [], 1, []), (106, .if_icmp .ne 58, 109, [164], 0, []), (109, .aload_n 0, 110, [], 0, []), (110, .getfield 15, 113, [], 0, []), (113, .aload_n 0, 114, [], 0, []), (114, .getfield 9, 117, [], 0, []), (117, .iconst 1, 118, [], 1, []), (118, .iadd, 119, [], 0, []), (119, .invokevirtual 32, 122, [], 0, []), (122, .bipush 61, 124, [], 61, []), (124, .if_icmp .ne 40, 127, [164], 0, []), (127, .aload_n 0, 128, [], 0, []), (128, .getfield 19, 131, [], 0, []), (131, .iconst 4, 132, [], 4, []), (132, .aload_n 0, 133, [], 0, []), (133, .invokevirtual 47, 136, [], 0, []), (136, .invokevirtual 51, 139, [], 0, []), (139, .istore_n 3, 140, [], 0, []), (140, .aload_n 0, 141, [], 0, []), (141, .bipush 61, 143, [], 61, []), (143, .invokevirtual 62, 146, [], 0, []), (146, .pop, 147, [], 0, []), (147, .aload_n 0, 148, [], 0, []), (148, .getfield 19, 151, [], 0, []), (151, .iload_n 3, 152, [], 0, []), (152, .aload_n 0, 153, [], 0, []), (153, .iconst 1, 154, [], 1, []), (154, .iconst 0, 155, [], 0, []), (155, .invokevirtual 96, 158, [], 0, []), (158, .invokevirtual 90, 161, [], 0, []), (161, .goto 39, 164, [200], 0, []), (164, .aload_n 0, 165, [], 0, []), (165, .iconst 1, 166, [], 1, []), (166, .iconst 0, 167, [], 0, []), (167, .invokevirtual 96, 170, [], 0, []), (170, .istore 4, 172, [], 0, []), (172, .aload_n 0, 173, [], 0, []), (173, .getfield 19, 176, [], 0, []), (176, .iconst 5, 177, [], 5, []), (177, .aload_n 0, 178, [], 0, []), (178, .getfield 19, 181, [], 0, []), (181, .iload 4, 183, [], 0, []), (183, .invokevirtual 84, 186, [], 0, []), (186, .invokevirtual 51, 189, [], 0, []), (189, .istore_n 3, 190, [], 0, []), (190, .aload_n 0, 191, [], 0, []), (191, .getfield 19, 194, [], 0, []), (194, .iload_n 3, 195, [], 0, []), (195, .iload 4, 197, [], 0, []), (197, .invokevirtual 90, 200, [], 0, []), (200, .aload_n 0, 201, [], 0, []), (201, .iload_n 1, 202, [], 0, []), (202, .iload_n 3, 203, [], 0, []), (203, .invokevirtual 68, 206, [], 0, []), (206, .return_, 207, [], 0, [])]
/-- BlockFront$Parser.tier(II)I -/
def am_c77 : List (Nat × Instr × Nat × List Nat × Int32 × List Int32) := [(0, .iload_n 1, 1, [], 0, []), (1, .iconst 3, 2, [], 3, []), (2, .if_icmp .eq 9, 5, [11], 0, []), (5, .iload_n 1, 6, [], 0, []), (6, .bipush 7, 8, [], 7, []), (8, .if_icmp .ne 10, 11, [18], 0, []), (11, .aload_n 0, 12, [], 0, []), (12, .iload_n 1, 13, [], 0, []), (13, .iload_n 2, 14, [], 0, []), (14, .invokevirtual 105, 17, [], 0, []), (17, .ireturn, 18, [], 0, []), (18, .iload_n 1, 19, [], 0, []), (19, .bipush 8, 21, [], 8, []), (21, .if_icmp .lt 9, 24, [30], 0, []), (24, .aload_n 0, 25, [], 0, []), (25, .iload_n 2, 26, [], 0, []), (26, .invokevirtual 108, 29, [], 0, []), (29, .ireturn, 30, [], 0, []), (30, .aload_n 0, 31, [], 0, []), (31, .iload_n 1, 32, [], 0, []), (32, .iconst 1, 33, [], 1, []), (33, .iadd, 34, [], 0, []), (34, .iload_n 2, 35, [], 0, []), (35, .invokevirtual 96, 38, [], 0, []), (38, .istore_n 3, 39, [], 0, []), (39, .iload_n 1, 40, [], 0, []), (40, .iconst 4, 41, [], 4, []), (41, .if_icmp .ne 7, 44, [48], 0, []), (44, .iconst 1, 45, [], 1, []), (45, .goto 5, 48, [50], 0, []), (48, .bipush 120, 50, [], 120, []), (50, .istore 4, 52, [], 0, []), (52, .iconst 0, 53, [], 0, []), (53, .istore 5, 55, [], 0, []), (55, .iload 5, 57, [], 0, []), (57, .iload 4, 59, [], 0, []), (59, .if_icmp .ge 93, 62, [152], 0, []), (62, .aload_n 0, 63, [], 0, []), (63, .getfield 15, 66, [], 0, []), (66, .aload_n 0, 67, [], 0, []), (67, .getfield 9, 70, [], 0, []), (70, .invokevirtual 32, 73, [], 0, []), (73, .invokestatic 111, 76, [], 0, []), (76, .iload_n 1, 77, [], 0, []), (77, .if_icmp .ne 75, 80, [152], 0, []), (80, .aload_n 0, 81, [], 0, []), (81, .invokevirtual 47, 84, [], 0, []), (84, .istore 6, 86, [], 0, []), (86, .aload_n 0, 87, [], 0, []), (87, .iload_n 1, 88, [], 0, []), (88, .iconst 1, 89, [], 1, []), (89, .iadd, 90, [], 0, []), (90, .aload_n 0, 91, [], 0, []), (91, .iload_n 2, 92, [], 0, []), (92, .iload 6, 94, [], 0, []), (94, .invokevirtual 114, 97, [], 0, []), (97, .invokevirtual 96, 100, [], 0, []), (100, .istore 7, 102, [], 0, []), (102, .aload_n 0, 103, [], 0, []), (103, .getfield 19, 106, [], 0, []), (106, .iload_n 1, 107, [], 0, []), (107, .invokestatic 117, 110, [], 0, []), (110, .iload 6, 112, [], 0, []), (112, .invokevirtual 51, 115, [], 0, []), (115, .istore 8, 117, [], 0, []), (117, .aload_n 0, 118, [], 0, []), (118, .getfield 19, 121, [], 0, []), (121, .iload 8, 123, [], 0, []), (123, .iload_n 3, 124, [], 0, []), (124, .invokevirtual 90, 127, [], 0, []), (127, .aload_n 0, 128, [], 0, []), (128, .getfield 19, 131, [], 0, []), (131, .iload 8, 133, [], 0, []), (133, .iload 7, 135, [], 0, []), (135, .invokevirtual 90, 138, [], 0, []), (138, .iload 8, 140, [], 0, []), (140, .istore_n 3, 141, [], 0, []), (141, .aload_n 0, 142, [], 0, []), (142, .iload_n 3, 143, [], 0, []), (143, .invokevirtual 120, 146, [], 0, []), (146, .iinc 5 1, 149, [], 1, []), (149, .goto (-94), 152, [55], 0, []), (152, .iload_n 3, 153, [], 0, []), (153, .ireturn, 154, [], 0, [])]
/-- BlockFront$Parser.prefixed(II)I -/
def am_c78 : List (Nat × Instr × Nat × List Nat × Int32 × List Int32) := [(0, .aload_n 0, 1, [], 0, []), (1, .iload_n 1, 2, [], 0, []), (2, .iconst 3, 3, [], 3, []), (3, .if_icmp .ne 8, 6, [11], 0, []), (6, .bipush 21, 8, [], 21, []), (8, .goto 5, 11, [13], 0, []), (11, .bipush 45, 13, [], 45, []), (13, .invokevirtual 55, 16, [], 0, []), (16, .ifCond .ne 12, 19, [28], 0, []), (19, .aload_n 0, 20, [], 0, []), (20, .iload_n 1, 21, [], 0, []), (21, .iconst 1, 22, [], 1, []), (22, .iadd, 23, [], 0, []), (23, .iload_n 2, 24, [], 0, []), (24, .invokevirtual 96, 27, [], 0, []), (27, .ireturn, 28, [], 0, []), (28, .aload_n 0, 29, [], 0, []), (29, .invokevirtual 47, 32, [], 0, []), (32, .istore_n 3, 33, [], 0, []), (33, .aload_n 0, 34, [], 0, []), (34, .iload_n 1, 35, [], 0, []), (35, .aload_n 0, 36, [], 0, []), (36, .iload_n 2, 37, [], 0, []), (37, .iload_n 3, 38, [], 0, []), (38, .invokevirtual 114, 41, [], 0, []), (41, .invokevirtual 105, 44, [], 0, []), (44, .istore 4, 46, [], 0, []), (46, .aload_n 0, 47, [], 0, []), (47, .getfield 19, 50, [], 0, []), (50, .iload_n 1, 51, [], 0, []), (51, .iconst 3, 52, [], 3, []), (52, .if_icmp .ne 8, 55, [60], 0, []), (55, .bipush 13, 57, [], 13, []), (57, .goto 5, 60, [62], 0, []), (60, .bipush 16, 62, [], 16, []), (62, .iload_n 3, 63, [], 0, []), (63, .invokevirtual 51, 66, [], 0, []), (66, .istore 5, 68, [], 0, []), (68, .aload_n 0, 69, [], 0, []), (69, .getfield 19, 72, [], 0, []), (72, .iload 5, 74, [], 0, []), (74, .iload 4, 76, [], 0, []), (76, .invokevirtual 90, 79, [], 0, []), (79, .aload_n 0, 80, [], 0, []), (80, .iload 5, 82, [], 0, []), (82, .invokevirtual 120, 85, [], 0, []), (85, .iload 5, 87, [], 0, []), (87, .ireturn, 88, [], 0, [])]
/-- BlockFront$Parser.part(I)I -/
def am_c79 : List (Nat × Instr × Nat × List Nat × Int32 × List Int32) := [(0, .aload_n 0, 1, [], 0, []), (1, .iload_n 1, 2, [], 0, []), (2, .invokevirtual 123, 5, [], 0, []), (5, .istore_n 2, 6, [], 0, []), (6, .iconst 0, 7, [], 0, []), (7, .istore_n 3, 8, [], 0, []), (8, .iload_n 3, 9, [], 0, []), (9, .bipush 120, 11, [], 120, []), (11, .if_icmp .ge 85, 14, [96], 0, []), (14, .aload_n 0, 15, [], 0, []), (15, .bipush 40, 17, [], 40, []), (17, .invokevirtual 55, 20, [], 0, []), (20, .ifCond .ne 21, 23, [41], 0, []), (23, .aload_n 0, 24, [], 0, []), (24, .bipush 91, 26, [], 91, []), (26, .invokevirtual 55, 29, [], 0, []), (29, .ifCond .ne 12, 32, [41], 0, []), (32, .aload_n 0, 33, [], 0, []), (33, .bipush 46, 35, [], 46, []), (35, .invokevirtual 55, 38, [], 0, []), (38, .ifCond .eq 58, 41, [96], 0, []), (41, .aload_n 0, 42, [], 0, []), (42, .bipush 46, 44, [], 46, []), (44, .invokevirtual 55, 47, [], 0, []), (47, .ifCond .eq 12, 50, [59], 0, []), (50, .aload_n 0, 51, [], 0, []), (51, .iload_n 2, 52, [], 0, []), (52, .invokevirtual 126, 55, [], 0, []), (55, .istore_n 2, 56, [], 0, []), (56, .goto 29, 59, [85], 0, []), (59, .aload_n 0, 60, [], 0, []), (60, .bipush 40, 62, [], 40, []), (62, .invokevirtual 55, 65, [], 0, []), (65, .ifCond .eq 13, 68, [78], 0, []), (68, .aload_n 0, 69, [], 0, []), (69, .iload_n 2, 70, [], 0, []), (70, .iload_n 1, 71, [], 0, []), (71, .invokevirtual 129, 74, [], 0, []), (74, .istore_n 2, 75, [], 0, []), (75, .goto 10, 78, [85], 0, []), (78, .aload_n 0, 79, [], 0, []), (79, .iload_n 2, 80, [], 0, []), (80, .iload_n 1, 81, [], 0, []), (81, .invokevirtual 132, 84, [], 0, []), (84, .istore_n 2, 85, [], 0, []), (85, .aload_n 0, 86, [], 0, []), (86, .iload_n 2, 87, [], 0, []), (87, .invokevirtual 120, 90, [], 0, []), (90, .iinc 3 1, 93, [], 1, []), (93, .goto (-85), 96, [8], 0, []), (96, .iload_n 2, 97, [], 0, []), (97, .ireturn, 98, [], 0, [])]
/-- BlockFront$Parser.member(I)I -/
def am_c80 : List (Nat × Instr × Nat × List Nat × Int32 × List Int32) := [(0, .aload_n 0, 1, [], 0, []), (1, .invokevirtual 47, 4, [], 0, []), (4, .pop, 5, [], 0, []), (5, .aload_n 0, 6, [], 0, []), (6, .getfield 19, 9, [], 0, []), (9, .bipush 19, 11, [], 19, []), (11, .aload_n 0, 12, [], 0, []), (12, .iconst 1, 13, [], 1, []), (13, .invokevirtual 62, 16, [], 0, []), (16, .invokevirtual 51, 19, [], 0, []), (19, .istore_n 2, 20, [], 0, []), (20, .aload_n 0, 21, [], 0, []), (21, .getfield 19, 24, [], 0, []), (24, .iload_n 2, 25, [], 0, []), (25, .iload_n 1, 26, [], 0, []), (26, .invokevirtual 90, 29, [], 0, []), (29, .iload_n 2, 30, [], 0, []), (30, .ireturn, 31, [], 0, [])]
/-- BlockFront$Parser.call(II)I -/
def am_c81 : List (Nat × Instr × Nat × List Nat × Int32 × List Int32) := [(0, .aload_n 0, 1, [], 0, []), (1, .invokevirtual 47, 4, [], 0, []), (4, .istore_n 3, 5, [], 0, []), (5, .aload_n 0, 6, [], 0, []), (6, .getfield 19, 9, [], 0, []), (9, .bipush 17, 11, [], 17, []), (11, .iload_n 3, 12, [], 0, []), (12, .invokevirtual 51, 15, [], 0, []), (15, .istore 4, 17, [], 0, []), (17, .aload_n 0, 18, [], 0, []), (18, .getfield 19, 21, [], 0, []), (21, .iload 4, 23, [], 0, []), (23, .iload_n 1, 24, [], 0, []), (24, .invokevirtual 90, 27, [], 0, []), (27, .aload_n 0, 28, [], 0, []), (28, .iload 4, 30, [], 0, []), (30, .bipush 41, 32, [], 41, []), (32, .aload_n 0, 33, [], 0, []), (33, .iload_n 2, 34, [], 0, []), (34, .iload_n 3, 35, [], 0, []), (35, .invokevirtual 114, 38, [], 0, []), (38, .invokevirtual 135, 41, [], 0, []), (41, .iload 4, 43, [], 0, []), (43, .ireturn, 44, [], 0, [])]
/-- BlockFront$Parser.index(II)I -/
def am_c82 : List (Nat × Instr × Nat × List Nat × Int32 × List Int32) := [(0, .aload_n 0, 1, [], 0, []), (1, .invokevirtual 47, 4, [], 0, []), (4, .istore_n 3, 5, [], 0, []), (5, .aload_n 0, 6, [], 0, []), (6, .getfield 19, 9, [], 0, []), (9, .bipush 18, 11, [], 18, []), (11, .iload_n 3, 12, [], 0, []), (12, .invokevirtual 51, 15, [], 0, []), (15, .istore 4, 17, [], 0, []), (17, .aload_n 0, 18, [], 0, []), (18, .getfield 19, 21, [], 0, []), (21, .iload 4, 23, [], 0, []), (23, .iload_n 1, 24, [], 0, []), (24, .invokevirtual 90, 27, [], 0, []), (27, .aload_n 0, 28, [], 0, []), (28, .getfield 19, 31, [], 0, []), (31, .iload 4, 33, [], 0, []), (33, .aload_n 0, 34, [], 0, []), (34, .iconst 1, 35, [], 1, []), (35, .aload_n 0, 36, [], 0, []), (36, .iload_n 2, 37, [], 0, []), (37, .iload_n 3, 38, [], 0, []), (38, .invokevirtual 114, 41, [], 0, []), (41, .invokevirtual 96, 44, [], 0, []), (44, .invokevirtual 90, 47, [], 0, []), (47, .aload_n 0, 48, [], 0, []), (48, .bipush 93, 50, [], 93, []), (50, .invokevirtual 62, 53, [], 0, []), (53, .pop, 54, [], 0, []), (54, .iload 4, 56, [], 0, []), (56, .ireturn, 57, [], 0, [])]
/-- BlockFront$Parser.addExpressions(III)V -/
def am_c83 : List (Nat × Instr × Nat × List Nat × Int32 × List Int32) := [(0, .aload_n 0, 1, [], 0, []), (1, .iload_n 2, 2, [], 0, []), (2, .invokevirtual 55, 5, [], 0, []), (5, .ifCond .ne 61, 8, [66], 0, []), (8, .aload_n 0, 9, [], 0, []), (9, .getfield 19, 12, [], 0, []), (12, .iload_n 1, 13, [], 0, []), (13, .aload_n 0, 14, [], 0, []), (14, .iconst 1, 15, [], 1, []), (15, .iload_n 3, 16, [], 0, []), (16, .invokevirtual 96, 19, [], 0, []), (19, .invokevirtual 90, 22, [], 0, []), (22, .iconst 0, 23, [], 0, []), (23, .istore 4, 25, [], 0, []), (25, .iload 4, 27, [], 0, []), (27, .bipush 120, 29, [], 120, []), (29, .if_icmp .ge 37, 32, [66], 0, []), (32, .aload_n 0, 33, [], 0, []), (33, .bipush 44, 35, [], 44, []), (35, .invokevirtual 55, 38, [], 0, []), (38, .ifCond .eq 28, 41, [66], 0, []), (41, .aload_n 0, 42, [], 0, []), (42, .invokevirtual 47, 45, [], 0, []), (45, .pop, 46, [], 0, []), (46, .aload_n 0, 47, [], 0, []), (47, .getfield 19, 50, [], 0, []), (50, .iload_n 1, 51, [], 0, []), (51, .aload_n 0, 52, [], 0, []), (52, .iconst 1, 53, [], 1, []), (53, .iload_n 3, 54, [], 0, []), (54, .invokevirtual 96, 57, [], 0, []), (57, .invokevirtual 90, 60, [], 0, []), (60, .iinc 4 1, 63, [], 1, []), (63, .goto (-38), 66, [25], 0, []), (66, .aload_n 0, 67, [], 0, []), (67, .iload_n 2, 68, [], 0, []), (68, .invokevirtual 62, 71, [], 0, []), (71, .pop, 72, [], 0, []), (72, .return_, 73, [], 0, [])]
/-- BlockFront$Parser.atom(I)I -/
def am_c84 : List (Nat × Instr × Nat × List Nat × Int32 × List Int32) := [(0, .aload_n 0, 1, [], 0, []), (1, .getfield 15, 4, [], 0, []), (4, .aload_n 0, 5, [], 0, []), (5, .getfield 9, 8, [], 0, []), (8, .invokevirtual 32, 11, [], 0, []), (11, .lookupswitch 103 #[(1, 49), (3, 63), (4, 77), (40, 91), (91, 97)], 60, [114, 60, 74, 88, 102, 108], 0, [1, 3, 4, 40, 91]), (60, .aload_n 0, 61, [], 0, []), (61, .getfield 19, 64, [], 0, []), (64, .bipush 20, 66, [], 20, []), (66, .aload_n 0, 67, [], 0, []), (67, .invokevirtual 47, 70, [], 0, []), (70, .invokevirtual 51, 73, [], 0, []), (73, .ireturn, 74, [], 0, []), (74, .aload_n 0, 75, [], 0, []), (75, .getfield 19, 78, [], 0, []), (78, .bipush 21, 80, [], 21, []), (80, .aload_n 0, 81, [], 0, []), (81, .invokevirtual 47, 84, [], 0, []), (84, .invokevirtual 51, 87, [], 0, []), (87, .ireturn, 88, [], 0, []), (88, .aload_n 0, 89, [], 0, []), (89, .getfield 19, 92, [], 0, []), (92, .bipush 22, 94, [], 22, []), (94, .aload_n 0, 95, [], 0, []), (95, .invokevirtual 47, 98, [], 0, []), (98, .invokevirtual 51, 101, [], 0, []), (101, .ireturn, 102, [], 0, []), (102, .aload_n 0, 103, [], 0, []), (103, .iload_n 1, 104, [], 0, []), (104, .invokevirtual 139, 107, [], 0, []), (107, .ireturn, 108, [], 0, []), (108, .aload_n 0, 109, [], 0, []), (109, .iload_n 1, 110, [], 0, []), (110, .invokevirtual 142, 113, [], 0, []), (113, .ireturn, 114, [], 0, []), (114, .aload_n 0, 115, [], 0, []), (115, .getfield 23, 118, [], 0, []), (118, .bipush 9, 120, [], 9, []), (120, .aload_n 0, 121, [], 0, []), (121, .getfield 15, 124, [], 0, []), (124, .aload_n 0, 125, [], 0, []), (125, .getfield 9, 128, [], 0, []), (128, .invokevirtual 38, 131, [], 0, []), (131, .invokevirtual 41, 134, [], 0, []), (134, .iconst (-1), 135, [], (-1), []), (135, .ireturn, 136, [], 0, [])]
/-- BlockFront$Parser.bracketed(I)I -/
def am_c85 : List (Nat × Instr × Nat × List Nat × Int32 × List Int32) := [(0, .aload_n 0, 1, [], 0, []), (1, .iconst 1, 2, [], 1, []), (2, .aload_n 0, 3, [], 0, []), (3, .iload_n 1, 4, [], 0, []), (4, .aload_n 0, 5, [], 0, []), (5, .invokevirtual 47, 8, [], 0, []), (8, .invokevirtual 114, 11, [], 0, []), (11, .invokevirtual 96, 14, [], 0, []), (14, .istore_n 2, 15, [], 0, []), (15, .aload_n 0, 16, [], 0, []), (16, .bipush 41, 18, [], 41, []), (18, .invokevirtual 62, 21, [], 0, []), (21, .pop, 22, [], 0, []), (22, .iload_n 2, 23, [], 0, []), (23, .ireturn, 24, [], 0, [])]
/-- BlockFront$Parser.list(I)I -/
def am_c86 : List (Nat × Instr × Nat × List Nat × Int32 × List Int32) := [(0, .aload_n 0, 1, [], 0, []), (1, .invokevirtual 47, 4, [], 0, []), (4, .istore_n 2, 5, [], 0, []), (5, .aload_n 0, 6, [], 0, []), (6, .getfield 19, 9, [], 0, []), (9, .bipush 23, 11, [], 23, []), (11, .iload_n 2, 12, [], 0, []), (12, .invokevirtual 51, 15, [], 0, []), (15, .istore_n 3, 16, [], 0, []), (16, .aload_n 0, 17, [], 0, []), (17, .iload_n 3, 18, [], 0, []), (18, .bipush 93, 20, [], 93, []), (20, .aload_n 0, 21, [], 0, []), (21, .iload_n 1, 22, [], 0, []), (22, .iload_n 2, 23, [], 0, []), (23, .invokevirtual 114, 26, [], 0, []), (26, .invokevirtual 135, 29, [], 0, []), (29, .aload_n 0, 30, [], 0, []), (30, .iload_n 3, 31, [], 0, []), (31, .invokevirtual 120, 34, [], 0, []), (34, .iload_n 3, 35, [], 0, []), (35, .ireturn, 36, [], 0, [])]
/-- BlockFront$Parser.opened(II)I -/
def am_c87 : List (Nat × Instr × Nat × List Nat × Int32 × List Int32) := [(0, .iload_n 1, 1, [], 0, []), (1, .bipush 12, 3, [], 12, []), (3, .if_icmp .lt 19, 6, [22], 0, []), (6, .aload_n 0, 7, [], 0, []), (7, .getfield 23, 10, [], 0, []), (10, .iconst 3, 11, [], 3, []), (11, .aload_n 0, 12, [], 0, []), (12, .getfield 15, 15, [], 0, []), (15, .iload_n 2, 16, [], 0, []), (16, .invokevirtual 38, 19, [], 0, []), (19, .invokevirtual 41, 22, [], 0, []), (22, .iload_n 1, 23, [], 0, []), (23, .iconst 1, 24, [], 1, []), (24, .iadd, 25, [], 0, []), (25, .ireturn, 26, [], 0, [])]
/-- BlockFront$Parser.checkHeight(I)V -/
def am_c88 : List (Nat × Instr × Nat × List Nat × Int32 × List Int32) := [(0, .aload_n 0, 1, [], 0, []), (1, .getfield 19, 4, [], 0, []), (4, .iload_n 1, 5, [], 0, []), (5, .invokevirtual 145, 8, [], 0, []), (8, .bipush 10, 10, [], 10, []), (10, .if_icmp .le 26, 13, [36], 0, []), (13, .aload_n 0, 14, [], 0, []), (14, .getfield 23, 17, [], 0, []), (17, .iconst 3, 18, [], 3, []), (18, .aload_n 0, 19, [], 0, []), (19, .getfield 15, 22, [], 0, []), (22, .aload_n 0, 23, [], 0, []), (23, .getfield 19, 26, [], 0, []), (26, .iload_n 1, 27, [], 0, []), (27, .invokevirtual 84, 30, [], 0, []), (30, .invokevirtual 38, 33, [], 0, []), (33, .invokevirtual 41, 36, [], 0, []), (36, .return_, 37, [], 0, [])]
/-- BlockFront$Writer.<init>(LBlockFront$Text;LBlockFront$Tokens;LBlockFront$Tree;)V -/
def am_c89 : List (Nat × Instr × Nat × List Nat × Int32 × List Int32) := [(0, .aload_n 0, 1, [], 0, []), (1, .invokespecial 3, 4, [], 0, []), (4, .aload_n 0, 5, [], 0, []), (5, .sipush 3120, 8, [], 3120, []), (8, .newarray .char, 10, [], 0, []), (10, .putfield 9, 13, [], 0, []), (13, .aload_n 0, 14, [], 0, []), (14, .iconst 0, 15, [], 0, []), (15, .putfield 15, 18, [], 0, []), (18, .aload_n 0, 19, [], 0, []), (19, .aload_n 1, 20, [], 0, []), (20, .putfield 19, 23, [], 0, []), (23, .aload_n 0, 24, [], 0, []), (24, .aload_n 2, 25, [], 0, []), (25, .putfield 23, 28, [], 0, []), (28, .aload_n 0, 29, [], 0, []), (29, .aload_n 3, 30, [], 0, []), (30, .putfield 27, 33, [], 0, []), (33, .return_, 34, [], 0, [])]
/-- BlockFront$Writer.writtenAt(I)C -/
def am_c90 : List (Nat × Instr × Nat × List Nat × Int32 × List Int32) := [(0, .iload_n 1, 1, [], 0, []), (1, .ifCond .lt 29, 4, [30], 0, []), (4, .iload_n 1, 5, [], 0, []), (5, .aload_n 0, 6, [], 0, []), (6, .getfield 15, 9, [], 0, []), (9, .if_icmp .ge 21, 12, [30], 0, []), (12, .iload_n 1, 13, [], 0, []), (13, .aload_n 0, 14, [], 0, []), (14, .getfield 9, 17, [], 0, []), (17, .arraylength, 18, [], 0, []), (18, .if_icmp .ge 12, 21, [30], 0, []), (21, .aload_n 0, 22, [], 0, []), (22, .getfield 9, 25, [], 0, []), (25, .iload_n 1, 26, [], 0, []), (26, .caload, 27, [], 0, []), (27, .goto 4, 30, [31], 0, []), (30, .iconst 0, 31, [], 0, []), (31, .ireturn, 32, [], 0, [])]
/-- BlockFront$Writer.writeWhole()V -/
def am_c91 : List (Nat × Instr × Nat × List Nat × Int32 × List Int32) := [(0, .aload_n 0, 1, [], 0, []), (1, .iconst 0, 2, [], 0, []), (2, .putfield 15, 5, [], 0, []), (5, .aload_n 0, 6, [], 0, []), (6, .iconst 0, 7, [], 0, []), (7, .iconst 0, 8, [], 0, []), (8, .invokevirtual 31, 11, [], 0, []), (11, .return_, 12, [], 0, [])]
/-- BlockFront$Writer.put(C)V -/
def am_c92 : List (Nat × Instr × Nat × List Nat × Int32 × List Int32) := [(0, .aload_n 0, 1, [], 0, []), (1, .getfield 15, 4, [], 0, []), (4, .ifCond .lt 35, 7, [39], 0, []), (7, .aload_n 0, 8, [], 0, []), (8, .getfield 15, 11, [], 0, []), (11, .aload_n 0, 12, [], 0, []), (12, .getfield 9, 15, [], 0, []), (15, .arraylength, 16, [], 0, []), (16, .if_icmp .ge 23, 19, [39], 0, []), (19, .aload_n 0, 20, [], 0, []), (20, .getfield 9, 23, [], 0, []), (23, .aload_n 0, 24, [], 0, []), (24, .getfield 15, 27, [], 0, []), (27, .iload_n 1, 28, [], 0, []), (28, .castore, 29, [], 0, []), (29, .aload_n 0, 30, [], 0, []), (30, .dup, 31, [], 0, []), (31, .getfield 15, 34, [], 0, []), (34, .iconst 1, 35, [], 1, []), (35, .iadd, 36, [], 0, []), (36, .putfield 15, 39, [], 0, []), (39, .return_, 40, [], 0, [])]
/-- BlockFront$Writer.putWord(Ljava/lang/String;)V -/
def am_c93 : List (Nat × Instr × Nat × List Nat × Int32 × List Int32) := [(0, .iconst 0, 1, [], 0, []), (1, .istore_n 2, 2, [], 0, []), (2, .iload_n 2, 3, [], 0, []), (3, .aload_n 1, 4, [], 0, []), (4, .invokevirtual 35, 7, [], 0, []), (7, .if_icmp .ge 18, 10, [25], 0, []), (10, .aload_n 0, 11, [], 0, []), (11, .aload_n 1, 12, [], 0, []), (12, .iload_n 2, 13, [], 0, []), (13, .invokevirtual 41, 16, [], 0, []), (16, .invokevirtual 45, 19, [], 0, []), (19, .iinc 2 1, 22, [], 1, []), (22, .goto (-20), 25, [2], 0, []), (25, .return_, 26, [], 0, [])]
/-- BlockFront$Writer.putTokenOf(I)V -/
def am_c94 : List (Nat × Instr × Nat × List Nat × Int32 × List Int32) := [(0, .aload_n 0, 1, [], 0, []), (1, .getfield 27, 4, [], 0, []), (4, .iload_n 1, 5, [], 0, []), (5, .invokevirtual 49, 8, [], 0, []), (8, .istore_n 2, 9, [], 0, []), (9, .aload_n 0, 10, [], 0, []), (10, .getfield 23, 13, [], 0, []), (13, .iload_n 2, 14, [], 0, []), (14, .invokevirtual 55, 17, [], 0, []), (17, .istore_n 3, 18, [], 0, []), (18, .aload_n 0, 19, [], 0, []), (19, .getfield 23, 22, [], 0, []), (22, .iload_n 2, 23, [], 0, []), (23, .invokevirtual 60, 26, [], 0, []), (26, .istore 4, 28, [], 0, []), (28, .iconst 0, 29, [], 0, []), (29, .istore 5, 31, [], 0, []), (31, .iload 5, 33, [], 0, []), (33, .iload 4, 35, [], 0, []), (35, .if_icmp .ge 24, 38, [59], 0, []), (38, .aload_n 0, 39, [], 0, []), (39, .aload_n 0, 40, [], 0, []), (40, .getfield 19, 43, [], 0, []), (43, .iload_n 3, 44, [], 0, []), (44, .iload 5, 46, [], 0, []), (46, .iadd, 47, [], 0, []), (47, .invokevirtual 63, 50, [], 0, []), (50, .invokevirtual 45, 53, [], 0, []), (53, .iinc 5 1, 56, [], 1, []), (56, .goto (-25), 59, [31], 0, []), (59, .return_, 60, [], 0, [])]
/-- BlockFront$Writer.beginLine(I)V -/
def am_c95 : List (Nat × Instr × Nat × List Nat × Int32 × List Int32) := [(0, .iconst 0, 1, [], 0, []), (1, .istore_n 2, 2, [], 0, []), (2, .iload_n 2, 3, [], 0, []), (3, .iload_n 1, 4, [], 0, []), (4, .if_icmp .ge 15, 7, [19], 0, []), (7, .aload_n 0, 8, [], 0, []), (8, .ldc 68, 10, [], 0, []), (10, .invokevirtual 70, 13, [], 0, []), (13, .iinc 2 1, 16, [], 1, []), (16, .goto (-14), 19, [2], 0, []), (19, .return_, 20, [], 0, [])]
/-- BlockFront$Writer.writeBlock(II)V -/
def am_c96 : List (Nat × Instr × Nat × List Nat × Int32 × List Int32) := [(0, .iload_n 2, 1, [], 0, []), (1, .bipush 9, 3, [], 9, []), (3, .if_icmp .le 4, 6, [7], 0, []), (6, .return_, 7, [], 0, []), (7, .aload_n 0, 8, [], 0, []), (8, .getfield 27, 11, [], 0, []), (11, .iload_n 1, 12, [], 0, []), (12, .invokevirtual 74, 15, [], 0, []), (15, .istore_n 3, 16, [], 0, []), (16, .iconst 0, 17, [], 0, []), (17, .istore 4, 19, [], 0, []), (19, .iload 4, 21, [], 0, []), (21, .sipush 360, 24, [], 360, []), (24, .if_icmp .ge 29, 27, [53], 0, []), (27, .iload_n 3, 28, [], 0, []), (28, .iconst (-1), 29, [], (-1), []), (29, .if_icmp .eq 24, 32, [53], 0, []), (32, .aload_n 0, 33, [], 0, []), (33, .iload_n 3, 34, [], 0, []), (34, .iload_n 2, 35, [], 0, []), (35, .invokevirtual 77, 38, [], 0, []), (38, .aload_n 0, 39, [], 0, []), (39, .getfield 27, 42, [], 0, []), (42, .iload_n 3, 43, [], 0, []), (43, .invokevirtual 80, 46, [], 0, []), (46, .istore_n 3, 47, [], 0, []), (47, .iinc 4 1, 50, [], 1, []), (50, .goto (-31), 53, [19], 0, []), (53, .return_, 54, [], 0, [])]
/-- BlockFront$Writer.writeStatement(II)V -/
def am_c97 : List (Nat × Instr × Nat × List Nat × Int32 × List Int32) := [(0, .aload_n 0, 1, [], 0, []), (1, .iload_n 2, 2, [], 0, []), (2, .invokevirtual 83, 5, [], 0, []), (5, .aload_n 0, 6, [], 0, []), (6, .getfield 27, 9, [], 0, []), (9, .iload_n 1, 10, [], 0, []), (10, .invokevirtual 87, 13, [], 0, []), (13, .tableswitch 55 6 8 #[27, 36, 46], 40, [68, 40, 49, 59], 0, [6, 7, 8]), (40, .aload_n 0, 41, [], 0, []), (41, .iload_n 1, 42, [], 0, []), (42, .iload_n 2, 43, [], 0, []), (43, .invokevirtual 90, 46, [], 0, []), (46, .goto 27, 49, [73], 0, []), (49, .aload_n 0, 50, [], 0, []), (50, .iload_n 1, 51, [], 0, []), (51, .iload_n 2, 52, [], 0, []), (52, .invokevirtual 93, 55, [], 0, []), (55, .pop, 56, [], 0, []), (56, .goto 17, 59, [73], 0, []), (59, .aload_n 0, 60, [], 0, []), (60, .iload_n 1, 61, [], 0, []), (61, .iload_n 2, 62, [], 0, []), (62, .invokevirtual 97, 65, [], 0, []), (65, .goto 8, 68, [73], 0, []), (68, .aload_n 0, 69, [], 0, []), (69, .iload_n 1, 70, [], 0, []), (70, .invokevirtual 100, 73, [], 0, []), (73, .return_, 74, [], 0, [])]
/-- BlockFront$Writer.writeBranches(II)V -/
def am_c98 : List (Nat × Instr × Nat × List Nat × Int32 × List Int32) := [(0, .aload_n 0, 1, [], 0, []), (1, .iload_n 1, 2, [], 0, []), (2, .iload_n 2, 3, [], 0, []), (3, .invokevirtual 93, 6, [], 0, []), (6, .istore_n 3, 7, [], 0, []), (7, .iconst 0, 8, [], 0, []), (8, .istore 4, 10, [], 0, []), (10, .iload 4, 12, [], 0, []), (12, .sipush 360, 15, [], 360, []), (15, .if_icmp .ge 58, 18, [73], 0, []), (18, .iload_n 3, 19, [], 0, []), (19, .iconst (-1), 20, [], (-1), []), (20, .if_icmp .eq 53, 23, [73], 0, []), (23, .aload_n 0, 24, [], 0, []), (24, .iload_n 2, 25, [], 0, []), (25, .invokevirtual 83, 28, [], 0, []), (28, .aload_n 0, 29, [], 0, []), (29, .getfield 27, 32, [], 0, []), (32, .iload_n 3, 33, [], 0, []), (33, .invokevirtual 87, 36, [], 0, []), (36, .bipush 6, 38, [], 6, []), (38, .if_icmp .ne 13, 41, [51], 0, []), (41, .aload_n 0, 42, [], 0, []), (42, .iload_n 3, 43, [], 0, []), (43, .iload_n 2, 44, [], 0, []), (44, .invokevirtual 93, 47, [], 0, []), (47, .istore_n 3, 48, [], 0, []), (48, .goto 19, 51, [67], 0, []), (51, .aload_n 0, 52, [], 0, []), (52, .ldc 103, 54, [], 0, []), (54, .invokevirtual 70, 57, [], 0, []), (57, .aload_n 0, 58, [], 0, []), (58, .iload_n 3, 59, [], 0, []), (59, .iload_n 2, 60, [], 0, []), (60, .iconst 1, 61, [], 1, []), (61, .iadd, 62, [], 0, []), (62, .invokevirtual 31, 65, [], 0, []), (65, .iconst (-1), 66, [], (-1), []), (66, .istore_n 3, 67, [], 0, []), (67, .iinc 4 1, 70, [], 1, []), (70, .goto (-60), 73, [10], 0, []), (73, .return_, 74, [], 0, [])]
end
section
/-- BlockFront$Writer.writeConditional(II)I -/
def am_c99 : List (Nat × Instr × Nat × List Nat × Int32 × List Int32) := [(0, .aload_n 0, 1, [], 0, []), (1, .getfield 27, 4, [], 0, []), (4, .iload_n 1, 5, [], 0, []), (5, .invokevirtual 74, 8, [], 0, []), (8, .istore_n 3, 9, [], 0, []), (9, .aload_n 0, 10, [], 0, []), (10, .getfield 27, 13, [], 0, []), (13, .iload_n 3, 14, [], 0, []), (14, .invokevirtual 80, 17, [], 0, []), (17, .istore 4, 19, [], 0, []), (19, .aload_n 0, 20, [], 0, []), (20, .iload_n 1, 21, [], 0, []), (21, .invokevirtual 105, 24, [], 0, []), (24, .aload_n 0, 25, [], 0, []), (25, .bipush 32, 27, [], 32, []), (27, .invokevirtual 45, 30, [], 0, []), (30, .aload_n 0, 31, [], 0, []), (31, .iload_n 3, 32, [], 0, []), (32, .iconst 1, 33, [], 1, []), (33, .invokevirtual 108, 36, [], 0, []), (36, .aload_n 0, 37, [], 0, []), (37, .ldc 111, 39, [], 0, []), (39, .invokevirtual 70, 42, [], 0, []), (42, .aload_n 0, 43, [], 0, []), (43, .iload 4, 45, [], 0, []), (45, .iload_n 2, 46, [], 0, []), (46, .iconst 1, 47, [], 1, []), (47, .iadd, 48, [], 0, []), (48, .invokevirtual 31, 51, [], 0, []), (51, .aload_n 0, 52, [], 0, []), (52, .getfield 27, 55, [], 0, []), (55, .iload 4, 57, [], 0, []), (57, .invokevirtual 80, 60, [], 0, []), (60, .ireturn, 61, [], 0, [])]
/-- BlockFront$Writer.writeDefinition(II)V -/
def am_c100 : List (Nat × Instr × Nat × List Nat × Int32 × List Int32) := [(0, .aload_n 0, 1, [], 0, []), (1, .ldc 113, 3, [], 0, []), (3, .invokevirtual 70, 6, [], 0, []), (6, .aload_n 0, 7, [], 0, []), (7, .iload_n 1, 8, [], 0, []), (8, .invokevirtual 105, 11, [], 0, []), (11, .aload_n 0, 12, [], 0, []), (12, .bipush 40, 14, [], 40, []), (14, .invokevirtual 45, 17, [], 0, []), (17, .aload_n 0, 18, [], 0, []), (18, .getfield 27, 21, [], 0, []), (21, .iload_n 1, 22, [], 0, []), (22, .invokevirtual 74, 25, [], 0, []), (25, .istore_n 3, 26, [], 0, []), (26, .iconst 0, 27, [], 0, []), (27, .istore 4, 29, [], 0, []), (29, .iload 4, 31, [], 0, []), (31, .sipush 360, 34, [], 360, []), (34, .if_icmp .ge 47, 37, [81], 0, []), (37, .aload_n 0, 38, [], 0, []), (38, .getfield 27, 41, [], 0, []), (41, .iload_n 3, 42, [], 0, []), (42, .invokevirtual 87, 45, [], 0, []), (45, .bipush 24, 47, [], 24, []), (47, .if_icmp .ne 34, 50, [81], 0, []), (50, .iload 4, 52, [], 0, []), (52, .ifCond .le 9, 55, [61], 0, []), (55, .aload_n 0, 56, [], 0, []), (56, .ldc 115, 58, [], 0, []), (58, .invokevirtual 70, 61, [], 0, []), (61, .aload_n 0, 62, [], 0, []), (62, .iload_n 3, 63, [], 0, []), (63, .invokevirtual 105, 66, [], 0, []), (66, .aload_n 0, 67, [], 0, []), (67, .getfield 27, 70, [], 0, []), (70, .iload_n 3, 71, [], 0, []), (71, .invokevirtual 80, 74, [], 0, []), (74, .istore_n 3, 75, [], 0, []), (75, .iinc 4 1, 78, [], 1, []), (78, .goto (-49), 81, [29], 0, []), (81, .aload_n 0, 82, [], 0, []), (82, .ldc 117, 84, [], 0, []), (84, .invokevirtual 70, 87, [], 0, []), (87, .aload_n 0, 88, [], 0, []), (88, .iload_n 3, 89, [], 0, []), (89, .iload_n 2, 90, [], 0, []), (90, .iconst 1, 91, [], 1, []), (91, .iadd, 92, [], 0, []), (92, .invokevirtual 31, 95, [], 0, []), (95, .return_, 96, [], 0, [])]
/-- BlockFront$Writer.writeSmall(I)V -/
def am_c101 : List (Nat × Instr × Nat × List Nat × Int32 × List Int32) := [(0, .aload_n 0, 1, [], 0, []), (1, .getfield 27, 4, [], 0, []), (4, .iload_n 1, 5, [], 0, []), (5, .invokevirtual 87, 8, [], 0, []), (8, .istore_n 2, 9, [], 0, []), (9, .aload_n 0, 10, [], 0, []), (10, .getfield 27, 13, [], 0, []), (13, .iload_n 1, 14, [], 0, []), (14, .invokevirtual 74, 17, [], 0, []), (17, .istore_n 3, 18, [], 0, []), (18, .iload_n 2, 19, [], 0, []), (19, .iconst 5, 20, [], 5, []), (20, .if_icmp .eq 8, 23, [28], 0, []), (23, .aload_n 0, 24, [], 0, []), (24, .iload_n 1, 25, [], 0, []), (25, .invokevirtual 105, 28, [], 0, []), (28, .iload_n 2, 29, [], 0, []), (29, .iconst 4, 30, [], 4, []), (30, .if_icmp .ne 9, 33, [39], 0, []), (33, .aload_n 0, 34, [], 0, []), (34, .ldc 119, 36, [], 0, []), (36, .invokevirtual 70, 39, [], 0, []), (39, .iload_n 2, 40, [], 0, []), (40, .iconst 3, 41, [], 3, []), (41, .if_icmp .ne 14, 44, [55], 0, []), (44, .iload_n 3, 45, [], 0, []), (45, .iconst (-1), 46, [], (-1), []), (46, .if_icmp .eq 9, 49, [55], 0, []), (49, .aload_n 0, 50, [], 0, []), (50, .bipush 32, 52, [], 32, []), (52, .invokevirtual 45, 55, [], 0, []), (55, .iload_n 3, 56, [], 0, []), (56, .iconst (-1), 57, [], (-1), []), (57, .if_icmp .eq 9, 60, [66], 0, []), (60, .aload_n 0, 61, [], 0, []), (61, .iload_n 3, 62, [], 0, []), (62, .iconst 1, 63, [], 1, []), (63, .invokevirtual 108, 66, [], 0, []), (66, .aload_n 0, 67, [], 0, []), (67, .bipush 10, 69, [], 10, []), (69, .invokevirtual 45, 72, [], 0, []), (72, .return_, 73, [], 0, [])]
/-- BlockFront$Writer.writeExpression(II)V -/
def am_c102 : List (Nat × Instr × Nat × List Nat × Int32 × List Int32) := [(0, .iload_n 2, 1, [], 0, []), (1, .bipush 10, 3, [], 10, []), (3, .if_icmp .le 4, 6, [7], 0, []), (6, .return_, 7, [], 0, []), (7, .aload_n 0, 8, [], 0, []), (8, .getfield 27, 11, [], 0, []), (11, .iload_n 1, 12, [], 0, []), (12, .invokevirtual 74, 15, [], 0, []), (15, .istore_n 3, 16, [], 0, []), (16, .aload_n 0, 17, [], 0, []), (17, .getfield 27, 20, [], 0, []), (20, .iload_n 1, 21, [], 0, []), (21, .invokevirtual 87, 24, [], 0, []), (24, .tableswitch 229 11 23 #[68, 68, 109, 68, 68, 125, 141, 168, 195, 229, 229, 229, 216], 92, [253, 92, 92, 133, 92, 92, 149, 165, 192, 219, 253, 253, 253, 240], 0, [11, 12, 13, 14, 15, 16, 17, 18, 19, 20, 21, 22, 23]), (92, .aload_n 0, 93, [], 0, []), (93, .iload_n 1, 94, [], 0, []), (94, .iload_n 3, 95, [], 0, []), (95, .iload_n 2, 96, [], 0, []), (96, .invokevirtual 121, 99, [], 0, []), (99, .aload_n 0, 100, [], 0, []), (100, .bipush 32, 102, [], 32, []), (102, .invokevirtual 45, 105, [], 0, []), (105, .aload_n 0, 106, [], 0, []), (106, .iload_n 1, 107, [], 0, []), (107, .invokevirtual 105, 110, [], 0, []), (110, .aload_n 0, 111, [], 0, []), (111, .bipush 32, 113, [], 32, []), (113, .invokevirtual 45, 116, [], 0, []), (116, .aload_n 0, 117, [], 0, []), (117, .iload_n 1, 118, [], 0, []), (118, .aload_n 0, 119, [], 0, []), (119, .getfield 27, 122, [], 0, []), (122, .iload_n 3, 123, [], 0, []), (123, .invokevirtual 80, 126, [], 0, []), (126, .iload_n 2, 127, [], 0, []), (127, .invokevirtual 121, 130, [], 0, []), (130, .goto 128, 133, [258], 0, []), (133, .aload_n 0, 134, [], 0, []), (134, .ldc 125, 136, [], 0, []), (136, .invokevirtual 70, 139, [], 0, []), (139, .aload_n 0, 140, [], 0, []), (140, .iload_n 1, 141, [], 0, []), (141, .iload_n 3, 142, [], 0, []), (142, .iload_n 2, 143, [], 0, []), (143, .invokevirtual 121, 146, [], 0, []), (146, .goto 112, 149, [258], 0, []), (149, .aload_n 0, 150, [], 0, []), (150, .bipush 45, 152, [], 45, []), (152, .invokevirtual 45, 155, [], 0, []), (155, .aload_n 0, 156, [], 0, []), (156, .iload_n 1, 157, [], 0, []), (157, .iload_n 3, 158, [], 0, []), (158, .iload_n 2, 159, [], 0, []), (159, .invokevirtual 121, 162, [], 0, []), (162, .goto 96, 165, [258], 0, []), (165, .aload_n 0, 166, [], 0, []), (166, .iload_n 1, 167, [], 0, []), (167, .iload_n 3, 168, [], 0, []), (168, .iload_n 2, 169, [], 0, []), (169, .invokevirtual 121, 172, [], 0, []), (172, .aload_n 0, 173, [], 0, []), (173, .bipush 40, 175, [], 40, []), (175, .aload_n 0, 176, [], 0, []), (176, .getfield 27, 179, [], 0, []), (179, .iload_n 3, 180, [], 0, []), (180, .invokevirtual 80, 183, [], 0, []), (183, .bipush 41, 185, [], 41, []), (185, .iload_n 2, 186, [], 0, []), (186, .invokevirtual 127, 189, [], 0, []), (189, .goto 69, 192, [258], 0, []), (192, .aload_n 0, 193, [], 0, []), (193, .iload_n 1, 194, [], 0, []), (194, .iload_n 3, 195, [], 0, []), (195, .iload_n 2, 196, [], 0, []), (196, .invokevirtual 121, 199, [], 0, []), (199, .aload_n 0, 200, [], 0, []), (200, .bipush 91, 202, [], 91, []), (202, .aload_n 0, 203, [], 0, []), (203, .getfield 27, 206, [], 0, []), (206, .iload_n 3, 207, [], 0, []), (207, .invokevirtual 80, 210, [], 0, []), (210, .bipush 93, 212, [], 93, []), (212, .iload_n 2, 213, [], 0, []), (213, .invokevirtual 127, 216, [], 0, []), (216, .goto 42, 219, [258], 0, []), (219, .aload_n 0, 220, [], 0, []), (220, .iload_n 1, 221, [], 0, []), (221, .iload_n 3, 222, [], 0, []), (222, .iload_n 2, 223, [], 0, []), (223, .invokevirtual 121, 226, [], 0, []), (226, .aload_n 0, 227, [], 0, []), (227, .bipush 46, 229, [], 46, []), (229, .invokevirtual 45, 232, [], 0, []), (232, .aload_n 0, 233, [], 0, []), (233, .iload_n 1, 234, [], 0, []), (234, .invokevirtual 105, 237, [], 0, []), (237, .goto 21, 240, [258], 0, []), (240, .aload_n 0, 241, [], 0, []), (241, .bipush 91, 243, [], 91, []), (243, .iload_n 3, 244, [], 0, []), (244, .bipush 93, 246, [], 93, []), (246, .iload_n 2, 247, [], 0, []), (247, .invokevirtual 127, 250, [], 0, []), (250, .goto 8, 253, [258], 0, []), (253, .aload_n 0, 254, [], 0, []), (254, .iload_n 1, 255, [], 0, []), (255, .invokevirtual 105, 258, [], 0, []), (258, .return_, 259, [], 0, [])]
/-- BlockFront$Writer.writeExpressions(CICI)V -/
def am_c103 : List (Nat × Instr × Nat × List Nat × Int32 × List Int32) := [(0, .aload_n 0, 1, [], 0, []), (1, .iload_n 1, 2, [], 0, []), (2, .invokevirtual 45, 5, [], 0, []), (5, .iload_n 2, 6, [], 0, []), (6, .istore 5, 8, [], 0, []), (8, .iconst 0, 9, [], 0, []), (9, .istore 6, 11, [], 0, []), (11, .iload 6, 13, [], 0, []), (13, .sipush 360, 16, [], 360, []), (16, .if_icmp .ge 47, 19, [63], 0, []), (19, .iload 5, 21, [], 0, []), (21, .iconst (-1), 22, [], (-1), []), (22, .if_icmp .eq 41, 25, [63], 0, []), (25, .iload 6, 27, [], 0, []), (27, .ifCond .le 9, 30, [36], 0, []), (30, .aload_n 0, 31, [], 0, []), (31, .ldc 115, 33, [], 0, []), (33, .invokevirtual 70, 36, [], 0, []), (36, .aload_n 0, 37, [], 0, []), (37, .iload 5, 39, [], 0, []), (39, .iload 4, 41, [], 0, []), (41, .iconst 1, 42, [], 1, []), (42, .iadd, 43, [], 0, []), (43, .invokevirtual 108, 46, [], 0, []), (46, .aload_n 0, 47, [], 0, []), (47, .getfield 27, 50, [], 0, []), (50, .iload 5, 52, [], 0, []), (52, .invokevirtual 80, 55, [], 0, []), (55, .istore 5, 57, [], 0, []), (57, .iinc 6 1, 60, [], 1, []), (60, .goto (-49), 63, [11], 0, []), (63, .aload_n 0, 64, [], 0, []), (64, .iload_n 3, 65, [], 0, []), (65, .invokevirtual 45, 68, [], 0, []), (68, .return_, 69, [], 0, [])]
/-- BlockFront$Writer.writePart(III)V -/
def am_c104 : List (Nat × Instr × Nat × List Nat × Int32 × List Int32) := [(0, .aload_n 0, 1, [], 0, []), (1, .iload_n 1, 2, [], 0, []), (2, .iload_n 2, 3, [], 0, []), (3, .invokevirtual 131, 6, [], 0, []), (6, .istore 4, 8, [], 0, []), (8, .iload 4, 10, [], 0, []), (10, .ifCond .eq 9, 13, [19], 0, []), (13, .aload_n 0, 14, [], 0, []), (14, .bipush 40, 16, [], 40, []), (16, .invokevirtual 45, 19, [], 0, []), (19, .aload_n 0, 20, [], 0, []), (20, .iload_n 2, 21, [], 0, []), (21, .iload_n 3, 22, [], 0, []), (22, .iconst 1, 23, [], 1, []), (23, .iadd, 24, [], 0, []), (24, .invokevirtual 108, 27, [], 0, []), (27, .iload 4, 29, [], 0, []), (29, .ifCond .eq 9, 32, [38], 0, []), (32, .aload_n 0, 33, [], 0, []), (33, .bipush 41, 35, [], 41, []), (35, .invokevirtual 45, 38, [], 0, []), (38, .return_, 39, [], 0, [])]
/-- BlockFront$Writer.needsBrackets(II)Z -/
def am_c105 : List (Nat × Instr × Nat × List Nat × Int32 × List Int32) := [(0, .aload_n 0, 1, [], 0, []), (1, .iload_n 1, 2, [], 0, []), (2, .invokevirtual 135, 5, [], 0, []), (5, .istore_n 3, 6, [], 0, []), (6, .aload_n 0, 7, [], 0, []), (7, .iload_n 2, 8, [], 0, []), (8, .invokevirtual 135, 11, [], 0, []), (11, .istore 4, 13, [], 0, []), (13, .iload 4, 15, [], 0, []), (15, .bipush 8, 17, [], 8, []), (17, .if_icmp .eq 9, 20, [26], 0, []), (20, .iload 4, 22, [], 0, []), (22, .iload_n 3, 23, [], 0, []), (23, .if_icmp .le 5, 26, [28], 0, []), (26, .iconst 0, 27, [], 0, []), (27, .ireturn, 28, [], 0, []), (28, .iload 4, 30, [], 0, []), (30, .iload_n 3, 31, [], 0, []), (31, .if_icmp .lt 9, 34, [40], 0, []), (34, .iload 4, 36, [], 0, []), (36, .iconst 4, 37, [], 4, []), (37, .if_icmp .ne 5, 40, [42], 0, []), (40, .iconst 1, 41, [], 1, []), (41, .ireturn, 42, [], 0, []), (42, .aload_n 0, 43, [], 0, []), (43, .getfield 27, 46, [], 0, []), (46, .iload_n 1, 47, [], 0, []), (47, .invokevirtual 74, 50, [], 0, []), (50, .iload_n 2, 51, [], 0, []), (51, .if_icmp .eq 7, 54, [58], 0, []), (54, .iconst 1, 55, [], 1, []), (55, .goto 4, 58, [59], 0, []), (58, .iconst 0, 59, [], 0, []), (59, .ireturn, 60, [], 0, [])]
/-- BlockFront$Writer.strengthOf(I)I -/
def am_c106 : List (Nat × Instr × Nat × List Nat × Int32 × List Int32) := [(0, .aload_n 0, 1, [], 0, []), (1, .getfield 27, 4, [], 0, []), (4, .iload_n 1, 5, [], 0, []), (5, .invokevirtual 87, 8, [], 0, []), (8, .tableswitch 64 11 16 #[40, 40, 59, 40, 40, 61], 48, [72, 48, 48, 67, 48, 48, 69], 0, [11, 12, 13, 14, 15, 16]), (48, .aload_n 0, 49, [], 0, []), (49, .getfield 23, 52, [], 0, []), (52, .aload_n 0, 53, [], 0, []), (53, .getfield 27, 56, [], 0, []), (56, .iload_n 1, 57, [], 0, []), (57, .invokevirtual 49, 60, [], 0, []), (60, .invokevirtual 138, 63, [], 0, []), (63, .invokestatic 141, 66, [], 0, []), (66, .ireturn, 67, [], 0, []), (67, .iconst 3, 68, [], 3, []), (68, .ireturn, 69, [], 0, []), (69, .bipush 7, 71, [], 7, []), (71, .ireturn, 72, [], 0, []), (72, .bipush 8, 74, [], 8, []), (74, .ireturn, 75, [], 0, [])]
/-- BlockFront.<init>()V -/
def am_c107 : List (Nat × Instr × Nat × List Nat × Int32 × List Int32) := [(0, .aload_n 0, 1, [], 0, []), (1, .invokespecial 3, 4, [], 0, []), (4, .new 9, 7, [], 0, []), (7, .dup, 8, [], 0, []), (8, .invokespecial 11, 11, [], 0, []), (11, .astore_n 1, 12, [], 0, []), (12, .new 12, 15, [], 0, []), (15, .dup, 16, [], 0, []), (16, .invokespecial 14, 19, [], 0, []), (19, .astore_n 2, 20, [], 0, []), (20, .new 15, 23, [], 0, []), (23, .dup, 24, [], 0, []), (24, .invokespecial 17, 27, [], 0, []), (27, .astore_n 3, 28, [], 0, []), (28, .new 18, 31, [], 0, []), (31, .dup, 32, [], 0, []), (32, .invokespecial 20, 35, [], 0, []), (35, .astore 4, 37, [], 0, []), (37, .aload_n 0, 38, [], 0, []), (38, .aload_n 1, 39, [], 0, []), (39, .putfield 21, 42, [], 0, []), (42, .aload_n 0, 43, [], 0, []), (43, .aload_n 2, 44, [], 0, []), (44, .putfield 25, 47, [], 0, []), (47, .aload_n 0, 48, [], 0, []), (48, .aload_n 3, 49, [], 0, []), (49, .putfield 29, 52, [], 0, []), (52, .aload_n 0, 53, [], 0, []), (53, .aload 4, 55, [], 0, []), (55, .putfield 33, 58, [], 0, []), (58, .aload_n 0, 59, [], 0, []), (59, .new 37, 62, [], 0, []), (62, .dup, 63, [], 0, []), (63, .aload_n 1, 64, [], 0, []), (64, .aload_n 3, 65, [], 0, []), (65, .aload_n 2, 66, [], 0, []), (66, .invokespecial 39, 69, [], 0, []), (69, .putfield 42, 72, [], 0, []), (72, .aload_n 0, 73, [], 0, []), (73, .new 46, 76, [], 0, []), (76, .dup, 77, [], 0, []), (77, .aload_n 3, 78, [], 0, []), (78, .aload 4, 80, [], 0, []), (80, .aload_n 2, 81, [], 0, []), (81, .invokespecial 48, 84, [], 0, []), (84, .putfield 51, 87, [], 0, []), (87, .aload_n 0, 88, [], 0, []), (88, .new 55, 91, [], 0, []), (91, .dup, 92, [], 0, []), (92, .aload_n 1, 93, [], 0, []), (93, .aload_n 3, 94, [], 0, []), (94, .aload 4, 96, [], 0, []), (96, .invokespecial 57, 99, [], 0, []), (99, .putfield 60, 102, [], 0, []), (102, .return_, 103, [], 0, [])]
/-- BlockFront.type(JI)I -/
def am_c108 : List (Nat × Instr × Nat × List Nat × Int32 × List Int32) := [(0, .iload_n 3, 1, [], 0, []), (1, .iconst 1, 2, [], 1, []), (2, .if_icmp .lt 9, 5, [11], 0, []), (5, .iload_n 3, 6, [], 0, []), (6, .bipush 8, 8, [], 8, []), (8, .if_icmp .le 13, 11, [21], 0, []), (11, .new 64, 14, [], 0, []), (14, .dup, 15, [], 0, []), (15, .ldc 66, 17, [], 0, []), (17, .invokespecial 68, 20, [], 0, []), (20, .athrow, 21, [], 0, []), (21, .iconst 0, 22, [], 0, []), (22, .istore 4, 24, [], 0, []), (24, .iload 4, 26, [], 0, []), (26, .iload_n 3, 27, [], 0, []), (27, .if_icmp .ge 31, 30, [58], 0, []), (30, .lload_n 1, 31, [], 0, []), (31, .iload 4, 33, [], 0, []), (33, .invokestatic 71, 36, [], 0, []), (36, .invokestatic 75, 39, [], 0, []), (39, .ifCond .ne 13, 42, [52], 0, []), (42, .new 64, 45, [], 0, []), (45, .dup, 46, [], 0, []), (46, .ldc 79, 48, [], 0, []), (48, .invokespecial 68, 51, [], 0, []), (51, .athrow, 52, [], 0, []), (52, .iinc 4 1, 55, [], 1, []), (55, .goto (-31), 58, [24], 0, []), (58, .aload_n 0, 59, [], 0, []), (59, .getfield 21, 62, [], 0, []), (62, .getfield 81, 65, [], 0, []), (65, .sipush 600, 68, [], 600, []), (68, .iload_n 3, 69, [], 0, []), (69, .isub, 70, [], 0, []), (70, .if_icmp .le 13, 73, [83], 0, []), (73, .new 85, 76, [], 0, []), (76, .dup, 77, [], 0, []), (77, .ldc 87, 79, [], 0, []), (79, .invokespecial 89, 82, [], 0, []), (82, .athrow, 83, [], 0, []), (83, .iconst 0, 84, [], 0, []), (84, .istore 4, 86, [], 0, []), (86, .iload 4, 88, [], 0, []), (88, .iload_n 3, 89, [], 0, []), (89, .if_icmp .ge 22, 92, [111], 0, []), (92, .aload_n 0, 93, [], 0, []), (93, .getfield 21, 96, [], 0, []), (96, .lload_n 1, 97, [], 0, []), (97, .iload 4, 99, [], 0, []), (99, .invokestatic 71, 102, [], 0, []), (102, .invokevirtual 90, 105, [], 0, []), (105, .iinc 4 1, 108, [], 1, []), (108, .goto (-22), 111, [86], 0, []), (111, .aload_n 0, 112, [], 0, []), (112, .getfield 21, 115, [], 0, []), (115, .getfield 81, 118, [], 0, []), (118, .ireturn, 119, [], 0, [])]
/-- BlockFront.clear()I -/
def am_c109 : List (Nat × Instr × Nat × List Nat × Int32 × List Int32) := [(0, .aload_n 0, 1, [], 0, []), (1, .getfield 21, 4, [], 0, []), (4, .getfield 81, 7, [], 0, []), (7, .istore_n 1, 8, [], 0, []), (8, .aload_n 0, 9, [], 0, []), (9, .getfield 21, 12, [], 0, []), (12, .iconst 0, 13, [], 0, []), (13, .putfield 81, 16, [], 0, []), (16, .iload_n 1, 17, [], 0, []), (17, .ireturn, 18, [], 0, [])]
/-- BlockFront.read()I -/
def am_c110 : List (Nat × Instr × Nat × List Nat × Int32 × List Int32) := [(0, .aload_n 0, 1, [], 0, []), (1, .getfield 25, 4, [], 0, []), (4, .invokevirtual 94, 7, [], 0, []), (7, .aload_n 0, 8, [], 0, []), (8, .invokevirtual 97, 11, [], 0, []), (11, .ifCond .ne 37, 14, [48], 0, []), (14, .aload_n 0, 15, [], 0, []), (15, .getfield 29, 18, [], 0, []), (18, .iconst 0, 19, [], 0, []), (19, .putfield 101, 22, [], 0, []), (22, .aload_n 0, 23, [], 0, []), (23, .getfield 33, 26, [], 0, []), (26, .iconst 0, 27, [], 0, []), (27, .putfield 102, 30, [], 0, []), (30, .aload_n 0, 31, [], 0, []), (31, .getfield 60, 34, [], 0, []), (34, .iconst 0, 35, [], 0, []), (35, .putfield 103, 38, [], 0, []), (38, .new 104, 41, [], 0, []), (41, .dup, 42, [], 0, []), (42, .ldc 106, 44, [], 0, []), (44, .invokespecial 108, 47, [], 0, []), (47, .athrow, 48, [], 0, []), (48, .aload_n 0, 49, [], 0, []), (49, .getfield 60, 52, [], 0, []), (52, .invokevirtual 109, 55, [], 0, []), (55, .aload_n 0, 56, [], 0, []), (56, .getfield 29, 59, [], 0, []), (59, .getfield 101, 62, [], 0, []), (62, .ireturn, 63, [], 0, [])]
/-- BlockFront.why()I -/
def am_c111 : List (Nat × Instr × Nat × List Nat × Int32 × List Int32) := [(0, .aload_n 0, 1, [], 0, []), (1, .getfield 25, 4, [], 0, []), (4, .getfield 112, 7, [], 0, []), (7, .ireturn, 8, [], 0, [])]
/-- BlockFront.where()I -/
def am_c112 : List (Nat × Instr × Nat × List Nat × Int32 × List Int32) := [(0, .aload_n 0, 1, [], 0, []), (1, .getfield 25, 4, [], 0, []), (4, .getfield 115, 7, [], 0, []), (7, .ireturn, 8, [], 0, [])]
/-- BlockFront.token(II)I -/
def am_c113 : List (Nat × Instr × Nat × List Nat × Int32 × List Int32) := [(0, .iload_n 1, 1, [], 0, []), (1, .ifCond .lt 23, 4, [24], 0, []), (4, .iload_n 1, 5, [], 0, []), (5, .aload_n 0, 6, [], 0, []), (6, .getfield 29, 9, [], 0, []), (9, .getfield 101, 12, [], 0, []), (12, .if_icmp .ge 12, 15, [24], 0, []), (15, .iload_n 2, 16, [], 0, []), (16, .ifCond .lt 8, 19, [24], 0, []), (19, .iload_n 2, 20, [], 0, []), (20, .iconst 2, 21, [], 2, []), (21, .if_icmp .le 13, 24, [34], 0, []), (24, .new 118, 27, [], 0, []), (27, .dup, 28, [], 0, []), (28, .ldc 120, 30, [], 0, []), (30, .invokespecial 122, 33, [], 0, []), (33, .athrow, 34, [], 0, []), (34, .iload_n 2, 35, [], 0, []), (35, .ifCond .ne 12, 38, [47], 0, []), (38, .aload_n 0, 39, [], 0, []), (39, .getfield 29, 42, [], 0, []), (42, .iload_n 1, 43, [], 0, []), (43, .invokevirtual 123, 46, [], 0, []), (46, .ireturn, 47, [], 0, []), (47, .iload_n 2, 48, [], 0, []), (48, .iconst 1, 49, [], 1, []), (49, .if_icmp .ne 14, 52, [63], 0, []), (52, .aload_n 0, 53, [], 0, []), (53, .getfield 29, 56, [], 0, []), (56, .iload_n 1, 57, [], 0, []), (57, .invokevirtual 127, 60, [], 0, []), (60, .goto 11, 63, [71], 0, []), (63, .aload_n 0, 64, [], 0, []), (64, .getfield 29, 67, [], 0, []), (67, .iload_n 1, 68, [], 0, []), (68, .invokevirtual 130, 71, [], 0, []), (71, .ireturn, 72, [], 0, [])]
/-- BlockFront.nodes()I -/
def am_c114 : List (Nat × Instr × Nat × List Nat × Int32 × List Int32) := [(0, .aload_n 0, 1, [], 0, []), (1, .getfield 33, 4, [], 0, []), (4, .getfield 102, 7, [], 0, []), (7, .ireturn, 8, [], 0, [])]
/-- BlockFront.node(II)I -/
def am_c115 : List (Nat × Instr × Nat × List Nat × Int32 × List Int32) := [(0, .iload_n 1, 1, [], 0, []), (1, .ifCond .lt 23, 4, [24], 0, []), (4, .iload_n 1, 5, [], 0, []), (5, .aload_n 0, 6, [], 0, []), (6, .getfield 33, 9, [], 0, []), (9, .getfield 102, 12, [], 0, []), (12, .if_icmp .ge 12, 15, [24], 0, []), (15, .iload_n 2, 16, [], 0, []), (16, .ifCond .lt 8, 19, [24], 0, []), (19, .iload_n 2, 20, [], 0, []), (20, .iconst 2, 21, [], 2, []), (21, .if_icmp .le 13, 24, [34], 0, []), (24, .new 118, 27, [], 0, []), (27, .dup, 28, [], 0, []), (28, .ldc 133, 30, [], 0, []), (30, .invokespecial 122, 33, [], 0, []), (33, .athrow, 34, [], 0, []), (34, .aload_n 0, 35, [], 0, []), (35, .getfield 33, 38, [], 0, []), (38, .iload_n 1, 39, [], 0, []), (39, .invokevirtual 135, 42, [], 0, []), (42, .istore_n 3, 43, [], 0, []), (43, .iload_n 2, 44, [], 0, []), (44, .ifCond .ne 12, 47, [56], 0, []), (47, .aload_n 0, 48, [], 0, []), (48, .getfield 33, 51, [], 0, []), (51, .iload_n 3, 52, [], 0, []), (52, .invokevirtual 138, 55, [], 0, []), (55, .ireturn, 56, [], 0, []), (56, .iload_n 2, 57, [], 0, []), (57, .iconst 1, 58, [], 1, []), (58, .if_icmp .ne 14, 61, [72], 0, []), (61, .aload_n 0, 62, [], 0, []), (62, .getfield 33, 65, [], 0, []), (65, .iload_n 3, 66, [], 0, []), (66, .invokevirtual 141, 69, [], 0, []), (69, .goto 11, 72, [80], 0, []), (72, .aload_n 0, 73, [], 0, []), (73, .getfield 33, 76, [], 0, []), (76, .iload_n 3, 77, [], 0, []), (77, .invokevirtual 144, 80, [], 0, []), (80, .ireturn, 81, [], 0, [])]
/-- BlockFront.length()I -/
def am_c116 : List (Nat × Instr × Nat × List Nat × Int32 × List Int32) := [(0, .aload_n 0, 1, [], 0, []), (1, .getfield 60, 4, [], 0, []), (4, .getfield 103, 7, [], 0, []), (7, .ireturn, 8, [], 0, [])]
/-- BlockFront.output(I)C -/
def am_c117 : List (Nat × Instr × Nat × List Nat × Int32 × List Int32) := [(0, .iload_n 1, 1, [], 0, []), (1, .ifCond .lt 14, 4, [15], 0, []), (4, .iload_n 1, 5, [], 0, []), (5, .aload_n 0, 6, [], 0, []), (6, .getfield 60, 9, [], 0, []), (9, .getfield 103, 12, [], 0, []), (12, .if_icmp .lt 13, 15, [25], 0, []), (15, .new 118, 18, [], 0, []), (18, .dup, 19, [], 0, []), (19, .ldc 147, 21, [], 0, []), (21, .invokespecial 122, 24, [], 0, []), (24, .athrow, 25, [], 0, []), (25, .aload_n 0, 26, [], 0, []), (26, .getfield 60, 29, [], 0, []), (29, .iload_n 1, 30, [], 0, []), (30, .invokevirtual 149, 33, [], 0, []), (33, .ireturn, 34, [], 0, [])]
/-- BlockFront.isAccepted()Z -/
def am_c118 : List (Nat × Instr × Nat × List Nat × Int32 × List Int32) := [(0, .aload_n 0, 1, [], 0, []), (1, .getfield 42, 4, [], 0, []), (4, .invokevirtual 153, 7, [], 0, []), (7, .aload_n 0, 8, [], 0, []), (8, .getfield 51, 11, [], 0, []), (11, .invokevirtual 156, 14, [], 0, []), (14, .aload_n 0, 15, [], 0, []), (15, .getfield 51, 18, [], 0, []), (18, .bipush 9, 20, [], 9, []), (20, .iconst 0, 21, [], 0, []), (21, .invokevirtual 159, 24, [], 0, []), (24, .pop, 25, [], 0, []), (25, .aload_n 0, 26, [], 0, []), (26, .getfield 33, 29, [], 0, []), (29, .invokevirtual 163, 32, [], 0, []), (32, .iconst 1, 33, [], 1, []), (33, .ireturn, 34, [], 0, []), (34, .astore_n 1, 35, [], 0, []), (35, .iconst 0, 36, [], 0, []), (36, .ireturn, 37, [], 0, [])]
/-- BlockFront.byteAt(JI)C -/
def am_c119 : List (Nat × Instr × Nat × List Nat × Int32 × List Int32) := [(0, .lload_n 0, 1, [], 0, []), (1, .bipush 8, 3, [], 8, []), (3, .iload_n 2, 4, [], 0, []), (4, .imul, 5, [], 0, []), (5, .lushr, 6, [], 0, []), (6, .ldc2_w 166, 9, [], 0, []), (9, .land, 10, [], 0, []), (10, .l2i, 11, [], 0, []), (11, .i2c, 12, [], 0, []), (12, .ireturn, 13, [], 0, [])]
/-- BlockFront.isCharacter(C)Z -/
def am_c120 : List (Nat × Instr × Nat × List Nat × Int32 × List Int32) := [(0, .iload_n 0, 1, [], 0, []), (1, .bipush 9, 3, [], 9, []), (3, .if_icmp .eq 21, 6, [24], 0, []), (6, .iload_n 0, 7, [], 0, []), (7, .bipush 10, 9, [], 10, []), (9, .if_icmp .eq 15, 12, [24], 0, []), (12, .iload_n 0, 13, [], 0, []), (13, .bipush 32, 15, [], 32, []), (15, .if_icmp .lt 13, 18, [28], 0, []), (18, .iload_n 0, 19, [], 0, []), (19, .bipush 126, 21, [], 126, []), (21, .if_icmp .gt 7, 24, [28], 0, []), (24, .iconst 1, 25, [], 1, []), (25, .goto 4, 28, [29], 0, []), (28, .iconst 0, 29, [], 0, []), (29, .ireturn, 30, [], 0, [])]
/-- BlockFront.isBlank(C)Z -/
def am_c121 : List (Nat × Instr × Nat × List Nat × Int32 × List Int32) := [(0, .iload_n 0, 1, [], 0, []), (1, .bipush 32, 3, [], 32, []), (3, .if_icmp .eq 9, 6, [12], 0, []), (6, .iload_n 0, 7, [], 0, []), (7, .bipush 9, 9, [], 9, []), (9, .if_icmp .ne 7, 12, [16], 0, []), (12, .iconst 1, 13, [], 1, []), (13, .goto 4, 16, [17], 0, []), (16, .iconst 0, 17, [], 0, []), (17, .ireturn, 18, [], 0, [])]
/-- BlockFront.isDigit(C)Z -/
def am_c122 : List (Nat × Instr × Nat × List Nat × Int32 × List Int32) := [(0, .iload_n 0, 1, [], 0, []), (1, .bipush 48, 3, [], 48, []), (3, .if_icmp .lt 13, 6, [16], 0, []), (6, .iload_n 0, 7, [], 0, []), (7, .bipush 57, 9, [], 57, []), (9, .if_icmp .gt 7, 12, [16], 0, []), (12, .iconst 1, 13, [], 1, []), (13, .goto 4, 16, [17], 0, []), (16, .iconst 0, 17, [], 0, []), (17, .ireturn, 18, [], 0, [])]
/-- BlockFront.beginsName(C)Z -/
def am_c123 : List (Nat × Instr × Nat × List Nat × Int32 × List Int32) := [(0, .iload_n 0, 1, [], 0, []), (1, .bipush 97, 3, [], 97, []), (3, .if_icmp .lt 9, 6, [12], 0, []), (6, .iload_n 0, 7, [], 0, []), (7, .bipush 122, 9, [], 122, []), (9, .if_icmp .le 21, 12, [30], 0, []), (12, .iload_n 0, 13, [], 0, []), (13, .bipush 65, 15, [], 65, []), (15, .if_icmp .lt 9, 18, [24], 0, []), (18, .iload_n 0, 19, [], 0, []), (19, .bipush 90, 21, [], 90, []), (21, .if_icmp .le 9, 24, [30], 0, []), (24, .iload_n 0, 25, [], 0, []), (25, .bipush 95, 27, [], 95, []), (27, .if_icmp .ne 7, 30, [34], 0, []), (30, .iconst 1, 31, [], 1, []), (31, .goto 4, 34, [35], 0, []), (34, .iconst 0, 35, [], 0, []), (35, .ireturn, 36, [], 0, [])]
/-- BlockFront.strengthBetween(I)I -/
def am_c124 : List (Nat × Instr × Nat × List Nat × Int32 × List Int32) := [(0, .iload_n 0, 1, [], 0, []), (1, .lookupswitch 126 #[(19, 117), (20, 115), (37, 123), (42, 123), (43, 121), (45, 121), (47, 123), (60, 119), (62, 119), (161, 119), (188, 119), (189, 119), (190, 119)], 116, [127, 118, 116, 124, 124, 122, 122, 124, 120, 120, 120, 120, 120, 120], 0, [19, 20, 37, 42, 43, 45, 47, 60, 62, 161, 188, 189, 190]), (116, .iconst 1, 117, [], 1, []), (117, .ireturn, 118, [], 0, []), (118, .iconst 2, 119, [], 2, []), (119, .ireturn, 120, [], 0, []), (120, .iconst 4, 121, [], 4, []), (121, .ireturn, 122, [], 0, []), (122, .iconst 5, 123, [], 5, []), (123, .ireturn, 124, [], 0, []), (124, .bipush 6, 126, [], 6, []), (126, .ireturn, 127, [], 0, []), (127, .iconst 0, 128, [], 0, []), (128, .ireturn, 129, [], 0, [])]
/-- BlockFront.kindBetween(I)I -/
def am_c125 : List (Nat × Instr × Nat × List Nat × Int32 × List Int32) := [(0, .iload_n 0, 1, [], 0, []), (1, .tableswitch 40 1 4 #[31, 34, 40, 37], 32, [41, 32, 35, 41, 38], 0, [1, 2, 3, 4]), (32, .bipush 11, 34, [], 11, []), (34, .ireturn, 35, [], 0, []), (35, .bipush 12, 37, [], 12, []), (37, .ireturn, 38, [], 0, []), (38, .bipush 14, 40, [], 14, []), (40, .ireturn, 41, [], 0, []), (41, .bipush 15, 43, [], 15, []), (43, .ireturn, 44, [], 0, [])]
/-- BlockFrontModel.<init>()V -/
def am_c126 : List (Nat × Instr × Nat × List Nat × Int32 × List Int32) := [(0, .aload_n 0, 1, [], 0, []), (1, .invokespecial 1, 4, [], 0, []), (4, .aload_n 0, 5, [], 0, []), (5, .sipush 600, 8, [], 600, []), (8, .newarray .int, 10, [], 0, []), (10, .putfield 7, 13, [], 0, []), (13, .aload_n 0, 14, [], 0, []), (14, .iconst (-1), 15, [], (-1), []), (15, .putfield 13, 18, [], 0, []), (18, .aload_n 0, 19, [], 0, []), (19, .sipush 600, 22, [], 600, []), (22, .newarray .int, 24, [], 0, []), (24, .putfield 17, 27, [], 0, []), (27, .aload_n 0, 28, [], 0, []), (28, .bipush 120, 30, [], 120, []), (30, .newarray .int, 32, [], 0, []), (32, .putfield 20, 35, [], 0, []), (35, .aload_n 0, 36, [], 0, []), (36, .bipush 120, 38, [], 120, []), (38, .newarray .int, 40, [], 0, []), (40, .putfield 23, 43, [], 0, []), (43, .aload_n 0, 44, [], 0, []), (44, .bipush 120, 46, [], 120, []), (46, .newarray .int, 48, [], 0, []), (48, .putfield 26, 51, [], 0, []), (51, .aload_n 0, 52, [], 0, []), (52, .bipush 120, 54, [], 120, []), (54, .newarray .long, 56, [], 0, []), (56, .putfield 29, 59, [], 0, []), (59, .aload_n 0, 60, [], 0, []), (60, .bipush 9, 62, [], 9, []), (62, .newarray .int, 64, [], 0, []), (64, .putfield 33, 67, [], 0, []), (67, .aload_n 0, 68, [], 0, []), (68, .bipush 9, 70, [], 9, []), (70, .newarray .int, 72, [], 0, []), (72, .putfield 36, 75, [], 0, []), (75, .aload_n 0, 76, [], 0, []), (76, .bipush 8, 78, [], 8, []), (78, .newarray .int, 80, [], 0, []), (80, .putfield 39, 83, [], 0, []), (83, .aload_n 0, 84, [], 0, []), (84, .sipush 400, 87, [], 400, []), (87, .newarray .int, 89, [], 0, []), (89, .putfield 42, 92, [], 0, []), (92, .aload_n 0, 93, [], 0, []), (93, .sipush 400, 96, [], 400, []), (96, .newarray .int, 98, [], 0, []), (98, .putfield 45, 101, [], 0, []), (101, .aload_n 0, 102, [], 0, []), (102, .sipush 400, 105, [], 400, []), (105, .newarray .int, 107, [], 0, []), (107, .putfield 48, 110, [], 0, []), (110, .aload_n 0, 111, [], 0, []), (111, .sipush 400, 114, [], 400, []), (114, .newarray .int, 116, [], 0, []), (116, .putfield 51, 119, [], 0, []), (119, .aload_n 0, 120, [], 0, []), (120, .sipush 400, 123, [], 400, []), (123, .newarray .int, 125, [], 0, []), (125, .putfield 54, 128, [], 0, []), (128, .aload_n 0, 129, [], 0, []), (129, .sipush 400, 132, [], 400, []), (132, .newarray .int, 134, [], 0, []), (134, .putfield 57, 137, [], 0, []), (137, .aload_n 0, 138, [], 0, []), (138, .sipush 400, 141, [], 400, []), (141, .newarray .int, 143, [], 0, []), (143, .putfield 60, 146, [], 0, []), (146, .aload_n 0, 147, [], 0, []), (147, .sipush 400, 150, [], 400, []), (150, .newarray .int, 152, [], 0, []), (152, .putfield 63, 155, [], 0, []), (155, .aload_n 0, 156, [], 0, []), (156, .sipush 400, 159, [], 400, []), (159, .newarray .int, 161, [], 0, []), (161, .putfield 66, 164, [], 0, []), (164, .aload_n 0, 165, [], 0, []), (165, .bipush 12, 167, [], 12, []), (167, .newarray .int, 169, [], 0, []), (169, .putfield 69, 172, [], 0, []), (172, .aload_n 0, 173, [], 0, []), (173, .bipush 12, 175, [], 12, []), (175, .newarray .int, 177, [], 0, []), (177, .putfield 72, 180, [], 0, []), (180, .aload_n 0, 181, [], 0, []), (181, .bipush 12, 183, [], 12, []), (183, .newarray .int, 185, [], 0, []), (185, .putfield 75, 188, [], 0, []), (188, .aload_n 0, 189, [], 0, []), (189, .bipush 16, 191, [], 16, []), (191, .newarray .int, 193, [], 0, []), (193, .putfield 78, 196, [], 0, []), (196, .aload_n 0, 197, [], 0, []), (197, .sipush 3000, 200, [], 3000, []), (200, .newarray .int, 202, [], 0, []), (202, .putfield 81, 205, [], 0, []), (205, .aload_n 0, 206, [], 0, []), (206, .bipush 16, 208, [], 16, []), (208, .newarray .int, 210, [], 0, []), (210, .putfield 84, 213, [], 0, []), (213, .aload_n 0, 214, [], 0, []), (214, .bipush 16, 216, [], 16, []), (216, .newarray .int, 218, [], 0, []), (218, .putfield 87, 221, [], 0, []), (221, .aload_n 0, 222, [], 0, []), (222, .bipush 16, 224, [], 16, []), (224, .newarray .boolean, 226, [], 0, []), (226, .putfield 90, 229, [], 0, []), (229, .return_, 230, [], 0, [])]
/-- BlockFrontModel.thrown()I -/
def am_c127 : List (Nat × Instr × Nat × List Nat × Int32 × List Int32) := [(0, .aload_n 0, 1, [], 0, []), (1, .getfield 94, 4, [], 0, []), (4, .ireturn, 5, [], 0, [])]
/-- BlockFrontModel.isCharacter(I)Z -/
def am_c128 : List (Nat × Instr × Nat × List Nat × Int32 × List Int32) := [(0, .iload_n 0, 1, [], 0, []), (1, .bipush 9, 3, [], 9, []), (3, .if_icmp .eq 21, 6, [24], 0, []), (6, .iload_n 0, 7, [], 0, []), (7, .bipush 10, 9, [], 10, []), (9, .if_icmp .eq 15, 12, [24], 0, []), (12, .iload_n 0, 13, [], 0, []), (13, .bipush 32, 15, [], 32, []), (15, .if_icmp .lt 13, 18, [28], 0, []), (18, .iload_n 0, 19, [], 0, []), (19, .bipush 126, 21, [], 126, []), (21, .if_icmp .gt 7, 24, [28], 0, []), (24, .iconst 1, 25, [], 1, []), (25, .goto 4, 28, [29], 0, []), (28, .iconst 0, 29, [], 0, []), (29, .ireturn, 30, [], 0, [])]
/-- BlockFrontModel.type(JI)I -/
def am_c129 : List (Nat × Instr × Nat × List Nat × Int32 × List Int32) := [(0, .iload_n 3, 1, [], 0, []), (1, .iconst 1, 2, [], 1, []), (2, .if_icmp .lt 13, 5, [15], 0, []), (5, .iload_n 3, 6, [], 0, []), (6, .bipush 8, 8, [], 8, []), (8, .if_icmp .gt 7, 11, [15], 0, []), (11, .iconst 1, 12, [], 1, []), (12, .goto 4, 15, [16], 0, []), (15, .iconst 0, 16, [], 0, []), (16, .istore 4, 18, [], 0, []), (18, .iconst 0, 19, [], 0, []), (19, .istore 5, 21, [], 0, []), (21, .iload 5, 23, [], 0, []), (23, .iload_n 3, 24, [], 0, []), (24, .if_icmp .ge 31, 27, [55], 0, []), (27, .iload 4, 29, [], 0, []), (29, .ifCond .eq 26, 32, [55], 0, []), (32, .lload_n 1, 33, [], 0, []), (33, .bipush 8, 35, [], 8, []), (35, .iload 5, 37, [], 0, []), (37, .imul, 38, [], 0, []), (38, .lshr, 39, [], 0, []), (39, .ldc2_w 97, 42, [], 0, []), (42, .land, 43, [], 0, []), (43, .l2i, 44, [], 0, []), (44, .invokestatic 99, 47, [], 0, []), (47, .istore 4, 49, [], 0, []), (49, .iinc 5 1, 52, [], 1, []), (52, .goto (-31), 55, [21], 0, []), (55, .aload_n 0, 56, [], 0, []), (56, .iload 4, 58, [], 0, []), (58, .ifCond .ne 7, 61, [65], 0, []), (61, .iconst 1, 62, [], 1, []), (62, .goto 20, 65, [82], 0, []), (65, .aload_n 0, 66, [], 0, []), (66, .getfield 103, 69, [], 0, []), (69, .iload_n 3, 70, [], 0, []), (70, .iadd, 71, [], 0, []), (71, .sipush 600, 74, [], 600, []), (74, .if_icmp .le 7, 77, [81], 0, []), (77, .iconst 2, 78, [], 2, []), (78, .goto 4, 81, [82], 0, []), (81, .iconst 0, 82, [], 0, []), (82, .putfield 94, 85, [], 0, []), (85, .aload_n 0, 86, [], 0, []), (86, .getfield 94, 89, [], 0, []), (89, .ifCond .le 5, 92, [94], 0, []), (92, .iconst 0, 93, [], 0, []), (93, .ireturn, 94, [], 0, []), (94, .iconst 0, 95, [], 0, []), (95, .istore 5, 97, [], 0, []), (97, .iload 5, 99, [], 0, []), (99, .iload_n 3, 100, [], 0, []), (100, .if_icmp .ge 33, 103, [133], 0, []), (103, .aload_n 0, 104, [], 0, []), (104, .getfield 7, 107, [], 0, []), (107, .aload_n 0, 108, [], 0, []), (108, .getfield 103, 111, [], 0, []), (111, .iload 5, 113, [], 0, []), (113, .iadd, 114, [], 0, []), (114, .lload_n 1, 115, [], 0, []), (115, .bipush 8, 117, [], 8, []), (117, .iload 5, 119, [], 0, []), (119, .imul, 120, [], 0, []), (120, .lshr, 121, [], 0, []), (121, .ldc2_w 97, 124, [], 0, []), (124, .land, 125, [], 0, []), (125, .l2i, 126, [], 0, []), (126, .iastore, 127, [], 0, []), (127, .iinc 5 1, 130, [], 1, []), (130, .goto (-33), 133, [97], 0, []), (133, .aload_n 0, 134, [], 0, []), (134, .dup, 135, [], 0, []), (135, .getfield 103, 138, [], 0, []), (138, .iload_n 3, 139, [], 0, []), (139, .iadd, 140, [], 0, []), (140, .putfield 103, 143, [], 0, []), (143, .aload_n 0, 144, [], 0, []), (144, .getfield 103, 147, [], 0, []), (147, .ireturn, 148, [], 0, [])]
/-- BlockFrontModel.clear()I -/
def am_c130 : List (Nat × Instr × Nat × List Nat × Int32 × List Int32) := [(0, .aload_n 0, 1, [], 0, []), (1, .iconst 0, 2, [], 0, []), (2, .putfield 94, 5, [], 0, []), (5, .aload_n 0, 6, [], 0, []), (6, .getfield 103, 9, [], 0, []), (9, .istore_n 1, 10, [], 0, []), (10, .aload_n 0, 11, [], 0, []), (11, .iconst 0, 12, [], 0, []), (12, .putfield 103, 15, [], 0, []), (15, .iload_n 1, 16, [], 0, []), (16, .ireturn, 17, [], 0, [])]
/-- BlockFrontModel.fault(II)Z -/
def am_c131 : List (Nat × Instr × Nat × List Nat × Int32 × List Int32) := [(0, .aload_n 0, 1, [], 0, []), (1, .iload_n 1, 2, [], 0, []), (2, .putfield 106, 5, [], 0, []), (5, .aload_n 0, 6, [], 0, []), (6, .iload_n 2, 7, [], 0, []), (7, .putfield 13, 10, [], 0, []), (10, .iconst 0, 11, [], 0, []), (11, .ireturn, 12, [], 0, [])]
/-- BlockFrontModel.character(I)I -/
def am_c132 : List (Nat × Instr × Nat × List Nat × Int32 × List Int32) := [(0, .iload_n 1, 1, [], 0, []), (1, .aload_n 0, 2, [], 0, []), (2, .getfield 109, 5, [], 0, []), (5, .if_icmp .ge 12, 8, [17], 0, []), (8, .aload_n 0, 9, [], 0, []), (9, .getfield 17, 12, [], 0, []), (12, .iload_n 1, 13, [], 0, []), (13, .iaload, 14, [], 0, []), (14, .goto 4, 17, [18], 0, []), (17, .iconst (-1), 18, [], (-1), []), (18, .ireturn, 19, [], 0, [])]
/-- BlockFrontModel.isBlank(I)Z -/
def am_c133 : List (Nat × Instr × Nat × List Nat × Int32 × List Int32) := [(0, .iload_n 0, 1, [], 0, []), (1, .bipush 32, 3, [], 32, []), (3, .if_icmp .eq 9, 6, [12], 0, []), (6, .iload_n 0, 7, [], 0, []), (7, .bipush 9, 9, [], 9, []), (9, .if_icmp .ne 7, 12, [16], 0, []), (12, .iconst 1, 13, [], 1, []), (13, .goto 4, 16, [17], 0, []), (16, .iconst 0, 17, [], 0, []), (17, .ireturn, 18, [], 0, [])]
/-- BlockFrontModel.isDigit(I)Z -/
def am_c134 : List (Nat × Instr × Nat × List Nat × Int32 × List Int32) := [(0, .iload_n 0, 1, [], 0, []), (1, .bipush 48, 3, [], 48, []), (3, .if_icmp .lt 13, 6, [16], 0, []), (6, .iload_n 0, 7, [], 0, []), (7, .bipush 57, 9, [], 57, []), (9, .if_icmp .gt 7, 12, [16], 0, []), (12, .iconst 1, 13, [], 1, []), (13, .goto 4, 16, [17], 0, []), (16, .iconst 0, 17, [], 0, []), (17, .ireturn, 18, [], 0, [])]
/-- BlockFrontModel.isLetter(I)Z -/
def am_c135 : List (Nat × Instr × Nat × List Nat × Int32 × List Int32) := [(0, .iload_n 0, 1, [], 0, []), (1, .bipush 97, 3, [], 97, []), (3, .if_icmp .lt 9, 6, [12], 0, []), (6, .iload_n 0, 7, [], 0, []), (7, .bipush 122, 9, [], 122, []), (9, .if_icmp .le 21, 12, [30], 0, []), (12, .iload_n 0, 13, [], 0, []), (13, .bipush 65, 15, [], 65, []), (15, .if_icmp .lt 9, 18, [24], 0, []), (18, .iload_n 0, 19, [], 0, []), (19, .bipush 90, 21, [], 90, []), (21, .if_icmp .le 9, 24, [30], 0, []), (24, .iload_n 0, 25, [], 0, []), (25, .bipush 95, 27, [], 95, []), (27, .if_icmp .ne 7, 30, [34], 0, []), (30, .iconst 1, 31, [], 1, []), (31, .goto 4, 34, [35], 0, []), (34, .iconst 0, 35, [], 0, []), (35, .ireturn, 36, [], 0, [])]
/-- BlockFrontModel.add(IIIJ)Z -/
def am_c136 : List (Nat × Instr × Nat × List Nat × Int32 × List Int32) := [(0, .aload_n 0, 1, [], 0, []), (1, .getfield 112, 4, [], 0, []), (4, .bipush 120, 6, [], 120, []), (6, .if_icmp .ne 11, 9, [17], 0, []), (9, .aload_n 0, 10, [], 0, []), (10, .bipush 8, 12, [], 8, []), (12, .iload_n 2, 13, [], 0, []), (13, .invokevirtual 115, 16, [], 0, []), (16, .ireturn, 17, [], 0, []), (17, .aload_n 0, 18, [], 0, []), (18, .getfield 20, 21, [], 0, []), (21, .aload_n 0, 22, [], 0, []), (22, .getfield 112, 25, [], 0, []), (25, .iload_n 1, 26, [], 0, []), (26, .iastore, 27, [], 0, []), (27, .aload_n 0, 28, [], 0, []), (28, .getfield 23, 31, [], 0, []), (31, .aload_n 0, 32, [], 0, []), (32, .getfield 112, 35, [], 0, []), (35, .iload_n 2, 36, [], 0, []), (36, .iastore, 37, [], 0, []), (37, .aload_n 0, 38, [], 0, []), (38, .getfield 26, 41, [], 0, []), (41, .aload_n 0, 42, [], 0, []), (42, .getfield 112, 45, [], 0, []), (45, .iload_n 3, 46, [], 0, []), (46, .iastore, 47, [], 0, []), (47, .aload_n 0, 48, [], 0, []), (48, .getfield 29, 51, [], 0, []), (51, .aload_n 0, 52, [], 0, []), (52, .getfield 112, 55, [], 0, []), (55, .lload 4, 57, [], 0, []), (57, .lastore, 58, [], 0, []), (58, .aload_n 0, 59, [], 0, []), (59, .dup, 60, [], 0, []), (60, .getfield 112, 63, [], 0, []), (63, .iconst 1, 64, [], 1, []), (64, .iadd, 65, [], 0, []), (65, .putfield 112, 68, [], 0, []), (68, .iconst 1, 69, [], 1, []), (69, .ireturn, 70, [], 0, [])]
/-- BlockFrontModel.lineEnd(I)I -/
def am_c137 : List (Nat × Instr × Nat × List Nat × Int32 × List Int32) := [(0, .iload_n 1, 1, [], 0, []), (1, .istore_n 2, 2, [], 0, []), (2, .iload_n 2, 3, [], 0, []), (3, .aload_n 0, 4, [], 0, []), (4, .getfield 109, 7, [], 0, []), (7, .if_icmp .ge 20, 10, [27], 0, []), (10, .aload_n 0, 11, [], 0, []), (11, .getfield 17, 14, [], 0, []), (14, .iload_n 2, 15, [], 0, []), (15, .iaload, 16, [], 0, []), (16, .bipush 10, 18, [], 10, []), (18, .if_icmp .eq 9, 21, [27], 0, []), (21, .iinc 2 1, 24, [], 1, []), (24, .goto (-22), 27, [2], 0, []), (27, .iload_n 2, 28, [], 0, []), (28, .ireturn, 29, [], 0, [])]
/-- BlockFrontModel.compare(I)Z -/
def am_c138 : List (Nat × Instr × Nat × List Nat × Int32 × List Int32) := [(0, .aload_n 0, 1, [], 0, []), (1, .getfield 119, 4, [], 0, []), (4, .iconst 1, 5, [], 1, []), (5, .isub, 6, [], 0, []), (6, .istore_n 2, 7, [], 0, []), (7, .aload_n 0, 8, [], 0, []), (8, .getfield 122, 11, [], 0, []), (11, .aload_n 0, 12, [], 0, []), (12, .getfield 33, 15, [], 0, []), (15, .iload_n 2, 16, [], 0, []), (16, .iaload, 17, [], 0, []), (17, .if_icmp .ne 31, 20, [48], 0, []), (20, .aload_n 0, 21, [], 0, []), (21, .getfield 125, 24, [], 0, []), (24, .aload_n 0, 25, [], 0, []), (25, .getfield 36, 28, [], 0, []), (28, .iload_n 2, 29, [], 0, []), (29, .iaload, 30, [], 0, []), (30, .if_icmp .eq 12, 33, [42], 0, []), (33, .aload_n 0, 34, [], 0, []), (34, .iconst 1, 35, [], 1, []), (35, .iload_n 1, 36, [], 0, []), (36, .invokevirtual 115, 39, [], 0, []), (39, .ifCond .eq 7, 42, [46], 0, []), (42, .iconst 1, 43, [], 1, []), (43, .goto 4, 46, [47], 0, []), (46, .iconst 0, 47, [], 0, []), (47, .ireturn, 48, [], 0, []), (48, .aload_n 0, 49, [], 0, []), (49, .getfield 122, 52, [], 0, []), (52, .aload_n 0, 53, [], 0, []), (53, .getfield 33, 56, [], 0, []), (56, .iload_n 2, 57, [], 0, []), (57, .iaload, 58, [], 0, []), (58, .if_icmp .le 85, 61, [143], 0, []), (61, .aload_n 0, 62, [], 0, []), (62, .getfield 125, 65, [], 0, []), (65, .aload_n 0, 66, [], 0, []), (66, .getfield 36, 69, [], 0, []), (69, .iload_n 2, 70, [], 0, []), (70, .iaload, 71, [], 0, []), (71, .if_icmp .gt 10, 74, [81], 0, []), (74, .aload_n 0, 75, [], 0, []), (75, .iconst 1, 76, [], 1, []), (76, .iload_n 1, 77, [], 0, []), (77, .invokevirtual 115, 80, [], 0, []), (80, .ireturn, 81, [], 0, []), (81, .aload_n 0, 82, [], 0, []), (82, .getfield 119, 85, [], 0, []), (85, .bipush 9, 87, [], 9, []), (87, .if_icmp .ne 10, 90, [97], 0, []), (90, .aload_n 0, 91, [], 0, []), (91, .iconst 3, 92, [], 3, []), (92, .iload_n 1, 93, [], 0, []), (93, .invokevirtual 115, 96, [], 0, []), (96, .ireturn, 97, [], 0, []), (97, .aload_n 0, 98, [], 0, []), (98, .getfield 33, 101, [], 0, []), (101, .aload_n 0, 102, [], 0, []), (102, .getfield 119, 105, [], 0, []), (105, .aload_n 0, 106, [], 0, []), (106, .getfield 122, 109, [], 0, []), (109, .iastore, 110, [], 0, []), (110, .aload_n 0, 111, [], 0, []), (111, .getfield 36, 114, [], 0, []), (114, .aload_n 0, 115, [], 0, []), (115, .getfield 119, 118, [], 0, []), (118, .aload_n 0, 119, [], 0, []), (119, .getfield 125, 122, [], 0, []), (122, .iastore, 123, [], 0, []), (123, .aload_n 0, 124, [], 0, []), (124, .dup, 125, [], 0, []), (125, .getfield 119, 128, [], 0, []), (128, .iconst 1, 129, [], 1, []), (129, .iadd, 130, [], 0, []), (130, .putfield 119, 133, [], 0, []), (133, .aload_n 0, 134, [], 0, []), (134, .bipush 7, 136, [], 7, []), (136, .iload_n 1, 137, [], 0, []), (137, .iconst 0, 138, [], 0, []), (138, .lconst 0, 139, [], 0, []), (139, .invokevirtual 128, 142, [], 0, []), (142, .ireturn, 143, [], 0, []), (143, .aload_n 0, 144, [], 0, []), (144, .getfield 122, 147, [], 0, []), (147, .aload_n 0, 148, [], 0, []), (148, .getfield 33, 151, [], 0, []), (151, .aload_n 0, 152, [], 0, []), (152, .getfield 119, 155, [], 0, []), (155, .iconst 1, 156, [], 1, []), (156, .isub, 157, [], 0, []), (157, .iaload, 158, [], 0, []), (158, .if_icmp .ge 27, 161, [185], 0, []), (161, .aload_n 0, 162, [], 0, []), (162, .dup, 163, [], 0, []), (163, .getfield 119, 166, [], 0, []), (166, .iconst 1, 167, [], 1, []), (167, .isub, 168, [], 0, []), (168, .putfield 119, 171, [], 0, []), (171, .aload_n 0, 172, [], 0, []), (172, .bipush 8, 174, [], 8, []), (174, .iload_n 1, 175, [], 0, []), (175, .iconst 0, 176, [], 0, []), (176, .lconst 0, 177, [], 0, []), (177, .invokevirtual 128, 180, [], 0, []), (180, .ifCond .ne (-37), 183, [143], 0, []), (183, .iconst 0, 184, [], 0, []), (184, .ireturn, 185, [], 0, []), (185, .aload_n 0, 186, [], 0, []), (186, .getfield 122, 189, [], 0, []), (189, .aload_n 0, 190, [], 0, []), (190, .getfield 33, 193, [], 0, []), (193, .aload_n 0, 194, [], 0, []), (194, .getfield 119, 197, [], 0, []), (197, .iconst 1, 198, [], 1, []), (198, .isub, 199, [], 0, []), (199, .iaload, 200, [], 0, []), (200, .if_icmp .eq 10, 203, [210], 0, []), (203, .aload_n 0, 204, [], 0, []), (204, .iconst 2, 205, [], 2, []), (205, .iload_n 1, 206, [], 0, []), (206, .invokevirtual 115, 209, [], 0, []), (209, .ireturn, 210, [], 0, []), (210, .aload_n 0, 211, [], 0, []), (211, .getfield 125, 214, [], 0, []), (214, .aload_n 0, 215, [], 0, []), (215, .getfield 36, 218, [], 0, []), (218, .aload_n 0, 219, [], 0, []), (219, .getfield 119, 222, [], 0, []), (222, .iconst 1, 223, [], 1, []), (223, .isub, 224, [], 0, []), (224, .iaload, 225, [], 0, []), (225, .if_icmp .eq 12, 228, [237], 0, []), (228, .aload_n 0, 229, [], 0, []), (229, .iconst 1, 230, [], 1, []), (230, .iload_n 1, 231, [], 0, []), (231, .invokevirtual 115, 234, [], 0, []), (234, .ifCond .eq 7, 237, [241], 0, []), (237, .iconst 1, 238, [], 1, []), (238, .goto 4, 241, [242], 0, []), (241, .iconst 0, 242, [], 0, []), (242, .ireturn, 243, [], 0, [])]
/-- BlockFrontModel.beginLine(I)I -/
def am_c139 : List (Nat × Instr × Nat × List Nat × Int32 × List Int32) := [(0, .iload_n 1, 1, [], 0, []), (1, .istore_n 2, 2, [], 0, []), (2, .aload_n 0, 3, [], 0, []), (3, .iconst 0, 4, [], 0, []), (4, .putfield 122, 7, [], 0, []), (7, .aload_n 0, 8, [], 0, []), (8, .iconst 0, 9, [], 0, []), (9, .putfield 125, 12, [], 0, []), (12, .aload_n 0, 13, [], 0, []), (13, .iload_n 2, 14, [], 0, []), (14, .invokevirtual 132, 17, [], 0, []), (17, .invokestatic 136, 20, [], 0, []), (20, .ifCond .eq 56, 23, [76], 0, []), (23, .aload_n 0, 24, [], 0, []), (24, .aload_n 0, 25, [], 0, []), (25, .getfield 17, 28, [], 0, []), (28, .iload_n 2, 29, [], 0, []), (29, .iaload, 30, [], 0, []), (30, .bipush 9, 32, [], 9, []), (32, .if_icmp .ne 19, 35, [51], 0, []), (35, .aload_n 0, 36, [], 0, []), (36, .getfield 122, 39, [], 0, []), (39, .bipush 8, 41, [], 8, []), (41, .idiv, 42, [], 0, []), (42, .bipush 8, 44, [], 8, []), (44, .imul, 45, [], 0, []), (45, .bipush 8, 47, [], 8, []), (47, .iadd, 48, [], 0, []), (48, .goto 9, 51, [57], 0, []), (51, .aload_n 0, 52, [], 0, []), (52, .getfield 122, 55, [], 0, []), (55, .iconst 1, 56, [], 1, []), (56, .iadd, 57, [], 0, []), (57, .putfield 122, 60, [], 0, []), (60, .aload_n 0, 61, [], 0, []), (61, .dup, 62, [], 0, []), (62, .getfield 125, 65, [], 0, []), (65, .iconst 1, 66, [], 1, []), (66, .iadd, 67, [], 0, []), (67, .putfield 125, 70, [], 0, []), (70, .iinc 2 1, 73, [], 1, []), (73, .goto (-61), 76, [12], 0, []), (76, .aload_n 0, 77, [], 0, []), (77, .iload_n 2, 78, [], 0, []), (78, .invokevirtual 132, 81, [], 0, []), (81, .istore_n 3, 82, [], 0, []), (82, .iload_n 3, 83, [], 0, []), (83, .ifCond .lt 15, 86, [98], 0, []), (86, .iload_n 3, 87, [], 0, []), (87, .bipush 10, 89, [], 10, []), (89, .if_icmp .eq 9, 92, [98], 0, []), (92, .iload_n 3, 93, [], 0, []), (93, .bipush 35, 95, [], 35, []), (95, .if_icmp .ne 29, 98, [124], 0, []), (98, .aload_n 0, 99, [], 0, []), (99, .iload_n 2, 100, [], 0, []), (100, .invokevirtual 139, 103, [], 0, []), (103, .istore 4, 105, [], 0, []), (105, .iload 4, 107, [], 0, []), (107, .aload_n 0, 108, [], 0, []), (108, .getfield 109, 111, [], 0, []), (111, .if_icmp .ge 10, 114, [121], 0, []), (114, .iload 4, 116, [], 0, []), (116, .iconst 1, 117, [], 1, []), (117, .iadd, 118, [], 0, []), (118, .goto 5, 121, [123], 0, []), (121, .iload 4, 123, [], 0, []), (123, .ireturn, 124, [], 0, []), (124, .aload_n 0, 125, [], 0, []), (125, .iconst 0, 126, [], 0, []), (126, .putfield 142, 129, [], 0, []), (129, .aload_n 0, 130, [], 0, []), (130, .iload_n 2, 131, [], 0, []), (131, .invokevirtual 146, 134, [], 0, []), (134, .ifCond .eq 7, 137, [141], 0, []), (137, .iload_n 2, 138, [], 0, []), (138, .goto 4, 141, [142], 0, []), (141, .iconst (-1), 142, [], (-1), []), (142, .ireturn, 143, [], 0, [])]
/-- BlockFrontModel.nameFrom(I)I -/
def am_c140 : List (Nat × Instr × Nat × List Nat × Int32 × List Int32) := [(0, .iload_n 1, 1, [], 0, []), (1, .istore_n 2, 2, [], 0, []), (2, .lconst 0, 3, [], 0, []), (3, .lstore_n 3, 4, [], 0, []), (4, .aload_n 0, 5, [], 0, []), (5, .iload_n 2, 6, [], 0, []), (6, .invokevirtual 132, 9, [], 0, []), (9, .invokestatic 149, 12, [], 0, []), (12, .ifCond .ne 14, 15, [26], 0, []), (15, .aload_n 0, 16, [], 0, []), (16, .iload_n 2, 17, [], 0, []), (17, .invokevirtual 132, 20, [], 0, []), (20, .invokestatic 152, 23, [], 0, []), (23, .ifCond .eq 35, 26, [58], 0, []), (26, .iload_n 2, 27, [], 0, []), (27, .iload_n 1, 28, [], 0, []), (28, .isub, 29, [], 0, []), (29, .bipush 7, 31, [], 7, []), (31, .if_icmp .ge 19, 34, [50], 0, []), (34, .lload_n 3, 35, [], 0, []), (35, .ldc2_w 155, 38, [], 0, []), (38, .lmul, 39, [], 0, []), (39, .aload_n 0, 40, [], 0, []), (40, .getfield 17, 43, [], 0, []), (43, .iload_n 2, 44, [], 0, []), (44, .iaload, 45, [], 0, []), (45, .i2l, 46, [], 0, []), (46, .ladd, 47, [], 0, []), (47, .goto 4, 50, [51], 0, []), (50, .lconst 0, 51, [], 0, []), (51, .lstore_n 3, 52, [], 0, []), (52, .iinc 2 1, 55, [], 1, []), (55, .goto (-51), 58, [4], 0, []), (58, .lload_n 3, 59, [], 0, []), (59, .ldc2_w 157, 62, [], 0, []), (62, .lcmp, 63, [], 0, []), (63, .ifCond .eq 83, 66, [146], 0, []), (66, .lload_n 3, 67, [], 0, []), (67, .ldc2_w 159, 70, [], 0, []), (70, .lcmp, 71, [], 0, []), (71, .ifCond .eq 75, 74, [146], 0, []), (74, .lload_n 3, 75, [], 0, []), (75, .ldc2_w 161, 78, [], 0, []), (78, .lcmp, 79, [], 0, []), (79, .ifCond .eq 67, 82, [146], 0, []), (82, .lload_n 3, 83, [], 0, []), (83, .ldc2_w 163, 86, [], 0, []), (86, .lcmp, 87, [], 0, []), (87, .ifCond .eq 59, 90, [146], 0, []), (90, .lload_n 3, 91, [], 0, []), (91, .ldc2_w 165, 94, [], 0, []), (94, .lcmp, 95, [], 0, []), (95, .ifCond .eq 51, 98, [146], 0, []), (98, .lload_n 3, 99, [], 0, []), (99, .ldc2_w 167, 102, [], 0, []), (102, .lcmp, 103, [], 0, []), (103, .ifCond .eq 43, 106, [146], 0, []), (106, .lload_n 3, 107, [], 0, []), (107, .ldc2_w 169, 110, [], 0, []), (110, .lcmp, 111, [], 0, []), (111, .ifCond .eq 35, 114, [146], 0, []), (114, .lload_n 3, 115, [], 0, []), (115, .ldc2_w 171, 118, [], 0, []), (118, .lcmp, 119, [], 0, []), (119, .ifCond .eq 27, 122, [146], 0, []), (122, .lload_n 3, 123, [], 0, []), (123, .ldc2_w 173, 126, [], 0, []), (126, .lcmp, 127, [], 0, []), (127, .ifCond .eq 19, 130, [146], 0, []), (130, .lload_n 3, 131, [], 0, []), (131, .ldc2_w 175, 134, [], 0, []), (134, .lcmp, 135, [], 0, []), (135, .ifCond .eq 11, 138, [146], 0, []), (138, .lload_n 3, 139, [], 0, []), (139, .ldc2_w 177, 142, [], 0, []), (142, .lcmp, 143, [], 0, []), (143, .ifCond .ne 7, 146, [150], 0, []), (146, .iconst 1, 147, [], 1, []), (147, .goto 4, 150, [151], 0, []), (150, .iconst 0, 151, [], 0, []), (151, .istore 5, 153, [], 0, []), (153, .aload_n 0, 154, [], 0, []), (154, .iload 5, 156, [], 0, []), (156, .ifCond .eq 7, 159, [163], 0, []), (159, .iconst 2, 160, [], 2, []), (160, .goto 4, 163, [164], 0, []), (163, .iconst 1, 164, [], 1, []), (164, .iload_n 1, 165, [], 0, []), (165, .iload_n 2, 166, [], 0, []), (166, .iload_n 1, 167, [], 0, []), (167, .isub, 168, [], 0, []), (168, .iload 5, 170, [], 0, []), (170, .ifCond .eq 7, 173, [177], 0, []), (173, .lload_n 3, 174, [], 0, []), (174, .goto 4, 177, [178], 0, []), (177, .lconst 0, 178, [], 0, []), (178, .invokevirtual 128, 181, [], 0, []), (181, .ifCond .eq 7, 184, [188], 0, []), (184, .iload_n 2, 185, [], 0, []), (185, .goto 4, 188, [189], 0, []), (188, .iconst (-1), 189, [], (-1), []), (189, .ireturn, 190, [], 0, [])]
end
section
/-- BlockFrontModel.numberFrom(I)I -/
def am_c141 : List (Nat × Instr × Nat × List Nat × Int32 × List Int32) := [(0, .iload_n 1, 1, [], 0, []), (1, .istore_n 2, 2, [], 0, []), (2, .aload_n 0, 3, [], 0, []), (3, .iload_n 2, 4, [], 0, []), (4, .invokevirtual 132, 7, [], 0, []), (7, .invokestatic 152, 10, [], 0, []), (10, .ifCond .eq 9, 13, [19], 0, []), (13, .iinc 2 1, 16, [], 1, []), (16, .goto (-14), 19, [2], 0, []), (19, .aload_n 0, 20, [], 0, []), (20, .iload_n 2, 21, [], 0, []), (21, .invokevirtual 132, 24, [], 0, []), (24, .invokestatic 149, 27, [], 0, []), (27, .ifCond .eq 13, 30, [40], 0, []), (30, .aload_n 0, 31, [], 0, []), (31, .bipush 6, 33, [], 6, []), (33, .iload_n 1, 34, [], 0, []), (34, .invokevirtual 115, 37, [], 0, []), (37, .ifCond .eq 7, 40, [44], 0, []), (40, .iconst 1, 41, [], 1, []), (41, .goto 4, 44, [45], 0, []), (44, .iconst 0, 45, [], 0, []), (45, .istore_n 3, 46, [], 0, []), (46, .iload_n 3, 47, [], 0, []), (47, .ifCond .eq 20, 50, [67], 0, []), (50, .aload_n 0, 51, [], 0, []), (51, .iconst 3, 52, [], 3, []), (52, .iload_n 1, 53, [], 0, []), (53, .iload_n 2, 54, [], 0, []), (54, .iload_n 1, 55, [], 0, []), (55, .isub, 56, [], 0, []), (56, .lconst 0, 57, [], 0, []), (57, .invokevirtual 128, 60, [], 0, []), (60, .ifCond .eq 7, 63, [67], 0, []), (63, .iload_n 2, 64, [], 0, []), (64, .goto 4, 67, [68], 0, []), (67, .iconst (-1), 68, [], (-1), []), (68, .ireturn, 69, [], 0, [])]
/-- BlockFrontModel.stringFrom(I)I -/
def am_c142 : List (Nat × Instr × Nat × List Nat × Int32 × List Int32) := [(0, .iload_n 1, 1, [], 0, []), (1, .iconst 1, 2, [], 1, []), (2, .iadd, 3, [], 0, []), (3, .istore_n 2, 4, [], 0, []), (4, .aload_n 0, 5, [], 0, []), (5, .iload_n 2, 6, [], 0, []), (6, .invokevirtual 132, 9, [], 0, []), (9, .aload_n 0, 10, [], 0, []), (10, .getfield 17, 13, [], 0, []), (13, .iload_n 1, 14, [], 0, []), (14, .iaload, 15, [], 0, []), (15, .if_icmp .eq 52, 18, [67], 0, []), (18, .aload_n 0, 19, [], 0, []), (19, .iload_n 2, 20, [], 0, []), (20, .invokevirtual 132, 23, [], 0, []), (23, .bipush 92, 25, [], 92, []), (25, .if_icmp .ne 9, 28, [34], 0, []), (28, .iload_n 2, 29, [], 0, []), (29, .iconst 1, 30, [], 1, []), (30, .iadd, 31, [], 0, []), (31, .goto 4, 34, [35], 0, []), (34, .iload_n 2, 35, [], 0, []), (35, .istore_n 2, 36, [], 0, []), (36, .aload_n 0, 37, [], 0, []), (37, .iload_n 2, 38, [], 0, []), (38, .invokevirtual 132, 41, [], 0, []), (41, .istore_n 3, 42, [], 0, []), (42, .iload_n 3, 43, [], 0, []), (43, .ifCond .lt 9, 46, [52], 0, []), (46, .iload_n 3, 47, [], 0, []), (47, .bipush 10, 49, [], 10, []), (49, .if_icmp .ne 12, 52, [61], 0, []), (52, .aload_n 0, 53, [], 0, []), (53, .iconst 5, 54, [], 5, []), (54, .iload_n 1, 55, [], 0, []), (55, .invokevirtual 115, 58, [], 0, []), (58, .pop, 59, [], 0, []), (59, .iconst (-1), 60, [], (-1), []), (60, .ireturn, 61, [], 0, []), (61, .iinc 2 1, 64, [], 1, []), (64, .goto (-60), 67, [4], 0, []), (67, .aload_n 0, 68, [], 0, []), (68, .iconst 4, 69, [], 4, []), (69, .iload_n 1, 70, [], 0, []), (70, .iload_n 2, 71, [], 0, []), (71, .iconst 1, 72, [], 1, []), (72, .iadd, 73, [], 0, []), (73, .iload_n 1, 74, [], 0, []), (74, .isub, 75, [], 0, []), (75, .lconst 0, 76, [], 0, []), (76, .invokevirtual 128, 79, [], 0, []), (79, .ifCond .eq 9, 82, [88], 0, []), (82, .iload_n 2, 83, [], 0, []), (83, .iconst 1, 84, [], 1, []), (84, .iadd, 85, [], 0, []), (85, .goto 4, 88, [89], 0, []), (88, .iconst (-1), 89, [], (-1), []), (89, .ireturn, 90, [], 0, [])]
/-- BlockFrontModel.isSign(I)Z -/
def am_c143 : List (Nat × Instr × Nat × List Nat × Int32 × List Int32) := [(0, .iload_n 0, 1, [], 0, []), (1, .bipush 43, 3, [], 43, []), (3, .if_icmp .eq 93, 6, [96], 0, []), (6, .iload_n 0, 7, [], 0, []), (7, .bipush 45, 9, [], 45, []), (9, .if_icmp .eq 87, 12, [96], 0, []), (12, .iload_n 0, 13, [], 0, []), (13, .bipush 42, 15, [], 42, []), (15, .if_icmp .eq 81, 18, [96], 0, []), (18, .iload_n 0, 19, [], 0, []), (19, .bipush 47, 21, [], 47, []), (21, .if_icmp .eq 75, 24, [96], 0, []), (24, .iload_n 0, 25, [], 0, []), (25, .bipush 37, 27, [], 37, []), (27, .if_icmp .eq 69, 30, [96], 0, []), (30, .iload_n 0, 31, [], 0, []), (31, .bipush 40, 33, [], 40, []), (33, .if_icmp .eq 63, 36, [96], 0, []), (36, .iload_n 0, 37, [], 0, []), (37, .bipush 41, 39, [], 41, []), (39, .if_icmp .eq 57, 42, [96], 0, []), (42, .iload_n 0, 43, [], 0, []), (43, .bipush 91, 45, [], 91, []), (45, .if_icmp .eq 51, 48, [96], 0, []), (48, .iload_n 0, 49, [], 0, []), (49, .bipush 93, 51, [], 93, []), (51, .if_icmp .eq 45, 54, [96], 0, []), (54, .iload_n 0, 55, [], 0, []), (55, .bipush 44, 57, [], 44, []), (57, .if_icmp .eq 39, 60, [96], 0, []), (60, .iload_n 0, 61, [], 0, []), (61, .bipush 58, 63, [], 58, []), (63, .if_icmp .eq 33, 66, [96], 0, []), (66, .iload_n 0, 67, [], 0, []), (67, .bipush 61, 69, [], 61, []), (69, .if_icmp .eq 27, 72, [96], 0, []), (72, .iload_n 0, 73, [], 0, []), (73, .bipush 60, 75, [], 60, []), (75, .if_icmp .eq 21, 78, [96], 0, []), (78, .iload_n 0, 79, [], 0, []), (79, .bipush 62, 81, [], 62, []), (81, .if_icmp .eq 15, 84, [96], 0, []), (84, .iload_n 0, 85, [], 0, []), (85, .bipush 46, 87, [], 46, []), (87, .if_icmp .eq 9, 90, [96], 0, []), (90, .iload_n 0, 91, [], 0, []), (91, .bipush 59, 93, [], 59, []), (93, .if_icmp .ne 7, 96, [100], 0, []), (96, .iconst 1, 97, [], 1, []), (97, .goto 4, 100, [101], 0, []), (100, .iconst 0, 101, [], 0, []), (101, .ireturn, 102, [], 0, [])]
/-- BlockFrontModel.bracket(II)Z -/
def am_c144 : List (Nat × Instr × Nat × List Nat × Int32 × List Int32) := [(0, .iload_n 1, 1, [], 0, []), (1, .bipush 40, 3, [], 40, []), (3, .if_icmp .eq 9, 6, [12], 0, []), (6, .iload_n 1, 7, [], 0, []), (7, .bipush 91, 9, [], 91, []), (9, .if_icmp .ne 42, 12, [51], 0, []), (12, .aload_n 0, 13, [], 0, []), (13, .getfield 179, 16, [], 0, []), (16, .bipush 8, 18, [], 8, []), (18, .if_icmp .ne 10, 21, [28], 0, []), (21, .aload_n 0, 22, [], 0, []), (22, .iconst 3, 23, [], 3, []), (23, .iload_n 2, 24, [], 0, []), (24, .invokevirtual 115, 27, [], 0, []), (27, .ireturn, 28, [], 0, []), (28, .aload_n 0, 29, [], 0, []), (29, .getfield 39, 32, [], 0, []), (32, .aload_n 0, 33, [], 0, []), (33, .getfield 179, 36, [], 0, []), (36, .iload_n 2, 37, [], 0, []), (37, .iastore, 38, [], 0, []), (38, .aload_n 0, 39, [], 0, []), (39, .dup, 40, [], 0, []), (40, .getfield 179, 43, [], 0, []), (43, .iconst 1, 44, [], 1, []), (44, .iadd, 45, [], 0, []), (45, .putfield 179, 48, [], 0, []), (48, .goto 71, 51, [119], 0, []), (51, .iload_n 1, 52, [], 0, []), (52, .bipush 41, 54, [], 41, []), (54, .if_icmp .eq 9, 57, [63], 0, []), (57, .iload_n 1, 58, [], 0, []), (58, .bipush 93, 60, [], 93, []), (60, .if_icmp .ne 59, 63, [119], 0, []), (63, .aload_n 0, 64, [], 0, []), (64, .getfield 179, 67, [], 0, []), (67, .ifCond .eq 35, 70, [102], 0, []), (70, .aload_n 0, 71, [], 0, []), (71, .getfield 17, 74, [], 0, []), (74, .aload_n 0, 75, [], 0, []), (75, .getfield 39, 78, [], 0, []), (78, .aload_n 0, 79, [], 0, []), (79, .getfield 179, 82, [], 0, []), (82, .iconst 1, 83, [], 1, []), (83, .isub, 84, [], 0, []), (84, .iaload, 85, [], 0, []), (85, .iaload, 86, [], 0, []), (86, .iload_n 1, 87, [], 0, []), (87, .bipush 41, 89, [], 41, []), (89, .if_icmp .ne 8, 92, [97], 0, []), (92, .bipush 40, 94, [], 40, []), (94, .goto 5, 97, [99], 0, []), (97, .bipush 91, 99, [], 91, []), (99, .if_icmp .eq 10, 102, [109], 0, []), (102, .aload_n 0, 103, [], 0, []), (103, .iconst 4, 104, [], 4, []), (104, .iload_n 2, 105, [], 0, []), (105, .invokevirtual 115, 108, [], 0, []), (108, .ireturn, 109, [], 0, []), (109, .aload_n 0, 110, [], 0, []), (110, .dup, 111, [], 0, []), (111, .getfield 179, 114, [], 0, []), (114, .iconst 1, 115, [], 1, []), (115, .isub, 116, [], 0, []), (116, .putfield 179, 119, [], 0, []), (119, .iconst 1, 120, [], 1, []), (120, .ireturn, 121, [], 0, [])]
/-- BlockFrontModel.signFrom(I)I -/
def am_c145 : List (Nat × Instr × Nat × List Nat × Int32 × List Int32) := [(0, .aload_n 0, 1, [], 0, []), (1, .getfield 17, 4, [], 0, []), (4, .iload_n 1, 5, [], 0, []), (5, .iaload, 6, [], 0, []), (6, .istore_n 2, 7, [], 0, []), (7, .iload_n 2, 8, [], 0, []), (8, .bipush 61, 10, [], 61, []), (10, .if_icmp .eq 21, 13, [31], 0, []), (13, .iload_n 2, 14, [], 0, []), (14, .bipush 33, 16, [], 33, []), (16, .if_icmp .eq 15, 19, [31], 0, []), (19, .iload_n 2, 20, [], 0, []), (20, .bipush 60, 22, [], 60, []), (22, .if_icmp .eq 9, 25, [31], 0, []), (25, .iload_n 2, 26, [], 0, []), (26, .bipush 62, 28, [], 62, []), (28, .if_icmp .ne 19, 31, [47], 0, []), (31, .aload_n 0, 32, [], 0, []), (32, .iload_n 1, 33, [], 0, []), (33, .iconst 1, 34, [], 1, []), (34, .iadd, 35, [], 0, []), (35, .invokevirtual 132, 38, [], 0, []), (38, .bipush 61, 40, [], 61, []), (40, .if_icmp .ne 7, 43, [47], 0, []), (43, .iconst 1, 44, [], 1, []), (44, .goto 4, 47, [48], 0, []), (47, .iconst 0, 48, [], 0, []), (48, .istore_n 3, 49, [], 0, []), (49, .iload_n 3, 50, [], 0, []), (50, .ifCond .ne 20, 53, [70], 0, []), (53, .iload_n 2, 54, [], 0, []), (54, .invokestatic 182, 57, [], 0, []), (57, .ifCond .ne 13, 60, [70], 0, []), (60, .aload_n 0, 61, [], 0, []), (61, .bipush 7, 63, [], 7, []), (63, .iload_n 1, 64, [], 0, []), (64, .invokevirtual 115, 67, [], 0, []), (67, .pop, 68, [], 0, []), (68, .iconst (-1), 69, [], (-1), []), (69, .ireturn, 70, [], 0, []), (70, .aload_n 0, 71, [], 0, []), (71, .iload_n 2, 72, [], 0, []), (72, .iload_n 1, 73, [], 0, []), (73, .invokevirtual 185, 76, [], 0, []), (76, .ifCond .ne 5, 79, [81], 0, []), (79, .iconst (-1), 80, [], (-1), []), (80, .ireturn, 81, [], 0, []), (81, .aload_n 0, 82, [], 0, []), (82, .iconst 5, 83, [], 5, []), (83, .iload_n 1, 84, [], 0, []), (84, .iload_n 3, 85, [], 0, []), (85, .ifCond .eq 7, 88, [92], 0, []), (88, .iconst 2, 89, [], 2, []), (89, .goto 4, 92, [93], 0, []), (92, .iconst 1, 93, [], 1, []), (93, .iload_n 3, 94, [], 0, []), (94, .ifCond .eq 12, 97, [106], 0, []), (97, .sipush 256, 100, [], 256, []), (100, .iload_n 2, 101, [], 0, []), (101, .iadd, 102, [], 0, []), (102, .i2l, 103, [], 0, []), (103, .goto 5, 106, [108], 0, []), (106, .iload_n 2, 107, [], 0, []), (107, .i2l, 108, [], 0, []), (108, .invokevirtual 128, 111, [], 0, []), (111, .ifCond .eq 19, 114, [130], 0, []), (114, .iload_n 3, 115, [], 0, []), (115, .ifCond .eq 9, 118, [124], 0, []), (118, .iload_n 1, 119, [], 0, []), (119, .iconst 2, 120, [], 2, []), (120, .iadd, 121, [], 0, []), (121, .goto 10, 124, [131], 0, []), (124, .iload_n 1, 125, [], 0, []), (125, .iconst 1, 126, [], 1, []), (126, .iadd, 127, [], 0, []), (127, .goto 4, 130, [131], 0, []), (130, .iconst (-1), 131, [], (-1), []), (131, .ireturn, 132, [], 0, [])]
/-- BlockFrontModel.goOn(I)I -/
def am_c146 : List (Nat × Instr × Nat × List Nat × Int32 × List Int32) := [(0, .aload_n 0, 1, [], 0, []), (1, .getfield 17, 4, [], 0, []), (4, .iload_n 1, 5, [], 0, []), (5, .iaload, 6, [], 0, []), (6, .istore_n 2, 7, [], 0, []), (7, .iload_n 2, 8, [], 0, []), (8, .invokestatic 136, 11, [], 0, []), (11, .ifCond .eq 7, 14, [18], 0, []), (14, .iload_n 1, 15, [], 0, []), (15, .iconst 1, 16, [], 1, []), (16, .iadd, 17, [], 0, []), (17, .ireturn, 18, [], 0, []), (18, .iload_n 2, 19, [], 0, []), (19, .bipush 35, 21, [], 35, []), (21, .if_icmp .ne 9, 24, [30], 0, []), (24, .aload_n 0, 25, [], 0, []), (25, .iload_n 1, 26, [], 0, []), (26, .invokevirtual 139, 29, [], 0, []), (29, .ireturn, 30, [], 0, []), (30, .iload_n 2, 31, [], 0, []), (31, .bipush 92, 33, [], 92, []), (33, .if_icmp .ne 19, 36, [52], 0, []), (36, .aload_n 0, 37, [], 0, []), (37, .iload_n 1, 38, [], 0, []), (38, .iconst 1, 39, [], 1, []), (39, .iadd, 40, [], 0, []), (40, .invokevirtual 132, 43, [], 0, []), (43, .bipush 10, 45, [], 10, []), (45, .if_icmp .ne 7, 48, [52], 0, []), (48, .iload_n 1, 49, [], 0, []), (49, .iconst 2, 50, [], 2, []), (50, .iadd, 51, [], 0, []), (51, .ireturn, 52, [], 0, []), (52, .iload_n 2, 53, [], 0, []), (53, .bipush 10, 55, [], 10, []), (55, .if_icmp .ne 39, 58, [94], 0, []), (58, .aload_n 0, 59, [], 0, []), (59, .getfield 179, 62, [], 0, []), (62, .ifCond .le 7, 65, [69], 0, []), (65, .iload_n 1, 66, [], 0, []), (66, .iconst 1, 67, [], 1, []), (67, .iadd, 68, [], 0, []), (68, .ireturn, 69, [], 0, []), (69, .aload_n 0, 70, [], 0, []), (70, .iconst 1, 71, [], 1, []), (71, .putfield 142, 74, [], 0, []), (74, .aload_n 0, 75, [], 0, []), (75, .bipush 6, 77, [], 6, []), (77, .iload_n 1, 78, [], 0, []), (78, .iconst 1, 79, [], 1, []), (79, .lconst 0, 80, [], 0, []), (80, .invokevirtual 128, 83, [], 0, []), (83, .ifCond .eq 9, 86, [92], 0, []), (86, .iload_n 1, 87, [], 0, []), (87, .iconst 1, 88, [], 1, []), (88, .iadd, 89, [], 0, []), (89, .goto 4, 92, [93], 0, []), (92, .iconst (-1), 93, [], (-1), []), (93, .ireturn, 94, [], 0, []), (94, .iload_n 2, 95, [], 0, []), (95, .invokestatic 149, 98, [], 0, []), (98, .ifCond .eq 9, 101, [107], 0, []), (101, .aload_n 0, 102, [], 0, []), (102, .iload_n 1, 103, [], 0, []), (103, .invokevirtual 188, 106, [], 0, []), (106, .ireturn, 107, [], 0, []), (107, .iload_n 2, 108, [], 0, []), (108, .invokestatic 152, 111, [], 0, []), (111, .ifCond .eq 9, 114, [120], 0, []), (114, .aload_n 0, 115, [], 0, []), (115, .iload_n 1, 116, [], 0, []), (116, .invokevirtual 191, 119, [], 0, []), (119, .ireturn, 120, [], 0, []), (120, .iload_n 2, 121, [], 0, []), (121, .bipush 39, 123, [], 39, []), (123, .if_icmp .eq 9, 126, [132], 0, []), (126, .iload_n 2, 127, [], 0, []), (127, .bipush 34, 129, [], 34, []), (129, .if_icmp .ne 11, 132, [140], 0, []), (132, .aload_n 0, 133, [], 0, []), (133, .iload_n 1, 134, [], 0, []), (134, .invokevirtual 194, 137, [], 0, []), (137, .goto 8, 140, [145], 0, []), (140, .aload_n 0, 141, [], 0, []), (141, .iload_n 1, 142, [], 0, []), (142, .invokevirtual 197, 145, [], 0, []), (145, .ireturn, 146, [], 0, [])]
/-- BlockFrontModel.take()Z -/
def am_c147 : List (Nat × Instr × Nat × List Nat × Int32 × List Int32) := [(0, .iconst 0, 1, [], 0, []), (1, .istore_n 1, 2, [], 0, []), (2, .iload_n 1, 3, [], 0, []), (3, .aload_n 0, 4, [], 0, []), (4, .getfield 103, 7, [], 0, []), (7, .if_icmp .ge 21, 10, [28], 0, []), (10, .aload_n 0, 11, [], 0, []), (11, .getfield 17, 14, [], 0, []), (14, .iload_n 1, 15, [], 0, []), (15, .aload_n 0, 16, [], 0, []), (16, .getfield 7, 19, [], 0, []), (19, .iload_n 1, 20, [], 0, []), (20, .iaload, 21, [], 0, []), (21, .iastore, 22, [], 0, []), (22, .iinc 1 1, 25, [], 1, []), (25, .goto (-23), 28, [2], 0, []), (28, .aload_n 0, 29, [], 0, []), (29, .aload_n 0, 30, [], 0, []), (30, .getfield 103, 33, [], 0, []), (33, .putfield 109, 36, [], 0, []), (36, .aload_n 0, 37, [], 0, []), (37, .iconst 0, 38, [], 0, []), (38, .putfield 112, 41, [], 0, []), (41, .aload_n 0, 42, [], 0, []), (42, .iconst 1, 43, [], 1, []), (43, .putfield 119, 46, [], 0, []), (46, .aload_n 0, 47, [], 0, []), (47, .iconst 0, 48, [], 0, []), (48, .putfield 179, 51, [], 0, []), (51, .aload_n 0, 52, [], 0, []), (52, .iconst 1, 53, [], 1, []), (53, .putfield 142, 56, [], 0, []), (56, .iconst 0, 57, [], 0, []), (57, .istore_n 1, 58, [], 0, []), (58, .iload_n 1, 59, [], 0, []), (59, .ifCond .lt 35, 62, [94], 0, []), (62, .iload_n 1, 63, [], 0, []), (63, .aload_n 0, 64, [], 0, []), (64, .getfield 109, 67, [], 0, []), (67, .if_icmp .ge 27, 70, [94], 0, []), (70, .aload_n 0, 71, [], 0, []), (71, .getfield 142, 74, [], 0, []), (74, .ifCond .eq 11, 77, [85], 0, []), (77, .aload_n 0, 78, [], 0, []), (78, .iload_n 1, 79, [], 0, []), (79, .invokevirtual 200, 82, [], 0, []), (82, .goto 8, 85, [90], 0, []), (85, .aload_n 0, 86, [], 0, []), (86, .iload_n 1, 87, [], 0, []), (87, .invokevirtual 203, 90, [], 0, []), (90, .istore_n 1, 91, [], 0, []), (91, .goto (-33), 94, [58], 0, []), (94, .iload_n 1, 95, [], 0, []), (95, .ifCond .ge 5, 98, [100], 0, []), (98, .iconst 0, 99, [], 0, []), (99, .ireturn, 100, [], 0, []), (100, .aload_n 0, 101, [], 0, []), (101, .getfield 179, 104, [], 0, []), (104, .ifCond .le 20, 107, [124], 0, []), (107, .aload_n 0, 108, [], 0, []), (108, .iconst 4, 109, [], 4, []), (109, .aload_n 0, 110, [], 0, []), (110, .getfield 39, 113, [], 0, []), (113, .aload_n 0, 114, [], 0, []), (114, .getfield 179, 117, [], 0, []), (117, .iconst 1, 118, [], 1, []), (118, .isub, 119, [], 0, []), (119, .iaload, 120, [], 0, []), (120, .invokevirtual 115, 123, [], 0, []), (123, .ireturn, 124, [], 0, []), (124, .aload_n 0, 125, [], 0, []), (125, .getfield 142, 128, [], 0, []), (128, .ifCond .ne 18, 131, [146], 0, []), (131, .aload_n 0, 132, [], 0, []), (132, .bipush 6, 134, [], 6, []), (134, .aload_n 0, 135, [], 0, []), (135, .getfield 109, 138, [], 0, []), (138, .iconst 0, 139, [], 0, []), (139, .lconst 0, 140, [], 0, []), (140, .invokevirtual 128, 143, [], 0, []), (143, .ifCond .eq 7, 146, [150], 0, []), (146, .iconst 1, 147, [], 1, []), (147, .goto 4, 150, [151], 0, []), (150, .iconst 0, 151, [], 0, []), (151, .istore_n 2, 152, [], 0, []), (152, .iconst 1, 153, [], 1, []), (153, .istore_n 3, 154, [], 0, []), (154, .iload_n 3, 155, [], 0, []), (155, .aload_n 0, 156, [], 0, []), (156, .getfield 119, 159, [], 0, []), (159, .if_icmp .ge 26, 162, [185], 0, []), (162, .iload_n 2, 163, [], 0, []), (163, .ifCond .eq 22, 166, [185], 0, []), (166, .aload_n 0, 167, [], 0, []), (167, .bipush 8, 169, [], 8, []), (169, .aload_n 0, 170, [], 0, []), (170, .getfield 109, 173, [], 0, []), (173, .iconst 0, 174, [], 0, []), (174, .lconst 0, 175, [], 0, []), (175, .invokevirtual 128, 178, [], 0, []), (178, .istore_n 2, 179, [], 0, []), (179, .iinc 3 1, 182, [], 1, []), (182, .goto (-28), 185, [154], 0, []), (185, .iload_n 2, 186, [], 0, []), (186, .ifCond .eq 22, 189, [208], 0, []), (189, .aload_n 0, 190, [], 0, []), (190, .bipush 9, 192, [], 9, []), (192, .aload_n 0, 193, [], 0, []), (193, .getfield 109, 196, [], 0, []), (196, .iconst 0, 197, [], 0, []), (197, .lconst 0, 198, [], 0, []), (198, .invokevirtual 128, 201, [], 0, []), (201, .ifCond .eq 7, 204, [208], 0, []), (204, .iconst 1, 205, [], 1, []), (205, .goto 4, 208, [209], 0, []), (208, .iconst 0, 209, [], 0, []), (209, .ireturn, 210, [], 0, [])]
/-- BlockFrontModel.make(II)I -/
def am_c148 : List (Nat × Instr × Nat × List Nat × Int32 × List Int32) := [(0, .aload_n 0, 1, [], 0, []), (1, .getfield 42, 4, [], 0, []), (4, .aload_n 0, 5, [], 0, []), (5, .getfield 206, 8, [], 0, []), (8, .iload_n 1, 9, [], 0, []), (9, .iastore, 10, [], 0, []), (10, .aload_n 0, 11, [], 0, []), (11, .getfield 45, 14, [], 0, []), (14, .aload_n 0, 15, [], 0, []), (15, .getfield 206, 18, [], 0, []), (18, .iload_n 2, 19, [], 0, []), (19, .iastore, 20, [], 0, []), (20, .aload_n 0, 21, [], 0, []), (21, .getfield 48, 24, [], 0, []), (24, .aload_n 0, 25, [], 0, []), (25, .getfield 206, 28, [], 0, []), (28, .iconst 0, 29, [], 0, []), (29, .iastore, 30, [], 0, []), (30, .aload_n 0, 31, [], 0, []), (31, .getfield 51, 34, [], 0, []), (34, .aload_n 0, 35, [], 0, []), (35, .getfield 206, 38, [], 0, []), (38, .iconst (-1), 39, [], (-1), []), (39, .iastore, 40, [], 0, []), (40, .aload_n 0, 41, [], 0, []), (41, .getfield 57, 44, [], 0, []), (44, .aload_n 0, 45, [], 0, []), (45, .getfield 206, 48, [], 0, []), (48, .iconst (-1), 49, [], (-1), []), (49, .iastore, 50, [], 0, []), (50, .aload_n 0, 51, [], 0, []), (51, .getfield 60, 54, [], 0, []), (54, .aload_n 0, 55, [], 0, []), (55, .getfield 206, 58, [], 0, []), (58, .iconst (-1), 59, [], (-1), []), (59, .iastore, 60, [], 0, []), (60, .aload_n 0, 61, [], 0, []), (61, .getfield 63, 64, [], 0, []), (64, .aload_n 0, 65, [], 0, []), (65, .getfield 206, 68, [], 0, []), (68, .iconst 1, 69, [], 1, []), (69, .iastore, 70, [], 0, []), (70, .aload_n 0, 71, [], 0, []), (71, .dup, 72, [], 0, []), (72, .getfield 206, 75, [], 0, []), (75, .iconst 1, 76, [], 1, []), (76, .iadd, 77, [], 0, []), (77, .putfield 206, 80, [], 0, []), (80, .aload_n 0, 81, [], 0, []), (81, .getfield 206, 84, [], 0, []), (84, .iconst 1, 85, [], 1, []), (85, .isub, 86, [], 0, []), (86, .ireturn, 87, [], 0, [])]
/-- BlockFrontModel.append(II)V -/
def am_c149 : List (Nat × Instr × Nat × List Nat × Int32 × List Int32) := [(0, .aload_n 0, 1, [], 0, []), (1, .getfield 48, 4, [], 0, []), (4, .iload_n 1, 5, [], 0, []), (5, .iaload, 6, [], 0, []), (6, .ifCond .ne 13, 9, [19], 0, []), (9, .aload_n 0, 10, [], 0, []), (10, .getfield 51, 13, [], 0, []), (13, .iload_n 1, 14, [], 0, []), (14, .iload_n 2, 15, [], 0, []), (15, .iastore, 16, [], 0, []), (16, .goto 15, 19, [31], 0, []), (19, .aload_n 0, 20, [], 0, []), (20, .getfield 57, 23, [], 0, []), (23, .aload_n 0, 24, [], 0, []), (24, .getfield 54, 27, [], 0, []), (27, .iload_n 1, 28, [], 0, []), (28, .iaload, 29, [], 0, []), (29, .iload_n 2, 30, [], 0, []), (30, .iastore, 31, [], 0, []), (31, .aload_n 0, 32, [], 0, []), (32, .getfield 54, 35, [], 0, []), (35, .iload_n 1, 36, [], 0, []), (36, .iload_n 2, 37, [], 0, []), (37, .iastore, 38, [], 0, []), (38, .aload_n 0, 39, [], 0, []), (39, .getfield 60, 42, [], 0, []), (42, .iload_n 2, 43, [], 0, []), (43, .iload_n 1, 44, [], 0, []), (44, .iastore, 45, [], 0, []), (45, .aload_n 0, 46, [], 0, []), (46, .getfield 48, 49, [], 0, []), (49, .iload_n 1, 50, [], 0, []), (50, .dup2, 51, [], 0, []), (51, .iaload, 52, [], 0, []), (52, .iconst 1, 53, [], 1, []), (53, .iadd, 54, [], 0, []), (54, .iastore, 55, [], 0, []), (55, .aload_n 0, 56, [], 0, []), (56, .getfield 63, 59, [], 0, []), (59, .iload_n 1, 60, [], 0, []), (60, .aload_n 0, 61, [], 0, []), (61, .getfield 63, 64, [], 0, []), (64, .iload_n 2, 65, [], 0, []), (65, .iaload, 66, [], 0, []), (66, .aload_n 0, 67, [], 0, []), (67, .getfield 63, 70, [], 0, []), (70, .iload_n 1, 71, [], 0, []), (71, .iaload, 72, [], 0, []), (72, .if_icmp .lt 14, 75, [86], 0, []), (75, .aload_n 0, 76, [], 0, []), (76, .getfield 63, 79, [], 0, []), (79, .iload_n 2, 80, [], 0, []), (80, .iaload, 81, [], 0, []), (81, .iconst 1, 82, [], 1, []), (82, .iadd, 83, [], 0, []), (83, .goto 9, 86, [92], 0, []), (86, .aload_n 0, 87, [], 0, []), (87, .getfield 63, 90, [], 0, []), (90, .iload_n 1, 91, [], 0, []), (91, .iaload, 92, [], 0, []), (92, .iastore, 93, [], 0, []), (93, .return_, 94, [], 0, [])]
/-- BlockFrontModel.unfit()Z -/
def am_c150 : List (Nat × Instr × Nat × List Nat × Int32 × List Int32) := [(0, .aload_n 0, 1, [], 0, []), (1, .bipush 9, 3, [], 9, []), (3, .aload_n 0, 4, [], 0, []), (4, .getfield 23, 7, [], 0, []), (7, .aload_n 0, 8, [], 0, []), (8, .getfield 209, 11, [], 0, []), (11, .iaload, 12, [], 0, []), (12, .invokevirtual 115, 15, [], 0, []), (15, .ireturn, 16, [], 0, [])]
/-- BlockFrontModel.isSignHere(I)Z -/
def am_c151 : List (Nat × Instr × Nat × List Nat × Int32 × List Int32) := [(0, .aload_n 0, 1, [], 0, []), (1, .getfield 20, 4, [], 0, []), (4, .aload_n 0, 5, [], 0, []), (5, .getfield 209, 8, [], 0, []), (8, .iaload, 9, [], 0, []), (9, .iconst 5, 10, [], 5, []), (10, .if_icmp .ne 22, 13, [32], 0, []), (13, .aload_n 0, 14, [], 0, []), (14, .getfield 29, 17, [], 0, []), (17, .aload_n 0, 18, [], 0, []), (18, .getfield 209, 21, [], 0, []), (21, .laload, 22, [], 0, []), (22, .iload_n 1, 23, [], 0, []), (23, .i2l, 24, [], 0, []), (24, .lcmp, 25, [], 0, []), (25, .ifCond .ne 7, 28, [32], 0, []), (28, .iconst 1, 29, [], 1, []), (29, .goto 4, 32, [33], 0, []), (32, .iconst 0, 33, [], 0, []), (33, .ireturn, 34, [], 0, [])]
/-- BlockFrontModel.isWordHere(J)Z -/
def am_c152 : List (Nat × Instr × Nat × List Nat × Int32 × List Int32) := [(0, .aload_n 0, 1, [], 0, []), (1, .getfield 20, 4, [], 0, []), (4, .aload_n 0, 5, [], 0, []), (5, .getfield 209, 8, [], 0, []), (8, .iaload, 9, [], 0, []), (9, .iconst 2, 10, [], 2, []), (10, .if_icmp .ne 21, 13, [31], 0, []), (13, .aload_n 0, 14, [], 0, []), (14, .getfield 29, 17, [], 0, []), (17, .aload_n 0, 18, [], 0, []), (18, .getfield 209, 21, [], 0, []), (21, .laload, 22, [], 0, []), (22, .lload_n 1, 23, [], 0, []), (23, .lcmp, 24, [], 0, []), (24, .ifCond .ne 7, 27, [31], 0, []), (27, .iconst 1, 28, [], 1, []), (28, .goto 4, 31, [32], 0, []), (31, .iconst 0, 32, [], 0, []), (32, .ireturn, 33, [], 0, [])]
/-- BlockFrontModel.pass(Z)Z -/
def am_c153 : List (Nat × Instr × Nat × List Nat × Int32 × List Int32) := [(0, .iload_n 1, 1, [], 0, []), (1, .ifCond .ne 8, 4, [9], 0, []), (4, .aload_n 0, 5, [], 0, []), (5, .invokevirtual 212, 8, [], 0, []), (8, .ireturn, 9, [], 0, []), (9, .aload_n 0, 10, [], 0, []), (10, .dup, 11, [], 0, []), (11, .getfield 209, 14, [], 0, []), (14, .iconst 1, 15, [], 1, []), (15, .iadd, 16, [], 0, []), (16, .putfield 209, 19, [], 0, []), (19, .iconst 1, 20, [], 1, []), (20, .ireturn, 21, [], 0, [])]
/-- BlockFrontModel.finish(I)Z -/
def am_c154 : List (Nat × Instr × Nat × List Nat × Int32 × List Int32) := [(0, .aload_n 0, 1, [], 0, []), (1, .getfield 63, 4, [], 0, []), (4, .iload_n 1, 5, [], 0, []), (5, .iaload, 6, [], 0, []), (6, .bipush 10, 8, [], 10, []), (8, .if_icmp .le 20, 11, [28], 0, []), (11, .aload_n 0, 12, [], 0, []), (12, .iconst 3, 13, [], 3, []), (13, .aload_n 0, 14, [], 0, []), (14, .getfield 23, 17, [], 0, []), (17, .aload_n 0, 18, [], 0, []), (18, .getfield 45, 21, [], 0, []), (21, .iload_n 1, 22, [], 0, []), (22, .iaload, 23, [], 0, []), (23, .iaload, 24, [], 0, []), (24, .invokevirtual 115, 27, [], 0, []), (27, .ireturn, 28, [], 0, []), (28, .aload_n 0, 29, [], 0, []), (29, .getfield 78, 32, [], 0, []), (32, .aload_n 0, 33, [], 0, []), (33, .getfield 216, 36, [], 0, []), (36, .iload_n 1, 37, [], 0, []), (37, .iastore, 38, [], 0, []), (38, .aload_n 0, 39, [], 0, []), (39, .dup, 40, [], 0, []), (40, .getfield 216, 43, [], 0, []), (43, .iconst 1, 44, [], 1, []), (44, .iadd, 45, [], 0, []), (45, .putfield 216, 48, [], 0, []), (48, .iconst 1, 49, [], 1, []), (49, .ireturn, 50, [], 0, [])]
/-- BlockFrontModel.kindOf(I)I -/
def am_c155 : List (Nat × Instr × Nat × List Nat × Int32 × List Int32) := [(0, .iload_n 0, 1, [], 0, []), (1, .bipush 6, 3, [], 6, []), (3, .if_icmp .ge 10, 6, [13], 0, []), (6, .bipush 10, 8, [], 10, []), (8, .iload_n 0, 9, [], 0, []), (9, .iadd, 10, [], 0, []), (10, .goto 7, 13, [17], 0, []), (13, .iload_n 0, 14, [], 0, []), (14, .bipush 9, 16, [], 9, []), (16, .iadd, 17, [], 0, []), (17, .ireturn, 18, [], 0, [])]
/-- BlockFrontModel.close(I)Z -/
def am_c156 : List (Nat × Instr × Nat × List Nat × Int32 × List Int32) := [(0, .aload_n 0, 1, [], 0, []), (1, .getfield 219, 4, [], 0, []), (4, .ifCond .le 147, 7, [151], 0, []), (7, .aload_n 0, 8, [], 0, []), (8, .getfield 69, 11, [], 0, []), (11, .aload_n 0, 12, [], 0, []), (12, .getfield 219, 15, [], 0, []), (15, .iconst 1, 16, [], 1, []), (16, .isub, 17, [], 0, []), (17, .iaload, 18, [], 0, []), (18, .iload_n 1, 19, [], 0, []), (19, .if_icmp .lt 132, 22, [151], 0, []), (22, .aload_n 0, 23, [], 0, []), (23, .dup, 24, [], 0, []), (24, .getfield 219, 27, [], 0, []), (27, .iconst 1, 28, [], 1, []), (28, .isub, 29, [], 0, []), (29, .putfield 219, 32, [], 0, []), (32, .aload_n 0, 33, [], 0, []), (33, .aload_n 0, 34, [], 0, []), (34, .getfield 69, 37, [], 0, []), (37, .aload_n 0, 38, [], 0, []), (38, .getfield 219, 41, [], 0, []), (41, .iaload, 42, [], 0, []), (42, .invokestatic 222, 45, [], 0, []), (45, .aload_n 0, 46, [], 0, []), (46, .getfield 72, 49, [], 0, []), (49, .aload_n 0, 50, [], 0, []), (50, .getfield 219, 53, [], 0, []), (53, .iaload, 54, [], 0, []), (54, .invokevirtual 225, 57, [], 0, []), (57, .istore_n 2, 58, [], 0, []), (58, .aload_n 0, 59, [], 0, []), (59, .getfield 42, 62, [], 0, []), (62, .iload_n 2, 63, [], 0, []), (63, .iaload, 64, [], 0, []), (64, .bipush 13, 66, [], 13, []), (66, .if_icmp .eq 18, 69, [84], 0, []), (69, .aload_n 0, 70, [], 0, []), (70, .getfield 42, 73, [], 0, []), (73, .iload_n 2, 74, [], 0, []), (74, .iaload, 75, [], 0, []), (75, .bipush 16, 77, [], 16, []), (77, .if_icmp .eq 7, 80, [84], 0, []), (80, .iconst 1, 81, [], 1, []), (81, .goto 4, 84, [85], 0, []), (84, .iconst 0, 85, [], 0, []), (85, .istore_n 3, 86, [], 0, []), (86, .aload_n 0, 87, [], 0, []), (87, .dup, 88, [], 0, []), (88, .getfield 216, 91, [], 0, []), (91, .iload_n 3, 92, [], 0, []), (92, .ifCond .eq 7, 95, [99], 0, []), (95, .iconst 2, 96, [], 2, []), (96, .goto 4, 99, [100], 0, []), (99, .iconst 1, 100, [], 1, []), (100, .isub, 101, [], 0, []), (101, .putfield 216, 104, [], 0, []), (104, .aload_n 0, 105, [], 0, []), (105, .iload_n 2, 106, [], 0, []), (106, .aload_n 0, 107, [], 0, []), (107, .getfield 78, 110, [], 0, []), (110, .aload_n 0, 111, [], 0, []), (111, .getfield 216, 114, [], 0, []), (114, .iaload, 115, [], 0, []), (115, .invokevirtual 229, 118, [], 0, []), (118, .iload_n 3, 119, [], 0, []), (119, .ifCond .eq 19, 122, [138], 0, []), (122, .aload_n 0, 123, [], 0, []), (123, .iload_n 2, 124, [], 0, []), (124, .aload_n 0, 125, [], 0, []), (125, .getfield 78, 128, [], 0, []), (128, .aload_n 0, 129, [], 0, []), (129, .getfield 216, 132, [], 0, []), (132, .iconst 1, 133, [], 1, []), (133, .iadd, 134, [], 0, []), (134, .iaload, 135, [], 0, []), (135, .invokevirtual 229, 138, [], 0, []), (138, .aload_n 0, 139, [], 0, []), (139, .iload_n 2, 140, [], 0, []), (140, .invokevirtual 233, 143, [], 0, []), (143, .ifCond .ne 5, 146, [148], 0, []), (146, .iconst 0, 147, [], 0, []), (147, .ireturn, 148, [], 0, []), (148, .goto (-148), 151, [0], 0, []), (151, .iconst 1, 152, [], 1, []), (152, .ireturn, 153, [], 0, [])]
/-- BlockFrontModel.enter(II)Z -/
def am_c157 : List (Nat × Instr × Nat × List Nat × Int32 × List Int32) := [(0, .aload_n 0, 1, [], 0, []), (1, .getfield 219, 4, [], 0, []), (4, .bipush 12, 6, [], 12, []), (6, .if_icmp .ne 18, 9, [24], 0, []), (9, .aload_n 0, 10, [], 0, []), (10, .iconst 3, 11, [], 3, []), (11, .aload_n 0, 12, [], 0, []), (12, .getfield 23, 15, [], 0, []), (15, .aload_n 0, 16, [], 0, []), (16, .getfield 209, 19, [], 0, []), (19, .iaload, 20, [], 0, []), (20, .invokevirtual 115, 23, [], 0, []), (23, .ireturn, 24, [], 0, []), (24, .aload_n 0, 25, [], 0, []), (25, .getfield 69, 28, [], 0, []), (28, .aload_n 0, 29, [], 0, []), (29, .getfield 219, 32, [], 0, []), (32, .iload_n 1, 33, [], 0, []), (33, .iastore, 34, [], 0, []), (34, .aload_n 0, 35, [], 0, []), (35, .getfield 72, 38, [], 0, []), (38, .aload_n 0, 39, [], 0, []), (39, .getfield 219, 42, [], 0, []), (42, .aload_n 0, 43, [], 0, []), (43, .getfield 209, 46, [], 0, []), (46, .iastore, 47, [], 0, []), (47, .aload_n 0, 48, [], 0, []), (48, .getfield 75, 51, [], 0, []), (51, .aload_n 0, 52, [], 0, []), (52, .getfield 219, 55, [], 0, []), (55, .iload_n 2, 56, [], 0, []), (56, .iastore, 57, [], 0, []), (57, .aload_n 0, 58, [], 0, []), (58, .dup, 59, [], 0, []), (59, .getfield 219, 62, [], 0, []), (62, .iconst 1, 63, [], 1, []), (63, .iadd, 64, [], 0, []), (64, .putfield 219, 67, [], 0, []), (67, .aload_n 0, 68, [], 0, []), (68, .dup, 69, [], 0, []), (69, .getfield 209, 72, [], 0, []), (72, .iconst 1, 73, [], 1, []), (73, .iadd, 74, [], 0, []), (74, .putfield 209, 77, [], 0, []), (77, .iconst 1, 78, [], 1, []), (78, .ireturn, 79, [], 0, [])]
/-- BlockFrontModel.strength()I -/
def am_c158 : List (Nat × Instr × Nat × List Nat × Int32 × List Int32) := [(0, .aload_n 0, 1, [], 0, []), (1, .ldc2_w 169, 4, [], 0, []), (4, .invokevirtual 236, 7, [], 0, []), (7, .ifCond .eq 5, 10, [12], 0, []), (10, .iconst 1, 11, [], 1, []), (11, .ireturn, 12, [], 0, []), (12, .aload_n 0, 13, [], 0, []), (13, .ldc2_w 167, 16, [], 0, []), (16, .invokevirtual 236, 19, [], 0, []), (19, .ifCond .eq 5, 22, [24], 0, []), (22, .iconst 2, 23, [], 2, []), (23, .ireturn, 24, [], 0, []), (24, .aload_n 0, 25, [], 0, []), (25, .getfield 20, 28, [], 0, []), (28, .aload_n 0, 29, [], 0, []), (29, .getfield 209, 32, [], 0, []), (32, .iaload, 33, [], 0, []), (33, .iconst 5, 34, [], 5, []), (34, .if_icmp .eq 5, 37, [39], 0, []), (37, .iconst 0, 38, [], 0, []), (38, .ireturn, 39, [], 0, []), (39, .aload_n 0, 40, [], 0, []), (40, .getfield 29, 43, [], 0, []), (43, .aload_n 0, 44, [], 0, []), (44, .getfield 209, 47, [], 0, []), (47, .laload, 48, [], 0, []), (48, .l2i, 49, [], 0, []), (49, .istore_n 1, 50, [], 0, []), (50, .iload_n 1, 51, [], 0, []), (51, .bipush 60, 53, [], 60, []), (53, .if_icmp .eq 16, 56, [69], 0, []), (56, .iload_n 1, 57, [], 0, []), (57, .bipush 62, 59, [], 62, []), (59, .if_icmp .eq 10, 62, [69], 0, []), (62, .iload_n 1, 63, [], 0, []), (63, .sipush 255, 66, [], 255, []), (66, .if_icmp .le 5, 69, [71], 0, []), (69, .iconst 4, 70, [], 4, []), (70, .ireturn, 71, [], 0, []), (71, .iload_n 1, 72, [], 0, []), (72, .bipush 43, 74, [], 43, []), (74, .if_icmp .eq 9, 77, [83], 0, []), (77, .iload_n 1, 78, [], 0, []), (78, .bipush 45, 80, [], 45, []), (80, .if_icmp .ne 7, 83, [87], 0, []), (83, .iconst 5, 84, [], 5, []), (84, .goto 27, 87, [111], 0, []), (87, .iload_n 1, 88, [], 0, []), (88, .bipush 42, 90, [], 42, []), (90, .if_icmp .eq 15, 93, [105], 0, []), (93, .iload_n 1, 94, [], 0, []), (94, .bipush 47, 96, [], 47, []), (96, .if_icmp .eq 9, 99, [105], 0, []), (99, .iload_n 1, 100, [], 0, []), (100, .bipush 37, 102, [], 37, []), (102, .if_icmp .ne 8, 105, [110], 0, []), (105, .bipush 6, 107, [], 6, []), (107, .goto 4, 110, [111], 0, []), (110, .iconst 0, 111, [], 0, []), (111, .ireturn, 112, [], 0, [])]
/-- BlockFrontModel.opener()I -/
def am_c159 : List (Nat × Instr × Nat × List Nat × Int32 × List Int32) := [(0, .aload_n 0, 1, [], 0, []), (1, .getfield 219, 4, [], 0, []), (4, .ifCond .ne 8, 7, [12], 0, []), (7, .bipush 9, 9, [], 9, []), (9, .goto 14, 12, [23], 0, []), (12, .aload_n 0, 13, [], 0, []), (13, .getfield 69, 16, [], 0, []), (16, .aload_n 0, 17, [], 0, []), (17, .getfield 219, 20, [], 0, []), (20, .iconst 1, 21, [], 1, []), (21, .isub, 22, [], 0, []), (22, .iaload, 23, [], 0, []), (23, .ireturn, 24, [], 0, [])]
/-- BlockFrontModel.endBracket(Z)Z -/
def am_c160 : List (Nat × Instr × Nat × List Nat × Int32 × List Int32) := [(0, .aload_n 0, 1, [], 0, []), (1, .dup, 2, [], 0, []), (2, .getfield 219, 5, [], 0, []), (5, .iconst 1, 6, [], 1, []), (6, .isub, 7, [], 0, []), (7, .putfield 219, 10, [], 0, []), (10, .aload_n 0, 11, [], 0, []), (11, .getfield 75, 14, [], 0, []), (14, .aload_n 0, 15, [], 0, []), (15, .getfield 219, 18, [], 0, []), (18, .iaload, 19, [], 0, []), (19, .istore_n 2, 20, [], 0, []), (20, .aload_n 0, 21, [], 0, []), (21, .dup, 22, [], 0, []), (22, .getfield 209, 25, [], 0, []), (25, .iconst 1, 26, [], 1, []), (26, .iadd, 27, [], 0, []), (27, .putfield 209, 30, [], 0, []), (30, .aload_n 0, 31, [], 0, []), (31, .getfield 69, 34, [], 0, []), (34, .aload_n 0, 35, [], 0, []), (35, .getfield 219, 38, [], 0, []), (38, .iaload, 39, [], 0, []), (39, .ifCond .ne 5, 42, [44], 0, []), (42, .iconst 1, 43, [], 1, []), (43, .ireturn, 44, [], 0, []), (44, .iload_n 1, 45, [], 0, []), (45, .ifCond .eq 27, 48, [72], 0, []), (48, .aload_n 0, 49, [], 0, []), (49, .dup, 50, [], 0, []), (50, .getfield 216, 53, [], 0, []), (53, .iconst 1, 54, [], 1, []), (54, .isub, 55, [], 0, []), (55, .putfield 216, 58, [], 0, []), (58, .aload_n 0, 59, [], 0, []), (59, .iload_n 2, 60, [], 0, []), (60, .aload_n 0, 61, [], 0, []), (61, .getfield 78, 64, [], 0, []), (64, .aload_n 0, 65, [], 0, []), (65, .getfield 216, 68, [], 0, []), (68, .iaload, 69, [], 0, []), (69, .invokevirtual 229, 72, [], 0, []), (72, .aload_n 0, 73, [], 0, []), (73, .iload_n 2, 74, [], 0, []), (74, .invokevirtual 233, 77, [], 0, []), (77, .ireturn, 78, [], 0, [])]
/-- BlockFrontModel.part()I -/
def am_c161 : List (Nat × Instr × Nat × List Nat × Int32 × List Int32) := [(0, .aload_n 0, 1, [], 0, []), (1, .getfield 20, 4, [], 0, []), (4, .aload_n 0, 5, [], 0, []), (5, .getfield 209, 8, [], 0, []), (8, .iaload, 9, [], 0, []), (9, .istore_n 1, 10, [], 0, []), (10, .iload_n 1, 11, [], 0, []), (11, .iconst 1, 12, [], 1, []), (12, .if_icmp .eq 13, 15, [25], 0, []), (15, .iload_n 1, 16, [], 0, []), (16, .iconst 3, 17, [], 3, []), (17, .if_icmp .eq 8, 20, [25], 0, []), (20, .iload_n 1, 21, [], 0, []), (21, .iconst 4, 22, [], 4, []), (22, .if_icmp .ne 64, 25, [86], 0, []), (25, .aload_n 0, 26, [], 0, []), (26, .getfield 78, 29, [], 0, []), (29, .aload_n 0, 30, [], 0, []), (30, .getfield 216, 33, [], 0, []), (33, .aload_n 0, 34, [], 0, []), (34, .iload_n 1, 35, [], 0, []), (35, .iconst 1, 36, [], 1, []), (36, .if_icmp .ne 8, 39, [44], 0, []), (39, .bipush 20, 41, [], 20, []), (41, .goto 15, 44, [56], 0, []), (44, .iload_n 1, 45, [], 0, []), (45, .iconst 3, 46, [], 3, []), (46, .if_icmp .ne 8, 49, [54], 0, []), (49, .bipush 21, 51, [], 21, []), (51, .goto 5, 54, [56], 0, []), (54, .bipush 22, 56, [], 22, []), (56, .aload_n 0, 57, [], 0, []), (57, .getfield 209, 60, [], 0, []), (60, .invokevirtual 225, 63, [], 0, []), (63, .iastore, 64, [], 0, []), (64, .aload_n 0, 65, [], 0, []), (65, .dup, 66, [], 0, []), (66, .getfield 216, 69, [], 0, []), (69, .iconst 1, 70, [], 1, []), (70, .iadd, 71, [], 0, []), (71, .putfield 216, 74, [], 0, []), (74, .aload_n 0, 75, [], 0, []), (75, .dup, 76, [], 0, []), (76, .getfield 209, 79, [], 0, []), (79, .iconst 1, 80, [], 1, []), (80, .iadd, 81, [], 0, []), (81, .putfield 209, 84, [], 0, []), (84, .iconst 0, 85, [], 0, []), (85, .ireturn, 86, [], 0, []), (86, .aload_n 0, 87, [], 0, []), (87, .ldc2_w 171, 90, [], 0, []), (90, .invokevirtual 236, 93, [], 0, []), (93, .ifCond .eq 33, 96, [126], 0, []), (96, .aload_n 0, 97, [], 0, []), (97, .getfield 219, 100, [], 0, []), (100, .ifCond .eq 11, 103, [111], 0, []), (103, .aload_n 0, 104, [], 0, []), (104, .invokevirtual 240, 107, [], 0, []), (107, .iconst 3, 108, [], 3, []), (108, .if_icmp .gt 18, 111, [126], 0, []), (111, .aload_n 0, 112, [], 0, []), (112, .iconst 3, 113, [], 3, []), (113, .iconst (-1), 114, [], (-1), []), (114, .invokevirtual 244, 117, [], 0, []), (117, .ifCond .eq 7, 120, [124], 0, []), (120, .iconst 1, 121, [], 1, []), (121, .goto 4, 124, [125], 0, []), (124, .iconst (-1), 125, [], (-1), []), (125, .ireturn, 126, [], 0, []), (126, .aload_n 0, 127, [], 0, []), (127, .bipush 45, 129, [], 45, []), (129, .invokevirtual 247, 132, [], 0, []), (132, .ifCond .eq 19, 135, [151], 0, []), (135, .aload_n 0, 136, [], 0, []), (136, .bipush 7, 138, [], 7, []), (138, .iconst (-1), 139, [], (-1), []), (139, .invokevirtual 244, 142, [], 0, []), (142, .ifCond .eq 7, 145, [149], 0, []), (145, .iconst 1, 146, [], 1, []), (146, .goto 4, 149, [150], 0, []), (149, .iconst (-1), 150, [], (-1), []), (150, .ireturn, 151, [], 0, []), (151, .aload_n 0, 152, [], 0, []), (152, .bipush 40, 154, [], 40, []), (154, .invokevirtual 247, 157, [], 0, []), (157, .ifCond .eq 18, 160, [175], 0, []), (160, .aload_n 0, 161, [], 0, []), (161, .iconst 0, 162, [], 0, []), (162, .iconst (-1), 163, [], (-1), []), (163, .invokevirtual 244, 166, [], 0, []), (166, .ifCond .eq 7, 169, [173], 0, []), (169, .iconst 1, 170, [], 1, []), (170, .goto 4, 173, [174], 0, []), (173, .iconst (-1), 174, [], (-1), []), (174, .ireturn, 175, [], 0, []), (175, .aload_n 0, 176, [], 0, []), (176, .bipush 91, 178, [], 91, []), (178, .invokevirtual 247, 181, [], 0, []), (181, .ifCond .eq 28, 184, [209], 0, []), (184, .aload_n 0, 185, [], 0, []), (185, .bipush (-3), 187, [], (-3), []), (187, .aload_n 0, 188, [], 0, []), (188, .bipush 23, 190, [], 23, []), (190, .aload_n 0, 191, [], 0, []), (191, .getfield 209, 194, [], 0, []), (194, .invokevirtual 225, 197, [], 0, []), (197, .invokevirtual 244, 200, [], 0, []), (200, .ifCond .eq 7, 203, [207], 0, []), (203, .iconst 1, 204, [], 1, []), (204, .goto 4, 207, [208], 0, []), (207, .iconst (-1), 208, [], (-1), []), (208, .ireturn, 209, [], 0, []), (209, .aload_n 0, 210, [], 0, []), (210, .getfield 219, 213, [], 0, []), (213, .ifCond .le 62, 216, [275], 0, []), (216, .aload_n 0, 217, [], 0, []), (217, .getfield 72, 220, [], 0, []), (220, .aload_n 0, 221, [], 0, []), (221, .getfield 219, 224, [], 0, []), (224, .iconst 1, 225, [], 1, []), (225, .isub, 226, [], 0, []), (226, .iaload, 227, [], 0, []), (227, .aload_n 0, 228, [], 0, []), (228, .getfield 209, 231, [], 0, []), (231, .iconst 1, 232, [], 1, []), (232, .isub, 233, [], 0, []), (233, .if_icmp .ne 42, 236, [275], 0, []), (236, .aload_n 0, 237, [], 0, []), (237, .bipush 41, 239, [], 41, []), (239, .invokevirtual 247, 242, [], 0, []), (242, .ifCond .eq 11, 245, [253], 0, []), (245, .aload_n 0, 246, [], 0, []), (246, .invokevirtual 240, 249, [], 0, []), (249, .iconst (-1), 250, [], (-1), []), (250, .if_icmp .eq 21, 253, [271], 0, []), (253, .aload_n 0, 254, [], 0, []), (254, .bipush 93, 256, [], 93, []), (256, .invokevirtual 247, 259, [], 0, []), (259, .ifCond .eq 16, 262, [275], 0, []), (262, .aload_n 0, 263, [], 0, []), (263, .invokevirtual 240, 266, [], 0, []), (266, .bipush (-3), 268, [], (-3), []), (268, .if_icmp .ne 7, 271, [275], 0, []), (271, .iconst 1, 272, [], 1, []), (272, .goto 4, 275, [276], 0, []), (275, .iconst 0, 276, [], 0, []), (276, .istore_n 2, 277, [], 0, []), (277, .iload_n 2, 278, [], 0, []), (278, .ifCond .ne 8, 281, [286], 0, []), (281, .aload_n 0, 282, [], 0, []), (282, .invokevirtual 212, 285, [], 0, []), (285, .pop, 286, [], 0, []), (286, .iload_n 2, 287, [], 0, []), (287, .ifCond .eq 15, 290, [302], 0, []), (290, .aload_n 0, 291, [], 0, []), (291, .iconst 0, 292, [], 0, []), (292, .invokevirtual 250, 295, [], 0, []), (295, .ifCond .eq 7, 298, [302], 0, []), (298, .iconst 0, 299, [], 0, []), (299, .goto 4, 302, [303], 0, []), (302, .iconst (-1), 303, [], (-1), []), (303, .ireturn, 304, [], 0, [])]
/-- BlockFrontModel.apply(II)I -/
def am_c162 : List (Nat × Instr × Nat × List Nat × Int32 × List Int32) := [(0, .aload_n 0, 1, [], 0, []), (1, .iload_n 1, 2, [], 0, []), (2, .aload_n 0, 3, [], 0, []), (3, .getfield 209, 6, [], 0, []), (6, .invokevirtual 225, 9, [], 0, []), (9, .istore_n 3, 10, [], 0, []), (10, .aload_n 0, 11, [], 0, []), (11, .dup, 12, [], 0, []), (12, .getfield 216, 15, [], 0, []), (15, .iconst 1, 16, [], 1, []), (16, .isub, 17, [], 0, []), (17, .putfield 216, 20, [], 0, []), (20, .aload_n 0, 21, [], 0, []), (21, .iload_n 3, 22, [], 0, []), (22, .aload_n 0, 23, [], 0, []), (23, .getfield 78, 26, [], 0, []), (26, .aload_n 0, 27, [], 0, []), (27, .getfield 216, 30, [], 0, []), (30, .iaload, 31, [], 0, []), (31, .invokevirtual 229, 34, [], 0, []), (34, .aload_n 0, 35, [], 0, []), (35, .iload_n 2, 36, [], 0, []), (36, .iload_n 3, 37, [], 0, []), (37, .invokevirtual 244, 40, [], 0, []), (40, .ifCond .eq 7, 43, [47], 0, []), (43, .iconst 1, 44, [], 1, []), (44, .goto 4, 47, [48], 0, []), (47, .iconst (-1), 48, [], (-1), []), (48, .ireturn, 49, [], 0, [])]
/-- BlockFrontModel.member()I -/
def am_c163 : List (Nat × Instr × Nat × List Nat × Int32 × List Int32) := [(0, .aload_n 0, 1, [], 0, []), (1, .dup, 2, [], 0, []), (2, .getfield 209, 5, [], 0, []), (5, .iconst 1, 6, [], 1, []), (6, .iadd, 7, [], 0, []), (7, .putfield 209, 10, [], 0, []), (10, .aload_n 0, 11, [], 0, []), (11, .getfield 20, 14, [], 0, []), (14, .aload_n 0, 15, [], 0, []), (15, .getfield 209, 18, [], 0, []), (18, .iaload, 19, [], 0, []), (19, .iconst 1, 20, [], 1, []), (20, .if_icmp .eq 10, 23, [30], 0, []), (23, .aload_n 0, 24, [], 0, []), (24, .invokevirtual 212, 27, [], 0, []), (27, .pop, 28, [], 0, []), (28, .iconst (-1), 29, [], (-1), []), (29, .ireturn, 30, [], 0, []), (30, .aload_n 0, 31, [], 0, []), (31, .bipush 19, 33, [], 19, []), (33, .aload_n 0, 34, [], 0, []), (34, .getfield 209, 37, [], 0, []), (37, .invokevirtual 225, 40, [], 0, []), (40, .istore_n 1, 41, [], 0, []), (41, .aload_n 0, 42, [], 0, []), (42, .dup, 43, [], 0, []), (43, .getfield 216, 46, [], 0, []), (46, .iconst 1, 47, [], 1, []), (47, .isub, 48, [], 0, []), (48, .putfield 216, 51, [], 0, []), (51, .aload_n 0, 52, [], 0, []), (52, .iload_n 1, 53, [], 0, []), (53, .aload_n 0, 54, [], 0, []), (54, .getfield 78, 57, [], 0, []), (57, .aload_n 0, 58, [], 0, []), (58, .getfield 216, 61, [], 0, []), (61, .iaload, 62, [], 0, []), (62, .invokevirtual 229, 65, [], 0, []), (65, .aload_n 0, 66, [], 0, []), (66, .dup, 67, [], 0, []), (67, .getfield 209, 70, [], 0, []), (70, .iconst 1, 71, [], 1, []), (71, .iadd, 72, [], 0, []), (72, .putfield 209, 75, [], 0, []), (75, .aload_n 0, 76, [], 0, []), (76, .iload_n 1, 77, [], 0, []), (77, .invokevirtual 233, 80, [], 0, []), (80, .ifCond .eq 7, 83, [87], 0, []), (83, .iconst 0, 84, [], 0, []), (84, .goto 4, 87, [88], 0, []), (87, .iconst (-1), 88, [], (-1), []), (88, .ireturn, 89, [], 0, [])]
/-- BlockFrontModel.behind()I -/
def am_c164 : List (Nat × Instr × Nat × List Nat × Int32 × List Int32) := [(0, .aload_n 0, 1, [], 0, []), (1, .bipush 40, 3, [], 40, []), (3, .invokevirtual 247, 6, [], 0, []), (6, .ifCond .eq 11, 9, [17], 0, []), (9, .aload_n 0, 10, [], 0, []), (10, .bipush 17, 12, [], 17, []), (12, .iconst (-1), 13, [], (-1), []), (13, .invokevirtual 254, 16, [], 0, []), (16, .ireturn, 17, [], 0, []), (17, .aload_n 0, 18, [], 0, []), (18, .bipush 91, 20, [], 91, []), (20, .invokevirtual 247, 23, [], 0, []), (23, .ifCond .eq 12, 26, [35], 0, []), (26, .aload_n 0, 27, [], 0, []), (27, .bipush 18, 29, [], 18, []), (29, .bipush (-2), 31, [], (-2), []), (31, .invokevirtual 254, 34, [], 0, []), (34, .ireturn, 35, [], 0, []), (35, .aload_n 0, 36, [], 0, []), (36, .bipush 46, 38, [], 46, []), (38, .invokevirtual 247, 41, [], 0, []), (41, .ifCond .eq 8, 44, [49], 0, []), (44, .aload_n 0, 45, [], 0, []), (45, .invokevirtual 257, 48, [], 0, []), (48, .ireturn, 49, [], 0, []), (49, .aload_n 0, 50, [], 0, []), (50, .invokevirtual 260, 53, [], 0, []), (53, .istore_n 1, 54, [], 0, []), (54, .iload_n 1, 55, [], 0, []), (55, .ifCond .le 50, 58, [105], 0, []), (58, .aload_n 0, 59, [], 0, []), (59, .iload_n 1, 60, [], 0, []), (60, .iconst 4, 61, [], 4, []), (61, .if_icmp .ne 7, 64, [68], 0, []), (64, .iconst 5, 65, [], 5, []), (65, .goto 4, 68, [69], 0, []), (68, .iload_n 1, 69, [], 0, []), (69, .invokevirtual 263, 72, [], 0, []), (72, .ifCond .ne 5, 75, [77], 0, []), (75, .iconst (-1), 76, [], (-1), []), (76, .ireturn, 77, [], 0, []), (77, .iload_n 1, 78, [], 0, []), (78, .iconst 4, 79, [], 4, []), (79, .if_icmp .ne 11, 82, [90], 0, []), (82, .aload_n 0, 83, [], 0, []), (83, .invokevirtual 240, 86, [], 0, []), (86, .iconst 4, 87, [], 4, []), (87, .if_icmp .eq 18, 90, [105], 0, []), (90, .aload_n 0, 91, [], 0, []), (91, .iload_n 1, 92, [], 0, []), (92, .iconst (-1), 93, [], (-1), []), (93, .invokevirtual 244, 96, [], 0, []), (96, .ifCond .eq 7, 99, [103], 0, []), (99, .iconst 1, 100, [], 1, []), (100, .goto 4, 103, [104], 0, []), (103, .iconst (-1), 104, [], (-1), []), (104, .ireturn, 105, [], 0, []), (105, .aload_n 0, 106, [], 0, []), (106, .iconst 1, 107, [], 1, []), (107, .invokevirtual 263, 110, [], 0, []), (110, .ifCond .ne 5, 113, [115], 0, []), (113, .iconst (-1), 114, [], (-1), []), (114, .ireturn, 115, [], 0, []), (115, .aload_n 0, 116, [], 0, []), (116, .getfield 219, 119, [], 0, []), (119, .ifCond .ne 5, 122, [124], 0, []), (122, .iconst 2, 123, [], 2, []), (123, .ireturn, 124, [], 0, []), (124, .aload_n 0, 125, [], 0, []), (125, .invokevirtual 240, 128, [], 0, []), (128, .istore_n 2, 129, [], 0, []), (129, .aload_n 0, 130, [], 0, []), (130, .bipush 44, 132, [], 44, []), (132, .invokevirtual 247, 135, [], 0, []), (135, .ifCond .eq 60, 138, [195], 0, []), (138, .iload_n 2, 139, [], 0, []), (139, .iconst (-1), 140, [], (-1), []), (140, .if_icmp .eq 9, 143, [149], 0, []), (143, .iload_n 2, 144, [], 0, []), (144, .bipush (-3), 146, [], (-3), []), (146, .if_icmp .ne 49, 149, [195], 0, []), (149, .aload_n 0, 150, [], 0, []), (150, .dup, 151, [], 0, []), (151, .getfield 216, 154, [], 0, []), (154, .iconst 1, 155, [], 1, []), (155, .isub, 156, [], 0, []), (156, .putfield 216, 159, [], 0, []), (159, .aload_n 0, 160, [], 0, []), (160, .aload_n 0, 161, [], 0, []), (161, .getfield 75, 164, [], 0, []), (164, .aload_n 0, 165, [], 0, []), (165, .getfield 219, 168, [], 0, []), (168, .iconst 1, 169, [], 1, []), (169, .isub, 170, [], 0, []), (170, .iaload, 171, [], 0, []), (171, .aload_n 0, 172, [], 0, []), (172, .getfield 78, 175, [], 0, []), (175, .aload_n 0, 176, [], 0, []), (176, .getfield 216, 179, [], 0, []), (179, .iaload, 180, [], 0, []), (180, .invokevirtual 229, 183, [], 0, []), (183, .aload_n 0, 184, [], 0, []), (184, .dup, 185, [], 0, []), (185, .getfield 209, 188, [], 0, []), (188, .iconst 1, 189, [], 1, []), (189, .iadd, 190, [], 0, []), (190, .putfield 209, 193, [], 0, []), (193, .iconst 1, 194, [], 1, []), (194, .ireturn, 195, [], 0, []), (195, .aload_n 0, 196, [], 0, []), (196, .bipush 41, 198, [], 41, []), (198, .invokevirtual 247, 201, [], 0, []), (201, .ifCond .eq 12, 204, [213], 0, []), (204, .iload_n 2, 205, [], 0, []), (205, .ifCond .eq 22, 208, [227], 0, []), (208, .iload_n 2, 209, [], 0, []), (209, .iconst (-1), 210, [], (-1), []), (210, .if_icmp .eq 17, 213, [227], 0, []), (213, .aload_n 0, 214, [], 0, []), (214, .bipush 93, 216, [], 93, []), (216, .invokevirtual 247, 219, [], 0, []), (219, .ifCond .eq 22, 222, [241], 0, []), (222, .iload_n 2, 223, [], 0, []), (223, .iconst (-1), 224, [], (-1), []), (224, .if_icmp .ge 17, 227, [241], 0, []), (227, .aload_n 0, 228, [], 0, []), (228, .iconst 1, 229, [], 1, []), (229, .invokevirtual 250, 232, [], 0, []), (232, .ifCond .eq 7, 235, [239], 0, []), (235, .iconst 0, 236, [], 0, []), (236, .goto 4, 239, [240], 0, []), (239, .iconst (-1), 240, [], (-1), []), (240, .ireturn, 241, [], 0, []), (241, .aload_n 0, 242, [], 0, []), (242, .invokevirtual 212, 245, [], 0, []), (245, .pop, 246, [], 0, []), (246, .iconst (-1), 247, [], (-1), []), (247, .ireturn, 248, [], 0, [])]
end
section
/-- BlockFrontModel.expression()I -/
def am_c165 : List (Nat × Instr × Nat × List Nat × Int32 × List Int32) := [(0, .aload_n 0, 1, [], 0, []), (1, .iconst 0, 2, [], 0, []), (2, .putfield 219, 5, [], 0, []), (5, .aload_n 0, 6, [], 0, []), (6, .iconst 0, 7, [], 0, []), (7, .putfield 216, 10, [], 0, []), (10, .iconst 1, 11, [], 1, []), (11, .istore_n 1, 12, [], 0, []), (12, .iload_n 1, 13, [], 0, []), (13, .ifCond .eq 8, 16, [21], 0, []), (16, .iload_n 1, 17, [], 0, []), (17, .iconst 1, 18, [], 1, []), (18, .if_icmp .ne 23, 21, [41], 0, []), (21, .iload_n 1, 22, [], 0, []), (22, .iconst 1, 23, [], 1, []), (23, .if_icmp .ne 10, 26, [33], 0, []), (26, .aload_n 0, 27, [], 0, []), (27, .invokevirtual 266, 30, [], 0, []), (30, .goto 7, 33, [37], 0, []), (33, .aload_n 0, 34, [], 0, []), (34, .invokevirtual 269, 37, [], 0, []), (37, .istore_n 1, 38, [], 0, []), (38, .goto (-26), 41, [12], 0, []), (41, .iload_n 1, 42, [], 0, []), (42, .iconst 2, 43, [], 2, []), (43, .if_icmp .ne 12, 46, [55], 0, []), (46, .aload_n 0, 47, [], 0, []), (47, .getfield 78, 50, [], 0, []), (50, .iconst 0, 51, [], 0, []), (51, .iaload, 52, [], 0, []), (52, .goto 4, 55, [56], 0, []), (55, .iconst (-1), 56, [], (-1), []), (56, .ireturn, 57, [], 0, [])]
/-- BlockFrontModel.expressionOf(I)Z -/
def am_c166 : List (Nat × Instr × Nat × List Nat × Int32 × List Int32) := [(0, .aload_n 0, 1, [], 0, []), (1, .invokevirtual 272, 4, [], 0, []), (4, .istore_n 2, 5, [], 0, []), (5, .iload_n 2, 6, [], 0, []), (6, .ifCond .ge 5, 9, [11], 0, []), (9, .iconst 0, 10, [], 0, []), (10, .ireturn, 11, [], 0, []), (11, .aload_n 0, 12, [], 0, []), (12, .iload_n 1, 13, [], 0, []), (13, .iload_n 2, 14, [], 0, []), (14, .invokevirtual 229, 17, [], 0, []), (17, .iconst 1, 18, [], 1, []), (18, .ireturn, 19, [], 0, [])]
/-- BlockFrontModel.small(I)Z -/
def am_c167 : List (Nat × Instr × Nat × List Nat × Int32 × List Int32) := [(0, .aload_n 0, 1, [], 0, []), (1, .ldc2_w 165, 4, [], 0, []), (4, .invokevirtual 236, 7, [], 0, []), (7, .ifCond .ne 13, 10, [20], 0, []), (10, .aload_n 0, 11, [], 0, []), (11, .ldc2_w 177, 14, [], 0, []), (14, .invokevirtual 236, 17, [], 0, []), (17, .ifCond .eq 43, 20, [60], 0, []), (20, .aload_n 0, 21, [], 0, []), (21, .iload_n 1, 22, [], 0, []), (22, .aload_n 0, 23, [], 0, []), (23, .aload_n 0, 24, [], 0, []), (24, .ldc2_w 165, 27, [], 0, []), (27, .invokevirtual 236, 30, [], 0, []), (30, .ifCond .eq 7, 33, [37], 0, []), (33, .iconst 1, 34, [], 1, []), (34, .goto 4, 37, [38], 0, []), (37, .iconst 2, 38, [], 2, []), (38, .aload_n 0, 39, [], 0, []), (39, .getfield 209, 42, [], 0, []), (42, .invokevirtual 225, 45, [], 0, []), (45, .invokevirtual 229, 48, [], 0, []), (48, .aload_n 0, 49, [], 0, []), (49, .dup, 50, [], 0, []), (50, .getfield 209, 53, [], 0, []), (53, .iconst 1, 54, [], 1, []), (54, .iadd, 55, [], 0, []), (55, .putfield 209, 58, [], 0, []), (58, .iconst 1, 59, [], 1, []), (59, .ireturn, 60, [], 0, []), (60, .aload_n 0, 61, [], 0, []), (61, .ldc2_w 175, 64, [], 0, []), (64, .invokevirtual 236, 67, [], 0, []), (67, .ifCond .eq 66, 70, [133], 0, []), (70, .aload_n 0, 71, [], 0, []), (71, .iconst 3, 72, [], 3, []), (72, .aload_n 0, 73, [], 0, []), (73, .getfield 209, 76, [], 0, []), (76, .invokevirtual 225, 79, [], 0, []), (79, .istore_n 2, 80, [], 0, []), (80, .aload_n 0, 81, [], 0, []), (81, .iload_n 1, 82, [], 0, []), (82, .iload_n 2, 83, [], 0, []), (83, .invokevirtual 229, 86, [], 0, []), (86, .aload_n 0, 87, [], 0, []), (87, .dup, 88, [], 0, []), (88, .getfield 209, 91, [], 0, []), (91, .iconst 1, 92, [], 1, []), (92, .iadd, 93, [], 0, []), (93, .putfield 209, 96, [], 0, []), (96, .aload_n 0, 97, [], 0, []), (97, .getfield 20, 100, [], 0, []), (100, .aload_n 0, 101, [], 0, []), (101, .getfield 209, 104, [], 0, []), (104, .iaload, 105, [], 0, []), (105, .bipush 6, 107, [], 6, []), (107, .if_icmp .eq 20, 110, [127], 0, []), (110, .aload_n 0, 111, [], 0, []), (111, .bipush 59, 113, [], 59, []), (113, .invokevirtual 247, 116, [], 0, []), (116, .ifCond .ne 11, 119, [127], 0, []), (119, .aload_n 0, 120, [], 0, []), (120, .iload_n 2, 121, [], 0, []), (121, .invokevirtual 275, 124, [], 0, []), (124, .ifCond .eq 7, 127, [131], 0, []), (127, .iconst 1, 128, [], 1, []), (128, .goto 4, 131, [132], 0, []), (131, .iconst 0, 132, [], 0, []), (132, .ireturn, 133, [], 0, []), (133, .aload_n 0, 134, [], 0, []), (134, .getfield 20, 137, [], 0, []), (137, .aload_n 0, 138, [], 0, []), (138, .getfield 209, 141, [], 0, []), (141, .iaload, 142, [], 0, []), (142, .iconst 1, 143, [], 1, []), (143, .if_icmp .ne 40, 146, [183], 0, []), (146, .aload_n 0, 147, [], 0, []), (147, .getfield 20, 150, [], 0, []), (150, .aload_n 0, 151, [], 0, []), (151, .getfield 209, 154, [], 0, []), (154, .iconst 1, 155, [], 1, []), (155, .iadd, 156, [], 0, []), (156, .iaload, 157, [], 0, []), (157, .iconst 5, 158, [], 5, []), (158, .if_icmp .ne 25, 161, [183], 0, []), (161, .aload_n 0, 162, [], 0, []), (162, .getfield 29, 165, [], 0, []), (165, .aload_n 0, 166, [], 0, []), (166, .getfield 209, 169, [], 0, []), (169, .iconst 1, 170, [], 1, []), (170, .iadd, 171, [], 0, []), (171, .laload, 172, [], 0, []), (172, .ldc2_w 278, 175, [], 0, []), (175, .lcmp, 176, [], 0, []), (176, .ifCond .ne 7, 179, [183], 0, []), (179, .iconst 1, 180, [], 1, []), (180, .goto 4, 183, [184], 0, []), (183, .iconst 0, 184, [], 0, []), (184, .istore_n 2, 185, [], 0, []), (185, .iload_n 2, 186, [], 0, []), (186, .ifCond .eq 35, 189, [221], 0, []), (189, .aload_n 0, 190, [], 0, []), (190, .iconst 4, 191, [], 4, []), (191, .aload_n 0, 192, [], 0, []), (192, .getfield 209, 195, [], 0, []), (195, .invokevirtual 225, 198, [], 0, []), (198, .istore_n 3, 199, [], 0, []), (199, .aload_n 0, 200, [], 0, []), (200, .iload_n 1, 201, [], 0, []), (201, .iload_n 3, 202, [], 0, []), (202, .invokevirtual 229, 205, [], 0, []), (205, .aload_n 0, 206, [], 0, []), (206, .dup, 207, [], 0, []), (207, .getfield 209, 210, [], 0, []), (210, .iconst 2, 211, [], 2, []), (211, .iadd, 212, [], 0, []), (212, .putfield 209, 215, [], 0, []), (215, .aload_n 0, 216, [], 0, []), (216, .iload_n 3, 217, [], 0, []), (217, .invokevirtual 275, 220, [], 0, []), (220, .ireturn, 221, [], 0, []), (221, .aload_n 0, 222, [], 0, []), (222, .iconst 5, 223, [], 5, []), (223, .aload_n 0, 224, [], 0, []), (224, .getfield 209, 227, [], 0, []), (227, .invokevirtual 225, 230, [], 0, []), (230, .istore_n 3, 231, [], 0, []), (231, .aload_n 0, 232, [], 0, []), (232, .iload_n 1, 233, [], 0, []), (233, .iload_n 3, 234, [], 0, []), (234, .invokevirtual 229, 237, [], 0, []), (237, .aload_n 0, 238, [], 0, []), (238, .iload_n 3, 239, [], 0, []), (239, .invokevirtual 275, 242, [], 0, []), (242, .ifCond .ne 5, 245, [247], 0, []), (245, .iconst 0, 246, [], 0, []), (246, .ireturn, 247, [], 0, []), (247, .aload_n 0, 248, [], 0, []), (248, .getfield 45, 251, [], 0, []), (251, .iload_n 3, 252, [], 0, []), (252, .aload_n 0, 253, [], 0, []), (253, .getfield 45, 256, [], 0, []), (256, .aload_n 0, 257, [], 0, []), (257, .getfield 51, 260, [], 0, []), (260, .iload_n 3, 261, [], 0, []), (261, .iaload, 262, [], 0, []), (262, .iaload, 263, [], 0, []), (263, .iastore, 264, [], 0, []), (264, .iconst 1, 265, [], 1, []), (265, .ireturn, 266, [], 0, [])]
/-- BlockFrontModel.line(I)Z -/
def am_c168 : List (Nat × Instr × Nat × List Nat × Int32 × List Int32) := [(0, .iconst 1, 1, [], 1, []), (1, .istore_n 2, 2, [], 0, []), (2, .iload_n 2, 3, [], 0, []), (3, .ifCond .eq 68, 6, [71], 0, []), (6, .aload_n 0, 7, [], 0, []), (7, .iload_n 1, 8, [], 0, []), (8, .invokevirtual 280, 11, [], 0, []), (11, .ifCond .ne 5, 14, [16], 0, []), (14, .iconst 0, 15, [], 0, []), (15, .ireturn, 16, [], 0, []), (16, .aload_n 0, 17, [], 0, []), (17, .bipush 59, 19, [], 59, []), (19, .invokevirtual 247, 22, [], 0, []), (22, .istore_n 2, 23, [], 0, []), (23, .aload_n 0, 24, [], 0, []), (24, .iload_n 2, 25, [], 0, []), (25, .ifCond .eq 12, 28, [37], 0, []), (28, .aload_n 0, 29, [], 0, []), (29, .getfield 209, 32, [], 0, []), (32, .iconst 1, 33, [], 1, []), (33, .iadd, 34, [], 0, []), (34, .goto 7, 37, [41], 0, []), (37, .aload_n 0, 38, [], 0, []), (38, .getfield 209, 41, [], 0, []), (41, .putfield 209, 44, [], 0, []), (44, .iload_n 2, 45, [], 0, []), (45, .ifCond .eq 21, 48, [66], 0, []), (48, .aload_n 0, 49, [], 0, []), (49, .getfield 20, 52, [], 0, []), (52, .aload_n 0, 53, [], 0, []), (53, .getfield 209, 56, [], 0, []), (56, .iaload, 57, [], 0, []), (57, .bipush 6, 59, [], 6, []), (59, .if_icmp .eq 7, 62, [66], 0, []), (62, .iconst 1, 63, [], 1, []), (63, .goto 4, 66, [67], 0, []), (66, .iconst 0, 67, [], 0, []), (67, .istore_n 2, 68, [], 0, []), (68, .goto (-66), 71, [2], 0, []), (71, .aload_n 0, 72, [], 0, []), (72, .aload_n 0, 73, [], 0, []), (73, .getfield 20, 76, [], 0, []), (76, .aload_n 0, 77, [], 0, []), (77, .getfield 209, 80, [], 0, []), (80, .iaload, 81, [], 0, []), (81, .bipush 6, 83, [], 6, []), (83, .if_icmp .ne 7, 86, [90], 0, []), (86, .iconst 1, 87, [], 1, []), (87, .goto 4, 90, [91], 0, []), (90, .iconst 0, 91, [], 0, []), (91, .invokevirtual 283, 94, [], 0, []), (94, .ireturn, 95, [], 0, [])]
/-- BlockFrontModel.parameters(I)Z -/
def am_c169 : List (Nat × Instr × Nat × List Nat × Int32 × List Int32) := [(0, .aload_n 0, 1, [], 0, []), (1, .getfield 45, 4, [], 0, []), (4, .iload_n 1, 5, [], 0, []), (5, .aload_n 0, 6, [], 0, []), (6, .getfield 209, 9, [], 0, []), (9, .iastore, 10, [], 0, []), (10, .aload_n 0, 11, [], 0, []), (11, .aload_n 0, 12, [], 0, []), (12, .getfield 20, 15, [], 0, []), (15, .aload_n 0, 16, [], 0, []), (16, .getfield 209, 19, [], 0, []), (19, .iaload, 20, [], 0, []), (20, .iconst 1, 21, [], 1, []), (21, .if_icmp .ne 7, 24, [28], 0, []), (24, .iconst 1, 25, [], 1, []), (25, .goto 4, 28, [29], 0, []), (28, .iconst 0, 29, [], 0, []), (29, .invokevirtual 283, 32, [], 0, []), (32, .ifCond .eq 16, 35, [48], 0, []), (35, .aload_n 0, 36, [], 0, []), (36, .aload_n 0, 37, [], 0, []), (37, .bipush 40, 39, [], 40, []), (39, .invokevirtual 247, 42, [], 0, []), (42, .invokevirtual 283, 45, [], 0, []), (45, .ifCond .ne 5, 48, [50], 0, []), (48, .iconst 0, 49, [], 0, []), (49, .ireturn, 50, [], 0, []), (50, .aload_n 0, 51, [], 0, []), (51, .bipush 41, 53, [], 41, []), (53, .invokevirtual 247, 56, [], 0, []), (56, .ifCond .ne 7, 59, [63], 0, []), (59, .iconst 1, 60, [], 1, []), (60, .goto 4, 63, [64], 0, []), (63, .iconst 0, 64, [], 0, []), (64, .istore_n 2, 65, [], 0, []), (65, .iload_n 2, 66, [], 0, []), (66, .ifCond .eq 77, 69, [143], 0, []), (69, .aload_n 0, 70, [], 0, []), (70, .getfield 20, 73, [], 0, []), (73, .aload_n 0, 74, [], 0, []), (74, .getfield 209, 77, [], 0, []), (77, .iaload, 78, [], 0, []), (78, .iconst 1, 79, [], 1, []), (79, .if_icmp .eq 8, 82, [87], 0, []), (82, .aload_n 0, 83, [], 0, []), (83, .invokevirtual 212, 86, [], 0, []), (86, .ireturn, 87, [], 0, []), (87, .aload_n 0, 88, [], 0, []), (88, .iload_n 1, 89, [], 0, []), (89, .aload_n 0, 90, [], 0, []), (90, .bipush 24, 92, [], 24, []), (92, .aload_n 0, 93, [], 0, []), (93, .getfield 209, 96, [], 0, []), (96, .invokevirtual 225, 99, [], 0, []), (99, .invokevirtual 229, 102, [], 0, []), (102, .aload_n 0, 103, [], 0, []), (103, .dup, 104, [], 0, []), (104, .getfield 209, 107, [], 0, []), (107, .iconst 1, 108, [], 1, []), (108, .iadd, 109, [], 0, []), (109, .putfield 209, 112, [], 0, []), (112, .aload_n 0, 113, [], 0, []), (113, .bipush 44, 115, [], 44, []), (115, .invokevirtual 247, 118, [], 0, []), (118, .istore_n 2, 119, [], 0, []), (119, .aload_n 0, 120, [], 0, []), (120, .iload_n 2, 121, [], 0, []), (121, .ifCond .eq 12, 124, [133], 0, []), (124, .aload_n 0, 125, [], 0, []), (125, .getfield 209, 128, [], 0, []), (128, .iconst 1, 129, [], 1, []), (129, .iadd, 130, [], 0, []), (130, .goto 7, 133, [137], 0, []), (133, .aload_n 0, 134, [], 0, []), (134, .getfield 209, 137, [], 0, []), (137, .putfield 209, 140, [], 0, []), (140, .goto (-75), 143, [65], 0, []), (143, .aload_n 0, 144, [], 0, []), (144, .aload_n 0, 145, [], 0, []), (145, .bipush 41, 147, [], 41, []), (147, .invokevirtual 247, 150, [], 0, []), (150, .invokevirtual 283, 153, [], 0, []), (153, .ifCond .eq 20, 156, [173], 0, []), (156, .aload_n 0, 157, [], 0, []), (157, .aload_n 0, 158, [], 0, []), (158, .bipush 58, 160, [], 58, []), (160, .invokevirtual 247, 163, [], 0, []), (163, .invokevirtual 283, 166, [], 0, []), (166, .ifCond .eq 7, 169, [173], 0, []), (169, .iconst 1, 170, [], 1, []), (170, .goto 4, 173, [174], 0, []), (173, .iconst 0, 174, [], 0, []), (174, .ireturn, 175, [], 0, [])]
/-- BlockFrontModel.head(I)Z -/
def am_c170 : List (Nat × Instr × Nat × List Nat × Int32 × List Int32) := [(0, .aload_n 0, 1, [], 0, []), (1, .dup, 2, [], 0, []), (2, .getfield 209, 5, [], 0, []), (5, .iconst 1, 6, [], 1, []), (6, .iadd, 7, [], 0, []), (7, .putfield 209, 10, [], 0, []), (10, .aload_n 0, 11, [], 0, []), (11, .getfield 42, 14, [], 0, []), (14, .iload_n 1, 15, [], 0, []), (15, .iaload, 16, [], 0, []), (16, .bipush 8, 18, [], 8, []), (18, .if_icmp .ne 11, 21, [29], 0, []), (21, .aload_n 0, 22, [], 0, []), (22, .iload_n 1, 23, [], 0, []), (23, .invokevirtual 286, 26, [], 0, []), (26, .goto 29, 29, [55], 0, []), (29, .aload_n 0, 30, [], 0, []), (30, .iload_n 1, 31, [], 0, []), (31, .invokevirtual 275, 34, [], 0, []), (34, .ifCond .eq 20, 37, [54], 0, []), (37, .aload_n 0, 38, [], 0, []), (38, .aload_n 0, 39, [], 0, []), (39, .bipush 58, 41, [], 58, []), (41, .invokevirtual 247, 44, [], 0, []), (44, .invokevirtual 283, 47, [], 0, []), (47, .ifCond .eq 7, 50, [54], 0, []), (50, .iconst 1, 51, [], 1, []), (51, .goto 4, 54, [55], 0, []), (54, .iconst 0, 55, [], 0, []), (55, .ireturn, 56, [], 0, [])]
/-- BlockFrontModel.blockOf(I)I -/
def am_c171 : List (Nat × Instr × Nat × List Nat × Int32 × List Int32) := [(0, .aload_n 0, 1, [], 0, []), (1, .getfield 60, 4, [], 0, []), (4, .iload_n 1, 5, [], 0, []), (5, .iaload, 6, [], 0, []), (6, .istore_n 2, 7, [], 0, []), (7, .aload_n 0, 8, [], 0, []), (8, .getfield 42, 11, [], 0, []), (11, .iload_n 2, 12, [], 0, []), (12, .iaload, 13, [], 0, []), (13, .bipush 9, 15, [], 9, []), (15, .if_icmp .eq 13, 18, [28], 0, []), (18, .aload_n 0, 19, [], 0, []), (19, .getfield 60, 22, [], 0, []), (22, .iload_n 2, 23, [], 0, []), (23, .iaload, 24, [], 0, []), (24, .istore_n 2, 25, [], 0, []), (25, .goto (-18), 28, [7], 0, []), (28, .iload_n 2, 29, [], 0, []), (29, .ireturn, 30, [], 0, [])]
/-- BlockFrontModel.compound()I -/
def am_c172 : List (Nat × Instr × Nat × List Nat × Int32 × List Int32) := [(0, .aload_n 0, 1, [], 0, []), (1, .ldc2_w 157, 4, [], 0, []), (4, .invokevirtual 236, 7, [], 0, []), (7, .ifCond .eq 8, 10, [15], 0, []), (10, .bipush 6, 12, [], 6, []), (12, .goto 34, 15, [46], 0, []), (15, .aload_n 0, 16, [], 0, []), (16, .ldc2_w 173, 19, [], 0, []), (19, .invokevirtual 236, 22, [], 0, []), (22, .ifCond .eq 8, 25, [30], 0, []), (25, .bipush 7, 27, [], 7, []), (27, .goto 19, 30, [46], 0, []), (30, .aload_n 0, 31, [], 0, []), (31, .ldc2_w 163, 34, [], 0, []), (34, .invokevirtual 236, 37, [], 0, []), (37, .ifCond .eq 8, 40, [45], 0, []), (40, .bipush 8, 42, [], 8, []), (42, .goto 4, 45, [46], 0, []), (45, .iconst 0, 46, [], 0, []), (46, .ireturn, 47, [], 0, [])]
/-- BlockFrontModel.parse()Z -/
def am_c173 : List (Nat × Instr × Nat × List Nat × Int32 × List Int32) := [(0, .aload_n 0, 1, [], 0, []), (1, .iconst 0, 2, [], 0, []), (2, .putfield 206, 5, [], 0, []), (5, .aload_n 0, 6, [], 0, []), (6, .iconst 0, 7, [], 0, []), (7, .putfield 209, 10, [], 0, []), (10, .aload_n 0, 11, [], 0, []), (11, .bipush 9, 13, [], 9, []), (13, .iconst 0, 14, [], 0, []), (14, .invokevirtual 225, 17, [], 0, []), (17, .istore_n 1, 18, [], 0, []), (18, .iconst 0, 19, [], 0, []), (19, .istore_n 2, 20, [], 0, []), (20, .iconst 0, 21, [], 0, []), (21, .istore_n 3, 22, [], 0, []), (22, .iload_n 2, 23, [], 0, []), (23, .ifCond .gt 21, 26, [44], 0, []), (26, .iload_n 1, 27, [], 0, []), (27, .ifCond .gt 17, 30, [44], 0, []), (30, .aload_n 0, 31, [], 0, []), (31, .getfield 20, 34, [], 0, []), (34, .aload_n 0, 35, [], 0, []), (35, .getfield 209, 38, [], 0, []), (38, .iaload, 39, [], 0, []), (39, .bipush 9, 41, [], 9, []), (41, .if_icmp .eq 375, 44, [416], 0, []), (44, .iconst 1, 45, [], 1, []), (45, .istore 4, 47, [], 0, []), (47, .iload_n 2, 48, [], 0, []), (48, .iconst 2, 49, [], 2, []), (49, .if_icmp .ne 130, 52, [179], 0, []), (52, .aload_n 0, 53, [], 0, []), (53, .bipush 9, 55, [], 9, []), (55, .aload_n 0, 56, [], 0, []), (56, .getfield 209, 59, [], 0, []), (59, .invokevirtual 225, 62, [], 0, []), (62, .istore 5, 64, [], 0, []), (64, .aload_n 0, 65, [], 0, []), (65, .iload_n 3, 66, [], 0, []), (66, .iload 5, 68, [], 0, []), (68, .invokevirtual 229, 71, [], 0, []), (71, .aload_n 0, 72, [], 0, []), (72, .getfield 20, 75, [], 0, []), (75, .aload_n 0, 76, [], 0, []), (76, .getfield 209, 79, [], 0, []), (79, .iaload, 80, [], 0, []), (80, .bipush 6, 82, [], 6, []), (82, .if_icmp .ne 7, 85, [89], 0, []), (85, .iconst 1, 86, [], 1, []), (86, .goto 4, 89, [90], 0, []), (89, .iconst 0, 90, [], 0, []), (90, .istore 6, 92, [], 0, []), (92, .aload_n 0, 93, [], 0, []), (93, .iload 6, 95, [], 0, []), (95, .ifCond .eq 12, 98, [107], 0, []), (98, .aload_n 0, 99, [], 0, []), (99, .getfield 209, 102, [], 0, []), (102, .iconst 1, 103, [], 1, []), (103, .iadd, 104, [], 0, []), (104, .goto 7, 107, [111], 0, []), (107, .aload_n 0, 108, [], 0, []), (108, .getfield 209, 111, [], 0, []), (111, .putfield 209, 114, [], 0, []), (114, .iload 6, 116, [], 0, []), (116, .ifCond .eq 29, 119, [145], 0, []), (119, .aload_n 0, 120, [], 0, []), (120, .aload_n 0, 121, [], 0, []), (121, .getfield 20, 124, [], 0, []), (124, .aload_n 0, 125, [], 0, []), (125, .getfield 209, 128, [], 0, []), (128, .iaload, 129, [], 0, []), (129, .bipush 7, 131, [], 7, []), (131, .if_icmp .ne 7, 134, [138], 0, []), (134, .iconst 1, 135, [], 1, []), (135, .goto 4, 138, [139], 0, []), (138, .iconst 0, 139, [], 0, []), (139, .invokevirtual 283, 142, [], 0, []), (142, .goto 9, 145, [151], 0, []), (145, .aload_n 0, 146, [], 0, []), (146, .iload 5, 148, [], 0, []), (148, .invokevirtual 289, 151, [], 0, []), (151, .istore 4, 153, [], 0, []), (153, .iload 6, 155, [], 0, []), (155, .ifCond .eq 8, 158, [163], 0, []), (158, .iload 5, 160, [], 0, []), (160, .goto 4, 163, [164], 0, []), (163, .iload_n 1, 164, [], 0, []), (164, .istore_n 1, 165, [], 0, []), (165, .iload 6, 167, [], 0, []), (167, .ifCond .eq 7, 170, [174], 0, []), (170, .iconst 0, 171, [], 0, []), (171, .goto 4, 174, [175], 0, []), (174, .iconst 1, 175, [], 1, []), (175, .istore_n 2, 176, [], 0, []), (176, .goto 230, 179, [406], 0, []), (179, .iload_n 2, 180, [], 0, []), (180, .iconst 1, 181, [], 1, []), (181, .if_icmp .ne 125, 184, [306], 0, []), (184, .aload_n 0, 185, [], 0, []), (185, .getfield 42, 188, [], 0, []), (188, .iload_n 3, 189, [], 0, []), (189, .iaload, 190, [], 0, []), (190, .bipush 6, 192, [], 6, []), (192, .if_icmp .ne 17, 195, [209], 0, []), (195, .aload_n 0, 196, [], 0, []), (196, .getfield 48, 199, [], 0, []), (199, .iload_n 3, 200, [], 0, []), (200, .iaload, 201, [], 0, []), (201, .iconst 2, 202, [], 2, []), (202, .if_icmp .ne 7, 205, [209], 0, []), (205, .iconst 1, 206, [], 1, []), (206, .goto 4, 209, [210], 0, []), (209, .iconst 0, 210, [], 0, []), (210, .istore 5, 212, [], 0, []), (212, .iconst 0, 213, [], 0, []), (213, .istore_n 2, 214, [], 0, []), (214, .iload 5, 216, [], 0, []), (216, .ifCond .eq 48, 219, [264], 0, []), (219, .aload_n 0, 220, [], 0, []), (220, .ldc2_w 159, 223, [], 0, []), (223, .invokevirtual 236, 226, [], 0, []), (226, .ifCond .eq 38, 229, [264], 0, []), (229, .aload_n 0, 230, [], 0, []), (230, .bipush 6, 232, [], 6, []), (232, .aload_n 0, 233, [], 0, []), (233, .getfield 209, 236, [], 0, []), (236, .invokevirtual 225, 239, [], 0, []), (239, .istore 6, 241, [], 0, []), (241, .aload_n 0, 242, [], 0, []), (242, .iload_n 3, 243, [], 0, []), (243, .iload 6, 245, [], 0, []), (245, .invokevirtual 229, 248, [], 0, []), (248, .iload 6, 250, [], 0, []), (250, .istore_n 3, 251, [], 0, []), (251, .iconst 2, 252, [], 2, []), (252, .istore_n 2, 253, [], 0, []), (253, .aload_n 0, 254, [], 0, []), (254, .iload 6, 256, [], 0, []), (256, .invokevirtual 292, 259, [], 0, []), (259, .istore 4, 261, [], 0, []), (261, .goto 42, 264, [303], 0, []), (264, .iload 5, 266, [], 0, []), (266, .ifCond .eq 37, 269, [303], 0, []), (269, .aload_n 0, 270, [], 0, []), (270, .ldc2_w 161, 273, [], 0, []), (273, .invokevirtual 236, 276, [], 0, []), (276, .ifCond .eq 27, 279, [303], 0, []), (279, .aload_n 0, 280, [], 0, []), (280, .dup, 281, [], 0, []), (281, .getfield 209, 284, [], 0, []), (284, .iconst 1, 285, [], 1, []), (285, .iadd, 286, [], 0, []), (286, .putfield 209, 289, [], 0, []), (289, .iconst 2, 290, [], 2, []), (290, .istore_n 2, 291, [], 0, []), (291, .aload_n 0, 292, [], 0, []), (292, .aload_n 0, 293, [], 0, []), (293, .bipush 58, 295, [], 58, []), (295, .invokevirtual 247, 298, [], 0, []), (298, .invokevirtual 283, 301, [], 0, []), (301, .istore 4, 303, [], 0, []), (303, .goto 103, 306, [406], 0, []), (306, .aload_n 0, 307, [], 0, []), (307, .getfield 20, 310, [], 0, []), (310, .aload_n 0, 311, [], 0, []), (311, .getfield 209, 314, [], 0, []), (314, .iaload, 315, [], 0, []), (315, .bipush 8, 317, [], 8, []), (317, .if_icmp .ne 44, 320, [361], 0, []), (320, .iload_n 1, 321, [], 0, []), (321, .ifCond .le 40, 324, [361], 0, []), (324, .aload_n 0, 325, [], 0, []), (325, .getfield 48, 328, [], 0, []), (328, .iload_n 1, 329, [], 0, []), (329, .iaload, 330, [], 0, []), (330, .ifCond .le 31, 333, [361], 0, []), (333, .aload_n 0, 334, [], 0, []), (334, .dup, 335, [], 0, []), (335, .getfield 209, 338, [], 0, []), (338, .iconst 1, 339, [], 1, []), (339, .iadd, 340, [], 0, []), (340, .putfield 209, 343, [], 0, []), (343, .aload_n 0, 344, [], 0, []), (344, .getfield 60, 347, [], 0, []), (347, .iload_n 1, 348, [], 0, []), (348, .iaload, 349, [], 0, []), (349, .istore_n 3, 350, [], 0, []), (350, .aload_n 0, 351, [], 0, []), (351, .iload_n 3, 352, [], 0, []), (352, .invokevirtual 295, 355, [], 0, []), (355, .istore_n 1, 356, [], 0, []), (356, .iconst 1, 357, [], 1, []), (357, .istore_n 2, 358, [], 0, []), (358, .goto 48, 361, [406], 0, []), (361, .aload_n 0, 362, [], 0, []), (362, .invokevirtual 298, 365, [], 0, []), (365, .ifCond .le 34, 368, [399], 0, []), (368, .aload_n 0, 369, [], 0, []), (369, .aload_n 0, 370, [], 0, []), (370, .invokevirtual 298, 373, [], 0, []), (373, .aload_n 0, 374, [], 0, []), (374, .getfield 209, 377, [], 0, []), (377, .invokevirtual 225, 380, [], 0, []), (380, .istore_n 3, 381, [], 0, []), (381, .aload_n 0, 382, [], 0, []), (382, .iload_n 1, 383, [], 0, []), (383, .iload_n 3, 384, [], 0, []), (384, .invokevirtual 229, 387, [], 0, []), (387, .iconst 2, 388, [], 2, []), (388, .istore_n 2, 389, [], 0, []), (389, .aload_n 0, 390, [], 0, []), (390, .iload_n 3, 391, [], 0, []), (391, .invokevirtual 292, 394, [], 0, []), (394, .istore 4, 396, [], 0, []), (396, .goto 10, 399, [406], 0, []), (399, .aload_n 0, 400, [], 0, []), (400, .iload_n 1, 401, [], 0, []), (401, .invokevirtual 289, 404, [], 0, []), (404, .istore 4, 406, [], 0, []), (406, .iload 4, 408, [], 0, []), (408, .ifCond .ne 5, 411, [413], 0, []), (411, .iconst 0, 412, [], 0, []), (412, .ireturn, 413, [], 0, []), (413, .goto (-391), 416, [22], 0, []), (416, .iconst 1, 417, [], 1, []), (417, .ireturn, 418, [], 0, [])]
/-- BlockFrontModel.count()V -/
def am_c174 : List (Nat × Instr × Nat × List Nat × Int32 × List Int32) := [(0, .aload_n 0, 1, [], 0, []), (1, .iconst 0, 2, [], 0, []), (2, .putfield 301, 5, [], 0, []), (5, .iconst 0, 6, [], 0, []), (6, .istore_n 1, 7, [], 0, []), (7, .iload_n 1, 8, [], 0, []), (8, .ifCond .lt 129, 11, [137], 0, []), (11, .aload_n 0, 12, [], 0, []), (12, .getfield 66, 15, [], 0, []), (15, .aload_n 0, 16, [], 0, []), (16, .getfield 301, 19, [], 0, []), (19, .iload_n 1, 20, [], 0, []), (20, .iastore, 21, [], 0, []), (21, .aload_n 0, 22, [], 0, []), (22, .dup, 23, [], 0, []), (23, .getfield 301, 26, [], 0, []), (26, .iconst 1, 27, [], 1, []), (27, .iadd, 28, [], 0, []), (28, .putfield 301, 31, [], 0, []), (31, .aload_n 0, 32, [], 0, []), (32, .getfield 42, 35, [], 0, []), (35, .iload_n 1, 36, [], 0, []), (36, .iaload, 37, [], 0, []), (37, .bipush 9, 39, [], 9, []), (39, .if_icmp .ne 38, 42, [77], 0, []), (42, .aload_n 0, 43, [], 0, []), (43, .getfield 45, 46, [], 0, []), (46, .iload_n 1, 47, [], 0, []), (47, .aload_n 0, 48, [], 0, []), (48, .getfield 48, 51, [], 0, []), (51, .iload_n 1, 52, [], 0, []), (52, .iaload, 53, [], 0, []), (53, .ifCond .le 17, 56, [70], 0, []), (56, .aload_n 0, 57, [], 0, []), (57, .getfield 45, 60, [], 0, []), (60, .aload_n 0, 61, [], 0, []), (61, .getfield 51, 64, [], 0, []), (64, .iload_n 1, 65, [], 0, []), (65, .iaload, 66, [], 0, []), (66, .iaload, 67, [], 0, []), (67, .goto 9, 70, [76], 0, []), (70, .aload_n 0, 71, [], 0, []), (71, .getfield 112, 74, [], 0, []), (74, .iconst 1, 75, [], 1, []), (75, .isub, 76, [], 0, []), (76, .iastore, 77, [], 0, []), (77, .aload_n 0, 78, [], 0, []), (78, .getfield 48, 81, [], 0, []), (81, .iload_n 1, 82, [], 0, []), (82, .iaload, 83, [], 0, []), (83, .ifCond .le 13, 86, [96], 0, []), (86, .aload_n 0, 87, [], 0, []), (87, .getfield 51, 90, [], 0, []), (90, .iload_n 1, 91, [], 0, []), (91, .iaload, 92, [], 0, []), (92, .istore_n 1, 93, [], 0, []), (93, .goto (-86), 96, [7], 0, []), (96, .iload_n 1, 97, [], 0, []), (97, .ifCond .lt 22, 100, [119], 0, []), (100, .aload_n 0, 101, [], 0, []), (101, .getfield 57, 104, [], 0, []), (104, .iload_n 1, 105, [], 0, []), (105, .iaload, 106, [], 0, []), (106, .ifCond .ge 13, 109, [119], 0, []), (109, .aload_n 0, 110, [], 0, []), (110, .getfield 60, 113, [], 0, []), (113, .iload_n 1, 114, [], 0, []), (114, .iaload, 115, [], 0, []), (115, .istore_n 1, 116, [], 0, []), (116, .goto (-20), 119, [96], 0, []), (119, .iload_n 1, 120, [], 0, []), (120, .ifCond .ge 7, 123, [127], 0, []), (123, .iload_n 1, 124, [], 0, []), (124, .goto 9, 127, [133], 0, []), (127, .aload_n 0, 128, [], 0, []), (128, .getfield 57, 131, [], 0, []), (131, .iload_n 1, 132, [], 0, []), (132, .iaload, 133, [], 0, []), (133, .istore_n 1, 134, [], 0, []), (134, .goto (-127), 137, [7], 0, []), (137, .return_, 138, [], 0, [])]
/-- BlockFrontModel.put(I)V -/
def am_c175 : List (Nat × Instr × Nat × List Nat × Int32 × List Int32) := [(0, .aload_n 0, 1, [], 0, []), (1, .getfield 81, 4, [], 0, []), (4, .aload_n 0, 5, [], 0, []), (5, .getfield 304, 8, [], 0, []), (8, .iload_n 1, 9, [], 0, []), (9, .iastore, 10, [], 0, []), (10, .aload_n 0, 11, [], 0, []), (11, .dup, 12, [], 0, []), (12, .getfield 304, 15, [], 0, []), (15, .iconst 1, 16, [], 1, []), (16, .iadd, 17, [], 0, []), (17, .putfield 304, 20, [], 0, []), (20, .return_, 21, [], 0, [])]
/-- BlockFrontModel.putToken(I)V -/
def am_c176 : List (Nat × Instr × Nat × List Nat × Int32 × List Int32) := [(0, .iconst 0, 1, [], 0, []), (1, .istore_n 2, 2, [], 0, []), (2, .iload_n 2, 3, [], 0, []), (3, .aload_n 0, 4, [], 0, []), (4, .getfield 26, 7, [], 0, []), (7, .iload_n 1, 8, [], 0, []), (8, .iaload, 9, [], 0, []), (9, .if_icmp .ge 26, 12, [35], 0, []), (12, .aload_n 0, 13, [], 0, []), (13, .aload_n 0, 14, [], 0, []), (14, .getfield 17, 17, [], 0, []), (17, .aload_n 0, 18, [], 0, []), (18, .getfield 23, 21, [], 0, []), (21, .iload_n 1, 22, [], 0, []), (22, .iaload, 23, [], 0, []), (23, .iload_n 2, 24, [], 0, []), (24, .iadd, 25, [], 0, []), (25, .iaload, 26, [], 0, []), (26, .invokevirtual 307, 29, [], 0, []), (29, .iinc 2 1, 32, [], 1, []), (32, .goto (-30), 35, [2], 0, []), (35, .return_, 36, [], 0, [])]
/-- BlockFrontModel.strengthOf(I)I -/
def am_c177 : List (Nat × Instr × Nat × List Nat × Int32 × List Int32) := [(0, .aload_n 0, 1, [], 0, []), (1, .getfield 42, 4, [], 0, []), (4, .iload_n 1, 5, [], 0, []), (5, .iaload, 6, [], 0, []), (6, .istore_n 2, 7, [], 0, []), (7, .iload_n 2, 8, [], 0, []), (8, .bipush 15, 10, [], 15, []), (10, .if_icmp .ne 35, 13, [45], 0, []), (13, .aload_n 0, 14, [], 0, []), (14, .getfield 29, 17, [], 0, []), (17, .aload_n 0, 18, [], 0, []), (18, .getfield 45, 21, [], 0, []), (21, .iload_n 1, 22, [], 0, []), (22, .iaload, 23, [], 0, []), (23, .laload, 24, [], 0, []), (24, .l2i, 25, [], 0, []), (25, .istore_n 3, 26, [], 0, []), (26, .iload_n 3, 27, [], 0, []), (27, .bipush 43, 29, [], 43, []), (29, .if_icmp .eq 9, 32, [38], 0, []), (32, .iload_n 3, 33, [], 0, []), (33, .bipush 45, 35, [], 45, []), (35, .if_icmp .ne 7, 38, [42], 0, []), (38, .iconst 5, 39, [], 5, []), (39, .goto 5, 42, [44], 0, []), (42, .bipush 6, 44, [], 6, []), (44, .ireturn, 45, [], 0, []), (45, .iload_n 2, 46, [], 0, []), (46, .bipush 11, 48, [], 11, []), (48, .if_icmp .ne 7, 51, [55], 0, []), (51, .iconst 1, 52, [], 1, []), (52, .goto 46, 55, [98], 0, []), (55, .iload_n 2, 56, [], 0, []), (56, .bipush 12, 58, [], 12, []), (58, .if_icmp .ne 7, 61, [65], 0, []), (61, .iconst 2, 62, [], 2, []), (62, .goto 36, 65, [98], 0, []), (65, .iload_n 2, 66, [], 0, []), (66, .bipush 13, 68, [], 13, []), (68, .if_icmp .ne 7, 71, [75], 0, []), (71, .iconst 3, 72, [], 3, []), (72, .goto 26, 75, [98], 0, []), (75, .iload_n 2, 76, [], 0, []), (76, .bipush 14, 78, [], 14, []), (78, .if_icmp .ne 7, 81, [85], 0, []), (81, .iconst 4, 82, [], 4, []), (82, .goto 16, 85, [98], 0, []), (85, .iload_n 2, 86, [], 0, []), (86, .bipush 16, 88, [], 16, []), (88, .if_icmp .ne 8, 91, [96], 0, []), (91, .bipush 7, 93, [], 7, []), (93, .goto 5, 96, [98], 0, []), (96, .bipush 8, 98, [], 8, []), (98, .ireturn, 99, [], 0, [])]
/-- BlockFrontModel.inBrackets(III)Z -/
def am_c178 : List (Nat × Instr × Nat × List Nat × Int32 × List Int32) := [(0, .aload_n 0, 1, [], 0, []), (1, .iload_n 1, 2, [], 0, []), (2, .invokevirtual 311, 5, [], 0, []), (5, .istore 4, 7, [], 0, []), (7, .aload_n 0, 8, [], 0, []), (8, .iload_n 2, 9, [], 0, []), (9, .invokevirtual 311, 12, [], 0, []), (12, .istore 5, 14, [], 0, []), (14, .aload_n 0, 15, [], 0, []), (15, .getfield 42, 18, [], 0, []), (18, .iload_n 1, 19, [], 0, []), (19, .iaload, 20, [], 0, []), (20, .bipush 23, 22, [], 23, []), (22, .if_icmp .eq 48, 25, [70], 0, []), (25, .aload_n 0, 26, [], 0, []), (26, .getfield 42, 29, [], 0, []), (29, .iload_n 1, 30, [], 0, []), (30, .iaload, 31, [], 0, []), (31, .bipush 18, 33, [], 18, []), (33, .if_icmp .ne 8, 36, [41], 0, []), (36, .iload_n 3, 37, [], 0, []), (37, .iconst 1, 38, [], 1, []), (38, .if_icmp .eq 32, 41, [70], 0, []), (41, .aload_n 0, 42, [], 0, []), (42, .getfield 42, 45, [], 0, []), (45, .iload_n 1, 46, [], 0, []), (46, .iaload, 47, [], 0, []), (47, .bipush 17, 49, [], 17, []), (49, .if_icmp .ne 7, 52, [56], 0, []), (52, .iload_n 3, 53, [], 0, []), (53, .ifCond .gt 17, 56, [70], 0, []), (56, .iload 5, 58, [], 0, []), (58, .bipush 8, 60, [], 8, []), (60, .if_icmp .eq 10, 63, [70], 0, []), (63, .iload 5, 65, [], 0, []), (65, .iload 4, 67, [], 0, []), (67, .if_icmp .le 5, 70, [72], 0, []), (70, .iconst 0, 71, [], 0, []), (71, .ireturn, 72, [], 0, []), (72, .iload 5, 74, [], 0, []), (74, .iload 4, 76, [], 0, []), (76, .if_icmp .ne 30, 79, [106], 0, []), (79, .iload 4, 81, [], 0, []), (81, .iconst 3, 82, [], 3, []), (82, .if_icmp .eq 20, 85, [102], 0, []), (85, .iload 4, 87, [], 0, []), (87, .bipush 7, 89, [], 7, []), (89, .if_icmp .eq 13, 92, [102], 0, []), (92, .iload_n 3, 93, [], 0, []), (93, .ifCond .ne 13, 96, [106], 0, []), (96, .iload 4, 98, [], 0, []), (98, .iconst 4, 99, [], 4, []), (99, .if_icmp .eq 7, 102, [106], 0, []), (102, .iconst 1, 103, [], 1, []), (103, .goto 4, 106, [107], 0, []), (106, .iconst 0, 107, [], 0, []), (107, .istore 6, 109, [], 0, []), (109, .iload 6, 111, [], 0, []), (111, .ifCond .ne 7, 114, [118], 0, []), (114, .iconst 1, 115, [], 1, []), (115, .goto 4, 118, [119], 0, []), (118, .iconst 0, 119, [], 0, []), (119, .ireturn, 120, [], 0, [])]
/-- BlockFrontModel.putBefore(II)V -/
def am_c179 : List (Nat × Instr × Nat × List Nat × Int32 × List Int32) := [(0, .aload_n 0, 1, [], 0, []), (1, .getfield 42, 4, [], 0, []), (4, .iload_n 1, 5, [], 0, []), (5, .iaload, 6, [], 0, []), (6, .istore_n 3, 7, [], 0, []), (7, .iload_n 2, 8, [], 0, []), (8, .aload_n 0, 9, [], 0, []), (9, .getfield 48, 12, [], 0, []), (12, .iload_n 1, 13, [], 0, []), (13, .iaload, 14, [], 0, []), (14, .if_icmp .ne 7, 17, [21], 0, []), (17, .iconst 1, 18, [], 1, []), (18, .goto 4, 21, [22], 0, []), (21, .iconst 0, 22, [], 0, []), (22, .istore 4, 24, [], 0, []), (24, .iload_n 3, 25, [], 0, []), (25, .bipush 23, 27, [], 23, []), (27, .if_icmp .eq 9, 30, [36], 0, []), (30, .iload_n 3, 31, [], 0, []), (31, .bipush 17, 33, [], 17, []), (33, .if_icmp .ne 87, 36, [120], 0, []), (36, .iload_n 3, 37, [], 0, []), (37, .bipush 17, 39, [], 17, []), (39, .if_icmp .ne 7, 42, [46], 0, []), (42, .iconst 1, 43, [], 1, []), (43, .goto 4, 46, [47], 0, []), (46, .iconst 0, 47, [], 0, []), (47, .istore 5, 49, [], 0, []), (49, .iload_n 2, 50, [], 0, []), (50, .iload 5, 52, [], 0, []), (52, .if_icmp .ne 20, 55, [72], 0, []), (55, .aload_n 0, 56, [], 0, []), (56, .iload_n 3, 57, [], 0, []), (57, .bipush 17, 59, [], 17, []), (59, .if_icmp .ne 8, 62, [67], 0, []), (62, .bipush 40, 64, [], 40, []), (64, .goto 5, 67, [69], 0, []), (67, .bipush 91, 69, [], 91, []), (69, .invokevirtual 307, 72, [], 0, []), (72, .iload_n 2, 73, [], 0, []), (73, .iload 5, 75, [], 0, []), (75, .if_icmp .le 20, 78, [95], 0, []), (78, .iload 4, 80, [], 0, []), (80, .ifCond .ne 15, 83, [95], 0, []), (83, .aload_n 0, 84, [], 0, []), (84, .bipush 44, 86, [], 44, []), (86, .invokevirtual 307, 89, [], 0, []), (89, .aload_n 0, 90, [], 0, []), (90, .bipush 32, 92, [], 32, []), (92, .invokevirtual 307, 95, [], 0, []), (95, .iload 4, 97, [], 0, []), (97, .ifCond .eq 20, 100, [117], 0, []), (100, .aload_n 0, 101, [], 0, []), (101, .iload_n 3, 102, [], 0, []), (102, .bipush 17, 104, [], 17, []), (104, .if_icmp .ne 8, 107, [112], 0, []), (107, .bipush 41, 109, [], 41, []), (109, .goto 5, 112, [114], 0, []), (112, .bipush 93, 114, [], 93, []), (114, .invokevirtual 307, 117, [], 0, []), (117, .goto 160, 120, [277], 0, []), (120, .iload_n 3, 121, [], 0, []), (121, .bipush 18, 123, [], 18, []), (123, .if_icmp .ne 26, 126, [149], 0, []), (126, .iload_n 2, 127, [], 0, []), (127, .ifCond .le 150, 130, [277], 0, []), (130, .aload_n 0, 131, [], 0, []), (131, .iload 4, 133, [], 0, []), (133, .ifCond .eq 8, 136, [141], 0, []), (136, .bipush 93, 138, [], 93, []), (138, .goto 5, 141, [143], 0, []), (141, .bipush 91, 143, [], 91, []), (143, .invokevirtual 307, 146, [], 0, []), (146, .goto 131, 149, [277], 0, []), (149, .iload_n 3, 150, [], 0, []), (150, .bipush 19, 152, [], 19, []), (152, .if_icmp .ne 32, 155, [184], 0, []), (155, .iload 4, 157, [], 0, []), (157, .ifCond .eq 9, 160, [166], 0, []), (160, .aload_n 0, 161, [], 0, []), (161, .bipush 46, 163, [], 46, []), (163, .invokevirtual 307, 166, [], 0, []), (166, .iload 4, 168, [], 0, []), (168, .ifCond .eq 109, 171, [277], 0, []), (171, .aload_n 0, 172, [], 0, []), (172, .aload_n 0, 173, [], 0, []), (173, .getfield 45, 176, [], 0, []), (176, .iload_n 1, 177, [], 0, []), (177, .iaload, 178, [], 0, []), (178, .invokevirtual 314, 181, [], 0, []), (181, .goto 96, 184, [277], 0, []), (184, .iload_n 3, 185, [], 0, []), (185, .bipush 13, 187, [], 13, []), (187, .if_icmp .eq 9, 190, [196], 0, []), (190, .iload_n 3, 191, [], 0, []), (191, .bipush 16, 193, [], 16, []), (193, .if_icmp .ne 38, 196, [231], 0, []), (196, .iload 4, 198, [], 0, []), (198, .ifCond .ne 13, 201, [211], 0, []), (201, .aload_n 0, 202, [], 0, []), (202, .aload_n 0, 203, [], 0, []), (203, .getfield 45, 206, [], 0, []), (206, .iload_n 1, 207, [], 0, []), (207, .iaload, 208, [], 0, []), (208, .invokevirtual 314, 211, [], 0, []), (211, .iload 4, 213, [], 0, []), (213, .ifCond .ne 64, 216, [277], 0, []), (216, .iload_n 3, 217, [], 0, []), (217, .bipush 13, 219, [], 13, []), (219, .if_icmp .ne 58, 222, [277], 0, []), (222, .aload_n 0, 223, [], 0, []), (223, .bipush 32, 225, [], 32, []), (225, .invokevirtual 307, 228, [], 0, []), (228, .goto 49, 231, [277], 0, []), (231, .iload_n 3, 232, [], 0, []), (232, .bipush 19, 234, [], 19, []), (234, .if_icmp .le 16, 237, [250], 0, []), (237, .aload_n 0, 238, [], 0, []), (238, .aload_n 0, 239, [], 0, []), (239, .getfield 45, 242, [], 0, []), (242, .iload_n 1, 243, [], 0, []), (243, .iaload, 244, [], 0, []), (244, .invokevirtual 314, 247, [], 0, []), (247, .goto 30, 250, [277], 0, []), (250, .iload_n 2, 251, [], 0, []), (251, .iconst 1, 252, [], 1, []), (252, .if_icmp .ne 25, 255, [277], 0, []), (255, .aload_n 0, 256, [], 0, []), (256, .bipush 32, 258, [], 32, []), (258, .invokevirtual 307, 261, [], 0, []), (261, .aload_n 0, 262, [], 0, []), (262, .aload_n 0, 263, [], 0, []), (263, .getfield 45, 266, [], 0, []), (266, .iload_n 1, 267, [], 0, []), (267, .iaload, 268, [], 0, []), (268, .invokevirtual 314, 271, [], 0, []), (271, .aload_n 0, 272, [], 0, []), (272, .bipush 32, 274, [], 32, []), (274, .invokevirtual 307, 277, [], 0, []), (277, .return_, 278, [], 0, [])]
/-- BlockFrontModel.putExpression(I)V -/
def am_c180 : List (Nat × Instr × Nat × List Nat × Int32 × List Int32) := [(0, .iconst 0, 1, [], 0, []), (1, .istore_n 2, 2, [], 0, []), (2, .aload_n 0, 3, [], 0, []), (3, .getfield 84, 6, [], 0, []), (6, .iconst 0, 7, [], 0, []), (7, .iload_n 1, 8, [], 0, []), (8, .iastore, 9, [], 0, []), (9, .aload_n 0, 10, [], 0, []), (10, .getfield 87, 13, [], 0, []), (13, .iconst 0, 14, [], 0, []), (14, .iconst 0, 15, [], 0, []), (15, .iastore, 16, [], 0, []), (16, .aload_n 0, 17, [], 0, []), (17, .getfield 90, 20, [], 0, []), (20, .iconst 0, 21, [], 0, []), (21, .iconst 0, 22, [], 0, []), (22, .bastore, 23, [], 0, []), (23, .iload_n 1, 24, [], 0, []), (24, .istore_n 3, 25, [], 0, []), (25, .aload_n 0, 26, [], 0, []), (26, .getfield 51, 29, [], 0, []), (29, .iload_n 1, 30, [], 0, []), (30, .iaload, 31, [], 0, []), (31, .istore 4, 33, [], 0, []), (33, .iload_n 2, 34, [], 0, []), (34, .ifCond .lt 139, 37, [173], 0, []), (37, .aload_n 0, 38, [], 0, []), (38, .iload_n 3, 39, [], 0, []), (39, .aload_n 0, 40, [], 0, []), (40, .getfield 87, 43, [], 0, []), (43, .iload_n 2, 44, [], 0, []), (44, .iaload, 45, [], 0, []), (45, .invokevirtual 317, 48, [], 0, []), (48, .iload 4, 50, [], 0, []), (50, .ifCond .lt 79, 53, [129], 0, []), (53, .aload_n 0, 54, [], 0, []), (54, .iload_n 3, 55, [], 0, []), (55, .iload 4, 57, [], 0, []), (57, .aload_n 0, 58, [], 0, []), (58, .getfield 87, 61, [], 0, []), (61, .iload_n 2, 62, [], 0, []), (62, .iaload, 63, [], 0, []), (63, .invokevirtual 320, 66, [], 0, []), (66, .istore 5, 68, [], 0, []), (68, .iload 5, 70, [], 0, []), (70, .ifCond .eq 9, 73, [79], 0, []), (73, .aload_n 0, 74, [], 0, []), (74, .bipush 40, 76, [], 40, []), (76, .invokevirtual 307, 79, [], 0, []), (79, .aload_n 0, 80, [], 0, []), (80, .getfield 87, 83, [], 0, []), (83, .iload_n 2, 84, [], 0, []), (84, .dup2, 85, [], 0, []), (85, .iaload, 86, [], 0, []), (86, .iconst 1, 87, [], 1, []), (87, .iadd, 88, [], 0, []), (88, .iastore, 89, [], 0, []), (89, .iinc 2 1, 92, [], 1, []), (92, .aload_n 0, 93, [], 0, []), (93, .getfield 84, 96, [], 0, []), (96, .iload_n 2, 97, [], 0, []), (97, .iload 4, 99, [], 0, []), (99, .iastore, 100, [], 0, []), (100, .aload_n 0, 101, [], 0, []), (101, .getfield 87, 104, [], 0, []), (104, .iload_n 2, 105, [], 0, []), (105, .iconst 0, 106, [], 0, []), (106, .iastore, 107, [], 0, []), (107, .aload_n 0, 108, [], 0, []), (108, .getfield 90, 111, [], 0, []), (111, .iload_n 2, 112, [], 0, []), (112, .iload 5, 114, [], 0, []), (114, .bastore, 115, [], 0, []), (115, .iload 4, 117, [], 0, []), (117, .istore_n 3, 118, [], 0, []), (118, .aload_n 0, 119, [], 0, []), (119, .getfield 51, 122, [], 0, []), (122, .iload_n 3, 123, [], 0, []), (123, .iaload, 124, [], 0, []), (124, .istore 4, 126, [], 0, []), (126, .goto (-93), 129, [33], 0, []), (129, .aload_n 0, 130, [], 0, []), (130, .getfield 90, 133, [], 0, []), (133, .iload_n 2, 134, [], 0, []), (134, .baload, 135, [], 0, []), (135, .ifCond .eq 9, 138, [144], 0, []), (138, .aload_n 0, 139, [], 0, []), (139, .bipush 41, 141, [], 41, []), (141, .invokevirtual 307, 144, [], 0, []), (144, .aload_n 0, 145, [], 0, []), (145, .getfield 57, 148, [], 0, []), (148, .iload_n 3, 149, [], 0, []), (149, .iaload, 150, [], 0, []), (150, .istore 4, 152, [], 0, []), (152, .iinc 2 (-1), 155, [], (-1), []), (155, .iload_n 2, 156, [], 0, []), (156, .ifCond .lt 12, 159, [168], 0, []), (159, .aload_n 0, 160, [], 0, []), (160, .getfield 84, 163, [], 0, []), (163, .iload_n 2, 164, [], 0, []), (164, .iaload, 165, [], 0, []), (165, .goto 4, 168, [169], 0, []), (168, .iload_n 3, 169, [], 0, []), (169, .istore_n 3, 170, [], 0, []), (170, .goto (-137), 173, [33], 0, []), (173, .return_, 174, [], 0, [])]
/-- BlockFrontModel.putWord(J)V -/
def am_c181 : List (Nat × Instr × Nat × List Nat × Int32 × List Int32) := [(0, .iconst 0, 1, [], 0, []), (1, .istore_n 3, 2, [], 0, []), (2, .bipush 48, 4, [], 48, []), (4, .istore 4, 6, [], 0, []), (6, .iload 4, 8, [], 0, []), (8, .ifCond .lt 45, 11, [53], 0, []), (11, .lload_n 1, 12, [], 0, []), (12, .iload 4, 14, [], 0, []), (14, .lshr, 15, [], 0, []), (15, .ldc2_w 97, 18, [], 0, []), (18, .land, 19, [], 0, []), (19, .l2i, 20, [], 0, []), (20, .istore 5, 22, [], 0, []), (22, .iload_n 3, 23, [], 0, []), (23, .ifCond .ne 8, 26, [31], 0, []), (26, .iload 5, 28, [], 0, []), (28, .ifCond .eq 7, 31, [35], 0, []), (31, .iconst 1, 32, [], 1, []), (32, .goto 4, 35, [36], 0, []), (35, .iconst 0, 36, [], 0, []), (36, .istore_n 3, 37, [], 0, []), (37, .iload_n 3, 38, [], 0, []), (38, .ifCond .eq 9, 41, [47], 0, []), (41, .aload_n 0, 42, [], 0, []), (42, .iload 5, 44, [], 0, []), (44, .invokevirtual 307, 47, [], 0, []), (47, .iinc 4 (-8), 50, [], (-8), []), (50, .goto (-44), 53, [6], 0, []), (53, .return_, 54, [], 0, [])]
/-- BlockFrontModel.indent(I)V -/
def am_c182 : List (Nat × Instr × Nat × List Nat × Int32 × List Int32) := [(0, .iconst 0, 1, [], 0, []), (1, .istore_n 2, 2, [], 0, []), (2, .iload_n 2, 3, [], 0, []), (3, .iload_n 1, 4, [], 0, []), (4, .if_icmp .ge 21, 7, [25], 0, []), (7, .aload_n 0, 8, [], 0, []), (8, .bipush 32, 10, [], 32, []), (10, .invokevirtual 307, 13, [], 0, []), (13, .aload_n 0, 14, [], 0, []), (14, .bipush 32, 16, [], 32, []), (16, .invokevirtual 307, 19, [], 0, []), (19, .iinc 2 1, 22, [], 1, []), (22, .goto (-20), 25, [2], 0, []), (25, .return_, 26, [], 0, [])]
/-- BlockFrontModel.putHead(I)V -/
def am_c183 : List (Nat × Instr × Nat × List Nat × Int32 × List Int32) := [(0, .aload_n 0, 1, [], 0, []), (1, .getfield 42, 4, [], 0, []), (4, .iload_n 1, 5, [], 0, []), (5, .iaload, 6, [], 0, []), (6, .istore_n 2, 7, [], 0, []), (7, .aload_n 0, 8, [], 0, []), (8, .iload_n 2, 9, [], 0, []), (9, .bipush 8, 11, [], 8, []), (11, .if_icmp .ne 9, 14, [20], 0, []), (14, .ldc2_w 163, 17, [], 0, []), (17, .goto 14, 20, [31], 0, []), (20, .aload_n 0, 21, [], 0, []), (21, .getfield 29, 24, [], 0, []), (24, .aload_n 0, 25, [], 0, []), (25, .getfield 45, 28, [], 0, []), (28, .iload_n 1, 29, [], 0, []), (29, .iaload, 30, [], 0, []), (30, .laload, 31, [], 0, []), (31, .invokevirtual 324, 34, [], 0, []), (34, .aload_n 0, 35, [], 0, []), (35, .bipush 32, 37, [], 32, []), (37, .invokevirtual 307, 40, [], 0, []), (40, .iload_n 2, 41, [], 0, []), (41, .bipush 8, 43, [], 8, []), (43, .if_icmp .ne 96, 46, [139], 0, []), (46, .aload_n 0, 47, [], 0, []), (47, .aload_n 0, 48, [], 0, []), (48, .getfield 45, 51, [], 0, []), (51, .iload_n 1, 52, [], 0, []), (52, .iaload, 53, [], 0, []), (53, .invokevirtual 314, 56, [], 0, []), (56, .aload_n 0, 57, [], 0, []), (57, .bipush 40, 59, [], 40, []), (59, .invokevirtual 307, 62, [], 0, []), (62, .aload_n 0, 63, [], 0, []), (63, .getfield 51, 66, [], 0, []), (66, .iload_n 1, 67, [], 0, []), (67, .iaload, 68, [], 0, []), (68, .istore_n 3, 69, [], 0, []), (69, .iconst 0, 70, [], 0, []), (70, .istore 4, 72, [], 0, []), (72, .iload 4, 74, [], 0, []), (74, .iconst 1, 75, [], 1, []), (75, .iadd, 76, [], 0, []), (76, .aload_n 0, 77, [], 0, []), (77, .getfield 48, 80, [], 0, []), (80, .iload_n 1, 81, [], 0, []), (81, .iaload, 82, [], 0, []), (82, .if_icmp .ge 48, 85, [130], 0, []), (85, .iload 4, 87, [], 0, []), (87, .ifCond .le 9, 90, [96], 0, []), (90, .aload_n 0, 91, [], 0, []), (91, .bipush 44, 93, [], 44, []), (93, .invokevirtual 307, 96, [], 0, []), (96, .iload 4, 98, [], 0, []), (98, .ifCond .le 9, 101, [107], 0, []), (101, .aload_n 0, 102, [], 0, []), (102, .bipush 32, 104, [], 32, []), (104, .invokevirtual 307, 107, [], 0, []), (107, .aload_n 0, 108, [], 0, []), (108, .aload_n 0, 109, [], 0, []), (109, .getfield 45, 112, [], 0, []), (112, .iload_n 3, 113, [], 0, []), (113, .iaload, 114, [], 0, []), (114, .invokevirtual 314, 117, [], 0, []), (117, .aload_n 0, 118, [], 0, []), (118, .getfield 57, 121, [], 0, []), (121, .iload_n 3, 122, [], 0, []), (122, .iaload, 123, [], 0, []), (123, .istore_n 3, 124, [], 0, []), (124, .iinc 4 1, 127, [], 1, []), (127, .goto (-55), 130, [72], 0, []), (130, .aload_n 0, 131, [], 0, []), (131, .bipush 41, 133, [], 41, []), (133, .invokevirtual 307, 136, [], 0, []), (136, .goto 13, 139, [149], 0, []), (139, .aload_n 0, 140, [], 0, []), (140, .aload_n 0, 141, [], 0, []), (141, .getfield 51, 144, [], 0, []), (144, .iload_n 1, 145, [], 0, []), (145, .iaload, 146, [], 0, []), (146, .invokevirtual 328, 149, [], 0, []), (149, .aload_n 0, 150, [], 0, []), (150, .bipush 58, 152, [], 58, []), (152, .invokevirtual 307, 155, [], 0, []), (155, .aload_n 0, 156, [], 0, []), (156, .bipush 10, 158, [], 10, []), (158, .invokevirtual 307, 161, [], 0, []), (161, .return_, 162, [], 0, [])]
/-- BlockFrontModel.putSimple(I)V -/
def am_c184 : List (Nat × Instr × Nat × List Nat × Int32 × List Int32) := [(0, .aload_n 0, 1, [], 0, []), (1, .getfield 42, 4, [], 0, []), (4, .iload_n 1, 5, [], 0, []), (5, .iaload, 6, [], 0, []), (6, .istore_n 2, 7, [], 0, []), (7, .iload_n 2, 8, [], 0, []), (8, .iconst 4, 9, [], 4, []), (9, .if_icmp .ne 34, 12, [43], 0, []), (12, .aload_n 0, 13, [], 0, []), (13, .aload_n 0, 14, [], 0, []), (14, .getfield 45, 17, [], 0, []), (17, .iload_n 1, 18, [], 0, []), (18, .iaload, 19, [], 0, []), (19, .invokevirtual 314, 22, [], 0, []), (22, .aload_n 0, 23, [], 0, []), (23, .bipush 32, 25, [], 32, []), (25, .invokevirtual 307, 28, [], 0, []), (28, .aload_n 0, 29, [], 0, []), (29, .bipush 61, 31, [], 61, []), (31, .invokevirtual 307, 34, [], 0, []), (34, .aload_n 0, 35, [], 0, []), (35, .bipush 32, 37, [], 32, []), (37, .invokevirtual 307, 40, [], 0, []), (40, .goto 33, 43, [73], 0, []), (43, .iload_n 2, 44, [], 0, []), (44, .iconst 5, 45, [], 5, []), (45, .if_icmp .eq 28, 48, [73], 0, []), (48, .aload_n 0, 49, [], 0, []), (49, .aload_n 0, 50, [], 0, []), (50, .getfield 45, 53, [], 0, []), (53, .iload_n 1, 54, [], 0, []), (54, .iaload, 55, [], 0, []), (55, .invokevirtual 314, 58, [], 0, []), (58, .aload_n 0, 59, [], 0, []), (59, .getfield 48, 62, [], 0, []), (62, .iload_n 1, 63, [], 0, []), (63, .iaload, 64, [], 0, []), (64, .ifCond .le 9, 67, [73], 0, []), (67, .aload_n 0, 68, [], 0, []), (68, .bipush 32, 70, [], 32, []), (70, .invokevirtual 307, 73, [], 0, []), (73, .aload_n 0, 74, [], 0, []), (74, .getfield 48, 77, [], 0, []), (77, .iload_n 1, 78, [], 0, []), (78, .iaload, 79, [], 0, []), (79, .ifCond .le 13, 82, [92], 0, []), (82, .aload_n 0, 83, [], 0, []), (83, .aload_n 0, 84, [], 0, []), (84, .getfield 51, 87, [], 0, []), (87, .iload_n 1, 88, [], 0, []), (88, .iaload, 89, [], 0, []), (89, .invokevirtual 328, 92, [], 0, []), (92, .aload_n 0, 93, [], 0, []), (93, .bipush 10, 95, [], 10, []), (95, .invokevirtual 307, 98, [], 0, []), (98, .return_, 99, [], 0, [])]
end
section
/-- BlockFrontModel.isCompound(I)Z -/
def am_c185 : List (Nat × Instr × Nat × List Nat × Int32 × List Int32) := [(0, .aload_n 0, 1, [], 0, []), (1, .getfield 42, 4, [], 0, []), (4, .iload_n 1, 5, [], 0, []), (5, .iaload, 6, [], 0, []), (6, .bipush 6, 8, [], 6, []), (8, .if_icmp .lt 18, 11, [26], 0, []), (11, .aload_n 0, 12, [], 0, []), (12, .getfield 42, 15, [], 0, []), (15, .iload_n 1, 16, [], 0, []), (16, .iaload, 17, [], 0, []), (17, .bipush 8, 19, [], 8, []), (19, .if_icmp .gt 7, 22, [26], 0, []), (22, .iconst 1, 23, [], 1, []), (23, .goto 4, 26, [27], 0, []), (26, .iconst 0, 27, [], 0, []), (27, .ireturn, 28, [], 0, [])]
/-- BlockFrontModel.write()V -/
def am_c186 : List (Nat × Instr × Nat × List Nat × Int32 × List Int32) := [(0, .aload_n 0, 1, [], 0, []), (1, .iconst 0, 2, [], 0, []), (2, .putfield 304, 5, [], 0, []), (5, .iconst 0, 6, [], 0, []), (6, .istore_n 1, 7, [], 0, []), (7, .aload_n 0, 8, [], 0, []), (8, .getfield 51, 11, [], 0, []), (11, .iconst 0, 12, [], 0, []), (12, .iaload, 13, [], 0, []), (13, .istore_n 2, 14, [], 0, []), (14, .iload_n 2, 15, [], 0, []), (15, .ifCond .lt 273, 18, [288], 0, []), (18, .aload_n 0, 19, [], 0, []), (19, .iload_n 1, 20, [], 0, []), (20, .invokevirtual 331, 23, [], 0, []), (23, .aload_n 0, 24, [], 0, []), (24, .iload_n 2, 25, [], 0, []), (25, .invokevirtual 334, 28, [], 0, []), (28, .ifCond .eq 51, 31, [79], 0, []), (31, .aload_n 0, 32, [], 0, []), (32, .iload_n 2, 33, [], 0, []), (33, .invokevirtual 337, 36, [], 0, []), (36, .aload_n 0, 37, [], 0, []), (37, .getfield 51, 40, [], 0, []), (40, .aload_n 0, 41, [], 0, []), (41, .getfield 42, 44, [], 0, []), (44, .iload_n 2, 45, [], 0, []), (45, .iaload, 46, [], 0, []), (46, .bipush 8, 48, [], 8, []), (48, .if_icmp .ne 12, 51, [60], 0, []), (51, .aload_n 0, 52, [], 0, []), (52, .getfield 54, 55, [], 0, []), (55, .iload_n 2, 56, [], 0, []), (56, .iaload, 57, [], 0, []), (57, .goto 14, 60, [71], 0, []), (60, .aload_n 0, 61, [], 0, []), (61, .getfield 57, 64, [], 0, []), (64, .aload_n 0, 65, [], 0, []), (65, .getfield 51, 68, [], 0, []), (68, .iload_n 2, 69, [], 0, []), (69, .iaload, 70, [], 0, []), (70, .iaload, 71, [], 0, []), (71, .iaload, 72, [], 0, []), (72, .istore_n 2, 73, [], 0, []), (73, .iinc 1 1, 76, [], 1, []), (76, .goto (-62), 79, [14], 0, []), (79, .aload_n 0, 80, [], 0, []), (80, .iload_n 2, 81, [], 0, []), (81, .invokevirtual 340, 84, [], 0, []), (84, .aload_n 0, 85, [], 0, []), (85, .getfield 57, 88, [], 0, []), (88, .iload_n 2, 89, [], 0, []), (89, .iaload, 90, [], 0, []), (90, .ifCond .ge 7, 93, [97], 0, []), (93, .iconst 1, 94, [], 1, []), (94, .goto 4, 97, [98], 0, []), (97, .iconst 0, 98, [], 0, []), (98, .istore_n 3, 99, [], 0, []), (99, .iload_n 3, 100, [], 0, []), (100, .ifCond .eq 7, 103, [107], 0, []), (103, .iload_n 2, 104, [], 0, []), (104, .goto 9, 107, [113], 0, []), (107, .aload_n 0, 108, [], 0, []), (108, .getfield 57, 111, [], 0, []), (111, .iload_n 2, 112, [], 0, []), (112, .iaload, 113, [], 0, []), (113, .istore_n 2, 114, [], 0, []), (114, .iload_n 3, 115, [], 0, []), (115, .ifCond .eq 170, 118, [285], 0, []), (118, .aload_n 0, 119, [], 0, []), (119, .getfield 60, 122, [], 0, []), (122, .iload_n 2, 123, [], 0, []), (123, .iaload, 124, [], 0, []), (124, .istore 4, 126, [], 0, []), (126, .aload_n 0, 127, [], 0, []), (127, .getfield 60, 130, [], 0, []), (130, .iload 4, 132, [], 0, []), (132, .iaload, 133, [], 0, []), (133, .istore 5, 135, [], 0, []), (135, .iload 5, 137, [], 0, []), (137, .ifCond .ge 10, 140, [147], 0, []), (140, .iconst (-1), 141, [], (-1), []), (141, .istore_n 2, 142, [], 0, []), (142, .iconst 0, 143, [], 0, []), (143, .istore_n 3, 144, [], 0, []), (144, .goto 138, 147, [282], 0, []), (147, .aload_n 0, 148, [], 0, []), (148, .getfield 57, 151, [], 0, []), (151, .iload 4, 153, [], 0, []), (153, .iaload, 154, [], 0, []), (154, .ifCond .lt 66, 157, [220], 0, []), (157, .aload_n 0, 158, [], 0, []), (158, .getfield 57, 161, [], 0, []), (161, .iload 4, 163, [], 0, []), (163, .iaload, 164, [], 0, []), (164, .istore_n 2, 165, [], 0, []), (165, .aload_n 0, 166, [], 0, []), (166, .getfield 42, 169, [], 0, []), (169, .iload_n 2, 170, [], 0, []), (170, .iaload, 171, [], 0, []), (171, .bipush 9, 173, [], 9, []), (173, .if_icmp .ne 39, 176, [212], 0, []), (176, .aload_n 0, 177, [], 0, []), (177, .iload_n 1, 178, [], 0, []), (178, .iconst 1, 179, [], 1, []), (179, .isub, 180, [], 0, []), (180, .invokevirtual 331, 183, [], 0, []), (183, .aload_n 0, 184, [], 0, []), (184, .ldc2_w 161, 187, [], 0, []), (187, .invokevirtual 324, 190, [], 0, []), (190, .aload_n 0, 191, [], 0, []), (191, .bipush 58, 193, [], 58, []), (193, .invokevirtual 307, 196, [], 0, []), (196, .aload_n 0, 197, [], 0, []), (197, .bipush 10, 199, [], 10, []), (199, .invokevirtual 307, 202, [], 0, []), (202, .aload_n 0, 203, [], 0, []), (203, .getfield 51, 206, [], 0, []), (206, .iload_n 2, 207, [], 0, []), (207, .iaload, 208, [], 0, []), (208, .istore_n 2, 209, [], 0, []), (209, .goto 6, 212, [215], 0, []), (212, .iinc 1 (-1), 215, [], (-1), []), (215, .iconst 0, 216, [], 0, []), (216, .istore_n 3, 217, [], 0, []), (217, .goto 65, 220, [282], 0, []), (220, .iinc 1 (-1), 223, [], (-1), []), (223, .iload 5, 225, [], 0, []), (225, .istore_n 2, 226, [], 0, []), (226, .aload_n 0, 227, [], 0, []), (227, .getfield 42, 230, [], 0, []), (230, .aload_n 0, 231, [], 0, []), (231, .getfield 60, 234, [], 0, []), (234, .iload_n 2, 235, [], 0, []), (235, .iaload, 236, [], 0, []), (236, .iaload, 237, [], 0, []), (237, .bipush 6, 239, [], 6, []), (239, .if_icmp .ne 13, 242, [252], 0, []), (242, .aload_n 0, 243, [], 0, []), (243, .getfield 60, 246, [], 0, []), (246, .iload_n 2, 247, [], 0, []), (247, .iaload, 248, [], 0, []), (248, .istore_n 2, 249, [], 0, []), (249, .goto (-23), 252, [226], 0, []), (252, .aload_n 0, 253, [], 0, []), (253, .getfield 57, 256, [], 0, []), (256, .iload_n 2, 257, [], 0, []), (257, .iaload, 258, [], 0, []), (258, .ifCond .ge 7, 261, [265], 0, []), (261, .iconst 1, 262, [], 1, []), (262, .goto 4, 265, [266], 0, []), (265, .iconst 0, 266, [], 0, []), (266, .istore_n 3, 267, [], 0, []), (267, .iload_n 3, 268, [], 0, []), (268, .ifCond .eq 7, 271, [275], 0, []), (271, .iload_n 2, 272, [], 0, []), (272, .goto 9, 275, [281], 0, []), (275, .aload_n 0, 276, [], 0, []), (276, .getfield 57, 279, [], 0, []), (279, .iload_n 2, 280, [], 0, []), (280, .iaload, 281, [], 0, []), (281, .istore_n 2, 282, [], 0, []), (282, .goto (-168), 285, [114], 0, []), (285, .goto (-271), 288, [14], 0, []), (288, .return_, 289, [], 0, [])]
/-- BlockFrontModel.read()I -/
def am_c187 : List (Nat × Instr × Nat × List Nat × Int32 × List Int32) := [(0, .aload_n 0, 1, [], 0, []), (1, .iconst 0, 2, [], 0, []), (2, .putfield 106, 5, [], 0, []), (5, .aload_n 0, 6, [], 0, []), (6, .iconst (-1), 7, [], (-1), []), (7, .putfield 13, 10, [], 0, []), (10, .aload_n 0, 11, [], 0, []), (11, .invokevirtual 343, 14, [], 0, []), (14, .ifCond .eq 14, 17, [28], 0, []), (17, .aload_n 0, 18, [], 0, []), (18, .invokevirtual 346, 21, [], 0, []), (21, .ifCond .eq 7, 24, [28], 0, []), (24, .iconst 1, 25, [], 1, []), (25, .goto 4, 28, [29], 0, []), (28, .iconst 0, 29, [], 0, []), (29, .istore_n 1, 30, [], 0, []), (30, .aload_n 0, 31, [], 0, []), (31, .iload_n 1, 32, [], 0, []), (32, .ifCond .eq 7, 35, [39], 0, []), (35, .iconst 0, 36, [], 0, []), (36, .goto 4, 39, [40], 0, []), (39, .iconst 1, 40, [], 1, []), (40, .putfield 94, 43, [], 0, []), (43, .iload_n 1, 44, [], 0, []), (44, .ifCond .ne 20, 47, [64], 0, []), (47, .aload_n 0, 48, [], 0, []), (48, .iconst 0, 49, [], 0, []), (49, .putfield 112, 52, [], 0, []), (52, .aload_n 0, 53, [], 0, []), (53, .iconst 0, 54, [], 0, []), (54, .putfield 301, 57, [], 0, []), (57, .aload_n 0, 58, [], 0, []), (58, .iconst 0, 59, [], 0, []), (59, .putfield 304, 62, [], 0, []), (62, .iconst 0, 63, [], 0, []), (63, .ireturn, 64, [], 0, []), (64, .aload_n 0, 65, [], 0, []), (65, .invokevirtual 349, 68, [], 0, []), (68, .aload_n 0, 69, [], 0, []), (69, .invokevirtual 352, 72, [], 0, []), (72, .aload_n 0, 73, [], 0, []), (73, .getfield 112, 76, [], 0, []), (76, .ireturn, 77, [], 0, [])]
/-- BlockFrontModel.why()I -/
def am_c188 : List (Nat × Instr × Nat × List Nat × Int32 × List Int32) := [(0, .aload_n 0, 1, [], 0, []), (1, .iconst 0, 2, [], 0, []), (2, .putfield 94, 5, [], 0, []), (5, .aload_n 0, 6, [], 0, []), (6, .getfield 106, 9, [], 0, []), (9, .ireturn, 10, [], 0, [])]
/-- BlockFrontModel.where()I -/
def am_c189 : List (Nat × Instr × Nat × List Nat × Int32 × List Int32) := [(0, .aload_n 0, 1, [], 0, []), (1, .iconst 0, 2, [], 0, []), (2, .putfield 94, 5, [], 0, []), (5, .aload_n 0, 6, [], 0, []), (6, .getfield 13, 9, [], 0, []), (9, .ireturn, 10, [], 0, [])]
/-- BlockFrontModel.token(II)I -/
def am_c190 : List (Nat × Instr × Nat × List Nat × Int32 × List Int32) := [(0, .iload_n 1, 1, [], 0, []), (1, .ifCond .lt 24, 4, [25], 0, []), (4, .iload_n 1, 5, [], 0, []), (5, .aload_n 0, 6, [], 0, []), (6, .getfield 112, 9, [], 0, []), (9, .if_icmp .ge 16, 12, [25], 0, []), (12, .iload_n 2, 13, [], 0, []), (13, .ifCond .lt 12, 16, [25], 0, []), (16, .iload_n 2, 17, [], 0, []), (17, .iconst 2, 18, [], 2, []), (18, .if_icmp .gt 7, 21, [25], 0, []), (21, .iconst 1, 22, [], 1, []), (22, .goto 4, 25, [26], 0, []), (25, .iconst 0, 26, [], 0, []), (26, .istore_n 3, 27, [], 0, []), (27, .aload_n 0, 28, [], 0, []), (28, .iload_n 3, 29, [], 0, []), (29, .ifCond .eq 7, 32, [36], 0, []), (32, .iconst 0, 33, [], 0, []), (33, .goto 4, 36, [37], 0, []), (36, .iconst 1, 37, [], 1, []), (37, .putfield 94, 40, [], 0, []), (40, .iload_n 3, 41, [], 0, []), (41, .ifCond .ne 7, 44, [48], 0, []), (44, .iconst 0, 45, [], 0, []), (45, .goto 36, 48, [81], 0, []), (48, .iload_n 2, 49, [], 0, []), (49, .ifCond .ne 12, 52, [61], 0, []), (52, .aload_n 0, 53, [], 0, []), (53, .getfield 20, 56, [], 0, []), (56, .iload_n 1, 57, [], 0, []), (57, .iaload, 58, [], 0, []), (58, .goto 23, 61, [81], 0, []), (61, .iload_n 2, 62, [], 0, []), (62, .iconst 1, 63, [], 1, []), (63, .if_icmp .ne 12, 66, [75], 0, []), (66, .aload_n 0, 67, [], 0, []), (67, .getfield 23, 70, [], 0, []), (70, .iload_n 1, 71, [], 0, []), (71, .iaload, 72, [], 0, []), (72, .goto 9, 75, [81], 0, []), (75, .aload_n 0, 76, [], 0, []), (76, .getfield 26, 79, [], 0, []), (79, .iload_n 1, 80, [], 0, []), (80, .iaload, 81, [], 0, []), (81, .ireturn, 82, [], 0, [])]
/-- BlockFrontModel.nodes()I -/
def am_c191 : List (Nat × Instr × Nat × List Nat × Int32 × List Int32) := [(0, .aload_n 0, 1, [], 0, []), (1, .iconst 0, 2, [], 0, []), (2, .putfield 94, 5, [], 0, []), (5, .aload_n 0, 6, [], 0, []), (6, .getfield 301, 9, [], 0, []), (9, .ireturn, 10, [], 0, [])]
/-- BlockFrontModel.node(II)I -/
def am_c192 : List (Nat × Instr × Nat × List Nat × Int32 × List Int32) := [(0, .iload_n 1, 1, [], 0, []), (1, .ifCond .lt 24, 4, [25], 0, []), (4, .iload_n 1, 5, [], 0, []), (5, .aload_n 0, 6, [], 0, []), (6, .getfield 301, 9, [], 0, []), (9, .if_icmp .ge 16, 12, [25], 0, []), (12, .iload_n 2, 13, [], 0, []), (13, .ifCond .lt 12, 16, [25], 0, []), (16, .iload_n 2, 17, [], 0, []), (17, .iconst 2, 18, [], 2, []), (18, .if_icmp .gt 7, 21, [25], 0, []), (21, .iconst 1, 22, [], 1, []), (22, .goto 4, 25, [26], 0, []), (25, .iconst 0, 26, [], 0, []), (26, .istore_n 3, 27, [], 0, []), (27, .aload_n 0, 28, [], 0, []), (28, .iload_n 3, 29, [], 0, []), (29, .ifCond .eq 7, 32, [36], 0, []), (32, .iconst 0, 33, [], 0, []), (33, .goto 4, 36, [37], 0, []), (36, .iconst 1, 37, [], 1, []), (37, .putfield 94, 40, [], 0, []), (40, .iload_n 3, 41, [], 0, []), (41, .ifCond .eq 12, 44, [53], 0, []), (44, .aload_n 0, 45, [], 0, []), (45, .getfield 66, 48, [], 0, []), (48, .iload_n 1, 49, [], 0, []), (49, .iaload, 50, [], 0, []), (50, .goto 4, 53, [54], 0, []), (53, .iconst 0, 54, [], 0, []), (54, .istore 4, 56, [], 0, []), (56, .iload_n 3, 57, [], 0, []), (57, .ifCond .ne 7, 60, [64], 0, []), (60, .iconst 0, 61, [], 0, []), (61, .goto 39, 64, [100], 0, []), (64, .iload_n 2, 65, [], 0, []), (65, .ifCond .ne 13, 68, [78], 0, []), (68, .aload_n 0, 69, [], 0, []), (69, .getfield 42, 72, [], 0, []), (72, .iload 4, 74, [], 0, []), (74, .iaload, 75, [], 0, []), (75, .goto 25, 78, [100], 0, []), (78, .iload_n 2, 79, [], 0, []), (79, .iconst 1, 80, [], 1, []), (80, .if_icmp .ne 13, 83, [93], 0, []), (83, .aload_n 0, 84, [], 0, []), (84, .getfield 45, 87, [], 0, []), (87, .iload 4, 89, [], 0, []), (89, .iaload, 90, [], 0, []), (90, .goto 10, 93, [100], 0, []), (93, .aload_n 0, 94, [], 0, []), (94, .getfield 48, 97, [], 0, []), (97, .iload 4, 99, [], 0, []), (99, .iaload, 100, [], 0, []), (100, .ireturn, 101, [], 0, [])]
/-- BlockFrontModel.length()I -/
def am_c193 : List (Nat × Instr × Nat × List Nat × Int32 × List Int32) := [(0, .aload_n 0, 1, [], 0, []), (1, .iconst 0, 2, [], 0, []), (2, .putfield 94, 5, [], 0, []), (5, .aload_n 0, 6, [], 0, []), (6, .getfield 304, 9, [], 0, []), (9, .ireturn, 10, [], 0, [])]
/-- BlockFrontModel.output(I)C -/
def am_c194 : List (Nat × Instr × Nat × List Nat × Int32 × List Int32) := [(0, .iload_n 1, 1, [], 0, []), (1, .ifCond .lt 15, 4, [16], 0, []), (4, .iload_n 1, 5, [], 0, []), (5, .aload_n 0, 6, [], 0, []), (6, .getfield 304, 9, [], 0, []), (9, .if_icmp .ge 7, 12, [16], 0, []), (12, .iconst 1, 13, [], 1, []), (13, .goto 4, 16, [17], 0, []), (16, .iconst 0, 17, [], 0, []), (17, .istore_n 2, 18, [], 0, []), (18, .aload_n 0, 19, [], 0, []), (19, .iload_n 2, 20, [], 0, []), (20, .ifCond .eq 7, 23, [27], 0, []), (23, .iconst 0, 24, [], 0, []), (24, .goto 4, 27, [28], 0, []), (27, .iconst 1, 28, [], 1, []), (28, .putfield 94, 31, [], 0, []), (31, .iload_n 2, 32, [], 0, []), (32, .ifCond .eq 13, 35, [45], 0, []), (35, .aload_n 0, 36, [], 0, []), (36, .getfield 81, 39, [], 0, []), (39, .iload_n 1, 40, [], 0, []), (40, .iaload, 41, [], 0, []), (41, .i2c, 42, [], 0, []), (42, .goto 4, 45, [46], 0, []), (45, .iconst 0, 46, [], 0, []), (46, .ireturn, 47, [], 0, [])]
/-- BlockFrontLaw.type(LBlockFront;JI[J)I -/
def am_c195 : List (Nat × Instr × Nat × List Nat × Int32 × List Int32) := [(0, .aload 4, 2, [], 0, []), (2, .iconst 0, 3, [], 0, []), (3, .aload_n 0, 4, [], 0, []), (4, .lload_n 1, 5, [], 0, []), (5, .iload_n 3, 6, [], 0, []), (6, .invokevirtual 7, 9, [], 0, []), (9, .i2l, 10, [], 0, []), (10, .lastore, 11, [], 0, []), (11, .goto 11, 14, [22], 0, []), (14, .astore 5, 16, [], 0, []), (16, .iconst 1, 17, [], 1, []), (17, .ireturn, 18, [], 0, []), (18, .astore 5, 20, [], 0, []), (20, .iconst 2, 21, [], 2, []), (21, .ireturn, 22, [], 0, []), (22, .iconst 0, 23, [], 0, []), (23, .ireturn, 24, [], 0, [])]
/-- BlockFrontLaw.read(LBlockFront;[J)I -/
def am_c196 : List (Nat × Instr × Nat × List Nat × Int32 × List Int32) := [(0, .aload_n 1, 1, [], 0, []), (1, .iconst 0, 2, [], 0, []), (2, .aload_n 0, 3, [], 0, []), (3, .invokevirtual 17, 6, [], 0, []), (6, .i2l, 7, [], 0, []), (7, .lastore, 8, [], 0, []), (8, .goto 6, 11, [14], 0, []), (11, .astore_n 2, 12, [], 0, []), (12, .iconst 1, 13, [], 1, []), (13, .ireturn, 14, [], 0, []), (14, .iconst 0, 15, [], 0, []), (15, .ireturn, 16, [], 0, [])]
/-- BlockFrontLaw.token(LBlockFront;II[J)I -/
def am_c197 : List (Nat × Instr × Nat × List Nat × Int32 × List Int32) := [(0, .aload_n 3, 1, [], 0, []), (1, .iconst 0, 2, [], 0, []), (2, .aload_n 0, 3, [], 0, []), (3, .iload_n 1, 4, [], 0, []), (4, .iload_n 2, 5, [], 0, []), (5, .invokevirtual 23, 8, [], 0, []), (8, .i2l, 9, [], 0, []), (9, .lastore, 10, [], 0, []), (10, .goto 7, 13, [17], 0, []), (13, .astore 4, 15, [], 0, []), (15, .iconst 1, 16, [], 1, []), (16, .ireturn, 17, [], 0, []), (17, .iconst 0, 18, [], 0, []), (18, .ireturn, 19, [], 0, [])]
/-- BlockFrontLaw.node(LBlockFront;II[J)I -/
def am_c198 : List (Nat × Instr × Nat × List Nat × Int32 × List Int32) := [(0, .aload_n 3, 1, [], 0, []), (1, .iconst 0, 2, [], 0, []), (2, .aload_n 0, 3, [], 0, []), (3, .iload_n 1, 4, [], 0, []), (4, .iload_n 2, 5, [], 0, []), (5, .invokevirtual 29, 8, [], 0, []), (8, .i2l, 9, [], 0, []), (9, .lastore, 10, [], 0, []), (10, .goto 7, 13, [17], 0, []), (13, .astore 4, 15, [], 0, []), (15, .iconst 1, 16, [], 1, []), (16, .ireturn, 17, [], 0, []), (17, .iconst 0, 18, [], 0, []), (18, .ireturn, 19, [], 0, [])]
/-- BlockFrontLaw.output(LBlockFront;I[J)I -/
def am_c199 : List (Nat × Instr × Nat × List Nat × Int32 × List Int32) := [(0, .aload_n 2, 1, [], 0, []), (1, .iconst 0, 2, [], 0, []), (2, .aload_n 0, 3, [], 0, []), (3, .iload_n 1, 4, [], 0, []), (4, .invokevirtual 32, 7, [], 0, []), (7, .i2l, 8, [], 0, []), (8, .lastore, 9, [], 0, []), (9, .goto 6, 12, [15], 0, []), (12, .astore_n 3, 13, [], 0, []), (13, .iconst 1, 14, [], 1, []), (14, .ireturn, 15, [], 0, []), (15, .iconst 0, 16, [], 0, []), (16, .ireturn, 17, [], 0, [])]
/-- BlockFrontLaw.law([I)Z -/
def am_c200 : List (Nat × Instr × Nat × List Nat × Int32 × List Int32) := [(0, .new 8, 3, [], 0, []), (3, .dup, 4, [], 0, []), (4, .invokespecial 36, 7, [], 0, []), (7, .astore_n 1, 8, [], 0, []), (8, .new 37, 11, [], 0, []), (11, .dup, 12, [], 0, []), (12, .invokespecial 39, 15, [], 0, []), (15, .astore_n 2, 16, [], 0, []), (16, .iconst 1, 17, [], 1, []), (17, .newarray .long, 19, [], 0, []), (19, .astore_n 3, 20, [], 0, []), (20, .iconst 0, 21, [], 0, []), (21, .istore 4, 23, [], 0, []), (23, .iload 4, 25, [], 0, []), (25, .aload_n 0, 26, [], 0, []), (26, .arraylength, 27, [], 0, []), (27, .iconst 4, 28, [], 4, []), (28, .isub, 29, [], 0, []), (29, .if_icmp .gt 470, 32, [499], 0, []), (32, .aload_n 0, 33, [], 0, []), (33, .iload 4, 35, [], 0, []), (35, .iaload, 36, [], 0, []), (36, .bipush 15, 38, [], 15, []), (38, .iand, 39, [], 0, []), (39, .tableswitch 454 0 9 #[53, 153, 166, 210, 223, 236, 304, 317, 385, 398], 92, [493, 92, 192, 205, 249, 262, 275, 343, 356, 424, 437], 0, [0, 1, 2, 3, 4, 5, 6, 7, 8, 9]), (92, .aload_n 1, 93, [], 0, []), (93, .aload_n 0, 94, [], 0, []), (94, .iload 4, 96, [], 0, []), (96, .iconst 1, 97, [], 1, []), (97, .iadd, 98, [], 0, []), (98, .iaload, 99, [], 0, []), (99, .i2l, 100, [], 0, []), (100, .bipush 32, 102, [], 32, []), (102, .lshl, 103, [], 0, []), (103, .aload_n 0, 104, [], 0, []), (104, .iload 4, 106, [], 0, []), (106, .iconst 2, 107, [], 2, []), (107, .iadd, 108, [], 0, []), (108, .iaload, 109, [], 0, []), (109, .i2l, 110, [], 0, []), (110, .ldc2_w 40, 113, [], 0, []), (113, .land, 114, [], 0, []), (114, .lor, 115, [], 0, []), (115, .aload_n 0, 116, [], 0, []), (116, .iload 4, 118, [], 0, []), (118, .iconst 3, 119, [], 3, []), (119, .iadd, 120, [], 0, []), (120, .iaload, 121, [], 0, []), (121, .aload_n 3, 122, [], 0, []), (122, .invokestatic 42, 125, [], 0, []), (125, .istore 5, 127, [], 0, []), (127, .aload_n 2, 128, [], 0, []), (128, .aload_n 0, 129, [], 0, []), (129, .iload 4, 131, [], 0, []), (131, .iconst 1, 132, [], 1, []), (132, .iadd, 133, [], 0, []), (133, .iaload, 134, [], 0, []), (134, .i2l, 135, [], 0, []), (135, .bipush 32, 137, [], 32, []), (137, .lshl, 138, [], 0, []), (138, .aload_n 0, 139, [], 0, []), (139, .iload 4, 141, [], 0, []), (141, .iconst 2, 142, [], 2, []), (142, .iadd, 143, [], 0, []), (143, .iaload, 144, [], 0, []), (144, .i2l, 145, [], 0, []), (145, .ldc2_w 40, 148, [], 0, []), (148, .land, 149, [], 0, []), (149, .lor, 150, [], 0, []), (150, .aload_n 0, 151, [], 0, []), (151, .iload 4, 153, [], 0, []), (153, .iconst 3, 154, [], 3, []), (154, .iadd, 155, [], 0, []), (155, .iaload, 156, [], 0, []), (156, .invokevirtual 47, 159, [], 0, []), (159, .istore 6, 161, [], 0, []), (161, .aload_n 2, 162, [], 0, []), (162, .invokevirtual 48, 165, [], 0, []), (165, .iload 5, 167, [], 0, []), (167, .if_icmp .eq 5, 170, [172], 0, []), (170, .iconst 0, 171, [], 0, []), (171, .ireturn, 172, [], 0, []), (172, .iload 5, 174, [], 0, []), (174, .ifCond .ne 15, 177, [189], 0, []), (177, .aload_n 3, 178, [], 0, []), (178, .iconst 0, 179, [], 0, []), (179, .laload, 180, [], 0, []), (180, .iload 6, 182, [], 0, []), (182, .i2l, 183, [], 0, []), (183, .lcmp, 184, [], 0, []), (184, .ifCond .eq 5, 187, [189], 0, []), (187, .iconst 0, 188, [], 0, []), (188, .ireturn, 189, [], 0, []), (189, .goto 304, 192, [493], 0, []), (192, .aload_n 1, 193, [], 0, []), (193, .invokevirtual 51, 196, [], 0, []), (196, .aload_n 2, 197, [], 0, []), (197, .invokevirtual 54, 200, [], 0, []), (200, .if_icmp .eq 293, 203, [493], 0, []), (203, .iconst 0, 204, [], 0, []), (204, .ireturn, 205, [], 0, []), (205, .aload_n 1, 206, [], 0, []), (206, .aload_n 3, 207, [], 0, []), (207, .invokestatic 55, 210, [], 0, []), (210, .istore 5, 212, [], 0, []), (212, .aload_n 2, 213, [], 0, []), (213, .invokevirtual 58, 216, [], 0, []), (216, .istore 6, 218, [], 0, []), (218, .aload_n 2, 219, [], 0, []), (219, .invokevirtual 48, 222, [], 0, []), (222, .iload 5, 224, [], 0, []), (224, .if_icmp .eq 5, 227, [229], 0, []), (227, .iconst 0, 228, [], 0, []), (228, .ireturn, 229, [], 0, []), (229, .iload 5, 231, [], 0, []), (231, .ifCond .ne 15, 234, [246], 0, []), (234, .aload_n 3, 235, [], 0, []), (235, .iconst 0, 236, [], 0, []), (236, .laload, 237, [], 0, []), (237, .iload 6, 239, [], 0, []), (239, .i2l, 240, [], 0, []), (240, .lcmp, 241, [], 0, []), (241, .ifCond .eq 5, 244, [246], 0, []), (244, .iconst 0, 245, [], 0, []), (245, .ireturn, 246, [], 0, []), (246, .goto 247, 249, [493], 0, []), (249, .aload_n 1, 250, [], 0, []), (250, .invokevirtual 59, 253, [], 0, []), (253, .aload_n 2, 254, [], 0, []), (254, .invokevirtual 62, 257, [], 0, []), (257, .if_icmp .eq 236, 260, [493], 0, []), (260, .iconst 0, 261, [], 0, []), (261, .ireturn, 262, [], 0, []), (262, .aload_n 1, 263, [], 0, []), (263, .invokevirtual 63, 266, [], 0, []), (266, .aload_n 2, 267, [], 0, []), (267, .invokevirtual 66, 270, [], 0, []), (270, .if_icmp .eq 223, 273, [493], 0, []), (273, .iconst 0, 274, [], 0, []), (274, .ireturn, 275, [], 0, []), (275, .aload_n 1, 276, [], 0, []), (276, .aload_n 0, 277, [], 0, []), (277, .iload 4, 279, [], 0, []), (279, .iconst 1, 280, [], 1, []), (280, .iadd, 281, [], 0, []), (281, .iaload, 282, [], 0, []), (282, .aload_n 0, 283, [], 0, []), (283, .iload 4, 285, [], 0, []), (285, .iconst 2, 286, [], 2, []), (286, .iadd, 287, [], 0, []), (287, .iaload, 288, [], 0, []), (288, .aload_n 3, 289, [], 0, []), (289, .invokestatic 67, 292, [], 0, []), (292, .istore 5, 294, [], 0, []), (294, .aload_n 2, 295, [], 0, []), (295, .aload_n 0, 296, [], 0, []), (296, .iload 4, 298, [], 0, []), (298, .iconst 1, 299, [], 1, []), (299, .iadd, 300, [], 0, []), (300, .iaload, 301, [], 0, []), (301, .aload_n 0, 302, [], 0, []), (302, .iload 4, 304, [], 0, []), (304, .iconst 2, 305, [], 2, []), (305, .iadd, 306, [], 0, []), (306, .iaload, 307, [], 0, []), (307, .invokevirtual 70, 310, [], 0, []), (310, .istore 6, 312, [], 0, []), (312, .aload_n 2, 313, [], 0, []), (313, .invokevirtual 48, 316, [], 0, []), (316, .iload 5, 318, [], 0, []), (318, .if_icmp .eq 5, 321, [323], 0, []), (321, .iconst 0, 322, [], 0, []), (322, .ireturn, 323, [], 0, []), (323, .iload 5, 325, [], 0, []), (325, .ifCond .ne 15, 328, [340], 0, []), (328, .aload_n 3, 329, [], 0, []), (329, .iconst 0, 330, [], 0, []), (330, .laload, 331, [], 0, []), (331, .iload 6, 333, [], 0, []), (333, .i2l, 334, [], 0, []), (334, .lcmp, 335, [], 0, []), (335, .ifCond .eq 5, 338, [340], 0, []), (338, .iconst 0, 339, [], 0, []), (339, .ireturn, 340, [], 0, []), (340, .goto 153, 343, [493], 0, []), (343, .aload_n 1, 344, [], 0, []), (344, .invokevirtual 71, 347, [], 0, []), (347, .aload_n 2, 348, [], 0, []), (348, .invokevirtual 74, 351, [], 0, []), (351, .if_icmp .eq 142, 354, [493], 0, []), (354, .iconst 0, 355, [], 0, []), (355, .ireturn, 356, [], 0, []), (356, .aload_n 1, 357, [], 0, []), (357, .aload_n 0, 358, [], 0, []), (358, .iload 4, 360, [], 0, []), (360, .iconst 1, 361, [], 1, []), (361, .iadd, 362, [], 0, []), (362, .iaload, 363, [], 0, []), (363, .aload_n 0, 364, [], 0, []), (364, .iload 4, 366, [], 0, []), (366, .iconst 2, 367, [], 2, []), (367, .iadd, 368, [], 0, []), (368, .iaload, 369, [], 0, []), (369, .aload_n 3, 370, [], 0, []), (370, .invokestatic 75, 373, [], 0, []), (373, .istore 5, 375, [], 0, []), (375, .aload_n 2, 376, [], 0, []), (376, .aload_n 0, 377, [], 0, []), (377, .iload 4, 379, [], 0, []), (379, .iconst 1, 380, [], 1, []), (380, .iadd, 381, [], 0, []), (381, .iaload, 382, [], 0, []), (382, .aload_n 0, 383, [], 0, []), (383, .iload 4, 385, [], 0, []), (385, .iconst 2, 386, [], 2, []), (386, .iadd, 387, [], 0, []), (387, .iaload, 388, [], 0, []), (388, .invokevirtual 77, 391, [], 0, []), (391, .istore 6, 393, [], 0, []), (393, .aload_n 2, 394, [], 0, []), (394, .invokevirtual 48, 397, [], 0, []), (397, .iload 5, 399, [], 0, []), (399, .if_icmp .eq 5, 402, [404], 0, []), (402, .iconst 0, 403, [], 0, []), (403, .ireturn, 404, [], 0, []), (404, .iload 5, 406, [], 0, []), (406, .ifCond .ne 15, 409, [421], 0, []), (409, .aload_n 3, 410, [], 0, []), (410, .iconst 0, 411, [], 0, []), (411, .laload, 412, [], 0, []), (412, .iload 6, 414, [], 0, []), (414, .i2l, 415, [], 0, []), (415, .lcmp, 416, [], 0, []), (416, .ifCond .eq 5, 419, [421], 0, []), (419, .iconst 0, 420, [], 0, []), (420, .ireturn, 421, [], 0, []), (421, .goto 72, 424, [493], 0, []), (424, .aload_n 1, 425, [], 0, []), (425, .invokevirtual 78, 428, [], 0, []), (428, .aload_n 2, 429, [], 0, []), (429, .invokevirtual 81, 432, [], 0, []), (432, .if_icmp .eq 61, 435, [493], 0, []), (435, .iconst 0, 436, [], 0, []), (436, .ireturn, 437, [], 0, []), (437, .aload_n 1, 438, [], 0, []), (438, .aload_n 0, 439, [], 0, []), (439, .iload 4, 441, [], 0, []), (441, .iconst 1, 442, [], 1, []), (442, .iadd, 443, [], 0, []), (443, .iaload, 444, [], 0, []), (444, .aload_n 3, 445, [], 0, []), (445, .invokestatic 82, 448, [], 0, []), (448, .istore 5, 450, [], 0, []), (450, .aload_n 2, 451, [], 0, []), (451, .aload_n 0, 452, [], 0, []), (452, .iload 4, 454, [], 0, []), (454, .iconst 1, 455, [], 1, []), (455, .iadd, 456, [], 0, []), (456, .iaload, 457, [], 0, []), (457, .invokevirtual 85, 460, [], 0, []), (460, .istore 6, 462, [], 0, []), (462, .aload_n 2, 463, [], 0, []), (463, .invokevirtual 48, 466, [], 0, []), (466, .iload 5, 468, [], 0, []), (468, .if_icmp .eq 5, 471, [473], 0, []), (471, .iconst 0, 472, [], 0, []), (472, .ireturn, 473, [], 0, []), (473, .iload 5, 475, [], 0, []), (475, .ifCond .ne 15, 478, [490], 0, []), (478, .aload_n 3, 479, [], 0, []), (479, .iconst 0, 480, [], 0, []), (480, .laload, 481, [], 0, []), (481, .iload 6, 483, [], 0, []), (483, .i2l, 484, [], 0, []), (484, .lcmp, 485, [], 0, []), (485, .ifCond .eq 5, 488, [490], 0, []), (488, .iconst 0, 489, [], 0, []), (489, .ireturn, 490, [], 0, []), (490, .goto 3, 493, [493], 0, []), (493, .iinc 4 4, 496, [], 4, []), (496, .goto (-473), 499, [23], 0, []), (499, .iconst 1, 500, [], 1, []), (500, .ireturn, 501, [], 0, [])]
end
section
/-- a method: own class, name, bytes, locals, type, handlers, code -/
abbrev aM : Type := Nat × MethodName × ByteArray × Nat × Option FieldType × List (Nat × Nat × Nat × Nat) × List (Nat × Instr × Nat × List Nat × Int32 × List Int32)
def am_m0 : aM := (11, ⟨"java/lang/Math", "max", "(II)I"⟩, prog_16_method_65_code, 2, (some .int), [], am_c0)
def am_m1 : aM := (11, ⟨"java/lang/Math", "min", "(II)I"⟩, prog_16_method_69_code, 2, (some .int), [], am_c1)
def am_m2 : aM := (12, ⟨"java/lang/String", "length", "()I"⟩, prog_18_method_54_code, 1, (some .int), [], am_c2)
def am_m3 : aM := (12, ⟨"java/lang/String", "charAt", "(I)C"⟩, prog_18_method_56_code, 2, (some .char), [], am_c3)
def am_m4 : aM := (12, ⟨"java/lang/String", "indexOf", "(I)I"⟩, prog_18_method_79_code, 2, (some .int), [], am_c4)
def am_m5 : aM := (12, ⟨"java/lang/String", "indexOf", "(II)I"⟩, prog_18_method_80_code, 3, (some .int), [], am_c5)
def am_m6 : aM := (12, ⟨"java/lang/String", "coder", "()B"⟩, prog_18_method_152_code, 1, (some .byte), [], am_c6)
def am_m7 : aM := (12, ⟨"java/lang/String", "isLatin1", "()Z"⟩, prog_18_method_154_code, 1, (some .boolean), [], am_c7)
def am_m8 : aM := (12, ⟨"java/lang/String", "checkIndex", "(II)V"⟩, prog_18_method_155_code, 2, none, [], am_c8)
def am_m9 : aM := (12, ⟨"java/lang/String", "checkBoundsBeginEnd", "(III)V"⟩, prog_18_method_158_code, 3, none, [], am_c9)
def am_m10 : aM := (13, ⟨"java/lang/StringLatin1", "charAt", "([BI)C"⟩, prog_19_method_2_code, 2, (some .char), [], am_c10)
def am_m11 : aM := (13, ⟨"java/lang/StringLatin1", "canEncode", "(I)Z"⟩, prog_19_method_4_code, 1, (some .boolean), [], am_c11)
def am_m12 : aM := (13, ⟨"java/lang/StringLatin1", "indexOf", "([BIII)I"⟩, prog_19_method_22_code, 4, (some .int), [], am_c12)
def am_m13 : aM := (13, ⟨"java/lang/StringLatin1", "indexOfChar", "([BIII)I"⟩, prog_19_method_23_code, 6, (some .int), [], am_c13)
def am_m14 : aM := (2, ⟨"BlockFront$Refusal", "<init>", "()V"⟩, prog_4_method_1_code, 1, none, [], am_c14)
def am_m15 : aM := (2, ⟨"BlockFront$Refusal", "forget", "()V"⟩, prog_4_method_2_code, 1, none, [], am_c15)
def am_m16 : aM := (2, ⟨"BlockFront$Refusal", "refuse", "(II)V"⟩, prog_4_method_3_code, 3, none, [], am_c16)
def am_m17 : aM := (4, ⟨"BlockFront$Text", "<init>", "()V"⟩, prog_6_method_1_code, 1, none, [], am_c17)
def am_m18 : aM := (4, ⟨"BlockFront$Text", "add", "(C)V"⟩, prog_6_method_2_code, 2, none, [], am_c18)
def am_m19 : aM := (4, ⟨"BlockFront$Text", "at", "(I)C"⟩, prog_6_method_3_code, 2, (some .char), [], am_c19)
def am_m20 : aM := (4, ⟨"BlockFront$Text", "reads", "(Ljava/lang/String;II)Z"⟩, prog_6_method_4_code, 5, (some .boolean), [], am_c20)
def am_m21 : aM := (1, ⟨"BlockFront$Pile", "<init>", "(I)V"⟩, prog_3_method_1_code, 2, none, [], am_c21)
def am_m22 : aM := (1, ⟨"BlockFront$Pile", "push", "(I)Z"⟩, prog_3_method_2_code, 2, (some .boolean), [], am_c22)
def am_m23 : aM := (1, ⟨"BlockFront$Pile", "pop", "()V"⟩, prog_3_method_3_code, 1, none, [], am_c23)
def am_m24 : aM := (1, ⟨"BlockFront$Pile", "last", "()I"⟩, prog_3_method_4_code, 1, (some .int), [], am_c24)
def am_m25 : aM := (5, ⟨"BlockFront$Tokens", "<init>", "()V"⟩, prog_7_method_1_code, 1, none, [], am_c25)
def am_m26 : aM := (5, ⟨"BlockFront$Tokens", "add", "(IIII)Z"⟩, prog_7_method_2_code, 5, (some .boolean), [], am_c26)
def am_m27 : aM := (5, ⟨"BlockFront$Tokens", "kindAt", "(I)I"⟩, prog_7_method_3_code, 2, (some .int), [], am_c27)
def am_m28 : aM := (5, ⟨"BlockFront$Tokens", "markAt", "(I)I"⟩, prog_7_method_4_code, 2, (some .int), [], am_c28)
def am_m29 : aM := (5, ⟨"BlockFront$Tokens", "placeAt", "(I)I"⟩, prog_7_method_5_code, 2, (some .int), [], am_c29)
def am_m30 : aM := (5, ⟨"BlockFront$Tokens", "extentAt", "(I)I"⟩, prog_7_method_6_code, 2, (some .int), [], am_c30)
def am_m31 : aM := (6, ⟨"BlockFront$Tree", "<init>", "()V"⟩, prog_8_method_1_code, 1, none, [], am_c31)
def am_m32 : aM := (6, ⟨"BlockFront$Tree", "add", "(II)I"⟩, prog_8_method_2_code, 4, (some .int), [], am_c32)
def am_m33 : aM := (6, ⟨"BlockFront$Tree", "append", "(II)V"⟩, prog_8_method_3_code, 4, none, [], am_c33)
def am_m34 : aM := (6, ⟨"BlockFront$Tree", "setToken", "(II)V"⟩, prog_8_method_4_code, 3, none, [], am_c34)
def am_m35 : aM := (6, ⟨"BlockFront$Tree", "has", "(I)Z"⟩, prog_8_method_5_code, 2, (some .boolean), [], am_c35)
def am_m36 : aM := (6, ⟨"BlockFront$Tree", "kindOf", "(I)I"⟩, prog_8_method_6_code, 2, (some .int), [], am_c36)
def am_m37 : aM := (6, ⟨"BlockFront$Tree", "tokenOf", "(I)I"⟩, prog_8_method_7_code, 2, (some .int), [], am_c37)
def am_m38 : aM := (6, ⟨"BlockFront$Tree", "heightOf", "(I)I"⟩, prog_8_method_8_code, 2, (some .int), [], am_c38)
def am_m39 : aM := (6, ⟨"BlockFront$Tree", "partsOf", "(I)I"⟩, prog_8_method_9_code, 2, (some .int), [], am_c39)
def am_m40 : aM := (6, ⟨"BlockFront$Tree", "firstOf", "(I)I"⟩, prog_8_method_10_code, 2, (some .int), [], am_c40)
def am_m41 : aM := (6, ⟨"BlockFront$Tree", "nextOf", "(I)I"⟩, prog_8_method_11_code, 2, (some .int), [], am_c41)
def am_m42 : aM := (6, ⟨"BlockFront$Tree", "numbered", "(I)I"⟩, prog_8_method_12_code, 2, (some .int), [], am_c42)
def am_m43 : aM := (6, ⟨"BlockFront$Tree", "number", "()V"⟩, prog_8_method_13_code, 3, none, [], am_c43)
def am_m44 : aM := (6, ⟨"BlockFront$Tree", "behind", "(I)I"⟩, prog_8_method_14_code, 4, (some .int), [], am_c44)
def am_m45 : aM := (3, ⟨"BlockFront$Scanner", "<init>", "(LBlockFront$Text;LBlockFront$Tokens;LBlockFront$Refusal;)V"⟩, prog_5_method_1_code, 4, none, [], am_c45)
def am_m46 : aM := (3, ⟨"BlockFront$Scanner", "scan", "()V"⟩, prog_5_method_2_code, 2, none, [], am_c46)
def am_m47 : aM := (3, ⟨"BlockFront$Scanner", "begin", "()V"⟩, prog_5_method_3_code, 1, none, [], am_c47)
def am_m48 : aM := (3, ⟨"BlockFront$Scanner", "beginLine", "()V"⟩, prog_5_method_4_code, 4, none, [], am_c48)
def am_m49 : aM := (3, ⟨"BlockFront$Scanner", "passToEndOfLine", "()V"⟩, prog_5_method_5_code, 1, none, [], am_c49)
def am_m50 : aM := (3, ⟨"BlockFront$Scanner", "compareWidths", "(II)V"⟩, prog_5_method_6_code, 4, none, [], am_c50)
def am_m51 : aM := (3, ⟨"BlockFront$Scanner", "beginBlock", "(II)V"⟩, prog_5_method_7_code, 3, none, [], am_c51)
def am_m52 : aM := (3, ⟨"BlockFront$Scanner", "take", "(III)V"⟩, prog_5_method_8_code, 4, none, [], am_c52)
def am_m53 : aM := (3, ⟨"BlockFront$Scanner", "takeNext", "()V"⟩, prog_5_method_9_code, 2, none, [], am_c53)
def am_m54 : aM := (3, ⟨"BlockFront$Scanner", "takeEndOfLine", "()V"⟩, prog_5_method_10_code, 1, none, [], am_c54)
def am_m55 : aM := (3, ⟨"BlockFront$Scanner", "takeName", "()V"⟩, prog_5_method_11_code, 3, none, [], am_c55)
def am_m56 : aM := (3, ⟨"BlockFront$Scanner", "markOfName", "(II)I"⟩, prog_5_method_12_code, 3, (some .int), [], am_c56)
def am_m57 : aM := (3, ⟨"BlockFront$Scanner", "takeNumber", "()V"⟩, prog_5_method_13_code, 2, none, [], am_c57)
def am_m58 : aM := (3, ⟨"BlockFront$Scanner", "takeString", "(C)V"⟩, prog_5_method_14_code, 3, none, [], am_c58)
def am_m59 : aM := (3, ⟨"BlockFront$Scanner", "takeSign", "(C)V"⟩, prog_5_method_15_code, 2, none, [], am_c59)
def am_m60 : aM := (3, ⟨"BlockFront$Scanner", "openBracket", "()V"⟩, prog_5_method_16_code, 1, none, [], am_c60)
def am_m61 : aM := (3, ⟨"BlockFront$Scanner", "closeBracket", "(C)V"⟩, prog_5_method_17_code, 3, none, [], am_c61)
def am_m62 : aM := (3, ⟨"BlockFront$Scanner", "finish", "()V"⟩, prog_5_method_18_code, 2, none, [], am_c62)
def am_m63 : aM := (0, ⟨"BlockFront$Parser", "<init>", "(LBlockFront$Tokens;LBlockFront$Tree;LBlockFront$Refusal;)V"⟩, prog_2_method_1_code, 4, none, [], am_c63)
def am_m64 : aM := (0, ⟨"BlockFront$Parser", "begin", "()V"⟩, prog_2_method_2_code, 1, none, [], am_c64)
def am_m65 : aM := (0, ⟨"BlockFront$Parser", "isAt", "(I)Z"⟩, prog_2_method_3_code, 2, (some .boolean), [], am_c65)
def am_m66 : aM := (0, ⟨"BlockFront$Parser", "advance", "()I"⟩, prog_2_method_4_code, 1, (some .int), [], am_c66)
def am_m67 : aM := (0, ⟨"BlockFront$Parser", "expect", "(I)I"⟩, prog_2_method_5_code, 2, (some .int), [], am_c67)
def am_m68 : aM := (0, ⟨"BlockFront$Parser", "statements", "(II)I"⟩, prog_2_method_6_code, 5, (some .int), [], am_c68)
def am_m69 : aM := (0, ⟨"BlockFront$Parser", "statement", "(II)V"⟩, prog_2_method_7_code, 3, none, [], am_c69)
def am_m70 : aM := (0, ⟨"BlockFront$Parser", "addStatement", "(II)V"⟩, prog_2_method_8_code, 3, none, [], am_c70)
def am_m71 : aM := (0, ⟨"BlockFront$Parser", "branches", "(I)I"⟩, prog_2_method_9_code, 6, (some .int), [], am_c71)
def am_m72 : aM := (0, ⟨"BlockFront$Parser", "conditional", "(II)I"⟩, prog_2_method_10_code, 4, (some .int), [], am_c72)
def am_m73 : aM := (0, ⟨"BlockFront$Parser", "definition", "(I)I"⟩, prog_2_method_11_code, 4, (some .int), [], am_c73)
def am_m74 : aM := (0, ⟨"BlockFront$Parser", "block", "(I)I"⟩, prog_2_method_12_code, 3, (some .int), [], am_c74)
def am_m75 : aM := (0, ⟨"BlockFront$Parser", "line", "(I)V"⟩, prog_2_method_13_code, 3, none, [], am_c75)
def am_m76 : aM := (0, ⟨"BlockFront$Parser", "small", "(I)V"⟩, prog_2_method_14_code, 5, none, [], am_c76)
def am_m77 : aM := (0, ⟨"BlockFront$Parser", "tier", "(II)I"⟩, prog_2_method_15_code, 9, (some .int), [], am_c77)
def am_m78 : aM := (0, ⟨"BlockFront$Parser", "prefixed", "(II)I"⟩, prog_2_method_16_code, 6, (some .int), [], am_c78)
def am_m79 : aM := (0, ⟨"BlockFront$Parser", "part", "(I)I"⟩, prog_2_method_17_code, 4, (some .int), [], am_c79)
def am_m80 : aM := (0, ⟨"BlockFront$Parser", "member", "(I)I"⟩, prog_2_method_18_code, 3, (some .int), [], am_c80)
def am_m81 : aM := (0, ⟨"BlockFront$Parser", "call", "(II)I"⟩, prog_2_method_19_code, 5, (some .int), [], am_c81)
def am_m82 : aM := (0, ⟨"BlockFront$Parser", "index", "(II)I"⟩, prog_2_method_20_code, 5, (some .int), [], am_c82)
def am_m83 : aM := (0, ⟨"BlockFront$Parser", "addExpressions", "(III)V"⟩, prog_2_method_21_code, 5, none, [], am_c83)
def am_m84 : aM := (0, ⟨"BlockFront$Parser", "atom", "(I)I"⟩, prog_2_method_22_code, 2, (some .int), [], am_c84)
def am_m85 : aM := (0, ⟨"BlockFront$Parser", "bracketed", "(I)I"⟩, prog_2_method_23_code, 3, (some .int), [], am_c85)
def am_m86 : aM := (0, ⟨"BlockFront$Parser", "list", "(I)I"⟩, prog_2_method_24_code, 4, (some .int), [], am_c86)
def am_m87 : aM := (0, ⟨"BlockFront$Parser", "opened", "(II)I"⟩, prog_2_method_25_code, 3, (some .int), [], am_c87)
def am_m88 : aM := (0, ⟨"BlockFront$Parser", "checkHeight", "(I)V"⟩, prog_2_method_26_code, 2, none, [], am_c88)
def am_m89 : aM := (7, ⟨"BlockFront$Writer", "<init>", "(LBlockFront$Text;LBlockFront$Tokens;LBlockFront$Tree;)V"⟩, prog_9_method_1_code, 4, none, [], am_c89)
def am_m90 : aM := (7, ⟨"BlockFront$Writer", "writtenAt", "(I)C"⟩, prog_9_method_2_code, 2, (some .char), [], am_c90)
def am_m91 : aM := (7, ⟨"BlockFront$Writer", "writeWhole", "()V"⟩, prog_9_method_3_code, 1, none, [], am_c91)
def am_m92 : aM := (7, ⟨"BlockFront$Writer", "put", "(C)V"⟩, prog_9_method_4_code, 2, none, [], am_c92)
def am_m93 : aM := (7, ⟨"BlockFront$Writer", "putWord", "(Ljava/lang/String;)V"⟩, prog_9_method_5_code, 3, none, [], am_c93)
def am_m94 : aM := (7, ⟨"BlockFront$Writer", "putTokenOf", "(I)V"⟩, prog_9_method_6_code, 6, none, [], am_c94)
def am_m95 : aM := (7, ⟨"BlockFront$Writer", "beginLine", "(I)V"⟩, prog_9_method_7_code, 3, none, [], am_c95)
def am_m96 : aM := (7, ⟨"BlockFront$Writer", "writeBlock", "(II)V"⟩, prog_9_method_8_code, 5, none, [], am_c96)
def am_m97 : aM := (7, ⟨"BlockFront$Writer", "writeStatement", "(II)V"⟩, prog_9_method_9_code, 3, none, [], am_c97)
def am_m98 : aM := (7, ⟨"BlockFront$Writer", "writeBranches", "(II)V"⟩, prog_9_method_10_code, 5, none, [], am_c98)
def am_m99 : aM := (7, ⟨"BlockFront$Writer", "writeConditional", "(II)I"⟩, prog_9_method_11_code, 5, (some .int), [], am_c99)
def am_m100 : aM := (7, ⟨"BlockFront$Writer", "writeDefinition", "(II)V"⟩, prog_9_method_12_code, 5, none, [], am_c100)
def am_m101 : aM := (7, ⟨"BlockFront$Writer", "writeSmall", "(I)V"⟩, prog_9_method_13_code, 4, none, [], am_c101)
def am_m102 : aM := (7, ⟨"BlockFront$Writer", "writeExpression", "(II)V"⟩, prog_9_method_14_code, 4, none, [], am_c102)
def am_m103 : aM := (7, ⟨"BlockFront$Writer", "writeExpressions", "(CICI)V"⟩, prog_9_method_15_code, 7, none, [], am_c103)
def am_m104 : aM := (7, ⟨"BlockFront$Writer", "writePart", "(III)V"⟩, prog_9_method_16_code, 5, none, [], am_c104)
def am_m105 : aM := (7, ⟨"BlockFront$Writer", "needsBrackets", "(II)Z"⟩, prog_9_method_17_code, 5, (some .boolean), [], am_c105)
def am_m106 : aM := (7, ⟨"BlockFront$Writer", "strengthOf", "(I)I"⟩, prog_9_method_18_code, 2, (some .int), [], am_c106)
def am_m107 : aM := (8, ⟨"BlockFront", "<init>", "()V"⟩, prog_1_method_1_code, 5, none, [], am_c107)
def am_m108 : aM := (8, ⟨"BlockFront", "type", "(JI)I"⟩, prog_1_method_2_code, 5, (some .int), [], am_c108)
def am_m109 : aM := (8, ⟨"BlockFront", "clear", "()I"⟩, prog_1_method_3_code, 2, (some .int), [], am_c109)
def am_m110 : aM := (8, ⟨"BlockFront", "read", "()I"⟩, prog_1_method_4_code, 1, (some .int), [], am_c110)
def am_m111 : aM := (8, ⟨"BlockFront", "why", "()I"⟩, prog_1_method_5_code, 1, (some .int), [], am_c111)
def am_m112 : aM := (8, ⟨"BlockFront", "where", "()I"⟩, prog_1_method_6_code, 1, (some .int), [], am_c112)
def am_m113 : aM := (8, ⟨"BlockFront", "token", "(II)I"⟩, prog_1_method_7_code, 3, (some .int), [], am_c113)
def am_m114 : aM := (8, ⟨"BlockFront", "nodes", "()I"⟩, prog_1_method_8_code, 1, (some .int), [], am_c114)
def am_m115 : aM := (8, ⟨"BlockFront", "node", "(II)I"⟩, prog_1_method_9_code, 4, (some .int), [], am_c115)
def am_m116 : aM := (8, ⟨"BlockFront", "length", "()I"⟩, prog_1_method_10_code, 1, (some .int), [], am_c116)
def am_m117 : aM := (8, ⟨"BlockFront", "output", "(I)C"⟩, prog_1_method_11_code, 2, (some .char), [], am_c117)
def am_m118 : aM := (8, ⟨"BlockFront", "isAccepted", "()Z"⟩, prog_1_method_12_code, 2, (some .boolean), [(0, 33, 34, 85)], am_c118)
def am_m119 : aM := (8, ⟨"BlockFront", "byteAt", "(JI)C"⟩, prog_1_method_13_code, 3, (some .char), [], am_c119)
def am_m120 : aM := (8, ⟨"BlockFront", "isCharacter", "(C)Z"⟩, prog_1_method_14_code, 1, (some .boolean), [], am_c120)
def am_m121 : aM := (8, ⟨"BlockFront", "isBlank", "(C)Z"⟩, prog_1_method_15_code, 1, (some .boolean), [], am_c121)
def am_m122 : aM := (8, ⟨"BlockFront", "isDigit", "(C)Z"⟩, prog_1_method_16_code, 1, (some .boolean), [], am_c122)
def am_m123 : aM := (8, ⟨"BlockFront", "beginsName", "(C)Z"⟩, prog_1_method_17_code, 1, (some .boolean), [], am_c123)
def am_m124 : aM := (8, ⟨"BlockFront", "strengthBetween", "(I)I"⟩, prog_1_method_18_code, 1, (some .int), [], am_c124)
def am_m125 : aM := (8, ⟨"BlockFront", "kindBetween", "(I)I"⟩, prog_1_method_19_code, 1, (some .int), [], am_c125)
def am_m126 : aM := (9, ⟨"BlockFrontModel", "<init>", "()V"⟩, prog_11_method_1_code, 1, none, [], am_c126)
def am_m127 : aM := (9, ⟨"BlockFrontModel", "thrown", "()I"⟩, prog_11_method_2_code, 1, (some .int), [], am_c127)
def am_m128 : aM := (9, ⟨"BlockFrontModel", "isCharacter", "(I)Z"⟩, prog_11_method_3_code, 1, (some .boolean), [], am_c128)
def am_m129 : aM := (9, ⟨"BlockFrontModel", "type", "(JI)I"⟩, prog_11_method_4_code, 6, (some .int), [], am_c129)
def am_m130 : aM := (9, ⟨"BlockFrontModel", "clear", "()I"⟩, prog_11_method_5_code, 2, (some .int), [], am_c130)
def am_m131 : aM := (9, ⟨"BlockFrontModel", "fault", "(II)Z"⟩, prog_11_method_6_code, 3, (some .boolean), [], am_c131)
def am_m132 : aM := (9, ⟨"BlockFrontModel", "character", "(I)I"⟩, prog_11_method_7_code, 2, (some .int), [], am_c132)
def am_m133 : aM := (9, ⟨"BlockFrontModel", "isBlank", "(I)Z"⟩, prog_11_method_8_code, 1, (some .boolean), [], am_c133)
def am_m134 : aM := (9, ⟨"BlockFrontModel", "isDigit", "(I)Z"⟩, prog_11_method_9_code, 1, (some .boolean), [], am_c134)
def am_m135 : aM := (9, ⟨"BlockFrontModel", "isLetter", "(I)Z"⟩, prog_11_method_10_code, 1, (some .boolean), [], am_c135)
def am_m136 : aM := (9, ⟨"BlockFrontModel", "add", "(IIIJ)Z"⟩, prog_11_method_11_code, 6, (some .boolean), [], am_c136)
def am_m137 : aM := (9, ⟨"BlockFrontModel", "lineEnd", "(I)I"⟩, prog_11_method_12_code, 3, (some .int), [], am_c137)
def am_m138 : aM := (9, ⟨"BlockFrontModel", "compare", "(I)Z"⟩, prog_11_method_13_code, 3, (some .boolean), [], am_c138)
def am_m139 : aM := (9, ⟨"BlockFrontModel", "beginLine", "(I)I"⟩, prog_11_method_14_code, 5, (some .int), [], am_c139)
def am_m140 : aM := (9, ⟨"BlockFrontModel", "nameFrom", "(I)I"⟩, prog_11_method_15_code, 6, (some .int), [], am_c140)
def am_m141 : aM := (9, ⟨"BlockFrontModel", "numberFrom", "(I)I"⟩, prog_11_method_16_code, 4, (some .int), [], am_c141)
def am_m142 : aM := (9, ⟨"BlockFrontModel", "stringFrom", "(I)I"⟩, prog_11_method_17_code, 4, (some .int), [], am_c142)
def am_m143 : aM := (9, ⟨"BlockFrontModel", "isSign", "(I)Z"⟩, prog_11_method_18_code, 1, (some .boolean), [], am_c143)
def am_m144 : aM := (9, ⟨"BlockFrontModel", "bracket", "(II)Z"⟩, prog_11_method_19_code, 3, (some .boolean), [], am_c144)
def am_m145 : aM := (9, ⟨"BlockFrontModel", "signFrom", "(I)I"⟩, prog_11_method_20_code, 4, (some .int), [], am_c145)
def am_m146 : aM := (9, ⟨"BlockFrontModel", "goOn", "(I)I"⟩, prog_11_method_21_code, 3, (some .int), [], am_c146)
def am_m147 : aM := (9, ⟨"BlockFrontModel", "take", "()Z"⟩, prog_11_method_22_code, 4, (some .boolean), [], am_c147)
def am_m148 : aM := (9, ⟨"BlockFrontModel", "make", "(II)I"⟩, prog_11_method_23_code, 3, (some .int), [], am_c148)
def am_m149 : aM := (9, ⟨"BlockFrontModel", "append", "(II)V"⟩, prog_11_method_24_code, 3, none, [], am_c149)
def am_m150 : aM := (9, ⟨"BlockFrontModel", "unfit", "()Z"⟩, prog_11_method_25_code, 1, (some .boolean), [], am_c150)
def am_m151 : aM := (9, ⟨"BlockFrontModel", "isSignHere", "(I)Z"⟩, prog_11_method_26_code, 2, (some .boolean), [], am_c151)
def am_m152 : aM := (9, ⟨"BlockFrontModel", "isWordHere", "(J)Z"⟩, prog_11_method_27_code, 3, (some .boolean), [], am_c152)
def am_m153 : aM := (9, ⟨"BlockFrontModel", "pass", "(Z)Z"⟩, prog_11_method_28_code, 2, (some .boolean), [], am_c153)
def am_m154 : aM := (9, ⟨"BlockFrontModel", "finish", "(I)Z"⟩, prog_11_method_29_code, 2, (some .boolean), [], am_c154)
def am_m155 : aM := (9, ⟨"BlockFrontModel", "kindOf", "(I)I"⟩, prog_11_method_30_code, 1, (some .int), [], am_c155)
def am_m156 : aM := (9, ⟨"BlockFrontModel", "close", "(I)Z"⟩, prog_11_method_31_code, 4, (some .boolean), [], am_c156)
def am_m157 : aM := (9, ⟨"BlockFrontModel", "enter", "(II)Z"⟩, prog_11_method_32_code, 3, (some .boolean), [], am_c157)
def am_m158 : aM := (9, ⟨"BlockFrontModel", "strength", "()I"⟩, prog_11_method_33_code, 2, (some .int), [], am_c158)
def am_m159 : aM := (9, ⟨"BlockFrontModel", "opener", "()I"⟩, prog_11_method_34_code, 1, (some .int), [], am_c159)
def am_m160 : aM := (9, ⟨"BlockFrontModel", "endBracket", "(Z)Z"⟩, prog_11_method_35_code, 3, (some .boolean), [], am_c160)
def am_m161 : aM := (9, ⟨"BlockFrontModel", "part", "()I"⟩, prog_11_method_36_code, 3, (some .int), [], am_c161)
def am_m162 : aM := (9, ⟨"BlockFrontModel", "apply", "(II)I"⟩, prog_11_method_37_code, 4, (some .int), [], am_c162)
def am_m163 : aM := (9, ⟨"BlockFrontModel", "member", "()I"⟩, prog_11_method_38_code, 2, (some .int), [], am_c163)
def am_m164 : aM := (9, ⟨"BlockFrontModel", "behind", "()I"⟩, prog_11_method_39_code, 3, (some .int), [], am_c164)
def am_m165 : aM := (9, ⟨"BlockFrontModel", "expression", "()I"⟩, prog_11_method_40_code, 2, (some .int), [], am_c165)
def am_m166 : aM := (9, ⟨"BlockFrontModel", "expressionOf", "(I)Z"⟩, prog_11_method_41_code, 3, (some .boolean), [], am_c166)
def am_m167 : aM := (9, ⟨"BlockFrontModel", "small", "(I)Z"⟩, prog_11_method_42_code, 4, (some .boolean), [], am_c167)
def am_m168 : aM := (9, ⟨"BlockFrontModel", "line", "(I)Z"⟩, prog_11_method_43_code, 3, (some .boolean), [], am_c168)
def am_m169 : aM := (9, ⟨"BlockFrontModel", "parameters", "(I)Z"⟩, prog_11_method_44_code, 3, (some .boolean), [], am_c169)
def am_m170 : aM := (9, ⟨"BlockFrontModel", "head", "(I)Z"⟩, prog_11_method_45_code, 2, (some .boolean), [], am_c170)
def am_m171 : aM := (9, ⟨"BlockFrontModel", "blockOf", "(I)I"⟩, prog_11_method_46_code, 3, (some .int), [], am_c171)
def am_m172 : aM := (9, ⟨"BlockFrontModel", "compound", "()I"⟩, prog_11_method_47_code, 1, (some .int), [], am_c172)
def am_m173 : aM := (9, ⟨"BlockFrontModel", "parse", "()Z"⟩, prog_11_method_48_code, 7, (some .boolean), [], am_c173)
def am_m174 : aM := (9, ⟨"BlockFrontModel", "count", "()V"⟩, prog_11_method_49_code, 2, none, [], am_c174)
def am_m175 : aM := (9, ⟨"BlockFrontModel", "put", "(I)V"⟩, prog_11_method_50_code, 2, none, [], am_c175)
def am_m176 : aM := (9, ⟨"BlockFrontModel", "putToken", "(I)V"⟩, prog_11_method_51_code, 3, none, [], am_c176)
def am_m177 : aM := (9, ⟨"BlockFrontModel", "strengthOf", "(I)I"⟩, prog_11_method_52_code, 4, (some .int), [], am_c177)
def am_m178 : aM := (9, ⟨"BlockFrontModel", "inBrackets", "(III)Z"⟩, prog_11_method_53_code, 7, (some .boolean), [], am_c178)
def am_m179 : aM := (9, ⟨"BlockFrontModel", "putBefore", "(II)V"⟩, prog_11_method_54_code, 6, none, [], am_c179)
def am_m180 : aM := (9, ⟨"BlockFrontModel", "putExpression", "(I)V"⟩, prog_11_method_55_code, 6, none, [], am_c180)
def am_m181 : aM := (9, ⟨"BlockFrontModel", "putWord", "(J)V"⟩, prog_11_method_56_code, 6, none, [], am_c181)
def am_m182 : aM := (9, ⟨"BlockFrontModel", "indent", "(I)V"⟩, prog_11_method_57_code, 3, none, [], am_c182)
def am_m183 : aM := (9, ⟨"BlockFrontModel", "putHead", "(I)V"⟩, prog_11_method_58_code, 5, none, [], am_c183)
def am_m184 : aM := (9, ⟨"BlockFrontModel", "putSimple", "(I)V"⟩, prog_11_method_59_code, 3, none, [], am_c184)
def am_m185 : aM := (9, ⟨"BlockFrontModel", "isCompound", "(I)Z"⟩, prog_11_method_60_code, 2, (some .boolean), [], am_c185)
def am_m186 : aM := (9, ⟨"BlockFrontModel", "write", "()V"⟩, prog_11_method_61_code, 6, none, [], am_c186)
def am_m187 : aM := (9, ⟨"BlockFrontModel", "read", "()I"⟩, prog_11_method_62_code, 2, (some .int), [], am_c187)
def am_m188 : aM := (9, ⟨"BlockFrontModel", "why", "()I"⟩, prog_11_method_63_code, 1, (some .int), [], am_c188)
def am_m189 : aM := (9, ⟨"BlockFrontModel", "where", "()I"⟩, prog_11_method_64_code, 1, (some .int), [], am_c189)
def am_m190 : aM := (9, ⟨"BlockFrontModel", "token", "(II)I"⟩, prog_11_method_65_code, 4, (some .int), [], am_c190)
def am_m191 : aM := (9, ⟨"BlockFrontModel", "nodes", "()I"⟩, prog_11_method_66_code, 1, (some .int), [], am_c191)
def am_m192 : aM := (9, ⟨"BlockFrontModel", "node", "(II)I"⟩, prog_11_method_67_code, 5, (some .int), [], am_c192)
def am_m193 : aM := (9, ⟨"BlockFrontModel", "length", "()I"⟩, prog_11_method_68_code, 1, (some .int), [], am_c193)
def am_m194 : aM := (9, ⟨"BlockFrontModel", "output", "(I)C"⟩, prog_11_method_69_code, 3, (some .char), [], am_c194)
def am_m195 : aM := (10, ⟨"BlockFrontLaw", "type", "(LBlockFront;JI[J)I"⟩, method_3_code, 6, (some .int), [(0, 11, 14, 13), (0, 11, 18, 15)], am_c195)
def am_m196 : aM := (10, ⟨"BlockFrontLaw", "read", "(LBlockFront;[J)I"⟩, method_4_code, 3, (some .int), [(0, 8, 11, 21)], am_c196)
def am_m197 : aM := (10, ⟨"BlockFrontLaw", "token", "(LBlockFront;II[J)I"⟩, method_5_code, 5, (some .int), [(0, 10, 13, 27)], am_c197)
def am_m198 : aM := (10, ⟨"BlockFrontLaw", "node", "(LBlockFront;II[J)I"⟩, method_6_code, 5, (some .int), [(0, 10, 13, 27)], am_c198)
def am_m199 : aM := (10, ⟨"BlockFrontLaw", "output", "(LBlockFront;I[J)I"⟩, method_7_code, 4, (some .int), [(0, 9, 12, 27)], am_c199)
def am_m200 : aM := (10, ⟨"BlockFrontLaw", "law", "([I)Z"⟩, code, 7, (some .boolean), [], am_c200)
def am_ms : List aM := [am_m0, am_m1, am_m2, am_m3, am_m4, am_m5, am_m6, am_m7, am_m8, am_m9, am_m10, am_m11, am_m12, am_m13, am_m14, am_m15, am_m16, am_m17, am_m18, am_m19, am_m20, am_m21, am_m22, am_m23, am_m24, am_m25, am_m26, am_m27, am_m28, am_m29, am_m30, am_m31, am_m32, am_m33, am_m34, am_m35, am_m36, am_m37, am_m38, am_m39, am_m40, am_m41, am_m42, am_m43, am_m44, am_m45, am_m46, am_m47, am_m48, am_m49, am_m50, am_m51, am_m52, am_m53, am_m54, am_m55, am_m56, am_m57, am_m58, am_m59, am_m60, am_m61, am_m62, am_m63, am_m64, am_m65, am_m66, am_m67, am_m68, am_m69, am_m70, am_m71, am_m72, am_m73, am_m74, am_m75, am_m76, am_m77, am_m78, am_m79, am_m80, am_m81, am_m82, am_m83, am_m84, am_m85, am_m86, am_m87, am_m88, am_m89, am_m90, am_m91, am_m92, am_m93, am_m94, am_m95, am_m96, am_m97, am_m98, am_m99, am_m100, am_m101, am_m102, am_m103, am_m104, am_m105, am_m106, am_m107, am_m108, am_m109, am_m110, am_m111, am_m112, am_m113, am_m114, am_m115, am_m116, am_m117, am_m118, am_m119, am_m120, am_m121, am_m122, am_m123, am_m124, am_m125, am_m126, am_m127, am_m128, am_m129, am_m130, am_m131, am_m132, am_m133, am_m134, am_m135, am_m136, am_m137, am_m138, am_m139, am_m140, am_m141, am_m142, am_m143, am_m144, am_m145, am_m146, am_m147, am_m148, am_m149, am_m150, am_m151, am_m152, am_m153, am_m154, am_m155, am_m156, am_m157, am_m158, am_m159, am_m160, am_m161, am_m162, am_m163, am_m164, am_m165, am_m166, am_m167, am_m168, am_m169, am_m170, am_m171, am_m172, am_m173, am_m174, am_m175, am_m176, am_m177, am_m178, am_m179, am_m180, am_m181, am_m182, am_m183, am_m184, am_m185, am_m186, am_m187, am_m188, am_m189, am_m190, am_m191, am_m192, am_m193, am_m194, am_m195, am_m196, am_m197, am_m198, am_m199, am_m200]
end
section
/-- how many parameters a method takes, the receiver not counted -/
def am_na : List Nat := [2, 2, 0, 1, 1, 2, 0, 0, 2, 3, 2, 1, 4, 4, 0, 0, 2, 0, 1, 1, 3, 1, 1, 0, 0, 0, 4, 1, 1, 1, 1, 0, 2, 2, 2, 1, 1, 1, 1, 1, 1, 1, 1, 0, 1, 3, 0, 0, 0, 0, 2, 2, 3, 0, 0, 0, 2, 0, 1, 1, 0, 1, 0, 3, 0, 1, 0, 1, 2, 2, 2, 1, 2, 1, 1, 1, 1, 2, 2, 1, 1, 2, 2, 3, 1, 1, 1, 2, 1, 3, 1, 0, 1, 1, 1, 1, 2, 2, 2, 2, 2, 1, 2, 4, 3, 2, 1, 0, 2, 0, 0, 0, 0, 2, 0, 2, 0, 1, 0, 2, 1, 1, 1, 1, 1, 1, 0, 0, 1, 2, 0, 2, 1, 1, 1, 1, 4, 1, 1, 1, 1, 1, 1, 1, 2, 1, 1, 0, 2, 2, 0, 1, 1, 1, 1, 1, 1, 2, 0, 0, 1, 0, 2, 0, 0, 0, 1, 1, 1, 1, 1, 1, 0, 0, 0, 1, 1, 1, 3, 2, 1, 1, 1, 1, 1, 1, 0, 0, 0, 0, 2, 0, 2, 0, 1, 4, 2, 4, 4, 3, 1]
/-- Object() by own class: entry, place of the word -/
def am_or : List (List (Nat × Nat)) := [[(3, 289)], [(3, 247)], [(3, 162)], [(3, 241)], [(3, 146)], [(3, 177)], [(3, 202)], [(3, 308)], [(3, 138)], [(1, 1045)], [], [], [], []]
/-- the texts: class, entry, text -/
def am_str : List (String × Nat × String) := [("BlockFront", 66, "n is not 1 .. 8"), ("BlockFront", 79, "one is no character"), ("BlockFront", 87, "the text would be too long"), ("BlockFront$Refusal", 20, "refused"), ("BlockFront$Scanner", 140, "if"), ("BlockFront$Scanner", 146, "elif"), ("BlockFront$Scanner", 148, "else"), ("BlockFront$Scanner", 150, "while"), ("BlockFront$Scanner", 152, "def"), ("BlockFront$Scanner", 154, "return"), ("BlockFront$Scanner", 156, "pass"), ("BlockFront$Scanner", 158, "break"), ("BlockFront$Scanner", 160, "and"), ("BlockFront$Scanner", 162, "or"), ("BlockFront$Scanner", 164, "not"), ("BlockFront$Scanner", 166, "=!<>"), ("BlockFront$Scanner", 174, "+-*/%()[],:=<>.;"), ("BlockFront", 106, "the text is refused"), ("BlockFront$Writer", 68, "  "), ("BlockFront$Writer", 125, "not "), ("BlockFront$Writer", 115, ", "), ("BlockFront$Writer", 111, ":\n"), ("BlockFront$Writer", 103, "else:\n"), ("BlockFront$Writer", 113, "def "), ("BlockFront$Writer", 117, "):\n"), ("BlockFront$Writer", 119, " = "), ("BlockFront", 120, "no such token"), ("BlockFront", 133, "no such node"), ("BlockFront", 147, "no such place")]
def am_sl : List Nat := [15, 19, 26, 7, 2, 4, 4, 5, 3, 6, 4, 5, 3, 2, 3, 4, 16, 19, 2, 4, 2, 2, 6, 4, 3, 3, 13, 12, 13]
def am_sb : List (List Int32) := [[110, 32, 105, 115, 32, 110, 111, 116, 32, 49, 32, 46, 46, 32, 56], [111, 110, 101, 32, 105, 115, 32, 110, 111, 32, 99, 104, 97, 114, 97, 99, 116, 101, 114], [116, 104, 101, 32, 116, 101, 120, 116, 32, 119, 111, 117, 108, 100, 32, 98, 101, 32, 116, 111, 111, 32, 108, 111, 110, 103], [114, 101, 102, 117, 115, 101, 100], [105, 102], [101, 108, 105, 102], [101, 108, 115, 101], [119, 104, 105, 108, 101], [100, 101, 102], [114, 101, 116, 117, 114, 110], [112, 97, 115, 115], [98, 114, 101, 97, 107], [97, 110, 100], [111, 114], [110, 111, 116], [61, 33, 60, 62], [43, 45, 42, 47, 37, 40, 41, 91, 93, 44, 58, 61, 60, 62, 46, 59], [116, 104, 101, 32, 116, 101, 120, 116, 32, 105, 115, 32, 114, 101, 102, 117, 115, 101, 100], [32, 32], [110, 111, 116, 32], [44, 32], [58, 10], [101, 108, 115, 101, 58, 10], [100, 101, 102, 32], [41, 58, 10], [32, 61, 32], [110, 111, 32, 115, 117, 99, 104, 32, 116, 111, 107, 101, 110], [110, 111, 32, 115, 117, 99, 104, 32, 110, 111, 100, 101], [110, 111, 32, 115, 117, 99, 104, 32, 112, 108, 97, 99, 101]]
def am_m (M : Nat) : aM := am_ms.getD M am_m0
abbrev am_own (M : Nat) : Nat := (am_m M).1
abbrev am_y (M : Nat) : MethodName := (am_m M).2.1
abbrev am_by (M : Nat) : ByteArray := (am_m M).2.2.1
abbrev am_ml (M : Nat) : Nat := (am_m M).2.2.2.1
abbrev am_re (M : Nat) : Option FieldType := (am_m M).2.2.2.2.1
abbrev am_hs (M : Nat) : List (Nat × Nat × Nat × Nat) := (am_m M).2.2.2.2.2.1
abbrev am_co (M : Nat) : List (Nat × Instr × Nat × List Nat × Int32 × List Int32) := (am_m M).2.2.2.2.2.2
def am_ty (ci k : Nat) : FieldType := (am_tys.getD ci []).getD k .int
def am_isr (ci k : Nat) : Bool := match am_ty ci k with
  | .int => false
  | .boolean => false
  | _ => true
def am_gw (w : Jvm.Cond) : Bool := match w with
  | .fieldLinkNest .. => true
  | .methodLinkNest .. => true
  | w => goodWord w
/-- the method's own code, by a word -/
def am_w0 (M : Nat) : Jvm.Cond := match am_hs M with
  | [] => .code (am_y M) (am_by M) (am_ml M) (am_re M)
  | hs => .codeWith (am_y M) (am_by M) (am_ml M) (am_re M) hs
end
section
/-! THE PRINTED CODE IS THE CODE: each row is what the bytes decode to -/
def am_isw (i : Instr) : Bool := match i with
  | .tableswitch .. => true
  | .lookupswitch .. => true
  | _ => false
def am_ilen (i : Instr) : Nat := match i with
  | .bipush _ => 2
  | .sipush _ => 3
  | .ldc _ => 2
  | .ldc2_w _ => 3
  | .iload _ => 2
  | .lload _ => 2
  | .aload _ => 2
  | .istore _ => 2
  | .lstore _ => 2
  | .astore _ => 2
  | .iinc .. => 3
  | .goto _ => 3
  | .ifCond .. => 3
  | .if_icmp .. => 3
  | .getfield _ => 3
  | .putfield _ => 3
  | .getstatic _ => 3
  | .invokevirtual _ => 3
  | .invokespecial _ => 3
  | .invokestatic _ => 3
  | .new _ => 3
  | .newarray _ => 2
  | .ldc_w _ => 3
  | _ => 1
def am_tgt (pc : Nat) (o : Int) (tg : List Nat) : Bool := match tg with
  | t :: _ => decide ((pc : Int) + o = (t : Int))
  | [] => false
def am_tg (i : Instr) (pc : Nat) (tg : List Nat) (imm : Int32) (ks : List Int32) : Bool := match i with
  | .goto o => am_tgt pc o tg
  | .ifCond _ o => am_tgt pc o tg
  | .if_icmp _ o => am_tgt pc o tg
  | .iconst n => decide (Int32.ofInt n = imm)
  | .bipush n => decide ((Int8.ofInt n).toInt32 = imm)
  | .sipush n => decide ((Int16.ofInt n).toInt32 = imm)
  | .iinc _ n => decide (Int32.ofInt n = imm)
  | .tableswitch d lo hi offs => am_tgt pc d tg && decide ((tg.drop 1).map Int.ofNat = offs.toList.map (fun o => (pc : Int) + o)) && decide (ks.map Int32.toInt = (List.range offs.size).map (fun j : Nat => lo + (j : Int))) && decide (hi = lo + (offs.size : Int) - 1)
  | .lookupswitch d ps => am_tgt pc d tg && decide ((tg.drop 1).map Int.ofNat = ps.toList.map (fun o => (pc : Int) + o.2)) && decide (ks.map Int32.toInt = ps.toList.map Prod.fst) && (ps.toList.zip (ps.toList.drop 1)).all (fun (a, next) => a.1 < next.1)
  | _ => true
def am_row (cc : ByteArray) (e : Nat × Instr × Nat × List Nat × Int32 × List Int32) : Bool := match e with
  | (pc, i, nx, tg, imm, ks) => decide (decode cc pc = .ok (i, nx - pc)) && (am_isw i || decide (nx = pc + am_ilen i)) && am_tg i pc tg imm ks
def am_chk (q : aM) : Bool := q.2.2.2.2.2.2.all (am_row q.2.2.1)
theorem am_k0 : (List.take 10 (List.drop 0 am_ms)).all am_chk = true := by decide +kernel
theorem am_k10 : (List.take 10 (List.drop 10 am_ms)).all am_chk = true := by decide +kernel
theorem am_k20 : (List.take 10 (List.drop 20 am_ms)).all am_chk = true := by decide +kernel
theorem am_k30 : (List.take 10 (List.drop 30 am_ms)).all am_chk = true := by decide +kernel
theorem am_k40 : (List.take 10 (List.drop 40 am_ms)).all am_chk = true := by decide +kernel
theorem am_k50 : (List.take 10 (List.drop 50 am_ms)).all am_chk = true := by decide +kernel
theorem am_k60 : (List.take 10 (List.drop 60 am_ms)).all am_chk = true := by decide +kernel
theorem am_k70 : (List.take 10 (List.drop 70 am_ms)).all am_chk = true := by decide +kernel
theorem am_k80 : (List.take 10 (List.drop 80 am_ms)).all am_chk = true := by decide +kernel
theorem am_k90 : (List.take 10 (List.drop 90 am_ms)).all am_chk = true := by decide +kernel
theorem am_k100 : (List.take 10 (List.drop 100 am_ms)).all am_chk = true := by decide +kernel
theorem am_k110 : (List.take 10 (List.drop 110 am_ms)).all am_chk = true := by decide +kernel
theorem am_k120 : (List.take 10 (List.drop 120 am_ms)).all am_chk = true := by decide +kernel
theorem am_k130 : (List.take 10 (List.drop 130 am_ms)).all am_chk = true := by decide +kernel
theorem am_k140 : (List.take 10 (List.drop 140 am_ms)).all am_chk = true := by decide +kernel
theorem am_k150 : (List.take 10 (List.drop 150 am_ms)).all am_chk = true := by decide +kernel
theorem am_k160 : (List.take 10 (List.drop 160 am_ms)).all am_chk = true := by decide +kernel
theorem am_k170 : (List.take 10 (List.drop 170 am_ms)).all am_chk = true := by decide +kernel
theorem am_k180 : (List.take 10 (List.drop 180 am_ms)).all am_chk = true := by decide +kernel
theorem am_k190 : (List.take 10 (List.drop 190 am_ms)).all am_chk = true := by decide +kernel
theorem am_k200 : (List.take 10 (List.drop 200 am_ms)).all am_chk = true := by decide +kernel
theorem am_ko : ∀ q ∈ am_ms, am_chk q = true := by
  have key : ∀ (l : List aM) (n : Nat), (List.take 10 l).all am_chk = true → (∀ q ∈ List.drop 10 l, am_chk q = true) → ∀ q ∈ l, am_chk q = true := by
    intro l n h1 h2 q hq
    rw [← List.take_append_drop 10 l] at hq
    rcases List.mem_append.mp hq with h | h
    · exact List.all_eq_true.mp h1 q h
    · exact h2 q h
  have dd : ∀ n : Nat, List.drop 10 (List.drop n am_ms) = List.drop (n + 10) am_ms := fun n => by rw [List.drop_drop]
  have h0 : ∀ q ∈ List.drop 0 am_ms, am_chk q = true := by
    refine key _ 0 am_k0 ?_; rw [dd]
    refine key _ 0 am_k10 ?_; rw [dd]
    refine key _ 0 am_k20 ?_; rw [dd]
    refine key _ 0 am_k30 ?_; rw [dd]
    refine key _ 0 am_k40 ?_; rw [dd]
    refine key _ 0 am_k50 ?_; rw [dd]
    refine key _ 0 am_k60 ?_; rw [dd]
    refine key _ 0 am_k70 ?_; rw [dd]
    refine key _ 0 am_k80 ?_; rw [dd]
    refine key _ 0 am_k90 ?_; rw [dd]
    refine key _ 0 am_k100 ?_; rw [dd]
    refine key _ 0 am_k110 ?_; rw [dd]
    refine key _ 0 am_k120 ?_; rw [dd]
    refine key _ 0 am_k130 ?_; rw [dd]
    refine key _ 0 am_k140 ?_; rw [dd]
    refine key _ 0 am_k150 ?_; rw [dd]
    refine key _ 0 am_k160 ?_; rw [dd]
    refine key _ 0 am_k170 ?_; rw [dd]
    refine key _ 0 am_k180 ?_; rw [dd]
    refine key _ 0 am_k190 ?_; rw [dd]
    refine key _ 0 am_k200 ?_; rw [dd]
    intro q hq
    exact absurd hq (by
      have : List.drop 210 am_ms = [] := by rw [List.drop_eq_nil_iff]; decide +kernel
      rw [show 200 + 10 = 210 from rfl, this]
      exact List.not_mem_nil)
  exact fun q hq => h0 q (by rw [List.drop_zero]; exact hq)
theorem am_kM (M : Nat) : am_chk (am_m M) = true := by
  unfold am_m
  rw [List.getD_eq_getElem?_getD]
  cases h : am_ms[M]? with
  | none => exact am_ko _ (List.mem_of_getElem? (i := 0) rfl)
  | some q => exact am_ko _ (List.mem_of_getElem? h)
theorem am_dec {M pc : Nat} {i : Instr} {nx : Nat} {tg : List Nat} {imm : Int32} {ks : List Int32} (h : (am_co M).lookup pc = some (i, nx, tg, imm, ks)) :
    decode (am_by M) pc = .ok (i, nx - pc) ∧ (am_isw i = true ∨ nx = pc + am_ilen i) ∧ am_tg i pc tg imm ks = true := by
  have hm : (pc, i, nx, tg, imm, ks) ∈ am_co M := by
    generalize am_co M = l at h
    induction l with
    | nil => simp at h
    | cons q l ih =>
      obtain ⟨a, b⟩ := q
      rw [List.lookup_cons] at h
      by_cases e : pc = a
      · subst e
        simp at h
        rw [h]
        exact List.mem_cons_self
      · have e' : (pc == a) = false := by simp [e]
        rw [e'] at h
        exact List.mem_cons_of_mem _ (ih h)
  have h1 := List.all_eq_true.mp (am_kM M) _ hm
  simp only [am_row, Bool.and_eq_true, Bool.or_eq_true, decide_eq_true_eq] at h1
  exact ⟨h1.1.1, h1.1.2, h1.2⟩
end
section
/-! THE TABLES ARE THE WORDS: each entry has its word -/
/-- of a method: the places of its words (code; instance or static; selects; its class is initialised), and its kind (0 instance, 1 static, 2 constructor) -/
def am_wi : List (Nat × Nat × Nat × Nat × Nat) := [(250, 249, 0, 117, 1), (519, 518, 0, 117, 1), (581, 579, 580, 126, 0), (591, 589, 590, 126, 0), (653, 651, 652, 126, 0), (657, 655, 656, 126, 0), (585, 583, 584, 126, 0), (595, 593, 594, 126, 0), (601, 600, 0, 126, 1), (684, 683, 0, 126, 1), (598, 597, 0, 127, 1), (664, 663, 0, 127, 1), (661, 660, 0, 127, 1), (669, 668, 0, 127, 1), (161, 160, 0, 112, 2), (485, 483, 484, 112, 0), (535, 533, 534, 112, 0), (145, 144, 0, 111, 2), (473, 471, 472, 111, 0), (509, 507, 508, 111, 0), (577, 575, 576, 111, 0), (246, 245, 0, 116, 2), (501, 499, 500, 116, 0), (550, 548, 549, 116, 0), (527, 525, 526, 116, 0), (176, 175, 0, 113, 2), (546, 544, 545, 113, 0), (1010, 1008, 1009, 113, 0), (742, 740, 741, 113, 0), (729, 727, 728, 113, 0), (944, 942, 943, 113, 0), (201, 200, 0, 114, 2), (734, 732, 733, 114, 0), (774, 772, 773, 114, 0), (858, 856, 857, 114, 0), (778, 777, 26, 114, 0), (925, 923, 924, 114, 0), (791, 789, 790, 114, 0), (787, 785, 786, 114, 0), (854, 852, 853, 114, 0), (902, 900, 901, 114, 0), (874, 872, 873, 114, 0), (1024, 1022, 1023, 114, 0), (866, 864, 865, 114, 0), (870, 869, 42, 114, 0), (240, 239, 0, 115, 2), (493, 491, 492, 115, 0), (497, 496, 2, 115, 0), (505, 504, 3, 115, 0), (516, 515, 4, 115, 0), (523, 522, 5, 115, 0), (531, 530, 6, 115, 0), (542, 541, 7, 115, 0), (554, 553, 8, 115, 0), (558, 557, 9, 115, 0), (565, 564, 10, 115, 0), (572, 571, 11, 115, 0), (640, 639, 12, 115, 0), (644, 643, 13, 115, 0), (648, 647, 14, 115, 0), (709, 708, 15, 115, 0), (713, 712, 16, 115, 0), (717, 716, 17, 115, 0), (288, 287, 0, 118, 2), (721, 719, 720, 118, 0), (738, 737, 18, 118, 0), (758, 757, 22, 118, 0), (807, 806, 31, 118, 0), (725, 723, 724, 118, 0), (746, 745, 19, 118, 0), (850, 849, 40, 118, 0), (750, 749, 20, 118, 0), (754, 753, 21, 118, 0), (862, 861, 41, 118, 0), (837, 836, 37, 118, 0), (842, 841, 38, 118, 0), (846, 845, 39, 118, 0), (762, 761, 23, 118, 0), (766, 765, 24, 118, 0), (795, 794, 28, 118, 0), (819, 818, 34, 118, 0), (823, 822, 35, 118, 0), (827, 826, 36, 118, 0), (815, 814, 33, 118, 0), (799, 798, 29, 118, 0), (803, 802, 30, 118, 0), (811, 810, 32, 118, 0), (770, 769, 25, 118, 0), (783, 782, 27, 118, 0), (307, 306, 0, 119, 2), (1039, 1037, 1038, 119, 0), (894, 892, 893, 119, 0), (921, 920, 47, 119, 0), (915, 914, 46, 119, 0), (938, 937, 50, 119, 0), (910, 909, 45, 119, 0), (898, 897, 43, 119, 0), (906, 905, 44, 119, 0), (929, 928, 48, 119, 0), (933, 932, 49, 119, 0), (975, 974, 56, 119, 0), (981, 980, 57, 119, 0), (949, 948, 51, 119, 0), (968, 967, 55, 119, 0), (953, 952, 52, 119, 0), (957, 956, 53, 119, 0), (961, 960, 54, 119, 0), (137, 136, 0, 110, 2), (376, 374, 375, 110, 0), (351, 349, 350, 110, 0), (481, 479, 480, 110, 0), (355, 353, 354, 110, 0), (359, 357, 358, 110, 0), (990, 988, 989, 110, 0), (363, 361, 362, 110, 0), (1019, 1017, 1018, 110, 0), (367, 365, 366, 110, 0), (1034, 1032, 1033, 110, 0), (489, 488, 1, 110, 0), (448, 447, 0, 110, 1), (452, 451, 0, 110, 1), (512, 511, 0, 110, 1), (568, 567, 0, 110, 1), (561, 560, 0, 110, 1), (830, 829, 0, 110, 1), (833, 832, 0, 110, 1), (1044, 1043, 0, 120, 2), (1181, 1179, 1180, 120, 0), (1189, 1188, 0, 120, 1), (1185, 1183, 1184, 120, 0), (1193, 1191, 1192, 120, 0), (1224, 1223, 63, 120, 0), (1209, 1208, 60, 120, 0), (1212, 1211, 0, 120, 1), (1242, 1241, 0, 120, 1), (1235, 1234, 0, 120, 1), (1228, 1227, 64, 120, 0), (1216, 1215, 61, 120, 0), (1220, 1219, 62, 120, 0), (1205, 1204, 59, 120, 0), (1239, 1238, 66, 120, 0), (1258, 1257, 67, 120, 0), (1262, 1261, 68, 120, 0), (1269, 1268, 0, 120, 1), (1273, 1272, 70, 120, 0), (1266, 1265, 69, 120, 0), (1232, 1231, 65, 120, 0), (1201, 1200, 58, 120, 0), (1281, 1280, 72, 120, 0), (1285, 1284, 73, 120, 0), (1293, 1292, 75, 120, 0), (1309, 1308, 79, 120, 0), (1305, 1304, 78, 120, 0), (1289, 1288, 74, 120, 0), (1337, 1336, 86, 120, 0), (1360, 1359, 0, 120, 1), (1357, 1356, 91, 120, 0), (1329, 1328, 84, 120, 0), (1353, 1352, 90, 120, 0), (1325, 1324, 83, 120, 0), (1333, 1332, 85, 120, 0), (1321, 1320, 82, 120, 0), (1345, 1344, 88, 120, 0), (1349, 1348, 89, 120, 0), (1341, 1340, 87, 120, 0), (1317, 1316, 81, 120, 0), (1313, 1312, 80, 120, 0), (1301, 1300, 77, 120, 0), (1297, 1296, 76, 120, 0), (1369, 1368, 93, 120, 0), (1365, 1364, 92, 120, 0), (1373, 1372, 94, 120, 0), (1377, 1376, 95, 120, 0), (1277, 1276, 71, 120, 0), (1381, 1380, 96, 120, 0), (1393, 1392, 99, 120, 0), (1409, 1408, 103, 120, 0), (1425, 1424, 107, 120, 0), (1421, 1420, 106, 120, 0), (1417, 1416, 105, 120, 0), (1413, 1412, 104, 120, 0), (1405, 1404, 102, 120, 0), (1389, 1388, 98, 120, 0), (1401, 1400, 101, 120, 0), (1429, 1428, 108, 120, 0), (1397, 1396, 100, 120, 0), (1385, 1384, 97, 120, 0), (1197, 1195, 1196, 120, 0), (1433, 1431, 1432, 120, 0), (1437, 1435, 1436, 120, 0), (1441, 1439, 1440, 120, 0), (1445, 1443, 1444, 120, 0), (1449, 1447, 1448, 120, 0), (1453, 1451, 1452, 120, 0), (1457, 1455, 1456, 120, 0), (370, 369, 0, 109, 1), (476, 475, 0, 109, 1), (985, 984, 0, 109, 1), (1015, 1014, 0, 109, 1), (1030, 1029, 0, 109, 1), (0, 0, 0, 109, 0)]
/-- of a class: the places of its words (instantiable, initialised), and of its fields -/
def am_ci : List (Nat × Nat × List Nat) := [(285, 118, [294, 296, 298, 300]), (243, 116, [254, 256]), (158, 112, [167, 169]), (237, 115, [267, 269, 271, 273, 275, 277, 279, 281]), (142, 111, [151, 153]), (173, 113, [185, 187, 189, 191, 193]), (198, 114, [215, 217, 219, 221, 223, 225, 227, 229, 231, 233]), (304, 119, [315, 317, 319, 321, 323]), (134, 110, [333, 335, 337, 339, 341, 343, 345]), (1041, 120, [1089, 1091, 1093, 1095, 1097, 1099, 1101, 1103, 1105, 1107, 1109, 1111, 1113, 1115, 1117, 1119, 1121, 1123, 1125, 1127, 1129, 1131, 1133, 1135, 1137, 1139, 1141, 1143, 1145, 1147, 1149, 1151, 1153, 1155, 1157, 1159, 1161, 1163, 1165, 1167, 1169, 1171, 1173])]
def am_rowF (own : Nat) (q : Nat × Nat × Nat × Nat × Bool) : Bool := match q with
  | (cp, ci, k, wi, nest) => match am_cl[ci]? with
    | some (C, T, N) => decide (k < N) && decide (lw_tbl[wi]? = some (if nest = true then Jvm.Cond.fieldLinkNest (am_nm.getD own "") cp C (T k).2.1 (T k).2.2.1 "BlockFront" else Jvm.Cond.fieldLink (am_nm.getD own "") cp C (T k).2.1 (T k).2.2.1)) && decide ((T k).1 = C) && decide (parseFieldDescriptor (T k).2.2.1 = some (am_ty ci k)) && decide ((T k).2.2.2 = am_isr ci k)
    | none => false
theorem am_fall : (List.range 14).all (fun own => (am_fr.getD own []).all (am_rowF own)) = true := by decide +kernel
def am_rowC (ci : Nat) (q : Nat × Nat × List Nat) : Bool := match am_cl[ci]?, q with
  | some (C, T, N), (w1, w2, ws) => decide (lw_tbl[w1]? = some (Jvm.Cond.instantiable C N)) && decide (lw_tbl[w2]? = some (Jvm.Cond.initialized C)) && decide (ws.map (fun i => lw_tbl[i]?) = (u_ws C T N).map some) && (u_ws C T N).all am_gw &&
      (List.range N).all (fun a => (List.range N).all (fun b => decide (a = b) || decide ((T a).2.1 ≠ (T b).2.1))) && (List.range N).all (fun k => decide (parseFieldDescriptor (T k).2.2.1 = some (am_ty ci k)) && decide ((T k).2.2.2 = am_isr ci k) && decide ((T k).1 = C)) && decide ((am_tys.getD ci []).length = N)
  | none, _ => false
theorem am_call : (List.range 10).all (fun ci => am_rowC ci (am_ci.getD ci (0, 0, []))) = true := by decide +kernel
def am_rowM (own : Nat) (q : Nat × Nat × Nat × Bool) : Bool := match q with
  | (cp, M, wi, nest) => decide (M < 200) && decide (lw_tbl[wi]? = some (if nest = true then Jvm.Cond.methodLinkNest (am_nm.getD own "") cp (am_y M) "BlockFront" else Jvm.Cond.methodLink (am_nm.getD own "") cp (am_y M)))
theorem am_mall : (List.range 14).all (fun own => (am_mr.getD own []).all (am_rowM own)) = true := by decide +kernel
def am_rowW (M : Nat) : Bool := match am_wi.getD M (0, 0, 0, 0, 0) with
  | (w1, w2, w3, w4, k) => am_gw (am_w0 M) && decide (lw_tbl[w4]? = some (Jvm.Cond.initialized (am_y M).cls)) && decide ((am_y M).cls = am_nm.getD (am_own M) "") && plainFor (am_y M) && decide ((am_y M).cls ≠ "java/lang/invoke/MethodHandle") && decide ((am_y M).cls ≠ "java/lang/invoke/VarHandle") &&
      decide ((parseMethodDescriptor (am_y M).desc).map (fun d => d.parameters.length) = am_na[M]?) && decide (am_ml M ≤ 21) && (match k with
        | 0 => decide (lw_tbl[w2]? = some (Jvm.Cond.instanceMethod (am_y M))) && decide (lw_tbl[w3]? = some (Jvm.Cond.selects (am_y M).cls (am_y M) (am_y M)))
        | 1 => decide (lw_tbl[w2]? = some (Jvm.Cond.static (am_y M)))
        | _ => decide (lw_tbl[w2]? = some (Jvm.Cond.instanceMethod (am_y M))) && decide ((am_y M).name = "<init>") && decide (am_re M = none) && decide (am_hs M = []))
theorem am_wall : (List.range 200).all am_rowW = true := by decide +kernel
def am_rowO (own : Nat) (q : Nat × Nat) : Bool := decide (lw_tbl[q.2]? = some (Jvm.Cond.methodLink (am_nm.getD own "") q.1 objectInit))
theorem am_oall : (List.range 14).all (fun own => (am_or.getD own []).all (am_rowO own)) = true := by decide +kernel
def am_rowS (own : Nat) (q : Nat × Nat) : Bool := match am_str[q.2]? with
  | some (C, k, _) => decide (C = am_nm.getD own "") && decide (k = q.1)
  | none => false
theorem am_sall : (List.range 14).all (fun own => (am_sr.getD own []).all (am_rowS own)) = true := by decide +kernel
def am_rowK (own : Nat) (q : Nat × Nat × Nat) : Bool := match q with
  | (cp, n, wi) => decide (lw_tbl[wi]? = some (Jvm.Cond.classLink (am_nm.getD own "") cp (if n < 100 then am_nm.getD n "" else am_ex.getD (n - 100) ""))) && (decide (n < 10) || decide (100 ≤ n))
theorem am_kall : (List.range 14).all (fun own => (am_kr.getD own []).all (am_rowK own)) = true := by decide +kernel
def am_rowL (own : Nat) (q : Nat × Int64 × Nat) : Bool := match q with
  | (cp, v, wi) => decide (lw_tbl[wi]? = some (Jvm.Cond.constantLong (am_nm.getD own "") cp v))
theorem am_lall : (List.range 14).all (fun own => (am_lr.getD own []).all (am_rowL own)) = true := by decide +kernel
theorem am_lk {β : Type} {l : List (Nat × β)} {i : Nat} {v : β} (h : l.lookup i = some v) : (i, v) ∈ l := by
  induction l with
  | nil => simp at h
  | cons q l ih =>
    obtain ⟨a, b⟩ := q
    rw [List.lookup_cons] at h
    by_cases e : i = a
    · subst e
      simp at h
      rw [h]
      exact List.mem_cons_self
    · have e' : (i == a) = false := by simp [e]
      rw [e'] at h
      exact List.mem_cons_of_mem _ (ih h)
/-- a row of a table that a program has looked through -/
theorem am_of {β : Type} {tb : List (List (Nat × β))} {f : Nat → Nat × β → Bool} (hall : (List.range 14).all (fun own => (tb.getD own []).all (f own)) = true) (hl : tb.length = 14) {own i : Nat} {v : β} (h : (tb.getD own []).lookup i = some v) : f own (i, v) = true := by
  have ho : own < 14 := by
    rcases Nat.lt_or_ge own 14 with q | q
    · exact q
    · exfalso
      have : tb.getD own [] = [] := by
        rw [List.getD_eq_getElem?_getD, List.getElem?_eq_none (by omega)]
        rfl
      rw [this] at h
      simp at h
  exact List.all_eq_true.mp (List.all_eq_true.mp hall own (List.mem_range.mpr ho)) _ (am_lk h)
end
section
/-! THE METHODS' CODE stands among the words -/
theorem am_ic {P : Nat → Prop} {a b : Nat} (h : P a) (r : ∀ M, a + 1 ≤ M → M < b → P M) : ∀ M, a ≤ M → M < b → P M := fun M h1 h2 => by
  rcases Nat.eq_or_lt_of_le h1 with e | e
  · exact e ▸ h
  · exact r M e h2
theorem am_in {P : Nat → Prop} {a : Nat} : ∀ M, a ≤ M → M < a → P M := fun M h1 h2 => absurd h2 (Nat.not_lt.mpr h1)
set_option maxRecDepth 20000 in
theorem am_w_0 : am_w0 0 ∈ lw_tbl := List.mem_append_right _ (List.mem_append_left _ (List.mem_of_getElem? (i := 141) (show tables_1_1[141]? = some (am_w0 0) from rfl)))
set_option maxRecDepth 20000 in
theorem am_w_1 : am_w0 1 ∈ lw_tbl := List.mem_append_right _ (List.mem_append_right _ (List.mem_append_left _ (List.mem_of_getElem? (i := 170) (show tables_1_2[170]? = some (am_w0 1) from rfl))))
set_option maxRecDepth 20000 in
theorem am_w_2 : am_w0 2 ∈ lw_tbl := List.mem_append_right _ (List.mem_append_right _ (List.mem_append_left _ (List.mem_of_getElem? (i := 232) (show tables_1_2[232]? = some (am_w0 2) from rfl))))
set_option maxRecDepth 20000 in
theorem am_w_3 : am_w0 3 ∈ lw_tbl := List.mem_append_right _ (List.mem_append_right _ (List.mem_append_right _ (List.mem_append_left _ (List.mem_of_getElem? (i := 2) (show tables_1_3[2]? = some (am_w0 3) from rfl)))))
set_option maxRecDepth 20000 in
theorem am_w_4 : am_w0 4 ∈ lw_tbl := List.mem_append_right _ (List.mem_append_right _ (List.mem_append_right _ (List.mem_append_left _ (List.mem_of_getElem? (i := 64) (show tables_1_3[64]? = some (am_w0 4) from rfl)))))
set_option maxRecDepth 20000 in
theorem am_w_5 : am_w0 5 ∈ lw_tbl := List.mem_append_right _ (List.mem_append_right _ (List.mem_append_right _ (List.mem_append_left _ (List.mem_of_getElem? (i := 68) (show tables_1_3[68]? = some (am_w0 5) from rfl)))))
set_option maxRecDepth 20000 in
theorem am_w_6 : am_w0 6 ∈ lw_tbl := List.mem_append_right _ (List.mem_append_right _ (List.mem_append_left _ (List.mem_of_getElem? (i := 236) (show tables_1_2[236]? = some (am_w0 6) from rfl))))
set_option maxRecDepth 20000 in
theorem am_w_7 : am_w0 7 ∈ lw_tbl := List.mem_append_right _ (List.mem_append_right _ (List.mem_append_right _ (List.mem_append_left _ (List.mem_of_getElem? (i := 6) (show tables_1_3[6]? = some (am_w0 7) from rfl)))))
set_option maxRecDepth 20000 in
theorem am_w_8 : am_w0 8 ∈ lw_tbl := List.mem_append_right _ (List.mem_append_right _ (List.mem_append_right _ (List.mem_append_left _ (List.mem_of_getElem? (i := 12) (show tables_1_3[12]? = some (am_w0 8) from rfl)))))
set_option maxRecDepth 20000 in
theorem am_w_9 : am_w0 9 ∈ lw_tbl := List.mem_append_right _ (List.mem_append_right _ (List.mem_append_right _ (List.mem_append_left _ (List.mem_of_getElem? (i := 95) (show tables_1_3[95]? = some (am_w0 9) from rfl)))))
set_option maxRecDepth 20000 in
theorem am_w_10 : am_w0 10 ∈ lw_tbl := List.mem_append_right _ (List.mem_append_right _ (List.mem_append_right _ (List.mem_append_left _ (List.mem_of_getElem? (i := 9) (show tables_1_3[9]? = some (am_w0 10) from rfl)))))
set_option maxRecDepth 20000 in
theorem am_w_11 : am_w0 11 ∈ lw_tbl := List.mem_append_right _ (List.mem_append_right _ (List.mem_append_right _ (List.mem_append_left _ (List.mem_of_getElem? (i := 75) (show tables_1_3[75]? = some (am_w0 11) from rfl)))))
set_option maxRecDepth 20000 in
theorem am_w_12 : am_w0 12 ∈ lw_tbl := List.mem_append_right _ (List.mem_append_right _ (List.mem_append_right _ (List.mem_append_left _ (List.mem_of_getElem? (i := 72) (show tables_1_3[72]? = some (am_w0 12) from rfl)))))
set_option maxRecDepth 20000 in
theorem am_w_13 : am_w0 13 ∈ lw_tbl := List.mem_append_right _ (List.mem_append_right _ (List.mem_append_right _ (List.mem_append_left _ (List.mem_of_getElem? (i := 80) (show tables_1_3[80]? = some (am_w0 13) from rfl)))))
set_option maxRecDepth 20000 in
theorem am_w_14 : am_w0 14 ∈ lw_tbl := List.mem_append_right _ (List.mem_append_left _ (List.mem_of_getElem? (i := 52) (show tables_1_1[52]? = some (am_w0 14) from rfl)))
set_option maxRecDepth 20000 in
theorem am_w_15 : am_w0 15 ∈ lw_tbl := List.mem_append_right _ (List.mem_append_right _ (List.mem_append_left _ (List.mem_of_getElem? (i := 136) (show tables_1_2[136]? = some (am_w0 15) from rfl))))
set_option maxRecDepth 20000 in
theorem am_w_16 : am_w0 16 ∈ lw_tbl := List.mem_append_right _ (List.mem_append_right _ (List.mem_append_left _ (List.mem_of_getElem? (i := 186) (show tables_1_2[186]? = some (am_w0 16) from rfl))))
set_option maxRecDepth 20000 in
theorem am_w_17 : am_w0 17 ∈ lw_tbl := List.mem_append_right _ (List.mem_append_left _ (List.mem_of_getElem? (i := 36) (show tables_1_1[36]? = some (am_w0 17) from rfl)))
set_option maxRecDepth 20000 in
theorem am_w_18 : am_w0 18 ∈ lw_tbl := List.mem_append_right _ (List.mem_append_right _ (List.mem_append_left _ (List.mem_of_getElem? (i := 124) (show tables_1_2[124]? = some (am_w0 18) from rfl))))
set_option maxRecDepth 20000 in
theorem am_w_19 : am_w0 19 ∈ lw_tbl := List.mem_append_right _ (List.mem_append_right _ (List.mem_append_left _ (List.mem_of_getElem? (i := 160) (show tables_1_2[160]? = some (am_w0 19) from rfl))))
set_option maxRecDepth 20000 in
theorem am_w_20 : am_w0 20 ∈ lw_tbl := List.mem_append_right _ (List.mem_append_right _ (List.mem_append_left _ (List.mem_of_getElem? (i := 228) (show tables_1_2[228]? = some (am_w0 20) from rfl))))
set_option maxRecDepth 20000 in
theorem am_w_21 : am_w0 21 ∈ lw_tbl := List.mem_append_right _ (List.mem_append_left _ (List.mem_of_getElem? (i := 137) (show tables_1_1[137]? = some (am_w0 21) from rfl)))
set_option maxRecDepth 20000 in
theorem am_w_22 : am_w0 22 ∈ lw_tbl := List.mem_append_right _ (List.mem_append_right _ (List.mem_append_left _ (List.mem_of_getElem? (i := 152) (show tables_1_2[152]? = some (am_w0 22) from rfl))))
set_option maxRecDepth 20000 in
theorem am_w_23 : am_w0 23 ∈ lw_tbl := List.mem_append_right _ (List.mem_append_right _ (List.mem_append_left _ (List.mem_of_getElem? (i := 201) (show tables_1_2[201]? = some (am_w0 23) from rfl))))
set_option maxRecDepth 20000 in
theorem am_w_24 : am_w0 24 ∈ lw_tbl := List.mem_append_right _ (List.mem_append_right _ (List.mem_append_left _ (List.mem_of_getElem? (i := 178) (show tables_1_2[178]? = some (am_w0 24) from rfl))))
set_option maxRecDepth 20000 in
theorem am_w_25 : am_w0 25 ∈ lw_tbl := List.mem_append_right _ (List.mem_append_left _ (List.mem_of_getElem? (i := 67) (show tables_1_1[67]? = some (am_w0 25) from rfl)))
set_option maxRecDepth 20000 in
theorem am_w_26 : am_w0 26 ∈ lw_tbl := List.mem_append_right _ (List.mem_append_right _ (List.mem_append_left _ (List.mem_of_getElem? (i := 197) (show tables_1_2[197]? = some (am_w0 26) from rfl))))
set_option maxRecDepth 20000 in
theorem am_w_27 : am_w0 27 ∈ lw_tbl := List.mem_append_right _ (List.mem_append_right _ (List.mem_append_right _ (List.mem_append_right _ (List.mem_append_left _ (List.mem_of_getElem? (i := 181) (show tables_1_4[181]? = some (am_w0 27) from rfl))))))
set_option maxRecDepth 20000 in
theorem am_w_28 : am_w0 28 ∈ lw_tbl := List.mem_append_right _ (List.mem_append_right _ (List.mem_append_right _ (List.mem_append_left _ (List.mem_of_getElem? (i := 153) (show tables_1_3[153]? = some (am_w0 28) from rfl)))))
set_option maxRecDepth 20000 in
theorem am_w_29 : am_w0 29 ∈ lw_tbl := List.mem_append_right _ (List.mem_append_right _ (List.mem_append_right _ (List.mem_append_left _ (List.mem_of_getElem? (i := 140) (show tables_1_3[140]? = some (am_w0 29) from rfl)))))
set_option maxRecDepth 20000 in
theorem am_w_30 : am_w0 30 ∈ lw_tbl := List.mem_append_right _ (List.mem_append_right _ (List.mem_append_right _ (List.mem_append_right _ (List.mem_append_left _ (List.mem_of_getElem? (i := 115) (show tables_1_4[115]? = some (am_w0 30) from rfl))))))
set_option maxRecDepth 20000 in
theorem am_w_31 : am_w0 31 ∈ lw_tbl := List.mem_append_right _ (List.mem_append_left _ (List.mem_of_getElem? (i := 92) (show tables_1_1[92]? = some (am_w0 31) from rfl)))
set_option maxRecDepth 20000 in
theorem am_w_32 : am_w0 32 ∈ lw_tbl := List.mem_append_right _ (List.mem_append_right _ (List.mem_append_right _ (List.mem_append_left _ (List.mem_of_getElem? (i := 145) (show tables_1_3[145]? = some (am_w0 32) from rfl)))))
set_option maxRecDepth 20000 in
theorem am_w_33 : am_w0 33 ∈ lw_tbl := List.mem_append_right _ (List.mem_append_right _ (List.mem_append_right _ (List.mem_append_left _ (List.mem_of_getElem? (i := 185) (show tables_1_3[185]? = some (am_w0 33) from rfl)))))
set_option maxRecDepth 20000 in
theorem am_w_34 : am_w0 34 ∈ lw_tbl := List.mem_append_right _ (List.mem_append_right _ (List.mem_append_right _ (List.mem_append_right _ (List.mem_append_left _ (List.mem_of_getElem? (i := 29) (show tables_1_4[29]? = some (am_w0 34) from rfl))))))
set_option maxRecDepth 20000 in
theorem am_w_35 : am_w0 35 ∈ lw_tbl := List.mem_append_right _ (List.mem_append_right _ (List.mem_append_right _ (List.mem_append_left _ (List.mem_of_getElem? (i := 189) (show tables_1_3[189]? = some (am_w0 35) from rfl)))))
set_option maxRecDepth 20000 in
theorem am_w_36 : am_w0 36 ∈ lw_tbl := List.mem_append_right _ (List.mem_append_right _ (List.mem_append_right _ (List.mem_append_right _ (List.mem_append_left _ (List.mem_of_getElem? (i := 96) (show tables_1_4[96]? = some (am_w0 36) from rfl))))))
set_option maxRecDepth 20000 in
theorem am_w_37 : am_w0 37 ∈ lw_tbl := List.mem_append_right _ (List.mem_append_right _ (List.mem_append_right _ (List.mem_append_left _ (List.mem_of_getElem? (i := 202) (show tables_1_3[202]? = some (am_w0 37) from rfl)))))
set_option maxRecDepth 20000 in
theorem am_w_38 : am_w0 38 ∈ lw_tbl := List.mem_append_right _ (List.mem_append_right _ (List.mem_append_right _ (List.mem_append_left _ (List.mem_of_getElem? (i := 198) (show tables_1_3[198]? = some (am_w0 38) from rfl)))))
set_option maxRecDepth 20000 in
theorem am_w_39 : am_w0 39 ∈ lw_tbl := List.mem_append_right _ (List.mem_append_right _ (List.mem_append_right _ (List.mem_append_right _ (List.mem_append_left _ (List.mem_of_getElem? (i := 25) (show tables_1_4[25]? = some (am_w0 39) from rfl))))))
set_option maxRecDepth 20000 in
theorem am_w_40 : am_w0 40 ∈ lw_tbl := List.mem_append_right _ (List.mem_append_right _ (List.mem_append_right _ (List.mem_append_right _ (List.mem_append_left _ (List.mem_of_getElem? (i := 73) (show tables_1_4[73]? = some (am_w0 40) from rfl))))))
set_option maxRecDepth 20000 in
theorem am_w_41 : am_w0 41 ∈ lw_tbl := List.mem_append_right _ (List.mem_append_right _ (List.mem_append_right _ (List.mem_append_right _ (List.mem_append_left _ (List.mem_of_getElem? (i := 45) (show tables_1_4[45]? = some (am_w0 41) from rfl))))))
set_option maxRecDepth 20000 in
theorem am_w_42 : am_w0 42 ∈ lw_tbl := List.mem_append_right _ (List.mem_append_right _ (List.mem_append_right _ (List.mem_append_right _ (List.mem_append_left _ (List.mem_of_getElem? (i := 195) (show tables_1_4[195]? = some (am_w0 42) from rfl))))))
set_option maxRecDepth 20000 in
theorem am_w_43 : am_w0 43 ∈ lw_tbl := List.mem_append_right _ (List.mem_append_right _ (List.mem_append_right _ (List.mem_append_right _ (List.mem_append_left _ (List.mem_of_getElem? (i := 37) (show tables_1_4[37]? = some (am_w0 43) from rfl))))))
set_option maxRecDepth 20000 in
theorem am_w_44 : am_w0 44 ∈ lw_tbl := List.mem_append_right _ (List.mem_append_right _ (List.mem_append_right _ (List.mem_append_right _ (List.mem_append_left _ (List.mem_of_getElem? (i := 41) (show tables_1_4[41]? = some (am_w0 44) from rfl))))))
set_option maxRecDepth 20000 in
theorem am_w_45 : am_w0 45 ∈ lw_tbl := List.mem_append_right _ (List.mem_append_left _ (List.mem_of_getElem? (i := 131) (show tables_1_1[131]? = some (am_w0 45) from rfl)))
set_option maxRecDepth 20000 in
theorem am_w_46 : am_w0 46 ∈ lw_tbl := List.mem_append_right _ (List.mem_append_right _ (List.mem_append_left _ (List.mem_of_getElem? (i := 144) (show tables_1_2[144]? = some (am_w0 46) from rfl))))
set_option maxRecDepth 20000 in
theorem am_w_47 : am_w0 47 ∈ lw_tbl := List.mem_append_right _ (List.mem_append_right _ (List.mem_append_left _ (List.mem_of_getElem? (i := 148) (show tables_1_2[148]? = some (am_w0 47) from rfl))))
set_option maxRecDepth 20000 in
theorem am_w_48 : am_w0 48 ∈ lw_tbl := List.mem_append_right _ (List.mem_append_right _ (List.mem_append_left _ (List.mem_of_getElem? (i := 156) (show tables_1_2[156]? = some (am_w0 48) from rfl))))
set_option maxRecDepth 20000 in
theorem am_w_49 : am_w0 49 ∈ lw_tbl := List.mem_append_right _ (List.mem_append_right _ (List.mem_append_left _ (List.mem_of_getElem? (i := 167) (show tables_1_2[167]? = some (am_w0 49) from rfl))))
set_option maxRecDepth 20000 in
theorem am_w_50 : am_w0 50 ∈ lw_tbl := List.mem_append_right _ (List.mem_append_right _ (List.mem_append_left _ (List.mem_of_getElem? (i := 174) (show tables_1_2[174]? = some (am_w0 50) from rfl))))
set_option maxRecDepth 20000 in
theorem am_w_51 : am_w0 51 ∈ lw_tbl := List.mem_append_right _ (List.mem_append_right _ (List.mem_append_left _ (List.mem_of_getElem? (i := 182) (show tables_1_2[182]? = some (am_w0 51) from rfl))))
set_option maxRecDepth 20000 in
theorem am_w_52 : am_w0 52 ∈ lw_tbl := List.mem_append_right _ (List.mem_append_right _ (List.mem_append_left _ (List.mem_of_getElem? (i := 193) (show tables_1_2[193]? = some (am_w0 52) from rfl))))
set_option maxRecDepth 20000 in
theorem am_w_53 : am_w0 53 ∈ lw_tbl := List.mem_append_right _ (List.mem_append_right _ (List.mem_append_left _ (List.mem_of_getElem? (i := 205) (show tables_1_2[205]? = some (am_w0 53) from rfl))))
set_option maxRecDepth 20000 in
theorem am_w_54 : am_w0 54 ∈ lw_tbl := List.mem_append_right _ (List.mem_append_right _ (List.mem_append_left _ (List.mem_of_getElem? (i := 209) (show tables_1_2[209]? = some (am_w0 54) from rfl))))
set_option maxRecDepth 20000 in
theorem am_w_55 : am_w0 55 ∈ lw_tbl := List.mem_append_right _ (List.mem_append_right _ (List.mem_append_left _ (List.mem_of_getElem? (i := 216) (show tables_1_2[216]? = some (am_w0 55) from rfl))))
set_option maxRecDepth 20000 in
theorem am_w_56 : am_w0 56 ∈ lw_tbl := List.mem_append_right _ (List.mem_append_right _ (List.mem_append_left _ (List.mem_of_getElem? (i := 223) (show tables_1_2[223]? = some (am_w0 56) from rfl))))
set_option maxRecDepth 20000 in
theorem am_w_57 : am_w0 57 ∈ lw_tbl := List.mem_append_right _ (List.mem_append_right _ (List.mem_append_right _ (List.mem_append_left _ (List.mem_of_getElem? (i := 51) (show tables_1_3[51]? = some (am_w0 57) from rfl)))))
set_option maxRecDepth 20000 in
theorem am_w_58 : am_w0 58 ∈ lw_tbl := List.mem_append_right _ (List.mem_append_right _ (List.mem_append_right _ (List.mem_append_left _ (List.mem_of_getElem? (i := 55) (show tables_1_3[55]? = some (am_w0 58) from rfl)))))
set_option maxRecDepth 20000 in
theorem am_w_59 : am_w0 59 ∈ lw_tbl := List.mem_append_right _ (List.mem_append_right _ (List.mem_append_right _ (List.mem_append_left _ (List.mem_of_getElem? (i := 59) (show tables_1_3[59]? = some (am_w0 59) from rfl)))))
set_option maxRecDepth 20000 in
theorem am_w_60 : am_w0 60 ∈ lw_tbl := List.mem_append_right _ (List.mem_append_right _ (List.mem_append_right _ (List.mem_append_left _ (List.mem_of_getElem? (i := 120) (show tables_1_3[120]? = some (am_w0 60) from rfl)))))
set_option maxRecDepth 20000 in
theorem am_w_61 : am_w0 61 ∈ lw_tbl := List.mem_append_right _ (List.mem_append_right _ (List.mem_append_right _ (List.mem_append_left _ (List.mem_of_getElem? (i := 124) (show tables_1_3[124]? = some (am_w0 61) from rfl)))))
set_option maxRecDepth 20000 in
theorem am_w_62 : am_w0 62 ∈ lw_tbl := List.mem_append_right _ (List.mem_append_right _ (List.mem_append_right _ (List.mem_append_left _ (List.mem_of_getElem? (i := 128) (show tables_1_3[128]? = some (am_w0 62) from rfl)))))
set_option maxRecDepth 20000 in
theorem am_w_63 : am_w0 63 ∈ lw_tbl := List.mem_append_right _ (List.mem_append_left _ (List.mem_of_getElem? (i := 179) (show tables_1_1[179]? = some (am_w0 63) from rfl)))
set_option maxRecDepth 20000 in
theorem am_w_64 : am_w0 64 ∈ lw_tbl := List.mem_append_right _ (List.mem_append_right _ (List.mem_append_right _ (List.mem_append_left _ (List.mem_of_getElem? (i := 132) (show tables_1_3[132]? = some (am_w0 64) from rfl)))))
set_option maxRecDepth 20000 in
theorem am_w_65 : am_w0 65 ∈ lw_tbl := List.mem_append_right _ (List.mem_append_right _ (List.mem_append_right _ (List.mem_append_left _ (List.mem_of_getElem? (i := 149) (show tables_1_3[149]? = some (am_w0 65) from rfl)))))
set_option maxRecDepth 20000 in
theorem am_w_66 : am_w0 66 ∈ lw_tbl := List.mem_append_right _ (List.mem_append_right _ (List.mem_append_right _ (List.mem_append_left _ (List.mem_of_getElem? (i := 169) (show tables_1_3[169]? = some (am_w0 66) from rfl)))))
set_option maxRecDepth 20000 in
theorem am_w_67 : am_w0 67 ∈ lw_tbl := List.mem_append_right _ (List.mem_append_right _ (List.mem_append_right _ (List.mem_append_left _ (List.mem_of_getElem? (i := 218) (show tables_1_3[218]? = some (am_w0 67) from rfl)))))
set_option maxRecDepth 20000 in
theorem am_w_68 : am_w0 68 ∈ lw_tbl := List.mem_append_right _ (List.mem_append_right _ (List.mem_append_right _ (List.mem_append_left _ (List.mem_of_getElem? (i := 136) (show tables_1_3[136]? = some (am_w0 68) from rfl)))))
set_option maxRecDepth 20000 in
theorem am_w_69 : am_w0 69 ∈ lw_tbl := List.mem_append_right _ (List.mem_append_right _ (List.mem_append_right _ (List.mem_append_left _ (List.mem_of_getElem? (i := 157) (show tables_1_3[157]? = some (am_w0 69) from rfl)))))
set_option maxRecDepth 20000 in
theorem am_w_70 : am_w0 70 ∈ lw_tbl := List.mem_append_right _ (List.mem_append_right _ (List.mem_append_right _ (List.mem_append_right _ (List.mem_append_left _ (List.mem_of_getElem? (i := 21) (show tables_1_4[21]? = some (am_w0 70) from rfl))))))
set_option maxRecDepth 20000 in
theorem am_w_71 : am_w0 71 ∈ lw_tbl := List.mem_append_right _ (List.mem_append_right _ (List.mem_append_right _ (List.mem_append_left _ (List.mem_of_getElem? (i := 161) (show tables_1_3[161]? = some (am_w0 71) from rfl)))))
set_option maxRecDepth 20000 in
theorem am_w_72 : am_w0 72 ∈ lw_tbl := List.mem_append_right _ (List.mem_append_right _ (List.mem_append_right _ (List.mem_append_left _ (List.mem_of_getElem? (i := 165) (show tables_1_3[165]? = some (am_w0 72) from rfl)))))
set_option maxRecDepth 20000 in
theorem am_w_73 : am_w0 73 ∈ lw_tbl := List.mem_append_right _ (List.mem_append_right _ (List.mem_append_right _ (List.mem_append_right _ (List.mem_append_left _ (List.mem_of_getElem? (i := 33) (show tables_1_4[33]? = some (am_w0 73) from rfl))))))
set_option maxRecDepth 20000 in
theorem am_w_74 : am_w0 74 ∈ lw_tbl := List.mem_append_right _ (List.mem_append_right _ (List.mem_append_right _ (List.mem_append_right _ (List.mem_append_left _ (List.mem_of_getElem? (i := 8) (show tables_1_4[8]? = some (am_w0 74) from rfl))))))
set_option maxRecDepth 20000 in
theorem am_w_75 : am_w0 75 ∈ lw_tbl := List.mem_append_right _ (List.mem_append_right _ (List.mem_append_right _ (List.mem_append_right _ (List.mem_append_left _ (List.mem_of_getElem? (i := 13) (show tables_1_4[13]? = some (am_w0 75) from rfl))))))
set_option maxRecDepth 20000 in
theorem am_w_76 : am_w0 76 ∈ lw_tbl := List.mem_append_right _ (List.mem_append_right _ (List.mem_append_right _ (List.mem_append_right _ (List.mem_append_left _ (List.mem_of_getElem? (i := 17) (show tables_1_4[17]? = some (am_w0 76) from rfl))))))
set_option maxRecDepth 20000 in
theorem am_w_77 : am_w0 77 ∈ lw_tbl := List.mem_append_right _ (List.mem_append_right _ (List.mem_append_right _ (List.mem_append_left _ (List.mem_of_getElem? (i := 173) (show tables_1_3[173]? = some (am_w0 77) from rfl)))))
set_option maxRecDepth 20000 in
theorem am_w_78 : am_w0 78 ∈ lw_tbl := List.mem_append_right _ (List.mem_append_right _ (List.mem_append_right _ (List.mem_append_left _ (List.mem_of_getElem? (i := 177) (show tables_1_3[177]? = some (am_w0 78) from rfl)))))
set_option maxRecDepth 20000 in
theorem am_w_79 : am_w0 79 ∈ lw_tbl := List.mem_append_right _ (List.mem_append_right _ (List.mem_append_right _ (List.mem_append_left _ (List.mem_of_getElem? (i := 206) (show tables_1_3[206]? = some (am_w0 79) from rfl)))))
set_option maxRecDepth 20000 in
theorem am_w_80 : am_w0 80 ∈ lw_tbl := List.mem_append_right _ (List.mem_append_right _ (List.mem_append_right _ (List.mem_append_left _ (List.mem_of_getElem? (i := 230) (show tables_1_3[230]? = some (am_w0 80) from rfl)))))
set_option maxRecDepth 20000 in
theorem am_w_81 : am_w0 81 ∈ lw_tbl := List.mem_append_right _ (List.mem_append_right _ (List.mem_append_right _ (List.mem_append_left _ (List.mem_of_getElem? (i := 234) (show tables_1_3[234]? = some (am_w0 81) from rfl)))))
set_option maxRecDepth 20000 in
theorem am_w_82 : am_w0 82 ∈ lw_tbl := List.mem_append_right _ (List.mem_append_right _ (List.mem_append_right _ (List.mem_append_left _ (List.mem_of_getElem? (i := 238) (show tables_1_3[238]? = some (am_w0 82) from rfl)))))
set_option maxRecDepth 20000 in
theorem am_w_83 : am_w0 83 ∈ lw_tbl := List.mem_append_right _ (List.mem_append_right _ (List.mem_append_right _ (List.mem_append_left _ (List.mem_of_getElem? (i := 226) (show tables_1_3[226]? = some (am_w0 83) from rfl)))))
set_option maxRecDepth 20000 in
theorem am_w_84 : am_w0 84 ∈ lw_tbl := List.mem_append_right _ (List.mem_append_right _ (List.mem_append_right _ (List.mem_append_left _ (List.mem_of_getElem? (i := 210) (show tables_1_3[210]? = some (am_w0 84) from rfl)))))
set_option maxRecDepth 20000 in
theorem am_w_85 : am_w0 85 ∈ lw_tbl := List.mem_append_right _ (List.mem_append_right _ (List.mem_append_right _ (List.mem_append_left _ (List.mem_of_getElem? (i := 214) (show tables_1_3[214]? = some (am_w0 85) from rfl)))))
set_option maxRecDepth 20000 in
theorem am_w_86 : am_w0 86 ∈ lw_tbl := List.mem_append_right _ (List.mem_append_right _ (List.mem_append_right _ (List.mem_append_left _ (List.mem_of_getElem? (i := 222) (show tables_1_3[222]? = some (am_w0 86) from rfl)))))
set_option maxRecDepth 20000 in
theorem am_w_87 : am_w0 87 ∈ lw_tbl := List.mem_append_right _ (List.mem_append_right _ (List.mem_append_right _ (List.mem_append_left _ (List.mem_of_getElem? (i := 181) (show tables_1_3[181]? = some (am_w0 87) from rfl)))))
set_option maxRecDepth 20000 in
theorem am_w_88 : am_w0 88 ∈ lw_tbl := List.mem_append_right _ (List.mem_append_right _ (List.mem_append_right _ (List.mem_append_left _ (List.mem_of_getElem? (i := 194) (show tables_1_3[194]? = some (am_w0 88) from rfl)))))
set_option maxRecDepth 20000 in
theorem am_w_89 : am_w0 89 ∈ lw_tbl := List.mem_append_right _ (List.mem_append_left _ (List.mem_of_getElem? (i := 198) (show tables_1_1[198]? = some (am_w0 89) from rfl)))
set_option maxRecDepth 20000 in
theorem am_w_90 : am_w0 90 ∈ lw_tbl := List.mem_append_right _ (List.mem_append_right _ (List.mem_append_right _ (List.mem_append_right _ (List.mem_append_left _ (List.mem_of_getElem? (i := 210) (show tables_1_4[210]? = some (am_w0 90) from rfl))))))
set_option maxRecDepth 20000 in
theorem am_w_91 : am_w0 91 ∈ lw_tbl := List.mem_append_right _ (List.mem_append_right _ (List.mem_append_right _ (List.mem_append_right _ (List.mem_append_left _ (List.mem_of_getElem? (i := 65) (show tables_1_4[65]? = some (am_w0 91) from rfl))))))
set_option maxRecDepth 20000 in
theorem am_w_92 : am_w0 92 ∈ lw_tbl := List.mem_append_right _ (List.mem_append_right _ (List.mem_append_right _ (List.mem_append_right _ (List.mem_append_left _ (List.mem_of_getElem? (i := 92) (show tables_1_4[92]? = some (am_w0 92) from rfl))))))
set_option maxRecDepth 20000 in
theorem am_w_93 : am_w0 93 ∈ lw_tbl := List.mem_append_right _ (List.mem_append_right _ (List.mem_append_right _ (List.mem_append_right _ (List.mem_append_left _ (List.mem_of_getElem? (i := 86) (show tables_1_4[86]? = some (am_w0 93) from rfl))))))
set_option maxRecDepth 20000 in
theorem am_w_94 : am_w0 94 ∈ lw_tbl := List.mem_append_right _ (List.mem_append_right _ (List.mem_append_right _ (List.mem_append_right _ (List.mem_append_left _ (List.mem_of_getElem? (i := 109) (show tables_1_4[109]? = some (am_w0 94) from rfl))))))
set_option maxRecDepth 20000 in
theorem am_w_95 : am_w0 95 ∈ lw_tbl := List.mem_append_right _ (List.mem_append_right _ (List.mem_append_right _ (List.mem_append_right _ (List.mem_append_left _ (List.mem_of_getElem? (i := 81) (show tables_1_4[81]? = some (am_w0 95) from rfl))))))
set_option maxRecDepth 20000 in
theorem am_w_96 : am_w0 96 ∈ lw_tbl := List.mem_append_right _ (List.mem_append_right _ (List.mem_append_right _ (List.mem_append_right _ (List.mem_append_left _ (List.mem_of_getElem? (i := 69) (show tables_1_4[69]? = some (am_w0 96) from rfl))))))
set_option maxRecDepth 20000 in
theorem am_w_97 : am_w0 97 ∈ lw_tbl := List.mem_append_right _ (List.mem_append_right _ (List.mem_append_right _ (List.mem_append_right _ (List.mem_append_left _ (List.mem_of_getElem? (i := 77) (show tables_1_4[77]? = some (am_w0 97) from rfl))))))
set_option maxRecDepth 20000 in
theorem am_w_98 : am_w0 98 ∈ lw_tbl := List.mem_append_right _ (List.mem_append_right _ (List.mem_append_right _ (List.mem_append_right _ (List.mem_append_left _ (List.mem_of_getElem? (i := 100) (show tables_1_4[100]? = some (am_w0 98) from rfl))))))
set_option maxRecDepth 20000 in
theorem am_w_99 : am_w0 99 ∈ lw_tbl := List.mem_append_right _ (List.mem_append_right _ (List.mem_append_right _ (List.mem_append_right _ (List.mem_append_left _ (List.mem_of_getElem? (i := 104) (show tables_1_4[104]? = some (am_w0 99) from rfl))))))
set_option maxRecDepth 20000 in
theorem am_w_100 : am_w0 100 ∈ lw_tbl := List.mem_append_right _ (List.mem_append_right _ (List.mem_append_right _ (List.mem_append_right _ (List.mem_append_left _ (List.mem_of_getElem? (i := 146) (show tables_1_4[146]? = some (am_w0 100) from rfl))))))
set_option maxRecDepth 20000 in
theorem am_w_101 : am_w0 101 ∈ lw_tbl := List.mem_append_right _ (List.mem_append_right _ (List.mem_append_right _ (List.mem_append_right _ (List.mem_append_left _ (List.mem_of_getElem? (i := 152) (show tables_1_4[152]? = some (am_w0 101) from rfl))))))
set_option maxRecDepth 20000 in
theorem am_w_102 : am_w0 102 ∈ lw_tbl := List.mem_append_right _ (List.mem_append_right _ (List.mem_append_right _ (List.mem_append_right _ (List.mem_append_left _ (List.mem_of_getElem? (i := 120) (show tables_1_4[120]? = some (am_w0 102) from rfl))))))
set_option maxRecDepth 20000 in
theorem am_w_103 : am_w0 103 ∈ lw_tbl := List.mem_append_right _ (List.mem_append_right _ (List.mem_append_right _ (List.mem_append_right _ (List.mem_append_left _ (List.mem_of_getElem? (i := 139) (show tables_1_4[139]? = some (am_w0 103) from rfl))))))
set_option maxRecDepth 20000 in
theorem am_w_104 : am_w0 104 ∈ lw_tbl := List.mem_append_right _ (List.mem_append_right _ (List.mem_append_right _ (List.mem_append_right _ (List.mem_append_left _ (List.mem_of_getElem? (i := 124) (show tables_1_4[124]? = some (am_w0 104) from rfl))))))
set_option maxRecDepth 20000 in
theorem am_w_105 : am_w0 105 ∈ lw_tbl := List.mem_append_right _ (List.mem_append_right _ (List.mem_append_right _ (List.mem_append_right _ (List.mem_append_left _ (List.mem_of_getElem? (i := 128) (show tables_1_4[128]? = some (am_w0 105) from rfl))))))
set_option maxRecDepth 20000 in
theorem am_w_106 : am_w0 106 ∈ lw_tbl := List.mem_append_right _ (List.mem_append_right _ (List.mem_append_right _ (List.mem_append_right _ (List.mem_append_left _ (List.mem_of_getElem? (i := 132) (show tables_1_4[132]? = some (am_w0 106) from rfl))))))
set_option maxRecDepth 20000 in
theorem am_w_107 : am_w0 107 ∈ lw_tbl := List.mem_append_right _ (List.mem_append_left _ (List.mem_of_getElem? (i := 28) (show tables_1_1[28]? = some (am_w0 107) from rfl)))
set_option maxRecDepth 20000 in
theorem am_w_108 : am_w0 108 ∈ lw_tbl := List.mem_append_right _ (List.mem_append_right _ (List.mem_append_left _ (List.mem_of_getElem? (i := 27) (show tables_1_2[27]? = some (am_w0 108) from rfl))))
set_option maxRecDepth 20000 in
theorem am_w_109 : am_w0 109 ∈ lw_tbl := List.mem_append_right _ (List.mem_append_right _ (List.mem_append_left _ (List.mem_of_getElem? (i := 2) (show tables_1_2[2]? = some (am_w0 109) from rfl))))
set_option maxRecDepth 20000 in
theorem am_w_110 : am_w0 110 ∈ lw_tbl := List.mem_append_right _ (List.mem_append_right _ (List.mem_append_left _ (List.mem_of_getElem? (i := 132) (show tables_1_2[132]? = some (am_w0 110) from rfl))))
set_option maxRecDepth 20000 in
theorem am_w_111 : am_w0 111 ∈ lw_tbl := List.mem_append_right _ (List.mem_append_right _ (List.mem_append_left _ (List.mem_of_getElem? (i := 6) (show tables_1_2[6]? = some (am_w0 111) from rfl))))
set_option maxRecDepth 20000 in
theorem am_w_112 : am_w0 112 ∈ lw_tbl := List.mem_append_right _ (List.mem_append_right _ (List.mem_append_left _ (List.mem_of_getElem? (i := 10) (show tables_1_2[10]? = some (am_w0 112) from rfl))))
set_option maxRecDepth 20000 in
theorem am_w_113 : am_w0 113 ∈ lw_tbl := List.mem_append_right _ (List.mem_append_right _ (List.mem_append_right _ (List.mem_append_right _ (List.mem_append_left _ (List.mem_of_getElem? (i := 161) (show tables_1_4[161]? = some (am_w0 113) from rfl))))))
set_option maxRecDepth 20000 in
theorem am_w_114 : am_w0 114 ∈ lw_tbl := List.mem_append_right _ (List.mem_append_right _ (List.mem_append_left _ (List.mem_of_getElem? (i := 14) (show tables_1_2[14]? = some (am_w0 114) from rfl))))
set_option maxRecDepth 20000 in
theorem am_w_115 : am_w0 115 ∈ lw_tbl := List.mem_append_right _ (List.mem_append_right _ (List.mem_append_right _ (List.mem_append_right _ (List.mem_append_left _ (List.mem_of_getElem? (i := 190) (show tables_1_4[190]? = some (am_w0 115) from rfl))))))
set_option maxRecDepth 20000 in
theorem am_w_116 : am_w0 116 ∈ lw_tbl := List.mem_append_right _ (List.mem_append_right _ (List.mem_append_left _ (List.mem_of_getElem? (i := 18) (show tables_1_2[18]? = some (am_w0 116) from rfl))))
set_option maxRecDepth 20000 in
theorem am_w_117 : am_w0 117 ∈ lw_tbl := List.mem_append_right _ (List.mem_append_right _ (List.mem_append_right _ (List.mem_append_right _ (List.mem_append_left _ (List.mem_of_getElem? (i := 205) (show tables_1_4[205]? = some (am_w0 117) from rfl))))))
set_option maxRecDepth 20000 in
theorem am_w_118 : am_w0 118 ∈ lw_tbl := List.mem_append_right _ (List.mem_append_right _ (List.mem_append_left _ (List.mem_of_getElem? (i := 140) (show tables_1_2[140]? = some (am_w0 118) from rfl))))
set_option maxRecDepth 20000 in
theorem am_w_119 : am_w0 119 ∈ lw_tbl := List.mem_append_right _ (List.mem_append_right _ (List.mem_append_left _ (List.mem_of_getElem? (i := 99) (show tables_1_2[99]? = some (am_w0 119) from rfl))))
set_option maxRecDepth 20000 in
theorem am_w_120 : am_w0 120 ∈ lw_tbl := List.mem_append_right _ (List.mem_append_right _ (List.mem_append_left _ (List.mem_of_getElem? (i := 103) (show tables_1_2[103]? = some (am_w0 120) from rfl))))
set_option maxRecDepth 20000 in
theorem am_w_121 : am_w0 121 ∈ lw_tbl := List.mem_append_right _ (List.mem_append_right _ (List.mem_append_left _ (List.mem_of_getElem? (i := 163) (show tables_1_2[163]? = some (am_w0 121) from rfl))))
set_option maxRecDepth 20000 in
theorem am_w_122 : am_w0 122 ∈ lw_tbl := List.mem_append_right _ (List.mem_append_right _ (List.mem_append_left _ (List.mem_of_getElem? (i := 219) (show tables_1_2[219]? = some (am_w0 122) from rfl))))
set_option maxRecDepth 20000 in
theorem am_w_123 : am_w0 123 ∈ lw_tbl := List.mem_append_right _ (List.mem_append_right _ (List.mem_append_left _ (List.mem_of_getElem? (i := 212) (show tables_1_2[212]? = some (am_w0 123) from rfl))))
set_option maxRecDepth 20000 in
theorem am_w_124 : am_w0 124 ∈ lw_tbl := List.mem_append_right _ (List.mem_append_right _ (List.mem_append_right _ (List.mem_append_right _ (List.mem_append_left _ (List.mem_of_getElem? (i := 1) (show tables_1_4[1]? = some (am_w0 124) from rfl))))))
set_option maxRecDepth 20000 in
theorem am_w_125 : am_w0 125 ∈ lw_tbl := List.mem_append_right _ (List.mem_append_right _ (List.mem_append_right _ (List.mem_append_right _ (List.mem_append_left _ (List.mem_of_getElem? (i := 4) (show tables_1_4[4]? = some (am_w0 125) from rfl))))))
set_option maxRecDepth 20000 in
theorem am_w_126 : am_w0 126 ∈ lw_tbl := List.mem_append_right _ (List.mem_append_right _ (List.mem_append_right _ (List.mem_append_right _ (List.mem_append_left _ (List.mem_of_getElem? (i := 215) (show tables_1_4[215]? = some (am_w0 126) from rfl))))))
set_option maxRecDepth 20000 in
theorem am_w_127 : am_w0 127 ∈ lw_tbl := List.mem_append_right _ (List.mem_append_right _ (List.mem_append_right _ (List.mem_append_right _ (List.mem_append_right _ (List.mem_append_left _ (List.mem_of_getElem? (i := 112) (show tables_1_5[112]? = some (am_w0 127) from rfl)))))))
set_option maxRecDepth 20000 in
theorem am_w_128 : am_w0 128 ∈ lw_tbl := List.mem_append_right _ (List.mem_append_right _ (List.mem_append_right _ (List.mem_append_right _ (List.mem_append_right _ (List.mem_append_left _ (List.mem_of_getElem? (i := 120) (show tables_1_5[120]? = some (am_w0 128) from rfl)))))))
set_option maxRecDepth 20000 in
theorem am_w_129 : am_w0 129 ∈ lw_tbl := List.mem_append_right _ (List.mem_append_right _ (List.mem_append_right _ (List.mem_append_right _ (List.mem_append_right _ (List.mem_append_left _ (List.mem_of_getElem? (i := 116) (show tables_1_5[116]? = some (am_w0 129) from rfl)))))))
set_option maxRecDepth 20000 in
theorem am_w_130 : am_w0 130 ∈ lw_tbl := List.mem_append_right _ (List.mem_append_right _ (List.mem_append_right _ (List.mem_append_right _ (List.mem_append_right _ (List.mem_append_left _ (List.mem_of_getElem? (i := 124) (show tables_1_5[124]? = some (am_w0 130) from rfl)))))))
set_option maxRecDepth 20000 in
theorem am_w_131 : am_w0 131 ∈ lw_tbl := List.mem_append_right _ (List.mem_append_right _ (List.mem_append_right _ (List.mem_append_right _ (List.mem_append_right _ (List.mem_append_left _ (List.mem_of_getElem? (i := 155) (show tables_1_5[155]? = some (am_w0 131) from rfl)))))))
set_option maxRecDepth 20000 in
theorem am_w_132 : am_w0 132 ∈ lw_tbl := List.mem_append_right _ (List.mem_append_right _ (List.mem_append_right _ (List.mem_append_right _ (List.mem_append_right _ (List.mem_append_left _ (List.mem_of_getElem? (i := 140) (show tables_1_5[140]? = some (am_w0 132) from rfl)))))))
set_option maxRecDepth 20000 in
theorem am_w_133 : am_w0 133 ∈ lw_tbl := List.mem_append_right _ (List.mem_append_right _ (List.mem_append_right _ (List.mem_append_right _ (List.mem_append_right _ (List.mem_append_left _ (List.mem_of_getElem? (i := 143) (show tables_1_5[143]? = some (am_w0 133) from rfl)))))))
set_option maxRecDepth 20000 in
theorem am_w_134 : am_w0 134 ∈ lw_tbl := List.mem_append_right _ (List.mem_append_right _ (List.mem_append_right _ (List.mem_append_right _ (List.mem_append_right _ (List.mem_append_left _ (List.mem_of_getElem? (i := 173) (show tables_1_5[173]? = some (am_w0 134) from rfl)))))))
set_option maxRecDepth 20000 in
theorem am_w_135 : am_w0 135 ∈ lw_tbl := List.mem_append_right _ (List.mem_append_right _ (List.mem_append_right _ (List.mem_append_right _ (List.mem_append_right _ (List.mem_append_left _ (List.mem_of_getElem? (i := 166) (show tables_1_5[166]? = some (am_w0 135) from rfl)))))))
set_option maxRecDepth 20000 in
theorem am_w_136 : am_w0 136 ∈ lw_tbl := List.mem_append_right _ (List.mem_append_right _ (List.mem_append_right _ (List.mem_append_right _ (List.mem_append_right _ (List.mem_append_left _ (List.mem_of_getElem? (i := 159) (show tables_1_5[159]? = some (am_w0 136) from rfl)))))))
set_option maxRecDepth 20000 in
theorem am_w_137 : am_w0 137 ∈ lw_tbl := List.mem_append_right _ (List.mem_append_right _ (List.mem_append_right _ (List.mem_append_right _ (List.mem_append_right _ (List.mem_append_left _ (List.mem_of_getElem? (i := 147) (show tables_1_5[147]? = some (am_w0 137) from rfl)))))))
set_option maxRecDepth 20000 in
theorem am_w_138 : am_w0 138 ∈ lw_tbl := List.mem_append_right _ (List.mem_append_right _ (List.mem_append_right _ (List.mem_append_right _ (List.mem_append_right _ (List.mem_append_left _ (List.mem_of_getElem? (i := 151) (show tables_1_5[151]? = some (am_w0 138) from rfl)))))))
set_option maxRecDepth 20000 in
theorem am_w_139 : am_w0 139 ∈ lw_tbl := List.mem_append_right _ (List.mem_append_right _ (List.mem_append_right _ (List.mem_append_right _ (List.mem_append_right _ (List.mem_append_left _ (List.mem_of_getElem? (i := 136) (show tables_1_5[136]? = some (am_w0 139) from rfl)))))))
set_option maxRecDepth 20000 in
theorem am_w_140 : am_w0 140 ∈ lw_tbl := List.mem_append_right _ (List.mem_append_right _ (List.mem_append_right _ (List.mem_append_right _ (List.mem_append_right _ (List.mem_append_left _ (List.mem_of_getElem? (i := 170) (show tables_1_5[170]? = some (am_w0 140) from rfl)))))))
set_option maxRecDepth 20000 in
theorem am_w_141 : am_w0 141 ∈ lw_tbl := List.mem_append_right _ (List.mem_append_right _ (List.mem_append_right _ (List.mem_append_right _ (List.mem_append_right _ (List.mem_append_left _ (List.mem_of_getElem? (i := 189) (show tables_1_5[189]? = some (am_w0 141) from rfl)))))))
set_option maxRecDepth 20000 in
theorem am_w_142 : am_w0 142 ∈ lw_tbl := List.mem_append_right _ (List.mem_append_right _ (List.mem_append_right _ (List.mem_append_right _ (List.mem_append_right _ (List.mem_append_left _ (List.mem_of_getElem? (i := 193) (show tables_1_5[193]? = some (am_w0 142) from rfl)))))))
set_option maxRecDepth 20000 in
theorem am_w_143 : am_w0 143 ∈ lw_tbl := List.mem_append_right _ (List.mem_append_right _ (List.mem_append_right _ (List.mem_append_right _ (List.mem_append_right _ (List.mem_append_left _ (List.mem_of_getElem? (i := 200) (show tables_1_5[200]? = some (am_w0 143) from rfl)))))))
set_option maxRecDepth 20000 in
theorem am_w_144 : am_w0 144 ∈ lw_tbl := List.mem_append_right _ (List.mem_append_right _ (List.mem_append_right _ (List.mem_append_right _ (List.mem_append_right _ (List.mem_append_left _ (List.mem_of_getElem? (i := 204) (show tables_1_5[204]? = some (am_w0 144) from rfl)))))))
set_option maxRecDepth 20000 in
theorem am_w_145 : am_w0 145 ∈ lw_tbl := List.mem_append_right _ (List.mem_append_right _ (List.mem_append_right _ (List.mem_append_right _ (List.mem_append_right _ (List.mem_append_left _ (List.mem_of_getElem? (i := 197) (show tables_1_5[197]? = some (am_w0 145) from rfl)))))))
set_option maxRecDepth 20000 in
theorem am_w_146 : am_w0 146 ∈ lw_tbl := List.mem_append_right _ (List.mem_append_right _ (List.mem_append_right _ (List.mem_append_right _ (List.mem_append_right _ (List.mem_append_left _ (List.mem_of_getElem? (i := 163) (show tables_1_5[163]? = some (am_w0 146) from rfl)))))))
set_option maxRecDepth 20000 in
theorem am_w_147 : am_w0 147 ∈ lw_tbl := List.mem_append_right _ (List.mem_append_right _ (List.mem_append_right _ (List.mem_append_right _ (List.mem_append_right _ (List.mem_append_left _ (List.mem_of_getElem? (i := 132) (show tables_1_5[132]? = some (am_w0 147) from rfl)))))))
set_option maxRecDepth 20000 in
theorem am_w_148 : am_w0 148 ∈ lw_tbl := List.mem_append_right _ (List.mem_append_right _ (List.mem_append_right _ (List.mem_append_right _ (List.mem_append_right _ (List.mem_append_left _ (List.mem_of_getElem? (i := 212) (show tables_1_5[212]? = some (am_w0 148) from rfl)))))))
set_option maxRecDepth 20000 in
theorem am_w_149 : am_w0 149 ∈ lw_tbl := List.mem_append_right _ (List.mem_append_right _ (List.mem_append_right _ (List.mem_append_right _ (List.mem_append_right _ (List.mem_append_left _ (List.mem_of_getElem? (i := 216) (show tables_1_5[216]? = some (am_w0 149) from rfl)))))))
set_option maxRecDepth 20000 in
theorem am_w_150 : am_w0 150 ∈ lw_tbl := List.mem_append_right _ (List.mem_append_right _ (List.mem_append_right _ (List.mem_append_right _ (List.mem_append_right _ (List.mem_append_left _ (List.mem_of_getElem? (i := 224) (show tables_1_5[224]? = some (am_w0 150) from rfl)))))))
set_option maxRecDepth 20000 in
theorem am_w_151 : am_w0 151 ∈ lw_tbl := List.mem_append_right _ (List.mem_append_right _ (List.mem_append_right _ (List.mem_append_right _ (List.mem_append_right _ (List.mem_append_right _ (List.mem_of_getElem? (i := 0) (show tables_1_6[0]? = some (am_w0 151) from rfl)))))))
set_option maxRecDepth 20000 in
theorem am_w_152 : am_w0 152 ∈ lw_tbl := List.mem_append_right _ (List.mem_append_right _ (List.mem_append_right _ (List.mem_append_right _ (List.mem_append_right _ (List.mem_append_left _ (List.mem_of_getElem? (i := 236) (show tables_1_5[236]? = some (am_w0 152) from rfl)))))))
set_option maxRecDepth 20000 in
theorem am_w_153 : am_w0 153 ∈ lw_tbl := List.mem_append_right _ (List.mem_append_right _ (List.mem_append_right _ (List.mem_append_right _ (List.mem_append_right _ (List.mem_append_left _ (List.mem_of_getElem? (i := 220) (show tables_1_5[220]? = some (am_w0 153) from rfl)))))))
set_option maxRecDepth 20000 in
theorem am_w_154 : am_w0 154 ∈ lw_tbl := List.mem_append_right _ (List.mem_append_right _ (List.mem_append_right _ (List.mem_append_right _ (List.mem_append_right _ (List.mem_append_right _ (List.mem_of_getElem? (i := 28) (show tables_1_6[28]? = some (am_w0 154) from rfl)))))))
set_option maxRecDepth 20000 in
theorem am_w_155 : am_w0 155 ∈ lw_tbl := List.mem_append_right _ (List.mem_append_right _ (List.mem_append_right _ (List.mem_append_right _ (List.mem_append_right _ (List.mem_append_right _ (List.mem_of_getElem? (i := 51) (show tables_1_6[51]? = some (am_w0 155) from rfl)))))))
set_option maxRecDepth 20000 in
theorem am_w_156 : am_w0 156 ∈ lw_tbl := List.mem_append_right _ (List.mem_append_right _ (List.mem_append_right _ (List.mem_append_right _ (List.mem_append_right _ (List.mem_append_right _ (List.mem_of_getElem? (i := 48) (show tables_1_6[48]? = some (am_w0 156) from rfl)))))))
set_option maxRecDepth 20000 in
theorem am_w_157 : am_w0 157 ∈ lw_tbl := List.mem_append_right _ (List.mem_append_right _ (List.mem_append_right _ (List.mem_append_right _ (List.mem_append_right _ (List.mem_append_right _ (List.mem_of_getElem? (i := 20) (show tables_1_6[20]? = some (am_w0 157) from rfl)))))))
set_option maxRecDepth 20000 in
theorem am_w_158 : am_w0 158 ∈ lw_tbl := List.mem_append_right _ (List.mem_append_right _ (List.mem_append_right _ (List.mem_append_right _ (List.mem_append_right _ (List.mem_append_right _ (List.mem_of_getElem? (i := 44) (show tables_1_6[44]? = some (am_w0 158) from rfl)))))))
set_option maxRecDepth 20000 in
theorem am_w_159 : am_w0 159 ∈ lw_tbl := List.mem_append_right _ (List.mem_append_right _ (List.mem_append_right _ (List.mem_append_right _ (List.mem_append_right _ (List.mem_append_right _ (List.mem_of_getElem? (i := 16) (show tables_1_6[16]? = some (am_w0 159) from rfl)))))))
set_option maxRecDepth 20000 in
theorem am_w_160 : am_w0 160 ∈ lw_tbl := List.mem_append_right _ (List.mem_append_right _ (List.mem_append_right _ (List.mem_append_right _ (List.mem_append_right _ (List.mem_append_right _ (List.mem_of_getElem? (i := 24) (show tables_1_6[24]? = some (am_w0 160) from rfl)))))))
set_option maxRecDepth 20000 in
theorem am_w_161 : am_w0 161 ∈ lw_tbl := List.mem_append_right _ (List.mem_append_right _ (List.mem_append_right _ (List.mem_append_right _ (List.mem_append_right _ (List.mem_append_right _ (List.mem_of_getElem? (i := 12) (show tables_1_6[12]? = some (am_w0 161) from rfl)))))))
set_option maxRecDepth 20000 in
theorem am_w_162 : am_w0 162 ∈ lw_tbl := List.mem_append_right _ (List.mem_append_right _ (List.mem_append_right _ (List.mem_append_right _ (List.mem_append_right _ (List.mem_append_right _ (List.mem_of_getElem? (i := 36) (show tables_1_6[36]? = some (am_w0 162) from rfl)))))))
set_option maxRecDepth 20000 in
theorem am_w_163 : am_w0 163 ∈ lw_tbl := List.mem_append_right _ (List.mem_append_right _ (List.mem_append_right _ (List.mem_append_right _ (List.mem_append_right _ (List.mem_append_right _ (List.mem_of_getElem? (i := 40) (show tables_1_6[40]? = some (am_w0 163) from rfl)))))))
set_option maxRecDepth 20000 in
theorem am_w_164 : am_w0 164 ∈ lw_tbl := List.mem_append_right _ (List.mem_append_right _ (List.mem_append_right _ (List.mem_append_right _ (List.mem_append_right _ (List.mem_append_right _ (List.mem_of_getElem? (i := 32) (show tables_1_6[32]? = some (am_w0 164) from rfl)))))))
set_option maxRecDepth 20000 in
theorem am_w_165 : am_w0 165 ∈ lw_tbl := List.mem_append_right _ (List.mem_append_right _ (List.mem_append_right _ (List.mem_append_right _ (List.mem_append_right _ (List.mem_append_right _ (List.mem_of_getElem? (i := 8) (show tables_1_6[8]? = some (am_w0 165) from rfl)))))))
set_option maxRecDepth 20000 in
theorem am_w_166 : am_w0 166 ∈ lw_tbl := List.mem_append_right _ (List.mem_append_right _ (List.mem_append_right _ (List.mem_append_right _ (List.mem_append_right _ (List.mem_append_right _ (List.mem_of_getElem? (i := 4) (show tables_1_6[4]? = some (am_w0 166) from rfl)))))))
set_option maxRecDepth 20000 in
theorem am_w_167 : am_w0 167 ∈ lw_tbl := List.mem_append_right _ (List.mem_append_right _ (List.mem_append_right _ (List.mem_append_right _ (List.mem_append_right _ (List.mem_append_left _ (List.mem_of_getElem? (i := 232) (show tables_1_5[232]? = some (am_w0 167) from rfl)))))))
set_option maxRecDepth 20000 in
theorem am_w_168 : am_w0 168 ∈ lw_tbl := List.mem_append_right _ (List.mem_append_right _ (List.mem_append_right _ (List.mem_append_right _ (List.mem_append_right _ (List.mem_append_left _ (List.mem_of_getElem? (i := 228) (show tables_1_5[228]? = some (am_w0 168) from rfl)))))))
set_option maxRecDepth 20000 in
theorem am_w_169 : am_w0 169 ∈ lw_tbl := List.mem_append_right _ (List.mem_append_right _ (List.mem_append_right _ (List.mem_append_right _ (List.mem_append_right _ (List.mem_append_right _ (List.mem_of_getElem? (i := 60) (show tables_1_6[60]? = some (am_w0 169) from rfl)))))))
set_option maxRecDepth 20000 in
theorem am_w_170 : am_w0 170 ∈ lw_tbl := List.mem_append_right _ (List.mem_append_right _ (List.mem_append_right _ (List.mem_append_right _ (List.mem_append_right _ (List.mem_append_right _ (List.mem_of_getElem? (i := 56) (show tables_1_6[56]? = some (am_w0 170) from rfl)))))))
set_option maxRecDepth 20000 in
theorem am_w_171 : am_w0 171 ∈ lw_tbl := List.mem_append_right _ (List.mem_append_right _ (List.mem_append_right _ (List.mem_append_right _ (List.mem_append_right _ (List.mem_append_right _ (List.mem_of_getElem? (i := 64) (show tables_1_6[64]? = some (am_w0 171) from rfl)))))))
set_option maxRecDepth 20000 in
theorem am_w_172 : am_w0 172 ∈ lw_tbl := List.mem_append_right _ (List.mem_append_right _ (List.mem_append_right _ (List.mem_append_right _ (List.mem_append_right _ (List.mem_append_right _ (List.mem_of_getElem? (i := 68) (show tables_1_6[68]? = some (am_w0 172) from rfl)))))))
set_option maxRecDepth 20000 in
theorem am_w_173 : am_w0 173 ∈ lw_tbl := List.mem_append_right _ (List.mem_append_right _ (List.mem_append_right _ (List.mem_append_right _ (List.mem_append_right _ (List.mem_append_left _ (List.mem_of_getElem? (i := 208) (show tables_1_5[208]? = some (am_w0 173) from rfl)))))))
set_option maxRecDepth 20000 in
theorem am_w_174 : am_w0 174 ∈ lw_tbl := List.mem_append_right _ (List.mem_append_right _ (List.mem_append_right _ (List.mem_append_right _ (List.mem_append_right _ (List.mem_append_right _ (List.mem_of_getElem? (i := 72) (show tables_1_6[72]? = some (am_w0 174) from rfl)))))))
set_option maxRecDepth 20000 in
theorem am_w_175 : am_w0 175 ∈ lw_tbl := List.mem_append_right _ (List.mem_append_right _ (List.mem_append_right _ (List.mem_append_right _ (List.mem_append_right _ (List.mem_append_right _ (List.mem_of_getElem? (i := 84) (show tables_1_6[84]? = some (am_w0 175) from rfl)))))))
set_option maxRecDepth 20000 in
theorem am_w_176 : am_w0 176 ∈ lw_tbl := List.mem_append_right _ (List.mem_append_right _ (List.mem_append_right _ (List.mem_append_right _ (List.mem_append_right _ (List.mem_append_right _ (List.mem_of_getElem? (i := 100) (show tables_1_6[100]? = some (am_w0 176) from rfl)))))))
set_option maxRecDepth 20000 in
theorem am_w_177 : am_w0 177 ∈ lw_tbl := List.mem_append_right _ (List.mem_append_right _ (List.mem_append_right _ (List.mem_append_right _ (List.mem_append_right _ (List.mem_append_right _ (List.mem_of_getElem? (i := 116) (show tables_1_6[116]? = some (am_w0 177) from rfl)))))))
set_option maxRecDepth 20000 in
theorem am_w_178 : am_w0 178 ∈ lw_tbl := List.mem_append_right _ (List.mem_append_right _ (List.mem_append_right _ (List.mem_append_right _ (List.mem_append_right _ (List.mem_append_right _ (List.mem_of_getElem? (i := 112) (show tables_1_6[112]? = some (am_w0 178) from rfl)))))))
set_option maxRecDepth 20000 in
theorem am_w_179 : am_w0 179 ∈ lw_tbl := List.mem_append_right _ (List.mem_append_right _ (List.mem_append_right _ (List.mem_append_right _ (List.mem_append_right _ (List.mem_append_right _ (List.mem_of_getElem? (i := 108) (show tables_1_6[108]? = some (am_w0 179) from rfl)))))))
set_option maxRecDepth 20000 in
theorem am_w_180 : am_w0 180 ∈ lw_tbl := List.mem_append_right _ (List.mem_append_right _ (List.mem_append_right _ (List.mem_append_right _ (List.mem_append_right _ (List.mem_append_right _ (List.mem_of_getElem? (i := 104) (show tables_1_6[104]? = some (am_w0 180) from rfl)))))))
set_option maxRecDepth 20000 in
theorem am_w_181 : am_w0 181 ∈ lw_tbl := List.mem_append_right _ (List.mem_append_right _ (List.mem_append_right _ (List.mem_append_right _ (List.mem_append_right _ (List.mem_append_right _ (List.mem_of_getElem? (i := 96) (show tables_1_6[96]? = some (am_w0 181) from rfl)))))))
set_option maxRecDepth 20000 in
theorem am_w_182 : am_w0 182 ∈ lw_tbl := List.mem_append_right _ (List.mem_append_right _ (List.mem_append_right _ (List.mem_append_right _ (List.mem_append_right _ (List.mem_append_right _ (List.mem_of_getElem? (i := 80) (show tables_1_6[80]? = some (am_w0 182) from rfl)))))))
set_option maxRecDepth 20000 in
theorem am_w_183 : am_w0 183 ∈ lw_tbl := List.mem_append_right _ (List.mem_append_right _ (List.mem_append_right _ (List.mem_append_right _ (List.mem_append_right _ (List.mem_append_right _ (List.mem_of_getElem? (i := 92) (show tables_1_6[92]? = some (am_w0 183) from rfl)))))))
set_option maxRecDepth 20000 in
theorem am_w_184 : am_w0 184 ∈ lw_tbl := List.mem_append_right _ (List.mem_append_right _ (List.mem_append_right _ (List.mem_append_right _ (List.mem_append_right _ (List.mem_append_right _ (List.mem_of_getElem? (i := 120) (show tables_1_6[120]? = some (am_w0 184) from rfl)))))))
set_option maxRecDepth 20000 in
theorem am_w_185 : am_w0 185 ∈ lw_tbl := List.mem_append_right _ (List.mem_append_right _ (List.mem_append_right _ (List.mem_append_right _ (List.mem_append_right _ (List.mem_append_right _ (List.mem_of_getElem? (i := 88) (show tables_1_6[88]? = some (am_w0 185) from rfl)))))))
set_option maxRecDepth 20000 in
theorem am_w_186 : am_w0 186 ∈ lw_tbl := List.mem_append_right _ (List.mem_append_right _ (List.mem_append_right _ (List.mem_append_right _ (List.mem_append_right _ (List.mem_append_right _ (List.mem_of_getElem? (i := 76) (show tables_1_6[76]? = some (am_w0 186) from rfl)))))))
set_option maxRecDepth 20000 in
theorem am_w_187 : am_w0 187 ∈ lw_tbl := List.mem_append_right _ (List.mem_append_right _ (List.mem_append_right _ (List.mem_append_right _ (List.mem_append_right _ (List.mem_append_left _ (List.mem_of_getElem? (i := 128) (show tables_1_5[128]? = some (am_w0 187) from rfl)))))))
set_option maxRecDepth 20000 in
theorem am_w_188 : am_w0 188 ∈ lw_tbl := List.mem_append_right _ (List.mem_append_right _ (List.mem_append_right _ (List.mem_append_right _ (List.mem_append_right _ (List.mem_append_right _ (List.mem_of_getElem? (i := 124) (show tables_1_6[124]? = some (am_w0 188) from rfl)))))))
set_option maxRecDepth 20000 in
theorem am_w_189 : am_w0 189 ∈ lw_tbl := List.mem_append_right _ (List.mem_append_right _ (List.mem_append_right _ (List.mem_append_right _ (List.mem_append_right _ (List.mem_append_right _ (List.mem_of_getElem? (i := 128) (show tables_1_6[128]? = some (am_w0 189) from rfl)))))))
set_option maxRecDepth 20000 in
theorem am_w_190 : am_w0 190 ∈ lw_tbl := List.mem_append_right _ (List.mem_append_right _ (List.mem_append_right _ (List.mem_append_right _ (List.mem_append_right _ (List.mem_append_right _ (List.mem_of_getElem? (i := 132) (show tables_1_6[132]? = some (am_w0 190) from rfl)))))))
set_option maxRecDepth 20000 in
theorem am_w_191 : am_w0 191 ∈ lw_tbl := List.mem_append_right _ (List.mem_append_right _ (List.mem_append_right _ (List.mem_append_right _ (List.mem_append_right _ (List.mem_append_right _ (List.mem_of_getElem? (i := 136) (show tables_1_6[136]? = some (am_w0 191) from rfl)))))))
set_option maxRecDepth 20000 in
theorem am_w_192 : am_w0 192 ∈ lw_tbl := List.mem_append_right _ (List.mem_append_right _ (List.mem_append_right _ (List.mem_append_right _ (List.mem_append_right _ (List.mem_append_right _ (List.mem_of_getElem? (i := 140) (show tables_1_6[140]? = some (am_w0 192) from rfl)))))))
set_option maxRecDepth 20000 in
theorem am_w_193 : am_w0 193 ∈ lw_tbl := List.mem_append_right _ (List.mem_append_right _ (List.mem_append_right _ (List.mem_append_right _ (List.mem_append_right _ (List.mem_append_right _ (List.mem_of_getElem? (i := 144) (show tables_1_6[144]? = some (am_w0 193) from rfl)))))))
set_option maxRecDepth 20000 in
theorem am_w_194 : am_w0 194 ∈ lw_tbl := List.mem_append_right _ (List.mem_append_right _ (List.mem_append_right _ (List.mem_append_right _ (List.mem_append_right _ (List.mem_append_right _ (List.mem_of_getElem? (i := 148) (show tables_1_6[148]? = some (am_w0 194) from rfl)))))))
set_option maxRecDepth 20000 in
theorem am_w_195 : am_w0 195 ∈ lw_tbl := List.mem_append_right _ (List.mem_append_right _ (List.mem_append_left _ (List.mem_of_getElem? (i := 21) (show tables_1_2[21]? = some (am_w0 195) from rfl))))
set_option maxRecDepth 20000 in
theorem am_w_196 : am_w0 196 ∈ lw_tbl := List.mem_append_right _ (List.mem_append_right _ (List.mem_append_left _ (List.mem_of_getElem? (i := 127) (show tables_1_2[127]? = some (am_w0 196) from rfl))))
set_option maxRecDepth 20000 in
theorem am_w_197 : am_w0 197 ∈ lw_tbl := List.mem_append_right _ (List.mem_append_right _ (List.mem_append_right _ (List.mem_append_right _ (List.mem_append_left _ (List.mem_of_getElem? (i := 156) (show tables_1_4[156]? = some (am_w0 197) from rfl))))))
set_option maxRecDepth 20000 in
theorem am_w_198 : am_w0 198 ∈ lw_tbl := List.mem_append_right _ (List.mem_append_right _ (List.mem_append_right _ (List.mem_append_right _ (List.mem_append_left _ (List.mem_of_getElem? (i := 186) (show tables_1_4[186]? = some (am_w0 198) from rfl))))))
set_option maxRecDepth 20000 in
theorem am_w_199 : am_w0 199 ∈ lw_tbl := List.mem_append_right _ (List.mem_append_right _ (List.mem_append_right _ (List.mem_append_right _ (List.mem_append_left _ (List.mem_of_getElem? (i := 201) (show tables_1_4[201]? = some (am_w0 199) from rfl))))))
theorem am_wg0 : ∀ M, 0 ≤ M → M < 20 → am_w0 M ∈ lw_tbl := am_ic am_w_0 (am_ic am_w_1 (am_ic am_w_2 (am_ic am_w_3 (am_ic am_w_4 (am_ic am_w_5 (am_ic am_w_6 (am_ic am_w_7 (am_ic am_w_8 (am_ic am_w_9 (am_ic am_w_10 (am_ic am_w_11 (am_ic am_w_12 (am_ic am_w_13 (am_ic am_w_14 (am_ic am_w_15 (am_ic am_w_16 (am_ic am_w_17 (am_ic am_w_18 (am_ic am_w_19 am_in)))))))))))))))))))
theorem am_wg20 : ∀ M, 20 ≤ M → M < 40 → am_w0 M ∈ lw_tbl := am_ic am_w_20 (am_ic am_w_21 (am_ic am_w_22 (am_ic am_w_23 (am_ic am_w_24 (am_ic am_w_25 (am_ic am_w_26 (am_ic am_w_27 (am_ic am_w_28 (am_ic am_w_29 (am_ic am_w_30 (am_ic am_w_31 (am_ic am_w_32 (am_ic am_w_33 (am_ic am_w_34 (am_ic am_w_35 (am_ic am_w_36 (am_ic am_w_37 (am_ic am_w_38 (am_ic am_w_39 am_in)))))))))))))))))))
theorem am_wg40 : ∀ M, 40 ≤ M → M < 60 → am_w0 M ∈ lw_tbl := am_ic am_w_40 (am_ic am_w_41 (am_ic am_w_42 (am_ic am_w_43 (am_ic am_w_44 (am_ic am_w_45 (am_ic am_w_46 (am_ic am_w_47 (am_ic am_w_48 (am_ic am_w_49 (am_ic am_w_50 (am_ic am_w_51 (am_ic am_w_52 (am_ic am_w_53 (am_ic am_w_54 (am_ic am_w_55 (am_ic am_w_56 (am_ic am_w_57 (am_ic am_w_58 (am_ic am_w_59 am_in)))))))))))))))))))
theorem am_wg60 : ∀ M, 60 ≤ M → M < 80 → am_w0 M ∈ lw_tbl := am_ic am_w_60 (am_ic am_w_61 (am_ic am_w_62 (am_ic am_w_63 (am_ic am_w_64 (am_ic am_w_65 (am_ic am_w_66 (am_ic am_w_67 (am_ic am_w_68 (am_ic am_w_69 (am_ic am_w_70 (am_ic am_w_71 (am_ic am_w_72 (am_ic am_w_73 (am_ic am_w_74 (am_ic am_w_75 (am_ic am_w_76 (am_ic am_w_77 (am_ic am_w_78 (am_ic am_w_79 am_in)))))))))))))))))))
theorem am_wg80 : ∀ M, 80 ≤ M → M < 100 → am_w0 M ∈ lw_tbl := am_ic am_w_80 (am_ic am_w_81 (am_ic am_w_82 (am_ic am_w_83 (am_ic am_w_84 (am_ic am_w_85 (am_ic am_w_86 (am_ic am_w_87 (am_ic am_w_88 (am_ic am_w_89 (am_ic am_w_90 (am_ic am_w_91 (am_ic am_w_92 (am_ic am_w_93 (am_ic am_w_94 (am_ic am_w_95 (am_ic am_w_96 (am_ic am_w_97 (am_ic am_w_98 (am_ic am_w_99 am_in)))))))))))))))))))
theorem am_wg100 : ∀ M, 100 ≤ M → M < 120 → am_w0 M ∈ lw_tbl := am_ic am_w_100 (am_ic am_w_101 (am_ic am_w_102 (am_ic am_w_103 (am_ic am_w_104 (am_ic am_w_105 (am_ic am_w_106 (am_ic am_w_107 (am_ic am_w_108 (am_ic am_w_109 (am_ic am_w_110 (am_ic am_w_111 (am_ic am_w_112 (am_ic am_w_113 (am_ic am_w_114 (am_ic am_w_115 (am_ic am_w_116 (am_ic am_w_117 (am_ic am_w_118 (am_ic am_w_119 am_in)))))))))))))))))))
theorem am_wg120 : ∀ M, 120 ≤ M → M < 140 → am_w0 M ∈ lw_tbl := am_ic am_w_120 (am_ic am_w_121 (am_ic am_w_122 (am_ic am_w_123 (am_ic am_w_124 (am_ic am_w_125 (am_ic am_w_126 (am_ic am_w_127 (am_ic am_w_128 (am_ic am_w_129 (am_ic am_w_130 (am_ic am_w_131 (am_ic am_w_132 (am_ic am_w_133 (am_ic am_w_134 (am_ic am_w_135 (am_ic am_w_136 (am_ic am_w_137 (am_ic am_w_138 (am_ic am_w_139 am_in)))))))))))))))))))
theorem am_wg140 : ∀ M, 140 ≤ M → M < 160 → am_w0 M ∈ lw_tbl := am_ic am_w_140 (am_ic am_w_141 (am_ic am_w_142 (am_ic am_w_143 (am_ic am_w_144 (am_ic am_w_145 (am_ic am_w_146 (am_ic am_w_147 (am_ic am_w_148 (am_ic am_w_149 (am_ic am_w_150 (am_ic am_w_151 (am_ic am_w_152 (am_ic am_w_153 (am_ic am_w_154 (am_ic am_w_155 (am_ic am_w_156 (am_ic am_w_157 (am_ic am_w_158 (am_ic am_w_159 am_in)))))))))))))))))))
theorem am_wg160 : ∀ M, 160 ≤ M → M < 180 → am_w0 M ∈ lw_tbl := am_ic am_w_160 (am_ic am_w_161 (am_ic am_w_162 (am_ic am_w_163 (am_ic am_w_164 (am_ic am_w_165 (am_ic am_w_166 (am_ic am_w_167 (am_ic am_w_168 (am_ic am_w_169 (am_ic am_w_170 (am_ic am_w_171 (am_ic am_w_172 (am_ic am_w_173 (am_ic am_w_174 (am_ic am_w_175 (am_ic am_w_176 (am_ic am_w_177 (am_ic am_w_178 (am_ic am_w_179 am_in)))))))))))))))))))
theorem am_wg180 : ∀ M, 180 ≤ M → M < 200 → am_w0 M ∈ lw_tbl := am_ic am_w_180 (am_ic am_w_181 (am_ic am_w_182 (am_ic am_w_183 (am_ic am_w_184 (am_ic am_w_185 (am_ic am_w_186 (am_ic am_w_187 (am_ic am_w_188 (am_ic am_w_189 (am_ic am_w_190 (am_ic am_w_191 (am_ic am_w_192 (am_ic am_w_193 (am_ic am_w_194 (am_ic am_w_195 (am_ic am_w_196 (am_ic am_w_197 (am_ic am_w_198 (am_ic am_w_199 am_in)))))))))))))))))))
theorem am_wm (M : Nat) (h : M < 200) : am_w0 M ∈ lw_tbl := by
  rcases Nat.lt_or_ge M 20 with q | q
  · exact am_wg0 M (by omega) q
  rcases Nat.lt_or_ge M 40 with q | q
  · exact am_wg20 M (by omega) q
  rcases Nat.lt_or_ge M 60 with q | q
  · exact am_wg40 M (by omega) q
  rcases Nat.lt_or_ge M 80 with q | q
  · exact am_wg60 M (by omega) q
  rcases Nat.lt_or_ge M 100 with q | q
  · exact am_wg80 M (by omega) q
  rcases Nat.lt_or_ge M 120 with q | q
  · exact am_wg100 M (by omega) q
  rcases Nat.lt_or_ge M 140 with q | q
  · exact am_wg120 M (by omega) q
  rcases Nat.lt_or_ge M 160 with q | q
  · exact am_wg140 M (by omega) q
  rcases Nat.lt_or_ge M 180 with q | q
  · exact am_wg160 M (by omega) q
  exact am_wg180 M q h
end
section
/-- exceptions' constructors by own class: entry, exception -/
def am_sx : List (List (Nat × Nat)) := [[], [], [(22, 101)], [], [], [], [], [], [(68, 100), (89, 101), (108, 102), (122, 103)], [], [], [], [], []]
/-! THE ABSTRACT MACHINE: cells by their places from a base on; one instruction a step; a run up to a branch, a call, an end -/
/-- a cell: an object (class, references), an array (type, length), or what nobody looks at any more -/
abbrev aK : Type := (Nat × List Value) ⊕ (ArrayType × Nat) ⊕ Unit
/-- the cells' shapes; the ints of objects and of arrays; the longs of arrays; the script -/
abbrev aH : Type := List aK × (Nat → Nat → Int32) × (Nat → Nat → Int32) × (Nat → Nat → Int64) × (Nat × (Nat → Int32))
abbrev aS : Type := Nat × List (Nat × Value) × List Value × aH
/-- returned, or threw (exception class, place of the object) -/
abbrev aO : Type := Option Value ⊕ (Nat × Nat)
/-- goes on | goes on if | branches | switches | calls | ends | makes a cell | throws a new exception -/
abbrev aR : Type := Option (aS ⊕ (Prop × aS) ⊕ (Prop × aS × aS) ⊕ (List (Prop × aS) × aS) ⊕ (Nat × List Value × aS) ⊕ (Prop × aO × aH) ⊕ (Prop × Nat × aS) ⊕ (Nat × Nat × aH))
def am_u {α : Type} (f : Nat → Nat → α) (a k : Nat) (v : α) : Nat → Nat → α := fun x y => if x = a ∧ y = k then v else f x y
/-- a row of zeros -/
def am_z {α : Type} (f : Nat → Nat → α) (a : Nat) (v : α) : Nat → Nat → α := fun x y => if x = a then v else f x y
abbrev am_nx (s : aS) : aR := some (.inl s)
abbrev am_nd (P : Prop) (s : aS) : aR := some (.inr (.inl (P, s)))
abbrev am_br (P : Prop) (s t : aS) : aR := some (.inr (.inr (.inl (P, s, t))))
abbrev am_sw (l : List (Prop × aS)) (s : aS) : aR := some (.inr (.inr (.inr (.inl (l, s)))))
abbrev am_ca (M : Nat) (as : List Value) (s : aS) : aR := some (.inr (.inr (.inr (.inr (.inl (M, as, s))))))
abbrev am_rt (P : Prop) (o : aO) (h : aH) : aR := some (.inr (.inr (.inr (.inr (.inr (.inl (P, o, h)))))))
abbrev am_al (P : Prop) (n : Nat) (s : aS) : aR := some (.inr (.inr (.inr (.inr (.inr (.inr (.inl (P, n, s))))))))
abbrev am_th (X k : Nat) (h : aH) : aR := some (.inr (.inr (.inr (.inr (.inr (.inr (.inr (X, k, h))))))))
def am_st1 (i : Nat) (v : Value) (ls : List (Nat × Value)) : List (Nat × Value) := (i, v) :: ls.filter (fun q => !(q.1 == i) && !(q.1 + 1 == i && q.2.category == 2))
def am_st2 (i : Nat) (v : Value) (ls : List (Nat × Value)) : List (Nat × Value) := (i, v) :: ls.filter (fun q => !(q.1 == i) && (!(q.1 == i + 1) && !(q.1 + 1 == i && q.2.category == 2)))
def am_iload (i nx : Nat) (ls : List (Nat × Value)) (st : List Value) (h : aH) : aR := match ls.lookup i with
  | some (.int x) => am_nx (nx, ls, .int x :: st, h)
  | _ => none
def am_lload (i nx : Nat) (ls : List (Nat × Value)) (st : List Value) (h : aH) : aR := match ls.lookup i with
  | some (.long x) => am_nx (nx, ls, .long x :: st, h)
  | _ => none
def am_aload (i nx : Nat) (ls : List (Nat × Value)) (st : List Value) (h : aH) : aR := match ls.lookup i with
  | some (.ref x) => am_nx (nx, ls, .ref x :: st, h)
  | some (.retAddr x) => am_nx (nx, ls, .retAddr x :: st, h)
  | _ => none
def am_istore (i nx ml : Nat) (ls : List (Nat × Value)) (st : List Value) (h : aH) : aR := match Nat.blt i ml, st with
  | true, .int x :: r => am_nx (nx, am_st1 i (.int x) ls, r, h)
  | _, _ => none
def am_lstore (i nx ml : Nat) (ls : List (Nat × Value)) (st : List Value) (h : aH) : aR := match Nat.blt (i + 1) ml, st with
  | true, .long x :: r => am_nx (nx, am_st2 i (.long x) ls, r, h)
  | _, _ => none
def am_astore (i nx ml : Nat) (ls : List (Nat × Value)) (st : List Value) (h : aH) : aR := match Nat.blt i ml, st with
  | true, .ref x :: r => am_nx (nx, am_st1 i (.ref x) ls, r, h)
  | _, _ => none
/-- a branch on two ints -/
def am_brc (c : ClassFile.Cond) (x y : Int32) (s t : aS) : aR := match c with
  | .eq => am_br (x = y) s t
  | .ne => am_br (¬ x = y) s t
  | .lt => am_br (x < y) s t
  | .ge => am_br (y ≤ x) s t
  | .gt => am_br (y < x) s t
  | .le => am_br (x ≤ y) s t
def am_get (own cp nx : Nat) (ls : List (Nat × Value)) (st : List Value) (h : aH) : aR := match st, (am_fr.getD own []).lookup cp, h with
  | .ref a :: r, some (ci, k, _, _), (K, I, A, J, X) => match K[a]? with
    | some (.inl (c', refs)) => match Nat.beq c' ci, am_isr ci k with
      | true, false => am_nx (nx, ls, .int (I a k) :: r, (K, I, A, J, X))
      | true, true => match refs[k]? with
        | some v => am_nx (nx, ls, v :: r, (K, I, A, J, X))
        | none => none
      | _, _ => none
    | _ => none
  | _, _, _ => none
/-- a field of ints, or (in the constructor of its own class) a final reference -/
def am_put (M cp nx : Nat) (ls : List (Nat × Value)) (st : List Value) (h : aH) : aR := match st, (am_fr.getD (am_own M) []).lookup cp, h with
  | .int x :: .ref a :: r, some (ci, k, _, _), (K, I, A, J, X) => match K[a]? with
    | some (.inl (c', _)) => match Nat.beq c' ci, am_ty ci k with
      | true, .int => am_nx (nx, ls, r, (K, am_u I a k x, A, J, X))
      | true, .boolean => am_nd (x = 0 ∨ x = 1) (nx, ls, r, (K, am_u I a k x, A, J, X))
      | _, _ => none
    | _ => none
  | .ref b :: .ref a :: r, some (ci, k, _, false), (K, I, A, J, X) => match K[a]? with
    | some (.inl (c', refs)) => match Nat.beq c' ci && Nat.beq ci (am_own M) && Nat.blt k refs.length && decide ((am_y M).name = "<init>"), am_isr ci k with
      | true, true => am_nx (nx, ls, r, (K.set a (.inl (c', refs.set k (.ref b))), I, A, J, X))
      | _, _ => none
    | _ => none
  | _, _, _ => none
def am_ald (t : ArrayType) (nx : Nat) (ls : List (Nat × Value)) (st : List Value) (h : aH) : aR := match st, h with
  | .int i :: .ref a :: r, (K, I, A, J, X) => match K[a]? with
    | some (.inr (.inl (t', n))) => match t, t' with
      | .int, .int => am_nd (vp_in i n) (nx, ls, .int (A a i.toNatClampNeg) :: r, (K, I, A, J, X))
      | .char, .char => am_nd (vp_in i n) (nx, ls, .int (A a i.toNatClampNeg) :: r, (K, I, A, J, X))
      | .boolean, .boolean => am_nd (vp_in i n) (nx, ls, .int (A a i.toNatClampNeg) :: r, (K, I, A, J, X))
      | .long, .long => am_nd (vp_in i n) (nx, ls, .long (J a i.toNatClampNeg) :: r, (K, I, A, J, X))
      | _, _ => none
    | _ => none
  | .int i :: .retAddr q :: r, (K, I, A, J, X) => match t, X, Nat.beq q 1000 with
    | .int, (L, xs), true => am_nd (vp_in i L) (nx, ls, .int (xs i.toNatClampNeg) :: r, (K, I, A, J, (L, xs)))
    | _, _, _ => none
  | _, _ => none
def am_ast (t : ArrayType) (nx : Nat) (ls : List (Nat × Value)) (st : List Value) (h : aH) : aR := match st, h with
  | .int x :: .int i :: .ref a :: r, (K, I, A, J, X) => match K[a]? with
    | some (.inr (.inl (t', n))) => match t, t' with
      | .int, .int => am_nd (vp_in i n) (nx, ls, r, (K, I, am_u A a i.toNatClampNeg x, J, X))
      | .char, .char => am_nd (vp_in i n) (nx, ls, r, (K, I, am_u A a i.toNatClampNeg (vp_nar .char x), J, X))
      | .boolean, .boolean => am_nd (vp_in i n) (nx, ls, r, (K, I, am_u A a i.toNatClampNeg (vp_nar .boolean x), J, X))
      | _, _ => none
    | _ => none
  | .long x :: .int i :: .ref a :: r, (K, I, A, J, X) => match K[a]? with
    | some (.inr (.inl (t', n))) => match t, t' with
      | .long, .long => am_nd (vp_in i n) (nx, ls, r, (K, I, A, am_u J a i.toNatClampNeg x, X))
      | _, _ => none
    | _ => none
  | _, _ => none
/-- arrays that the program makes -/
def am_at (t : ArrayType) : Bool := match t with
  | .int => true
  | .char => true
  | .long => true
  | .boolean => true
  | _ => false
def am_len (nx : Nat) (ls : List (Nat × Value)) (st : List Value) (h : aH) : aR := match st, h with
  | .ref a :: r, (K, I, A, J, X) => match K[a]? with
    | some (.inr (.inl (t, n))) => match am_at t with
      | true => am_nx (nx, ls, .int (Int32.ofNat n) :: r, (K, I, A, J, X))
      | false => none
    | _ => none
  | .retAddr q :: r, (K, I, A, J, (L, xs)) => match Nat.beq q 1000 with
    | true => am_nx (nx, ls, .int (Int32.ofNat L) :: r, (K, I, A, J, (L, xs)))
    | false => none
  | _, _ => none
def am_new (t : ArrayType) (nx : Nat) (ls : List (Nat × Value)) (st : List Value) (h : aH) : aR := match st, h with
  | .int n :: r, (K, I, A, J, X) => match am_at t with
    | true => am_al (¬ n < 0 ∧ n.toNatClampNeg ≤ 65536) n.toNatClampNeg (nx, ls, .ref K.length :: r, (K ++ [.inr (.inl (t, n.toNatClampNeg))], I, am_z A K.length 0, am_z J K.length 0, X))
    | false => none
  | _, _ => none
/-- a new object; or a new exception, made and thrown right here (new, dup, ldc, invokespecial, athrow) -/
def am_obj (M cp pc nx : Nat) (ls : List (Nat × Value)) (st : List Value) (h : aH) : aR := match (am_kr.getD (am_own M) []).lookup cp, h with
  | some (c, _), (K, I, A, J, X) => match Nat.blt c 100 with
    | true => am_al True (am_tys.getD c []).length (nx, ls, .ref K.length :: st, (K ++ [.inl (c, List.replicate (am_tys.getD c []).length .null)], am_z I K.length 0, A, J, X))
    | false => match (am_co M).lookup (pc + 3), (am_co M).lookup (pc + 4), (am_co M).lookup (pc + 6), (am_co M).lookup (pc + 9) with
      | some (.dup, _), some (.ldc q, _), some (.invokespecial w, _), some (.athrow, _) => match (am_sr.getD (am_own M) []).lookup q, (am_sx.getD (am_own M) []).lookup w, am_hs M with
        | some _, some c', [] => match Nat.beq c' c && Nat.ble ((st.map Value.category).sum) 8 with
          | true => am_th c K.length (K ++ [.inr (.inr ())], I, A, J, X)
          | false => none
        | _, _, _ => none
      | _, _, _, _ => none
  | none, _ => none
/-- the arguments and what lies below them -/
def am_take : Nat → List Value → List Value → Option (List Value × List Value)
  | 0, as, st => some (as, st)
  | n + 1, as, v :: st => am_take n (v :: as) st
  | _ + 1, _, [] => none
def am_kd (M : Nat) : Nat := (am_wi.getD M (0, 0, 0, 0, 3)).2.2.2.2
/-- may this be called so (0 virtual, 1 static, 2 special)? -/
def am_ckc (k M : Nat) (as : List Value) (K : List aK) (r : List Value) : Bool := Nat.ble ((r.map Value.category).sum) 8 && Nat.blt M 200 && Nat.beq k (am_kd M) && (match k, as with
  | 0, .ref a :: _ => match K[a]? with
    | some (.inl (ci, _)) => Nat.beq ci (am_own M)
    | _ => false
  | 0, .retAddr i :: _ => Nat.beq (am_own M) 12 && Nat.blt i 29
  | 1, _ => true
  | 2, .ref _ :: _ => true
  | _, _ => false)
def am_inv (M cp nx k : Nat) (ls : List (Nat × Value)) (st : List Value) (h : aH) : aR := match (am_mr.getD (am_own M) []).lookup cp, h with
  | some (M', _, _), (K, I, A, J, X) => match am_na[M']? with
    | some n => match am_take (match k with | 1 => n | _ => n + 1) [] st with
      | some (as, r) => match am_ckc k M' as K r with
        | true => am_ca M' as (nx, ls, r, (K, I, A, J, X))
        | false => none
      | none => none
    | none => none
  | none, h => match k, (am_or.getD (am_own M) []).lookup cp, st with
    | 2, some _, .ref _ :: r => match Nat.ble ((r.map Value.category).sum) 8 with
      | true => am_nx (nx, ls, r, h)
      | false => none
    | _, _, _ => none
def am_ret (M : Nat) (st : List Value) (h : aH) : aR := match st, am_re M with
  | [.int x], some .int => am_rt True (.inl (some (.int x))) h
  | [.int x], some .boolean => am_rt (x = 0 ∨ x = 1) (.inl (some (.int x))) h
  | [.int x], some .char => am_rt (narrow .char (.int x) = .int x) (.inl (some (.int x))) h
  | _, _ => none
def am_cases (x : Int32) (ls : List (Nat × Value)) (r : List Value) (h : aH) : List Int32 → List Nat → List (Prop × aS)
  | k :: ks, t :: tg => (x = k, (t, ls, r, h)) :: am_cases x ls r h ks tg
  | _, _ => []
/-- one instruction -/
def am_x (M : Nat) (i : Instr) (pc nx : Nat) (tg : List Nat) (imm : Int32) (ks : List Int32) (ls : List (Nat × Value)) (st : List Value) (h : aH) : aR := match i with
  | .iconst _ => am_nx (nx, ls, .int imm :: st, h)
  | .bipush _ => am_nx (nx, ls, .int imm :: st, h)
  | .sipush _ => am_nx (nx, ls, .int imm :: st, h)
  | .lconst 0 => am_nx (nx, ls, .long 0 :: st, h)
  | .lconst 1 => am_nx (nx, ls, .long 1 :: st, h)
  | .ldc cp => match (am_sr.getD (am_own M) []).lookup cp with
    | some k => am_nx (nx, ls, .retAddr k :: st, h)
    | none => none
  | .ldc2_w cp => match (am_lr.getD (am_own M) []).lookup cp with
    | some (v, _) => am_nx (nx, ls, .long v :: st, h)
    | none => none
  | .iload k => am_iload k nx ls st h
  | .iload_n k => am_iload k.val nx ls st h
  | .lload k => am_lload k nx ls st h
  | .lload_n k => am_lload k.val nx ls st h
  | .aload k => am_aload k nx ls st h
  | .aload_n k => am_aload k.val nx ls st h
  | .istore k => am_istore k nx (am_ml M) ls st h
  | .istore_n k => am_istore k.val nx (am_ml M) ls st h
  | .lstore k => am_lstore k nx (am_ml M) ls st h
  | .lstore_n k => am_lstore k.val nx (am_ml M) ls st h
  | .astore k => am_astore k nx (am_ml M) ls st h
  | .astore_n k => am_astore k.val nx (am_ml M) ls st h
  | .iinc k _ => match Nat.blt k (am_ml M), ls.lookup k with
    | true, some (.int x) => am_nx (nx, am_st1 k (.int (x + imm)) ls, st, h)
    | _, _ => none
  | .iadd => match st with
    | .int y :: .int x :: r => am_nx (nx, ls, .int (x + y) :: r, h)
    | _ => none
  | .isub => match st with
    | .int y :: .int x :: r => am_nx (nx, ls, .int (x - y) :: r, h)
    | _ => none
  | .imul => match st with
    | .int y :: .int x :: r => am_nx (nx, ls, .int (x * y) :: r, h)
    | _ => none
  | .idiv => match st with
    | .int y :: .int x :: r => am_nd (¬ y = 0) (nx, ls, .int (x / y) :: r, h)
    | _ => none
  | .iand => match st with
    | .int y :: .int x :: r => am_nx (nx, ls, .int (x &&& y) :: r, h)
    | _ => none
  | .ladd => match st with
    | .long y :: .long x :: r => am_nx (nx, ls, .long (x + y) :: r, h)
    | _ => none
  | .lmul => match st with
    | .long y :: .long x :: r => am_nx (nx, ls, .long (x * y) :: r, h)
    | _ => none
  | .land => match st with
    | .long y :: .long x :: r => am_nx (nx, ls, .long (x &&& y) :: r, h)
    | _ => none
  | .lor => match st with
    | .long y :: .long x :: r => am_nx (nx, ls, .long (x ||| y) :: r, h)
    | _ => none
  | .lushr => match st with
    | .int y :: .long x :: r => am_nx (nx, ls, .long (x.toUInt64 >>> (y.toInt64.toUInt64 &&& Int64.toUInt64 63)).toInt64 :: r, h)
    | _ => none
  | .lshr => match st with
    | .int y :: .long x :: r => am_nx (nx, ls, .long (x >>> (y.toInt64 &&& 63)) :: r, h)
    | _ => none
  | .lshl => match st with
    | .int y :: .long x :: r => am_nx (nx, ls, .long (x <<< (y.toInt64 &&& 63)) :: r, h)
    | _ => none
  | .lcmp => match st with
    | .long y :: .long x :: r => am_nx (nx, ls, .int (lg_cmp x y) :: r, h)
    | _ => none
  | .i2l => match st with
    | .int x :: r => am_nx (nx, ls, .long x.toInt64 :: r, h)
    | _ => none
  | .l2i => match st with
    | .long x :: r => am_nx (nx, ls, .int x.toInt32 :: r, h)
    | _ => none
  | .i2c => match st with
    | .int x :: r => am_nx (nx, ls, .int (x.toUInt32 % 65536).toInt32 :: r, h)
    | _ => none
  | .dup => match st with
    | .int x :: r => am_nx (nx, ls, .int x :: .int x :: r, h)
    | .ref x :: r => am_nx (nx, ls, .ref x :: .ref x :: r, h)
    | _ => none
  | .dup2 => match st with
    | .int x :: .ref y :: r => am_nx (nx, ls, .int x :: .ref y :: .int x :: .ref y :: r, h)
    | _ => none
  | .pop => match st with
    | .int _ :: r => am_nx (nx, ls, r, h)
    | _ => none
  | .goto _ => match tg with
    | t :: _ => am_nx (t, ls, st, h)
    | _ => none
  | .ifCond c _ => match st, tg with
    | .int x :: r, t :: _ => am_brc c x 0 (t, ls, r, h) (nx, ls, r, h)
    | _, _ => none
  | .if_icmp c _ => match st, tg with
    | .int y :: .int x :: r, t :: _ => am_brc c x y (t, ls, r, h) (nx, ls, r, h)
    | _, _ => none
  | .tableswitch .. => match st, tg with
    | .int x :: r, t :: tg => am_sw (am_cases x ls r h ks tg) (t, ls, r, h)
    | _, _ => none
  | .lookupswitch .. => match st, tg with
    | .int x :: r, t :: tg => am_sw (am_cases x ls r h ks tg) (t, ls, r, h)
    | _, _ => none
  | .getfield cp => am_get (am_own M) cp nx ls st h
  | .putfield cp => am_put M cp nx ls st h
  | .iaload => am_ald .int nx ls st h
  | .caload => am_ald .char nx ls st h
  | .baload => am_ald .boolean nx ls st h
  | .laload => am_ald .long nx ls st h
  | .iastore => am_ast .int nx ls st h
  | .castore => am_ast .char nx ls st h
  | .bastore => am_ast .boolean nx ls st h
  | .lastore => am_ast .long nx ls st h
  | .arraylength => am_len nx ls st h
  | .newarray t => am_new t nx ls st h
  | .new cp => am_obj M cp pc nx ls st h
  | .invokevirtual cp => am_inv M cp nx 0 ls st h
  | .invokespecial cp => am_inv M cp nx 2 ls st h
  | .invokestatic cp => am_inv M cp nx 1 ls st h
  | .ireturn => am_ret M st h
  | .return_ => match st, am_re M with
    | [], none => am_rt True (.inl none) h
    | _, _ => none
  | _ => none
def am_step (M : Nat) (s : aS) : aR := match s with
  | (pc, ls, st, h) => match (am_co M).lookup pc with
    | some (i, nx, tg, imm, ks) => am_x M i pc nx tg imm ks ls st h
    | none => none
/-- on and on, up to what isn't a plain step -/
def am_run : Nat → Nat → aS → aR
  | 0, _, s => am_nx s
  | n + 1, M, s => match am_step M s with
    | some (.inl t) => am_run n M t
    | r => r
end
section
/-! THE CONTEXT: what ties the abstract machine's state to the machine's -/
/-- base, the heap at the law's start, the classes' numbers and slots, the arrays' classes, the addresses of texts and script -/
abbrev aE : Type := Nat × Heap × va_G × (ArrayType → ClassId) × (Nat → Nat)
def am_v (E : aE) (v : Value) : Value := match v with
  | .ref k => .ref (E.1 + k)
  | .retAddr i => .ref (E.2.2.2.2 i)
  | v => v
theorem am_v_cat (E : aE) (v : Value) : (am_v E v).category = v.category := by cases v <;> rfl
def am_l (E : aE) (ls : List (Nat × Value)) : List (Nat × Value) := ls.map (fun q => (q.1, am_v E q.2))
def am_fv (E : aE) (I : Nat → Nat → Int32) (k ci : Nat) (refs : List Value) (j : Nat) : Value := if am_isr ci j = true then am_v E (refs.getD j .null) else .int (I k j)
def am_cell (E : aE) (I A : Nat → Nat → Int32) (J : Nat → Nat → Int64) (k : Nat) (q : aK) (H : Heap) : Prop := match q with
  | .inl (ci, refs) => ∃ r : vw_C, am_cl[ci]? = some r ∧ refs.length = r.2.2 ∧ t_OB (E.1 + k) (E.2.2.1.1 ci) r.2.2 (E.2.2.1.2 ci) H (am_fv E I k ci refs)
  | .inr (.inl (.long, n)) => H[E.1 + k]? = some (arrV (E.2.2.2.1 .long) n (fun j => .long (J k j)))
  | .inr (.inl (t, n)) => H[E.1 + k]? = some (arrV (E.2.2.2.1 t) n (fun j => .int (A k j)))
  | .inr (.inr _) => True
def am_R (E : aE) (h : aH) (U : State) (H : Heap) : Prop := match h with
  | (K, I, A, J, L, xs) => H.size = E.1 + K.length ∧ (∀ (k : Nat) (q : aK), K[k]? = some q → am_cell E I A J k q H) ∧ E.2.1.size = E.1 ∧ (∀ q : Nat, q < E.1 → H[q]? = E.2.1[q]?) ∧ (∀ (q : Nat) (cell : Cell), E.1 ≤ q → H[q]? = some cell → cell.vm = .none) ∧ va_X (E.2.2.2.2 1000) L xs U E.2.1
def am_Wd (U : State) : Prop := ∀ w ∈ lw_tbl, am_gw w = true → w.before #[] U = true
theorem am_Wd.warm {s U : State} (hW : s.WarmedH U.vm) (h : am_Wd s) : am_Wd U := by
  intro w hw hg
  have h1 := h w hw hg
  cases w
  case fieldLinkNest a i b n d hh => exact va_Nw.warmF hW h1
  case methodLinkNest a i x hh => exact va_Nw.warmM hW h1
  all_goals exact word_at hW (good_of_word hg) h1
theorem am_Wd.use {s : State} (h : am_Wd s) {i : Nat} {w : Jvm.Cond} (hi : lw_tbl[i]? = some w) (hg : am_gw w = true) (args : Array Value) : w.before args s = true := by
  have h1 := h w (List.mem_of_getElem? hi) hg
  cases w
  case fieldLinkNest a i b n d hh => exact va_Nw.use rfl h1
  case methodLinkNest a i x hh => exact va_Nw.use rfl h1
  all_goals exact word_at (State.WarmedH.refl _) (good_of_word hg) h1
/-- words that stay true for a reason of their own -/
def am_dw (w : Jvm.Cond) : Bool := match w with
  | .declares _ => true
  | .castable .. => true
  | _ => false
def am_Dd (U : State) : Prop := ∀ w ∈ lw_tbl, am_dw w = true → w.before #[] U = true
theorem am_Dd.warm {s U : State} (hW : s.WarmedH U.vm) (h : am_Dd s) : am_Dd U := by
  intro w hw hg
  have h1 := h w hw hg
  cases w
  case declares x => exact va_Nw.warmD hW h1
  case castable a b => exact va_Nw.warmC hW h1
  all_goals cases hg
theorem am_Dd.use {s : State} (h : am_Dd s) {w : Jvm.Cond} (hw : w ∈ lw_tbl) (hg : am_dw w = true) (args : Array Value) : w.before args s = true := by
  have h1 := h w hw hg
  cases w
  case declares x => exact va_Nw.use rfl h1
  case castable a b => exact va_Nw.use rfl h1
  all_goals cases hg
/-- a static of references, as it lies in the heap at the law's start -/
def am_Sta (C n d : String) (U : State) (H : Heap) : Prop := ∃ (c : ClassId) (k : Class) (i : Nat) (f : Field) (a : Nat) (cell : Cell) (v : Value), U.vm.findClass C = some c ∧ U.fieldFound? C n d = some (c, k, i, f) ∧ f.isStatic = true ∧ k.statics = some a ∧ H[a]? = some cell ∧ cell.vm.isStatics = true ∧ cell.cls = c ∧
  f.slot < cell.slots.size ∧ k.staticTypes[f.slot]? = some f.type ∧ cell.slots[f.slot]? = some v ∧ v.isRef = true
theorem am_Sta.moved {C n d : String} {u U : State} {H : Heap} (hvm : u.vm.Alike U.vm) (h : am_Sta C n d u H) : am_Sta C n d U H := by
  obtain ⟨c, k, i, f, a, cell, v, h0, h1, h2, h3, h4, h5, h6, h7, h8, h9⟩ := h
  obtain ⟨k', hi', he⟩ := State.fieldFound?_setVm hvm h1
  exact ⟨c, k', i, f, a, cell, v, by rw [hvm.findClass]; exact h0, hi', h2, by rw [he]; exact h3, h4, h5, h6, h7, by rw [he]; exact h8, h9⟩
theorem am_Sta.lays {C n d : String} {U : State} {H : Heap} {N : Nat} (h : am_Sta C n d U H) (hN : H.size = N) (hH : ∀ q : Nat, q < N → U.heap[q]? = H[q]?) (args : Array Value) : (Jvm.Cond.laysStatic C n d).before args U = true := by
  obtain ⟨c, k, i, f, a, cell, v, h0, h1, h2, h3, h4, h5, h6, h7, h8, h9⟩ := h
  have h4' : U.heap[a]? = some cell := by rw [hH a (by rw [← hN]; exact (Array.getElem?_eq_some_iff.mp h4).1)]; exact h4
  simp [Cond.before, Cond.holds, Cond.value, h0, h1, h2, h3, h4', h5, h6, h7, h8]
theorem am_Sta.ref {C n d : String} {U : State} {H : Heap} {N : Nat} (h : am_Sta C n d U H) (hN : H.size = N) (hH : ∀ q : Nat, q < N → U.heap[q]? = H[q]?) (args : Array Value) : (Jvm.Cond.isRef (.static C n d)).before args U = true := by
  obtain ⟨c, k, i, f, a, cell, v, h0, h1, h2, h3, h4, h5, h6, h7, h8, h9, h10⟩ := h
  have h4' : U.heap[a]? = some cell := by rw [hH a (by rw [← hN]; exact (Array.getElem?_eq_some_iff.mp h4).1)]; exact h4
  have he : (Term.static C n d).eval args U none [] U = some v := by
    simp [Term.eval, State.fieldNamed?, h1, h2, h3, h4', h5, h9]
  cases v <;> simp [Value.isRef] at h10 <;> simp [Cond.before, Cond.holds, Cond.value, he]
/-- the texts: objects, with their bytes (no word says that they lie apart) -/
def am_Str (adK adV : Nat → Nat) (A : Nat → Prop) (U : State) (H : Heap) : Prop := ∀ i : Nat, i < 29 → va_O "java/lang/String" (adK i) A U H ∧ va_OF "java/lang/String" "coder" "B" (.int 0) (adK i) A U H ∧ va_OF "java/lang/String" "value" "[B" (.ref (adV i)) (adK i) A U H ∧ va_T .byte (adV i) (am_sl.getD i 0) (fun j => .int ((am_sb.getD i []).getD j 0)) A U H
theorem am_Str.moved {adK adV : Nat → Nat} {A : Nat → Prop} {u U : State} {H : Heap} (hvm : u.vm.Alike U.vm) (h : am_Str adK adV A u H) : am_Str adK adV A U H :=
  fun i hi => ⟨va_O.moved hvm (h i hi).1, va_OF.moved hvm (h i hi).2.1, va_OF.moved hvm (h i hi).2.2.1, va_T.moved hvm (h i hi).2.2.2⟩
def am_G (E : aE) (U : State) : Prop := am_Wd U ∧ va_K E.2.2.1 am_cl [] U ∧ (∀ t : ArrayType, am_at t = true → ArrOfT U (E.2.2.2.1 t) (newarray.typeOf t) ∧ U.vm.findClass ("[" ++ (newarray.typeOf t).toString) = some (E.2.2.2.1 t)) ∧
  (∀ (i : Nat) (q : String × Nat × String), am_str[i]? = some q → vk_R q.1 q.2.1 q.2.2 (E.2.2.2.2 i) U) ∧
  am_Str E.2.2.2.2 (fun i => E.2.2.2.2 (2000 + i)) (fun q => E.1 ≤ q) U E.2.1 ∧ (va_Z "java/lang/String" "COMPACT_STRINGS" "Z" (.int 1) (fun q => E.1 ≤ q) U E.2.1 ∧ va_Zq "jdk/internal/util/Preconditions" "SIOOBE_FORMATTER" "Ljava/util/function/BiFunction;" (fun q => E.1 ≤ q) U E.2.1) ∧
  am_Sta "java/lang/Throwable" "UNASSIGNED_STACK" "[Ljava/lang/StackTraceElement;" U E.2.1 ∧ am_Sta "java/lang/Throwable" "SUPPRESSED_SENTINEL" "Ljava/util/List;" U E.2.1 ∧ am_Dd U ∧
  (∀ (i j : Nat) (a b : String), i ≠ j → am_ex[i]? = some a → am_ex[j]? = some b → va_Nc a b U)
theorem am_G.warm {E : aE} {s U : State} (hW : s.WarmedH U.vm) (h : am_G E s) : am_G E U := by
  obtain ⟨h1, h2, h3, h4, h5, h6, h7, h8, h9, h10⟩ := h
  exact ⟨h1.warm hW, va_K.moved hW.alike h2, fun t ht => ⟨arrOfT_moved hW.alike (h3 t ht).1, by rw [hW.alike.findClass]; exact (h3 t ht).2⟩, fun i q hq => (h4 i q hq).warm hW, am_Str.moved hW.alike h5, ⟨va_Z.moved hW.alike h6.1, va_Zq.moved hW.alike h6.2⟩, h7.moved hW.alike, h8.moved hW.alike, h9.warm hW, fun i j a b hn ha hb => (h10 i j a b hn ha hb).moved hW.alike⟩
theorem am_R.moved {E : aE} {h : aH} {u U : State} {H : Heap} (hvm : u.vm.Alike U.vm) (hR : am_R E h u H) : am_R E h U H := by
  obtain ⟨K, I, A, J, L, xs⟩ := h
  obtain ⟨h1, h2, h3, h4, h6, h5⟩ := hR
  exact ⟨h1, h2, h3, h4, h6, h5.moved hvm⟩
def am_out (E : aE) (oo : aO) (o : Outcome) (t : State) : Prop := match oo with
  | .inl v => o = .returned (v.map (am_v E))
  | .inr (X, k) => o = .threw (E.1 + k) ∧ ∃ cell : Cell, t.heap[E.1 + k]? = some cell ∧ cell.vm = .none ∧ t.vm.findClass (am_ex.getD (X - 100) "") = some cell.cls
def am_Pc (E : aE) (as : List Value) (h : aH) : Array Value → State → Prop := fun v U => v = (as.map (am_v E)).toArray ∧ am_R E h U U.heap ∧ am_G E U
def am_Qc (E : aE) (Q : aO → aH → Prop) : Array Value → State → Outcome → State → Prop := fun _ _ o t => ∃ (oo : aO) (h : aH), Q oo h ∧ am_R E h t t.heap ∧ am_out E oo o t
abbrev am_room (d B C : Nat) : Room := { frames := d, cells := B, slots := C, locals := 40 * d }
def am_Cx (M d B C : Nat) (p : Program) (l : Launch) (e : Env) (R : Room) (s : State) (m : MethodId) (args : Array Value) (below : List Frame) (meth : Method) (c : Code) (E : aE) : Prop :=
  p.tables.exec = Jvm.exec ∧ c.code = am_by M ∧ c.maxLocals = am_ml M ∧ meth.sig.returnType = am_re M ∧ meth.locks = false ∧ meth.name = (am_y M).name ∧ s.vm.findClass (am_nm.getD (am_own M) "") = some m.cls ∧ am_G E s ∧
  e.platform.stackTraces = false ∧ c.exceptionTable.toList.map (fun h => (h.startPc, h.endPc, h.handlerPc, h.catchType)) = am_hs M ∧ R = am_room d B C ∧ E.1 ≤ s.heap.size ∧ (∀ (q : Nat) (cell : Cell), E.1 ≤ q → s.heap[q]? = some cell → cell.vm = .none) ∧ (∀ q : Nat, q < E.1 → s.heap[q]? = E.2.1[q]?) ∧ E.2.1.size = E.1 ∧ l.flags = pinnedFlags ++ [noTraceFlag]
/-- FROM HERE the method comes to an end that Q allows: d frames are left, of B cells and C slots u and c are used -/
def am_Tri (M d B C u c : Nat) (st : aS) (Q : aO → aH → Prop) : Prop := match st with
  | (pc, ls, sk, h) => ∀ (p : Program) (l : Launch) (e : Env) (R : Room) (s : State) (m : MethodId) (args : Array Value) (below : List Frame) (meth : Method) (cd : Code) (E : aE), am_Cx M d B C p l e R s m args below meth cd E →
    ∀ (H : Heap) (locs : List Loc) (la : Array Slot), am_R E h s H → lv_has la (am_ml M) (am_l E ls) → (∀ q ∈ locs, E.1 ≤ q.base) →
      W p l e R s m args below meth cd H locs u c (xm_MQ below (am_Qc E Q) args s B C (fun q => E.1 ≤ q)) (F0 m pc la (sk.map (am_v E)))
/-- the contract of a method: from the heap h with these arguments it comes to (o, h') -/
def am_Con (d M : Nat) (as : List Value) (h : aH) (o : aO) (h' : aH) (B C : Nat) : Prop :=
  ∀ (l : Launch) (E : aE), l.flags = pinnedFlags ++ [noTraceFlag] → xm_Met l (am_y M) (am_w0 M) (am_room d B C) (am_Pc E as h) (am_Qc E (fun oo hh => oo = o ∧ hh = h')) B C (fun q => E.1 ≤ q)
end
section
/-! SOUND: each plain instruction -/
theorem am_lh {E : aE} {la : Array Slot} {n : Nat} {ls : List (Nat × Value)} {i : Nat} {v : Value} (hl : lv_has la n (am_l E ls)) (h : ls.lookup i = some v) : la[i]? = some (.val (am_v E v)) :=
  hl.2.2 (i, am_v E v) (List.mem_map.mpr ⟨(i, v), am_lk h, rfl⟩)
theorem am_lp {E : aE} {ls : List (Nat × Value)} {i : Nat} {v : Value} (h : ls.lookup i = some v) : ∃ k : Nat, (am_l E ls)[k]? = some (i, am_v E v) :=
  List.getElem?_of_mem (List.mem_map.mpr ⟨(i, v), am_lk h, rfl⟩)
theorem am_l1 (E : aE) (i : Nat) (v : Value) (ls : List (Nat × Value)) : (i, am_v E v) :: (am_l E ls).filter (fun q => !(q.1 == i) && !(q.1 + 1 == i && q.2.category == 2)) = am_l E (am_st1 i v ls) := by
  simp only [am_l, am_st1, List.map_cons, List.filter_map]
  congr 2
  apply List.filter_congr
  intro q _
  simp [Function.comp, am_v_cat]
theorem am_l2 (E : aE) (i : Nat) (v : Value) (ls : List (Nat × Value)) : (i, am_v E v) :: (am_l E ls).filter (fun q => !(q.1 == i) && (!(q.1 == i + 1) && !(q.1 + 1 == i && q.2.category == 2))) = am_l E (am_st2 i v ls) := by
  simp only [am_l, am_st2, List.map_cons, List.filter_map]
  congr 2
  apply List.filter_congr
  intro q _
  simp [Function.comp, am_v_cat]
section SND
variable {M d B C u c : Nat} {Q : aO → aH → Prop} {pc : Nat} {ls : List (Nat × Value)} {r : List Value} {h : aH} {x y : Int32} {X Y : Int64} {n : Nat}
theorem am_i_iconst {i : Int} (hv : Int32.ofInt i = x) (hd : decode (am_by M) pc = .ok (.iconst i, 1)) (k : am_Tri M d B C u c (pc + 1, ls, .int x :: r, h) Q) : am_Tri M d B C u c (pc, ls, r, h) Q := by
  intro p l e R s m args below meth cd E cx H locs la hR hl hlo
  exact lv_iconst cx.1 cx.2.1 hd hv (k p l e R s m args below meth cd E cx H locs la hR hl hlo)
theorem am_i_bipush {i : Int} (hv : (Int8.ofInt i).toInt32 = x) (hd : decode (am_by M) pc = .ok (.bipush i, 2)) (k : am_Tri M d B C u c (pc + 2, ls, .int x :: r, h) Q) : am_Tri M d B C u c (pc, ls, r, h) Q := by
  intro p l e R s m args below meth cd E cx H locs la hR hl hlo
  exact lv_bipush cx.1 cx.2.1 hd hv (k p l e R s m args below meth cd E cx H locs la hR hl hlo)
theorem am_i_sipush {i : Int} (hv : (Int16.ofInt i).toInt32 = x) (hd : decode (am_by M) pc = .ok (.sipush i, 3)) (k : am_Tri M d B C u c (pc + 3, ls, .int x :: r, h) Q) : am_Tri M d B C u c (pc, ls, r, h) Q := by
  intro p l e R s m args below meth cd E cx H locs la hR hl hlo
  exact lv_sipush cx.1 cx.2.1 hd hv (k p l e R s m args below meth cd E cx H locs la hR hl hlo)
theorem am_i_lconst {i : Fin 2} (hv : Int64.ofNat (i : Nat) = X) (hd : decode (am_by M) pc = .ok (.lconst i, 1)) (k : am_Tri M d B C u c (pc + 1, ls, .long X :: r, h) Q) : am_Tri M d B C u c (pc, ls, r, h) Q := by
  intro p l e R s m args below meth cd E cx H locs la hR hl hlo
  exact lv_lconst cx.1 cx.2.1 hd hv (k p l e R s m args below meth cd E cx H locs la hR hl hlo)
theorem am_i_iadd (hd : decode (am_by M) pc = .ok (.iadd, 1)) (k : am_Tri M d B C u c (pc + 1, ls, .int (x + y) :: r, h) Q) : am_Tri M d B C u c (pc, ls, .int y :: .int x :: r, h) Q := by
  intro p l e R s m args below meth cd E cx H locs la hR hl hlo
  exact lv_iadd cx.1 cx.2.1 hd (k p l e R s m args below meth cd E cx H locs la hR hl hlo)
theorem am_i_isub (hd : decode (am_by M) pc = .ok (.isub, 1)) (k : am_Tri M d B C u c (pc + 1, ls, .int (x - y) :: r, h) Q) : am_Tri M d B C u c (pc, ls, .int y :: .int x :: r, h) Q := by
  intro p l e R s m args below meth cd E cx H locs la hR hl hlo
  exact lv_isub cx.1 cx.2.1 hd (k p l e R s m args below meth cd E cx H locs la hR hl hlo)
theorem am_i_imul (hd : decode (am_by M) pc = .ok (.imul, 1)) (k : am_Tri M d B C u c (pc + 1, ls, .int (x * y) :: r, h) Q) : am_Tri M d B C u c (pc, ls, .int y :: .int x :: r, h) Q := by
  intro p l e R s m args below meth cd E cx H locs la hR hl hlo
  exact lv_imul cx.1 cx.2.1 hd (k p l e R s m args below meth cd E cx H locs la hR hl hlo)
theorem am_i_iand (hd : decode (am_by M) pc = .ok (.iand, 1)) (k : am_Tri M d B C u c (pc + 1, ls, .int (x &&& y) :: r, h) Q) : am_Tri M d B C u c (pc, ls, .int y :: .int x :: r, h) Q := by
  intro p l e R s m args below meth cd E cx H locs la hR hl hlo
  exact lv_iand cx.1 cx.2.1 hd (k p l e R s m args below meth cd E cx H locs la hR hl hlo)
theorem am_i_idiv (hne : ¬ y = 0) (hd : decode (am_by M) pc = .ok (.idiv, 1)) (k : am_Tri M d B C u c (pc + 1, ls, .int (x / y) :: r, h) Q) : am_Tri M d B C u c (pc, ls, .int y :: .int x :: r, h) Q := by
  intro p l e R s m args below meth cd E cx H locs la hR hl hlo
  exact lv_idiv cx.1 cx.2.1 hd hne (k p l e R s m args below meth cd E cx H locs la hR hl hlo)
theorem am_i_ladd (hd : decode (am_by M) pc = .ok (.ladd, 1)) (k : am_Tri M d B C u c (pc + 1, ls, .long (X + Y) :: r, h) Q) : am_Tri M d B C u c (pc, ls, .long Y :: .long X :: r, h) Q := by
  intro p l e R s m args below meth cd E cx H locs la hR hl hlo
  exact lv_ladd cx.1 cx.2.1 hd (k p l e R s m args below meth cd E cx H locs la hR hl hlo)
theorem am_i_lmul (hd : decode (am_by M) pc = .ok (.lmul, 1)) (k : am_Tri M d B C u c (pc + 1, ls, .long (X * Y) :: r, h) Q) : am_Tri M d B C u c (pc, ls, .long Y :: .long X :: r, h) Q := by
  intro p l e R s m args below meth cd E cx H locs la hR hl hlo
  exact lv_lmul cx.1 cx.2.1 hd (k p l e R s m args below meth cd E cx H locs la hR hl hlo)
theorem am_i_land (hd : decode (am_by M) pc = .ok (.land, 1)) (k : am_Tri M d B C u c (pc + 1, ls, .long (X &&& Y) :: r, h) Q) : am_Tri M d B C u c (pc, ls, .long Y :: .long X :: r, h) Q := by
  intro p l e R s m args below meth cd E cx H locs la hR hl hlo
  exact lv_land cx.1 cx.2.1 hd (k p l e R s m args below meth cd E cx H locs la hR hl hlo)
theorem am_i_lor (hd : decode (am_by M) pc = .ok (.lor, 1)) (k : am_Tri M d B C u c (pc + 1, ls, .long (X ||| Y) :: r, h) Q) : am_Tri M d B C u c (pc, ls, .long Y :: .long X :: r, h) Q := by
  intro p l e R s m args below meth cd E cx H locs la hR hl hlo
  exact lv_lor cx.1 cx.2.1 hd (k p l e R s m args below meth cd E cx H locs la hR hl hlo)
theorem am_i_lushr (hd : decode (am_by M) pc = .ok (.lushr, 1)) (k : am_Tri M d B C u c (pc + 1, ls, .long (X.toUInt64 >>> (y.toInt64.toUInt64 &&& Int64.toUInt64 63)).toInt64 :: r, h) Q) : am_Tri M d B C u c (pc, ls, .int y :: .long X :: r, h) Q := by
  intro p l e R s m args below meth cd E cx H locs la hR hl hlo
  exact lv_lushr cx.1 cx.2.1 hd rfl (k p l e R s m args below meth cd E cx H locs la hR hl hlo)
theorem am_i_lshr (hd : decode (am_by M) pc = .ok (.lshr, 1)) (k : am_Tri M d B C u c (pc + 1, ls, .long (X >>> (y.toInt64 &&& 63)) :: r, h) Q) : am_Tri M d B C u c (pc, ls, .int y :: .long X :: r, h) Q := by
  intro p l e R s m args below meth cd E cx H locs la hR hl hlo
  exact lv_lshr cx.1 cx.2.1 hd rfl (k p l e R s m args below meth cd E cx H locs la hR hl hlo)
theorem am_i_lshl (hd : decode (am_by M) pc = .ok (.lshl, 1)) (k : am_Tri M d B C u c (pc + 1, ls, .long (X <<< (y.toInt64 &&& 63)) :: r, h) Q) : am_Tri M d B C u c (pc, ls, .int y :: .long X :: r, h) Q := by
  intro p l e R s m args below meth cd E cx H locs la hR hl hlo
  exact lv_lshl cx.1 cx.2.1 hd rfl (k p l e R s m args below meth cd E cx H locs la hR hl hlo)
theorem am_i_lcmp (hd : decode (am_by M) pc = .ok (.lcmp, 1)) (k : am_Tri M d B C u c (pc + 1, ls, .int (lg_cmp X Y) :: r, h) Q) : am_Tri M d B C u c (pc, ls, .long Y :: .long X :: r, h) Q := by
  intro p l e R s m args below meth cd E cx H locs la hR hl hlo
  exact W.lcmp cx.1 cx.2.1 hd (k p l e R s m args below meth cd E cx H locs la hR hl hlo)
theorem am_i_i2l (hd : decode (am_by M) pc = .ok (.i2l, 1)) (k : am_Tri M d B C u c (pc + 1, ls, .long x.toInt64 :: r, h) Q) : am_Tri M d B C u c (pc, ls, .int x :: r, h) Q := by
  intro p l e R s m args below meth cd E cx H locs la hR hl hlo
  exact lv_i2l cx.1 cx.2.1 hd rfl (k p l e R s m args below meth cd E cx H locs la hR hl hlo)
theorem am_i_l2i (hd : decode (am_by M) pc = .ok (.l2i, 1)) (k : am_Tri M d B C u c (pc + 1, ls, .int X.toInt32 :: r, h) Q) : am_Tri M d B C u c (pc, ls, .long X :: r, h) Q := by
  intro p l e R s m args below meth cd E cx H locs la hR hl hlo
  exact lv_l2i cx.1 cx.2.1 hd rfl (k p l e R s m args below meth cd E cx H locs la hR hl hlo)
theorem am_i_i2c (hd : decode (am_by M) pc = .ok (.i2c, 1)) (k : am_Tri M d B C u c (pc + 1, ls, .int (x.toUInt32 % 65536).toInt32 :: r, h) Q) : am_Tri M d B C u c (pc, ls, .int x :: r, h) Q := by
  intro p l e R s m args below meth cd E cx H locs la hR hl hlo
  exact lv_i2c cx.1 cx.2.1 hd rfl (k p l e R s m args below meth cd E cx H locs la hR hl hlo)
theorem am_i_dupi (hd : decode (am_by M) pc = .ok (.dup, 1)) (k : am_Tri M d B C u c (pc + 1, ls, .int x :: .int x :: r, h) Q) : am_Tri M d B C u c (pc, ls, .int x :: r, h) Q := by
  intro p l e R s m args below meth cd E cx H locs la hR hl hlo
  exact lv_dup cx.1 cx.2.1 hd rfl (k p l e R s m args below meth cd E cx H locs la hR hl hlo)
theorem am_i_dupr (hd : decode (am_by M) pc = .ok (.dup, 1)) (k : am_Tri M d B C u c (pc + 1, ls, .ref n :: .ref n :: r, h) Q) : am_Tri M d B C u c (pc, ls, .ref n :: r, h) Q := by
  intro p l e R s m args below meth cd E cx H locs la hR hl hlo
  exact lv_dup cx.1 cx.2.1 hd rfl (k p l e R s m args below meth cd E cx H locs la hR hl hlo)
theorem am_i_dup2 (hd : decode (am_by M) pc = .ok (.dup2, 1)) (k : am_Tri M d B C u c (pc + 1, ls, .int x :: .ref n :: .int x :: .ref n :: r, h) Q) : am_Tri M d B C u c (pc, ls, .int x :: .ref n :: r, h) Q := by
  intro p l e R s m args below meth cd E cx H locs la hR hl hlo
  exact lv_dup2_11 cx.1 cx.2.1 hd rfl rfl (k p l e R s m args below meth cd E cx H locs la hR hl hlo)
theorem am_i_pop (hd : decode (am_by M) pc = .ok (.pop, 1)) (k : am_Tri M d B C u c (pc + 1, ls, r, h) Q) : am_Tri M d B C u c (pc, ls, .int x :: r, h) Q := by
  intro p l e R s m args below meth cd E cx H locs la hR hl hlo
  exact lv_pop cx.1 cx.2.1 hd rfl (k p l e R s m args below meth cd E cx H locs la hR hl hlo)
theorem am_i_iload {i : Nat} (hi : ls.lookup i = some (.int x)) (hd : decode (am_by M) pc = .ok (.iload i, 2)) (k : am_Tri M d B C u c (pc + 2, ls, .int x :: r, h) Q) : am_Tri M d B C u c (pc, ls, r, h) Q := by
  intro p l e R s m args below meth cd E cx H locs la hR hl hlo
  exact lv_iload cx.1 cx.2.1 hd (am_lh hl hi) (k p l e R s m args below meth cd E cx H locs la hR hl hlo)
theorem am_i_iload_n {i : Fin 4} (hi : ls.lookup i.val = some (.int x)) (hd : decode (am_by M) pc = .ok (.iload_n i, 1)) (k : am_Tri M d B C u c (pc + 1, ls, .int x :: r, h) Q) : am_Tri M d B C u c (pc, ls, r, h) Q := by
  intro p l e R s m args below meth cd E cx H locs la hR hl hlo
  exact lv_iload_n cx.1 cx.2.1 hd rfl (am_lh hl hi) (k p l e R s m args below meth cd E cx H locs la hR hl hlo)
theorem am_i_lload {i : Nat} (hi : ls.lookup i = some (.long X)) (hd : decode (am_by M) pc = .ok (.lload i, 2)) (k : am_Tri M d B C u c (pc + 2, ls, .long X :: r, h) Q) : am_Tri M d B C u c (pc, ls, r, h) Q := by
  intro p l e R s m args below meth cd E cx H locs la hR hl hlo
  exact lv_lload cx.1 cx.2.1 hd (am_lh hl hi) (k p l e R s m args below meth cd E cx H locs la hR hl hlo)
theorem am_i_lload_n {i : Fin 4} (hi : ls.lookup i.val = some (.long X)) (hd : decode (am_by M) pc = .ok (.lload_n i, 1)) (k : am_Tri M d B C u c (pc + 1, ls, .long X :: r, h) Q) : am_Tri M d B C u c (pc, ls, r, h) Q := by
  intro p l e R s m args below meth cd E cx H locs la hR hl hlo
  exact lv_lload_n cx.1 cx.2.1 hd rfl (am_lh hl hi) (k p l e R s m args below meth cd E cx H locs la hR hl hlo)
theorem am_i_aload {i : Nat} (hi : ls.lookup i = some (.ref n)) (hd : decode (am_by M) pc = .ok (.aload i, 2)) (k : am_Tri M d B C u c (pc + 2, ls, .ref n :: r, h) Q) : am_Tri M d B C u c (pc, ls, r, h) Q := by
  intro p l e R s m args below meth cd E cx H locs la hR hl hlo
  exact lv_aload cx.1 cx.2.1 hd (am_lh hl hi) (k p l e R s m args below meth cd E cx H locs la hR hl hlo)
theorem am_i_aload_n {i : Fin 4} (hi : ls.lookup i.val = some (.ref n)) (hd : decode (am_by M) pc = .ok (.aload_n i, 1)) (k : am_Tri M d B C u c (pc + 1, ls, .ref n :: r, h) Q) : am_Tri M d B C u c (pc, ls, r, h) Q := by
  intro p l e R s m args below meth cd E cx H locs la hR hl hlo
  exact lv_aload_n cx.1 cx.2.1 hd rfl (am_lh hl hi) (k p l e R s m args below meth cd E cx H locs la hR hl hlo)
theorem am_i_aloadt {i : Nat} (hi : ls.lookup i = some (.retAddr n)) (hd : decode (am_by M) pc = .ok (.aload i, 2)) (k : am_Tri M d B C u c (pc + 2, ls, .retAddr n :: r, h) Q) : am_Tri M d B C u c (pc, ls, r, h) Q := by
  intro p l e R s m args below meth cd E cx H locs la hR hl hlo
  exact lv_aload cx.1 cx.2.1 hd (am_lh hl hi) (k p l e R s m args below meth cd E cx H locs la hR hl hlo)
theorem am_i_aloadt_n {i : Fin 4} (hi : ls.lookup i.val = some (.retAddr n)) (hd : decode (am_by M) pc = .ok (.aload_n i, 1)) (k : am_Tri M d B C u c (pc + 1, ls, .retAddr n :: r, h) Q) : am_Tri M d B C u c (pc, ls, r, h) Q := by
  intro p l e R s m args below meth cd E cx H locs la hR hl hlo
  exact lv_aload_n cx.1 cx.2.1 hd rfl (am_lh hl hi) (k p l e R s m args below meth cd E cx H locs la hR hl hlo)
theorem am_i_istore {i : Nat} (hi : i < am_ml M) (hd : decode (am_by M) pc = .ok (.istore i, 2)) (k : am_Tri M d B C u c (pc + 2, am_st1 i (.int x) ls, r, h) Q) : am_Tri M d B C u c (pc, ls, .int x :: r, h) Q := by
  intro p l e R s m args below meth cd E cx H locs la hR hl hlo
  exact lv_istore cx.1 cx.2.1 hd hl hi (am_l1 E i (.int x) ls) (fun la hl => k p l e R s m args below meth cd E cx H locs la hR hl hlo)
theorem am_i_istore_n {i : Fin 4} (hi : i.val < am_ml M) (hd : decode (am_by M) pc = .ok (.istore_n i, 1)) (k : am_Tri M d B C u c (pc + 1, am_st1 i.val (.int x) ls, r, h) Q) : am_Tri M d B C u c (pc, ls, .int x :: r, h) Q := by
  intro p l e R s m args below meth cd E cx H locs la hR hl hlo
  exact lv_istore_n cx.1 cx.2.1 hd rfl hl hi (am_l1 E i.val (.int x) ls) (fun la hl => k p l e R s m args below meth cd E cx H locs la hR hl hlo)
theorem am_i_lstore {i : Nat} (hi : i + 1 < am_ml M) (hd : decode (am_by M) pc = .ok (.lstore i, 2)) (k : am_Tri M d B C u c (pc + 2, am_st2 i (.long X) ls, r, h) Q) : am_Tri M d B C u c (pc, ls, .long X :: r, h) Q := by
  intro p l e R s m args below meth cd E cx H locs la hR hl hlo
  exact lv_lstore cx.1 cx.2.1 hd hl hi (am_l2 E i (.long X) ls) (fun la hl => k p l e R s m args below meth cd E cx H locs la hR hl hlo)
theorem am_i_lstore_n {i : Fin 4} (hi : i.val + 1 < am_ml M) (hd : decode (am_by M) pc = .ok (.lstore_n i, 1)) (k : am_Tri M d B C u c (pc + 1, am_st2 i.val (.long X) ls, r, h) Q) : am_Tri M d B C u c (pc, ls, .long X :: r, h) Q := by
  intro p l e R s m args below meth cd E cx H locs la hR hl hlo
  exact lv_lstore_n cx.1 cx.2.1 hd rfl hl hi (am_l2 E i.val (.long X) ls) (fun la hl => k p l e R s m args below meth cd E cx H locs la hR hl hlo)
theorem am_i_astore {i : Nat} (hi : i < am_ml M) (hd : decode (am_by M) pc = .ok (.astore i, 2)) (k : am_Tri M d B C u c (pc + 2, am_st1 i (.ref n) ls, r, h) Q) : am_Tri M d B C u c (pc, ls, .ref n :: r, h) Q := by
  intro p l e R s m args below meth cd E cx H locs la hR hl hlo
  exact lv_astore cx.1 cx.2.1 hd hl hi (am_l1 E i (.ref n) ls) (fun la hl => k p l e R s m args below meth cd E cx H locs la hR hl hlo)
theorem am_i_astore_n {i : Fin 4} (hi : i.val < am_ml M) (hd : decode (am_by M) pc = .ok (.astore_n i, 1)) (k : am_Tri M d B C u c (pc + 1, am_st1 i.val (.ref n) ls, r, h) Q) : am_Tri M d B C u c (pc, ls, .ref n :: r, h) Q := by
  intro p l e R s m args below meth cd E cx H locs la hR hl hlo
  exact lv_astore_n cx.1 cx.2.1 hd rfl hl hi (am_l1 E i.val (.ref n) ls) (fun la hl => k p l e R s m args below meth cd E cx H locs la hR hl hlo)
theorem am_i_iinc {i : Nat} {z : Int} (hv : Int32.ofInt z = y) (hi : ls.lookup i = some (.int x)) (hm : i < am_ml M) (hd : decode (am_by M) pc = .ok (.iinc i z, 3)) (k : am_Tri M d B C u c (pc + 3, am_st1 i (.int (x + y)) ls, r, h) Q) : am_Tri M d B C u c (pc, ls, r, h) Q := by
  intro p l e R s m args below meth cd E cx H locs la hR hl hlo
  obtain ⟨j, hj⟩ := am_lp (E := E) hi
  exact lv_iinc cx.1 cx.2.1 hd hl (k := j) hj (by rw [hv]) hm (am_l1 E i (.int (x + y)) ls) (fun la hl => k p l e R s m args below meth cd E cx H locs la hR hl hlo)
theorem am_i_goto {o : Int} {t : Nat} (ht : (pc : Int) + o = (t : Int)) (hd : decode (am_by M) pc = .ok (.goto o, 3)) (k : am_Tri M d B C u c (t, ls, r, h) Q) : am_Tri M d B C u c (pc, ls, r, h) Q := by
  intro p l e R s m args below meth cd E cx H locs la hR hl hlo
  exact lv_goto cx.1 cx.2.1 hd ht (k p l e R s m args below meth cd E cx H locs la hR hl hlo)
theorem am_i_icmp_eq {o : Int} {t : Nat} (ht : (pc : Int) + o = (t : Int)) (hd : decode (am_by M) pc = .ok (.if_icmp .eq o, 3)) (kt : x = y → am_Tri M d B C u c (t, ls, r, h) Q) (kf : ¬ (x = y) → am_Tri M d B C u c (pc + 3, ls, r, h) Q) : am_Tri M d B C u c (pc, ls, .int y :: .int x :: r, h) Q := by
  intro p l e R s m args below meth cd E cx H locs la hR hl hlo
  exact lv_icmp_eq cx.1 cx.2.1 hd ht (fun z => kt z p l e R s m args below meth cd E cx H locs la hR hl hlo) (fun z => kf z p l e R s m args below meth cd E cx H locs la hR hl hlo)
theorem am_i_if_eq {o : Int} {t : Nat} (ht : (pc : Int) + o = (t : Int)) (hd : decode (am_by M) pc = .ok (.ifCond .eq o, 3)) (kt : x = 0 → am_Tri M d B C u c (t, ls, r, h) Q) (kf : ¬ (x = 0) → am_Tri M d B C u c (pc + 3, ls, r, h) Q) : am_Tri M d B C u c (pc, ls, .int x :: r, h) Q := by
  intro p l e R s m args below meth cd E cx H locs la hR hl hlo
  exact lv_if_eq cx.1 cx.2.1 hd ht (fun z => kt z p l e R s m args below meth cd E cx H locs la hR hl hlo) (fun z => kf z p l e R s m args below meth cd E cx H locs la hR hl hlo)
theorem am_i_icmp_ne {o : Int} {t : Nat} (ht : (pc : Int) + o = (t : Int)) (hd : decode (am_by M) pc = .ok (.if_icmp .ne o, 3)) (kt : ¬ x = y → am_Tri M d B C u c (t, ls, r, h) Q) (kf : ¬ (¬ x = y) → am_Tri M d B C u c (pc + 3, ls, r, h) Q) : am_Tri M d B C u c (pc, ls, .int y :: .int x :: r, h) Q := by
  intro p l e R s m args below meth cd E cx H locs la hR hl hlo
  exact lv_icmp_ne cx.1 cx.2.1 hd ht (fun z => kt z p l e R s m args below meth cd E cx H locs la hR hl hlo) (fun z => kf (fun q => q z) p l e R s m args below meth cd E cx H locs la hR hl hlo)
theorem am_i_if_ne {o : Int} {t : Nat} (ht : (pc : Int) + o = (t : Int)) (hd : decode (am_by M) pc = .ok (.ifCond .ne o, 3)) (kt : ¬ x = 0 → am_Tri M d B C u c (t, ls, r, h) Q) (kf : ¬ (¬ x = 0) → am_Tri M d B C u c (pc + 3, ls, r, h) Q) : am_Tri M d B C u c (pc, ls, .int x :: r, h) Q := by
  intro p l e R s m args below meth cd E cx H locs la hR hl hlo
  exact lv_if_ne cx.1 cx.2.1 hd ht (fun z => kt z p l e R s m args below meth cd E cx H locs la hR hl hlo) (fun z => kf (fun q => q z) p l e R s m args below meth cd E cx H locs la hR hl hlo)
theorem am_i_icmp_lt {o : Int} {t : Nat} (ht : (pc : Int) + o = (t : Int)) (hd : decode (am_by M) pc = .ok (.if_icmp .lt o, 3)) (kt : x < y → am_Tri M d B C u c (t, ls, r, h) Q) (kf : ¬ (x < y) → am_Tri M d B C u c (pc + 3, ls, r, h) Q) : am_Tri M d B C u c (pc, ls, .int y :: .int x :: r, h) Q := by
  intro p l e R s m args below meth cd E cx H locs la hR hl hlo
  exact lv_icmp_lt cx.1 cx.2.1 hd ht (fun z => kt z p l e R s m args below meth cd E cx H locs la hR hl hlo) (fun z => kf z p l e R s m args below meth cd E cx H locs la hR hl hlo)
theorem am_i_if_lt {o : Int} {t : Nat} (ht : (pc : Int) + o = (t : Int)) (hd : decode (am_by M) pc = .ok (.ifCond .lt o, 3)) (kt : x < 0 → am_Tri M d B C u c (t, ls, r, h) Q) (kf : ¬ (x < 0) → am_Tri M d B C u c (pc + 3, ls, r, h) Q) : am_Tri M d B C u c (pc, ls, .int x :: r, h) Q := by
  intro p l e R s m args below meth cd E cx H locs la hR hl hlo
  exact lv_if_lt cx.1 cx.2.1 hd ht (fun z => kt z p l e R s m args below meth cd E cx H locs la hR hl hlo) (fun z => kf z p l e R s m args below meth cd E cx H locs la hR hl hlo)
theorem am_i_icmp_ge {o : Int} {t : Nat} (ht : (pc : Int) + o = (t : Int)) (hd : decode (am_by M) pc = .ok (.if_icmp .ge o, 3)) (kt : y ≤ x → am_Tri M d B C u c (t, ls, r, h) Q) (kf : ¬ (y ≤ x) → am_Tri M d B C u c (pc + 3, ls, r, h) Q) : am_Tri M d B C u c (pc, ls, .int y :: .int x :: r, h) Q := by
  intro p l e R s m args below meth cd E cx H locs la hR hl hlo
  exact lv_icmp_ge cx.1 cx.2.1 hd ht (fun z => kt z p l e R s m args below meth cd E cx H locs la hR hl hlo) (fun z => kf z p l e R s m args below meth cd E cx H locs la hR hl hlo)
theorem am_i_if_ge {o : Int} {t : Nat} (ht : (pc : Int) + o = (t : Int)) (hd : decode (am_by M) pc = .ok (.ifCond .ge o, 3)) (kt : 0 ≤ x → am_Tri M d B C u c (t, ls, r, h) Q) (kf : ¬ (0 ≤ x) → am_Tri M d B C u c (pc + 3, ls, r, h) Q) : am_Tri M d B C u c (pc, ls, .int x :: r, h) Q := by
  intro p l e R s m args below meth cd E cx H locs la hR hl hlo
  exact lv_if_ge cx.1 cx.2.1 hd ht (fun z => kt z p l e R s m args below meth cd E cx H locs la hR hl hlo) (fun z => kf z p l e R s m args below meth cd E cx H locs la hR hl hlo)
theorem am_i_icmp_gt {o : Int} {t : Nat} (ht : (pc : Int) + o = (t : Int)) (hd : decode (am_by M) pc = .ok (.if_icmp .gt o, 3)) (kt : y < x → am_Tri M d B C u c (t, ls, r, h) Q) (kf : ¬ (y < x) → am_Tri M d B C u c (pc + 3, ls, r, h) Q) : am_Tri M d B C u c (pc, ls, .int y :: .int x :: r, h) Q := by
  intro p l e R s m args below meth cd E cx H locs la hR hl hlo
  exact lv_icmp_gt cx.1 cx.2.1 hd ht (fun z => kt z p l e R s m args below meth cd E cx H locs la hR hl hlo) (fun z => kf z p l e R s m args below meth cd E cx H locs la hR hl hlo)
theorem am_i_if_gt {o : Int} {t : Nat} (ht : (pc : Int) + o = (t : Int)) (hd : decode (am_by M) pc = .ok (.ifCond .gt o, 3)) (kt : 0 < x → am_Tri M d B C u c (t, ls, r, h) Q) (kf : ¬ (0 < x) → am_Tri M d B C u c (pc + 3, ls, r, h) Q) : am_Tri M d B C u c (pc, ls, .int x :: r, h) Q := by
  intro p l e R s m args below meth cd E cx H locs la hR hl hlo
  exact lv_if_gt cx.1 cx.2.1 hd ht (fun z => kt z p l e R s m args below meth cd E cx H locs la hR hl hlo) (fun z => kf z p l e R s m args below meth cd E cx H locs la hR hl hlo)
theorem am_i_icmp_le {o : Int} {t : Nat} (ht : (pc : Int) + o = (t : Int)) (hd : decode (am_by M) pc = .ok (.if_icmp .le o, 3)) (kt : x ≤ y → am_Tri M d B C u c (t, ls, r, h) Q) (kf : ¬ (x ≤ y) → am_Tri M d B C u c (pc + 3, ls, r, h) Q) : am_Tri M d B C u c (pc, ls, .int y :: .int x :: r, h) Q := by
  intro p l e R s m args below meth cd E cx H locs la hR hl hlo
  exact lv_icmp_le cx.1 cx.2.1 hd ht (fun z => kt z p l e R s m args below meth cd E cx H locs la hR hl hlo) (fun z => kf z p l e R s m args below meth cd E cx H locs la hR hl hlo)
theorem am_i_if_le {o : Int} {t : Nat} (ht : (pc : Int) + o = (t : Int)) (hd : decode (am_by M) pc = .ok (.ifCond .le o, 3)) (kt : x ≤ 0 → am_Tri M d B C u c (t, ls, r, h) Q) (kf : ¬ (x ≤ 0) → am_Tri M d B C u c (pc + 3, ls, r, h) Q) : am_Tri M d B C u c (pc, ls, .int x :: r, h) Q := by
  intro p l e R s m args below meth cd E cx H locs la hR hl hlo
  exact lv_if_le cx.1 cx.2.1 hd ht (fun z => kt z p l e R s m args below meth cd E cx H locs la hR hl hlo) (fun z => kf z p l e R s m args below meth cd E cx H locs la hR hl hlo)
end SND
end
section
/-! SOUND: fields and arrays -/
theorem am_cell.to {E : aE} {I A I' A' : Nat → Nat → Int32} {J J' : Nat → Nat → Int64} {k : Nat} {q : aK} {H H' : Heap} (h : am_cell E I A J k q H) (hI : I' k = I k) (hA : A' k = A k) (hJ : J' k = J k) (hH : H'[E.1 + k]? = H[E.1 + k]?) : am_cell E I' A' J' k q H' := by
  cases q with
  | inl o =>
    obtain ⟨ci, refs⟩ := o
    obtain ⟨r, h1, h2, h3⟩ := h
    refine ⟨r, h1, h2, (h3.kept hH).to (fun j _ => ?_)⟩
    simp only [am_fv, hI]
  | inr o =>
    cases o with
    | inl a =>
      obtain ⟨t, n⟩ := a
      cases t <;> (simp only [am_cell] at h ⊢; rw [hH, h]; first | rw [hA] | rw [hJ])
    | inr _ => trivial
theorem am_R.upd {E : aE} {s : State} {H H' : Heap} {K K' : List aK} {I A I' A' : Nat → Nat → Int32} {J J' : Nat → Nat → Int64} {X : Nat × (Nat → Int32)} {a : Nat} (hR : am_R E (K, I, A, J, X) s H) (hz : H'.size = H.size) (ho : ∀ q : Nat, q ≠ E.1 + a → H'[q]? = H[q]?)
    (hl : K'.length = K.length) (hK : ∀ j, j ≠ a → K'[j]? = K[j]?) (hI : ∀ j, j ≠ a → I' j = I j) (hA : ∀ j, j ≠ a → A' j = A j) (hJ : ∀ j, j ≠ a → J' j = J j) (hc : ∀ q, K'[a]? = some q → am_cell E I' A' J' a q H') (hvm : ∀ cell : Cell, H'[E.1 + a]? = some cell → cell.vm = .none) : am_R E (K', I', A', J', X) s H' := by
  obtain ⟨L, xs⟩ := X
  obtain ⟨h1, h2, h3, h4, h6, h5⟩ := hR
  refine ⟨by rw [hz, hl]; exact h1, fun k q hq => ?_, h3, fun q hq => by rw [ho q (by omega)]; exact h4 q hq, fun q cell hq hce => ?_, h5⟩
  rotate_left
  · by_cases e : q = E.1 + a
    · subst e
      exact hvm cell hce
    · rw [ho q e] at hce
      exact h6 q cell hq hce
  by_cases e : k = a
  · subst e
    exact hc q hq
  · rw [hK k e] at hq
    exact (h2 k q hq).to (hI k e) (hA k e) (hJ k e) (ho _ (by omega))
theorem am_R.push {E : aE} {s : State} {H H' : Heap} {K : List aK} {I A I' A' : Nat → Nat → Int32} {J J' : Nat → Nat → Int64} {X : Nat × (Nat → Int32)} {q : aK} (hR : am_R E (K, I, A, J, X) s H) (hz : H'.size = H.size + 1) (ho : ∀ q : Nat, q < H.size → H'[q]? = H[q]?)
    (hI : ∀ j, j < K.length → I' j = I j) (hA : ∀ j, j < K.length → A' j = A j) (hJ : ∀ j, j < K.length → J' j = J j) (hc : am_cell E I' A' J' K.length q H') (hvm : ∀ cell : Cell, H'[E.1 + K.length]? = some cell → cell.vm = .none) : am_R E (K ++ [q], I', A', J', X) s H' := by
  obtain ⟨L, xs⟩ := X
  obtain ⟨h1, h2, h3, h4, h6, h5⟩ := hR
  refine ⟨by rw [hz, h1, List.length_append]; rfl, fun k q' hq => ?_, h3, fun q hq => by rw [ho q (by omega)]; exact h4 q hq, fun q cell hq hce => ?_, h5⟩
  rotate_left
  · have hlt : q < H'.size := (Array.getElem?_eq_some_iff.mp hce).1
    rcases Nat.lt_or_ge q H.size with e | e
    · rw [ho q e] at hce
      exact h6 q cell hq hce
    · have : q = E.1 + K.length := by omega
      subst this
      exact hvm cell hce
  rcases Nat.lt_or_ge k K.length with e | e
  · rw [List.getElem?_append_left e] at hq
    exact (h2 k q' hq).to (hI k e) (hA k e) (hJ k e) (ho _ (by omega))
  · have hk : k < (K ++ [q]).length := (List.getElem?_eq_some_iff.mp hq).1
    rw [List.length_append] at hk
    have : k = K.length := by simp at hk; omega
    subst this
    rw [List.getElem?_concat_length] at hq
    cases hq
    exact hc
theorem am_ur {α : Type} {f : Nat → Nat → α} {a k : Nat} {v : α} {j : Nat} (h : j ≠ a) : am_u f a k v j = f j := by
  funext y
  simp [am_u, h]
theorem am_zr {α : Type} {f : Nat → Nat → α} {a : Nat} {v : α} {j : Nat} (h : j ≠ a) : am_z f a v j = f j := by
  funext y
  simp [am_z, h]
/-- what the tables say of a field's entry -/
theorem am_Fd {own cp ci k wi : Nat} {nest : Bool} (h : (am_fr.getD own []).lookup cp = some (ci, k, wi, nest)) : ∃ (C : String) (T : u_T) (N : Nat), am_cl[ci]? = some (C, T, N) ∧ k < N ∧
    lw_tbl[wi]? = some (if nest = true then Jvm.Cond.fieldLinkNest (am_nm.getD own "") cp C (T k).2.1 (T k).2.2.1 "BlockFront" else Jvm.Cond.fieldLink (am_nm.getD own "") cp C (T k).2.1 (T k).2.2.1) ∧ (T k).1 = C ∧ parseFieldDescriptor (T k).2.2.1 = some (am_ty ci k) ∧ (T k).2.2.2 = am_isr ci k := by
  have h1 := am_of am_fall rfl h
  unfold am_rowF at h1
  split at h1
  rename_i e
  cases e
  split at h1
  · rename_i C T N hc
    simp only [Bool.and_eq_true, decide_eq_true_eq] at h1
    exact ⟨C, T, N, hc, h1.1.1.1.1, h1.1.1.1.2, h1.1.1.2, h1.1.2, h1.2⟩
  · cases h1
theorem am_Cd {ci : Nat} {C : String} {T : u_T} {N : Nat} (h : am_cl[ci]? = some (C, T, N)) : (∀ w ∈ u_ws C T N, ∃ i : Nat, lw_tbl[i]? = some w ∧ am_gw w = true) ∧ (∀ a, a < N → ∀ b, b < N → a ≠ b → (T a).2.1 ≠ (T b).2.1) ∧
    (∀ k, k < N → parseFieldDescriptor (T k).2.2.1 = some (am_ty ci k) ∧ (T k).2.2.2 = am_isr ci k ∧ (T k).1 = C) ∧ (∃ i : Nat, lw_tbl[i]? = some (Jvm.Cond.instantiable C N)) ∧ (∃ i : Nat, lw_tbl[i]? = some (Jvm.Cond.initialized C)) ∧ (am_tys.getD ci []).length = N := by
  have hlt : ci < 10 := by
    have := (List.getElem?_eq_some_iff.mp h).1
    exact this
  have h1 := List.all_eq_true.mp am_call ci (List.mem_range.mpr hlt)
  unfold am_rowC at h1
  rw [h] at h1
  split at h1
  · rename_i C' T' N' w1 w2 ws e1 e2
    cases e1
    simp only [Bool.and_eq_true, decide_eq_true_eq, List.all_eq_true, List.mem_range, Bool.or_eq_true] at h1
    obtain ⟨⟨⟨⟨⟨⟨a1, a2⟩, a3⟩, a4⟩, a5⟩, a6⟩, a7⟩ := h1
    refine ⟨fun w hw => ?_, fun a ha b hb hne => (a5 a ha b hb).resolve_left hne, fun k hk => ⟨(a6 k hk).1.1, (a6 k hk).1.2, (a6 k hk).2⟩, ⟨w1, a1⟩, ⟨w2, a2⟩, a7⟩
    have hm : some w ∈ ws.map (fun i => lw_tbl[i]?) := by
      rw [a3]
      exact List.mem_map.mpr ⟨w, hw, rfl⟩
    obtain ⟨i, -, hi⟩ := List.mem_map.mp hm
    exact ⟨i, hi, a4 w hw⟩
  · cases h1
theorem am_hts {s : State} (h : am_Wd s) {ci : Nat} {C : String} {T : u_T} {N : Nat} (hc : am_cl[ci]? = some (C, T, N)) (args : Array Value) : ∀ w ∈ u_ws C T N, w.before args s = true := fun w hw => by
  obtain ⟨i, hi, hg⟩ := (am_Cd hc).1 w hw
  exact h.use hi hg args
section SNH
variable {M d B C u c : Nat} {Q : aO → aH → Prop} {pc : Nat} {ls : List (Nat × Value)} {r : List Value} {K : List aK} {I A : Nat → Nat → Int32} {J : Nat → Nat → Int64} {X : Nat × (Nat → Int32)} {a cp ci k wi : Nat} {nest : Bool} {refs : List Value} {x i : Int32} {z : Int64} {n : Nat}
theorem am_i_get {v : Value} (hf : (am_fr.getD (am_own M) []).lookup cp = some (ci, k, wi, nest)) (hk : K[a]? = some (.inl (ci, refs))) (hv : ∀ E : aE, am_v E v = am_fv E I a ci refs k) (hd : decode (am_by M) pc = .ok (.getfield cp, 3))
    (kk : am_Tri M d B C u c (pc + 3, ls, v :: r, (K, I, A, J, X)) Q) : am_Tri M d B C u c (pc, ls, .ref a :: r, (K, I, A, J, X)) Q := by
  intro p l e R s m args below meth cd E cx H locs la hR hl hlo
  obtain ⟨hx, hb, hml, hr, hlocks, hname, hown, hG, htr, hex, hRm, hbs, hvn, hol, hE0, hfl⟩ := id cx
  obtain ⟨C, T, N, hc, hkN, hw, hT1, hty, hfin⟩ := am_Fd hf
  have hcell := hR.2.1 a _ hk
  obtain ⟨rr, hrr, hlen, cell, q1, q2, q3, q4⟩ := hcell
  cases hrr.symm.trans hc
  obtain ⟨hS, hfc, kC, hkC, hkind⟩ := hG.2.1.1 ci _ hc
  obtain ⟨cf, kf, fi, f, hi, hsl⟩ := hS k hkN
  have hst := (u_facts hfc hkC (u_lays (am_hts hG.1 hc args) (fun _ h => h) hkN) hi).1
  rw [hT1] at hi
  have hK' := kk p l e R s m args below meth cd E cx H locs la hR hl hlo
  have hslot : cell.slots[f.slot]? = some (am_v E v) := by rw [hsl, q4 k hkN, hv E]
  cases nest with
  | false => exact W.getf hx hb hown (hG.1.use hw rfl args) hi hst q1 (by rw [q3]; exact fun h => by cases h) hslot rfl rfl hd hK'
  | true => exact va_Wgetf hx hb hown (hG.1.use hw rfl args) hi hst q1 (by rw [q3]; exact fun h => by cases h) hslot rfl rfl hd hK'
theorem am_fvI {E : aE} {ci k : Nat} (h : am_isr ci k = false) (I : Nat → Nat → Int32) (a : Nat) (refs : List Value) : am_fv E I a ci refs k = .int (I a k) := by
  simp [am_fv, h]
theorem am_i_put (hf : (am_fr.getD (am_own M) []).lookup cp = some (ci, k, wi, nest)) (hk : K[a]? = some (.inl (ci, refs))) (hI : am_isr ci k = false) (hn : narrow (am_ty ci k) (.int x) = .int x) (hfit : fits (am_ty ci k) (.int x) = true) (hd : decode (am_by M) pc = .ok (.putfield cp, 3))
    (kk : am_Tri M d B C u c (pc + 3, ls, r, (K, am_u I a k x, A, J, X)) Q) : am_Tri M d B C u c (pc, ls, .int x :: .ref a :: r, (K, I, A, J, X)) Q := by
  intro p l e R s m args below meth cd E cx H locs la hR hl hlo
  obtain ⟨hx, hb, hml, hr, hlocks, hname, hown, hG, htr, hex, hRm, hbs, hvn, hol, hE0, hfl⟩ := id cx
  obtain ⟨Cn, T, N, hc, hkN, hw, hT1, hty, hfin⟩ := am_Fd hf
  have hcell := hR.2.1 a _ hk
  obtain ⟨rr, hrr, hlen, cell, q1, q2, q3, q4⟩ := hcell
  cases hrr.symm.trans hc
  have hts := am_hts hG.1 hc args
  have hap := va_apart (own := "") hts (fun _ h => h) (am_ty ci) (fun k hk => ((am_Cd hc).2.2.1 k hk).1) (am_Cd hc).2.1 hG.2.1 hc
  obtain ⟨hS, hfc, kC, hkC, hkind⟩ := hG.2.1.1 ci _ hc
  obtain ⟨cf, kf, fi, f, hi, hsl⟩ := hS k hkN
  have hlay := hts _ (u_in_lay hkN)
  unfold u_lay at hlay
  rw [if_neg (by rw [hfin, hI]; decide)] at hlay
  have hst := (u_facts hfc hkC (u_lays hts (fun _ h => h) hkN) hi).1
  have h6 := u_store hfc hkC hkind hlay hi hty hn hfit
  rw [hT1] at hi
  have hend : ∀ H' : Heap, H'[E.1 + a]? = some (cell.setSlot f.slot (.int x)) → H'.size = H.size → (∀ q, q ≠ E.1 + a → H'[q]? = H[q]?) → W p l e R s m args below meth cd H' (locs ++ [⟨E.1 + a, f.slot⟩]) u c (xm_MQ below (am_Qc E Q) args s B C (fun q => E.1 ≤ q)) (F0 m (pc + 3) la (r.map (am_v E))) := by
    intro H' e1 e2 e3
    refine kk p l e R s m args below meth cd E cx H' _ la (hR.upd e2 e3 rfl (fun _ _ => rfl) (fun j hj => am_ur hj) (fun _ _ => rfl) (fun _ _ => rfl) (fun q hq => ?_) (fun ce hce => by rw [e1] at hce; cases hce; exact q3)) hl (fun q hq => ?_)
    · rw [hk] at hq
      cases hq
      refine ⟨_, hc, hlen, _, e1, q2, q3, fun j hj => ?_⟩
      have h9 := t_set q4 hap hkN (.int x) j hj
      rw [← hsl] at h9
      rw [h9]
      by_cases ej : j = k
      · subst ej
        simp [updV, am_fv, hI, am_u]
      · simp [updV, am_fv, am_u, ej]
    · rcases List.mem_append.mp hq with h | h
      · exact hlo q h
      · rw [List.mem_singleton.mp h]
        exact Nat.le_add_right _ _
  cases nest with
  | false => exact W.putK hx hb (f := f) ⟨hown, hG.1.use hw rfl args, ⟨_, _, _, hi⟩, hst⟩ (by rw [q2]; exact h6) q1 q3 (by rw [hsl]; exact k2_hasslot (q4 k hkN)) rfl rfl hd hend
  | true => exact va_WputK hx hb hown (hG.1.use hw rfl args) hi hst (by rw [q2]; exact h6) q1 q3 (by rw [hsl]; exact k2_hasslot (q4 k hkN)) rfl rfl hd hend
def am_okt (t : FieldType) : Bool := match t with
  | .int => true
  | .boolean => true
  | .object _ => true
  | .array _ => true
  | _ => false
theorem am_tall : am_tys.all (fun l => l.all am_okt) = true := by decide +kernel
theorem am_fits {E : aE} {ci k b : Nat} (h : am_isr ci k = true) : narrow (am_ty ci k) (am_v E (.ref b)) = am_v E (.ref b) ∧ fits (am_ty ci k) (am_v E (.ref b)) = true := by
  have ht : am_okt (am_ty ci k) = true := by
    unfold am_ty
    rw [List.getD_eq_getElem?_getD, List.getD_eq_getElem?_getD]
    cases h1 : am_tys[ci]? with
    | none => rfl
    | some l =>
      have h2 := List.all_eq_true.mp am_tall l (List.mem_of_getElem? h1)
      simp only [Option.getD_some]
      cases h3 : l[k]? with
      | none => rfl
      | some t => exact List.all_eq_true.mp h2 t (List.mem_of_getElem? h3)
  cases e : am_ty ci k <;> rw [e] at ht <;> simp [am_isr, e, am_okt] at h ht <;> exact ⟨rfl, rfl⟩
theorem am_i_putr {b : Nat} (hf : (am_fr.getD (am_own M) []).lookup cp = some (ci, k, wi, false)) (hk : K[a]? = some (.inl (ci, refs))) (hI : am_isr ci k = true) (hlt : k < refs.length) (hci : ci = am_own M) (hin : (am_y M).name = "<init>") (hd : decode (am_by M) pc = .ok (.putfield cp, 3))
    (kk : am_Tri M d B C u c (pc + 3, ls, r, (K.set a (.inl (ci, refs.set k (.ref b))), I, A, J, X)) Q) : am_Tri M d B C u c (pc, ls, .ref b :: .ref a :: r, (K, I, A, J, X)) Q := by
  intro p l e R s m args below meth cd E cx H locs la hR hl hlo
  obtain ⟨hx, hb, hml, hr, hlocks, hname, hown, hG, htr, hex, hRm, hbs, hvn, hol, hE0, hfl⟩ := id cx
  obtain ⟨C, T, N, hc, hkN, hw, hT1, hty, hfin⟩ := am_Fd hf
  have hcell := hR.2.1 a _ hk
  obtain ⟨rr, hrr, hlen, cell, q1, q2, q3, q4⟩ := hcell
  cases hrr.symm.trans hc
  have hts := am_hts hG.1 hc args
  have hap := va_apart (own := "") hts (fun _ h => h) (am_ty ci) (fun k hk => ((am_Cd hc).2.2.1 k hk).1) (am_Cd hc).2.1 hG.2.1 hc
  obtain ⟨hS, hfc, kC, hkC, hkind⟩ := hG.2.1.1 ci _ hc
  obtain ⟨cf, kf, fi, f, hi, hsl⟩ := hS k hkN
  have hlay := hts _ (u_in_lay hkN)
  unfold u_lay at hlay
  rw [if_pos (by rw [hfin, hI])] at hlay
  have hst := (u_facts hfc hkC (u_lays hts (fun _ h => h) hkN) hi).1
  have hnm : am_nm.getD (am_own M) "" = C := by
    have key : ∀ ci, ci < 10 → ∀ q, am_cl[ci]? = some q → am_nm.getD ci "" = q.1 := by
      intro ci hci q hq
      have : am_cl.map Prod.fst = am_nm.take 10 := rfl
      have h2 : (am_cl.map Prod.fst)[ci]? = some q.1 := by rw [List.getElem?_map, hq]; rfl
      rw [this, List.getElem?_take, if_pos hci] at h2
      rw [List.getD_eq_getElem?_getD, h2]
      rfl
    rw [← hci]
    exact key ci (List.getElem?_eq_some_iff.mp hc).1 _ hc
  have hcf : m.cls = cf := by
    obtain ⟨_, _, c', _, _, _, -, -, hf', -, -, -, hown2, -⟩ := Cond.laysFinal_spec hlay
    have e1 : c' = cf := by have := hi.symm.trans hf'; simp at this; exact this.1.symm
    rw [hT1, ← hnm] at hown2
    rw [← e1]; exact Option.some.inj (hown.symm.trans hown2)
  obtain ⟨hn, hfit⟩ := am_fits (E := E) (b := b) hI
  have h6 := u_fits hfc hkC hkind (Or.inr hlay) hi hty hn hfit
  rw [hT1] at hi
  refine W.putFinK hx hb hown (hG.1.use hw rfl args) hi hst hcf (by rw [hname]; exact hin) (by rw [q2]; exact h6) q1 q3 (by rw [hsl]; exact k2_hasslot (q4 k hkN)) rfl rfl hd ?_
  intro H' e1 e2 e3
  refine kk p l e R s m args below meth cd E cx H' _ la (hR.upd e2 e3 (List.length_set ..) (fun j hj => List.getElem?_set_ne (Ne.symm hj)) (fun _ _ => rfl) (fun _ _ => rfl) (fun _ _ => rfl) (fun q hq => ?_) (fun ce hce => by rw [e1] at hce; cases hce; exact q3)) hl (fun q hq => ?_)
  · rw [List.getElem?_set_self (List.getElem?_eq_some_iff.mp hk).1] at hq
    cases hq
    refine ⟨_, hc, by rw [List.length_set]; exact hlen, _, e1, q2, q3, fun j hj => ?_⟩
    have h9 := t_set q4 hap hkN (am_v E (.ref b)) j hj
    rw [← hsl] at h9
    rw [h9]
    by_cases ej : j = k
    · subst ej
      simp [updV, am_fv, hI, List.getD_eq_getElem?_getD, hlt]
    · simp [updV, am_fv, ej, List.getD_eq_getElem?_getD, List.getElem?_set_ne (Ne.symm ej)]
  · rcases List.mem_append.mp hq with h | h
    · exact hlo q h
    · rw [List.mem_singleton.mp h]
      exact Nat.le_add_right _ _
end SNH
end
section
/-! SOUND: arrays, new cells, constants -/
section SNA
variable {M d B C u c : Nat} {Q : aO → aH → Prop} {pc : Nat} {ls : List (Nat × Value)} {r : List Value} {K : List aK} {I A : Nat → Nat → Int32} {J : Nat → Nat → Int64} {X : Nat × (Nat → Int32)} {a cp : Nat} {x i : Int32} {z : Int64} {n : Nat}
theorem am_i_iald (hk : K[a]? = some (.inr (.inl (.int, n)))) (hin : vp_in i n) (hd : decode (am_by M) pc = .ok (.iaload, 1)) (kk : am_Tri M d B C u c (pc + 1, ls, .int (A a i.toNatClampNeg) :: r, (K, I, A, J, X)) Q) : am_Tri M d B C u c (pc, ls, .int i :: .ref a :: r, (K, I, A, J, X)) Q := by
  intro p l e R s m args below meth cd E cx H locs la hR hl hlo
  have hcell : H[E.1 + a]? = some (arrV (E.2.2.2.1 .int) n (fun j => .int (A a j))) := hR.2.1 a _ hk
  have hlt : i.toNatClampNeg < n := Nat.not_le.mp fun q => hin (Or.inr q)
  exact W.iald (v := .int (A a i.toNatClampNeg)) cx.1 cx.2.1 hcell ((cx.2.2.2.2.2.2.2.1.2.2.1 .int rfl).1 n (fun j => .int (A a j))) (fun q => by cases q) (by rw [arrV_size]; exact hin) (by rw [arrV_read _ _ hlt]) rfl rfl hd (kk p l e R s m args below meth cd E cx H locs la hR hl hlo)
theorem am_i_cald (hk : K[a]? = some (.inr (.inl (.char, n)))) (hin : vp_in i n) (hd : decode (am_by M) pc = .ok (.caload, 1)) (kk : am_Tri M d B C u c (pc + 1, ls, .int (A a i.toNatClampNeg) :: r, (K, I, A, J, X)) Q) : am_Tri M d B C u c (pc, ls, .int i :: .ref a :: r, (K, I, A, J, X)) Q := by
  intro p l e R s m args below meth cd E cx H locs la hR hl hlo
  have hcell : H[E.1 + a]? = some (arrV (E.2.2.2.1 .char) n (fun j => .int (A a j))) := hR.2.1 a _ hk
  have hlt : i.toNatClampNeg < n := Nat.not_le.mp fun q => hin (Or.inr q)
  exact W.cald (v := .int (A a i.toNatClampNeg)) cx.1 cx.2.1 hcell ((cx.2.2.2.2.2.2.2.1.2.2.1 .char rfl).1 n (fun j => .int (A a j))) (fun q => by cases q) (by rw [arrV_size]; exact hin) (by rw [arrV_read _ _ hlt]) rfl rfl hd (kk p l e R s m args below meth cd E cx H locs la hR hl hlo)
theorem am_i_zald (hk : K[a]? = some (.inr (.inl (.boolean, n)))) (hin : vp_in i n) (hd : decode (am_by M) pc = .ok (.baload, 1)) (kk : am_Tri M d B C u c (pc + 1, ls, .int (A a i.toNatClampNeg) :: r, (K, I, A, J, X)) Q) : am_Tri M d B C u c (pc, ls, .int i :: .ref a :: r, (K, I, A, J, X)) Q := by
  intro p l e R s m args below meth cd E cx H locs la hR hl hlo
  have hcell : H[E.1 + a]? = some (arrV (E.2.2.2.1 .boolean) n (fun j => .int (A a j))) := hR.2.1 a _ hk
  have hlt : i.toNatClampNeg < n := Nat.not_le.mp fun q => hin (Or.inr q)
  exact W.zald (v := .int (A a i.toNatClampNeg)) cx.1 cx.2.1 hcell ((cx.2.2.2.2.2.2.2.1.2.2.1 .boolean rfl).1 n (fun j => .int (A a j))) (fun q => by cases q) (by rw [arrV_size]; exact hin) (by rw [arrV_read _ _ hlt]) rfl rfl hd (kk p l e R s m args below meth cd E cx H locs la hR hl hlo)
theorem am_i_lald (hk : K[a]? = some (.inr (.inl (.long, n)))) (hin : vp_in i n) (hd : decode (am_by M) pc = .ok (.laload, 1)) (kk : am_Tri M d B C u c (pc + 1, ls, .long (J a i.toNatClampNeg) :: r, (K, I, A, J, X)) Q) : am_Tri M d B C u c (pc, ls, .int i :: .ref a :: r, (K, I, A, J, X)) Q := by
  intro p l e R s m args below meth cd E cx H locs la hR hl hlo
  have hcell : H[E.1 + a]? = some (arrV (E.2.2.2.1 .long) n (fun j => .long (J a j))) := hR.2.1 a _ hk
  have hlt : i.toNatClampNeg < n := Nat.not_le.mp fun q => hin (Or.inr q)
  exact W.lald (v := .long (J a i.toNatClampNeg)) cx.1 cx.2.1 hcell ((cx.2.2.2.2.2.2.2.1.2.2.1 .long rfl).1 n (fun j => .long (J a j))) (fun q => by cases q) (by rw [arrV_size]; exact hin) (by rw [arrV_read _ _ hlt]) rfl rfl hd (kk p l e R s m args below meth cd E cx H locs la hR hl hlo)
theorem am_i_sald {L : Nat} {xs : Nat → Int32} (hin : vp_in i L) (hd : decode (am_by M) pc = .ok (.iaload, 1)) (kk : am_Tri M d B C u c (pc + 1, ls, .int (xs i.toNatClampNeg) :: r, (K, I, A, J, (L, xs))) Q) : am_Tri M d B C u c (pc, ls, .int i :: .retAddr 1000 :: r, (K, I, A, J, (L, xs))) Q := by
  intro p l e R s m args below meth cd E cx H locs la hR hl hlo
  obtain ⟨scr, h1, h2, h3, h4, h5⟩ := hR.2.2.2.2.2
  have hlt : i.toNatClampNeg < L := Nat.not_le.mp fun q => hin (Or.inr q)
  have hb : E.2.2.2.2 1000 < E.1 := by rw [← hR.2.2.1]; exact (Array.getElem?_eq_some_iff.mp h1).1
  exact W.iald (v := .int (xs i.toNatClampNeg)) cx.1 cx.2.1 (by rw [hR.2.2.2.1 _ hb]; exact h1) h2 h3 (by rw [h4]; exact hin) (h5 _ hlt) rfl rfl hd (kk p l e R s m args below meth cd E cx H locs la hR hl hlo)
theorem am_i_len {t : ArrayType} (ht : am_at t = true) (hk : K[a]? = some (.inr (.inl (t, n)))) (hd : decode (am_by M) pc = .ok (.arraylength, 1)) (kk : am_Tri M d B C u c (pc + 1, ls, .int (Int32.ofNat n) :: r, (K, I, A, J, X)) Q) : am_Tri M d B C u c (pc, ls, .ref a :: r, (K, I, A, J, X)) Q := by
  intro p l e R s m args below meth cd E cx H locs la hR hl hlo
  have hcell := hR.2.1 a _ hk
  have hkk := kk p l e R s m args below meth cd E cx H locs la hR hl hlo
  have hG := (cx.2.2.2.2.2.2.2.1.2.2.1 t ht).1
  cases t <;> first
    | exact absurd ht (by decide)
    | exact W.alen (n := Int32.ofNat n) cx.1 cx.2.1 (show H[E.1 + a]? = some (arrV _ n (fun j => .int (A a j))) from hcell) (hG n _) (by rw [arrV_size] <;> rfl) rfl rfl hd hkk
    | exact W.alen (n := Int32.ofNat n) cx.1 cx.2.1 (show H[E.1 + a]? = some (arrV _ n (fun j => .long (J a j))) from hcell) (hG n _) (by rw [arrV_size] <;> rfl) rfl rfl hd hkk
theorem am_i_slen {L : Nat} {xs : Nat → Int32} (hd : decode (am_by M) pc = .ok (.arraylength, 1)) (kk : am_Tri M d B C u c (pc + 1, ls, .int (Int32.ofNat L) :: r, (K, I, A, J, (L, xs))) Q) : am_Tri M d B C u c (pc, ls, .retAddr 1000 :: r, (K, I, A, J, (L, xs))) Q := by
  intro p l e R s m args below meth cd E cx H locs la hR hl hlo
  obtain ⟨scr, h1, h2, h3, h4, h5⟩ := hR.2.2.2.2.2
  have hb : E.2.2.2.2 1000 < E.1 := by rw [← hR.2.2.1]; exact (Array.getElem?_eq_some_iff.mp h1).1
  exact W.alen (n := Int32.ofNat L) cx.1 cx.2.1 (by rw [hR.2.2.2.1 _ hb]; exact h1) h2 (by rw [h4] <;> rfl) rfl rfl hd (kk p l e R s m args below meth cd E cx H locs la hR hl hlo)
theorem am_locs {E : aE} {locs : List Loc} {a k : Nat} (hlo : ∀ q ∈ locs, E.1 ≤ q.base) : ∀ q ∈ locs ++ [⟨E.1 + a, k⟩], E.1 ≤ q.base := by
  intro q hq
  rcases List.mem_append.mp hq with h | h
  · exact hlo q h
  · rw [List.mem_singleton.mp h]
    exact Nat.le_add_right _ _
theorem am_rowi (A : Nat → Nat → Int32) (a k : Nat) (x : Int32) : updV (fun j => Value.int (A a j)) k (.int x) = fun j => .int (am_u A a k x a j) := by
  funext j
  by_cases h : j = k
  · simp [updV, am_u, h]
  · simp [updV, am_u, h]
theorem am_rowl (J : Nat → Nat → Int64) (a k : Nat) (x : Int64) : updV (fun j => Value.long (J a j)) k (.long x) = fun j => .long (am_u J a k x a j) := by
  funext j
  by_cases h : j = k
  · simp [updV, am_u, h]
  · simp [updV, am_u, h]
theorem am_i_iast (hk : K[a]? = some (.inr (.inl (.int, n)))) (hin : vp_in i n) (hd : decode (am_by M) pc = .ok (.iastore, 1)) (kk : am_Tri M d B C u c (pc + 1, ls, r, (K, I, am_u A a i.toNatClampNeg x, J, X)) Q) : am_Tri M d B C u c (pc, ls, .int x :: .int i :: .ref a :: r, (K, I, A, J, X)) Q := by
  intro p l e R s m args below meth cd E cx H locs la hR hl hlo
  have hcell : H[E.1 + a]? = some (arrV (E.2.2.2.1 .int) n (fun j => .int (A a j))) := hR.2.1 a _ hk
  refine W.iast cx.1 cx.2.1 hcell ((cx.2.2.2.2.2.2.2.1.2.2.1 .int rfl).1 n (fun j => .int (A a j))) (fun q => by cases q) (by rw [arrV_size]; exact hin) rfl rfl hd fun H1 e1 e2 e3 => ?_
  rw [arrV_store, am_rowi] at e1
  exact kk p l e R s m args below meth cd E cx H1 _ la (hR.upd e2 e3 rfl (fun _ _ => rfl) (fun _ _ => rfl) (fun j hj => am_ur hj) (fun _ _ => rfl) (fun q hq => by rw [hk] at hq; cases hq; exact e1) (fun ce hce => by rw [e1] at hce; cases hce; rfl)) hl (am_locs hlo)
theorem am_i_cast (hk : K[a]? = some (.inr (.inl (.char, n)))) (hin : vp_in i n) (hd : decode (am_by M) pc = .ok (.castore, 1)) (kk : am_Tri M d B C u c (pc + 1, ls, r, (K, I, am_u A a i.toNatClampNeg (vp_nar .char x), J, X)) Q) : am_Tri M d B C u c (pc, ls, .int x :: .int i :: .ref a :: r, (K, I, A, J, X)) Q := by
  intro p l e R s m args below meth cd E cx H locs la hR hl hlo
  have hcell : H[E.1 + a]? = some (arrV (E.2.2.2.1 .char) n (fun j => .int (A a j))) := hR.2.1 a _ hk
  refine W.cast cx.1 cx.2.1 hcell ((cx.2.2.2.2.2.2.2.1.2.2.1 .char rfl).1 n (fun j => .int (A a j))) (fun q => by cases q) (by rw [arrV_size]; exact hin) rfl rfl hd fun H1 e1 e2 e3 => ?_
  rw [arrV_store, show narrow .char (.int x) = .int (vp_nar .char x) from rfl, am_rowi] at e1
  exact kk p l e R s m args below meth cd E cx H1 _ la (hR.upd e2 e3 rfl (fun _ _ => rfl) (fun _ _ => rfl) (fun j hj => am_ur hj) (fun _ _ => rfl) (fun q hq => by rw [hk] at hq; cases hq; exact e1) (fun ce hce => by rw [e1] at hce; cases hce; rfl)) hl (am_locs hlo)
theorem am_i_zast (hk : K[a]? = some (.inr (.inl (.boolean, n)))) (hin : vp_in i n) (hd : decode (am_by M) pc = .ok (.bastore, 1)) (kk : am_Tri M d B C u c (pc + 1, ls, r, (K, I, am_u A a i.toNatClampNeg (vp_nar .boolean x), J, X)) Q) : am_Tri M d B C u c (pc, ls, .int x :: .int i :: .ref a :: r, (K, I, A, J, X)) Q := by
  intro p l e R s m args below meth cd E cx H locs la hR hl hlo
  have hcell : H[E.1 + a]? = some (arrV (E.2.2.2.1 .boolean) n (fun j => .int (A a j))) := hR.2.1 a _ hk
  refine W.zast cx.1 cx.2.1 hcell ((cx.2.2.2.2.2.2.2.1.2.2.1 .boolean rfl).1 n (fun j => .int (A a j))) (fun q => by cases q) (by rw [arrV_size]; exact hin) rfl rfl hd fun H1 e1 e2 e3 => ?_
  rw [arrV_store, show narrow .boolean (.int x) = .int (vp_nar .boolean x) from rfl, am_rowi] at e1
  exact kk p l e R s m args below meth cd E cx H1 _ la (hR.upd e2 e3 rfl (fun _ _ => rfl) (fun _ _ => rfl) (fun j hj => am_ur hj) (fun _ _ => rfl) (fun q hq => by rw [hk] at hq; cases hq; exact e1) (fun ce hce => by rw [e1] at hce; cases hce; rfl)) hl (am_locs hlo)
theorem am_i_last (hk : K[a]? = some (.inr (.inl (.long, n)))) (hin : vp_in i n) (hd : decode (am_by M) pc = .ok (.lastore, 1)) (kk : am_Tri M d B C u c (pc + 1, ls, r, (K, I, A, am_u J a i.toNatClampNeg z, X)) Q) : am_Tri M d B C u c (pc, ls, .long z :: .int i :: .ref a :: r, (K, I, A, J, X)) Q := by
  intro p l e R s m args below meth cd E cx H locs la hR hl hlo
  have hcell : H[E.1 + a]? = some (arrV (E.2.2.2.1 .long) n (fun j => .long (J a j))) := hR.2.1 a _ hk
  refine W.last cx.1 cx.2.1 hcell ((cx.2.2.2.2.2.2.2.1.2.2.1 .long rfl).1 n (fun j => .long (J a j))) (fun q => by cases q) (by rw [arrV_size]; exact hin) rfl rfl hd fun H1 e1 e2 e3 => ?_
  rw [arrV_store, am_rowl] at e1
  exact kk p l e R s m args below meth cd E cx H1 _ la (hR.upd e2 e3 rfl (fun _ _ => rfl) (fun _ _ => rfl) (fun _ _ => rfl) (fun j hj => am_ur hj) (fun q hq => by rw [hk] at hq; cases hq; exact e1) (fun ce hce => by rw [e1] at hce; cases hce; rfl)) hl (am_locs hlo)
theorem am_arw {t : ArrayType} (ht : am_at t = true) : ∃ i : Nat, lw_tbl[i]? = some (Jvm.Cond.arrayClass (newarray.typeOf t)) := by
  cases t <;> first | exact absurd ht (by decide) | exact List.getElem?_of_mem (by decide +kernel)
theorem am_i_newa {t : ArrayType} (ht : am_at t = true) (hn : ¬ x < 0 ∧ x.toNatClampNeg ≤ 65536) (hB : u + 1 ≤ B) (hC : c + x.toNatClampNeg ≤ C) (hd : decode (am_by M) pc = .ok (.newarray t, 2))
    (kk : am_Tri M d B C (u + 1) (c + x.toNatClampNeg) (pc + 2, ls, .ref K.length :: r, (K ++ [.inr (.inl (t, x.toNatClampNeg))], I, am_z A K.length 0, am_z J K.length 0, X)) Q) : am_Tri M d B C u c (pc, ls, .int x :: r, (K, I, A, J, X)) Q := by
  intro p l e R s m args below meth cd E cx H locs la hR hl hlo
  obtain ⟨hx, hb, hml, hr, hlocks, hname, hown, hG, htr, hex, hRm, hbs, hvn, hol, hE0, hfl⟩ := id cx
  obtain ⟨wi, hwi⟩ := am_arw ht
  have hbytes : x.toNatClampNeg * componentBytes (newarray.typeOf t) ≤ 536870912 := by
    have h8 : componentBytes (newarray.typeOf t) ≤ 8 := by cases t <;> decide
    calc x.toNatClampNeg * componentBytes (newarray.typeOf t) ≤ 65536 * 8 := Nat.mul_le_mul hn.2 h8
      _ ≤ 536870912 := by decide
  refine va_newaK hx hb (hG.1.use hwi (by cases t <;> rfl) args) rfl hd rfl hn.1 rfl hbytes (by rw [hRm]; exact hB) (by rw [hRm]; exact hC) (h := E.1 + K.length) hR.1 fun H1 cA e1 e2 e3 e4 e5 => ?_
  cases (hG.2.2.1 t ht).2.symm.trans e5
  refine kk p l e R s m args below meth cd E cx H1 locs la (hR.push (by rw [e2, hR.1]) (fun q hq => e3 q (by rw [← hR.1]; exact hq)) (fun _ _ => rfl) (fun j hj => am_zr (Nat.ne_of_lt hj)) (fun j hj => am_zr (Nat.ne_of_lt hj)) ?_ (fun ce hce => by rw [e1] at hce; cases hce; rfl)) hl hlo
  cases t <;> first
    | exact absurd ht (by decide)
    | (show H1[E.1 + K.length]? = some (arrV _ _ (fun j => .int (am_z A K.length 0 K.length j))); rw [e1]; simp [am_z]; rfl)
    | (show H1[E.1 + K.length]? = some (arrV _ _ (fun j => .long (am_z J K.length 0 K.length j))); rw [e1]; simp [am_z]; rfl)
theorem am_Kd {own cp n wi : Nat} (h : (am_kr.getD own []).lookup cp = some (n, wi)) : lw_tbl[wi]? = some (Jvm.Cond.classLink (am_nm.getD own "") cp (if n < 100 then am_nm.getD n "" else am_ex.getD (n - 100) "")) ∧ (n < 10 ∨ 100 ≤ n) := by
  have h1 := am_of am_kall rfl h
  simp only [am_rowK, Bool.and_eq_true, decide_eq_true_eq, Bool.or_eq_true] at h1
  exact h1
theorem am_dflt {ci k : Nat} (hk : k < (am_tys.getD ci []).length) : defaultValue (am_ty ci k) = am_fv (0, #[], (fun _ => 0, fun _ _ => 0), fun _ => 0, fun _ => 0) (fun _ _ => 0) 0 ci (List.replicate (am_tys.getD ci []).length .null) k := by
  have ht : am_okt (am_ty ci k) = true := by
    unfold am_ty
    rw [List.getD_eq_getElem?_getD, List.getD_eq_getElem?_getD]
    cases h1 : am_tys[ci]? with
    | none => rfl
    | some l =>
      have h2 := List.all_eq_true.mp am_tall l (List.mem_of_getElem? h1)
      simp only [Option.getD_some]
      cases h3 : l[k]? with
      | none => rfl
      | some t => exact List.all_eq_true.mp h2 t (List.mem_of_getElem? h3)
  have hg : (List.replicate (am_tys.getD ci []).length Value.null).getD k .null = .null := by
    rw [List.getD_eq_getElem?_getD, List.getElem?_replicate, if_pos hk]
    rfl
  unfold am_fv
  rw [hg]
  cases e : am_ty ci k <;> rw [e] at ht <;> simp [am_okt] at ht <;> simp [am_isr, e, am_v] <;> rfl
theorem am_i_new {ci wi : Nat} (hk : (am_kr.getD (am_own M) []).lookup cp = some (ci, wi)) (hci : ci < 100) (hB : u + 1 ≤ B) (hC : c + (am_tys.getD ci []).length ≤ C) (hd : decode (am_by M) pc = .ok (.new cp, 3))
    (kk : am_Tri M d B C (u + 1) (c + (am_tys.getD ci []).length) (pc + 3, ls, .ref K.length :: r, (K ++ [.inl (ci, List.replicate (am_tys.getD ci []).length .null)], am_z I K.length 0, A, J, X)) Q) : am_Tri M d B C u c (pc, ls, r, (K, I, A, J, X)) Q := by
  intro p l e R s m args below meth cd E cx H locs la hR hl hlo
  obtain ⟨hx, hb, hml, hr, hlocks, hname, hown, hG, htr, hex, hRm, hbs, hvn, hol, hE0, hfl⟩ := id cx
  obtain ⟨hw, hn⟩ := am_Kd hk
  have h10 : ci < 10 := by omega
  obtain ⟨⟨C0, T, N⟩, hc⟩ : ∃ q, am_cl[ci]? = some q := ⟨am_cl[ci]'(by exact h10), List.getElem?_eq_getElem (by exact h10)⟩
  obtain ⟨hws, hdis, hfl, ⟨w1, hw1⟩, ⟨w2, hw2⟩, hN⟩ := am_Cd hc
  have hnm : am_nm.getD ci "" = C0 := by
    have : am_cl.map Prod.fst = am_nm.take 10 := rfl
    have h2 : (am_cl.map Prod.fst)[ci]? = some C0 := by rw [List.getElem?_map, hc]; rfl
    rw [this, List.getElem?_take, if_pos h10] at h2
    rw [List.getD_eq_getElem?_getD, h2]
    rfl
  rw [if_pos hci, hnm] at hw
  have hKn := hG.2.1.1 ci _ hc
  have hkk := kk p l e R s m args below meth cd E cx
  rw [hN] at hkk hC
  refine W.newcK hx hb hown (hG.1.use hw rfl args) (hG.1.use hw1 rfl args) (hG.1.use hw2 rfl args) rfl hd (by rw [hRm]; exact hB) (by rw [hRm]; exact hC) hKn.2.1 (h := E.1 + K.length) hR.1 fun H1 kC hkC e1 z1 o1 => ?_
  refine hkk H1 locs la (hR.push (by rw [z1, hR.1]) (fun q hq => o1 q (by rw [← hR.1]; exact hq)) (fun j hj => am_zr (Nat.ne_of_lt hj)) (fun _ _ => rfl) (fun _ _ => rfl) ?_ (fun ce hce => by rw [e1] at hce; cases hce; rfl)) hl hlo
  refine ⟨_, hc, by simp, (u_born (am_ty ci) (am_hts hG.1 hc args) (fun _ h => h) hKn hkC e1 (fun k hk => (hfl k hk).1)).to (fun j hj => ?_)⟩
  rw [am_dflt (by rw [hN]; exact hj), hN]
  unfold am_fv
  by_cases hz : am_isr ci j = true
  · simp only [hz, if_true]
    rw [List.getD_eq_getElem?_getD, List.getElem?_replicate]
    by_cases hjN : j < N <;> simp [hjN, am_v]
  · simp [hz, am_z]
theorem am_i_ldc {t : Nat} (hk : (am_sr.getD (am_own M) []).lookup cp = some t) (hd : decode (am_by M) pc = .ok (.ldc cp, 2)) {h : aH} (kk : am_Tri M d B C u c (pc + 2, ls, .retAddr t :: r, h) Q) : am_Tri M d B C u c (pc, ls, r, h) Q := by
  intro p l e R s m args below meth cd E cx H locs la hR hl hlo
  have h1 := am_of am_sall rfl hk
  unfold am_rowS at h1
  split at h1
  · rename_i C0 k0 tx hq
    simp only [Bool.and_eq_true, decide_eq_true_eq] at h1
    obtain ⟨e1, e2⟩ := h1
    have hv := cx.2.2.2.2.2.2.2.1.2.2.2.1 _ _ hq
    dsimp only at hv e1 e2
    rw [e1, e2] at hv
    exact va_ldcS cx.1 cx.2.1 cx.2.2.2.2.2.2.1 hv hd (kk p l e R s m args below meth cd E cx H locs la hR hl hlo)
  · cases h1
theorem am_i_ldc2 {wi : Nat} {v : Int64} (hk : (am_lr.getD (am_own M) []).lookup cp = some (v, wi)) (hd : decode (am_by M) pc = .ok (.ldc2_w cp, 3)) {h : aH} (kk : am_Tri M d B C u c (pc + 3, ls, .long v :: r, h) Q) : am_Tri M d B C u c (pc, ls, r, h) Q := by
  intro p l e R s m args below meth cd E cx H locs la hR hl hlo
  have h1 := am_of am_lall rfl hk
  simp only [am_rowL, decide_eq_true_eq] at h1
  exact lv_ldc2 cx.1 cx.2.1 cx.2.2.2.2.2.2.1 (cx.2.2.2.2.2.2.2.1.1.use h1 rfl args) hd (kk p l e R s m args below meth cd E cx H locs la hR hl hlo)
end SNA
end
section
/-! SOUND: Object(), the ends -/
section SNE
variable {p : Program} {l : Launch} {e : Env} {R : Room} {s : State} {m : MethodId} {args : Array Value} {below : List Frame} {meth : Method} {cd : Code} {H : Heap} {locs : List Loc} {cells slots : Nat}
theorem xm_iret {cc : ByteArray} {Qc : Array Value → State → Outcome → State → Prop} {free : Addr → Prop} {v : Int32} {ty : FieldType} (hexec : p.tables.exec = Jvm.exec) (hb : cd.code = cc) (hr : meth.sig.returnType = some ty) (hn : narrow ty (.int v) = .int v)
    (hq : ∀ t : State, t.heap = H → s.WarmedH t.vm → Qc args s (.returned (some (.int v))) t) (hf : ∀ q ∈ locs, free q.base)
    {pc : Nat} {ls : Array Slot} (hdg : decode cc pc = .ok (.ireturn, 1)) (hlocks : meth.locks = false) : W p l e R s m args below meth cd H locs cells slots (xm_MQ below Qc args s cells slots free) (F0 m pc ls [.int v]) := by
  intro T hT X
  obtain ⟨fs, hret, hrun, hended, hW, hframe⟩ := X.leave (v := some (.int v)) (fun h => by rw [hr] at h; cases h) hlocks
  have hmeth' : T.vm.method? m = some meth := X.method'
  refine ⟨T.setFrames fs, ?_, .returned (some (.int v)), hrun, hended, hq _ hT hW, locs, hW, hframe, hf⟩
  jvm_step X.here [X.here.top, hexec, hb, hdg, hmeth', hr, hn]
  (try refine ⟨rfl, ?_⟩); (try refine ⟨rfl, ?_⟩)
  first | (intro acts; rw [hret _ acts rfl rfl rfl]) | rw [hret _ _ rfl rfl rfl]
  exact Steps.refl _
theorem xm_vret {cc : ByteArray} {Qc : Array Value → State → Outcome → State → Prop} {free : Addr → Prop} (hexec : p.tables.exec = Jvm.exec) (hb : cd.code = cc) (hr : meth.sig.returnType = none)
    (hq : ∀ t : State, t.heap = H → s.WarmedH t.vm → Qc args s (.returned none) t) (hf : ∀ q ∈ locs, free q.base)
    {pc : Nat} {ls : Array Slot} (hdg : decode cc pc = .ok (.return_, 1)) (hlocks : meth.locks = false) : W p l e R s m args below meth cd H locs cells slots (xm_MQ below Qc args s cells slots free) (F0 m pc ls []) := by
  intro T hT X
  obtain ⟨fs, hret, hrun, hended, hW, hframe⟩ := X.leave (v := none) (fun _ => rfl) hlocks
  have hmeth' : T.vm.method? m = some meth := X.method'
  refine ⟨T.setFrames fs, ?_, .returned none, hrun, hended, hq _ hT hW, locs, hW, hframe, hf⟩
  jvm_step X.here [X.here.top, hexec, hb, hdg, hmeth', hr]
  (try refine ⟨rfl, ?_⟩); (try refine ⟨rfl, ?_⟩)
  first | (intro acts; rw [hret _ acts rfl rfl rfl]) | rw [hret _ _ rfl rfl rfl]
  exact Steps.refl _
end SNE
section SNF
variable {M d B C u c : Nat} {Q : aO → aH → Prop} {pc : Nat} {ls : List (Nat × Value)} {r : List Value} {h : aH} {x : Int32} {cp a : Nat}
theorem am_Re {E : aE} {s t : State} {H : Heap} (hR : am_R E h s H) (ht : t.heap = H) (hW : s.WarmedH t.vm) : am_R E h t t.heap := by
  rw [ht]
  exact hR.moved hW.alike
theorem am_i_ret {ty : FieldType} (hre : am_re M = some ty) (hn : narrow ty (.int x) = .int x) (hu : u ≤ B) (hc : c ≤ C) (hd : decode (am_by M) pc = .ok (.ireturn, 1)) (hq : Q (.inl (some (.int x))) h) : am_Tri M d B C u c (pc, ls, [.int x], h) Q := by
  intro p l e R s m args below meth cd E cx H locs la hR hl hlo
  refine W.widen hu hc ?_
  exact xm_iret cx.1 cx.2.1 (by rw [cx.2.2.2.1]; exact hre) hn (fun t ht hW => ⟨_, h, hq, am_Re hR ht hW, rfl⟩) hlo hd cx.2.2.2.2.1
theorem am_i_retv (hre : am_re M = none) (hu : u ≤ B) (hc : c ≤ C) (hd : decode (am_by M) pc = .ok (.return_, 1)) (hq : Q (.inl none) h) : am_Tri M d B C u c (pc, ls, [], h) Q := by
  intro p l e R s m args below meth cd E cx H locs la hR hl hlo
  refine W.widen hu hc ?_
  exact xm_vret cx.1 cx.2.1 (by rw [cx.2.2.2.1]; exact hre) (fun t ht hW => ⟨_, h, hq, am_Re hR ht hW, rfl⟩) hlo hd cx.2.2.2.2.1
theorem am_ob1 : Jvm.Cond.instanceMethod objectInit ∈ lw_tbl := by decide +kernel
theorem am_ob2 : Jvm.Cond.code objectInit ⟨#[0xb1]⟩ 1 none ∈ lw_tbl := by decide +kernel
theorem am_vcats (E : aE) (r : List Value) : ((r.map (am_v E)).map fun v => v.category).sum = (r.map Value.category).sum := by
  rw [List.map_map]
  congr 1
  apply List.map_congr_left
  intro v _
  exact am_v_cat E v
theorem am_i_oinit {wi : Nat} (hk : (am_or.getD (am_own M) []).lookup cp = some wi) (h8 : (r.map Value.category).sum ≤ 8) (hd1 : 1 ≤ d) (hd : decode (am_by M) pc = .ok (.invokespecial cp, 3)) (kk : am_Tri M d B C u c (pc + 3, ls, r, h) Q) : am_Tri M d B C u c (pc, ls, .ref a :: r, h) Q := by
  intro p l e R s m args below meth cd E cx H locs la hR hl hlo
  obtain ⟨hx, hb, hml, hr, hlocks, hname, hown, hG, htr, hex, hRm, hbs, hvn, hol, hE0, hfl⟩ := id cx
  have h1 := am_of am_oall rfl hk
  simp only [am_rowO, decide_eq_true_eq] at h1
  obtain ⟨i1, w1⟩ := List.getElem?_of_mem am_ob1
  obtain ⟨i2, w2⟩ := List.getElem?_of_mem am_ob2
  refine W.objInit hx hb hown (hG.1.use h1 rfl args) (hG.1.use w1 rfl args) (hG.1.use w2 rfl args) rfl (by rw [hml]; exact hl.1) rfl hd (by rw [hRm]; exact hd1) ?_ (kk p l e R s m args below meth cd E cx H locs la hR hl hlo)
  rw [hRm, am_vcats]
  show 2 * 0 + _ + 12 ≤ 40 * d
  omega
end SNF
end
section
/-! SOUND: a new exception, made and thrown. What ctorMessageOffV and athrowLeaves of the library give, with the heap said whole -/
def am_rte : String := "java/lang/RuntimeException"
def am_thr : String := "java/lang/Throwable"
/-- the words that it takes, for the exception cls whose constructor calls its superclass by the entry ix -/
def am_xw (own : String) (ic : Nat) (cls : String) (ix : Nat) (bx : ByteArray) : List Jvm.Cond :=
  (Bundle.throwableAtoms ++ Bundle.throwableSAtoms) ++ ((Bundle.passSAtoms cls am_rte ix bx ++ Bundle.chainSAtoms am_rte ["java/lang/Exception"]) ++
  [.methodLink own ic (Bundle.initS cls), .instantiable cls 6, .selects cls Bundle.tFill0 Bundle.tFill0, .selects cls Bundle.tFill Bundle.tFill,
   .lays cls am_thr "cause" "Ljava/lang/Throwable;", .lays cls am_thr "stackTrace" Bundle.steD, .lays cls am_thr "suppressedExceptions" Bundle.listD, .lays cls am_thr "detailMessage" "Ljava/lang/String;",
   .isRef (.static am_thr "UNASSIGNED_STACK" Bundle.steD), .isRef (.static am_thr "SUPPRESSED_SENTINEL" Bundle.listD),
   .fieldLink am_thr 198 am_thr "backtrace" "Ljava/lang/Object;", .lays am_thr am_thr "backtrace" "Ljava/lang/Object;", .lays cls am_thr "backtrace" "Ljava/lang/Object;"])
section XTH
variable {p : Program} {l : Launch} {e : Env} {R : Room} {s : State} {m₀ : MethodId} {args : Array Value} {below : List Frame} {meth : Method} {c : Code} {W0 : State} {locs : List Loc} {cells slots : Nat}
set_option maxHeartbeats 2000000 in
theorem xm_throwS (X : Stand p l e R s m₀ args below meth c W0 locs cells slots) (hexec : p.tables.exec = Jvm.exec) (htr : e.platform.stackTraces = false) {own cls : String} {ic ix : Nat} {bx : ByteArray}
    (hown : s.vm.findClass own = some m₀.cls) (hcls : Bundle.fit cls = true) (hb0 : decode bx 0 = .ok (.aload_n 0, 1)) (hb1 : decode bx 1 = .ok (.aload_n 1, 1)) (hb2 : decode bx 2 = .ok (.invokespecial ix, 3)) (hb5 : decode bx 5 = .ok (.return_, 1))
    (h : ∀ w ∈ am_xw own ic cls ix bx, w.before args s = true) (hlocs : ∀ x ∈ locs, ∀ cell, s.heap[x.base]? = some cell → cell.vm.isStatics = false)
    {a : Addr} {cX : ClassId} {kX : Class} (hfoundX : s.vm.findClass cls = some cX) (hkX : s.vm.classes[cX]? = some kX) (hcell : W0.heap[a]? = some (freshCell cX kX)) (hnew : s.heap.size ≤ a)
    {msg : Value} (hmsg : msg.isRef = true)
    {g : JFrame} (hg : g.method = m₀) (hsize : g.locals.size = c.maxLocals) (hlocked : g.locked = none) (hentered : g.entered = []) {rest : List Value} (hstack : g.stack = msg :: .ref a :: .ref a :: rest)
    (hd6 : decode c.code g.pc = .ok (.invokespecial ic, 3)) (hd9 : decode c.code (g.pc + 3) = .ok (.athrow, 1)) (hout : ∀ x ∈ c.exceptionTable.toList, covers x (g.pc + 3) = false)
    (hRframes : 5 < R.frames) (hRlocals : 2 * g.monitorRoom + ((Value.ref a :: rest).map fun v => v.category).sum + 81 ≤ R.locals) (hlocks : meth.locks = false) :
    ∃ (U : State) (ce : Cell), Steps p.tables e below (W0.setTop g) U ∧ U.status = .running ∧ Ended U below (.threw a) ∧ s.WarmedH U.vm ∧ s.sameButNew ({ U with vm := s.vm } : State) locs cells slots ∧
      U.heap[a]? = some ce ∧ ce.cls = cX ∧ ce.vm = .none ∧ U.heap.size = W0.heap.size ∧ ∀ q, q ≠ a → U.heap[q]? = W0.heap[q]? := by
  have howns : e.platform.frameOwnsMonitors = true := by rw [X.admits.platform]
  have hfin : e.platform.finalization = false := by rw [X.admits.platform]
  have hpl : e.platform.magicAccessors = ({} : Platform).magicAccessors := by rw [X.admits.platform]
  obtain ⟨T, Z0, L, -, Y⟩ := ThrowableC.of_atoms (args := args) howns hfin hpl (fun x hx => h x (by simp [am_xw, hx]))
  obtain ⟨Z, M, LZ, LM, hnZ⟩ := Init0T.ofS_atoms (args := args) hpl L Y (fun x hx => h x (by simp [am_xw, hx]))
  obtain ⟨P2, Ps, hlen, L2, hL, hP2m, hlink2, hlink⟩ := Bundle.chainS (args := args) hpl hnZ ["java/lang/Exception"] am_rte (by decide +kernel) (by decide +kernel) (fun x hx => h x (by simp [am_xw, hx]))
  obtain ⟨P1, L1, hP1m, hP1s⟩ := PassC.ofS_atoms (args := args) (s := s) hpl (X := cls) (Y := am_rte) (Bundle.fit_spec hcls).1 (by decide +kernel) hb0 hb1 hb2 hb5 (fun x hx => h x (by simp [am_xw, hx]))
  have hlink1 : P1.sup = P2.m := Option.some.inj (hP1s.symm.trans hP2m)
  have hfound : s.vm.findClass cls = some P1.m.cls := findClass_of_methodNamed hP1m
  cases Option.some.inj (hfoundX.symm.trans hfound)
  obtain ⟨c1, kX', hc1, hk, hord, -, -, hn6⟩ := Cond.instantiable_spec (h (.instantiable cls 6) (by simp [am_xw]))
  cases Option.some.inj (hc1.symm.trans hfound)
  cases Option.some.inj (hkX.symm.trans hk)
  have hsel0 : selectMethod e.platform s.vm P1.m.cls T.fill0 = .method T.fill0 := by
    obtain ⟨c2, r2, m2, q1, q2, q3, q4, -⟩ := Cond.selects_spec (h (.selects cls Bundle.tFill0 Bundle.tFill0) (by simp [am_xw]))
    cases Option.some.inj (q1.symm.trans hfound)
    cases Option.some.inj (q2.symm.trans (State.methodFound?_of_named Y.fill0 (by decide)))
    cases Option.some.inj (q3.symm.trans Y.fill0)
    rw [Launch.admits_selectMethod X.admits]; exact q4
  have hselF : selectMethod e.platform s.vm P1.m.cls T.fill = .method T.fill := by
    obtain ⟨c2, r2, m2, q1, q2, q3, q4, -⟩ := Cond.selects_spec (h (.selects cls Bundle.tFill Bundle.tFill) (by simp [am_xw]))
    cases Option.some.inj (q1.symm.trans hfound)
    cases Option.some.inj (q2.symm.trans (State.methodFound?_of_named Y.fill (by decide)))
    cases Option.some.inj (q3.symm.trans Y.fill)
    rw [Launch.admits_selectMethod X.admits]; exact q4
  obtain ⟨cellS0, hcS0, hiss⟩ := Y.statics
  obtain ⟨u0, hu0⟩ := Cond.staticRefV Y.unassigned L.unassignedStatic L.statics hcS0 hiss (h (.isRef (.static am_thr "UNASSIGNED_STACK" Bundle.steD)) (by simp [am_xw]))
  obtain ⟨sen, hsen⟩ := Cond.staticRefV Y.sentinel L.sentinelStatic L.statics hcS0 hiss (h (.isRef (.static am_thr "SUPPRESSED_SENTINEL" Bundle.listD)) (by simp [am_xw]))
  obtain ⟨ci198, i198, fB, hk198, hg198, ha198, hsB, -, hnB, htB, hffB⟩ := Cond.ownField (t := .object "java/lang/Object") Y.found L.cls (by decide +kernel) (h (.fieldLink am_thr 198 am_thr "backtrace" "Ljava/lang/Object;") (by simp [am_xw])) (h (.lays am_thr am_thr "backtrace" "Ljava/lang/Object;") (by simp [am_xw])) e.platform hpl
  obtain ⟨cellS, hcS', heS, -, hkeep⟩ := X.same.2.2.2.2.2 T.aS cellS0 hcS0
  have hcellS : W0.heap[T.aS]? = some cellS := hcS'
  have hout' : ∀ i, (⟨T.aS, i⟩ : Loc) ∉ locs := fun i hmem => by
    have := hlocs _ hmem cellS0 hcS0
    rw [hiss] at this; cases this
  have hknownS : cellS.vm ≠ .unknown := by
    rw [heS]; intro hu
    rw [show cellS0.vm = .unknown from hu] at hiss
    cases hiss
  have hneS : T.aS ≠ a := Nat.ne_of_lt (Nat.lt_of_lt_of_le (Array.getElem?_eq_some_iff.mp hcS0).1 hnew)
  obtain ⟨iM, hffM⟩ := Y.msg
  obtain ⟨tyC, dC, hdC, hdnC⟩ := Cond.laysAt hfound hk Y.cause (h (.lays cls am_thr "cause" "Ljava/lang/Throwable;") (by simp [am_xw]))
  obtain ⟨tyS, dS, hdS, hdnS⟩ := Cond.laysAt hfound hk Y.stack (h (.lays cls am_thr "stackTrace" Bundle.steD) (by simp [am_xw]))
  obtain ⟨tyP, dP, hdP, hdnP⟩ := Cond.laysAt hfound hk Y.supp (h (.lays cls am_thr "suppressedExceptions" Bundle.listD) (by simp [am_xw]))
  obtain ⟨tyM, dM, hdM, hdnM⟩ := Cond.laysAt hfound hk hffM (h (.lays cls am_thr "detailMessage" "Ljava/lang/String;") (by simp [am_xw]))
  obtain ⟨tyB, dB, hdB, hdnB⟩ := Cond.laysAt hfound hk hffB (h (.lays cls am_thr "backtrace" "Ljava/lang/Object;") (by simp [am_xw]))
  have bC := Cond.laysApart hdB hdC hdnB hdnC (by rw [hnB, Y.causeName]; decide)
  have bS := Cond.laysApart hdB hdS hdnB hdnS (by rw [hnB, Y.stackName]; decide)
  have bP := Cond.laysApart hdB hdP hdnB hdnP (by rw [hnB, Y.suppName]; decide)
  have hskip : SkipFacts T e.platform s (fun u => u) u0 ((preparedCellV T.toThrowableT (freshCell P1.m.cls kX) a u0 sen).withEntry W0.cur) :=
    ⟨{ ci198 := ci198, i198 := i198, fBack := fB }, ⟨hk198, hg198, ha198, hsB⟩, by
      have := fresh_default (c := P1.m.cls) tyB
      rw [htB] at this
      simpa [preparedCellV, Cell.setSlot, Cell.withEntry, Array.getElem?_setIfInBounds, bC, bS, bP, bC.symm, bS.symm, bP.symm, defaultValue] using this, fun _ _ => rfl⟩
  obtain ⟨tm, methC, cdC, kC, vm₁, hnC, -, -, -, -, -, -, -, hW₁, st1⟩ := Steps.initColdS (tb := p.tables) (e := e) (below := below) (s := s) (U := W0) X.here hexec X.warmed hpl hown (t := Bundle.initS cls) rfl rfl (Bundle.fit_spec hcls).2
    (h (.methodLink own ic (Bundle.initS cls)) (by simp [am_xw])) (h (.instanceMethod (Bundle.initS cls)) (by simp [am_xw, Bundle.passSAtoms])) (bytes := bx) (maxL := 2) (h (.code (Bundle.initS cls) bx 2 none) (by simp [am_xw, Bundle.passSAtoms]))
    (f := g) hg (a := a) (msg := msg) (rest := .ref a :: rest) hstack hd6
  cases Option.some.inj (hnC.symm.trans hP1m)
  have X₁ := X.noted hW₁
  have hlen1 : Ps.length = 1 := hlen
  obtain ⟨vm₂, X₂, st2⟩ := X₁.ctorMessageOffV hexec (g := { g with stack := .ref a :: rest }) hg hsize T L Z LZ M LM (P1 :: P2 :: Ps)
    (fun P hP => by
      rcases List.mem_cons.mp hP with rfl | hP
      · exact L1
      · rcases List.mem_cons.mp hP with rfl | hP
        · exact L2
        · exact hL P hP) ⟨hlink1, hlink2, hlink⟩ (u0 := u0) (sen := sen) (self := a) hmsg (cell := freshCell P1.m.cls kX) (cellS := cellS)
    hcell (fun _ => by simp) (by simp) rfl rfl hsel0 hselF hcellS hneS hknownS (by rw [hkeep _ (hout' _)]; exact hu0) (by rw [hkeep _ (hout' _)]; exact hsen)
    (Takes.of_laid hk hord tyC (by rw [Y.causeType]; rfl)) (Takes.of_laid hk hord tyS (by rw [Y.stackType]; exact fits_refV_array _ u0)) (Takes.of_laid hk hord tyP (by rw [Y.suppType]; exact fits_refV_object _ sen))
    (Takes.of_laid hk hord tyM (by rw [Y.msgType]; exact fits_refV_object _ ⟨msg, hmsg⟩)) Y.objLocals hskip htr [] hd6
    (by simp only [List.length_cons, hlen1]; omega) (by simp only [List.length_cons, hlen1]; exact hRlocals)
  obtain ⟨hwalk, hrun, hended, hWU, hsame⟩ := X₂.athrowLeaves hexec (g := { g with stack := .ref a :: rest, pc := g.pc + 3 }) hg hlocked hentered hout (a := a) (rest := rest) rfl hd9 hlocks
  have hlt : a < ((W0.setVm vm₁).setVm vm₂).heap.size := (Array.getElem?_eq_some_iff.mp hcell).1
  refine ⟨_, _, st1 _ (fun acts => by rw [doInvoke_state]; exact st2 _ hwalk), hrun, hended, hWU, ?_, heapAt_setCell_self (s := (W0.setVm vm₁).setVm vm₂) (plainBareV T.toThrowableT (freshCell P1.m.cls kX) a u0 sen msg) hlt, rfl, rfl, ?_, ?_⟩
  · refine hsame.weaken (fun y hy hlt' => ?_) (Nat.le_refl _) (Nat.le_refl _)
    rcases List.mem_append.mp hy with h1 | h1
    · exact h1
    · exfalso
      have hb : y.base = a := by
        simp only [List.mem_cons, List.not_mem_nil, or_false] at h1
        rcases h1 with rfl | rfl | rfl | rfl | rfl <;> rfl
      rw [hb] at hlt'
      exact absurd hlt' (Nat.not_lt.mpr hnew)
  · show (((W0.setVm vm₁).setVm vm₂).setCell a _).heap.size = _
    rw [size_setCell]
    rfl
  · intro q hq
    exact heapAt_setCell_ne _ (Ne.symm hq)
end XTH
/-- of an exception's constructor: the entry by which it calls its superclass's, and its bytes -/
def am_xc : List (Nat × ByteArray) := [(7, prog_14_method_2_code), (7, prog_15_method_2_code), (7, prog_22_method_2_code), (13, prog_23_method_4_code)]
def am_u1 : Jvm.Cond := .laysStatic "java/lang/Throwable" "UNASSIGNED_STACK" "[Ljava/lang/StackTraceElement;"
def am_u2 : Jvm.Cond := .laysStatic "java/lang/Throwable" "SUPPRESSED_SENTINEL" "Ljava/util/List;"
def am_u3 : Jvm.Cond := .isRef (.static "java/lang/Throwable" "UNASSIGNED_STACK" "[Ljava/lang/StackTraceElement;")
def am_u4 : Jvm.Cond := .isRef (.static "java/lang/Throwable" "SUPPRESSED_SENTINEL" "Ljava/util/List;")
def am_okX (w : Jvm.Cond) : Bool := decide (w = am_u1) || decide (w = am_u2) || decide (w = am_u3) || decide (w = am_u4) || (decide (w ∈ lw_tbl) && (am_gw w || am_dw w))
def am_rowX (own : Nat) (q : Nat × Nat) : Bool := match am_ex[q.2 - 100]?, am_xc[q.2 - 100]? with
  | some cls, some (ix, bx) => decide (100 ≤ q.2) && Bundle.fit cls && decide (Jvm.Cond.initialized cls ∈ lw_tbl) && (am_xw (am_nm.getD own "") q.1 cls ix bx).all am_okX && decide (decode bx 0 = .ok (.aload_n 0, 1)) && decide (decode bx 1 = .ok (.aload_n 1, 1)) && decide (decode bx 2 = .ok (.invokespecial ix, 3)) && decide (decode bx 5 = .ok (.return_, 1))
  | _, _ => false
theorem am_xall : (List.range 14).all (fun own => (am_sx.getD own []).all (am_rowX own)) = true := by decide +kernel
theorem am_okX.before {E : aE} {s : State} {w : Jvm.Cond} (h : am_okX w = true) (hG : am_G E s) (hN : E.2.1.size = E.1) (hH : ∀ q : Nat, q < E.1 → s.heap[q]? = E.2.1[q]?) (args : Array Value) : w.before args s = true := by
  obtain ⟨g1, g2, g3, g4, g5, g6, g7, g8, g9, g10⟩ := hG
  simp only [am_okX, Bool.or_eq_true, Bool.and_eq_true, decide_eq_true_eq] at h
  rcases h with (((h | h) | h) | h) | ⟨hm, hg⟩
  · rw [h]; exact g7.lays hN hH args
  · rw [h]; exact g8.lays hN hH args
  · rw [h]; exact g7.ref hN hH args
  · rw [h]; exact g8.ref hN hH args
  · rcases hg with hg | hg
    · obtain ⟨i, hi⟩ := List.getElem?_of_mem hm
      exact g1.use hi hg args
    · exact g9.use hm hg args
end
section
/-! SOUND: throw new X("..") -/
section SNX
variable {M d B C u c : Nat} {Q : aO → aH → Prop} {pc : Nat} {ls : List (Nat × Value)} {r : List Value} {K : List aK} {I A : Nat → Nat → Int32} {J : Nat → Nat → Int64} {Xs : Nat × (Nat → Int32)} {cp q w X wi t : Nat}
set_option maxHeartbeats 1000000 in
theorem am_i_throw (hk : (am_kr.getD (am_own M) []).lookup cp = some (X, wi)) (hq : (am_sr.getD (am_own M) []).lookup q = some t) (hw : (am_sx.getD (am_own M) []).lookup w = some X) (hhs : am_hs M = []) (h8 : (r.map Value.category).sum ≤ 8)
    (hd0 : decode (am_by M) pc = .ok (.new cp, 3)) (hd3 : decode (am_by M) (pc + 3) = .ok (.dup, 1)) (hd4 : decode (am_by M) (pc + 4) = .ok (.ldc q, 2)) (hd6 : decode (am_by M) (pc + 6) = .ok (.invokespecial w, 3)) (hd9 : decode (am_by M) (pc + 9) = .ok (.athrow, 1))
    (hdd : 6 ≤ d) (hB : u + 1 ≤ B) (hC : c + 6 ≤ C) (hQ : Q (.inr (X, K.length)) (K ++ [.inr (.inr ())], I, A, J, Xs)) : am_Tri M d B C u c (pc, ls, r, (K, I, A, J, Xs)) Q := by
  intro p l e R s m args below meth cd E cx H locs la hR hl hlo
  obtain ⟨hx, hb, hml, hr, hlocks, hname, hown, hG, htr, hex, hRm, hbs, hvn, hol, hE0, hfl⟩ := id cx
  intro T0 hT0 X0
  have hle : s.heap.size ≤ H.size := by rw [← hT0]; exact X0.same.2.1
  refine (?_ : W p l e R s m args below meth cd H locs u c _ _) T0 hT0 X0
  have h1 := am_of am_xall rfl hw
  unfold am_rowX at h1
  split at h1
  · rename_i cls ix bx hcl hxc
    simp only [Bool.and_eq_true, decide_eq_true_eq, List.all_eq_true] at h1
    obtain ⟨⟨⟨⟨⟨⟨⟨hX, hfit⟩, hini⟩, hws⟩, b0⟩, b1⟩, b2⟩, b5⟩ := h1
    dsimp only at hX hcl hxc hws
    have hbef : ∀ x ∈ am_xw (am_nm.getD (am_own M) "") w cls ix bx, x.before args s = true := fun x hx' => am_okX.before (hws x hx') hG hE0 hol args
    have hcn : am_ex.getD (X - 100) "" = cls := by rw [List.getD_eq_getElem?_getD, hcl]; rfl
    obtain ⟨hkw, -⟩ := am_Kd hk
    rw [if_neg (by omega), hcn] at hkw
    obtain ⟨ii, hii⟩ := List.getElem?_of_mem hini
    have hsr := am_of am_sall rfl hq
    unfold am_rowS at hsr
    split at hsr
    · rename_i C0 k0 tx hst
      simp only [Bool.and_eq_true, decide_eq_true_eq] at hsr
      obtain ⟨e1, e2⟩ := hsr
      have hv := hG.2.2.2.1 _ _ hst
      dsimp only at hv e1 e2
      rw [e1, e2] at hv
      refine W.newc hx hb hown (hG.1.use hkw rfl args) (hbef (.instantiable cls 6) (by simp [am_xw])) (hG.1.use hii rfl args) rfl hd0 (by rw [hRm]; exact hB) (by rw [hRm]; exact hC) fun cC kC f1 f2 f3 f4 => ?_
      show W p l e R s m args below meth cd _ locs (u + 1) (c + 6) _ (F0 m (pc + 3) la (.ref H.size :: r.map (am_v E)))
      refine lv_dup hx hb hd3 rfl ?_
      show W p l e R s m args below meth cd _ locs (u + 1) (c + 6) _ (F0 m (pc + 4) la (.ref H.size :: .ref H.size :: r.map (am_v E)))
      refine va_ldcS hx hb hown hv hd4 ?_
      show W p l e R s m args below meth cd _ locs (u + 1) (c + 6) _ (F0 m (pc + 6) la (.ref (E.2.2.2.2 t) :: .ref H.size :: .ref H.size :: r.map (am_v E)))
      intro T hT X1
      have hcell : T.heap[H.size]? = some (freshCell cC kC) := by rw [hT, Array.getElem?_push_size]
      obtain ⟨U, ce, st, hrun, hended, hW, hsame, g1, g2, g3, g4, g5⟩ := xm_throwS X1 hx htr (own := am_nm.getD (am_own M) "") (cls := cls) (ic := w) (ix := ix) (bx := bx) hown hfit b0 b1 b2 b5 hbef
        (fun x hx' cell hc => by rw [hvn x.base cell (hlo x hx') hc]; rfl) f1 f2 hcell hle (msg := .ref (E.2.2.2.2 t)) rfl (g := F0 m (pc + 6) la (.ref (E.2.2.2.2 t) :: .ref H.size :: .ref H.size :: r.map (am_v E))) rfl (by rw [hml]; exact hl.1) rfl rfl (rest := r.map (am_v E)) rfl
        (by rw [hb]; exact hd6) (by rw [hb]; exact hd9) (by
          have h0 : cd.exceptionTable.toList = [] := by
            rw [hhs] at hex
            exact List.map_eq_nil_iff.mp hex
          rw [h0]
          intro x hx'
          cases hx') (by rw [hRm]; show 5 < d; omega) (by
          rw [hRm]
          have h9 := am_vcats E r
          rw [List.map_cons, List.sum_cons, h9]
          show 2 * 0 + (1 + _) + 81 ≤ 40 * d
          omega) hlocks
      have hsz : H.size = E.1 + K.length := hR.1
      refine ⟨U, st, .threw H.size, hrun, hended, ⟨.inr (X, K.length), _, hQ, ?_, ?_⟩, locs, hW, hsame.mono hB hC, hlo⟩
      · refine am_R.moved hW.alike ?_
        refine hR.push (by rw [g4, hT]; simp) (fun z hz => ?_) (fun _ _ => rfl) (fun _ _ => rfl) (fun _ _ => rfl) trivial (fun cell hcell' => ?_)
        · rw [g5 z (Nat.ne_of_lt hz), hT, Array.getElem?_push, if_neg (Nat.ne_of_lt hz)]
        · rw [← hsz, g1] at hcell'
          cases hcell'
          exact g3
      · refine ⟨by rw [hsz], ce, by rw [← hsz]; exact g1, g3, ?_⟩
        rw [hcn, hW.alike.findClass, g2]
        exact f1
    · cases hsr
  · cases h1
end SNX
end
section
/-! CAUGHT: the handler is found, its class linked on the way if it was not -/
/-- what the search for a handler gives, and the tables that it leaves -/
def xm_Finds (e : Env) (s : State) (f : JFrame) (a : Addr) (h : Handler) (vm' : Vm) : Prop :=
  ∀ (Q : Handler → Pre) (E : CtlPost) (d : Bool) (acts : List Action), wp (findHandler f a) Q E e d acts s ↔ Q h d acts (s.setVm vm')
section XC
variable {e : Env}
theorem xm_goY {Q : Handler → Pre} {E : CtlPost} {d : Bool} {acts : List Action} {s : State} {f : JFrame} {a : Addr} {x : ExceptionTableEntry} {t : List ExceptionTableEntry} {c : ClassId} {cell : Cell} (hx : covers x f.pc = true) (h0 : x.catchType ≠ 0)
    (hl : s.vm.ClassLinks e.platform f.method.cls x.catchType c) (hcell : s.heap[a]? = some cell) (hobj : ∀ k, cell.vm ≠ .statics k) (hk : ∃ k, s.vm.classes[cell.cls]? = some k) (hc : ∃ k, s.vm.classes[c]? = some k) (hfit : s.vm.assignable cell.cls c = true) :
    wp (findHandler.go f a (x :: t)) Q E e d acts s ↔ Q (.found x.handlerPc) d acts (s.setVm (s.vm.noted f.method.cls x.catchType (.cls c))) := by
  have hal : s.vm.Alike (s.vm.noted f.method.cls x.catchType (.cls c)) := (Vm.Alike.refl s.vm).noted _ _ _
  obtain ⟨ha, ht⟩ := (resolveClass_links e.toSetting hl).op (op := VmOp.resolveClass f.method.cls x.catchType) rfl
  obtain ⟨k1, hk1⟩ := hk
  obtain ⟨k2, hk2⟩ := hc
  obtain ⟨k1', hk1', -⟩ := hal.2.2 _ _ hk1
  obtain ⟨k2', hk2', -⟩ := hal.2.2 _ _ hk2
  have hf : (s.vm.noted f.method.cls x.catchType (.cls c)).assignable cell.cls c = true := by rw [hal.assignable]; exact hfit
  simp only [covers] at hx
  simp [findHandler.go, hx, h0, ha, ht, hcell, hobj, hk1', hk2', hf, VmOp.dirties, VmOp.acts]
theorem xm_goN {Q : Handler → Pre} {E : CtlPost} {d : Bool} {acts : List Action} {s : State} {f : JFrame} {a : Addr} {x : ExceptionTableEntry} {t : List ExceptionTableEntry} {c : ClassId} {cell : Cell} (hx : covers x f.pc = true) (h0 : x.catchType ≠ 0)
    (hl : s.vm.ClassLinks e.platform f.method.cls x.catchType c) (hcell : s.heap[a]? = some cell) (hobj : ∀ k, cell.vm ≠ .statics k) (hk : ∃ k, s.vm.classes[cell.cls]? = some k) (hc : ∃ k, s.vm.classes[c]? = some k) (hno : s.vm.assignable cell.cls c = false) :
    wp (findHandler.go f a (x :: t)) Q E e d acts s ↔ wp (findHandler.go f a t) Q E e d acts (s.setVm (s.vm.noted f.method.cls x.catchType (.cls c))) := by
  have hal : s.vm.Alike (s.vm.noted f.method.cls x.catchType (.cls c)) := (Vm.Alike.refl s.vm).noted _ _ _
  obtain ⟨ha, ht⟩ := (resolveClass_links e.toSetting hl).op (op := VmOp.resolveClass f.method.cls x.catchType) rfl
  obtain ⟨k1, hk1⟩ := hk
  obtain ⟨k2, hk2⟩ := hc
  obtain ⟨k1', hk1', -⟩ := hal.2.2 _ _ hk1
  obtain ⟨k2', hk2', -⟩ := hal.2.2 _ _ hk2
  have hf : (s.vm.noted f.method.cls x.catchType (.cls c)).assignable cell.cls c = false := by rw [hal.assignable]; exact hno
  simp only [covers] at hx
  simp [findHandler.go, hx, h0, ha, ht, hcell, hobj, hk1', hk2', hf, VmOp.dirties, VmOp.acts]
/-- where the search over such handlers ends: by (start, end, handler, entry of the class) -/
def xm_find (yes : Nat → Option Bool) (pc : Nat) : List (Nat × Nat × Nat × Nat) → Option Nat
  | [] => none
  | (a, b, h, ct) :: t => match Nat.ble a pc && Nat.blt pc b with
    | true => match yes ct with
      | some true => some h
      | some false => xm_find yes pc t
      | none => none
    | false => xm_find yes pc t
theorem xm_cov (x : ExceptionTableEntry) (pc : Nat) : covers x pc = (Nat.ble x.startPc pc && Nat.blt pc x.endPc) := by
  have h1 : ∀ a b : Nat, Nat.ble a b = decide (a ≤ b) := fun a b => by rw [Bool.eq_iff_iff, Nat.ble_eq, decide_eq_true_iff]
  have h2 : ∀ a b : Nat, Nat.blt a b = decide (a < b) := fun a b => h1 (a + 1) b
  rw [h1, h2]
theorem xm_search {s₀ : State} {f : JFrame} {a : Addr} {cell : Cell} {yes : Nat → Option Bool} (hobj : ∀ k, cell.vm ≠ .statics k) (hk0 : ∃ k, s₀.vm.classes[cell.cls]? = some k)
    (hy : ∀ ct b, yes ct = some b → ct ≠ 0 ∧ ∃ c, s₀.vm.ClassLinks e.platform f.method.cls ct c ∧ s₀.vm.assignable cell.cls c = b) {hp : Nat} :
    ∀ (es : List ExceptionTableEntry) (S : State), s₀.WarmedH S.vm → S.heap[a]? = some cell → xm_find yes f.pc (es.map (fun h => (h.startPc, h.endPc, h.handlerPc, h.catchType))) = some hp →
      ∃ vm', s₀.WarmedH vm' ∧ ∀ (Q : Handler → Pre) (E : CtlPost) (d : Bool) (acts : List Action), wp (findHandler.go f a es) Q E e d acts S ↔ Q (.found hp) d acts (S.setVm vm') := by
  obtain ⟨k0, hk0⟩ := hk0
  intro es
  induction es with
  | nil => intro S _ _ h; cases h
  | cons x es ih =>
    intro S hW hcell h
    rw [List.map_cons, xm_find] at h
    obtain ⟨k0', hk0', -⟩ := hW.alike.2.2 _ _ hk0
    cases hc : Nat.ble x.startPc f.pc && Nat.blt f.pc x.endPc with
    | false =>
      rw [hc] at h
      obtain ⟨vm', hW', hq⟩ := ih S hW hcell h
      have hcov : covers x f.pc = false := by rw [xm_cov]; exact hc
      exact ⟨vm', hW', fun Q E d acts => by rw [W.findHandler_go_skip hcov]; exact hq Q E d acts⟩
    | true =>
      rw [hc] at h
      have hcov : covers x f.pc = true := by rw [xm_cov]; exact hc
      cases hb : yes x.catchType with
      | none => simp [hb] at h
      | some b =>
        obtain ⟨h0, c, hl, hfit⟩ := hy _ _ hb
        obtain ⟨dk, _, _, kt, hd, _, _, _, _, hkt, _, hopen⟩ := hl.here
        obtain ⟨kt', hkt', -⟩ := hW.alike.2.2 _ _ hkt
        cases b with
        | true =>
          simp [hb] at h
          refine ⟨_, hW.noted hd hopen (State.rightAt_cls hl), fun Q E d acts => ?_⟩
          rw [← h]
          exact xm_goY hcov h0 (hW.classLinks hl) hcell hobj ⟨k0', hk0'⟩ ⟨kt', hkt'⟩ (by rw [hW.alike.assignable]; exact hfit)
        | false =>
          simp [hb] at h
          obtain ⟨vm', hW', hq⟩ := ih (S.setVm (S.vm.noted f.method.cls x.catchType (.cls c))) (hW.noted hd hopen (State.rightAt_cls hl)) hcell h
          refine ⟨vm', hW', fun Q E d acts => ?_⟩
          rw [xm_goN hcov h0 (hW.classLinks hl) hcell hobj ⟨k0', hk0'⟩ ⟨kt', hkt'⟩ (by rw [hW.alike.assignable]; exact hfit)]
          exact hq Q E d acts
theorem xm_stepC {s : State} {a : Addr} {f : JFrame} {r : List Frame} {pc : Nat} {vm' : Vm} (hfind : xm_Finds e s f a (.found pc) vm') :
    (stepThrowing e s a (.java f :: r)).Is ((s.setVm vm').setFrames (.java { f with pc := pc, stack := [.ref a] } :: r)) [] := by
  simp only [stepThrowing, searchFrame, vmDo]
  generalize hr : Sem.go _ e false [] s = res
  obtain ⟨as, rfl, ha⟩ := Sem.eq_ok_of hr (a := Handler.found pc) (s' := s.setVm vm') (acts' := []) (by simp [hfind _ _ _ _])
  exact ⟨rfl, ha⟩
theorem xm_caught {tb : Tables} {s target : State} {g : JFrame} {c : Code} {below : List Frame} {a : Addr} (h : At s g.method c below) {pc : Nat} {vm' : Vm}
    (hfind : xm_Finds e ((s.setTop g).pushFrame (.throwing a)) g a (.found pc) vm') (hrest : Steps tb e below ((s.setVm vm').setTop { g with pc := pc, stack := [.ref a] }) target) :
    Steps tb e below ((s.setTop g).pushFrame (.throwing a)) target := by
  obtain ⟨hgo, hw⟩ := h.throwing a
  refine Steps.head hgo hw ?_
  rw [stepThread_throwing (frames_entered h.top _), (xm_stepC (s := (s.setTop g).pushFrame (.throwing a)) hfind).1]
  obtain ⟨g₀, hg⟩ := Option.isSome_iff_exists.mp h.top
  obtain ⟨r, hr⟩ := State.topJava?_eq_some.mp hg
  have hr' : (s.setVm vm').frames = .java g₀ :: r := hr
  rw [State.setTop_of_frames _ hr'] at hrest
  have key : ∀ (u : State) (F G : List Frame), ((u.setFrames F).setVm vm').setFrames G = (u.setVm vm').setFrames G := fun u F G => by
    rw [show (u.setFrames F).setVm vm' = (u.setVm vm').setFrames F from rfl, State.setFrames_setFrames]
  rw [hr, List.tail_cons, State.pushFrame, key, State.setTop_of_frames _ hr, key]
  exact hrest
variable {p : Program} {l : Launch} {R : Room} {s : State} {m : MethodId} {args : Array Value} {below : List Frame} {meth : Method} {c : Code} {locs : List Loc} {cells slots : Nat} {T : State}
/-- the exception at a is caught in this method: the walk goes on at the handler -/
theorem xm_catch (X : Stand p l e R s m args below meth c T locs cells slots) {a : Addr} {g : JFrame} (hg : g.method = m) {cell : Cell} (hcell : T.heap[a]? = some cell) (hvm : cell.vm = .none) (hk0 : ∃ k, s.vm.classes[cell.cls]? = some k)
    {yes : Nat → Option Bool} (hy : ∀ ct b, yes ct = some b → ct ≠ 0 ∧ ∃ c, s.vm.ClassLinks e.platform m.cls ct c ∧ s.vm.assignable cell.cls c = b) {hp : Nat}
    (hfind : xm_find yes g.pc (c.exceptionTable.toList.map (fun h => (h.startPc, h.endPc, h.handlerPc, h.catchType))) = some hp) :
    ∃ vm', Stand p l e R s m args below meth c (T.setVm vm') locs cells slots ∧
      ∀ target, Steps p.tables e below ((T.setVm vm').setTop { g with pc := hp, stack := [.ref a] }) target → Steps p.tables e below ((T.setTop g).pushFrame (.throwing a)) target := by
  subst hg
  have hv : ((T.setTop g).pushFrame (.throwing a)).vm = T.vm := Stand.throwing_vm T g a
  have hh : ((T.setTop g).pushFrame (.throwing a)).heap = T.heap := Stand.throwing_heap T g a
  obtain ⟨vm', hW', hq⟩ := xm_search (e := e) (s₀ := s) (f := g) (a := a) (cell := cell) (yes := yes) (fun k h => by rw [hvm] at h; cases h) hk0 hy c.exceptionTable.toList ((T.setTop g).pushFrame (.throwing a)) (by rw [hv]; exact X.warmed) (by rw [hh]; exact hcell) hfind
  refine ⟨vm', X.noted hW', fun target hrest => ?_⟩
  exact xm_caught X.here (fun Q E d acts => by rw [W.findHandler_eq (by rw [hv]; exact X.method') X.code]; exact hq Q E d acts) hrest
end XC
end
section
/-! SOUND: calls -/
/-- does a catch of the class at the entry ct take the exception X? -/
def am_yes (own X ct : Nat) : Option Bool := match (am_kr.getD own []).lookup ct with
  | some (X', _) => match Nat.beq X' X, Nat.ble 100 X' && Nat.blt X' 104 && Nat.ble 100 X && Nat.blt X 104 && Nat.blt 0 ct with
    | true, true => some true
    | false, true => some false
    | _, false => none
  | none => none
/-- what comes behind an exception X (the object k) that leaves a call at pc -/
def am_Thr (M d B C u c pc : Nat) (ls : List (Nat × Value)) (X k : Nat) (h : aH) (Q : aO → aH → Prop) : Prop := match am_hs M with
  | [] => u ≤ B ∧ c ≤ C ∧ Q (.inr (X, k)) h
  | hs => match xm_find (am_yes (am_own M) X) pc hs with
    | some hp => am_Tri M d B C u c (hp, ls, [.ref k], h) Q
    | none => False
/-- what comes behind a call at pc -/
def am_Aft (M d B C u c pc : Nat) (ls : List (Nat × Value)) (r : List Value) (o : aO) (h : aH) (Q : aO → aH → Prop) : Prop := match o with
  | .inl (some v) => am_Tri M d B C u c (pc + 3, ls, v :: r, h) Q
  | .inl none => am_Tri M d B C u c (pc + 3, ls, r, h) Q
  | .inr (X, k) => am_Thr M d B C u c pc ls X k h Q
theorem am_Wm {M : Nat} (hM : M < 200) : am_gw (am_w0 M) = true ∧ (∃ i : Nat, lw_tbl[i]? = some (Jvm.Cond.initialized (am_y M).cls)) ∧ (am_y M).cls = am_nm.getD (am_own M) "" ∧ plainFor (am_y M) = true ∧ ((am_y M).cls ≠ "java/lang/invoke/MethodHandle" ∧ (am_y M).cls ≠ "java/lang/invoke/VarHandle") ∧
    (parseMethodDescriptor (am_y M).desc).map (fun d => d.parameters.length) = am_na[M]? ∧ am_ml M ≤ 21 ∧ (am_kd M = 0 → (∃ i : Nat, lw_tbl[i]? = some (Jvm.Cond.instanceMethod (am_y M))) ∧ ∃ i : Nat, lw_tbl[i]? = some (Jvm.Cond.selects (am_y M).cls (am_y M) (am_y M))) ∧
    (am_kd M = 1 → ∃ i : Nat, lw_tbl[i]? = some (Jvm.Cond.static (am_y M))) ∧ (am_kd M = 2 → (∃ i : Nat, lw_tbl[i]? = some (Jvm.Cond.instanceMethod (am_y M))) ∧ (am_y M).name = "<init>" ∧ am_re M = none ∧ am_hs M = []) := by
  have h := List.all_eq_true.mp am_wall M (List.mem_range.mpr hM)
  have hd : am_wi.getD M (0, 0, 0, 0, 0) = am_wi.getD M (0, 0, 0, 0, 3) := by
    have hl : M < am_wi.length := Nat.lt_of_lt_of_le hM (by decide +kernel)
    rw [List.getD_eq_getElem?_getD, List.getD_eq_getElem?_getD, List.getElem?_eq_getElem hl]
    rfl
  unfold am_rowW at h
  unfold am_kd
  rw [← hd]
  generalize am_wi.getD M (0, 0, 0, 0, 0) = q at h ⊢
  obtain ⟨w1, w2, w3, w4, k⟩ := q
  simp only [Bool.and_eq_true, decide_eq_true_eq] at h
  obtain ⟨⟨⟨⟨⟨⟨⟨⟨h1, h2⟩, h3⟩, h4⟩, h5⟩, h6⟩, h7⟩, h8⟩, h9⟩ := h
  refine ⟨h1, ⟨w4, h2⟩, h3, h4, ⟨h5, h6⟩, h7, h8, fun e => ?_, fun e => ?_, fun e => ?_⟩
  · dsimp only at e
    subst e
    simp only [Bool.and_eq_true, decide_eq_true_eq] at h9
    exact ⟨⟨w2, h9.1⟩, ⟨w3, h9.2⟩⟩
  · dsimp only at e
    subst e
    simp only [decide_eq_true_eq] at h9
    exact ⟨w2, h9⟩
  · dsimp only at e
    subst e
    simp only [Bool.and_eq_true, decide_eq_true_eq] at h9
    exact ⟨⟨w2, h9.1.1.1⟩, h9.1.1.2, h9.1.2, h9.2⟩
theorem am_cw {M : Nat} {args : Array Value} {s : State} (h : (am_w0 M).before args s = true) : xm_code s (am_y M) (am_by M) (am_ml M) (am_re M) := by
  unfold am_w0 at h
  cases e : am_hs M with
  | nil => rw [e] at h; exact xm_code_of h
  | cons q l => rw [e] at h; exact xm_code_with h
theorem am_cs {M : Nat} (hM : M < 200) {s : State} (hW : am_Wd s) (args : Array Value) : (am_w0 M).before args s = true := by
  obtain ⟨i, hi⟩ := List.getElem?_of_mem (am_wm M hM)
  exact hW.use hi (am_Wm hM).1 args
end
section
/-! SOUND: a call, with its callee's contract -/
section SNI
variable {M M' d' d B C u c B' C' : Nat} {Q : aO → aH → Prop} {pc : Nat} {ls : List (Nat × Value)} {r sk as : List Value} {h h' : aH} {o : aO}
theorem am_vlist (E : aE) (v : Option Value) (r : List Value) : (v.map (am_v E)).toList ++ r.map (am_v E) = (v.toList ++ r).map (am_v E) := by cases v <;> rfl
theorem am_ys {E : aE} {s : State} {m : MethodId} {e : Env} {args : Array Value} {own X : Nat} {cX : ClassId} (hG : am_G E s) (hown : s.vm.findClass (am_nm.getD own "") = some m.cls) (hpl : e.platform.magicAccessors = ({} : Platform).magicAccessors)
    (hcX : s.vm.findClass (am_ex.getD (X - 100) "") = some cX) : ∀ ct b, am_yes own X ct = some b → ct ≠ 0 ∧ ∃ c', s.vm.ClassLinks e.platform m.cls ct c' ∧ s.vm.assignable cX c' = b := by
  intro ct b hb
  unfold am_yes at hb
  cases hk : (am_kr.getD own []).lookup ct with
  | none => rw [hk] at hb; cases hb
  | some q =>
    obtain ⟨X', wi⟩ := q
    rw [hk] at hb
    dsimp only at hb
    obtain ⟨hw, -⟩ := am_Kd hk
    cases hr : (Nat.ble 100 X' && Nat.blt X' 104 && Nat.ble 100 X && Nat.blt X 104 && Nat.blt 0 ct) with
    | false => rw [hr] at hb; cases h1 : Nat.beq X' X <;> rw [h1] at hb <;> cases hb
    | true =>
      rw [hr] at hb
      simp only [Bool.and_eq_true, Nat.ble_eq, Nat.blt_eq] at hr
      obtain ⟨⟨⟨⟨r1, r2⟩, r3⟩, r4⟩, r5⟩ := hr
      rw [if_neg (by omega)] at hw
      obtain ⟨c', hc', hcl⟩ := Cond.classLink_spec hown (hG.1.use hw rfl args) e.platform hpl
      have hex : ∀ Y : Nat, 100 ≤ Y → Y < 104 → am_ex[Y - 100]? = some (am_ex.getD (Y - 100) "") := by
        intro Y h1 h2
        have hl : Y - 100 < am_ex.length := by
          have : am_ex.length = 4 := rfl
          omega
        rw [List.getD_eq_getElem?_getD, List.getElem?_eq_getElem hl]
        rfl
      refine ⟨by omega, c', hcl, ?_⟩
      cases he : Nat.beq X' X with
      | true =>
        rw [he] at hb
        cases hb
        have e1 : X' = X := Nat.eq_of_beq_eq_true he
        subst e1
        have hcas : Jvm.Cond.castable (am_ex.getD (X' - 100) "") (am_ex.getD (X' - 100) "") ∈ lw_tbl := by
          have key : ∀ i, i < 4 → Jvm.Cond.castable (am_ex.getD i "") (am_ex.getD i "") ∈ lw_tbl := by decide +kernel
          exact key _ (by omega)
        obtain ⟨c3, c4, hc3, hc4, hasg⟩ := Cond.castable_spec (hG.2.2.2.2.2.2.2.2.1.use hcas rfl args)
        cases Option.some.inj (hc3.symm.trans hcX)
        cases Option.some.inj (hc4.symm.trans hc')
        exact hasg
      | false =>
        rw [he] at hb
        cases hb
        have e1 : X - 100 ≠ X' - 100 := fun q => by
          have : X' = X := by omega
          rw [this, Nat.beq_refl] at he
          cases he
        obtain ⟨c3, c4, hc3, hc4, hasg⟩ := hG.2.2.2.2.2.2.2.2.2 _ _ _ _ e1 (hex X r3 r4) (hex X' r1 r2)
        cases Option.some.inj (hc3.symm.trans hcX)
        cases Option.some.inj (hc4.symm.trans hc')
        exact hasg
set_option maxHeartbeats 1000000 in
theorem am_i_call {i : Instr} (hcon : am_Con d' M' as h o h' B' C') (hM' : M' < 200) (hd1 : d' + 1 ≤ d) (hB : u + B' ≤ B) (hC : c + C' ≤ C) (h8 : (r.map Value.category).sum ≤ 8) (hdec : decode (am_by M) pc = .ok (i, 3))
    (hent : ∀ (p : Program) (l : Launch) (e : Env) (R : Room) (s : State) (m : MethodId) (args : Array Value) (below : List Frame) (meth : Method) (cd : Code) (E : aE), am_Cx M d B C p l e R s m args below meth cd E → ∀ (H : Heap) (locs : List Loc) (la : Array Slot), am_R E h s H → lv_has la (am_ml M) (am_l E ls) →
      ∀ T : State, T.heap = H → Stand p l e R s m args below meth cd T locs u c → xm_Ent p l e R s m args below meth cd T locs u c (F0 m pc la (sk.map (am_v E))) (r.map (am_v E)) (am_y M') (as.map (am_v E)).toArray)
    (hk : am_Aft M d B C (u + B') (c + C') pc ls r o h' Q) : am_Tri M d B C u c (pc, ls, sk, h) Q := by
  intro p l e R s m args below meth cd E cx H locs la hR hl hlo
  obtain ⟨hx, hb, hml, hr, hlocks, hname, hown, hG, htr, hex, hRm, hbs, hvn, hol, hE0, hfl⟩ := id cx
  intro T hT X
  have hE := hent p l e R s m args below meth cd E cx H locs la hR hl T hT X
  obtain ⟨-, ⟨wI, hwI⟩, -, -, -, -, hml', -⟩ := am_Wm hM'
  obtain ⟨oc, st, t, Bs, L, e1, e2, X', hq, hL, e3, e4, hWt, stp⟩ := xm_call hE (hcon l E hfl) (by rw [hRm]; exact hd1) (maxL := am_ml M') (by rw [hRm]; show 8 + (am_ml M' + 11) + 40 * d' ≤ 40 * d; omega) rfl (by rw [hml]; exact hl.1) (by rw [hb]; exact hdec)
    (by show 2 * 0 + _ ≤ 8; rw [am_vcats]; omega) (bytes := am_by M') (ret := am_re M') (fun U hU => ⟨am_cs hM' (hG.1.warm hU) _, am_cw (am_cs hM' (hG.1.warm hU) #[]), (hG.1.warm hU).use hwI rfl _⟩) (by rw [hRm]; exact hB) (by rw [hRm]; exact hC)
    (fun U hU hW => ⟨rfl, by rw [hU, hT]; exact hR.moved hW.alike, hG.warm hW⟩)
  obtain ⟨oo, hh, ⟨rfl, rfl⟩, hR', hout⟩ := hq
  have hRs : am_R E hh s Bs.heap := by rw [e3]; exact hR'.moved hWt.alike.symm
  have hlo' : ∀ q ∈ locs ++ L, E.1 ≤ q.base := fun q hq => (List.mem_append.mp hq).elim (hlo q) (hL q)
  cases oo with
  | inl v =>
    have hoc : oc = .returned (v.map (am_v E)) := hout
    subst hoc
    have kk : am_Tri M d B C (u + B') (c + C') (pc + 3, ls, v.toList ++ r, hh) Q := by cases v <;> exact hk
    obtain ⟨tt, a1, a2⟩ := kk p l e R s m args below meth cd E cx Bs.heap (locs ++ L) la hRs hl hlo' Bs rfl X'
    refine ⟨tt, stp _ ?_, a2⟩
    rw [← am_vlist] at a1
    exact a1
  | inr q =>
    obtain ⟨Xn, k⟩ := q
    obtain ⟨hoc, ce, c1, c2, c3⟩ := hout
    subst hoc
    have hcX : s.vm.findClass (am_ex.getD (Xn - 100) "") = some ce.cls := by rw [← hWt.alike.findClass]; exact c3
    have hk' : am_Thr M d B C (u + B') (c + C') pc ls Xn k hh Q := hk
    unfold am_Thr at hk'
    cases hs : am_hs M with
    | nil =>
      rw [hs] at hk' hex
      obtain ⟨hu, hc', hQ⟩ := hk'
      have h0 : cd.exceptionTable.toList = [] := List.map_eq_nil_iff.mp hex
      obtain ⟨l1, l2, l3, l4, l5⟩ := X'.leaveThrown (E.1 + k) (g := { F0 m pc la (sk.map (am_v E)) with stack := r.map (am_v E) }) rfl rfl rfl (by rw [h0]; intro x hx'; cases hx') hlocks
      refine ⟨_, stp _ l1, .threw (E.1 + k), l2, l3, ⟨.inr (Xn, k), hh, hQ, ?_, rfl, ce, ?_, c2, ?_⟩, locs ++ L, l4, l5.mono hu hc', hlo'⟩
      · exact am_R.moved (u := s) (U := Bs.setFrames (.throwing (E.1 + k) :: below)) l4.alike hRs
      · show Bs.heap[E.1 + k]? = some ce
        rw [e3]
        exact c1
      · show Bs.vm.findClass _ = some ce.cls
        rw [e4]
        exact c3
    | cons q0 qs =>
      rw [hs] at hk'
      dsimp only at hk'
      cases hf : xm_find (am_yes (am_own M) Xn) pc (q0 :: qs) with
      | none => rw [hf] at hk'; exact hk'.elim
      | some hp =>
        rw [hf] at hk'
        obtain ⟨kc, hkc, -⟩ := Vm.findClass_spec hcX
        have hpl : e.platform.magicAccessors = ({} : Platform).magicAccessors := by rw [X.admits.platform]
        obtain ⟨vm', X2, st2⟩ := xm_catch X' (a := E.1 + k) (g := { F0 m pc la (sk.map (am_v E)) with stack := r.map (am_v E) }) rfl (cell := ce) (by rw [e3]; exact c1) c2 ⟨kc, hkc⟩ (yes := am_yes (am_own M) Xn) (am_ys (e := e) (args := args) hG hown hpl hcX) (hp := hp) (by rw [hex, hs]; exact hf)
        have kk : am_Tri M d B C (u + B') (c + C') (hp, ls, [.ref k], hh) Q := hk'
        obtain ⟨tt, a1, a2⟩ := kk p l e R s m args below meth cd E cx Bs.heap (locs ++ L) la hRs hl hlo' (Bs.setVm vm') rfl X2
        exact ⟨tt, stp _ (st2 _ a1), a2⟩
end SNI
end
section
/-! SOUND: how a call is entered -/
theorem am_tk {as r : List Value} : ∀ {n : Nat} {acc sk : List Value}, am_take n acc sk = some (as, r) → ∃ pre : List Value, as = pre ++ acc ∧ sk = pre.reverse ++ r ∧ pre.length = n := by
  intro n
  induction n with
  | zero => intro acc sk h; cases h; exact ⟨[], rfl, rfl, rfl⟩
  | succ n ih =>
    intro acc sk h
    cases sk with
    | nil => cases h
    | cons v sk =>
      obtain ⟨pre, h1, h2, h3⟩ := ih (show am_take n (v :: acc) sk = some (as, r) from h)
      exact ⟨pre ++ [v], by rw [h1]; simp, by rw [h2]; simp, by simp [h3]⟩
theorem am_nmc {ci : Nat} {q : vw_C} (hq : am_cl[ci]? = some q) : am_nm.getD ci "" = q.1 := by
  have h10 : ci < 10 := (List.getElem?_eq_some_iff.mp hq).1
  have : am_cl.map Prod.fst = am_nm.take 10 := rfl
  have h2 : (am_cl.map Prod.fst)[ci]? = some q.1 := by rw [List.getElem?_map, hq]; rfl
  rw [this, List.getElem?_take, if_pos h10] at h2
  rw [List.getD_eq_getElem?_getD, h2]
  rfl
theorem am_Md {own cp M' wi : Nat} {nest : Bool} (h : (am_mr.getD own []).lookup cp = some (M', wi, nest)) : M' < 200 ∧ lw_tbl[wi]? = some (if nest = true then Jvm.Cond.methodLinkNest (am_nm.getD own "") cp (am_y M') "BlockFront" else Jvm.Cond.methodLink (am_nm.getD own "") cp (am_y M')) := by
  have h1 := am_of am_mall rfl h
  simp only [am_rowM, Bool.and_eq_true, decide_eq_true_eq] at h1
  exact h1
section SNT
variable {M M' d B C u c cp wi n pc : Nat} {nest : Bool} {ls : List (Nat × Value)} {sk as r : List Value} {K : List aK} {I A : Nat → Nat → Int32} {J : Nat → Nat → Int64} {X : Nat × (Nat → Int32)}
/-- what a call's entry asks -/
def am_Hent (M M' d B C u c pc : Nat) (ls : List (Nat × Value)) (sk as r : List Value) (h : aH) : Prop := ∀ (p : Program) (l : Launch) (e : Env) (R : Room) (s : State) (m : MethodId) (args : Array Value) (below : List Frame) (meth : Method) (cd : Code) (E : aE), am_Cx M d B C p l e R s m args below meth cd E → ∀ (H : Heap) (locs : List Loc) (la : Array Slot), am_R E h s H → lv_has la (am_ml M) (am_l E ls) →
      ∀ T : State, T.heap = H → Stand p l e R s m args below meth cd T locs u c → xm_Ent p l e R s m args below meth cd T locs u c (F0 m pc la (sk.map (am_v E))) (r.map (am_v E)) (am_y M') (as.map (am_v E)).toArray
theorem am_len1 {M' n : Nat} {as' : List Value} (hM : M' < 200) (hna : am_na[M']? = some n) (hl : as'.length = n) : ∀ sig, parseMethodDescriptor (am_y M').desc = some sig → as'.length = sig.parameters.length := by
  intro sig hs
  have h := (am_Wm hM).2.2.2.2.2.1
  rw [hs, hna] at h
  rw [hl]
  exact (Option.some.inj h).symm
theorem am_entV (hmr : (am_mr.getD (am_own M) []).lookup cp = some (M', wi, nest)) (hna : am_na[M']? = some n) (htk : am_take (n + 1) [] sk = some (as, r)) (hck : am_ckc 0 M' as K r = true) (hd : decode (am_by M) pc = .ok (.invokevirtual cp, 3)) : am_Hent M M' d B C u c pc ls sk as r (K, I, A, J, X) := by
  intro p l e R s m args below meth cd E cx H locs la hR hl T hT Xs
  obtain ⟨hx, hb, hml, hr, hlocks, hname, hown, hG, htr, hex, hRm, hbs, hvn, hol, hE0, hfl⟩ := id cx
  obtain ⟨hM, hw⟩ := am_Md hmr
  obtain ⟨pre, h1, h2, h3⟩ := am_tk htk
  rw [List.append_nil] at h1
  subst h1
  simp only [am_ckc, Bool.and_eq_true, Nat.ble_eq, Nat.blt_eq] at hck
  obtain ⟨⟨⟨c1, c2⟩, c3⟩, c4⟩ := hck
  have hkd : am_kd M' = 0 := (Nat.eq_of_beq_eq_true c3).symm
  obtain ⟨-, -, hcls, -, hy, -, -, hk0, -⟩ := am_Wm hM
  obtain ⟨⟨i1, w1⟩, ⟨i2, w2⟩⟩ := hk0 hkd
  have hcode := am_cw (am_cs hM hG.1 #[])
  cases as with
  | nil => simp at h3
  | cons v as' =>
    have hlen : as'.length = n := by simpa using h3
    have hst : sk.map (am_v E) = (as'.map (am_v E)).reverse ++ am_v E v :: r.map (am_v E) := by
      rw [h2]
      simp
    have hrc : ∃ (b : Addr) (cellB : Cell), am_v E v = .ref b ∧ T.heap[b]? = some cellB ∧ cellB.vm.isStatics = false ∧ s.vm.findClass (am_y M').cls = some cellB.cls := by
      cases v with
      | ref a =>
        have c5 : (match K[a]? with | some (.inl (ci, _)) => Nat.beq ci (am_own M') | _ => false) = true := c4
        split at c5
        · rename_i ci refs hk
          have eo : ci = am_own M' := Nat.eq_of_beq_eq_true c5
          obtain ⟨rr, hrr, -, cell, q1, q2, q3, -⟩ := hR.2.1 a _ hk
          refine ⟨E.1 + a, cell, rfl, by rw [hT]; exact q1, by rw [q3]; rfl, ?_⟩
          rw [hcls, ← eo, am_nmc hrr, q2]
          exact (hG.2.1.1 ci _ hrr).2.1
        · cases c5
      | retAddr i =>
        have c5 : (Nat.beq (am_own M') 12 && Nat.blt i 29) = true := c4
        simp only [Bool.and_eq_true, Nat.blt_eq] at c5
        obtain ⟨g1, g2⟩ := c5
        have hS := hG.2.2.2.2.1
        obtain ⟨⟨cell, q1, q2, q3, q4⟩, -⟩ := hS i g2
        have hlt : E.2.2.2.2 i < E.1 := Nat.not_le.mp q4
        refine ⟨E.2.2.2.2 i, cell, rfl, by rw [hT, hR.2.2.2.1 _ hlt]; exact q1, q2, ?_⟩
        rw [hcls, Nat.eq_of_beq_eq_true g1]
        exact q3
      | _ => cases c4
    obtain ⟨b, cellB, hvb, hcB, hoB, hclB⟩ := hrc
    have hlen' : ∀ sig, parseMethodDescriptor (am_y M').desc = some sig → (as'.map (am_v E)).length = sig.parameters.length := by
      rw [List.length_map]
      exact am_len1 hM hna hlen
    show xm_Ent p l e R s m args below meth cd T locs u c _ _ _ (am_v E v :: as'.map (am_v E)).toArray
    rw [hvb] at hst ⊢
    cases nest with
    | false => exact xm_entV Xs hx hown (hG.1.use hw rfl args) (hG.1.use w1 rfl args) (hG.1.use w2 rfl args) hcode hy hcB hoB hclB rfl hlen' hst (by rw [hb]; exact hd)
    | true => exact xm_entVN Xs hx hown (hG.1.use hw rfl args) (hG.1.use w1 rfl args) (hG.1.use w2 rfl args) hcode hy hcB hoB hclB rfl hlen' hst (by rw [hb]; exact hd)
theorem am_entS (hmr : (am_mr.getD (am_own M) []).lookup cp = some (M', wi, nest)) (hna : am_na[M']? = some n) (htk : am_take n [] sk = some (as, r)) (hck : am_ckc 1 M' as K r = true) (hd : decode (am_by M) pc = .ok (.invokestatic cp, 3)) : am_Hent M M' d B C u c pc ls sk as r (K, I, A, J, X) := by
  intro p l e R s m args below meth cd E cx H locs la hR hl T hT Xs
  obtain ⟨hx, hb, hml, hr, hlocks, hname, hown, hG, htr, hex, hRm, hbs, hvn, hol, hE0, hfl⟩ := id cx
  obtain ⟨hM, hw⟩ := am_Md hmr
  obtain ⟨pre, h1, h2, h3⟩ := am_tk htk
  rw [List.append_nil] at h1
  subst h1
  simp only [am_ckc, Bool.and_eq_true, Nat.ble_eq, Nat.blt_eq] at hck
  obtain ⟨⟨⟨c1, c2⟩, c3⟩, c4⟩ := hck
  have hkd : am_kd M' = 1 := (Nat.eq_of_beq_eq_true c3).symm
  obtain ⟨-, ⟨wI, hwI⟩, hcls, -, hy, -, -, -, hk1, -⟩ := am_Wm hM
  obtain ⟨i1, w1⟩ := hk1 hkd
  have hcode := am_cw (am_cs hM hG.1 #[])
  have hst : sk.map (am_v E) = (as.map (am_v E)).reverse ++ r.map (am_v E) := by
    rw [h2]
    simp
  have hlen' : ∀ sig, parseMethodDescriptor (am_y M').desc = some sig → (as.map (am_v E)).length = sig.parameters.length := by
    rw [List.length_map]
    exact am_len1 hM hna h3
  cases nest with
  | false => exact xm_entS Xs hx hown (hG.1.use hw rfl args) (hG.1.use w1 rfl args) (hG.1.use hwI rfl args) hcode hy rfl hlen' hst (by rw [hb]; exact hd)
  | true => exact xm_entSN Xs hx hown (hG.1.use hw rfl args) (hG.1.use w1 rfl args) (hG.1.use hwI rfl args) hcode hy rfl hlen' hst (by rw [hb]; exact hd)
theorem am_entI (hmr : (am_mr.getD (am_own M) []).lookup cp = some (M', wi, nest)) (hna : am_na[M']? = some n) (htk : am_take (n + 1) [] sk = some (as, r)) (hck : am_ckc 2 M' as K r = true) (hd : decode (am_by M) pc = .ok (.invokespecial cp, 3)) : am_Hent M M' d B C u c pc ls sk as r (K, I, A, J, X) := by
  intro p l e R s m args below meth cd E cx H locs la hR hl T hT Xs
  obtain ⟨hx, hb, hml, hr, hlocks, hname, hown, hG, htr, hex, hRm, hbs, hvn, hol, hE0, hfl⟩ := id cx
  obtain ⟨hM, hw⟩ := am_Md hmr
  obtain ⟨pre, h1, h2, h3⟩ := am_tk htk
  rw [List.append_nil] at h1
  subst h1
  simp only [am_ckc, Bool.and_eq_true, Nat.ble_eq, Nat.blt_eq] at hck
  obtain ⟨⟨⟨c1, c2⟩, c3⟩, c4⟩ := hck
  have hkd : am_kd M' = 2 := (Nat.eq_of_beq_eq_true c3).symm
  obtain ⟨-, -, hcls, -, hy, -, -, -, -, hk2⟩ := am_Wm hM
  obtain ⟨⟨i1, w1⟩, hnm, hre, hhs⟩ := hk2 hkd
  have hcode : (Jvm.Cond.code (am_y M') (am_by M') (am_ml M') none).before args s = true := by
    have h0 := am_cs hM hG.1 args
    unfold am_w0 at h0
    rw [hhs, hre] at h0
    exact h0
  cases as with
  | nil => simp at h3
  | cons v as' =>
    have hlen : as'.length = n := by simpa using h3
    have hst : sk.map (am_v E) = (as'.map (am_v E)).reverse ++ am_v E v :: r.map (am_v E) := by
      rw [h2]
      simp
    have hlen' : ∀ sig, parseMethodDescriptor (am_y M').desc = some sig → (as'.map (am_v E)).length = sig.parameters.length := by
      rw [List.length_map]
      exact am_len1 hM hna hlen
    cases v with
    | ref a =>
      show xm_Ent p l e R s m args below meth cd T locs u c _ _ _ (Value.ref (E.1 + a) :: as'.map (am_v E)).toArray
      cases nest with
      | false => exact xm_entI Xs hx hown hnm (hG.1.use hw rfl args) (hG.1.use w1 rfl args) hcode hy rfl hlen' hst (by rw [hb]; exact hd)
      | true => exact xm_entIN Xs hx hown hnm (hG.1.use hw rfl args) (hG.1.use w1 rfl args) hcode hy rfl hlen' hst (by rw [hb]; exact hd)
    | _ => cases c4
end SNT
end
section
/-! SOUND: switches -/
/-- one case after the other -/
def am_Cs (F : aS → Prop) : List (Prop × aS) → aS → Prop
  | [], s => F s
  | (P, t) :: l, s => (P → F t) ∧ (¬ P → am_Cs F l s)
section SNW
variable {M d B C u c : Nat} {Q : aO → aH → Prop} {pc : Nat} {ls : List (Nat × Value)} {r : List Value} {h : aH} {x : Int32}
theorem am_csx {F : aS → Prop} : ∀ {ks : List Int32} {tg : List Nat} {t0 : aS}, ks.length = tg.length → am_Cs F (am_cases x ls r h ks tg) t0 → (∀ (j : Nat) (k : Int32) (t : Nat), ks[j]? = some k → tg[j]? = some t → x = k → (∀ (i : Nat) (k' : Int32), i < j → ks[i]? = some k' → ¬ x = k') → F (t, ls, r, h)) ∧ ((∀ k ∈ ks, ¬ x = k) → F t0) := by
  intro ks
  induction ks with
  | nil =>
    intro tg t0 hl hc
    refine ⟨fun j k t hk => by simp at hk, fun _ => ?_⟩
    cases tg with
    | nil => exact hc
    | cons _ _ => simp at hl
  | cons k ks ih =>
    intro tg t0 hl hc
    cases tg with
    | nil => simp at hl
    | cons t tg =>
      obtain ⟨h1, h2⟩ := hc
      refine ⟨fun j k' t' hk ht hx hlt => ?_, fun hn => ?_⟩
      · cases j with
        | zero =>
          simp at hk ht
          subst hk; subst ht
          exact h1 hx
        | succ j =>
          have hne : ¬ x = k := hlt 0 k (Nat.succ_pos j) rfl
          exact (ih (by simpa using hl) (h2 hne)).1 j k' t' (by simpa using hk) (by simpa using ht) hx (fun i k'' hi hk'' => hlt (i + 1) k'' (by omega) (by simpa using hk''))
      · exact (ih (by simpa using hl) (h2 (hn k List.mem_cons_self))).2 (fun k' hk' => hn k' (List.mem_cons_of_mem _ hk'))
/-- the first place at which x stands in the list -/
theorem am_fst (x : Int32) : ∀ ks : List Int32, x ∈ ks → ∃ j, ks[j]? = some x ∧ ∀ (i : Nat) (k : Int32), i < j → ks[i]? = some k → ¬ x = k := by
  intro ks
  induction ks with
  | nil => intro h; cases h
  | cons k ks ih =>
    intro h
    by_cases e : x = k
    · exact ⟨0, by rw [e]; rfl, fun i _ hi => absurd hi (Nat.not_lt_zero i)⟩
    · obtain ⟨j, h1, h2⟩ := ih ((List.mem_cons.mp h).resolve_left e)
      refine ⟨j + 1, by simpa using h1, fun i k' hi hk => ?_⟩
      cases i with
      | zero => simp at hk; rw [← hk]; exact e
      | succ i => exact h2 i k' (by omega) (by simpa using hk)
theorem am_i_tsw {df lo hi : Int} {offs : Array Int} {len : Nat} {t : Nat} {tg : List Nat} {ks : List Int32} {imm : Int32} (hd : decode (am_by M) pc = .ok (.tableswitch df lo hi offs, len)) (htg : am_tg (.tableswitch df lo hi offs) pc (t :: tg) imm ks = true)
    (hk : am_Cs (fun s => am_Tri M d B C u c s Q) (am_cases x ls r h ks tg) (t, ls, r, h)) : am_Tri M d B C u c (pc, ls, .int x :: r, h) Q := by
  simp only [am_tg, am_tgt, Bool.and_eq_true, decide_eq_true_eq, List.drop_succ_cons, List.drop_zero] at htg
  obtain ⟨⟨⟨h1, h2⟩, h3⟩, h4⟩ := htg
  have hl1 : tg.length = offs.size := by have := congrArg List.length h2; simpa using this
  have hl2 : ks.length = offs.size := by have := congrArg List.length h3; simpa using this
  obtain ⟨k1, k2⟩ := am_csx (hl2.trans hl1.symm) hk
  intro p l e R s m args below meth cd E cx H locs la hR hl hlo
  by_cases hm : x ∈ ks
  · obtain ⟨j, hj, hjm⟩ := am_fst x ks hm
    have hjl : j < offs.size := by rw [← hl2]; exact (List.getElem?_eq_some_iff.mp hj).1
    have e3 : x.toInt = lo + (j : Int) := by
      have a1 : (ks.map Int32.toInt)[j]? = some x.toInt := by rw [List.getElem?_map, hj]; rfl
      rw [h3, List.getElem?_map, List.getElem?_range hjl] at a1
      exact (Option.some.inj a1).symm
    obtain ⟨tj, htj⟩ : ∃ tj, tg[j]? = some tj := ⟨tg[j]'(by omega), List.getElem?_eq_getElem (by omega)⟩
    obtain ⟨oj, hoj⟩ : ∃ oj, offs[j]? = some oj := ⟨offs[j], Array.getElem?_eq_getElem hjl⟩
    have e4 : (tj : Int) = (pc : Int) + oj := by
      have a1 : (tg.map Int.ofNat)[j]? = some (tj : Int) := by rw [List.getElem?_map, htj]; rfl
      rw [h2, List.getElem?_map, Array.getElem?_toList, hoj] at a1
      exact (Option.some.inj a1).symm
    exact lv_tableIn cx.1 cx.2.1 hd (by omega) (by omega) (off := oj) (by rw [show (x.toInt - lo).toNat = j by omega]; exact hoj) e4.symm (k1 j x tj hj htj rfl hjm p l e R s m args below meth cd E cx H locs la hR hl hlo)
  · refine lv_tableOut cx.1 cx.2.1 hd ?_ h1 (k2 (fun k hk' e => hm (e ▸ hk')) p l e R s m args below meth cd E cx H locs la hR hl hlo)
    rcases Int.lt_or_le x.toInt lo with q | q
    · exact Or.inl q
    · rcases Int.lt_or_le hi x.toInt with q2 | q2
      · exact Or.inr q2
      · exfalso
        apply hm
        have hjl : (x.toInt - lo).toNat < offs.size := by omega
        have a1 : (ks.map Int32.toInt)[(x.toInt - lo).toNat]? = some x.toInt := by
          rw [h3, List.getElem?_map, List.getElem?_range hjl]
          show some (lo + ((x.toInt - lo).toNat : Int)) = some x.toInt
          congr 1
          omega
        rw [List.getElem?_map] at a1
        obtain ⟨k', hk', e'⟩ := Option.map_eq_some_iff.mp a1
        rw [← Int32.toInt_inj.mp e']
        exact List.mem_of_getElem? hk'
theorem am_lof : ∀ (ps : List (Int × Int)) (ks : List Int32) (df : Int) (j : Nat) (q : Int × Int), ks.map Int32.toInt = ps.map Prod.fst → ks[j]? = some x → ps[j]? = some q → (∀ (i : Nat) (k : Int32), i < j → ks[i]? = some k → ¬ x = k) → Op.lookupswitch.offset ps df x.toInt = q.2 := by
  intro ps
  induction ps with
  | nil => intro ks df j q _ _ h; simp at h
  | cons p0 ps ih =>
    intro ks df j q he hj hq hn
    cases ks with
    | nil => simp at he
    | cons k ks =>
      simp only [List.map_cons, List.cons.injEq] at he
      obtain ⟨a, o⟩ := p0
      cases j with
      | zero =>
        simp at hj hq
        subst hj; subst hq
        rw [Op.lookupswitch.offset_cons, if_pos he.1.symm]
      | succ j =>
        have hne : ¬ x = k := hn 0 k (Nat.succ_pos j) rfl
        rw [lv_osw hne he.1]
        exact ih ks df j q he.2 (by simpa using hj) (by simpa using hq) (fun i k' hi hk => hn (i + 1) k' (by omega) (by simpa using hk))
theorem am_lod : ∀ (ps : List (Int × Int)) (ks : List Int32) (df : Int), ks.map Int32.toInt = ps.map Prod.fst → (∀ k ∈ ks, ¬ x = k) → Op.lookupswitch.offset ps df x.toInt = df := by
  intro ps
  induction ps with
  | nil => intro ks df _ _; rfl
  | cons p0 ps ih =>
    intro ks df he hn
    cases ks with
    | nil => simp at he
    | cons k ks =>
      simp only [List.map_cons, List.cons.injEq] at he
      obtain ⟨a, o⟩ := p0
      rw [lv_osw (hn k List.mem_cons_self) he.1]
      exact ih ks df he.2 (fun k' hk => hn k' (List.mem_cons_of_mem _ hk))
theorem am_i_lsw {df : Int} {ps : Array (Int × Int)} {len : Nat} {t : Nat} {tg : List Nat} {ks : List Int32} {imm : Int32} (hd : decode (am_by M) pc = .ok (.lookupswitch df ps, len)) (htg : am_tg (.lookupswitch df ps) pc (t :: tg) imm ks = true)
    (hk : am_Cs (fun s => am_Tri M d B C u c s Q) (am_cases x ls r h ks tg) (t, ls, r, h)) : am_Tri M d B C u c (pc, ls, .int x :: r, h) Q := by
  simp only [am_tg, am_tgt, Bool.and_eq_true, decide_eq_true_eq, List.drop_succ_cons, List.drop_zero] at htg
  obtain ⟨⟨⟨h1, h2⟩, h3⟩, h4⟩ := htg
  have hl1 : tg.length = ps.size := by have := congrArg List.length h2; simpa using this
  have hl2 : ks.length = ps.size := by have := congrArg List.length h3; simpa using this
  obtain ⟨k1, k2⟩ := am_csx (hl2.trans hl1.symm) hk
  intro p l e R s m args below meth cd E cx H locs la hR hl hlo
  by_cases hm : x ∈ ks
  · obtain ⟨j, hj, hjm⟩ := am_fst x ks hm
    have hjl : j < ps.size := by rw [← hl2]; exact (List.getElem?_eq_some_iff.mp hj).1
    obtain ⟨tj, htj⟩ : ∃ tj, tg[j]? = some tj := ⟨tg[j]'(by omega), List.getElem?_eq_getElem (by omega)⟩
    obtain ⟨oj, hoj⟩ : ∃ oj, ps.toList[j]? = some oj := ⟨ps.toList[j]'(by simpa using hjl), List.getElem?_eq_getElem (by simpa using hjl)⟩
    have e4 : (tj : Int) = (pc : Int) + oj.2 := by
      have a1 : (tg.map Int.ofNat)[j]? = some (tj : Int) := by rw [List.getElem?_map, htj]; rfl
      rw [h2, List.getElem?_map, hoj] at a1
      exact (Option.some.inj a1).symm
    exact lv_lookup cx.1 cx.2.1 hd h4 (am_lof ps.toList ks df j oj h3 hj hoj hjm) e4.symm (k1 j x tj hj htj rfl hjm p l e R s m args below meth cd E cx H locs la hR hl hlo)
  · exact lv_lookup cx.1 cx.2.1 hd h4 (am_lod ps.toList ks df h3 (fun k hk' e => hm (e ▸ hk'))) h1 (k2 (fun k hk' e => hm (e ▸ hk')) p l e R s m args below meth cd E cx H locs la hR hl hlo)
end SNW
end
section
/-! SOUND: a step, a run -/
def am_Wp (M d B C u c : Nat) (R : aR) (Q : aO → aH → Prop) : Prop := match R with
  | none => False
  | some (.inl s) => am_Tri M d B C u c s Q
  | some (.inr (.inl (P, s))) => P ∧ am_Tri M d B C u c s Q
  | some (.inr (.inr (.inl (P, s, t)))) => (P → am_Tri M d B C u c s Q) ∧ (¬ P → am_Tri M d B C u c t Q)
  | some (.inr (.inr (.inr (.inl (l, s))))) => am_Cs (fun s => am_Tri M d B C u c s Q) l s
  | some (.inr (.inr (.inr (.inr (.inl (M', as, (nx, ls, r, h))))))) => ∃ (d' : Nat) (o : aO) (h' : aH) (B' C' : Nat), am_Con d' M' as h o h' B' C' ∧ d' + 1 ≤ d ∧ u + B' ≤ B ∧ c + C' ≤ C ∧ am_Aft M d B C (u + B') (c + C') (nx - 3) ls r o h' Q
  | some (.inr (.inr (.inr (.inr (.inr (.inl (P, o, h))))))) => P ∧ u ≤ B ∧ c ≤ C ∧ Q o h
  | some (.inr (.inr (.inr (.inr (.inr (.inr (.inl (P, n, s)))))))) => P ∧ u + 1 ≤ B ∧ c + n ≤ C ∧ am_Tri M d B C (u + 1) (c + n) s Q
  | some (.inr (.inr (.inr (.inr (.inr (.inr (.inr (X, k, h)))))))) => 6 ≤ d ∧ u + 1 ≤ B ∧ c + 6 ≤ C ∧ Q (.inr (X, k)) h
section SST
variable {M d B C u c : Nat} {Q : aO → aH → Prop} {pc nx : Nat} {tg : List Nat} {imm : Int32} {ks : List Int32} {ls : List (Nat × Value)} {st : List Value} {h : aH}
theorem am_z_iadd (hd : decode (am_by M) pc = .ok (.iadd, 1)) (hW : am_Wp M d B C u c (am_x M (.iadd) pc (pc + 1) tg imm ks ls st h) Q) : am_Tri M d B C u c (pc, ls, st, h) Q := by
  simp only [am_x] at hW
  split at hW
  · exact am_i_iadd hd hW
  · exact hW.elim
theorem am_z_isub (hd : decode (am_by M) pc = .ok (.isub, 1)) (hW : am_Wp M d B C u c (am_x M (.isub) pc (pc + 1) tg imm ks ls st h) Q) : am_Tri M d B C u c (pc, ls, st, h) Q := by
  simp only [am_x] at hW
  split at hW
  · exact am_i_isub hd hW
  · exact hW.elim
theorem am_z_imul (hd : decode (am_by M) pc = .ok (.imul, 1)) (hW : am_Wp M d B C u c (am_x M (.imul) pc (pc + 1) tg imm ks ls st h) Q) : am_Tri M d B C u c (pc, ls, st, h) Q := by
  simp only [am_x] at hW
  split at hW
  · exact am_i_imul hd hW
  · exact hW.elim
theorem am_z_iand (hd : decode (am_by M) pc = .ok (.iand, 1)) (hW : am_Wp M d B C u c (am_x M (.iand) pc (pc + 1) tg imm ks ls st h) Q) : am_Tri M d B C u c (pc, ls, st, h) Q := by
  simp only [am_x] at hW
  split at hW
  · exact am_i_iand hd hW
  · exact hW.elim
theorem am_z_ladd (hd : decode (am_by M) pc = .ok (.ladd, 1)) (hW : am_Wp M d B C u c (am_x M (.ladd) pc (pc + 1) tg imm ks ls st h) Q) : am_Tri M d B C u c (pc, ls, st, h) Q := by
  simp only [am_x] at hW
  split at hW
  · exact am_i_ladd hd hW
  · exact hW.elim
theorem am_z_lmul (hd : decode (am_by M) pc = .ok (.lmul, 1)) (hW : am_Wp M d B C u c (am_x M (.lmul) pc (pc + 1) tg imm ks ls st h) Q) : am_Tri M d B C u c (pc, ls, st, h) Q := by
  simp only [am_x] at hW
  split at hW
  · exact am_i_lmul hd hW
  · exact hW.elim
theorem am_z_land (hd : decode (am_by M) pc = .ok (.land, 1)) (hW : am_Wp M d B C u c (am_x M (.land) pc (pc + 1) tg imm ks ls st h) Q) : am_Tri M d B C u c (pc, ls, st, h) Q := by
  simp only [am_x] at hW
  split at hW
  · exact am_i_land hd hW
  · exact hW.elim
theorem am_z_lor (hd : decode (am_by M) pc = .ok (.lor, 1)) (hW : am_Wp M d B C u c (am_x M (.lor) pc (pc + 1) tg imm ks ls st h) Q) : am_Tri M d B C u c (pc, ls, st, h) Q := by
  simp only [am_x] at hW
  split at hW
  · exact am_i_lor hd hW
  · exact hW.elim
theorem am_z_lushr (hd : decode (am_by M) pc = .ok (.lushr, 1)) (hW : am_Wp M d B C u c (am_x M (.lushr) pc (pc + 1) tg imm ks ls st h) Q) : am_Tri M d B C u c (pc, ls, st, h) Q := by
  simp only [am_x] at hW
  split at hW
  · exact am_i_lushr hd hW
  · exact hW.elim
theorem am_z_lshr (hd : decode (am_by M) pc = .ok (.lshr, 1)) (hW : am_Wp M d B C u c (am_x M (.lshr) pc (pc + 1) tg imm ks ls st h) Q) : am_Tri M d B C u c (pc, ls, st, h) Q := by
  simp only [am_x] at hW
  split at hW
  · exact am_i_lshr hd hW
  · exact hW.elim
theorem am_z_lshl (hd : decode (am_by M) pc = .ok (.lshl, 1)) (hW : am_Wp M d B C u c (am_x M (.lshl) pc (pc + 1) tg imm ks ls st h) Q) : am_Tri M d B C u c (pc, ls, st, h) Q := by
  simp only [am_x] at hW
  split at hW
  · exact am_i_lshl hd hW
  · exact hW.elim
theorem am_z_lcmp (hd : decode (am_by M) pc = .ok (.lcmp, 1)) (hW : am_Wp M d B C u c (am_x M (.lcmp) pc (pc + 1) tg imm ks ls st h) Q) : am_Tri M d B C u c (pc, ls, st, h) Q := by
  simp only [am_x] at hW
  split at hW
  · exact am_i_lcmp hd hW
  · exact hW.elim
theorem am_z_i2l (hd : decode (am_by M) pc = .ok (.i2l, 1)) (hW : am_Wp M d B C u c (am_x M (.i2l) pc (pc + 1) tg imm ks ls st h) Q) : am_Tri M d B C u c (pc, ls, st, h) Q := by
  simp only [am_x] at hW
  split at hW
  · exact am_i_i2l hd hW
  · exact hW.elim
theorem am_z_l2i (hd : decode (am_by M) pc = .ok (.l2i, 1)) (hW : am_Wp M d B C u c (am_x M (.l2i) pc (pc + 1) tg imm ks ls st h) Q) : am_Tri M d B C u c (pc, ls, st, h) Q := by
  simp only [am_x] at hW
  split at hW
  · exact am_i_l2i hd hW
  · exact hW.elim
theorem am_z_i2c (hd : decode (am_by M) pc = .ok (.i2c, 1)) (hW : am_Wp M d B C u c (am_x M (.i2c) pc (pc + 1) tg imm ks ls st h) Q) : am_Tri M d B C u c (pc, ls, st, h) Q := by
  simp only [am_x] at hW
  split at hW
  · exact am_i_i2c hd hW
  · exact hW.elim
theorem am_z_pop (hd : decode (am_by M) pc = .ok (.pop, 1)) (hW : am_Wp M d B C u c (am_x M (.pop) pc (pc + 1) tg imm ks ls st h) Q) : am_Tri M d B C u c (pc, ls, st, h) Q := by
  simp only [am_x] at hW
  split at hW
  · exact am_i_pop hd hW
  · exact hW.elim
theorem am_z_dup2 (hd : decode (am_by M) pc = .ok (.dup2, 1)) (hW : am_Wp M d B C u c (am_x M (.dup2) pc (pc + 1) tg imm ks ls st h) Q) : am_Tri M d B C u c (pc, ls, st, h) Q := by
  simp only [am_x] at hW
  split at hW
  · exact am_i_dup2 hd hW
  · exact hW.elim
theorem am_z_idiv (hd : decode (am_by M) pc = .ok (.idiv, 1)) (hW : am_Wp M d B C u c (am_x M (.idiv) pc (pc + 1) tg imm ks ls st h) Q) : am_Tri M d B C u c (pc, ls, st, h) Q := by
  simp only [am_x] at hW
  split at hW
  · exact am_i_idiv hW.1 hd hW.2
  · exact hW.elim
theorem am_z_dup (hd : decode (am_by M) pc = .ok (.dup, 1)) (hW : am_Wp M d B C u c (am_x M (.dup) pc (pc + 1) tg imm ks ls st h) Q) : am_Tri M d B C u c (pc, ls, st, h) Q := by
  simp only [am_x] at hW
  split at hW
  · exact am_i_dupi hd hW
  · exact am_i_dupr hd hW
  · exact hW.elim
theorem am_z_iconst {i : Int} (hd : decode (am_by M) pc = .ok (.iconst i, 1)) (hv : Int32.ofInt i = imm) (hW : am_Wp M d B C u c (am_x M (.iconst i) pc (pc + 1) tg imm ks ls st h) Q) : am_Tri M d B C u c (pc, ls, st, h) Q := by
  exact am_i_iconst hv hd hW
theorem am_z_bipush {i : Int} (hd : decode (am_by M) pc = .ok (.bipush i, 2)) (hv : (Int8.ofInt i).toInt32 = imm) (hW : am_Wp M d B C u c (am_x M (.bipush i) pc (pc + 2) tg imm ks ls st h) Q) : am_Tri M d B C u c (pc, ls, st, h) Q := by
  exact am_i_bipush hv hd hW
theorem am_z_sipush {i : Int} (hd : decode (am_by M) pc = .ok (.sipush i, 3)) (hv : (Int16.ofInt i).toInt32 = imm) (hW : am_Wp M d B C u c (am_x M (.sipush i) pc (pc + 3) tg imm ks ls st h) Q) : am_Tri M d B C u c (pc, ls, st, h) Q := by
  exact am_i_sipush hv hd hW
theorem am_z_lconst {i : Fin 2} (hd : decode (am_by M) pc = .ok (.lconst i, 1)) (hW : am_Wp M d B C u c (am_x M (.lconst i) pc (pc + 1) tg imm ks ls st h) Q) : am_Tri M d B C u c (pc, ls, st, h) Q := by
  match i, hd, hW with
  | 0, hd, hW => exact am_i_lconst (X := 0) (by decide) hd hW
  | 1, hd, hW => exact am_i_lconst (X := 1) (by decide) hd hW
theorem am_z_ldc {cp : Nat} (hd : decode (am_by M) pc = .ok (.ldc cp, 2)) (hW : am_Wp M d B C u c (am_x M (.ldc cp) pc (pc + 2) tg imm ks ls st h) Q) : am_Tri M d B C u c (pc, ls, st, h) Q := by
  simp only [am_x] at hW
  split at hW
  · rename_i k hk
    exact am_i_ldc hk hd hW
  · exact hW.elim
theorem am_z_ldc2 {cp : Nat} (hd : decode (am_by M) pc = .ok (.ldc2_w cp, 3)) (hW : am_Wp M d B C u c (am_x M (.ldc2_w cp) pc (pc + 3) tg imm ks ls st h) Q) : am_Tri M d B C u c (pc, ls, st, h) Q := by
  simp only [am_x] at hW
  split at hW
  · rename_i v wi hk
    exact am_i_ldc2 hk hd hW
  · exact hW.elim
theorem am_z_iload {i : Nat} (hd : decode (am_by M) pc = .ok (.iload i, 2)) (hW : am_Wp M d B C u c (am_x M (.iload i) pc (pc + 2) tg imm ks ls st h) Q) : am_Tri M d B C u c (pc, ls, st, h) Q := by
  simp only [am_x, am_iload] at hW
  split at hW
  · rename_i x hx
    exact am_i_iload hx hd hW
  · exact hW.elim
theorem am_z_iload_n {i : Fin 4} (hd : decode (am_by M) pc = .ok (.iload_n i, 1)) (hW : am_Wp M d B C u c (am_x M (.iload_n i) pc (pc + 1) tg imm ks ls st h) Q) : am_Tri M d B C u c (pc, ls, st, h) Q := by
  simp only [am_x, am_iload] at hW
  split at hW
  · rename_i x hx
    exact am_i_iload_n hx hd hW
  · exact hW.elim
theorem am_z_lload {i : Nat} (hd : decode (am_by M) pc = .ok (.lload i, 2)) (hW : am_Wp M d B C u c (am_x M (.lload i) pc (pc + 2) tg imm ks ls st h) Q) : am_Tri M d B C u c (pc, ls, st, h) Q := by
  simp only [am_x, am_lload] at hW
  split at hW
  · rename_i x hx
    exact am_i_lload hx hd hW
  · exact hW.elim
theorem am_z_lload_n {i : Fin 4} (hd : decode (am_by M) pc = .ok (.lload_n i, 1)) (hW : am_Wp M d B C u c (am_x M (.lload_n i) pc (pc + 1) tg imm ks ls st h) Q) : am_Tri M d B C u c (pc, ls, st, h) Q := by
  simp only [am_x, am_lload] at hW
  split at hW
  · rename_i x hx
    exact am_i_lload_n hx hd hW
  · exact hW.elim
theorem am_z_aload {i : Nat} (hd : decode (am_by M) pc = .ok (.aload i, 2)) (hW : am_Wp M d B C u c (am_x M (.aload i) pc (pc + 2) tg imm ks ls st h) Q) : am_Tri M d B C u c (pc, ls, st, h) Q := by
  simp only [am_x, am_aload] at hW
  split at hW
  · rename_i x hx
    exact am_i_aload hx hd hW
  · rename_i x hx
    exact am_i_aloadt hx hd hW
  · exact hW.elim
theorem am_z_aload_n {i : Fin 4} (hd : decode (am_by M) pc = .ok (.aload_n i, 1)) (hW : am_Wp M d B C u c (am_x M (.aload_n i) pc (pc + 1) tg imm ks ls st h) Q) : am_Tri M d B C u c (pc, ls, st, h) Q := by
  simp only [am_x, am_aload] at hW
  split at hW
  · rename_i x hx
    exact am_i_aload_n hx hd hW
  · rename_i x hx
    exact am_i_aloadt_n hx hd hW
  · exact hW.elim
theorem am_z_istore {i : Nat} (hd : decode (am_by M) pc = .ok (.istore i, 2)) (hW : am_Wp M d B C u c (am_x M (.istore i) pc (pc + 2) tg imm ks ls st h) Q) : am_Tri M d B C u c (pc, ls, st, h) Q := by
  simp only [am_x, am_istore] at hW
  split at hW
  · rename_i x r hb
    exact am_i_istore (Nat.blt_eq.mp hb) hd hW
  · exact hW.elim
theorem am_z_istore_n {i : Fin 4} (hd : decode (am_by M) pc = .ok (.istore_n i, 1)) (hW : am_Wp M d B C u c (am_x M (.istore_n i) pc (pc + 1) tg imm ks ls st h) Q) : am_Tri M d B C u c (pc, ls, st, h) Q := by
  simp only [am_x, am_istore] at hW
  split at hW
  · rename_i x r hb
    exact am_i_istore_n (Nat.blt_eq.mp hb) hd hW
  · exact hW.elim
theorem am_z_lstore {i : Nat} (hd : decode (am_by M) pc = .ok (.lstore i, 2)) (hW : am_Wp M d B C u c (am_x M (.lstore i) pc (pc + 2) tg imm ks ls st h) Q) : am_Tri M d B C u c (pc, ls, st, h) Q := by
  simp only [am_x, am_lstore] at hW
  split at hW
  · rename_i x r hb
    exact am_i_lstore (Nat.blt_eq.mp hb) hd hW
  · exact hW.elim
theorem am_z_lstore_n {i : Fin 4} (hd : decode (am_by M) pc = .ok (.lstore_n i, 1)) (hW : am_Wp M d B C u c (am_x M (.lstore_n i) pc (pc + 1) tg imm ks ls st h) Q) : am_Tri M d B C u c (pc, ls, st, h) Q := by
  simp only [am_x, am_lstore] at hW
  split at hW
  · rename_i x r hb
    exact am_i_lstore_n (Nat.blt_eq.mp hb) hd hW
  · exact hW.elim
theorem am_z_astore {i : Nat} (hd : decode (am_by M) pc = .ok (.astore i, 2)) (hW : am_Wp M d B C u c (am_x M (.astore i) pc (pc + 2) tg imm ks ls st h) Q) : am_Tri M d B C u c (pc, ls, st, h) Q := by
  simp only [am_x, am_astore] at hW
  split at hW
  · rename_i x r hb
    exact am_i_astore (Nat.blt_eq.mp hb) hd hW
  · exact hW.elim
theorem am_z_astore_n {i : Fin 4} (hd : decode (am_by M) pc = .ok (.astore_n i, 1)) (hW : am_Wp M d B C u c (am_x M (.astore_n i) pc (pc + 1) tg imm ks ls st h) Q) : am_Tri M d B C u c (pc, ls, st, h) Q := by
  simp only [am_x, am_astore] at hW
  split at hW
  · rename_i x r hb
    exact am_i_astore_n (Nat.blt_eq.mp hb) hd hW
  · exact hW.elim
theorem am_z_iinc {i : Nat} {z : Int} (hv : Int32.ofInt z = imm) (hd : decode (am_by M) pc = .ok (.iinc i z, 3)) (hW : am_Wp M d B C u c (am_x M (.iinc i z) pc (pc + 3) tg imm ks ls st h) Q) : am_Tri M d B C u c (pc, ls, st, h) Q := by
  simp only [am_x] at hW
  split at hW
  · rename_i x hb hx
    exact am_i_iinc hv hx (Nat.blt_eq.mp hb) hd hW
  · exact hW.elim
theorem am_z_goto {o : Int} (ht : am_tgt pc o tg = true) (hd : decode (am_by M) pc = .ok (.goto o, 3)) (hW : am_Wp M d B C u c (am_x M (.goto o) pc (pc + 3) tg imm ks ls st h) Q) : am_Tri M d B C u c (pc, ls, st, h) Q := by
  cases tg with
  | nil => cases ht
  | cons t tg => exact am_i_goto (of_decide_eq_true ht) hd hW
theorem am_z_if {o : Int} {cc : ClassFile.Cond} (ht : am_tgt pc o tg = true) (hd : decode (am_by M) pc = .ok (.ifCond cc o, 3)) (hW : am_Wp M d B C u c (am_x M (.ifCond cc o) pc (pc + 3) tg imm ks ls st h) Q) : am_Tri M d B C u c (pc, ls, st, h) Q := by
  simp only [am_x] at hW
  split at hW
  · have ht := of_decide_eq_true ht
    cases cc
    · exact am_i_if_eq ht hd hW.1 hW.2
    · exact am_i_if_ne ht hd hW.1 hW.2
    · exact am_i_if_lt ht hd hW.1 hW.2
    · exact am_i_if_ge ht hd hW.1 hW.2
    · exact am_i_if_gt ht hd hW.1 hW.2
    · exact am_i_if_le ht hd hW.1 hW.2
  · exact hW.elim
theorem am_z_icmp {o : Int} {cc : ClassFile.Cond} (ht : am_tgt pc o tg = true) (hd : decode (am_by M) pc = .ok (.if_icmp cc o, 3)) (hW : am_Wp M d B C u c (am_x M (.if_icmp cc o) pc (pc + 3) tg imm ks ls st h) Q) : am_Tri M d B C u c (pc, ls, st, h) Q := by
  simp only [am_x] at hW
  split at hW
  · have ht := of_decide_eq_true ht
    cases cc
    · exact am_i_icmp_eq ht hd hW.1 hW.2
    · exact am_i_icmp_ne ht hd hW.1 hW.2
    · exact am_i_icmp_lt ht hd hW.1 hW.2
    · exact am_i_icmp_ge ht hd hW.1 hW.2
    · exact am_i_icmp_gt ht hd hW.1 hW.2
    · exact am_i_icmp_le ht hd hW.1 hW.2
  · exact hW.elim
theorem am_z_tsw {df lo hi : Int} {offs : Array Int} {len : Nat} (htg : am_tg (.tableswitch df lo hi offs) pc tg imm ks = true) (hd : decode (am_by M) pc = .ok (.tableswitch df lo hi offs, len)) (hW : am_Wp M d B C u c (am_x M (.tableswitch df lo hi offs) pc nx tg imm ks ls st h) Q) : am_Tri M d B C u c (pc, ls, st, h) Q := by
  simp only [am_x] at hW
  split at hW
  · exact am_i_tsw hd htg hW
  · exact hW.elim
theorem am_z_lsw {df : Int} {ps : Array (Int × Int)} {len : Nat} (htg : am_tg (.lookupswitch df ps) pc tg imm ks = true) (hd : decode (am_by M) pc = .ok (.lookupswitch df ps, len)) (hW : am_Wp M d B C u c (am_x M (.lookupswitch df ps) pc nx tg imm ks ls st h) Q) : am_Tri M d B C u c (pc, ls, st, h) Q := by
  simp only [am_x] at hW
  split at hW
  · exact am_i_lsw hd htg hW
  · exact hW.elim
theorem am_z_get {cp : Nat} (hd : decode (am_by M) pc = .ok (.getfield cp, 3)) (hW : am_Wp M d B C u c (am_x M (.getfield cp) pc (pc + 3) tg imm ks ls st h) Q) : am_Tri M d B C u c (pc, ls, st, h) Q := by
  simp only [am_x, am_get] at hW
  split at hW
  · rename_i a r ci k wi nest K I A J X hf
    split at hW
    · rename_i c' refs hk
      split at hW
      · rename_i hb hi
        rw [Nat.eq_of_beq_eq_true hb] at hk
        exact am_i_get hf hk (fun E => by rw [am_fvI hi]; rfl) hd hW
      · rename_i hb hi
        rw [Nat.eq_of_beq_eq_true hb] at hk
        split at hW
        · rename_i v hv
          exact am_i_get hf hk (fun E => by simp [am_fv, hi, List.getD_eq_getElem?_getD, hv]) hd hW
        · exact hW.elim
      · exact hW.elim
    · exact hW.elim
  · exact hW.elim
theorem am_z_put {cp : Nat} (hd : decode (am_by M) pc = .ok (.putfield cp, 3)) (hW : am_Wp M d B C u c (am_x M (.putfield cp) pc (pc + 3) tg imm ks ls st h) Q) : am_Tri M d B C u c (pc, ls, st, h) Q := by
  simp only [am_x, am_put] at hW
  split at hW
  · rename_i x a r ci k wi nest K I A J X hf
    split at hW
    · rename_i c' refs hk
      split at hW
      · rename_i hb hi
        rw [Nat.eq_of_beq_eq_true hb] at hk
        exact am_i_put hf hk (by simp [am_isr, hi]) (by rw [hi]; rfl) (by rw [hi]; rfl) hd hW
      · rename_i hb hi
        rw [Nat.eq_of_beq_eq_true hb] at hk
        obtain ⟨h01, hW⟩ := hW
        refine am_i_put hf hk (by simp [am_isr, hi]) ?_ ?_ hd hW
        · rw [hi]; rcases h01 with rfl | rfl <;> rfl
        · rw [hi]; rcases h01 with rfl | rfl <;> rfl
      · exact hW.elim
    · exact hW.elim
  · rename_i b a r ci k wi K I A J X hf
    split at hW
    · rename_i c' refs hk
      split at hW
      · rename_i hb hi
        simp only [Bool.and_eq_true, decide_eq_true_eq, Nat.blt_eq] at hb
        obtain ⟨⟨⟨b1, b2⟩, b3⟩, b4⟩ := hb
        have e1 := Nat.eq_of_beq_eq_true b1
        subst e1
        exact am_i_putr hf hk hi b3 (Nat.eq_of_beq_eq_true b2) b4 hd hW
      · exact hW.elim
    · exact hW.elim
  · exact hW.elim
theorem am_z_iaload (hd : decode (am_by M) pc = .ok (.iaload, 1)) (hW : am_Wp M d B C u c (am_x M .iaload pc (pc + 1) tg imm ks ls st h) Q) : am_Tri M d B C u c (pc, ls, st, h) Q := by
  simp only [am_x, am_ald] at hW
  split at hW
  · rename_i i a r K I A J X
    split at hW
    · rename_i t' n hk
      cases t' <;> first | exact hW.elim | exact am_i_iald hk hW.1 hd hW.2
    · exact hW.elim
  · rename_i i q r K I A J X
    obtain ⟨L, xs⟩ := X
    cases hq : Nat.beq q 1000 with
    | false => rw [hq] at hW; exact hW.elim
    | true =>
      rw [hq] at hW
      rw [Nat.eq_of_beq_eq_true hq]
      first | exact am_i_sald hW.1 hd hW.2 | exact hW.elim
  · exact hW.elim
theorem am_z_caload (hd : decode (am_by M) pc = .ok (.caload, 1)) (hW : am_Wp M d B C u c (am_x M .caload pc (pc + 1) tg imm ks ls st h) Q) : am_Tri M d B C u c (pc, ls, st, h) Q := by
  simp only [am_x, am_ald] at hW
  split at hW
  · rename_i i a r K I A J X
    split at hW
    · rename_i t' n hk
      cases t' <;> first | exact hW.elim | exact am_i_cald hk hW.1 hd hW.2
    · exact hW.elim
  · rename_i i q r K I A J X
    exact hW.elim
  · exact hW.elim
theorem am_z_baload (hd : decode (am_by M) pc = .ok (.baload, 1)) (hW : am_Wp M d B C u c (am_x M .baload pc (pc + 1) tg imm ks ls st h) Q) : am_Tri M d B C u c (pc, ls, st, h) Q := by
  simp only [am_x, am_ald] at hW
  split at hW
  · rename_i i a r K I A J X
    split at hW
    · rename_i t' n hk
      cases t' <;> first | exact hW.elim | exact am_i_zald hk hW.1 hd hW.2
    · exact hW.elim
  · rename_i i q r K I A J X
    exact hW.elim
  · exact hW.elim
theorem am_z_laload (hd : decode (am_by M) pc = .ok (.laload, 1)) (hW : am_Wp M d B C u c (am_x M .laload pc (pc + 1) tg imm ks ls st h) Q) : am_Tri M d B C u c (pc, ls, st, h) Q := by
  simp only [am_x, am_ald] at hW
  split at hW
  · rename_i i a r K I A J X
    split at hW
    · rename_i t' n hk
      cases t' <;> first | exact hW.elim | exact am_i_lald hk hW.1 hd hW.2
    · exact hW.elim
  · rename_i i q r K I A J X
    exact hW.elim
  · exact hW.elim
theorem am_z_iastore (hd : decode (am_by M) pc = .ok (.iastore, 1)) (hW : am_Wp M d B C u c (am_x M .iastore pc (pc + 1) tg imm ks ls st h) Q) : am_Tri M d B C u c (pc, ls, st, h) Q := by
  simp only [am_x, am_ast] at hW
  split at hW
  · rename_i x i a r K I A J X
    split at hW
    · rename_i t' n hk
      cases t' <;> first | exact hW.elim | exact am_i_iast hk hW.1 hd hW.2
    · exact hW.elim
  · rename_i x i a r K I A J X
    split at hW
    · rename_i t' n hk
      cases t' <;> first | exact hW.elim | exact am_i_iast hk hW.1 hd hW.2
    · exact hW.elim
  · exact hW.elim
theorem am_z_castore (hd : decode (am_by M) pc = .ok (.castore, 1)) (hW : am_Wp M d B C u c (am_x M .castore pc (pc + 1) tg imm ks ls st h) Q) : am_Tri M d B C u c (pc, ls, st, h) Q := by
  simp only [am_x, am_ast] at hW
  split at hW
  · rename_i x i a r K I A J X
    split at hW
    · rename_i t' n hk
      cases t' <;> first | exact hW.elim | exact am_i_cast hk hW.1 hd hW.2
    · exact hW.elim
  · rename_i x i a r K I A J X
    split at hW
    · rename_i t' n hk
      cases t' <;> first | exact hW.elim | exact am_i_cast hk hW.1 hd hW.2
    · exact hW.elim
  · exact hW.elim
theorem am_z_bastore (hd : decode (am_by M) pc = .ok (.bastore, 1)) (hW : am_Wp M d B C u c (am_x M .bastore pc (pc + 1) tg imm ks ls st h) Q) : am_Tri M d B C u c (pc, ls, st, h) Q := by
  simp only [am_x, am_ast] at hW
  split at hW
  · rename_i x i a r K I A J X
    split at hW
    · rename_i t' n hk
      cases t' <;> first | exact hW.elim | exact am_i_zast hk hW.1 hd hW.2
    · exact hW.elim
  · rename_i x i a r K I A J X
    split at hW
    · rename_i t' n hk
      cases t' <;> first | exact hW.elim | exact am_i_zast hk hW.1 hd hW.2
    · exact hW.elim
  · exact hW.elim
theorem am_z_lastore (hd : decode (am_by M) pc = .ok (.lastore, 1)) (hW : am_Wp M d B C u c (am_x M .lastore pc (pc + 1) tg imm ks ls st h) Q) : am_Tri M d B C u c (pc, ls, st, h) Q := by
  simp only [am_x, am_ast] at hW
  split at hW
  · rename_i x i a r K I A J X
    split at hW
    · rename_i t' n hk
      cases t' <;> first | exact hW.elim | exact am_i_last hk hW.1 hd hW.2
    · exact hW.elim
  · rename_i x i a r K I A J X
    split at hW
    · rename_i t' n hk
      cases t' <;> first | exact hW.elim | exact am_i_last hk hW.1 hd hW.2
    · exact hW.elim
  · exact hW.elim
theorem am_z_len (hd : decode (am_by M) pc = .ok (.arraylength, 1)) (hW : am_Wp M d B C u c (am_x M .arraylength pc (pc + 1) tg imm ks ls st h) Q) : am_Tri M d B C u c (pc, ls, st, h) Q := by
  simp only [am_x, am_len] at hW
  split at hW
  · rename_i a r K I A J X
    split at hW
    · rename_i t' n hk
      split at hW
      · rename_i ht
        exact am_i_len ht hk hd hW
      · exact hW.elim
    · exact hW.elim
  · rename_i q r K I A J L xs
    split at hW
    · rename_i hq
      rw [Nat.eq_of_beq_eq_true hq]
      exact am_i_slen hd hW
    · exact hW.elim
  · exact hW.elim
theorem am_z_newa {t : ArrayType} (hd : decode (am_by M) pc = .ok (.newarray t, 2)) (hW : am_Wp M d B C u c (am_x M (.newarray t) pc (pc + 2) tg imm ks ls st h) Q) : am_Tri M d B C u c (pc, ls, st, h) Q := by
  simp only [am_x, am_new] at hW
  split at hW
  · rename_i n r K I A J X
    split at hW
    · rename_i ht
      exact am_i_newa ht hW.1 hW.2.1 hW.2.2.1 hd hW.2.2.2
    · exact hW.elim
  · exact hW.elim
theorem am_z_ret (hd : decode (am_by M) pc = .ok (.ireturn, 1)) (hW : am_Wp M d B C u c (am_x M .ireturn pc (pc + 1) tg imm ks ls st h) Q) : am_Tri M d B C u c (pc, ls, st, h) Q := by
  simp only [am_x, am_ret] at hW
  split at hW
  · rename_i x hr
    exact am_i_ret hr rfl hW.2.1 hW.2.2.1 hd hW.2.2.2
  · rename_i x hr
    exact am_i_ret hr (by rcases hW.1 with e | e <;> rw [e] <;> rfl) hW.2.1 hW.2.2.1 hd hW.2.2.2
  · rename_i x hr
    exact am_i_ret hr hW.1 hW.2.1 hW.2.2.1 hd hW.2.2.2
  · exact hW.elim
theorem am_z_retv (hd : decode (am_by M) pc = .ok (.return_, 1)) (hW : am_Wp M d B C u c (am_x M .return_ pc (pc + 1) tg imm ks ls st h) Q) : am_Tri M d B C u c (pc, ls, st, h) Q := by
  simp only [am_x] at hW
  split at hW
  · rename_i hr
    exact am_i_retv hr hW.2.1 hW.2.2.1 hd hW.2.2.2
  · exact hW.elim
theorem am_z_new {cp : Nat} (hd : decode (am_by M) pc = .ok (.new cp, 3)) (hW : am_Wp M d B C u c (am_x M (.new cp) pc (pc + 3) tg imm ks ls st h) Q) : am_Tri M d B C u c (pc, ls, st, h) Q := by
  simp only [am_x, am_obj] at hW
  split at hW
  · rename_i cn wi K I A J X hk
    split at hW
    · rename_i hb
      exact am_i_new hk (Nat.blt_eq.mp hb) hW.2.1 hW.2.2.1 hd hW.2.2.2
    · split at hW
      · rename_i x3 x4 x5 q y4 w y6 y9 l3 l4 l6 l9
        split at hW
        · rename_i t c' hq hw hh
          split at hW
          · rename_i hbb
            simp only [Bool.and_eq_true, Nat.ble_eq] at hbb
            have e1 := Nat.eq_of_beq_eq_true hbb.1
            subst e1
            obtain ⟨g3, k3, -⟩ := am_dec l3
            obtain ⟨g4, k4, -⟩ := am_dec l4
            obtain ⟨g6, k6, -⟩ := am_dec l6
            obtain ⟨g9, k9, -⟩ := am_dec l9
            simp only [am_isw, am_ilen, Bool.false_eq_true, false_or] at k3 k4 k6 k9
            refine am_i_throw hk hq hw hh hbb.2 hd ?_ ?_ ?_ ?_ hW.1 hW.2.1 hW.2.2.1 hW.2.2.2
            · rw [g3, k3, Nat.add_sub_cancel_left]
            · rw [g4, k4, Nat.add_sub_cancel_left]
            · rw [g6, k6, Nat.add_sub_cancel_left]
            · rw [g9, k9, Nat.add_sub_cancel_left]
          · exact hW.elim
        · exact hW.elim
      · exact hW.elim
  · exact hW.elim
theorem am_z_inv0 {cp : Nat} (hd : decode (am_by M) pc = .ok (.invokevirtual cp, 3)) (hW : am_Wp M d B C u c (am_x M (.invokevirtual cp) pc (pc + 3) tg imm ks ls st h) Q) : am_Tri M d B C u c (pc, ls, st, h) Q := by
  simp only [am_x, am_inv] at hW
  split at hW
  · rename_i M' wi nest K I A J X hm
    split at hW
    · rename_i n hn
      split at hW
      · rename_i as r htk
        split at hW
        · rename_i hck
          obtain ⟨d', o, h', B', C', hcon, h1, h2, h3, h4⟩ := hW
          rw [Nat.add_sub_cancel] at h4
          have hck' := hck
          simp only [am_ckc, Bool.and_eq_true, Nat.ble_eq, Nat.blt_eq] at hck'
          exact am_i_call hcon (am_Md hm).1 h1 h2 h3 hck'.1.1.1 hd (am_entV hm hn htk hck hd) h4
        · exact hW.elim
      · exact hW.elim
    · exact hW.elim
  · exact hW.elim
theorem am_z_inv1 {cp : Nat} (hd : decode (am_by M) pc = .ok (.invokestatic cp, 3)) (hW : am_Wp M d B C u c (am_x M (.invokestatic cp) pc (pc + 3) tg imm ks ls st h) Q) : am_Tri M d B C u c (pc, ls, st, h) Q := by
  simp only [am_x, am_inv] at hW
  split at hW
  · rename_i M' wi nest K I A J X hm
    split at hW
    · rename_i n hn
      split at hW
      · rename_i as r htk
        split at hW
        · rename_i hck
          obtain ⟨d', o, h', B', C', hcon, h1, h2, h3, h4⟩ := hW
          rw [Nat.add_sub_cancel] at h4
          have hck' := hck
          simp only [am_ckc, Bool.and_eq_true, Nat.ble_eq, Nat.blt_eq] at hck'
          exact am_i_call hcon (am_Md hm).1 h1 h2 h3 hck'.1.1.1 hd (am_entS hm hn htk hck hd) h4
        · exact hW.elim
      · exact hW.elim
    · exact hW.elim
  · exact hW.elim
theorem am_z_inv2 {cp : Nat} (h1d : 1 ≤ d) (hd : decode (am_by M) pc = .ok (.invokespecial cp, 3)) (hW : am_Wp M d B C u c (am_x M (.invokespecial cp) pc (pc + 3) tg imm ks ls st h) Q) : am_Tri M d B C u c (pc, ls, st, h) Q := by
  simp only [am_x, am_inv] at hW
  split at hW
  · rename_i M' wi nest K I A J X hm
    split at hW
    · rename_i n hn
      split at hW
      · rename_i as r htk
        split at hW
        · rename_i hck
          obtain ⟨d', o, h', B', C', hcon, h1, h2, h3, h4⟩ := hW
          rw [Nat.add_sub_cancel] at h4
          have hck' := hck
          simp only [am_ckc, Bool.and_eq_true, Nat.ble_eq, Nat.blt_eq] at hck'
          exact am_i_call hcon (am_Md hm).1 h1 h2 h3 hck'.1.1.1 hd (am_entI hm hn htk hck hd) h4
        · exact hW.elim
      · exact hW.elim
    · exact hW.elim
  · split at hW
    · rename_i wi a r hm
      split at hW
      · rename_i hb
        exact am_i_oinit hm (Nat.ble_eq.mp hb) h1d hd hW
      · exact hW.elim
    · exact hW.elim
end SST
end
section
/-! SOUND: one step of the abstract machine, and a run of it -/
section SRN
variable {M d B C u c : Nat} {Q : aO → aH → Prop}
theorem am_step_ok (h1d : 1 ≤ d) {s : aS} (hW : am_Wp M d B C u c (am_step M s) Q) : am_Tri M d B C u c s Q := by
  obtain ⟨pc, ls, st, h⟩ := s
  simp only [am_step] at hW
  cases hl : (am_co M).lookup pc with
  | none => rw [hl] at hW; exact hW.elim
  | some q =>
    obtain ⟨i, nx, tg, imm, ks⟩ := q
    rw [hl] at hW
    obtain ⟨hd, hn, ht⟩ := am_dec hl
    dsimp only at hW
    cases i
    case iadd =>
      obtain rfl : nx = pc + 1 := by simpa [am_isw, am_ilen] using hn
      rw [Nat.add_sub_cancel_left] at hd
      exact am_z_iadd hd hW
    case isub =>
      obtain rfl : nx = pc + 1 := by simpa [am_isw, am_ilen] using hn
      rw [Nat.add_sub_cancel_left] at hd
      exact am_z_isub hd hW
    case imul =>
      obtain rfl : nx = pc + 1 := by simpa [am_isw, am_ilen] using hn
      rw [Nat.add_sub_cancel_left] at hd
      exact am_z_imul hd hW
    case iand =>
      obtain rfl : nx = pc + 1 := by simpa [am_isw, am_ilen] using hn
      rw [Nat.add_sub_cancel_left] at hd
      exact am_z_iand hd hW
    case ladd =>
      obtain rfl : nx = pc + 1 := by simpa [am_isw, am_ilen] using hn
      rw [Nat.add_sub_cancel_left] at hd
      exact am_z_ladd hd hW
    case lmul =>
      obtain rfl : nx = pc + 1 := by simpa [am_isw, am_ilen] using hn
      rw [Nat.add_sub_cancel_left] at hd
      exact am_z_lmul hd hW
    case land =>
      obtain rfl : nx = pc + 1 := by simpa [am_isw, am_ilen] using hn
      rw [Nat.add_sub_cancel_left] at hd
      exact am_z_land hd hW
    case lor =>
      obtain rfl : nx = pc + 1 := by simpa [am_isw, am_ilen] using hn
      rw [Nat.add_sub_cancel_left] at hd
      exact am_z_lor hd hW
    case lushr =>
      obtain rfl : nx = pc + 1 := by simpa [am_isw, am_ilen] using hn
      rw [Nat.add_sub_cancel_left] at hd
      exact am_z_lushr hd hW
    case lshr =>
      obtain rfl : nx = pc + 1 := by simpa [am_isw, am_ilen] using hn
      rw [Nat.add_sub_cancel_left] at hd
      exact am_z_lshr hd hW
    case lshl =>
      obtain rfl : nx = pc + 1 := by simpa [am_isw, am_ilen] using hn
      rw [Nat.add_sub_cancel_left] at hd
      exact am_z_lshl hd hW
    case lcmp =>
      obtain rfl : nx = pc + 1 := by simpa [am_isw, am_ilen] using hn
      rw [Nat.add_sub_cancel_left] at hd
      exact am_z_lcmp hd hW
    case i2l =>
      obtain rfl : nx = pc + 1 := by simpa [am_isw, am_ilen] using hn
      rw [Nat.add_sub_cancel_left] at hd
      exact am_z_i2l hd hW
    case l2i =>
      obtain rfl : nx = pc + 1 := by simpa [am_isw, am_ilen] using hn
      rw [Nat.add_sub_cancel_left] at hd
      exact am_z_l2i hd hW
    case i2c =>
      obtain rfl : nx = pc + 1 := by simpa [am_isw, am_ilen] using hn
      rw [Nat.add_sub_cancel_left] at hd
      exact am_z_i2c hd hW
    case pop =>
      obtain rfl : nx = pc + 1 := by simpa [am_isw, am_ilen] using hn
      rw [Nat.add_sub_cancel_left] at hd
      exact am_z_pop hd hW
    case dup2 =>
      obtain rfl : nx = pc + 1 := by simpa [am_isw, am_ilen] using hn
      rw [Nat.add_sub_cancel_left] at hd
      exact am_z_dup2 hd hW
    case idiv =>
      obtain rfl : nx = pc + 1 := by simpa [am_isw, am_ilen] using hn
      rw [Nat.add_sub_cancel_left] at hd
      exact am_z_idiv hd hW
    case dup =>
      obtain rfl : nx = pc + 1 := by simpa [am_isw, am_ilen] using hn
      rw [Nat.add_sub_cancel_left] at hd
      exact am_z_dup hd hW
    case iconst i =>
      obtain rfl : nx = pc + 1 := by simpa [am_isw, am_ilen] using hn
      rw [Nat.add_sub_cancel_left] at hd
      exact am_z_iconst hd (of_decide_eq_true ht) hW
    case bipush i =>
      obtain rfl : nx = pc + 2 := by simpa [am_isw, am_ilen] using hn
      rw [Nat.add_sub_cancel_left] at hd
      exact am_z_bipush hd (of_decide_eq_true ht) hW
    case sipush i =>
      obtain rfl : nx = pc + 3 := by simpa [am_isw, am_ilen] using hn
      rw [Nat.add_sub_cancel_left] at hd
      exact am_z_sipush hd (of_decide_eq_true ht) hW
    case lconst i =>
      obtain rfl : nx = pc + 1 := by simpa [am_isw, am_ilen] using hn
      rw [Nat.add_sub_cancel_left] at hd
      exact am_z_lconst hd hW
    case ldc i =>
      obtain rfl : nx = pc + 2 := by simpa [am_isw, am_ilen] using hn
      rw [Nat.add_sub_cancel_left] at hd
      exact am_z_ldc hd hW
    case ldc2_w i =>
      obtain rfl : nx = pc + 3 := by simpa [am_isw, am_ilen] using hn
      rw [Nat.add_sub_cancel_left] at hd
      exact am_z_ldc2 hd hW
    case iload i =>
      obtain rfl : nx = pc + 2 := by simpa [am_isw, am_ilen] using hn
      rw [Nat.add_sub_cancel_left] at hd
      exact am_z_iload hd hW
    case iload_n i =>
      obtain rfl : nx = pc + 1 := by simpa [am_isw, am_ilen] using hn
      rw [Nat.add_sub_cancel_left] at hd
      exact am_z_iload_n hd hW
    case lload i =>
      obtain rfl : nx = pc + 2 := by simpa [am_isw, am_ilen] using hn
      rw [Nat.add_sub_cancel_left] at hd
      exact am_z_lload hd hW
    case lload_n i =>
      obtain rfl : nx = pc + 1 := by simpa [am_isw, am_ilen] using hn
      rw [Nat.add_sub_cancel_left] at hd
      exact am_z_lload_n hd hW
    case aload i =>
      obtain rfl : nx = pc + 2 := by simpa [am_isw, am_ilen] using hn
      rw [Nat.add_sub_cancel_left] at hd
      exact am_z_aload hd hW
    case aload_n i =>
      obtain rfl : nx = pc + 1 := by simpa [am_isw, am_ilen] using hn
      rw [Nat.add_sub_cancel_left] at hd
      exact am_z_aload_n hd hW
    case istore i =>
      obtain rfl : nx = pc + 2 := by simpa [am_isw, am_ilen] using hn
      rw [Nat.add_sub_cancel_left] at hd
      exact am_z_istore hd hW
    case istore_n i =>
      obtain rfl : nx = pc + 1 := by simpa [am_isw, am_ilen] using hn
      rw [Nat.add_sub_cancel_left] at hd
      exact am_z_istore_n hd hW
    case lstore i =>
      obtain rfl : nx = pc + 2 := by simpa [am_isw, am_ilen] using hn
      rw [Nat.add_sub_cancel_left] at hd
      exact am_z_lstore hd hW
    case lstore_n i =>
      obtain rfl : nx = pc + 1 := by simpa [am_isw, am_ilen] using hn
      rw [Nat.add_sub_cancel_left] at hd
      exact am_z_lstore_n hd hW
    case astore i =>
      obtain rfl : nx = pc + 2 := by simpa [am_isw, am_ilen] using hn
      rw [Nat.add_sub_cancel_left] at hd
      exact am_z_astore hd hW
    case astore_n i =>
      obtain rfl : nx = pc + 1 := by simpa [am_isw, am_ilen] using hn
      rw [Nat.add_sub_cancel_left] at hd
      exact am_z_astore_n hd hW
    case iinc i z =>
      obtain rfl : nx = pc + 3 := by simpa [am_isw, am_ilen] using hn
      rw [Nat.add_sub_cancel_left] at hd
      exact am_z_iinc (of_decide_eq_true ht) hd hW
    case goto o =>
      obtain rfl : nx = pc + 3 := by simpa [am_isw, am_ilen] using hn
      rw [Nat.add_sub_cancel_left] at hd
      exact am_z_goto ht hd hW
    case ifCond cc o =>
      obtain rfl : nx = pc + 3 := by simpa [am_isw, am_ilen] using hn
      rw [Nat.add_sub_cancel_left] at hd
      exact am_z_if ht hd hW
    case if_icmp cc o =>
      obtain rfl : nx = pc + 3 := by simpa [am_isw, am_ilen] using hn
      rw [Nat.add_sub_cancel_left] at hd
      exact am_z_icmp ht hd hW
    case tableswitch df lo hi offs => exact am_z_tsw ht hd hW
    case lookupswitch df ps => exact am_z_lsw ht hd hW
    case getfield cp =>
      obtain rfl : nx = pc + 3 := by simpa [am_isw, am_ilen] using hn
      rw [Nat.add_sub_cancel_left] at hd
      exact am_z_get hd hW
    case putfield cp =>
      obtain rfl : nx = pc + 3 := by simpa [am_isw, am_ilen] using hn
      rw [Nat.add_sub_cancel_left] at hd
      exact am_z_put hd hW
    case iaload =>
      obtain rfl : nx = pc + 1 := by simpa [am_isw, am_ilen] using hn
      rw [Nat.add_sub_cancel_left] at hd
      exact am_z_iaload hd hW
    case caload =>
      obtain rfl : nx = pc + 1 := by simpa [am_isw, am_ilen] using hn
      rw [Nat.add_sub_cancel_left] at hd
      exact am_z_caload hd hW
    case baload =>
      obtain rfl : nx = pc + 1 := by simpa [am_isw, am_ilen] using hn
      rw [Nat.add_sub_cancel_left] at hd
      exact am_z_baload hd hW
    case laload =>
      obtain rfl : nx = pc + 1 := by simpa [am_isw, am_ilen] using hn
      rw [Nat.add_sub_cancel_left] at hd
      exact am_z_laload hd hW
    case iastore =>
      obtain rfl : nx = pc + 1 := by simpa [am_isw, am_ilen] using hn
      rw [Nat.add_sub_cancel_left] at hd
      exact am_z_iastore hd hW
    case castore =>
      obtain rfl : nx = pc + 1 := by simpa [am_isw, am_ilen] using hn
      rw [Nat.add_sub_cancel_left] at hd
      exact am_z_castore hd hW
    case bastore =>
      obtain rfl : nx = pc + 1 := by simpa [am_isw, am_ilen] using hn
      rw [Nat.add_sub_cancel_left] at hd
      exact am_z_bastore hd hW
    case lastore =>
      obtain rfl : nx = pc + 1 := by simpa [am_isw, am_ilen] using hn
      rw [Nat.add_sub_cancel_left] at hd
      exact am_z_lastore hd hW
    case arraylength =>
      obtain rfl : nx = pc + 1 := by simpa [am_isw, am_ilen] using hn
      rw [Nat.add_sub_cancel_left] at hd
      exact am_z_len hd hW
    case newarray t =>
      obtain rfl : nx = pc + 2 := by simpa [am_isw, am_ilen] using hn
      rw [Nat.add_sub_cancel_left] at hd
      exact am_z_newa hd hW
    case new cp =>
      obtain rfl : nx = pc + 3 := by simpa [am_isw, am_ilen] using hn
      rw [Nat.add_sub_cancel_left] at hd
      exact am_z_new hd hW
    case invokevirtual cp =>
      obtain rfl : nx = pc + 3 := by simpa [am_isw, am_ilen] using hn
      rw [Nat.add_sub_cancel_left] at hd
      exact am_z_inv0 hd hW
    case invokespecial cp =>
      obtain rfl : nx = pc + 3 := by simpa [am_isw, am_ilen] using hn
      rw [Nat.add_sub_cancel_left] at hd
      exact am_z_inv2 h1d hd hW
    case invokestatic cp =>
      obtain rfl : nx = pc + 3 := by simpa [am_isw, am_ilen] using hn
      rw [Nat.add_sub_cancel_left] at hd
      exact am_z_inv1 hd hW
    case ireturn =>
      obtain rfl : nx = pc + 1 := by simpa [am_isw, am_ilen] using hn
      rw [Nat.add_sub_cancel_left] at hd
      exact am_z_ret hd hW
    case return_ =>
      obtain rfl : nx = pc + 1 := by simpa [am_isw, am_ilen] using hn
      rw [Nat.add_sub_cancel_left] at hd
      exact am_z_retv hd hW
    all_goals exact hW.elim
theorem am_run_ok (h1d : 1 ≤ d) (n : Nat) : ∀ {s : aS}, am_Wp M d B C u c (am_run n M s) Q → am_Tri M d B C u c s Q := by
  induction n with
  | zero => exact fun hW => hW
  | succ n ih =>
    intro s hW
    refine am_step_ok h1d ?_
    simp only [am_run] at hW
    split at hW
    · rename_i t hs
      rw [hs]
      exact ih hW
    · exact hW
end SRN
end
section
/-! A CONTRACT FROM A RUN -/
theorem am_l_args (E : aE) : ∀ (as : List Value) (n : Nat), am_l E (lv_args n as) = lv_args n (as.map (am_v E)) := by
  intro as
  induction as with
  | nil => intro n; rfl
  | cons v as ih =>
    intro n
    have h1 := ih (if v.category = 2 then n + 2 else n + 1)
    simp only [am_l] at h1
    simp only [lv_args, am_l, List.map_cons, am_v_cat, h1]
theorem am_sl_len (E : aE) (as : List Value) : (lg_sl (as.map (am_v E))).length = (lg_sl as).length := by
  induction as with
  | nil => rfl
  | cons v as ih =>
    simp only [lg_sl, List.map_cons, List.flatMap_cons, List.length_append, am_v_cat] at ih ⊢
    rw [ih]
    by_cases h : v.category = 2 <;> simp [h]
theorem am_hsw {M : Nat} {args : Array Value} {s : State} {m : MethodId} {meth : Method} {c : Code} (h : (am_w0 M).before args s = true) (hn : s.methodNamed? (am_y M) = some m) (hm : s.vm.method? m = some meth) (hc : meth.code = some c) :
    c.exceptionTable.toList.map (fun h => (h.startPc, h.endPc, h.handlerPc, h.catchType)) = am_hs M := by
  unfold am_w0 at h
  cases e : am_hs M with
  | nil =>
    rw [e] at h
    obtain ⟨meth', c', h1, h2, h3, h4, h5, h6, h7, -⟩ := Cond.code_spec hn h
    cases hm.symm.trans h1
    cases hc.symm.trans h2
    simp only [Array.isEmpty_iff] at h7
    rw [h7]
    rfl
  | cons q l =>
    rw [e] at h
    obtain ⟨mk, meth', c', hn', h1, h2, h3, h4, h5, -⟩ := Cond.codeWith_spec h
    cases hn.symm.trans hn'
    cases hm.symm.trans h1
    cases hc.symm.trans h2
    exact h5
theorem am_con {M d B C : Nat} {as : List Value} {h : aH} {o : aO} {h' : aH} (hM : M < 200) (hl : (lg_sl as).length ≤ am_ml M) (hT : am_Tri M d B C 0 0 (0, lv_args 0 as, [], h) (fun oo hh => oo = o ∧ hh = h')) : am_Con d M as h o h' B C := by
  intro l E hf
  refine xm_of (cc := am_by M) (maxL := am_ml M) (ret := am_re M) (am_Wm hM).2.2.2.1 (fun args s hw => am_cw hw) ?_
  intro p e s m args below meth c s₁ B' hml hP
  obtain ⟨rfl, hR, hG⟩ := hP
  have hpre : (am_w0 M).before (as.map (am_v E)).toArray s = true := atoms_spec (ws := [am_w0 M]) B'.pre _ List.mem_cons_self
  have hcode : meth.code = some c := by
    have h1 := B'.here.code
    rw [B'.state] at h1
    have h2 : (s.setFrames (.java (entryFrame m (as.map (am_v E)).toArray (am_ml M)) :: below)).code? m = s.code? m := rfl
    rw [h2, State.code?_eq, B'.method] at h1
    exact h1
  rw [lg_entry_eq]
  obtain ⟨K, I, A, J, L, xs⟩ := h
  have hcx : am_Cx M d B C p l e (headSpec [am_w0 M] (am_room d B C)).room s m (as.map (am_v E)).toArray below meth c E := by
    refine ⟨B'.exec, B'.bytes, hml, B'.returns, B'.notSynchronized, (name_of_methodNamed B'.named B'.method).1, ?_, hG, Launch.traces_off hf B'.admits, am_hsw hpre B'.named B'.method hcode, rfl, ?_, hR.2.2.2.2.1, hR.2.2.2.1, hR.2.2.1, hf⟩
    · rw [← (am_Wm hM).2.2.1]; exact findClass_of_methodNamed B'.named
    · rw [hR.1]; exact Nat.le_add_right _ _
  refine hT p l e _ s m _ below meth c E hcx s.heap [] _ hR ?_ (fun q hq => by cases hq)
  rw [am_l_args]
  exact lv_entry _ (by rw [am_sl_len]; exact hl)
end
section
/-! SOUND: what the texts' own methods do (String, StringLatin1) -/
section SSTR
variable {M d B C u c : Nat} {Q : aO → aH → Prop} {pc : Nat} {ls : List (Nat × Value)} {r : List Value} {h : aH}
theorem am_R.old {E : aE} {U : State} {H : Heap} (hR : am_R E h U H) (q : Nat) (hq : q < E.2.1.size) : H[q]? = E.2.1[q]? := by
  obtain ⟨K, I, A, J, L, xs⟩ := h
  exact hR.2.2.2.1 q (by rw [← hR.2.2.1]; exact hq)
theorem am_j_get {cp wi q : Nat} {n t : String} {v : Value} (hw : lw_tbl[wi]? = some (Jvm.Cond.fieldLink (am_nm.getD (am_own M) "") cp "java/lang/String" n t)) (hv : ∀ (E : aE) (U : State), am_G E U → va_OF "java/lang/String" n t (am_v E v) (E.2.2.2.2 q) (fun q => E.1 ≤ q) U E.2.1)
    (hd : decode (am_by M) pc = .ok (.getfield cp, 3)) (kk : am_Tri M d B C u c (pc + 3, ls, v :: r, h) Q) : am_Tri M d B C u c (pc, ls, .retAddr q :: r, h) Q := by
  intro p l e R s m args below meth cd E cx H locs la hR hl hlo
  obtain ⟨hx, hb, hml, hr, hlocks, hname, hown, hG, htr, hex, hRm, hbs, hvn, hol, hE0, hfl⟩ := id cx
  obtain ⟨cf, k, fi, f, cell, h1, h2, h3, h4, h5, h6⟩ := (hv E s hG).kept (fun a ha _ => hR.old a ha)
  exact W.getf hx hb hown (hG.1.use hw rfl args) h1 h2 h3 h4 (v := am_v E v) h5 rfl rfl hd (kk p l e R s m args below meth cd E cx H locs la hR hl hlo)
theorem am_j_sta {cp wi : Nat} {C' n t : String} {x : Int32} (hw : lw_tbl[wi]? = some (Jvm.Cond.fieldLink (am_nm.getD (am_own M) "") cp C' n t)) (hv : ∀ (E : aE) (U : State), am_G E U → va_Z C' n t (.int x) (fun q => E.1 ≤ q) U E.2.1)
    (hd : decode (am_by M) pc = .ok (.getstatic cp, 3)) (kk : am_Tri M d B C u c (pc + 3, ls, .int x :: r, h) Q) : am_Tri M d B C u c (pc, ls, r, h) Q := by
  intro p l e R s m args below meth cd E cx H locs la hR hl hlo
  obtain ⟨hx, hb, hml, hr, hlocks, hname, hown, hG, htr, hex, hRm, hbs, hvn, hol, hE0, hfl⟩ := id cx
  obtain ⟨cf, kf, fi, f, a, cell, h1, h2, h3, h4, h5, h6, h7, h8⟩ := (hv E s hG).kept (fun a ha _ => hR.old a ha)
  exact W.gets hx hb hown (hG.1.use hw rfl args) h1 h2 h3 h4 h5 (fun e => by rw [e] at h6; cases h6) h7 rfl hd (kk p l e R s m args below meth cd E cx H locs la hR hl hlo)
theorem am_j_len {i : Nat} (hi : i < 29) (hd : decode (am_by M) pc = .ok (.arraylength, 1)) (kk : am_Tri M d B C u c (pc + 1, ls, .int (Int32.ofNat (am_sl.getD i 0)) :: r, h) Q) : am_Tri M d B C u c (pc, ls, .retAddr (2000 + i) :: r, h) Q := by
  intro p l e R s m args below meth cd E cx H locs la hR hl hlo
  obtain ⟨hx, hb, hml, hr, hlocks, hname, hown, hG, htr, hex, hRm, hbs, hvn, hol, hE0, hfl⟩ := id cx
  obtain ⟨cell, h1, h2, h3, h4, h5, h6, h7⟩ := ((hG.2.2.2.2.1 i hi).2.2.2).kept (fun a ha _ => hR.old a ha)
  exact W.alen (n := Int32.ofNat (am_sl.getD i 0)) hx hb h1 h2 h5 rfl rfl hd (kk p l e R s m args below meth cd E cx H locs la hR hl hlo)
theorem am_j_byte {i : Nat} {j : Int32} (hi : i < 29) (hj : vp_in j (am_sl.getD i 0)) (hd : decode (am_by M) pc = .ok (.baload, 1)) (kk : am_Tri M d B C u c (pc + 1, ls, .int ((am_sb.getD i []).getD j.toNatClampNeg 0) :: r, h) Q) : am_Tri M d B C u c (pc, ls, .int j :: .retAddr (2000 + i) :: r, h) Q := by
  intro p l e R s m args below meth cd E cx H locs la hR hl hlo
  obtain ⟨hx, hb, hml, hr, hlocks, hname, hown, hG, htr, hex, hRm, hbs, hvn, hol, hE0, hfl⟩ := id cx
  obtain ⟨cell, h1, h2, h3, h4, h5, h6, h7⟩ := ((hG.2.2.2.2.1 i hi).2.2.2).kept (fun a ha _ => hR.old a ha)
  have hlt : j.toNatClampNeg < am_sl.getD i 0 := Nat.not_le.mp fun q => hj (Or.inr q)
  have hin' : ¬ (j < 0 ∨ cell.slots.size ≤ j.toNatClampNeg) := by
    intro q
    rcases q with q | q
    · exact hj (Or.inl q)
    · omega
  exact W.bald (v := .int ((am_sb.getD i []).getD j.toNatClampNeg 0)) hx hb h1 h2 h3 hin' (by rw [h6 _ hlt]) rfl rfl hd (kk p l e R s m args below meth cd E cx H locs la hR hl hlo)
end SSTR
end
section
/-! SOUND: Preconditions.checkIndex, which String.checkIndex calls -/
def am_pck : MethodName := ⟨"jdk/internal/util/Preconditions", "checkIndex", "(IILjava/util/function/BiFunction;)I"⟩
theorem am_pcm (l : Launch) {i n : Int32} {v : Value} (hv : v.category = 1) (h0 : ¬ i < 0) (h1 : i < n) (free : Addr → Prop) :
    xm_Met l am_pck (Jvm.Cond.code am_pck prog_24_method_11_code 3 (some .int)) (am_room 0 0 0) (fun a _ => a = #[.int i, .int n, v]) (fun _ st o t => o = .returned (some (.int i)) ∧ t.heap = st.heap) 0 0 free := by
  refine xm_of (cc := prog_24_method_11_code) (maxL := 3) (ret := some .int) (by decide) (fun args s hw => xm_code_of hw) ?_
  intro p e s m args below meth c s₁ B' hml hP
  subst hP
  have he : entryFrame m #[Value.int i, Value.int n, v] 3 = F0 m 0 #[.val (.int i), .val (.int n), .val v] [] := by
    have := lg_entry_eq m [Value.int i, Value.int n, v] 3
    rw [show #[Value.int i, Value.int n, v] = [Value.int i, Value.int n, v].toArray from rfl, this]
    cases v <;> first | rfl | (simp [Value.category] at hv)
  rw [he]
  have hb := B'.bytes
  have hx := B'.exec
  refine lv_iload_n hx hb (k := 0) (i := 0) (x := i) (by decide +kernel) rfl (by rfl) ?_
  refine lv_if_lt hx hb (off := 8) (tgt := 9) (by decide +kernel) (by decide) (fun h => absurd h h0) fun _ => ?_
  refine lv_iload_n hx hb (k := 0) (i := 0) (x := i) (by decide +kernel) rfl (by rfl) ?_
  refine lv_iload_n hx hb (k := 1) (i := 1) (x := n) (by decide +kernel) rfl (by rfl) ?_
  refine lv_icmp_lt hx hb (off := 10) (tgt := 16) (by decide +kernel) (by decide) (fun _ => ?_) (fun h => absurd h1 h)
  refine lv_iload_n hx hb (k := 0) (i := 0) (x := i) (by decide +kernel) rfl (by rfl) ?_
  exact xm_iret hx hb B'.returns rfl (fun t ht _ => ⟨rfl, ht⟩) (fun q hq => by cases hq) (by decide +kernel) B'.notSynchronized
theorem am_d8a : decode (am_by 8) 2 = .ok (.getstatic 1053, 3) := by decide +kernel
theorem am_d8b : decode (am_by 8) 5 = .ok (.invokestatic 1059, 3) := by decide +kernel
section SCK
variable {d B C u c : Nat} {Q : aO → aH → Prop} {ls : List (Nat × Value)} {r : List Value} {h : aH}
theorem am_j_chk {i n : Int32} (h0 : ¬ i < 0) (h1 : i < n) (h1d : 1 ≤ d) (hu : u ≤ B) (hc : c ≤ C) (h8 : (r.map Value.category).sum ≤ 8) (kk : am_Tri 8 d B C u c (9, ls, r, h) Q) : am_Tri 8 d B C u c (2, ls, .int n :: .int i :: r, h) Q := by
  intro p l e R s m args below meth cd E cx H locs la hR hl hlo
  obtain ⟨hx, hb, hml, hr, hlocks, hname, hown, hG, htr, hex, hRm, hbs, hvn, hol, hE0, hfl⟩ := id cx
  have key : ∀ v : Value, v.category = 1 → W p l e R s m args below meth cd H locs u c (xm_MQ below (am_Qc E Q) args s B C (fun q => E.1 ≤ q)) (F0 m 5 la (v :: .int n :: .int i :: r.map (am_v E))) := by
    intro v hv T hT X
    have w1 : (Jvm.Cond.code am_pck prog_24_method_11_code 3 (some .int)) ∈ lw_tbl := by decide +kernel
    have w2 : (Jvm.Cond.methodLink "java/lang/String" 1059 am_pck) ∈ lw_tbl := by decide +kernel
    have w3 : (Jvm.Cond.static am_pck) ∈ lw_tbl := by decide +kernel
    have w4 : (Jvm.Cond.initialized am_pck.cls) ∈ lw_tbl := by decide +kernel
    obtain ⟨i1, w1⟩ := List.getElem?_of_mem w1
    obtain ⟨i2, w2⟩ := List.getElem?_of_mem w2
    obtain ⟨i3, w3⟩ := List.getElem?_of_mem w3
    obtain ⟨i4, w4⟩ := List.getElem?_of_mem w4
    have hE := xm_entS (rest := r.map (am_v E)) X hx hown (hG.1.use w2 rfl args) (hG.1.use w3 rfl args) (hG.1.use w4 rfl args) (xm_code_of (hG.1.use w1 rfl args)) ⟨by decide, by decide⟩ (g := F0 m 5 la (v :: .int n :: .int i :: r.map (am_v E))) rfl (argsL := [.int i, .int n, v]) (fun sig hs => by
      have : parseMethodDescriptor am_pck.desc = some sig := hs
      rw [show (parseMethodDescriptor am_pck.desc) = some ⟨[.int, .int, .object "java/util/function/BiFunction"], some .int⟩ from by decide +kernel] at this
      cases this
      rfl) rfl (by rw [hb]; exact am_d8b)
    obtain ⟨oc, st, t, Bs, L, e1, e2, X', ⟨hq1, hq2⟩, hL, e3, e4, hWt, stp⟩ := xm_call hE (am_pcm l hv h0 h1 (fun q => E.1 ≤ q)) (by rw [hRm]; exact h1d) (maxL := 3) (by rw [hRm]; show 8 + (3 + 11) + 40 * 0 ≤ 40 * d; omega) rfl (by rw [hml]; exact hl.1) (len := 3) (ig := .invokestatic 1059) (by rw [hb]; exact am_d8b)
      (by show 2 * 0 + _ ≤ 8; rw [am_vcats]; omega) (bytes := prog_24_method_11_code) (ret := some .int) (fun U hU => ⟨(hG.1.warm hU).use w1 rfl _, xm_code_of ((hG.1.warm hU).use w1 rfl #[]), (hG.1.warm hU).use w4 rfl _⟩) (by rw [hRm]; exact hu) (by rw [hRm]; exact hc) (fun U hU hW => rfl)
    subst hq1
    have hRs : am_R E h s Bs.heap := by rw [e3, hq2, e1, hT]; exact hR
    have hlo' : ∀ q ∈ locs ++ L, E.1 ≤ q.base := fun q hq => (List.mem_append.mp hq).elim (hlo q) (hL q)
    obtain ⟨tt, a1, a2⟩ := lv_pop (va := .int i) (pc := 8) hx hb (by decide +kernel) rfl (kk p l e R s m args below meth cd E cx Bs.heap (locs ++ L) la hRs hl hlo') Bs rfl X'
    exact ⟨tt, stp _ a1, a2⟩
  have w5 : (Jvm.Cond.fieldLink "java/lang/String" 1053 "jdk/internal/util/Preconditions" "SIOOBE_FORMATTER" "Ljava/util/function/BiFunction;") ∈ lw_tbl := by decide +kernel
  obtain ⟨i5, w5⟩ := List.getElem?_of_mem w5
  rcases (hG.2.2.2.2.2.1.2).kept (fun a ha _ => hR.old a ha) with hz | ⟨t, hz⟩
  · obtain ⟨cf, kf, fi, f, a, cell, g1, g2, g3, g4, g5, g6, g7, g8⟩ := hz
    exact W.gets hx hb hown (hG.1.use w5 rfl args) g1 g2 g3 g4 g5 (fun e => by rw [e] at g6; cases g6) g7 rfl am_d8a (key _ rfl)
  · obtain ⟨cf, kf, fi, f, a, cell, g1, g2, g3, g4, g5, g6, g7, g8⟩ := hz
    exact W.gets hx hb hown (hG.1.use w5 rfl args) g1 g2 g3 g4 g5 (fun e => by rw [e] at g6; cases g6) g7 rfl am_d8a (key _ rfl)
end SCK
end
section
/-! RULES TO RUN BY; the contracts of Math and String -/
section RUL
variable {M d B C u c M' d' B' C' nx k X : Nat} {Q : aO → aH → Prop} {s t t2 : aS} {R : aR} {h h' : aH} {o : aO} {ls : List (Nat × Value)} {sk as : List Value} {P : Prop} {v : Value}
theorem am_go (n : Nat) (h1d : 1 ≤ d) (hr : am_run n M s = R) (hk : am_Wp M d B C u c R Q) : am_Tri M d B C u c s Q := am_run_ok h1d n (by rw [hr]; exact hk)
/-- a branch -/
theorem am_bra (n : Nat) (h1d : 1 ≤ d) (hr : am_run n M s = am_br P t t2) (k1 : P → am_Tri M d B C u c t Q) (k2 : ¬ P → am_Tri M d B C u c t2 Q) : am_Tri M d B C u c s Q := am_go n h1d hr ⟨k1, k2⟩
theorem am_yea (n : Nat) (h1d : 1 ≤ d) (hr : am_run n M s = am_br P t t2) (hp : P) (k1 : am_Tri M d B C u c t Q) : am_Tri M d B C u c s Q := am_go n h1d hr ⟨fun _ => k1, fun h => absurd hp h⟩
theorem am_nay (n : Nat) (h1d : 1 ≤ d) (hr : am_run n M s = am_br P t t2) (hp : ¬ P) (k2 : am_Tri M d B C u c t2 Q) : am_Tri M d B C u c s Q := am_go n h1d hr ⟨fun h => absurd h hp, fun _ => k2⟩
theorem am_nee (n : Nat) (h1d : 1 ≤ d) (hr : am_run n M s = am_nd P t) (hp : P) (k1 : am_Tri M d B C u c t Q) : am_Tri M d B C u c s Q := am_go n h1d hr ⟨hp, k1⟩
theorem am_end (n : Nat) (h1d : 1 ≤ d) (hr : am_run n M s = am_rt P o h) (hp : P) (hu : u ≤ B) (hc : c ≤ C) (hq : Q o h) : am_Tri M d B C u c s Q := am_go n h1d hr ⟨hp, hu, hc, hq⟩
theorem am_new1 (n : Nat) {m : Nat} (h1d : 1 ≤ d) (hr : am_run n M s = am_al P m t) (hp : P) (hu : u + 1 ≤ B) (hc : c + m ≤ C) (k1 : am_Tri M d B C (u + 1) (c + m) t Q) : am_Tri M d B C u c s Q := am_go n h1d hr ⟨hp, hu, hc, k1⟩
theorem am_thw (n : Nat) (h1d : 6 ≤ d) (hr : am_run n M s = am_th X k h) (hu : u + 1 ≤ B) (hc : c + 6 ≤ C) (hq : Q (.inr (X, k)) h) : am_Tri M d B C u c s Q := am_go n (by omega) hr ⟨h1d, hu, hc, hq⟩
/-- a call that returns a value; nothing; throws -/
theorem am_cav (n : Nat) (h1d : 1 ≤ d) (hr : am_run n M s = am_ca M' as (nx, ls, sk, h)) (hcon : am_Con d' M' as h (.inl (some v)) h' B' C') (hd : d' + 1 ≤ d) (hB : u + B' ≤ B) (hC : c + C' ≤ C) (hk : am_Tri M d B C (u + B') (c + C') (nx - 3 + 3, ls, v :: sk, h') Q) : am_Tri M d B C u c s Q :=
  am_go n h1d hr ⟨d', _, h', B', C', hcon, hd, hB, hC, hk⟩
theorem am_can (n : Nat) (h1d : 1 ≤ d) (hr : am_run n M s = am_ca M' as (nx, ls, sk, h)) (hcon : am_Con d' M' as h (.inl none) h' B' C') (hd : d' + 1 ≤ d) (hB : u + B' ≤ B) (hC : c + C' ≤ C) (hk : am_Tri M d B C (u + B') (c + C') (nx - 3 + 3, ls, sk, h') Q) : am_Tri M d B C u c s Q :=
  am_go n h1d hr ⟨d', _, h', B', C', hcon, hd, hB, hC, hk⟩
theorem am_cat (n : Nat) (h1d : 1 ≤ d) (hr : am_run n M s = am_ca M' as (nx, ls, sk, h)) (hcon : am_Con d' M' as h (.inr (X, k)) h' B' C') (hd : d' + 1 ≤ d) (hB : u + B' ≤ B) (hC : c + C' ≤ C) (hs : am_hs M = []) (hq : Q (.inr (X, k)) h') : am_Tri M d B C u c s Q := by
  refine am_go n h1d hr ⟨d', _, h', B', C', hcon, hd, hB, hC, ?_⟩
  show am_Thr M d B C (u + B') (c + C') (nx - 3) ls X k h' Q
  unfold am_Thr
  rw [hs]
  exact ⟨hB, hC, hq⟩
/-- a call of a text's own method -/
theorem am_txc {pc cp i : Nat} {K : List aK} {I A : Nat → Nat → Int32} {J : Nat → Nat → Int64} {Z : Nat × (Nat → Int32)} {st : List Value} (hd : decode (am_by M) pc = .ok (.invokevirtual cp, 3)) (hr : am_x M (.invokevirtual cp) pc (pc + 3) [] 0 [] ls st (K, I, A, J, Z) = (match am_ckc 0 M' (.retAddr i :: as) K sk with | true => am_ca M' (.retAddr i :: as) (nx, ls, sk, (K, I, A, J, Z)) | false => none)) (hck : am_ckc 0 M' (.retAddr i :: as) K sk = true)
    (hcon : am_Con d' M' (.retAddr i :: as) (K, I, A, J, Z) (.inl (some v)) h' B' C') (hd' : d' + 1 ≤ d) (hB : u + B' ≤ B) (hC : c + C' ≤ C) (hk : am_Tri M d B C (u + B') (c + C') (nx - 3 + 3, ls, v :: sk, h') Q) : am_Tri M d B C u c (pc, ls, st, (K, I, A, J, Z)) Q := by
  refine am_z_inv0 (tg := []) (imm := 0) (ks := []) hd ?_
  rw [hr, hck]
  exact ⟨d', _, h', B', C', hcon, hd', hB, hC, hk⟩
theorem am_met (hM : Nat.blt M 200 = true) (hl : Nat.ble (lg_sl as).length (am_ml M) = true) (hT : am_Tri M d B C 0 0 (0, lv_args 0 as, [], h) (fun oo hh => oo = o ∧ hh = h')) : am_Con d M as h o h' B C := am_con (Nat.blt_eq.mp hM) (Nat.ble_eq.mp hl) hT
end RUL
theorem t_max {h : aH} {x y : Int32} : am_Con 1 0 [.int x, .int y] h (.inl (some (.int (if x < y then y else x)))) h 0 0 := by
  refine am_met rfl rfl ?_
  refine am_bra 9 (by decide) rfl (fun q => ?_) (fun q => ?_)
  · exact am_end 9 (by decide) rfl trivial (by decide) (by decide) ⟨by rw [if_pos q], rfl⟩
  · exact am_end 9 (by decide) rfl trivial (by decide) (by decide) ⟨by rw [if_neg q], rfl⟩
theorem t_min {h : aH} {x y : Int32} : am_Con 1 1 [.int x, .int y] h (.inl (some (.int (if y < x then y else x)))) h 0 0 := by
  refine am_met rfl rfl ?_
  refine am_bra 9 (by decide) rfl (fun q => ?_) (fun q => ?_)
  · exact am_end 9 (by decide) rfl trivial (by decide) (by decide) ⟨by rw [if_pos q], rfl⟩
  · exact am_end 9 (by decide) rfl trivial (by decide) (by decide) ⟨by rw [if_neg q], rfl⟩
theorem t_coder {h : aH} {i : Nat} (hi : i < 29) : am_Con 1 6 [.retAddr i] h (.inl (some (.int 0))) h 0 0 := by
  refine am_met rfl rfl ?_
  refine am_j_sta (wi := 586) (cp := 38) (x := 1) (by decide +kernel) (fun E U hG => hG.2.2.2.2.2.1.1) (by decide +kernel) ?_
  refine am_nay 9 (by decide) rfl (by decide) ?_
  refine am_go 1 (by decide) rfl ?_
  refine am_j_get (wi := 1461) (cp := 15) (v := .int 0) (by decide +kernel) (fun E U hG => (hG.2.2.2.2.1 i hi).2.1) (by decide +kernel) ?_
  refine am_go 1 (by decide) rfl ?_
  exact am_i_ret rfl rfl (by decide) (by decide) (by decide +kernel) ⟨rfl, rfl⟩
theorem t_latin {h : aH} {i : Nat} (hi : i < 29) : am_Con 1 7 [.retAddr i] h (.inl (some (.int 1))) h 0 0 := by
  refine am_met rfl rfl ?_
  refine am_j_sta (wi := 586) (cp := 38) (x := 1) (by decide +kernel) (fun E U hG => hG.2.2.2.2.2.1.1) (by decide +kernel) ?_
  refine am_nay 9 (by decide) rfl (by decide) ?_
  refine am_go 1 (by decide) rfl ?_
  refine am_j_get (wi := 1461) (cp := 15) (v := .int 0) (by decide +kernel) (fun E U hG => (hG.2.2.2.2.1 i hi).2.1) (by decide +kernel) ?_
  refine am_nay 9 (by decide) rfl (by decide) ?_
  exact am_end 9 (by decide) rfl (Or.inr rfl) (by decide) (by decide) ⟨rfl, rfl⟩
theorem am_j_ishr {M d B C u c : Nat} {Q : aO → aH → Prop} {pc : Nat} {ls : List (Nat × Value)} {r : List Value} {h : aH} {x y : Int32} (hd : decode (am_by M) pc = .ok (.ishr, 1)) (k : am_Tri M d B C u c (pc + 1, ls, .int (x >>> (y &&& 31)) :: r, h) Q) : am_Tri M d B C u c (pc, ls, .int y :: .int x :: r, h) Q := by
  intro p l e R s m args below meth cd E cx H locs la hR hl hlo
  exact lv_ishr cx.1 cx.2.1 hd (k p l e R s m args below meth cd E cx H locs la hR hl hlo)
theorem am_j_i2b {M d B C u c : Nat} {Q : aO → aH → Prop} {pc : Nat} {ls : List (Nat × Value)} {r : List Value} {h : aH} {x : Int32} (hd : decode (am_by M) pc = .ok (.i2b, 1)) (k : am_Tri M d B C u c (pc + 1, ls, .int x.toInt8.toInt32 :: r, h) Q) : am_Tri M d B C u c (pc, ls, .int x :: r, h) Q := by
  intro p l e R s m args below meth cd E cx H locs la hR hl hlo
  exact lv_i2b cx.1 cx.2.1 hd rfl (k p l e R s m args below meth cd E cx H locs la hR hl hlo)
theorem t_len {h : aH} {i : Nat} (hi : i < 29) : am_Con 2 2 [.retAddr i] h (.inl (some (.int (Int32.ofNat (am_sl.getD i 0))))) h 0 0 := by
  obtain ⟨K, I, A, J, X⟩ := h
  refine am_met rfl rfl ?_
  refine am_go 1 (by decide) rfl ?_
  refine am_j_get (wi := 1460) (cp := 9) (v := .retAddr (2000 + i)) (by decide +kernel) (fun E U hG => (hG.2.2.2.2.1 i hi).2.2.1) (by decide +kernel) ?_
  refine am_j_len hi (by decide +kernel) ?_
  refine am_go 1 (by decide) rfl ?_
  refine am_txc (nx := 9) (cp := 335) (M' := 6) (by decide +kernel) rfl (Nat.blt_eq.mpr hi) (t_coder hi) (by decide) (by decide) (by decide) ?_
  refine am_j_ishr (by decide +kernel) ?_
  rw [show (0 : Int32) &&& 31 = 0 by decide, show ∀ x : Int32, x >>> (0 : Int32) = x from fun x => by simp]
  exact am_end 9 (by decide) rfl trivial (by decide) (by decide) ⟨rfl, rfl⟩
theorem t_chk {h : aH} {i n : Int32} (h0 : ¬ i < 0) (h1 : i < n) : am_Con 1 8 [.int i, .int n] h (.inl none) h 0 0 := by
  refine am_met rfl rfl ?_
  refine am_go 2 (by decide) rfl ?_
  refine am_j_chk h0 h1 (by decide) (by decide) (by decide) (by decide) ?_
  exact am_end 9 (by decide) rfl trivial (by decide) (by decide) ⟨rfl, rfl⟩
/-- a text's character -/
def am_chr (i j : Nat) : Int32 := (am_sb.getD i []).getD j 0
theorem am_chr_ok : ∀ i, i < 29 → ∀ j, j < am_sl.getD i 0 → ((am_chr i j &&& 255).toUInt32 % 65536).toInt32 = am_chr i j ∧ narrow .char (.int (am_chr i j)) = .int (am_chr i j) := by decide +kernel
theorem am_sl31 : ∀ i, i < 29 → am_sl.getD i 0 < 2 ^ 31 := by decide +kernel
theorem t_ch {h : aH} {i j : Nat} (hi : i < 29) (hj : j < am_sl.getD i 0) : am_Con 2 10 [.retAddr (2000 + i), .int (nI j)] h (.inl (some (.int (am_chr i j)))) h 0 0 := by
  obtain ⟨K, I, A, J, X⟩ := h
  have hl := am_sl31 i hi
  have hj' : j < 2 ^ 31 := by omega
  have e1 : (nI j).toNatClampNeg = j := nI_clamp hj'
  refine am_met rfl rfl ?_
  refine am_go 2 (by decide) rfl ?_
  refine am_j_len hi (by decide +kernel) ?_
  have h0 : ¬ nI j < 0 := nI_pos hj'
  have h1 : nI j < Int32.ofNat (am_sl.getD i 0) := nI_lt hj hl
  refine am_can 9 (by decide) rfl (t_chk h0 h1) (by decide) (by decide) (by decide) ?_
  refine am_go 2 (by decide) rfl ?_
  refine am_j_byte hi (fun q => q.elim h0 (fun q => by rw [e1] at q; omega)) (by decide +kernel) ?_
  rw [e1]
  refine am_go 9 (by decide) rfl ⟨?_, by decide, by decide, ?_, rfl⟩
  · have := (am_chr_ok i hi j hj)
    exact (congrArg (fun z => narrow .char (.int z) = .int z) this.1).mpr this.2
  · exact congrArg (fun z => Sum.inl (some (Value.int z))) (am_chr_ok i hi j hj).1
theorem t_charAt {h : aH} {i j : Nat} (hi : i < 29) (hj : j < am_sl.getD i 0) : am_Con 3 3 [.retAddr i, .int (nI j)] h (.inl (some (.int (am_chr i j)))) h 0 0 := by
  obtain ⟨K, I, A, J, X⟩ := h
  refine am_met rfl rfl ?_
  refine am_go 1 (by decide) rfl ?_
  refine am_txc (nx := 4) (cp := 492) (M' := 7) (by decide +kernel) rfl (Nat.blt_eq.mpr hi) (t_latin hi) (by decide) (by decide) (by decide) ?_
  refine am_nay 9 (by decide) rfl (by decide) ?_
  refine am_go 1 (by decide) rfl ?_
  refine am_j_get (wi := 1460) (cp := 9) (v := .retAddr (2000 + i)) (by decide +kernel) (fun E U hG => (hG.2.2.2.2.1 i hi).2.2.1) (by decide +kernel) ?_
  refine am_cav 9 (by decide) rfl (t_ch hi hj) (by decide) (by decide) (by decide) ?_
  exact am_end 9 (by decide) rfl (am_chr_ok i hi j hj).2 (by decide) (by decide) ⟨rfl, rfl⟩
/-- where a character stands first in a text, from k on, n of them; or -1 -/
def am_ix (i : Nat) (c : Int32) : Nat → Nat → Int32
  | _, 0 => -1
  | k, n + 1 => if am_chr i k = c then nI k else am_ix i c (k + 1) n
theorem t_ixc {h : aH} {i : Nat} {c : Int32} (hi : i < 29) (hc : c.toInt8.toInt32 = c) : am_Con 1 13 [.retAddr (2000 + i), .int c, .int 0, .int (Int32.ofNat (am_sl.getD i 0))] h (.inl (some (.int (am_ix i c 0 (am_sl.getD i 0))))) h 0 0 := by
  obtain ⟨K, I, A, J, X⟩ := h
  have hl := am_sl31 i hi
  have loop : ∀ n k, k + n = am_sl.getD i 0 → am_Tri 13 1 0 0 0 0 (7, [(5, .int (nI k)), (4, .int c), (0, .retAddr (2000 + i)), (1, .int c), (2, .int 0), (3, .int (Int32.ofNat (am_sl.getD i 0)))], [], (K, I, A, J, X)) (fun oo hh => oo = .inl (some (.int (am_ix i c k n))) ∧ hh = (K, I, A, J, X)) := by
    intro n
    induction n with
    | zero =>
      intro k hk
      refine am_yea 9 (by decide) rfl (nI_le (show am_sl.getD i 0 ≤ k by omega) (by omega)) ?_
      exact am_end 9 (by decide) rfl trivial (by decide) (by decide) ⟨rfl, rfl⟩
    | succ n ih =>
      intro k hk
      have hk1 : k < am_sl.getD i 0 := by omega
      refine am_nay 9 (by decide) rfl (nI_ge hk1 hl) ?_
      refine am_go 2 (by decide) rfl ?_
      refine am_j_byte hi (nI_in hk1 hl) (by decide +kernel) ?_
      rw [nI_clamp (by omega)]
      refine am_bra 9 (by decide) rfl (fun q => ?_) (fun q => ?_)
      · have := ih (k + 1) (by omega)
        refine am_go 2 (by decide) rfl ?_
        rw [nI_succ] at this
        have e : am_ix i c k (n + 1) = am_ix i c (k + 1) n := if_neg q
        rw [e]
        exact this
      · have e : am_ix i c k (n + 1) = nI k := if_pos (Classical.not_not.mp q)
        rw [e]
        exact am_end 9 (by decide) rfl trivial (by decide) (by decide) ⟨rfl, rfl⟩
  refine am_met rfl rfl ?_
  refine am_go 1 (by decide) rfl ?_
  refine am_j_i2b (by decide +kernel) ?_
  rw [hc]
  refine am_go 3 (by decide) rfl ?_
  exact loop _ 0 (by omega)
theorem t_enc {h : aH} {x : Int32} (h0 : ¬ x < 0) (h1 : ¬ 255 < x) : am_Con 1 11 [.int x] h (.inl (some (.int 1))) h 0 0 := by
  refine am_met rfl rfl ?_
  refine am_nay 9 (by decide) rfl h0 ?_
  refine am_nay 9 (by decide) rfl h1 ?_
  exact am_end 9 (by decide) rfl (Or.inr rfl) (by decide) (by decide) ⟨rfl, rfl⟩
theorem t_ix4 {h : aH} {i : Nat} {c : Int32} (hi : i < 29) (hp : 0 < am_sl.getD i 0) (hc : c.toInt8.toInt32 = c) (h0 : ¬ c < 0) (h1 : ¬ 255 < c) : am_Con 2 12 [.retAddr (2000 + i), .int c, .int 0, .int (Int32.ofNat (am_sl.getD i 0))] h (.inl (some (.int (am_ix i c 0 (am_sl.getD i 0))))) h 0 0 := by
  obtain ⟨K, I, A, J, X⟩ := h
  have hl := am_sl31 i hi
  refine am_met rfl rfl ?_
  refine am_cav 9 (by decide) rfl (t_enc h0 h1) (by decide) (by decide) (by decide) ?_
  refine am_yea 9 (by decide) rfl (by decide) ?_
  refine am_cav 9 (by decide) rfl t_max (by decide) (by decide) (by decide) ?_
  refine am_go 3 (by decide) rfl ?_
  refine am_j_len hi (by decide +kernel) ?_
  refine am_cav 9 (by decide) rfl t_min (by decide) (by decide) (by decide) ?_
  rw [if_neg (show ¬ (Int32.ofNat (am_sl.getD i 0)) < Int32.ofNat (am_sl.getD i 0) from Int32.lt_irrefl)]
  refine am_yea 9 (by decide) rfl (nI_lt hp hl) ?_
  refine am_cav 9 (by decide) rfl (t_ixc hi hc) (by decide) (by decide) (by decide) ?_
  exact am_end 9 (by decide) rfl trivial (by decide) (by decide) ⟨rfl, rfl⟩
theorem t_ix3 {h : aH} {i : Nat} {c : Int32} (hi : i < 29) (hp : 0 < am_sl.getD i 0) (hc : c.toInt8.toInt32 = c) (h0 : ¬ c < 0) (h1 : ¬ 255 < c) : am_Con 3 5 [.retAddr i, .int c, .int 0] h (.inl (some (.int (am_ix i c 0 (am_sl.getD i 0))))) h 0 0 := by
  obtain ⟨K, I, A, J, X⟩ := h
  refine am_met rfl rfl ?_
  refine am_go 1 (by decide) rfl ?_
  refine am_txc (nx := 4) (cp := 492) (M' := 7) (by decide +kernel) rfl (Nat.blt_eq.mpr hi) (t_latin hi) (by decide) (by decide) (by decide) ?_
  refine am_nay 9 (by decide) rfl (by decide) ?_
  refine am_go 1 (by decide) rfl ?_
  refine am_j_get (wi := 1460) (cp := 9) (v := .retAddr (2000 + i)) (by decide +kernel) (fun E U hG => (hG.2.2.2.2.1 i hi).2.2.1) (by decide +kernel) ?_
  refine am_go 3 (by decide) rfl ?_
  refine am_txc (nx := 17) (cp := 505) (M' := 2) (by decide +kernel) rfl (Nat.blt_eq.mpr hi) (t_len hi) (by decide) (by decide) (by decide) ?_
  refine am_cav 9 (by decide) rfl (t_ix4 hi hp hc h0 h1) (by decide) (by decide) (by decide) ?_
  exact am_end 9 (by decide) rfl trivial (by decide) (by decide) ⟨rfl, rfl⟩
theorem t_indexOf {h : aH} {i : Nat} {c : Int32} (hi : i < 29) (hp : 0 < am_sl.getD i 0) (hc : c.toInt8.toInt32 = c) (h0 : ¬ c < 0) (h1 : ¬ 255 < c) : am_Con 4 4 [.retAddr i, .int c] h (.inl (some (.int (am_ix i c 0 (am_sl.getD i 0))))) h 0 0 := by
  obtain ⟨K, I, A, J, X⟩ := h
  refine am_met rfl rfl ?_
  refine am_go 3 (by decide) rfl ?_
  refine am_txc (nx := 6) (cp := 633) (M' := 5) (by decide +kernel) rfl (Nat.blt_eq.mpr hi) (t_ix3 hi hp hc h0 h1) (by decide) (by decide) (by decide) ?_
  exact am_end 9 (by decide) rfl trivial (by decide) (by decide) ⟨rfl, rfl⟩
end
section
/-! THE LAYOUT: the class's cells 0 to 28, the reference's 29 to 55, the law's row 56 -/
/-- 0 BlockFront; 1 Text, 2 its characters; 3 Refusal; 4 Tokens, 5 kinds, 6 marks, 7 places, 8 extents; 9 Tree, 10 kinds, 11 tokens, 12 heights, 13 parts, 14 firsts, 15 lasts, 16 nexts, 17 parents, 18 order; 19 Scanner, 20 widths, 22 narrows, 24 brackets; 26 Parser; 27 Writer, 28 written -/
def am_layC : List aK := [.inl (8, [.ref 1, .ref 3, .ref 4, .ref 9, .ref 19, .ref 26, .ref 27]), .inl (4, [.ref 2, .null]), .inr (.inl (.char, 600)), .inl (2, [.null, .null]), .inl (5, [.ref 5, .ref 6, .ref 7, .ref 8, .null]), .inr (.inl (.int, 120)), .inr (.inl (.int, 120)), .inr (.inl (.int, 120)), .inr (.inl (.int, 120)), .inl (6, [.ref 10, .ref 11, .ref 12, .ref 13, .ref 14, .ref 15, .ref 16, .ref 17, .ref 18, .null]), .inr (.inl (.int, 360)), .inr (.inl (.int, 360)), .inr (.inl (.int, 360)), .inr (.inl (.int, 360)), .inr (.inl (.int, 360)), .inr (.inl (.int, 360)), .inr (.inl (.int, 360)), .inr (.inl (.int, 360)), .inr (.inl (.int, 360)), .inl (3, [.ref 1, .ref 4, .ref 3, .ref 20, .ref 22, .ref 24, .null, .null]), .inl (1, [.ref 21, .null]), .inr (.inl (.int, 9)), .inl (1, [.ref 23, .null]), .inr (.inl (.int, 9)), .inl (1, [.ref 25, .null]), .inr (.inl (.int, 8)), .inl (0, [.ref 4, .ref 9, .ref 3, .null]), .inl (7, [.ref 1, .ref 4, .ref 9, .ref 28, .null]), .inr (.inl (.char, 3120))]
/-- 29 BlockFrontModel; 30 text 31 kept 32 tokenKind 33 tokenPlace 34 tokenLength 35 tokenCode 36 wide 37 narrow 38 opened 39 kind 40 token 41 parts 42 first 43 last 44 next 45 parent 46 height 47 order 48 openKind 49 openToken 50 openNode 51 whole 52 out 53 going 54 done 55 bracketed -/
def am_layM : List aK := [.inl (9, [.null, .ref 30, .null, .null, .null, .ref 31, .null, .ref 32, .ref 33, .ref 34, .ref 35, .null, .ref 36, .ref 37, .null, .null, .null, .null, .ref 38, .null, .ref 39, .ref 40, .ref 41, .ref 42, .ref 43, .ref 44, .ref 45, .ref 46, .ref 47, .null, .null, .null, .ref 48, .ref 49, .ref 50, .null, .ref 51, .null, .ref 52, .null, .ref 53, .ref 54, .ref 55]), .inr (.inl (.int, 600)), .inr (.inl (.int, 600)), .inr (.inl (.int, 120)), .inr (.inl (.int, 120)), .inr (.inl (.int, 120)), .inr (.inl (.long, 120)), .inr (.inl (.int, 9)), .inr (.inl (.int, 9)), .inr (.inl (.int, 8)), .inr (.inl (.int, 400)), .inr (.inl (.int, 400)), .inr (.inl (.int, 400)), .inr (.inl (.int, 400)), .inr (.inl (.int, 400)), .inr (.inl (.int, 400)), .inr (.inl (.int, 400)), .inr (.inl (.int, 400)), .inr (.inl (.int, 400)), .inr (.inl (.int, 12)), .inr (.inl (.int, 12)), .inr (.inl (.int, 12)), .inr (.inl (.int, 16)), .inr (.inl (.int, 3000)), .inr (.inl (.int, 16)), .inr (.inl (.int, 16)), .inr (.inl (.boolean, 16))]
def am_lay : List aK := [.inl (8, [.ref 1, .ref 3, .ref 4, .ref 9, .ref 19, .ref 26, .ref 27]), .inl (4, [.ref 2, .null]), .inr (.inl (.char, 600)), .inl (2, [.null, .null]), .inl (5, [.ref 5, .ref 6, .ref 7, .ref 8, .null]), .inr (.inl (.int, 120)), .inr (.inl (.int, 120)), .inr (.inl (.int, 120)), .inr (.inl (.int, 120)), .inl (6, [.ref 10, .ref 11, .ref 12, .ref 13, .ref 14, .ref 15, .ref 16, .ref 17, .ref 18, .null]), .inr (.inl (.int, 360)), .inr (.inl (.int, 360)), .inr (.inl (.int, 360)), .inr (.inl (.int, 360)), .inr (.inl (.int, 360)), .inr (.inl (.int, 360)), .inr (.inl (.int, 360)), .inr (.inl (.int, 360)), .inr (.inl (.int, 360)), .inl (3, [.ref 1, .ref 4, .ref 3, .ref 20, .ref 22, .ref 24, .null, .null]), .inl (1, [.ref 21, .null]), .inr (.inl (.int, 9)), .inl (1, [.ref 23, .null]), .inr (.inl (.int, 9)), .inl (1, [.ref 25, .null]), .inr (.inl (.int, 8)), .inl (0, [.ref 4, .ref 9, .ref 3, .null]), .inl (7, [.ref 1, .ref 4, .ref 9, .ref 28, .null]), .inr (.inl (.char, 3120)), .inl (9, [.null, .ref 30, .null, .null, .null, .ref 31, .null, .ref 32, .ref 33, .ref 34, .ref 35, .null, .ref 36, .ref 37, .null, .null, .null, .null, .ref 38, .null, .ref 39, .ref 40, .ref 41, .ref 42, .ref 43, .ref 44, .ref 45, .ref 46, .ref 47, .null, .null, .null, .ref 48, .ref 49, .ref 50, .null, .ref 51, .null, .ref 52, .null, .ref 53, .ref 54, .ref 55]), .inr (.inl (.int, 600)), .inr (.inl (.int, 600)), .inr (.inl (.int, 120)), .inr (.inl (.int, 120)), .inr (.inl (.int, 120)), .inr (.inl (.long, 120)), .inr (.inl (.int, 9)), .inr (.inl (.int, 9)), .inr (.inl (.int, 8)), .inr (.inl (.int, 400)), .inr (.inl (.int, 400)), .inr (.inl (.int, 400)), .inr (.inl (.int, 400)), .inr (.inl (.int, 400)), .inr (.inl (.int, 400)), .inr (.inl (.int, 400)), .inr (.inl (.int, 400)), .inr (.inl (.int, 400)), .inr (.inl (.int, 12)), .inr (.inl (.int, 12)), .inr (.inl (.int, 12)), .inr (.inl (.int, 16)), .inr (.inl (.int, 3000)), .inr (.inl (.int, 16)), .inr (.inl (.int, 16)), .inr (.inl (.boolean, 16)), .inr (.inl (.long, 1))]
/-- the heap: the layout, and what exceptions left behind it -/
abbrev am_H (g : List aK) (I A : Nat → Nat → Int32) (J : Nat → Nat → Int64) (X : Nat × (Nat → Int32)) : aH := (am_lay ++ g, I, A, J, X)
end
section
/-! THE TEXT -/
section TXT
variable {g : List aK} {I A : Nat → Nat → Int32} {J : Nat → Nat → Int64} {X : Nat × (Nat → Int32)}
theorem t_add {n : Nat} {ch : Int32} (hn : I 1 1 = nI n) (h6 : n < 600) (hc : narrow .char (.int ch) = .int ch) : am_Con 1 18 [.ref 1, .int ch] (am_H g I A J X) (.inl none) (am_H g (am_u I 1 1 (nI (n + 1))) (am_u A 2 n ch) J X) 0 0 := by
  refine am_met rfl rfl ?_
  refine am_nay 9 (by decide) rfl (by rw [hn]; exact nI_pos (by omega)) ?_
  refine am_nay 9 (by decide) rfl (by rw [hn]; exact nI_ge h6 (by decide)) ?_
  refine am_nee 9 (by decide) rfl (by rw [hn]; exact nI_in h6 (by decide)) ?_
  refine am_end 9 (by decide) rfl trivial (by decide) (by decide) ⟨rfl, ?_⟩
  have e : vp_nar .char ch = ch := by simp [vp_nar, hc]
  rw [hn, nI_clamp (show n < 2 ^ 31 by omega), nI_1, e]
/-- the character at a place, 0 where there is none -/
def c_at (A : Nat → Nat → Int32) (n p : Nat) : Int32 := if p < n then A 2 p else 0
theorem t_at {n p : Nat} (hn : I 1 1 = nI n) (h6 : n ≤ 600) (hp : p < 2 ^ 31) (hc : ∀ k, k < n → narrow .char (.int (A 2 k)) = .int (A 2 k)) : am_Con 1 19 [.ref 1, .int (nI p)] (am_H g I A J X) (.inl (some (.int (c_at A n p)))) (am_H g I A J X) 0 0 := by
  refine am_met rfl rfl ?_
  refine am_nay 9 (by decide) rfl (nI_pos hp) ?_
  rcases Nat.lt_or_ge p n with q | q
  · refine am_nay 9 (by decide) rfl (by rw [hn]; exact nI_ge q (by omega)) ?_
    refine am_nay 9 (by decide) rfl (nI_ge (show p < 600 by omega) (by decide)) ?_
    refine am_nee 9 (by decide) rfl (nI_in (show p < 600 by omega) (by decide)) ?_
    rw [nI_clamp hp]
    exact am_end 9 (by decide) rfl (hc p q) (by decide) (by decide) ⟨by rw [c_at, if_pos q], rfl⟩
  · refine am_yea 9 (by decide) rfl (by rw [hn]; exact nI_le q hp) ?_
    exact am_end 9 (by decide) rfl rfl (by decide) (by decide) ⟨by rw [c_at, if_neg (by omega)], rfl⟩
end TXT
end
section
/-! THE PILES -/
section PIL
variable {g : List aK} {I A : Nat → Nat → Int32} {J : Nat → Nat → Int64} {X : Nat × (Nat → Int32)}
theorem t_push20 {n : Nat} {v : Int32} (hn : I 20 1 = nI n) (h : n < 9) : am_Con 1 22 [.ref 20, .int v] (am_H g I A J X) (.inl (some (.int 1))) (am_H g (am_u I 20 1 (nI (n + 1))) (am_u A 21 n v) J X) 0 0 := by
  refine am_met rfl rfl ?_
  refine am_nay 9 (by decide) rfl (by rw [hn]; exact nI_pos (by omega)) ?_
  refine am_yea 9 (by decide) rfl (by rw [hn]; exact nI_lt h (by decide)) ?_
  refine am_nee 9 (by decide) rfl (by rw [hn]; exact nI_in h (by decide)) ?_
  refine am_end 12 (by decide) rfl (Or.inr rfl) (by decide) (by decide) ⟨rfl, ?_⟩
  rw [hn, nI_clamp (show n < 2 ^ 31 by omega), nI_1]
theorem t_full20 {v : Int32} (hn : I 20 1 = nI 9) : am_Con 1 22 [.ref 20, .int v] (am_H g I A J X) (.inl (some (.int 0))) (am_H g I A J X) 0 0 := by
  refine am_met rfl rfl ?_
  refine am_nay 9 (by decide) rfl (by rw [hn]; decide) ?_
  refine am_nay 9 (by decide) rfl (by rw [hn]; decide) ?_
  exact am_end 9 (by decide) rfl (Or.inl rfl) (by decide) (by decide) ⟨rfl, rfl⟩
theorem t_pop20 {n : Nat} (hn : I 20 1 = nI (n + 1)) (h : n < 9) : am_Con 1 23 [.ref 20] (am_H g I A J X) (.inl none) (am_H g (am_u I 20 1 (nI n)) A J X) 0 0 := by
  refine am_met rfl rfl ?_
  refine am_nay 9 (by decide) rfl (by rw [hn]; exact nI_nle (by omega) (by omega)) ?_
  refine am_end 9 (by decide) rfl trivial (by decide) (by decide) ⟨rfl, ?_⟩
  rw [hn, nI_pred]
theorem t_last20 {n : Nat} (hn : I 20 1 = nI (n + 1)) (h : n < 9) : am_Con 1 24 [.ref 20] (am_H g I A J X) (.inl (some (.int (A 21 n)))) (am_H g I A J X) 0 0 := by
  refine am_met rfl rfl ?_
  refine am_nay 9 (by decide) rfl (by rw [hn]; exact nI_nle (by omega) (by omega)) ?_
  refine am_nay 9 (by decide) rfl (by rw [hn]; exact nI_nlt (show n + 1 ≤ 9 by omega) (by decide)) ?_
  have e : (I 20 1 - 1).toNatClampNeg = n := by rw [hn, nI_pred, nI_clamp (by omega)]
  refine am_nee 9 (by decide) rfl (by rw [hn, nI_pred]; exact nI_in h (by decide)) ?_
  rw [e]
  exact am_end 9 (by decide) rfl trivial (by decide) (by decide) ⟨rfl, rfl⟩
theorem t_none20 (hn : I 20 1 = nI 0) : am_Con 1 24 [.ref 20] (am_H g I A J X) (.inl (some (.int (-1)))) (am_H g I A J X) 0 0 := by
  refine am_met rfl rfl ?_
  refine am_yea 9 (by decide) rfl (by rw [hn]; decide) ?_
  exact am_end 9 (by decide) rfl trivial (by decide) (by decide) ⟨rfl, rfl⟩
theorem t_push22 {n : Nat} {v : Int32} (hn : I 22 1 = nI n) (h : n < 9) : am_Con 1 22 [.ref 22, .int v] (am_H g I A J X) (.inl (some (.int 1))) (am_H g (am_u I 22 1 (nI (n + 1))) (am_u A 23 n v) J X) 0 0 := by
  refine am_met rfl rfl ?_
  refine am_nay 9 (by decide) rfl (by rw [hn]; exact nI_pos (by omega)) ?_
  refine am_yea 9 (by decide) rfl (by rw [hn]; exact nI_lt h (by decide)) ?_
  refine am_nee 9 (by decide) rfl (by rw [hn]; exact nI_in h (by decide)) ?_
  refine am_end 12 (by decide) rfl (Or.inr rfl) (by decide) (by decide) ⟨rfl, ?_⟩
  rw [hn, nI_clamp (show n < 2 ^ 31 by omega), nI_1]
theorem t_full22 {v : Int32} (hn : I 22 1 = nI 9) : am_Con 1 22 [.ref 22, .int v] (am_H g I A J X) (.inl (some (.int 0))) (am_H g I A J X) 0 0 := by
  refine am_met rfl rfl ?_
  refine am_nay 9 (by decide) rfl (by rw [hn]; decide) ?_
  refine am_nay 9 (by decide) rfl (by rw [hn]; decide) ?_
  exact am_end 9 (by decide) rfl (Or.inl rfl) (by decide) (by decide) ⟨rfl, rfl⟩
theorem t_pop22 {n : Nat} (hn : I 22 1 = nI (n + 1)) (h : n < 9) : am_Con 1 23 [.ref 22] (am_H g I A J X) (.inl none) (am_H g (am_u I 22 1 (nI n)) A J X) 0 0 := by
  refine am_met rfl rfl ?_
  refine am_nay 9 (by decide) rfl (by rw [hn]; exact nI_nle (by omega) (by omega)) ?_
  refine am_end 9 (by decide) rfl trivial (by decide) (by decide) ⟨rfl, ?_⟩
  rw [hn, nI_pred]
theorem t_last22 {n : Nat} (hn : I 22 1 = nI (n + 1)) (h : n < 9) : am_Con 1 24 [.ref 22] (am_H g I A J X) (.inl (some (.int (A 23 n)))) (am_H g I A J X) 0 0 := by
  refine am_met rfl rfl ?_
  refine am_nay 9 (by decide) rfl (by rw [hn]; exact nI_nle (by omega) (by omega)) ?_
  refine am_nay 9 (by decide) rfl (by rw [hn]; exact nI_nlt (show n + 1 ≤ 9 by omega) (by decide)) ?_
  have e : (I 22 1 - 1).toNatClampNeg = n := by rw [hn, nI_pred, nI_clamp (by omega)]
  refine am_nee 9 (by decide) rfl (by rw [hn, nI_pred]; exact nI_in h (by decide)) ?_
  rw [e]
  exact am_end 9 (by decide) rfl trivial (by decide) (by decide) ⟨rfl, rfl⟩
theorem t_none22 (hn : I 22 1 = nI 0) : am_Con 1 24 [.ref 22] (am_H g I A J X) (.inl (some (.int (-1)))) (am_H g I A J X) 0 0 := by
  refine am_met rfl rfl ?_
  refine am_yea 9 (by decide) rfl (by rw [hn]; decide) ?_
  exact am_end 9 (by decide) rfl trivial (by decide) (by decide) ⟨rfl, rfl⟩
theorem t_push24 {n : Nat} {v : Int32} (hn : I 24 1 = nI n) (h : n < 8) : am_Con 1 22 [.ref 24, .int v] (am_H g I A J X) (.inl (some (.int 1))) (am_H g (am_u I 24 1 (nI (n + 1))) (am_u A 25 n v) J X) 0 0 := by
  refine am_met rfl rfl ?_
  refine am_nay 9 (by decide) rfl (by rw [hn]; exact nI_pos (by omega)) ?_
  refine am_yea 9 (by decide) rfl (by rw [hn]; exact nI_lt h (by decide)) ?_
  refine am_nee 9 (by decide) rfl (by rw [hn]; exact nI_in h (by decide)) ?_
  refine am_end 12 (by decide) rfl (Or.inr rfl) (by decide) (by decide) ⟨rfl, ?_⟩
  rw [hn, nI_clamp (show n < 2 ^ 31 by omega), nI_1]
theorem t_full24 {v : Int32} (hn : I 24 1 = nI 8) : am_Con 1 22 [.ref 24, .int v] (am_H g I A J X) (.inl (some (.int 0))) (am_H g I A J X) 0 0 := by
  refine am_met rfl rfl ?_
  refine am_nay 9 (by decide) rfl (by rw [hn]; decide) ?_
  refine am_nay 9 (by decide) rfl (by rw [hn]; decide) ?_
  exact am_end 9 (by decide) rfl (Or.inl rfl) (by decide) (by decide) ⟨rfl, rfl⟩
theorem t_pop24 {n : Nat} (hn : I 24 1 = nI (n + 1)) (h : n < 8) : am_Con 1 23 [.ref 24] (am_H g I A J X) (.inl none) (am_H g (am_u I 24 1 (nI n)) A J X) 0 0 := by
  refine am_met rfl rfl ?_
  refine am_nay 9 (by decide) rfl (by rw [hn]; exact nI_nle (by omega) (by omega)) ?_
  refine am_end 9 (by decide) rfl trivial (by decide) (by decide) ⟨rfl, ?_⟩
  rw [hn, nI_pred]
theorem t_last24 {n : Nat} (hn : I 24 1 = nI (n + 1)) (h : n < 8) : am_Con 1 24 [.ref 24] (am_H g I A J X) (.inl (some (.int (A 25 n)))) (am_H g I A J X) 0 0 := by
  refine am_met rfl rfl ?_
  refine am_nay 9 (by decide) rfl (by rw [hn]; exact nI_nle (by omega) (by omega)) ?_
  refine am_nay 9 (by decide) rfl (by rw [hn]; exact nI_nlt (show n + 1 ≤ 8 by omega) (by decide)) ?_
  have e : (I 24 1 - 1).toNatClampNeg = n := by rw [hn, nI_pred, nI_clamp (by omega)]
  refine am_nee 9 (by decide) rfl (by rw [hn, nI_pred]; exact nI_in h (by decide)) ?_
  rw [e]
  exact am_end 9 (by decide) rfl trivial (by decide) (by decide) ⟨rfl, rfl⟩
theorem t_none24 (hn : I 24 1 = nI 0) : am_Con 1 24 [.ref 24] (am_H g I A J X) (.inl (some (.int (-1)))) (am_H g I A J X) 0 0 := by
  refine am_met rfl rfl ?_
  refine am_yea 9 (by decide) rfl (by rw [hn]; decide) ?_
  exact am_end 9 (by decide) rfl trivial (by decide) (by decide) ⟨rfl, rfl⟩
end PIL
end
section
/-! CHARACTERS: the tests that both sides make -/
def am_b (b : Bool) : Int32 := if b = true then 1 else 0
theorem am_b0 {b : Bool} : am_b b = 0 ↔ b = false := by cases b <;> decide
theorem am_b1 {b : Bool} : ¬ am_b b = 0 ↔ b = true := by cases b <;> decide
theorem am_b01 (b : Bool) : am_b b = 0 ∨ am_b b = 1 := by cases b <;> decide
def c_blank (c : Int32) : Bool := decide (c = 32) || decide (c = 9)
def c_digit (c : Int32) : Bool := !(decide (c < 48)) && !(decide (57 < c))
def c_letter (c : Int32) : Bool := (!(decide (c < 97)) && !(decide (122 < c))) || (!(decide (c < 65)) && !(decide (90 < c))) || decide (c = 95)
def c_char (c : Int32) : Bool := decide (c = 9) || decide (c = 10) || (!(decide (c < 32)) && !(decide (126 < c)))
section CHR
variable {h : aH} {c : Int32}
theorem t_blank : am_Con 1 121 [.int c] h (.inl (some (.int (am_b (c_blank c))))) h 0 0 := by
  refine am_met rfl rfl ?_
  repeat' first
    | exact am_end 9 (by decide) rfl (by first | exact Or.inl rfl | exact Or.inr rfl) (by decide) (by decide) ⟨by simp_all [c_blank, am_b], rfl⟩
    | refine am_bra 9 (by decide) rfl (fun q => ?_) (fun q => ?_)
theorem t_digit : am_Con 1 122 [.int c] h (.inl (some (.int (am_b (c_digit c))))) h 0 0 := by
  refine am_met rfl rfl ?_
  repeat' first
    | exact am_end 9 (by decide) rfl (by first | exact Or.inl rfl | exact Or.inr rfl) (by decide) (by decide) ⟨by simp_all [c_digit, am_b], rfl⟩
    | refine am_bra 9 (by decide) rfl (fun q => ?_) (fun q => ?_)
theorem t_letter : am_Con 1 123 [.int c] h (.inl (some (.int (am_b (c_letter c))))) h 0 0 := by
  refine am_met rfl rfl ?_
  repeat' first
    | exact am_end 9 (by decide) rfl (by first | exact Or.inl rfl | exact Or.inr rfl) (by decide) (by decide) ⟨by simp_all [c_letter, am_b], rfl⟩
    | refine am_bra 9 (by decide) rfl (fun q => ?_) (fun q => ?_)
theorem t_char : am_Con 1 120 [.int c] h (.inl (some (.int (am_b (c_char c))))) h 0 0 := by
  refine am_met rfl rfl ?_
  repeat' first
    | exact am_end 9 (by decide) rfl (by first | exact Or.inl rfl | exact Or.inr rfl) (by decide) (by decide) ⟨by simp_all [c_char, am_b], rfl⟩
    | refine am_bra 9 (by decide) rfl (fun q => ?_) (fun q => ?_)
theorem m_char : am_Con 1 128 [.int c] h (.inl (some (.int (am_b (c_char c))))) h 0 0 := by
  refine am_met rfl rfl ?_
  repeat' first
    | exact am_end 9 (by decide) rfl (by first | exact Or.inl rfl | exact Or.inr rfl) (by decide) (by decide) ⟨by simp_all [c_char, am_b], rfl⟩
    | refine am_bra 9 (by decide) rfl (fun q => ?_) (fun q => ?_)
theorem m_blank : am_Con 1 133 [.int c] h (.inl (some (.int (am_b (c_blank c))))) h 0 0 := by
  refine am_met rfl rfl ?_
  repeat' first
    | exact am_end 9 (by decide) rfl (by first | exact Or.inl rfl | exact Or.inr rfl) (by decide) (by decide) ⟨by simp_all [c_blank, am_b], rfl⟩
    | refine am_bra 9 (by decide) rfl (fun q => ?_) (fun q => ?_)
theorem m_digit : am_Con 1 134 [.int c] h (.inl (some (.int (am_b (c_digit c))))) h 0 0 := by
  refine am_met rfl rfl ?_
  repeat' first
    | exact am_end 9 (by decide) rfl (by first | exact Or.inl rfl | exact Or.inr rfl) (by decide) (by decide) ⟨by simp_all [c_digit, am_b], rfl⟩
    | refine am_bra 9 (by decide) rfl (fun q => ?_) (fun q => ?_)
theorem m_letter : am_Con 1 135 [.int c] h (.inl (some (.int (am_b (c_letter c))))) h 0 0 := by
  refine am_met rfl rfl ?_
  repeat' first
    | exact am_end 9 (by decide) rfl (by first | exact Or.inl rfl | exact Or.inr rfl) (by decide) (by decide) ⟨by simp_all [c_letter, am_b], rfl⟩
    | refine am_bra 9 (by decide) rfl (fun q => ?_) (fun q => ?_)
end CHR
end
section
/-! FROM STATE TO STATE, with whatever cells are left -/
def am_To (M d : Nat) (s s' : aS) : Prop := ∀ (B C u c : Nat) (Q : aO → aH → Prop), u ≤ B → c ≤ C → am_Tri M d B C u c s' Q → am_Tri M d B C u c s Q
/-- it ends so, with one cell of 6 slots more -/
def am_Ft (M d : Nat) (s : aS) (o : aO) (h : aH) : Prop := ∀ (B C u c : Nat) (Q : aO → aH → Prop), u + 1 ≤ B → c + 6 ≤ C → Q o h → am_Tri M d B C u c s Q
theorem am_To.trans {M d : Nat} {s s' s'' : aS} (h1 : am_To M d s s') (h2 : am_To M d s' s'') : am_To M d s s'' := fun B C u c Q hu hc k => h1 B C u c Q hu hc (h2 B C u c Q hu hc k)
theorem am_To.refl {M d : Nat} {s : aS} : am_To M d s s := fun _ _ _ _ _ _ _ k => k
theorem am_Ft.from {M d : Nat} {s s' : aS} {o : aO} {h : aH} (h1 : am_To M d s s') (h2 : am_Ft M d s' o h) : am_Ft M d s o h := fun B C u c Q hu hc k => h1 B C u c Q (by omega) (by omega) (h2 B C u c Q hu hc k)
theorem am_metF {M d : Nat} {as : List Value} {h h' : aH} {o : aO} (hM : Nat.blt M 200 = true) (hl : Nat.ble (lg_sl as).length (am_ml M) = true) (hT : am_Ft M d (0, lv_args 0 as, [], h) o h') : am_Con d M as h o h' 1 6 :=
  am_met hM hl (hT 1 6 0 0 _ (by decide) (by decide) ⟨rfl, rfl⟩)
/-- what lies outside of the cells cs is as it was -/
def am_Fr (cs : List Nat) (I A I' A' : Nat → Nat → Int32) : Prop := ∀ x : Nat, x ∉ cs → I' x = I x ∧ A' x = A x
theorem am_Fr.refl {cs : List Nat} {I A : Nat → Nat → Int32} : am_Fr cs I A I A := fun _ _ => ⟨rfl, rfl⟩
theorem am_Fr.trans {cs : List Nat} {I A I' A' I'' A'' : Nat → Nat → Int32} (h1 : am_Fr cs I A I' A') (h2 : am_Fr cs I' A' I'' A'') : am_Fr cs I A I'' A'' := fun x hx => ⟨(h2 x hx).1.trans (h1 x hx).1, (h2 x hx).2.trans (h1 x hx).2⟩
theorem am_Fr.mono {cs cs' : List Nat} {I A I' A' : Nat → Nat → Int32} (h : am_Fr cs I A I' A') (hs : ∀ x ∈ cs, x ∈ cs') : am_Fr cs' I A I' A' := fun x hx => h x fun h' => hx (hs x h')
theorem am_uo {α : Type} {f : Nat → Nat → α} {a k x : Nat} {v : α} (h : x ≠ a) : am_u f a k v x = f x := by
  funext y
  simp [am_u, h]
theorem am_us {α : Type} {f : Nat → Nat → α} {a k : Nat} {v : α} : am_u f a k v a = fun y => if y = k then v else f a y := by
  funext y
  simp [am_u]
theorem am_uk {α : Type} {f : Nat → Nat → α} {a k : Nat} {v : α} : am_u f a k v a k = v := by simp [am_u]
theorem am_un {α : Type} {f : Nat → Nat → α} {a k x y : Nat} {v : α} (h : ¬ (x = a ∧ y = k)) : am_u f a k v x y = f x y := if_neg h
theorem am_Fr.put {cs : List Nat} {I A : Nat → Nat → Int32} {a k : Nat} {v : Int32} (h : a ∈ cs) : am_Fr cs I A (am_u I a k v) A := fun x hx => ⟨am_uo fun e => hx (e ▸ h), rfl⟩
theorem am_Fr.set {cs : List Nat} {I A : Nat → Nat → Int32} {a k : Nat} {v : Int32} (h : a ∈ cs) : am_Fr cs I A I (am_u A a k v) := fun x hx => ⟨rfl, am_uo fun e => hx (e ▸ h)⟩
/-- plain steps alone -/
theorem am_pla {M d B C u c : Nat} {Q : aO → aH → Prop} {s t : aS} (n : Nat) (h1d : 1 ≤ d) (hr : am_run n M s = am_nx t) (hk : am_Tri M d B C u c t Q) : am_Tri M d B C u c s Q := am_go n h1d hr hk
end
section
/-! THE SCANNER, said purely: what both sides do with a text tx of n characters -/
/-- kind, mark, place, extent -/
abbrev aT : Type := Int32 × Int32 × Nat × Nat
/-- place, in a line?, widths (last first: with tabs, without), brackets (last first), how many tokens, the tokens -/
abbrev aW : Type := Nat × Bool × List (Nat × Nat) × List Nat × Nat × (Nat → aT)
/-- why, where -/
abbrev aF : Type := Int32 × Nat
def s_ch (tx : Nat → Int32) (n p : Nat) : Int32 := if p < n then tx p else 0
def s_run (f : Nat → Bool) : Nat → Nat → Nat
  | 0, p => p
  | m + 1, p => if f p = true then s_run f m (p + 1) else p
def s_bl (tx : Nat → Int32) : Nat → Nat → Nat → Nat × Nat
  | 0, p, w => (p, w)
  | m + 1, p, w => if c_blank (tx p) = true then s_bl tx m (p + 1) (if tx p = 9 then w / 8 * 8 + 8 else w + 1) else (p, w)
def s_take (k mk : Int32) (e : Nat) (z : aW) : Except aF aW := match z with
  | (p, l, ws, bs, m, tk) => if m < 120 then .ok (p + e, l, ws, bs, m + 1, fun j => if j = m then (k, mk, p, e) else tk j) else .error (8, p)
def s_ded (w p : Nat) (l : Bool) (bs : List Nat) : List (Nat × Nat) → Nat → (Nat → aT) → Except aF aW
  | [], m, tk => .ok (p, l, [], bs, m, tk)
  | (w0, n0) :: r, m, tk => if w < w0 then (if m < 120 then s_ded w p l bs r (m + 1) (fun j => if j = m then (8, 8, p, 0) else tk j) else .error (8, p)) else .ok (p, l, (w0, n0) :: r, bs, m, tk)
def s_eq (w nr : Nat) (z : aW) : Except aF aW := match z with
  | (p, l, ws, bs, m, tk) => match ws with
    | [] => .error (2, p)
    | (w1, n1) :: r => if w1 = w then (if n1 = nr then .ok (p, l, (w1, n1) :: r, bs, m, tk) else .error (1, p)) else .error (2, p)
def s_cmp (w nr : Nat) (z : aW) : Except aF aW := match z with
  | (p, l, ws, bs, m, tk) => match ws with
    | [] => .error (2, p)
    | (w0, n0) :: r => if w0 < w then (if nr ≤ n0 then .error (1, p) else if r.length + 1 < 9 then s_take 7 7 0 (p, l, (w, nr) :: (w0, n0) :: r, bs, m, tk) else .error (3, p))
      else match s_ded w p l bs ((w0, n0) :: r) m tk with
        | .error e => .error e
        | .ok y => s_eq w nr y
def s_nl (tx : Nat → Int32) (n p : Nat) : Nat := s_run (fun k => !decide (tx k = 10)) (n - p) p
def s_line (tx : Nat → Int32) (n : Nat) (z : aW) : Except aF aW := match z with
  | (p, l, ws, bs, m, tk) => match s_bl tx (n - p) p 0 with
    | (q, w) => if n ≤ q ∨ s_ch tx n q = 10 ∨ s_ch tx n q = 35 then .ok (min (s_nl tx n q + 1) n, l, ws, bs, m, tk)
      else match s_cmp w (q - p) (q, l, ws, bs, m, tk) with
        | .error e => .error e
        | .ok (p', _, y) => .ok (p', true, y)
/-- does the text i stand at p, with the extent e? -/
def s_rd (tx : Nat → Int32) (n i p : Nat) : Nat → Nat → Bool
  | 0, _ => true
  | f + 1, j => if am_chr i j = s_ch tx n (p + j) then s_rd tx n i p f (j + 1) else false
def s_is (tx : Nat → Int32) (n i p e : Nat) : Bool := if am_sl.getD i 0 = e then s_rd tx n i p e 0 else false
def s_mark (tx : Nat → Int32) (n p e : Nat) : Int32 :=
  if s_is tx n 4 p e = true then 11 else if s_is tx n 5 p e = true then 12 else if s_is tx n 6 p e = true then 13 else if s_is tx n 7 p e = true then 14 else if s_is tx n 8 p e = true then 15 else if s_is tx n 9 p e = true then 16 else
  if s_is tx n 10 p e = true then 17 else if s_is tx n 11 p e = true then 18 else if s_is tx n 12 p e = true then 19 else if s_is tx n 13 p e = true then 20 else if s_is tx n 14 p e = true then 21 else 1
def s_str (tx : Nat → Int32) (n : Nat) (q : Int32) : Nat → Nat → Option Nat
  | 0, _ => none
  | f + 1, e => if e < n then (if tx e = q then some e else if s_ch tx n (if tx e = 92 then e + 1 else e) = 10 then none else s_str tx n q f ((if tx e = 92 then e + 1 else e) + 1)) else none
def s_pair (c : Int32) : Bool := decide (c = 61) || decide (c = 33) || decide (c = 60) || decide (c = 62)
def s_one (c : Int32) : Bool := decide (c = 43) || decide (c = 45) || decide (c = 42) || decide (c = 47) || decide (c = 37) || decide (c = 40) || decide (c = 41) || decide (c = 91) || decide (c = 93) || decide (c = 44) || decide (c = 58) || decide (c = 61) || decide (c = 60) || decide (c = 62) || decide (c = 46) || decide (c = 59)
def s_sign (tx : Nat → Int32) (n : Nat) (z : aW) : Except aF aW := match z with
  | (p, l, ws, bs, m, tk) =>
    if s_pair (s_ch tx n p) = true ∧ s_ch tx n (p + 1) = 61 then s_take 5 (s_ch tx n p + 128) 2 (p, l, ws, bs, m, tk)
    else if s_one (s_ch tx n p) = false then .error (7, p)
    else if s_ch tx n p = 40 ∨ s_ch tx n p = 91 then (if bs.length < 8 then s_take 5 (s_ch tx n p) 1 (p, l, ws, p :: bs, m, tk) else .error (3, p))
    else if s_ch tx n p = 41 ∨ s_ch tx n p = 93 then (match bs with
      | [] => .error (4, p)
      | b :: r => if s_ch tx n b = (if s_ch tx n p = 41 then 40 else 91) then s_take 5 (s_ch tx n p) 1 (p, l, ws, r, m, tk) else .error (4, p))
    else s_take 5 (s_ch tx n p) 1 (p, l, ws, bs, m, tk)
def s_next (tx : Nat → Int32) (n : Nat) (z : aW) : Except aF aW := match z with
  | (p, l, ws, bs, m, tk) =>
    if c_blank (s_ch tx n p) = true then .ok (p + 1, l, ws, bs, m, tk)
    else if s_ch tx n p = 35 then .ok (s_nl tx n p, l, ws, bs, m, tk)
    else if s_ch tx n p = 92 ∧ s_ch tx n (p + 1) = 10 then .ok (p + 2, l, ws, bs, m, tk)
    else if s_ch tx n p = 10 then (if 0 < bs.length then .ok (p + 1, l, ws, bs, m, tk) else match s_take 6 6 1 (p, l, ws, bs, m, tk) with
      | .error e => .error e
      | .ok (p', _, y) => .ok (p', false, y))
    else if c_letter (s_ch tx n p) = true then
      (match s_run (fun k => c_letter (tx k) || c_digit (tx k)) (n - (p + 1)) (p + 1) with
        | e => s_take (if s_mark tx n p (e - p) = 1 then 1 else 2) (s_mark tx n p (e - p)) (e - p) (p, l, ws, bs, m, tk))
    else if c_digit (s_ch tx n p) = true then
      (match s_run (fun k => c_digit (tx k)) (n - (p + 1)) (p + 1) with
        | e => if c_letter (s_ch tx n e) = true then .error (6, p) else s_take 3 3 (e - p) (p, l, ws, bs, m, tk))
    else if s_ch tx n p = 39 ∨ s_ch tx n p = 34 then (match s_str tx n (s_ch tx n p) (n - p) (p + 1) with
      | none => .error (5, p)
      | some e => s_take 4 4 (e + 1 - p) (p, l, ws, bs, m, tk))
    else s_sign tx n (p, l, ws, bs, m, tk)
def s_iter (tx : Nat → Int32) (n : Nat) (z : aW) : Except aF aW :=
  match (if z.2.1 = true then .ok z else s_line tx n z) with
  | .error e => .error e
  | .ok y => if y.2.1 = true then s_next tx n y else .ok y
def s_loop (tx : Nat → Int32) (n : Nat) : Nat → aW → Except aF aW
  | 0, z => .ok z
  | f + 1, z => if z.1 < n then (match s_iter tx n z with
    | .error e => .error e
    | .ok y => s_loop tx n f y) else .ok z
/-- the blocks that stand at the end are closed -/
def s_close : Nat → aW → Except aF aW
  | 0, z => .ok z
  | f + 1, z => match s_take 8 8 0 z with
    | .error e => .error e
    | .ok y => s_close f y
def s_fin (z : aW) : Except aF aW := match z with
  | (p, l, ws, bs, m, tk) => match bs with
    | b :: _ => .error (4, b)
    | [] => match (if l = true then s_take 6 6 0 (p, l, ws, [], m, tk) else .ok (p, l, ws, [], m, tk)) with
      | .error e => .error e
      | .ok y => match s_close (ws.length - 1) y with
        | .error e => .error e
        | .ok y => s_take 9 9 0 y
def s_scan (tx : Nat → Int32) (n : Nat) : Except aF aW := match s_loop tx n 600 (0, false, [(0, 0)], [], 0, fun _ => (0, 0, 0, 0)) with
  | .error e => .error e
  | .ok z => s_fin z
end
section
/-! REFUSAL AND TOKENS of the class -/
section REF
variable {g : List aK} {I A : Nat → Nat → Int32} {J : Nat → Nat → Int64} {X : Nat × (Nat → Int32)}
/-- one exception more -/
abbrev am_gx (g : List aK) : List aK := g ++ [.inr (.inr ())]
theorem t_refuse {w p : Int32} : am_Con 7 16 [.ref 3, .int w, .int p] (am_H g I A J X) (.inr (101, (am_lay ++ g).length)) (am_H (am_gx g) (am_u (am_u I 3 0 w) 3 1 p) A J X) 1 6 := by
  refine am_met rfl rfl ?_
  exact am_thw 9 (by decide) rfl (by decide) (by decide) ⟨rfl, by rw [List.append_assoc]⟩
theorem t_forget : am_Con 1 15 [.ref 3] (am_H g I A J X) (.inl none) (am_H g (am_u (am_u I 3 0 0) 3 1 (-1)) A J X) 0 0 := by
  refine am_met rfl rfl ?_
  exact am_end 9 (by decide) rfl trivial (by decide) (by decide) ⟨rfl, rfl⟩
theorem t_token {k m e : Int32} {p : Int32} {n : Nat} (hn : I 4 4 = nI n) (h : n < 120) : am_Con 1 26 [.ref 4, .int k, .int m, .int p, .int e] (am_H g I A J X) (.inl (some (.int 1))) (am_H g (am_u I 4 4 (nI (n + 1))) (am_u (am_u (am_u (am_u A 5 n k) 6 n m) 7 n p) 8 n e) J X) 0 0 := by
  have e1 : (I 4 4).toNatClampNeg = n := by rw [hn, nI_clamp (by omega)]
  refine am_met rfl rfl ?_
  refine am_nay 9 (by decide) rfl (by rw [hn]; exact nI_pos (by omega)) ?_
  refine am_yea 9 (by decide) rfl (by rw [hn]; exact nI_lt h (by decide)) ?_
  refine am_nee 9 (by decide) rfl (by rw [hn]; exact nI_in h (by decide)) ?_
  refine am_nee 9 (by decide) rfl (by rw [hn]; exact nI_in h (by decide)) ?_
  refine am_nee 9 (by decide) rfl (by rw [hn]; exact nI_in h (by decide)) ?_
  refine am_nee 9 (by decide) rfl (by rw [hn]; exact nI_in h (by decide)) ?_
  refine am_end 12 (by decide) rfl (Or.inr rfl) (by decide) (by decide) ⟨rfl, ?_⟩
  rw [e1, hn, nI_1]
theorem t_noroom {k m e p : Int32} (hn : I 4 4 = nI 120) : am_Con 1 26 [.ref 4, .int k, .int m, .int p, .int e] (am_H g I A J X) (.inl (some (.int 0))) (am_H g I A J X) 0 0 := by
  refine am_met rfl rfl ?_
  refine am_nay 9 (by decide) rfl (by rw [hn]; decide) ?_
  refine am_nay 9 (by decide) rfl (by rw [hn]; decide) ?_
  exact am_end 9 (by decide) rfl (Or.inl rfl) (by decide) (by decide) ⟨rfl, rfl⟩
end REF
/-! THE CLASS'S SCANNER: its state -/
def c_P (f : Nat → Int32) : List Nat → Prop
  | [] => True
  | x :: r => f r.length = nI x ∧ c_P f r
def c_W (f f' : Nat → Int32) : List (Nat × Nat) → Prop
  | [] => True
  | x :: r => f r.length = nI x.1 ∧ f' r.length = nI x.2 ∧ c_W f f' r
def c_Tk (I A : Nat → Nat → Int32) (m : Nat) (tk : Nat → aT) : Prop := I 4 4 = nI m ∧ m ≤ 120 ∧ ∀ k, k < m → A 5 k = (tk k).1 ∧ A 6 k = (tk k).2.1 ∧ A 7 k = nI (tk k).2.2.1 ∧ A 8 k = nI (tk k).2.2.2
def c_T (tx : Nat → Int32) (n : Nat) (I A : Nat → Nat → Int32) : Prop := I 1 1 = nI n ∧ n ≤ 600 ∧ A 2 = tx ∧ ∀ k, k < n → c_char (tx k) = true
/-- sound widths: at the bottom 0, and none too large -/
def s_W : List (Nat × Nat) → Prop
  | [] => False
  | [x] => x = (0, 0)
  | x :: y :: r => x.1 < 2 ^ 20 ∧ x.2 < 2 ^ 20 ∧ s_W (y :: r)
def c_S (z : aW) (I A : Nat → Nat → Int32) : Prop := match z with
  | (p, l, ws, bs, m, tk) => I 19 6 = nI p ∧ I 19 7 = am_b l ∧ I 20 1 = nI ws.length ∧ I 22 1 = nI ws.length ∧ ws.length ≤ 9 ∧ c_W (A 21) (A 23) ws ∧ I 24 1 = nI bs.length ∧ bs.length ≤ 8 ∧ c_P (A 25) bs ∧ c_Tk I A m tk ∧ p ≤ 600 ∧ (∀ b ∈ bs, b < 600)
/-- the cells that the scanner writes -/
def c_sc : List Nat := [3, 4, 5, 6, 7, 8, 19, 20, 21, 22, 23, 24, 25]
/-- what a method comes to: done (value V, state R), or refused -/
def c_R {α : Type} (cs : List Nat) (d M : Nat) (as : List Value) (g : List aK) (I A : Nat → Nat → Int32) (J : Nat → Nat → Int64) (X : Nat × (Nat → Int32)) (V : α → Option Value) (R : α → (Nat → Nat → Int32) → (Nat → Nat → Int32) → Prop) (r : Except aF α) : Prop := match r with
  | .ok a => ∃ I' A' : Nat → Nat → Int32, R a I' A' ∧ am_Fr cs I A I' A' ∧ am_Con d M as (am_H g I A J X) (.inl (V a)) (am_H g I' A' J X) 0 0
  | .error q => ∃ (I' A' : Nat → Nat → Int32) (k : Nat), I' 3 0 = q.1 ∧ I' 3 1 = nI q.2 ∧ am_Fr cs I A I' A' ∧ am_Con d M as (am_H g I A J X) (.inr (101, k)) (am_H (am_gx g) I' A' J X) 1 6
theorem c_tk_add {I A : Nat → Nat → Int32} {m : Nat} {tk : Nat → aT} {k mk : Int32} {p e : Nat} (h : c_Tk I A m tk) (hm : m < 120) : c_Tk (am_u I 4 4 (nI (m + 1))) (am_u (am_u (am_u (am_u A 5 m k) 6 m mk) 7 m (nI p)) 8 m (nI e)) (m + 1) (fun j => if j = m then (k, mk, p, e) else tk j) := by
  refine ⟨am_uk, by omega, fun j hj => ?_⟩
  by_cases e1 : j = m
  · subst e1
    simp [am_u]
  · have h1 := h.2.2 j (by omega)
    simp only [if_neg e1]
    simp [am_u, e1, h1]
section SCN
variable {g : List aK} {I A : Nat → Nat → Int32} {J : Nat → Nat → Int64} {X : Nat × (Nat → Int32)}
theorem k_take {k mk : Int32} {e : Nat} {z : aW} (hz : c_S z I A) (he : e ≤ 600) (hpe : z.1 + e ≤ 600) : c_R c_sc 8 52 [.ref 19, .int k, .int mk, .int (nI e)] g I A J X (fun _ => none) c_S (s_take k mk e z) := by
  obtain ⟨p, l, ws, bs, m, tk⟩ := z
  obtain ⟨h1, h2, h3, h4, h5, h6, h7, h8, h9, ht, h11, h12⟩ := hz
  dsimp only at hpe
  unfold s_take
  by_cases hm : m < 120
  · simp only [if_pos hm, c_R]
    refine ⟨am_u (am_u I 4 4 (nI (m + 1))) 19 6 (nI (p + e)), am_u (am_u (am_u (am_u A 5 m k) 6 m mk) 7 m (I 19 6)) 8 m (nI e), ?_, ?_, ?_⟩
    rotate_left 2
    · refine am_met rfl rfl ?_
      refine am_cav 9 (by decide) rfl (t_token ht.1 hm) (by decide) (by decide) (by decide) ?_
      refine am_yea 9 (by decide) rfl (by decide) ?_
      refine am_end 12 (by decide) rfl trivial (by decide) (by decide) ⟨rfl, ?_⟩
      have e1 : am_u I 4 4 (nI (m + 1)) 19 6 + nI e = nI (p + e) := by rw [am_un (by decide), h1, nI_add]
      rw [e1]
    · have := c_tk_add (k := k) (mk := mk) (p := p) (e := e) ht hm
      rw [h1]
      refine ⟨am_uk, ?_, ?_, ?_, h5, ?_, ?_, h8, ?_, ?_, hpe, h12⟩
      · simpa [am_u] using h2
      · simpa [am_u] using h3
      · simpa [am_u] using h4
      · simpa [am_uo] using h6
      · simpa [am_u] using h7
      · simpa [am_uo] using h9
      · refine ⟨?_, this.2⟩
        simp [am_u]
    · intro x hx
      have hx' : x ≠ 4 ∧ x ≠ 5 ∧ x ≠ 6 ∧ x ≠ 7 ∧ x ≠ 8 ∧ x ≠ 19 := by
        refine ⟨?_, ?_, ?_, ?_, ?_, ?_⟩ <;> (intro e; subst e; exact hx (by decide))
      obtain ⟨q1, q2, q3, q4, q5, q6⟩ := hx'
      exact ⟨by rw [am_uo q6, am_uo q1], by rw [am_uo q5, am_uo q4, am_uo q3, am_uo q2]⟩
  · simp only [if_neg hm, c_R]
    have hm' : m = 120 := by have := ht.2.1; omega
    refine ⟨am_u (am_u I 3 0 8) 3 1 (I 19 6), A, (am_lay ++ g).length, ?_, ?_, ?_, ?_⟩
    rotate_left 3
    · refine am_met rfl rfl ?_
      refine am_cav 9 (by decide) rfl (t_noroom (by rw [ht.1, hm'])) (by decide) (by decide) (by decide) ?_
      refine am_nay 9 (by decide) rfl (by decide) ?_
      exact am_cat 9 (by decide) rfl t_refuse (by decide) (by decide) (by decide) rfl ⟨rfl, rfl⟩
    · simp [am_u]
    · simp [am_u, h1]
    · exact (am_Fr.put (by decide)).trans (am_Fr.put (by decide))
end SCN
end
section
/-! THE CLASS'S SCANNER: characters, ends of lines -/
theorem am_uu {α : Type} {f : Nat → Nat → α} {a k : Nat} {v w : α} : am_u (am_u f a k v) a k w = am_u f a k w := by
  funext x y
  by_cases h : x = a ∧ y = k <;> simp [am_u, h]
theorem am_ui {α : Type} {f : Nat → Nat → α} {a k : Nat} {v : α} (h : f a k = v) : am_u f a k v = f := by
  funext x y
  by_cases e : x = a ∧ y = k
  · rw [e.1, e.2, am_uk, h]
  · exact am_un e
theorem c_char_of {c : Int32} (h : c_char c = true) : ∃ m : Nat, m < 127 ∧ 0 < m ∧ c = nI m := by
  simp only [c_char, Bool.or_eq_true, Bool.and_eq_true, decide_eq_true_eq, Bool.not_eq_true', decide_eq_false_iff_not] at h
  rcases h with (h | h) | ⟨h1, h2⟩
  · exact ⟨9, by decide, by decide, h⟩
  · exact ⟨10, by decide, by decide, h⟩
  · have h3 : c ≤ 126 := Int32.not_lt.mp h2
    have h4 : (32 : Int32) ≤ c := Int32.not_lt.mp h1
    have h0 : ¬ c < 0 := fun q => absurd (Int32.lt_of_lt_of_le q (show (0 : Int32) ≤ 32 by decide)) h1
    obtain ⟨j, hj, e⟩ := nI_of2 (M := 126) (n := 126) (by decide) h0 h3
    refine ⟨j, by omega, ?_, e⟩
    rcases Nat.eq_zero_or_pos j with q | q
    · subst q
      rw [e] at h1
      exact absurd (show nI 0 < 32 by decide) h1
    · exact q
theorem c_char_n {c : Int32} (h : c_char c = true) : narrow .char (.int c) = .int c := by
  obtain ⟨m, hm, -, rfl⟩ := c_char_of h
  have key : ∀ m, m < 127 → narrow .char (.int (nI m)) = .int (nI m) := by decide +kernel
  exact key m hm
section LNS
variable {g : List aK} {I A : Nat → Nat → Int32} {J : Nat → Nat → Int64} {X : Nat × (Nat → Int32)} {tx : Nat → Int32} {n p : Nat}
theorem k_at (hT : c_T tx n I A) (hp : p < 2 ^ 31) : am_Con 1 19 [.ref 1, .int (nI p)] (am_H g I A J X) (.inl (some (.int (s_ch tx n p)))) (am_H g I A J X) 0 0 := by
  obtain ⟨h1, h2, h3, h4⟩ := hT
  have := t_at (g := g) (A := A) (J := J) (X := X) h1 h2 hp (fun k hk => by rw [h3]; exact c_char_n (h4 k hk))
  unfold c_at at this
  rw [h3] at this
  exact this
theorem c_T.put {a k : Nat} {v : Int32} (hT : c_T tx n I A) (h : a ≠ 1) : c_T tx n (am_u I a k v) A := by
  refine ⟨?_, hT.2⟩
  rw [am_un (fun e => h e.1.symm)]
  exact hT.1
theorem k_nl (hT : c_T tx n I A) (h1 : I 19 6 = nI p) (hp : p ≤ n) : am_Con 2 49 [.ref 19] (am_H g I A J X) (.inl none) (am_H g (am_u I 19 6 (nI (s_nl tx n p))) A J X) 0 0 := by
  have hn := hT.2.1
  have loop : ∀ f p, p + f = n → am_Tri 49 2 0 0 0 0 (0, [(0, .ref 19)], [], am_H g (am_u I 19 6 (nI p)) A J X) (fun oo hh => oo = .inl none ∧ hh = am_H g (am_u I 19 6 (nI (s_run (fun k => !decide (tx k = 10)) f p))) A J X) := by
    intro f
    induction f with
    | zero =>
      intro p hp
      refine am_yea 9 (by decide) rfl ?_ ?_
      · rw [am_uk, (hT.put (by decide)).1]
        exact nI_le (by omega) (by omega)
      · exact am_end 9 (by decide) rfl trivial (by decide) (by decide) ⟨rfl, rfl⟩
    | succ f ih =>
      intro p hp
      have hT' : c_T tx n (am_u I 19 6 (nI p)) A := hT.put (by decide)
      refine am_nay 9 (by decide) rfl (by rw [am_uk, hT'.1]; exact nI_ge (show p < n by omega) (by omega)) ?_
      have hat := k_at (g := g) (J := J) (X := X) (p := p) hT' (by omega)
      refine am_cav 9 (by decide) rfl (by rw [am_uk]; exact hat) (by decide) (by decide) (by decide) ?_
      have e0 : s_ch tx n p = tx p := if_pos (by omega)
      refine am_bra 9 (by decide) rfl (fun q => ?_) (fun q => ?_)
      · rw [e0] at q
        have e1 : s_run (fun k => !decide (tx k = 10)) (f + 1) p = p := by simp [s_run, q]
        rw [e1]
        exact am_end 9 (by decide) rfl trivial (by decide) (by decide) ⟨rfl, rfl⟩
      · rw [e0] at q
        have e1 : s_run (fun k => !decide (tx k = 10)) (f + 1) p = s_run (fun k => !decide (tx k = 10)) f (p + 1) := by simp [s_run, q]
        rw [e1]
        have := ih (p + 1) (by omega)
        refine am_pla 7 (by decide) rfl ?_
        rw [am_uk, am_uu, nI_1]
        exact this
  refine am_met rfl rfl ?_
  have := loop (n - p) p (by omega)
  rw [am_ui h1] at this
  exact this
end LNS
end
section
/-! THE CLASS'S SCANNER: widths -/
/-- a call at the end of a method -/
theorem c_tail {α : Type} {cs : List Nat} {r : Except aF α} {M M' d d' nx n n2 : Nat} {as as' : List Value} {s1 : aS} {ls : List (Nat × Value)} {g : List aK} {I A I1 A1 : Nat → Nat → Int32} {J : Nat → Nat → Int64} {X : Nat × (Nat → Int32)} {R R' : α → (Nat → Nat → Int32) → (Nat → Nat → Int32) → Prop}
    (hM : Nat.blt M 200 = true) (hl : Nat.ble (lg_sl as).length (am_ml M) = true) (h1d : 1 ≤ d) (hd : d' + 1 ≤ d) (hto : am_To M d (0, lv_args 0 as, [], am_H g I A J X) s1) (hrun : am_run n M s1 = am_ca M' as' (nx, ls, [], am_H g I1 A1 J X)) (hret : ∀ h : aH, am_run n2 M (nx - 3 + 3, ls, [], h) = am_rt True (.inl none) h) (hs : am_hs M = [])
    (hfr : am_Fr cs I A I1 A1) (hr : c_R cs d' M' as' g I1 A1 J X (fun _ => none) R' r) (hR : ∀ a I' A', R' a I' A' → R a I' A') : c_R cs d M as g I A J X (fun _ => none) R r := by
  cases r with
  | ok a =>
    obtain ⟨I', A', h1, h2, h3⟩ := hr
    refine ⟨I', A', hR _ _ _ h1, hfr.trans h2, am_met hM hl (hto _ _ _ _ _ (by decide) (by decide) ?_)⟩
    refine am_can n h1d hrun h3 hd (by decide) (by decide) ?_
    exact am_end n2 h1d (hret _) trivial (by decide) (by decide) ⟨rfl, rfl⟩
  | error q =>
    obtain ⟨I', A', k, h1, h2, h3, h4⟩ := hr
    refine ⟨I', A', k, h1, h2, hfr.trans h3, am_met hM hl (hto _ _ _ _ _ (by decide) (by decide) ?_)⟩
    exact am_cat n h1d hrun h4 hd (by decide) (by decide) hs ⟨rfl, rfl⟩
theorem c_W_same {f f' e e' : Nat → Int32} : ∀ {ws : List (Nat × Nat)}, (∀ k, k < ws.length → e k = f k ∧ e' k = f' k) → c_W f f' ws → c_W e e' ws
  | [], _, _ => trivial
  | x :: r, h, hw => ⟨by rw [(h r.length (by simp)).1]; exact hw.1, by rw [(h r.length (by simp)).2]; exact hw.2.1, c_W_same (fun k hk => h k (by simp; omega)) hw.2.2⟩
theorem c_P_same {f e : Nat → Int32} : ∀ {ws : List Nat}, (∀ k, k < ws.length → e k = f k) → c_P f ws → c_P e ws
  | [], _, _ => trivial
  | x :: r, h, hw => ⟨by rw [h r.length (by simp)]; exact hw.1, c_P_same (fun k hk => h k (by simp; omega)) hw.2⟩
section WID
variable {g : List aK} {I A : Nat → Nat → Int32} {J : Nat → Nat → Int64} {X : Nat × (Nat → Int32)} {tx : Nat → Int32} {n p p' m : Nat} {l l' : Bool} {ws : List (Nat × Nat)} {bs : List Nat} {tk : Nat → aT}
theorem c_S.pl (h : c_S (p, l, ws, bs, m, tk) I A) (hp : p' ≤ 600) : c_S (p', l, ws, bs, m, tk) (am_u I 19 6 (nI p')) A := by
  obtain ⟨h1, h2, h3, h4, h5, h6, h7, h8, h9, ht, h11, h12⟩ := h
  refine ⟨am_uk, ?_, ?_, ?_, h5, h6, ?_, h8, h9, ⟨?_, ht.2⟩, hp, h12⟩
  · simpa [am_u] using h2
  · simpa [am_u] using h3
  · simpa [am_u] using h4
  · simpa [am_u] using h7
  · simpa [am_u] using ht.1
theorem c_S.ln (h : c_S (p, l, ws, bs, m, tk) I A) : c_S (p, l', ws, bs, m, tk) (am_u I 19 7 (am_b l')) A := by
  obtain ⟨h1, h2, h3, h4, h5, h6, h7, h8, h9, ht, h11, h12⟩ := h
  refine ⟨?_, am_uk, ?_, ?_, h5, h6, ?_, h8, h9, ⟨?_, ht.2⟩, h11, h12⟩
  · simpa [am_u] using h1
  · simpa [am_u] using h3
  · simpa [am_u] using h4
  · simpa [am_u] using h7
  · simpa [am_u] using ht.1
theorem c_S.push {w nr : Nat} (h : c_S (p, l, ws, bs, m, tk) I A) (hl : ws.length < 9) : c_S (p, l, (w, nr) :: ws, bs, m, tk) (am_u (am_u I 20 1 (nI (ws.length + 1))) 22 1 (nI (ws.length + 1))) (am_u (am_u A 21 ws.length (nI w)) 23 ws.length (nI nr)) := by
  obtain ⟨h1, h2, h3, h4, h5, h6, h7, h8, h9, ht, h11, h12⟩ := h
  refine ⟨?_, ?_, ?_, ?_, by simp; omega, ⟨?_, ?_, ?_⟩, ?_, h8, ?_, ⟨?_, ht.2.1, ?_⟩, h11, h12⟩
  · simpa [am_u] using h1
  · simpa [am_u] using h2
  · simp [am_u]
  · simp [am_u]
  · simp [am_u]
  · simp [am_u]
  · refine c_W_same (fun k hk => ?_) h6
    have : k ≠ ws.length := by omega
    simp [am_u, this]
  · simpa [am_u] using h7
  · simpa [am_uo] using h9
  · simpa [am_u] using ht.1
  · simpa [am_uo] using ht.2.2
theorem c_S.pop {x : Nat × Nat} (h : c_S (p, l, x :: ws, bs, m, tk) I A) : c_S (p, l, ws, bs, m, tk) (am_u (am_u I 20 1 (nI ws.length)) 22 1 (nI ws.length)) A := by
  obtain ⟨h1, h2, h3, h4, h5, h6, h7, h8, h9, ht, h11, h12⟩ := h
  refine ⟨?_, ?_, ?_, ?_, by simp at h5; omega, h6.2.2, ?_, h8, h9, ⟨?_, ht.2⟩, h11, h12⟩
  · simpa [am_u] using h1
  · simpa [am_u] using h2
  · simp [am_u]
  · simp [am_u]
  · simpa [am_u] using h7
  · simpa [am_u] using ht.1
/-- a refusal as the last thing of a method -/
theorem c_ref {α : Type} {cs : List Nat} {M d n nx : Nat} {as : List Value} {s1 : aS} {ls : List (Nat × Value)} {w pp : Int32} {q : Nat} {I1 A1 : Nat → Nat → Int32} {R : α → (Nat → Nat → Int32) → (Nat → Nat → Int32) → Prop} {V : α → Option Value} (hM : Nat.blt M 200 = true) (hl : Nat.ble (lg_sl as).length (am_ml M) = true) (hd : 8 ≤ d) (hto : am_To M d (0, lv_args 0 as, [], am_H g I A J X) s1) {sk : List Value}
    (hrun : am_run n M s1 = am_ca 16 [.ref 3, .int w, .int pp] (nx, ls, sk, am_H g I1 A1 J X)) (hs : am_hs M = []) (hfr : am_Fr cs I A I1 A1) (h3 : 3 ∈ cs) (hpp : pp = nI q) : c_R cs d M as g I A J X V R (.error (w, q)) := by
  refine ⟨am_u (am_u I1 3 0 w) 3 1 pp, A1, (am_lay ++ g).length, by simp [am_u], by simp [am_u, hpp], (hfr.trans (am_Fr.put h3)).trans (am_Fr.put h3), am_met hM hl (hto _ _ _ _ _ (by decide) (by decide) ?_)⟩
  exact am_cat n (by omega) hrun t_refuse hd (by decide) (by decide) hs ⟨rfl, rfl⟩
theorem k_block {w nr w0 n0 : Nat} (hz : c_S (p, l, (w0, n0) :: ws, bs, m, tk) I A) (hw : w < 2 ^ 31) (hnr : nr < 2 ^ 31) (hn0 : n0 < 2 ^ 31) : c_R c_sc 9 51 [.ref 19, .int (nI w), .int (nI nr)] g I A J X (fun _ => none) c_S (if nr ≤ n0 then .error (1, p) else if ws.length + 1 < 9 then s_take 7 7 0 (p, l, (w, nr) :: (w0, n0) :: ws, bs, m, tk) else .error (3, p)) := by
  obtain ⟨h1, h2, h3, h4, h5, h6, h7, h8, h9, ht, h11, h12⟩ := id hz
  have h5' : ws.length < 9 := by simp at h5; omega
  have hlast := t_last22 (g := g) (A := A) (J := J) (X := X) (n := ws.length) h4 h5'
  rw [h6.2.1] at hlast
  by_cases c1 : nr ≤ n0
  · rw [if_pos c1]
    refine c_ref (n := 9) rfl rfl (by decide) (s1 := (11, [(0, .ref 19), (1, .int (nI w)), (2, .int (nI nr))], [], am_H g I A J X)) ?_ rfl rfl am_Fr.refl (by decide) h1
    intro B C u c Q hu hc k
    refine am_cav 9 (by decide) rfl hlast (by decide) hu hc ?_
    exact am_nay 9 (by decide) rfl (nI_nlt c1 (by omega)) k
  · rw [if_neg c1]
    by_cases c2 : ws.length + 1 < 9
    · rw [if_pos c2]
      have hp := hz.push (w := w) (nr := nr) c2
      refine c_tail (n := 9) (n2 := 9) rfl rfl (by decide) (by decide : 8 + 1 ≤ 9) (s1 := (57, [(0, .ref 19), (1, .int (nI w)), (2, .int (nI nr))], [], am_H g (am_u (am_u I 20 1 (nI (ws.length + 1 + 1))) 22 1 (nI (ws.length + 1 + 1))) (am_u (am_u A 21 (ws.length + 1) (nI w)) 23 (ws.length + 1) (nI nr)) J X)) ?_ rfl (fun _ => rfl) rfl ?_ (k_take hp (by decide) h11) (fun _ _ _ h => h)
      · intro B C u c Q hu hc k
        refine am_cav 9 (by decide) rfl hlast (by decide) hu hc ?_
        refine am_yea 9 (by decide) rfl (nI_lt (by omega) (by omega)) ?_
        refine am_cav 9 (by decide) rfl (t_push20 h3 c2) (by decide) hu hc ?_
        refine am_nay 9 (by decide) rfl (by decide) ?_
        refine am_cav 9 (by decide) rfl (t_push22 (n := ws.length + 1) (by rw [am_un (by decide)]; exact h4) c2) (by decide) hu hc ?_
        exact am_yea 9 (by decide) rfl (by decide) k
      · exact (((am_Fr.put (by decide)).trans (am_Fr.put (by decide))).trans (am_Fr.set (by decide))).trans (am_Fr.set (by decide))
    · rw [if_neg c2]
      have e9 : ws.length + 1 = 9 := by omega
      refine c_ref (n := 9) rfl rfl (by decide) (s1 := (45, [(0, .ref 19), (1, .int (nI w)), (2, .int (nI nr))], [], am_H g I A J X)) ?_ rfl rfl am_Fr.refl (by decide) h1
      intro B C u c Q hu hc k
      refine am_cav 9 (by decide) rfl hlast (by decide) hu hc ?_
      refine am_yea 9 (by decide) rfl (nI_lt (by omega) (by omega)) ?_
      refine am_cav 9 (by decide) rfl (t_full20 (by rw [h3]; simp [e9])) (by decide) hu hc ?_
      exact am_yea 9 (by decide) rfl rfl k
end WID
end
section
/-! THE CLASS'S SCANNER: compareWidths -/
theorem s_W.lt : ∀ {ws : List (Nat × Nat)}, s_W ws → ∀ x ∈ ws, x.1 < 2 ^ 20 ∧ x.2 < 2 ^ 20
  | [y], h, x, hx => by
    rw [List.mem_singleton.mp hx, show y = (0, 0) from h]
    decide
  | y :: y' :: r, h, x, hx => by
    rcases List.mem_cons.mp hx with e | e
    · rw [e]; exact ⟨h.1, h.2.1⟩
    · exact s_W.lt h.2.2 x e
theorem s_W.tl {x : Nat × Nat} {r : List (Nat × Nat)} {w : Nat} (h : s_W (x :: r)) (hw : w < x.1) : s_W r := by
  cases r with
  | nil => rw [show x = (0, 0) from h] at hw; exact absurd hw (Nat.not_lt_zero _)
  | cons y r => exact h.2.2
section CMP
variable {g : List aK} {J : Nat → Nat → Int64} {X : Nat × (Nat → Int32)} {p : Nat} {l : Bool} {bs : List Nat} {w nr : Nat}
/-- the locals of compareWidths -/
abbrev c_l50 (i w nr : Nat) : List (Nat × Value) := [(3, .int (nI i)), (0, .ref 19), (1, .int (nI w)), (2, .int (nI nr))]
theorem k_ded (hw : w < 2 ^ 20) : ∀ (ws : List (Nat × Nat)) (i m : Nat) (tk : Nat → aT) (I A : Nat → Nat → Int32), c_S (p, l, ws, bs, m, tk) I A → s_W ws → i + ws.length ≤ 9 → match s_ded w p l bs ws m tk with
    | .ok y => ∃ (I' A' : Nat → Nat → Int32) (i' : Nat), c_S y I' A' ∧ y.1 = p ∧ s_W y.2.2.1 ∧ am_Fr c_sc I A I' A' ∧ am_To 50 10 (20, c_l50 i w nr, [], am_H g I A J X) (66, c_l50 i' w nr, [], am_H g I' A' J X)
    | .error q => ∃ (I' A' : Nat → Nat → Int32) (k : Nat), I' 3 0 = q.1 ∧ I' 3 1 = nI q.2 ∧ am_Fr c_sc I A I' A' ∧ am_Ft 50 10 (20, c_l50 i w nr, [], am_H g I A J X) (.inr (101, k)) (am_H (am_gx g) I' A' J X) := by
  intro ws
  induction ws with
  | nil => intro i m tk I A hz hW; exact hW.elim
  | cons x r ih =>
    obtain ⟨w0, n0⟩ := x
    intro i m tk I A hz hW hi
    have hi' : i + (r.length + 1) ≤ 9 := hi
    obtain ⟨h1, h2, h3, h4, h5, h6, h7, h8, h9, ht, h11, h12⟩ := id hz
    have h5' : r.length < 9 := by omega
    have hb := hW.lt (w0, n0) List.mem_cons_self
    have hlast := t_last20 (g := g) (A := A) (J := J) (X := X) (n := r.length) h3 h5'
    rw [h6.1] at hlast
    dsimp only at hlast hb
    by_cases c1 : w < w0
    · have hpop := hz.pop
      have hWr := hW.tl (w := w) c1
      have htk := k_take (g := g) (J := J) (X := X) (k := 8) (mk := 8) (e := 0) hpop (by decide) h11
      have step : am_To 50 10 (20, c_l50 i w nr, [], am_H g I A J X) (51, c_l50 i w nr, [], am_H g (am_u (am_u I 20 1 (nI r.length)) 22 1 (nI r.length)) A J X) := by
        intro B C u c Q hu hc k
        refine am_nay 9 (by decide) rfl (nI_ge (show i < 9 by omega) (by decide)) ?_
        refine am_cav 9 (by decide) rfl hlast (by decide) hu hc ?_
        refine am_nay 9 (by decide) rfl (nI_ge c1 (by omega)) ?_
        refine am_can 9 (by decide) rfl (t_pop20 h3 h5') (by decide) hu hc ?_
        refine am_can 9 (by decide) rfl (t_pop22 (n := r.length) (by rw [am_un (by decide)]; exact h4) h5') (by decide) hu hc ?_
        exact k
      unfold s_ded
      rw [if_pos c1]
      unfold s_take at htk
      by_cases c2 : m < 120
      · rw [if_pos c2]
        simp only [if_pos c2, c_R] at htk
        obtain ⟨I1, A1, g1, g2, g3⟩ := htk
        have hih := ih (i + 1) (m + 1) _ I1 A1 g1 hWr (by omega)
        have step2 : am_To 50 10 (20, c_l50 i w nr, [], am_H g I A J X) (20, c_l50 (i + 1) w nr, [], am_H g I1 A1 J X) := by
          refine step.trans ?_
          intro B C u c Q hu hc k
          refine am_can 9 (by decide) rfl g3 (by decide) hu hc ?_
          refine am_pla 2 (by decide) rfl ?_
          rw [nI_1]
          exact k
        have fr : am_Fr c_sc I A I1 A1 := ((am_Fr.put (by decide)).trans (am_Fr.put (by decide))).trans g2
        revert hih
        generalize s_ded w p l bs r (m + 1) (fun j => if j = m then (8, 8, p, 0) else tk j) = res
        intro hih
        cases res with
        | ok y =>
          obtain ⟨I', A', i', q1, q2, q3, q4, q5⟩ := hih
          exact ⟨I', A', i', q1, q2, q3, fr.trans q4, step2.trans q5⟩
        | error q =>
          obtain ⟨I', A', k, q1, q2, q3, q4⟩ := hih
          exact ⟨I', A', k, q1, q2, fr.trans q3, am_Ft.from step2 q4⟩
      · rw [if_neg c2]
        simp only [if_neg c2, c_R] at htk
        obtain ⟨I1, A1, k, g1, g2, g3, g4⟩ := htk
        refine ⟨I1, A1, k, g1, g2, ((am_Fr.put (by decide)).trans (am_Fr.put (by decide))).trans g3, am_Ft.from step ?_⟩
        intro B C u c Q hu hc hq
        exact am_cat 9 (by decide) rfl g4 (by decide) hu hc rfl hq
    · unfold s_ded
      rw [if_neg c1]
      refine ⟨I, A, i, hz, rfl, hW, am_Fr.refl, ?_⟩
      intro B C u c Q hu hc k
      refine am_nay 9 (by decide) rfl (nI_ge (show i < 9 by omega) (by decide)) ?_
      refine am_cav 9 (by decide) rfl hlast (by decide) hu hc ?_
      exact am_yea 9 (by decide) rfl (nI_le (by omega) (by omega)) k
theorem k_cmp {I A : Nat → Nat → Int32} {m : Nat} {tk : Nat → aT} {ws : List (Nat × Nat)} (hz : c_S (p, l, ws, bs, m, tk) I A) (hW : s_W ws) (hw : w < 2 ^ 20) (hnr : nr < 2 ^ 20) : c_R c_sc 10 50 [.ref 19, .int (nI w), .int (nI nr)] g I A J X (fun _ => none) c_S (s_cmp w nr (p, l, ws, bs, m, tk)) := by
  cases ws with
  | nil => exact hW.elim
  | cons x r =>
    obtain ⟨w0, n0⟩ := x
    obtain ⟨h1, h2, h3, h4, h5, h6, h7, h8, h9, ht, h11, h12⟩ := id hz
    have h5' : r.length < 9 := by simp at h5; omega
    have hb := hW.lt (w0, n0) List.mem_cons_self
    have hlast := t_last20 (g := g) (A := A) (J := J) (X := X) (n := r.length) h3 h5'
    rw [h6.1] at hlast
    dsimp only at hlast hb
    unfold s_cmp
    dsimp only
    by_cases c1 : w0 < w
    · rw [if_pos c1]
      refine c_tail (n := 9) (n2 := 9) rfl rfl (by decide) (by decide : 9 + 1 ≤ 10) (s1 := (11, [(0, .ref 19), (1, .int (nI w)), (2, .int (nI nr))], [], am_H g I A J X)) ?_ rfl (fun _ => rfl) rfl am_Fr.refl (k_block hz (by omega) (by omega) (by omega)) (fun _ _ _ h => h)
      intro B C u c Q hu hc k
      refine am_cav 9 (by decide) rfl hlast (by decide) hu hc ?_
      exact am_nay 9 (by decide) rfl (nI_ge c1 (by omega)) k
    · rw [if_neg c1]
      have step : am_To 50 10 (0, lv_args 0 [.ref 19, .int (nI w), .int (nI nr)], [], am_H g I A J X) (20, c_l50 0 w nr, [], am_H g I A J X) := by
        intro B C u c Q hu hc k
        refine am_cav 9 (by decide) rfl hlast (by decide) hu hc ?_
        refine am_yea 9 (by decide) rfl (nI_le (by omega) (by omega)) ?_
        exact am_pla 2 (by decide) rfl k
      have hd := k_ded (g := g) (J := J) (X := X) (nr := nr) hw ((w0, n0) :: r) 0 m tk I A hz hW (by simp; omega)
      revert hd
      generalize s_ded w p l bs ((w0, n0) :: r) m tk = res
      intro hd
      cases res with
      | error q =>
        obtain ⟨I', A', k, q1, q2, q3, q4⟩ := hd
        exact ⟨I', A', k, q1, q2, q3, am_metF rfl rfl (am_Ft.from step q4)⟩
      | ok y =>
        obtain ⟨I', A', i', q1, q2, q3, q4, q5⟩ := hd
        obtain ⟨py, ly, wy, by', my, ty⟩ := y
        dsimp only at q2 q3
        subst q2
        cases wy with
        | nil => exact q3.elim
        | cons x1 r1 =>
          obtain ⟨w1, n1⟩ := x1
          obtain ⟨e1, e2, e3, e4, e5, e6, e7, e8, e9, et, e11, e12⟩ := id q1
          have e5' : r1.length < 9 := by simp at e5; omega
          have hb1 := q3.lt (w1, n1) List.mem_cons_self
          have hl20 := t_last20 (g := g) (A := A') (J := J) (X := X) (n := r1.length) e3 e5'
          have hl22 := t_last22 (g := g) (A := A') (J := J) (X := X) (n := r1.length) e4 e5'
          rw [e6.1] at hl20
          rw [e6.2.1] at hl22
          dsimp only at hl20 hl22 hb1
          have st2 := step.trans q5
          show c_R c_sc 10 50 _ g I A J X (fun _ => none) c_S (if w1 = w then (if n1 = nr then .ok (py, ly, (w1, n1) :: r1, by', my, ty) else .error (1, py)) else .error (2, py))
          by_cases c2 : w1 = w
          · rw [if_pos c2]
            by_cases c3 : n1 = nr
            · rw [if_pos c3]
              refine ⟨I', A', q1, q4, am_met rfl rfl (st2 _ _ _ _ _ (by decide) (by decide) ?_)⟩
              refine am_cav 9 (by decide) rfl hl20 (by decide) (by decide) (by decide) ?_
              refine am_yea 9 (by decide) rfl (by rw [c2]) ?_
              refine am_cav 9 (by decide) rfl hl22 (by decide) (by decide) (by decide) ?_
              refine am_yea 9 (by decide) rfl (by rw [c3]) ?_
              exact am_end 9 (by decide) rfl trivial (by decide) (by decide) ⟨rfl, rfl⟩
            · rw [if_neg c3]
              refine c_ref (n := 9) rfl rfl (by decide) (s1 := (100, c_l50 i' w nr, [], am_H g I' A' J X)) (st2.trans ?_) rfl rfl q4 (by decide) e1
              intro B C u c Q hu hc k
              refine am_cav 9 (by decide) rfl hl20 (by decide) hu hc ?_
              refine am_yea 9 (by decide) rfl (by rw [c2]) ?_
              refine am_cav 9 (by decide) rfl hl22 (by decide) hu hc ?_
              exact am_nay 9 (by decide) rfl (fun q => c3 ((nI_eq (by omega) (by omega)).mp q)) k
          · rw [if_neg c2]
            refine c_ref (n := 9) rfl rfl (by decide) (s1 := (77, c_l50 i' w nr, [], am_H g I' A' J X)) (st2.trans ?_) rfl rfl q4 (by decide) e1
            intro B C u c Q hu hc k
            refine am_cav 9 (by decide) rfl hl20 (by decide) hu hc ?_
            exact am_nay 9 (by decide) rfl (fun q => c2 ((nI_eq (by omega) (by omega)).mp q)) k
end CMP
end
section
/-! THE CLASS'S SCANNER: beginLine -/
theorem nI_div8 {a : Nat} (h : a < 2 ^ 31) : nI a / 8 = nI (a / 8) := by
  apply Int32.toInt_inj.mp
  rw [Int32.toInt_div, nI_toInt h, nI_toInt (by omega), show (8 : Int32).toInt = 8 from rfl]
  rw [Int.tdiv_eq_ediv_of_nonneg (by omega)]
  have e : ((a : Int) / 8) = ((a / 8 : Nat) : Int) := by omega
  rw [e]
  apply Int.bmod_eq_of_le <;> omega
theorem nI_mul (a b : Nat) : nI a * nI b = nI (a * b) := (Int32.ofNat_mul a b).symm
theorem nI_sub {a b : Nat} (h : b ≤ a) : nI a - nI b = nI (a - b) := by
  have : nI a = nI (a - b) + nI b := by rw [nI_add, Nat.sub_add_cancel h]
  rw [this]
  simp
theorem s_bl_le {tx : Nat → Int32} : ∀ (f p w : Nat), p ≤ (s_bl tx f p w).1 ∧ (s_bl tx f p w).1 ≤ p + f ∧ (s_bl tx f p w).2 ≤ w + 8 * f
  | 0, p, w => ⟨Nat.le_refl _, Nat.le_refl _, Nat.le_refl _⟩
  | f + 1, p, w => by
    unfold s_bl
    split
    · have h := s_bl_le (tx := tx) f (p + 1) (if tx p = 9 then w / 8 * 8 + 8 else w + 1)
      have hw : (if tx p = 9 then w / 8 * 8 + 8 else w + 1) ≤ w + 8 := by split <;> omega
      omega
    · dsimp only; omega
theorem s_run_le {f : Nat → Bool} : ∀ (m p : Nat), p ≤ s_run f m p ∧ s_run f m p ≤ p + m
  | 0, p => ⟨Nat.le_refl _, Nat.le_refl _⟩
  | m + 1, p => by
    unfold s_run
    split
    · have h := s_run_le (f := f) m (p + 1)
      omega
    · omega
section BEG
variable {g : List aK} {I A : Nat → Nat → Int32} {J : Nat → Nat → Int64} {X : Nat × (Nat → Int32)} {tx : Nat → Int32} {n p0 : Nat}
abbrev c_l48 (w p0 : Nat) : List (Nat × Value) := [(2, .int (nI w)), (1, .int (nI p0)), (0, .ref 19)]
theorem k_bl (hT : c_T tx n I A) : ∀ (f p w : Nat), p + f = n → w + 8 * f < 2 ^ 20 → am_To 48 12 (7, c_l48 w p0, [], am_H g (am_u I 19 6 (nI p)) A J X) (84, c_l48 (s_bl tx f p w).2 p0, [], am_H g (am_u I 19 6 (nI (s_bl tx f p w).1)) A J X) := by
  have hn := hT.2.1
  intro f
  induction f with
  | zero =>
    intro p w hp hw B C u c Q hu hc k
    refine am_yea 9 (by decide) rfl ?_ k
    rw [am_uk, (hT.put (by decide)).1]
    exact nI_le (by omega) (by omega)
  | succ f ih =>
    intro p w hp hw B C u c Q hu hc k
    have hT' : c_T tx n (am_u I 19 6 (nI p)) A := hT.put (by decide)
    have e0 : s_ch tx n p = tx p := if_pos (by omega)
    have hat := k_at (g := g) (J := J) (X := X) (p := p) hT' (by omega)
    rw [e0] at hat
    refine am_nay 9 (by decide) rfl (by rw [am_uk, hT'.1]; exact nI_ge (show p < n by omega) (by omega)) ?_
    refine am_cav 9 (by decide) rfl (by rw [am_uk]; exact hat) (by decide) hu hc ?_
    refine am_cav 9 (by decide) rfl t_blank (by decide) hu hc ?_
    by_cases cb : c_blank (tx p) = true
    · have eq1 : s_bl tx (f + 1) p w = s_bl tx f (p + 1) (if tx p = 9 then w / 8 * 8 + 8 else w + 1) := by rw [s_bl, if_pos cb]
      rw [eq1] at k
      refine am_nay 9 (by decide) rfl (am_b1.mpr cb) ?_
      refine am_cav 9 (by decide) rfl (by rw [am_uk]; exact hat) (by decide) hu hc ?_
      by_cases c9 : tx p = 9
      · refine am_nay 9 (by decide) rfl (fun q => q c9) ?_
        rw [if_pos c9] at k
        have := ih (p + 1) (w / 8 * 8 + 8) (by omega) (by omega) B C u c Q hu hc k
        refine am_nee 9 (by decide) rfl (by decide) ?_
        refine am_pla 13 (by decide) rfl ?_
        rw [am_uk, am_uu, nI_1, nI_div8 (by omega), show (8 : Int32) = nI 8 from rfl, nI_mul, nI_add]
        exact this
      · refine am_yea 9 (by decide) rfl c9 ?_
        rw [if_neg c9] at k
        have := ih (p + 1) (w + 1) (by omega) (by omega) B C u c Q hu hc k
        refine am_pla 11 (by decide) rfl ?_
        rw [am_uk, am_uu, nI_1, nI_1]
        exact this
    · have eq1 : s_bl tx (f + 1) p w = (p, w) := by rw [s_bl, if_neg cb]
      rw [eq1] at k
      exact am_yea 9 (by decide) rfl (am_b0.mpr (by simpa using cb)) k
theorem am_Fr.place {v : Int32} : am_Fr c_sc I A (am_u I 19 6 v) A := am_Fr.put (by decide)
theorem nI_min {a b : Nat} (ha : a < 2 ^ 31) (hb : b < 2 ^ 31) : (if nI b < nI a then nI b else nI a) = nI (min a b) := by
  rcases Nat.lt_or_ge b a with q | q
  · rw [if_pos (nI_lt q ha), Nat.min_eq_right (by omega)]
  · rw [if_neg (nI_nlt q hb), Nat.min_eq_left q]
theorem k_line {p m : Nat} {l : Bool} {ws : List (Nat × Nat)} {bs : List Nat} {tk : Nat → aT} (hT : c_T tx n I A) (hz : c_S (p, l, ws, bs, m, tk) I A) (hW : s_W ws) (hp : p ≤ n) : c_R c_sc 12 48 [.ref 19] g I A J X (fun _ => none) c_S (s_line tx n (p, l, ws, bs, m, tk)) := by
  have hn := hT.2.1
  have h1 := hz.1
  have hbl := s_bl_le (tx := tx) (n - p) p 0
  have st := k_bl (g := g) (J := J) (X := X) (p0 := p) hT (n - p) p 0 (by omega) (by omega)
  rw [am_ui h1] at st
  unfold s_line
  dsimp only
  revert hbl st
  generalize s_bl tx (n - p) p 0 = qw
  obtain ⟨q, w⟩ := qw
  intro hbl st
  dsimp only at hbl st ⊢
  have hT' : c_T tx n (am_u I 19 6 (nI q)) A := hT.put (by decide)
  have hat := k_at (g := g) (J := J) (X := X) (p := q) hT' (by omega)
  have st1 : am_To 48 12 (0, lv_args 0 [.ref 19], [], am_H g I A J X) (96, (3, .int (s_ch tx n q)) :: c_l48 w p, [], am_H g (am_u I 19 6 (nI q)) A J X) := by
    intro B C u c Q hu hc k
    refine am_pla 5 (by decide) rfl ?_
    rw [h1]
    refine st B C u c Q hu hc ?_
    refine am_cav 9 (by decide) rfl (by rw [am_uk]; exact hat) (by decide) hu hc ?_
    exact am_pla 1 (by decide) rfl k
  by_cases cc : n ≤ q ∨ s_ch tx n q = 10 ∨ s_ch tx n q = 35
  · rw [if_pos cc]
    have hnl := k_nl (g := g) (J := J) (X := X) (p := q) hT' am_uk (by omega)
    rw [am_uu] at hnl
    have hr := s_run_le (f := fun k => !decide (tx k = 10)) (n - q) q
    have hr' : s_nl tx n q ≤ n := by unfold s_nl; omega
    have st2 : am_To 48 12 (96, (3, .int (s_ch tx n q)) :: c_l48 w p, [], am_H g (am_u I 19 6 (nI q)) A J X) (122, (3, .int (s_ch tx n q)) :: c_l48 w p, [], am_H g (am_u I 19 6 (nI q)) A J X) := by
      intro B C u c Q hu hc k
      by_cases c1 : n ≤ q
      · exact am_yea 9 (by decide) rfl (by rw [am_uk, hT'.1]; exact nI_le c1 (by omega)) k
      · refine am_nay 9 (by decide) rfl (by rw [am_uk, hT'.1]; exact nI_ge (by omega) (by omega)) ?_
        by_cases c2 : s_ch tx n q = 10
        · exact am_yea 9 (by decide) rfl c2 k
        · refine am_nay 9 (by decide) rfl c2 ?_
          refine am_nay 9 (by decide) rfl (fun e => ?_) k
          rcases cc with h | h | h
          · exact c1 h
          · exact c2 h
          · exact e h
    refine ⟨am_u I 19 6 (nI (min (s_nl tx n q + 1) n)), A, hz.pl (by omega), am_Fr.place, am_met rfl rfl ((st1.trans st2) _ _ _ _ _ (by decide) (by decide) ?_)⟩
    refine am_can 9 (by decide) rfl hnl (by decide) (by decide) (by decide) ?_
    refine am_cav 12 (by decide) rfl t_min (by decide) (by decide) (by decide) ?_
    refine am_end 9 (by decide) rfl trivial (by decide) (by decide) ⟨rfl, ?_⟩
    rw [am_uu, am_uk, (hT.put (by decide)).1, nI_1, nI_min (by omega) (by omega)]
  · rw [if_neg cc]
    have c1 : ¬ n ≤ q := fun h => cc (Or.inl h)
    have c2 : ¬ s_ch tx n q = 10 := fun h => cc (Or.inr (Or.inl h))
    have c3 : ¬ s_ch tx n q = 35 := fun h => cc (Or.inr (Or.inr h))
    have st2 : am_To 48 12 (96, (3, .int (s_ch tx n q)) :: c_l48 w p, [], am_H g (am_u I 19 6 (nI q)) A J X) (147, (3, .int (s_ch tx n q)) :: c_l48 w p, [], am_H g (am_u I 19 6 (nI q)) A J X) := by
      intro B C u c Q hu hc k
      refine am_nay 9 (by decide) rfl (by rw [am_uk, hT'.1]; exact nI_ge (by omega) (by omega)) ?_
      refine am_nay 9 (by decide) rfl c2 ?_
      exact am_yea 9 (by decide) rfl c3 k
    have hcm := k_cmp (g := g) (J := J) (X := X) (w := w) (nr := q - p) (hz.pl (p' := q) (by omega)) hW (by omega) (by omega)
    have es : nI q - nI p = nI (q - p) := nI_sub (by omega)
    revert hcm
    generalize s_cmp w (q - p) (q, l, ws, bs, m, tk) = res
    intro hcm
    cases res with
    | error e =>
      obtain ⟨I', A', k, g1, g2, g3, g4⟩ := hcm
      refine ⟨I', A', k, g1, g2, am_Fr.place.trans g3, am_metF rfl rfl (am_Ft.from (st1.trans st2) ?_)⟩
      intro B C u c Q hu hc hq
      exact am_cat 9 (by decide) rfl (by rw [am_uk, es]; exact g4) (by decide) hu hc rfl hq
    | ok y =>
      obtain ⟨I', A', g1, g2, g3⟩ := hcm
      obtain ⟨py, ly, wy, by', my, ty⟩ := y
      refine ⟨am_u I' 19 7 (am_b true), A', g1.ln, (am_Fr.place.trans g2).trans (am_Fr.put (by decide)), am_met rfl rfl ((st1.trans st2) _ _ _ _ _ (by decide) (by decide) ?_)⟩
      refine am_can 9 (by decide) rfl (by rw [am_uk, es]; exact g3) (by decide) (by decide) (by decide) ?_
      refine am_nee 9 (by decide) rfl (Or.inr rfl) ?_
      exact am_end 9 (by decide) rfl trivial (by decide) (by decide) ⟨rfl, rfl⟩
end BEG
end
section
/-! THE CLASS'S SCANNER: names, numbers, ends of lines -/
section NAM
variable {g : List aK} {I A : Nat → Nat → Int32} {J : Nat → Nat → Int64} {X : Nat × (Nat → Int32)} {tx : Nat → Int32} {n p e i : Nat}
theorem k_reads (hT : c_T tx n I A) (hi : i < 29) (hp : p < 2 ^ 20) (he : e < 2 ^ 20) : am_Con 4 20 [.ref 1, .retAddr i, .int (nI p), .int (nI e)] (am_H g I A J X) (.inl (some (.int (am_b (s_is tx n i p e))))) (am_H g I A J X) 0 0 := by
  have hl := am_sl31 i hi
  have loop : ∀ f j, j + f = am_sl.getD i 0 → am_sl.getD i 0 = e → am_Tri 20 4 0 0 0 0 (13, [(4, .int (nI j)), (0, .ref 1), (1, .retAddr i), (2, .int (nI p)), (3, .int (nI e))], [], am_H g I A J X) (fun oo hh => oo = .inl (some (.int (am_b (s_rd tx n i p f j)))) ∧ hh = am_H g I A J X) := by
    intro f
    induction f with
    | zero =>
      intro j hj hle
      refine am_pla 2 (by decide) rfl ?_
      refine am_txc (nx := 19) (cp := 19) (M' := 2) (by decide +kernel) rfl (Nat.blt_eq.mpr hi) (t_len hi) (by decide) (by decide) (by decide) ?_
      refine am_yea 9 (by decide) rfl (nI_le (show am_sl.getD i 0 ≤ j by omega) (by omega)) ?_
      exact am_end 9 (by decide) rfl (Or.inr rfl) (by decide) (by decide) ⟨rfl, rfl⟩
    | succ f ih =>
      intro j hj hle
      refine am_pla 2 (by decide) rfl ?_
      refine am_txc (nx := 19) (cp := 19) (M' := 2) (by decide +kernel) rfl (Nat.blt_eq.mpr hi) (t_len hi) (by decide) (by decide) (by decide) ?_
      refine am_nay 9 (by decide) rfl (nI_ge (show j < am_sl.getD i 0 by omega) hl) ?_
      refine am_pla 2 (by decide) rfl ?_
      refine am_txc (nx := 28) (cp := 25) (M' := 3) (by decide +kernel) rfl (Nat.blt_eq.mpr hi) (t_charAt hi (show j < am_sl.getD i 0 by omega)) (by decide) (by decide) (by decide) ?_
      refine am_cav 9 (by decide) rfl (by rw [nI_add]; exact k_at (p := p + j) hT (by omega)) (by decide) (by decide) (by decide) ?_
      refine am_bra 9 (by decide) rfl (fun q => ?_) (fun q => ?_)
      · have e1 : s_rd tx n i p (f + 1) j = s_rd tx n i p f (j + 1) := by rw [s_rd, if_pos q]
        rw [e1]
        refine am_pla 2 (by decide) rfl ?_
        rw [nI_1]
        exact ih (j + 1) (by omega) hle
      · have e1 : s_rd tx n i p (f + 1) j = false := by rw [s_rd, if_neg q]
        rw [e1]
        exact am_end 9 (by decide) rfl (Or.inl rfl) (by decide) (by decide) ⟨rfl, rfl⟩
  refine am_met rfl rfl ?_
  refine am_pla 1 (by decide) rfl ?_
  refine am_txc (nx := 4) (cp := 19) (M' := 2) (by decide +kernel) rfl (Nat.blt_eq.mpr hi) (t_len hi) (by decide) (by decide) (by decide) ?_
  unfold s_is
  by_cases c1 : am_sl.getD i 0 = e
  · rw [if_pos c1]
    refine am_yea 9 (by decide) rfl (congrArg nI c1) ?_
    refine am_pla 2 (by decide) rfl ?_
    have := loop e 0 (by omega) c1
    exact this
  · rw [if_neg c1]
    refine am_nay 9 (by decide) rfl (fun q => c1 ((nI_eq hl (by omega)).mp q)) ?_
    exact am_end 9 (by decide) rfl (Or.inl rfl) (by decide) (by decide) ⟨rfl, rfl⟩
theorem k_mark (hT : c_T tx n I A) (hp : p < 2 ^ 20) (he : e < 2 ^ 20) : am_Con 5 56 [.ref 19, .int (nI p), .int (nI e)] (am_H g I A J X) (.inl (some (.int (s_mark tx n p e)))) (am_H g I A J X) 0 0 := by
  refine am_met rfl rfl ?_
  unfold s_mark
  refine am_cav 9 (by decide) rfl (k_reads (i := 4) hT (by decide) hp he) (by decide) (by decide) (by decide) ?_
  by_cases c4 : s_is tx n 4 p e = true
  · rw [if_pos c4, c4]
    refine am_nay 9 (by decide) rfl (by decide) ?_
    exact am_end 9 (by decide) rfl trivial (by decide) (by decide) ⟨rfl, rfl⟩
  rw [if_neg c4, Bool.eq_false_iff.mpr c4]
  refine am_yea 9 (by decide) rfl (by decide) ?_
  refine am_cav 9 (by decide) rfl (k_reads (i := 5) hT (by decide) hp he) (by decide) (by decide) (by decide) ?_
  by_cases c5 : s_is tx n 5 p e = true
  · rw [if_pos c5, c5]
    refine am_nay 9 (by decide) rfl (by decide) ?_
    exact am_end 9 (by decide) rfl trivial (by decide) (by decide) ⟨rfl, rfl⟩
  rw [if_neg c5, Bool.eq_false_iff.mpr c5]
  refine am_yea 9 (by decide) rfl (by decide) ?_
  refine am_cav 9 (by decide) rfl (k_reads (i := 6) hT (by decide) hp he) (by decide) (by decide) (by decide) ?_
  by_cases c6 : s_is tx n 6 p e = true
  · rw [if_pos c6, c6]
    refine am_nay 9 (by decide) rfl (by decide) ?_
    exact am_end 9 (by decide) rfl trivial (by decide) (by decide) ⟨rfl, rfl⟩
  rw [if_neg c6, Bool.eq_false_iff.mpr c6]
  refine am_yea 9 (by decide) rfl (by decide) ?_
  refine am_cav 9 (by decide) rfl (k_reads (i := 7) hT (by decide) hp he) (by decide) (by decide) (by decide) ?_
  by_cases c7 : s_is tx n 7 p e = true
  · rw [if_pos c7, c7]
    refine am_nay 9 (by decide) rfl (by decide) ?_
    exact am_end 9 (by decide) rfl trivial (by decide) (by decide) ⟨rfl, rfl⟩
  rw [if_neg c7, Bool.eq_false_iff.mpr c7]
  refine am_yea 9 (by decide) rfl (by decide) ?_
  refine am_cav 9 (by decide) rfl (k_reads (i := 8) hT (by decide) hp he) (by decide) (by decide) (by decide) ?_
  by_cases c8 : s_is tx n 8 p e = true
  · rw [if_pos c8, c8]
    refine am_nay 9 (by decide) rfl (by decide) ?_
    exact am_end 9 (by decide) rfl trivial (by decide) (by decide) ⟨rfl, rfl⟩
  rw [if_neg c8, Bool.eq_false_iff.mpr c8]
  refine am_yea 9 (by decide) rfl (by decide) ?_
  refine am_cav 9 (by decide) rfl (k_reads (i := 9) hT (by decide) hp he) (by decide) (by decide) (by decide) ?_
  by_cases c9 : s_is tx n 9 p e = true
  · rw [if_pos c9, c9]
    refine am_nay 9 (by decide) rfl (by decide) ?_
    exact am_end 9 (by decide) rfl trivial (by decide) (by decide) ⟨rfl, rfl⟩
  rw [if_neg c9, Bool.eq_false_iff.mpr c9]
  refine am_yea 9 (by decide) rfl (by decide) ?_
  refine am_cav 9 (by decide) rfl (k_reads (i := 10) hT (by decide) hp he) (by decide) (by decide) (by decide) ?_
  by_cases c10 : s_is tx n 10 p e = true
  · rw [if_pos c10, c10]
    refine am_nay 9 (by decide) rfl (by decide) ?_
    exact am_end 9 (by decide) rfl trivial (by decide) (by decide) ⟨rfl, rfl⟩
  rw [if_neg c10, Bool.eq_false_iff.mpr c10]
  refine am_yea 9 (by decide) rfl (by decide) ?_
  refine am_cav 9 (by decide) rfl (k_reads (i := 11) hT (by decide) hp he) (by decide) (by decide) (by decide) ?_
  by_cases c11 : s_is tx n 11 p e = true
  · rw [if_pos c11, c11]
    refine am_nay 9 (by decide) rfl (by decide) ?_
    exact am_end 9 (by decide) rfl trivial (by decide) (by decide) ⟨rfl, rfl⟩
  rw [if_neg c11, Bool.eq_false_iff.mpr c11]
  refine am_yea 9 (by decide) rfl (by decide) ?_
  refine am_cav 9 (by decide) rfl (k_reads (i := 12) hT (by decide) hp he) (by decide) (by decide) (by decide) ?_
  by_cases c12 : s_is tx n 12 p e = true
  · rw [if_pos c12, c12]
    refine am_nay 9 (by decide) rfl (by decide) ?_
    exact am_end 9 (by decide) rfl trivial (by decide) (by decide) ⟨rfl, rfl⟩
  rw [if_neg c12, Bool.eq_false_iff.mpr c12]
  refine am_yea 9 (by decide) rfl (by decide) ?_
  refine am_cav 9 (by decide) rfl (k_reads (i := 13) hT (by decide) hp he) (by decide) (by decide) (by decide) ?_
  by_cases c13 : s_is tx n 13 p e = true
  · rw [if_pos c13, c13]
    refine am_nay 9 (by decide) rfl (by decide) ?_
    exact am_end 9 (by decide) rfl trivial (by decide) (by decide) ⟨rfl, rfl⟩
  rw [if_neg c13, Bool.eq_false_iff.mpr c13]
  refine am_yea 9 (by decide) rfl (by decide) ?_
  refine am_cav 9 (by decide) rfl (k_reads (i := 14) hT (by decide) hp he) (by decide) (by decide) (by decide) ?_
  by_cases c14 : s_is tx n 14 p e = true
  · rw [if_pos c14, c14]
    refine am_nay 9 (by decide) rfl (by decide) ?_
    exact am_end 9 (by decide) rfl trivial (by decide) (by decide) ⟨rfl, rfl⟩
  rw [if_neg c14, Bool.eq_false_iff.mpr c14]
  refine am_yea 9 (by decide) rfl (by decide) ?_
  exact am_end 9 (by decide) rfl trivial (by decide) (by decide) ⟨rfl, rfl⟩
theorem k_name {m : Nat} {l : Bool} {ws : List (Nat × Nat)} {bs : List Nat} {tk : Nat → aT} (hT : c_T tx n I A) (hz : c_S (p, l, ws, bs, m, tk) I A) (hp : p < n) : c_R c_sc 10 55 [.ref 19] g I A J X (fun _ => none) c_S (match s_run (fun k => c_letter (tx k) || c_digit (tx k)) (n - (p + 1)) (p + 1) with
    | e => s_take (if s_mark tx n p (e - p) = 1 then 1 else 2) (s_mark tx n p (e - p)) (e - p) (p, l, ws, bs, m, tk)) := by
  have hn := hT.2.1
  have h1 := hz.1
  have loop : ∀ f e, e + f = n → am_To 55 10 (7, [(1, .int (nI e)), (0, .ref 19)], [], am_H g I A J X) (52, [(1, .int (nI (s_run (fun k => c_letter (tx k) || c_digit (tx k)) f e))), (0, .ref 19)], [], am_H g I A J X) := by
    intro f
    induction f with
    | zero =>
      intro e he B C u c Q hu hc k
      exact am_yea 9 (by decide) rfl (by rw [hT.1]; exact nI_le (by omega) (by omega)) k
    | succ f ih =>
      intro e he B C u c Q hu hc k
      have e0 : s_ch tx n e = tx e := if_pos (by omega)
      have hat := k_at (g := g) (J := J) (X := X) (p := e) hT (by omega)
      rw [e0] at hat
      refine am_nay 9 (by decide) rfl (by rw [hT.1]; exact nI_ge (show e < n by omega) (by omega)) ?_
      refine am_cav 9 (by decide) rfl hat (by decide) hu hc ?_
      refine am_cav 9 (by decide) rfl t_letter (by decide) hu hc ?_
      by_cases cl : c_letter (tx e) = true
      · have e1 : s_run (fun k => c_letter (tx k) || c_digit (tx k)) (f + 1) e = s_run (fun k => c_letter (tx k) || c_digit (tx k)) f (e + 1) := by simp [s_run, cl]
        rw [e1] at k
        rw [cl]
        refine am_yea 9 (by decide) rfl (by decide) ?_
        refine am_pla 2 (by decide) rfl ?_
        rw [nI_1]
        exact ih (e + 1) (by omega) B C u c Q hu hc k
      · rw [Bool.eq_false_iff.mpr cl]
        refine am_nay 9 (by decide) rfl (by decide) ?_
        refine am_cav 9 (by decide) rfl hat (by decide) hu hc ?_
        refine am_cav 9 (by decide) rfl t_digit (by decide) hu hc ?_
        by_cases cd : c_digit (tx e) = true
        · have e1 : s_run (fun k => c_letter (tx k) || c_digit (tx k)) (f + 1) e = s_run (fun k => c_letter (tx k) || c_digit (tx k)) f (e + 1) := by simp [s_run, cd]
          rw [e1] at k
          rw [cd]
          refine am_nay 9 (by decide) rfl (by decide) ?_
          refine am_pla 2 (by decide) rfl ?_
          rw [nI_1]
          exact ih (e + 1) (by omega) B C u c Q hu hc k
        · have e1 : s_run (fun k => c_letter (tx k) || c_digit (tx k)) (f + 1) e = e := by simp [s_run, cl, cd]
          rw [e1] at k
          rw [Bool.eq_false_iff.mpr cd]
          exact am_yea 9 (by decide) rfl (by decide) k
  have hr := s_run_le (f := fun k => c_letter (tx k) || c_digit (tx k)) (n - (p + 1)) (p + 1)
  have st := loop (n - (p + 1)) (p + 1) (by omega)
  dsimp only
  revert hr st
  generalize s_run (fun k => c_letter (tx k) || c_digit (tx k)) (n - (p + 1)) (p + 1) = e
  intro hr st
  have es : nI e - nI p = nI (e - p) := nI_sub (by omega)
  have hmk := k_mark (g := g) (J := J) (X := X) (p := p) (e := e - p) hT (by omega) (by omega)
  refine c_tail (n := 9) (n2 := 9) rfl rfl (by decide) (by decide : 8 + 1 ≤ 10) (s1 := (78, [(2, .int (s_mark tx n p (e - p))), (1, .int (nI e)), (0, .ref 19)], [.int (if s_mark tx n p (e - p) = 1 then 1 else 2), .ref 19], am_H g I A J X)) ?_ (by rw [show am_run 9 55 (78, [(2, .int (s_mark tx n p (e - p))), (1, .int (nI e)), (0, .ref 19)], [.int (if s_mark tx n p (e - p) = 1 then 1 else 2), .ref 19], am_H g I A J X) = am_ca 52 [.ref 19, .int (if s_mark tx n p (e - p) = 1 then 1 else 2), .int (s_mark tx n p (e - p)), .int (nI e - I 19 6)] (88, [(2, .int (s_mark tx n p (e - p))), (1, .int (nI e)), (0, .ref 19)], [], am_H g I A J X) from rfl, h1, es]) (fun _ => rfl) rfl am_Fr.refl (k_take hz (by omega) (by dsimp only; omega)) (fun _ _ _ h => h)
  intro B C u c Q hu hc k
  refine am_pla 5 (by decide) rfl ?_
  rw [h1, nI_1]
  refine st B C u c Q hu hc ?_
  refine am_cav 9 (by decide) rfl (by rw [h1, es]; exact hmk) (by decide) hu hc ?_
  by_cases c1 : s_mark tx n p (e - p) = 1
  · refine am_nay 9 (by decide) rfl (fun q => q c1) ?_
    rw [if_pos c1] at k
    exact am_pla 2 (by decide) rfl k
  · refine am_yea 9 (by decide) rfl c1 ?_
    rw [if_neg c1] at k
    exact am_pla 1 (by decide) rfl k
theorem k_num {m : Nat} {l : Bool} {ws : List (Nat × Nat)} {bs : List Nat} {tk : Nat → aT} (hT : c_T tx n I A) (hz : c_S (p, l, ws, bs, m, tk) I A) (hp : p < n) : c_R c_sc 10 57 [.ref 19] g I A J X (fun _ => none) c_S (match s_run (fun k => c_digit (tx k)) (n - (p + 1)) (p + 1) with
    | e => if c_letter (s_ch tx n e) = true then .error (6, p) else s_take 3 3 (e - p) (p, l, ws, bs, m, tk)) := by
  have hn := hT.2.1
  have h1 := hz.1
  have loop : ∀ f e, e + f = n → am_To 57 10 (7, [(1, .int (nI e)), (0, .ref 19)], [], am_H g I A J X) (38, [(1, .int (nI (s_run (fun k => c_digit (tx k)) f e))), (0, .ref 19)], [], am_H g I A J X) := by
    intro f
    induction f with
    | zero =>
      intro e he B C u c Q hu hc k
      exact am_yea 9 (by decide) rfl (by rw [hT.1]; exact nI_le (by omega) (by omega)) k
    | succ f ih =>
      intro e he B C u c Q hu hc k
      have e0 : s_ch tx n e = tx e := if_pos (by omega)
      have hat := k_at (g := g) (J := J) (X := X) (p := e) hT (by omega)
      rw [e0] at hat
      refine am_nay 9 (by decide) rfl (by rw [hT.1]; exact nI_ge (show e < n by omega) (by omega)) ?_
      refine am_cav 9 (by decide) rfl hat (by decide) hu hc ?_
      refine am_cav 9 (by decide) rfl t_digit (by decide) hu hc ?_
      by_cases cd : c_digit (tx e) = true
      · have e1 : s_run (fun k => c_digit (tx k)) (f + 1) e = s_run (fun k => c_digit (tx k)) f (e + 1) := by simp [s_run, cd]
        rw [e1] at k
        rw [cd]
        refine am_nay 9 (by decide) rfl (by decide) ?_
        refine am_pla 2 (by decide) rfl ?_
        rw [nI_1]
        exact ih (e + 1) (by omega) B C u c Q hu hc k
      · have e1 : s_run (fun k => c_digit (tx k)) (f + 1) e = e := by simp [s_run, cd]
        rw [e1] at k
        rw [Bool.eq_false_iff.mpr cd]
        exact am_yea 9 (by decide) rfl (by decide) k
  have hr := s_run_le (f := fun k => c_digit (tx k)) (n - (p + 1)) (p + 1)
  have st := loop (n - (p + 1)) (p + 1) (by omega)
  dsimp only
  revert hr st
  generalize s_run (fun k => c_digit (tx k)) (n - (p + 1)) (p + 1) = e
  intro hr st
  have es : nI e - nI p = nI (e - p) := nI_sub (by omega)
  have hat := k_at (g := g) (J := J) (X := X) (p := e) hT (by omega)
  have st1 : am_To 57 10 (0, lv_args 0 [.ref 19], [], am_H g I A J X) (38, [(1, .int (nI e)), (0, .ref 19)], [], am_H g I A J X) := by
    intro B C u c Q hu hc k
    refine am_pla 5 (by decide) rfl ?_
    rw [h1, nI_1]
    exact st B C u c Q hu hc k
  by_cases cl : c_letter (s_ch tx n e) = true
  · rw [if_pos cl]
    refine c_ref (n := 9) rfl rfl (by decide) (s1 := (52, [(1, .int (nI e)), (0, .ref 19)], [], am_H g I A J X)) (st1.trans ?_) rfl rfl am_Fr.refl (by decide) h1
    intro B C u c Q hu hc k
    refine am_cav 9 (by decide) rfl hat (by decide) hu hc ?_
    refine am_cav 9 (by decide) rfl t_letter (by decide) hu hc ?_
    rw [cl]
    exact am_nay 9 (by decide) rfl (by decide) k
  · rw [if_neg cl]
    refine c_tail (n := 9) (n2 := 9) rfl rfl (by decide) (by decide : 8 + 1 ≤ 10) (s1 := (65, [(1, .int (nI e)), (0, .ref 19)], [], am_H g I A J X)) (st1.trans ?_) (by rw [show am_run 9 57 (65, [(1, .int (nI e)), (0, .ref 19)], [], am_H g I A J X) = am_ca 52 [.ref 19, .int 3, .int 3, .int (nI e - I 19 6)] (77, [(1, .int (nI e)), (0, .ref 19)], [], am_H g I A J X) from rfl, h1, es]) (fun _ => rfl) rfl am_Fr.refl (k_take hz (by omega) (by dsimp only; omega)) (fun _ _ _ h => h)
    intro B C u c Q hu hc k
    refine am_cav 9 (by decide) rfl hat (by decide) hu hc ?_
    refine am_cav 9 (by decide) rfl t_letter (by decide) hu hc ?_
    rw [Bool.eq_false_iff.mpr cl]
    exact am_yea 9 (by decide) rfl (by decide) k
end NAM
end
section
/-! THE CLASS'S SCANNER: strings between quotes -/
section QUO
variable {g : List aK} {I A : Nat → Nat → Int32} {J : Nat → Nat → Int64} {X : Nat × (Nat → Int32)} {tx : Nat → Int32} {n p : Nat} {q : Int32}
abbrev c_l58 (e : Nat) (q : Int32) : List (Nat × Value) := [(2, .int (nI e)), (0, .ref 19), (1, .int q)]
theorem k_strL (hT : c_T tx n I A) : ∀ (f e : Nat), n < e + f → e ≤ n + 1 → match s_str tx n q f e with
    | some e' => e ≤ e' ∧ e' < n ∧ am_To 58 10 (7, c_l58 e q, [], am_H g I A J X) (100, c_l58 e' q, [], am_H g I A J X)
    | none => am_Ft 58 10 (7, c_l58 e q, [], am_H g I A J X) (.inr (101, (am_lay ++ g).length)) (am_H (am_gx g) (am_u (am_u I 3 0 5) 3 1 (I 19 6)) A J X) := by
  have hn := hT.2.1
  have out : ∀ e, n ≤ e → e ≤ n + 1 → am_Ft 58 10 (7, c_l58 e q, [], am_H g I A J X) (.inr (101, (am_lay ++ g).length)) (am_H (am_gx g) (am_u (am_u I 3 0 5) 3 1 (I 19 6)) A J X) := by
    intro e h1 h2 B C u c Q hu hc hq
    refine am_yea 9 (by decide) rfl (by rw [hT.1]; exact nI_le h1 (by omega)) ?_
    refine am_nay 9 (by decide) rfl (by rw [hT.1]; exact nI_nlt h1 (by omega)) ?_
    exact am_cat 9 (by decide) rfl t_refuse (by decide) hu hc rfl hq
  intro f
  induction f with
  | zero =>
    intro e h1 h2
    exact out e (by omega) h2
  | succ f ih =>
    intro e h1 h2
    unfold s_str
    by_cases c1 : e < n
    · rw [if_pos c1]
      have e0 : s_ch tx n e = tx e := if_pos c1
      have hat := k_at (g := g) (J := J) (X := X) (p := e) hT (by omega)
      rw [e0] at hat
      by_cases c2 : tx e = q
      · rw [if_pos c2]
        refine ⟨Nat.le_refl _, c1, ?_⟩
        intro B C u c Q hu hc k
        refine am_nay 9 (by decide) rfl (by rw [hT.1]; exact nI_ge c1 (by omega)) ?_
        refine am_cav 9 (by decide) rfl hat (by decide) hu hc ?_
        refine am_yea 9 (by decide) rfl c2 ?_
        exact am_yea 9 (by decide) rfl (by rw [hT.1]; exact nI_lt c1 (by omega)) k
      · rw [if_neg c2]
        have st : am_To 58 10 (7, c_l58 e q, [], am_H g I A J X) (46, c_l58 (if tx e = 92 then e + 1 else e) q, [], am_H g I A J X) := by
          intro B C u c Q hu hc k
          refine am_nay 9 (by decide) rfl (by rw [hT.1]; exact nI_ge c1 (by omega)) ?_
          refine am_cav 9 (by decide) rfl hat (by decide) hu hc ?_
          refine am_nay 9 (by decide) rfl c2 ?_
          refine am_cav 9 (by decide) rfl hat (by decide) hu hc ?_
          by_cases c3 : tx e = 92
          · rw [if_pos c3] at k
            refine am_nay 9 (by decide) rfl (fun z => z c3) ?_
            refine am_pla 1 (by decide) rfl ?_
            rw [nI_1]
            exact k
          · rw [if_neg c3] at k
            exact am_yea 9 (by decide) rfl c3 k
        have hb : e ≤ (if tx e = 92 then e + 1 else e) ∧ (if tx e = 92 then e + 1 else e) ≤ e + 1 := by split <;> omega
        revert st hb
        generalize (if tx e = 92 then e + 1 else e) = e1
        intro st hb
        have hat1 := k_at (g := g) (J := J) (X := X) (p := e1) hT (by omega)
        by_cases c4 : s_ch tx n e1 = 10
        · rw [if_pos c4]
          refine am_Ft.from st ?_
          intro B C u c Q hu hc hq
          refine am_cav 9 (by decide) rfl hat1 (by decide) (by omega) (by omega) ?_
          refine am_nay 9 (by decide) rfl (fun z => z c4) ?_
          exact am_cat 9 (by decide) rfl t_refuse (by decide) hu hc rfl hq
        · rw [if_neg c4]
          have st2 : am_To 58 10 (7, c_l58 e q, [], am_H g I A J X) (7, c_l58 (e1 + 1) q, [], am_H g I A J X) := by
            refine st.trans ?_
            intro B C u c Q hu hc k
            refine am_cav 9 (by decide) rfl hat1 (by decide) hu hc ?_
            refine am_yea 9 (by decide) rfl c4 ?_
            refine am_pla 2 (by decide) rfl ?_
            rw [nI_1]
            exact k
          have hih := ih (e1 + 1) (by omega) (by omega)
          revert hih
          generalize s_str tx n q f (e1 + 1) = res
          intro hih
          cases res with
          | none => exact am_Ft.from st2 hih
          | some e' => exact ⟨by omega, hih.2.1, st2.trans hih.2.2⟩
    · rw [if_neg c1]
      exact out e (by omega) h2
theorem k_str {m : Nat} {l : Bool} {ws : List (Nat × Nat)} {bs : List Nat} {tk : Nat → aT} (hT : c_T tx n I A) (hz : c_S (p, l, ws, bs, m, tk) I A) (hp : p < n) : c_R c_sc 10 58 [.ref 19, .int q] g I A J X (fun _ => none) c_S (match s_str tx n q (n - p) (p + 1) with
    | none => .error (5, p)
    | some e => s_take 4 4 (e + 1 - p) (p, l, ws, bs, m, tk)) := by
  have hn := hT.2.1
  have h1 := hz.1
  have hL := k_strL (g := g) (J := J) (X := X) (q := q) hT (n - p) (p + 1) (by omega) (by omega)
  have st : am_To 58 10 (0, lv_args 0 [.ref 19, .int q], [], am_H g I A J X) (7, c_l58 (p + 1) q, [], am_H g I A J X) := by
    intro B C u c Q hu hc k
    refine am_pla 5 (by decide) rfl ?_
    rw [h1, nI_1]
    exact k
  revert hL
  generalize s_str tx n q (n - p) (p + 1) = res
  intro hL
  cases res with
  | none =>
    refine ⟨_, A, _, ?_, ?_, ?_, am_metF rfl rfl (am_Ft.from st hL)⟩
    · simp [am_u]
    · simp [am_u, h1]
    · exact (am_Fr.put (by decide)).trans (am_Fr.put (by decide))
  | some e =>
    obtain ⟨b1, b2, st2⟩ := hL
    have es : nI (e + 1) - nI p = nI (e + 1 - p) := nI_sub (by omega)
    exact c_tail (n := 12) (n2 := 9) rfl rfl (by decide) (by decide : 8 + 1 ≤ 10) (s1 := (100, c_l58 e q, [], am_H g I A J X)) (st.trans st2) (by rw [show am_run 12 58 (100, c_l58 e q, [], am_H g I A J X) = am_ca 52 [.ref 19, .int 4, .int 4, .int (nI e + 1 - I 19 6)] (114, c_l58 e q, [], am_H g I A J X) from rfl, h1, nI_1, es]) (fun _ => rfl) rfl am_Fr.refl (k_take hz (by omega) (by dsimp only; omega)) (fun _ _ _ h => h)
end QUO
end
section
/-! THE CLASS'S SCANNER: signs, brackets, ends of lines -/
theorem s_pair_ix : ∀ m, m < 127 → ((am_ix 15 (nI m) 0 4 < 0) ↔ s_pair (nI m) = false) := by decide +kernel
theorem s_one_ix : ∀ m, m < 127 → ((0 ≤ am_ix 16 (nI m) 0 16) ↔ s_one (nI m) = true) := by decide +kernel
theorem c_char_b {c : Int32} (h : c_char c = true) : c.toInt8.toInt32 = c ∧ ¬ c < 0 ∧ ¬ 255 < c ∧ ((am_ix 15 c 0 4 < 0) ↔ s_pair c = false) ∧ ((0 ≤ am_ix 16 c 0 16) ↔ s_one c = true) := by
  obtain ⟨m, hm, -, rfl⟩ := c_char_of h
  have key : ∀ m, m < 127 → (nI m).toInt8.toInt32 = nI m ∧ ¬ nI m < 0 ∧ ¬ 255 < nI m := by decide +kernel
  exact ⟨(key m hm).1, (key m hm).2.1, (key m hm).2.2, s_pair_ix m hm, s_one_ix m hm⟩
section SGN
variable {g : List aK} {I A : Nat → Nat → Int32} {J : Nat → Nat → Int64} {X : Nat × (Nat → Int32)} {tx : Nat → Int32} {n p m : Nat} {l : Bool} {ws : List (Nat × Nat)} {bs : List Nat} {tk : Nat → aT}
theorem c_S.opn (h : c_S (p, l, ws, bs, m, tk) I A) (hl : bs.length < 8) (hp : p < 600) : c_S (p, l, ws, p :: bs, m, tk) (am_u I 24 1 (nI (bs.length + 1))) (am_u A 25 bs.length (nI p)) := by
  obtain ⟨h1, h2, h3, h4, h5, h6, h7, h8, h9, ht, h11, h12⟩ := h
  refine ⟨?_, ?_, ?_, ?_, h5, ?_, ?_, by simp; omega, ⟨?_, ?_⟩, ⟨?_, ht.2.1, ?_⟩, h11, ?_⟩
  · simpa [am_u] using h1
  · simpa [am_u] using h2
  · simpa [am_u] using h3
  · simpa [am_u] using h4
  · simpa [am_uo] using h6
  · simp [am_u]
  · simp [am_u]
  · refine c_P_same (fun k hk => ?_) h9
    have : k ≠ bs.length := by omega
    simp [am_u, this]
  · simpa [am_u] using ht.1
  · simpa [am_uo] using ht.2.2
  · intro b hb
    rcases List.mem_cons.mp hb with e | e
    · omega
    · exact h12 b e
theorem c_S.shut {b : Nat} (h : c_S (p, l, ws, b :: bs, m, tk) I A) : c_S (p, l, ws, bs, m, tk) (am_u I 24 1 (nI bs.length)) A := by
  obtain ⟨h1, h2, h3, h4, h5, h6, h7, h8, h9, ht, h11, h12⟩ := h
  refine ⟨?_, ?_, ?_, ?_, h5, h6, ?_, by simp at h8; omega, h9.2, ⟨?_, ht.2⟩, h11, fun b hb => h12 b (List.mem_cons_of_mem _ hb)⟩
  · simpa [am_u] using h1
  · simpa [am_u] using h2
  · simpa [am_u] using h3
  · simpa [am_u] using h4
  · simp [am_u]
  · simpa [am_u] using ht.1
theorem k_opn (hz : c_S (p, l, ws, bs, m, tk) I A) (hp : p < 600) : c_R c_sc 8 60 [.ref 19] g I A J X (fun _ => none) c_S (if bs.length < 8 then .ok (p, l, ws, p :: bs, m, tk) else .error (3, p)) := by
  have h1 := hz.1
  have h7 := hz.2.2.2.2.2.2.1
  have h8 := hz.2.2.2.2.2.2.2.1
  by_cases c1 : bs.length < 8
  · rw [if_pos c1]
    refine ⟨_, _, hz.opn c1 hp, (am_Fr.put (by decide)).trans (am_Fr.set (by decide)), am_met rfl rfl ?_⟩
    refine am_cav 9 (by decide) rfl (by rw [h1]; exact t_push24 h7 c1) (by decide) (by decide) (by decide) ?_
    refine am_yea 9 (by decide) rfl (by decide) ?_
    exact am_end 9 (by decide) rfl trivial (by decide) (by decide) ⟨rfl, rfl⟩
  · rw [if_neg c1]
    have e8 : bs.length = 8 := by omega
    refine c_ref (n := 9) rfl rfl (by decide) (s1 := (14, [(0, .ref 19)], [], am_H g I A J X)) ?_ rfl rfl am_Fr.refl (by decide) h1
    intro B C u c Q hu hc k
    refine am_cav 9 (by decide) rfl (t_full24 (by rw [h7, e8])) (by decide) hu hc ?_
    exact am_nay 9 (by decide) rfl (by decide) k
theorem k_shut {c : Int32} (hT : c_T tx n I A) (hz : c_S (p, l, ws, bs, m, tk) I A) : c_R c_sc 8 61 [.ref 19, .int c] g I A J X (fun _ => none) c_S (match bs with
    | [] => .error (4, p)
    | b :: r => if s_ch tx n b = (if c = 41 then 40 else 91) then .ok (p, l, ws, r, m, tk) else .error (4, p)) := by
  have h1 := hz.1
  have h7 := hz.2.2.2.2.2.2.1
  have h8 := hz.2.2.2.2.2.2.2.1
  have h9 := hz.2.2.2.2.2.2.2.2.1
  have h12 := hz.2.2.2.2.2.2.2.2.2.2.2
  have st : am_To 61 8 (0, lv_args 0 [.ref 19, .int c], [], am_H g I A J X) (14, [(2, .int (if c = 41 then 40 else 91)), (0, .ref 19), (1, .int c)], [], am_H g I A J X) := by
    intro B C u c' Q hu hc k
    by_cases c1 : c = 41
    · rw [if_pos c1] at k
      refine am_nay 9 (by decide) rfl (fun z => z c1) ?_
      exact am_pla 3 (by decide) rfl k
    · rw [if_neg c1] at k
      refine am_yea 9 (by decide) rfl c1 ?_
      exact am_pla 2 (by decide) rfl k
  cases bs with
  | nil =>
    dsimp only
    refine c_ref (n := 9) rfl rfl (by decide) (s1 := (42, [(2, .int (if c = 41 then 40 else 91)), (0, .ref 19), (1, .int c)], [], am_H g I A J X)) (st.trans ?_) rfl rfl am_Fr.refl (by decide) h1
    intro B C u c' Q hu hc k
    exact am_yea 9 (by decide) rfl (by rw [h7]; rfl) k
  | cons b r =>
    dsimp only
    have hb : b < 600 := h12 b List.mem_cons_self
    have h8' : r.length < 8 := by simp at h8; omega
    have hlast := t_last24 (g := g) (A := A) (J := J) (X := X) (n := r.length) h7 h8'
    rw [h9.1] at hlast
    have hat := k_at (g := g) (J := J) (X := X) (p := b) hT (by omega)
    have st2 : am_To 61 8 (14, [(2, .int (if c = 41 then 40 else 91)), (0, .ref 19), (1, .int c)], [], am_H g I A J X) (35, [(2, .int (if c = 41 then 40 else 91)), (0, .ref 19), (1, .int c)], [.int (nI b), .ref 1], am_H g I A J X) := by
      intro B C u c' Q hu hc k
      refine am_nay 9 (by decide) rfl (by rw [h7]; exact nI_ne0 (by simp) (by simp; omega)) ?_
      exact am_cav 9 (by decide) rfl hlast (by decide) hu hc k
    by_cases c2 : s_ch tx n b = (if c = 41 then 40 else 91)
    · rw [if_pos c2]
      refine ⟨_, A, hz.shut, am_Fr.put (by decide), am_met rfl rfl ((st.trans st2) _ _ _ _ _ (by decide) (by decide) ?_)⟩
      refine am_cav 9 (by decide) rfl hat (by decide) (by decide) (by decide) ?_
      refine am_yea 9 (by decide) rfl c2 ?_
      refine am_can 9 (by decide) rfl (t_pop24 h7 h8') (by decide) (by decide) (by decide) ?_
      exact am_end 9 (by decide) rfl trivial (by decide) (by decide) ⟨rfl, rfl⟩
    · rw [if_neg c2]
      refine c_ref (n := 9) rfl rfl (by decide) (s1 := (42, [(2, .int (if c = 41 then 40 else 91)), (0, .ref 19), (1, .int c)], [], am_H g I A J X)) ((st.trans st2).trans ?_) rfl rfl am_Fr.refl (by decide) h1
      intro B C u c' Q hu hc k
      refine am_cav 9 (by decide) rfl hat (by decide) hu hc ?_
      exact am_nay 9 (by decide) rfl c2 k
theorem k_eol (hz : c_S (p, l, ws, bs, m, tk) I A) (hp : p < 600) : c_R c_sc 9 54 [.ref 19] g I A J X (fun _ => none) c_S (if 0 < bs.length then .ok (p + 1, l, ws, bs, m, tk) else match s_take 6 6 1 (p, l, ws, bs, m, tk) with
      | .error e => .error e
      | .ok (p', _, y) => .ok (p', false, y)) := by
  have h1 := hz.1
  have h7 := hz.2.2.2.2.2.2.1
  have h8 := hz.2.2.2.2.2.2.2.1
  by_cases c1 : 0 < bs.length
  · rw [if_pos c1]
    refine ⟨_, A, hz.pl (by omega), am_Fr.place, am_met rfl rfl ?_⟩
    refine am_nay 9 (by decide) rfl (by rw [h7]; exact nI_nle c1 (by omega)) ?_
    refine am_end 9 (by decide) rfl trivial (by decide) (by decide) ⟨rfl, ?_⟩
    rw [h1, nI_1]
  · rw [if_neg c1]
    have ht := k_take (g := g) (J := J) (X := X) (k := 6) (mk := 6) (e := 1) hz (by decide) (by dsimp only; omega)
    have st : am_To 54 9 (0, lv_args 0 [.ref 19], [], am_H g I A J X) (21, [(0, .ref 19)], [], am_H g I A J X) := by
      intro B C u c' Q hu hc k
      refine am_yea 9 (by decide) rfl ?_ k
      rw [h7, show bs.length = 0 by omega]
      decide
    revert ht
    generalize s_take 6 6 1 (p, l, ws, bs, m, tk) = res
    intro ht
    cases res with
    | error q =>
      obtain ⟨I', A', k, g1, g2, g3, g4⟩ := ht
      refine ⟨I', A', k, g1, g2, g3, am_metF rfl rfl (am_Ft.from st ?_)⟩
      intro B C u c' Q hu hc hq
      exact am_cat 9 (by decide) rfl g4 (by decide) hu hc rfl hq
    | ok y =>
      obtain ⟨I', A', g1, g2, g3⟩ := ht
      obtain ⟨py, ly, wy, by', my, ty⟩ := y
      refine ⟨am_u I' 19 7 (am_b false), A', g1.ln, g2.trans (am_Fr.put (by decide)), am_met rfl rfl (st _ _ _ _ _ (by decide) (by decide) ?_)⟩
      refine am_can 9 (by decide) rfl g3 (by decide) (by decide) (by decide) ?_
      refine am_nee 9 (by decide) rfl (Or.inl rfl) ?_
      exact am_end 9 (by decide) rfl trivial (by decide) (by decide) ⟨rfl, rfl⟩
end SGN
end
section
/-! THE CLASS'S SCANNER: takeSign -/
section TSG
variable {g : List aK} {I A : Nat → Nat → Int32} {J : Nat → Nat → Int64} {X : Nat × (Nat → Int32)} {tx : Nat → Int32} {n p m : Nat} {l : Bool} {ws : List (Nat × Nat)} {bs : List Nat} {tk : Nat → aT}
abbrev c_l59 (c : Int32) : List (Nat × Value) := [(0, .ref 19), (1, .int c)]
theorem k_sign (hT : c_T tx n I A) (hz : c_S (p, l, ws, bs, m, tk) I A) (hp : p < n) : c_R c_sc 11 59 [.ref 19, .int (s_ch tx n p)] g I A J X (fun _ => none) c_S (s_sign tx n (p, l, ws, bs, m, tk)) := by
  have hn := hT.2.1
  have h1 := hz.1
  have hcc : c_char (s_ch tx n p) = true := by rw [show s_ch tx n p = tx p from if_pos hp]; exact hT.2.2.2 p hp
  obtain ⟨b1, b2, b3, b4, b5⟩ := c_char_b hcc
  unfold s_sign
  dsimp only
  have hat := k_at (g := g) (J := J) (X := X) (p := p + 1) hT (by omega)
  generalize s_ch tx n p = c at *
  have hi15 := t_indexOf (h := am_H g I A J X) (i := 15) (c := c) (by decide) (by decide) b1 b2 b3
  have hi16 := t_indexOf (h := am_H g I A J X) (i := 16) (c := c) (by decide) (by decide) b1 b2 b3
  by_cases c1 : s_pair c = true ∧ s_ch tx n (p + 1) = 61
  · rw [if_pos c1]
    have hp1 : p + 1 < n := by
      rcases Nat.lt_or_ge (p + 1) n with q | q
      · exact q
      · have := c1.2
        rw [show s_ch tx n (p + 1) = 0 from if_neg (by omega)] at this
        exact absurd this (by decide)
    refine c_tail (n := 9) (n2 := 9) rfl rfl (by decide) (by decide : 8 + 1 ≤ 11) (s1 := (27, c_l59 c, [], am_H g I A J X)) ?_ rfl (fun _ => rfl) rfl am_Fr.refl (k_take hz (by decide) (by dsimp only; omega)) (fun _ _ _ h => h)
    intro B C u c' Q hu hc k
    refine am_cav 9 (by decide) rfl hi15 (by decide) hu hc ?_
    refine am_nay 9 (by decide) rfl (fun z => by rw [c1.1] at b4; exact absurd (b4.mp z) (by decide)) ?_
    refine am_cav 9 (by decide) rfl (by rw [h1, nI_1]; exact hat) (by decide) hu hc ?_
    exact am_nay 9 (by decide) rfl (fun z => z c1.2) k
  · rw [if_neg c1]
    have stA : am_To 59 11 (0, lv_args 0 [.ref 19, .int c], [], am_H g I A J X) (39, c_l59 c, [], am_H g I A J X) := by
      intro B C u c' Q hu hc k
      refine am_cav 9 (by decide) rfl hi15 (by decide) hu hc ?_
      by_cases c2 : s_pair c = true
      · refine am_nay 9 (by decide) rfl (fun z => by rw [c2] at b4; exact absurd (b4.mp z) (by decide)) ?_
        refine am_cav 9 (by decide) rfl (by rw [h1, nI_1]; exact hat) (by decide) hu hc ?_
        exact am_yea 9 (by decide) rfl (fun z => c1 ⟨c2, z⟩) k
      · exact am_yea 9 (by decide) rfl (b4.mpr (Bool.eq_false_iff.mpr c2)) k
    by_cases c3 : s_one c = false
    · rw [if_pos c3]
      refine c_ref (n := 9) rfl rfl (by decide) (s1 := (48, c_l59 c, [], am_H g I A J X)) (stA.trans ?_) rfl rfl am_Fr.refl (by decide) h1
      intro B C u c' Q hu hc k
      refine am_cav 9 (by decide) rfl hi16 (by decide) hu hc ?_
      exact am_nay 9 (by decide) rfl (fun z => by rw [c3] at b5; exact absurd (b5.mp z) (by decide)) k
    · rw [if_neg c3]
      have c3' : s_one c = true := by simpa using c3
      have stB : am_To 59 11 (0, lv_args 0 [.ref 19, .int c], [], am_H g I A J X) (61, c_l59 c, [], am_H g I A J X) := by
        refine stA.trans ?_
        intro B C u c' Q hu hc k
        refine am_cav 9 (by decide) rfl hi16 (by decide) hu hc ?_
        exact am_yea 9 (by decide) rfl (b5.mpr c3') k
      by_cases c4 : c = 40 ∨ c = 91
      · rw [if_pos c4]
        have n41 : ¬ c = 41 := by rcases c4 with h | h <;> rw [h] <;> decide
        have n93 : ¬ c = 93 := by rcases c4 with h | h <;> rw [h] <;> decide
        have stC : am_To 59 11 (61, c_l59 c, [], am_H g I A J X) (73, c_l59 c, [], am_H g I A J X) := by
          intro B C u c' Q hu hc k
          by_cases c5 : c = 40
          · exact am_yea 9 (by decide) rfl c5 k
          · refine am_nay 9 (by decide) rfl c5 ?_
            refine am_nay 9 (by decide) rfl (fun z => z (c4.resolve_left c5)) k
        have ho := k_opn (g := g) (J := J) (X := X) hz (by omega)
        by_cases c6 : bs.length < 8
        · rw [if_pos c6] at ho ⊢
          obtain ⟨I', A', g1, g2, g3⟩ := ho
          refine c_tail (n := 9) (n2 := 9) rfl rfl (by decide) (by decide : 8 + 1 ≤ 11) (s1 := (94, c_l59 c, [], am_H g I' A' J X)) ((stB.trans stC).trans ?_) rfl (fun _ => rfl) rfl g2 (k_take g1 (by decide) (by dsimp only; omega)) (fun _ _ _ h => h)
          intro B C u c' Q hu hc k
          refine am_can 9 (by decide) rfl g3 (by decide) hu hc ?_
          refine am_nay 9 (by decide) rfl n41 ?_
          exact am_yea 9 (by decide) rfl n93 k
        · rw [if_neg c6] at ho ⊢
          obtain ⟨I', A', k, g1, g2, g3, g4⟩ := ho
          refine ⟨I', A', k, g1, g2, g3, am_metF rfl rfl (am_Ft.from (stB.trans stC) ?_)⟩
          intro B C u c' Q hu hc hq
          exact am_cat 9 (by decide) rfl g4 (by decide) hu hc rfl hq
      · rw [if_neg c4]
        have stC : am_To 59 11 (0, lv_args 0 [.ref 19, .int c], [], am_H g I A J X) (77, c_l59 c, [], am_H g I A J X) := by
          refine stB.trans ?_
          intro B C u c' Q hu hc k
          refine am_nay 9 (by decide) rfl (fun z => c4 (Or.inl z)) ?_
          exact am_yea 9 (by decide) rfl (fun z => c4 (Or.inr z)) k
        by_cases c5 : c = 41 ∨ c = 93
        · rw [if_pos c5]
          have stD : am_To 59 11 (0, lv_args 0 [.ref 19, .int c], [], am_H g I A J X) (89, c_l59 c, [], am_H g I A J X) := by
            refine stC.trans ?_
            intro B C u c' Q hu hc k
            by_cases c6 : c = 41
            · exact am_yea 9 (by decide) rfl c6 k
            · refine am_nay 9 (by decide) rfl c6 ?_
              exact am_nay 9 (by decide) rfl (fun z => z (c5.resolve_left c6)) k
          have hs := k_shut (g := g) (J := J) (X := X) (c := c) hT hz
          cases bs with
          | nil =>
            dsimp only at hs ⊢
            obtain ⟨I', A', k, g1, g2, g3, g4⟩ := hs
            refine ⟨I', A', k, g1, g2, g3, am_metF rfl rfl (am_Ft.from stD ?_)⟩
            intro B C u c' Q hu hc hq
            exact am_cat 9 (by decide) rfl g4 (by decide) hu hc rfl hq
          | cons b r =>
            dsimp only at hs ⊢
            by_cases c7 : s_ch tx n b = (if c = 41 then 40 else 91)
            · rw [if_pos c7] at hs ⊢
              obtain ⟨I', A', g1, g2, g3⟩ := hs
              refine c_tail (n := 9) (n2 := 9) rfl rfl (by decide) (by decide : 8 + 1 ≤ 11) (s1 := (94, c_l59 c, [], am_H g I' A' J X)) (stD.trans ?_) rfl (fun _ => rfl) rfl g2 (k_take g1 (by decide) (by dsimp only; omega)) (fun _ _ _ h => h)
              intro B C u c' Q hu hc k
              exact am_can 9 (by decide) rfl g3 (by decide) hu hc k
            · rw [if_neg c7] at hs ⊢
              obtain ⟨I', A', k, g1, g2, g3, g4⟩ := hs
              refine ⟨I', A', k, g1, g2, g3, am_metF rfl rfl (am_Ft.from stD ?_)⟩
              intro B C u c' Q hu hc hq
              exact am_cat 9 (by decide) rfl g4 (by decide) hu hc rfl hq
        · rw [if_neg c5]
          refine c_tail (n := 9) (n2 := 9) rfl rfl (by decide) (by decide : 8 + 1 ≤ 11) (s1 := (94, c_l59 c, [], am_H g I A J X)) (stC.trans ?_) rfl (fun _ => rfl) rfl am_Fr.refl (k_take hz (by decide) (by dsimp only; omega)) (fun _ _ _ h => h)
          intro B C u c' Q hu hc k
          refine am_nay 9 (by decide) rfl (fun z => c5 (Or.inl z)) ?_
          exact am_yea 9 (by decide) rfl (fun z => c5 (Or.inr z)) k
end TSG
end
section
/-! THE CLASS'S SCANNER: takeNext -/
section TNX
variable {g : List aK} {I A : Nat → Nat → Int32} {J : Nat → Nat → Int64} {X : Nat × (Nat → Int32)} {tx : Nat → Int32} {n p m : Nat} {l : Bool} {ws : List (Nat × Nat)} {bs : List Nat} {tk : Nat → aT}
abbrev c_l53 (c : Int32) : List (Nat × Value) := [(1, .int c), (0, .ref 19)]
theorem k_next (hT : c_T tx n I A) (hz : c_S (p, l, ws, bs, m, tk) I A) (hp : p < n) : c_R c_sc 12 53 [.ref 19] g I A J X (fun _ => none) c_S (s_next tx n (p, l, ws, bs, m, tk)) := by
  have hn := hT.2.1
  have h1 := hz.1
  have hat0 := k_at (g := g) (J := J) (X := X) (p := p) hT (by omega)
  have hat1 := k_at (g := g) (J := J) (X := X) (p := p + 1) hT (by omega)
  have hnl := k_nl (g := g) (J := J) (X := X) (p := p) hT h1 (by omega)
  have heol := k_eol (g := g) (J := J) (X := X) hz (by omega)
  have hname := k_name (g := g) (J := J) (X := X) hT hz hp
  have hnum := k_num (g := g) (J := J) (X := X) hT hz hp
  have hstr := k_str (g := g) (J := J) (X := X) (q := s_ch tx n p) hT hz hp
  have hsgn := k_sign (g := g) (J := J) (X := X) hT hz hp
  have hr := s_run_le (f := fun k => !decide (tx k = 10)) (n - p) p
  have hr' : s_nl tx n p ≤ n := by unfold s_nl; omega
  unfold s_next
  dsimp only
  have st : am_To 53 12 (0, lv_args 0 [.ref 19], [], am_H g I A J X) (12, c_l53 (s_ch tx n p), [], am_H g I A J X) := by
    intro B C u c' Q hu hc k
    refine am_cav 9 (by decide) rfl (by rw [h1]; exact hat0) (by decide) hu hc ?_
    exact am_pla 1 (by decide) rfl k
  generalize hcd : s_ch tx n p = c at *
  by_cases c1 : c_blank c = true
  · rw [if_pos c1]
    refine ⟨_, A, hz.pl (by omega), am_Fr.place, am_met rfl rfl (st _ _ _ _ _ (by decide) (by decide) ?_)⟩
    refine am_cav 9 (by decide) rfl t_blank (by decide) (by decide) (by decide) ?_
    rw [c1]
    refine am_nay 9 (by decide) rfl (by decide) ?_
    refine am_end 9 (by decide) rfl trivial (by decide) (by decide) ⟨rfl, ?_⟩
    rw [h1, nI_1]
  rw [if_neg c1]
  have st1 : am_To 53 12 (0, lv_args 0 [.ref 19], [], am_H g I A J X) (32, c_l53 c, [], am_H g I A J X) := by
    refine st.trans ?_
    intro B C u c' Q hu hc k
    refine am_cav 9 (by decide) rfl t_blank (by decide) hu hc ?_
    rw [Bool.eq_false_iff.mpr c1]
    exact am_yea 9 (by decide) rfl (by decide) k
  by_cases c2 : c = 35
  · rw [if_pos c2]
    refine ⟨_, A, hz.pl (by omega), am_Fr.place, am_met rfl rfl (st1 _ _ _ _ _ (by decide) (by decide) ?_)⟩
    refine am_nay 9 (by decide) rfl (fun z => z c2) ?_
    refine am_can 9 (by decide) rfl hnl (by decide) (by decide) (by decide) ?_
    exact am_end 9 (by decide) rfl trivial (by decide) (by decide) ⟨rfl, rfl⟩
  rw [if_neg c2]
  have st2 : am_To 53 12 (0, lv_args 0 [.ref 19], [], am_H g I A J X) (45, c_l53 c, [], am_H g I A J X) := by
    refine st1.trans ?_
    intro B C u c' Q hu hc k
    exact am_yea 9 (by decide) rfl c2 k
  by_cases c3 : c = 92 ∧ s_ch tx n (p + 1) = 10
  · rw [if_pos c3]
    have hp1 : p + 1 < n := by
      rcases Nat.lt_or_ge (p + 1) n with q | q
      · exact q
      · have := c3.2
        rw [show s_ch tx n (p + 1) = 0 from if_neg (by omega)] at this
        exact absurd this (by decide)
    refine ⟨_, A, hz.pl (by omega), am_Fr.place, am_met rfl rfl (st2 _ _ _ _ _ (by decide) (by decide) ?_)⟩
    refine am_nay 9 (by decide) rfl (fun z => z c3.1) ?_
    refine am_cav 9 (by decide) rfl (by rw [h1, nI_1]; exact hat1) (by decide) (by decide) (by decide) ?_
    refine am_nay 9 (by decide) rfl (fun z => z c3.2) ?_
    refine am_end 9 (by decide) rfl trivial (by decide) (by decide) ⟨rfl, ?_⟩
    rw [h1, show (2 : Int32) = nI 2 from rfl, nI_add]
  rw [if_neg c3]
  have st3 : am_To 53 12 (0, lv_args 0 [.ref 19], [], am_H g I A J X) (82, c_l53 c, [], am_H g I A J X) := by
    refine st2.trans ?_
    intro B C u c' Q hu hc k
    by_cases c4 : c = 92
    · refine am_nay 9 (by decide) rfl (fun z => z c4) ?_
      refine am_cav 9 (by decide) rfl (by rw [h1, nI_1]; exact hat1) (by decide) hu hc ?_
      exact am_yea 9 (by decide) rfl (fun z => c3 ⟨c4, z⟩) k
    · exact am_yea 9 (by decide) rfl c4 k
  by_cases c4 : c = 10
  · rw [if_pos c4]
    refine c_tail (n := 9) (n2 := 9) rfl rfl (by decide) (by decide : 9 + 1 ≤ 12) (s1 := (88, c_l53 c, [], am_H g I A J X)) (st3.trans ?_) rfl (fun _ => rfl) rfl am_Fr.refl heol (fun _ _ _ h => h)
    intro B C u c' Q hu hc k
    exact am_nay 9 (by decide) rfl (fun z => z c4) k
  rw [if_neg c4]
  have st4 : am_To 53 12 (0, lv_args 0 [.ref 19], [], am_H g I A J X) (95, c_l53 c, [], am_H g I A J X) := by
    refine st3.trans ?_
    intro B C u c' Q hu hc k
    exact am_yea 9 (by decide) rfl c4 k
  by_cases c5 : c_letter c = true
  · rw [if_pos c5]
    refine c_tail (n := 9) (n2 := 9) rfl rfl (by decide) (by decide : 10 + 1 ≤ 12) (s1 := (102, c_l53 c, [], am_H g I A J X)) (st4.trans ?_) rfl (fun _ => rfl) rfl am_Fr.refl hname (fun _ _ _ h => h)
    intro B C u c' Q hu hc k
    refine am_cav 9 (by decide) rfl t_letter (by decide) hu hc ?_
    rw [c5]
    exact am_nay 9 (by decide) rfl (by decide) k
  rw [if_neg c5]
  have st5 : am_To 53 12 (0, lv_args 0 [.ref 19], [], am_H g I A J X) (109, c_l53 c, [], am_H g I A J X) := by
    refine st4.trans ?_
    intro B C u c' Q hu hc k
    refine am_cav 9 (by decide) rfl t_letter (by decide) hu hc ?_
    rw [Bool.eq_false_iff.mpr c5]
    exact am_yea 9 (by decide) rfl (by decide) k
  by_cases c6 : c_digit c = true
  · rw [if_pos c6]
    refine c_tail (n := 9) (n2 := 9) rfl rfl (by decide) (by decide : 10 + 1 ≤ 12) (s1 := (116, c_l53 c, [], am_H g I A J X)) (st5.trans ?_) rfl (fun _ => rfl) rfl am_Fr.refl hnum (fun _ _ _ h => h)
    intro B C u c' Q hu hc k
    refine am_cav 9 (by decide) rfl t_digit (by decide) hu hc ?_
    rw [c6]
    exact am_nay 9 (by decide) rfl (by decide) k
  rw [if_neg c6]
  have st6 : am_To 53 12 (0, lv_args 0 [.ref 19], [], am_H g I A J X) (123, c_l53 c, [], am_H g I A J X) := by
    refine st5.trans ?_
    intro B C u c' Q hu hc k
    refine am_cav 9 (by decide) rfl t_digit (by decide) hu hc ?_
    rw [Bool.eq_false_iff.mpr c6]
    exact am_yea 9 (by decide) rfl (by decide) k
  by_cases c7 : c = 39 ∨ c = 34
  · rw [if_pos c7]
    refine c_tail (n := 9) (n2 := 9) rfl rfl (by decide) (by decide : 10 + 1 ≤ 12) (s1 := (135, c_l53 c, [], am_H g I A J X)) (st6.trans ?_) rfl (fun _ => rfl) rfl am_Fr.refl hstr (fun _ _ _ h => h)
    intro B C u c' Q hu hc k
    by_cases c8 : c = 39
    · exact am_yea 9 (by decide) rfl c8 k
    · refine am_nay 9 (by decide) rfl c8 ?_
      exact am_nay 9 (by decide) rfl (fun z => z (c7.resolve_left c8)) k
  · rw [if_neg c7]
    refine c_tail (n := 9) (n2 := 9) rfl rfl (by decide) (by decide : 11 + 1 ≤ 12) (s1 := (143, c_l53 c, [], am_H g I A J X)) (st6.trans ?_) rfl (fun _ => rfl) rfl am_Fr.refl hsgn (fun _ _ _ h => h)
    intro B C u c' Q hu hc k
    refine am_nay 9 (by decide) rfl (fun z => c7 (Or.inl z)) ?_
    exact am_yea 9 (by decide) rfl (fun z => c7 (Or.inr z)) k
end TNX
end
section
/-! TREES: forests as first part and follower; a node's code is kind + 32 token -/
theorem nI_inj {a b : Nat} (ha : a < 2 ^ 31) (hb : b < 2 ^ 31) (h : nI a = nI b) : a = b := (nI_eq ha hb).mp h
abbrev aB : Type := Lean.RArray Unit
abbrev b_0 : aB := .leaf ()
def b_len : aB → Nat
  | .leaf _ => 0
  | .branch _ _ s => b_len s + 1
def b_ht : aB → Nat
  | .leaf _ => 0
  | .branch _ c s => max (b_ht c + 1) (b_ht s)
def b_add : aB → Nat → aB → aB
  | .leaf _, e, c => .branch e c b_0
  | .branch e1 c1 s1, e, c => .branch e1 c1 (b_add s1 e c)
/-- each node before its parts: code and number of parts -/
def b_pre : aB → List (Nat × Nat)
  | .leaf _ => []
  | .branch e c s => (e, b_len c) :: (b_pre c ++ b_pre s)
theorem b_add_ne : ∀ {s : aB} {e : Nat} {c : aB}, b_add s e c ≠ b_0
  | .leaf _, _, _ => fun h => by cases h
  | .branch _ _ _, _, _ => fun h => by cases h
theorem b_len_add : ∀ {s : aB} {e : Nat} {c : aB}, b_len (b_add s e c) = b_len s + 1
  | .leaf _, _, _ => rfl
  | .branch _ _ s, _, _ => by simp [b_add, b_len, b_len_add (s := s)]
theorem b_ht_add : ∀ {s : aB} {e : Nat} {c : aB}, b_ht (b_add s e c) = max (b_ht s) (b_ht c + 1)
  | .leaf _, _, _ => by simp [b_add, b_ht]
  | .branch _ c1 s, e, c => by simp only [b_add, b_ht, b_ht_add (s := s)]; omega
theorem b_len0 : ∀ {s : aB}, b_len s = 0 → s = b_0
  | .leaf _, _ => rfl
  | .branch _ _ _, h => by simp [b_len] at h
/-- a store: fields 0 kind, 1 token, 2 height, 3 parts, 4 first, 5 last, 6 next, 7 parent -/
abbrev aN : Type := Nat → Nat → Int32
def n_N (S : aN) (q : Bool) (j e : Nat) (c : aB) : Prop := S 0 j = nI (e % 32) ∧ (q = true ∨ e % 32 ≠ 9 → S 1 j = nI (e / 32)) ∧ S 3 j = nI (b_len c) ∧ (11 ≤ e % 32 → S 2 j = nI (b_ht c + 1))
/-- the forest hangs on i, begins at x, ends at l with the follower xe, within lo to hi -/
def n_F (S : aN) (q : Bool) : aB → Nat → Nat → Int32 → Nat → Int32 → Int32 → Prop
  | .leaf _, _, _, x, _, _, xe => x = xe
  | .branch e c s, lo, hi, x, i, l, xe => ∃ j a b, lo ≤ a ∧ a ≤ j ∧ j < b ∧ b ≤ hi ∧ ¬ (a ≤ i ∧ i < b) ∧ x = nI j ∧ (s = b_0 → l = nI j) ∧ S 7 j = nI i ∧ n_N S q j e c ∧ n_F S q c a b (S 4 j) j (S 5 j) (-1) ∧ n_F S q s b hi (S 6 j) i l xe
/-- a node and its parts, which lie within lo to mid -/
def n_T (S : aN) (q : Bool) (lo mid j e : Nat) (c : aB) : Prop := n_N S q j e c ∧ n_F S q c lo mid (S 4 j) j (S 5 j) (-1)
theorem n_F.frame {S S' : aN} {q : Bool} : ∀ {F : aB} {lo hi i : Nat} {x l xe : Int32}, (∀ f k, lo ≤ k → k < hi → k ≠ i → S' f k = S f k) → n_F S q F lo hi x i l xe → n_F S' q F lo hi x i l xe
  | .leaf _, _, _, _, _, _, _, _, h => h
  | .branch e c s, lo, hi, i, x, l, xe, hS, h => by
    obtain ⟨j, a, b, h1, h2, h3, h4, h5, h6, h7, h8, h9, h10, h11⟩ := h
    have hj : ∀ f, S' f j = S f j := fun f => hS f j (by omega) (by omega) (fun e => h5 (by omega))
    refine ⟨j, a, b, h1, h2, h3, h4, h5, h6, h7, by rw [hj]; exact h8, ?_, ?_, ?_⟩
    · unfold n_N at *
      simpa only [hj] using h9
    · rw [hj, hj]
      exact n_F.frame (fun f k k1 k2 k3 => hS f k (by omega) (by omega) (fun e => h5 (by omega))) h10
    · rw [hj]
      exact n_F.frame (fun f k k1 k2 k3 => hS f k (by omega) (by omega) k3) h11
theorem n_F.wide {S : aN} {q : Bool} : ∀ {F : aB} {lo hi lo' hi' i : Nat} {x l xe : Int32}, lo' ≤ lo → hi ≤ hi' → n_F S q F lo hi x i l xe → n_F S q F lo' hi' x i l xe
  | .leaf _, _, _, _, _, _, _, _, _, _, _, h => h
  | .branch e c s, _, _, _, _, _, _, _, _, hl, hh, h => by
    obtain ⟨j, a, b, h1, h2, h3, h4, h5, h6, h7, h8, h9, h10, h11⟩ := h
    exact ⟨j, a, b, by omega, h2, h3, by omega, h5, h6, h7, h8, h9, h10, n_F.wide (Nat.le_refl _) hh h11⟩
/-- a forest with one tree more at its end -/
theorem n_F.snoc {S : aN} {q : Bool} {j2 e2 a2 b2 : Nat} {c2 : aB} : ∀ {F : aB} {lo mid i : Nat} {x l : Int32}, n_F S q F lo mid x i l (nI j2) → lo ≤ mid → mid ≤ a2 → a2 ≤ j2 → j2 < b2 → ¬ (a2 ≤ i ∧ i < b2) → S 7 j2 = nI i → S 6 j2 = -1 → n_T S q a2 b2 j2 e2 c2 → n_F S q (b_add F e2 c2) lo b2 x i (nI j2) (-1)
  | .leaf _, lo, mid, i, x, l, h, h0, h1, h2, h3, h4, h5, h6, h7 => ⟨j2, a2, b2, by omega, h2, h3, Nat.le_refl _, h4, h, fun _ => rfl, h5, h7.1, h7.2, h6⟩
  | .branch e c s, lo, mid, i, x, l, h, h0, k1, k2, k3, k4, k5, k6, k7 => by
    obtain ⟨j, a, b, h1, h2, h3, h4, h5, h6, h7, h8, h9, h10, h11⟩ := h
    exact ⟨j, a, b, h1, h2, h3, by omega, h5, h6, fun e => absurd e b_add_ne, h8, h9, h10, n_F.snoc h11 (by omega) k1 k2 k3 k4 k5 k6 k7⟩
/-- the store with a new node at m -/
def n_add (S : aN) (m : Nat) (k t : Int32) : aN := am_u (am_u (am_u (am_u (am_u (am_u (am_u S 0 m k) 1 m t) 2 m 1) 3 m 0) 4 m (-1)) 6 m (-1)) 7 m (-1)
theorem n_add_o {S : aN} {m k : Nat} {kd t : Int32} {f : Nat} (h : k ≠ m) : n_add S m kd t f k = S f k := by
  unfold n_add
  simp [am_u, h]
theorem n_add_T {S : aN} {q : Bool} {m e lo : Nat} {kd t : Int32} (hk : kd = nI (e % 32)) (ht : q = true ∨ e % 32 ≠ 9 → t = nI (e / 32)) : n_T (n_add S m kd t) q lo lo m e b_0 := by
  refine ⟨⟨?_, ?_, ?_, ?_⟩, ?_⟩
  · simpa [n_add, am_u] using hk
  · simpa [n_add, am_u] using ht
  · simp [n_add, am_u, b_len]; rfl
  · simp [n_add, am_u, b_ht]; intro _; rfl
  · simp [n_F, n_add, am_u]
/-- linking: j2 becomes the last part of j, which then has the height hh -/
def n_lnk (S : aN) (j j2 : Nat) (hh : Int32) : aN := am_u (am_u (am_u (am_u (if S 3 j = 0 then am_u S 4 j (nI j2) else am_u S 6 (S 5 j).toNatClampNeg (nI j2)) 5 j (nI j2)) 7 j2 (nI j)) 3 j (S 3 j + 1)) 2 j hh
end
section
/-! TREES: one part more -/
theorem n_F.last {S : aN} {q : Bool} : ∀ {F : aB} {lo hi i : Nat} {x l xe : Int32}, F ≠ b_0 → n_F S q F lo hi x i l xe → ∃ k, lo ≤ k ∧ k < hi ∧ k ≠ i ∧ l = nI k
  | .leaf _, _, _, _, _, _, _, hn, _ => absurd rfl hn
  | .branch e c s, lo, hi, i, x, l, xe, _, h => by
    obtain ⟨j, a, b, h1, h2, h3, h4, h5, h6, h7, h8, h9, h10, h11⟩ := h
    by_cases hs : s = b_0
    · exact ⟨j, by omega, by omega, fun e => h5 (by omega), h7 hs⟩
    · obtain ⟨k, k1, k2, k3, k4⟩ := n_F.last hs h11
      exact ⟨k, by omega, k2, k3, k4⟩
theorem n_F.link {S S' : aN} {q : Bool} {y : Int32} : ∀ {F : aB} {lo hi i : Nat} {x l xe : Int32}, F ≠ b_0 → hi ≤ 400 → (∀ f k, lo ≤ k → k < hi → k ≠ i → ¬ (f = 6 ∧ l = nI k) → S' f k = S f k) → (∀ k, lo ≤ k → k < hi → l = nI k → S' 6 k = y) → n_F S q F lo hi x i l xe → n_F S' q F lo hi x i l y
  | .leaf _, _, _, _, _, _, _, hn, _, _, _, _ => absurd rfl hn
  | .branch e c s, lo, hi, i, x, l, xe, _, h4, hS, hl, h => by
    obtain ⟨j, a, b, h1, h2, h3, h4, h5, h6, h7, h8, h9, h10, h11⟩ := h
    have hl' : ∃ k, l = nI k ∧ k < 400 ∧ (k = j ∨ b ≤ k) ∧ k < hi := by
      by_cases hs : s = b_0
      · exact ⟨j, h7 hs, by omega, Or.inl rfl, by omega⟩
      · obtain ⟨k, k1, k2, k3, k4⟩ := n_F.last hs h11
        exact ⟨k, k4, by omega, Or.inr k1, k2⟩
    obtain ⟨k0, e0, k1, k2, k3⟩ := hl'
    have ne : ∀ k, a ≤ k → k < b → k ≠ j → l ≠ nI k := fun k q1 q2 q3 q4 => by
      have := nI_inj (by omega) (by omega) (e0.symm.trans q4)
      omega
    have hj : ∀ f, f ≠ 6 → S' f j = S f j := fun f hf => hS f j (by omega) (by omega) (fun e => h5 (by omega)) (fun z => hf z.1)
    refine ⟨j, a, b, h1, h2, h3, h4, h5, h6, h7, by rw [hj 7 (by decide)]; exact h8, ?_, ?_, ?_⟩
    · unfold n_N at *
      rw [hj 0 (by decide), hj 1 (by decide), hj 2 (by decide), hj 3 (by decide)]
      exact h9
    · rw [hj 4 (by decide), hj 5 (by decide)]
      exact n_F.frame (fun f k q1 q2 q3 => hS f k (by omega) (by omega) (fun e => h5 (by omega)) (fun z => ne k q1 q2 q3 z.2)) h10
    · by_cases hs : s = b_0
      · subst hs
        exact hl j (by omega) (by omega) (h7 rfl)
      · have hjn : l ≠ nI j := fun z => by
          obtain ⟨k, q1, q2, q3, q4⟩ := n_F.last hs h11
          have := nI_inj (by omega) (by omega) (q4.symm.trans z)
          omega
        rw [hS 6 j (by omega) (by omega) (fun e => h5 (by omega)) (fun z => hjn z.2)]
        exact n_F.link hs (by omega) (fun f k q1 q2 q3 q4 => hS f k (by omega) q2 q3 q4) (fun k q1 q2 q3 => hl k (by omega) q2 q3) h11
section LNK
variable {S : aN} {q : Bool} {lo mid j e j2 : Nat} {c : aB} {hh : Int32}
/-- what linking leaves as it was -/
theorem n_lnk_o (h : n_T S q lo mid j e c) (hm : mid ≤ 400) {f k : Nat} (h1 : k ≠ j) (h2 : ¬ (lo ≤ k ∧ k < mid)) (h3 : k = j2 → f ≠ 7) : n_lnk S j j2 hh f k = S f k := by
  unfold n_lnk
  rw [am_un (fun z => h1 z.2), am_un (fun z => h1 z.2), am_un (fun z => h3 z.2 z.1), am_un (fun z => h1 z.2)]
  by_cases c1 : S 3 j = 0
  · rw [if_pos c1, am_un (fun z => h1 z.2)]
  · rw [if_neg c1]
    have hc : c ≠ b_0 := fun z => c1 (by rw [h.1.2.2.1, z]; rfl)
    obtain ⟨k0, q1, q2, q3, q4⟩ := n_F.last hc h.2
    rw [q4, nI_clamp (by omega), am_un (fun z => h2 (by omega))]
theorem b_len_lt {S : aN} {q : Bool} : ∀ {F : aB} {lo hi i : Nat} {x l xe : Int32}, lo ≤ hi → n_F S q F lo hi x i l xe → lo + b_len F ≤ hi
  | .leaf _, _, _, _, _, _, _, h, _ => h
  | .branch e c s, lo, hi, i, x, l, xe, _, h => by
    obtain ⟨j, a, b, h1, h2, h3, h4, h5, h6, h7, h8, h9, h10, h11⟩ := h
    have := b_len_lt h4 h11
    simp only [b_len]
    omega
/-- linked: the parts so far, and j2 behind them -/
theorem n_lnk_T (h : n_T S q lo mid j e c) (hlm : lo ≤ mid) (hm : mid ≤ 400) (hj : j2 ≠ j) (hj2 : ¬ (lo ≤ j2 ∧ j2 < mid)) :
    n_F (n_lnk S j j2 hh) q c lo mid (n_lnk S j j2 hh 4 j) j (S 5 j) (nI j2) ∧ n_lnk S j j2 hh 0 j = S 0 j ∧ n_lnk S j j2 hh 1 j = S 1 j ∧ n_lnk S j j2 hh 2 j = hh ∧ n_lnk S j j2 hh 3 j = nI (b_len c + 1) ∧ n_lnk S j j2 hh 5 j = nI j2 ∧ n_lnk S j j2 hh 6 j2 = S 6 j2 ∧ n_lnk S j j2 hh 7 j2 = nI j ∧ n_lnk S j j2 hh 7 j = S 7 j ∧ n_lnk S j j2 hh 6 j = S 6 j := by
  have hl := b_len_lt hlm h.2
  have h3 : S 3 j + 1 = nI (b_len c + 1) := by rw [h.1.2.2.1, nI_1]
  by_cases c1 : c = b_0
  · subst c1
    have e3 : S 3 j = 0 := h.1.2.2.1
    have hj' : ¬ j = j2 := fun z => hj z.symm
    simp [n_lnk, am_u, e3, hj, hj', n_F, b_len]
    decide
  · have e3 : S 3 j ≠ 0 := by
      rw [h.1.2.2.1]
      intro z
      have := nI_inj (a := b_len c) (b := 0) (by omega) (by omega) z
      exact c1 (b_len0 this)
    obtain ⟨k0, q1, q2, q3, q4⟩ := n_F.last c1 h.2
    have hk0 : ¬ k0 = j2 := fun z => hj2 (by omega)
    have hj' : ¬ j = j2 := fun z => hj z.symm
    have hk0j : ¬ j = k0 := fun z => q3 z.symm
    have hj2k : ¬ j2 = k0 := fun z => hk0 z.symm
    have e5 : (S 5 j).toNatClampNeg = k0 := by rw [q4, nI_clamp (by omega)]
    have e4 : n_lnk S j j2 hh 4 j = S 4 j := by simp [n_lnk, am_u, e3]
    refine ⟨?_, ?_⟩
    · rw [e4]
      refine n_F.link c1 hm (fun f k r1 r2 r3 r4 => ?_) (fun k r1 r2 r3 => ?_) h.2
      · have hkj : ¬ k = j2 := fun z => hj2 (by omega)
        have : ¬ (f = 6 ∧ k = k0) := fun z => r4 ⟨z.1, by rw [q4, z.2]⟩
        unfold n_lnk
        rw [am_un (fun z => r3 z.2), am_un (fun z => r3 z.2), am_un (fun z => hkj z.2), am_un (fun z => r3 z.2), if_neg e3, e5, am_un this]
      · have : k = k0 := nI_inj (by omega) (by omega) (r3.symm.trans q4)
        subst this
        unfold n_lnk
        rw [am_un (fun z => q3 z.2), am_un (fun z => q3 z.2), am_un (fun z => hk0 z.2), am_un (fun z => q3 z.2), if_neg e3, e5, am_uk]
    · rw [← h3]
      simp [n_lnk, am_u, e3, e5, hj, hj', hk0j, hj2k]
theorem b_ht_lt {S : aN} {q : Bool} : ∀ {F : aB} {lo hi i : Nat} {x l xe : Int32}, lo ≤ hi → n_F S q F lo hi x i l xe → lo + b_ht F ≤ hi ∧ (lo ≤ i → i < hi → lo + b_ht F + 1 ≤ hi)
  | .leaf _, _, _, _, _, _, _, h, _ => ⟨h, fun h1 h2 => by simp only [b_ht]; omega⟩
  | .branch e c s, lo, hi, i, x, l, xe, _, h => by
    obtain ⟨j, a, b, h1, h2, h3, h4, h5, h6, h7, h8, h9, h10, h11⟩ := h
    have k1 := b_ht_lt h4 h11
    have k2 := (b_ht_lt (by omega) h10).2 h2 h3
    simp only [b_ht]
    refine ⟨by omega, fun h12 h13 => ?_⟩
    by_cases c1 : b ≤ i
    · have := k1.2 c1 h13
      omega
    · omega
theorem n_app_T {a2 b2 e2 : Nat} {c2 : aB} (h : n_T S q lo mid j e c) (h2 : n_T S q a2 b2 j2 e2 c2) (hlm : lo ≤ mid) (hma : mid ≤ a2) (haj : a2 ≤ j2) (hjb : j2 < b2) (hb : b2 ≤ 400) (hj : ¬ (a2 ≤ j ∧ j < b2)) (h6 : S 6 j2 = -1) (he : 11 ≤ e % 32 → hh = nI (b_ht (b_add c e2 c2) + 1)) : n_T (n_lnk S j j2 hh) q lo b2 j e (b_add c e2 c2) := by
  have hne : j2 ≠ j := fun z => hj (by omega)
  have hnl : ¬ (lo ≤ j2 ∧ j2 < mid) := by omega
  obtain ⟨k1, k2, k3, k4, k5, k6, k7, k8, -, -⟩ := n_lnk_T h hlm (by omega) hne hnl
  have fr : ∀ f k, a2 ≤ k → k < b2 → (k = j2 → f ≠ 7) → n_lnk S j j2 hh f k = S f k := fun f k r1 r2 r3 => n_lnk_o h (by omega) (by omega) (by omega) r3
  have h2' : n_T (n_lnk S j j2 hh) q a2 b2 j2 e2 c2 := by
    refine ⟨?_, ?_⟩
    · unfold n_N
      rw [fr 0 j2 haj hjb (fun _ => by decide), fr 1 j2 haj hjb (fun _ => by decide), fr 2 j2 haj hjb (fun _ => by decide), fr 3 j2 haj hjb (fun _ => by decide)]
      exact h2.1
    · rw [fr 4 j2 haj hjb (fun _ => by decide), fr 5 j2 haj hjb (fun _ => by decide)]
      exact n_F.frame (fun f k r1 r2 r3 => fr f k r1 r2 (fun z => absurd z r3)) h2.2
  refine ⟨⟨by rw [k2]; exact h.1.1, by rw [k3]; exact h.1.2.1, by rw [k5, b_len_add], fun h11 => by rw [k4]; exact he h11⟩, ?_⟩
  · rw [k6]
    exact n_F.snoc k1 hlm hma haj hjb hj k8 (by rw [k7]; exact h6) h2'
/-- the two ways in which a height is reckoned -/
theorem n_ht_a {a2 b2 e2 : Nat} {c2 : aB} (h : n_T S q lo mid j e c) (h2 : n_T S q a2 b2 j2 e2 c2) (hlm : lo ≤ mid) (hm : mid ≤ 400) (hab : a2 ≤ b2) (hb : b2 ≤ 400) (he : 11 ≤ e % 32) (he2 : 11 ≤ e2 % 32) : (if S 2 j < S 2 j2 + 1 then S 2 j2 + 1 else S 2 j) = nI (b_ht (b_add c e2 c2) + 1) ∧ (if S 2 j2 < S 2 j then S 2 j else S 2 j2 + 1) = nI (b_ht (b_add c e2 c2) + 1) := by
  have t1 := (b_ht_lt hlm h.2).1
  have t2 := (b_ht_lt hab h2.2).1
  rw [h.1.2.2.2 he, h2.1.2.2.2 he2, nI_1, b_ht_add]
  by_cases c1 : b_ht c + 1 < b_ht c2 + 1 + 1
  · rw [if_pos (nI_lt c1 (by omega)), if_neg (nI_nlt (by omega) (by omega))]
    refine ⟨?_, ?_⟩ <;> (congr 1; omega)
  · rw [if_neg (nI_nlt (by omega) (by omega)), if_pos (nI_lt (by omega) (by omega))]
    refine ⟨?_, ?_⟩ <;> (congr 1; omega)
end LNK
end
section
/-! THE GRAMMAR, said purely: mk the marks, pl the places of tokens -/
/-- a node's code and parts, and the place behind it -/
abbrev aG : Type := Except aF (Nat × aB × Nat)
def d_sb (m : Int32) : Nat := if m = 20 then 1 else if m = 19 then 2 else if m = 60 ∨ m = 62 ∨ m = 161 ∨ m = 188 ∨ m = 189 ∨ m = 190 then 4 else if m = 43 ∨ m = 45 then 5 else if m = 42 ∨ m = 47 ∨ m = 37 then 6 else 0
def d_kb (s : Nat) : Nat := if s = 1 then 11 else if s = 2 then 12 else if s = 4 then 14 else 15
section GRM
variable (mk : Nat → Int32) (pl : Nat → Nat)
def d_hc (e : Nat) (c : aB) (p : Nat) : aG := if 10 < b_ht c + 1 then .error (3, pl (e / 32)) else .ok (e, c, p)
section LEV
variable (full : Bool) (up : Nat → Nat → aG)
/-- the operators of a strength behind a left side -/
def d_bl (s : Nat) : Nat → Nat → aB → Nat → aG
  | 0, e, c, p => .ok (e, c, p)
  | i + 1, e, c, p => if d_sb (mk p) = s then (if full = true then .error (3, pl p) else match up (s + 1) (p + 1) with
    | .error x => .error x
    | .ok (e2, c2, p2) => match d_hc pl (d_kb s + 32 * p) (.branch e c (.branch e2 c2 b_0)) p2 with
      | .error x => .error x
      | .ok (e3, c3, p3) => d_bl s i e3 c3 p3) else .ok (e, c, p)
/-- further expressions, then what closes them -/
def d_el (cl : Int32) : Nat → aB → Nat → Except aF (aB × Nat)
  | 0, c, p => if mk p = cl then .ok (c, p + 1) else .error (9, pl p)
  | i + 1, c, p => if mk p = 44 then (match up 1 (p + 1) with
    | .error x => .error x
    | .ok (e2, c2, p2) => d_el cl i (b_add c e2 c2) p2) else if mk p = cl then .ok (c, p + 1) else .error (9, pl p)
def d_es (cl : Int32) (c : aB) (p : Nat) : Except aF (aB × Nat) := if mk p = cl then .ok (c, p + 1) else match up 1 p with
  | .error x => .error x
  | .ok (e2, c2, p2) => d_el mk pl up cl 120 (b_add c e2 c2) p2
def d_at (p : Nat) : aG :=
  if mk p = 1 then .ok (20 + 32 * p, b_0, p + 1)
  else if mk p = 3 then .ok (21 + 32 * p, b_0, p + 1)
  else if mk p = 4 then .ok (22 + 32 * p, b_0, p + 1)
  else if mk p = 40 then (if full = true then .error (3, pl p) else match up 1 (p + 1) with
    | .error x => .error x
    | .ok (e, c, p2) => if mk p2 = 41 then .ok (e, c, p2 + 1) else .error (9, pl p2))
  else if mk p = 91 then (if full = true then .error (3, pl p) else match d_es mk pl up 93 b_0 (p + 1) with
    | .error x => .error x
    | .ok (c, p2) => d_hc pl (23 + 32 * p) c p2)
  else .error (9, pl p)
/-- one member, call or index -/
def d_p1 (e : Nat) (c : aB) (p : Nat) : aG :=
  if mk p = 46 then (if mk (p + 1) = 1 then d_hc pl (19 + 32 * (p + 1)) (.branch e c b_0) (p + 2) else .error (9, pl (p + 1)))
  else if mk p = 40 then (if full = true then .error (3, pl p) else match d_es mk pl up 41 (.branch e c b_0) (p + 1) with
    | .error x => .error x
    | .ok (c2, p2) => d_hc pl (17 + 32 * p) c2 p2)
  else (if full = true then .error (3, pl p) else match up 1 (p + 1) with
    | .error x => .error x
    | .ok (e2, c2, p2) => if mk p2 = 93 then d_hc pl (18 + 32 * p) (.branch e c (.branch e2 c2 b_0)) (p2 + 1) else .error (9, pl p2))
def d_pl : Nat → Nat → aB → Nat → aG
  | 0, e, c, p => .ok (e, c, p)
  | i + 1, e, c, p => if mk p = 40 ∨ mk p = 91 ∨ mk p = 46 then (match d_p1 mk pl full up e c p with
    | .error x => .error x
    | .ok (e2, c2, p2) => d_pl i e2 c2 p2) else .ok (e, c, p)
/-- a sign m before an operand of the strength s makes a node of the kind k -/
def d_pr (m : Int32) (k s : Nat) (x : aG) (p : Nat) : aG := if mk p = m then (if full = true then .error (3, pl p) else match up s (p + 1) with
  | .error x => .error x
  | .ok (e, c, p2) => d_hc pl (k + 32 * p) (.branch e c b_0) p2) else x
/-- the rule for the strength 8 - j -/
def d_t : Nat → Nat → aG
  | 0, p => (match d_at mk pl full up p with
    | .error x => .error x
    | .ok (e, c, p2) => d_pl mk pl full up 120 e c p2)
  | j + 1, p => if j = 0 then d_pr mk pl full up 45 16 7 (d_t j p) p
    else if j = 4 then d_pr mk pl full up 21 13 3 (d_t j p) p
    else (match d_t j p with
      | .error x => .error x
      | .ok (e, c, p2) => d_bl mk pl full up (7 - j) (if j = 3 then 1 else 120) e c p2)
end LEV
/-- an expression of strength s where 12 - r are begun -/
def d_ex : Nat → Nat → Nat → aG
  | 0, s, p => d_t mk pl true (fun _ _ => .error (0, 0)) (8 - s) p
  | r + 1, s, p => d_t mk pl false (d_ex r) (8 - s) p
def d_sm (p : Nat) : aG :=
  if mk p = 17 then .ok (1 + 32 * p, b_0, p + 1)
  else if mk p = 18 then .ok (2 + 32 * p, b_0, p + 1)
  else if mk p = 16 then (if mk (p + 1) = 6 ∨ mk (p + 1) = 59 then .ok (3 + 32 * p, b_0, p + 1) else match d_ex mk pl 12 1 (p + 1) with
    | .error x => .error x
    | .ok (e, c, p2) => .ok (3 + 32 * p, .branch e c b_0, p2))
  else if mk p = 1 ∧ mk (p + 1) = 61 then (match d_ex mk pl 12 1 (p + 2) with
    | .error x => .error x
    | .ok (e, c, p2) => .ok (4 + 32 * p, .branch e c b_0, p2))
  else match d_ex mk pl 12 1 p with
    | .error x => .error x
    | .ok (e, c, p2) => .ok (5 + 32 * (e / 32), .branch e c b_0, p2)
/-- a line's further statements -/
def d_ll : Nat → aB → Nat → Except aF (aB × Nat)
  | 0, c, p => if mk p = 6 then .ok (c, p + 1) else .error (9, pl p)
  | i + 1, c, p => if mk p = 59 then (if mk (p + 1) = 6 then .ok (c, p + 2) else match d_sm mk pl (p + 1) with
    | .error x => .error x
    | .ok (e2, c2, p2) => d_ll i (b_add c e2 c2) p2) else if mk p = 6 then .ok (c, p + 1) else .error (9, pl p)
def d_li (c : aB) (p : Nat) : Except aF (aB × Nat) := match d_sm mk pl p with
  | .error x => .error x
  | .ok (e2, c2, p2) => d_ll mk pl 120 (b_add c e2 c2) p2
/-- a block's token: that of its first statement -/
def d_bt (c : aB) (t : Nat) : Nat := match c with
  | .leaf _ => t
  | .branch e _ _ => e / 32
section BLK
variable (st : Nat → aG)
def d_bk (p : Nat) : aG := if mk p = 6 then (if mk (p + 1) = 7 then st (p + 2) else .error (9, pl (p + 1))) else match d_li mk pl b_0 p with
  | .error x => .error x
  | .ok (c, p2) => .ok (9 + 32 * d_bt c p, c, p2)
def d_cd (k p : Nat) : aG := match d_ex mk pl 12 1 (p + 1) with
  | .error x => .error x
  | .ok (e, c, p2) => if mk p2 = 58 then (match d_bk mk pl st (p2 + 1) with
    | .error x => .error x
    | .ok (e3, c3, p3) => .ok (k + 32 * p, .branch e c (.branch e3 c3 b_0), p3)) else .error (9, pl p2)
/-- further parameters, then what closes them -/
def d_pm : Nat → aB → Nat → Except aF (aB × Nat)
  | 0, c, p => if mk p = 41 then .ok (c, p + 1) else .error (9, pl p)
  | i + 1, c, p => if mk p = 44 then (if mk (p + 1) = 1 then d_pm i (b_add c (24 + 32 * (p + 1)) b_0) (p + 2) else .error (9, pl (p + 1))) else if mk p = 41 then .ok (c, p + 1) else .error (9, pl p)
def d_ps (p : Nat) : Except aF (aB × Nat) := if mk p = 41 then .ok (b_0, p + 1) else if mk p = 1 then d_pm mk pl 120 (.branch (24 + 32 * p) b_0 b_0) (p + 1) else .error (9, pl p)
def d_df (p : Nat) : aG :=
  if mk (p + 1) = 1 then (if mk (p + 2) = 40 then (match d_ps mk pl (p + 3) with
    | .error x => .error x
    | .ok (c, p2) => if mk p2 = 58 then (match d_bk mk pl st (p2 + 1) with
      | .error x => .error x
      | .ok (e3, c3, p3) => .ok (8 + 32 * (p + 1), b_add c e3 c3, p3)) else .error (9, pl p2)) else .error (9, pl (p + 2))) else .error (9, pl (p + 1))
/-- what may stand behind a branch: i of them -/
def d_if : Nat → Nat → aG
  | i, p => match d_cd mk pl st 6 p with
    | .error x => .error x
    | .ok (e, c, p2) => (match i with
      | 0 => if mk p2 = 13 then (if mk (p2 + 1) = 58 then (match d_bk mk pl st (p2 + 2) with
        | .error x => .error x
        | .ok (e3, c3, p3) => .ok (e, b_add c e3 c3, p3)) else .error (9, pl (p2 + 1))) else .ok (e, c, p2)
      | i + 1 => if mk p2 = 12 then (match d_if i p2 with
        | .error x => .error x
        | .ok (e3, c3, p3) => .ok (e, b_add c e3 c3, p3))
        else if mk p2 = 13 then (if mk (p2 + 1) = 58 then (match d_bk mk pl st (p2 + 2) with
        | .error x => .error x
        | .ok (e3, c3, p3) => .ok (e, b_add c e3 c3, p3)) else .error (9, pl (p2 + 1))) else .ok (e, c, p2))
/-- one statement, or a line of them, behind those of c -/
def d_s1 (c : aB) (p : Nat) : Except aF (aB × Nat) :=
  if mk p = 11 then (match d_if mk pl st 120 p with
    | .error x => .error x
    | .ok (e2, c2, p2) => .ok (b_add c e2 c2, p2))
  else if mk p = 14 then (match d_cd mk pl st 7 p with
    | .error x => .error x
    | .ok (e2, c2, p2) => .ok (b_add c e2 c2, p2))
  else if mk p = 15 then (match d_df mk pl st p with
    | .error x => .error x
    | .ok (e2, c2, p2) => .ok (b_add c e2 c2, p2))
  else d_li mk pl c p
def d_sl (cl : Int32) : Nat → aB → Nat → Except aF (aB × Nat)
  | 0, c, p => if mk p = cl then .ok (c, p + 1) else .error (9, pl p)
  | i + 1, c, p => if mk p = cl then .ok (c, p + 1) else match d_s1 mk pl st c p with
    | .error x => .error x
    | .ok (c2, p2) => d_sl cl i c2 p2
end BLK
/-- a block where 9 - r lie around -/
def d_st : Nat → Int32 → Nat → aG
  | 0, _, p => .error (3, pl p)
  | r + 1, cl, p => match d_sl mk pl (d_st r 8) cl 120 b_0 p with
    | .error x => .error x
    | .ok (c, p2) => .ok (9 + 32 * d_bt c p, c, p2)
end GRM
end
section
/-! THE GRAMMAR: what a good answer is like -/
def b_sz : aB → Nat
  | .leaf _ => 0
  | .branch _ c s => b_sz c + 1 + b_sz s
theorem b_sz_add : ∀ {s : aB} {e : Nat} {c : aB}, b_sz (b_add s e c) = b_sz s + b_sz c + 1
  | .leaf _, _, _ => by simp [b_add, b_sz]
  | .branch _ _ s, _, _ => by simp only [b_add, b_sz, b_sz_add (s := s)]; omega
section SND
variable {mk : Nat → Int32} {pl : Nat → Nat} {T : Nat}
/-- a sound node of an expression -/
def b_sh (mk : Nat → Int32) (e : Nat) (c : aB) : Prop :=
  ((e % 32 = 11 ∨ e % 32 = 12 ∨ e % 32 = 14 ∨ e % 32 = 15) ∧ d_kb (d_sb (mk (e / 32))) = e % 32 ∧ 0 < d_sb (mk (e / 32)) ∧ b_len c = 2) ∨ (e % 32 = 13 ∧ mk (e / 32) = 21 ∧ b_len c = 1) ∨ (e % 32 = 16 ∧ mk (e / 32) = 45 ∧ b_len c = 1) ∨ (e % 32 = 17 ∧ 1 ≤ b_len c) ∨ (e % 32 = 18 ∧ b_len c = 2) ∨ (e % 32 = 19 ∧ b_len c = 1) ∨ ((e % 32 = 20 ∨ e % 32 = 21 ∨ e % 32 = 22) ∧ b_len c = 0) ∨ e % 32 = 23
def b_ok (mk : Nat → Int32) (T : Nat) : aB → Prop
  | .leaf _ => True
  | .branch e c s => b_sh mk e c ∧ e / 32 < T ∧ b_ok mk T c ∧ b_ok mk T s
theorem b_ok_add : ∀ {s : aB} {e : Nat} {c : aB}, b_ok mk T s → b_sh mk e c → e / 32 < T → b_ok mk T c → b_ok mk T (b_add s e c)
  | .leaf _, _, _, _, h1, h2, h3 => ⟨h1, h2, h3, trivial⟩
  | .branch _ _ s, _, _, h, h1, h2, h3 => ⟨h.1, h.2.1, h.2.2.1, b_ok_add h.2.2.2 h1 h2 h3⟩
theorem b_sh.ge {e : Nat} {c : aB} (h : b_sh mk e c) : 11 ≤ e % 32 := by
  unfold b_sh at h
  omega
/-- only what is neither the end nor nothing stands before the end -/
def d_W (mk : Nat → Int32) (T : Nat) : Prop := ∀ p, mk p ≠ 9 → mk p ≠ -1 → p + 1 < T
/-- a token within a line -/
abbrev d_m (m : Int32) : Prop := m ≠ 9 ∧ m ≠ -1 ∧ m ≠ 7 ∧ m ≠ 8
theorem d_W.lt (h : d_W mk T) {p : Nat} {m : Int32} (hp : mk p = m) (hm : d_m m) : p + 1 < T := h p (by rw [hp]; exact hm.1) (by rw [hp]; exact hm.2.1)
/-- from p to p' there are only such tokens -/
def d_G (mk : Nat → Int32) (T p p' : Nat) : Prop := p' < T ∧ ∀ k, p ≤ k → k < p' → mk k ≠ 7 ∧ mk k ≠ 8
theorem d_G.refl {p : Nat} (h : p < T) : d_G mk T p p := ⟨h, fun k h1 h2 => by omega⟩
theorem d_G.trans {p p1 p2 : Nat} (h : d_G mk T p p1) (h2 : d_G mk T p1 p2) : d_G mk T p p2 := ⟨h2.1, fun k k1 k2 => by
  by_cases c1 : k < p1
  · exact h.2 k k1 c1
  · exact h2.2 k (by omega) k2⟩
theorem d_G.one {p : Nat} {m : Int32} (hW : d_W mk T) (hp : mk p = m) (hm : d_m m) : d_G mk T p (p + 1) := ⟨hW.lt hp hm, fun k k1 k2 => by
  have : k = p := by omega
  subst this
  rw [hp]
  exact hm.2.2⟩
def d_Q (mk : Nat → Int32) (T p e : Nat) (c : aB) (p' : Nat) : Prop := d_G mk T p p' ∧ b_sz c + 1 + p ≤ p' ∧ b_sh mk e c ∧ e / 32 < T ∧ b_ok mk T c ∧ b_ht c + 1 ≤ 10
/-- a forest of expressions so far -/
def d_Qs (mk : Nat → Int32) (T p : Nat) (c : aB) (p' : Nat) : Prop := d_G mk T p p' ∧ b_sz c + p ≤ p' ∧ b_ok mk T c
theorem d_sb_ne {m : Int32} {s : Nat} (h : d_sb m = s) (hs : 0 < s) : d_m m := by
  refine ⟨?_, ?_, ?_, ?_⟩ <;> (intro e; subst e; revert h; simp [d_sb]; omega)
theorem d_hc_ok {e p e' p' : Nat} {c c' : aB} (h : d_hc pl e c p = .ok (e', c', p')) : e' = e ∧ c' = c ∧ p' = p ∧ b_ht c + 1 ≤ 10 := by
  unfold d_hc at h
  by_cases c1 : 10 < b_ht c + 1
  · rw [if_pos c1] at h; cases h
  · rw [if_neg c1] at h; cases h; exact ⟨rfl, rfl, rfl, by omega⟩
theorem d_Qs.add {p0 p e p' : Nat} {c c2 : aB} (h : d_Qs mk T p0 c p) (h2 : d_Q mk T p e c2 p') : d_Qs mk T p0 (b_add c e c2) p' := by
  obtain ⟨a1, a2, a3⟩ := h
  obtain ⟨b1, b2, b3, b4, b5, b6⟩ := h2
  exact ⟨a1.trans b1, by rw [b_sz_add]; omega, b_ok_add a3 b3 b4 b5⟩
theorem d_Q.one {p e p' : Nat} {c : aB} (h : d_Q mk T p e c p') : d_Qs mk T p (.branch e c b_0) p' := ⟨h.1, by have := h.2.1; simp only [b_sz]; omega, h.2.2.1, h.2.2.2.1, h.2.2.2.2.1, trivial⟩
theorem d_Qs.go {p p1 : Nat} {c : aB} {m : Int32} (h : d_Qs mk T p c p1) (hW : d_W mk T) (hp : mk p1 = m) (hm : d_m m) : d_Qs mk T p c (p1 + 1) := ⟨h.1.trans (.one hW hp hm), by have := h.2.1; omega, h.2.2⟩
theorem d_Qs.nd {p p1 e : Nat} {c : aB} (h : d_Qs mk T p c p1) (h1 : b_sz c + 1 + p ≤ p1) (h2 : b_sh mk e c) (h3 : e / 32 < T) (h4 : b_ht c + 1 ≤ 10) : d_Q mk T p e c p1 := ⟨h.1, h1, h2, h3, h.2.2, h4⟩
section LVS
variable {full : Bool} {up : Nat → Nat → aG}
theorem d_bl_Q (hW : d_W mk T) (hu : ∀ s p e c p', 1 ≤ s → up s p = .ok (e, c, p') → d_Q mk T p e c p') {s p0 : Nat} (hs : 0 < s) (hs4 : s = 1 ∨ s = 2 ∨ s = 4 ∨ s = 5 ∨ s = 6) : ∀ (i e : Nat) (c : aB) (p : Nat) {e' : Nat} {c' : aB} {p' : Nat}, d_Q mk T p0 e c p → d_bl mk pl full up s i e c p = .ok (e', c', p') → d_Q mk T p0 e' c' p'
  | 0, e, c, p, e', c', p', hq, h => by cases h; exact hq
  | i + 1, e, c, p, e', c', p', hq, h => by
    unfold d_bl at h
    split at h
    · next c1 =>
      split at h
      · cases h
      · split at h
        · cases h
        · next e2 c2 p2 hup =>
          split at h
          · cases h
          · next e3 c3 p3 hh =>
            obtain ⟨rfl, rfl, rfl, k⟩ := d_hc_ok hh
            have q2 := hu _ _ _ _ _ (by omega) hup
            have hlt := d_G.one hW rfl (d_sb_ne c1 hs)
            have hlt1 := hlt.1
            obtain ⟨a1, a2, a3, a4, a5, a6⟩ := hq
            obtain ⟨b1, b2, b3, b4, b5, b6⟩ := q2
            have m1 : (d_kb s + 32 * p) % 32 = d_kb s := by rcases hs4 with r | r | r | r | r <;> (subst r; simp [d_kb]; try omega)
            have m2 : (d_kb s + 32 * p) / 32 = p := by rcases hs4 with r | r | r | r | r <;> (subst r; simp [d_kb]; try omega)
            have hok : b_ok mk T (.branch e c (.branch e2 c2 b_0)) := ⟨a3, a4, a5, b3, b4, b5, trivial⟩
            refine d_bl_Q hW hu hs hs4 i _ (.branch e c (.branch e2 c2 b_0)) _ ⟨(a1.trans hlt).trans b1, ?_, ?_, by omega, hok, k⟩ h
            · simp only [b_sz]; omega
            · refine Or.inl ⟨?_, ?_, ?_, rfl⟩
              · rw [m1]; rcases hs4 with r | r | r | r | r <;> (subst r; decide)
              · rw [m2, c1, m1]
              · rw [m2, c1]; exact hs
    · cases h; exact hq
theorem d_el_Q (hW : d_W mk T) (hu : ∀ s p e c p', 1 ≤ s → up s p = .ok (e, c, p') → d_Q mk T p e c p') {cl : Int32} (h9 : d_m cl) {p0 : Nat} : ∀ (i : Nat) (c : aB) (p : Nat) {c' : aB} {p' : Nat}, d_Qs mk T p0 c p → d_el mk pl up cl i c p = .ok (c', p') → d_Qs mk T p0 c' p' ∧ b_len c ≤ b_len c' ∧ b_sz c' + 1 + p0 ≤ p'
  | 0, c, p, c', p', hq, h => by
    unfold d_el at h
    split at h
    · next c1 => cases h; exact ⟨hq.go hW c1 h9, Nat.le_refl _, by have := hq.2.1; omega⟩
    · cases h
  | i + 1, c, p, c', p', hq, h => by
    unfold d_el at h
    split at h
    · next c1 =>
      split at h
      · cases h
      · next e2 c2 p2 hup =>
        have q2 := hu _ _ _ _ _ (by omega) hup
        have := d_el_Q hW hu h9 i _ _ ((hq.go hW c1 (by decide)).add q2) h
        rw [b_len_add] at this
        exact ⟨this.1, by omega, this.2.2⟩
    · split at h
      · next c1 => cases h; exact ⟨hq.go hW c1 h9, Nat.le_refl _, by have := hq.2.1; omega⟩
      · cases h
theorem d_es_Q (hW : d_W mk T) (hu : ∀ s p e c p', 1 ≤ s → up s p = .ok (e, c, p') → d_Q mk T p e c p') {cl : Int32} (h9 : d_m cl) {p0 : Nat} {c : aB} {p : Nat} {c' : aB} {p' : Nat} (hq : d_Qs mk T p0 c p) (h : d_es mk pl up cl c p = .ok (c', p')) : d_Qs mk T p0 c' p' ∧ b_len c ≤ b_len c' ∧ b_sz c' + 1 + p0 ≤ p' := by
  unfold d_es at h
  split at h
  · next c1 => cases h; exact ⟨hq.go hW c1 h9, Nat.le_refl _, by have := hq.2.1; omega⟩
  · split at h
    · cases h
    · next e2 c2 p2 hup =>
      have := d_el_Q hW hu h9 _ _ _ (hq.add (hu _ _ _ _ _ (by omega) hup)) h
      rw [b_len_add] at this
      exact ⟨this.1, by omega, this.2.2⟩
theorem d_at_Q (hW : d_W mk T) (hu : ∀ s p e c p', 1 ≤ s → up s p = .ok (e, c, p') → d_Q mk T p e c p') {p e p' : Nat} {c : aB} (h : d_at mk pl full up p = .ok (e, c, p')) : d_Q mk T p e c p' := by
  have lf : ∀ k, k = 20 ∨ k = 21 ∨ k = 22 → d_G mk T p (p + 1) → d_Q mk T p (k + 32 * p) b_0 (p + 1) := fun k hk hT => by
    have hT' := hT.1
    refine ⟨hT, by simp only [b_sz]; omega, ?_, by omega, trivial, by simp [b_ht]⟩
    exact Or.inr (Or.inr (Or.inr (Or.inr (Or.inr (Or.inr (Or.inl ⟨by omega, rfl⟩))))))
  unfold d_at at h
  split at h
  · next c1 => cases h; exact lf 20 (by decide) (.one hW c1 (by decide))
  split at h
  · next c1 => cases h; exact lf 21 (by decide) (.one hW c1 (by decide))
  split at h
  · next c1 => cases h; exact lf 22 (by decide) (.one hW c1 (by decide))
  split at h
  · next c1 =>
    split at h
    · cases h
    · split at h
      · cases h
      · next e2 c2 p2 hup =>
        split at h
        · next c2' =>
          cases h
          obtain ⟨b1, b2, b3, b4, b5, b6⟩ := hu _ _ _ _ _ (by omega) hup
          exact ⟨((d_G.one hW c1 (by decide)).trans b1).trans (.one hW c2' (by decide)), by omega, b3, b4, b5, b6⟩
        · cases h
  split at h
  · next c1 =>
    have hT := hW.lt c1 (by decide)
    split at h
    · cases h
    · split at h
      · cases h
      · next c2 p2 hes =>
        obtain ⟨rfl, rfl, rfl, k⟩ := d_hc_ok h
        have q : d_Qs mk T (p + 1) b_0 (p + 1) := ⟨.refl hT, by simp [b_sz], trivial⟩
        obtain ⟨q1, q2, q3⟩ := d_es_Q hW hu (by decide) q hes
        exact ⟨(d_G.one hW c1 (by decide)).trans q1.1, by omega, Or.inr (Or.inr (Or.inr (Or.inr (Or.inr (Or.inr (Or.inr (by omega))))))), by omega, q1.2.2, k⟩
  · cases h
theorem d_p1_Q (hW : d_W mk T) (hu : ∀ s p e c p', 1 ≤ s → up s p = .ok (e, c, p') → d_Q mk T p e c p') {p0 p e p' e' : Nat} {c c' : aB} (hb : mk p = 40 ∨ mk p = 91 ∨ mk p = 46) (hq : d_Q mk T p0 e c p) (h : d_p1 mk pl full up e c p = .ok (e', c', p')) : d_Q mk T p0 e' c' p' := by
  unfold d_p1 at h
  have hs := hq.2.1
  split at h
  · next c1 =>
    split at h
    · next c2 =>
      have hT := hW.lt c2 (by decide)
      obtain ⟨rfl, rfl, rfl, k⟩ := d_hc_ok h
      exact ((hq.one.go hW c1 (by decide)).go hW c2 (by decide)).nd (by simp only [b_sz]; omega) (Or.inr (Or.inr (Or.inr (Or.inr (Or.inr (Or.inl ⟨by omega, rfl⟩)))))) (by omega) k
    · cases h
  split at h
  · next c1 =>
    have hT := hW.lt c1 (by decide)
    split at h
    · cases h
    · split at h
      · cases h
      · next c2 p2 hes =>
        obtain ⟨rfl, rfl, rfl, k⟩ := d_hc_ok h
        obtain ⟨q1, q2, q3⟩ := d_es_Q hW hu (by decide) (hq.one.go hW c1 (by decide)) hes
        exact q1.nd q3 (Or.inr (Or.inr (Or.inr (Or.inl ⟨by omega, by simpa [b_len] using q2⟩)))) (by omega) k
  · next c0 c1 =>
    have c91 : mk p = 91 := by 
      rcases hb with r | r | r
      · exact absurd r c1
      · exact r
      · exact absurd r c0
    have hT := hW.lt c91 (by decide)
    split at h
    · cases h
    · split at h
      · cases h
      · next e2 c2 p2 hup =>
        split at h
        · next c3 =>
          obtain ⟨rfl, rfl, rfl, k⟩ := d_hc_ok h
          have hT2 := hW.lt c3 (by decide)
          have q2 := hu _ _ _ _ _ (by omega) hup
          have q3 := (hq.one.go hW c91 (by decide)).add q2
          have := q2.2.1
          exact (q3.go hW c3 (by decide)).nd (by simp only [b_sz, b_add]; omega) (Or.inr (Or.inr (Or.inr (Or.inr (Or.inl ⟨by omega, rfl⟩))))) (by omega) k
        · cases h
theorem d_pl_Q (hW : d_W mk T) (hu : ∀ s p e c p', 1 ≤ s → up s p = .ok (e, c, p') → d_Q mk T p e c p') {p0 : Nat} : ∀ (i e : Nat) (c : aB) (p : Nat) {e' : Nat} {c' : aB} {p' : Nat}, d_Q mk T p0 e c p → d_pl mk pl full up i e c p = .ok (e', c', p') → d_Q mk T p0 e' c' p'
  | 0, e, c, p, e', c', p', hq, h => by cases h; exact hq
  | i + 1, e, c, p, e', c', p', hq, h => by
    unfold d_pl at h
    split at h
    · next c1 =>
      split at h
      · cases h
      · next e2 c2 p2 hp1 => exact d_pl_Q hW hu i _ _ _ (d_p1_Q hW hu c1 hq hp1) h
    · cases h; exact hq
theorem d_pr_Q (hW : d_W mk T) (hu : ∀ s p e c p', 1 ≤ s → up s p = .ok (e, c, p') → d_Q mk T p e c p') {m : Int32} {k s p : Nat} {x : aG} (hm : d_m m) (hk : (k = 13 ∧ m = 21) ∨ (k = 16 ∧ m = 45)) (hs : 1 ≤ s) {e' : Nat} {c' : aB} {p' : Nat} (hx : x = .ok (e', c', p') → d_Q mk T p e' c' p') (h : d_pr mk pl full up m k s x p = .ok (e', c', p')) : d_Q mk T p e' c' p' := by
  unfold d_pr at h
  split at h
  · next c1 =>
    have hT : p + 1 < T := hW.lt c1 hm
    split at h
    · cases h
    · split at h
      · cases h
      · next e c p2 hup =>
        obtain ⟨rfl, rfl, rfl, kk⟩ := d_hc_ok h
        have q2 := hu _ _ _ _ _ (by omega) hup
        have := q2.2.1
        have e2 : (k + 32 * p) / 32 = p := by omega
        refine ⟨(d_G.one hW c1 hm).trans q2.1, by simp only [b_sz]; omega, ?_, by omega, q2.one.2.2, kk⟩
        rcases hk with ⟨rfl, rfl⟩ | ⟨rfl, rfl⟩
        · exact Or.inr (Or.inl ⟨by omega, by rw [e2]; exact c1, rfl⟩)
        · exact Or.inr (Or.inr (Or.inl ⟨by omega, by rw [e2]; exact c1, rfl⟩))
  · exact hx h
theorem d_t_Q (hW : d_W mk T) (hu : ∀ s p e c p', 1 ≤ s → up s p = .ok (e, c, p') → d_Q mk T p e c p') : ∀ (j : Nat), j ≤ 7 → ∀ (p : Nat) {e' : Nat} {c' : aB} {p' : Nat}, d_t mk pl full up j p = .ok (e', c', p') → d_Q mk T p e' c' p'
  | 0, _, p, e', c', p', h => by
    unfold d_t at h
    split at h
    · cases h
    · next e c p2 hat => exact d_pl_Q hW hu _ _ _ _ (d_at_Q hW hu hat) h
  | j + 1, hj, p, e', c', p', h => by
    unfold d_t at h
    split at h
    · next cj =>
      subst cj
      exact d_pr_Q hW hu (by decide) (Or.inr ⟨rfl, rfl⟩) (by decide) (fun z => d_t_Q hW hu 0 (by omega) p z) h
    split at h
    · next cj =>
      subst cj
      exact d_pr_Q hW hu (by decide) (Or.inl ⟨rfl, rfl⟩) (by decide) (fun z => d_t_Q hW hu 4 (by omega) p z) h
    · next cj1 cj =>
      split at h
      · cases h
      · next e c p2 hd => exact d_bl_Q hW hu (by omega) (by omega) _ _ _ _ (d_t_Q hW hu j (by omega) p hd) h
end LVS
theorem d_ex_Q (hW : d_W mk T) : ∀ (r s p e : Nat) (c : aB) (p' : Nat), d_ex mk pl r s p = .ok (e, c, p') → 1 ≤ s → d_Q mk T p e c p'
  | 0, s, p, e, c, p', h, hs => d_t_Q hW (fun _ _ _ _ _ _ z => by cases z) (8 - s) (by omega) p h
  | r + 1, s, p, e, c, p', h, hs => d_t_Q hW (fun s' _ _ _ _ k z => d_ex_Q hW r s' _ _ _ _ z k) (8 - s) (by omega) p h
end SND
end
section
/-! THE GRAMMAR: what a good answer is like, for statements -/
section SNS
variable {mk : Nat → Int32} {pl : Nat → Nat} {T : Nat}
/-- blocks that are begun before p -/
def d_bal (mk : Nat → Int32) : Nat → Int
  | 0 => 0
  | p + 1 => d_bal mk p + (if mk p = 7 then 1 else if mk p = 8 then -1 else 0)
theorem d_bal_G {p : Nat} : ∀ {d : Nat}, d_G mk T p (p + d) → d_bal mk (p + d) = d_bal mk p
  | 0, _ => rfl
  | d + 1, h => by
    have h1 := h.2 (p + d) (by omega) (by omega)
    have h2 := d_bal_G (p := p) (d := d) ⟨by have := h.1; omega, fun k k1 k2 => h.2 k k1 (by omega)⟩
    show d_bal mk (p + d) + (if mk (p + d) = 7 then 1 else if mk (p + d) = 8 then -1 else 0) = _
    rw [if_neg h1.1, if_neg h1.2, h2]
    omega
theorem d_G.bal {p p' : Nat} (h : d_G mk T p p') (hp : p ≤ p') : d_bal mk p' = d_bal mk p := by
  obtain ⟨d, rfl⟩ : ∃ d, p' = p + d := ⟨p' - p, by omega⟩
  exact d_bal_G h
/-- one expression -/
def b_x (mk : Nat → Int32) (T : Nat) (c : aB) : Prop := ∃ e1 c1, c = .branch e1 c1 b_0 ∧ b_sh mk e1 c1 ∧ e1 / 32 < T ∧ b_ok mk T c1 ∧ b_ht c1 + 1 ≤ 10
/-- sound parts: 1 statements; 2 condition, block and more; 3 parameters and a block; 4 condition and block; 5 block and more; 6 block; 7 more -/
def b_sk (mk : Nat → Int32) (T : Nat) : aB → Nat → Prop
  | .leaf _, k => k = 1
  | .branch e c s, 1 => b_sk mk T s 1 ∧ e / 32 < T ∧ ((e % 32 = 1 ∧ mk (e / 32) = 17 ∧ c = b_0) ∨ (e % 32 = 2 ∧ mk (e / 32) = 18 ∧ c = b_0) ∨ (e % 32 = 3 ∧ mk (e / 32) = 16 ∧ (c = b_0 ∨ b_x mk T c)) ∨ (e % 32 = 4 ∧ b_x mk T c) ∨ (e % 32 = 5 ∧ b_x mk T c ∧ e / 32 = d_bt c 0) ∨ (e % 32 = 6 ∧ mk (e / 32) = 11 ∧ b_sk mk T c 2) ∨ (e % 32 = 7 ∧ mk (e / 32) = 14 ∧ b_sk mk T c 4) ∨ (e % 32 = 8 ∧ b_sk mk T c 3))
  | .branch e c s, 2 => b_sh mk e c ∧ e / 32 < T ∧ b_ok mk T c ∧ b_ht c + 1 ≤ 10 ∧ b_sk mk T s 5
  | .branch e c s, 3 => (e % 32 = 24 ∧ e / 32 < T ∧ c = b_0 ∧ b_sk mk T s 3) ∨ (e % 32 = 9 ∧ c ≠ b_0 ∧ e / 32 = d_bt c 0 ∧ b_sk mk T c 1 ∧ s = b_0)
  | .branch e c s, 4 => b_sh mk e c ∧ e / 32 < T ∧ b_ok mk T c ∧ b_ht c + 1 ≤ 10 ∧ b_sk mk T s 6
  | .branch e c s, 5 => e % 32 = 9 ∧ c ≠ b_0 ∧ e / 32 = d_bt c 0 ∧ b_sk mk T c 1 ∧ (s = b_0 ∨ b_sk mk T s 7)
  | .branch e c s, 6 => e % 32 = 9 ∧ c ≠ b_0 ∧ e / 32 = d_bt c 0 ∧ b_sk mk T c 1 ∧ s = b_0
  | .branch e c s, 7 => s = b_0 ∧ ((e % 32 = 6 ∧ mk (e / 32) = 12 ∧ e / 32 < T ∧ b_sk mk T c 2) ∨ (e % 32 = 9 ∧ c ≠ b_0 ∧ e / 32 = d_bt c 0 ∧ b_sk mk T c 1))
  | .branch _ _ _, _ => False
theorem b_sk_add : ∀ {s : aB} {e : Nat} {c : aB}, b_sk mk T s 1 → b_sk mk T (.branch e c b_0) 1 → b_sk mk T (b_add s e c) 1
  | .leaf _, _, _, _, h => h
  | .branch e1 c1 s, e, c, h, h2 => by
    unfold b_sk at h
    unfold b_add b_sk
    exact ⟨b_sk_add h.1 h2, h.2⟩
/-- a statement from p to p' -/
def d_Z (mk : Nat → Int32) (T p e : Nat) (c : aB) (p' : Nat) : Prop := p < p' ∧ p' < T ∧ d_bal mk p' = d_bal mk p ∧ b_sz c + 1 + 2 * p ≤ 2 * p' ∧ b_sk mk T (.branch e c b_0) 1
def d_Zs (mk : Nat → Int32) (T p : Nat) (c : aB) (p' : Nat) : Prop := p ≤ p' ∧ p' < T ∧ d_bal mk p' = d_bal mk p ∧ b_sz c + 2 * p ≤ 2 * p' ∧ b_sk mk T c 1
/-- a block -/
def d_Zb (mk : Nat → Int32) (T p e : Nat) (c : aB) (p' : Nat) : Prop := p < p' ∧ p' < T ∧ d_bal mk p' = d_bal mk p ∧ b_sz c + 2 * p ≤ 2 * p' ∧ b_sk mk T c 1 ∧ e % 32 = 9 ∧ c ≠ b_0 ∧ e / 32 = d_bt c 0
theorem d_Zs.add {p0 p e p' : Nat} {c c2 : aB} (h : d_Zs mk T p0 c p) (h2 : d_Z mk T p e c2 p') : d_Zs mk T p0 (b_add c e c2) p' := by
  obtain ⟨a0, a1, a2, a3, a4⟩ := h
  obtain ⟨b0, b1, b2, b3, b4⟩ := h2
  exact ⟨by omega, b1, b2.trans a2, by rw [b_sz_add]; omega, b_sk_add a4 b4⟩
theorem d_Zs.go {p p1 : Nat} {c : aB} {m : Int32} (h : d_Zs mk T p c p1) (hW : d_W mk T) (hp : mk p1 = m) (hm : d_m m) : d_Zs mk T p c (p1 + 1) := by
  obtain ⟨a0, a1, a2, a3, a4⟩ := h
  exact ⟨by omega, hW.lt hp hm, ((d_G.one hW hp hm).bal (by omega)).trans a2, by omega, a4⟩
theorem d_Q.x {p e p' : Nat} {c : aB} (h : d_Q mk T p e c p') : b_x mk T (.branch e c b_0) := ⟨e, c, rfl, h.2.2.1, h.2.2.2.1, h.2.2.2.2.1, h.2.2.2.2.2⟩
theorem d_sm_Z (hW : d_W mk T) {p e p' : Nat} {c : aB} (h : d_sm mk pl p = .ok (e, c, p')) : d_Z mk T p e c p' ∧ d_G mk T p p' := by
  have fin : ∀ {e : Nat} {c : aB} {p' : Nat}, d_G mk T p p' → p < p' → b_sz c + 1 + 2 * p ≤ 2 * p' → b_sk mk T (.branch e c b_0) 1 → d_Z mk T p e c p' ∧ d_G mk T p p' := fun h1 h2 h3 h4 => ⟨⟨h2, h1.1, h1.bal (by omega), h3, h4⟩, h1⟩
  unfold d_sm at h
  split at h
  · next c1 =>
    cases h
    have g := d_G.one hW c1 (by decide)
    have gT := g.1
    refine fin g (by omega) (by simp only [b_sz]; omega) ?_
    unfold b_sk
    exact ⟨rfl, by omega, Or.inl ⟨by omega, by rw [show (1 + 32 * p) / 32 = p from by omega]; exact c1, rfl⟩⟩
  split at h
  · next c1 =>
    cases h
    have g := d_G.one hW c1 (by decide)
    have gT := g.1
    refine fin g (by omega) (by simp only [b_sz]; omega) ?_
    unfold b_sk
    exact ⟨rfl, by omega, Or.inr (Or.inl ⟨by omega, by rw [show (2 + 32 * p) / 32 = p from by omega]; exact c1, rfl⟩)⟩
  split at h
  · next c1 =>
    have g := d_G.one hW c1 (by decide)
    have gT := g.1
    have e3 : (3 + 32 * p) / 32 = p := by omega
    split at h
    · cases h
      refine fin g (by omega) (by simp only [b_sz]; omega) ?_
      unfold b_sk
      exact ⟨rfl, by omega, Or.inr (Or.inr (Or.inl ⟨by omega, by rw [e3]; exact c1, Or.inl rfl⟩))⟩
    · split at h
      · cases h
      · next e2 c2 p2 hx =>
        cases h
        have q := d_ex_Q hW _ _ _ _ _ _ hx (by decide)
        have qs := q.2.1
        refine fin (g.trans q.1) (by omega) (by simp only [b_sz]; omega) ?_
        unfold b_sk
        exact ⟨rfl, by omega, Or.inr (Or.inr (Or.inl ⟨by omega, by rw [e3]; exact c1, Or.inr q.x⟩))⟩
  split at h
  · next c1 =>
    split at h
    · cases h
    · next e2 c2 p2 hx =>
      cases h
      have g := (d_G.one hW c1.1 (by decide)).trans (d_G.one hW c1.2 (by decide))
      have gT := g.1
      have q := d_ex_Q hW _ _ _ _ _ _ hx (by decide)
      have qs := q.2.1
      refine fin (g.trans q.1) (by omega) (by simp only [b_sz]; omega) ?_
      unfold b_sk
      exact ⟨rfl, by omega, Or.inr (Or.inr (Or.inr (Or.inl ⟨by omega, q.x⟩)))⟩
  · split at h
    · cases h
    · next e2 c2 p2 hx =>
      cases h
      have q := d_ex_Q hW _ _ _ _ _ _ hx (by decide)
      have qs := q.2.1
      have qe := q.2.2.2.1
      refine fin q.1 (by omega) (by simp only [b_sz]; omega) ?_
      unfold b_sk
      exact ⟨rfl, by omega, Or.inr (Or.inr (Or.inr (Or.inr (Or.inl ⟨by omega, q.x, by simp only [d_bt]; omega⟩))))⟩
theorem d_ll_Z (hW : d_W mk T) {p0 : Nat} : ∀ (i : Nat) (c : aB) (p : Nat) {c' : aB} {p' : Nat}, d_Zs mk T p0 c p → d_ll mk pl i c p = .ok (c', p') → d_Zs mk T p0 c' p' ∧ p < p' ∧ (c ≠ b_0 → c' ≠ b_0 ∧ d_bt c' 0 = d_bt c 0)
  | 0, c, p, c', p', hq, h => by
    unfold d_ll at h
    split at h
    · next c1 => cases h; exact ⟨hq.go hW c1 (by decide), by omega, fun z => ⟨z, rfl⟩⟩
    · cases h
  | i + 1, c, p, c', p', hq, h => by
    unfold d_ll at h
    split at h
    · next c1 =>
      split at h
      · next c2 => cases h; exact ⟨(hq.go hW c1 (by decide)).go hW c2 (by decide), by omega, fun z => ⟨z, rfl⟩⟩
      · split at h
        · cases h
        · next e2 c2 p2 hs =>
          have z := d_sm_Z hW hs
          obtain ⟨r1, r2, r3⟩ := d_ll_Z hW i _ _ ((hq.go hW c1 (by decide)).add z.1) h
          have := z.1.1
          refine ⟨r1, by omega, fun hc => ?_⟩
          obtain ⟨r4, r5⟩ := r3 b_add_ne
          refine ⟨r4, r5.trans ?_⟩
          cases c with
          | leaf u => exact absurd rfl hc
          | branch a b c => rfl
    · split at h
      · next c1 => cases h; exact ⟨hq.go hW c1 (by decide), by omega, fun z => ⟨z, rfl⟩⟩
      · cases h
theorem d_bt_add {c : aB} {e : Nat} {c2 : aB} (hc : c ≠ b_0) : d_bt (b_add c e c2) 0 = d_bt c 0 := by
  cases c with
  | leaf u => exact absurd rfl hc
  | branch a b c => rfl
theorem d_bt_n0 {c : aB} {t : Nat} (hc : c ≠ b_0) : d_bt c t = d_bt c 0 := by
  cases c with
  | leaf u => exact absurd rfl hc
  | branch a b c => rfl
theorem d_li_Z (hW : d_W mk T) {p0 p : Nat} {c c' : aB} {p' : Nat} (hq : d_Zs mk T p0 c p) (h : d_li mk pl c p = .ok (c', p')) : d_Zs mk T p0 c' p' ∧ p < p' ∧ c' ≠ b_0 ∧ (c ≠ b_0 → d_bt c' 0 = d_bt c 0) := by
  unfold d_li at h
  split at h
  · cases h
  · next e2 c2 p2 hs =>
    have z := d_sm_Z hW hs
    obtain ⟨r1, r2, r3⟩ := d_ll_Z hW _ _ _ (hq.add z.1) h
    have := z.1.1
    obtain ⟨r4, r5⟩ := r3 b_add_ne
    exact ⟨r1, by omega, r4, fun hc => r5.trans (d_bt_add hc)⟩
/-- what is asked of the statements of a block: the block's closing token is behind them -/
def d_Zt (mk : Nat → Int32) (T : Nat) (st : Nat → aG) : Prop := ∀ p e c p', mk p ≠ 8 → p < T → st p = .ok (e, c, p') → p < p' ∧ p' < T ∧ d_bal mk p' + 1 = d_bal mk p ∧ b_sz c + 2 * p ≤ 2 * p' ∧ b_sk mk T c 1 ∧ e % 32 = 9 ∧ c ≠ b_0 ∧ e / 32 = d_bt c 0
section BKS
variable {st : Nat → aG}
theorem d_bk_Z (hW : d_W mk T) (hI : ∀ p, mk p = 7 → mk (p + 1) ≠ 8) (hst : d_Zt mk T st) {p e p' : Nat} {c : aB} (hp : p < T) (h : d_bk mk pl st p = .ok (e, c, p')) : d_Zb mk T p e c p' := by
  unfold d_bk at h
  split at h
  · next c1 =>
    split at h
    · next c2 =>
      have hT2 : p + 1 + 1 < T := hW (p + 1) (by rw [c2]; decide) (by rw [c2]; decide)
      obtain ⟨a0, a1, a2, a3, a4, a5⟩ := hst _ _ _ _ (hI _ c2) hT2 h
      refine ⟨by omega, a1, ?_, by omega, a4, a5⟩
      have b1 : d_bal mk (p + 1 + 1) = d_bal mk (p + 1) + 1 := by
        show d_bal mk (p + 1) + _ = _
        rw [if_pos c2]
      have b2 := (d_G.one hW c1 (by decide)).bal (Nat.le_succ p)
      have : d_bal mk (p + 2) = d_bal mk (p + 1 + 1) := rfl
      have b3 : d_bal mk (p + 1) = d_bal mk p := b2
      omega
    · cases h
  · split at h
    · cases h
    · next c2 p2 hl =>
      cases h
      obtain ⟨⟨r0, r1, r2, r3, r4⟩, r5, r6, r7⟩ := d_li_Z hW (⟨Nat.le_refl _, hp, rfl, by simp only [b_sz]; omega, by unfold b_sk; rfl⟩ : d_Zs mk T p b_0 p) hl
      exact ⟨r5, r1, r2, r3, r4, by omega, r6, by rw [d_bt_n0 r6]; omega⟩
theorem d_cd_Z (hW : d_W mk T) (hI : ∀ p, mk p = 7 → mk (p + 1) ≠ 8) (hst : d_Zt mk T st) {k p e p' : Nat} {c : aB} (hk : mk p = 11 ∨ mk p = 12 ∨ mk p = 14) (h : d_cd mk pl st k p = .ok (e, c, p')) : p < p' ∧ p' < T ∧ d_bal mk p' = d_bal mk p ∧ b_sz c + 1 + 2 * p ≤ 2 * p' ∧ e = k + 32 * p ∧ p < T ∧ ∃ e1 c1 e2 c2, c = .branch e1 c1 (.branch e2 c2 b_0) ∧ b_sh mk e1 c1 ∧ e1 / 32 < T ∧ b_ok mk T c1 ∧ b_ht c1 + 1 ≤ 10 ∧ e2 % 32 = 9 ∧ c2 ≠ b_0 ∧ e2 / 32 = d_bt c2 0 ∧ b_sk mk T c2 1 := by
  have g : d_G mk T p (p + 1) := by
    rcases hk with r | r | r <;> exact .one hW r (by decide)
  unfold d_cd at h
  split at h
  · cases h
  · next e1 c1 p1 hx =>
    have q := d_ex_Q hW _ _ _ _ _ _ hx (by decide)
    split at h
    · next c58 =>
      split at h
      · cases h
      · next e2 c2 p2 hb =>
        cases h
        have g2 := d_G.one hW c58 (by decide)
        obtain ⟨z0, z1, z2, z3, z4, z5, z6, z7⟩ := d_bk_Z hW hI hst g2.1 hb
        have g3 := (g.trans q.1).trans g2
        have qs := q.2.1
        have := g.1
        exact ⟨by omega, z1, z2.trans (g3.bal (by omega)), by simp only [b_sz]; omega, rfl, by omega, e1, c1, e2, c2, rfl, q.2.2.1, q.2.2.2.1, q.2.2.2.2.1, q.2.2.2.2.2, z5, z6, z7, z4⟩
    · cases h
/-- the parts of an IF -/
def d_Zi (mk : Nat → Int32) (T p e : Nat) (c : aB) (p' : Nat) : Prop := p < p' ∧ p' < T ∧ d_bal mk p' = d_bal mk p ∧ b_sz c + 1 + 2 * p ≤ 2 * p' ∧ e = 6 + 32 * p ∧ b_sk mk T c 2
theorem d_el_Zi (hW : d_W mk T) (hI : ∀ p, mk p = 7 → mk (p + 1) ≠ 8) (hst : d_Zt mk T st) {p p2 e e1 e2 p' : Nat} {c c1 c2 cc : aB} (hcc : cc = .branch e1 c1 (.branch e2 c2 b_0)) (h0 : p < p2 ∧ p2 < T ∧ d_bal mk p2 = d_bal mk p ∧ b_sz cc + 1 + 2 * p ≤ 2 * p2) (h1 : b_sh mk e1 c1 ∧ e1 / 32 < T ∧ b_ok mk T c1 ∧ b_ht c1 + 1 ≤ 10 ∧ e2 % 32 = 9 ∧ c2 ≠ b_0 ∧ e2 / 32 = d_bt c2 0 ∧ b_sk mk T c2 1) (h : (if mk p2 = 13 then (if mk (p2 + 1) = 58 then (match d_bk mk pl st (p2 + 2) with
        | .error x => .error x
        | .ok (e3, c3, p3) => .ok (6 + 32 * p, b_add cc e3 c3, p3)) else .error (9, pl (p2 + 1))) else .ok (6 + 32 * p, cc, p2) : aG) = .ok (e, c, p')) : d_Zi mk T p e c p' := by
  subst hcc
  obtain ⟨k1, k2, k3, k4, k5, k6, k7, k8⟩ := h1
  split at h
  · next c13 =>
    split at h
    · next c58 =>
      split at h
      · cases h
      · next e3 c3 p3 hb =>
        cases h
        have g := (d_G.one hW c13 (by decide)).trans (.one hW c58 (by decide))
        obtain ⟨z0, z1, z2, z3, z4, z5, z6, z7⟩ := d_bk_Z hW hI hst g.1 hb
        have gb := g.bal (by omega)
        refine ⟨by omega, z1, by omega, ?_, rfl, ?_⟩
        · rw [b_sz_add]; omega
        · unfold b_add b_add b_add
          unfold b_sk
          refine ⟨k1, k2, k3, k4, ?_⟩
          unfold b_sk
          refine ⟨k5, k6, k7, k8, Or.inr ?_⟩
          unfold b_sk
          exact ⟨rfl, Or.inr ⟨z5, z6, z7, z4⟩⟩
    · cases h
  · cases h
    refine ⟨h0.1, h0.2.1, h0.2.2.1, h0.2.2.2, rfl, ?_⟩
    unfold b_sk
    refine ⟨k1, k2, k3, k4, ?_⟩
    unfold b_sk
    exact ⟨k5, k6, k7, k8, Or.inl rfl⟩
theorem d_if_Z (hW : d_W mk T) (hI : ∀ p, mk p = 7 → mk (p + 1) ≠ 8) (hst : d_Zt mk T st) : ∀ (i p : Nat) {e : Nat} {c : aB} {p' : Nat}, (mk p = 11 ∨ mk p = 12) → d_if mk pl st i p = .ok (e, c, p') → d_Zi mk T p e c p'
  | 0, p, e, c, p', hk, h => by
    unfold d_if at h
    split at h
    · cases h
    · next e0 c0 p2 hc =>
      obtain ⟨a0, a1, a2, a3, a4, a5, e1, c1, e2, c2, a6, a7⟩ := d_cd_Z hW hI hst (by rcases hk with r | r; exact Or.inl r; exact Or.inr (Or.inl r)) hc
      subst a4
      exact d_el_Zi hW hI hst a6 ⟨a0, a1, a2, a3⟩ a7 h
  | i + 1, p, e, c, p', hk, h => by
    unfold d_if at h
    split at h
    · cases h
    · next e0 c0 p2 hc =>
      obtain ⟨a0, a1, a2, a3, a4, a5, e1, c1, e2, c2, a6, a7⟩ := d_cd_Z hW hI hst (by rcases hk with r | r; exact Or.inl r; exact Or.inr (Or.inl r)) hc
      subst a4
      dsimp only at h
      split at h
      · next c12 =>
        split at h
        · cases h
        · next e3 c3 p3 hi =>
          cases h
          obtain ⟨z0, z1, z2, z3, z4, z5⟩ := d_if_Z hW hI hst i p2 (Or.inr c12) hi
          subst a6
          obtain ⟨k1, k2, k3, k4, k5, k6, k7, k8⟩ := a7
          refine ⟨by omega, z1, by omega, ?_, rfl, ?_⟩
          · rw [b_sz_add]; omega
          · unfold b_add b_add b_add
            unfold b_sk
            refine ⟨k1, k2, k3, k4, ?_⟩
            unfold b_sk
            refine ⟨k5, k6, k7, k8, Or.inr ?_⟩
            unfold b_sk
            subst z4
            exact ⟨rfl, Or.inl ⟨by omega, by rw [show (6 + 32 * p2) / 32 = p2 from by omega]; exact c12, by omega, z5⟩⟩
      · exact d_el_Zi hW hI hst a6 ⟨a0, a1, a2, a3⟩ a7 h
/-- parameters so far, with room for the block behind them -/
def b_pa (T : Nat) : aB → Prop
  | .leaf _ => True
  | .branch e c s => e % 32 = 24 ∧ e / 32 < T ∧ c = b_0 ∧ b_pa T s
theorem b_pa_add : ∀ {s : aB} {e : Nat}, b_pa T s → e % 32 = 24 → e / 32 < T → b_pa T (b_add s e b_0)
  | .leaf _, _, _, h1, h2 => ⟨h1, h2, rfl, trivial⟩
  | .branch _ _ s, _, h, h1, h2 => ⟨h.1, h.2.1, h.2.2.1, b_pa_add h.2.2.2 h1 h2⟩
theorem b_pa_blk : ∀ {s : aB} {e : Nat} {c : aB}, b_pa T s → e % 32 = 9 → c ≠ b_0 → e / 32 = d_bt c 0 → b_sk mk T c 1 → b_sk mk T (b_add s e c) 3
  | .leaf _, e, c, _, h1, h2, h3, h4 => by
    unfold b_add b_sk
    exact Or.inr ⟨h1, h2, h3, h4, rfl⟩
  | .branch _ _ s, e, c, h, h1, h2, h3, h4 => by
    unfold b_add b_sk
    exact Or.inl ⟨h.1, h.2.1, h.2.2.1, b_pa_blk h.2.2.2 h1 h2 h3 h4⟩
theorem d_pm_Z (hW : d_W mk T) {p0 : Nat} : ∀ (i : Nat) (c : aB) (p : Nat) {c' : aB} {p' : Nat}, d_G mk T p0 p → b_sz c + p0 ≤ p → b_pa T c → d_pm mk pl i c p = .ok (c', p') → d_G mk T p0 p' ∧ b_sz c' + p0 ≤ p' ∧ b_pa T c'
  | 0, c, p, c', p', h1, h2, h3, h => by
    unfold d_pm at h
    split at h
    · next c1 => cases h; exact ⟨h1.trans (.one hW c1 (by decide)), by omega, h3⟩
    · cases h
  | i + 1, c, p, c', p', h1, h2, h3, h => by
    unfold d_pm at h
    split at h
    · next c1 =>
      split at h
      · next c2 =>
        have g := (d_G.one hW c1 (by decide)).trans (.one hW c2 (by decide))
        have := g.1
        exact d_pm_Z hW i _ _ (h1.trans g) (by rw [b_sz_add]; simp only [b_sz]; omega) (b_pa_add h3 (by omega) (by omega)) h
      · cases h
    · split at h
      · next c1 => cases h; exact ⟨h1.trans (.one hW c1 (by decide)), by omega, h3⟩
      · cases h
theorem d_df_Z (hW : d_W mk T) (hI : ∀ p, mk p = 7 → mk (p + 1) ≠ 8) (hst : d_Zt mk T st) {p e p' : Nat} {c : aB} (hk : mk p = 15) (h : d_df mk pl st p = .ok (e, c, p')) : d_Z mk T p e c p' := by
  have g := d_G.one hW hk (by decide)
  unfold d_df at h
  split at h
  · next c1 =>
    split at h
    · next c40 =>
      split at h
      · cases h
      · next c2 p2 hps =>
        have g1 := (g.trans (.one hW c1 (by decide))).trans (d_G.one hW c40 (by decide))
        have gT := g1.1
        have hp : d_G mk T (p + 3) p2 ∧ b_sz c2 + (p + 3) ≤ p2 ∧ b_pa T c2 := by
          unfold d_ps at hps
          split at hps
          · next c41 => cases hps; exact ⟨.one hW c41 (by decide), by simp only [b_sz]; omega, trivial⟩
          · split at hps
            · next cn =>
              have gn := d_G.one hW cn (by decide)
              have := gn.1
              exact d_pm_Z hW _ _ _ gn (by simp only [b_sz]; omega) (show b_pa T (.branch (24 + 32 * (p + 3)) b_0 b_0) from ⟨by omega, by omega, rfl, trivial⟩) hps
            · cases hps
        split at h
        · next c58 =>
          split at h
          · cases h
          · next e3 c3 p3 hb =>
            cases h
            have g2 := d_G.one hW c58 (by decide)
            obtain ⟨z0, z1, z2, z3, z4, z5, z6, z7⟩ := d_bk_Z hW hI hst g2.1 hb
            have g3 := (g1.trans hp.1).trans g2
            have hs := hp.2.1
            refine ⟨by omega, z1, z2.trans (g3.bal (by omega)), by rw [b_sz_add]; omega, ?_⟩
            unfold b_sk
            exact ⟨rfl, by omega, Or.inr (Or.inr (Or.inr (Or.inr (Or.inr (Or.inr (Or.inr ⟨by omega, b_pa_blk hp.2.2 z5 z6 z7 z4⟩))))))⟩
        · cases h
    · cases h
  · cases h
theorem d_s1_Z (hW : d_W mk T) (hI : ∀ p, mk p = 7 → mk (p + 1) ≠ 8) (hst : d_Zt mk T st) {p0 p p' : Nat} {c c' : aB} (hq : d_Zs mk T p0 c p) (h : d_s1 mk pl st c p = .ok (c', p')) : d_Zs mk T p0 c' p' ∧ p < p' ∧ c' ≠ b_0 ∧ (c ≠ b_0 → d_bt c' 0 = d_bt c 0) := by
  unfold d_s1 at h
  split at h
  · next c1 =>
    split at h
    · cases h
    · next e2 c2 p2 hi =>
      cases h
      obtain ⟨z0, z1, z2, z3, z4, z5⟩ := d_if_Z hW hI hst _ _ (Or.inl c1) hi
      refine ⟨hq.add ⟨z0, z1, z2, z3, ?_⟩, z0, b_add_ne, d_bt_add⟩
      unfold b_sk
      subst z4
      exact ⟨rfl, by omega, Or.inr (Or.inr (Or.inr (Or.inr (Or.inr (Or.inl ⟨by omega, by rw [show (6 + 32 * p) / 32 = p from by omega]; exact c1, z5⟩)))))⟩
  split at h
  · next c1 =>
    split at h
    · cases h
    · next e2 c2 p2 hi =>
      cases h
      obtain ⟨a0, a1, a2, a3, a4, a5, e1, c1', e2, c2', a6, k1, k2, k3, k4, k5, k6, k7, k8⟩ := d_cd_Z hW hI hst (Or.inr (Or.inr c1)) hi
      refine ⟨hq.add ⟨a0, a1, a2, a3, ?_⟩, a0, b_add_ne, d_bt_add⟩
      unfold b_sk
      subst a4
      refine ⟨rfl, by omega, Or.inr (Or.inr (Or.inr (Or.inr (Or.inr (Or.inr (Or.inl ⟨by omega, by rw [show (7 + 32 * p) / 32 = p from by omega]; exact c1, ?_⟩))))))⟩
      subst a6
      unfold b_sk
      refine ⟨k1, k2, k3, k4, ?_⟩
      unfold b_sk
      exact ⟨k5, k6, k7, k8, rfl⟩
  split at h
  · next c1 =>
    split at h
    · cases h
    · next e2 c2 p2 hi =>
      cases h
      have z := d_df_Z hW hI hst c1 hi
      exact ⟨hq.add z, z.1, b_add_ne, d_bt_add⟩
  · exact d_li_Z hW hq h
theorem d_sl_Z (hW : d_W mk T) (hI : ∀ p, mk p = 7 → mk (p + 1) ≠ 8) (hst : d_Zt mk T st) {cl : Int32} {p0 : Nat} : ∀ (i : Nat) (c : aB) (p : Nat) {c' : aB} {p' : Nat}, d_Zs mk T p0 c p → (mk p = cl → c ≠ b_0) → d_sl mk pl st cl i c p = .ok (c', p') → ∃ p2, p' = p2 + 1 ∧ mk p2 = cl ∧ d_Zs mk T p0 c' p2 ∧ (p0 < p ∨ mk p ≠ cl → p0 < p2) ∧ (0 < i → c' ≠ b_0) ∧ (c ≠ b_0 → c' ≠ b_0 ∧ d_bt c' 0 = d_bt c 0)
  | 0, c, p, c', p', hq, hc, h => by
    unfold d_sl at h
    split at h
    · next c1 => cases h; exact ⟨p, rfl, c1, hq, fun z => z.resolve_right (fun q => q c1), fun z => by omega, fun z => ⟨z, rfl⟩⟩
    · cases h
  | i + 1, c, p, c', p', hq, hc, h => by
    unfold d_sl at h
    split at h
    · next c1 => cases h; exact ⟨p, rfl, c1, hq, fun z => z.resolve_right (fun q => q c1), fun z => hc c1, fun z => ⟨z, rfl⟩⟩
    · split at h
      · cases h
      · next c2 p2 h1 =>
        obtain ⟨z1, z2, z3, z4⟩ := d_s1_Z hW hI hst hq h1
        obtain ⟨p3, r1, r2, r3, r4, r5, r6⟩ := d_sl_Z hW hI hst i _ _ z1 (fun _ => z3) h
        have := hq.1
        exact ⟨p3, r1, r2, r3, fun _ => r4 (Or.inl (by omega)), fun _ => (r6 z3).1, fun q => ⟨(r6 z3).1, (r6 z3).2.trans (z4 q)⟩⟩
end BKS
theorem d_st_Z (hW : d_W mk T) (hI : ∀ p, mk p = 7 → mk (p + 1) ≠ 8) : ∀ (r : Nat), d_Zt mk T (d_st mk pl r 8)
  | 0 => fun p e c p' _ _ h => by unfold d_st at h; cases h
  | r + 1 => fun p e c p' h8 hp h => by
    unfold d_st at h
    split at h
    · cases h
    · next c2 p2 hs =>
      cases h
      obtain ⟨p3, r1, r2, ⟨s1, s2, s3, s4, s5⟩, r4, r5, r6⟩ := d_sl_Z hW hI (d_st_Z hW hI r) _ _ _ (⟨Nat.le_refl _, hp, rfl, by simp only [b_sz]; omega, by unfold b_sk; rfl⟩ : d_Zs mk T p b_0 p) (fun z => absurd z h8) hs
      subst r1
      have hT : p3 + 1 < T := hW p3 (by rw [r2]; decide) (by rw [r2]; decide)
      have hb : d_bal mk (p3 + 1) = d_bal mk p3 + (-1) := by
        show d_bal mk p3 + _ = _
        rw [if_neg (by rw [r2]; decide), if_pos r2]
      have hc := r5 (by decide)
      exact ⟨by omega, hT, by omega, by omega, s5, by omega, hc, by rw [d_bt_n0 hc]; omega⟩
/-- the whole -/
theorem d_st_W (hW : d_W mk T) (hI : ∀ p, mk p = 7 → mk (p + 1) ≠ 8) (hT : 0 < T) {r : Nat} {e : Nat} {c : aB} {p' : Nat} (h : d_st mk pl (r + 1) 9 0 = .ok (e, c, p')) : ∃ p2, p' = p2 + 1 ∧ mk p2 = 9 ∧ p2 < T ∧ b_sz c ≤ 2 * p2 ∧ b_sk mk T c 1 ∧ e = 9 + 32 * d_bt c 0 ∧ (c = b_0 → p2 = 0) := by
  unfold d_st at h
  split at h
  · cases h
  · next c2 p3 hs =>
    cases h
    by_cases c9 : mk 0 = 9
    · have : d_sl mk pl (d_st mk pl r 8) 9 120 b_0 0 = .ok (b_0, 1) := by unfold d_sl; rw [if_pos c9]
      rw [this] at hs
      cases hs
      exact ⟨0, rfl, c9, hT, by simp [b_sz], by unfold b_sk; rfl, rfl, fun _ => rfl⟩
    · obtain ⟨p3, r1, r2, ⟨s1, s2, s3, s4, s5⟩, r4, r5, r6⟩ := d_sl_Z hW hI (d_st_Z hW hI r) _ _ _ (⟨Nat.le_refl _, hT, rfl, by simp only [b_sz]; omega, by unfold b_sk; rfl⟩ : d_Zs mk T 0 b_0 0) (fun z => absurd z c9) hs
      exact ⟨p3, r1, r2, s2, by omega, s5, rfl, fun z => absurd z (r5 (by decide))⟩
end SNS
end
section
/-! THE REFERENCE'S WAY with an expression: a machine with stacks -/
/-- what is begun: kind, token, node -/
abbrev xK : Type := Int32 × Nat × Nat
/-- place, what is begun (last first), finished nodes (last first), how many nodes, the nodes -/
abbrev xX : Type := Nat × List xK × List Nat × Nat × aN
abbrev xE : Type := Except aF (Nat × xX)
def x_app (S : aN) (j j2 : Nat) : aN := n_lnk S j j2 (if S 2 j2 < S 2 j then S 2 j else S 2 j2 + 1)
def x_kd (k : Int32) : Int32 := if k < 6 then 10 + k else k + 9
def x_top (K : List xK) : Int32 := match K with
  | [] => 9
  | (k, _) :: _ => k
section STK
variable (mk : Nat → Int32) (pl : Nat → Nat)
def x_close (l : Int32) : List xK → List Nat → Nat → aN → Except aF (List xK × List Nat × Nat × aN)
  | [], V, m, S => .ok ([], V, m, S)
  | (k, t, nd) :: K, V, m, S => if k < l then .ok ((k, t, nd) :: K, V, m, S) else if k = 3 ∨ k = 7 then (match V with
      | v :: V' => if 10 < x_app (n_add S m (x_kd k) (nI t)) m v 2 m then .error (3, pl t) else x_close l K (m :: V') (m + 1) (x_app (n_add S m (x_kd k) (nI t)) m v)
      | [] => .error (0, 0))
    else (match V with
      | v2 :: v1 :: V' => if 10 < x_app (x_app (n_add S m (x_kd k) (nI t)) m v1) m v2 2 m then .error (3, pl t) else x_close l K (m :: V') (m + 1) (x_app (x_app (n_add S m (x_kd k) (nI t)) m v1) m v2)
      | _ => .error (0, 0))
def x_ent (k : Int32) (nd : Nat) : xX → xE
  | (p, K, V, m, S) => if K.length = 12 then .error (3, pl p) else .ok (1, p + 1, (k, p, nd) :: K, V, m, S)
/-- a finished node n, at the place p -/
def x_fin (p n : Nat) (K : List xK) (V : List Nat) (m : Nat) (S : aN) : xE := if 10 < S 2 n then .error (3, pl (S 1 n).toNatClampNeg) else .ok (0, p, K, n :: V, m, S)
def x_end (some : Bool) : xX → xE
  | (p, (k, t, nd) :: K, V, m, S) => if k = 0 then .ok (0, p + 1, K, V, m, S) else if some = true then (match V with
      | v :: V' => x_fin pl (p + 1) nd K V' m (x_app S nd v)
      | [] => .error (0, 0)) else x_fin pl (p + 1) nd K V m S
  | _ => .error (0, 0)
def x_part : xX → xE
  | (p, K, V, m, S) =>
    if mk p = 1 ∨ mk p = 3 ∨ mk p = 4 then .ok (0, p + 1, K, m :: V, m + 1, n_add S m (if mk p = 1 then 20 else if mk p = 3 then 21 else 22) (nI p))
    else if mk p = 21 ∧ (K = [] ∨ ¬ 3 < x_top K) then x_ent pl 3 0 (p, K, V, m, S)
    else if mk p = 45 then x_ent pl 7 0 (p, K, V, m, S)
    else if mk p = 40 then x_ent pl 0 0 (p, K, V, m, S)
    else if mk p = 91 then x_ent pl (-3) m (p, K, V, m + 1, n_add S m 23 (nI p))
    else match K with
      | (k, t, nd) :: K' => if t + 1 = p ∧ ((mk p = 41 ∧ k = -1) ∨ (mk p = 93 ∧ k = -3)) then x_end pl false (p, (k, t, nd) :: K', V, m, S) else .error (9, pl p)
      | [] => .error (9, pl p)
def x_apl (w : Int32) (as : Int32) : xX → xE
  | (p, K, v :: V, m, S) => x_ent pl as m (p, K, V, m + 1, x_app (n_add S m w (nI p)) m v)
  | _ => .error (0, 0)
def x_mem : xX → xE
  | (p, K, v :: V, m, S) => if mk (p + 1) = 1 then x_fin pl (p + 2) m K V (m + 1) (x_app (n_add S m 19 (nI (p + 1))) m v) else .error (9, pl (p + 1))
  | _ => .error (0, 0)
/-- behind an expression that is closed as far as it may be -/
def x_bas : xX → xE
  | (p, [], V, m, S) => .ok (2, p, [], V, m, S)
  | (p, (k, t, nd) :: K, V, m, S) => if mk p = 44 ∧ (k = -1 ∨ k = -3) then (match V with
      | v :: V' => .ok (1, p + 1, (k, t, nd) :: K, V', m, x_app S nd v)
      | [] => .error (0, 0))
    else if (mk p = 41 ∧ (k = 0 ∨ k = -1)) ∨ (mk p = 93 ∧ k < -1) then x_end pl true (p, (k, t, nd) :: K, V, m, S)
    else .error (9, pl p)
def x_cl1 : xX → xE
  | (p, K, V, m, S) => match x_close pl 1 K V m S with
    | .error q => .error q
    | .ok (K1, V1, m1, S1) => x_bas mk pl (p, K1, V1, m1, S1)
def x_beh : xX → xE
  | (p, K, V, m, S) =>
    if mk p = 40 then x_apl pl 17 (-1) (p, K, V, m, S)
    else if mk p = 91 then x_apl pl 18 (-2) (p, K, V, m, S)
    else if mk p = 46 then x_mem mk pl (p, K, V, m, S)
    else if 0 < d_sb (mk p) then (match x_close pl (if d_sb (mk p) = 4 then 5 else nI (d_sb (mk p))) K V m S with
      | .error q => .error q
      | .ok (K1, V1, m1, S1) => if d_sb (mk p) ≠ 4 ∨ x_top K1 ≠ 4 then x_ent pl (nI (d_sb (mk p))) 0 (p, K1, V1, m1, S1) else x_cl1 mk pl (p, K1, V1, m1, S1))
    else x_cl1 mk pl (p, K, V, m, S)
/-- state 1: a part is due; state 0: behind a part -/
def x_step : Nat × xX → xE
  | (st, X) => if st = 1 then x_part mk pl X else x_beh mk pl X
/-- n steps, none of them the last -/
def x_to : Nat → Nat × xX → Nat × xX → Prop
  | 0, z, z' => z = z'
  | n + 1, z, z' => z.1 ≤ 1 ∧ ∃ z1, x_step mk pl z = .ok z1 ∧ x_to n z1 z'
/-- refused after n steps -/
def x_er : Nat → Nat × xX → aF → Prop
  | 0, z, q => z.1 ≤ 1 ∧ x_step mk pl z = .error q
  | n + 1, z, q => z.1 ≤ 1 ∧ ∃ z1, x_step mk pl z = .ok z1 ∧ x_er n z1 q
end STK
section STL
variable {mk : Nat → Int32} {pl : Nat → Nat}
theorem x_to.trans : ∀ {n n' : Nat} {z z' z'' : Nat × xX}, x_to mk pl n z z' → x_to mk pl n' z' z'' → ∃ k, x_to mk pl k z z''
  | 0, n', _, _, _, h, h' => ⟨n', by cases h; exact h'⟩
  | n + 1, n', _, _, _, ⟨h0, z1, h1, h2⟩, h' => by
    obtain ⟨k, hk⟩ := x_to.trans h2 h'
    exact ⟨k + 1, h0, z1, h1, hk⟩
theorem x_to.er : ∀ {n n' : Nat} {z z' : Nat × xX} {q : aF}, x_to mk pl n z z' → x_er mk pl n' z' q → ∃ k, x_er mk pl k z q
  | 0, n', _, _, _, h, h' => ⟨n', by cases h; exact h'⟩
  | n + 1, n', _, _, _, ⟨h0, z1, h1, h2⟩, h' => by
    obtain ⟨k, hk⟩ := x_to.er h2 h'
    exact ⟨k + 1, h0, z1, h1, hk⟩
theorem x_to.one {z z' : Nat × xX} (h0 : z.1 ≤ 1) (h : x_step mk pl z = .ok z') : x_to mk pl 1 z z' := ⟨h0, z', h, rfl⟩
end STL
end
section
/-! THE REFERENCE'S WAY: closing -/
section CLO
variable {mk : Nat → Int32} {pl : Nat → Nat}
/-- what is begun last binds less than s (or is what stands before an operand of s) -/
def x_B (s : Nat) (K : List xK) : Prop := match K with
  | [] => True
  | (k, _) :: _ => (k = 0 ∨ k = -1 ∨ k = -2 ∨ k = -3) ∨ ∃ t, 1 ≤ t ∧ t ≤ 7 ∧ k = nI t ∧ (t < s ∨ (t = s ∧ (s = 3 ∨ s = 7)))
theorem x_B.up {s : Nat} {K : List xK} (h : x_B s K) : x_B (s + 1) K := by
  match K, h with
  | [], _ => trivial
  | (k, _) :: _, h =>
    rcases h with r | ⟨t, t1, t2, t3, t4⟩
    · exact Or.inl r
    · exact Or.inr ⟨t, t1, t2, t3, by omega⟩
theorem x_B.mono {s : Nat} {K : List xK} : ∀ {d : Nat}, x_B s K → x_B (s + d) K
  | 0, h => h
  | d + 1, h => (x_B.mono (d := d) h).up
theorem x_br_lt : ∀ l : Nat, l < 9 → 1 ≤ l → (0 : Int32) < nI l ∧ (-1 : Int32) < nI l ∧ (-2 : Int32) < nI l ∧ (-3 : Int32) < nI l := by decide
theorem x_close_stop {s l : Nat} {K : List xK} {V : List Nat} {m : Nat} {S : aN} (h : x_B s K) (hs : s = 1 ∨ s = 2 ∨ s = 4 ∨ s = 5 ∨ s = 6) (hl : s ≤ l) (hl8 : l < 9) : x_close pl (nI l) K V m S = .ok (K, V, m, S) := by
  match K, h with
  | [], _ => rfl
  | (k, t, nd) :: K, h =>
    have hk : k < nI l := by
      have := x_br_lt l hl8 (by omega)
      rcases h with (r | r | r | r) | ⟨t, t1, t2, t3, t4⟩
      · rw [r]; exact this.1
      · rw [r]; exact this.2.1
      · rw [r]; exact this.2.2.1
      · rw [r]; exact this.2.2.2
      · rw [t3]; exact nI_lt (by omega) (by omega)
    unfold x_close
    rw [if_pos hk]
/-- closing from (K, V, m, S) comes to closing from (K0, V', m', S') -/
def x_C (mk : Nat → Int32) (pl : Nat → Nat) (s p : Nat) (K : List xK) (V : List Nat) (m : Nat) (S : aN) (K0 : List xK) (V' : List Nat) (m' : Nat) (S' : aN) : Prop :=
  (∀ l, 1 ≤ l → l ≤ s → x_close pl (nI l) K V m S = x_close pl (nI l) K0 V' m' S') ∧
  (d_sb (mk p) = 4 → s ≤ 4 → ∃ K1 V1 m1 S1, x_close pl 5 K V m S = .ok (K1, V1, m1, S1) ∧ x_top K1 = 4 ∧ ∀ l, 1 ≤ l → l ≤ s → x_close pl (nI l) K1 V1 m1 S1 = x_close pl (nI l) K0 V' m' S')
/-- what stands at p isn't for the strength s -/
def x_F (mk : Nat → Int32) (s p : Nat) : Prop := mk p ≠ 40 ∧ mk p ≠ 91 ∧ mk p ≠ 46 ∧ (d_sb (mk p) < s ∨ (d_sb (mk p) = 4 ∧ s ≤ 4))
theorem d_sb_le (m : Int32) : d_sb m ≤ 6 ∧ d_sb m ≠ 3 := by
  unfold d_sb
  split
  · decide
  split
  · decide
  split
  · decide
  split
  · decide
  split <;> decide
section CLX
variable {s p m m' : Nat} {K K0 : List xK} {V V' : List Nat} {S S' : aN}
theorem x_C.refl (h : 4 < s ∨ d_sb (mk p) ≠ 4) : x_C mk pl s p K V m S K V m S := ⟨fun _ _ _ => rfl, fun h1 h2 => by omega⟩
theorem x_beh_err {q : aF} (hC : x_C mk pl s p K V m S K0 V' m' S') (hF : mk p ≠ 40 ∧ mk p ≠ 91 ∧ mk p ≠ 46 ∧ (d_sb (mk p) ≤ s ∨ (d_sb (mk p) = 4 ∧ s ≤ 4))) (hs : 1 ≤ s) (hq : ∀ l, 1 ≤ l → l ≤ s → x_close pl (nI l) K0 V' m' S' = .error q) : x_beh mk pl (p, K, V, m, S) = .error q := by
  obtain ⟨f1, f2, f3, f4⟩ := hF
  have h6 := d_sb_le (mk p)
  have hq1 := hq 1 (by omega) hs
  unfold x_beh
  dsimp only
  rw [if_neg f1, if_neg f2, if_neg f3]
  by_cases c0 : 0 < d_sb (mk p)
  · rw [if_pos c0]
    by_cases c4 : d_sb (mk p) = 4
    · rw [if_pos c4]
      by_cases s4 : s ≤ 4
      · obtain ⟨K1, V1, m1, S1, h1, h2, h3⟩ := hC.2 c4 s4
        rw [h1]
        dsimp only
        rw [if_neg (by rw [c4, h2]; simp)]
        unfold x_cl1
        dsimp only
        have := (h3 1 (by omega) hs).trans hq1
        rw [show (1 : Int32) = nI 1 from rfl, this]
      · rw [show (5 : Int32) = nI 5 from rfl, hC.1 5 (by omega) (by omega), hq 5 (by omega) (by omega)]
    · rw [if_neg c4, hC.1 _ (by omega) (by omega), hq _ (by omega) (by omega)]
  · rw [if_neg c0]
    unfold x_cl1
    dsimp only
    rw [show (1 : Int32) = nI 1 from rfl, hC.1 1 (by omega) hs, hq1]
/-- at the end of an expression -/
theorem x_beh_bas (hC : x_C mk pl 1 p K V m S K0 V' m' S') (hF : x_F mk 1 p) (hB : x_B 1 K0) : x_beh mk pl (p, K, V, m, S) = x_bas mk pl (p, K0, V', m', S') := by
  obtain ⟨f1, f2, f3, f4⟩ := hF
  have hq1 := x_close_stop (pl := pl) (V := V') (m := m') (S := S') (l := 1) hB (by decide) (by omega) (by omega)
  unfold x_beh
  dsimp only
  rw [if_neg f1, if_neg f2, if_neg f3]
  by_cases c0 : 0 < d_sb (mk p)
  · rw [if_pos c0]
    have c4 : d_sb (mk p) = 4 := by omega
    rw [if_pos c4]
    obtain ⟨K1, V1, m1, S1, h1, h2, h3⟩ := hC.2 c4 (by omega)
    rw [h1]
    dsimp only
    rw [if_neg (by rw [c4, h2]; simp)]
    unfold x_cl1
    dsimp only
    rw [show (1 : Int32) = nI 1 from rfl, h3 1 (by omega) (by omega), hq1]
  · rw [if_neg c0]
    unfold x_cl1
    dsimp only
    rw [show (1 : Int32) = nI 1 from rfl, hC.1 1 (by omega) (by omega), hq1]
/-- at an operator of the strength s; what is closed is closed for s' -/
theorem x_beh_op {s' : Nat} (hC : x_C mk pl s' p K V m S K0 V' m' S') (hd : d_sb (mk p) = s) (hs : s = 1 ∨ s = 2 ∨ s = 4 ∨ s = 5 ∨ s = 6) (hs' : s ≤ s') (h5 : s = 4 → 5 ≤ s') (hB : x_B s K0) : x_beh mk pl (p, K, V, m, S) = x_ent pl (nI s) 0 (p, K0, V', m', S') := by
  have f : mk p ≠ 40 ∧ mk p ≠ 91 ∧ mk p ≠ 46 := by
    refine ⟨?_, ?_, ?_⟩ <;> (intro z; rw [z] at hd; revert hd; simp [d_sb]; omega)
  unfold x_beh
  dsimp only
  rw [if_neg f.1, if_neg f.2.1, if_neg f.2.2, if_pos (by omega), hd]
  by_cases c4 : s = 4
  · subst c4
    rw [if_pos rfl, show (5 : Int32) = nI 5 from rfl, hC.1 5 (by omega) (by omega), x_close_stop hB (by decide) (by omega) (by omega)]
    dsimp only
    rw [if_pos]
    refine Or.inr ?_
    match K0, hB with
    | [], _ => decide
    | (k, _) :: _, h =>
      show k ≠ 4
      rcases h with (r | r | r | r) | ⟨t, t1, t2, t3, t4⟩
      · rw [r]; decide
      · rw [r]; decide
      · rw [r]; decide
      · rw [r]; decide
      · rw [t3]; intro z; have := nI_inj (a := t) (b := 4) (by omega) (by omega) z; omega
  · rw [if_neg c4, hC.1 s (by omega) hs', x_close_stop hB hs (by omega) (by omega)]
    dsimp only
    rw [if_pos (Or.inl c4)]
end CLX
end CLO
end
section
/-! NODES of expressions, on both sides -/
/-- from (m, S) to (m', S'): a new node v with its parts -/
def n_V (q : Bool) (S : aN) (m : Nat) (S' : aN) (m' v e : Nat) (c : aB) : Prop := m ≤ v ∧ v < m' ∧ m' = m + b_sz c + 1 ∧ n_T S' q m m' v e c ∧ S' 6 v = -1 ∧ (∀ f k, k < m → S' f k = S f k)
/-- N is S with a new node at m -/
def n_W (q : Bool) (S : aN) (m : Nat) (N : aN) (e : Nat) : Prop := (∀ f k, k ≠ m → N f k = S f k) ∧ (∀ lo, n_T N q lo lo m e b_0) ∧ N 6 m = -1
/-- one of the two ways to reckon a height -/
def n_hh (S : aN) (j j2 : Nat) (hh : Int32) : Prop := hh = (if S 2 j < S 2 j2 + 1 then S 2 j2 + 1 else S 2 j) ∨ hh = (if S 2 j2 < S 2 j then S 2 j else S 2 j2 + 1)
theorem n_T.frame {S S' : aN} {q : Bool} {lo mid j e : Nat} {c : aB} (hj : ∀ f, f < 6 → S' f j = S f j) (hS : ∀ f k, lo ≤ k → k < mid → k ≠ j → S' f k = S f k) (h : n_T S q lo mid j e c) : n_T S' q lo mid j e c := by
  refine ⟨?_, ?_⟩
  · have := h.1
    unfold n_N at *
    rw [hj 0 (by decide), hj 1 (by decide), hj 2 (by decide), hj 3 (by decide)]
    exact this
  · rw [hj 4 (by decide), hj 5 (by decide)]
    exact n_F.frame hS h.2
theorem n_T.wide {S : aN} {q : Bool} {lo mid lo' mid' j e : Nat} {c : aB} (h1 : lo' ≤ lo) (h2 : mid ≤ mid') (h : n_T S q lo mid j e c) : n_T S q lo' mid' j e c := ⟨h.1, h.2.wide h1 h2⟩
section NDS
variable {q : Bool} {S S' S1 S2 N : aN} {m m' m1 m2 v v1 v2 e e1 e2 lo mid j : Nat} {c c1 c2 : aB} {kd t hh hh2 : Int32}
theorem n_add_6 : n_add S m kd t 6 m = -1 ∧ n_add S m kd t 7 m = -1 := by simp [n_add, am_u]
theorem n_add_W (hk : kd = nI (e % 32)) (ht : q = true ∨ e % 32 ≠ 9 → t = nI (e / 32)) : n_W q S m (n_add S m kd t) e := ⟨fun _ _ h => n_add_o h, fun _ => n_add_T hk ht, n_add_6.1⟩
theorem n_W.leaf (h : n_W q S m N e) : n_V q S m N (m + 1) m e b_0 :=
  ⟨Nat.le_refl _, by omega, by simp [b_sz], (h.2.1 m).wide (Nat.le_refl m) (by omega), h.2.2, fun f k hk => h.1 f k (by omega)⟩
theorem n_hh.eq {a2 b2 : Nat} (hhh : n_hh S j v hh) (h : n_T S q lo mid j e c) (h2 : n_T S q a2 b2 v e2 c2) (hlm : lo ≤ mid) (hm : mid ≤ 400) (hab : a2 ≤ b2) (hb : b2 ≤ 400) (he : 11 ≤ e % 32) (he2 : 11 ≤ e2 % 32) : hh = nI (b_ht (b_add c e2 c2) + 1) := by
  have := n_ht_a h h2 hlm hm hab hb he he2
  rcases hhh with r | r
  · rw [r, this.1]
  · rw [r, this.2]
/-- a part more for a node that stands already -/
theorem n_app1 (hT : n_T S q lo mid j e c) (hlm : lo ≤ mid) (hmm : mid ≤ m) (hj : j < m) (hv : n_V q S m S' m' v e2 c2) (hm' : m' ≤ 400) (he : 11 ≤ e % 32 → 11 ≤ e2 % 32 ∧ n_hh S' j v hh) :
    n_T (n_lnk S' j v hh) q lo m' j e (b_add c e2 c2) ∧ (∀ f k, k ≠ j → ¬ (lo ≤ k ∧ k < mid) → k ≠ v → n_lnk S' j v hh f k = S' f k) ∧ n_lnk S' j v hh 6 j = S' 6 j ∧ n_lnk S' j v hh 7 j = S' 7 j := by
  obtain ⟨v1, v2, v3, v4, v5, v6⟩ := hv
  have hT' : n_T S' q lo mid j e c := hT.frame (fun f _ => v6 f j hj) (fun f k k1 k2 _ => v6 f k (by omega))
  obtain ⟨-, -, -, -, -, -, -, -, k9, k10⟩ := n_lnk_T (hh := hh) hT' hlm (by omega) (j2 := v) (by omega) (by omega)
  exact ⟨n_app_T hT' v4 hlm hmm v1 v2 hm' (by omega) v5 (fun z => (he z).2.eq hT' v4 hlm (by omega) (by omega) hm' z (he z).1), fun f k q1 q2 q3 => n_lnk_o hT' (by omega) q1 q2 (fun z => absurd z q3), k10, k9⟩
/-- a new node over one -/
theorem n_un (hv : n_V q S m S1 m1 v e1 c1) (hm1 : m1 < 400) (hN : n_W q S1 m1 N e) (he : 11 ≤ e % 32 → 11 ≤ e1 % 32 ∧ n_hh N m1 v hh) :
    n_T (n_lnk N m1 v hh) q m m1 m1 e (.branch e1 c1 b_0) ∧ n_lnk N m1 v hh 6 m1 = -1 ∧ (∀ f k, k ≠ m1 → k ≠ v → n_lnk N m1 v hh f k = S1 f k) := by
  obtain ⟨a1, a2, a3, a4, a5, a6⟩ := hv
  have hN' := hN.2.1 m
  have a4' : n_T N q m m1 v e1 c1 := a4.frame (fun f _ => hN.1 _ _ (by omega)) (fun f k _ _ _ => hN.1 _ _ (by omega))
  obtain ⟨-, -, -, -, -, -, -, -, k9, k10⟩ := n_lnk_T (hh := hh) hN' (Nat.le_refl _) (by omega) (j2 := v) (by omega) (by omega)
  refine ⟨?_, by rw [k10]; exact hN.2.2, fun f k q1 q2 => ?_⟩
  · exact n_app_T hN' a4' (Nat.le_refl _) (Nat.le_refl _) a1 a2 (by omega) (by omega) (by rw [hN.1 _ _ (by omega)]; exact a5) (fun z => (he z).2.eq hN' a4' (Nat.le_refl _) (by omega) (by omega) (by omega) z (he z).1)
  · rw [n_lnk_o hN' (by omega) q1 (by omega) (fun z => absurd z q2), hN.1 _ _ q1]
theorem n_un_V (hv : n_V q S m S1 m1 v e1 c1) (hm1 : m1 < 400) (hN : n_W q S1 m1 N e) (he : 11 ≤ e % 32 → 11 ≤ e1 % 32 ∧ n_hh N m1 v hh) : n_V q S m (n_lnk N m1 v hh) (m1 + 1) m1 e (.branch e1 c1 b_0) := by
  obtain ⟨h1, h2, h3⟩ := n_un hv hm1 hN he
  obtain ⟨a1, a2, a3, a4, a5, a6⟩ := hv
  exact ⟨by omega, by omega, by simp only [b_sz]; omega, h1.wide (Nat.le_refl _) (by omega), h2, fun f k hk => by rw [h3 f k (by omega) (by omega), a6 f k hk]⟩
/-- a new node over two -/
theorem n_bi_V (hv : n_V q S m S1 m1 v1 e1 c1) (hw : n_V q S1 m1 S2 m2 v2 e2 c2) (hm2 : m2 < 400) (hN : n_W q S2 m2 N e) (he : 11 ≤ e % 32 → 11 ≤ e1 % 32 ∧ 11 ≤ e2 % 32 ∧ n_hh N m2 v1 hh ∧ n_hh (n_lnk N m2 v1 hh) m2 v2 hh2) : n_V q S m (n_lnk (n_lnk N m2 v1 hh) m2 v2 hh2) (m2 + 1) m2 e (.branch e1 c1 (.branch e2 c2 b_0)) := by
  obtain ⟨a1, a2, a3, a4, a5, a6⟩ := hv
  obtain ⟨b1, b2, b3, b4, b5, b6⟩ := hw
  have fr := hN.1
  have hN' := hN.2.1 m
  have a4' : n_T N q m m1 v1 e1 c1 := a4.frame (fun f _ => by rw [fr _ _ (by omega), b6 _ _ (by omega)]) (fun f k _ _ _ => by rw [fr _ _ (by omega), b6 _ _ (by omega)])
  have hA : n_T (n_lnk N m2 v1 hh) q m m1 m2 e (b_add b_0 e1 c1) := n_app_T hN' a4' (Nat.le_refl _) (Nat.le_refl _) a1 a2 (by omega) (by omega) (by rw [fr _ _ (by omega), b6 _ _ (by omega)]; exact a5) (fun z => (he z).2.2.1.eq hN' a4' (Nat.le_refl _) (by omega) (by omega) (by omega) z (he z).1)
  have fA : ∀ f k, k ≠ m2 → k ≠ v1 → n_lnk N m2 v1 hh f k = S2 f k := fun f k q1 q2 => by
    rw [n_lnk_o hN' (by omega) q1 (by omega) (fun z => absurd z q2), fr f k q1]
  have b4' : n_T (n_lnk N m2 v1 hh) q m1 m2 v2 e2 c2 := b4.frame (fun f _ => fA _ _ (by omega) (by omega)) (fun f k _ _ _ => fA _ _ (by omega) (by omega))
  have hB : n_T (n_lnk (n_lnk N m2 v1 hh) m2 v2 hh2) q m m2 m2 e (b_add (b_add b_0 e1 c1) e2 c2) := n_app_T hA b4' (by omega) (Nat.le_refl _) b1 b2 (by omega) (by omega) (by rw [fA _ _ (by omega) (by omega)]; exact b5) (fun z => (he z).2.2.2.eq hA b4' (by omega) (by omega) (by omega) (by omega) z (he z).2.1)
  obtain ⟨-, -, -, -, -, -, -, -, k9, k10⟩ := n_lnk_T (hh := hh) hN' (Nat.le_refl _) (by omega) (j2 := v1) (by omega) (by omega)
  obtain ⟨-, -, -, -, -, -, -, -, k19, k20⟩ := n_lnk_T (hh := hh2) hA (by omega) (by omega) (j2 := v2) (by omega) (by omega)
  refine ⟨by omega, by omega, by simp only [b_sz]; omega, hB.wide (Nat.le_refl _) (by omega), ?_, fun f k hk => ?_⟩
  · rw [k20, k10]
    exact hN.2.2
  · rw [n_lnk_o hA (by omega) (by omega) (by omega) (fun z => by omega), fA f k (by omega) (by omega), b6 f k (by omega), a6 f k hk]
end NDS
/-! the reference's nodes -/
abbrev x_N (S : aN) (m : Nat) (S' : aN) (m' v e : Nat) (c : aB) : Prop := n_V false S m S' m' v e c
section XND
variable {S S' S1 S2 : aN} {m m' m1 m2 v v1 v2 e e1 e2 lo mid j : Nat} {c c1 c2 : aB} {kd t : Int32}
theorem x_leaf (hk : kd = nI (e % 32)) (ht : t = nI (e / 32)) : x_N S m (n_add S m kd t) (m + 1) m e b_0 := (n_add_W hk (fun _ => ht)).leaf
theorem x_app_T (hT : n_T S false lo mid j e c) (hlm : lo ≤ mid) (hmm : mid ≤ m) (hj : j < m) (hv : x_N S m S' m' v e2 c2) (hm' : m' ≤ 400) (_ : 11 ≤ e % 32) (he2 : 11 ≤ e2 % 32) :
    n_T (x_app S' j v) false lo m' j e (b_add c e2 c2) ∧ (∀ f k, k ≠ j → ¬ (lo ≤ k ∧ k < mid) → k ≠ v → x_app S' j v f k = S' f k) ∧ x_app S' j v 6 j = S' 6 j ∧ x_app S' j v 7 j = S' 7 j := n_app1 hT hlm hmm hj hv hm' (fun _ => ⟨he2, Or.inr rfl⟩)
theorem x_un (hv : x_N S m S1 m1 v e1 c1) (hm1 : m1 < 400) (hk : kd = nI (e % 32)) (ht : t = nI (e / 32)) (_ : 11 ≤ e % 32) (he1 : 11 ≤ e1 % 32) :
    n_T (x_app (n_add S1 m1 kd t) m1 v) false m m1 m1 e (.branch e1 c1 b_0) ∧ x_app (n_add S1 m1 kd t) m1 v 6 m1 = -1 ∧ (∀ f k, k ≠ m1 → k ≠ v → x_app (n_add S1 m1 kd t) m1 v f k = S1 f k) := n_un hv hm1 (n_add_W hk (fun _ => ht)) (fun _ => ⟨he1, Or.inr rfl⟩)
theorem x_un_N (hv : x_N S m S1 m1 v e1 c1) (hm1 : m1 < 400) (hk : kd = nI (e % 32)) (ht : t = nI (e / 32)) (_ : 11 ≤ e % 32) (he1 : 11 ≤ e1 % 32) : x_N S m (x_app (n_add S1 m1 kd t) m1 v) (m1 + 1) m1 e (.branch e1 c1 b_0) := n_un_V hv hm1 (n_add_W hk (fun _ => ht)) (fun _ => ⟨he1, Or.inr rfl⟩)
theorem x_bi_N (hv : x_N S m S1 m1 v1 e1 c1) (hw : x_N S1 m1 S2 m2 v2 e2 c2) (hm2 : m2 < 400) (hk : kd = nI (e % 32)) (ht : t = nI (e / 32)) (_ : 11 ≤ e % 32) (he1 : 11 ≤ e1 % 32) (he2 : 11 ≤ e2 % 32) : x_N S m (x_app (x_app (n_add S2 m2 kd t) m2 v1) m2 v2) (m2 + 1) m2 e (.branch e1 c1 (.branch e2 c2 b_0)) := n_bi_V hv hw hm2 (n_add_W hk (fun _ => ht)) (fun _ => ⟨he1, he2, Or.inr rfl, Or.inr rfl⟩)
end XND
end
section
/-! THE REFERENCE'S WAY is the grammar's: parts of expressions -/
section PTS
variable {mk : Nat → Int32} {pl : Nat → Nat} {T : Nat}
/-- the word "not" may stand at p -/
def x_A (mk : Nat → Int32) (s p : Nat) (K : List xK) : Prop := 4 ≤ s → mk p = 21 → ¬ (K = [] ∨ ¬ 3 < x_top K)
/-- no empty brackets end at p -/
def x_Em (mk : Nat → Int32) (p : Nat) (K : List xK) : Prop := match K with
  | [] => True
  | (k, t, _) :: _ => ¬ (t + 1 = p ∧ ((mk p = 41 ∧ k = -1) ∨ (mk p = 93 ∧ k = -3)))
def x_R (mk : Nat → Int32) (pl : Nat → Nat) (s : Nat) (z : Nat × xX) (K0 : List xK) (V0 : List Nat) (m : Nat) (S : aN) (r : aG) : Prop := match r with
  | .error q => ∃ n, x_er mk pl n z q
  | .ok (e, c, p') => ∃ n K V m1 S1 v m' S', x_to mk pl n z (0, p', K, V, m1, S1) ∧ x_C mk pl s p' K V m1 S1 K0 (v :: V0) m' S' ∧ x_F mk s p' ∧ x_N S m S' m' v e c
/-- from a state z, with nothing left to close -/
def x_R8 (mk : Nat → Int32) (pl : Nat → Nat) (z : Nat × xX) (K0 : List xK) (V0 : List Nat) (m : Nat) (S : aN) (r : aG) : Prop := match r with
  | .error q => ∃ n, x_er mk pl n z q
  | .ok (e, c, p') => ∃ n v m' S', x_to mk pl n z (0, p', K0, v :: V0, m', S') ∧ x_N S m S' m' v e c
theorem x_R8.from {z z' : Nat × xX} {K0 : List xK} {V0 : List Nat} {m : Nat} {S : aN} {r : aG} {n : Nat} (h : x_to mk pl n z z') (h2 : x_R8 mk pl z' K0 V0 m S r) : x_R8 mk pl z K0 V0 m S r := by
  cases r with
  | error q =>
    obtain ⟨n', h'⟩ := h2
    exact h.er h'
  | ok a =>
    obtain ⟨e, c, p'⟩ := a
    obtain ⟨n', v, m', S', h1, h2⟩ := h2
    obtain ⟨k, hk⟩ := h.trans h1
    exact ⟨k, v, m', S', hk, h2⟩
/-- finishing a node is the check of its height -/
theorem x_fin_hc {S : aN} {lo mid nd e p m : Nat} {c : aB} {K : List xK} {V : List Nat} (hT : n_T S false lo mid nd e c) (he : 11 ≤ e % 32) (hlm : lo ≤ mid) (hm : mid ≤ 400) (ht : e / 32 < 400) : x_fin pl p nd K V m S = match d_hc pl e c p with
    | .error q => .error q
    | .ok (_, _, p') => .ok (0, p', K, nd :: V, m, S) := by
  have h1 := (b_ht_lt hlm hT.2).1
  unfold x_fin d_hc
  rw [hT.1.2.2.2 he, hT.1.2.1 (Or.inr (by omega)), nI_clamp (by omega)]
  by_cases c1 : 10 < b_ht c + 1
  · rw [if_pos (show (10 : Int32) < nI (b_ht c + 1) from nI_lt (a := 10) c1 (by omega)), if_pos c1]
  · rw [if_neg (show ¬ (10 : Int32) < nI (b_ht c + 1) from nI_nlt (b := b_ht c + 1) (a := 10) (by omega) (by omega)), if_neg c1]
/-- brackets that hold expressions: the result, with the node nd that they belong to -/
def x_Re (mk : Nat → Int32) (pl : Nat → Nat) (z : Nat × xX) (K0 : List xK) (V0 : List Nat) (lo nd e m : Nat) (c0 : aB) (S : aN) (r : Except aF (aB × Nat)) : Prop := match r with
  | .error q => ∃ n, x_er mk pl n z q
  | .ok (c, p') => match d_hc pl e c p' with
    | .error q => ∃ n, x_er mk pl n z q
    | .ok _ => ∃ n m' S', x_to mk pl n z (0, p', K0, nd :: V0, m', S') ∧ n_T S' false lo m' nd e c ∧ m' + b_sz c0 = m + b_sz c ∧ m ≤ m' ∧ S' 6 nd = S 6 nd ∧ (∀ f k, k < lo → k ≠ nd → S' f k = S f k)
theorem x_Re.from {z z' : Nat × xX} {K0 : List xK} {V0 : List Nat} {lo nd e m m1 : Nat} {c0 c1 : aB} {S S1 : aN} {r : Except aF (aB × Nat)} {n : Nat} (h : x_to mk pl n z z') (h1 : m1 + b_sz c0 = m + b_sz c1) (hmm : m ≤ m1) (h6 : S1 6 nd = S 6 nd) (hf : ∀ f k, k < lo → k ≠ nd → S1 f k = S f k) (h2 : x_Re mk pl z' K0 V0 lo nd e m1 c1 S1 r) : x_Re mk pl z K0 V0 lo nd e m c0 S r := by
  cases r with
  | error q =>
    obtain ⟨n', h'⟩ := h2
    exact h.er h'
  | ok a =>
    obtain ⟨c, p'⟩ := a
    unfold x_Re at *
    dsimp only at *
    cases hd : d_hc pl e c p' with
    | error q =>
      rw [hd] at h2
      obtain ⟨n', h'⟩ := h2
      exact h.er h'
    | ok b =>
      rw [hd] at h2
      obtain ⟨n', m', S', k1, k2, k3, k0, k4, k5⟩ := h2
      obtain ⟨k, hk⟩ := h.trans k1
      exact ⟨k, m', S', hk, k2, by omega, by omega, k4.trans h6, fun f k q1 q2 => (k5 f k q1 q2).trans (hf f k q1 q2)⟩
section PTL
variable {full : Bool} {up : Nat → Nat → aG} {K0 : List xK}
/-- what is known of the expressions within -/
def x_U (mk : Nat → Int32) (pl : Nat → Nat) (T L : Nat) (full : Bool) (up : Nat → Nat → aG) : Prop := (full = true ↔ L = 12) ∧ (∀ s p e c p', 1 ≤ s → up s p = .ok (e, c, p') → d_Q mk T p e c p') ∧ (full = false → ∀ s p K V m S, K.length = L + 1 → 1 ≤ s → s ≤ 7 → x_B s K → x_A mk s p K → x_Em mk p K → m ≤ 2 * p + 3 → p < T → x_R mk pl s (1, p, K, V, m, S) K V m S (up s p))
theorem x_el (hW : d_W mk T) (hT : T ≤ 120) (hU : x_U mk pl T K0.length full up) (hfull : full = false) {k cl : Int32} {t nd e lo : Nat} {V0 : List Nat} (hk : (k = -1 ∧ cl = 41) ∨ (k = -3 ∧ cl = 93)) (he : 11 ≤ e % 32) (he4 : e / 32 < 400) : ∀ (i : Nat) (c : aB) (p : Nat) (Z : xX) (v m' : Nat) (S' : aN), x_beh mk pl Z = x_bas mk pl (p, (k, t, nd) :: K0, v :: V0, m', S') → n_T (x_app S' nd v) false lo m' nd e c → lo ≤ m' → nd < m' → m' ≤ 2 * p + 3 → p < T → t + 1 < p → 120 ≤ i + p → x_Re mk pl (0, Z) K0 V0 lo nd e m' c (x_app S' nd v) (d_el mk pl up cl i c p)
  | 0, c, p, Z, v, m', S', _, _, _, _, _, hp, _, hi => by omega
  | i + 1, c, p, Z, v, m', S', hb, hN, hlm, hnd, hm, hp, ht, hi => by
    have st : x_step mk pl (0, Z) = x_bas mk pl (p, (k, t, nd) :: K0, v :: V0, m', S') := by
      unfold x_step
      dsimp only
      rw [if_neg (by decide), hb]
    unfold d_el
    by_cases c44 : mk p = 44
    · rw [if_pos c44]
      have hg := d_G.one hW c44 (by decide)
      have s1 : x_step mk pl (0, Z) = .ok (1, p + 1, (k, t, nd) :: K0, V0, m', x_app S' nd v) := by
        rw [st]
        unfold x_bas
        dsimp only
        rw [if_pos ⟨c44, by rcases hk with ⟨r, _⟩ | ⟨r, _⟩; exact Or.inl r; exact Or.inr r⟩]
      have hto := x_to.one (mk := mk) (pl := pl) (z := (0, Z)) (by show 0 ≤ 1; omega) s1
      have hup := hU.2.2 hfull 1 (p + 1) ((k, t, nd) :: K0) V0 m' (x_app S' nd v) (by simp) (by omega) (by omega) (by rcases hk with ⟨r, _⟩ | ⟨r, _⟩; exact Or.inl (Or.inr (Or.inl r)); exact Or.inl (Or.inr (Or.inr (Or.inr r)))) (fun z => absurd z (by omega)) (fun z => by omega) (by omega) hg.1
      cases hr : up 1 (p + 1) with
      | error q =>
        rw [hr] at hup
        obtain ⟨n, hn⟩ := hup
        exact hto.er hn
      | ok a =>
        obtain ⟨e3, c3, p3⟩ := a
        rw [hr] at hup
        obtain ⟨n, K, V, m1, S1, v3, m3, S3, h1, h2, h3, h4⟩ := hup
        have q3 := hU.2.1 _ _ _ _ _ (by omega) hr
        obtain ⟨q31, q32, q33, -⟩ := q3
        have q311 := q31.1
        have hm3 : m3 = m' + b_sz c3 + 1 := h4.2.2.1
        obtain ⟨a1, a2, a3, a4⟩ := x_app_T hN hlm (Nat.le_refl _) hnd h4 (by omega) he q33.ge
        obtain ⟨n2, hto2⟩ := hto.trans h1
        have hvm : m' ≤ v3 := h4.1
        refine x_Re.from (c1 := b_add c e3 c3) (S1 := x_app S3 nd v3) (m1 := m3) hto2 (by rw [b_sz_add]; omega) (by omega) (a3.trans (h4.2.2.2.2.2 6 nd hnd)) (fun f k' q1 q2 => ?_) (x_el hW hT hU hfull hk he he4 i (b_add c e3 c3) p3 (p3, K, V, m1, S1) v3 m3 S3 (x_beh_bas h2 h3 ?_) a1 (by omega) (by omega) (by omega) q311 (by omega) (by omega))
        · rw [a2 f k' q2 (by omega) (by omega), h4.2.2.2.2.2 f k' (by omega)]
        · rcases hk with ⟨r, _⟩ | ⟨r, _⟩
          · exact Or.inl (Or.inr (Or.inl r))
          · exact Or.inl (Or.inr (Or.inr (Or.inr r)))
    · rw [if_neg c44]
      by_cases ccl : mk p = cl
      · rw [if_pos ccl]
        have k0 : k ≠ 0 := by rcases hk with ⟨r, _⟩ | ⟨r, _⟩ <;> (rw [r]; decide)
        have s1 : x_step mk pl (0, Z) = x_fin pl (p + 1) nd K0 V0 m' (x_app S' nd v) := by
          rw [st]
          unfold x_bas
          dsimp only
          rw [if_neg (fun z => c44 z.1), if_pos]
          · unfold x_end
            dsimp only
            rw [if_neg k0, if_pos rfl]
          · rcases hk with ⟨r, r2⟩ | ⟨r, r2⟩
            · exact Or.inl ⟨by rw [ccl, r2], Or.inr r⟩
            · exact Or.inr ⟨by rw [ccl, r2], by rw [r]; decide⟩
        rw [x_fin_hc hN he hlm (by omega) he4] at s1
        unfold x_Re
        dsimp only
        cases hd : d_hc pl e c (p + 1) with
        | error q =>
          rw [hd] at s1
          exact ⟨0, by show 0 ≤ 1; omega, s1⟩
        | ok a =>
          rw [hd] at s1
          obtain ⟨e', c', p'⟩ := a
          obtain ⟨-, -, r3, -⟩ := d_hc_ok hd
          subst r3
          exact ⟨1, m', x_app S' nd v, x_to.one (by show 0 ≤ 1; omega) s1, hN, by omega, Nat.le_refl _, rfl, fun _ _ _ _ => rfl⟩
      · rw [if_neg ccl]
        refine ⟨0, by show 0 ≤ 1; omega, ?_⟩
        rw [st]
        unfold x_bas
        dsimp only
        rw [if_neg (fun z => c44 z.1), if_neg]
        rcases hk with ⟨r, r2⟩ | ⟨r, r2⟩
        · rw [r]
          rintro (⟨z, _⟩ | ⟨_, z⟩)
          · exact ccl (by rw [z, r2])
          · exact absurd z (by decide)
        · rw [r]
          rintro (⟨_, z⟩ | ⟨z, _⟩)
          · exact absurd z (by decide)
          · exact ccl (by rw [z, r2])
theorem x_es (hW : d_W mk T) (hT : T ≤ 120) (hU : x_U mk pl T K0.length full up) (hfull : full = false) {k cl : Int32} {p nd e lo mid m : Nat} {V0 : List Nat} {c : aB} {S : aN} (hk : (k = -1 ∧ cl = 41) ∨ (k = -3 ∧ cl = 93)) (he : 11 ≤ e % 32) (he4 : e / 32 < 400) (hN : n_T S false lo mid nd e c) (hlm : lo ≤ mid) (hmm : mid ≤ m) (hnd : nd < m) (hm : m ≤ 2 * p + 5) (hp : p + 1 < T) : x_Re mk pl (1, p + 1, (k, p, nd) :: K0, V0, m, S) K0 V0 lo nd e m c S (d_es mk pl up cl c (p + 1)) := by
  unfold d_es
  by_cases ccl : mk (p + 1) = cl
  · rw [if_pos ccl]
    have k0 : k ≠ 0 := by rcases hk with ⟨r, _⟩ | ⟨r, _⟩ <;> (rw [r]; decide)
    have s1 : x_step mk pl (1, p + 1, (k, p, nd) :: K0, V0, m, S) = x_fin pl (p + 1 + 1) nd K0 V0 m S := by
      unfold x_step
      dsimp only
      rw [if_pos rfl]
      have n1 : ∀ x : Int32, x = 1 ∨ x = 3 ∨ x = 4 ∨ x = 21 ∨ x = 45 ∨ x = 40 ∨ x = 91 → mk (p + 1) ≠ x := fun x hx z => by
        rw [ccl] at z
        rcases hk with ⟨_, r2⟩ | ⟨_, r2⟩ <;> (rw [r2] at z; subst z; revert hx; decide)
      unfold x_part
      dsimp only
      rw [if_neg (by rintro (z | z | z) <;> exact n1 _ (by decide) z), if_neg (fun z => n1 21 (by decide) z.1), if_neg (n1 45 (by decide)), if_neg (n1 40 (by decide)), if_neg (n1 91 (by decide)), if_pos]
      · unfold x_end
        dsimp only
        rw [if_neg k0, if_neg (by decide)]
      · refine ⟨rfl, ?_⟩
        rcases hk with ⟨r, r2⟩ | ⟨r, r2⟩
        · exact Or.inl ⟨by rw [ccl, r2], r⟩
        · exact Or.inr ⟨by rw [ccl, r2], r⟩
    rw [x_fin_hc hN he hlm (by omega) he4] at s1
    unfold x_Re
    dsimp only
    cases hd : d_hc pl e c (p + 1 + 1) with
    | error q =>
      rw [hd] at s1
      exact ⟨0, by show 1 ≤ 1; omega, s1⟩
    | ok a =>
      rw [hd] at s1
      obtain ⟨e', c', p'⟩ := a
      obtain ⟨-, -, r3, -⟩ := d_hc_ok hd
      subst r3
      exact ⟨1, m, S, x_to.one (by show 1 ≤ 1; omega) s1, hN.wide (Nat.le_refl _) hmm, by omega, Nat.le_refl _, rfl, fun _ _ _ _ => rfl⟩
  · rw [if_neg ccl]
    have hB : x_B 1 ((k, p, nd) :: K0) := by
      rcases hk with ⟨r, _⟩ | ⟨r, _⟩
      · exact Or.inl (Or.inr (Or.inl r))
      · exact Or.inl (Or.inr (Or.inr (Or.inr r)))
    have hup := hU.2.2 hfull 1 (p + 1) ((k, p, nd) :: K0) V0 m S (by simp) (by omega) (by omega) hB (fun z => absurd z (by omega)) (fun z => by
      rcases hk with ⟨r, r2⟩ | ⟨r, r2⟩
      · rcases z.2 with z | z
        · exact ccl (by rw [z.1, r2])
        · rw [r] at z; exact absurd z.2 (by decide)
      · rcases z.2 with z | z
        · rw [r] at z; exact absurd z.2 (by decide)
        · exact ccl (by rw [z.1, r2])) (by omega) hp
    cases hr : up 1 (p + 1) with
    | error q =>
      rw [hr] at hup
      exact hup
    | ok a =>
      obtain ⟨e3, c3, p3⟩ := a
      rw [hr] at hup
      obtain ⟨n, K, V, m1, S1, v3, m3, S3, h1, h2, h3, h4⟩ := hup
      have q3 := hU.2.1 _ _ _ _ _ (by omega) hr
      obtain ⟨q31, q32, q33, -⟩ := q3
      have q311 := q31.1
      have hm3 : m3 = m + b_sz c3 + 1 := h4.2.2.1
      obtain ⟨a1, a2, a3, a4⟩ := x_app_T hN hlm hmm hnd h4 (by omega) he q33.ge
      have hvm : m ≤ v3 := h4.1
      refine x_Re.from (c1 := b_add c e3 c3) (S1 := x_app S3 nd v3) (m1 := m3) h1 (by rw [b_sz_add]; omega) (by omega) (a3.trans (h4.2.2.2.2.2 6 nd hnd)) (fun f k' q1 q2 => ?_) (x_el hW hT hU hfull hk he he4 120 (b_add c e3 c3) p3 (p3, K, V, m1, S1) v3 m3 S3 (x_beh_bas h2 h3 hB) a1 (by omega) (by omega) (by omega) q311 (by omega) (by omega))
      rw [a2 f k' q2 (by omega) (by omega), h4.2.2.2.2.2 f k' (by omega)]
end PTL
end PTS
end
section
/-! THE REFERENCE'S WAY is the grammar's: expressions -/
section TRS
variable {mk : Nat → Int32} {pl : Nat → Nat} {T : Nat} {full : Bool} {up : Nat → Nat → aG} {K0 : List xK}
theorem x_U.len (hU : x_U mk pl T K0.length full up) (h : full = true) : K0.length = 12 := hU.1.mp h
theorem x_U.nlen (hU : x_U mk pl T K0.length full up) (h : ¬ full = true) : K0.length ≠ 12 := fun z => h (hU.1.mpr z)
theorem x_st1 {X : xX} : x_step mk pl (1, X) = x_part mk pl X := by
  unfold x_step
  dsimp only
  rw [if_pos rfl]
theorem x_st0 {X : xX} : x_step mk pl (0, X) = x_beh mk pl X := by
  unfold x_step
  dsimp only
  rw [if_neg (by decide)]
/-- a member, a call, an index -/
theorem x_p1 (hW : d_W mk T) (hT : T ≤ 120) (hU : x_U mk pl T K0.length full up) {p e m m1 v : Nat} {c : aB} {V0 : List Nat} {S S1 : aN} (hb : mk p = 40 ∨ mk p = 91 ∨ mk p = 46) (hv : x_N S m S1 m1 v e c) (he : 11 ≤ e % 32) (hm : m1 ≤ 2 * p + 3) (hp : p < T) : x_R8 mk pl (0, p, K0, v :: V0, m1, S1) K0 V0 m S (d_p1 mk pl full up e c p) := by
  have hvl : m ≤ v := hv.1
  have hvh : v < m1 := hv.2.1
  have hms : m1 = m + b_sz c + 1 := hv.2.2.1
  unfold d_p1
  by_cases c46 : mk p = 46
  · rw [if_pos c46]
    have st : x_step mk pl (0, p, K0, v :: V0, m1, S1) = x_mem mk pl (p, K0, v :: V0, m1, S1) := by
      rw [x_st0]
      unfold x_beh
      dsimp only
      rw [if_neg (by rw [c46]; decide), if_neg (by rw [c46]; decide), if_pos c46]
    by_cases c1 : mk (p + 1) = 1
    · rw [if_pos c1]
      have hT2 := hW.lt c1 (by decide)
      have hu := x_un_N (kd := 19) (t := nI (p + 1)) (e := 19 + 32 * (p + 1)) hv (by omega) (by rw [show (19 + 32 * (p + 1)) % 32 = 19 from by omega]; rfl) (by rw [show (19 + 32 * (p + 1)) / 32 = p + 1 from by omega]) (by omega) he
      have s1 : x_step mk pl (0, p, K0, v :: V0, m1, S1) = x_fin pl (p + 2) m1 K0 V0 (m1 + 1) (x_app (n_add S1 m1 19 (nI (p + 1))) m1 v) := by
        rw [st]
        unfold x_mem
        dsimp only
        rw [if_pos c1]
      rw [x_fin_hc hu.2.2.2.1 (by omega) (by omega) (by omega) (by omega)] at s1
      cases hd : d_hc pl (19 + 32 * (p + 1)) (.branch e c b_0) (p + 2) with
      | error q =>
        rw [hd] at s1
        exact ⟨0, by show 0 ≤ 1; omega, s1⟩
      | ok a =>
        obtain ⟨e', c', p'⟩ := a
        rw [hd] at s1
        obtain ⟨r1, r2, r3, -⟩ := d_hc_ok hd
        subst r1 r2 r3
        exact ⟨1, m1, _, _, x_to.one (by show 0 ≤ 1; omega) s1, hu⟩
    · rw [if_neg c1]
      refine ⟨0, by show 0 ≤ 1; omega, ?_⟩
      rw [st]
      unfold x_mem
      dsimp only
      rw [if_neg c1]
  · rw [if_neg c46]
    by_cases c40 : mk p = 40
    · rw [if_pos c40]
      have hT2 := hW.lt c40 (by decide)
      have st : x_step mk pl (0, p, K0, v :: V0, m1, S1) = x_ent pl (-1) m1 (p, K0, V0, m1 + 1, x_app (n_add S1 m1 17 (nI p)) m1 v) := by
        rw [x_st0]
        unfold x_beh
        dsimp only
        rw [if_pos c40]
        rfl
      by_cases cf : full = true
      · rw [if_pos cf]
        refine ⟨0, by show 0 ≤ 1; omega, ?_⟩
        rw [st]
        unfold x_ent
        dsimp only
        rw [if_pos (hU.len cf)]
      · rw [if_neg cf]
        have s1 : x_step mk pl (0, p, K0, v :: V0, m1, S1) = .ok (1, p + 1, (-1, p, m1) :: K0, V0, m1 + 1, x_app (n_add S1 m1 17 (nI p)) m1 v) := by
          rw [st]
          unfold x_ent
          dsimp only
          rw [if_neg (hU.nlen cf)]
        obtain ⟨u1, u2, u3⟩ := x_un (kd := 17) (t := nI p) (e := 17 + 32 * p) hv (by omega) (by rw [show (17 + 32 * p) % 32 = 17 from by omega]; rfl) (by rw [show (17 + 32 * p) / 32 = p from by omega]) (by omega) he
        have hes := x_es (V0 := V0) (k := -1) (cl := 41) (p := p) (m := m1 + 1) hW hT hU (by simpa using cf) (Or.inl ⟨rfl, rfl⟩) (by omega) (by omega) u1 (by omega) (by omega) (by omega) (by omega) hT2
        have hto := x_to.one (mk := mk) (pl := pl) (by show 0 ≤ 1; omega) s1
        cases hr : d_es mk pl up 41 (.branch e c b_0) (p + 1) with
        | error q =>
          rw [hr] at hes
          obtain ⟨n, hn⟩ := hes
          exact hto.er hn
        | ok a =>
          obtain ⟨c2, p2⟩ := a
          rw [hr] at hes
          unfold x_Re at hes
          dsimp only at hes ⊢
          cases hd : d_hc pl (17 + 32 * p) c2 p2 with
          | error q =>
            rw [hd] at hes
            obtain ⟨n, hn⟩ := hes
            exact hto.er hn
          | ok b =>
            rw [hd] at hes
            obtain ⟨e', c', p'⟩ := b
            obtain ⟨r1, r2, r3, -⟩ := d_hc_ok hd
            subst r1 r2 r3
            obtain ⟨n, m', S', h1, h2, h3, h0, h4, h5⟩ := hes
            obtain ⟨n2, hto2⟩ := hto.trans h1
            simp only [b_sz] at h3
            refine ⟨n2, m1, m', S', hto2, by omega, by omega, by omega, h2, h4.trans u2, fun f k hk => ?_⟩
            rw [h5 f k hk (by omega), u3 f k (by omega) (by omega), hv.2.2.2.2.2 f k hk]
    · rw [if_neg c40]
      have c91 : mk p = 91 := by
        rcases hb with r | r | r
        · exact absurd r c40
        · exact r
        · exact absurd r c46
      have hT2 := hW.lt c91 (by decide)
      have st : x_step mk pl (0, p, K0, v :: V0, m1, S1) = x_ent pl (-2) m1 (p, K0, V0, m1 + 1, x_app (n_add S1 m1 18 (nI p)) m1 v) := by
        rw [x_st0]
        unfold x_beh
        dsimp only
        rw [if_neg c40, if_pos c91]
        rfl
      by_cases cf : full = true
      · rw [if_pos cf]
        refine ⟨0, by show 0 ≤ 1; omega, ?_⟩
        rw [st]
        unfold x_ent
        dsimp only
        rw [if_pos (hU.len cf)]
      · rw [if_neg cf]
        have s1 : x_step mk pl (0, p, K0, v :: V0, m1, S1) = .ok (1, p + 1, (-2, p, m1) :: K0, V0, m1 + 1, x_app (n_add S1 m1 18 (nI p)) m1 v) := by
          rw [st]
          unfold x_ent
          dsimp only
          rw [if_neg (hU.nlen cf)]
        obtain ⟨u1, u2, u3⟩ := x_un (kd := 18) (t := nI p) (e := 18 + 32 * p) hv (by omega) (by rw [show (18 + 32 * p) % 32 = 18 from by omega]; rfl) (by rw [show (18 + 32 * p) / 32 = p from by omega]) (by omega) he
        have hto := x_to.one (mk := mk) (pl := pl) (by show 0 ≤ 1; omega) s1
        have hB : x_B 1 (((-2 : Int32), p, m1) :: K0) := Or.inl (Or.inr (Or.inr (Or.inl rfl)))
        have hup := hU.2.2 (by simpa using cf) 1 (p + 1) ((-2, p, m1) :: K0) V0 (m1 + 1) (x_app (n_add S1 m1 18 (nI p)) m1 v) (by simp) (by omega) (by omega) hB (fun z => absurd z (by omega)) (fun z => by
          rcases z.2 with z | z <;> exact absurd z.2 (by decide)) (by omega) hT2
        cases hr : up 1 (p + 1) with
        | error q =>
          rw [hr] at hup
          obtain ⟨n, hn⟩ := hup
          exact hto.er hn
        | ok a =>
          obtain ⟨e3, c3, p3⟩ := a
          rw [hr] at hup
          obtain ⟨n, K, V, m2, S2, v3, m3, S3, h1, h2, h3, h4⟩ := hup
          have q3 := hU.2.1 _ _ _ _ _ (by omega) hr
          obtain ⟨q31, q32, q33, -⟩ := q3
          have q311 := q31.1
          have hm3 : m3 = m1 + 1 + b_sz c3 + 1 := h4.2.2.1
          have hbas := x_beh_bas h2 h3 hB
          obtain ⟨n2, hto2⟩ := hto.trans h1
          dsimp only
          by_cases c93 : mk p3 = 93
          · rw [if_pos c93]
            have hT3 := hW.lt c93 (by decide)
            obtain ⟨a1, a2, a3, a4⟩ := x_app_T u1 (by omega) (Nat.le_succ _) (Nat.lt_succ_self _) h4 (by omega) (by omega) q33.ge
            have s2 : x_step mk pl (0, p3, K, V, m2, S2) = x_fin pl (p3 + 1) m1 K0 V0 m3 (x_app S3 m1 v3) := by
              rw [x_st0, hbas]
              unfold x_bas
              dsimp only
              rw [if_neg (by rw [c93]; decide), if_pos (Or.inr ⟨c93, by decide⟩)]
              rfl
            rw [x_fin_hc a1 (by omega) (by omega) (by omega) (by omega)] at s2
            have eb : b_add (.branch e c b_0) e3 c3 = .branch e c (.branch e3 c3 b_0) := rfl
            rw [eb] at s2 a1
            cases hd : d_hc pl (18 + 32 * p) (.branch e c (.branch e3 c3 b_0)) (p3 + 1) with
            | error q =>
              rw [hd] at s2
              exact hto2.er (n' := 0) ⟨by show 0 ≤ 1; omega, s2⟩
            | ok b =>
              rw [hd] at s2
              obtain ⟨e', c', p'⟩ := b
              obtain ⟨r1, r2, r3, -⟩ := d_hc_ok hd
              subst r1 r2 r3
              obtain ⟨n3, hto3⟩ := hto2.trans (x_to.one (by show 0 ≤ 1; omega) s2)
              have hv3 : m1 + 1 ≤ v3 := h4.1
              refine ⟨n3, m1, m3, _, hto3, by omega, by omega, by simp only [b_sz]; omega, a1, ?_, fun f k hk => ?_⟩
              · rw [a3, h4.2.2.2.2.2 6 m1 (by omega), u2]
              · rw [a2 f k (by omega) (by omega) (by omega), h4.2.2.2.2.2 f k (by omega), u3 f k (by omega) (by omega), hv.2.2.2.2.2 f k hk]
          · rw [if_neg c93]
            refine hto2.er (n' := 0) ⟨by show 0 ≤ 1; omega, ?_⟩
            rw [x_st0, hbas]
            unfold x_bas
            dsimp only
            rw [if_neg (fun z => by rcases z.2 with z | z <;> exact absurd z (by decide)), if_neg]
            rintro (⟨_, z⟩ | ⟨z, _⟩)
            · exact absurd z (by decide)
            · exact c93 z
theorem d_el_lt (hQ : ∀ s p e c p', 1 ≤ s → up s p = .ok (e, c, p') → d_Q mk T p e c p') {cl : Int32} : ∀ (i : Nat) (c : aB) (p : Nat) {c' : aB} {p' : Nat}, d_el mk pl up cl i c p = .ok (c', p') → p < p'
  | 0, c, p, c', p', h => by
    unfold d_el at h
    split at h
    · cases h; omega
    · cases h
  | i + 1, c, p, c', p', h => by
    unfold d_el at h
    split at h
    · split at h
      · cases h
      · next e2 c2 p2 hup =>
        have := (hQ _ _ _ _ _ (by omega) hup).2.1
        have := d_el_lt hQ i _ _ h
        omega
    · split at h
      · cases h; omega
      · cases h
theorem d_es_lt (hQ : ∀ s p e c p', 1 ≤ s → up s p = .ok (e, c, p') → d_Q mk T p e c p') {cl : Int32} {c : aB} {p : Nat} {c' : aB} {p' : Nat} (h : d_es mk pl up cl c p = .ok (c', p')) : p < p' := by
  unfold d_es at h
  split at h
  · cases h; omega
  · split at h
    · cases h
    · next e2 c2 p2 hup =>
      have := (hQ _ _ _ _ _ (by omega) hup).2.1
      have := d_el_lt hQ _ _ _ h
      omega
theorem d_p1_lt (hQ : ∀ s p e c p', 1 ≤ s → up s p = .ok (e, c, p') → d_Q mk T p e c p') {e p e' p' : Nat} {c c' : aB} (h : d_p1 mk pl full up e c p = .ok (e', c', p')) : p < p' := by
  unfold d_p1 at h
  split at h
  · split at h
    · obtain ⟨-, -, r, -⟩ := d_hc_ok h
      omega
    · cases h
  split at h
  · split at h
    · cases h
    · split at h
      · cases h
      · next c2 p2 hes =>
        obtain ⟨-, -, r, -⟩ := d_hc_ok h
        have := d_es_lt hQ hes
        omega
  · split at h
    · cases h
    · split at h
      · cases h
      · next e2 c2 p2 hup =>
        have := (hQ _ _ _ _ _ (by omega) hup).2.1
        split at h
        · obtain ⟨-, -, r, -⟩ := d_hc_ok h
          omega
        · cases h
theorem x_pl (hW : d_W mk T) (hT : T ≤ 120) (hU : x_U mk pl T K0.length full up) {p0 m : Nat} {V0 : List Nat} {S : aN} (hm : m ≤ 2 * p0 + 3) : ∀ (i e : Nat) (c : aB) (p v m1 : Nat) (S1 : aN), x_N S m S1 m1 v e c → d_Q mk T p0 e c p → 120 ≤ i + p → x_R8 mk pl (0, p, K0, v :: V0, m1, S1) K0 V0 m S (d_pl mk pl full up i e c p) ∧ (∀ e' c' p', d_pl mk pl full up i e c p = .ok (e', c', p') → mk p' ≠ 40 ∧ mk p' ≠ 91 ∧ mk p' ≠ 46)
  | 0, e, c, p, v, m1, S1, hv, hq, hi => by have := hq.1.1; omega
  | i + 1, e, c, p, v, m1, S1, hv, hq, hi => by
    unfold d_pl
    have hs := hq.2.1
    have hms : m1 = m + b_sz c + 1 := hv.2.2.1
    by_cases cb : mk p = 40 ∨ mk p = 91 ∨ mk p = 46
    · rw [if_pos cb]
      have h1 := x_p1 (V0 := V0) hW hT hU cb hv hq.2.2.1.ge (by omega) hq.1.1
      cases hr : d_p1 mk pl full up e c p with
      | error q =>
        rw [hr] at h1
        exact ⟨h1, fun _ _ _ z => by cases z⟩
      | ok a =>
        obtain ⟨e2, c2, p2⟩ := a
        rw [hr] at h1
        obtain ⟨n, v2, m2, S2, k1, k2⟩ := h1
        have hq2 := d_p1_Q hW hU.2.1 cb hq hr
        have hlt := d_p1_lt hU.2.1 hr
        have := x_pl (V0 := V0) hW hT hU hm i e2 c2 p2 v2 m2 S2 k2 hq2 (by omega)
        exact ⟨this.1.from k1, this.2⟩
    · rw [if_neg cb]
      refine ⟨⟨0, v, m1, S1, rfl, hv⟩, fun e' c' p' z => ?_⟩
      cases z
      exact ⟨fun z => cb (Or.inl z), fun z => cb (Or.inr (Or.inl z)), fun z => cb (Or.inr (Or.inr z))⟩
end TRS
end
section
/-! THE REFERENCE'S WAY is the grammar's: atoms, operators, the whole expression -/
section EXS
variable {mk : Nat → Int32} {pl : Nat → Nat} {T : Nat} {full : Bool} {up : Nat → Nat → aG} {K0 : List xK} {V0 : List Nat} {m : Nat} {S : aN}
theorem x_R.from {s : Nat} {z z' : Nat × xX} {r : aG} {n : Nat} (h : x_to mk pl n z z') (h2 : x_R mk pl s z' K0 V0 m S r) : x_R mk pl s z K0 V0 m S r := by
  cases r with
  | error q =>
    obtain ⟨n', h'⟩ := h2
    exact h.er h'
  | ok a =>
    obtain ⟨e, c, p'⟩ := a
    obtain ⟨n', K, V, m1, S1, v, m', S', h1, h2⟩ := h2
    obtain ⟨k, hk⟩ := h.trans h1
    exact ⟨k, K, V, m1, S1, v, m', S', hk, h2⟩
theorem x_at (hW : d_W mk T) (hT : T ≤ 120) (hU : x_U mk pl T K0.length full up) {p : Nat} (hA : mk p = 21 → ¬ (K0 = [] ∨ ¬ 3 < x_top K0)) (hE : x_Em mk p K0) (h45 : mk p ≠ 45) (hm : m ≤ 2 * p + 3) (hp : p < T) : x_R8 mk pl (1, p, K0, V0, m, S) K0 V0 m S (d_at mk pl full up p) := by
  have lf : ∀ k : Nat, k < 32 → (mk p = 1 ∨ mk p = 3 ∨ mk p = 4) → (if mk p = 1 then 20 else if mk p = 3 then 21 else 22 : Int32) = nI k → x_R8 mk pl (1, p, K0, V0, m, S) K0 V0 m S (.ok (k + 32 * p, b_0, p + 1)) := fun k hk h h2 => by
    refine ⟨1, m, m + 1, n_add S m (nI k) (nI p), x_to.one (by show 1 ≤ 1; omega) ?_, x_leaf (by rw [show (k + 32 * p) % 32 = k from by omega]) (by rw [show (k + 32 * p) / 32 = p from by omega])⟩
    rw [x_st1]
    unfold x_part
    dsimp only
    rw [if_pos h, h2]
  unfold d_at
  by_cases c1 : mk p = 1
  · rw [if_pos c1]
    exact lf 20 (by decide) (Or.inl c1) (by rw [if_pos c1]; rfl)
  rw [if_neg c1]
  by_cases c3 : mk p = 3
  · rw [if_pos c3]
    exact lf 21 (by decide) (Or.inr (Or.inl c3)) (by rw [if_neg c1, if_pos c3]; rfl)
  rw [if_neg c3]
  by_cases c4 : mk p = 4
  · rw [if_pos c4]
    exact lf 22 (by decide) (Or.inr (Or.inr c4)) (by rw [if_neg c1, if_neg c3]; rfl)
  rw [if_neg c4]
  have n1 : ¬ (mk p = 1 ∨ mk p = 3 ∨ mk p = 4) := by
    rintro (z | z | z)
    · exact c1 z
    · exact c3 z
    · exact c4 z
  by_cases c40 : mk p = 40
  · rw [if_pos c40]
    have hT2 := hW.lt c40 (by decide)
    have st : x_step mk pl (1, p, K0, V0, m, S) = x_ent pl 0 0 (p, K0, V0, m, S) := by
      rw [x_st1]
      unfold x_part
      dsimp only
      rw [if_neg n1, if_neg (fun z => by rw [c40] at z; exact absurd z.1 (by decide)), if_neg h45, if_pos c40]
    by_cases cf : full = true
    · rw [if_pos cf]
      refine ⟨0, by show 1 ≤ 1; omega, ?_⟩
      rw [st]
      unfold x_ent
      dsimp only
      rw [if_pos (hU.len cf)]
    · rw [if_neg cf]
      have s1 : x_step mk pl (1, p, K0, V0, m, S) = .ok (1, p + 1, (0, p, 0) :: K0, V0, m, S) := by
        rw [st]
        unfold x_ent
        dsimp only
        rw [if_neg (hU.nlen cf)]
      have hto := x_to.one (mk := mk) (pl := pl) (by show 1 ≤ 1; omega) s1
      have hB : x_B 1 (((0 : Int32), p, 0) :: K0) := Or.inl (Or.inl rfl)
      have hup := hU.2.2 (by simpa using cf) 1 (p + 1) ((0, p, 0) :: K0) V0 m S (by simp) (by omega) (by omega) hB (fun z => absurd z (by omega)) (fun z => by
        rcases z.2 with z | z <;> exact absurd z.2 (by decide)) (by omega) hT2
      cases hr : up 1 (p + 1) with
      | error q =>
        rw [hr] at hup
        obtain ⟨n, hn⟩ := hup
        exact hto.er hn
      | ok a =>
        obtain ⟨e3, c3', p3⟩ := a
        rw [hr] at hup
        obtain ⟨n, K, V, m2, S2, v3, m3, S3, h1, h2, h3, h4⟩ := hup
        have hbas := x_beh_bas h2 h3 hB
        obtain ⟨n2, hto2⟩ := hto.trans h1
        dsimp only
        by_cases c41 : mk p3 = 41
        · rw [if_pos c41]
          have s2 : x_step mk pl (0, p3, K, V, m2, S2) = .ok (0, p3 + 1, K0, v3 :: V0, m3, S3) := by
            rw [x_st0, hbas]
            unfold x_bas
            dsimp only
            rw [if_neg (by rw [c41]; decide), if_pos (Or.inl ⟨c41, Or.inl rfl⟩)]
            unfold x_end
            dsimp only
            rw [if_pos rfl]
          obtain ⟨n3, hto3⟩ := hto2.trans (x_to.one (by show 0 ≤ 1; omega) s2)
          exact ⟨n3, v3, m3, S3, hto3, h4⟩
        · rw [if_neg c41]
          refine hto2.er (n' := 0) ⟨by show 0 ≤ 1; omega, ?_⟩
          rw [x_st0, hbas]
          unfold x_bas
          dsimp only
          rw [if_neg (fun z => by rcases z.2 with z | z <;> exact absurd z (by decide)), if_neg]
          rintro (⟨z, _⟩ | ⟨_, z⟩)
          · exact c41 z
          · exact absurd z (by decide)
  rw [if_neg c40]
  by_cases c91 : mk p = 91
  · rw [if_pos c91]
    have hT2 := hW.lt c91 (by decide)
    have st : x_step mk pl (1, p, K0, V0, m, S) = x_ent pl (-3) m (p, K0, V0, m + 1, n_add S m 23 (nI p)) := by
      rw [x_st1]
      unfold x_part
      dsimp only
      rw [if_neg n1, if_neg (fun z => by rw [c91] at z; exact absurd z.1 (by decide)), if_neg h45, if_neg c40, if_pos c91]
    by_cases cf : full = true
    · rw [if_pos cf]
      refine ⟨0, by show 1 ≤ 1; omega, ?_⟩
      rw [st]
      unfold x_ent
      dsimp only
      rw [if_pos (hU.len cf)]
    · rw [if_neg cf]
      have s1 : x_step mk pl (1, p, K0, V0, m, S) = .ok (1, p + 1, (-3, p, m) :: K0, V0, m + 1, n_add S m 23 (nI p)) := by
        rw [st]
        unfold x_ent
        dsimp only
        rw [if_neg (hU.nlen cf)]
      have u1 : n_T (n_add S m 23 (nI p)) false (m + 1) (m + 1) m (23 + 32 * p) b_0 := n_add_T (by rw [show (23 + 32 * p) % 32 = 23 from by omega]; rfl) (fun _ => by rw [show (23 + 32 * p) / 32 = p from by omega])
      have hes := x_es (V0 := V0) (k := -3) (cl := 93) (p := p) (m := m + 1) hW hT hU (by simpa using cf) (Or.inr ⟨rfl, rfl⟩) (by omega) (by omega) u1 (Nat.le_refl _) (Nat.le_refl _) (by omega) (by omega) hT2
      have hto := x_to.one (mk := mk) (pl := pl) (by show 1 ≤ 1; omega) s1
      cases hr : d_es mk pl up 93 b_0 (p + 1) with
      | error q =>
        rw [hr] at hes
        obtain ⟨n, hn⟩ := hes
        exact hto.er hn
      | ok a =>
        obtain ⟨c2, p2⟩ := a
        rw [hr] at hes
        unfold x_Re at hes
        dsimp only at hes ⊢
        cases hd : d_hc pl (23 + 32 * p) c2 p2 with
        | error q =>
          rw [hd] at hes
          obtain ⟨n, hn⟩ := hes
          exact hto.er hn
        | ok b =>
          rw [hd] at hes
          obtain ⟨e', c', p'⟩ := b
          obtain ⟨r1, r2, r3, -⟩ := d_hc_ok hd
          subst r1 r2 r3
          obtain ⟨n, m', S', h1, h2, h3, h0, h4, h5⟩ := hes
          obtain ⟨n2, hto2⟩ := hto.trans h1
          simp only [b_sz] at h3
          refine ⟨n2, m, m', S', hto2, Nat.le_refl _, by omega, by omega, h2.wide (by omega) (Nat.le_refl _), h4.trans n_add_6.1, fun f k hk => ?_⟩
          rw [h5 f k (by omega) (by omega), n_add_o (by omega)]
  rw [if_neg c91]
  refine ⟨0, by show 1 ≤ 1; omega, ?_⟩
  rw [x_st1]
  unfold x_part
  dsimp only
  rw [if_neg n1, if_neg (fun z => hA z.1 z.2), if_neg h45, if_neg c40, if_neg c91]
  match K0, hE with
  | [], _ => rfl
  | (k, t, nd) :: K', hE =>
    dsimp only
    rw [if_neg hE]
theorem nI_10 {h : Nat} (hh : h < 2 ^ 20) : (10 : Int32) < nI h ↔ 10 < h :=
  ⟨fun z => Decidable.byContradiction fun q => nI_nlt (b := h) (a := 10) (by omega) (by omega) z, fun z => nI_lt (a := 10) z (by omega)⟩
/-- a sign before an operand is closed -/
theorem x_pop1 {S' : aN} {m' v e p t l s : Nat} {c : aB} (hv : x_N S m S' m' v e c) (he : 11 ≤ e % 32) (hm' : m' < 400) (ht : t < 400) (hs : s = 3 ∨ s = 7) (hl : l ≤ s) : x_close pl (nI l) ((nI s, t, 0) :: K0) (v :: V0) m' S' = match d_hc pl ((if s = 3 then 13 else 16) + 32 * t) (.branch e c b_0) p with
    | .error q => .error q
    | .ok _ => x_close pl (nI l) K0 (m' :: V0) (m' + 1) (x_app (n_add S' m' (x_kd (nI s)) (nI t)) m' v) := by
  have hN := x_un_N (kd := x_kd (nI s)) (t := nI t) (e := (if s = 3 then 13 else 16) + 32 * t) hv hm' (by rcases hs with r | r <;> subst r <;> (simp only [reduceIte, show ((7 : Nat) = 3) = False from by decide]; rw [Nat.add_mul_mod_self_left]; rfl)) (by rcases hs with r | r <;> subst r <;> (simp only [reduceIte, show ((7 : Nat) = 3) = False from by decide]; congr 1; omega)) (by split <;> omega) he
  have hT := hN.2.2.2.1
  have hb := (b_ht_lt (by have := hN.1; have := hN.2.1; omega) hT.2).1
  have ms := hv.2.2.1
  have h2 := hT.1.2.2.2 (by split <;> omega)
  conv => lhs; unfold x_close
  unfold d_hc
  rw [if_neg (nI_nlt hl (by omega)), if_pos (by rcases hs with r | r <;> subst r <;> decide)]
  dsimp only
  rw [h2]
  by_cases c1 : 10 < b_ht (.branch e c b_0) + 1
  · rw [if_pos c1, if_pos ((nI_10 (by omega)).mpr c1), show ((if s = 3 then 13 else 16) + 32 * t) / 32 = t from by split <;> omega]
  · rw [if_neg c1, if_neg (fun z => c1 ((nI_10 (by omega)).mp z))]
/-- an operator between two is closed -/
theorem x_pop2 {S1 S2 : aN} {m1 m2 v1 v2 e1 e2 p t l s : Nat} {c1 c2 : aB} (hv : x_N S m S1 m1 v1 e1 c1) (hw : x_N S1 m1 S2 m2 v2 e2 c2) (he1 : 11 ≤ e1 % 32) (he2 : 11 ≤ e2 % 32) (hm2 : m2 < 400) (ht : t < 400) (hs : s = 1 ∨ s = 2 ∨ s = 4 ∨ s = 5 ∨ s = 6) (hl : l ≤ s) : x_close pl (nI l) ((nI s, t, 0) :: K0) (v2 :: v1 :: V0) m2 S2 = match d_hc pl (d_kb s + 32 * t) (.branch e1 c1 (.branch e2 c2 b_0)) p with
    | .error q => .error q
    | .ok _ => x_close pl (nI l) K0 (m2 :: V0) (m2 + 1) (x_app (x_app (n_add S2 m2 (x_kd (nI s)) (nI t)) m2 v1) m2 v2) := by
  have k1 : d_kb s < 32 ∧ 11 ≤ d_kb s ∧ x_kd (nI s) = nI (d_kb s) := by rcases hs with r | r | r | r | r <;> (subst r; decide)
  have hN := x_bi_N (kd := x_kd (nI s)) (t := nI t) (e := d_kb s + 32 * t) hv hw hm2 (by rw [show (d_kb s + 32 * t) % 32 = d_kb s from by omega]; exact k1.2.2) (by rw [show (d_kb s + 32 * t) / 32 = t from by omega]) (by omega) he1 he2
  have hT := hN.2.2.2.1
  have hb := (b_ht_lt (by have := hN.1; have := hN.2.1; omega) hT.2).1
  have h2 := hT.1.2.2.2 (by omega)
  conv => lhs; unfold x_close
  unfold d_hc
  rw [if_neg (nI_nlt hl (by omega)), if_neg (by rcases hs with r | r | r | r | r <;> subst r <;> decide)]
  dsimp only
  rw [h2]
  by_cases c1' : 10 < b_ht (.branch e1 c1 (.branch e2 c2 b_0)) + 1
  · rw [if_pos c1', if_pos ((nI_10 (by omega)).mpr c1'), show (d_kb s + 32 * t) / 32 = t from by omega]
  · rw [if_neg c1', if_neg (fun z => c1' ((nI_10 (by omega)).mp z))]
end EXS
end
section
/-! THE REFERENCE'S WAY is the grammar's: the rules by strength -/
section DSC
variable {mk : Nat → Int32} {pl : Nat → Nat} {T : Nat} {full : Bool} {up : Nat → Nat → aG} {K0 : List xK} {V0 : List Nat} {m : Nat} {S : aN}
theorem x_C.low {s s' p m' m1 : Nat} {K : List xK} {V V' : List Nat} {S1 S' : aN} (h : x_C mk pl s' p K V m1 S1 K0 V' m' S') (hs : s ≤ s') (h4 : d_sb (mk p) = 4 → s ≤ 4 → s' ≤ 4) : x_C mk pl s p K V m1 S1 K0 V' m' S' :=
  ⟨fun l l1 l2 => h.1 l l1 (by omega), fun d1 d2 => by
    obtain ⟨K1, V1, m2, S2, k1, k2, k3⟩ := h.2 d1 (h4 d1 d2)
    exact ⟨K1, V1, m2, S2, k1, k2, fun l l1 l2 => k3 l l1 (by omega)⟩⟩
theorem x_bl (hW : d_W mk T) (hT : T ≤ 120) (hU : x_U mk pl T K0.length full up) {s p0 : Nat} (hs : s = 1 ∨ s = 2 ∨ s = 4 ∨ s = 5 ∨ s = 6) (hB : x_B s K0) (hm : m ≤ 2 * p0 + 3) : ∀ (i e : Nat) (c : aB) (p : Nat) (K : List xK) (V : List Nat) (m1 : Nat) (S1 : aN) (v m' : Nat) (S' : aN) (s' : Nat), x_C mk pl s' p K V m1 S1 K0 (v :: V0) m' S' → mk p ≠ 40 ∧ mk p ≠ 91 ∧ mk p ≠ 46 ∧ (d_sb (mk p) ≤ s ∨ (d_sb (mk p) = 4 ∧ s ≤ 4)) → (s' = s ∨ s' = s + 1) → (s = 4 → (s' = 5 ∧ i = 1) ∨ (s' = 4 ∧ i = 0)) → (s ≠ 4 → 120 ≤ i + p) → x_N S m S' m' v e c → d_Q mk T p0 e c p → x_R mk pl s (0, p, K, V, m1, S1) K0 V0 m S (d_bl mk pl full up s i e c p)
  | 0, e, c, p, K, V, m1, S1, v, m', S', s', hC, hF, hss, h4, hi, hv, hq => by
    have hs4 : s = 4 := Decidable.byContradiction fun z => by
      have := hi z
      have := hq.1.1
      omega
    have hs' : s' = 4 := by have := h4 hs4; omega
    subst hs4 hs'
    exact ⟨0, K, V, m1, S1, v, m', S', rfl, hC, ⟨hF.1, hF.2.1, hF.2.2.1, by have := hF.2.2.2; omega⟩, hv⟩
  | i + 1, e, c, p, K, V, m1, S1, v, m', S', s', hC, hF, hss, h4, hi, hv, hq => by
    have hqs := hq.2.1
    have hms : m' = m + b_sz c + 1 := hv.2.2.1
    have hpT := hq.1.1
    unfold d_bl
    by_cases cs : d_sb (mk p) = s
    · rw [if_pos cs]
      have hT2 := hW.lt rfl (d_sb_ne cs (by omega))
      have hop := x_beh_op hC cs hs (by omega) (fun z => by have := h4 z; omega) hB
      have st : x_step mk pl (0, p, K, V, m1, S1) = x_ent pl (nI s) 0 (p, K0, v :: V0, m', S') := by rw [x_st0, hop]
      by_cases cf : full = true
      · rw [if_pos cf]
        refine ⟨0, by show 0 ≤ 1; omega, ?_⟩
        rw [st]
        unfold x_ent
        dsimp only
        rw [if_pos (hU.len cf)]
      · rw [if_neg cf]
        have s1 : x_step mk pl (0, p, K, V, m1, S1) = .ok (1, p + 1, (nI s, p, 0) :: K0, v :: V0, m', S') := by
          rw [st]
          unfold x_ent
          dsimp only
          rw [if_neg (hU.nlen cf)]
        have hto := x_to.one (mk := mk) (pl := pl) (by show 0 ≤ 1; omega) s1
        have hB' : x_B (s + 1) ((nI s, p, 0) :: K0) := Or.inr ⟨s, by omega, by omega, rfl, Or.inl (by omega)⟩
        have hE' : x_Em mk (p + 1) ((nI s, p, 0) :: K0) := fun z => by
          rcases z.2 with z | z
          · have := z.2; rcases hs with r | r | r | r | r <;> (subst r; exact absurd this (by decide))
          · have := z.2; rcases hs with r | r | r | r | r <;> (subst r; exact absurd this (by decide))
        have hA' : x_A mk (s + 1) (p + 1) ((nI s, p, 0) :: K0) := fun z1 _ z2 => by
          rcases z2 with z2 | z2
          · cases z2
          · exact z2 (show (3 : Int32) < nI s from by rcases hs with r | r | r | r | r <;> (subst r; first | decide | omega))
        have hup := hU.2.2 (by simpa using cf) (s + 1) (p + 1) ((nI s, p, 0) :: K0) (v :: V0) m' S' (by simp) (by omega) (by omega) hB' hA' hE' (by omega) hT2
        cases hr : up (s + 1) (p + 1) with
        | error q =>
          rw [hr] at hup
          obtain ⟨n, hn⟩ := hup
          exact hto.er hn
        | ok a =>
          obtain ⟨e3, c3, p3⟩ := a
          rw [hr] at hup
          obtain ⟨n, K3, V3, m2, S2, v3, m3, S3, h1, h2, h3, hN3⟩ := hup
          have q3 := hU.2.1 _ _ _ _ _ (by omega) hr
          have q32 := q3.2.1
          have q311 := q3.1.1
          have hm3 : m3 = m' + b_sz c3 + 1 := hN3.2.2.1
          obtain ⟨n2, hto2⟩ := hto.trans h1
          have k1 : d_kb s < 32 ∧ 11 ≤ d_kb s ∧ x_kd (nI s) = nI (d_kb s) := by rcases hs with r | r | r | r | r <;> (subst r; decide)
          have pop : ∀ l, l ≤ s → _ := fun l hl => x_pop2 (K0 := K0) (V0 := V0) (pl := pl) (p := p3) (t := p) (l := l) hv hN3 hq.2.2.1.ge q3.2.2.1.ge (by omega) (by omega) hs hl
          have hN := x_bi_N (kd := x_kd (nI s)) (t := nI p) (e := d_kb s + 32 * p) hv hN3 (by omega) (by rw [show (d_kb s + 32 * p) % 32 = d_kb s from by omega]; exact k1.2.2) (by rw [show (d_kb s + 32 * p) / 32 = p from by omega]) (by omega) hq.2.2.1.ge q3.2.2.1.ge
          have hC3 : x_C mk pl s p3 K3 V3 m2 S2 ((nI s, p, 0) :: K0) (v3 :: v :: V0) m3 S3 := by
            by_cases s4 : s = 4
            · refine ⟨fun l l1 l2 => h2.1 l l1 (by omega), fun d1 d2 => ⟨(nI s, p, 0) :: K0, v3 :: v :: V0, m3, S3, ?_, by rw [s4]; rfl, fun l l1 l2 => rfl⟩⟩
              rw [show (5 : Int32) = nI 5 from rfl, h2.1 5 (by omega) (by omega)]
              unfold x_close
              rw [if_pos (nI_lt (by omega) (by omega))]
            · exact h2.low (by omega) (fun d1 d2 => by omega)
          dsimp only
          cases hd : d_hc pl (d_kb s + 32 * p) (.branch e c (.branch e3 c3 b_0)) p3 with
          | error q =>
            have hx : x_beh mk pl (p3, K3, V3, m2, S2) = .error q := x_beh_err (s := s) hC3 ⟨h3.1, h3.2.1, h3.2.2.1, by have := h3.2.2.2; omega⟩ (by omega) (fun l l1 l2 => by rw [pop l l2, hd])
            exact hto2.er (n' := 0) ⟨by show 0 ≤ 1; omega, by rw [x_st0, hx]⟩
          | ok b =>
            obtain ⟨e', c', p'⟩ := b
            have hQ' : d_bl mk pl full up s 1 e c p = .ok (e', c', p') := by
              unfold d_bl
              rw [if_pos cs, if_neg cf, hr]
              dsimp only
              rw [hd]
              rfl
            have hq' := d_bl_Q hW hU.2.1 (by omega) hs 1 e c p hq hQ'
            obtain ⟨r1, r2, r3, -⟩ := d_hc_ok hd
            subst r1 r2 r3
            refine x_R.from hto2 (x_bl hW hT hU hs hB hm i _ _ p' K3 V3 m2 S2 m3 (m3 + 1) _ s ⟨fun l l1 l2 => ?_, fun d1 d2 => ?_⟩ ⟨h3.1, h3.2.1, h3.2.2.1, ?_⟩ (Or.inl rfl) (fun z => by have := h4 z; omega) (fun z => by have := hi z; omega) hN hq')
            · rw [h2.1 l l1 (by omega), pop l l2, hd]
            · obtain ⟨K1, V1, m4, S4, j1, j2, j3⟩ := hC3.2 d1 d2
              exact ⟨K1, V1, m4, S4, j1, j2, fun l l1 l2 => by rw [j3 l l1 (by omega), pop l l2, hd]⟩
            · have := h3.2.2.2
              omega
    · rw [if_neg cs]
      refine ⟨0, K, V, m1, S1, v, m', S', rfl, hC.low (by omega) (fun d1 d2 => ?_), ⟨hF.1, hF.2.1, hF.2.2.1, ?_⟩, hv⟩
      · have := hF.2.2.2
        omega
      · have := hF.2.2.2
        omega
/-- a sign before its operand -/
theorem x_pr (hW : d_W mk T) (hT : T ≤ 120) (hU : x_U mk pl T K0.length full up) {s p : Nat} {mm : Int32} (hs : (s = 3 ∧ mm = 21) ∨ (s = 7 ∧ mm = 45)) (h21 : s = 3 → K0 = [] ∨ ¬ 3 < x_top K0) (hm : m ≤ 2 * p + 3) {x : aG} (hx : mk p ≠ mm → x_R mk pl s (1, p, K0, V0, m, S) K0 V0 m S x) : x_R mk pl s (1, p, K0, V0, m, S) K0 V0 m S (d_pr mk pl full up mm (if s = 3 then 13 else 16) s x p) := by
  unfold d_pr
  by_cases c1 : mk p = mm
  · rw [if_pos c1]
    have hT2 : p + 1 < T := by
      rcases hs with ⟨_, r⟩ | ⟨_, r⟩ <;> (subst r; exact hW.lt c1 (by decide))
    have st : x_step mk pl (1, p, K0, V0, m, S) = x_ent pl (nI s) 0 (p, K0, V0, m, S) := by
      rw [x_st1]
      unfold x_part
      dsimp only
      rcases hs with ⟨r, r2⟩ | ⟨r, r2⟩
      · subst r2
        rw [if_neg (by rw [c1]; decide), if_pos ⟨c1, h21 r⟩, r]
        rfl
      · subst r2
        rw [if_neg (by rw [c1]; decide), if_neg (by rw [c1]; intro z; exact absurd z.1 (by decide)), if_pos c1, r]
        rfl
    by_cases cf : full = true
    · rw [if_pos cf]
      refine ⟨0, by show 1 ≤ 1; omega, ?_⟩
      rw [st]
      unfold x_ent
      dsimp only
      rw [if_pos (hU.len cf)]
    · rw [if_neg cf]
      have s1 : x_step mk pl (1, p, K0, V0, m, S) = .ok (1, p + 1, (nI s, p, 0) :: K0, V0, m, S) := by
        rw [st]
        unfold x_ent
        dsimp only
        rw [if_neg (hU.nlen cf)]
      have hto := x_to.one (mk := mk) (pl := pl) (by show 1 ≤ 1; omega) s1
      have hB' : x_B s ((nI s, p, 0) :: K0) := Or.inr ⟨s, by omega, by omega, rfl, Or.inr ⟨rfl, by omega⟩⟩
      have hE' : x_Em mk (p + 1) ((nI s, p, 0) :: K0) := fun z => by
        rcases z.2 with z | z
        · have := z.2; rcases hs with ⟨r, _⟩ | ⟨r, _⟩ <;> (subst r; exact absurd this (by decide))
        · have := z.2; rcases hs with ⟨r, _⟩ | ⟨r, _⟩ <;> (subst r; exact absurd this (by decide))
      have hA' : x_A mk s (p + 1) ((nI s, p, 0) :: K0) := fun z1 _ z2 => by
        rcases z2 with z2 | z2
        · cases z2
        · exact z2 (show (3 : Int32) < nI s from by rcases hs with ⟨r, _⟩ | ⟨r, _⟩ <;> (subst r; first | decide | omega))
      have hup := hU.2.2 (by simpa using cf) s (p + 1) ((nI s, p, 0) :: K0) V0 m S (by simp) (by omega) (by omega) hB' hA' hE' (by omega) hT2
      cases hr : up s (p + 1) with
      | error q =>
        rw [hr] at hup
        obtain ⟨n, hn⟩ := hup
        exact hto.er hn
      | ok a =>
        obtain ⟨e3, c3, p3⟩ := a
        rw [hr] at hup
        obtain ⟨n, K3, V3, m2, S2, v3, m3, S3, h1, h2, h3, hN3⟩ := hup
        have q3 := hU.2.1 _ _ _ _ _ (by omega) hr
        have q32 := q3.2.1
        have q311 := q3.1.1
        have hm3 : m3 = m + b_sz c3 + 1 := hN3.2.2.1
        obtain ⟨n2, hto2⟩ := hto.trans h1
        have pop : ∀ l, l ≤ s → _ := fun l hl => x_pop1 (K0 := K0) (V0 := V0) (pl := pl) (p := p3) (t := p) (l := l) (s := s) hN3 q3.2.2.1.ge (by omega) (by omega) (by omega) hl
        have hN := x_un_N (kd := x_kd (nI s)) (t := nI p) (e := (if s = 3 then 13 else 16) + 32 * p) hN3 (by omega) (by rcases hs with ⟨r, _⟩ | ⟨r, _⟩ <;> subst r <;> (simp only [reduceIte, show ((7 : Nat) = 3) = False from by decide]; rw [Nat.add_mul_mod_self_left]; rfl)) (by rcases hs with ⟨r, _⟩ | ⟨r, _⟩ <;> subst r <;> (simp only [reduceIte, show ((7 : Nat) = 3) = False from by decide]; congr 1; omega)) (by split <;> omega) q3.2.2.1.ge
        dsimp only
        cases hd : d_hc pl ((if s = 3 then 13 else 16) + 32 * p) (.branch e3 c3 b_0) p3 with
        | error q =>
          have hx : x_beh mk pl (p3, K3, V3, m2, S2) = .error q := x_beh_err h2 ⟨h3.1, h3.2.1, h3.2.2.1, by have := h3.2.2.2; omega⟩ (by omega) (fun l l1 l2 => by rw [pop l l2, hd])
          exact hto2.er (n' := 0) ⟨by show 0 ≤ 1; omega, by rw [x_st0, hx]⟩
        | ok b =>
          obtain ⟨e', c', p'⟩ := b
          obtain ⟨r1, r2, r3, -⟩ := d_hc_ok hd
          subst r1 r2 r3
          refine ⟨n2, K3, V3, m2, S2, m3, m3 + 1, _, hto2, ⟨fun l l1 l2 => ?_, fun d1 d2 => ?_⟩, h3, hN⟩
          · rw [h2.1 l l1 (by omega), pop l l2, hd]
          · obtain ⟨K1, V1, m4, S4, j1, j2, j3⟩ := h2.2 d1 d2
            exact ⟨K1, V1, m4, S4, j1, j2, fun l l1 l2 => by rw [j3 l l1 (by omega), pop l l2, hd]⟩
  · rw [if_neg c1]
    exact hx c1
theorem x_R.low {s s' : Nat} {z : Nat × xX} {r : aG} (h : x_R mk pl s' z K0 V0 m S r) (hs : (s = 7 ∧ s' = 8) ∨ (s = 3 ∧ s' = 4)) : x_R mk pl s z K0 V0 m S r := by
  cases r with
  | error q => exact h
  | ok a =>
    obtain ⟨e, c, p'⟩ := a
    obtain ⟨n', K, V, m1, S1, v, m', S', h1, h2, h3, h4⟩ := h
    have := d_sb_le (mk p')
    have := h3.2.2.2
    exact ⟨n', K, V, m1, S1, v, m', S', h1, h2.low (by omega) (by omega), ⟨h3.1, h3.2.1, h3.2.2.1, by omega⟩, h4⟩
theorem x_t (hW : d_W mk T) (hT : T ≤ 120) (hU : x_U mk pl T K0.length full up) {p : Nat} (hE : x_Em mk p K0) (hm : m ≤ 2 * p + 3) (hp : p < T) : ∀ j, j ≤ 7 → x_B (8 - j) K0 → (j = 0 → mk p ≠ 45) → x_A mk (8 - j) p K0 → x_R mk pl (8 - j) (1, p, K0, V0, m, S) K0 V0 m S (d_t mk pl full up j p)
  | 0, _, hB, h45, hA => by
    unfold d_t
    have ha := x_at (V0 := V0) (m := m) (S := S) hW hT hU (hA (by omega)) hE (h45 rfl) hm hp
    cases hr : d_at mk pl full up p with
    | error q =>
      rw [hr] at ha
      exact ha
    | ok a =>
      obtain ⟨e, c, p2⟩ := a
      rw [hr] at ha
      obtain ⟨n, v, m1, S1, h1, h2⟩ := ha
      have hq := d_at_Q hW hU.2.1 hr
      obtain ⟨k1, k2⟩ := x_pl (V0 := V0) hW hT hU hm 120 e c p2 v m1 S1 h2 hq (by omega)
      dsimp only
      cases hr2 : d_pl mk pl full up 120 e c p2 with
      | error q =>
        rw [hr2] at k1
        obtain ⟨n', h'⟩ := k1
        exact h1.er h'
      | ok b =>
        obtain ⟨e', c', p'⟩ := b
        rw [hr2] at k1
        obtain ⟨n', v', m', S', j1, j2⟩ := k1
        obtain ⟨n2, hto⟩ := h1.trans j1
        have k3 := k2 _ _ _ hr2
        have := d_sb_le (mk p')
        exact ⟨n2, K0, v' :: V0, m', S', v', m', S', hto, .refl (by omega), ⟨k3.1, k3.2.1, k3.2.2, by omega⟩, j2⟩
  | j + 1, hj, hB, _, hA => by
    unfold d_t
    by_cases j0 : j = 0
    · rw [if_pos j0]
      subst j0
      refine x_pr (s := 7) hW hT hU (Or.inr ⟨rfl, rfl⟩) (fun z => by omega) hm (fun z => ?_)
      exact (x_t hW hT hU hE hm hp 0 (by omega) hB.up (fun _ => z) (fun z1 z2 => hA (by omega) z2)).low (Or.inl ⟨rfl, rfl⟩)
    · rw [if_neg j0]
      by_cases j4 : j = 4
      · rw [if_pos j4]
        subst j4
        refine x_pr (s := 3) hW hT hU (Or.inl ⟨rfl, rfl⟩) (fun _ => ?_) hm (fun z => ?_)
        · match K0, hB with
          | [], _ => exact Or.inl rfl
          | (k, _) :: _, h =>
            refine Or.inr ?_
            show ¬ 3 < k
            rcases h with (r | r | r | r) | ⟨t, t1, t2, t3, t4⟩
            · rw [r]; decide
            · rw [r]; decide
            · rw [r]; decide
            · rw [r]; decide
            · rw [t3]; exact nI_nlt (a := 3) (by omega) (by omega)
        · exact (x_t hW hT hU hE hm hp 4 (by omega) hB.up (fun z => by omega) (fun _ z2 => absurd z2 z)).low (Or.inr ⟨rfl, rfl⟩)
      · rw [if_neg j4]
        have hb' : x_B (8 - j) K0 := by
          have := hB.up
          rwa [show 8 - (j + 1) + 1 = 8 - j from by omega] at this
        have ih := x_t hW hT hU hE hm hp j (by omega) hb' (fun z => absurd z j0) (fun z1 z2 => hA (by omega) z2)
        cases hr : d_t mk pl full up j p with
        | error q =>
          rw [hr] at ih
          exact ih
        | ok a =>
          obtain ⟨e, c, p2⟩ := a
          rw [hr] at ih
          obtain ⟨n, K, V, m1, S1, v, m', S', h1, h2, h3, h4⟩ := ih
          have hq := d_t_Q hW hU.2.1 j (by omega) p hr
          have := hq.2.1
          dsimp only
          have e7 : 8 - (j + 1) = 7 - j := by omega
          rw [e7] at hB ⊢
          refine x_R.from h1 (x_bl hW hT hU (s := 7 - j) (by omega) hB hm _ e c p2 K V m1 S1 v m' S' (8 - j) h2 ⟨h3.1, h3.2.1, h3.2.2.1, by have := h3.2.2.2; omega⟩ (by omega) (fun z => ?_) (fun z => ?_) h4 hq)
          · have : j = 3 := by omega
            subst this
            exact Or.inl ⟨rfl, rfl⟩
          · have : ¬ j = 3 := by omega
            rw [if_neg this]
            omega
end DSC
section EXX
variable {mk : Nat → Int32} {pl : Nat → Nat} {T : Nat}
theorem x_ex_U (hW : d_W mk T) (hT : T ≤ 120) : ∀ r L, r + L = 12 → x_U mk pl T L (r = 0) (match r with
    | 0 => fun _ _ => .error (0, 0)
    | r + 1 => d_ex mk pl r)
  | 0, L, hL => ⟨by simp; omega, fun _ _ _ _ _ _ z => (by cases z), fun z => by simp at z⟩
  | r + 1, L, hL => by
    refine ⟨by simp; omega, fun s p e c p' hs z => d_ex_Q hW r s p e c p' z hs, fun _ s p K V m S hK h1 h7 hB hA hE hm hp => ?_⟩
    have ih := x_ex_U hW hT r (L + 1) (by omega)
    rw [← hK] at ih
    dsimp only
    cases r with
    | zero =>
      unfold d_ex
      have := x_t (V0 := V) (m := m) (S := S) hW hT (by simpa using ih) hE hm hp (8 - s) (by omega) (by rw [show 8 - (8 - s) = s from by omega]; exact hB) (fun z => by omega) (by rw [show 8 - (8 - s) = s from by omega]; exact hA)
      rw [show 8 - (8 - s) = s from by omega] at this
      exact this
    | succ r =>
      unfold d_ex
      have := x_t (V0 := V) (m := m) (S := S) hW hT (by simpa using ih) hE hm hp (8 - s) (by omega) (by rw [show 8 - (8 - s) = s from by omega]; exact hB) (fun z => by omega) (by rw [show 8 - (8 - s) = s from by omega]; exact hA)
      rw [show 8 - (8 - s) = s from by omega] at this
      exact this
/-- a whole expression: refused, or done with its one node -/
theorem x_whole (hW : d_W mk T) (hT : T ≤ 120) {p m : Nat} {S : aN} (hm : m ≤ 2 * p + 3) (hp : p < T) : match d_ex mk pl 12 1 p with
    | .error q => ∃ n, x_er mk pl n (1, p, [], [], m, S) q
    | .ok (e, c, p') => ∃ n z v m' S', x_to mk pl n (1, p, [], [], m, S) (0, z) ∧ x_step mk pl (0, z) = .ok (2, p', [], [v], m', S') ∧ x_N S m S' m' v e c := by
  have ih := x_ex_U (pl := pl) hW hT 12 0 (by omega)
  have := x_t (K0 := []) (V0 := []) (m := m) (S := S) hW hT (by simpa using ih) trivial hm hp 7 (by omega) trivial (fun z => by omega) (fun z => absurd z (by omega))
  unfold d_ex
  cases hr : d_t mk pl false (d_ex mk pl 11) (8 - 1) p with
  | error q =>
    rw [hr] at this
    exact this
  | ok a =>
    obtain ⟨e, c, p'⟩ := a
    rw [hr] at this
    obtain ⟨n, K, V, m1, S1, v, m', S', h1, h2, h3, h4⟩ := this
    refine ⟨n, _, v, m', S', h1, ?_, h4⟩
    rw [x_st0, x_beh_bas h2 h3 trivial]
    rfl
end EXX
end
section
/-! THE TOKENS of a text are sound -/
section TKS
variable {tx : Nat → Int32} {n : Nat}
/-- a token's kind is that of its mark -/
def s_kd (k : Int32) : Int32 := if k = 1 ∨ k = 3 ∨ k = 4 ∨ k = 6 ∨ k = 7 ∨ k = 8 ∨ k = 9 then k else if k < 22 then 2 else 5
def s_ok (tx : Nat → Int32) (n : Nat) (t : aT) : Prop := t.2.2.1 + t.2.2.2 ≤ n ∧ t.2.1 ≠ -1 ∧ t.2.1 ≠ 9 ∧ t.1 = s_kd t.2.1 ∧ (t.2.1 = 45 → t.2.2.2 = 1 ∧ s_ch tx n t.2.2.1 = 45) ∧ (∀ i, i < 11 → t.2.1 = nI (11 + i) → s_is tx n (4 + i) t.2.2.1 t.2.2.2 = true)
def s_E (tk : Nat → aT) : Nat → Nat
  | 0 => 0
  | m + 1 => s_E tk m + (tk m).2.2.2
theorem d_bal_ext {mk mk' : Nat → Int32} : ∀ {m : Nat}, (∀ k, k < m → mk' k = mk k) → d_bal mk' m = d_bal mk m
  | 0, _ => rfl
  | m + 1, h => by
    have := d_bal_ext (m := m) (fun k hk => h k (by omega))
    simp only [d_bal, h m (by omega), this]
theorem s_E_ext {tk tk' : Nat → aT} : ∀ {m : Nat}, (∀ k, k < m → tk' k = tk k) → s_E tk' m = s_E tk m
  | 0, _ => rfl
  | m + 1, h => by
    have := s_E_ext (m := m) (fun k hk => h k (by omega))
    simp only [s_E, h m (by omega), this]
abbrev s_mk (tk : Nat → aT) : Nat → Int32 := fun k => (tk k).2.1
/-- the tokens so far, b - 1 blocks being begun -/
def s_Co (tx : Nat → Int32) (n p m : Nat) (tk : Nat → aT) (b : Nat) : Prop := p ≤ n ∧ m ≤ 120 ∧ (∀ k, k < m → s_ok tx n (tk k)) ∧ d_bal (s_mk tk) m + 1 = b ∧ (∀ k, k ≤ m → d_bal (s_mk tk) k ≤ 8) ∧ (∀ k, k + 1 < m → (tk k).2.1 = 7 → (tk (k + 1)).2.1 ≠ 8) ∧ s_E tk m ≤ p
def s_la (m : Nat) (tk : Nat → aT) : Prop := ∀ k, k + 1 = m → (tk k).2.1 ≠ 7
theorem s_Co.add {p m b b' e : Nat} {tk : Nat → aT} {k mk : Int32} (h : s_Co tx n p m tk b) (hm : m < 120) (ht : s_ok tx n (k, mk, p, e)) (h8 : mk = 8 → s_la m tk) (hb : (b' : Int) = b + (if mk = 7 then 1 else if mk = 8 then -1 else 0)) (hb9 : b' ≤ 9) : s_Co tx n (p + e) (m + 1) (fun j => if j = m then (k, mk, p, e) else tk j) b' := by
  obtain ⟨h1, h2, h3, h4, h5, h6, h7⟩ := h
  have lt : ∀ j, j < m → (fun j => if j = m then (k, mk, p, e) else tk j) j = tk j := fun j hj => if_neg (by omega)
  have eq : (fun j => if j = m then (k, mk, p, e) else tk j) m = (k, mk, p, e) := if_pos rfl
  have hbal : ∀ j, j ≤ m → d_bal (s_mk (fun j => if j = m then (k, mk, p, e) else tk j)) j = d_bal (s_mk tk) j := fun j hj => d_bal_ext fun i hi => by show (((fun j => if j = m then (k, mk, p, e) else tk j) i) : aT).2.1 = _; rw [lt i (by omega)]
  have hbm : d_bal (s_mk (fun j => if j = m then (k, mk, p, e) else tk j)) (m + 1) = d_bal (s_mk tk) m + (if mk = 7 then 1 else if mk = 8 then -1 else 0) := by
    have e1 : s_mk (fun j => if j = m then (k, mk, p, e) else tk j) m = mk := by
      show (((fun j => if j = m then (k, mk, p, e) else tk j) m) : aT).2.1 = mk
      rw [eq]
    simp only [d_bal, hbal m (Nat.le_refl _), e1]
  refine ⟨ht.1, by omega, fun j hj => ?_, ?_, fun j hj => ?_, fun j hj => ?_, ?_⟩
  · by_cases e1 : j = m
    · simp only [if_pos e1]; exact ht
    · simp only [if_neg e1]; exact h3 j (by omega)
  · rw [hbm]; omega
  · by_cases e1 : j = m + 1
    · rw [e1, hbm]; omega
    · rw [hbal j (by omega)]; exact h5 j (by omega)
  · by_cases e1 : j + 1 = m
    · simp only [if_neg (show ¬ j = m by omega), if_pos e1]
      intro z1 z2
      exact h8 z2 j e1 z1
    · simp only [if_neg (show ¬ j = m by omega), if_neg e1]
      exact h6 j (by omega)
  · simp only [s_E, if_pos, s_E_ext lt]
    omega
theorem s_take_ok {k mk : Int32} {e : Nat} {z z' : aW} (h : s_take k mk e z = .ok z') : z.2.2.2.2.1 < 120 ∧ z' = (z.1 + e, z.2.1, z.2.2.1, z.2.2.2.1, z.2.2.2.2.1 + 1, fun j => if j = z.2.2.2.2.1 then (k, mk, z.1, e) else z.2.2.2.2.2 j) := by
  obtain ⟨p, l, ws, bs, m, tk⟩ := z
  unfold s_take at h
  dsimp only at h ⊢
  split at h
  · next c => cases h; exact ⟨c, rfl⟩
  · cases h
def s_Iv (tx : Nat → Int32) (n : Nat) (z : aW) : Prop := s_Co tx n z.1 z.2.2.2.2.1 z.2.2.2.2.2 z.2.2.1.length ∧ s_W z.2.2.1 ∧ z.2.2.1.length ≤ 9 ∧ (z.2.1 = false → s_la z.2.2.2.2.1 z.2.2.2.2.2)
theorem s_take_Iv {k mk : Int32} {e p m : Nat} {l : Bool} {ws : List (Nat × Nat)} {bs bs0 : List Nat} {tk : Nat → aT} {z' : aW} (hz : s_Iv tx n (p, l, ws, bs0, m, tk)) (ht : s_ok tx n (k, mk, p, e)) (h7 : mk ≠ 7) (h8 : mk ≠ 8) (h : s_take k mk e (p, l, ws, bs, m, tk) = .ok z') : s_Iv tx n z' ∧ z'.1 = p + e ∧ z'.2.1 = l ∧ z'.2.2.1 = ws ∧ s_la z'.2.2.2.2.1 z'.2.2.2.2.2 := by
  obtain ⟨h1, rfl⟩ := s_take_ok h
  dsimp only at *
  obtain ⟨a1, a2, a3, a4⟩ := hz
  have la : s_la (m + 1) (fun j => if j = m then (k, mk, p, e) else tk j) := fun j hj => by
    have : j = m := by omega
    simp only [if_pos this]
    exact h7
  exact ⟨⟨a1.add (b' := ws.length) h1 ht (fun z => absurd z h8) (by rw [if_neg h7, if_neg h8]; show (ws.length : Int) = ws.length + 0; omega) a3, a2, a3, fun _ => la⟩, rfl, rfl, rfl, la⟩
theorem s_mark_c (p e : Nat) : s_mark tx n p e = 1 ∨ ∃ i, i < 11 ∧ s_mark tx n p e = nI (11 + i) ∧ s_is tx n (4 + i) p e = true := by
  unfold s_mark
  by_cases c0 : s_is tx n 4 p e = true
  · rw [if_pos c0]; exact Or.inr ⟨0, by decide, rfl, c0⟩
  rw [if_neg c0]
  by_cases c1 : s_is tx n 5 p e = true
  · rw [if_pos c1]; exact Or.inr ⟨1, by decide, rfl, c1⟩
  rw [if_neg c1]
  by_cases c2 : s_is tx n 6 p e = true
  · rw [if_pos c2]; exact Or.inr ⟨2, by decide, rfl, c2⟩
  rw [if_neg c2]
  by_cases c3 : s_is tx n 7 p e = true
  · rw [if_pos c3]; exact Or.inr ⟨3, by decide, rfl, c3⟩
  rw [if_neg c3]
  by_cases c4 : s_is tx n 8 p e = true
  · rw [if_pos c4]; exact Or.inr ⟨4, by decide, rfl, c4⟩
  rw [if_neg c4]
  by_cases c5 : s_is tx n 9 p e = true
  · rw [if_pos c5]; exact Or.inr ⟨5, by decide, rfl, c5⟩
  rw [if_neg c5]
  by_cases c6 : s_is tx n 10 p e = true
  · rw [if_pos c6]; exact Or.inr ⟨6, by decide, rfl, c6⟩
  rw [if_neg c6]
  by_cases c7 : s_is tx n 11 p e = true
  · rw [if_pos c7]; exact Or.inr ⟨7, by decide, rfl, c7⟩
  rw [if_neg c7]
  by_cases c8 : s_is tx n 12 p e = true
  · rw [if_pos c8]; exact Or.inr ⟨8, by decide, rfl, c8⟩
  rw [if_neg c8]
  by_cases c9 : s_is tx n 13 p e = true
  · rw [if_pos c9]; exact Or.inr ⟨9, by decide, rfl, c9⟩
  rw [if_neg c9]
  by_cases c10 : s_is tx n 14 p e = true
  · rw [if_pos c10]; exact Or.inr ⟨10, by decide, rfl, c10⟩
  rw [if_neg c10]
  exact Or.inl rfl
theorem s_word_f : ∀ i, i < 11 → (nI (11 + i) ≠ -1 ∧ nI (11 + i) ≠ 9 ∧ nI (11 + i) ≠ 1 ∧ s_kd (nI (11 + i)) = 2 ∧ nI (11 + i) ≠ 45 ∧ nI (11 + i) ≠ 7 ∧ nI (11 + i) ≠ 8) := by decide
/-- a token whose mark isn't a word's -/
theorem s_ok_p {k mk : Int32} {p e : Nat} (h1 : p + e ≤ n) (h2 : mk ≠ -1 ∧ mk ≠ 9 ∧ k = s_kd mk ∧ ∀ i, i < 11 → mk ≠ nI (11 + i)) (h3 : mk = 45 → e = 1 ∧ s_ch tx n p = 45) : s_ok tx n (k, mk, p, e) := ⟨h1, h2.1, h2.2.1, h2.2.2.1, h3, fun i hi z => absurd z (h2.2.2.2 i hi)⟩
theorem s_pair_f {c : Int32} (h : s_pair c = true) : (c + 128 ≠ -1 ∧ c + 128 ≠ 9 ∧ 5 = s_kd (c + 128) ∧ ∀ i, i < 11 → c + 128 ≠ nI (11 + i)) ∧ c + 128 ≠ 45 ∧ c + 128 ≠ 7 ∧ c + 128 ≠ 8 := by
  unfold s_pair at h
  simp only [Bool.or_eq_true, decide_eq_true_eq] at h
  rcases h with ((h | h) | h) | h <;> (subst h; decide)
theorem s_one_f {c : Int32} (h : s_one c = true) : (c ≠ -1 ∧ c ≠ 9 ∧ 5 = s_kd c ∧ ∀ i, i < 11 → c ≠ nI (11 + i)) ∧ c ≠ 7 ∧ c ≠ 8 := by
  unfold s_one at h
  simp only [Bool.or_eq_true, decide_eq_true_eq] at h
  rcases h with ((((((((((((((h | h) | h) | h) | h) | h) | h) | h) | h) | h) | h) | h) | h) | h) | h) | h <;> (subst h; decide)
theorem s_ch_lt {p : Nat} {c : Int32} (h : s_ch tx n p = c) (hc : c ≠ 0) : p < n := by
  unfold s_ch at h
  split at h
  · assumption
  · exact absurd h.symm hc
theorem s_sign_Iv {p m : Nat} {l : Bool} {ws : List (Nat × Nat)} {bs : List Nat} {tk : Nat → aT} {z' : aW} (hz : s_Iv tx n (p, l, ws, bs, m, tk)) (hp : p < n) (h : s_sign tx n (p, l, ws, bs, m, tk) = .ok z') : s_Iv tx n z' ∧ p < z'.1 ∧ z'.2.1 = l ∧ z'.2.2.1 = ws := by
  unfold s_sign at h
  dsimp only at h
  split at h
  · next c1 =>
    have h2 := s_ch_lt c1.2 (by decide)
    obtain ⟨f1, f2, f3, f4⟩ := s_pair_f c1.1
    obtain ⟨k1, k2, k3, k4, -⟩ := s_take_Iv hz (s_ok_p (by omega) f1 (fun z => absurd z f2)) f3 f4 h
    exact ⟨k1, by omega, k3, k4⟩
  · split at h
    · cases h
    · next c1 c2 =>
      have o : s_one (s_ch tx n p) = true := by simpa using c2
      obtain ⟨f1, f3, f4⟩ := s_one_f o
      have ok : s_ok tx n (5, s_ch tx n p, p, 1) := s_ok_p (by omega) f1 (fun z => ⟨rfl, z⟩)
      split at h
      · split at h
        · obtain ⟨k1, k2, k3, k4, -⟩ := s_take_Iv hz ok f3 f4 h
          exact ⟨k1, by omega, k3, k4⟩
        · cases h
      · split at h
        · generalize (if s_ch tx n p = 41 then (40 : Int32) else 91) = ff at h
          split at h
          · cases h
          · split at h
            · obtain ⟨k1, k2, k3, k4, -⟩ := s_take_Iv hz ok f3 f4 h
              exact ⟨k1, by omega, k3, k4⟩
            · cases h
        · obtain ⟨k1, k2, k3, k4, -⟩ := s_take_Iv hz ok f3 f4 h
          exact ⟨k1, by omega, k3, k4⟩
theorem s_nl_le {p : Nat} (hp : p ≤ n) : p ≤ s_nl tx n p ∧ s_nl tx n p ≤ n := by
  have := s_run_le (f := fun k => !decide (tx k = 10)) (n - p) p
  unfold s_nl
  omega
theorem s_nl_lt {p : Nat} (hp : p < n) (h : tx p ≠ 10) : p < s_nl tx n p := by
  unfold s_nl
  obtain ⟨d, hd⟩ : ∃ d, n - p = d + 1 := ⟨n - p - 1, by omega⟩
  rw [hd]
  unfold s_run
  rw [if_pos (by simpa using h)]
  have := s_run_le (f := fun k => !decide (tx k = 10)) d (p + 1)
  omega
theorem s_str_le {q : Int32} : ∀ (f e : Nat) {r : Nat}, s_str tx n q f e = some r → e ≤ r ∧ r < n
  | 0, e, r, h => by cases h
  | f + 1, e, r, h => by
    unfold s_str at h
    split at h
    · split at h
      · cases h; omega
      · have he : e ≤ (if tx e = 92 then e + 1 else e) := by split <;> omega
        generalize (if tx e = 92 then e + 1 else e) = e' at h he
        split at h
        · cases h
        · have := s_str_le f _ h
          omega
    · cases h
theorem s_next_Iv {p m : Nat} {l : Bool} {ws : List (Nat × Nat)} {bs : List Nat} {tk : Nat → aT} {z' : aW} (hz : s_Iv tx n (p, l, ws, bs, m, tk)) (hl : l = true) (hp : p < n) (h : s_next tx n (p, l, ws, bs, m, tk) = .ok z') : s_Iv tx n z' ∧ p < z'.1 ∧ z'.2.2.1 = ws := by
  have mv : ∀ {p'}, p' ≤ n → p ≤ p' → s_Iv tx n (p', l, ws, bs, m, tk) := fun h1 h2 => by
    obtain ⟨⟨a1, a2, a3, a4, a5, a6, a7⟩, b⟩ := hz
    exact ⟨⟨h1, a2, a3, a4, a5, a6, by dsimp only at a7 ⊢; omega⟩, b⟩
  have ech : s_ch tx n p = tx p := if_pos hp
  unfold s_next at h
  dsimp only at h
  split at h
  · cases h; exact ⟨mv (by omega) (by omega), by dsimp only; omega, rfl⟩
  split at h
  · next c1 =>
    cases h
    have := s_nl_le (tx := tx) (n := n) (p := p) (by omega)
    have := s_nl_lt (tx := tx) hp (by rw [← ech, c1]; decide)
    exact ⟨mv (by omega) (by omega), by dsimp only; omega, rfl⟩
  split at h
  · next c1 =>
    cases h
    have h2 := s_ch_lt c1.2 (by decide)
    exact ⟨mv (by omega) (by omega), by dsimp only; omega, rfl⟩
  split at h
  · next c1 =>
    split at h
    · cases h; exact ⟨mv (by omega) (by omega), by dsimp only; omega, rfl⟩
    · split at h
      · cases h
      · next p' l' y ht =>
        cases h
        obtain ⟨⟨j1, j2, j3, j4⟩, k2, k3, k4, k5⟩ := s_take_Iv hz (s_ok_p (by omega) (by decide) (fun z => absurd z (by decide))) (by decide) (by decide) ht
        dsimp only at *
        exact ⟨⟨j1, j2, j3, fun _ => k5⟩, by omega, k4⟩
  split at h
  · have := s_run_le (f := fun k => c_letter (tx k) || c_digit (tx k)) (n - (p + 1)) (p + 1)
    generalize s_run (fun k => c_letter (tx k) || c_digit (tx k)) (n - (p + 1)) (p + 1) = e at h this
    try dsimp only at h
    rcases s_mark_c (tx := tx) (n := n) p (e - p) with r | ⟨i, i1, i2, i3⟩
    · rw [r, if_pos rfl] at h
      obtain ⟨k1, k2, k3, k4, -⟩ := s_take_Iv hz (s_ok_p (by omega) (by decide) (fun z => absurd z (by decide))) (by decide) (by decide) h
      exact ⟨k1, by omega, k4⟩
    · obtain ⟨f1, f2, f3, f4, f5, f6, f7⟩ := s_word_f i i1
      rw [i2, if_neg f3] at h
      obtain ⟨k1, k2, k3, k4, -⟩ := s_take_Iv hz (⟨by dsimp only; omega, f1, f2, f4.symm, fun z => absurd z f5, fun j hj z => by
        have := nI_inj (by omega) (by omega) z
        have : j = i := by omega
        subst this
        exact i3⟩) f6 f7 h
      exact ⟨k1, by omega, k4⟩
  split at h
  · have := s_run_le (f := fun k => c_digit (tx k)) (n - (p + 1)) (p + 1)
    generalize s_run (fun k => c_digit (tx k)) (n - (p + 1)) (p + 1) = e at h this
    try dsimp only at h
    split at h
    · cases h
    · obtain ⟨k1, k2, k3, k4, -⟩ := s_take_Iv hz (s_ok_p (by omega) (by decide) (fun z => absurd z (by decide))) (by decide) (by decide) h
      exact ⟨k1, by omega, k4⟩
  split at h
  · split at h
    · cases h
    · next e he =>
      have := s_str_le _ _ he
      obtain ⟨k1, k2, k3, k4, -⟩ := s_take_Iv hz (s_ok_p (by omega) (by decide) (fun z => absurd z (by decide))) (by decide) (by decide) h
      exact ⟨k1, by omega, k4⟩
  · obtain ⟨k1, k2, k3, k4⟩ := s_sign_Iv hz hp h
    exact ⟨k1, k2, k4⟩
theorem s_ded_Iv {w p : Nat} {l : Bool} {bs : List Nat} : ∀ (ws : List (Nat × Nat)) (m : Nat) (tk : Nat → aT) {z' : aW}, s_Co tx n p m tk ws.length → s_W ws → ws.length ≤ 9 → s_la m tk → s_ded w p l bs ws m tk = .ok z' → s_Co tx n z'.1 z'.2.2.2.2.1 z'.2.2.2.2.2 z'.2.2.1.length ∧ s_W z'.2.2.1 ∧ z'.2.2.1.length ≤ 9 ∧ s_la z'.2.2.2.2.1 z'.2.2.2.2.2 ∧ z'.1 = p
  | [], m, tk, z', h1, h2, h3, h4, h => by cases h; exact ⟨h1, h2, h3, h4, rfl⟩
  | (w0, n0) :: r, m, tk, z', h1, h2, h3, h4, h => by
    unfold s_ded at h
    split at h
    · next c1 =>
      split at h
      · next c2 =>
        have h9 : r.length ≤ 9 := by simp at h3; omega
        have hc := h1.add (b' := r.length) (k := 8) (mk := 8) (e := 0) c2 (s_ok_p (by have := h1.1; omega) (by decide) (fun z => absurd z (by decide))) (fun _ => h4) (by simp; omega) h9
        have la : s_la (m + 1) (fun j => if j = m then (8, 8, p, 0) else tk j) := fun j hj => by
          have : j = m := by omega
          simp only [if_pos this]
          decide
        exact s_ded_Iv r (m + 1) _ hc (h2.tl c1) h9 la h
      · cases h
    · cases h; exact ⟨h1, h2, h3, h4, rfl⟩
theorem s_cmp_Iv {w nr p m : Nat} {l : Bool} {ws : List (Nat × Nat)} {bs : List Nat} {tk : Nat → aT} {z' : aW} (hz : s_Iv tx n (p, l, ws, bs, m, tk)) (hl : l = false) (hw : w < 2 ^ 20) (hnr : nr < 2 ^ 20) (h : s_cmp w nr (p, l, ws, bs, m, tk) = .ok z') : s_Co tx n z'.1 z'.2.2.2.2.1 z'.2.2.2.2.2 z'.2.2.1.length ∧ s_W z'.2.2.1 ∧ z'.2.2.1.length ≤ 9 ∧ z'.1 = p := by
  obtain ⟨a1, a2, a3, a4⟩ := hz
  dsimp only at *
  unfold s_cmp at h
  dsimp only at h
  split at h
  · cases h
  · next w0 n0 r =>
    split at h
    · split at h
      · cases h
      · split at h
        · next c9 =>
          obtain ⟨h1, rfl⟩ := s_take_ok h
          dsimp only at *
          have hc := a1.add (b' := r.length + 2) (k := 7) (mk := 7) (e := 0) h1 (s_ok_p (by have := a1.1; omega) (by decide) (fun z => absurd z (by decide))) (fun z => absurd z (by decide)) (by simp; omega) (by omega)
          exact ⟨by simpa using hc, ⟨hw, hnr, a2⟩, by simp; omega, rfl⟩
        · cases h
    · split at h
      · cases h
      · next y hy =>
        obtain ⟨b1, b2, b3, b4, b5⟩ := s_ded_Iv _ _ _ a1 a2 a3 (a4 hl) hy
        obtain ⟨p', l', ws', bs', m', tk'⟩ := y
        unfold s_eq at h
        dsimp only at *
        split at h
        · cases h
        · split at h
          · split at h
            · cases h; exact ⟨b1, b2, b3, b5⟩
            · cases h
          · cases h
theorem s_bl_lt (f p w : Nat) (h : (s_bl tx f p w).1 < p + f) : c_blank (tx (s_bl tx f p w).1) = false := by
  induction f generalizing p w with
  | zero => simp [s_bl] at h
  | succ f ih =>
    unfold s_bl at h ⊢
    split
    · next c => rw [if_pos c] at h; exact ih _ _ (by omega)
    · next c => simpa using c
theorem s_line_Iv {p m : Nat} {l : Bool} {ws : List (Nat × Nat)} {bs : List Nat} {tk : Nat → aT} {z' : aW} (hz : s_Iv tx n (p, l, ws, bs, m, tk)) (hl : l = false) (hp : p < n) (hn : n ≤ 600) (h : s_line tx n (p, l, ws, bs, m, tk) = .ok z') : s_Iv tx n z' ∧ ((z'.2.1 = false ∧ p < z'.1) ∨ (z'.2.1 = true ∧ p ≤ z'.1 ∧ z'.1 < n)) := by
  unfold s_line at h
  have hb := s_bl_le (tx := tx) (n - p) p 0
  rcases hqw : s_bl tx (n - p) p 0 with ⟨q, w⟩
  rw [hqw] at hb
  dsimp only at h
  rw [hqw] at h
  dsimp only at h hb
  split at h
  · cases h
    have h1 := s_nl_le (tx := tx) (n := n) (p := q) (by omega)
    obtain ⟨⟨a1, a2, a3, a4, a5, a6, a7⟩, b⟩ := hz
    dsimp only at *
    exact ⟨⟨⟨by dsimp only; omega, a2, a3, a4, a5, a6, by dsimp only; omega⟩, b⟩, Or.inl ⟨hl, by omega⟩⟩
  · next c1 =>
    have hqn : q < n := Decidable.byContradiction fun z => c1 (Or.inl (by omega))
    have hz2 : s_Iv tx n (q, l, ws, bs, m, tk) := by
      obtain ⟨⟨a1, a2, a3, a4, a5, a6, a7⟩, b⟩ := hz
      exact ⟨⟨by dsimp only; omega, a2, a3, a4, a5, a6, by dsimp only at a7 ⊢; omega⟩, b⟩
    split at h
    · cases h
    · next p' l' y hc =>
      cases h
      obtain ⟨b1, b2, b3, b4⟩ := s_cmp_Iv hz2 hl (by omega) (by omega) hc
      dsimp only at *
      exact ⟨⟨b1, b2, b3, fun z => by cases z⟩, Or.inr ⟨rfl, by omega, by omega⟩⟩
theorem s_iter_Iv {z z' : aW} (hz : s_Iv tx n z) (hp : z.1 < n) (hn : n ≤ 600) (h : s_iter tx n z = .ok z') : s_Iv tx n z' ∧ z.1 < z'.1 := by
  obtain ⟨p, l, ws, bs, m, tk⟩ := z
  unfold s_iter at h
  dsimp only at *
  cases l with
  | true =>
    rw [if_pos rfl] at h
    dsimp only at h
    rw [if_pos rfl] at h
    have := s_next_Iv hz rfl hp h
    exact ⟨this.1, this.2.1⟩
  | false =>
    rw [if_neg (by decide)] at h
    split at h
    · cases h
    · next y hy =>
      obtain ⟨b1, b2⟩ := s_line_Iv hz rfl hp hn hy
      obtain ⟨p', l', ws', bs', m', tk'⟩ := y
      dsimp only at *
      split at h
      · next cl =>
        rcases b2 with ⟨e, _⟩ | ⟨e, e2, e3⟩
        · rw [e] at cl; cases cl
        · have := s_next_Iv b1 e e3 h
          exact ⟨this.1, by omega⟩
      · next cl =>
        cases h
        rcases b2 with ⟨e, e2⟩ | ⟨e, _⟩
        · exact ⟨b1, e2⟩
        · exact absurd e cl
theorem s_loop_Iv (hn : n ≤ 600) : ∀ (f : Nat) {z z' : aW}, s_Iv tx n z → s_loop tx n f z = .ok z' → s_Iv tx n z' ∧ (n ≤ z'.1 ∨ z.1 + f ≤ z'.1)
  | 0, z, z', hz, h => by cases h; exact ⟨hz, Or.inr (Nat.le_refl _)⟩
  | f + 1, z, z', hz, h => by
    unfold s_loop at h
    split at h
    · next c =>
      split at h
      · cases h
      · next y hy =>
        have h1 := s_iter_Iv hz c hn hy
        have h2 := s_loop_Iv hn f h1.1 h
        exact ⟨h2.1, by omega⟩
    · next c => cases h; exact ⟨hz, Or.inl (by omega)⟩
/-- all the tokens of a text -/
def s_Fi (tx : Nat → Int32) (n m : Nat) (tk : Nat → aT) : Prop := ∃ m0, m = m0 + 1 ∧ m ≤ 120 ∧ (∀ k, k < m0 → s_ok tx n (tk k)) ∧ (tk m0).1 = 9 ∧ (tk m0).2.1 = 9 ∧ (tk m0).2.2.1 ≤ n ∧ (tk m0).2.2.2 = 0 ∧ (∀ k, k ≤ m0 → d_bal (s_mk tk) k ≤ 8) ∧ (∀ k, k + 1 < m0 → (tk k).2.1 = 7 → (tk (k + 1)).2.1 ≠ 8) ∧ s_E tk m0 ≤ n
theorem s_close_Iv {l : Bool} {bs : List Nat} {ws : List (Nat × Nat)} {p : Nat} : ∀ (f m : Nat) (tk : Nat → aT) {z' : aW}, s_Co tx n p m tk (f + 1) → f ≤ 8 → s_la m tk → s_close f (p, l, ws, bs, m, tk) = .ok z' → s_Co tx n z'.1 z'.2.2.2.2.1 z'.2.2.2.2.2 1
  | 0, m, tk, z', h1, h9, h2, h => by cases h; exact h1
  | f + 1, m, tk, z', h1, h9, h2, h => by
    unfold s_close at h
    split at h
    · cases h
    · next y hy =>
      obtain ⟨k1, rfl⟩ := s_take_ok hy
      dsimp only at *
      have hc := h1.add (b' := f + 1) (k := 8) (mk := 8) (e := 0) k1 (s_ok_p (by have := h1.1; omega) (by decide) (fun z => absurd z (by decide))) (fun _ => h2) (by simp; omega) (by omega)
      exact s_close_Iv f (m + 1) _ hc (by omega) (fun j hj => by
        have : j = m := by omega
        simp only [if_pos this]
        decide) h
theorem s_scan_Fi (hn : n ≤ 600) {z' : aW} (h : s_scan tx n = .ok z') : s_Fi tx n z'.2.2.2.2.1 z'.2.2.2.2.2 := by
  unfold s_scan at h
  split at h
  · cases h
  · next z hl =>
    have i0 : s_Iv tx n (0, false, [(0, 0)], [], 0, fun _ => (0, 0, 0, 0)) := ⟨⟨Nat.zero_le _, by decide, fun k hk => absurd hk (Nat.not_lt_zero _), by decide, fun k hk => by
      have : k = 0 := by dsimp only at hk; omega
      subst this
      decide, fun k hk => absurd hk (Nat.not_lt_zero _), Nat.le_refl _⟩, rfl, by decide, fun _ k hk => by dsimp only at hk; omega⟩
    obtain ⟨⟨a1, a2, a3, a4⟩, -⟩ := s_loop_Iv hn 600 i0 hl
    obtain ⟨p, l, ws, bs, m, tk⟩ := z
    unfold s_fin at h
    dsimp only at *
    split at h
    · cases h
    · split at h
      · cases h
      · next y hy =>
        have hws : 1 ≤ ws.length := by
          cases ws with
          | nil => exact absurd a2 (fun z => z)
          | cons a b => simp
        have hy2 : s_Co tx n y.1 y.2.2.2.2.1 y.2.2.2.2.2 ws.length ∧ s_la y.2.2.2.2.1 y.2.2.2.2.2 := by
          cases l with
          | true =>
            rw [if_pos rfl] at hy
            obtain ⟨b1, b2, b3, b4, b5⟩ := s_take_Iv (bs0 := []) (⟨a1, a2, a3, a4⟩ : s_Iv tx n (p, true, ws, [], m, tk)) (s_ok_p (by have := a1.1; omega) (by decide) (fun z => absurd z (by decide))) (by decide) (by decide) hy
            have := b1.1
            rw [b4] at this
            exact ⟨this, b5⟩
          | false =>
            rw [if_neg (by decide)] at hy
            cases hy
            exact ⟨a1, a4 rfl⟩
        obtain ⟨p1, l1, ws1, bs1, m1, tk1⟩ := y
        dsimp only at *
        split at h
        · cases h
        · next y2 hy3 =>
          have hc := s_close_Iv (ws.length - 1) m1 tk1 (by rw [show ws.length - 1 + 1 = ws.length from by omega]; exact hy2.1) (by omega) hy2.2 hy3
          obtain ⟨p2, l2, ws2, bs2, m2, tk2⟩ := y2
          obtain ⟨k1, rfl⟩ := s_take_ok h
          dsimp only at *
          obtain ⟨c1, c2, c3, c4, c5, c6, c7⟩ := hc
          have lt : ∀ j, j < m2 → (fun j => if j = m2 then ((9, 9, p2, 0) : aT) else tk2 j) j = tk2 j := fun j hj => if_neg (by omega)
          refine ⟨m2, rfl, by omega, fun k hk => ?_, by simp, by simp, by simpa using c1, by simp, fun k hk => ?_, fun k hk => ?_, ?_⟩
          · show s_ok tx n ((fun j => if j = m2 then ((9, 9, p2, 0) : aT) else tk2 j) k)
            rw [lt k (by omega)]; exact c3 k hk
          · rw [d_bal_ext (mk := s_mk tk2) (fun j hj => by show (((fun j => if j = m2 then ((9, 9, p2, 0) : aT) else tk2 j) j) : aT).2.1 = _; rw [lt j (by omega)])]
            exact c5 k hk
          · rw [lt k (by omega), lt (k + 1) (by omega)]; exact c6 k hk
          · show s_E (fun j => if j = m2 then ((9, 9, p2, 0) : aT) else tk2 j) m2 ≤ n
            rw [s_E_ext lt]; omega
end TKS
end
section
/-! WAYS THROUGH A METHOD OF THE CLASS, step by step with what is said purely -/
/-- what a method comes to: done (value v), or refused -/
def c_M {α : Type} (cs : List Nat) (d M : Nat) (as : List Value) (g : List aK) (I A : Nat → Nat → Int32) (J : Nat → Nat → Int64) (X : Nat × (Nat → Int32)) (R : α → Option Value → (Nat → Nat → Int32) → (Nat → Nat → Int32) → Prop) (r : Except aF α) : Prop := match r with
  | .ok a => ∃ (I' A' : Nat → Nat → Int32) (v : Option Value), R a v I' A' ∧ am_Fr cs I A I' A' ∧ am_Con d M as (am_H g I A J X) (.inl v) (am_H g I' A' J X) 0 0
  | .error q => ∃ (I' A' : Nat → Nat → Int32) (k : Nat), I' 3 0 = q.1 ∧ I' 3 1 = nI q.2 ∧ am_Fr cs I A I' A' ∧ am_Con d M as (am_H g I A J X) (.inr (101, k)) (am_H (am_gx g) I' A' J X) 1 6
/-- what a stretch of a method comes to -/
def c_G {α : Type} (cs : List Nat) (M d : Nat) (g : List aK) (J : Nat → Nat → Int64) (X : Nat × (Nat → Int32)) (I A : Nat → Nat → Int32) (s0 : aS) (R : α → (Nat → Nat → Int32) → (Nat → Nat → Int32) → aS → Prop) (r : Except aF α) : Prop := match r with
  | .ok a => ∃ (I' A' : Nat → Nat → Int32) (s' : aS), R a I' A' s' ∧ am_Fr cs I A I' A' ∧ am_To M d s0 s'
  | .error q => ∃ (I' A' : Nat → Nat → Int32) (k : Nat), I' 3 0 = q.1 ∧ I' 3 1 = nI q.2 ∧ am_Fr cs I A I' A' ∧ am_Ft M d s0 (.inr (101, k)) (am_H (am_gx g) I' A' J X)
section WAY
variable {α β : Type} {cs : List Nat} {M d : Nat} {g : List aK} {J : Nat → Nat → Int64} {X : Nat × (Nat → Int32)} {I A I1 A1 : Nat → Nat → Int32} {s0 s1 : aS}
theorem c_G.bind {R : α → (Nat → Nat → Int32) → (Nat → Nat → Int32) → aS → Prop} {R' : β → (Nat → Nat → Int32) → (Nat → Nat → Int32) → aS → Prop} {r : Except aF α} {r' : Except aF β} (h : c_G cs M d g J X I A s0 R r) (he : ∀ q, r = .error q → r' = .error q) (hk : ∀ a, r = .ok a → ∀ I' A' s', R a I' A' s' → am_Fr cs I A I' A' → c_G cs M d g J X I' A' s' R' r') : c_G cs M d g J X I A s0 R' r' := by
  cases hr : r with
  | error q =>
    rw [he q hr]
    rw [hr] at h
    exact h
  | ok a =>
    rw [hr] at h
    obtain ⟨I', A', s', h1, h2, h3⟩ := h
    have := hk a hr I' A' s' h1 h2
    revert this
    cases r' with
    | error q =>
      rintro ⟨I2, A2, k, k1, k2, k3, k4⟩
      exact ⟨I2, A2, k, k1, k2, h2.trans k3, am_Ft.from h3 k4⟩
    | ok b =>
      rintro ⟨I2, A2, s2, k1, k2, k3⟩
      exact ⟨I2, A2, s2, k1, h2.trans k2, h3.trans k3⟩
theorem c_G.from {R : α → (Nat → Nat → Int32) → (Nat → Nat → Int32) → aS → Prop} {r : Except aF α} (h1 : am_To M d s0 s1) (h2 : am_Fr cs I A I1 A1) (h : c_G cs M d g J X I1 A1 s1 R r) : c_G cs M d g J X I A s0 R r := by
  cases r with
  | error q =>
    obtain ⟨I2, A2, k, k1, k2, k3, k4⟩ := h
    exact ⟨I2, A2, k, k1, k2, h2.trans k3, am_Ft.from h1 k4⟩
  | ok b =>
    obtain ⟨I2, A2, s2, k1, k2, k3⟩ := h
    exact ⟨I2, A2, s2, k1, h2.trans k2, h1.trans k3⟩
/-- a call that may be refused -/
theorem c_G.call {R : α → Option Value → (Nat → Nat → Int32) → (Nat → Nat → Int32) → Prop} {r : Except aF α} {n M' d' nx : Nat} {as' : List Value} {ls : List (Nat × Value)} {sk : List Value} (h1d : 1 ≤ d) (hrun : am_run n M s0 = am_ca M' as' (nx, ls, sk, am_H g I A J X)) (hs : am_hs M = []) (hd : d' + 1 ≤ d) (h : c_M cs d' M' as' g I A J X R r) : c_G cs M d g J X I A s0 (fun a I' A' s' => ∃ v, R a v I' A' ∧ s' = (nx - 3 + 3, ls, (match v with
    | some v => v :: sk
    | none => sk), am_H g I' A' J X)) r := by
  cases r with
  | error q =>
    obtain ⟨I', A', k, h1, h2, h3, h4⟩ := h
    refine ⟨I', A', k, h1, h2, h3, ?_⟩
    intro B C u c Q hu hc hq
    exact am_cat n h1d hrun h4 hd hu hc hs hq
  | ok a =>
    obtain ⟨I', A', v, h1, h2, h3⟩ := h
    refine ⟨I', A', _, ⟨v, h1, rfl⟩, h2, ?_⟩
    intro B C u c Q hu hc hk
    cases v with
    | none => exact am_can n h1d hrun h3 hd hu hc hk
    | some v => exact am_cav n h1d hrun h3 hd hu hc hk
/-- a refusal -/
theorem c_G.ref {R : α → (Nat → Nat → Int32) → (Nat → Nat → Int32) → aS → Prop} {n nx q : Nat} {ls : List (Nat × Value)} {sk : List Value} {w pp : Int32} (hd : 8 ≤ d) (hrun : am_run n M s0 = am_ca 16 [.ref 3, .int w, .int pp] (nx, ls, sk, am_H g I A J X)) (hs : am_hs M = []) (h3 : 3 ∈ cs) (hpp : pp = nI q) : c_G cs M d g J X I A s0 R (.error (w, q)) := by
  refine ⟨am_u (am_u I 3 0 w) 3 1 pp, A, (am_lay ++ g).length, by simp [am_u], by simp [am_u, hpp], (am_Fr.put h3).trans (am_Fr.put h3), ?_⟩
  intro B C u c Q hu hc hq
  exact am_cat n (by omega) hrun t_refuse hd hu hc hs hq
/-- arrived -/
theorem c_G.ok {R : α → (Nat → Nat → Int32) → (Nat → Nat → Int32) → aS → Prop} {a : α} (h : R a I1 A1 s1) (hf : am_Fr cs I A I1 A1) (ht : am_To M d s0 s1) : c_G cs M d g J X I A s0 R (.ok a) := ⟨I1, A1, s1, h, hf, ht⟩
/-- a method as its way -/
theorem c_G.met {R : α → (Nat → Nat → Int32) → (Nat → Nat → Int32) → aS → Prop} {R' : α → Option Value → (Nat → Nat → Int32) → (Nat → Nat → Int32) → Prop} {r : Except aF α} {as : List Value} (hM : Nat.blt M 200 = true) (hl : Nat.ble (lg_sl as).length (am_ml M) = true) (h : c_G cs M d g J X I A (0, lv_args 0 as, [], am_H g I A J X) R r) (he : ∀ a I' A' s', r = .ok a → R a I' A' s' → ∃ v, R' a v I' A' ∧ ∀ (B C u c : Nat) (Q : aO → aH → Prop), u ≤ B → c ≤ C → Q (.inl v) (am_H g I' A' J X) → am_Tri M d B C u c s' Q) : c_M cs d M as g I A J X R' r := by
  cases r with
  | error q =>
    obtain ⟨I', A', k, h1, h2, h3, h4⟩ := h
    exact ⟨I', A', k, h1, h2, h3, am_metF hM hl h4⟩
  | ok a =>
    obtain ⟨I', A', s', h1, h2, h3⟩ := h
    obtain ⟨v, k1, k2⟩ := he a I' A' s' rfl h1
    exact ⟨I', A', v, k1, h2, am_met hM hl (h3 _ _ _ _ _ (by decide) (by decide) (k2 _ _ _ _ _ (by decide) (by decide) ⟨rfl, rfl⟩))⟩
end WAY
end
section
/-! THE CLASS'S TREE and tokens, as the parser uses them -/
def c_st (A : Nat → Nat → Int32) : aN := fun f => A (10 + f)
theorem c_st_u {A : Nat → Nat → Int32} {f k : Nat} {v : Int32} : c_st (am_u A (10 + f) k v) = am_u (c_st A) f k v := by
  funext x y
  simp [c_st, am_u]
/-- the last parts, as the class keeps them -/
def c_La (m : Nat) (S : aN) : Prop := ∀ k, k < m → (S 3 k = 0 → S 5 k = -1) ∧ (S 3 k ≠ 0 → ∃ i, i < m ∧ S 5 k = nI i)
def d_mk (T : Nat) (tk : Nat → aT) (p : Nat) : Int32 := if p < T then (tk p).2.1 else -1
def d_pc (tk : Nat → aT) (p : Nat) : Nat := (tk p).2.2.1
/-- the parser's state: next token p, m nodes -/
def p_I (T : Nat) (tk : Nat → aT) (p m : Nat) (I A : Nat → Nat → Int32) : Prop := I 26 3 = nI p ∧ I 9 9 = nI m ∧ m ≤ 360 ∧ p ≤ 120 ∧ c_Tk I A T tk ∧ c_La m (c_st A)
/-- the cells that the parser writes -/
def p_cs : List Nat := [3, 9, 10, 11, 12, 13, 14, 15, 16, 17, 26]
section CTR
variable {g : List aK} {I A : Nat → Nat → Int32} {J : Nat → Nat → Int64} {X : Nat × (Nat → Int32)} {T : Nat} {tk : Nat → aT} {p m : Nat}
theorem t_mark (hT : c_Tk I A T tk) (hp : p < 2 ^ 31) : am_Con 1 28 [.ref 4, .int (nI p)] (am_H g I A J X) (.inl (some (.int (d_mk T tk p)))) (am_H g I A J X) 0 0 := by
  unfold d_mk
  have h120 := hT.2.1
  refine am_met rfl rfl ?_
  refine am_nay 9 (by decide) rfl (nI_pos hp) ?_
  by_cases c : p < T
  · rw [if_pos c]
    refine am_nay 9 (by decide) rfl (by rw [hT.1]; exact nI_ge c (by omega)) ?_
    refine am_nee 9 (by decide) rfl (nI_in (show p < 120 by omega) (by decide)) ?_
    refine am_end 9 (by decide) rfl trivial (by decide) (by decide) ⟨?_, rfl⟩
    rw [nI_clamp hp, (hT.2.2 p c).2.1]
  · rw [if_neg c]
    refine am_yea 9 (by decide) rfl (by rw [hT.1]; exact nI_le (by omega) hp) ?_
    exact am_end 9 (by decide) rfl trivial (by decide) (by decide) ⟨rfl, rfl⟩
theorem t_place (hT : c_Tk I A T tk) (hp : p < T) : am_Con 1 29 [.ref 4, .int (nI p)] (am_H g I A J X) (.inl (some (.int (nI (d_pc tk p))))) (am_H g I A J X) 0 0 := by
  have h120 := hT.2.1
  refine am_met rfl rfl ?_
  refine am_nay 9 (by decide) rfl (nI_pos (by omega)) ?_
  refine am_nay 9 (by decide) rfl (by rw [hT.1]; exact nI_ge hp (by omega)) ?_
  refine am_nee 9 (by decide) rfl (nI_in (show p < 120 by omega) (by decide)) ?_
  refine am_end 9 (by decide) rfl trivial (by decide) (by decide) ⟨?_, rfl⟩
  rw [nI_clamp (by omega), (hT.2.2 p hp).2.2.1]
  rfl
theorem t_isAt {x : Int32} (h : p_I T tk p m I A) : am_Con 2 65 [.ref 26, .int x] (am_H g I A J X) (.inl (some (.int (am_b (decide (d_mk T tk p = x)))))) (am_H g I A J X) 0 0 := by
  refine am_met rfl rfl ?_
  refine am_cav 9 (by decide) rfl (by rw [h.1]; exact t_mark h.2.2.2.2.1 (by have := h.2.2.2.1; omega)) (by decide) (by decide) (by decide) ?_
  by_cases c : d_mk T tk p = x
  · refine am_nay 9 (by decide) rfl (fun z => z c) ?_
    exact am_end 9 (by decide) rfl (Or.inr rfl) (by decide) (by decide) ⟨by simp [c, am_b], rfl⟩
  · refine am_yea 9 (by decide) rfl c ?_
    exact am_end 9 (by decide) rfl (Or.inl rfl) (by decide) (by decide) ⟨by simp [c, am_b], rfl⟩
theorem t_adv (h : I 26 3 = nI p) (hp : p < 2 ^ 20) : am_Con 1 66 [.ref 26] (am_H g I A J X) (.inl (some (.int (nI p)))) (am_H g (am_u I 26 3 (nI (p + 1))) A J X) 0 0 := by
  refine am_met rfl rfl ?_
  refine am_end 12 (by decide) rfl trivial (by decide) (by decide) ⟨?_, ?_⟩
  · rw [am_uk, h, nI_1, show (1 : Int32) = nI 1 from rfl, nI_sub (by omega)]
    rfl
  · rw [h, nI_1]
theorem p_I.adv (h : p_I T tk p m I A) (hp : p < 120) : p_I T tk (p + 1) m (am_u I 26 3 (nI (p + 1))) A := by
  obtain ⟨h1, h2, h3, h4, h5, h6⟩ := h
  refine ⟨am_uk, ?_, h3, by omega, ⟨?_, h5.2⟩, h6⟩
  · simpa [am_u] using h2
  · simpa [am_u] using h5.1
/-- what is expected -/
theorem t_exp {x : Int32} (h : p_I T tk p m I A) (hp : p < T) : c_M p_cs 9 67 [.ref 26, .int x] g I A J X (fun a v I' A' => v = some (.int (nI p)) ∧ I' = am_u I 26 3 (nI (p + 1)) ∧ A' = A ∧ a = p + 1) (if d_mk T tk p = x then .ok (p + 1) else .error (9, d_pc tk p)) := by
  have h5 := h.2.2.2.2.1
  have h120 := h5.2.1
  have st : am_To 67 9 (0, lv_args 0 [.ref 26, .int x], [], am_H g I A J X) (11, [(0, .ref 26), (1, .int x)], [.int (d_mk T tk p)], am_H g I A J X) := by
    intro B C u c Q hu hc k
    refine am_cav 9 (by decide) rfl (by rw [h.1]; exact t_mark h5 (by omega)) (by decide) hu hc ?_
    exact k
  by_cases c : d_mk T tk p = x
  · rw [if_pos c]
    refine c_G.met (R := fun a I' A' s' => I' = am_u I 26 3 (nI (p + 1)) ∧ A' = A ∧ a = p + 1 ∧ s' = (39, [(0, .ref 26), (1, .int x)], [.int (nI p)], am_H g I' A' J X)) rfl rfl (c_G.ok (s1 := (39, [(0, .ref 26), (1, .int x)], [.int (nI p)], am_H g (am_u I 26 3 (nI (p + 1))) A J X)) ⟨rfl, rfl, rfl, rfl⟩ (am_Fr.put (by decide)) (st.trans ?_)) (fun a I' A' s' _ hr => ?_)
    · intro B C u c' Q hu hc k
      refine am_yea 9 (by decide) rfl c ?_
      refine am_cav 9 (by decide) rfl (t_adv h.1 (by omega)) (by decide) hu hc ?_
      exact k
    · obtain ⟨rfl, rfl, r3, rfl⟩ := hr
      refine ⟨_, ⟨rfl, rfl, rfl, r3⟩, fun B C u c Q hu hc hq => ?_⟩
      exact am_end 9 (by decide) rfl trivial hu hc hq
  · rw [if_neg c]
    refine c_G.met (R := fun _ _ _ _ => False) rfl rfl (c_G.from (st.trans ?_) am_Fr.refl (c_G.ref (n := 9) (s0 := (32, [(0, .ref 26), (1, .int x)], [.int (nI (d_pc tk p)), .int 9, .ref 3], am_H g I A J X)) (by decide) rfl rfl (by decide) rfl)) (fun a I' A' s' _ hr => hr.elim)
    intro B C u c' Q hu hc k
    refine am_nay 9 (by decide) rfl c ?_
    refine am_cav 9 (by decide) rfl (by rw [h.1]; exact t_place h5 hp) (by decide) hu hc ?_
    exact k
/-- how many are begun -/
theorem t_opn {o t : Nat} (h5 : c_Tk I A T tk) (ho : o ≤ 12) (ht : t < T) : c_M p_cs 9 87 [.ref 26, .int (nI o), .int (nI t)] g I A J X (fun (_ : Unit) v I' A' => v = some (.int (nI (o + 1))) ∧ I' = I ∧ A' = A) (if o = 12 then .error (3, d_pc tk t) else .ok ()) := by
  by_cases c : o = 12
  · rw [if_pos c]
    refine c_G.met (R := fun _ _ _ _ => False) rfl rfl (c_G.from (s1 := (19, [(0, .ref 26), (1, .int (nI o)), (2, .int (nI t))], [.int (nI (d_pc tk t)), .int 3, .ref 3], am_H g I A J X)) ?_ am_Fr.refl (c_G.ref (n := 9) (by decide) rfl rfl (by decide) rfl)) (fun a I' A' s' _ hr => hr.elim)
    intro B C u c' Q hu hc k
    refine am_nay 9 (by decide) rfl (nI_nlt (b := 12) (by omega) (by omega)) ?_
    refine am_cav 9 (by decide) rfl (t_place h5 ht) (by decide) hu hc ?_
    exact k
  · rw [if_neg c]
    refine ⟨I, A, _, ⟨rfl, rfl, rfl⟩, am_Fr.refl, am_met rfl rfl ?_⟩
    refine am_yea 9 (by decide) rfl (nI_lt (b := 12) (by omega) (by decide)) ?_
    refine am_end 9 (by decide) rfl trivial (by decide) (by decide) ⟨?_, rfl⟩
    rw [nI_1]
end CTR
end
section
/-! THE CLASS'S TREE grows -/
section GRW
variable {g : List aK} {I A : Nat → Nat → Int32} {J : Nat → Nat → Int64} {X : Nat × (Nat → Int32)} {T : Nat} {tk : Nat → aT} {p m : Nat}
/-- a new node of the class: its last part is none -/
def c_add (S : aN) (m : Nat) (k t : Int32) : aN := am_u (n_add S m k t) 5 m (-1)
abbrev c_addA (A : Nat → Nat → Int32) (m : Nat) (k t : Int32) : Nat → Nat → Int32 := am_u (am_u (am_u (am_u (am_u (am_u (am_u (am_u A 10 m k) 11 m t) 12 m 1) 13 m 0) 14 m (-1)) 15 m (-1)) 16 m (-1)) 17 m (-1)
theorem c_addA_st {k t : Int32} : c_st (c_addA A m k t) = c_add (c_st A) m k t := by
  unfold c_addA c_add n_add
  rw [show (10 : Nat) = 10 + 0 from rfl, show (11 : Nat) = 10 + 1 from rfl, show (12 : Nat) = 10 + 2 from rfl, show (13 : Nat) = 10 + 3 from rfl, show (14 : Nat) = 10 + 4 from rfl, show (15 : Nat) = 10 + 5 from rfl, show (16 : Nat) = 10 + 6 from rfl, show (17 : Nat) = 10 + 7 from rfl]
  simp only [c_st_u]
  funext x y
  simp only [am_u]
  by_cases h : y = m
  · by_cases h5 : x = 5 <;> by_cases h6 : x = 6 <;> by_cases h7 : x = 7 <;> simp [h, h5, h6, h7] <;> omega
  · simp [h]
theorem c_add_W {S : aN} {q : Bool} {e : Nat} {k t : Int32} (hk : k = nI (e % 32)) (ht : q = true ∨ e % 32 ≠ 9 → t = nI (e / 32)) : n_W q S m (c_add S m k t) e := by
  have h := n_add_W (S := S) (m := m) hk ht
  have ne : ∀ f k', ¬ (f = 5 ∧ k' = m) → c_add S m k t f k' = n_add S m k t f k' := fun f k' z => am_un z
  refine ⟨fun f k' hk' => by rw [ne f k' (fun z => hk' z.2)]; exact h.1 f k' hk', fun lo => ?_, by rw [ne 6 m (by simp)]; exact h.2.2⟩
  obtain ⟨h1, h2⟩ := h.2.1 lo
  refine ⟨?_, ?_⟩
  · unfold n_N at *
    rw [ne 0 m (by simp), ne 1 m (by simp), ne 2 m (by simp), ne 3 m (by simp)]
    exact h1
  · have : n_add S m k t 4 m = -1 := h2
    show c_add S m k t 4 m = -1
    rw [ne 4 m (by simp), this]
theorem t_new {k t : Int32} (hm : I 9 9 = nI m) (h : m < 360) : am_Con 1 32 [.ref 9, .int k, .int t] (am_H g I A J X) (.inl (some (.int (nI m)))) (am_H g (am_u I 9 9 (nI (m + 1))) (c_addA A m k t) J X) 0 0 := by
  have e1 : (I 9 9).toNatClampNeg = m := by rw [hm, nI_clamp (by omega)]
  refine am_met rfl rfl ?_
  refine am_nay 9 (by decide) rfl (by rw [hm]; exact nI_pos (by omega)) ?_
  refine am_yea 9 (by decide) rfl (by rw [hm]; exact nI_lt h (by decide)) ?_
  refine am_nee 20 (by decide) rfl (by rw [hm]; exact nI_in h (by decide)) ?_
  refine am_nee 9 (by decide) rfl (by rw [hm]; exact nI_in h (by decide)) ?_
  refine am_nee 9 (by decide) rfl (by rw [hm]; exact nI_in h (by decide)) ?_
  refine am_nee 9 (by decide) rfl (by rw [hm]; exact nI_in h (by decide)) ?_
  refine am_nee 9 (by decide) rfl (by rw [hm]; exact nI_in h (by decide)) ?_
  refine am_nee 9 (by decide) rfl (by rw [hm]; exact nI_in h (by decide)) ?_
  refine am_nee 9 (by decide) rfl (by rw [hm]; exact nI_in h (by decide)) ?_
  refine am_nee 9 (by decide) rfl (by rw [hm]; exact nI_in h (by decide)) ?_
  refine am_end 12 (by decide) rfl trivial (by decide) (by decide) ⟨by rw [hm], ?_⟩
  rw [e1, hm, nI_1]
theorem c_La_add {S : aN} {k t : Int32} (h : c_La m S) : c_La (m + 1) (c_add S m k t) := by
  intro i hi
  by_cases e : i = m
  · subst e
    refine ⟨fun _ => by simp [c_add, am_u], fun z => ?_⟩
    exact absurd (by simp [c_add, n_add, am_u]) z
  · have hS : ∀ f, c_add S m k t f i = S f i := fun f => by simp [c_add, n_add, am_u, e]
    rw [hS, hS]
    obtain ⟨h1, h2⟩ := h i (by omega)
    refine ⟨h1, fun z => ?_⟩
    obtain ⟨x, x1, x2⟩ := h2 z
    exact ⟨x, by omega, x2⟩
theorem c_Tk_tree {I' A' : Nat → Nat → Int32} (h : c_Tk I A T tk) (hf : am_Fr p_cs I A I' A') : c_Tk I' A' T tk := by
  refine ⟨by rw [(hf 4 (by decide)).1]; exact h.1, h.2.1, fun k hk => ?_⟩
  rw [(hf 5 (by decide)).2, (hf 6 (by decide)).2, (hf 7 (by decide)).2, (hf 8 (by decide)).2]
  exact h.2.2 k hk
theorem c_addA_Fr {k t v : Int32} : am_Fr p_cs I A (am_u I 9 9 v) (c_addA A m k t) :=
  ((((((((am_Fr.put (by decide)).trans (am_Fr.set (by decide))).trans (am_Fr.set (by decide))).trans (am_Fr.set (by decide))).trans (am_Fr.set (by decide))).trans (am_Fr.set (by decide))).trans (am_Fr.set (by decide))).trans (am_Fr.set (by decide))).trans (am_Fr.set (by decide))
theorem p_I.new {k t : Int32} (h : p_I T tk p m I A) (hm : m < 360) : p_I T tk p (m + 1) (am_u I 9 9 (nI (m + 1))) (c_addA A m k t) := by
  obtain ⟨h1, h2, h3, h4, h5, h6⟩ := h
  refine ⟨?_, am_uk, by omega, h4, c_Tk_tree h5 c_addA_Fr, by rw [c_addA_st]; exact c_La_add h6⟩
  simpa [am_u] using h1
theorem t_has {x : Int32} (hm : I 9 9 = nI m) (h : m ≤ 360) : am_Con 1 35 [.ref 9, .int x] (am_H g I A J X) (.inl (some (.int (am_b (decide (¬ x < 0 ∧ x < nI m)))))) (am_H g I A J X) 0 0 := by
  refine am_met rfl rfl ?_
  by_cases c1 : x < 0
  · refine am_yea 9 (by decide) rfl c1 ?_
    exact am_end 9 (by decide) rfl (Or.inl rfl) (by decide) (by decide) ⟨by simp [c1, am_b], rfl⟩
  · refine am_nay 9 (by decide) rfl c1 ?_
    by_cases c2 : x < nI m
    · refine am_nay 9 (by decide) rfl (by rw [hm]; exact Int32.not_le.mpr c2) ?_
      exact am_end 9 (by decide) rfl (Or.inr rfl) (by decide) (by decide) ⟨by simp [c1, c2, am_b], rfl⟩
    · refine am_yea 9 (by decide) rfl (by rw [hm]; exact Int32.not_lt.mp c2) ?_
      exact am_end 9 (by decide) rfl (Or.inl rfl) (by decide) (by decide) ⟨by simp [c1, c2, am_b], rfl⟩
theorem t_hasY {j : Nat} (hm : I 9 9 = nI m) (h : m ≤ 360) (hj : j < m) : am_Con 1 35 [.ref 9, .int (nI j)] (am_H g I A J X) (.inl (some (.int 1))) (am_H g I A J X) 0 0 := by
  have := t_has (g := g) (A := A) (J := J) (X := X) (x := nI j) hm h
  rw [show (decide (¬ nI j < 0 ∧ nI j < nI m)) = true from by simp [nI_lt hj (by omega), nI_pos (show j < 2 ^ 31 by omega)]] at this
  exact this
theorem t_hasN (hm : I 9 9 = nI m) (h : m ≤ 360) : am_Con 1 35 [.ref 9, .int (-1)] (am_H g I A J X) (.inl (some (.int 0))) (am_H g I A J X) 0 0 := t_has (x := -1) hm h
abbrev c_appA (A0 : Nat → Nat → Int32) (j v : Nat) (x hh : Int32) : Nat → Nat → Int32 := am_u (am_u (am_u (am_u A0 15 j (nI v)) 17 v (nI j)) 13 j x) 12 j hh
theorem c_appA_st {j v : Nat} {hh : Int32} : c_st (c_appA (if c_st A 3 j = 0 then am_u A 14 j (nI v) else am_u A 16 (c_st A 5 j).toNatClampNeg (nI v)) j v (c_st A 3 j + 1) hh) = n_lnk (c_st A) j v hh := by
  unfold c_appA n_lnk
  rw [show (12 : Nat) = 10 + 2 from rfl, show (13 : Nat) = 10 + 3 from rfl, show (15 : Nat) = 10 + 5 from rfl, show (17 : Nat) = 10 + 7 from rfl]
  simp only [c_st_u]
  congr 4
  split
  · rw [show (14 : Nat) = 10 + 4 from rfl, c_st_u]
  · rw [show (16 : Nat) = 10 + 6 from rfl, c_st_u]
theorem c_La_lnk {S : aN} {j v n : Nat} {hh : Int32} (h : c_La m S) (hv : v < m) (hn : n < 1000) (h3 : S 3 j = nI n) : c_La m (n_lnk S j v hh) := by
  intro i hi
  by_cases e : i = j
  · subst e
    have e3 : n_lnk S i v hh 3 i = nI (n + 1) := by
      simp only [n_lnk, am_u]
      simp [h3, nI_1]
    have e5 : n_lnk S i v hh 5 i = nI v := by
      simp only [n_lnk, am_u]
      simp
    rw [e3, e5]
    exact ⟨fun z => absurd z (nI_ne0 (by omega) (by omega)), fun _ => ⟨v, hv, rfl⟩⟩
  · have hS : ∀ f, f = 3 ∨ f = 5 → n_lnk S j v hh f i = S f i := fun f hf => by
      unfold n_lnk
      rw [am_un (fun z => e z.2), am_un (fun z => e z.2), am_un (fun z => by omega), am_un (fun z => e z.2)]
      split
      · exact am_un (fun z => e z.2)
      · exact am_un (fun z => by omega)
    rw [hS 3 (by omega), hS 5 (by omega)]
    exact h i hi
theorem t_app {j v n : Nat} (h : p_I T tk p m I A) (hj : j < m) (hv : v < m) (hn : n < 1000) (h3 : c_st A 3 j = nI n) : ∃ (A' : Nat → Nat → Int32) (hh : Int32), c_st A' = n_lnk (c_st A) j v hh ∧ n_hh (c_st A) j v hh ∧ am_Fr p_cs I A I A' ∧ p_I T tk p m I A' ∧ am_Con 2 33 [.ref 9, .int (nI j), .int (nI v)] (am_H g I A J X) (.inl none) (am_H g I A' J X) 0 0 := by
  obtain ⟨h1, h2, hm, h4, h5, h6⟩ := h
  obtain ⟨l1, l2⟩ := h6 j hj
  have hfr : am_Fr p_cs I A I (c_appA (if c_st A 3 j = 0 then am_u A 14 j (nI v) else am_u A 16 (c_st A 5 j).toNatClampNeg (nI v)) j v (c_st A 3 j + 1) (if c_st A 2 j < c_st A 2 v + 1 then c_st A 2 v + 1 else c_st A 2 j)) := by
    refine ((((?_ : am_Fr p_cs I A I _).trans (am_Fr.set (by decide))).trans (am_Fr.set (by decide))).trans (am_Fr.set (by decide))).trans (am_Fr.set (by decide))
    split
    · exact am_Fr.set (by decide)
    · exact am_Fr.set (by decide)
  refine ⟨_, _, c_appA_st, Or.inl rfl, hfr, ⟨h1, h2, hm, h4, c_Tk_tree h5 hfr, by rw [c_appA_st]; exact c_La_lnk h6 hv hn h3⟩, ?_⟩
  refine am_met rfl rfl ?_
  refine am_cav 9 (by decide) rfl (t_hasY h2 hm hj) (by decide) (by decide) (by decide) ?_
  refine am_nay 9 (by decide) rfl (by decide) ?_
  refine am_cav 9 (by decide) rfl (t_hasY h2 hm hv) (by decide) (by decide) (by decide) ?_
  refine am_yea 9 (by decide) rfl (by decide) ?_
  refine am_nee 9 (by decide) rfl (nI_in (show j < 360 by omega) (by decide)) ?_
  have e15 : A 15 (nI j).toNatClampNeg = c_st A 5 j := by rw [nI_clamp (by omega)]; rfl
  by_cases c0 : c_st A 3 j = 0
  · rw [if_pos c0]
    refine am_cav 9 (by decide) rfl (by rw [e15, l1 c0]; exact t_hasN h2 hm) (by decide) (by decide) (by decide) ?_
    refine am_yea 9 (by decide) rfl (by decide) ?_
    refine am_nee 9 (by decide) rfl (nI_in (show j < 360 by omega) (by decide)) ?_
    refine am_nee 9 (by decide) rfl (nI_in (show j < 360 by omega) (by decide)) ?_
    refine am_nee 9 (by decide) rfl (nI_in (show v < 360 by omega) (by decide)) ?_
    refine am_nee 9 (by decide) rfl (nI_in (show j < 360 by omega) (by decide)) ?_
    refine am_nee 9 (by decide) rfl (nI_in (show j < 360 by omega) (by decide)) ?_
    refine am_nee 9 (by decide) rfl (nI_in (show j < 360 by omega) (by decide)) ?_
    refine am_nee 9 (by decide) rfl (nI_in (show v < 360 by omega) (by decide)) ?_
    refine am_cav 9 (by decide) rfl t_max (by decide) (by decide) (by decide) ?_
    refine am_nee 9 (by decide) rfl (nI_in (show j < 360 by omega) (by decide)) ?_
    refine am_end 9 (by decide) rfl trivial (by decide) (by decide) ⟨rfl, ?_⟩
    rw [nI_clamp (show j < 2 ^ 31 by omega), nI_clamp (show v < 2 ^ 31 by omega)]
    simp [c_appA, c_st, am_u]
    rfl
  · rw [if_neg c0]
    obtain ⟨i, i1, i2⟩ := l2 c0
    refine am_cav 9 (by decide) rfl (by rw [e15, i2]; exact t_hasY h2 hm i1) (by decide) (by decide) (by decide) ?_
    refine am_nay 9 (by decide) rfl (by decide) ?_
    refine am_nee 9 (by decide) rfl (by rw [e15, i2]; exact nI_in (show i < 360 by omega) (by decide)) ?_
    refine am_nee 9 (by decide) rfl (nI_in (show j < 360 by omega) (by decide)) ?_
    refine am_nee 9 (by decide) rfl (nI_in (show v < 360 by omega) (by decide)) ?_
    refine am_nee 9 (by decide) rfl (nI_in (show j < 360 by omega) (by decide)) ?_
    refine am_nee 9 (by decide) rfl (nI_in (show j < 360 by omega) (by decide)) ?_
    refine am_nee 9 (by decide) rfl (nI_in (show j < 360 by omega) (by decide)) ?_
    refine am_nee 9 (by decide) rfl (nI_in (show v < 360 by omega) (by decide)) ?_
    refine am_cav 9 (by decide) rfl t_max (by decide) (by decide) (by decide) ?_
    refine am_nee 9 (by decide) rfl (nI_in (show j < 360 by omega) (by decide)) ?_
    refine am_end 9 (by decide) rfl trivial (by decide) (by decide) ⟨rfl, ?_⟩
    rw [e15, nI_clamp (show j < 2 ^ 31 by omega), nI_clamp (show v < 2 ^ 31 by omega)]
    simp [c_appA, c_st, am_u]
    rfl
end GRW
end
section
/-! FROM A STATE TO THE END OF A METHOD OF THE CLASS -/
def c_D {α : Type} (cs : List Nat) (M d : Nat) (g : List aK) (J : Nat → Nat → Int64) (X : Nat × (Nat → Int32)) (I A : Nat → Nat → Int32) (s0 : aS) (R : α → Option Value → (Nat → Nat → Int32) → (Nat → Nat → Int32) → Prop) (r : Except aF α) : Prop := match r with
  | .ok a => ∃ (I' A' : Nat → Nat → Int32) (v : Option Value), R a v I' A' ∧ am_Fr cs I A I' A' ∧ ∀ (B C u c : Nat) (Q : aO → aH → Prop), u ≤ B → c ≤ C → Q (.inl v) (am_H g I' A' J X) → am_Tri M d B C u c s0 Q
  | .error q => ∃ (I' A' : Nat → Nat → Int32) (k : Nat), I' 3 0 = q.1 ∧ I' 3 1 = nI q.2 ∧ am_Fr cs I A I' A' ∧ am_Ft M d s0 (.inr (101, k)) (am_H (am_gx g) I' A' J X)
section CDW
variable {α β : Type} {cs : List Nat} {M d : Nat} {g : List aK} {J : Nat → Nat → Int64} {X : Nat × (Nat → Int32)} {I A I1 A1 : Nat → Nat → Int32} {s0 t t2 : aS} {R : α → Option Value → (Nat → Nat → Int32) → (Nat → Nat → Int32) → Prop} {r : Except aF α} {P : Prop}
theorem c_D.met {as : List Value} (hM : Nat.blt M 200 = true) (hl : Nat.ble (lg_sl as).length (am_ml M) = true) (h : c_D cs M d g J X I A (0, lv_args 0 as, [], am_H g I A J X) R r) : c_M cs d M as g I A J X R r := by
  cases r with
  | error q =>
    obtain ⟨I', A', k, h1, h2, h3, h4⟩ := h
    exact ⟨I', A', k, h1, h2, h3, am_metF hM hl h4⟩
  | ok a =>
    obtain ⟨I', A', v, h1, h2, h3⟩ := h
    exact ⟨I', A', v, h1, h2, am_met hM hl (h3 _ _ _ _ _ (by decide) (by decide) ⟨rfl, rfl⟩)⟩
/-- back over a stretch -/
theorem c_D.back (hto : am_To M d s0 t) (hf : am_Fr cs I A I1 A1) (h : c_D cs M d g J X I1 A1 t R r) : c_D cs M d g J X I A s0 R r := by
  cases r with
  | error q =>
    obtain ⟨I', A', k, h1, h2, h3, h4⟩ := h
    exact ⟨I', A', k, h1, h2, hf.trans h3, am_Ft.from hto h4⟩
  | ok a =>
    obtain ⟨I', A', v, h1, h2, h3⟩ := h
    exact ⟨I', A', v, h1, hf.trans h2, fun B C u c Q hu hc hq => hto B C u c Q hu hc (h3 B C u c Q hu hc hq)⟩
theorem c_D.yea (n : Nat) (h1d : 1 ≤ d) (hr : am_run n M s0 = am_br P t t2) (hp : P) (k : c_D cs M d g J X I A t R r) : c_D cs M d g J X I A s0 R r := c_D.back (fun _ _ _ _ _ _ _ k' => am_yea n h1d hr hp k') am_Fr.refl k
theorem c_D.nay (n : Nat) (h1d : 1 ≤ d) (hr : am_run n M s0 = am_br P t t2) (hp : ¬ P) (k : c_D cs M d g J X I A t2 R r) : c_D cs M d g J X I A s0 R r := c_D.back (fun _ _ _ _ _ _ _ k' => am_nay n h1d hr hp k') am_Fr.refl k
theorem c_D.nee (n : Nat) (h1d : 1 ≤ d) (hr : am_run n M s0 = am_nd P t) (hp : P) (k : c_D cs M d g J X I A t R r) : c_D cs M d g J X I A s0 R r := c_D.back (fun _ _ _ _ _ _ _ k' => am_nee n h1d hr hp k') am_Fr.refl k
theorem c_D.pla (n : Nat) (h1d : 1 ≤ d) (hr : am_run n M s0 = am_nx t) (k : c_D cs M d g J X I A t R r) : c_D cs M d g J X I A s0 R r := c_D.back (fun _ _ _ _ _ _ _ k' => am_pla n h1d hr k') am_Fr.refl k
/-- a call that isn't refused: with a value, without -/
theorem c_D.cav {n M' d' nx : Nat} {as' : List Value} {ls : List (Nat × Value)} {sk : List Value} {v : Value} (h1d : 1 ≤ d) (hr : am_run n M s0 = am_ca M' as' (nx, ls, sk, am_H g I A J X)) (hcon : am_Con d' M' as' (am_H g I A J X) (.inl (some v)) (am_H g I1 A1 J X) 0 0) (hd : d' + 1 ≤ d) (hf : am_Fr cs I A I1 A1) (k : c_D cs M d g J X I1 A1 (nx - 3 + 3, ls, v :: sk, am_H g I1 A1 J X) R r) : c_D cs M d g J X I A s0 R r := c_D.back (fun _ _ _ _ _ hu hc k' => am_cav n h1d hr hcon hd hu hc k') hf k
theorem c_D.can {n M' d' nx : Nat} {as' : List Value} {ls : List (Nat × Value)} {sk : List Value} (h1d : 1 ≤ d) (hr : am_run n M s0 = am_ca M' as' (nx, ls, sk, am_H g I A J X)) (hcon : am_Con d' M' as' (am_H g I A J X) (.inl none) (am_H g I1 A1 J X) 0 0) (hd : d' + 1 ≤ d) (hf : am_Fr cs I A I1 A1) (k : c_D cs M d g J X I1 A1 (nx - 3 + 3, ls, sk, am_H g I1 A1 J X) R r) : c_D cs M d g J X I A s0 R r := c_D.back (fun _ _ _ _ _ hu hc k' => am_can n h1d hr hcon hd hu hc k') hf k
/-- a call that may be refused -/
theorem c_D.call {n M' d' nx : Nat} {as' : List Value} {ls : List (Nat × Value)} {sk : List Value} {R' : β → Option Value → (Nat → Nat → Int32) → (Nat → Nat → Int32) → Prop} {r' : Except aF β} (h1d : 1 ≤ d) (hr : am_run n M s0 = am_ca M' as' (nx, ls, sk, am_H g I A J X)) (hs : am_hs M = []) (hd : d' + 1 ≤ d) (hcon : c_M cs d' M' as' g I A J X R' r') (he : ∀ q, r' = .error q → r = .error q) (k : ∀ b, r' = .ok b → ∀ I1 A1 v, R' b v I1 A1 → c_D cs M d g J X I1 A1 (nx - 3 + 3, ls, (match v with
    | some v => v :: sk
    | none => sk), am_H g I1 A1 J X) R r) : c_D cs M d g J X I A s0 R r := by
  cases hr' : r' with
  | error q =>
    rw [he q hr']
    rw [hr'] at hcon
    obtain ⟨I', A', k', h1, h2, h3, h4⟩ := hcon
    refine ⟨I', A', k', h1, h2, h3, ?_⟩
    intro B C u c Q hu hc hq
    exact am_cat n h1d hr h4 hd hu hc hs hq
  | ok b =>
    rw [hr'] at hcon
    obtain ⟨I1, A1, v, h1, h2, h3⟩ := hcon
    have hk := k b hr' I1 A1 v h1
    cases v with
    | none => exact c_D.can h1d hr h3 hd h2 hk
    | some v => exact c_D.cav h1d hr h3 hd h2 hk
theorem c_D.ref {n nx q : Nat} {ls : List (Nat × Value)} {sk : List Value} {w pp : Int32} (hd : 8 ≤ d) (hrun : am_run n M s0 = am_ca 16 [.ref 3, .int w, .int pp] (nx, ls, sk, am_H g I A J X)) (hs : am_hs M = []) (h3 : 3 ∈ cs) (hpp : pp = nI q) : c_D cs M d g J X I A s0 R (.error (w, q)) := by
  refine ⟨am_u (am_u I 3 0 w) 3 1 pp, A, (am_lay ++ g).length, by simp [am_u], by simp [am_u, hpp], (am_Fr.put h3).trans (am_Fr.put h3), ?_⟩
  intro B C u c Q hu hc hq
  exact am_cat n (by omega) hrun t_refuse hd hu hc hs hq
theorem c_D.ret {a : α} {v : Option Value} (n : Nat) (h1d : 1 ≤ d) (hr : am_run n M s0 = am_rt P (.inl v) (am_H g I A J X)) (hp : P) (h : R a v I A) : c_D cs M d g J X I A s0 R (.ok a) := ⟨I, A, v, h, am_Fr.refl, fun _ _ _ _ _ hu hc hq => am_end n h1d hr hp hu hc hq⟩
end CDW
end
section
/-! THE CLASS'S PARSER: expressions -/
/-- the value is a new node -/
def p_V (T : Nat) (tk : Nat → aT) (m : Nat) (A : Nat → Nat → Int32) (a : Nat × aB × Nat) (v : Option Value) (I' A' : Nat → Nat → Int32) : Prop := ∃ j m', v = some (.int (nI j)) ∧ p_I T tk a.2.2 m' I' A' ∧ n_V true (c_st A) m (c_st A') m' j a.1 a.2.1
/-- what is known of the expressions within, where o are begun -/
def p_U (g : List aK) (J : Nat → Nat → Int64) (X : Nat × (Nat → Int32)) (T : Nat) (tk : Nat → aT) (D o : Nat) (full : Bool) (up : Nat → Nat → aG) : Prop := 12 ≤ D ∧ o ≤ 12 ∧ (full = true ↔ o = 12) ∧ (∀ s p e c p', 1 ≤ s → up s p = .ok (e, c, p') → d_Q (d_mk T tk) T p e c p') ∧ (full = false → ∀ (s p m : Nat) (I A : Nat → Nat → Int32), 1 ≤ s → s ≤ 8 → p < T → m ≤ 2 * p + 3 → p_I T tk p m I A → c_M p_cs D 77 [.ref 26, .int (nI s), .int (nI (o + 1))] g I A J X (p_V T tk m A) (up s p) ∧ ((s = 3 ∨ s = 7) → c_M p_cs D 78 [.ref 26, .int (nI s), .int (nI (o + 1))] g I A J X (p_V T tk m A) (up s p)))
section CEX
variable {g : List aK} {I A : Nat → Nat → Int32} {J : Nat → Nat → Int64} {X : Nat × (Nat → Int32)} {T : Nat} {tk : Nat → aT} {p m D o : Nat} {full : Bool} {up : Nat → Nat → aG}
theorem t_tokenOf {j : Nat} (hm : I 9 9 = nI m) (h : m ≤ 360) (hj : j < m) : am_Con 1 37 [.ref 9, .int (nI j)] (am_H g I A J X) (.inl (some (.int (c_st A 1 j)))) (am_H g I A J X) 0 0 := by
  refine am_met rfl rfl ?_
  refine am_nay 9 (by decide) rfl (nI_pos (by omega)) ?_
  refine am_nay 9 (by decide) rfl (by rw [hm]; exact nI_ge hj (by omega)) ?_
  refine am_nee 9 (by decide) rfl (nI_in (show j < 360 by omega) (by decide)) ?_
  refine am_end 9 (by decide) rfl trivial (by decide) (by decide) ⟨?_, rfl⟩
  rw [nI_clamp (by omega)]
  rfl
theorem t_heightOf {j : Nat} (hm : I 9 9 = nI m) (h : m ≤ 360) (hj : j < m) : am_Con 1 38 [.ref 9, .int (nI j)] (am_H g I A J X) (.inl (some (.int (c_st A 2 j)))) (am_H g I A J X) 0 0 := by
  refine am_met rfl rfl ?_
  refine am_nay 9 (by decide) rfl (nI_pos (by omega)) ?_
  refine am_nay 9 (by decide) rfl (by rw [hm]; exact nI_ge hj (by omega)) ?_
  refine am_nee 9 (by decide) rfl (nI_in (show j < 360 by omega) (by decide)) ?_
  refine am_end 9 (by decide) rfl trivial (by decide) (by decide) ⟨?_, rfl⟩
  rw [nI_clamp (by omega)]
  rfl
theorem t_partsOf {j : Nat} (hm : I 9 9 = nI m) (h : m ≤ 360) (hj : j < m) : am_Con 1 39 [.ref 9, .int (nI j)] (am_H g I A J X) (.inl (some (.int (c_st A 3 j)))) (am_H g I A J X) 0 0 := by
  refine am_met rfl rfl ?_
  refine am_nay 9 (by decide) rfl (nI_pos (by omega)) ?_
  refine am_nay 9 (by decide) rfl (by rw [hm]; exact nI_ge hj (by omega)) ?_
  refine am_nee 9 (by decide) rfl (nI_in (show j < 360 by omega) (by decide)) ?_
  refine am_end 9 (by decide) rfl trivial (by decide) (by decide) ⟨?_, rfl⟩
  rw [nI_clamp (by omega)]
  rfl
theorem k_hc {lo mid j e : Nat} {c : aB} (h : p_I T tk p m I A) (hj : j < m) (hT : n_T (c_st A) true lo mid j e c) (he : 11 ≤ e % 32) (het : e / 32 < T) (hlm : lo ≤ mid) (hmid : mid ≤ 400) : c_M p_cs 9 88 [.ref 26, .int (nI j)] g I A J X (fun a v I' A' => v = none ∧ I' = I ∧ A' = A ∧ a = (e, c, p)) (d_hc (d_pc tk) e c p) := by
  obtain ⟨h1, h2, hm, h4, h5, h6⟩ := h
  have hb := (b_ht_lt hlm hT.2).1
  have e2 := hT.1.2.2.2 he
  have e1 := hT.1.2.1 (Or.inl rfl)
  have hh := t_heightOf (g := g) (A := A) (J := J) (X := X) h2 hm hj
  have ht := t_tokenOf (g := g) (A := A) (J := J) (X := X) h2 hm hj
  rw [e2] at hh
  rw [e1] at ht
  refine c_D.met rfl rfl ?_
  refine c_D.cav (n := 9) (by decide) rfl hh (by decide) am_Fr.refl ?_
  unfold d_hc
  by_cases c1 : 10 < b_ht c + 1
  · rw [if_pos c1]
    refine c_D.nay 9 (by decide) rfl (nI_ge (a := 10) c1 (by omega)) ?_
    refine c_D.cav (n := 9) (by decide) rfl ht (by decide) am_Fr.refl ?_
    refine c_D.cav (n := 9) (by decide) rfl (t_place h5 het) (by decide) am_Fr.refl ?_
    exact c_D.ref (n := 9) (by decide) rfl rfl (by decide) rfl
  · rw [if_neg c1]
    refine c_D.yea 9 (by decide) rfl (nI_le (b := 10) (by omega) (by decide)) ?_
    exact c_D.ret 9 (by decide) rfl trivial ⟨rfl, rfl, rfl, rfl⟩
end CEX
end
section
/-! THE START: the context at the law's entry -/
theorem am_arr {args : Array Value} {s : State} {ty : FieldType} (h : (Jvm.Cond.arrayClass ty).before args s = true) : ∃ cA : ClassId, ArrOfT s cA ty ∧ s.vm.findClass ("[" ++ ty.toString) = some cA := by
  obtain ⟨c, k, comp, h1, h2, h3⟩ := Cond.arrayClass_spec h
  exact ⟨c, fun n z => ⟨(fun _ h => by cases h), k, h2, comp, h3⟩, h1⟩
theorem am_Sta.of {args : Array Value} {s : State} {C n d : String} (hl : (Jvm.Cond.laysStatic C n d).before args s = true) (h : (Jvm.Cond.isRef (.static C n d)).before args s = true) : am_Sta C n d s s.heap := by
  obtain ⟨c, k, i, f, a, cell, hc, hi, hst, ha, hcell, hs, hcls, hlt, hty⟩ := Cond.laysStatic_spec hl
  cases hv : (Term.static C n d).eval args s none [] s with
  | none => simp [Cond.before, Cond.holds, Cond.value, hv] at h
  | some w =>
    obtain ⟨hst', a', cell', ha', hcell', -, hslot⟩ := Term.static_spec hi hv
    cases ha.symm.trans ha'
    cases hcell.symm.trans hcell'
    refine ⟨c, k, i, f, a, cell, w, hc, hi, hst, ha, hcell, hs, hcls, hlt, hty, hslot, ?_⟩
    simp only [Cond.before, Cond.holds, Cond.value, hv] at h
    cases w <;> simp_all [Value.isRef]
def am_tm (i : Nat) : Term := .string (am_str.getD i ("", 0, "")).1 (am_str.getD i ("", 0, "")).2.1
def am_fl : List Jvm.Cond := flatC (Jvm.Cond.and given_1 narrow_1)
def am_expT (i : Nat) : List Jvm.Cond := Jvm.Cond.exactly (am_tm i) "java/lang/String" :: Jvm.Cond.eq (.field (am_tm i) "java/lang/String" "coder" "B") (.int 0) :: Jvm.Cond.arrayOf (.field (am_tm i) "java/lang/String" "value" "[B") .byte ::
  Jvm.Cond.eq (.length (.field (am_tm i) "java/lang/String" "value" "[B")) (.int (Int32.ofNat (am_sl.getD i 0))) :: (List.range (am_sl.getD i 0)).map (fun j => Jvm.Cond.eq (.elem (.field (am_tm i) "java/lang/String" "value" "[B") (.int (Int32.ofNat j))) (.int ((am_sb.getD i []).getD j 0)))
theorem am_txall : List.drop 63 am_fl = (List.range 29).flatMap am_expT := by decide +kernel
def am_sw0 : List Nat := [419, 453, 463, 537, 573, 627, 628, 629, 630, 631, 632, 633, 634, 635, 636, 649, 705, 884, 911, 964, 969, 970, 971, 976, 977, 982, 1000, 1020, 1035]
theorem am_srall : (List.range 29).all (fun i => decide (am_sl.getD i 0 < 2 ^ 31) && decide (lw_tbl[am_sw0.getD i 0]? = some (Jvm.Cond.stringRef (am_str.getD i ("", 0, "")).1 (am_str.getD i ("", 0, "")).2.1 (am_str.getD i ("", 0, "")).2.2))) = true := by decide +kernel
theorem am_rtx {i : Nat} (hi : i < 29) : Jvm.Cond.exactly (am_tm i) "java/lang/String" ∈ am_fl ∧ Jvm.Cond.eq (.field (am_tm i) "java/lang/String" "coder" "B") (.int 0) ∈ am_fl ∧ Jvm.Cond.arrayOf (.field (am_tm i) "java/lang/String" "value" "[B") .byte ∈ am_fl ∧
    Jvm.Cond.eq (.length (.field (am_tm i) "java/lang/String" "value" "[B")) (.int (Int32.ofNat (am_sl.getD i 0))) ∈ am_fl ∧ (∀ j : Nat, j < am_sl.getD i 0 → Jvm.Cond.eq (.elem (.field (am_tm i) "java/lang/String" "value" "[B") (.int (Int32.ofNat j))) (.int ((am_sb.getD i []).getD j 0)) ∈ am_fl) ∧
    am_sl.getD i 0 < 2 ^ 31 ∧ Jvm.Cond.stringRef (am_str.getD i ("", 0, "")).1 (am_str.getD i ("", 0, "")).2.1 (am_str.getD i ("", 0, "")).2.2 ∈ lw_tbl := by
  have hm : ∀ w ∈ am_expT i, w ∈ am_fl := by
    intro w hw
    have h1 : w ∈ (List.range 29).flatMap am_expT := List.mem_flatMap.mpr ⟨i, List.mem_range.mpr hi, hw⟩
    rw [← am_txall] at h1
    exact List.mem_of_mem_drop h1
  have hr := List.all_eq_true.mp am_srall i (List.mem_range.mpr hi)
  simp only [Bool.and_eq_true, decide_eq_true_eq] at hr
  refine ⟨hm _ (by simp [am_expT]), hm _ (by simp [am_expT]), hm _ (by simp [am_expT]), hm _ (by simp [am_expT]), fun j hj => hm _ ?_, hr.1, List.mem_of_getElem? hr.2⟩
  refine List.mem_cons_of_mem _ (List.mem_cons_of_mem _ (List.mem_cons_of_mem _ (List.mem_cons_of_mem _ ?_)))
  exact List.mem_map.mpr ⟨j, List.mem_range.mpr hj, rfl⟩
theorem am_nall : (List.range 4).all (fun i => (List.range 4).all (fun j => decide (i = j) || decide (Jvm.Cond.not (.castable (am_ex.getD i "") (am_ex.getD j "")) ∈ am_fl))) = true := by decide +kernel
theorem am_strs {args : Array Value} {s : State} {A : Nat → Prop} (hf : ∀ w ∈ am_fl, w.before args s = true) (hA : ∀ a : Nat, a < s.heap.size → ¬ A a) : ∃ adK adV : Nat → Nat, am_Str adK adV A s s.heap ∧ ∀ i : Nat, i < 29 → (am_tm i).eval args s none [] s = some (.ref (adK i)) := by
  have h0 : ∀ i : Nat, ∃ q : Nat × Nat, i < 29 → (am_tm i).eval args s none [] s = some (.ref q.1) ∧ va_O "java/lang/String" q.1 A s s.heap ∧ va_OF "java/lang/String" "coder" "B" (.int 0) q.1 A s s.heap ∧ va_OF "java/lang/String" "value" "[B" (.ref q.2) q.1 A s s.heap ∧ va_T .byte q.2 (am_sl.getD i 0) (fun j => .int ((am_sb.getD i []).getD j 0)) A s s.heap := by
    intro i
    by_cases hi : i < 29
    · obtain ⟨r1, r2, r3, r4, r5, r6, r7⟩ := am_rtx hi
      obtain ⟨a, c, cA, kA, q1, q2, q3, q4, q5, q6, -⟩ := Cond.exactly_spec (args := args) (first := s) (o := none) (s := s) (idx := []) (t := am_tm i) (cls := "java/lang/String") (hf _ r1)
      obtain ⟨t, ht, hT⟩ := va_Tof (f := fun j => .int ((am_sb.getD i []).getD j 0)) (A := A) r6 (hf _ r3) (va_eqt (hf _ r4)) (fun j hj => va_eqt (hf _ (r5 j hj))) hA
      exact ⟨(a, t), fun _ => ⟨q1, ⟨cA, q3, q5, by rw [q6]; exact q2, hA a (Array.getElem?_eq_some_iff.mp q3).1⟩, vk_OFof q1 (va_eqt (hf _ r2)) hA, vk_OFof q1 ht hA, hT⟩⟩
    · exact ⟨(0, 0), fun h => absurd h hi⟩
  obtain ⟨ad, had⟩ := Classical.axiomOfChoice h0
  exact ⟨fun i => (ad i).1, fun i => (ad i).2, fun i hi => (had i hi).2, fun i hi => (had i hi).1⟩
theorem am_classes {args : Array Value} {s : State} (hts : ∀ w ∈ lw_tbl, w.before args s = true) : ∃ D : va_G, va_K D am_cl [] s := by
  have h0 : ∀ ci : Nat, ∃ q : ClassId × (Nat → Nat), ∀ r : vw_C, am_cl[ci]? = some r → u_Kn s r.1 r.2.1 r.2.2 q.1 q.2 := by
    intro ci
    cases hr : am_cl[ci]? with
    | none => exact ⟨(0, fun _ => 0), fun r h => by cases h⟩
    | some r =>
      have hlt : ci < 10 := (List.getElem?_eq_some_iff.mp hr).1
      have hc := List.all_eq_true.mp am_call ci (List.mem_range.mpr hlt)
      unfold am_rowC at hc
      rw [hr] at hc
      generalize am_ci.getD ci (0, 0, []) = z at hc
      obtain ⟨w1, w2, ws⟩ := z
      obtain ⟨C, T, N⟩ := r
      simp only [Bool.and_eq_true, decide_eq_true_eq] at hc
      obtain ⟨⟨⟨⟨⟨⟨c1, c2⟩, c3⟩, c4⟩, c5⟩, c6⟩, c7⟩ := hc
      have hin : ∀ w ∈ u_ws C T N, w ∈ lw_tbl := by
        intro w hw
        have h1 : some w ∈ (u_ws C T N).map some := List.mem_map.mpr ⟨w, hw, rfl⟩
        rw [← c3] at h1
        obtain ⟨i, -, hi⟩ := List.mem_map.mp h1
        exact List.mem_of_getElem? hi
      obtain ⟨cC, iS, h⟩ := u_known hts hin (hts _ (List.mem_of_getElem? c1))
      exact ⟨(cC, iS), fun r' h' => by cases h'; exact h⟩
  obtain ⟨D, hD⟩ := Classical.axiomOfChoice h0
  exact ⟨(fun ci => (D ci).1, fun ci => (D ci).2), fun ci r hr => hD ci r hr, fun k q hq => by cases hq⟩
theorem am_begin {s : State} {b L : Nat} {xs : Nat → Int32} (hts : ∀ w ∈ lw_tbl, w.before #[Value.ref b] s = true) (hf : (Jvm.Cond.and given_1 narrow_1).before #[Value.ref b] s = true) (hX : va_X b L xs s s.heap) :
    ∃ E : aE, E.1 = s.heap.size ∧ E.2.1 = s.heap ∧ E.2.2.2.2 1000 = b ∧ am_G E s ∧ am_R E ([], fun _ _ => 0, fun _ _ => 0, fun _ _ => 0, (L, xs)) s s.heap := by
  have hfl : ∀ w ∈ am_fl, w.before #[Value.ref b] s = true := flat_of_before _ hf
  have hA : ∀ a : Nat, a < s.heap.size → ¬ (fun q => s.heap.size ≤ q) a := fun a h1 h2 => absurd h1 (Nat.not_lt.mpr h2)
  obtain ⟨adK, adV, hS, hev⟩ := am_strs hfl hA
  obtain ⟨D, hD⟩ := am_classes hts
  have ha0 : ∀ t : ArrayType, ∃ cA : ClassId, am_at t = true → ArrOfT s cA (newarray.typeOf t) ∧ s.vm.findClass ("[" ++ (newarray.typeOf t).toString) = some cA := by
    intro t
    by_cases ht : am_at t = true
    · obtain ⟨i, hi⟩ := am_arw ht
      obtain ⟨cA, h⟩ := am_arr (hts _ (List.mem_of_getElem? hi))
      exact ⟨cA, fun _ => h⟩
    · exact ⟨0, fun h => absurd h ht⟩
  obtain ⟨ar, har⟩ := Classical.axiomOfChoice ha0
  refine ⟨(s.heap.size, s.heap, D, ar, fun i => if i = 1000 then b else if 2000 ≤ i then adV (i - 2000) else adK i), rfl, rfl, (if_pos rfl : (if (1000 : Nat) = 1000 then b else if 2000 ≤ 1000 then adV (1000 - 2000) else adK 1000) = b), ⟨?_, hD, fun t ht => har t ht, ?_, ?_, ⟨?_, ?_⟩, ?_, ?_, ?_, ?_⟩, ?_⟩
  · intro w hw hg
    have h1 := hts w hw
    cases w
    case fieldLinkNest a i b n d hh => exact va_Nw.of rfl h1
    case methodLinkNest a i x hh => exact va_Nw.of rfl h1
    all_goals exact word_at (State.WarmedH.refl _) (good_of_word hg) h1
  · intro i q hq
    have hi : i < 29 := (List.getElem?_eq_some_iff.mp hq).1
    have hr := am_rtx hi
    have e : am_str.getD i ("", 0, "") = q := by rw [List.getD_eq_getElem?_getD, hq]; rfl
    have h1 := hts _ hr.2.2.2.2.2.2
    have h2 := hev i hi
    unfold am_tm at h2
    rw [e] at h1 h2
    show vk_R q.1 q.2.1 q.2.2 (if i = 1000 then b else if 2000 ≤ i then adV (i - 2000) else adK i) s
    rw [if_neg (by omega), if_neg (by omega)]
    exact vk_R.of h1 h2
  · intro i hi
    dsimp only
    rw [if_neg (show ¬ i = 1000 by omega), if_neg (show ¬ 2000 ≤ i by omega), if_neg (show ¬ 2000 + i = 1000 by omega), if_pos (show 2000 ≤ 2000 + i by omega), Nat.add_sub_cancel_left]
    exact hS i hi
  · exact va_Zof (hts _ (by decide +kernel)) (hts _ (by decide +kernel)) (va_eqi (hfl _ (by decide +kernel))) hA
  · exact va_Zqof (hts _ (by decide +kernel)) (hts _ (by decide +kernel)) (hfl _ (by decide +kernel)) hA
  · exact am_Sta.of (hts _ (by decide +kernel)) (hfl _ (by decide +kernel))
  · exact am_Sta.of (hts _ (by decide +kernel)) (hfl _ (by decide +kernel))
  · intro w hw hg
    have h1 := hts w hw
    cases w
    case declares x => exact va_Nw.of rfl h1
    case castable a b => exact va_Nw.of rfl h1
    all_goals cases hg
  · intro i j a b' hij hia hjb
    have hi : i < 4 := (List.getElem?_eq_some_iff.mp hia).1
    have hj : j < 4 := (List.getElem?_eq_some_iff.mp hjb).1
    have hr := List.all_eq_true.mp (List.all_eq_true.mp am_nall i (List.mem_range.mpr hi)) j (List.mem_range.mpr hj)
    simp only [Bool.or_eq_true, decide_eq_true_eq] at hr
    rcases hr with hr | hr
    · exact absurd hr hij
    · rw [List.getD_eq_getElem?_getD, List.getD_eq_getElem?_getD, hia, hjb] at hr
      exact va_Nc.of (hfl _ hr)
  · refine ⟨rfl, (fun k q hq => by cases hq), rfl, (fun q hq => rfl), (fun q cell hq hc => ?_), ?_⟩
    · exact absurd (Array.getElem?_eq_some_iff.mp hc).1 (Nat.not_lt.mpr hq)
    · show va_X (if (1000 : Nat) = 1000 then b else if 2000 ≤ 1000 then adV (1000 - 2000) else adK 1000) L xs s s.heap
      rw [if_pos rfl]
      exact hX
end
section
/-! FROM A RUN OF THE LAW TO THE CLAIM -/
def am_h0 (L : Nat) (xs : Nat → Int32) : aH := ([], fun _ _ => 0, fun _ _ => 0, fun _ _ => 0, (L, xs))
theorem am_shrink {p : Program} {l : Launch} {e : Env} {R R' : Room} {s : State} {m : MethodId} {args : Array Value} {below : List Frame} {meth : Method} {c : Code} {H : Heap} {locs : List Loc} {cells slots : Nat} {Q : State → Prop} {g : JFrame}
    (h1 : R'.frames ≤ R.frames) (h2 : R'.cells ≤ R.cells) (h3 : R'.slots ≤ R.slots) (h4 : R'.locals ≤ R.locals) (kk : W p l e R' s m args below meth c H locs cells slots Q g) : W p l e R s m args below meth c H locs cells slots Q g := by
  intro T hT X
  refine kk T hT { X with room := ?_ }
  have h := X.room
  simp only [State.hasRoom, Bool.and_eq_true, decide_eq_true_eq] at h ⊢
  obtain ⟨⟨⟨⟨a1, a2, a3, a4, a5, a6⟩, a7⟩, a8⟩, a9⟩ := h
  exact ⟨⟨⟨⟨by omega, by omega, by omega, by omega, by omega, a6⟩, by omega⟩, by omega⟩, a9⟩
theorem am_framed {s t : State} {o : Outcome} {B C : Nat} (ho : ∃ v : Option Value, o = .returned v) (h : xm_End s t B C (fun q => s.heap.size ≤ q)) : Framed s o t [] B C := by
  obtain ⟨L, hW, ⟨e2, q2, q3, q4, q5, q6⟩, hL⟩ := h
  refine ⟨ho, hW, e2, q2, q3, q4, q5, fun a c hc => ?_⟩
  obtain ⟨c', h1, h2, h3, h4⟩ := q6 a c hc
  refine ⟨c', h1, h2, h3, fun i _ => h4 i fun hm => ?_⟩
  exact absurd (Array.getElem?_eq_some_iff.mp hc).1 (Nat.not_lt.mpr (hL _ hm))
theorem am_whole {p : Program} {e : Env} {s : State} {m : MethodId} {below : List Frame} {meth : Method} {c : Code} (l : Launch) (hfl : l.flags = pinnedFlags ++ [noTraceFlag]) {b L : Nat} {xs : Nat → Int32}
    (hT : am_Tri 200 2048 601024 7293034 0 0 (0, [(0, .retAddr 1000)], [], am_h0 L xs) (fun o _ => o = .inl (some (.int 1))))
    (hx : p.tables.exec = Jvm.exec) (hb : c.code = code) (hr : meth.sig.returnType = ret) (hml : c.maxLocals = 7) (hown : s.vm.findClass "BlockFrontLaw" = some m.cls) (hts : ∀ w ∈ lw_tbl, w.before #[Value.ref b] s = true) (hX : va_X b L xs s s.heap) (hlk : meth.locks = false) (hgv : (Jvm.Cond.and given_1 narrow_1).before #[Value.ref b] s = true)
    (hnm : meth.name = "law") (htr : e.platform.stackTraces = false) (hex : c.exceptionTable.isEmpty = true) :
    W p l e room_1 s m #[Value.ref b] below meth c s.heap [] 0 0 (fun t => ∃ o, t.status = .running ∧ Ended t below o ∧ o = .returned (some (.int 1)) ∧ Framed s o t [] 601024 7293034) (entryFrame m ([Value.ref b] : List Value).toArray 7) := by
  obtain ⟨E, e1, e2, e3, hG, hR⟩ := am_begin hts hgv hX
  refine am_shrink (R' := am_room 2048 601024 7293034) (Nat.le_refl _) (Nat.le_refl _) (Nat.le_refl _) (show 40 * 2048 ≤ 84000 by decide) ?_
  rw [lg_entry_eq]
  have hcx : am_Cx 200 2048 601024 7293034 p l e (am_room 2048 601024 7293034) s m #[Value.ref b] below meth c E := by
    refine ⟨hx, hb.trans rfl, hml, hr, hlk, hnm, hown, hG, htr, ?_, rfl, ?_, ?_, ?_, ?_, hfl⟩
    · simp only [Array.isEmpty_iff] at hex
      rw [hex]
      rfl
    · rw [e1]; exact Nat.le_refl _
    · intro q cell hq hc
      rw [e1] at hq
      exact absurd (Array.getElem?_eq_some_iff.mp hc).1 (Nat.not_lt.mpr hq)
    · intro q _; rw [e2]
    · rw [e1, e2]
  have hl : lv_has (lg_sl [Value.ref b] ++ List.replicate (7 - (lg_sl [Value.ref b]).length) Slot.unset).toArray (am_ml 200) (am_l E [(0, .retAddr 1000)]) := by
    have h1 : am_l E [(0, .retAddr 1000)] = lv_args 0 [Value.ref b] := by
      simp only [am_l, List.map_cons, List.map_nil, lv_args, am_v, e3]
    rw [h1]
    exact lv_entry (n := 7) [Value.ref b] (show 1 ≤ 7 by decide)
  have hW := hT p l e _ s m _ below meth c E hcx s.heap [] _ hR hl (fun q hq => by cases hq)
  intro T hTT X
  obtain ⟨t, a1, o, b1, b2, ⟨oo, hh, c1, c2, c3⟩, b4⟩ := hW T hTT X
  subst c1
  have ho : o = .returned (some (.int 1)) := c3
  refine ⟨t, a1, o, b1, b2, ho, am_framed ⟨_, ho⟩ ?_⟩
  rw [← e1]
  exact b4
end
section
/-! THE CLAIM OUT OF ONE WALK OF THE LAW'S BODY. Your part is whole_start (and what it stands on); all else here is the same for every law, but numbers. -/
def R_law : String := "BlockFrontLaw"
def lw_P (b : Addr) (xs : List Int32) (args : Array Value) (s : State) : Prop := args = #[.ref b] ∧ s.IntsAt b xs ∧ xs.length ≤ 2048 ∧ (Jvm.Cond.and given_1 narrow_1).before args s = true
def lw_Q (_ : Array Value) (s : State) (o : Outcome) (t : State) : Prop := o = .returned (some (.int 1)) ∧ Framed s o t [] 601024 7293034
def lw_Z (below : List Frame) (a : Array Value) (s : State) : State → Prop := fun t => ∃ o, t.status = .running ∧ Ended t below o ∧ lw_Q a s o t
/-- what the abstract machine has to show -/
def am_Law : Prop := ∀ (L : Nat) (xs : Nat → Int32), L ≤ 2048 → am_Tri 200 2048 601024 7293034 0 0 (0, [(0, .retAddr 1000)], [], am_h0 L xs) (fun o _ => o = .inl (some (.int 1)))
set_option maxHeartbeats 4000000 in
theorem lw_walk (hLaw : am_Law) (l : Launch) (hfl : l.flags = pinnedFlags ++ [noTraceFlag]) (b : Addr) (xs : List Int32) : MetFree l x (headSpec (Jvm.Cond.code x code maxLocals ret :: tables_1) room_1) (lw_P b xs) (fun _ _ _ _ _ => True) lw_Q := by
  refine MetFree.of_bodyS (code := code) (maxLocals := maxLocals) (ret := ret) (by decide) ?_ ?_
  · intro args s m h hn
    obtain ⟨meth, c, h1, h2, h3, h4, h5, h6, -, -⟩ := Cond.code_spec hn (atoms_spec (ws := Jvm.Cond.code x code maxLocals ret :: tables_1) h _ List.mem_cons_self)
    exact ⟨meth, c, h1, h2, h3, h4, h5, h6⟩
  · intro p e s m args below meth c s₁ B hml0 hP _
    obtain ⟨rfl, hx, hbd, hgv⟩ := hP
    obtain ⟨scr, harrAt, hlist, hof, hsmall⟩ := hx
    obtain ⟨hcb, hkn, -, -⟩ := State.arrayAt?_spec harrAt
    have hown : s.vm.findClass R_law = some m.cls := findClass_of_methodNamed B.named
    have hts0 : ∀ c ∈ (Jvm.Cond.code x code maxLocals ret :: tables_1), c.before #[Value.ref b] s = true := atoms_spec (ws := Jvm.Cond.code x code maxLocals ret :: tables_1) B.pre
    have hts : ∀ w ∈ lw_tbl, w.before #[Value.ref b] s = true := k2_hts_sels lw_privs (fun w hw => hts0 w (List.mem_cons_of_mem _ hw)) lw_privs_ok
    have hml : c.maxLocals = 7 := B.maxLocals_eq (hts0 _ List.mem_cons_self)
    have X₀ : Stand p l e room_1 s m #[Value.ref b] below meth c s₁ [] 0 0 := Stand.of_body B
    have hh0 : s₁.heap = s.heap := by rw [B.state]; rfl
    have hsz : scr.slots.size = xs.length := by rw [← Array.length_toList, hlist, List.length_map]
    have hval : ∀ j : Nat, j < xs.length → scr.slots[j]? = some (.int (xs.getD j 0)) := fun j hj => by
      rw [← Array.getElem?_toList, hlist]
      simp [hj]
    have hbl : b < s.heap.size := (Array.getElem?_eq_some_iff.mp hcb).1
    have hX : va_X b xs.length (fun j => xs.getD j 0) s s.heap := ⟨scr, hcb, hof, hkn, hsz, hval⟩
    have K : W p l e room_1 s m #[Value.ref b] below meth c s₁.heap [] 0 0 (lw_Z below #[Value.ref b] s) (entryFrame m ([Value.ref b] : List Value).toArray 7) := by
      rw [hh0]
      obtain ⟨meth', c', h1, h2, h3, h4, h5, h6, h7, -⟩ := Cond.code_spec B.named (hts0 _ List.mem_cons_self)
      cases B.method.symm.trans h1
      have hcode : meth.code = some c := by
        have h1 := B.here.code
        rw [B.state] at h1
        have h2 : (s.setFrames (.java (entryFrame m #[Value.ref b] maxLocals) :: below)).code? m = s.code? m := rfl
        rw [h2, State.code?_eq, B.method] at h1
        exact h1
      cases hcode.symm.trans h2
      exact am_whole l hfl (hLaw _ _ hbd) B.exec B.bytes B.returns hml hown hts hX B.notSynchronized hgv (name_of_methodNamed B.named B.method).1 (Launch.traces_off hfl B.admits) h7
    obtain ⟨t, a1, o, b1, b2, b3⟩ := K s₁ rfl X₀
    exact ⟨t, o, a1, b1, b2, b3⟩
theorem lw_pre_spec {args : Array Value} {s : State} (h : (Jvm.Cond.and given_1 narrow_1).before args s = true) (hr : rest_1_c.before args s = true) : ∃ (b : Addr) (xs : List Int32), lw_P b xs args s := by
  have hs := flat_of_before _ h
  have hq := flat_of_before _ hr
  have hc : (Cond.count 1).before args s = true := hs _ (by decide +kernel)
  have harr : (Cond.arrayOf (.arg 0) .int).before args s = true := hs _ (by decide +kernel)
  have hle : (Cond.le (.length (.arg 0)) (.int 2048)).before args s = true := hs _ (by decide +kernel)
  have hlen : (Cond.isInt (.length (.arg 0))).before args s = true := hq _ (by decide +kernel)
  have hall : (Cond.all (.arg 0) (.isInt (.elem (.arg 0) (.index 0)))).before args s = true := hq _ (by decide +kernel)
  obtain ⟨b, xs, hb, hx⟩ := State.ints_of_pre rfl harr hlen hall
  have hsm : xs.length < 2 ^ 31 := hx.choose_spec.2.2.2
  have hev : (Term.length (.arg 0)).eval args s none [] s = some (.int xs.length.toInt32) := hx.length_eval hb
  have hv := Cond.le_ints hev (show (Term.int 2048).eval args s none [] s = some (.int 2048) from rfl)
  have hd : xs.length.toInt32 ≤ 2048 := by
    simpa [Cond.before, Cond.holds, hv] using hle
  have hN : xs.length ≤ 2048 := (Int32.ofNat_le_ofNat hsm (by decide)).mp (show Int32.ofNat xs.length ≤ Int32.ofNat 2048 from hd)
  exact ⟨b, xs, Cond.one_arg hc (show args[0]? = some (.ref b) from hb), hx, hN, h⟩
theorem lw_comes (hLaw : am_Law) (l : Launch) (hfl : l.flags = pinnedFlags ++ [noTraceFlag]) : Comes l x (Jvm.Cond.code x code maxLocals ret :: tables_1) room_1 (fun tb e args s => Calls_1 tb e args s ∧ rest_1 tb e args s ∧ Pre_1 tb e args s)
    (fun _ _ args s o t => lw_Q args s o t) := by
  intro p e ha hc hk s m args below hf hfit hheap happ hpre
  obtain ⟨b, xs, hP⟩ := lw_pre_spec hpre.2.2 hpre.2.1
  obtain ⟨k, o, h1, h2, h3, hQ⟩ := lw_walk hLaw l hfl b xs p e ha hc hk s m args below hf ((Spec.applies_iff_loose hf).mp happ).1 hP trivial
  exact ⟨k, o, h1, h2, h3, hQ⟩
theorem lw_frame {s t : State} {o : Outcome} {args : Array Value} (h : Framed s o t [] 601024 7293034) :
    Framed s o t (fieldLocs frame_1_writes args s ++ arrayLocs frame_1_arrays args s ++ staticLocs frame_1_statics s) 601024 7293034 := h
theorem lw_limb (hLaw : am_Law) (L : Cond) (hL : ∀ (args : Array Value) (s t : State), L.after args s (.returned (some (.int 1))) t = true) :
    ArmFor flags0 classFile x code maxLocals ret World_1 tables_1 room_1 Calls_1 rest_1 Pre_1
      (fun tb e a s o t => postC L tb e a s o t ∧ Framed s o t (fieldLocs frame_1_writes a s ++ arrayLocs frame_1_arrays a s ++ staticLocs frame_1_statics s) 601024 7293034) := by
  intro l hfl _ _ p e ha hc hk s m args below hf hfit hheap happ hpre
  obtain ⟨k, o, h1, h2, h3, rfl, hF⟩ := lw_comes hLaw l hfl p e ha hc hk s m args below hf hfit hheap happ hpre
  exact ⟨k, _, h1, h2, h3, hL args s _, lw_frame hF⟩
theorem am_claim (hLaw : am_Law) : Claimed_1_1 ∧ Claimed_1_2 := ⟨lw_limb hLaw limb_1_1 (fun args s t => by simp [limb_1_1, Cond.after, Cond.holds, Cond.value]), lw_limb hLaw limb_1_2 (fun args s t => Cond.after_iff.mpr (by
  first | (rw [show limb_1_2 = Cond.eq .result (.int 1) from rfl, Cond.eq_ints (x := 1) (y := 1) rfl rfl]; simp; done) | (simp [limb_1_2, Cond.value, Term.eval]; done)))⟩
end
