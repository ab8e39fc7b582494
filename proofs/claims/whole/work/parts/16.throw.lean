/-! SOUND: a new exception, made and thrown. What ctorMessageOffV and athrowLeaves of the library give, with the heap said whole -/
def am_rte : String := "java/lang/RuntimeException"
def am_thr : String := "java/lang/Throwable"
/-- the words that it takes, for the exception cls whose constructor calls its superclass by the entry ix -/
def am_xw (own : String) (ic : Nat) (cls : String) (ix : Nat) (bx : ByteArray) : List Jvm.Cond :=
  (Bundle.throwableAtoms ++ Bundle.throwableSAtoms) ++ ((Bundle.passSAtoms cls am_rte ix bx ++ Bundle.chainSAtoms am_rte ["java/lang/Exception"]) ++
  [.methodLink own ic (Bundle.initS cls), .instantiable cls 6, .selects cls Bundle.tFill0 Bundle.tFill0, .selects cls Bundle.tFill Bundle.tFill,
   .lays cls am_thr "cause" "Ljava/lang/Throwable;", .lays cls am_thr "stackTrace" Bundle.steD, .lays cls am_thr "suppressedExceptions" Bundle.listD, .lays cls am_thr "detailMessage" "Ljava/lang/String;",
   .isRef (.static am_thr "UNASSIGNED_STACK" Bundle.steD), .isRef (.static am_thr "SUPPRESSED_SENTINEL" Bundle.listD),
   .fieldLink am_thr 198 am_thr "backtrace" "Ljava/lang/Object;", .lays am_thr am_thr "backtrace" "Ljava/lang/Object;", .lays cls am_thr "backtrace" "Ljava/lang/Object;"])
section XTH
variable {p : Program} {l : Launch} {e : Env} {R : Room} {s : State} {m₀ : MethodId} {args : Array Value} {below : List Frame} {meth : Method} {c : Code} {W0 : State} {locs : List Loc} {cells slots : Nat}
set_option maxHeartbeats 2000000 in
theorem xm_throwS (X : Stand p l e R s m₀ args below meth c W0 locs cells slots) (hexec : p.tables.exec = Jvm.exec) (htr : e.platform.stackTraces = false) {own cls : String} {ic ix : Nat} {bx : ByteArray}
    (hown : s.vm.findClass own = some m₀.cls) (hcls : Bundle.fit cls = true) (hb0 : decode bx 0 = .ok (.aload_n 0, 1)) (hb1 : decode bx 1 = .ok (.aload_n 1, 1)) (hb2 : decode bx 2 = .ok (.invokespecial ix, 3)) (hb5 : decode bx 5 = .ok (.return_, 1))
    (h : ∀ w ∈ am_xw own ic cls ix bx, w.before args s = true) (hlocs : ∀ x ∈ locs, ∀ cell, s.heap[x.base]? = some cell → cell.vm.isStatics = false)
    {a : Addr} {cX : ClassId} {kX : Class} (hfoundX : s.vm.findClass cls = some cX) (hkX : s.vm.classes[cX]? = some kX) (hcell : W0.heap[a]? = some (freshCell cX kX)) (hnew : s.heap.size ≤ a)
    {msg : Value} (hmsg : msg.isRef = true)
    {g : JFrame} (hg : g.method = m₀) (hsize : g.locals.size = c.maxLocals) (hlocked : g.locked = none) (hentered : g.entered = []) {rest : List Value} (hstack : g.stack = msg :: .ref a :: .ref a :: rest)
    (hd6 : decode c.code g.pc = .ok (.invokespecial ic, 3)) (hd9 : decode c.code (g.pc + 3) = .ok (.athrow, 1)) (hout : ∀ x ∈ c.exceptionTable.toList, covers x (g.pc + 3) = false)
    (hRframes : 5 < R.frames) (hRlocals : 2 * g.monitorRoom + ((Value.ref a :: rest).map fun v => v.category).sum + 81 ≤ R.locals) (hlocks : meth.locks = false) :
    ∃ (U : State) (ce : Cell), Steps p.tables e below (W0.setTop g) U ∧ U.status = .running ∧ Ended U below (.threw a) ∧ s.WarmedH U.vm ∧ s.sameButNew ({ U with vm := s.vm } : State) locs cells slots ∧
      U.heap[a]? = some ce ∧ ce.cls = cX ∧ ce.vm = .none ∧ U.heap.size = W0.heap.size ∧ ∀ q, q ≠ a → U.heap[q]? = W0.heap[q]? := by
  have howns : e.platform.frameOwnsMonitors = true := by rw [X.admits.platform]
  have hfin : e.platform.finalization = false := by rw [X.admits.platform]
  have hpl : e.platform.magicAccessors = ({} : Platform).magicAccessors := by rw [X.admits.platform]
  obtain ⟨T, Z0, L, -, Y⟩ := ThrowableC.of_atoms (args := args) howns hfin hpl (fun x hx => h x (by simp [am_xw, hx]))
  obtain ⟨Z, M, LZ, LM, hnZ⟩ := Init0T.ofS_atoms (args := args) hpl L Y (fun x hx => h x (by simp [am_xw, hx]))
  obtain ⟨P2, Ps, hlen, L2, hL, hP2m, hlink2, hlink⟩ := Bundle.chainS (args := args) hpl hnZ ["java/lang/Exception"] am_rte (by decide +kernel) (by decide +kernel) (fun x hx => h x (by simp [am_xw, hx]))
  obtain ⟨P1, L1, hP1m, hP1s⟩ := PassC.ofS_atoms (args := args) (s := s) hpl (X := cls) (Y := am_rte) (Bundle.fit_spec hcls).1 (by decide +kernel) hb0 hb1 hb2 hb5 (fun x hx => h x (by simp [am_xw, hx]))
  have hlink1 : P1.sup = P2.m := Option.some.inj (hP1s.symm.trans hP2m)
  have hfound : s.vm.findClass cls = some P1.m.cls := findClass_of_methodNamed hP1m
  cases Option.some.inj (hfoundX.symm.trans hfound)
  obtain ⟨c1, kX', hc1, hk, hord, -, -, hn6⟩ := Cond.instantiable_spec (h (.instantiable cls 6) (by simp [am_xw]))
  cases Option.some.inj (hc1.symm.trans hfound)
  cases Option.some.inj (hkX.symm.trans hk)
  have hsel0 : selectMethod e.platform s.vm P1.m.cls T.fill0 = .method T.fill0 := by
    obtain ⟨c2, r2, m2, q1, q2, q3, q4, -⟩ := Cond.selects_spec (h (.selects cls Bundle.tFill0 Bundle.tFill0) (by simp [am_xw]))
    cases Option.some.inj (q1.symm.trans hfound)
    cases Option.some.inj (q2.symm.trans (State.methodFound?_of_named Y.fill0 (by decide)))
    cases Option.some.inj (q3.symm.trans Y.fill0)
    rw [Launch.admits_selectMethod X.admits]; exact q4
  have hselF : selectMethod e.platform s.vm P1.m.cls T.fill = .method T.fill := by
    obtain ⟨c2, r2, m2, q1, q2, q3, q4, -⟩ := Cond.selects_spec (h (.selects cls Bundle.tFill Bundle.tFill) (by simp [am_xw]))
    cases Option.some.inj (q1.symm.trans hfound)
    cases Option.some.inj (q2.symm.trans (State.methodFound?_of_named Y.fill (by decide)))
    cases Option.some.inj (q3.symm.trans Y.fill)
    rw [Launch.admits_selectMethod X.admits]; exact q4
  obtain ⟨cellS0, hcS0, hiss⟩ := Y.statics
  obtain ⟨u0, hu0⟩ := Cond.staticRefV Y.unassigned L.unassignedStatic L.statics hcS0 hiss (h (.isRef (.static am_thr "UNASSIGNED_STACK" Bundle.steD)) (by simp [am_xw]))
  obtain ⟨sen, hsen⟩ := Cond.staticRefV Y.sentinel L.sentinelStatic L.statics hcS0 hiss (h (.isRef (.static am_thr "SUPPRESSED_SENTINEL" Bundle.listD)) (by simp [am_xw]))
  obtain ⟨ci198, i198, fB, hk198, hg198, ha198, hsB, -, hnB, htB, hffB⟩ := Cond.ownField (t := .object "java/lang/Object") Y.found L.cls (by decide +kernel) (h (.fieldLink am_thr 198 am_thr "backtrace" "Ljava/lang/Object;") (by simp [am_xw])) (h (.lays am_thr am_thr "backtrace" "Ljava/lang/Object;") (by simp [am_xw])) e.platform hpl
  obtain ⟨cellS, hcS', heS, -, hkeep⟩ := X.same.2.2.2.2.2 T.aS cellS0 hcS0
  have hcellS : W0.heap[T.aS]? = some cellS := hcS'
  have hout' : ∀ i, (⟨T.aS, i⟩ : Loc) ∉ locs := fun i hmem => by
    have := hlocs _ hmem cellS0 hcS0
    rw [hiss] at this; cases this
  have hknownS : cellS.vm ≠ .unknown := by
    rw [heS]; intro hu
    rw [show cellS0.vm = .unknown from hu] at hiss
    cases hiss
  have hneS : T.aS ≠ a := Nat.ne_of_lt (Nat.lt_of_lt_of_le (Array.getElem?_eq_some_iff.mp hcS0).1 hnew)
  obtain ⟨iM, hffM⟩ := Y.msg
  obtain ⟨tyC, dC, hdC, hdnC⟩ := Cond.laysAt hfound hk Y.cause (h (.lays cls am_thr "cause" "Ljava/lang/Throwable;") (by simp [am_xw]))
  obtain ⟨tyS, dS, hdS, hdnS⟩ := Cond.laysAt hfound hk Y.stack (h (.lays cls am_thr "stackTrace" Bundle.steD) (by simp [am_xw]))
  obtain ⟨tyP, dP, hdP, hdnP⟩ := Cond.laysAt hfound hk Y.supp (h (.lays cls am_thr "suppressedExceptions" Bundle.listD) (by simp [am_xw]))
  obtain ⟨tyM, dM, hdM, hdnM⟩ := Cond.laysAt hfound hk hffM (h (.lays cls am_thr "detailMessage" "Ljava/lang/String;") (by simp [am_xw]))
  obtain ⟨tyB, dB, hdB, hdnB⟩ := Cond.laysAt hfound hk hffB (h (.lays cls am_thr "backtrace" "Ljava/lang/Object;") (by simp [am_xw]))
  have bC := Cond.laysApart hdB hdC hdnB hdnC (by rw [hnB, Y.causeName]; decide)
  have bS := Cond.laysApart hdB hdS hdnB hdnS (by rw [hnB, Y.stackName]; decide)
  have bP := Cond.laysApart hdB hdP hdnB hdnP (by rw [hnB, Y.suppName]; decide)
  have hskip : SkipFacts T e.platform s (fun u => u) u0 ((preparedCellV T.toThrowableT (freshCell P1.m.cls kX) a u0 sen).withEntry W0.cur) :=
    ⟨{ ci198 := ci198, i198 := i198, fBack := fB }, ⟨hk198, hg198, ha198, hsB⟩, by
      have := fresh_default (c := P1.m.cls) tyB
      rw [htB] at this
      simpa [preparedCellV, Cell.setSlot, Cell.withEntry, Array.getElem?_setIfInBounds, bC, bS, bP, bC.symm, bS.symm, bP.symm, defaultValue] using this, fun _ _ => rfl⟩
  obtain ⟨tm, methC, cdC, kC, vm₁, hnC, -, -, -, -, -, -, -, hW₁, st1⟩ := Steps.initColdS (tb := p.tables) (e := e) (below := below) (s := s) (U := W0) X.here hexec X.warmed hpl hown (t := Bundle.initS cls) rfl rfl (Bundle.fit_spec hcls).2
    (h (.methodLink own ic (Bundle.initS cls)) (by simp [am_xw])) (h (.instanceMethod (Bundle.initS cls)) (by simp [am_xw, Bundle.passSAtoms])) (bytes := bx) (maxL := 2) (h (.code (Bundle.initS cls) bx 2 none) (by simp [am_xw, Bundle.passSAtoms]))
    (f := g) hg (a := a) (msg := msg) (rest := .ref a :: rest) hstack hd6
  cases Option.some.inj (hnC.symm.trans hP1m)
  have X₁ := X.noted hW₁
  have hlen1 : Ps.length = 1 := hlen
  obtain ⟨vm₂, X₂, st2⟩ := X₁.ctorMessageOffV hexec (g := { g with stack := .ref a :: rest }) hg hsize T L Z LZ M LM (P1 :: P2 :: Ps)
    (fun P hP => by
      rcases List.mem_cons.mp hP with rfl | hP
      · exact L1
      · rcases List.mem_cons.mp hP with rfl | hP
        · exact L2
        · exact hL P hP) ⟨hlink1, hlink2, hlink⟩ (u0 := u0) (sen := sen) (self := a) hmsg (cell := freshCell P1.m.cls kX) (cellS := cellS)
    hcell (fun _ => by simp) (by simp) rfl rfl hsel0 hselF hcellS hneS hknownS (by rw [hkeep _ (hout' _)]; exact hu0) (by rw [hkeep _ (hout' _)]; exact hsen)
    (Takes.of_laid hk hord tyC (by rw [Y.causeType]; rfl)) (Takes.of_laid hk hord tyS (by rw [Y.stackType]; exact fits_refV_array _ u0)) (Takes.of_laid hk hord tyP (by rw [Y.suppType]; exact fits_refV_object _ sen))
    (Takes.of_laid hk hord tyM (by rw [Y.msgType]; exact fits_refV_object _ ⟨msg, hmsg⟩)) Y.objLocals hskip htr [] hd6
    (by simp only [List.length_cons, hlen1]; omega) (by simp only [List.length_cons, hlen1]; exact hRlocals)
  obtain ⟨hwalk, hrun, hended, hWU, hsame⟩ := X₂.athrowLeaves hexec (g := { g with stack := .ref a :: rest, pc := g.pc + 3 }) hg hlocked hentered hout (a := a) (rest := rest) rfl hd9 hlocks
  have hlt : a < ((W0.setVm vm₁).setVm vm₂).heap.size := (Array.getElem?_eq_some_iff.mp hcell).1
  refine ⟨_, _, st1 _ (fun acts => by rw [doInvoke_state]; exact st2 _ hwalk), hrun, hended, hWU, ?_, heapAt_setCell_self (s := (W0.setVm vm₁).setVm vm₂) (plainBareV T.toThrowableT (freshCell P1.m.cls kX) a u0 sen msg) hlt, rfl, rfl, ?_, ?_⟩
  · refine hsame.weaken (fun y hy hlt' => ?_) (Nat.le_refl _) (Nat.le_refl _)
    rcases List.mem_append.mp hy with h1 | h1
    · exact h1
    · exfalso
      have hb : y.base = a := by
        simp only [List.mem_cons, List.not_mem_nil, or_false] at h1
        rcases h1 with rfl | rfl | rfl | rfl | rfl <;> rfl
      rw [hb] at hlt'
      exact absurd hlt' (Nat.not_lt.mpr hnew)
  · show (((W0.setVm vm₁).setVm vm₂).setCell a _).heap.size = _
    rw [size_setCell]
    rfl
  · intro q hq
    exact heapAt_setCell_ne _ (Ne.symm hq)
end XTH
/-- of an exception's constructor: the entry by which it calls its superclass's, and its bytes -/
def am_xc : List (Nat × ByteArray) := [(7, prog_14_method_2_code), (7, prog_15_method_2_code), (7, prog_22_method_2_code), (13, prog_23_method_4_code)]
def am_u1 : Jvm.Cond := .laysStatic "java/lang/Throwable" "UNASSIGNED_STACK" "[Ljava/lang/StackTraceElement;"
def am_u2 : Jvm.Cond := .laysStatic "java/lang/Throwable" "SUPPRESSED_SENTINEL" "Ljava/util/List;"
def am_u3 : Jvm.Cond := .isRef (.static "java/lang/Throwable" "UNASSIGNED_STACK" "[Ljava/lang/StackTraceElement;")
def am_u4 : Jvm.Cond := .isRef (.static "java/lang/Throwable" "SUPPRESSED_SENTINEL" "Ljava/util/List;")
def am_okX (w : Jvm.Cond) : Bool := decide (w = am_u1) || decide (w = am_u2) || decide (w = am_u3) || decide (w = am_u4) || (decide (w ∈ lw_tbl) && (am_gw w || am_dw w))
def am_rowX (own : Nat) (q : Nat × Nat) : Bool := match am_ex[q.2 - 100]?, am_xc[q.2 - 100]? with
  | some cls, some (ix, bx) => decide (100 ≤ q.2) && Bundle.fit cls && decide (Jvm.Cond.initialized cls ∈ lw_tbl) && (am_xw (am_nm.getD own "") q.1 cls ix bx).all am_okX && decide (decode bx 0 = .ok (.aload_n 0, 1)) && decide (decode bx 1 = .ok (.aload_n 1, 1)) && decide (decode bx 2 = .ok (.invokespecial ix, 3)) && decide (decode bx 5 = .ok (.return_, 1))
  | _, _ => false
theorem am_xall : (List.range 14).all (fun own => (am_sx.getD own []).all (am_rowX own)) = true := by decide +kernel
theorem am_okX.before {E : aE} {s : State} {w : Jvm.Cond} (h : am_okX w = true) (hG : am_G E s) (hN : E.2.1.size = E.1) (hH : ∀ q : Nat, q < E.1 → s.heap[q]? = E.2.1[q]?) (args : Array Value) : w.before args s = true := by
  obtain ⟨g1, g2, g3, g4, g5, g6, g7, g8, g9, g10⟩ := hG
  simp only [am_okX, Bool.or_eq_true, Bool.and_eq_true, decide_eq_true_eq] at h
  rcases h with (((h | h) | h) | h) | ⟨hm, hg⟩
  · rw [h]; exact g7.lays hN hH args
  · rw [h]; exact g8.lays hN hH args
  · rw [h]; exact g7.ref hN hH args
  · rw [h]; exact g8.ref hN hH args
  · rcases hg with hg | hg
    · obtain ⟨i, hi⟩ := List.getElem?_of_mem hm
      exact g1.use hi hg args
    · exact g9.use hm hg args
