/-! THE CONTEXT: what ties the abstract machine's state to the machine's -/
/-- base, the heap at the law's start, the classes' numbers and slots, the arrays' classes, the addresses of texts and script -/
abbrev aE : Type := Nat × Heap × va_G × (ArrayType → ClassId) × (Nat → Nat)
def am_v (E : aE) (v : Value) : Value := match v with
  | .ref k => .ref (E.1 + k)
  | .retAddr i => .ref (E.2.2.2.2 i)
  | v => v
theorem am_v_cat (E : aE) (v : Value) : (am_v E v).category = v.category := by cases v <;> rfl
def am_l (E : aE) (ls : List (Nat × Value)) : List (Nat × Value) := ls.map (fun q => (q.1, am_v E q.2))
def am_fv (E : aE) (I : Nat → Nat → Int32) (k ci : Nat) (refs : List Value) (j : Nat) : Value := if am_isr ci j = true then am_v E (refs.getD j .null) else .int (I k j)
def am_cell (E : aE) (I A : Nat → Nat → Int32) (J : Nat → Nat → Int64) (k : Nat) (q : aK) (H : Heap) : Prop := match q with
  | .inl (ci, refs) => ∃ r : vw_C, am_cl[ci]? = some r ∧ refs.length = r.2.2 ∧ t_OB (E.1 + k) (E.2.2.1.1 ci) r.2.2 (E.2.2.1.2 ci) H (am_fv E I k ci refs)
  | .inr (.inl (.long, n)) => H[E.1 + k]? = some (arrV (E.2.2.2.1 .long) n (fun j => .long (J k j)))
  | .inr (.inl (t, n)) => H[E.1 + k]? = some (arrV (E.2.2.2.1 t) n (fun j => .int (A k j)))
  | .inr (.inr _) => True
def am_R (E : aE) (h : aH) (U : State) (H : Heap) : Prop := match h with
  | (K, I, A, J, L, xs) => H.size = E.1 + K.length ∧ (∀ (k : Nat) (q : aK), K[k]? = some q → am_cell E I A J k q H) ∧ E.2.1.size = E.1 ∧ (∀ q : Nat, q < E.1 → H[q]? = E.2.1[q]?) ∧ (∀ (q : Nat) (cell : Cell), E.1 ≤ q → H[q]? = some cell → cell.vm = .none) ∧ va_X (E.2.2.2.2 1000) L xs U E.2.1
def am_Wd (U : State) : Prop := ∀ w ∈ lw_tbl, am_gw w = true → w.before #[] U = true
theorem am_Wd.warm {s U : State} (hW : s.WarmedH U.vm) (h : am_Wd s) : am_Wd U := by
  intro w hw hg
  have h1 := h w hw hg
  cases w
  case fieldLinkNest a i b n d hh => exact va_Nw.warmF hW h1
  case methodLinkNest a i x hh => exact va_Nw.warmM hW h1
  all_goals exact word_at hW (good_of_word hg) h1
theorem am_Wd.use {s : State} (h : am_Wd s) {i : Nat} {w : Jvm.Cond} (hi : lw_tbl[i]? = some w) (hg : am_gw w = true) (args : Array Value) : w.before args s = true := by
  have h1 := h w (List.mem_of_getElem? hi) hg
  cases w
  case fieldLinkNest a i b n d hh => exact va_Nw.use rfl h1
  case methodLinkNest a i x hh => exact va_Nw.use rfl h1
  all_goals exact word_at (State.WarmedH.refl _) (good_of_word hg) h1
/-- words that stay true for a reason of their own -/
def am_dw (w : Jvm.Cond) : Bool := match w with
  | .declares _ => true
  | .castable .. => true
  | _ => false
def am_Dd (U : State) : Prop := ∀ w ∈ lw_tbl, am_dw w = true → w.before #[] U = true
theorem am_Dd.warm {s U : State} (hW : s.WarmedH U.vm) (h : am_Dd s) : am_Dd U := by
  intro w hw hg
  have h1 := h w hw hg
  cases w
  case declares x => exact va_Nw.warmD hW h1
  case castable a b => exact va_Nw.warmC hW h1
  all_goals cases hg
theorem am_Dd.use {s : State} (h : am_Dd s) {w : Jvm.Cond} (hw : w ∈ lw_tbl) (hg : am_dw w = true) (args : Array Value) : w.before args s = true := by
  have h1 := h w hw hg
  cases w
  case declares x => exact va_Nw.use rfl h1
  case castable a b => exact va_Nw.use rfl h1
  all_goals cases hg
/-- a static of references, as it lies in the heap at the law's start -/
def am_Sta (C n d : String) (U : State) (H : Heap) : Prop := ∃ (c : ClassId) (k : Class) (i : Nat) (f : Field) (a : Nat) (cell : Cell) (v : Value), U.vm.findClass C = some c ∧ U.fieldFound? C n d = some (c, k, i, f) ∧ f.isStatic = true ∧ k.statics = some a ∧ H[a]? = some cell ∧ cell.vm.isStatics = true ∧ cell.cls = c ∧
  f.slot < cell.slots.size ∧ k.staticTypes[f.slot]? = some f.type ∧ cell.slots[f.slot]? = some v ∧ v.isRef = true
theorem am_Sta.moved {C n d : String} {u U : State} {H : Heap} (hvm : u.vm.Alike U.vm) (h : am_Sta C n d u H) : am_Sta C n d U H := by
  obtain ⟨c, k, i, f, a, cell, v, h0, h1, h2, h3, h4, h5, h6, h7, h8, h9⟩ := h
  obtain ⟨k', hi', he⟩ := State.fieldFound?_setVm hvm h1
  exact ⟨c, k', i, f, a, cell, v, by rw [hvm.findClass]; exact h0, hi', h2, by rw [he]; exact h3, h4, h5, h6, h7, by rw [he]; exact h8, h9⟩
theorem am_Sta.lays {C n d : String} {U : State} {H : Heap} {N : Nat} (h : am_Sta C n d U H) (hN : H.size = N) (hH : ∀ q : Nat, q < N → U.heap[q]? = H[q]?) (args : Array Value) : (Jvm.Cond.laysStatic C n d).before args U = true := by
  obtain ⟨c, k, i, f, a, cell, v, h0, h1, h2, h3, h4, h5, h6, h7, h8, h9⟩ := h
  have h4' : U.heap[a]? = some cell := by rw [hH a (by rw [← hN]; exact (Array.getElem?_eq_some_iff.mp h4).1)]; exact h4
  simp [Cond.before, Cond.holds, Cond.value, h0, h1, h2, h3, h4', h5, h6, h7, h8]
theorem am_Sta.ref {C n d : String} {U : State} {H : Heap} {N : Nat} (h : am_Sta C n d U H) (hN : H.size = N) (hH : ∀ q : Nat, q < N → U.heap[q]? = H[q]?) (args : Array Value) : (Jvm.Cond.isRef (.static C n d)).before args U = true := by
  obtain ⟨c, k, i, f, a, cell, v, h0, h1, h2, h3, h4, h5, h6, h7, h8, h9, h10⟩ := h
  have h4' : U.heap[a]? = some cell := by rw [hH a (by rw [← hN]; exact (Array.getElem?_eq_some_iff.mp h4).1)]; exact h4
  have he : (Term.static C n d).eval args U none [] U = some v := by
    simp [Term.eval, State.fieldNamed?, h1, h2, h3, h4', h5, h9]
  cases v <;> simp [Value.isRef] at h10 <;> simp [Cond.before, Cond.holds, Cond.value, he]
/-- the texts: objects, with their bytes (no word says that they lie apart) -/
def am_Str (adK adV : Nat → Nat) (A : Nat → Prop) (U : State) (H : Heap) : Prop := ∀ i : Nat, i < 29 → va_O "java/lang/String" (adK i) A U H ∧ va_OF "java/lang/String" "coder" "B" (.int 0) (adK i) A U H ∧ va_OF "java/lang/String" "value" "[B" (.ref (adV i)) (adK i) A U H ∧ va_T .byte (adV i) (am_sl.getD i 0) (fun j => .int ((am_sb.getD i []).getD j 0)) A U H
theorem am_Str.moved {adK adV : Nat → Nat} {A : Nat → Prop} {u U : State} {H : Heap} (hvm : u.vm.Alike U.vm) (h : am_Str adK adV A u H) : am_Str adK adV A U H :=
  fun i hi => ⟨va_O.moved hvm (h i hi).1, va_OF.moved hvm (h i hi).2.1, va_OF.moved hvm (h i hi).2.2.1, va_T.moved hvm (h i hi).2.2.2⟩
def am_G (E : aE) (U : State) : Prop := am_Wd U ∧ va_K E.2.2.1 am_cl [] U ∧ (∀ t : ArrayType, am_at t = true → ArrOfT U (E.2.2.2.1 t) (newarray.typeOf t) ∧ U.vm.findClass ("[" ++ (newarray.typeOf t).toString) = some (E.2.2.2.1 t)) ∧
  (∀ (i : Nat) (q : String × Nat × String), am_str[i]? = some q → vk_R q.1 q.2.1 q.2.2 (E.2.2.2.2 i) U) ∧
  am_Str E.2.2.2.2 (fun i => E.2.2.2.2 (2000 + i)) (fun q => E.1 ≤ q) U E.2.1 ∧ (va_Z "java/lang/String" "COMPACT_STRINGS" "Z" (.int 1) (fun q => E.1 ≤ q) U E.2.1 ∧ va_Zq "jdk/internal/util/Preconditions" "SIOOBE_FORMATTER" "Ljava/util/function/BiFunction;" (fun q => E.1 ≤ q) U E.2.1) ∧
  am_Sta "java/lang/Throwable" "UNASSIGNED_STACK" "[Ljava/lang/StackTraceElement;" U E.2.1 ∧ am_Sta "java/lang/Throwable" "SUPPRESSED_SENTINEL" "Ljava/util/List;" U E.2.1 ∧ am_Dd U ∧
  (∀ (i j : Nat) (a b : String), i ≠ j → am_ex[i]? = some a → am_ex[j]? = some b → va_Nc a b U)
theorem am_G.warm {E : aE} {s U : State} (hW : s.WarmedH U.vm) (h : am_G E s) : am_G E U := by
  obtain ⟨h1, h2, h3, h4, h5, h6, h7, h8, h9, h10⟩ := h
  exact ⟨h1.warm hW, va_K.moved hW.alike h2, fun t ht => ⟨arrOfT_moved hW.alike (h3 t ht).1, by rw [hW.alike.findClass]; exact (h3 t ht).2⟩, fun i q hq => (h4 i q hq).warm hW, am_Str.moved hW.alike h5, ⟨va_Z.moved hW.alike h6.1, va_Zq.moved hW.alike h6.2⟩, h7.moved hW.alike, h8.moved hW.alike, h9.warm hW, fun i j a b hn ha hb => (h10 i j a b hn ha hb).moved hW.alike⟩
theorem am_R.moved {E : aE} {h : aH} {u U : State} {H : Heap} (hvm : u.vm.Alike U.vm) (hR : am_R E h u H) : am_R E h U H := by
  obtain ⟨K, I, A, J, L, xs⟩ := h
  obtain ⟨h1, h2, h3, h4, h6, h5⟩ := hR
  exact ⟨h1, h2, h3, h4, h6, h5.moved hvm⟩
def am_out (E : aE) (oo : aO) (o : Outcome) (t : State) : Prop := match oo with
  | .inl v => o = .returned (v.map (am_v E))
  | .inr (X, k) => o = .threw (E.1 + k) ∧ ∃ cell : Cell, t.heap[E.1 + k]? = some cell ∧ cell.vm = .none ∧ t.vm.findClass (am_ex.getD (X - 100) "") = some cell.cls
def am_Pc (E : aE) (as : List Value) (h : aH) : Array Value → State → Prop := fun v U => v = (as.map (am_v E)).toArray ∧ am_R E h U U.heap ∧ am_G E U
def am_Qc (E : aE) (Q : aO → aH → Prop) : Array Value → State → Outcome → State → Prop := fun _ _ o t => ∃ (oo : aO) (h : aH), Q oo h ∧ am_R E h t t.heap ∧ am_out E oo o t
abbrev am_room (d B C : Nat) : Room := { frames := d, cells := B, slots := C, locals := 40 * d }
def am_Cx (M d B C : Nat) (p : Program) (l : Launch) (e : Env) (R : Room) (s : State) (m : MethodId) (args : Array Value) (below : List Frame) (meth : Method) (c : Code) (E : aE) : Prop :=
  p.tables.exec = Jvm.exec ∧ c.code = am_by M ∧ c.maxLocals = am_ml M ∧ meth.sig.returnType = am_re M ∧ meth.locks = false ∧ meth.name = (am_y M).name ∧ s.vm.findClass (am_nm.getD (am_own M) "") = some m.cls ∧ am_G E s ∧
  e.platform.stackTraces = false ∧ c.exceptionTable.toList.map (fun h => (h.startPc, h.endPc, h.handlerPc, h.catchType)) = am_hs M ∧ R = am_room d B C ∧ E.1 ≤ s.heap.size ∧ (∀ (q : Nat) (cell : Cell), E.1 ≤ q → s.heap[q]? = some cell → cell.vm = .none) ∧ (∀ q : Nat, q < E.1 → s.heap[q]? = E.2.1[q]?) ∧ E.2.1.size = E.1 ∧ l.flags = pinnedFlags ++ [noTraceFlag]
/-- FROM HERE the method comes to an end that Q allows: d frames are left, of B cells and C slots u and c are used -/
def am_Tri (M d B C u c : Nat) (st : aS) (Q : aO → aH → Prop) : Prop := match st with
  | (pc, ls, sk, h) => ∀ (p : Program) (l : Launch) (e : Env) (R : Room) (s : State) (m : MethodId) (args : Array Value) (below : List Frame) (meth : Method) (cd : Code) (E : aE), am_Cx M d B C p l e R s m args below meth cd E →
    ∀ (H : Heap) (locs : List Loc) (la : Array Slot), am_R E h s H → lv_has la (am_ml M) (am_l E ls) → (∀ q ∈ locs, E.1 ≤ q.base) →
      W p l e R s m args below meth cd H locs u c (xm_MQ below (am_Qc E Q) args s B C (fun q => E.1 ≤ q)) (F0 m pc la (sk.map (am_v E)))
/-- the contract of a method: from the heap h with these arguments it comes to (o, h') -/
def am_Con (d M : Nat) (as : List Value) (h : aH) (o : aO) (h' : aH) (B C : Nat) : Prop :=
  ∀ (l : Launch) (E : aE), l.flags = pinnedFlags ++ [noTraceFlag] → xm_Met l (am_y M) (am_w0 M) (am_room d B C) (am_Pc E as h) (am_Qc E (fun oo hh => oo = o ∧ hh = h')) B C (fun q => E.1 ≤ q)
