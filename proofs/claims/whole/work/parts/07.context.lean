/-- the texts: class, entry, text -/
def am_str : List (String × Nat × String) := [("BlockFront", 66, "n is not 1 .. 8"), ("BlockFront", 79, "one is no character"), ("BlockFront", 87, "the text would be too long"), ("BlockFront$Refusal", 20, "refused"), ("BlockFront$Scanner", 140, "if"), ("BlockFront$Scanner", 146, "elif"), ("BlockFront$Scanner", 148, "else"), ("BlockFront$Scanner", 150, "while"), ("BlockFront$Scanner", 152, "def"), ("BlockFront$Scanner", 154, "return"), ("BlockFront$Scanner", 156, "pass"), ("BlockFront$Scanner", 158, "break"), ("BlockFront$Scanner", 160, "and"), ("BlockFront$Scanner", 162, "or"), ("BlockFront$Scanner", 164, "not"), ("BlockFront$Scanner", 166, "=!<>"), ("BlockFront$Scanner", 174, "+-*/%()[],:=<>.;"), ("BlockFront", 106, "the text is refused"), ("BlockFront$Writer", 68, "  "), ("BlockFront$Writer", 125, "not "), ("BlockFront$Writer", 115, ", "), ("BlockFront$Writer", 111, ":\n"), ("BlockFront$Writer", 103, "else:\n"), ("BlockFront$Writer", 113, "def "), ("BlockFront$Writer", 117, "):\n"), ("BlockFront$Writer", 119, " = "), ("BlockFront", 120, "no such token"), ("BlockFront", 133, "no such node"), ("BlockFront", 147, "no such place")]
def am_sl : List Nat := [15, 19, 26, 7, 2, 4, 4, 5, 3, 6, 4, 5, 3, 2, 3, 4, 16, 19, 2, 4, 2, 2, 6, 4, 3, 3, 13, 12, 13]
def am_sb : List (List Int32) := [[110, 32, 105, 115, 32, 110, 111, 116, 32, 49, 32, 46, 46, 32, 56], [111, 110, 101, 32, 105, 115, 32, 110, 111, 32, 99, 104, 97, 114, 97, 99, 116, 101, 114], [116, 104, 101, 32, 116, 101, 120, 116, 32, 119, 111, 117, 108, 100, 32, 98, 101, 32, 116, 111, 111, 32, 108, 111, 110, 103], [114, 101, 102, 117, 115, 101, 100], [105, 102], [101, 108, 105, 102], [101, 108, 115, 101], [119, 104, 105, 108, 101], [100, 101, 102], [114, 101, 116, 117, 114, 110], [112, 97, 115, 115], [98, 114, 101, 97, 107], [97, 110, 100], [111, 114], [110, 111, 116], [61, 33, 60, 62], [43, 45, 42, 47, 37, 40, 41, 91, 93, 44, 58, 61, 60, 62, 46, 59], [116, 104, 101, 32, 116, 101, 120, 116, 32, 105, 115, 32, 114, 101, 102, 117, 115, 101, 100], [32, 32], [110, 111, 116, 32], [44, 32], [58, 10], [101, 108, 115, 101, 58, 10], [100, 101, 102, 32], [41, 58, 10], [32, 61, 32], [110, 111, 32, 115, 117, 99, 104, 32, 116, 111, 107, 101, 110], [110, 111, 32, 115, 117, 99, 104, 32, 110, 111, 100, 101], [110, 111, 32, 115, 117, 99, 104, 32, 112, 108, 97, 99, 101]]
/-! THE CONTEXT: what ties the abstract machine's state to the machine's -/
/-- base, the heap at the law's start, the classes' numbers and slots, the arrays' classes, the addresses of texts and script -/
abbrev aE : Type := Nat × Heap × va_G × (ArrayType → ClassId) × (Nat → Nat)
def am_v (E : aE) (v : Value) : Value := match v with
  | .ref k => .ref (E.1 + k)
  | .retAddr i => .ref (E.2.2.2.2 i)
  | v => v
theorem am_v_cat (E : aE) (v : Value) : (am_v E v).category = v.category := by cases v <;> rfl
def am_l (E : aE) (ls : List (Nat × Value)) : List (Nat × Value) := ls.map (fun q => (q.1, am_v E q.2))
def am_fv (E : aE) (I : Nat → Nat → Int32) (k ci : Nat) (refs : List Value) (j : Nat) : Value := if am_isr ci j = true then am_v E (refs.getD j .null) else .int (I k j)
def am_cell (E : aE) (I A : Nat → Nat → Int32) (J : Nat → Nat → Int64) (k : Nat) (q : aK) (H : Heap) : Prop := match q with
  | .inl (ci, refs) => ∃ r : vw_C, am_cl[ci]? = some r ∧ refs.length = r.2.2 ∧ t_OB (E.1 + k) (E.2.2.1.1 ci) r.2.2 (E.2.2.1.2 ci) H (am_fv E I k ci refs)
  | .inr (.inl (.long, n)) => H[E.1 + k]? = some (arrV (E.2.2.2.1 .long) n (fun j => .long (J k j)))
  | .inr (.inl (t, n)) => H[E.1 + k]? = some (arrV (E.2.2.2.1 t) n (fun j => .int (A k j)))
  | .inr (.inr _) => True
def am_R (E : aE) (h : aH) (U : State) (H : Heap) : Prop := match h with
  | (K, I, A, J, L, xs) => H.size = E.1 + K.length ∧ (∀ (k : Nat) (q : aK), K[k]? = some q → am_cell E I A J k q H) ∧ E.2.1.size = E.1 ∧ (∀ q : Nat, q < E.1 → H[q]? = E.2.1[q]?) ∧ va_X (E.2.2.2.2 1000) L xs U E.2.1
def am_gw (w : Jvm.Cond) : Bool := match w with
  | .fieldLinkNest .. => true
  | .methodLinkNest .. => true
  | w => goodWord w
def am_Wd (U : State) : Prop := ∀ w ∈ lw_tbl, am_gw w = true → w.before #[] U = true
theorem am_Wd.warm {s U : State} (hW : s.WarmedH U.vm) (h : am_Wd s) : am_Wd U := by
  intro w hw hg
  have h1 := h w hw hg
  cases w
  case fieldLinkNest a i b n d hh => exact va_Nw.warmF hW h1
  case methodLinkNest a i x hh => exact va_Nw.warmM hW h1
  all_goals exact word_at hW (good_of_word hg) h1
theorem am_Wd.use {s : State} (h : am_Wd s) {i : Nat} {w : Jvm.Cond} (hi : lw_tbl[i]? = some w) (hg : am_gw w = true) (args : Array Value) : w.before args s = true := by
  have h1 := h w (List.mem_of_getElem? hi) hg
  cases w
  case fieldLinkNest a i b n d hh => exact va_Nw.use rfl h1
  case methodLinkNest a i x hh => exact va_Nw.use rfl h1
  all_goals exact word_at (State.WarmedH.refl _) (good_of_word hg) h1
/-- arrays that the program makes -/
def am_at (t : ArrayType) : Bool := match t with
  | .int => true
  | .char => true
  | .long => true
  | .boolean => true
  | _ => false
def am_G (E : aE) (U : State) : Prop := am_Wd U ∧ va_K E.2.2.1 am_cl [] U ∧ (∀ t : ArrayType, am_at t = true → ArrOfT U (E.2.2.2.1 t) (newarray.typeOf t) ∧ U.vm.findClass ("[" ++ (newarray.typeOf t).toString) = some (E.2.2.2.1 t)) ∧
  (∀ (i : Nat) (q : String × Nat × String), am_str[i]? = some q → vk_R q.1 q.2.1 q.2.2 (E.2.2.2.2 i) U) ∧
  (∃ adV : Nat → Nat, vk_S 29 am_sl am_sb E.2.2.2.2 adV (fun q => E.1 ≤ q) U E.2.1) ∧ va_Z "java/lang/String" "COMPACT_STRINGS" "Z" (.int 1) (fun q => E.1 ≤ q) U E.2.1 ∧
  va_Zq "java/lang/Throwable" "UNASSIGNED_STACK" "[Ljava/lang/StackTraceElement;" (fun q => E.1 ≤ q) U E.2.1 ∧ va_Zq "java/lang/Throwable" "SUPPRESSED_SENTINEL" "Ljava/util/List;" (fun q => E.1 ≤ q) U E.2.1
theorem am_G.warm {E : aE} {s U : State} (hW : s.WarmedH U.vm) (h : am_G E s) : am_G E U := by
  obtain ⟨h1, h2, h3, h4, ⟨adV, h5⟩, h6, h7, h8⟩ := h
  exact ⟨h1.warm hW, va_K.moved hW.alike h2, fun t ht => ⟨arrOfT_moved hW.alike (h3 t ht).1, by rw [hW.alike.findClass]; exact (h3 t ht).2⟩, fun i q hq => (h4 i q hq).warm hW, ⟨adV, vk_S.moved hW.alike h5⟩, va_Z.moved hW.alike h6, va_Zq.moved hW.alike h7, va_Zq.moved hW.alike h8⟩
theorem am_R.moved {E : aE} {h : aH} {u U : State} {H : Heap} (hvm : u.vm.Alike U.vm) (hR : am_R E h u H) : am_R E h U H := by
  obtain ⟨K, I, A, J, L, xs⟩ := h
  obtain ⟨h1, h2, h3, h4, h5⟩ := hR
  exact ⟨h1, h2, h3, h4, h5.moved hvm⟩
def am_out (E : aE) (oo : aO) (o : Outcome) (t : State) : Prop := match oo with
  | .inl v => o = .returned (v.map (am_v E))
  | .inr (X, k) => o = .threw (E.1 + k) ∧ ∃ cell : Cell, t.heap[E.1 + k]? = some cell ∧ cell.vm = .none ∧ t.vm.findClass (am_ex.getD (X - 100) "") = some cell.cls
def am_Pc (E : aE) (as : List Value) (h : aH) : Array Value → State → Prop := fun v U => v = (as.map (am_v E)).toArray ∧ am_R E h U U.heap ∧ am_G E U
def am_Qc (E : aE) (Q : aO → aH → Prop) : Array Value → State → Outcome → State → Prop := fun _ _ o t => ∃ (oo : aO) (h : aH), Q oo h ∧ am_R E h t t.heap ∧ am_out E oo o t
abbrev am_room (d B C : Nat) : Room := { frames := d, cells := B, slots := C, locals := 40 * d }
/-- the method's own code, by a word -/
def am_w0 (M : Nat) : Jvm.Cond := match am_hs M with
  | [] => .code (am_y M) (am_by M) (am_ml M) (am_re M)
  | hs => .codeWith (am_y M) (am_by M) (am_ml M) (am_re M) hs
def am_Cx (M d B C : Nat) (p : Program) (l : Launch) (e : Env) (R : Room) (s : State) (m : MethodId) (args : Array Value) (below : List Frame) (meth : Method) (c : Code) (E : aE) : Prop :=
  p.tables.exec = Jvm.exec ∧ c.code = am_by M ∧ c.maxLocals = am_ml M ∧ meth.sig.returnType = am_re M ∧ meth.locks = false ∧ meth.name = (am_y M).name ∧ s.vm.findClass (am_nm.getD (am_own M) "") = some m.cls ∧ am_G E s ∧
  e.platform.stackTraces = false ∧ c.exceptionTable.toList.map (fun h => (h.startPc, h.endPc, h.handlerPc, h.catchType)) = am_hs M ∧ R = am_room d B C ∧ E.1 ≤ s.heap.size
/-- FROM HERE the method comes to an end that Q allows: d frames are left, of B cells and C slots u and c are used -/
def am_Tri (M d B C u c : Nat) (st : aS) (Q : aO → aH → Prop) : Prop := match st with
  | (pc, ls, sk, h) => ∀ (p : Program) (l : Launch) (e : Env) (R : Room) (s : State) (m : MethodId) (args : Array Value) (below : List Frame) (meth : Method) (cd : Code) (E : aE), am_Cx M d B C p l e R s m args below meth cd E →
    ∀ (H : Heap) (locs : List Loc) (la : Array Slot), am_R E h s H → lv_has la (am_ml M) (am_l E ls) → (∀ q ∈ locs, E.1 ≤ q.base) →
      W p l e R s m args below meth cd H locs u c (xm_MQ below (am_Qc E Q) args s B C (fun q => E.1 ≤ q)) (F0 m pc la (sk.map (am_v E)))
/-- the contract of a method: from the heap h with these arguments it comes to (o, h') -/
def am_Con (d M : Nat) (as : List Value) (h : aH) (o : aO) (h' : aH) (B C : Nat) : Prop :=
  ∀ (l : Launch) (E : aE), l.flags = pinnedFlags ++ [noTraceFlag] → xm_Met l (am_y M) (am_w0 M) (am_room d B C) (am_Pc E as h) (am_Qc E (fun oo hh => oo = o ∧ hh = h')) B C (fun q => E.1 ≤ q)
