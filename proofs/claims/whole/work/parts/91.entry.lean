/-! FROM A RUN OF THE LAW TO THE CLAIM -/
def am_h0 (L : Nat) (xs : Nat → Int32) : aH := ([], fun _ _ => 0, fun _ _ => 0, fun _ _ => 0, (L, xs))
theorem am_shrink {p : Program} {l : Launch} {e : Env} {R R' : Room} {s : State} {m : MethodId} {args : Array Value} {below : List Frame} {meth : Method} {c : Code} {H : Heap} {locs : List Loc} {cells slots : Nat} {Q : State → Prop} {g : JFrame}
    (h1 : R'.frames ≤ R.frames) (h2 : R'.cells ≤ R.cells) (h3 : R'.slots ≤ R.slots) (h4 : R'.locals ≤ R.locals) (kk : W p l e R' s m args below meth c H locs cells slots Q g) : W p l e R s m args below meth c H locs cells slots Q g := by
  intro T hT X
  refine kk T hT { X with room := ?_ }
  have h := X.room
  simp only [State.hasRoom, Bool.and_eq_true, decide_eq_true_eq] at h ⊢
  obtain ⟨⟨⟨⟨a1, a2, a3, a4, a5, a6⟩, a7⟩, a8⟩, a9⟩ := h
  exact ⟨⟨⟨⟨by omega, by omega, by omega, by omega, by omega, a6⟩, by omega⟩, by omega⟩, a9⟩
theorem am_framed {s t : State} {o : Outcome} {B C : Nat} (ho : ∃ v : Option Value, o = .returned v) (h : xm_End s t B C (fun q => s.heap.size ≤ q)) : Framed s o t [] B C := by
  obtain ⟨L, hW, ⟨e2, q2, q3, q4, q5, q6⟩, hL⟩ := h
  refine ⟨ho, hW, e2, q2, q3, q4, q5, fun a c hc => ?_⟩
  obtain ⟨c', h1, h2, h3, h4⟩ := q6 a c hc
  refine ⟨c', h1, h2, h3, fun i _ => h4 i fun hm => ?_⟩
  exact absurd (Array.getElem?_eq_some_iff.mp hc).1 (Nat.not_lt.mpr (hL _ hm))
theorem am_whole {p : Program} {e : Env} {s : State} {m : MethodId} {below : List Frame} {meth : Method} {c : Code} (l : Launch) (hfl : l.flags = pinnedFlags ++ [noTraceFlag]) {b L : Nat} {xs : Nat → Int32}
    (hT : am_Tri 200 2048 601024 7293034 0 0 (0, [(0, .retAddr 1000)], [], am_h0 L xs) (fun o _ => o = .inl (some (.int 1))))
    (hx : p.tables.exec = Jvm.exec) (hb : c.code = code) (hr : meth.sig.returnType = ret) (hml : c.maxLocals = 7) (hown : s.vm.findClass "BlockFrontLaw" = some m.cls) (hts : ∀ w ∈ lw_tbl, w.before #[Value.ref b] s = true) (hX : va_X b L xs s s.heap) (hlk : meth.locks = false) (hgv : (Jvm.Cond.and given_1 narrow_1).before #[Value.ref b] s = true)
    (hnm : meth.name = "law") (htr : e.platform.stackTraces = false) (hex : c.exceptionTable.isEmpty = true) :
    W p l e room_1 s m #[Value.ref b] below meth c s.heap [] 0 0 (fun t => ∃ o, t.status = .running ∧ Ended t below o ∧ o = .returned (some (.int 1)) ∧ Framed s o t [] 601024 7293034) (entryFrame m ([Value.ref b] : List Value).toArray 7) := by
  obtain ⟨E, e1, e2, e3, hG, hR⟩ := am_begin hts hgv hX
  refine am_shrink (R' := am_room 2048 601024 7293034) (Nat.le_refl _) (Nat.le_refl _) (Nat.le_refl _) (show 40 * 2048 ≤ 84000 by decide) ?_
  rw [lg_entry_eq]
  have hcx : am_Cx 200 2048 601024 7293034 p l e (am_room 2048 601024 7293034) s m #[Value.ref b] below meth c E := by
    refine ⟨hx, hb.trans rfl, hml, hr, hlk, hnm, hown, hG, htr, ?_, rfl, ?_, ?_, ?_, ?_, hfl⟩
    · simp only [Array.isEmpty_iff] at hex
      rw [hex]
      rfl
    · rw [e1]; exact Nat.le_refl _
    · intro q cell hq hc
      rw [e1] at hq
      exact absurd (Array.getElem?_eq_some_iff.mp hc).1 (Nat.not_lt.mpr hq)
    · intro q _; rw [e2]
    · rw [e1, e2]
  have hl : lv_has (lg_sl [Value.ref b] ++ List.replicate (7 - (lg_sl [Value.ref b]).length) Slot.unset).toArray (am_ml 200) (am_l E [(0, .retAddr 1000)]) := by
    have h1 : am_l E [(0, .retAddr 1000)] = lv_args 0 [Value.ref b] := by
      simp only [am_l, List.map_cons, List.map_nil, lv_args, am_v, e3]
    rw [h1]
    exact lv_entry (n := 7) [Value.ref b] (show 1 ≤ 7 by decide)
  have hW := hT p l e _ s m _ below meth c E hcx s.heap [] _ hR hl (fun q hq => by cases hq)
  intro T hTT X
  obtain ⟨t, a1, o, b1, b2, ⟨oo, hh, c1, c2, c3⟩, b4⟩ := hW T hTT X
  subst c1
  have ho : o = .returned (some (.int 1)) := c3
  refine ⟨t, a1, o, b1, b2, ho, am_framed ⟨_, ho⟩ ?_⟩
  rw [← e1]
  exact b4
