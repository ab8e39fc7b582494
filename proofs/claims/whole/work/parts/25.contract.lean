/-! A CONTRACT FROM A RUN -/
theorem am_l_args (E : aE) : ∀ (as : List Value) (n : Nat), am_l E (lv_args n as) = lv_args n (as.map (am_v E)) := by
  intro as
  induction as with
  | nil => intro n; rfl
  | cons v as ih =>
    intro n
    have h1 := ih (if v.category = 2 then n + 2 else n + 1)
    simp only [am_l] at h1
    simp only [lv_args, am_l, List.map_cons, am_v_cat, h1]
theorem am_sl_len (E : aE) (as : List Value) : (lg_sl (as.map (am_v E))).length = (lg_sl as).length := by
  induction as with
  | nil => rfl
  | cons v as ih =>
    simp only [lg_sl, List.map_cons, List.flatMap_cons, List.length_append, am_v_cat] at ih ⊢
    rw [ih]
    by_cases h : v.category = 2 <;> simp [h]
theorem am_hsw {M : Nat} {args : Array Value} {s : State} {m : MethodId} {meth : Method} {c : Code} (h : (am_w0 M).before args s = true) (hn : s.methodNamed? (am_y M) = some m) (hm : s.vm.method? m = some meth) (hc : meth.code = some c) :
    c.exceptionTable.toList.map (fun h => (h.startPc, h.endPc, h.handlerPc, h.catchType)) = am_hs M := by
  unfold am_w0 at h
  cases e : am_hs M with
  | nil =>
    rw [e] at h
    obtain ⟨meth', c', h1, h2, h3, h4, h5, h6, h7, -⟩ := Cond.code_spec hn h
    cases hm.symm.trans h1
    cases hc.symm.trans h2
    simp only [Array.isEmpty_iff] at h7
    rw [h7]
    rfl
  | cons q l =>
    rw [e] at h
    obtain ⟨mk, meth', c', hn', h1, h2, h3, h4, h5, -⟩ := Cond.codeWith_spec h
    cases hn.symm.trans hn'
    cases hm.symm.trans h1
    cases hc.symm.trans h2
    exact h5
theorem am_con {M d B C : Nat} {as : List Value} {h : aH} {o : aO} {h' : aH} (hM : M < 200) (hl : (lg_sl as).length ≤ am_ml M) (hT : am_Tri M d B C 0 0 (0, lv_args 0 as, [], h) (fun oo hh => oo = o ∧ hh = h')) : am_Con d M as h o h' B C := by
  intro l E hf
  refine xm_of (cc := am_by M) (maxL := am_ml M) (ret := am_re M) (am_Wm hM).2.2.2.1 (fun args s hw => am_cw hw) ?_
  intro p e s m args below meth c s₁ B' hml hP
  obtain ⟨rfl, hR, hG⟩ := hP
  have hpre : (am_w0 M).before (as.map (am_v E)).toArray s = true := atoms_spec (ws := [am_w0 M]) B'.pre _ List.mem_cons_self
  have hcode : meth.code = some c := by
    have h1 := B'.here.code
    rw [B'.state] at h1
    have h2 : (s.setFrames (.java (entryFrame m (as.map (am_v E)).toArray (am_ml M)) :: below)).code? m = s.code? m := rfl
    rw [h2, State.code?_eq, B'.method] at h1
    exact h1
  rw [lg_entry_eq]
  obtain ⟨K, I, A, J, L, xs⟩ := h
  have hcx : am_Cx M d B C p l e (headSpec [am_w0 M] (am_room d B C)).room s m (as.map (am_v E)).toArray below meth c E := by
    refine ⟨B'.exec, B'.bytes, hml, B'.returns, B'.notSynchronized, (name_of_methodNamed B'.named B'.method).1, ?_, hG, Launch.traces_off hf B'.admits, am_hsw hpre B'.named B'.method hcode, rfl, ?_, hR.2.2.2.2.1, hR.2.2.2.1, hR.2.2.1, hf⟩
    · rw [← (am_Wm hM).2.2.1]; exact findClass_of_methodNamed B'.named
    · rw [hR.1]; exact Nat.le_add_right _ _
  refine hT p l e _ s m _ below meth c E hcx s.heap [] _ hR ?_ (fun q hq => by cases hq)
  rw [am_l_args]
  exact lv_entry _ (by rw [am_sl_len]; exact hl)
