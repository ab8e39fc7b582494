/-! SOUND: a call, with its callee's contract -/
section SNI
variable {M M' d' d B C u c B' C' : Nat} {Q : aO → aH → Prop} {pc : Nat} {ls : List (Nat × Value)} {r sk as : List Value} {h h' : aH} {o : aO}
theorem am_vlist (E : aE) (v : Option Value) (r : List Value) : (v.map (am_v E)).toList ++ r.map (am_v E) = (v.toList ++ r).map (am_v E) := by cases v <;> rfl
theorem am_ys {E : aE} {s : State} {m : MethodId} {e : Env} {args : Array Value} {own X : Nat} {cX : ClassId} (hG : am_G E s) (hown : s.vm.findClass (am_nm.getD own "") = some m.cls) (hpl : e.platform.magicAccessors = ({} : Platform).magicAccessors)
    (hcX : s.vm.findClass (am_ex.getD (X - 100) "") = some cX) : ∀ ct b, am_yes own X ct = some b → ct ≠ 0 ∧ ∃ c', s.vm.ClassLinks e.platform m.cls ct c' ∧ s.vm.assignable cX c' = b := by
  intro ct b hb
  unfold am_yes at hb
  cases hk : (am_kr.getD own []).lookup ct with
  | none => rw [hk] at hb; cases hb
  | some q =>
    obtain ⟨X', wi⟩ := q
    rw [hk] at hb
    dsimp only at hb
    obtain ⟨hw, -⟩ := am_Kd hk
    cases hr : (Nat.ble 100 X' && Nat.blt X' 104 && Nat.ble 100 X && Nat.blt X 104 && Nat.blt 0 ct) with
    | false => rw [hr] at hb; cases h1 : Nat.beq X' X <;> rw [h1] at hb <;> cases hb
    | true =>
      rw [hr] at hb
      simp only [Bool.and_eq_true, Nat.ble_eq, Nat.blt_eq] at hr
      obtain ⟨⟨⟨⟨r1, r2⟩, r3⟩, r4⟩, r5⟩ := hr
      rw [if_neg (by omega)] at hw
      obtain ⟨c', hc', hcl⟩ := Cond.classLink_spec hown (hG.1.use hw rfl args) e.platform hpl
      have hex : ∀ Y : Nat, 100 ≤ Y → Y < 104 → am_ex[Y - 100]? = some (am_ex.getD (Y - 100) "") := by
        intro Y h1 h2
        have hl : Y - 100 < am_ex.length := by
          have : am_ex.length = 4 := rfl
          omega
        rw [List.getD_eq_getElem?_getD, List.getElem?_eq_getElem hl]
        rfl
      refine ⟨by omega, c', hcl, ?_⟩
      cases he : Nat.beq X' X with
      | true =>
        rw [he] at hb
        cases hb
        have e1 : X' = X := Nat.eq_of_beq_eq_true he
        subst e1
        have hcas : Jvm.Cond.castable (am_ex.getD (X' - 100) "") (am_ex.getD (X' - 100) "") ∈ lw_tbl := by
          have key : ∀ i, i < 4 → Jvm.Cond.castable (am_ex.getD i "") (am_ex.getD i "") ∈ lw_tbl := by decide +kernel
          exact key _ (by omega)
        obtain ⟨c3, c4, hc3, hc4, hasg⟩ := Cond.castable_spec (hG.2.2.2.2.2.2.2.2.1.use hcas rfl args)
        cases Option.some.inj (hc3.symm.trans hcX)
        cases Option.some.inj (hc4.symm.trans hc')
        exact hasg
      | false =>
        rw [he] at hb
        cases hb
        have e1 : X - 100 ≠ X' - 100 := fun q => by
          have : X' = X := by omega
          rw [this, Nat.beq_refl] at he
          cases he
        obtain ⟨c3, c4, hc3, hc4, hasg⟩ := hG.2.2.2.2.2.2.2.2.2 _ _ _ _ e1 (hex X r3 r4) (hex X' r1 r2)
        cases Option.some.inj (hc3.symm.trans hcX)
        cases Option.some.inj (hc4.symm.trans hc')
        exact hasg
set_option maxHeartbeats 1000000 in
theorem am_i_call {i : Instr} (hcon : am_Con d' M' as h o h' B' C') (hM' : M' < 200) (hd1 : d' + 1 ≤ d) (hB : u + B' ≤ B) (hC : c + C' ≤ C) (h8 : (r.map Value.category).sum ≤ 8) (hdec : decode (am_by M) pc = .ok (i, 3))
    (hent : ∀ (p : Program) (l : Launch) (e : Env) (R : Room) (s : State) (m : MethodId) (args : Array Value) (below : List Frame) (meth : Method) (cd : Code) (E : aE), am_Cx M d B C p l e R s m args below meth cd E → ∀ (H : Heap) (locs : List Loc) (la : Array Slot), am_R E h s H → lv_has la (am_ml M) (am_l E ls) →
      ∀ T : State, T.heap = H → Stand p l e R s m args below meth cd T locs u c → xm_Ent p l e R s m args below meth cd T locs u c (F0 m pc la (sk.map (am_v E))) (r.map (am_v E)) (am_y M') (as.map (am_v E)).toArray)
    (hk : am_Aft M d B C (u + B') (c + C') pc ls r o h' Q) : am_Tri M d B C u c (pc, ls, sk, h) Q := by
  intro p l e R s m args below meth cd E cx H locs la hR hl hlo
  obtain ⟨hx, hb, hml, hr, hlocks, hname, hown, hG, htr, hex, hRm, hbs, hvn, hol, hE0, hfl⟩ := id cx
  intro T hT X
  have hE := hent p l e R s m args below meth cd E cx H locs la hR hl T hT X
  obtain ⟨-, ⟨wI, hwI⟩, -, -, -, -, hml', -⟩ := am_Wm hM'
  obtain ⟨oc, st, t, Bs, L, e1, e2, X', hq, hL, e3, e4, hWt, stp⟩ := xm_call hE (hcon l E hfl) (by rw [hRm]; exact hd1) (maxL := am_ml M') (by rw [hRm]; show 8 + (am_ml M' + 11) + 40 * d' ≤ 40 * d; omega) rfl (by rw [hml]; exact hl.1) (by rw [hb]; exact hdec)
    (by show 2 * 0 + _ ≤ 8; rw [am_vcats]; omega) (bytes := am_by M') (ret := am_re M') (fun U hU => ⟨am_cs hM' (hG.1.warm hU) _, am_cw (am_cs hM' (hG.1.warm hU) #[]), (hG.1.warm hU).use hwI rfl _⟩) (by rw [hRm]; exact hB) (by rw [hRm]; exact hC)
    (fun U hU hW => ⟨rfl, by rw [hU, hT]; exact hR.moved hW.alike, hG.warm hW⟩)
  obtain ⟨oo, hh, ⟨rfl, rfl⟩, hR', hout⟩ := hq
  have hRs : am_R E hh s Bs.heap := by rw [e3]; exact hR'.moved hWt.alike.symm
  have hlo' : ∀ q ∈ locs ++ L, E.1 ≤ q.base := fun q hq => (List.mem_append.mp hq).elim (hlo q) (hL q)
  cases oo with
  | inl v =>
    have hoc : oc = .returned (v.map (am_v E)) := hout
    subst hoc
    have kk : am_Tri M d B C (u + B') (c + C') (pc + 3, ls, v.toList ++ r, hh) Q := by cases v <;> exact hk
    obtain ⟨tt, a1, a2⟩ := kk p l e R s m args below meth cd E cx Bs.heap (locs ++ L) la hRs hl hlo' Bs rfl X'
    refine ⟨tt, stp _ ?_, a2⟩
    rw [← am_vlist] at a1
    exact a1
  | inr q =>
    obtain ⟨Xn, k⟩ := q
    obtain ⟨hoc, ce, c1, c2, c3⟩ := hout
    subst hoc
    have hcX : s.vm.findClass (am_ex.getD (Xn - 100) "") = some ce.cls := by rw [← hWt.alike.findClass]; exact c3
    have hk' : am_Thr M d B C (u + B') (c + C') pc ls Xn k hh Q := hk
    unfold am_Thr at hk'
    cases hs : am_hs M with
    | nil =>
      rw [hs] at hk' hex
      obtain ⟨hu, hc', hQ⟩ := hk'
      have h0 : cd.exceptionTable.toList = [] := List.map_eq_nil_iff.mp hex
      obtain ⟨l1, l2, l3, l4, l5⟩ := X'.leaveThrown (E.1 + k) (g := { F0 m pc la (sk.map (am_v E)) with stack := r.map (am_v E) }) rfl rfl rfl (by rw [h0]; intro x hx'; cases hx') hlocks
      refine ⟨_, stp _ l1, .threw (E.1 + k), l2, l3, ⟨.inr (Xn, k), hh, hQ, ?_, rfl, ce, ?_, c2, ?_⟩, locs ++ L, l4, l5.mono hu hc', hlo'⟩
      · exact am_R.moved (u := s) (U := Bs.setFrames (.throwing (E.1 + k) :: below)) l4.alike hRs
      · show Bs.heap[E.1 + k]? = some ce
        rw [e3]
        exact c1
      · show Bs.vm.findClass _ = some ce.cls
        rw [e4]
        exact c3
    | cons q0 qs =>
      rw [hs] at hk'
      dsimp only at hk'
      cases hf : xm_find (am_yes (am_own M) Xn) pc (q0 :: qs) with
      | none => rw [hf] at hk'; exact hk'.elim
      | some hp =>
        rw [hf] at hk'
        obtain ⟨kc, hkc, -⟩ := Vm.findClass_spec hcX
        have hpl : e.platform.magicAccessors = ({} : Platform).magicAccessors := by rw [X.admits.platform]
        obtain ⟨vm', X2, st2⟩ := xm_catch X' (a := E.1 + k) (g := { F0 m pc la (sk.map (am_v E)) with stack := r.map (am_v E) }) rfl (cell := ce) (by rw [e3]; exact c1) c2 ⟨kc, hkc⟩ (yes := am_yes (am_own M) Xn) (am_ys (e := e) (args := args) hG hown hpl hcX) (hp := hp) (by rw [hex, hs]; exact hf)
        have kk : am_Tri M d B C (u + B') (c + C') (hp, ls, [.ref k], hh) Q := hk'
        obtain ⟨tt, a1, a2⟩ := kk p l e R s m args below meth cd E cx Bs.heap (locs ++ L) la hRs hl hlo' (Bs.setVm vm') rfl X2
        exact ⟨tt, stp _ (st2 _ a1), a2⟩
end SNI
