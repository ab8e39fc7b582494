/-! SOUND: how a call is entered -/
theorem am_tk {as r : List Value} : ∀ {n : Nat} {acc sk : List Value}, am_take n acc sk = some (as, r) → ∃ pre : List Value, as = pre ++ acc ∧ sk = pre.reverse ++ r ∧ pre.length = n := by
  intro n
  induction n with
  | zero => intro acc sk h; cases h; exact ⟨[], rfl, rfl, rfl⟩
  | succ n ih =>
    intro acc sk h
    cases sk with
    | nil => cases h
    | cons v sk =>
      obtain ⟨pre, h1, h2, h3⟩ := ih (show am_take n (v :: acc) sk = some (as, r) from h)
      exact ⟨pre ++ [v], by rw [h1]; simp, by rw [h2]; simp, by simp [h3]⟩
theorem am_nmc {ci : Nat} {q : vw_C} (hq : am_cl[ci]? = some q) : am_nm.getD ci "" = q.1 := by
  have h10 : ci < 10 := (List.getElem?_eq_some_iff.mp hq).1
  have : am_cl.map Prod.fst = am_nm.take 10 := rfl
  have h2 : (am_cl.map Prod.fst)[ci]? = some q.1 := by rw [List.getElem?_map, hq]; rfl
  rw [this, List.getElem?_take, if_pos h10] at h2
  rw [List.getD_eq_getElem?_getD, h2]
  rfl
theorem am_Md {own cp M' wi : Nat} {nest : Bool} (h : (am_mr.getD own []).lookup cp = some (M', wi, nest)) : M' < 200 ∧ lw_tbl[wi]? = some (if nest = true then Jvm.Cond.methodLinkNest (am_nm.getD own "") cp (am_y M') "BlockFront" else Jvm.Cond.methodLink (am_nm.getD own "") cp (am_y M')) := by
  have h1 := am_of am_mall rfl h
  simp only [am_rowM, Bool.and_eq_true, decide_eq_true_eq] at h1
  exact h1
section SNT
variable {M M' d B C u c cp wi n pc : Nat} {nest : Bool} {ls : List (Nat × Value)} {sk as r : List Value} {K : List aK} {I A : Nat → Nat → Int32} {J : Nat → Nat → Int64} {X : Nat × (Nat → Int32)}
/-- what a call's entry asks -/
def am_Hent (M M' d B C u c pc : Nat) (ls : List (Nat × Value)) (sk as r : List Value) (h : aH) : Prop := ∀ (p : Program) (l : Launch) (e : Env) (R : Room) (s : State) (m : MethodId) (args : Array Value) (below : List Frame) (meth : Method) (cd : Code) (E : aE), am_Cx M d B C p l e R s m args below meth cd E → ∀ (H : Heap) (locs : List Loc) (la : Array Slot), am_R E h s H → lv_has la (am_ml M) (am_l E ls) →
      ∀ T : State, T.heap = H → Stand p l e R s m args below meth cd T locs u c → xm_Ent p l e R s m args below meth cd T locs u c (F0 m pc la (sk.map (am_v E))) (r.map (am_v E)) (am_y M') (as.map (am_v E)).toArray
theorem am_len1 {M' n : Nat} {as' : List Value} (hM : M' < 200) (hna : am_na[M']? = some n) (hl : as'.length = n) : ∀ sig, parseMethodDescriptor (am_y M').desc = some sig → as'.length = sig.parameters.length := by
  intro sig hs
  have h := (am_Wm hM).2.2.2.2.2.1
  rw [hs, hna] at h
  rw [hl]
  exact (Option.some.inj h).symm
theorem am_entV (hmr : (am_mr.getD (am_own M) []).lookup cp = some (M', wi, nest)) (hna : am_na[M']? = some n) (htk : am_take (n + 1) [] sk = some (as, r)) (hck : am_ckc 0 M' as K r = true) (hd : decode (am_by M) pc = .ok (.invokevirtual cp, 3)) : am_Hent M M' d B C u c pc ls sk as r (K, I, A, J, X) := by
  intro p l e R s m args below meth cd E cx H locs la hR hl T hT Xs
  obtain ⟨hx, hb, hml, hr, hlocks, hname, hown, hG, htr, hex, hRm, hbs, hvn, hol, hE0, hfl⟩ := id cx
  obtain ⟨hM, hw⟩ := am_Md hmr
  obtain ⟨pre, h1, h2, h3⟩ := am_tk htk
  rw [List.append_nil] at h1
  subst h1
  simp only [am_ckc, Bool.and_eq_true, Nat.ble_eq, Nat.blt_eq] at hck
  obtain ⟨⟨⟨c1, c2⟩, c3⟩, c4⟩ := hck
  have hkd : am_kd M' = 0 := (Nat.eq_of_beq_eq_true c3).symm
  obtain ⟨-, -, hcls, -, hy, -, -, hk0, -⟩ := am_Wm hM
  obtain ⟨⟨i1, w1⟩, ⟨i2, w2⟩⟩ := hk0 hkd
  have hcode := am_cw (am_cs hM hG.1 #[])
  cases as with
  | nil => simp at h3
  | cons v as' =>
    have hlen : as'.length = n := by simpa using h3
    have hst : sk.map (am_v E) = (as'.map (am_v E)).reverse ++ am_v E v :: r.map (am_v E) := by
      rw [h2]
      simp
    have hrc : ∃ (b : Addr) (cellB : Cell), am_v E v = .ref b ∧ T.heap[b]? = some cellB ∧ cellB.vm.isStatics = false ∧ s.vm.findClass (am_y M').cls = some cellB.cls := by
      cases v with
      | ref a =>
        have c5 : (match K[a]? with | some (.inl (ci, _)) => Nat.beq ci (am_own M') | _ => false) = true := c4
        split at c5
        · rename_i ci refs hk
          have eo : ci = am_own M' := Nat.eq_of_beq_eq_true c5
          obtain ⟨rr, hrr, -, cell, q1, q2, q3, -⟩ := hR.2.1 a _ hk
          refine ⟨E.1 + a, cell, rfl, by rw [hT]; exact q1, by rw [q3]; rfl, ?_⟩
          rw [hcls, ← eo, am_nmc hrr, q2]
          exact (hG.2.1.1 ci _ hrr).2.1
        · cases c5
      | retAddr i =>
        have c5 : (Nat.beq (am_own M') 12 && Nat.blt i 29) = true := c4
        simp only [Bool.and_eq_true, Nat.blt_eq] at c5
        obtain ⟨g1, g2⟩ := c5
        have hS := hG.2.2.2.2.1
        obtain ⟨⟨cell, q1, q2, q3, q4⟩, -⟩ := hS i g2
        have hlt : E.2.2.2.2 i < E.1 := Nat.not_le.mp q4
        refine ⟨E.2.2.2.2 i, cell, rfl, by rw [hT, hR.2.2.2.1 _ hlt]; exact q1, q2, ?_⟩
        rw [hcls, Nat.eq_of_beq_eq_true g1]
        exact q3
      | _ => cases c4
    obtain ⟨b, cellB, hvb, hcB, hoB, hclB⟩ := hrc
    have hlen' : ∀ sig, parseMethodDescriptor (am_y M').desc = some sig → (as'.map (am_v E)).length = sig.parameters.length := by
      rw [List.length_map]
      exact am_len1 hM hna hlen
    show xm_Ent p l e R s m args below meth cd T locs u c _ _ _ (am_v E v :: as'.map (am_v E)).toArray
    rw [hvb] at hst ⊢
    cases nest with
    | false => exact xm_entV Xs hx hown (hG.1.use hw rfl args) (hG.1.use w1 rfl args) (hG.1.use w2 rfl args) hcode hy hcB hoB hclB rfl hlen' hst (by rw [hb]; exact hd)
    | true => exact xm_entVN Xs hx hown (hG.1.use hw rfl args) (hG.1.use w1 rfl args) (hG.1.use w2 rfl args) hcode hy hcB hoB hclB rfl hlen' hst (by rw [hb]; exact hd)
theorem am_entS (hmr : (am_mr.getD (am_own M) []).lookup cp = some (M', wi, nest)) (hna : am_na[M']? = some n) (htk : am_take n [] sk = some (as, r)) (hck : am_ckc 1 M' as K r = true) (hd : decode (am_by M) pc = .ok (.invokestatic cp, 3)) : am_Hent M M' d B C u c pc ls sk as r (K, I, A, J, X) := by
  intro p l e R s m args below meth cd E cx H locs la hR hl T hT Xs
  obtain ⟨hx, hb, hml, hr, hlocks, hname, hown, hG, htr, hex, hRm, hbs, hvn, hol, hE0, hfl⟩ := id cx
  obtain ⟨hM, hw⟩ := am_Md hmr
  obtain ⟨pre, h1, h2, h3⟩ := am_tk htk
  rw [List.append_nil] at h1
  subst h1
  simp only [am_ckc, Bool.and_eq_true, Nat.ble_eq, Nat.blt_eq] at hck
  obtain ⟨⟨⟨c1, c2⟩, c3⟩, c4⟩ := hck
  have hkd : am_kd M' = 1 := (Nat.eq_of_beq_eq_true c3).symm
  obtain ⟨-, ⟨wI, hwI⟩, hcls, -, hy, -, -, -, hk1, -⟩ := am_Wm hM
  obtain ⟨i1, w1⟩ := hk1 hkd
  have hcode := am_cw (am_cs hM hG.1 #[])
  have hst : sk.map (am_v E) = (as.map (am_v E)).reverse ++ r.map (am_v E) := by
    rw [h2]
    simp
  have hlen' : ∀ sig, parseMethodDescriptor (am_y M').desc = some sig → (as.map (am_v E)).length = sig.parameters.length := by
    rw [List.length_map]
    exact am_len1 hM hna h3
  cases nest with
  | false => exact xm_entS Xs hx hown (hG.1.use hw rfl args) (hG.1.use w1 rfl args) (hG.1.use hwI rfl args) hcode hy rfl hlen' hst (by rw [hb]; exact hd)
  | true => exact xm_entSN Xs hx hown (hG.1.use hw rfl args) (hG.1.use w1 rfl args) (hG.1.use hwI rfl args) hcode hy rfl hlen' hst (by rw [hb]; exact hd)
theorem am_entI (hmr : (am_mr.getD (am_own M) []).lookup cp = some (M', wi, nest)) (hna : am_na[M']? = some n) (htk : am_take (n + 1) [] sk = some (as, r)) (hck : am_ckc 2 M' as K r = true) (hd : decode (am_by M) pc = .ok (.invokespecial cp, 3)) : am_Hent M M' d B C u c pc ls sk as r (K, I, A, J, X) := by
  intro p l e R s m args below meth cd E cx H locs la hR hl T hT Xs
  obtain ⟨hx, hb, hml, hr, hlocks, hname, hown, hG, htr, hex, hRm, hbs, hvn, hol, hE0, hfl⟩ := id cx
  obtain ⟨hM, hw⟩ := am_Md hmr
  obtain ⟨pre, h1, h2, h3⟩ := am_tk htk
  rw [List.append_nil] at h1
  subst h1
  simp only [am_ckc, Bool.and_eq_true, Nat.ble_eq, Nat.blt_eq] at hck
  obtain ⟨⟨⟨c1, c2⟩, c3⟩, c4⟩ := hck
  have hkd : am_kd M' = 2 := (Nat.eq_of_beq_eq_true c3).symm
  obtain ⟨-, -, hcls, -, hy, -, -, -, -, hk2⟩ := am_Wm hM
  obtain ⟨⟨i1, w1⟩, hnm, hre, hhs⟩ := hk2 hkd
  have hcode : (Jvm.Cond.code (am_y M') (am_by M') (am_ml M') none).before args s = true := by
    have h0 := am_cs hM hG.1 args
    unfold am_w0 at h0
    rw [hhs, hre] at h0
    exact h0
  cases as with
  | nil => simp at h3
  | cons v as' =>
    have hlen : as'.length = n := by simpa using h3
    have hst : sk.map (am_v E) = (as'.map (am_v E)).reverse ++ am_v E v :: r.map (am_v E) := by
      rw [h2]
      simp
    have hlen' : ∀ sig, parseMethodDescriptor (am_y M').desc = some sig → (as'.map (am_v E)).length = sig.parameters.length := by
      rw [List.length_map]
      exact am_len1 hM hna hlen
    cases v with
    | ref a =>
      show xm_Ent p l e R s m args below meth cd T locs u c _ _ _ (Value.ref (E.1 + a) :: as'.map (am_v E)).toArray
      cases nest with
      | false => exact xm_entI Xs hx hown hnm (hG.1.use hw rfl args) (hG.1.use w1 rfl args) hcode hy rfl hlen' hst (by rw [hb]; exact hd)
      | true => exact xm_entIN Xs hx hown hnm (hG.1.use hw rfl args) (hG.1.use w1 rfl args) hcode hy rfl hlen' hst (by rw [hb]; exact hd)
    | _ => cases c4
end SNT
