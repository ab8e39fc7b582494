/-! SOUND: fields and arrays -/
theorem am_cell.to {E : aE} {I A I' A' : Nat → Nat → Int32} {J J' : Nat → Nat → Int64} {k : Nat} {q : aK} {H H' : Heap} (h : am_cell E I A J k q H) (hI : I' k = I k) (hA : A' k = A k) (hJ : J' k = J k) (hH : H'[E.1 + k]? = H[E.1 + k]?) : am_cell E I' A' J' k q H' := by
  cases q with
  | inl o =>
    obtain ⟨ci, refs⟩ := o
    obtain ⟨r, h1, h2, h3⟩ := h
    refine ⟨r, h1, h2, (h3.kept hH).to (fun j _ => ?_)⟩
    simp only [am_fv, hI]
  | inr o =>
    cases o with
    | inl a =>
      obtain ⟨t, n⟩ := a
      cases t <;> (simp only [am_cell] at h ⊢; rw [hH, h]; first | rw [hA] | rw [hJ])
    | inr _ => trivial
theorem am_R.upd {E : aE} {s : State} {H H' : Heap} {K K' : List aK} {I A I' A' : Nat → Nat → Int32} {J J' : Nat → Nat → Int64} {X : Nat × (Nat → Int32)} {a : Nat} (hR : am_R E (K, I, A, J, X) s H) (hz : H'.size = H.size) (ho : ∀ q : Nat, q ≠ E.1 + a → H'[q]? = H[q]?)
    (hl : K'.length = K.length) (hK : ∀ j, j ≠ a → K'[j]? = K[j]?) (hI : ∀ j, j ≠ a → I' j = I j) (hA : ∀ j, j ≠ a → A' j = A j) (hJ : ∀ j, j ≠ a → J' j = J j) (hc : ∀ q, K'[a]? = some q → am_cell E I' A' J' a q H') (hvm : ∀ cell : Cell, H'[E.1 + a]? = some cell → cell.vm = .none) : am_R E (K', I', A', J', X) s H' := by
  obtain ⟨L, xs⟩ := X
  obtain ⟨h1, h2, h3, h4, h6, h5⟩ := hR
  refine ⟨by rw [hz, hl]; exact h1, fun k q hq => ?_, h3, fun q hq => by rw [ho q (by omega)]; exact h4 q hq, fun q cell hq hce => ?_, h5⟩
  rotate_left
  · by_cases e : q = E.1 + a
    · subst e
      exact hvm cell hce
    · rw [ho q e] at hce
      exact h6 q cell hq hce
  by_cases e : k = a
  · subst e
    exact hc q hq
  · rw [hK k e] at hq
    exact (h2 k q hq).to (hI k e) (hA k e) (hJ k e) (ho _ (by omega))
theorem am_R.push {E : aE} {s : State} {H H' : Heap} {K : List aK} {I A I' A' : Nat → Nat → Int32} {J J' : Nat → Nat → Int64} {X : Nat × (Nat → Int32)} {q : aK} (hR : am_R E (K, I, A, J, X) s H) (hz : H'.size = H.size + 1) (ho : ∀ q : Nat, q < H.size → H'[q]? = H[q]?)
    (hI : ∀ j, j < K.length → I' j = I j) (hA : ∀ j, j < K.length → A' j = A j) (hJ : ∀ j, j < K.length → J' j = J j) (hc : am_cell E I' A' J' K.length q H') (hvm : ∀ cell : Cell, H'[E.1 + K.length]? = some cell → cell.vm = .none) : am_R E (K ++ [q], I', A', J', X) s H' := by
  obtain ⟨L, xs⟩ := X
  obtain ⟨h1, h2, h3, h4, h6, h5⟩ := hR
  refine ⟨by rw [hz, h1, List.length_append]; rfl, fun k q' hq => ?_, h3, fun q hq => by rw [ho q (by omega)]; exact h4 q hq, fun q cell hq hce => ?_, h5⟩
  rotate_left
  · have hlt : q < H'.size := (Array.getElem?_eq_some_iff.mp hce).1
    rcases Nat.lt_or_ge q H.size with e | e
    · rw [ho q e] at hce
      exact h6 q cell hq hce
    · have : q = E.1 + K.length := by omega
      subst this
      exact hvm cell hce
  rcases Nat.lt_or_ge k K.length with e | e
  · rw [List.getElem?_append_left e] at hq
    exact (h2 k q' hq).to (hI k e) (hA k e) (hJ k e) (ho _ (by omega))
  · have hk : k < (K ++ [q]).length := (List.getElem?_eq_some_iff.mp hq).1
    rw [List.length_append] at hk
    have : k = K.length := by simp at hk; omega
    subst this
    rw [List.getElem?_concat_length] at hq
    cases hq
    exact hc
theorem am_ur {α : Type} {f : Nat → Nat → α} {a k : Nat} {v : α} {j : Nat} (h : j ≠ a) : am_u f a k v j = f j := by
  funext y
  simp [am_u, h]
theorem am_zr {α : Type} {f : Nat → Nat → α} {a : Nat} {v : α} {j : Nat} (h : j ≠ a) : am_z f a v j = f j := by
  funext y
  simp [am_z, h]
/-- what the tables say of a field's entry -/
theorem am_Fd {own cp ci k wi : Nat} {nest : Bool} (h : (am_fr.getD own []).lookup cp = some (ci, k, wi, nest)) : ∃ (C : String) (T : u_T) (N : Nat), am_cl[ci]? = some (C, T, N) ∧ k < N ∧
    lw_tbl[wi]? = some (if nest = true then Jvm.Cond.fieldLinkNest (am_nm.getD own "") cp C (T k).2.1 (T k).2.2.1 "BlockFront" else Jvm.Cond.fieldLink (am_nm.getD own "") cp C (T k).2.1 (T k).2.2.1) ∧ (T k).1 = C ∧ parseFieldDescriptor (T k).2.2.1 = some (am_ty ci k) ∧ (T k).2.2.2 = am_isr ci k := by
  have h1 := am_of am_fall rfl h
  unfold am_rowF at h1
  split at h1
  rename_i e
  cases e
  split at h1
  · rename_i C T N hc
    simp only [Bool.and_eq_true, decide_eq_true_eq] at h1
    exact ⟨C, T, N, hc, h1.1.1.1.1, h1.1.1.1.2, h1.1.1.2, h1.1.2, h1.2⟩
  · cases h1
theorem am_Cd {ci : Nat} {C : String} {T : u_T} {N : Nat} (h : am_cl[ci]? = some (C, T, N)) : (∀ w ∈ u_ws C T N, ∃ i : Nat, lw_tbl[i]? = some w ∧ am_gw w = true) ∧ (∀ a, a < N → ∀ b, b < N → a ≠ b → (T a).2.1 ≠ (T b).2.1) ∧
    (∀ k, k < N → parseFieldDescriptor (T k).2.2.1 = some (am_ty ci k) ∧ (T k).2.2.2 = am_isr ci k ∧ (T k).1 = C) ∧ (∃ i : Nat, lw_tbl[i]? = some (Jvm.Cond.instantiable C N)) ∧ (∃ i : Nat, lw_tbl[i]? = some (Jvm.Cond.initialized C)) ∧ (am_tys.getD ci []).length = N := by
  have hlt : ci < 10 := by
    have := (List.getElem?_eq_some_iff.mp h).1
    exact this
  have h1 := List.all_eq_true.mp am_call ci (List.mem_range.mpr hlt)
  unfold am_rowC at h1
  rw [h] at h1
  split at h1
  · rename_i C' T' N' w1 w2 ws e1 e2
    cases e1
    simp only [Bool.and_eq_true, decide_eq_true_eq, List.all_eq_true, List.mem_range, Bool.or_eq_true] at h1
    obtain ⟨⟨⟨⟨⟨⟨a1, a2⟩, a3⟩, a4⟩, a5⟩, a6⟩, a7⟩ := h1
    refine ⟨fun w hw => ?_, fun a ha b hb hne => (a5 a ha b hb).resolve_left hne, fun k hk => ⟨(a6 k hk).1.1, (a6 k hk).1.2, (a6 k hk).2⟩, ⟨w1, a1⟩, ⟨w2, a2⟩, a7⟩
    have hm : some w ∈ ws.map (fun i => lw_tbl[i]?) := by
      rw [a3]
      exact List.mem_map.mpr ⟨w, hw, rfl⟩
    obtain ⟨i, -, hi⟩ := List.mem_map.mp hm
    exact ⟨i, hi, a4 w hw⟩
  · cases h1
theorem am_hts {s : State} (h : am_Wd s) {ci : Nat} {C : String} {T : u_T} {N : Nat} (hc : am_cl[ci]? = some (C, T, N)) (args : Array Value) : ∀ w ∈ u_ws C T N, w.before args s = true := fun w hw => by
  obtain ⟨i, hi, hg⟩ := (am_Cd hc).1 w hw
  exact h.use hi hg args
section SNH
variable {M d B C u c : Nat} {Q : aO → aH → Prop} {pc : Nat} {ls : List (Nat × Value)} {r : List Value} {K : List aK} {I A : Nat → Nat → Int32} {J : Nat → Nat → Int64} {X : Nat × (Nat → Int32)} {a cp ci k wi : Nat} {nest : Bool} {refs : List Value} {x i : Int32} {z : Int64} {n : Nat}
theorem am_i_get {v : Value} (hf : (am_fr.getD (am_own M) []).lookup cp = some (ci, k, wi, nest)) (hk : K[a]? = some (.inl (ci, refs))) (hv : ∀ E : aE, am_v E v = am_fv E I a ci refs k) (hd : decode (am_by M) pc = .ok (.getfield cp, 3))
    (kk : am_Tri M d B C u c (pc + 3, ls, v :: r, (K, I, A, J, X)) Q) : am_Tri M d B C u c (pc, ls, .ref a :: r, (K, I, A, J, X)) Q := by
  intro p l e R s m args below meth cd E cx H locs la hR hl hlo
  obtain ⟨hx, hb, hml, hr, hlocks, hname, hown, hG, htr, hex, hRm, hbs, hvn, hol, hE0, hfl⟩ := id cx
  obtain ⟨C, T, N, hc, hkN, hw, hT1, hty, hfin⟩ := am_Fd hf
  have hcell := hR.2.1 a _ hk
  obtain ⟨rr, hrr, hlen, cell, q1, q2, q3, q4⟩ := hcell
  cases hrr.symm.trans hc
  obtain ⟨hS, hfc, kC, hkC, hkind⟩ := hG.2.1.1 ci _ hc
  obtain ⟨cf, kf, fi, f, hi, hsl⟩ := hS k hkN
  have hst := (u_facts hfc hkC (u_lays (am_hts hG.1 hc args) (fun _ h => h) hkN) hi).1
  rw [hT1] at hi
  have hK' := kk p l e R s m args below meth cd E cx H locs la hR hl hlo
  have hslot : cell.slots[f.slot]? = some (am_v E v) := by rw [hsl, q4 k hkN, hv E]
  cases nest with
  | false => exact W.getf hx hb hown (hG.1.use hw rfl args) hi hst q1 (by rw [q3]; exact fun h => by cases h) hslot rfl rfl hd hK'
  | true => exact va_Wgetf hx hb hown (hG.1.use hw rfl args) hi hst q1 (by rw [q3]; exact fun h => by cases h) hslot rfl rfl hd hK'
theorem am_fvI {E : aE} {ci k : Nat} (h : am_isr ci k = false) (I : Nat → Nat → Int32) (a : Nat) (refs : List Value) : am_fv E I a ci refs k = .int (I a k) := by
  simp [am_fv, h]
theorem am_i_put (hf : (am_fr.getD (am_own M) []).lookup cp = some (ci, k, wi, nest)) (hk : K[a]? = some (.inl (ci, refs))) (hI : am_isr ci k = false) (hn : narrow (am_ty ci k) (.int x) = .int x) (hfit : fits (am_ty ci k) (.int x) = true) (hd : decode (am_by M) pc = .ok (.putfield cp, 3))
    (kk : am_Tri M d B C u c (pc + 3, ls, r, (K, am_u I a k x, A, J, X)) Q) : am_Tri M d B C u c (pc, ls, .int x :: .ref a :: r, (K, I, A, J, X)) Q := by
  intro p l e R s m args below meth cd E cx H locs la hR hl hlo
  obtain ⟨hx, hb, hml, hr, hlocks, hname, hown, hG, htr, hex, hRm, hbs, hvn, hol, hE0, hfl⟩ := id cx
  obtain ⟨Cn, T, N, hc, hkN, hw, hT1, hty, hfin⟩ := am_Fd hf
  have hcell := hR.2.1 a _ hk
  obtain ⟨rr, hrr, hlen, cell, q1, q2, q3, q4⟩ := hcell
  cases hrr.symm.trans hc
  have hts := am_hts hG.1 hc args
  have hap := va_apart (own := "") hts (fun _ h => h) (am_ty ci) (fun k hk => ((am_Cd hc).2.2.1 k hk).1) (am_Cd hc).2.1 hG.2.1 hc
  obtain ⟨hS, hfc, kC, hkC, hkind⟩ := hG.2.1.1 ci _ hc
  obtain ⟨cf, kf, fi, f, hi, hsl⟩ := hS k hkN
  have hlay := hts _ (u_in_lay hkN)
  unfold u_lay at hlay
  rw [if_neg (by rw [hfin, hI]; decide)] at hlay
  have hst := (u_facts hfc hkC (u_lays hts (fun _ h => h) hkN) hi).1
  have h6 := u_store hfc hkC hkind hlay hi hty hn hfit
  rw [hT1] at hi
  have hend : ∀ H' : Heap, H'[E.1 + a]? = some (cell.setSlot f.slot (.int x)) → H'.size = H.size → (∀ q, q ≠ E.1 + a → H'[q]? = H[q]?) → W p l e R s m args below meth cd H' (locs ++ [⟨E.1 + a, f.slot⟩]) u c (xm_MQ below (am_Qc E Q) args s B C (fun q => E.1 ≤ q)) (F0 m (pc + 3) la (r.map (am_v E))) := by
    intro H' e1 e2 e3
    refine kk p l e R s m args below meth cd E cx H' _ la (hR.upd e2 e3 rfl (fun _ _ => rfl) (fun j hj => am_ur hj) (fun _ _ => rfl) (fun _ _ => rfl) (fun q hq => ?_) (fun ce hce => by rw [e1] at hce; cases hce; exact q3)) hl (fun q hq => ?_)
    · rw [hk] at hq
      cases hq
      refine ⟨_, hc, hlen, _, e1, q2, q3, fun j hj => ?_⟩
      have h9 := t_set q4 hap hkN (.int x) j hj
      rw [← hsl] at h9
      rw [h9]
      by_cases ej : j = k
      · subst ej
        simp [updV, am_fv, hI, am_u]
      · simp [updV, am_fv, am_u, ej]
    · rcases List.mem_append.mp hq with h | h
      · exact hlo q h
      · rw [List.mem_singleton.mp h]
        exact Nat.le_add_right _ _
  cases nest with
  | false => exact W.putK hx hb (f := f) ⟨hown, hG.1.use hw rfl args, ⟨_, _, _, hi⟩, hst⟩ (by rw [q2]; exact h6) q1 q3 (by rw [hsl]; exact k2_hasslot (q4 k hkN)) rfl rfl hd hend
  | true => exact va_WputK hx hb hown (hG.1.use hw rfl args) hi hst (by rw [q2]; exact h6) q1 q3 (by rw [hsl]; exact k2_hasslot (q4 k hkN)) rfl rfl hd hend
def am_okt (t : FieldType) : Bool := match t with
  | .int => true
  | .boolean => true
  | .object _ => true
  | .array _ => true
  | _ => false
theorem am_tall : am_tys.all (fun l => l.all am_okt) = true := by decide +kernel
theorem am_fits {E : aE} {ci k b : Nat} (h : am_isr ci k = true) : narrow (am_ty ci k) (am_v E (.ref b)) = am_v E (.ref b) ∧ fits (am_ty ci k) (am_v E (.ref b)) = true := by
  have ht : am_okt (am_ty ci k) = true := by
    unfold am_ty
    rw [List.getD_eq_getElem?_getD, List.getD_eq_getElem?_getD]
    cases h1 : am_tys[ci]? with
    | none => rfl
    | some l =>
      have h2 := List.all_eq_true.mp am_tall l (List.mem_of_getElem? h1)
      simp only [Option.getD_some]
      cases h3 : l[k]? with
      | none => rfl
      | some t => exact List.all_eq_true.mp h2 t (List.mem_of_getElem? h3)
  cases e : am_ty ci k <;> rw [e] at ht <;> simp [am_isr, e, am_okt] at h ht <;> exact ⟨rfl, rfl⟩
theorem am_i_putr {b : Nat} (hf : (am_fr.getD (am_own M) []).lookup cp = some (ci, k, wi, false)) (hk : K[a]? = some (.inl (ci, refs))) (hI : am_isr ci k = true) (hlt : k < refs.length) (hci : ci = am_own M) (hin : (am_y M).name = "<init>") (hd : decode (am_by M) pc = .ok (.putfield cp, 3))
    (kk : am_Tri M d B C u c (pc + 3, ls, r, (K.set a (.inl (ci, refs.set k (.ref b))), I, A, J, X)) Q) : am_Tri M d B C u c (pc, ls, .ref b :: .ref a :: r, (K, I, A, J, X)) Q := by
  intro p l e R s m args below meth cd E cx H locs la hR hl hlo
  obtain ⟨hx, hb, hml, hr, hlocks, hname, hown, hG, htr, hex, hRm, hbs, hvn, hol, hE0, hfl⟩ := id cx
  obtain ⟨C, T, N, hc, hkN, hw, hT1, hty, hfin⟩ := am_Fd hf
  have hcell := hR.2.1 a _ hk
  obtain ⟨rr, hrr, hlen, cell, q1, q2, q3, q4⟩ := hcell
  cases hrr.symm.trans hc
  have hts := am_hts hG.1 hc args
  have hap := va_apart (own := "") hts (fun _ h => h) (am_ty ci) (fun k hk => ((am_Cd hc).2.2.1 k hk).1) (am_Cd hc).2.1 hG.2.1 hc
  obtain ⟨hS, hfc, kC, hkC, hkind⟩ := hG.2.1.1 ci _ hc
  obtain ⟨cf, kf, fi, f, hi, hsl⟩ := hS k hkN
  have hlay := hts _ (u_in_lay hkN)
  unfold u_lay at hlay
  rw [if_pos (by rw [hfin, hI])] at hlay
  have hst := (u_facts hfc hkC (u_lays hts (fun _ h => h) hkN) hi).1
  have hnm : am_nm.getD (am_own M) "" = C := by
    have key : ∀ ci, ci < 10 → ∀ q, am_cl[ci]? = some q → am_nm.getD ci "" = q.1 := by
      intro ci hci q hq
      have : am_cl.map Prod.fst = am_nm.take 10 := rfl
      have h2 : (am_cl.map Prod.fst)[ci]? = some q.1 := by rw [List.getElem?_map, hq]; rfl
      rw [this, List.getElem?_take, if_pos hci] at h2
      rw [List.getD_eq_getElem?_getD, h2]
      rfl
    rw [← hci]
    exact key ci (List.getElem?_eq_some_iff.mp hc).1 _ hc
  have hcf : m.cls = cf := by
    obtain ⟨_, _, c', _, _, _, -, -, hf', -, -, -, hown2, -⟩ := Cond.laysFinal_spec hlay
    have e1 : c' = cf := by have := hi.symm.trans hf'; simp at this; exact this.1.symm
    rw [hT1, ← hnm] at hown2
    rw [← e1]; exact Option.some.inj (hown.symm.trans hown2)
  obtain ⟨hn, hfit⟩ := am_fits (E := E) (b := b) hI
  have h6 := u_fits hfc hkC hkind (Or.inr hlay) hi hty hn hfit
  rw [hT1] at hi
  refine W.putFinK hx hb hown (hG.1.use hw rfl args) hi hst hcf (by rw [hname]; exact hin) (by rw [q2]; exact h6) q1 q3 (by rw [hsl]; exact k2_hasslot (q4 k hkN)) rfl rfl hd ?_
  intro H' e1 e2 e3
  refine kk p l e R s m args below meth cd E cx H' _ la (hR.upd e2 e3 (List.length_set ..) (fun j hj => List.getElem?_set_ne (Ne.symm hj)) (fun _ _ => rfl) (fun _ _ => rfl) (fun _ _ => rfl) (fun q hq => ?_) (fun ce hce => by rw [e1] at hce; cases hce; exact q3)) hl (fun q hq => ?_)
  · rw [List.getElem?_set_self (List.getElem?_eq_some_iff.mp hk).1] at hq
    cases hq
    refine ⟨_, hc, by rw [List.length_set]; exact hlen, _, e1, q2, q3, fun j hj => ?_⟩
    have h9 := t_set q4 hap hkN (am_v E (.ref b)) j hj
    rw [← hsl] at h9
    rw [h9]
    by_cases ej : j = k
    · subst ej
      simp [updV, am_fv, hI, List.getD_eq_getElem?_getD, hlt]
    · simp [updV, am_fv, ej, List.getD_eq_getElem?_getD, List.getElem?_set_ne (Ne.symm ej)]
  · rcases List.mem_append.mp hq with h | h
    · exact hlo q h
    · rw [List.mem_singleton.mp h]
      exact Nat.le_add_right _ _
end SNH
