/-! FROM A STATE TO THE END OF A METHOD OF THE CLASS -/
/-- the case that is chosen -/
def am_pick : List (Prop × aS) → aS → aS → Prop
  | [], s, t => s = t
  | (P, t') :: r, s, t => (P ∧ t' = t) ∨ (¬ P ∧ am_pick r s t)
theorem am_pick.cs {F : aS → Prop} : ∀ {l : List (Prop × aS)} {s t : aS}, am_pick l s t → F t → am_Cs F l s
  | [], _, _, h, hF => by cases h; exact hF
  | (P, t') :: r, s, t, h, hF => by
    rcases h with ⟨h1, h2⟩ | ⟨h1, h2⟩
    · subst h2
      exact ⟨fun _ => hF, fun z => absurd h1 z⟩
    · exact ⟨fun z => absurd z h1, fun _ => h2.cs hF⟩
theorem am_swi {M d B C u c : Nat} {Q : aO → aH → Prop} {s t s1 : aS} {l : List (Prop × aS)} (n : Nat) (h1d : 1 ≤ d) (hr : am_run n M s = am_sw l s1) (hp : am_pick l s1 t) (hk : am_Tri M d B C u c t Q) : am_Tri M d B C u c s Q := am_go n h1d hr (hp.cs hk)
/-- fewer locals, by their places -/
theorem am_sub {M d B C u c pc : Nat} {Q : aO → aH → Prop} {ls ls' : List (Nat × Value)} {sk : List Value} {h : aH} (ks : List Nat) (hl : lv_pick ls ks = ls') (k : am_Tri M d B C u c (pc, ls', sk, h) Q) : am_Tri M d B C u c (pc, ls, sk, h) Q := by
  intro p l e R s m args below meth cd E hcx H locs la hR hla hlo
  refine k p l e R s m args below meth cd E hcx H locs la hR ⟨hla.1, hla.2.1, fun q hq => ?_⟩ hlo
  obtain ⟨x, hx, rfl⟩ := List.mem_map.mp hq
  refine hla.2.2 _ (List.mem_map.mpr ⟨x, ?_, rfl⟩)
  rw [← hl] at hx
  obtain ⟨i, _, hi⟩ := List.mem_filterMap.mp hx
  exact List.mem_of_getElem? hi
def c_D {α : Type} (cs : List Nat) (M d : Nat) (g : List aK) (J : Nat → Nat → Int64) (X : Nat × (Nat → Int32)) (I A : Nat → Nat → Int32) (s0 : aS) (R : α → Option Value → (Nat → Nat → Int32) → (Nat → Nat → Int32) → Prop) (r : Except aF α) : Prop := match r with
  | .ok a => ∃ (I' A' : Nat → Nat → Int32) (v : Option Value), R a v I' A' ∧ am_Fr cs I A I' A' ∧ ∀ (B C u c : Nat) (Q : aO → aH → Prop), u ≤ B → c ≤ C → Q (.inl v) (am_H g I' A' J X) → am_Tri M d B C u c s0 Q
  | .error q => ∃ (I' A' : Nat → Nat → Int32) (k : Nat), I' 3 0 = q.1 ∧ I' 3 1 = nI q.2 ∧ am_Fr (3 :: cs) I A I' A' ∧ am_Ft M d s0 (.inr (101, k)) (am_H (am_gx g) I' A' J X)
section CDW
variable {α β : Type} {cs : List Nat} {M d : Nat} {g : List aK} {J : Nat → Nat → Int64} {X : Nat × (Nat → Int32)} {I A I1 A1 : Nat → Nat → Int32} {s0 t t2 : aS} {R : α → Option Value → (Nat → Nat → Int32) → (Nat → Nat → Int32) → Prop} {r : Except aF α} {P : Prop}
theorem c_D.met {as : List Value} (hM : Nat.blt M 200 = true) (hl : Nat.ble (lg_sl as).length (am_ml M) = true) (h : c_D cs M d g J X I A (0, lv_args 0 as, [], am_H g I A J X) R r) : c_M cs d M as g I A J X R r := by
  cases r with
  | error q =>
    obtain ⟨I', A', k, h1, h2, h3, h4⟩ := h
    exact ⟨I', A', k, h1, h2, h3, am_metF hM hl h4⟩
  | ok a =>
    obtain ⟨I', A', v, h1, h2, h3⟩ := h
    exact ⟨I', A', v, h1, h2, am_met hM hl (h3 _ _ _ _ _ (by decide) (by decide) ⟨rfl, rfl⟩)⟩
/-- back over a stretch -/
theorem c_D.back (hto : am_To M d s0 t) (hf : am_Fr cs I A I1 A1) (h : c_D cs M d g J X I1 A1 t R r) : c_D cs M d g J X I A s0 R r := by
  cases r with
  | error q =>
    obtain ⟨I', A', k, h1, h2, h3, h4⟩ := h
    exact ⟨I', A', k, h1, h2, hf.e3.trans h3, am_Ft.from hto h4⟩
  | ok a =>
    obtain ⟨I', A', v, h1, h2, h3⟩ := h
    exact ⟨I', A', v, h1, hf.trans h2, fun B C u c Q hu hc hq => hto B C u c Q hu hc (h3 B C u c Q hu hc hq)⟩
theorem c_D.yea (n : Nat) (h1d : 1 ≤ d) (hr : am_run n M s0 = am_br P t t2) (hp : P) (k : c_D cs M d g J X I A t R r) : c_D cs M d g J X I A s0 R r := c_D.back (fun _ _ _ _ _ _ _ k' => am_yea n h1d hr hp k') am_Fr.refl k
theorem c_D.nay (n : Nat) (h1d : 1 ≤ d) (hr : am_run n M s0 = am_br P t t2) (hp : ¬ P) (k : c_D cs M d g J X I A t2 R r) : c_D cs M d g J X I A s0 R r := c_D.back (fun _ _ _ _ _ _ _ k' => am_nay n h1d hr hp k') am_Fr.refl k
theorem c_D.nee (n : Nat) (h1d : 1 ≤ d) (hr : am_run n M s0 = am_nd P t) (hp : P) (k : c_D cs M d g J X I A t R r) : c_D cs M d g J X I A s0 R r := c_D.back (fun _ _ _ _ _ _ _ k' => am_nee n h1d hr hp k') am_Fr.refl k
theorem c_D.pla (n : Nat) (h1d : 1 ≤ d) (hr : am_run n M s0 = am_nx t) (k : c_D cs M d g J X I A t R r) : c_D cs M d g J X I A s0 R r := c_D.back (fun _ _ _ _ _ _ _ k' => am_pla n h1d hr k') am_Fr.refl k
theorem c_D.sub {pc : Nat} {ls ls' : List (Nat × Value)} {sk : List Value} {h : aH} (ks : List Nat) (hl : lv_pick ls ks = ls') (k : c_D cs M d g J X I A (pc, ls', sk, h) R r) : c_D cs M d g J X I A (pc, ls, sk, h) R r := c_D.back (fun _ _ _ _ _ _ _ k' => am_sub ks hl k') am_Fr.refl k
theorem c_D.swi {l : List (Prop × aS)} {s1 : aS} (n : Nat) (h1d : 1 ≤ d) (hr : am_run n M s0 = am_sw l s1) (hp : am_pick l s1 t) (k : c_D cs M d g J X I A t R r) : c_D cs M d g J X I A s0 R r := c_D.back (fun _ _ _ _ _ _ _ k' => am_swi n h1d hr hp k') am_Fr.refl k
/-- a call that isn't refused: with a value, without -/
theorem c_D.cav {n M' d' nx : Nat} {as' : List Value} {ls : List (Nat × Value)} {sk : List Value} {v : Value} (h1d : 1 ≤ d) (hr : am_run n M s0 = am_ca M' as' (nx, ls, sk, am_H g I A J X)) (hcon : am_Con d' M' as' (am_H g I A J X) (.inl (some v)) (am_H g I1 A1 J X) 0 0) (hd : d' + 1 ≤ d) (hf : am_Fr cs I A I1 A1) (k : c_D cs M d g J X I1 A1 (nx - 3 + 3, ls, v :: sk, am_H g I1 A1 J X) R r) : c_D cs M d g J X I A s0 R r := c_D.back (fun _ _ _ _ _ hu hc k' => am_cav n h1d hr hcon hd hu hc k') hf k
theorem c_D.can {n M' d' nx : Nat} {as' : List Value} {ls : List (Nat × Value)} {sk : List Value} (h1d : 1 ≤ d) (hr : am_run n M s0 = am_ca M' as' (nx, ls, sk, am_H g I A J X)) (hcon : am_Con d' M' as' (am_H g I A J X) (.inl none) (am_H g I1 A1 J X) 0 0) (hd : d' + 1 ≤ d) (hf : am_Fr cs I A I1 A1) (k : c_D cs M d g J X I1 A1 (nx - 3 + 3, ls, sk, am_H g I1 A1 J X) R r) : c_D cs M d g J X I A s0 R r := c_D.back (fun _ _ _ _ _ hu hc k' => am_can n h1d hr hcon hd hu hc k') hf k
/-- a call that may be refused -/
theorem c_D.call {n M' d' nx : Nat} {as' : List Value} {ls : List (Nat × Value)} {sk : List Value} {R' : β → Option Value → (Nat → Nat → Int32) → (Nat → Nat → Int32) → Prop} {r' : Except aF β} (h1d : 1 ≤ d) (hr : am_run n M s0 = am_ca M' as' (nx, ls, sk, am_H g I A J X)) (hs : am_hs M = []) (hd : d' + 1 ≤ d) (hcon : c_M cs d' M' as' g I A J X R' r') (he : ∀ q, r' = .error q → r = .error q) (k : ∀ b, r' = .ok b → ∀ I1 A1 v, R' b v I1 A1 → c_D cs M d g J X I1 A1 (nx - 3 + 3, ls, (match v with
    | some v => v :: sk
    | none => sk), am_H g I1 A1 J X) R r) : c_D cs M d g J X I A s0 R r := by
  cases hr' : r' with
  | error q =>
    rw [he q hr']
    rw [hr'] at hcon
    obtain ⟨I', A', k', h1, h2, h3, h4⟩ := hcon
    refine ⟨I', A', k', h1, h2, h3, ?_⟩
    intro B C u c Q hu hc hq
    exact am_cat n h1d hr h4 hd hu hc hs hq
  | ok b =>
    rw [hr'] at hcon
    obtain ⟨I1, A1, v, h1, h2, h3⟩ := hcon
    have hk := k b hr' I1 A1 v h1
    cases v with
    | none => exact c_D.can h1d hr h3 hd h2 hk
    | some v => exact c_D.cav h1d hr h3 hd h2 hk
theorem c_D.ref {n nx q : Nat} {ls : List (Nat × Value)} {sk : List Value} {w pp : Int32} (hd : 8 ≤ d) (hrun : am_run n M s0 = am_ca 16 [.ref 3, .int w, .int pp] (nx, ls, sk, am_H g I A J X)) (hs : am_hs M = []) (h3 : 3 ∉ cs) (hpp : pp = nI q) : c_D cs M d g J X I A s0 R (.error (w, q)) := by
  refine ⟨am_u (am_u I 3 0 w) 3 1 pp, A, (am_lay ++ g).length, by simp [am_u], by simp [am_u, hpp], (am_Fr.put List.mem_cons_self).trans (am_Fr.put List.mem_cons_self), ?_⟩
  intro B C u c Q hu hc hq
  exact am_cat n (by omega) hrun t_refuse hd hu hc hs hq
theorem c_D.ret {a : α} {v : Option Value} (n : Nat) (h1d : 1 ≤ d) (hr : am_run n M s0 = am_rt P (.inl v) (am_H g I A J X)) (hp : P) (h : R a v I A) : c_D cs M d g J X I A s0 R (.ok a) := ⟨I, A, v, h, am_Fr.refl, fun _ _ _ _ _ hu hc hq => am_end n h1d hr hp hu hc hq⟩
theorem c_D.eq {r2 : Except aF α} (h : r = r2) (k : c_D cs M d g J X I A s0 R r2) : c_D cs M d g J X I A s0 R r := by rw [h]; exact k
theorem c_D.mono {R2 : α → Option Value → (Nat → Nat → Int32) → (Nat → Nat → Int32) → Prop} (h : c_D cs M d g J X I A s0 R r) (hR : ∀ a v I' A', r = .ok a → R a v I' A' → R2 a v I' A') : c_D cs M d g J X I A s0 R2 r := by
  cases r with
  | error q => exact h
  | ok a =>
    obtain ⟨I', A', v, h1, h2⟩ := h
    exact ⟨I', A', v, hR a v I' A' rfl h1, h2⟩
theorem c_M.mono {as : List Value} {R2 : α → Option Value → (Nat → Nat → Int32) → (Nat → Nat → Int32) → Prop} (h : c_M cs d M as g I A J X R r) (hR : ∀ a v I' A', r = .ok a → R a v I' A' → R2 a v I' A') : c_M cs d M as g I A J X R2 r := by
  cases r with
  | error q => exact h
  | ok a =>
    obtain ⟨I', A', v, h1, h2⟩ := h
    exact ⟨I', A', v, hR a v I' A' rfl h1, h2⟩
end CDW
