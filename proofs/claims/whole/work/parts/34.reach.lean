/-! FROM STATE TO STATE, with whatever cells are left -/
def am_To (M d : Nat) (s s' : aS) : Prop := ∀ (B C u c : Nat) (Q : aO → aH → Prop), u ≤ B → c ≤ C → am_Tri M d B C u c s' Q → am_Tri M d B C u c s Q
/-- it ends so, with one cell of 6 slots more -/
def am_Ft (M d : Nat) (s : aS) (o : aO) (h : aH) : Prop := ∀ (B C u c : Nat) (Q : aO → aH → Prop), u + 1 ≤ B → c + 6 ≤ C → Q o h → am_Tri M d B C u c s Q
theorem am_To.trans {M d : Nat} {s s' s'' : aS} (h1 : am_To M d s s') (h2 : am_To M d s' s'') : am_To M d s s'' := fun B C u c Q hu hc k => h1 B C u c Q hu hc (h2 B C u c Q hu hc k)
theorem am_To.refl {M d : Nat} {s : aS} : am_To M d s s := fun _ _ _ _ _ _ _ k => k
theorem am_Ft.from {M d : Nat} {s s' : aS} {o : aO} {h : aH} (h1 : am_To M d s s') (h2 : am_Ft M d s' o h) : am_Ft M d s o h := fun B C u c Q hu hc k => h1 B C u c Q (by omega) (by omega) (h2 B C u c Q hu hc k)
theorem am_metF {M d : Nat} {as : List Value} {h h' : aH} {o : aO} (hM : Nat.blt M 200 = true) (hl : Nat.ble (lg_sl as).length (am_ml M) = true) (hT : am_Ft M d (0, lv_args 0 as, [], h) o h') : am_Con d M as h o h' 1 6 :=
  am_met hM hl (hT 1 6 0 0 _ (by decide) (by decide) ⟨rfl, rfl⟩)
/-- what lies outside of the cells cs is as it was -/
def am_Fr (cs : List Nat) (I A I' A' : Nat → Nat → Int32) : Prop := ∀ x : Nat, x ∉ cs → I' x = I x ∧ A' x = A x
theorem am_Fr.refl {cs : List Nat} {I A : Nat → Nat → Int32} : am_Fr cs I A I A := fun _ _ => ⟨rfl, rfl⟩
theorem am_Fr.trans {cs : List Nat} {I A I' A' I'' A'' : Nat → Nat → Int32} (h1 : am_Fr cs I A I' A') (h2 : am_Fr cs I' A' I'' A'') : am_Fr cs I A I'' A'' := fun x hx => ⟨(h2 x hx).1.trans (h1 x hx).1, (h2 x hx).2.trans (h1 x hx).2⟩
theorem am_Fr.mono {cs cs' : List Nat} {I A I' A' : Nat → Nat → Int32} (h : am_Fr cs I A I' A') (hs : ∀ x ∈ cs, x ∈ cs') : am_Fr cs' I A I' A' := fun x hx => h x fun h' => hx (hs x h')
theorem am_uo {α : Type} {f : Nat → Nat → α} {a k x : Nat} {v : α} (h : x ≠ a) : am_u f a k v x = f x := by
  funext y
  simp [am_u, h]
theorem am_us {α : Type} {f : Nat → Nat → α} {a k : Nat} {v : α} : am_u f a k v a = fun y => if y = k then v else f a y := by
  funext y
  simp [am_u]
theorem am_uk {α : Type} {f : Nat → Nat → α} {a k : Nat} {v : α} : am_u f a k v a k = v := by simp [am_u]
theorem am_un {α : Type} {f : Nat → Nat → α} {a k x y : Nat} {v : α} (h : ¬ (x = a ∧ y = k)) : am_u f a k v x y = f x y := if_neg h
theorem am_Fr.e3 {cs : List Nat} {I A I' A' : Nat → Nat → Int32} (h : am_Fr cs I A I' A') : am_Fr (3 :: cs) I A I' A' := h.mono (fun _ z => List.mem_cons_of_mem _ z)
theorem am_Fr.put {cs : List Nat} {I A : Nat → Nat → Int32} {a k : Nat} {v : Int32} (h : a ∈ cs) : am_Fr cs I A (am_u I a k v) A := fun x hx => ⟨am_uo fun e => hx (e ▸ h), rfl⟩
theorem am_Fr.set {cs : List Nat} {I A : Nat → Nat → Int32} {a k : Nat} {v : Int32} (h : a ∈ cs) : am_Fr cs I A I (am_u A a k v) := fun x hx => ⟨rfl, am_uo fun e => hx (e ▸ h)⟩
/-- plain steps alone -/
theorem am_pla {M d B C u c : Nat} {Q : aO → aH → Prop} {s t : aS} (n : Nat) (h1d : 1 ≤ d) (hr : am_run n M s = am_nx t) (hk : am_Tri M d B C u c t Q) : am_Tri M d B C u c s Q := am_go n h1d hr hk
