/-! WAYS THROUGH A METHOD OF THE CLASS, step by step with what is said purely -/
/-- what a method comes to: done (value v), or refused -/
def c_M {α : Type} (cs : List Nat) (d M : Nat) (as : List Value) (g : List aK) (I A : Nat → Nat → Int32) (J : Nat → Nat → Int64) (X : Nat × (Nat → Int32)) (R : α → Option Value → (Nat → Nat → Int32) → (Nat → Nat → Int32) → Prop) (r : Except aF α) : Prop := match r with
  | .ok a => ∃ (I' A' : Nat → Nat → Int32) (v : Option Value), R a v I' A' ∧ am_Fr cs I A I' A' ∧ am_Con d M as (am_H g I A J X) (.inl v) (am_H g I' A' J X) 0 0
  | .error q => ∃ (I' A' : Nat → Nat → Int32) (k : Nat), I' 3 0 = q.1 ∧ I' 3 1 = nI q.2 ∧ am_Fr (3 :: cs) I A I' A' ∧ am_Con d M as (am_H g I A J X) (.inr (101, k)) (am_H (am_gx g) I' A' J X) 1 6
/-- what a stretch of a method comes to -/
def c_G {α : Type} (cs : List Nat) (M d : Nat) (g : List aK) (J : Nat → Nat → Int64) (X : Nat × (Nat → Int32)) (I A : Nat → Nat → Int32) (s0 : aS) (R : α → (Nat → Nat → Int32) → (Nat → Nat → Int32) → aS → Prop) (r : Except aF α) : Prop := match r with
  | .ok a => ∃ (I' A' : Nat → Nat → Int32) (s' : aS), R a I' A' s' ∧ am_Fr cs I A I' A' ∧ am_To M d s0 s'
  | .error q => ∃ (I' A' : Nat → Nat → Int32) (k : Nat), I' 3 0 = q.1 ∧ I' 3 1 = nI q.2 ∧ am_Fr (3 :: cs) I A I' A' ∧ am_Ft M d s0 (.inr (101, k)) (am_H (am_gx g) I' A' J X)
section WAY
variable {α β : Type} {cs : List Nat} {M d : Nat} {g : List aK} {J : Nat → Nat → Int64} {X : Nat × (Nat → Int32)} {I A I1 A1 : Nat → Nat → Int32} {s0 s1 : aS}
theorem c_G.bind {R : α → (Nat → Nat → Int32) → (Nat → Nat → Int32) → aS → Prop} {R' : β → (Nat → Nat → Int32) → (Nat → Nat → Int32) → aS → Prop} {r : Except aF α} {r' : Except aF β} (h : c_G cs M d g J X I A s0 R r) (he : ∀ q, r = .error q → r' = .error q) (hk : ∀ a, r = .ok a → ∀ I' A' s', R a I' A' s' → am_Fr cs I A I' A' → c_G cs M d g J X I' A' s' R' r') : c_G cs M d g J X I A s0 R' r' := by
  cases hr : r with
  | error q =>
    rw [he q hr]
    rw [hr] at h
    exact h
  | ok a =>
    rw [hr] at h
    obtain ⟨I', A', s', h1, h2, h3⟩ := h
    have := hk a hr I' A' s' h1 h2
    revert this
    cases r' with
    | error q =>
      rintro ⟨I2, A2, k, k1, k2, k3, k4⟩
      exact ⟨I2, A2, k, k1, k2, h2.e3.trans k3, am_Ft.from h3 k4⟩
    | ok b =>
      rintro ⟨I2, A2, s2, k1, k2, k3⟩
      exact ⟨I2, A2, s2, k1, h2.trans k2, h3.trans k3⟩
theorem c_G.from {R : α → (Nat → Nat → Int32) → (Nat → Nat → Int32) → aS → Prop} {r : Except aF α} (h1 : am_To M d s0 s1) (h2 : am_Fr cs I A I1 A1) (h : c_G cs M d g J X I1 A1 s1 R r) : c_G cs M d g J X I A s0 R r := by
  cases r with
  | error q =>
    obtain ⟨I2, A2, k, k1, k2, k3, k4⟩ := h
    exact ⟨I2, A2, k, k1, k2, h2.e3.trans k3, am_Ft.from h1 k4⟩
  | ok b =>
    obtain ⟨I2, A2, s2, k1, k2, k3⟩ := h
    exact ⟨I2, A2, s2, k1, h2.trans k2, h1.trans k3⟩
/-- a call that may be refused -/
theorem c_G.call {R : α → Option Value → (Nat → Nat → Int32) → (Nat → Nat → Int32) → Prop} {r : Except aF α} {n M' d' nx : Nat} {as' : List Value} {ls : List (Nat × Value)} {sk : List Value} (h1d : 1 ≤ d) (hrun : am_run n M s0 = am_ca M' as' (nx, ls, sk, am_H g I A J X)) (hs : am_hs M = []) (hd : d' + 1 ≤ d) (h : c_M cs d' M' as' g I A J X R r) : c_G cs M d g J X I A s0 (fun a I' A' s' => ∃ v, R a v I' A' ∧ s' = (nx - 3 + 3, ls, (match v with
    | some v => v :: sk
    | none => sk), am_H g I' A' J X)) r := by
  cases r with
  | error q =>
    obtain ⟨I', A', k, h1, h2, h3, h4⟩ := h
    refine ⟨I', A', k, h1, h2, h3, ?_⟩
    intro B C u c Q hu hc hq
    exact am_cat n h1d hrun h4 hd hu hc hs hq
  | ok a =>
    obtain ⟨I', A', v, h1, h2, h3⟩ := h
    refine ⟨I', A', _, ⟨v, h1, rfl⟩, h2, ?_⟩
    intro B C u c Q hu hc hk
    cases v with
    | none => exact am_can n h1d hrun h3 hd hu hc hk
    | some v => exact am_cav n h1d hrun h3 hd hu hc hk
/-- a refusal -/
theorem c_G.ref {R : α → (Nat → Nat → Int32) → (Nat → Nat → Int32) → aS → Prop} {n nx q : Nat} {ls : List (Nat × Value)} {sk : List Value} {w pp : Int32} (hd : 8 ≤ d) (hrun : am_run n M s0 = am_ca 16 [.ref 3, .int w, .int pp] (nx, ls, sk, am_H g I A J X)) (hs : am_hs M = []) (h3 : 3 ∉ cs) (hpp : pp = nI q) : c_G cs M d g J X I A s0 R (.error (w, q)) := by
  refine ⟨am_u (am_u I 3 0 w) 3 1 pp, A, (am_lay ++ g).length, by simp [am_u], by simp [am_u, hpp], (am_Fr.put List.mem_cons_self).trans (am_Fr.put List.mem_cons_self), ?_⟩
  intro B C u c Q hu hc hq
  exact am_cat n (by omega) hrun t_refuse hd hu hc hs hq
/-- arrived -/
theorem c_G.ok {R : α → (Nat → Nat → Int32) → (Nat → Nat → Int32) → aS → Prop} {a : α} (h : R a I1 A1 s1) (hf : am_Fr cs I A I1 A1) (ht : am_To M d s0 s1) : c_G cs M d g J X I A s0 R (.ok a) := ⟨I1, A1, s1, h, hf, ht⟩
/-- a method as its way -/
theorem c_G.met {R : α → (Nat → Nat → Int32) → (Nat → Nat → Int32) → aS → Prop} {R' : α → Option Value → (Nat → Nat → Int32) → (Nat → Nat → Int32) → Prop} {r : Except aF α} {as : List Value} (hM : Nat.blt M 200 = true) (hl : Nat.ble (lg_sl as).length (am_ml M) = true) (h : c_G cs M d g J X I A (0, lv_args 0 as, [], am_H g I A J X) R r) (he : ∀ a I' A' s', r = .ok a → R a I' A' s' → ∃ v, R' a v I' A' ∧ ∀ (B C u c : Nat) (Q : aO → aH → Prop), u ≤ B → c ≤ C → Q (.inl v) (am_H g I' A' J X) → am_Tri M d B C u c s' Q) : c_M cs d M as g I A J X R' r := by
  cases r with
  | error q =>
    obtain ⟨I', A', k, h1, h2, h3, h4⟩ := h
    exact ⟨I', A', k, h1, h2, h3, am_metF hM hl h4⟩
  | ok a =>
    obtain ⟨I', A', s', h1, h2, h3⟩ := h
    obtain ⟨v, k1, k2⟩ := he a I' A' s' rfl h1
    exact ⟨I', A', v, k1, h2, am_met hM hl (h3 _ _ _ _ _ (by decide) (by decide) (k2 _ _ _ _ _ (by decide) (by decide) ⟨rfl, rfl⟩))⟩
end WAY
