/-! THE CLASS'S TREE grows -/
section GRW
variable {g : List aK} {I A : Nat → Nat → Int32} {J : Nat → Nat → Int64} {X : Nat × (Nat → Int32)} {T : Nat} {tk : Nat → aT} {p m : Nat}
/-- a new node of the class: its last part is none -/
def c_add (S : aN) (m : Nat) (k t : Int32) : aN := am_u (n_add S m k t) 5 m (-1)
abbrev c_addA (A : Nat → Nat → Int32) (m : Nat) (k t : Int32) : Nat → Nat → Int32 := am_u (am_u (am_u (am_u (am_u (am_u (am_u (am_u A 10 m k) 11 m t) 12 m 1) 13 m 0) 14 m (-1)) 15 m (-1)) 16 m (-1)) 17 m (-1)
theorem c_addA_st {k t : Int32} : c_st (c_addA A m k t) = c_add (c_st A) m k t := by
  unfold c_addA c_add n_add
  rw [show (10 : Nat) = 10 + 0 from rfl, show (11 : Nat) = 10 + 1 from rfl, show (12 : Nat) = 10 + 2 from rfl, show (13 : Nat) = 10 + 3 from rfl, show (14 : Nat) = 10 + 4 from rfl, show (15 : Nat) = 10 + 5 from rfl, show (16 : Nat) = 10 + 6 from rfl, show (17 : Nat) = 10 + 7 from rfl]
  simp only [c_st_u]
  funext x y
  simp only [am_u]
  by_cases h : y = m
  · by_cases h5 : x = 5 <;> by_cases h6 : x = 6 <;> by_cases h7 : x = 7 <;> simp [h, h5, h6, h7] <;> omega
  · simp [h]
theorem c_add_W {S : aN} {q : Bool} {e : Nat} {k t : Int32} (hk : k = nI (e % 32)) (ht : q = true ∨ e % 32 ≠ 9 → t = nI (e / 32)) : n_W q S m (c_add S m k t) e := by
  have h := n_add_W (S := S) (m := m) hk ht
  have ne : ∀ f k', ¬ (f = 5 ∧ k' = m) → c_add S m k t f k' = n_add S m k t f k' := fun f k' z => am_un z
  refine ⟨fun f k' hk' => by rw [ne f k' (fun z => hk' z.2)]; exact h.1 f k' hk', fun lo => ?_, by rw [ne 6 m (by simp)]; exact h.2.2⟩
  obtain ⟨h1, h2⟩ := h.2.1 lo
  refine ⟨?_, ?_⟩
  · unfold n_N at *
    rw [ne 0 m (by simp), ne 1 m (by simp), ne 2 m (by simp), ne 3 m (by simp)]
    exact h1
  · have : n_add S m k t 4 m = -1 := h2
    show c_add S m k t 4 m = -1
    rw [ne 4 m (by simp), this]
theorem t_new {k t : Int32} (hm : I 9 9 = nI m) (h : m < 360) : am_Con 1 32 [.ref 9, .int k, .int t] (am_H g I A J X) (.inl (some (.int (nI m)))) (am_H g (am_u I 9 9 (nI (m + 1))) (c_addA A m k t) J X) 0 0 := by
  have e1 : (I 9 9).toNatClampNeg = m := by rw [hm, nI_clamp (by omega)]
  refine am_met rfl rfl ?_
  refine am_nay 9 (by decide) rfl (by rw [hm]; exact nI_pos (by omega)) ?_
  refine am_yea 9 (by decide) rfl (by rw [hm]; exact nI_lt h (by decide)) ?_
  refine am_nee 20 (by decide) rfl (by rw [hm]; exact nI_in h (by decide)) ?_
  refine am_nee 9 (by decide) rfl (by rw [hm]; exact nI_in h (by decide)) ?_
  refine am_nee 9 (by decide) rfl (by rw [hm]; exact nI_in h (by decide)) ?_
  refine am_nee 9 (by decide) rfl (by rw [hm]; exact nI_in h (by decide)) ?_
  refine am_nee 9 (by decide) rfl (by rw [hm]; exact nI_in h (by decide)) ?_
  refine am_nee 9 (by decide) rfl (by rw [hm]; exact nI_in h (by decide)) ?_
  refine am_nee 9 (by decide) rfl (by rw [hm]; exact nI_in h (by decide)) ?_
  refine am_nee 9 (by decide) rfl (by rw [hm]; exact nI_in h (by decide)) ?_
  refine am_end 12 (by decide) rfl trivial (by decide) (by decide) ⟨by rw [hm], ?_⟩
  rw [e1, hm, nI_1]
theorem c_La_add {S : aN} {k t : Int32} (h : c_La m S) : c_La (m + 1) (c_add S m k t) := by
  intro i hi
  by_cases e : i = m
  · subst e
    refine ⟨fun _ => by simp [c_add, am_u], fun z => ?_⟩
    exact absurd (by simp [c_add, n_add, am_u]) z
  · have hS : ∀ f, c_add S m k t f i = S f i := fun f => by simp [c_add, n_add, am_u, e]
    rw [hS, hS]
    obtain ⟨h1, h2⟩ := h i (by omega)
    refine ⟨h1, fun z => ?_⟩
    obtain ⟨x, x1, x2⟩ := h2 z
    exact ⟨x, by omega, x2⟩
theorem c_Tk_tree {I' A' : Nat → Nat → Int32} (h : c_Tk I A T tk) (hf : am_Fr p_cs I A I' A') : c_Tk I' A' T tk := by
  refine ⟨by rw [(hf 4 (by decide)).1]; exact h.1, h.2.1, fun k hk => ?_⟩
  rw [(hf 5 (by decide)).2, (hf 6 (by decide)).2, (hf 7 (by decide)).2, (hf 8 (by decide)).2]
  exact h.2.2 k hk
theorem c_addA_Fr {k t v : Int32} : am_Fr p_cs I A (am_u I 9 9 v) (c_addA A m k t) :=
  ((((((((am_Fr.put (by decide)).trans (am_Fr.set (by decide))).trans (am_Fr.set (by decide))).trans (am_Fr.set (by decide))).trans (am_Fr.set (by decide))).trans (am_Fr.set (by decide))).trans (am_Fr.set (by decide))).trans (am_Fr.set (by decide))).trans (am_Fr.set (by decide))
theorem p_I.new {k t : Int32} (h : p_I T tk p m I A) (hm : m < 360) : p_I T tk p (m + 1) (am_u I 9 9 (nI (m + 1))) (c_addA A m k t) := by
  obtain ⟨h1, h2, h3, h4, h5, h6⟩ := h
  refine ⟨?_, am_uk, by omega, h4, c_Tk_tree h5 c_addA_Fr, by rw [c_addA_st]; exact c_La_add h6⟩
  simpa [am_u] using h1
theorem t_has {x : Int32} (hm : I 9 9 = nI m) (h : m ≤ 360) : am_Con 1 35 [.ref 9, .int x] (am_H g I A J X) (.inl (some (.int (am_b (decide (¬ x < 0 ∧ x < nI m)))))) (am_H g I A J X) 0 0 := by
  refine am_met rfl rfl ?_
  by_cases c1 : x < 0
  · refine am_yea 9 (by decide) rfl c1 ?_
    exact am_end 9 (by decide) rfl (Or.inl rfl) (by decide) (by decide) ⟨by simp [c1, am_b], rfl⟩
  · refine am_nay 9 (by decide) rfl c1 ?_
    by_cases c2 : x < nI m
    · refine am_nay 9 (by decide) rfl (by rw [hm]; exact Int32.not_le.mpr c2) ?_
      exact am_end 9 (by decide) rfl (Or.inr rfl) (by decide) (by decide) ⟨by simp [c1, c2, am_b], rfl⟩
    · refine am_yea 9 (by decide) rfl (by rw [hm]; exact Int32.not_lt.mp c2) ?_
      exact am_end 9 (by decide) rfl (Or.inl rfl) (by decide) (by decide) ⟨by simp [c1, c2, am_b], rfl⟩
theorem t_hasY {j : Nat} (hm : I 9 9 = nI m) (h : m ≤ 360) (hj : j < m) : am_Con 1 35 [.ref 9, .int (nI j)] (am_H g I A J X) (.inl (some (.int 1))) (am_H g I A J X) 0 0 := by
  have := t_has (g := g) (A := A) (J := J) (X := X) (x := nI j) hm h
  rw [show (decide (¬ nI j < 0 ∧ nI j < nI m)) = true from by simp [nI_lt hj (by omega), nI_pos (show j < 2 ^ 31 by omega)]] at this
  exact this
theorem t_hasN (hm : I 9 9 = nI m) (h : m ≤ 360) : am_Con 1 35 [.ref 9, .int (-1)] (am_H g I A J X) (.inl (some (.int 0))) (am_H g I A J X) 0 0 := t_has (x := -1) hm h
abbrev c_appA (A0 : Nat → Nat → Int32) (j v : Nat) (x hh : Int32) : Nat → Nat → Int32 := am_u (am_u (am_u (am_u A0 15 j (nI v)) 17 v (nI j)) 13 j x) 12 j hh
theorem c_appA_st {j v : Nat} {hh : Int32} : c_st (c_appA (if c_st A 3 j = 0 then am_u A 14 j (nI v) else am_u A 16 (c_st A 5 j).toNatClampNeg (nI v)) j v (c_st A 3 j + 1) hh) = n_lnk (c_st A) j v hh := by
  unfold c_appA n_lnk
  rw [show (12 : Nat) = 10 + 2 from rfl, show (13 : Nat) = 10 + 3 from rfl, show (15 : Nat) = 10 + 5 from rfl, show (17 : Nat) = 10 + 7 from rfl]
  simp only [c_st_u]
  congr 4
  split
  · rw [show (14 : Nat) = 10 + 4 from rfl, c_st_u]
  · rw [show (16 : Nat) = 10 + 6 from rfl, c_st_u]
theorem c_La_lnk {S : aN} {j v n : Nat} {hh : Int32} (h : c_La m S) (hv : v < m) (hn : n < 1000) (h3 : S 3 j = nI n) : c_La m (n_lnk S j v hh) := by
  intro i hi
  by_cases e : i = j
  · subst e
    have e3 : n_lnk S i v hh 3 i = nI (n + 1) := by
      simp only [n_lnk, am_u]
      simp [h3, nI_1]
    have e5 : n_lnk S i v hh 5 i = nI v := by
      simp only [n_lnk, am_u]
      simp
    rw [e3, e5]
    exact ⟨fun z => absurd z (nI_ne0 (by omega) (by omega)), fun _ => ⟨v, hv, rfl⟩⟩
  · have hS : ∀ f, f = 3 ∨ f = 5 → n_lnk S j v hh f i = S f i := fun f hf => by
      unfold n_lnk
      rw [am_un (fun z => e z.2), am_un (fun z => e z.2), am_un (fun z => by omega), am_un (fun z => e z.2)]
      split
      · exact am_un (fun z => e z.2)
      · exact am_un (fun z => by omega)
    rw [hS 3 (by omega), hS 5 (by omega)]
    exact h i hi
theorem t_app {j v n : Nat} (h : p_I T tk p m I A) (hj : j < m) (hv : v < m) (hn : n < 1000) (h3 : c_st A 3 j = nI n) : ∃ (A' : Nat → Nat → Int32) (hh : Int32), c_st A' = n_lnk (c_st A) j v hh ∧ n_hh (c_st A) j v hh ∧ am_Fr p_cs I A I A' ∧ p_I T tk p m I A' ∧ am_Con 2 33 [.ref 9, .int (nI j), .int (nI v)] (am_H g I A J X) (.inl none) (am_H g I A' J X) 0 0 := by
  obtain ⟨h1, h2, hm, h4, h5, h6⟩ := h
  obtain ⟨l1, l2⟩ := h6 j hj
  have hfr : am_Fr p_cs I A I (c_appA (if c_st A 3 j = 0 then am_u A 14 j (nI v) else am_u A 16 (c_st A 5 j).toNatClampNeg (nI v)) j v (c_st A 3 j + 1) (if c_st A 2 j < c_st A 2 v + 1 then c_st A 2 v + 1 else c_st A 2 j)) := by
    refine ((((?_ : am_Fr p_cs I A I _).trans (am_Fr.set (by decide))).trans (am_Fr.set (by decide))).trans (am_Fr.set (by decide))).trans (am_Fr.set (by decide))
    split
    · exact am_Fr.set (by decide)
    · exact am_Fr.set (by decide)
  refine ⟨_, _, c_appA_st, Or.inl rfl, hfr, ⟨h1, h2, hm, h4, c_Tk_tree h5 hfr, by rw [c_appA_st]; exact c_La_lnk h6 hv hn h3⟩, ?_⟩
  refine am_met rfl rfl ?_
  refine am_cav 9 (by decide) rfl (t_hasY h2 hm hj) (by decide) (by decide) (by decide) ?_
  refine am_nay 9 (by decide) rfl (by decide) ?_
  refine am_cav 9 (by decide) rfl (t_hasY h2 hm hv) (by decide) (by decide) (by decide) ?_
  refine am_yea 9 (by decide) rfl (by decide) ?_
  refine am_nee 9 (by decide) rfl (nI_in (show j < 360 by omega) (by decide)) ?_
  have e15 : A 15 (nI j).toNatClampNeg = c_st A 5 j := by rw [nI_clamp (by omega)]; rfl
  by_cases c0 : c_st A 3 j = 0
  · rw [if_pos c0]
    refine am_cav 9 (by decide) rfl (by rw [e15, l1 c0]; exact t_hasN h2 hm) (by decide) (by decide) (by decide) ?_
    refine am_yea 9 (by decide) rfl (by decide) ?_
    refine am_nee 9 (by decide) rfl (nI_in (show j < 360 by omega) (by decide)) ?_
    refine am_nee 9 (by decide) rfl (nI_in (show j < 360 by omega) (by decide)) ?_
    refine am_nee 9 (by decide) rfl (nI_in (show v < 360 by omega) (by decide)) ?_
    refine am_nee 9 (by decide) rfl (nI_in (show j < 360 by omega) (by decide)) ?_
    refine am_nee 9 (by decide) rfl (nI_in (show j < 360 by omega) (by decide)) ?_
    refine am_nee 9 (by decide) rfl (nI_in (show j < 360 by omega) (by decide)) ?_
    refine am_nee 9 (by decide) rfl (nI_in (show v < 360 by omega) (by decide)) ?_
    refine am_cav 9 (by decide) rfl t_max (by decide) (by decide) (by decide) ?_
    refine am_nee 9 (by decide) rfl (nI_in (show j < 360 by omega) (by decide)) ?_
    refine am_end 9 (by decide) rfl trivial (by decide) (by decide) ⟨rfl, ?_⟩
    rw [nI_clamp (show j < 2 ^ 31 by omega), nI_clamp (show v < 2 ^ 31 by omega)]
    simp [c_appA, c_st, am_u]
    rfl
  · rw [if_neg c0]
    obtain ⟨i, i1, i2⟩ := l2 c0
    refine am_cav 9 (by decide) rfl (by rw [e15, i2]; exact t_hasY h2 hm i1) (by decide) (by decide) (by decide) ?_
    refine am_nay 9 (by decide) rfl (by decide) ?_
    refine am_nee 9 (by decide) rfl (by rw [e15, i2]; exact nI_in (show i < 360 by omega) (by decide)) ?_
    refine am_nee 9 (by decide) rfl (nI_in (show j < 360 by omega) (by decide)) ?_
    refine am_nee 9 (by decide) rfl (nI_in (show v < 360 by omega) (by decide)) ?_
    refine am_nee 9 (by decide) rfl (nI_in (show j < 360 by omega) (by decide)) ?_
    refine am_nee 9 (by decide) rfl (nI_in (show j < 360 by omega) (by decide)) ?_
    refine am_nee 9 (by decide) rfl (nI_in (show j < 360 by omega) (by decide)) ?_
    refine am_nee 9 (by decide) rfl (nI_in (show v < 360 by omega) (by decide)) ?_
    refine am_cav 9 (by decide) rfl t_max (by decide) (by decide) (by decide) ?_
    refine am_nee 9 (by decide) rfl (nI_in (show j < 360 by omega) (by decide)) ?_
    refine am_end 9 (by decide) rfl trivial (by decide) (by decide) ⟨rfl, ?_⟩
    rw [e15, nI_clamp (show j < 2 ^ 31 by omega), nI_clamp (show v < 2 ^ 31 by omega)]
    simp [c_appA, c_st, am_u]
    rfl
end GRW
