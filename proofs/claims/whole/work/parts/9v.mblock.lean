/-! THE REFERENCE'S STATEMENTS: compound(), blockOf() -/
/-- the kind of a compound statement -/
def d_cm (k : Int32) : Nat := if k = 11 then 6 else if k = 14 then 7 else if k = 15 then 8 else 0
/-- B is the block over n, k branches up -/
def r_up (S : aN) : Nat → Nat → Nat → Prop
  | 0, n, B => S 7 n = nI B ∧ S 0 B = 9 ∧ B < 400
  | k + 1, n, B => ∃ n', n' < 400 ∧ S 7 n = nI n' ∧ S 0 n' ≠ 9 ∧ r_up S k n' B
section MBK
variable {g : List aK} {X : Nat × (Nat → Int32)} {T : Nat} {tk : Nat → aT} {I A : Nat → Nat → Int32} {J : Nat → Nat → Int64} {p m : Nat}
theorem y_cm (hK : d_K T tk) (hY : m_Y T tk p m I A J) (hp : p < T) : am_Con 2 172 [.ref 29] (am_H g I A J X) (.inl (some (.int (nI (d_cm (d_mk T tk p)))))) (am_H g I A J X) 0 0 := by
  have w0 := y_isW (g := g) (X := X) (i := 0) hY.2.2.1 hK hY.1 hp (by decide)
  have w3 := y_isW (g := g) (X := X) (i := 3) hY.2.2.1 hK hY.1 hp (by decide)
  have w4 := y_isW (g := g) (X := X) (i := 4) hY.2.2.1 hK hY.1 hp (by decide)
  generalize d_mk T tk p = k at w0 w3 w4
  unfold d_cm
  refine am_met rfl rfl ?_
  refine am_cav 9 (by decide) rfl w0 (by decide) (by decide) (by decide) ?_
  by_cases c11 : k = 11
  · rw [if_pos c11, show decide (k = nI (11 + 0)) = true from decide_eq_true c11]
    refine am_nay 9 (by decide) rfl (by decide) ?_
    exact am_end 9 (by decide) rfl trivial (by decide) (by decide) ⟨rfl, rfl⟩
  rw [if_neg c11, show decide (k = nI (11 + 0)) = false from decide_eq_false c11]
  refine am_yea 9 (by decide) rfl (by decide) ?_
  refine am_cav 9 (by decide) rfl w3 (by decide) (by decide) (by decide) ?_
  by_cases c14 : k = 14
  · rw [if_pos c14, show decide (k = nI (11 + 3)) = true from decide_eq_true c14]
    refine am_nay 9 (by decide) rfl (by decide) ?_
    exact am_end 9 (by decide) rfl trivial (by decide) (by decide) ⟨rfl, rfl⟩
  rw [if_neg c14, show decide (k = nI (11 + 3)) = false from decide_eq_false c14]
  refine am_yea 9 (by decide) rfl (by decide) ?_
  refine am_cav 9 (by decide) rfl w4 (by decide) (by decide) (by decide) ?_
  by_cases c15 : k = 15
  · rw [if_pos c15, show decide (k = nI (11 + 4)) = true from decide_eq_true c15]
    refine am_nay 9 (by decide) rfl (by decide) ?_
    exact am_end 9 (by decide) rfl trivial (by decide) (by decide) ⟨rfl, rfl⟩
  rw [if_neg c15, show decide (k = nI (11 + 4)) = false from decide_eq_false c15]
  refine am_yea 9 (by decide) rfl (by decide) ?_
  exact am_end 9 (by decide) rfl trivial (by decide) (by decide) ⟨rfl, rfl⟩
theorem y_bo {n B k : Nat} (hn : n < 400) (h : r_up (m_st A) k n B) : am_Con 1 171 [.ref 29, .int (nI n)] (am_H g I A J X) (.inl (some (.int (nI B)))) (am_H g I A J X) 0 0 := by
  have loop : ∀ (k n1 : Nat) (q : Int32), r_up (m_st A) k n1 B → ∀ n', n' < 400 → m_st A 7 n1 = nI n' → am_To 171 1 (7, [(2, .int (nI n')), (0, .ref 29), (1, .int q)], [], am_H g I A J X) (28, [(2, .int (nI B)), (0, .ref 29), (1, .int q)], [], am_H g I A J X) := by
    intro k
    induction k with
    | zero =>
      intro n1 q h n' hn' e7
      obtain ⟨h1, h2, h3⟩ := h
      have : n' = B := nI_inj (by omega) (by omega) (e7.symm.trans h1)
      subst this
      intro B' C u c Q hu hc kk
      refine am_nee 9 (by decide) rfl (nI_in hn' (by decide)) ?_
      exact am_yea 9 (by decide) rfl (by rw [nI_clamp (by omega)]; exact h2) kk
    | succ k ih =>
      intro n1 q h n' hn' e7
      obtain ⟨n2, h1, h2, h3, h4⟩ := h
      have : n' = n2 := nI_inj (by omega) (by omega) (e7.symm.trans h2)
      subst this
      intro B' C u c Q hu hc kk
      have hup : ∃ n3, n3 < 400 ∧ m_st A 7 n' = nI n3 := by
        cases k with
        | zero => exact ⟨B, h4.2.2, h4.1⟩
        | succ k =>
          obtain ⟨n3, g1, g2, -⟩ := h4
          exact ⟨n3, g1, g2⟩
      obtain ⟨n3, g1, g2⟩ := hup
      refine am_nee 9 (by decide) rfl (nI_in hn' (by decide)) ?_
      refine am_nay 9 (by decide) rfl (by rw [nI_clamp (by omega)]; exact h3) ?_
      refine am_nee 9 (by decide) rfl (nI_in hn' (by decide)) ?_
      refine am_pla 2 (by decide) rfl ?_
      rw [nI_clamp (by omega), show A 45 n' = nI n3 from g2]
      exact ih n' q h4 n3 g1 g2 B' C u c Q hu hc kk
  have hup : ∃ n3, n3 < 400 ∧ m_st A 7 n = nI n3 := by
    cases k with
    | zero => exact ⟨B, h.2.2, h.1⟩
    | succ k =>
      obtain ⟨n3, g1, g2, -⟩ := h
      exact ⟨n3, g1, g2⟩
  obtain ⟨n3, g1, g2⟩ := hup
  refine am_met rfl rfl ?_
  refine am_nee 9 (by decide) rfl (nI_in hn (by decide)) ?_
  refine am_pla 1 (by decide) rfl ?_
  rw [nI_clamp (by omega), show A 45 n = nI n3 from g2]
  refine loop k n (nI n) h n3 g1 g2 _ _ _ _ _ (by decide) (by decide) ?_
  exact am_end 9 (by decide) rfl trivial (by decide) (by decide) ⟨rfl, rfl⟩
end MBK
