/-! THE CLASS'S PARSER: expressions -/
/-- the value is a new node -/
def p_V (T : Nat) (tk : Nat → aT) (m : Nat) (A : Nat → Nat → Int32) (a : Nat × aB × Nat) (v : Option Value) (I' A' : Nat → Nat → Int32) : Prop := ∃ j m', v = some (.int (nI j)) ∧ p_I T tk a.2.2 m' I' A' ∧ n_V true (c_st A) m (c_st A') m' j a.1 a.2.1
/-- what is known of the expressions within, where o are begun -/
def p_U (g : List aK) (J : Nat → Nat → Int64) (X : Nat × (Nat → Int32)) (T : Nat) (tk : Nat → aT) (D o : Nat) (full : Bool) (up : Nat → Nat → aG) : Prop := 12 ≤ D ∧ o ≤ 12 ∧ (full = true ↔ o = 12) ∧ (∀ s p e c p', 1 ≤ s → up s p = .ok (e, c, p') → d_Q (d_mk T tk) T p e c p') ∧ (full = false → ∀ (s p m : Nat) (I A : Nat → Nat → Int32), 1 ≤ s → s ≤ 8 → p < T → m ≤ 2 * p + 3 → p_I T tk p m I A → c_M p_cs D 77 [.ref 26, .int (nI s), .int (nI (o + 1))] g I A J X (p_V T tk m A) (up s p) ∧ ((s = 3 ∨ s = 7) → c_M p_cs D 78 [.ref 26, .int (nI s), .int (nI (o + 1))] g I A J X (p_V T tk m A) (up s p)))
section CEX
variable {g : List aK} {I A : Nat → Nat → Int32} {J : Nat → Nat → Int64} {X : Nat × (Nat → Int32)} {T : Nat} {tk : Nat → aT} {p m D o : Nat} {full : Bool} {up : Nat → Nat → aG}
theorem t_tokenOf {j : Nat} (hm : I 9 9 = nI m) (h : m ≤ 360) (hj : j < m) : am_Con 1 37 [.ref 9, .int (nI j)] (am_H g I A J X) (.inl (some (.int (c_st A 1 j)))) (am_H g I A J X) 0 0 := by
  refine am_met rfl rfl ?_
  refine am_nay 9 (by decide) rfl (nI_pos (by omega)) ?_
  refine am_nay 9 (by decide) rfl (by rw [hm]; exact nI_ge hj (by omega)) ?_
  refine am_nee 9 (by decide) rfl (nI_in (show j < 360 by omega) (by decide)) ?_
  refine am_end 9 (by decide) rfl trivial (by decide) (by decide) ⟨?_, rfl⟩
  rw [nI_clamp (by omega)]
  rfl
theorem t_heightOf {j : Nat} (hm : I 9 9 = nI m) (h : m ≤ 360) (hj : j < m) : am_Con 1 38 [.ref 9, .int (nI j)] (am_H g I A J X) (.inl (some (.int (c_st A 2 j)))) (am_H g I A J X) 0 0 := by
  refine am_met rfl rfl ?_
  refine am_nay 9 (by decide) rfl (nI_pos (by omega)) ?_
  refine am_nay 9 (by decide) rfl (by rw [hm]; exact nI_ge hj (by omega)) ?_
  refine am_nee 9 (by decide) rfl (nI_in (show j < 360 by omega) (by decide)) ?_
  refine am_end 9 (by decide) rfl trivial (by decide) (by decide) ⟨?_, rfl⟩
  rw [nI_clamp (by omega)]
  rfl
theorem t_partsOf {j : Nat} (hm : I 9 9 = nI m) (h : m ≤ 360) (hj : j < m) : am_Con 1 39 [.ref 9, .int (nI j)] (am_H g I A J X) (.inl (some (.int (c_st A 3 j)))) (am_H g I A J X) 0 0 := by
  refine am_met rfl rfl ?_
  refine am_nay 9 (by decide) rfl (nI_pos (by omega)) ?_
  refine am_nay 9 (by decide) rfl (by rw [hm]; exact nI_ge hj (by omega)) ?_
  refine am_nee 9 (by decide) rfl (nI_in (show j < 360 by omega) (by decide)) ?_
  refine am_end 9 (by decide) rfl trivial (by decide) (by decide) ⟨?_, rfl⟩
  rw [nI_clamp (by omega)]
  rfl
theorem k_hc {lo mid j e : Nat} {c : aB} (h : p_I T tk p m I A) (hj : j < m) (hT : n_T (c_st A) true lo mid j e c) (he : 11 ≤ e % 32) (het : e / 32 < T) (hlm : lo ≤ mid) (hmid : mid ≤ 400) : c_M p_cs 9 88 [.ref 26, .int (nI j)] g I A J X (fun a v I' A' => v = none ∧ I' = I ∧ A' = A ∧ a = (e, c, p)) (d_hc (d_pc tk) e c p) := by
  obtain ⟨h1, h2, hm, h4, h5, h6⟩ := h
  have hb := (b_ht_lt hlm hT.2).1
  have e2 := hT.1.2.2.2 he
  have e1 := hT.1.2.1 (Or.inl rfl)
  have hh := t_heightOf (g := g) (A := A) (J := J) (X := X) h2 hm hj
  have ht := t_tokenOf (g := g) (A := A) (J := J) (X := X) h2 hm hj
  rw [e2] at hh
  rw [e1] at ht
  refine c_D.met rfl rfl ?_
  refine c_D.cav (n := 9) (by decide) rfl hh (by decide) am_Fr.refl ?_
  unfold d_hc
  by_cases c1 : 10 < b_ht c + 1
  · rw [if_pos c1]
    refine c_D.nay 9 (by decide) rfl (nI_ge (a := 10) c1 (by omega)) ?_
    refine c_D.cav (n := 9) (by decide) rfl ht (by decide) am_Fr.refl ?_
    refine c_D.cav (n := 9) (by decide) rfl (t_place h5 het) (by decide) am_Fr.refl ?_
    exact c_D.ref (n := 9) (by decide) rfl rfl (by decide) rfl
  · rw [if_neg c1]
    refine c_D.yea 9 (by decide) rfl (nI_le (b := 10) (by omega) (by decide)) ?_
    exact c_D.ret 9 (by decide) rfl trivial ⟨rfl, rfl, rfl, rfl⟩
end CEX
