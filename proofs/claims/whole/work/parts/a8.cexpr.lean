/-! THE CLASS WRITES: expressions -/
theorem nI_nv {k b : Nat} (hk : k < 2 ^ 31) (hb : b < 2 ^ 31) (h : k ≠ b) : ¬ nI k = nI b := fun z => h (nI_inj hk hb z)
section CWE
variable {g : List aK} {J : Nat → Nat → Int64} {X : Nat × (Nat → Int32)} {I A : Nat → Nat → Int32} {L W : List Int32} {tx : Nat → Int32} {n T m : Nat} {tk : Nat → aT} {S : aN}
theorem k_sg {j e : Nat} {c : aB} (h : c_Vw tx n T tk S m I A) (hj : j < m) (hn : n_N S true j e c) (ht : e / 32 < 2 ^ 31) : am_Con 2 106 [.ref 27, .int (nI j)] (am_H g I A J X) (.inl (some (.int (nI (w_sg (d_mk T tk) e))))) (am_H g I A J X) 0 0 := by
  have e1 := hn.2.1 (Or.inl rfl)
  refine am_met rfl rfl ?_
  refine am_cav 9 (by decide) rfl (t_kindOf h hj) (by decide) (by decide) (by decide) ?_
  rw [hn.1]
  have bin : w_sg (d_mk T tk) e = d_sb (d_mk T tk (e / 32)) → am_Tri 106 2 0 0 0 0 (48, [(0, .ref 27), (1, .int (nI j))], [], am_H g I A J X) (fun oo hh => oo = .inl (some (.int (nI (w_sg (d_mk T tk) e)))) ∧ hh = am_H g I A J X) := fun z => by
    refine am_cav 9 (by decide) rfl (by have := t_tokn (g := g) (J := J) (X := X) h hj; rw [e1] at this; exact this) (by decide) (by decide) (by decide) ?_
    refine am_cav 9 (by decide) rfl (t_mark h.2.1 ht) (by decide) (by decide) (by decide) ?_
    refine am_cav 9 (by decide) rfl t_sb (by decide) (by decide) (by decide) ?_
    exact am_end 9 (by decide) rfl trivial (by decide) (by decide) ⟨by rw [z], rfl⟩
  have hw : ∀ k, e % 32 = k → w_sg (d_mk T tk) e = (if k = 11 ∨ k = 12 ∨ k = 14 ∨ k = 15 then d_sb (d_mk T tk (e / 32)) else if k = 13 then 3 else if k = 16 then 7 else 8) := fun k z => by subst z; rfl
  by_cases c11 : e % 32 = 11
  · rw [c11]
    refine am_swi 9 (by decide) rfl (Or.inl ⟨rfl, rfl⟩) ?_
    exact bin (by rw [hw _ c11]; rfl)
  by_cases c12 : e % 32 = 12
  · rw [c12]
    refine am_swi 9 (by decide) rfl (Or.inr ⟨by decide, Or.inl ⟨rfl, rfl⟩⟩) ?_
    exact bin (by rw [hw _ c12]; rfl)
  by_cases c13 : e % 32 = 13
  · rw [c13]
    refine am_swi 9 (by decide) rfl (Or.inr ⟨by decide, Or.inr ⟨by decide, Or.inl ⟨rfl, rfl⟩⟩⟩) ?_
    exact am_end 9 (by decide) rfl trivial (by decide) (by decide) ⟨by rw [hw _ c13]; rfl, rfl⟩
  by_cases c14 : e % 32 = 14
  · rw [c14]
    refine am_swi 9 (by decide) rfl (Or.inr ⟨by decide, Or.inr ⟨by decide, Or.inr ⟨by decide, Or.inl ⟨rfl, rfl⟩⟩⟩⟩) ?_
    exact bin (by rw [hw _ c14]; rfl)
  by_cases c15 : e % 32 = 15
  · rw [c15]
    refine am_swi 9 (by decide) rfl (Or.inr ⟨by decide, Or.inr ⟨by decide, Or.inr ⟨by decide, Or.inr ⟨by decide, Or.inl ⟨rfl, rfl⟩⟩⟩⟩⟩) ?_
    exact bin (by rw [hw _ c15]; rfl)
  by_cases c16 : e % 32 = 16
  · rw [c16]
    refine am_swi 9 (by decide) rfl (Or.inr ⟨by decide, Or.inr ⟨by decide, Or.inr ⟨by decide, Or.inr ⟨by decide, Or.inr ⟨by decide, Or.inl ⟨rfl, rfl⟩⟩⟩⟩⟩⟩) ?_
    exact am_end 9 (by decide) rfl trivial (by decide) (by decide) ⟨by rw [hw _ c16]; rfl, rfl⟩
  refine am_swi 9 (by decide) rfl (Or.inr ⟨nI_nv (b := 11) (by omega) (by decide) c11, Or.inr ⟨nI_nv (b := 12) (by omega) (by decide) c12, Or.inr ⟨nI_nv (b := 13) (by omega) (by decide) c13, Or.inr ⟨nI_nv (b := 14) (by omega) (by decide) c14, Or.inr ⟨nI_nv (b := 15) (by omega) (by decide) c15, Or.inr ⟨nI_nv (b := 16) (by omega) (by decide) c16, rfl⟩⟩⟩⟩⟩⟩) ?_
  refine am_end 9 (by decide) rfl trivial (by decide) (by decide) ⟨?_, rfl⟩
  rw [hw _ rfl, if_neg (by omega), if_neg c13, if_neg c16]
  rfl
theorem w_sg_le {mk : Nat → Int32} {e : Nat} : w_sg mk e ≤ 8 := by
  unfold w_sg d_sb
  repeat' split
  all_goals omega
/-- a part's brackets: u tells whether it is the first -/
theorem k_nb {j j1 e e1 i : Nat} {c c1 : aB} (h : c_Vw tx n T tk S m I A) (hj : j < m) (hn : n_N S true j e c) (ht : e / 32 < 2 ^ 31) (hj1 : j1 < m) (hn1 : n_N S true j1 e1 c1) (ht1 : e1 / 32 < 2 ^ 31) (hu : (S 4 j = nI j1) ↔ i = 0) (hk : e % 32 ≠ 23 ∧ (e % 32 = 18 → i = 0) ∧ (e % 32 = 17 → i = 0)) (h37 : w_sg (d_mk T tk) e = 3 ∨ w_sg (d_mk T tk) e = 7 → i = 0) : am_Con 3 105 [.ref 27, .int (nI j), .int (nI j1)] (am_H g I A J X) (.inl (some (.int (am_b (w_in (d_mk T tk) e e1 i))))) (am_H g I A J X) 0 0 := by
  have l1 := w_sg_le (mk := d_mk T tk) (e := e)
  have l2 := w_sg_le (mk := d_mk T tk) (e := e1)
  have win : w_in (d_mk T tk) e e1 i = decide (¬ (w_sg (d_mk T tk) e1 = 8 ∨ w_sg (d_mk T tk) e < w_sg (d_mk T tk) e1) ∧ (w_sg (d_mk T tk) e1 < w_sg (d_mk T tk) e ∨ w_sg (d_mk T tk) e1 = 4 ∨ i ≠ 0)) := by
    unfold w_in
    refine decide_eq_decide.mpr ?_
    constructor
    · rintro ⟨q1, q2⟩
      exact ⟨fun z => q1 (by omega), by omega⟩
    · rintro ⟨q1, q2⟩
      exact ⟨fun z => q1 (by omega), fun z => by omega⟩
  refine am_met rfl rfl ?_
  refine am_cav 9 (by decide) rfl (k_sg h hj hn ht) (by decide) (by decide) (by decide) ?_
  refine am_cav 9 (by decide) rfl (k_sg h hj1 hn1 ht1) (by decide) (by decide) (by decide) ?_
  rw [win]
  generalize w_sg (d_mk T tk) e = s at *
  generalize w_sg (d_mk T tk) e1 = p at *
  by_cases p8 : p = 8
  · subst p8
    refine am_yea 9 (by decide) rfl rfl ?_
    exact am_end 9 (by decide) rfl (Or.inl rfl) (by decide) (by decide) ⟨by simp [am_b], rfl⟩
  refine am_nay 9 (by decide) rfl (nI_nv (b := 8) (by omega) (by decide) p8) ?_
  by_cases ps : s < p
  · refine am_nay 9 (by decide) rfl (nI_ge ps (by omega)) ?_
    exact am_end 9 (by decide) rfl (Or.inl rfl) (by decide) (by decide) ⟨by simp [am_b, ps], rfl⟩
  refine am_yea 9 (by decide) rfl (nI_le (by omega) (by omega)) ?_
  by_cases sp : p < s
  · refine am_yea 9 (by decide) rfl (nI_lt sp (by omega)) ?_
    exact am_end 9 (by decide) rfl (Or.inr rfl) (by decide) (by decide) ⟨by simp [am_b, p8, ps, sp], rfl⟩
  refine am_nay 9 (by decide) rfl (nI_nlt (by omega) (by omega)) ?_
  by_cases p4 : p = 4
  · subst p4
    refine am_nay 9 (by decide) rfl (by decide) ?_
    exact am_end 9 (by decide) rfl (Or.inr rfl) (by decide) (by decide) ⟨by simp [am_b, ps], rfl⟩
  refine am_yea 9 (by decide) rfl (nI_nv (b := 4) (by omega) (by decide) p4) ?_
  refine am_cav 9 (by decide) rfl (t_firstOf h hj) (by decide) (by decide) (by decide) ?_
  by_cases i0 : i = 0
  · refine am_yea 9 (by decide) rfl (hu.mpr i0) ?_
    exact am_end 9 (by decide) rfl (Or.inl rfl) (by decide) (by decide) ⟨by simp [am_b, p8, ps, sp, p4, i0], rfl⟩
  · refine am_nay 9 (by decide) rfl (fun z => i0 (hu.mp z)) ?_
    exact am_end 9 (by decide) rfl (Or.inr rfl) (by decide) (by decide) ⟨by simp [am_b, p8, ps, sp, p4, i0], rfl⟩
end CWE
