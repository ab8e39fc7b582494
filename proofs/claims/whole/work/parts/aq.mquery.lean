/-! QUERIES: the reference; what has no refusal -/
theorem i2c_nar {x : Int32} (h : narrow .char (.int x) = .int x) : (x.toUInt32 % 65536).toInt32 = x := by
  have h1 : x.toUInt32.toUInt16.toUInt32.toInt32 = x := by
    have : Value.int (x.toUInt32.toUInt16.toUInt32).toInt32 = Value.int x := h
    injection this
  have h2 : x.toUInt32 % 65536 = x.toUInt32.toUInt16.toUInt32 := by
    apply UInt32.toNat_inj.mp
    rw [UInt16.toNat_toUInt32, UInt32.toNat_toUInt16, UInt32.toNat_mod]
    rfl
  rw [h2]
  exact h1
/-- the reference's tokens, for those who ask -/
def m_Tq (I A : Nat → Nat → Int32) (T : Nat) (tk : Nat → aT) : Prop := I 29 11 = nI T ∧ T ≤ 120 ∧ ∀ k, k < T → A 32 k = (tk k).1 ∧ A 33 k = nI (tk k).2.2.1 ∧ A 34 k = nI (tk k).2.2.2
section MQY
variable {g : List aK} {I A : Nat → Nat → Int32} {J : Nat → Nat → Int64} {X : Nat × (Nat → Int32)} {k x : Int32}
theorem y_tok {T : Nat} {tk : Nat → aT} (hT : m_Tq I A T tk) : (∀ j, j < T → k = nI j → ¬ x < 0 → ¬ 2 < x → am_Con 1 190 [.ref 29, .int k, .int x] (am_H g I A J X) (.inl (some (.int (q_tk tk j x)))) (am_H g (am_u I 29 0 0) A J X) 0 0) ∧ (¬ q_in k x T → am_Con 1 190 [.ref 29, .int k, .int x] (am_H g I A J X) (.inl (some (.int 0))) (am_H g (am_u I 29 0 1) A J X) 0 0) := by
  have h120 := hT.2.1
  have no : am_Tri 190 1 0 0 0 0 (25, [(0, .ref 29), (1, .int k), (2, .int x)], [], am_H g I A J X) (fun oo hh => oo = .inl (some (.int 0)) ∧ hh = am_H g (am_u I 29 0 1) A J X) := by
    refine am_yea 9 (by decide) rfl rfl ?_
    refine am_nay 9 (by decide) rfl (by decide) ?_
    exact am_end 9 (by decide) rfl trivial (by decide) (by decide) ⟨rfl, rfl⟩
  constructor
  · intro j hj e h0 h2
    subst e
    have ej : (nI j).toNatClampNeg = j := nI_clamp (by omega)
    have hin : ¬ (nI j < 0 ∨ 120 ≤ (nI j).toNatClampNeg) := nI_in (show j < 120 by omega) (by decide)
    refine am_met rfl rfl ?_
    refine am_nay 9 (by decide) rfl (nI_pos (by omega)) ?_
    refine am_nay 9 (by decide) rfl (by rw [hT.1]; exact nI_ge hj (by omega)) ?_
    refine am_nay 9 (by decide) rfl h0 ?_
    refine am_nay 9 (by decide) rfl h2 ?_
    refine am_nay 9 (by decide) rfl (by decide) ?_
    refine am_yea 9 (by decide) rfl (by decide) ?_
    rcases n2_of h0 h2 with z | z | z
    · subst z
      refine am_nay 9 (by decide) rfl (by decide) ?_
      refine am_nee 9 (by decide) rfl hin ?_
      exact am_end 9 (by decide) rfl trivial (by decide) (by decide) ⟨by rw [ej, (hT.2.2 j hj).1]; rfl, rfl⟩
    · subst z
      refine am_yea 9 (by decide) rfl (by decide) ?_
      refine am_nay 9 (by decide) rfl (by decide) ?_
      refine am_nee 9 (by decide) rfl hin ?_
      exact am_end 9 (by decide) rfl trivial (by decide) (by decide) ⟨by rw [ej, (hT.2.2 j hj).2.1]; rfl, rfl⟩
    · subst z
      refine am_yea 9 (by decide) rfl (by decide) ?_
      refine am_yea 9 (by decide) rfl (by decide) ?_
      refine am_nee 9 (by decide) rfl hin ?_
      exact am_end 9 (by decide) rfl trivial (by decide) (by decide) ⟨by rw [ej, (hT.2.2 j hj).2.2]; rfl, rfl⟩
  · intro hno
    refine am_met rfl rfl ?_
    by_cases c1 : k < 0
    · exact am_yea 9 (by decide) rfl c1 no
    refine am_nay 9 (by decide) rfl c1 ?_
    by_cases c2 : k < nI T
    · refine am_nay 9 (by decide) rfl (by rw [hT.1]; exact Int32.not_le.mpr c2) ?_
      by_cases c3 : x < 0
      · exact am_yea 9 (by decide) rfl c3 no
      refine am_nay 9 (by decide) rfl c3 ?_
      have c4 : 2 < x := Decidable.byContradiction (fun z => hno ⟨⟨c1, c2⟩, c3, z⟩)
      exact am_yea 9 (by decide) rfl c4 no
    · exact am_yea 9 (by decide) rfl (by rw [hT.1]; exact Int32.not_lt.mp c2) no
theorem y_nod {NL : List (Nat × Nat)} (hm : I 29 30 = nI NL.length) (h3 : NL.length ≤ 300) (hr : r_or (m_st A) (A 47) NL.length 0 NL) : (∀ j, j < NL.length → k = nI j → ¬ x < 0 → ¬ 2 < x → am_Con 1 192 [.ref 29, .int k, .int x] (am_H g I A J X) (.inl (some (.int (q_nd (NL.getD j (0, 0)) x)))) (am_H g (am_u I 29 0 0) A J X) 0 0) ∧ (¬ q_in k x NL.length → am_Con 1 192 [.ref 29, .int k, .int x] (am_H g I A J X) (.inl (some (.int 0))) (am_H g (am_u I 29 0 1) A J X) 0 0) := by
  have no : am_Tri 192 1 0 0 0 0 (25, [(0, .ref 29), (1, .int k), (2, .int x)], [], am_H g I A J X) (fun oo hh => oo = .inl (some (.int 0)) ∧ hh = am_H g (am_u I 29 0 1) A J X) := by
    refine am_yea 9 (by decide) rfl rfl ?_
    refine am_yea 9 (by decide) rfl (by decide) ?_
    refine am_nay 9 (by decide) rfl (by decide) ?_
    exact am_end 9 (by decide) rfl trivial (by decide) (by decide) ⟨rfl, rfl⟩
  constructor
  · intro j hj e h0 h2
    subst e
    obtain ⟨i, i1, i2, i3, i4, i5⟩ := hr.at hj
    rw [Nat.zero_add] at i2
    have ej : (nI j).toNatClampNeg = j := nI_clamp (by omega)
    have ei : (nI i).toNatClampNeg = i := nI_clamp (by omega)
    have hin : ¬ (nI j < 0 ∨ 400 ≤ (nI j).toNatClampNeg) := nI_in (show j < 400 by omega) (by decide)
    have hini : ¬ (nI i < 0 ∨ 400 ≤ (nI i).toNatClampNeg) := nI_in (show i < 400 by omega) (by decide)
    refine am_met rfl rfl ?_
    refine am_nay 9 (by decide) rfl (nI_pos (by omega)) ?_
    refine am_nay 9 (by decide) rfl (by rw [hm]; exact nI_ge hj (by omega)) ?_
    refine am_nay 9 (by decide) rfl h0 ?_
    refine am_nay 9 (by decide) rfl h2 ?_
    refine am_nay 9 (by decide) rfl (by decide) ?_
    refine am_nay 9 (by decide) rfl (by decide) ?_
    refine am_nee 9 (by decide) rfl hin ?_
    rw [ej, i2]
    refine am_yea 9 (by decide) rfl (by decide) ?_
    rcases n2_of h0 h2 with z | z | z
    · subst z
      refine am_nay 9 (by decide) rfl (by decide) ?_
      refine am_nee 9 (by decide) rfl hini ?_
      exact am_end 9 (by decide) rfl trivial (by decide) (by decide) ⟨by rw [ei, show A 39 i = nI _ from i3]; rfl, rfl⟩
    · subst z
      refine am_yea 9 (by decide) rfl (by decide) ?_
      refine am_nay 9 (by decide) rfl (by decide) ?_
      refine am_nee 9 (by decide) rfl hini ?_
      exact am_end 9 (by decide) rfl trivial (by decide) (by decide) ⟨by rw [ei, show A 40 i = nI _ from i4]; rfl, rfl⟩
    · subst z
      refine am_yea 9 (by decide) rfl (by decide) ?_
      refine am_yea 9 (by decide) rfl (by decide) ?_
      refine am_nee 9 (by decide) rfl hini ?_
      exact am_end 9 (by decide) rfl trivial (by decide) (by decide) ⟨by rw [ei, show A 41 i = nI _ from i5]; rfl, rfl⟩
  · intro hno
    refine am_met rfl rfl ?_
    by_cases c1 : k < 0
    · exact am_yea 9 (by decide) rfl c1 no
    refine am_nay 9 (by decide) rfl c1 ?_
    by_cases c2 : k < nI NL.length
    · refine am_nay 9 (by decide) rfl (by rw [hm]; exact Int32.not_le.mpr c2) ?_
      by_cases c3 : x < 0
      · exact am_yea 9 (by decide) rfl c3 no
      refine am_nay 9 (by decide) rfl c3 ?_
      have c4 : 2 < x := Decidable.byContradiction (fun z => hno ⟨⟨c1, c2⟩, c3, z⟩)
      exact am_yea 9 (by decide) rfl c4 no
    · exact am_yea 9 (by decide) rfl (by rw [hm]; exact Int32.not_lt.mp c2) no
theorem y_out {W : List Int32} (hw : m_Wr W I A) (hl : W.length ≤ 3000) (hn : ∀ c ∈ W, narrow .char (.int c) = .int c) : (∀ j, j < W.length → k = nI j → am_Con 1 194 [.ref 29, .int k] (am_H g I A J X) (.inl (some (.int (W.getD j 0)))) (am_H g (am_u I 29 0 0) A J X) 0 0) ∧ (¬ (¬ k < 0 ∧ k < nI W.length) → am_Con 1 194 [.ref 29, .int k] (am_H g I A J X) (.inl (some (.int 0))) (am_H g (am_u I 29 0 1) A J X) 0 0) := by
  have no : am_Tri 194 1 0 0 0 0 (16, [(0, .ref 29), (1, .int k)], [], am_H g I A J X) (fun oo hh => oo = .inl (some (.int 0)) ∧ hh = am_H g (am_u I 29 0 1) A J X) := by
    refine am_yea 9 (by decide) rfl rfl ?_
    refine am_yea 9 (by decide) rfl (by decide) ?_
    exact am_end 9 (by decide) rfl rfl (by decide) (by decide) ⟨rfl, rfl⟩
  constructor
  · intro j hj e
    subst e
    have ej : (nI j).toNatClampNeg = j := nI_clamp (by omega)
    have hmem : W.getD j 0 ∈ W := by
      rw [List.getD_eq_getElem?_getD, List.getElem?_eq_getElem hj]
      exact List.getElem_mem hj
    have e52 : A 52 (nI j).toNatClampNeg = W.getD j 0 := by rw [ej]; exact hw.2 j hj
    refine am_met rfl rfl ?_
    refine am_nay 9 (by decide) rfl (nI_pos (by omega)) ?_
    refine am_nay 9 (by decide) rfl (by rw [hw.1]; exact nI_ge hj (by omega)) ?_
    refine am_nay 9 (by decide) rfl (by decide) ?_
    refine am_nay 9 (by decide) rfl (by decide) ?_
    refine am_nee 9 (by decide) rfl (nI_in (show j < 3000 by omega) (by decide)) ?_
    rw [e52]
    refine am_end 9 (by decide) rfl ?_ (by decide) (by decide) ⟨?_, rfl⟩
    · rw [i2c_nar (hn _ hmem)]
      exact hn _ hmem
    · rw [i2c_nar (hn _ hmem)]
  · intro hno
    refine am_met rfl rfl ?_
    by_cases c1 : k < 0
    · exact am_yea 9 (by decide) rfl c1 no
    refine am_nay 9 (by decide) rfl c1 ?_
    have c2 : ¬ k < nI W.length := fun z => hno ⟨c1, z⟩
    exact am_yea 9 (by decide) rfl (by rw [hw.1]; exact Int32.not_lt.mp c2) no
theorem t_clear {n : Nat} (h : I 1 1 = nI n) : am_Con 1 109 [.ref 0] (am_H g I A J X) (.inl (some (.int (nI n)))) (am_H g (am_u I 1 1 0) A J X) 0 0 := by
  refine am_met rfl rfl ?_
  exact am_end 12 (by decide) rfl trivial (by decide) (by decide) ⟨by rw [h], rfl⟩
theorem y_clear {n : Nat} (h : I 29 2 = nI n) : am_Con 1 130 [.ref 29] (am_H g I A J X) (.inl (some (.int (nI n)))) (am_H g (am_u (am_u I 29 0 0) 29 2 0) A J X) 0 0 := by
  refine am_met rfl rfl ?_
  refine am_end 12 (by decide) rfl trivial (by decide) (by decide) ⟨?_, rfl⟩
  rw [am_un (by decide), h]
theorem t_why : am_Con 1 111 [.ref 0] (am_H g I A J X) (.inl (some (.int (I 3 0)))) (am_H g I A J X) 0 0 := by
  refine am_met rfl rfl ?_
  exact am_end 9 (by decide) rfl trivial (by decide) (by decide) ⟨rfl, rfl⟩
theorem t_where : am_Con 1 112 [.ref 0] (am_H g I A J X) (.inl (some (.int (I 3 1)))) (am_H g I A J X) 0 0 := by
  refine am_met rfl rfl ?_
  exact am_end 9 (by decide) rfl trivial (by decide) (by decide) ⟨rfl, rfl⟩
theorem t_nodes : am_Con 1 114 [.ref 0] (am_H g I A J X) (.inl (some (.int (I 9 9)))) (am_H g I A J X) 0 0 := by
  refine am_met rfl rfl ?_
  exact am_end 9 (by decide) rfl trivial (by decide) (by decide) ⟨rfl, rfl⟩
theorem t_length : am_Con 1 116 [.ref 0] (am_H g I A J X) (.inl (some (.int (I 27 4)))) (am_H g I A J X) 0 0 := by
  refine am_met rfl rfl ?_
  exact am_end 9 (by decide) rfl trivial (by decide) (by decide) ⟨rfl, rfl⟩
theorem y_thrown : am_Con 1 127 [.ref 29] (am_H g I A J X) (.inl (some (.int (I 29 0)))) (am_H g I A J X) 0 0 := by
  refine am_met rfl rfl ?_
  exact am_end 9 (by decide) rfl trivial (by decide) (by decide) ⟨rfl, rfl⟩
theorem y_why : am_Con 1 188 [.ref 29] (am_H g I A J X) (.inl (some (.int (I 29 3)))) (am_H g (am_u I 29 0 0) A J X) 0 0 := by
  refine am_met rfl rfl ?_
  exact am_end 9 (by decide) rfl trivial (by decide) (by decide) ⟨by rw [am_un (by decide)], rfl⟩
theorem y_where : am_Con 1 189 [.ref 29] (am_H g I A J X) (.inl (some (.int (I 29 4)))) (am_H g (am_u I 29 0 0) A J X) 0 0 := by
  refine am_met rfl rfl ?_
  exact am_end 9 (by decide) rfl trivial (by decide) (by decide) ⟨by rw [am_un (by decide)], rfl⟩
theorem y_nodes : am_Con 1 191 [.ref 29] (am_H g I A J X) (.inl (some (.int (I 29 30)))) (am_H g (am_u I 29 0 0) A J X) 0 0 := by
  refine am_met rfl rfl ?_
  exact am_end 9 (by decide) rfl trivial (by decide) (by decide) ⟨by rw [am_un (by decide)], rfl⟩
theorem y_length : am_Con 1 193 [.ref 29] (am_H g I A J X) (.inl (some (.int (I 29 39)))) (am_H g (am_u I 29 0 0) A J X) 0 0 := by
  refine am_met rfl rfl ?_
  exact am_end 9 (by decide) rfl trivial (by decide) (by decide) ⟨by rw [am_un (by decide)], rfl⟩
end MQY
