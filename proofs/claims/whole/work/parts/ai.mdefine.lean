/-! THE REFERENCE WRITES: the head of a definition -/
section MDH
variable {g : List aK} {X : Nat × (Nat → Int32)} {I A : Nat → Nat → Int32} {J : Nat → Nat → Int64} {L W : List Int32} {tx : Nat → Int32} {n T m : Nat} {tk : Nat → aT} {S : aN}
theorem b_sk3_len {mk : Nat → Int32} {F : aB} (h : b_sk mk T F 3) : 1 ≤ b_len F := by
  cases F with
  | leaf u => unfold b_sk at h; omega
  | branch e c s => simp [b_len]
theorem y_wd {j e a b : Nat} {c : aB} (hV : w_V tx n T tk) (hj : j < m) (hn : n_N S true j e c) (ht : e / 32 < T) (hk : e % 32 = 8) (hF : n_F S true c a b (S 4 j) j (S 5 j) (-1)) (hab : a ≤ b) (hb : b ≤ m) (hc : b_sk (d_mk T tk) T c 3) (h : m_Vw tx n T tk S m I A J) (hw : m_Wr L I A) (hl : L.length + (w_tt tx tk (e / 32)).length + (w_pm (w_tt tx tk) c true).length + 8 ≤ 3000) : m_M m_fw m_cx 5 183 [.ref 29, .int (nI j)] g I A J X (m_Wt ([100, 101, 102, 32] ++ (w_tt tx tk (e / 32) ++ (40 :: (w_pm (w_tt tx tk) c true ++ [41, 58, 10])))) L J) := by
  have hm := h.2.2.1
  have hlen := b_len_lt hab hF
  have ej : (nI j).toNatClampNeg = j := nI_clamp (by omega)
  have hin : ¬ (nI j < 0 ∨ 400 ≤ (nI j).toNatClampNeg) := nI_in (show j < 400 by omega) (by decide)
  have e39 : A 39 (nI j).toNatClampNeg = nI 8 := by rw [ej, ← hk]; exact (h.at (f := 0) (by decide)).trans hn.1
  have e40 : ∀ {I1 A1 : Nat → Nat → Int32}, m_Vw tx n T tk S m I1 A1 J → A1 40 (nI j).toNatClampNeg = nI (e / 32) := fun h1 => by rw [ej]; exact (h1.at (f := 1) (by decide)).trans (hn.2.1 (Or.inl rfl))
  have e41 : ∀ {I1 A1 : Nat → Nat → Int32}, m_Vw tx n T tk S m I1 A1 J → A1 41 (nI j).toNatClampNeg = nI (b_len c) := fun h1 => by rw [ej]; exact (h1.at (f := 3) (by decide)).trans hn.2.2.1
  have e42 : ∀ {I1 A1 : Nat → Nat → Int32}, m_Vw tx n T tk S m I1 A1 J → A1 42 (nI j).toNatClampNeg = S 4 j := fun h1 => by rw [ej]; exact h1.at (f := 4) (by decide)
  have eW : w_wd 0x646566 7 false = [100, 101, 102] := by decide +kernel
  have loop : ∀ (F : aB) (lo hi i : Nat) (x l : Int32) (L1 : List Int32) (I1 A1 : Nat → Nat → Int32), n_F S true F lo hi x j l (-1) → hi ≤ m → b_sk (d_mk T tk) T F 3 → i + b_len F = b_len c → m_Vw tx n T tk S m I1 A1 J → m_Wr L1 I1 A1 → L1.length + (w_pm (w_tt tx tk) F (decide (i = 0))).length + 3 ≤ 3000 → m_D m_fw m_cx 183 5 g X I1 A1 J (72, [(4, .int (nI i)), (3, .int x), (2, .int (nI 8)), (0, .ref 29), (1, .int (nI j))], [], am_H g I1 A1 J X) (m_Wt (w_pm (w_tt tx tk) F (decide (i = 0)) ++ [41, 58, 10]) L1 J) := by
    intro F
    induction F with
    | leaf u =>
      intro lo hi i x l L1 I1 A1 hF hhi hsk
      unfold b_sk at hsk
      omega
    | branch e1 c1 s1 ihc ihs =>
      intro lo hi i x l L1 I1 A1 hF hhi hsk hi' h1 hw1 hl1
      obtain ⟨j1, a1, b1, g1, g2, g3, g4, g5, g6, g7, g8, g9, g10, g11⟩ := hF
      subst g6
      simp only [b_len] at hi'
      have ej1 : (nI j1).toNatClampNeg = j1 := nI_clamp (by omega)
      have hin1 : ¬ (nI j1 < 0 ∨ 400 ≤ (nI j1).toNatClampNeg) := nI_in (show j1 < 400 by omega) (by decide)
      refine m_D.nee 9 (by decide) rfl hin ?_
      rw [e41 h1, nI_1]
      unfold b_sk at hsk
      rcases hsk with ⟨z1, z2, z3, z4⟩ | ⟨z1, z2, z3, z4, z5⟩
      · have hs1 := b_sk3_len z4
        simp only [w_pm, if_pos z1, List.length_append] at hl1
        refine m_D.nay 9 (by decide) rfl (nI_ge (by omega) (by omega)) ?_
        have rest : ∀ (L2 : List Int32) (I2 A2 : Nat → Nat → Int32), m_Vw tx n T tk S m I2 A2 J → m_Wr L2 I2 A2 → L2.length + (w_tt tx tk (e1 / 32)).length + (w_pm (w_tt tx tk) s1 false).length + 3 ≤ 3000 → m_D m_fw m_cx 183 5 g X I2 A2 J (107, [(4, .int (nI i)), (3, .int (nI j1)), (2, .int (nI 8)), (0, .ref 29), (1, .int (nI j))], [], am_H g I2 A2 J X) (m_Wt (w_tt tx tk (e1 / 32) ++ (w_pm (w_tt tx tk) s1 false ++ [41, 58, 10])) L2 J) := by
          intro L2 I2 A2 h2 hw2 hl2
          have e40' : A2 40 (nI j1).toNatClampNeg = nI (e1 / 32) := by rw [ej1]; exact (h2.at (f := 1) (by decide)).trans (g9.2.1 (Or.inl rfl))
          refine m_D.nee 9 (by decide) rfl hin1 ?_
          rw [e40']
          refine m_D.wr (n' := 9) (fun _ z => z) m_cwx (by decide) rfl (by decide) (y_pt h2 z2 (hV _ z2).1 hw2 (by omega)) (fun I3 A3 hw3 hf3 => ?_)
          have h3 := h2.fw hf3
          have e44 : A3 44 (nI j1).toNatClampNeg = S 6 j1 := by rw [ej1]; exact h3.at (f := 6) (by decide)
          refine m_D.nee 9 (by decide) rfl hin1 ?_
          rw [e44]
          refine m_D.pla 3 (by decide) rfl ?_
          rw [nI_1]
          have := ihs b1 hi (i + 1) (S 6 j1) l _ I3 A3 g11 hhi z4 (by omega) h3 hw3 (by rw [decide_eq_false (show ¬ i + 1 = 0 by omega)]; simp only [List.length_append]; omega)
          rw [decide_eq_false (show ¬ i + 1 = 0 by omega)] at this
          refine this.mono ?_
          rintro v I' A' J' ⟨q1, q2, q3⟩ -
          exact ⟨q1, q2, by simpa [List.append_assoc] using q3⟩
        simp only [w_pm, if_pos z1]
        by_cases i0 : i = 0
        · subst i0
          refine m_D.yea 9 (by decide) rfl (by decide) ?_
          refine m_D.yea 9 (by decide) rfl (by decide) ?_
          refine (rest L1 I1 A1 h1 hw1 (by simp at hl1; omega)).mono ?_
          rintro v I' A' J' ⟨q1, q2, q3⟩ -
          exact ⟨q1, q2, by simpa [List.append_assoc] using q3⟩
        · rw [decide_eq_false i0] at hl1 ⊢
          simp only [Bool.false_eq_true, if_false, List.length_cons, List.length_nil] at hl1
          refine m_D.nay 9 (by decide) rfl (nI_ge (a := 0) (by omega) (by omega)) ?_
          refine m_D.putg (n' := 9) (by decide) (by decide) (by decide) rfl hw1 (by omega) (fun I2 A2 hw2 hf2 => ?_)
          refine m_D.nay 9 (by decide) rfl (nI_ge (a := 0) (by omega) (by omega)) ?_
          refine m_D.putg (n' := 9) (by decide) (by decide) (by decide) rfl hw2 (by simp; omega) (fun I3 A3 hw3 hf3 => ?_)
          refine (rest _ I3 A3 ((h1.fw hf2).fw hf3) hw3 (by simp; omega)).mono ?_
          rintro v I' A' J' ⟨q1, q2, q3⟩ -
          exact ⟨q1, q2, by simpa [List.append_assoc] using q3⟩
      · subst z5
        simp only [b_len] at hi'
        have e1 : w_pm (w_tt tx tk) (.branch e1 c1 b_0) (decide (i = 0)) = [] := by
          simp only [w_pm]
          rw [if_neg (by omega)]
        rw [e1] at hl1 ⊢
        simp only [List.length_nil] at hl1
        refine m_D.yea 9 (by decide) rfl (nI_le (by omega) (by omega)) ?_
        refine m_D.putg (n' := 9) (by decide) (by decide) (by decide) rfl hw1 (by omega) (fun I2 A2 hw2 hf2 => ?_)
        refine m_D.pla 1 (by decide) rfl ?_
        refine m_D.putg (n' := 9) (by decide) (by decide) (by decide) rfl hw2 (by simp; omega) (fun I3 A3 hw3 hf3 => ?_)
        refine m_D.putg (n' := 9) (by decide) (by decide) (by decide) rfl hw3 (by simp; omega) (fun I4 A4 hw4 hf4 => ?_)
        exact m_D.ret 9 (by decide) rfl trivial m_Fr.refl ⟨rfl, rfl, by simpa [List.append_assoc] using hw4⟩
  refine m_D.met rfl rfl ?_
  refine m_D.nee 9 (by decide) rfl hin ?_
  rw [e39]
  refine m_D.nay 9 (by decide) rfl (by decide) ?_
  refine m_D.wr (n' := 9) (fun _ z => z) m_cwx (by decide) rfl (by decide) (y_pw (w := 0x646566) hw (by rw [eW]; simp; omega)) (fun I1 A1 hw1 hf1 => ?_)
  rw [eW] at hw1
  refine m_D.putg (n' := 9) (by decide) (by decide) (by decide) rfl hw1 (by simp; omega) (fun I2 A2 hw2 hf2 => ?_)
  have h2 := (h.fw hf1).fw hf2
  refine m_D.nay 9 (by decide) rfl (by decide) ?_
  refine m_D.nee 9 (by decide) rfl hin ?_
  rw [e40 h2]
  refine m_D.wr (n' := 9) (fun _ z => z) m_cwx (by decide) rfl (by decide) (y_pt h2 ht (hV _ ht).1 hw2 (by simp; omega)) (fun I3 A3 hw3 hf3 => ?_)
  refine m_D.putg (n' := 9) (by decide) (by decide) (by decide) rfl hw3 (by simp; omega) (fun I4 A4 hw4 hf4 => ?_)
  have h4 := (h2.fw hf3).fw hf4
  refine m_D.nee 9 (by decide) rfl hin ?_
  rw [e42 h4]
  refine m_D.pla 3 (by decide) rfl ?_
  refine (loop c a b 0 (S 4 j) (S 5 j) _ I4 A4 hF hb hc (by omega) h4 hw4 (by simp; omega)).mono ?_
  rintro v I' A' J' ⟨q1, q2, q3⟩ -
  exact ⟨q1, q2, by simpa [List.append_assoc] using q3⟩
end MDH
