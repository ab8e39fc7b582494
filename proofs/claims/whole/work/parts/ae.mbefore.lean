/-! THE REFERENCE WRITES: brackets, what stands before a part, words -/
section MBF
variable {g : List aK} {X : Nat × (Nat → Int32)} {I A : Nat → Nat → Int32} {J : Nat → Nat → Int64} {L W : List Int32} {tx : Nat → Int32} {n T m : Nat} {tk : Nat → aT} {S : aN}
theorem y_in {j j1 e e1 i : Nat} {c c1 : aB} (h : m_Vw tx n T tk S m I A J) (hj : j < m) (hn : n_N S true j e c) (hs : b_sh (d_mk T tk) e c) (ht : e / 32 < T) (hj1 : j1 < m) (hn1 : n_N S true j1 e1 c1) (hs1 : b_sh (d_mk T tk) e1 c1) (ht1 : e1 / 32 < T) (hi : i < 400) : am_Con 2 178 [.ref 29, .int (nI j), .int (nI j1), .int (nI i)] (am_H g I A J X) (.inl (some (.int (am_b (w_in (d_mk T tk) e e1 i))))) (am_H g I A J X) 0 0 := by
  have hm := h.2.2.1
  have ej : (nI j).toNatClampNeg = j := nI_clamp (by omega)
  have hin : ¬ (nI j < 0 ∨ 400 ≤ (nI j).toNatClampNeg) := nI_in (show j < 400 by omega) (by decide)
  have e39 : A 39 (nI j).toNatClampNeg = nI (e % 32) := by rw [ej]; exact (h.at (f := 0) (by decide)).trans hn.1
  have l1 := w_sg_le (mk := d_mk T tk) (e := e)
  have l2 := w_sg_le (mk := d_mk T tk) (e := e1)
  have win : w_in (d_mk T tk) e e1 i = decide (¬ (e % 32 = 23 ∨ (e % 32 = 18 ∧ i = 1) ∨ (e % 32 = 17 ∧ 0 < i) ∨ w_sg (d_mk T tk) e1 = 8 ∨ w_sg (d_mk T tk) e < w_sg (d_mk T tk) e1) ∧ ¬ (w_sg (d_mk T tk) e1 = w_sg (d_mk T tk) e ∧ (w_sg (d_mk T tk) e = 3 ∨ w_sg (d_mk T tk) e = 7 ∨ (i = 0 ∧ w_sg (d_mk T tk) e ≠ 4)))) := rfl
  refine am_met rfl rfl ?_
  refine am_cav 9 (by decide) rfl (y_sg h hj hn hs ht) (by decide) (by decide) (by decide) ?_
  refine am_cav 9 (by decide) rfl (y_sg h hj1 hn1 hs1 ht1) (by decide) (by decide) (by decide) ?_
  rw [win]
  clear win
  generalize w_sg (d_mk T tk) e = s at *
  generalize w_sg (d_mk T tk) e1 = p at *
  have no : e % 32 = 23 ∨ (e % 32 = 18 ∧ i = 1) ∨ (e % 32 = 17 ∧ 0 < i) ∨ p = 8 ∨ s < p → am_Tri 178 2 0 0 0 0 (70, [(5, .int (nI p)), (4, .int (nI s)), (0, .ref 29), (1, .int (nI j)), (2, .int (nI j1)), (3, .int (nI i))], [], am_H g I A J X) (fun oo hh => oo = .inl (some (.int (am_b (decide (¬ (e % 32 = 23 ∨ (e % 32 = 18 ∧ i = 1) ∨ (e % 32 = 17 ∧ 0 < i) ∨ p = 8 ∨ s < p) ∧ ¬ (p = s ∧ (s = 3 ∨ s = 7 ∨ (i = 0 ∧ s ≠ 4)))))))) ∧ hh = am_H g I A J X) := fun z => by
    refine am_end 9 (by decide) rfl (Or.inl rfl) (by decide) (by decide) ⟨?_, rfl⟩
    rw [decide_eq_false (fun q => q.1 z)]
    rfl
  refine am_nee 9 (by decide) rfl hin ?_
  rw [e39]
  by_cases k23 : e % 32 = 23
  · refine am_yea 9 (by decide) rfl (by rw [k23]; rfl) ?_
    exact no (Or.inl k23)
  refine am_nay 9 (by decide) rfl (nI_nv (b := 23) (by omega) (by decide) k23) ?_
  refine am_nee 9 (by decide) rfl hin ?_
  rw [e39]
  have at41 : ¬ (e % 32 = 18 ∧ i = 1) → am_Tri 178 2 0 0 0 0 (41, [(5, .int (nI p)), (4, .int (nI s)), (0, .ref 29), (1, .int (nI j)), (2, .int (nI j1)), (3, .int (nI i))], [], am_H g I A J X) (fun oo hh => oo = .inl (some (.int (am_b (decide (¬ (e % 32 = 23 ∨ (e % 32 = 18 ∧ i = 1) ∨ (e % 32 = 17 ∧ 0 < i) ∨ p = 8 ∨ s < p) ∧ ¬ (p = s ∧ (s = 3 ∨ s = 7 ∨ (i = 0 ∧ s ≠ 4)))))))) ∧ hh = am_H g I A J X) := fun k18 => by
    have at56 : ¬ (e % 32 = 17 ∧ 0 < i) → am_Tri 178 2 0 0 0 0 (56, [(5, .int (nI p)), (4, .int (nI s)), (0, .ref 29), (1, .int (nI j)), (2, .int (nI j1)), (3, .int (nI i))], [], am_H g I A J X) (fun oo hh => oo = .inl (some (.int (am_b (decide (¬ (e % 32 = 23 ∨ (e % 32 = 18 ∧ i = 1) ∨ (e % 32 = 17 ∧ 0 < i) ∨ p = 8 ∨ s < p) ∧ ¬ (p = s ∧ (s = 3 ∨ s = 7 ∨ (i = 0 ∧ s ≠ 4)))))))) ∧ hh = am_H g I A J X) := fun k17 => by
      by_cases p8 : p = 8
      · refine am_yea 9 (by decide) rfl (by rw [p8]; rfl) ?_
        exact no (Or.inr (Or.inr (Or.inr (Or.inl p8))))
      refine am_nay 9 (by decide) rfl (nI_nv (b := 8) (by omega) (by decide) p8) ?_
      by_cases ps : s < p
      · refine am_nay 9 (by decide) rfl (nI_ge ps (by omega)) ?_
        exact no (Or.inr (Or.inr (Or.inr (Or.inr ps))))
      refine am_yea 9 (by decide) rfl (nI_le (by omega) (by omega)) ?_
      have hn0 : ¬ (e % 32 = 23 ∨ (e % 32 = 18 ∧ i = 1) ∨ (e % 32 = 17 ∧ 0 < i) ∨ p = 8 ∨ s < p) := by omega
      have yes : ¬ (p = s ∧ (s = 3 ∨ s = 7 ∨ (i = 0 ∧ s ≠ 4))) → am_Tri 178 2 0 0 0 0 (106, [(5, .int (nI p)), (4, .int (nI s)), (0, .ref 29), (1, .int (nI j)), (2, .int (nI j1)), (3, .int (nI i))], [], am_H g I A J X) (fun oo hh => oo = .inl (some (.int (am_b (decide (¬ (e % 32 = 23 ∨ (e % 32 = 18 ∧ i = 1) ∨ (e % 32 = 17 ∧ 0 < i) ∨ p = 8 ∨ s < p) ∧ ¬ (p = s ∧ (s = 3 ∨ s = 7 ∨ (i = 0 ∧ s ≠ 4)))))))) ∧ hh = am_H g I A J X) := fun z => by
        refine am_nay 9 (by decide) rfl (by decide) ?_
        refine am_end 9 (by decide) rfl (Or.inr rfl) (by decide) (by decide) ⟨?_, rfl⟩
        rw [decide_eq_true ⟨hn0, z⟩]
        rfl
      have alike : (p = s ∧ (s = 3 ∨ s = 7 ∨ (i = 0 ∧ s ≠ 4))) → am_Tri 178 2 0 0 0 0 (102, [(5, .int (nI p)), (4, .int (nI s)), (0, .ref 29), (1, .int (nI j)), (2, .int (nI j1)), (3, .int (nI i))], [], am_H g I A J X) (fun oo hh => oo = .inl (some (.int (am_b (decide (¬ (e % 32 = 23 ∨ (e % 32 = 18 ∧ i = 1) ∨ (e % 32 = 17 ∧ 0 < i) ∨ p = 8 ∨ s < p) ∧ ¬ (p = s ∧ (s = 3 ∨ s = 7 ∨ (i = 0 ∧ s ≠ 4)))))))) ∧ hh = am_H g I A J X) := fun z => by
        refine am_yea 9 (by decide) rfl (by decide) ?_
        refine am_end 9 (by decide) rfl (Or.inl rfl) (by decide) (by decide) ⟨?_, rfl⟩
        rw [decide_eq_false (fun q => q.2 z)]
        rfl
      by_cases pe : p = s
      · refine am_nay 9 (by decide) rfl (by rw [pe]; simp) ?_
        by_cases s3 : s = 3
        · refine am_yea 9 (by decide) rfl (by rw [s3]; rfl) ?_
          exact alike ⟨pe, Or.inl s3⟩
        refine am_nay 9 (by decide) rfl (nI_nv (b := 3) (by omega) (by decide) s3) ?_
        by_cases s7 : s = 7
        · refine am_yea 9 (by decide) rfl (by rw [s7]; rfl) ?_
          exact alike ⟨pe, Or.inr (Or.inl s7)⟩
        refine am_nay 9 (by decide) rfl (nI_nv (b := 7) (by omega) (by decide) s7) ?_
        by_cases i0 : i = 0
        · refine am_nay 9 (by decide) rfl (by rw [i0]; decide) ?_
          by_cases s4 : s = 4
          · refine am_yea 9 (by decide) rfl (by rw [s4]; rfl) ?_
            exact yes (by omega)
          · refine am_nay 9 (by decide) rfl (nI_nv (b := 4) (by omega) (by decide) s4) ?_
            exact alike ⟨pe, Or.inr (Or.inr ⟨i0, s4⟩)⟩
        · refine am_yea 9 (by decide) rfl (nI_nv (b := 0) (by omega) (by decide) i0) ?_
          exact yes (by omega)
      · refine am_yea 9 (by decide) rfl (nI_nv (by omega) (by omega) pe) ?_
        exact yes (by omega)
    refine am_nee 9 (by decide) rfl hin ?_
    rw [e39]
    by_cases k17 : e % 32 = 17
    · refine am_nay 9 (by decide) rfl (by rw [k17]; decide) ?_
      by_cases i0 : 0 < i
      · refine am_yea 9 (by decide) rfl (nI_lt (a := 0) i0 (by omega)) ?_
        exact no (Or.inr (Or.inr (Or.inl ⟨k17, i0⟩)))
      · refine am_nay 9 (by decide) rfl (by rw [show i = 0 by omega]; decide) ?_
        exact at56 (by omega)
    · refine am_yea 9 (by decide) rfl (nI_nv (b := 17) (by omega) (by decide) k17) ?_
      exact at56 (by omega)
  by_cases k18 : e % 32 = 18
  · refine am_nay 9 (by decide) rfl (by rw [k18]; decide) ?_
    by_cases i1 : i = 1
    · refine am_yea 9 (by decide) rfl (by rw [i1]; rfl) ?_
      exact no (Or.inr (Or.inl ⟨k18, i1⟩))
    · refine am_nay 9 (by decide) rfl (nI_nv (b := 1) (by omega) (by decide) i1) ?_
      exact at41 (by omega)
  · refine am_yea 9 (by decide) rfl (nI_nv (b := 18) (by omega) (by decide) k18) ?_
    exact at41 (by omega)
theorem w_bf_23 {wt : Nat → List Int32} {e n i : Nat} (h : e % 32 = 23) : w_bf wt e n i = (if i = 0 then [91] else []) ++ ((if 0 < i ∧ i ≠ n then [44, 32] else []) ++ (if i = n then [93] else [])) := by
  unfold w_bf
  rw [if_pos h]
theorem y_bf1 {j e i : Nat} {c : aB} {en : Int32} (hV : w_V tx n T tk) (h : m_Vw tx n T tk S m I A J) (hj : j < m) (hn : n_N S true j e c) (hs : b_sh (d_mk T tk) e c) (ht : e / 32 < T) (hi : i ≤ b_len c) (hlen : b_len c < 400) (hen : en = 0 ↔ i ≠ b_len c) (hw : m_Wr L I A) (hl : L.length + (w_bf (w_tt tx tk) e (b_len c) i).length ≤ 3000) : m_D m_fw m_cw 179 3 g X I A J (24, [(4, .int en), (3, .int (nI (e % 32))), (0, .ref 29), (1, .int (nI j)), (2, .int (nI i))], [], am_H g I A J X) (m_Wt (w_bf (w_tt tx tk) e (b_len c) i) L J) := by
  have hm := h.2.2.1
  have ej : (nI j).toNatClampNeg = j := nI_clamp (by omega)
  have hin : ¬ (nI j < 0 ∨ 400 ≤ (nI j).toNatClampNeg) := nI_in (show j < 400 by omega) (by decide)
  have e40 : ∀ {I1 A1 : Nat → Nat → Int32}, m_Vw tx n T tk S m I1 A1 J → A1 40 (nI j).toNatClampNeg = nI (e / 32) := fun h1 => by rw [ej]; exact (h1.at (f := 1) (by decide)).trans (hn.2.1 (Or.inl rfl))
  have hVe := (hV (e / 32) ht).1
  have fr : ∀ {I1 A1 : Nat → Nat → Int32}, m_Fr m_fw m_cw I A J I1 A1 J → m_Vw tx n T tk S m I1 A1 J := fun hf => h.frame (hf.mono (fun _ z => z) (fun x z => by simp [m_cw] at z; subst z; decide)) rfl
  by_cases k23 : e % 32 = 23
  · rw [w_bf_23 k23] at hl ⊢
    rw [k23]
    have a95 : ∀ (L2 : List Int32) (I2 A2 : Nat → Nat → Int32), m_Wr L2 I2 A2 → L2.length + (if i = b_len c then [(93 : Int32)] else []).length ≤ 3000 → m_D m_fw m_cw 179 3 g X I2 A2 J (95, [(5, .int 0), (4, .int en), (3, .int (nI 23)), (0, .ref 29), (1, .int (nI j)), (2, .int (nI i))], [], am_H g I2 A2 J X) (m_Wt (if i = b_len c then [93] else []) L2 J) := by
      intro L2 I2 A2 hw2 hl2
      by_cases hi' : i = b_len c
      · rw [if_pos hi'] at hl2 ⊢
        refine m_D.nay 9 (by decide) rfl (fun z => hen.mp z hi') ?_
        refine m_D.yea 9 (by decide) rfl (by decide) ?_
        refine m_D.put (n := 9) (by decide) rfl hw2 (by simp at hl2; omega) (fun I3 A3 hw3 hf3 => ?_)
        refine m_D.pla 1 (by decide) rfl ?_
        exact m_D.ret 9 (by decide) rfl trivial m_Fr.refl ⟨rfl, rfl, hw3⟩
      · rw [if_neg hi'] at hl2 ⊢
        refine m_D.yea 9 (by decide) rfl (hen.mpr hi') ?_
        refine m_D.pla 1 (by decide) rfl ?_
        exact m_D.ret 9 (by decide) rfl trivial m_Fr.refl ⟨rfl, rfl, by simpa using hw2⟩
    have a72 : ∀ (L2 : List Int32) (I2 A2 : Nat → Nat → Int32), m_Wr L2 I2 A2 → L2.length + ((if 0 < i ∧ i ≠ b_len c then [(44 : Int32), 32] else []) ++ (if i = b_len c then [(93 : Int32)] else [])).length ≤ 3000 → m_D m_fw m_cw 179 3 g X I2 A2 J (72, [(5, .int 0), (4, .int en), (3, .int (nI 23)), (0, .ref 29), (1, .int (nI j)), (2, .int (nI i))], [], am_H g I2 A2 J X) (m_Wt ((if 0 < i ∧ i ≠ b_len c then [44, 32] else []) ++ (if i = b_len c then [93] else [])) L2 J) := by
      intro L2 I2 A2 hw2 hl2
      by_cases i0 : 0 < i
      · refine m_D.nay 9 (by decide) rfl (nI_ge (a := 0) i0 (by omega)) ?_
        by_cases hi' : i = b_len c
        · rw [if_neg (show ¬ (0 < i ∧ i ≠ b_len c) by omega)] at hl2 ⊢
          refine m_D.yea 9 (by decide) rfl (fun z => hen.mp z hi') ?_
          exact a95 L2 I2 A2 hw2 (by simpa using hl2)
        · rw [if_pos (show 0 < i ∧ i ≠ b_len c from ⟨i0, hi'⟩)] at hl2 ⊢
          simp only [List.length_append, List.length_cons, List.length_nil] at hl2
          refine m_D.nay 9 (by decide) rfl (fun z => z (hen.mpr hi')) ?_
          refine m_D.put (n := 9) (by decide) rfl hw2 (by omega) (fun I3 A3 hw3 hf3 => ?_)
          refine m_D.put (n := 9) (by decide) rfl hw3 (by simp; omega) (fun I4 A4 hw4 hf4 => ?_)
          refine (a95 _ I4 A4 hw4 (by simp only [List.length_append, List.length_cons, List.length_nil]; omega)).mono ?_
          rintro v I' A' J' ⟨q1, q2, q3⟩ -
          exact ⟨q1, q2, by simpa [List.append_assoc] using q3⟩
      · rw [if_neg (show ¬ (0 < i ∧ i ≠ b_len c) by omega)] at hl2 ⊢
        refine m_D.yea 9 (by decide) rfl (nI_le (b := 0) (by omega) (by decide)) ?_
        exact a95 L2 I2 A2 hw2 (by simpa using hl2)
    refine m_D.yea 9 (by decide) rfl (by decide) ?_
    refine m_D.yea 9 (by decide) rfl (by decide) ?_
    refine m_D.pla 2 (by decide) rfl ?_
    by_cases iF : i = 0
    · rw [if_pos iF] at hl ⊢
      simp only [List.length_append, List.length_cons, List.length_nil] at hl
      refine m_D.nay 9 (by decide) rfl (by rw [iF]; decide) ?_
      refine m_D.yea 9 (by decide) rfl (by decide) ?_
      refine m_D.put (n := 9) (by decide) rfl hw (by omega) (fun I3 A3 hw3 hf3 => ?_)
      refine (a72 _ I3 A3 hw3 (by simp only [List.length_append, List.length_cons, List.length_nil]; omega)).mono ?_
      rintro v I' A' J' ⟨q1, q2, q3⟩ -
      exact ⟨q1, q2, by simpa [List.append_assoc] using q3⟩
    · rw [if_neg iF] at hl ⊢
      refine m_D.yea 9 (by decide) rfl (nI_nv (b := 0) (by omega) (by decide) iF) ?_
      exact a72 L I A hw (by simpa using hl)
  by_cases k17 : e % 32 = 17
  · rw [w_bf_17 k17] at hl ⊢
    rw [k17]
    have a95 : ∀ (L2 : List Int32) (I2 A2 : Nat → Nat → Int32), m_Wr L2 I2 A2 → L2.length + (if i = b_len c then [(41 : Int32)] else []).length ≤ 3000 → m_D m_fw m_cw 179 3 g X I2 A2 J (95, [(5, .int 1), (4, .int en), (3, .int (nI 17)), (0, .ref 29), (1, .int (nI j)), (2, .int (nI i))], [], am_H g I2 A2 J X) (m_Wt (if i = b_len c then [41] else []) L2 J) := by
      intro L2 I2 A2 hw2 hl2
      by_cases hi' : i = b_len c
      · rw [if_pos hi'] at hl2 ⊢
        refine m_D.nay 9 (by decide) rfl (fun z => hen.mp z hi') ?_
        refine m_D.nay 9 (by decide) rfl (by decide) ?_
        refine m_D.put (n := 9) (by decide) rfl hw2 (by simp at hl2; omega) (fun I3 A3 hw3 hf3 => ?_)
        refine m_D.pla 1 (by decide) rfl ?_
        exact m_D.ret 9 (by decide) rfl trivial m_Fr.refl ⟨rfl, rfl, hw3⟩
      · rw [if_neg hi'] at hl2 ⊢
        refine m_D.yea 9 (by decide) rfl (hen.mpr hi') ?_
        refine m_D.pla 1 (by decide) rfl ?_
        exact m_D.ret 9 (by decide) rfl trivial m_Fr.refl ⟨rfl, rfl, by simpa using hw2⟩
    have a72 : ∀ (L2 : List Int32) (I2 A2 : Nat → Nat → Int32), m_Wr L2 I2 A2 → L2.length + ((if 1 < i ∧ i ≠ b_len c then [(44 : Int32), 32] else []) ++ (if i = b_len c then [(41 : Int32)] else [])).length ≤ 3000 → m_D m_fw m_cw 179 3 g X I2 A2 J (72, [(5, .int 1), (4, .int en), (3, .int (nI 17)), (0, .ref 29), (1, .int (nI j)), (2, .int (nI i))], [], am_H g I2 A2 J X) (m_Wt ((if 1 < i ∧ i ≠ b_len c then [44, 32] else []) ++ (if i = b_len c then [41] else [])) L2 J) := by
      intro L2 I2 A2 hw2 hl2
      by_cases i0 : 1 < i
      · refine m_D.nay 9 (by decide) rfl (nI_ge (a := 1) i0 (by omega)) ?_
        by_cases hi' : i = b_len c
        · rw [if_neg (show ¬ (1 < i ∧ i ≠ b_len c) by omega)] at hl2 ⊢
          refine m_D.yea 9 (by decide) rfl (fun z => hen.mp z hi') ?_
          exact a95 L2 I2 A2 hw2 (by simpa using hl2)
        · rw [if_pos (show 1 < i ∧ i ≠ b_len c from ⟨i0, hi'⟩)] at hl2 ⊢
          simp only [List.length_append, List.length_cons, List.length_nil] at hl2
          refine m_D.nay 9 (by decide) rfl (fun z => z (hen.mpr hi')) ?_
          refine m_D.put (n := 9) (by decide) rfl hw2 (by omega) (fun I3 A3 hw3 hf3 => ?_)
          refine m_D.put (n := 9) (by decide) rfl hw3 (by simp; omega) (fun I4 A4 hw4 hf4 => ?_)
          refine (a95 _ I4 A4 hw4 (by simp only [List.length_append, List.length_cons, List.length_nil]; omega)).mono ?_
          rintro v I' A' J' ⟨q1, q2, q3⟩ -
          exact ⟨q1, q2, by simpa [List.append_assoc] using q3⟩
      · rw [if_neg (show ¬ (1 < i ∧ i ≠ b_len c) by omega)] at hl2 ⊢
        refine m_D.yea 9 (by decide) rfl (nI_le (b := 1) (by omega) (by decide)) ?_
        exact a95 L2 I2 A2 hw2 (by simpa using hl2)
    refine m_D.nay 9 (by decide) rfl (by decide) ?_
    refine m_D.nay 9 (by decide) rfl (by decide) ?_
    refine m_D.nay 9 (by decide) rfl (by decide) ?_
    refine m_D.pla 3 (by decide) rfl ?_
    by_cases iF : i = 1
    · rw [if_pos iF] at hl ⊢
      simp only [List.length_append, List.length_cons, List.length_nil] at hl
      refine m_D.nay 9 (by decide) rfl (by rw [iF]; decide) ?_
      refine m_D.nay 9 (by decide) rfl (by decide) ?_
      refine m_D.put (n := 9) (by decide) rfl hw (by omega) (fun I3 A3 hw3 hf3 => ?_)
      refine (a72 _ I3 A3 hw3 (by simp only [List.length_append, List.length_cons, List.length_nil]; omega)).mono ?_
      rintro v I' A' J' ⟨q1, q2, q3⟩ -
      exact ⟨q1, q2, by simpa [List.append_assoc] using q3⟩
    · rw [if_neg iF] at hl ⊢
      refine m_D.yea 9 (by decide) rfl (nI_nv (b := 1) (by omega) (by decide) iF) ?_
      exact a72 L I A hw (by simpa using hl)
  have pt : ∀ {I1 A1 : Nat → Nat → Int32} {L1 : List Int32}, m_Fr m_fw m_cw I A J I1 A1 J → m_Wr L1 I1 A1 → L1.length + (w_tt tx tk (e / 32)).length ≤ 3000 → m_M m_fw m_cw 2 176 [.ref 29, .int (nI (e / 32))] g I1 A1 J X (m_Wt (w_tt tx tk (e / 32)) L1 J) := fun hf hw1 hl1 => y_pt (fr hf) ht hVe hw1 hl1
  refine m_D.nay 9 (by decide) rfl (nI_nv (b := 23) (by omega) (by decide) k23) ?_
  refine m_D.yea 9 (by decide) rfl (nI_nv (b := 17) (by omega) (by decide) k17) ?_
  by_cases k18 : e % 32 = 18
  · rw [w_bf_18 k18] at hl ⊢
    rw [k18]
    refine m_D.nay 9 (by decide) rfl (by decide) ?_
    by_cases i0 : 0 < i
    · rw [if_pos i0] at hl ⊢
      refine m_D.nay 9 (by decide) rfl (nI_ge (a := 0) i0 (by omega)) ?_
      by_cases hi' : i = b_len c
      · rw [if_pos hi'] at hl ⊢
        refine m_D.nay 9 (by decide) rfl (fun z => hen.mp z hi') ?_
        refine m_D.put (n := 9) (by decide) rfl hw (by simp at hl; omega) (fun I3 A3 hw3 hf3 => ?_)
        refine m_D.pla 1 (by decide) rfl ?_
        exact m_D.ret 9 (by decide) rfl trivial m_Fr.refl ⟨rfl, rfl, hw3⟩
      · rw [if_neg hi'] at hl ⊢
        refine m_D.yea 9 (by decide) rfl (hen.mpr hi') ?_
        refine m_D.put (n := 9) (by decide) rfl hw (by simp at hl; omega) (fun I3 A3 hw3 hf3 => ?_)
        refine m_D.pla 1 (by decide) rfl ?_
        exact m_D.ret 9 (by decide) rfl trivial m_Fr.refl ⟨rfl, rfl, hw3⟩
    · rw [if_neg i0] at hl ⊢
      refine m_D.yea 9 (by decide) rfl (nI_le (b := 0) (by omega) (by decide)) ?_
      exact m_D.ret 9 (by decide) rfl trivial m_Fr.refl ⟨rfl, rfl, by simpa using hw⟩
  refine m_D.yea 9 (by decide) rfl (nI_nv (b := 18) (by omega) (by decide) k18) ?_
  by_cases k19 : e % 32 = 19
  · rw [w_bf_19 k19] at hl ⊢
    rw [k19]
    refine m_D.nay 9 (by decide) rfl (by decide) ?_
    by_cases hi' : i = b_len c
    · rw [if_pos hi'] at hl ⊢
      simp only [List.length_cons] at hl
      refine m_D.nay 9 (by decide) rfl (fun z => hen.mp z hi') ?_
      refine m_D.put (n := 9) (by decide) rfl hw (by omega) (fun I3 A3 hw3 hf3 => ?_)
      refine m_D.nay 9 (by decide) rfl (fun z => hen.mp z hi') ?_
      refine m_D.nee 9 (by decide) rfl hin ?_
      rw [e40 (fr hf3)]
      refine m_D.wr (n' := 9) (fun _ z => z) (fun _ z => z) (by decide) rfl (by decide) (pt hf3 hw3 (by simp; omega)) (fun I4 A4 hw4 hf4 => ?_)
      refine m_D.pla 1 (by decide) rfl ?_
      exact m_D.ret 9 (by decide) rfl trivial m_Fr.refl ⟨rfl, rfl, by simpa using hw4⟩
    · rw [if_neg hi'] at hl ⊢
      refine m_D.yea 9 (by decide) rfl (hen.mpr hi') ?_
      refine m_D.yea 9 (by decide) rfl (hen.mpr hi') ?_
      exact m_D.ret 9 (by decide) rfl trivial m_Fr.refl ⟨rfl, rfl, by simpa using hw⟩
  refine m_D.yea 9 (by decide) rfl (nI_nv (b := 19) (by omega) (by decide) k19) ?_
  by_cases k13 : e % 32 = 13
  · rw [w_bf_13 k13] at hl ⊢
    rw [k13]
    refine m_D.yea 9 (by decide) rfl (by decide) ?_
    by_cases hi' : i = b_len c
    · rw [if_neg (show ¬ i ≠ b_len c by omega)] at hl ⊢
      refine m_D.yea 9 (by decide) rfl (fun z => hen.mp z hi') ?_
      refine m_D.yea 9 (by decide) rfl (fun z => hen.mp z hi') ?_
      exact m_D.ret 9 (by decide) rfl trivial m_Fr.refl ⟨rfl, rfl, by simpa using hw⟩
    · rw [if_pos hi'] at hl ⊢
      simp only [List.length_append, List.length_cons, List.length_nil] at hl
      refine m_D.nay 9 (by decide) rfl (fun z => z (hen.mpr hi')) ?_
      refine m_D.nee 9 (by decide) rfl hin ?_
      rw [e40 h]
      refine m_D.wr (n' := 9) (fun _ z => z) (fun _ z => z) (by decide) rfl (by decide) (pt m_Fr.refl hw (by omega)) (fun I4 A4 hw4 hf4 => ?_)
      refine m_D.nay 9 (by decide) rfl (fun z => z (hen.mpr hi')) ?_
      refine m_D.nay 9 (by decide) rfl (by decide) ?_
      refine m_D.put (n := 9) (by decide) rfl hw4 (by simp; omega) (fun I5 A5 hw5 hf5 => ?_)
      refine m_D.pla 1 (by decide) rfl ?_
      exact m_D.ret 9 (by decide) rfl trivial m_Fr.refl ⟨rfl, rfl, by simpa [List.append_assoc] using hw5⟩
  refine m_D.nay 9 (by decide) rfl (nI_nv (b := 13) (by omega) (by decide) k13) ?_
  by_cases k16 : e % 32 = 16
  · rw [w_bf_16 k16] at hl ⊢
    rw [k16]
    refine m_D.nay 9 (by decide) rfl (by decide) ?_
    by_cases hi' : i = b_len c
    · rw [if_neg (show ¬ i ≠ b_len c by omega)] at hl ⊢
      refine m_D.yea 9 (by decide) rfl (fun z => hen.mp z hi') ?_
      refine m_D.yea 9 (by decide) rfl (fun z => hen.mp z hi') ?_
      exact m_D.ret 9 (by decide) rfl trivial m_Fr.refl ⟨rfl, rfl, by simpa using hw⟩
    · rw [if_pos hi'] at hl ⊢
      refine m_D.nay 9 (by decide) rfl (fun z => z (hen.mpr hi')) ?_
      refine m_D.nee 9 (by decide) rfl hin ?_
      rw [e40 h]
      refine m_D.wr (n' := 9) (fun _ z => z) (fun _ z => z) (by decide) rfl (by decide) (pt m_Fr.refl hw (by omega)) (fun I4 A4 hw4 hf4 => ?_)
      refine m_D.nay 9 (by decide) rfl (fun z => z (hen.mpr hi')) ?_
      refine m_D.yea 9 (by decide) rfl (by decide) ?_
      exact m_D.ret 9 (by decide) rfl trivial m_Fr.refl ⟨rfl, rfl, hw4⟩
  refine m_D.yea 9 (by decide) rfl (nI_nv (b := 16) (by omega) (by decide) k16) ?_
  have hge := hs.ge
  by_cases k20 : 19 < e % 32
  · have z1 : e % 32 = 20 ∨ e % 32 = 21 ∨ e % 32 = 22 := by
      unfold b_sh at hs
      omega
    rw [w_bf_20 z1] at hl ⊢
    refine m_D.nay 9 (by decide) rfl (nI_ge (a := 19) k20 (by omega)) ?_
    refine m_D.nee 9 (by decide) rfl hin ?_
    rw [e40 h]
    refine m_D.wr (n' := 9) (fun _ z => z) (fun _ z => z) (by decide) rfl (by decide) (pt m_Fr.refl hw (by omega)) (fun I4 A4 hw4 hf4 => ?_)
    refine m_D.pla 1 (by decide) rfl ?_
    exact m_D.ret 9 (by decide) rfl trivial m_Fr.refl ⟨rfl, rfl, hw4⟩
  · rw [w_bf_2 (show e % 32 = 11 ∨ e % 32 = 12 ∨ e % 32 = 14 ∨ e % 32 = 15 by omega)] at hl ⊢
    refine m_D.yea 9 (by decide) rfl (nI_le (b := 19) (by omega) (by decide)) ?_
    by_cases i1 : i = 1
    · rw [if_pos i1] at hl ⊢
      simp only [List.length_append, List.length_cons, List.length_nil] at hl
      refine m_D.nay 9 (by decide) rfl (by rw [i1]; decide) ?_
      refine m_D.put (n := 9) (by decide) rfl hw (by omega) (fun I3 A3 hw3 hf3 => ?_)
      refine m_D.nee 9 (by decide) rfl hin ?_
      rw [e40 (fr hf3)]
      refine m_D.wr (n' := 9) (fun _ z => z) (fun _ z => z) (by decide) rfl (by decide) (pt hf3 hw3 (by simp; omega)) (fun I4 A4 hw4 hf4 => ?_)
      refine m_D.put (n := 9) (by decide) rfl hw4 (by simp; omega) (fun I5 A5 hw5 hf5 => ?_)
      exact m_D.ret 9 (by decide) rfl trivial m_Fr.refl ⟨rfl, rfl, by simpa [List.append_assoc] using hw5⟩
    · rw [if_neg i1] at hl ⊢
      refine m_D.yea 9 (by decide) rfl (nI_nv (b := 1) (by omega) (by decide) i1) ?_
      exact m_D.ret 9 (by decide) rfl trivial m_Fr.refl ⟨rfl, rfl, by simpa using hw⟩
theorem y_bef {j e i : Nat} {c : aB} (hV : w_V tx n T tk) (h : m_Vw tx n T tk S m I A J) (hj : j < m) (hn : n_N S true j e c) (hs : b_sh (d_mk T tk) e c) (ht : e / 32 < T) (hi : i ≤ b_len c) (hlen : b_len c < 400) (hw : m_Wr L I A) (hl : L.length + (w_bf (w_tt tx tk) e (b_len c) i).length ≤ 3000) : m_M m_fw m_cw 3 179 [.ref 29, .int (nI j), .int (nI i)] g I A J X (m_Wt (w_bf (w_tt tx tk) e (b_len c) i) L J) := by
  have hm := h.2.2.1
  have ej : (nI j).toNatClampNeg = j := nI_clamp (by omega)
  have hin : ¬ (nI j < 0 ∨ 400 ≤ (nI j).toNatClampNeg) := nI_in (show j < 400 by omega) (by decide)
  have e39 : A 39 (nI j).toNatClampNeg = nI (e % 32) := by rw [ej]; exact (h.at (f := 0) (by decide)).trans hn.1
  have e41 : A 41 (nI j).toNatClampNeg = nI (b_len c) := by rw [ej]; exact (h.at (f := 3) (by decide)).trans hn.2.2.1
  refine m_D.met rfl rfl ?_
  refine m_D.nee 9 (by decide) rfl hin ?_
  rw [e39]
  refine m_D.nee 9 (by decide) rfl hin ?_
  rw [e41]
  by_cases hi' : i = b_len c
  · refine m_D.nay 9 (by decide) rfl (by rw [hi']; simp) ?_
    refine m_D.pla 3 (by decide) rfl ?_
    exact y_bf1 hV h hj hn hs ht hi hlen ⟨fun z => absurd z (by decide), fun z => absurd hi' z⟩ hw hl
  · refine m_D.yea 9 (by decide) rfl (nI_nv (by omega) (by omega) hi') ?_
    refine m_D.pla 2 (by decide) rfl ?_
    exact y_bf1 hV h hj hn hs ht hi hlen ⟨fun _ => hi', fun _ => rfl⟩ hw hl
end MBF
