/-! THE REFERENCE WRITES: heads, small statements -/
/-- a definition's parameters: u tells whether it is at their begin -/
def w_pm (wt : Nat → List Int32) : aB → Bool → List Int32
  | .leaf _, _ => []
  | .branch e _ s, u => if e % 32 = 24 then (if u then [] else [44, 32]) ++ (wt (e / 32) ++ w_pm wt s false) else []
section MHD
variable {g : List aK} {X : Nat × (Nat → Int32)} {I A : Nat → Nat → Int32} {J : Nat → Nat → Int64} {L W : List Int32} {tx : Nat → Int32} {n T m : Nat} {tk : Nat → aT} {S : aN}
theorem m_cwx : ∀ x ∈ m_cw, x ∈ m_cx := fun x z => by simp [m_cw] at z; subst z; decide
theorem m_Vw.fw {I' A' : Nat → Nat → Int32} (h : m_Vw tx n T tk S m I A J) (hf : m_Fr m_fw m_cw I A J I' A' J) : m_Vw tx n T tk S m I' A' J := h.frame (hf.mono (fun _ z => z) m_cwx) rfl
theorem y_cpd {j e : Nat} {c : aB} (h : m_Vw tx n T tk S m I A J) (hj : j < m) (hn : n_N S true j e c) : am_Con 1 185 [.ref 29, .int (nI j)] (am_H g I A J X) (.inl (some (.int (am_b (decide (6 ≤ e % 32 ∧ e % 32 ≤ 8)))))) (am_H g I A J X) 0 0 := by
  have hm := h.2.2.1
  have ej : (nI j).toNatClampNeg = j := nI_clamp (by omega)
  have hin : ¬ (nI j < 0 ∨ 400 ≤ (nI j).toNatClampNeg) := nI_in (show j < 400 by omega) (by decide)
  have e39 : A 39 (nI j).toNatClampNeg = nI (e % 32) := by rw [ej]; exact (h.at (f := 0) (by decide)).trans hn.1
  refine am_met rfl rfl ?_
  refine am_nee 9 (by decide) rfl hin ?_
  rw [e39]
  by_cases c6 : 6 ≤ e % 32
  · refine am_nay 9 (by decide) rfl (nI_nlt (b := 6) c6 (by omega)) ?_
    refine am_nee 9 (by decide) rfl hin ?_
    rw [e39]
    by_cases c8 : e % 32 ≤ 8
    · refine am_nay 9 (by decide) rfl (nI_nlt (a := 8) c8 (by decide)) ?_
      exact am_end 9 (by decide) rfl (Or.inr rfl) (by decide) (by decide) ⟨by simp [am_b, c6, c8], rfl⟩
    · refine am_yea 9 (by decide) rfl (nI_lt (a := 8) (by omega) (by omega)) ?_
      exact am_end 9 (by decide) rfl (Or.inl rfl) (by decide) (by decide) ⟨by simp [am_b, c8], rfl⟩
  · refine am_yea 9 (by decide) rfl (nI_lt (b := 6) (by omega) (by decide)) ?_
    exact am_end 9 (by decide) rfl (Or.inl rfl) (by decide) (by decide) ⟨by simp [am_b, c6], rfl⟩
theorem y_sml {j e a b : Nat} {c : aB} (hV : w_V tx n T tk) (hj : j < m) (hn : n_N S true j e c) (ht : e / 32 < T) (hF : n_F S true c a b (S 4 j) j (S 5 j) (-1)) (hab : a ≤ b) (hb : b ≤ m) (hk : 1 ≤ e % 32 ∧ e % 32 < 6) (hc : (c = b_0 ∧ e % 32 ≠ 4 ∧ e % 32 ≠ 5) ∨ (b_x (d_mk T tk) T c ∧ 3 ≤ e % 32)) (h : m_Vw tx n T tk S m I A J) (hw : m_Wr L I A) (hl : L.length + (w_sm (d_mk T tk) (w_tt tx tk) e c).length ≤ 3000) : m_M m_fw m_cx 5 184 [.ref 29, .int (nI j)] g I A J X (m_Wt (w_sm (d_mk T tk) (w_tt tx tk) e c) L J) := by
  have hm := h.2.2.1
  have hlen := b_len_lt hab hF
  have ej : (nI j).toNatClampNeg = j := nI_clamp (by omega)
  have hin : ¬ (nI j < 0 ∨ 400 ≤ (nI j).toNatClampNeg) := nI_in (show j < 400 by omega) (by decide)
  have e39 : A 39 (nI j).toNatClampNeg = nI (e % 32) := by rw [ej]; exact (h.at (f := 0) (by decide)).trans hn.1
  have e40 : ∀ {I1 A1 : Nat → Nat → Int32}, m_Vw tx n T tk S m I1 A1 J → A1 40 (nI j).toNatClampNeg = nI (e / 32) := fun h1 => by rw [ej]; exact (h1.at (f := 1) (by decide)).trans (hn.2.1 (Or.inl rfl))
  have e41 : ∀ {I1 A1 : Nat → Nat → Int32}, m_Vw tx n T tk S m I1 A1 J → A1 41 (nI j).toNatClampNeg = nI (b_len c) := fun h1 => by rw [ej]; exact (h1.at (f := 3) (by decide)).trans hn.2.2.1
  have e42 : ∀ {I1 A1 : Nat → Nat → Int32}, m_Vw tx n T tk S m I1 A1 J → A1 42 (nI j).toNatClampNeg = S 4 j := fun h1 => by rw [ej]; exact h1.at (f := 4) (by decide)
  -- from the expression on
  have tail : ∀ (L2 : List Int32) (I2 A2 : Nat → Nat → Int32), m_Vw tx n T tk S m I2 A2 J → m_Wr L2 I2 A2 → L2.length + (w_x (d_mk T tk) (w_tt tx tk) c).length + 1 ≤ 3000 → m_D m_fw m_cx 184 5 g X I2 A2 J (73, [(2, .int (nI (e % 32))), (0, .ref 29), (1, .int (nI j))], [], am_H g I2 A2 J X) (m_Wt (w_x (d_mk T tk) (w_tt tx tk) c ++ [10]) L2 J) := by
    intro L2 I2 A2 h2 hw2 hl2
    refine m_D.nee 9 (by decide) rfl hin ?_
    rw [e41 h2]
    rcases hc with ⟨rfl, -⟩ | ⟨⟨e1, c1, rfl, q1, q2, q3, q4⟩, -⟩
    · refine m_D.yea 9 (by decide) rfl (by decide) ?_
      refine m_D.putg (n' := 9) (by decide) (by decide) (by decide) rfl hw2 (by omega) (fun I3 A3 hw3 hf3 => ?_)
      exact m_D.ret 9 (by decide) rfl trivial m_Fr.refl ⟨rfl, rfl, by simpa [w_x] using hw3⟩
    · obtain ⟨j1, a1, b1, g1, g2, g3, g4, g5, g6, g7, g8, g9, g10, g11⟩ := hF
      simp only [w_x] at hl2 ⊢
      refine m_D.nay 9 (by decide) rfl (nI_ge (a := 0) (by simp [b_len]) (by omega)) ?_
      refine m_D.nee 9 (by decide) rfl hin ?_
      rw [e42 h2, g6]
      refine m_D.wr (n' := 9) (fun _ z => z) (fun _ z => z) (by decide) rfl (by decide) (y_pex hV q1 q2 (show j1 < m by omega) g9 q3 (by omega) g10 (by omega) (by omega) h2 hw2 (by omega)) (fun I3 A3 hw3 hf3 => ?_)
      refine m_D.putg (n' := 9) (by decide) (by decide) (by decide) rfl hw3 (by simp; omega) (fun I4 A4 hw4 hf4 => ?_)
      exact m_D.ret 9 (by decide) rfl trivial m_Fr.refl ⟨rfl, rfl, by simpa [List.append_assoc] using hw4⟩
  unfold w_sm at hl ⊢
  refine m_D.met rfl rfl ?_
  refine m_D.nee 9 (by decide) rfl hin ?_
  rw [e39]
  by_cases k4 : e % 32 = 4
  · rw [if_neg (show ¬ e % 32 = 5 by omega), if_pos k4, if_neg (show ¬ (e % 32 = 3 ∧ b_len c ≠ 0) by omega)] at hl ⊢
    simp only [List.length_append, List.length_cons, List.length_nil] at hl
    refine m_D.nay 9 (by decide) rfl (by rw [k4]; decide) ?_
    refine m_D.nee 9 (by decide) rfl hin ?_
    rw [e40 h]
    refine m_D.wr (n' := 9) (fun _ z => z) m_cwx (by decide) rfl (by decide) (y_pt h ht (hV _ ht).1 hw (by omega)) (fun I1 A1 hw1 hf1 => ?_)
    refine m_D.putg (n' := 9) (by decide) (by decide) (by decide) rfl hw1 (by simp; omega) (fun I2 A2 hw2 hf2 => ?_)
    refine m_D.putg (n' := 9) (by decide) (by decide) (by decide) rfl hw2 (by simp; omega) (fun I3 A3 hw3 hf3 => ?_)
    refine m_D.putg (n' := 9) (by decide) (by decide) (by decide) rfl hw3 (by simp; omega) (fun I4 A4 hw4 hf4 => ?_)
    refine m_D.pla 1 (by decide) rfl ?_
    refine (tail _ I4 A4 ((((h.fw hf1).fw hf2).fw hf3).fw hf4) hw4 (by simp; omega)).mono ?_
    rintro v I' A' J' ⟨q1, q2, q3⟩ -
    exact ⟨q1, q2, by simpa [List.append_assoc] using q3⟩
  refine m_D.yea 9 (by decide) rfl (nI_nv (b := 4) (by omega) (by decide) k4) ?_
  by_cases k5 : e % 32 = 5
  · rw [if_pos k5, if_neg k4, if_neg (show ¬ (e % 32 = 3 ∧ b_len c ≠ 0) by omega)] at hl ⊢
    refine m_D.yea 9 (by decide) rfl (by rw [k5]; decide) ?_
    exact tail L I A h hw (by simp at hl; omega)
  · rw [if_neg k5, if_neg k4] at hl ⊢
    refine m_D.nay 9 (by decide) rfl (nI_nv (b := 5) (by omega) (by decide) k5) ?_
    refine m_D.nee 9 (by decide) rfl hin ?_
    rw [e40 h]
    refine m_D.wr (n' := 9) (fun _ z => z) m_cwx (by decide) rfl (by decide) (y_pt h ht (hV _ ht).1 hw (by simp at hl; omega)) (fun I1 A1 hw1 hf1 => ?_)
    refine m_D.nee 9 (by decide) rfl hin ?_
    rw [e41 (h.fw hf1)]
    by_cases hx0 : b_len c = 0
    · rw [if_neg (show ¬ (e % 32 = 3 ∧ b_len c ≠ 0) by omega)] at hl ⊢
      refine m_D.yea 9 (by decide) rfl (by rw [hx0]; decide) ?_
      refine (tail _ I1 A1 (h.fw hf1) hw1 (by simp at hl ⊢; omega)).mono ?_
      rintro v I' A' J' ⟨q1, q2, q3⟩ -
      exact ⟨q1, q2, by simpa [List.append_assoc] using q3⟩
    · have k3 : e % 32 = 3 := by
        rcases hc with ⟨rfl, -⟩ | ⟨-, q⟩
        · exact absurd rfl hx0
        · omega
      rw [if_pos ⟨k3, hx0⟩] at hl ⊢
      refine m_D.nay 9 (by decide) rfl (nI_ge (a := 0) (by omega) (by omega)) ?_
      refine m_D.putg (n' := 9) (by decide) (by decide) (by decide) rfl hw1 (by simp at hl ⊢; omega) (fun I2 A2 hw2 hf2 => ?_)
      refine (tail _ I2 A2 ((h.fw hf1).fw hf2) hw2 (by simp at hl ⊢; omega)).mono ?_
      rintro v I' A' J' ⟨q1, q2, q3⟩ -
      exact ⟨q1, q2, by simpa [List.append_assoc] using q3⟩
/-- the head of IF, ELIF, WHILE -/
theorem y_wh {j j1 e e1 a1 b1 : Nat} {c c1 : aB} (hV : w_V tx n T tk) (hU : w_U tx T tk) (hj : j < m) (hn : n_N S true j e c) (ht : e / 32 < T) (hk : (e % 32 = 6 ∧ (d_mk T tk (e / 32) = 11 ∨ d_mk T tk (e / 32) = 12)) ∨ (e % 32 = 7 ∧ d_mk T tk (e / 32) = 14)) (h4 : S 4 j = nI j1) (hj1 : j1 < m) (hn1 : n_N S true j1 e1 c1) (hF1 : n_F S true c1 a1 b1 (S 4 j1) j1 (S 5 j1) (-1)) (hab : a1 ≤ b1) (hb1 : b1 ≤ m) (hsh : b_sh (d_mk T tk) e1 c1) (ht1 : e1 / 32 < T) (hok : b_ok (d_mk T tk) T c1) (hht : b_ht c1 + 1 ≤ 10) (h : m_Vw tx n T tk S m I A J) (hw : m_Wr L I A) (hl : L.length + (w_tt tx tk (e / 32)).length + (w_e (d_mk T tk) (w_tt tx tk) e1 c1).length + 3 ≤ 3000) : m_M m_fw m_cx 5 183 [.ref 29, .int (nI j)] g I A J X (m_Wt (w_tt tx tk (e / 32) ++ (32 :: (w_e (d_mk T tk) (w_tt tx tk) e1 c1 ++ [58, 10]))) L J) := by
  have hm := h.2.2.1
  have hT := h.2.1.2.1
  have ej : (nI j).toNatClampNeg = j := nI_clamp (by omega)
  have hin : ¬ (nI j < 0 ∨ 400 ≤ (nI j).toNatClampNeg) := nI_in (show j < 400 by omega) (by decide)
  have e39 : A 39 (nI j).toNatClampNeg = nI (e % 32) := by rw [ej]; exact (h.at (f := 0) (by decide)).trans hn.1
  have e40 : A 40 (nI j).toNatClampNeg = nI (e / 32) := by rw [ej]; exact (h.at (f := 1) (by decide)).trans (hn.2.1 (Or.inl rfl))
  have e42 : ∀ {I1 A1 : Nat → Nat → Int32}, m_Vw tx n T tk S m I1 A1 J → A1 42 (nI j).toNatClampNeg = nI j1 := fun h1 => by rw [ej]; exact (h1.at (f := 4) (by decide)).trans h4
  have k8 : e % 32 ≠ 8 := by omega
  have emk : d_mk T tk (e / 32) = (tk (e / 32)).2.1 := if_pos ht
  have eJ : J 35 (nI (e / 32)).toNatClampNeg = m_cd (d_mk T tk (e / 32)) := by rw [nI_clamp (by omega), emk]; exact (h.2.1.2.2.1 _ ht).2.2.2
  have eW : w_wd (m_cd (d_mk T tk (e / 32))) 7 false = w_tt tx tk (e / 32) := by
    obtain ⟨u1, u2, u3⟩ := hU (e / 32) ht
    rcases hk with ⟨-, z | z⟩ | ⟨-, z⟩
    · rw [u1 z, z]; decide +kernel
    · rw [u2 z, z]; decide +kernel
    · rw [u3 z, z]; decide +kernel
  refine m_D.met rfl rfl ?_
  refine m_D.nee 9 (by decide) rfl hin ?_
  rw [e39]
  refine m_D.yea 9 (by decide) rfl (nI_nv (b := 8) (by omega) (by decide) k8) ?_
  refine m_D.nee 9 (by decide) rfl hin ?_
  rw [e40]
  refine m_D.nee 9 (by decide) rfl (nI_in (show e / 32 < 120 by omega) (by decide)) ?_
  rw [eJ]
  refine m_D.wr (n' := 9) (fun _ z => z) m_cwx (by decide) rfl (by decide) (y_pw hw (by rw [eW]; omega)) (fun I1 A1 hw1 hf1 => ?_)
  rw [eW] at hw1
  refine m_D.putg (n' := 9) (by decide) (by decide) (by decide) rfl hw1 (by simp; omega) (fun I2 A2 hw2 hf2 => ?_)
  have h2 := (h.fw hf1).fw hf2
  refine m_D.yea 9 (by decide) rfl (nI_nv (b := 8) (by omega) (by decide) k8) ?_
  refine m_D.nee 9 (by decide) rfl hin ?_
  rw [e42 h2]
  refine m_D.wr (n' := 9) (fun _ z => z) (fun _ z => z) (by decide) rfl (by decide) (y_pex hV hsh ht1 hj1 hn1 hok (by omega) hF1 hab hb1 h2 hw2 (by simp; omega)) (fun I3 A3 hw3 hf3 => ?_)
  refine m_D.putg (n' := 9) (by decide) (by decide) (by decide) rfl hw3 (by simp; omega) (fun I4 A4 hw4 hf4 => ?_)
  refine m_D.putg (n' := 9) (by decide) (by decide) (by decide) rfl hw4 (by simp; omega) (fun I5 A5 hw5 hf5 => ?_)
  exact m_D.ret 9 (by decide) rfl trivial m_Fr.refl ⟨rfl, rfl, by simpa [List.append_assoc] using hw5⟩
end MHD
