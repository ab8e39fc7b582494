/-! THE REFERENCE WRITES: strengths, brackets, words -/
/-- what the writer reads: text, tokens, tree -/
def m_Vw (tx : Nat → Int32) (n T : Nat) (tk : Nat → aT) (S : aN) (m : Nat) (I A : Nat → Nat → Int32) (J : Nat → Nat → Int64) : Prop := m_T tx n I A ∧ m_Tk I A J T tk ∧ m ≤ 300 ∧ ∀ f, f < 8 → A (m_px f) = S f
/-- the cells that expressions use -/
def m_cx : List Nat := [52, 53, 54, 55]
section MWO
variable {g : List aK} {X : Nat × (Nat → Int32)} {I A : Nat → Nat → Int32} {J : Nat → Nat → Int64} {L W : List Int32} {tx : Nat → Int32} {n T m : Nat} {tk : Nat → aT} {S : aN} {fs cs : List Nat}
theorem m_Vw.frame {I' A' : Nat → Nat → Int32} {J' : Nat → Nat → Int64} (h : m_Vw tx n T tk S m I A J) (hf : m_Fr m_fw m_cx I A J I' A' J') (hJ : J' = J) : m_Vw tx n T tk S m I' A' J' := by
  obtain ⟨h1, h2, h3, h4⟩ := h
  refine ⟨⟨by rw [hf.2.1 6 (by decide)]; exact h1.1, h1.2.1, fun k hk => by rw [hf.2.2.1 31 (by decide)]; exact h1.2.2.1 k hk, h1.2.2.2⟩, ⟨by rw [hf.2.1 11 (by decide)]; exact h2.1, h2.2.1, fun k hk => ?_, by rw [hf.2.1 3 (by decide)]; exact h2.2.2.2.1, by rw [hf.2.1 4 (by decide)]; exact h2.2.2.2.2⟩, h3, fun f hf8 => ?_⟩
  · rw [hf.2.2.1 32 (by decide), hf.2.2.1 33 (by decide), hf.2.2.1 34 (by decide), hJ]
    exact h2.2.2.1 k hk
  · rw [hf.2.2.1 (m_px f) (by unfold m_px m_cx; (repeat' split) <;> simp <;> omega)]
    exact h4 f hf8
theorem m_Vw.at {f k : Nat} (h : m_Vw tx n T tk S m I A J) (hf : f < 8) : A (m_px f) k = S f k := congrFun (h.2.2.2 f hf) k
theorem m_D.putg {M d n' nx : Nat} {ls : List (Nat × Value)} {sk : List Value} {c : Int32} {s0 : aS} {P : mP} (hfs : 39 ∈ fs) (hcs : 52 ∈ cs) (h1d : 2 ≤ d) (hr : am_run n' M s0 = am_ca 175 [.ref 29, .int c] (nx, ls, sk, am_H g I A J X)) (h : m_Wr L I A) (hl : L.length < 3000) (k : ∀ I1 A1, m_Wr (L ++ [c]) I1 A1 → m_Fr m_fw m_cw I A J I1 A1 J → m_D fs cs M d g X I1 A1 J (nx - 3 + 3, ls, sk, am_H g I1 A1 J X) P) : m_D fs cs M d g X I A J s0 P :=
  m_D.can (by omega) hr (y_put h hl) h1d (m_putFr.mono (fun x hx => by simp [m_fw] at hx; subst hx; exact hfs) (fun x hx => by simp [m_cw] at hx; subst hx; exact hcs)) (k _ _ h.put m_putFr)
theorem m_D.wr {M d n' d' M' nx : Nat} {as' : List Value} {ls : List (Nat × Value)} {sk : List Value} {s0 : aS} {P : mP} {fs' cs' : List Nat} (hfs : ∀ x ∈ fs', x ∈ fs) (hcs : ∀ x ∈ cs', x ∈ cs) (h1d : 1 ≤ d) (hr : am_run n' M s0 = am_ca M' as' (nx, ls, sk, am_H g I A J X)) (hd : d' + 1 ≤ d) (hcon : m_M fs' cs' d' M' as' g I A J X (m_Wt W L J)) (k : ∀ I1 A1, m_Wr (L ++ W) I1 A1 → m_Fr fs' cs' I A J I1 A1 J → m_D fs cs M d g X I1 A1 J (nx - 3 + 3, ls, sk, am_H g I1 A1 J X) P) : m_D fs cs M d g X I A J s0 P := by
  obtain ⟨I1, A1, J1, v, ⟨rfl, rfl, h2⟩, h3, h4⟩ := hcon
  exact m_D.can h1d hr h4 hd (h3.mono hfs hcs) (k I1 A1 h2 h3)
theorem y_pt {t : Nat} (h : m_Vw tx n T tk S m I A J) (ht : t < T) (hb : (tk t).2.2.1 + (tk t).2.2.2 ≤ n) (hw : m_Wr L I A) (hl : L.length + (w_tt tx tk t).length ≤ 3000) : m_M m_fw m_cw 2 176 [.ref 29, .int (nI t)] g I A J X (m_Wt (w_tt tx tk t) L J) := y_ptk h.2.1 h.1 ht hb hw (by unfold w_tt at hl; rw [w_tx_len] at hl; exact hl)
theorem d_sb_5 {x : Int32} (h : d_sb x = 5) : x = 43 ∨ x = 45 := by
  unfold d_sb at h
  repeat' split at h
  all_goals first | assumption | omega
theorem d_sb_6 {x : Int32} (h : d_sb x = 6) : x = 42 ∨ x = 47 ∨ x = 37 := by
  unfold d_sb at h
  repeat' split at h
  all_goals first | assumption | omega
theorem d_sb_l6 {x : Int32} : d_sb x ≤ 6 ∧ d_sb x ≠ 3 := by
  unfold d_sb
  repeat' split
  all_goals omega
theorem y_sg {j e : Nat} {c : aB} (h : m_Vw tx n T tk S m I A J) (hj : j < m) (hn : n_N S true j e c) (hs : b_sh (d_mk T tk) e c) (ht : e / 32 < T) : am_Con 1 177 [.ref 29, .int (nI j)] (am_H g I A J X) (.inl (some (.int (nI (w_sg (d_mk T tk) e))))) (am_H g I A J X) 0 0 := by
  have hm := h.2.2.1
  have hT := h.2.1.2.1
  have ej : (nI j).toNatClampNeg = j := nI_clamp (by omega)
  have hin : ¬ (nI j < 0 ∨ 400 ≤ (nI j).toNatClampNeg) := nI_in (show j < 400 by omega) (by decide)
  have e39 : A 39 (nI j).toNatClampNeg = nI (e % 32) := by rw [ej]; exact (h.at (f := 0) (by decide)).trans hn.1
  have e40 : A 40 (nI j).toNatClampNeg = nI (e / 32) := by rw [ej]; exact (h.at (f := 1) (by decide)).trans (hn.2.1 (Or.inl rfl))
  have hw : ∀ k, e % 32 = k → w_sg (d_mk T tk) e = (if k = 11 ∨ k = 12 ∨ k = 14 ∨ k = 15 then d_sb (d_mk T tk (e / 32)) else if k = 13 then 3 else if k = 16 then 7 else 8) := fun k z => by subst z; rfl
  have hle := d_sb_l6 (x := d_mk T tk (e / 32))
  have hb : e % 32 = 11 ∨ e % 32 = 12 ∨ e % 32 = 14 ∨ e % 32 = 15 → d_kb (d_sb (d_mk T tk (e / 32))) = e % 32 ∧ 0 < d_sb (d_mk T tk (e / 32)) := fun z => by
    rcases hs with q | q | q | q | q | q | q | q
    · exact ⟨q.2.1, q.2.2.1⟩
    all_goals omega
  refine am_met rfl rfl ?_
  refine am_nee 9 (by decide) rfl hin ?_
  rw [e39]
  by_cases c15 : e % 32 = 15
  · obtain ⟨b1, b2⟩ := hb (by omega)
    rw [c15] at b1 ⊢
    have hs56 : d_sb (d_mk T tk (e / 32)) = 5 ∨ d_sb (d_mk T tk (e / 32)) = 6 := by
      unfold d_kb at b1
      repeat' split at b1
      all_goals omega
    rw [hw _ c15, if_pos (by decide)]
    have emk : d_mk T tk (e / 32) = (tk (e / 32)).2.1 := if_pos ht
    have eJ : J 35 (nI (e / 32)).toNatClampNeg = m_cd (d_mk T tk (e / 32)) := by rw [nI_clamp (by omega), emk]; exact (h.2.1.2.2.1 _ ht).2.2.2
    refine am_nay 9 (by decide) rfl (by decide) ?_
    refine am_nee 9 (by decide) rfl hin ?_
    rw [e40]
    refine am_nee 9 (by decide) rfl (nI_in (show e / 32 < 120 by omega) (by decide)) ?_
    rw [eJ]
    rcases hs56 with q | q
    · rw [q]
      rcases d_sb_5 q with z | z
      · rw [z]
        refine am_yea 9 (by decide) rfl (by decide) ?_
        exact am_end 9 (by decide) rfl trivial (by decide) (by decide) ⟨rfl, rfl⟩
      · rw [z]
        refine am_nay 9 (by decide) rfl (by decide) ?_
        refine am_nay 9 (by decide) rfl (by decide) ?_
        exact am_end 9 (by decide) rfl trivial (by decide) (by decide) ⟨rfl, rfl⟩
    · rw [q]
      rcases d_sb_6 q with z | z | z <;>
      · rw [z]
        refine am_nay 9 (by decide) rfl (by decide) ?_
        refine am_yea 9 (by decide) rfl (by decide) ?_
        exact am_end 9 (by decide) rfl trivial (by decide) (by decide) ⟨rfl, rfl⟩
  refine am_yea 9 (by decide) rfl (nI_nv (b := 15) (by omega) (by decide) c15) ?_
  by_cases c11 : e % 32 = 11
  · obtain ⟨b1, b2⟩ := hb (by omega)
    rw [c11] at b1 ⊢
    rw [hw _ c11, if_pos (by decide)]
    have : d_sb (d_mk T tk (e / 32)) = 1 := by
      unfold d_kb at b1
      repeat' split at b1
      all_goals omega
    rw [this]
    refine am_nay 9 (by decide) rfl (by decide) ?_
    exact am_end 9 (by decide) rfl trivial (by decide) (by decide) ⟨rfl, rfl⟩
  refine am_yea 9 (by decide) rfl (nI_nv (b := 11) (by omega) (by decide) c11) ?_
  by_cases c12 : e % 32 = 12
  · obtain ⟨b1, b2⟩ := hb (by omega)
    rw [c12] at b1 ⊢
    rw [hw _ c12, if_pos (by decide)]
    have : d_sb (d_mk T tk (e / 32)) = 2 := by
      unfold d_kb at b1
      repeat' split at b1
      all_goals omega
    rw [this]
    refine am_nay 9 (by decide) rfl (by decide) ?_
    exact am_end 9 (by decide) rfl trivial (by decide) (by decide) ⟨rfl, rfl⟩
  refine am_yea 9 (by decide) rfl (nI_nv (b := 12) (by omega) (by decide) c12) ?_
  by_cases c13 : e % 32 = 13
  · rw [hw _ c13, c13]
    refine am_nay 9 (by decide) rfl (by decide) ?_
    exact am_end 9 (by decide) rfl trivial (by decide) (by decide) ⟨rfl, rfl⟩
  refine am_yea 9 (by decide) rfl (nI_nv (b := 13) (by omega) (by decide) c13) ?_
  by_cases c14 : e % 32 = 14
  · obtain ⟨b1, b2⟩ := hb (by omega)
    rw [c14] at b1 ⊢
    rw [hw _ c14, if_pos (by decide)]
    have : d_sb (d_mk T tk (e / 32)) = 4 := by
      unfold d_kb at b1
      repeat' split at b1
      all_goals omega
    rw [this]
    refine am_nay 9 (by decide) rfl (by decide) ?_
    exact am_end 9 (by decide) rfl trivial (by decide) (by decide) ⟨rfl, rfl⟩
  refine am_yea 9 (by decide) rfl (nI_nv (b := 14) (by omega) (by decide) c14) ?_
  by_cases c16 : e % 32 = 16
  · rw [hw _ c16, c16]
    refine am_nay 9 (by decide) rfl (by decide) ?_
    exact am_end 9 (by decide) rfl trivial (by decide) (by decide) ⟨rfl, rfl⟩
  refine am_yea 9 (by decide) rfl (nI_nv (b := 16) (by omega) (by decide) c16) ?_
  refine am_end 9 (by decide) rfl trivial (by decide) (by decide) ⟨?_, rfl⟩
  rw [hw _ rfl, if_neg (by omega), if_neg c13, if_neg c16]
  rfl
end MWO
