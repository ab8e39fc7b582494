/-! THE CLASS'S SCANNER: takeNext -/
section TNX
variable {g : List aK} {I A : Nat → Nat → Int32} {J : Nat → Nat → Int64} {X : Nat × (Nat → Int32)} {tx : Nat → Int32} {n p m : Nat} {l : Bool} {ws : List (Nat × Nat)} {bs : List Nat} {tk : Nat → aT}
abbrev c_l53 (c : Int32) : List (Nat × Value) := [(1, .int c), (0, .ref 19)]
theorem k_next (hT : c_T tx n I A) (hz : c_S (p, l, ws, bs, m, tk) I A) (hp : p < n) : c_R c_sc 12 53 [.ref 19] g I A J X (fun _ => none) c_S (s_next tx n (p, l, ws, bs, m, tk)) := by
  have hn := hT.2.1
  have h1 := hz.1
  have hat0 := k_at (g := g) (J := J) (X := X) (p := p) hT (by omega)
  have hat1 := k_at (g := g) (J := J) (X := X) (p := p + 1) hT (by omega)
  have hnl := k_nl (g := g) (J := J) (X := X) (p := p) hT h1 (by omega)
  have heol := k_eol (g := g) (J := J) (X := X) hz (by omega)
  have hname := k_name (g := g) (J := J) (X := X) hT hz hp
  have hnum := k_num (g := g) (J := J) (X := X) hT hz hp
  have hstr := k_str (g := g) (J := J) (X := X) (q := s_ch tx n p) hT hz hp
  have hsgn := k_sign (g := g) (J := J) (X := X) hT hz hp
  have hr := s_run_le (f := fun k => !decide (tx k = 10)) (n - p) p
  have hr' : s_nl tx n p ≤ n := by unfold s_nl; omega
  unfold s_next
  dsimp only
  have st : am_To 53 12 (0, lv_args 0 [.ref 19], [], am_H g I A J X) (12, c_l53 (s_ch tx n p), [], am_H g I A J X) := by
    intro B C u c' Q hu hc k
    refine am_cav 9 (by decide) rfl (by rw [h1]; exact hat0) (by decide) hu hc ?_
    exact am_pla 1 (by decide) rfl k
  generalize hcd : s_ch tx n p = c at *
  by_cases c1 : c_blank c = true
  · rw [if_pos c1]
    refine ⟨_, A, hz.pl (by omega), am_Fr.place, am_met rfl rfl (st _ _ _ _ _ (by decide) (by decide) ?_)⟩
    refine am_cav 9 (by decide) rfl t_blank (by decide) (by decide) (by decide) ?_
    rw [c1]
    refine am_nay 9 (by decide) rfl (by decide) ?_
    refine am_end 9 (by decide) rfl trivial (by decide) (by decide) ⟨rfl, ?_⟩
    rw [h1, nI_1]
  rw [if_neg c1]
  have st1 : am_To 53 12 (0, lv_args 0 [.ref 19], [], am_H g I A J X) (32, c_l53 c, [], am_H g I A J X) := by
    refine st.trans ?_
    intro B C u c' Q hu hc k
    refine am_cav 9 (by decide) rfl t_blank (by decide) hu hc ?_
    rw [Bool.eq_false_iff.mpr c1]
    exact am_yea 9 (by decide) rfl (by decide) k
  by_cases c2 : c = 35
  · rw [if_pos c2]
    refine ⟨_, A, hz.pl (by omega), am_Fr.place, am_met rfl rfl (st1 _ _ _ _ _ (by decide) (by decide) ?_)⟩
    refine am_nay 9 (by decide) rfl (fun z => z c2) ?_
    refine am_can 9 (by decide) rfl hnl (by decide) (by decide) (by decide) ?_
    exact am_end 9 (by decide) rfl trivial (by decide) (by decide) ⟨rfl, rfl⟩
  rw [if_neg c2]
  have st2 : am_To 53 12 (0, lv_args 0 [.ref 19], [], am_H g I A J X) (45, c_l53 c, [], am_H g I A J X) := by
    refine st1.trans ?_
    intro B C u c' Q hu hc k
    exact am_yea 9 (by decide) rfl c2 k
  by_cases c3 : c = 92 ∧ s_ch tx n (p + 1) = 10
  · rw [if_pos c3]
    have hp1 : p + 1 < n := by
      rcases Nat.lt_or_ge (p + 1) n with q | q
      · exact q
      · have := c3.2
        rw [show s_ch tx n (p + 1) = 0 from if_neg (by omega)] at this
        exact absurd this (by decide)
    refine ⟨_, A, hz.pl (by omega), am_Fr.place, am_met rfl rfl (st2 _ _ _ _ _ (by decide) (by decide) ?_)⟩
    refine am_nay 9 (by decide) rfl (fun z => z c3.1) ?_
    refine am_cav 9 (by decide) rfl (by rw [h1, nI_1]; exact hat1) (by decide) (by decide) (by decide) ?_
    refine am_nay 9 (by decide) rfl (fun z => z c3.2) ?_
    refine am_end 9 (by decide) rfl trivial (by decide) (by decide) ⟨rfl, ?_⟩
    rw [h1, show (2 : Int32) = nI 2 from rfl, nI_add]
  rw [if_neg c3]
  have st3 : am_To 53 12 (0, lv_args 0 [.ref 19], [], am_H g I A J X) (82, c_l53 c, [], am_H g I A J X) := by
    refine st2.trans ?_
    intro B C u c' Q hu hc k
    by_cases c4 : c = 92
    · refine am_nay 9 (by decide) rfl (fun z => z c4) ?_
      refine am_cav 9 (by decide) rfl (by rw [h1, nI_1]; exact hat1) (by decide) hu hc ?_
      exact am_yea 9 (by decide) rfl (fun z => c3 ⟨c4, z⟩) k
    · exact am_yea 9 (by decide) rfl c4 k
  by_cases c4 : c = 10
  · rw [if_pos c4]
    refine c_tail (n := 9) (n2 := 9) rfl rfl (by decide) (by decide : 9 + 1 ≤ 12) (s1 := (88, c_l53 c, [], am_H g I A J X)) (st3.trans ?_) rfl (fun _ => rfl) rfl am_Fr.refl heol (fun _ _ _ h => h)
    intro B C u c' Q hu hc k
    exact am_nay 9 (by decide) rfl (fun z => z c4) k
  rw [if_neg c4]
  have st4 : am_To 53 12 (0, lv_args 0 [.ref 19], [], am_H g I A J X) (95, c_l53 c, [], am_H g I A J X) := by
    refine st3.trans ?_
    intro B C u c' Q hu hc k
    exact am_yea 9 (by decide) rfl c4 k
  by_cases c5 : c_letter c = true
  · rw [if_pos c5]
    refine c_tail (n := 9) (n2 := 9) rfl rfl (by decide) (by decide : 10 + 1 ≤ 12) (s1 := (102, c_l53 c, [], am_H g I A J X)) (st4.trans ?_) rfl (fun _ => rfl) rfl am_Fr.refl hname (fun _ _ _ h => h)
    intro B C u c' Q hu hc k
    refine am_cav 9 (by decide) rfl t_letter (by decide) hu hc ?_
    rw [c5]
    exact am_nay 9 (by decide) rfl (by decide) k
  rw [if_neg c5]
  have st5 : am_To 53 12 (0, lv_args 0 [.ref 19], [], am_H g I A J X) (109, c_l53 c, [], am_H g I A J X) := by
    refine st4.trans ?_
    intro B C u c' Q hu hc k
    refine am_cav 9 (by decide) rfl t_letter (by decide) hu hc ?_
    rw [Bool.eq_false_iff.mpr c5]
    exact am_yea 9 (by decide) rfl (by decide) k
  by_cases c6 : c_digit c = true
  · rw [if_pos c6]
    refine c_tail (n := 9) (n2 := 9) rfl rfl (by decide) (by decide : 10 + 1 ≤ 12) (s1 := (116, c_l53 c, [], am_H g I A J X)) (st5.trans ?_) rfl (fun _ => rfl) rfl am_Fr.refl hnum (fun _ _ _ h => h)
    intro B C u c' Q hu hc k
    refine am_cav 9 (by decide) rfl t_digit (by decide) hu hc ?_
    rw [c6]
    exact am_nay 9 (by decide) rfl (by decide) k
  rw [if_neg c6]
  have st6 : am_To 53 12 (0, lv_args 0 [.ref 19], [], am_H g I A J X) (123, c_l53 c, [], am_H g I A J X) := by
    refine st5.trans ?_
    intro B C u c' Q hu hc k
    refine am_cav 9 (by decide) rfl t_digit (by decide) hu hc ?_
    rw [Bool.eq_false_iff.mpr c6]
    exact am_yea 9 (by decide) rfl (by decide) k
  by_cases c7 : c = 39 ∨ c = 34
  · rw [if_pos c7]
    refine c_tail (n := 9) (n2 := 9) rfl rfl (by decide) (by decide : 10 + 1 ≤ 12) (s1 := (135, c_l53 c, [], am_H g I A J X)) (st6.trans ?_) rfl (fun _ => rfl) rfl am_Fr.refl hstr (fun _ _ _ h => h)
    intro B C u c' Q hu hc k
    by_cases c8 : c = 39
    · exact am_yea 9 (by decide) rfl c8 k
    · refine am_nay 9 (by decide) rfl c8 ?_
      exact am_nay 9 (by decide) rfl (fun z => z (c7.resolve_left c8)) k
  · rw [if_neg c7]
    refine c_tail (n := 9) (n2 := 9) rfl rfl (by decide) (by decide : 11 + 1 ≤ 12) (s1 := (143, c_l53 c, [], am_H g I A J X)) (st6.trans ?_) rfl (fun _ => rfl) rfl am_Fr.refl hsgn (fun _ _ _ h => h)
    intro B C u c' Q hu hc k
    refine am_nay 9 (by decide) rfl (fun z => c7 (Or.inl z)) ?_
    exact am_yea 9 (by decide) rfl (fun z => c7 (Or.inr z)) k
end TNX
