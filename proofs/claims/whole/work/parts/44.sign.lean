/-! THE CLASS'S SCANNER: takeSign -/
section TSG
variable {g : List aK} {I A : Nat → Nat → Int32} {J : Nat → Nat → Int64} {X : Nat × (Nat → Int32)} {tx : Nat → Int32} {n p m : Nat} {l : Bool} {ws : List (Nat × Nat)} {bs : List Nat} {tk : Nat → aT}
abbrev c_l59 (c : Int32) : List (Nat × Value) := [(0, .ref 19), (1, .int c)]
theorem k_sign (hT : c_T tx n I A) (hz : c_S (p, l, ws, bs, m, tk) I A) (hp : p < n) : c_R c_sc 11 59 [.ref 19, .int (s_ch tx n p)] g I A J X (fun _ => none) c_S (s_sign tx n (p, l, ws, bs, m, tk)) := by
  have hn := hT.2.1
  have h1 := hz.1
  have hcc : c_char (s_ch tx n p) = true := by rw [show s_ch tx n p = tx p from if_pos hp]; exact hT.2.2.2 p hp
  obtain ⟨b1, b2, b3, b4, b5⟩ := c_char_b hcc
  unfold s_sign
  dsimp only
  have hat := k_at (g := g) (J := J) (X := X) (p := p + 1) hT (by omega)
  generalize s_ch tx n p = c at *
  have hi15 := t_indexOf (h := am_H g I A J X) (i := 15) (c := c) (by decide) (by decide) b1 b2 b3
  have hi16 := t_indexOf (h := am_H g I A J X) (i := 16) (c := c) (by decide) (by decide) b1 b2 b3
  by_cases c1 : s_pair c = true ∧ s_ch tx n (p + 1) = 61
  · rw [if_pos c1]
    have hp1 : p + 1 < n := by
      rcases Nat.lt_or_ge (p + 1) n with q | q
      · exact q
      · have := c1.2
        rw [show s_ch tx n (p + 1) = 0 from if_neg (by omega)] at this
        exact absurd this (by decide)
    refine c_tail (n := 9) (n2 := 9) rfl rfl (by decide) (by decide : 8 + 1 ≤ 11) (s1 := (27, c_l59 c, [], am_H g I A J X)) ?_ rfl (fun _ => rfl) rfl am_Fr.refl (k_take hz (by decide) (by dsimp only; omega)) (fun _ _ _ h => h)
    intro B C u c' Q hu hc k
    refine am_cav 9 (by decide) rfl hi15 (by decide) hu hc ?_
    refine am_nay 9 (by decide) rfl (fun z => by rw [c1.1] at b4; exact absurd (b4.mp z) (by decide)) ?_
    refine am_cav 9 (by decide) rfl (by rw [h1, nI_1]; exact hat) (by decide) hu hc ?_
    exact am_nay 9 (by decide) rfl (fun z => z c1.2) k
  · rw [if_neg c1]
    have stA : am_To 59 11 (0, lv_args 0 [.ref 19, .int c], [], am_H g I A J X) (39, c_l59 c, [], am_H g I A J X) := by
      intro B C u c' Q hu hc k
      refine am_cav 9 (by decide) rfl hi15 (by decide) hu hc ?_
      by_cases c2 : s_pair c = true
      · refine am_nay 9 (by decide) rfl (fun z => by rw [c2] at b4; exact absurd (b4.mp z) (by decide)) ?_
        refine am_cav 9 (by decide) rfl (by rw [h1, nI_1]; exact hat) (by decide) hu hc ?_
        exact am_yea 9 (by decide) rfl (fun z => c1 ⟨c2, z⟩) k
      · exact am_yea 9 (by decide) rfl (b4.mpr (Bool.eq_false_iff.mpr c2)) k
    by_cases c3 : s_one c = false
    · rw [if_pos c3]
      refine c_ref (n := 9) rfl rfl (by decide) (s1 := (48, c_l59 c, [], am_H g I A J X)) (stA.trans ?_) rfl rfl am_Fr.refl (by decide) h1
      intro B C u c' Q hu hc k
      refine am_cav 9 (by decide) rfl hi16 (by decide) hu hc ?_
      exact am_nay 9 (by decide) rfl (fun z => by rw [c3] at b5; exact absurd (b5.mp z) (by decide)) k
    · rw [if_neg c3]
      have c3' : s_one c = true := by simpa using c3
      have stB : am_To 59 11 (0, lv_args 0 [.ref 19, .int c], [], am_H g I A J X) (61, c_l59 c, [], am_H g I A J X) := by
        refine stA.trans ?_
        intro B C u c' Q hu hc k
        refine am_cav 9 (by decide) rfl hi16 (by decide) hu hc ?_
        exact am_yea 9 (by decide) rfl (b5.mpr c3') k
      by_cases c4 : c = 40 ∨ c = 91
      · rw [if_pos c4]
        have n41 : ¬ c = 41 := by rcases c4 with h | h <;> rw [h] <;> decide
        have n93 : ¬ c = 93 := by rcases c4 with h | h <;> rw [h] <;> decide
        have stC : am_To 59 11 (61, c_l59 c, [], am_H g I A J X) (73, c_l59 c, [], am_H g I A J X) := by
          intro B C u c' Q hu hc k
          by_cases c5 : c = 40
          · exact am_yea 9 (by decide) rfl c5 k
          · refine am_nay 9 (by decide) rfl c5 ?_
            refine am_nay 9 (by decide) rfl (fun z => z (c4.resolve_left c5)) k
        have ho := k_opn (g := g) (J := J) (X := X) hz (by omega)
        by_cases c6 : bs.length < 8
        · rw [if_pos c6] at ho ⊢
          obtain ⟨I', A', g1, g2, g3⟩ := ho
          refine c_tail (n := 9) (n2 := 9) rfl rfl (by decide) (by decide : 8 + 1 ≤ 11) (s1 := (94, c_l59 c, [], am_H g I' A' J X)) ((stB.trans stC).trans ?_) rfl (fun _ => rfl) rfl g2 (k_take g1 (by decide) (by dsimp only; omega)) (fun _ _ _ h => h)
          intro B C u c' Q hu hc k
          refine am_can 9 (by decide) rfl g3 (by decide) hu hc ?_
          refine am_nay 9 (by decide) rfl n41 ?_
          exact am_yea 9 (by decide) rfl n93 k
        · rw [if_neg c6] at ho ⊢
          obtain ⟨I', A', k, g1, g2, g3, g4⟩ := ho
          refine ⟨I', A', k, g1, g2, g3, am_metF rfl rfl (am_Ft.from (stB.trans stC) ?_)⟩
          intro B C u c' Q hu hc hq
          exact am_cat 9 (by decide) rfl g4 (by decide) hu hc rfl hq
      · rw [if_neg c4]
        have stC : am_To 59 11 (0, lv_args 0 [.ref 19, .int c], [], am_H g I A J X) (77, c_l59 c, [], am_H g I A J X) := by
          refine stB.trans ?_
          intro B C u c' Q hu hc k
          refine am_nay 9 (by decide) rfl (fun z => c4 (Or.inl z)) ?_
          exact am_yea 9 (by decide) rfl (fun z => c4 (Or.inr z)) k
        by_cases c5 : c = 41 ∨ c = 93
        · rw [if_pos c5]
          have stD : am_To 59 11 (0, lv_args 0 [.ref 19, .int c], [], am_H g I A J X) (89, c_l59 c, [], am_H g I A J X) := by
            refine stC.trans ?_
            intro B C u c' Q hu hc k
            by_cases c6 : c = 41
            · exact am_yea 9 (by decide) rfl c6 k
            · refine am_nay 9 (by decide) rfl c6 ?_
              exact am_nay 9 (by decide) rfl (fun z => z (c5.resolve_left c6)) k
          have hs := k_shut (g := g) (J := J) (X := X) (c := c) hT hz
          cases bs with
          | nil =>
            dsimp only at hs ⊢
            obtain ⟨I', A', k, g1, g2, g3, g4⟩ := hs
            refine ⟨I', A', k, g1, g2, g3, am_metF rfl rfl (am_Ft.from stD ?_)⟩
            intro B C u c' Q hu hc hq
            exact am_cat 9 (by decide) rfl g4 (by decide) hu hc rfl hq
          | cons b r =>
            dsimp only at hs ⊢
            by_cases c7 : s_ch tx n b = (if c = 41 then 40 else 91)
            · rw [if_pos c7] at hs ⊢
              obtain ⟨I', A', g1, g2, g3⟩ := hs
              refine c_tail (n := 9) (n2 := 9) rfl rfl (by decide) (by decide : 8 + 1 ≤ 11) (s1 := (94, c_l59 c, [], am_H g I' A' J X)) (stD.trans ?_) rfl (fun _ => rfl) rfl g2 (k_take g1 (by decide) (by dsimp only; omega)) (fun _ _ _ h => h)
              intro B C u c' Q hu hc k
              exact am_can 9 (by decide) rfl g3 (by decide) hu hc k
            · rw [if_neg c7] at hs ⊢
              obtain ⟨I', A', k, g1, g2, g3, g4⟩ := hs
              refine ⟨I', A', k, g1, g2, g3, am_metF rfl rfl (am_Ft.from stD ?_)⟩
              intro B C u c' Q hu hc hq
              exact am_cat 9 (by decide) rfl g4 (by decide) hu hc rfl hq
        · rw [if_neg c5]
          refine c_tail (n := 9) (n2 := 9) rfl rfl (by decide) (by decide : 8 + 1 ≤ 11) (s1 := (94, c_l59 c, [], am_H g I A J X)) (stC.trans ?_) rfl (fun _ => rfl) rfl am_Fr.refl (k_take hz (by decide) (by dsimp only; omega)) (fun _ _ _ h => h)
          intro B C u c' Q hu hc k
          refine am_nay 9 (by decide) rfl (fun z => c5 (Or.inl z)) ?_
          exact am_yea 9 (by decide) rfl (fun z => c5 (Or.inr z)) k
end TSG
