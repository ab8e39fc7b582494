/-! THE CLASS'S SCANNER: names, numbers, ends of lines -/
section NAM
variable {g : List aK} {I A : Nat → Nat → Int32} {J : Nat → Nat → Int64} {X : Nat × (Nat → Int32)} {tx : Nat → Int32} {n p e i : Nat}
theorem k_reads (hT : c_T tx n I A) (hi : i < 29) (hp : p < 2 ^ 20) (he : e < 2 ^ 20) : am_Con 4 20 [.ref 1, .retAddr i, .int (nI p), .int (nI e)] (am_H g I A J X) (.inl (some (.int (am_b (s_is tx n i p e))))) (am_H g I A J X) 0 0 := by
  have hl := am_sl31 i hi
  have loop : ∀ f j, j + f = am_sl.getD i 0 → am_sl.getD i 0 = e → am_Tri 20 4 0 0 0 0 (13, [(4, .int (nI j)), (0, .ref 1), (1, .retAddr i), (2, .int (nI p)), (3, .int (nI e))], [], am_H g I A J X) (fun oo hh => oo = .inl (some (.int (am_b (s_rd tx n i p f j)))) ∧ hh = am_H g I A J X) := by
    intro f
    induction f with
    | zero =>
      intro j hj hle
      refine am_pla 2 (by decide) rfl ?_
      refine am_txc (nx := 19) (cp := 19) (M' := 2) (by decide +kernel) rfl (Nat.blt_eq.mpr hi) (t_len hi) (by decide) (by decide) (by decide) ?_
      refine am_yea 9 (by decide) rfl (nI_le (show am_sl.getD i 0 ≤ j by omega) (by omega)) ?_
      exact am_end 9 (by decide) rfl (Or.inr rfl) (by decide) (by decide) ⟨rfl, rfl⟩
    | succ f ih =>
      intro j hj hle
      refine am_pla 2 (by decide) rfl ?_
      refine am_txc (nx := 19) (cp := 19) (M' := 2) (by decide +kernel) rfl (Nat.blt_eq.mpr hi) (t_len hi) (by decide) (by decide) (by decide) ?_
      refine am_nay 9 (by decide) rfl (nI_ge (show j < am_sl.getD i 0 by omega) hl) ?_
      refine am_pla 2 (by decide) rfl ?_
      refine am_txc (nx := 28) (cp := 25) (M' := 3) (by decide +kernel) rfl (Nat.blt_eq.mpr hi) (t_charAt hi (show j < am_sl.getD i 0 by omega)) (by decide) (by decide) (by decide) ?_
      refine am_cav 9 (by decide) rfl (by rw [nI_add]; exact k_at (p := p + j) hT (by omega)) (by decide) (by decide) (by decide) ?_
      refine am_bra 9 (by decide) rfl (fun q => ?_) (fun q => ?_)
      · have e1 : s_rd tx n i p (f + 1) j = s_rd tx n i p f (j + 1) := by rw [s_rd, if_pos q]
        rw [e1]
        refine am_pla 2 (by decide) rfl ?_
        rw [nI_1]
        exact ih (j + 1) (by omega) hle
      · have e1 : s_rd tx n i p (f + 1) j = false := by rw [s_rd, if_neg q]
        rw [e1]
        exact am_end 9 (by decide) rfl (Or.inl rfl) (by decide) (by decide) ⟨rfl, rfl⟩
  refine am_met rfl rfl ?_
  refine am_pla 1 (by decide) rfl ?_
  refine am_txc (nx := 4) (cp := 19) (M' := 2) (by decide +kernel) rfl (Nat.blt_eq.mpr hi) (t_len hi) (by decide) (by decide) (by decide) ?_
  unfold s_is
  by_cases c1 : am_sl.getD i 0 = e
  · rw [if_pos c1]
    refine am_yea 9 (by decide) rfl (congrArg nI c1) ?_
    refine am_pla 2 (by decide) rfl ?_
    have := loop e 0 (by omega) c1
    exact this
  · rw [if_neg c1]
    refine am_nay 9 (by decide) rfl (fun q => c1 ((nI_eq hl (by omega)).mp q)) ?_
    exact am_end 9 (by decide) rfl (Or.inl rfl) (by decide) (by decide) ⟨rfl, rfl⟩
theorem k_mark (hT : c_T tx n I A) (hp : p < 2 ^ 20) (he : e < 2 ^ 20) : am_Con 5 56 [.ref 19, .int (nI p), .int (nI e)] (am_H g I A J X) (.inl (some (.int (s_mark tx n p e)))) (am_H g I A J X) 0 0 := by
  refine am_met rfl rfl ?_
  unfold s_mark
  refine am_cav 9 (by decide) rfl (k_reads (i := 4) hT (by decide) hp he) (by decide) (by decide) (by decide) ?_
  by_cases c4 : s_is tx n 4 p e = true
  · rw [if_pos c4, c4]
    refine am_nay 9 (by decide) rfl (by decide) ?_
    exact am_end 9 (by decide) rfl trivial (by decide) (by decide) ⟨rfl, rfl⟩
  rw [if_neg c4, Bool.eq_false_iff.mpr c4]
  refine am_yea 9 (by decide) rfl (by decide) ?_
  refine am_cav 9 (by decide) rfl (k_reads (i := 5) hT (by decide) hp he) (by decide) (by decide) (by decide) ?_
  by_cases c5 : s_is tx n 5 p e = true
  · rw [if_pos c5, c5]
    refine am_nay 9 (by decide) rfl (by decide) ?_
    exact am_end 9 (by decide) rfl trivial (by decide) (by decide) ⟨rfl, rfl⟩
  rw [if_neg c5, Bool.eq_false_iff.mpr c5]
  refine am_yea 9 (by decide) rfl (by decide) ?_
  refine am_cav 9 (by decide) rfl (k_reads (i := 6) hT (by decide) hp he) (by decide) (by decide) (by decide) ?_
  by_cases c6 : s_is tx n 6 p e = true
  · rw [if_pos c6, c6]
    refine am_nay 9 (by decide) rfl (by decide) ?_
    exact am_end 9 (by decide) rfl trivial (by decide) (by decide) ⟨rfl, rfl⟩
  rw [if_neg c6, Bool.eq_false_iff.mpr c6]
  refine am_yea 9 (by decide) rfl (by decide) ?_
  refine am_cav 9 (by decide) rfl (k_reads (i := 7) hT (by decide) hp he) (by decide) (by decide) (by decide) ?_
  by_cases c7 : s_is tx n 7 p e = true
  · rw [if_pos c7, c7]
    refine am_nay 9 (by decide) rfl (by decide) ?_
    exact am_end 9 (by decide) rfl trivial (by decide) (by decide) ⟨rfl, rfl⟩
  rw [if_neg c7, Bool.eq_false_iff.mpr c7]
  refine am_yea 9 (by decide) rfl (by decide) ?_
  refine am_cav 9 (by decide) rfl (k_reads (i := 8) hT (by decide) hp he) (by decide) (by decide) (by decide) ?_
  by_cases c8 : s_is tx n 8 p e = true
  · rw [if_pos c8, c8]
    refine am_nay 9 (by decide) rfl (by decide) ?_
    exact am_end 9 (by decide) rfl trivial (by decide) (by decide) ⟨rfl, rfl⟩
  rw [if_neg c8, Bool.eq_false_iff.mpr c8]
  refine am_yea 9 (by decide) rfl (by decide) ?_
  refine am_cav 9 (by decide) rfl (k_reads (i := 9) hT (by decide) hp he) (by decide) (by decide) (by decide) ?_
  by_cases c9 : s_is tx n 9 p e = true
  · rw [if_pos c9, c9]
    refine am_nay 9 (by decide) rfl (by decide) ?_
    exact am_end 9 (by decide) rfl trivial (by decide) (by decide) ⟨rfl, rfl⟩
  rw [if_neg c9, Bool.eq_false_iff.mpr c9]
  refine am_yea 9 (by decide) rfl (by decide) ?_
  refine am_cav 9 (by decide) rfl (k_reads (i := 10) hT (by decide) hp he) (by decide) (by decide) (by decide) ?_
  by_cases c10 : s_is tx n 10 p e = true
  · rw [if_pos c10, c10]
    refine am_nay 9 (by decide) rfl (by decide) ?_
    exact am_end 9 (by decide) rfl trivial (by decide) (by decide) ⟨rfl, rfl⟩
  rw [if_neg c10, Bool.eq_false_iff.mpr c10]
  refine am_yea 9 (by decide) rfl (by decide) ?_
  refine am_cav 9 (by decide) rfl (k_reads (i := 11) hT (by decide) hp he) (by decide) (by decide) (by decide) ?_
  by_cases c11 : s_is tx n 11 p e = true
  · rw [if_pos c11, c11]
    refine am_nay 9 (by decide) rfl (by decide) ?_
    exact am_end 9 (by decide) rfl trivial (by decide) (by decide) ⟨rfl, rfl⟩
  rw [if_neg c11, Bool.eq_false_iff.mpr c11]
  refine am_yea 9 (by decide) rfl (by decide) ?_
  refine am_cav 9 (by decide) rfl (k_reads (i := 12) hT (by decide) hp he) (by decide) (by decide) (by decide) ?_
  by_cases c12 : s_is tx n 12 p e = true
  · rw [if_pos c12, c12]
    refine am_nay 9 (by decide) rfl (by decide) ?_
    exact am_end 9 (by decide) rfl trivial (by decide) (by decide) ⟨rfl, rfl⟩
  rw [if_neg c12, Bool.eq_false_iff.mpr c12]
  refine am_yea 9 (by decide) rfl (by decide) ?_
  refine am_cav 9 (by decide) rfl (k_reads (i := 13) hT (by decide) hp he) (by decide) (by decide) (by decide) ?_
  by_cases c13 : s_is tx n 13 p e = true
  · rw [if_pos c13, c13]
    refine am_nay 9 (by decide) rfl (by decide) ?_
    exact am_end 9 (by decide) rfl trivial (by decide) (by decide) ⟨rfl, rfl⟩
  rw [if_neg c13, Bool.eq_false_iff.mpr c13]
  refine am_yea 9 (by decide) rfl (by decide) ?_
  refine am_cav 9 (by decide) rfl (k_reads (i := 14) hT (by decide) hp he) (by decide) (by decide) (by decide) ?_
  by_cases c14 : s_is tx n 14 p e = true
  · rw [if_pos c14, c14]
    refine am_nay 9 (by decide) rfl (by decide) ?_
    exact am_end 9 (by decide) rfl trivial (by decide) (by decide) ⟨rfl, rfl⟩
  rw [if_neg c14, Bool.eq_false_iff.mpr c14]
  refine am_yea 9 (by decide) rfl (by decide) ?_
  exact am_end 9 (by decide) rfl trivial (by decide) (by decide) ⟨rfl, rfl⟩
theorem k_name {m : Nat} {l : Bool} {ws : List (Nat × Nat)} {bs : List Nat} {tk : Nat → aT} (hT : c_T tx n I A) (hz : c_S (p, l, ws, bs, m, tk) I A) (hp : p < n) : c_R c_sc 10 55 [.ref 19] g I A J X (fun _ => none) c_S (match s_run (fun k => c_letter (tx k) || c_digit (tx k)) (n - (p + 1)) (p + 1) with
    | e => s_take (if s_mark tx n p (e - p) = 1 then 1 else 2) (s_mark tx n p (e - p)) (e - p) (p, l, ws, bs, m, tk)) := by
  have hn := hT.2.1
  have h1 := hz.1
  have loop : ∀ f e, e + f = n → am_To 55 10 (7, [(1, .int (nI e)), (0, .ref 19)], [], am_H g I A J X) (52, [(1, .int (nI (s_run (fun k => c_letter (tx k) || c_digit (tx k)) f e))), (0, .ref 19)], [], am_H g I A J X) := by
    intro f
    induction f with
    | zero =>
      intro e he B C u c Q hu hc k
      exact am_yea 9 (by decide) rfl (by rw [hT.1]; exact nI_le (by omega) (by omega)) k
    | succ f ih =>
      intro e he B C u c Q hu hc k
      have e0 : s_ch tx n e = tx e := if_pos (by omega)
      have hat := k_at (g := g) (J := J) (X := X) (p := e) hT (by omega)
      rw [e0] at hat
      refine am_nay 9 (by decide) rfl (by rw [hT.1]; exact nI_ge (show e < n by omega) (by omega)) ?_
      refine am_cav 9 (by decide) rfl hat (by decide) hu hc ?_
      refine am_cav 9 (by decide) rfl t_letter (by decide) hu hc ?_
      by_cases cl : c_letter (tx e) = true
      · have e1 : s_run (fun k => c_letter (tx k) || c_digit (tx k)) (f + 1) e = s_run (fun k => c_letter (tx k) || c_digit (tx k)) f (e + 1) := by simp [s_run, cl]
        rw [e1] at k
        rw [cl]
        refine am_yea 9 (by decide) rfl (by decide) ?_
        refine am_pla 2 (by decide) rfl ?_
        rw [nI_1]
        exact ih (e + 1) (by omega) B C u c Q hu hc k
      · rw [Bool.eq_false_iff.mpr cl]
        refine am_nay 9 (by decide) rfl (by decide) ?_
        refine am_cav 9 (by decide) rfl hat (by decide) hu hc ?_
        refine am_cav 9 (by decide) rfl t_digit (by decide) hu hc ?_
        by_cases cd : c_digit (tx e) = true
        · have e1 : s_run (fun k => c_letter (tx k) || c_digit (tx k)) (f + 1) e = s_run (fun k => c_letter (tx k) || c_digit (tx k)) f (e + 1) := by simp [s_run, cd]
          rw [e1] at k
          rw [cd]
          refine am_nay 9 (by decide) rfl (by decide) ?_
          refine am_pla 2 (by decide) rfl ?_
          rw [nI_1]
          exact ih (e + 1) (by omega) B C u c Q hu hc k
        · have e1 : s_run (fun k => c_letter (tx k) || c_digit (tx k)) (f + 1) e = e := by simp [s_run, cl, cd]
          rw [e1] at k
          rw [Bool.eq_false_iff.mpr cd]
          exact am_yea 9 (by decide) rfl (by decide) k
  have hr := s_run_le (f := fun k => c_letter (tx k) || c_digit (tx k)) (n - (p + 1)) (p + 1)
  have st := loop (n - (p + 1)) (p + 1) (by omega)
  dsimp only
  revert hr st
  generalize s_run (fun k => c_letter (tx k) || c_digit (tx k)) (n - (p + 1)) (p + 1) = e
  intro hr st
  have es : nI e - nI p = nI (e - p) := nI_sub (by omega)
  have hmk := k_mark (g := g) (J := J) (X := X) (p := p) (e := e - p) hT (by omega) (by omega)
  refine c_tail (n := 9) (n2 := 9) rfl rfl (by decide) (by decide : 8 + 1 ≤ 10) (s1 := (78, [(2, .int (s_mark tx n p (e - p))), (1, .int (nI e)), (0, .ref 19)], [.int (if s_mark tx n p (e - p) = 1 then 1 else 2), .ref 19], am_H g I A J X)) ?_ (by rw [show am_run 9 55 (78, [(2, .int (s_mark tx n p (e - p))), (1, .int (nI e)), (0, .ref 19)], [.int (if s_mark tx n p (e - p) = 1 then 1 else 2), .ref 19], am_H g I A J X) = am_ca 52 [.ref 19, .int (if s_mark tx n p (e - p) = 1 then 1 else 2), .int (s_mark tx n p (e - p)), .int (nI e - I 19 6)] (88, [(2, .int (s_mark tx n p (e - p))), (1, .int (nI e)), (0, .ref 19)], [], am_H g I A J X) from rfl, h1, es]) (fun _ => rfl) rfl am_Fr.refl (k_take hz (by omega) (by dsimp only; omega)) (fun _ _ _ h => h)
  intro B C u c Q hu hc k
  refine am_pla 5 (by decide) rfl ?_
  rw [h1, nI_1]
  refine st B C u c Q hu hc ?_
  refine am_cav 9 (by decide) rfl (by rw [h1, es]; exact hmk) (by decide) hu hc ?_
  by_cases c1 : s_mark tx n p (e - p) = 1
  · refine am_nay 9 (by decide) rfl (fun q => q c1) ?_
    rw [if_pos c1] at k
    exact am_pla 2 (by decide) rfl k
  · refine am_yea 9 (by decide) rfl c1 ?_
    rw [if_neg c1] at k
    exact am_pla 1 (by decide) rfl k
theorem k_num {m : Nat} {l : Bool} {ws : List (Nat × Nat)} {bs : List Nat} {tk : Nat → aT} (hT : c_T tx n I A) (hz : c_S (p, l, ws, bs, m, tk) I A) (hp : p < n) : c_R c_sc 10 57 [.ref 19] g I A J X (fun _ => none) c_S (match s_run (fun k => c_digit (tx k)) (n - (p + 1)) (p + 1) with
    | e => if c_letter (s_ch tx n e) = true then .error (6, p) else s_take 3 3 (e - p) (p, l, ws, bs, m, tk)) := by
  have hn := hT.2.1
  have h1 := hz.1
  have loop : ∀ f e, e + f = n → am_To 57 10 (7, [(1, .int (nI e)), (0, .ref 19)], [], am_H g I A J X) (38, [(1, .int (nI (s_run (fun k => c_digit (tx k)) f e))), (0, .ref 19)], [], am_H g I A J X) := by
    intro f
    induction f with
    | zero =>
      intro e he B C u c Q hu hc k
      exact am_yea 9 (by decide) rfl (by rw [hT.1]; exact nI_le (by omega) (by omega)) k
    | succ f ih =>
      intro e he B C u c Q hu hc k
      have e0 : s_ch tx n e = tx e := if_pos (by omega)
      have hat := k_at (g := g) (J := J) (X := X) (p := e) hT (by omega)
      rw [e0] at hat
      refine am_nay 9 (by decide) rfl (by rw [hT.1]; exact nI_ge (show e < n by omega) (by omega)) ?_
      refine am_cav 9 (by decide) rfl hat (by decide) hu hc ?_
      refine am_cav 9 (by decide) rfl t_digit (by decide) hu hc ?_
      by_cases cd : c_digit (tx e) = true
      · have e1 : s_run (fun k => c_digit (tx k)) (f + 1) e = s_run (fun k => c_digit (tx k)) f (e + 1) := by simp [s_run, cd]
        rw [e1] at k
        rw [cd]
        refine am_nay 9 (by decide) rfl (by decide) ?_
        refine am_pla 2 (by decide) rfl ?_
        rw [nI_1]
        exact ih (e + 1) (by omega) B C u c Q hu hc k
      · have e1 : s_run (fun k => c_digit (tx k)) (f + 1) e = e := by simp [s_run, cd]
        rw [e1] at k
        rw [Bool.eq_false_iff.mpr cd]
        exact am_yea 9 (by decide) rfl (by decide) k
  have hr := s_run_le (f := fun k => c_digit (tx k)) (n - (p + 1)) (p + 1)
  have st := loop (n - (p + 1)) (p + 1) (by omega)
  dsimp only
  revert hr st
  generalize s_run (fun k => c_digit (tx k)) (n - (p + 1)) (p + 1) = e
  intro hr st
  have es : nI e - nI p = nI (e - p) := nI_sub (by omega)
  have hat := k_at (g := g) (J := J) (X := X) (p := e) hT (by omega)
  have st1 : am_To 57 10 (0, lv_args 0 [.ref 19], [], am_H g I A J X) (38, [(1, .int (nI e)), (0, .ref 19)], [], am_H g I A J X) := by
    intro B C u c Q hu hc k
    refine am_pla 5 (by decide) rfl ?_
    rw [h1, nI_1]
    exact st B C u c Q hu hc k
  by_cases cl : c_letter (s_ch tx n e) = true
  · rw [if_pos cl]
    refine c_ref (n := 9) rfl rfl (by decide) (s1 := (52, [(1, .int (nI e)), (0, .ref 19)], [], am_H g I A J X)) (st1.trans ?_) rfl rfl am_Fr.refl (by decide) h1
    intro B C u c Q hu hc k
    refine am_cav 9 (by decide) rfl hat (by decide) hu hc ?_
    refine am_cav 9 (by decide) rfl t_letter (by decide) hu hc ?_
    rw [cl]
    exact am_nay 9 (by decide) rfl (by decide) k
  · rw [if_neg cl]
    refine c_tail (n := 9) (n2 := 9) rfl rfl (by decide) (by decide : 8 + 1 ≤ 10) (s1 := (65, [(1, .int (nI e)), (0, .ref 19)], [], am_H g I A J X)) (st1.trans ?_) (by rw [show am_run 9 57 (65, [(1, .int (nI e)), (0, .ref 19)], [], am_H g I A J X) = am_ca 52 [.ref 19, .int 3, .int 3, .int (nI e - I 19 6)] (77, [(1, .int (nI e)), (0, .ref 19)], [], am_H g I A J X) from rfl, h1, es]) (fun _ => rfl) rfl am_Fr.refl (k_take hz (by omega) (by dsimp only; omega)) (fun _ _ _ h => h)
    intro B C u c Q hu hc k
    refine am_cav 9 (by decide) rfl hat (by decide) hu hc ?_
    refine am_cav 9 (by decide) rfl t_letter (by decide) hu hc ?_
    rw [Bool.eq_false_iff.mpr cl]
    exact am_yea 9 (by decide) rfl (by decide) k
end NAM
