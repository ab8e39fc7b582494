/-! QUERIES: both sides -/
theorem nI_below {k : Int32} {N : Nat} (hN : N < 2 ^ 31) (h0 : ¬ k < 0) (h : k < nI N) : ∃ j, j < N ∧ k = nI j := by
  obtain ⟨j, hj, e⟩ := nI_of2 (M := nI N) (n := N) (x := k) (Int32.toInt_ofNat_of_lt hN) h0 (Int32.le_of_lt h)
  refine ⟨j, ?_, e⟩
  rcases Nat.lt_or_ge j N with q | q
  · exact q
  · have : j = N := by omega
    rw [e, this] at h
    exact (Int32.lt_irrefl h).elim
theorem n2_of {x : Int32} (h0 : ¬ x < 0) (h2 : ¬ 2 < x) : x = 0 ∨ x = 1 ∨ x = 2 := by
  obtain ⟨j, hj, e⟩ := nI_of2 (M := 2) (n := 2) (x := x) (by decide) h0 (Int32.not_lt.mp h2)
  have : j = 0 ∨ j = 1 ∨ j = 2 := by omega
  rcases this with z | z | z <;> (subst z; rw [e]; decide)
/-- there is such a one -/
def q_in (k x : Int32) (N : Nat) : Prop := (¬ k < 0 ∧ k < nI N) ∧ ¬ x < 0 ∧ ¬ 2 < x
section QRY
variable {g : List aK} {I A : Nat → Nat → Int32} {J : Nat → Nat → Int64} {X : Nat × (Nat → Int32)} {k x : Int32}
theorem nd_56 : ¬ ((0 : Int32) < 0 ∨ 1 ≤ (0 : Int32).toNatClampNeg) := by decide
/-- a token's kind, place or length -/
def q_tk (tk : Nat → aT) (j : Nat) (x : Int32) : Int32 := if x = 0 then (tk j).1 else if x = 1 then nI (tk j).2.2.1 else nI (tk j).2.2.2
theorem t_kindAt {T p : Nat} {tk : Nat → aT} (hT : c_Tk I A T tk) (hp : p < T) : am_Con 1 27 [.ref 4, .int (nI p)] (am_H g I A J X) (.inl (some (.int (tk p).1))) (am_H g I A J X) 0 0 := by
  have h120 := hT.2.1
  refine am_met rfl rfl ?_
  refine am_nay 9 (by decide) rfl (nI_pos (by omega)) ?_
  refine am_nay 9 (by decide) rfl (by rw [hT.1]; exact nI_ge hp (by omega)) ?_
  refine am_nee 9 (by decide) rfl (nI_in (show p < 120 by omega) (by decide)) ?_
  refine am_end 9 (by decide) rfl trivial (by decide) (by decide) ⟨?_, rfl⟩
  rw [nI_clamp (by omega), (hT.2.2 p hp).1]
theorem k_htk {T : Nat} {tk : Nat → aT} (hT : c_Tk I A T tk) : (∀ j, j < T → k = nI j → ¬ x < 0 → ¬ 2 < x → am_Con 20 197 [.ref 0, .int k, .int x, .ref 56] (am_H g I A J X) (.inl (some (.int 0))) (am_H g I A (am_u J 56 0 (q_tk tk j x).toInt64) X) 1 6) ∧ (¬ q_in k x T → am_Con 20 197 [.ref 0, .int k, .int x, .ref 56] (am_H g I A J X) (.inl (some (.int 1))) (am_H (am_gx g) I A J X) 1 6) := by
  have h120 := hT.2.1
  constructor
  · intro j hj e h0 h2
    subst e
    have hq : am_Con 2 113 [.ref 0, .int (nI j), .int x] (am_H g I A J X) (.inl (some (.int (q_tk tk j x)))) (am_H g I A J X) 0 0 := by
      refine am_met rfl rfl ?_
      refine am_nay 9 (by decide) rfl (nI_pos (by omega)) ?_
      refine am_nay 9 (by decide) rfl (by rw [hT.1]; exact nI_ge hj (by omega)) ?_
      refine am_nay 9 (by decide) rfl h0 ?_
      refine am_yea 9 (by decide) rfl (Int32.not_lt.mp h2) ?_
      rcases n2_of h0 h2 with z | z | z
      · subst z
        refine am_nay 9 (by decide) rfl (by decide) ?_
        refine am_cav 9 (by decide) rfl (t_kindAt hT hj) (by decide) (by decide) (by decide) ?_
        exact am_end 9 (by decide) rfl trivial (by decide) (by decide) ⟨rfl, rfl⟩
      · subst z
        refine am_yea 9 (by decide) rfl (by decide) ?_
        refine am_nay 9 (by decide) rfl (by decide) ?_
        refine am_cav 9 (by decide) rfl (t_place hT hj) (by decide) (by decide) (by decide) ?_
        exact am_end 9 (by decide) rfl trivial (by decide) (by decide) ⟨rfl, rfl⟩
      · subst z
        refine am_yea 9 (by decide) rfl (by decide) ?_
        refine am_yea 9 (by decide) rfl (by decide) ?_
        refine am_cav 9 (by decide) rfl (t_ext hT hj) (by decide) (by decide) (by decide) ?_
        exact am_end 9 (by decide) rfl trivial (by decide) (by decide) ⟨rfl, rfl⟩
    refine am_met rfl rfl ?_
    refine am_cav 9 (by decide) rfl hq (by decide) (by decide) (by decide) ?_
    refine am_nee 9 (by decide) rfl nd_56 ?_
    exact am_end 9 (by decide) rfl trivial (by decide) (by decide) ⟨rfl, rfl⟩
  · intro hno
    have hq : am_Con 7 113 [.ref 0, .int k, .int x] (am_H g I A J X) (.inr (103, (am_lay ++ g).length)) (am_H (am_gx g) I A J X) 1 6 := by
      refine am_met rfl rfl ?_
      by_cases c1 : k < 0
      · refine am_yea 9 (by decide) rfl c1 ?_
        exact am_thw 9 (by decide) rfl (by decide) (by decide) ⟨rfl, by simp [am_gx]⟩
      refine am_nay 9 (by decide) rfl c1 ?_
      by_cases c2 : k < nI T
      · refine am_nay 9 (by decide) rfl (by rw [hT.1]; exact Int32.not_le.mpr c2) ?_
        by_cases c3 : x < 0
        · refine am_yea 9 (by decide) rfl c3 ?_
          exact am_thw 9 (by decide) rfl (by decide) (by decide) ⟨rfl, by simp [am_gx]⟩
        refine am_nay 9 (by decide) rfl c3 ?_
        have c4 : 2 < x := Decidable.byContradiction (fun z => hno ⟨⟨c1, c2⟩, c3, z⟩)
        refine am_nay 9 (by decide) rfl (Int32.not_le.mpr c4) ?_
        exact am_thw 9 (by decide) rfl (by decide) (by decide) ⟨rfl, by simp [am_gx]⟩
      · refine am_yea 9 (by decide) rfl (by rw [hT.1]; exact Int32.not_lt.mp c2) ?_
        exact am_thw 9 (by decide) rfl (by decide) (by decide) ⟨rfl, by simp [am_gx]⟩
    refine am_met rfl rfl ?_
    refine am_cah 9 (by decide) rfl hq (by decide) (by decide) (by decide) (hp := 13) rfl ?_
    exact am_end 9 (by decide) rfl trivial (by decide) (by decide) ⟨rfl, rfl⟩
/-- a node's kind, token or number of parts -/
def q_nd (d : Nat × Nat) (x : Int32) : Int32 := if x = 0 then nI (d.1 % 32) else if x = 1 then nI (d.1 / 32) else nI d.2
theorem r_or.at {S : aN} {o : Nat → Int32} {m : Nat} : ∀ {L : List (Nat × Nat)} {k i : Nat}, r_or S o m k L → i < L.length → ∃ j, j < m ∧ o (k + i) = nI j ∧ S 0 j = nI ((L.getD i (0, 0)).1 % 32) ∧ S 1 j = nI ((L.getD i (0, 0)).1 / 32) ∧ S 3 j = nI (L.getD i (0, 0)).2
  | [], k, i, _, h => absurd h (Nat.not_lt_zero _)
  | (e, n) :: L, k, 0, hr, _ => hr.1
  | (e, n) :: L, k, i + 1, hr, h => by
    have := r_or.at (i := i) hr.2 (by simpa using h)
    rw [show k + (i + 1) = k + 1 + i from by omega]
    simpa using this
theorem t_numb {m j : Nat} (hm : I 9 9 = nI m) (h : m ≤ 360) (hj : j < m) : am_Con 1 42 [.ref 9, .int (nI j)] (am_H g I A J X) (.inl (some (.int (A 18 j)))) (am_H g I A J X) 0 0 := by
  refine am_met rfl rfl ?_
  refine am_nay 9 (by decide) rfl (nI_pos (by omega)) ?_
  refine am_nay 9 (by decide) rfl (by rw [hm]; exact nI_ge hj (by omega)) ?_
  refine am_nee 9 (by decide) rfl (nI_in (show j < 360 by omega) (by decide)) ?_
  refine am_end 9 (by decide) rfl trivial (by decide) (by decide) ⟨?_, rfl⟩
  rw [nI_clamp (by omega)]
theorem t_kndOf {m j : Nat} (hm : I 9 9 = nI m) (h : m ≤ 360) (hj : j < m) : am_Con 1 36 [.ref 9, .int (nI j)] (am_H g I A J X) (.inl (some (.int (c_st A 0 j)))) (am_H g I A J X) 0 0 := by
  refine am_met rfl rfl ?_
  refine am_nay 9 (by decide) rfl (nI_pos (by omega)) ?_
  refine am_nay 9 (by decide) rfl (by rw [hm]; exact nI_ge hj (by omega)) ?_
  refine am_nee 9 (by decide) rfl (nI_in (show j < 360 by omega) (by decide)) ?_
  refine am_end 9 (by decide) rfl trivial (by decide) (by decide) ⟨?_, rfl⟩
  rw [nI_clamp (by omega)]
  rfl
theorem k_hnd {NL : List (Nat × Nat)} (hm : I 9 9 = nI NL.length) (h3 : NL.length ≤ 300) (hr : r_or (c_st A) (A 18) NL.length 0 NL) : (∀ j, j < NL.length → k = nI j → ¬ x < 0 → ¬ 2 < x → am_Con 20 198 [.ref 0, .int k, .int x, .ref 56] (am_H g I A J X) (.inl (some (.int 0))) (am_H g I A (am_u J 56 0 (q_nd (NL.getD j (0, 0)) x).toInt64) X) 1 6) ∧ (¬ q_in k x NL.length → am_Con 20 198 [.ref 0, .int k, .int x, .ref 56] (am_H g I A J X) (.inl (some (.int 1))) (am_H (am_gx g) I A J X) 1 6) := by
  constructor
  · intro j hj e h0 h2
    subst e
    obtain ⟨i, i1, i2, i3, i4, i5⟩ := hr.at hj
    rw [Nat.zero_add] at i2
    have hnum := t_numb (g := g) (A := A) (J := J) (X := X) hm (by omega) hj
    rw [i2] at hnum
    have hq : am_Con 2 115 [.ref 0, .int (nI j), .int x] (am_H g I A J X) (.inl (some (.int (q_nd (NL.getD j (0, 0)) x)))) (am_H g I A J X) 0 0 := by
      refine am_met rfl rfl ?_
      refine am_nay 9 (by decide) rfl (nI_pos (by omega)) ?_
      refine am_nay 9 (by decide) rfl (by rw [hm]; exact nI_ge hj (by omega)) ?_
      refine am_nay 9 (by decide) rfl h0 ?_
      refine am_yea 9 (by decide) rfl (Int32.not_lt.mp h2) ?_
      refine am_cav 9 (by decide) rfl hnum (by decide) (by decide) (by decide) ?_
      rcases n2_of h0 h2 with z | z | z
      · subst z
        refine am_nay 9 (by decide) rfl (by decide) ?_
        refine am_cav 9 (by decide) rfl (t_kndOf hm (by omega) i1) (by decide) (by decide) (by decide) ?_
        exact am_end 9 (by decide) rfl trivial (by decide) (by decide) ⟨by rw [i3]; rfl, rfl⟩
      · subst z
        refine am_yea 9 (by decide) rfl (by decide) ?_
        refine am_nay 9 (by decide) rfl (by decide) ?_
        refine am_cav 9 (by decide) rfl (t_tokenOf hm (by omega) i1) (by decide) (by decide) (by decide) ?_
        exact am_end 9 (by decide) rfl trivial (by decide) (by decide) ⟨by rw [i4]; rfl, rfl⟩
      · subst z
        refine am_yea 9 (by decide) rfl (by decide) ?_
        refine am_yea 9 (by decide) rfl (by decide) ?_
        refine am_cav 9 (by decide) rfl (t_partsOf hm (by omega) i1) (by decide) (by decide) (by decide) ?_
        exact am_end 9 (by decide) rfl trivial (by decide) (by decide) ⟨by rw [i5]; rfl, rfl⟩
    refine am_met rfl rfl ?_
    refine am_cav 9 (by decide) rfl hq (by decide) (by decide) (by decide) ?_
    refine am_nee 9 (by decide) rfl nd_56 ?_
    exact am_end 9 (by decide) rfl trivial (by decide) (by decide) ⟨rfl, rfl⟩
  · intro hno
    have hq : am_Con 7 115 [.ref 0, .int k, .int x] (am_H g I A J X) (.inr (103, (am_lay ++ g).length)) (am_H (am_gx g) I A J X) 1 6 := by
      refine am_met rfl rfl ?_
      by_cases c1 : k < 0
      · refine am_yea 9 (by decide) rfl c1 ?_
        exact am_thw 9 (by decide) rfl (by decide) (by decide) ⟨rfl, by simp [am_gx]⟩
      refine am_nay 9 (by decide) rfl c1 ?_
      by_cases c2 : k < nI NL.length
      · refine am_nay 9 (by decide) rfl (by rw [hm]; exact Int32.not_le.mpr c2) ?_
        by_cases c3 : x < 0
        · refine am_yea 9 (by decide) rfl c3 ?_
          exact am_thw 9 (by decide) rfl (by decide) (by decide) ⟨rfl, by simp [am_gx]⟩
        refine am_nay 9 (by decide) rfl c3 ?_
        have c4 : 2 < x := Decidable.byContradiction (fun z => hno ⟨⟨c1, c2⟩, c3, z⟩)
        refine am_nay 9 (by decide) rfl (Int32.not_le.mpr c4) ?_
        exact am_thw 9 (by decide) rfl (by decide) (by decide) ⟨rfl, by simp [am_gx]⟩
      · refine am_yea 9 (by decide) rfl (by rw [hm]; exact Int32.not_lt.mp c2) ?_
        exact am_thw 9 (by decide) rfl (by decide) (by decide) ⟨rfl, by simp [am_gx]⟩
    refine am_met rfl rfl ?_
    refine am_cah 9 (by decide) rfl hq (by decide) (by decide) (by decide) (hp := 13) rfl ?_
    exact am_end 9 (by decide) rfl trivial (by decide) (by decide) ⟨rfl, rfl⟩
theorem k_hou {W : List Int32} (hw : c_Wr W I A) (hl : W.length ≤ 3000) : (∀ j, j < W.length → k = nI j → am_Con 20 199 [.ref 0, .int k, .ref 56] (am_H g I A J X) (.inl (some (.int 0))) (am_H g I A (am_u J 56 0 (W.getD j 0).toInt64) X) 1 6) ∧ (¬ (¬ k < 0 ∧ k < nI W.length) → am_Con 20 199 [.ref 0, .int k, .ref 56] (am_H g I A J X) (.inl (some (.int 1))) (am_H (am_gx g) I A J X) 1 6) := by
  constructor
  · intro j hj e
    subst e
    have ej : (nI j).toNatClampNeg = j := nI_clamp (by omega)
    have hmem : W.getD j 0 ∈ W := by
      rw [List.getD_eq_getElem?_getD, List.getElem?_eq_getElem hj]
      exact List.getElem_mem hj
    have hn := hw.2.2 _ hmem
    have e28 : A 28 (nI j).toNatClampNeg = W.getD j 0 := by rw [ej]; exact hw.2.1 j hj
    have hat : am_Con 1 90 [.ref 27, .int (nI j)] (am_H g I A J X) (.inl (some (.int (W.getD j 0)))) (am_H g I A J X) 0 0 := by
      refine am_met rfl rfl ?_
      refine am_nay 9 (by decide) rfl (nI_pos (by omega)) ?_
      refine am_nay 9 (by decide) rfl (by rw [hw.1]; exact nI_ge hj (by omega)) ?_
      refine am_nay 9 (by decide) rfl (nI_ge (show j < 3120 by omega) (by decide)) ?_
      refine am_nee 9 (by decide) rfl (nI_in (show j < 3120 by omega) (by decide)) ?_
      rw [e28]
      exact am_end 9 (by decide) rfl hn (by decide) (by decide) ⟨rfl, rfl⟩
    have hq : am_Con 2 117 [.ref 0, .int (nI j)] (am_H g I A J X) (.inl (some (.int (W.getD j 0)))) (am_H g I A J X) 0 0 := by
      refine am_met rfl rfl ?_
      refine am_nay 9 (by decide) rfl (nI_pos (by omega)) ?_
      refine am_yea 9 (by decide) rfl (by rw [hw.1]; exact nI_lt hj (by omega)) ?_
      refine am_cav 9 (by decide) rfl hat (by decide) (by decide) (by decide) ?_
      exact am_end 9 (by decide) rfl hn (by decide) (by decide) ⟨rfl, rfl⟩
    refine am_met rfl rfl ?_
    refine am_cav 9 (by decide) rfl hq (by decide) (by decide) (by decide) ?_
    refine am_nee 9 (by decide) rfl nd_56 ?_
    exact am_end 9 (by decide) rfl trivial (by decide) (by decide) ⟨rfl, rfl⟩
  · intro hno
    have hq : am_Con 7 117 [.ref 0, .int k] (am_H g I A J X) (.inr (103, (am_lay ++ g).length)) (am_H (am_gx g) I A J X) 1 6 := by
      refine am_met rfl rfl ?_
      by_cases c1 : k < 0
      · refine am_yea 9 (by decide) rfl c1 ?_
        exact am_thw 9 (by decide) rfl (by decide) (by decide) ⟨rfl, by simp [am_gx]⟩
      refine am_nay 9 (by decide) rfl c1 ?_
      have c2 : ¬ k < nI W.length := fun z => hno ⟨c1, z⟩
      refine am_nay 9 (by decide) rfl (by rw [hw.1]; exact c2) ?_
      exact am_thw 9 (by decide) rfl (by decide) (by decide) ⟨rfl, by simp [am_gx]⟩
    refine am_met rfl rfl ?_
    refine am_cah 9 (by decide) rfl hq (by decide) (by decide) (by decide) (hp := 12) rfl ?_
    exact am_end 9 (by decide) rfl trivial (by decide) (by decide) ⟨rfl, rfl⟩
end QRY
