/-! THE WHOLE -/
theorem law_z0 {I A : Nat → Nat → Int32} {J : Nat → Nat → Int64} : z_Z (am_u (am_z (i_I (am_z I 0 0)) 29 0) 29 4 (-1)) (am_z (i_A2 (i_A A)) 56 0) := by
  refine ⟨(am_z (i_A2 (i_A A)) 56 0) 2, 0, 0, -1, 0, fun _ => (0, 0, 0, 0), [], [], ⟨⟨?_, by decide, rfl, fun k hk => absurd hk (Nat.not_lt_zero _)⟩, ?_, ?_, ⟨?_, by decide, fun k hk => absurd hk (Nat.not_lt_zero _)⟩, ?_, by decide, trivial, ⟨?_, fun k hk => absurd hk (Nat.not_lt_zero _), fun x hx => absurd hx List.not_mem_nil⟩, by decide⟩, ⟨?_, fun k hk => absurd hk (Nat.not_lt_zero _), ?_, ?_, ?_, ?_, ⟨?_, by decide, fun k hk => absurd hk (Nat.not_lt_zero _)⟩, ?_, trivial, ⟨?_, fun k hk => absurd hk (Nat.not_lt_zero _)⟩⟩⟩
  all_goals simp [i_I, i_A, i_A2, am_u, am_z]
  all_goals rfl
theorem law_ok : am_Law := by
  intro L xs hL
  refine am_new1 9 (by decide) rfl trivial (by decide) (by decide) ?_
  refine am_can 9 (by decide) rfl i_107 (by decide) (by decide) (by decide) ?_
  refine am_new1 9 (by decide) rfl trivial (by decide) (by decide) ?_
  refine am_can 9 (by decide) rfl i_126 (by decide) (by decide) (by decide) ?_
  refine am_new1 9 (by decide) rfl (by decide) (by decide) (by decide) ?_
  refine am_pla 3 (by decide) rfl ?_
  exact lw_loop hL 512 0 [] _ _ _ _ _ (law_z0 (J := fun _ _ => 0)) (by omega) (by decide) (by decide) (by decide)
theorem i_vc : Claimed_1_1 ∧ Claimed_1_2 := am_claim law_ok
