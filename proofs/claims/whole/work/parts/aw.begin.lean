/-! THE BEGIN: the class, the reference -/
section INB
variable {I A : Nat → Nat → Int32} {J : Nat → Nat → Int64} {X : Nat × (Nat → Int32)}
def i_I (I : Nat → Nat → Int32) : Nat → Nat → Int32 := (am_u (am_z (am_u (am_z (am_u (am_u (am_u (am_z (am_u (am_z (am_u (am_z (am_z (am_u (am_z (am_u (am_z (am_u (am_u (am_z (am_u (am_z I 1 0) 1 1 0) 3 0) 3 0 0) 3 1 (-1)) 4 0) 4 4 0) 9 0) 9 9 0) 19 0) 20 0) 20 1 0) 22 0) 22 1 0) 24 0) 24 1 0) 19 6 0) 19 7 0) 26 0) 26 3 0) 27 0) 27 4 0)
def i_A (A : Nat → Nat → Int32) : Nat → Nat → Int32 := (am_z (am_z (am_z (am_z (am_z (am_z (am_z (am_z (am_z (am_z (am_z (am_z (am_z (am_z (am_z (am_z (am_z (am_z A 2 0) 5 0) 6 0) 7 0) 8 0) 10 0) 11 0) 12 0) 13 0) 14 0) 15 0) 16 0) 17 0) 18 0) 21 0) 23 0) 25 0) 28 0)
def i_J (J : Nat → Nat → Int64) : Nat → Nat → Int64 := (am_z (am_z (am_z (am_z (am_z (am_z (am_z (am_z (am_z (am_z (am_z (am_z (am_z (am_z (am_z (am_z (am_z (am_z J 2 0) 5 0) 6 0) 7 0) 8 0) 10 0) 11 0) 12 0) 13 0) 14 0) 15 0) 16 0) 17 0) 18 0) 21 0) 23 0) 25 0) 28 0)
theorem i_107 : am_Con 9 107 [.ref 0] ([.inl (8, [.null, .null, .null, .null, .null, .null, .null])], I, A, J, X) (.inl none) (am_layC, i_I I, i_A A, i_J J, X) 28 7508 := by
  refine am_met rfl rfl ?_
  refine am_new1 9 (by decide) rfl trivial (by decide) (by decide) ?_
  refine am_can 9 (by decide) rfl i_17 (by decide) (by decide) (by decide) ?_
  refine am_new1 9 (by decide) rfl trivial (by decide) (by decide) ?_
  refine am_can 9 (by decide) rfl i_14 (by decide) (by decide) (by decide) ?_
  refine am_new1 9 (by decide) rfl trivial (by decide) (by decide) ?_
  refine am_can 9 (by decide) rfl i_25 (by decide) (by decide) (by decide) ?_
  refine am_new1 9 (by decide) rfl trivial (by decide) (by decide) ?_
  refine am_can 9 (by decide) rfl i_31 (by decide) (by decide) (by decide) ?_
  refine am_new1 20 (by decide) rfl trivial (by decide) (by decide) ?_
  refine am_can 9 (by decide) rfl i_45 (by decide) (by decide) (by decide) ?_
  refine am_new1 9 (by decide) rfl trivial (by decide) (by decide) ?_
  refine am_can 9 (by decide) rfl i_63 (by decide) (by decide) (by decide) ?_
  refine am_new1 9 (by decide) rfl trivial (by decide) (by decide) ?_
  refine am_can 9 (by decide) rfl i_89 (by decide) (by decide) (by decide) ?_
  exact am_end 9 (by decide) rfl trivial (by decide) (by decide) ⟨rfl, rfl⟩
def i_A2 (A : Nat → Nat → Int32) : Nat → Nat → Int32 := (am_z (am_z (am_z (am_z (am_z (am_z (am_z (am_z (am_z (am_z (am_z (am_z (am_z (am_z (am_z (am_z (am_z (am_z (am_z (am_z (am_z (am_z (am_z (am_z (am_z (am_z A 30 0) 31 0) 32 0) 33 0) 34 0) 35 0) 36 0) 37 0) 38 0) 39 0) 40 0) 41 0) 42 0) 43 0) 44 0) 45 0) 46 0) 47 0) 48 0) 49 0) 50 0) 51 0) 52 0) 53 0) 54 0) 55 0)
def i_J2 (J : Nat → Nat → Int64) : Nat → Nat → Int64 := (am_z (am_z (am_z (am_z (am_z (am_z (am_z (am_z (am_z (am_z (am_z (am_z (am_z (am_z (am_z (am_z (am_z (am_z (am_z (am_z (am_z (am_z (am_z (am_z (am_z (am_z J 30 0) 31 0) 32 0) 33 0) 34 0) 35 0) 36 0) 37 0) 38 0) 39 0) 40 0) 41 0) 42 0) 43 0) 44 0) 45 0) 46 0) 47 0) 48 0) 49 0) 50 0) 51 0) 52 0) 53 0) 54 0) 55 0)
theorem i_126 : am_Con 2 126 [.ref 29] (am_layC ++ [.inl (9, [.null, .null, .null, .null, .null, .null, .null, .null, .null, .null, .null, .null, .null, .null, .null, .null, .null, .null, .null, .null, .null, .null, .null, .null, .null, .null, .null, .null, .null, .null, .null, .null, .null, .null, .null, .null, .null, .null, .null, .null, .null, .null, .null])], I, A, J, X) (.inl none) (am_layC ++ am_layM, am_u I 29 4 (-1), i_A2 A, i_J2 J, X) 26 8406 := by
  refine am_met rfl rfl ?_
  refine am_new1 9 (by decide) rfl (by decide) (by decide) (by decide) ?_
  refine am_new1 9 (by decide) rfl (by decide) (by decide) (by decide) ?_
  refine am_new1 9 (by decide) rfl (by decide) (by decide) (by decide) ?_
  refine am_new1 9 (by decide) rfl (by decide) (by decide) (by decide) ?_
  refine am_new1 9 (by decide) rfl (by decide) (by decide) (by decide) ?_
  refine am_new1 9 (by decide) rfl (by decide) (by decide) (by decide) ?_
  refine am_new1 9 (by decide) rfl (by decide) (by decide) (by decide) ?_
  refine am_new1 9 (by decide) rfl (by decide) (by decide) (by decide) ?_
  refine am_new1 9 (by decide) rfl (by decide) (by decide) (by decide) ?_
  refine am_new1 9 (by decide) rfl (by decide) (by decide) (by decide) ?_
  refine am_new1 9 (by decide) rfl (by decide) (by decide) (by decide) ?_
  refine am_new1 9 (by decide) rfl (by decide) (by decide) (by decide) ?_
  refine am_new1 9 (by decide) rfl (by decide) (by decide) (by decide) ?_
  refine am_new1 9 (by decide) rfl (by decide) (by decide) (by decide) ?_
  refine am_new1 9 (by decide) rfl (by decide) (by decide) (by decide) ?_
  refine am_new1 9 (by decide) rfl (by decide) (by decide) (by decide) ?_
  refine am_new1 9 (by decide) rfl (by decide) (by decide) (by decide) ?_
  refine am_new1 9 (by decide) rfl (by decide) (by decide) (by decide) ?_
  refine am_new1 9 (by decide) rfl (by decide) (by decide) (by decide) ?_
  refine am_new1 9 (by decide) rfl (by decide) (by decide) (by decide) ?_
  refine am_new1 9 (by decide) rfl (by decide) (by decide) (by decide) ?_
  refine am_new1 9 (by decide) rfl (by decide) (by decide) (by decide) ?_
  refine am_new1 9 (by decide) rfl (by decide) (by decide) (by decide) ?_
  refine am_new1 9 (by decide) rfl (by decide) (by decide) (by decide) ?_
  refine am_new1 9 (by decide) rfl (by decide) (by decide) (by decide) ?_
  refine am_new1 9 (by decide) rfl (by decide) (by decide) (by decide) ?_
  exact am_end 9 (by decide) rfl trivial (by decide) (by decide) ⟨rfl, rfl⟩
end INB
