/-! THE TEXT -/
section TXT
variable {g : List aK} {I A : Nat → Nat → Int32} {J : Nat → Nat → Int64} {X : Nat × (Nat → Int32)}
theorem t_add {n : Nat} {ch : Int32} (hn : I 1 1 = nI n) (h6 : n < 600) (hc : narrow .char (.int ch) = .int ch) : am_Con 1 18 [.ref 1, .int ch] (am_H g I A J X) (.inl none) (am_H g (am_u I 1 1 (nI (n + 1))) (am_u A 2 n ch) J X) 0 0 := by
  refine am_met rfl rfl ?_
  refine am_nay 9 (by decide) rfl (by rw [hn]; exact nI_pos (by omega)) ?_
  refine am_nay 9 (by decide) rfl (by rw [hn]; exact nI_ge h6 (by decide)) ?_
  refine am_nee 9 (by decide) rfl (by rw [hn]; exact nI_in h6 (by decide)) ?_
  refine am_end 9 (by decide) rfl trivial (by decide) (by decide) ⟨rfl, ?_⟩
  have e : vp_nar .char ch = ch := by simp [vp_nar, hc]
  rw [hn, nI_clamp (show n < 2 ^ 31 by omega), nI_1, e]
/-- the character at a place, 0 where there is none -/
def c_at (A : Nat → Nat → Int32) (n p : Nat) : Int32 := if p < n then A 2 p else 0
theorem t_at {n p : Nat} (hn : I 1 1 = nI n) (h6 : n ≤ 600) (hp : p < 2 ^ 31) (hc : ∀ k, k < n → narrow .char (.int (A 2 k)) = .int (A 2 k)) : am_Con 1 19 [.ref 1, .int (nI p)] (am_H g I A J X) (.inl (some (.int (c_at A n p)))) (am_H g I A J X) 0 0 := by
  refine am_met rfl rfl ?_
  refine am_nay 9 (by decide) rfl (nI_pos hp) ?_
  rcases Nat.lt_or_ge p n with q | q
  · refine am_nay 9 (by decide) rfl (by rw [hn]; exact nI_ge q (by omega)) ?_
    refine am_nay 9 (by decide) rfl (nI_ge (show p < 600 by omega) (by decide)) ?_
    refine am_nee 9 (by decide) rfl (nI_in (show p < 600 by omega) (by decide)) ?_
    rw [nI_clamp hp]
    exact am_end 9 (by decide) rfl (hc p q) (by decide) (by decide) ⟨by rw [c_at, if_pos q], rfl⟩
  · refine am_yea 9 (by decide) rfl (by rw [hn]; exact nI_le q hp) ?_
    exact am_end 9 (by decide) rfl rfl (by decide) (by decide) ⟨by rw [c_at, if_neg (by omega)], rfl⟩
end TXT
