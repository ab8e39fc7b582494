/-! THE LAW: its loop -/
theorem lw_end {L i : Nat} (h : L < i + 4) (hi : i ≤ 2052) (hL : L ≤ 2048) : nI L - 4 < nI i := by
  by_cases h4 : 4 ≤ L
  · rw [show nI L - 4 = nI (L - 4) from nI_sub (b := 4) h4]
    exact nI_lt (by omega) (by omega)
  · have h0 : ∀ L, L < 4 → nI L - 4 < 0 := by decide
    exact Int32.lt_of_lt_of_le (h0 L (by omega)) (nI_le (a := 0) (Nat.zero_le _) (by omega))
section LWL
variable {L : Nat} {xs : Nat → Int32} {B C : Nat}
theorem lw_loop (hL : L ≤ 2048) : ∀ (f i : Nat) (g : List aK) (I A : Nat → Nat → Int32) (J : Nat → Nat → Int64) (u c : Nat), z_Z I A → L ≤ i + 4 * f + 3 → i ≤ 2052 → u + 2 * f ≤ B → c + 12 * f ≤ C → am_Tri 200 2048 B C u c (23, lw_l i, [], am_H g I A J (L, xs)) (fun o _ => o = .inl (some (.int 1))) := by
  intro f
  induction f with
  | zero =>
    intro i g I A J u c hz hf hi2 hu hc
    refine am_yea 9 (by decide) rfl (lw_end (by omega) (by omega) hL) ?_
    exact am_end 9 (by decide) rfl (Or.inr rfl) (by omega) (by omega) rfl
  | succ f ih =>
    intro i g I A J u c hz hf hi2 hu hc
    by_cases hi : i + 4 ≤ L
    case neg =>
      refine am_yea 9 (by decide) rfl (lw_end (by omega) (by omega) hL) ?_
      exact am_end 9 (by decide) rfl (Or.inr rfl) (by omega) (by omega) rfl
    have e4 : nI L - 4 = nI (L - 4) := nI_sub (b := 4) (by omega)
    refine am_nay 9 (by decide) rfl (show ¬ nI L - 4 < nI i by rw [e4]; exact nI_nlt (by omega) (by omega)) ?_
    refine am_nee 9 (by decide) rfl (nI_in (show i < L by omega) (by omega)) ?_
    rw [nI_clamp (by omega)]
    have hk : lw_K L xs i B C u c (fun o _ => o = .inl (some (.int 1))) := by
      intro g' I' A' J' u' c' hz' hu' hc'
      refine am_pla 2 (by decide) rfl ?_
      rw [show nI i + 4 = nI (i + 4) from nI_add i 4]
      exact ih (i + 4) g' I' A' J' u' c' hz' (by omega) (by omega) (by omega) (by omega)
    refine am_pla 2 (by decide) rfl ?_
    by_cases h0 : xs i &&& 15 = 0
    · refine am_swi 9 (by decide) rfl (Or.inl ⟨h0, rfl⟩) ?_
      exact lw_0 hz hi hL (by omega) (by omega) hk
    by_cases h1 : xs i &&& 15 = 1
    · refine am_swi 9 (by decide) rfl (Or.inr ⟨h0, Or.inl ⟨h1, rfl⟩⟩) ?_
      exact lw_1 hz (by omega) (by omega) hk
    by_cases h2 : xs i &&& 15 = 2
    · refine am_swi 9 (by decide) rfl (Or.inr ⟨h0, Or.inr ⟨h1, Or.inl ⟨h2, rfl⟩⟩⟩) ?_
      exact lw_2 hz (by omega) (by omega) hk
    by_cases h3 : xs i &&& 15 = 3
    · refine am_swi 9 (by decide) rfl (Or.inr ⟨h0, Or.inr ⟨h1, Or.inr ⟨h2, Or.inl ⟨h3, rfl⟩⟩⟩⟩) ?_
      exact lw_3 hz (by omega) (by omega) hk
    by_cases h4 : xs i &&& 15 = 4
    · refine am_swi 9 (by decide) rfl (Or.inr ⟨h0, Or.inr ⟨h1, Or.inr ⟨h2, Or.inr ⟨h3, Or.inl ⟨h4, rfl⟩⟩⟩⟩⟩) ?_
      exact lw_4 hz (by omega) (by omega) hk
    by_cases h5 : xs i &&& 15 = 5
    · refine am_swi 9 (by decide) rfl (Or.inr ⟨h0, Or.inr ⟨h1, Or.inr ⟨h2, Or.inr ⟨h3, Or.inr ⟨h4, Or.inl ⟨h5, rfl⟩⟩⟩⟩⟩⟩) ?_
      exact lw_5 hz hi hL (by omega) (by omega) hk
    by_cases h6 : xs i &&& 15 = 6
    · refine am_swi 9 (by decide) rfl (Or.inr ⟨h0, Or.inr ⟨h1, Or.inr ⟨h2, Or.inr ⟨h3, Or.inr ⟨h4, Or.inr ⟨h5, Or.inl ⟨h6, rfl⟩⟩⟩⟩⟩⟩⟩) ?_
      exact lw_6 hz (by omega) (by omega) hk
    by_cases h7 : xs i &&& 15 = 7
    · refine am_swi 9 (by decide) rfl (Or.inr ⟨h0, Or.inr ⟨h1, Or.inr ⟨h2, Or.inr ⟨h3, Or.inr ⟨h4, Or.inr ⟨h5, Or.inr ⟨h6, Or.inl ⟨h7, rfl⟩⟩⟩⟩⟩⟩⟩⟩) ?_
      exact lw_7 hz hi hL (by omega) (by omega) hk
    by_cases h8 : xs i &&& 15 = 8
    · refine am_swi 9 (by decide) rfl (Or.inr ⟨h0, Or.inr ⟨h1, Or.inr ⟨h2, Or.inr ⟨h3, Or.inr ⟨h4, Or.inr ⟨h5, Or.inr ⟨h6, Or.inr ⟨h7, Or.inl ⟨h8, rfl⟩⟩⟩⟩⟩⟩⟩⟩⟩) ?_
      exact lw_8 hz (by omega) (by omega) hk
    by_cases h9 : xs i &&& 15 = 9
    · refine am_swi 9 (by decide) rfl (Or.inr ⟨h0, Or.inr ⟨h1, Or.inr ⟨h2, Or.inr ⟨h3, Or.inr ⟨h4, Or.inr ⟨h5, Or.inr ⟨h6, Or.inr ⟨h7, Or.inr ⟨h8, Or.inl ⟨h9, rfl⟩⟩⟩⟩⟩⟩⟩⟩⟩⟩) ?_
      exact lw_9 hz hi hL (by omega) (by omega) hk
    refine am_swi 9 (by decide) rfl (Or.inr ⟨h0, Or.inr ⟨h1, Or.inr ⟨h2, Or.inr ⟨h3, Or.inr ⟨h4, Or.inr ⟨h5, Or.inr ⟨h6, Or.inr ⟨h7, Or.inr ⟨h8, Or.inr ⟨h9, rfl⟩⟩⟩⟩⟩⟩⟩⟩⟩⟩) ?_
    exact hk g I A J u c hz (by omega) (by omega)
end LWL
