/-! THE PILES -/
section PIL
variable {g : List aK} {I A : Nat → Nat → Int32} {J : Nat → Nat → Int64} {X : Nat × (Nat → Int32)}
theorem t_push20 {n : Nat} {v : Int32} (hn : I 20 1 = nI n) (h : n < 9) : am_Con 1 22 [.ref 20, .int v] (am_H g I A J X) (.inl (some (.int 1))) (am_H g (am_u I 20 1 (nI (n + 1))) (am_u A 21 n v) J X) 0 0 := by
  refine am_met rfl rfl ?_
  refine am_nay 9 (by decide) rfl (by rw [hn]; exact nI_pos (by omega)) ?_
  refine am_yea 9 (by decide) rfl (by rw [hn]; exact nI_lt h (by decide)) ?_
  refine am_nee 9 (by decide) rfl (by rw [hn]; exact nI_in h (by decide)) ?_
  refine am_end 12 (by decide) rfl (Or.inr rfl) (by decide) (by decide) ⟨rfl, ?_⟩
  rw [hn, nI_clamp (show n < 2 ^ 31 by omega), nI_1]
theorem t_full20 {v : Int32} (hn : I 20 1 = nI 9) : am_Con 1 22 [.ref 20, .int v] (am_H g I A J X) (.inl (some (.int 0))) (am_H g I A J X) 0 0 := by
  refine am_met rfl rfl ?_
  refine am_nay 9 (by decide) rfl (by rw [hn]; decide) ?_
  refine am_nay 9 (by decide) rfl (by rw [hn]; decide) ?_
  exact am_end 9 (by decide) rfl (Or.inl rfl) (by decide) (by decide) ⟨rfl, rfl⟩
theorem t_pop20 {n : Nat} (hn : I 20 1 = nI (n + 1)) (h : n < 9) : am_Con 1 23 [.ref 20] (am_H g I A J X) (.inl none) (am_H g (am_u I 20 1 (nI n)) A J X) 0 0 := by
  refine am_met rfl rfl ?_
  refine am_nay 9 (by decide) rfl (by rw [hn]; exact nI_nle (by omega) (by omega)) ?_
  refine am_end 9 (by decide) rfl trivial (by decide) (by decide) ⟨rfl, ?_⟩
  rw [hn, nI_pred]
theorem t_last20 {n : Nat} (hn : I 20 1 = nI (n + 1)) (h : n < 9) : am_Con 1 24 [.ref 20] (am_H g I A J X) (.inl (some (.int (A 21 n)))) (am_H g I A J X) 0 0 := by
  refine am_met rfl rfl ?_
  refine am_nay 9 (by decide) rfl (by rw [hn]; exact nI_nle (by omega) (by omega)) ?_
  refine am_nay 9 (by decide) rfl (by rw [hn]; exact nI_nlt (show n + 1 ≤ 9 by omega) (by decide)) ?_
  have e : (I 20 1 - 1).toNatClampNeg = n := by rw [hn, nI_pred, nI_clamp (by omega)]
  refine am_nee 9 (by decide) rfl (by rw [hn, nI_pred]; exact nI_in h (by decide)) ?_
  rw [e]
  exact am_end 9 (by decide) rfl trivial (by decide) (by decide) ⟨rfl, rfl⟩
theorem t_none20 (hn : I 20 1 = nI 0) : am_Con 1 24 [.ref 20] (am_H g I A J X) (.inl (some (.int (-1)))) (am_H g I A J X) 0 0 := by
  refine am_met rfl rfl ?_
  refine am_yea 9 (by decide) rfl (by rw [hn]; decide) ?_
  exact am_end 9 (by decide) rfl trivial (by decide) (by decide) ⟨rfl, rfl⟩
theorem t_push22 {n : Nat} {v : Int32} (hn : I 22 1 = nI n) (h : n < 9) : am_Con 1 22 [.ref 22, .int v] (am_H g I A J X) (.inl (some (.int 1))) (am_H g (am_u I 22 1 (nI (n + 1))) (am_u A 23 n v) J X) 0 0 := by
  refine am_met rfl rfl ?_
  refine am_nay 9 (by decide) rfl (by rw [hn]; exact nI_pos (by omega)) ?_
  refine am_yea 9 (by decide) rfl (by rw [hn]; exact nI_lt h (by decide)) ?_
  refine am_nee 9 (by decide) rfl (by rw [hn]; exact nI_in h (by decide)) ?_
  refine am_end 12 (by decide) rfl (Or.inr rfl) (by decide) (by decide) ⟨rfl, ?_⟩
  rw [hn, nI_clamp (show n < 2 ^ 31 by omega), nI_1]
theorem t_full22 {v : Int32} (hn : I 22 1 = nI 9) : am_Con 1 22 [.ref 22, .int v] (am_H g I A J X) (.inl (some (.int 0))) (am_H g I A J X) 0 0 := by
  refine am_met rfl rfl ?_
  refine am_nay 9 (by decide) rfl (by rw [hn]; decide) ?_
  refine am_nay 9 (by decide) rfl (by rw [hn]; decide) ?_
  exact am_end 9 (by decide) rfl (Or.inl rfl) (by decide) (by decide) ⟨rfl, rfl⟩
theorem t_pop22 {n : Nat} (hn : I 22 1 = nI (n + 1)) (h : n < 9) : am_Con 1 23 [.ref 22] (am_H g I A J X) (.inl none) (am_H g (am_u I 22 1 (nI n)) A J X) 0 0 := by
  refine am_met rfl rfl ?_
  refine am_nay 9 (by decide) rfl (by rw [hn]; exact nI_nle (by omega) (by omega)) ?_
  refine am_end 9 (by decide) rfl trivial (by decide) (by decide) ⟨rfl, ?_⟩
  rw [hn, nI_pred]
theorem t_last22 {n : Nat} (hn : I 22 1 = nI (n + 1)) (h : n < 9) : am_Con 1 24 [.ref 22] (am_H g I A J X) (.inl (some (.int (A 23 n)))) (am_H g I A J X) 0 0 := by
  refine am_met rfl rfl ?_
  refine am_nay 9 (by decide) rfl (by rw [hn]; exact nI_nle (by omega) (by omega)) ?_
  refine am_nay 9 (by decide) rfl (by rw [hn]; exact nI_nlt (show n + 1 ≤ 9 by omega) (by decide)) ?_
  have e : (I 22 1 - 1).toNatClampNeg = n := by rw [hn, nI_pred, nI_clamp (by omega)]
  refine am_nee 9 (by decide) rfl (by rw [hn, nI_pred]; exact nI_in h (by decide)) ?_
  rw [e]
  exact am_end 9 (by decide) rfl trivial (by decide) (by decide) ⟨rfl, rfl⟩
theorem t_none22 (hn : I 22 1 = nI 0) : am_Con 1 24 [.ref 22] (am_H g I A J X) (.inl (some (.int (-1)))) (am_H g I A J X) 0 0 := by
  refine am_met rfl rfl ?_
  refine am_yea 9 (by decide) rfl (by rw [hn]; decide) ?_
  exact am_end 9 (by decide) rfl trivial (by decide) (by decide) ⟨rfl, rfl⟩
theorem t_push24 {n : Nat} {v : Int32} (hn : I 24 1 = nI n) (h : n < 8) : am_Con 1 22 [.ref 24, .int v] (am_H g I A J X) (.inl (some (.int 1))) (am_H g (am_u I 24 1 (nI (n + 1))) (am_u A 25 n v) J X) 0 0 := by
  refine am_met rfl rfl ?_
  refine am_nay 9 (by decide) rfl (by rw [hn]; exact nI_pos (by omega)) ?_
  refine am_yea 9 (by decide) rfl (by rw [hn]; exact nI_lt h (by decide)) ?_
  refine am_nee 9 (by decide) rfl (by rw [hn]; exact nI_in h (by decide)) ?_
  refine am_end 12 (by decide) rfl (Or.inr rfl) (by decide) (by decide) ⟨rfl, ?_⟩
  rw [hn, nI_clamp (show n < 2 ^ 31 by omega), nI_1]
theorem t_full24 {v : Int32} (hn : I 24 1 = nI 8) : am_Con 1 22 [.ref 24, .int v] (am_H g I A J X) (.inl (some (.int 0))) (am_H g I A J X) 0 0 := by
  refine am_met rfl rfl ?_
  refine am_nay 9 (by decide) rfl (by rw [hn]; decide) ?_
  refine am_nay 9 (by decide) rfl (by rw [hn]; decide) ?_
  exact am_end 9 (by decide) rfl (Or.inl rfl) (by decide) (by decide) ⟨rfl, rfl⟩
theorem t_pop24 {n : Nat} (hn : I 24 1 = nI (n + 1)) (h : n < 8) : am_Con 1 23 [.ref 24] (am_H g I A J X) (.inl none) (am_H g (am_u I 24 1 (nI n)) A J X) 0 0 := by
  refine am_met rfl rfl ?_
  refine am_nay 9 (by decide) rfl (by rw [hn]; exact nI_nle (by omega) (by omega)) ?_
  refine am_end 9 (by decide) rfl trivial (by decide) (by decide) ⟨rfl, ?_⟩
  rw [hn, nI_pred]
theorem t_last24 {n : Nat} (hn : I 24 1 = nI (n + 1)) (h : n < 8) : am_Con 1 24 [.ref 24] (am_H g I A J X) (.inl (some (.int (A 25 n)))) (am_H g I A J X) 0 0 := by
  refine am_met rfl rfl ?_
  refine am_nay 9 (by decide) rfl (by rw [hn]; exact nI_nle (by omega) (by omega)) ?_
  refine am_nay 9 (by decide) rfl (by rw [hn]; exact nI_nlt (show n + 1 ≤ 8 by omega) (by decide)) ?_
  have e : (I 24 1 - 1).toNatClampNeg = n := by rw [hn, nI_pred, nI_clamp (by omega)]
  refine am_nee 9 (by decide) rfl (by rw [hn, nI_pred]; exact nI_in h (by decide)) ?_
  rw [e]
  exact am_end 9 (by decide) rfl trivial (by decide) (by decide) ⟨rfl, rfl⟩
theorem t_none24 (hn : I 24 1 = nI 0) : am_Con 1 24 [.ref 24] (am_H g I A J X) (.inl (some (.int (-1)))) (am_H g I A J X) 0 0 := by
  refine am_met rfl rfl ?_
  refine am_yea 9 (by decide) rfl (by rw [hn]; decide) ?_
  exact am_end 9 (by decide) rfl trivial (by decide) (by decide) ⟨rfl, rfl⟩
end PIL
