/-! THE CLASS'S SCANNER: beginLine -/
theorem nI_div8 {a : Nat} (h : a < 2 ^ 31) : nI a / 8 = nI (a / 8) := by
  apply Int32.toInt_inj.mp
  rw [Int32.toInt_div, nI_toInt h, nI_toInt (by omega), show (8 : Int32).toInt = 8 from rfl]
  rw [Int.tdiv_eq_ediv_of_nonneg (by omega)]
  have e : ((a : Int) / 8) = ((a / 8 : Nat) : Int) := by omega
  rw [e]
  apply Int.bmod_eq_of_le <;> omega
theorem nI_mul (a b : Nat) : nI a * nI b = nI (a * b) := (Int32.ofNat_mul a b).symm
theorem nI_sub {a b : Nat} (h : b ≤ a) : nI a - nI b = nI (a - b) := by
  have : nI a = nI (a - b) + nI b := by rw [nI_add, Nat.sub_add_cancel h]
  rw [this]
  simp
theorem s_bl_le {tx : Nat → Int32} : ∀ (f p w : Nat), p ≤ (s_bl tx f p w).1 ∧ (s_bl tx f p w).1 ≤ p + f ∧ (s_bl tx f p w).2 ≤ w + 8 * f
  | 0, p, w => ⟨Nat.le_refl _, Nat.le_refl _, Nat.le_refl _⟩
  | f + 1, p, w => by
    unfold s_bl
    split
    · have h := s_bl_le (tx := tx) f (p + 1) (if tx p = 9 then w / 8 * 8 + 8 else w + 1)
      have hw : (if tx p = 9 then w / 8 * 8 + 8 else w + 1) ≤ w + 8 := by split <;> omega
      omega
    · dsimp only; omega
theorem s_run_le {f : Nat → Bool} : ∀ (m p : Nat), p ≤ s_run f m p ∧ s_run f m p ≤ p + m
  | 0, p => ⟨Nat.le_refl _, Nat.le_refl _⟩
  | m + 1, p => by
    unfold s_run
    split
    · have h := s_run_le (f := f) m (p + 1)
      omega
    · omega
section BEG
variable {g : List aK} {I A : Nat → Nat → Int32} {J : Nat → Nat → Int64} {X : Nat × (Nat → Int32)} {tx : Nat → Int32} {n p0 : Nat}
abbrev c_l48 (w p0 : Nat) : List (Nat × Value) := [(2, .int (nI w)), (1, .int (nI p0)), (0, .ref 19)]
theorem k_bl (hT : c_T tx n I A) : ∀ (f p w : Nat), p + f = n → w + 8 * f < 2 ^ 20 → am_To 48 12 (7, c_l48 w p0, [], am_H g (am_u I 19 6 (nI p)) A J X) (84, c_l48 (s_bl tx f p w).2 p0, [], am_H g (am_u I 19 6 (nI (s_bl tx f p w).1)) A J X) := by
  have hn := hT.2.1
  intro f
  induction f with
  | zero =>
    intro p w hp hw B C u c Q hu hc k
    refine am_yea 9 (by decide) rfl ?_ k
    rw [am_uk, (hT.put (by decide)).1]
    exact nI_le (by omega) (by omega)
  | succ f ih =>
    intro p w hp hw B C u c Q hu hc k
    have hT' : c_T tx n (am_u I 19 6 (nI p)) A := hT.put (by decide)
    have e0 : s_ch tx n p = tx p := if_pos (by omega)
    have hat := k_at (g := g) (J := J) (X := X) (p := p) hT' (by omega)
    rw [e0] at hat
    refine am_nay 9 (by decide) rfl (by rw [am_uk, hT'.1]; exact nI_ge (show p < n by omega) (by omega)) ?_
    refine am_cav 9 (by decide) rfl (by rw [am_uk]; exact hat) (by decide) hu hc ?_
    refine am_cav 9 (by decide) rfl t_blank (by decide) hu hc ?_
    by_cases cb : c_blank (tx p) = true
    · have eq1 : s_bl tx (f + 1) p w = s_bl tx f (p + 1) (if tx p = 9 then w / 8 * 8 + 8 else w + 1) := by rw [s_bl, if_pos cb]
      rw [eq1] at k
      refine am_nay 9 (by decide) rfl (am_b1.mpr cb) ?_
      refine am_cav 9 (by decide) rfl (by rw [am_uk]; exact hat) (by decide) hu hc ?_
      by_cases c9 : tx p = 9
      · refine am_nay 9 (by decide) rfl (fun q => q c9) ?_
        rw [if_pos c9] at k
        have := ih (p + 1) (w / 8 * 8 + 8) (by omega) (by omega) B C u c Q hu hc k
        refine am_nee 9 (by decide) rfl (by decide) ?_
        refine am_pla 13 (by decide) rfl ?_
        rw [am_uk, am_uu, nI_1, nI_div8 (by omega), show (8 : Int32) = nI 8 from rfl, nI_mul, nI_add]
        exact this
      · refine am_yea 9 (by decide) rfl c9 ?_
        rw [if_neg c9] at k
        have := ih (p + 1) (w + 1) (by omega) (by omega) B C u c Q hu hc k
        refine am_pla 11 (by decide) rfl ?_
        rw [am_uk, am_uu, nI_1, nI_1]
        exact this
    · have eq1 : s_bl tx (f + 1) p w = (p, w) := by rw [s_bl, if_neg cb]
      rw [eq1] at k
      exact am_yea 9 (by decide) rfl (am_b0.mpr (by simpa using cb)) k
end BEG
