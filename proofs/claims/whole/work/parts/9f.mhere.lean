/-! THE REFERENCE'S PARSER: the token that is looked at -/
theorem m_cd_words : ∀ i, i < 11 → ∀ j, j < 11 → (m_wd.getD j 0 = m_wd.getD i 0 → j = i) ∧ m_wd.getD i 0 ≠ 0 := by decide +kernel
theorem i32_le_nat {k : Int32} {a b : Nat} (hb : b < 2 ^ 31) (h1 : ¬ k < nI a) (h2 : k < nI b) (ha : a < 2 ^ 31) : ∃ c : Nat, k = nI c ∧ a ≤ c ∧ c < b := by
  have e1 := nI_toInt ha
  have e2 := nI_toInt hb
  have h1' : (a : Int) ≤ k.toInt := by
    have := Int32.not_lt.mp h1
    rw [Int32.le_iff_toInt_le, e1] at this
    exact this
  have h2' : k.toInt < (b : Int) := by
    rw [Int32.lt_iff_toInt_lt, e2] at h2
    exact h2
  refine ⟨k.toInt.toNat, ?_, by omega, by omega⟩
  apply Int32.toInt_inj.mp
  rw [nI_toInt (by omega)]
  omega
/-- a word's mark by kind and code -/
theorem m_word {k : Int32} {i : Nat} (hi : i < 11) : (s_kd k = 2 ∧ m_cd k = m_wd.getD i 0) ↔ k = nI (11 + i) := by
  refine ⟨fun h => ?_, fun h => ?_⟩
  · obtain ⟨h1, h2⟩ := h
    unfold m_cd at h2
    have hw := (m_cd_words i hi 0 (by decide)).2
    by_cases c1 : k < 11
    · rw [if_pos c1] at h2
      exact absurd h2.symm hw
    · rw [if_neg c1] at h2
      by_cases c2 : k < 22
      · obtain ⟨c, hc, hc1, hc2⟩ := i32_le_nat (a := 11) (b := 22) (by decide) c1 c2 (by decide)
        rw [if_pos c2, hc, nI_clamp (by omega)] at h2
        have := (m_cd_words i hi (c - 11) (by omega)).1 h2
        rw [hc]
        congr 1
        omega
      · exfalso
        unfold s_kd at h1
        rw [if_neg c2] at h1
        split at h1
        · next hk =>
          rcases hk with r | r | r | r | r | r | r <;> (subst r; exact absurd h1 (by decide))
        · exact absurd h1 (by decide)
  · subst h
    revert hi
    revert i
    decide +kernel
theorem m_sign_d : ∀ d : Nat, d < 128 → 22 ≤ d → (nI d - 128 < 22 ∧ s_kd (nI d) = 5 ∧ m_cd (nI d) = (nI d).toInt64) := by decide +kernel
/-- a sign's mark by kind and code -/
theorem m_sign {k c : Int32} {d : Nat} (hc : c = nI d) (hd : 22 ≤ d) (hd2 : d < 128) : (s_kd k = 5 ∧ m_cd k = c.toInt64) ↔ k = c := by
  refine ⟨fun h => ?_, fun h => ?_⟩
  · obtain ⟨h1, h2⟩ := h
    have n22 : ¬ k < 22 := fun z => by
      unfold s_kd at h1
      rw [if_pos z] at h1
      split at h1
      · next hk =>
        rcases hk with r | r | r | r | r | r | r <;> (subst r; exact absurd h1 (by decide))
      · exact absurd h1 (by decide)
    have n11 : ¬ k < 11 := fun z => n22 (Int32.lt_trans z (by decide))
    unfold m_cd at h2
    rw [if_neg n11, if_neg n22] at h2
    by_cases c1 : k < 128
    · rw [if_pos c1] at h2
      have := congrArg Int64.toInt h2
      rw [Int32.toInt_toInt64, Int32.toInt_toInt64] at this
      exact Int32.toInt_inj.mp this
    · exfalso
      rw [if_neg c1] at h2
      have h3 := congrArg Int64.toInt h2
      rw [Int32.toInt_toInt64, Int32.toInt_toInt64] at h3
      have h4 : k + 128 = c := Int32.toInt_inj.mp h3
      have h5 : k = c - 128 := by rw [← h4, Int32.add_sub_cancel]
      have h6 : c - 128 < 22 := by
        rw [hc]
        exact (m_sign_d d hd2 hd).1
      exact n22 (h5 ▸ h6)
  · subst h
    rw [hc]
    exact (m_sign_d d hd2 hd).2
