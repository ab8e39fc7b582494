/-! THE REFERENCE'S TREE -/
def m_px (f : Nat) : Nat := if f = 0 then 39 else if f = 1 then 40 else if f = 2 then 46 else if f < 8 then 38 + f else 200 + f
def m_st (A : Nat → Nat → Int32) : aN := fun f => A (m_px f)
theorem m_px_inj {f f' : Nat} (h : m_px f = m_px f') : f = f' := by
  unfold m_px at h
  repeat' split at h
  all_goals omega
theorem m_st_u {A : Nat → Nat → Int32} {f k : Nat} {v : Int32} : m_st (am_u A (m_px f) k v) = am_u (m_st A) f k v := by
  funext x y
  unfold m_st am_u
  by_cases h : x = f
  · subst h; simp
  · have : ¬ m_px x = m_px f := fun z => h (m_px_inj z)
    simp [h, this]
def m_fp : List Nat := [3, 4, 29, 31, 35, 37]
def m_cp : List Nat := [39, 40, 41, 42, 43, 44, 45, 46, 48, 49, 50, 51]
abbrev m_addA (A : Nat → Nat → Int32) (m : Nat) (k t : Int32) : Nat → Nat → Int32 := am_u (am_u (am_u (am_u (am_u (am_u (am_u A 39 m k) 40 m t) 41 m 0) 42 m (-1)) 44 m (-1)) 45 m (-1)) 46 m 1
theorem m_addA_st {A : Nat → Nat → Int32} {m : Nat} {k t : Int32} : m_st (m_addA A m k t) = n_add (m_st A) m k t := by
  unfold m_addA n_add
  rw [show (39 : Nat) = m_px 0 from rfl, show (40 : Nat) = m_px 1 from rfl, show (41 : Nat) = m_px 3 from rfl, show (42 : Nat) = m_px 4 from rfl, show (44 : Nat) = m_px 6 from rfl, show (45 : Nat) = m_px 7 from rfl, show (46 : Nat) = m_px 2 from rfl]
  simp only [m_st_u]
  funext x y
  simp only [am_u]
  by_cases h : y = m
  · by_cases h2 : x = 2 <;> by_cases h3 : x = 3 <;> by_cases h4 : x = 4 <;> by_cases h6 : x = 6 <;> by_cases h7 : x = 7 <;> simp [h, h2, h3, h4, h6, h7] <;> omega
  · simp [h]
abbrev m_appA (A0 : Nat → Nat → Int32) (j v : Nat) (x hh : Int32) : Nat → Nat → Int32 := am_u (am_u (am_u (am_u A0 43 j (nI v)) 45 v (nI j)) 41 j x) 46 j hh
theorem m_appA_st {A : Nat → Nat → Int32} {j v : Nat} {hh : Int32} : m_st (m_appA (if m_st A 3 j = 0 then am_u A 42 j (nI v) else am_u A 44 (m_st A 5 j).toNatClampNeg (nI v)) j v (m_st A 3 j + 1) hh) = n_lnk (m_st A) j v hh := by
  unfold m_appA n_lnk
  rw [show (43 : Nat) = m_px 5 from rfl, show (45 : Nat) = m_px 7 from rfl, show (41 : Nat) = m_px 3 from rfl, show (46 : Nat) = m_px 2 from rfl]
  simp only [m_st_u]
  congr 4
  split
  · rw [show (42 : Nat) = m_px 4 from rfl, m_st_u]
  · rw [show (44 : Nat) = m_px 6 from rfl, m_st_u]
section MTR
variable {g : List aK} {X : Nat × (Nat → Int32)} {I A : Nat → Nat → Int32} {J : Nat → Nat → Int64} {m : Nat}
theorem y_make {k t : Int32} (hm : I 29 29 = nI m) (h : m < 400) : am_Con 1 148 [.ref 29, .int k, .int t] (am_H g I A J X) (.inl (some (.int (nI m)))) (am_H g (am_u I 29 29 (nI (m + 1))) (m_addA A m k t) J X) 0 0 := by
  have e1 : (I 29 29).toNatClampNeg = m := by rw [hm, nI_clamp (by omega)]
  have hin : ¬ (I 29 29 < 0 ∨ 400 ≤ (I 29 29).toNatClampNeg) := by rw [hm]; exact nI_in h (by decide)
  refine am_met rfl rfl ?_
  refine am_nee 9 (by decide) rfl hin ?_
  refine am_nee 9 (by decide) rfl hin ?_
  refine am_nee 9 (by decide) rfl hin ?_
  refine am_nee 9 (by decide) rfl hin ?_
  refine am_nee 9 (by decide) rfl hin ?_
  refine am_nee 9 (by decide) rfl hin ?_
  refine am_nee 9 (by decide) rfl hin ?_
  refine am_end 20 (by decide) rfl trivial (by decide) (by decide) ⟨?_, ?_⟩
  · rw [am_uk, hm, nI_1]
    congr 3
    exact nI_pred m
  · rw [e1, hm, nI_1]
theorem y_app {j v : Nat} (hj : j < 400) (hv : v < 400) (hl : m_st A 3 j = 0 ∨ ∃ i, i < 400 ∧ m_st A 5 j = nI i) : ∃ A', m_st A' = x_app (m_st A) j v ∧ m_Fr m_fp m_cp I A J I A' J ∧ (∀ x, x = 48 ∨ x = 49 ∨ x = 50 ∨ x = 51 → A' x = A x) ∧ am_Con 1 149 [.ref 29, .int (nI j), .int (nI v)] (am_H g I A J X) (.inl none) (am_H g I A' J X) 0 0 := by
  refine ⟨m_appA (if m_st A 3 j = 0 then am_u A 42 j (nI v) else am_u A 44 (m_st A 5 j).toNatClampNeg (nI v)) j v (m_st A 3 j + 1) (if m_st A 2 v < m_st A 2 j then m_st A 2 j else m_st A 2 v + 1), m_appA_st, ?_, ?_, ?_⟩
  · refine ((((?_ : m_Fr m_fp m_cp I A J I _ J).trans (m_Fr.set (by decide))).trans (m_Fr.set (by decide))).trans (m_Fr.set (by decide))).trans (m_Fr.set (by decide))
    split
    · exact m_Fr.set (by decide)
    · exact m_Fr.set (by decide)
  · intro x hx
    unfold m_appA
    rw [am_uo (by omega), am_uo (by omega), am_uo (by omega), am_uo (by omega)]
    split
    · exact am_uo (by omega)
    · exact am_uo (by omega)
  · have hinj : ¬ (nI j < 0 ∨ 400 ≤ (nI j).toNatClampNeg) := nI_in hj (by decide)
    have hinv : ¬ (nI v < 0 ∨ 400 ≤ (nI v).toNatClampNeg) := nI_in hv (by decide)
    have ej : (nI j).toNatClampNeg = j := nI_clamp (by omega)
    have ev : (nI v).toNatClampNeg = v := nI_clamp (by omega)
    have e41 : A 41 j = m_st A 3 j := rfl
    refine am_met rfl rfl ?_
    refine am_nee 9 (by decide) rfl hinj ?_
    by_cases c0 : m_st A 3 j = 0
    · rw [if_pos c0]
      refine am_nay 9 (by decide) rfl (by rw [ej, e41]; exact fun z => z c0) ?_
      refine am_nee 9 (by decide) rfl hinj ?_
      refine am_nee 9 (by decide) rfl hinj ?_
      refine am_nee 9 (by decide) rfl hinv ?_
      refine am_nee 9 (by decide) rfl hinj ?_
      refine am_nee 9 (by decide) rfl hinj ?_
      refine am_nee 9 (by decide) rfl hinv ?_
      refine am_nee 9 (by decide) rfl hinj ?_
      by_cases ch : m_st A 2 v < m_st A 2 j
      · refine am_yea 9 (by decide) rfl (by rw [ej, ev]; simpa [am_u, m_st, m_px] using ch) ?_
        refine am_nee 9 (by decide) rfl hinj ?_
        refine am_nee 9 (by decide) rfl hinj ?_
        refine am_end 9 (by decide) rfl trivial (by decide) (by decide) ⟨rfl, ?_⟩
        rw [if_pos ch, ej, ev]
        simp [m_appA, m_st, m_px, am_u]
      · refine am_nay 9 (by decide) rfl (by rw [ej, ev]; simpa [am_u, m_st, m_px] using ch) ?_
        refine am_nee 9 (by decide) rfl hinv ?_
        refine am_nee 9 (by decide) rfl hinj ?_
        refine am_end 9 (by decide) rfl trivial (by decide) (by decide) ⟨rfl, ?_⟩
        rw [if_neg ch, ej, ev]
        simp [m_appA, m_st, m_px, am_u]
    · rw [if_neg c0]
      obtain ⟨i, i1, i2⟩ := hl.resolve_left c0
      have e43 : A 43 (nI j).toNatClampNeg = nI i := by rw [ej]; exact i2
      refine am_yea 9 (by decide) rfl (by rw [ej, e41]; exact c0) ?_
      refine am_nee 9 (by decide) rfl hinj ?_
      refine am_nee 9 (by decide) rfl (by rw [e43]; exact nI_in i1 (by decide)) ?_
      refine am_nee 9 (by decide) rfl hinj ?_
      refine am_nee 9 (by decide) rfl hinv ?_
      refine am_nee 9 (by decide) rfl hinj ?_
      refine am_nee 9 (by decide) rfl hinj ?_
      refine am_nee 9 (by decide) rfl hinv ?_
      refine am_nee 9 (by decide) rfl hinj ?_
      by_cases ch : m_st A 2 v < m_st A 2 j
      · refine am_yea 9 (by decide) rfl (by rw [ej, ev]; simpa [am_u, m_st, m_px] using ch) ?_
        refine am_nee 9 (by decide) rfl hinj ?_
        refine am_nee 9 (by decide) rfl hinj ?_
        refine am_end 9 (by decide) rfl trivial (by decide) (by decide) ⟨rfl, ?_⟩
        rw [if_pos ch, e43, ej, ev, i2]
        simp [m_appA, m_st, m_px, am_u]
      · refine am_nay 9 (by decide) rfl (by rw [ej, ev]; simpa [am_u, m_st, m_px] using ch) ?_
        refine am_nee 9 (by decide) rfl hinv ?_
        refine am_nee 9 (by decide) rfl hinj ?_
        refine am_end 9 (by decide) rfl trivial (by decide) (by decide) ⟨rfl, ?_⟩
        rw [if_neg ch, e43, ej, ev, i2]
        simp [m_appA, m_st, m_px, am_u]
end MTR
