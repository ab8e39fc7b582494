/-! THE REFERENCE'S PARSER: closing -/
theorem n_lnk_f {S : aN} {j v : Nat} {hh : Int32} : (∀ k, n_lnk S j v hh 1 k = S 1 k) ∧ (∀ k, k ≠ j → n_lnk S j v hh 3 k = S 3 k) ∧ (∀ k, k ≠ j → n_lnk S j v hh 5 k = S 5 k) ∧ n_lnk S j v hh 5 j = nI v ∧ n_lnk S j v hh 3 j = S 3 j + 1 ∧ (∀ k, n_lnk S j v hh 0 k = S 0 k) := by
  have ne : ∀ f, f = 1 ∨ f = 3 ∨ f = 5 ∨ f = 0 → ∀ k, (if S 3 j = 0 then am_u S 4 j (nI v) else am_u S 6 (S 5 j).toNatClampNeg (nI v)) f k = S f k := fun f hf k => by
    split
    · exact am_un (fun z => by omega)
    · exact am_un (fun z => by omega)
  unfold n_lnk
  refine ⟨fun k => ?_, fun k hk => ?_, fun k hk => ?_, ?_, ?_, fun k => ?_⟩
  · rw [am_un (by simp), am_un (by simp), am_un (by simp), am_un (by simp), ne 1 (by simp)]
  · rw [am_un (by simp), am_un (fun z => hk z.2), am_un (by simp), am_un (by simp), ne 3 (by simp)]
  · rw [am_un (by simp), am_un (by simp), am_un (by simp), am_un (fun z => hk z.2), ne 5 (by simp)]
  · rw [am_un (by simp), am_un (by simp), am_un (by simp), am_uk]
  · rw [am_un (by simp), am_uk]
  · rw [am_un (by simp), am_un (by simp), am_un (by simp), am_un (by simp), ne 0 (by simp)]
theorem x_So.add {T m t : Nat} {S : aN} {k : Int32} (h : x_So T m S) (ht : t < T) : x_So T (m + 1) (n_add S m k (nI t)) := by
  intro i hi
  by_cases e : i = m
  · subst e
    exact ⟨Or.inl (by simp [n_add, am_u]), t, ht, by simp [n_add, am_u]⟩
  · rw [n_add_o e, n_add_o e, n_add_o e]
    obtain ⟨h1, h2⟩ := h i (by omega)
    refine ⟨?_, h2⟩
    rcases h1 with r | ⟨x, x1, x2⟩
    · exact Or.inl r
    · exact Or.inr ⟨x, by omega, x2⟩
theorem x_So.app {T m j v : Nat} {S : aN} (h : x_So T m S) (hv : v < m) : x_So T m (x_app S j v) := by
  intro i hi
  obtain ⟨f1, f2, f3, f4, f5, -⟩ := n_lnk_f (S := S) (j := j) (v := v) (hh := if S 2 v < S 2 j then S 2 j else S 2 v + 1)
  obtain ⟨h1, h2⟩ := h i hi
  unfold x_app
  rw [f1]
  refine ⟨?_, h2⟩
  by_cases e : i = j
  · subst e
    exact Or.inr ⟨v, hv, f4⟩
  · rw [f2 i e, f3 i e]
    exact h1
section MCL
variable {g : List aK} {X : Nat × (Nat → Int32)} {T p : Nat} {tk : Nat → aT}
theorem y_kd {h : aH} {k : Int32} : am_Con 1 155 [.int k] h (.inl (some (.int (x_kd k)))) h 0 0 := by
  unfold x_kd
  refine am_met rfl rfl ?_
  by_cases c : k < 6
  · rw [if_pos c]
    refine am_nay 9 (by decide) rfl (Int32.not_le.mpr c) ?_
    exact am_end 9 (by decide) rfl trivial (by decide) (by decide) ⟨rfl, rfl⟩
  · rw [if_neg c]
    refine am_yea 9 (by decide) rfl (Int32.not_lt.mp c) ?_
    exact am_end 9 (by decide) rfl trivial (by decide) (by decide) ⟨rfl, rfl⟩
theorem y_fini {I A : Nat → Nat → Int32} {J : Nat → Nat → Int64} {K : List xK} {V : List Nat} {m n t : Nat} {S : aN} (hX : m_X T tk (p, K, V, m, S) I A J) (hn : n < 400) (ht : t < T) (h1 : S 1 n = nI t) (hV : V.length ≤ 15) : m_M m_fp m_cp 2 154 [.ref 29, .int (nI n)] g I A J X (m_Ry T tk (x_fin (d_pc tk) p n K V m S)) := by
  obtain ⟨h31, h35, hk, h37, hVV, h29, hS, hT⟩ := hX
  have h120 := hT.2.1
  have en : (nI n).toNatClampNeg = n := nI_clamp (by omega)
  have hin : ¬ (nI n < 0 ∨ 400 ≤ (nI n).toNatClampNeg) := nI_in hn (by decide)
  have e46 : A 46 n = S 2 n := by rw [← hS]; rfl
  have e40 : A 40 (nI n).toNatClampNeg = nI t := by rw [en, ← h1, ← hS]; rfl
  unfold x_fin
  refine m_D.met rfl rfl ?_
  refine m_D.nee 9 (by decide) rfl hin ?_
  by_cases c1 : 10 < S 2 n
  · rw [if_pos c1]
    refine m_D.nay 9 (by decide) rfl (by rw [en, e46]; exact Int32.not_le.mpr c1) ?_
    refine m_D.nee 9 (by decide) rfl hin ?_
    refine m_D.nee 9 (by decide) rfl (by rw [e40]; exact nI_in (show t < 120 by omega) (by decide)) ?_
    rw [show A 33 (A 40 (nI n).toNatClampNeg).toNatClampNeg = nI (d_pc tk (S 1 n).toNatClampNeg) from by rw [e40, h1, nI_clamp (by omega)]; exact (hT.2.2.1 t ht).2.1]
    refine m_D.cav (n := 9) (by decide) rfl y_fault (by decide) ((m_Fr.put (by decide)).trans (m_Fr.put (by decide))) ?_
    exact m_D.ret 9 (by decide) rfl (Or.inl rfl) m_Fr.refl ⟨rfl, by simp [am_u], by simp [am_u]⟩
  · rw [if_neg c1]
    refine m_D.yea 9 (by decide) rfl (by rw [en, e46]; exact Int32.not_lt.mp c1) ?_
    refine m_D.nee 9 (by decide) rfl (by rw [h37]; exact nI_in (show V.length < 16 by omega) (by decide)) ?_
    refine m_D.ret 20 (by decide) rfl (Or.inr rfl) ((m_Fr.set (by decide)).trans (m_Fr.put (by decide))) ?_
    rw [h37, nI_clamp (by omega), nI_1]
    refine ⟨rfl, ?_, ?_, ?_, am_uk, ⟨?_, ?_⟩, ?_, ?_, ⟨?_, h120, ?_, by simpa [m_K, am_u] using hT.2.2.2⟩⟩
    · simpa [am_u] using h31
    · simpa [am_u] using h35
    · simpa [am_uo] using hk
    · simp [am_u]
    · refine c_P_same (fun j hj => ?_) hVV
      have : j ≠ V.length := by omega
      simp [am_u, this]
    · simpa [am_u] using h29
    · rw [← hS]
      funext f y
      unfold m_st
      have hne : m_px f ≠ 51 := by
        unfold m_px
        (repeat' split) <;> omega
      rw [am_uo hne]
    · simpa [am_u] using hT.1
    · simpa [am_uo] using hT.2.2.1
theorem m_X.mk {I A : Nat → Nat → Int32} {J : Nat → Nat → Int64} {K : List xK} {V : List Nat} {m : Nat} {S : aN} {k t : Int32} (hX : m_X T tk (p, K, V, m, S) I A J) : m_X T tk (p, K, V, m + 1, n_add S m k t) (am_u I 29 29 (nI (m + 1))) (m_addA A m k t) J := by
  obtain ⟨h31, h35, hk, h37, hVV, h29, hS, hT⟩ := hX
  refine ⟨?_, ?_, ?_, ?_, ?_, am_uk, ?_, ⟨?_, hT.2.1, ?_, by simpa [m_K, am_u] using hT.2.2.2⟩⟩
  · simpa [am_u] using h31
  · simpa [am_u] using h35
  · simpa [m_addA, am_uo] using hk
  · simpa [am_u] using h37
  · simpa [m_addA, am_uo] using hVV
  · rw [m_addA_st, hS]
  · simpa [am_u] using hT.1
  · simpa [m_addA, am_uo] using hT.2.2.1
theorem m_addA_Fr {I A : Nat → Nat → Int32} {J : Nat → Nat → Int64} {m : Nat} {k t v : Int32} : m_Fr m_fp m_cp I A J (am_u I 29 29 v) (m_addA A m k t) J :=
  (((((((m_Fr.put (by decide)).trans (m_Fr.set (by decide))).trans (m_Fr.set (by decide))).trans (m_Fr.set (by decide))).trans (m_Fr.set (by decide))).trans (m_Fr.set (by decide))).trans (m_Fr.set (by decide))).trans (m_Fr.set (by decide))
/-- a store that has changed in its tree alone -/
theorem m_X.tree {I A A' : Nat → Nat → Int32} {J : Nat → Nat → Int64} {K : List xK} {V : List Nat} {m : Nat} {S S' : aN} (hX : m_X T tk (p, K, V, m, S) I A J) (hS' : m_st A' = S') (hf : m_Fr m_fp m_cp I A J I A' J) (h5 : ∀ x, x = 48 ∨ x = 49 ∨ x = 50 ∨ x = 51 → A' x = A x) : m_X T tk (p, K, V, m, S') I A' J := by
  obtain ⟨h31, h35, hk, h37, hVV, h29, hS, hT⟩ := hX
  refine ⟨h31, h35, ?_, h37, ?_, h29, hS', ⟨hT.1, hT.2.1, fun k hk' => ?_, hT.2.2.2⟩⟩
  · rw [h5 48 (by simp), h5 49 (by simp), h5 50 (by simp)]; exact hk
  · rw [h5 51 (by simp)]; exact hVV
  · rw [hf.2.2.1 32 (by decide), hf.2.2.1 33 (by decide), hf.2.2.1 34 (by decide)]; exact hT.2.2.1 k hk'
/-- other ints of the parser -/
theorem m_X.pop {I A : Nat → Nat → Int32} {J : Nat → Nat → Int64} {K : List xK} {V : List Nat} {x : xK} {m : Nat} {S : aN} (hX : m_X T tk (p, x :: K, V, m, S) I A J) : m_X T tk (p, K, V, m, S) (am_u I 29 35 (nI K.length)) A J := by
  obtain ⟨h31, h35, hk, h37, hVV, h29, hS, hT⟩ := hX
  refine ⟨?_, am_uk, hk.2.2.2, ?_, hVV, ?_, hS, ⟨?_, hT.2.1, hT.2.2.1, by simpa [m_K, am_u] using hT.2.2.2⟩⟩
  · simpa [am_u] using h31
  · simpa [am_u] using h37
  · simpa [am_u] using h29
  · simpa [am_u] using hT.1
theorem m_X.val {I A : Nat → Nat → Int32} {J : Nat → Nat → Int64} {K : List xK} {V : List Nat} {v m : Nat} {S : aN} (hX : m_X T tk (p, K, v :: V, m, S) I A J) : m_X T tk (p, K, V, m, S) (am_u I 29 37 (nI V.length)) A J := by
  obtain ⟨h31, h35, hk, h37, hVV, h29, hS, hT⟩ := hX
  refine ⟨?_, ?_, hk, am_uk, hVV.2, ?_, hS, ⟨?_, hT.2.1, hT.2.2.1, by simpa [m_K, am_u] using hT.2.2.2⟩⟩
  · simpa [am_u] using h31
  · simpa [am_u] using h35
  · simpa [am_u] using h29
  · simpa [am_u] using hT.1
end MCL
