/-! THE REFERENCE'S PARSER: strengths, brackets, members -/
theorem s_one_st {k : Int32} (h : s_one k = true) : ¬ k < 22 ∧ k < 128 ∧ m_cd k = k.toInt64 ∧ k.toInt64.toInt32 = k ∧ ¬ (255 : Int32) < k ∧ s_kd k = 5 := by
  unfold s_one at h
  simp only [Bool.or_eq_true, decide_eq_true_eq] at h
  rcases h with ((((((((((((((h | h) | h) | h) | h) | h) | h) | h) | h) | h) | h) | h) | h) | h) | h) | h <;> (subst h; decide)
theorem s_pm_st {k : Int32} (h : s_pm k = true) : d_sb k = 4 ∧ (255 : Int32) < (m_cd k).toInt32 ∧ s_kd k = 5 ∧ (m_cd k).toInt32 ≠ 60 ∧ (m_cd k).toInt32 ≠ 62 := by
  unfold s_pm at h
  simp only [Bool.or_eq_true, decide_eq_true_eq] at h
  rcases h with ((h | h) | h) | h <;> (subst h; decide)
theorem s_kd_5 {k : Int32} (h : k < 22) : s_kd k ≠ 5 := by
  unfold s_kd
  rw [if_pos h]
  split
  · next hk => rcases hk with r | r | r | r | r | r | r <;> (subst r; decide)
  · decide
section MPT
variable {g : List aK} {X : Nat × (Nat → Int32)} {T p : Nat} {tk : Nat → aT}
theorem y_sb {I A : Nat → Nat → Int32} {J : Nat → Nat → Int64} (hT : m_Tk I A J T tk) (hK : d_K T tk) (h31 : I 29 31 = nI p) (hp : p < T) : am_Con 2 158 [.ref 29] (am_H g I A J X) (.inl (some (.int (nI (d_sb (d_mk T tk p)))))) (am_H g I A J X) 0 0 := by
  have h120 := hT.2.1
  have e31 : (I 29 31).toNatClampNeg = p := by rw [h31, nI_clamp (by omega)]
  have hin : ¬ (I 29 31 < 0 ∨ 120 ≤ (I 29 31).toNatClampNeg) := by rw [h31]; exact nI_in (by omega) (by decide)
  have w9 := y_isW (g := g) (X := X) (i := 9) hT hK h31 hp (by decide)
  have w8 := y_isW (g := g) (X := X) (i := 8) hT hK h31 hp (by decide)
  have emk : d_mk T tk p = (tk p).2.1 := if_pos hp
  have e32 : A 32 p = s_kd (tk p).2.1 := (hT.2.2.1 p hp).1.trans (hK p hp).1
  have e35 : J 35 p = m_cd (tk p).2.1 := (hT.2.2.1 p hp).2.2.2
  have hkk := (hK p hp).2
  rw [emk] at w9 w8 ⊢
  generalize (tk p).2.1 = k at w9 w8 e32 e35 hkk
  refine am_met rfl rfl ?_
  refine am_cav 9 (by decide) rfl w9 (by decide) (by decide) (by decide) ?_
  by_cases c20 : k = 20
  · subst c20
    refine am_nay 9 (by decide) rfl (by decide) ?_
    exact am_end 9 (by decide) rfl trivial (by decide) (by decide) ⟨rfl, rfl⟩
  rw [show decide (k = nI (11 + 9)) = false from decide_eq_false c20]
  refine am_yea 9 (by decide) rfl (by decide) ?_
  refine am_cav 9 (by decide) rfl w8 (by decide) (by decide) (by decide) ?_
  by_cases c19 : k = 19
  · subst c19
    refine am_nay 9 (by decide) rfl (by decide) ?_
    exact am_end 9 (by decide) rfl trivial (by decide) (by decide) ⟨rfl, rfl⟩
  rw [show decide (k = nI (11 + 8)) = false from decide_eq_false c19]
  refine am_yea 9 (by decide) rfl (by decide) ?_
  refine am_nee 9 (by decide) rfl hin ?_
  by_cases c22 : k < 22
  · refine am_nay 9 (by decide) rfl (by rw [e31, e32]; exact s_kd_5 c22) ?_
    have h0 : d_sb k = 0 := by
      have ne : ∀ d : Nat, 22 ≤ d → d < 1000 → k ≠ nI d := fun d h1 h2 z => by
        rw [z] at c22
        exact nI_nlt (b := 22) (by omega) (by omega) c22
      unfold d_sb
      rw [if_neg c20, if_neg c19, if_neg, if_neg, if_neg]
      · rintro (z | z | z)
        · exact ne 42 (by decide) (by decide) z
        · exact ne 47 (by decide) (by decide) z
        · exact ne 37 (by decide) (by decide) z
      · rintro (z | z)
        · exact ne 43 (by decide) (by decide) z
        · exact ne 45 (by decide) (by decide) z
      · rintro (z | z | z | z | z | z)
        · exact ne 60 (by decide) (by decide) z
        · exact ne 62 (by decide) (by decide) z
        · exact ne 161 (by decide) (by decide) z
        · exact ne 188 (by decide) (by decide) z
        · exact ne 189 (by decide) (by decide) z
        · exact ne 190 (by decide) (by decide) z
    rw [h0]
    exact am_end 9 (by decide) rfl trivial (by decide) (by decide) ⟨rfl, rfl⟩
  rcases hkk.resolve_left c22 with ho | hpm
  · obtain ⟨o1, o2, o3, o4, o5, o6⟩ := s_one_st ho
    refine am_yea 9 (by decide) rfl (by rw [e31, e32]; exact o6) ?_
    refine am_nee 9 (by decide) rfl hin ?_
    rw [e31, e35, o3]
    have n161 : ∀ d : Nat, 128 ≤ d → d < 1000 → k ≠ nI d := fun d h1 h2 z => by
      rw [z] at o2
      exact nI_nlt (b := 128) (by omega) (by omega) o2
    by_cases c60 : k = 60
    · subst c60
      refine am_yea 9 (by decide) rfl (by decide) ?_
      exact am_end 9 (by decide) rfl trivial (by decide) (by decide) ⟨rfl, rfl⟩
    refine am_nay 9 (by decide) rfl (by rw [o4]; exact c60) ?_
    by_cases c62 : k = 62
    · subst c62
      refine am_yea 9 (by decide) rfl (by decide) ?_
      exact am_end 9 (by decide) rfl trivial (by decide) (by decide) ⟨rfl, rfl⟩
    refine am_nay 9 (by decide) rfl (by rw [o4]; exact c62) ?_
    refine am_yea 9 (by decide) rfl (by rw [o4]; exact Int32.not_lt.mp o5) ?_
    have h4 : ¬ (k = 60 ∨ k = 62 ∨ k = 161 ∨ k = 188 ∨ k = 189 ∨ k = 190) := by
      rintro (z | z | z | z | z | z)
      · exact c60 z
      · exact c62 z
      · exact n161 161 (by decide) (by decide) z
      · exact n161 188 (by decide) (by decide) z
      · exact n161 189 (by decide) (by decide) z
      · exact n161 190 (by decide) (by decide) z
    unfold d_sb
    rw [if_neg c20, if_neg c19, if_neg h4]
    by_cases c43 : k = 43
    · subst c43
      refine am_yea 9 (by decide) rfl (by decide) ?_
      exact am_end 9 (by decide) rfl trivial (by decide) (by decide) ⟨rfl, rfl⟩
    refine am_nay 9 (by decide) rfl (by rw [o4]; exact c43) ?_
    by_cases c45 : k = 45
    · subst c45
      refine am_nay 9 (by decide) rfl (by decide) ?_
      exact am_end 9 (by decide) rfl trivial (by decide) (by decide) ⟨rfl, rfl⟩
    refine am_yea 9 (by decide) rfl (by rw [o4]; exact c45) ?_
    rw [if_neg (fun z => z.elim c43 c45)]
    by_cases c42 : k = 42
    · subst c42
      refine am_yea 9 (by decide) rfl (by decide) ?_
      exact am_end 9 (by decide) rfl trivial (by decide) (by decide) ⟨rfl, rfl⟩
    refine am_nay 9 (by decide) rfl (by rw [o4]; exact c42) ?_
    by_cases c47 : k = 47
    · subst c47
      refine am_yea 9 (by decide) rfl (by decide) ?_
      exact am_end 9 (by decide) rfl trivial (by decide) (by decide) ⟨rfl, rfl⟩
    refine am_nay 9 (by decide) rfl (by rw [o4]; exact c47) ?_
    by_cases c37 : k = 37
    · subst c37
      refine am_nay 9 (by decide) rfl (by decide) ?_
      exact am_end 9 (by decide) rfl trivial (by decide) (by decide) ⟨rfl, rfl⟩
    refine am_yea 9 (by decide) rfl (by rw [o4]; exact c37) ?_
    rw [if_neg (fun z => z.elim c42 (fun z => z.elim c47 c37))]
    exact am_end 9 (by decide) rfl trivial (by decide) (by decide) ⟨rfl, rfl⟩
  · obtain ⟨o1, o2, o3, o4, o5⟩ := s_pm_st hpm
    rw [o1]
    refine am_yea 9 (by decide) rfl (by rw [e31, e32]; exact o3) ?_
    refine am_nee 9 (by decide) rfl hin ?_
    rw [e31, e35]
    refine am_nay 9 (by decide) rfl o4 ?_
    refine am_nay 9 (by decide) rfl o5 ?_
    refine am_nay 9 (by decide) rfl (Int32.not_le.mpr o2) ?_
    exact am_end 9 (by decide) rfl trivial (by decide) (by decide) ⟨rfl, rfl⟩
theorem m_X.at {I A : Nat → Nat → Int32} {J : Nat → Nat → Int64} {K : List xK} {V : List Nat} {m p' : Nat} {S : aN} (hX : m_X T tk (p, K, V, m, S) I A J) : m_X T tk (p', K, V, m, S) (am_u I 29 31 (nI p')) A J := by
  obtain ⟨h31, h35, hk, h37, hVV, h29, hS, hT⟩ := hX
  refine ⟨am_uk, ?_, hk, ?_, hVV, ?_, hS, ⟨?_, hT.2.1, hT.2.2.1, by simpa [m_K, am_u] using hT.2.2.2⟩⟩
  · simpa [am_u] using h35
  · simpa [am_u] using h37
  · simpa [am_u] using h29
  · simpa [am_u] using hT.1
/-- brackets end -/
theorem y_endb {I A : Nat → Nat → Int32} {J : Nat → Nat → Int64} {K : List xK} {V : List Nat} {m t nd : Nat} {S : aN} {k : Int32} {some : Bool} (hX : m_X T tk (p, (k, t, nd) :: K, V, m, S) I A J) (hKl : K.length < 12) (hVl : V.length ≤ 15) (hV0 : some = true → 0 < V.length) (hVm : ∀ v ∈ V, v < m) (hko : x_Ko T m (k, t, nd)) (hk0 : ¬ 0 < k) (hm : m < 400) (hSo : x_So T m S) : m_M m_fp m_cp 3 160 [.ref 29, .int (am_b some)] g I A J X (m_Ry T tk (x_end (d_pc tk) some (p, (k, t, nd) :: K, V, m, S))) := by
  obtain ⟨h31, h35, hk, h37, hVV, h29, hS, hT⟩ := id hX
  obtain ⟨ho1, ho2, ho3⟩ := hko
  dsimp only at ho1 ho2 ho3
  have h120 := hT.2.1
  have e35 : I 29 35 - 1 = nI K.length := by rw [h35]; exact nI_pred K.length
  have hX1 := hX.pop
  have hin : ¬ (nI K.length < 0 ∨ 12 ≤ (nI K.length).toNatClampNeg) := nI_in hKl (by decide)
  unfold x_end
  dsimp only
  refine m_D.met rfl rfl ?_
  refine m_D.nee 12 (by decide) rfl (by rw [am_uk, e35]; exact hin) ?_
  rw [e35]
  refine m_D.heap (m_Fr.put (f := 35) (v := nI K.length) (by decide)) ?_
  have hX2 := hX1.at (p' := p + 1)
  have e31' : am_u I 29 35 (nI K.length) 29 31 + 1 = nI (p + 1) := by rw [am_un (by decide), h31, nI_1]
  refine m_D.nee 15 (by decide) rfl (by rw [am_un (by decide), am_uk]; exact hin) ?_
  rw [e31']
  refine m_D.heap (m_Fr.put (f := 31) (v := nI (p + 1)) (by decide)) ?_
  rw [show A 48 (am_u (am_u I 29 35 (nI K.length)) 29 31 (nI (p + 1)) 29 35).toNatClampNeg = k from by rw [am_un (by decide), am_uk, nI_clamp (by omega)]; exact hk.1]
  by_cases c0 : k = 0
  · rw [if_pos c0]
    refine m_D.nay 9 (by decide) rfl (fun z => z c0) ?_
    exact m_D.ret 9 (by decide) rfl (Or.inr rfl) m_Fr.refl ⟨rfl, hX2⟩
  · rw [if_neg c0]
    have kneg : k < 0 := by
      rcases ho3 with z | z | z | z | z | z | z | z | z | z | z
      · rw [z]; decide
      · rw [z]; decide
      · rw [z]; decide
      · exact absurd z c0
      all_goals exact absurd (by rw [z]; decide) hk0
    have hnd := ho2 kneg
    have e50 : A 50 (am_u I 29 35 (nI K.length) 29 35).toNatClampNeg = nI nd := by rw [am_uk, nI_clamp (by omega)]; exact hk.2.2.1 kneg
    rw [e50]
    refine m_D.yea 9 (by decide) rfl c0 ?_
    obtain ⟨hs1, tn, hs2, hs3⟩ := hSo nd hnd
    cases some with
    | false =>
      rw [if_neg (by decide)]
      refine m_D.yea 9 (by decide) rfl (by decide) ?_
      have hfin := y_fini (g := g) (X := X) (n := nd) (t := tn) hX2 (by omega) hs2 hs3 hVl
      refine m_D.call (n := 9) (by decide) rfl (by decide) hfin (fun vv I5 A5 J5 hR hF => ?_)
      revert hR
      cases x_fin (d_pc tk) (p + 1) nd K V m S with
      | error q =>
        rintro ⟨rfl, hR⟩
        exact m_D.ret 9 (by decide) rfl (Or.inl rfl) m_Fr.refl ⟨rfl, hR⟩
      | ok z =>
        rintro ⟨rfl, hR⟩
        exact m_D.ret 9 (by decide) rfl (Or.inr rfl) m_Fr.refl ⟨rfl, hR⟩
    | true =>
      rw [if_pos rfl]
      cases V with
      | nil => exact absurd (hV0 rfl) (by simp)
      | cons v V' =>
        dsimp only
        have hv := hVm v List.mem_cons_self
        refine m_D.nay 9 (by decide) rfl (by decide) ?_
        have hX3 := hX2.val
        have e37 : am_u (am_u I 29 35 (nI K.length)) 29 31 (nI (p + 1)) 29 37 - 1 = nI V'.length := by rw [am_un (by decide), am_un (by decide), h37]; exact nI_pred _
        have hlen : V'.length < 16 := by simp at hVl; omega
        refine m_D.nee 15 (by decide) rfl (by rw [am_uk, e37]; exact nI_in hlen (by decide)) ?_
        rw [e37]
        refine m_D.heap (m_Fr.put (f := 37) (v := nI V'.length) (by decide)) ?_
        rw [show A 51 (am_u (am_u (am_u I 29 35 (nI K.length)) 29 31 (nI (p + 1))) 29 37 (nI V'.length) 29 37).toNatClampNeg = nI v from by rw [am_uk, nI_clamp (by omega)]; exact hVV.1]
        obtain ⟨A3, a1, a2, a3, a4⟩ := y_app (g := g) (X := X) (I := am_u (am_u (am_u I 29 35 (nI K.length)) 29 31 (nI (p + 1))) 29 37 (nI V'.length)) (A := A) (J := J) (j := nd) (v := v) (by omega) (by omega) (by
          rw [hS]
          rcases hs1 with z | ⟨i, i1, i2⟩
          · exact Or.inl z
          · exact Or.inr ⟨i, by omega, i2⟩)
        rw [hS] at a1
        have hX4 := hX3.tree a1 a2 a3
        refine m_D.can (n := 9) (by decide) rfl a4 (by decide) a2 ?_
        have hfin := y_fini (g := g) (X := X) (n := nd) (t := tn) hX4 (by omega) hs2 (by rw [x_app_1]; exact hs3) (by simp at hVl; omega)
        refine m_D.call (n := 9) (by decide) rfl (by decide) hfin (fun vv I5 A5 J5 hR hF => ?_)
        revert hR
        cases x_fin (d_pc tk) (p + 1) nd K V' m (x_app S nd v) with
        | error q =>
          rintro ⟨rfl, hR⟩
          exact m_D.ret 9 (by decide) rfl (Or.inl rfl) m_Fr.refl ⟨rfl, hR⟩
        | ok z =>
          rintro ⟨rfl, hR⟩
          exact m_D.ret 9 (by decide) rfl (Or.inr rfl) m_Fr.refl ⟨rfl, hR⟩
end MPT
