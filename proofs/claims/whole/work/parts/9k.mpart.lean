/-! THE REFERENCE'S PARSER: a part, and what is applied -/
theorem m_Ry.x {T : Nat} {tk : Nat → aT} {r : xE} {v : Option Value} {I' A' : Nat → Nat → Int32} {J' : Nat → Nat → Int64} (h : m_Ry T tk r v I' A' J') : (∃ st X', r = .ok (st, X') ∧ v = some (.int 1) ∧ m_X T tk X' I' A' J') ∨ (∃ q, r = .error q ∧ v = some (.int 0) ∧ I' 29 3 = q.1 ∧ I' 29 4 = nI q.2) := by
  cases r with
  | error q => exact Or.inr ⟨q, rfl, h⟩
  | ok z => exact Or.inl ⟨z.1, z.2, rfl, h⟩
theorem x_ent_st {pl : Nat → Nat} {k : Int32} {nd st : Nat} {X X' : xX} (h : x_ent pl k nd X = .ok (st, X')) : st = 1 := by
  obtain ⟨p, K, V, m, S⟩ := X
  unfold x_ent at h
  dsimp only at h
  split at h
  · cases h
  · cases h; rfl
theorem x_fin_st {pl : Nat → Nat} {p n m st : Nat} {K : List xK} {V : List Nat} {S : aN} {X' : xX} (h : x_fin pl p n K V m S = .ok (st, X')) : st = 0 := by
  unfold x_fin at h
  split at h
  · cases h
  · cases h; rfl
theorem x_end_st {pl : Nat → Nat} {some : Bool} {st : Nat} {X X' : xX} (h : x_end pl some X = .ok (st, X')) : st = 0 := by
  obtain ⟨p, K, V, m, S⟩ := X
  cases K with
  | nil => unfold x_end at h; cases h
  | cons e K =>
    obtain ⟨k, t, nd⟩ := e
    unfold x_end at h
    dsimp only at h
    split at h
    · cases h; rfl
    · split at h
      · split at h
        · exact x_fin_st h
        · cases h
      · exact x_fin_st h
section MPA
variable {g : List aK} {X : Nat × (Nat → Int32)} {T p b : Nat} {tk : Nat → aT}
/-- apply: a call or an index -/
theorem y_apl {I A : Nat → Nat → Int32} {J : Nat → Nat → Int64} {K : List xK} {V : List Nat} {v m w : Nat} {S : aN} {as : Int32} (hX : m_X T tk (p, K, v :: V, m, S) I A J) (hp : p < T) (hKl : K.length ≤ 12) (hVl : V.length ≤ 14) (hv : v < m) (hm : m < 399) (hSo : x_So T m S) : m_M m_fp m_cp 4 162 [.ref 29, .int (nI w), .int as] g I A J X (m_Rx T tk (x_apl (d_pc tk) (nI w) as (p, K, v :: V, m, S))) := by
  obtain ⟨h31, h35, hk, h37, hVV, h29, hS, hT⟩ := id hX
  have h120 := hT.2.1
  have hX1 := hX.mk (k := nI w) (t := nI p)
  unfold x_apl
  dsimp only
  refine m_D.met rfl rfl ?_
  refine m_D.cav (n := 9) (by decide) rfl (y_make h29 (by omega)) (by decide) m_addA_Fr ?_
  rw [h31]
  generalize hI1 : am_u I 29 29 (nI (m + 1)) = I1 at hX1
  generalize hA1 : m_addA A m (nI w) (nI p) = A1 at hX1
  have hS1 : m_st A1 = n_add S m (nI w) (nI p) := hX1.2.2.2.2.2.2.1
  have h30 : n_add S m (nI w) (nI p) 3 m = 0 := by simp [n_add, am_u]
  have e37 : I1 29 37 - 1 = nI V.length := by rw [hX1.2.2.2.1]; exact nI_pred _
  have hX2 := hX1.val
  refine m_D.nee 15 (by decide) rfl (by rw [am_uk, e37]; exact nI_in (show V.length < 16 by omega) (by decide)) ?_
  rw [e37]
  refine m_D.heap (m_Fr.put (f := 37) (v := nI V.length) (by decide)) ?_
  rw [show A1 51 (am_u I1 29 37 (nI V.length) 29 37).toNatClampNeg = nI v from by rw [am_uk, nI_clamp (by omega)]; exact hX1.2.2.2.2.1.1]
  obtain ⟨A3, a1, a2, a3, a4⟩ := y_app (g := g) (X := X) (I := am_u I1 29 37 (nI V.length)) (A := A1) (J := J) (j := m) (v := v) (by omega) (by omega) (Or.inl (by rw [hS1]; exact h30))
  rw [hS1] at a1
  have hX3 := hX2.tree a1 a2 a3
  refine m_D.can (n := 9) (by decide) rfl a4 (by decide) a2 ?_
  have hent := y_ent (g := g) (X := X) (k := as) (w := nI m) (nd := m) hX3 hp hKl (fun _ => rfl)
  refine m_D.call (n := 9) (by decide) rfl (by decide) hent (fun vv I5 A5 J5 hR hF => ?_)
  rcases hR.x with ⟨st, X', r1, rfl, r3⟩ | ⟨q, r1, rfl, r3⟩
  · rw [r1]
    have := x_ent_st r1
    subst this
    refine m_D.nay 9 (by decide) rfl (by decide) ?_
    exact m_D.ret 9 (by decide) rfl trivial m_Fr.refl ⟨rfl, r3⟩
  · rw [r1]
    refine m_D.yea 9 (by decide) rfl (by decide) ?_
    exact m_D.ret 9 (by decide) rfl trivial m_Fr.refl ⟨rfl, r3⟩
/-- a member -/
theorem y_mem {I A : Nat → Nat → Int32} {J : Nat → Nat → Int64} {K : List xK} {V : List Nat} {v m : Nat} {S : aN} (hK : d_K T tk) (hX : m_X T tk (p, K, v :: V, m, S) I A J) (hp : p + 1 < T) (hVl : V.length ≤ 14) (hv : v < m) (hm : m < 399) (hSo : x_So T m S) : m_M m_fp m_cp 4 163 [.ref 29] g I A J X (m_Rx T tk (x_mem (d_mk T tk) (d_pc tk) (p, K, v :: V, m, S))) := by
  obtain ⟨h31, h35, hk, h37, hVV, h29, hS, hT⟩ := id hX
  have h120 := hT.2.1
  have emk : d_mk T tk (p + 1) = (tk (p + 1)).2.1 := if_pos hp
  have hX1 := hX.at (p' := p + 1)
  have e31 : I 29 31 + 1 = nI (p + 1) := by rw [h31, nI_1]
  have e32 : A 32 (p + 1) = s_kd (tk (p + 1)).2.1 := (hT.2.2.1 (p + 1) hp).1.trans (hK (p + 1) hp).1
  have hkd : s_kd (tk (p + 1)).2.1 = 1 ↔ (tk (p + 1)).2.1 = 1 := by
    generalize (tk (p + 1)).2.1 = k
    refine ⟨fun z => ?_, fun z => by rw [z]; decide⟩
    unfold s_kd at z
    split at z
    · exact z
    · split at z
      · exact absurd z (by decide)
      · exact absurd z (by decide)
  unfold x_mem
  dsimp only
  rw [emk]
  refine m_D.met rfl rfl ?_
  refine m_D.nee 15 (by decide) rfl (by rw [am_uk, e31]; exact nI_in (show p + 1 < 120 by omega) (by decide)) ?_
  rw [e31]
  refine m_D.heap (m_Fr.put (f := 31) (v := nI (p + 1)) (by decide)) ?_
  have ea : A 32 (am_u I 29 31 (nI (p + 1)) 29 31).toNatClampNeg = s_kd (tk (p + 1)).2.1 := by rw [am_uk, nI_clamp (by omega)]; exact e32
  by_cases c1 : (tk (p + 1)).2.1 = 1
  · rw [if_pos c1]
    refine m_D.yea 9 (by decide) rfl (by rw [ea]; exact hkd.mpr c1) ?_
    have hX2 := hX1.mk (k := 19) (t := nI (p + 1))
    refine m_D.cav (n := 9) (by decide) rfl (y_make hX1.2.2.2.2.2.1 (by omega)) (by decide) m_addA_Fr ?_
    rw [am_uk]
    generalize hI1 : am_u (am_u I 29 31 (nI (p + 1))) 29 29 (nI (m + 1)) = I1 at hX2
    generalize hA1 : m_addA A m 19 (nI (p + 1)) = A1 at hX2
    have hS1 : m_st A1 = n_add S m 19 (nI (p + 1)) := hX2.2.2.2.2.2.2.1
    have h30 : n_add S m 19 (nI (p + 1)) 3 m = 0 := by simp [n_add, am_u]
    have h10 : n_add S m 19 (nI (p + 1)) 1 m = nI (p + 1) := by simp [n_add, am_u]
    have e37 : I1 29 37 - 1 = nI V.length := by rw [hX2.2.2.2.1]; exact nI_pred _
    have hX3 := hX2.val
    refine m_D.nee 15 (by decide) rfl (by rw [am_uk, e37]; exact nI_in (show V.length < 16 by omega) (by decide)) ?_
    rw [e37]
    refine m_D.heap (m_Fr.put (f := 37) (v := nI V.length) (by decide)) ?_
    rw [show A1 51 (am_u I1 29 37 (nI V.length) 29 37).toNatClampNeg = nI v from by rw [am_uk, nI_clamp (by omega)]; exact hX2.2.2.2.2.1.1]
    obtain ⟨A3, a1, a2, a3, a4⟩ := y_app (g := g) (X := X) (I := am_u I1 29 37 (nI V.length)) (A := A1) (J := J) (j := m) (v := v) (by omega) (by omega) (Or.inl (by rw [hS1]; exact h30))
    rw [hS1] at a1
    have hX4 := hX3.tree a1 a2 a3
    refine m_D.can (n := 9) (by decide) rfl a4 (by decide) a2 ?_
    have hX5 := hX4.at (p' := p + 2)
    have hfin := y_fini (g := g) (X := X) (n := m) (t := p + 1) hX5 (by omega) hp (by rw [x_app_1, h10]) (by omega)
    have e31' : am_u I1 29 37 (nI V.length) 29 31 + 1 = nI (p + 2) := by rw [hX4.1, nI_1]
    refine m_D.heap (m_Fr.put (f := 31) (v := nI (p + 2)) (by decide)) ?_
    refine m_D.call (n := 12) (by decide) (by rw [← e31']; rfl) (by decide) hfin (fun vv I5 A5 J5 hR hF => ?_)
    rcases hR.x with ⟨st, X', r1, rfl, r3⟩ | ⟨q, r1, rfl, r3⟩
    · rw [r1]
      have := x_fin_st r1
      subst this
      refine m_D.nay 9 (by decide) rfl (by decide) ?_
      exact m_D.ret 9 (by decide) rfl trivial m_Fr.refl ⟨rfl, r3⟩
    · rw [r1]
      refine m_D.yea 9 (by decide) rfl (by decide) ?_
      exact m_D.ret 9 (by decide) rfl trivial m_Fr.refl ⟨rfl, r3⟩
  · rw [if_neg c1]
    refine m_D.nay 9 (by decide) rfl (by rw [ea]; exact fun z => c1 (hkd.mp z)) ?_
    refine m_D.cav (n := 9) (by decide) rfl (y_unfit hX1.2.2.2.2.2.2.2 hX1.1 hp) (by decide) ((m_Fr.put (by decide)).trans (m_Fr.put (by decide))) ?_
    exact m_D.ret 9 (by decide) rfl trivial m_Fr.refl ⟨rfl, by simp [am_u], by simp [am_u]⟩
end MPA
