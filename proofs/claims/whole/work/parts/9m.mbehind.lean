/-! THE REFERENCE'S PARSER: behind() -/
section MBH
variable {g : List aK} {X : Nat × (Nat → Int32)} {T p b : Nat} {tk : Nat → aT} {pl : Nat → Nat}
theorem x_close_J {l : Int32} (hl : 0 < l) : ∀ (K : List xK) (V : List Nat) (m : Nat) (S : aN) {K1 : List xK} {V1 : List Nat} {m1 : Nat} {S1 : aN}, x_J T b 1 (p, K, V, m, S) → x_close pl l K V m S = .ok (K1, V1, m1, S1) → x_J T b 1 (p, K1, V1, m1, S1)
  | [], V, m, S, K1, V1, m1, S1, hJ, h => by unfold x_close at h; cases h; exact hJ
  | (k, t, nd) :: r, V, m, S, K1, V1, m1, S1, hJ, h => by
    unfold x_close at h
    by_cases c1 : k < l
    · rw [if_pos c1] at h; cases h; exact hJ
    rw [if_neg c1] at h
    obtain ⟨hp, hKl, hVl, hVm, hKo, hmb, hSo⟩ := hJ
    have k0 : 0 < k := Decidable.byContradiction fun z => c1 (Int32.lt_of_le_of_lt (Int32.not_lt.mp z) hl)
    have hno : x_no ((k, t, nd) :: r) = 1 + x_no r := by simp only [x_no, if_pos k0]
    rw [hno] at hmb
    obtain ⟨ho1, ho2, ho3⟩ := hKo (k, t, nd) List.mem_cons_self
    dsimp only at ho1 ho2 ho3
    have hKo' : ∀ e ∈ r, x_Ko T (m + 1) e := fun e he => by
      obtain ⟨q1, q2, q3⟩ := hKo e (List.mem_cons_of_mem _ he)
      exact ⟨q1, fun z => by have := q2 z; omega, q3⟩
    have hSo2 := hSo.add (k := x_kd k) ho1
    by_cases c37 : k = 3 ∨ k = 7
    · rw [if_pos c37] at h
      have hnb : x_nb ((k, t, nd) :: r) = x_nb r := by
        simp only [x_nb]
        rw [if_neg (by rcases c37 with z | z <;> (subst z; decide))]
        omega
      rw [hnb] at hVl
      cases V with
      | nil => simp at hVl
      | cons v V' =>
        dsimp only at h
        have hv := hVm v List.mem_cons_self
        split at h
        · cases h
        · refine x_close_J hl r (m :: V') (m + 1) _ ⟨hp, by simp at hKl; omega, by simp at hVl ⊢; omega, fun x hx => ?_, hKo', by omega, hSo2.app (by omega)⟩ h
          rcases List.mem_cons.mp hx with z | z
          · omega
          · have := hVm x (List.mem_cons_of_mem _ z); omega
    · rw [if_neg c37] at h
      have kb : k = 1 ∨ k = 2 ∨ k = 4 ∨ k = 5 ∨ k = 6 := by
        rcases ho3 with z | z | z | z | z | z | z | z | z | z | z
        · exact absurd k0 (by rw [z]; decide)
        · exact absurd k0 (by rw [z]; decide)
        · exact absurd k0 (by rw [z]; decide)
        · exact absurd k0 (by rw [z]; decide)
        · exact Or.inl z
        · exact Or.inr (Or.inl z)
        · exact absurd (Or.inl z) c37
        · exact Or.inr (Or.inr (Or.inl z))
        · exact Or.inr (Or.inr (Or.inr (Or.inl z)))
        · exact Or.inr (Or.inr (Or.inr (Or.inr z)))
        · exact absurd (Or.inr z) c37
      have hnb : x_nb ((k, t, nd) :: r) = 1 + x_nb r := by simp only [x_nb, if_pos kb]
      rw [hnb] at hVl
      match V, hVl, hVm, h with
      | [], hVl, _, _ => simp at hVl
      | [_], hVl, _, _ => simp at hVl
      | v2 :: v1 :: V', hVl, hVm, h =>
        dsimp only at h
        have hv2 := hVm v2 List.mem_cons_self
        have hv1 := hVm v1 (List.mem_cons_of_mem _ List.mem_cons_self)
        split at h
        · cases h
        · refine x_close_J hl r (m :: V') (m + 1) _ ⟨hp, by simp at hKl; omega, by simp at hVl ⊢; omega, fun x hx => ?_, hKo', by omega, (hSo2.app (by omega)).app (by omega)⟩ h
          rcases List.mem_cons.mp hx with z | z
          · omega
          · have := hVm x (List.mem_cons_of_mem _ (List.mem_cons_of_mem _ z)); omega
theorem x_nb_pos {K : List xK} {u : Nat} {V : List Nat} (h : V.length = x_nb K + (u + 1)) : ∃ v V', V = v :: V' := by
  cases V with
  | nil => simp at h
  | cons v V' => exact ⟨v, V', rfl⟩
theorem y_closeM {I A : Nat → Nat → Int32} {J : Nat → Nat → Int64} {K : List xK} {V : List Nat} {m : Nat} {S : aN} {l : Int32} (hl : 0 < l) (hX : m_X T tk (p, K, V, m, S) I A J) (hJ : x_J T b 1 (p, K, V, m, S)) (hb : b + 120 ≤ 380) : m_M m_fp m_cp 4 156 [.ref 29, .int l] g I A J X (m_Rc T tk p (x_close (d_pc tk) l K V m S)) := by
  have h120 := hX.2.2.2.2.2.2.2.2.1
  obtain ⟨hp, hKl, hVl, hVm, hKo, hmb, hSo⟩ := hJ
  exact m_D.met rfl rfl (y_close hl K V m S I A J hX hKl hVl hVm hKo (by omega) hSo)
/-- behind an expression that is closed -/
theorem y_bas {I A : Nat → Nat → Int32} {J : Nat → Nat → Int64} {K : List xK} {V : List Nat} {m : Nat} {S : aN} {s : Int32} (hK : d_K T tk) (hX : m_X T tk (p, K, V, m, S) I A J) (hJ : x_J T b 1 (p, K, V, m, S)) (hb : b + 120 ≤ 380) (hk0 : ∀ e ∈ K.head?, ¬ 0 < e.1) : m_D m_fp m_cp 164 6 g X I A J (115, [(1, .int s), (0, .ref 29)], [], am_H g I A J X) (m_Rx T tk (x_bas (d_mk T tk) (d_pc tk) (p, K, V, m, S))) := by
  obtain ⟨h31, h35, hk, h37, hVV, h29, hS, hT⟩ := id hX
  obtain ⟨hp, hKl, hVl, hVm, hKo, hmb, hSo⟩ := hJ
  have h120 := hT.2.1
  have hnb := x_nb_le K
  have s44 := y_isS (g := g) (X := X) (d := 44) hT hK h31 hp (by decide) (by decide)
  have s41 := y_isS (g := g) (X := X) (d := 41) hT hK h31 hp (by decide) (by decide)
  have s93 := y_isS (g := g) (X := X) (d := 93) hT hK h31 hp (by decide) (by decide)
  have top := y_top (g := g) (J := J) (X := X) h35 hKl hk
  generalize hmk : d_mk T tk p = k at s44 s41 s93
  unfold x_bas
  cases K with
  | nil =>
    dsimp only
    refine m_D.nay 9 (by decide) rfl (by rw [h35]; exact fun z => z rfl) ?_
    exact m_D.ret 9 (by decide) rfl trivial m_Fr.refl ⟨rfl, hX⟩
  | cons e K' =>
    obtain ⟨kk, t, nd⟩ := e
    dsimp only
    rw [hmk]
    have hko := hKo (kk, t, nd) List.mem_cons_self
    have hkk0 : ¬ 0 < kk := hk0 (kk, t, nd) rfl
    have hK12 : K'.length < 12 := by simp at hKl; omega
    have e35 : I 29 35 - 1 = nI K'.length := by rw [h35]; exact nI_pred _
    obtain ⟨v, V', rfl⟩ := x_nb_pos (u := 0) hVl
    have hv := hVm v List.mem_cons_self
    have no : m_D m_fp m_cp 164 6 g X I A J (241, [(2, .int kk), (1, .int s), (0, .ref 29)], [], am_H g I A J X) (m_Rx T tk (.error (9, d_pc tk p))) := by
      refine m_D.cav (n := 9) (by decide) rfl (y_unfit hT h31 hp) (by decide) ((m_Fr.put (by decide)).trans (m_Fr.put (by decide))) ?_
      exact m_D.ret 9 (by decide) rfl trivial m_Fr.refl ⟨rfl, by simp [am_u], by simp [am_u]⟩
    have yes : m_D m_fp m_cp 164 6 g X I A J (227, [(2, .int kk), (1, .int s), (0, .ref 29)], [], am_H g I A J X) (m_Rx T tk (x_end (d_pc tk) true (p, (kk, t, nd) :: K', v :: V', m, S))) := by
      have he := y_endb (g := g) (X := X) (some := true) hX hK12 (by omega) (fun _ => by simp) hVm hko hkk0 (by omega) hSo
      refine m_D.call (n := 9) (by decide) rfl (by decide) he (fun vv I5 A5 J5 hR hF => ?_)
      rcases hR.x with ⟨st, X', r1, rfl, r3⟩ | ⟨q, r1, rfl, r3⟩
      · rw [r1]
        have := x_end_st r1
        subst this
        refine m_D.nay 9 (by decide) rfl (by decide) ?_
        exact m_D.ret 9 (by decide) rfl trivial m_Fr.refl ⟨rfl, r3⟩
      · rw [r1]
        refine m_D.yea 9 (by decide) rfl (by decide) ?_
        exact m_D.ret 9 (by decide) rfl trivial m_Fr.refl ⟨rfl, r3⟩
    refine m_D.yea 9 (by decide) rfl (by rw [h35]; exact nI_ne0 (by simp) (by simp; omega)) ?_
    refine m_D.cav (n := 9) (by decide) rfl top (by decide) m_Fr.refl ?_
    rw [show x_top ((kk, t, nd) :: K') = kk from rfl]
    refine m_D.cav (n := 9) (by decide) rfl s44 (by decide) m_Fr.refl ?_
    by_cases c44 : k = 44 ∧ (kk = -1 ∨ kk = -3)
    · rw [if_pos c44, show decide (k = nI 44) = true from decide_eq_true c44.1]
      have kneg : kk < 0 := by rcases c44.2 with z | z <;> (rw [z]; decide)
      have hnd := hko.2.1 kneg
      dsimp only at hnd
      refine m_D.nay 9 (by decide) rfl (by decide) ?_
      have st : ∀ {P : mP}, m_D m_fp m_cp 164 6 g X I A J (149, [(2, .int kk), (1, .int s), (0, .ref 29)], [], am_H g I A J X) P → m_D m_fp m_cp 164 6 g X I A J (138, [(2, .int kk), (1, .int s), (0, .ref 29)], [], am_H g I A J X) P := fun q => by
        by_cases z : kk = -1
        · exact m_D.yea 9 (by decide) rfl z q
        · refine m_D.nay 9 (by decide) rfl z ?_
          exact m_D.nay 9 (by decide) rfl (fun y => y (c44.2.resolve_left z)) q
      refine st ?_
      have hX1 := hX.val
      have e37 : I 29 37 - 1 = nI V'.length := by rw [h37]; exact nI_pred _
      refine m_D.nee 20 (by decide) rfl (by rw [am_un (by decide), e35]; exact nI_in hK12 (by decide)) ?_
      rw [e37, show A 50 (am_u I 29 37 (nI V'.length) 29 35 - 1).toNatClampNeg = nI nd from by rw [am_un (by decide), e35, nI_clamp (by omega)]; exact hk.2.2.1 kneg]
      refine m_D.heap (m_Fr.put (f := 37) (v := nI V'.length) (by decide)) ?_
      refine m_D.nee 9 (by decide) rfl (by rw [am_uk]; exact nI_in (show V'.length < 16 by simp at hVl; omega) (by decide)) ?_
      rw [show A 51 (am_u I 29 37 (nI V'.length) 29 37).toNatClampNeg = nI v from by rw [am_uk, nI_clamp (by simp at hVl; omega)]; exact hVV.1]
      obtain ⟨hs1, tn, hs2, hs3⟩ := hSo nd hnd
      obtain ⟨A3, a1, a2, a3, a4⟩ := y_app (g := g) (X := X) (I := am_u I 29 37 (nI V'.length)) (A := A) (J := J) (j := nd) (v := v) (by omega) (by omega) (by
        rw [hS]
        rcases hs1 with z | ⟨i, i1, i2⟩
        · exact Or.inl z
        · exact Or.inr ⟨i, by omega, i2⟩)
      rw [hS] at a1
      have hX2 := hX1.tree a1 a2 a3
      refine m_D.can (n := 9) (by decide) rfl a4 (by decide) a2 ?_
      have e31 : am_u I 29 37 (nI V'.length) 29 31 + 1 = nI (p + 1) := by rw [hX2.1, nI_1]
      refine m_D.ret 12 (by decide) rfl trivial (m_Fr.put (by decide)) ?_
      rw [e31]
      exact ⟨rfl, hX2.at⟩
    · rw [if_neg c44]
      have st : ∀ {P : mP}, m_D m_fp m_cp 164 6 g X I A J (195, [(2, .int kk), (1, .int s), (0, .ref 29)], [], am_H g I A J X) P → m_D m_fp m_cp 164 6 g X I A J (135, [(2, .int kk), (1, .int s), (0, .ref 29)], [.int (am_b (decide (k = nI 44)))], am_H g I A J X) P := fun q => by
        by_cases z : k = 44
        · rw [show decide (k = nI 44) = true from decide_eq_true z]
          refine m_D.nay 9 (by decide) rfl (by decide) ?_
          refine m_D.nay 9 (by decide) rfl (fun y => c44 ⟨z, Or.inl y⟩) ?_
          exact m_D.yea 9 (by decide) rfl (fun y => c44 ⟨z, Or.inr y⟩) q
        · rw [show decide (k = nI 44) = false from decide_eq_false z]
          exact m_D.yea 9 (by decide) rfl (by decide) q
      refine st ?_
      refine m_D.cav (n := 9) (by decide) rfl s41 (by decide) m_Fr.refl ?_
      by_cases c41 : k = 41 ∧ (kk = 0 ∨ kk = -1)
      · rw [if_pos (Or.inl c41), show decide (k = nI 41) = true from decide_eq_true c41.1]
        refine m_D.nay 9 (by decide) rfl (by decide) ?_
        by_cases z : kk = 0
        · exact m_D.yea 9 (by decide) rfl z yes
        · refine m_D.nay 9 (by decide) rfl z ?_
          exact m_D.yea 9 (by decide) rfl (c41.2.resolve_left z) yes
      · have st2 : ∀ {P : mP}, m_D m_fp m_cp 164 6 g X I A J (213, [(2, .int kk), (1, .int s), (0, .ref 29)], [], am_H g I A J X) P → m_D m_fp m_cp 164 6 g X I A J (201, [(2, .int kk), (1, .int s), (0, .ref 29)], [.int (am_b (decide (k = nI 41)))], am_H g I A J X) P := fun q => by
          by_cases z : k = 41
          · rw [show decide (k = nI 41) = true from decide_eq_true z]
            refine m_D.nay 9 (by decide) rfl (by decide) ?_
            refine m_D.nay 9 (by decide) rfl (fun y => c41 ⟨z, Or.inl y⟩) ?_
            exact m_D.nay 9 (by decide) rfl (fun y => c41 ⟨z, Or.inr y⟩) q
          · rw [show decide (k = nI 41) = false from decide_eq_false z]
            exact m_D.yea 9 (by decide) rfl (by decide) q
        refine st2 ?_
        refine m_D.cav (n := 9) (by decide) rfl s93 (by decide) m_Fr.refl ?_
        by_cases c93 : k = 93 ∧ kk < -1
        · rw [if_pos (Or.inr c93), show decide (k = nI 93) = true from decide_eq_true c93.1]
          refine m_D.nay 9 (by decide) rfl (by decide) ?_
          refine m_D.nay 9 (by decide) rfl (Int32.not_le.mpr c93.2) ?_
          exact yes
        · rw [if_neg (fun z => z.elim c41 c93)]
          by_cases z : k = 93
          · rw [show decide (k = nI 93) = true from decide_eq_true z]
            refine m_D.nay 9 (by decide) rfl (by decide) ?_
            refine m_D.yea 9 (by decide) rfl (Int32.not_lt.mp (fun y => c93 ⟨z, y⟩)) ?_
            exact no
          · rw [show decide (k = nI 93) = false from decide_eq_false z]
            refine m_D.yea 9 (by decide) rfl (by decide) ?_
            exact no
end MBH
