/-! THE REFERENCE'S PARSER: the loop of closing -/
def m_Rc (T : Nat) (tk : Nat → aT) (p : Nat) (r : Except aF (List xK × List Nat × Nat × aN)) : mP := fun v I' A' J' => match r with
  | .ok (K, V, m, S) => v = some (.int 1) ∧ m_X T tk (p, K, V, m, S) I' A' J'
  | .error q => v = some (.int 0) ∧ I' 29 3 = q.1 ∧ I' 29 4 = nI q.2
section MCG
variable {g : List aK} {X : Nat × (Nat → Int32)} {T p : Nat} {tk : Nat → aT}
theorem x_app_1 {S : aN} {j v : Nat} : ∀ k, x_app S j v 1 k = S 1 k := fun k => n_lnk_f.1 k
theorem x_app_0 {S : aN} {j v : Nat} : ∀ k, x_app S j v 0 k = S 0 k := fun k => n_lnk_f.2.2.2.2.2 k
theorem y_close {l : Int32} (hl : 0 < l) : ∀ (K : List xK) (V : List Nat) (m : Nat) (S : aN) (I A : Nat → Nat → Int32) (J : Nat → Nat → Int64), m_X T tk (p, K, V, m, S) I A J → K.length ≤ 12 → V.length = x_nb K + 1 → (∀ v ∈ V, v < m) → (∀ e ∈ K, x_Ko T m e) → m + x_no K < 400 → x_So T m S → m_D m_fp m_cp 156 4 g X I A J (0, [(0, .ref 29), (1, .int l)], [], am_H g I A J X) (m_Rc T tk p (x_close (d_pc tk) l K V m S))
  | [], V, m, S, I, A, J, hX, hKl, hVl, hVm, hKo, hm, hSo => by
    refine m_D.yea 9 (by decide) rfl (by rw [hX.2.1]; decide) ?_
    exact m_D.ret 9 (by decide) rfl (Or.inr rfl) m_Fr.refl ⟨rfl, hX⟩
  | (k, t, nd) :: r, V, m, S, I, A, J, hX, hKl, hVl, hVm, hKo, hm, hSo => by
    obtain ⟨h31, h35, hk, h37, hVV, h29, hS, hT⟩ := id hX
    have hr12 : r.length < 12 := by simp at hKl; omega
    have e35 : I 29 35 - 1 = nI r.length := by rw [h35]; exact nI_pred r.length
    have ek : A 48 (I 29 35 - 1).toNatClampNeg = k := by rw [e35, nI_clamp (by omega)]; exact hk.1
    obtain ⟨ho1, ho2, ho3⟩ := hKo (k, t, nd) List.mem_cons_self
    dsimp only at ho1 ho2 ho3
    unfold x_close
    refine m_D.nay 9 (by decide) rfl (by rw [h35]; exact nI_nle (by simp) (by simp; omega)) ?_
    refine m_D.nee 9 (by decide) rfl (by rw [e35]; exact nI_in hr12 (by decide)) ?_
    by_cases c1 : k < l
    · rw [if_pos c1]
      refine m_D.yea 9 (by decide) rfl (by rw [ek]; exact c1) ?_
      exact m_D.ret 9 (by decide) rfl (Or.inr rfl) m_Fr.refl ⟨rfl, hX⟩
    · rw [if_neg c1]
      have k0 : 0 < k := Decidable.byContradiction fun z => c1 (Int32.lt_of_le_of_lt (Int32.not_lt.mp z) hl)
      have hno : x_no ((k, t, nd) :: r) = 1 + x_no r := by simp only [x_no, if_pos k0]
      rw [hno] at hm
      have hT120 := hT.2.1
      refine m_D.nay 9 (by decide) rfl (by rw [ek]; exact c1) ?_
      have hX1 := hX.pop
      refine m_D.nee 12 (by decide) rfl (by rw [am_uk, e35]; exact nI_in hr12 (by decide)) ?_
      rw [e35]
      refine m_D.heap (m_Fr.put (f := 35) (v := nI r.length) (by decide)) ?_
      have ek' : A 48 (am_u I 29 35 (nI r.length) 29 35).toNatClampNeg = k := by rw [am_uk, nI_clamp (by omega)]; exact hk.1
      have et' : A 49 (am_u I 29 35 (nI r.length) 29 35).toNatClampNeg = nI t := by rw [am_uk, nI_clamp (by omega)]; exact hk.2.1
      rw [ek']
      refine m_D.cav (n := 9) (by decide) rfl y_kd (by decide) m_Fr.refl ?_
      refine m_D.nee 9 (by decide) rfl (by rw [am_uk]; exact nI_in hr12 (by decide)) ?_
      rw [et']
      have hX2 := hX1.mk (k := x_kd k) (t := nI t)
      refine m_D.cav (n := 9) (by decide) rfl (y_make hX1.2.2.2.2.2.1 (by omega)) (by decide) m_addA_Fr ?_
      have hSo2 := hSo.add (k := x_kd k) ho1
      have hinm : ¬ (nI m < 0 ∨ 400 ≤ (nI m).toNatClampNeg) := nI_in (show m < 400 by omega) (by decide)
      have em : (nI m).toNatClampNeg = m := nI_clamp (by omega)
      have e39 : m_addA A m (x_kd k) (nI t) 39 (nI m).toNatClampNeg = x_kd k := by rw [em]; simp [m_addA, am_u]
      refine m_D.nee 9 (by decide) rfl hinm ?_
      rw [e39]
      generalize hI2 : am_u (am_u I 29 35 (nI r.length)) 29 29 (nI (m + 1)) = I2 at hX2
      generalize hA2 : m_addA A m (x_kd k) (nI t) = A2 at hX2
      have h30 : n_add S m (x_kd k) (nI t) 3 m = 0 := by simp [n_add, am_u]
      have h10 : n_add S m (x_kd k) (nI t) 1 m = nI t := by simp [n_add, am_u]
      have hS2 : m_st A2 = n_add S m (x_kd k) (nI t) := hX2.2.2.2.2.2.2.1
      by_cases c37 : k = 3 ∨ k = 7
      · rw [if_pos c37]
        have hnb : x_nb ((k, t, nd) :: r) = x_nb r := by
          simp only [x_nb]
          rw [if_neg (by rcases c37 with z | z <;> (subst z; decide))]
          omega
        rw [hnb] at hVl
        cases V with
        | nil => simp at hVl
        | cons v V' =>
          dsimp only
          have hv := hVm v List.mem_cons_self
          -- the kind says that it is one
          have st : ∀ {P : mP}, m_D m_fp m_cp 156 4 g X I2 A2 J (85, [(2, .int (nI m)), (0, .ref 29), (1, .int l)], [.int 0], am_H g I2 A2 J X) P → m_D m_fp m_cp 156 4 g X I2 A2 J (64, [(2, .int (nI m)), (0, .ref 29), (1, .int l)], [.int (x_kd k)], am_H g I2 A2 J X) P := fun kk => by
            rcases c37 with z | z
            · subst z
              refine m_D.yea 9 (by decide) rfl (by decide) ?_
              exact m_D.pla 1 (by decide) rfl kk
            · subst z
              refine m_D.nay 9 (by decide) rfl (by decide) ?_
              refine m_D.nee 9 (by decide) rfl hinm ?_
              rw [← hA2, e39]
              refine m_D.yea 9 (by decide) rfl (by decide) ?_
              rw [hA2]
              exact m_D.pla 1 (by decide) rfl kk
          refine st ?_
          have e37 : I2 29 37 = nI (V'.length + 1) := hX2.2.2.2.1
          refine m_D.yea 9 (by decide) rfl (by decide) ?_
          have e37' : I2 29 37 - 1 = nI V'.length := by rw [e37]; exact nI_pred _
          have hX3 := hX2.val
          have hlen : V'.length < 16 := by have := x_nb_le r; simp at hVl; omega
          refine m_D.nee 12 (by decide) rfl (by rw [am_uk, e37']; exact nI_in hlen (by decide)) ?_
          rw [e37']
          refine m_D.heap (m_Fr.put (f := 37) (v := nI V'.length) (by decide)) ?_
          rw [show A2 51 (am_u I2 29 37 (nI V'.length) 29 37).toNatClampNeg = nI v from by rw [am_uk, nI_clamp (by omega)]; exact hX2.2.2.2.2.1.1]
          obtain ⟨A3, a1, a2, a3, a4⟩ := y_app (g := g) (X := X) (I := am_u I2 29 37 (nI V'.length)) (A := A2) (J := J) (j := m) (v := v) (by omega) (by omega) (Or.inl (by rw [hS2]; exact h30))
          rw [hS2] at a1
          have hX4 := hX3.tree a1 a2 a3
          refine m_D.can (n := 9) (by decide) rfl a4 (by decide) a2 ?_
          refine m_D.yea 9 (by decide) rfl (by decide) ?_
          have hfin := y_fini (g := g) (X := X) (n := m) (t := t) hX4 (by omega) ho1 (by rw [x_app_1, h10]) (by omega)
          refine m_D.call (n := 9) (by decide) rfl (by decide) hfin (fun vv I5 A5 J5 hR hF => ?_)
          unfold x_fin at hR
          rw [x_app_1, h10, nI_clamp (by omega)] at hR
          by_cases c10 : 10 < x_app (n_add S m (x_kd k) (nI t)) m v 2 m
          · rw [if_pos c10] at hR ⊢
            obtain ⟨rfl, hR⟩ := hR
            refine m_D.nay 9 (by decide) rfl (by decide) ?_
            exact m_D.ret 9 (by decide) rfl (Or.inl rfl) m_Fr.refl ⟨rfl, hR⟩
          · rw [if_neg c10] at hR ⊢
            obtain ⟨rfl, hR⟩ := hR
            refine m_D.yea 9 (by decide) rfl (by decide) ?_
            refine m_D.pla 1 (by decide) rfl ?_
            refine m_D.sub [2, 3] rfl ?_
            refine y_close hl r (m :: V') (m + 1) _ I5 A5 J5 hR (by omega) (by simp at hVl ⊢; omega) (fun x hx => ?_) (fun e he => ?_) (by omega) (hSo2.app (by omega))
            · rcases List.mem_cons.mp hx with z | z
              · omega
              · have := hVm x (List.mem_cons_of_mem _ z); omega
            · obtain ⟨q1, q2, q3⟩ := hKo e (List.mem_cons_of_mem _ he)
              exact ⟨q1, fun z => by have := q2 z; omega, q3⟩
      · rw [if_neg c37]
        have kb : k = 1 ∨ k = 2 ∨ k = 4 ∨ k = 5 ∨ k = 6 := by
          rcases ho3 with z | z | z | z | z | z | z | z | z | z | z
          · exact absurd k0 (by rw [z]; decide)
          · exact absurd k0 (by rw [z]; decide)
          · exact absurd k0 (by rw [z]; decide)
          · exact absurd k0 (by rw [z]; decide)
          · exact Or.inl z
          · exact Or.inr (Or.inl z)
          · exact absurd (Or.inl z) c37
          · exact Or.inr (Or.inr (Or.inl z))
          · exact Or.inr (Or.inr (Or.inr (Or.inl z)))
          · exact Or.inr (Or.inr (Or.inr (Or.inr z)))
          · exact absurd (Or.inr z) c37
        have hnb : x_nb ((k, t, nd) :: r) = 1 + x_nb r := by simp only [x_nb, if_pos kb]
        rw [hnb] at hVl
        match V, hVl, hVm, hX2, hVV, h37 with
        | [], hVl, _, _, _, _ => simp at hVl
        | [_], hVl, _, _, _, _ => simp at hVl
        | v2 :: v1 :: V', hVl, hVm, hX2, _, _ =>
          dsimp only
          have hv2 := hVm v2 List.mem_cons_self
          have hv1 := hVm v1 (List.mem_cons_of_mem _ List.mem_cons_self)
          have st : ∀ {P : mP}, m_D m_fp m_cp 156 4 g X I2 A2 J (85, [(2, .int (nI m)), (0, .ref 29), (1, .int l)], [.int 1], am_H g I2 A2 J X) P → m_D m_fp m_cp 156 4 g X I2 A2 J (64, [(2, .int (nI m)), (0, .ref 29), (1, .int l)], [.int (x_kd k)], am_H g I2 A2 J X) P := fun kk => by
            refine m_D.nay 9 (by decide) rfl (by rcases kb with z | z | z | z | z <;> (subst z; decide)) ?_
            refine m_D.nee 9 (by decide) rfl hinm ?_
            rw [← hA2, e39]
            refine m_D.nay 9 (by decide) rfl (by rcases kb with z | z | z | z | z <;> (subst z; decide)) ?_
            rw [hA2]
            exact m_D.pla 2 (by decide) rfl kk
          refine st ?_
          have e37 : I2 29 37 = nI (V'.length + 1 + 1) := hX2.2.2.2.1
          refine m_D.nay 9 (by decide) rfl (by decide) ?_
          have e37' : I2 29 37 - 2 = nI V'.length := by
            rw [e37, show (2 : Int32) = nI 2 from rfl, nI_sub (by omega)]
            rfl
          have hX3 : m_X T tk (p, r, V', m + 1, n_add S m (x_kd k) (nI t)) (am_u I2 29 37 (nI V'.length)) A2 J := by
            have := hX2.val.val
            rw [am_uu] at this
            exact this
          have hlen : V'.length + 1 < 16 := by have := x_nb_le r; simp at hVl; omega
          refine m_D.nee 15 (by decide) rfl (by rw [am_uk, e37']; exact nI_in (show V'.length < 16 by omega) (by decide)) ?_
          rw [e37']
          refine m_D.heap (m_Fr.put (f := 37) (v := nI V'.length) (by decide)) ?_
          rw [show A2 51 (am_u I2 29 37 (nI V'.length) 29 37).toNatClampNeg = nI v1 from by rw [am_uk, nI_clamp (by omega)]; exact hX2.2.2.2.2.1.2.1]
          obtain ⟨A3, a1, a2, a3, a4⟩ := y_app (g := g) (X := X) (I := am_u I2 29 37 (nI V'.length)) (A := A2) (J := J) (j := m) (v := v1) (by omega) (by omega) (Or.inl (by rw [hS2]; exact h30))
          rw [hS2] at a1
          have hX4 := hX3.tree a1 a2 a3
          refine m_D.can (n := 9) (by decide) rfl a4 (by decide) a2 ?_
          refine m_D.nay 9 (by decide) rfl (by decide) ?_
          refine m_D.nee 12 (by decide) rfl (by rw [am_uk, nI_1]; exact nI_in hlen (by decide)) ?_
          rw [show A3 51 (am_u I2 29 37 (nI V'.length) 29 37 + 1).toNatClampNeg = nI v2 from by rw [am_uk, nI_1, nI_clamp (by omega), a3 51 (by simp)]; exact hX2.2.2.2.2.1.1]
          obtain ⟨A4, b1, b2, b3, b4⟩ := y_app (g := g) (X := X) (I := am_u I2 29 37 (nI V'.length)) (A := A3) (J := J) (j := m) (v := v2) (by omega) (by omega) (Or.inr ⟨v1, by omega, by rw [a1]; exact n_lnk_f.2.2.2.1⟩)
          rw [a1] at b1
          have hX5 := hX4.tree b1 b2 b3
          refine m_D.can (n := 9) (by decide) rfl b4 (by decide) b2 ?_
          have hfin := y_fini (g := g) (X := X) (n := m) (t := t) hX5 (by omega) ho1 (by rw [x_app_1, x_app_1, h10]) (by omega)
          refine m_D.call (n := 9) (by decide) rfl (by decide) hfin (fun vv I5 A5 J5 hR hF => ?_)
          unfold x_fin at hR
          rw [x_app_1, x_app_1, h10, nI_clamp (by omega)] at hR
          by_cases c10 : 10 < x_app (x_app (n_add S m (x_kd k) (nI t)) m v1) m v2 2 m
          · rw [if_pos c10] at hR ⊢
            obtain ⟨rfl, hR⟩ := hR
            refine m_D.nay 9 (by decide) rfl (by decide) ?_
            exact m_D.ret 9 (by decide) rfl (Or.inl rfl) m_Fr.refl ⟨rfl, hR⟩
          · rw [if_neg c10] at hR ⊢
            obtain ⟨rfl, hR⟩ := hR
            refine m_D.yea 9 (by decide) rfl (by decide) ?_
            refine m_D.pla 1 (by decide) rfl ?_
            refine m_D.sub [2, 3] rfl ?_
            refine y_close hl r (m :: V') (m + 1) _ I5 A5 J5 hR (by omega) (by simp at hVl ⊢; omega) (fun x hx => ?_) (fun e he => ?_) (by omega) ((hSo2.app (by omega)).app (by omega))
            · rcases List.mem_cons.mp hx with z | z
              · omega
              · have := hVm x (List.mem_cons_of_mem _ (List.mem_cons_of_mem _ z)); omega
            · obtain ⟨q1, q2, q3⟩ := hKo e (List.mem_cons_of_mem _ he)
              exact ⟨q1, fun z => by have := q2 z; omega, q3⟩
end MCG
