/-! THE REFERENCE'S PARSER: part() -/
theorem s_kd_k {k c : Int32} (hc : c = 1 ∨ c = 3 ∨ c = 4 ∨ c = 6 ∨ c = 7 ∨ c = 8 ∨ c = 9) : s_kd k = c ↔ k = c := by
  refine ⟨fun z => ?_, fun z => ?_⟩
  · unfold s_kd at z
    split at z
    · exact z
    · split at z
      · rcases hc with r | r | r | r | r | r | r <;> (subst r; exact absurd z (by decide))
      · rcases hc with r | r | r | r | r | r | r <;> (subst r; exact absurd z (by decide))
  · subst z
    unfold s_kd
    rw [if_pos hc]
section MPB
variable {g : List aK} {X : Nat × (Nat → Int32)} {T p b : Nat} {tk : Nat → aT}
theorem y_part {I A : Nat → Nat → Int32} {J : Nat → Nat → Int64} {K : List xK} {V : List Nat} {m : Nat} {S : aN} (hK : d_K T tk) (hX : m_X T tk (p, K, V, m, S) I A J) (hJ : x_J T b 0 (p, K, V, m, S)) (hb : b + 120 ≤ 380) : m_M m_fp m_cp 5 161 [.ref 29] g I A J X (m_Rx T tk (x_part (d_mk T tk) (d_pc tk) (p, K, V, m, S))) := by
  obtain ⟨h31, h35, hk, h37, hVV, h29, hS, hT⟩ := id hX
  obtain ⟨hp, hKl, hVl, hVm, hKo, hmb, hSo⟩ := hJ
  have h120 := hT.2.1
  have hnb := x_nb_le K
  have emk : d_mk T tk p = (tk p).2.1 := if_pos hp
  have e31 : (I 29 31).toNatClampNeg = p := by rw [h31, nI_clamp (by omega)]
  have e32 : A 32 (I 29 31).toNatClampNeg = s_kd (d_mk T tk p) := by rw [e31, emk]; exact (hT.2.2.1 p hp).1.trans (hK p hp).1
  have w21 := y_isW (g := g) (X := X) (i := 10) hT hK h31 hp (by decide)
  have s45 := y_isS (g := g) (X := X) (d := 45) hT hK h31 hp (by decide) (by decide)
  have s40 := y_isS (g := g) (X := X) (d := 40) hT hK h31 hp (by decide) (by decide)
  have s91 := y_isS (g := g) (X := X) (d := 91) hT hK h31 hp (by decide) (by decide)
  have s41 := y_isS (g := g) (X := X) (d := 41) hT hK h31 hp (by decide) (by decide)
  have s93 := y_isS (g := g) (X := X) (d := 93) hT hK h31 hp (by decide) (by decide)
  have top := y_top (g := g) (J := J) (X := X) h35 hKl hk
  unfold x_part
  dsimp only
  refine m_D.met rfl rfl ?_
  refine m_D.nee 9 (by decide) rfl (by rw [h31]; exact nI_in (show p < 120 by omega) (by decide)) ?_
  rw [e32]
  generalize d_mk T tk p = k at w21 s45 s40 s91 s41 s93
  by_cases c1 : k = 1 ∨ k = 3 ∨ k = 4
  · rw [if_pos c1]
    have st : ∀ {P : mP}, m_D m_fp m_cp 161 5 g X I A J (56, [(1, .int (s_kd k)), (0, .ref 29)], [.int (if k = 1 then 20 else if k = 3 then 21 else 22), .ref 29, .int (I 29 37), .ref 51], am_H g I A J X) P → m_D m_fp m_cp 161 5 g X I A J (9, [(0, .ref 29)], [.int (s_kd k)], am_H g I A J X) P := fun kk => by
      by_cases k1 : k = 1
      · rw [if_pos k1] at kk
        refine m_D.yea 9 (by decide) rfl ((s_kd_k (by decide)).mpr k1) ?_
        refine m_D.nay 9 (by decide) rfl (fun z => z ((s_kd_k (by decide)).mpr k1)) ?_
        exact m_D.pla 2 (by decide) rfl kk
      rw [if_neg k1] at kk
      have n1 : ¬ s_kd k = 1 := fun z => k1 ((s_kd_k (by decide)).mp z)
      refine m_D.nay 9 (by decide) rfl n1 ?_
      by_cases k3 : k = 3
      · rw [if_pos k3] at kk
        refine m_D.yea 9 (by decide) rfl ((s_kd_k (by decide)).mpr k3) ?_
        refine m_D.yea 9 (by decide) rfl n1 ?_
        refine m_D.nay 9 (by decide) rfl (fun z => z ((s_kd_k (by decide)).mpr k3)) ?_
        exact m_D.pla 2 (by decide) rfl kk
      · rw [if_neg k3] at kk
        have n3 : ¬ s_kd k = 3 := fun z => k3 ((s_kd_k (by decide)).mp z)
        have k4 : k = 4 := (c1.resolve_left k1).resolve_left k3
        refine m_D.nay 9 (by decide) rfl n3 ?_
        refine m_D.nay 9 (by decide) rfl (fun z => z ((s_kd_k (by decide)).mpr k4)) ?_
        refine m_D.yea 9 (by decide) rfl n1 ?_
        refine m_D.yea 9 (by decide) rfl n3 ?_
        exact m_D.pla 1 (by decide) rfl kk
    refine st ?_
    generalize (if k = 1 then 20 else if k = 3 then 21 else 22 : Int32) = kd
    have hX1 := hX.mk (k := kd) (t := nI p)
    refine m_D.cav (n := 9) (by decide) rfl (y_make h29 (by omega)) (by decide) m_addA_Fr ?_
    rw [h31]
    have hlen : V.length < 16 := by omega
    refine m_D.nee 9 (by decide) rfl (by rw [h37]; exact nI_in hlen (by decide)) ?_
    generalize hI1 : am_u I 29 29 (nI (m + 1)) = I1 at hX1
    generalize hA1 : m_addA A m kd (nI p) = A1 at hX1
    obtain ⟨g31, g35, gk, g37, gVV, g29, gS, gT⟩ := id hX1
    refine m_D.ret 20 (by decide) rfl trivial (((m_Fr.set (by decide)).trans (m_Fr.put (by decide))).trans (m_Fr.put (by decide))) ?_
    rw [h37, nI_clamp (by omega), g37, nI_1]
    refine ⟨rfl, ?_, ?_, ?_, ?_, ⟨?_, ?_⟩, ?_, ?_, ⟨?_, h120, ?_, by simpa [m_K, am_u] using gT.2.2.2⟩⟩
    · rw [am_uk, am_un (by decide), g31, nI_1]
    · simpa [am_u] using g35
    · simpa [am_uo] using gk
    · rw [am_un (by decide), am_uk]; rfl
    · simp [am_u]
    · refine c_P_same (fun j hj => ?_) gVV
      have : j ≠ V.length := by omega
      simp [am_u, this]
    · simpa [am_u] using g29
    · rw [← gS]
      funext f y
      unfold m_st
      have hne : m_px f ≠ 51 := by
        unfold m_px
        (repeat' split) <;> omega
      rw [am_uo hne]
    · simpa [am_u] using gT.1
    · simpa [am_uo] using gT.2.2.1
  rw [if_neg c1]
  have n1 : ¬ s_kd k = 1 := fun z => c1 (Or.inl ((s_kd_k (by decide)).mp z))
  have n3 : ¬ s_kd k = 3 := fun z => c1 (Or.inr (Or.inl ((s_kd_k (by decide)).mp z)))
  have n4 : ¬ s_kd k = 4 := fun z => c1 (Or.inr (Or.inr ((s_kd_k (by decide)).mp z)))
  refine m_D.nay 9 (by decide) rfl n1 ?_
  refine m_D.nay 9 (by decide) rfl n3 ?_
  refine m_D.yea 9 (by decide) rfl n4 ?_
  refine m_D.cav (n := 9) (by decide) rfl w21 (by decide) m_Fr.refl ?_
  -- what entering comes to
  have ente : ∀ (kk w : Int32) (nd pc m0 : Nat) (S0 : aN) (I1 A1 : Nat → Nat → Int32) (ls : List (Nat × Value)), m_X T tk (p, K, V, m0, S0) I1 A1 J → (kk < 0 → w = nI nd) → (am_run 9 161 (pc, ls, [.int w, .int kk, .ref 29], am_H g I1 A1 J X) = am_ca 157 [.ref 29, .int kk, .int w] (pc + 3, ls, [], am_H g I1 A1 J X)) → (∀ h, am_run 9 161 (pc + 3 - 3 + 3, ls, [.int 0], h) = am_br ((0 : Int32) = 0) (pc + 10, ls, [], h) (pc + 6, ls, [], h) ∧ am_run 9 161 (pc + 3 - 3 + 3, ls, [.int 1], h) = am_br ((1 : Int32) = 0) (pc + 10, ls, [], h) (pc + 6, ls, [], h) ∧ am_run 9 161 (pc + 10, ls, [], h) = am_rt True (.inl (some (.int (-1)))) h ∧ am_run 9 161 (pc + 6, ls, [], h) = am_rt True (.inl (some (.int 1))) h) → m_D m_fp m_cp 161 5 g X I1 A1 J (pc, ls, [.int w, .int kk, .ref 29], am_H g I1 A1 J X) (m_Rx T tk (x_ent (d_pc tk) kk nd (p, K, V, m0, S0))) := fun kk w nd pc m0 S0 I1 A1 ls q1 q2 r1 r2 => by
    have hent := y_ent (g := g) (X := X) (k := kk) (w := w) (nd := nd) q1 hp hKl q2
    refine m_D.call (n := 9) (by decide) r1 (by decide) hent (fun vv I5 A5 J5 hR hF => ?_)
    obtain ⟨x1, x2, x3, x4⟩ := r2 (am_H g I5 A5 J5 X)
    rcases hR.x with ⟨st, X', r1, rfl, r3⟩ | ⟨q, r1, rfl, r3⟩
    · rw [r1]
      have := x_ent_st r1
      subst this
      refine m_D.nay 9 (by decide) x2 (by decide) ?_
      exact m_D.ret 9 (by decide) x4 trivial m_Fr.refl ⟨rfl, r3⟩
    · rw [r1]
      refine m_D.yea 9 (by decide) x1 rfl ?_
      exact m_D.ret 9 (by decide) x3 trivial m_Fr.refl ⟨rfl, r3⟩
  by_cases c21 : k = 21 ∧ (K = [] ∨ ¬ 3 < x_top K)
  · rw [if_pos c21, show decide (k = nI (11 + 10)) = true from decide_eq_true c21.1]
    refine m_D.nay 9 (by decide) rfl (by decide) ?_
    have st : ∀ {P : mP}, m_D m_fp m_cp 161 5 g X I A J (111, [(1, .int (s_kd k)), (0, .ref 29)], [], am_H g I A J X) P → m_D m_fp m_cp 161 5 g X I A J (96, [(1, .int (s_kd k)), (0, .ref 29)], [], am_H g I A J X) P := fun kk => by
      by_cases cK : K = []
      · exact m_D.yea 9 (by decide) rfl (by rw [h35, cK]; rfl) kk
      · refine m_D.nay 9 (by decide) rfl (by rw [h35]; exact nI_ne0 (List.length_pos_iff.mpr cK) (by omega)) ?_
        refine m_D.cav (n := 9) (by decide) rfl top (by decide) m_Fr.refl ?_
        exact m_D.nay 9 (by decide) rfl (c21.2.resolve_left cK) kk
    refine st ?_
    refine m_D.pla 3 (by decide) rfl ?_
    exact ente 3 (-1) 0 114 m S I A _ hX (fun z => absurd z (by decide)) rfl (fun _ => ⟨rfl, rfl, rfl, rfl⟩)
  rw [if_neg c21]
  have st : ∀ {P : mP}, m_D m_fp m_cp 161 5 g X I A J (126, [(1, .int (s_kd k)), (0, .ref 29)], [], am_H g I A J X) P → m_D m_fp m_cp 161 5 g X I A J (93, [(1, .int (s_kd k)), (0, .ref 29)], [.int (am_b (decide (k = nI (11 + 10))))], am_H g I A J X) P := fun kk => by
    by_cases k21 : k = 21
    · rw [show decide (k = nI (11 + 10)) = true from decide_eq_true k21]
      refine m_D.nay 9 (by decide) rfl (by decide) ?_
      have hKne : K ≠ [] := fun z => c21 ⟨k21, Or.inl z⟩
      have h3 : 3 < x_top K := Decidable.byContradiction fun z => c21 ⟨k21, Or.inr z⟩
      refine m_D.nay 9 (by decide) rfl (by rw [h35]; exact nI_ne0 (List.length_pos_iff.mpr hKne) (by omega)) ?_
      refine m_D.cav (n := 9) (by decide) rfl top (by decide) m_Fr.refl ?_
      exact m_D.yea 9 (by decide) rfl h3 kk
    · rw [show decide (k = nI (11 + 10)) = false from decide_eq_false k21]
      exact m_D.yea 9 (by decide) rfl (by decide) kk
  refine st ?_
  refine m_D.cav (n := 9) (by decide) rfl s45 (by decide) m_Fr.refl ?_
  by_cases c45 : k = 45
  · rw [if_pos c45, show decide (k = nI 45) = true from decide_eq_true c45]
    refine m_D.nay 9 (by decide) rfl (by decide) ?_
    refine m_D.pla 3 (by decide) rfl ?_
    exact ente 7 (-1) 0 139 m S I A _ hX (fun z => absurd z (by decide)) rfl (fun _ => ⟨rfl, rfl, rfl, rfl⟩)
  rw [if_neg c45, show decide (k = nI 45) = false from decide_eq_false c45]
  refine m_D.yea 9 (by decide) rfl (by decide) ?_
  refine m_D.cav (n := 9) (by decide) rfl s40 (by decide) m_Fr.refl ?_
  by_cases c40 : k = 40
  · rw [if_pos c40, show decide (k = nI 40) = true from decide_eq_true c40]
    refine m_D.nay 9 (by decide) rfl (by decide) ?_
    refine m_D.pla 3 (by decide) rfl ?_
    exact ente 0 (-1) 0 163 m S I A _ hX (fun z => absurd z (by decide)) rfl (fun _ => ⟨rfl, rfl, rfl, rfl⟩)
  rw [if_neg c40, show decide (k = nI 40) = false from decide_eq_false c40]
  refine m_D.yea 9 (by decide) rfl (by decide) ?_
  refine m_D.cav (n := 9) (by decide) rfl s91 (by decide) m_Fr.refl ?_
  by_cases c91 : k = 91
  · rw [if_pos c91, show decide (k = nI 91) = true from decide_eq_true c91]
    refine m_D.nay 9 (by decide) rfl (by decide) ?_
    refine m_D.cav (n := 9) (by decide) rfl (y_make h29 (by omega)) (by decide) m_addA_Fr ?_
    rw [h31]
    exact ente (-3) (nI m) m 197 (m + 1) _ _ _ _ (hX.mk (k := 23) (t := nI p)) (fun _ => rfl) rfl (fun _ => ⟨rfl, rfl, rfl, rfl⟩)
  rw [if_neg c91, show decide (k = nI 91) = false from decide_eq_false c91]
  refine m_D.yea 9 (by decide) rfl (by decide) ?_
  -- no empty brackets
  have no : m_D m_fp m_cp 161 5 g X I A J (275, [(1, .int (s_kd k)), (0, .ref 29)], [], am_H g I A J X) (m_Rx T tk (.error (9, d_pc tk p))) := by
    refine m_D.nay 9 (by decide) rfl (by decide) ?_
    refine m_D.cav (n := 9) (by decide) rfl (y_unfit hT h31 hp) (by decide) ((m_Fr.put (by decide)).trans (m_Fr.put (by decide))) ?_
    refine m_D.yea 9 (by decide) rfl (by decide) ?_
    exact m_D.ret 9 (by decide) rfl trivial m_Fr.refl ⟨rfl, by simp [am_u], by simp [am_u]⟩
  cases K with
  | nil =>
    refine m_D.yea 9 (by decide) rfl (by rw [h35]; decide) ?_
    exact no
  | cons e K' =>
    obtain ⟨kk, t, nd⟩ := e
    dsimp only
    have hko := hKo (kk, t, nd) List.mem_cons_self
    have hK12 : K'.length < 12 := by simp at hKl; omega
    have e35 : I 29 35 - 1 = nI K'.length := by rw [h35]; exact nI_pred _
    have ht := hko.1
    dsimp only at ht
    refine m_D.nay 9 (by decide) rfl (by rw [h35]; exact nI_nle (by simp) (by simp; omega)) ?_
    refine m_D.nee 9 (by decide) rfl (by rw [e35]; exact nI_in hK12 (by decide)) ?_
    have e49 : A 49 (I 29 35 - 1).toNatClampNeg = nI t := by rw [e35, nI_clamp (by omega)]; exact hk.2.1
    have etp : (A 49 (I 29 35 - 1).toNatClampNeg = I 29 31 - 1) ↔ t + 1 = p := by
      rw [e49, h31]
      refine ⟨fun z => ?_, fun z => by rw [← z]; exact (nI_pred t).symm⟩
      have : nI t + 1 = nI p := by rw [z, Int32.sub_add_cancel]
      rw [nI_1] at this
      exact nI_inj (by omega) (by omega) this
    by_cases ct : t + 1 = p
    · refine m_D.nay 9 (by decide) rfl (fun z => z (etp.mpr ct)) ?_
      have yes : ((k = 41 ∧ kk = -1) ∨ (k = 93 ∧ kk = -3)) → m_D m_fp m_cp 161 5 g X I A J (271, [(1, .int (s_kd k)), (0, .ref 29)], [], am_H g I A J X) (m_Rx T tk (x_end (d_pc tk) false (p, (kk, t, nd) :: K', V, m, S))) := fun hyes => by
        have kneg : ¬ 0 < kk := by rcases hyes with z | z <;> (rw [z.2]; decide)
        refine m_D.yea 9 (by decide) rfl (by decide) ?_
        refine m_D.nay 9 (by decide) rfl (by decide) ?_
        have he := y_endb (g := g) (X := X) (some := false) hX hK12 (by omega) (fun z => by cases z) hVm hko kneg (by omega) hSo
        refine m_D.call (n := 9) (by decide) rfl (by decide) he (fun vv I5 A5 J5 hR hF => ?_)
        rcases hR.x with ⟨st, X', r1, rfl, r3⟩ | ⟨q, r1, rfl, r3⟩
        · rw [r1]
          have := x_end_st r1
          subst this
          refine m_D.nay 9 (by decide) rfl (by decide) ?_
          exact m_D.ret 9 (by decide) rfl trivial m_Fr.refl ⟨rfl, r3⟩
        · rw [r1]
          refine m_D.yea 9 (by decide) rfl (by decide) ?_
          exact m_D.ret 9 (by decide) rfl trivial m_Fr.refl ⟨rfl, r3⟩
      refine m_D.cav (n := 9) (by decide) rfl s41 (by decide) m_Fr.refl ?_
      by_cases c41 : k = 41
      · rw [show decide (k = nI 41) = true from decide_eq_true c41]
        refine m_D.nay 9 (by decide) rfl (by decide) ?_
        refine m_D.cav (n := 9) (by decide) rfl top (by decide) m_Fr.refl ?_
        by_cases ck : kk = -1
        · rw [if_pos ⟨ct, Or.inl ⟨c41, ck⟩⟩]
          refine m_D.yea 9 (by decide) rfl ck ?_
          exact yes (Or.inl ⟨c41, ck⟩)
        · rw [if_neg (fun z => by rcases z.2 with y | y; exact ck y.2; exact absurd (c41.symm.trans y.1) (by decide))]
          refine m_D.nay 9 (by decide) rfl ck ?_
          refine m_D.cav (n := 9) (by decide) rfl s93 (by decide) m_Fr.refl ?_
          rw [show decide (k = nI 93) = false from decide_eq_false (by rw [c41]; decide)]
          refine m_D.yea 9 (by decide) rfl (by decide) ?_
          exact no
      · rw [show decide (k = nI 41) = false from decide_eq_false c41]
        refine m_D.yea 9 (by decide) rfl (by decide) ?_
        refine m_D.cav (n := 9) (by decide) rfl s93 (by decide) m_Fr.refl ?_
        by_cases c93 : k = 93
        · rw [show decide (k = nI 93) = true from decide_eq_true c93]
          refine m_D.nay 9 (by decide) rfl (by decide) ?_
          refine m_D.cav (n := 9) (by decide) rfl top (by decide) m_Fr.refl ?_
          by_cases ck : kk = -3
          · rw [if_pos ⟨ct, Or.inr ⟨c93, ck⟩⟩]
            refine m_D.nay 9 (by decide) rfl (fun z => z ck) ?_
            exact yes (Or.inr ⟨c93, ck⟩)
          · rw [if_neg (fun z => by rcases z.2 with y | y; exact c41 y.1; exact ck y.2)]
            refine m_D.yea 9 (by decide) rfl ck ?_
            exact no
        · rw [show decide (k = nI 93) = false from decide_eq_false c93, if_neg (fun z => by rcases z.2 with y | y; exact c41 y.1; exact c93 y.1)]
          refine m_D.yea 9 (by decide) rfl (by decide) ?_
          exact no
    · rw [if_neg (fun z => ct z.1)]
      refine m_D.yea 9 (by decide) rfl (fun z => ct (etp.mp z)) ?_
      exact no
end MPB
