/-! THE REFERENCE'S PARSER: behind() and the steps -/
section MBI
variable {g : List aK} {X : Nat × (Nat → Int32)} {T p b : Nat} {tk : Nat → aT} {pl : Nat → Nat}
theorem x_close_top {l : Int32} : ∀ (K : List xK) (V : List Nat) (m : Nat) (S : aN) {K1 : List xK} {V1 : List Nat} {m1 : Nat} {S1 : aN}, x_close pl l K V m S = .ok (K1, V1, m1, S1) → ∀ e ∈ K1.head?, e.1 < l
  | [], V, m, S, K1, V1, m1, S1, h => by unfold x_close at h; cases h; simp
  | (k, t, nd) :: r, V, m, S, K1, V1, m1, S1, h => by
    unfold x_close at h
    by_cases c1 : k < l
    · rw [if_pos c1] at h
      cases h
      intro e he
      simp at he
      rw [← he]
      exact c1
    rw [if_neg c1] at h
    split at h
    · split at h
      · split at h
        · cases h
        · exact x_close_top r _ _ _ h
      · cases h
    · split at h
      · split at h
        · cases h
        · exact x_close_top r _ _ _ h
      · cases h
theorem y_cl1 {I A : Nat → Nat → Int32} {J : Nat → Nat → Int64} {K : List xK} {V : List Nat} {m : Nat} {S : aN} {s : Int32} (hK : d_K T tk) (hX : m_X T tk (p, K, V, m, S) I A J) (hJ : x_J T b 1 (p, K, V, m, S)) (hb : b + 120 ≤ 380) : m_D m_fp m_cp 164 6 g X I A J (105, [(1, .int s), (0, .ref 29)], [], am_H g I A J X) (m_Rx T tk (x_cl1 (d_mk T tk) (d_pc tk) (p, K, V, m, S))) := by
  refine m_D.call (n := 9) (by decide) rfl (by decide) (y_closeM (l := 1) (by decide) hX hJ hb) (fun vv I5 A5 J5 hR hF => ?_)
  unfold x_cl1
  dsimp only
  cases hc : x_close (d_pc tk) 1 K V m S with
  | error q =>
    rw [hc] at hR
    obtain ⟨rfl, hR⟩ := hR
    refine m_D.nay 9 (by decide) rfl (by decide) ?_
    exact m_D.ret 9 (by decide) rfl trivial m_Fr.refl ⟨rfl, hR⟩
  | ok z =>
    obtain ⟨K1, V1, m1, S1⟩ := z
    rw [hc] at hR
    obtain ⟨rfl, hR⟩ := hR
    refine m_D.yea 9 (by decide) rfl (by decide) ?_
    refine y_bas hK hR (x_close_J (by decide) K V m S hJ hc) hb (fun e he z => ?_)
    have h1 := x_close_top K V m S hc e he
    have h2 : ∀ k : Int32, k < 1 → ¬ 0 < k := fun k h3 h4 => by
      rw [Int32.lt_iff_toInt_lt] at h3 h4
      have a : (1 : Int32).toInt = 1 := rfl
      have c : (0 : Int32).toInt = 0 := rfl
      omega
    exact h2 _ h1 z
theorem y_beh {I A : Nat → Nat → Int32} {J : Nat → Nat → Int64} {K : List xK} {V : List Nat} {m : Nat} {S : aN} (hK : d_K T tk) (hW : d_W (d_mk T tk) T) (hX : m_X T tk (p, K, V, m, S) I A J) (hJ : x_J T b 1 (p, K, V, m, S)) (hb : b + 120 ≤ 380) : m_M m_fp m_cp 6 164 [.ref 29] g I A J X (m_Rx T tk (x_beh (d_mk T tk) (d_pc tk) (p, K, V, m, S))) := by
  obtain ⟨h31, h35, hk, h37, hVV, h29, hS, hT⟩ := id hX
  obtain ⟨hp, hKl, hVl, hVm, hKo, hmb, hSo⟩ := id hJ
  have h120 := hT.2.1
  have hnb := x_nb_le K
  have s40 := y_isS (g := g) (X := X) (d := 40) hT hK h31 hp (by decide) (by decide)
  have s91 := y_isS (g := g) (X := X) (d := 91) hT hK h31 hp (by decide) (by decide)
  have s46 := y_isS (g := g) (X := X) (d := 46) hT hK h31 hp (by decide) (by decide)
  have sb := y_sb (g := g) (X := X) hT hK h31 hp
  obtain ⟨v, V', rfl⟩ := x_nb_pos (u := 0) hVl
  have hv := hVm v List.mem_cons_self
  have hV' : V'.length ≤ 14 := by simp at hVl; omega
  unfold x_beh
  dsimp only
  generalize hmk : d_mk T tk p = k at s40 s91 s46 sb
  have pas : ∀ {r : xE} {v : Option Value} {I1 A1 : Nat → Nat → Int32} {J1 : Nat → Nat → Int64}, m_Rx T tk r v I1 A1 J1 → ∃ x : Int32, v = some (.int x) := fun {r v I1 A1 J1} h => by
    cases r with
    | error q => exact ⟨_, h.1⟩
    | ok z => exact ⟨_, h.1⟩
  refine m_D.met rfl rfl ?_
  refine m_D.cav (n := 9) (by decide) rfl s40 (by decide) m_Fr.refl ?_
  by_cases c40 : k = 40
  · rw [if_pos c40, show decide (k = nI 40) = true from decide_eq_true c40]
    refine m_D.nay 9 (by decide) rfl (by decide) ?_
    refine m_D.call (n := 9) (by decide) rfl (by decide) (y_apl (w := 17) (as := -1) hX hp hKl hV' hv (by omega) hSo) (fun vv I5 A5 J5 hR hF => ?_)
    obtain ⟨x, rfl⟩ := pas hR
    exact m_D.ret 9 (by decide) rfl trivial m_Fr.refl hR
  rw [if_neg c40, show decide (k = nI 40) = false from decide_eq_false c40]
  refine m_D.yea 9 (by decide) rfl (by decide) ?_
  refine m_D.cav (n := 9) (by decide) rfl s91 (by decide) m_Fr.refl ?_
  by_cases c91 : k = 91
  · rw [if_pos c91, show decide (k = nI 91) = true from decide_eq_true c91]
    refine m_D.nay 9 (by decide) rfl (by decide) ?_
    refine m_D.call (n := 9) (by decide) rfl (by decide) (y_apl (w := 18) (as := -2) hX hp hKl hV' hv (by omega) hSo) (fun vv I5 A5 J5 hR hF => ?_)
    obtain ⟨x, rfl⟩ := pas hR
    exact m_D.ret 9 (by decide) rfl trivial m_Fr.refl hR
  rw [if_neg c91, show decide (k = nI 91) = false from decide_eq_false c91]
  refine m_D.yea 9 (by decide) rfl (by decide) ?_
  refine m_D.cav (n := 9) (by decide) rfl s46 (by decide) m_Fr.refl ?_
  by_cases c46 : k = 46
  · rw [if_pos c46, show decide (k = nI 46) = true from decide_eq_true c46]
    have hT2 := hW.lt (hmk.trans c46) (by decide)
    refine m_D.nay 9 (by decide) rfl (by decide) ?_
    refine m_D.call (n := 9) (by decide) rfl (by decide) (y_mem hK hX hT2 hV' hv (by omega) hSo) (fun vv I5 A5 J5 hR hF => ?_)
    obtain ⟨x, rfl⟩ := pas hR
    exact m_D.ret 9 (by decide) rfl trivial m_Fr.refl hR
  rw [if_neg c46, show decide (k = nI 46) = false from decide_eq_false c46]
  refine m_D.yea 9 (by decide) rfl (by decide) ?_
  refine m_D.cav (n := 9) (by decide) rfl sb (by decide) m_Fr.refl ?_
  have h6 := d_sb_le k
  by_cases c0 : 0 < d_sb k
  · rw [if_pos c0]
    refine m_D.nay 9 (by decide) rfl (nI_nle c0 (by omega)) ?_
    have st : ∀ {P : mP}, m_D m_fp m_cp 164 6 g X I A J (69, [(1, .int (nI (d_sb k))), (0, .ref 29)], [.int (if d_sb k = 4 then 5 else nI (d_sb k)), .ref 29], am_H g I A J X) P → m_D m_fp m_cp 164 6 g X I A J (58, [(1, .int (nI (d_sb k))), (0, .ref 29)], [], am_H g I A J X) P := fun q => by
      by_cases c4 : d_sb k = 4
      · rw [if_pos c4] at q
        refine m_D.nay 9 (by decide) rfl (by rw [c4]; exact fun z => z rfl) ?_
        exact m_D.pla 2 (by decide) rfl q
      · rw [if_neg c4] at q
        refine m_D.yea 9 (by decide) rfl (fun z => c4 (nI_inj (b := 4) (by omega) (by omega) z)) ?_
        exact m_D.pla 1 (by decide) rfl q
    refine st ?_
    have hl : (0 : Int32) < (if d_sb k = 4 then 5 else nI (d_sb k)) := by
      split
      · decide
      · exact nI_lt (a := 0) c0 (by omega)
    refine m_D.call (n := 9) (by decide) rfl (by decide) (y_closeM hl hX hJ hb) (fun vv I5 A5 J5 hR hF => ?_)
    cases hc : x_close (d_pc tk) (if d_sb k = 4 then 5 else nI (d_sb k)) K (v :: V') m S with
    | error q =>
      rw [hc] at hR
      obtain ⟨rfl, hR⟩ := hR
      refine m_D.nay 9 (by decide) rfl (by decide) ?_
      exact m_D.ret 9 (by decide) rfl trivial m_Fr.refl ⟨rfl, hR⟩
    | ok z =>
      obtain ⟨K1, V1, m1, S1⟩ := z
      rw [hc] at hR
      obtain ⟨rfl, hR⟩ := hR
      have hJ1 := x_close_J hl K (v :: V') m S hJ hc
      dsimp only
      refine m_D.yea 9 (by decide) rfl (by decide) ?_
      have top := y_top (g := g) (J := J5) (X := X) hR.2.1 hJ1.2.1 hR.2.2.1
      by_cases c4 : d_sb k ≠ 4 ∨ x_top K1 ≠ 4
      · rw [if_pos c4]
        have st2 : ∀ {P : mP}, m_D m_fp m_cp 164 6 g X I5 A5 J5 (90, [(1, .int (nI (d_sb k))), (0, .ref 29)], [], am_H g I5 A5 J5 X) P → m_D m_fp m_cp 164 6 g X I5 A5 J5 (77, [(1, .int (nI (d_sb k))), (0, .ref 29)], [], am_H g I5 A5 J5 X) P := fun q => by
          by_cases z : d_sb k = 4
          · refine m_D.nay 9 (by decide) rfl (by rw [z]; exact fun y => y rfl) ?_
            refine m_D.cav (n := 9) (by decide) rfl top (by decide) m_Fr.refl ?_
            exact m_D.nay 9 (by decide) rfl (c4.resolve_left (fun y => y z)) q
          · exact m_D.yea 9 (by decide) rfl (fun y => z (nI_inj (b := 4) (by omega) (by omega) y)) q
        refine st2 ?_
        have hent := y_ent (g := g) (X := X) (k := nI (d_sb k)) (w := -1) (nd := 0) hR hp hJ1.2.1 (fun z => absurd z (nI_pos (by omega)))
        refine m_D.call (n := 9) (by decide) rfl (by decide) hent (fun vv I6 A6 J6 hR6 hF6 => ?_)
        rcases hR6.x with ⟨st, X', r1, rfl, r3⟩ | ⟨q, r1, rfl, r3⟩
        · rw [r1]
          have := x_ent_st r1
          subst this
          refine m_D.nay 9 (by decide) rfl (by decide) ?_
          exact m_D.ret 9 (by decide) rfl trivial m_Fr.refl ⟨rfl, r3⟩
        · rw [r1]
          refine m_D.yea 9 (by decide) rfl (by decide) ?_
          exact m_D.ret 9 (by decide) rfl trivial m_Fr.refl ⟨rfl, r3⟩
      · rw [if_neg c4]
        have d4 : d_sb k = 4 := Decidable.byContradiction fun z => c4 (Or.inl z)
        have t4 : x_top K1 = 4 := Decidable.byContradiction fun z => c4 (Or.inr z)
        refine m_D.nay 9 (by decide) rfl (by rw [d4]; exact fun y => y rfl) ?_
        refine m_D.cav (n := 9) (by decide) rfl top (by decide) m_Fr.refl ?_
        refine m_D.yea 9 (by decide) rfl t4 ?_
        exact y_cl1 hK hR hJ1 hb
  · rw [if_neg c0]
    refine m_D.yea 9 (by decide) rfl (by rw [show d_sb k = 0 from by omega]; decide) ?_
    exact y_cl1 hK hX hJ hb
end MBI
