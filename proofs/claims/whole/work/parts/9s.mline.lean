/-! THE REFERENCE'S STATEMENTS: line() -/
theorem m_Bs.seq {T : Nat} {tk : Nat → aT} {lo b eb m m1 : Nat} {c0 c1 : aB} {S S1 : aN} {r : Except aF (aB × Nat)} {v : Option Value} {I' A' : Nat → Nat → Int32} {J' : Nat → Nat → Int64} (h : m_Bs T tk lo b eb m1 c1 S1 r v I' A' J') (h1 : m1 + b_sz c0 = m + b_sz c1) (h2 : m ≤ m1) (h3 : S1 6 b = S 6 b) (h3' : S1 7 b = S 7 b) (h4 : ∀ f k, k < lo → k ≠ b → S1 f k = S f k) : m_Bs T tk lo b eb m c0 S r v I' A' J' := by
  cases r with
  | error q => exact h
  | ok a =>
    obtain ⟨r1, m', r2, r3, r4, r5, r6, r6', r7⟩ := h
    exact ⟨r1, m', r2, r3, by omega, by omega, r6.trans h3, r6'.trans h3', fun f k q1 q2 => (r7 f k q1 q2).trans (h4 f k q1 q2)⟩
section MLI
variable {g : List aK} {X : Nat × (Nat → Int32)} {T : Nat} {tk : Nat → aT}
theorem y_pas1 {I A : Nat → Nat → Int32} {J : Nat → Nat → Int64} {p : Nat} (h31 : I 29 31 = nI p) : am_Con 3 153 [.ref 29, .int 1] (am_H g I A J X) (.inl (some (.int 1))) (am_H g (am_u I 29 31 (nI (p + 1))) A J X) 0 0 := by
  refine am_met rfl rfl ?_
  refine am_yea 9 (by decide) rfl (by decide) ?_
  refine am_end 12 (by decide) rfl (Or.inr rfl) (by decide) (by decide) ⟨rfl, ?_⟩
  rw [h31, nI_1]
theorem y_pas0 {I A : Nat → Nat → Int32} {J : Nat → Nat → Int64} {p : Nat} (hT : m_Tk I A J T tk) (h31 : I 29 31 = nI p) (hp : p < T) : am_Con 3 153 [.ref 29, .int 0] (am_H g I A J X) (.inl (some (.int 0))) (am_H g (am_u (am_u I 29 3 9) 29 4 (nI (d_pc tk p))) A J X) 0 0 := by
  refine am_met rfl rfl ?_
  refine am_nay 9 (by decide) rfl (by decide) ?_
  refine am_cav 9 (by decide) rfl (y_unfit hT h31 hp) (by decide) (by decide) (by decide) ?_
  exact am_end 9 (by decide) rfl (Or.inl rfl) (by decide) (by decide) ⟨rfl, rfl⟩
theorem m_Y.kind {I A : Nat → Nat → Int32} {J : Nat → Nat → Int64} {p m : Nat} (hK : d_K T tk) (h : m_Y T tk p m I A J) (hp : p < T) : A 32 (I 29 31).toNatClampNeg = s_kd (d_mk T tk p) ∧ ¬ (I 29 31 < 0 ∨ 120 ≤ (I 29 31).toNatClampNeg) := by
  have h120 := h.2.2.1.2.1
  have e31 : (I 29 31).toNatClampNeg = p := by rw [h.1, nI_clamp (by omega)]
  refine ⟨?_, by rw [h.1]; exact nI_in (by omega) (by decide)⟩
  rw [e31, show d_mk T tk p = (tk p).2.1 from if_pos hp]
  exact (h.2.2.1.2.2.1 p hp).1.trans (hK p hp).1
/-- the end of a line -/
theorem y_lx (hK : d_K T tk) {I A : Nat → Nat → Int32} {J : Nat → Nat → Int64} {p m b lo eb : Nat} {c : aB} (hY : m_Y T tk p m I A J) (hN : n_T (m_st A) false lo m b eb c) (hp : p < T) : m_D m_fp m_cp 168 10 g X I A J (71, [(2, .int 0), (0, .ref 29), (1, .int (nI b))], [], am_H g I A J X) (m_Bs T tk lo b eb m c (m_st A) (if d_mk T tk p = 6 then .ok (c, p + 1) else .error (9, d_pc tk p))) := by
  obtain ⟨k1, k2⟩ := hY.kind hK hp
  refine m_D.nee 9 (by decide) rfl k2 ?_
  by_cases c6 : d_mk T tk p = 6
  · rw [if_pos c6]
    refine m_D.nay 9 (by decide) rfl (by rw [k1]; exact fun z => z ((s_kd_k (by decide)).mpr c6)) ?_
    refine m_D.cav (n := 9) (by decide) rfl (y_pas1 hY.1) (by decide) (m_Fr.put (by decide)) ?_
    exact m_D.ret 9 (by decide) rfl (Or.inr rfl) m_Fr.refl ⟨rfl, m, hY.at, hN, rfl, Nat.le_refl _, rfl, rfl, fun _ _ _ _ => rfl⟩
  · rw [if_neg c6]
    refine m_D.yea 9 (by decide) rfl (by rw [k1]; exact fun z => c6 ((s_kd_k (by decide)).mp z)) ?_
    refine m_D.cav (n := 9) (by decide) rfl (y_pas0 hY.2.2.1 hY.1 hp) (by decide) ((m_Fr.put (by decide)).trans (m_Fr.put (by decide))) ?_
    exact m_D.ret 9 (by decide) rfl (Or.inl rfl) m_Fr.refl ⟨rfl, by simp [am_u], by simp [am_u]⟩
theorem y_ll (hT : T ≤ 120) (hK : d_K T tk) (hW : d_W (d_mk T tk) T) {b lo eb : Nat} (heb : eb % 32 < 11) (hblo : b < lo) : ∀ (i : Nat) (c : aB) (p m : Nat) (I A : Nat → Nat → Int32) (J : Nat → Nat → Int64), 120 ≤ i + p → m_Y T tk p m I A J → n_T (m_st A) false lo m b eb c → lo ≤ m → m ≤ 2 * p + 2 → p < T → m_D m_fp m_cp 168 10 g X I A J (16, [(2, .int 1), (0, .ref 29), (1, .int (nI b))], [], am_H g I A J X) (m_Bs T tk lo b eb m c (m_st A) (d_ll (d_mk T tk) (d_pc tk) i c p))
  | 0, c, p, m, I, A, J, hi, hY, hN, hlm, hm, hp => by omega
  | i + 1, c, p, m, I, A, J, hi, hY, hN, hlm, hm, hp => by
    unfold d_ll
    refine m_D.cav (n := 9) (by decide) rfl (y_isS (d := 59) hY.2.2.1 hK hY.1 hp (by decide) (by decide)) (by decide) m_Fr.refl ?_
    by_cases c59 : d_mk T tk p = 59
    · rw [if_pos c59, show decide (d_mk T tk p = nI 59) = true from decide_eq_true c59]
      have hp1 := hW.lt c59 (by decide)
      have hY1 := hY.at (p' := p + 1)
      obtain ⟨k1, k2⟩ := hY1.kind hK hp1
      refine m_D.nay 9 (by decide) rfl (by decide) ?_
      refine m_D.nay 12 (by decide) rfl (by decide) ?_
      rw [show I 29 31 + 1 = nI (p + 1) from by rw [hY.1, nI_1]]
      refine m_D.heap (m_Fr.put (f := 31) (v := nI (p + 1)) (by decide)) ?_
      refine m_D.nee 9 (by decide) rfl k2 ?_
      by_cases c6 : d_mk T tk (p + 1) = 6
      · rw [if_pos c6]
        refine m_D.yea 9 (by decide) rfl (by rw [k1]; exact (s_kd_k (by decide)).mpr c6) ?_
        refine m_D.pla 3 (by decide) rfl ?_
        refine m_D.yea 9 (by decide) rfl (by decide) ?_
        have := y_lx (g := g) (X := X) hK hY1 hN hp1
        rw [if_pos c6] at this
        exact this
      · rw [if_neg c6]
        refine m_D.nay 9 (by decide) rfl (by rw [k1]; exact fun z => c6 ((s_kd_k (by decide)).mp z)) ?_
        refine m_D.pla 4 (by decide) rfl ?_
        refine m_D.nay 9 (by decide) rfl (by decide) ?_
        refine m_D.call (n := 9) (by decide) rfl (by decide) (y_sm hT hK hW hY1 hN heb hlm (Nat.le_refl _) (by omega) hblo (by omega) hp1) (fun vv I5 A5 J5 hR hF => ?_)
        cases hd : d_sm (d_mk T tk) (d_pc tk) (p + 1) with
        | error x =>
          rw [hd] at hR
          obtain ⟨rfl, h3, h4⟩ := hR
          refine m_D.nay 9 (by decide) rfl (by decide) ?_
          exact m_D.ret 9 (by decide) rfl (Or.inl rfl) m_Fr.refl ⟨rfl, h3, h4⟩
        | ok a =>
          obtain ⟨e2, c2, p2⟩ := a
          rw [hd] at hR
          obtain ⟨rfl, m', r2, r3, r4, r5, r6, r6', r7⟩ := hR
          rw [b_sz_add] at r4
          have hz := (d_sm_Z hW hd).1
          have z0 := hz.1
          have z1 := hz.2.1
          have z2 := hz.2.2.2.1
          refine m_D.yea 9 (by decide) rfl (by decide) ?_
          refine (y_ll hT hK hW heb hblo i (b_add c e2 c2) p2 m' I5 A5 J5 (by omega) r2 r3 (by omega) (by omega) z1).mono ?_
          intro v I' A' J' hR' _
          exact hR'.seq (by rw [b_sz_add]; omega) r5 r6 r6' r7
    · rw [if_neg c59, show decide (d_mk T tk p = nI 59) = false from decide_eq_false c59]
      refine m_D.yea 9 (by decide) rfl (by decide) ?_
      refine m_D.yea 12 (by decide) rfl (by decide) ?_
      have e31 : am_u I 29 31 (I 29 31) = I := am_ui rfl
      rw [e31]
      refine m_D.pla 3 (by decide) rfl ?_
      refine m_D.yea 9 (by decide) rfl (by decide) ?_
      exact y_lx hK hY hN hp
theorem y_li (hT : T ≤ 120) (hK : d_K T tk) (hW : d_W (d_mk T tk) T) {b lo mid eb p m : Nat} {c : aB} {I A : Nat → Nat → Int32} {J : Nat → Nat → Int64} (heb : eb % 32 < 11) (hblo : b < lo) (hY : m_Y T tk p m I A J) (hN : n_T (m_st A) false lo mid b eb c) (hlm : lo ≤ mid) (hmm : mid ≤ m) (hm : m ≤ 2 * p + 2) (hp : p < T) : m_M m_fp m_cp 10 168 [.ref 29, .int (nI b)] g I A J X (m_Bs T tk lo b eb m c (m_st A) (d_li (d_mk T tk) (d_pc tk) c p)) := by
  refine m_D.met rfl rfl ?_
  unfold d_li
  refine m_D.nay 9 (by decide) rfl (by decide) ?_
  refine m_D.call (n := 9) (by decide) rfl (by decide) (y_sm hT hK hW hY hN heb hlm hmm (by omega) hblo (by omega) hp) (fun vv I5 A5 J5 hR hF => ?_)
  cases hd : d_sm (d_mk T tk) (d_pc tk) p with
  | error x =>
    rw [hd] at hR
    obtain ⟨rfl, h3, h4⟩ := hR
    refine m_D.nay 9 (by decide) rfl (by decide) ?_
    exact m_D.ret 9 (by decide) rfl (Or.inl rfl) m_Fr.refl ⟨rfl, h3, h4⟩
  | ok a =>
    obtain ⟨e2, c2, p2⟩ := a
    rw [hd] at hR
    obtain ⟨rfl, m', r2, r3, r4, r5, r6, r6', r7⟩ := hR
    rw [b_sz_add] at r4
    have hz := (d_sm_Z hW hd).1
    have z0 := hz.1
    have z1 := hz.2.1
    have z2 := hz.2.2.2.1
    refine m_D.yea 9 (by decide) rfl (by decide) ?_
    refine (y_ll hT hK hW heb hblo 120 (b_add c e2 c2) p2 m' I5 A5 J5 (by omega) r2 r3 (by omega) (by omega) z1).mono ?_
    intro v I' A' J' hR' _
    exact hR'.seq (by rw [b_sz_add]; omega) r5 r6 r6' r7
end MLI
