/-! THE REFERENCE'S STATEMENTS: heads -/
/-- a condition and its colon -/
def d_hc1 (mk : Nat → Int32) (pl : Nat → Nat) (p : Nat) : Except aF (aB × Nat) := match d_ex mk pl 12 1 p with
  | .error x => .error x
  | .ok (e, c, p2) => if mk p2 = 58 then .ok (.branch e c b_0, p2 + 1) else .error (9, pl p2)
/-- a name, parameters and a colon -/
def d_hd1 (mk : Nat → Int32) (pl : Nat → Nat) (p : Nat) : Except aF (aB × Nat) :=
  if mk p = 1 then (if mk (p + 1) = 40 then (match d_ps mk pl (p + 2) with
    | .error x => .error x
    | .ok (c, p2) => if mk p2 = 58 then .ok (c, p2 + 1) else .error (9, pl p2)) else .error (9, pl (p + 1))) else .error (9, pl p)
section MHD
variable {g : List aK} {X : Nat × (Nat → Int32)} {T : Nat} {tk : Nat → aT}
/-- pass a sign -/
theorem y_pasS (hK : d_K T tk) {I A : Nat → Nat → Int32} {J : Nat → Nat → Int64} {p m d : Nat} (hY : m_Y T tk p m I A J) (hp : p < T) (hd : 22 ≤ d) (hd2 : d < 128) : (d_mk T tk p = nI d → am_Con 3 153 [.ref 29, .int (am_b (decide (d_mk T tk p = nI d)))] (am_H g I A J X) (.inl (some (.int 1))) (am_H g (am_u I 29 31 (nI (p + 1))) A J X) 0 0) ∧ (d_mk T tk p ≠ nI d → am_Con 3 153 [.ref 29, .int (am_b (decide (d_mk T tk p = nI d)))] (am_H g I A J X) (.inl (some (.int 0))) (am_H g (am_u (am_u I 29 3 9) 29 4 (nI (d_pc tk p))) A J X) 0 0) := by
  refine ⟨fun z => ?_, fun z => ?_⟩
  · rw [show decide (d_mk T tk p = nI d) = true from decide_eq_true z]
    exact y_pas1 hY.1
  · rw [show decide (d_mk T tk p = nI d) = false from decide_eq_false z]
    exact y_pas0 hY.2.2.1 hY.1 hp
theorem y_hdc (hT : T ≤ 120) (hK : d_K T tk) (hW : d_W (d_mk T tk) T) {I A : Nat → Nat → Int32} {J : Nat → Nat → Int64} {p n e : Nat} (hY : m_Y T tk p (n + 1) I A J) (hN : n_T (m_st A) false (n + 1) (n + 1) n e b_0) (he : e % 32 = 6 ∨ e % 32 = 7) (hm : n + 1 ≤ 2 * p + 4) (hp : p + 1 < T) : m_M m_fp m_cp 10 170 [.ref 29, .int (nI n)] g I A J X (m_Bs T tk (n + 1) n e (n + 1) b_0 (m_st A) (d_hc1 (d_mk T tk) (d_pc tk) (p + 1))) := by
  have hY1 := hY.at (p' := p + 1)
  have en : (nI n).toNatClampNeg = n := nI_clamp (by omega)
  have e39 : A 39 n = nI (e % 32) := hN.1.1
  refine m_D.met rfl rfl ?_
  refine m_D.nee 12 (by decide) rfl (nI_in (show n < 400 by omega) (by decide)) ?_
  rw [show I 29 31 + 1 = nI (p + 1) from by rw [hY.1, nI_1]]
  refine m_D.heap (m_Fr.put (f := 31) (v := nI (p + 1)) (by decide)) ?_
  refine m_D.yea 9 (by decide) rfl (by rw [en, e39]; rcases he with z | z <;> (rw [z]; decide)) ?_
  refine m_D.call (n := 9) (by decide) rfl (by decide) (y_exOf hT hK hW hY1.2.2.1 hY1.1 hY1.2.1 hY1.2.2.2 hp (by omega) (show n < n + 1 by omega)) (fun vv I5 A5 J5 hR hF => ?_)
  unfold d_hc1
  cases hr : d_ex (d_mk T tk) (d_pc tk) 12 1 (p + 1) with
  | error q =>
    rw [hr] at hR
    obtain ⟨rfl, h3, h4⟩ := hR
    refine m_D.yea 9 (by decide) rfl (by decide) ?_
    exact m_D.ret 9 (by decide) rfl (Or.inl rfl) m_Fr.refl ⟨rfl, h3, h4⟩
  | ok a =>
    obtain ⟨e3, c3, p3⟩ := a
    rw [hr] at hR
    obtain ⟨j, m3, S1, rfl, g1, g2, g3, g4, g5, g6⟩ := hR
    have hq := d_ex_Q hW _ _ _ _ _ _ hr (by decide)
    have hq1 := hq.1.1
    have hq2 := hq.2.1
    have v1 := g5.1
    have v2 := g5.2.1
    have v3 := g5.2.2.1
    have hY5 : m_Y T tk p3 m3 I5 A5 J5 := ⟨g1, g2, g3, g4⟩
    obtain ⟨n1, n2, n3, n4⟩ := n_app1 (hh := if S1 2 j < S1 2 n then S1 2 n else S1 2 j + 1) hN (Nat.le_refl _) (Nat.le_refl _) (by omega) g5 (by omega) (fun z => by omega)
    have e6 : m_st A5 = n_lnk S1 n j (if S1 2 j < S1 2 n then S1 2 n else S1 2 j + 1) := g6
    rw [← e6] at n1 n2 n3 n4
    dsimp only
    refine m_D.nay 9 (by decide) rfl (by decide) ?_
    refine m_D.cav (n := 9) (by decide) rfl (y_isS (d := 58) g3 hK g1 hq1 (by decide) (by decide)) (by decide) m_Fr.refl ?_
    obtain ⟨s1, s2⟩ := y_pasS (g := g) (X := X) (d := 58) hK hY5 hq1 (by decide) (by decide)
    by_cases c58 : d_mk T tk p3 = 58
    · rw [if_pos c58]
      refine m_D.cav (n := 9) (by decide) rfl (s1 c58) (by decide) (m_Fr.put (by decide)) ?_
      refine m_D.nay 9 (by decide) rfl (by decide) ?_
      refine m_D.ret 9 (by decide) rfl (Or.inr rfl) m_Fr.refl ⟨rfl, m3, hY5.at, n1, by simp only [b_sz]; omega, by omega, ?_, ?_, fun f k k1 k2 => ?_⟩
      · rw [n3, g5.2.2.2.2.2 6 n (by omega)]
      · rw [n4, g5.2.2.2.2.2 7 n (by omega)]
      · rw [n2 f k k2 (by omega) (by omega), g5.2.2.2.2.2 f k (by omega)]
    · rw [if_neg c58]
      refine m_D.cav (n := 9) (by decide) rfl (s2 c58) (by decide) ((m_Fr.put (by decide)).trans (m_Fr.put (by decide))) ?_
      refine m_D.yea 9 (by decide) rfl (by decide) ?_
      exact m_D.ret 9 (by decide) rfl (Or.inl rfl) m_Fr.refl ⟨rfl, by simp [am_u], by simp [am_u]⟩
/-- a parameter more -/
theorem y_pr {I A : Nat → Nat → Int32} {J : Nat → Nat → Int64} {p m n e lo : Nat} {c : aB} (hY : m_Y T tk p m I A J) (hN : n_T (m_st A) false lo m n e c) (he : e % 32 < 11) (hlm : lo ≤ m) (hn : n < m) (hm : m < 398) (hp : p < T) : ∃ A', m_Fr m_fp m_cp (am_u I 29 29 (nI (m + 1))) (m_addA A m 24 (nI p)) J (am_u I 29 29 (nI (m + 1))) A' J ∧ m_Y T tk p (m + 1) (am_u I 29 29 (nI (m + 1))) A' J ∧ am_Con 1 149 [.ref 29, .int (nI n), .int (nI m)] (am_H g (am_u I 29 29 (nI (m + 1))) (m_addA A m 24 (nI p)) J X) (.inl none) (am_H g (am_u I 29 29 (nI (m + 1))) A' J X) 0 0 ∧ n_T (m_st A') false lo (m + 1) n e (b_add c (24 + 32 * p) b_0) ∧ m_st A' 6 n = m_st A 6 n ∧ m_st A' 7 n = m_st A 7 n ∧ (∀ f k, k < lo → k ≠ n → m_st A' f k = m_st A f k) := by
  obtain ⟨A', a1, a2, a3, a4⟩ := (hY.mk (k := 24) hp).app (g := g) (X := X) (j := n) (v := m) (by omega) (by omega) (by omega)
  have hW : n_W false (m_st A) m (m_st (m_addA A m 24 (nI p))) (24 + 32 * p) := by
    rw [m_addA_st]
    exact n_add_W (by rw [show (24 + 32 * p) % 32 = 24 from by omega]; rfl) (fun _ => by rw [show (24 + 32 * p) / 32 = p from by omega])
  have hV := hW.leaf
  obtain ⟨n1, n2, n3, n4⟩ := n_app1 (hh := if m_st (m_addA A m 24 (nI p)) 2 m < m_st (m_addA A m 24 (nI p)) 2 n then m_st (m_addA A m 24 (nI p)) 2 n else m_st (m_addA A m 24 (nI p)) 2 m + 1) hN hlm (Nat.le_refl _) hn hV (by omega) (fun z => by omega)
  have e6 : m_st A' = n_lnk (m_st (m_addA A m 24 (nI p))) n m (if m_st (m_addA A m 24 (nI p)) 2 m < m_st (m_addA A m 24 (nI p)) 2 n then m_st (m_addA A m 24 (nI p)) 2 n else m_st (m_addA A m 24 (nI p)) 2 m + 1) := a1
  rw [← e6] at n1 n2 n3 n4
  exact ⟨A', a2, a3, a4, n1, by rw [n3, hV.2.2.2.2.2 6 n hn], by rw [n4, hV.2.2.2.2.2 7 n hn], fun f k k1 k2 => by rw [n2 f k k2 (by omega) (by omega), hV.2.2.2.2.2 f k (by omega)]⟩
end MHD
