/-! THE REFERENCE'S STATEMENTS: parameters -/
/-- the colon behind -/
def d_col (mk : Nat → Int32) (pl : Nat → Nat) (r : Except aF (aB × Nat)) : Except aF (aB × Nat) := match r with
  | .error x => .error x
  | .ok (c, p2) => if mk p2 = 58 then .ok (c, p2 + 1) else .error (9, pl p2)
section MPM
variable {g : List aK} {X : Nat × (Nat → Int32)} {T : Nat} {tk : Nat → aT}
theorem y_pend (hK : d_K T tk) (hW : d_W (d_mk T tk) T) {I A : Nat → Nat → Int32} {J : Nat → Nat → Int64} {p m n e lo : Nat} {c : aB} {w : Int32} (hY : m_Y T tk p m I A J) (hN : n_T (m_st A) false lo m n e c) (hp : p < T) : m_D m_fp m_cp 169 5 g X I A J (143, [(2, .int w), (0, .ref 29), (1, .int (nI n))], [], am_H g I A J X) (m_Bs T tk lo n e m c (m_st A) (d_col (d_mk T tk) (d_pc tk) (if d_mk T tk p = 41 then .ok (c, p + 1) else .error (9, d_pc tk p)))) := by
  unfold d_col
  refine m_D.cav (n := 9) (by decide) rfl (y_isS (d := 41) hY.2.2.1 hK hY.1 hp (by decide) (by decide)) (by decide) m_Fr.refl ?_
  obtain ⟨s1, s2⟩ := y_pasS (g := g) (X := X) (d := 41) hK hY hp (by decide) (by decide)
  by_cases c41 : d_mk T tk p = 41
  · rw [if_pos c41]
    have hp1 := hW.lt c41 (by decide)
    have hY1 := hY.at (p' := p + 1)
    refine m_D.cav (n := 9) (by decide) rfl (s1 c41) (by decide) (m_Fr.put (by decide)) ?_
    refine m_D.nay 9 (by decide) rfl (by decide) ?_
    refine m_D.cav (n := 9) (by decide) rfl (y_isS (d := 58) hY1.2.2.1 hK hY1.1 hp1 (by decide) (by decide)) (by decide) m_Fr.refl ?_
    obtain ⟨t1, t2⟩ := y_pasS (g := g) (X := X) (d := 58) hK hY1 hp1 (by decide) (by decide)
    dsimp only
    by_cases c58 : d_mk T tk (p + 1) = 58
    · rw [if_pos c58]
      refine m_D.cav (n := 9) (by decide) rfl (t1 c58) (by decide) (m_Fr.put (by decide)) ?_
      refine m_D.nay 9 (by decide) rfl (by decide) ?_
      exact m_D.ret 9 (by decide) rfl (Or.inr rfl) m_Fr.refl ⟨rfl, m, hY1.at, hN, rfl, Nat.le_refl _, rfl, rfl, fun _ _ _ _ => rfl⟩
    · rw [if_neg c58]
      refine m_D.cav (n := 9) (by decide) rfl (t2 c58) (by decide) ((m_Fr.put (by decide)).trans (m_Fr.put (by decide))) ?_
      refine m_D.yea 9 (by decide) rfl (by decide) ?_
      exact m_D.ret 9 (by decide) rfl (Or.inl rfl) m_Fr.refl ⟨rfl, by simp [am_u], by simp [am_u]⟩
  · rw [if_neg c41]
    refine m_D.cav (n := 9) (by decide) rfl (s2 c41) (by decide) ((m_Fr.put (by decide)).trans (m_Fr.put (by decide))) ?_
    refine m_D.yea 9 (by decide) rfl (by decide) ?_
    exact m_D.ret 9 (by decide) rfl (Or.inl rfl) m_Fr.refl ⟨rfl, by simp [am_u], by simp [am_u]⟩
theorem y_pml (hT : T ≤ 120) (hK : d_K T tk) (hW : d_W (d_mk T tk) T) {n e lo : Nat} (he : e % 32 < 11) : ∀ (i : Nat) (c : aB) (p m : Nat) (I A : Nat → Nat → Int32) (J : Nat → Nat → Int64), 120 ≤ i + p → m_Y T tk p m I A J → n_T (m_st A) false lo m n e c → lo ≤ m → n < m → m ≤ 2 * p + 3 → p < T → m_D m_fp m_cp 169 5 g X I A J (65, [(2, .int 1), (0, .ref 29), (1, .int (nI n))], [], am_H g I A J X) (m_Bs T tk lo n e m c (m_st A) (d_col (d_mk T tk) (d_pc tk) (if d_mk T tk p = 1 then d_pm (d_mk T tk) (d_pc tk) i (b_add c (24 + 32 * p) b_0) (p + 1) else .error (9, d_pc tk p))))
  | 0, c, p, m, I, A, J, hi, hY, hN, hlm, hn, hm, hp => by omega
  | i + 1, c, p, m, I, A, J, hi, hY, hN, hlm, hn, hm, hp => by
    obtain ⟨k1, k2⟩ := hY.kind hK hp
    refine m_D.nay 9 (by decide) rfl (by decide) ?_
    refine m_D.nee 9 (by decide) rfl k2 ?_
    by_cases c1 : d_mk T tk p = 1
    · rw [if_pos c1]
      have hp1 := hW.lt c1 (by decide)
      refine m_D.yea 9 (by decide) rfl (by rw [k1]; exact (s_kd_k (by decide)).mpr c1) ?_
      obtain ⟨A', a1, a2, a3, a4, a5, a6, a7⟩ := y_pr (g := g) (X := X) hY hN he hlm hn (by omega) hp
      refine m_D.cav (n := 9) (by decide) rfl (y_make hY.2.1 (by omega)) (by decide) m_addA_Fr ?_
      rw [hY.1]
      refine m_D.can (n := 9) (by decide) rfl a3 (by decide) a1 ?_
      have hY1 := a2.at (p' := p + 1)
      have e31 : am_u I 29 29 (nI (m + 1)) 29 31 + 1 = nI (p + 1) := by rw [a2.1, nI_1]
      refine m_D.heap (m_Fr.put (f := 31) (v := nI (p + 1)) (by decide)) ?_
      refine m_D.cav (n := 12) (by decide) (by rw [← e31]; rfl) (y_isS (d := 44) hY1.2.2.1 hK hY1.1 hp1 (by decide) (by decide)) (by decide) m_Fr.refl ?_
      unfold d_pm
      by_cases c44 : d_mk T tk (p + 1) = 44
      · rw [if_pos c44, show decide (d_mk T tk (p + 1) = nI 44) = true from decide_eq_true c44]
        have hp2 := hW.lt c44 (by decide)
        have hY2 := hY1.at (p' := p + 2)
        refine m_D.nay 9 (by decide) rfl (by decide) ?_
        refine m_D.pla 7 (by decide) rfl ?_
        have e31' : am_u (am_u I 29 29 (nI (m + 1))) 29 31 (nI (p + 1)) 29 31 + 1 = nI (p + 2) := by rw [am_uk, nI_1]
        rw [e31']
        refine m_D.heap (m_Fr.put (f := 31) (v := nI (p + 2)) (by decide)) ?_
        refine (y_pml hT hK hW he i (b_add c (24 + 32 * p) b_0) (p + 2) (m + 1) _ A' J (by omega) hY2 a4 (by omega) (by omega) (by omega) hp2).mono ?_
        intro v I' A'' J' hR' _
        exact hR'.seq (by rw [b_sz_add]; simp only [b_sz]; omega) (by omega) a5 a6 a7
      · rw [if_neg c44, show decide (d_mk T tk (p + 1) = nI 44) = false from decide_eq_false c44]
        refine m_D.yea 9 (by decide) rfl (by decide) ?_
        refine m_D.yea 12 (by decide) rfl (by decide) ?_
        rw [am_ui (f := am_u (am_u I 29 29 (nI (m + 1))) 29 31 (nI (p + 1))) rfl]
        refine (y_pend hK hW hY1 a4 hp1).mono ?_
        intro v I' A'' J' hR' _
        exact hR'.seq (by rw [b_sz_add]; simp only [b_sz]; omega) (by omega) a5 a6 a7
    · rw [if_neg c1]
      refine m_D.nay 9 (by decide) rfl (by rw [k1]; exact fun z => c1 ((s_kd_k (by decide)).mp z)) ?_
      refine m_D.cav (n := 9) (by decide) rfl (y_unfit hY.2.2.1 hY.1 hp) (by decide) ((m_Fr.put (by decide)).trans (m_Fr.put (by decide))) ?_
      exact m_D.ret 9 (by decide) rfl (Or.inl rfl) m_Fr.refl ⟨rfl, by simp [am_u], by simp [am_u]⟩
theorem y_par (hT : T ≤ 120) (hK : d_K T tk) (hW : d_W (d_mk T tk) T) {I A : Nat → Nat → Int32} {J : Nat → Nat → Int64} {p n e : Nat} (hY : m_Y T tk p (n + 1) I A J) (hN : n_T (m_st A) false (n + 1) (n + 1) n e b_0) (he : e % 32 = 8) (hm : n + 1 ≤ 2 * p + 2) (hp : p < T) : m_M m_fp m_cp 5 169 [.ref 29, .int (nI n)] g I A J X (m_Bs T tk (n + 1) n (8 + 32 * p) (n + 1) b_0 (m_st A) (d_hd1 (d_mk T tk) (d_pc tk) p)) := by
  have en : (nI n).toNatClampNeg = n := nI_clamp (by omega)
  have hinn : ¬ (nI n < 0 ∨ 400 ≤ (nI n).toNatClampNeg) := nI_in (show n < 400 by omega) (by decide)
  have eS : m_st (am_u A 40 n (nI p)) = am_u (m_st A) 1 n (nI p) := by rw [show (40 : Nat) = m_px 1 from rfl, m_st_u]
  have ne : ∀ f k, ¬ (f = 1 ∧ k = n) → m_st (am_u A 40 n (nI p)) f k = m_st A f k := fun f k z => by rw [eS]; exact am_un z
  have hN1 : n_T (m_st (am_u A 40 n (nI p))) false (n + 1) (n + 1) n (8 + 32 * p) b_0 := by
    have := hN.tok (t := p) (by omega)
    rw [he, ← eS] at this
    exact this
  have hY1 : m_Y T tk p (n + 1) I (am_u A 40 n (nI p)) J := by
    obtain ⟨h1, h2, h3, h4⟩ := hY
    refine ⟨h1, h2, ⟨h3.1, h3.2.1, ?_, h3.2.2.2⟩, fun k hk => ?_⟩
    · simpa [am_uo] using h3.2.2.1
    · rw [ne 3 k (by simp), ne 5 k (by simp)]
      refine ⟨(h4 k hk).1, ?_⟩
      by_cases hkn : k = n
      · subst hkn
        exact ⟨p, hp, by rw [eS, am_uk]⟩
      · rw [ne 1 k (fun z => hkn z.2)]
        exact (h4 k hk).2
  have fin : ∀ {r : Except aF (aB × Nat)} {v : Option Value} {I' A' : Nat → Nat → Int32} {J' : Nat → Nat → Int64}, m_Bs T tk (n + 1) n (8 + 32 * p) (n + 1) b_0 (m_st (am_u A 40 n (nI p))) r v I' A' J' → m_Bs T tk (n + 1) n (8 + 32 * p) (n + 1) b_0 (m_st A) r v I' A' J' := fun h => h.seq rfl (Nat.le_refl _) (ne 6 n (by simp)) (ne 7 n (by simp)) (fun f k k1 k2 => ne f k (fun z => k2 z.2))
  obtain ⟨k1, k2⟩ := hY1.kind hK hp
  refine m_D.met rfl rfl ?_
  refine m_D.nee 9 (by decide) rfl hinn ?_
  rw [en, hY.1]
  refine m_D.heap (m_Fr.set (a := 40) (k := n) (v := nI p) (by decide)) ?_
  refine m_D.nee 9 (by decide) rfl k2 ?_
  unfold d_hd1
  by_cases c1 : d_mk T tk p = 1
  · rw [if_pos c1]
    have hp1 := hW.lt c1 (by decide)
    have hY2 := hY1.at (p' := p + 1)
    refine m_D.nay 9 (by decide) rfl (by rw [k1]; exact fun z => z ((s_kd_k (by decide)).mpr c1)) ?_
    refine m_D.cav (n := 9) (by decide) rfl (y_pas1 hY1.1) (by decide) (m_Fr.put (by decide)) ?_
    refine m_D.nay 9 (by decide) rfl (by decide) ?_
    refine m_D.cav (n := 9) (by decide) rfl (y_isS (d := 40) hY2.2.2.1 hK hY2.1 hp1 (by decide) (by decide)) (by decide) m_Fr.refl ?_
    obtain ⟨s1, s2⟩ := y_pasS (g := g) (X := X) (d := 40) hK hY2 hp1 (by decide) (by decide)
    by_cases c40 : d_mk T tk (p + 1) = 40
    · rw [if_pos c40]
      have hp2 := hW.lt c40 (by decide)
      have hY3 := hY2.at (p' := p + 2)
      refine m_D.cav (n := 9) (by decide) rfl (s1 c40) (by decide) (m_Fr.put (by decide)) ?_
      refine m_D.yea 9 (by decide) rfl (by decide) ?_
      refine m_D.cav (n := 9) (by decide) rfl (y_isS (d := 41) hY3.2.2.1 hK hY3.1 hp2 (by decide) (by decide)) (by decide) m_Fr.refl ?_
      unfold d_ps
      by_cases c41 : d_mk T tk (p + 2) = 41
      · rw [if_pos c41, show decide (d_mk T tk (p + 1 + 1) = nI 41) = true from decide_eq_true c41]
        refine m_D.yea 9 (by decide) rfl (by decide) ?_
        refine m_D.pla 2 (by decide) rfl ?_
        refine m_D.yea 9 (by decide) rfl (by decide) ?_
        have := y_pend (g := g) (X := X) (w := 0) hK hW hY3 hN1 hp2
        rw [if_pos c41] at this
        refine this.mono ?_
        intro v I' A' J' hR' _
        exact fin hR'
      · rw [if_neg c41, show decide (d_mk T tk (p + 1 + 1) = nI 41) = false from decide_eq_false c41]
        refine m_D.nay 9 (by decide) rfl (by decide) ?_
        refine m_D.pla 3 (by decide) rfl ?_
        have := y_pml (g := g) (X := X) hT hK hW (show (8 + 32 * p) % 32 < 11 by omega) 120 b_0 (p + 2) (n + 1) _ _ J (by omega) hY3 hN1 (Nat.le_refl _) (by omega) (by omega) hp2
        refine this.mono ?_
        intro v I' A' J' hR' _
        exact fin hR'
    · rw [if_neg c40]
      refine m_D.cav (n := 9) (by decide) rfl (s2 c40) (by decide) ((m_Fr.put (by decide)).trans (m_Fr.put (by decide))) ?_
      refine m_D.nay 9 (by decide) rfl (by decide) ?_
      exact m_D.ret 9 (by decide) rfl (Or.inl rfl) m_Fr.refl ⟨rfl, by simp [am_u], by simp [am_u]⟩
  · rw [if_neg c1]
    refine m_D.yea 9 (by decide) rfl (by rw [k1]; exact fun z => c1 ((s_kd_k (by decide)).mp z)) ?_
    refine m_D.cav (n := 9) (by decide) rfl (y_pas0 hY1.2.2.1 hY1.1 hp) (by decide) ((m_Fr.put (by decide)).trans (m_Fr.put (by decide))) ?_
    refine m_D.yea 9 (by decide) rfl (by decide) ?_
    exact m_D.ret 9 (by decide) rfl (Or.inl rfl) m_Fr.refl ⟨rfl, by simp [am_u], by simp [am_u]⟩
theorem y_hdd (hT : T ≤ 120) (hK : d_K T tk) (hW : d_W (d_mk T tk) T) {I A : Nat → Nat → Int32} {J : Nat → Nat → Int64} {p n e : Nat} (hY : m_Y T tk p (n + 1) I A J) (hN : n_T (m_st A) false (n + 1) (n + 1) n e b_0) (he : e % 32 = 8) (hm : n + 1 ≤ 2 * p + 4) (hp : p + 1 < T) : m_M m_fp m_cp 10 170 [.ref 29, .int (nI n)] g I A J X (m_Bs T tk (n + 1) n (8 + 32 * (p + 1)) (n + 1) b_0 (m_st A) (d_hd1 (d_mk T tk) (d_pc tk) (p + 1))) := by
  have hY1 := hY.at (p' := p + 1)
  have en : (nI n).toNatClampNeg = n := nI_clamp (by omega)
  have e39 : A 39 n = nI (e % 32) := hN.1.1
  refine m_D.met rfl rfl ?_
  refine m_D.nee 12 (by decide) rfl (nI_in (show n < 400 by omega) (by decide)) ?_
  rw [show I 29 31 + 1 = nI (p + 1) from by rw [hY.1, nI_1]]
  refine m_D.heap (m_Fr.put (f := 31) (v := nI (p + 1)) (by decide)) ?_
  refine m_D.nay 9 (by decide) rfl (by rw [en, e39, he]; exact fun z => z rfl) ?_
  refine m_D.call (n := 9) (by decide) rfl (by decide) (y_par hT hK hW hY1 hN he (by omega) hp) (fun vv I5 A5 J5 hR hF => ?_)
  cases hr : d_hd1 (d_mk T tk) (d_pc tk) (p + 1) with
  | error q =>
    rw [hr] at hR
    obtain ⟨rfl, hR⟩ := hR
    exact m_D.ret 9 (by decide) rfl (Or.inl rfl) m_Fr.refl ⟨rfl, hR⟩
  | ok a =>
    rw [hr] at hR
    obtain ⟨rfl, hR⟩ := hR
    exact m_D.ret 9 (by decide) rfl (Or.inr rfl) m_Fr.refl ⟨rfl, hR⟩
end MPM
