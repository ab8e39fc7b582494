/-! THE REFERENCE'S STATEMENTS: parse(), what comes behind a branch -/
theorem d_ir_e {mk : Nat → Int32} {pl : Nat → Nat} {st : Nat → aG} : ∀ {i e : Nat} {c : aB} {p e' : Nat} {c' : aB} {p' : Nat}, d_ir mk pl st i e c p = .ok (e', c', p') → e' = e := by
  intro i e c p e' c' p' h
  cases i with
  | zero =>
    unfold d_ir at h
    dsimp only at h
    repeat' split at h
    all_goals first
      | (cases h; rfl)
      | (cases h)
  | succ i =>
    unfold d_ir at h
    dsimp only at h
    repeat' split at h
    all_goals first
      | (cases h; rfl)
      | (cases h)
theorem d_if_h {mk : Nat → Int32} {pl : Nat → Nat} {st : Nat → aG} {i p : Nat} : d_if mk pl st i p = match d_hc1 mk pl (p + 1) with
    | .error x => .error x
    | .ok (c, p2) => match d_bk mk pl st p2 with
      | .error x => .error x
      | .ok (e3, c3, p3) => d_ir mk pl st i (6 + 32 * p) (b_add c e3 c3) p3 := by
  rw [d_if_ir, d_cd_h]
  cases d_hc1 mk pl (p + 1) with
  | error x => rfl
  | ok a =>
    obtain ⟨c, p2⟩ := a
    dsimp only
    cases d_bk mk pl st p2 with
    | error x => rfl
    | ok a => rfl
section MBR
variable {g : List aK} {X : Nat × (Nat → Int32)} {T : Nat} {tk : Nat → aT} {P : mP}
/-- nothing may follow -/
theorem y_no {o h m lo eo : Nat} {c : aB} {I A : Nat → Nat → Int32} {J : Nat → Nat → Int64} (hN : n_T (m_st A) false lo m o eo c) (ho : o < 400) (hl : b_len c < 2 ^ 31) (hn : eo % 32 ≠ 6 ∨ b_len c ≠ 2) (k : y_D g X P 22 (y_lq h 0 (nI o)) I A J) : y_D g X P 22 (y_lq h 1 (nI o)) I A J := by
  have e0 : A 39 (nI o).toNatClampNeg = nI (eo % 32) := by rw [nI_clamp (by omega)]; exact hN.1.1
  have e3 : A 41 (nI o).toNatClampNeg = nI (b_len c) := by rw [nI_clamp (by omega)]; exact hN.1.2.2.1
  refine m_D.yea 9 (by decide) rfl (by decide) ?_
  refine m_D.yea 9 (by decide) rfl (by decide) ?_
  refine m_D.nay 9 (by decide) rfl (by decide) ?_
  refine m_D.nee 9 (by decide) rfl (nI_in ho (by decide)) ?_
  have rest : m_D m_fp m_cp 173 12 g X I A J (209, [(4, .int 1), (1, .int (nI h)), (2, .int 1), (3, .int (nI o)), (0, .ref 29)], [], am_H g I A J X) P := by
    refine m_D.yea 9 (by decide) rfl (by decide) ?_
    refine m_D.yea 9 (by decide) rfl (by decide) ?_
    refine m_D.yea 9 (by decide) rfl (by decide) ?_
    refine m_D.pla 1 (by decide) rfl ?_
    exact m_D.sub [3, 0, 4, 5] rfl k
  by_cases c6 : eo % 32 = 6
  · refine m_D.nay 9 (by decide) rfl (by rw [e0, c6]; decide) ?_
    refine m_D.nee 9 (by decide) rfl (nI_in ho (by decide)) ?_
    refine m_D.yea 9 (by decide) rfl (by rw [e3]; intro z; have := nI_inj (b := 2) hl (by decide) z; omega) ?_
    exact rest
  · refine m_D.yea 9 (by decide) rfl (by rw [e0]; intro z; have := nI_inj (b := 6) (by omega) (by decide) z; omega) ?_
    exact rest
theorem y_bra (hT : T ≤ 120) (hK : d_K T tk) (hW : d_W (d_mk T tk) T) (hIn : ∀ p, d_mk T tk p = 7 → d_mk T tk (p + 1) ≠ 8) (hB : ∀ k, k < T → d_bal (d_mk T tk) k ≤ 8) {r h : Nat} (hS : ∀ r', r = r' + 1 → y_Blk g X T tk P r') : ∀ (i lo o eo kk : Nat) (c : aB) (p m : Nat) (I A : Nat → Nat → Int32) (J : Nat → Nat → Int64), 120 ≤ i + p → m_Y T tk p m I A J → n_T (m_st A) false lo m o eo c → eo % 32 = 6 → b_len c = 2 → o < lo → lo ≤ m → m ≤ 2 * p → p < T → d_bal (d_mk T tk) p + r = 8 → r_uq (m_st A) kk o h → (∀ q, d_ir (d_mk T tk) (d_pc tk) (d_st (d_mk T tk) (d_pc tk) r 8) i eo c p = .error q → y_Er P q) → (∀ e' c' p', d_ir (d_mk T tk) (d_pc tk) (d_st (d_mk T tk) (d_pc tk) r 8) i eo c p = .ok (e', c', p') → ∀ w I' A' J', m_Bs T tk lo o eo m c (m_st A) (.ok (c', p')) (some (.int 1)) I' A' J' → y_D g X P 22 (y_lq h 0 w) I' A' J') → y_D g X P 22 (y_lq h 1 (nI o)) I A J
  | 0, lo, o, eo, kk, c, p, m, I, A, J, hi, hY, hN, heo, hl, holo, hlm, hm, hp, hbal, hup, hE, hk => by omega
  | i + 1, lo, o, eo, kk, c, p, m, I, A, J, hi, hY, hN, heo, hl, holo, hlm, hm, hp, hbal, hup, hE, hk => by
    have hst := d_st_Z (pl := d_pc tk) hW hIn r
    have e0 : A 39 (nI o).toNatClampNeg = nI (eo % 32) := by rw [nI_clamp (by omega)]; exact hN.1.1
    have e3 : A 41 (nI o).toNatClampNeg = nI (b_len c) := by rw [nI_clamp (by omega)]; exact hN.1.2.2.1
    have w1 := y_isW (g := g) (X := X) (i := 1) hY.2.2.1 hK hY.1 hp (by decide)
    have w2 := y_isW (g := g) (X := X) (i := 2) hY.2.2.1 hK hY.1 hp (by decide)
    refine m_D.yea 9 (by decide) rfl (by decide) ?_
    refine m_D.yea 9 (by decide) rfl (by decide) ?_
    refine m_D.nay 9 (by decide) rfl (by decide) ?_
    refine m_D.nee 9 (by decide) rfl (nI_in (show o < 400 by omega) (by decide)) ?_
    refine m_D.nay 9 (by decide) rfl (by rw [e0, heo]; decide) ?_
    refine m_D.nee 9 (by decide) rfl (nI_in (show o < 400 by omega) (by decide)) ?_
    refine m_D.nay 9 (by decide) rfl (by rw [e3, hl]; decide) ?_
    refine m_D.nay 9 (by decide) rfl (by decide) ?_
    refine m_D.cav (n := 9) (by decide) rfl w1 (by decide) m_Fr.refl ?_
    unfold d_ir at hE hk
    dsimp only at hE hk
    by_cases c12 : d_mk T tk p = 12
    · rw [if_pos c12] at hE hk
      rw [show decide (d_mk T tk p = nI (11 + 1)) = true from decide_eq_true c12]
      refine m_D.nay 9 (by decide) rfl (by decide) ?_
      have hp1 := hW.lt c12 (by decide)
      have hWn : n_W false (m_st A) m (m_st (m_addA A m 6 (nI p))) (6 + 32 * p) := by
        rw [m_addA_st]
        exact n_add_W (by rw [show (6 + 32 * p) % 32 = 6 from by omega]; rfl) (fun _ => by rw [show (6 + 32 * p) / 32 = p from by omega])
      obtain ⟨A2, a1, a2, a3, a4⟩ := (hY.mk (k := 6) hp).app (g := g) (X := X) (j := o) (v := m) (by omega) (by omega) (by omega)
      obtain ⟨hh, e2⟩ : ∃ hh, m_st A2 = n_lnk (m_st (m_addA A m 6 (nI p))) o m hh := ⟨_, a1⟩
      obtain ⟨l1, l2, l3, l4, l5, l6, l7⟩ := r_link (hh := hh) hN hlm (Nat.le_refl _) (by omega) (by omega) hWn
      obtain ⟨k1, k2, k3, k4, k5, k6, k7, k8, k9, k10⟩ := n_lnk_T (hh := hh) l1 hlm (by omega) (j2 := m) (by omega) (by omega)
      rw [← e2] at l2 l3 l4 l5 l6 l7 k2
      have hupo : r_uq (m_st A2) kk o h := r_uq.frame l7 (fun i hi => ⟨l5 0 i (by omega) (by omega) (by omega), l5 7 i (by omega) (by omega) (by omega)⟩) hup
      have hupm : r_uq (m_st A2) (kk + 1) m h := ⟨o, by omega, l4, by rw [k2, l1.1.1, heo]; decide, hupo⟩
      refine m_D.cav (n := 9) (by decide) rfl (by rw [hY.1]; exact y_make hY.2.1 (by omega)) (by decide) m_addA_Fr ?_
      refine m_D.can (n := 9) (by decide) rfl a4 (by decide) a2 ?_
      refine m_D.call (n := 9) (by decide) rfl (by decide) (y_hdc hT hK hW a3 l2 (by omega) (by omega) hp1) (fun vv I5 A5 J5 hR hF => ?_)
      cases hd : d_hc1 (d_mk T tk) (d_pc tk) (p + 1) with
      | error x =>
        rw [hd] at hR
        obtain ⟨rfl, h3, h4⟩ := hR
        refine m_D.nay 9 (by decide) rfl (by decide) ?_
        exact m_D.ret 9 (by decide) rfl (Or.inl rfl) m_Fr.refl (hE x (by rw [d_if_h, hd]) _ _ _ h3 h4)
      | ok a =>
        obtain ⟨c1, p1⟩ := a
        rw [hd] at hR
        have hR0 := hR
        obtain ⟨rfl, m1, q2, q3, q4, q5, q6, q6', q7⟩ := hR
        simp only [b_sz] at q4
        obtain ⟨g1, g2, g3, g4⟩ := d_hc1_Z hW hd
        have g0 := g1.1
        have gb := ((d_G.one hW c12 (by decide)).trans g1).bal (by omega)
        refine m_D.yea 9 (by decide) rfl (by decide) ?_
        refine m_D.pla 1 (by decide) rfl ?_
        refine m_D.sub [5, 1, 2, 6] rfl ?_
        refine y_bk hT hK hW hIn hB hS (kk := kk + 1) q2 q3 (by omega) (Nat.lt_succ_self m) (by omega) (by omega) g0 (by omega) (hR0.upq (Nat.lt_succ_self m) hupm) (fun q hq => hE q (by rw [d_if_h, hd]; dsimp only; rw [hq])) (fun e3 c3 p3 hb I6 A6 J6 hR6 => ?_)
        obtain ⟨z0, z1, z2, z3, z4, z5, z6, z7⟩ := d_bk_Z hW hIn hst g0 hb
        have hR7 := hR6.seq (c0 := b_0) (m := m + 1) (S := m_st A2) (by simp only [b_sz]; omega) (by omega) q6 q6' q7
        have hR8 := hR7
        obtain ⟨-, m6, s2, s3, s4, s5, s6, s6', s7⟩ := hR8
        rw [b_sz_add] at s4
        simp only [b_sz] at s4
        refine y_bra hT hK hW hIn hB hS i (m + 1) m (6 + 32 * p) (kk + 1) (b_add c1 e3 c3) p3 m6 I6 A6 J6 (by omega) s2 s3 (by omega) (by rw [b_len_add]; omega) (Nat.lt_succ_self m) (by omega) (by omega) z1 (by omega) (hR7.upq (Nat.lt_succ_self m) hupm) (fun q hq => hE q (by rw [d_if_h, hd]; dsimp only; rw [hb]; dsimp only; rw [hq])) (fun e' c' p' hd2 w I9 A9 J9 hR9 => ?_)
        have he' := d_ir_e hd2
        subst he'
        refine hk eo (b_add c (6 + 32 * p) c') p' (by rw [d_if_h, hd]; dsimp only; rw [hb]; dsimp only; rw [hd2]) w I9 A9 J9 ?_
        have hR10 := hR9.seq (c0 := b_0) (m := m + 1) (S := m_st A2) (by rw [b_sz_add]; simp only [b_sz]; omega) (by omega) s6 s6' s7
        rw [e2] at hR10
        exact r_fin hN hlm (Nat.le_refl _) (by omega) (by omega) hWn (by omega) hR10
    rw [if_neg c12] at hE hk
    rw [show decide (d_mk T tk p = nI (11 + 1)) = false from decide_eq_false c12]
    refine m_D.yea 9 (by decide) rfl (by decide) ?_
    refine m_D.nay 9 (by decide) rfl (by decide) ?_
    refine m_D.cav (n := 9) (by decide) rfl w2 (by decide) m_Fr.refl ?_
    by_cases c13 : d_mk T tk p = 13
    · rw [if_pos c13] at hE hk
      rw [show decide (d_mk T tk p = nI (11 + 2)) = true from decide_eq_true c13]
      have hp1 := hW.lt c13 (by decide)
      have hY1 := hY.at (p' := p + 1)
      refine m_D.nay 9 (by decide) rfl (by decide) ?_
      refine m_D.pla 6 (by decide) rfl ?_
      rw [hY.1, nI_1]
      refine m_D.heap (m_Fr.put (f := 31) (v := nI (p + 1)) (by decide)) ?_
      refine m_D.cav (n := 9) (by decide) rfl (y_isS (d := 58) hY1.2.2.1 hK hY1.1 hp1 (by decide) (by decide)) (by decide) m_Fr.refl ?_
      obtain ⟨s1, s2⟩ := y_pasS (g := g) (X := X) (d := 58) hK hY1 hp1 (by decide) (by decide)
      by_cases c58 : d_mk T tk (p + 1) = 58
      · rw [if_pos c58] at hE hk
        have g1 := (d_G.one hW c13 (by decide)).trans (d_G.one hW c58 (by decide))
        have g0 := g1.1
        have gb := g1.bal (by omega)
        have hY2 := hY1.at (p' := p + 1 + 1)
        refine m_D.cav (n := 9) (by decide) rfl (s1 c58) (by decide) (m_Fr.put (by decide)) ?_
        refine m_D.yea 9 (by decide) rfl (by decide) ?_
        refine m_D.pla 1 (by decide) rfl ?_
        refine m_D.sub [3, 1, 4, 5] rfl ?_
        refine y_bk hT hK hW hIn hB hS (kk := kk) hY2 hN (by omega) holo hlm (by omega) g0 (by omega) hup (fun q hq => hE q (by rw [hq])) (fun e3 c3 p3 hb I6 A6 J6 hR6 => ?_)
        have hR7 := hR6
        obtain ⟨-, m6, t2, t3, t4, t5, t6, t6', t7⟩ := hR6
        refine y_no t3 (by omega) (by rw [b_len_add]; omega) (Or.inr (by rw [b_len_add]; omega)) ?_
        exact hk eo (b_add c e3 c3) p3 (by rw [hb]) _ _ _ _ hR7
      · rw [if_neg c58] at hE hk
        refine m_D.cav (n := 9) (by decide) rfl (s2 c58) (by decide) ((m_Fr.put (by decide)).trans (m_Fr.put (by decide))) ?_
        refine m_D.nay 9 (by decide) rfl (by decide) ?_
        refine m_D.ret 9 (by decide) rfl (Or.inl rfl) m_Fr.refl (hE _ rfl _ _ _ ?_ ?_)
        · simp [am_u]
        · simp [am_u]
    rw [if_neg c13] at hE hk
    rw [show decide (d_mk T tk p = nI (11 + 2)) = false from decide_eq_false c13]
    refine m_D.yea 9 (by decide) rfl (by decide) ?_
    refine m_D.yea 9 (by decide) rfl (by decide) ?_
    refine m_D.pla 1 (by decide) rfl ?_
    refine m_D.sub [3, 0, 4, 5] rfl ?_
    exact hk eo c p rfl _ _ _ _ ⟨rfl, m, hY, hN, rfl, Nat.le_refl _, rfl, rfl, fun _ _ _ _ => rfl⟩
end MBR
