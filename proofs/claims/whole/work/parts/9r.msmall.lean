/-! THE REFERENCE'S STATEMENTS: small() -/
section MSL
variable {g : List aK} {X : Nat × (Nat → Int32)} {T : Nat} {tk : Nat → aT} {I A : Nat → Nat → Int32} {J : Nat → Nat → Int64} {p m : Nat}
theorem y_sm (hT : T ≤ 120) (hK : d_K T tk) (hW : d_W (d_mk T tk) T) {b lo mid eb : Nat} {c : aB} (hY : m_Y T tk p m I A J) (hN : n_T (m_st A) false lo mid b eb c) (heb : eb % 32 < 11) (hlm : lo ≤ mid) (hmm : mid ≤ m) (hb : b < m) (hblo : b < lo) (hm : m ≤ 2 * p + 2) (hp : p < T) : m_M m_fp m_cp 9 167 [.ref 29, .int (nI b)] g I A J X (m_Bs T tk lo b eb m c (m_st A) (match d_sm (d_mk T tk) (d_pc tk) p with
    | .error x => .error x
    | .ok (e2, c2, p2) => .ok (b_add c e2 c2, p2))) := by
  obtain ⟨h31, h29, hTk, hSo⟩ := id hY
  have h120 := hTk.2.1
  have w6 := y_isW (g := g) (X := X) (i := 6) hTk hK h31 hp (by decide)
  have w7 := y_isW (g := g) (X := X) (i := 7) hTk hK h31 hp (by decide)
  have w5 := y_isW (g := g) (X := X) (i := 5) hTk hK h31 hp (by decide)
  have emk : d_mk T tk p = (tk p).2.1 := if_pos hp
  have e31 : (I 29 31).toNatClampNeg = p := by rw [h31, nI_clamp (by omega)]
  have e32 : A 32 (I 29 31).toNatClampNeg = s_kd (d_mk T tk p) := by rw [e31, emk]; exact (hTk.2.2.1 p hp).1.trans (hK p hp).1
  have hNw : ∀ kd : Nat, kd < 32 → kd ≠ 9 → n_W false (m_st A) m (m_st (m_addA A m (nI kd) (nI p))) (kd + 32 * p) := fun kd hk hk9 => by
    rw [m_addA_st]
    exact n_add_W (by rw [show (kd + 32 * p) % 32 = kd from by omega]) (fun _ => by rw [show (kd + 32 * p) / 32 = p from by omega])
  -- a node, made and linked
  have made : ∀ kd : Nat, kd < 32 → kd ≠ 9 → ∃ A', m_st A' = x_app (m_st (m_addA A m (nI kd) (nI p))) b m ∧ m_Fr m_fp m_cp (am_u I 29 29 (nI (m + 1))) (m_addA A m (nI kd) (nI p)) J (am_u I 29 29 (nI (m + 1))) A' J ∧ m_Y T tk p (m + 1) (am_u I 29 29 (nI (m + 1))) A' J ∧ am_Con 1 149 [.ref 29, .int (nI b), .int (nI m)] (am_H g (am_u I 29 29 (nI (m + 1))) (m_addA A m (nI kd) (nI p)) J X) (.inl none) (am_H g (am_u I 29 29 (nI (m + 1))) A' J X) 0 0 := fun kd _ _ => (hY.mk hp).app (by omega) (by omega) (by omega)
  -- the end with no part
  have leaf : ∀ (kd : Nat) (hk : kd < 32) (hk9 : kd ≠ 9) (A' : Nat → Nat → Int32) (I' : Nat → Nat → Int32) (p' : Nat), m_st A' = x_app (m_st (m_addA A m (nI kd) (nI p))) b m → m_Y T tk p' (m + 1) I' A' J → m_Bs T tk lo b eb m c (m_st A) (.ok (b_add c (kd + 32 * p) b_0, p')) (some (.int 1)) I' A' J := fun kd hk hk9 A' I' p' a1 hY' => by
    obtain ⟨l1, l2, l3, l4, l5, l6, l7⟩ := r_link (hh := if m_st (m_addA A m (nI kd) (nI p)) 2 m < m_st (m_addA A m (nI kd) (nI p)) 2 b then m_st (m_addA A m (nI kd) (nI p)) 2 b else m_st (m_addA A m (nI kd) (nI p)) 2 m + 1) hN hlm hmm hb (by omega) (hNw kd hk hk9)
    have hd := r_done (S' := m_st A') (m' := m + 1) hN hlm hmm hb (by omega) (hNw kd hk hk9) (by omega) heb (fun f k _ => by rw [a1]; rfl) (by rw [a1]; exact l3) (by rw [a1]; exact l4) (by rw [a1]; exact l2.wide (by omega) (by omega))
    refine ⟨rfl, m + 1, hY', hd.1, by rw [b_sz_add]; simp only [b_sz]; omega, by omega, hd.2.2.1, hd.2.2.2, fun f k k1 k2 => hd.2.1 f k (by omega) k2 (by omega)⟩
  refine m_D.met rfl rfl ?_
  refine m_D.cav (n := 9) (by decide) rfl w6 (by decide) m_Fr.refl ?_
  unfold d_sm
  have s45 : ∀ d, 22 ≤ d → d < 128 → ∀ {I1 A1 : Nat → Nat → Int32} {J1 : Nat → Nat → Int64} {q : Nat}, m_Tk I1 A1 J1 T tk → I1 29 31 = nI q → q < T → _ := fun d d1 d2 {I1 A1 J1 q} k1 k2 k3 => y_isS (g := g) (X := X) (d := d) k1 hK k2 k3 d1 d2
  -- PASS and BREAK
  have pb : ∀ kd : Nat, kd = 1 ∨ kd = 2 → (d_mk T tk p = 17 ∨ d_mk T tk p = 18) → (kd = 1 ↔ d_mk T tk p = 17) → m_D m_fp m_cp 167 9 g X I A J (20, [(0, .ref 29), (1, .int (nI b))], [], am_H g I A J X) (m_Bs T tk lo b eb m c (m_st A) (.ok (b_add c (kd + 32 * p) b_0, p + 1))) := fun kd hkd hpp hiff => by
    refine m_D.cav (n := 9) (by decide) rfl w6 (by decide) m_Fr.refl ?_
    have st : ∀ {P : mP}, m_D m_fp m_cp 167 9 g X I A J (38, [(0, .ref 29), (1, .int (nI b))], [.int (nI kd), .ref 29, .int (nI b), .ref 29], am_H g I A J X) P → m_D m_fp m_cp 167 9 g X I A J (30, [(0, .ref 29), (1, .int (nI b))], [.int (am_b (decide (d_mk T tk p = nI (11 + 6)))), .ref 29, .int (nI b), .ref 29], am_H g I A J X) P := fun q => by
      by_cases z : d_mk T tk p = 17
      · rw [show decide (d_mk T tk p = nI (11 + 6)) = true from decide_eq_true z]
        have := hiff.mpr z
        subst this
        refine m_D.nay 9 (by decide) rfl (by decide) ?_
        exact m_D.pla 2 (by decide) rfl q
      · rw [show decide (d_mk T tk p = nI (11 + 6)) = false from decide_eq_false z]
        have : kd = 2 := hkd.resolve_left (fun y => z (hiff.mp y))
        subst this
        refine m_D.yea 9 (by decide) rfl (by decide) ?_
        exact m_D.pla 1 (by decide) rfl q
    refine st ?_
    have k32 : kd < 32 ∧ kd ≠ 9 := by omega
    refine m_D.cav (n := 9) (by decide) rfl (y_make h29 (by omega)) (by decide) m_addA_Fr ?_
    rw [h31]
    obtain ⟨A', a1, a2, a3, a4⟩ := made kd k32.1 k32.2
    refine m_D.can (n := 9) (by decide) rfl a4 (by decide) a2 ?_
    refine m_D.ret 12 (by decide) rfl (Or.inr rfl) (m_Fr.put (by decide)) ?_
    rw [show am_u I 29 29 (nI (m + 1)) 29 31 + 1 = nI (p + 1) from by rw [a3.1, nI_1]]
    exact leaf kd k32.1 k32.2 A' _ (p + 1) a1 a3.at
  by_cases c17 : d_mk T tk p = 17
  · rw [if_pos c17, show decide (d_mk T tk p = nI (11 + 6)) = true from decide_eq_true c17]
    refine m_D.yea 9 (by decide) rfl (by decide) ?_
    exact pb 1 (Or.inl rfl) (Or.inl c17) ⟨fun _ => c17, fun _ => rfl⟩
  rw [if_neg c17, show decide (d_mk T tk p = nI (11 + 6)) = false from decide_eq_false c17]
  refine m_D.nay 9 (by decide) rfl (by decide) ?_
  refine m_D.cav (n := 9) (by decide) rfl w7 (by decide) m_Fr.refl ?_
  by_cases c18 : d_mk T tk p = 18
  · rw [if_pos c18, show decide (d_mk T tk p = nI (11 + 7)) = true from decide_eq_true c18]
    refine m_D.nay 9 (by decide) rfl (by decide) ?_
    exact pb 2 (Or.inr rfl) (Or.inr c18) ⟨fun z => absurd z (by decide), fun z => absurd z c17⟩
  rw [if_neg c18, show decide (d_mk T tk p = nI (11 + 7)) = false from decide_eq_false c18]
  refine m_D.yea 9 (by decide) rfl (by decide) ?_
  refine m_D.cav (n := 9) (by decide) rfl w5 (by decide) m_Fr.refl ?_
  -- with an expression
  have full : ∀ (kd : Nat) (hk : kd < 11) (hk9 : kd ≠ 9) (A' A5 : Nat → Nat → Int32) (I5 : Nat → Nat → Int32) (J5 : Nat → Nat → Int64) (p3 m3 j e3 : Nat) (c3 : aB) (S1 : aN), m_st A' = x_app (m_st (m_addA A m (nI kd) (nI p))) b m → n_V false (m_st A') (m + 1) S1 m3 j e3 c3 → m_st A5 = x_app S1 m j → m_Y T tk p3 m3 I5 A5 J5 → m3 ≤ 400 → 11 ≤ e3 % 32 → m_Bs T tk lo b eb m c (m_st A) (.ok (b_add c (kd + 32 * p) (.branch e3 c3 b_0), p3)) (some (.int 1)) I5 A5 J5 ∧ m_st A5 4 m = nI j ∧ m_st A5 1 j = nI (e3 / 32) ∧ j < m3 ∧ n_T (m_st A5) false (m + 1) m3 m (kd + 32 * p) (.branch e3 c3 b_0) ∧ m_st A5 6 m = -1 ∧ m_st A5 7 m = nI b ∧ (∀ f k, k < m → m_st A5 f k = m_st A' f k) := fun kd hk hk9 A' A5 I5 J5 p3 m3 j e3 c3 S1 a1 hV hS5 hY5 hm3 he3 => by
    rw [a1] at hV
    obtain ⟨x1, x2, x3, x4, x5, x6⟩ := r_expr (h2 := if S1 2 j < S1 2 m then S1 2 m else S1 2 j + 1) hN hlm hmm hb (by omega) (hNw kd (by omega) hk9) (show (kd + 32 * p) % 32 < 11 by omega) hm3 hV
    have e5 : m_st A5 = n_lnk S1 m j (if S1 2 j < S1 2 m then S1 2 m else S1 2 j + 1) := hS5
    rw [← e5] at x1 x2 x3 x4 x5 x6
    have v1 := hV.1
    have v2 := hV.2.1
    have v3 := hV.2.2.1
    have hd := r_done (S' := m_st A5) (m' := m3) hN hlm hmm hb (by omega) (hNw kd (by omega) hk9) (by omega) heb x1 x2 x3 (x4.wide (by omega) (Nat.le_refl _))
    refine ⟨⟨rfl, m3, hY5, hd.1, by rw [b_sz_add]; simp only [b_sz]; omega, by omega, hd.2.2.1, hd.2.2.2, fun f k k1 k2 => hd.2.1 f k (by omega) k2 (by omega)⟩, x5, ?_, v2, x4, x2, x3, fun f k hk => by rw [x1 f k hk, a1]; rfl⟩
    rw [x6]
    exact hV.2.2.2.1.1.2.1 (Or.inr (by omega))
  by_cases c16 : d_mk T tk p = 16
  · rw [if_pos c16, show decide (d_mk T tk p = nI (11 + 5)) = true from decide_eq_true c16]
    have hp1 := hW.lt c16 (by decide)
    refine m_D.nay 9 (by decide) rfl (by decide) ?_
    refine m_D.cav (n := 9) (by decide) rfl (y_make h29 (by omega)) (by decide) m_addA_Fr ?_
    rw [h31]
    obtain ⟨A', a1, a2, a3, a4⟩ := made 3 (by decide) (by decide)
    refine m_D.can (n := 9) (by decide) rfl a4 (by decide) a2 ?_
    have a5 := a3.at (p' := p + 1)
    have e31' : am_u I 29 29 (nI (m + 1)) 29 31 + 1 = nI (p + 1) := by rw [a3.1, nI_1]
    refine m_D.nee 15 (by decide) rfl (by rw [am_uk, e31']; exact nI_in (show p + 1 < 120 by omega) (by decide)) ?_
    rw [e31']
    refine m_D.heap (m_Fr.put (f := 31) (v := nI (p + 1)) (by decide)) ?_
    have e32' : A' 32 (am_u (am_u I 29 29 (nI (m + 1))) 29 31 (nI (p + 1)) 29 31).toNatClampNeg = s_kd (d_mk T tk (p + 1)) := by
      rw [am_uk, nI_clamp (by omega), show d_mk T tk (p + 1) = (tk (p + 1)).2.1 from if_pos hp1]
      exact (a5.2.2.1.2.2.1 (p + 1) hp1).1.trans (hK (p + 1) hp1).1
    have ok : m_D m_fp m_cp 167 9 g X (am_u (am_u I 29 29 (nI (m + 1))) 29 31 (nI (p + 1))) A' J (127, [(2, .int (nI m)), (0, .ref 29), (1, .int (nI b))], [], am_H g (am_u (am_u I 29 29 (nI (m + 1))) 29 31 (nI (p + 1))) A' J X) (m_Bs T tk lo b eb m c (m_st A) (.ok (b_add c (3 + 32 * p) b_0, p + 1))) := m_D.ret 9 (by decide) rfl (Or.inr rfl) m_Fr.refl (leaf 3 (by decide) (by decide) A' _ (p + 1) a1 a5)
    by_cases c6 : d_mk T tk (p + 1) = 6
    · rw [if_pos (Or.inl c6)]
      refine m_D.yea 9 (by decide) rfl (by rw [e32']; exact (s_kd_k (by decide)).mpr c6) ?_
      exact ok
    · refine m_D.nay 9 (by decide) rfl (by rw [e32']; exact fun z => c6 ((s_kd_k (by decide)).mp z)) ?_
      refine m_D.cav (n := 9) (by decide) rfl (y_isS (d := 59) a5.2.2.1 hK a5.1 hp1 (by decide) (by decide)) (by decide) m_Fr.refl ?_
      by_cases c59 : d_mk T tk (p + 1) = 59
      · rw [if_pos (Or.inr c59), show decide (d_mk T tk (p + 1) = nI 59) = true from decide_eq_true c59]
        refine m_D.yea 9 (by decide) rfl (by decide) ?_
        exact ok
      · rw [if_neg (fun z => z.elim c6 c59), show decide (d_mk T tk (p + 1) = nI 59) = false from decide_eq_false c59]
        refine m_D.nay 9 (by decide) rfl (by decide) ?_
        refine m_D.call (n := 9) (by decide) rfl (by decide) (y_exOf hT hK hW a5.2.2.1 a5.1 a5.2.1 a5.2.2.2 hp1 (by omega) (show m < m + 1 by omega)) (fun vv I5 A5 J5 hR hF => ?_)
        cases hr : d_ex (d_mk T tk) (d_pc tk) 12 1 (p + 1) with
        | error q =>
          rw [hr] at hR
          obtain ⟨rfl, h3, h4⟩ := hR
          refine m_D.yea 9 (by decide) rfl (by decide) ?_
          exact m_D.ret 9 (by decide) rfl (Or.inl rfl) m_Fr.refl ⟨rfl, h3, h4⟩
        | ok a =>
          obtain ⟨e3, c3, p3⟩ := a
          rw [hr] at hR
          obtain ⟨j, m3, S1, rfl, g1, g2, g3, g4, g5, g6⟩ := hR
          have hq := d_ex_Q hW _ _ _ _ _ _ hr (by decide)
          have hq1 := hq.1.1
          have hq2 := hq.2.1
          have v3 := g5.2.2.1
          refine m_D.nay 9 (by decide) rfl (by decide) ?_
          exact m_D.ret 9 (by decide) rfl (Or.inr rfl) m_Fr.refl (full 3 (by decide) (by decide) A' A5 I5 J5 p3 m3 j e3 c3 S1 a1 g5 g6 ⟨g1, g2, g3, g4⟩ (by omega) hq.2.2.1.ge).1
  rw [if_neg c16, show decide (d_mk T tk p = nI (11 + 5)) = false from decide_eq_false c16]
  refine m_D.yea 9 (by decide) rfl (by decide) ?_
  have hin : ¬ (I 29 31 < 0 ∨ 120 ≤ (I 29 31).toNatClampNeg) := by rw [h31]; exact nI_in (by omega) (by decide)
  refine m_D.nee 9 (by decide) rfl hin ?_
  have hset : ∀ {P : mP}, m_D m_fp m_cp 167 9 g X I A J (184, [(0, .ref 29), (1, .int (nI b))], [.int (if d_mk T tk p = 1 ∧ d_mk T tk (p + 1) = 61 then 1 else 0)], am_H g I A J X) P → m_D m_fp m_cp 167 9 g X I A J (142, [(0, .ref 29), (1, .int (nI b))], [.int (A 32 (I 29 31).toNatClampNeg)], am_H g I A J X) P := fun q => by
    by_cases c1 : d_mk T tk p = 1
    · have hp1 := hW.lt c1 (by decide)
      have e31' : I 29 31 + 1 = nI (p + 1) := by rw [h31, nI_1]
      have hin' : ¬ (I 29 31 + 1 < 0 ∨ 120 ≤ (I 29 31 + 1).toNatClampNeg) := by rw [e31']; exact nI_in (by omega) (by decide)
      have emk' : d_mk T tk (p + 1) = (tk (p + 1)).2.1 := if_pos hp1
      have e32' : A 32 (I 29 31 + 1).toNatClampNeg = s_kd (tk (p + 1)).2.1 := by rw [e31', nI_clamp (by omega)]; exact (hTk.2.2.1 (p + 1) hp1).1.trans (hK (p + 1) hp1).1
      have e35' : J 35 (I 29 31 + 1).toNatClampNeg = m_cd (tk (p + 1)).2.1 := by rw [e31', nI_clamp (by omega)]; exact (hTk.2.2.1 (p + 1) hp1).2.2.2
      have hs := m_sign (k := (tk (p + 1)).2.1) (c := 61) (d := 61) rfl (by decide) (by decide)
      refine m_D.nay 9 (by decide) rfl (by rw [e32]; exact fun z => z ((s_kd_k (by decide)).mpr c1)) ?_
      refine m_D.nee 9 (by decide) rfl hin' ?_
      by_cases k5 : s_kd (tk (p + 1)).2.1 = 5
      · refine m_D.nay 9 (by decide) rfl (by rw [e32']; exact fun z => z k5) ?_
        refine m_D.nee 9 (by decide) rfl hin' ?_
        by_cases k61 : m_cd (tk (p + 1)).2.1 = (61 : Int32).toInt64
        · rw [if_pos ⟨c1, by rw [emk']; exact hs.mp ⟨k5, k61⟩⟩] at q
          refine m_D.nay 9 (by decide) rfl (by rw [e35']; exact fun z => z (lg_cmp0.mpr k61)) ?_
          exact m_D.pla 2 (by decide) rfl q
        · rw [if_neg (fun z => k61 (hs.mpr (by rw [← emk']; exact z.2)).2)] at q
          refine m_D.yea 9 (by decide) rfl (by rw [e35']; exact fun z => k61 (lg_cmp0.mp z)) ?_
          exact m_D.pla 1 (by decide) rfl q
      · rw [if_neg (fun z => k5 (hs.mpr (by rw [← emk']; exact z.2)).1)] at q
        refine m_D.yea 9 (by decide) rfl (by rw [e32']; exact k5) ?_
        exact m_D.pla 1 (by decide) rfl q
    · rw [if_neg (fun z => c1 z.1)] at q
      refine m_D.yea 9 (by decide) rfl (by rw [e32]; exact fun z => c1 ((s_kd_k (by decide)).mp z)) ?_
      exact m_D.pla 1 (by decide) rfl q
  refine hset ?_
  by_cases cset : d_mk T tk p = 1 ∧ d_mk T tk (p + 1) = 61
  · rw [if_pos cset, if_pos cset]
    have hp2 := hW.lt cset.2 (by decide)
    refine m_D.nay 9 (by decide) rfl (by decide) ?_
    refine m_D.cav (n := 9) (by decide) rfl (y_make h29 (by omega)) (by decide) m_addA_Fr ?_
    rw [h31]
    obtain ⟨A', a1, a2, a3, a4⟩ := made 4 (by decide) (by decide)
    refine m_D.can (n := 9) (by decide) rfl a4 (by decide) a2 ?_
    have a5 := a3.at (p' := p + 2)
    have e31' : am_u I 29 29 (nI (m + 1)) 29 31 + 2 = nI (p + 2) := by rw [a3.1, show (2 : Int32) = nI 2 from rfl, nI_add]
    refine m_D.heap (m_Fr.put (f := 31) (v := nI (p + 2)) (by decide)) ?_
    refine m_D.call (n := 12) (by decide) (by rw [← e31']; rfl) (by decide) (y_exOf hT hK hW a5.2.2.1 a5.1 a5.2.1 a5.2.2.2 hp2 (by omega) (show m < m + 1 by omega)) (fun vv I5 A5 J5 hR hF => ?_)
    cases hr : d_ex (d_mk T tk) (d_pc tk) 12 1 (p + 2) with
    | error q =>
      rw [hr] at hR
      obtain ⟨rfl, h3, h4⟩ := hR
      exact m_D.ret 9 (by decide) rfl (Or.inl rfl) m_Fr.refl ⟨rfl, h3, h4⟩
    | ok a =>
      obtain ⟨e3, c3, p3⟩ := a
      rw [hr] at hR
      obtain ⟨j, m3, S1, rfl, g1, g2, g3, g4, g5, g6⟩ := hR
      have hq := d_ex_Q hW _ _ _ _ _ _ hr (by decide)
      have hq1 := hq.1.1
      have hq2 := hq.2.1
      have v3 := g5.2.2.1
      exact m_D.ret 9 (by decide) rfl (Or.inr rfl) m_Fr.refl (full 4 (by decide) (by decide) A' A5 I5 J5 p3 m3 j e3 c3 S1 a1 g5 g6 ⟨g1, g2, g3, g4⟩ (by omega) hq.2.2.1.ge).1
  · rw [if_neg cset, if_neg cset]
    refine m_D.yea 9 (by decide) rfl (by decide) ?_
    refine m_D.cav (n := 9) (by decide) rfl (y_make h29 (by omega)) (by decide) m_addA_Fr ?_
    rw [h31]
    obtain ⟨A', a1, a2, a3, a4⟩ := made 5 (by decide) (by decide)
    refine m_D.can (n := 9) (by decide) rfl a4 (by decide) a2 ?_
    refine m_D.call (n := 9) (by decide) rfl (by decide) (y_exOf hT hK hW a3.2.2.1 a3.1 a3.2.1 a3.2.2.2 hp (by omega) (show m < m + 1 by omega)) (fun vv I5 A5 J5 hR hF => ?_)
    cases hr : d_ex (d_mk T tk) (d_pc tk) 12 1 p with
    | error q =>
      rw [hr] at hR
      obtain ⟨rfl, h3, h4⟩ := hR
      refine m_D.nay 9 (by decide) rfl (by decide) ?_
      exact m_D.ret 9 (by decide) rfl (Or.inl rfl) m_Fr.refl ⟨rfl, h3, h4⟩
    | ok a =>
      obtain ⟨e3, c3, p3⟩ := a
      rw [hr] at hR
      obtain ⟨j, m3, S1, rfl, g1, g2, g3, g4, g5, g6⟩ := hR
      have hq := d_ex_Q hW _ _ _ _ _ _ hr (by decide)
      have hq1 := hq.1.1
      have hq2 := hq.2.1
      have hq4 := hq.2.2.2.1
      have v1 := g5.1
      have v3 := g5.2.2.1
      obtain ⟨-, y4, y1, yj, yT, y6, y7, yf⟩ := full 5 (by decide) (by decide) A' A5 I5 J5 p3 m3 j e3 c3 S1 a1 g5 g6 ⟨g1, g2, g3, g4⟩ (by omega) hq.2.2.1.ge
      have em : (nI m).toNatClampNeg = m := nI_clamp (by omega)
      have hinm : ¬ (nI m < 0 ∨ 400 ≤ (nI m).toNatClampNeg) := nI_in (show m < 400 by omega) (by decide)
      have e42 : A5 42 (nI m).toNatClampNeg = nI j := by rw [em]; exact y4
      have e40 : A5 40 (A5 42 (nI m).toNatClampNeg).toNatClampNeg = nI (e3 / 32) := by rw [e42, nI_clamp (by omega)]; exact y1
      refine m_D.yea 9 (by decide) rfl (by decide) ?_
      refine m_D.nee 9 (by decide) rfl hinm ?_
      refine m_D.nee 9 (by decide) rfl (by rw [e42]; exact nI_in (show j < 400 by omega) (by decide)) ?_
      refine m_D.nee 9 (by decide) rfl hinm ?_
      rw [e40, em]
      refine m_D.heap (m_Fr.set (a := 40) (k := m) (v := nI (e3 / 32)) (by decide)) ?_
      have e6 : m_st (am_u A5 40 m (nI (e3 / 32))) = am_u (m_st A5) 1 m (nI (e3 / 32)) := by
        rw [show (40 : Nat) = m_px 1 from rfl, m_st_u]
      have ne : ∀ f k, ¬ (f = 1 ∧ k = m) → m_st (am_u A5 40 m (nI (e3 / 32))) f k = m_st A5 f k := fun f k z => by rw [e6]; exact am_un z
      have hTt := yT.tok (t := e3 / 32) (by omega)
      rw [← e6, show (5 + 32 * p) % 32 + 32 * (e3 / 32) = 5 + 32 * (e3 / 32) from by omega] at hTt
      have hd := r_done (S' := m_st (am_u A5 40 m (nI (e3 / 32)))) (m' := m3) hN hlm hmm hb (by omega) (hNw 5 (by decide) (by decide)) (by omega) heb (fun f k hk => by rw [ne f k (fun z => by omega), yf f k hk, a1]; rfl) (by rw [ne 6 m (by simp)]; exact y6) (by rw [ne 7 m (by simp)]; exact y7) (hTt.wide (by omega) (Nat.le_refl _))
      refine m_D.ret 9 (by decide) rfl (Or.inr rfl) m_Fr.refl ⟨rfl, m3, ⟨g1, g2, ⟨g3.1, g3.2.1, fun k hk => ?_, g3.2.2.2⟩, fun k hk => ?_⟩, hd.1, by rw [b_sz_add]; simp only [b_sz]; omega, by omega, hd.2.2.1, hd.2.2.2, fun f k k1 k2 => hd.2.1 f k (by omega) k2 (by omega)⟩
      · simpa [am_uo] using g3.2.2.1 k hk
      · rw [ne 3 k (by simp), ne 5 k (by simp)]
        refine ⟨(g4 k hk).1, ?_⟩
        by_cases hkm : k = m
        · subst hkm
          exact ⟨e3 / 32, hq4, by rw [e6, am_uk]⟩
        · rw [ne 1 k (fun z => hkm z.2)]
          exact (g4 k hk).2
end MSL
