/-! THE REFERENCE'S STATEMENTS: parse(), one statement -/
section MS1
variable {g : List aK} {X : Nat × (Nat → Int32)} {T : Nat} {tk : Nat → aT} {P : mP}
theorem y_st1 (hT : T ≤ 120) (hK : d_K T tk) (hW : d_W (d_mk T tk) T) (hIn : ∀ p, d_mk T tk p = 7 → d_mk T tk (p + 1) ≠ 8) (hB : ∀ k, k < T → d_bal (d_mk T tk) k ≤ 8) {r b lo eb p m : Nat} {c : aB} {w : Int32} {I A : Nat → Nat → Int32} {J : Nat → Nat → Int64} (hS : ∀ r', r = r' + 1 → y_Blk g X T tk P r') (hblo : b < lo) (heb : eb % 32 = 9) (hY : m_Y T tk p m I A J) (hN : n_T (m_st A) false lo m b eb c) (hlm : lo ≤ m) (hm : m ≤ 2 * p + 1) (hp : p < T) (hbal : d_bal (d_mk T tk) p + r = 8) (h8 : d_mk T tk p = 8 → b = 0) (hE : ∀ q, d_s1 (d_mk T tk) (d_pc tk) (d_st (d_mk T tk) (d_pc tk) r 8) c p = .error q → y_Er P q) (hk : ∀ a, d_s1 (d_mk T tk) (d_pc tk) (d_st (d_mk T tk) (d_pc tk) r 8) c p = .ok a → ∀ w I' A' J', m_Bs T tk lo b eb m c (m_st A) (.ok a) (some (.int 1)) I' A' J' → y_D g X P 22 (y_lq b 0 w) I' A' J') : y_D g X P 44 (y_lq b 0 w) I A J := by
  have hst := d_st_Z (pl := d_pc tk) hW hIn r
  obtain ⟨k1, k2⟩ := hY.kind hK hp
  have hcm := y_cm (g := g) (X := X) hK hY hp
  refine m_D.yea 9 (by decide) rfl (by decide) ?_
  refine m_D.yea 9 (by decide) rfl (by decide) ?_
  refine m_D.nee 9 (by decide) rfl k2 ?_
  have rest : m_D m_fp m_cp 173 12 g X I A J (361, [(4, .int 1), (1, .int (nI b)), (2, .int 0), (3, .int w), (0, .ref 29)], [], am_H g I A J X) P := by
    refine m_D.cav (n := 9) (by decide) rfl hcm (by decide) m_Fr.refl ?_
    unfold d_s1 at hE hk
    by_cases c0 : d_mk T tk p = 11 ∨ d_mk T tk p = 14 ∨ d_mk T tk p = 15
    · obtain ⟨kd, hkd⟩ : ∃ kd, d_cm (d_mk T tk p) = kd := ⟨_, rfl⟩
      have hkv : kd = 6 ∨ kd = 7 ∨ kd = 8 := by
        subst hkd
        rcases c0 with z | z | z <;> (rw [z]; decide)
      rw [hkd] at hcm ⊢
      have hp1 : p + 1 < T := hW p (by rcases c0 with z | z | z <;> (rw [z]; decide)) (by rcases c0 with z | z | z <;> (rw [z]; decide))
      have hWn : n_W false (m_st A) m (m_st (m_addA A m (nI kd) (nI p))) (kd + 32 * p) := by
        rw [m_addA_st]
        exact n_add_W (by rw [show (kd + 32 * p) % 32 = kd from by omega]) (fun _ => by rw [show (kd + 32 * p) / 32 = p from by omega])
      obtain ⟨A2, a1, a2, a3, a4⟩ := (hY.mk (k := nI kd) hp).app (g := g) (X := X) (j := b) (v := m) (by omega) (by omega) (by omega)
      obtain ⟨hh, e2⟩ : ∃ hh, m_st A2 = n_lnk (m_st (m_addA A m (nI kd) (nI p))) b m hh := ⟨_, a1⟩
      obtain ⟨l1, l2, l3, l4, l5, l6, l7⟩ := r_link (hh := hh) hN hlm (Nat.le_refl _) (by omega) (by omega) hWn
      obtain ⟨q1, q2, q3, q4, q5, q6, q7, q8, q9, q10⟩ := n_lnk_T (hh := hh) l1 hlm (by omega) (j2 := m) (by omega) (by omega)
      rw [← e2] at l2 l3 l4 l5 l6 l7 q2
      have hupm : r_uq (m_st A2) 0 m b := ⟨l4, by rw [q2, l1.1.1, heb]; rfl, by omega⟩
      refine m_D.nay 9 (by decide) rfl (by rcases hkv with z | z | z <;> (rw [z]; decide)) ?_
      refine m_D.cav (n := 9) (by decide) rfl hcm (by decide) m_Fr.refl ?_
      refine m_D.cav (n := 9) (by decide) rfl (by rw [hY.1]; exact y_make hY.2.1 (by omega)) (by decide) m_addA_Fr ?_
      refine m_D.can (n := 9) (by decide) rfl a4 (by decide) a2 ?_
      /- behind the head -/
      have tail : ∀ {e : Nat} {c1 : aB} {p1 : Nat} {I5 A5 : Nat → Nat → Int32} {J5 : Nat → Nat → Int64}, e % 32 = kd → m_Bs T tk (m + 1) m e (m + 1) b_0 (m_st A2) (.ok (c1, p1)) (some (.int 1)) I5 A5 J5 → d_G (d_mk T tk) T p p1 → p < p1 → b_sz c1 + p + 2 ≤ p1 → (kd = 6 → b_len c1 = 1) → (∀ q, d_bk (d_mk T tk) (d_pc tk) (d_st (d_mk T tk) (d_pc tk) r 8) p1 = .error q → y_Er P q) → (∀ e3 c3 p3, d_bk (d_mk T tk) (d_pc tk) (d_st (d_mk T tk) (d_pc tk) r 8) p1 = .ok (e3, c3, p3) → (kd = 6 → ∀ q, d_ir (d_mk T tk) (d_pc tk) (d_st (d_mk T tk) (d_pc tk) r 8) 120 e (b_add c1 e3 c3) p3 = .error q → y_Er P q) ∧ (∀ c4 p4, ((kd = 6 ∧ d_ir (d_mk T tk) (d_pc tk) (d_st (d_mk T tk) (d_pc tk) r 8) 120 e (b_add c1 e3 c3) p3 = .ok (e, c4, p4)) ∨ (kd ≠ 6 ∧ c4 = b_add c1 e3 c3 ∧ p4 = p3)) → ∀ w I' A' J', m_Bs T tk lo b eb m c (m_st A) (.ok (b_add c e c4, p4)) (some (.int 1)) I' A' J' → y_D g X P 22 (y_lq b 0 w) I' A' J')) → y_D g X P 22 (y_lq b 2 (nI m)) I5 A5 J5 := by
        intro e c1 p1 I5 A5 J5 he hR5 g1 g2 g3 g4 hE1 hk1
        have hR0 := hR5
        obtain ⟨-, m1, t2, t3, t4, t5, t6, t6', t7⟩ := hR5
        simp only [b_sz] at t4
        have g0 := g1.1
        have gb := g1.bal (by omega)
        refine y_bk hT hK hW hIn hB hS (kk := 0) t2 t3 (by omega) (Nat.lt_succ_self m) (by omega) (by omega) g0 (by omega) (hR0.upq (Nat.lt_succ_self m) hupm) hE1 (fun e3 c3 p3 hb I6 A6 J6 hR6 => ?_)
        obtain ⟨hE2, hk2⟩ := hk1 e3 c3 p3 hb
        obtain ⟨z0, z1, z2, z3, z4, z5, z6, z7⟩ := d_bk_Z hW hIn hst g0 hb
        have hR7 := hR6.seq (c0 := b_0) (m := m + 1) (S := m_st A2) (by simp only [b_sz]; omega) (by omega) t6 t6' t7
        have hR8 := hR7
        obtain ⟨-, m6, s2, s3, s4, s5, s6, s6', s7⟩ := hR8
        rw [b_sz_add] at s4
        simp only [b_sz] at s4
        by_cases c6 : kd = 6
        · refine y_bra hT hK hW hIn hB hS 120 (m + 1) m e 0 (b_add c1 e3 c3) p3 m6 I6 A6 J6 (by omega) s2 s3 (by omega) (by rw [b_len_add, g4 c6]) (Nat.lt_succ_self m) (by omega) (by omega) z1 (by omega) (hR7.upq (Nat.lt_succ_self m) hupm) (hE2 c6) (fun e' c' p' hd2 w I9 A9 J9 hR9 => ?_)
          have he' := d_ir_e hd2
          subst he'
          refine hk2 c' p' (Or.inl ⟨c6, hd2⟩) w I9 A9 J9 ?_
          have hR10 := hR9.seq (c0 := b_0) (m := m + 1) (S := m_st A2) (by rw [b_sz_add]; simp only [b_sz]; omega) (by omega) s6 s6' s7
          rw [e2] at hR10
          exact r_fin hN hlm (Nat.le_refl _) (by omega) (by omega) hWn (by omega) hR10
        · have hl := b_len_lt (by omega) s3.2
          refine y_no s3 (by omega) (by omega) (Or.inl (by omega)) ?_
          refine hk2 (b_add c1 e3 c3) p3 (Or.inr ⟨c6, rfl, rfl⟩) (nI m) I6 A6 J6 ?_
          rw [e2] at hR7
          exact r_fin hN hlm (Nat.le_refl _) (by omega) (by omega) hWn (by omega) hR7
      have gp : d_G (d_mk T tk) T p (p + 1) := ⟨hp1, fun k q1 q2 => by
        have : k = p := by omega
        subst this
        exact ⟨by rcases c0 with z | z | z <;> (rw [z]; decide), by rcases c0 with z | z | z <;> (rw [z]; decide)⟩⟩
      by_cases c15 : d_mk T tk p = 15
      · have hk8 : kd = 8 := by subst hkd; rw [c15]; decide
        rw [if_neg (by rw [c15]; decide), if_neg (by rw [c15]; decide), if_pos c15] at hE hk
        refine m_D.call (n := 9) (by decide) rfl (by decide) (y_hdd hT hK hW a3 l2 (by omega) (by omega) hp1) (fun vv I5 A5 J5 hR hF => ?_)
        cases hd : d_hd1 (d_mk T tk) (d_pc tk) (p + 1) with
        | error x =>
          rw [hd] at hR
          obtain ⟨rfl, h3, h4⟩ := hR
          refine m_D.nay 9 (by decide) rfl (by decide) ?_
          exact m_D.ret 9 (by decide) rfl (Or.inl rfl) m_Fr.refl (hE x (by rw [d_df_h, hd]) _ _ _ h3 h4)
        | ok a =>
          obtain ⟨c1, p1⟩ := a
          rw [hd] at hR
          have hR0 := hR
          obtain ⟨rfl, -⟩ := hR0
          obtain ⟨g1, g2⟩ := d_hd1_Z hW hd
          refine m_D.yea 9 (by decide) rfl (by decide) ?_
          refine m_D.pla 1 (by decide) rfl ?_
          refine m_D.sub [3, 1, 2, 4] rfl ?_
          refine tail (e := 8 + 32 * (p + 1)) (by omega) hR (gp.trans g1) (by omega) (by omega) (fun z => by omega) (fun q hq => hE q (by rw [d_df_h, hd]; dsimp only; rw [hq])) (fun e3 c3 p3 hb => ⟨fun z => by omega, fun c4 p4 hc w I' A' J' hR' => ?_⟩)
          rcases hc with ⟨z, -⟩ | ⟨-, rfl, rfl⟩
          · omega
          · exact hk _ (by rw [d_df_h, hd]; dsimp only; rw [hb]) w I' A' J' hR'
      · have hk67 : kd = 6 ∨ kd = 7 := by
          subst hkd
          rcases c0 with z | z | z
          · rw [z]; decide
          · rw [z]; decide
          · exact absurd z c15
        refine m_D.call (n := 9) (by decide) rfl (by decide) (y_hdc hT hK hW a3 l2 (by omega) (by omega) hp1) (fun vv I5 A5 J5 hR hF => ?_)
        have hcd : (kd = 6 ∧ d_mk T tk p = 11) ∨ (kd = 7 ∧ d_mk T tk p = 14 ∧ d_mk T tk p ≠ 11) := by
          subst hkd
          rcases c0 with z | z | z
          · exact Or.inl ⟨by rw [z]; decide, z⟩
          · exact Or.inr ⟨by rw [z]; decide, z, by rw [z]; decide⟩
          · exact absurd z c15
        cases hd : d_hc1 (d_mk T tk) (d_pc tk) (p + 1) with
        | error x =>
          rw [hd] at hR
          obtain ⟨rfl, h3, h4⟩ := hR
          refine m_D.nay 9 (by decide) rfl (by decide) ?_
          refine m_D.ret 9 (by decide) rfl (Or.inl rfl) m_Fr.refl (hE x ?_ _ _ _ h3 h4)
          rcases hcd with ⟨z1, z2⟩ | ⟨z1, z2, z3⟩
          · rw [if_pos z2, d_if_h, hd]
          · rw [if_neg z3, if_pos z2, d_cd_h, hd]
        | ok a =>
          obtain ⟨c1, p1⟩ := a
          rw [hd] at hR
          have hR0 := hR
          obtain ⟨rfl, -⟩ := hR0
          obtain ⟨g1, g2, g3, g4⟩ := d_hc1_Z hW hd
          refine m_D.yea 9 (by decide) rfl (by decide) ?_
          refine m_D.pla 1 (by decide) rfl ?_
          refine m_D.sub [3, 1, 2, 4] rfl ?_
          rcases hcd with ⟨z1, z2⟩ | ⟨z1, z2, z3⟩
          · rw [if_pos z2] at hE hk
            subst z1
            refine tail (e := 6 + 32 * p) (by omega) hR (gp.trans g1) (by omega) (by omega) (fun z => g4) (fun q hq => hE q (by rw [d_if_h, hd]; dsimp only; rw [hq])) (fun e3 c3 p3 hb => ⟨fun z q hq => hE q (by rw [d_if_h, hd]; dsimp only; rw [hb]; dsimp only; rw [hq]), fun c4 p4 hc w I' A' J' hR' => ?_⟩)
            rcases hc with ⟨-, hq⟩ | ⟨z, -⟩
            · exact hk _ (by rw [d_if_h, hd]; dsimp only; rw [hb]; dsimp only; rw [hq]) w I' A' J' hR'
            · exact absurd rfl z
          · rw [if_neg z3, if_pos z2] at hE hk
            subst z1
            refine tail (e := 7 + 32 * p) (by omega) hR (gp.trans g1) (by omega) (by omega) (fun z => by omega) (fun q hq => hE q (by rw [d_cd_h, hd]; dsimp only; rw [hq])) (fun e3 c3 p3 hb => ⟨fun z => by omega, fun c4 p4 hc w I' A' J' hR' => ?_⟩)
            rcases hc with ⟨z, -⟩ | ⟨-, rfl, rfl⟩
            · omega
            · exact hk _ (by rw [d_cd_h, hd]; dsimp only; rw [hb]) w I' A' J' hR'
    · have n11 : d_mk T tk p ≠ 11 := fun z => c0 (Or.inl z)
      have n14 : d_mk T tk p ≠ 14 := fun z => c0 (Or.inr (Or.inl z))
      have n15 : d_mk T tk p ≠ 15 := fun z => c0 (Or.inr (Or.inr z))
      rw [if_neg n11, if_neg n14, if_neg n15] at hE hk
      rw [show d_cm (d_mk T tk p) = 0 from by unfold d_cm; rw [if_neg n11, if_neg n14, if_neg n15]]
      refine m_D.yea 9 (by decide) rfl (by decide) ?_
      refine m_D.call (n := 9) (by decide) rfl (by decide) (y_li hT hK hW (by omega) hblo hY hN hlm (Nat.le_refl _) (by omega) hp) (fun vv I5 A5 J5 hR hF => ?_)
      cases hd : d_li (d_mk T tk) (d_pc tk) c p with
      | error x =>
        rw [hd] at hR hE
        obtain ⟨rfl, h3, h4⟩ := hR
        refine m_D.nay 9 (by decide) rfl (by decide) ?_
        exact m_D.ret 9 (by decide) rfl (Or.inl rfl) m_Fr.refl (hE x rfl _ _ _ h3 h4)
      | ok a =>
        rw [hd] at hR hk
        have hR0 := hR
        obtain ⟨rfl, -⟩ := hR0
        refine m_D.yea 9 (by decide) rfl (by decide) ?_
        refine m_D.pla 1 (by decide) rfl ?_
        refine m_D.sub [1, 2, 3, 4] rfl ?_
        exact hk a rfl _ _ _ _ hR
  by_cases c8 : d_mk T tk p = 8
  · refine m_D.nay 9 (by decide) rfl (by rw [k1]; exact fun z => z ((s_kd_k (by decide)).mpr c8)) ?_
    refine m_D.yea 9 (by decide) rfl (by rw [h8 c8]; decide) ?_
    exact rest
  · refine m_D.yea 9 (by decide) rfl (by rw [k1]; exact fun z => c8 ((s_kd_k (by decide)).mp z)) ?_
    exact rest
end MS1
