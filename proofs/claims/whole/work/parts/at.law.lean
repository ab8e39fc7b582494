/-! THE LAW: reading, typing -/
section LWR
variable {L : Nat} {xs : Nat → Int32} {i : Nat} {B C u c : Nat} {Q : aO → aH → Prop} {g : List aK} {I A : Nat → Nat → Int32} {J : Nat → Nat → Int64}
theorem lw_2 (hz : z_Z I A) (hu : u + 2 ≤ B) (hc : c + 12 ≤ C) (hk : lw_K L xs i B C u c Q) : am_Tri 200 2048 B C u c (205, lw_l i, [], am_H g I A J (L, xs)) Q := by
  obtain ⟨tx, n, w, p, T0, tk0, NL0, W0, hC, hM⟩ := hz
  have hx := hC.1
  have hn := hx.2.1
  have hkr := k_read (g := g) (J := J) (X := (L, xs)) hx
  have last : ∀ (g' : List aK) (I' A' : Nat → Nat → Int32) (J' : Nat → Nat → Int64) (v6 v5 : Int32), z_Z I' A' → am_Tri 200 2048 B C (u + 2) (c + 12) (246, [(6, .int v6), (5, .int v5), (4, .int (nI i)), (3, .ref 56), (2, .ref 29), (1, .ref 0), (0, .retAddr 1000)], [], am_H g' I' A' J' (L, xs)) Q := by
    intro g' I' A' J' v6 v5 hz'
    refine am_pla 1 (by decide) rfl ?_
    refine am_sub [2, 3, 4, 5, 6] rfl ?_
    exact hk g' I' A' J' (u + 2) (c + 12) hz' (by omega) (by omega)
  cases hr : r_rd tx n with
  | error q =>
    rw [hr] at hkr
    obtain ⟨I1, A1, k, f1, f2, f3, f4, f5, f6, f7⟩ := hkr
    have hh : am_Con 400 196 [.ref 0, .ref 56] (am_H g I A J (L, xs)) (.inl (some (.int 1))) (am_H (am_gx (am_gx g)) I1 A1 J (L, xs)) 2 12 := by
      refine am_met rfl rfl ?_
      refine am_cah 9 (by decide) rfl f7 (by decide) (by decide) (by decide) (hp := 11) rfl ?_
      exact am_end 9 (by decide) rfl trivial (by decide) (by decide) ⟨rfl, rfl⟩
    have hM1 : z_M tx n w p T0 tk0 NL0 W0 I1 A1 := hM.fr (fun x h1 h2 => f1 x (by simp [c_rd]; omega))
    obtain ⟨I2, A2, J2, v, hP, hF, hcon⟩ := y_read (g := am_gx (am_gx g)) (X := (L, xs)) (J := J) hn hM1.1 hM1.2.1 hx.2.2.2 hM1.2.2.1 hM1.2.2.2.1
    rw [hr] at hP
    obtain ⟨rfl, p1, p2, p3, p4, p5, p6⟩ := hP
    refine am_cav 9 (by decide) rfl hh (by decide) (by omega) (by omega) ?_
    refine am_cav 9 (by decide) rfl hcon (by decide) (by omega) (by omega) ?_
    refine am_cav 9 (by decide) rfl y_thrown (by decide) (by omega) (by omega) ?_
    refine am_yea 9 (by decide) rfl p1 ?_
    refine am_yea 9 (by decide) rfl (by decide) ?_
    refine last _ I2 A2 J2 _ _ ⟨tx, n, q.1, nI q.2, 0, tk0, [], [], ?_, ?_⟩
    · have h0 : z_C tx n q.1 (nI q.2) 0 tk0 [] [] I1 A1 := ⟨hx.fr f1, f2, f3, ⟨f4, by decide, fun k hk => absurd hk (Nat.not_lt_zero _)⟩, f5, by decide, trivial, ⟨f6, fun k hk => absurd hk (Nat.not_lt_zero _), fun x hx => absurd hx List.not_mem_nil⟩, by decide⟩
      exact h0.fr (fun x hx => ⟨hF.1 x (by omega), hF.2.2.1 x (by simp [m_cr]; omega)⟩)
    · exact ⟨by rw [hF.2.1 2 (by decide)]; exact hM1.1, fun k hk => by rw [hF.2.2.1 30 (by decide)]; exact hM1.2.1 k hk, by rw [hF.2.2.2.2 36 (Or.inl rfl)]; exact hM1.2.2.1, by rw [hF.2.2.2.2 37 (Or.inr rfl)]; exact hM1.2.2.2.1, p2, p3, ⟨p4, by decide, fun k hk => absurd hk (Nat.not_lt_zero _)⟩, p5, trivial, ⟨p6, fun k hk => absurd hk (Nat.not_lt_zero _)⟩⟩
  | ok a =>
    obtain ⟨T, tk, e, cc⟩ := a
    rw [hr] at hkr
    obtain ⟨I1, A1, f1, f2, f3, f4, f5, f6, f7, f8⟩ := hkr
    have hh : am_Con 400 196 [.ref 0, .ref 56] (am_H g I A J (L, xs)) (.inl (some (.int 0))) (am_H g I1 A1 (am_u J 56 0 (nI T).toInt64) (L, xs)) 2 12 := by
      refine am_met rfl rfl ?_
      refine am_cav 9 (by decide) rfl f8 (by decide) (by decide) (by decide) ?_
      refine am_nee 9 (by decide) rfl nd_56 ?_
      exact am_end 9 (by decide) rfl trivial (by decide) (by decide) ⟨rfl, rfl⟩
    have hgood : b_sz cc ≤ 238 ∧ (w_m (d_mk T tk) (w_tt tx tk) cc 1 0).length ≤ 2900 := by
      unfold r_rd at hr
      split at hr
      · cases hr
      · next z hzz =>
        split at hr
        · cases hr
        · next e1 c1 p1 hd =>
          cases hr
          have := (s_scan_Fi hn hzz).good hn hd
          exact ⟨this.2.2.1, this.2.2.2.2.2⟩
    have hM1 : z_M tx n w p T0 tk0 NL0 W0 I1 A1 := hM.fr (fun x h1 h2 => f1 x (by simp [c_rd]; omega))
    obtain ⟨I2, A2, J2, v, hP, hF, hcon⟩ := y_read (g := g) (X := (L, xs)) (J := am_u J 56 0 (nI T).toInt64) hn hM1.1 hM1.2.1 hx.2.2.2 hM1.2.2.1 hM1.2.2.2.1
    rw [hr] at hP
    obtain ⟨rfl, p1, p2, p3, p4, p5⟩ := hP
    have hJ : J2 56 (0 : Int32).toNatClampNeg = (nI T).toInt64 := by rw [hF.2.2.2.1 56 (by decide)]; exact am_uk
    have hlen : ((e, b_len cc) :: b_pre cc).length = b_sz cc + 1 := by rw [List.length_cons, b_pre_len]
    refine am_cav 9 (by decide) rfl hh (by decide) (by omega) (by omega) ?_
    refine am_cav 9 (by decide) rfl hcon (by decide) (by omega) (by omega) ?_
    refine am_cav 9 (by decide) rfl y_thrown (by decide) (by omega) (by omega) ?_
    refine am_yea 9 (by decide) rfl p1 ?_
    refine am_nay 9 (by decide) rfl (by decide) ?_
    refine am_nee 9 (by decide) rfl nd_56 ?_
    refine am_yea 9 (by decide) rfl (by rw [hJ]; exact lg_same _) ?_
    refine last _ I2 A2 J2 _ _ ⟨tx, n, 0, -1, T, tk, (e, b_len cc) :: b_pre cc, w_m (d_mk T tk) (w_tt tx tk) cc 1 0, ?_, ?_⟩
    · have h0 : z_C tx n 0 (-1) T tk ((e, b_len cc) :: b_pre cc) (w_m (d_mk T tk) (w_tt tx tk) cc 1 0) I1 A1 := ⟨hx.fr f1, f2, f3, f4, by rw [hlen]; exact f5, by rw [hlen]; omega, by rw [hlen]; exact f6, f7, by omega⟩
      exact h0.fr (fun x hx => ⟨hF.1 x (by omega), hF.2.2.1 x (by simp [m_cr]; omega)⟩)
    · exact ⟨by rw [hF.2.1 2 (by decide)]; exact hM1.1, fun k hk => by rw [hF.2.2.1 30 (by decide)]; exact hM1.2.1 k hk, by rw [hF.2.2.2.2 36 (Or.inl rfl)]; exact hM1.2.2.1, by rw [hF.2.2.2.2 37 (Or.inr rfl)]; exact hM1.2.2.2.1, p2.2.2.2.1, p2.2.2.2.2, ⟨p2.1, p2.2.1, fun k hk => ⟨(p2.2.2.1 k hk).1, (p2.2.2.1 k hk).2.1, (p2.2.2.1 k hk).2.2.1⟩⟩, by rw [hlen]; exact p3, by rw [hlen]; exact p4, p5⟩
theorem lw_0 (hz : z_Z I A) (hi : i + 4 ≤ L) (hL : L ≤ 2048) (hu : u + 2 ≤ B) (hc : c + 12 ≤ C) (hk : lw_K L xs i B C u c Q) : am_Tri 200 2048 B C u c (92, lw_l i, [], am_H g I A J (L, xs)) Q := by
  obtain ⟨tx, n, w, p, T, tk, NL, W, hC, hM⟩ := hz
  have e1 : (nI i + 1).toNatClampNeg = i + 1 := by rw [nI_1, nI_clamp (by omega)]
  have e2 : (nI i + 2).toNatClampNeg = i + 2 := by rw [show (2 : Int32) = nI 2 from rfl, nI_add, nI_clamp (by omega)]
  have e3 : (nI i + 3).toNatClampNeg = i + 3 := by rw [show (3 : Int32) = nI 3 from rfl, nI_add, nI_clamp (by omega)]
  have n1 : ¬ (nI i + 1 < 0 ∨ L ≤ (nI i + 1).toNatClampNeg) := by rw [nI_1]; exact lw_in hi hL (by decide)
  have n2 : ¬ (nI i + 2 < 0 ∨ L ≤ (nI i + 2).toNatClampNeg) := by rw [show (2 : Int32) = nI 2 from rfl, nI_add]; exact lw_in hi hL (by decide)
  have n3 : ¬ (nI i + 3 < 0 ∨ L ≤ (nI i + 3).toNatClampNeg) := by rw [show (3 : Int32) = nI 3 from rfl, nI_add]; exact lw_in hi hL (by decide)
  refine am_nee 9 (by decide) rfl n1 ?_
  refine am_nee 12 (by decide) rfl n2 ?_
  refine am_nee 12 (by decide) rfl n3 ?_
  rw [e1, e2, e3]
  generalize hw : ((xs (i + 1)).toInt64 <<< (Int32.toInt64 32 &&& 63) ||| (xs (i + 2)).toInt64 &&& 4294967295) = wl
  generalize hn0 : xs (i + 3) = n0
  have hx := hC.1
  have hn := hx.2.1
  obtain ⟨g1, I1, A1, J1, f1, f2, f3, f4⟩ := k_hty (g := g) (J := J) (X := (L, xs)) (w := wl) (n0 := n0) hx
  have hM1 : z_M tx n w p T tk NL W I1 A1 := hM.fr (fun x h1 h2 => f1 x (by omega) (by omega))
  obtain ⟨I2, A2, J2, v, ⟨rfl, p1, p2, p3, b, rfl⟩, hF, hcon⟩ := y_type (g := g1) (X := (L, xs)) (I := I1) (A := A1) (J := J1) (w := wl) (n0 := n0) hn hM1.1
  have last : ∀ (v6 v5 : Int32), z_Z I2 A2 → am_Tri 200 2048 B C (u + 1) (c + 6) (189, [(6, .int v6), (5, .int v5), (4, .int (nI i)), (3, .ref 56), (2, .ref 29), (1, .ref 0), (0, .retAddr 1000)], [], am_H g1 I2 A2 J2 (L, xs)) Q := by
    intro v6 v5 hz'
    refine am_pla 1 (by decide) rfl ?_
    refine am_sub [2, 3, 4, 5, 6] rfl ?_
    exact hk g1 I2 A2 J2 (u + 1) (c + 6) hz' (by omega) (by omega)
  have rest : ∀ tx' n', c_T tx' n' I1 A1 → (∀ x, x ≠ 1 → x ≠ 2 → I1 x = I x ∧ A1 x = A x) → I2 29 2 = nI n' → (∀ k, k < n' → A2 30 k = tx' k) → z_Z I2 A2 := by
    intro tx' n' hx' hfr h2 h30
    refine ⟨tx', n', w, p, T, tk, NL, W, ?_, ?_⟩
    · have h0 : z_C tx' n' w p T tk NL W I1 A1 := by
        obtain ⟨-, q2, q3, q4, q5, q6, q7, q8, q9⟩ := hC
        refine ⟨hx', by rw [(hfr 3 (by decide) (by decide)).1]; exact q2, by rw [(hfr 3 (by decide) (by decide)).1]; exact q3, ⟨by rw [(hfr 4 (by decide) (by decide)).1]; exact q4.1, q4.2.1, fun k hk => ?_⟩, by rw [(hfr 9 (by decide) (by decide)).1]; exact q5, q6, ?_, ⟨by rw [(hfr 27 (by decide) (by decide)).1]; exact q8.1, fun k hk => by rw [(hfr 28 (by decide) (by decide)).2]; exact q8.2.1 k hk, q8.2.2⟩, q9⟩
        · rw [(hfr 5 (by decide) (by decide)).2, (hfr 6 (by decide) (by decide)).2, (hfr 7 (by decide) (by decide)).2, (hfr 8 (by decide) (by decide)).2]
          exact q4.2.2 k hk
        · rw [(hfr 18 (by decide) (by decide)).2]
          exact r_or.ext8 (fun f hf8 => (hfr (10 + f) (by omega) (by omega)).2) q7
      exact h0.fr (fun x hx => ⟨hF.1 x (by omega), hF.2.2.1 x (by simp; omega)⟩)
    · obtain ⟨-, -, q3, q4, q5, q6, q7, q8, q9, q10⟩ := hM1
      refine ⟨h2, h30, by rw [hF.2.2.1 36 (by decide)]; exact q3, by rw [hF.2.2.1 37 (by decide)]; exact q4, by rw [hF.2.1 3 (by decide)]; exact q5, by rw [hF.2.1 4 (by decide)]; exact q6, ⟨by rw [hF.2.1 11 (by decide)]; exact q7.1, q7.2.1, fun k hk => ?_⟩, by rw [hF.2.1 30 (by decide)]; exact q8, ?_, ⟨by rw [hF.2.1 39 (by decide)]; exact q10.1, fun k hk => by rw [hF.2.2.1 52 (by decide)]; exact q10.2 k hk⟩⟩
      · rw [hF.2.2.1 32 (by decide), hF.2.2.1 33 (by decide), hF.2.2.1 34 (by decide)]
        exact q7.2.2 k hk
      · rw [hF.2.2.1 47 (by decide)]
        exact r_or.ext8 (fun f hf8 => hF.2.2.1 (m_px f) (by unfold m_px; (repeat' split) <;> simp <;> omega)) q9
  refine am_cav 9 (by decide) rfl f4 (by decide) (by omega) (by omega) ?_
  refine am_nee 9 (by decide) rfl n1 ?_
  refine am_nee 12 (by decide) rfl n2 ?_
  refine am_nee 12 (by decide) rfl n3 ?_
  rw [e1, e2, e3, hw, hn0]
  refine am_cav 9 (by decide) rfl hcon (by decide) (by omega) (by omega) ?_
  refine am_cav 9 (by decide) rfl y_thrown (by decide) (by omega) (by omega) ?_
  refine am_yea 9 (by decide) rfl p1 ?_
  by_cases hr : r_ty wl n0 n = 0
  · obtain ⟨k, k1, k2, k3, k4, k5⟩ := f3 hr
    obtain ⟨a1, a2, a3⟩ := p3 hr k k1 k3
    have hb : b = nI (n + k) := by
      injection a1 with a1
      injection a1
    refine am_nay 9 (by decide) rfl (by rw [hr]; decide) ?_
    refine am_nee 9 (by decide) rfl nd_56 ?_
    refine am_yea 9 (by decide) rfl (by rw [show J2 56 (0 : Int32).toNatClampNeg = (nI (n + k)).toInt64 from k5, hb]; exact lg_same _) ?_
    refine last _ _ (rest (t_ap wl n tx k) (n + k) k4 f1 a2 (fun q hq => ?_))
    rw [a3]
    show (if (30 : Nat) = 30 then t_ap wl n (A1 30) k else A1 30) q = t_ap wl n tx k q
    rw [if_pos rfl]
    unfold t_ap
    by_cases cq : n ≤ q ∧ q < n + k
    · rw [if_pos cq, if_pos cq]
    · rw [if_neg cq, if_neg cq]
      exact hM1.2.1 q (by omega)
  · obtain ⟨a1, a2⟩ := f2 hr
    obtain ⟨b1, b2⟩ := p2 hr
    refine am_yea 9 (by decide) rfl (fun z => hr (nI_inj (b := 0) (by unfold r_ty; (repeat' split) <;> omega) (by decide) z)) ?_
    refine last _ _ (rest tx n (by rw [a1, a2]; exact hx) f1 b1 (fun q hq => ?_))
    rw [b2]
    exact hM1.2.1 q hq
end LWR
