/-! THE CLASS READS -/
/-- what a reading comes to: tokens, the tree's root, or a refusal -/
def r_rd (tx : Nat → Int32) (n : Nat) : Except aF (Nat × (Nat → aT) × Nat × aB) := match s_scan tx n with
  | .error q => .error q
  | .ok z => match d_st (d_mk z.2.2.2.2.1 z.2.2.2.2.2) (d_pc z.2.2.2.2.2) 9 9 0 with
    | .error q => .error q
    | .ok (e, c, _) => .ok (z.2.2.2.2.1, z.2.2.2.2.2, e, c)
/-- the root is the first node -/
def p_Rt (T : Nat) (tk : Nat → aT) (a : Nat × aB × Nat) (v : Option Value) (I' A' : Nat → Nat → Int32) : Prop := v = some (.int (nI 0)) ∧ p_I T tk a.2.2 (b_sz a.2.1 + 1) I' A' ∧ n_T (c_st A') true 1 (b_sz a.2.1 + 1) 0 a.1 a.2.1 ∧ c_st A' 6 0 = -1 ∧ c_st A' 7 0 = -1
/-- a call that throws what is caught here -/
theorem am_cah {M d B C u c M' d' B' C' nx k X hp : Nat} {Q : aO → aH → Prop} {s : aS} {h h' : aH} {ls : List (Nat × Value)} {sk as : List Value} (n : Nat) (h1d : 1 ≤ d) (hr : am_run n M s = am_ca M' as (nx, ls, sk, h)) (hcon : am_Con d' M' as h (.inr (X, k)) h' B' C') (hd : d' + 1 ≤ d) (hB : u + B' ≤ B) (hC : c + C' ≤ C) (hf : xm_find (am_yes (am_own M) X) (nx - 3) (am_hs M) = some hp) (hk : am_Tri M d B C (u + B') (c + C') (hp, ls, [.ref k], h') Q) : am_Tri M d B C u c s Q := by
  refine am_go n h1d hr ⟨d', _, h', B', C', hcon, hd, hB, hC, ?_⟩
  show am_Thr M d B C (u + B') (c + C') (nx - 3) ls X k h' Q
  unfold am_Thr
  cases hhs : am_hs M with
  | nil => rw [hhs] at hf; simp [xm_find] at hf
  | cons a t =>
    rw [hhs] at hf
    simp only [hf]
    exact hk
theorem n_N.ext8 {S S' : aN} {q : Bool} {j e : Nat} {c : aB} (h : ∀ f, f < 8 → S' f = S f) (hn : n_N S q j e c) : n_N S' q j e c := by
  unfold n_N at *
  rw [h 0 (by decide), h 1 (by decide), h 2 (by decide), h 3 (by decide)]
  exact hn
theorem n_F.ext8 {S S' : aN} {q : Bool} (h : ∀ f, f < 8 → S' f = S f) : ∀ {F : aB} {lo hi i : Nat} {x l xe : Int32}, n_F S q F lo hi x i l xe → n_F S' q F lo hi x i l xe
  | .leaf _, _, _, _, _, _, _, hn => hn
  | .branch e c s, lo, hi, i, x, l, xe, hn => by
    obtain ⟨j, a, b, h1, h2, h3, h4, h5, h6, h7, h8, h9, h10, h11⟩ := hn
    refine ⟨j, a, b, h1, h2, h3, h4, h5, h6, h7, by rw [h 7 (by decide)]; exact h8, n_N.ext8 h h9, ?_, ?_⟩
    · rw [h 4 (by decide), h 5 (by decide)]
      exact n_F.ext8 h h10
    · rw [h 6 (by decide)]
      exact n_F.ext8 h h11
theorem n_T.ext8 {S S' : aN} {q : Bool} {lo mid j e : Nat} {c : aB} (h : ∀ f, f < 8 → S' f = S f) (hn : n_T S q lo mid j e c) : n_T S' q lo mid j e c := by
  refine ⟨n_N.ext8 h hn.1, ?_⟩
  rw [h 4 (by decide), h 5 (by decide)]
  exact n_F.ext8 h hn.2
theorem r_or.ext8 {S S' : aN} {o : Nat → Int32} {m : Nat} (h : ∀ f, f < 8 → S' f = S f) : ∀ {L : List (Nat × Nat)} {k : Nat}, r_or S o m k L → r_or S' o m k L
  | [], _, _ => trivial
  | (e, n) :: L, k, hr => by
    obtain ⟨⟨j, j1, j2, j3, j4, j5⟩, h2⟩ := hr
    exact ⟨⟨j, j1, j2, by rw [h 0 (by decide)]; exact j3, by rw [h 1 (by decide)]; exact j4, by rw [h 3 (by decide)]; exact j5⟩, r_or.ext8 h h2⟩
section CRD
variable {g : List aK} {J : Nat → Nat → Int64} {X : Nat × (Nat → Int32)} {I A : Nat → Nat → Int32} {tx : Nat → Int32} {n T m : Nat} {tk : Nat → aT}
theorem k_root (hT : T ≤ 120) (hW : d_W (d_mk T tk) T) (hIn : ∀ p, d_mk T tk p = 7 → d_mk T tk (p + 1) ≠ 8) (h0 : 0 < T) (hI : p_I T tk 0 0 I A) : c_M p_cs 335 68 [.ref 26, .int 9, .int 0] g I A J X (p_Rt T tk) (d_st (d_mk T tk) (d_pc tk) 9 9 0) := by
  have hS := k_St (g := g) (J := J) (X := X) hT hW hIn 8 0 (by omega)
  unfold d_st
  refine c_D.met rfl rfl ?_
  refine c_D.yea 9 (by omega) rfl (by decide) ?_
  refine c_D.cav (n := 9) (by omega) rfl (t_new hI.2.1 (show 0 < 360 by omega)) (by omega) c_addA_Fr ?_
  have e26 : I 26 3 = nI 0 := hI.1
  rw [e26]
  have hI2 := hI.new (k := 9) (t := nI 0) (show 0 < 360 by omega)
  have hWn : n_W true (c_st A) 0 (c_st (c_addA A 0 9 (nI 0))) (9 + 32 * d_bt b_0 0) := by
    rw [c_addA_st]
    exact c_add_W (by rw [show (9 + 32 * d_bt b_0 0) % 32 = 9 from by omega]; rfl) (fun _ => by rw [show (9 + 32 * d_bt b_0 0) / 32 = 0 from by show (9 + 32 * 0) / 32 = 0; omega])
  have hpar : c_st (c_addA A 0 9 (nI 0)) 7 0 = -1 := by
    rw [c_addA_st]
    simp [c_add, n_add, am_u]
  refine c_D.pla 3 (by omega) rfl ?_
  have hz : d_Zs (d_mk T tk) T 0 b_0 0 := ⟨Nat.le_refl _, h0, rfl, by simp only [b_sz]; omega, by unfold b_sk; rfl⟩
  have := k_sl (g := g) (J := J) (X := X) (cl := 9) (t0 := 0) (m0 := 1) hT hW hIn hS (Nat.lt_succ_self 0) (by omega) 120 0 b_0 0 1 _ _ (by omega) hI2 (hWn.2.1 1) (Nat.le_refl _) (by simp [b_sz]) hz
  revert this
  cases hr : d_sl (d_mk T tk) (d_pc tk) (d_st (d_mk T tk) (d_pc tk) 8 8) 9 120 b_0 0 with
  | error q => exact id
  | ok a =>
    obtain ⟨c2, p2⟩ := a
    rintro ⟨I', A', v, ⟨x1, -, m', r2, r3, r4, r5, r6, r7⟩, hF, hto⟩
    dsimp only at r2 r3 r4
    simp only [b_sz] at r4
    have hm' : m' = b_sz c2 + 1 := by omega
    subst hm'
    refine ⟨I', A', v, ⟨x1, r2, r3, ?_, ?_⟩, hF, hto⟩
    · rw [r6.1]; exact hWn.2.2
    · rw [r6.2]; exact hpar
/-- the cells that a reading writes, the refusal aside -/
def c_rd : List Nat := [4, 5, 6, 7, 8, 9, 10, 11, 12, 13, 14, 15, 16, 17, 18, 19, 20, 21, 22, 23, 24, 25, 26, 27, 28]
/-- scan: the text could be taken, or is refused -/
theorem k_scn (hx : c_T tx n I A) : match s_scan tx n with
    | .error q => ∃ (I' A' : Nat → Nat → Int32), I' 3 0 = q.1 ∧ I' 3 1 = nI q.2 ∧ am_Fr (3 :: c_sc) I A I' A' ∧ am_Con 14 118 [.ref 19] (am_H g I A J X) (.inl (some (.int 0))) (am_H (am_gx g) I' A' J X) 1 6
    | .ok z => ∃ (I' A' : Nat → Nat → Int32), am_Fr c_sc I A I' A' ∧ c_S z I' A' ∧ am_Con 14 118 [.ref 19] (am_H g I A J X) (.inl (some (.int 1))) (am_H g I' A' J X) 0 0 := by
  obtain ⟨I0, A0, b1, b2, b3⟩ := k_beg (g := g) (I := I) (A := A) (J := J) (X := X)
  have hs := k_tkA (g := g) (J := J) (X := X) hx.2.1 (hx.Fr b1) b2
  cases hsc : s_scan tx n with
  | error q =>
    rw [hsc] at hs
    obtain ⟨I1, A1, k, h1, h2, h3, h4⟩ := hs
    refine ⟨I1, A1, h1, h2, b1.e3.trans h3, am_met rfl rfl ?_⟩
    refine am_can 9 (by decide) rfl b3 (by decide) (by decide) (by decide) ?_
    refine am_cah 9 (by decide) rfl h4 (by decide) (by decide) (by decide) (hp := 10) rfl ?_
    exact am_end 9 (by decide) rfl (Or.inl rfl) (by decide) (by decide) ⟨rfl, rfl⟩
  | ok z =>
    rw [hsc] at hs
    obtain ⟨I1, A1, v, ⟨rfl, hz⟩, h3, h4⟩ := hs
    refine ⟨I1, A1, b1.trans h3, hz, am_met rfl rfl ?_⟩
    refine am_can 9 (by decide) rfl b3 (by decide) (by decide) (by decide) ?_
    refine am_can 9 (by decide) rfl h4 (by decide) (by decide) (by decide) ?_
    exact am_end 9 (by decide) rfl (Or.inr rfl) (by decide) (by decide) ⟨rfl, rfl⟩
/-- parse: the tokens could be read, or the text is refused -/
theorem k_prs (hFi : s_Fi tx n T tk) (hn : n ≤ 600) (hTk : c_Tk I A T tk) : match d_st (d_mk T tk) (d_pc tk) 9 9 0 with
    | .error q => ∃ (I' A' : Nat → Nat → Int32), I' 3 0 = q.1 ∧ I' 3 1 = nI q.2 ∧ am_Fr (3 :: c_rd) I A I' A' ∧ am_Con 340 64 [.ref 26] (am_H g I A J X) (.inl (some (.int 0))) (am_H (am_gx g) I' A' J X) 1 6
    | .ok (e, c, _) => ∃ (I' A' : Nat → Nat → Int32), am_Fr c_rd I A I' A' ∧ c_Tk I' A' T tk ∧ I' 9 9 = nI (b_sz c + 1) ∧ n_T (c_st A') true 1 (b_sz c + 1) 0 e c ∧ r_or (c_st A') (A' 18) (b_sz c + 1) 0 ((e, b_len c) :: b_pre c) ∧ am_Con 340 64 [.ref 26] (am_H g I A J X) (.inl (some (.int 1))) (am_H g I' A' J X) 0 0 := by
  have hfr1 : am_Fr p_cs I A (am_u (am_u I 26 3 0) 9 9 0) A := (am_Fr.put (by decide)).trans (am_Fr.put (by decide))
  have hI1 : p_I T tk 0 0 (am_u (am_u I 26 3 0) 9 9 0) A := by
    refine ⟨by rw [am_un (by decide), am_uk]; rfl, am_uk, by decide, by decide, c_Tk_tree hTk hfr1, fun k hk => absurd hk (Nat.not_lt_zero _)⟩
  have hp := k_root (g := g) (J := J) (X := X) hFi.T0.2 hFi.dW hFi.dIn hFi.T0.1 hI1
  cases hst : d_st (d_mk T tk) (d_pc tk) 9 9 0 with
  | error q =>
    rw [hst] at hp
    obtain ⟨I2, A2, k, q1, q2, q3, q4⟩ := hp
    refine ⟨I2, A2, q1, q2, (hfr1.mono (by decide) : am_Fr (3 :: c_rd) _ _ _ _).trans (q3.mono (by decide)), am_met rfl rfl ?_⟩
    refine am_cah 15 (by decide) rfl q4 (by decide) (by decide) (by decide) (hp := 24) rfl ?_
    exact am_end 9 (by decide) rfl (Or.inl rfl) (by decide) (by decide) ⟨rfl, rfl⟩
  | ok a =>
    obtain ⟨e, c, p'⟩ := a
    rw [hst] at hp
    obtain ⟨I2, A2, v, ⟨rfl, r2, r3, r4, r5⟩, q3, q4⟩ := hp
    dsimp only at r2 r3 r4 r5 ⊢
    obtain ⟨s1, s2, s3, s4, s5, s6⟩ := hFi.good hn hst
    obtain ⟨A3, t1, t2, t3⟩ := k_number (g := g) (J := J) (X := X) (I := I2) (A := A2) (S := c_st A2) (m := b_sz c + 1) r2.2.1 (by omega) (fun f _ => rfl) r3 rfl r4 r5
    have hf3 : am_Fr [18] I2 A2 I2 A3 := fun x hx => ⟨rfl, t1 x (fun z => hx (by simp [z]))⟩
    have est : ∀ f, f < 8 → c_st A3 f = c_st A2 f := fun f hf => t1 (10 + f) (by omega)
    have hT3 : c_Tk I2 A3 T tk := by
      obtain ⟨a1, a2, a3⟩ := r2.2.2.2.2.1
      refine ⟨a1, a2, fun k hk => ?_⟩
      rw [t1 5 (by decide), t1 6 (by decide), t1 7 (by decide), t1 8 (by decide)]
      exact a3 k hk
    refine ⟨I2, A3, ?_, hT3, r2.2.1, ?_, ?_, am_met rfl rfl ?_⟩
    · exact (((hfr1.mono (by decide) : am_Fr c_rd _ _ _ _).trans (q3.mono (by decide))).trans (hf3.mono (by decide)))
    · exact n_T.ext8 est r3
    · exact r_or.ext8 est t2
    · refine am_cav 15 (by decide) rfl q4 (by decide) (by decide) (by decide) ?_
      refine am_can 9 (by decide) rfl t3 (by decide) (by decide) (by decide) ?_
      exact am_end 9 (by decide) rfl (Or.inr rfl) (by decide) (by decide) ⟨rfl, rfl⟩
/-- within read: from the forgotten refusal to where the text is refused, or to the writing -/
theorem k_acc (hx : c_T tx n I A) : match r_rd tx n with
    | .error q => ∃ (I' A' : Nat → Nat → Int32), I' 3 0 = q.1 ∧ I' 3 1 = nI q.2 ∧ am_Fr (3 :: c_rd) I A I' A' ∧ ∀ (B C u w : Nat) (Q : aO → aH → Prop), u + 1 ≤ B → w + 6 ≤ C → am_Tri 110 350 B C (u + 1) (w + 6) (27, [(0, .ref 0)], [], am_H (am_gx g) I' A' J X) Q → am_Tri 110 350 B C u w (7, [(0, .ref 0)], [], am_H g I A J X) Q
    | .ok (T, tk, e, c) => ∃ (I' A' : Nat → Nat → Int32), am_Fr c_rd I A I' A' ∧ c_Tk I' A' T tk ∧ I' 9 9 = nI (b_sz c + 1) ∧ n_T (c_st A') true 1 (b_sz c + 1) 0 e c ∧ r_or (c_st A') (A' 18) (b_sz c + 1) 0 ((e, b_len c) :: b_pre c) ∧ ∀ (B C u w : Nat) (Q : aO → aH → Prop), u ≤ B → w ≤ C → am_Tri 110 350 B C u w (61, [(0, .ref 0)], [], am_H g I' A' J X) Q → am_Tri 110 350 B C u w (7, [(0, .ref 0)], [], am_H g I A J X) Q := by
  have hn := hx.2.1
  have hs := k_scn (g := g) (J := J) (X := X) hx
  unfold r_rd
  cases hsc : s_scan tx n with
  | error q =>
    rw [hsc] at hs
    obtain ⟨I1, A1, h1, h2, h3, h4⟩ := hs
    refine ⟨I1, A1, h1, h2, h3.mono (by decide), fun B C u w Q hu hw k => ?_⟩
    refine am_cav 9 (by decide) rfl h4 (by decide) hu hw ?_
    exact am_yea 9 (by decide) rfl (by decide) k
  | ok z =>
    rw [hsc] at hs
    obtain ⟨I1, A1, h3, hz, h4⟩ := hs
    have hFi := s_scan_Fi hn hsc
    obtain ⟨p, l, ws, bs, T, tk⟩ := z
    dsimp only at hFi ⊢
    have hTk : c_Tk I1 A1 T tk := hz.2.2.2.2.2.2.2.2.2.1
    have hp := k_prs (g := g) (J := J) (X := X) hFi hn hTk
    cases hst : d_st (d_mk T tk) (d_pc tk) 9 9 0 with
    | error q =>
      rw [hst] at hp
      obtain ⟨I2, A2, q1, q2, q3, q4⟩ := hp
      refine ⟨I2, A2, q1, q2, (h3.mono (by decide) : am_Fr (3 :: c_rd) _ _ _ _).trans q3, fun B C u w Q hu hw k => ?_⟩
      refine am_cav 9 (by decide) rfl h4 (by decide) (by omega) (by omega) ?_
      refine am_nay 9 (by decide) rfl (by decide) ?_
      refine am_cav 9 (by decide) rfl q4 (by decide) hu hw ?_
      exact am_nay 9 (by decide) rfl (by decide) k
    | ok a =>
      obtain ⟨e, c, p'⟩ := a
      rw [hst] at hp
      obtain ⟨I2, A2, q1, q2, q3, q4, q5, q6⟩ := hp
      refine ⟨I2, A2, (h3.mono (by decide) : am_Fr c_rd _ _ _ _).trans q1, q2, q3, q4, q5, fun B C u w Q hu hw k => ?_⟩
      refine am_cav 9 (by decide) rfl h4 (by decide) (by omega) (by omega) ?_
      refine am_nay 9 (by decide) rfl (by decide) ?_
      refine am_cav 9 (by decide) rfl q6 (by decide) (by omega) (by omega) ?_
      exact am_yea 9 (by decide) rfl (by decide) k
theorem c_T.fr {I' A' : Nat → Nat → Int32} (h : c_T tx n I A) (hf : am_Fr (3 :: c_rd) I A I' A') : c_T tx n I' A' := ⟨by rw [(hf 1 (by decide)).1]; exact h.1, h.2.1, by rw [(hf 2 (by decide)).2]; exact h.2.2.1, h.2.2.2⟩
theorem k_read (hx : c_T tx n I A) : match r_rd tx n with
    | .error q => ∃ (I' A' : Nat → Nat → Int32) (k : Nat), am_Fr (3 :: c_rd) I A I' A' ∧ I' 3 0 = q.1 ∧ I' 3 1 = nI q.2 ∧ I' 4 4 = nI 0 ∧ I' 9 9 = nI 0 ∧ I' 27 4 = nI 0 ∧ am_Con 350 110 [.ref 0] (am_H g I A J X) (.inr (102, k)) (am_H (am_gx (am_gx g)) I' A' J X) 2 12
    | .ok (T, tk, e, c) => ∃ (I' A' : Nat → Nat → Int32), am_Fr (3 :: c_rd) I A I' A' ∧ I' 3 0 = 0 ∧ I' 3 1 = -1 ∧ c_Tk I' A' T tk ∧ I' 9 9 = nI (b_sz c + 1) ∧ r_or (c_st A') (A' 18) (b_sz c + 1) 0 ((e, b_len c) :: b_pre c) ∧ c_Wr (w_m (d_mk T tk) (w_tt tx tk) c 1 0) I' A' ∧ am_Con 350 110 [.ref 0] (am_H g I A J X) (.inl (some (.int (nI T)))) (am_H g I' A' J X) 0 0 := by
  have hf0 : am_Fr [3] I A (am_u (am_u I 3 0 0) 3 1 (-1)) A := (am_Fr.put (by decide)).trans (am_Fr.put (by decide))
  have hx0 : c_T tx n (am_u (am_u I 3 0 0) 3 1 (-1)) A := hx.fr (hf0.mono (by decide))
  have ha := k_acc (g := g) (J := J) (X := X) hx0
  have hn := hx.2.1
  cases hr : r_rd tx n with
  | error q =>
    rw [hr] at ha
    obtain ⟨I1, A1, h1, h2, h3, h4⟩ := ha
    refine ⟨am_u (am_u (am_u I1 4 4 0) 9 9 0) 27 4 0, A1, (am_lay ++ am_gx g).length, ((hf0.mono (by decide)).trans h3).trans (((am_Fr.put (by decide)).trans (am_Fr.put (by decide))).trans (am_Fr.put (by decide))), ?_, ?_, ?_, ?_, ?_, am_met rfl rfl ?_⟩
    · simpa [am_u] using h1
    · simpa [am_u] using h2
    · simp [am_u]; rfl
    · simp [am_u]; rfl
    · simp [am_u]; rfl
    · refine am_can 9 (by decide) rfl t_forget (by decide) (by decide) (by decide) ?_
      refine h4 _ _ _ _ _ (by decide) (by decide) ?_
      refine am_thw 15 (by decide) rfl (by decide) (by decide) ⟨rfl, ?_⟩
      simp [am_gx, List.append_assoc]
  | ok a =>
    obtain ⟨T, tk, e, c⟩ := a
    rw [hr] at ha
    obtain ⟨I1, A1, h1, h2, h3, h4, h5, h6⟩ := ha
    have hFi : s_Fi tx n T tk ∧ ∃ p', d_st (d_mk T tk) (d_pc tk) 9 9 0 = .ok (e, c, p') := by
      unfold r_rd at hr
      split at hr
      · cases hr
      · next z hz =>
        split at hr
        · cases hr
        · next e1 c1 p1 hd =>
          cases hr
          exact ⟨s_scan_Fi hn hz, p1, hd⟩
    obtain ⟨hFi, p', hd⟩ := hFi
    obtain ⟨s1, s2, s3, s4, s5, s6⟩ := hFi.good hn hd
    have hx1 : c_T tx n I1 A1 := hx0.fr (h1.mono (by decide))
    have hVw : c_Vw tx n T tk (c_st A1) (b_sz c + 1) I1 A1 := ⟨hx1, h2, h3, by omega, fun f _ => rfl⟩
    obtain ⟨I2, A2, v, ⟨rfl, w1⟩, w2, w3⟩ := k_wwh (g := g) (J := J) (X := X) hFi.wV s1 s2 (show 0 < b_sz c + 1 by omega) (Nat.le_refl _) (by omega) h4.2 hVw (by omega)
    rw [List.nil_append] at w1
    have hVw2 := hVw.frame w2
    have e18 : A2 18 = A1 18 := (w2 18 (by decide)).2
    refine ⟨I2, A2, ((hf0.mono (by decide)).trans (h1.mono (by decide))).trans (w2.mono (by decide)), ?_, ?_, hVw2.2.1, hVw2.2.2.1, ?_, w1, am_met rfl rfl ?_⟩
    · rw [(w2 3 (by decide)).1, (h1 3 (by decide)).1]; simp [am_u]
    · rw [(w2 3 (by decide)).1, (h1 3 (by decide)).1]; simp [am_u]
    · rw [e18]
      exact r_or.ext8 (fun f hf => hVw2.2.2.2.2 f hf) h5
    · refine am_can 9 (by decide) rfl t_forget (by decide) (by decide) (by decide) ?_
      refine h6 _ _ _ _ _ (by decide) (by decide) ?_
      refine am_can 9 (by decide) rfl w3 (by decide) (by decide) (by decide) ?_
      refine am_end 9 (by decide) rfl trivial (by decide) (by decide) ⟨?_, rfl⟩
      rw [hVw2.2.1.1]
end CRD
