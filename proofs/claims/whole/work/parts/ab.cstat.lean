/-! THE CLASS WRITES: definitions, small statements, blocks -/
section CWD
variable {g : List aK} {J : Nat → Nat → Int64} {X : Nat × (Nat → Int32)} {I A : Nat → Nat → Int32} {L W : List Int32} {tx : Nat → Int32} {n T m : Nat} {tk : Nat → aT} {S : aN}
theorem k_dfn {D d r j t a b : Nat} {c : aB} (hV : w_V tx n T tk) (hB : ∀ r', r = r' + 1 → c_XB g J X tx n T tk S m D (d + 1) r') (hD : 24 ≤ D) (hd : d < 100) (hj : j < m) (hs1 : S 1 j = nI t) (ht : t < T) (hF : n_F S true c a b (S 4 j) j (S 5 j) (-1)) (hb : b ≤ m) (hc : b_sk (d_mk T tk) T c 3) (hdp : b_dp c ≤ r) (hsz : b_len c < 360) (h : c_Vw tx n T tk S m I A) (hw : c_Wr L I A) (hl : L.length + (w_tt tx tk t).length + 5 + (w_m (d_mk T tk) (w_tt tx tk) c 3 d).length ≤ 3120) : c_M c_wc (D + 1) 100 [.ref 27, .int (nI j), .int (nI d)] g I A J X (c_Wv ([100, 101, 102, 32] ++ (w_tt tx tk t ++ (40 :: w_m (d_mk T tk) (w_tt tx tk) c 3 d))) L none) (.ok ()) := by
  have loop : ∀ (s : aB) (b2 b i j0 : Nat) (y l : Int32) (L1 : List Int32) (I1 A1 : Nat → Nat → Int32), n_F S true s b2 b y j0 l (-1) → b ≤ m → b_sk (d_mk T tk) T s 3 → b_dp s ≤ r → i + b_len s < 361 → c_Vw tx n T tk S m I1 A1 → c_Wr L1 I1 A1 → L1.length + (w_m (d_mk T tk) (w_tt tx tk) s (if i = 0 then 3 else 4) d).length ≤ 3120 → c_D c_wc 100 (D + 1) g J X I1 A1 (29, [(4, .int (nI i)), (3, .int y), (0, .ref 27), (1, .int (nI j)), (2, .int (nI d))], [], am_H g I1 A1 J X) (c_Wv (w_m (d_mk T tk) (w_tt tx tk) s (if i = 0 then 3 else 4) d) L1 none) (.ok ()) := by
    intro s
    induction s with
    | leaf u =>
      intro b2 b i j0 y l L1 I1 A1 hF hbm hsk
      unfold b_sk at hsk
      omega
    | branch e c s ihc ihs =>
      intro b2 b i j0 y l L1 I1 A1 hF hbm hsk hdp hi h1 hw1 hl1
      obtain ⟨j3, a3, b3, g1, g2, g3, g4, g5, g6, g7, g8, g9, g10, g11⟩ := hF
      subst g6
      have hm3 := h1.2.2.2.1
      simp only [b_len] at hi
      simp only [b_dp] at hdp
      refine c_D.nay 9 (by omega) rfl (nI_ge (show i < 360 by omega) (by decide)) ?_
      refine c_D.cav (n := 9) (by omega) rfl (t_kindOf h1 (show j3 < m by omega)) (by omega) am_Fr.refl ?_
      rw [g9.1]
      unfold b_sk at hsk
      rcases hsk with ⟨z1, z2, z3, z4⟩ | ⟨z1, z2, z3, z4, z5⟩
      · rw [z1]
        refine c_D.nay 9 (by omega) rfl (by decide) ?_
        have rest : ∀ (L2 : List Int32) (I2 A2 : Nat → Nat → Int32), c_Vw tx n T tk S m I2 A2 → c_Wr L2 I2 A2 → L2.length + (w_tt tx tk (e / 32)).length + (w_m (d_mk T tk) (w_tt tx tk) s 4 d).length ≤ 3120 → c_D c_wc 100 (D + 1) g J X I2 A2 (61, [(4, .int (nI i)), (3, .int (nI j3)), (0, .ref 27), (1, .int (nI j)), (2, .int (nI d))], [], am_H g I2 A2 J X) (c_Wv (w_tt tx tk (e / 32) ++ w_m (d_mk T tk) (w_tt tx tk) s 4 d) L2 none) (.ok ()) := by
          intro L2 I2 A2 h2 hw2 hl2
          refine c_D.wr (n' := 9) (by omega) rfl (by omega) (k_pt h2 (show j3 < m by omega) (g9.2.1 (Or.inl rfl)) z2 (hV _ z2).1 hw2 (by omega)) (fun I3 A3 hw3 hf3 => ?_)
          have h3 := h2.frame hf3
          refine c_D.cav (n := 9) (by omega) rfl (t_next h3 (show j3 < m by omega)) (by omega) am_Fr.refl ?_
          refine c_D.pla 3 (by omega) rfl ?_
          rw [nI_1]
          have := ihs b3 b (i + 1) j0 (S 6 j3) l _ I3 A3 g11 hbm z4 (by omega) (by omega) h3 hw3 (by rw [if_neg (by omega)]; simp; omega)
          rw [if_neg (by omega)] at this
          refine this.mono ?_
          rintro a v I' A' - ⟨q1, q2⟩
          exact ⟨q1, by simpa [List.append_assoc] using q2⟩
        by_cases i0 : i = 0
        · subst i0
          simp only [if_true, w_m, if_pos z1] at hl1 ⊢
          simp only [List.length_append] at hl1
          refine c_D.yea 9 (by omega) rfl (by decide) ?_
          exact rest L1 I1 A1 h1 hw1 (by omega)
        · simp only [if_neg i0, w_m, if_pos z1] at hl1 ⊢
          simp only [List.length_append, List.length_cons, List.length_nil] at hl1
          refine c_D.nay 9 (by omega) rfl (nI_ge (a := 0) (by omega) (by omega)) ?_
          refine c_D.wr (n' := 9) (by omega) rfl (by omega) (k_pw (i := 20) (by decide) hw1 (by show L1.length + 2 ≤ 3120; omega)) (fun I2 A2 hw2 hf2 => ?_)
          refine (rest _ I2 A2 (h1.frame hf2) hw2 (by show (L1 ++ [44, 32]).length + _ + _ ≤ _; simp; omega)).mono ?_
          rintro a v I' A' - ⟨q1, q2⟩
          refine ⟨q1, ?_⟩
          have e2 : w_ch 20 (am_sl.getD 20 0) 0 = [44, 32] := rfl
          rw [e2] at q2
          simpa [List.append_assoc] using q2
      · rw [z1]
        rw [if_pos z1] at hdp
        obtain ⟨r', rfl⟩ : ∃ r', r = r' + 1 := ⟨r - 1, by omega⟩
        have hwm : w_m (d_mk T tk) (w_tt tx tk) (.branch e c s) (if i = 0 then 3 else 4) d = [41, 58, 10] ++ w_m (d_mk T tk) (w_tt tx tk) c 1 (d + 1) := by
          by_cases i0 : i = 0
          · simp only [if_pos i0, w_m]
            rw [if_neg (by omega)]
          · simp only [if_neg i0, w_m]
            rw [if_neg (by omega)]
        rw [hwm] at hl1 ⊢
        simp only [List.length_append, List.length_cons, List.length_nil] at hl1
        refine c_D.yea 9 (by omega) rfl (by decide) ?_
        refine c_D.wr (n' := 9) (by omega) rfl (by omega) (k_pw (i := 24) (by decide) hw1 (by show _ + 3 ≤ 3120; omega)) (fun I3 A3 hw3 hf3 => ?_)
        refine c_D.wr (n' := 9) (by omega) rfl (Nat.le_refl _) (by rw [nI_1]; exact hB r' rfl c j3 a3 b3 _ I3 A3 z4 (by omega) (by omega) (by omega) (by omega) g10 (h1.frame hf3) hw3 (by show (L1 ++ [41, 58, 10]).length + _ ≤ _; simp; omega)) (fun I4 A4 hw4 hf4 => ?_)
        refine c_D.ret 9 (by omega) rfl trivial ⟨rfl, ?_⟩
        have e2 : w_ch 24 (am_sl.getD 24 0) 0 = [41, 58, 10] := rfl
        rw [e2] at hw4
        simpa [List.append_assoc] using hw4
  refine c_D.met rfl rfl ?_
  refine c_D.wr (n' := 9) (by omega) rfl (by omega) (k_pw (i := 23) (by decide) hw (by show _ + 4 ≤ 3120; omega)) (fun I1 A1 hw1 hf1 => ?_)
  have h1 := h.frame hf1
  have e2 : w_ch 23 (am_sl.getD 23 0) 0 = [100, 101, 102, 32] := rfl
  rw [e2] at hw1
  refine c_D.wr (n' := 9) (by omega) rfl (by omega) (k_pt h1 hj hs1 ht (hV _ ht).1 hw1 (by simp; omega)) (fun I2 A2 hw2 hf2 => ?_)
  have h2 := h1.frame hf2
  refine c_D.put (n := 9) (by omega) rfl hw2 (by simp; omega) (by decide) (fun I3 A3 hw3 hf3 => ?_)
  have h3 := h2.frame hf3
  refine c_D.cav (n := 9) (by omega) rfl (t_firstOf h3 hj) (by omega) am_Fr.refl ?_
  refine c_D.pla 3 (by omega) rfl ?_
  refine (loop c a b 0 j (S 4 j) (S 5 j) _ I3 A3 hF hb hc hdp (by omega) h3 hw3 (by simp; omega)).mono ?_
  rintro a v I' A' - ⟨q1, q2⟩
  exact ⟨q1, by simpa [List.append_assoc] using q2⟩
theorem k_sml {j e a b : Nat} {c : aB} (hV : w_V tx n T tk) (hj : j < m) (hn : n_N S true j e c) (ht : e / 32 < T) (hF : n_F S true c a b (S 4 j) j (S 5 j) (-1)) (hb : b ≤ m) (hk : e % 32 < 6) (hc : c = b_0 ∨ b_x (d_mk T tk) T c) (h : c_Vw tx n T tk S m I A) (hw : c_Wr L I A) (hl : L.length + (w_sm (d_mk T tk) (w_tt tx tk) e c).length ≤ 3120) : c_M c_wc 25 101 [.ref 27, .int (nI j)] g I A J X (c_Wv (w_sm (d_mk T tk) (w_tt tx tk) e c) L none) (.ok ()) := by
  have hm := h.2.2.2.1
  -- from the expression on
  have tail : ∀ (L2 : List Int32) (I2 A2 : Nat → Nat → Int32) (v : Int32), c_Vw tx n T tk S m I2 A2 → c_Wr L2 I2 A2 → L2.length + (w_x (d_mk T tk) (w_tt tx tk) c).length + 1 ≤ 3120 → c_D c_wc 101 25 g J X I2 A2 (55, [(3, .int (S 4 j)), (2, .int v), (0, .ref 27), (1, .int (nI j))], [], am_H g I2 A2 J X) (c_Wv (w_x (d_mk T tk) (w_tt tx tk) c ++ [10]) L2 none) (.ok ()) := by
    intro L2 I2 A2 v h2 hw2 hl2
    rcases hc with rfl | ⟨e1, c1, rfl, q1, q2, q3, q4⟩
    · have h4 : S 4 j = -1 := hF
      rw [h4]
      refine c_D.yea 9 (by decide) rfl rfl ?_
      refine c_D.put (n := 9) (by decide) rfl hw2 (by omega) (by decide) (fun I3 A3 hw3 hf3 => ?_)
      exact c_D.ret 9 (by decide) rfl trivial ⟨rfl, by simpa [w_x] using hw3⟩
    · obtain ⟨j1, a1, b1, g1, g2, g3, g4, g5, g6, g7, g8, g9, g10, g11⟩ := hF
      rw [g6]
      simp only [w_x] at hl2 ⊢
      refine c_D.nay 9 (by decide) rfl (nI_m1 (by omega)) ?_
      refine c_D.wr (n' := 9) (by decide) rfl (by decide) (k_ex hV 9 1 (by decide) e1 c1 j1 a1 b1 _ I2 A2 (by omega) q1 q2 q3 (by omega) (by omega) g9 g10 h2 hw2 (by omega)) (fun I3 A3 hw3 hf3 => ?_)
      refine c_D.put (n := 9) (by decide) rfl hw3 (by simp; omega) (by decide) (fun I4 A4 hw4 hf4 => ?_)
      exact c_D.ret 9 (by decide) rfl trivial ⟨rfl, by simpa [List.append_assoc] using hw4⟩
  have hx : (S 4 j = -1 ↔ b_len c = 0) := by
    rcases hc with rfl | ⟨e1, c1, rfl, q1, q2, q3, q4⟩
    · exact ⟨fun _ => rfl, fun _ => hF⟩
    · obtain ⟨j1, a1, b1, g1, g2, g3, g4, g5, g6, g7, g8, g9, g10, g11⟩ := hF
      exact ⟨fun z => absurd (g6.symm.trans z) (nI_m1 (by omega)), fun z => by simp [b_len] at z⟩
  -- RETURN
  have ret : ∀ (L2 : List Int32) (I2 A2 : Nat → Nat → Int32), c_Vw tx n T tk S m I2 A2 → c_Wr L2 I2 A2 → L2.length + ((if e % 32 = 3 ∧ b_len c ≠ 0 then [32] else []) ++ (w_x (d_mk T tk) (w_tt tx tk) c ++ [10])).length ≤ 3120 → c_D c_wc 101 25 g J X I2 A2 (39, [(3, .int (S 4 j)), (2, .int (nI (e % 32))), (0, .ref 27), (1, .int (nI j))], [], am_H g I2 A2 J X) (c_Wv ((if e % 32 = 3 ∧ b_len c ≠ 0 then [32] else []) ++ (w_x (d_mk T tk) (w_tt tx tk) c ++ [10])) L2 none) (.ok ()) := by
    intro L2 I2 A2 h2 hw2 hl2
    by_cases k3 : e % 32 = 3
    · refine c_D.nay 9 (by decide) rfl (by rw [k3]; decide) ?_
      by_cases hx0 : b_len c = 0
      · rw [if_neg (by omega)] at hl2 ⊢
        refine c_D.yea 9 (by decide) rfl (hx.mpr hx0) ?_
        exact tail L2 I2 A2 _ h2 hw2 (by simp at hl2; omega)
      · rw [if_pos ⟨k3, hx0⟩] at hl2 ⊢
        refine c_D.nay 9 (by decide) rfl (fun z => hx0 (hx.mp z)) ?_
        refine c_D.put (n := 9) (by decide) rfl hw2 (by simp at hl2; omega) (by decide) (fun I3 A3 hw3 hf3 => ?_)
        refine (tail _ I3 A3 _ (h2.frame hf3) hw3 (by simp at hl2 ⊢; omega)).mono ?_
        rintro a v I' A' - ⟨q1, q2⟩
        exact ⟨q1, by simpa [List.append_assoc] using q2⟩
    · rw [if_neg (by omega)] at hl2 ⊢
      refine c_D.yea 9 (by decide) rfl (nI_nv (b := 3) (by omega) (by decide) k3) ?_
      exact tail L2 I2 A2 _ h2 hw2 (by simp at hl2; omega)
  unfold w_sm at hl ⊢
  refine c_D.met rfl rfl ?_
  refine c_D.cav (n := 9) (by decide) rfl (t_kindOf h hj) (by decide) am_Fr.refl ?_
  rw [hn.1]
  refine c_D.cav (n := 9) (by decide) rfl (t_firstOf h hj) (by decide) am_Fr.refl ?_
  by_cases k5 : e % 32 = 5
  · rw [if_pos k5, if_neg (show ¬ e % 32 = 4 by omega)] at hl ⊢
    refine c_D.yea 9 (by decide) rfl (by rw [k5]; decide) ?_
    refine c_D.yea 9 (by decide) rfl (by rw [k5]; decide) ?_
    exact ret L I A h hw (by simpa using hl)
  · rw [if_neg k5] at hl ⊢
    refine c_D.nay 9 (by decide) rfl (nI_nv (b := 5) (by omega) (by decide) k5) ?_
    refine c_D.wr (n' := 9) (by decide) rfl (by decide) (k_pt h hj (hn.2.1 (Or.inl rfl)) ht (hV _ ht).1 hw (by simp at hl; omega)) (fun I1 A1 hw1 hf1 => ?_)
    have h1 := h.frame hf1
    by_cases k4 : e % 32 = 4
    · rw [if_pos k4] at hl ⊢
      refine c_D.nay 9 (by decide) rfl (by rw [k4]; decide) ?_
      refine c_D.wr (n' := 9) (by decide) rfl (by decide) (k_pw (i := 25) (by decide) hw1 (by show _ + 3 ≤ 3120; simp at hl ⊢; omega)) (fun I2 A2 hw2 hf2 => ?_)
      have e2 : w_ch 25 (am_sl.getD 25 0) 0 = [32, 61, 32] := rfl
      rw [e2] at hw2
      refine (ret _ I2 A2 (h1.frame hf2) hw2 (by simp at hl ⊢; omega)).mono ?_
      rintro a v I' A' - ⟨q1, q2⟩
      exact ⟨q1, by simpa [List.append_assoc] using q2⟩
    · rw [if_neg k4] at hl ⊢
      refine c_D.yea 9 (by decide) rfl (nI_nv (b := 4) (by omega) (by decide) k4) ?_
      refine (ret _ I1 A1 h1 hw1 (by simp at hl ⊢; omega)).mono ?_
      rintro a v I' A' - ⟨q1, q2⟩
      exact ⟨q1, by simpa [List.append_assoc] using q2⟩
end CWD
