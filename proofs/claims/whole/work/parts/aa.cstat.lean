/-! THE CLASS WRITES: statements -/
section CWS
variable {g : List aK} {J : Nat → Nat → Int64} {X : Nat × (Nat → Int32)} {I A : Nat → Nat → Int32} {L W : List Int32} {tx : Nat → Int32} {n T m : Nat} {tk : Nat → aT} {S : aN}
/-- what is known of the blocks that lie less deep -/
def c_XB (g : List aK) (J : Nat → Nat → Int64) (X : Nat × (Nat → Int32)) (tx : Nat → Int32) (n T : Nat) (tk : Nat → aT) (S : aN) (m D d r : Nat) : Prop := ∀ (c : aB) (j a b : Nat) (L : List Int32) (I A : Nat → Nat → Int32), b_sk (d_mk T tk) T c 1 → b_dp c ≤ r → j < m → b ≤ m → a ≤ b → n_F S true c a b (S 4 j) j (S 5 j) (-1) → c_Vw tx n T tk S m I A → c_Wr L I A → L.length + (w_m (d_mk T tk) (w_tt tx tk) c 1 d).length ≤ 3120 → c_M c_wc D 96 [.ref 27, .int (nI j), .int (nI d)] g I A J X (c_Wv (w_m (d_mk T tk) (w_tt tx tk) c 1 d) L none) (.ok ())
theorem k_cond {D d r j j1 j2 t e1 a1 b1 a2 b2 : Nat} {c1 c2 : aB} (hV : w_V tx n T tk) (hB : c_XB g J X tx n T tk S m D (d + 1) r) (hD : 24 ≤ D) (hd : d < 100) (hj : j < m) (hs1 : S 1 j = nI t) (ht : t < T) (h4 : S 4 j = nI j1) (hj1 : j1 < m) (h6 : S 6 j1 = nI j2) (hj2 : j2 < m) (hn1 : n_N S true j1 e1 c1) (hF1 : n_F S true c1 a1 b1 (S 4 j1) j1 (S 5 j1) (-1)) (hb1 : b1 ≤ m) (hsh : b_sh (d_mk T tk) e1 c1) (ht1 : e1 / 32 < T) (hok : b_ok (d_mk T tk) T c1) (hht : b_ht c1 + 1 ≤ 10) (hF2 : n_F S true c2 a2 b2 (S 4 j2) j2 (S 5 j2) (-1)) (hb2 : b2 ≤ m) (hab2 : a2 ≤ b2) (hsk : b_sk (d_mk T tk) T c2 1) (hdp : b_dp c2 ≤ r) (h : c_Vw tx n T tk S m I A) (hw : c_Wr L I A) (hl : L.length + (w_tt tx tk t).length + (w_e (d_mk T tk) (w_tt tx tk) e1 c1).length + (w_m (d_mk T tk) (w_tt tx tk) c2 1 (d + 1)).length + 3 ≤ 3120) : c_M c_wc (D + 1) 99 [.ref 27, .int (nI j), .int (nI d)] g I A J X (c_Wv (w_tt tx tk t ++ (32 :: (w_e (d_mk T tk) (w_tt tx tk) e1 c1 ++ ([58, 10] ++ w_m (d_mk T tk) (w_tt tx tk) c2 1 (d + 1))))) L (some (.int (S 6 j2)))) (.ok ()) := by
  refine c_D.met rfl rfl ?_
  refine c_D.cav (n := 9) (by omega) rfl (t_firstOf h hj) (by omega) am_Fr.refl ?_
  rw [h4]
  refine c_D.cav (n := 9) (by omega) rfl (t_next h hj1) (by omega) am_Fr.refl ?_
  rw [h6]
  refine c_D.wr (n' := 9) (by omega) rfl (by omega) (k_pt h hj hs1 ht (hV t ht).1 hw (by omega)) (fun I1 A1 hw1 hf1 => ?_)
  have h1 := h.frame hf1
  refine c_D.put (n := 9) (by omega) rfl hw1 (by simp; omega) (by decide) (fun I2 A2 hw2 hf2 => ?_)
  have h2 := h1.frame hf2
  refine c_D.wr (n' := 9) (by omega) rfl (by omega) (k_ex hV 9 1 (by decide) e1 c1 j1 a1 b1 _ I2 A2 (by omega) hsh ht1 hok hj1 hb1 hn1 hF1 h2 hw2 (by simp; omega)) (fun I3 A3 hw3 hf3 => ?_)
  have h3 := h2.frame hf3
  refine c_D.wr (n' := 9) (by omega) rfl (by omega) (k_pw (i := 21) (by decide) hw3 (by show _ + 2 ≤ 3120; simp; omega)) (fun I4 A4 hw4 hf4 => ?_)
  have h4 := h3.frame hf4
  refine c_D.wr (n' := 9) (by omega) rfl (Nat.le_refl _) (by rw [nI_1]; exact hB c2 j2 a2 b2 _ I4 A4 hsk hdp hj2 hb2 hab2 hF2 h4 hw4 (by show ((((L ++ w_tt tx tk t) ++ [32]) ++ _) ++ [58, 10]).length + _ ≤ _; simp; omega)) (fun I5 A5 hw5 hf5 => ?_)
  have h5 := h4.frame hf5
  refine c_D.cav (n := 9) (by omega) rfl (t_next h5 hj2) (by omega) am_Fr.refl ?_
  refine c_D.ret 9 (by omega) rfl trivial ⟨rfl, ?_⟩
  have e2 : w_ch 21 (am_sl.getD 21 0) 0 = [58, 10] := rfl
  rw [e2] at hw5
  simpa [List.append_assoc] using hw5
/-- what is known of a node with condition, block and more -/
def c_cb (mk : Nat → Int32) (T r : Nat) (c : aB) : Prop := ∃ e1 c1 e2 c2 s, c = .branch e1 c1 (.branch e2 c2 s) ∧ b_sh mk e1 c1 ∧ e1 / 32 < T ∧ b_ok mk T c1 ∧ b_ht c1 + 1 ≤ 10 ∧ e2 % 32 = 9 ∧ b_sk mk T c2 1 ∧ b_dp c2 + 1 ≤ r ∧ (s = b_0 ∨ b_sk mk T s 7) ∧ b_dp s ≤ r
theorem b_sk_cb {mk : Nat → Int32} {r : Nat} {c : aB} {k : Nat} (hk : k = 2 ∨ k = 4) (h : b_sk mk T c k) (hr : b_dp c ≤ r) : c_cb mk T r c := by
  cases c with
  | leaf u => rcases hk with rfl | rfl <;> (unfold b_sk at h; simp at h)
  | branch e1 c1 s1 =>
    rcases hk with rfl | rfl
    · unfold b_sk at h
      obtain ⟨q1, q2, q3, q4, q5⟩ := h
      cases s1 with
      | leaf u => unfold b_sk at q5; simp at q5
      | branch e2 c2 s =>
        unfold b_sk at q5
        simp only [b_dp, if_pos q5.1] at hr
        exact ⟨e1, c1, e2, c2, s, rfl, q1, q2, q3, q4, q5.1, q5.2.2.2.1, by omega, q5.2.2.2.2, by omega⟩
    · unfold b_sk at h
      obtain ⟨q1, q2, q3, q4, q5⟩ := h
      cases s1 with
      | leaf u => unfold b_sk at q5; simp at q5
      | branch e2 c2 s =>
        unfold b_sk at q5
        simp only [b_dp, if_pos q5.1] at hr
        exact ⟨e1, c1, e2, c2, s, rfl, q1, q2, q3, q4, q5.1, q5.2.2.2.1, by omega, Or.inl q5.2.2.2.2, by omega⟩
/-- the same from the store -/
theorem k_cond1 {D d r j t a b : Nat} {c : aB} (hV : w_V tx n T tk) (hB : ∀ r', r = r' + 1 → c_XB g J X tx n T tk S m D (d + 1) r') (hD : 24 ≤ D) (hd : d < 100) (hj : j < m) (hs1 : S 1 j = nI t) (ht : t < T) (hF : n_F S true c a b (S 4 j) j (S 5 j) (-1)) (hb : b ≤ m) (hc : c_cb (d_mk T tk) T r c) (h : c_Vw tx n T tk S m I A) (hw : c_Wr L I A) (hl : L.length + (w_tt tx tk t).length + 1 + (w_m (d_mk T tk) (w_tt tx tk) c 2 d).length ≤ 3120) : ∃ (s : aB) (W : List Int32) (b2 : Nat) (y : Int32), w_tt tx tk t ++ (32 :: w_m (d_mk T tk) (w_tt tx tk) c 2 d) = W ++ w_m (d_mk T tk) (w_tt tx tk) s 7 d ∧ b_sz s < b_sz c ∧ n_F S true s b2 b y j (S 5 j) (-1) ∧ b2 ≤ b ∧ (s = b_0 ∨ b_sk (d_mk T tk) T s 7) ∧ b_dp s ≤ r ∧ c_M c_wc (D + 1) 99 [.ref 27, .int (nI j), .int (nI d)] g I A J X (c_Wv W L (some (.int y))) (.ok ()) := by
  obtain ⟨e1, c1, e2, c2, s, rfl, q1, q2, q3, q4, q5, q6, q7, q8, q9⟩ := hc
  obtain ⟨j1, a1, b1, g1, g2, g3, g4, g5, g6, g7, g8, g9, g10, j2, a2, b2, p1, p2, p3, p4, p5, p6, p7, p8, p9, p10, p11⟩ := hF
  have hm : w_m (d_mk T tk) (w_tt tx tk) (.branch e1 c1 (.branch e2 c2 s)) 2 d = w_e (d_mk T tk) (w_tt tx tk) e1 c1 ++ ([58, 10] ++ (w_m (d_mk T tk) (w_tt tx tk) c2 1 (d + 1) ++ w_m (d_mk T tk) (w_tt tx tk) s 7 d)) := by simp only [w_m]
  rw [hm] at hl ⊢
  simp only [List.length_append, List.length_cons, List.length_nil] at hl
  obtain ⟨r', rfl⟩ : ∃ r', r = r' + 1 := ⟨r - 1, by omega⟩
  refine ⟨s, w_tt tx tk t ++ (32 :: (w_e (d_mk T tk) (w_tt tx tk) e1 c1 ++ ([58, 10] ++ w_m (d_mk T tk) (w_tt tx tk) c2 1 (d + 1)))), b2, S 6 j2, by simp [List.append_assoc], by simp only [b_sz]; omega, p11, by omega, q8, q9, ?_⟩
  exact k_cond hV (hB r' rfl) hD hd hj hs1 ht g6 (by omega) p6 (by omega) g9 g10 (by omega) q1 q2 q3 q4 p10 (by omega) (by omega) q6 (by omega) h hw (by omega)
theorem k_bran {D d r j t a b : Nat} {c : aB} (hV : w_V tx n T tk) (hB : ∀ r', r = r' + 1 → c_XB g J X tx n T tk S m D (d + 1) r') (hD : 24 ≤ D) (hd : d < 100) (hj : j < m) (hs1 : S 1 j = nI t) (ht : t < T) (hF : n_F S true c a b (S 4 j) j (S 5 j) (-1)) (hb : b ≤ m) (hc : c_cb (d_mk T tk) T r c) (hsz : b_sz c < 359) (h : c_Vw tx n T tk S m I A) (hw : c_Wr L I A) (hl : L.length + (w_tt tx tk t).length + 1 + (w_m (d_mk T tk) (w_tt tx tk) c 2 d).length ≤ 3120) : c_M c_wc (D + 2) 98 [.ref 27, .int (nI j), .int (nI d)] g I A J X (c_Wv (w_tt tx tk t ++ (32 :: w_m (d_mk T tk) (w_tt tx tk) c 2 d)) L none) (.ok ()) := by
  have lf : ∀ (i : Nat) (L1 : List Int32) (I1 A1 : Nat → Nat → Int32), i < 360 → c_Wr L1 I1 A1 → c_D c_wc 98 (D + 2) g J X I1 A1 (10, [(4, .int (nI i)), (3, .int (-1)), (0, .ref 27), (1, .int (nI j)), (2, .int (nI d))], [], am_H g I1 A1 J X) (c_Wv [] L1 none) (.ok ()) := by
    intro i L1 I1 A1 hi hw1
    refine c_D.nay 9 (by omega) rfl (nI_ge hi (by decide)) ?_
    refine c_D.yea 9 (by omega) rfl rfl ?_
    exact c_D.ret 9 (by omega) rfl trivial ⟨rfl, by simpa using hw1⟩
  have loop : ∀ (f : Nat) (s : aB) (b2 b i j0 : Nat) (y l : Int32) (L1 : List Int32) (I1 A1 : Nat → Nat → Int32), b_sz s ≤ f → n_F S true s b2 b y j0 l (-1) → b ≤ m → (s = b_0 ∨ b_sk (d_mk T tk) T s 7) → b_dp s ≤ r → i + b_sz s < 360 → c_Vw tx n T tk S m I1 A1 → c_Wr L1 I1 A1 → L1.length + (w_m (d_mk T tk) (w_tt tx tk) s 7 d).length ≤ 3120 → c_D c_wc 98 (D + 2) g J X I1 A1 (10, [(4, .int (nI i)), (3, .int y), (0, .ref 27), (1, .int (nI j)), (2, .int (nI d))], [], am_H g I1 A1 J X) (c_Wv (w_m (d_mk T tk) (w_tt tx tk) s 7 d) L1 none) (.ok ()) := by
    intro f
    induction f with
    | zero =>
      intro s b2 b i j0 y l L1 I1 A1 hsz hF hbm hsk hdp hi h1 hw1 hl1
      cases s with
      | leaf u =>
        have hy : y = -1 := hF
        subst hy
        exact lf i L1 I1 A1 (by omega) hw1
      | branch e3 c3 s3 => simp [b_sz] at hsz
    | succ f ih =>
      intro s b2 b i j0 y l L1 I1 A1 hsz hF hbm hsk hdp hi h1 hw1 hl1
      cases s with
      | leaf u =>
        have hy : y = -1 := hF
        subst hy
        exact lf i L1 I1 A1 (by omega) hw1
      | branch e3 c3 s3 =>
        have hsk := hsk.resolve_left (by simp)
        unfold b_sk at hsk
        obtain ⟨hs3, hsk⟩ := hsk
        obtain ⟨j3, a3, b3, g1, g2, g3, g4, g5, g6, g7, g8, g9, g10, g11⟩ := hF
        subst g6
        have hm3 := h1.2.2.2.1
        simp only [b_sz] at hsz hi
        simp only [b_dp] at hdp
        simp only [w_m, List.length_append, w_id_len] at hl1
        refine c_D.nay 9 (by omega) rfl (nI_ge (show i < 360 by omega) (by decide)) ?_
        refine c_D.nay 9 (by omega) rfl (nI_m1 (by omega)) ?_
        refine c_D.wr (n' := 9) (by omega) rfl (by omega) (k_bgl (d := d) (by omega) hw1 (by omega)) (fun I2 A2 hw2 hf2 => ?_)
        have h2 := h1.frame hf2
        refine c_D.cav (n := 9) (by omega) rfl (t_kindOf h2 (show j3 < m by omega)) (by omega) am_Fr.refl ?_
        rw [g9.1]
        rcases hsk with ⟨z1, z2, z3, z4⟩ | ⟨z1, z2, z3, z4⟩
        · rw [z1]
          rw [if_pos z1] at hl1
          simp only [List.length_append, List.length_cons] at hl1
          refine c_D.nay 9 (by omega) rfl (by decide) ?_
          have hcb := b_sk_cb (r := r) (Or.inl rfl) z4 (by omega)
          obtain ⟨s', W, b2', y', k1, k2, k3, k4, k5, k6, k7⟩ := k_cond1 (L := L1 ++ w_id d) hV hB hD hd (show j3 < m by omega) (g9.2.1 (Or.inl rfl)) z3 g10 (by omega) hcb h2 hw2 (by simp [w_id_len]; omega)
          have kl := congrArg List.length k1
          simp only [List.length_append, List.length_cons] at kl
          refine c_D.wv (n' := 9) (by omega) rfl (by omega) k7 (fun I3 A3 hw3 hf3 => ?_)
          refine c_D.pla 4 (by omega) rfl ?_
          rw [nI_1]
          refine (ih s' b2' b3 (i + 1) j3 y' (S 5 j3) _ I3 A3 (by omega) k3 (by omega) k5 k6 (by omega) (h2.frame hf3) hw3 (by simp [w_id_len]; omega)).mono ?_
          rintro a v I' A' - ⟨q1, q2⟩
          refine ⟨q1, ?_⟩
          simp only [w_m]
          rw [if_pos z1, k1]
          simpa [List.append_assoc] using q2
        · rw [z1]
          rw [if_neg (by omega)] at hl1
          simp only [List.length_append, List.length_cons, List.length_nil] at hl1
          rw [if_pos z1] at hdp
          obtain ⟨r', rfl⟩ : ∃ r', r = r' + 1 := ⟨r - 1, by omega⟩
          refine c_D.yea 9 (by omega) rfl (by decide) ?_
          refine c_D.wr (n' := 9) (by omega) rfl (by omega) (k_pw (i := 22) (by decide) hw2 (by show _ + 6 ≤ 3120; simp [w_id_len]; omega)) (fun I3 A3 hw3 hf3 => ?_)
          refine c_D.wr (n' := 9) (by omega) rfl (show D + 1 ≤ D + 2 by omega) (by rw [nI_1]; exact hB r' rfl c3 j3 a3 b3 _ I3 A3 z4 (by omega) (by omega) (by omega) (by omega) g10 (h2.frame hf3) hw3 (by show ((L1 ++ w_id d) ++ [101, 108, 115, 101, 58, 10]).length + _ ≤ _; simp [w_id_len]; omega)) (fun I4 A4 hw4 hf4 => ?_)
          refine c_D.pla 4 (by omega) rfl ?_
          rw [nI_1]
          refine (lf (i + 1) _ I4 A4 (by omega) hw4).mono ?_
          rintro a v I' A' - ⟨q1, q2⟩
          refine ⟨q1, ?_⟩
          simp only [w_m]
          rw [if_neg (by omega)]
          have e2 : w_ch 22 (am_sl.getD 22 0) 0 = [101, 108, 115, 101, 58, 10] := rfl
          rw [e2] at q2
          simpa [List.append_assoc] using q2
  obtain ⟨s', W, b2', y', k1, k2, k3, k4, k5, k6, k7⟩ := k_cond1 (L := L) hV hB hD hd hj hs1 ht hF hb hc h hw hl
  have kl := congrArg List.length k1
  simp only [List.length_append, List.length_cons] at kl
  refine c_D.met rfl rfl ?_
  refine c_D.wv (n' := 9) (by omega) rfl (by omega) k7 (fun I3 A3 hw3 hf3 => ?_)
  refine c_D.pla 3 (by omega) rfl ?_
  refine (loop (b_sz s') s' b2' b 0 j y' (S 5 j) _ I3 A3 (Nat.le_refl _) k3 hb k5 k6 (by omega) (h.frame hf3) hw3 (by simp; omega)).mono ?_
  rintro a v I' A' - ⟨q1, q2⟩
  refine ⟨q1, ?_⟩
  rw [k1]
  simpa [List.append_assoc] using q2
end CWS
