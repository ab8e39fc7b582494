/-! THE CLASS WRITES: one expression -/
/-- the tokens' texts are as their marks say -/
def w_V (tx : Nat → Int32) (n T : Nat) (tk : Nat → aT) : Prop := ∀ k, k < T → (tk k).2.2.1 + (tk k).2.2.2 ≤ n ∧ (d_mk T tk k = 21 → w_tt tx tk k = [110, 111, 116]) ∧ (d_mk T tk k = 45 → w_tt tx tk k = [45])
section WBF
variable {wt : Nat → List Int32} {e n i : Nat}
theorem w_bf_2 (h : e % 32 = 11 ∨ e % 32 = 12 ∨ e % 32 = 14 ∨ e % 32 = 15) : w_bf wt e n i = if i = 1 then 32 :: (wt (e / 32) ++ [32]) else [] := by
  unfold w_bf
  rw [if_neg (by omega), if_neg (by omega), if_neg (by omega), if_neg (by omega), if_neg (by omega), if_neg (by omega), if_neg (by omega)]
theorem w_bf_13 (h : e % 32 = 13) : w_bf wt e n i = if i ≠ n then wt (e / 32) ++ [32] else [] := by
  unfold w_bf
  rw [if_neg (by omega), if_neg (by omega), if_neg (by omega), if_neg (by omega), if_pos h]
theorem w_bf_16 (h : e % 32 = 16) : w_bf wt e n i = if i ≠ n then wt (e / 32) else [] := by
  unfold w_bf
  rw [if_neg (by omega), if_neg (by omega), if_neg (by omega), if_neg (by omega), if_neg (by omega), if_pos h]
theorem w_bf_17 (h : e % 32 = 17) : w_bf wt e n i = (if i = 1 then [40] else []) ++ ((if 1 < i ∧ i ≠ n then [44, 32] else []) ++ (if i = n then [41] else [])) := by
  unfold w_bf
  rw [if_neg (by omega), if_pos h]
theorem w_bf_18 (h : e % 32 = 18) : w_bf wt e n i = if 0 < i then (if i = n then [93] else [91]) else [] := by
  unfold w_bf
  rw [if_neg (by omega), if_neg (by omega), if_pos h]
theorem w_bf_19 (h : e % 32 = 19) : w_bf wt e n i = if i = n then 46 :: wt (e / 32) else [] := by
  unfold w_bf
  rw [if_neg (by omega), if_neg (by omega), if_neg (by omega), if_pos h]
theorem w_bf_20 (h : e % 32 = 20 ∨ e % 32 = 21 ∨ e % 32 = 22) : w_bf wt e n i = wt (e / 32) := by
  unfold w_bf
  rw [if_neg (by omega), if_neg (by omega), if_neg (by omega), if_neg (by omega), if_neg (by omega), if_neg (by omega), if_pos (by omega)]
end WBF
section CWX
variable {g : List aK} {J : Nat → Nat → Int64} {X : Nat × (Nat → Int32)} {I A : Nat → Nat → Int32} {L W : List Int32} {tx : Nat → Int32} {n T m : Nat} {tk : Nat → aT} {S : aN}
/-- a part, in its brackets -/
def w_pt (mk : Nat → Int32) (wt : Nat → List Int32) (e e1 i : Nat) (c1 : aB) : List Int32 := (if w_in mk e e1 i then [40] else []) ++ (w_e mk wt e1 c1 ++ (if w_in mk e e1 i then [41] else []))
theorem k_pa {D lv r j j1 e e1 i a b : Nat} {c c1 : aB} (hE : c_XE g J X tx n T tk S m D (lv + 1) r) (hD : 6 ≤ D) (hlv : lv < 100) (h : c_Vw tx n T tk S m I A) (hj : j < m) (hn : n_N S true j e c) (ht : e / 32 < T) (hj1 : j1 < m) (hn1 : n_N S true j1 e1 c1) (ht1 : e1 / 32 < T) (hu : (S 4 j = nI j1) ↔ i = 0) (hk : e % 32 ≠ 23 ∧ (e % 32 = 18 → i = 0) ∧ (e % 32 = 17 → i = 0)) (h37 : w_sg (d_mk T tk) e = 3 ∨ w_sg (d_mk T tk) e = 7 → i = 0) (hht : b_ht c1 ≤ r) (hsh : b_sh (d_mk T tk) e1 c1) (hok : b_ok (d_mk T tk) T c1) (hb : b ≤ m) (hF : n_F S true c1 a b (S 4 j1) j1 (S 5 j1) (-1)) (hw : c_Wr L I A) (hl : L.length + (w_pt (d_mk T tk) (w_tt tx tk) e e1 i c1).length ≤ 3120) : c_M c_wc (D + 1) 104 [.ref 27, .int (nI j), .int (nI j1), .int (nI lv)] g I A J X (c_Wv (w_pt (d_mk T tk) (w_tt tx tk) e e1 i c1) L none) (.ok ()) := by
  have hT := h.2.1.2.1
  refine c_D.met rfl rfl ?_
  refine c_D.cav (n := 9) (by omega) rfl (k_nb h hj hn (by omega) hj1 hn1 (by omega) hu hk h37) (by omega) am_Fr.refl ?_
  unfold w_pt at hl ⊢
  cases hwin : w_in (d_mk T tk) e e1 i with
  | false =>
    rw [hwin] at hl
    refine c_D.yea 9 (by omega) rfl rfl ?_
    refine c_D.wr (n' := 9) (by omega) rfl (Nat.le_refl _) (by rw [nI_1]; exact hE e1 c1 j1 a b L I A hht hsh ht1 hok hj1 hb hn1 hF h hw (by simp at hl; omega)) (fun I3 A3 hw3 hf3 => ?_)
    refine c_D.yea 9 (by omega) rfl rfl ?_
    exact c_D.ret 9 (by omega) rfl trivial ⟨rfl, by simpa using hw3⟩
  | true =>
    rw [hwin] at hl
    refine c_D.nay 9 (by omega) rfl (by decide) ?_
    refine c_D.put (n := 9) (by omega) rfl hw (by simp at hl; omega) (by decide) (fun I2 A2 hw2 hf2 => ?_)
    refine c_D.wr (n' := 9) (by omega) rfl (Nat.le_refl _) (by rw [nI_1]; exact hE e1 c1 j1 a b _ I2 A2 hht hsh ht1 hok hj1 hb hn1 hF (h.frame hf2) hw2 (by simp at hl ⊢; omega)) (fun I3 A3 hw3 hf3 => ?_)
    refine c_D.nay 9 (by omega) rfl (by decide) ?_
    refine c_D.put (n := 9) (by omega) rfl hw3 (by simp at hl ⊢; omega) (by decide) (fun I4 A4 hw4 hf4 => ?_)
    exact c_D.ret 9 (by omega) rfl trivial ⟨rfl, by simpa [List.append_assoc] using hw4⟩
theorem b_len1 {c : aB} (h : b_len c = 1) : ∃ e1 c1, c = .branch e1 c1 b_0 := by
  cases c with
  | leaf u => simp [b_len] at h
  | branch e1 c1 s => exact ⟨e1, c1, by rw [b_len0 (s := s) (by simpa [b_len] using h)]⟩
theorem b_len2 {c : aB} (h : b_len c = 2) : ∃ e1 c1 e2 c2, c = .branch e1 c1 (.branch e2 c2 b_0) := by
  cases c with
  | leaf u => simp [b_len] at h
  | branch e1 c1 s =>
    obtain ⟨e2, c2, rfl⟩ := b_len1 (c := s) (by simpa [b_len] using h)
    exact ⟨e1, c1, e2, c2, rfl⟩
theorem w_sg_17 {mk : Nat → Int32} {e : Nat} (h : 17 ≤ e % 32) : w_sg mk e = 8 := by
  unfold w_sg
  rw [if_neg (by omega), if_neg (by omega), if_neg (by omega)]
theorem d_kb_sb {m : Int32} {k : Nat} (h : d_kb (d_sb m) = k) (h2 : 0 < d_sb m) : d_sb m ≠ 3 ∧ d_sb m ≠ 7 := by
  unfold d_sb at *
  repeat' split
  all_goals omega
theorem b_ht1 {e : Nat} {c s : aB} : 1 ≤ b_ht (.branch e c s) := by
  simp only [b_ht]
  omega
theorem k_ex1 (hV : w_V tx n T tk) {r lv e j a b : Nat} {c : aB} (hlv : lv + r ≤ 10) (hE : c ≠ b_0 → ∃ r', r = r' + 1 ∧ c_XE g J X tx n T tk S m (6 + 2 * r') (lv + 1) r') (hht : b_ht c ≤ r) (hsh : b_sh (d_mk T tk) e c) (ht : e / 32 < T) (hok : b_ok (d_mk T tk) T c) (hj : j < m) (hb : b ≤ m) (hn : n_N S true j e c) (hF : n_F S true c a b (S 4 j) j (S 5 j) (-1)) (h : c_Vw tx n T tk S m I A) (hw : c_Wr L I A) (hl : L.length + (w_e (d_mk T tk) (w_tt tx tk) e c).length ≤ 3120) : c_M c_wc (6 + 2 * r) 102 [.ref 27, .int (nI j), .int (nI lv)] g I A J X (c_Wv (w_e (d_mk T tk) (w_tt tx tk) e c) L none) (.ok ()) := by
  have hT := h.2.1.2.1
  have hm := h.2.2.2.1
  have e1 := hn.2.1 (Or.inl rfl)
  have hVe := hV (e / 32) ht
  have pt : ∀ {I1 A1 : Nat → Nat → Int32} {L1 : List Int32}, c_Vw tx n T tk S m I1 A1 → c_Wr L1 I1 A1 → L1.length + (w_tt tx tk (e / 32)).length ≤ 3120 → c_M c_wc 3 94 [.ref 27, .int (nI j)] g I1 A1 J X (c_Wv (w_tt tx tk (e / 32)) L1 none) (.ok ()) := fun h1 h2 h3 => k_pt h1 hj e1 ht hVe.1 h2 h3
  refine c_D.met rfl rfl ?_
  refine c_D.yea 9 (by omega) rfl (nI_le (show lv ≤ 10 by omega) (by decide)) ?_
  refine c_D.cav (n := 9) (by omega) rfl (t_firstOf h hj) (by omega) am_Fr.refl ?_
  refine c_D.cav (n := 9) (by omega) rfl (t_kindOf h hj) (by omega) am_Fr.refl ?_
  rw [hn.1]
  rcases hsh with ⟨z1, z2, z3, z4⟩ | ⟨z1, z2, z3⟩ | ⟨z1, z2, z3⟩ | ⟨z1, z2⟩ | ⟨z1, z2⟩ | ⟨z1, z2⟩ | ⟨z1, z2⟩ | z1
  · -- two parts
    obtain ⟨f1, c1, f2, c2, rfl⟩ := b_len2 z4
    obtain ⟨r', rfl, hX⟩ := hE (by simp)
    obtain ⟨j1, a1, b1, g1, g2, g3, g4, g5, g6, g7, g8, g9, g10, j2, a2, b2, q1, q2, q3, q4, q5, q6, q7, q8, q9, q10, q11⟩ := hF
    simp only [b_ht] at hht
    rw [g6]
    have hsg : w_sg (d_mk T tk) e ≠ 3 ∧ w_sg (d_mk T tk) e ≠ 7 := by
      unfold w_sg
      rw [if_pos z1]
      exact d_kb_sb z2 z3
    have hwe : w_e (d_mk T tk) (w_tt tx tk) e (.branch f1 c1 (.branch f2 c2 b_0)) = w_pt (d_mk T tk) (w_tt tx tk) e f1 0 c1 ++ (32 :: (w_tt tx tk (e / 32) ++ (32 :: w_pt (d_mk T tk) (w_tt tx tk) e f2 1 c2))) := by
      simp [w_e, w_bs, w_pt, w_bf_2 z1, List.append_assoc]
    rw [hwe] at hl ⊢
    simp only [List.length_append, List.length_cons] at hl
    have bin : c_D c_wc 102 (6 + 2 * (r' + 1)) g J X I A (92, [(3, .int (nI j1)), (0, .ref 27), (1, .int (nI j)), (2, .int (nI lv))], [], am_H g I A J X) (c_Wv (w_pt (d_mk T tk) (w_tt tx tk) e f1 0 c1 ++ (32 :: (w_tt tx tk (e / 32) ++ (32 :: w_pt (d_mk T tk) (w_tt tx tk) e f2 1 c2)))) L none) (.ok ()) := by
      refine c_D.wr (n' := 9) (by omega) rfl (by omega) (k_pa (i := 0) hX (by omega) (by omega) h hj hn ht (show j1 < m by omega) g9 hok.2.1 ⟨fun _ => rfl, fun _ => g6⟩ ⟨by omega, by omega, by omega⟩ (fun _ => rfl) (by omega) hok.1 hok.2.2.1 (by omega) g10 hw (by omega)) (fun I1 A1 hw1 hf1 => ?_)
      have h1 := h.frame hf1
      refine c_D.put (n := 9) (by omega) rfl hw1 (by simp; omega) (by decide) (fun I2 A2 hw2 hf2 => ?_)
      have h2 := h1.frame hf2
      refine c_D.wr (n' := 9) (by omega) rfl (by omega) (pt h2 hw2 (by simp; omega)) (fun I3 A3 hw3 hf3 => ?_)
      have h3 := h2.frame hf3
      refine c_D.put (n := 9) (by omega) rfl hw3 (by simp; omega) (by decide) (fun I4 A4 hw4 hf4 => ?_)
      have h4 := h3.frame hf4
      refine c_D.cav (n := 9) (by omega) rfl (t_next h4 (show j1 < m by omega)) (by omega) am_Fr.refl ?_
      rw [q6]
      refine c_D.wr (n' := 9) (by omega) rfl (by omega) (k_pa (i := 1) hX (by omega) (by omega) h4 hj hn ht (show j2 < m by omega) q9 hok.2.2.2.2.1 ⟨fun z => by rw [g6] at z; have := nI_inj (by omega) (by omega) z; omega, fun z => by omega⟩ ⟨by omega, by omega, by omega⟩ (fun z => by omega) (by omega) hok.2.2.2.1 hok.2.2.2.2.2.1 (by omega) q10 hw4 (by simp; omega)) (fun I5 A5 hw5 hf5 => ?_)
      refine c_D.pla 1 (by omega) rfl ?_
      exact c_D.ret 9 (by omega) rfl trivial ⟨rfl, by simpa [List.append_assoc] using hw5⟩
    rcases z1 with z1 | z1 | z1 | z1
    · rw [z1]; exact c_D.swi 9 (by omega) rfl (Or.inl ⟨rfl, rfl⟩) bin
    · rw [z1]; exact c_D.swi 9 (by omega) rfl (Or.inr ⟨by decide, Or.inl ⟨rfl, rfl⟩⟩) bin
    · rw [z1]; exact c_D.swi 9 (by omega) rfl (Or.inr ⟨by decide, Or.inr ⟨by decide, Or.inr ⟨by decide, Or.inl ⟨rfl, rfl⟩⟩⟩⟩) bin
    · rw [z1]; exact c_D.swi 9 (by omega) rfl (Or.inr ⟨by decide, Or.inr ⟨by decide, Or.inr ⟨by decide, Or.inr ⟨by decide, Or.inl ⟨rfl, rfl⟩⟩⟩⟩⟩) bin
  · -- not
    obtain ⟨f1, c1, rfl⟩ := b_len1 z3
    obtain ⟨r', rfl, hX⟩ := hE (by simp)
    obtain ⟨j1, a1, b1, g1, g2, g3, g4, g5, g6, g7, g8, g9, g10, g11⟩ := hF
    simp only [b_ht] at hht
    rw [g6]
    have hwe : w_e (d_mk T tk) (w_tt tx tk) e (.branch f1 c1 b_0) = [110, 111, 116, 32] ++ w_pt (d_mk T tk) (w_tt tx tk) e f1 0 c1 := by
      simp [w_e, w_bs, w_pt, w_bf_13 z1, b_len, hVe.2.1 z2, List.append_assoc]
    rw [hwe] at hl ⊢
    simp only [List.length_append, List.length_cons, List.length_nil] at hl
    rw [z1]
    refine c_D.swi 9 (by omega) rfl (Or.inr ⟨by decide, Or.inr ⟨by decide, Or.inl ⟨rfl, rfl⟩⟩⟩) ?_
    refine c_D.wr (n' := 9) (by omega) rfl (by omega) (k_pw (i := 19) (by decide) hw (by show L.length + 4 ≤ 3120; omega)) (fun I1 A1 hw1 hf1 => ?_)
    refine c_D.wr (n' := 9) (by omega) rfl (by omega) (k_pa (i := 0) hX (by omega) (by omega) (h.frame hf1) hj hn ht (show j1 < m by omega) g9 hok.2.1 ⟨fun _ => rfl, fun _ => g6⟩ ⟨by omega, by omega, by omega⟩ (fun _ => rfl) (by omega) hok.1 hok.2.2.1 (by omega) g10 hw1 (by show (L ++ [110, 111, 116, 32]).length + _ ≤ _; simp; omega)) (fun I2 A2 hw2 hf2 => ?_)
    refine c_D.pla 1 (by omega) rfl ?_
    refine c_D.ret 9 (by omega) rfl trivial ⟨rfl, ?_⟩
    have e2 : w_ch 19 (am_sl.getD 19 0) 0 = [110, 111, 116, 32] := rfl
    rw [e2] at hw2
    simpa [List.append_assoc] using hw2
  · -- minus
    obtain ⟨f1, c1, rfl⟩ := b_len1 z3
    obtain ⟨r', rfl, hX⟩ := hE (by simp)
    obtain ⟨j1, a1, b1, g1, g2, g3, g4, g5, g6, g7, g8, g9, g10, g11⟩ := hF
    simp only [b_ht] at hht
    rw [g6]
    have hwe : w_e (d_mk T tk) (w_tt tx tk) e (.branch f1 c1 b_0) = 45 :: w_pt (d_mk T tk) (w_tt tx tk) e f1 0 c1 := by
      simp [w_e, w_bs, w_pt, w_bf_16 z1, b_len, hVe.2.2 z2, List.append_assoc]
    rw [hwe] at hl ⊢
    simp only [List.length_cons] at hl
    rw [z1]
    refine c_D.swi 9 (by omega) rfl (Or.inr ⟨by decide, Or.inr ⟨by decide, Or.inr ⟨by decide, Or.inr ⟨by decide, Or.inr ⟨by decide, Or.inl ⟨rfl, rfl⟩⟩⟩⟩⟩⟩) ?_
    refine c_D.put (n := 9) (by omega) rfl hw (by omega) (by decide) (fun I1 A1 hw1 hf1 => ?_)
    refine c_D.wr (n' := 9) (by omega) rfl (by omega) (k_pa (i := 0) hX (by omega) (by omega) (h.frame hf1) hj hn ht (show j1 < m by omega) g9 hok.2.1 ⟨fun _ => rfl, fun _ => g6⟩ ⟨by omega, by omega, by omega⟩ (fun _ => rfl) (by omega) hok.1 hok.2.2.1 (by omega) g10 hw1 (by simp; omega)) (fun I2 A2 hw2 hf2 => ?_)
    refine c_D.pla 1 (by omega) rfl ?_
    exact c_D.ret 9 (by omega) rfl trivial ⟨rfl, by simpa [List.append_assoc] using hw2⟩
  · -- a call
    cases c with
    | leaf u => simp [b_len] at z2
    | branch f1 c1 s =>
      obtain ⟨r', rfl, hX⟩ := hE (by simp)
      obtain ⟨j1, a1, b1, g1, g2, g3, g4, g5, g6, g7, g8, g9, g10, g11⟩ := hF
      simp only [b_ht] at hht
      rw [g6]
      have hwe : w_e (d_mk T tk) (w_tt tx tk) e (.branch f1 c1 s) = w_pt (d_mk T tk) (w_tt tx tk) e f1 0 c1 ++ (40 :: (w_ls (d_mk T tk) (w_tt tx tk) s true ++ [41])) := by
        simp only [w_e, w_bs]
        rw [w_bs_17 z1 (by decide) (by simp only [b_len]; omega)]
        simp [w_pt, w_e, w_bf_17 z1, b_len, List.append_assoc]
      rw [hwe] at hl ⊢
      simp only [List.length_append, List.length_cons, List.length_nil] at hl
      rw [z1]
      refine c_D.swi 9 (by omega) rfl (Or.inr ⟨by decide, Or.inr ⟨by decide, Or.inr ⟨by decide, Or.inr ⟨by decide, Or.inr ⟨by decide, Or.inr ⟨by decide, Or.inl ⟨rfl, rfl⟩⟩⟩⟩⟩⟩⟩) ?_
      refine c_D.wr (n' := 9) (by omega) rfl (by omega) (k_pa (i := 0) hX (by omega) (by omega) h hj hn ht (show j1 < m by omega) g9 hok.2.1 ⟨fun _ => rfl, fun _ => g6⟩ ⟨by omega, by omega, by omega⟩ (fun _ => rfl) (by omega) hok.1 hok.2.2.1 (by omega) g10 hw (by omega)) (fun I1 A1 hw1 hf1 => ?_)
      have h1 := h.frame hf1
      refine c_D.cav (n := 9) (by omega) rfl (t_next h1 (show j1 < m by omega)) (by omega) am_Fr.refl ?_
      refine c_D.wr (n' := 9) (by omega) rfl (by omega) (k_els (o := 40) (cl := 41) (fun _ => hX) (by omega) (by omega) (by decide) (by decide) g11 (by omega) (by omega) hok.2.2.2 (by omega) h1 hw1 (by simp; omega)) (fun I2 A2 hw2 hf2 => ?_)
      refine c_D.pla 1 (by omega) rfl ?_
      exact c_D.ret 9 (by omega) rfl trivial ⟨rfl, by simpa [List.append_assoc] using hw2⟩
  · -- an index
    obtain ⟨f1, c1, f2, c2, rfl⟩ := b_len2 z2
    obtain ⟨r', rfl, hX⟩ := hE (by simp)
    obtain ⟨j1, a1, b1, g1, g2, g3, g4, g5, g6, g7, g8, g9, g10, g11⟩ := hF
    simp only [b_ht] at hht
    rw [g6]
    have hwe : w_e (d_mk T tk) (w_tt tx tk) e (.branch f1 c1 (.branch f2 c2 b_0)) = w_pt (d_mk T tk) (w_tt tx tk) e f1 0 c1 ++ (91 :: (w_ls (d_mk T tk) (w_tt tx tk) (.branch f2 c2 b_0) true ++ [93])) := by
      simp only [w_e, w_bs, w_ls, w_pt, w_in_no (mk := d_mk T tk) (e1 := f2) (Or.inr (Or.inl ⟨z1, show 0 + 1 = 1 from rfl⟩))]
      simp [w_e, w_bf_18 z1, b_len, List.append_assoc]
    rw [hwe] at hl ⊢
    simp only [List.length_append, List.length_cons, List.length_nil] at hl
    rw [z1]
    refine c_D.swi 9 (by omega) rfl (Or.inr ⟨by decide, Or.inr ⟨by decide, Or.inr ⟨by decide, Or.inr ⟨by decide, Or.inr ⟨by decide, Or.inr ⟨by decide, Or.inr ⟨by decide, Or.inl ⟨rfl, rfl⟩⟩⟩⟩⟩⟩⟩⟩) ?_
    refine c_D.wr (n' := 9) (by omega) rfl (by omega) (k_pa (i := 0) hX (by omega) (by omega) h hj hn ht (show j1 < m by omega) g9 hok.2.1 ⟨fun _ => rfl, fun _ => g6⟩ ⟨by omega, by omega, by omega⟩ (fun _ => rfl) (by omega) hok.1 hok.2.2.1 (by omega) g10 hw (by omega)) (fun I1 A1 hw1 hf1 => ?_)
    have h1 := h.frame hf1
    refine c_D.cav (n := 9) (by omega) rfl (t_next h1 (show j1 < m by omega)) (by omega) am_Fr.refl ?_
    refine c_D.wr (n' := 9) (by omega) rfl (by omega) (k_els (o := 91) (cl := 93) (fun _ => hX) (by omega) (by omega) (by decide) (by decide) g11 (by omega) (by omega) hok.2.2.2 (by simp only [b_ht]; omega) h1 hw1 (by simp; omega)) (fun I2 A2 hw2 hf2 => ?_)
    refine c_D.pla 1 (by omega) rfl ?_
    exact c_D.ret 9 (by omega) rfl trivial ⟨rfl, by simpa [List.append_assoc] using hw2⟩
  · -- a member
    obtain ⟨f1, c1, rfl⟩ := b_len1 z2
    obtain ⟨r', rfl, hX⟩ := hE (by simp)
    obtain ⟨j1, a1, b1, g1, g2, g3, g4, g5, g6, g7, g8, g9, g10, g11⟩ := hF
    simp only [b_ht] at hht
    rw [g6]
    have hwe : w_e (d_mk T tk) (w_tt tx tk) e (.branch f1 c1 b_0) = w_pt (d_mk T tk) (w_tt tx tk) e f1 0 c1 ++ (46 :: w_tt tx tk (e / 32)) := by
      simp [w_e, w_bs, w_pt, w_bf_19 z1, b_len, List.append_assoc]
    rw [hwe] at hl ⊢
    simp only [List.length_append, List.length_cons, List.length_nil] at hl
    rw [z1]
    refine c_D.swi 9 (by omega) rfl (Or.inr ⟨by decide, Or.inr ⟨by decide, Or.inr ⟨by decide, Or.inr ⟨by decide, Or.inr ⟨by decide, Or.inr ⟨by decide, Or.inr ⟨by decide, Or.inr ⟨by decide, Or.inl ⟨rfl, rfl⟩⟩⟩⟩⟩⟩⟩⟩⟩) ?_
    refine c_D.wr (n' := 9) (by omega) rfl (by omega) (k_pa (i := 0) hX (by omega) (by omega) h hj hn ht (show j1 < m by omega) g9 hok.2.1 ⟨fun _ => rfl, fun _ => g6⟩ ⟨by omega, by omega, by omega⟩ (fun _ => rfl) (by omega) hok.1 hok.2.2.1 (by omega) g10 hw (by omega)) (fun I1 A1 hw1 hf1 => ?_)
    have h1 := h.frame hf1
    refine c_D.put (n := 9) (by omega) rfl hw1 (by simp; omega) (by decide) (fun I2 A2 hw2 hf2 => ?_)
    refine c_D.wr (n' := 9) (by omega) rfl (by omega) (pt (h1.frame hf2) hw2 (by simp; omega)) (fun I3 A3 hw3 hf3 => ?_)
    refine c_D.pla 1 (by omega) rfl ?_
    exact c_D.ret 9 (by omega) rfl trivial ⟨rfl, by simpa [List.append_assoc] using hw3⟩
  · -- a leaf
    have hc := b_len0 z2
    subst hc
    have hwe : w_e (d_mk T tk) (w_tt tx tk) e b_0 = w_tt tx tk (e / 32) := by
      simp only [w_e, w_bs, w_bf_20 z1]
    rw [hwe] at hl ⊢
    have lf : c_D c_wc 102 (6 + 2 * r) g J X I A (253, [(3, .int (S 4 j)), (0, .ref 27), (1, .int (nI j)), (2, .int (nI lv))], [], am_H g I A J X) (c_Wv (w_tt tx tk (e / 32)) L none) (.ok ()) := by
      refine c_D.wr (n' := 9) (by omega) rfl (by omega) (pt h hw hl) (fun I1 A1 hw1 hf1 => ?_)
      exact c_D.ret 9 (by omega) rfl trivial ⟨rfl, hw1⟩
    rcases z1 with z1 | z1 | z1
    · rw [z1]; exact c_D.swi 9 (by omega) rfl (Or.inr ⟨by decide, Or.inr ⟨by decide, Or.inr ⟨by decide, Or.inr ⟨by decide, Or.inr ⟨by decide, Or.inr ⟨by decide, Or.inr ⟨by decide, Or.inr ⟨by decide, Or.inr ⟨by decide, Or.inl ⟨rfl, rfl⟩⟩⟩⟩⟩⟩⟩⟩⟩⟩) lf
    · rw [z1]; exact c_D.swi 9 (by omega) rfl (Or.inr ⟨by decide, Or.inr ⟨by decide, Or.inr ⟨by decide, Or.inr ⟨by decide, Or.inr ⟨by decide, Or.inr ⟨by decide, Or.inr ⟨by decide, Or.inr ⟨by decide, Or.inr ⟨by decide, Or.inr ⟨by decide, Or.inl ⟨rfl, rfl⟩⟩⟩⟩⟩⟩⟩⟩⟩⟩⟩) lf
    · rw [z1]; exact c_D.swi 9 (by omega) rfl (Or.inr ⟨by decide, Or.inr ⟨by decide, Or.inr ⟨by decide, Or.inr ⟨by decide, Or.inr ⟨by decide, Or.inr ⟨by decide, Or.inr ⟨by decide, Or.inr ⟨by decide, Or.inr ⟨by decide, Or.inr ⟨by decide, Or.inr ⟨by decide, Or.inl ⟨rfl, rfl⟩⟩⟩⟩⟩⟩⟩⟩⟩⟩⟩⟩) lf
  · -- a list
    have hwe : w_e (d_mk T tk) (w_tt tx tk) e c = 91 :: (w_ls (d_mk T tk) (w_tt tx tk) c true ++ [93]) := by
      unfold w_e
      rw [w_bs_23 z1 (by omega)]
      rfl
    rw [hwe] at hl ⊢
    simp only [List.length_append, List.length_cons, List.length_nil] at hl
    rw [z1]
    refine c_D.swi 9 (by omega) rfl (Or.inr ⟨by decide, Or.inr ⟨by decide, Or.inr ⟨by decide, Or.inr ⟨by decide, Or.inr ⟨by decide, Or.inr ⟨by decide, Or.inr ⟨by decide, Or.inr ⟨by decide, Or.inr ⟨by decide, Or.inr ⟨by decide, Or.inr ⟨by decide, Or.inr ⟨by decide, Or.inl ⟨rfl, rfl⟩⟩⟩⟩⟩⟩⟩⟩⟩⟩⟩⟩⟩) ?_
    have go : ∀ {D r' a b : Nat}, (c ≠ b_0 → c_XE g J X tx n T tk S m D (lv + 1) r') → 4 ≤ D → D + 2 ≤ 6 + 2 * r → n_F S true c a b (S 4 j) j (S 5 j) (-1) → a ≤ b → b ≤ m → b_ht c ≤ r' + 1 → c_D c_wc 102 (6 + 2 * r) g J X I A (240, [(3, .int (S 4 j)), (0, .ref 27), (1, .int (nI j)), (2, .int (nI lv))], [], am_H g I A J X) (c_Wv (91 :: (w_ls (d_mk T tk) (w_tt tx tk) c true ++ [93])) L none) (.ok ()) := by
      intro D r' a b hX hD hD2 hF hab hbm hh
      refine c_D.wr (n' := 9) (by omega) rfl hD2 (k_els (o := 91) (cl := 93) hX hD (by omega) (by decide) (by decide) hF hab hbm hok hh h hw (by omega)) (fun I2 A2 hw2 hf2 => ?_)
      refine c_D.pla 1 (by omega) rfl ?_
      exact c_D.ret 9 (by omega) rfl trivial ⟨rfl, by simpa [List.append_assoc] using hw2⟩
    cases c with
    | leaf u => exact go (D := 4) (r' := 0) (a := 0) (b := 0) (fun z => absurd rfl z) (by decide) (by omega) hF (Nat.le_refl _) (by omega) (by simp [b_ht])
    | branch f1 c1 s =>
      obtain ⟨r', rfl, hX⟩ := hE (by simp)
      have hab : a ≤ b := by
        obtain ⟨j1, a1, b1, g1, g2, g3, g4, -⟩ := hF
        omega
      exact go (D := 6 + 2 * r') (fun _ => hX) (by omega) (by omega) hF hab hb hht
theorem k_ex (hV : w_V tx n T tk) : ∀ (r lv : Nat), lv + r ≤ 10 → c_XE g J X tx n T tk S m (6 + 2 * r) lv r := by
  intro r
  induction r with
  | zero =>
    intro lv hlv e c j a b L I A hht hsh ht hok hj hb hn hF h hw hl
    refine k_ex1 hV hlv (fun z => ?_) hht hsh ht hok hj hb hn hF h hw hl
    cases c with
    | leaf u => exact absurd rfl z
    | branch f1 c1 s => exact absurd hht (by have := b_ht1 (e := f1) (c := c1) (s := s); omega)
  | succ r ih =>
    intro lv hlv e c j a b L I A hht hsh ht hok hj hb hn hF h hw hl
    exact k_ex1 hV hlv (fun _ => ⟨r, rfl, ih (lv + 1) (by omega)⟩) hht hsh ht hok hj hb hn hF h hw hl
end CWX
