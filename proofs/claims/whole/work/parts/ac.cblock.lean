/-! THE CLASS WRITES: statements, blocks, the whole -/
section CWB
variable {g : List aK} {J : Nat → Nat → Int64} {X : Nat × (Nat → Int32)} {I A : Nat → Nat → Int32} {L W : List Int32} {tx : Nat → Int32} {n T m : Nat} {tk : Nat → aT} {S : aN}
/-- one statement, without its line's begin -/
def w_1 (mk : Nat → Int32) (wt : Nat → List Int32) (e : Nat) (c : aB) (d : Nat) : List Int32 := if e % 32 = 6 ∨ e % 32 = 7 then wt (e / 32) ++ (32 :: w_m mk wt c 2 d) else if e % 32 = 8 then [100, 101, 102, 32] ++ (wt (e / 32) ++ (40 :: w_m mk wt c 3 d)) else w_sm mk wt e c
theorem k_stm {D d r j e a b : Nat} {c s : aB} (hV : w_V tx n T tk) (hB : ∀ r', r = r' + 1 → c_XB g J X tx n T tk S m D (d + 1) r') (hD : 24 ≤ D) (hd : d < 100) (hj : j < m) (hn : n_N S true j e c) (hF : n_F S true c a b (S 4 j) j (S 5 j) (-1)) (hb : b ≤ m) (hab : a ≤ b) (hc : b_sk (d_mk T tk) T (.branch e c s) 1) (hdp : b_dp c ≤ r) (hsz : b_sz c < 359) (h : c_Vw tx n T tk S m I A) (hw : c_Wr L I A) (hl : L.length + 2 * d + (w_1 (d_mk T tk) (w_tt tx tk) e c d).length ≤ 3120) : c_M c_wc (D + 3) 97 [.ref 27, .int (nI j), .int (nI d)] g I A J X (c_Wv (w_id d ++ w_1 (d_mk T tk) (w_tt tx tk) e c d) L none) (.ok ()) := by
  have hm := h.2.2.2.1
  have hlen := b_len_lt hab hF
  have hs1 := hn.2.1 (Or.inl rfl)
  unfold b_sk at hc
  obtain ⟨-, ht, hc⟩ := hc
  refine c_D.met rfl rfl ?_
  refine c_D.wr (n' := 9) (by omega) rfl (by omega) (k_bgl (d := d) (by omega) hw (by omega)) (fun I1 A1 hw1 hf1 => ?_)
  have h1 := h.frame hf1
  refine c_D.cav (n := 9) (by omega) rfl (t_kindOf h1 hj) (by omega) am_Fr.refl ?_
  rw [hn.1]
  have small : e % 32 < 6 → (c = b_0 ∨ b_x (d_mk T tk) T c) → c_D c_wc 97 (D + 3) g J X I1 A1 (13, [(0, .ref 27), (1, .int (nI j)), (2, .int (nI d))], [.int (nI (e % 32))], am_H g I1 A1 J X) (c_Wv (w_id d ++ w_1 (d_mk T tk) (w_tt tx tk) e c d) L none) (.ok ()) := by
    intro z1 z2
    unfold w_1 at hl ⊢
    rw [if_neg (by omega), if_neg (by omega)] at hl ⊢
    refine c_D.swi 9 (by omega) rfl (Or.inr ⟨nI_nv (b := 6) (by omega) (by decide) (by omega), Or.inr ⟨nI_nv (b := 7) (by omega) (by decide) (by omega), Or.inr ⟨nI_nv (b := 8) (by omega) (by decide) (by omega), rfl⟩⟩⟩) ?_
    refine c_D.wr (n' := 9) (by omega) rfl (by omega) (k_sml hV hj hn ht hF hb z1 z2 h1 hw1 (by simp [w_id_len]; omega)) (fun I2 A2 hw2 hf2 => ?_)
    exact c_D.ret 9 (by omega) rfl trivial ⟨rfl, by simpa [List.append_assoc] using hw2⟩
  rcases hc with z | z | z | z | z | z | z | z
  · exact small (by omega) (Or.inl z.2.2)
  · exact small (by omega) (Or.inl z.2.2)
  · exact small (by omega) z.2.2
  · exact small (by omega) (Or.inr z.2)
  · exact small (by omega) (Or.inr z.2.1)
  · unfold w_1 at hl ⊢
    rw [if_pos (Or.inl z.1)] at hl ⊢
    simp only [List.length_append, List.length_cons] at hl
    rw [z.1]
    refine c_D.swi 9 (by omega) rfl (Or.inl ⟨rfl, rfl⟩) ?_
    refine c_D.wr (n' := 9) (by omega) rfl (by omega) (k_bran hV hB hD hd hj hs1 ht hF hb (b_sk_cb (Or.inl rfl) z.2.2 hdp) hsz h1 hw1 (by simp [w_id_len]; omega)) (fun I2 A2 hw2 hf2 => ?_)
    refine c_D.pla 1 (by omega) rfl ?_
    exact c_D.ret 9 (by omega) rfl trivial ⟨rfl, by simpa [List.append_assoc] using hw2⟩
  · unfold w_1 at hl ⊢
    rw [if_pos (Or.inr z.1)] at hl ⊢
    simp only [List.length_append, List.length_cons] at hl
    rw [z.1]
    have z3 := z.2.2
    cases c with
    | leaf u => unfold b_sk at z3; omega
    | branch e1 c1 s1 =>
      unfold b_sk at z3
      obtain ⟨q1, q2, q3, q4, q5⟩ := z3
      cases s1 with
      | leaf u => unfold b_sk at q5; omega
      | branch e2 c2 s2 =>
        unfold b_sk at q5
        obtain ⟨p1, p2, p3, p4, p5⟩ := q5
        subst p5
        simp only [b_dp, if_pos p1] at hdp
        obtain ⟨r', rfl⟩ : ∃ r', r = r' + 1 := ⟨r - 1, by omega⟩
        obtain ⟨j1, a1, b1, g1, g2, g3, g4, g5, g6, g7, g8, g9, g10, j2, a2, b2, v1, v2, v3, v4, v5, v6, v7, v8, v9, v10, v11⟩ := hF
        simp only [w_m, List.length_append, List.length_cons, List.length_nil] at hl
        refine c_D.swi 9 (by omega) rfl (Or.inr ⟨by decide, Or.inl ⟨rfl, rfl⟩⟩) ?_
        refine c_D.wv (n' := 9) (by omega) rfl (by omega) (k_cond hV (hB r' rfl) hD hd hj hs1 ht g6 (by omega) v6 (show j2 < m by omega) g9 g10 (by omega) q1 q2 q3 q4 v10 (by omega) (by omega) p4 (by omega) h1 hw1 (by simp [w_id_len]; omega)) (fun I2 A2 hw2 hf2 => ?_)
        refine c_D.pla 2 (by omega) rfl ?_
        exact c_D.ret 9 (by omega) rfl trivial ⟨rfl, by simpa [w_m, List.append_assoc] using hw2⟩
  · unfold w_1 at hl ⊢
    rw [if_neg (by omega), if_pos z.1] at hl ⊢
    simp only [List.length_append, List.length_cons, List.length_nil] at hl
    rw [z.1]
    refine c_D.swi 9 (by omega) rfl (Or.inr ⟨by decide, Or.inr ⟨by decide, Or.inl ⟨rfl, rfl⟩⟩⟩) ?_
    refine c_D.wr (n' := 9) (by omega) rfl (by omega) (k_dfn hV hB hD hd hj hs1 ht hF hb z.2 hdp (by omega) h1 hw1 (by simp [w_id_len]; omega)) (fun I2 A2 hw2 hf2 => ?_)
    refine c_D.pla 1 (by omega) rfl ?_
    exact c_D.ret 9 (by omega) rfl trivial ⟨rfl, by simpa [List.append_assoc] using hw2⟩
theorem b_sz_lt {q : Bool} : ∀ {F : aB} {lo hi i : Nat} {x l xe : Int32}, lo ≤ hi → n_F S q F lo hi x i l xe → lo + b_sz F + (if lo ≤ i ∧ i < hi then 1 else 0) ≤ hi
  | .leaf _, lo, hi, i, _, _, _, h, _ => by
    simp only [b_sz]
    split <;> omega
  | .branch e c s, lo, hi, i, x, l, xe, _, h => by
    obtain ⟨j, a, b, g1, g2, g3, g4, g5, g6, g7, g8, g9, g10, g11⟩ := h
    have h1 := b_sz_lt (by omega) g10
    have h2 := b_sz_lt (by omega) g11
    rw [if_pos (by omega)] at h1
    simp only [b_sz]
    by_cases ci : lo ≤ i ∧ i < hi
    · rw [if_pos ci]
      by_cases cb : b ≤ i ∧ i < hi
      · rw [if_pos cb] at h2
        omega
      · rw [if_neg cb] at h2
        omega
    · rw [if_neg ci]
      omega
theorem k_blk1 {D d r D' j a b : Nat} {c : aB} (hV : w_V tx n T tk) (hB : ∀ r', r = r' + 1 → c_XB g J X tx n T tk S m D (d + 1) r') (hD : 24 ≤ D) (hd : d ≤ 9) (hD' : D + 4 ≤ D') (hsk : b_sk (d_mk T tk) T c 1) (hdp : b_dp c ≤ r) (hj : j < m) (hb : b ≤ m) (hab : a ≤ b) (hF : n_F S true c a b (S 4 j) j (S 5 j) (-1)) (h : c_Vw tx n T tk S m I A) (hw : c_Wr L I A) (hl : L.length + (w_m (d_mk T tk) (w_tt tx tk) c 1 d).length ≤ 3120) : c_M c_wc D' 96 [.ref 27, .int (nI j), .int (nI d)] g I A J X (c_Wv (w_m (d_mk T tk) (w_tt tx tk) c 1 d) L none) (.ok ()) := by
  have hm := h.2.2.2.1
  have hlen := b_len_lt hab hF
  have loop : ∀ (s : aB) (b2 b i j0 : Nat) (y l : Int32) (L1 : List Int32) (I1 A1 : Nat → Nat → Int32), n_F S true s b2 b y j0 l (-1) → b ≤ m → b2 ≤ b → b_sk (d_mk T tk) T s 1 → b_dp s ≤ r → i + b_len s < 360 → c_Vw tx n T tk S m I1 A1 → c_Wr L1 I1 A1 → L1.length + (w_m (d_mk T tk) (w_tt tx tk) s 1 d).length ≤ 3120 → c_D c_wc 96 D' g J X I1 A1 (19, [(4, .int (nI i)), (3, .int y), (0, .ref 27), (1, .int (nI j)), (2, .int (nI d))], [], am_H g I1 A1 J X) (c_Wv (w_m (d_mk T tk) (w_tt tx tk) s 1 d) L1 none) (.ok ()) := by
    intro s
    induction s with
    | leaf u =>
      intro b2 b i j0 y l L1 I1 A1 hF hbm hbb hsk hdp hi h1 hw1 hl1
      have hy : y = -1 := hF
      subst hy
      simp only [b_len] at hi
      refine c_D.nay 9 (by omega) rfl (nI_ge (show i < 360 by omega) (by decide)) ?_
      refine c_D.yea 9 (by omega) rfl rfl ?_
      exact c_D.ret 9 (by omega) rfl trivial ⟨rfl, by simpa [w_m] using hw1⟩
    | branch e c s ihc ihs =>
      intro b2 b i j0 y l L1 I1 A1 hF hbm hbb hsk hdp hi h1 hw1 hl1
      obtain ⟨j3, a3, b3, g1, g2, g3, g4, g5, g6, g7, g8, g9, g10, g11⟩ := hF
      subst g6
      have hsz := b_sz_lt (by omega) g10
      simp only [b_len] at hi
      simp only [b_dp] at hdp
      simp only [w_m, List.length_append, w_id_len] at hl1
      have hsk' := hsk
      unfold b_sk at hsk'
      refine c_D.nay 9 (by omega) rfl (nI_ge (show i < 360 by omega) (by decide)) ?_
      refine c_D.nay 9 (by omega) rfl (nI_m1 (by omega)) ?_
      refine c_D.wr (n' := 9) (by omega) rfl (show D + 3 + 1 ≤ D' by omega) (k_stm hV hB hD (by omega) (show j3 < m by omega) g9 g10 (by omega) (by omega) hsk (by omega) (by omega) h1 hw1 (by unfold w_1; omega)) (fun I2 A2 hw2 hf2 => ?_)
      have h2 := h1.frame hf2
      refine c_D.cav (n := 9) (by omega) rfl (t_next h2 (show j3 < m by omega)) (by omega) am_Fr.refl ?_
      refine c_D.pla 3 (by omega) rfl ?_
      rw [nI_1]
      refine (ihs b3 b (i + 1) j0 (S 6 j3) l _ I2 A2 g11 hbm (by omega) hsk'.1 (by omega) (by omega) h2 hw2 (by simp only [List.length_append, w_id_len, w_1]; omega)).mono ?_
      rintro a v I' A' - ⟨q1, q2⟩
      exact ⟨q1, by simpa [w_m, w_1, List.append_assoc] using q2⟩
  refine c_D.met rfl rfl ?_
  refine c_D.yea 9 (by omega) rfl (nI_le (show d ≤ 9 by omega) (by decide)) ?_
  refine c_D.cav (n := 9) (by omega) rfl (t_firstOf h hj) (by omega) am_Fr.refl ?_
  refine c_D.pla 3 (by omega) rfl ?_
  exact loop c a b 0 j (S 4 j) (S 5 j) L I A hF hb hab hsk hdp (by omega) h hw hl
theorem k_blk (hV : w_V tx n T tk) : ∀ (r d : Nat), d + r ≤ 9 → c_XB g J X tx n T tk S m (30 + 4 * r) d r := by
  intro r
  induction r with
  | zero =>
    intro d hd c j a b L I A hsk hdp hj hb hab hF h hw hl
    exact k_blk1 hV (D := 26) (fun r' z => by omega) (by omega) (by omega) (by omega) hsk hdp hj hb hab hF h hw hl
  | succ r ih =>
    intro d hd c j a b L I A hsk hdp hj hb hab hF h hw hl
    refine k_blk1 hV (D := 30 + 4 * r) (fun r' z => ?_) (by omega) (by omega) (by omega) hsk hdp hj hb hab hF h hw hl
    have : r' = r := by omega
    subst this
    exact ih (d + 1) (by omega)
/-- the whole -/
theorem k_wwh (hV : w_V tx n T tk) {c : aB} {a b : Nat} (hsk : b_sk (d_mk T tk) T c 1) (hdp : b_dp c ≤ 9) (hm0 : 0 < m) (hb : b ≤ m) (hab : a ≤ b) (hF : n_F S true c a b (S 4 0) 0 (S 5 0) (-1)) (h : c_Vw tx n T tk S m I A) (hl : (w_m (d_mk T tk) (w_tt tx tk) c 1 0).length ≤ 3120) : c_M c_wc 67 91 [.ref 27] g I A J X (c_Wv (w_m (d_mk T tk) (w_tt tx tk) c 1 0) [] none) (.ok ()) := by
  refine c_D.met rfl rfl ?_
  refine c_D.pla 3 (by decide) rfl ?_
  have hf : am_Fr c_wc I A (am_u I 27 4 0) A := am_Fr.put (by decide)
  refine c_D.back am_To.refl hf ?_
  refine c_D.wr (n' := 9) (by decide) rfl (by decide) (k_blk hV 9 0 (by decide) c 0 a b [] _ A hsk hdp hm0 hb hab hF (h.frame hf) ⟨am_uk, fun k hk => absurd hk (Nat.not_lt_zero _), fun x hx => absurd hx List.not_mem_nil⟩ (by simpa using hl)) (fun I2 A2 hw2 hf2 => ?_)
  exact c_D.ret 9 (by decide) rfl trivial ⟨rfl, hw2⟩
end CWB
