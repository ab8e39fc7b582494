/-! THE CLASS WRITES: expressions -/
theorem nI_nv {k b : Nat} (hk : k < 2 ^ 31) (hb : b < 2 ^ 31) (h : k ≠ b) : ¬ nI k = nI b := fun z => h (nI_inj hk hb z)
theorem nI_m1 {k : Nat} (hk : k < 2 ^ 31) : ¬ nI k = -1 := fun z => nI_pos hk (by rw [z]; decide)
section CWE
variable {g : List aK} {J : Nat → Nat → Int64} {X : Nat × (Nat → Int32)} {I A : Nat → Nat → Int32} {L W : List Int32} {tx : Nat → Int32} {n T m : Nat} {tk : Nat → aT} {S : aN}
theorem k_sg {j e : Nat} {c : aB} (h : c_Vw tx n T tk S m I A) (hj : j < m) (hn : n_N S true j e c) (ht : e / 32 < 2 ^ 31) : am_Con 2 106 [.ref 27, .int (nI j)] (am_H g I A J X) (.inl (some (.int (nI (w_sg (d_mk T tk) e))))) (am_H g I A J X) 0 0 := by
  have e1 := hn.2.1 (Or.inl rfl)
  refine am_met rfl rfl ?_
  refine am_cav 9 (by decide) rfl (t_kindOf h hj) (by decide) (by decide) (by decide) ?_
  rw [hn.1]
  have bin : w_sg (d_mk T tk) e = d_sb (d_mk T tk (e / 32)) → am_Tri 106 2 0 0 0 0 (48, [(0, .ref 27), (1, .int (nI j))], [], am_H g I A J X) (fun oo hh => oo = .inl (some (.int (nI (w_sg (d_mk T tk) e)))) ∧ hh = am_H g I A J X) := fun z => by
    refine am_cav 9 (by decide) rfl (by have := t_tokn (g := g) (J := J) (X := X) h hj; rw [e1] at this; exact this) (by decide) (by decide) (by decide) ?_
    refine am_cav 9 (by decide) rfl (t_mark h.2.1 ht) (by decide) (by decide) (by decide) ?_
    refine am_cav 9 (by decide) rfl t_sb (by decide) (by decide) (by decide) ?_
    exact am_end 9 (by decide) rfl trivial (by decide) (by decide) ⟨by rw [z], rfl⟩
  have hw : ∀ k, e % 32 = k → w_sg (d_mk T tk) e = (if k = 11 ∨ k = 12 ∨ k = 14 ∨ k = 15 then d_sb (d_mk T tk (e / 32)) else if k = 13 then 3 else if k = 16 then 7 else 8) := fun k z => by subst z; rfl
  by_cases c11 : e % 32 = 11
  · rw [c11]
    refine am_swi 9 (by decide) rfl (Or.inl ⟨rfl, rfl⟩) ?_
    exact bin (by rw [hw _ c11]; rfl)
  by_cases c12 : e % 32 = 12
  · rw [c12]
    refine am_swi 9 (by decide) rfl (Or.inr ⟨by decide, Or.inl ⟨rfl, rfl⟩⟩) ?_
    exact bin (by rw [hw _ c12]; rfl)
  by_cases c13 : e % 32 = 13
  · rw [c13]
    refine am_swi 9 (by decide) rfl (Or.inr ⟨by decide, Or.inr ⟨by decide, Or.inl ⟨rfl, rfl⟩⟩⟩) ?_
    exact am_end 9 (by decide) rfl trivial (by decide) (by decide) ⟨by rw [hw _ c13]; rfl, rfl⟩
  by_cases c14 : e % 32 = 14
  · rw [c14]
    refine am_swi 9 (by decide) rfl (Or.inr ⟨by decide, Or.inr ⟨by decide, Or.inr ⟨by decide, Or.inl ⟨rfl, rfl⟩⟩⟩⟩) ?_
    exact bin (by rw [hw _ c14]; rfl)
  by_cases c15 : e % 32 = 15
  · rw [c15]
    refine am_swi 9 (by decide) rfl (Or.inr ⟨by decide, Or.inr ⟨by decide, Or.inr ⟨by decide, Or.inr ⟨by decide, Or.inl ⟨rfl, rfl⟩⟩⟩⟩⟩) ?_
    exact bin (by rw [hw _ c15]; rfl)
  by_cases c16 : e % 32 = 16
  · rw [c16]
    refine am_swi 9 (by decide) rfl (Or.inr ⟨by decide, Or.inr ⟨by decide, Or.inr ⟨by decide, Or.inr ⟨by decide, Or.inr ⟨by decide, Or.inl ⟨rfl, rfl⟩⟩⟩⟩⟩⟩) ?_
    exact am_end 9 (by decide) rfl trivial (by decide) (by decide) ⟨by rw [hw _ c16]; rfl, rfl⟩
  refine am_swi 9 (by decide) rfl (Or.inr ⟨nI_nv (b := 11) (by omega) (by decide) c11, Or.inr ⟨nI_nv (b := 12) (by omega) (by decide) c12, Or.inr ⟨nI_nv (b := 13) (by omega) (by decide) c13, Or.inr ⟨nI_nv (b := 14) (by omega) (by decide) c14, Or.inr ⟨nI_nv (b := 15) (by omega) (by decide) c15, Or.inr ⟨nI_nv (b := 16) (by omega) (by decide) c16, rfl⟩⟩⟩⟩⟩⟩) ?_
  refine am_end 9 (by decide) rfl trivial (by decide) (by decide) ⟨?_, rfl⟩
  rw [hw _ rfl, if_neg (by omega), if_neg c13, if_neg c16]
  rfl
theorem w_sg_le {mk : Nat → Int32} {e : Nat} : w_sg mk e ≤ 8 := by
  unfold w_sg d_sb
  repeat' split
  all_goals omega
/-- a part's brackets: u tells whether it is the first -/
theorem k_nb {j j1 e e1 i : Nat} {c c1 : aB} (h : c_Vw tx n T tk S m I A) (hj : j < m) (hn : n_N S true j e c) (ht : e / 32 < 2 ^ 31) (hj1 : j1 < m) (hn1 : n_N S true j1 e1 c1) (ht1 : e1 / 32 < 2 ^ 31) (hu : (S 4 j = nI j1) ↔ i = 0) (hk : e % 32 ≠ 23 ∧ (e % 32 = 18 → i = 0) ∧ (e % 32 = 17 → i = 0)) (h37 : w_sg (d_mk T tk) e = 3 ∨ w_sg (d_mk T tk) e = 7 → i = 0) : am_Con 3 105 [.ref 27, .int (nI j), .int (nI j1)] (am_H g I A J X) (.inl (some (.int (am_b (w_in (d_mk T tk) e e1 i))))) (am_H g I A J X) 0 0 := by
  have l1 := w_sg_le (mk := d_mk T tk) (e := e)
  have l2 := w_sg_le (mk := d_mk T tk) (e := e1)
  have win : w_in (d_mk T tk) e e1 i = decide (¬ (w_sg (d_mk T tk) e1 = 8 ∨ w_sg (d_mk T tk) e < w_sg (d_mk T tk) e1) ∧ (w_sg (d_mk T tk) e1 < w_sg (d_mk T tk) e ∨ w_sg (d_mk T tk) e1 = 4 ∨ i ≠ 0)) := by
    unfold w_in
    refine decide_eq_decide.mpr ?_
    constructor
    · rintro ⟨q1, q2⟩
      exact ⟨fun z => q1 (by omega), by omega⟩
    · rintro ⟨q1, q2⟩
      exact ⟨fun z => q1 (by omega), fun z => by omega⟩
  refine am_met rfl rfl ?_
  refine am_cav 9 (by decide) rfl (k_sg h hj hn ht) (by decide) (by decide) (by decide) ?_
  refine am_cav 9 (by decide) rfl (k_sg h hj1 hn1 ht1) (by decide) (by decide) (by decide) ?_
  rw [win]
  generalize w_sg (d_mk T tk) e = s at *
  generalize w_sg (d_mk T tk) e1 = p at *
  by_cases p8 : p = 8
  · subst p8
    refine am_yea 9 (by decide) rfl rfl ?_
    exact am_end 9 (by decide) rfl (Or.inl rfl) (by decide) (by decide) ⟨by simp [am_b], rfl⟩
  refine am_nay 9 (by decide) rfl (nI_nv (b := 8) (by omega) (by decide) p8) ?_
  by_cases ps : s < p
  · refine am_nay 9 (by decide) rfl (nI_ge ps (by omega)) ?_
    exact am_end 9 (by decide) rfl (Or.inl rfl) (by decide) (by decide) ⟨by simp [am_b, ps], rfl⟩
  refine am_yea 9 (by decide) rfl (nI_le (by omega) (by omega)) ?_
  by_cases sp : p < s
  · refine am_yea 9 (by decide) rfl (nI_lt sp (by omega)) ?_
    exact am_end 9 (by decide) rfl (Or.inr rfl) (by decide) (by decide) ⟨by simp [am_b, p8, ps, sp], rfl⟩
  refine am_nay 9 (by decide) rfl (nI_nlt (by omega) (by omega)) ?_
  by_cases p4 : p = 4
  · subst p4
    refine am_nay 9 (by decide) rfl (by decide) ?_
    exact am_end 9 (by decide) rfl (Or.inr rfl) (by decide) (by decide) ⟨by simp [am_b, ps], rfl⟩
  refine am_yea 9 (by decide) rfl (nI_nv (b := 4) (by omega) (by decide) p4) ?_
  refine am_cav 9 (by decide) rfl (t_firstOf h hj) (by decide) (by decide) (by decide) ?_
  by_cases i0 : i = 0
  · refine am_yea 9 (by decide) rfl (hu.mpr i0) ?_
    exact am_end 9 (by decide) rfl (Or.inl rfl) (by decide) (by decide) ⟨by simp [am_b, p8, ps, sp, p4, i0], rfl⟩
  · refine am_nay 9 (by decide) rfl (fun z => i0 (hu.mp z)) ?_
    exact am_end 9 (by decide) rfl (Or.inr rfl) (by decide) (by decide) ⟨by simp [am_b, p8, ps, sp, p4, i0], rfl⟩
/-- expressions in a list: u tells whether it is at its begin -/
def w_ls (mk : Nat → Int32) (wt : Nat → List Int32) : aB → Bool → List Int32
  | .leaf _, _ => []
  | .branch e c s, u => (if u then [] else [44, 32]) ++ (w_e mk wt e c ++ w_ls mk wt s false)
theorem w_in_no {mk : Nat → Int32} {e e1 i : Nat} (h : e % 32 = 23 ∨ (e % 32 = 18 ∧ i = 1) ∨ (e % 32 = 17 ∧ 0 < i)) : w_in mk e e1 i = false := by
  unfold w_in
  refine decide_eq_false ?_
  rintro ⟨q, -⟩
  exact q (by omega)
theorem w_bs_17 {mk : Nat → Int32} {wt : Nat → List Int32} {e n : Nat} (he : e % 32 = 17) : ∀ {F : aB} {i : Nat}, 1 ≤ i → i + b_len F = n → w_bs mk wt F e n i = (if i = 1 then [40] else []) ++ (w_ls mk wt F (decide (i = 1)) ++ [41])
  | .leaf _, i, hi, hn => by
    have hn' : i = n := by simpa [b_len] using hn
    simp only [w_bs, w_ls]
    unfold w_bf
    rw [if_neg (by omega), if_pos he, if_neg (show ¬ (1 < i ∧ i ≠ n) by omega), if_pos hn']
  | .branch e1 c1 s1, i, hi, hn => by
    simp only [b_len] at hn
    have ih := w_bs_17 (mk := mk) (wt := wt) (n := n) he (F := s1) (i := i + 1) (by omega) (by omega)
    simp only [w_bs, w_ls]
    rw [ih, w_in_no (Or.inr (Or.inr ⟨he, hi⟩))]
    have hb : w_bf wt e n i = (if i = 1 then [40] else []) ++ (if i = 1 then [] else [44, 32]) := by
      unfold w_bf
      rw [if_neg (by omega), if_pos he, if_neg (show ¬ i = n by omega)]
      by_cases i1 : i = 1
      · rw [if_pos i1, if_pos i1, if_neg (by omega)]; rfl
      · rw [if_neg i1, if_neg i1, if_pos (by omega)]; rfl
    rw [hb, if_neg (show ¬ i + 1 = 1 by omega), decide_eq_false (show ¬ i + 1 = 1 by omega)]
    unfold w_e
    by_cases i1 : i = 1
    · simp [i1]
    · simp [i1]
theorem w_bs_23 {mk : Nat → Int32} {wt : Nat → List Int32} {e n : Nat} (he : e % 32 = 23) : ∀ {F : aB} {i : Nat}, i + b_len F = n → w_bs mk wt F e n i = (if i = 0 then [91] else []) ++ (w_ls mk wt F (decide (i = 0)) ++ [93])
  | .leaf _, i, hn => by
    have hn' : i = n := by simpa [b_len] using hn
    simp only [w_bs, w_ls]
    unfold w_bf
    rw [if_pos he, if_neg (show ¬ (0 < i ∧ i ≠ n) by omega), if_pos hn']
  | .branch e1 c1 s1, i, hn => by
    simp only [b_len] at hn
    have ih := w_bs_23 (mk := mk) (wt := wt) (n := n) he (F := s1) (i := i + 1) (by omega)
    simp only [w_bs, w_ls]
    rw [ih, w_in_no (Or.inl he)]
    have hb : w_bf wt e n i = (if i = 0 then [91] else []) ++ (if i = 0 then [] else [44, 32]) := by
      unfold w_bf
      rw [if_pos he, if_neg (show ¬ i = n by omega)]
      by_cases i1 : i = 0
      · rw [if_pos i1, if_pos i1, if_neg (by omega)]; rfl
      · rw [if_neg i1, if_neg i1, if_pos (by omega)]; rfl
    rw [hb, if_neg (show ¬ i + 1 = 0 by omega), decide_eq_false (show ¬ i + 1 = 0 by omega)]
    unfold w_e
    by_cases i1 : i = 0
    · simp [i1]
    · simp [i1]
/-- what is known of the expressions of a lower height, one level deeper -/
def c_XE (g : List aK) (J : Nat → Nat → Int64) (X : Nat × (Nat → Int32)) (tx : Nat → Int32) (n T : Nat) (tk : Nat → aT) (S : aN) (m D lv r : Nat) : Prop := ∀ (e : Nat) (c : aB) (j a b : Nat) (L : List Int32) (I A : Nat → Nat → Int32), b_ht c ≤ r → b_sh (d_mk T tk) e c → e / 32 < T → b_ok (d_mk T tk) T c → j < m → b ≤ m → n_N S true j e c → n_F S true c a b (S 4 j) j (S 5 j) (-1) → c_Vw tx n T tk S m I A → c_Wr L I A → L.length + (w_e (d_mk T tk) (w_tt tx tk) e c).length ≤ 3120 → c_M c_wc D 102 [.ref 27, .int (nI j), .int (nI lv)] g I A J X (c_Wv (w_e (d_mk T tk) (w_tt tx tk) e c) L none) (.ok ())
theorem k_els {D lv r j0 : Nat} {F : aB} {o cl : Int32} {lo hi : Nat} {x l : Int32} (hE : F ≠ b_0 → c_XE g J X tx n T tk S m D (lv + 1) r) (hD : 4 ≤ D) (hlv : lv < 100) (ho : narrow .char (.int o) = .int o) (hcl : narrow .char (.int cl) = .int cl) (hF : n_F S true F lo hi x j0 l (-1)) (hlh : lo ≤ hi) (hhi : hi ≤ m) (hok : b_ok (d_mk T tk) T F) (hht : b_ht F ≤ r + 1) (h : c_Vw tx n T tk S m I A) (hw : c_Wr L I A) (hl : L.length + (w_ls (d_mk T tk) (w_tt tx tk) F true).length + 2 ≤ 3120) : c_M c_wc (D + 1) 103 [.ref 27, .int o, .int x, .int cl, .int (nI lv)] g I A J X (c_Wv (o :: (w_ls (d_mk T tk) (w_tt tx tk) F true ++ [cl])) L none) (.ok ()) := by
  have hm := h.2.2.2.1
  have hlen := b_len_lt hlh hF
  have loop : ∀ (F : aB) (lo hi : Nat) (x l x0 : Int32) (i : Nat) (L1 : List Int32) (I1 A1 : Nat → Nat → Int32), (F ≠ b_0 → c_XE g J X tx n T tk S m D (lv + 1) r) → n_F S true F lo hi x j0 l (-1) → hi ≤ m → b_ok (d_mk T tk) T F → b_ht F ≤ r + 1 → i + b_len F < 360 → c_Vw tx n T tk S m I1 A1 → c_Wr L1 I1 A1 → L1.length + (w_ls (d_mk T tk) (w_tt tx tk) F (decide (i = 0))).length + 1 ≤ 3120 → c_D c_wc 103 (D + 1) g J X I1 A1 (11, [(6, .int (nI i)), (5, .int x), (0, .ref 27), (1, .int o), (2, .int x0), (3, .int cl), (4, .int (nI lv))], [], am_H g I1 A1 J X) (c_Wv (w_ls (d_mk T tk) (w_tt tx tk) F (decide (i = 0)) ++ [cl]) L1 none) (.ok ()) := by
    intro F
    induction F with
    | leaf u =>
      intro lo hi x l x0 i L1 I1 A1 hE hF hhi hok hht hi3 h1 hw1 hl1
      have hx : x = -1 := hF
      subst hx
      refine c_D.nay 9 (by omega) rfl (nI_ge (show i < 360 by omega) (by decide)) ?_
      refine c_D.yea 9 (by omega) rfl rfl ?_
      refine c_D.put (n := 9) (by omega) rfl hw1 (by omega) hcl (fun I2 A2 h2 hf2 => ?_)
      exact c_D.ret 9 (by omega) rfl trivial ⟨rfl, by simpa [w_ls] using h2⟩
    | branch e c s ihc ihs =>
      intro lo hi x l x0 i L1 I1 A1 hE hF hhi hok hht hi3 h1 hw1 hl1
      obtain ⟨j, a, b, g1, g2, g3, g4, g5, g6, g7, g8, g9, g10, g11⟩ := hF
      subst g6
      have hE := hE (by simp)
      simp only [b_len] at hi3
      simp only [b_ht] at hht
      simp only [w_ls, List.length_append] at hl1
      refine c_D.nay 9 (by omega) rfl (nI_ge (show i < 360 by omega) (by decide)) ?_
      refine c_D.nay 9 (by omega) rfl (nI_m1 (by omega)) ?_
      have rest : ∀ (L2 : List Int32) (I2 A2 : Nat → Nat → Int32), c_Vw tx n T tk S m I2 A2 → c_Wr L2 I2 A2 → L2.length + (w_e (d_mk T tk) (w_tt tx tk) e c).length + (w_ls (d_mk T tk) (w_tt tx tk) s false).length + 1 ≤ 3120 → c_D c_wc 103 (D + 1) g J X I2 A2 (36, [(6, .int (nI i)), (5, .int (nI j)), (0, .ref 27), (1, .int o), (2, .int x0), (3, .int cl), (4, .int (nI lv))], [], am_H g I2 A2 J X) (c_Wv (w_e (d_mk T tk) (w_tt tx tk) e c ++ (w_ls (d_mk T tk) (w_tt tx tk) s false ++ [cl])) L2 none) (.ok ()) := by
        intro L2 I2 A2 h2 hw2 hl2
        refine c_D.wr (n' := 9) (by omega) rfl (Nat.le_refl _) (by rw [nI_1]; exact hE e c j a b L2 I2 A2 (by omega) hok.1 hok.2.1 hok.2.2.1 (by omega) (by omega) g9 g10 h2 hw2 (by omega)) (fun I3 A3 hw3 hf3 => ?_)
        have h3 := h2.frame hf3
        refine c_D.cav (n := 9) (by omega) rfl (t_next h3 (by omega)) (by omega) am_Fr.refl ?_
        refine c_D.pla 3 (by omega) rfl ?_
        rw [nI_1]
        have := ihs b hi (S 6 j) l x0 (i + 1) _ I3 A3 (fun _ => hE) g11 hhi hok.2.2.2 (by omega) (by omega) h3 hw3 (by rw [decide_eq_false (show ¬ i + 1 = 0 by omega)]; simp; omega)
        rw [decide_eq_false (show ¬ i + 1 = 0 by omega)] at this
        refine this.mono ?_
        rintro a v I' A' - ⟨k1, k2⟩
        exact ⟨k1, by simpa [List.append_assoc] using k2⟩
      by_cases i0 : i = 0
      · subst i0
        refine c_D.yea 9 (by omega) rfl (by decide) ?_
        refine (rest L1 I1 A1 h1 hw1 (by simp at hl1; omega)).mono ?_
        rintro a v I' A' - ⟨k1, k2⟩
        exact ⟨k1, by simpa [w_ls, List.append_assoc] using k2⟩
      · rw [decide_eq_false i0] at hl1 ⊢
        refine c_D.nay 9 (by omega) rfl (nI_ge (a := 0) (by omega) (by omega)) ?_
        refine c_D.wr (n' := 9) (by omega) rfl (by omega) (k_pw (i := 20) (by decide) hw1 (by show L1.length + 2 ≤ 3120; simp at hl1; omega)) (fun I2 A2 hw2 hf2 => ?_)
        refine (rest _ I2 A2 (h1.frame hf2) hw2 (by show (L1 ++ [44, 32]).length + _ + _ + 1 ≤ _; simp at hl1 ⊢; omega)).mono ?_
        rintro a v I' A' - ⟨k1, k2⟩
        refine ⟨k1, ?_⟩
        have e1 : w_ch 20 (am_sl.getD 20 0) 0 = [44, 32] := rfl
        rw [e1] at k2
        simpa [w_ls, List.append_assoc] using k2
  refine c_D.met rfl rfl ?_
  refine c_D.put (n := 9) (by omega) rfl hw (by omega) ho (fun I1 A1 hw1 hf1 => ?_)
  refine c_D.pla 4 (by omega) rfl ?_
  refine (loop F lo hi x l x 0 _ I1 A1 hE hF hhi hok hht (by omega) (h.frame hf1) hw1 (by simp at hl ⊢; omega)).mono ?_
  rintro a v I' A' - ⟨k1, k2⟩
  exact ⟨k1, by simpa [List.append_assoc] using k2⟩
end CWE
