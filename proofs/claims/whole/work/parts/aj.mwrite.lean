/-! THE REFERENCE WRITES: statements -/
/-- statements in the block b: then the last of them looks for what follows -/
def m_SW (g : List aK) (X : Nat × (Nat → Int32)) (J : Nat → Nat → Int64) (tx : Nat → Int32) (n T : Nat) (tk : Nat → aT) (S : aN) (m : Nat) (P : mP) (f : Nat) : Prop := ∀ (F : aB) (lo hi b d : Nat) (x l : Int32) (L : List Int32) (I A : Nat → Nat → Int32), b_sz F ≤ f → F ≠ b_0 → n_F S true F lo hi x b l (-1) → lo ≤ hi → hi ≤ m → b < m → S 0 b = nI 9 → b_sk (d_mk T tk) T F 1 → d + b_dp F ≤ 9 → m_Vw tx n T tk S m I A J → m_Wr L I A → L.length + (w_m (d_mk T tk) (w_tt tx tk) F 1 d).length ≤ 3000 → (∀ I' A' jl, m_Vw tx n T tk S m I' A' J → m_Wr (L ++ w_m (d_mk T tk) (w_tt tx tk) F 1 d) I' A' → jl < m → S 7 jl = nI b → m_D m_fw m_cx 186 6 g X I' A' J (114, [(3, .int 1), (2, .int (nI jl)), (1, .int (nI d)), (0, .ref 29)], [], am_H g I' A' J X) P) → m_D m_fw m_cx 186 6 g X I A J (14, [(2, .int x), (1, .int (nI d)), (0, .ref 29)], [], am_H g I A J X) P
/-- a compound statement, behind its line's begin: then it looks for what follows it -/
def m_SC (g : List aK) (X : Nat × (Nat → Int32)) (J : Nat → Nat → Int64) (tx : Nat → Int32) (n T : Nat) (tk : Nat → aT) (S : aN) (m : Nat) (P : mP) (f : Nat) : Prop := ∀ (e : Nat) (c : aB) (j a b d : Nat) (L : List Int32) (I A : Nat → Nat → Int32), b_sz c ≤ f → j < m → n_N S true j e c → e / 32 < T → n_F S true c a b (S 4 j) j (S 5 j) (-1) → a ≤ b → b ≤ m → ((e % 32 = 6 ∧ (d_mk T tk (e / 32) = 11 ∨ d_mk T tk (e / 32) = 12) ∧ b_sk (d_mk T tk) T c 2) ∨ (e % 32 = 7 ∧ d_mk T tk (e / 32) = 14 ∧ b_sk (d_mk T tk) T c 4) ∨ (e % 32 = 8 ∧ b_sk (d_mk T tk) T c 3)) → d + b_dp c ≤ 9 → m_Vw tx n T tk S m I A J → m_Wr L I A → L.length + (w_1 (d_mk T tk) (w_tt tx tk) e c d).length ≤ 3000 → (∀ I' A', m_Vw tx n T tk S m I' A' J → m_Wr (L ++ w_1 (d_mk T tk) (w_tt tx tk) e c d) I' A' → m_D m_fw m_cx 186 6 g X I' A' J (226, [(2, .int (nI j)), (1, .int (nI d)), (0, .ref 29)], [], am_H g I' A' J X) P) → m_D m_fw m_cx 186 6 g X I A J (23, [(2, .int (nI j)), (1, .int (nI d)), (0, .ref 29)], [], am_H g I A J X) P
section MWS
variable {g : List aK} {X : Nat × (Nat → Int32)} {J : Nat → Nat → Int64} {tx : Nat → Int32} {n T m : Nat} {tk : Nat → aT} {S : aN} {P : mP}
theorem w_m3 {mk : Nat → Int32} {wt : Nat → List Int32} {j : Nat} : ∀ {c : aB} {lo hi : Nat} {x l : Int32}, lo ≤ hi → n_F S true c lo hi x j l (-1) → b_sk mk T c 3 → ∃ jb eb cb ab bb, l = nI jb ∧ jb < hi ∧ S 7 jb = nI j ∧ S 6 jb = -1 ∧ n_N S true jb eb cb ∧ eb % 32 = 9 ∧ cb ≠ b_0 ∧ b_sk mk T cb 1 ∧ n_F S true cb ab bb (S 4 jb) jb (S 5 jb) (-1) ∧ ab ≤ bb ∧ bb ≤ hi ∧ b_sz cb < b_sz c ∧ b_dp cb + 1 ≤ b_dp c ∧ (∀ d, w_m mk wt c 3 d = w_pm wt c true ++ ([41, 58, 10] ++ w_m mk wt cb 1 (d + 1))) ∧ (∀ d, w_m mk wt c 4 d = w_pm wt c false ++ ([41, 58, 10] ++ w_m mk wt cb 1 (d + 1)))
  | .leaf _, _, _, _, _, _, _, h => by unfold b_sk at h; omega
  | .branch e c s, lo, hi, x, l, hl, hF, h => by
    obtain ⟨j1, a1, b1, g1, g2, g3, g4, g5, g6, g7, g8, g9, g10, g11⟩ := hF
    unfold b_sk at h
    rcases h with ⟨z1, z2, z3, z4⟩ | ⟨z1, z2, z3, z4, z5⟩
    · obtain ⟨jb, eb, cb, ab, bb, q1, q2, q3, q4, q5, q6, q7, q8, q9, q10, q11, q12, q12', q13, q14⟩ := w_m3 (wt := wt) (by omega) g11 z4
      refine ⟨jb, eb, cb, ab, bb, q1, q2, q3, q4, q5, q6, q7, q8, q9, q10, q11, by simp only [b_sz]; omega, by simp only [b_dp]; omega, fun d => ?_, fun d => ?_⟩
      · simp only [w_m, w_pm, if_pos z1]
        rw [q14 d]
        simp [List.append_assoc]
      · simp only [w_m, w_pm, if_pos z1]
        rw [q14 d]
        simp [List.append_assoc]
    · subst z5
      refine ⟨j1, e, c, a1, b1, g7 rfl, by omega, g8, g11, g9, z1, z2, z4, g10, by omega, g4, by simp only [b_sz]; omega, by simp only [b_dp, if_pos z1]; omega, fun d => ?_, fun d => ?_⟩
      · simp only [w_m, w_pm]
        rw [if_neg (by omega), if_neg (by omega)]
        rfl
      · simp only [w_m, w_pm]
        rw [if_neg (by omega), if_neg (by omega)]
        rfl
variable {I A : Nat → Nat → Int32}
/-- from a block's last statement to the block and its owner -/
theorem y_own {d jl b j : Nat} (hm : m ≤ 300) (h : m_Vw tx n T tk S m I A J) (hj : jl < m) (h7 : S 7 jl = nI b) (hb : b < m) (h7b : S 7 b = nI j) (hj0 : j < m) (k : m_D m_fw m_cx 186 6 g X I A J (147, [(5, .int (nI j)), (4, .int (nI b)), (3, .int 1), (2, .int (nI jl)), (1, .int (nI d)), (0, .ref 29)], [], am_H g I A J X) P) : m_D m_fw m_cx 186 6 g X I A J (114, [(3, .int 1), (2, .int (nI jl)), (1, .int (nI d)), (0, .ref 29)], [], am_H g I A J X) P := by
  have e1 : A 45 (nI jl).toNatClampNeg = nI b := by rw [nI_clamp (by omega)]; exact (h.at (f := 7) (by decide)).trans h7
  have e2 : A 45 (nI b).toNatClampNeg = nI j := by rw [nI_clamp (by omega)]; exact (h.at (f := 7) (by decide)).trans h7b
  refine m_D.nay 9 (by decide) rfl (by decide) ?_
  refine m_D.nee 9 (by decide) rfl (nI_in (show jl < 400 by omega) (by decide)) ?_
  rw [e1]
  refine m_D.nee 9 (by decide) rfl (nI_in (show b < 400 by omega) (by decide)) ?_
  rw [e2]
  exact m_D.yea 9 (by decide) rfl (nI_le (a := 0) (Nat.zero_le _) (by omega)) k
/-- nothing follows the block -/
theorem y_shut {d jl b j : Nat} (hm : m ≤ 300) (h : m_Vw tx n T tk S m I A J) (hb : b < m) (h6 : S 6 b = -1) (k : m_D m_fw m_cx 186 6 g X I A J (226, [(2, .int (nI j)), (1, .int (nI d)), (0, .ref 29)], [], am_H g I A J X) P) : m_D m_fw m_cx 186 6 g X I A J (147, [(5, .int (nI j)), (4, .int (nI b)), (3, .int 1), (2, .int (nI jl)), (1, .int (nI (d + 1))), (0, .ref 29)], [], am_H g I A J X) P := by
  have e1 : A 44 (nI b).toNatClampNeg = -1 := by rw [nI_clamp (by omega)]; exact (h.at (f := 6) (by decide)).trans h6
  refine m_D.nee 9 (by decide) rfl (nI_in (show b < 400 by omega) (by decide)) ?_
  rw [e1]
  refine m_D.yea 9 (by decide) rfl (by decide) ?_
  refine m_D.pla 3 (by decide) rfl ?_
  rw [nI_dec]
  refine m_D.sub [0, 1, 5] rfl ?_
  exact k
/-- the line of the statement at j is begun -/
theorem y_beg {d j : Nat} {L : List Int32} (hj : j < 400) (hd : d < 100) (h : m_Vw tx n T tk S m I A J) (hw : m_Wr L I A) (hl : L.length + 2 * d ≤ 3000) (k : ∀ I' A', m_Vw tx n T tk S m I' A' J → m_Wr (L ++ w_id d) I' A' → m_D m_fw m_cx 186 6 g X I' A' J (23, [(2, .int (nI j)), (1, .int (nI d)), (0, .ref 29)], [], am_H g I' A' J X) P) : m_D m_fw m_cx 186 6 g X I A J (14, [(2, .int (nI j)), (1, .int (nI d)), (0, .ref 29)], [], am_H g I A J X) P := by
  refine m_D.nay 9 (by decide) rfl (nI_pos (by omega)) ?_
  refine m_D.wr (n' := 9) (fun _ z => z) m_cwx (by decide) rfl (by decide) (y_ind (lv := d) hw hl (by omega)) (fun I1 A1 hw1 hf1 => ?_)
  exact k I1 A1 (h.fw hf1) hw1
theorem y_sc_c (hV : w_V tx n T tk) (hU : w_U tx T tk) (hm : m ≤ 300) {f : Nat} (hW : m_SW g X J tx n T tk S m P f) (hC : m_SC g X J tx n T tk S m P f) {e : Nat} {c : aB} {j a b d : Nat} {L : List Int32} (hsz : b_sz c ≤ f + 1) (hj : j < m) (hn : n_N S true j e c) (ht : e / 32 < T) (hF : n_F S true c a b (S 4 j) j (S 5 j) (-1)) (hab : a ≤ b) (hb : b ≤ m) (hk : (e % 32 = 6 ∧ (d_mk T tk (e / 32) = 11 ∨ d_mk T tk (e / 32) = 12) ∧ b_sk (d_mk T tk) T c 2) ∨ (e % 32 = 7 ∧ d_mk T tk (e / 32) = 14 ∧ b_sk (d_mk T tk) T c 4)) (hd : d + b_dp c ≤ 9) (h : m_Vw tx n T tk S m I A J) (hw : m_Wr L I A) (hl : L.length + (w_1 (d_mk T tk) (w_tt tx tk) e c d).length ≤ 3000) (k : ∀ I' A', m_Vw tx n T tk S m I' A' J → m_Wr (L ++ w_1 (d_mk T tk) (w_tt tx tk) e c d) I' A' → m_D m_fw m_cx 186 6 g X I' A' J (226, [(2, .int (nI j)), (1, .int (nI d)), (0, .ref 29)], [], am_H g I' A' J X) P) : m_D m_fw m_cx 186 6 g X I A J (23, [(2, .int (nI j)), (1, .int (nI d)), (0, .ref 29)], [], am_H g I A J X) P := by
  have hcb : ∃ e1 c1 e2 c2 s, c = .branch e1 c1 (.branch e2 c2 s) ∧ b_sh (d_mk T tk) e1 c1 ∧ e1 / 32 < T ∧ b_ok (d_mk T tk) T c1 ∧ b_ht c1 + 1 ≤ 10 ∧ e2 % 32 = 9 ∧ c2 ≠ b_0 ∧ b_sk (d_mk T tk) T c2 1 ∧ (s = b_0 ∨ (e % 32 = 6 ∧ b_sk (d_mk T tk) T s 7)) := by
    have h2 : (e % 32 = 6 ∧ b_sk (d_mk T tk) T c 2) ∨ b_sk (d_mk T tk) T c 4 := by
      rcases hk with z | z
      · exact Or.inl ⟨z.1, z.2.2⟩
      · exact Or.inr z.2.2
    cases c with
    | leaf u =>
      rcases h2 with ⟨-, z⟩ | z
      · unfold b_sk at z; omega
      · unfold b_sk at z; omega
    | branch e1 c1 s1 =>
      cases s1 with
      | leaf u =>
        rcases h2 with ⟨-, z⟩ | z
        · unfold b_sk at z
          have := z.2.2.2.2
          unfold b_sk at this
          omega
        · unfold b_sk at z
          have := z.2.2.2.2
          unfold b_sk at this
          omega
      | branch e2 c2 s =>
        rcases h2 with ⟨z6, z⟩ | z
        · unfold b_sk at z
          obtain ⟨q1, q2, q3, q4, q5⟩ := z
          unfold b_sk at q5
          exact ⟨e1, c1, e2, c2, s, rfl, q1, q2, q3, q4, q5.1, q5.2.1, q5.2.2.2.1, q5.2.2.2.2.imp id (fun w => ⟨z6, w⟩)⟩
        · unfold b_sk at z
          obtain ⟨q1, q2, q3, q4, q5⟩ := z
          unfold b_sk at q5
          exact ⟨e1, c1, e2, c2, s, rfl, q1, q2, q3, q4, q5.1, q5.2.1, q5.2.2.2.1, Or.inl q5.2.2.2.2⟩
  have hk67 : e % 32 = 6 ∨ e % 32 = 7 := by omega
  obtain ⟨e1, c1, e2, c2, s, rfl, q1, q2, q3, q4, q5, q6, q7, q8⟩ := hcb
  obtain ⟨j1, a1, b1, g1, g2, g3, g4, g5, g6, g7, g8, g9, g10, j2, a2, b2, p1, p2, p3, p4, p5, p6, p7, p8, p9, p10, p11⟩ := hF
  have ej : (nI j).toNatClampNeg = j := nI_clamp (by omega)
  have hin : ¬ (nI j < 0 ∨ 400 ≤ (nI j).toNatClampNeg) := nI_in (show j < 400 by omega) (by decide)
  have hin1 : ¬ (nI j1 < 0 ∨ 400 ≤ (nI j1).toNatClampNeg) := nI_in (show j1 < 400 by omega) (by decide)
  have hin2 : ¬ (nI j2 < 0 ∨ 400 ≤ (nI j2).toNatClampNeg) := nI_in (show j2 < 400 by omega) (by decide)
  simp only [b_sz] at hsz
  simp only [b_dp, if_pos q5] at hd
  have hw1 : w_1 (d_mk T tk) (w_tt tx tk) e (.branch e1 c1 (.branch e2 c2 s)) d = (w_tt tx tk (e / 32) ++ (32 :: (w_e (d_mk T tk) (w_tt tx tk) e1 c1 ++ [58, 10]))) ++ (w_m (d_mk T tk) (w_tt tx tk) c2 1 (d + 1) ++ w_m (d_mk T tk) (w_tt tx tk) s 7 d) := by
    unfold w_1
    rw [if_pos hk67]
    simp [w_m, List.append_assoc]
  rw [hw1] at hl k
  simp only [List.length_append, List.length_cons, List.length_nil] at hl
  refine m_D.cav (n := 9) (by decide) rfl (y_cpd h hj hn) (by decide) m_Fr.refl ?_
  refine m_D.nay 9 (by decide) rfl (by rw [decide_eq_true (show 6 ≤ e % 32 ∧ e % 32 ≤ 8 by omega)]; decide) ?_
  refine m_D.wr (n' := 9) (fun _ z => z) (fun _ z => z) (by decide) rfl (by decide) (y_wh hV hU hj hn ht (by rcases hk with z | z; exact Or.inl ⟨z.1, z.2.1⟩; exact Or.inr ⟨z.1, z.2.1⟩) g6 (show j1 < m by omega) g9 g10 (by omega) (by omega) q1 q2 q3 q4 h hw (by omega)) (fun I1 A1 hw1 hf1 => ?_)
  have h1 := h.frame hf1 rfl
  have e39 : A1 39 (nI j).toNatClampNeg = nI (e % 32) := by rw [ej]; exact (h1.at (f := 0) (by decide)).trans hn.1
  have e42 : A1 42 (nI j).toNatClampNeg = nI j1 := by rw [ej]; exact (h1.at (f := 4) (by decide)).trans g6
  have e44 : A1 44 (nI j1).toNatClampNeg = nI j2 := by rw [nI_clamp (by omega)]; exact (h1.at (f := 6) (by decide)).trans p6
  have e42' : A1 42 (nI j2).toNatClampNeg = S 4 j2 := by rw [nI_clamp (by omega)]; exact h1.at (f := 4) (by decide)
  refine m_D.nee 9 (by decide) rfl hin ?_
  rw [e39]
  refine m_D.yea 9 (by decide) rfl (nI_nv (b := 8) (by omega) (by decide) (by omega)) ?_
  refine m_D.nee 9 (by decide) rfl hin ?_
  rw [e42]
  refine m_D.nee 9 (by decide) rfl hin1 ?_
  rw [e44]
  refine m_D.nee 9 (by decide) rfl hin2 ?_
  rw [e42']
  refine m_D.pla 3 (by decide) rfl ?_
  rw [nI_1]
  refine m_D.sub [1, 0, 2] rfl ?_
  refine hW c2 a2 b2 j2 (d + 1) (S 4 j2) (S 5 j2) _ I1 A1 (by omega) q6 p10 (by omega) (by omega) (by omega) (by rw [← q5]; exact p9.1) q7 (by omega) h1 hw1 (by simp only [List.length_append, List.length_cons, List.length_nil]; omega) ?_
  intro I2 A2 jl h2 hw2 hjl h7
  refine y_own hm h2 hjl h7 (show j2 < m by omega) p8 hj ?_
  cases s with
  | leaf u =>
    have h6 : S 6 j2 = -1 := p11
    refine y_shut hm h2 (by omega) h6 ?_
    refine k I2 A2 h2 ?_
    simpa [w_m, List.append_assoc] using hw2
  | branch e3 c3 s3 =>
    obtain ⟨e6, q9⟩ := q8.resolve_left (by simp)
    clear q8
    obtain ⟨j3, a3, b3, r1, r2, r3, r4, r5, r6, r7, r8, r9, r10, r11⟩ := p11
    unfold b_sk at q9
    obtain ⟨hs3, q10⟩ := q9
    subst hs3
    simp only [b_sz] at hsz
    simp only [b_dp] at hd
    have hin3 : ¬ (nI j3 < 0 ∨ 400 ≤ (nI j3).toNatClampNeg) := nI_in (show j3 < 400 by omega) (by decide)
    have ej3 : (nI j3).toNatClampNeg = j3 := nI_clamp (by omega)
    have f44 : A2 44 (nI j2).toNatClampNeg = nI j3 := by rw [nI_clamp (by omega)]; exact (h2.at (f := 6) (by decide)).trans r6
    have f39 : A2 39 (nI j3).toNatClampNeg = nI (e3 % 32) := by rw [ej3]; exact (h2.at (f := 0) (by decide)).trans r9.1
    refine m_D.nee 9 (by decide) rfl hin2 ?_
    rw [f44]
    refine m_D.nay 9 (by decide) rfl (nI_pos (by omega)) ?_
    refine m_D.nee 9 (by decide) rfl hin2 ?_
    rw [f44]
    refine m_D.nee 9 (by decide) rfl hin3 ?_
    rw [f39]
    simp only [w_m, List.length_append, w_id_len] at hl
    simp only [w_m] at k
    rcases q10 with ⟨z1, z2, z3, z4⟩ | ⟨z1, z2, z3, z4⟩
    · rw [if_pos z1] at hl k
      simp only [List.length_append, List.length_cons] at hl
      refine m_D.yea 9 (by decide) rfl (nI_nv (b := 9) (by omega) (by decide) (by omega)) ?_
      refine m_D.pla 5 (by decide) rfl ?_
      rw [nI_dec]
      refine m_D.yea 9 (by decide) rfl (by decide) ?_
      refine m_D.pla 1 (by decide) rfl ?_
      refine m_D.sub [2, 1, 5] rfl ?_
      refine y_beg (by omega) (by omega) h2 hw2 (by simp only [List.length_append, List.length_cons, List.length_nil]; omega) ?_
      intro I3 A3 h3 hw3
      refine hC e3 c3 j3 a3 b3 d _ I3 A3 (by omega) (by omega) r9 z3 r10 (by omega) (by omega) (Or.inl ⟨z1, Or.inr z2, z4⟩) (by omega) h3 hw3 (by unfold w_1; rw [if_pos (Or.inl z1)]; simp only [List.length_append, List.length_cons, List.length_nil, w_id_len]; omega) ?_
      intro I4 A4 h4 hw4
      have v45 : A4 45 (nI j3).toNatClampNeg = nI j := by rw [ej3]; exact (h4.at (f := 7) (by decide)).trans r8
      have v39 : A4 39 (nI j).toNatClampNeg = nI 6 := by rw [ej, ← e6]; exact (h4.at (f := 0) (by decide)).trans hn.1
      refine m_D.nee 9 (by decide) rfl hin3 ?_
      rw [v45]
      refine m_D.nee 9 (by decide) rfl hin ?_
      rw [v39]
      refine m_D.nay 9 (by decide) rfl (by decide) ?_
      refine m_D.nee 9 (by decide) rfl hin3 ?_
      rw [v45]
      refine m_D.pla 2 (by decide) rfl ?_
      refine k I4 A4 h4 ?_
      unfold w_1 at hw4
      rw [if_pos (Or.inl z1)] at hw4
      simpa [List.append_assoc] using hw4
    · rw [if_neg (by omega)] at hl k
      rw [if_pos z1] at hd
      simp only [List.length_append, List.length_cons, List.length_nil] at hl
      have eW : w_wd 0x656C7365 7 false = [101, 108, 115, 101] := by decide +kernel
      refine m_D.nay 9 (by decide) rfl (by rw [z1]; decide) ?_
      refine m_D.wr (n' := 9) (fun _ z => z) m_cwx (by decide) (by rw [← nI_pred d]; rfl) (by decide) (y_ind (lv := d) hw2 (by simp only [List.length_append, List.length_cons, List.length_nil]; omega) (by omega)) (fun I3 A3 hw3 hf3 => ?_)
      refine m_D.wr (n' := 9) (fun _ z => z) m_cwx (by decide) rfl (by decide) (y_pw (w := 0x656C7365) hw3 (by rw [eW]; simp; omega)) (fun I4 A4 hw4 hf4 => ?_)
      rw [eW] at hw4
      refine m_D.putg (n' := 9) (by decide) (by decide) (by decide) rfl hw4 (by simp; omega) (fun I5 A5 hw5 hf5 => ?_)
      refine m_D.putg (n' := 9) (by decide) (by decide) (by decide) rfl hw5 (by simp; omega) (fun I6 A6 hw6 hf6 => ?_)
      have h6 := (((h2.fw hf3).fw hf4).fw hf5).fw hf6
      have v42 : A6 42 (nI j3).toNatClampNeg = S 4 j3 := by rw [ej3]; exact h6.at (f := 4) (by decide)
      refine m_D.nee 9 (by decide) rfl hin3 ?_
      rw [v42]
      refine m_D.pla 6 (by decide) rfl ?_
      refine m_D.yea 9 (by decide) rfl (by decide) ?_
      refine m_D.pla 1 (by decide) rfl ?_
      refine m_D.sub [1, 4, 5] rfl ?_
      refine hW c3 a3 b3 j3 (d + 1) (S 4 j3) (S 5 j3) _ I6 A6 (by omega) z2 r10 (by omega) (by omega) (by omega) (by rw [← z1]; exact r9.1) z4 (by omega) h6 hw6 (by simp; omega) ?_
      intro I7 A7 jl2 h7 hw7 hjl2 h72
      refine y_own hm h7 hjl2 h72 (show j3 < m by omega) r8 hj ?_
      refine y_shut hm h7 (by omega) r11 ?_
      refine k I7 A7 h7 ?_
      have e3 : List.replicate (2 * d) (32 : Int32) = w_id d := rfl
      rw [e3] at hw7
      simpa [List.append_assoc] using hw7
end MWS
