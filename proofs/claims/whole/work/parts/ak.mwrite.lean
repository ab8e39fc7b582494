/-! THE REFERENCE WRITES: the whole -/
section MWW
variable {g : List aK} {X : Nat × (Nat → Int32)} {J : Nat → Nat → Int64} {tx : Nat → Int32} {n T m : Nat} {tk : Nat → aT} {S : aN} {P : mP} {I A : Nat → Nat → Int32}
theorem y_sc_d (hV : w_V tx n T tk) (hm : m ≤ 300) {f : Nat} (hW : m_SW g X J tx n T tk S m P f) {e : Nat} {c : aB} {j a b d : Nat} {L : List Int32} (hsz : b_sz c ≤ f + 1) (hj : j < m) (hn : n_N S true j e c) (ht : e / 32 < T) (hF : n_F S true c a b (S 4 j) j (S 5 j) (-1)) (hab : a ≤ b) (hb : b ≤ m) (hk : e % 32 = 8) (hc : b_sk (d_mk T tk) T c 3) (hd : d + b_dp c ≤ 9) (h : m_Vw tx n T tk S m I A J) (hw : m_Wr L I A) (hl : L.length + (w_1 (d_mk T tk) (w_tt tx tk) e c d).length ≤ 3000) (k : ∀ I' A', m_Vw tx n T tk S m I' A' J → m_Wr (L ++ w_1 (d_mk T tk) (w_tt tx tk) e c d) I' A' → m_D m_fw m_cx 186 6 g X I' A' J (226, [(2, .int (nI j)), (1, .int (nI d)), (0, .ref 29)], [], am_H g I' A' J X) P) : m_D m_fw m_cx 186 6 g X I A J (23, [(2, .int (nI j)), (1, .int (nI d)), (0, .ref 29)], [], am_H g I A J X) P := by
  obtain ⟨jb, eb, cb, ab, bb, q1, q2, q3, q4, q5, q6, q7, q8, q9, q10, q11, q12, q12', q13, q14⟩ := w_m3 (wt := w_tt tx tk) hab hF hc
  have ej : (nI j).toNatClampNeg = j := nI_clamp (by omega)
  have hin : ¬ (nI j < 0 ∨ 400 ≤ (nI j).toNatClampNeg) := nI_in (show j < 400 by omega) (by decide)
  have hinb : ¬ (nI jb < 0 ∨ 400 ≤ (nI jb).toNatClampNeg) := nI_in (show jb < 400 by omega) (by decide)
  have hw1 : w_1 (d_mk T tk) (w_tt tx tk) e c d = ([100, 101, 102, 32] ++ (w_tt tx tk (e / 32) ++ (40 :: (w_pm (w_tt tx tk) c true ++ [41, 58, 10])))) ++ w_m (d_mk T tk) (w_tt tx tk) cb 1 (d + 1) := by
    unfold w_1
    rw [if_neg (by omega), if_pos hk, q13 d]
    simp [List.append_assoc]
  rw [hw1] at hl k
  simp only [List.length_append, List.length_cons, List.length_nil] at hl
  refine m_D.cav (n := 9) (by decide) rfl (y_cpd h hj hn) (by decide) m_Fr.refl ?_
  refine m_D.nay 9 (by decide) rfl (by rw [decide_eq_true (show 6 ≤ e % 32 ∧ e % 32 ≤ 8 by omega)]; decide) ?_
  refine m_D.wr (n' := 9) (fun _ z => z) (fun _ z => z) (by decide) rfl (by decide) (y_wd hV hj hn ht hk hF hab hb hc h hw (by omega)) (fun I1 A1 hw1 hf1 => ?_)
  have h1 := h.frame hf1 rfl
  have e39 : A1 39 (nI j).toNatClampNeg = nI 8 := by rw [ej, ← hk]; exact (h1.at (f := 0) (by decide)).trans hn.1
  have e43 : A1 43 (nI j).toNatClampNeg = nI jb := by rw [ej]; exact (h1.at (f := 5) (by decide)).trans q1
  have e42' : A1 42 (nI jb).toNatClampNeg = S 4 jb := by rw [nI_clamp (by omega)]; exact h1.at (f := 4) (by decide)
  refine m_D.nee 9 (by decide) rfl hin ?_
  rw [e39]
  refine m_D.nay 9 (by decide) rfl (by decide) ?_
  refine m_D.nee 9 (by decide) rfl hin ?_
  rw [e43]
  refine m_D.nee 9 (by decide) rfl hinb ?_
  rw [e42']
  refine m_D.pla 3 (by decide) rfl ?_
  rw [nI_1]
  refine m_D.sub [1, 0, 2] rfl ?_
  refine hW cb ab bb jb (d + 1) (S 4 jb) (S 5 jb) _ I1 A1 (by omega) q7 q9 q10 (by omega) (by omega) (by rw [← q6]; exact q5.1) q8 (by omega) h1 hw1 (by simp only [List.length_append, List.length_cons, List.length_nil]; omega) ?_
  intro I2 A2 jl h2 hw2 hjl h7
  refine y_own hm h2 hjl h7 (show jb < m by omega) q3 hj ?_
  refine y_shut hm h2 (by omega) q4 ?_
  refine k I2 A2 h2 ?_
  simpa [List.append_assoc] using hw2
/-- what follows the statement at j in its block -/
theorem y_sw1 (hV : w_V tx n T tk) (hm : m ≤ 300) {f : Nat} (hW : m_SW g X J tx n T tk S m P f) (hC : m_SC g X J tx n T tk S m P f) : m_SW g X J tx n T tk S m P (f + 1) := by
  intro F lo hi b d x l L I A hsz hF0 hF hlh hhi hb h0 hsk hd h hw hl k
  cases F with
  | leaf u => exact absurd rfl hF0
  | branch e c s =>
    obtain ⟨j, a, b', g1, g2, g3, g4, g5, g6, g7, g8, g9, g10, g11⟩ := hF
    subst g6
    simp only [b_sz] at hsz
    simp only [b_dp] at hd
    have hwm : w_m (d_mk T tk) (w_tt tx tk) (.branch e c s) 1 d = w_id d ++ (w_1 (d_mk T tk) (w_tt tx tk) e c d ++ w_m (d_mk T tk) (w_tt tx tk) s 1 d) := by
      unfold w_1
      simp only [w_m]
    rw [hwm] at hl k
    simp only [List.length_append, w_id_len] at hl
    have hsk' := hsk
    unfold b_sk at hsk'
    obtain ⟨hs1, ht, hc⟩ := hsk'
    have ej : (nI j).toNatClampNeg = j := nI_clamp (by omega)
    have hin : ¬ (nI j < 0 ∨ 400 ≤ (nI j).toNatClampNeg) := nI_in (show j < 400 by omega) (by decide)
    have hinb : ¬ (nI b < 0 ∨ 400 ≤ (nI b).toNatClampNeg) := nI_in (show b < 400 by omega) (by decide)
    have e44 : ∀ {I1 A1 : Nat → Nat → Int32}, m_Vw tx n T tk S m I1 A1 J → A1 44 (nI j).toNatClampNeg = S 6 j := fun h1 => by rw [ej]; exact h1.at (f := 6) (by decide)
    refine y_beg (by omega) (by omega) h hw (by omega) ?_
    intro I1 A1 h1 hw1
    have comp : ((e % 32 = 6 ∧ (d_mk T tk (e / 32) = 11 ∨ d_mk T tk (e / 32) = 12) ∧ b_sk (d_mk T tk) T c 2) ∨ (e % 32 = 7 ∧ d_mk T tk (e / 32) = 14 ∧ b_sk (d_mk T tk) T c 4) ∨ (e % 32 = 8 ∧ b_sk (d_mk T tk) T c 3)) → m_D m_fw m_cx 186 6 g X I1 A1 J (23, [(2, .int (nI j)), (1, .int (nI d)), (0, .ref 29)], [], am_H g I1 A1 J X) P := by
      intro hcc
      refine hC e c j a b' d _ I1 A1 (by omega) (by omega) g9 ht g10 (by omega) (by omega) hcc (by omega) h1 hw1 (by simp only [List.length_append, w_id_len]; omega) ?_
      intro I2 A2 h2 hw2
      have v45 : A2 45 (nI j).toNatClampNeg = nI b := by rw [ej]; exact (h2.at (f := 7) (by decide)).trans g8
      have v39 : A2 39 (nI b).toNatClampNeg = nI 9 := by rw [nI_clamp (by omega)]; exact (h2.at (f := 0) (by decide)).trans h0
      refine m_D.nee 9 (by decide) rfl hin ?_
      rw [v45]
      refine m_D.nee 9 (by decide) rfl hinb ?_
      rw [v39]
      refine m_D.yea 9 (by decide) rfl (by decide) ?_
      refine m_D.nee 9 (by decide) rfl hin ?_
      rw [e44 h2]
      cases s with
      | leaf u =>
        have h6 : S 6 j = -1 := g11
        rw [h6]
        refine m_D.nay 9 (by decide) rfl (by decide) ?_
        refine m_D.nay 9 (by decide) rfl (by decide) ?_
        refine m_D.pla 4 (by decide) rfl ?_
        refine m_D.sub [1, 0, 2, 3] rfl ?_
        exact k I2 A2 j h2 (by simpa [w_m, List.append_assoc] using hw2) (by omega) g8
      | branch e2 c2 s2 =>
        have g11' := g11
        obtain ⟨j2, a2, b2, r1, r2, r3, r4, r5, r6, -⟩ := g11'
        rw [r6]
        refine m_D.yea 9 (by decide) rfl (nI_le (a := 0) (Nat.zero_le _) (by omega)) ?_
        refine m_D.yea 9 (by decide) rfl (by decide) ?_
        refine m_D.nee 9 (by decide) rfl hin ?_
        rw [e44 h2]
        refine m_D.pla 2 (by decide) rfl ?_
        refine m_D.yea 9 (by decide) rfl (by decide) ?_
        refine m_D.pla 1 (by decide) rfl ?_
        refine m_D.sub [0, 2, 3] rfl ?_
        refine hW _ b' hi b d (S 6 j) l _ I2 A2 (by omega) (by simp) g11 (by omega) hhi hb h0 hs1 (by omega) h2 hw2 (by simp only [List.length_append, w_id_len]; omega) ?_
        intro I3 A3 jl h3 hw3 hjl h7
        exact k I3 A3 jl h3 (by simpa [List.append_assoc] using hw3) hjl h7
    have small : 1 ≤ e % 32 ∧ e % 32 < 6 → ((c = b_0 ∧ e % 32 ≠ 4 ∧ e % 32 ≠ 5) ∨ (b_x (d_mk T tk) T c ∧ 3 ≤ e % 32)) → m_D m_fw m_cx 186 6 g X I1 A1 J (23, [(2, .int (nI j)), (1, .int (nI d)), (0, .ref 29)], [], am_H g I1 A1 J X) P := by
      intro z1 z2
      have hw1' : w_1 (d_mk T tk) (w_tt tx tk) e c d = w_sm (d_mk T tk) (w_tt tx tk) e c := by
        unfold w_1
        rw [if_neg (by omega), if_neg (by omega)]
      rw [hw1'] at hl k
      refine m_D.cav (n := 9) (by decide) rfl (y_cpd h1 (show j < m by omega) g9) (by decide) m_Fr.refl ?_
      refine m_D.yea 9 (by decide) rfl (by rw [decide_eq_false (show ¬ (6 ≤ e % 32 ∧ e % 32 ≤ 8) by omega)]; decide) ?_
      refine m_D.wr (n' := 9) (fun _ z => z) (fun _ z => z) (by decide) rfl (by decide) (y_sml hV (show j < m by omega) g9 ht g10 (by omega) (by omega) z1 z2 h1 hw1 (by simp only [List.length_append, w_id_len]; omega)) (fun I2 A2 hw2 hf2 => ?_)
      have h2 := h1.frame hf2 rfl
      refine m_D.nee 9 (by decide) rfl hin ?_
      rw [e44 h2]
      cases s with
      | leaf u =>
        have h6 : S 6 j = -1 := g11
        rw [h6]
        refine m_D.nay 9 (by decide) rfl (by decide) ?_
        refine m_D.nay 9 (by decide) rfl (by decide) ?_
        refine m_D.pla 3 (by decide) rfl ?_
        refine m_D.sub [1, 0, 2, 3] rfl ?_
        exact k I2 A2 j h2 (by simpa [w_m, List.append_assoc] using hw2) (by omega) g8
      | branch e2 c2 s2 =>
        have g11' := g11
        obtain ⟨j2, a2, b2, r1, r2, r3, r4, r5, r6, -⟩ := g11'
        rw [r6]
        refine m_D.yea 9 (by decide) rfl (nI_le (a := 0) (Nat.zero_le _) (by omega)) ?_
        refine m_D.yea 9 (by decide) rfl (by decide) ?_
        refine m_D.nee 9 (by decide) rfl hin ?_
        rw [e44 h2]
        refine m_D.yea 9 (by decide) rfl (by decide) ?_
        refine m_D.pla 1 (by decide) rfl ?_
        refine m_D.sub [0, 2, 3] rfl ?_
        refine hW _ b' hi b d (S 6 j) l _ I2 A2 (by omega) (by simp) g11 (by omega) hhi hb h0 hs1 (by omega) h2 hw2 (by simp only [List.length_append, w_id_len]; omega) ?_
        intro I3 A3 jl h3 hw3 hjl h7
        exact k I3 A3 jl h3 (by simpa [List.append_assoc] using hw3) hjl h7
    rcases hc with z | z | z | z | z | z | z | z
    · exact small (by omega) (Or.inl ⟨z.2.2, by omega, by omega⟩)
    · exact small (by omega) (Or.inl ⟨z.2.2, by omega, by omega⟩)
    · rcases z.2.2 with q | q
      · exact small (by omega) (Or.inl ⟨q, by omega, by omega⟩)
      · exact small (by omega) (Or.inr ⟨q, by omega⟩)
    · exact small (by omega) (Or.inr ⟨z.2, by omega⟩)
    · exact small (by omega) (Or.inr ⟨z.2.1, by omega⟩)
    · exact comp (Or.inl ⟨z.1, Or.inl z.2.1, z.2.2⟩)
    · exact comp (Or.inr (Or.inl z))
    · exact comp (Or.inr (Or.inr z))
theorem y_sws (hV : w_V tx n T tk) (hU : w_U tx T tk) (hm : m ≤ 300) : ∀ f, m_SW g X J tx n T tk S m P f ∧ m_SC g X J tx n T tk S m P f
  | 0 => by
    refine ⟨fun F lo hi b d x l L I A hsz hF0 => ?_, fun e c j a b d L I A hsz hj hn ht hF hab hb hk => ?_⟩
    · cases F with
      | leaf u => exact absurd rfl hF0
      | branch e c s => simp [b_sz] at hsz
    · cases c with
      | leaf u =>
        rcases hk with z | z | z
        · have := z.2.2; unfold b_sk at this; omega
        · have := z.2.2; unfold b_sk at this; omega
        · have := z.2; unfold b_sk at this; omega
      | branch e c s => simp [b_sz] at hsz
  | f + 1 => by
    obtain ⟨h1, h2⟩ := y_sws hV hU hm f
    refine ⟨y_sw1 hV hm h1 h2, fun e c j a b d L I A hsz hj hn ht hF hab hb hk hd h hw hl k => ?_⟩
    rcases hk with z | z | z
    · exact y_sc_c hV hU hm h1 h2 hsz hj hn ht hF hab hb (Or.inl z) hd h hw hl k
    · exact y_sc_c hV hU hm h1 h2 hsz hj hn ht hF hab hb (Or.inr z) hd h hw hl k
    · exact y_sc_d hV hm h1 hsz hj hn ht hF hab hb z.1 z.2 hd h hw hl k
theorem y_write (hV : w_V tx n T tk) (hU : w_U tx T tk) {c : aB} {a b : Nat} (hsk : b_sk (d_mk T tk) T c 1) (hdp : b_dp c ≤ 9) (hm0 : 0 < m) (hb : b ≤ m) (hab : a ≤ b) (hF : n_F S true c a b (S 4 0) 0 (S 5 0) (-1)) (h7 : S 7 0 = -1) (h0 : S 0 0 = nI 9) (h : m_Vw tx n T tk S m I A J) (hl : (w_m (d_mk T tk) (w_tt tx tk) c 1 0).length ≤ 3000) : m_M m_fw m_cx 6 186 [.ref 29] g I A J X (m_Wt (w_m (d_mk T tk) (w_tt tx tk) c 1 0) [] J) := by
  have hm := h.2.2.1
  have hf0 : m_Fr m_fw m_cx I A J (am_u I 29 39 0) A J := m_Fr.put (by decide)
  have hw0 : m_Wr [] (am_u I 29 39 0) A := ⟨am_uk, fun k hk => absurd hk (Nat.not_lt_zero _)⟩
  have h1 := h.frame hf0 rfl
  have e42 : A 42 (0 : Int32).toNatClampNeg = S 4 0 := h1.at (f := 4) (k := 0) (by decide)
  refine m_D.met rfl rfl ?_
  refine m_D.nee 12 (by decide) rfl (nI_in (show 0 < 400 by omega) (by decide)) ?_
  rw [e42]
  refine m_D.pla 1 (by decide) rfl ?_
  refine m_D.heap hf0 ?_
  cases c with
  | leaf u =>
    have h4 : S 4 0 = -1 := hF
    rw [h4]
    refine m_D.yea 9 (by decide) rfl (by decide) ?_
    exact m_D.ret 9 (by decide) rfl trivial m_Fr.refl ⟨rfl, rfl, by simpa [w_m] using hw0⟩
  | branch e1 c1 s1 =>
    refine (y_sws hV hU hm (b_sz (.branch e1 c1 s1))).1 (.branch e1 c1 s1) a b 0 0 (S 4 0) (S 5 0) [] _ A (Nat.le_refl _) (by simp) hF hab hb hm0 h0 hsk (by omega) h1 hw0 (by simpa using hl) ?_
    intro I2 A2 jl h2 hw2 hjl h72
    have v1 : A2 45 (nI jl).toNatClampNeg = nI 0 := by rw [nI_clamp (by omega)]; exact (h2.at (f := 7) (by decide)).trans h72
    have v2 : A2 45 (nI 0).toNatClampNeg = -1 := (h2.at (f := 7) (k := 0) (by decide)).trans h7
    refine m_D.nay 9 (by decide) rfl (by decide) ?_
    refine m_D.nee 9 (by decide) rfl (nI_in (show jl < 400 by omega) (by decide)) ?_
    rw [v1]
    refine m_D.nee 9 (by decide) rfl (nI_in (show 0 < 400 by omega) (by decide)) ?_
    rw [v2]
    refine m_D.nay 9 (by decide) rfl (by decide) ?_
    refine m_D.yea 9 (by decide) rfl (by decide) ?_
    refine m_D.yea 9 (by decide) rfl (by decide) ?_
    exact m_D.ret 9 (by decide) rfl trivial m_Fr.refl ⟨rfl, rfl, hw2⟩
end MWW
