/-! WHAT SOUND TOKENS MEAN FOR GRAMMAR AND WRITER -/
section SFI
variable {tx : Nat → Int32} {n T : Nat} {tk : Nat → aT}
theorem s_Fi.T0 (h : s_Fi tx n T tk) : 0 < T ∧ T ≤ 120 := by
  obtain ⟨m0, h1, h2, -⟩ := h
  omega
theorem s_Fi.lt (h : s_Fi tx n T tk) {p : Nat} (h9 : d_mk T tk p ≠ 9) (h1 : d_mk T tk p ≠ -1) : p + 1 < T := by
  obtain ⟨m0, rfl, h2, h3, h4, h5, -⟩ := h
  by_cases c : p < m0 + 1
  · have e : d_mk (m0 + 1) tk p = (tk p).2.1 := if_pos c
    by_cases c2 : p = m0
    · subst c2
      exact absurd (e.trans h5) h9
    · omega
  · exact absurd (if_neg c) h1
theorem s_Fi.dW (h : s_Fi tx n T tk) : d_W (d_mk T tk) T := fun p h9 h1 => h.lt h9 h1
theorem s_Fi.dIn (h : s_Fi tx n T tk) : ∀ p, d_mk T tk p = 7 → d_mk T tk (p + 1) ≠ 8 := fun p hp => by
  have hl := h.lt (p := p) (by rw [hp]; decide) (by rw [hp]; decide)
  obtain ⟨m0, rfl, h2, h3, h4, h5, h6, h7, h8, h9, h10⟩ := h
  have e : d_mk (m0 + 1) tk p = (tk p).2.1 := if_pos (by omega)
  have e1 : d_mk (m0 + 1) tk (p + 1) = (tk (p + 1)).2.1 := if_pos (by omega)
  rw [e1]
  by_cases c : p + 1 = m0
  · rw [c, h5]
    decide
  · exact h9 p (by omega) (e.symm.trans hp)
theorem s_Fi.bal (h : s_Fi tx n T tk) : ∀ k, k < T → d_bal (d_mk T tk) k ≤ 8 := fun k hk => by
  obtain ⟨m0, rfl, h2, h3, h4, h5, h6, h7, h8, h9, h10⟩ := h
  have := h8 k (by omega)
  rw [d_bal_ext (mk := s_mk tk) (mk' := d_mk (m0 + 1) tk) (m := k) (fun q hq => if_pos (by omega))]
  exact this
theorem s_Fi.dK (h : s_Fi tx n T tk) : d_K T tk := fun k hk => by
  obtain ⟨m0, rfl, h2, h3, h4, h5, h6, h7, h8, h9, h10⟩ := h
  by_cases c : k = m0
  · subst c
    rw [h4, h5]
    exact ⟨by decide, Or.inl (by decide)⟩
  · have := h3 k (by omega)
    exact ⟨this.2.2.2.1, this.2.2.2.2.2.2⟩
theorem s_rd_tx {i p : Nat} : ∀ {f j : Nat}, p + j + f ≤ n → s_rd tx n i p f j = true → w_tx tx (p + j) f = w_ch i f j
  | 0, _, _, _ => rfl
  | f + 1, j, hn, h => by
    unfold s_rd at h
    split at h
    · next e =>
      have := s_rd_tx (f := f) (j := j + 1) (by omega) h
      rw [s_ch, if_pos (by omega)] at e
      show tx (p + j) :: w_tx tx (p + j + 1) f = am_chr i j :: w_ch i f (j + 1)
      rw [e, ← this]
      rfl
    · cases h
theorem s_is_tx {i p e : Nat} (hn : p + e ≤ n) (h : s_is tx n i p e = true) : w_tx tx p e = w_ch i (am_sl.getD i 0) 0 := by
  unfold s_is at h
  split at h
  · next c =>
    rw [c]
    exact s_rd_tx (j := 0) (by omega) h
  · cases h
theorem s_Fi.wm (h : s_Fi tx n T tk) {k i : Nat} (hk : k < T) (hi : i < 11) (hm : d_mk T tk k = nI (11 + i)) : w_tt tx tk k = w_ch (4 + i) (am_sl.getD (4 + i) 0) 0 := by
  have hl := h.lt (p := k) (by rw [hm]; exact nI_nv (b := 9) (by omega) (by decide) (by omega)) (by rw [hm]; exact nI_m1 (by omega))
  obtain ⟨m0, rfl, h2, h3, -⟩ := h
  have hs := h3 k (by omega)
  have e : d_mk (m0 + 1) tk k = (tk k).2.1 := if_pos (by omega)
  exact s_is_tx hs.1 (hs.2.2.2.2.2.1 i hi (e.symm.trans hm))
theorem s_Fi.wV (h : s_Fi tx n T tk) : w_V tx n T tk := fun k hk => by
  refine ⟨?_, fun z => h.wm (i := 10) hk (by decide) z, fun z => ?_⟩
  · obtain ⟨m0, rfl, h2, h3, h4, h5, h6, h7, -⟩ := h
    by_cases c : k = m0
    · subst c
      omega
    · exact (h3 k (by omega)).1
  · have hl := h.lt (p := k) (by rw [z]; decide) (by rw [z]; decide)
    obtain ⟨m0, rfl, h2, h3, -⟩ := h
    have hs := h3 k (by omega)
    have e : d_mk (m0 + 1) tk k = (tk k).2.1 := if_pos (by omega)
    obtain ⟨q1, q2⟩ := hs.2.2.2.2.1 (e.symm.trans z)
    have hb := hs.1
    unfold w_tt
    rw [q1] at hb ⊢
    rw [s_ch, if_pos (by omega)] at q2
    show [tx (tk k).2.2.1] = [45]
    rw [q2]
theorem s_Fi.wU (h : s_Fi tx n T tk) : w_U tx T tk := fun k hk => ⟨fun z => h.wm (i := 0) hk (by decide) z, fun z => h.wm (i := 1) hk (by decide) z, fun z => h.wm (i := 3) hk (by decide) z⟩
theorem b_P_E : ∀ {p : Nat}, b_P (fun k => (tk k).2.2.2) p = s_E tk p + 19 * p
  | 0 => rfl
  | p + 1 => by
    rw [b_P_s, b_P_E (p := p)]
    show s_E tk p + 19 * p + (tk p).2.2.2 + 19 = s_E tk p + (tk p).2.2.2 + 19 * (p + 1)
    omega
/-- a good reading: its tree is sound, and what is written fits -/
theorem s_Fi.good (h : s_Fi tx n T tk) (hn : n ≤ 600) {e p' : Nat} {c : aB} (hd : d_st (d_mk T tk) (d_pc tk) 9 9 0 = .ok (e, c, p')) : b_sk (d_mk T tk) T c 1 ∧ b_dp c ≤ 9 ∧ b_sz c ≤ 238 ∧ e = 9 + 32 * d_bt c 0 ∧ (c = b_0 → T = 1) ∧ (w_m (d_mk T tk) (w_tt tx tk) c 1 0).length ≤ 2900 := by
  obtain ⟨p2, q1, q2, q3, q4, q5, q6, q7⟩ := d_st_W h.dW h.dIn h.T0.1 hd
  obtain ⟨r1, r2, r3⟩ := d_st_w (w := fun k => (tk k).2.2.2) h.dW 9 0 e c p' hd
  have hw : ∀ k, (w_tt tx tk k).length = (tk k).2.2.2 := fun k => w_tx_len
  have hl := (w_m_len (w := fun k => (tk k).2.2.2) hw (d := 0) q5 (by omega)).1
  simp at hl
  obtain ⟨m0, rfl, h2, h3, h4, h5, h6, h7, h8, h9, h10⟩ := h
  have e2 : p2 = m0 := by
    by_cases c2 : p2 = m0
    · exact c2
    · have hs := h3 p2 (by omega)
      have e : d_mk (m0 + 1) tk p2 = (tk p2).2.1 := if_pos q3
      exact absurd (e.symm.trans q2) hs.2.2.1
  have hE : s_E tk (m0 + 1) = s_E tk m0 + (tk m0).2.2.2 := rfl
  rw [b_P_E] at r1
  subst q1
  rw [e2, b_P_E, hE, h7] at r1
  refine ⟨q5, r2, by omega, q6, fun z => by have := q7 z; omega, ?_⟩
  omega
end SFI
