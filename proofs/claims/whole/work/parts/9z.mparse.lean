/-! THE REFERENCE'S STATEMENTS: what parse() rests on -/
/-- B is the block over n, k branches up, all of them older -/
def r_uq (S : aN) : Nat → Nat → Nat → Prop
  | 0, n, B => S 7 n = nI B ∧ S 0 B = 9 ∧ B < n
  | k + 1, n, B => ∃ n', n' < n ∧ S 7 n = nI n' ∧ S 0 n' ≠ 9 ∧ r_uq S k n' B
theorem r_uq.up {S : aN} : ∀ {k n B : Nat}, n < 400 → r_uq S k n B → r_up S k n B
  | 0, n, B, hn, h => ⟨h.1, h.2.1, by have := h.2.2; omega⟩
  | k + 1, n, B, hn, ⟨n', h1, h2, h3, h4⟩ => ⟨n', by omega, h2, h3, r_uq.up (by omega) h4⟩
theorem r_uq.frame {S S' : aN} : ∀ {k n B : Nat}, S' 7 n = S 7 n → (∀ i, i < n → S' 0 i = S 0 i ∧ S' 7 i = S 7 i) → r_uq S k n B → r_uq S' k n B
  | 0, n, B, h7, hf, h => ⟨h7.trans h.1, (hf B h.2.2).1.trans h.2.1, h.2.2⟩
  | k + 1, n, B, h7, hf, ⟨n', h1, h2, h3, h4⟩ => ⟨n', h1, h7.trans h2, by rw [(hf n' h1).1]; exact h3, r_uq.frame (hf n' h1).2 (fun i hi => hf i (by omega)) h4⟩
theorem m_Bs.upq {T : Nat} {tk : Nat → aT} {lo b eb m k B : Nat} {c0 : aB} {S0 : aN} {a : aB × Nat} {v : Option Value} {I' A' : Nat → Nat → Int32} {J' : Nat → Nat → Int64} (h : m_Bs T tk lo b eb m c0 S0 (.ok a) v I' A' J') (hb : b < lo) (hu : r_uq S0 k b B) : r_uq (m_st A') k b B := by
  obtain ⟨r1, m', r2, r3, r4, r5, r6, r6', r7⟩ := h
  exact r_uq.frame r6' (fun i hi => ⟨r7 0 i (by omega) (by omega), r7 7 i (by omega) (by omega)⟩) hu
/-- a block's token is not yet told -/
theorem m_Bs.code {T : Nat} {tk : Nat → aT} {lo b eb eb' m : Nat} {c0 : aB} {S0 : aN} {a : aB × Nat} {v : Option Value} {I' A' : Nat → Nat → Int32} {J' : Nat → Nat → Int64} (h : m_Bs T tk lo b eb m c0 S0 (.ok a) v I' A' J') (h9 : eb % 32 = 9) (h9' : eb' % 32 = 9) : m_Bs T tk lo b eb' m c0 S0 (.ok a) v I' A' J' := by
  obtain ⟨r1, m', r2, r3, r4⟩ := h
  refine ⟨r1, m', r2, ⟨⟨?_, ?_, ?_, ?_⟩, r3.2⟩, r4⟩
  · rw [h9', ← h9]; exact r3.1.1
  · intro z; rcases z with z | z
    · cases z
    · exact absurd h9' z
  · exact r3.1.2.2.1
  · intro z; omega
/-- a node that was linked at once has got its parts -/
theorem r_fin {T : Nat} {tk : Nat → aT} {S N : aN} {lo mid b eb e0 e m : Nat} {c c2 : aB} {hh : Int32} {p2 : Nat} {v : Option Value} {I' A' : Nat → Nat → Int32} {J' : Nat → Nat → Int64} (hT : n_T S false lo mid b eb c) (hlm : lo ≤ mid) (hmm : mid ≤ m) (hb : b < m) (hm : m < 399) (hN : n_W false S m N e0) (heb : eb % 32 < 11) (h : m_Bs T tk (m + 1) m e (m + 1) b_0 (n_lnk N b m hh) (.ok (c2, p2)) v I' A' J') : m_Bs T tk lo b eb m c S (.ok (b_add c e c2, p2)) v I' A' J' := by
  obtain ⟨r1, m', r2, r3, r4, r5, r6, r6', r7⟩ := h
  obtain ⟨l1, l2, l3, l4, l5, l6, l7⟩ := r_link (hh := hh) hT hlm hmm hb hm hN
  obtain ⟨d1, d2, d3, d4⟩ := r_done (hh := hh) (m' := m') (e := e) (c2 := c2) (S' := m_st A') hT hlm hmm hb hm hN (by omega) heb (fun f k hk => r7 f k (by omega) (by omega)) (r6.trans l3) (r6'.trans l4) (r3.wide (by omega) (Nat.le_refl _))
  refine ⟨r1, m', r2, d1, ?_, by omega, d3, d4, fun f k k1 k2 => d2 f k (by omega) k2 (by omega)⟩
  dsimp only [b_sz] at r4
  rw [b_sz_add]
  omega
section HDP
variable {mk : Nat → Int32} {pl : Nat → Nat} {T : Nat} {st : Nat → aG}
theorem d_cd_h {k p : Nat} : d_cd mk pl st k p = match d_hc1 mk pl (p + 1) with
    | .error x => .error x
    | .ok (c, p2) => match d_bk mk pl st p2 with
      | .error x => .error x
      | .ok (e3, c3, p3) => .ok (k + 32 * p, b_add c e3 c3, p3) := by
  unfold d_cd d_hc1
  cases d_ex mk pl 12 1 (p + 1) with
  | error x => rfl
  | ok a =>
    obtain ⟨e, c, p2⟩ := a
    dsimp only
    by_cases h : mk p2 = 58
    · rw [if_pos h, if_pos h]; rfl
    · rw [if_neg h, if_neg h]
theorem d_df_h {p : Nat} : d_df mk pl st p = match d_hd1 mk pl (p + 1) with
    | .error x => .error x
    | .ok (c, p2) => match d_bk mk pl st p2 with
      | .error x => .error x
      | .ok (e3, c3, p3) => .ok (8 + 32 * (p + 1), b_add c e3 c3, p3) := by
  unfold d_df d_hd1
  by_cases h1 : mk (p + 1) = 1
  · rw [if_pos h1, if_pos h1]
    by_cases h2 : mk (p + 2) = 40
    · rw [if_pos h2, if_pos (show mk (p + 1 + 1) = 40 from h2)]
      show (match d_ps mk pl (p + 3) with
        | .error x => _
        | .ok (c, p2) => _) = _
      cases d_ps mk pl (p + 3) with
      | error x => rfl
      | ok a =>
        obtain ⟨c, p2⟩ := a
        dsimp only
        by_cases h : mk p2 = 58
        · rw [if_pos h, if_pos h]; rfl
        · rw [if_neg h, if_neg h]
    · rw [if_neg h2, if_neg (show ¬ mk (p + 1 + 1) = 40 from h2)]
  · rw [if_neg h1, if_neg h1]
theorem d_hc1_Z (hW : d_W mk T) {p p' : Nat} {c : aB} (h : d_hc1 mk pl p = .ok (c, p')) : d_G mk T p p' ∧ b_sz c + p + 1 ≤ p' ∧ 1 ≤ b_sz c ∧ b_len c = 1 := by
  unfold d_hc1 at h
  split at h
  · cases h
  · next e c1 p2 hx =>
    split at h
    · next c58 =>
      cases h
      have hq := d_ex_Q hW _ _ _ _ _ _ hx (by decide)
      have := hq.2.1
      exact ⟨hq.1.trans (.one hW c58 (by decide)), by simp only [b_sz]; omega, by simp only [b_sz]; omega, rfl⟩
    · cases h
theorem d_hd1_Z (hW : d_W mk T) {p p' : Nat} {c : aB} (h : d_hd1 mk pl p = .ok (c, p')) : d_G mk T p p' ∧ b_sz c + p + 3 ≤ p' := by
  unfold d_hd1 at h
  split at h
  · next c1 =>
    split at h
    · next c40 =>
      split at h
      · cases h
      · next c2 p2 hps =>
        have g1 := (d_G.one hW c1 (by decide)).trans (d_G.one hW c40 (by decide))
        have gT := g1.1
        have hp : d_G mk T (p + 2) p2 ∧ b_sz c2 + (p + 2) ≤ p2 := by
          unfold d_ps at hps
          split at hps
          · next c41 => cases hps; exact ⟨.one hW c41 (by decide), by simp only [b_sz]; omega⟩
          · split at hps
            · next cn =>
              have gn := d_G.one hW cn (by decide)
              have := gn.1
              obtain ⟨q1, q2, q3⟩ := d_pm_Z hW _ _ _ gn (by simp only [b_sz]; omega) (show b_pa T (.branch (24 + 32 * (p + 2)) b_0 b_0) from ⟨by omega, by omega, rfl, trivial⟩) hps
              exact ⟨q1, q2⟩
            · cases hps
        split at h
        · next c58 =>
          cases h
          have g2 := d_G.one hW c58 (by decide)
          exact ⟨(g1.trans hp.1).trans g2, by have := hp.2; omega⟩
        · cases h
    · cases h
  · cases h
end HDP
