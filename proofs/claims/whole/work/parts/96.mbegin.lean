/-! THE REFERENCE'S SCANNER: the beginning of a line -/
theorem s_ded_l {w p : Nat} {l l' : Bool} {bs : List Nat} : ∀ (ws : List (Nat × Nat)) (m : Nat) (tk : Nat → aT), s_ded w p l' bs ws m tk = match s_ded w p l bs ws m tk with
    | .error e => .error e
    | .ok (p, _, y) => .ok (p, l', y)
  | [], m, tk => rfl
  | (w0, n0) :: r, m, tk => by
    unfold s_ded
    by_cases c1 : w < w0
    · rw [if_pos c1, if_pos c1]
      by_cases c2 : m < 120
      · rw [if_pos c2, if_pos c2]
        exact s_ded_l r (m + 1) _
      · rw [if_neg c2, if_neg c2]
    · rw [if_neg c1, if_neg c1]
theorem s_cmp_l {w nr p : Nat} {l l' : Bool} {bs : List Nat} {ws : List (Nat × Nat)} {m : Nat} {tk : Nat → aT} : s_cmp w nr (p, l', ws, bs, m, tk) = match s_cmp w nr (p, l, ws, bs, m, tk) with
    | .error e => .error e
    | .ok (p, _, y) => .ok (p, l', y) := by
  unfold s_cmp
  dsimp only
  cases ws with
  | nil => rfl
  | cons x r =>
    obtain ⟨w0, n0⟩ := x
    dsimp only
    by_cases c1 : w0 < w
    · rw [if_pos c1, if_pos c1]
      by_cases c2 : nr ≤ n0
      · rw [if_pos c2, if_pos c2]
      · rw [if_neg c2, if_neg c2]
        by_cases c3 : r.length + 1 < 9
        · rw [if_pos c3, if_pos c3]
          unfold s_take
          dsimp only
          by_cases c4 : m < 120
          · rw [if_pos c4, if_pos c4]
          · rw [if_neg c4, if_neg c4]
        · rw [if_neg c3, if_neg c3]
    · rw [if_neg c1, if_neg c1, s_ded_l (l := l) ((w0, n0) :: r) m tk]
      cases s_ded w p l bs ((w0, n0) :: r) m tk with
      | error e => rfl
      | ok y =>
        obtain ⟨p1, l1, ws1, bs1, m1, tk1⟩ := y
        dsimp only
        unfold s_eq
        dsimp only
        cases ws1 with
        | nil => rfl
        | cons x r1 =>
          obtain ⟨w1, n1⟩ := x
          dsimp only
          by_cases c2 : w1 = w
          · rw [if_pos c2, if_pos c2]
            by_cases c3 : n1 = nr
            · rw [if_pos c3, if_pos c3]
            · rw [if_neg c3, if_neg c3]
          · rw [if_neg c2, if_neg c2]
section MBG
variable {g : List aK} {X : Nat × (Nat → Int32)} {tx : Nat → Int32} {n : Nat}
theorem c_blank_x {tx : Nat → Int32} {p : Nat} : c_blank (s_cx tx n p) = (if p < n then c_blank (tx p) else false) := by
  unfold s_cx
  split
  · rfl
  · decide
theorem y_bl {I0 A : Nat → Nat → Int32} {J : Nat → Nat → Int64} {p0 : Nat} {P : mP} (hT : m_T tx n I0 A) (hk : ∀ I', I' 29 15 = nI (s_bl tx (n - p0) p0 0).2 → I' 29 16 = nI ((s_bl tx (n - p0) p0 0).1 - p0) → m_Fr [15, 16] [] I0 A J I' A J → m_D m_fs m_cs 139 5 g X I' A J (76, [(2, .int (nI (s_bl tx (n - p0) p0 0).1)), (0, .ref 29), (1, .int (nI p0))], [], am_H g I' A J X) P) : ∀ (f p w : Nat) (I : Nat → Nat → Int32), p + f = n → p0 ≤ p → s_bl tx f p w = s_bl tx (n - p0) p0 0 → w + 8 * f < 2 ^ 20 → I 29 15 = nI w → I 29 16 = nI (p - p0) → m_Fr [15, 16] [] I0 A J I A J → m_D m_fs m_cs 139 5 g X I A J (12, [(2, .int (nI p)), (0, .ref 29), (1, .int (nI p0))], [], am_H g I A J X) P
  | 0, p, w, I, hp, hp0, hs, hw, h15, h16, hf => by
    have hn := hT.2.1
    have hT' : m_T tx n I A := ⟨by rw [hf.2.1 6 (by decide)]; exact hT.1, hT.2⟩
    refine m_D.cav (n := 9) (by decide) rfl (y_char hT' (by omega)) (by decide) m_Fr.refl ?_
    refine m_D.cav (n := 9) (by decide) rfl m_blank (by decide) m_Fr.refl ?_
    rw [c_blank_x, if_neg (by omega)]
    refine m_D.yea 9 (by decide) rfl (by decide) ?_
    have e1 : s_bl tx (n - p0) p0 0 = (p, w) := by rw [← hs]; rfl
    rw [e1] at hk
    exact hk I h15 h16 hf
  | f + 1, p, w, I, hp, hp0, hs, hw, h15, h16, hf => by
    have hn := hT.2.1
    have hT' : m_T tx n I A := ⟨by rw [hf.2.1 6 (by decide)]; exact hT.1, hT.2⟩
    refine m_D.cav (n := 9) (by decide) rfl (y_char hT' (by omega)) (by decide) m_Fr.refl ?_
    refine m_D.cav (n := 9) (by decide) rfl m_blank (by decide) m_Fr.refl ?_
    rw [c_blank_x, if_pos (by omega)]
    by_cases cb : c_blank (tx p) = true
    · rw [cb]
      have eq1 : s_bl tx (f + 1) p w = s_bl tx f (p + 1) (if tx p = 9 then w / 8 * 8 + 8 else w + 1) := by rw [s_bl, if_pos cb]
      rw [eq1] at hs
      refine m_D.nay 9 (by decide) rfl (by decide) ?_
      refine m_D.nee 9 (by decide) rfl (nI_in (show p < 600 by omega) (by decide)) ?_
      have e31 : A 31 (nI p).toNatClampNeg = tx p := by rw [nI_clamp (by omega), hT.2.2.1 p (by omega)]
      by_cases c9 : tx p = 9
      · rw [if_pos c9] at hs
        refine m_D.nay 9 (by decide) rfl (by rw [e31]; exact fun z => z c9) ?_
        refine m_D.nee 9 (by decide) rfl (by decide) ?_
        refine m_D.pla 14 (by decide) rfl ?_
        refine m_D.heap ((m_Fr.put (f := 15) (v := I 29 15 / 8 * 8 + 8) (by decide)).trans (m_Fr.put (f := 16) (v := am_u I 29 15 (I 29 15 / 8 * 8 + 8) 29 16 + 1) (by decide))) ?_
        rw [nI_1]
        refine y_bl hT hk f (p + 1) (w / 8 * 8 + 8) _ (by omega) (by omega) hs (by omega) ?_ ?_ (hf.trans ((m_Fr.put (by decide)).trans (m_Fr.put (by decide))))
        · rw [am_un (by decide), am_uk, h15, nI_div8 (by omega), show (8 : Int32) = nI 8 from rfl, nI_mul, nI_add]
        · rw [am_uk, am_un (by decide), h16, nI_1]
          congr 1
          omega
      · rw [if_neg c9] at hs
        refine m_D.yea 9 (by decide) rfl (by rw [e31]; exact c9) ?_
        refine m_D.pla 13 (by decide) rfl ?_
        refine m_D.heap ((m_Fr.put (f := 15) (v := I 29 15 + 1) (by decide)).trans (m_Fr.put (f := 16) (v := am_u I 29 15 (I 29 15 + 1) 29 16 + 1) (by decide))) ?_
        rw [nI_1]
        refine y_bl hT hk f (p + 1) (w + 1) _ (by omega) (by omega) hs (by omega) ?_ ?_ (hf.trans ((m_Fr.put (by decide)).trans (m_Fr.put (by decide))))
        · rw [am_un (by decide), am_uk, h15, nI_1]
        · rw [am_uk, am_un (by decide), h16, nI_1]
          congr 1
          omega
    · have cb' : c_blank (tx p) = false := by simpa using cb
      rw [cb']
      have eq1 : s_bl tx (f + 1) p w = (p, w) := by rw [s_bl, if_neg cb]
      refine m_D.yea 9 (by decide) rfl (by decide) ?_
      have e1 : s_bl tx (n - p0) p0 0 = (p, w) := by rw [← hs]; exact eq1
      rw [e1] at hk
      exact hk I h15 h16 hf
theorem m_S.Fr15 {z : aW} {I A I' : Nat → Nat → Int32} {J : Nat → Nat → Int64} (h : m_S z I A J) (hf : m_Fr [15, 16] [] I A J I' A J) : m_S z I' A J := by
  obtain ⟨p, l, ws, bs, m, tk⟩ := z
  obtain ⟨h2, h3, h5, h6, h7, h8, h9, h12, ht⟩ := h
  exact ⟨by rw [hf.2.1 17 (by decide)]; exact h2, by rw [hf.2.1 14 (by decide)]; exact h3, h5, h6, by rw [hf.2.1 19 (by decide)]; exact h7, h8, h9, h12, ⟨by rw [hf.2.1 11 (by decide)]; exact ht.1, ht.2.1, ht.2.2.1, by rw [hf.2.1 3 (by decide)]; exact ht.2.2.2.1, by rw [hf.2.1 4 (by decide)]; exact ht.2.2.2.2⟩⟩
theorem c_char_0 {c : Int32} (h : c_char c = true) : ¬ c < 0 := by
  obtain ⟨m, h1, h2, rfl⟩ := c_char_of h
  exact nI_pos (by omega)
theorem y_line {I A : Nat → Nat → Int32} {J : Nat → Nat → Int64} {p m : Nat} {l : Bool} {ws : List (Nat × Nat)} {bs : List Nat} {tk : Nat → aT} (hT : m_T tx n I A) (hz : m_S (p, l, ws, bs, m, tk) I A J) (hv : s_Iv tx n (p, l, ws, bs, m, tk)) (hl : l = false) (hp : p < n) : m_M m_fs m_cs 5 139 [.ref 29, .int (nI p)] g I A J X (m_Rp (s_line tx n (p, l, ws, bs, m, tk))) := by
  have hn := hT.2.1
  refine m_D.met rfl rfl ?_
  refine m_D.pla 8 (by decide) rfl ?_
  refine m_D.heap ((m_Fr.put (f := 15) (v := 0) (by decide)).trans (m_Fr.put (f := 16) (v := 0) (by decide))) ?_
  have hb := s_bl_le (tx := tx) (n - p) p 0
  refine y_bl (I0 := I) (p0 := p) hT (fun I' h15 h16 hf => ?_) (n - p) p 0 _ (by omega) (Nat.le_refl _) rfl (by omega) (by rw [am_un (by decide), am_uk]; rfl) (by rw [am_uk, Nat.sub_self]; rfl) ((m_Fr.put (by decide)).trans (m_Fr.put (by decide)))
  rcases hqw : s_bl tx (n - p) p 0 with ⟨q, w⟩
  rw [hqw] at hb h15 h16
  dsimp only at hb h15 h16 ⊢
  have hT' : m_T tx n I' A := ⟨by rw [hf.2.1 6 (by decide)]; exact hT.1, hT.2⟩
  have hz' := hz.Fr15 hf
  unfold s_line
  dsimp only
  rw [hqw]
  dsimp only
  refine m_D.cav (n := 9) (by decide) rfl (y_char hT' (by omega)) (by decide) m_Fr.refl ?_
  have fin : n ≤ q ∨ s_ch tx n q = 10 ∨ s_ch tx n q = 35 → ∀ x : Int32, m_D m_fs m_cs 139 5 g X I' A J (98, [(3, .int x), (2, .int (nI q)), (0, .ref 29), (1, .int (nI p))], [], am_H g I' A J X) (m_Rp (.ok (min (s_nl tx n q + 1) n, l, ws, bs, m, tk))) := fun _ x => by
    refine m_D.cav (n := 9) (by decide) rfl (y_end hT' (by omega)) (by decide) m_Fr.refl ?_
    have hnl := s_nl_le (tx := tx) (n := n) (p := q) (by omega)
    by_cases c1 : s_nl tx n q < n
    · refine m_D.nay 9 (by decide) rfl (by rw [hT'.1]; exact nI_ge c1 (by omega)) ?_
      refine m_D.ret 9 (by decide) rfl trivial m_Fr.refl ⟨?_, hz'⟩
      rw [nI_1]
      dsimp only
      congr 3
      omega
    · refine m_D.yea 9 (by decide) rfl (by rw [hT'.1]; exact nI_le (by omega) (by omega)) ?_
      refine m_D.ret 9 (by decide) rfl trivial m_Fr.refl ⟨?_, hz'⟩
      dsimp only
      congr 3
      omega
  by_cases c0 : n ≤ q
  · rw [if_pos (Or.inl c0)]
    have e1 : s_cx tx n q = -1 := if_neg (by omega)
    rw [e1]
    refine m_D.yea 9 (by decide) rfl (by decide) ?_
    exact fin (Or.inl c0) _
  have e1 : s_cx tx n q = tx q := if_pos (by omega)
  have e2 : s_ch tx n q = tx q := if_pos (by omega)
  rw [e1]
  refine m_D.nay 9 (by decide) rfl (c_char_0 (hT.2.2.2 q (by omega))) ?_
  by_cases c10 : tx q = 10
  · rw [if_pos (Or.inr (Or.inl (e2.trans c10)))]
    refine m_D.yea 9 (by decide) rfl c10 ?_
    exact fin (Or.inr (Or.inl (e2.trans c10))) _
  refine m_D.nay 9 (by decide) rfl c10 ?_
  by_cases c35 : tx q = 35
  · rw [if_pos (Or.inr (Or.inr (e2.trans c35)))]
    refine m_D.nay 9 (by decide) rfl (fun z => z c35) ?_
    exact fin (Or.inr (Or.inr (e2.trans c35))) _
  rw [if_neg (by rw [e2]; exact fun z => z.elim c0 (fun z => z.elim c10 c35))]
  refine m_D.yea 9 (by decide) rfl c35 ?_
  have hzq : m_S (q, true, ws, bs, m, tk) (am_u I' 29 17 0) A J := by
    obtain ⟨h2, h3, h5, h6, h7, h8, h9, h12, ht⟩ := hz'
    refine ⟨am_uk, ?_, h5, h6, ?_, h8, h9, h12, ⟨?_, ht.2.1, ht.2.2.1, by simpa [m_K, am_u] using ht.2.2.2⟩⟩
    · simpa [am_u] using h3
    · simpa [am_u] using h7
    · simpa [am_u] using ht.1
  refine m_D.nee 9 (by decide) rfl (Or.inl rfl) ?_
  refine m_D.heap (m_Fr.put (f := 17) (v := 0) (by decide)) ?_
  have hcmp := y_cmp (g := g) (X := X) (w := w) (nr := q - p) hzq hv.2.1 (by omega) (by omega) (by rw [am_un (by decide)]; exact h15) (by rw [am_un (by decide)]; exact h16)
  refine m_D.call (n := 9) (by decide) rfl (by decide) hcmp (fun v I1 A1 J1 hR hF => ?_)
  rw [s_cmp_l (l := l)] at hR
  have hvq : s_Iv tx n (q, l, ws, bs, m, tk) := by
    obtain ⟨⟨a1, a2, a3, a4, a5, a6, a7⟩, b⟩ := hv
    exact ⟨⟨by dsimp only; omega, a2, a3, a4, a5, a6, by dsimp only at a7 ⊢; omega⟩, b⟩
  cases hr : s_cmp w (q - p) (q, l, ws, bs, m, tk) with
  | error e =>
    rw [hr] at hR
    obtain ⟨rfl, hR⟩ := hR
    refine m_D.yea 9 (by decide) rfl (by decide) ?_
    exact m_D.ret 9 (by decide) rfl trivial m_Fr.refl ⟨rfl, hR⟩
  | ok y =>
    obtain ⟨p1, l1, ws1, bs1, m1, tk1⟩ := y
    have := (s_cmp_Iv hvq hl (by omega) (by omega) hr).2.2.2
    dsimp only at this
    subst this
    rw [hr] at hR
    obtain ⟨rfl, hR⟩ := hR
    refine m_D.nay 9 (by decide) rfl (by decide) ?_
    exact m_D.ret 9 (by decide) rfl trivial m_Fr.refl ⟨rfl, hR⟩
end MBG
