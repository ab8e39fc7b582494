/-! THE REFERENCE'S SCANNER: the whole -/
section MTK
variable {g : List aK} {X : Nat × (Nat → Int32)} {tx : Nat → Int32} {n : Nat}
theorem y_next {I A : Nat → Nat → Int32} {J : Nat → Nat → Int64} {p m : Nat} {ws : List (Nat × Nat)} {bs : List Nat} {tk : Nat → aT} (hT : m_T tx n I A) (hz : m_S (p, true, ws, bs, m, tk) I A J) (hp : p < n) (hb : ∀ b ∈ bs, b < n) : m_M m_fs m_cs 5 146 [.ref 29, .int (nI p)] g I A J X (m_Rp (s_next tx n (p, true, ws, bs, m, tk))) := by
  have hn := hT.2.1
  have ech : s_ch tx n p = tx p := if_pos hp
  have e31 : A 31 (nI p).toNatClampNeg = tx p := by rw [nI_clamp (by omega), hT.2.2.1 p hp]
  obtain ⟨h2, h3, h5, h6, h7, h8, h9, h12, ht⟩ := id hz
  unfold s_next
  dsimp only
  rw [ech]
  refine m_D.met rfl rfl ?_
  refine m_D.nee 9 (by decide) rfl (nI_in (show p < 600 by omega) (by decide)) ?_
  rw [e31]
  refine m_D.cav (n := 9) (by decide) rfl m_blank (by decide) m_Fr.refl ?_
  by_cases c1 : c_blank (tx p) = true
  · rw [if_pos c1, c1]
    refine m_D.nay 9 (by decide) rfl (by decide) ?_
    refine m_D.ret 9 (by decide) rfl trivial m_Fr.refl ⟨?_, hz⟩
    rw [nI_1]
  rw [if_neg c1, show c_blank (tx p) = false from by simpa using c1]
  refine m_D.yea 9 (by decide) rfl (by decide) ?_
  by_cases c2 : tx p = 35
  · rw [if_pos c2]
    refine m_D.nay 9 (by decide) rfl (fun z => z c2) ?_
    refine m_D.cav (n := 9) (by decide) rfl (y_end hT (by omega)) (by decide) m_Fr.refl ?_
    exact m_D.ret 9 (by decide) rfl trivial m_Fr.refl ⟨rfl, hz⟩
  rw [if_neg c2]
  refine m_D.yea 9 (by decide) rfl c2 ?_
  have hx := y_char (g := g) (J := J) (X := X) (p := p + 1) hT (by omega)
  have h10 : s_cx tx n (p + 1) = 10 ↔ s_ch tx n (p + 1) = 10 := by
    unfold s_cx s_ch
    split
    · rfl
    · decide
  by_cases c3 : tx p = 92 ∧ s_ch tx n (p + 1) = 10
  · rw [if_pos c3]
    refine m_D.nay 9 (by decide) rfl (fun z => z c3.1) ?_
    refine m_D.cav (n := 9) (by decide) (by rw [← nI_1]; rfl) hx (by decide) m_Fr.refl ?_
    refine m_D.nay 9 (by decide) rfl (fun z => z (h10.mpr c3.2)) ?_
    refine m_D.ret 9 (by decide) rfl trivial m_Fr.refl ⟨?_, hz⟩
    rw [show (2 : Int32) = nI 2 from rfl, nI_add]
  rw [if_neg c3]
  have st : ∀ {P : mP}, m_D m_fs m_cs 146 5 g X I A J (52, [(2, .int (tx p)), (0, .ref 29), (1, .int (nI p))], [], am_H g I A J X) P → m_D m_fs m_cs 146 5 g X I A J (30, [(2, .int (tx p)), (0, .ref 29), (1, .int (nI p))], [], am_H g I A J X) P := fun k => by
    by_cases c92 : tx p = 92
    · refine m_D.nay 9 (by decide) rfl (fun z => z c92) ?_
      refine m_D.cav (n := 9) (by decide) (by rw [← nI_1]; rfl) hx (by decide) m_Fr.refl ?_
      exact m_D.yea 9 (by decide) rfl (fun z => c3 ⟨c92, h10.mp z⟩) k
    · exact m_D.yea 9 (by decide) rfl c92 k
  refine st ?_
  by_cases c4 : tx p = 10
  · rw [if_pos c4]
    refine m_D.nay 9 (by decide) rfl (fun z => z c4) ?_
    by_cases c5 : 0 < bs.length
    · rw [if_pos c5]
      refine m_D.nay 9 (by decide) rfl (by rw [h7]; exact nI_nle c5 (by omega)) ?_
      refine m_D.ret 9 (by decide) rfl trivial m_Fr.refl ⟨?_, hz⟩
      rw [nI_1]
    · rw [if_neg c5]
      have e0 : bs.length = 0 := by omega
      refine m_D.yea 9 (by decide) rfl (by rw [h7, e0]; decide) ?_
      have hzq : m_S (p, false, ws, bs, m, tk) (am_u I 29 17 1) A J := by
        refine ⟨am_uk, ?_, h5, h6, ?_, h8, h9, h12, ⟨?_, ht.2.1, ht.2.2.1, by simpa [m_K, am_u] using ht.2.2.2⟩⟩
        · simpa [am_u] using h3
        · simpa [am_u] using h7
        · simpa [am_u] using ht.1
      refine m_D.nee 9 (by decide) rfl (Or.inr rfl) ?_
      refine m_D.heap (m_Fr.put (f := 17) (v := 1) (by decide)) ?_
      refine m_D.call (n := 9) (by decide) rfl (by decide) (y_add (k := 6) (mk := 6) (e := 1) hzq) (fun v I1 A1 J1 hR hF => ?_)
      obtain ⟨hR, -⟩ := hR
      unfold s_take at hR ⊢
      dsimp only at hR ⊢
      by_cases cm : m < 120
      · rw [if_pos cm] at hR ⊢
        obtain ⟨rfl, hR⟩ := hR
        refine m_D.nay 9 (by decide) rfl (by decide) ?_
        refine m_D.ret 9 (by decide) rfl trivial m_Fr.refl ⟨?_, hR⟩
        rw [nI_1]
      · rw [if_neg cm] at hR ⊢
        obtain ⟨rfl, hR⟩ := hR
        refine m_D.yea 9 (by decide) rfl (by decide) ?_
        exact m_D.ret 9 (by decide) rfl trivial m_Fr.refl ⟨rfl, hR⟩
  rw [if_neg c4]
  refine m_D.yea 9 (by decide) rfl c4 ?_
  refine m_D.cav (n := 9) (by decide) rfl m_letter (by decide) m_Fr.refl ?_
  have pas : ∀ {r : Except aF aW} {v : Option Value} {I1 A1 : Nat → Nat → Int32} {J1 : Nat → Nat → Int64}, m_Rp r v I1 A1 J1 → ∃ x : Int32, v = some (.int x) := fun {r v I1 A1 J1} h => by
    cases r with
    | error q => exact ⟨_, h.1⟩
    | ok z => exact ⟨_, h.1⟩
  by_cases c5 : c_letter (tx p) = true
  · rw [if_pos c5, c5]
    refine m_D.nay 9 (by decide) rfl (by decide) ?_
    refine m_D.call (n := 9) (by decide) rfl (by decide) (y_name hT hz hp c5) (fun v I1 A1 J1 hR hF => ?_)
    obtain ⟨x, rfl⟩ := pas hR
    exact m_D.ret 9 (by decide) rfl trivial m_Fr.refl hR
  rw [if_neg c5, show c_letter (tx p) = false from by simpa using c5]
  refine m_D.yea 9 (by decide) rfl (by decide) ?_
  refine m_D.cav (n := 9) (by decide) rfl m_digit (by decide) m_Fr.refl ?_
  by_cases c6 : c_digit (tx p) = true
  · rw [if_pos c6, c6]
    refine m_D.nay 9 (by decide) rfl (by decide) ?_
    refine m_D.call (n := 9) (by decide) rfl (by decide) (y_num hT hz hp c6) (fun v I1 A1 J1 hR hF => ?_)
    obtain ⟨x, rfl⟩ := pas hR
    exact m_D.ret 9 (by decide) rfl trivial m_Fr.refl hR
  rw [if_neg c6, show c_digit (tx p) = false from by simpa using c6]
  refine m_D.yea 9 (by decide) rfl (by decide) ?_
  by_cases c7 : tx p = 39 ∨ tx p = 34
  · rw [if_pos c7]
    have st2 : ∀ {P : mP}, m_D m_fs m_cs 146 5 g X I A J (132, [(2, .int (tx p)), (0, .ref 29), (1, .int (nI p))], [], am_H g I A J X) P → m_D m_fs m_cs 146 5 g X I A J (120, [(2, .int (tx p)), (0, .ref 29), (1, .int (nI p))], [], am_H g I A J X) P := fun k => by
      by_cases c39 : tx p = 39
      · exact m_D.yea 9 (by decide) rfl c39 k
      · refine m_D.nay 9 (by decide) rfl c39 ?_
        exact m_D.nay 9 (by decide) rfl (fun z => z (c7.resolve_left c39)) k
    refine st2 ?_
    refine m_D.call (n := 9) (by decide) rfl (by decide) (y_str hT hz hp) (fun v I1 A1 J1 hR hF => ?_)
    obtain ⟨x, rfl⟩ := pas hR
    exact m_D.ret 9 (by decide) rfl trivial m_Fr.refl hR
  · rw [if_neg c7]
    refine m_D.nay 9 (by decide) rfl (fun z => c7 (Or.inl z)) ?_
    refine m_D.yea 9 (by decide) rfl (fun z => c7 (Or.inr z)) ?_
    refine m_D.call (n := 9) (by decide) rfl (by decide) (y_sgn hT hz hp hb) (fun v I1 A1 J1 hR hF => ?_)
    obtain ⟨x, rfl⟩ := pas hR
    exact m_D.ret 9 (by decide) rfl trivial m_Fr.refl hR
/-- the brackets lie within the text -/
theorem s_take_bs {k mk : Int32} {e : Nat} {z z' : aW} (h : s_take k mk e z = .ok z') : z'.2.2.2.1 = z.2.2.2.1 := by
  obtain ⟨h1, rfl⟩ := s_take_ok h
  rfl
theorem s_next_bs {p m : Nat} {l : Bool} {ws : List (Nat × Nat)} {bs : List Nat} {tk : Nat → aT} {z' : aW} (hp : p < n) (hb : ∀ b ∈ bs, b < n) (h : s_next tx n (p, l, ws, bs, m, tk) = .ok z') : ∀ b ∈ z'.2.2.2.1, b < n := by
  unfold s_next at h
  dsimp only at h
  split at h
  · cases h; exact hb
  split at h
  · cases h; exact hb
  split at h
  · cases h; exact hb
  split at h
  · split at h
    · cases h; exact hb
    · split at h
      · cases h
      · next p' l' y ht =>
        cases h
        have := s_take_bs ht
        dsimp only at this
        rw [show (p', false, y).2.2.2.1 = bs from this]
        exact hb
  split at h
  · rw [s_take_bs h]; exact hb
  split at h
  · split at h
    · cases h
    · rw [s_take_bs h]; exact hb
  split at h
  · split at h
    · cases h
    · rw [s_take_bs h]; exact hb
  · rw [s_sign_br] at h
    split at h
    · rw [s_take_bs h]; exact hb
    · split at h
      · cases h
      · split at h
        · cases h
        · next z hbr =>
          rw [s_take_bs h]
          unfold s_br at hbr
          dsimp only at hbr
          generalize (if s_ch tx n p = 41 then (40 : Int32) else 91) = ff at hbr
          split at hbr
          · split at hbr
            · cases hbr
              intro b hb'
              rcases List.mem_cons.mp hb' with e | e
              · rw [e]; exact hp
              · exact hb b e
            · cases hbr
          · split at hbr
            · split at hbr
              · cases hbr
              · split at hbr
                · cases hbr
                  exact fun b hb' => hb b (List.mem_cons_of_mem _ hb')
                · cases hbr
            · cases hbr; exact hb
theorem s_line_bs {p m : Nat} {l : Bool} {ws : List (Nat × Nat)} {bs : List Nat} {tk : Nat → aT} {z' : aW} (h : s_line tx n (p, l, ws, bs, m, tk) = .ok z') : z'.2.2.2.1 = bs := by
  have hd : ∀ (w q : Nat) (ws : List (Nat × Nat)) (m : Nat) (tk : Nat → aT) (y : aW), s_ded w q l bs ws m tk = .ok y → y.2.2.2.1 = bs := by
    intro w q ws
    induction ws with
    | nil => intro m tk y h; cases h; rfl
    | cons x r ih =>
      intro m tk y h
      obtain ⟨w0, n0⟩ := x
      unfold s_ded at h
      split at h
      · split at h
        · exact ih _ _ _ h
        · cases h
      · cases h; rfl
  unfold s_line at h
  rcases hqw : s_bl tx (n - p) p 0 with ⟨q, w⟩
  dsimp only at h
  rw [hqw] at h
  dsimp only at h
  split at h
  · cases h; rfl
  · split at h
    · cases h
    · next p' l' y hc =>
      cases h
      show y.2.1 = bs
      unfold s_cmp at hc
      dsimp only at hc
      split at hc
      · cases hc
      · split at hc
        · split at hc
          · cases hc
          · split at hc
            · exact s_take_bs hc
            · cases hc
        · split at hc
          · cases hc
          · next y1 hy =>
            have := hd _ _ _ _ _ _ hy
            obtain ⟨p1, l1, ws1, bs1, m1, tk1⟩ := y1
            unfold s_eq at hc
            dsimp only at hc this
            split at hc
            · cases hc
            · split at hc
              · split at hc
                · cases hc; exact this
                · cases hc
              · cases hc
abbrev y_l (k p : Nat) (good : Int32) : List (Nat × Value) := [(3, .int (nI k)), (2, .int good), (1, .int (nI p)), (0, .ref 29)]
theorem y_clo {p : Nat} {l : Bool} {bs : List Nat} {ws : List (Nat × Nat)} : ∀ (f i m : Nat) (tk : Nat → aT) (I A : Nat → Nat → Int32) (J : Nat → Nat → Int64), m_S (p, l, ws, bs, m, tk) I A J → i + f = ws.length → I 29 6 = nI p → p ≤ 600 → m_D m_fs m_cs 147 6 g X I A J (154, y_l i p 1, [], am_H g I A J X) (m_Rb (match s_close f (p, l, ws, bs, m, tk) with
    | .error e => .error e
    | .ok y => s_take 9 9 0 y))
  | 0, i, m, tk, I, A, J, hz, hi, h6', hp => by
    obtain ⟨h2, h3, h5, h6, h7, h8, h9, h12, ht⟩ := id hz
    unfold s_close
    dsimp only
    refine m_D.yea 9 (by decide) rfl (by rw [h3]; exact nI_le (by omega) (by omega)) ?_
    refine m_D.nay 9 (by decide) rfl (by decide) ?_
    have hadd := y_add (g := g) (X := X) (k := 9) (mk := 9) (e := 0) hz
    rw [← h6'] at hadd
    refine m_D.call (n := 9) (by decide) rfl (by decide) hadd (fun v I1 A1 J1 hR hF => ?_)
    obtain ⟨hR, -⟩ := hR
    cases hs : s_take 9 9 0 (p, l, ws, bs, m, tk) with
    | error q =>
      rw [hs] at hR
      obtain ⟨rfl, hR⟩ := hR
      refine m_D.yea 9 (by decide) rfl (by decide) ?_
      exact m_D.ret 9 (by decide) rfl (Or.inl rfl) m_Fr.refl ⟨rfl, hR⟩
    | ok y =>
      rw [hs] at hR
      obtain ⟨rfl, hR⟩ := hR
      refine m_D.nay 9 (by decide) rfl (by decide) ?_
      exact m_D.ret 9 (by decide) rfl (Or.inr rfl) m_Fr.refl ⟨rfl, hR⟩
  | f + 1, i, m, tk, I, A, J, hz, hi, h6', hp => by
    obtain ⟨h2, h3, h5, h6, h7, h8, h9, h12, ht⟩ := id hz
    unfold s_close
    refine m_D.nay 9 (by decide) rfl (by rw [h3]; exact nI_ge (by omega) (by omega)) ?_
    refine m_D.nay 9 (by decide) rfl (by decide) ?_
    have hadd := y_add (g := g) (X := X) (k := 8) (mk := 8) (e := 0) hz
    rw [← h6'] at hadd
    refine m_D.call (n := 9) (by decide) rfl (by decide) hadd (fun v I1 A1 J1 hR hF => ?_)
    obtain ⟨hR, hF2⟩ := hR
    cases hs : s_take 8 8 0 (p, l, ws, bs, m, tk) with
    | error q =>
      rw [hs] at hR
      obtain ⟨rfl, hR⟩ := hR
      refine m_D.pla 3 (by decide) rfl ?_
      have out : ∀ (x : Int32) (P : mP), m_D m_fs m_cs 147 6 g X I1 A1 J1 (185, [(3, .int x), (2, .int 0), (1, .int (nI p)), (0, .ref 29)], [], am_H g I1 A1 J1 X) P → m_D m_fs m_cs 147 6 g X I1 A1 J1 (154, [(3, .int x), (2, .int 0), (1, .int (nI p)), (0, .ref 29)], [], am_H g I1 A1 J1 X) P := fun x P k => by
        by_cases cx : I1 29 14 ≤ x
        · exact m_D.yea 9 (by decide) rfl cx k
        · refine m_D.nay 9 (by decide) rfl cx ?_
          exact m_D.yea 9 (by decide) rfl (by decide) k
      refine out _ _ ?_
      refine m_D.yea 9 (by decide) rfl (by decide) ?_
      exact m_D.ret 9 (by decide) rfl (Or.inl rfl) m_Fr.refl ⟨rfl, hR⟩
    | ok y =>
      rw [hs] at hR
      obtain ⟨rfl, hR⟩ := hR
      obtain ⟨k1, rfl⟩ := s_take_ok hs
      refine m_D.pla 3 (by decide) rfl ?_
      rw [nI_1]
      exact y_clo f (i + 1) (m + 1) _ I1 A1 J1 hR (by show i + 1 + f = ws.length; omega) (by rw [hF2.2.1 6 (by decide)]; exact h6') hp
theorem y_fin {z : aW} {I A : Nat → Nat → Int32} {J : Nat → Nat → Int64} (hT : m_T tx n I A) (hz : m_S z I A J) (hw : 1 ≤ z.2.2.1.length) (hp : z.1 = n) : m_D m_fs m_cs 147 6 g X I A J (94, [(1, .int (nI n)), (0, .ref 29)], [], am_H g I A J X) (m_Rb (s_fin z)) := by
  obtain ⟨p, l, ws, bs, m, tk⟩ := z
  dsimp only at hp hw
  subst hp
  have hn := hT.2.1
  obtain ⟨h2, h3, h5, h6, h7, h8, h9, h12, ht⟩ := id hz
  unfold s_fin
  refine m_D.yea 9 (by decide) rfl (nI_pos' (by omega)) ?_
  cases bs with
  | cons b r =>
    dsimp only
    have h8' : r.length < 8 := by simp at h8; omega
    have e19 : I 29 19 - 1 = nI r.length := by rw [h7]; exact nI_pred r.length
    have e38 : A 38 (I 29 19 - 1).toNatClampNeg = nI b := by rw [e19, nI_clamp (by omega)]; exact h9.1
    refine m_D.nay 9 (by decide) rfl (by rw [h7]; exact nI_nle (by simp) (by simp; omega)) ?_
    refine m_D.nee 12 (by decide) rfl (by rw [e19]; exact nI_in h8' (by decide)) ?_
    rw [e38]
    refine m_D.cav (n := 9) (by decide) rfl y_fault (by decide) ((m_Fr.put (by decide)).trans (m_Fr.put (by decide))) ?_
    exact m_D.ret 9 (by decide) rfl (Or.inl rfl) m_Fr.refl ⟨rfl, by simp [am_u], by simp [am_u]⟩
  | nil =>
    dsimp only
    refine m_D.yea 9 (by decide) rfl (by rw [h7]; decide) ?_
    cases l with
    | false =>
      rw [if_neg (by decide)]
      dsimp only
      refine m_D.yea 9 (by decide) rfl (by rw [h2]; decide) ?_
      refine m_D.pla 5 (by decide) rfl ?_
      exact y_clo (ws.length - 1) 1 m tk I A J hz (by omega) hT.1 hn
    | true =>
      rw [if_pos rfl]
      refine m_D.nay 9 (by decide) rfl (by rw [h2]; decide) ?_
      have hadd := y_add (g := g) (X := X) (k := 6) (mk := 6) (e := 0) hz
      rw [← hT.1] at hadd
      refine m_D.call (n := 9) (by decide) rfl (by decide) hadd (fun v I1 A1 J1 hR hF => ?_)
      obtain ⟨hR, hF2⟩ := hR
      cases hs : s_take 6 6 0 (p, true, ws, [], m, tk) with
      | error q =>
        rw [hs] at hR
        obtain ⟨rfl, hR⟩ := hR
        dsimp only
        refine m_D.yea 9 (by decide) rfl (by decide) ?_
        refine m_D.pla 4 (by decide) rfl ?_
        have out : ∀ (x : Int32) (P : mP), m_D m_fs m_cs 147 6 g X I1 A1 J1 (185, [(3, .int x), (2, .int 0), (1, .int (nI p)), (0, .ref 29)], [], am_H g I1 A1 J1 X) P → m_D m_fs m_cs 147 6 g X I1 A1 J1 (154, [(3, .int x), (2, .int 0), (1, .int (nI p)), (0, .ref 29)], [], am_H g I1 A1 J1 X) P := fun x P k => by
          by_cases cx : I1 29 14 ≤ x
          · exact m_D.yea 9 (by decide) rfl cx k
          · refine m_D.nay 9 (by decide) rfl cx ?_
            exact m_D.yea 9 (by decide) rfl (by decide) k
        refine out _ _ ?_
        refine m_D.yea 9 (by decide) rfl (by decide) ?_
        exact m_D.ret 9 (by decide) rfl (Or.inl rfl) m_Fr.refl ⟨rfl, hR⟩
      | ok y =>
        rw [hs] at hR
        obtain ⟨rfl, hR⟩ := hR
        obtain ⟨k1, rfl⟩ := s_take_ok hs
        dsimp only
        refine m_D.nay 9 (by decide) rfl (by decide) ?_
        refine m_D.pla 5 (by decide) rfl ?_
        exact y_clo (ws.length - 1) 1 (m + 1) _ I1 A1 J1 hR (by show 1 + (ws.length - 1) = ws.length; omega) (by rw [hF2.2.1 6 (by decide)]; exact hT.1) hn
end MTK
