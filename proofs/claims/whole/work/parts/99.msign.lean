/-! THE REFERENCE'S SCANNER: a sign -/
theorem s_sign_br {tx : Nat → Int32} {n p m : Nat} {l : Bool} {ws : List (Nat × Nat)} {bs : List Nat} {tk : Nat → aT} : s_sign tx n (p, l, ws, bs, m, tk) = if s_pair (s_ch tx n p) = true ∧ s_ch tx n (p + 1) = 61 then s_take 5 (s_ch tx n p + 128) 2 (p, l, ws, bs, m, tk) else if s_one (s_ch tx n p) = false then .error (7, p) else match s_br tx n (s_ch tx n p) (p, l, ws, bs, m, tk) with
    | .error e => .error e
    | .ok z => s_take 5 (s_ch tx n p) 1 z := by
  unfold s_sign s_br
  dsimp only
  by_cases c1 : s_pair (s_ch tx n p) = true ∧ s_ch tx n (p + 1) = 61
  · rw [if_pos c1, if_pos c1]
  rw [if_neg c1, if_neg c1]
  by_cases c2 : s_one (s_ch tx n p) = false
  · rw [if_pos c2, if_pos c2]
  rw [if_neg c2, if_neg c2]
  by_cases c3 : s_ch tx n p = 40 ∨ s_ch tx n p = 91
  · rw [if_pos c3, if_pos c3]
    by_cases c4 : bs.length < 8
    · rw [if_pos c4, if_pos c4]
    · rw [if_neg c4, if_neg c4]
  rw [if_neg c3, if_neg c3]
  by_cases c4 : s_ch tx n p = 41 ∨ s_ch tx n p = 93
  · rw [if_pos c4, if_pos c4]
    cases bs with
    | nil => rfl
    | cons b r =>
      dsimp only
      by_cases c5 : s_ch tx n b = (if s_ch tx n p = 41 then 40 else 91)
      · rw [if_pos c5, if_pos c5]
      · rw [if_neg c5, if_neg c5]
  · rw [if_neg c4, if_neg c4]
theorem s_pair_cd {c : Int32} (h : s_pair c = true) : m_cd (c + 128) = (256 + c).toInt64 ∧ c ≠ 40 ∧ c ≠ 91 ∧ c ≠ 41 ∧ c ≠ 93 := by
  unfold s_pair at h
  simp only [Bool.or_eq_true, decide_eq_true_eq] at h
  rcases h with ((h | h) | h) | h <;> (subst h; decide)
theorem s_one_cd {c : Int32} (h : s_one c = true) : m_cd c = c.toInt64 := by
  unfold s_one at h
  simp only [Bool.or_eq_true, decide_eq_true_eq] at h
  rcases h with ((((((((((((((h | h) | h) | h) | h) | h) | h) | h) | h) | h) | h) | h) | h) | h) | h) | h <;> (subst h; decide)
section MSI
variable {g : List aK} {X : Nat × (Nat → Int32)} {tx : Nat → Int32} {n : Nat} {I A : Nat → Nat → Int32} {J : Nat → Nat → Int64} {p m : Nat} {l : Bool} {ws : List (Nat × Nat)} {bs : List Nat} {tk : Nat → aT}
theorem s_cx61 {e : Nat} : s_cx tx n e = 61 ↔ s_ch tx n e = 61 := by
  unfold s_cx s_ch
  split
  · rfl
  · decide
theorem y_sgn (hT : m_T tx n I A) (hz : m_S (p, l, ws, bs, m, tk) I A J) (hp : p < n) (hb : ∀ b ∈ bs, b < n) : m_M m_fs m_cs 3 145 [.ref 29, .int (nI p)] g I A J X (m_Rp (s_sign tx n (p, l, ws, bs, m, tk))) := by
  have hn := hT.2.1
  have ech : s_ch tx n p = tx p := if_pos hp
  have e31 : A 31 (nI p).toNatClampNeg = tx p := by rw [nI_clamp (by omega), hT.2.2.1 p hp]
  rw [s_sign_br, ech]
  refine m_D.met rfl rfl ?_
  refine m_D.nee 9 (by decide) rfl (nI_in (show p < 600 by omega) (by decide)) ?_
  rw [e31]
  have hx := y_char (g := g) (J := J) (X := X) (p := p + 1) hT (by omega)
  generalize tx p = c
  -- whether it is a pair
  have st : ∀ {P : mP}, m_D m_fs m_cs 145 3 g X I A J (48, [(2, .int c), (0, .ref 29), (1, .int (nI p))], [.int (if s_pair c = true ∧ s_ch tx n (p + 1) = 61 then 1 else 0)], am_H g I A J X) P → m_D m_fs m_cs 145 3 g X I A J (6, [(0, .ref 29), (1, .int (nI p))], [.int c], am_H g I A J X) P := fun {P} k => by
    have k31 : s_pair c = true → m_D m_fs m_cs 145 3 g X I A J (31, [(2, .int c), (0, .ref 29), (1, .int (nI p))], [], am_H g I A J X) P := fun hpr => by
      refine m_D.cav (n := 9) (by decide) (by rw [← nI_1]; rfl) hx (by decide) m_Fr.refl ?_
      by_cases c61 : s_ch tx n (p + 1) = 61
      · rw [if_pos ⟨hpr, c61⟩] at k
        refine m_D.nay 9 (by decide) rfl (fun z => z (s_cx61.mpr c61)) ?_
        exact m_D.pla 2 (by decide) rfl k
      · rw [if_neg (fun z => c61 z.2)] at k
        refine m_D.yea 9 (by decide) rfl (fun z => c61 (s_cx61.mp z)) ?_
        exact m_D.pla 1 (by decide) rfl k
    by_cases h61 : c = 61
    · exact m_D.yea 9 (by decide) rfl h61 (k31 (by rw [h61]; decide))
    refine m_D.nay 9 (by decide) rfl h61 ?_
    by_cases h33 : c = 33
    · exact m_D.yea 9 (by decide) rfl h33 (k31 (by rw [h33]; decide))
    refine m_D.nay 9 (by decide) rfl h33 ?_
    by_cases h60 : c = 60
    · exact m_D.yea 9 (by decide) rfl h60 (k31 (by rw [h60]; decide))
    refine m_D.nay 9 (by decide) rfl h60 ?_
    by_cases h62 : c = 62
    · exact m_D.nay 9 (by decide) rfl (fun z => z h62) (k31 (by rw [h62]; decide))
    have hpr : ¬ s_pair c = true := by simp [s_pair, h61, h33, h60, h62]
    rw [if_neg (fun z => hpr z.1)] at k
    refine m_D.yea 9 (by decide) rfl h62 ?_
    exact m_D.pla 1 (by decide) rfl k
  refine st ?_
  by_cases c1 : s_pair c = true ∧ s_ch tx n (p + 1) = 61
  · rw [if_pos c1, if_pos c1]
    obtain ⟨f1, f2, f3, f4, f5⟩ := s_pair_cd c1.1
    have hbr : s_br tx n c (p, l, ws, bs, m, tk) = .ok (p, l, ws, bs, m, tk) := by
      unfold s_br
      dsimp only
      rw [if_neg (fun z => z.elim f2 f3), if_neg (fun z => z.elim f4 f5)]
    have h2 := y_br (g := g) (X := X) (c := c) hT hz hp hb
    rw [hbr] at h2
    refine m_D.yea 9 (by decide) rfl (by decide) ?_
    refine m_D.call (n := 9) (by decide) rfl (by decide) h2 (fun v I1 A1 J1 hR hF => ?_)
    obtain ⟨rfl, hz1⟩ := hR
    refine m_D.yea 9 (by decide) rfl (by decide) ?_
    refine m_D.nay 9 (by decide) rfl (by decide) ?_
    refine m_D.nay 9 (by decide) rfl (by decide) ?_
    refine m_D.call (n := 9) (by decide) (by rw [f1]; rfl) (by decide) (y_add (k := 5) (mk := c + 128) (e := 2) hz1) (fun v I2 A2 J2 hR hF2 => ?_)
    obtain ⟨hR, -⟩ := hR
    cases hs : s_take 5 (c + 128) 2 (p, l, ws, bs, m, tk) with
    | error q =>
      rw [hs] at hR
      obtain ⟨rfl, hR⟩ := hR
      refine m_D.yea 9 (by decide) rfl (by decide) ?_
      exact m_D.ret 9 (by decide) rfl trivial m_Fr.refl ⟨rfl, hR⟩
    | ok y =>
      rw [hs] at hR
      obtain ⟨rfl, hR⟩ := hR
      have h1 := (s_take_ok hs).2
      refine m_D.nay 9 (by decide) rfl (by decide) ?_
      refine m_D.nay 9 (by decide) rfl (by decide) ?_
      refine m_D.ret 9 (by decide) rfl trivial m_Fr.refl ⟨?_, hR⟩
      rw [h1, show (2 : Int32) = nI 2 from rfl, nI_add]
  · rw [if_neg c1, if_neg c1]
    refine m_D.nay 9 (by decide) rfl (by decide) ?_
    refine m_D.cav (n := 9) (by decide) rfl y_sign (by decide) m_Fr.refl ?_
    by_cases c2 : s_one c = false
    · rw [if_pos c2, c2]
      refine m_D.nay 9 (by decide) rfl (by decide) ?_
      refine m_D.cav (n := 9) (by decide) rfl y_fault (by decide) ((m_Fr.put (by decide)).trans (m_Fr.put (by decide))) ?_
      exact m_D.ret 9 (by decide) rfl trivial m_Fr.refl ⟨rfl, by simp [am_u], by simp [am_u]⟩
    · have c2' : s_one c = true := by simpa using c2
      rw [if_neg c2, c2']
      refine m_D.yea 9 (by decide) rfl (by decide) ?_
      have h2 := y_br (g := g) (X := X) (c := c) hT hz hp hb
      refine m_D.call (n := 9) (by decide) rfl (by decide) h2 (fun v I1 A1 J1 hR hF => ?_)
      cases hbr : s_br tx n c (p, l, ws, bs, m, tk) with
      | error q =>
        rw [hbr] at hR
        obtain ⟨rfl, hR⟩ := hR
        refine m_D.nay 9 (by decide) rfl (by decide) ?_
        exact m_D.ret 9 (by decide) rfl trivial m_Fr.refl ⟨rfl, hR⟩
      | ok z =>
        rw [hbr] at hR
        obtain ⟨rfl, hz1⟩ := hR
        have hz0 : ∃ bs', z = (p, l, ws, bs', m, tk) := by
          unfold s_br at hbr
          dsimp only at hbr
          generalize (if c = 41 then (40 : Int32) else 91) = ff at hbr
          split at hbr
          · split at hbr
            · cases hbr; exact ⟨_, rfl⟩
            · cases hbr
          · split at hbr
            · split at hbr
              · cases hbr
              · split at hbr
                · cases hbr; exact ⟨_, rfl⟩
                · cases hbr
            · cases hbr; exact ⟨_, rfl⟩
        obtain ⟨bs', rfl⟩ := hz0
        refine m_D.yea 9 (by decide) rfl (by decide) ?_
        refine m_D.yea 9 (by decide) rfl (by decide) ?_
        refine m_D.yea 9 (by decide) rfl (by decide) ?_
        refine m_D.call (n := 9) (by decide) (by rw [s_one_cd c2']; rfl) (by decide) (y_add (k := 5) (mk := c) (e := 1) hz1) (fun v I2 A2 J2 hR hF2 => ?_)
        obtain ⟨hR, -⟩ := hR
        dsimp only
        cases hs : s_take 5 c 1 (p, l, ws, bs', m, tk) with
        | error q =>
          rw [hs] at hR
          obtain ⟨rfl, hR⟩ := hR
          refine m_D.yea 9 (by decide) rfl (by decide) ?_
          exact m_D.ret 9 (by decide) rfl trivial m_Fr.refl ⟨rfl, hR⟩
        | ok y =>
          rw [hs] at hR
          obtain ⟨rfl, hR⟩ := hR
          have h1 := (s_take_ok hs).2
          refine m_D.nay 9 (by decide) rfl (by decide) ?_
          refine m_D.yea 9 (by decide) rfl (by decide) ?_
          refine m_D.ret 9 (by decide) rfl trivial m_Fr.refl ⟨?_, hR⟩
          rw [h1, nI_1]
end MSI
