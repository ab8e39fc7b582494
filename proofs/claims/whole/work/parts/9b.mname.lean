/-! THE REFERENCE'S SCANNER: a name -/
theorem c_name_48 : ∀ m : Nat, m < 127 → (c_letter (nI m) || c_digit (nI m)) = true → 48 ≤ m := by decide +kernel
theorem lg_cmp0 {x y : Int64} : lg_cmp x y = 0 ↔ x = y := by
  unfold lg_cmp
  constructor
  · intro h
    split at h
    · exact absurd h (by decide)
    · split at h
      · assumption
      · exact absurd h (by decide)
  · intro h
    subst h
    simp
section MNA
variable {g : List aK} {X : Nat × (Nat → Int32)} {tx : Nat → Int32} {n : Nat} {I A : Nat → Nat → Int32} {J : Nat → Nat → Int64} {p m : Nat} {l : Bool} {ws : List (Nat × Nat)} {bs : List Nat} {tk : Nat → aT}
theorem m_mark {cs : Nat → Nat} {L : Nat} (hL : 1 ≤ L) (hn : p + L ≤ n) (h : ∀ i, i < L → tx (p + i) = nI (cs i) ∧ 48 ≤ cs i ∧ cs i < 128) : s_mark tx n p L = (if m_nc tx p L = Int64.ofNat 26982 then 11 else if m_nc tx p L = Int64.ofNat 1701603686 then 12 else if m_nc tx p L = Int64.ofNat 1701606245 then 13 else if m_nc tx p L = Int64.ofNat 512852847717 then 14 else if m_nc tx p L = Int64.ofNat 6579558 then 15 else if m_nc tx p L = Int64.ofNat 125780071117422 then 16 else if m_nc tx p L = Int64.ofNat 1885434739 then 17 else if m_nc tx p L = Int64.ofNat 422826041707 then 18 else if m_nc tx p L = Int64.ofNat 6385252 then 19 else if m_nc tx p L = Int64.ofNat 28530 then 20 else if m_nc tx p L = Int64.ofNat 7237492 then 21 else 1) := by
  unfold s_mark
  simp only [m_is4 hL hn h, m_is5 hL hn h, m_is6 hL hn h, m_is7 hL hn h, m_is8 hL hn h, m_is9 hL hn h, m_is10 hL hn h, m_is11 hL hn h, m_is12 hL hn h, m_is13 hL hn h, m_is14 hL hn h]
theorem y_name (hT : m_T tx n I A) (hz : m_S (p, l, ws, bs, m, tk) I A J) (hp : p < n) (hd : c_letter (tx p) = true) : m_M m_fs m_cs 4 140 [.ref 29, .int (nI p)] g I A J X (m_Rp (match s_run (fun k => c_letter (tx k) || c_digit (tx k)) (n - (p + 1)) (p + 1) with
    | e => s_take (if s_mark tx n p (e - p) = 1 then 1 else 2) (s_mark tx n p (e - p)) (e - p) (p, l, ws, bs, m, tk))) := by
  have hn := hT.2.1
  have loop : ∀ (f e : Nat), e + f = n → p ≤ e → am_To 140 4 (4, [(2, .int (nI e)), (3, .long (m_nc tx p (e - p))), (0, .ref 29), (1, .int (nI p))], [], am_H g I A J X) (58, [(2, .int (nI (s_run (fun k => c_letter (tx k) || c_digit (tx k)) f e))), (3, .long (m_nc tx p (s_run (fun k => c_letter (tx k) || c_digit (tx k)) f e - p))), (0, .ref 29), (1, .int (nI p))], [], am_H g I A J X) := by
    intro f
    induction f with
    | zero =>
      intro e hf hpe B C u c Q hu hc k
      unfold s_run at k
      refine am_cav 9 (by decide) rfl (y_char hT (by omega)) (by decide) hu hc ?_
      refine am_cav 9 (by decide) rfl m_letter (by decide) hu hc ?_
      rw [c_letter_x, if_neg (by omega)]
      refine am_nay 9 (by decide) rfl (by decide) ?_
      refine am_cav 9 (by decide) rfl (y_char hT (by omega)) (by decide) hu hc ?_
      refine am_cav 9 (by decide) rfl m_digit (by decide) hu hc ?_
      rw [c_digit_x, if_neg (by omega)]
      exact am_yea 9 (by decide) rfl (by decide) k
    | succ f ih =>
      intro e hf hpe B C u c Q hu hc k
      unfold s_run at k
      have body : am_Tri 140 4 B C u c (4, [(2, .int (nI (e + 1))), (3, .long (m_nc tx p (e + 1 - p))), (0, .ref 29), (1, .int (nI p))], [], am_H g I A J X) Q → am_Tri 140 4 B C u c (26, [(2, .int (nI e)), (3, .long (m_nc tx p (e - p))), (0, .ref 29), (1, .int (nI p))], [], am_H g I A J X) Q := fun k => by
        have e1 : e + 1 - p = (e - p) + 1 := by omega
        rw [e1] at k
        unfold m_nc at k
        by_cases c7 : e - p < 7
        · rw [if_pos c7, show p + (e - p) = e from by omega] at k
          refine am_nay 9 (by decide) rfl (by rw [nI_sub hpe]; exact nI_ge (b := 7) c7 (by decide)) ?_
          refine am_nee 9 (by decide) rfl (nI_in (show e < 600 by omega) (by decide)) ?_
          refine am_pla 6 (by decide) rfl ?_
          rw [nI_1, nI_clamp (by omega), hT.2.2.1 e (by omega)]
          exact k
        · rw [if_neg c7] at k
          refine am_yea 9 (by decide) rfl (by rw [nI_sub hpe]; exact nI_le (a := 7) (by omega) (by omega)) ?_
          refine am_pla 4 (by decide) rfl ?_
          rw [nI_1]
          exact k
      refine am_cav 9 (by decide) rfl (y_char hT (by omega)) (by decide) hu hc ?_
      refine am_cav 9 (by decide) rfl m_letter (by decide) hu hc ?_
      rw [c_letter_x, if_pos (by omega)]
      by_cases cl : c_letter (tx e) = true
      · rw [if_pos (by simp [cl])] at k
        rw [cl]
        refine am_yea 9 (by decide) rfl (by decide) (body ?_)
        exact ih (e + 1) (by omega) (by omega) B C u c Q hu hc k
      · rw [show c_letter (tx e) = false from by simpa using cl]
        refine am_nay 9 (by decide) rfl (by decide) ?_
        refine am_cav 9 (by decide) rfl (y_char hT (by omega)) (by decide) hu hc ?_
        refine am_cav 9 (by decide) rfl m_digit (by decide) hu hc ?_
        rw [c_digit_x, if_pos (by omega)]
        by_cases cd : c_digit (tx e) = true
        · rw [if_pos (by simp [cd])] at k
          rw [cd]
          refine am_nay 9 (by decide) rfl (by decide) (body ?_)
          exact ih (e + 1) (by omega) (by omega) B C u c Q hu hc k
        · rw [if_neg (by simp [cl, cd])] at k
          rw [show c_digit (tx e) = false from by simpa using cd]
          exact am_yea 9 (by decide) rfl (by decide) k
  have hr : s_run (fun k => c_letter (tx k) || c_digit (tx k)) (n - p) p = s_run (fun k => c_letter (tx k) || c_digit (tx k)) (n - (p + 1)) (p + 1) := by
    obtain ⟨d, hd'⟩ : ∃ d, n - p = d + 1 := ⟨n - p - 1, by omega⟩
    rw [hd', show n - (p + 1) = d from by omega]
    conv => lhs; unfold s_run
    rw [if_pos (by simp [hd])]
  have hle := s_run_le (f := fun k => c_letter (tx k) || c_digit (tx k)) (n - (p + 1)) (p + 1)
  have hall : ∀ (f e : Nat) (k : Nat), e ≤ k → k < s_run (fun k => c_letter (tx k) || c_digit (tx k)) f e → (c_letter (tx k) || c_digit (tx k)) = true := by
    intro f
    induction f with
    | zero => intro e k h1 h2; unfold s_run at h2; omega
    | succ f ih =>
      intro e k h1 h2
      unfold s_run at h2
      split at h2
      · next ce =>
        by_cases hk : k = e
        · rw [hk]; exact ce
        · exact ih (e + 1) k (by omega) h2
      · omega
  have hall2 := hall (n - p) p
  rw [hr] at hall2
  have lp := loop (n - p) p (by omega) (Nat.le_refl _)
  rw [hr] at lp
  generalize s_run (fun k => c_letter (tx k) || c_digit (tx k)) (n - (p + 1)) (p + 1) = e at lp hle hall2
  have hcs : ∀ i, i < e - p → tx (p + i) = nI (tx (p + i)).toNatClampNeg ∧ 48 ≤ (tx (p + i)).toNatClampNeg ∧ (tx (p + i)).toNatClampNeg < 128 := fun i hi => by
    obtain ⟨k, k1, k2, k3⟩ := c_char_of (hT.2.2.2 (p + i) (by omega))
    have h48 := hall2 (p + i) (by omega) (by omega)
    rw [k3] at h48
    have := c_name_48 k k1 h48
    rw [k3, nI_clamp (by omega)]
    exact ⟨rfl, this, by omega⟩
  have hmk := m_mark (cs := fun i => (tx (p + i)).toNatClampNeg) (L := e - p) (show 1 ≤ e - p by omega) (show p + (e - p) ≤ n by omega) hcs
  refine m_D.met rfl rfl ?_
  refine m_D.pla 4 (by decide) rfl ?_
  refine m_D.sub [1, 0, 2, 3] rfl ?_
  have lp' := lp
  rw [Nat.sub_self] at lp'
  refine m_D.back lp' m_Fr.refl ?_
  dsimp only
  generalize hmc : m_nc tx p (e - p) = code at hmk
  have fin : ∀ (k mk : Int32) (wd : Int32) (cd : Int64), s_mark tx n p (e - p) = mk → (if mk = 1 then 1 else 2 : Int32) = k → cd = m_cd mk → (wd = 1 ∧ k = 2 ∧ cd = code ∨ wd = 0 ∧ k = 1 ∧ cd = 0) → m_D m_fs m_cs 140 4 g X I A J (151, [(2, .int (nI e)), (3, .long code), (0, .ref 29), (1, .int (nI p))], [.int wd], am_H g I A J X) (m_Rp (s_take (if s_mark tx n p (e - p) = 1 then 1 else 2) (s_mark tx n p (e - p)) (e - p) (p, l, ws, bs, m, tk))) := fun k mk wd cd h1 h2 h3 h4 => by
    rw [h1, h2]
    have hadd := y_add (g := g) (X := X) (k := k) (mk := mk) (e := e - p) hz
    rw [← h3, show nI (e - p) = nI e - nI p from (nI_sub (by omega)).symm] at hadd
    have tail : m_D m_fs m_cs 140 4 g X I A J (178, [(5, .int wd), (2, .int (nI e)), (3, .long code), (0, .ref 29), (1, .int (nI p))], [.long cd, .int (nI e - nI p), .int (nI p), .int k, .ref 29], am_H g I A J X) (m_Rp (s_take k mk (e - p) (p, l, ws, bs, m, tk))) := by
      refine m_D.call (n := 9) (by decide) rfl (by decide) hadd (fun v I1 A1 J1 hR hF => ?_)
      obtain ⟨hR, -⟩ := hR
      cases hs : s_take k mk (e - p) (p, l, ws, bs, m, tk) with
      | error q =>
        rw [hs] at hR
        obtain ⟨rfl, hR⟩ := hR
        refine m_D.yea 9 (by decide) rfl (by decide) ?_
        exact m_D.ret 9 (by decide) rfl trivial m_Fr.refl ⟨rfl, hR⟩
      | ok y =>
        rw [hs] at hR
        obtain ⟨rfl, hR⟩ := hR
        have h1 := (s_take_ok hs).2
        refine m_D.nay 9 (by decide) rfl (by decide) ?_
        refine m_D.ret 9 (by decide) rfl trivial m_Fr.refl ⟨?_, hR⟩
        rw [h1]
        dsimp only
        congr 3
        omega
    rcases h4 with ⟨r1, r2, r3⟩ | ⟨r1, r2, r3⟩
    · subst r1 r2 r3
      refine m_D.nay 9 (by decide) rfl (by decide) ?_
      refine m_D.nay 9 (by decide) rfl (by decide) ?_
      refine m_D.pla 2 (by decide) rfl ?_
      exact tail
    · subst r1 r2 r3
      refine m_D.yea 9 (by decide) rfl (by decide) ?_
      refine m_D.yea 9 (by decide) rfl (by decide) ?_
      refine m_D.pla 1 (by decide) rfl ?_
      exact tail
  by_cases h0 : code = Int64.ofNat 26982
  · refine m_D.yea 9 (by decide) rfl (lg_cmp0.mpr h0) ?_
    refine m_D.pla 2 (by decide) rfl ?_
    exact fin 2 11 1 code (by rw [hmk, h0]; decide) rfl (by rw [h0]; decide) (Or.inl ⟨rfl, rfl, rfl⟩)
  refine m_D.nay 9 (by decide) rfl (fun z => h0 (lg_cmp0.mp z)) ?_
  by_cases h1 : code = Int64.ofNat 1701603686
  · refine m_D.yea 9 (by decide) rfl (lg_cmp0.mpr h1) ?_
    refine m_D.pla 2 (by decide) rfl ?_
    exact fin 2 12 1 code (by rw [hmk, h1]; decide) rfl (by rw [h1]; decide) (Or.inl ⟨rfl, rfl, rfl⟩)
  refine m_D.nay 9 (by decide) rfl (fun z => h1 (lg_cmp0.mp z)) ?_
  by_cases h2 : code = Int64.ofNat 1701606245
  · refine m_D.yea 9 (by decide) rfl (lg_cmp0.mpr h2) ?_
    refine m_D.pla 2 (by decide) rfl ?_
    exact fin 2 13 1 code (by rw [hmk, h2]; decide) rfl (by rw [h2]; decide) (Or.inl ⟨rfl, rfl, rfl⟩)
  refine m_D.nay 9 (by decide) rfl (fun z => h2 (lg_cmp0.mp z)) ?_
  by_cases h3 : code = Int64.ofNat 6579558
  · refine m_D.yea 9 (by decide) rfl (lg_cmp0.mpr h3) ?_
    refine m_D.pla 2 (by decide) rfl ?_
    exact fin 2 15 1 code (by rw [hmk, h3]; decide) rfl (by rw [h3]; decide) (Or.inl ⟨rfl, rfl, rfl⟩)
  refine m_D.nay 9 (by decide) rfl (fun z => h3 (lg_cmp0.mp z)) ?_
  by_cases h4 : code = Int64.ofNat 1885434739
  · refine m_D.yea 9 (by decide) rfl (lg_cmp0.mpr h4) ?_
    refine m_D.pla 2 (by decide) rfl ?_
    exact fin 2 17 1 code (by rw [hmk, h4]; decide) rfl (by rw [h4]; decide) (Or.inl ⟨rfl, rfl, rfl⟩)
  refine m_D.nay 9 (by decide) rfl (fun z => h4 (lg_cmp0.mp z)) ?_
  by_cases h5 : code = Int64.ofNat 6385252
  · refine m_D.yea 9 (by decide) rfl (lg_cmp0.mpr h5) ?_
    refine m_D.pla 2 (by decide) rfl ?_
    exact fin 2 19 1 code (by rw [hmk, h5]; decide) rfl (by rw [h5]; decide) (Or.inl ⟨rfl, rfl, rfl⟩)
  refine m_D.nay 9 (by decide) rfl (fun z => h5 (lg_cmp0.mp z)) ?_
  by_cases h6 : code = Int64.ofNat 28530
  · refine m_D.yea 9 (by decide) rfl (lg_cmp0.mpr h6) ?_
    refine m_D.pla 2 (by decide) rfl ?_
    exact fin 2 20 1 code (by rw [hmk, h6]; decide) rfl (by rw [h6]; decide) (Or.inl ⟨rfl, rfl, rfl⟩)
  refine m_D.nay 9 (by decide) rfl (fun z => h6 (lg_cmp0.mp z)) ?_
  by_cases h7 : code = Int64.ofNat 7237492
  · refine m_D.yea 9 (by decide) rfl (lg_cmp0.mpr h7) ?_
    refine m_D.pla 2 (by decide) rfl ?_
    exact fin 2 21 1 code (by rw [hmk, h7]; decide) rfl (by rw [h7]; decide) (Or.inl ⟨rfl, rfl, rfl⟩)
  refine m_D.nay 9 (by decide) rfl (fun z => h7 (lg_cmp0.mp z)) ?_
  by_cases h8 : code = Int64.ofNat 512852847717
  · refine m_D.yea 9 (by decide) rfl (lg_cmp0.mpr h8) ?_
    refine m_D.pla 2 (by decide) rfl ?_
    exact fin 2 14 1 code (by rw [hmk, h8]; decide) rfl (by rw [h8]; decide) (Or.inl ⟨rfl, rfl, rfl⟩)
  refine m_D.nay 9 (by decide) rfl (fun z => h8 (lg_cmp0.mp z)) ?_
  by_cases h9 : code = Int64.ofNat 125780071117422
  · refine m_D.yea 9 (by decide) rfl (lg_cmp0.mpr h9) ?_
    refine m_D.pla 2 (by decide) rfl ?_
    exact fin 2 16 1 code (by rw [hmk, h9]; decide) rfl (by rw [h9]; decide) (Or.inl ⟨rfl, rfl, rfl⟩)
  refine m_D.nay 9 (by decide) rfl (fun z => h9 (lg_cmp0.mp z)) ?_
  by_cases h10 : code = Int64.ofNat 422826041707
  · refine m_D.nay 9 (by decide) rfl (fun z => z (lg_cmp0.mpr h10)) ?_
    refine m_D.pla 2 (by decide) rfl ?_
    exact fin 2 18 1 code (by rw [hmk, h10]; decide) rfl (by rw [h10]; decide) (Or.inl ⟨rfl, rfl, rfl⟩)
  refine m_D.yea 9 (by decide) rfl (fun z => h10 (lg_cmp0.mp z)) ?_
  refine m_D.pla 1 (by decide) rfl ?_
  exact fin 1 1 0 0 (by rw [hmk, if_neg h0, if_neg h1, if_neg h2, if_neg h8, if_neg h3, if_neg h9, if_neg h4, if_neg h10, if_neg h5, if_neg h6, if_neg h7]) rfl rfl (Or.inr ⟨rfl, rfl, rfl⟩)
end MNA
