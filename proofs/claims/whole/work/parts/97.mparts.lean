/-! THE REFERENCE'S SCANNER: numbers, strings -/
section MNM
variable {g : List aK} {X : Nat × (Nat → Int32)} {tx : Nat → Int32} {n : Nat} {I A : Nat → Nat → Int32} {J : Nat → Nat → Int64} {p m : Nat} {l : Bool} {ws : List (Nat × Nat)} {bs : List Nat} {tk : Nat → aT}
theorem c_digit_x {e : Nat} : c_digit (s_cx tx n e) = (if e < n then c_digit (tx e) else false) := by
  unfold s_cx
  split
  · rfl
  · decide
theorem c_letter_x {e : Nat} : c_letter (s_cx tx n e) = (if e < n then c_letter (tx e) else false) := by
  unfold s_cx
  split
  · rfl
  · decide
theorem c_letter_h {e : Nat} : c_letter (s_ch tx n e) = c_letter (s_cx tx n e) := by
  unfold s_ch s_cx
  split
  · rfl
  · decide
theorem y_num (hT : m_T tx n I A) (hz : m_S (p, l, ws, bs, m, tk) I A J) (hp : p < n) (hd : c_digit (tx p) = true) : m_M m_fs m_cs 4 141 [.ref 29, .int (nI p)] g I A J X (m_Rp (match s_run (fun k => c_digit (tx k)) (n - (p + 1)) (p + 1) with
    | e => if c_letter (s_ch tx n e) = true then .error (6, p) else s_take 3 3 (e - p) (p, l, ws, bs, m, tk))) := by
  have hn := hT.2.1
  have loop : ∀ (f e : Nat), e + f = n → am_To 141 4 (2, [(2, .int (nI e)), (0, .ref 29), (1, .int (nI p))], [], am_H g I A J X) (19, [(2, .int (nI (s_run (fun k => c_digit (tx k)) f e))), (0, .ref 29), (1, .int (nI p))], [], am_H g I A J X) := by
    intro f
    induction f with
    | zero =>
      intro e hf B C u c Q hu hc k
      unfold s_run at k
      refine am_cav 9 (by decide) rfl (y_char hT (by omega)) (by decide) hu hc ?_
      refine am_cav 9 (by decide) rfl m_digit (by decide) hu hc ?_
      rw [c_digit_x, if_neg (by omega)]
      exact am_yea 9 (by decide) rfl (by decide) k
    | succ f ih =>
      intro e hf B C u c Q hu hc k
      unfold s_run at k
      refine am_cav 9 (by decide) rfl (y_char hT (by omega)) (by decide) hu hc ?_
      refine am_cav 9 (by decide) rfl m_digit (by decide) hu hc ?_
      rw [c_digit_x, if_pos (by omega)]
      by_cases cd : c_digit (tx e) = true
      · rw [if_pos cd] at k
        rw [cd]
        refine am_nay 9 (by decide) rfl (by decide) ?_
        refine am_pla 2 (by decide) rfl ?_
        rw [nI_1]
        exact ih (e + 1) (by omega) B C u c Q hu hc k
      · rw [if_neg cd] at k
        rw [show c_digit (tx e) = false from by simpa using cd]
        exact am_yea 9 (by decide) rfl (by decide) k
  have hr : s_run (fun k => c_digit (tx k)) (n - p) p = s_run (fun k => c_digit (tx k)) (n - (p + 1)) (p + 1) := by
    obtain ⟨d, hd'⟩ : ∃ d, n - p = d + 1 := ⟨n - p - 1, by omega⟩
    rw [hd', show n - (p + 1) = d from by omega]
    conv => lhs; unfold s_run
    rw [if_pos hd]
  have hle := s_run_le (f := fun k => c_digit (tx k)) (n - (p + 1)) (p + 1)
  have lp := loop (n - p) p (by omega)
  rw [hr] at lp
  generalize s_run (fun k => c_digit (tx k)) (n - (p + 1)) (p + 1) = e at lp hle
  refine m_D.met rfl rfl ?_
  refine m_D.pla 2 (by decide) rfl ?_
  refine m_D.back lp m_Fr.refl ?_
  refine m_D.cav (n := 9) (by decide) rfl (y_char hT (by omega)) (by decide) m_Fr.refl ?_
  refine m_D.cav (n := 9) (by decide) rfl m_letter (by decide) m_Fr.refl ?_
  rw [← c_letter_h]
  by_cases cl : c_letter (s_ch tx n e) = true
  · rw [if_pos cl, cl]
    refine m_D.nay 9 (by decide) rfl (by decide) ?_
    refine m_D.cav (n := 9) (by decide) rfl y_fault (by decide) ((m_Fr.put (by decide)).trans (m_Fr.put (by decide))) ?_
    refine m_D.yea 9 (by decide) rfl (by decide) ?_
    refine m_D.yea 9 (by decide) rfl (by decide) ?_
    exact m_D.ret 9 (by decide) rfl trivial m_Fr.refl ⟨rfl, by simp [am_u], by simp [am_u]⟩
  · rw [if_neg cl, show c_letter (s_ch tx n e) = false from by simpa using cl]
    refine m_D.yea 9 (by decide) rfl (by decide) ?_
    refine m_D.nay 9 (by decide) rfl (by decide) ?_
    refine m_D.call (n := 12) (by decide) (by rw [show nI (e - p) = nI e - nI p from (nI_sub (by omega)).symm]; rfl) (by decide) (y_add (k := 3) (mk := 3) (e := e - p) hz) (fun v I1 A1 J1 hR hF => ?_)
    obtain ⟨hR, -⟩ := hR
    cases hs : s_take 3 3 (e - p) (p, l, ws, bs, m, tk) with
    | error q =>
      rw [hs] at hR
      obtain ⟨rfl, hR⟩ := hR
      refine m_D.yea 9 (by decide) rfl (by decide) ?_
      exact m_D.ret 9 (by decide) rfl trivial m_Fr.refl ⟨rfl, hR⟩
    | ok y =>
      rw [hs] at hR
      obtain ⟨rfl, hR⟩ := hR
      have h1 := (s_take_ok hs).2
      refine m_D.nay 9 (by decide) rfl (by decide) ?_
      refine m_D.ret 9 (by decide) rfl trivial m_Fr.refl ⟨?_, hR⟩
      rw [h1]
      dsimp only
      congr 3
      omega
theorem s_str_none {q : Int32} : ∀ (f e : Nat), n ≤ e → s_str tx n q f e = none
  | 0, _, _ => rfl
  | f + 1, e, h => by
    unfold s_str
    rw [if_neg (by omega)]
theorem c_char_m {c : Int32} (h : c_char c = true) : c ≠ -1 := fun z => c_char_0 h (by rw [z]; decide)
theorem y_str (hT : m_T tx n I A) (hz : m_S (p, l, ws, bs, m, tk) I A J) (hp : p < n) : m_M m_fs m_cs 4 142 [.ref 29, .int (nI p)] g I A J X (m_Rp (match s_str tx n (tx p) (n - p) (p + 1) with
    | none => .error (5, p)
    | some e => s_take 4 4 (e + 1 - p) (p, l, ws, bs, m, tk))) := by
  have hn := hT.2.1
  have e31 : A 31 (nI p).toNatClampNeg = tx p := by rw [nI_clamp (by omega), hT.2.2.1 p hp]
  have bad : ∀ (ls : List (Nat × Value)), am_run 9 142 (52, ls, [], am_H g I A J X) = am_ca 131 [.ref 29, .int 5, .int (nI p)] (58, ls, [], am_H g I A J X) → (∀ h, am_run 9 142 (58, ls, [.int 0], h) = am_rt True (.inl (some (.int (-1)))) h) → m_D m_fs m_cs 142 4 g X I A J (52, ls, [], am_H g I A J X) (m_Rp (.error (5, p))) := fun ls r1 r2 => by
    refine m_D.cav (n := 9) (by decide) r1 y_fault (by decide) ((m_Fr.put (by decide)).trans (m_Fr.put (by decide))) ?_
    exact m_D.ret 9 (by decide) (r2 _) trivial m_Fr.refl ⟨rfl, by simp [am_u], by simp [am_u]⟩
  have loop : ∀ (f e : Nat), n < e + f → e ≤ n + 1 → p < e → m_D m_fs m_cs 142 4 g X I A J (4, [(2, .int (nI e)), (0, .ref 29), (1, .int (nI p))], [], am_H g I A J X) (m_Rp (match s_str tx n (tx p) f e with
      | none => .error (5, p)
      | some e => s_take 4 4 (e + 1 - p) (p, l, ws, bs, m, tk))) := by
    intro f
    induction f with
    | zero =>
      intro e h1 h2 h3
      have en : s_cx tx n e = -1 := if_neg (by omega)
      have hx := y_char (g := g) (J := J) (X := X) (p := e) hT (by omega)
      rw [en] at hx
      refine m_D.cav (n := 9) (by decide) rfl hx (by decide) m_Fr.refl ?_
      refine m_D.nee 9 (by decide) rfl (nI_in (show p < 600 by omega) (by decide)) ?_
      refine m_D.nay 9 (by decide) rfl (by rw [e31]; exact fun z => c_char_m (hT.2.2.2 p hp) z.symm) ?_
      refine m_D.cav (n := 9) (by decide) rfl hx (by decide) m_Fr.refl ?_
      refine m_D.yea 9 (by decide) rfl (by decide) ?_
      refine m_D.cav (n := 9) (by decide) rfl hx (by decide) m_Fr.refl ?_
      refine m_D.yea 9 (by decide) rfl (by decide) ?_
      exact bad _ rfl (fun _ => rfl)
    | succ f ih =>
      intro e h1 h2 h3
      have hx := y_char (g := g) (J := J) (X := X) (p := e) hT (by omega)
      by_cases ce : e < n
      · have en : s_cx tx n e = tx e := if_pos ce
        rw [en] at hx
        unfold s_str
        rw [if_pos ce]
        refine m_D.cav (n := 9) (by decide) rfl hx (by decide) m_Fr.refl ?_
        refine m_D.nee 9 (by decide) rfl (nI_in (show p < 600 by omega) (by decide)) ?_
        by_cases cq : tx e = tx p
        · rw [if_pos cq]
          refine m_D.yea 9 (by decide) rfl (by rw [e31]; exact cq) ?_
          dsimp only
          refine m_D.call (n := 12) (by decide) (by rw [show nI (e + 1 - p) = nI e + 1 - nI p from by rw [nI_1, nI_sub (by omega)]]; rfl) (by decide) (y_add (k := 4) (mk := 4) (e := e + 1 - p) hz) (fun v I1 A1 J1 hR hF => ?_)
          obtain ⟨hR, -⟩ := hR
          cases hs : s_take 4 4 (e + 1 - p) (p, l, ws, bs, m, tk) with
          | error q =>
            rw [hs] at hR
            obtain ⟨rfl, hR⟩ := hR
            refine m_D.yea 9 (by decide) rfl (by decide) ?_
            exact m_D.ret 9 (by decide) rfl trivial m_Fr.refl ⟨rfl, hR⟩
          | ok y =>
            rw [hs] at hR
            obtain ⟨rfl, hR⟩ := hR
            have h1 := (s_take_ok hs).2
            refine m_D.nay 9 (by decide) rfl (by decide) ?_
            refine m_D.ret 9 (by decide) rfl trivial m_Fr.refl ⟨?_, hR⟩
            rw [h1, nI_1]
            dsimp only
            congr 3
            omega
        · rw [if_neg cq]
          refine m_D.nay 9 (by decide) rfl (by rw [e31]; exact cq) ?_
          refine m_D.cav (n := 9) (by decide) rfl hx (by decide) m_Fr.refl ?_
          have st : ∀ {P : mP}, m_D m_fs m_cs 142 4 g X I A J (36, [(2, .int (nI (if tx e = 92 then e + 1 else e))), (0, .ref 29), (1, .int (nI p))], [], am_H g I A J X) P → m_D m_fs m_cs 142 4 g X I A J (23, [(2, .int (nI e)), (0, .ref 29), (1, .int (nI p))], [.int (tx e)], am_H g I A J X) P := fun k => by
            by_cases c92 : tx e = 92
            · rw [if_pos c92] at k
              refine m_D.nay 9 (by decide) rfl (fun z => z c92) ?_
              refine m_D.pla 5 (by decide) rfl ?_
              rw [nI_1]
              exact k
            · rw [if_neg c92] at k
              refine m_D.yea 9 (by decide) rfl c92 ?_
              refine m_D.pla 2 (by decide) rfl ?_
              exact k
          refine st ?_
          have he' : e ≤ (if tx e = 92 then e + 1 else e) ∧ (if tx e = 92 then e + 1 else e) ≤ e + 1 := by split <;> omega
          generalize (if tx e = 92 then e + 1 else e) = e' at he'
          refine m_D.cav (n := 9) (by decide) rfl (y_char hT (by omega)) (by decide) m_Fr.refl ?_
          by_cases cn : e' < n
          · have en' : s_cx tx n e' = tx e' := if_pos cn
            have eh' : s_ch tx n e' = tx e' := if_pos cn
            rw [en', eh']
            refine m_D.nay 9 (by decide) rfl (c_char_0 (hT.2.2.2 e' cn)) ?_
            by_cases c10 : tx e' = 10
            · rw [if_pos c10]
              refine m_D.nay 9 (by decide) rfl (fun z => z c10) ?_
              exact bad _ rfl (fun _ => rfl)
            · rw [if_neg c10]
              refine m_D.yea 9 (by decide) rfl c10 ?_
              refine m_D.pla 2 (by decide) rfl ?_
              rw [nI_1]
              refine m_D.sub [0, 2, 3] rfl ?_
              exact ih (e' + 1) (by omega) (by omega) (by omega)
          · have en' : s_cx tx n e' = -1 := if_neg cn
            have eh' : s_ch tx n e' = 0 := if_neg cn
            rw [en', eh', if_neg (by decide), s_str_none f (e' + 1) (by omega)]
            refine m_D.yea 9 (by decide) rfl (by decide) ?_
            exact bad _ rfl (fun _ => rfl)
      · have en : s_cx tx n e = -1 := if_neg ce
        rw [en] at hx
        rw [s_str_none (f + 1) e (by omega)]
        refine m_D.cav (n := 9) (by decide) rfl hx (by decide) m_Fr.refl ?_
        refine m_D.nee 9 (by decide) rfl (nI_in (show p < 600 by omega) (by decide)) ?_
        refine m_D.nay 9 (by decide) rfl (by rw [e31]; exact fun z => c_char_m (hT.2.2.2 p hp) z.symm) ?_
        refine m_D.cav (n := 9) (by decide) rfl hx (by decide) m_Fr.refl ?_
        refine m_D.yea 9 (by decide) rfl (by decide) ?_
        refine m_D.cav (n := 9) (by decide) rfl hx (by decide) m_Fr.refl ?_
        refine m_D.yea 9 (by decide) rfl (by decide) ?_
        exact bad _ rfl (fun _ => rfl)
  refine m_D.met rfl rfl ?_
  refine m_D.pla 4 (by decide) rfl ?_
  rw [nI_1]
  exact loop (n - p) (p + 1) (by omega) (by omega) (by omega)
end MNM
