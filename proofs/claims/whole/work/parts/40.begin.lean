/-! THE CLASS'S SCANNER: beginLine -/
theorem nI_div8 {a : Nat} (h : a < 2 ^ 31) : nI a / 8 = nI (a / 8) := by
  apply Int32.toInt_inj.mp
  rw [Int32.toInt_div, nI_toInt h, nI_toInt (by omega), show (8 : Int32).toInt = 8 from rfl]
  rw [Int.tdiv_eq_ediv_of_nonneg (by omega)]
  have e : ((a : Int) / 8) = ((a / 8 : Nat) : Int) := by omega
  rw [e]
  apply Int.bmod_eq_of_le <;> omega
theorem nI_mul (a b : Nat) : nI a * nI b = nI (a * b) := (Int32.ofNat_mul a b).symm
theorem nI_sub {a b : Nat} (h : b ≤ a) : nI a - nI b = nI (a - b) := by
  have : nI a = nI (a - b) + nI b := by rw [nI_add, Nat.sub_add_cancel h]
  rw [this]
  simp
theorem s_bl_le {tx : Nat → Int32} : ∀ (f p w : Nat), p ≤ (s_bl tx f p w).1 ∧ (s_bl tx f p w).1 ≤ p + f ∧ (s_bl tx f p w).2 ≤ w + 8 * f
  | 0, p, w => ⟨Nat.le_refl _, Nat.le_refl _, Nat.le_refl _⟩
  | f + 1, p, w => by
    unfold s_bl
    split
    · have h := s_bl_le (tx := tx) f (p + 1) (if tx p = 9 then w / 8 * 8 + 8 else w + 1)
      have hw : (if tx p = 9 then w / 8 * 8 + 8 else w + 1) ≤ w + 8 := by split <;> omega
      omega
    · dsimp only; omega
theorem s_run_le {f : Nat → Bool} : ∀ (m p : Nat), p ≤ s_run f m p ∧ s_run f m p ≤ p + m
  | 0, p => ⟨Nat.le_refl _, Nat.le_refl _⟩
  | m + 1, p => by
    unfold s_run
    split
    · have h := s_run_le (f := f) m (p + 1)
      omega
    · omega
section BEG
variable {g : List aK} {I A : Nat → Nat → Int32} {J : Nat → Nat → Int64} {X : Nat × (Nat → Int32)} {tx : Nat → Int32} {n p0 : Nat}
abbrev c_l48 (w p0 : Nat) : List (Nat × Value) := [(2, .int (nI w)), (1, .int (nI p0)), (0, .ref 19)]
theorem k_bl (hT : c_T tx n I A) : ∀ (f p w : Nat), p + f = n → w + 8 * f < 2 ^ 20 → am_To 48 12 (7, c_l48 w p0, [], am_H g (am_u I 19 6 (nI p)) A J X) (84, c_l48 (s_bl tx f p w).2 p0, [], am_H g (am_u I 19 6 (nI (s_bl tx f p w).1)) A J X) := by
  have hn := hT.2.1
  intro f
  induction f with
  | zero =>
    intro p w hp hw B C u c Q hu hc k
    refine am_yea 9 (by decide) rfl ?_ k
    rw [am_uk, (hT.put (by decide)).1]
    exact nI_le (by omega) (by omega)
  | succ f ih =>
    intro p w hp hw B C u c Q hu hc k
    have hT' : c_T tx n (am_u I 19 6 (nI p)) A := hT.put (by decide)
    have e0 : s_ch tx n p = tx p := if_pos (by omega)
    have hat := k_at (g := g) (J := J) (X := X) (p := p) hT' (by omega)
    rw [e0] at hat
    refine am_nay 9 (by decide) rfl (by rw [am_uk, hT'.1]; exact nI_ge (show p < n by omega) (by omega)) ?_
    refine am_cav 9 (by decide) rfl (by rw [am_uk]; exact hat) (by decide) hu hc ?_
    refine am_cav 9 (by decide) rfl t_blank (by decide) hu hc ?_
    by_cases cb : c_blank (tx p) = true
    · have eq1 : s_bl tx (f + 1) p w = s_bl tx f (p + 1) (if tx p = 9 then w / 8 * 8 + 8 else w + 1) := by rw [s_bl, if_pos cb]
      rw [eq1] at k
      refine am_nay 9 (by decide) rfl (am_b1.mpr cb) ?_
      refine am_cav 9 (by decide) rfl (by rw [am_uk]; exact hat) (by decide) hu hc ?_
      by_cases c9 : tx p = 9
      · refine am_nay 9 (by decide) rfl (fun q => q c9) ?_
        rw [if_pos c9] at k
        have := ih (p + 1) (w / 8 * 8 + 8) (by omega) (by omega) B C u c Q hu hc k
        refine am_nee 9 (by decide) rfl (by decide) ?_
        refine am_pla 13 (by decide) rfl ?_
        rw [am_uk, am_uu, nI_1, nI_div8 (by omega), show (8 : Int32) = nI 8 from rfl, nI_mul, nI_add]
        exact this
      · refine am_yea 9 (by decide) rfl c9 ?_
        rw [if_neg c9] at k
        have := ih (p + 1) (w + 1) (by omega) (by omega) B C u c Q hu hc k
        refine am_pla 11 (by decide) rfl ?_
        rw [am_uk, am_uu, nI_1, nI_1]
        exact this
    · have eq1 : s_bl tx (f + 1) p w = (p, w) := by rw [s_bl, if_neg cb]
      rw [eq1] at k
      exact am_yea 9 (by decide) rfl (am_b0.mpr (by simpa using cb)) k
theorem am_Fr.place {v : Int32} : am_Fr c_sc I A (am_u I 19 6 v) A := am_Fr.put (by decide)
theorem nI_min {a b : Nat} (ha : a < 2 ^ 31) (hb : b < 2 ^ 31) : (if nI b < nI a then nI b else nI a) = nI (min a b) := by
  rcases Nat.lt_or_ge b a with q | q
  · rw [if_pos (nI_lt q ha), Nat.min_eq_right (by omega)]
  · rw [if_neg (nI_nlt q hb), Nat.min_eq_left q]
theorem k_line {p m : Nat} {l : Bool} {ws : List (Nat × Nat)} {bs : List Nat} {tk : Nat → aT} (hT : c_T tx n I A) (hz : c_S (p, l, ws, bs, m, tk) I A) (hW : s_W ws) (hp : p ≤ n) : c_R c_sc 12 48 [.ref 19] g I A J X (fun _ => none) c_S (s_line tx n (p, l, ws, bs, m, tk)) := by
  have hn := hT.2.1
  have h1 := hz.1
  have hbl := s_bl_le (tx := tx) (n - p) p 0
  have st := k_bl (g := g) (J := J) (X := X) (p0 := p) hT (n - p) p 0 (by omega) (by omega)
  rw [am_ui h1] at st
  unfold s_line
  dsimp only
  revert hbl st
  generalize s_bl tx (n - p) p 0 = qw
  obtain ⟨q, w⟩ := qw
  intro hbl st
  dsimp only at hbl st ⊢
  have hT' : c_T tx n (am_u I 19 6 (nI q)) A := hT.put (by decide)
  have hat := k_at (g := g) (J := J) (X := X) (p := q) hT' (by omega)
  have st1 : am_To 48 12 (0, lv_args 0 [.ref 19], [], am_H g I A J X) (96, (3, .int (s_ch tx n q)) :: c_l48 w p, [], am_H g (am_u I 19 6 (nI q)) A J X) := by
    intro B C u c Q hu hc k
    refine am_pla 5 (by decide) rfl ?_
    rw [h1]
    refine st B C u c Q hu hc ?_
    refine am_cav 9 (by decide) rfl (by rw [am_uk]; exact hat) (by decide) hu hc ?_
    exact am_pla 1 (by decide) rfl k
  by_cases cc : n ≤ q ∨ s_ch tx n q = 10 ∨ s_ch tx n q = 35
  · rw [if_pos cc]
    have hnl := k_nl (g := g) (J := J) (X := X) (p := q) hT' am_uk (by omega)
    rw [am_uu] at hnl
    have hr := s_run_le (f := fun k => !decide (tx k = 10)) (n - q) q
    have hr' : s_nl tx n q ≤ n := by unfold s_nl; omega
    have st2 : am_To 48 12 (96, (3, .int (s_ch tx n q)) :: c_l48 w p, [], am_H g (am_u I 19 6 (nI q)) A J X) (122, (3, .int (s_ch tx n q)) :: c_l48 w p, [], am_H g (am_u I 19 6 (nI q)) A J X) := by
      intro B C u c Q hu hc k
      by_cases c1 : n ≤ q
      · exact am_yea 9 (by decide) rfl (by rw [am_uk, hT'.1]; exact nI_le c1 (by omega)) k
      · refine am_nay 9 (by decide) rfl (by rw [am_uk, hT'.1]; exact nI_ge (by omega) (by omega)) ?_
        by_cases c2 : s_ch tx n q = 10
        · exact am_yea 9 (by decide) rfl c2 k
        · refine am_nay 9 (by decide) rfl c2 ?_
          refine am_nay 9 (by decide) rfl (fun e => ?_) k
          rcases cc with h | h | h
          · exact c1 h
          · exact c2 h
          · exact e h
    refine ⟨am_u I 19 6 (nI (min (s_nl tx n q + 1) n)), A, hz.pl (by omega), am_Fr.place, am_met rfl rfl ((st1.trans st2) _ _ _ _ _ (by decide) (by decide) ?_)⟩
    refine am_can 9 (by decide) rfl hnl (by decide) (by decide) (by decide) ?_
    refine am_cav 12 (by decide) rfl t_min (by decide) (by decide) (by decide) ?_
    refine am_end 9 (by decide) rfl trivial (by decide) (by decide) ⟨rfl, ?_⟩
    rw [am_uu, am_uk, (hT.put (by decide)).1, nI_1, nI_min (by omega) (by omega)]
  · rw [if_neg cc]
    have c1 : ¬ n ≤ q := fun h => cc (Or.inl h)
    have c2 : ¬ s_ch tx n q = 10 := fun h => cc (Or.inr (Or.inl h))
    have c3 : ¬ s_ch tx n q = 35 := fun h => cc (Or.inr (Or.inr h))
    have st2 : am_To 48 12 (96, (3, .int (s_ch tx n q)) :: c_l48 w p, [], am_H g (am_u I 19 6 (nI q)) A J X) (147, (3, .int (s_ch tx n q)) :: c_l48 w p, [], am_H g (am_u I 19 6 (nI q)) A J X) := by
      intro B C u c Q hu hc k
      refine am_nay 9 (by decide) rfl (by rw [am_uk, hT'.1]; exact nI_ge (by omega) (by omega)) ?_
      refine am_nay 9 (by decide) rfl c2 ?_
      exact am_yea 9 (by decide) rfl c3 k
    have hcm := k_cmp (g := g) (J := J) (X := X) (w := w) (nr := q - p) (hz.pl (p' := q) (by omega)) hW (by omega) (by omega)
    have es : nI q - nI p = nI (q - p) := nI_sub (by omega)
    revert hcm
    generalize s_cmp w (q - p) (q, l, ws, bs, m, tk) = res
    intro hcm
    cases res with
    | error e =>
      obtain ⟨I', A', k, g1, g2, g3, g4⟩ := hcm
      refine ⟨I', A', k, g1, g2, am_Fr.place.e3.trans g3, am_metF rfl rfl (am_Ft.from (st1.trans st2) ?_)⟩
      intro B C u c Q hu hc hq
      exact am_cat 9 (by decide) rfl (by rw [am_uk, es]; exact g4) (by decide) hu hc rfl hq
    | ok y =>
      obtain ⟨I', A', g1, g2, g3⟩ := hcm
      obtain ⟨py, ly, wy, by', my, ty⟩ := y
      refine ⟨am_u I' 19 7 (am_b true), A', g1.ln, (am_Fr.place.trans g2).trans (am_Fr.put (by decide)), am_met rfl rfl ((st1.trans st2) _ _ _ _ _ (by decide) (by decide) ?_)⟩
      refine am_can 9 (by decide) rfl (by rw [am_uk, es]; exact g3) (by decide) (by decide) (by decide) ?_
      refine am_nee 9 (by decide) rfl (Or.inr rfl) ?_
      exact am_end 9 (by decide) rfl trivial (by decide) (by decide) ⟨rfl, rfl⟩
end BEG
