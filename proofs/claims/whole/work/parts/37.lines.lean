/-! THE CLASS'S SCANNER: characters, ends of lines -/
theorem am_uu {α : Type} {f : Nat → Nat → α} {a k : Nat} {v w : α} : am_u (am_u f a k v) a k w = am_u f a k w := by
  funext x y
  by_cases h : x = a ∧ y = k <;> simp [am_u, h]
theorem am_ui {α : Type} {f : Nat → Nat → α} {a k : Nat} {v : α} (h : f a k = v) : am_u f a k v = f := by
  funext x y
  by_cases e : x = a ∧ y = k
  · rw [e.1, e.2, am_uk, h]
  · exact am_un e
theorem c_char_of {c : Int32} (h : c_char c = true) : ∃ m : Nat, m < 127 ∧ 0 < m ∧ c = nI m := by
  simp only [c_char, Bool.or_eq_true, Bool.and_eq_true, decide_eq_true_eq, Bool.not_eq_true', decide_eq_false_iff_not] at h
  rcases h with (h | h) | ⟨h1, h2⟩
  · exact ⟨9, by decide, by decide, h⟩
  · exact ⟨10, by decide, by decide, h⟩
  · have h3 : c ≤ 126 := Int32.not_lt.mp h2
    have h4 : (32 : Int32) ≤ c := Int32.not_lt.mp h1
    have h0 : ¬ c < 0 := fun q => absurd (Int32.lt_of_lt_of_le q (show (0 : Int32) ≤ 32 by decide)) h1
    obtain ⟨j, hj, e⟩ := nI_of2 (M := 126) (n := 126) (by decide) h0 h3
    refine ⟨j, by omega, ?_, e⟩
    rcases Nat.eq_zero_or_pos j with q | q
    · subst q
      rw [e] at h1
      exact absurd (show nI 0 < 32 by decide) h1
    · exact q
theorem c_char_n {c : Int32} (h : c_char c = true) : narrow .char (.int c) = .int c := by
  obtain ⟨m, hm, -, rfl⟩ := c_char_of h
  have key : ∀ m, m < 127 → narrow .char (.int (nI m)) = .int (nI m) := by decide +kernel
  exact key m hm
section LNS
variable {g : List aK} {I A : Nat → Nat → Int32} {J : Nat → Nat → Int64} {X : Nat × (Nat → Int32)} {tx : Nat → Int32} {n p : Nat}
theorem k_at (hT : c_T tx n I A) (hp : p < 2 ^ 31) : am_Con 1 19 [.ref 1, .int (nI p)] (am_H g I A J X) (.inl (some (.int (s_ch tx n p)))) (am_H g I A J X) 0 0 := by
  obtain ⟨h1, h2, h3, h4⟩ := hT
  have := t_at (g := g) (A := A) (J := J) (X := X) h1 h2 hp (fun k hk => by rw [h3]; exact c_char_n (h4 k hk))
  unfold c_at at this
  rw [h3] at this
  exact this
theorem c_T.put {a k : Nat} {v : Int32} (hT : c_T tx n I A) (h : a ≠ 1) : c_T tx n (am_u I a k v) A := by
  refine ⟨?_, hT.2⟩
  rw [am_un (fun e => h e.1.symm)]
  exact hT.1
theorem k_nl (hT : c_T tx n I A) (h1 : I 19 6 = nI p) (hp : p ≤ n) : am_Con 2 49 [.ref 19] (am_H g I A J X) (.inl none) (am_H g (am_u I 19 6 (nI (s_nl tx n p))) A J X) 0 0 := by
  have hn := hT.2.1
  have loop : ∀ f p, p + f = n → am_Tri 49 2 0 0 0 0 (0, [(0, .ref 19)], [], am_H g (am_u I 19 6 (nI p)) A J X) (fun oo hh => oo = .inl none ∧ hh = am_H g (am_u I 19 6 (nI (s_run (fun k => !decide (tx k = 10)) f p))) A J X) := by
    intro f
    induction f with
    | zero =>
      intro p hp
      refine am_yea 9 (by decide) rfl ?_ ?_
      · rw [am_uk, (hT.put (by decide)).1]
        exact nI_le (by omega) (by omega)
      · exact am_end 9 (by decide) rfl trivial (by decide) (by decide) ⟨rfl, rfl⟩
    | succ f ih =>
      intro p hp
      have hT' : c_T tx n (am_u I 19 6 (nI p)) A := hT.put (by decide)
      refine am_nay 9 (by decide) rfl (by rw [am_uk, hT'.1]; exact nI_ge (show p < n by omega) (by omega)) ?_
      have hat := k_at (g := g) (J := J) (X := X) (p := p) hT' (by omega)
      refine am_cav 9 (by decide) rfl (by rw [am_uk]; exact hat) (by decide) (by decide) (by decide) ?_
      have e0 : s_ch tx n p = tx p := if_pos (by omega)
      refine am_bra 9 (by decide) rfl (fun q => ?_) (fun q => ?_)
      · rw [e0] at q
        have e1 : s_run (fun k => !decide (tx k = 10)) (f + 1) p = p := by simp [s_run, q]
        rw [e1]
        exact am_end 9 (by decide) rfl trivial (by decide) (by decide) ⟨rfl, rfl⟩
      · rw [e0] at q
        have e1 : s_run (fun k => !decide (tx k = 10)) (f + 1) p = s_run (fun k => !decide (tx k = 10)) f (p + 1) := by simp [s_run, q]
        rw [e1]
        have := ih (p + 1) (by omega)
        refine am_pla 7 (by decide) rfl ?_
        rw [am_uk, am_uu, nI_1]
        exact this
  refine am_met rfl rfl ?_
  have := loop (n - p) p (by omega)
  rw [am_ui h1] at this
  exact this
end LNS
