/-! REFUSAL AND TOKENS of the class -/
section REF
variable {g : List aK} {I A : Nat → Nat → Int32} {J : Nat → Nat → Int64} {X : Nat × (Nat → Int32)}
/-- one exception more -/
abbrev am_gx (g : List aK) : List aK := g ++ [.inr (.inr ())]
theorem t_refuse {w p : Int32} : am_Con 7 16 [.ref 3, .int w, .int p] (am_H g I A J X) (.inr (101, (am_lay ++ g).length)) (am_H (am_gx g) (am_u (am_u I 3 0 w) 3 1 p) A J X) 1 6 := by
  refine am_met rfl rfl ?_
  exact am_thw 9 (by decide) rfl (by decide) (by decide) ⟨rfl, by rw [List.append_assoc]⟩
theorem t_forget : am_Con 1 15 [.ref 3] (am_H g I A J X) (.inl none) (am_H g (am_u (am_u I 3 0 0) 3 1 (-1)) A J X) 0 0 := by
  refine am_met rfl rfl ?_
  exact am_end 9 (by decide) rfl trivial (by decide) (by decide) ⟨rfl, rfl⟩
theorem t_token {k m e : Int32} {p : Int32} {n : Nat} (hn : I 4 4 = nI n) (h : n < 120) : am_Con 1 26 [.ref 4, .int k, .int m, .int p, .int e] (am_H g I A J X) (.inl (some (.int 1))) (am_H g (am_u I 4 4 (nI (n + 1))) (am_u (am_u (am_u (am_u A 5 n k) 6 n m) 7 n p) 8 n e) J X) 0 0 := by
  have e1 : (I 4 4).toNatClampNeg = n := by rw [hn, nI_clamp (by omega)]
  refine am_met rfl rfl ?_
  refine am_nay 9 (by decide) rfl (by rw [hn]; exact nI_pos (by omega)) ?_
  refine am_yea 9 (by decide) rfl (by rw [hn]; exact nI_lt h (by decide)) ?_
  refine am_nee 9 (by decide) rfl (by rw [hn]; exact nI_in h (by decide)) ?_
  refine am_nee 9 (by decide) rfl (by rw [hn]; exact nI_in h (by decide)) ?_
  refine am_nee 9 (by decide) rfl (by rw [hn]; exact nI_in h (by decide)) ?_
  refine am_nee 9 (by decide) rfl (by rw [hn]; exact nI_in h (by decide)) ?_
  refine am_end 12 (by decide) rfl (Or.inr rfl) (by decide) (by decide) ⟨rfl, ?_⟩
  rw [e1, hn, nI_1]
theorem t_noroom {k m e p : Int32} (hn : I 4 4 = nI 120) : am_Con 1 26 [.ref 4, .int k, .int m, .int p, .int e] (am_H g I A J X) (.inl (some (.int 0))) (am_H g I A J X) 0 0 := by
  refine am_met rfl rfl ?_
  refine am_nay 9 (by decide) rfl (by rw [hn]; decide) ?_
  refine am_nay 9 (by decide) rfl (by rw [hn]; decide) ?_
  exact am_end 9 (by decide) rfl (Or.inl rfl) (by decide) (by decide) ⟨rfl, rfl⟩
end REF
/-! THE CLASS'S SCANNER: its state -/
def c_P (f : Nat → Int32) : List Nat → Prop
  | [] => True
  | x :: r => f r.length = nI x ∧ c_P f r
def c_W (f f' : Nat → Int32) : List (Nat × Nat) → Prop
  | [] => True
  | x :: r => f r.length = nI x.1 ∧ f' r.length = nI x.2 ∧ c_W f f' r
def c_Tk (I A : Nat → Nat → Int32) (m : Nat) (tk : Nat → aT) : Prop := I 4 4 = nI m ∧ m ≤ 120 ∧ ∀ k, k < m → A 5 k = (tk k).1 ∧ A 6 k = (tk k).2.1 ∧ A 7 k = nI (tk k).2.2.1 ∧ A 8 k = nI (tk k).2.2.2
def c_T (tx : Nat → Int32) (n : Nat) (I A : Nat → Nat → Int32) : Prop := I 1 1 = nI n ∧ n ≤ 600 ∧ A 2 = tx ∧ ∀ k, k < n → c_char (tx k) = true
/-- sound widths: at the bottom 0, and none too large -/
def s_W : List (Nat × Nat) → Prop
  | [] => False
  | [x] => x = (0, 0)
  | x :: y :: r => x.1 < 2 ^ 20 ∧ x.2 < 2 ^ 20 ∧ s_W (y :: r)
def c_S (z : aW) (I A : Nat → Nat → Int32) : Prop := match z with
  | (p, l, ws, bs, m, tk) => I 19 6 = nI p ∧ I 19 7 = am_b l ∧ I 20 1 = nI ws.length ∧ I 22 1 = nI ws.length ∧ ws.length ≤ 9 ∧ c_W (A 21) (A 23) ws ∧ I 24 1 = nI bs.length ∧ bs.length ≤ 8 ∧ c_P (A 25) bs ∧ c_Tk I A m tk ∧ p ≤ 600 ∧ (∀ b ∈ bs, b < 600)
/-- the cells that the scanner writes -/
def c_sc : List Nat := [4, 5, 6, 7, 8, 19, 20, 21, 22, 23, 24, 25]
/-- what a method comes to: done (value V, state R), or refused -/
def c_R {α : Type} (cs : List Nat) (d M : Nat) (as : List Value) (g : List aK) (I A : Nat → Nat → Int32) (J : Nat → Nat → Int64) (X : Nat × (Nat → Int32)) (V : α → Option Value) (R : α → (Nat → Nat → Int32) → (Nat → Nat → Int32) → Prop) (r : Except aF α) : Prop := match r with
  | .ok a => ∃ I' A' : Nat → Nat → Int32, R a I' A' ∧ am_Fr cs I A I' A' ∧ am_Con d M as (am_H g I A J X) (.inl (V a)) (am_H g I' A' J X) 0 0
  | .error q => ∃ (I' A' : Nat → Nat → Int32) (k : Nat), I' 3 0 = q.1 ∧ I' 3 1 = nI q.2 ∧ am_Fr (3 :: cs) I A I' A' ∧ am_Con d M as (am_H g I A J X) (.inr (101, k)) (am_H (am_gx g) I' A' J X) 1 6
theorem c_tk_add {I A : Nat → Nat → Int32} {m : Nat} {tk : Nat → aT} {k mk : Int32} {p e : Nat} (h : c_Tk I A m tk) (hm : m < 120) : c_Tk (am_u I 4 4 (nI (m + 1))) (am_u (am_u (am_u (am_u A 5 m k) 6 m mk) 7 m (nI p)) 8 m (nI e)) (m + 1) (fun j => if j = m then (k, mk, p, e) else tk j) := by
  refine ⟨am_uk, by omega, fun j hj => ?_⟩
  by_cases e1 : j = m
  · subst e1
    simp [am_u]
  · have h1 := h.2.2 j (by omega)
    simp only [if_neg e1]
    simp [am_u, e1, h1]
section SCN
variable {g : List aK} {I A : Nat → Nat → Int32} {J : Nat → Nat → Int64} {X : Nat × (Nat → Int32)}
theorem k_take {k mk : Int32} {e : Nat} {z : aW} (hz : c_S z I A) (he : e ≤ 600) (hpe : z.1 + e ≤ 600) : c_R c_sc 8 52 [.ref 19, .int k, .int mk, .int (nI e)] g I A J X (fun _ => none) c_S (s_take k mk e z) := by
  obtain ⟨p, l, ws, bs, m, tk⟩ := z
  obtain ⟨h1, h2, h3, h4, h5, h6, h7, h8, h9, ht, h11, h12⟩ := hz
  dsimp only at hpe
  unfold s_take
  by_cases hm : m < 120
  · simp only [if_pos hm, c_R]
    refine ⟨am_u (am_u I 4 4 (nI (m + 1))) 19 6 (nI (p + e)), am_u (am_u (am_u (am_u A 5 m k) 6 m mk) 7 m (I 19 6)) 8 m (nI e), ?_, ?_, ?_⟩
    rotate_left 2
    · refine am_met rfl rfl ?_
      refine am_cav 9 (by decide) rfl (t_token ht.1 hm) (by decide) (by decide) (by decide) ?_
      refine am_yea 9 (by decide) rfl (by decide) ?_
      refine am_end 12 (by decide) rfl trivial (by decide) (by decide) ⟨rfl, ?_⟩
      have e1 : am_u I 4 4 (nI (m + 1)) 19 6 + nI e = nI (p + e) := by rw [am_un (by decide), h1, nI_add]
      rw [e1]
    · have := c_tk_add (k := k) (mk := mk) (p := p) (e := e) ht hm
      rw [h1]
      refine ⟨am_uk, ?_, ?_, ?_, h5, ?_, ?_, h8, ?_, ?_, hpe, h12⟩
      · simpa [am_u] using h2
      · simpa [am_u] using h3
      · simpa [am_u] using h4
      · simpa [am_uo] using h6
      · simpa [am_u] using h7
      · simpa [am_uo] using h9
      · refine ⟨?_, this.2⟩
        simp [am_u]
    · intro x hx
      have hx' : x ≠ 4 ∧ x ≠ 5 ∧ x ≠ 6 ∧ x ≠ 7 ∧ x ≠ 8 ∧ x ≠ 19 := by
        refine ⟨?_, ?_, ?_, ?_, ?_, ?_⟩ <;> (intro e; subst e; exact hx (by decide))
      obtain ⟨q1, q2, q3, q4, q5, q6⟩ := hx'
      exact ⟨by rw [am_uo q6, am_uo q1], by rw [am_uo q5, am_uo q4, am_uo q3, am_uo q2]⟩
  · simp only [if_neg hm, c_R]
    have hm' : m = 120 := by have := ht.2.1; omega
    refine ⟨am_u (am_u I 3 0 8) 3 1 (I 19 6), A, (am_lay ++ g).length, ?_, ?_, ?_, ?_⟩
    rotate_left 3
    · refine am_met rfl rfl ?_
      refine am_cav 9 (by decide) rfl (t_noroom (by rw [ht.1, hm'])) (by decide) (by decide) (by decide) ?_
      refine am_nay 9 (by decide) rfl (by decide) ?_
      exact am_cat 9 (by decide) rfl t_refuse (by decide) (by decide) (by decide) rfl ⟨rfl, rfl⟩
    · simp [am_u]
    · simp [am_u, h1]
    · exact (am_Fr.put (by decide)).trans (am_Fr.put (by decide))
end SCN
