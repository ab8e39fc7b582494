/-! THE LAW: one call of a script -/
/-- the class is where these say -/
def z_C (tx : Nat → Int32) (n : Nat) (w p : Int32) (T : Nat) (tk : Nat → aT) (NL : List (Nat × Nat)) (W : List Int32) (I A : Nat → Nat → Int32) : Prop := c_T tx n I A ∧ I 3 0 = w ∧ I 3 1 = p ∧ c_Tk I A T tk ∧ I 9 9 = nI NL.length ∧ NL.length ≤ 300 ∧ r_or (c_st A) (A 18) NL.length 0 NL ∧ c_Wr W I A ∧ W.length ≤ 3000
/-- the reference is there too -/
def z_M (tx : Nat → Int32) (n : Nat) (w p : Int32) (T : Nat) (tk : Nat → aT) (NL : List (Nat × Nat)) (W : List Int32) (I A : Nat → Nat → Int32) : Prop := I 29 2 = nI n ∧ (∀ k, k < n → A 30 k = tx k) ∧ A 36 0 = 0 ∧ A 37 0 = 0 ∧ I 29 3 = w ∧ I 29 4 = p ∧ m_Tq I A T tk ∧ I 29 30 = nI NL.length ∧ r_or (m_st A) (A 47) NL.length 0 NL ∧ m_Wr W I A
section LAW
variable {tx : Nat → Int32} {n : Nat} {w p : Int32} {T : Nat} {tk : Nat → aT} {NL : List (Nat × Nat)} {W : List Int32} {I A I' A' : Nat → Nat → Int32}
theorem z_C.fr (h : z_C tx n w p T tk NL W I A) (hf : ∀ x, x ≤ 28 → I' x = I x ∧ A' x = A x) : z_C tx n w p T tk NL W I' A' := by
  obtain ⟨h1, h2, h3, h4, h5, h6, h7, h8, h9⟩ := h
  refine ⟨⟨by rw [(hf 1 (by decide)).1]; exact h1.1, h1.2.1, by rw [(hf 2 (by decide)).2]; exact h1.2.2.1, h1.2.2.2⟩, by rw [(hf 3 (by decide)).1]; exact h2, by rw [(hf 3 (by decide)).1]; exact h3, ⟨by rw [(hf 4 (by decide)).1]; exact h4.1, h4.2.1, fun k hk => ?_⟩, by rw [(hf 9 (by decide)).1]; exact h5, h6, ?_, ⟨by rw [(hf 27 (by decide)).1]; exact h8.1, fun k hk => by rw [(hf 28 (by decide)).2]; exact h8.2.1 k hk, h8.2.2⟩, h9⟩
  · rw [(hf 5 (by decide)).2, (hf 6 (by decide)).2, (hf 7 (by decide)).2, (hf 8 (by decide)).2]
    exact h4.2.2 k hk
  · rw [(hf 18 (by decide)).2]
    exact r_or.ext8 (fun f hf8 => (hf (10 + f) (by omega)).2) h7
theorem z_M.fr (h : z_M tx n w p T tk NL W I A) (hf : ∀ x, 29 ≤ x → x ≤ 55 → I' x = I x ∧ A' x = A x) : z_M tx n w p T tk NL W I' A' := by
  obtain ⟨h1, h2, h3, h4, h5, h6, h7, h8, h9, h10⟩ := h
  have hI : I' 29 = I 29 := (hf 29 (by decide) (by decide)).1
  refine ⟨by rw [hI]; exact h1, fun k hk => by rw [(hf 30 (by decide) (by decide)).2]; exact h2 k hk, by rw [(hf 36 (by decide) (by decide)).2]; exact h3, by rw [(hf 37 (by decide) (by decide)).2]; exact h4, by rw [hI]; exact h5, by rw [hI]; exact h6, ⟨by rw [hI]; exact h7.1, h7.2.1, fun k hk => ?_⟩, by rw [hI]; exact h8, ?_, ⟨by rw [hI]; exact h10.1, fun k hk => by rw [(hf 52 (by decide) (by decide)).2]; exact h10.2 k hk⟩⟩
  · rw [(hf 32 (by decide) (by decide)).2, (hf 33 (by decide) (by decide)).2, (hf 34 (by decide) (by decide)).2]
    exact h7.2.2 k hk
  · rw [(hf 47 (by decide) (by decide)).2]
    exact r_or.ext8 (fun f hf8 => (hf (m_px f) (by unfold m_px; (repeat' split) <;> omega) (by unfold m_px; (repeat' split) <;> omega)).2) h9
/-- an answer without a refusal leaves all but its own note -/
theorem z_M.put (h : z_M tx n w p T tk NL W I A) {v : Int32} : z_M tx n w p T tk NL W (am_u I 29 0 v) A := by
  obtain ⟨h1, h2, h3, h4, h5, h6, h7, h8, h9, h10⟩ := h
  exact ⟨by rw [am_un (by decide)]; exact h1, h2, h3, h4, by rw [am_un (by decide)]; exact h5, by rw [am_un (by decide)]; exact h6, ⟨by rw [am_un (by decide)]; exact h7.1, h7.2⟩, by rw [am_un (by decide)]; exact h8, h9, ⟨by rw [am_un (by decide)]; exact h10.1, h10.2⟩⟩
def z_Z (I A : Nat → Nat → Int32) : Prop := ∃ tx n w p T tk NL W, z_C tx n w p T tk NL W I A ∧ z_M tx n w p T tk NL W I A
end LAW
abbrev lw_l (i : Nat) : List (Nat × Value) := [(4, .int (nI i)), (3, .ref 56), (2, .ref 29), (1, .ref 0), (0, .retAddr 1000)]
section LWS
variable {L : Nat} {xs : Nat → Int32} {i : Nat} {B C u c : Nat} {Q : aO → aH → Prop} {g : List aK} {I A : Nat → Nat → Int32} {J : Nat → Nat → Int64}
/-- what comes behind one call -/
def lw_K (L : Nat) (xs : Nat → Int32) (i B C u c : Nat) (Q : aO → aH → Prop) : Prop := ∀ (g : List aK) (I A : Nat → Nat → Int32) (J : Nat → Nat → Int64) (u' c' : Nat), z_Z I A → u' ≤ u + 2 → c' ≤ c + 12 → am_Tri 200 2048 B C u' c' (493, lw_l i, [], am_H g I A J (L, xs)) Q
theorem lw_1 (hz : z_Z I A) (hu : u + 2 ≤ B) (hc : c + 12 ≤ C) (hk : lw_K L xs i B C u c Q) : am_Tri 200 2048 B C u c (192, lw_l i, [], am_H g I A J (L, xs)) Q := by
  obtain ⟨tx, n, w, p, T, tk, NL, W, hC, hM⟩ := hz
  refine am_cav 9 (by decide) rfl (t_clear hC.1.1) (by decide) (by omega) (by omega) ?_
  have hM1 : z_M tx n w p T tk NL W (am_u I 1 1 0) A := hM.fr (fun x h1 h2 => ⟨am_uo (by omega), rfl⟩)
  refine am_cav 9 (by decide) rfl (y_clear hM1.1) (by decide) (by omega) (by omega) ?_
  refine am_yea 9 (by decide) rfl rfl ?_
  refine hk g _ A J u c ⟨tx, 0, w, p, T, tk, NL, W, ?_, ?_⟩ (by omega) (by omega)
  · have h0 : z_C tx 0 w p T tk NL W (am_u I 1 1 0) A := by
      obtain ⟨h1, h2, h3, h4, h5, h6, h7, h8, h9⟩ := hC
      refine ⟨⟨by rw [am_uk]; rfl, by decide, h1.2.2.1, fun k hk => absurd hk (Nat.not_lt_zero _)⟩, by rw [am_un (by decide)]; exact h2, by rw [am_un (by decide)]; exact h3, ⟨by rw [am_un (by decide)]; exact h4.1, h4.2⟩, by rw [am_un (by decide)]; exact h5, h6, h7, ⟨by rw [am_un (by decide)]; exact h8.1, h8.2⟩, h9⟩
    exact h0.fr (fun x hx => ⟨by rw [am_uo (by omega), am_uo (by omega)], rfl⟩)
  · obtain ⟨h1, h2, h3, h4, h5, h6, h7, h8, h9, h10⟩ := (hM1.put (v := 0))
    exact ⟨by rw [am_uk]; rfl, fun k hk => absurd hk (Nat.not_lt_zero _), h3, h4, by rw [am_un (by decide)]; exact h5, by rw [am_un (by decide)]; exact h6, ⟨by rw [am_un (by decide)]; exact h7.1, h7.2⟩, by rw [am_un (by decide)]; exact h8, h9, ⟨by rw [am_un (by decide)]; exact h10.1, h10.2⟩⟩
theorem lw_3 (hz : z_Z I A) (hu : u + 2 ≤ B) (hc : c + 12 ≤ C) (hk : lw_K L xs i B C u c Q) : am_Tri 200 2048 B C u c (249, lw_l i, [], am_H g I A J (L, xs)) Q := by
  obtain ⟨tx, n, w, p, T, tk, NL, W, hC, hM⟩ := hz
  refine am_cav 9 (by decide) rfl t_why (by decide) (by omega) (by omega) ?_
  refine am_cav 9 (by decide) rfl y_why (by decide) (by omega) (by omega) ?_
  refine am_yea 9 (by decide) rfl (by rw [hC.2.1, hM.2.2.2.2.1]) ?_
  exact hk g _ A J u c ⟨tx, n, w, p, T, tk, NL, W, hC.fr (fun x hx => ⟨am_uo (by omega), rfl⟩), hM.put⟩ (by omega) (by omega)
theorem lw_4 (hz : z_Z I A) (hu : u + 2 ≤ B) (hc : c + 12 ≤ C) (hk : lw_K L xs i B C u c Q) : am_Tri 200 2048 B C u c (262, lw_l i, [], am_H g I A J (L, xs)) Q := by
  obtain ⟨tx, n, w, p, T, tk, NL, W, hC, hM⟩ := hz
  refine am_cav 9 (by decide) rfl t_where (by decide) (by omega) (by omega) ?_
  refine am_cav 9 (by decide) rfl y_where (by decide) (by omega) (by omega) ?_
  refine am_yea 9 (by decide) rfl (by rw [hC.2.2.1, hM.2.2.2.2.2.1]) ?_
  exact hk g _ A J u c ⟨tx, n, w, p, T, tk, NL, W, hC.fr (fun x hx => ⟨am_uo (by omega), rfl⟩), hM.put⟩ (by omega) (by omega)
theorem lw_6 (hz : z_Z I A) (hu : u + 2 ≤ B) (hc : c + 12 ≤ C) (hk : lw_K L xs i B C u c Q) : am_Tri 200 2048 B C u c (343, lw_l i, [], am_H g I A J (L, xs)) Q := by
  obtain ⟨tx, n, w, p, T, tk, NL, W, hC, hM⟩ := hz
  refine am_cav 9 (by decide) rfl t_nodes (by decide) (by omega) (by omega) ?_
  refine am_cav 9 (by decide) rfl y_nodes (by decide) (by omega) (by omega) ?_
  refine am_yea 9 (by decide) rfl (by rw [hC.2.2.2.2.1, hM.2.2.2.2.2.2.2.1]) ?_
  exact hk g _ A J u c ⟨tx, n, w, p, T, tk, NL, W, hC.fr (fun x hx => ⟨am_uo (by omega), rfl⟩), hM.put⟩ (by omega) (by omega)
theorem lw_8 (hz : z_Z I A) (hu : u + 2 ≤ B) (hc : c + 12 ≤ C) (hk : lw_K L xs i B C u c Q) : am_Tri 200 2048 B C u c (424, lw_l i, [], am_H g I A J (L, xs)) Q := by
  obtain ⟨tx, n, w, p, T, tk, NL, W, hC, hM⟩ := hz
  refine am_cav 9 (by decide) rfl t_length (by decide) (by omega) (by omega) ?_
  refine am_cav 9 (by decide) rfl y_length (by decide) (by omega) (by omega) ?_
  refine am_yea 9 (by decide) rfl (by rw [hC.2.2.2.2.2.2.2.1.1, hM.2.2.2.2.2.2.2.2.2.1]) ?_
  exact hk g _ A J u c ⟨tx, n, w, p, T, tk, NL, W, hC.fr (fun x hx => ⟨am_uo (by omega), rfl⟩), hM.put⟩ (by omega) (by omega)
end LWS
