/-! THE REFERENCE'S WAY: closing -/
section CLO
variable {mk : Nat → Int32} {pl : Nat → Nat}
/-- what is begun last binds less than s (or is what stands before an operand of s) -/
def x_B (s : Nat) (K : List xK) : Prop := match K with
  | [] => True
  | (k, _) :: _ => (k = 0 ∨ k = -1 ∨ k = -2 ∨ k = -3) ∨ ∃ t, 1 ≤ t ∧ t ≤ 7 ∧ k = nI t ∧ (t < s ∨ (t = s ∧ (s = 3 ∨ s = 7)))
theorem x_B.up {s : Nat} {K : List xK} (h : x_B s K) : x_B (s + 1) K := by
  match K, h with
  | [], _ => trivial
  | (k, _) :: _, h =>
    rcases h with r | ⟨t, t1, t2, t3, t4⟩
    · exact Or.inl r
    · exact Or.inr ⟨t, t1, t2, t3, by omega⟩
theorem x_B.mono {s : Nat} {K : List xK} : ∀ {d : Nat}, x_B s K → x_B (s + d) K
  | 0, h => h
  | d + 1, h => (x_B.mono (d := d) h).up
theorem x_br_lt : ∀ l : Nat, l < 9 → 1 ≤ l → (0 : Int32) < nI l ∧ (-1 : Int32) < nI l ∧ (-2 : Int32) < nI l ∧ (-3 : Int32) < nI l := by decide
theorem x_close_stop {s l : Nat} {K : List xK} {V : List Nat} {m : Nat} {S : aN} (h : x_B s K) (hs : s = 1 ∨ s = 2 ∨ s = 4 ∨ s = 5 ∨ s = 6) (hl : s ≤ l) (hl8 : l < 9) : x_close pl (nI l) K V m S = .ok (K, V, m, S) := by
  match K, h with
  | [], _ => rfl
  | (k, t, nd) :: K, h =>
    have hk : k < nI l := by
      have := x_br_lt l hl8 (by omega)
      rcases h with (r | r | r | r) | ⟨t, t1, t2, t3, t4⟩
      · rw [r]; exact this.1
      · rw [r]; exact this.2.1
      · rw [r]; exact this.2.2.1
      · rw [r]; exact this.2.2.2
      · rw [t3]; exact nI_lt (by omega) (by omega)
    unfold x_close
    rw [if_pos hk]
/-- closing from (K, V, m, S) comes to closing from (K0, V', m', S') -/
def x_C (mk : Nat → Int32) (pl : Nat → Nat) (s p : Nat) (K : List xK) (V : List Nat) (m : Nat) (S : aN) (K0 : List xK) (V' : List Nat) (m' : Nat) (S' : aN) : Prop :=
  (∀ l, 1 ≤ l → l ≤ s → x_close pl (nI l) K V m S = x_close pl (nI l) K0 V' m' S') ∧
  (d_sb (mk p) = 4 → s ≤ 4 → ∃ K1 V1 m1 S1, x_close pl 5 K V m S = .ok (K1, V1, m1, S1) ∧ x_top K1 = 4 ∧ ∀ l, 1 ≤ l → l ≤ s → x_close pl (nI l) K1 V1 m1 S1 = x_close pl (nI l) K0 V' m' S')
/-- what stands at p isn't for the strength s -/
def x_F (mk : Nat → Int32) (s p : Nat) : Prop := mk p ≠ 40 ∧ mk p ≠ 91 ∧ mk p ≠ 46 ∧ (d_sb (mk p) < s ∨ (d_sb (mk p) = 4 ∧ s ≤ 4))
theorem d_sb_le (m : Int32) : d_sb m ≤ 6 ∧ d_sb m ≠ 3 := by
  unfold d_sb
  split
  · decide
  split
  · decide
  split
  · decide
  split
  · decide
  split <;> decide
section CLX
variable {s p m m' : Nat} {K K0 : List xK} {V V' : List Nat} {S S' : aN}
theorem x_C.refl (h : 4 < s ∨ d_sb (mk p) ≠ 4) : x_C mk pl s p K V m S K V m S := ⟨fun _ _ _ => rfl, fun h1 h2 => by omega⟩
theorem x_beh_err {q : aF} (hC : x_C mk pl s p K V m S K0 V' m' S') (hF : mk p ≠ 40 ∧ mk p ≠ 91 ∧ mk p ≠ 46 ∧ (d_sb (mk p) ≤ s ∨ (d_sb (mk p) = 4 ∧ s ≤ 4))) (hs : 1 ≤ s) (hq : ∀ l, 1 ≤ l → l ≤ s → x_close pl (nI l) K0 V' m' S' = .error q) : x_beh mk pl (p, K, V, m, S) = .error q := by
  obtain ⟨f1, f2, f3, f4⟩ := hF
  have h6 := d_sb_le (mk p)
  have hq1 := hq 1 (by omega) hs
  unfold x_beh
  dsimp only
  rw [if_neg f1, if_neg f2, if_neg f3]
  by_cases c0 : 0 < d_sb (mk p)
  · rw [if_pos c0]
    by_cases c4 : d_sb (mk p) = 4
    · rw [if_pos c4]
      by_cases s4 : s ≤ 4
      · obtain ⟨K1, V1, m1, S1, h1, h2, h3⟩ := hC.2 c4 s4
        rw [h1]
        dsimp only
        rw [if_neg (by rw [c4, h2]; simp)]
        unfold x_cl1
        dsimp only
        have := (h3 1 (by omega) hs).trans hq1
        rw [show (1 : Int32) = nI 1 from rfl, this]
      · rw [show (5 : Int32) = nI 5 from rfl, hC.1 5 (by omega) (by omega), hq 5 (by omega) (by omega)]
    · rw [if_neg c4, hC.1 _ (by omega) (by omega), hq _ (by omega) (by omega)]
  · rw [if_neg c0]
    unfold x_cl1
    dsimp only
    rw [show (1 : Int32) = nI 1 from rfl, hC.1 1 (by omega) hs, hq1]
/-- at the end of an expression -/
theorem x_beh_bas (hC : x_C mk pl 1 p K V m S K0 V' m' S') (hF : x_F mk 1 p) (hB : x_B 1 K0) : x_beh mk pl (p, K, V, m, S) = x_bas mk pl (p, K0, V', m', S') := by
  obtain ⟨f1, f2, f3, f4⟩ := hF
  have hq1 := x_close_stop (pl := pl) (V := V') (m := m') (S := S') (l := 1) hB (by decide) (by omega) (by omega)
  unfold x_beh
  dsimp only
  rw [if_neg f1, if_neg f2, if_neg f3]
  by_cases c0 : 0 < d_sb (mk p)
  · rw [if_pos c0]
    have c4 : d_sb (mk p) = 4 := by omega
    rw [if_pos c4]
    obtain ⟨K1, V1, m1, S1, h1, h2, h3⟩ := hC.2 c4 (by omega)
    rw [h1]
    dsimp only
    rw [if_neg (by rw [c4, h2]; simp)]
    unfold x_cl1
    dsimp only
    rw [show (1 : Int32) = nI 1 from rfl, h3 1 (by omega) (by omega), hq1]
  · rw [if_neg c0]
    unfold x_cl1
    dsimp only
    rw [show (1 : Int32) = nI 1 from rfl, hC.1 1 (by omega) (by omega), hq1]
/-- at an operator of the strength s; what is closed is closed for s' -/
theorem x_beh_op {s' : Nat} (hC : x_C mk pl s' p K V m S K0 V' m' S') (hd : d_sb (mk p) = s) (hs : s = 1 ∨ s = 2 ∨ s = 4 ∨ s = 5 ∨ s = 6) (hs' : s ≤ s') (h5 : s = 4 → 5 ≤ s') (hB : x_B s K0) : x_beh mk pl (p, K, V, m, S) = x_ent pl (nI s) 0 (p, K0, V', m', S') := by
  have f : mk p ≠ 40 ∧ mk p ≠ 91 ∧ mk p ≠ 46 := by
    refine ⟨?_, ?_, ?_⟩ <;> (intro z; rw [z] at hd; revert hd; simp [d_sb]; omega)
  unfold x_beh
  dsimp only
  rw [if_neg f.1, if_neg f.2.1, if_neg f.2.2, if_pos (by omega), hd]
  by_cases c4 : s = 4
  · subst c4
    rw [if_pos rfl, show (5 : Int32) = nI 5 from rfl, hC.1 5 (by omega) (by omega), x_close_stop hB (by decide) (by omega) (by omega)]
    dsimp only
    rw [if_pos]
    refine Or.inr ?_
    match K0, hB with
    | [], _ => decide
    | (k, _) :: _, h =>
      show k ≠ 4
      rcases h with (r | r | r | r) | ⟨t, t1, t2, t3, t4⟩
      · rw [r]; decide
      · rw [r]; decide
      · rw [r]; decide
      · rw [r]; decide
      · rw [t3]; intro z; have := nI_inj (a := t) (b := 4) (by omega) (by omega) z; omega
  · rw [if_neg c4, hC.1 s (by omega) hs', x_close_stop hB hs (by omega) (by omega)]
    dsimp only
    rw [if_pos (Or.inl c4)]
end CLX
end CLO
