/-! THE REFERENCE WRITES: words, heads, small statements -/
def w_wc (w : Int64) (k : Int32) : Int32 := ((w >>> (k.toInt64 &&& 63)) &&& 255).toInt32
/-- the characters of a word -/
def w_wd (w : Int64) : Nat → Bool → List Int32
  | 0, _ => []
  | f + 1, u => if u = true ∨ w_wc w (nI (8 * f)) ≠ 0 then w_wc w (nI (8 * f)) :: w_wd w f true else w_wd w f false
theorem nI_m8 (f : Nat) : nI (8 * (f + 1)) + (-8) = nI (8 * f) := by
  have : nI (8 * (f + 1)) = nI (8 * f) + nI 8 := by rw [nI_add]; rfl
  rw [this, Int32.add_assoc]
  show nI (8 * f) + 0 = nI (8 * f)
  exact Int32.add_zero _
theorem w_wd_le {w : Int64} : ∀ {f : Nat} {u : Bool}, (w_wd w f u).length ≤ f
  | 0, _ => Nat.le_refl _
  | f + 1, u => by
    unfold w_wd
    split
    · have := w_wd_le (w := w) (f := f) (u := true); simp; omega
    · have := w_wd_le (w := w) (f := f) (u := false); omega
/-- the marks' words stand in the text -/
def w_U (tx : Nat → Int32) (T : Nat) (tk : Nat → aT) : Prop := ∀ k, k < T → (d_mk T tk k = 11 → w_tt tx tk k = [105, 102]) ∧ (d_mk T tk k = 12 → w_tt tx tk k = [101, 108, 105, 102]) ∧ (d_mk T tk k = 14 → w_tt tx tk k = [119, 104, 105, 108, 101])
section MHE
variable {g : List aK} {X : Nat × (Nat → Int32)} {I A : Nat → Nat → Int32} {J : Nat → Nat → Int64} {L W : List Int32} {tx : Nat → Int32} {n T m : Nat} {tk : Nat → aT} {S : aN}
theorem y_pw {w : Int64} (hw : m_Wr L I A) (hl : L.length + (w_wd w 7 false).length ≤ 3000) : m_M m_fw m_cw 2 181 [.ref 29, .long w] g I A J X (m_Wt (w_wd w 7 false) L J) := by
  have loop : ∀ (f : Nat) (u : Bool) (L1 : List Int32) (I1 A1 : Nat → Nat → Int32), f ≤ 7 → m_Wr L1 I1 A1 → L1.length + (w_wd w f u).length ≤ 3000 → m_D m_fw m_cw 181 2 g X I1 A1 J (6, [(4, .int (nI (8 * f) + (-8))), (3, .int (am_b u)), (0, .ref 29), (1, .long w)], [], am_H g I1 A1 J X) (m_Wt (w_wd w f u) L1 J) := by
    intro f
    induction f with
    | zero =>
      intro u L1 I1 A1 hf h1 hl1
      refine m_D.yea 9 (by decide) rfl (by decide) ?_
      exact m_D.ret 9 (by decide) rfl trivial m_Fr.refl ⟨rfl, rfl, by simpa [w_wd] using h1⟩
    | succ f ih =>
      intro u L1 I1 A1 hf h1 hl1
      rw [nI_m8]
      have yes : ∀ (ls : List (Nat × Value)), True → w_wd w (f + 1) u = w_wc w (nI (8 * f)) :: w_wd w f true → m_D m_fw m_cw 181 2 g X I1 A1 J (31, [(5, .int (w_wc w (nI (8 * f)))), (4, .int (nI (8 * f))), (3, .int (am_b u)), (0, .ref 29), (1, .long w)], [], am_H g I1 A1 J X) (m_Wt (w_wd w (f + 1) u) L1 J) := by
        intro _ _ e1
        rw [e1] at hl1 ⊢
        simp only [List.length_cons] at hl1
        refine m_D.nay 9 (by decide) rfl (by decide) ?_
        refine m_D.put (n := 9) (by decide) rfl h1 (by omega) (fun I2 A2 h2 hf2 => ?_)
        refine m_D.pla 2 (by decide) rfl ?_
        refine m_D.sub [0, 1, 3, 4] rfl ?_
        refine (ih true _ I2 A2 (by omega) h2 (by simp; omega)).mono ?_
        rintro v I' A' J' ⟨q1, q2, q3⟩ -
        exact ⟨q1, q2, by simpa [List.append_assoc] using q3⟩
      refine m_D.nay 9 (by decide) rfl (nI_pos (by omega)) ?_
      cases u with
      | true =>
        refine m_D.yea 12 (by decide) rfl (by decide) ?_
        exact yes [] trivial (by rw [w_wd, if_pos (Or.inl rfl)])
      | false =>
        refine m_D.nay 12 (by decide) rfl (by decide) ?_
        by_cases c0 : w_wc w (nI (8 * f)) = 0
        · have e1 : w_wd w (f + 1) false = w_wd w f false := by rw [w_wd, if_neg (by simp [c0])]
          rw [e1] at hl1 ⊢
          refine m_D.yea 9 (by decide) rfl c0 ?_
          refine m_D.yea 9 (by decide) rfl (by decide) ?_
          refine m_D.pla 2 (by decide) rfl ?_
          refine m_D.sub [0, 1, 3, 4] rfl ?_
          exact ih false L1 I1 A1 (by omega) h1 hl1
        · refine m_D.nay 9 (by decide) rfl c0 ?_
          exact yes [] trivial (by rw [w_wd, if_pos (Or.inr c0)])
  refine m_D.met rfl rfl ?_
  refine m_D.pla 4 (by decide) rfl ?_
  exact loop 7 false L I A (by decide) hw hl
end MHE
