/-! THE REFERENCE'S SCANNER: widths, beginnings of lines -/
section MLN
variable {g : List aK} {X : Nat × (Nat → Int32)} {tx : Nat → Int32} {n p w nr : Nat} {l : Bool} {bs : List Nat}
theorem m_S.pop {x : Nat × Nat} {ws : List (Nat × Nat)} {m : Nat} {tk : Nat → aT} {I A : Nat → Nat → Int32} {J : Nat → Nat → Int64} (h : m_S (p, l, x :: ws, bs, m, tk) I A J) : m_S (p, l, ws, bs, m, tk) (am_u I 29 14 (nI ws.length)) A J := by
  obtain ⟨h2, h3, h5, h6, h7, h8, h9, h12, ht⟩ := h
  refine ⟨?_, am_uk, by simp at h5; omega, h6.2.2, ?_, h8, h9, h12, ⟨?_, ht.2.1, ht.2.2.1, by simpa [m_K, am_u] using ht.2.2.2⟩⟩
  · simpa [am_u] using h2
  · simpa [am_u] using h7
  · simpa [am_u] using ht.1
theorem m_S.put {f : Nat} {v : Int32} {ws : List (Nat × Nat)} {m : Nat} {tk : Nat → aT} {I A : Nat → Nat → Int32} {J : Nat → Nat → Int64} (h : m_S (p, l, ws, bs, m, tk) I A J) (hf : f ≠ 17 ∧ f ≠ 14 ∧ f ≠ 19 ∧ f ≠ 11 ∧ f ≠ 3 ∧ f ≠ 4) : m_S (p, l, ws, bs, m, tk) (am_u I 29 f v) A J := by
  obtain ⟨h2, h3, h5, h6, h7, h8, h9, h12, ht⟩ := h
  have ne : ∀ f', f' = 17 ∨ f' = 14 ∨ f' = 19 ∨ f' = 11 → am_u I 29 f v 29 f' = I 29 f' := fun f' hf' => am_un (fun z => by omega)
  exact ⟨by rw [ne 17 (by omega)]; exact h2, by rw [ne 14 (by omega)]; exact h3, h5, h6, by rw [ne 19 (by omega)]; exact h7, h8, h9, h12, ⟨by rw [ne 11 (by omega)]; exact ht.1, ht.2.1, ht.2.2.1, by rw [am_un (fun z => by omega)]; exact ht.2.2.2.1, by rw [am_un (fun z => by omega)]; exact ht.2.2.2.2⟩⟩
theorem y_eq {ws : List (Nat × Nat)} {m : Nat} {tk : Nat → aT} {I A : Nat → Nat → Int32} {J : Nat → Nat → Int64} (hz : m_S (p, l, ws, bs, m, tk) I A J) (hW : s_W ws) (hw : w < 2 ^ 20) (hnr : nr < 2 ^ 20) (h15 : I 29 15 = nI w) (h16 : I 29 16 = nI nr) : m_D m_fs m_cs 138 3 g X I A J (185, [(0, .ref 29), (1, .int (nI p))], [], am_H g I A J X) (m_Rb (s_eq w nr (p, l, ws, bs, m, tk))) := by
  obtain ⟨h2, h3, h5, h6, h7, h8, h9, h12, ht⟩ := id hz
  cases ws with
  | nil => exact hW.elim
  | cons x r =>
    obtain ⟨w1, n1⟩ := x
    have h5' : r.length < 9 := by simp at h5; omega
    have e14 : I 29 14 - 1 = nI r.length := by rw [h3]; exact nI_pred r.length
    have hb := hW.lt (w1, n1) List.mem_cons_self
    dsimp only at hb
    have hin : ¬ (I 29 14 - 1 < 0 ∨ 9 ≤ (I 29 14 - 1).toNatClampNeg) := by rw [e14]; exact nI_in h5' (by decide)
    have ew : A 36 (I 29 14 - 1).toNatClampNeg = nI w1 := by rw [e14, nI_clamp (by omega)]; exact h6.1
    have en : A 37 (I 29 14 - 1).toNatClampNeg = nI n1 := by rw [e14, nI_clamp (by omega)]; exact h6.2.1
    unfold s_eq
    dsimp only
    refine m_D.nee 12 (by decide) rfl hin ?_
    by_cases c1 : w1 = w
    · rw [if_pos c1]
      refine m_D.yea 9 (by decide) rfl (by rw [ew, h15, c1]) ?_
      refine m_D.nee 12 (by decide) rfl hin ?_
      by_cases c2 : n1 = nr
      · rw [if_pos c2]
        refine m_D.yea 9 (by decide) rfl (by rw [en, h16, c2]) ?_
        exact m_D.ret 9 (by decide) rfl (Or.inr rfl) m_Fr.refl ⟨rfl, hz⟩
      · rw [if_neg c2]
        refine m_D.nay 9 (by decide) rfl (by rw [en, h16]; exact fun z => c2 (nI_inj (by omega) (by omega) z.symm)) ?_
        refine m_D.cav (n := 9) (by decide) rfl y_fault (by decide) ((m_Fr.put (by decide)).trans (m_Fr.put (by decide))) ?_
        refine m_D.yea 9 (by decide) rfl (by decide) ?_
        exact m_D.ret 9 (by decide) rfl (Or.inl rfl) m_Fr.refl ⟨rfl, by simp [am_u], by simp [am_u]⟩
    · rw [if_neg c1]
      refine m_D.nay 9 (by decide) rfl (by rw [ew, h15]; exact fun z => c1 (nI_inj (by omega) (by omega) z.symm)) ?_
      refine m_D.cav (n := 9) (by decide) rfl y_fault (by decide) ((m_Fr.put (by decide)).trans (m_Fr.put (by decide))) ?_
      exact m_D.ret 9 (by decide) rfl (Or.inl rfl) m_Fr.refl ⟨rfl, by simp [am_u], by simp [am_u]⟩
theorem y_ded (hw : w < 2 ^ 20) (hnr : nr < 2 ^ 20) : ∀ (ws : List (Nat × Nat)) (m : Nat) (tk : Nat → aT) (I A : Nat → Nat → Int32) (J : Nat → Nat → Int64), m_S (p, l, ws, bs, m, tk) I A J → s_W ws → I 29 15 = nI w → I 29 16 = nI nr → m_D m_fs m_cs 138 3 g X I A J (143, [(0, .ref 29), (1, .int (nI p))], [], am_H g I A J X) (m_Rb (match s_ded w p l bs ws m tk with
    | .error e => .error e
    | .ok y => s_eq w nr y))
  | [], m, tk, I, A, J, hz, hW, h15, h16 => hW.elim
  | (w0, n0) :: r, m, tk, I, A, J, hz, hW, h15, h16 => by
    obtain ⟨h2, h3, h5, h6, h7, h8, h9, h12, ht⟩ := id hz
    have h5' : r.length < 9 := by simp at h5; omega
    have e14 : I 29 14 - 1 = nI r.length := by rw [h3]; exact nI_pred r.length
    have hb := hW.lt (w0, n0) List.mem_cons_self
    dsimp only at hb
    have hin : ¬ (I 29 14 - 1 < 0 ∨ 9 ≤ (I 29 14 - 1).toNatClampNeg) := by rw [e14]; exact nI_in h5' (by decide)
    have ew : A 36 (I 29 14 - 1).toNatClampNeg = nI w0 := by rw [e14, nI_clamp (by omega)]; exact h6.1
    unfold s_ded
    refine m_D.nee 12 (by decide) rfl hin ?_
    by_cases c1 : w < w0
    · rw [if_pos c1]
      have hpop := hz.pop
      refine m_D.nay 9 (by decide) rfl (by rw [ew, h15]; exact nI_ge c1 (by omega)) ?_
      have hadd := y_add (g := g) (X := X) (k := 8) (mk := 8) (e := 0) hpop
      refine m_D.heap (m_Fr.put (f := 14) (v := nI r.length) (by decide)) ?_
      refine m_D.call (n := 20) (by decide) (by rw [← e14]; rfl) (by decide) hadd (fun v I1 A1 J1 hR hF => ?_)
      obtain ⟨hR, hF2⟩ := hR
      unfold s_take at hR
      dsimp only at hR
      by_cases c2 : m < 120
      · rw [if_pos c2] at hR ⊢
        obtain ⟨rfl, hR⟩ := hR
        refine m_D.yea 9 (by decide) rfl (by decide) ?_
        refine y_ded hw hnr r (m + 1) _ I1 A1 J1 hR (hW.tl c1) ?_ ?_
        · rw [hF2.2.1 15 (by decide), am_un (by decide)]; exact h15
        · rw [hF2.2.1 16 (by decide), am_un (by decide)]; exact h16
      · rw [if_neg c2] at hR ⊢
        obtain ⟨rfl, hR⟩ := hR
        refine m_D.nay 9 (by decide) rfl (by decide) ?_
        exact m_D.ret 9 (by decide) rfl (Or.inl rfl) m_Fr.refl ⟨rfl, hR⟩
    · rw [if_neg c1]
      refine m_D.yea 9 (by decide) rfl (by rw [ew, h15]; exact nI_le (by omega) (by omega)) ?_
      exact y_eq hz hW hw hnr h15 h16
theorem m_S.push {ws : List (Nat × Nat)} {m : Nat} {tk : Nat → aT} {I A : Nat → Nat → Int32} {J : Nat → Nat → Int64} (h : m_S (p, l, ws, bs, m, tk) I A J) (hl : ws.length < 9) : m_S (p, l, (w, nr) :: ws, bs, m, tk) (am_u I 29 14 (nI (ws.length + 1))) (am_u (am_u A 36 ws.length (nI w)) 37 ws.length (nI nr)) J := by
  obtain ⟨h2, h3, h5, h6, h7, h8, h9, h12, ht⟩ := h
  refine ⟨?_, am_uk, by simp; omega, ⟨?_, ?_, ?_⟩, ?_, h8, ?_, h12, ⟨?_, ht.2.1, ?_, by simpa [m_K, am_u] using ht.2.2.2⟩⟩
  · simpa [am_u] using h2
  · simp [am_u]
  · simp [am_u]
  · refine c_W_same (fun k hk => ?_) h6
    have : k ≠ ws.length := by omega
    simp [am_u, this]
  · simpa [am_u] using h7
  · simpa [am_uo] using h9
  · simpa [am_u] using ht.1
  · simpa [am_uo] using ht.2.2.1
theorem y_cmp {ws : List (Nat × Nat)} {m : Nat} {tk : Nat → aT} {I A : Nat → Nat → Int32} {J : Nat → Nat → Int64} (hz : m_S (p, l, ws, bs, m, tk) I A J) (hW : s_W ws) (hw : w < 2 ^ 20) (hnr : nr < 2 ^ 20) (h15 : I 29 15 = nI w) (h16 : I 29 16 = nI nr) : m_M m_fs m_cs 3 138 [.ref 29, .int (nI p)] g I A J X (m_Rb (s_cmp w nr (p, l, ws, bs, m, tk))) := by
  obtain ⟨h2, h3, h5, h6, h7, h8, h9, h12, ht⟩ := id hz
  cases ws with
  | nil => exact hW.elim
  | cons x r =>
    obtain ⟨w0, n0⟩ := x
    have h5' : r.length < 9 := by simp at h5; omega
    have e14 : I 29 14 - 1 = nI r.length := by rw [h3]; exact nI_pred r.length
    have hb := hW.lt (w0, n0) List.mem_cons_self
    dsimp only at hb
    have hin : ¬ (I 29 14 - 1 < 0 ∨ 9 ≤ (I 29 14 - 1).toNatClampNeg) := by rw [e14]; exact nI_in h5' (by decide)
    have ew : A 36 (I 29 14 - 1).toNatClampNeg = nI w0 := by rw [e14, nI_clamp (by omega)]; exact h6.1
    have en : A 37 (I 29 14 - 1).toNatClampNeg = nI n0 := by rw [e14, nI_clamp (by omega)]; exact h6.2.1
    refine m_D.met rfl rfl ?_
    refine m_D.nee 20 (by decide) rfl hin ?_
    unfold s_cmp
    dsimp only
    by_cases c0 : w0 = w
    · subst c0
      rw [if_neg (by omega)]
      have hd : s_ded w0 p l bs ((w0, n0) :: r) m tk = .ok (p, l, (w0, n0) :: r, bs, m, tk) := by
        unfold s_ded
        rw [if_neg (by omega)]
      rw [hd]
      unfold s_eq
      dsimp only
      rw [if_pos rfl]
      refine m_D.nay 9 (by decide) rfl (by rw [ew, h15]; exact fun z => z rfl) ?_
      refine m_D.nee 9 (by decide) rfl hin ?_
      by_cases c2 : n0 = nr
      · rw [if_pos c2]
        refine m_D.yea 9 (by decide) rfl (by rw [en, h16, c2]) ?_
        exact m_D.ret 9 (by decide) rfl (Or.inr rfl) m_Fr.refl ⟨rfl, hz⟩
      · rw [if_neg c2]
        refine m_D.nay 9 (by decide) rfl (by rw [en, h16]; exact fun z => c2 (nI_inj (by omega) (by omega) z.symm)) ?_
        refine m_D.cav (n := 9) (by decide) rfl y_fault (by decide) ((m_Fr.put (by decide)).trans (m_Fr.put (by decide))) ?_
        refine m_D.yea 9 (by decide) rfl (by decide) ?_
        exact m_D.ret 9 (by decide) rfl (Or.inl rfl) m_Fr.refl ⟨rfl, by simp [am_u], by simp [am_u]⟩
    · refine m_D.yea 9 (by decide) rfl (by rw [ew, h15]; exact fun z => c0 (nI_inj (by omega) (by omega) z.symm)) ?_
      refine m_D.nee 9 (by decide) rfl hin ?_
      by_cases c1 : w0 < w
      · rw [if_pos c1]
        refine m_D.nay 9 (by decide) rfl (by rw [ew, h15]; exact nI_ge c1 (by omega)) ?_
        refine m_D.nee 9 (by decide) rfl hin ?_
        by_cases c2 : nr ≤ n0
        · rw [if_pos c2]
          refine m_D.nay 9 (by decide) rfl (by rw [en, h16]; exact nI_nlt (by omega) (by omega)) ?_
          refine m_D.cav (n := 9) (by decide) rfl y_fault (by decide) ((m_Fr.put (by decide)).trans (m_Fr.put (by decide))) ?_
          exact m_D.ret 9 (by decide) rfl (Or.inl rfl) m_Fr.refl ⟨rfl, by simp [am_u], by simp [am_u]⟩
        · rw [if_neg c2]
          refine m_D.yea 9 (by decide) rfl (by rw [en, h16]; exact nI_lt (by omega) (by omega)) ?_
          by_cases c3 : r.length + 1 < 9
          · rw [if_pos c3]
            have hin2 : ¬ (I 29 14 < 0 ∨ 9 ≤ (I 29 14).toNatClampNeg) := by rw [h3]; exact nI_in (show r.length + 1 < 9 by omega) (by decide)
            refine m_D.yea 9 (by decide) rfl (by rw [h3]; exact fun z => by have := nI_inj (a := r.length + 1) (b := 9) (by omega) (by omega) z; omega) ?_
            refine m_D.nee 9 (by decide) rfl hin2 ?_
            refine m_D.nee 9 (by decide) rfl hin2 ?_
            have hp := hz.push (w := w) (nr := nr) c3
            have e14' : (I 29 14).toNatClampNeg = r.length + 1 := by rw [h3]; exact nI_clamp (by simp; omega)
            have e14'' : I 29 14 + 1 = nI (r.length + 1 + 1) := by rw [h3]; exact nI_1 _
            refine m_D.heap (((m_Fr.set (a := 36) (k := r.length + 1) (v := nI w) (by decide)).trans (m_Fr.set (a := 37) (k := r.length + 1) (v := nI nr) (by decide))).trans (m_Fr.put (f := 14) (v := nI (r.length + 1 + 1)) (by decide))) ?_
            refine m_D.call (n := 20) (by decide) (by rw [← e14'', ← h15, ← h16, ← e14']; rfl) (by decide) (y_add (k := 7) (mk := 7) (e := 0) hp) (fun v I1 A1 J1 hR hF => ?_)
            obtain ⟨hR, -⟩ := hR
            revert hR
            cases s_take 7 7 0 (p, l, (w, nr) :: (w0, n0) :: r, bs, m, tk) with
            | error q =>
              rintro ⟨rfl, hR⟩
              exact m_D.ret 9 (by decide) rfl (Or.inl rfl) m_Fr.refl ⟨rfl, hR⟩
            | ok y =>
              rintro ⟨rfl, hR⟩
              exact m_D.ret 9 (by decide) rfl (Or.inr rfl) m_Fr.refl ⟨rfl, hR⟩
          · rw [if_neg c3]
            have e9 : r.length + 1 = 9 := by omega
            refine m_D.nay 9 (by decide) rfl (by rw [h3]; simp only [List.length_cons, e9]; exact fun z => z rfl) ?_
            refine m_D.cav (n := 9) (by decide) rfl y_fault (by decide) ((m_Fr.put (by decide)).trans (m_Fr.put (by decide))) ?_
            exact m_D.ret 9 (by decide) rfl (Or.inl rfl) m_Fr.refl ⟨rfl, by simp [am_u], by simp [am_u]⟩
      · rw [if_neg c1]
        refine m_D.yea 9 (by decide) rfl (by rw [ew, h15]; exact nI_le (by omega) (by omega)) ?_
        refine m_D.sub [1, 2] rfl ?_
        exact y_ded hw hnr ((w0, n0) :: r) m tk I A J hz hW h15 h16
end MLN
