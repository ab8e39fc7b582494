/-! THE REFERENCE'S SCANNER: signs -/
theorem y_sign {h : aH} {c : Int32} : am_Con 1 143 [.int c] h (.inl (some (.int (am_b (s_one c))))) h 0 0 := by
  refine am_met rfl rfl ?_
  unfold s_one
  by_cases h43 : c = 43
  · refine am_yea 9 (by decide) rfl h43 ?_
    exact am_end 9 (by decide) rfl (Or.inr rfl) (by decide) (by decide) ⟨by simp [h43, am_b], rfl⟩
  refine am_nay 9 (by decide) rfl h43 ?_
  by_cases h45 : c = 45
  · refine am_yea 9 (by decide) rfl h45 ?_
    exact am_end 9 (by decide) rfl (Or.inr rfl) (by decide) (by decide) ⟨by simp [h45, am_b], rfl⟩
  refine am_nay 9 (by decide) rfl h45 ?_
  by_cases h42 : c = 42
  · refine am_yea 9 (by decide) rfl h42 ?_
    exact am_end 9 (by decide) rfl (Or.inr rfl) (by decide) (by decide) ⟨by simp [h42, am_b], rfl⟩
  refine am_nay 9 (by decide) rfl h42 ?_
  by_cases h47 : c = 47
  · refine am_yea 9 (by decide) rfl h47 ?_
    exact am_end 9 (by decide) rfl (Or.inr rfl) (by decide) (by decide) ⟨by simp [h47, am_b], rfl⟩
  refine am_nay 9 (by decide) rfl h47 ?_
  by_cases h37 : c = 37
  · refine am_yea 9 (by decide) rfl h37 ?_
    exact am_end 9 (by decide) rfl (Or.inr rfl) (by decide) (by decide) ⟨by simp [h37, am_b], rfl⟩
  refine am_nay 9 (by decide) rfl h37 ?_
  by_cases h40 : c = 40
  · refine am_yea 9 (by decide) rfl h40 ?_
    exact am_end 9 (by decide) rfl (Or.inr rfl) (by decide) (by decide) ⟨by simp [h40, am_b], rfl⟩
  refine am_nay 9 (by decide) rfl h40 ?_
  by_cases h41 : c = 41
  · refine am_yea 9 (by decide) rfl h41 ?_
    exact am_end 9 (by decide) rfl (Or.inr rfl) (by decide) (by decide) ⟨by simp [h41, am_b], rfl⟩
  refine am_nay 9 (by decide) rfl h41 ?_
  by_cases h91 : c = 91
  · refine am_yea 9 (by decide) rfl h91 ?_
    exact am_end 9 (by decide) rfl (Or.inr rfl) (by decide) (by decide) ⟨by simp [h91, am_b], rfl⟩
  refine am_nay 9 (by decide) rfl h91 ?_
  by_cases h93 : c = 93
  · refine am_yea 9 (by decide) rfl h93 ?_
    exact am_end 9 (by decide) rfl (Or.inr rfl) (by decide) (by decide) ⟨by simp [h93, am_b], rfl⟩
  refine am_nay 9 (by decide) rfl h93 ?_
  by_cases h44 : c = 44
  · refine am_yea 9 (by decide) rfl h44 ?_
    exact am_end 9 (by decide) rfl (Or.inr rfl) (by decide) (by decide) ⟨by simp [h44, am_b], rfl⟩
  refine am_nay 9 (by decide) rfl h44 ?_
  by_cases h58 : c = 58
  · refine am_yea 9 (by decide) rfl h58 ?_
    exact am_end 9 (by decide) rfl (Or.inr rfl) (by decide) (by decide) ⟨by simp [h58, am_b], rfl⟩
  refine am_nay 9 (by decide) rfl h58 ?_
  by_cases h61 : c = 61
  · refine am_yea 9 (by decide) rfl h61 ?_
    exact am_end 9 (by decide) rfl (Or.inr rfl) (by decide) (by decide) ⟨by simp [h61, am_b], rfl⟩
  refine am_nay 9 (by decide) rfl h61 ?_
  by_cases h60 : c = 60
  · refine am_yea 9 (by decide) rfl h60 ?_
    exact am_end 9 (by decide) rfl (Or.inr rfl) (by decide) (by decide) ⟨by simp [h60, am_b], rfl⟩
  refine am_nay 9 (by decide) rfl h60 ?_
  by_cases h62 : c = 62
  · refine am_yea 9 (by decide) rfl h62 ?_
    exact am_end 9 (by decide) rfl (Or.inr rfl) (by decide) (by decide) ⟨by simp [h62, am_b], rfl⟩
  refine am_nay 9 (by decide) rfl h62 ?_
  by_cases h46 : c = 46
  · refine am_yea 9 (by decide) rfl h46 ?_
    exact am_end 9 (by decide) rfl (Or.inr rfl) (by decide) (by decide) ⟨by simp [h46, am_b], rfl⟩
  refine am_nay 9 (by decide) rfl h46 ?_
  by_cases h59 : c = 59
  · refine am_nay 9 (by decide) rfl (fun z => z h59) ?_
    exact am_end 9 (by decide) rfl (Or.inr rfl) (by decide) (by decide) ⟨by simp [h59, am_b], rfl⟩
  refine am_yea 9 (by decide) rfl h59 ?_
  exact am_end 9 (by decide) rfl (Or.inl rfl) (by decide) (by decide) ⟨by simp [h43, h45, h42, h47, h37, h40, h41, h91, h93, h44, h58, h61, h60, h62, h46, h59, am_b], rfl⟩
/-- brackets -/
def s_br (tx : Nat → Int32) (n : Nat) (c : Int32) (z : aW) : Except aF aW := match z with
  | (p, l, ws, bs, m, tk) =>
    if c = 40 ∨ c = 91 then (if bs.length < 8 then .ok (p, l, ws, p :: bs, m, tk) else .error (3, p))
    else if c = 41 ∨ c = 93 then (match bs with
      | [] => .error (4, p)
      | b :: r => if s_ch tx n b = (if c = 41 then 40 else 91) then .ok (p, l, ws, r, m, tk) else .error (4, p))
    else .ok (p, l, ws, bs, m, tk)
section MSG
variable {g : List aK} {X : Nat × (Nat → Int32)} {tx : Nat → Int32} {n : Nat} {I A : Nat → Nat → Int32} {J : Nat → Nat → Int64} {p m : Nat} {l : Bool} {ws : List (Nat × Nat)} {bs : List Nat} {tk : Nat → aT}
theorem y_br {c : Int32} (hT : m_T tx n I A) (hz : m_S (p, l, ws, bs, m, tk) I A J) (hp : p < n) (hb : ∀ b ∈ bs, b < n) : m_M m_fs m_cs 2 144 [.ref 29, .int c, .int (nI p)] g I A J X (m_Rb (s_br tx n c (p, l, ws, bs, m, tk))) := by
  have hn := hT.2.1
  obtain ⟨h2, h3, h5, h6, h7, h8, h9, h12, ht⟩ := id hz
  unfold s_br
  dsimp only
  have yes : m_D m_fs m_cs 144 2 g X I A J (119, [(0, .ref 29), (1, .int c), (2, .int (nI p))], [], am_H g I A J X) (m_Rb (.ok (p, l, ws, bs, m, tk))) := m_D.ret 9 (by decide) rfl (Or.inr rfl) m_Fr.refl ⟨rfl, hz⟩
  have no : m_D m_fs m_cs 144 2 g X I A J (102, [(0, .ref 29), (1, .int c), (2, .int (nI p))], [], am_H g I A J X) (m_Rb (.error (4, p))) := by
    refine m_D.cav (n := 9) (by decide) rfl y_fault (by decide) ((m_Fr.put (by decide)).trans (m_Fr.put (by decide))) ?_
    exact m_D.ret 9 (by decide) rfl (Or.inl rfl) m_Fr.refl ⟨rfl, by simp [am_u], by simp [am_u]⟩
  refine m_D.met rfl rfl ?_
  by_cases c1 : c = 40 ∨ c = 91
  · rw [if_pos c1]
    have st : ∀ {P : mP}, m_D m_fs m_cs 144 2 g X I A J (12, [(0, .ref 29), (1, .int c), (2, .int (nI p))], [], am_H g I A J X) P → m_D m_fs m_cs 144 2 g X I A J (0, [(0, .ref 29), (1, .int c), (2, .int (nI p))], [], am_H g I A J X) P := fun k => by
      by_cases c40 : c = 40
      · exact m_D.yea 9 (by decide) rfl c40 k
      · refine m_D.nay 9 (by decide) rfl c40 ?_
        exact m_D.nay 9 (by decide) rfl (fun z => z (c1.resolve_left c40)) k
    refine st ?_
    by_cases c2 : bs.length < 8
    · rw [if_pos c2]
      refine m_D.yea 9 (by decide) rfl (by rw [h7]; intro z; have := nI_inj (b := 8) (by omega) (by omega) z; omega) ?_
      refine m_D.nee 9 (by decide) rfl (by rw [h7]; exact nI_in c2 (by decide)) ?_
      refine m_D.ret 12 (by decide) rfl (Or.inr rfl) ((m_Fr.set (by decide)).trans (m_Fr.put (by decide))) ?_
      rw [h7, nI_clamp (by omega), nI_1]
      refine ⟨rfl, ?_, ?_, h5, ?_, am_uk, by simp; omega, ⟨?_, ?_⟩, ?_, ⟨?_, ht.2.1, ?_, by simpa [m_K, am_u] using ht.2.2.2⟩⟩
      · simpa [am_u] using h2
      · simpa [am_u] using h3
      · simpa [am_uo] using h6
      · simp [am_u]
      · refine c_P_same (fun k hk => ?_) h9
        have : k ≠ bs.length := by omega
        simp [am_u, this]
      · intro b hb'
        rcases List.mem_cons.mp hb' with e | e
        · rw [e]; omega
        · exact h12 b e
      · simpa [am_u] using ht.1
      · simpa [am_uo] using ht.2.2.1
    · rw [if_neg c2]
      have e8 : bs.length = 8 := by omega
      refine m_D.nay 9 (by decide) rfl (by rw [h7, e8]; exact fun z => z rfl) ?_
      refine m_D.cav (n := 9) (by decide) rfl y_fault (by decide) ((m_Fr.put (by decide)).trans (m_Fr.put (by decide))) ?_
      exact m_D.ret 9 (by decide) rfl (Or.inl rfl) m_Fr.refl ⟨rfl, by simp [am_u], by simp [am_u]⟩
  · rw [if_neg c1]
    refine m_D.nay 9 (by decide) rfl (fun z => c1 (Or.inl z)) ?_
    refine m_D.yea 9 (by decide) rfl (fun z => c1 (Or.inr z)) ?_
    by_cases c2 : c = 41 ∨ c = 93
    · rw [if_pos c2]
      have st : ∀ {P : mP}, m_D m_fs m_cs 144 2 g X I A J (63, [(0, .ref 29), (1, .int c), (2, .int (nI p))], [], am_H g I A J X) P → m_D m_fs m_cs 144 2 g X I A J (51, [(0, .ref 29), (1, .int c), (2, .int (nI p))], [], am_H g I A J X) P := fun k => by
        by_cases c41 : c = 41
        · exact m_D.yea 9 (by decide) rfl c41 k
        · refine m_D.nay 9 (by decide) rfl c41 ?_
          exact m_D.nay 9 (by decide) rfl (fun z => z (c2.resolve_left c41)) k
      refine st ?_
      cases bs with
      | nil =>
        dsimp only
        refine m_D.yea 9 (by decide) rfl (by rw [h7]; rfl) ?_
        exact no
      | cons b r =>
        dsimp only
        have hbn := hb b List.mem_cons_self
        have h8' : r.length < 8 := by simp at h8; omega
        have e19 : I 29 19 - 1 = nI r.length := by rw [h7]; exact nI_pred r.length
        have e38 : A 38 (I 29 19 - 1).toNatClampNeg = nI b := by rw [e19, nI_clamp (by omega)]; exact h9.1
        have e31 : A 31 (A 38 (I 29 19 - 1).toNatClampNeg).toNatClampNeg = tx b := by rw [e38, nI_clamp (by omega), hT.2.2.1 b hbn]
        have ech : s_ch tx n b = tx b := if_pos hbn
        refine m_D.nay 9 (by decide) rfl (by rw [h7]; exact nI_ne0 (by simp) (by simp; omega)) ?_
        refine m_D.nee 12 (by decide) rfl (by rw [e19]; exact nI_in h8' (by decide)) ?_
        refine m_D.nee 9 (by decide) rfl (by rw [e38]; exact nI_in (show b < 600 by omega) (by decide)) ?_
        rw [e31, ech]
        have st2 : ∀ {P : mP}, m_D m_fs m_cs 144 2 g X I A J (99, [(0, .ref 29), (1, .int c), (2, .int (nI p))], [.int (if c = 41 then 40 else 91), .int (tx b)], am_H g I A J X) P → m_D m_fs m_cs 144 2 g X I A J (86, [(0, .ref 29), (1, .int c), (2, .int (nI p))], [.int (tx b)], am_H g I A J X) P := fun k => by
          by_cases c41 : c = 41
          · rw [if_pos c41] at k
            refine m_D.nay 9 (by decide) rfl (fun z => z c41) ?_
            exact m_D.pla 2 (by decide) rfl k
          · rw [if_neg c41] at k
            refine m_D.yea 9 (by decide) rfl c41 ?_
            exact m_D.pla 1 (by decide) rfl k
        refine st2 ?_
        by_cases c3 : tx b = (if c = 41 then 40 else 91)
        · rw [if_pos c3]
          refine m_D.yea 9 (by decide) rfl c3 ?_
          refine m_D.ret 12 (by decide) rfl (Or.inr rfl) (m_Fr.put (by decide)) ?_
          rw [e19]
          refine ⟨rfl, ?_, ?_, h5, h6, am_uk, by omega, h9.2, fun b' hb' => h12 b' (List.mem_cons_of_mem _ hb'), ⟨?_, ht.2.1, ht.2.2.1, by simpa [m_K, am_u] using ht.2.2.2⟩⟩
          · simpa [am_u] using h2
          · simpa [am_u] using h3
          · simpa [am_u] using ht.1
        · rw [if_neg c3]
          refine m_D.nay 9 (by decide) rfl c3 ?_
          exact no
    · rw [if_neg c2]
      refine m_D.nay 9 (by decide) rfl (fun z => c2 (Or.inl z)) ?_
      refine m_D.yea 9 (by decide) rfl (fun z => c2 (Or.inr z)) ?_
      exact yes
end MSG
