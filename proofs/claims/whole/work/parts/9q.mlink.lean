/-! THE REFERENCE'S STATEMENTS: linked first -/
section RLK
variable {S N S' : aN} {lo mid b eb e m m' : Nat} {c c2 : aB} {hh : Int32}
theorem r_link (hT : n_T S false lo mid b eb c) (hlm : lo ≤ mid) (hmm : mid ≤ m) (hb : b < m) (hm : m < 399) (hN : n_W false S m N e) :
    n_T N false lo mid b eb c ∧ n_T (n_lnk N b m hh) false (m + 1) (m + 1) m e b_0 ∧ n_lnk N b m hh 6 m = -1 ∧ n_lnk N b m hh 7 m = nI b ∧ (∀ f k, k ≠ b → ¬ (lo ≤ k ∧ k < mid) → k ≠ m → n_lnk N b m hh f k = S f k) ∧ n_lnk N b m hh 6 b = S 6 b ∧ n_lnk N b m hh 7 b = S 7 b := by
  have hT' : n_T N false lo mid b eb c := hT.frame (fun f _ => hN.1 f b (by omega)) (fun f k k1 k2 _ => hN.1 f k (by omega))
  obtain ⟨k1, k2, k3, k4, k5, k6, k7, k8, k9, k10⟩ := n_lnk_T (hh := hh) hT' hlm (by omega) (j2 := m) (by omega) (by omega)
  refine ⟨hT', ?_, by rw [k7]; exact hN.2.2, k8, fun f k q1 q2 q3 => ?_, by rw [k10, hN.1 6 b (by omega)], by rw [k9, hN.1 7 b (by omega)]⟩
  · exact (hN.2.1 (m + 1)).frame (fun f hf => n_lnk_o hT' (by omega) (by omega) (by omega) (fun _ => by omega)) (fun f k q1 q2 q3 => by omega)
  · rw [n_lnk_o hT' (by omega) q1 q2 (fun z => absurd z q3), hN.1 f k q3]
theorem r_done {e0 : Nat} (hT : n_T S false lo mid b eb c) (hlm : lo ≤ mid) (hmm : mid ≤ m) (hb : b < m) (hm : m < 399) (hN : n_W false S m N e0) (hmm' : m < m') (heb : eb % 32 < 11) (hfr : ∀ f k, k < m → S' f k = n_lnk N b m hh f k) (h6 : S' 6 m = -1) (h7 : S' 7 m = nI b) (hT2 : n_T S' false m m' m e c2) : n_T S' false lo m' b eb (b_add c e c2) ∧ (∀ f k, k < m → k ≠ b → ¬ (lo ≤ k ∧ k < mid) → S' f k = S f k) ∧ S' 6 b = S 6 b ∧ S' 7 b = S 7 b := by
  obtain ⟨l1, l2, l3, l4, l5, l6, l7⟩ := r_link (hh := hh) hT hlm hmm hb hm hN
  refine ⟨n_late (hh := hh) l1 hlm hmm (by omega) hb (Nat.le_refl _) hmm' heb hfr h6 h7 hT2, fun f k q1 q2 q3 => ?_, by rw [hfr 6 b hb, l6], by rw [hfr 7 b hb, l7]⟩
  rw [hfr f k q1, l5 f k q2 q3 (by omega)]
/-- with an expression as its one part -/
theorem r_expr {S1 : aN} {m3 j e3 : Nat} {c3 : aB} {h2 : Int32} (hT : n_T S false lo mid b eb c) (hlm : lo ≤ mid) (hmm : mid ≤ m) (hb : b < m) (hm : m < 399) (hN : n_W false S m N e) (he : e % 32 < 11) (hm3 : m3 ≤ 400) (hV : n_V false (n_lnk N b m hh) (m + 1) S1 m3 j e3 c3) : (∀ f k, k < m → n_lnk S1 m j h2 f k = n_lnk N b m hh f k) ∧ n_lnk S1 m j h2 6 m = -1 ∧ n_lnk S1 m j h2 7 m = nI b ∧ n_T (n_lnk S1 m j h2) false (m + 1) m3 m e (.branch e3 c3 b_0) ∧ n_lnk S1 m j h2 4 m = nI j ∧ (n_lnk S1 m j h2 1 j = S1 1 j) := by
  obtain ⟨l1, l2, l3, l4, l5, l6, l7⟩ := r_link (hh := hh) hT hlm hmm hb hm hN
  have v1 := hV.1
  have v2 := hV.2.1
  obtain ⟨n1, n2, n3, n4⟩ := n_app1 (hh := h2) l2 (Nat.le_refl _) (Nat.le_refl _) (by omega) hV (by omega) (fun z => by omega)
  refine ⟨fun f k hk => ?_, ?_, ?_, n1, ?_, n_lnk_f.1 j⟩
  · rw [n2 f k (by omega) (by omega) (by omega), hV.2.2.2.2.2 f k (by omega)]
  · rw [n3, hV.2.2.2.2.2 6 m (by omega), l3]
  · rw [n4, hV.2.2.2.2.2 7 m (by omega), l4]
  · obtain ⟨q, a, b', h1, h2', h3, h4, h5, h6, h7, -⟩ := n1.2
    have h5' := h7 rfl
    have : n_lnk S1 m j h2 5 m = nI j := n_lnk_f.2.2.2.1
    rw [h6, ← h5', this]
end RLK
/-- the reference's parser between statements -/
def m_Y (T : Nat) (tk : Nat → aT) (p m : Nat) (I A : Nat → Nat → Int32) (J : Nat → Nat → Int64) : Prop := I 29 31 = nI p ∧ I 29 29 = nI m ∧ m_Tk I A J T tk ∧ x_So T m (m_st A)
def m_Bs (T : Nat) (tk : Nat → aT) (lo b eb m : Nat) (c0 : aB) (S0 : aN) (r : Except aF (aB × Nat)) : mP := fun v I' A' J' => match r with
  | .ok (c', p') => v = some (.int 1) ∧ ∃ m', m_Y T tk p' m' I' A' J' ∧ n_T (m_st A') false lo m' b eb c' ∧ m' + b_sz c0 = m + b_sz c' ∧ m ≤ m' ∧ m_st A' 6 b = S0 6 b ∧ m_st A' 7 b = S0 7 b ∧ (∀ f k, k < lo → k ≠ b → m_st A' f k = S0 f k)
  | .error q => v = some (.int 0) ∧ I' 29 3 = q.1 ∧ I' 29 4 = nI q.2
section MSM
variable {g : List aK} {X : Nat × (Nat → Int32)} {T : Nat} {tk : Nat → aT} {I A : Nat → Nat → Int32} {J : Nat → Nat → Int64} {p m : Nat}
theorem m_Y.at {p' : Nat} (h : m_Y T tk p m I A J) : m_Y T tk p' m (am_u I 29 31 (nI p')) A J := by
  obtain ⟨h1, h2, h3, h4⟩ := h
  refine ⟨am_uk, ?_, ⟨?_, h3.2.1, h3.2.2.1, by simpa [m_K, am_u] using h3.2.2.2⟩, h4⟩
  · simpa [am_u] using h2
  · simpa [am_u] using h3.1
theorem m_Y.mk {k : Int32} {t : Nat} (h : m_Y T tk p m I A J) (ht : t < T) : m_Y T tk p (m + 1) (am_u I 29 29 (nI (m + 1))) (m_addA A m k (nI t)) J := by
  obtain ⟨h1, h2, h3, h4⟩ := h
  refine ⟨?_, am_uk, ⟨?_, h3.2.1, ?_, by simpa [m_K, am_u] using h3.2.2.2⟩, ?_⟩
  · simpa [am_u] using h1
  · simpa [am_u] using h3.1
  · simpa [m_addA, am_uo] using h3.2.2.1
  · rw [m_addA_st]; exact h4.add ht
/-- a link -/
theorem m_Y.app {j v : Nat} (h : m_Y T tk p m I A J) (hj : j < m) (hv : v < m) (hm : m ≤ 400) : ∃ A', m_st A' = x_app (m_st A) j v ∧ m_Fr m_fp m_cp I A J I A' J ∧ m_Y T tk p m I A' J ∧ am_Con 1 149 [.ref 29, .int (nI j), .int (nI v)] (am_H g I A J X) (.inl none) (am_H g I A' J X) 0 0 := by
  obtain ⟨h1, h2, h3, h4⟩ := h
  obtain ⟨s1, s2⟩ := h4 j hj
  obtain ⟨A', a1, a2, a3, a4⟩ := y_app (g := g) (X := X) (I := I) (A := A) (J := J) (j := j) (v := v) (by omega) (by omega) (by
    rcases s1 with z | ⟨i, i1, i2⟩
    · exact Or.inl z
    · exact Or.inr ⟨i, by omega, i2⟩)
  refine ⟨A', a1, a2, ⟨h1, h2, ⟨h3.1, h3.2.1, fun k hk => ?_, h3.2.2.2⟩, by rw [a1]; exact h4.app hv⟩, a4⟩
  rw [a2.2.2.1 32 (by decide), a2.2.2.1 33 (by decide), a2.2.2.1 34 (by decide)]
  exact h3.2.2.1 k hk
end MSM
