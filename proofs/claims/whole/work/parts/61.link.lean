/-! TREES: one part more -/
theorem n_F.last {S : aN} {q : Bool} : ∀ {F : aB} {lo hi i : Nat} {x l xe : Int32}, F ≠ b_0 → n_F S q F lo hi x i l xe → ∃ k, lo ≤ k ∧ k < hi ∧ k ≠ i ∧ l = nI k
  | .leaf _, _, _, _, _, _, _, hn, _ => absurd rfl hn
  | .branch e c s, lo, hi, i, x, l, xe, _, h => by
    obtain ⟨j, a, b, h1, h2, h3, h4, h5, h6, h7, h8, h9, h10, h11⟩ := h
    by_cases hs : s = b_0
    · exact ⟨j, by omega, by omega, fun e => h5 (by omega), h7 hs⟩
    · obtain ⟨k, k1, k2, k3, k4⟩ := n_F.last hs h11
      exact ⟨k, by omega, k2, k3, k4⟩
theorem n_F.link {S S' : aN} {q : Bool} {y : Int32} : ∀ {F : aB} {lo hi i : Nat} {x l xe : Int32}, F ≠ b_0 → hi ≤ 400 → (∀ f k, lo ≤ k → k < hi → k ≠ i → ¬ (f = 6 ∧ l = nI k) → S' f k = S f k) → (∀ k, lo ≤ k → k < hi → l = nI k → S' 6 k = y) → n_F S q F lo hi x i l xe → n_F S' q F lo hi x i l y
  | .leaf _, _, _, _, _, _, _, hn, _, _, _, _ => absurd rfl hn
  | .branch e c s, lo, hi, i, x, l, xe, _, h4, hS, hl, h => by
    obtain ⟨j, a, b, h1, h2, h3, h4, h5, h6, h7, h8, h9, h10, h11⟩ := h
    have hl' : ∃ k, l = nI k ∧ k < 400 ∧ (k = j ∨ b ≤ k) ∧ k < hi := by
      by_cases hs : s = b_0
      · exact ⟨j, h7 hs, by omega, Or.inl rfl, by omega⟩
      · obtain ⟨k, k1, k2, k3, k4⟩ := n_F.last hs h11
        exact ⟨k, k4, by omega, Or.inr k1, k2⟩
    obtain ⟨k0, e0, k1, k2, k3⟩ := hl'
    have ne : ∀ k, a ≤ k → k < b → k ≠ j → l ≠ nI k := fun k q1 q2 q3 q4 => by
      have := nI_inj (by omega) (by omega) (e0.symm.trans q4)
      omega
    have hj : ∀ f, f ≠ 6 → S' f j = S f j := fun f hf => hS f j (by omega) (by omega) (fun e => h5 (by omega)) (fun z => hf z.1)
    refine ⟨j, a, b, h1, h2, h3, h4, h5, h6, h7, by rw [hj 7 (by decide)]; exact h8, ?_, ?_, ?_⟩
    · unfold n_N at *
      rw [hj 0 (by decide), hj 1 (by decide), hj 2 (by decide), hj 3 (by decide)]
      exact h9
    · rw [hj 4 (by decide), hj 5 (by decide)]
      exact n_F.frame (fun f k q1 q2 q3 => hS f k (by omega) (by omega) (fun e => h5 (by omega)) (fun z => ne k q1 q2 q3 z.2)) h10
    · by_cases hs : s = b_0
      · subst hs
        exact hl j (by omega) (by omega) (h7 rfl)
      · have hjn : l ≠ nI j := fun z => by
          obtain ⟨k, q1, q2, q3, q4⟩ := n_F.last hs h11
          have := nI_inj (by omega) (by omega) (q4.symm.trans z)
          omega
        rw [hS 6 j (by omega) (by omega) (fun e => h5 (by omega)) (fun z => hjn z.2)]
        exact n_F.link hs (by omega) (fun f k q1 q2 q3 q4 => hS f k (by omega) q2 q3 q4) (fun k q1 q2 q3 => hl k (by omega) q2 q3) h11
section LNK
variable {S : aN} {q : Bool} {lo mid j e j2 : Nat} {c : aB} {hh : Int32}
/-- what linking leaves as it was -/
theorem n_lnk_o (h : n_T S q lo mid j e c) (hm : mid ≤ 400) {f k : Nat} (h1 : k ≠ j) (h2 : ¬ (lo ≤ k ∧ k < mid)) (h3 : k = j2 → f ≠ 7) : n_lnk S j j2 hh f k = S f k := by
  unfold n_lnk
  rw [am_un (fun z => h1 z.2), am_un (fun z => h1 z.2), am_un (fun z => h3 z.2 z.1), am_un (fun z => h1 z.2)]
  by_cases c1 : S 3 j = 0
  · rw [if_pos c1, am_un (fun z => h1 z.2)]
  · rw [if_neg c1]
    have hc : c ≠ b_0 := fun z => c1 (by rw [h.1.2.2.1, z]; rfl)
    obtain ⟨k0, q1, q2, q3, q4⟩ := n_F.last hc h.2
    rw [q4, nI_clamp (by omega), am_un (fun z => h2 (by omega))]
theorem b_len_lt {S : aN} {q : Bool} : ∀ {F : aB} {lo hi i : Nat} {x l xe : Int32}, lo ≤ hi → n_F S q F lo hi x i l xe → lo + b_len F ≤ hi
  | .leaf _, _, _, _, _, _, _, h, _ => h
  | .branch e c s, lo, hi, i, x, l, xe, _, h => by
    obtain ⟨j, a, b, h1, h2, h3, h4, h5, h6, h7, h8, h9, h10, h11⟩ := h
    have := b_len_lt h4 h11
    simp only [b_len]
    omega
/-- linked: the parts so far, and j2 behind them -/
theorem n_lnk_T (h : n_T S q lo mid j e c) (hlm : lo ≤ mid) (hm : mid ≤ 400) (hj : j2 ≠ j) (hj2 : ¬ (lo ≤ j2 ∧ j2 < mid)) :
    n_F (n_lnk S j j2 hh) q c lo mid (n_lnk S j j2 hh 4 j) j (S 5 j) (nI j2) ∧ n_lnk S j j2 hh 0 j = S 0 j ∧ n_lnk S j j2 hh 1 j = S 1 j ∧ n_lnk S j j2 hh 2 j = hh ∧ n_lnk S j j2 hh 3 j = nI (b_len c + 1) ∧ n_lnk S j j2 hh 5 j = nI j2 ∧ n_lnk S j j2 hh 6 j2 = S 6 j2 ∧ n_lnk S j j2 hh 7 j2 = nI j ∧ n_lnk S j j2 hh 7 j = S 7 j ∧ n_lnk S j j2 hh 6 j = S 6 j := by
  have hl := b_len_lt hlm h.2
  have h3 : S 3 j + 1 = nI (b_len c + 1) := by rw [h.1.2.2.1, nI_1]
  by_cases c1 : c = b_0
  · subst c1
    have e3 : S 3 j = 0 := h.1.2.2.1
    have hj' : ¬ j = j2 := fun z => hj z.symm
    simp [n_lnk, am_u, e3, hj, hj', n_F, b_len]
    decide
  · have e3 : S 3 j ≠ 0 := by
      rw [h.1.2.2.1]
      intro z
      have := nI_inj (a := b_len c) (b := 0) (by omega) (by omega) z
      exact c1 (b_len0 this)
    obtain ⟨k0, q1, q2, q3, q4⟩ := n_F.last c1 h.2
    have hk0 : ¬ k0 = j2 := fun z => hj2 (by omega)
    have hj' : ¬ j = j2 := fun z => hj z.symm
    have hk0j : ¬ j = k0 := fun z => q3 z.symm
    have hj2k : ¬ j2 = k0 := fun z => hk0 z.symm
    have e5 : (S 5 j).toNatClampNeg = k0 := by rw [q4, nI_clamp (by omega)]
    have e4 : n_lnk S j j2 hh 4 j = S 4 j := by simp [n_lnk, am_u, e3]
    refine ⟨?_, ?_⟩
    · rw [e4]
      refine n_F.link c1 hm (fun f k r1 r2 r3 r4 => ?_) (fun k r1 r2 r3 => ?_) h.2
      · have hkj : ¬ k = j2 := fun z => hj2 (by omega)
        have : ¬ (f = 6 ∧ k = k0) := fun z => r4 ⟨z.1, by rw [q4, z.2]⟩
        unfold n_lnk
        rw [am_un (fun z => r3 z.2), am_un (fun z => r3 z.2), am_un (fun z => hkj z.2), am_un (fun z => r3 z.2), if_neg e3, e5, am_un this]
      · have : k = k0 := nI_inj (by omega) (by omega) (r3.symm.trans q4)
        subst this
        unfold n_lnk
        rw [am_un (fun z => q3 z.2), am_un (fun z => q3 z.2), am_un (fun z => hk0 z.2), am_un (fun z => q3 z.2), if_neg e3, e5, am_uk]
    · rw [← h3]
      simp [n_lnk, am_u, e3, e5, hj, hj', hk0j, hj2k]
theorem b_ht_lt {S : aN} {q : Bool} : ∀ {F : aB} {lo hi i : Nat} {x l xe : Int32}, lo ≤ hi → n_F S q F lo hi x i l xe → lo + b_ht F ≤ hi ∧ (lo ≤ i → i < hi → lo + b_ht F + 1 ≤ hi)
  | .leaf _, _, _, _, _, _, _, h, _ => ⟨h, fun h1 h2 => by simp only [b_ht]; omega⟩
  | .branch e c s, lo, hi, i, x, l, xe, _, h => by
    obtain ⟨j, a, b, h1, h2, h3, h4, h5, h6, h7, h8, h9, h10, h11⟩ := h
    have k1 := b_ht_lt h4 h11
    have k2 := (b_ht_lt (by omega) h10).2 h2 h3
    simp only [b_ht]
    refine ⟨by omega, fun h12 h13 => ?_⟩
    by_cases c1 : b ≤ i
    · have := k1.2 c1 h13
      omega
    · omega
theorem n_app_T {a2 b2 e2 : Nat} {c2 : aB} (h : n_T S q lo mid j e c) (h2 : n_T S q a2 b2 j2 e2 c2) (hlm : lo ≤ mid) (hma : mid ≤ a2) (haj : a2 ≤ j2) (hjb : j2 < b2) (hb : b2 ≤ 400) (hj : ¬ (a2 ≤ j ∧ j < b2)) (h6 : S 6 j2 = -1) (he : 11 ≤ e % 32 → hh = nI (b_ht (b_add c e2 c2) + 1)) : n_T (n_lnk S j j2 hh) q lo b2 j e (b_add c e2 c2) := by
  have hne : j2 ≠ j := fun z => hj (by omega)
  have hnl : ¬ (lo ≤ j2 ∧ j2 < mid) := by omega
  obtain ⟨k1, k2, k3, k4, k5, k6, k7, k8, -, -⟩ := n_lnk_T h hlm (by omega) hne hnl
  have fr : ∀ f k, a2 ≤ k → k < b2 → (k = j2 → f ≠ 7) → n_lnk S j j2 hh f k = S f k := fun f k r1 r2 r3 => n_lnk_o h (by omega) (by omega) (by omega) r3
  have h2' : n_T (n_lnk S j j2 hh) q a2 b2 j2 e2 c2 := by
    refine ⟨?_, ?_⟩
    · unfold n_N
      rw [fr 0 j2 haj hjb (fun _ => by decide), fr 1 j2 haj hjb (fun _ => by decide), fr 2 j2 haj hjb (fun _ => by decide), fr 3 j2 haj hjb (fun _ => by decide)]
      exact h2.1
    · rw [fr 4 j2 haj hjb (fun _ => by decide), fr 5 j2 haj hjb (fun _ => by decide)]
      exact n_F.frame (fun f k r1 r2 r3 => fr f k r1 r2 (fun z => absurd z r3)) h2.2
  refine ⟨⟨by rw [k2]; exact h.1.1, by rw [k3]; exact h.1.2.1, by rw [k5, b_len_add], fun h11 => by rw [k4]; exact he h11⟩, ?_⟩
  · rw [k6]
    exact n_F.snoc k1 hlm hma haj hjb hj k8 (by rw [k7]; exact h6) h2'
/-- the two ways in which a height is reckoned -/
theorem n_ht_a {a2 b2 e2 : Nat} {c2 : aB} (h : n_T S q lo mid j e c) (h2 : n_T S q a2 b2 j2 e2 c2) (hlm : lo ≤ mid) (hm : mid ≤ 400) (hab : a2 ≤ b2) (hb : b2 ≤ 400) (he : 11 ≤ e % 32) (he2 : 11 ≤ e2 % 32) : (if S 2 j < S 2 j2 + 1 then S 2 j2 + 1 else S 2 j) = nI (b_ht (b_add c e2 c2) + 1) ∧ (if S 2 j2 < S 2 j then S 2 j else S 2 j2 + 1) = nI (b_ht (b_add c e2 c2) + 1) := by
  have t1 := (b_ht_lt hlm h.2).1
  have t2 := (b_ht_lt hab h2.2).1
  rw [h.1.2.2.2 he, h2.1.2.2.2 he2, nI_1, b_ht_add]
  by_cases c1 : b_ht c + 1 < b_ht c2 + 1 + 1
  · rw [if_pos (nI_lt c1 (by omega)), if_neg (nI_nlt (by omega) (by omega))]
    refine ⟨?_, ?_⟩ <;> (congr 1; omega)
  · rw [if_neg (nI_nlt (by omega) (by omega)), if_pos (nI_lt (by omega) (by omega))]
    refine ⟨?_, ?_⟩ <;> (congr 1; omega)
end LNK
