/-! THE CLASS NUMBERS ITS NODES -/
/-- what follows the node i and all its parts -/
def r_bh (S : aN) (m : Nat) : Nat → Nat → Int32 → Prop
  | 0, i, y => i < m ∧ ((∃ j, j < m ∧ S 6 i = nI j ∧ y = nI j) ∨ (S 6 i = -1 ∧ S 7 i = -1 ∧ y = -1))
  | d + 1, i, y => i < m ∧ S 6 i = -1 ∧ ∃ i', S 7 i = nI i' ∧ r_bh S m d i' y
theorem r_bh.lt {S : aN} {m : Nat} : ∀ {d i : Nat} {y : Int32}, r_bh S m d i y → i < m
  | 0, _, _, h => h.1
  | _ + 1, _, _, h => h.1
/-- from k on the nodes are numbered as listed -/
def r_or (S : aN) (o : Nat → Int32) (m : Nat) : Nat → List (Nat × Nat) → Prop
  | _, [] => True
  | k, (e, n) :: L => (∃ j, j < m ∧ o k = nI j ∧ S 0 j = nI (e % 32) ∧ S 1 j = nI (e / 32) ∧ S 3 j = nI n) ∧ r_or S o m (k + 1) L
theorem r_or.ext {S : aN} {o o' : Nat → Int32} {m : Nat} : ∀ {L : List (Nat × Nat)} {k : Nat}, (∀ q, k ≤ q → q < k + L.length → o' q = o q) → r_or S o m k L → r_or S o' m k L
  | [], _, _, _ => trivial
  | (e, n) :: L, k, h, hr => by
    obtain ⟨⟨j, j1, j2, j3⟩, h2⟩ := hr
    exact ⟨⟨j, j1, (h k (Nat.le_refl _) (by simp)).trans j2, j3⟩, r_or.ext (fun q q1 q2 => h q (by omega) (by simp; omega)) h2⟩
theorem r_or.app {S : aN} {o : Nat → Int32} {m : Nat} : ∀ {L L' : List (Nat × Nat)} {k : Nat}, r_or S o m k L → r_or S o m (k + L.length) L' → r_or S o m k (L ++ L')
  | [], _, _, _, h => h
  | (e, n) :: L, L', k, h, h' => ⟨h.1, r_or.app h.2 (by
    have : k + ((e, n) :: L).length = k + 1 + L.length := by simp; omega
    rw [this] at h'
    exact h')⟩
theorem b_pre_len : ∀ (F : aB), (b_pre F).length = b_sz F
  | .leaf _ => rfl
  | .branch e c s => by simp [b_pre, b_sz, b_pre_len c, b_pre_len s]; omega
section NUM
variable {g : List aK} {J : Nat → Nat → Int64} {X : Nat × (Nat → Int32)} {I A : Nat → Nat → Int32} {S : aN} {m : Nat}
theorem t_nextOf {j : Nat} (hm : I 9 9 = nI m) (h : m ≤ 360) (hj : j < m) : am_Con 1 41 [.ref 9, .int (nI j)] (am_H g I A J X) (.inl (some (.int (A 16 j)))) (am_H g I A J X) 0 0 := by
  refine am_met rfl rfl ?_
  refine am_nay 9 (by decide) rfl (nI_pos (by omega)) ?_
  refine am_nay 9 (by decide) rfl (by rw [hm]; exact nI_ge hj (by omega)) ?_
  refine am_nee 9 (by decide) rfl (nI_in (show j < 360 by omega) (by decide)) ?_
  refine am_end 9 (by decide) rfl trivial (by decide) (by decide) ⟨?_, rfl⟩
  rw [nI_clamp (by omega)]
theorem t_nextNo : am_Con 1 41 [.ref 9, .int (-1)] (am_H g I A J X) (.inl (some (.int (-1)))) (am_H g I A J X) 0 0 := by
  refine am_met rfl rfl ?_
  refine am_yea 9 (by decide) rfl (by decide) ?_
  exact am_end 9 (by decide) rfl trivial (by decide) (by decide) ⟨rfl, rfl⟩
theorem t_behind (hm : I 9 9 = nI m) (h : m ≤ 360) (hA : ∀ f, f < 8 → A (10 + f) = S f) {d i : Nat} {y : Int32} (hb : r_bh S m d i y) (hd : d < 358) : am_Con 2 44 [.ref 9, .int (nI i)] (am_H g I A J X) (.inl (some (.int y))) (am_H g I A J X) 0 0 := by
  have e6 : ∀ q, A 16 q = S 6 q := fun q => congrFun (hA 6 (by decide)) q
  have e7 : ∀ q, A 17 q = S 7 q := fun q => congrFun (hA 7 (by decide)) q
  have loop : ∀ (d i k : Nat) (w : Int32), r_bh S m d i y → k + d < 359 → ∀ (B C u c : Nat) (Q : aO → aH → Prop), u ≤ B → c ≤ C → Q (.inl (some (.int y))) (am_H g I A J X) → am_Tri 44 2 B C u c (4, [(3, .int (nI k)), (2, .int (nI i)), (0, .ref 9), (1, .int w)], [], am_H g I A J X) Q := by
    intro d
    induction d with
    | zero =>
      intro i k w hb hk B C u c Q hu hc hq
      obtain ⟨hi, hb⟩ := hb
      have ei : (nI i).toNatClampNeg = i := nI_clamp (by omega)
      refine am_nay 9 (by decide) rfl (nI_ge (b := 360) (by omega) (by decide)) ?_
      refine am_cav 9 (by decide) rfl (t_hasY hm h hi) (by decide) hu hc ?_
      refine am_nay 9 (by decide) rfl (by decide) ?_
      refine am_nee 9 (by decide) rfl (nI_in (show i < 360 by omega) (by decide)) ?_
      rcases hb with ⟨j, j1, j2, j3⟩ | ⟨j1, j2, j3⟩
      · refine am_cav 9 (by decide) rfl (by rw [ei, e6, j2]; exact t_hasY hm h j1) (by decide) hu hc ?_
        refine am_yea 9 (by decide) rfl (by decide) ?_
        refine am_cav 9 (by decide) rfl (t_nextOf hm h hi) (by decide) hu hc ?_
        refine am_end 9 (by decide) rfl trivial hu hc ?_
        rw [e6, j2, ← j3]
        exact hq
      · refine am_cav 9 (by decide) rfl (by rw [ei, e6, j1]; exact t_hasN hm h) (by decide) hu hc ?_
        refine am_nay 9 (by decide) rfl (by decide) ?_
        refine am_nee 9 (by decide) rfl (nI_in (show i < 360 by omega) (by decide)) ?_
        refine am_pla 3 (by decide) rfl ?_
        rw [nI_1, ei, e7, j2]
        refine am_nay 9 (by decide) rfl (nI_ge (b := 360) (by omega) (by decide)) ?_
        refine am_cav 9 (by decide) rfl (t_hasN hm h) (by decide) hu hc ?_
        refine am_yea 9 (by decide) rfl (by decide) ?_
        refine am_cav 9 (by decide) rfl t_nextNo (by decide) hu hc ?_
        refine am_end 9 (by decide) rfl trivial hu hc ?_
        rw [← j3]
        exact hq
    | succ d ih =>
      intro i k w hb hk B C u c Q hu hc hq
      obtain ⟨hi, h6, i', h7, hb⟩ := hb
      have ei : (nI i).toNatClampNeg = i := nI_clamp (by omega)
      refine am_nay 9 (by decide) rfl (nI_ge (b := 360) (by omega) (by decide)) ?_
      refine am_cav 9 (by decide) rfl (t_hasY hm h hi) (by decide) hu hc ?_
      refine am_nay 9 (by decide) rfl (by decide) ?_
      refine am_nee 9 (by decide) rfl (nI_in (show i < 360 by omega) (by decide)) ?_
      refine am_cav 9 (by decide) rfl (by rw [ei, e6, h6]; exact t_hasN hm h) (by decide) hu hc ?_
      refine am_nay 9 (by decide) rfl (by decide) ?_
      refine am_nee 9 (by decide) rfl (nI_in (show i < 360 by omega) (by decide)) ?_
      refine am_pla 3 (by decide) rfl ?_
      rw [nI_1, ei, e7, h7]
      exact ih i' (k + 1) w hb (by omega) B C u c Q hu hc hq
  refine am_met rfl rfl ?_
  refine am_pla 4 (by decide) rfl ?_
  exact loop d i 0 (nI i) hb (by omega) _ _ _ _ _ (by decide) (by decide) ⟨rfl, rfl⟩
theorem k_visit (hm : I 9 9 = nI m) (h : m ≤ 360) : ∀ (F : aB) (lo hi i k d : Nat) (x l y : Int32) (A : Nat → Nat → Int32), n_F S true F lo hi x i l (-1) → F ≠ b_0 → hi ≤ m → r_bh S m d i y → d + b_ht F < 357 → k + b_sz F ≤ m → (∀ f, f < 8 → A (10 + f) = S f) → ∃ A', (∀ f, f < 8 → A' (10 + f) = S f) ∧ (∀ q, q ≠ 18 → A' q = A q) ∧ (∀ q, q < k → A' 18 q = A 18 q) ∧ r_or S (A' 18) m k (b_pre F) ∧ am_To 43 4 (4, [(2, .int (nI k)), (1, .int x), (0, .ref 9)], [], am_H g I A J X) (4, [(2, .int (nI (k + b_sz F))), (1, .int y), (0, .ref 9)], [], am_H g I A' J X)
  | .leaf _, _, _, _, _, _, _, _, _, _, _, hF, _, _, _, _, _ => absurd rfl hF
  | .branch e c s, lo, hi, i, k, d, x, l, y, A, hn, _, hhi, hb, hd, hk, hA => by
    obtain ⟨j, a, b, h1, h2, h3, h4, h5, h6, h7, h8, h9, h10, h11⟩ := hn
    subst h6
    simp only [b_sz] at hk
    simp only [b_ht] at hd
    have ej : (nI j).toNatClampNeg = j := nI_clamp (by omega)
    -- what follows j and its parts
    have hbj : ∃ d' y', r_bh S m d' j y' ∧ d' ≤ d + 1 ∧ (s = b_0 → y' = y) ∧ (s ≠ b_0 → y' = S 6 j) := by
      cases s with
      | leaf u =>
        have : S 6 j = -1 := h11
        exact ⟨d + 1, y, ⟨by omega, this, i, h8, hb⟩, Nat.le_refl _, fun _ => rfl, fun z => absurd rfl z⟩
      | branch e2 c2 s2 =>
        obtain ⟨j2, a2, b2, g1, g2, g3, g4, g5, g6, -⟩ := h11
        exact ⟨0, nI j2, ⟨by omega, Or.inl ⟨j2, by omega, g6, rfl⟩⟩, by omega, fun z => (by cases z), fun _ => g6.symm⟩
    obtain ⟨d', y', hb', hd', hy1, hy2⟩ := hbj
    -- the node itself
    have hA1 : ∀ f, f < 8 → (am_u A 18 k (nI j)) (10 + f) = S f := fun f hf => by rw [am_uo (by omega)]; exact hA f hf
    have e4 : A 14 j = S 4 j := congrFun (hA 4 (by decide)) j
    have node : ∃ A2, (∀ f, f < 8 → A2 (10 + f) = S f) ∧ (∀ q, q ≠ 18 → A2 q = A q) ∧ (∀ q, q < k → A2 18 q = A 18 q) ∧ A2 18 k = nI j ∧ r_or S (A2 18) m (k + 1) (b_pre c) ∧ am_To 43 4 (4, [(2, .int (nI k)), (1, .int (nI j)), (0, .ref 9)], [], am_H g I A J X) (4, [(2, .int (nI (k + 1 + b_sz c))), (1, .int y'), (0, .ref 9)], [], am_H g I A2 J X) := by
      have pre : ∀ {s' : aS}, am_To 43 4 (27, [(2, .int (nI k)), (1, .int (nI j)), (0, .ref 9)], [], am_H g I (am_u A 18 k (nI j)) J X) s' → am_To 43 4 (4, [(2, .int (nI k)), (1, .int (nI j)), (0, .ref 9)], [], am_H g I A J X) s' := fun hto => by
        intro B C u c' Q hu hc kk
        refine am_nay 9 (by decide) rfl (by rw [hm]; exact nI_ge (by omega) (by omega)) ?_
        refine am_cav 9 (by decide) rfl (t_hasY hm h (show j < m by omega)) (by decide) hu hc ?_
        refine am_nay 9 (by decide) rfl (by decide) ?_
        refine am_nee 9 (by decide) rfl (nI_in (show k < 360 by omega) (by decide)) ?_
        rw [nI_clamp (by omega)]
        exact hto B C u c' Q hu hc kk
      have e4' : (am_u A 18 k (nI j)) 14 (nI j).toNatClampNeg = S 4 j := by rw [ej, am_un (by simp), e4]
      by_cases hc0 : c = b_0
      · subst hc0
        have hf : S 4 j = -1 := h10
        refine ⟨am_u A 18 k (nI j), hA1, fun q hq => am_uo hq, fun q hq => am_un (fun z => by omega), am_uk, trivial, pre ?_⟩
        intro B C u c' Q hu hc kk
        refine am_nee 9 (by decide) rfl (nI_in (show j < 360 by omega) (by decide)) ?_
        refine am_cav 9 (by decide) rfl (by rw [e4', hf]; exact t_hasN hm h) (by decide) hu hc ?_
        refine am_yea 9 (by decide) rfl (by decide) ?_
        refine am_cav 9 (by decide) rfl (t_behind hm h hA1 hb' (by omega)) (by decide) hu hc ?_
        refine am_pla 3 (by decide) rfl ?_
        rw [nI_1]
        exact kk
      · have hfx : ∃ j1, j1 < m ∧ S 4 j = nI j1 := by
          cases c with
          | leaf u => exact absurd rfl hc0
          | branch e2 c2 s2 =>
            obtain ⟨j2, a2, b2, g1, g2, g3, g4, g5, g6, -⟩ := h10
            exact ⟨j2, by omega, g6⟩
        obtain ⟨j1, q1, q2⟩ := hfx
        obtain ⟨A2, r1, r2, r3, r4, r5⟩ := k_visit hm h c a b j (k + 1) d' (S 4 j) (S 5 j) y' (am_u A 18 k (nI j)) h10 hc0 (by omega) hb' (by omega) (by omega) hA1
        refine ⟨A2, r1, fun q hq => (r2 q hq).trans (am_uo hq), fun q hq => (r3 q (by omega)).trans (am_un (fun z => by omega)), (r3 k (by omega)).trans am_uk, r4, pre (am_To.trans ?_ r5)⟩
        intro B C u c' Q hu hc kk
        refine am_nee 9 (by decide) rfl (nI_in (show j < 360 by omega) (by decide)) ?_
        refine am_cav 9 (by decide) rfl (by rw [e4', q2]; exact t_hasY hm h q1) (by decide) hu hc ?_
        refine am_nay 9 (by decide) rfl (by decide) ?_
        refine am_nee 9 (by decide) rfl (nI_in (show j < 360 by omega) (by decide)) ?_
        refine am_pla 4 (by decide) rfl ?_
        rw [nI_1, e4']
        exact kk
    obtain ⟨A2, r1, r2, r3, r4, r5, r6⟩ := node
    have head : ∃ j', j' < m ∧ A2 18 k = nI j' ∧ S 0 j' = nI (e % 32) ∧ S 1 j' = nI (e / 32) ∧ S 3 j' = nI (b_len c) := ⟨j, by omega, r4, h9.1, h9.2.1 (Or.inl rfl), h9.2.2.1⟩
    by_cases hs : s = b_0
    · subst hs
      rw [hy1 rfl] at r6
      refine ⟨A2, r1, r2, r3, ⟨head, ?_⟩, ?_⟩
      · simpa [b_pre] using r5
      · simp only [b_sz]
        rw [show k + (b_sz c + 1 + 0) = k + 1 + b_sz c from by omega]
        exact r6
    · rw [hy2 hs] at r6
      obtain ⟨A3, t1, t2, t3, t4, t5⟩ := k_visit hm h s b hi i (k + 1 + b_sz c) d (S 6 j) l y A2 h11 hs hhi hb (by omega) (by omega) r1
      refine ⟨A3, t1, fun q hq => (t2 q hq).trans (r2 q hq), fun q hq => (t3 q (by omega)).trans (r3 q hq), ⟨?_, ?_⟩, ?_⟩
      · obtain ⟨j', q1, q2, q3⟩ := head
        exact ⟨j', q1, (t3 k (by omega)).trans q2, q3⟩
      · refine r_or.app (r_or.ext (fun q q1 q2 => t3 q (by rw [b_pre_len] at q2; omega)) r5) ?_
        rw [b_pre_len]
        exact t4
      · simp only [b_sz]
        rw [show k + (b_sz c + 1 + b_sz s) = k + 1 + b_sz c + b_sz s from by omega]
        exact r6.trans t5
theorem k_number {e : Nat} {c : aB} (hm : I 9 9 = nI m) (h : m ≤ 300) (hA : ∀ f, f < 8 → A (10 + f) = S f) (hT : n_T S true 1 m 0 e c) (hsz : m = b_sz c + 1) (h6 : S 6 0 = -1) (h7 : S 7 0 = -1) : ∃ A', (∀ q, q ≠ 18 → A' q = A q) ∧ r_or S (A' 18) m 0 ((e, b_len c) :: b_pre c) ∧ am_Con 4 43 [.ref 9] (am_H g I A J X) (.inl none) (am_H g I A' J X) 0 0 := by
  have hb0 : r_bh S m 0 0 (-1) := ⟨by omega, Or.inr ⟨h6, h7, rfl⟩⟩
  have hA1 : ∀ f, f < 8 → (am_u A 18 0 (nI 0)) (10 + f) = S f := fun f hf => by rw [am_uo (by omega)]; exact hA f hf
  have e4' : (am_u A 18 0 (nI 0)) 14 (nI 0).toNatClampNeg = S 4 0 := by
    rw [nI_clamp (by decide), am_un (by simp)]
    exact congrFun (hA 4 (by decide)) 0
  have pre : ∀ {s' : aS}, am_To 43 4 (27, [(2, .int (nI 0)), (1, .int (nI 0)), (0, .ref 9)], [], am_H g I (am_u A 18 0 (nI 0)) J X) s' → am_To 43 4 (0, lv_args 0 [.ref 9], [], am_H g I A J X) s' := fun hto => by
    intro B C u c' Q hu hc kk
    refine am_pla 4 (by decide) rfl ?_
    refine am_nay 9 (by decide) rfl (by rw [hm]; exact nI_ge (a := 0) (by omega) (by omega)) ?_
    refine am_cav 9 (by decide) rfl (t_hasY (j := 0) hm (by omega) (by omega)) (by decide) hu hc ?_
    refine am_nay 9 (by decide) rfl (by decide) ?_
    refine am_nee 9 (by decide) rfl (nI_in (c := 0) (show 0 < 360 by omega) (by decide)) ?_
    exact hto B C u c' Q hu hc kk
  have fin : ∀ (A2 : Nat → Nat → Int32) (x : Int32) (B C u c' : Nat) (Q : aO → aH → Prop), u ≤ B → c' ≤ C → Q (.inl none) (am_H g I A2 J X) → am_Tri 43 4 B C u c' (4, [(2, .int (nI m)), (1, .int x), (0, .ref 9)], [], am_H g I A2 J X) Q := fun A2 x B C u c' Q hu hc hq => by
    refine am_yea 9 (by decide) rfl (by rw [hm]; exact nI_le (Nat.le_refl _) (by omega)) ?_
    exact am_end 9 (by decide) rfl trivial hu hc hq
  have head : ∀ A2 : Nat → Nat → Int32, A2 18 0 = nI 0 → ∃ j', j' < m ∧ A2 18 0 = nI j' ∧ S 0 j' = nI (e % 32) ∧ S 1 j' = nI (e / 32) ∧ S 3 j' = nI (b_len c) := fun A2 z => ⟨0, by omega, z, hT.1.1, hT.1.2.1 (Or.inl rfl), hT.1.2.2.1⟩
  by_cases hc0 : c = b_0
  · subst hc0
    have hf : S 4 0 = -1 := hT.2
    have hm1 : m = 1 := by simpa [b_sz] using hsz
    refine ⟨am_u A 18 0 (nI 0), fun q hq => am_uo hq, ⟨head _ am_uk, trivial⟩, am_met rfl rfl (pre (s' := (4, [(2, .int (nI m)), (1, .int (-1)), (0, .ref 9)], [], am_H g I (am_u A 18 0 (nI 0)) J X)) ?_ _ _ _ _ _ (by decide) (by decide) (fin _ _ _ _ _ _ _ (by decide) (by decide) ⟨rfl, rfl⟩))⟩
    intro B C u c' Q hu hc kk
    refine am_nee 9 (by decide) rfl (nI_in (c := 0) (show 0 < 360 by omega) (by decide)) ?_
    refine am_cav 9 (by decide) rfl (by rw [e4', hf]; exact t_hasN hm (by omega)) (by decide) hu hc ?_
    refine am_yea 9 (by decide) rfl (by decide) ?_
    refine am_cav 9 (by decide) rfl (t_behind hm (by omega) hA1 hb0 (by omega)) (by decide) hu hc ?_
    refine am_pla 3 (by decide) rfl ?_
    rw [nI_1, show 0 + 1 = m from by omega]
    exact kk
  · have hfx : ∃ j1, j1 < m ∧ S 4 0 = nI j1 := by
      cases c with
      | leaf u => exact absurd rfl hc0
      | branch e2 c2 s2 =>
        obtain ⟨j2, a2, b2, g1, g2, g3, g4, g5, g6, -⟩ := hT.2
        exact ⟨j2, by omega, g6⟩
    obtain ⟨j1, q1, q2⟩ := hfx
    have hht := (b_ht_lt (by omega) hT.2).1
    obtain ⟨A2, r1, r2, r3, r4, r5⟩ := k_visit (g := g) (J := J) (X := X) hm (by omega) c 1 m 0 1 0 (S 4 0) (S 5 0) (-1) (am_u A 18 0 (nI 0)) hT.2 hc0 (Nat.le_refl _) hb0 (by omega) (by omega) hA1
    rw [show 1 + b_sz c = m from by omega] at r5
    refine ⟨A2, fun q hq => (r2 q hq).trans (am_uo hq), ⟨head A2 ((r3 0 (by decide)).trans am_uk), r4⟩, am_met rfl rfl (pre (am_To.trans ?_ r5) _ _ _ _ _ (by decide) (by decide) (fin _ _ _ _ _ _ _ (by decide) (by decide) ⟨rfl, rfl⟩))⟩
    intro B C u c' Q hu hc kk
    refine am_nee 9 (by decide) rfl (nI_in (c := 0) (show 0 < 360 by omega) (by decide)) ?_
    refine am_cav 9 (by decide) rfl (by rw [e4', q2]; exact t_hasY hm (by omega) q1) (by decide) hu hc ?_
    refine am_nay 9 (by decide) rfl (by decide) ?_
    refine am_nee 9 (by decide) rfl (nI_in (c := 0) (show 0 < 360 by omega) (by decide)) ?_
    refine am_pla 4 (by decide) rfl ?_
    rw [nI_1, e4']
    exact kk
end NUM
