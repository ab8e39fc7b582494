/-! THE REFERENCE COUNTS -/
/-- a block tells its first statement's token -/
def b_bl : aB → Prop
  | .leaf _ => True
  | .branch e c s => (e % 32 = 9 → ∃ e1 c1 s1, c = .branch e1 c1 s1 ∧ e1 % 32 ≠ 9 ∧ e / 32 = e1 / 32) ∧ b_bl c ∧ b_bl s
theorem b_ok_bl {mk : Nat → Int32} {T : Nat} : ∀ {F : aB}, b_ok mk T F → b_bl F
  | .leaf _, _ => trivial
  | .branch e c s, h => ⟨fun z => by have := h.1.ge; omega, b_ok_bl h.2.2.1, b_ok_bl h.2.2.2⟩
theorem b_x_bl {mk : Nat → Int32} {T : Nat} {F : aB} (h : b_x mk T F) : b_bl F := by
  obtain ⟨e1, c1, rfl, h1, h2, h3, h4⟩ := h
  exact ⟨fun z => by have := h1.ge; omega, b_ok_bl h3, trivial⟩
/-- the first of a block's statements is no block -/
theorem b_sk_first {mk : Nat → Int32} {T e : Nat} {c : aB} (hc : c ≠ b_0) (he : e / 32 = d_bt c 0) (h : b_sk mk T c 1) : ∃ e1 c1 s1, c = .branch e1 c1 s1 ∧ e1 % 32 ≠ 9 ∧ e / 32 = e1 / 32 := by
  cases c with
  | leaf u => exact absurd rfl hc
  | branch e1 c1 s1 =>
    refine ⟨e1, c1, s1, rfl, ?_, he⟩
    unfold b_sk at h
    rcases h.2.2 with z | z | z | z | z | z | z | z <;> (have := z.1; omega)
theorem b_sk_bl {mk : Nat → Int32} {T : Nat} : ∀ {F : aB} {k : Nat}, b_sk mk T F k → b_bl F
  | .leaf _, _, _ => trivial
  | .branch e c s, 0, h => by unfold b_sk at h; exact h.elim
  | .branch e c s, 1, h => by
    unfold b_sk at h
    refine ⟨fun z => by rcases h.2.2 with q | q | q | q | q | q | q | q <;> (have := q.1; omega), ?_, b_sk_bl h.1⟩
    rcases h.2.2 with z | z | z | z | z | z | z | z
    · rw [z.2.2]; trivial
    · rw [z.2.2]; trivial
    · rcases z.2.2 with q | q
      · rw [q]; trivial
      · exact b_x_bl q
    · exact b_x_bl z.2
    · exact b_x_bl z.2.1
    · exact b_sk_bl z.2.2
    · exact b_sk_bl z.2.2
    · exact b_sk_bl z.2
  | .branch e c s, 2, h => by
    unfold b_sk at h
    exact ⟨fun z => by have := h.1.ge; omega, b_ok_bl h.2.2.1, b_sk_bl h.2.2.2.2⟩
  | .branch e c s, 3, h => by
    unfold b_sk at h
    rcases h with z | z
    · exact ⟨fun q => by omega, by rw [z.2.2.1]; trivial, b_sk_bl z.2.2.2⟩
    · exact ⟨fun _ => b_sk_first z.2.1 z.2.2.1 z.2.2.2.1, b_sk_bl z.2.2.2.1, by rw [z.2.2.2.2]; trivial⟩
  | .branch e c s, 4, h => by
    unfold b_sk at h
    exact ⟨fun z => by have := h.1.ge; omega, b_ok_bl h.2.2.1, b_sk_bl h.2.2.2.2⟩
  | .branch e c s, 5, h => by
    unfold b_sk at h
    refine ⟨fun _ => b_sk_first h.2.1 h.2.2.1 h.2.2.2.1, b_sk_bl h.2.2.2.1, ?_⟩
    rcases h.2.2.2.2 with z | z
    · rw [z]; trivial
    · exact b_sk_bl z
  | .branch e c s, 6, h => by
    unfold b_sk at h
    exact ⟨fun _ => b_sk_first h.2.1 h.2.2.1 h.2.2.2.1, b_sk_bl h.2.2.2.1, by rw [h.2.2.2.2]; trivial⟩
  | .branch e c s, 7, h => by
    unfold b_sk at h
    obtain ⟨rfl, z⟩ := h
    rcases z with z | z
    · exact ⟨fun q => by omega, b_sk_bl z.2.2.2, trivial⟩
    · exact ⟨fun _ => b_sk_first z.2.1 z.2.2.1 z.2.2.2, b_sk_bl z.2.2.2, trivial⟩
  | .branch e c s, _ + 8, h => by unfold b_sk at h; exact h.elim
/-- the nodes in their order, by their places -/
def r_pos (S : aN) (o : Nat → Int32) : aB → Nat → Int32 → Prop
  | .leaf _, _, _ => True
  | .branch _ c s, k, x => o k = x ∧ r_pos S o c (k + 1) (S 4 x.toNatClampNeg) ∧ r_pos S o s (k + 1 + b_sz c) (S 6 x.toNatClampNeg)
theorem r_pos.ext {S S' : aN} {o o' : Nat → Int32} (h4 : S' 4 = S 4) (h6 : S' 6 = S 6) : ∀ {F : aB} {k : Nat} {x : Int32}, (∀ q, k ≤ q → q < k + b_sz F → o' q = o q) → r_pos S o F k x → r_pos S' o' F k x
  | .leaf _, _, _, _, _ => trivial
  | .branch e c s, k, x, h, hr => by
    simp only [b_sz] at h
    obtain ⟨h1, h2, h3⟩ := hr
    refine ⟨(h k (Nat.le_refl _) (by omega)).trans h1, ?_, ?_⟩
    · rw [h4]
      exact r_pos.ext h4 h6 (fun q q1 q2 => h q (by omega) (by omega)) h2
    · rw [h6]
      exact r_pos.ext h4 h6 (fun q q1 q2 => h q (by omega) (by omega)) h3
theorem r_pos.or {S : aN} {o : Nat → Int32} {m : Nat} (hm : m ≤ 400) : ∀ {F : aB} {lo hi i k : Nat} {x l xe : Int32}, hi ≤ m → n_F S true F lo hi x i l xe → r_pos S o F k x → r_or S o m k (b_pre F)
  | .leaf _, _, _, _, _, _, _, _, _, _, _ => trivial
  | .branch e c s, lo, hi, i, k, x, l, xe, hh, hn, hr => by
    obtain ⟨j, a, b, h1, h2, h3, h4, h5, h6, h7, h8, h9, h10, h11⟩ := hn
    obtain ⟨r1, r2, r3⟩ := hr
    subst h6
    rw [nI_clamp (by omega)] at r2 r3
    refine ⟨⟨j, by omega, r1, h9.1, h9.2.1 (Or.inl rfl), h9.2.2.1⟩, r_or.app (r_pos.or hm (by omega) h10 r2) ?_⟩
    rw [b_pre_len]
    exact r_pos.or hm hh h11 r3
section MCO
variable {g : List aK} {X : Nat × (Nat → Int32)} {I A : Nat → Nat → Int32} {J : Nat → Nat → Int64} {S : aN} {m : Nat}
/-- only blocks' tokens differ -/
def r_cu (S Sc : aN) : Prop := ∀ f k, (f = 1 ∧ S 0 k = 9) ∨ Sc f k = S f k
theorem y_climb (hm : m ≤ 400) : ∀ {d i : Nat} {y : Int32}, r_bh S m d i y → A 44 = S 6 → A 45 = S 7 → am_To 174 1 (96, [(1, .int (nI i)), (0, .ref 29)], [], am_H g I A J X) (7, [(1, .int y), (0, .ref 29)], [], am_H g I A J X) := by
  intro d
  induction d with
  | zero =>
    intro i y h e6 e7 B C u c Q hu hc kk
    obtain ⟨hi, hb⟩ := h
    have ei : (nI i).toNatClampNeg = i := nI_clamp (by omega)
    refine am_nay 9 (by decide) rfl (nI_pos (by omega)) ?_
    refine am_nee 9 (by decide) rfl (nI_in (show i < 400 by omega) (by decide)) ?_
    rcases hb with ⟨j, j1, j2, j3⟩ | ⟨j1, j2, j3⟩
    · subst j3
      refine am_yea 9 (by decide) rfl (by rw [ei, e6, j2]; exact nI_le (a := 0) (by omega) (by omega)) ?_
      refine am_yea 9 (by decide) rfl (nI_le (a := 0) (by omega) (by omega)) ?_
      refine am_nee 9 (by decide) rfl (nI_in (show i < 400 by omega) (by decide)) ?_
      refine am_pla 2 (by decide) rfl ?_
      rw [ei, e6, j2]
      exact kk
    · subst j3
      refine am_nay 9 (by decide) rfl (by rw [ei, e6, j1]; decide) ?_
      refine am_nee 9 (by decide) rfl (nI_in (show i < 400 by omega) (by decide)) ?_
      refine am_pla 2 (by decide) rfl ?_
      rw [ei, e7, j2]
      refine am_yea 9 (by decide) rfl (by decide) ?_
      refine am_nay 9 (by decide) rfl (by decide) ?_
      refine am_pla 4 (by decide) rfl ?_
      exact kk
  | succ d ih =>
    intro i y h e6 e7 B C u c Q hu hc kk
    obtain ⟨hi, h6, i', h7, hb⟩ := h
    have ei : (nI i).toNatClampNeg = i := nI_clamp (by omega)
    refine am_nay 9 (by decide) rfl (nI_pos (by omega)) ?_
    refine am_nee 9 (by decide) rfl (nI_in (show i < 400 by omega) (by decide)) ?_
    refine am_nay 9 (by decide) rfl (by rw [ei, e6, h6]; decide) ?_
    refine am_nee 9 (by decide) rfl (nI_in (show i < 400 by omega) (by decide)) ?_
    refine am_pla 2 (by decide) rfl ?_
    rw [ei, e7, h7]
    exact ih hb e6 e7 B C u c Q hu hc kk
/-- one node is numbered, and a block's token told -/
theorem y_nd {k j e t : Nat} {c : aB} (h30 : I 29 30 = nI k) (hk : k < 400) (hj : j < 400) (hl : b_len c < 400) (e0 : A 39 j = nI (e % 32)) (e3 : A 41 j = nI (b_len c)) (hb : e % 32 = 9 → (0 < b_len c ∧ ∃ j1, j1 < 400 ∧ A 42 j = nI j1 ∧ A 40 j1 = nI t) ∨ (b_len c = 0 ∧ I 29 11 - 1 = nI t)) : ∃ A1, (∀ q, q ≠ 40 → q ≠ 47 → A1 q = A q) ∧ A1 47 k = nI j ∧ (∀ q, q ≠ k → A1 47 q = A 47 q) ∧ (∀ q, q ≠ j → A1 40 q = A 40 q) ∧ (e % 32 = 9 → A1 40 j = nI t) ∧ (e % 32 ≠ 9 → A1 40 j = A 40 j) ∧ am_To 174 1 (7, [(1, .int (nI j)), (0, .ref 29)], [], am_H g I A J X) (77, [(1, .int (nI j)), (0, .ref 29)], [], am_H g (am_u I 29 30 (nI (k + 1))) A1 J X) := by
  have ej : (nI j).toNatClampNeg = j := nI_clamp (by omega)
  have hinj : ¬ (nI j < 0 ∨ 400 ≤ (nI j).toNatClampNeg) := nI_in hj (by decide)
  have pre : ∀ {s' : aS}, am_To 174 1 (39, [(1, .int (nI j)), (0, .ref 29)], [.int 9, .int (nI (e % 32))], am_H g (am_u I 29 30 (nI (k + 1))) (am_u A 47 k (nI j)) J X) s' → am_To 174 1 (7, [(1, .int (nI j)), (0, .ref 29)], [], am_H g I A J X) s' := fun hto => by
    intro B C u c' Q hu hc kk
    refine am_nay 9 (by decide) rfl (nI_pos (by omega)) ?_
    refine am_nee 9 (by decide) rfl (by rw [h30]; exact nI_in hk (by decide)) ?_
    refine am_nee 12 (by decide) rfl hinj ?_
    refine am_pla 1 (by decide) rfl ?_
    rw [h30, nI_clamp (by omega), nI_1, ej]
    rw [show (am_u A 47 k (nI j)) 39 j = nI (e % 32) from by rw [am_un (by simp)]; exact e0]
    exact hto B C u c' Q hu hc kk
  by_cases c9 : e % 32 = 9
  · refine ⟨am_u (am_u A 47 k (nI j)) 40 j (nI t), fun q q1 q2 => by rw [am_uo q1, am_uo q2], by rw [am_un (by simp)]; exact am_uk, fun q hq => by rw [am_un (by simp), am_un (fun z => hq z.2)], fun q hq => by rw [am_un (fun z => hq z.2), am_un (by simp)], fun _ => am_uk, fun z => absurd c9 z, pre ?_⟩
    intro B C u c' Q hu hc kk
    refine am_nay 9 (by decide) rfl (by rw [c9]; decide) ?_
    refine am_nee 9 (by decide) rfl hinj ?_
    rcases hb c9 with ⟨b1, j1, b2, b3, b4⟩ | ⟨b1, b2⟩
    · refine am_nay 9 (by decide) rfl (by rw [ej, am_un (by simp), e3]; exact nI_ge (a := 0) b1 (by omega)) ?_
      refine am_nee 9 (by decide) rfl hinj ?_
      have e42 : (am_u A 47 k (nI j)) 42 (nI j).toNatClampNeg = nI j1 := by rw [ej, am_un (by simp)]; exact b3
      rw [e42]
      refine am_nee 9 (by decide) rfl (nI_in b2 (by decide)) ?_
      refine am_nee 9 (by decide) rfl hinj ?_
      rw [ej, nI_clamp (by omega), show (am_u A 47 k (nI j)) 40 j1 = nI t from by rw [am_un (by simp)]; exact b4]
      exact kk
    · refine am_yea 9 (by decide) rfl (by rw [ej, am_un (by simp), e3, b1]; decide) ?_
      refine am_nee 9 (by decide) rfl hinj ?_
      rw [ej, show (am_u I 29 30 (nI (k + 1))) 29 11 = I 29 11 from am_un (by simp), b2]
      exact kk
  · refine ⟨am_u A 47 k (nI j), fun q q1 q2 => am_uo q2, am_uk, fun q hq => am_un (fun z => hq z.2), fun q hq => am_un (by simp), fun z => absurd z c9, fun _ => am_un (by simp), pre ?_⟩
    intro B C u c' Q hu hc kk
    exact am_yea 9 (by decide) rfl (by intro z; have := nI_inj (b := 9) (by omega) (by decide) z; omega) kk
theorem r_cu.px {Sc : aN} (h : r_cu S Sc) {f : Nat} (hf : f ≠ 1) : Sc f = S f := by
  funext k
  rcases h f k with z | z
  · exact absurd z.1 hf
  · exact z
/-- the node itself was told -/
theorem r_cu.nd {Sc : aN} (h : r_cu S Sc) {j e t : Nat} {c : aB} (hn : n_N S false j e c) (ht : e % 32 = 9 → Sc 1 j = nI (e / 32)) : n_N Sc true j e c := by
  refine ⟨by rw [h.px (by decide)]; exact hn.1, fun _ => ?_, by rw [h.px (by decide)]; exact hn.2.2.1, fun z => by rw [h.px (by decide)]; exact hn.2.2.2 z⟩
  by_cases c9 : e % 32 = 9
  · exact ht c9
  · rcases h 1 j with z | z
    · have z2 := z.2
      rw [hn.1] at z2
      exact absurd (nI_inj (b := 9) (by omega) (by decide) z2) c9
    · rw [z]
      exact hn.2.1 (Or.inr c9)
theorem y_visit (hm : m ≤ 300) : ∀ (F : aB) (lo hi i k d : Nat) (x l y : Int32) (I A : Nat → Nat → Int32), n_F S false F lo hi x i l (-1) → F ≠ b_0 → b_bl F → hi ≤ m → r_bh S m d i y → k + b_sz F ≤ 400 → I 29 30 = nI k → r_cu S (m_st A) → ∃ A', r_cu S (m_st A') ∧ (∀ q, q ≠ 40 → q ≠ 47 → A' q = A q) ∧ (∀ q, q < k → A' 47 q = A 47 q) ∧ (∀ q, ¬ (lo ≤ q ∧ q < hi ∧ q ≠ i) → A' 40 q = A 40 q) ∧ r_pos S (A' 47) F k x ∧ n_F (m_st A') true F lo hi x i l (-1) ∧ am_To 174 1 (7, [(1, .int x), (0, .ref 29)], [], am_H g I A J X) (7, [(1, .int y), (0, .ref 29)], [], am_H g (am_u I 29 30 (nI (k + b_sz F))) A' J X)
  | .leaf _, _, _, _, _, _, _, _, _, _, _, _, hF, _, _, _, _, _, _ => absurd rfl hF
  | .branch e c s, lo, hi, i, k, d, x, l, y, I, A, hn, _, hbl, hhi, hb, hk, h30, hA => by
    obtain ⟨j, a, b, h1, h2, h3, h4, h5, h6, h7, h8, h9, h10, h11⟩ := hn
    obtain ⟨bl1, bl2, bl3⟩ := hbl
    subst h6
    simp only [b_sz] at hk
    have ej : (nI j).toNatClampNeg = j := nI_clamp (by omega)
    have hlen := b_len_lt (by omega) h10
    have hbj : ∃ d' y', r_bh S m d' j y' ∧ (s = b_0 → y' = y) ∧ (s ≠ b_0 → y' = S 6 j) := by
      cases s with
      | leaf u =>
        have : S 6 j = -1 := h11
        exact ⟨d + 1, y, ⟨by omega, this, i, h8, hb⟩, fun _ => rfl, fun z => absurd rfl z⟩
      | branch e2 c2 s2 =>
        obtain ⟨j2, a2, b2, g1, g2, g3, g4, g5, g6, -⟩ := h11
        exact ⟨0, nI j2, ⟨by omega, Or.inl ⟨j2, by omega, g6, rfl⟩⟩, fun z => (by cases z), fun _ => g6.symm⟩
    obtain ⟨d', y', hb', hy1, hy2⟩ := hbj
    have e39 : A 39 = S 0 := hA.px (f := 0) (by decide)
    have e41 : A 41 = S 3 := hA.px (f := 3) (by decide)
    have e42 : A 42 = S 4 := hA.px (f := 4) (by decide)
    have hnine : e % 32 = 9 → (0 < b_len c ∧ ∃ j1, j1 < 400 ∧ A 42 j = nI j1 ∧ A 40 j1 = nI (e / 32)) := fun c9 => by
      obtain ⟨e1, c1, s1, rfl, q1, q2⟩ := bl1 c9
      refine ⟨by simp [b_len], ?_⟩
      obtain ⟨j1, a2, b2, g1, g2, g3, g4, g5, g6, g7, g8, g9, -⟩ := h10
      refine ⟨j1, by omega, by rw [e42]; exact g6, ?_⟩
      rcases hA 1 j1 with z | z
      · have z2 := z.2
        rw [g9.1] at z2
        exact absurd (nI_inj (b := 9) (by omega) (by decide) z2) q1
      · exact z.trans ((g9.2.1 (Or.inr q1)).trans (by rw [q2]))
    obtain ⟨A1, n1, n2, n3, n4, n5, n6, n7⟩ := y_nd (g := g) (J := J) (X := X) (I := I) (A := A) (k := k) (j := j) (e := e) (t := e / 32) (c := c) h30 (by omega) (by omega) (by omega) (by rw [e39]; exact h9.1) (by rw [e41]; exact h9.2.2.1) (fun z => Or.inl (hnine z))
    have hA1 : r_cu S (m_st A1) := fun f q => by
      by_cases hf : f = 1
      · subst hf
        by_cases hq : q = j
        · subst hq
          by_cases c9 : e % 32 = 9
          · exact Or.inl ⟨rfl, by rw [h9.1, c9]; rfl⟩
          · rcases hA 1 q with z | z
            · exact Or.inl z
            · exact Or.inr ((n6 c9).trans z)
        · rcases hA 1 q with z | z
          · exact Or.inl z
          · exact Or.inr ((n4 q hq).trans z)
      · refine Or.inr ?_
        have e1 := congrFun (hA.px hf) q
        refine Eq.trans ?_ e1
        refine congrFun (n1 (m_px f) (fun z => hf (m_px_inj (f' := 1) z)) ?_) q
        unfold m_px
        repeat' split
        all_goals omega
    have e41' : A1 41 = S 3 := hA1.px (f := 3) (by decide)
    have e42' : A1 42 = S 4 := hA1.px (f := 4) (by decide)
    have e44' : A1 44 = S 6 := hA1.px (f := 6) (by decide)
    have e45' : A1 45 = S 7 := hA1.px (f := 7) (by decide)
    have node : ∃ A2, r_cu S (m_st A2) ∧ (∀ q, q ≠ 40 → q ≠ 47 → A2 q = A q) ∧ (∀ q, q < k → A2 47 q = A 47 q) ∧ (∀ q, ¬ (a ≤ q ∧ q < b) → A2 40 q = A 40 q) ∧ A2 47 k = nI j ∧ r_pos S (A2 47) c (k + 1) (S 4 j) ∧ n_N (m_st A2) true j e c ∧ n_F (m_st A2) true c a b (S 4 j) j (S 5 j) (-1) ∧ am_To 174 1 (7, [(1, .int (nI j)), (0, .ref 29)], [], am_H g I A J X) (7, [(1, .int y'), (0, .ref 29)], [], am_H g (am_u I 29 30 (nI (k + 1 + b_sz c))) A2 J X) := by
      by_cases hc0 : c = b_0
      · subst hc0
        have hf : S 4 j = -1 := h10
        refine ⟨A1, hA1, n1, fun q hq => n3 q (by omega), fun q hq => n4 q (fun z => hq (by omega)), n2, trivial, hA1.nd (t := 0) h9 n5, hf, n7.trans ?_⟩
        refine am_To.trans ?_ (y_climb (by omega) hb' e44' e45')
        intro B C u c' Q hu hc kk
        refine am_nee 9 (by decide) rfl (nI_in (show j < 400 by omega) (by decide)) ?_
        refine am_yea 9 (by decide) rfl (by rw [ej, e41', h9.2.2.1]; decide) ?_
        exact kk
      · have hpos : 0 < b_len c := Nat.pos_of_ne_zero (fun z => hc0 (b_len0 z))
        obtain ⟨A2, r1, r2, r3, r4, r5, r6, r7⟩ := y_visit hm c a b j (k + 1) d' (S 4 j) (S 5 j) y' (am_u I 29 30 (nI (k + 1))) A1 h10 hc0 bl2 (by omega) hb' (by omega) am_uk hA1
        rw [am_uu] at r7
        refine ⟨A2, r1, fun q q1 q2 => (r2 q q1 q2).trans (n1 q q1 q2), fun q hq => (r3 q (by omega)).trans (n3 q (by omega)), fun q hq => (r4 q (fun z => hq ⟨z.1, z.2.1⟩)).trans (n4 q (fun z => hq (by omega))), (r3 k (by omega)).trans n2, r5, r1.nd (t := 0) h9 (fun z => (r4 j (fun w => w.2.2 rfl)).trans (n5 z)), r6, n7.trans (am_To.trans ?_ r7)⟩
        intro B C u c' Q hu hc kk
        refine am_nee 9 (by decide) rfl (nI_in (show j < 400 by omega) (by decide)) ?_
        refine am_nay 9 (by decide) rfl (by rw [ej, e41', h9.2.2.1]; exact nI_ge (a := 0) hpos (by omega)) ?_
        refine am_nee 9 (by decide) rfl (nI_in (show j < 400 by omega) (by decide)) ?_
        refine am_pla 2 (by decide) rfl ?_
        rw [ej, e42']
        exact kk
    obtain ⟨A2, r1, r2, r3, r4, r5, r6, r7, r8, r9⟩ := node
    have px : ∀ {A' : Nat → Nat → Int32}, r_cu S (m_st A') → ∀ f, f ≠ 1 → m_st A' f j = S f j := fun hA' f hf => congrFun (hA'.px hf) j
    by_cases hs : s = b_0
    · subst hs
      rw [hy1 rfl] at r9
      refine ⟨A2, r1, r2, r3, fun q hq => r4 q (fun z => hq ⟨by omega, by omega, fun w => h5 (by omega)⟩), ⟨r5, by rw [ej]; exact r6, trivial⟩, ⟨j, a, b, h1, h2, h3, h4, h5, rfl, h7, (px r1 7 (by decide)).trans h8, r7, ?_, ?_⟩, ?_⟩
      · rw [px r1 4 (by decide), px r1 5 (by decide)]
        exact r8
      · exact (px r1 6 (by decide)).trans h11
      · simp only [b_sz]
        rw [show k + (b_sz c + 1 + 0) = k + 1 + b_sz c from by omega]
        exact r9
    · rw [hy2 hs] at r9
      obtain ⟨A3, t1, t2, t3, t4, t5, t6, t7⟩ := y_visit hm s b hi i (k + 1 + b_sz c) d (S 6 j) l y (am_u I 29 30 (nI (k + 1 + b_sz c))) A2 h11 hs bl3 hhi hb (by omega) am_uk r1
      rw [am_uu] at t7
      have keep : ∀ f q, a ≤ q → q < b → m_st A3 f q = m_st A2 f q := fun f q q1 q2 => by
        by_cases hf : f = 1
        · subst hf
          exact t4 q (fun z => by omega)
        · exact (congrFun (t1.px hf) q).trans (congrFun (r1.px hf) q).symm
      refine ⟨A3, t1, fun q q1 q2 => (t2 q q1 q2).trans (r2 q q1 q2), fun q hq => (t3 q (by omega)).trans (r3 q hq), fun q hq => (t4 q (fun z => hq ⟨by omega, z.2.1, z.2.2⟩)).trans (r4 q (fun z => hq ⟨by omega, by omega, fun w => h5 (by omega)⟩)), ⟨(t3 k (by omega)).trans r5, ?_, ?_⟩, ⟨j, a, b, h1, h2, h3, h4, h5, rfl, h7, (px t1 7 (by decide)).trans h8, ?_, ?_, ?_⟩, ?_⟩
      · rw [ej]
        exact r_pos.ext rfl rfl (fun q q1 q2 => t3 q (by omega)) r6
      · rw [ej]
        exact t5
      · unfold n_N at *
        simpa only [keep _ j h2 h3] using r7
      · rw [px t1 4 (by decide), px t1 5 (by decide)]
        exact n_F.frame (fun f q q1 q2 _ => keep f q q1 q2) r8
      · rw [px t1 6 (by decide)]
        exact t6
      · simp only [b_sz]
        rw [show k + (b_sz c + 1 + b_sz s) = k + 1 + b_sz c + b_sz s from by omega]
        exact r9.trans t7
theorem y_count {mk : Nat → Int32} {T : Nat} {c : aB} (hm : m ≤ 300) (hmz : m = 1 + b_sz c) (hT : n_T (m_st A) false 1 m 0 9 c) (h6 : m_st A 6 0 = -1) (h7 : m_st A 7 0 = -1) (hsk : b_sk mk T c 1) (h0 : c = b_0 → I 29 11 = 1) : ∃ A', (∀ q, q ≠ 40 → q ≠ 47 → A' q = A q) ∧ n_T (m_st A') true 1 m 0 (9 + 32 * d_bt c 0) c ∧ r_or (m_st A') (A' 47) m 0 ((9 + 32 * d_bt c 0, b_len c) :: b_pre c) ∧ am_Con 1 174 [.ref 29] (am_H g I A J X) (.inl none) (am_H g (am_u I 29 30 (nI m)) A' J X) 0 0 := by
  have hbl := b_sk_bl hsk
  have hlen := b_len_lt (by omega) hT.2
  obtain ⟨hN, hF⟩ := hT
  have em : (9 + 32 * d_bt c 0) % 32 = 9 := by omega
  have ed : (9 + 32 * d_bt c 0) / 32 = d_bt c 0 := by omega
  have hcu : r_cu (m_st A) (m_st A) := fun f k => Or.inr rfl
  have hN' : n_N (m_st A) false 0 (9 + 32 * d_bt c 0) c := ⟨by rw [em]; exact hN.1, fun z => by rcases z with z | z <;> simp at z, hN.2.2.1, fun z => by omega⟩
  have hnine : (9 + 32 * d_bt c 0) % 32 = 9 → (0 < b_len c ∧ ∃ j1, j1 < 400 ∧ A 42 0 = nI j1 ∧ A 40 j1 = nI (d_bt c 0)) ∨ (b_len c = 0 ∧ (am_u I 29 30 0) 29 11 - 1 = nI (d_bt c 0)) := fun _ => by
    by_cases hc0 : c = b_0
    · right
      subst hc0
      refine ⟨rfl, ?_⟩
      rw [am_un (by simp), h0 rfl]
      rfl
    · left
      refine ⟨Nat.pos_of_ne_zero (fun z => hc0 (b_len0 z)), ?_⟩
      obtain ⟨e1, c1, s1, rfl, q1, q2⟩ := b_sk_first (e := 9 + 32 * d_bt c 0) hc0 ed hsk
      rw [ed] at q2
      obtain ⟨j1, a2, b2, g1, g2, g3, g4, g5, g6, g7, g8, g9, -⟩ := hF
      refine ⟨j1, by omega, g6, ?_⟩
      exact (g9.2.1 (Or.inr q1)).trans (by rw [q2])
  obtain ⟨A1, n1, n2, n3, n4, n5, n6, n7⟩ := y_nd (g := g) (J := J) (X := X) (I := am_u I 29 30 0) (A := A) (k := 0) (j := 0) (e := 9 + 32 * d_bt c 0) (t := d_bt c 0) (c := c) am_uk (by decide) (by decide) (by omega) (by rw [em]; exact hN.1) hN.2.2.1 hnine
  rw [am_uu] at n7
  have hA1 : r_cu (m_st A) (m_st A1) := fun f q => by
    by_cases hf : f = 1
    · subst hf
      by_cases hq : q = 0
      · subst hq
        exact Or.inl ⟨rfl, hN.1⟩
      · exact Or.inr (n4 q hq)
    · refine Or.inr ?_
      refine congrFun (n1 (m_px f) (fun z => hf (m_px_inj (f' := 1) z)) ?_) q
      unfold m_px
      repeat' split
      all_goals omega
  have e41' : A1 41 = m_st A 3 := hA1.px (f := 3) (by decide)
  have e42' : A1 42 = m_st A 4 := hA1.px (f := 4) (by decide)
  have e44' : A1 44 = m_st A 6 := hA1.px (f := 6) (by decide)
  have e45' : A1 45 = m_st A 7 := hA1.px (f := 7) (by decide)
  have hb0 : r_bh (m_st A) m 0 0 (-1) := ⟨by omega, Or.inr ⟨h6, h7, rfl⟩⟩
  have pre : ∀ {s' : aS}, am_To 174 1 (7, [(1, .int (nI 0)), (0, .ref 29)], [], am_H g (am_u I 29 30 0) A J X) s' → am_To 174 1 (0, lv_args 0 [.ref 29], [], am_H g I A J X) s' := fun hto => by
    intro B C u c' Q hu hc kk
    refine am_pla 5 (by decide) rfl ?_
    exact hto B C u c' Q hu hc kk
  have fin : ∀ (I2 A2 : Nat → Nat → Int32) (B C u c' : Nat) (Q : aO → aH → Prop), u ≤ B → c' ≤ C → Q (.inl none) (am_H g I2 A2 J X) → am_Tri 174 1 B C u c' (7, [(1, .int (-1)), (0, .ref 29)], [], am_H g I2 A2 J X) Q := fun I2 A2 B C u c' Q hu hc hq => by
    refine am_yea 9 (by decide) rfl (by decide) ?_
    exact am_end 9 (by decide) rfl trivial hu hc hq
  have head : ∀ A2 : Nat → Nat → Int32, r_cu (m_st A) (m_st A2) → m_st A2 1 0 = nI (d_bt c 0) → A2 47 0 = nI 0 → n_N (m_st A2) true 0 (9 + 32 * d_bt c 0) c ∧ ∃ j', j' < m ∧ A2 47 0 = nI j' ∧ m_st A2 0 j' = nI ((9 + 32 * d_bt c 0) % 32) ∧ m_st A2 1 j' = nI ((9 + 32 * d_bt c 0) / 32) ∧ m_st A2 3 j' = nI (b_len c) := fun A2 z z2 z3 => by
    have := z.nd (t := 0) hN' (fun _ => by rw [ed]; exact z2)
    exact ⟨this, 0, by omega, z3, this.1, this.2.1 (Or.inl rfl), this.2.2.1⟩
  by_cases hc0 : c = b_0
  · subst hc0
    have hf : m_st A 4 0 = -1 := hF
    have hm1 : m = 1 := by simpa [b_sz] using hmz
    obtain ⟨q1, q2⟩ := head A1 hA1 (n5 em) n2
    refine ⟨A1, n1, ⟨q1, (congrFun (hA1.px (f := 4) (by decide)) 0).trans hf⟩, ⟨q2, trivial⟩, am_met rfl rfl (pre (n7.trans (am_To.trans ?_ (y_climb (g := g) (I := am_u I 29 30 (nI (0 + 1))) (J := J) (X := X) (by omega) hb0 e44' e45'))) _ _ _ _ _ (by decide) (by decide) ?_)⟩
    · intro B C u c' Q hu hc kk
      refine am_nee 9 (by decide) rfl (nI_in (show 0 < 400 by omega) (by decide)) ?_
      refine am_yea 9 (by decide) rfl (by rw [nI_clamp (by decide), e41', hN.2.2.1]; decide) ?_
      exact kk
    · subst hm1
      exact fin _ _ _ _ _ _ _ (by decide) (by decide) ⟨rfl, rfl⟩
  · have hpos : 0 < b_len c := Nat.pos_of_ne_zero (fun z => hc0 (b_len0 z))
    obtain ⟨A2, r1, r2, r3, r4, r5, r6, r7⟩ := y_visit (g := g) (J := J) (X := X) hm c 1 m 0 1 0 (m_st A 4 0) (m_st A 5 0) (-1) (am_u I 29 30 (nI (0 + 1))) A1 hF hc0 hbl (Nat.le_refl _) hb0 (by omega) am_uk hA1
    rw [am_uu] at r7
    rw [show 1 + b_sz c = m from hmz.symm] at r7
    obtain ⟨q1, q2⟩ := head A2 r1 ((r4 0 (fun z => by omega)).trans (n5 em)) ((r3 0 (by decide)).trans n2)
    have p4 : m_st A2 4 0 = m_st A 4 0 := congrFun (r1.px (f := 4) (by decide)) 0
    have p5 : m_st A2 5 0 = m_st A 5 0 := congrFun (r1.px (f := 5) (by decide)) 0
    refine ⟨A2, fun q w1 w2 => (r2 q w1 w2).trans (n1 q w1 w2), ⟨q1, by rw [p4, p5]; exact r6⟩, ⟨q2, r_pos.or (by omega) (Nat.le_refl _) r6 (r_pos.ext (r1.px (by decide)) (r1.px (by decide)) (fun _ _ _ => rfl) r5)⟩, am_met rfl rfl (pre (n7.trans (am_To.trans ?_ r7)) _ _ _ _ _ (by decide) (by decide) (fin _ _ _ _ _ _ _ (by decide) (by decide) ⟨rfl, rfl⟩))⟩
    intro B C u c' Q hu hc kk
    refine am_nee 9 (by decide) rfl (nI_in (show 0 < 400 by omega) (by decide)) ?_
    refine am_nay 9 (by decide) rfl (by rw [nI_clamp (by decide), e41', hN.2.2.1]; exact nI_ge (a := 0) hpos (by omega)) ?_
    refine am_nee 9 (by decide) rfl (nI_in (show 0 < 400 by omega) (by decide)) ?_
    refine am_pla 2 (by decide) rfl ?_
    rw [nI_clamp (by decide), e42']
    exact kk
end MCO
