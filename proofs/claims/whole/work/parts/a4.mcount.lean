/-! THE REFERENCE COUNTS -/
/-- a block tells its first statement's token -/
def b_bl : aB → Prop
  | .leaf _ => True
  | .branch e c s => (e % 32 = 9 → ∃ e1 c1 s1, c = .branch e1 c1 s1 ∧ e1 % 32 ≠ 9 ∧ e / 32 = e1 / 32) ∧ b_bl c ∧ b_bl s
theorem b_ok_bl {mk : Nat → Int32} {T : Nat} : ∀ {F : aB}, b_ok mk T F → b_bl F
  | .leaf _, _ => trivial
  | .branch e c s, h => ⟨fun z => by have := h.1.ge; omega, b_ok_bl h.2.2.1, b_ok_bl h.2.2.2⟩
theorem b_x_bl {mk : Nat → Int32} {T : Nat} {F : aB} (h : b_x mk T F) : b_bl F := by
  obtain ⟨e1, c1, rfl, h1, h2, h3, h4⟩ := h
  exact ⟨fun z => by have := h1.ge; omega, b_ok_bl h3, trivial⟩
/-- the first of a block's statements is no block -/
theorem b_sk_first {mk : Nat → Int32} {T e : Nat} {c : aB} (hc : c ≠ b_0) (he : e / 32 = d_bt c 0) (h : b_sk mk T c 1) : ∃ e1 c1 s1, c = .branch e1 c1 s1 ∧ e1 % 32 ≠ 9 ∧ e / 32 = e1 / 32 := by
  cases c with
  | leaf u => exact absurd rfl hc
  | branch e1 c1 s1 =>
    refine ⟨e1, c1, s1, rfl, ?_, he⟩
    unfold b_sk at h
    rcases h.2.2 with z | z | z | z | z | z | z | z <;> (have := z.1; omega)
theorem b_sk_bl {mk : Nat → Int32} {T : Nat} : ∀ {F : aB} {k : Nat}, b_sk mk T F k → b_bl F
  | .leaf _, _, _ => trivial
  | .branch e c s, 0, h => by unfold b_sk at h; exact h.elim
  | .branch e c s, 1, h => by
    unfold b_sk at h
    refine ⟨fun z => by rcases h.2.2 with q | q | q | q | q | q | q | q <;> (have := q.1; omega), ?_, b_sk_bl h.1⟩
    rcases h.2.2 with z | z | z | z | z | z | z | z
    · rw [z.2.2]; trivial
    · rw [z.2.2]; trivial
    · rcases z.2.2 with q | q
      · rw [q]; trivial
      · exact b_x_bl q
    · exact b_x_bl z.2
    · exact b_x_bl z.2.1
    · exact b_sk_bl z.2.2
    · exact b_sk_bl z.2.2
    · exact b_sk_bl z.2
  | .branch e c s, 2, h => by
    unfold b_sk at h
    exact ⟨fun z => by have := h.1.ge; omega, b_ok_bl h.2.2.1, b_sk_bl h.2.2.2.2⟩
  | .branch e c s, 3, h => by
    unfold b_sk at h
    rcases h with z | z
    · exact ⟨fun q => by omega, by rw [z.2.2.1]; trivial, b_sk_bl z.2.2.2⟩
    · exact ⟨fun _ => b_sk_first z.2.1 z.2.2.1 z.2.2.2.1, b_sk_bl z.2.2.2.1, by rw [z.2.2.2.2]; trivial⟩
  | .branch e c s, 4, h => by
    unfold b_sk at h
    exact ⟨fun z => by have := h.1.ge; omega, b_ok_bl h.2.2.1, b_sk_bl h.2.2.2.2⟩
  | .branch e c s, 5, h => by
    unfold b_sk at h
    refine ⟨fun _ => b_sk_first h.2.1 h.2.2.1 h.2.2.2.1, b_sk_bl h.2.2.2.1, ?_⟩
    rcases h.2.2.2.2 with z | z
    · rw [z]; trivial
    · exact b_sk_bl z
  | .branch e c s, 6, h => by
    unfold b_sk at h
    exact ⟨fun _ => b_sk_first h.2.1 h.2.2.1 h.2.2.2.1, b_sk_bl h.2.2.2.1, by rw [h.2.2.2.2]; trivial⟩
  | .branch e c s, 7, h => by
    unfold b_sk at h
    obtain ⟨rfl, z⟩ := h
    rcases z with z | z
    · exact ⟨fun q => by omega, b_sk_bl z.2.2.2, trivial⟩
    · exact ⟨fun _ => b_sk_first z.2.1 z.2.2.1 z.2.2.2, b_sk_bl z.2.2.2, trivial⟩
  | .branch e c s, _ + 8, h => by unfold b_sk at h; exact h.elim
/-- the nodes in their order, by their places -/
def r_pos (S : aN) (o : Nat → Int32) : aB → Nat → Int32 → Prop
  | .leaf _, _, _ => True
  | .branch _ c s, k, x => o k = x ∧ r_pos S o c (k + 1) (S 4 x.toNatClampNeg) ∧ r_pos S o s (k + 1 + b_sz c) (S 6 x.toNatClampNeg)
theorem r_pos.ext {S S' : aN} {o o' : Nat → Int32} (h4 : S' 4 = S 4) (h6 : S' 6 = S 6) : ∀ {F : aB} {k : Nat} {x : Int32}, (∀ q, k ≤ q → q < k + b_sz F → o' q = o q) → r_pos S o F k x → r_pos S' o' F k x
  | .leaf _, _, _, _, _ => trivial
  | .branch e c s, k, x, h, hr => by
    simp only [b_sz] at h
    obtain ⟨h1, h2, h3⟩ := hr
    refine ⟨(h k (Nat.le_refl _) (by omega)).trans h1, ?_, ?_⟩
    · rw [h4]
      exact r_pos.ext h4 h6 (fun q q1 q2 => h q (by omega) (by omega)) h2
    · rw [h6]
      exact r_pos.ext h4 h6 (fun q q1 q2 => h q (by omega) (by omega)) h3
theorem r_pos.or {S : aN} {o : Nat → Int32} : ∀ {F : aB} {lo hi i k : Nat} {x l xe : Int32}, hi ≤ 400 → n_F S true F lo hi x i l xe → r_pos S o F k x → r_or S o k (b_pre F)
  | .leaf _, _, _, _, _, _, _, _, _, _, _ => trivial
  | .branch e c s, lo, hi, i, k, x, l, xe, hh, hn, hr => by
    obtain ⟨j, a, b, h1, h2, h3, h4, h5, h6, h7, h8, h9, h10, h11⟩ := hn
    obtain ⟨r1, r2, r3⟩ := hr
    subst h6
    rw [nI_clamp (by omega)] at r2 r3
    refine ⟨⟨j, by omega, r1, h9.1, h9.2.1 (Or.inl rfl), h9.2.2.1⟩, r_or.app (r_pos.or (by omega) h10 r2) ?_⟩
    rw [b_pre_len]
    exact r_pos.or hh h11 r3
section MCO
variable {g : List aK} {X : Nat × (Nat → Int32)} {I A : Nat → Nat → Int32} {J : Nat → Nat → Int64} {S : aN} {m : Nat}
/-- only blocks' tokens differ -/
def r_cu (S Sc : aN) : Prop := ∀ f k, (f = 1 ∧ S 0 k = 9) ∨ Sc f k = S f k
theorem y_climb (hm : m ≤ 400) : ∀ {d i : Nat} {y : Int32}, r_bh S m d i y → A 44 = S 6 → A 45 = S 7 → am_To 174 1 (96, [(1, .int (nI i)), (0, .ref 29)], [], am_H g I A J X) (7, [(1, .int y), (0, .ref 29)], [], am_H g I A J X) := by
  intro d
  induction d with
  | zero =>
    intro i y h e6 e7 B C u c Q hu hc kk
    obtain ⟨hi, hb⟩ := h
    have ei : (nI i).toNatClampNeg = i := nI_clamp (by omega)
    refine am_nay 9 (by decide) rfl (nI_pos (by omega)) ?_
    refine am_nee 9 (by decide) rfl (nI_in (show i < 400 by omega) (by decide)) ?_
    rcases hb with ⟨j, j1, j2, j3⟩ | ⟨j1, j2, j3⟩
    · subst j3
      refine am_yea 9 (by decide) rfl (by rw [ei, e6, j2]; exact nI_le (a := 0) (by omega) (by omega)) ?_
      refine am_yea 9 (by decide) rfl (nI_le (a := 0) (by omega) (by omega)) ?_
      refine am_nee 9 (by decide) rfl (nI_in (show i < 400 by omega) (by decide)) ?_
      refine am_pla 2 (by decide) rfl ?_
      rw [ei, e6, j2]
      exact kk
    · subst j3
      refine am_nay 9 (by decide) rfl (by rw [ei, e6, j1]; decide) ?_
      refine am_nee 9 (by decide) rfl (nI_in (show i < 400 by omega) (by decide)) ?_
      refine am_pla 2 (by decide) rfl ?_
      rw [ei, e7, j2]
      refine am_yea 9 (by decide) rfl (by decide) ?_
      refine am_nay 9 (by decide) rfl (by decide) ?_
      refine am_pla 4 (by decide) rfl ?_
      exact kk
  | succ d ih =>
    intro i y h e6 e7 B C u c Q hu hc kk
    obtain ⟨hi, h6, i', h7, hb⟩ := h
    have ei : (nI i).toNatClampNeg = i := nI_clamp (by omega)
    refine am_nay 9 (by decide) rfl (nI_pos (by omega)) ?_
    refine am_nee 9 (by decide) rfl (nI_in (show i < 400 by omega) (by decide)) ?_
    refine am_nay 9 (by decide) rfl (by rw [ei, e6, h6]; decide) ?_
    refine am_nee 9 (by decide) rfl (nI_in (show i < 400 by omega) (by decide)) ?_
    refine am_pla 2 (by decide) rfl ?_
    rw [ei, e7, h7]
    exact ih hb e6 e7 B C u c Q hu hc kk
/-- one node is numbered, and a block's token told -/
theorem y_nd {k j e t : Nat} {c : aB} (h30 : I 29 30 = nI k) (hk : k < 400) (hj : j < 400) (hl : b_len c < 400) (e0 : A 39 j = nI (e % 32)) (e3 : A 41 j = nI (b_len c)) (hb : e % 32 = 9 → (0 < b_len c ∧ ∃ j1, j1 < 400 ∧ A 42 j = nI j1 ∧ A 40 j1 = nI t) ∨ (b_len c = 0 ∧ I 29 11 - 1 = nI t)) : ∃ A1, (∀ q, q ≠ 40 → q ≠ 47 → A1 q = A q) ∧ A1 47 k = nI j ∧ (∀ q, q ≠ k → A1 47 q = A 47 q) ∧ (∀ q, q ≠ j → A1 40 q = A 40 q) ∧ (e % 32 = 9 → A1 40 j = nI t) ∧ (e % 32 ≠ 9 → A1 40 j = A 40 j) ∧ am_To 174 1 (7, [(1, .int (nI j)), (0, .ref 29)], [], am_H g I A J X) (77, [(1, .int (nI j)), (0, .ref 29)], [], am_H g (am_u I 29 30 (nI (k + 1))) A1 J X) := by
  have ej : (nI j).toNatClampNeg = j := nI_clamp (by omega)
  have hinj : ¬ (nI j < 0 ∨ 400 ≤ (nI j).toNatClampNeg) := nI_in hj (by decide)
  have pre : ∀ {s' : aS}, am_To 174 1 (39, [(1, .int (nI j)), (0, .ref 29)], [.int 9, .int (nI (e % 32))], am_H g (am_u I 29 30 (nI (k + 1))) (am_u A 47 k (nI j)) J X) s' → am_To 174 1 (7, [(1, .int (nI j)), (0, .ref 29)], [], am_H g I A J X) s' := fun hto => by
    intro B C u c' Q hu hc kk
    refine am_nay 9 (by decide) rfl (nI_pos (by omega)) ?_
    refine am_nee 9 (by decide) rfl (by rw [h30]; exact nI_in hk (by decide)) ?_
    refine am_nee 12 (by decide) rfl hinj ?_
    refine am_pla 1 (by decide) rfl ?_
    rw [h30, nI_clamp (by omega), nI_1, ej]
    rw [show (am_u A 47 k (nI j)) 39 j = nI (e % 32) from by rw [am_un (by simp)]; exact e0]
    exact hto B C u c' Q hu hc kk
  by_cases c9 : e % 32 = 9
  · refine ⟨am_u (am_u A 47 k (nI j)) 40 j (nI t), fun q q1 q2 => by rw [am_uo q1, am_uo q2], by rw [am_un (by simp)]; exact am_uk, fun q hq => by rw [am_un (by simp), am_un (fun z => hq z.2)], fun q hq => by rw [am_un (fun z => hq z.2), am_un (by simp)], fun _ => am_uk, fun z => absurd c9 z, pre ?_⟩
    intro B C u c' Q hu hc kk
    refine am_nay 9 (by decide) rfl (by rw [c9]; decide) ?_
    refine am_nee 9 (by decide) rfl hinj ?_
    rcases hb c9 with ⟨b1, j1, b2, b3, b4⟩ | ⟨b1, b2⟩
    · refine am_nay 9 (by decide) rfl (by rw [ej, am_un (by simp), e3]; exact nI_ge (a := 0) b1 (by omega)) ?_
      refine am_nee 9 (by decide) rfl hinj ?_
      have e42 : (am_u A 47 k (nI j)) 42 (nI j).toNatClampNeg = nI j1 := by rw [ej, am_un (by simp)]; exact b3
      rw [e42]
      refine am_nee 9 (by decide) rfl (nI_in b2 (by decide)) ?_
      refine am_nee 9 (by decide) rfl hinj ?_
      rw [ej, nI_clamp (by omega), show (am_u A 47 k (nI j)) 40 j1 = nI t from by rw [am_un (by simp)]; exact b4]
      exact kk
    · refine am_yea 9 (by decide) rfl (by rw [ej, am_un (by simp), e3, b1]; decide) ?_
      refine am_nee 9 (by decide) rfl hinj ?_
      rw [ej, show (am_u I 29 30 (nI (k + 1))) 29 11 = I 29 11 from am_un (by simp), b2]
      exact kk
  · refine ⟨am_u A 47 k (nI j), fun q q1 q2 => am_uo q2, am_uk, fun q hq => am_un (fun z => hq z.2), fun q hq => am_un (by simp), fun z => absurd z c9, fun _ => am_un (by simp), pre ?_⟩
    intro B C u c' Q hu hc kk
    exact am_yea 9 (by decide) rfl (by intro z; have := nI_inj (b := 9) (by omega) (by decide) z; omega) kk
end MCO
