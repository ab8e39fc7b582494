/-! THE REFERENCE'S WAY is the grammar's: atoms, operators, the whole expression -/
section EXS
variable {mk : Nat → Int32} {pl : Nat → Nat} {T : Nat} {full : Bool} {up : Nat → Nat → aG} {K0 : List xK} {V0 : List Nat} {m : Nat} {S : aN}
theorem x_R.from {s : Nat} {z z' : Nat × xX} {r : aG} {n : Nat} (h : x_to mk pl n z z') (h2 : x_R mk pl s z' K0 V0 m S r) : x_R mk pl s z K0 V0 m S r := by
  cases r with
  | error q =>
    obtain ⟨n', h'⟩ := h2
    exact h.er h'
  | ok a =>
    obtain ⟨e, c, p'⟩ := a
    obtain ⟨n', K, V, m1, S1, v, m', S', h1, h2⟩ := h2
    obtain ⟨k, hk⟩ := h.trans h1
    exact ⟨k, K, V, m1, S1, v, m', S', hk, h2⟩
theorem x_at (hW : d_W mk T) (hT : T ≤ 120) (hU : x_U mk pl T K0.length full up) {p : Nat} (hA : mk p = 21 → ¬ (K0 = [] ∨ ¬ 3 < x_top K0)) (hE : x_Em mk p K0) (h45 : mk p ≠ 45) (hm : m ≤ 2 * p + 3) (hp : p < T) : x_R8 mk pl (1, p, K0, V0, m, S) K0 V0 m S (d_at mk pl full up p) := by
  have lf : ∀ k : Nat, k < 32 → (mk p = 1 ∨ mk p = 3 ∨ mk p = 4) → (if mk p = 1 then 20 else if mk p = 3 then 21 else 22 : Int32) = nI k → x_R8 mk pl (1, p, K0, V0, m, S) K0 V0 m S (.ok (k + 32 * p, b_0, p + 1)) := fun k hk h h2 => by
    refine ⟨1, m, m + 1, n_add S m (nI k) (nI p), x_to.one (by show 1 ≤ 1; omega) ?_, x_leaf (by rw [show (k + 32 * p) % 32 = k from by omega]) (by rw [show (k + 32 * p) / 32 = p from by omega])⟩
    rw [x_st1]
    unfold x_part
    dsimp only
    rw [if_pos h, h2]
  unfold d_at
  by_cases c1 : mk p = 1
  · rw [if_pos c1]
    exact lf 20 (by decide) (Or.inl c1) (by rw [if_pos c1]; rfl)
  rw [if_neg c1]
  by_cases c3 : mk p = 3
  · rw [if_pos c3]
    exact lf 21 (by decide) (Or.inr (Or.inl c3)) (by rw [if_neg c1, if_pos c3]; rfl)
  rw [if_neg c3]
  by_cases c4 : mk p = 4
  · rw [if_pos c4]
    exact lf 22 (by decide) (Or.inr (Or.inr c4)) (by rw [if_neg c1, if_neg c3]; rfl)
  rw [if_neg c4]
  have n1 : ¬ (mk p = 1 ∨ mk p = 3 ∨ mk p = 4) := by
    rintro (z | z | z)
    · exact c1 z
    · exact c3 z
    · exact c4 z
  by_cases c40 : mk p = 40
  · rw [if_pos c40]
    have hT2 := hW.lt c40 (by decide)
    have st : x_step mk pl (1, p, K0, V0, m, S) = x_ent pl 0 0 (p, K0, V0, m, S) := by
      rw [x_st1]
      unfold x_part
      dsimp only
      rw [if_neg n1, if_neg (fun z => by rw [c40] at z; exact absurd z.1 (by decide)), if_neg h45, if_pos c40]
    by_cases cf : full = true
    · rw [if_pos cf]
      refine ⟨0, by show 1 ≤ 1; omega, ?_⟩
      rw [st]
      unfold x_ent
      dsimp only
      rw [if_pos (hU.len cf)]
    · rw [if_neg cf]
      have s1 : x_step mk pl (1, p, K0, V0, m, S) = .ok (1, p + 1, (0, p, 0) :: K0, V0, m, S) := by
        rw [st]
        unfold x_ent
        dsimp only
        rw [if_neg (hU.nlen cf)]
      have hto := x_to.one (mk := mk) (pl := pl) (by show 1 ≤ 1; omega) s1
      have hB : x_B 1 (((0 : Int32), p, 0) :: K0) := Or.inl (Or.inl rfl)
      have hup := hU.2.2 (by simpa using cf) 1 (p + 1) ((0, p, 0) :: K0) V0 m S (by simp) (by omega) (by omega) hB (fun z => absurd z (by omega)) (fun z => by
        rcases z.2 with z | z <;> exact absurd z.2 (by decide)) (by omega) hT2
      cases hr : up 1 (p + 1) with
      | error q =>
        rw [hr] at hup
        obtain ⟨n, hn⟩ := hup
        exact hto.er hn
      | ok a =>
        obtain ⟨e3, c3', p3⟩ := a
        rw [hr] at hup
        obtain ⟨n, K, V, m2, S2, v3, m3, S3, h1, h2, h3, h4⟩ := hup
        have hbas := x_beh_bas h2 h3 hB
        obtain ⟨n2, hto2⟩ := hto.trans h1
        dsimp only
        by_cases c41 : mk p3 = 41
        · rw [if_pos c41]
          have s2 : x_step mk pl (0, p3, K, V, m2, S2) = .ok (0, p3 + 1, K0, v3 :: V0, m3, S3) := by
            rw [x_st0, hbas]
            unfold x_bas
            dsimp only
            rw [if_neg (by rw [c41]; decide), if_pos (Or.inl ⟨c41, Or.inl rfl⟩)]
            unfold x_end
            dsimp only
            rw [if_pos rfl]
          obtain ⟨n3, hto3⟩ := hto2.trans (x_to.one (by show 0 ≤ 1; omega) s2)
          exact ⟨n3, v3, m3, S3, hto3, h4⟩
        · rw [if_neg c41]
          refine hto2.er (n' := 0) ⟨by show 0 ≤ 1; omega, ?_⟩
          rw [x_st0, hbas]
          unfold x_bas
          dsimp only
          rw [if_neg (fun z => by rcases z.2 with z | z <;> exact absurd z (by decide)), if_neg]
          rintro (⟨z, _⟩ | ⟨_, z⟩)
          · exact c41 z
          · exact absurd z (by decide)
  rw [if_neg c40]
  by_cases c91 : mk p = 91
  · rw [if_pos c91]
    have hT2 := hW.lt c91 (by decide)
    have st : x_step mk pl (1, p, K0, V0, m, S) = x_ent pl (-3) m (p, K0, V0, m + 1, n_add S m 23 (nI p)) := by
      rw [x_st1]
      unfold x_part
      dsimp only
      rw [if_neg n1, if_neg (fun z => by rw [c91] at z; exact absurd z.1 (by decide)), if_neg h45, if_neg c40, if_pos c91]
    by_cases cf : full = true
    · rw [if_pos cf]
      refine ⟨0, by show 1 ≤ 1; omega, ?_⟩
      rw [st]
      unfold x_ent
      dsimp only
      rw [if_pos (hU.len cf)]
    · rw [if_neg cf]
      have s1 : x_step mk pl (1, p, K0, V0, m, S) = .ok (1, p + 1, (-3, p, m) :: K0, V0, m + 1, n_add S m 23 (nI p)) := by
        rw [st]
        unfold x_ent
        dsimp only
        rw [if_neg (hU.nlen cf)]
      have u1 : n_T (n_add S m 23 (nI p)) false (m + 1) (m + 1) m (23 + 32 * p) b_0 := n_add_T (by rw [show (23 + 32 * p) % 32 = 23 from by omega]; rfl) (fun _ => by rw [show (23 + 32 * p) / 32 = p from by omega])
      have hes := x_es (V0 := V0) (k := -3) (cl := 93) (p := p) (m := m + 1) hW hT hU (by simpa using cf) (Or.inr ⟨rfl, rfl⟩) (by omega) (by omega) u1 (Nat.le_refl _) (Nat.le_refl _) (by omega) (by omega) hT2
      have hto := x_to.one (mk := mk) (pl := pl) (by show 1 ≤ 1; omega) s1
      cases hr : d_es mk pl up 93 b_0 (p + 1) with
      | error q =>
        rw [hr] at hes
        obtain ⟨n, hn⟩ := hes
        exact hto.er hn
      | ok a =>
        obtain ⟨c2, p2⟩ := a
        rw [hr] at hes
        unfold x_Re at hes
        dsimp only at hes ⊢
        cases hd : d_hc pl (23 + 32 * p) c2 p2 with
        | error q =>
          rw [hd] at hes
          obtain ⟨n, hn⟩ := hes
          exact hto.er hn
        | ok b =>
          rw [hd] at hes
          obtain ⟨e', c', p'⟩ := b
          obtain ⟨r1, r2, r3, -⟩ := d_hc_ok hd
          subst r1 r2 r3
          obtain ⟨n, m', S', h1, h2, h3, h0, h4, h5⟩ := hes
          obtain ⟨n2, hto2⟩ := hto.trans h1
          simp only [b_sz] at h3
          refine ⟨n2, m, m', S', hto2, Nat.le_refl _, by omega, by omega, h2.wide (by omega) (Nat.le_refl _), h4.trans n_add_6.1, fun f k hk => ?_⟩
          rw [h5 f k (by omega) (by omega), n_add_o (by omega)]
  rw [if_neg c91]
  refine ⟨0, by show 1 ≤ 1; omega, ?_⟩
  rw [x_st1]
  unfold x_part
  dsimp only
  rw [if_neg n1, if_neg (fun z => hA z.1 z.2), if_neg h45, if_neg c40, if_neg c91]
  match K0, hE with
  | [], _ => rfl
  | (k, t, nd) :: K', hE =>
    dsimp only
    rw [if_neg hE]
theorem nI_10 {h : Nat} (hh : h < 2 ^ 20) : (10 : Int32) < nI h ↔ 10 < h :=
  ⟨fun z => Decidable.byContradiction fun q => nI_nlt (b := h) (a := 10) (by omega) (by omega) z, fun z => nI_lt (a := 10) z (by omega)⟩
/-- a sign before an operand is closed -/
theorem x_pop1 {S' : aN} {m' v e p t l s : Nat} {c : aB} (hv : x_N S m S' m' v e c) (he : 11 ≤ e % 32) (hm' : m' < 400) (ht : t < 400) (hs : s = 3 ∨ s = 7) (hl : l ≤ s) : x_close pl (nI l) ((nI s, t, 0) :: K0) (v :: V0) m' S' = match d_hc pl ((if s = 3 then 13 else 16) + 32 * t) (.branch e c b_0) p with
    | .error q => .error q
    | .ok _ => x_close pl (nI l) K0 (m' :: V0) (m' + 1) (x_app (n_add S' m' (x_kd (nI s)) (nI t)) m' v) := by
  have hN := x_un_N (kd := x_kd (nI s)) (t := nI t) (e := (if s = 3 then 13 else 16) + 32 * t) hv hm' (by rcases hs with r | r <;> subst r <;> (simp only [reduceIte, show ((7 : Nat) = 3) = False from by decide]; rw [Nat.add_mul_mod_self_left]; rfl)) (by rcases hs with r | r <;> subst r <;> (simp only [reduceIte, show ((7 : Nat) = 3) = False from by decide]; congr 1; omega)) (by split <;> omega) he
  have hT := hN.2.2.2.1
  have hb := (b_ht_lt (by have := hN.1; have := hN.2.1; omega) hT.2).1
  have ms := hv.2.2.1
  have h2 := hT.1.2.2.2 (by split <;> omega)
  conv => lhs; unfold x_close
  unfold d_hc
  rw [if_neg (nI_nlt hl (by omega)), if_pos (by rcases hs with r | r <;> subst r <;> decide)]
  dsimp only
  rw [h2]
  by_cases c1 : 10 < b_ht (.branch e c b_0) + 1
  · rw [if_pos c1, if_pos ((nI_10 (by omega)).mpr c1), show ((if s = 3 then 13 else 16) + 32 * t) / 32 = t from by split <;> omega]
  · rw [if_neg c1, if_neg (fun z => c1 ((nI_10 (by omega)).mp z))]
/-- an operator between two is closed -/
theorem x_pop2 {S1 S2 : aN} {m1 m2 v1 v2 e1 e2 p t l s : Nat} {c1 c2 : aB} (hv : x_N S m S1 m1 v1 e1 c1) (hw : x_N S1 m1 S2 m2 v2 e2 c2) (he1 : 11 ≤ e1 % 32) (he2 : 11 ≤ e2 % 32) (hm2 : m2 < 400) (ht : t < 400) (hs : s = 1 ∨ s = 2 ∨ s = 4 ∨ s = 5 ∨ s = 6) (hl : l ≤ s) : x_close pl (nI l) ((nI s, t, 0) :: K0) (v2 :: v1 :: V0) m2 S2 = match d_hc pl (d_kb s + 32 * t) (.branch e1 c1 (.branch e2 c2 b_0)) p with
    | .error q => .error q
    | .ok _ => x_close pl (nI l) K0 (m2 :: V0) (m2 + 1) (x_app (x_app (n_add S2 m2 (x_kd (nI s)) (nI t)) m2 v1) m2 v2) := by
  have k1 : d_kb s < 32 ∧ 11 ≤ d_kb s ∧ x_kd (nI s) = nI (d_kb s) := by rcases hs with r | r | r | r | r <;> (subst r; decide)
  have hN := x_bi_N (kd := x_kd (nI s)) (t := nI t) (e := d_kb s + 32 * t) hv hw hm2 (by rw [show (d_kb s + 32 * t) % 32 = d_kb s from by omega]; exact k1.2.2) (by rw [show (d_kb s + 32 * t) / 32 = t from by omega]) (by omega) he1 he2
  have hT := hN.2.2.2.1
  have hb := (b_ht_lt (by have := hN.1; have := hN.2.1; omega) hT.2).1
  have h2 := hT.1.2.2.2 (by omega)
  conv => lhs; unfold x_close
  unfold d_hc
  rw [if_neg (nI_nlt hl (by omega)), if_neg (by rcases hs with r | r | r | r | r <;> subst r <;> decide)]
  dsimp only
  rw [h2]
  by_cases c1' : 10 < b_ht (.branch e1 c1 (.branch e2 c2 b_0)) + 1
  · rw [if_pos c1', if_pos ((nI_10 (by omega)).mpr c1'), show (d_kb s + 32 * t) / 32 = t from by omega]
  · rw [if_neg c1', if_neg (fun z => c1' ((nI_10 (by omega)).mp z))]
end EXS
