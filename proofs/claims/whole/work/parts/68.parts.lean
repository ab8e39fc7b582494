/-! THE REFERENCE'S WAY is the grammar's: parts of expressions -/
section PTS
variable {mk : Nat → Int32} {pl : Nat → Nat} {T : Nat}
/-- the word "not" may stand at p -/
def x_A (mk : Nat → Int32) (s p : Nat) (K : List xK) : Prop := 4 ≤ s → mk p = 21 → ¬ (K = [] ∨ ¬ 3 < x_top K)
/-- no empty brackets end at p -/
def x_Em (mk : Nat → Int32) (p : Nat) (K : List xK) : Prop := match K with
  | [] => True
  | (k, t, _) :: _ => ¬ (t + 1 = p ∧ ((mk p = 41 ∧ k = -1) ∨ (mk p = 93 ∧ k = -3)))
def x_R (mk : Nat → Int32) (pl : Nat → Nat) (s : Nat) (z : Nat × xX) (K0 : List xK) (V0 : List Nat) (m : Nat) (S : aN) (r : aG) : Prop := match r with
  | .error q => ∃ n, x_er mk pl n z q
  | .ok (e, c, p') => ∃ n K V m1 S1 v m' S', x_to mk pl n z (0, p', K, V, m1, S1) ∧ x_C mk pl s p' K V m1 S1 K0 (v :: V0) m' S' ∧ x_F mk s p' ∧ x_N S m S' m' v e c
/-- from a state z, with nothing left to close -/
def x_R8 (mk : Nat → Int32) (pl : Nat → Nat) (z : Nat × xX) (K0 : List xK) (V0 : List Nat) (m : Nat) (S : aN) (r : aG) : Prop := match r with
  | .error q => ∃ n, x_er mk pl n z q
  | .ok (e, c, p') => ∃ n v m' S', x_to mk pl n z (0, p', K0, v :: V0, m', S') ∧ x_N S m S' m' v e c
theorem x_R8.from {z z' : Nat × xX} {K0 : List xK} {V0 : List Nat} {m : Nat} {S : aN} {r : aG} {n : Nat} (h : x_to mk pl n z z') (h2 : x_R8 mk pl z' K0 V0 m S r) : x_R8 mk pl z K0 V0 m S r := by
  cases r with
  | error q =>
    obtain ⟨n', h'⟩ := h2
    exact h.er h'
  | ok a =>
    obtain ⟨e, c, p'⟩ := a
    obtain ⟨n', v, m', S', h1, h2⟩ := h2
    obtain ⟨k, hk⟩ := h.trans h1
    exact ⟨k, v, m', S', hk, h2⟩
/-- finishing a node is the check of its height -/
theorem x_fin_hc {S : aN} {lo mid nd e p m : Nat} {c : aB} {K : List xK} {V : List Nat} (hT : n_T S false lo mid nd e c) (he : 11 ≤ e % 32) (hlm : lo ≤ mid) (hm : mid ≤ 400) (ht : e / 32 < 400) : x_fin pl p nd K V m S = match d_hc pl e c p with
    | .error q => .error q
    | .ok (_, _, p') => .ok (0, p', K, nd :: V, m, S) := by
  have h1 := (b_ht_lt hlm hT.2).1
  unfold x_fin d_hc
  rw [hT.1.2.2.2 he, hT.1.2.1 (Or.inr (by omega)), nI_clamp (by omega)]
  by_cases c1 : 10 < b_ht c + 1
  · rw [if_pos (show (10 : Int32) < nI (b_ht c + 1) from nI_lt (a := 10) c1 (by omega)), if_pos c1]
  · rw [if_neg (show ¬ (10 : Int32) < nI (b_ht c + 1) from nI_nlt (b := b_ht c + 1) (a := 10) (by omega) (by omega)), if_neg c1]
/-- brackets that hold expressions: the result, with the node nd that they belong to -/
def x_Re (mk : Nat → Int32) (pl : Nat → Nat) (z : Nat × xX) (K0 : List xK) (V0 : List Nat) (lo nd e m : Nat) (c0 : aB) (S : aN) (r : Except aF (aB × Nat)) : Prop := match r with
  | .error q => ∃ n, x_er mk pl n z q
  | .ok (c, p') => match d_hc pl e c p' with
    | .error q => ∃ n, x_er mk pl n z q
    | .ok _ => ∃ n m' S', x_to mk pl n z (0, p', K0, nd :: V0, m', S') ∧ n_T S' false lo m' nd e c ∧ m' + b_sz c0 = m + b_sz c ∧ m ≤ m' ∧ S' 6 nd = S 6 nd ∧ (∀ f k, k < lo → k ≠ nd → S' f k = S f k)
theorem x_Re.from {z z' : Nat × xX} {K0 : List xK} {V0 : List Nat} {lo nd e m m1 : Nat} {c0 c1 : aB} {S S1 : aN} {r : Except aF (aB × Nat)} {n : Nat} (h : x_to mk pl n z z') (h1 : m1 + b_sz c0 = m + b_sz c1) (hmm : m ≤ m1) (h6 : S1 6 nd = S 6 nd) (hf : ∀ f k, k < lo → k ≠ nd → S1 f k = S f k) (h2 : x_Re mk pl z' K0 V0 lo nd e m1 c1 S1 r) : x_Re mk pl z K0 V0 lo nd e m c0 S r := by
  cases r with
  | error q =>
    obtain ⟨n', h'⟩ := h2
    exact h.er h'
  | ok a =>
    obtain ⟨c, p'⟩ := a
    unfold x_Re at *
    dsimp only at *
    cases hd : d_hc pl e c p' with
    | error q =>
      rw [hd] at h2
      obtain ⟨n', h'⟩ := h2
      exact h.er h'
    | ok b =>
      rw [hd] at h2
      obtain ⟨n', m', S', k1, k2, k3, k0, k4, k5⟩ := h2
      obtain ⟨k, hk⟩ := h.trans k1
      exact ⟨k, m', S', hk, k2, by omega, by omega, k4.trans h6, fun f k q1 q2 => (k5 f k q1 q2).trans (hf f k q1 q2)⟩
section PTL
variable {full : Bool} {up : Nat → Nat → aG} {K0 : List xK}
/-- what is known of the expressions within -/
def x_U (mk : Nat → Int32) (pl : Nat → Nat) (T L : Nat) (full : Bool) (up : Nat → Nat → aG) : Prop := (full = true ↔ L = 12) ∧ (∀ s p e c p', 1 ≤ s → up s p = .ok (e, c, p') → d_Q mk T p e c p') ∧ (full = false → ∀ s p K V m S, K.length = L + 1 → 1 ≤ s → s ≤ 7 → x_B s K → x_A mk s p K → x_Em mk p K → m ≤ 2 * p + 3 → p < T → x_R mk pl s (1, p, K, V, m, S) K V m S (up s p))
theorem x_el (hW : d_W mk T) (hT : T ≤ 120) (hU : x_U mk pl T K0.length full up) (hfull : full = false) {k cl : Int32} {t nd e lo : Nat} {V0 : List Nat} (hk : (k = -1 ∧ cl = 41) ∨ (k = -3 ∧ cl = 93)) (he : 11 ≤ e % 32) (he4 : e / 32 < 400) : ∀ (i : Nat) (c : aB) (p : Nat) (Z : xX) (v m' : Nat) (S' : aN), x_beh mk pl Z = x_bas mk pl (p, (k, t, nd) :: K0, v :: V0, m', S') → n_T (x_app S' nd v) false lo m' nd e c → lo ≤ m' → nd < m' → m' ≤ 2 * p + 3 → p < T → t + 1 < p → 120 ≤ i + p → x_Re mk pl (0, Z) K0 V0 lo nd e m' c (x_app S' nd v) (d_el mk pl up cl i c p)
  | 0, c, p, Z, v, m', S', _, _, _, _, _, hp, _, hi => by omega
  | i + 1, c, p, Z, v, m', S', hb, hN, hlm, hnd, hm, hp, ht, hi => by
    have st : x_step mk pl (0, Z) = x_bas mk pl (p, (k, t, nd) :: K0, v :: V0, m', S') := by
      unfold x_step
      dsimp only
      rw [if_neg (by decide), hb]
    unfold d_el
    by_cases c44 : mk p = 44
    · rw [if_pos c44]
      have hg := d_G.one hW c44 (by decide)
      have s1 : x_step mk pl (0, Z) = .ok (1, p + 1, (k, t, nd) :: K0, V0, m', x_app S' nd v) := by
        rw [st]
        unfold x_bas
        dsimp only
        rw [if_pos ⟨c44, by rcases hk with ⟨r, _⟩ | ⟨r, _⟩; exact Or.inl r; exact Or.inr r⟩]
      have hto := x_to.one (mk := mk) (pl := pl) (z := (0, Z)) (by show 0 ≤ 1; omega) s1
      have hup := hU.2.2 hfull 1 (p + 1) ((k, t, nd) :: K0) V0 m' (x_app S' nd v) (by simp) (by omega) (by omega) (by rcases hk with ⟨r, _⟩ | ⟨r, _⟩; exact Or.inl (Or.inr (Or.inl r)); exact Or.inl (Or.inr (Or.inr (Or.inr r)))) (fun z => absurd z (by omega)) (fun z => by omega) (by omega) hg.1
      cases hr : up 1 (p + 1) with
      | error q =>
        rw [hr] at hup
        obtain ⟨n, hn⟩ := hup
        exact hto.er hn
      | ok a =>
        obtain ⟨e3, c3, p3⟩ := a
        rw [hr] at hup
        obtain ⟨n, K, V, m1, S1, v3, m3, S3, h1, h2, h3, h4⟩ := hup
        have q3 := hU.2.1 _ _ _ _ _ (by omega) hr
        obtain ⟨q31, q32, q33, -⟩ := q3
        have q311 := q31.1
        have hm3 : m3 = m' + b_sz c3 + 1 := h4.2.2.1
        obtain ⟨a1, a2, a3, a4⟩ := x_app_T hN hlm (Nat.le_refl _) hnd h4 (by omega) he q33.ge
        obtain ⟨n2, hto2⟩ := hto.trans h1
        have hvm : m' ≤ v3 := h4.1
        refine x_Re.from (c1 := b_add c e3 c3) (S1 := x_app S3 nd v3) (m1 := m3) hto2 (by rw [b_sz_add]; omega) (by omega) (a3.trans (h4.2.2.2.2.2 6 nd hnd)) (fun f k' q1 q2 => ?_) (x_el hW hT hU hfull hk he he4 i (b_add c e3 c3) p3 (p3, K, V, m1, S1) v3 m3 S3 (x_beh_bas h2 h3 ?_) a1 (by omega) (by omega) (by omega) q311 (by omega) (by omega))
        · rw [a2 f k' q2 (by omega) (by omega), h4.2.2.2.2.2 f k' (by omega)]
        · rcases hk with ⟨r, _⟩ | ⟨r, _⟩
          · exact Or.inl (Or.inr (Or.inl r))
          · exact Or.inl (Or.inr (Or.inr (Or.inr r)))
    · rw [if_neg c44]
      by_cases ccl : mk p = cl
      · rw [if_pos ccl]
        have k0 : k ≠ 0 := by rcases hk with ⟨r, _⟩ | ⟨r, _⟩ <;> (rw [r]; decide)
        have s1 : x_step mk pl (0, Z) = x_fin pl (p + 1) nd K0 V0 m' (x_app S' nd v) := by
          rw [st]
          unfold x_bas
          dsimp only
          rw [if_neg (fun z => c44 z.1), if_pos]
          · unfold x_end
            dsimp only
            rw [if_neg k0, if_pos rfl]
          · rcases hk with ⟨r, r2⟩ | ⟨r, r2⟩
            · exact Or.inl ⟨by rw [ccl, r2], Or.inr r⟩
            · exact Or.inr ⟨by rw [ccl, r2], by rw [r]; decide⟩
        rw [x_fin_hc hN he hlm (by omega) he4] at s1
        unfold x_Re
        dsimp only
        cases hd : d_hc pl e c (p + 1) with
        | error q =>
          rw [hd] at s1
          exact ⟨0, by show 0 ≤ 1; omega, s1⟩
        | ok a =>
          rw [hd] at s1
          obtain ⟨e', c', p'⟩ := a
          obtain ⟨-, -, r3, -⟩ := d_hc_ok hd
          subst r3
          exact ⟨1, m', x_app S' nd v, x_to.one (by show 0 ≤ 1; omega) s1, hN, by omega, Nat.le_refl _, rfl, fun _ _ _ _ => rfl⟩
      · rw [if_neg ccl]
        refine ⟨0, by show 0 ≤ 1; omega, ?_⟩
        rw [st]
        unfold x_bas
        dsimp only
        rw [if_neg (fun z => c44 z.1), if_neg]
        rcases hk with ⟨r, r2⟩ | ⟨r, r2⟩
        · rw [r]
          rintro (⟨z, _⟩ | ⟨_, z⟩)
          · exact ccl (by rw [z, r2])
          · exact absurd z (by decide)
        · rw [r]
          rintro (⟨_, z⟩ | ⟨z, _⟩)
          · exact absurd z (by decide)
          · exact ccl (by rw [z, r2])
theorem x_es (hW : d_W mk T) (hT : T ≤ 120) (hU : x_U mk pl T K0.length full up) (hfull : full = false) {k cl : Int32} {p nd e lo mid m : Nat} {V0 : List Nat} {c : aB} {S : aN} (hk : (k = -1 ∧ cl = 41) ∨ (k = -3 ∧ cl = 93)) (he : 11 ≤ e % 32) (he4 : e / 32 < 400) (hN : n_T S false lo mid nd e c) (hlm : lo ≤ mid) (hmm : mid ≤ m) (hnd : nd < m) (hm : m ≤ 2 * p + 5) (hp : p + 1 < T) : x_Re mk pl (1, p + 1, (k, p, nd) :: K0, V0, m, S) K0 V0 lo nd e m c S (d_es mk pl up cl c (p + 1)) := by
  unfold d_es
  by_cases ccl : mk (p + 1) = cl
  · rw [if_pos ccl]
    have k0 : k ≠ 0 := by rcases hk with ⟨r, _⟩ | ⟨r, _⟩ <;> (rw [r]; decide)
    have s1 : x_step mk pl (1, p + 1, (k, p, nd) :: K0, V0, m, S) = x_fin pl (p + 1 + 1) nd K0 V0 m S := by
      unfold x_step
      dsimp only
      rw [if_pos rfl]
      have n1 : ∀ x : Int32, x = 1 ∨ x = 3 ∨ x = 4 ∨ x = 21 ∨ x = 45 ∨ x = 40 ∨ x = 91 → mk (p + 1) ≠ x := fun x hx z => by
        rw [ccl] at z
        rcases hk with ⟨_, r2⟩ | ⟨_, r2⟩ <;> (rw [r2] at z; subst z; revert hx; decide)
      unfold x_part
      dsimp only
      rw [if_neg (by rintro (z | z | z) <;> exact n1 _ (by decide) z), if_neg (fun z => n1 21 (by decide) z.1), if_neg (n1 45 (by decide)), if_neg (n1 40 (by decide)), if_neg (n1 91 (by decide)), if_pos]
      · unfold x_end
        dsimp only
        rw [if_neg k0, if_neg (by decide)]
      · refine ⟨rfl, ?_⟩
        rcases hk with ⟨r, r2⟩ | ⟨r, r2⟩
        · exact Or.inl ⟨by rw [ccl, r2], r⟩
        · exact Or.inr ⟨by rw [ccl, r2], r⟩
    rw [x_fin_hc hN he hlm (by omega) he4] at s1
    unfold x_Re
    dsimp only
    cases hd : d_hc pl e c (p + 1 + 1) with
    | error q =>
      rw [hd] at s1
      exact ⟨0, by show 1 ≤ 1; omega, s1⟩
    | ok a =>
      rw [hd] at s1
      obtain ⟨e', c', p'⟩ := a
      obtain ⟨-, -, r3, -⟩ := d_hc_ok hd
      subst r3
      exact ⟨1, m, S, x_to.one (by show 1 ≤ 1; omega) s1, hN.wide (Nat.le_refl _) hmm, by omega, Nat.le_refl _, rfl, fun _ _ _ _ => rfl⟩
  · rw [if_neg ccl]
    have hB : x_B 1 ((k, p, nd) :: K0) := by
      rcases hk with ⟨r, _⟩ | ⟨r, _⟩
      · exact Or.inl (Or.inr (Or.inl r))
      · exact Or.inl (Or.inr (Or.inr (Or.inr r)))
    have hup := hU.2.2 hfull 1 (p + 1) ((k, p, nd) :: K0) V0 m S (by simp) (by omega) (by omega) hB (fun z => absurd z (by omega)) (fun z => by
      rcases hk with ⟨r, r2⟩ | ⟨r, r2⟩
      · rcases z.2 with z | z
        · exact ccl (by rw [z.1, r2])
        · rw [r] at z; exact absurd z.2 (by decide)
      · rcases z.2 with z | z
        · rw [r] at z; exact absurd z.2 (by decide)
        · exact ccl (by rw [z.1, r2])) (by omega) hp
    cases hr : up 1 (p + 1) with
    | error q =>
      rw [hr] at hup
      exact hup
    | ok a =>
      obtain ⟨e3, c3, p3⟩ := a
      rw [hr] at hup
      obtain ⟨n, K, V, m1, S1, v3, m3, S3, h1, h2, h3, h4⟩ := hup
      have q3 := hU.2.1 _ _ _ _ _ (by omega) hr
      obtain ⟨q31, q32, q33, -⟩ := q3
      have q311 := q31.1
      have hm3 : m3 = m + b_sz c3 + 1 := h4.2.2.1
      obtain ⟨a1, a2, a3, a4⟩ := x_app_T hN hlm hmm hnd h4 (by omega) he q33.ge
      have hvm : m ≤ v3 := h4.1
      refine x_Re.from (c1 := b_add c e3 c3) (S1 := x_app S3 nd v3) (m1 := m3) h1 (by rw [b_sz_add]; omega) (by omega) (a3.trans (h4.2.2.2.2.2 6 nd hnd)) (fun f k' q1 q2 => ?_) (x_el hW hT hU hfull hk he he4 120 (b_add c e3 c3) p3 (p3, K, V, m1, S1) v3 m3 S3 (x_beh_bas h2 h3 hB) a1 (by omega) (by omega) (by omega) q311 (by omega) (by omega))
      rw [a2 f k' q2 (by omega) (by omega), h4.2.2.2.2.2 f k' (by omega)]
end PTL
end PTS
