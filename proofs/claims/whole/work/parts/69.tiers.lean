/-! THE REFERENCE'S WAY is the grammar's: expressions -/
section TRS
variable {mk : Nat → Int32} {pl : Nat → Nat} {T : Nat} {full : Bool} {up : Nat → Nat → aG} {K0 : List xK}
theorem x_U.len (hU : x_U mk pl T K0.length full up) (h : full = true) : K0.length = 12 := hU.1.mp h
theorem x_U.nlen (hU : x_U mk pl T K0.length full up) (h : ¬ full = true) : K0.length ≠ 12 := fun z => h (hU.1.mpr z)
theorem x_st1 {X : xX} : x_step mk pl (1, X) = x_part mk pl X := by
  unfold x_step
  dsimp only
  rw [if_pos rfl]
theorem x_st0 {X : xX} : x_step mk pl (0, X) = x_beh mk pl X := by
  unfold x_step
  dsimp only
  rw [if_neg (by decide)]
/-- a member, a call, an index -/
theorem x_p1 (hW : d_W mk T) (hT : T ≤ 120) (hU : x_U mk pl T K0.length full up) {p e m m1 v : Nat} {c : aB} {V0 : List Nat} {S S1 : aN} (hb : mk p = 40 ∨ mk p = 91 ∨ mk p = 46) (hv : x_N S m S1 m1 v e c) (he : 11 ≤ e % 32) (hm : m1 ≤ 2 * p + 3) (hp : p < T) : x_R8 mk pl (0, p, K0, v :: V0, m1, S1) K0 V0 m S (d_p1 mk pl full up e c p) := by
  have hvl : m ≤ v := hv.1
  have hvh : v < m1 := hv.2.1
  have hms : m1 = m + b_sz c + 1 := hv.2.2.1
  unfold d_p1
  by_cases c46 : mk p = 46
  · rw [if_pos c46]
    have st : x_step mk pl (0, p, K0, v :: V0, m1, S1) = x_mem mk pl (p, K0, v :: V0, m1, S1) := by
      rw [x_st0]
      unfold x_beh
      dsimp only
      rw [if_neg (by rw [c46]; decide), if_neg (by rw [c46]; decide), if_pos c46]
    by_cases c1 : mk (p + 1) = 1
    · rw [if_pos c1]
      have hT2 := hW.lt c1 (by decide)
      have hu := x_un_N (kd := 19) (t := nI (p + 1)) (e := 19 + 32 * (p + 1)) hv (by omega) (by rw [show (19 + 32 * (p + 1)) % 32 = 19 from by omega]; rfl) (by rw [show (19 + 32 * (p + 1)) / 32 = p + 1 from by omega]) (by omega) he
      have s1 : x_step mk pl (0, p, K0, v :: V0, m1, S1) = x_fin pl (p + 2) m1 K0 V0 (m1 + 1) (x_app (n_add S1 m1 19 (nI (p + 1))) m1 v) := by
        rw [st]
        unfold x_mem
        dsimp only
        rw [if_pos c1]
      rw [x_fin_hc hu.2.2.2.1 (by omega) (by omega) (by omega) (by omega)] at s1
      cases hd : d_hc pl (19 + 32 * (p + 1)) (.branch e c b_0) (p + 2) with
      | error q =>
        rw [hd] at s1
        exact ⟨0, by show 0 ≤ 1; omega, s1⟩
      | ok a =>
        obtain ⟨e', c', p'⟩ := a
        rw [hd] at s1
        obtain ⟨r1, r2, r3, -⟩ := d_hc_ok hd
        subst r1 r2 r3
        exact ⟨1, m1, _, _, x_to.one (by show 0 ≤ 1; omega) s1, hu⟩
    · rw [if_neg c1]
      refine ⟨0, by show 0 ≤ 1; omega, ?_⟩
      rw [st]
      unfold x_mem
      dsimp only
      rw [if_neg c1]
  · rw [if_neg c46]
    by_cases c40 : mk p = 40
    · rw [if_pos c40]
      have hT2 := hW.lt c40 (by decide)
      have st : x_step mk pl (0, p, K0, v :: V0, m1, S1) = x_ent pl (-1) m1 (p, K0, V0, m1 + 1, x_app (n_add S1 m1 17 (nI p)) m1 v) := by
        rw [x_st0]
        unfold x_beh
        dsimp only
        rw [if_pos c40]
        rfl
      by_cases cf : full = true
      · rw [if_pos cf]
        refine ⟨0, by show 0 ≤ 1; omega, ?_⟩
        rw [st]
        unfold x_ent
        dsimp only
        rw [if_pos (hU.len cf)]
      · rw [if_neg cf]
        have s1 : x_step mk pl (0, p, K0, v :: V0, m1, S1) = .ok (1, p + 1, (-1, p, m1) :: K0, V0, m1 + 1, x_app (n_add S1 m1 17 (nI p)) m1 v) := by
          rw [st]
          unfold x_ent
          dsimp only
          rw [if_neg (hU.nlen cf)]
        obtain ⟨u1, u2, u3⟩ := x_un (kd := 17) (t := nI p) (e := 17 + 32 * p) hv (by omega) (by rw [show (17 + 32 * p) % 32 = 17 from by omega]; rfl) (by rw [show (17 + 32 * p) / 32 = p from by omega]) (by omega) he
        have hes := x_es (V0 := V0) (k := -1) (cl := 41) (p := p) (m := m1 + 1) hW hT hU (by simpa using cf) (Or.inl ⟨rfl, rfl⟩) (by omega) (by omega) u1 (by omega) (by omega) (by omega) (by omega) hT2
        have hto := x_to.one (mk := mk) (pl := pl) (by show 0 ≤ 1; omega) s1
        cases hr : d_es mk pl up 41 (.branch e c b_0) (p + 1) with
        | error q =>
          rw [hr] at hes
          obtain ⟨n, hn⟩ := hes
          exact hto.er hn
        | ok a =>
          obtain ⟨c2, p2⟩ := a
          rw [hr] at hes
          unfold x_Re at hes
          dsimp only at hes ⊢
          cases hd : d_hc pl (17 + 32 * p) c2 p2 with
          | error q =>
            rw [hd] at hes
            obtain ⟨n, hn⟩ := hes
            exact hto.er hn
          | ok b =>
            rw [hd] at hes
            obtain ⟨e', c', p'⟩ := b
            obtain ⟨r1, r2, r3, -⟩ := d_hc_ok hd
            subst r1 r2 r3
            obtain ⟨n, m', S', h1, h2, h3, h0, h4, h5⟩ := hes
            obtain ⟨n2, hto2⟩ := hto.trans h1
            simp only [b_sz] at h3
            refine ⟨n2, m1, m', S', hto2, by omega, by omega, by omega, h2, h4.trans u2, fun f k hk => ?_⟩
            rw [h5 f k hk (by omega), u3 f k (by omega) (by omega), hv.2.2.2.2.2 f k hk]
    · rw [if_neg c40]
      have c91 : mk p = 91 := by
        rcases hb with r | r | r
        · exact absurd r c40
        · exact r
        · exact absurd r c46
      have hT2 := hW.lt c91 (by decide)
      have st : x_step mk pl (0, p, K0, v :: V0, m1, S1) = x_ent pl (-2) m1 (p, K0, V0, m1 + 1, x_app (n_add S1 m1 18 (nI p)) m1 v) := by
        rw [x_st0]
        unfold x_beh
        dsimp only
        rw [if_neg c40, if_pos c91]
        rfl
      by_cases cf : full = true
      · rw [if_pos cf]
        refine ⟨0, by show 0 ≤ 1; omega, ?_⟩
        rw [st]
        unfold x_ent
        dsimp only
        rw [if_pos (hU.len cf)]
      · rw [if_neg cf]
        have s1 : x_step mk pl (0, p, K0, v :: V0, m1, S1) = .ok (1, p + 1, (-2, p, m1) :: K0, V0, m1 + 1, x_app (n_add S1 m1 18 (nI p)) m1 v) := by
          rw [st]
          unfold x_ent
          dsimp only
          rw [if_neg (hU.nlen cf)]
        obtain ⟨u1, u2, u3⟩ := x_un (kd := 18) (t := nI p) (e := 18 + 32 * p) hv (by omega) (by rw [show (18 + 32 * p) % 32 = 18 from by omega]; rfl) (by rw [show (18 + 32 * p) / 32 = p from by omega]) (by omega) he
        have hto := x_to.one (mk := mk) (pl := pl) (by show 0 ≤ 1; omega) s1
        have hB : x_B 1 (((-2 : Int32), p, m1) :: K0) := Or.inl (Or.inr (Or.inr (Or.inl rfl)))
        have hup := hU.2.2 (by simpa using cf) 1 (p + 1) ((-2, p, m1) :: K0) V0 (m1 + 1) (x_app (n_add S1 m1 18 (nI p)) m1 v) (by simp) (by omega) (by omega) hB (fun z => absurd z (by omega)) (fun z => by
          rcases z.2 with z | z <;> exact absurd z.2 (by decide)) (by omega) hT2
        cases hr : up 1 (p + 1) with
        | error q =>
          rw [hr] at hup
          obtain ⟨n, hn⟩ := hup
          exact hto.er hn
        | ok a =>
          obtain ⟨e3, c3, p3⟩ := a
          rw [hr] at hup
          obtain ⟨n, K, V, m2, S2, v3, m3, S3, h1, h2, h3, h4⟩ := hup
          have q3 := hU.2.1 _ _ _ _ _ (by omega) hr
          obtain ⟨q31, q32, q33, -⟩ := q3
          have q311 := q31.1
          have hm3 : m3 = m1 + 1 + b_sz c3 + 1 := h4.2.2.1
          have hbas := x_beh_bas h2 h3 hB
          obtain ⟨n2, hto2⟩ := hto.trans h1
          dsimp only
          by_cases c93 : mk p3 = 93
          · rw [if_pos c93]
            have hT3 := hW.lt c93 (by decide)
            obtain ⟨a1, a2, a3, a4⟩ := x_app_T u1 (by omega) (Nat.le_succ _) (Nat.lt_succ_self _) h4 (by omega) (by omega) q33.ge
            have s2 : x_step mk pl (0, p3, K, V, m2, S2) = x_fin pl (p3 + 1) m1 K0 V0 m3 (x_app S3 m1 v3) := by
              rw [x_st0, hbas]
              unfold x_bas
              dsimp only
              rw [if_neg (by rw [c93]; decide), if_pos (Or.inr ⟨c93, by decide⟩)]
              rfl
            rw [x_fin_hc a1 (by omega) (by omega) (by omega) (by omega)] at s2
            have eb : b_add (.branch e c b_0) e3 c3 = .branch e c (.branch e3 c3 b_0) := rfl
            rw [eb] at s2 a1
            cases hd : d_hc pl (18 + 32 * p) (.branch e c (.branch e3 c3 b_0)) (p3 + 1) with
            | error q =>
              rw [hd] at s2
              exact hto2.er (n' := 0) ⟨by show 0 ≤ 1; omega, s2⟩
            | ok b =>
              rw [hd] at s2
              obtain ⟨e', c', p'⟩ := b
              obtain ⟨r1, r2, r3, -⟩ := d_hc_ok hd
              subst r1 r2 r3
              obtain ⟨n3, hto3⟩ := hto2.trans (x_to.one (by show 0 ≤ 1; omega) s2)
              have hv3 : m1 + 1 ≤ v3 := h4.1
              refine ⟨n3, m1, m3, _, hto3, by omega, by omega, by simp only [b_sz]; omega, a1, ?_, fun f k hk => ?_⟩
              · rw [a3, h4.2.2.2.2.2 6 m1 (by omega), u2]
              · rw [a2 f k (by omega) (by omega) (by omega), h4.2.2.2.2.2 f k (by omega), u3 f k (by omega) (by omega), hv.2.2.2.2.2 f k hk]
          · rw [if_neg c93]
            refine hto2.er (n' := 0) ⟨by show 0 ≤ 1; omega, ?_⟩
            rw [x_st0, hbas]
            unfold x_bas
            dsimp only
            rw [if_neg (fun z => by rcases z.2 with z | z <;> exact absurd z (by decide)), if_neg]
            rintro (⟨_, z⟩ | ⟨z, _⟩)
            · exact absurd z (by decide)
            · exact c93 z
theorem d_el_lt (hQ : ∀ s p e c p', 1 ≤ s → up s p = .ok (e, c, p') → d_Q mk T p e c p') {cl : Int32} : ∀ (i : Nat) (c : aB) (p : Nat) {c' : aB} {p' : Nat}, d_el mk pl up cl i c p = .ok (c', p') → p < p'
  | 0, c, p, c', p', h => by
    unfold d_el at h
    split at h
    · cases h; omega
    · cases h
  | i + 1, c, p, c', p', h => by
    unfold d_el at h
    split at h
    · split at h
      · cases h
      · next e2 c2 p2 hup =>
        have := (hQ _ _ _ _ _ (by omega) hup).2.1
        have := d_el_lt hQ i _ _ h
        omega
    · split at h
      · cases h; omega
      · cases h
theorem d_es_lt (hQ : ∀ s p e c p', 1 ≤ s → up s p = .ok (e, c, p') → d_Q mk T p e c p') {cl : Int32} {c : aB} {p : Nat} {c' : aB} {p' : Nat} (h : d_es mk pl up cl c p = .ok (c', p')) : p < p' := by
  unfold d_es at h
  split at h
  · cases h; omega
  · split at h
    · cases h
    · next e2 c2 p2 hup =>
      have := (hQ _ _ _ _ _ (by omega) hup).2.1
      have := d_el_lt hQ _ _ _ h
      omega
theorem d_p1_lt (hQ : ∀ s p e c p', 1 ≤ s → up s p = .ok (e, c, p') → d_Q mk T p e c p') {e p e' p' : Nat} {c c' : aB} (h : d_p1 mk pl full up e c p = .ok (e', c', p')) : p < p' := by
  unfold d_p1 at h
  split at h
  · split at h
    · obtain ⟨-, -, r, -⟩ := d_hc_ok h
      omega
    · cases h
  split at h
  · split at h
    · cases h
    · split at h
      · cases h
      · next c2 p2 hes =>
        obtain ⟨-, -, r, -⟩ := d_hc_ok h
        have := d_es_lt hQ hes
        omega
  · split at h
    · cases h
    · split at h
      · cases h
      · next e2 c2 p2 hup =>
        have := (hQ _ _ _ _ _ (by omega) hup).2.1
        split at h
        · obtain ⟨-, -, r, -⟩ := d_hc_ok h
          omega
        · cases h
theorem x_pl (hW : d_W mk T) (hT : T ≤ 120) (hU : x_U mk pl T K0.length full up) {p0 m : Nat} {V0 : List Nat} {S : aN} (hm : m ≤ 2 * p0 + 3) : ∀ (i e : Nat) (c : aB) (p v m1 : Nat) (S1 : aN), x_N S m S1 m1 v e c → d_Q mk T p0 e c p → 120 ≤ i + p → x_R8 mk pl (0, p, K0, v :: V0, m1, S1) K0 V0 m S (d_pl mk pl full up i e c p) ∧ (∀ e' c' p', d_pl mk pl full up i e c p = .ok (e', c', p') → mk p' ≠ 40 ∧ mk p' ≠ 91 ∧ mk p' ≠ 46)
  | 0, e, c, p, v, m1, S1, hv, hq, hi => by have := hq.1.1; omega
  | i + 1, e, c, p, v, m1, S1, hv, hq, hi => by
    unfold d_pl
    have hs := hq.2.1
    have hms : m1 = m + b_sz c + 1 := hv.2.2.1
    by_cases cb : mk p = 40 ∨ mk p = 91 ∨ mk p = 46
    · rw [if_pos cb]
      have h1 := x_p1 (V0 := V0) hW hT hU cb hv hq.2.2.1.ge (by omega) hq.1.1
      cases hr : d_p1 mk pl full up e c p with
      | error q =>
        rw [hr] at h1
        exact ⟨h1, fun _ _ _ z => by cases z⟩
      | ok a =>
        obtain ⟨e2, c2, p2⟩ := a
        rw [hr] at h1
        obtain ⟨n, v2, m2, S2, k1, k2⟩ := h1
        have hq2 := d_p1_Q hW hU.2.1 cb hq hr
        have hlt := d_p1_lt hU.2.1 hr
        have := x_pl (V0 := V0) hW hT hU hm i e2 c2 p2 v2 m2 S2 k2 hq2 (by omega)
        exact ⟨this.1.from k1, this.2⟩
    · rw [if_neg cb]
      refine ⟨⟨0, v, m1, S1, rfl, hv⟩, fun e' c' p' z => ?_⟩
      cases z
      exact ⟨fun z => cb (Or.inl z), fun z => cb (Or.inr (Or.inl z)), fun z => cb (Or.inr (Or.inr z))⟩
end TRS
