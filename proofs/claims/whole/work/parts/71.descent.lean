/-! THE REFERENCE'S WAY is the grammar's: the rules by strength -/
section DSC
variable {mk : Nat → Int32} {pl : Nat → Nat} {T : Nat} {full : Bool} {up : Nat → Nat → aG} {K0 : List xK} {V0 : List Nat} {m : Nat} {S : aN}
theorem x_C.low {s s' p m' m1 : Nat} {K : List xK} {V V' : List Nat} {S1 S' : aN} (h : x_C mk pl s' p K V m1 S1 K0 V' m' S') (hs : s ≤ s') (h4 : d_sb (mk p) = 4 → s ≤ 4 → s' ≤ 4) : x_C mk pl s p K V m1 S1 K0 V' m' S' :=
  ⟨fun l l1 l2 => h.1 l l1 (by omega), fun d1 d2 => by
    obtain ⟨K1, V1, m2, S2, k1, k2, k3⟩ := h.2 d1 (h4 d1 d2)
    exact ⟨K1, V1, m2, S2, k1, k2, fun l l1 l2 => k3 l l1 (by omega)⟩⟩
theorem x_bl (hW : d_W mk T) (hT : T ≤ 120) (hU : x_U mk pl T K0.length full up) {s p0 : Nat} (hs : s = 1 ∨ s = 2 ∨ s = 4 ∨ s = 5 ∨ s = 6) (hB : x_B s K0) (hm : m ≤ 2 * p0 + 3) : ∀ (i e : Nat) (c : aB) (p : Nat) (K : List xK) (V : List Nat) (m1 : Nat) (S1 : aN) (v m' : Nat) (S' : aN) (s' : Nat), x_C mk pl s' p K V m1 S1 K0 (v :: V0) m' S' → mk p ≠ 40 ∧ mk p ≠ 91 ∧ mk p ≠ 46 ∧ (d_sb (mk p) ≤ s ∨ (d_sb (mk p) = 4 ∧ s ≤ 4)) → (s' = s ∨ s' = s + 1) → (s = 4 → (s' = 5 ∧ i = 1) ∨ (s' = 4 ∧ i = 0)) → (s ≠ 4 → 120 ≤ i + p) → x_N S m S' m' v e c → d_Q mk T p0 e c p → x_R mk pl s (0, p, K, V, m1, S1) K0 V0 m S (d_bl mk pl full up s i e c p)
  | 0, e, c, p, K, V, m1, S1, v, m', S', s', hC, hF, hss, h4, hi, hv, hq => by
    have hs4 : s = 4 := Decidable.byContradiction fun z => by
      have := hi z
      have := hq.1.1
      omega
    have hs' : s' = 4 := by have := h4 hs4; omega
    subst hs4 hs'
    exact ⟨0, K, V, m1, S1, v, m', S', rfl, hC, ⟨hF.1, hF.2.1, hF.2.2.1, by have := hF.2.2.2; omega⟩, hv⟩
  | i + 1, e, c, p, K, V, m1, S1, v, m', S', s', hC, hF, hss, h4, hi, hv, hq => by
    have hqs := hq.2.1
    have hms : m' = m + b_sz c + 1 := hv.2.2.1
    have hpT := hq.1.1
    unfold d_bl
    by_cases cs : d_sb (mk p) = s
    · rw [if_pos cs]
      have hT2 := hW.lt rfl (d_sb_ne cs (by omega))
      have hop := x_beh_op hC cs hs (by omega) (fun z => by have := h4 z; omega) hB
      have st : x_step mk pl (0, p, K, V, m1, S1) = x_ent pl (nI s) 0 (p, K0, v :: V0, m', S') := by rw [x_st0, hop]
      by_cases cf : full = true
      · rw [if_pos cf]
        refine ⟨0, by show 0 ≤ 1; omega, ?_⟩
        rw [st]
        unfold x_ent
        dsimp only
        rw [if_pos (hU.len cf)]
      · rw [if_neg cf]
        have s1 : x_step mk pl (0, p, K, V, m1, S1) = .ok (1, p + 1, (nI s, p, 0) :: K0, v :: V0, m', S') := by
          rw [st]
          unfold x_ent
          dsimp only
          rw [if_neg (hU.nlen cf)]
        have hto := x_to.one (mk := mk) (pl := pl) (by show 0 ≤ 1; omega) s1
        have hB' : x_B (s + 1) ((nI s, p, 0) :: K0) := Or.inr ⟨s, by omega, by omega, rfl, Or.inl (by omega)⟩
        have hE' : x_Em mk (p + 1) ((nI s, p, 0) :: K0) := fun z => by
          rcases z.2 with z | z
          · have := z.2; rcases hs with r | r | r | r | r <;> (subst r; exact absurd this (by decide))
          · have := z.2; rcases hs with r | r | r | r | r <;> (subst r; exact absurd this (by decide))
        have hA' : x_A mk (s + 1) (p + 1) ((nI s, p, 0) :: K0) := fun z1 _ z2 => by
          rcases z2 with z2 | z2
          · cases z2
          · exact z2 (show (3 : Int32) < nI s from by rcases hs with r | r | r | r | r <;> (subst r; first | decide | omega))
        have hup := hU.2.2 (by simpa using cf) (s + 1) (p + 1) ((nI s, p, 0) :: K0) (v :: V0) m' S' (by simp) (by omega) (by omega) hB' hA' hE' (by omega) hT2
        cases hr : up (s + 1) (p + 1) with
        | error q =>
          rw [hr] at hup
          obtain ⟨n, hn⟩ := hup
          exact hto.er hn
        | ok a =>
          obtain ⟨e3, c3, p3⟩ := a
          rw [hr] at hup
          obtain ⟨n, K3, V3, m2, S2, v3, m3, S3, h1, h2, h3, hN3⟩ := hup
          have q3 := hU.2.1 _ _ _ _ _ (by omega) hr
          have q32 := q3.2.1
          have q311 := q3.1.1
          have hm3 : m3 = m' + b_sz c3 + 1 := hN3.2.2.1
          obtain ⟨n2, hto2⟩ := hto.trans h1
          have k1 : d_kb s < 32 ∧ 11 ≤ d_kb s ∧ x_kd (nI s) = nI (d_kb s) := by rcases hs with r | r | r | r | r <;> (subst r; decide)
          have pop : ∀ l, l ≤ s → _ := fun l hl => x_pop2 (K0 := K0) (V0 := V0) (pl := pl) (p := p3) (t := p) (l := l) hv hN3 hq.2.2.1.ge q3.2.2.1.ge (by omega) (by omega) hs hl
          have hN := x_bi_N (kd := x_kd (nI s)) (t := nI p) (e := d_kb s + 32 * p) hv hN3 (by omega) (by rw [show (d_kb s + 32 * p) % 32 = d_kb s from by omega]; exact k1.2.2) (by rw [show (d_kb s + 32 * p) / 32 = p from by omega]) (by omega) hq.2.2.1.ge q3.2.2.1.ge
          have hC3 : x_C mk pl s p3 K3 V3 m2 S2 ((nI s, p, 0) :: K0) (v3 :: v :: V0) m3 S3 := by
            by_cases s4 : s = 4
            · refine ⟨fun l l1 l2 => h2.1 l l1 (by omega), fun d1 d2 => ⟨(nI s, p, 0) :: K0, v3 :: v :: V0, m3, S3, ?_, by rw [s4]; rfl, fun l l1 l2 => rfl⟩⟩
              rw [show (5 : Int32) = nI 5 from rfl, h2.1 5 (by omega) (by omega)]
              unfold x_close
              rw [if_pos (nI_lt (by omega) (by omega))]
            · exact h2.low (by omega) (fun d1 d2 => by omega)
          dsimp only
          cases hd : d_hc pl (d_kb s + 32 * p) (.branch e c (.branch e3 c3 b_0)) p3 with
          | error q =>
            have hx : x_beh mk pl (p3, K3, V3, m2, S2) = .error q := x_beh_err (s := s) hC3 ⟨h3.1, h3.2.1, h3.2.2.1, by have := h3.2.2.2; omega⟩ (by omega) (fun l l1 l2 => by rw [pop l l2, hd])
            exact hto2.er (n' := 0) ⟨by show 0 ≤ 1; omega, by rw [x_st0, hx]⟩
          | ok b =>
            obtain ⟨e', c', p'⟩ := b
            have hQ' : d_bl mk pl full up s 1 e c p = .ok (e', c', p') := by
              unfold d_bl
              rw [if_pos cs, if_neg cf, hr]
              dsimp only
              rw [hd]
              rfl
            have hq' := d_bl_Q hW hU.2.1 (by omega) hs 1 e c p hq hQ'
            obtain ⟨r1, r2, r3, -⟩ := d_hc_ok hd
            subst r1 r2 r3
            refine x_R.from hto2 (x_bl hW hT hU hs hB hm i _ _ p' K3 V3 m2 S2 m3 (m3 + 1) _ s ⟨fun l l1 l2 => ?_, fun d1 d2 => ?_⟩ ⟨h3.1, h3.2.1, h3.2.2.1, ?_⟩ (Or.inl rfl) (fun z => by have := h4 z; omega) (fun z => by have := hi z; omega) hN hq')
            · rw [h2.1 l l1 (by omega), pop l l2, hd]
            · obtain ⟨K1, V1, m4, S4, j1, j2, j3⟩ := hC3.2 d1 d2
              exact ⟨K1, V1, m4, S4, j1, j2, fun l l1 l2 => by rw [j3 l l1 (by omega), pop l l2, hd]⟩
            · have := h3.2.2.2
              omega
    · rw [if_neg cs]
      refine ⟨0, K, V, m1, S1, v, m', S', rfl, hC.low (by omega) (fun d1 d2 => ?_), ⟨hF.1, hF.2.1, hF.2.2.1, ?_⟩, hv⟩
      · have := hF.2.2.2
        omega
      · have := hF.2.2.2
        omega
/-- a sign before its operand -/
theorem x_pr (hW : d_W mk T) (hT : T ≤ 120) (hU : x_U mk pl T K0.length full up) {s p : Nat} {mm : Int32} (hs : (s = 3 ∧ mm = 21) ∨ (s = 7 ∧ mm = 45)) (h21 : s = 3 → K0 = [] ∨ ¬ 3 < x_top K0) (hm : m ≤ 2 * p + 3) {x : aG} (hx : mk p ≠ mm → x_R mk pl s (1, p, K0, V0, m, S) K0 V0 m S x) : x_R mk pl s (1, p, K0, V0, m, S) K0 V0 m S (d_pr mk pl full up mm (if s = 3 then 13 else 16) s x p) := by
  unfold d_pr
  by_cases c1 : mk p = mm
  · rw [if_pos c1]
    have hT2 : p + 1 < T := by
      rcases hs with ⟨_, r⟩ | ⟨_, r⟩ <;> (subst r; exact hW.lt c1 (by decide))
    have st : x_step mk pl (1, p, K0, V0, m, S) = x_ent pl (nI s) 0 (p, K0, V0, m, S) := by
      rw [x_st1]
      unfold x_part
      dsimp only
      rcases hs with ⟨r, r2⟩ | ⟨r, r2⟩
      · subst r2
        rw [if_neg (by rw [c1]; decide), if_pos ⟨c1, h21 r⟩, r]
        rfl
      · subst r2
        rw [if_neg (by rw [c1]; decide), if_neg (by rw [c1]; intro z; exact absurd z.1 (by decide)), if_pos c1, r]
        rfl
    by_cases cf : full = true
    · rw [if_pos cf]
      refine ⟨0, by show 1 ≤ 1; omega, ?_⟩
      rw [st]
      unfold x_ent
      dsimp only
      rw [if_pos (hU.len cf)]
    · rw [if_neg cf]
      have s1 : x_step mk pl (1, p, K0, V0, m, S) = .ok (1, p + 1, (nI s, p, 0) :: K0, V0, m, S) := by
        rw [st]
        unfold x_ent
        dsimp only
        rw [if_neg (hU.nlen cf)]
      have hto := x_to.one (mk := mk) (pl := pl) (by show 1 ≤ 1; omega) s1
      have hB' : x_B s ((nI s, p, 0) :: K0) := Or.inr ⟨s, by omega, by omega, rfl, Or.inr ⟨rfl, by omega⟩⟩
      have hE' : x_Em mk (p + 1) ((nI s, p, 0) :: K0) := fun z => by
        rcases z.2 with z | z
        · have := z.2; rcases hs with ⟨r, _⟩ | ⟨r, _⟩ <;> (subst r; exact absurd this (by decide))
        · have := z.2; rcases hs with ⟨r, _⟩ | ⟨r, _⟩ <;> (subst r; exact absurd this (by decide))
      have hA' : x_A mk s (p + 1) ((nI s, p, 0) :: K0) := fun z1 _ z2 => by
        rcases z2 with z2 | z2
        · cases z2
        · exact z2 (show (3 : Int32) < nI s from by rcases hs with ⟨r, _⟩ | ⟨r, _⟩ <;> (subst r; first | decide | omega))
      have hup := hU.2.2 (by simpa using cf) s (p + 1) ((nI s, p, 0) :: K0) V0 m S (by simp) (by omega) (by omega) hB' hA' hE' (by omega) hT2
      cases hr : up s (p + 1) with
      | error q =>
        rw [hr] at hup
        obtain ⟨n, hn⟩ := hup
        exact hto.er hn
      | ok a =>
        obtain ⟨e3, c3, p3⟩ := a
        rw [hr] at hup
        obtain ⟨n, K3, V3, m2, S2, v3, m3, S3, h1, h2, h3, hN3⟩ := hup
        have q3 := hU.2.1 _ _ _ _ _ (by omega) hr
        have q32 := q3.2.1
        have q311 := q3.1.1
        have hm3 : m3 = m + b_sz c3 + 1 := hN3.2.2.1
        obtain ⟨n2, hto2⟩ := hto.trans h1
        have pop : ∀ l, l ≤ s → _ := fun l hl => x_pop1 (K0 := K0) (V0 := V0) (pl := pl) (p := p3) (t := p) (l := l) (s := s) hN3 q3.2.2.1.ge (by omega) (by omega) (by omega) hl
        have hN := x_un_N (kd := x_kd (nI s)) (t := nI p) (e := (if s = 3 then 13 else 16) + 32 * p) hN3 (by omega) (by rcases hs with ⟨r, _⟩ | ⟨r, _⟩ <;> subst r <;> (simp only [reduceIte, show ((7 : Nat) = 3) = False from by decide]; rw [Nat.add_mul_mod_self_left]; rfl)) (by rcases hs with ⟨r, _⟩ | ⟨r, _⟩ <;> subst r <;> (simp only [reduceIte, show ((7 : Nat) = 3) = False from by decide]; congr 1; omega)) (by split <;> omega) q3.2.2.1.ge
        dsimp only
        cases hd : d_hc pl ((if s = 3 then 13 else 16) + 32 * p) (.branch e3 c3 b_0) p3 with
        | error q =>
          have hx : x_beh mk pl (p3, K3, V3, m2, S2) = .error q := x_beh_err h2 ⟨h3.1, h3.2.1, h3.2.2.1, by have := h3.2.2.2; omega⟩ (by omega) (fun l l1 l2 => by rw [pop l l2, hd])
          exact hto2.er (n' := 0) ⟨by show 0 ≤ 1; omega, by rw [x_st0, hx]⟩
        | ok b =>
          obtain ⟨e', c', p'⟩ := b
          obtain ⟨r1, r2, r3, -⟩ := d_hc_ok hd
          subst r1 r2 r3
          refine ⟨n2, K3, V3, m2, S2, m3, m3 + 1, _, hto2, ⟨fun l l1 l2 => ?_, fun d1 d2 => ?_⟩, h3, hN⟩
          · rw [h2.1 l l1 (by omega), pop l l2, hd]
          · obtain ⟨K1, V1, m4, S4, j1, j2, j3⟩ := h2.2 d1 d2
            exact ⟨K1, V1, m4, S4, j1, j2, fun l l1 l2 => by rw [j3 l l1 (by omega), pop l l2, hd]⟩
  · rw [if_neg c1]
    exact hx c1
theorem x_R.low {s s' : Nat} {z : Nat × xX} {r : aG} (h : x_R mk pl s' z K0 V0 m S r) (hs : (s = 7 ∧ s' = 8) ∨ (s = 3 ∧ s' = 4)) : x_R mk pl s z K0 V0 m S r := by
  cases r with
  | error q => exact h
  | ok a =>
    obtain ⟨e, c, p'⟩ := a
    obtain ⟨n', K, V, m1, S1, v, m', S', h1, h2, h3, h4⟩ := h
    have := d_sb_le (mk p')
    have := h3.2.2.2
    exact ⟨n', K, V, m1, S1, v, m', S', h1, h2.low (by omega) (by omega), ⟨h3.1, h3.2.1, h3.2.2.1, by omega⟩, h4⟩
theorem x_t (hW : d_W mk T) (hT : T ≤ 120) (hU : x_U mk pl T K0.length full up) {p : Nat} (hE : x_Em mk p K0) (hm : m ≤ 2 * p + 3) (hp : p < T) : ∀ j, j ≤ 7 → x_B (8 - j) K0 → (j = 0 → mk p ≠ 45) → x_A mk (8 - j) p K0 → x_R mk pl (8 - j) (1, p, K0, V0, m, S) K0 V0 m S (d_t mk pl full up j p)
  | 0, _, hB, h45, hA => by
    unfold d_t
    have ha := x_at (V0 := V0) (m := m) (S := S) hW hT hU (hA (by omega)) hE (h45 rfl) hm hp
    cases hr : d_at mk pl full up p with
    | error q =>
      rw [hr] at ha
      exact ha
    | ok a =>
      obtain ⟨e, c, p2⟩ := a
      rw [hr] at ha
      obtain ⟨n, v, m1, S1, h1, h2⟩ := ha
      have hq := d_at_Q hW hU.2.1 hr
      obtain ⟨k1, k2⟩ := x_pl (V0 := V0) hW hT hU hm 120 e c p2 v m1 S1 h2 hq (by omega)
      dsimp only
      cases hr2 : d_pl mk pl full up 120 e c p2 with
      | error q =>
        rw [hr2] at k1
        obtain ⟨n', h'⟩ := k1
        exact h1.er h'
      | ok b =>
        obtain ⟨e', c', p'⟩ := b
        rw [hr2] at k1
        obtain ⟨n', v', m', S', j1, j2⟩ := k1
        obtain ⟨n2, hto⟩ := h1.trans j1
        have k3 := k2 _ _ _ hr2
        have := d_sb_le (mk p')
        exact ⟨n2, K0, v' :: V0, m', S', v', m', S', hto, .refl (by omega), ⟨k3.1, k3.2.1, k3.2.2, by omega⟩, j2⟩
  | j + 1, hj, hB, _, hA => by
    unfold d_t
    by_cases j0 : j = 0
    · rw [if_pos j0]
      subst j0
      refine x_pr (s := 7) hW hT hU (Or.inr ⟨rfl, rfl⟩) (fun z => by omega) hm (fun z => ?_)
      exact (x_t hW hT hU hE hm hp 0 (by omega) hB.up (fun _ => z) (fun z1 z2 => hA (by omega) z2)).low (Or.inl ⟨rfl, rfl⟩)
    · rw [if_neg j0]
      by_cases j4 : j = 4
      · rw [if_pos j4]
        subst j4
        refine x_pr (s := 3) hW hT hU (Or.inl ⟨rfl, rfl⟩) (fun _ => ?_) hm (fun z => ?_)
        · match K0, hB with
          | [], _ => exact Or.inl rfl
          | (k, _) :: _, h =>
            refine Or.inr ?_
            show ¬ 3 < k
            rcases h with (r | r | r | r) | ⟨t, t1, t2, t3, t4⟩
            · rw [r]; decide
            · rw [r]; decide
            · rw [r]; decide
            · rw [r]; decide
            · rw [t3]; exact nI_nlt (a := 3) (by omega) (by omega)
        · exact (x_t hW hT hU hE hm hp 4 (by omega) hB.up (fun z => by omega) (fun _ z2 => absurd z2 z)).low (Or.inr ⟨rfl, rfl⟩)
      · rw [if_neg j4]
        have hb' : x_B (8 - j) K0 := by
          have := hB.up
          rwa [show 8 - (j + 1) + 1 = 8 - j from by omega] at this
        have ih := x_t hW hT hU hE hm hp j (by omega) hb' (fun z => absurd z j0) (fun z1 z2 => hA (by omega) z2)
        cases hr : d_t mk pl full up j p with
        | error q =>
          rw [hr] at ih
          exact ih
        | ok a =>
          obtain ⟨e, c, p2⟩ := a
          rw [hr] at ih
          obtain ⟨n, K, V, m1, S1, v, m', S', h1, h2, h3, h4⟩ := ih
          have hq := d_t_Q hW hU.2.1 j (by omega) p hr
          have := hq.2.1
          dsimp only
          have e7 : 8 - (j + 1) = 7 - j := by omega
          rw [e7] at hB ⊢
          refine x_R.from h1 (x_bl hW hT hU (s := 7 - j) (by omega) hB hm _ e c p2 K V m1 S1 v m' S' (8 - j) h2 ⟨h3.1, h3.2.1, h3.2.2.1, by have := h3.2.2.2; omega⟩ (by omega) (fun z => ?_) (fun z => ?_) h4 hq)
          · have : j = 3 := by omega
            subst this
            exact Or.inl ⟨rfl, rfl⟩
          · have : ¬ j = 3 := by omega
            rw [if_neg this]
            omega
end DSC
section EXX
variable {mk : Nat → Int32} {pl : Nat → Nat} {T : Nat}
theorem x_ex_U (hW : d_W mk T) (hT : T ≤ 120) : ∀ r L, r + L = 12 → x_U mk pl T L (r = 0) (match r with
    | 0 => fun _ _ => .error (0, 0)
    | r + 1 => d_ex mk pl r)
  | 0, L, hL => ⟨by simp; omega, fun _ _ _ _ _ _ z => (by cases z), fun z => by simp at z⟩
  | r + 1, L, hL => by
    refine ⟨by simp; omega, fun s p e c p' hs z => d_ex_Q hW r s p e c p' z hs, fun _ s p K V m S hK h1 h7 hB hA hE hm hp => ?_⟩
    have ih := x_ex_U hW hT r (L + 1) (by omega)
    rw [← hK] at ih
    dsimp only
    cases r with
    | zero =>
      unfold d_ex
      have := x_t (V0 := V) (m := m) (S := S) hW hT (by simpa using ih) hE hm hp (8 - s) (by omega) (by rw [show 8 - (8 - s) = s from by omega]; exact hB) (fun z => by omega) (by rw [show 8 - (8 - s) = s from by omega]; exact hA)
      rw [show 8 - (8 - s) = s from by omega] at this
      exact this
    | succ r =>
      unfold d_ex
      have := x_t (V0 := V) (m := m) (S := S) hW hT (by simpa using ih) hE hm hp (8 - s) (by omega) (by rw [show 8 - (8 - s) = s from by omega]; exact hB) (fun z => by omega) (by rw [show 8 - (8 - s) = s from by omega]; exact hA)
      rw [show 8 - (8 - s) = s from by omega] at this
      exact this
/-- a whole expression: refused, or done with its one node -/
theorem x_whole (hW : d_W mk T) (hT : T ≤ 120) {p m : Nat} {S : aN} (hm : m ≤ 2 * p + 3) (hp : p < T) : match d_ex mk pl 12 1 p with
    | .error q => ∃ n, x_er mk pl n (1, p, [], [], m, S) q
    | .ok (e, c, p') => ∃ n z v m' S', x_to mk pl n (1, p, [], [], m, S) (0, z) ∧ x_step mk pl (0, z) = .ok (2, p', [], [v], m', S') ∧ x_N S m S' m' v e c := by
  have ih := x_ex_U (pl := pl) hW hT 12 0 (by omega)
  have := x_t (K0 := []) (V0 := []) (m := m) (S := S) hW hT (by simpa using ih) trivial hm hp 7 (by omega) trivial (fun z => by omega) (fun z => absurd z (by omega))
  unfold d_ex
  cases hr : d_t mk pl false (d_ex mk pl 11) (8 - 1) p with
  | error q =>
    rw [hr] at this
    exact this
  | ok a =>
    obtain ⟨e, c, p'⟩ := a
    rw [hr] at this
    obtain ⟨n, K, V, m1, S1, v, m', S', h1, h2, h3, h4⟩ := this
    refine ⟨n, _, v, m', S', h1, ?_, h4⟩
    rw [x_st0, x_beh_bas h2 h3 trivial]
    rfl
end EXX
