/-! THE GRAMMAR: what a good answer is like, for statements -/
section SNS
variable {mk : Nat → Int32} {pl : Nat → Nat} {T : Nat}
/-- blocks that are begun before p -/
def d_bal (mk : Nat → Int32) : Nat → Int
  | 0 => 0
  | p + 1 => d_bal mk p + (if mk p = 7 then 1 else if mk p = 8 then -1 else 0)
theorem d_bal_G {p : Nat} : ∀ {d : Nat}, d_G mk T p (p + d) → d_bal mk (p + d) = d_bal mk p
  | 0, _ => rfl
  | d + 1, h => by
    have h1 := h.2 (p + d) (by omega) (by omega)
    have h2 := d_bal_G (p := p) (d := d) ⟨by have := h.1; omega, fun k k1 k2 => h.2 k k1 (by omega)⟩
    show d_bal mk (p + d) + (if mk (p + d) = 7 then 1 else if mk (p + d) = 8 then -1 else 0) = _
    rw [if_neg h1.1, if_neg h1.2, h2]
    omega
theorem d_G.bal {p p' : Nat} (h : d_G mk T p p') (hp : p ≤ p') : d_bal mk p' = d_bal mk p := by
  obtain ⟨d, rfl⟩ : ∃ d, p' = p + d := ⟨p' - p, by omega⟩
  exact d_bal_G h
/-- one expression -/
def b_x (mk : Nat → Int32) (T : Nat) (c : aB) : Prop := ∃ e1 c1, c = .branch e1 c1 b_0 ∧ b_sh mk e1 c1 ∧ e1 / 32 < T ∧ b_ok mk T c1 ∧ b_ht c1 + 1 ≤ 10
/-- sound parts: 1 statements; 2 condition, block and more; 3 parameters and a block; 4 condition and block; 5 block and more; 6 block; 7 more -/
def b_sk (mk : Nat → Int32) (T : Nat) : aB → Nat → Prop
  | .leaf _, k => k = 1
  | .branch e c s, 1 => b_sk mk T s 1 ∧ e / 32 < T ∧ ((e % 32 = 1 ∧ mk (e / 32) = 17 ∧ c = b_0) ∨ (e % 32 = 2 ∧ mk (e / 32) = 18 ∧ c = b_0) ∨ (e % 32 = 3 ∧ mk (e / 32) = 16 ∧ (c = b_0 ∨ b_x mk T c)) ∨ (e % 32 = 4 ∧ b_x mk T c) ∨ (e % 32 = 5 ∧ b_x mk T c ∧ e / 32 = d_bt c 0) ∨ (e % 32 = 6 ∧ mk (e / 32) = 11 ∧ b_sk mk T c 2) ∨ (e % 32 = 7 ∧ mk (e / 32) = 14 ∧ b_sk mk T c 4) ∨ (e % 32 = 8 ∧ b_sk mk T c 3))
  | .branch e c s, 2 => b_sh mk e c ∧ e / 32 < T ∧ b_ok mk T c ∧ b_ht c + 1 ≤ 10 ∧ b_sk mk T s 5
  | .branch e c s, 3 => (e % 32 = 24 ∧ e / 32 < T ∧ c = b_0 ∧ b_sk mk T s 3) ∨ (e % 32 = 9 ∧ c ≠ b_0 ∧ e / 32 = d_bt c 0 ∧ b_sk mk T c 1 ∧ s = b_0)
  | .branch e c s, 4 => b_sh mk e c ∧ e / 32 < T ∧ b_ok mk T c ∧ b_ht c + 1 ≤ 10 ∧ b_sk mk T s 6
  | .branch e c s, 5 => e % 32 = 9 ∧ c ≠ b_0 ∧ e / 32 = d_bt c 0 ∧ b_sk mk T c 1 ∧ (s = b_0 ∨ b_sk mk T s 7)
  | .branch e c s, 6 => e % 32 = 9 ∧ c ≠ b_0 ∧ e / 32 = d_bt c 0 ∧ b_sk mk T c 1 ∧ s = b_0
  | .branch e c s, 7 => s = b_0 ∧ ((e % 32 = 6 ∧ mk (e / 32) = 12 ∧ e / 32 < T ∧ b_sk mk T c 2) ∨ (e % 32 = 9 ∧ c ≠ b_0 ∧ e / 32 = d_bt c 0 ∧ b_sk mk T c 1))
  | .branch _ _ _, _ => False
theorem b_sk_add : ∀ {s : aB} {e : Nat} {c : aB}, b_sk mk T s 1 → b_sk mk T (.branch e c b_0) 1 → b_sk mk T (b_add s e c) 1
  | .leaf _, _, _, _, h => h
  | .branch e1 c1 s, e, c, h, h2 => by
    unfold b_sk at h
    unfold b_add b_sk
    exact ⟨b_sk_add h.1 h2, h.2⟩
/-- a statement from p to p' -/
def d_Z (mk : Nat → Int32) (T p e : Nat) (c : aB) (p' : Nat) : Prop := p < p' ∧ p' < T ∧ d_bal mk p' = d_bal mk p ∧ b_sz c + 1 + 2 * p ≤ 2 * p' ∧ b_sk mk T (.branch e c b_0) 1
def d_Zs (mk : Nat → Int32) (T p : Nat) (c : aB) (p' : Nat) : Prop := p ≤ p' ∧ p' < T ∧ d_bal mk p' = d_bal mk p ∧ b_sz c + 2 * p ≤ 2 * p' ∧ b_sk mk T c 1
/-- a block -/
def d_Zb (mk : Nat → Int32) (T p e : Nat) (c : aB) (p' : Nat) : Prop := p < p' ∧ p' < T ∧ d_bal mk p' = d_bal mk p ∧ b_sz c + 2 * p ≤ 2 * p' ∧ b_sk mk T c 1 ∧ e % 32 = 9 ∧ c ≠ b_0 ∧ e / 32 = d_bt c 0
theorem d_Zs.add {p0 p e p' : Nat} {c c2 : aB} (h : d_Zs mk T p0 c p) (h2 : d_Z mk T p e c2 p') : d_Zs mk T p0 (b_add c e c2) p' := by
  obtain ⟨a0, a1, a2, a3, a4⟩ := h
  obtain ⟨b0, b1, b2, b3, b4⟩ := h2
  exact ⟨by omega, b1, b2.trans a2, by rw [b_sz_add]; omega, b_sk_add a4 b4⟩
theorem d_Zs.go {p p1 : Nat} {c : aB} {m : Int32} (h : d_Zs mk T p c p1) (hW : d_W mk T) (hp : mk p1 = m) (hm : d_m m) : d_Zs mk T p c (p1 + 1) := by
  obtain ⟨a0, a1, a2, a3, a4⟩ := h
  exact ⟨by omega, hW.lt hp hm, ((d_G.one hW hp hm).bal (by omega)).trans a2, by omega, a4⟩
theorem d_Q.x {p e p' : Nat} {c : aB} (h : d_Q mk T p e c p') : b_x mk T (.branch e c b_0) := ⟨e, c, rfl, h.2.2.1, h.2.2.2.1, h.2.2.2.2.1, h.2.2.2.2.2⟩
theorem d_sm_Z (hW : d_W mk T) {p e p' : Nat} {c : aB} (h : d_sm mk pl p = .ok (e, c, p')) : d_Z mk T p e c p' ∧ d_G mk T p p' := by
  have fin : ∀ {e : Nat} {c : aB} {p' : Nat}, d_G mk T p p' → p < p' → b_sz c + 1 + 2 * p ≤ 2 * p' → b_sk mk T (.branch e c b_0) 1 → d_Z mk T p e c p' ∧ d_G mk T p p' := fun h1 h2 h3 h4 => ⟨⟨h2, h1.1, h1.bal (by omega), h3, h4⟩, h1⟩
  unfold d_sm at h
  split at h
  · next c1 =>
    cases h
    have g := d_G.one hW c1 (by decide)
    have gT := g.1
    refine fin g (by omega) (by simp only [b_sz]; omega) ?_
    unfold b_sk
    exact ⟨rfl, by omega, Or.inl ⟨by omega, by rw [show (1 + 32 * p) / 32 = p from by omega]; exact c1, rfl⟩⟩
  split at h
  · next c1 =>
    cases h
    have g := d_G.one hW c1 (by decide)
    have gT := g.1
    refine fin g (by omega) (by simp only [b_sz]; omega) ?_
    unfold b_sk
    exact ⟨rfl, by omega, Or.inr (Or.inl ⟨by omega, by rw [show (2 + 32 * p) / 32 = p from by omega]; exact c1, rfl⟩)⟩
  split at h
  · next c1 =>
    have g := d_G.one hW c1 (by decide)
    have gT := g.1
    have e3 : (3 + 32 * p) / 32 = p := by omega
    split at h
    · cases h
      refine fin g (by omega) (by simp only [b_sz]; omega) ?_
      unfold b_sk
      exact ⟨rfl, by omega, Or.inr (Or.inr (Or.inl ⟨by omega, by rw [e3]; exact c1, Or.inl rfl⟩))⟩
    · split at h
      · cases h
      · next e2 c2 p2 hx =>
        cases h
        have q := d_ex_Q hW _ _ _ _ _ _ hx (by decide)
        have qs := q.2.1
        refine fin (g.trans q.1) (by omega) (by simp only [b_sz]; omega) ?_
        unfold b_sk
        exact ⟨rfl, by omega, Or.inr (Or.inr (Or.inl ⟨by omega, by rw [e3]; exact c1, Or.inr q.x⟩))⟩
  split at h
  · next c1 =>
    split at h
    · cases h
    · next e2 c2 p2 hx =>
      cases h
      have g := (d_G.one hW c1.1 (by decide)).trans (d_G.one hW c1.2 (by decide))
      have gT := g.1
      have q := d_ex_Q hW _ _ _ _ _ _ hx (by decide)
      have qs := q.2.1
      refine fin (g.trans q.1) (by omega) (by simp only [b_sz]; omega) ?_
      unfold b_sk
      exact ⟨rfl, by omega, Or.inr (Or.inr (Or.inr (Or.inl ⟨by omega, q.x⟩)))⟩
  · split at h
    · cases h
    · next e2 c2 p2 hx =>
      cases h
      have q := d_ex_Q hW _ _ _ _ _ _ hx (by decide)
      have qs := q.2.1
      have qe := q.2.2.2.1
      refine fin q.1 (by omega) (by simp only [b_sz]; omega) ?_
      unfold b_sk
      exact ⟨rfl, by omega, Or.inr (Or.inr (Or.inr (Or.inr (Or.inl ⟨by omega, q.x, by simp only [d_bt]; omega⟩))))⟩
theorem d_ll_Z (hW : d_W mk T) {p0 : Nat} : ∀ (i : Nat) (c : aB) (p : Nat) {c' : aB} {p' : Nat}, d_Zs mk T p0 c p → d_ll mk pl i c p = .ok (c', p') → d_Zs mk T p0 c' p' ∧ p < p' ∧ (c ≠ b_0 → c' ≠ b_0 ∧ d_bt c' 0 = d_bt c 0)
  | 0, c, p, c', p', hq, h => by
    unfold d_ll at h
    split at h
    · next c1 => cases h; exact ⟨hq.go hW c1 (by decide), by omega, fun z => ⟨z, rfl⟩⟩
    · cases h
  | i + 1, c, p, c', p', hq, h => by
    unfold d_ll at h
    split at h
    · next c1 =>
      split at h
      · next c2 => cases h; exact ⟨(hq.go hW c1 (by decide)).go hW c2 (by decide), by omega, fun z => ⟨z, rfl⟩⟩
      · split at h
        · cases h
        · next e2 c2 p2 hs =>
          have z := d_sm_Z hW hs
          obtain ⟨r1, r2, r3⟩ := d_ll_Z hW i _ _ ((hq.go hW c1 (by decide)).add z.1) h
          have := z.1.1
          refine ⟨r1, by omega, fun hc => ?_⟩
          obtain ⟨r4, r5⟩ := r3 b_add_ne
          refine ⟨r4, r5.trans ?_⟩
          cases c with
          | leaf u => exact absurd rfl hc
          | branch a b c => rfl
    · split at h
      · next c1 => cases h; exact ⟨hq.go hW c1 (by decide), by omega, fun z => ⟨z, rfl⟩⟩
      · cases h
theorem d_bt_add {c : aB} {e : Nat} {c2 : aB} (hc : c ≠ b_0) : d_bt (b_add c e c2) 0 = d_bt c 0 := by
  cases c with
  | leaf u => exact absurd rfl hc
  | branch a b c => rfl
theorem d_bt_n0 {c : aB} {t : Nat} (hc : c ≠ b_0) : d_bt c t = d_bt c 0 := by
  cases c with
  | leaf u => exact absurd rfl hc
  | branch a b c => rfl
theorem d_li_Z (hW : d_W mk T) {p0 p : Nat} {c c' : aB} {p' : Nat} (hq : d_Zs mk T p0 c p) (h : d_li mk pl c p = .ok (c', p')) : d_Zs mk T p0 c' p' ∧ p < p' ∧ c' ≠ b_0 ∧ (c ≠ b_0 → d_bt c' 0 = d_bt c 0) := by
  unfold d_li at h
  split at h
  · cases h
  · next e2 c2 p2 hs =>
    have z := d_sm_Z hW hs
    obtain ⟨r1, r2, r3⟩ := d_ll_Z hW _ _ _ (hq.add z.1) h
    have := z.1.1
    obtain ⟨r4, r5⟩ := r3 b_add_ne
    exact ⟨r1, by omega, r4, fun hc => r5.trans (d_bt_add hc)⟩
/-- what is asked of the statements of a block: the block's closing token is behind them -/
def d_Zt (mk : Nat → Int32) (T : Nat) (st : Nat → aG) : Prop := ∀ p e c p', mk p ≠ 8 → p < T → st p = .ok (e, c, p') → p < p' ∧ p' < T ∧ d_bal mk p' + 1 = d_bal mk p ∧ b_sz c + 2 * p ≤ 2 * p' ∧ b_sk mk T c 1 ∧ e % 32 = 9 ∧ c ≠ b_0 ∧ e / 32 = d_bt c 0
section BKS
variable {st : Nat → aG}
theorem d_bk_Z (hW : d_W mk T) (hI : ∀ p, mk p = 7 → mk (p + 1) ≠ 8) (hst : d_Zt mk T st) {p e p' : Nat} {c : aB} (hp : p < T) (h : d_bk mk pl st p = .ok (e, c, p')) : d_Zb mk T p e c p' := by
  unfold d_bk at h
  split at h
  · next c1 =>
    split at h
    · next c2 =>
      have hT2 : p + 1 + 1 < T := hW (p + 1) (by rw [c2]; decide) (by rw [c2]; decide)
      obtain ⟨a0, a1, a2, a3, a4, a5⟩ := hst _ _ _ _ (hI _ c2) hT2 h
      refine ⟨by omega, a1, ?_, by omega, a4, a5⟩
      have b1 : d_bal mk (p + 1 + 1) = d_bal mk (p + 1) + 1 := by
        show d_bal mk (p + 1) + _ = _
        rw [if_pos c2]
      have b2 := (d_G.one hW c1 (by decide)).bal (Nat.le_succ p)
      have : d_bal mk (p + 2) = d_bal mk (p + 1 + 1) := rfl
      have b3 : d_bal mk (p + 1) = d_bal mk p := b2
      omega
    · cases h
  · split at h
    · cases h
    · next c2 p2 hl =>
      cases h
      obtain ⟨⟨r0, r1, r2, r3, r4⟩, r5, r6, r7⟩ := d_li_Z hW (⟨Nat.le_refl _, hp, rfl, by simp only [b_sz]; omega, by unfold b_sk; rfl⟩ : d_Zs mk T p b_0 p) hl
      exact ⟨r5, r1, r2, r3, r4, by omega, r6, by rw [d_bt_n0 r6]; omega⟩
theorem d_cd_Z (hW : d_W mk T) (hI : ∀ p, mk p = 7 → mk (p + 1) ≠ 8) (hst : d_Zt mk T st) {k p e p' : Nat} {c : aB} (hk : mk p = 11 ∨ mk p = 12 ∨ mk p = 14) (h : d_cd mk pl st k p = .ok (e, c, p')) : p < p' ∧ p' < T ∧ d_bal mk p' = d_bal mk p ∧ b_sz c + 1 + 2 * p ≤ 2 * p' ∧ e = k + 32 * p ∧ p < T ∧ ∃ e1 c1 e2 c2, c = .branch e1 c1 (.branch e2 c2 b_0) ∧ b_sh mk e1 c1 ∧ e1 / 32 < T ∧ b_ok mk T c1 ∧ b_ht c1 + 1 ≤ 10 ∧ e2 % 32 = 9 ∧ c2 ≠ b_0 ∧ e2 / 32 = d_bt c2 0 ∧ b_sk mk T c2 1 := by
  have g : d_G mk T p (p + 1) := by
    rcases hk with r | r | r <;> exact .one hW r (by decide)
  unfold d_cd at h
  split at h
  · cases h
  · next e1 c1 p1 hx =>
    have q := d_ex_Q hW _ _ _ _ _ _ hx (by decide)
    split at h
    · next c58 =>
      split at h
      · cases h
      · next e2 c2 p2 hb =>
        cases h
        have g2 := d_G.one hW c58 (by decide)
        obtain ⟨z0, z1, z2, z3, z4, z5, z6, z7⟩ := d_bk_Z hW hI hst g2.1 hb
        have g3 := (g.trans q.1).trans g2
        have qs := q.2.1
        have := g.1
        exact ⟨by omega, z1, z2.trans (g3.bal (by omega)), by simp only [b_sz]; omega, rfl, by omega, e1, c1, e2, c2, rfl, q.2.2.1, q.2.2.2.1, q.2.2.2.2.1, q.2.2.2.2.2, z5, z6, z7, z4⟩
    · cases h
/-- the parts of an IF -/
def d_Zi (mk : Nat → Int32) (T p e : Nat) (c : aB) (p' : Nat) : Prop := p < p' ∧ p' < T ∧ d_bal mk p' = d_bal mk p ∧ b_sz c + 1 + 2 * p ≤ 2 * p' ∧ e = 6 + 32 * p ∧ b_sk mk T c 2
theorem d_el_Zi (hW : d_W mk T) (hI : ∀ p, mk p = 7 → mk (p + 1) ≠ 8) (hst : d_Zt mk T st) {p p2 e e1 e2 p' : Nat} {c c1 c2 cc : aB} (hcc : cc = .branch e1 c1 (.branch e2 c2 b_0)) (h0 : p < p2 ∧ p2 < T ∧ d_bal mk p2 = d_bal mk p ∧ b_sz cc + 1 + 2 * p ≤ 2 * p2) (h1 : b_sh mk e1 c1 ∧ e1 / 32 < T ∧ b_ok mk T c1 ∧ b_ht c1 + 1 ≤ 10 ∧ e2 % 32 = 9 ∧ c2 ≠ b_0 ∧ e2 / 32 = d_bt c2 0 ∧ b_sk mk T c2 1) (h : (if mk p2 = 13 then (if mk (p2 + 1) = 58 then (match d_bk mk pl st (p2 + 2) with
        | .error x => .error x
        | .ok (e3, c3, p3) => .ok (6 + 32 * p, b_add cc e3 c3, p3)) else .error (9, pl (p2 + 1))) else .ok (6 + 32 * p, cc, p2) : aG) = .ok (e, c, p')) : d_Zi mk T p e c p' := by
  subst hcc
  obtain ⟨k1, k2, k3, k4, k5, k6, k7, k8⟩ := h1
  split at h
  · next c13 =>
    split at h
    · next c58 =>
      split at h
      · cases h
      · next e3 c3 p3 hb =>
        cases h
        have g := (d_G.one hW c13 (by decide)).trans (.one hW c58 (by decide))
        obtain ⟨z0, z1, z2, z3, z4, z5, z6, z7⟩ := d_bk_Z hW hI hst g.1 hb
        have gb := g.bal (by omega)
        refine ⟨by omega, z1, by omega, ?_, rfl, ?_⟩
        · rw [b_sz_add]; omega
        · unfold b_add b_add b_add
          unfold b_sk
          refine ⟨k1, k2, k3, k4, ?_⟩
          unfold b_sk
          refine ⟨k5, k6, k7, k8, Or.inr ?_⟩
          unfold b_sk
          exact ⟨rfl, Or.inr ⟨z5, z6, z7, z4⟩⟩
    · cases h
  · cases h
    refine ⟨h0.1, h0.2.1, h0.2.2.1, h0.2.2.2, rfl, ?_⟩
    unfold b_sk
    refine ⟨k1, k2, k3, k4, ?_⟩
    unfold b_sk
    exact ⟨k5, k6, k7, k8, Or.inl rfl⟩
theorem d_if_Z (hW : d_W mk T) (hI : ∀ p, mk p = 7 → mk (p + 1) ≠ 8) (hst : d_Zt mk T st) : ∀ (i p : Nat) {e : Nat} {c : aB} {p' : Nat}, (mk p = 11 ∨ mk p = 12) → d_if mk pl st i p = .ok (e, c, p') → d_Zi mk T p e c p'
  | 0, p, e, c, p', hk, h => by
    unfold d_if at h
    split at h
    · cases h
    · next e0 c0 p2 hc =>
      obtain ⟨a0, a1, a2, a3, a4, a5, e1, c1, e2, c2, a6, a7⟩ := d_cd_Z hW hI hst (by rcases hk with r | r; exact Or.inl r; exact Or.inr (Or.inl r)) hc
      subst a4
      exact d_el_Zi hW hI hst a6 ⟨a0, a1, a2, a3⟩ a7 h
  | i + 1, p, e, c, p', hk, h => by
    unfold d_if at h
    split at h
    · cases h
    · next e0 c0 p2 hc =>
      obtain ⟨a0, a1, a2, a3, a4, a5, e1, c1, e2, c2, a6, a7⟩ := d_cd_Z hW hI hst (by rcases hk with r | r; exact Or.inl r; exact Or.inr (Or.inl r)) hc
      subst a4
      dsimp only at h
      split at h
      · next c12 =>
        split at h
        · cases h
        · next e3 c3 p3 hi =>
          cases h
          obtain ⟨z0, z1, z2, z3, z4, z5⟩ := d_if_Z hW hI hst i p2 (Or.inr c12) hi
          subst a6
          obtain ⟨k1, k2, k3, k4, k5, k6, k7, k8⟩ := a7
          refine ⟨by omega, z1, by omega, ?_, rfl, ?_⟩
          · rw [b_sz_add]; omega
          · unfold b_add b_add b_add
            unfold b_sk
            refine ⟨k1, k2, k3, k4, ?_⟩
            unfold b_sk
            refine ⟨k5, k6, k7, k8, Or.inr ?_⟩
            unfold b_sk
            subst z4
            exact ⟨rfl, Or.inl ⟨by omega, by rw [show (6 + 32 * p2) / 32 = p2 from by omega]; exact c12, by omega, z5⟩⟩
      · exact d_el_Zi hW hI hst a6 ⟨a0, a1, a2, a3⟩ a7 h
/-- parameters so far, with room for the block behind them -/
def b_pa (T : Nat) : aB → Prop
  | .leaf _ => True
  | .branch e c s => e % 32 = 24 ∧ e / 32 < T ∧ c = b_0 ∧ b_pa T s
theorem b_pa_add : ∀ {s : aB} {e : Nat}, b_pa T s → e % 32 = 24 → e / 32 < T → b_pa T (b_add s e b_0)
  | .leaf _, _, _, h1, h2 => ⟨h1, h2, rfl, trivial⟩
  | .branch _ _ s, _, h, h1, h2 => ⟨h.1, h.2.1, h.2.2.1, b_pa_add h.2.2.2 h1 h2⟩
theorem b_pa_blk : ∀ {s : aB} {e : Nat} {c : aB}, b_pa T s → e % 32 = 9 → c ≠ b_0 → e / 32 = d_bt c 0 → b_sk mk T c 1 → b_sk mk T (b_add s e c) 3
  | .leaf _, e, c, _, h1, h2, h3, h4 => by
    unfold b_add b_sk
    exact Or.inr ⟨h1, h2, h3, h4, rfl⟩
  | .branch _ _ s, e, c, h, h1, h2, h3, h4 => by
    unfold b_add b_sk
    exact Or.inl ⟨h.1, h.2.1, h.2.2.1, b_pa_blk h.2.2.2 h1 h2 h3 h4⟩
theorem d_pm_Z (hW : d_W mk T) {p0 : Nat} : ∀ (i : Nat) (c : aB) (p : Nat) {c' : aB} {p' : Nat}, d_G mk T p0 p → b_sz c + p0 ≤ p → b_pa T c → d_pm mk pl i c p = .ok (c', p') → d_G mk T p0 p' ∧ b_sz c' + p0 ≤ p' ∧ b_pa T c'
  | 0, c, p, c', p', h1, h2, h3, h => by
    unfold d_pm at h
    split at h
    · next c1 => cases h; exact ⟨h1.trans (.one hW c1 (by decide)), by omega, h3⟩
    · cases h
  | i + 1, c, p, c', p', h1, h2, h3, h => by
    unfold d_pm at h
    split at h
    · next c1 =>
      split at h
      · next c2 =>
        have g := (d_G.one hW c1 (by decide)).trans (.one hW c2 (by decide))
        have := g.1
        exact d_pm_Z hW i _ _ (h1.trans g) (by rw [b_sz_add]; simp only [b_sz]; omega) (b_pa_add h3 (by omega) (by omega)) h
      · cases h
    · split at h
      · next c1 => cases h; exact ⟨h1.trans (.one hW c1 (by decide)), by omega, h3⟩
      · cases h
theorem d_df_Z (hW : d_W mk T) (hI : ∀ p, mk p = 7 → mk (p + 1) ≠ 8) (hst : d_Zt mk T st) {p e p' : Nat} {c : aB} (hk : mk p = 15) (h : d_df mk pl st p = .ok (e, c, p')) : d_Z mk T p e c p' := by
  have g := d_G.one hW hk (by decide)
  unfold d_df at h
  split at h
  · next c1 =>
    split at h
    · next c40 =>
      split at h
      · cases h
      · next c2 p2 hps =>
        have g1 := (g.trans (.one hW c1 (by decide))).trans (d_G.one hW c40 (by decide))
        have gT := g1.1
        have hp : d_G mk T (p + 3) p2 ∧ b_sz c2 + (p + 3) ≤ p2 ∧ b_pa T c2 := by
          unfold d_ps at hps
          split at hps
          · next c41 => cases hps; exact ⟨.one hW c41 (by decide), by simp only [b_sz]; omega, trivial⟩
          · split at hps
            · next cn =>
              have gn := d_G.one hW cn (by decide)
              have := gn.1
              exact d_pm_Z hW _ _ _ gn (by simp only [b_sz]; omega) (show b_pa T (.branch (24 + 32 * (p + 3)) b_0 b_0) from ⟨by omega, by omega, rfl, trivial⟩) hps
            · cases hps
        split at h
        · next c58 =>
          split at h
          · cases h
          · next e3 c3 p3 hb =>
            cases h
            have g2 := d_G.one hW c58 (by decide)
            obtain ⟨z0, z1, z2, z3, z4, z5, z6, z7⟩ := d_bk_Z hW hI hst g2.1 hb
            have g3 := (g1.trans hp.1).trans g2
            have hs := hp.2.1
            refine ⟨by omega, z1, z2.trans (g3.bal (by omega)), by rw [b_sz_add]; omega, ?_⟩
            unfold b_sk
            exact ⟨rfl, by omega, Or.inr (Or.inr (Or.inr (Or.inr (Or.inr (Or.inr (Or.inr ⟨by omega, b_pa_blk hp.2.2 z5 z6 z7 z4⟩))))))⟩
        · cases h
    · cases h
  · cases h
theorem d_s1_Z (hW : d_W mk T) (hI : ∀ p, mk p = 7 → mk (p + 1) ≠ 8) (hst : d_Zt mk T st) {p0 p p' : Nat} {c c' : aB} (hq : d_Zs mk T p0 c p) (h : d_s1 mk pl st c p = .ok (c', p')) : d_Zs mk T p0 c' p' ∧ p < p' ∧ c' ≠ b_0 ∧ (c ≠ b_0 → d_bt c' 0 = d_bt c 0) := by
  unfold d_s1 at h
  split at h
  · next c1 =>
    split at h
    · cases h
    · next e2 c2 p2 hi =>
      cases h
      obtain ⟨z0, z1, z2, z3, z4, z5⟩ := d_if_Z hW hI hst _ _ (Or.inl c1) hi
      refine ⟨hq.add ⟨z0, z1, z2, z3, ?_⟩, z0, b_add_ne, d_bt_add⟩
      unfold b_sk
      subst z4
      exact ⟨rfl, by omega, Or.inr (Or.inr (Or.inr (Or.inr (Or.inr (Or.inl ⟨by omega, by rw [show (6 + 32 * p) / 32 = p from by omega]; exact c1, z5⟩)))))⟩
  split at h
  · next c1 =>
    split at h
    · cases h
    · next e2 c2 p2 hi =>
      cases h
      obtain ⟨a0, a1, a2, a3, a4, a5, e1, c1', e2, c2', a6, k1, k2, k3, k4, k5, k6, k7, k8⟩ := d_cd_Z hW hI hst (Or.inr (Or.inr c1)) hi
      refine ⟨hq.add ⟨a0, a1, a2, a3, ?_⟩, a0, b_add_ne, d_bt_add⟩
      unfold b_sk
      subst a4
      refine ⟨rfl, by omega, Or.inr (Or.inr (Or.inr (Or.inr (Or.inr (Or.inr (Or.inl ⟨by omega, by rw [show (7 + 32 * p) / 32 = p from by omega]; exact c1, ?_⟩))))))⟩
      subst a6
      unfold b_sk
      refine ⟨k1, k2, k3, k4, ?_⟩
      unfold b_sk
      exact ⟨k5, k6, k7, k8, rfl⟩
  split at h
  · next c1 =>
    split at h
    · cases h
    · next e2 c2 p2 hi =>
      cases h
      have z := d_df_Z hW hI hst c1 hi
      exact ⟨hq.add z, z.1, b_add_ne, d_bt_add⟩
  · exact d_li_Z hW hq h
theorem d_sl_Z (hW : d_W mk T) (hI : ∀ p, mk p = 7 → mk (p + 1) ≠ 8) (hst : d_Zt mk T st) {cl : Int32} {p0 : Nat} : ∀ (i : Nat) (c : aB) (p : Nat) {c' : aB} {p' : Nat}, d_Zs mk T p0 c p → (mk p = cl → c ≠ b_0) → d_sl mk pl st cl i c p = .ok (c', p') → ∃ p2, p' = p2 + 1 ∧ mk p2 = cl ∧ d_Zs mk T p0 c' p2 ∧ (p0 < p ∨ mk p ≠ cl → p0 < p2) ∧ (0 < i → c' ≠ b_0) ∧ (c ≠ b_0 → c' ≠ b_0 ∧ d_bt c' 0 = d_bt c 0)
  | 0, c, p, c', p', hq, hc, h => by
    unfold d_sl at h
    split at h
    · next c1 => cases h; exact ⟨p, rfl, c1, hq, fun z => z.resolve_right (fun q => q c1), fun z => by omega, fun z => ⟨z, rfl⟩⟩
    · cases h
  | i + 1, c, p, c', p', hq, hc, h => by
    unfold d_sl at h
    split at h
    · next c1 => cases h; exact ⟨p, rfl, c1, hq, fun z => z.resolve_right (fun q => q c1), fun z => hc c1, fun z => ⟨z, rfl⟩⟩
    · split at h
      · cases h
      · next c2 p2 h1 =>
        obtain ⟨z1, z2, z3, z4⟩ := d_s1_Z hW hI hst hq h1
        obtain ⟨p3, r1, r2, r3, r4, r5, r6⟩ := d_sl_Z hW hI hst i _ _ z1 (fun _ => z3) h
        have := hq.1
        exact ⟨p3, r1, r2, r3, fun _ => r4 (Or.inl (by omega)), fun _ => (r6 z3).1, fun q => ⟨(r6 z3).1, (r6 z3).2.trans (z4 q)⟩⟩
end BKS
theorem d_st_Z (hW : d_W mk T) (hI : ∀ p, mk p = 7 → mk (p + 1) ≠ 8) : ∀ (r : Nat), d_Zt mk T (d_st mk pl r 8)
  | 0 => fun p e c p' _ _ h => by unfold d_st at h; cases h
  | r + 1 => fun p e c p' h8 hp h => by
    unfold d_st at h
    split at h
    · cases h
    · next c2 p2 hs =>
      cases h
      obtain ⟨p3, r1, r2, ⟨s1, s2, s3, s4, s5⟩, r4, r5, r6⟩ := d_sl_Z hW hI (d_st_Z hW hI r) _ _ _ (⟨Nat.le_refl _, hp, rfl, by simp only [b_sz]; omega, by unfold b_sk; rfl⟩ : d_Zs mk T p b_0 p) (fun z => absurd z h8) hs
      subst r1
      have hT : p3 + 1 < T := hW p3 (by rw [r2]; decide) (by rw [r2]; decide)
      have hb : d_bal mk (p3 + 1) = d_bal mk p3 + (-1) := by
        show d_bal mk p3 + _ = _
        rw [if_neg (by rw [r2]; decide), if_pos r2]
      have hc := r5 (by decide)
      exact ⟨by omega, hT, by omega, by omega, s5, by omega, hc, by rw [d_bt_n0 hc]; omega⟩
/-- the whole -/
theorem d_st_W (hW : d_W mk T) (hI : ∀ p, mk p = 7 → mk (p + 1) ≠ 8) (hT : 0 < T) {r : Nat} {e : Nat} {c : aB} {p' : Nat} (h : d_st mk pl (r + 1) 9 0 = .ok (e, c, p')) : ∃ p2, p' = p2 + 1 ∧ mk p2 = 9 ∧ p2 < T ∧ b_sz c ≤ 2 * p2 ∧ b_sk mk T c 1 ∧ e = 9 + 32 * d_bt c 0 ∧ (c = b_0 → p2 = 0) := by
  unfold d_st at h
  split at h
  · cases h
  · next c2 p3 hs =>
    cases h
    by_cases c9 : mk 0 = 9
    · have : d_sl mk pl (d_st mk pl r 8) 9 120 b_0 0 = .ok (b_0, 1) := by unfold d_sl; rw [if_pos c9]
      rw [this] at hs
      cases hs
      exact ⟨0, rfl, c9, hT, by simp [b_sz], by unfold b_sk; rfl, rfl, fun _ => rfl⟩
    · obtain ⟨p3, r1, r2, ⟨s1, s2, s3, s4, s5⟩, r4, r5, r6⟩ := d_sl_Z hW hI (d_st_Z hW hI r) _ _ _ (⟨Nat.le_refl _, hT, rfl, by simp only [b_sz]; omega, by unfold b_sk; rfl⟩ : d_Zs mk T 0 b_0 0) (fun z => absurd z c9) hs
      exact ⟨p3, r1, r2, s2, by omega, s5, rfl, fun z => absurd z (r5 (by decide))⟩
end SNS
