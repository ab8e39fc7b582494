/-! HOW MUCH IS WRITTEN: a bound by the tokens, and how deep blocks lie -/
/-- what a node writes at most, w being the tokens' lengths -/
def b_o (w : Nat → Nat) (e : Nat) : Nat := if e % 32 = 9 then 24 else if e % 32 = 5 then 19 else if 11 ≤ e % 32 then w (e / 32) + 6 else w (e / 32) + 26
def b_l (w : Nat → Nat) : aB → Nat
  | .leaf _ => 0
  | .branch e c s => b_o w e + b_l w c + b_l w s
/-- how deep blocks lie in each other -/
def b_dp : aB → Nat
  | .leaf _ => 0
  | .branch e c s => max (b_dp c + (if e % 32 = 9 then 1 else 0)) (b_dp s)
def b_P (w : Nat → Nat) : Nat → Nat
  | 0 => 0
  | p + 1 => b_P w p + w p + 19
theorem b_P_mono {w : Nat → Nat} {p : Nat} : ∀ {d : Nat}, b_P w p ≤ b_P w (p + d)
  | 0 => Nat.le_refl _
  | d + 1 => Nat.le_trans (b_P_mono (d := d)) (by show b_P w (p + d) ≤ b_P w (p + d) + w (p + d) + 19; omega)
theorem b_P_s {w : Nat → Nat} {p : Nat} : b_P w (p + 1) = b_P w p + w p + 19 := rfl
theorem b_P_s2 {w : Nat → Nat} {p : Nat} : b_P w (p + 2) = b_P w p + w p + w (p + 1) + 38 := by
  rw [show p + 2 = p + 1 + 1 from rfl, b_P_s, b_P_s]; omega
theorem b_P_s3 {w : Nat → Nat} {p : Nat} : b_P w (p + 3) = b_P w p + w p + w (p + 1) + w (p + 2) + 57 := by
  rw [show p + 3 = p + 2 + 1 from rfl, b_P_s, b_P_s2]; omega
theorem b_o_x {w : Nat → Nat} {k p : Nat} (h : 11 ≤ k) (h2 : k < 32) : b_o w (k + 32 * p) = w p + 6 := by
  unfold b_o
  rw [if_neg (by omega), if_neg (by omega), if_pos (by omega), show (k + 32 * p) / 32 = p from by omega]
theorem b_o_s {w : Nat → Nat} {k p : Nat} (h : k < 11) (h5 : k ≠ 5) (h9 : k ≠ 9) : b_o w (k + 32 * p) = w p + 26 := by
  unfold b_o
  rw [if_neg (by omega), if_neg (by omega), if_neg (by omega), show (k + 32 * p) / 32 = p from by omega]
theorem b_o_5 {w : Nat → Nat} {p : Nat} : b_o w (5 + 32 * p) = 19 := by
  unfold b_o
  rw [if_neg (by omega), if_pos (by omega)]
theorem b_o_9 {w : Nat → Nat} {e : Nat} (h : e % 32 = 9) : b_o w e = 24 := if_pos h
theorem b_l_add {w : Nat → Nat} : ∀ {s : aB} {e : Nat} {c : aB}, b_l w (b_add s e c) = b_l w s + b_o w e + b_l w c
  | .leaf _, _, _ => by simp [b_add, b_l]
  | .branch _ _ s, _, _ => by simp only [b_add, b_l, b_l_add (s := s)]; omega
theorem b_dp_add {r : Nat} : ∀ {s : aB} {e : Nat} {c : aB}, b_dp s ≤ r → b_dp (.branch e c b_0) ≤ r → b_dp (b_add s e c) ≤ r
  | .leaf _, _, _, _, h => h
  | .branch _ _ s, _, _, h, h2 => by
    simp only [b_add, b_dp] at *
    have := b_dp_add (s := s) (r := r) (by omega) (by simp only [b_dp]; omega)
    omega
theorem b_ok_dp {mk : Nat → Int32} {T : Nat} : ∀ {F : aB}, b_ok mk T F → b_dp F = 0
  | .leaf _, _ => rfl
  | .branch e c s, h => by
    have h1 := h.1.ge
    simp only [b_dp, b_ok_dp h.2.2.1, b_ok_dp h.2.2.2]
    rw [if_neg (by omega)]
    rfl
section WGT
variable {mk : Nat → Int32} {pl : Nat → Nat} {w : Nat → Nat}
/-- an expression, with what is left over -/
def b_E (w : Nat → Nat) (p e : Nat) (c : aB) (p' : Nat) : Prop := b_o w e + b_l w c + 13 + b_P w p ≤ b_P w p'
section LVW
variable {full : Bool} {up : Nat → Nat → aG}
theorem d_bl_w (hu : ∀ s p e c p', 1 ≤ s → up s p = .ok (e, c, p') → b_E w p e c p') {s p0 : Nat} (hs4 : s = 1 ∨ s = 2 ∨ s = 4 ∨ s = 5 ∨ s = 6) : ∀ (i e : Nat) (c : aB) (p : Nat) {e' : Nat} {c' : aB} {p' : Nat}, b_E w p0 e c p → d_bl mk pl full up s i e c p = .ok (e', c', p') → b_E w p0 e' c' p'
  | 0, e, c, p, e', c', p', hq, h => by cases h; exact hq
  | i + 1, e, c, p, e', c', p', hq, h => by
    unfold d_bl at h
    split at h
    · next c1 =>
      split at h
      · cases h
      · split at h
        · cases h
        · next e2 c2 p2 hup =>
          split at h
          · cases h
          · next e3 c3 p3 hh =>
            obtain ⟨rfl, rfl, rfl, k⟩ := d_hc_ok hh
            have q2 := hu _ _ _ _ _ (by omega) hup
            refine d_bl_w hu hs4 i _ _ _ ?_ h
            have m : b_o w (d_kb s + 32 * p) = w p + 6 := by rcases hs4 with r | r | r | r | r <;> (subst r; exact b_o_x (by decide) (by decide))
            unfold b_E at *
            rw [b_P_s] at q2
            simp only [b_l, m]
            omega
    · cases h; exact hq
theorem d_el_w (hu : ∀ s p e c p', 1 ≤ s → up s p = .ok (e, c, p') → b_E w p e c p') {cl : Int32} {n : Nat} : ∀ (i : Nat) (c : aB) (p : Nat) {c' : aB} {p' : Nat}, b_l w c + n ≤ b_P w p → d_el mk pl up cl i c p = .ok (c', p') → b_l w c' + n ≤ b_P w p'
  | 0, c, p, c', p', hq, h => by
    unfold d_el at h
    split at h
    · cases h; rw [b_P_s]; omega
    · cases h
  | i + 1, c, p, c', p', hq, h => by
    unfold d_el at h
    split at h
    · split at h
      · cases h
      · next e2 c2 p2 hup =>
        have q2 := hu _ _ _ _ _ (by omega) hup
        refine d_el_w hu i _ _ ?_ h
        unfold b_E at q2
        rw [b_P_s] at q2
        rw [b_l_add]
        omega
    · split at h
      · cases h; rw [b_P_s]; omega
      · cases h
theorem d_es_w (hu : ∀ s p e c p', 1 ≤ s → up s p = .ok (e, c, p') → b_E w p e c p') {cl : Int32} {n : Nat} {c : aB} {p : Nat} {c' : aB} {p' : Nat} (hq : b_l w c + n ≤ b_P w p) (h : d_es mk pl up cl c p = .ok (c', p')) : b_l w c' + n ≤ b_P w p' := by
  unfold d_es at h
  split at h
  · cases h; rw [b_P_s]; omega
  · split at h
    · cases h
    · next e2 c2 p2 hup =>
      have q2 := hu _ _ _ _ _ (by omega) hup
      refine d_el_w hu _ _ _ ?_ h
      unfold b_E at q2
      rw [b_l_add]
      omega
theorem d_at_w (hu : ∀ s p e c p', 1 ≤ s → up s p = .ok (e, c, p') → b_E w p e c p') {p e p' : Nat} {c : aB} (h : d_at mk pl full up p = .ok (e, c, p')) : b_E w p e c p' := by
  have lf : ∀ k, k = 20 ∨ k = 21 ∨ k = 22 → b_E w p (k + 32 * p) b_0 (p + 1) := fun k hk => by
    unfold b_E
    rw [b_P_s, b_o_x (by omega) (by omega)]
    simp only [b_l]
    omega
  unfold d_at at h
  split at h
  · cases h; exact lf 20 (by decide)
  split at h
  · cases h; exact lf 21 (by decide)
  split at h
  · cases h; exact lf 22 (by decide)
  split at h
  · split at h
    · cases h
    · split at h
      · cases h
      · next e2 c2 p2 hup =>
        split at h
        · cases h
          have q2 := hu _ _ _ _ _ (by omega) hup
          unfold b_E at *
          rw [b_P_s] at *
          omega
        · cases h
  split at h
  · split at h
    · cases h
    · split at h
      · cases h
      · next c2 p2 hes =>
        obtain ⟨rfl, rfl, rfl, k⟩ := d_hc_ok h
        have q := d_es_w (w := w) (n := b_P w (p + 1)) hu (by simp [b_l]) hes
        unfold b_E
        rw [b_P_s] at q
        rw [b_o_x (by decide) (by decide)]
        omega
  · cases h
theorem d_p1_w (hu : ∀ s p e c p', 1 ≤ s → up s p = .ok (e, c, p') → b_E w p e c p') {p0 p e p' e' : Nat} {c c' : aB} (hq : b_E w p0 e c p) (h : d_p1 mk pl full up e c p = .ok (e', c', p')) : b_E w p0 e' c' p' := by
  unfold d_p1 at h
  unfold b_E at hq
  split at h
  · split at h
    · obtain ⟨rfl, rfl, rfl, k⟩ := d_hc_ok h
      unfold b_E
      rw [b_o_x (by decide) (by decide), b_P_s2]
      simp only [b_l]
      omega
    · cases h
  split at h
  · split at h
    · cases h
    · split at h
      · cases h
      · next c2 p2 hes =>
        obtain ⟨rfl, rfl, rfl, k⟩ := d_hc_ok h
        have q := d_es_w (w := w) (n := 32 + w p + b_P w p0) hu (by rw [b_P_s]; simp only [b_l]; omega) hes
        unfold b_E
        rw [b_o_x (by decide) (by decide)]
        omega
  · split at h
    · cases h
    · split at h
      · cases h
      · next e2 c2 p2 hup =>
        split at h
        · obtain ⟨rfl, rfl, rfl, k⟩ := d_hc_ok h
          have q2 := hu _ _ _ _ _ (by omega) hup
          unfold b_E at *
          rw [b_P_s] at *
          rw [b_o_x (by decide) (by decide)]
          simp only [b_l]
          omega
        · cases h
theorem d_pl_w (hu : ∀ s p e c p', 1 ≤ s → up s p = .ok (e, c, p') → b_E w p e c p') {p0 : Nat} : ∀ (i e : Nat) (c : aB) (p : Nat) {e' : Nat} {c' : aB} {p' : Nat}, b_E w p0 e c p → d_pl mk pl full up i e c p = .ok (e', c', p') → b_E w p0 e' c' p'
  | 0, e, c, p, e', c', p', hq, h => by cases h; exact hq
  | i + 1, e, c, p, e', c', p', hq, h => by
    unfold d_pl at h
    split at h
    · split at h
      · cases h
      · next e2 c2 p2 hp1 => exact d_pl_w hu i _ _ _ (d_p1_w hu hq hp1) h
    · cases h; exact hq
theorem d_pr_w (hu : ∀ s p e c p', 1 ≤ s → up s p = .ok (e, c, p') → b_E w p e c p') {m : Int32} {k s p : Nat} {x : aG} (hk : 11 ≤ k ∧ k < 32) (hs : 1 ≤ s) {e' : Nat} {c' : aB} {p' : Nat} (hx : x = .ok (e', c', p') → b_E w p e' c' p') (h : d_pr mk pl full up m k s x p = .ok (e', c', p')) : b_E w p e' c' p' := by
  unfold d_pr at h
  split at h
  · split at h
    · cases h
    · split at h
      · cases h
      · next e c p2 hup =>
        obtain ⟨rfl, rfl, rfl, kk⟩ := d_hc_ok h
        have q2 := hu _ _ _ _ _ (by omega) hup
        unfold b_E at *
        rw [b_P_s] at q2
        rw [b_o_x hk.1 hk.2]
        simp only [b_l]
        omega
  · exact hx h
theorem d_t_w (hu : ∀ s p e c p', 1 ≤ s → up s p = .ok (e, c, p') → b_E w p e c p') : ∀ (j : Nat), j ≤ 7 → ∀ (p : Nat) {e' : Nat} {c' : aB} {p' : Nat}, d_t mk pl full up j p = .ok (e', c', p') → b_E w p e' c' p'
  | 0, _, p, e', c', p', h => by
    unfold d_t at h
    split at h
    · cases h
    · next e c p2 hat => exact d_pl_w hu _ _ _ _ (d_at_w hu hat) h
  | j + 1, hj, p, e', c', p', h => by
    unfold d_t at h
    split at h
    · next cj =>
      subst cj
      exact d_pr_w hu (by decide) (by decide) (fun z => d_t_w hu 0 (by omega) p z) h
    split at h
    · next cj =>
      subst cj
      exact d_pr_w hu (by decide) (by decide) (fun z => d_t_w hu 4 (by omega) p z) h
    · next cj1 cj =>
      split at h
      · cases h
      · next e c p2 hd => exact d_bl_w hu (by omega) _ _ _ _ (d_t_w hu j (by omega) p hd) h
end LVW
theorem d_ex_w : ∀ (r s p e : Nat) (c : aB) (p' : Nat), d_ex mk pl r s p = .ok (e, c, p') → 1 ≤ s → b_E w p e c p'
  | 0, s, p, e, c, p', h, hs => d_t_w (fun _ _ _ _ _ _ z => by cases z) (8 - s) (by omega) p h
  | r + 1, s, p, e, c, p', h, hs => d_t_w (fun s' _ _ _ _ k z => d_ex_w r s' _ _ _ _ z k) (8 - s) (by omega) p h
variable {T : Nat}
/-- one expression weighs so, and holds no block -/
theorem d_ex_b (hW : d_W mk T) {p e p' : Nat} {c : aB} (h : d_ex mk pl 12 1 p = .ok (e, c, p')) : b_o w e + b_l w c + 13 + b_P w p ≤ b_P w p' ∧ b_dp (.branch e c b_0) = 0 := by
  refine ⟨d_ex_w _ _ _ _ _ _ h (by decide), ?_⟩
  have q := d_ex_Q hW _ _ _ _ _ _ h (by decide)
  exact b_ok_dp (mk := mk) (T := T) ⟨q.2.2.1, q.2.2.2.1, q.2.2.2.2.1, trivial⟩
theorem b_dp_up {k p e : Nat} {c : aB} (hk : k < 9) (h : b_dp (.branch e c b_0) = 0) : b_dp (.branch (k + 32 * p) (.branch e c b_0) b_0) = 0 := by
  rw [b_dp, h, if_neg (by omega)]
  rfl
theorem b_dp_lf {k p : Nat} (hk : k < 32) (h9 : k ≠ 9) : b_dp (.branch (k + 32 * p) b_0 b_0) = 0 := by
  simp only [b_dp]
  rw [if_neg (by omega)]
  rfl
/-- a small statement: what ends it is still to come -/
theorem d_sm_w (hW : d_W mk T) {p e p' : Nat} {c : aB} (h : d_sm mk pl p = .ok (e, c, p')) : b_o w e + b_l w c + b_P w p ≤ b_P w p' + 19 ∧ b_dp (.branch e c b_0) = 0 := by
  have lf : ∀ k, k < 4 → b_o w (k + 32 * p) + b_l w b_0 + b_P w p ≤ b_P w (p + 1) + 19 ∧ b_dp (.branch (k + 32 * p) b_0 b_0) = 0 := fun k hk => by
    refine ⟨?_, b_dp_lf (by omega) (by omega)⟩
    rw [b_o_s (by omega) (by omega) (by omega), b_P_s]
    simp only [b_l]
    omega
  unfold d_sm at h
  split at h
  · cases h; exact lf 1 (by decide)
  split at h
  · cases h; exact lf 2 (by decide)
  split at h
  · split at h
    · cases h; exact lf 3 (by decide)
    · split at h
      · cases h
      · next e1 c1 p2 hx =>
        cases h
        obtain ⟨q1, q2⟩ := d_ex_b (w := w) hW hx
        refine ⟨?_, b_dp_up (by decide) q2⟩
        rw [b_P_s] at q1
        rw [b_o_s (by decide) (by decide) (by decide)]
        simp only [b_l]
        omega
  split at h
  · split at h
    · cases h
    · next e1 c1 p2 hx =>
      cases h
      obtain ⟨q1, q2⟩ := d_ex_b (w := w) hW hx
      refine ⟨?_, b_dp_up (by decide) q2⟩
      rw [b_P_s2] at q1
      rw [b_o_s (by decide) (by decide) (by decide)]
      simp only [b_l]
      omega
  · split at h
    · cases h
    · next e1 c1 p2 hx =>
      cases h
      obtain ⟨q1, q2⟩ := d_ex_b (w := w) hW hx
      refine ⟨?_, b_dp_up (by decide) q2⟩
      rw [b_o_5]
      simp only [b_l]
      omega
theorem d_ll_w (hW : d_W mk T) {n r : Nat} : ∀ (i : Nat) (c : aB) (p : Nat) {c' : aB} {p' : Nat}, b_l w c + n ≤ b_P w p + 19 → b_dp c ≤ r → d_ll mk pl i c p = .ok (c', p') → b_l w c' + n ≤ b_P w p' ∧ b_dp c' ≤ r
  | 0, c, p, c', p', hq, hd, h => by
    unfold d_ll at h
    split at h
    · cases h; rw [b_P_s]; exact ⟨by omega, hd⟩
    · cases h
  | i + 1, c, p, c', p', hq, hd, h => by
    unfold d_ll at h
    split at h
    · split at h
      · cases h; rw [b_P_s2]; exact ⟨by omega, hd⟩
      · split at h
        · cases h
        · next e2 c2 p2 hs =>
          obtain ⟨q1, q2⟩ := d_sm_w (w := w) hW hs
          rw [b_P_s] at q1
          exact d_ll_w hW i _ _ (by rw [b_l_add]; omega) (b_dp_add hd (by omega)) h
    · split at h
      · cases h; rw [b_P_s]; exact ⟨by omega, hd⟩
      · cases h
theorem d_li_w (hW : d_W mk T) {n r p : Nat} {c c' : aB} {p' : Nat} (hq : b_l w c + n ≤ b_P w p) (hd : b_dp c ≤ r) (h : d_li mk pl c p = .ok (c', p')) : b_l w c' + n ≤ b_P w p' ∧ b_dp c' ≤ r := by
  unfold d_li at h
  split at h
  · cases h
  · next e2 c2 p2 hs =>
    obtain ⟨q1, q2⟩ := d_sm_w (w := w) hW hs
    exact d_ll_w hW _ _ _ (by rw [b_l_add]; omega) (b_dp_add hd (by omega)) h
/-- the statements of a block weigh so, and lie so deep -/
def d_Yt (w : Nat → Nat) (r : Nat) (st : Nat → aG) : Prop := ∀ p e c p', st p = .ok (e, c, p') → b_l w c + b_P w p ≤ b_P w p' ∧ b_dp c ≤ r ∧ e % 32 = 9
section BKW
variable {st : Nat → aG} {r : Nat}
theorem d_bk_w (hW : d_W mk T) (hst : d_Yt w r st) {p e p' : Nat} {c : aB} (h : d_bk mk pl st p = .ok (e, c, p')) : b_l w c + b_P w p ≤ b_P w p' ∧ b_dp c ≤ r ∧ e % 32 = 9 := by
  unfold d_bk at h
  split at h
  · split at h
    · obtain ⟨q1, q2, q3⟩ := hst _ _ _ _ h
      rw [b_P_s2] at q1
      exact ⟨by omega, q2, q3⟩
    · cases h
  · split at h
    · cases h
    · next c2 p2 hl =>
      cases h
      obtain ⟨q1, q2⟩ := d_li_w (w := w) (n := b_P w p) (r := 0) hW (by simp [b_l]) (by simp [b_dp]) hl
      exact ⟨q1, by omega, by omega⟩
/-- a block as a part -/
theorem b_dp_bk {e : Nat} {c s : aB} (he : e % 32 = 9) (hc : b_dp c ≤ r) (hs : b_dp s ≤ r + 1) : b_dp (.branch e c s) ≤ r + 1 := by
  rw [b_dp, if_pos he]
  omega
theorem d_cd_w (hW : d_W mk T) (hst : d_Yt w r st) {k p e p' : Nat} {c : aB} (hk : k = 6 ∨ k = 7) (h : d_cd mk pl st k p = .ok (e, c, p')) : e = k + 32 * p ∧ b_o w e + b_l w c + b_P w p ≤ b_P w p' ∧ b_dp c ≤ r + 1 := by
  unfold d_cd at h
  split at h
  · cases h
  · next e1 c1 p1 hx =>
    obtain ⟨q1, q2⟩ := d_ex_b (w := w) hW hx
    split at h
    · split at h
      · cases h
      · next e2 c2 p2 hb =>
        cases h
        obtain ⟨z1, z2, z3⟩ := d_bk_w hW hst hb
        refine ⟨rfl, ?_, ?_⟩
        · rw [b_P_s] at *
          rw [b_o_s (by omega) (by omega) (by omega)]
          simp only [b_l, b_o_9 z3]
          omega
        · have := b_dp_bk (e := e2) (s := b_0) z3 z2 (by simp [b_dp])
          simp only [b_dp] at *
          omega
    · cases h
theorem b_dp_6 {k p : Nat} {c : aB} (hk : k < 9) (h : b_dp c ≤ r) : b_dp (.branch (k + 32 * p) c b_0) ≤ r := by
  simp only [b_dp]
  rw [if_neg (by omega)]
  omega
theorem d_el_wi (hW : d_W mk T) (hst : d_Yt w r st) {p p2 e p' : Nat} {c cc : aB} (h0 : b_o w (6 + 32 * p) + b_l w cc + b_P w p ≤ b_P w p2) (h1 : b_dp cc ≤ r + 1) (h : (if mk p2 = 13 then (if mk (p2 + 1) = 58 then (match d_bk mk pl st (p2 + 2) with
        | .error x => .error x
        | .ok (e3, c3, p3) => .ok (6 + 32 * p, b_add cc e3 c3, p3)) else .error (9, pl (p2 + 1))) else .ok (6 + 32 * p, cc, p2) : aG) = .ok (e, c, p')) : e = 6 + 32 * p ∧ b_o w e + b_l w c + b_P w p ≤ b_P w p' ∧ b_dp c ≤ r + 1 := by
  split at h
  · split at h
    · split at h
      · cases h
      · next e3 c3 p3 hb =>
        cases h
        obtain ⟨z1, z2, z3⟩ := d_bk_w hW hst hb
        rw [b_P_s2] at z1
        refine ⟨rfl, ?_, b_dp_add h1 (b_dp_bk z3 z2 (by simp [b_dp]))⟩
        rw [b_l_add, b_o_9 z3]
        omega
    · cases h
  · cases h
    exact ⟨rfl, h0, h1⟩
theorem d_if_w (hW : d_W mk T) (hst : d_Yt w r st) : ∀ (i p : Nat) {e : Nat} {c : aB} {p' : Nat}, d_if mk pl st i p = .ok (e, c, p') → e = 6 + 32 * p ∧ b_o w e + b_l w c + b_P w p ≤ b_P w p' ∧ b_dp c ≤ r + 1
  | 0, p, e, c, p', h => by
    unfold d_if at h
    split at h
    · cases h
    · next e0 c0 p2 hc =>
      obtain ⟨rfl, a1, a2⟩ := d_cd_w hW hst (Or.inl rfl) hc
      exact d_el_wi hW hst a1 a2 h
  | i + 1, p, e, c, p', h => by
    unfold d_if at h
    split at h
    · cases h
    · next e0 c0 p2 hc =>
      obtain ⟨rfl, a1, a2⟩ := d_cd_w hW hst (Or.inl rfl) hc
      dsimp only at h
      split at h
      · split at h
        · cases h
        · next e3 c3 p3 hi =>
          cases h
          obtain ⟨z0, z1, z2⟩ := d_if_w hW hst i p2 hi
          refine ⟨rfl, ?_, b_dp_add a2 ?_⟩
          · rw [b_l_add]
            omega
          · subst z0
            exact b_dp_6 (by decide) z2
      · exact d_el_wi hW hst a1 a2 h
theorem d_pm_w {n : Nat} : ∀ (i : Nat) (c : aB) (p : Nat) {c' : aB} {p' : Nat}, b_l w c + n ≤ b_P w p → b_dp c ≤ r → d_pm mk pl i c p = .ok (c', p') → b_l w c' + n ≤ b_P w p' ∧ b_dp c' ≤ r
  | 0, c, p, c', p', h1, h2, h => by
    unfold d_pm at h
    split at h
    · cases h; rw [b_P_s]; exact ⟨by omega, h2⟩
    · cases h
  | i + 1, c, p, c', p', h1, h2, h => by
    unfold d_pm at h
    split at h
    · split at h
      · refine d_pm_w i _ _ ?_ (b_dp_add h2 (by rw [b_dp_lf (by decide) (by decide)]; omega)) h
        rw [b_l_add, b_o_x (by decide) (by decide), b_P_s2]
        simp only [b_l]
        omega
      · cases h
    · split at h
      · cases h; rw [b_P_s]; exact ⟨by omega, h2⟩
      · cases h
theorem d_df_w (hW : d_W mk T) (hst : d_Yt w r st) {p e p' : Nat} {c : aB} (h : d_df mk pl st p = .ok (e, c, p')) : b_o w e + b_l w c + b_P w p ≤ b_P w p' ∧ b_dp (.branch e c b_0) ≤ r + 1 := by
  unfold d_df at h
  split at h
  · split at h
    · split at h
      · cases h
      · next c2 p2 hps =>
        have hp : b_l w c2 + b_P w (p + 3) ≤ b_P w p2 ∧ b_dp c2 ≤ r + 1 := by
          unfold d_ps at hps
          split at hps
          · cases hps; rw [b_P_s (p := p + 3)]; exact ⟨by simp only [b_l]; omega, by simp [b_dp]⟩
          · split at hps
            · refine d_pm_w _ _ _ ?_ (by rw [b_dp_lf (by decide) (by decide)]; omega) hps
              rw [b_P_s (p := p + 3)]
              simp only [b_l]
              rw [b_o_x (by decide) (by decide)]
              omega
            · cases hps
        rw [b_P_s3] at hp
        split at h
        · split at h
          · cases h
          · next e3 c3 p3 hb =>
            cases h
            obtain ⟨z1, z2, z3⟩ := d_bk_w hW hst hb
            rw [b_P_s] at z1
            refine ⟨?_, b_dp_6 (by decide) (b_dp_add hp.2 (b_dp_bk z3 z2 (by simp [b_dp])))⟩
            rw [b_l_add, b_o_9 z3, b_o_s (by decide) (by decide) (by decide)]
            omega
        · cases h
    · cases h
  · cases h
theorem d_s1_w (hW : d_W mk T) (hst : d_Yt w r st) {n p p' : Nat} {c c' : aB} (hq : b_l w c + n ≤ b_P w p) (hd : b_dp c ≤ r + 1) (h : d_s1 mk pl st c p = .ok (c', p')) : b_l w c' + n ≤ b_P w p' ∧ b_dp c' ≤ r + 1 := by
  unfold d_s1 at h
  split at h
  · split at h
    · cases h
    · next e2 c2 p2 hi =>
      cases h
      obtain ⟨rfl, z1, z2⟩ := d_if_w hW hst _ _ hi
      exact ⟨by rw [b_l_add]; omega, b_dp_add hd (b_dp_6 (by decide) z2)⟩
  split at h
  · split at h
    · cases h
    · next e2 c2 p2 hi =>
      cases h
      obtain ⟨rfl, z1, z2⟩ := d_cd_w hW hst (Or.inr rfl) hi
      exact ⟨by rw [b_l_add]; omega, b_dp_add hd (b_dp_6 (by decide) z2)⟩
  split at h
  · split at h
    · cases h
    · next e2 c2 p2 hi =>
      cases h
      obtain ⟨z1, z2⟩ := d_df_w hW hst hi
      exact ⟨by rw [b_l_add]; omega, b_dp_add hd z2⟩
  · exact d_li_w hW hq hd h
theorem d_sl_w (hW : d_W mk T) (hst : d_Yt w r st) {cl : Int32} {n : Nat} : ∀ (i : Nat) (c : aB) (p : Nat) {c' : aB} {p' : Nat}, b_l w c + n ≤ b_P w p → b_dp c ≤ r + 1 → d_sl mk pl st cl i c p = .ok (c', p') → b_l w c' + n + 19 ≤ b_P w p' ∧ b_dp c' ≤ r + 1
  | 0, c, p, c', p', hq, hd, h => by
    unfold d_sl at h
    split at h
    · cases h; rw [b_P_s]; exact ⟨by omega, hd⟩
    · cases h
  | i + 1, c, p, c', p', hq, hd, h => by
    unfold d_sl at h
    split at h
    · cases h; rw [b_P_s]; exact ⟨by omega, hd⟩
    · split at h
      · cases h
      · next c2 p2 h1 =>
        obtain ⟨z1, z2⟩ := d_s1_w hW hst hq hd h1
        exact d_sl_w hW hst i _ _ z1 z2 h
end BKW
theorem d_st_w (hW : d_W mk T) {cl : Int32} : ∀ (r : Nat), d_Yt w r (d_st mk pl r cl)
  | 0 => fun p e c p' h => by unfold d_st at h; cases h
  | r + 1 => fun p e c p' h => by
    unfold d_st at h
    split at h
    · cases h
    · next c2 p2 hs =>
      cases h
      obtain ⟨q1, q2⟩ := d_sl_w (w := w) (n := b_P w p) hW (d_st_w hW (cl := 8) r) _ _ _ (by simp [b_l]) (by simp [b_dp]) hs
      exact ⟨by omega, q2, by omega⟩
end WGT
