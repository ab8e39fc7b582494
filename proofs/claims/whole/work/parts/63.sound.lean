/-! THE GRAMMAR: what a good answer is like -/
def b_sz : aB → Nat
  | .leaf _ => 0
  | .branch _ c s => b_sz c + 1 + b_sz s
theorem b_sz_add : ∀ {s : aB} {e : Nat} {c : aB}, b_sz (b_add s e c) = b_sz s + b_sz c + 1
  | .leaf _, _, _ => by simp [b_add, b_sz]
  | .branch _ _ s, _, _ => by simp only [b_add, b_sz, b_sz_add (s := s)]; omega
section SND
variable {mk : Nat → Int32} {pl : Nat → Nat} {T : Nat}
/-- a sound node of an expression -/
def b_sh (mk : Nat → Int32) (e : Nat) (c : aB) : Prop :=
  ((e % 32 = 11 ∨ e % 32 = 12 ∨ e % 32 = 14 ∨ e % 32 = 15) ∧ d_kb (d_sb (mk (e / 32))) = e % 32 ∧ 0 < d_sb (mk (e / 32)) ∧ b_len c = 2) ∨ (e % 32 = 13 ∧ mk (e / 32) = 21 ∧ b_len c = 1) ∨ (e % 32 = 16 ∧ mk (e / 32) = 45 ∧ b_len c = 1) ∨ (e % 32 = 17 ∧ 1 ≤ b_len c) ∨ (e % 32 = 18 ∧ b_len c = 2) ∨ (e % 32 = 19 ∧ b_len c = 1) ∨ ((e % 32 = 20 ∨ e % 32 = 21 ∨ e % 32 = 22) ∧ b_len c = 0) ∨ e % 32 = 23
def b_ok (mk : Nat → Int32) (T : Nat) : aB → Prop
  | .leaf _ => True
  | .branch e c s => b_sh mk e c ∧ e / 32 < T ∧ b_ok mk T c ∧ b_ok mk T s
theorem b_ok_add : ∀ {s : aB} {e : Nat} {c : aB}, b_ok mk T s → b_sh mk e c → e / 32 < T → b_ok mk T c → b_ok mk T (b_add s e c)
  | .leaf _, _, _, _, h1, h2, h3 => ⟨h1, h2, h3, trivial⟩
  | .branch _ _ s, _, _, h, h1, h2, h3 => ⟨h.1, h.2.1, h.2.2.1, b_ok_add h.2.2.2 h1 h2 h3⟩
theorem b_sh.ge {e : Nat} {c : aB} (h : b_sh mk e c) : 11 ≤ e % 32 := by
  unfold b_sh at h
  omega
/-- only what is neither the end nor nothing stands before the end -/
def d_W (mk : Nat → Int32) (T : Nat) : Prop := ∀ p, mk p ≠ 9 → mk p ≠ -1 → p + 1 < T
/-- a token within a line -/
abbrev d_m (m : Int32) : Prop := m ≠ 9 ∧ m ≠ -1 ∧ m ≠ 7 ∧ m ≠ 8
theorem d_W.lt (h : d_W mk T) {p : Nat} {m : Int32} (hp : mk p = m) (hm : d_m m) : p + 1 < T := h p (by rw [hp]; exact hm.1) (by rw [hp]; exact hm.2.1)
/-- from p to p' there are only such tokens -/
def d_G (mk : Nat → Int32) (T p p' : Nat) : Prop := p' < T ∧ ∀ k, p ≤ k → k < p' → mk k ≠ 7 ∧ mk k ≠ 8
theorem d_G.refl {p : Nat} (h : p < T) : d_G mk T p p := ⟨h, fun k h1 h2 => by omega⟩
theorem d_G.trans {p p1 p2 : Nat} (h : d_G mk T p p1) (h2 : d_G mk T p1 p2) : d_G mk T p p2 := ⟨h2.1, fun k k1 k2 => by
  by_cases c1 : k < p1
  · exact h.2 k k1 c1
  · exact h2.2 k (by omega) k2⟩
theorem d_G.one {p : Nat} {m : Int32} (hW : d_W mk T) (hp : mk p = m) (hm : d_m m) : d_G mk T p (p + 1) := ⟨hW.lt hp hm, fun k k1 k2 => by
  have : k = p := by omega
  subst this
  rw [hp]
  exact hm.2.2⟩
def d_Q (mk : Nat → Int32) (T p e : Nat) (c : aB) (p' : Nat) : Prop := d_G mk T p p' ∧ b_sz c + 1 + p ≤ p' ∧ b_sh mk e c ∧ e / 32 < T ∧ b_ok mk T c ∧ b_ht c + 1 ≤ 10
/-- a forest of expressions so far -/
def d_Qs (mk : Nat → Int32) (T p : Nat) (c : aB) (p' : Nat) : Prop := d_G mk T p p' ∧ b_sz c + p ≤ p' ∧ b_ok mk T c
theorem d_sb_ne {m : Int32} {s : Nat} (h : d_sb m = s) (hs : 0 < s) : d_m m := by
  refine ⟨?_, ?_, ?_, ?_⟩ <;> (intro e; subst e; revert h; simp [d_sb]; omega)
theorem d_hc_ok {e p e' p' : Nat} {c c' : aB} (h : d_hc pl e c p = .ok (e', c', p')) : e' = e ∧ c' = c ∧ p' = p ∧ b_ht c + 1 ≤ 10 := by
  unfold d_hc at h
  by_cases c1 : 10 < b_ht c + 1
  · rw [if_pos c1] at h; cases h
  · rw [if_neg c1] at h; cases h; exact ⟨rfl, rfl, rfl, by omega⟩
theorem d_Qs.add {p0 p e p' : Nat} {c c2 : aB} (h : d_Qs mk T p0 c p) (h2 : d_Q mk T p e c2 p') : d_Qs mk T p0 (b_add c e c2) p' := by
  obtain ⟨a1, a2, a3⟩ := h
  obtain ⟨b1, b2, b3, b4, b5, b6⟩ := h2
  exact ⟨a1.trans b1, by rw [b_sz_add]; omega, b_ok_add a3 b3 b4 b5⟩
theorem d_Q.one {p e p' : Nat} {c : aB} (h : d_Q mk T p e c p') : d_Qs mk T p (.branch e c b_0) p' := ⟨h.1, by have := h.2.1; simp only [b_sz]; omega, h.2.2.1, h.2.2.2.1, h.2.2.2.2.1, trivial⟩
theorem d_Qs.go {p p1 : Nat} {c : aB} {m : Int32} (h : d_Qs mk T p c p1) (hW : d_W mk T) (hp : mk p1 = m) (hm : d_m m) : d_Qs mk T p c (p1 + 1) := ⟨h.1.trans (.one hW hp hm), by have := h.2.1; omega, h.2.2⟩
theorem d_Qs.nd {p p1 e : Nat} {c : aB} (h : d_Qs mk T p c p1) (h1 : b_sz c + 1 + p ≤ p1) (h2 : b_sh mk e c) (h3 : e / 32 < T) (h4 : b_ht c + 1 ≤ 10) : d_Q mk T p e c p1 := ⟨h.1, h1, h2, h3, h.2.2, h4⟩
section LVS
variable {full : Bool} {up : Nat → Nat → aG}
theorem d_bl_Q (hW : d_W mk T) (hu : ∀ s p e c p', 1 ≤ s → up s p = .ok (e, c, p') → d_Q mk T p e c p') {s p0 : Nat} (hs : 0 < s) (hs4 : s = 1 ∨ s = 2 ∨ s = 4 ∨ s = 5 ∨ s = 6) : ∀ (i e : Nat) (c : aB) (p : Nat) {e' : Nat} {c' : aB} {p' : Nat}, d_Q mk T p0 e c p → d_bl mk pl full up s i e c p = .ok (e', c', p') → d_Q mk T p0 e' c' p'
  | 0, e, c, p, e', c', p', hq, h => by cases h; exact hq
  | i + 1, e, c, p, e', c', p', hq, h => by
    unfold d_bl at h
    split at h
    · next c1 =>
      split at h
      · cases h
      · split at h
        · cases h
        · next e2 c2 p2 hup =>
          split at h
          · cases h
          · next e3 c3 p3 hh =>
            obtain ⟨rfl, rfl, rfl, k⟩ := d_hc_ok hh
            have q2 := hu _ _ _ _ _ (by omega) hup
            have hlt := d_G.one hW rfl (d_sb_ne c1 hs)
            have hlt1 := hlt.1
            obtain ⟨a1, a2, a3, a4, a5, a6⟩ := hq
            obtain ⟨b1, b2, b3, b4, b5, b6⟩ := q2
            have m1 : (d_kb s + 32 * p) % 32 = d_kb s := by rcases hs4 with r | r | r | r | r <;> (subst r; simp [d_kb]; try omega)
            have m2 : (d_kb s + 32 * p) / 32 = p := by rcases hs4 with r | r | r | r | r <;> (subst r; simp [d_kb]; try omega)
            have hok : b_ok mk T (.branch e c (.branch e2 c2 b_0)) := ⟨a3, a4, a5, b3, b4, b5, trivial⟩
            refine d_bl_Q hW hu hs hs4 i _ (.branch e c (.branch e2 c2 b_0)) _ ⟨(a1.trans hlt).trans b1, ?_, ?_, by omega, hok, k⟩ h
            · simp only [b_sz]; omega
            · refine Or.inl ⟨?_, ?_, ?_, rfl⟩
              · rw [m1]; rcases hs4 with r | r | r | r | r <;> (subst r; decide)
              · rw [m2, c1, m1]
              · rw [m2, c1]; exact hs
    · cases h; exact hq
theorem d_el_Q (hW : d_W mk T) (hu : ∀ s p e c p', 1 ≤ s → up s p = .ok (e, c, p') → d_Q mk T p e c p') {cl : Int32} (h9 : d_m cl) {p0 : Nat} : ∀ (i : Nat) (c : aB) (p : Nat) {c' : aB} {p' : Nat}, d_Qs mk T p0 c p → d_el mk pl up cl i c p = .ok (c', p') → d_Qs mk T p0 c' p' ∧ b_len c ≤ b_len c' ∧ b_sz c' + 1 + p0 ≤ p'
  | 0, c, p, c', p', hq, h => by
    unfold d_el at h
    split at h
    · next c1 => cases h; exact ⟨hq.go hW c1 h9, Nat.le_refl _, by have := hq.2.1; omega⟩
    · cases h
  | i + 1, c, p, c', p', hq, h => by
    unfold d_el at h
    split at h
    · next c1 =>
      split at h
      · cases h
      · next e2 c2 p2 hup =>
        have q2 := hu _ _ _ _ _ (by omega) hup
        have := d_el_Q hW hu h9 i _ _ ((hq.go hW c1 (by decide)).add q2) h
        rw [b_len_add] at this
        exact ⟨this.1, by omega, this.2.2⟩
    · split at h
      · next c1 => cases h; exact ⟨hq.go hW c1 h9, Nat.le_refl _, by have := hq.2.1; omega⟩
      · cases h
theorem d_es_Q (hW : d_W mk T) (hu : ∀ s p e c p', 1 ≤ s → up s p = .ok (e, c, p') → d_Q mk T p e c p') {cl : Int32} (h9 : d_m cl) {p0 : Nat} {c : aB} {p : Nat} {c' : aB} {p' : Nat} (hq : d_Qs mk T p0 c p) (h : d_es mk pl up cl c p = .ok (c', p')) : d_Qs mk T p0 c' p' ∧ b_len c ≤ b_len c' ∧ b_sz c' + 1 + p0 ≤ p' := by
  unfold d_es at h
  split at h
  · next c1 => cases h; exact ⟨hq.go hW c1 h9, Nat.le_refl _, by have := hq.2.1; omega⟩
  · split at h
    · cases h
    · next e2 c2 p2 hup =>
      have := d_el_Q hW hu h9 _ _ _ (hq.add (hu _ _ _ _ _ (by omega) hup)) h
      rw [b_len_add] at this
      exact ⟨this.1, by omega, this.2.2⟩
theorem d_at_Q (hW : d_W mk T) (hu : ∀ s p e c p', 1 ≤ s → up s p = .ok (e, c, p') → d_Q mk T p e c p') {p e p' : Nat} {c : aB} (h : d_at mk pl full up p = .ok (e, c, p')) : d_Q mk T p e c p' := by
  have lf : ∀ k, k = 20 ∨ k = 21 ∨ k = 22 → d_G mk T p (p + 1) → d_Q mk T p (k + 32 * p) b_0 (p + 1) := fun k hk hT => by
    have hT' := hT.1
    refine ⟨hT, by simp only [b_sz]; omega, ?_, by omega, trivial, by simp [b_ht]⟩
    exact Or.inr (Or.inr (Or.inr (Or.inr (Or.inr (Or.inr (Or.inl ⟨by omega, rfl⟩))))))
  unfold d_at at h
  split at h
  · next c1 => cases h; exact lf 20 (by decide) (.one hW c1 (by decide))
  split at h
  · next c1 => cases h; exact lf 21 (by decide) (.one hW c1 (by decide))
  split at h
  · next c1 => cases h; exact lf 22 (by decide) (.one hW c1 (by decide))
  split at h
  · next c1 =>
    split at h
    · cases h
    · split at h
      · cases h
      · next e2 c2 p2 hup =>
        split at h
        · next c2' =>
          cases h
          obtain ⟨b1, b2, b3, b4, b5, b6⟩ := hu _ _ _ _ _ (by omega) hup
          exact ⟨((d_G.one hW c1 (by decide)).trans b1).trans (.one hW c2' (by decide)), by omega, b3, b4, b5, b6⟩
        · cases h
  split at h
  · next c1 =>
    have hT := hW.lt c1 (by decide)
    split at h
    · cases h
    · split at h
      · cases h
      · next c2 p2 hes =>
        obtain ⟨rfl, rfl, rfl, k⟩ := d_hc_ok h
        have q : d_Qs mk T (p + 1) b_0 (p + 1) := ⟨.refl hT, by simp [b_sz], trivial⟩
        obtain ⟨q1, q2, q3⟩ := d_es_Q hW hu (by decide) q hes
        exact ⟨(d_G.one hW c1 (by decide)).trans q1.1, by omega, Or.inr (Or.inr (Or.inr (Or.inr (Or.inr (Or.inr (Or.inr (by omega))))))), by omega, q1.2.2, k⟩
  · cases h
theorem d_p1_Q (hW : d_W mk T) (hu : ∀ s p e c p', 1 ≤ s → up s p = .ok (e, c, p') → d_Q mk T p e c p') {p0 p e p' e' : Nat} {c c' : aB} (hb : mk p = 40 ∨ mk p = 91 ∨ mk p = 46) (hq : d_Q mk T p0 e c p) (h : d_p1 mk pl full up e c p = .ok (e', c', p')) : d_Q mk T p0 e' c' p' := by
  unfold d_p1 at h
  have hs := hq.2.1
  split at h
  · next c1 =>
    split at h
    · next c2 =>
      have hT := hW.lt c2 (by decide)
      obtain ⟨rfl, rfl, rfl, k⟩ := d_hc_ok h
      exact ((hq.one.go hW c1 (by decide)).go hW c2 (by decide)).nd (by simp only [b_sz]; omega) (Or.inr (Or.inr (Or.inr (Or.inr (Or.inr (Or.inl ⟨by omega, rfl⟩)))))) (by omega) k
    · cases h
  split at h
  · next c1 =>
    have hT := hW.lt c1 (by decide)
    split at h
    · cases h
    · split at h
      · cases h
      · next c2 p2 hes =>
        obtain ⟨rfl, rfl, rfl, k⟩ := d_hc_ok h
        obtain ⟨q1, q2, q3⟩ := d_es_Q hW hu (by decide) (hq.one.go hW c1 (by decide)) hes
        exact q1.nd q3 (Or.inr (Or.inr (Or.inr (Or.inl ⟨by omega, by simpa [b_len] using q2⟩)))) (by omega) k
  · next c0 c1 =>
    have c91 : mk p = 91 := by 
      rcases hb with r | r | r
      · exact absurd r c1
      · exact r
      · exact absurd r c0
    have hT := hW.lt c91 (by decide)
    split at h
    · cases h
    · split at h
      · cases h
      · next e2 c2 p2 hup =>
        split at h
        · next c3 =>
          obtain ⟨rfl, rfl, rfl, k⟩ := d_hc_ok h
          have hT2 := hW.lt c3 (by decide)
          have q2 := hu _ _ _ _ _ (by omega) hup
          have q3 := (hq.one.go hW c91 (by decide)).add q2
          have := q2.2.1
          exact (q3.go hW c3 (by decide)).nd (by simp only [b_sz, b_add]; omega) (Or.inr (Or.inr (Or.inr (Or.inr (Or.inl ⟨by omega, rfl⟩))))) (by omega) k
        · cases h
theorem d_pl_Q (hW : d_W mk T) (hu : ∀ s p e c p', 1 ≤ s → up s p = .ok (e, c, p') → d_Q mk T p e c p') {p0 : Nat} : ∀ (i e : Nat) (c : aB) (p : Nat) {e' : Nat} {c' : aB} {p' : Nat}, d_Q mk T p0 e c p → d_pl mk pl full up i e c p = .ok (e', c', p') → d_Q mk T p0 e' c' p'
  | 0, e, c, p, e', c', p', hq, h => by cases h; exact hq
  | i + 1, e, c, p, e', c', p', hq, h => by
    unfold d_pl at h
    split at h
    · next c1 =>
      split at h
      · cases h
      · next e2 c2 p2 hp1 => exact d_pl_Q hW hu i _ _ _ (d_p1_Q hW hu c1 hq hp1) h
    · cases h; exact hq
theorem d_pr_Q (hW : d_W mk T) (hu : ∀ s p e c p', 1 ≤ s → up s p = .ok (e, c, p') → d_Q mk T p e c p') {m : Int32} {k s p : Nat} {x : aG} (hm : d_m m) (hk : (k = 13 ∧ m = 21) ∨ (k = 16 ∧ m = 45)) (hs : 1 ≤ s) {e' : Nat} {c' : aB} {p' : Nat} (hx : x = .ok (e', c', p') → d_Q mk T p e' c' p') (h : d_pr mk pl full up m k s x p = .ok (e', c', p')) : d_Q mk T p e' c' p' := by
  unfold d_pr at h
  split at h
  · next c1 =>
    have hT : p + 1 < T := hW.lt c1 hm
    split at h
    · cases h
    · split at h
      · cases h
      · next e c p2 hup =>
        obtain ⟨rfl, rfl, rfl, kk⟩ := d_hc_ok h
        have q2 := hu _ _ _ _ _ (by omega) hup
        have := q2.2.1
        have e2 : (k + 32 * p) / 32 = p := by omega
        refine ⟨(d_G.one hW c1 hm).trans q2.1, by simp only [b_sz]; omega, ?_, by omega, q2.one.2.2, kk⟩
        rcases hk with ⟨rfl, rfl⟩ | ⟨rfl, rfl⟩
        · exact Or.inr (Or.inl ⟨by omega, by rw [e2]; exact c1, rfl⟩)
        · exact Or.inr (Or.inr (Or.inl ⟨by omega, by rw [e2]; exact c1, rfl⟩))
  · exact hx h
theorem d_t_Q (hW : d_W mk T) (hu : ∀ s p e c p', 1 ≤ s → up s p = .ok (e, c, p') → d_Q mk T p e c p') : ∀ (j : Nat), j ≤ 7 → ∀ (p : Nat) {e' : Nat} {c' : aB} {p' : Nat}, d_t mk pl full up j p = .ok (e', c', p') → d_Q mk T p e' c' p'
  | 0, _, p, e', c', p', h => by
    unfold d_t at h
    split at h
    · cases h
    · next e c p2 hat => exact d_pl_Q hW hu _ _ _ _ (d_at_Q hW hu hat) h
  | j + 1, hj, p, e', c', p', h => by
    unfold d_t at h
    split at h
    · next cj =>
      subst cj
      exact d_pr_Q hW hu (by decide) (Or.inr ⟨rfl, rfl⟩) (by decide) (fun z => d_t_Q hW hu 0 (by omega) p z) h
    split at h
    · next cj =>
      subst cj
      exact d_pr_Q hW hu (by decide) (Or.inl ⟨rfl, rfl⟩) (by decide) (fun z => d_t_Q hW hu 4 (by omega) p z) h
    · next cj1 cj =>
      split at h
      · cases h
      · next e c p2 hd => exact d_bl_Q hW hu (by omega) (by omega) _ _ _ _ (d_t_Q hW hu j (by omega) p hd) h
end LVS
theorem d_ex_Q (hW : d_W mk T) : ∀ (r s p e : Nat) (c : aB) (p' : Nat), d_ex mk pl r s p = .ok (e, c, p') → 1 ≤ s → d_Q mk T p e c p'
  | 0, s, p, e, c, p', h, hs => d_t_Q hW (fun _ _ _ _ _ _ z => by cases z) (8 - s) (by omega) p h
  | r + 1, s, p, e, c, p', h, hs => d_t_Q hW (fun s' _ _ _ _ k z => d_ex_Q hW r s' _ _ _ _ z k) (8 - s) (by omega) p h
end SND
