/-! THE TOKENS of a text are sound -/
section TKS
variable {tx : Nat → Int32} {n : Nat}
/-- a token's kind is that of its mark -/
def s_kd (k : Int32) : Int32 := if k = 1 ∨ k = 3 ∨ k = 4 ∨ k = 6 ∨ k = 7 ∨ k = 8 ∨ k = 9 then k else if k < 22 then 2 else 5
/-- the marks of pairs -/
def s_pm (k : Int32) : Bool := decide (k = 189) || decide (k = 161) || decide (k = 188) || decide (k = 190)
def s_ok (tx : Nat → Int32) (n : Nat) (t : aT) : Prop := t.2.2.1 + t.2.2.2 ≤ n ∧ t.2.1 ≠ -1 ∧ t.2.1 ≠ 9 ∧ t.1 = s_kd t.2.1 ∧ (t.2.1 = 45 → t.2.2.2 = 1 ∧ s_ch tx n t.2.2.1 = 45) ∧ (∀ i, i < 11 → t.2.1 = nI (11 + i) → s_is tx n (4 + i) t.2.2.1 t.2.2.2 = true) ∧ (t.2.1 < 22 ∨ s_one t.2.1 = true ∨ s_pm t.2.1 = true)
def s_E (tk : Nat → aT) : Nat → Nat
  | 0 => 0
  | m + 1 => s_E tk m + (tk m).2.2.2
theorem d_bal_ext {mk mk' : Nat → Int32} : ∀ {m : Nat}, (∀ k, k < m → mk' k = mk k) → d_bal mk' m = d_bal mk m
  | 0, _ => rfl
  | m + 1, h => by
    have := d_bal_ext (m := m) (fun k hk => h k (by omega))
    simp only [d_bal, h m (by omega), this]
theorem s_E_ext {tk tk' : Nat → aT} : ∀ {m : Nat}, (∀ k, k < m → tk' k = tk k) → s_E tk' m = s_E tk m
  | 0, _ => rfl
  | m + 1, h => by
    have := s_E_ext (m := m) (fun k hk => h k (by omega))
    simp only [s_E, h m (by omega), this]
abbrev s_mk (tk : Nat → aT) : Nat → Int32 := fun k => (tk k).2.1
/-- the tokens so far, b - 1 blocks being begun -/
def s_Co (tx : Nat → Int32) (n p m : Nat) (tk : Nat → aT) (b : Nat) : Prop := p ≤ n ∧ m ≤ 120 ∧ (∀ k, k < m → s_ok tx n (tk k)) ∧ d_bal (s_mk tk) m + 1 = b ∧ (∀ k, k ≤ m → d_bal (s_mk tk) k ≤ 8) ∧ (∀ k, k + 1 < m → (tk k).2.1 = 7 → (tk (k + 1)).2.1 ≠ 8) ∧ s_E tk m ≤ p
def s_la (m : Nat) (tk : Nat → aT) : Prop := ∀ k, k + 1 = m → (tk k).2.1 ≠ 7
theorem s_Co.add {p m b b' e : Nat} {tk : Nat → aT} {k mk : Int32} (h : s_Co tx n p m tk b) (hm : m < 120) (ht : s_ok tx n (k, mk, p, e)) (h8 : mk = 8 → s_la m tk) (hb : (b' : Int) = b + (if mk = 7 then 1 else if mk = 8 then -1 else 0)) (hb9 : b' ≤ 9) : s_Co tx n (p + e) (m + 1) (fun j => if j = m then (k, mk, p, e) else tk j) b' := by
  obtain ⟨h1, h2, h3, h4, h5, h6, h7⟩ := h
  have lt : ∀ j, j < m → (fun j => if j = m then (k, mk, p, e) else tk j) j = tk j := fun j hj => if_neg (by omega)
  have eq : (fun j => if j = m then (k, mk, p, e) else tk j) m = (k, mk, p, e) := if_pos rfl
  have hbal : ∀ j, j ≤ m → d_bal (s_mk (fun j => if j = m then (k, mk, p, e) else tk j)) j = d_bal (s_mk tk) j := fun j hj => d_bal_ext fun i hi => by show (((fun j => if j = m then (k, mk, p, e) else tk j) i) : aT).2.1 = _; rw [lt i (by omega)]
  have hbm : d_bal (s_mk (fun j => if j = m then (k, mk, p, e) else tk j)) (m + 1) = d_bal (s_mk tk) m + (if mk = 7 then 1 else if mk = 8 then -1 else 0) := by
    have e1 : s_mk (fun j => if j = m then (k, mk, p, e) else tk j) m = mk := by
      show (((fun j => if j = m then (k, mk, p, e) else tk j) m) : aT).2.1 = mk
      rw [eq]
    simp only [d_bal, hbal m (Nat.le_refl _), e1]
  refine ⟨ht.1, by omega, fun j hj => ?_, ?_, fun j hj => ?_, fun j hj => ?_, ?_⟩
  · by_cases e1 : j = m
    · simp only [if_pos e1]; exact ht
    · simp only [if_neg e1]; exact h3 j (by omega)
  · rw [hbm]; omega
  · by_cases e1 : j = m + 1
    · rw [e1, hbm]; omega
    · rw [hbal j (by omega)]; exact h5 j (by omega)
  · by_cases e1 : j + 1 = m
    · simp only [if_neg (show ¬ j = m by omega), if_pos e1]
      intro z1 z2
      exact h8 z2 j e1 z1
    · simp only [if_neg (show ¬ j = m by omega), if_neg e1]
      exact h6 j (by omega)
  · simp only [s_E, if_pos, s_E_ext lt]
    omega
theorem s_take_ok {k mk : Int32} {e : Nat} {z z' : aW} (h : s_take k mk e z = .ok z') : z.2.2.2.2.1 < 120 ∧ z' = (z.1 + e, z.2.1, z.2.2.1, z.2.2.2.1, z.2.2.2.2.1 + 1, fun j => if j = z.2.2.2.2.1 then (k, mk, z.1, e) else z.2.2.2.2.2 j) := by
  obtain ⟨p, l, ws, bs, m, tk⟩ := z
  unfold s_take at h
  dsimp only at h ⊢
  split at h
  · next c => cases h; exact ⟨c, rfl⟩
  · cases h
def s_Iv (tx : Nat → Int32) (n : Nat) (z : aW) : Prop := s_Co tx n z.1 z.2.2.2.2.1 z.2.2.2.2.2 z.2.2.1.length ∧ s_W z.2.2.1 ∧ z.2.2.1.length ≤ 9 ∧ (z.2.1 = false → s_la z.2.2.2.2.1 z.2.2.2.2.2)
theorem s_take_Iv {k mk : Int32} {e p m : Nat} {l : Bool} {ws : List (Nat × Nat)} {bs bs0 : List Nat} {tk : Nat → aT} {z' : aW} (hz : s_Iv tx n (p, l, ws, bs0, m, tk)) (ht : s_ok tx n (k, mk, p, e)) (h7 : mk ≠ 7) (h8 : mk ≠ 8) (h : s_take k mk e (p, l, ws, bs, m, tk) = .ok z') : s_Iv tx n z' ∧ z'.1 = p + e ∧ z'.2.1 = l ∧ z'.2.2.1 = ws ∧ s_la z'.2.2.2.2.1 z'.2.2.2.2.2 := by
  obtain ⟨h1, rfl⟩ := s_take_ok h
  dsimp only at *
  obtain ⟨a1, a2, a3, a4⟩ := hz
  have la : s_la (m + 1) (fun j => if j = m then (k, mk, p, e) else tk j) := fun j hj => by
    have : j = m := by omega
    simp only [if_pos this]
    exact h7
  exact ⟨⟨a1.add (b' := ws.length) h1 ht (fun z => absurd z h8) (by rw [if_neg h7, if_neg h8]; show (ws.length : Int) = ws.length + 0; omega) a3, a2, a3, fun _ => la⟩, rfl, rfl, rfl, la⟩
theorem s_mark_c (p e : Nat) : s_mark tx n p e = 1 ∨ ∃ i, i < 11 ∧ s_mark tx n p e = nI (11 + i) ∧ s_is tx n (4 + i) p e = true := by
  unfold s_mark
  by_cases c0 : s_is tx n 4 p e = true
  · rw [if_pos c0]; exact Or.inr ⟨0, by decide, rfl, c0⟩
  rw [if_neg c0]
  by_cases c1 : s_is tx n 5 p e = true
  · rw [if_pos c1]; exact Or.inr ⟨1, by decide, rfl, c1⟩
  rw [if_neg c1]
  by_cases c2 : s_is tx n 6 p e = true
  · rw [if_pos c2]; exact Or.inr ⟨2, by decide, rfl, c2⟩
  rw [if_neg c2]
  by_cases c3 : s_is tx n 7 p e = true
  · rw [if_pos c3]; exact Or.inr ⟨3, by decide, rfl, c3⟩
  rw [if_neg c3]
  by_cases c4 : s_is tx n 8 p e = true
  · rw [if_pos c4]; exact Or.inr ⟨4, by decide, rfl, c4⟩
  rw [if_neg c4]
  by_cases c5 : s_is tx n 9 p e = true
  · rw [if_pos c5]; exact Or.inr ⟨5, by decide, rfl, c5⟩
  rw [if_neg c5]
  by_cases c6 : s_is tx n 10 p e = true
  · rw [if_pos c6]; exact Or.inr ⟨6, by decide, rfl, c6⟩
  rw [if_neg c6]
  by_cases c7 : s_is tx n 11 p e = true
  · rw [if_pos c7]; exact Or.inr ⟨7, by decide, rfl, c7⟩
  rw [if_neg c7]
  by_cases c8 : s_is tx n 12 p e = true
  · rw [if_pos c8]; exact Or.inr ⟨8, by decide, rfl, c8⟩
  rw [if_neg c8]
  by_cases c9 : s_is tx n 13 p e = true
  · rw [if_pos c9]; exact Or.inr ⟨9, by decide, rfl, c9⟩
  rw [if_neg c9]
  by_cases c10 : s_is tx n 14 p e = true
  · rw [if_pos c10]; exact Or.inr ⟨10, by decide, rfl, c10⟩
  rw [if_neg c10]
  exact Or.inl rfl
theorem s_word_f : ∀ i, i < 11 → (nI (11 + i) ≠ -1 ∧ nI (11 + i) ≠ 9 ∧ nI (11 + i) ≠ 1 ∧ s_kd (nI (11 + i)) = 2 ∧ nI (11 + i) ≠ 45 ∧ nI (11 + i) ≠ 7 ∧ nI (11 + i) ≠ 8 ∧ nI (11 + i) < 22) := by decide
/-- a token whose mark isn't a word's -/
theorem s_ok_p {k mk : Int32} {p e : Nat} (h1 : p + e ≤ n) (h2 : mk ≠ -1 ∧ mk ≠ 9 ∧ k = s_kd mk ∧ (∀ i, i < 11 → mk ≠ nI (11 + i)) ∧ (mk < 22 ∨ s_one mk = true ∨ s_pm mk = true)) (h3 : mk = 45 → e = 1 ∧ s_ch tx n p = 45) : s_ok tx n (k, mk, p, e) := ⟨h1, h2.1, h2.2.1, h2.2.2.1, h3, fun i hi z => absurd z (h2.2.2.2.1 i hi), h2.2.2.2.2⟩
theorem s_pair_f {c : Int32} (h : s_pair c = true) : (c + 128 ≠ -1 ∧ c + 128 ≠ 9 ∧ 5 = s_kd (c + 128) ∧ (∀ i, i < 11 → c + 128 ≠ nI (11 + i)) ∧ (c + 128 < 22 ∨ s_one (c + 128) = true ∨ s_pm (c + 128) = true)) ∧ c + 128 ≠ 45 ∧ c + 128 ≠ 7 ∧ c + 128 ≠ 8 := by
  unfold s_pair at h
  simp only [Bool.or_eq_true, decide_eq_true_eq] at h
  rcases h with ((h | h) | h) | h <;> (subst h; decide)
theorem s_one_f {c : Int32} (h : s_one c = true) : (c ≠ -1 ∧ c ≠ 9 ∧ 5 = s_kd c ∧ (∀ i, i < 11 → c ≠ nI (11 + i)) ∧ (c < 22 ∨ s_one c = true ∨ s_pm c = true)) ∧ c ≠ 7 ∧ c ≠ 8 := by
  unfold s_one at h
  simp only [Bool.or_eq_true, decide_eq_true_eq] at h
  rcases h with ((((((((((((((h | h) | h) | h) | h) | h) | h) | h) | h) | h) | h) | h) | h) | h) | h) | h <;> (subst h; decide)
theorem s_ch_lt {p : Nat} {c : Int32} (h : s_ch tx n p = c) (hc : c ≠ 0) : p < n := by
  unfold s_ch at h
  split at h
  · assumption
  · exact absurd h.symm hc
theorem s_sign_Iv {p m : Nat} {l : Bool} {ws : List (Nat × Nat)} {bs : List Nat} {tk : Nat → aT} {z' : aW} (hz : s_Iv tx n (p, l, ws, bs, m, tk)) (hp : p < n) (h : s_sign tx n (p, l, ws, bs, m, tk) = .ok z') : s_Iv tx n z' ∧ p < z'.1 ∧ z'.2.1 = l ∧ z'.2.2.1 = ws := by
  unfold s_sign at h
  dsimp only at h
  split at h
  · next c1 =>
    have h2 := s_ch_lt c1.2 (by decide)
    obtain ⟨f1, f2, f3, f4⟩ := s_pair_f c1.1
    obtain ⟨k1, k2, k3, k4, -⟩ := s_take_Iv hz (s_ok_p (by omega) f1 (fun z => absurd z f2)) f3 f4 h
    exact ⟨k1, by omega, k3, k4⟩
  · split at h
    · cases h
    · next c1 c2 =>
      have o : s_one (s_ch tx n p) = true := by simpa using c2
      obtain ⟨f1, f3, f4⟩ := s_one_f o
      have ok : s_ok tx n (5, s_ch tx n p, p, 1) := s_ok_p (by omega) f1 (fun z => ⟨rfl, z⟩)
      split at h
      · split at h
        · obtain ⟨k1, k2, k3, k4, -⟩ := s_take_Iv hz ok f3 f4 h
          exact ⟨k1, by omega, k3, k4⟩
        · cases h
      · split at h
        · generalize (if s_ch tx n p = 41 then (40 : Int32) else 91) = ff at h
          split at h
          · cases h
          · split at h
            · obtain ⟨k1, k2, k3, k4, -⟩ := s_take_Iv hz ok f3 f4 h
              exact ⟨k1, by omega, k3, k4⟩
            · cases h
        · obtain ⟨k1, k2, k3, k4, -⟩ := s_take_Iv hz ok f3 f4 h
          exact ⟨k1, by omega, k3, k4⟩
theorem s_nl_le {p : Nat} (hp : p ≤ n) : p ≤ s_nl tx n p ∧ s_nl tx n p ≤ n := by
  have := s_run_le (f := fun k => !decide (tx k = 10)) (n - p) p
  unfold s_nl
  omega
theorem s_nl_lt {p : Nat} (hp : p < n) (h : tx p ≠ 10) : p < s_nl tx n p := by
  unfold s_nl
  obtain ⟨d, hd⟩ : ∃ d, n - p = d + 1 := ⟨n - p - 1, by omega⟩
  rw [hd]
  unfold s_run
  rw [if_pos (by simpa using h)]
  have := s_run_le (f := fun k => !decide (tx k = 10)) d (p + 1)
  omega
theorem s_str_le {q : Int32} : ∀ (f e : Nat) {r : Nat}, s_str tx n q f e = some r → e ≤ r ∧ r < n
  | 0, e, r, h => by cases h
  | f + 1, e, r, h => by
    unfold s_str at h
    split at h
    · split at h
      · cases h; omega
      · have he : e ≤ (if tx e = 92 then e + 1 else e) := by split <;> omega
        generalize (if tx e = 92 then e + 1 else e) = e' at h he
        split at h
        · cases h
        · have := s_str_le f _ h
          omega
    · cases h
theorem s_next_Iv {p m : Nat} {l : Bool} {ws : List (Nat × Nat)} {bs : List Nat} {tk : Nat → aT} {z' : aW} (hz : s_Iv tx n (p, l, ws, bs, m, tk)) (hl : l = true) (hp : p < n) (h : s_next tx n (p, l, ws, bs, m, tk) = .ok z') : s_Iv tx n z' ∧ p < z'.1 ∧ z'.2.2.1 = ws := by
  have mv : ∀ {p'}, p' ≤ n → p ≤ p' → s_Iv tx n (p', l, ws, bs, m, tk) := fun h1 h2 => by
    obtain ⟨⟨a1, a2, a3, a4, a5, a6, a7⟩, b⟩ := hz
    exact ⟨⟨h1, a2, a3, a4, a5, a6, by dsimp only at a7 ⊢; omega⟩, b⟩
  have ech : s_ch tx n p = tx p := if_pos hp
  unfold s_next at h
  dsimp only at h
  split at h
  · cases h; exact ⟨mv (by omega) (by omega), by dsimp only; omega, rfl⟩
  split at h
  · next c1 =>
    cases h
    have := s_nl_le (tx := tx) (n := n) (p := p) (by omega)
    have := s_nl_lt (tx := tx) hp (by rw [← ech, c1]; decide)
    exact ⟨mv (by omega) (by omega), by dsimp only; omega, rfl⟩
  split at h
  · next c1 =>
    cases h
    have h2 := s_ch_lt c1.2 (by decide)
    exact ⟨mv (by omega) (by omega), by dsimp only; omega, rfl⟩
  split at h
  · next c1 =>
    split at h
    · cases h; exact ⟨mv (by omega) (by omega), by dsimp only; omega, rfl⟩
    · split at h
      · cases h
      · next p' l' y ht =>
        cases h
        obtain ⟨⟨j1, j2, j3, j4⟩, k2, k3, k4, k5⟩ := s_take_Iv hz (s_ok_p (by omega) (by decide) (fun z => absurd z (by decide))) (by decide) (by decide) ht
        dsimp only at *
        exact ⟨⟨j1, j2, j3, fun _ => k5⟩, by omega, k4⟩
  split at h
  · have := s_run_le (f := fun k => c_letter (tx k) || c_digit (tx k)) (n - (p + 1)) (p + 1)
    generalize s_run (fun k => c_letter (tx k) || c_digit (tx k)) (n - (p + 1)) (p + 1) = e at h this
    try dsimp only at h
    rcases s_mark_c (tx := tx) (n := n) p (e - p) with r | ⟨i, i1, i2, i3⟩
    · rw [r, if_pos rfl] at h
      obtain ⟨k1, k2, k3, k4, -⟩ := s_take_Iv hz (s_ok_p (by omega) (by decide) (fun z => absurd z (by decide))) (by decide) (by decide) h
      exact ⟨k1, by omega, k4⟩
    · obtain ⟨f1, f2, f3, f4, f5, f6, f7, f8⟩ := s_word_f i i1
      rw [i2, if_neg f3] at h
      obtain ⟨k1, k2, k3, k4, -⟩ := s_take_Iv hz (⟨by dsimp only; omega, f1, f2, f4.symm, fun z => absurd z f5, fun j hj z => by
        have := nI_inj (by omega) (by omega) z
        have : j = i := by omega
        subst this
        exact i3, Or.inl f8⟩) f6 f7 h
      exact ⟨k1, by omega, k4⟩
  split at h
  · have := s_run_le (f := fun k => c_digit (tx k)) (n - (p + 1)) (p + 1)
    generalize s_run (fun k => c_digit (tx k)) (n - (p + 1)) (p + 1) = e at h this
    try dsimp only at h
    split at h
    · cases h
    · obtain ⟨k1, k2, k3, k4, -⟩ := s_take_Iv hz (s_ok_p (by omega) (by decide) (fun z => absurd z (by decide))) (by decide) (by decide) h
      exact ⟨k1, by omega, k4⟩
  split at h
  · split at h
    · cases h
    · next e he =>
      have := s_str_le _ _ he
      obtain ⟨k1, k2, k3, k4, -⟩ := s_take_Iv hz (s_ok_p (by omega) (by decide) (fun z => absurd z (by decide))) (by decide) (by decide) h
      exact ⟨k1, by omega, k4⟩
  · obtain ⟨k1, k2, k3, k4⟩ := s_sign_Iv hz hp h
    exact ⟨k1, k2, k4⟩
theorem s_ded_Iv {w p : Nat} {l : Bool} {bs : List Nat} : ∀ (ws : List (Nat × Nat)) (m : Nat) (tk : Nat → aT) {z' : aW}, s_Co tx n p m tk ws.length → s_W ws → ws.length ≤ 9 → s_la m tk → s_ded w p l bs ws m tk = .ok z' → s_Co tx n z'.1 z'.2.2.2.2.1 z'.2.2.2.2.2 z'.2.2.1.length ∧ s_W z'.2.2.1 ∧ z'.2.2.1.length ≤ 9 ∧ s_la z'.2.2.2.2.1 z'.2.2.2.2.2 ∧ z'.1 = p
  | [], m, tk, z', h1, h2, h3, h4, h => by cases h; exact ⟨h1, h2, h3, h4, rfl⟩
  | (w0, n0) :: r, m, tk, z', h1, h2, h3, h4, h => by
    unfold s_ded at h
    split at h
    · next c1 =>
      split at h
      · next c2 =>
        have h9 : r.length ≤ 9 := by simp at h3; omega
        have hc := h1.add (b' := r.length) (k := 8) (mk := 8) (e := 0) c2 (s_ok_p (by have := h1.1; omega) (by decide) (fun z => absurd z (by decide))) (fun _ => h4) (by simp; omega) h9
        have la : s_la (m + 1) (fun j => if j = m then (8, 8, p, 0) else tk j) := fun j hj => by
          have : j = m := by omega
          simp only [if_pos this]
          decide
        exact s_ded_Iv r (m + 1) _ hc (h2.tl c1) h9 la h
      · cases h
    · cases h; exact ⟨h1, h2, h3, h4, rfl⟩
theorem s_cmp_Iv {w nr p m : Nat} {l : Bool} {ws : List (Nat × Nat)} {bs : List Nat} {tk : Nat → aT} {z' : aW} (hz : s_Iv tx n (p, l, ws, bs, m, tk)) (hl : l = false) (hw : w < 2 ^ 20) (hnr : nr < 2 ^ 20) (h : s_cmp w nr (p, l, ws, bs, m, tk) = .ok z') : s_Co tx n z'.1 z'.2.2.2.2.1 z'.2.2.2.2.2 z'.2.2.1.length ∧ s_W z'.2.2.1 ∧ z'.2.2.1.length ≤ 9 ∧ z'.1 = p := by
  obtain ⟨a1, a2, a3, a4⟩ := hz
  dsimp only at *
  unfold s_cmp at h
  dsimp only at h
  split at h
  · cases h
  · next w0 n0 r =>
    split at h
    · split at h
      · cases h
      · split at h
        · next c9 =>
          obtain ⟨h1, rfl⟩ := s_take_ok h
          dsimp only at *
          have hc := a1.add (b' := r.length + 2) (k := 7) (mk := 7) (e := 0) h1 (s_ok_p (by have := a1.1; omega) (by decide) (fun z => absurd z (by decide))) (fun z => absurd z (by decide)) (by simp; omega) (by omega)
          exact ⟨by simpa using hc, ⟨hw, hnr, a2⟩, by simp; omega, rfl⟩
        · cases h
    · split at h
      · cases h
      · next y hy =>
        obtain ⟨b1, b2, b3, b4, b5⟩ := s_ded_Iv _ _ _ a1 a2 a3 (a4 hl) hy
        obtain ⟨p', l', ws', bs', m', tk'⟩ := y
        unfold s_eq at h
        dsimp only at *
        split at h
        · cases h
        · split at h
          · split at h
            · cases h; exact ⟨b1, b2, b3, b5⟩
            · cases h
          · cases h
theorem s_bl_lt (f p w : Nat) (h : (s_bl tx f p w).1 < p + f) : c_blank (tx (s_bl tx f p w).1) = false := by
  induction f generalizing p w with
  | zero => simp [s_bl] at h
  | succ f ih =>
    unfold s_bl at h ⊢
    split
    · next c => rw [if_pos c] at h; exact ih _ _ (by omega)
    · next c => simpa using c
theorem s_line_Iv {p m : Nat} {l : Bool} {ws : List (Nat × Nat)} {bs : List Nat} {tk : Nat → aT} {z' : aW} (hz : s_Iv tx n (p, l, ws, bs, m, tk)) (hl : l = false) (hp : p < n) (hn : n ≤ 600) (h : s_line tx n (p, l, ws, bs, m, tk) = .ok z') : s_Iv tx n z' ∧ ((z'.2.1 = false ∧ p < z'.1) ∨ (z'.2.1 = true ∧ p ≤ z'.1 ∧ z'.1 < n)) := by
  unfold s_line at h
  have hb := s_bl_le (tx := tx) (n - p) p 0
  rcases hqw : s_bl tx (n - p) p 0 with ⟨q, w⟩
  rw [hqw] at hb
  dsimp only at h
  rw [hqw] at h
  dsimp only at h hb
  split at h
  · cases h
    have h1 := s_nl_le (tx := tx) (n := n) (p := q) (by omega)
    obtain ⟨⟨a1, a2, a3, a4, a5, a6, a7⟩, b⟩ := hz
    dsimp only at *
    exact ⟨⟨⟨by dsimp only; omega, a2, a3, a4, a5, a6, by dsimp only; omega⟩, b⟩, Or.inl ⟨hl, by omega⟩⟩
  · next c1 =>
    have hqn : q < n := Decidable.byContradiction fun z => c1 (Or.inl (by omega))
    have hz2 : s_Iv tx n (q, l, ws, bs, m, tk) := by
      obtain ⟨⟨a1, a2, a3, a4, a5, a6, a7⟩, b⟩ := hz
      exact ⟨⟨by dsimp only; omega, a2, a3, a4, a5, a6, by dsimp only at a7 ⊢; omega⟩, b⟩
    split at h
    · cases h
    · next p' l' y hc =>
      cases h
      obtain ⟨b1, b2, b3, b4⟩ := s_cmp_Iv hz2 hl (by omega) (by omega) hc
      dsimp only at *
      exact ⟨⟨b1, b2, b3, fun z => by cases z⟩, Or.inr ⟨rfl, by omega, by omega⟩⟩
theorem s_iter_Iv {z z' : aW} (hz : s_Iv tx n z) (hp : z.1 < n) (hn : n ≤ 600) (h : s_iter tx n z = .ok z') : s_Iv tx n z' ∧ z.1 < z'.1 := by
  obtain ⟨p, l, ws, bs, m, tk⟩ := z
  unfold s_iter at h
  dsimp only at *
  cases l with
  | true =>
    rw [if_pos rfl] at h
    dsimp only at h
    rw [if_pos rfl] at h
    have := s_next_Iv hz rfl hp h
    exact ⟨this.1, this.2.1⟩
  | false =>
    rw [if_neg (by decide)] at h
    split at h
    · cases h
    · next y hy =>
      obtain ⟨b1, b2⟩ := s_line_Iv hz rfl hp hn hy
      obtain ⟨p', l', ws', bs', m', tk'⟩ := y
      dsimp only at *
      split at h
      · next cl =>
        rcases b2 with ⟨e, _⟩ | ⟨e, e2, e3⟩
        · rw [e] at cl; cases cl
        · have := s_next_Iv b1 e e3 h
          exact ⟨this.1, by omega⟩
      · next cl =>
        cases h
        rcases b2 with ⟨e, e2⟩ | ⟨e, _⟩
        · exact ⟨b1, e2⟩
        · exact absurd e cl
theorem s_loop_Iv (hn : n ≤ 600) : ∀ (f : Nat) {z z' : aW}, s_Iv tx n z → s_loop tx n f z = .ok z' → s_Iv tx n z' ∧ (n ≤ z'.1 ∨ z.1 + f ≤ z'.1)
  | 0, z, z', hz, h => by cases h; exact ⟨hz, Or.inr (Nat.le_refl _)⟩
  | f + 1, z, z', hz, h => by
    unfold s_loop at h
    split at h
    · next c =>
      split at h
      · cases h
      · next y hy =>
        have h1 := s_iter_Iv hz c hn hy
        have h2 := s_loop_Iv hn f h1.1 h
        exact ⟨h2.1, by omega⟩
    · next c => cases h; exact ⟨hz, Or.inl (by omega)⟩
/-- all the tokens of a text -/
def s_Fi (tx : Nat → Int32) (n m : Nat) (tk : Nat → aT) : Prop := ∃ m0, m = m0 + 1 ∧ m ≤ 120 ∧ (∀ k, k < m0 → s_ok tx n (tk k)) ∧ (tk m0).1 = 9 ∧ (tk m0).2.1 = 9 ∧ (tk m0).2.2.1 ≤ n ∧ (tk m0).2.2.2 = 0 ∧ (∀ k, k ≤ m0 → d_bal (s_mk tk) k ≤ 8) ∧ (∀ k, k + 1 < m0 → (tk k).2.1 = 7 → (tk (k + 1)).2.1 ≠ 8) ∧ s_E tk m0 ≤ n
theorem s_close_Iv {l : Bool} {bs : List Nat} {ws : List (Nat × Nat)} {p : Nat} : ∀ (f m : Nat) (tk : Nat → aT) {z' : aW}, s_Co tx n p m tk (f + 1) → f ≤ 8 → s_la m tk → s_close f (p, l, ws, bs, m, tk) = .ok z' → s_Co tx n z'.1 z'.2.2.2.2.1 z'.2.2.2.2.2 1
  | 0, m, tk, z', h1, h9, h2, h => by cases h; exact h1
  | f + 1, m, tk, z', h1, h9, h2, h => by
    unfold s_close at h
    split at h
    · cases h
    · next y hy =>
      obtain ⟨k1, rfl⟩ := s_take_ok hy
      dsimp only at *
      have hc := h1.add (b' := f + 1) (k := 8) (mk := 8) (e := 0) k1 (s_ok_p (by have := h1.1; omega) (by decide) (fun z => absurd z (by decide))) (fun _ => h2) (by simp; omega) (by omega)
      exact s_close_Iv f (m + 1) _ hc (by omega) (fun j hj => by
        have : j = m := by omega
        simp only [if_pos this]
        decide) h
theorem s_scan_Fi (hn : n ≤ 600) {z' : aW} (h : s_scan tx n = .ok z') : s_Fi tx n z'.2.2.2.2.1 z'.2.2.2.2.2 := by
  unfold s_scan at h
  split at h
  · cases h
  · next z hl =>
    have i0 : s_Iv tx n (0, false, [(0, 0)], [], 0, fun _ => (0, 0, 0, 0)) := ⟨⟨Nat.zero_le _, by decide, fun k hk => absurd hk (Nat.not_lt_zero _), by decide, fun k hk => by
      have : k = 0 := by dsimp only at hk; omega
      subst this
      decide, fun k hk => absurd hk (Nat.not_lt_zero _), Nat.le_refl _⟩, rfl, by decide, fun _ k hk => by dsimp only at hk; omega⟩
    obtain ⟨⟨a1, a2, a3, a4⟩, -⟩ := s_loop_Iv hn 600 i0 hl
    obtain ⟨p, l, ws, bs, m, tk⟩ := z
    unfold s_fin at h
    dsimp only at *
    split at h
    · cases h
    · split at h
      · cases h
      · next y hy =>
        have hws : 1 ≤ ws.length := by
          cases ws with
          | nil => exact absurd a2 (fun z => z)
          | cons a b => simp
        have hy2 : s_Co tx n y.1 y.2.2.2.2.1 y.2.2.2.2.2 ws.length ∧ s_la y.2.2.2.2.1 y.2.2.2.2.2 := by
          cases l with
          | true =>
            rw [if_pos rfl] at hy
            obtain ⟨b1, b2, b3, b4, b5⟩ := s_take_Iv (bs0 := []) (⟨a1, a2, a3, a4⟩ : s_Iv tx n (p, true, ws, [], m, tk)) (s_ok_p (by have := a1.1; omega) (by decide) (fun z => absurd z (by decide))) (by decide) (by decide) hy
            have := b1.1
            rw [b4] at this
            exact ⟨this, b5⟩
          | false =>
            rw [if_neg (by decide)] at hy
            cases hy
            exact ⟨a1, a4 rfl⟩
        obtain ⟨p1, l1, ws1, bs1, m1, tk1⟩ := y
        dsimp only at *
        split at h
        · cases h
        · next y2 hy3 =>
          have hc := s_close_Iv (ws.length - 1) m1 tk1 (by rw [show ws.length - 1 + 1 = ws.length from by omega]; exact hy2.1) (by omega) hy2.2 hy3
          obtain ⟨p2, l2, ws2, bs2, m2, tk2⟩ := y2
          obtain ⟨k1, rfl⟩ := s_take_ok h
          dsimp only at *
          obtain ⟨c1, c2, c3, c4, c5, c6, c7⟩ := hc
          have lt : ∀ j, j < m2 → (fun j => if j = m2 then ((9, 9, p2, 0) : aT) else tk2 j) j = tk2 j := fun j hj => if_neg (by omega)
          refine ⟨m2, rfl, by omega, fun k hk => ?_, by simp, by simp, by simpa using c1, by simp, fun k hk => ?_, fun k hk => ?_, ?_⟩
          · show s_ok tx n ((fun j => if j = m2 then ((9, 9, p2, 0) : aT) else tk2 j) k)
            rw [lt k (by omega)]; exact c3 k hk
          · rw [d_bal_ext (mk := s_mk tk2) (fun j hj => by show (((fun j => if j = m2 then ((9, 9, p2, 0) : aT) else tk2 j) j) : aT).2.1 = _; rw [lt j (by omega)])]
            exact c5 k hk
          · rw [lt k (by omega), lt (k + 1) (by omega)]; exact c6 k hk
          · show s_E (fun j => if j = m2 then ((9, 9, p2, 0) : aT) else tk2 j) m2 ≤ n
            rw [s_E_ext lt]; omega
end TKS
