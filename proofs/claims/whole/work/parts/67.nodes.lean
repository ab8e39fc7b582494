/-! THE REFERENCE'S WAY: nodes of expressions -/
/-- from (m, S) to (m', S'): a new node v with its parts -/
def x_N (S : aN) (m : Nat) (S' : aN) (m' v e : Nat) (c : aB) : Prop := m ≤ v ∧ v < m' ∧ m' = m + b_sz c + 1 ∧ n_T S' false m m' v e c ∧ S' 6 v = -1 ∧ (∀ f k, k < m → S' f k = S f k)
theorem n_T.frame {S S' : aN} {q : Bool} {lo mid j e : Nat} {c : aB} (hj : ∀ f, f < 6 → S' f j = S f j) (hS : ∀ f k, lo ≤ k → k < mid → k ≠ j → S' f k = S f k) (h : n_T S q lo mid j e c) : n_T S' q lo mid j e c := by
  refine ⟨?_, ?_⟩
  · have := h.1
    unfold n_N at *
    rw [hj 0 (by decide), hj 1 (by decide), hj 2 (by decide), hj 3 (by decide)]
    exact this
  · rw [hj 4 (by decide), hj 5 (by decide)]
    exact n_F.frame hS h.2
theorem n_T.wide {S : aN} {q : Bool} {lo mid lo' mid' j e : Nat} {c : aB} (h1 : lo' ≤ lo) (h2 : mid ≤ mid') (h : n_T S q lo mid j e c) : n_T S q lo' mid' j e c := ⟨h.1, h.2.wide h1 h2⟩
section XND
variable {S S' S1 S2 : aN} {m m' m1 m2 v v1 v2 e e1 e2 lo mid j : Nat} {c c1 c2 : aB} {kd t : Int32}
theorem x_leaf (hk : kd = nI (e % 32)) (ht : t = nI (e / 32)) : x_N S m (n_add S m kd t) (m + 1) m e b_0 := by
  refine ⟨Nat.le_refl _, by omega, by simp [b_sz], (n_add_T hk (fun _ => ht)).wide (Nat.le_refl m) (by omega), by simp [n_add, am_u], fun f k hk => n_add_o (by omega)⟩
theorem n_add_6 : n_add S m kd t 6 m = -1 ∧ n_add S m kd t 7 m = -1 := by simp [n_add, am_u]
/-- a part more for a node that stands already -/
theorem x_app_T (hT : n_T S false lo mid j e c) (hlm : lo ≤ mid) (hmm : mid ≤ m) (hj : j < m) (hv : x_N S m S' m' v e2 c2) (hm' : m' ≤ 400) (he : 11 ≤ e % 32) (he2 : 11 ≤ e2 % 32) :
    n_T (x_app S' j v) false lo m' j e (b_add c e2 c2) ∧ (∀ f k, k ≠ j → ¬ (lo ≤ k ∧ k < mid) → k ≠ v → x_app S' j v f k = S' f k) ∧ x_app S' j v 6 j = S' 6 j ∧ x_app S' j v 7 j = S' 7 j := by
  obtain ⟨v1, v2, v3, v4, v5, v6⟩ := hv
  have hT' : n_T S' false lo mid j e c := hT.frame (fun f _ => v6 f j hj) (fun f k k1 k2 _ => v6 f k (by omega))
  have hh := (n_ht_a hT' v4 hlm (by omega) (by omega) hm' he he2).2
  obtain ⟨-, -, -, -, -, -, -, -, k9, k10⟩ := n_lnk_T (hh := if S' 2 v < S' 2 j then S' 2 j else S' 2 v + 1) hT' hlm (by omega) (j2 := v) (by omega) (by omega)
  exact ⟨n_app_T hT' v4 hlm hmm v1 v2 hm' (by omega) v5 (fun _ => hh), fun f k q1 q2 q3 => n_lnk_o hT' (by omega) q1 q2 (fun z => absurd z q3), k10, k9⟩
/-- a new node over one -/
theorem x_un (hv : x_N S m S1 m1 v e1 c1) (hm1 : m1 < 400) (hk : kd = nI (e % 32)) (ht : t = nI (e / 32)) (he : 11 ≤ e % 32) (he1 : 11 ≤ e1 % 32) :
    n_T (x_app (n_add S1 m1 kd t) m1 v) false m m1 m1 e (.branch e1 c1 b_0) ∧ x_app (n_add S1 m1 kd t) m1 v 6 m1 = -1 ∧ (∀ f k, k ≠ m1 → k ≠ v → x_app (n_add S1 m1 kd t) m1 v f k = S1 f k) := by
  obtain ⟨a1, a2, a3, a4, a5, a6⟩ := hv
  have hN : n_T (n_add S1 m1 kd t) false m m m1 e b_0 := n_add_T hk (fun _ => ht)
  have a4' : n_T (n_add S1 m1 kd t) false m m1 v e1 c1 := a4.frame (fun f _ => n_add_o (by omega)) (fun f k _ _ _ => n_add_o (by omega))
  have hh := (n_ht_a hN a4' (Nat.le_refl _) (by omega) (by omega) (by omega) he he1).2
  obtain ⟨-, -, -, -, -, -, -, -, k9, k10⟩ := n_lnk_T (hh := if n_add S1 m1 kd t 2 v < n_add S1 m1 kd t 2 m1 then n_add S1 m1 kd t 2 m1 else n_add S1 m1 kd t 2 v + 1) hN (Nat.le_refl _) (by omega) (j2 := v) (by omega) (by omega)
  refine ⟨?_, by unfold x_app; rw [k10]; exact n_add_6.1, fun f k q1 q2 => ?_⟩
  · have := n_app_T hN a4' (Nat.le_refl _) (Nat.le_refl _) a1 a2 (by omega) (by omega) (by rw [n_add_o (by omega)]; exact a5) (fun _ => hh)
    exact this
  · unfold x_app
    rw [n_lnk_o hN (by omega) q1 (by omega) (fun z => absurd z q2), n_add_o q1]
theorem x_un_N (hv : x_N S m S1 m1 v e1 c1) (hm1 : m1 < 400) (hk : kd = nI (e % 32)) (ht : t = nI (e / 32)) (he : 11 ≤ e % 32) (he1 : 11 ≤ e1 % 32) : x_N S m (x_app (n_add S1 m1 kd t) m1 v) (m1 + 1) m1 e (.branch e1 c1 b_0) := by
  obtain ⟨h1, h2, h3⟩ := x_un hv hm1 hk ht he he1
  obtain ⟨a1, a2, a3, a4, a5, a6⟩ := hv
  exact ⟨by omega, by omega, by simp only [b_sz]; omega, h1.wide (Nat.le_refl _) (by omega), h2, fun f k hk => by rw [h3 f k (by omega) (by omega), a6 f k hk]⟩
/-- a new node over two -/
theorem x_bi_N (hv : x_N S m S1 m1 v1 e1 c1) (hw : x_N S1 m1 S2 m2 v2 e2 c2) (hm2 : m2 < 400) (hk : kd = nI (e % 32)) (ht : t = nI (e / 32)) (he : 11 ≤ e % 32) (he1 : 11 ≤ e1 % 32) (he2 : 11 ≤ e2 % 32) : x_N S m (x_app (x_app (n_add S2 m2 kd t) m2 v1) m2 v2) (m2 + 1) m2 e (.branch e1 c1 (.branch e2 c2 b_0)) := by
  obtain ⟨a1, a2, a3, a4, a5, a6⟩ := hv
  obtain ⟨b1, b2, b3, b4, b5, b6⟩ := hw
  have fr : ∀ f k, k ≠ m2 → n_add S2 m2 kd t f k = S2 f k := fun f k q => n_add_o q
  have hN : n_T (n_add S2 m2 kd t) false m m m2 e b_0 := n_add_T hk (fun _ => ht)
  have a4' : n_T (n_add S2 m2 kd t) false m m1 v1 e1 c1 := a4.frame (fun f _ => by rw [fr _ _ (by omega), b6 _ _ (by omega)]) (fun f k _ _ _ => by rw [fr _ _ (by omega), b6 _ _ (by omega)])
  have hh := (n_ht_a hN a4' (Nat.le_refl _) (by omega) (by omega) (by omega) he he1).2
  have hA : n_T (x_app (n_add S2 m2 kd t) m2 v1) false m m1 m2 e (b_add b_0 e1 c1) := n_app_T hN a4' (Nat.le_refl _) (Nat.le_refl _) a1 a2 (by omega) (by omega) (by rw [fr _ _ (by omega), b6 _ _ (by omega)]; exact a5) (fun _ => hh)
  have fA : ∀ f k, k ≠ m2 → k ≠ v1 → x_app (n_add S2 m2 kd t) m2 v1 f k = S2 f k := fun f k q1 q2 => by
    unfold x_app
    rw [n_lnk_o hN (by omega) q1 (by omega) (fun z => absurd z q2), fr f k q1]
  have b4' : n_T (x_app (n_add S2 m2 kd t) m2 v1) false m1 m2 v2 e2 c2 := b4.frame (fun f _ => fA _ _ (by omega) (by omega)) (fun f k _ _ _ => fA _ _ (by omega) (by omega))
  have hh2 := (n_ht_a hA b4' (by omega) (by omega) (by omega) (by omega) he he2).2
  have hB : n_T (x_app (x_app (n_add S2 m2 kd t) m2 v1) m2 v2) false m m2 m2 e (b_add (b_add b_0 e1 c1) e2 c2) := n_app_T hA b4' (by omega) (Nat.le_refl _) b1 b2 (by omega) (by omega) (by rw [fA _ _ (by omega) (by omega)]; exact b5) (fun _ => hh2)
  obtain ⟨-, -, -, -, -, -, -, -, k9, k10⟩ := n_lnk_T (hh := if n_add S2 m2 kd t 2 v1 < n_add S2 m2 kd t 2 m2 then n_add S2 m2 kd t 2 m2 else n_add S2 m2 kd t 2 v1 + 1) hN (Nat.le_refl _) (by omega) (j2 := v1) (by omega) (by omega)
  obtain ⟨-, -, -, -, -, -, -, -, k19, k20⟩ := n_lnk_T (hh := if x_app (n_add S2 m2 kd t) m2 v1 2 v2 < x_app (n_add S2 m2 kd t) m2 v1 2 m2 then x_app (n_add S2 m2 kd t) m2 v1 2 m2 else x_app (n_add S2 m2 kd t) m2 v1 2 v2 + 1) hA (by omega) (by omega) (j2 := v2) (by omega) (by omega)
  refine ⟨by omega, by omega, by simp only [b_sz]; omega, hB.wide (Nat.le_refl _) (by omega), ?_, fun f k hk => ?_⟩
  · have : x_app (x_app (n_add S2 m2 kd t) m2 v1) m2 v2 6 m2 = x_app (n_add S2 m2 kd t) m2 v1 6 m2 := k20
    rw [this]
    have : x_app (n_add S2 m2 kd t) m2 v1 6 m2 = n_add S2 m2 kd t 6 m2 := k10
    rw [this]
    exact n_add_6.1
  · have : x_app (x_app (n_add S2 m2 kd t) m2 v1) m2 v2 f k = x_app (n_add S2 m2 kd t) m2 v1 f k := n_lnk_o hA (by omega) (by omega) (by omega) (fun z => by omega)
    rw [this, fA f k (by omega) (by omega), b6 f k (by omega), a6 f k hk]
end XND
