/-! NODES of expressions, on both sides -/
/-- from (m, S) to (m', S'): a new node v with its parts -/
def n_V (q : Bool) (S : aN) (m : Nat) (S' : aN) (m' v e : Nat) (c : aB) : Prop := m ≤ v ∧ v < m' ∧ m' = m + b_sz c + 1 ∧ n_T S' q m m' v e c ∧ S' 6 v = -1 ∧ (∀ f k, k < m → S' f k = S f k)
/-- N is S with a new node at m -/
def n_W (q : Bool) (S : aN) (m : Nat) (N : aN) (e : Nat) : Prop := (∀ f k, k ≠ m → N f k = S f k) ∧ (∀ lo, n_T N q lo lo m e b_0) ∧ N 6 m = -1
/-- one of the two ways to reckon a height -/
def n_hh (S : aN) (j j2 : Nat) (hh : Int32) : Prop := hh = (if S 2 j < S 2 j2 + 1 then S 2 j2 + 1 else S 2 j) ∨ hh = (if S 2 j2 < S 2 j then S 2 j else S 2 j2 + 1)
theorem n_T.frame {S S' : aN} {q : Bool} {lo mid j e : Nat} {c : aB} (hj : ∀ f, f < 6 → S' f j = S f j) (hS : ∀ f k, lo ≤ k → k < mid → k ≠ j → S' f k = S f k) (h : n_T S q lo mid j e c) : n_T S' q lo mid j e c := by
  refine ⟨?_, ?_⟩
  · have := h.1
    unfold n_N at *
    rw [hj 0 (by decide), hj 1 (by decide), hj 2 (by decide), hj 3 (by decide)]
    exact this
  · rw [hj 4 (by decide), hj 5 (by decide)]
    exact n_F.frame hS h.2
theorem n_T.wide {S : aN} {q : Bool} {lo mid lo' mid' j e : Nat} {c : aB} (h1 : lo' ≤ lo) (h2 : mid ≤ mid') (h : n_T S q lo mid j e c) : n_T S q lo' mid' j e c := ⟨h.1, h.2.wide h1 h2⟩
section NDS
variable {q : Bool} {S S' S1 S2 N : aN} {m m' m1 m2 v v1 v2 e e1 e2 lo mid j : Nat} {c c1 c2 : aB} {kd t hh hh2 : Int32}
theorem n_add_6 : n_add S m kd t 6 m = -1 ∧ n_add S m kd t 7 m = -1 := by simp [n_add, am_u]
theorem n_add_W (hk : kd = nI (e % 32)) (ht : q = true ∨ e % 32 ≠ 9 → t = nI (e / 32)) : n_W q S m (n_add S m kd t) e := ⟨fun _ _ h => n_add_o h, fun _ => n_add_T hk ht, n_add_6.1⟩
theorem n_W.leaf (h : n_W q S m N e) : n_V q S m N (m + 1) m e b_0 :=
  ⟨Nat.le_refl _, by omega, by simp [b_sz], (h.2.1 m).wide (Nat.le_refl m) (by omega), h.2.2, fun f k hk => h.1 f k (by omega)⟩
theorem n_hh.eq {a2 b2 : Nat} (hhh : n_hh S j v hh) (h : n_T S q lo mid j e c) (h2 : n_T S q a2 b2 v e2 c2) (hlm : lo ≤ mid) (hm : mid ≤ 400) (hab : a2 ≤ b2) (hb : b2 ≤ 400) (he : 11 ≤ e % 32) (he2 : 11 ≤ e2 % 32) : hh = nI (b_ht (b_add c e2 c2) + 1) := by
  have := n_ht_a h h2 hlm hm hab hb he he2
  rcases hhh with r | r
  · rw [r, this.1]
  · rw [r, this.2]
/-- a part more for a node that stands already -/
theorem n_app1 (hT : n_T S q lo mid j e c) (hlm : lo ≤ mid) (hmm : mid ≤ m) (hj : j < m) (hv : n_V q S m S' m' v e2 c2) (hm' : m' ≤ 400) (he : 11 ≤ e % 32 → 11 ≤ e2 % 32 ∧ n_hh S' j v hh) :
    n_T (n_lnk S' j v hh) q lo m' j e (b_add c e2 c2) ∧ (∀ f k, k ≠ j → ¬ (lo ≤ k ∧ k < mid) → k ≠ v → n_lnk S' j v hh f k = S' f k) ∧ n_lnk S' j v hh 6 j = S' 6 j ∧ n_lnk S' j v hh 7 j = S' 7 j := by
  obtain ⟨v1, v2, v3, v4, v5, v6⟩ := hv
  have hT' : n_T S' q lo mid j e c := hT.frame (fun f _ => v6 f j hj) (fun f k k1 k2 _ => v6 f k (by omega))
  obtain ⟨-, -, -, -, -, -, -, -, k9, k10⟩ := n_lnk_T (hh := hh) hT' hlm (by omega) (j2 := v) (by omega) (by omega)
  exact ⟨n_app_T hT' v4 hlm hmm v1 v2 hm' (by omega) v5 (fun z => (he z).2.eq hT' v4 hlm (by omega) (by omega) hm' z (he z).1), fun f k q1 q2 q3 => n_lnk_o hT' (by omega) q1 q2 (fun z => absurd z q3), k10, k9⟩
/-- a new node over one -/
theorem n_un (hv : n_V q S m S1 m1 v e1 c1) (hm1 : m1 < 400) (hN : n_W q S1 m1 N e) (he : 11 ≤ e % 32 → 11 ≤ e1 % 32 ∧ n_hh N m1 v hh) :
    n_T (n_lnk N m1 v hh) q m m1 m1 e (.branch e1 c1 b_0) ∧ n_lnk N m1 v hh 6 m1 = -1 ∧ (∀ f k, k ≠ m1 → k ≠ v → n_lnk N m1 v hh f k = S1 f k) := by
  obtain ⟨a1, a2, a3, a4, a5, a6⟩ := hv
  have hN' := hN.2.1 m
  have a4' : n_T N q m m1 v e1 c1 := a4.frame (fun f _ => hN.1 _ _ (by omega)) (fun f k _ _ _ => hN.1 _ _ (by omega))
  obtain ⟨-, -, -, -, -, -, -, -, k9, k10⟩ := n_lnk_T (hh := hh) hN' (Nat.le_refl _) (by omega) (j2 := v) (by omega) (by omega)
  refine ⟨?_, by rw [k10]; exact hN.2.2, fun f k q1 q2 => ?_⟩
  · exact n_app_T hN' a4' (Nat.le_refl _) (Nat.le_refl _) a1 a2 (by omega) (by omega) (by rw [hN.1 _ _ (by omega)]; exact a5) (fun z => (he z).2.eq hN' a4' (Nat.le_refl _) (by omega) (by omega) (by omega) z (he z).1)
  · rw [n_lnk_o hN' (by omega) q1 (by omega) (fun z => absurd z q2), hN.1 _ _ q1]
theorem n_un_V (hv : n_V q S m S1 m1 v e1 c1) (hm1 : m1 < 400) (hN : n_W q S1 m1 N e) (he : 11 ≤ e % 32 → 11 ≤ e1 % 32 ∧ n_hh N m1 v hh) : n_V q S m (n_lnk N m1 v hh) (m1 + 1) m1 e (.branch e1 c1 b_0) := by
  obtain ⟨h1, h2, h3⟩ := n_un hv hm1 hN he
  obtain ⟨a1, a2, a3, a4, a5, a6⟩ := hv
  exact ⟨by omega, by omega, by simp only [b_sz]; omega, h1.wide (Nat.le_refl _) (by omega), h2, fun f k hk => by rw [h3 f k (by omega) (by omega), a6 f k hk]⟩
/-- a new node over two -/
theorem n_bi_V (hv : n_V q S m S1 m1 v1 e1 c1) (hw : n_V q S1 m1 S2 m2 v2 e2 c2) (hm2 : m2 < 400) (hN : n_W q S2 m2 N e) (he : 11 ≤ e % 32 → 11 ≤ e1 % 32 ∧ 11 ≤ e2 % 32 ∧ n_hh N m2 v1 hh ∧ n_hh (n_lnk N m2 v1 hh) m2 v2 hh2) : n_V q S m (n_lnk (n_lnk N m2 v1 hh) m2 v2 hh2) (m2 + 1) m2 e (.branch e1 c1 (.branch e2 c2 b_0)) := by
  obtain ⟨a1, a2, a3, a4, a5, a6⟩ := hv
  obtain ⟨b1, b2, b3, b4, b5, b6⟩ := hw
  have fr := hN.1
  have hN' := hN.2.1 m
  have a4' : n_T N q m m1 v1 e1 c1 := a4.frame (fun f _ => by rw [fr _ _ (by omega), b6 _ _ (by omega)]) (fun f k _ _ _ => by rw [fr _ _ (by omega), b6 _ _ (by omega)])
  have hA : n_T (n_lnk N m2 v1 hh) q m m1 m2 e (b_add b_0 e1 c1) := n_app_T hN' a4' (Nat.le_refl _) (Nat.le_refl _) a1 a2 (by omega) (by omega) (by rw [fr _ _ (by omega), b6 _ _ (by omega)]; exact a5) (fun z => (he z).2.2.1.eq hN' a4' (Nat.le_refl _) (by omega) (by omega) (by omega) z (he z).1)
  have fA : ∀ f k, k ≠ m2 → k ≠ v1 → n_lnk N m2 v1 hh f k = S2 f k := fun f k q1 q2 => by
    rw [n_lnk_o hN' (by omega) q1 (by omega) (fun z => absurd z q2), fr f k q1]
  have b4' : n_T (n_lnk N m2 v1 hh) q m1 m2 v2 e2 c2 := b4.frame (fun f _ => fA _ _ (by omega) (by omega)) (fun f k _ _ _ => fA _ _ (by omega) (by omega))
  have hB : n_T (n_lnk (n_lnk N m2 v1 hh) m2 v2 hh2) q m m2 m2 e (b_add (b_add b_0 e1 c1) e2 c2) := n_app_T hA b4' (by omega) (Nat.le_refl _) b1 b2 (by omega) (by omega) (by rw [fA _ _ (by omega) (by omega)]; exact b5) (fun z => (he z).2.2.2.eq hA b4' (by omega) (by omega) (by omega) (by omega) z (he z).2.1)
  obtain ⟨-, -, -, -, -, -, -, -, k9, k10⟩ := n_lnk_T (hh := hh) hN' (Nat.le_refl _) (by omega) (j2 := v1) (by omega) (by omega)
  obtain ⟨-, -, -, -, -, -, -, -, k19, k20⟩ := n_lnk_T (hh := hh2) hA (by omega) (by omega) (j2 := v2) (by omega) (by omega)
  refine ⟨by omega, by omega, by simp only [b_sz]; omega, hB.wide (Nat.le_refl _) (by omega), ?_, fun f k hk => ?_⟩
  · rw [k20, k10]
    exact hN.2.2
  · rw [n_lnk_o hA (by omega) (by omega) (by omega) (fun z => by omega), fA f k (by omega) (by omega), b6 f k (by omega), a6 f k hk]
end NDS
/-! the reference's nodes -/
abbrev x_N (S : aN) (m : Nat) (S' : aN) (m' v e : Nat) (c : aB) : Prop := n_V false S m S' m' v e c
section XND
variable {S S' S1 S2 : aN} {m m' m1 m2 v v1 v2 e e1 e2 lo mid j : Nat} {c c1 c2 : aB} {kd t : Int32}
theorem x_leaf (hk : kd = nI (e % 32)) (ht : t = nI (e / 32)) : x_N S m (n_add S m kd t) (m + 1) m e b_0 := (n_add_W hk (fun _ => ht)).leaf
theorem x_app_T (hT : n_T S false lo mid j e c) (hlm : lo ≤ mid) (hmm : mid ≤ m) (hj : j < m) (hv : x_N S m S' m' v e2 c2) (hm' : m' ≤ 400) (_ : 11 ≤ e % 32) (he2 : 11 ≤ e2 % 32) :
    n_T (x_app S' j v) false lo m' j e (b_add c e2 c2) ∧ (∀ f k, k ≠ j → ¬ (lo ≤ k ∧ k < mid) → k ≠ v → x_app S' j v f k = S' f k) ∧ x_app S' j v 6 j = S' 6 j ∧ x_app S' j v 7 j = S' 7 j := n_app1 hT hlm hmm hj hv hm' (fun _ => ⟨he2, Or.inr rfl⟩)
theorem x_un (hv : x_N S m S1 m1 v e1 c1) (hm1 : m1 < 400) (hk : kd = nI (e % 32)) (ht : t = nI (e / 32)) (_ : 11 ≤ e % 32) (he1 : 11 ≤ e1 % 32) :
    n_T (x_app (n_add S1 m1 kd t) m1 v) false m m1 m1 e (.branch e1 c1 b_0) ∧ x_app (n_add S1 m1 kd t) m1 v 6 m1 = -1 ∧ (∀ f k, k ≠ m1 → k ≠ v → x_app (n_add S1 m1 kd t) m1 v f k = S1 f k) := n_un hv hm1 (n_add_W hk (fun _ => ht)) (fun _ => ⟨he1, Or.inr rfl⟩)
theorem x_un_N (hv : x_N S m S1 m1 v e1 c1) (hm1 : m1 < 400) (hk : kd = nI (e % 32)) (ht : t = nI (e / 32)) (_ : 11 ≤ e % 32) (he1 : 11 ≤ e1 % 32) : x_N S m (x_app (n_add S1 m1 kd t) m1 v) (m1 + 1) m1 e (.branch e1 c1 b_0) := n_un_V hv hm1 (n_add_W hk (fun _ => ht)) (fun _ => ⟨he1, Or.inr rfl⟩)
theorem x_bi_N (hv : x_N S m S1 m1 v1 e1 c1) (hw : x_N S1 m1 S2 m2 v2 e2 c2) (hm2 : m2 < 400) (hk : kd = nI (e % 32)) (ht : t = nI (e / 32)) (_ : 11 ≤ e % 32) (he1 : 11 ≤ e1 % 32) (he2 : 11 ≤ e2 % 32) : x_N S m (x_app (x_app (n_add S2 m2 kd t) m2 v1) m2 v2) (m2 + 1) m2 e (.branch e1 c1 (.branch e2 c2 b_0)) := n_bi_V hv hw hm2 (n_add_W hk (fun _ => ht)) (fun _ => ⟨he1, he2, Or.inr rfl, Or.inr rfl⟩)
end XND
