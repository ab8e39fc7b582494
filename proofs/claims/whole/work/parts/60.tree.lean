/-! TREES: forests as first part and follower; a node's code is kind + 32 token -/
theorem nI_inj {a b : Nat} (ha : a < 2 ^ 31) (hb : b < 2 ^ 31) (h : nI a = nI b) : a = b := (nI_eq ha hb).mp h
abbrev aB : Type := Lean.RArray Unit
abbrev b_0 : aB := .leaf ()
def b_len : aB → Nat
  | .leaf _ => 0
  | .branch _ _ s => b_len s + 1
def b_ht : aB → Nat
  | .leaf _ => 0
  | .branch _ c s => max (b_ht c + 1) (b_ht s)
def b_add : aB → Nat → aB → aB
  | .leaf _, e, c => .branch e c b_0
  | .branch e1 c1 s1, e, c => .branch e1 c1 (b_add s1 e c)
/-- each node before its parts: code and number of parts -/
def b_pre : aB → List (Nat × Nat)
  | .leaf _ => []
  | .branch e c s => (e, b_len c) :: (b_pre c ++ b_pre s)
theorem b_add_ne : ∀ {s : aB} {e : Nat} {c : aB}, b_add s e c ≠ b_0
  | .leaf _, _, _ => fun h => by cases h
  | .branch _ _ _, _, _ => fun h => by cases h
theorem b_len_add : ∀ {s : aB} {e : Nat} {c : aB}, b_len (b_add s e c) = b_len s + 1
  | .leaf _, _, _ => rfl
  | .branch _ _ s, _, _ => by simp [b_add, b_len, b_len_add (s := s)]
theorem b_ht_add : ∀ {s : aB} {e : Nat} {c : aB}, b_ht (b_add s e c) = max (b_ht s) (b_ht c + 1)
  | .leaf _, _, _ => by simp [b_add, b_ht]
  | .branch _ c1 s, e, c => by simp only [b_add, b_ht, b_ht_add (s := s)]; omega
theorem b_len0 : ∀ {s : aB}, b_len s = 0 → s = b_0
  | .leaf _, _ => rfl
  | .branch _ _ _, h => by simp [b_len] at h
/-- a store: fields 0 kind, 1 token, 2 height, 3 parts, 4 first, 5 last, 6 next, 7 parent -/
abbrev aN : Type := Nat → Nat → Int32
def n_N (S : aN) (q : Bool) (j e : Nat) (c : aB) : Prop := S 0 j = nI (e % 32) ∧ (q = true ∨ e % 32 ≠ 9 → S 1 j = nI (e / 32)) ∧ S 3 j = nI (b_len c) ∧ (11 ≤ e % 32 → S 2 j = nI (b_ht c + 1))
/-- the forest hangs on i, begins at x, ends at l with the follower xe, within lo to hi -/
def n_F (S : aN) (q : Bool) : aB → Nat → Nat → Int32 → Nat → Int32 → Int32 → Prop
  | .leaf _, _, _, x, _, _, xe => x = xe
  | .branch e c s, lo, hi, x, i, l, xe => ∃ j a b, lo ≤ a ∧ a ≤ j ∧ j < b ∧ b ≤ hi ∧ ¬ (a ≤ i ∧ i < b) ∧ x = nI j ∧ (s = b_0 → l = nI j) ∧ S 7 j = nI i ∧ n_N S q j e c ∧ n_F S q c a b (S 4 j) j (S 5 j) (-1) ∧ n_F S q s b hi (S 6 j) i l xe
/-- a node and its parts, which lie within lo to mid -/
def n_T (S : aN) (q : Bool) (lo mid j e : Nat) (c : aB) : Prop := n_N S q j e c ∧ n_F S q c lo mid (S 4 j) j (S 5 j) (-1)
theorem n_F.frame {S S' : aN} {q : Bool} : ∀ {F : aB} {lo hi i : Nat} {x l xe : Int32}, (∀ f k, lo ≤ k → k < hi → k ≠ i → S' f k = S f k) → n_F S q F lo hi x i l xe → n_F S' q F lo hi x i l xe
  | .leaf _, _, _, _, _, _, _, _, h => h
  | .branch e c s, lo, hi, i, x, l, xe, hS, h => by
    obtain ⟨j, a, b, h1, h2, h3, h4, h5, h6, h7, h8, h9, h10, h11⟩ := h
    have hj : ∀ f, S' f j = S f j := fun f => hS f j (by omega) (by omega) (fun e => h5 (by omega))
    refine ⟨j, a, b, h1, h2, h3, h4, h5, h6, h7, by rw [hj]; exact h8, ?_, ?_, ?_⟩
    · unfold n_N at *
      simpa only [hj] using h9
    · rw [hj, hj]
      exact n_F.frame (fun f k k1 k2 k3 => hS f k (by omega) (by omega) (fun e => h5 (by omega))) h10
    · rw [hj]
      exact n_F.frame (fun f k k1 k2 k3 => hS f k (by omega) (by omega) k3) h11
theorem n_F.wide {S : aN} {q : Bool} : ∀ {F : aB} {lo hi lo' hi' i : Nat} {x l xe : Int32}, lo' ≤ lo → hi ≤ hi' → n_F S q F lo hi x i l xe → n_F S q F lo' hi' x i l xe
  | .leaf _, _, _, _, _, _, _, _, _, _, _, h => h
  | .branch e c s, _, _, _, _, _, _, _, _, hl, hh, h => by
    obtain ⟨j, a, b, h1, h2, h3, h4, h5, h6, h7, h8, h9, h10, h11⟩ := h
    exact ⟨j, a, b, by omega, h2, h3, by omega, h5, h6, h7, h8, h9, h10, n_F.wide (Nat.le_refl _) hh h11⟩
/-- a forest with one tree more at its end -/
theorem n_F.snoc {S : aN} {q : Bool} {j2 e2 a2 b2 : Nat} {c2 : aB} : ∀ {F : aB} {lo mid i : Nat} {x l : Int32}, n_F S q F lo mid x i l (nI j2) → lo ≤ mid → mid ≤ a2 → a2 ≤ j2 → j2 < b2 → ¬ (a2 ≤ i ∧ i < b2) → S 7 j2 = nI i → S 6 j2 = -1 → n_T S q a2 b2 j2 e2 c2 → n_F S q (b_add F e2 c2) lo b2 x i (nI j2) (-1)
  | .leaf _, lo, mid, i, x, l, h, h0, h1, h2, h3, h4, h5, h6, h7 => ⟨j2, a2, b2, by omega, h2, h3, Nat.le_refl _, h4, h, fun _ => rfl, h5, h7.1, h7.2, h6⟩
  | .branch e c s, lo, mid, i, x, l, h, h0, k1, k2, k3, k4, k5, k6, k7 => by
    obtain ⟨j, a, b, h1, h2, h3, h4, h5, h6, h7, h8, h9, h10, h11⟩ := h
    exact ⟨j, a, b, h1, h2, h3, by omega, h5, h6, fun e => absurd e b_add_ne, h8, h9, h10, n_F.snoc h11 (by omega) k1 k2 k3 k4 k5 k6 k7⟩
/-- the store with a new node at m -/
def n_add (S : aN) (m : Nat) (k t : Int32) : aN := am_u (am_u (am_u (am_u (am_u (am_u (am_u S 0 m k) 1 m t) 2 m 1) 3 m 0) 4 m (-1)) 6 m (-1)) 7 m (-1)
theorem n_add_o {S : aN} {m k : Nat} {kd t : Int32} {f : Nat} (h : k ≠ m) : n_add S m kd t f k = S f k := by
  unfold n_add
  simp [am_u, h]
theorem n_add_T {S : aN} {q : Bool} {m e lo : Nat} {kd t : Int32} (hk : kd = nI (e % 32)) (ht : q = true ∨ e % 32 ≠ 9 → t = nI (e / 32)) : n_T (n_add S m kd t) q lo lo m e b_0 := by
  refine ⟨⟨?_, ?_, ?_, ?_⟩, ?_⟩
  · simpa [n_add, am_u] using hk
  · simpa [n_add, am_u] using ht
  · simp [n_add, am_u, b_len]; rfl
  · simp [n_add, am_u, b_ht]; intro _; rfl
  · simp [n_F, n_add, am_u]
/-- linking: j2 becomes the last part of j, which then has the height hh -/
def n_lnk (S : aN) (j j2 : Nat) (hh : Int32) : aN := am_u (am_u (am_u (am_u (if S 3 j = 0 then am_u S 4 j (nI j2) else am_u S 6 (S 5 j).toNatClampNeg (nI j2)) 5 j (nI j2)) 7 j2 (nI j)) 3 j (S 3 j + 1)) 2 j hh
