/-! THE CLASS'S PARSER: members, calls, indices -/
/-- the value is a new node, seen from (m, S) -/
def p_W (T : Nat) (tk : Nat → aT) (m : Nat) (S : aN) (a : Nat × aB × Nat) (v : Option Value) (I' A' : Nat → Nat → Int32) : Prop := ∃ j m', v = some (.int (nI j)) ∧ p_I T tk a.2.2 m' I' A' ∧ n_V true S m (c_st A') m' j a.1 a.2.1
section CPT
variable {g : List aK} {J : Nat → Nat → Int64} {X : Nat × (Nat → Int32)} {T : Nat} {tk : Nat → aT} {D o : Nat} {full : Bool} {up : Nat → Nat → aG} {I A : Nat → Nat → Int32} {S : aN} {p m m1 v e : Nat} {c : aB}
/-- a new node over a finished one: its store -/
theorem k_over {k t : Nat} (hI : p_I T tk p m1 I A) (hm1 : m1 < 360) (hv : n_V true S m (c_st A) m1 v e c) (hk : k < 32) (ht : t < 400) (he : 11 ≤ k → 11 ≤ e % 32) : ∃ (A2 : Nat → Nat → Int32), am_Fr p_cs (am_u I 9 9 (nI (m1 + 1))) (c_addA A m1 (nI k) (nI t)) (am_u I 9 9 (nI (m1 + 1))) A2 ∧ p_I T tk p (m1 + 1) (am_u I 9 9 (nI (m1 + 1))) A2 ∧ am_Con 2 33 [.ref 9, .int (nI m1), .int (nI v)] (am_H g (am_u I 9 9 (nI (m1 + 1))) (c_addA A m1 (nI k) (nI t)) J X) (.inl none) (am_H g (am_u I 9 9 (nI (m1 + 1))) A2 J X) 0 0 ∧
    n_T (c_st A2) true m m1 m1 (k + 32 * t) (.branch e c b_0) ∧ c_st A2 6 m1 = -1 ∧ (∀ f x, x ≠ m1 → x ≠ v → c_st A2 f x = c_st A f x) := by
  have hI2 := hI.new (k := nI k) (t := nI t) hm1
  have hW : n_W true (c_st A) m1 (c_st (c_addA A m1 (nI k) (nI t))) (k + 32 * t) := by
    rw [c_addA_st]
    exact c_add_W (by rw [show (k + 32 * t) % 32 = k from by omega]) (fun _ => by rw [show (k + 32 * t) / 32 = t from by omega])
  have hvl := hv.2.1
  obtain ⟨A2, hh, a1, a2, a3, a4, a5⟩ := t_app (g := g) (J := J) (X := X) (n := 0) hI2 (show m1 < m1 + 1 by omega) (show v < m1 + 1 by omega) (by decide) (hW.2.1 0).1.2.2.1
  obtain ⟨n1, n2, n3⟩ := n_un (hh := hh) hv (by omega) hW (fun z => ⟨he (by omega), a2⟩)
  rw [← a1] at n1 n2 n3
  exact ⟨A2, a3, a4, a5, n1, n2, n3⟩
theorem k_call (hU : p_U g J X T tk D o full up) (hT : T ≤ 120) (hW : d_W (d_mk T tk) T) (hI : p_I T tk p m1 I A) (hm1 : m1 ≤ 2 * p + 3) (hv : n_V true S m (c_st A) m1 v e c) (he : 11 ≤ e % 32) (hp : p + 1 < T) : c_M p_cs (D + 2) 81 [.ref 26, .int (nI v), .int (nI o)] g I A J X (p_W T tk m S) (if full = true then .error (3, d_pc tk p) else match d_es (d_mk T tk) (d_pc tk) up 41 (.branch e c b_0) (p + 1) with
    | .error x => .error x
    | .ok (c2, p2) => .ok (17 + 32 * p, c2, p2)) := by
  have hD := hU.1
  have h1 := hv.1
  have h2 := hv.2.1
  refine c_D.met rfl rfl ?_
  have hI1 := hI.adv (show p < 120 by omega)
  refine c_D.cav (n := 9) (by omega) rfl (t_adv hI.1 (by omega)) (by omega) (am_Fr.put (by decide)) ?_
  refine c_D.cav (n := 9) (by omega) rfl (t_new hI1.2.1 (show m1 < 360 by omega)) (by omega) c_addA_Fr ?_
  obtain ⟨A2, a1, a2, a3, a4, a5, a6⟩ := k_over (g := g) (J := J) (X := X) (k := 17) (t := p) hI1 (by omega) hv (by decide) (by omega) (fun _ => he)
  refine c_D.can (n := 9) (by omega) rfl a3 (by omega) a1 ?_
  refine c_D.call (n := 9) (by omega) rfl rfl (by omega) (t_opn a2.2.2.2.2.1 hU.2.1 (show p < T by omega)) (fun q h => ?_) (fun b h I1 A1 v1 hR => ?_)
  · split at h
    · next c1 => rw [if_pos (hU.2.2.1.mpr c1)]; cases h; rfl
    · cases h
  · split at h
    · cases h
    · next c1 =>
      obtain ⟨rfl, rfl, rfl⟩ := hR
      have hf : ¬ full = true := fun z => c1 (hU.2.2.1.mp z)
      rw [if_neg hf]
      have hes := k_es (cl := 41) hU (by simpa using hf) hT hW (by omega) a2 a4 (by omega) (show m1 ≤ m1 + 1 by omega) (by omega) (by omega) hp
      refine c_D.call (n := 9) (by omega) rfl rfl (by omega) hes (fun q h => by rw [h]) (fun b h I1 A1 v hR => ?_)
      obtain ⟨c2, p2⟩ := b
      obtain ⟨rfl, m', r2, r3, r4, r5, r6, r7⟩ := hR
      dsimp only at r2 r3 r4
      rw [h]
      dsimp only
      simp only [b_sz] at r4
      have h3 := hv.2.2.1
      refine c_D.ret 9 (by omega) rfl trivial ⟨m1, m', rfl, r2, by omega, by omega, by dsimp only; omega, r3, by rw [r6]; exact a5, fun f k hk => ?_⟩
      rw [r7 f k hk (by omega), a6 f k (by omega) (by omega)]; exact hv.2.2.2.2.2 f k hk
theorem k_idx (hU : p_U g J X T tk D o full up) (hT : T ≤ 120) (hW : d_W (d_mk T tk) T) (hI : p_I T tk p m1 I A) (hm1 : m1 ≤ 2 * p + 3) (hv : n_V true S m (c_st A) m1 v e c) (he : 11 ≤ e % 32) (hp : p + 1 < T) : c_M p_cs (D + 1) 82 [.ref 26, .int (nI v), .int (nI o)] g I A J X (p_W T tk m S) (if full = true then .error (3, d_pc tk p) else match up 1 (p + 1) with
    | .error x => .error x
    | .ok (e2, c2, p2) => if d_mk T tk p2 = 93 then .ok (18 + 32 * p, .branch e c (.branch e2 c2 b_0), p2 + 1) else .error (9, d_pc tk p2)) := by
  have hD := hU.1
  have h1 := hv.1
  have h2 := hv.2.1
  have h3 := hv.2.2.1
  refine c_D.met rfl rfl ?_
  have hI1 := hI.adv (show p < 120 by omega)
  refine c_D.cav (n := 9) (by omega) rfl (t_adv hI.1 (by omega)) (by omega) (am_Fr.put (by decide)) ?_
  refine c_D.cav (n := 9) (by omega) rfl (t_new hI1.2.1 (show m1 < 360 by omega)) (by omega) c_addA_Fr ?_
  obtain ⟨A2, a1, a2, a3, a4, a5, a6⟩ := k_over (g := g) (J := J) (X := X) (k := 18) (t := p) hI1 (by omega) hv (by decide) (by omega) (fun _ => he)
  refine c_D.can (n := 9) (by omega) rfl a3 (by omega) a1 ?_
  refine c_D.call (n := 9) (by omega) rfl rfl (by omega) (t_opn a2.2.2.2.2.1 hU.2.1 (show p < T by omega)) (fun q h => ?_) (fun b h I1 A1 v1 hR => ?_)
  · split at h
    · next c1 => rw [if_pos (hU.2.2.1.mpr c1)]; cases h; rfl
    · cases h
  · split at h
    · cases h
    · next c1 =>
      obtain ⟨rfl, rfl, rfl⟩ := hR
      have hf : ¬ full = true := fun z => c1 (hU.2.2.1.mp z)
      rw [if_neg hf]
      have hup := (hU.2.2.2.2 (by simpa using hf) 1 (p + 1) (m1 + 1) _ A1 (by omega) (by omega) hp (by omega) a2).1
      refine c_D.call (n := 9) (by omega) rfl rfl (by omega) hup (fun q h => by rw [h]) (fun b h I1 A1' v1 hR => ?_)
      obtain ⟨e3, c3, p3⟩ := b
      obtain ⟨j, m3, rfl, hI3, hV⟩ := hR
      have q3 := hU.2.2.2.1 _ _ _ _ _ (by omega) h
      obtain ⟨q31, q32, q33, -⟩ := q3
      have q311 := q31.1
      dsimp only at hI3 hV
      have hm3 : m3 = m1 + 1 + b_sz c3 + 1 := hV.2.2.1
      have hjm : j < m3 := hV.2.1
      have hj1 : m1 + 1 ≤ j := hV.1
      have e3' : c_st A1' 3 m1 = nI 1 := by rw [hV.2.2.2.2.2 3 m1 (by omega)]; exact a4.1.2.2.1
      obtain ⟨A3, hh, b1, b2, b3, b4, b5⟩ := t_app (g := g) (J := J) (X := X) hI3 (show m1 < m3 by omega) hjm (show 1 < 1000 by omega) e3'
      obtain ⟨n1, n2, n3, n4⟩ := n_app1 (hh := hh) a4 (by omega) (Nat.le_succ m1) (by omega) hV (by omega) (fun _ => ⟨q33.ge, b2⟩)
      rw [← b1] at n1 n2 n3
      rw [h]
      dsimp only
      refine c_D.can (n := 9) (by omega) rfl b5 (by omega) b3 ?_
      refine c_D.call (n := 9) (by omega) rfl rfl (by omega) (t_exp b4 q311) (fun q h => ?_) (fun b h I1 A1 v hR => ?_)
      · split at h
        · cases h
        · next c1 => rw [if_neg c1]; cases h; rfl
      · split at h
        · next c1 =>
          rw [if_pos c1]
          obtain ⟨rfl, rfl, rfl, rfl⟩ := hR
          refine c_D.ret 9 (by omega) rfl trivial ⟨m1, m3, rfl, b4.adv (by omega), by omega, by omega, by simp only [b_sz]; omega, n1, ?_, fun f k hk => ?_⟩
          · rw [n3, hV.2.2.2.2.2 6 m1 (by omega)]; exact a5
          · rw [n2 f k (by omega) (by omega) (by omega), hV.2.2.2.2.2 f k (by omega), a6 f k (by omega) (by omega)]; exact hv.2.2.2.2.2 f k hk
        · cases h
end CPT
