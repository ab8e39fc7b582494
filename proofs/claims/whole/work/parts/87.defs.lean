/-! THE CLASS'S PARSER: definitions, statements, blocks -/
section CDF
variable {g : List aK} {J : Nat → Nat → Int64} {X : Nat × (Nat → Int32)} {T : Nat} {tk : Nat → aT}
/-- a parameter more -/
theorem k_par {I A : Nat → Nat → Int32} {p m lo nd e : Nat} {c : aB} (hI : p_I T tk p m I A) (hm : m < 360) (he : e % 32 < 11) (hN : n_T (c_st A) true lo m nd e c) (hlm : lo ≤ m) (hnd : nd < m) (ht : p < 400) : ∃ A2, am_Fr p_cs (am_u (am_u I 26 3 (nI (p + 1))) 9 9 (nI (m + 1))) (c_addA A m 24 (nI p)) (am_u (am_u I 26 3 (nI (p + 1))) 9 9 (nI (m + 1))) A2 ∧ (p < 120 → p_I T tk (p + 1) (m + 1) (am_u (am_u I 26 3 (nI (p + 1))) 9 9 (nI (m + 1))) A2) ∧ (p < 120 → am_Con 2 33 [.ref 9, .int (nI nd), .int (nI m)] (am_H g (am_u (am_u I 26 3 (nI (p + 1))) 9 9 (nI (m + 1))) (c_addA A m 24 (nI p)) J X) (.inl none) (am_H g (am_u (am_u I 26 3 (nI (p + 1))) 9 9 (nI (m + 1))) A2 J X) 0 0) ∧ n_T (c_st A2) true lo (m + 1) nd e (b_add c (24 + 32 * p) b_0) ∧ c_st A2 6 nd = c_st A 6 nd ∧ (∀ f k, k < lo → k ≠ nd → c_st A2 f k = c_st A f k) := by
  by_cases hp : p < 120
  · have hI2 := (hI.adv hp).new (k := 24) (t := nI p) hm
    have hW : n_W true (c_st A) m (c_st (c_addA A m 24 (nI p))) (24 + 32 * p) := by
      rw [c_addA_st]
      exact c_add_W (by rw [show (24 + 32 * p) % 32 = 24 from by omega]; rfl) (fun _ => by rw [show (24 + 32 * p) / 32 = p from by omega])
    have hV := hW.leaf
    have hbl := b_len_lt hlm hN.2
    obtain ⟨A2, hh, b1, b2, b3, b4, b5⟩ := t_app (g := g) (J := J) (X := X) (n := b_len c) hI2 (show nd < m + 1 by omega) (show m < m + 1 by omega) (by omega) (by rw [hV.2.2.2.2.2 3 nd hnd]; exact hN.1.2.2.1)
    obtain ⟨n1, n2, n3, n4⟩ := n_app1 (hh := hh) hN hlm (Nat.le_refl _) hnd hV (by omega) (fun z => by omega)
    rw [← b1] at n1 n2 n3
    exact ⟨A2, b3, fun _ => b4, fun _ => b5, n1, by rw [n3, hV.2.2.2.2.2 6 nd hnd], fun f k k1 k2 => by rw [n2 f k k2 (by omega) (by omega), hV.2.2.2.2.2 f k (by omega)]⟩
  · have hW : n_W true (c_st A) m (c_st (c_addA A m 24 (nI p))) (24 + 32 * p) := by
      rw [c_addA_st]
      exact c_add_W (by rw [show (24 + 32 * p) % 32 = 24 from by omega]; rfl) (fun _ => by rw [show (24 + 32 * p) / 32 = p from by omega])
    have := hI.2.2.2.1
    have hp2 : p = 120 := by omega
    have hI2 := hI.new (k := 24) (t := nI p) hm
    have hV := hW.leaf
    have hbl := b_len_lt hlm hN.2
    obtain ⟨A2, hh, b1, b2, b3, b4, b5⟩ := t_app (g := g) (J := J) (X := X) (n := b_len c) hI2 (show nd < m + 1 by omega) (show m < m + 1 by omega) (by omega) (by rw [hV.2.2.2.2.2 3 nd hnd]; exact hN.1.2.2.1)
    obtain ⟨n1, n2, n3, n4⟩ := n_app1 (hh := hh) hN hlm (Nat.le_refl _) hnd hV (by omega) (fun z => by omega)
    rw [← b1] at n1 n2 n3
    exact ⟨A2, fun x hx => ⟨rfl, (b3 x hx).2⟩, fun z => absurd z hp, fun z => absurd z hp, n1, by rw [n3, hV.2.2.2.2.2 6 nd hnd], fun f k k1 k2 => by rw [n2 f k k2 (by omega) (by omega), hV.2.2.2.2.2 f k (by omega)]⟩
theorem k_pm {α : Type} (hT : T ≤ 120) (hW : d_W (d_mk T tk) T) {d dep nd lo e : Nat} {R : α → Option Value → (Nat → Nat → Int32) → (Nat → Nat → Int32) → Prop} {F : aB → Nat → Except aF α} {A0 : Nat → Nat → Int32} {m0 : Nat} (hd : 20 ≤ d) (he : e % 32 < 11) (hk : ∀ (c2 : aB) (p2 m2 : Nat) (I2 A2 : Nat → Nat → Int32), p_I T tk p2 m2 I2 A2 → n_T (c_st A2) true lo m2 nd e c2 → m2 = m0 + b_sz c2 → c_st A2 6 nd = c_st A0 6 nd → (∀ f k, k < lo → k ≠ nd → c_st A2 f k = c_st A0 f k) → p2 < T → m2 ≤ 2 * p2 + 2 → c_D p_cs 73 d g J X I2 A2 (115, [(2, .int (nI nd)), (0, .ref 26), (1, .int (nI dep))], [], am_H g I2 A2 J X) R (F c2 p2)) : ∀ (i i' : Nat) (c : aB) (p m : Nat) (I A : Nat → Nat → Int32), i' + i = 120 → p_I T tk p m I A → n_T (c_st A) true lo m nd e c → m = m0 + b_sz c → lo ≤ m → nd < m → m ≤ 2 * p + 2 → p < T → c_st A 6 nd = c_st A0 6 nd → (∀ f k, k < lo → k ≠ nd → c_st A f k = c_st A0 f k) → c_D p_cs 73 d g J X I A (60, [(3, .int (nI i')), (2, .int (nI nd)), (0, .ref 26), (1, .int (nI dep))], [], am_H g I A J X) R (match d_pm (d_mk T tk) (d_pc tk) i c p with
    | .error x => .error x
    | .ok (c2, p2) => F c2 p2)
  | 0, i', c, p, m, I, A, hi, hI, hN, hm0, hlm, hnd, hm, hp, h6, hfr => by
    have hi' : i' = 120 := by omega
    subst hi'
    unfold d_pm
    refine c_D.yea 9 (by omega) rfl (nI_le (a := 120) (by omega) (by decide)) ?_
    refine c_D.call (n := 9) (by omega) rfl rfl (by omega) (t_exp hI hp) (fun q h => ?_) (fun b1 h I1 A1 v hR => ?_)
    · split at h
      · cases h
      · next c1 => rw [if_neg c1]; cases h; rfl
    · split at h
      · next c1 =>
        rw [if_pos c1]
        obtain ⟨rfl, rfl, rfl, rfl⟩ := hR
        refine c_D.pla 1 (by omega) rfl ?_
        refine c_D.sub [1, 2, 3] rfl ?_
        exact hk c (p + 1) m _ A1 (hI.adv (by omega)) hN hm0 h6 hfr (hW.lt c1 (by decide)) (by omega)
      · cases h
  | i + 1, i', c, p, m, I, A, hi, hI, hN, hm0, hlm, hnd, hm, hp, h6, hfr => by
    unfold d_pm
    refine c_D.nay 9 (by omega) rfl (nI_ge (b := 120) (by omega) (by decide)) ?_
    refine c_D.cav (n := 9) (by omega) rfl (t_isAt hI) (by omega) am_Fr.refl ?_
    by_cases c44 : d_mk T tk p = 44
    · rw [if_pos c44, show decide (d_mk T tk p = 44) = true from by simp [c44]]
      refine c_D.nay 9 (by omega) rfl (by decide) ?_
      have hT2 := hW.lt c44 (by decide)
      have hI1 := hI.adv (show p < 120 by omega)
      refine c_D.cav (n := 9) (by omega) rfl (t_adv hI.1 (by omega)) (by omega) (am_Fr.put (by decide)) ?_
      refine c_D.call (n := 12) (by omega) rfl rfl (by omega) (t_exp hI1 hT2) (fun q h => ?_) (fun b1 h I1 A1 v hR => ?_)
      · split at h
        · cases h
        · next c1 => rw [if_neg c1]; cases h; rfl
      · split at h
        · next c1 =>
          rw [if_pos c1]
          obtain ⟨rfl, rfl, rfl, rfl⟩ := hR
          have hT3 := hW.lt c1 (by decide)
          obtain ⟨A2, a1, a2, a3, a4, a5, a6⟩ := k_par (g := g) (J := J) (X := X) hI1 (show m < 360 by omega) he hN hlm hnd (show p + 1 < 400 by omega)
          refine c_D.cav (n := 9) (by omega) rfl (t_new (hI1.adv (show p + 1 < 120 by omega)).2.1 (show m < 360 by omega)) (by omega) c_addA_Fr ?_
          refine c_D.can (n := 9) (by omega) rfl (a3 (by omega)) (by omega) a1 ?_
          refine c_D.pla 2 (by omega) rfl ?_
          rw [nI_1]
          exact k_pm hT hW hd he hk i (i' + 1) _ (p + 2) (m + 1) _ A2 (by omega) (a2 (by omega)) a4 (by rw [b_sz_add]; simp only [b_sz]; omega) (by omega) (by omega) (by omega) (by omega) (a5.trans h6) (fun f k k1 k2 => (a6 f k k1 k2).trans (hfr f k k1 k2))
        · cases h
    · rw [if_neg c44, show decide (d_mk T tk p = 44) = false from by simp [c44]]
      refine c_D.yea 9 (by omega) rfl (by decide) ?_
      refine c_D.call (n := 9) (by omega) rfl rfl (by omega) (t_exp hI hp) (fun q h => ?_) (fun b1 h I1 A1 v hR => ?_)
      · split at h
        · cases h
        · next c1 => rw [if_neg c1]; cases h; rfl
      · split at h
        · next c1 =>
          rw [if_pos c1]
          obtain ⟨rfl, rfl, rfl, rfl⟩ := hR
          refine c_D.pla 1 (by omega) rfl ?_
          refine c_D.sub [1, 2, 3] rfl ?_
          exact hk c (p + 1) m _ A1 (hI.adv (by omega)) hN hm0 h6 hfr (hW.lt c1 (by decide)) (by omega)
        · cases h
theorem k_df (hT : T ≤ 120) (hW : d_W (d_mk T tk) T) {D dep p m : Nat} {st : Nat → aG} {I A : Nat → Nat → Int32} (hS : p_St g J X T tk D dep st) (hI : p_I T tk p m I A) (hm : m ≤ 2 * p + 3) (hp : p + 1 < T) : c_M p_cs (D + 2) 73 [.ref 26, .int (nI dep)] g I A J X (p_V T tk m A) (d_df (d_mk T tk) (d_pc tk) st p) := by
  have hD := hS.1
  refine c_D.met rfl rfl ?_
  have hI1 := hI.adv (show p < 120 by omega)
  refine c_D.cav (n := 9) (by omega) rfl (t_adv hI.1 (by omega)) (by omega) (am_Fr.put (by decide)) ?_
  unfold d_df
  refine c_D.call (n := 9) (by omega) rfl rfl (by omega) (t_exp hI1 hp) (fun q h => ?_) (fun b1 h I1 A1 v hR => ?_)
  · split at h
    · cases h
    · next c1 => rw [if_neg c1]; cases h; rfl
  split at h
  · next c1 =>
    rw [if_pos c1]
    obtain ⟨rfl, rfl, rfl, rfl⟩ := hR
    have hT2 := hW.lt c1 (by decide)
    have hI2 := hI1.adv (show p + 1 < 120 by omega)
    refine c_D.cav (n := 9) (by omega) rfl (t_new hI2.2.1 (show m < 360 by omega)) (by omega) c_addA_Fr ?_
    have hI3 := hI2.new (k := 8) (t := nI (p + 1)) (show m < 360 by omega)
    have hWn : n_W true (c_st A1) m (c_st (c_addA A1 m 8 (nI (p + 1)))) (8 + 32 * (p + 1)) := by
      rw [c_addA_st]
      exact c_add_W (by rw [show (8 + 32 * (p + 1)) % 32 = 8 from by omega]; rfl) (fun _ => by rw [show (8 + 32 * (p + 1)) / 32 = p + 1 from by omega])
    refine c_D.call (n := 9) (by omega) rfl rfl (by omega) (t_exp hI3 hT2) (fun q h => ?_) (fun b1 h I1 A2 v hR => ?_)
    · split at h
      · cases h
      · next c1 =>
        have c1' : ¬ d_mk T tk (p + 2) = 40 := c1
        rw [if_neg c1']; cases h; rfl
    split at h
    · next c40 =>
      have c40' : d_mk T tk (p + 2) = 40 := c40
      rw [if_pos c40']
      obtain ⟨rfl, rfl, rfl, rfl⟩ := hR
      have hT3 := hW.lt c40 (by decide)
      have hI4 := hI3.adv (show p + 1 + 1 < 120 by omega)
      -- behind the parameters
      have hk : ∀ (c2 : aB) (p2 m2 : Nat) (I2 A2 : Nat → Nat → Int32), p_I T tk p2 m2 I2 A2 → n_T (c_st A2) true (m + 1) m2 m (8 + 32 * (p + 1)) c2 → m2 = (m + 1) + b_sz c2 → c_st A2 6 m = c_st (c_addA A1 m 8 (nI (p + 1))) 6 m → (∀ f k, k < m + 1 → k ≠ m → c_st A2 f k = c_st (c_addA A1 m 8 (nI (p + 1))) f k) → p2 < T → m2 ≤ 2 * p2 + 2 → c_D p_cs 73 (D + 2) g J X I2 A2 (115, [(2, .int (nI m)), (0, .ref 26), (1, .int (nI dep))], [], am_H g I2 A2 J X) (p_V T tk m A1) (if d_mk T tk p2 = 58 then (match d_bk (d_mk T tk) (d_pc tk) st (p2 + 1) with
          | .error x => .error x
          | .ok (e3, c3, p3) => .ok (8 + 32 * (p + 1), b_add c2 e3 c3, p3)) else .error (9, d_pc tk p2)) := fun c2 p2 m2 I2 A2 k1 k2 k3 k4 k5 k6 k7 => by
        refine c_D.call (n := 9) (by omega) rfl rfl (by omega) (t_exp k1 k6) (fun q h => ?_) (fun b1 h I1 A3 v hR => ?_)
        · split at h
          · cases h
          · next c1 => rw [if_neg c1]; cases h; rfl
        split at h
        · next c58 =>
          rw [if_pos c58]
          obtain ⟨rfl, rfl, rfl, rfl⟩ := hR
          have hT4 := hW.lt c58 (by decide)
          refine c_D.call (n := 9) (by omega) rfl rfl (by omega) (k_bk hT hW hS (k1.adv (by omega)) (by omega) hT4) (fun q h => by rw [h]) (fun b1 h I1 A4 v hR => ?_)
          obtain ⟨e5, c5, p5⟩ := b1
          obtain ⟨v, m5, rfl, hI5, hV5⟩ := hR
          rw [h]
          dsimp only at hI5 hV5 ⊢
          have hm5 : m5 = m2 + b_sz c5 + 1 := hV5.2.2.1
          have hv5 := hV5.2.1
          have hv51 := hV5.1
          have hmm := hI5.2.2.1
          have hbl := b_len_lt (by omega) k2.2
          obtain ⟨A5, hh, b1, b2, b3, b4, b5⟩ := t_app (g := g) (J := J) (X := X) (n := b_len c2) hI5 (show m < m5 by omega) hv5 (by omega) (by rw [hV5.2.2.2.2.2 3 m (by omega)]; exact k2.1.2.2.1)
          obtain ⟨n1, n2, n3, n4⟩ := n_app1 (hh := hh) k2 (by omega) (Nat.le_refl _) (by omega) hV5 (by omega) (fun z => by omega)
          rw [← b1] at n1 n2 n3
          refine c_D.can (n := 9) (by omega) rfl b5 (by omega) b3 ?_
          refine c_D.ret 9 (by omega) rfl trivial ⟨m, m5, rfl, b4, Nat.le_refl _, by omega, by dsimp only; rw [b_sz_add]; omega, n1.wide (by omega) (Nat.le_refl _), ?_, fun f k hk => ?_⟩
          · rw [n3, hV5.2.2.2.2.2 6 m (by omega), k4]; exact hWn.2.2
          · rw [n2 f k (by omega) (by omega) (by omega), hV5.2.2.2.2.2 f k (by omega), k5 f k (by omega) (by omega)]; exact hWn.1 f k (by omega)
        · cases h
      unfold d_ps
      have at41 := t_isAt (g := g) (J := J) (X := X) (x := 41) hI4
      refine c_D.cav (n := 9) (by omega) rfl at41 (by omega) am_Fr.refl ?_
      by_cases c41 : d_mk T tk (p + 3) = 41
      · rw [if_pos c41, show decide (d_mk T tk (p + 1 + 1 + 1) = 41) = true from by simpa using c41]
        refine c_D.yea 9 (by omega) rfl (by decide) ?_
        refine c_D.call (n := 9) (by omega) rfl rfl (by omega) (t_exp hI4 hT3) (fun q h => ?_) (fun b1 h I1 A3 v hR => ?_)
        · rw [if_pos (show d_mk T tk (p + 1 + 1 + 1) = 41 from c41)] at h; cases h
        · obtain ⟨rfl, rfl, rfl, rfl⟩ := hR
          refine c_D.pla 1 (by omega) rfl ?_
          refine hk b_0 (p + 3 + 1) (m + 1) _ _ (hI4.adv (show p + 1 + 1 + 1 < 120 by omega)) (hWn.2.1 (m + 1)) (by simp [b_sz]) rfl (fun _ _ _ _ => rfl) (hW.lt c41 (by decide)) (by omega)
      · rw [if_neg c41, show decide (d_mk T tk (p + 1 + 1 + 1) = 41) = false from by simpa using c41]
        refine c_D.nay 9 (by omega) rfl (by decide) ?_
        refine c_D.call (n := 9) (by omega) rfl rfl (by omega) (t_exp hI4 hT3) (fun q h => ?_) (fun b1 h I1 A3 v hR => ?_)
        · split at h
          · cases h
          · next c1 =>
            have c1' : ¬ d_mk T tk (p + 3) = 1 := c1
            rw [if_neg c1']; cases h; rfl
        split at h
        · next cn =>
          have cn' : d_mk T tk (p + 3) = 1 := cn
          rw [if_pos cn']
          obtain ⟨rfl, rfl, rfl, rfl⟩ := hR
          have hT5 := hW.lt cn (by decide)
          obtain ⟨A4, a1, a2, a3, a4, a5, a6⟩ := k_par (g := g) (J := J) (X := X) hI4 (show m + 1 < 360 by omega) (show (8 + 32 * (p + 1)) % 32 < 11 by omega) (hWn.2.1 (m + 1)) (Nat.le_refl _) (by omega) (show p + 1 + 1 + 1 < 400 by omega)
          refine c_D.cav (n := 9) (by omega) rfl (t_new (hI4.adv (show p + 1 + 1 + 1 < 120 by omega)).2.1 (show m + 1 < 360 by omega)) (by omega) c_addA_Fr ?_
          refine c_D.can (n := 9) (by omega) rfl (a3 (by omega)) (by omega) a1 ?_
          refine c_D.pla 2 (by omega) rfl ?_
          refine k_pm (m0 := m + 1) (A0 := _) (F := fun c2 p2 => if d_mk T tk p2 = 58 then (match d_bk (d_mk T tk) (d_pc tk) st (p2 + 1) with
            | .error x => .error x
            | .ok (e3, c3, p3) => .ok (8 + 32 * (p + 1), b_add c2 e3 c3, p3)) else .error (9, d_pc tk p2)) hT hW (by omega) (show (8 + 32 * (p + 1)) % 32 < 11 by omega) hk 120 0 (.branch (24 + 32 * (p + 3)) b_0 b_0) (p + 4) (m + 2) _ A4 (by omega) (a2 (by omega)) a4 (by simp only [b_sz]) (by omega) (by omega) (by omega) (by omega) a5 a6
        · cases h
    · cases h
  · cases h
end CDF
