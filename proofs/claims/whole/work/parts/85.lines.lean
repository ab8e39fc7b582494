/-! THE CLASS'S PARSER: lines, blocks, conditions -/
theorem p_Bs.seq {T : Nat} {tk : Nat → aT} {lo b t0 m m1 : Nat} {c0 c1 : aB} {A A1 : Nat → Nat → Int32} {a : aB × Nat} {v : Option Value} {I' A' : Nat → Nat → Int32} (h : p_Bs T tk lo b t0 m1 c1 A1 a v I' A') (h1 : m1 + b_sz c0 = m + b_sz c1) (h2 : m ≤ m1) (h3 : c_st A1 6 b = c_st A 6 b ∧ c_st A1 7 b = c_st A 7 b) (h4 : ∀ f k, k < lo → k ≠ b → c_st A1 f k = c_st A f k) : p_Bs T tk lo b t0 m c0 A a v I' A' := by
  obtain ⟨r1, m', r2, r3, r4, r5, r6, r7⟩ := h
  exact ⟨r1, m', r2, r3, by omega, by omega, ⟨r6.1.trans h3.1, r6.2.trans h3.2⟩, fun f k q1 q2 => (r7 f k q1 q2).trans (h4 f k q1 q2)⟩
section CLN
variable {g : List aK} {J : Nat → Nat → Int64} {X : Nat × (Nat → Int32)} {T : Nat} {tk : Nat → aT}
/-- the end of a line -/
theorem k_lx {I A : Nat → Nat → Int32} {ls : List (Nat × Value)} {p m b lo t0 : Nat} {c : aB} (hI : p_I T tk p m I A) (hN : n_T (c_st A) true lo m b (9 + 32 * d_bt c t0) c) (hp : p < T) (hls : am_run 9 75 (50, ls, [], am_H g I A J X) = am_ca 67 [.ref 26, .int 6] (56, ls, [], am_H g I A J X)) (hre : ∀ h (x : Int32), am_run 9 75 (56, ls, [.int x], h) = am_rt True (.inl none) h) : c_D p_cs 75 283 g J X I A (50, ls, [], am_H g I A J X) (p_Bs T tk lo b t0 m c A) (if d_mk T tk p = 6 then .ok (c, p + 1) else .error (9, d_pc tk p)) := by
  have h120 := hI.2.2.2.2.1.2.1
  refine c_D.call (n := 9) (by omega) hls rfl (by omega) (t_exp hI hp) (fun q h => ?_) (fun b1 h I1 A1 v hR => ?_)
  · split at h
    · cases h
    · next c1 => rw [if_neg c1]; cases h; rfl
  · split at h
    · next c1 =>
      rw [if_pos c1]
      obtain ⟨rfl, rfl, rfl, rfl⟩ := hR
      exact c_D.ret 9 (by omega) (hre _ _) trivial ⟨rfl, m, hI.adv (by omega), hN, rfl, Nat.le_refl _, ⟨rfl, rfl⟩, fun _ _ _ _ => rfl⟩
    · cases h
theorem k_ll (hT : T ≤ 120) (hW : d_W (d_mk T tk) T) {b lo t0 : Nat} (hblo : b < lo) : ∀ (i i' : Nat) (c : aB) (p m : Nat) (I A : Nat → Nat → Int32), i' + i = 120 → p_I T tk p m I A → n_T (c_st A) true lo m b (9 + 32 * d_bt c t0) c → lo ≤ m → m ≤ 2 * p + 3 → p < T → c_D p_cs 75 283 g J X I A (7, [(2, .int (nI i')), (0, .ref 26), (1, .int (nI b))], [], am_H g I A J X) (p_Bs T tk lo b t0 m c A) (d_ll (d_mk T tk) (d_pc tk) i c p)
  | 0, i', c, p, m, I, A, hi, hI, hN, hlm, hm, hp => by
    have hi' : i' = 120 := by omega
    subst hi'
    unfold d_ll
    refine c_D.yea 9 (by omega) rfl (nI_le (a := 120) (by omega) (by decide)) ?_
    exact k_lx hI hN hp rfl (fun _ _ => rfl)
  | i + 1, i', c, p, m, I, A, hi, hI, hN, hlm, hm, hp => by
    unfold d_ll
    refine c_D.nay 9 (by omega) rfl (nI_ge (b := 120) (by omega) (by decide)) ?_
    refine c_D.cav (n := 9) (by omega) rfl (t_isAt hI) (by omega) am_Fr.refl ?_
    by_cases c59 : d_mk T tk p = 59
    · rw [if_pos c59, show decide (d_mk T tk p = 59) = true from by simp [c59]]
      refine c_D.nay 9 (by omega) rfl (by decide) ?_
      have hT2 := hW.lt c59 (by decide)
      have hI1 := hI.adv (show p < 120 by omega)
      refine c_D.cav (n := 9) (by omega) rfl (t_adv hI.1 (by omega)) (by omega) (am_Fr.put (by decide)) ?_
      refine c_D.cav (n := 9) (by omega) rfl (t_isAt hI1) (by omega) am_Fr.refl ?_
      by_cases c6 : d_mk T tk (p + 1) = 6
      · rw [if_pos c6, show decide (d_mk T tk (p + 1) = 6) = true from by simp [c6]]
        refine c_D.nay 9 (by omega) rfl (by decide) ?_
        refine c_D.pla 1 (by omega) rfl ?_
        have := k_lx (g := g) (J := J) (X := X) (ls := [(2, .int (nI i')), (0, .ref 26), (1, .int (nI b))]) hI1 hN hT2 rfl (fun _ _ => rfl)
        rw [if_pos c6] at this
        exact this
      · rw [if_neg c6, show decide (d_mk T tk (p + 1) = 6) = false from by simp [c6]]
        refine c_D.yea 9 (by omega) rfl (by decide) ?_
        refine c_D.call (n := 9) (by omega) rfl rfl (by omega) (k_sm hT hW hI1 hN hlm (Nat.le_refl _) (by omega) hblo (by omega) hT2) (fun q h => ?_) (fun b1 h I1 A1 v hR => ?_)
        · cases hd : d_sm (d_mk T tk) (d_pc tk) (p + 1) with
          | error x => rw [hd] at h; cases h; rfl
          | ok a => rw [hd] at h; cases h
        · cases hd : d_sm (d_mk T tk) (d_pc tk) (p + 1) with
          | error x => rw [hd] at h; cases h
          | ok a =>
            obtain ⟨e2, c2, p2⟩ := a
            rw [hd] at h
            cases h
            obtain ⟨rfl, m', r2, r3, r4, r5, r6, r7⟩ := hR
            dsimp only at r2 r3 r4
            rw [b_sz_add] at r4
            have hz := (d_sm_Z hW hd).1
            have z1 := hz.2.1
            have z2 := hz.2.2.2.1
            refine c_D.pla 2 (by omega) rfl ?_
            rw [nI_1]
            refine (k_ll hT hW hblo i (i' + 1) (b_add c e2 c2) p2 m' I1 A1 (by omega) r2 r3 (by omega) (by omega) z1).mono ?_
            intro a v I' A' _ hR
            exact hR.seq (by rw [b_sz_add]; omega) r5 r6 r7
    · rw [if_neg c59, show decide (d_mk T tk p = 59) = false from by simp [c59]]
      refine c_D.yea 9 (by omega) rfl (by decide) ?_
      exact k_lx hI hN hp rfl (fun _ _ => rfl)
theorem k_ln (hT : T ≤ 120) (hW : d_W (d_mk T tk) T) {b lo mid t0 p m : Nat} {c : aB} {I A : Nat → Nat → Int32} (hblo : b < lo) (hI : p_I T tk p m I A) (hN : n_T (c_st A) true lo mid b (9 + 32 * d_bt c t0) c) (hlm : lo ≤ mid) (hmm : mid ≤ m) (hm : m ≤ 2 * p + 3) (hp : p < T) : c_M p_cs 283 75 [.ref 26, .int (nI b)] g I A J X (p_Bs T tk lo b t0 m c A) (d_li (d_mk T tk) (d_pc tk) c p) := by
  refine c_D.met rfl rfl ?_
  unfold d_li
  refine c_D.call (n := 9) (by omega) rfl rfl (by omega) (k_sm hT hW hI hN hlm hmm (by omega) hblo (by omega) hp) (fun q h => ?_) (fun b1 h I1 A1 v hR => ?_)
  · cases hd : d_sm (d_mk T tk) (d_pc tk) p with
    | error x => rw [hd] at h; cases h; rfl
    | ok a => rw [hd] at h; cases h
  · cases hd : d_sm (d_mk T tk) (d_pc tk) p with
    | error x => rw [hd] at h; cases h
    | ok a =>
      obtain ⟨e2, c2, p2⟩ := a
      rw [hd] at h
      cases h
      obtain ⟨rfl, m', r2, r3, r4, r5, r6, r7⟩ := hR
      dsimp only at r2 r3 r4
      rw [b_sz_add] at r4
      have hz := (d_sm_Z hW hd).1
      have z1 := hz.2.1
      have z2 := hz.2.2.2.1
      refine c_D.pla 2 (by omega) rfl ?_
      refine (k_ll hT hW hblo 120 0 (b_add c e2 c2) p2 m' I1 A1 (by omega) r2 r3 (by omega) (by omega) z1).mono ?_
      intro a v I' A' _ hR
      exact hR.seq (by rw [b_sz_add]; omega) r5 r6 r7
/-- what is known of the blocks within -/
def p_St (g : List aK) (J : Nat → Nat → Int64) (X : Nat × (Nat → Int32)) (T : Nat) (tk : Nat → aT) (D dep : Nat) (st : Nat → aG) : Prop := 284 ≤ D ∧ dep ≤ 8 ∧ d_Zt (d_mk T tk) T st ∧ ∀ (p m : Nat) (I A : Nat → Nat → Int32), p < T → m ≤ 2 * p + 2 → p_I T tk p m I A → c_M p_cs D 68 [.ref 26, .int 8, .int (nI (dep + 1))] g I A J X (p_V T tk m A) (st p)
theorem k_bk (hT : T ≤ 120) (hW : d_W (d_mk T tk) T) {D dep p m : Nat} {st : Nat → aG} {I A : Nat → Nat → Int32} (hS : p_St g J X T tk D dep st) (hI : p_I T tk p m I A) (hm : m ≤ 2 * p + 2) (hp : p < T) : c_M p_cs (D + 1) 74 [.ref 26, .int (nI dep)] g I A J X (p_V T tk m A) (d_bk (d_mk T tk) (d_pc tk) st p) := by
  obtain ⟨hD, hdep, hZ, hS⟩ := hS
  refine c_D.met rfl rfl ?_
  refine c_D.cav (n := 9) (by omega) rfl (t_isAt hI) (by omega) am_Fr.refl ?_
  unfold d_bk
  by_cases c6 : d_mk T tk p = 6
  · rw [if_pos c6, show decide (d_mk T tk p = 6) = true from by simp [c6]]
    refine c_D.nay 9 (by omega) rfl (by decide) ?_
    have hT2 := hW.lt c6 (by decide)
    have hI1 := hI.adv (show p < 120 by omega)
    refine c_D.cav (n := 9) (by omega) rfl (t_adv hI.1 (by omega)) (by omega) (am_Fr.put (by decide)) ?_
    refine c_D.call (n := 9) (by omega) rfl rfl (by omega) (t_exp hI1 hT2) (fun q h => ?_) (fun b1 h I1 A1 v hR => ?_)
    · split at h
      · cases h
      · next c1 => rw [if_neg c1]; cases h; rfl
    · split at h
      · next c7 =>
        rw [if_pos c7]
        obtain ⟨rfl, rfl, rfl, rfl⟩ := hR
        have hT3 : p + 1 + 1 < T := hW (p + 1) (by rw [c7]; decide) (by rw [c7]; decide)
        have hI2 := hI1.adv (show p + 1 < 120 by omega)
        refine c_D.call (n := 9) (M' := 68) (as' := [.ref 26, .int 8, .int (nI (dep + 1))]) (by omega) (by rw [← nI_1 dep]; rfl) rfl (by omega) (hS (p + 2) m _ A1 hT3 (by omega) hI2) (fun q h => h) (fun b1 h I1 A1 v hR => ?_)
        rw [h]
        obtain ⟨j, m', rfl, k⟩ := hR
        exact c_D.ret 9 (by omega) rfl trivial ⟨j, m', rfl, k⟩
      · cases h
  · rw [if_neg c6, show decide (d_mk T tk p = 6) = false from by simp [c6]]
    refine c_D.yea 9 (by omega) rfl (by decide) ?_
    refine c_D.cav (n := 9) (by omega) rfl (t_new hI.2.1 (show m < 360 by omega)) (by omega) c_addA_Fr ?_
    have e26 : I 26 3 = nI p := hI.1
    rw [e26]
    have hI2 := hI.new (k := 9) (t := nI p) (show m < 360 by omega)
    have hWn : n_W true (c_st A) m (c_st (c_addA A m 9 (nI p))) (9 + 32 * d_bt b_0 p) := by
      rw [c_addA_st]
      exact c_add_W (by rw [show (9 + 32 * d_bt b_0 p) % 32 = 9 from by omega]; rfl) (fun _ => by rw [show (9 + 32 * d_bt b_0 p) / 32 = p from by show (9 + 32 * p) / 32 = p; omega])
    refine c_D.call (n := 9) (by omega) rfl rfl (by omega) (k_ln hT hW (Nat.lt_succ_self m) hI2 (hWn.2.1 (m + 1)) (Nat.le_refl _) (Nat.le_refl _) (by omega) hp) (fun q h => by rw [h]) (fun b1 h I1 A1 v hR => ?_)
    obtain ⟨c2, p2⟩ := b1
    obtain ⟨rfl, m', r2, r3, r4, r5, r6, r7⟩ := hR
    rw [h]
    dsimp only at r2 r3 r4 ⊢
    simp only [b_sz] at r4
    refine c_D.ret 9 (by omega) rfl trivial ⟨m, m', rfl, r2, Nat.le_refl _, by omega, by dsimp only; omega, r3.wide (by omega) (Nat.le_refl _), by rw [r6.1]; exact hWn.2.2, fun f k hk => ?_⟩
    rw [r7 f k (by omega) (by omega)]
    exact hWn.1 f k (by omega)
theorem k_cd (hT : T ≤ 120) (hW : d_W (d_mk T tk) T) {D dep p m kd : Nat} {st : Nat → aG} {I A : Nat → Nat → Int32} (hS : p_St g J X T tk D dep st) (hI : p_I T tk p m I A) (hm : m ≤ 2 * p + 3) (hp : p + 1 < T) (hk : kd < 11) : c_M p_cs (D + 2) 72 [.ref 26, .int (nI kd), .int (nI dep)] g I A J X (p_V T tk m A) (d_cd (d_mk T tk) (d_pc tk) st kd p) := by
  have hD := hS.1
  refine c_D.met rfl rfl ?_
  have hI1 := hI.adv (show p < 120 by omega)
  refine c_D.cav (n := 9) (by omega) rfl (t_adv hI.1 (by omega)) (by omega) (am_Fr.put (by decide)) ?_
  refine c_D.cav (n := 9) (by omega) rfl (t_new hI1.2.1 (show m < 360 by omega)) (by omega) c_addA_Fr ?_
  have hI2 := hI1.new (k := nI kd) (t := nI p) (show m < 360 by omega)
  unfold d_cd
  refine c_D.call (n := 9) (by omega) rfl rfl (by omega) (k_expr hT hW hI2 (by omega) hp) (fun q h => by rw [h]) (fun b1 h I1 A1 v hR => ?_)
  obtain ⟨e3, c3, p3⟩ := b1
  obtain ⟨v, m3, rfl, hI3, hV⟩ := hR
  dsimp only at hI3 hV
  have q3 := d_ex_Q hW _ _ _ _ _ _ h (by decide)
  have q3T := q3.1.1
  have q32 := q3.2.1
  obtain ⟨A2, a1, a2, a3, a4⟩ := k_fst (g := g) (J := J) (X := X) (k := kd) (t := p) hI (by omega) hk hI3 hI3.2.2.1 hV
  have hm3 : m3 = m + (b_sz c3 + 1 + 0) + 1 := a4.2.2.1
  rw [h]
  dsimp only
  refine c_D.can (n := 9) (by omega) rfl a3 (by omega) a1 ?_
  refine c_D.call (n := 9) (by omega) rfl rfl (by omega) (t_exp a2 q3T) (fun q h => ?_) (fun b1 h I1 A1 v hR => ?_)
  · split at h
    · cases h
    · next c1 => rw [if_neg c1]; cases h; rfl
  · split at h
    · next c58 =>
      rw [if_pos c58]
      obtain ⟨rfl, rfl, rfl, rfl⟩ := hR
      have hT4 := hW.lt c58 (by decide)
      have hI4 := a2.adv (show p3 < 120 by omega)
      refine c_D.call (n := 9) (by omega) rfl rfl (by omega) (k_bk hT hW hS hI4 (by omega) hT4) (fun q h => by rw [h]) (fun b1 h I1 A3 v hR => ?_)
      obtain ⟨e5, c5, p5⟩ := b1
      obtain ⟨v, m5, rfl, hI5, hV5⟩ := hR
      dsimp only at hI5 hV5
      have hm5 : m5 = m3 + b_sz c5 + 1 := hV5.2.2.1
      have hv5 := hV5.2.1
      have hv51 := hV5.1
      have hmm := hI5.2.2.1
      rw [h]
      dsimp only
      obtain ⟨A4, hh, b1, b2, b3, b4, b5⟩ := t_app (g := g) (J := J) (X := X) (n := 1) hI5 (show m < m5 by omega) hv5 (by decide) (by rw [hV5.2.2.2.2.2 3 m (by omega)]; exact a4.2.2.2.1.1.2.2.1)
      obtain ⟨n1, n2, n3, n4⟩ := n_app1 (hh := hh) a4.2.2.2.1 (by omega) (Nat.le_refl _) (by omega) hV5 (by omega) (fun z => by omega)
      rw [← b1] at n1 n2 n3
      refine c_D.can (n := 9) (by omega) rfl b5 (by omega) b3 ?_
      refine c_D.ret 9 (by omega) rfl trivial ⟨m, m5, rfl, b4, Nat.le_refl _, by omega, by simp only [b_sz]; omega, n1, ?_, fun f k hk => ?_⟩
      · rw [n3, hV5.2.2.2.2.2 6 m (by omega)]; exact a4.2.2.2.2.1
      · rw [n2 f k (by omega) (by omega) (by omega), hV5.2.2.2.2.2 f k (by omega)]; exact a4.2.2.2.2.2 f k hk
    · cases h
end CLN
