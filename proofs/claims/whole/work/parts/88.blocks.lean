/-! THE CLASS'S PARSER: statements, and the whole -/
section CBL
variable {g : List aK} {J : Nat → Nat → Int64} {X : Nat × (Nat → Int32)} {T : Nat} {tk : Nat → aT}
theorem k_s1 (hT : T ≤ 120) (hW : d_W (d_mk T tk) T) (hIn : ∀ p, d_mk T tk p = 7 → d_mk T tk (p + 1) ≠ 8) {D dep b lo t0 p m : Nat} {c : aB} {st : Nat → aG} {I A : Nat → Nat → Int32} (hS : p_St g J X T tk D dep st) (hblo : b < lo) (hI : p_I T tk p m I A) (hN : n_T (c_st A) true lo m b (9 + 32 * d_bt c t0) c) (hlm : lo ≤ m) (hm : m ≤ 2 * p + 3) (hp : p < T) : c_M p_cs (D + 4) 69 [.ref 26, .int (nI b), .int (nI dep)] g I A J X (p_Bs T tk lo b t0 m c A) (d_s1 (d_mk T tk) (d_pc tk) st c p) := by
  have hD := hS.1
  have fin : ∀ {I1 A1 : Nat → Nat → Int32} {pc j m' p' e2 : Nat} {c2 : aB}, p_I T tk p' m' I1 A1 → n_V true (c_st A) m (c_st A1) m' j e2 c2 → (am_run 9 69 (pc, [(0, .ref 26), (1, .int (nI b)), (2, .int (nI dep))], [.int (nI j), .int (nI b), .ref 26], am_H g I1 A1 J X) = am_ca 70 [.ref 26, .int (nI b), .int (nI j)] (pc + 3, [(0, .ref 26), (1, .int (nI b)), (2, .int (nI dep))], [], am_H g I1 A1 J X)) → (∀ h, am_run 9 69 (pc + 3 - 3 + 3, [(0, .ref 26), (1, .int (nI b)), (2, .int (nI dep))], [], h) = am_rt True (.inl none) h) → c_D p_cs 69 (D + 4) g J X I1 A1 (pc, [(0, .ref 26), (1, .int (nI b)), (2, .int (nI dep))], [.int (nI j), .int (nI b), .ref 26], am_H g I1 A1 J X) (p_Bs T tk lo b t0 m c A) (.ok (b_add c e2 c2, p')) := fun {I1 A1 pc j m' p' e2 c2} k1 k2 r1 r2 => by
    obtain ⟨A', a1, a2, a3⟩ := k_addS (g := g) (J := J) (X := X) k1 hN hlm (Nat.le_refl _) (by omega) hblo k2
    refine c_D.can (n := 9) (by omega) r1 a2 (by omega) a1 ?_
    refine c_D.ret 9 (by omega) (r2 _) trivial ?_
    obtain ⟨x1, m2, x2, x3, x4, x5, x6, x7⟩ := a3
    exact ⟨x1, m2, x2, x3, x4, x5, ⟨by rw [x6.1]; exact k2.2.2.2.2.2 6 b (by omega), by rw [x6.2]; exact k2.2.2.2.2.2 7 b (by omega)⟩, fun f k q1 q2 => by rw [x7 f k q1 q2]; exact k2.2.2.2.2.2 f k (by omega)⟩
  refine c_D.met rfl rfl ?_
  refine c_D.cav (n := 9) (by omega) rfl (by rw [hI.1]; exact t_mark hI.2.2.2.2.1 (by omega)) (by omega) am_Fr.refl ?_
  generalize hx : d_mk T tk p = x
  unfold d_s1
  rw [hx]
  by_cases c11 : x = 11
  · rw [if_pos c11]
    refine c_D.swi 9 (by omega) rfl (Or.inl ⟨c11, rfl⟩) ?_
    refine c_D.call (n := 9) (by omega) rfl rfl (by omega) (k_if hT hW hIn hS hI hm (hx.trans c11)) (fun q h => by rw [h]) (fun b1 h I1 A1 v hR => ?_)
    obtain ⟨e2, c2, p2⟩ := b1
    obtain ⟨j, m', rfl, k1, k2⟩ := hR
    rw [h]
    exact fin (pc := 51) k1 k2 rfl (fun _ => rfl)
  rw [if_neg c11]
  by_cases c14 : x = 14
  · rw [if_pos c14]
    have hT2 := hW.lt (hx.trans c14) (by decide)
    refine c_D.swi 9 (by omega) rfl (Or.inr ⟨c11, Or.inr ⟨by rw [c14]; decide, Or.inr ⟨by rw [c14]; decide, Or.inl ⟨c14, rfl⟩⟩⟩⟩) ?_
    refine c_D.call (n := 9) (by omega) rfl rfl (by omega) (k_cd hT hW hS hI hm hT2 (kd := 7) (by decide)) (fun q h => by rw [h]) (fun b1 h I1 A1 v hR => ?_)
    obtain ⟨e2, c2, p2⟩ := b1
    obtain ⟨j, m', rfl, k1, k2⟩ := hR
    rw [h]
    exact fin (pc := 66) k1 k2 rfl (fun _ => rfl)
  rw [if_neg c14]
  by_cases c15 : x = 15
  · rw [if_pos c15]
    have hT2 := hW.lt (hx.trans c15) (by decide)
    refine c_D.swi 9 (by omega) rfl (Or.inr ⟨c11, Or.inr ⟨by rw [c15]; decide, Or.inr ⟨by rw [c15]; decide, Or.inr ⟨c14, Or.inl ⟨c15, rfl⟩⟩⟩⟩⟩) ?_
    refine c_D.call (n := 9) (by omega) rfl rfl (by omega) (k_df hT hW hS hI hm hT2) (fun q h => by rw [h]) (fun b1 h I1 A1 v hR => ?_)
    obtain ⟨e2, c2, p2⟩ := b1
    obtain ⟨j, m', rfl, k1, k2⟩ := hR
    rw [h]
    exact fin (pc := 79) k1 k2 rfl (fun _ => rfl)
  rw [if_neg c15]
  have st85 : ∀ {r : Except aF (aB × Nat)} {R : (aB × Nat) → Option Value → (Nat → Nat → Int32) → (Nat → Nat → Int32) → Prop}, c_D p_cs 69 (D + 4) g J X I A (85, [(0, .ref 26), (1, .int (nI b)), (2, .int (nI dep))], [], am_H g I A J X) R r → c_D p_cs 69 (D + 4) g J X I A (11, [(0, .ref 26), (1, .int (nI b)), (2, .int (nI dep))], [.int x], am_H g I A J X) R r := fun k => by
    by_cases c12 : x = 12
    · exact c_D.swi 9 (by omega) rfl (Or.inr ⟨c11, Or.inl ⟨c12, rfl⟩⟩) k
    · by_cases c13 : x = 13
      · exact c_D.swi 9 (by omega) rfl (Or.inr ⟨c11, Or.inr ⟨c12, Or.inl ⟨c13, rfl⟩⟩⟩) k
      · exact c_D.swi 9 (by omega) rfl (Or.inr ⟨c11, Or.inr ⟨c12, Or.inr ⟨c13, Or.inr ⟨c14, Or.inr ⟨c15, rfl⟩⟩⟩⟩⟩) k
  refine st85 ?_
  refine c_D.call (n := 9) (by omega) rfl rfl (by omega) (k_ln hT hW hblo hI hN hlm (Nat.le_refl _) (by omega) hp) (fun q h => h) (fun b1 h I1 A1 v hR => ?_)
  rw [h]
  obtain ⟨rfl, hR⟩ := hR
  exact c_D.ret 9 (by omega) rfl trivial ⟨rfl, hR⟩
abbrev p_l68 (i b dep : Nat) (cl : Int32) : List (Nat × Value) := [(4, .int (nI i)), (3, .int (nI b)), (0, .ref 26), (1, .int cl), (2, .int (nI dep))]
/-- the end of a block -/
theorem k_slx {I A : Nat → Nat → Int32} {D p m b lo t0 dep i' : Nat} {c : aB} {cl : Int32} (hD : 284 ≤ D) (hI : p_I T tk p m I A) (hN : n_T (c_st A) true lo m b (9 + 32 * d_bt c t0) c) (hp : p < T) : c_D p_cs 68 (D + 5) g J X I A (69, p_l68 i' b dep cl, [], am_H g I A J X) (fun a v I' A' => v = some (.int (nI b)) ∧ p_Bs T tk lo b t0 m c A a none I' A') (if d_mk T tk p = cl then .ok (c, p + 1) else .error (9, d_pc tk p)) := by
  have h120 := hI.2.2.2.2.1.2.1
  refine c_D.call (n := 9) (by omega) rfl rfl (by omega) (t_exp hI hp) (fun q h => ?_) (fun b1 h I1 A1 v hR => ?_)
  · split at h
    · cases h
    · next c1 => rw [if_neg c1]; cases h; rfl
  · split at h
    · next c1 =>
      rw [if_pos c1]
      obtain ⟨rfl, rfl, rfl, rfl⟩ := hR
      exact c_D.ret 9 (by omega) rfl trivial ⟨rfl, rfl, m, hI.adv (by omega), hN, rfl, Nat.le_refl _, ⟨rfl, rfl⟩, fun _ _ _ _ => rfl⟩
    · cases h
theorem k_sl (hT : T ≤ 120) (hW : d_W (d_mk T tk) T) (hIn : ∀ p, d_mk T tk p = 7 → d_mk T tk (p + 1) ≠ 8) {D dep b lo t0 p0 m0 : Nat} {st : Nat → aG} {cl : Int32} (hS : p_St g J X T tk D dep st) (hblo : b < lo) (hm0 : m0 ≤ 2 * p0 + 3) : ∀ (i i' : Nat) (c : aB) (p m : Nat) (I A : Nat → Nat → Int32), i' + i = 120 → p_I T tk p m I A → n_T (c_st A) true lo m b (9 + 32 * d_bt c t0) c → lo ≤ m → m = m0 + b_sz c → d_Zs (d_mk T tk) T p0 c p → c_D p_cs 68 (D + 5) g J X I A (42, p_l68 i' b dep cl, [], am_H g I A J X) (fun a v I' A' => v = some (.int (nI b)) ∧ p_Bs T tk lo b t0 m c A a none I' A') (d_sl (d_mk T tk) (d_pc tk) st cl i c p)
  | 0, i', c, p, m, I, A, hi, hI, hN, hlm, hm, hz => by
    have hi' : i' = 120 := by omega
    subst hi'
    unfold d_sl
    have hD := hS.1
    refine c_D.yea 9 (by omega) rfl (nI_le (a := 120) (by omega) (by decide)) ?_
    exact k_slx hD hI hN hz.2.1
  | i + 1, i', c, p, m, I, A, hi, hI, hN, hlm, hm, hz => by
    have hD := hS.1
    unfold d_sl
    refine c_D.nay 9 (by omega) rfl (nI_ge (b := 120) (by omega) (by decide)) ?_
    refine c_D.cav (n := 9) (by omega) rfl (t_isAt hI) (by omega) am_Fr.refl ?_
    by_cases ccl : d_mk T tk p = cl
    · rw [if_pos ccl, show decide (d_mk T tk p = cl) = true from by simp [ccl]]
      refine c_D.yea 9 (by omega) rfl (by decide) ?_
      have := k_slx (g := g) (J := J) (X := X) (dep := dep) (cl := cl) (i' := i') hD hI hN hz.2.1
      rw [if_pos ccl] at this
      exact this
    · rw [if_neg ccl, show decide (d_mk T tk p = cl) = false from by simp [ccl]]
      refine c_D.nay 9 (by omega) rfl (by decide) ?_
      have hz4 := hz.2.2.2.1
      have hz1 := hz.1
      refine c_D.call (n := 9) (by omega) rfl rfl (by omega) (k_s1 hT hW hIn hS hblo hI hN hlm (by omega) hz.2.1) (fun q h => by rw [h]) (fun b1 h I1 A1 v hR => ?_)
      obtain ⟨c2, p2⟩ := b1
      obtain ⟨rfl, m', r2, r3, r4, r5, r6, r7⟩ := hR
      have hz2 := (d_s1_Z hW hIn hS.2.2.1 hz h).1
      rw [h]
      dsimp only at r2 r3 r4 ⊢
      refine c_D.pla 2 (by omega) rfl ?_
      rw [nI_1]
      refine (k_sl hT hW hIn hS hblo hm0 i (i' + 1) c2 p2 m' I1 A1 (by omega) r2 r3 (by omega) (by omega) hz2).mono ?_
      rintro a v I' A' - ⟨x1, x2⟩
      exact ⟨x1, x2.seq r4 r5 r6 r7⟩
theorem k_stb (hT : T ≤ 120) (hW : d_W (d_mk T tk) T) (hIn : ∀ p, d_mk T tk p = 7 → d_mk T tk (p + 1) ≠ 8) {D dep p m : Nat} {st : Nat → aG} {cl : Int32} {I A : Nat → Nat → Int32} (hS : p_St g J X T tk D dep st) (hI : p_I T tk p m I A) (hm : m ≤ 2 * p + 2) (hp : p < T) : c_M p_cs (D + 5) 68 [.ref 26, .int cl, .int (nI dep)] g I A J X (p_V T tk m A) (match d_sl (d_mk T tk) (d_pc tk) st cl 120 b_0 p with
    | .error x => .error x
    | .ok (c, p2) => .ok (9 + 32 * d_bt c p, c, p2)) := by
  have hD := hS.1
  have hdep := hS.2.1
  refine c_D.met rfl rfl ?_
  refine c_D.yea 9 (by omega) rfl (nI_lt (b := 9) (by omega) (by decide)) ?_
  refine c_D.cav (n := 9) (by omega) rfl (t_new hI.2.1 (show m < 360 by omega)) (by omega) c_addA_Fr ?_
  have e26 : I 26 3 = nI p := hI.1
  rw [e26]
  have hI2 := hI.new (k := 9) (t := nI p) (show m < 360 by omega)
  have hWn : n_W true (c_st A) m (c_st (c_addA A m 9 (nI p))) (9 + 32 * d_bt b_0 p) := by
    rw [c_addA_st]
    exact c_add_W (by rw [show (9 + 32 * d_bt b_0 p) % 32 = 9 from by omega]; rfl) (fun _ => by rw [show (9 + 32 * d_bt b_0 p) / 32 = p from by show (9 + 32 * p) / 32 = p; omega])
  refine c_D.pla 3 (by omega) rfl ?_
  have hz : d_Zs (d_mk T tk) T p b_0 p := ⟨Nat.le_refl _, hp, rfl, by simp only [b_sz]; omega, by unfold b_sk; rfl⟩
  have := k_sl (g := g) (J := J) (X := X) (cl := cl) (t0 := p) (m0 := m + 1) hT hW hIn hS (Nat.lt_succ_self m) (by omega) 120 0 b_0 p (m + 1) _ _ (by omega) hI2 (hWn.2.1 (m + 1)) (Nat.le_refl _) (by simp [b_sz]) hz
  revert this
  cases hr : d_sl (d_mk T tk) (d_pc tk) st cl 120 b_0 p with
  | error q => exact id
  | ok a =>
    obtain ⟨c2, p2⟩ := a
    rintro ⟨I', A', v, ⟨x1, -, m', r2, r3, r4, r5, r6, r7⟩, hF, hto⟩
    dsimp only at r2 r3 r4
    simp only [b_sz] at r4
    refine ⟨I', A', v, ⟨m, m', x1, r2, Nat.le_refl _, by omega, by dsimp only; omega, r3.wide (by omega) (Nat.le_refl _), by rw [r6.1]; exact hWn.2.2, fun f k hk => ?_⟩, hF, hto⟩
    rw [r7 f k (by omega) (by omega)]
    exact hWn.1 f k (by omega)
theorem k_St (hT : T ≤ 120) (hW : d_W (d_mk T tk) T) (hIn : ∀ p, d_mk T tk p = 7 → d_mk T tk (p + 1) ≠ 8) : ∀ r dep, r + dep = 8 → p_St g J X T tk (290 + 5 * r) dep (d_st (d_mk T tk) (d_pc tk) r 8)
  | 0, dep, hr => ⟨by omega, by omega, d_st_Z hW hIn 0, fun p m I A hp hm hI => by
    have : dep = 8 := by omega
    subst this
    unfold d_st
    refine c_D.met rfl rfl ?_
    refine c_D.nay 9 (by omega) rfl (by decide) ?_
    refine c_D.cav (n := 9) (by omega) rfl (by rw [hI.1]; exact t_place hI.2.2.2.2.1 hp) (by omega) am_Fr.refl ?_
    exact c_D.ref (n := 9) (by omega) rfl rfl (by decide) rfl⟩
  | r + 1, dep, hr => ⟨by omega, by omega, d_st_Z hW hIn (r + 1), fun p m I A hp hm hI => by
    have ih := k_St hT hW hIn r (dep + 1) (by omega)
    unfold d_st
    exact k_stb (cl := 8) hT hW hIn ih hI hm hp⟩
/-- all the tokens, read from the first -/
theorem k_whole (hT : T ≤ 120) (hW : d_W (d_mk T tk) T) (hIn : ∀ p, d_mk T tk p = 7 → d_mk T tk (p + 1) ≠ 8) (h0 : 0 < T) {I A : Nat → Nat → Int32} (hI : p_I T tk 0 0 I A) : c_M p_cs 335 68 [.ref 26, .int 9, .int 0] g I A J X (p_V T tk 0 A) (d_st (d_mk T tk) (d_pc tk) 9 9 0) := by
  have ih := k_St (g := g) (J := J) (X := X) hT hW hIn 8 0 (by omega)
  unfold d_st
  exact k_stb (cl := 9) hT hW hIn ih hI (by omega) h0
end CBL
