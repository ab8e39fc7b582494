/-! THE CLASS'S PARSER: statements of a line -/
theorem n_V.put {q : Bool} {S S' : aN} {m m' j e f b : Nat} {c : aB} {x : Int32} (h : n_V q S m S' m' j e c) (hb : b < m) : n_V q (am_u S f b x) m (am_u S' f b x) m' j e c := by
  obtain ⟨h1, h2, h3, h4, h5, h6⟩ := h
  refine ⟨h1, h2, h3, h4.frame (fun f' _ => am_un (fun z => by omega)) (fun f' k k1 k2 k3 => am_un (fun z => by omega)), by rw [am_un (fun z => by omega)]; exact h5, fun f' k hk => ?_⟩
  simp only [am_u, h6 f' k hk]
theorem n_T.tok {q : Bool} {S : aN} {lo mid j e t : Nat} {c : aB} (h : n_T S q lo mid j e c) (hj : ¬ (lo ≤ j ∧ j < mid)) : n_T (am_u S 1 j (nI t)) q lo mid j (e % 32 + 32 * t) c := by
  have ne : ∀ f k, ¬ (f = 1 ∧ k = j) → am_u S 1 j (nI t) f k = S f k := fun f k z => am_un z
  have e1 : (e % 32 + 32 * t) % 32 = e % 32 := by omega
  have e2 : (e % 32 + 32 * t) / 32 = t := by omega
  refine ⟨⟨?_, fun _ => ?_, ?_, fun z => ?_⟩, ?_⟩
  · rw [ne 0 j (by simp), e1]; exact h.1.1
  · rw [am_uk, e2]
  · rw [ne 3 j (by simp)]; exact h.1.2.2.1
  · rw [ne 2 j (by simp)]; exact h.1.2.2.2 (by omega)
  · rw [ne 4 j (by simp), ne 5 j (by simp)]
    exact n_F.frame (fun f k k1 k2 k3 => ne f k (fun z => k3 z.2)) h.2
/-- the block b has got further statements -/
def p_Bs (T : Nat) (tk : Nat → aT) (lo b t0 m : Nat) (c0 : aB) (A : Nat → Nat → Int32) (a : aB × Nat) (v : Option Value) (I' A' : Nat → Nat → Int32) : Prop := v = none ∧ ∃ m', p_I T tk a.2 m' I' A' ∧ n_T (c_st A') true lo m' b (9 + 32 * d_bt a.1 t0) a.1 ∧ m' + b_sz c0 = m + b_sz a.1 ∧ m ≤ m' ∧ (c_st A' 6 b = c_st A 6 b ∧ c_st A' 7 b = c_st A 7 b) ∧ (∀ f k, k < lo → k ≠ b → c_st A' f k = c_st A f k)
section CSM
variable {g : List aK} {J : Nat → Nat → Int64} {X : Nat × (Nat → Int32)} {T : Nat} {tk : Nat → aT}
theorem k_addS {I A : Nat → Nat → Int32} {S : aN} {p m m' b j lo mid t0 e2 : Nat} {c c2 : aB} (hI : p_I T tk p m' I A) (hN : n_T S true lo mid b (9 + 32 * d_bt c t0) c) (hlm : lo ≤ mid) (hmm : mid ≤ m) (hb : b < m) (hblo : b < lo) (hv : n_V true S m (c_st A) m' j e2 c2) : ∃ A', am_Fr p_cs I A I A' ∧ am_Con 3 70 [.ref 26, .int (nI b), .int (nI j)] (am_H g I A J X) (.inl none) (am_H g I A' J X) 0 0 ∧ p_Bs T tk lo b t0 m c A (b_add c e2 c2, p) none I A' := by
  obtain ⟨h1, h2, hm3, h4, h5, h6⟩ := id hI
  have hv1 := hv.1
  have hv2 := hv.2.1
  have hv3 := hv.2.2.1
  have hNA : n_T (c_st A) true lo mid b (9 + 32 * d_bt c t0) c := hN.frame (fun f _ => hv.2.2.2.2.2 f b hb) (fun f k k1 k2 _ => hv.2.2.2.2.2 f k (by omega))
  have hp := t_partsOf (g := g) (A := A) (J := J) (X := X) h2 hm3 (show b < m' by omega)
  have hbl := b_len_lt hlm hN.2
  have e3 : c_st A 3 b = nI (b_len c) := hNA.1.2.2.1
  rw [e3] at hp
  have ht := t_tokenOf (g := g) (A := A) (J := J) (X := X) h2 hm3 hv2
  have et : c_st A 1 j = nI (e2 / 32) := hv.2.2.2.1.1.2.1 (Or.inl rfl)
  rw [et] at ht
  by_cases c0 : c = b_0
  · subst c0
    have stA : c_st (am_u A 11 b (nI (e2 / 32))) = am_u (c_st A) 1 b (nI (e2 / 32)) := by
      rw [show (11 : Nat) = 10 + 1 from rfl, c_st_u]
    have hf1 : am_Fr p_cs I A I (am_u A 11 b (nI (e2 / 32))) := am_Fr.set (by decide)
    have hI1 : p_I T tk p m' I (am_u A 11 b (nI (e2 / 32))) := by
      refine ⟨h1, h2, hm3, h4, c_Tk_tree h5 hf1, ?_⟩
      rw [stA]
      intro k hk
      rw [am_un (by simp), am_un (by simp)]
      exact h6 k hk
    have hset : am_Con 2 34 [.ref 9, .int (nI b), .int (nI (e2 / 32))] (am_H g I A J X) (.inl none) (am_H g I (am_u A 11 b (nI (e2 / 32))) J X) 0 0 := by
      refine am_met rfl rfl ?_
      refine am_cav 9 (by decide) rfl (t_hasY h2 hm3 (show b < m' by omega)) (by decide) (by decide) (by decide) ?_
      refine am_nay 9 (by decide) rfl (by decide) ?_
      refine am_nee 9 (by decide) rfl (nI_in (show b < 360 by omega) (by decide)) ?_
      refine am_end 9 (by decide) rfl trivial (by decide) (by decide) ⟨rfl, ?_⟩
      rw [nI_clamp (by omega)]
    have hNt := (hN.tok (t := e2 / 32) (by omega))
    have hvt := hv.put (f := 1) (x := nI (e2 / 32)) hb
    rw [← stA] at hvt
    obtain ⟨A2, hh, a1, a2, a3, a4, a5⟩ := t_app (g := g) (J := J) (X := X) (n := 0) hI1 (show b < m' by omega) hv2 (by decide) (by rw [stA, am_un (by simp), e3]; rfl)
    obtain ⟨n1, n2, n3, n4⟩ := n_app1 (hh := hh) hNt hlm hmm hb hvt (by omega) (fun z => by omega)
    rw [← a1] at n1 n2 n3 n4
    refine ⟨A2, hf1.trans a3, ?_, rfl, m', a4, ?_, ?_, by omega, ?_, fun f k k1 k2 => ?_⟩
    · refine am_met rfl rfl ?_
      refine am_cav 9 (by decide) rfl hp (by decide) (by decide) (by decide) ?_
      refine am_nay 9 (by decide) rfl (fun z => z rfl) ?_
      refine am_cav 9 (by decide) rfl ht (by decide) (by decide) (by decide) ?_
      refine am_can 9 (by decide) rfl hset (by decide) (by decide) (by decide) ?_
      refine am_can 9 (by decide) rfl a5 (by decide) (by decide) (by decide) ?_
      exact am_end 9 (by decide) rfl trivial (by decide) (by decide) ⟨rfl, rfl⟩
    · have : (9 + 32 * d_bt b_0 t0) % 32 + 32 * (e2 / 32) = 9 + 32 * d_bt (b_add b_0 e2 c2) t0 := by
        show (9 + 32 * t0) % 32 + 32 * (e2 / 32) = 9 + 32 * (e2 / 32)
        omega
      rw [this] at n1
      exact n1
    · simp only [b_add, b_sz]; omega
    · exact ⟨by rw [n3, stA, am_un (by simp)], by rw [n4, stA, am_un (by simp)]⟩
    · rw [n2 f k k2 (by omega) (by omega), stA, am_un (fun z => k2 z.2)]
  · have e0 : ¬ nI (b_len c) = 0 := fun z => c0 (b_len0 (nI_inj (b := 0) (by omega) (by omega) z))
    obtain ⟨A2, hh, a1, a2, a3, a4, a5⟩ := t_app (g := g) (J := J) (X := X) hI (show b < m' by omega) hv2 (show b_len c < 1000 by omega) e3
    obtain ⟨n1, n2, n3, n4⟩ := n_app1 (hh := hh) hN hlm hmm hb hv (by omega) (fun z => by omega)
    rw [← a1] at n1 n2 n3 n4
    refine ⟨A2, a3, ?_, rfl, m', a4, ?_, ?_, by omega, ⟨n3, n4⟩, fun f k k1 k2 => n2 f k k2 (by omega) (by omega)⟩
    · refine am_met rfl rfl ?_
      refine am_cav 9 (by decide) rfl hp (by decide) (by decide) (by decide) ?_
      refine am_yea 9 (by decide) rfl e0 ?_
      refine am_can 9 (by decide) rfl a5 (by decide) (by decide) (by decide) ?_
      exact am_end 9 (by decide) rfl trivial (by decide) (by decide) ⟨rfl, rfl⟩
    · have : d_bt (b_add c e2 c2) t0 = d_bt c t0 := by
        cases c with
        | leaf u => exact absurd rfl c0
        | branch a b d => rfl
      rw [this]
      exact n1
    · rw [b_sz_add]; omega
/-- a node that was made first, then got its part -/
theorem k_fst {I A I1 A1 : Nat → Nat → Int32} {p p' m m3 j k t e3 : Nat} {c3 : aB} (hI : p_I T tk p m I A) (hm : m < 360) (hk : k < 11) (hI3 : p_I T tk p' m3 I1 A1) (hm3 : m3 ≤ 360) (hV : n_V true (c_st (c_addA A m (nI k) (nI t))) (m + 1) (c_st A1) m3 j e3 c3) : ∃ A2, am_Fr p_cs I1 A1 I1 A2 ∧ p_I T tk p' m3 I1 A2 ∧ am_Con 2 33 [.ref 9, .int (nI m), .int (nI j)] (am_H g I1 A1 J X) (.inl none) (am_H g I1 A2 J X) 0 0 ∧ n_V true (c_st A) m (c_st A2) m3 m (k + 32 * t) (.branch e3 c3 b_0) := by
  have hW : n_W true (c_st A) m (c_st (c_addA A m (nI k) (nI t))) (k + 32 * t) := by
    rw [c_addA_st]
    exact c_add_W (by rw [show (k + 32 * t) % 32 = k from by omega]) (fun _ => by rw [show (k + 32 * t) / 32 = t from by omega])
  have h1 := hV.1
  have h2 := hV.2.1
  have h3 := hV.2.2.1
  have hT := hW.2.1 (m + 1)
  obtain ⟨A2, hh, a1, a2, a3, a4, a5⟩ := t_app (g := g) (J := J) (X := X) (n := 0) hI3 (show m < m3 by omega) h2 (by decide) (by rw [hV.2.2.2.2.2 3 m (by omega)]; exact hT.1.2.2.1)
  obtain ⟨n1, n2, n3, n4⟩ := n_app1 (hh := hh) hT (Nat.le_refl _) (Nat.le_refl _) (by omega) hV (by omega) (fun z => by omega)
  rw [← a1] at n1 n2 n3
  refine ⟨A2, a3, a4, a5, Nat.le_refl _, by omega, by simp only [b_sz]; omega, n1.wide (by omega) (Nat.le_refl _), ?_, fun f x hx => ?_⟩
  · rw [n3, hV.2.2.2.2.2 6 m (by omega)]; exact hW.2.2
  · rw [n2 f x (by omega) (by omega) (by omega), hV.2.2.2.2.2 f x (by omega)]; exact hW.1 f x (by omega)
theorem k_sm (hT : T ≤ 120) (hW : d_W (d_mk T tk) T) {I A : Nat → Nat → Int32} {p m b lo mid t0 : Nat} {c : aB} (hI : p_I T tk p m I A) (hN : n_T (c_st A) true lo mid b (9 + 32 * d_bt c t0) c) (hlm : lo ≤ mid) (hmm : mid ≤ m) (hb : b < m) (hblo : b < lo) (hm : m ≤ 2 * p + 3) (hp : p < T) : c_M p_cs 281 76 [.ref 26, .int (nI b)] g I A J X (p_Bs T tk lo b t0 m c A) (match d_sm (d_mk T tk) (d_pc tk) p with
    | .error x => .error x
    | .ok (e2, c2, p2) => .ok (b_add c e2 c2, p2)) := by
  have h120 : p < 120 := by omega
  have fin : ∀ {I1 A1 : Nat → Nat → Int32} {j m' p' e2 : Nat} {c2 : aB}, p_I T tk p' m' I1 A1 → n_V true (c_st A) m (c_st A1) m' j e2 c2 → c_D p_cs 76 281 g J X I1 A1 (200, [(0, .ref 26), (1, .int (nI b)), (3, .int (nI j))], [], am_H g I1 A1 J X) (p_Bs T tk lo b t0 m c A) (.ok (b_add c e2 c2, p')) := fun {I1 A1 j m' p' e2 c2} k1 k2 => by
    obtain ⟨A', a1, a2, a3⟩ := k_addS (g := g) (J := J) (X := X) k1 hN hlm hmm hb hblo k2
    refine c_D.can (n := 9) (by omega) rfl a2 (by omega) a1 ?_
    refine c_D.ret 9 (by omega) rfl trivial ?_
    obtain ⟨x1, m2, x2, x3, x4, x5, x6, x7⟩ := a3
    refine ⟨x1, m2, x2, x3, x4, x5, ⟨by rw [x6.1]; exact k2.2.2.2.2.2 6 b hb, by rw [x6.2]; exact k2.2.2.2.2.2 7 b hb⟩, fun f k q1 q2 => by rw [x7 f k q1 q2]; exact k2.2.2.2.2.2 f k (by omega)⟩
  have hI1 := hI.adv h120
  refine c_D.met rfl rfl ?_
  refine c_D.cav (n := 9) (by omega) rfl (by rw [hI.1]; exact t_mark hI.2.2.2.2.1 (by omega)) (by omega) am_Fr.refl ?_
  generalize hx : d_mk T tk p = x
  unfold d_sm
  rw [hx]
  by_cases c17 : x = 17
  · rw [if_pos c17]
    refine c_D.yea 9 (by omega) rfl c17 ?_
    refine c_D.nay 9 (by omega) rfl (fun z => z c17) ?_
    refine c_D.cav (n := 9) (by omega) rfl (t_adv hI.1 (by omega)) (by omega) (am_Fr.put (by decide)) ?_
    refine c_D.cav (n := 9) (by omega) rfl (t_new hI1.2.1 (show m < 360 by omega)) (by omega) c_addA_Fr ?_
    refine c_D.pla 2 (by omega) rfl ?_
    refine c_D.sub [2, 3, 0] rfl ?_
    obtain ⟨j, m', e1, k1, k2⟩ := k_leaf (k := 1) hI (by decide) (show m < 360 by omega) h120
    have : m = j := nI_inj (by omega) (by have := k2.2.1; have := k1.2.2.1; omega) (by injection e1 with e1; injection e1)
    subst this
    exact fin k1 k2
  rw [if_neg c17]
  refine c_D.nay 9 (by omega) rfl c17 ?_
  by_cases c18 : x = 18
  · rw [if_pos c18]
    refine c_D.nay 9 (by omega) rfl (fun z => z c18) ?_
    refine c_D.yea 9 (by omega) rfl c17 ?_
    refine c_D.cav (n := 9) (by omega) rfl (t_adv hI.1 (by omega)) (by omega) (am_Fr.put (by decide)) ?_
    refine c_D.cav (n := 9) (by omega) rfl (t_new hI1.2.1 (show m < 360 by omega)) (by omega) c_addA_Fr ?_
    refine c_D.pla 2 (by omega) rfl ?_
    refine c_D.sub [2, 3, 0] rfl ?_
    obtain ⟨j, m', e1, k1, k2⟩ := k_leaf (k := 2) hI (by decide) (show m < 360 by omega) h120
    have : m = j := nI_inj (by omega) (by have := k2.2.1; have := k1.2.2.1; omega) (by injection e1 with e1; injection e1)
    subst this
    exact fin k1 k2
  rw [if_neg c18]
  refine c_D.yea 9 (by omega) rfl c18 ?_
  by_cases c16 : x = 16
  · rw [if_pos c16]
    have hT2 := hW.lt (hx.trans c16) (by decide)
    refine c_D.nay 9 (by omega) rfl (fun z => z c16) ?_
    refine c_D.cav (n := 9) (by omega) rfl (t_adv hI.1 (by omega)) (by omega) (am_Fr.put (by decide)) ?_
    refine c_D.cav (n := 9) (by omega) rfl (t_new hI1.2.1 (show m < 360 by omega)) (by omega) c_addA_Fr ?_
    have hI2 := hI1.new (k := 3) (t := nI p) (show m < 360 by omega)
    refine c_D.cav (n := 9) (by omega) rfl (t_isAt hI2) (by omega) am_Fr.refl ?_
    obtain ⟨j, m', e1, k1, k2⟩ := k_leaf (k := 3) hI (by decide) (show m < 360 by omega) h120
    have : m = j := nI_inj (by omega) (by have := k2.2.1; have := k1.2.2.1; omega) (by injection e1 with e1; injection e1)
    subst this
    by_cases c6 : d_mk T tk (p + 1) = 6
    · rw [if_pos (Or.inl c6), show decide (d_mk T tk (p + 1) = 6) = true from by simp [c6]]
      refine c_D.yea 9 (by omega) rfl (by decide) ?_
      refine c_D.sub [2, 3, 0] rfl ?_
      exact fin k1 k2
    · rw [show decide (d_mk T tk (p + 1) = 6) = false from by simp [c6]]
      refine c_D.nay 9 (by omega) rfl (by decide) ?_
      refine c_D.cav (n := 9) (by omega) rfl (t_isAt hI2) (by omega) am_Fr.refl ?_
      by_cases c59 : d_mk T tk (p + 1) = 59
      · rw [if_pos (Or.inr c59), show decide (d_mk T tk (p + 1) = 59) = true from by simp [c59]]
        refine c_D.yea 9 (by omega) rfl (by decide) ?_
        refine c_D.sub [2, 3, 0] rfl ?_
        exact fin k1 k2
      · rw [if_neg (fun z => z.elim c6 c59), show decide (d_mk T tk (p + 1) = 59) = false from by simp [c59]]
        refine c_D.nay 9 (by omega) rfl (by decide) ?_
        refine c_D.call (n := 9) (by omega) rfl rfl (by omega) (k_expr hT hW hI2 (by omega) hT2) (fun q h => by rw [h]) (fun b1 h I1 A1 v hR => ?_)
        obtain ⟨e3, c3, p3⟩ := b1
        obtain ⟨v, m3, rfl, hI3, hV⟩ := hR
        dsimp only at hI3 hV
        obtain ⟨A2, a1, a2, a3, a4⟩ := k_fst (g := g) (J := J) (X := X) (k := 3) (t := p) hI (by omega) (by decide) hI3 hI3.2.2.1 hV
        rw [h]
        dsimp only
        refine c_D.can (n := 9) (by omega) rfl a3 (by omega) a1 ?_
        refine c_D.pla 1 (by omega) rfl ?_
        refine c_D.sub [2, 3, 0] rfl ?_
        exact fin a2 a4
  rw [if_neg c16]
  refine c_D.yea 9 (by omega) rfl c16 ?_
  by_cases cset : x = 1 ∧ d_mk T tk (p + 1) = 61
  · rw [if_pos cset]
    have hT2 := hW.lt (hx.trans cset.1) (by decide)
    have hT3 := hW.lt cset.2 (by decide)
    refine c_D.nay 9 (by omega) rfl (fun z => z cset.1) ?_
    refine c_D.cav (n := 9) (by omega) rfl (by rw [hI.1, nI_1]; exact t_mark hI.2.2.2.2.1 (by omega)) (by omega) am_Fr.refl ?_
    refine c_D.nay 9 (by omega) rfl (fun z => z cset.2) ?_
    refine c_D.cav (n := 9) (by omega) rfl (t_adv hI.1 (by omega)) (by omega) (am_Fr.put (by decide)) ?_
    refine c_D.cav (n := 9) (by omega) rfl (t_new hI1.2.1 (show m < 360 by omega)) (by omega) c_addA_Fr ?_
    have hI2 := hI1.new (k := 4) (t := nI p) (show m < 360 by omega)
    refine c_D.call (n := 9) (by omega) rfl rfl (by omega) (t_exp hI2 hT2) (fun q h => ?_) (fun b1 h I1 A1 v hR => ?_)
    · rw [if_pos cset.2] at h; cases h
    · obtain ⟨rfl, rfl, rfl, rfl⟩ := hR
      have hI4 := hI2.adv (show p + 1 < 120 by omega)
      refine c_D.call (n := 9) (by omega) rfl rfl (by omega) (k_expr hT hW hI4 (by omega) hT3) (fun q h => by rw [h]) (fun b1 h I1 A1 v hR => ?_)
      obtain ⟨e3, c3, p3⟩ := b1
      obtain ⟨v, m3, rfl, hI3, hV⟩ := hR
      dsimp only at hI3 hV
      obtain ⟨A2, a1, a2, a3, a4⟩ := k_fst (g := g) (J := J) (X := X) (k := 4) (t := p) hI (by omega) (by decide) hI3 hI3.2.2.1 hV
      rw [h]
      dsimp only
      refine c_D.can (n := 9) (by omega) rfl a3 (by omega) a1 ?_
      refine c_D.pla 1 (by omega) rfl ?_
      refine c_D.sub [2, 3, 0] rfl ?_
      exact fin a2 a4
  rw [if_neg cset]
  have st : ∀ {r : Except aF (aB × Nat)} {R : (aB × Nat) → Option Value → (Nat → Nat → Int32) → (Nat → Nat → Int32) → Prop}, c_D p_cs 76 281 g J X I A (164, [(2, .int x), (0, .ref 26), (1, .int (nI b))], [], am_H g I A J X) R r → c_D p_cs 76 281 g J X I A (104, [(2, .int x), (0, .ref 26), (1, .int (nI b))], [], am_H g I A J X) R r := fun k => by
    by_cases c1 : x = 1
    · refine c_D.nay 9 (by omega) rfl (fun z => z c1) ?_
      refine c_D.cav (n := 9) (by omega) rfl (by rw [hI.1, nI_1]; exact t_mark hI.2.2.2.2.1 (by omega)) (by omega) am_Fr.refl ?_
      exact c_D.yea 9 (by omega) rfl (fun z => cset ⟨c1, z⟩) k
    · exact c_D.yea 9 (by omega) rfl c1 k
  refine st ?_
  refine c_D.call (n := 9) (by omega) rfl rfl (by omega) (k_expr hT hW hI (by omega) hp) (fun q h => by rw [h]) (fun b1 h I1 A1 v hR => ?_)
  obtain ⟨e3, c3, p3⟩ := b1
  obtain ⟨v, m3, rfl, hI3, hV⟩ := hR
  dsimp only at hI3 hV
  have q3 := d_ex_Q hW _ _ _ _ _ _ h (by decide)
  have q3T := q3.1.1
  have q32 := q3.2.1
  have q34 := q3.2.2.2.1
  have hm3 : m3 = m + b_sz c3 + 1 := hV.2.2.1
  have hv1 := hV.1
  have hv2 := hV.2.1
  have htok := t_tokenOf (g := g) (A := A1) (J := J) (X := X) hI3.2.1 hI3.2.2.1 hv2
  rw [hV.2.2.2.1.1.2.1 (Or.inl rfl)] at htok
  rw [h]
  dsimp only
  refine c_D.cav (n := 9) (by omega) rfl htok (by omega) am_Fr.refl ?_
  refine c_D.cav (n := 9) (by omega) rfl (t_new hI3.2.1 (show m3 < 360 by omega)) (by omega) c_addA_Fr ?_
  obtain ⟨A2, a1, a2, a3, a4, a5, a6⟩ := k_over (g := g) (J := J) (X := X) (k := 5) (t := e3 / 32) hI3 (by omega) hV (by decide) (by omega) (fun z => absurd z (by decide))
  refine c_D.can (n := 9) (by omega) rfl a3 (by omega) a1 ?_
  refine c_D.sub [3, 4, 0] rfl ?_
  exact fin a2 ⟨by omega, by omega, by simp only [b_sz]; omega, a4.wide (Nat.le_refl _) (by omega), a5, fun f k hk => by rw [a6 f k (by omega) (by omega)]; exact hV.2.2.2.2.2 f k hk⟩
end CSM
