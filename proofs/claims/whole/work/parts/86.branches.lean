/-! THE CLASS'S PARSER: branches -/
/-- linked first, finished later -/
theorem n_late {S S' : aN} {q : Bool} {lo mid j e j2 e2 m m' : Nat} {c c2 : aB} {hh : Int32} (h : n_T S q lo mid j e c) (hlm : lo ≤ mid) (hmm : mid ≤ m) (hm : m ≤ 400) (hj : j < m) (hj2 : m ≤ j2) (hj2' : j2 < m') (he : e % 32 < 11) (hfr : ∀ f k, k < m → S' f k = n_lnk S j j2 hh f k) (h6 : S' 6 j2 = -1) (h7 : S' 7 j2 = nI j) (hT2 : n_T S' q m m' j2 e2 c2) : n_T S' q lo m' j e (b_add c e2 c2) := by
  obtain ⟨k1, k2, k3, k4, k5, k6, k7, k8, -, -⟩ := n_lnk_T (hh := hh) h hlm (by omega) (j2 := j2) (by omega) (by omega)
  have k1' : n_F S' q c lo mid (S' 4 j) j (S 5 j) (nI j2) := by
    rw [hfr 4 j hj]
    exact n_F.frame (fun f k q1 q2 _ => hfr f k (by omega)) k1
  refine ⟨⟨by rw [hfr 0 j hj, k2]; exact h.1.1, by rw [hfr 1 j hj, k3]; exact h.1.2.1, by rw [hfr 3 j hj, k5, b_len_add], fun z => by omega⟩, ?_⟩
  rw [hfr 5 j hj, k6]
  exact n_F.snoc k1' hlm hmm hj2 hj2' (by omega) h7 h6 hT2
/-- what comes behind a branch -/
def d_ir (mk : Nat → Int32) (pl : Nat → Nat) (st : Nat → aG) (i e : Nat) (c : aB) (p : Nat) : aG := match i with
  | 0 => if mk p = 13 then (if mk (p + 1) = 58 then (match d_bk mk pl st (p + 2) with
    | .error x => .error x
    | .ok (e3, c3, p3) => .ok (e, b_add c e3 c3, p3)) else .error (9, pl (p + 1))) else .ok (e, c, p)
  | i + 1 => if mk p = 12 then (match d_if mk pl st i p with
    | .error x => .error x
    | .ok (e3, c3, p3) => .ok (e, b_add c e3 c3, p3))
    else if mk p = 13 then (if mk (p + 1) = 58 then (match d_bk mk pl st (p + 2) with
    | .error x => .error x
    | .ok (e3, c3, p3) => .ok (e, b_add c e3 c3, p3)) else .error (9, pl (p + 1))) else .ok (e, c, p)
theorem d_if_ir {mk : Nat → Int32} {pl : Nat → Nat} {st : Nat → aG} {i p : Nat} : d_if mk pl st i p = match d_cd mk pl st 6 p with
    | .error x => .error x
    | .ok (e, c, p2) => d_ir mk pl st i e c p2 := by
  unfold d_if
  cases d_cd mk pl st 6 p with
  | error x => rfl
  | ok a =>
    obtain ⟨e, c, p2⟩ := a
    cases i <;> rfl
abbrev p_l71 (i j f dep : Nat) : List (Nat × Value) := [(4, .int (nI i)), (3, .int (nI j)), (2, .int (nI f)), (0, .ref 26), (1, .int (nI dep))]
/-- the branch j has got what comes behind it -/
def p_Ir (T : Nat) (tk : Nat → aT) (lo j e m : Nat) (c : aB) (A : Nat → Nat → Int32) (f : Nat) (a : Nat × aB × Nat) (v : Option Value) (I' A' : Nat → Nat → Int32) : Prop := v = some (.int (nI f)) ∧ a.1 = e ∧ ∃ m', p_I T tk a.2.2 m' I' A' ∧ n_T (c_st A') true lo m' j e a.2.1 ∧ m' + b_sz c = m + b_sz a.2.1 ∧ m ≤ m' ∧ c_st A' 6 j = c_st A 6 j ∧ c_st A' 7 j = c_st A 7 j ∧ (∀ f k, k < lo → k ≠ j → c_st A' f k = c_st A f k)
section CBR
variable {g : List aK} {J : Nat → Nat → Int64} {X : Nat × (Nat → Int32)} {T : Nat} {tk : Nat → aT}
/-- an ELSE, or none -/
theorem k_else (hT : T ≤ 120) (hW : d_W (d_mk T tk) T) {D dep lo j f e i' p m : Nat} {c : aB} {st : Nat → aG} {I A : Nat → Nat → Int32} (hS : p_St g J X T tk D dep st) (he : e % 32 < 11) (hI : p_I T tk p m I A) (hN : n_T (c_st A) true lo m j e c) (hlm : lo ≤ m) (hj : j < m) (hm : m ≤ 2 * p + 3) (hp : p < T) : c_D p_cs 71 (D + 3) g J X I A (57, p_l71 i' j f dep, [], am_H g I A J X) (p_Ir T tk lo j e m c A f) (if d_mk T tk p = 13 then (if d_mk T tk (p + 1) = 58 then (match d_bk (d_mk T tk) (d_pc tk) st (p + 2) with
    | .error x => .error x
    | .ok (e3, c3, p3) => .ok (e, b_add c e3 c3, p3)) else .error (9, d_pc tk (p + 1))) else .ok (e, c, p)) := by
  have hD := hS.1
  refine c_D.cav (n := 9) (by omega) rfl (t_isAt hI) (by omega) am_Fr.refl ?_
  by_cases c13 : d_mk T tk p = 13
  · rw [if_pos c13, show decide (d_mk T tk p = 13) = true from by simp [c13]]
    refine c_D.nay 9 (by omega) rfl (by decide) ?_
    have hT2 := hW.lt c13 (by decide)
    have hI1 := hI.adv (show p < 120 by omega)
    refine c_D.cav (n := 9) (by omega) rfl (t_adv hI.1 (by omega)) (by omega) (am_Fr.put (by decide)) ?_
    refine c_D.call (n := 9) (by omega) rfl rfl (by omega) (t_exp hI1 hT2) (fun q h => ?_) (fun b1 h I1 A1 v hR => ?_)
    · split at h
      · cases h
      · next c1 => rw [if_neg c1]; cases h; rfl
    · split at h
      · next c58 =>
        rw [if_pos c58]
        obtain ⟨rfl, rfl, rfl, rfl⟩ := hR
        have hT3 := hW.lt c58 (by decide)
        have hI2 := hI1.adv (show p + 1 < 120 by omega)
        refine c_D.call (n := 9) (by omega) rfl rfl (by omega) (k_bk hT hW hS hI2 (by omega) hT3) (fun q h => ?_) (fun b1 h I1 A3 v hR => ?_)
        · have h' : d_bk (d_mk T tk) (d_pc tk) st (p + 2) = .error q := h
          rw [h']
        obtain ⟨e5, c5, p5⟩ := b1
        obtain ⟨v, m5, rfl, hI5, hV5⟩ := hR
        have h' : d_bk (d_mk T tk) (d_pc tk) st (p + 2) = .ok (e5, c5, p5) := h
        rw [h']
        dsimp only at hI5 hV5 ⊢
        have hm5 : m5 = m + b_sz c5 + 1 := hV5.2.2.1
        have hv5 := hV5.2.1
        have hv51 := hV5.1
        have hmm := hI5.2.2.1
        have hbl := b_len_lt hlm hN.2
        obtain ⟨A4, hh, b1, b2, b3, b4, b5⟩ := t_app (g := g) (J := J) (X := X) (n := b_len c) hI5 (show j < m5 by omega) hv5 (by omega) (by rw [hV5.2.2.2.2.2 3 j (by omega)]; exact hN.1.2.2.1)
        obtain ⟨n1, n2, n3, n4⟩ := n_app1 (hh := hh) hN hlm (Nat.le_refl _) hj hV5 (by omega) (fun z => by omega)
        rw [← b1] at n1 n2 n3 n4
        refine c_D.can (n := 9) (by omega) rfl b5 (by omega) b3 ?_
        refine c_D.ret 9 (by omega) rfl trivial ⟨rfl, rfl, m5, b4, n1, by rw [b_sz_add]; omega, by omega, ?_, ?_, fun f' k k1 k2 => ?_⟩
        · rw [n3, hV5.2.2.2.2.2 6 j (by omega)]
        · rw [n4, hV5.2.2.2.2.2 7 j (by omega)]
        · rw [n2 f' k k2 (by omega) (by omega), hV5.2.2.2.2.2 f' k (by omega)]
      · cases h
  · rw [if_neg c13, show decide (d_mk T tk p = 13) = false from by simp [c13]]
    refine c_D.yea 9 (by omega) rfl (by decide) ?_
    exact c_D.ret 9 (by omega) rfl trivial ⟨rfl, rfl, m, hI, hN, rfl, Nat.le_refl _, rfl, rfl, fun _ _ _ _ => rfl⟩
theorem k_br (hT : T ≤ 120) (hW : d_W (d_mk T tk) T) (hIn : ∀ p, d_mk T tk p = 7 → d_mk T tk (p + 1) ≠ 8) {D dep f : Nat} {st : Nat → aG} (hS : p_St g J X T tk D dep st) : ∀ (i i' lo j e : Nat) (c : aB) (p m : Nat) (I A : Nat → Nat → Int32), i' + i = 120 → e % 32 < 11 → p_I T tk p m I A → n_T (c_st A) true lo m j e c → lo ≤ m → j < m → m ≤ 2 * p + 3 → p < T → c_D p_cs 71 (D + 3) g J X I A (13, p_l71 i' j f dep, [], am_H g I A J X) (p_Ir T tk lo j e m c A f) (d_ir (d_mk T tk) (d_pc tk) st i e c p)
  | 0, i', lo, j, e, c, p, m, I, A, hi, he, hI, hN, hlm, hj, hm, hp => by
    have hD := hS.1
    have hi' : i' = 120 := by omega
    subst hi'
    unfold d_ir
    refine c_D.yea 9 (by omega) rfl (nI_le (a := 120) (by omega) (by decide)) ?_
    exact k_else hT hW hS he hI hN hlm hj hm hp
  | i + 1, i', lo, j, e, c, p, m, I, A, hi, he, hI, hN, hlm, hj, hm, hp => by
    have hD := hS.1
    unfold d_ir
    dsimp only
    refine c_D.nay 9 (by omega) rfl (nI_ge (b := 120) (by omega) (by decide)) ?_
    refine c_D.cav (n := 9) (by omega) rfl (t_isAt hI) (by omega) am_Fr.refl ?_
    by_cases c12 : d_mk T tk p = 12
    · rw [if_pos c12, show decide (d_mk T tk p = 12) = true from by simp [c12], d_if_ir]
      refine c_D.nay 9 (by omega) rfl (by decide) ?_
      have hT2 := hW.lt c12 (by decide)
      refine c_D.call (n := 9) (by omega) rfl rfl (by omega) (k_cd hT hW hS hI hm hT2 (kd := 6) (by decide)) (fun q h => by rw [h]) (fun b1 h I1 A1 v hR => ?_)
      obtain ⟨e2, c2, p2⟩ := b1
      obtain ⟨j2, m2, rfl, hI2, hV⟩ := hR
      have hz := d_cd_Z hW hIn hS.2.2.1 (Or.inr (Or.inl c12)) h
      obtain ⟨z0, z1, z2, z3, z4, z5, -⟩ := hz
      rw [h]
      dsimp only at hI2 hV ⊢
      have hv1 := hV.1
      have hv2 := hV.2.1
      have hv3 := hV.2.2.1
      have hmm := hI2.2.2.1
      have hbl := b_len_lt hlm hN.2
      have hNA : n_T (c_st A1) true lo m j e c := hN.frame (fun f _ => hV.2.2.2.2.2 f j hj) (fun f k k1 k2 _ => hV.2.2.2.2.2 f k (by omega))
      obtain ⟨A2, hh, b1, b2, b3, b4, b5⟩ := t_app (g := g) (J := J) (X := X) (n := b_len c) hI2 (show j < m2 by omega) hv2 (by omega) (by rw [hV.2.2.2.2.2 3 j (by omega)]; exact hN.1.2.2.1)
      obtain ⟨l1, l2, l3, l4, l5, l6, l7, l8, l9, l10⟩ := n_lnk_T (hh := hh) hNA hlm (by omega) (j2 := j2) (by omega) (by omega)
      have fr : ∀ f' k, k ≠ j → ¬ (lo ≤ k ∧ k < m) → (k = j2 → f' ≠ 7) → c_st A2 f' k = c_st A1 f' k := fun f' k q1 q2 q3 => by rw [b1]; exact n_lnk_o hNA (by omega) q1 q2 q3
      refine c_D.can (n := 9) (by omega) rfl b5 (by omega) b3 ?_
      refine c_D.pla 4 (by omega) rfl ?_
      rw [nI_1]
      refine c_D.sub [0, 1, 3, 4, 5] rfl ?_
      have hN2 : n_T (c_st A2) true m m2 j2 e2 c2 := hV.2.2.2.1.frame (fun f' hf => fr f' j2 (by omega) (by omega) (fun _ => by omega)) (fun f' k k1 k2 k3 => fr f' k (by omega) (by omega) (fun z => absurd z k3))
      have ih := k_br (f := f) hT hW hIn hS i (i' + 1) m j2 e2 c2 p2 m2 I1 A2 (by omega) (by omega) b4 hN2 (by omega) (by omega) (by omega) z1
      revert ih
      cases hr : d_ir (d_mk T tk) (d_pc tk) st i e2 c2 p2 with
      | error q => exact id
      | ok a =>
        obtain ⟨e5, c5, p5⟩ := a
        rintro ⟨I', A', v, ⟨r1, r2, m', r3, r4, r5, r6, r7, r8, r9⟩, hF, hto⟩
        dsimp only at r2 r3 r4 r5 ⊢
        subst r2
        have frA : ∀ f' k, k < m → c_st A' f' k = c_st A2 f' k := fun f' k hk => r9 f' k hk (by omega)
        refine ⟨I', A', v, ⟨r1, rfl, m', r3, ?_, by dsimp only; rw [b_sz_add]; omega, by omega, ?_, ?_, fun f' k k1 k2 => ?_⟩, hF, hto⟩
        · refine n_late (hh := hh) hNA hlm (Nat.le_refl _) (by omega) hj (by omega) (by omega) he (fun f' k hk => ?_) ?_ ?_ r4
          · rw [frA f' k hk, b1]
          · rw [r7, b1, l7]; exact hV.2.2.2.2.1
          · rw [r8, b1, l8]
        · rw [frA 6 j hj, b1, l10, hV.2.2.2.2.2 6 j hj]
        · rw [frA 7 j hj, b1, l9, hV.2.2.2.2.2 7 j hj]
        · rw [frA f' k (by omega), fr f' k k2 (by omega) (fun z => by omega), hV.2.2.2.2.2 f' k (by omega)]
    · rw [if_neg c12, show decide (d_mk T tk p = 12) = false from by simp [c12]]
      refine c_D.yea 9 (by omega) rfl (by decide) ?_
      exact k_else hT hW hS he hI hN hlm hj hm hp
theorem k_if (hT : T ≤ 120) (hW : d_W (d_mk T tk) T) (hIn : ∀ p, d_mk T tk p = 7 → d_mk T tk (p + 1) ≠ 8) {D dep p m : Nat} {st : Nat → aG} {I A : Nat → Nat → Int32} (hS : p_St g J X T tk D dep st) (hI : p_I T tk p m I A) (hm : m ≤ 2 * p + 3) (hk : d_mk T tk p = 11) : c_M p_cs (D + 3) 71 [.ref 26, .int (nI dep)] g I A J X (p_V T tk m A) (d_if (d_mk T tk) (d_pc tk) st 120 p) := by
  have hD := hS.1
  refine c_D.met rfl rfl ?_
  rw [d_if_ir]
  have hT2 := hW.lt hk (by decide)
  refine c_D.call (n := 9) (by omega) rfl rfl (by omega) (k_cd hT hW hS hI hm hT2 (kd := 6) (by decide)) (fun q h => by rw [h]) (fun b1 h I1 A1 v hR => ?_)
  obtain ⟨e2, c2, p2⟩ := b1
  obtain ⟨j2, m2, rfl, hI2, hV⟩ := hR
  obtain ⟨z0, z1, z2, z3, z4, z5, -⟩ := d_cd_Z hW hIn hS.2.2.1 (Or.inl hk) h
  rw [h]
  dsimp only at hI2 hV ⊢
  have hv1 := hV.1
  have hv2 := hV.2.1
  have hv3 := hV.2.2.1
  refine c_D.pla 5 (by omega) rfl ?_
  refine (k_br hT hW hIn hS 120 0 m j2 e2 c2 p2 m2 I1 A1 (by omega) (by omega) hI2 hV.2.2.2.1 (by omega) (by omega) (by omega) z1).mono ?_
  rintro ⟨e5, c5, p5⟩ v I' A' - ⟨r1, r2, m', r3, r4, r5, r6, r7, r8, r9⟩
  dsimp only at r2 r3 r4 r5
  subst r2
  refine ⟨j2, m', r1, r3, hv1, by omega, by dsimp only; omega, r4, by rw [r7]; exact hV.2.2.2.2.1, fun f k hk => ?_⟩
  rw [r9 f k hk (by omega)]
  exact hV.2.2.2.2.2 f k hk
end CBR
