/-! THE CLASS'S PARSER: expressions in brackets -/
/-- the node nd has got further parts -/
def p_Es (T : Nat) (tk : Nat → aT) (lo nd e m : Nat) (c0 : aB) (A : Nat → Nat → Int32) (a : aB × Nat) (v : Option Value) (I' A' : Nat → Nat → Int32) : Prop := v = none ∧ ∃ m', p_I T tk a.2 m' I' A' ∧ n_T (c_st A') true lo m' nd e a.1 ∧ m' + b_sz c0 = m + b_sz a.1 ∧ m ≤ m' ∧ c_st A' 6 nd = c_st A 6 nd ∧ (∀ f k, k < lo → k ≠ nd → c_st A' f k = c_st A f k)
abbrev p_l83 (i nd o : Nat) (cl : Int32) : List (Nat × Value) := [(4, .int (nI i)), (0, .ref 26), (1, .int (nI nd)), (2, .int cl), (3, .int (nI o))]
section CLS
variable {g : List aK} {J : Nat → Nat → Int64} {X : Nat × (Nat → Int32)} {T : Nat} {tk : Nat → aT} {D o : Nat} {full : Bool} {up : Nat → Nat → aG}
/-- what closes them -/
theorem k_elx {I A : Nat → Nat → Int32} {p m lo nd e : Nat} {c : aB} {cl : Int32} {ls : List (Nat × Value)} (hD : 12 ≤ D) (hI : p_I T tk p m I A) (hN : n_T (c_st A) true lo m nd e c) (hp : p < T) (hls : am_run 9 83 (66, ls, [], am_H g I A J X) = am_ca 67 [.ref 26, .int cl] (71, ls, [], am_H g I A J X)) (hre : ∀ h (x : Int32), am_run 9 83 (71, ls, [.int x], h) = am_rt True (.inl none) h) : c_D p_cs 83 (D + 1) g J X I A (66, ls, [], am_H g I A J X) (p_Es T tk lo nd e m c A) (if d_mk T tk p = cl then .ok (c, p + 1) else .error (9, d_pc tk p)) := by
  refine c_D.call (n := 9) (by omega) hls rfl (by omega) (t_exp hI hp) (fun q h => ?_) (fun b h I1 A1 v hR => ?_)
  · split at h
    · cases h
    · next c1 => rw [if_neg c1]; cases h; rfl
  · split at h
    · next c1 =>
      rw [if_pos c1]
      obtain ⟨rfl, rfl, rfl, rfl⟩ := hR
      have h120 := hI.2.2.2.2.1.2.1
      exact c_D.ret 9 (by omega) (hre _ _) trivial ⟨rfl, m, hI.adv (by omega), hN, rfl, Nat.le_refl _, rfl, fun _ _ _ _ => rfl⟩
    · cases h
theorem k_el (hU : p_U g J X T tk D o full up) (hf : full = false) (hT : T ≤ 120) (hW : d_W (d_mk T tk) T) {lo nd e : Nat} {cl : Int32} (he : 11 ≤ e % 32) : ∀ (i i' : Nat) (c : aB) (p m : Nat) (I A : Nat → Nat → Int32), i' + i = 120 → p_I T tk p m I A → n_T (c_st A) true lo m nd e c → lo ≤ m → nd < m → m ≤ 2 * p + 3 → p < T → c_D p_cs 83 (D + 1) g J X I A (25, p_l83 i' nd (o + 1) cl, [], am_H g I A J X) (p_Es T tk lo nd e m c A) (d_el (d_mk T tk) (d_pc tk) up cl i c p)
  | 0, i', c, p, m, I, A, hi, hI, hN, hlm, hnd, hm, hp => by
    have hi' : i' = 120 := by omega
    subst hi'
    have hD := hU.1
    unfold d_el
    refine c_D.yea 9 (by omega) rfl (nI_le (a := 120) (by omega) (by decide)) ?_
    exact k_elx hD hI hN hp rfl (fun _ _ => rfl)
  | i + 1, i', c, p, m, I, A, hi, hI, hN, hlm, hnd, hm, hp => by
    have hD := hU.1
    unfold d_el
    refine c_D.nay 9 (by omega) rfl (nI_ge (b := 120) (by omega) (by decide)) ?_
    refine c_D.cav (n := 9) (by omega) rfl (t_isAt hI) (by omega) am_Fr.refl ?_
    by_cases c44 : d_mk T tk p = 44
    · rw [if_pos c44, show decide (d_mk T tk p = 44) = true from by simp [c44]]
      refine c_D.nay 9 (by omega) rfl (by decide) ?_
      have hT2 := hW.lt c44 (by decide)
      have hI1 := hI.adv (by omega)
      refine c_D.cav (n := 9) (by omega) rfl (t_adv hI.1 (by omega)) (by omega) (am_Fr.put (by decide)) ?_
      have hup := (hU.2.2.2.2 hf 1 (p + 1) m _ A (by omega) (by omega) hT2 (by omega) hI1).1
      refine c_D.call (n := 9) (by omega) rfl rfl (by omega) hup (fun q h => by rw [h]) (fun b h I1 A1 v hR => ?_)
      obtain ⟨e3, c3, p3⟩ := b
      obtain ⟨j, m3, rfl, hI3, hV⟩ := hR
      have q3 := hU.2.2.2.1 _ _ _ _ _ (by omega) h
      obtain ⟨q31, q32, q33, -⟩ := q3
      have q311 := q31.1
      dsimp only at hI3 hV
      have hm3 : m3 = m + b_sz c3 + 1 := hV.2.2.1
      have hjm : j < m3 := hV.2.1
      have hbl := b_len_lt hlm hN.2
      have e3' : c_st A1 3 nd = nI (b_len c) := by rw [hV.2.2.2.2.2 3 nd hnd]; exact hN.1.2.2.1
      obtain ⟨A2, hh, a1, a2, a3, a4, a5⟩ := t_app (g := g) (J := J) (X := X) hI3 (show nd < m3 by omega) hjm (show b_len c < 1000 by omega) e3'
      obtain ⟨n1, n2, n3, n4⟩ := n_app1 (hh := hh) hN hlm (Nat.le_refl _) hnd hV (by omega) (fun _ => ⟨q33.ge, a2⟩)
      rw [← a1] at n1 n2 n3
      rw [h]
      refine c_D.can (n := 9) (by omega) rfl a5 (by omega) a3 ?_
      refine c_D.pla 2 (by omega) rfl ?_
      rw [nI_1]
      have hv1 : m ≤ j := hV.1
      refine (k_el hU hf hT hW he i (i' + 1) (b_add c e3 c3) p3 m3 I1 A2 (by omega) a4 n1 (by omega) (by omega) (by omega) q311).mono ?_
      rintro a v I' A' - ⟨r1, m', r2, r3, r4, r5, r6, r7⟩
      rw [b_sz_add] at r4
      refine ⟨r1, m', r2, r3, by omega, by omega, ?_, fun f k k1 k2 => ?_⟩
      · rw [r6, n3, hV.2.2.2.2.2 6 nd hnd]
      · rw [r7 f k k1 k2, n2 f k k2 (by omega) (by omega), hV.2.2.2.2.2 f k (by omega)]
    · rw [if_neg c44, show decide (d_mk T tk p = 44) = false from by simp [c44]]
      refine c_D.yea 9 (by omega) rfl (by decide) ?_
      exact k_elx hD hI hN hp rfl (fun _ _ => rfl)
theorem k_es (hU : p_U g J X T tk D o full up) (hf : full = false) (hT : T ≤ 120) (hW : d_W (d_mk T tk) T) {I A : Nat → Nat → Int32} {lo mid nd e p m : Nat} {c : aB} {cl : Int32} (he : 11 ≤ e % 32) (hI : p_I T tk p m I A) (hN : n_T (c_st A) true lo mid nd e c) (hlm : lo ≤ mid) (hmm : mid ≤ m) (hnd : nd < m) (hm : m ≤ 2 * p + 3) (hp : p < T) : c_M p_cs (D + 1) 83 [.ref 26, .int (nI nd), .int cl, .int (nI (o + 1))] g I A J X (p_Es T tk lo nd e m c A) (d_es (d_mk T tk) (d_pc tk) up cl c p) := by
  have hD := hU.1
  refine c_D.met rfl rfl ?_
  unfold d_es
  refine c_D.cav (n := 9) (by omega) rfl (t_isAt hI) (by omega) am_Fr.refl ?_
  by_cases ccl : d_mk T tk p = cl
  · rw [if_pos ccl, show decide (d_mk T tk p = cl) = true from by simp [ccl]]
    refine c_D.yea 9 (by omega) rfl (by decide) ?_
    have := k_elx (D := D) (g := g) (J := J) (X := X) (ls := [(0, .ref 26), (1, .int (nI nd)), (2, .int cl), (3, .int (nI (o + 1)))]) hD hI (hN.wide (Nat.le_refl _) hmm) hp (cl := cl) rfl (fun _ _ => rfl)
    rw [if_pos ccl] at this
    exact this
  · rw [if_neg ccl, show decide (d_mk T tk p = cl) = false from by simp [ccl]]
    refine c_D.nay 9 (by omega) rfl (by decide) ?_
    have hup := (hU.2.2.2.2 hf 1 p m I A (by omega) (by omega) hp (by omega) hI).1
    refine c_D.call (n := 9) (by omega) rfl rfl (by omega) hup (fun q h => by rw [h]) (fun b h I1 A1 v hR => ?_)
    obtain ⟨e3, c3, p3⟩ := b
    obtain ⟨j, m3, rfl, hI3, hV⟩ := hR
    have q3 := hU.2.2.2.1 _ _ _ _ _ (by omega) h
    obtain ⟨q31, q32, q33, -⟩ := q3
    have q311 := q31.1
    dsimp only at hI3 hV
    have hm3 : m3 = m + b_sz c3 + 1 := hV.2.2.1
    have hjm : j < m3 := hV.2.1
    have hbl := b_len_lt hlm hN.2
    have e3' : c_st A1 3 nd = nI (b_len c) := by rw [hV.2.2.2.2.2 3 nd hnd]; exact hN.1.2.2.1
    obtain ⟨A2, hh, a1, a2, a3, a4, a5⟩ := t_app (g := g) (J := J) (X := X) hI3 (show nd < m3 by omega) hjm (show b_len c < 1000 by omega) e3'
    obtain ⟨n1, n2, n3, n4⟩ := n_app1 (hh := hh) hN hlm hmm hnd hV (by omega) (fun _ => ⟨q33.ge, a2⟩)
    rw [← a1] at n1 n2 n3
    rw [h]
    refine c_D.can (n := 9) (by omega) rfl a5 (by omega) a3 ?_
    refine c_D.pla 2 (by omega) rfl ?_
    have hv1 : m ≤ j := hV.1
    refine (k_el hU hf hT hW he 120 0 (b_add c e3 c3) p3 m3 I1 A2 (by omega) a4 n1 (by omega) (by omega) (by omega) q311).mono ?_
    rintro a v I' A' - ⟨r1, m', r2, r3, r4, r5, r6, r7⟩
    rw [b_sz_add] at r4
    refine ⟨r1, m', r2, r3, by omega, by omega, ?_, fun f k k1 k2 => ?_⟩
    · rw [r6, n3, hV.2.2.2.2.2 6 nd hnd]
    · rw [r7 f k k1 k2, n2 f k k2 (by omega) (by omega), hV.2.2.2.2.2 f k (by omega)]
end CLS
