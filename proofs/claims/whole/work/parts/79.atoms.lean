/-! THE CLASS'S PARSER: atoms and what hangs on them -/
section CAT
variable {g : List aK} {J : Nat → Nat → Int64} {X : Nat × (Nat → Int32)} {T : Nat} {tk : Nat → aT} {D o : Nat} {full : Bool} {up : Nat → Nat → aG} {I A : Nat → Nat → Int32} {p m : Nat}
/-- a node over the token at p, the token being taken -/
theorem k_leaf {k : Nat} (hI : p_I T tk p m I A) (hk : k < 32) (hm : m < 360) (hp : p < 120) : p_V T tk m A (k + 32 * p, b_0, p + 1) (some (.int (nI m))) (am_u (am_u I 26 3 (nI (p + 1))) 9 9 (nI (m + 1))) (c_addA A m (nI k) (nI p)) := by
  refine ⟨m, m + 1, rfl, (hI.adv hp).new hm, ?_⟩
  rw [c_addA_st]
  exact (c_add_W (by rw [show (k + 32 * p) % 32 = k from by omega]) (fun _ => by rw [show (k + 32 * p) / 32 = p from by omega])).leaf
theorem k_brk (hU : p_U g J X T tk D o full up) (hW : d_W (d_mk T tk) T) (hT : T ≤ 120) (hI : p_I T tk p m I A) (hm : m ≤ 2 * p + 3) (hp : p + 1 < T) : c_M p_cs (D + 1) 85 [.ref 26, .int (nI o)] g I A J X (p_V T tk m A) (if full = true then .error (3, d_pc tk p) else match up 1 (p + 1) with
    | .error x => .error x
    | .ok (e, c, p2) => if d_mk T tk p2 = 41 then .ok (e, c, p2 + 1) else .error (9, d_pc tk p2)) := by
  have hD := hU.1
  refine c_D.met rfl rfl ?_
  have hI1 := hI.adv (show p < 120 by omega)
  refine c_D.cav (n := 9) (by omega) rfl (t_adv hI.1 (by omega)) (by omega) (am_Fr.put (by decide)) ?_
  refine c_D.call (n := 9) (by omega) rfl rfl (by omega) (t_opn hI1.2.2.2.2.1 hU.2.1 (show p < T by omega)) (fun q h => ?_) (fun b h I1 A1 v hR => ?_)
  · split at h
    · next c1 => rw [if_pos (hU.2.2.1.mpr c1)]; cases h; rfl
    · cases h
  · split at h
    · cases h
    · next c1 =>
      obtain ⟨rfl, rfl, rfl⟩ := hR
      have hf : ¬ full = true := fun z => c1 (hU.2.2.1.mp z)
      rw [if_neg hf]
      have hup := (hU.2.2.2.2 (by simpa using hf) 1 (p + 1) m _ A1 (by omega) (by omega) hp (by omega) hI1).1
      refine c_D.call (n := 9) (by omega) rfl rfl (by omega) hup (fun q h => by rw [h]) (fun b h I1 A1 v hR => ?_)
      obtain ⟨e3, c3, p3⟩ := b
      obtain ⟨j, m3, rfl, hI3, hV⟩ := hR
      have q3 := hU.2.2.2.1 _ _ _ _ _ (by omega) h
      have q311 := q3.1.1
      dsimp only at hI3 hV
      rw [h]
      dsimp only
      refine c_D.call (n := 9) (by omega) rfl rfl (by omega) (t_exp hI3 q311) (fun q h => ?_) (fun b h I1 A1 v hR => ?_)
      · split at h
        · cases h
        · next c1 => rw [if_neg c1]; cases h; rfl
      · split at h
        · next c1 =>
          rw [if_pos c1]
          obtain ⟨rfl, rfl, rfl, rfl⟩ := hR
          exact c_D.ret 9 (by omega) rfl trivial ⟨j, m3, rfl, hI3.adv (by omega), hV⟩
        · cases h
theorem k_list (hU : p_U g J X T tk D o full up) (hW : d_W (d_mk T tk) T) (hT : T ≤ 120) (hI : p_I T tk p m I A) (hm : m ≤ 2 * p + 3) (hp : p + 1 < T) : c_M p_cs (D + 2) 86 [.ref 26, .int (nI o)] g I A J X (p_V T tk m A) (if full = true then .error (3, d_pc tk p) else match d_es (d_mk T tk) (d_pc tk) up 93 b_0 (p + 1) with
    | .error x => .error x
    | .ok (c, p2) => d_hc (d_pc tk) (23 + 32 * p) c p2) := by
  have hD := hU.1
  refine c_D.met rfl rfl ?_
  have hI1 := hI.adv (show p < 120 by omega)
  refine c_D.cav (n := 9) (by omega) rfl (t_adv hI.1 (by omega)) (by omega) (am_Fr.put (by decide)) ?_
  have hI2 := hI1.new (k := 23) (t := nI p) (show m < 360 by omega)
  refine c_D.cav (n := 9) (by omega) rfl (t_new hI1.2.1 (show m < 360 by omega)) (by omega) c_addA_Fr ?_
  refine c_D.call (n := 9) (by omega) rfl rfl (by omega) (t_opn hI2.2.2.2.2.1 hU.2.1 (show p < T by omega)) (fun q h => ?_) (fun b h I1 A1 v hR => ?_)
  · split at h
    · next c1 => rw [if_pos (hU.2.2.1.mpr c1)]; cases h; rfl
    · cases h
  · split at h
    · cases h
    · next c1 =>
      obtain ⟨rfl, rfl, rfl⟩ := hR
      have hf : ¬ full = true := fun z => c1 (hU.2.2.1.mp z)
      rw [if_neg hf]
      have hWn : n_W true (c_st A) m (c_add (c_st A) m 23 (nI p)) (23 + 32 * p) := c_add_W (by rw [show (23 + 32 * p) % 32 = 23 from by omega]; rfl) (fun _ => by rw [show (23 + 32 * p) / 32 = p from by omega])
      have hN : n_T (c_st (c_addA A m 23 (nI p))) true (m + 1) (m + 1) m (23 + 32 * p) b_0 := by rw [c_addA_st]; exact hWn.2.1 (m + 1)
      have hes := k_es (cl := 93) hU (by simpa using hf) hT hW (by omega) hI2 hN (Nat.le_refl _) (Nat.le_refl _) (by omega) (by omega) hp
      refine c_D.call (n := 9) (by omega) rfl rfl (by omega) hes (fun q h => by rw [h]) (fun b h I1 A1 v hR => ?_)
      obtain ⟨c2, p2⟩ := b
      obtain ⟨rfl, m', r2, r3, r4, r5, r6, r7⟩ := hR
      dsimp only at r2 r3 r4
      have hes2 := d_es_Q hW hU.2.2.2.1 (by decide) (⟨.refl hp, by simp [b_sz], trivial⟩ : d_Qs (d_mk T tk) T (p + 1) b_0 (p + 1)) h
      have hp2 := hes2.1.1.1
      have hs2 := hes2.1.2.1
      simp only [b_sz] at r4
      rw [h]
      dsimp only
      refine c_D.call (n := 9) (by omega) rfl rfl (by omega) (k_hc r2 (show m < m' by omega) r3 (by omega) (by omega) (by omega) (by omega)) (fun q h => h) (fun b h I1 A1 v hR => ?_)
      obtain ⟨rfl, rfl, rfl, rfl⟩ := hR
      rw [h]
      refine c_D.ret 9 (by omega) rfl trivial ⟨m, m', rfl, r2, Nat.le_refl _, by omega, by dsimp only; omega, r3.wide (by omega) (Nat.le_refl _), ?_, fun f k hk => ?_⟩
      · rw [r6, c_addA_st]
        exact hWn.2.2
      · rw [r7 f k (by omega) (by omega), c_addA_st]
        exact hWn.1 f k (by omega)
theorem k_at2 (hU : p_U g J X T tk D o full up) (hW : d_W (d_mk T tk) T) (hT : T ≤ 120) (hI : p_I T tk p m I A) (hm : m ≤ 2 * p + 3) (hp : p < T) : c_M p_cs (D + 3) 84 [.ref 26, .int (nI o)] g I A J X (p_V T tk m A) (d_at (d_mk T tk) (d_pc tk) full up p) := by
  have hD := hU.1
  refine c_D.met rfl rfl ?_
  refine c_D.cav (n := 9) (by omega) rfl (by rw [hI.1]; exact t_mark hI.2.2.2.2.1 (by omega)) (by omega) am_Fr.refl ?_
  have lf : ∀ k, k < 32 → d_mk T tk p ≠ 9 → d_mk T tk p ≠ -1 → (∀ {pc : Nat}, am_run 9 84 (pc, [(0, .ref 26), (1, .int (nI o))], [], am_H g I A J X) = am_ca 66 [.ref 26] (pc + 10, [(0, .ref 26), (1, .int (nI o))], [.int (nI k), .ref 9], am_H g I A J X) → (∀ I A, am_run 9 84 (pc + 10, [(0, .ref 26), (1, .int (nI o))], [.int (nI p), .int (nI k), .ref 9], am_H g I A J X) = am_ca 32 [.ref 9, .int (nI k), .int (nI p)] (pc + 13, [(0, .ref 26), (1, .int (nI o))], [], am_H g I A J X)) → (∀ h x, am_run 9 84 (pc + 13, [(0, .ref 26), (1, .int (nI o))], [.int x], h) = am_rt True (.inl (some (.int x))) h) → c_D p_cs 84 (D + 3) g J X I A (pc, [(0, .ref 26), (1, .int (nI o))], [], am_H g I A J X) (p_V T tk m A) (.ok (k + 32 * p, b_0, p + 1))) := fun k hk h9 h1 pc r1 r2 r3 => by
    have hT2 := hW p h9 h1
    have hI1 := hI.adv (show p < 120 by omega)
    refine c_D.cav (n := 9) (by omega) r1 (t_adv hI.1 (by omega)) (by omega) (am_Fr.put (by decide)) ?_
    refine c_D.cav (n := 9) (by omega) (r2 _ _) (t_new hI1.2.1 (show m < 360 by omega)) (by omega) c_addA_Fr ?_
    exact c_D.ret 9 (by omega) (r3 _ _) trivial (k_leaf hI hk (by omega) (by omega))
  generalize hx : d_mk T tk p = x at lf
  unfold d_at
  rw [hx]
  by_cases c1 : x = 1
  · rw [if_pos c1]
    refine c_D.swi 9 (by omega) rfl (Or.inl ⟨c1, rfl⟩) ?_
    subst c1
    exact lf 20 (by decide) (by decide) (by decide) (pc := 60) rfl (fun _ _ => rfl) (fun _ _ => rfl)
  rw [if_neg c1]
  by_cases c3 : x = 3
  · rw [if_pos c3]
    refine c_D.swi 9 (by omega) rfl (Or.inr ⟨c1, Or.inl ⟨c3, rfl⟩⟩) ?_
    subst c3
    exact lf 21 (by decide) (by decide) (by decide) (pc := 74) rfl (fun _ _ => rfl) (fun _ _ => rfl)
  rw [if_neg c3]
  by_cases c4 : x = 4
  · rw [if_pos c4]
    refine c_D.swi 9 (by omega) rfl (Or.inr ⟨c1, Or.inr ⟨c3, Or.inl ⟨c4, rfl⟩⟩⟩) ?_
    subst c4
    exact lf 22 (by decide) (by decide) (by decide) (pc := 88) rfl (fun _ _ => rfl) (fun _ _ => rfl)
  rw [if_neg c4]
  by_cases c40 : x = 40
  · rw [if_pos c40]
    refine c_D.swi 9 (by omega) rfl (Or.inr ⟨c1, Or.inr ⟨c3, Or.inr ⟨c4, Or.inl ⟨c40, rfl⟩⟩⟩⟩) ?_
    have hT2 := hW.lt (hx.trans c40) (by decide)
    refine c_D.call (n := 9) (by omega) rfl rfl (by omega) (k_brk hU hW hT hI hm hT2) (fun q h => h) (fun b h I1 A1 v hR => ?_)
    refine c_D.eq h ?_
    obtain ⟨j, m', rfl, k⟩ := hR
    exact c_D.ret 9 (by omega) rfl trivial ⟨j, m', rfl, k⟩
  rw [if_neg c40]
  by_cases c91 : x = 91
  · rw [if_pos c91]
    refine c_D.swi 9 (by omega) rfl (Or.inr ⟨c1, Or.inr ⟨c3, Or.inr ⟨c4, Or.inr ⟨c40, Or.inl ⟨c91, rfl⟩⟩⟩⟩⟩) ?_
    have hT2 := hW.lt (hx.trans c91) (by decide)
    refine c_D.call (n := 9) (by omega) rfl rfl (by omega) (k_list hU hW hT hI hm hT2) (fun q h => h) (fun b h I1 A1 v hR => ?_)
    refine c_D.eq h ?_
    obtain ⟨j, m', rfl, k⟩ := hR
    exact c_D.ret 9 (by omega) rfl trivial ⟨j, m', rfl, k⟩
  rw [if_neg c91]
  refine c_D.swi 9 (by omega) rfl (Or.inr ⟨c1, Or.inr ⟨c3, Or.inr ⟨c4, Or.inr ⟨c40, Or.inr ⟨c91, rfl⟩⟩⟩⟩⟩) ?_
  refine c_D.cav (n := 9) (by omega) rfl (by rw [hI.1]; exact t_place hI.2.2.2.2.1 hp) (by omega) am_Fr.refl ?_
  exact c_D.ref (n := 9) (by omega) rfl rfl (by decide) rfl
end CAT
