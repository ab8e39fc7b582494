/-! THE CLASS'S PARSER: the rules by strength -/
abbrev p_l79 (i v o : Nat) : List (Nat × Value) := [(3, .int (nI i)), (2, .int (nI v)), (0, .ref 26), (1, .int (nI o))]
section CRL
variable {g : List aK} {J : Nat → Nat → Int64} {X : Nat × (Nat → Int32)} {T : Nat} {tk : Nat → aT} {D o : Nat} {full : Bool} {up : Nat → Nat → aG}
/-- the check of the height, and on with the loop -/
theorem k_plx {I A : Nat → Nat → Int32} {S : aN} {i' p m m1 v e : Nat} {c : aB} {r : aG} (hD : 12 ≤ D) (hI : p_I T tk p m1 I A) (hv : n_V true S m (c_st A) m1 v e c) (hm1 : m1 ≤ 400) (he : 11 ≤ e % 32) (het : e / 32 < T) (herr : ∀ q, d_hc (d_pc tk) e c p = .error q → r = .error q) (hk : d_hc (d_pc tk) e c p = .ok (e, c, p) → c_D p_cs 79 (D + 4) g J X I A (8, p_l79 (i' + 1) v o, [], am_H g I A J X) (p_W T tk m S) r) : c_D p_cs 79 (D + 4) g J X I A (113, [(2, .int (nI v)), (4, .int (nI v)), (3, .int (nI i')), (0, .ref 26), (1, .int (nI o))], [], am_H g I A J X) (p_W T tk m S) r := by
  have h1 := hv.1
  have h2 := hv.2.1
  refine c_D.call (n := 9) (by omega) rfl rfl (by omega) (k_hc hI h2 hv.2.2.2.1 he het (by omega) hm1) herr (fun b h I1 A1 v1 hR => ?_)
  obtain ⟨rfl, rfl, rfl, rfl⟩ := hR
  refine c_D.pla 2 (by omega) rfl ?_
  rw [nI_1]
  exact c_D.sub [0, 1, 3, 4] rfl (hk h)
theorem k_pl (hU : p_U g J X T tk D o full up) (hT : T ≤ 120) (hW : d_W (d_mk T tk) T) {S : aN} {m p0 : Nat} (hm : m ≤ 2 * p0 + 3) : ∀ (i i' e : Nat) (c : aB) (p v m1 : Nat) (I A : Nat → Nat → Int32), i' + i = 120 → n_V true S m (c_st A) m1 v e c → p_I T tk p m1 I A → d_Q (d_mk T tk) T p0 e c p → c_D p_cs 79 (D + 4) g J X I A (8, p_l79 i' v o, [], am_H g I A J X) (p_W T tk m S) (d_pl (d_mk T tk) (d_pc tk) full up i e c p)
  | 0, i', e, c, p, v, m1, I, A, hi, hv, hI, hq => by
    have hD := hU.1
    have hi' : i' = 120 := by omega
    subst hi'
    unfold d_pl
    refine c_D.yea 9 (by omega) rfl (nI_le (a := 120) (by omega) (by decide)) ?_
    exact c_D.ret 9 (by omega) rfl trivial ⟨v, m1, rfl, hI, hv⟩
  | i + 1, i', e, c, p, v, m1, I, A, hi, hv, hI, hq => by
    have hD := hU.1
    have hqs := hq.2.1
    have hqT := hq.1.1
    have hms : m1 = m + b_sz c + 1 := hv.2.2.1
    have he := hq.2.2.1.ge
    have again : ∀ (e2 : Nat) (c2 : aB) (p2 v2 m2 : Nat) (I2 A2 : Nat → Nat → Int32), n_V true S m (c_st A2) m2 v2 e2 c2 → p_I T tk p2 m2 I2 A2 → d_Q (d_mk T tk) T p0 e2 c2 p2 → c_D p_cs 79 (D + 4) g J X I2 A2 (8, p_l79 (i' + 1) v2 o, [], am_H g I2 A2 J X) (p_W T tk m S) (d_pl (d_mk T tk) (d_pc tk) full up i e2 c2 p2) := fun e2 c2 p2 v2 m2 I2 A2 k1 k2 k3 => k_pl hU hT hW hm i (i' + 1) e2 c2 p2 v2 m2 I2 A2 (by omega) k1 k2 k3
    unfold d_pl
    refine c_D.nay 9 (by omega) rfl (nI_ge (b := 120) (by omega) (by decide)) ?_
    refine c_D.cav (n := 9) (by omega) rfl (t_isAt hI) (by omega) am_Fr.refl ?_
    have at46 := t_isAt (g := g) (J := J) (X := X) (x := 46) hI
    have at40 := t_isAt (g := g) (J := J) (X := X) (x := 40) hI
    have at91 := t_isAt (g := g) (J := J) (X := X) (x := 91) hI
    by_cases c40 : d_mk T tk p = 40
    · have hT2 := hW.lt c40 (by decide)
      have hb : d_mk T tk p = 40 ∨ d_mk T tk p = 91 ∨ d_mk T tk p = 46 := Or.inl c40
      rw [if_pos hb]
      rw [show decide (d_mk T tk p = 46) = false from by simp [c40]] at at46
      rw [show decide (d_mk T tk p = 40) = true from by simp [c40]] at at40 ⊢
      refine c_D.yea 9 (by omega) rfl (by decide) ?_
      refine c_D.cav (n := 9) (by omega) rfl at46 (by omega) am_Fr.refl ?_
      refine c_D.yea 9 (by omega) rfl (by decide) ?_
      refine c_D.cav (n := 9) (by omega) rfl at40 (by omega) am_Fr.refl ?_
      refine c_D.nay 9 (by omega) rfl (by decide) ?_
      have e1 : d_p1 (d_mk T tk) (d_pc tk) full up e c p = (if full = true then .error (3, d_pc tk p) else match d_es (d_mk T tk) (d_pc tk) up 41 (.branch e c b_0) (p + 1) with
        | .error x => .error x
        | .ok (c2, p2) => d_hc (d_pc tk) (17 + 32 * p) c2 p2) := by
        unfold d_p1
        rw [if_neg (by rw [c40]; decide), if_pos c40]
        rfl
      refine c_D.call (n := 9) (by omega) rfl rfl (by omega) (k_call hU hT hW hI (by omega) hv he hT2) (fun q h => ?_) (fun b h I1 A1 v1 hR => ?_)
      · rw [e1]
        by_cases cf : full = true
        · rw [if_pos cf] at h ⊢
          rw [h]
        · rw [if_neg cf] at h ⊢
          cases hd : d_es (d_mk T tk) (d_pc tk) up 41 (.branch e c b_0) (p + 1) with
          | error x => rw [hd] at h; cases h; rfl
          | ok a => rw [hd] at h; cases h
      · by_cases cf : full = true
        · rw [if_pos cf] at h; cases h
        · rw [if_neg cf] at h e1
          cases hd : d_es (d_mk T tk) (d_pc tk) up 41 (.branch e c b_0) (p + 1) with
          | error x => rw [hd] at h; cases h
          | ok a =>
            obtain ⟨c2, p2⟩ := a
            rw [hd] at h e1
            cases h
            obtain ⟨j, m', rfl, k1, k2⟩ := hR
            dsimp only at k1 k2 e1
            refine c_D.pla 4 (by omega) rfl ?_
            have hm' : m' = m + b_sz c2 + 1 := k2.2.2.1
            have heq := d_es_Q hW hU.2.2.2.1 (by decide) (hq.one.go hW c40 (by decide)) hd
            have hz := heq.2.2
            have hpT := heq.1.1.1
            refine k_plx hD k1 k2 (by omega) (by omega) (by omega) (fun q hh => ?_) (fun hh => ?_)
            · rw [e1, hh]
            · rw [e1, hh]
              exact again _ _ _ _ _ _ _ k2 k1 (d_p1_Q (full := full) (pl := d_pc tk) hW hU.2.2.2.1 hb hq (e1.trans hh))
    · rw [show decide (d_mk T tk p = 40) = false from by simp [c40]] at at40 ⊢
      refine c_D.nay 9 (by omega) rfl (by decide) ?_
      refine c_D.cav (n := 9) (by omega) rfl at91 (by omega) am_Fr.refl ?_
      by_cases c91 : d_mk T tk p = 91
      · have hT2 := hW.lt c91 (by decide)
        have hb : d_mk T tk p = 40 ∨ d_mk T tk p = 91 ∨ d_mk T tk p = 46 := Or.inr (Or.inl c91)
        rw [if_pos hb]
        rw [show decide (d_mk T tk p = 46) = false from by simp [c91]] at at46
        rw [show decide (d_mk T tk p = 91) = true from by simp [c91]]
        refine c_D.yea 9 (by omega) rfl (by decide) ?_
        refine c_D.cav (n := 9) (by omega) rfl at46 (by omega) am_Fr.refl ?_
        refine c_D.yea 9 (by omega) rfl (by decide) ?_
        refine c_D.cav (n := 9) (by omega) rfl at40 (by omega) am_Fr.refl ?_
        refine c_D.yea 9 (by omega) rfl (by decide) ?_
        have e1 : d_p1 (d_mk T tk) (d_pc tk) full up e c p = (if full = true then .error (3, d_pc tk p) else match up 1 (p + 1) with
          | .error x => .error x
          | .ok (e2, c2, p2) => if d_mk T tk p2 = 93 then d_hc (d_pc tk) (18 + 32 * p) (.branch e c (.branch e2 c2 b_0)) (p2 + 1) else .error (9, d_pc tk p2)) := by
          unfold d_p1
          rw [if_neg (by rw [c91]; decide), if_neg c40]
          rfl
        refine c_D.call (n := 9) (by omega) rfl rfl (by omega) (k_idx hU hT hW hI (by omega) hv he hT2) (fun q h => ?_) (fun b h I1 A1 v1 hR => ?_)
        · rw [e1]
          by_cases cf : full = true
          · rw [if_pos cf] at h ⊢
            rw [h]
          · rw [if_neg cf] at h ⊢
            cases hd : up 1 (p + 1) with
            | error x => rw [hd] at h; cases h; rfl
            | ok a =>
              obtain ⟨e2, c2, p2⟩ := a
              rw [hd] at h
              dsimp only at h ⊢
              by_cases c93 : d_mk T tk p2 = 93
              · rw [if_pos c93] at h; cases h
              · rw [if_neg c93] at h ⊢; cases h; rfl
        · by_cases cf : full = true
          · rw [if_pos cf] at h; cases h
          · rw [if_neg cf] at h e1
            cases hd : up 1 (p + 1) with
            | error x => rw [hd] at h; cases h
            | ok a =>
              obtain ⟨e2, c2, p2⟩ := a
              rw [hd] at h e1
              dsimp only at h e1
              by_cases c93 : d_mk T tk p2 = 93
              · rw [if_pos c93] at h e1
                cases h
                obtain ⟨j, m', rfl, k1, k2⟩ := hR
                dsimp only at k1 k2
                refine c_D.pla 3 (by omega) rfl ?_
                have q2 := hU.2.2.2.1 _ _ _ _ _ (by omega) hd
                have q22 := q2.2.1
                have q2T := q2.1.1
                have hm' : m' = m + (b_sz c + 1 + (b_sz c2 + 1 + 0)) + 1 := k2.2.2.1
                refine k_plx hD k1 k2 (by omega) (by omega) (by omega) (fun q hh => ?_) (fun hh => ?_)
                · rw [e1, hh]
                · rw [e1, hh]
                  exact again _ _ _ _ _ _ _ k2 k1 (d_p1_Q (full := full) (pl := d_pc tk) hW hU.2.2.2.1 hb hq (e1.trans hh))
              · rw [if_neg c93] at h; cases h
      · rw [show decide (d_mk T tk p = 91) = false from by simp [c91]]
        refine c_D.nay 9 (by omega) rfl (by decide) ?_
        refine c_D.cav (n := 9) (by omega) rfl at46 (by omega) am_Fr.refl ?_
        by_cases c46 : d_mk T tk p = 46
        · have hT2 := hW.lt c46 (by decide)
          have hb : d_mk T tk p = 40 ∨ d_mk T tk p = 91 ∨ d_mk T tk p = 46 := Or.inr (Or.inr c46)
          rw [if_pos hb]
          rw [show decide (d_mk T tk p = 46) = true from by simp [c46]] at at46 ⊢
          refine c_D.nay 9 (by omega) rfl (by decide) ?_
          refine c_D.cav (n := 9) (by omega) rfl at46 (by omega) am_Fr.refl ?_
          refine c_D.nay 9 (by omega) rfl (by decide) ?_
          have e1 : d_p1 (d_mk T tk) (d_pc tk) full up e c p = (if d_mk T tk (p + 1) = 1 then d_hc (d_pc tk) (19 + 32 * (p + 1)) (.branch e c b_0) (p + 2) else .error (9, d_pc tk (p + 1))) := by
            unfold d_p1
            rw [if_pos c46]
          have hI1 := hI.adv (show p < 120 by omega)
          refine c_D.cav (n := 9) (by omega) rfl (t_adv hI.1 (by omega)) (by omega) (am_Fr.put (by decide)) ?_
          refine c_D.call (n := 9) (by omega) rfl rfl (by omega) (t_exp hI1 hT2) (fun q h => ?_) (fun b h I1 A1 v1 hR => ?_)
          · rw [e1]
            split at h
            · cases h
            · next c1 => rw [if_neg c1]; cases h; rfl
          · split at h
            · next c1 =>
              rw [if_pos c1] at e1
              obtain ⟨rfl, rfl, rfl, rfl⟩ := hR
              have hT3 := hW.lt c1 (by decide)
              have hI2 := hI1.adv (show p + 1 < 120 by omega)
              refine c_D.cav (n := 9) (by omega) rfl (t_new hI2.2.1 (show m1 < 360 by omega)) (by omega) c_addA_Fr ?_
              obtain ⟨A2, a1, a2, a3, a4, a5, a6⟩ := k_over (g := g) (J := J) (X := X) (k := 19) (t := p + 1) hI2 (by omega) hv (by decide) (by omega) (fun _ => he)
              refine c_D.can (n := 9) (by omega) rfl a3 (by omega) a1 ?_
              have h1 := hv.1
              have h2 := hv.2.1
              have k2 : n_V true S m (c_st A2) (m1 + 1) m1 (19 + 32 * (p + 1)) (.branch e c b_0) := by
                refine ⟨by omega, by omega, ?_, a4.wide (Nat.le_refl _) (by omega), a5, fun f k hk => ?_⟩
                · simp only [b_sz]; omega
                · rw [a6 f k (by omega) (by omega)]; exact hv.2.2.2.2.2 f k hk
              refine c_D.pla 3 (by omega) rfl ?_
              refine k_plx (p := p + 2) hD a2 k2 (by omega) (by omega) (by omega) (fun q hh => ?_) (fun hh => ?_)
              · rw [e1, hh]
              · rw [e1, hh]
                exact again _ _ _ _ _ _ _ k2 a2 (d_p1_Q (full := full) (pl := d_pc tk) hW hU.2.2.2.1 hb hq (e1.trans hh))
            · cases h
        · rw [show decide (d_mk T tk p = 46) = false from by simp [c46]]
          refine c_D.yea 9 (by omega) rfl (by decide) ?_
          rw [if_neg]
          · exact c_D.ret 9 (by omega) rfl trivial ⟨v, m1, rfl, hI, hv⟩
          · rintro (z | z | z)
            · exact c40 z
            · exact c91 z
            · exact c46 z
/-- the rule for the greatest strength -/
theorem k_part (hU : p_U g J X T tk D o full up) (hT : T ≤ 120) (hW : d_W (d_mk T tk) T) {I A : Nat → Nat → Int32} {p m : Nat} (hI : p_I T tk p m I A) (hm : m ≤ 2 * p + 3) (hp : p < T) : c_M p_cs (D + 4) 79 [.ref 26, .int (nI o)] g I A J X (p_V T tk m A) (d_t (d_mk T tk) (d_pc tk) full up 0 p) := by
  have hD := hU.1
  refine c_D.met rfl rfl ?_
  unfold d_t
  refine c_D.call (n := 9) (by omega) rfl rfl (by omega) (k_at2 hU hW hT hI hm hp) (fun q h => by rw [h]) (fun b h I1 A1 v1 hR => ?_)
  obtain ⟨e, c, p2⟩ := b
  obtain ⟨j, m', rfl, k1, k2⟩ := hR
  rw [h]
  dsimp only at k1 k2 ⊢
  refine c_D.pla 3 (by omega) rfl ?_
  exact k_pl hU hT hW hm 120 0 e c p2 j m' I1 A1 (by omega) k2 k1 (d_at_Q hW hU.2.2.2.1 h)
end CRL
