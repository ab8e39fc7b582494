/-! THE CLASS'S PARSER: operators -/
theorem t_sb {h : aH} {x : Int32} : am_Con 1 124 [.int x] h (.inl (some (.int (nI (d_sb x))))) h 0 0 := by
  refine am_met rfl rfl ?_
  by_cases h19 : x = 19
  · refine am_swi 9 (by decide) rfl (Or.inl ⟨h19, rfl⟩) ?_
    exact am_end 9 (by decide) rfl trivial (by decide) (by decide) ⟨by rw [h19]; rfl, rfl⟩
  by_cases h20 : x = 20
  · refine am_swi 9 (by decide) rfl (Or.inr ⟨h19, Or.inl ⟨h20, rfl⟩⟩) ?_
    exact am_end 9 (by decide) rfl trivial (by decide) (by decide) ⟨by rw [h20]; rfl, rfl⟩
  by_cases h37 : x = 37
  · refine am_swi 9 (by decide) rfl (Or.inr ⟨h19, Or.inr ⟨h20, Or.inl ⟨h37, rfl⟩⟩⟩) ?_
    exact am_end 9 (by decide) rfl trivial (by decide) (by decide) ⟨by rw [h37]; rfl, rfl⟩
  by_cases h42 : x = 42
  · refine am_swi 9 (by decide) rfl (Or.inr ⟨h19, Or.inr ⟨h20, Or.inr ⟨h37, Or.inl ⟨h42, rfl⟩⟩⟩⟩) ?_
    exact am_end 9 (by decide) rfl trivial (by decide) (by decide) ⟨by rw [h42]; rfl, rfl⟩
  by_cases h43 : x = 43
  · refine am_swi 9 (by decide) rfl (Or.inr ⟨h19, Or.inr ⟨h20, Or.inr ⟨h37, Or.inr ⟨h42, Or.inl ⟨h43, rfl⟩⟩⟩⟩⟩) ?_
    exact am_end 9 (by decide) rfl trivial (by decide) (by decide) ⟨by rw [h43]; rfl, rfl⟩
  by_cases h45 : x = 45
  · refine am_swi 9 (by decide) rfl (Or.inr ⟨h19, Or.inr ⟨h20, Or.inr ⟨h37, Or.inr ⟨h42, Or.inr ⟨h43, Or.inl ⟨h45, rfl⟩⟩⟩⟩⟩⟩) ?_
    exact am_end 9 (by decide) rfl trivial (by decide) (by decide) ⟨by rw [h45]; rfl, rfl⟩
  by_cases h47 : x = 47
  · refine am_swi 9 (by decide) rfl (Or.inr ⟨h19, Or.inr ⟨h20, Or.inr ⟨h37, Or.inr ⟨h42, Or.inr ⟨h43, Or.inr ⟨h45, Or.inl ⟨h47, rfl⟩⟩⟩⟩⟩⟩⟩) ?_
    exact am_end 9 (by decide) rfl trivial (by decide) (by decide) ⟨by rw [h47]; rfl, rfl⟩
  by_cases h60 : x = 60
  · refine am_swi 9 (by decide) rfl (Or.inr ⟨h19, Or.inr ⟨h20, Or.inr ⟨h37, Or.inr ⟨h42, Or.inr ⟨h43, Or.inr ⟨h45, Or.inr ⟨h47, Or.inl ⟨h60, rfl⟩⟩⟩⟩⟩⟩⟩⟩) ?_
    exact am_end 9 (by decide) rfl trivial (by decide) (by decide) ⟨by rw [h60]; rfl, rfl⟩
  by_cases h62 : x = 62
  · refine am_swi 9 (by decide) rfl (Or.inr ⟨h19, Or.inr ⟨h20, Or.inr ⟨h37, Or.inr ⟨h42, Or.inr ⟨h43, Or.inr ⟨h45, Or.inr ⟨h47, Or.inr ⟨h60, Or.inl ⟨h62, rfl⟩⟩⟩⟩⟩⟩⟩⟩⟩) ?_
    exact am_end 9 (by decide) rfl trivial (by decide) (by decide) ⟨by rw [h62]; rfl, rfl⟩
  by_cases h161 : x = 161
  · refine am_swi 9 (by decide) rfl (Or.inr ⟨h19, Or.inr ⟨h20, Or.inr ⟨h37, Or.inr ⟨h42, Or.inr ⟨h43, Or.inr ⟨h45, Or.inr ⟨h47, Or.inr ⟨h60, Or.inr ⟨h62, Or.inl ⟨h161, rfl⟩⟩⟩⟩⟩⟩⟩⟩⟩⟩) ?_
    exact am_end 9 (by decide) rfl trivial (by decide) (by decide) ⟨by rw [h161]; rfl, rfl⟩
  by_cases h188 : x = 188
  · refine am_swi 9 (by decide) rfl (Or.inr ⟨h19, Or.inr ⟨h20, Or.inr ⟨h37, Or.inr ⟨h42, Or.inr ⟨h43, Or.inr ⟨h45, Or.inr ⟨h47, Or.inr ⟨h60, Or.inr ⟨h62, Or.inr ⟨h161, Or.inl ⟨h188, rfl⟩⟩⟩⟩⟩⟩⟩⟩⟩⟩⟩) ?_
    exact am_end 9 (by decide) rfl trivial (by decide) (by decide) ⟨by rw [h188]; rfl, rfl⟩
  by_cases h189 : x = 189
  · refine am_swi 9 (by decide) rfl (Or.inr ⟨h19, Or.inr ⟨h20, Or.inr ⟨h37, Or.inr ⟨h42, Or.inr ⟨h43, Or.inr ⟨h45, Or.inr ⟨h47, Or.inr ⟨h60, Or.inr ⟨h62, Or.inr ⟨h161, Or.inr ⟨h188, Or.inl ⟨h189, rfl⟩⟩⟩⟩⟩⟩⟩⟩⟩⟩⟩⟩) ?_
    exact am_end 9 (by decide) rfl trivial (by decide) (by decide) ⟨by rw [h189]; rfl, rfl⟩
  by_cases h190 : x = 190
  · refine am_swi 9 (by decide) rfl (Or.inr ⟨h19, Or.inr ⟨h20, Or.inr ⟨h37, Or.inr ⟨h42, Or.inr ⟨h43, Or.inr ⟨h45, Or.inr ⟨h47, Or.inr ⟨h60, Or.inr ⟨h62, Or.inr ⟨h161, Or.inr ⟨h188, Or.inr ⟨h189, Or.inl ⟨h190, rfl⟩⟩⟩⟩⟩⟩⟩⟩⟩⟩⟩⟩⟩) ?_
    exact am_end 9 (by decide) rfl trivial (by decide) (by decide) ⟨by rw [h190]; rfl, rfl⟩
  refine am_swi 9 (by decide) rfl (Or.inr ⟨h19, Or.inr ⟨h20, Or.inr ⟨h37, Or.inr ⟨h42, Or.inr ⟨h43, Or.inr ⟨h45, Or.inr ⟨h47, Or.inr ⟨h60, Or.inr ⟨h62, Or.inr ⟨h161, Or.inr ⟨h188, Or.inr ⟨h189, Or.inr ⟨h190, rfl⟩⟩⟩⟩⟩⟩⟩⟩⟩⟩⟩⟩⟩) ?_
  refine am_end 9 (by decide) rfl trivial (by decide) (by decide) ⟨?_, rfl⟩
  have : d_sb x = 0 := by
    unfold d_sb
    simp [h19, h20, h37, h42, h43, h45, h47, h60, h62, h161, h188, h189, h190]
  rw [this]
  rfl
theorem t_kb {h : aH} {s : Nat} (hs : s = 1 ∨ s = 2 ∨ s = 4 ∨ s = 5 ∨ s = 6) : am_Con 1 125 [.int (nI s)] h (.inl (some (.int (nI (d_kb s))))) h 0 0 := by
  refine am_met rfl rfl ?_
  rcases hs with r | r | r | r | r
  · subst r
    refine am_swi 9 (by decide) rfl (Or.inl ⟨rfl, rfl⟩) ?_
    exact am_end 9 (by decide) rfl trivial (by decide) (by decide) ⟨rfl, rfl⟩
  · subst r
    refine am_swi 9 (by decide) rfl (Or.inr ⟨by decide, Or.inl ⟨rfl, rfl⟩⟩) ?_
    exact am_end 9 (by decide) rfl trivial (by decide) (by decide) ⟨rfl, rfl⟩
  · subst r
    refine am_swi 9 (by decide) rfl (Or.inr ⟨by decide, Or.inr ⟨by decide, Or.inr ⟨by decide, Or.inl ⟨rfl, rfl⟩⟩⟩⟩) ?_
    exact am_end 9 (by decide) rfl trivial (by decide) (by decide) ⟨rfl, rfl⟩
  · subst r
    refine am_swi 9 (by decide) rfl (Or.inr ⟨by decide, Or.inr ⟨by decide, Or.inr ⟨by decide, Or.inr ⟨by decide, rfl⟩⟩⟩⟩) ?_
    exact am_end 9 (by decide) rfl trivial (by decide) (by decide) ⟨rfl, rfl⟩
  · subst r
    refine am_swi 9 (by decide) rfl (Or.inr ⟨by decide, Or.inr ⟨by decide, Or.inr ⟨by decide, Or.inr ⟨by decide, rfl⟩⟩⟩⟩) ?_
    exact am_end 9 (by decide) rfl trivial (by decide) (by decide) ⟨rfl, rfl⟩
abbrev p_l77 (i mo v s o : Nat) : List (Nat × Value) := [(5, .int (nI i)), (4, .int (nI mo)), (3, .int (nI v)), (0, .ref 26), (1, .int (nI s)), (2, .int (nI o))]
section COP
variable {g : List aK} {J : Nat → Nat → Int64} {X : Nat × (Nat → Int32)} {T : Nat} {tk : Nat → aT} {D o : Nat} {full : Bool} {up : Nat → Nat → aG}
/-- a new node over two finished ones: its store -/
theorem k_two {I A A0 : Nat → Nat → Int32} {S : aN} {k t p m m1 m2 v1 v2 e1 e2 : Nat} {c1 c2 : aB} (hI : p_I T tk p m2 I A) (hm2 : m2 < 360) (hv : n_V true S m (c_st A0) m1 v1 e1 c1) (hw : n_V true (c_st A0) m1 (c_st A) m2 v2 e2 c2) (hk : k < 32) (ht : t < 400) (he1 : 11 ≤ e1 % 32) (he2 : 11 ≤ e2 % 32) : ∃ (A2 A3 : Nat → Nat → Int32), am_Fr p_cs (am_u I 9 9 (nI (m2 + 1))) (c_addA A m2 (nI k) (nI t)) (am_u I 9 9 (nI (m2 + 1))) A2 ∧ am_Con 2 33 [.ref 9, .int (nI m2), .int (nI v1)] (am_H g (am_u I 9 9 (nI (m2 + 1))) (c_addA A m2 (nI k) (nI t)) J X) (.inl none) (am_H g (am_u I 9 9 (nI (m2 + 1))) A2 J X) 0 0 ∧
    am_Fr p_cs (am_u I 9 9 (nI (m2 + 1))) A2 (am_u I 9 9 (nI (m2 + 1))) A3 ∧ am_Con 2 33 [.ref 9, .int (nI m2), .int (nI v2)] (am_H g (am_u I 9 9 (nI (m2 + 1))) A2 J X) (.inl none) (am_H g (am_u I 9 9 (nI (m2 + 1))) A3 J X) 0 0 ∧ p_I T tk p (m2 + 1) (am_u I 9 9 (nI (m2 + 1))) A3 ∧ n_V true S m (c_st A3) (m2 + 1) m2 (k + 32 * t) (.branch e1 c1 (.branch e2 c2 b_0)) := by
  have hI2 := hI.new (k := nI k) (t := nI t) hm2
  have hW : n_W true (c_st A) m2 (c_st (c_addA A m2 (nI k) (nI t))) (k + 32 * t) := by
    rw [c_addA_st]
    exact c_add_W (by rw [show (k + 32 * t) % 32 = k from by omega]) (fun _ => by rw [show (k + 32 * t) / 32 = t from by omega])
  have hv1 := hv.1
  have hv2 := hv.2.1
  have hw1 := hw.1
  have hw2 := hw.2.1
  have hz := hW.2.1 0
  obtain ⟨A2, hh, a1, a2, a3, a4, a5⟩ := t_app (g := g) (J := J) (X := X) (n := 0) hI2 (show m2 < m2 + 1 by omega) (show v1 < m2 + 1 by omega) (by decide) hz.1.2.2.1
  have e3 : c_st A2 3 m2 = nI 1 := by
    rw [a1]
    exact (n_lnk_T (hh := hh) hz (Nat.le_refl _) (by omega) (j2 := v1) (by omega) (by omega)).2.2.2.2.1
  obtain ⟨A3, hh2, b1, b2, b3, b4, b5⟩ := t_app (g := g) (J := J) (X := X) (n := 1) a4 (show m2 < m2 + 1 by omega) (show v2 < m2 + 1 by omega) (by decide) e3
  refine ⟨A2, A3, a3, a5, b3, b5, b4, ?_⟩
  rw [a1] at b1 b2
  rw [b1]
  exact n_bi_V hv hw (by omega) hW (fun _ => ⟨he1, he2, a2, b2⟩)
theorem k_bl2 (hU : p_U g J X T tk D o full up) (hT : T ≤ 120) (hW : d_W (d_mk T tk) T) {S : aN} {m p0 s mo D2 : Nat} (hD2 : D + 1 ≤ D2) (hm : m ≤ 2 * p0 + 3) (hs : s = 1 ∨ s = 2 ∨ s = 4 ∨ s = 5 ∨ s = 6) (hmo : mo ≤ 120) : ∀ (i i' e : Nat) (c : aB) (p v m1 : Nat) (I A : Nat → Nat → Int32), i' + i = mo → n_V true S m (c_st A) m1 v e c → p_I T tk p m1 I A → d_Q (d_mk T tk) T p0 e c p → c_D p_cs 77 D2 g J X I A (55, p_l77 i' mo v s o, [], am_H g I A J X) (p_W T tk m S) (d_bl (d_mk T tk) (d_pc tk) full up s i e c p)
  | 0, i', e, c, p, v, m1, I, A, hi, hv, hI, hq => by
    have hD := hU.1
    have hi' : i' = mo := by omega
    subst hi'
    unfold d_bl
    refine c_D.yea 9 (by omega) rfl (nI_le (Nat.le_refl _) (by omega)) ?_
    exact c_D.ret 9 (by omega) rfl trivial ⟨v, m1, rfl, hI, hv⟩
  | i + 1, i', e, c, p, v, m1, I, A, hi, hv, hI, hq => by
    have hD := hU.1
    have hqs := hq.2.1
    have hqT := hq.1.1
    have hms : m1 = m + b_sz c + 1 := hv.2.2.1
    have he := hq.2.2.1.ge
    unfold d_bl
    refine c_D.nay 9 (by omega) rfl (nI_ge (by omega) (by omega)) ?_
    refine c_D.cav (n := 9) (by omega) rfl (by rw [hI.1]; exact t_mark hI.2.2.2.2.1 (by omega)) (by omega) am_Fr.refl ?_
    refine c_D.cav (n := 9) (by omega) rfl t_sb (by omega) am_Fr.refl ?_
    have h6 := d_sb_le (d_mk T tk p)
    by_cases cs : d_sb (d_mk T tk p) = s
    · rw [if_pos cs]
      have hT2 := hW.lt rfl (d_sb_ne cs (by omega))
      refine c_D.nay 9 (by omega) rfl (fun z => z (by rw [cs])) ?_
      have hI1 := hI.adv (show p < 120 by omega)
      refine c_D.cav (n := 9) (by omega) rfl (t_adv hI.1 (by omega)) (by omega) (am_Fr.put (by decide)) ?_
      refine c_D.call (n := 9) (by omega) rfl rfl (by omega) (t_opn hI1.2.2.2.2.1 hU.2.1 (show p < T by omega)) (fun q h => ?_) (fun b h I1 A1 v1 hR => ?_)
      · split at h
        · next c1 => rw [if_pos (hU.2.2.1.mpr c1)]; cases h; rfl
        · cases h
      · split at h
        · cases h
        · next c1 =>
          obtain ⟨rfl, rfl, rfl⟩ := hR
          have hf : ¬ full = true := fun z => c1 (hU.2.2.1.mp z)
          rw [if_neg hf]
          have hup := (hU.2.2.2.2 (by simpa using hf) (s + 1) (p + 1) m1 _ A1 (by omega) (by omega) hT2 (by omega) hI1).1
          refine c_D.call (n := 9) (M' := 77) (as' := [.ref 26, .int (nI (s + 1)), .int (nI (o + 1))]) (by omega) (by rw [← nI_1 s]; rfl) rfl (by omega) hup (fun q h => by rw [h]) (fun b h I1 A1' v1 hR => ?_)
          obtain ⟨e3, c3, p3⟩ := b
          obtain ⟨j, m3, rfl, hI3, hV⟩ := hR
          have q3 := hU.2.2.2.1 _ _ _ _ _ (by omega) h
          obtain ⟨q31, q32, q33, -⟩ := q3
          have q311 := q31.1
          dsimp only at hI3 hV
          have hm3 : m3 = m1 + b_sz c3 + 1 := hV.2.2.1
          have k1 : d_kb s < 32 ∧ 11 ≤ d_kb s := by rcases hs with r | r | r | r | r <;> (subst r; decide)
          obtain ⟨A2, A3, x1, x2, x3, x4, x5, x6⟩ := k_two (g := g) (J := J) (X := X) (k := d_kb s) (t := p) hI3 (by omega) hv hV k1.1 (by omega) he q33.ge
          rw [h]
          dsimp only
          refine c_D.cav (n := 9) (by omega) rfl (t_kb hs) (by omega) am_Fr.refl ?_
          refine c_D.cav (n := 9) (by omega) rfl (t_new hI3.2.1 (show m3 < 360 by omega)) (by omega) c_addA_Fr ?_
          refine c_D.can (n := 9) (by omega) rfl x2 (by omega) x1 ?_
          refine c_D.can (n := 9) (by omega) rfl x4 (by omega) x3 ?_
          have hxv := x6.2.2.1
          refine c_D.call (n := 9) (by omega) rfl rfl (by omega) (k_hc x5 (show m3 < m3 + 1 by omega) x6.2.2.2.1 (by omega) (by omega) (by omega) (by omega)) (fun q h => by rw [h]) (fun b hb I1 A1 v hR => ?_)
          obtain ⟨rfl, rfl, rfl, rfl⟩ := hR
          have hQ' : d_bl (d_mk T tk) (d_pc tk) full up s 1 e c p = .ok (d_kb s + 32 * p, .branch e c (.branch e3 c3 b_0), p3) := by
            unfold d_bl
            rw [if_pos cs, if_neg hf, h]
            dsimp only
            rw [hb]
            rfl
          have hq' := d_bl_Q hW hU.2.2.2.1 (by omega) hs 1 e c p hq hQ'
          rw [hb]
          dsimp only
          refine c_D.pla 2 (by omega) rfl ?_
          rw [nI_1]
          refine c_D.sub [0, 5, 1, 6, 7, 8] rfl ?_
          exact k_bl2 hU hT hW hD2 hm hs hmo i (i' + 1) _ _ p3 m3 (m3 + 1) _ _ (by omega) x6 x5 hq'
    · rw [if_neg cs]
      refine c_D.yea 9 (by omega) rfl (fun z => cs (nI_inj (by omega) (by omega) z)) ?_
      exact c_D.ret 9 (by omega) rfl trivial ⟨v, m1, rfl, hI, hv⟩
end COP
