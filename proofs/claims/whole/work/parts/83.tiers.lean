/-! THE CLASS'S PARSER: the whole of expressions -/
section CTI
variable {g : List aK} {J : Nat → Nat → Int64} {X : Nat × (Nat → Int32)} {T : Nat} {tk : Nat → aT} {D o : Nat} {full : Bool} {up : Nat → Nat → aG}
theorem k_pre (hU : p_U g J X T tk D o full up) (hT : T ≤ 120) (hW : d_W (d_mk T tk) T) {I A : Nat → Nat → Int32} {p m s D2 : Nat} {mm : Int32} {x : aG} (hs : (s = 3 ∧ mm = 21) ∨ (s = 7 ∧ mm = 45)) (hI : p_I T tk p m I A) (hm : m ≤ 2 * p + 3) (hp : p < T) (hD2 : D ≤ D2) (hx : c_M p_cs D2 77 [.ref 26, .int (nI (s + 1)), .int (nI o)] g I A J X (p_V T tk m A) x) : c_M p_cs (D2 + 1) 78 [.ref 26, .int (nI s), .int (nI o)] g I A J X (p_V T tk m A) (d_pr (d_mk T tk) (d_pc tk) full up mm (if s = 3 then 13 else 16) s x p) := by
  have hD := hU.1
  refine c_D.met rfl rfl ?_
  have st : ∀ {r : aG} {R : (Nat × aB × Nat) → Option Value → (Nat → Nat → Int32) → (Nat → Nat → Int32) → Prop}, c_D p_cs 78 (D2 + 1) g J X I A (13, [(0, .ref 26), (1, .int (nI s)), (2, .int (nI o))], [.int mm, .ref 26], am_H g I A J X) R r → c_D p_cs 78 (D2 + 1) g J X I A (0, lv_args 0 [.ref 26, .int (nI s), .int (nI o)], [], am_H g I A J X) R r := fun k => by
    rcases hs with ⟨r1, r2⟩ | ⟨r1, r2⟩
    · subst r1 r2
      refine c_D.nay 9 (by omega) rfl (by decide) ?_
      refine c_D.pla 2 (by omega) rfl ?_
      exact k
    · subst r1 r2
      refine c_D.yea 9 (by omega) rfl (by decide) ?_
      refine c_D.pla 1 (by omega) rfl ?_
      exact k
  refine st ?_
  refine c_D.cav (n := 9) (by omega) rfl (t_isAt hI) (by omega) am_Fr.refl ?_
  unfold d_pr
  by_cases c1 : d_mk T tk p = mm
  · rw [if_pos c1, show decide (d_mk T tk p = mm) = true from by simp [c1]]
    have hT2 : p + 1 < T := by rcases hs with ⟨_, r⟩ | ⟨_, r⟩ <;> (subst r; exact hW.lt c1 (by decide))
    refine c_D.yea 9 (by omega) rfl (by decide) ?_
    have hI1 := hI.adv (show p < 120 by omega)
    refine c_D.cav (n := 9) (by omega) rfl (t_adv hI.1 (by omega)) (by omega) (am_Fr.put (by decide)) ?_
    refine c_D.call (n := 9) (by omega) rfl rfl (by omega) (t_opn hI1.2.2.2.2.1 hU.2.1 (show p < T by omega)) (fun q h => ?_) (fun b h I1 A1 v1 hR => ?_)
    · split at h
      · next c1 => rw [if_pos (hU.2.2.1.mpr c1)]; cases h; rfl
      · cases h
    · split at h
      · cases h
      · next c1 =>
        obtain ⟨rfl, rfl, rfl⟩ := hR
        have hf : ¬ full = true := fun z => c1 (hU.2.2.1.mp z)
        rw [if_neg hf]
        have hup := (hU.2.2.2.2 (by simpa using hf) s (p + 1) m _ A1 (by omega) (by omega) hT2 (by omega) hI1).2 (by omega)
        refine c_D.call (n := 9) (by omega) rfl rfl (by omega) hup (fun q h => by rw [h]) (fun b h I1 A1' v1 hR => ?_)
        obtain ⟨e3, c3, p3⟩ := b
        obtain ⟨j, m3, rfl, hI3, hV⟩ := hR
        have q3 := hU.2.2.2.1 _ _ _ _ _ (by omega) h
        obtain ⟨q31, q32, q33, -⟩ := q3
        have q311 := q31.1
        dsimp only at hI3 hV
        have hm3 : m3 = m + b_sz c3 + 1 := hV.2.2.1
        have hv1 := hV.1
        have hv2 := hV.2.1
        have kk : (if s = 3 then 13 else 16) < 32 ∧ 11 ≤ (if s = 3 then 13 else 16) := by split <;> decide
        obtain ⟨A2, a1, a2, a3, a4, a5, a6⟩ := k_over (g := g) (J := J) (X := X) (k := if s = 3 then 13 else 16) (t := p) hI3 (by omega) hV kk.1 (by omega) (fun _ => q33.ge)
        rw [h]
        dsimp only
        have st2 : ∀ {r : aG} {R : (Nat × aB × Nat) → Option Value → (Nat → Nat → Int32) → (Nat → Nat → Int32) → Prop}, c_D p_cs 78 (D2 + 1) g J X I1 A1' (62, [(4, .int (nI j)), (3, .int (nI p)), (0, .ref 26), (1, .int (nI s)), (2, .int (nI o))], [.int (nI (if s = 3 then 13 else 16)), .ref 9], am_H g I1 A1' J X) R r → c_D p_cs 78 (D2 + 1) g J X I1 A1' (44, [(3, .int (nI p)), (0, .ref 26), (1, .int (nI s)), (2, .int (nI o))], [.int (nI j)], am_H g I1 A1' J X) R r := fun k => by
          rcases hs with ⟨r1, r2⟩ | ⟨r1, r2⟩
          · subst r1 r2
            refine c_D.nay 9 (by omega) rfl (by decide) ?_
            refine c_D.pla 2 (by omega) rfl ?_
            exact k
          · subst r1 r2
            refine c_D.yea 9 (by omega) rfl (by decide) ?_
            refine c_D.pla 1 (by omega) rfl ?_
            exact k
        refine st2 ?_
        refine c_D.cav (n := 9) (by omega) rfl (t_new hI3.2.1 (show m3 < 360 by omega)) (by omega) c_addA_Fr ?_
        refine c_D.can (n := 9) (by omega) rfl a3 (by omega) a1 ?_
        refine c_D.call (n := 9) (by omega) rfl rfl (by omega) (k_hc a2 (show m3 < m3 + 1 by omega) a4 (by omega) (by omega) (by omega) (by omega)) (fun q h => h) (fun b hb I1 A1 v hR => ?_)
        obtain ⟨rfl, rfl, rfl, rfl⟩ := hR
        rw [hb]
        refine c_D.ret 9 (by omega) rfl trivial ⟨m3, m3 + 1, rfl, a2, by omega, by omega, by simp only [b_sz]; omega, a4.wide (Nat.le_refl _) (by omega), a5, fun f k hk => ?_⟩
        rw [a6 f k (by omega) (by omega)]; exact hV.2.2.2.2.2 f k hk
  · rw [if_neg c1, show decide (d_mk T tk p = mm) = false from by simp [c1]]
    refine c_D.nay 9 (by omega) rfl (by decide) ?_
    refine c_D.call (n := 9) (M' := 77) (as' := [.ref 26, .int (nI (s + 1)), .int (nI o)]) (by omega) (by rw [← nI_1 s]; rfl) rfl (by omega) hx (fun q h => h) (fun b h I1 A1' v1 hR => ?_)
    rw [h]
    obtain ⟨j, m', rfl, k⟩ := hR
    exact c_D.ret 9 (by omega) rfl trivial ⟨j, m', rfl, k⟩
theorem k_t (hU : p_U g J X T tk D o full up) (hT : T ≤ 120) (hW : d_W (d_mk T tk) T) {I A : Nat → Nat → Int32} {p m : Nat} (hI : p_I T tk p m I A) (hm : m ≤ 2 * p + 3) (hp : p < T) : ∀ j D2, j ≤ 7 → D + 5 + 2 * j ≤ D2 → c_M p_cs D2 77 [.ref 26, .int (nI (8 - j)), .int (nI o)] g I A J X (p_V T tk m A) (d_t (d_mk T tk) (d_pc tk) full up j p) ∧ ((8 - j = 3 ∨ 8 - j = 7) → c_M p_cs D2 78 [.ref 26, .int (nI (8 - j)), .int (nI o)] g I A J X (p_V T tk m A) (d_t (d_mk T tk) (d_pc tk) full up j p))
  | 0, D2, _, hD2 => by
    have hD := hU.1
    refine ⟨c_D.met rfl rfl ?_, fun z => by omega⟩
    refine c_D.nay 9 (by omega) rfl (by decide) ?_
    refine c_D.yea 9 (by omega) rfl (by decide) ?_
    refine c_D.nay 9 (by omega) rfl (by decide) ?_
    refine c_D.call (n := 9) (by omega) rfl rfl (by omega) (k_part hU hT hW hI hm hp) (fun q h => h) (fun b h I1 A1' v1 hR => ?_)
    rw [h]
    obtain ⟨j, m', rfl, k⟩ := hR
    exact c_D.ret 9 (by omega) rfl trivial ⟨j, m', rfl, k⟩
  | j + 1, D2, hj, hD2 => by
    have hD := hU.1
    have ih := fun D3 h3 => (k_t hU hT hW hI hm hp j D3 (by omega) h3).1
    have pre : ∀ D3, D + 6 + 2 * j ≤ D3 → (8 - (j + 1) = 3 ∨ 8 - (j + 1) = 7) → c_M p_cs D3 78 [.ref 26, .int (nI (8 - (j + 1))), .int (nI o)] g I A J X (p_V T tk m A) (d_t (d_mk T tk) (d_pc tk) full up (j + 1) p) := fun D3 h3 z => by
      obtain ⟨D4, rfl⟩ : ∃ D4, D3 = D4 + 1 := ⟨D3 - 1, by omega⟩
      rcases z with z | z
      · have : j = 4 := by omega
        subst this
        have := k_pre (s := 3) (mm := 21) (D2 := D4) hU hT hW (Or.inl ⟨rfl, rfl⟩) hI hm hp (by omega) (ih D4 (by omega))
        unfold d_t
        rw [if_neg (by decide), if_pos rfl]
        exact this
      · have : j = 0 := by omega
        subst this
        have := k_pre (s := 7) (mm := 45) (D2 := D4) hU hT hW (Or.inr ⟨rfl, rfl⟩) hI hm hp (by omega) (ih D4 (by omega))
        unfold d_t
        rw [if_pos rfl]
        exact this
    refine ⟨c_D.met rfl rfl ?_, pre D2 (by omega)⟩
    by_cases z : 8 - (j + 1) = 3 ∨ 8 - (j + 1) = 7
    · have st : ∀ {r : aG} {R : (Nat × aB × Nat) → Option Value → (Nat → Nat → Int32) → (Nat → Nat → Int32) → Prop}, c_D p_cs 77 D2 g J X I A (11, [(0, .ref 26), (1, .int (nI (8 - (j + 1)))), (2, .int (nI o))], [], am_H g I A J X) R r → c_D p_cs 77 D2 g J X I A (0, lv_args 0 [.ref 26, .int (nI (8 - (j + 1))), .int (nI o)], [], am_H g I A J X) R r := fun k => by
        rcases z with z | z
        · rw [z] at k ⊢
          exact c_D.yea 9 (by omega) rfl (by decide) k
        · rw [z] at k ⊢
          refine c_D.nay 9 (by omega) rfl (by decide) ?_
          exact c_D.nay 9 (by omega) rfl (by decide) k
      refine st ?_
      refine c_D.call (n := 9) (by omega) rfl rfl (show D2 - 1 + 1 ≤ D2 by omega) (pre (D2 - 1) (by omega) z) (fun q h => h) (fun b h I1 A1' v1 hR => ?_)
      rw [h]
      obtain ⟨j, m', rfl, k⟩ := hR
      exact c_D.ret 9 (by omega) rfl trivial ⟨j, m', rfl, k⟩
    · have hs : 7 - j = 1 ∨ 7 - j = 2 ∨ 7 - j = 4 ∨ 7 - j = 5 ∨ 7 - j = 6 := by omega
      have e8 : 8 - (j + 1) = 7 - j := by omega
      have e9 : 8 - j = (7 - j) + 1 := by omega
      rw [e8]
      have ih := ih (D2 - 1) (by omega)
      rw [e9] at ih
      have ne : ∀ k, k < 9 → 7 - j ≠ k → ¬ nI (7 - j) = nI k := fun k hk hn z => hn (nI_inj (by omega) (by omega) z)
      refine c_D.nay 9 (by omega) rfl (ne 3 (by decide) (by omega)) ?_
      refine c_D.yea 9 (by omega) rfl (ne 7 (by decide) (by omega)) ?_
      refine c_D.yea 9 (by omega) rfl (nI_lt (b := 8) (by omega) (by decide)) ?_
      unfold d_t
      rw [if_neg (by omega), if_neg (by omega)]
      refine c_D.call (n := 9) (M' := 77) (as' := [.ref 26, .int (nI (7 - j + 1)), .int (nI o)]) (by omega) (by rw [← nI_1 (7 - j)]; rfl) rfl (by omega) ih (fun q h => by rw [h]) (fun b h I1 A1' v1 hR => ?_)
      obtain ⟨e, c, p2⟩ := b
      obtain ⟨v, m', rfl, k1, k2⟩ := hR
      rw [h]
      dsimp only at k1 k2 ⊢
      have hq := d_t_Q hW hU.2.2.2.1 j (by omega) p h
      by_cases j3 : j = 3
      · subst j3
        refine c_D.nay 9 (by omega) rfl (by decide) ?_
        refine c_D.pla 5 (by omega) rfl ?_
        exact k_bl2 (s := 4) (mo := 1) (D2 := D2) hU hT hW (by omega) hm (by decide) (by decide) 1 0 e c p2 v m' I1 A1' (by omega) k2 k1 hq
      · rw [if_neg j3]
        refine c_D.yea 9 (by omega) rfl (ne 4 (by decide) (by omega)) ?_
        refine c_D.pla 4 (by omega) rfl ?_
        exact k_bl2 (mo := 120) (D2 := D2) hU hT hW (by omega) hm hs (by decide) 120 0 e c p2 v m' I1 A1' (by omega) k2 k1 hq
end CTI
section CEE
variable {g : List aK} {J : Nat → Nat → Int64} {X : Nat × (Nat → Int32)} {T : Nat} {tk : Nat → aT}
theorem k_ex_U (hT : T ≤ 120) (hW : d_W (d_mk T tk) T) : ∀ r L, r + L = 12 → p_U g J X T tk (12 + 20 * r) L (r = 0) (match r with
    | 0 => fun _ _ => .error (0, 0)
    | r + 1 => d_ex (d_mk T tk) (d_pc tk) r)
  | 0, L, hL => ⟨by omega, by omega, by simp; omega, fun _ _ _ _ _ _ z => (by cases z), fun z => by simp at z⟩
  | r + 1, L, hL => by
    refine ⟨by omega, by omega, by simp; omega, fun s p e c p' hs z => d_ex_Q hW r s p e c p' z hs, fun _ s p m I A h1 h8 hp hm hI => ?_⟩
    have ih := k_ex_U hT hW r (L + 1) (by omega)
    dsimp only
    have e8 : 8 - (8 - s) = s := by omega
    cases r with
    | zero =>
      unfold d_ex
      have := k_t (by simpa using ih) hT hW hI hm hp (8 - s) (12 + 20 * (0 + 1)) (by omega) (by omega)
      rw [e8] at this
      exact this
    | succ r =>
      unfold d_ex
      have := k_t (by simpa using ih) hT hW hI hm hp (8 - s) (12 + 20 * (r + 1 + 1)) (by omega) (by omega)
      rw [e8] at this
      exact this
/-- a whole expression -/
theorem k_expr (hT : T ≤ 120) (hW : d_W (d_mk T tk) T) {I A : Nat → Nat → Int32} {p m : Nat} (hI : p_I T tk p m I A) (hm : m ≤ 2 * p + 3) (hp : p < T) : c_M p_cs 280 77 [.ref 26, .int (nI 1), .int (nI 0)] g I A J X (p_V T tk m A) (d_ex (d_mk T tk) (d_pc tk) 12 1 p) := by
  have ih := k_ex_U (g := g) (J := J) (X := X) hT hW 12 0 (by omega)
  unfold d_ex
  exact (k_t (by simpa using ih) hT hW hI hm hp 7 280 (by omega) (by omega)).1
end CEE
