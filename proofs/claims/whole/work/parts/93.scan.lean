/-! THE CLASS'S SCANNER: the whole -/
theorem c_R.m {α : Type} {cs : List Nat} {d M : Nat} {as : List Value} {g : List aK} {I A : Nat → Nat → Int32} {J : Nat → Nat → Int64} {X : Nat × (Nat → Int32)} {V : α → Option Value} {R : α → (Nat → Nat → Int32) → (Nat → Nat → Int32) → Prop} {r : Except aF α} (h : c_R cs d M as g I A J X V R r) : c_M cs d M as g I A J X (fun a v I' A' => v = V a ∧ R a I' A') r := by
  cases r with
  | error q => exact h
  | ok a =>
    obtain ⟨I', A', h1, h2, h3⟩ := h
    exact ⟨I', A', _, ⟨rfl, h1⟩, h2, h3⟩
section SCA
variable {g : List aK} {J : Nat → Nat → Int64} {X : Nat × (Nat → Int32)} {tx : Nat → Int32} {n : Nat}
abbrev c_Sv (a : aW) (v : Option Value) (I' A' : Nat → Nat → Int32) : Prop := v = none ∧ c_S a I' A'
theorem k_clo {p : Nat} {l : Bool} {bs : List Nat} {ws : List (Nat × Nat)} : ∀ (f i m : Nat) (tk : Nat → aT) (I A : Nat → Nat → Int32), c_S (p, l, ws, bs, m, tk) I A → i + f = ws.length → c_D c_sc 62 9 g J X I A (43, [(1, .int (nI i)), (0, .ref 19)], [], am_H g I A J X) c_Sv (match s_close f (p, l, ws, bs, m, tk) with
    | .error e => .error e
    | .ok y => s_take 9 9 0 y)
  | 0, i, m, tk, I, A, hz, hi => by
    obtain ⟨h1, h2, h3, h4, h5, h6, h7, h8, h9, ht, h11, h12⟩ := id hz
    unfold s_close
    refine c_D.yea 9 (by omega) rfl (by rw [h3]; exact nI_le (by omega) (by omega)) ?_
    refine c_D.call (n := 9) (by omega) rfl rfl (by omega) (k_take hz (by decide) (by dsimp only; omega)).m (fun q h => h) (fun b h I1 A1 v hR => ?_)
    refine c_D.eq h ?_
    obtain ⟨rfl, hR⟩ := hR
    exact c_D.ret 9 (by omega) rfl trivial ⟨rfl, hR⟩
  | f + 1, i, m, tk, I, A, hz, hi => by
    obtain ⟨h1, h2, h3, h4, h5, h6, h7, h8, h9, ht, h11, h12⟩ := id hz
    unfold s_close
    refine c_D.nay 9 (by omega) rfl (by rw [h3]; exact nI_ge (by omega) (by omega)) ?_
    refine c_D.call (n := 9) (by omega) rfl rfl (by omega) (k_take (k := 8) (mk := 8) (e := 0) hz (by decide) (by dsimp only; omega)).m (fun q h => ?_) (fun b h I1 A1 v hR => ?_)
    · rw [h]
    · rw [h]
      obtain ⟨rfl, hR⟩ := hR
      obtain ⟨k1, rfl⟩ := s_take_ok h
      refine c_D.pla 2 (by omega) rfl ?_
      rw [nI_1]
      exact k_clo f (i + 1) (m + 1) _ I1 A1 hR (by show i + 1 + f = ws.length; omega)
theorem k_fin {z : aW} {I A : Nat → Nat → Int32} (hz : c_S z I A) (hw : 1 ≤ z.2.2.1.length) : c_M c_sc 9 62 [.ref 19] g I A J X c_Sv (s_fin z) := by
  obtain ⟨p, l, ws, bs, m, tk⟩ := z
  obtain ⟨h1, h2, h3, h4, h5, h6, h7, h8, h9, ht, h11, h12⟩ := id hz
  refine c_D.met rfl rfl ?_
  unfold s_fin
  cases bs with
  | cons b r =>
    dsimp only
    refine c_D.nay 9 (by omega) rfl (by rw [h7]; exact nI_nle (by simp) (by simp at h8 ⊢; omega)) ?_
    refine c_D.cav (n := 9) (by omega) rfl (t_last24 (n := r.length) h7 (by simp at h8; omega)) (by omega) am_Fr.refl ?_
    exact c_D.ref (n := 9) (by omega) rfl rfl (by decide) h9.1
  | nil =>
    dsimp only
    refine c_D.yea 9 (by omega) rfl (by rw [h7]; decide) ?_
    cases l with
    | false =>
      rw [if_neg (by decide)]
      dsimp only
      refine c_D.yea 9 (by omega) rfl (by rw [h2]; rfl) ?_
      refine c_D.pla 2 (by omega) rfl ?_
      exact k_clo (ws.length - 1) 1 m tk I A hz (by dsimp only at hw; omega)
    | true =>
      rw [if_pos rfl]
      refine c_D.nay 9 (by omega) rfl (by rw [h2]; decide) ?_
      refine c_D.call (n := 9) (by omega) rfl rfl (by omega) (k_take (k := 6) (mk := 6) (e := 0) hz (by decide) (by dsimp only; omega)).m (fun q h => ?_) (fun b h I1 A1 v hR => ?_)
      · rw [h]
      · rw [h]
        obtain ⟨rfl, hR⟩ := hR
        obtain ⟨k1, rfl⟩ := s_take_ok h
        refine c_D.pla 2 (by omega) rfl ?_
        exact k_clo (ws.length - 1) 1 (m + 1) _ I1 A1 hR (by dsimp only at hw ⊢; omega)
theorem k_beg {I A : Nat → Nat → Int32} : ∃ I' A', am_Fr c_sc I A I' A' ∧ c_S (0, false, [(0, 0)], [], 0, fun _ => (0, 0, 0, 0)) I' A' ∧ am_Con 2 47 [.ref 19] (am_H g I A J X) (.inl none) (am_H g I' A' J X) 0 0 := by
  refine ⟨am_u (am_u (am_u (am_u (am_u (am_u (am_u (am_u I 4 4 0) 24 1 0) 20 1 0) 20 1 (nI 1)) 22 1 0) 22 1 (nI 1)) 19 6 0) 19 7 0, am_u (am_u A 21 0 0) 23 0 0, ?_, ?_, ?_⟩
  · exact (((((((((am_Fr.put (by decide)).trans (am_Fr.put (by decide))).trans (am_Fr.put (by decide))).trans (am_Fr.put (by decide))).trans (am_Fr.put (by decide))).trans (am_Fr.put (by decide))).trans (am_Fr.put (by decide))).trans (am_Fr.put (by decide))).trans (am_Fr.set (by decide))).trans (am_Fr.set (by decide))
  · refine ⟨by simp [am_u]; rfl, by simp [am_u]; rfl, by simp [am_u], by simp [am_u], by decide, ⟨by simp [am_u]; rfl, by simp [am_u]; rfl, trivial⟩, by simp [am_u]; rfl, by decide, trivial, ⟨by simp [am_u]; rfl, by decide, fun k hk => by omega⟩, by decide, fun b hb => by simp at hb⟩
  · refine am_met rfl rfl ?_
    refine am_cav 20 (by decide) rfl (t_push20 (n := 0) (by simp [am_u]; rfl) (by decide)) (by decide) (by decide) (by decide) ?_
    refine am_cav 15 (by decide) rfl (t_push22 (n := 0) (by simp [am_u]; rfl) (by decide)) (by decide) (by decide) (by decide) ?_
    refine am_nee 12 (by decide) rfl (Or.inl rfl) ?_
    exact am_end 12 (by decide) rfl trivial (by decide) (by decide) ⟨rfl, rfl⟩
theorem c_T.Fr {I A I' A' : Nat → Nat → Int32} (h : c_T tx n I A) (hf : am_Fr c_sc I A I' A') : c_T tx n I' A' := by
  refine ⟨by rw [(hf 1 (by decide)).1]; exact h.1, h.2.1, by rw [(hf 2 (by decide)).2]; exact h.2.2.1, h.2.2.2⟩
/-- a call in a loop, with what it leaves alone -/
theorem c_M.fr {α : Type} {cs : List Nat} {d M : Nat} {as : List Value} {I A : Nat → Nat → Int32} {R : α → Option Value → (Nat → Nat → Int32) → (Nat → Nat → Int32) → Prop} {r : Except aF α} (h : c_M cs d M as g I A J X R r) : c_M cs d M as g I A J X (fun a v I' A' => R a v I' A' ∧ am_Fr cs I A I' A') r := by
  cases r with
  | error q => exact h
  | ok a =>
    obtain ⟨I', A', v, h1, h2, h3⟩ := h
    exact ⟨I', A', v, ⟨h1, h2⟩, h2, h3⟩
theorem k_loop (hn : n ≤ 600) : ∀ (f i : Nat) (z : aW) (I A : Nat → Nat → Int32), i + f = 600 → c_T tx n I A → c_S z I A → s_Iv tx n z → c_D c_sc 46 13 g J X I A (2, [(1, .int (nI i)), (0, .ref 19)], [], am_H g I A J X) c_Sv (match s_loop tx n f z with
    | .error e => .error e
    | .ok z => s_fin z)
  | 0, i, z, I, A, hi, hT, hz, hv => by
    have hi' : i = 600 := by omega
    subst hi'
    unfold s_loop
    refine c_D.yea 9 (by omega) rfl (nI_le (a := 600) (by omega) (by decide)) ?_
    have hw : 1 ≤ z.2.2.1.length := by
      have := hv.2.1
      revert this
      cases z.2.2.1 with
      | nil => exact fun z => z.elim
      | cons a b => intro _; simp
    refine c_D.call (n := 9) (by omega) rfl rfl (by omega) (k_fin hz hw) (fun q h => h) (fun b h I1 A1 v hR => ?_)
    refine c_D.eq h ?_
    obtain ⟨rfl, hR⟩ := hR
    exact c_D.ret 9 (by omega) rfl trivial ⟨rfl, hR⟩
  | f + 1, i, z, I, A, hi, hT, hz, hv => by
    obtain ⟨p, l, ws, bs, m, tk⟩ := z
    obtain ⟨h1, h2, h3, h4, h5, h6, h7, h8, h9, ht, h11, h12⟩ := id hz
    unfold s_loop
    refine c_D.nay 9 (by omega) rfl (nI_ge (b := 600) (by omega) (by decide)) ?_
    by_cases cp : p < n
    · dsimp only
      rw [if_pos cp]
      refine c_D.nay 9 (by omega) rfl (by rw [h1, hT.1]; exact nI_ge cp (by omega)) ?_
      have again : ∀ (z' : aW) (I1 A1 : Nat → Nat → Int32), am_Fr c_sc I A I1 A1 → c_S z' I1 A1 → s_iter tx n (p, l, ws, bs, m, tk) = .ok z' → c_D c_sc 46 13 g J X I1 A1 (2, [(1, .int (nI (i + 1))), (0, .ref 19)], [], am_H g I1 A1 J X) c_Sv (match s_loop tx n f z' with
          | .error e => .error e
          | .ok z => s_fin z) := fun z' I1 A1 k1 k2 k3 => k_loop hn f (i + 1) z' I1 A1 (by omega) (hT.Fr k1) k2 (s_iter_Iv hv cp hn k3).1
      unfold s_iter at again ⊢
      dsimp only at again ⊢
      cases l with
      | true =>
        rw [if_pos rfl] at again ⊢
        dsimp only at again ⊢
        rw [if_pos rfl] at again ⊢
        refine c_D.yea 9 (by omega) rfl (by rw [h2]; decide) ?_
        refine c_D.nay 9 (by omega) rfl (by rw [h2]; decide) ?_
        refine c_D.call (n := 9) (by omega) rfl rfl (by omega) (k_next hT hz cp).m.fr (fun q h => by rw [h]) (fun b h I1 A1 v hR => ?_)
        obtain ⟨⟨rfl, hR⟩, hF⟩ := hR
        rw [h]
        refine c_D.pla 2 (by omega) rfl ?_
        rw [nI_1]
        exact again b I1 A1 hF hR h
      | false =>
        rw [if_neg (by decide)] at again ⊢
        refine c_D.nay 9 (by omega) rfl (by rw [h2]; decide) ?_
        refine c_D.call (n := 9) (by omega) rfl rfl (by omega) (k_line hT hz hv.2.1 (by omega)).m.fr (fun q h => by rw [h]) (fun b h I1 A1 v hR => ?_)
        obtain ⟨⟨rfl, hR⟩, hF⟩ := hR
        obtain ⟨b1, b2⟩ := s_line_Iv hv rfl cp hn h
        obtain ⟨p', l', ws', bs', m', tk'⟩ := b
        have hl' := hR.2.1
        rw [h] at again ⊢
        dsimp only at again b2 ⊢
        cases l' with
        | true =>
          rw [if_pos rfl] at again ⊢
          refine c_D.nay 9 (by omega) rfl (by rw [hl']; decide) ?_
          refine c_D.call (n := 9) (by omega) rfl rfl (by omega) (k_next (hT.Fr hF) hR (by rcases b2 with ⟨z, _⟩ | ⟨_, _, z⟩; cases z; exact z)).m.fr (fun q h => by rw [h]) (fun b h I2 A2 v hR2 => ?_)
          obtain ⟨⟨rfl, hR2⟩, hF2⟩ := hR2
          rw [h]
          refine c_D.pla 2 (by omega) rfl ?_
          rw [nI_1]
          exact again b I2 A2 (hF.trans hF2) hR2 h
        | false =>
          rw [if_neg (by decide)] at again ⊢
          refine c_D.yea 9 (by omega) rfl (by rw [hl']; rfl) ?_
          refine c_D.pla 2 (by omega) rfl ?_
          rw [nI_1]
          exact again _ I1 A1 hF hR rfl
    · dsimp only
      rw [if_neg cp]
      refine c_D.yea 9 (by omega) rfl (by rw [h1, hT.1]; exact nI_le (by omega) (by omega)) ?_
      have hw : 1 ≤ ws.length := by
        have := hv.2.1
        dsimp only at this
        revert this
        cases ws with
        | nil => exact fun z => z.elim
        | cons a b => intro _; simp
      refine c_D.call (n := 9) (by omega) rfl rfl (by omega) (k_fin hz hw) (fun q h => h) (fun b h I1 A1 v hR => ?_)
      refine c_D.eq h ?_
      obtain ⟨rfl, hR⟩ := hR
      exact c_D.ret 9 (by omega) rfl trivial ⟨rfl, hR⟩
theorem s_Iv0 : s_Iv tx n (0, false, [(0, 0)], [], 0, fun _ => (0, 0, 0, 0)) := ⟨⟨Nat.zero_le _, by decide, fun k hk => absurd hk (Nat.not_lt_zero _), by decide, fun k hk => by
  have : k = 0 := by dsimp only at hk; omega
  subst this
  decide, fun k hk => absurd hk (Nat.not_lt_zero _), Nat.le_refl _⟩, rfl, by decide, fun _ k hk => by dsimp only at hk; omega⟩
theorem k_tkA (hn : n ≤ 600) {I A : Nat → Nat → Int32} (hT : c_T tx n I A) (hz : c_S (0, false, [(0, 0)], [], 0, fun _ => (0, 0, 0, 0)) I A) : c_M c_sc 13 46 [.ref 19] g I A J X c_Sv (s_scan tx n) := by
  refine c_D.met rfl rfl ?_
  refine c_D.pla 2 (by omega) rfl ?_
  exact k_loop hn 600 0 _ I A (by omega) hT hz s_Iv0
end SCA
