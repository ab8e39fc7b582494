/-! THE REFERENCE'S STATEMENTS: parse(), a block behind its head -/
abbrev y_lq (h : Nat) (s w : Int32) : List (Nat × Value) := [(1, .int (nI h)), (2, .int s), (3, .int w), (0, .ref 29)]
def y_Er (P : mP) (q : aF) : Prop := ∀ I' A' J', I' 29 3 = q.1 → I' 29 4 = nI q.2 → P (some (.int 0)) I' A' J'
section MPA
variable (g : List aK) (X : Nat × (Nat → Int32)) (T : Nat) (tk : Nat → aT) (P : mP)
/-- the loop of parse() -/
abbrev y_D (pc : Nat) (ls : List (Nat × Value)) (I A : Nat → Nat → Int32) (J : Nat → Nat → Int64) : Prop := m_D m_fp m_cp 173 12 g X I A J (pc, ls, [], am_H g I A J X) P
/-- statements of a block b of o, to its end -/
def y_Blk (r : Nat) : Prop := ∀ (b lo eb o h kk i p0 p m0 m : Nat) (c : aB) (w : Int32) (I A : Nat → Nat → Int32) (J : Nat → Nat → Int64), b < lo → eb % 32 = 9 → 120 ≤ i + p → m_Y T tk p m I A J → n_T (m_st A) false lo m b eb c → lo ≤ m → m = m0 + b_sz c → m0 ≤ 2 * p0 + 1 → d_Zs (d_mk T tk) T p0 c p → (c = b_0 → d_mk T tk p ≠ 8) → d_bal (d_mk T tk) p0 + r = 8 → m_st A 7 b = nI o → o < b → r_uq (m_st A) kk o h → (∀ q, d_sl (d_mk T tk) (d_pc tk) (d_st (d_mk T tk) (d_pc tk) r 8) 8 i c p = .error q → y_Er P q) → (∀ a, d_sl (d_mk T tk) (d_pc tk) (d_st (d_mk T tk) (d_pc tk) r 8) 8 i c p = .ok a → ∀ I' A' J', m_Bs T tk lo b eb m c (m_st A) (.ok a) (some (.int 1)) I' A' J' → y_D g X P 22 (y_lq h 1 (nI o)) I' A' J') → y_D g X P 22 (y_lq b 0 w) I A J
variable {g} {X} {T} {tk} {P}
theorem y_bk (hT : T ≤ 120) (hK : d_K T tk) (hW : d_W (d_mk T tk) T) (hIn : ∀ p, d_mk T tk p = 7 → d_mk T tk (p + 1) ≠ 8) (hB : ∀ k, k < T → d_bal (d_mk T tk) k ≤ 8) {r lo o eo h kk p m : Nat} {c : aB} {I A : Nat → Nat → Int32} {J : Nat → Nat → Int64} (hS : ∀ r', r = r' + 1 → y_Blk g X T tk P r') (hY : m_Y T tk p m I A J) (hN : n_T (m_st A) false lo m o eo c) (heo : eo % 32 < 11) (holo : o < lo) (hlm : lo ≤ m) (hm : m + 1 ≤ 2 * p) (hp : p < T) (hbal : d_bal (d_mk T tk) p + r = 8) (hup : r_uq (m_st A) kk o h) (hE : ∀ q, d_bk (d_mk T tk) (d_pc tk) (d_st (d_mk T tk) (d_pc tk) r 8) p = .error q → y_Er P q) (hk : ∀ e3 c3 p3, d_bk (d_mk T tk) (d_pc tk) (d_st (d_mk T tk) (d_pc tk) r 8) p = .ok (e3, c3, p3) → ∀ I' A' J', m_Bs T tk lo o eo m c (m_st A) (.ok (b_add c e3 c3, p3)) (some (.int 1)) I' A' J' → y_D g X P 22 (y_lq h 1 (nI o)) I' A' J') : y_D g X P 22 (y_lq h 2 (nI o)) I A J := by
  have hWn : n_W false (m_st A) m (m_st (m_addA A m 9 (nI p))) (9 + 32 * p) := by
    rw [m_addA_st]
    exact n_add_W (by rw [show (9 + 32 * p) % 32 = 9 from by omega]; rfl) (fun _ => by rw [show (9 + 32 * p) / 32 = p from by omega])
  obtain ⟨A2, a1, a2, a3, a4⟩ := (hY.mk (k := 9) hp).app (g := g) (X := X) (j := o) (v := m) (by omega) (by omega) (by omega)
  obtain ⟨hh, e2⟩ : ∃ hh, m_st A2 = n_lnk (m_st (m_addA A m 9 (nI p))) o m hh := ⟨_, a1⟩
  obtain ⟨l1, l2, l3, l4, l5, l6, l7⟩ := r_link (hh := hh) hN hlm (Nat.le_refl _) (by omega) (by omega) hWn
  rw [← e2] at l2 l3 l4 l5 l6 l7
  obtain ⟨k1, k2⟩ := a3.kind hK hp
  refine m_D.yea 9 (by decide) rfl (by decide) ?_
  refine m_D.nay 9 (by decide) rfl (by decide) ?_
  refine m_D.cav (n := 9) (by decide) rfl (by rw [hY.1]; exact y_make hY.2.1 (by omega)) (by decide) m_addA_Fr ?_
  refine m_D.can (n := 9) (by decide) rfl a4 (by decide) a2 ?_
  refine m_D.nee 9 (by decide) rfl k2 ?_
  unfold d_bk at hE hk
  by_cases c6 : d_mk T tk p = 6
  · rw [if_pos c6] at hE hk
    have hp1 := hW.lt c6 (by decide)
    have hY3 := a3.at (p' := p + 1)
    obtain ⟨k3, k4⟩ := hY3.kind hK hp1
    refine m_D.nay 9 (by decide) rfl (by rw [k1]; exact fun z => z ((s_kd_k (by decide)).mpr c6)) ?_
    refine m_D.nay 9 (by decide) rfl (by decide) ?_
    refine m_D.nay 9 (by decide) rfl (by decide) ?_
    rw [a3.1, nI_1]
    refine m_D.heap (m_Fr.put (f := 31) (v := nI (p + 1)) (by decide)) ?_
    refine m_D.nee 9 (by decide) rfl k4 ?_
    by_cases c7 : d_mk T tk (p + 1) = 7
    · rw [if_pos c7] at hE hk
      have hp2 : p + 1 + 1 < T := hW (p + 1) (by rw [c7]; decide) (by rw [c7]; decide)
      have hY4 := hY3.at (p' := p + 1 + 1)
      have hb2 : d_bal (d_mk T tk) (p + 1 + 1) = d_bal (d_mk T tk) p + 1 := by
        show d_bal (d_mk T tk) p + (if d_mk T tk p = 7 then 1 else if d_mk T tk p = 8 then -1 else 0) + (if d_mk T tk (p + 1) = 7 then 1 else if d_mk T tk (p + 1) = 8 then -1 else 0) = _
        rw [if_pos c7, if_neg (by rw [c6]; decide), if_neg (by rw [c6]; decide)]
        omega
      have hb3 := hB _ hp2
      refine m_D.nay 9 (by decide) rfl (by rw [k3]; exact fun z => z ((s_kd_k (by decide)).mpr c7)) ?_
      refine m_D.cav (n := 9) (by decide) rfl (y_pas1 hY3.1) (by decide) (m_Fr.put (by decide)) ?_
      refine m_D.nay 9 (by decide) rfl (by decide) ?_
      refine m_D.nay 9 (by decide) rfl (by decide) ?_
      refine m_D.yea 9 (by decide) rfl (by decide) ?_
      refine m_D.pla 1 (by decide) rfl ?_
      refine m_D.sub [1, 0, 5, 6] rfl ?_
      cases r with
      | zero => omega
      | succ r =>
        have hz : d_Zs (d_mk T tk) T (p + 1 + 1) b_0 (p + 1 + 1) := ⟨Nat.le_refl _, hp2, rfl, by simp only [b_sz]; omega, by unfold b_sk; rfl⟩
        refine hS r rfl m (m + 1) (9 + 32 * p) o h kk 120 (p + 1 + 1) (p + 1 + 1) (m + 1) (m + 1) b_0 (nI o) _ _ _ (Nat.lt_succ_self m) (by omega) (by omega) hY4 l2 (Nat.le_refl _) rfl (by omega) hz (fun _ => hIn _ c7) (by omega) l4 (by omega) (r_uq.frame l7 (fun i hi => ⟨l5 0 i (by omega) (by omega) (by omega), l5 7 i (by omega) (by omega) (by omega)⟩) hup) (fun q hq => hE q ?_) (fun a ha I' A' J' hR => ?_)
        · unfold d_st
          rw [hq]
        · obtain ⟨c3, p3⟩ := a
          refine hk (9 + 32 * d_bt c3 (p + 1 + 1)) c3 p3 (by unfold d_st; rw [ha]) I' A' J' ?_
          rw [e2] at hR
          exact r_fin hN hlm (Nat.le_refl _) (by omega) (by omega) hWn heo (hR.code (by omega) (by omega))
    · rw [if_neg c7] at hE hk
      refine m_D.yea 9 (by decide) rfl (by rw [k3]; exact fun z => c7 ((s_kd_k (by decide)).mp z)) ?_
      refine m_D.cav (n := 9) (by decide) rfl (y_pas0 hY3.2.2.1 hY3.1 hp1) (by decide) ((m_Fr.put (by decide)).trans (m_Fr.put (by decide))) ?_
      refine m_D.nay 9 (by decide) rfl (by decide) ?_
      refine m_D.nay 9 (by decide) rfl (by decide) ?_
      refine m_D.nay 9 (by decide) rfl (by decide) ?_
      refine m_D.ret 9 (by decide) rfl (Or.inl rfl) m_Fr.refl (hE _ rfl _ _ _ ?_ ?_)
      · simp [am_u]
      · simp [am_u]
  · rw [if_neg c6] at hE hk
    refine m_D.yea 9 (by decide) rfl (by rw [k1]; exact fun z => c6 ((s_kd_k (by decide)).mp z)) ?_
    refine m_D.yea 9 (by decide) rfl (by decide) ?_
    refine m_D.yea 9 (by decide) rfl (by decide) ?_
    rw [show am_u (am_u I 29 29 (nI (m + 1))) 29 31 (am_u I 29 29 (nI (m + 1)) 29 31) = am_u I 29 29 (nI (m + 1)) from am_ui rfl]
    refine m_D.call (n := 9) (by decide) rfl (by decide) (y_li hT hK hW (eb := 9 + 32 * p) (by omega) (Nat.lt_succ_self m) a3 l2 (Nat.le_refl _) (Nat.le_refl _) (by omega) hp) (fun vv I5 A5 J5 hR hF => ?_)
    cases hd : d_li (d_mk T tk) (d_pc tk) b_0 p with
    | error x =>
      rw [hd] at hR hE
      obtain ⟨rfl, h3, h4⟩ := hR
      refine m_D.yea 9 (by decide) rfl (by decide) ?_
      refine m_D.yea 9 (by decide) rfl (by decide) ?_
      refine m_D.nay 9 (by decide) rfl (by decide) ?_
      exact m_D.ret 9 (by decide) rfl (Or.inl rfl) m_Fr.refl (hE _ rfl _ _ _ h3 h4)
    | ok a =>
      obtain ⟨c3, p3⟩ := a
      rw [hd] at hR hk
      have hR' := hR
      obtain ⟨rfl, -⟩ := hR'
      refine m_D.yea 9 (by decide) rfl (by decide) ?_
      refine m_D.yea 9 (by decide) rfl (by decide) ?_
      refine m_D.yea 9 (by decide) rfl (by decide) ?_
      refine m_D.pla 1 (by decide) rfl ?_
      refine m_D.sub [1, 0, 5, 6] rfl ?_
      refine hk (9 + 32 * d_bt c3 p) c3 p3 rfl _ _ _ ?_
      rw [e2] at hR
      exact r_fin hN hlm (Nat.le_refl _) (by omega) (by omega) hWn heo (hR.code (by omega) (by omega))
end MPA
