/-! THE REFERENCE'S STATEMENTS: parse() -/
/-- the whole is read: the tree hangs under node 0 -/
def m_Pa (T : Nat) (tk : Nat → aT) (r : aG) : mP := fun v I' A' J' => match r with
  | .ok (_, c, _) => v = some (.int 1) ∧ ∃ p, m_Y T tk p (1 + b_sz c) I' A' J' ∧ n_T (m_st A') false 1 (1 + b_sz c) 0 9 c ∧ m_st A' 6 0 = -1 ∧ m_st A' 7 0 = -1
  | .error q => v = some (.int 0) ∧ I' 29 3 = q.1 ∧ I' 29 4 = nI q.2
section MWH
variable {g : List aK} {X : Nat × (Nat → Int32)} {T : Nat} {tk : Nat → aT} {P : mP}
theorem y_blk1 (hT : T ≤ 120) (hK : d_K T tk) (hW : d_W (d_mk T tk) T) (hIn : ∀ p, d_mk T tk p = 7 → d_mk T tk (p + 1) ≠ 8) (hB : ∀ k, k < T → d_bal (d_mk T tk) k ≤ 8) {r : Nat} (hS : ∀ r', r = r' + 1 → y_Blk g X T tk P r') : y_Blk g X T tk P r := by
  have hst := d_st_Z (pl := d_pc tk) hW hIn r
  intro b lo eb o h kk i
  induction i with
  | zero =>
    intro p0 p m0 m c w I A J hblo heb hi hY hN hlm hm hm0 hz hc8 hbal h7 ho hup hE hk
    have := hz.2.1
    omega
  | succ i ih =>
    intro p0 p m0 m c w I A J hblo heb hi hY hN hlm hm hm0 hz hc8 hbal h7 ho hup hE hk
    have hp := hz.2.1
    have hz0 := hz.1
    have hz2 := hz.2.2.1
    have hz3 := hz.2.2.2.1
    unfold d_sl at hE hk
    refine m_D.nay 9 (by decide) rfl (by decide) ?_
    refine m_D.yea 9 (by decide) rfl (nI_lt (a := 0) (show 0 < b by omega) (by omega)) ?_
    by_cases c8 : d_mk T tk p = 8
    · rw [if_pos c8] at hE hk
      obtain ⟨k1, k2⟩ := hY.kind hK hp
      have hp1 : p + 1 < T := hW p (by rw [c8]; decide) (by rw [c8]; decide)
      have eb0 : (nI b).toNatClampNeg = b := nI_clamp (by omega)
      have hl := b_len_lt hlm hN.2
      have hlen : 0 < b_len c := by
        cases hb : b_len c with
        | zero => exact absurd c8 (hc8 (b_len0 hb))
        | succ n => omega
      refine m_D.yea 9 (by decide) rfl (by decide) ?_
      refine m_D.yea 9 (by decide) rfl (by decide) ?_
      refine m_D.nee 9 (by decide) rfl k2 ?_
      refine m_D.nay 9 (by decide) rfl (by rw [k1]; exact fun z => z ((s_kd_k (by decide)).mpr c8)) ?_
      refine m_D.nay 9 (by decide) rfl (nI_ge (a := 0) (show 0 < b by omega) (by omega)) ?_
      refine m_D.nee 9 (by decide) rfl (nI_in (show b < 400 by omega) (by decide)) ?_
      refine m_D.nay 9 (by decide) rfl (by rw [eb0, show A 41 b = nI (b_len c) from hN.1.2.2.1]; exact nI_ge (a := 0) hlen (by omega)) ?_
      refine m_D.nee 12 (by decide) rfl (nI_in (show b < 400 by omega) (by decide)) ?_
      rw [show I 29 31 + 1 = nI (p + 1) from by rw [hY.1, nI_1], eb0, show A 45 b = nI o from h7]
      refine m_D.heap (m_Fr.put (f := 31) (v := nI (p + 1)) (by decide)) ?_
      refine m_D.cav (n := 9) (by decide) rfl (y_bo (by omega) (hup.up (by omega))) (by decide) m_Fr.refl ?_
      refine m_D.yea 9 (by decide) rfl (by decide) ?_
      refine m_D.pla 1 (by decide) rfl ?_
      refine m_D.sub [1, 0, 2, 4] rfl ?_
      exact hk (c, p + 1) rfl _ _ _ ⟨rfl, m, hY.at, hN, rfl, Nat.le_refl _, rfl, rfl, fun _ _ _ _ => rfl⟩
    · rw [if_neg c8] at hE hk
      refine y_st1 hT hK hW hIn hB hS hblo heb hY hN hlm (by omega) hp (by omega) (fun z => absurd z c8) (fun q hq => hE q (by rw [hq])) (fun a ha w' I' A' J' hR => ?_)
      obtain ⟨c2, p2⟩ := a
      obtain ⟨z1, z2, z3, z4⟩ := d_s1_Z hW hIn hst hz ha
      obtain ⟨-, m', s2, s3, s4, s5, s6, s6', s7⟩ := hR
      refine ih p0 p2 m0 m' c2 w' I' A' J' hblo heb (by omega) s2 s3 (by omega) (by omega) hm0 z1 (fun z => absurd z z3) hbal (s6'.trans h7) ho (r_uq.frame (s7 7 o (by omega) (by omega)) (fun j hj => ⟨s7 0 j (by omega) (by omega), s7 7 j (by omega) (by omega)⟩) hup) (fun q hq => hE q (by rw [ha]; exact hq)) (fun a ha2 I9 A9 J9 hR9 => hk a (by rw [ha]; exact ha2) I9 A9 J9 (hR9.seq s4 s5 s6 s6' s7))
theorem y_blk (hT : T ≤ 120) (hK : d_K T tk) (hW : d_W (d_mk T tk) T) (hIn : ∀ p, d_mk T tk p = 7 → d_mk T tk (p + 1) ≠ 8) (hB : ∀ k, k < T → d_bal (d_mk T tk) k ≤ 8) : ∀ r, y_Blk g X T tk P r
  | 0 => y_blk1 hT hK hW hIn hB (fun r' z => by omega)
  | r + 1 => y_blk1 hT hK hW hIn hB (fun r' z => by
    have : r' = r := by omega
    subst this
    exact y_blk hT hK hW hIn hB r')
theorem y_topl (hT : T ≤ 120) (hK : d_K T tk) (hW : d_W (d_mk T tk) T) (hIn : ∀ p, d_mk T tk p = 7 → d_mk T tk (p + 1) ≠ 8) (hB : ∀ k, k < T → d_bal (d_mk T tk) k ≤ 8) : ∀ (i : Nat) (c : aB) (p m : Nat) (w : Int32) (I A : Nat → Nat → Int32) (J : Nat → Nat → Int64), 120 ≤ i + p → m_Y T tk p m I A J → n_T (m_st A) false 1 m 0 9 c → m = 1 + b_sz c → m_st A 6 0 = -1 → m_st A 7 0 = -1 → d_Zs (d_mk T tk) T 0 c p → y_D g X (m_Pa T tk (match d_sl (d_mk T tk) (d_pc tk) (d_st (d_mk T tk) (d_pc tk) 8 8) 9 i c p with
    | .error x => .error x
    | .ok (c, p2) => .ok (9 + 32 * d_bt c 0, c, p2))) 22 (y_lq 0 0 w) I A J
  | 0, c, p, m, w, I, A, J, hi, hY, hN, hm, h6, h7, hz => by
    have := hz.2.1
    omega
  | i + 1, c, p, m, w, I, A, J, hi, hY, hN, hm, h6, h7, hz => by
    have hst := d_st_Z (pl := d_pc tk) hW hIn 8
    have hp := hz.2.1
    have hz0 := hz.1
    have hz2 := hz.2.2.1
    have hz3 := hz.2.2.2.1
    have hz9 : d_bal (d_mk T tk) 0 = 0 := rfl
    obtain ⟨k1, k2⟩ := hY.kind hK hp
    unfold d_sl
    refine m_D.nay 9 (by decide) rfl (by decide) ?_
    refine m_D.nay 9 (by decide) rfl (by decide) ?_
    refine m_D.nee 9 (by decide) rfl k2 ?_
    by_cases c9 : d_mk T tk p = 9
    · rw [if_pos c9]
      refine m_D.yea 9 (by decide) rfl (by rw [k1]; exact (s_kd_k (by decide)).mpr c9) ?_
      subst hm
      exact m_D.ret 9 (by decide) rfl (Or.inr rfl) m_Fr.refl ⟨rfl, p, hY, hN, h6, h7⟩
    · rw [if_neg c9]
      refine m_D.nay 9 (by decide) rfl (by rw [k1]; exact fun z => c9 ((s_kd_k (by decide)).mp z)) ?_
      refine y_st1 (r := 8) hT hK hW hIn hB (fun r' z => y_blk hT hK hW hIn hB r') (show 0 < 1 by decide) (by decide) hY hN (by omega) (by omega) hp (by omega) (fun _ => rfl) (fun q hq => ?_) (fun a ha w' I' A' J' hR => ?_)
      · rw [hq]
        exact fun I' A' J' h3 h4 => ⟨rfl, h3, h4⟩
      · obtain ⟨c2, p2⟩ := a
        obtain ⟨z1, z2, z3, z4⟩ := d_s1_Z hW hIn hst hz ha
        obtain ⟨-, m', s2, s3, s4, s5, s6, s6', s7⟩ := hR
        rw [ha]
        exact y_topl hT hK hW hIn hB i c2 p2 m' w' I' A' J' (by omega) s2 s3 (by omega) (s6.trans h6) (s6'.trans h7) z1
theorem y_parse (hT : T ≤ 120) (hK : d_K T tk) (hW : d_W (d_mk T tk) T) (hIn : ∀ p, d_mk T tk p = 7 → d_mk T tk (p + 1) ≠ 8) (hB : ∀ k, k < T → d_bal (d_mk T tk) k ≤ 8) (h0 : 0 < T) {I A : Nat → Nat → Int32} {J : Nat → Nat → Int64} (hTk : m_Tk I A J T tk) : m_M m_fp m_cp 12 173 [.ref 29] g I A J X (m_Pa T tk (d_st (d_mk T tk) (d_pc tk) 9 9 0)) := by
  have hY0 : m_Y T tk 0 0 (am_u (am_u I 29 29 0) 29 31 0) A J := by
    refine ⟨am_uk, ?_, ⟨?_, hTk.2.1, hTk.2.2.1, by simpa [m_K, am_u] using hTk.2.2.2⟩, fun k hk => by omega⟩
    · simp [am_u]; rfl
    · simpa [am_u] using hTk.1
  have hY := hY0.mk (k := 9) (t := 0) h0
  have hWn : n_W false (m_st A) 0 (m_st (m_addA A 0 9 (nI 0))) 9 := by
    rw [m_addA_st]
    exact n_add_W rfl (fun _ => rfl)
  have hz : d_Zs (d_mk T tk) T 0 b_0 0 := ⟨Nat.le_refl _, h0, rfl, by simp only [b_sz]; omega, by unfold b_sk; rfl⟩
  refine m_D.met rfl rfl ?_
  refine m_D.cav (n := 12) (by decide) rfl (y_make (t := nI 0) hY0.2.1 (by decide)) (by decide) (((m_Fr.put (by decide)).trans (m_Fr.put (by decide))).trans m_addA_Fr) ?_
  refine m_D.pla 5 (by decide) rfl ?_
  refine m_D.sub [2, 1, 0, 3] rfl ?_
  have := y_topl (g := g) (X := X) hT hK hW hIn hB 120 b_0 0 1 0 _ _ _ (by omega) hY (hWn.2.1 1) (by simp [b_sz]) hWn.2.2 ?_ hz
  · unfold d_st
    exact this
  · rw [m_addA_st]
    simp [n_add, am_u]
end MWH
