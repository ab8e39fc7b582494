/-! THE REFERENCE READS -/
def m_fr : List Nat := [0, 3, 4, 6, 11, 14, 15, 16, 17, 19, 29, 30, 31, 35, 37, 39]
def m_cr : List Nat := [31, 32, 33, 34, 36, 37, 38, 39, 40, 41, 42, 43, 44, 45, 46, 47, 48, 49, 50, 51, 52, 53, 54, 55]
section MRD
variable {g : List aK} {J : Nat → Nat → Int64} {X : Nat × (Nat → Int32)} {I A : Nat → Nat → Int32} {tx : Nat → Int32} {n : Nat}
/-- a call that goes on with what it came to -/
theorem m_D.cal {fs cs fs' cs' : List Nat} {M d n' d' M' nx : Nat} {as' : List Value} {ls : List (Nat × Value)} {sk : List Value} {s0 : aS} {P P' : mP} (hfs : ∀ x ∈ fs', x ∈ fs) (hcs : ∀ x ∈ cs', x ∈ cs) (h1d : 1 ≤ d) (hr : am_run n' M s0 = am_ca M' as' (nx, ls, sk, am_H g I A J X)) (hd : d' + 1 ≤ d) (hcon : m_M fs' cs' d' M' as' g I A J X P') (k : ∀ v I1 A1 J1, P' v I1 A1 J1 → m_Fr fs' cs' I A J I1 A1 J1 → m_D fs cs M d g X I1 A1 J1 (nx - 3 + 3, ls, (match v with
    | some v => v :: sk
    | none => sk), am_H g I1 A1 J1 X) P) : m_D fs cs M d g X I A J s0 P := by
  obtain ⟨I1, A1, J1, v, h1, h2, h3⟩ := hcon
  have hk := k v I1 A1 J1 h1 h2
  cases v with
  | none => exact m_D.can h1d hr h3 hd (h2.mono hfs hcs) hk
  | some v => exact m_D.cav h1d hr h3 hd (h2.mono hfs hcs) hk
theorem y_read (hn : n ≤ 600) (h2 : I 29 2 = nI n) (htx : ∀ k, k < n → A 30 k = tx k) (hch : ∀ k, k < n → c_char (tx k) = true) (h36 : A 36 0 = 0) (h37 : A 37 0 = 0) : m_M m_fr m_cr 20 187 [.ref 29] g I A J X (fun v I' A' J' => match r_rd tx n with
    | .error q => v = some (.int 0) ∧ I' 29 0 = 1 ∧ I' 29 3 = q.1 ∧ I' 29 4 = nI q.2 ∧ I' 29 11 = nI 0 ∧ I' 29 30 = nI 0 ∧ I' 29 39 = nI 0
    | .ok (T, tk, e, c) => v = some (.int (nI T)) ∧ I' 29 0 = 0 ∧ m_Tk I' A' J' T tk ∧ I' 29 30 = nI (b_sz c + 1) ∧ r_or (m_st A') (A' 47) (b_sz c + 1) 0 ((e, b_len c) :: b_pre c) ∧ m_Wr (w_m (d_mk T tk) (w_tt tx tk) c 1 0) I' A') := by
  -- where it is refused
  have no : ∀ {P : mP} (I1 A1 : Nat → Nat → Int32) (J1 : Nat → Nat → Int64) (q : aF), I1 29 3 = q.1 → I1 29 4 = nI q.2 → (∀ I', I' 29 0 = 1 → I' 29 3 = q.1 → I' 29 4 = nI q.2 → I' 29 11 = nI 0 → I' 29 30 = nI 0 → I' 29 39 = nI 0 → P (some (.int 0)) I' A1 J1) → m_D m_fr m_cr 187 20 g X I1 A1 J1 (28, [(0, .ref 29)], [], am_H g I1 A1 J1 X) P := by
    intro P I1 A1 J1 q q1 q2 k
    refine m_D.yea 9 (by decide) rfl rfl ?_
    refine m_D.nay 12 (by decide) rfl (by decide) ?_
    refine m_D.ret 15 (by decide) rfl trivial (I1 := am_u (am_u (am_u (am_u I1 29 0 1) 29 11 0) 29 30 0) 29 39 0) ((((m_Fr.put (by decide)).trans (m_Fr.put (by decide))).trans (m_Fr.put (by decide))).trans (m_Fr.put (by decide))) ?_
    exact k _ (by simp [am_u]) (by simpa [am_u] using q1) (by simpa [am_u] using q2) (by simp [am_u]; rfl) (by simp [am_u]; rfl) (by simp [am_u]; rfl)
  have hf0 : m_Fr m_fr m_cr I A J (am_u (am_u I 29 3 0) 29 4 (-1)) A J := (m_Fr.put (by decide)).trans (m_Fr.put (by decide))
  have htake := y_take (g := g) (X := X) (J := J) (I := am_u (am_u I 29 3 0) 29 4 (-1)) hn (by simpa [am_u] using h2) htx hch h36 h37 (by simp [m_K, am_u])
  refine m_D.met rfl rfl ?_
  refine m_D.pla 6 (by decide) rfl ?_
  refine m_D.heap hf0 ?_
  refine m_D.cal (n' := 9) (by decide) (by decide) (by decide) rfl (by decide) htake (fun v I1 A1 J1 hR hF1 => ?_)
  obtain ⟨hR, hT1⟩ := hR
  unfold r_rd
  cases hsc : s_scan tx n with
  | error q =>
    rw [hsc] at hR
    obtain ⟨rfl, q1, q2⟩ := hR
    refine m_D.yea 9 (by decide) rfl rfl ?_
    exact no I1 A1 J1 q q1 q2 (fun I' k0 k1 k2 k3 k4 k5 => ⟨rfl, k0, k1, k2, k3, k4, k5⟩)
  | ok z =>
    rw [hsc] at hR
    have hFi := s_scan_Fi hn hsc
    obtain ⟨p, l, ws, bs, T, tk⟩ := z
    obtain ⟨rfl, hS⟩ := hR
    dsimp only at hFi ⊢
    have hTk : m_Tk I1 A1 J1 T tk := hS.2.2.2.2.2.2.2.2
    refine m_D.nay 9 (by decide) rfl (by decide) ?_
    refine m_D.cal (n' := 9) (by decide) (by decide) (by decide) rfl (by decide) (y_parse hFi.T0.2 hFi.dK hFi.dW hFi.dIn hFi.bal hFi.T0.1 hTk) (fun v I2 A2 J2 hP hF2 => ?_)
    cases hst : d_st (d_mk T tk) (d_pc tk) 9 9 0 with
    | error q =>
      rw [hst] at hP
      obtain ⟨rfl, q1, q2⟩ := hP
      refine m_D.yea 9 (by decide) rfl rfl ?_
      exact no I2 A2 J2 q q1 q2 (fun I' k0 k1 k2 k3 k4 k5 => ⟨rfl, k0, k1, k2, k3, k4, k5⟩)
    | ok a =>
      obtain ⟨e, c, p'⟩ := a
      rw [hst] at hP
      obtain ⟨rfl, p2, hY, hN, h6, h7⟩ := hP
      obtain ⟨s1, s2, s3, s4, s5, s6⟩ := hFi.good hn hst
      have hm : 1 + b_sz c ≤ 300 := by omega
      have hTk2 : m_Tk I2 A2 J2 T tk := hY.2.2.1
      have hT2 : m_T tx n I2 A2 := ⟨by rw [hF2.2.1 6 (by decide)]; exact hT1.1, hn, fun k hk => by rw [hF2.2.2.1 31 (by decide)]; exact hT1.2.2.1 k hk, hT1.2.2.2⟩
      refine m_D.nay 9 (by decide) rfl (by decide) ?_
      refine m_D.nay 9 (by decide) rfl (by decide) ?_
      refine m_D.yea 12 (by decide) rfl (by decide) ?_
      have hf3 : m_Fr m_fr m_cr I2 A2 J2 (am_u I2 29 0 0) A2 J2 := m_Fr.put (by decide)
      refine m_D.heap hf3 ?_
      obtain ⟨A4, t1, t2, t3, t4⟩ := y_count (g := g) (X := X) (J := J2) (I := am_u I2 29 0 0) (mk := d_mk T tk) (T := T) hm rfl hN h6 h7 s1 (fun z => by rw [am_un (by decide), hTk2.1, s5 z]; rfl)
      have hf4 : m_Fr m_fr m_cr (am_u I2 29 0 0) A2 J2 (am_u (am_u I2 29 0 0) 29 30 (nI (1 + b_sz c))) A4 J2 := by
        refine ⟨fun x hx => am_uo hx, fun f hf => am_un (fun z => hf (z.2 ▸ (by decide))), fun x hx => t1 x (fun z => hx (z ▸ (by decide))) (fun z => hx (z ▸ (by decide))), fun x hx => rfl, fun x hx => by rcases hx with z | z <;> (subst z; rw [t1 _ (by decide) (by decide)])⟩
      refine m_D.can (n := 9) (by decide) rfl t4 (by decide) hf4 ?_
      have hVw : m_Vw tx n T tk (m_st A4) (1 + b_sz c) (am_u (am_u I2 29 0 0) 29 30 (nI (1 + b_sz c))) A4 J2 := by
        refine ⟨⟨by simpa [am_u] using hT2.1, hn, fun k hk => by rw [t1 31 (by decide) (by decide)]; exact hT2.2.2.1 k hk, hT2.2.2.2⟩, ⟨by simpa [am_u] using hTk2.1, hTk2.2.1, fun k hk => ?_, by simpa [m_K, am_u] using hTk2.2.2.2⟩, hm, fun f _ => rfl⟩
        rw [t1 32 (by decide) (by decide), t1 33 (by decide) (by decide), t1 34 (by decide) (by decide)]
        exact hTk2.2.2.1 k hk
      have h7' : m_st A4 7 0 = -1 := by
        rw [show m_st A4 7 = m_st A2 7 from t1 45 (by decide) (by decide)]
        exact h7
      have h0' : m_st A4 0 0 = nI 9 := by
        have := t2.1.1
        rw [show (9 + 32 * d_bt c 0) % 32 = 9 from by omega] at this
        exact this
      refine m_D.wr (n' := 9) (by decide) (by decide) (by decide) rfl (by decide) (y_write hFi.wV hFi.wU s1 s2 (by omega) (Nat.le_refl _) (by omega) t2.2 h7' h0' hVw (by omega)) (fun I5 A5 hw5 hf5 => ?_)
      have hV5 := hVw.frame hf5 rfl
      rw [List.nil_append] at hw5
      refine m_D.ret 9 (by decide) rfl trivial m_Fr.refl ?_
      rw [hV5.2.1.1, s4]
      refine ⟨rfl, ?_, hV5.2.1, ?_, ?_, hw5⟩
      · rw [hf5.2.1 0 (by decide)]; simp [am_u]
      · rw [hf5.2.1 30 (by decide), am_uk, Nat.add_comm]
      · rw [hf5.2.2.1 47 (by decide), Nat.add_comm (b_sz c) 1]
        exact r_or.ext8 (fun f hf => hV5.2.2.2 f hf) t3
end MRD
