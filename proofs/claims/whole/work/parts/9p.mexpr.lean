/-! THE REFERENCE'S PARSER: an expression -/
section MEX
variable {g : List aK} {X : Nat × (Nat → Int32)} {T b : Nat} {tk : Nat → aT}
theorem y_step (hK : d_K T tk) (hW : d_W (d_mk T tk) T) (hb : b + 120 ≤ 380) {P : mP} {z : Nat × xX} {I A : Nat → Nat → Int32} {J : Nat → Nat → Int64} (hz : z.1 ≤ 1) (hX : m_X T tk z.2 I A J) (hJ : x_JJ T b z) (hok : ∀ z1 I1 A1 J1, x_step (d_mk T tk) (d_pc tk) z = .ok z1 → m_X T tk z1.2 I1 A1 J1 → x_JJ T b z1 → m_D m_fp m_cp 165 7 g X I1 A1 J1 (12, [(1, .int (nI z1.1)), (0, .ref 29)], [], am_H g I1 A1 J1 X) P) (her : ∀ q I1 A1 J1, x_step (d_mk T tk) (d_pc tk) z = .error q → I1 29 3 = q.1 → I1 29 4 = nI q.2 → m_D m_fp m_cp 165 7 g X I1 A1 J1 (12, [(1, .int (-1)), (0, .ref 29)], [], am_H g I1 A1 J1 X) P) : m_D m_fp m_cp 165 7 g X I A J (12, [(1, .int (nI z.1)), (0, .ref 29)], [], am_H g I A J X) P := by
  obtain ⟨st, p, K, V, m, S⟩ := z
  dsimp only at hz hX
  have h01 : st = 0 ∨ st = 1 := by omega
  rcases h01 with r | r
  · subst r
    dsimp only
    have hJ' : x_J T b 1 (p, K, V, m, S) := hJ.2
    refine m_D.yea 9 (by decide) rfl (by decide) ?_
    refine m_D.yea 9 (by decide) rfl (by decide) ?_
    refine m_D.call (n := 9) (by decide) rfl (by decide) (y_beh hK hW hX hJ' hb) (fun vv I5 A5 J5 hR hF => ?_)
    cases hr : x_beh (d_mk T tk) (d_pc tk) (p, K, V, m, S) with
    | error q =>
      rw [hr] at hR
      obtain ⟨rfl, h3, h4⟩ := hR
      refine m_D.pla 2 (by decide) rfl ?_
      exact her q I5 A5 J5 (by rw [x_st0]; exact hr) h3 h4
    | ok z1 =>
      obtain ⟨st1, X1⟩ := z1
      rw [hr] at hR
      obtain ⟨rfl, hR⟩ := hR
      refine m_D.pla 2 (by decide) rfl ?_
      exact hok (st1, X1) I5 A5 J5 (by rw [x_st0]; exact hr) hR (x_beh_J hW hJ' hr)
  · subst r
    dsimp only
    have hJ' : x_J T b 0 (p, K, V, m, S) := hJ.2
    refine m_D.nay 9 (by decide) rfl (by decide) ?_
    refine m_D.nay 9 (by decide) rfl (by decide) ?_
    refine m_D.nay 9 (by decide) rfl (by decide) ?_
    refine m_D.call (n := 9) (by decide) rfl (by decide) (y_part hK hX hJ' hb) (fun vv I5 A5 J5 hR hF => ?_)
    cases hr : x_part (d_mk T tk) (d_pc tk) (p, K, V, m, S) with
    | error q =>
      rw [hr] at hR
      obtain ⟨rfl, h3, h4⟩ := hR
      refine m_D.pla 3 (by decide) rfl ?_
      exact her q I5 A5 J5 (by rw [x_st1]; exact hr) h3 h4
    | ok z1 =>
      obtain ⟨st1, X1⟩ := z1
      rw [hr] at hR
      obtain ⟨rfl, hR⟩ := hR
      refine m_D.pla 3 (by decide) rfl ?_
      exact hok (st1, X1) I5 A5 J5 (by rw [x_st1]; exact hr) hR (x_part_J hW hJ' hr)
theorem y_bad {I A : Nat → Nat → Int32} {J : Nat → Nat → Int64} {q : aF} (h3 : I 29 3 = q.1) (h4 : I 29 4 = nI q.2) : m_D m_fp m_cp 165 7 g X I A J (12, [(1, .int (-1)), (0, .ref 29)], [], am_H g I A J X) (fun w I' A' J' => w = some (.int (-1)) ∧ I' 29 3 = q.1 ∧ I' 29 4 = nI q.2) := by
  refine m_D.nay 9 (by decide) rfl (by decide) ?_
  refine m_D.yea 9 (by decide) rfl (by decide) ?_
  refine m_D.yea 9 (by decide) rfl (by decide) ?_
  exact m_D.ret 9 (by decide) rfl trivial m_Fr.refl ⟨rfl, h3, h4⟩
theorem y_runE (hK : d_K T tk) (hW : d_W (d_mk T tk) T) (hb : b + 120 ≤ 380) {q : aF} : ∀ (n : Nat) (z : Nat × xX) (I A : Nat → Nat → Int32) (J : Nat → Nat → Int64), x_er (d_mk T tk) (d_pc tk) n z q → m_X T tk z.2 I A J → x_JJ T b z → m_D m_fp m_cp 165 7 g X I A J (12, [(1, .int (nI z.1)), (0, .ref 29)], [], am_H g I A J X) (fun w I' A' J' => w = some (.int (-1)) ∧ I' 29 3 = q.1 ∧ I' 29 4 = nI q.2)
  | 0, z, I, A, J, h, hX, hJ => by
    obtain ⟨h1, h2⟩ := h
    refine y_step hK hW hb h1 hX hJ (fun z1 I1 A1 J1 k1 _ _ => ?_) (fun q1 I1 A1 J1 k1 k2 k3 => ?_)
    · rw [h2] at k1; cases k1
    · rw [h2] at k1
      cases k1
      exact y_bad k2 k3
  | n + 1, z, I, A, J, h, hX, hJ => by
    obtain ⟨h1, z1, h2, h3⟩ := h
    refine y_step hK hW hb h1 hX hJ (fun z2 I1 A1 J1 k1 k2 k3 => ?_) (fun q1 I1 A1 J1 k1 k2 k3 => ?_)
    · rw [h2] at k1
      cases k1
      exact y_runE hK hW hb n z1 I1 A1 J1 h3 k2 k3
    · rw [h2] at k1; cases k1
theorem y_runO (hK : d_K T tk) (hW : d_W (d_mk T tk) T) (hb : b + 120 ≤ 380) {zf : xX} {p' v m' : Nat} {S' : aN} (hf : x_step (d_mk T tk) (d_pc tk) (0, zf) = .ok (2, p', [], [v], m', S')) : ∀ (n : Nat) (z : Nat × xX) (I A : Nat → Nat → Int32) (J : Nat → Nat → Int64), x_to (d_mk T tk) (d_pc tk) n z (0, zf) → m_X T tk z.2 I A J → x_JJ T b z → m_D m_fp m_cp 165 7 g X I A J (12, [(1, .int (nI z.1)), (0, .ref 29)], [], am_H g I A J X) (fun w I' A' J' => w = some (.int (nI v)) ∧ m_X T tk (p', [], [v], m', S') I' A' J' ∧ x_So T m' S')
  | 0, z, I, A, J, h, hX, hJ => by
    have hz : z = (0, zf) := h
    subst hz
    refine y_step hK hW hb (by simp) hX hJ (fun z1 I1 A1 J1 k1 k2 k3 => ?_) (fun q1 I1 A1 J1 k1 k2 k3 => ?_)
    · rw [hf] at k1
      cases k1
      dsimp only
      refine m_D.nay 9 (by decide) rfl (by decide) ?_
      refine m_D.yea 9 (by decide) rfl (by decide) ?_
      refine m_D.nay 9 (by decide) rfl (by decide) ?_
      refine m_D.nee 9 (by decide) rfl (nI_in (c := 0) (N := 16) (by decide) (by decide)) ?_
      refine m_D.ret 9 (by decide) rfl trivial m_Fr.refl ⟨?_, k2, k3.2.2.2.2.2.2.2⟩
      have := k2.2.2.2.2.1.1
      rw [← this]
      rfl
    · rw [hf] at k1; cases k1
  | n + 1, z, I, A, J, h, hX, hJ => by
    obtain ⟨h1, z1, h2, h3⟩ := h
    refine y_step hK hW hb h1 hX hJ (fun z2 I1 A1 J1 k1 k2 k3 => ?_) (fun q1 I1 A1 J1 k1 k2 k3 => ?_)
    · rw [h2] at k1
      cases k1
      exact y_runO hK hW hb hf n z1 I1 A1 J1 h3 k2 k3
    · rw [h2] at k1; cases k1
/-- what an expression comes to -/
def m_Re (T : Nat) (tk : Nat → aT) (m : Nat) (S : aN) (r : aG) : mP := fun v I' A' J' => match r with
  | .ok (e, c, p') => ∃ j m', v = some (.int (nI j)) ∧ I' 29 31 = nI p' ∧ I' 29 29 = nI m' ∧ m_Tk I' A' J' T tk ∧ x_So T m' (m_st A') ∧ n_V false S m (m_st A') m' j e c
  | .error q => v = some (.int (-1)) ∧ I' 29 3 = q.1 ∧ I' 29 4 = nI q.2
theorem y_expr (hT : T ≤ 120) (hK : d_K T tk) (hW : d_W (d_mk T tk) T) {I A : Nat → Nat → Int32} {J : Nat → Nat → Int64} {p m : Nat} (hTk : m_Tk I A J T tk) (h31 : I 29 31 = nI p) (h29 : I 29 29 = nI m) (hSo : x_So T m (m_st A)) (hp : p < T) (hm : m ≤ 2 * p + 3) : m_M m_fp m_cp 7 165 [.ref 29] g I A J X (m_Re T tk m (m_st A) (d_ex (d_mk T tk) (d_pc tk) 12 1 p)) := by
  have hX : m_X T tk (p, [], [], m, m_st A) (am_u (am_u I 29 35 0) 29 37 0) A J := by
    refine ⟨?_, by simp [am_u]; rfl, trivial, by simp [am_u]; rfl, trivial, ?_, rfl, ⟨?_, hTk.2.1, hTk.2.2.1, by simpa [m_K, am_u] using hTk.2.2.2⟩⟩
    · simpa [am_u] using h31
    · simpa [am_u] using h29
    · simpa [am_u] using hTk.1
  have hJ : x_JJ T (p + 3) (1, p, [], [], m, m_st A) := ⟨by simp, hp, by simp, rfl, fun _ h => by simp at h, fun _ h => by simp at h, by simp only [x_no]; omega, hSo⟩
  have hx := x_whole (pl := d_pc tk) hW hT (S := m_st A) hm hp
  refine m_D.met rfl rfl ?_
  refine m_D.pla 8 (by decide) rfl ?_
  refine m_D.heap ((m_Fr.put (f := 35) (v := 0) (by decide)).trans (m_Fr.put (f := 37) (v := 0) (by decide))) ?_
  cases hr : d_ex (d_mk T tk) (d_pc tk) 12 1 p with
  | error q =>
    rw [hr] at hx
    obtain ⟨n, hn⟩ := hx
    exact y_runE hK hW (by omega) n (1, p, [], [], m, m_st A) _ A J hn hX hJ
  | ok a =>
    obtain ⟨e, c, p'⟩ := a
    rw [hr] at hx
    obtain ⟨n, zf, v, m', S', h1, h2, h3⟩ := hx
    refine (y_runO hK hW (by omega) h2 n (1, p, [], [], m, m_st A) _ A J h1 hX hJ).mono ?_
    rintro w I' A' J' ⟨k1, k2, k3⟩ -
    obtain ⟨g31, g35, gk, g37, gVV, g29, gS, gT⟩ := k2
    rw [← gS] at k3 h3
    exact ⟨v, m', k1, g31, g29, gT, k3, h3⟩
/-- an expression as the part of a node -/
theorem y_exOf (hT : T ≤ 120) (hK : d_K T tk) (hW : d_W (d_mk T tk) T) {I A : Nat → Nat → Int32} {J : Nat → Nat → Int64} {p m n : Nat} (hTk : m_Tk I A J T tk) (h31 : I 29 31 = nI p) (h29 : I 29 29 = nI m) (hSo : x_So T m (m_st A)) (hp : p < T) (hm : m ≤ 2 * p + 3) (hn : n < m) : m_M m_fp m_cp 8 166 [.ref 29, .int (nI n)] g I A J X (fun v I' A' J' => match d_ex (d_mk T tk) (d_pc tk) 12 1 p with
    | .ok (e, c, p') => ∃ j m' S1, v = some (.int 1) ∧ I' 29 31 = nI p' ∧ I' 29 29 = nI m' ∧ m_Tk I' A' J' T tk ∧ x_So T m' (m_st A') ∧ n_V false (m_st A) m S1 m' j e c ∧ m_st A' = x_app S1 n j
    | .error q => v = some (.int 0) ∧ I' 29 3 = q.1 ∧ I' 29 4 = nI q.2) := by
  refine m_D.met rfl rfl ?_
  refine m_D.call (n := 9) (by decide) rfl (by decide) (y_expr hT hK hW hTk h31 h29 hSo hp hm) (fun vv I5 A5 J5 hR hF => ?_)
  cases hr : d_ex (d_mk T tk) (d_pc tk) 12 1 p with
  | error q =>
    rw [hr] at hR
    obtain ⟨rfl, h3, h4⟩ := hR
    refine m_D.nay 9 (by decide) rfl (by decide) ?_
    exact m_D.ret 9 (by decide) rfl (Or.inl rfl) m_Fr.refl ⟨rfl, h3, h4⟩
  | ok a =>
    obtain ⟨e, c, p'⟩ := a
    rw [hr] at hR
    obtain ⟨j, m', rfl, k31, k29, kT, kSo, kV⟩ := hR
    have hq := d_ex_Q hW _ _ _ _ _ _ hr (by decide)
    have hq1 := hq.1.1
    have hq2 := hq.2.1
    have v1 := kV.1
    have v2 := kV.2.1
    have v3 := kV.2.2.1
    refine m_D.yea 9 (by decide) rfl (nI_pos' (by omega)) ?_
    obtain ⟨s1, s2⟩ := kSo n (by omega)
    obtain ⟨A3, a1, a2, a3, a4⟩ := y_app (g := g) (X := X) (I := I5) (A := A5) (J := J5) (j := n) (v := j) (by omega) (by omega) (by
      rcases s1 with z | ⟨i, i1, i2⟩
      · exact Or.inl z
      · exact Or.inr ⟨i, by omega, i2⟩)
    refine m_D.can (n := 9) (by decide) rfl a4 (by decide) a2 ?_
    refine m_D.ret 9 (by decide) rfl (Or.inr rfl) m_Fr.refl ⟨j, m', m_st A5, rfl, k31, k29, ⟨kT.1, kT.2.1, fun k hk => ?_, kT.2.2.2⟩, ?_, kV, a1⟩
    · rw [a2.2.2.1 32 (by decide), a2.2.2.1 33 (by decide), a2.2.2.1 34 (by decide)]
      exact kT.2.2.1 k hk
    · rw [a1]
      exact kSo.app v2
end MEX
