/-! THE REFERENCE'S SCANNER: its loop -/
def m_ft : List Nat := [3, 4, 6, 11, 14, 15, 16, 17, 19]
def m_ct : List Nat := [31, 32, 33, 34, 36, 37, 38]
section MLP
variable {g : List aK} {X : Nat × (Nat → Int32)} {tx : Nat → Int32} {n : Nat}
theorem s_W.pos {ws : List (Nat × Nat)} (h : s_W ws) : 1 ≤ ws.length := by
  cases ws with
  | nil => exact h.elim
  | cons a b => simp
theorem y_loop (hn : n ≤ 600) : ∀ (f : Nat) (z : aW) (I A : Nat → Nat → Int32) (J : Nat → Nat → Int64), m_T tx n I A → m_S z I A J → s_Iv tx n z → (∀ b ∈ z.2.2.2.1, b < n) → n ≤ z.1 + f → m_D m_fs m_cs 147 6 g X I A J (58, [(1, .int (nI z.1)), (0, .ref 29)], [], am_H g I A J X) (m_Rb (match s_loop tx n f z with
    | .error e => .error e
    | .ok z => s_fin z))
  | 0, z, I, A, J, hT, hz, hv, hb, hf => by
    have hpn := hv.1.1
    have hp : z.1 = n := by omega
    unfold s_loop
    rw [hp]
    refine m_D.nay 9 (by decide) rfl (nI_pos (by omega)) ?_
    refine m_D.yea 9 (by decide) rfl (by rw [hT.1]; exact nI_le (by omega) (by omega)) ?_
    exact y_fin hT hz hv.2.1.pos hp
  | f + 1, z, I, A, J, hT, hz, hv, hb, hf => by
    have hpn := hv.1.1
    unfold s_loop
    refine m_D.nay 9 (by decide) rfl (nI_pos (by omega)) ?_
    by_cases cp : z.1 < n
    · rw [if_pos cp]
      refine m_D.nay 9 (by decide) rfl (by rw [hT.1]; exact nI_ge cp (by omega)) ?_
      have again : ∀ (z' : aW) (I1 A1 : Nat → Nat → Int32) (J1 : Nat → Nat → Int64), m_T tx n I1 A1 → m_S z' I1 A1 J1 → (∀ b ∈ z'.2.2.2.1, b < n) → s_iter tx n z = .ok z' → m_D m_fs m_cs 147 6 g X I1 A1 J1 (58, [(1, .int (nI z'.1)), (0, .ref 29)], [], am_H g I1 A1 J1 X) (m_Rb (match s_loop tx n f z' with
          | .error e => .error e
          | .ok z => s_fin z)) := fun z' I1 A1 J1 k1 k2 k3 k4 => by
        have := s_iter_Iv hv cp hn k4
        exact y_loop hn f z' I1 A1 J1 k1 k2 this.1 k3 (by omega)
      -- one step of goOn from a state within a line
      have nxt : ∀ (z1 : aW) (I1 A1 : Nat → Nat → Int32) (J1 : Nat → Nat → Int64) (r : Except aF aW), z1.2.1 = true → z1.1 < n → m_T tx n I1 A1 → m_S z1 I1 A1 J1 → (∀ b ∈ z1.2.2.2.1, b < n) → s_next tx n z1 = r → (∀ z', r = .ok z' → s_iter tx n z = .ok z') → (∀ q, r = .error q → s_iter tx n z = .error q) → m_D m_fs m_cs 147 6 g X I1 A1 J1 (70, [(1, .int (nI z1.1)), (0, .ref 29)], [], am_H g I1 A1 J1 X) (m_Rb (match s_iter tx n z with
          | .error e => .error e
          | .ok y => match s_loop tx n f y with
            | .error e => .error e
            | .ok z => s_fin z)) := fun z1 I1 A1 J1 r hl h1 k1 k2 k3 k4 k5 k6 => by
        obtain ⟨p, l, ws, bs, m, tk⟩ := z1
        dsimp only at hl h1 k3
        subst hl
        have hl' := k2.1
        refine m_D.yea 9 (by decide) rfl (by rw [hl']; rfl) ?_
        refine m_D.call (n := 9) (by decide) rfl (by decide) (y_next k1 k2 h1 k3) (fun v I2 A2 J2 hR hF => ?_)
        rw [k4] at hR
        cases r with
        | error q =>
          rw [k6 q rfl]
          obtain ⟨rfl, hR⟩ := hR
          refine m_D.pla 2 (by decide) rfl ?_
          refine m_D.yea 9 (by decide) rfl (by decide) ?_
          refine m_D.nay 9 (by decide) rfl (by decide) ?_
          exact m_D.ret 9 (by decide) rfl (Or.inl rfl) m_Fr.refl ⟨rfl, hR⟩
        | ok z' =>
          rw [k5 z' rfl]
          obtain ⟨rfl, hR⟩ := hR
          refine m_D.pla 2 (by decide) rfl ?_
          exact again z' I2 A2 J2 (k1.Fr hF) hR (s_next_bs h1 k3 k4) (k5 z' rfl)
      have gg : ∀ {r1 : Except aF aW}, s_iter tx n z = r1 → (m_D m_fs m_cs 147 6 g X I A J (70, [(1, .int (nI z.1)), (0, .ref 29)], [], am_H g I A J X) (m_Rb (match s_iter tx n z with
          | .error e => .error e
          | .ok y => match s_loop tx n f y with
            | .error e => .error e
            | .ok z => s_fin z))) → m_D m_fs m_cs 147 6 g X I A J (70, [(1, .int (nI z.1)), (0, .ref 29)], [], am_H g I A J X) (m_Rb (match (match s_iter tx n z with
          | .error e => Except.error e
          | .ok y => s_loop tx n f y : Except aF aW) with
          | .error e => .error e
          | .ok z => s_fin z)) := fun {r1} hr k => by
        revert k
        rw [hr]
        cases r1 with
        | error e => exact id
        | ok y => exact id
      refine gg rfl ?_
      obtain ⟨p, l, ws, bs, m, tk⟩ := z
      dsimp only at cp hb hf
      cases l with
      | true =>
        have hi : s_iter tx n (p, true, ws, bs, m, tk) = s_next tx n (p, true, ws, bs, m, tk) := by
          unfold s_iter
          dsimp only
          rw [if_pos rfl]
          dsimp only
          rw [if_pos rfl]
        exact nxt (p, true, ws, bs, m, tk) I A J _ rfl cp hT hz hb rfl (fun z' h => hi.trans h) (fun q h => hi.trans h)
      | false =>
        have hl' := hz.1
        refine m_D.nay 9 (by decide) rfl (by rw [hl']; decide) ?_
        refine m_D.call (n := 9) (by decide) rfl (by decide) (y_line hT hz hv rfl cp) (fun v I1 A1 J1 hR hF => ?_)
        cases hr : s_line tx n (p, false, ws, bs, m, tk) with
        | error q =>
          rw [hr] at hR
          have hi : s_iter tx n (p, false, ws, bs, m, tk) = .error q := by
            unfold s_iter
            dsimp only
            rw [if_neg (by decide), hr]
          rw [hi]
          obtain ⟨rfl, hR⟩ := hR
          refine m_D.pla 3 (by decide) rfl ?_
          refine m_D.yea 9 (by decide) rfl (by decide) ?_
          refine m_D.nay 9 (by decide) rfl (by decide) ?_
          exact m_D.ret 9 (by decide) rfl (Or.inl rfl) m_Fr.refl ⟨rfl, hR⟩
        | ok y =>
          rw [hr] at hR
          obtain ⟨rfl, hR⟩ := hR
          obtain ⟨b1, b2⟩ := s_line_Iv hv rfl cp hn hr
          have hbs := s_line_bs hr
          have hT1 := hT.Fr hF
          have hi : s_iter tx n (p, false, ws, bs, m, tk) = if y.2.1 = true then s_next tx n y else .ok y := by
            unfold s_iter
            dsimp only
            rw [if_neg (by decide), hr]
          refine m_D.pla 3 (by decide) rfl ?_
          by_cases cl : y.2.1 = true
          · rw [if_pos cl] at hi
            have hy : y.1 < n := by
              rcases b2 with ⟨z, _⟩ | ⟨_, _, z⟩
              · rw [z] at cl; cases cl
              · exact z
            refine m_D.nay 9 (by decide) rfl (nI_pos (by omega)) ?_
            refine m_D.nay 9 (by decide) rfl (by rw [hT1.1]; exact nI_ge hy (by omega)) ?_
            exact nxt y I1 A1 J1 _ cl hy hT1 hR (by rw [hbs]; exact hb) rfl (fun z' h => hi.trans h) (fun q h => hi.trans h)
          · rw [if_neg cl] at hi
            have := again y I1 A1 J1 hT1 hR (by rw [hbs]; exact hb) hi
            rw [hi]
            exact this
    · rw [if_neg cp]
      have hp : z.1 = n := by omega
      rw [hp]
      refine m_D.yea 9 (by decide) rfl (by rw [hT.1]; exact nI_le (by omega) (by omega)) ?_
      exact y_fin hT hz hv.2.1.pos hp
theorem m_D.wide {fs cs fs' cs' : List Nat} {M d : Nat} {I A : Nat → Nat → Int32} {J : Nat → Nat → Int64} {s0 : aS} {P : mP} (h : m_D fs cs M d g X I A J s0 P) (h1 : ∀ x ∈ fs, x ∈ fs') (h2 : ∀ x ∈ cs, x ∈ cs') : m_D fs' cs' M d g X I A J s0 (fun v I' A' J' => P v I' A' J' ∧ m_Fr fs cs I A J I' A' J') := by
  obtain ⟨I', A', J', v, k1, k2, k3⟩ := h
  exact ⟨I', A', J', v, ⟨k1, k2⟩, k2.mono h1 h2, k3⟩
/-- the tokens of the text, or a refusal -/
theorem y_take (hn : n ≤ 600) {I A : Nat → Nat → Int32} {J : Nat → Nat → Int64} (h2 : I 29 2 = nI n) (htx : ∀ k, k < n → A 30 k = tx k) (hch : ∀ k, k < n → c_char (tx k) = true) (h36 : A 36 0 = 0) (h37 : A 37 0 = 0) (hk3 : m_K I) : m_M m_ft m_ct 6 147 [.ref 29] g I A J X (fun v I' A' J' => m_Rb (s_scan tx n) v I' A' J' ∧ m_T tx n I' A') := by
  have copy : ∀ (f i : Nat) (A1 : Nat → Nat → Int32) (P : mP), i + f = n → (∀ k, k < i → A1 31 k = tx k) → m_Fr m_ft m_ct I A J I A1 J → (∀ A2, (∀ k, k < n → A2 31 k = tx k) → m_Fr m_ft m_ct I A J I A2 J → m_D m_ft m_ct 147 6 g X I A2 J (28, [(1, .int (nI n)), (0, .ref 29)], [], am_H g I A2 J X) P) → m_D m_ft m_ct 147 6 g X I A1 J (2, [(1, .int (nI i)), (0, .ref 29)], [], am_H g I A1 J X) P := by
    intro f
    induction f with
    | zero =>
      intro i A1 P hi h1 hf k
      have hi' : i = n := by omega
      subst hi'
      refine m_D.yea 9 (by decide) rfl (by rw [h2]; exact nI_le (by omega) (by omega)) ?_
      exact k A1 h1 hf
    | succ f ih =>
      intro i A1 P hi h1 hf k
      refine m_D.nay 9 (by decide) rfl (by rw [h2]; exact nI_ge (by omega) (by omega)) ?_
      refine m_D.nee 9 (by decide) rfl (nI_in (show i < 600 by omega) (by decide)) ?_
      refine m_D.nee 9 (by decide) rfl (nI_in (show i < 600 by omega) (by decide)) ?_
      refine m_D.pla 2 (by decide) rfl ?_
      rw [nI_1, nI_clamp (by omega)]
      have e30 : A1 30 i = tx i := by rw [hf.2.2.1 30 (by decide)]; exact htx i (by omega)
      rw [e30]
      refine m_D.heap (m_Fr.set (a := 31) (k := i) (v := tx i) (by decide)) ?_
      refine ih (i + 1) _ P (by omega) (fun k hk => ?_) (hf.trans (m_Fr.set (by decide))) k
      by_cases hki : k = i
      · rw [hki, am_uk]
      · rw [am_un (fun z => hki z.2)]; exact h1 k (by omega)
  refine m_D.met rfl rfl ?_
  refine m_D.pla 2 (by decide) rfl ?_
  refine copy n 0 A _ (by omega) (fun k hk => by omega) m_Fr.refl (fun A2 h31 hf => ?_)
  refine m_D.nee 20 (by decide) rfl (Or.inr rfl) ?_
  refine m_D.pla 2 (by decide) rfl ?_
  rw [h2]
  refine m_D.heap (I1 := am_u (am_u (am_u (am_u (am_u I 29 6 (nI n)) 29 11 0) 29 14 1) 29 19 0) 29 17 1) (A1 := A2) (J1 := J) (((((m_Fr.put (by decide)).trans (m_Fr.put (by decide))).trans (m_Fr.put (by decide))).trans (m_Fr.put (by decide))).trans (m_Fr.put (by decide))) ?_
  have hT1 : m_T tx n (am_u (am_u (am_u (am_u (am_u I 29 6 (nI n)) 29 11 0) 29 14 1) 29 19 0) 29 17 1) A2 := ⟨by simp [am_u], hn, h31, hch⟩
  have hz1 : m_S (0, false, [(0, 0)], [], 0, fun _ => (0, 0, 0, 0)) (am_u (am_u (am_u (am_u (am_u I 29 6 (nI n)) 29 11 0) 29 14 1) 29 19 0) 29 17 1) A2 J := by
    refine ⟨by simp [am_u]; rfl, by simp [am_u]; rfl, by decide, ⟨?_, ?_, trivial⟩, by simp [am_u]; rfl, by decide, trivial, fun b hb => by simp at hb, ⟨by simp [am_u]; rfl, by decide, fun k hk => by omega, by simpa [m_K, am_u] using hk3⟩⟩
    · rw [show ([] : List (Nat × Nat)).length = 0 from rfl, hf.2.2.2.2 36 (Or.inl rfl), h36]; rfl
    · rw [show ([] : List (Nat × Nat)).length = 0 from rfl, hf.2.2.2.2 37 (Or.inr rfl), h37]; rfl
  refine ((y_loop hn 600 _ _ A2 J hT1 hz1 s_Iv0 (fun b hb => by simp at hb) (by omega)).wide (by decide) (by decide)).mono ?_
  rintro v I' A' J' ⟨k1, k2⟩ -
  exact ⟨k1, hT1.Fr k2⟩
end MLP
