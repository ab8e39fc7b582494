/-! THE CLASS'S SCANNER: compareWidths -/
theorem s_W.lt : ∀ {ws : List (Nat × Nat)}, s_W ws → ∀ x ∈ ws, x.1 < 2 ^ 20 ∧ x.2 < 2 ^ 20
  | [y], h, x, hx => by
    rw [List.mem_singleton.mp hx, show y = (0, 0) from h]
    decide
  | y :: y' :: r, h, x, hx => by
    rcases List.mem_cons.mp hx with e | e
    · rw [e]; exact ⟨h.1, h.2.1⟩
    · exact s_W.lt h.2.2 x e
theorem s_W.tl {x : Nat × Nat} {r : List (Nat × Nat)} {w : Nat} (h : s_W (x :: r)) (hw : w < x.1) : s_W r := by
  cases r with
  | nil => rw [show x = (0, 0) from h] at hw; exact absurd hw (Nat.not_lt_zero _)
  | cons y r => exact h.2.2
section CMP
variable {g : List aK} {J : Nat → Nat → Int64} {X : Nat × (Nat → Int32)} {p : Nat} {l : Bool} {bs : List Nat} {w nr : Nat}
/-- the locals of compareWidths -/
abbrev c_l50 (i w nr : Nat) : List (Nat × Value) := [(3, .int (nI i)), (0, .ref 19), (1, .int (nI w)), (2, .int (nI nr))]
theorem k_ded (hw : w < 2 ^ 20) : ∀ (ws : List (Nat × Nat)) (i m : Nat) (tk : Nat → aT) (I A : Nat → Nat → Int32), c_S (p, l, ws, bs, m, tk) I A → s_W ws → i + ws.length ≤ 9 → match s_ded w p l bs ws m tk with
    | .ok y => ∃ (I' A' : Nat → Nat → Int32) (i' : Nat), c_S y I' A' ∧ y.1 = p ∧ s_W y.2.2.1 ∧ am_Fr c_sc I A I' A' ∧ am_To 50 10 (20, c_l50 i w nr, [], am_H g I A J X) (66, c_l50 i' w nr, [], am_H g I' A' J X)
    | .error q => ∃ (I' A' : Nat → Nat → Int32) (k : Nat), I' 3 0 = q.1 ∧ I' 3 1 = nI q.2 ∧ am_Fr (3 :: c_sc) I A I' A' ∧ am_Ft 50 10 (20, c_l50 i w nr, [], am_H g I A J X) (.inr (101, k)) (am_H (am_gx g) I' A' J X) := by
  intro ws
  induction ws with
  | nil => intro i m tk I A hz hW; exact hW.elim
  | cons x r ih =>
    obtain ⟨w0, n0⟩ := x
    intro i m tk I A hz hW hi
    have hi' : i + (r.length + 1) ≤ 9 := hi
    obtain ⟨h1, h2, h3, h4, h5, h6, h7, h8, h9, ht, h11, h12⟩ := id hz
    have h5' : r.length < 9 := by omega
    have hb := hW.lt (w0, n0) List.mem_cons_self
    have hlast := t_last20 (g := g) (A := A) (J := J) (X := X) (n := r.length) h3 h5'
    rw [h6.1] at hlast
    dsimp only at hlast hb
    by_cases c1 : w < w0
    · have hpop := hz.pop
      have hWr := hW.tl (w := w) c1
      have htk := k_take (g := g) (J := J) (X := X) (k := 8) (mk := 8) (e := 0) hpop (by decide) h11
      have step : am_To 50 10 (20, c_l50 i w nr, [], am_H g I A J X) (51, c_l50 i w nr, [], am_H g (am_u (am_u I 20 1 (nI r.length)) 22 1 (nI r.length)) A J X) := by
        intro B C u c Q hu hc k
        refine am_nay 9 (by decide) rfl (nI_ge (show i < 9 by omega) (by decide)) ?_
        refine am_cav 9 (by decide) rfl hlast (by decide) hu hc ?_
        refine am_nay 9 (by decide) rfl (nI_ge c1 (by omega)) ?_
        refine am_can 9 (by decide) rfl (t_pop20 h3 h5') (by decide) hu hc ?_
        refine am_can 9 (by decide) rfl (t_pop22 (n := r.length) (by rw [am_un (by decide)]; exact h4) h5') (by decide) hu hc ?_
        exact k
      unfold s_ded
      rw [if_pos c1]
      unfold s_take at htk
      by_cases c2 : m < 120
      · rw [if_pos c2]
        simp only [if_pos c2, c_R] at htk
        obtain ⟨I1, A1, g1, g2, g3⟩ := htk
        have hih := ih (i + 1) (m + 1) _ I1 A1 g1 hWr (by omega)
        have step2 : am_To 50 10 (20, c_l50 i w nr, [], am_H g I A J X) (20, c_l50 (i + 1) w nr, [], am_H g I1 A1 J X) := by
          refine step.trans ?_
          intro B C u c Q hu hc k
          refine am_can 9 (by decide) rfl g3 (by decide) hu hc ?_
          refine am_pla 2 (by decide) rfl ?_
          rw [nI_1]
          exact k
        have fr : am_Fr c_sc I A I1 A1 := ((am_Fr.put (by decide)).trans (am_Fr.put (by decide))).trans g2
        revert hih
        generalize s_ded w p l bs r (m + 1) (fun j => if j = m then (8, 8, p, 0) else tk j) = res
        intro hih
        cases res with
        | ok y =>
          obtain ⟨I', A', i', q1, q2, q3, q4, q5⟩ := hih
          exact ⟨I', A', i', q1, q2, q3, fr.trans q4, step2.trans q5⟩
        | error q =>
          obtain ⟨I', A', k, q1, q2, q3, q4⟩ := hih
          exact ⟨I', A', k, q1, q2, fr.e3.trans q3, am_Ft.from step2 q4⟩
      · rw [if_neg c2]
        simp only [if_neg c2, c_R] at htk
        obtain ⟨I1, A1, k, g1, g2, g3, g4⟩ := htk
        refine ⟨I1, A1, k, g1, g2, ((am_Fr.put (by decide)).trans (am_Fr.put (by decide))).trans g3, am_Ft.from step ?_⟩
        intro B C u c Q hu hc hq
        exact am_cat 9 (by decide) rfl g4 (by decide) hu hc rfl hq
    · unfold s_ded
      rw [if_neg c1]
      refine ⟨I, A, i, hz, rfl, hW, am_Fr.refl, ?_⟩
      intro B C u c Q hu hc k
      refine am_nay 9 (by decide) rfl (nI_ge (show i < 9 by omega) (by decide)) ?_
      refine am_cav 9 (by decide) rfl hlast (by decide) hu hc ?_
      exact am_yea 9 (by decide) rfl (nI_le (by omega) (by omega)) k
theorem k_cmp {I A : Nat → Nat → Int32} {m : Nat} {tk : Nat → aT} {ws : List (Nat × Nat)} (hz : c_S (p, l, ws, bs, m, tk) I A) (hW : s_W ws) (hw : w < 2 ^ 20) (hnr : nr < 2 ^ 20) : c_R c_sc 10 50 [.ref 19, .int (nI w), .int (nI nr)] g I A J X (fun _ => none) c_S (s_cmp w nr (p, l, ws, bs, m, tk)) := by
  cases ws with
  | nil => exact hW.elim
  | cons x r =>
    obtain ⟨w0, n0⟩ := x
    obtain ⟨h1, h2, h3, h4, h5, h6, h7, h8, h9, ht, h11, h12⟩ := id hz
    have h5' : r.length < 9 := by simp at h5; omega
    have hb := hW.lt (w0, n0) List.mem_cons_self
    have hlast := t_last20 (g := g) (A := A) (J := J) (X := X) (n := r.length) h3 h5'
    rw [h6.1] at hlast
    dsimp only at hlast hb
    unfold s_cmp
    dsimp only
    by_cases c1 : w0 < w
    · rw [if_pos c1]
      refine c_tail (n := 9) (n2 := 9) rfl rfl (by decide) (by decide : 9 + 1 ≤ 10) (s1 := (11, [(0, .ref 19), (1, .int (nI w)), (2, .int (nI nr))], [], am_H g I A J X)) ?_ rfl (fun _ => rfl) rfl am_Fr.refl (k_block hz (by omega) (by omega) (by omega)) (fun _ _ _ h => h)
      intro B C u c Q hu hc k
      refine am_cav 9 (by decide) rfl hlast (by decide) hu hc ?_
      exact am_nay 9 (by decide) rfl (nI_ge c1 (by omega)) k
    · rw [if_neg c1]
      have step : am_To 50 10 (0, lv_args 0 [.ref 19, .int (nI w), .int (nI nr)], [], am_H g I A J X) (20, c_l50 0 w nr, [], am_H g I A J X) := by
        intro B C u c Q hu hc k
        refine am_cav 9 (by decide) rfl hlast (by decide) hu hc ?_
        refine am_yea 9 (by decide) rfl (nI_le (by omega) (by omega)) ?_
        exact am_pla 2 (by decide) rfl k
      have hd := k_ded (g := g) (J := J) (X := X) (nr := nr) hw ((w0, n0) :: r) 0 m tk I A hz hW (by simp; omega)
      revert hd
      generalize s_ded w p l bs ((w0, n0) :: r) m tk = res
      intro hd
      cases res with
      | error q =>
        obtain ⟨I', A', k, q1, q2, q3, q4⟩ := hd
        exact ⟨I', A', k, q1, q2, q3, am_metF rfl rfl (am_Ft.from step q4)⟩
      | ok y =>
        obtain ⟨I', A', i', q1, q2, q3, q4, q5⟩ := hd
        obtain ⟨py, ly, wy, by', my, ty⟩ := y
        dsimp only at q2 q3
        subst q2
        cases wy with
        | nil => exact q3.elim
        | cons x1 r1 =>
          obtain ⟨w1, n1⟩ := x1
          obtain ⟨e1, e2, e3, e4, e5, e6, e7, e8, e9, et, e11, e12⟩ := id q1
          have e5' : r1.length < 9 := by simp at e5; omega
          have hb1 := q3.lt (w1, n1) List.mem_cons_self
          have hl20 := t_last20 (g := g) (A := A') (J := J) (X := X) (n := r1.length) e3 e5'
          have hl22 := t_last22 (g := g) (A := A') (J := J) (X := X) (n := r1.length) e4 e5'
          rw [e6.1] at hl20
          rw [e6.2.1] at hl22
          dsimp only at hl20 hl22 hb1
          have st2 := step.trans q5
          show c_R c_sc 10 50 _ g I A J X (fun _ => none) c_S (if w1 = w then (if n1 = nr then .ok (py, ly, (w1, n1) :: r1, by', my, ty) else .error (1, py)) else .error (2, py))
          by_cases c2 : w1 = w
          · rw [if_pos c2]
            by_cases c3 : n1 = nr
            · rw [if_pos c3]
              refine ⟨I', A', q1, q4, am_met rfl rfl (st2 _ _ _ _ _ (by decide) (by decide) ?_)⟩
              refine am_cav 9 (by decide) rfl hl20 (by decide) (by decide) (by decide) ?_
              refine am_yea 9 (by decide) rfl (by rw [c2]) ?_
              refine am_cav 9 (by decide) rfl hl22 (by decide) (by decide) (by decide) ?_
              refine am_yea 9 (by decide) rfl (by rw [c3]) ?_
              exact am_end 9 (by decide) rfl trivial (by decide) (by decide) ⟨rfl, rfl⟩
            · rw [if_neg c3]
              refine c_ref (n := 9) rfl rfl (by decide) (s1 := (100, c_l50 i' w nr, [], am_H g I' A' J X)) (st2.trans ?_) rfl rfl q4 (by decide) e1
              intro B C u c Q hu hc k
              refine am_cav 9 (by decide) rfl hl20 (by decide) hu hc ?_
              refine am_yea 9 (by decide) rfl (by rw [c2]) ?_
              refine am_cav 9 (by decide) rfl hl22 (by decide) hu hc ?_
              exact am_nay 9 (by decide) rfl (fun q => c3 ((nI_eq (by omega) (by omega)).mp q)) k
          · rw [if_neg c2]
            refine c_ref (n := 9) rfl rfl (by decide) (s1 := (77, c_l50 i' w nr, [], am_H g I' A' J X)) (st2.trans ?_) rfl rfl q4 (by decide) e1
            intro B C u c Q hu hc k
            refine am_cav 9 (by decide) rfl hl20 (by decide) hu hc ?_
            exact am_nay 9 (by decide) rfl (fun q => c2 ((nI_eq (by omega) (by omega)).mp q)) k
end CMP
