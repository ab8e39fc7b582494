/-! THE CLASS'S SCANNER: strings between quotes -/
section QUO
variable {g : List aK} {I A : Nat → Nat → Int32} {J : Nat → Nat → Int64} {X : Nat × (Nat → Int32)} {tx : Nat → Int32} {n p : Nat} {q : Int32}
abbrev c_l58 (e : Nat) (q : Int32) : List (Nat × Value) := [(2, .int (nI e)), (0, .ref 19), (1, .int q)]
theorem k_strL (hT : c_T tx n I A) : ∀ (f e : Nat), n < e + f → e ≤ n + 1 → match s_str tx n q f e with
    | some e' => e ≤ e' ∧ e' < n ∧ am_To 58 10 (7, c_l58 e q, [], am_H g I A J X) (100, c_l58 e' q, [], am_H g I A J X)
    | none => am_Ft 58 10 (7, c_l58 e q, [], am_H g I A J X) (.inr (101, (am_lay ++ g).length)) (am_H (am_gx g) (am_u (am_u I 3 0 5) 3 1 (I 19 6)) A J X) := by
  have hn := hT.2.1
  have out : ∀ e, n ≤ e → e ≤ n + 1 → am_Ft 58 10 (7, c_l58 e q, [], am_H g I A J X) (.inr (101, (am_lay ++ g).length)) (am_H (am_gx g) (am_u (am_u I 3 0 5) 3 1 (I 19 6)) A J X) := by
    intro e h1 h2 B C u c Q hu hc hq
    refine am_yea 9 (by decide) rfl (by rw [hT.1]; exact nI_le h1 (by omega)) ?_
    refine am_nay 9 (by decide) rfl (by rw [hT.1]; exact nI_nlt h1 (by omega)) ?_
    exact am_cat 9 (by decide) rfl t_refuse (by decide) hu hc rfl hq
  intro f
  induction f with
  | zero =>
    intro e h1 h2
    exact out e (by omega) h2
  | succ f ih =>
    intro e h1 h2
    unfold s_str
    by_cases c1 : e < n
    · rw [if_pos c1]
      have e0 : s_ch tx n e = tx e := if_pos c1
      have hat := k_at (g := g) (J := J) (X := X) (p := e) hT (by omega)
      rw [e0] at hat
      by_cases c2 : tx e = q
      · rw [if_pos c2]
        refine ⟨Nat.le_refl _, c1, ?_⟩
        intro B C u c Q hu hc k
        refine am_nay 9 (by decide) rfl (by rw [hT.1]; exact nI_ge c1 (by omega)) ?_
        refine am_cav 9 (by decide) rfl hat (by decide) hu hc ?_
        refine am_yea 9 (by decide) rfl c2 ?_
        exact am_yea 9 (by decide) rfl (by rw [hT.1]; exact nI_lt c1 (by omega)) k
      · rw [if_neg c2]
        have st : am_To 58 10 (7, c_l58 e q, [], am_H g I A J X) (46, c_l58 (if tx e = 92 then e + 1 else e) q, [], am_H g I A J X) := by
          intro B C u c Q hu hc k
          refine am_nay 9 (by decide) rfl (by rw [hT.1]; exact nI_ge c1 (by omega)) ?_
          refine am_cav 9 (by decide) rfl hat (by decide) hu hc ?_
          refine am_nay 9 (by decide) rfl c2 ?_
          refine am_cav 9 (by decide) rfl hat (by decide) hu hc ?_
          by_cases c3 : tx e = 92
          · rw [if_pos c3] at k
            refine am_nay 9 (by decide) rfl (fun z => z c3) ?_
            refine am_pla 1 (by decide) rfl ?_
            rw [nI_1]
            exact k
          · rw [if_neg c3] at k
            exact am_yea 9 (by decide) rfl c3 k
        have hb : e ≤ (if tx e = 92 then e + 1 else e) ∧ (if tx e = 92 then e + 1 else e) ≤ e + 1 := by split <;> omega
        revert st hb
        generalize (if tx e = 92 then e + 1 else e) = e1
        intro st hb
        have hat1 := k_at (g := g) (J := J) (X := X) (p := e1) hT (by omega)
        by_cases c4 : s_ch tx n e1 = 10
        · rw [if_pos c4]
          refine am_Ft.from st ?_
          intro B C u c Q hu hc hq
          refine am_cav 9 (by decide) rfl hat1 (by decide) (by omega) (by omega) ?_
          refine am_nay 9 (by decide) rfl (fun z => z c4) ?_
          exact am_cat 9 (by decide) rfl t_refuse (by decide) hu hc rfl hq
        · rw [if_neg c4]
          have st2 : am_To 58 10 (7, c_l58 e q, [], am_H g I A J X) (7, c_l58 (e1 + 1) q, [], am_H g I A J X) := by
            refine st.trans ?_
            intro B C u c Q hu hc k
            refine am_cav 9 (by decide) rfl hat1 (by decide) hu hc ?_
            refine am_yea 9 (by decide) rfl c4 ?_
            refine am_pla 2 (by decide) rfl ?_
            rw [nI_1]
            exact k
          have hih := ih (e1 + 1) (by omega) (by omega)
          revert hih
          generalize s_str tx n q f (e1 + 1) = res
          intro hih
          cases res with
          | none => exact am_Ft.from st2 hih
          | some e' => exact ⟨by omega, hih.2.1, st2.trans hih.2.2⟩
    · rw [if_neg c1]
      exact out e (by omega) h2
theorem k_str {m : Nat} {l : Bool} {ws : List (Nat × Nat)} {bs : List Nat} {tk : Nat → aT} (hT : c_T tx n I A) (hz : c_S (p, l, ws, bs, m, tk) I A) (hp : p < n) : c_R c_sc 10 58 [.ref 19, .int q] g I A J X (fun _ => none) c_S (match s_str tx n q (n - p) (p + 1) with
    | none => .error (5, p)
    | some e => s_take 4 4 (e + 1 - p) (p, l, ws, bs, m, tk)) := by
  have hn := hT.2.1
  have h1 := hz.1
  have hL := k_strL (g := g) (J := J) (X := X) (q := q) hT (n - p) (p + 1) (by omega) (by omega)
  have st : am_To 58 10 (0, lv_args 0 [.ref 19, .int q], [], am_H g I A J X) (7, c_l58 (p + 1) q, [], am_H g I A J X) := by
    intro B C u c Q hu hc k
    refine am_pla 5 (by decide) rfl ?_
    rw [h1, nI_1]
    exact k
  revert hL
  generalize s_str tx n q (n - p) (p + 1) = res
  intro hL
  cases res with
  | none =>
    refine ⟨_, A, _, ?_, ?_, ?_, am_metF rfl rfl (am_Ft.from st hL)⟩
    · simp [am_u]
    · simp [am_u, h1]
    · exact (am_Fr.put (by decide)).trans (am_Fr.put (by decide))
  | some e =>
    obtain ⟨b1, b2, st2⟩ := hL
    have es : nI (e + 1) - nI p = nI (e + 1 - p) := nI_sub (by omega)
    exact c_tail (n := 12) (n2 := 9) rfl rfl (by decide) (by decide : 8 + 1 ≤ 10) (s1 := (100, c_l58 e q, [], am_H g I A J X)) (st.trans st2) (by rw [show am_run 12 58 (100, c_l58 e q, [], am_H g I A J X) = am_ca 52 [.ref 19, .int 4, .int 4, .int (nI e + 1 - I 19 6)] (114, c_l58 e q, [], am_H g I A J X) from rfl, h1, nI_1, es]) (fun _ => rfl) rfl am_Fr.refl (k_take hz (by omega) (by dsimp only; omega)) (fun _ _ _ h => h)
end QUO
