/-! THE CLASS'S SCANNER: signs, brackets, ends of lines -/
theorem s_pair_ix : ∀ m, m < 127 → ((am_ix 15 (nI m) 0 4 < 0) ↔ s_pair (nI m) = false) := by decide +kernel
theorem s_one_ix : ∀ m, m < 127 → ((0 ≤ am_ix 16 (nI m) 0 16) ↔ s_one (nI m) = true) := by decide +kernel
theorem c_char_b {c : Int32} (h : c_char c = true) : c.toInt8.toInt32 = c ∧ ¬ c < 0 ∧ ¬ 255 < c ∧ ((am_ix 15 c 0 4 < 0) ↔ s_pair c = false) ∧ ((0 ≤ am_ix 16 c 0 16) ↔ s_one c = true) := by
  obtain ⟨m, hm, -, rfl⟩ := c_char_of h
  have key : ∀ m, m < 127 → (nI m).toInt8.toInt32 = nI m ∧ ¬ nI m < 0 ∧ ¬ 255 < nI m := by decide +kernel
  exact ⟨(key m hm).1, (key m hm).2.1, (key m hm).2.2, s_pair_ix m hm, s_one_ix m hm⟩
section SGN
variable {g : List aK} {I A : Nat → Nat → Int32} {J : Nat → Nat → Int64} {X : Nat × (Nat → Int32)} {tx : Nat → Int32} {n p m : Nat} {l : Bool} {ws : List (Nat × Nat)} {bs : List Nat} {tk : Nat → aT}
theorem c_S.opn (h : c_S (p, l, ws, bs, m, tk) I A) (hl : bs.length < 8) (hp : p < 600) : c_S (p, l, ws, p :: bs, m, tk) (am_u I 24 1 (nI (bs.length + 1))) (am_u A 25 bs.length (nI p)) := by
  obtain ⟨h1, h2, h3, h4, h5, h6, h7, h8, h9, ht, h11, h12⟩ := h
  refine ⟨?_, ?_, ?_, ?_, h5, ?_, ?_, by simp; omega, ⟨?_, ?_⟩, ⟨?_, ht.2.1, ?_⟩, h11, ?_⟩
  · simpa [am_u] using h1
  · simpa [am_u] using h2
  · simpa [am_u] using h3
  · simpa [am_u] using h4
  · simpa [am_uo] using h6
  · simp [am_u]
  · simp [am_u]
  · refine c_P_same (fun k hk => ?_) h9
    have : k ≠ bs.length := by omega
    simp [am_u, this]
  · simpa [am_u] using ht.1
  · simpa [am_uo] using ht.2.2
  · intro b hb
    rcases List.mem_cons.mp hb with e | e
    · omega
    · exact h12 b e
theorem c_S.shut {b : Nat} (h : c_S (p, l, ws, b :: bs, m, tk) I A) : c_S (p, l, ws, bs, m, tk) (am_u I 24 1 (nI bs.length)) A := by
  obtain ⟨h1, h2, h3, h4, h5, h6, h7, h8, h9, ht, h11, h12⟩ := h
  refine ⟨?_, ?_, ?_, ?_, h5, h6, ?_, by simp at h8; omega, h9.2, ⟨?_, ht.2⟩, h11, fun b hb => h12 b (List.mem_cons_of_mem _ hb)⟩
  · simpa [am_u] using h1
  · simpa [am_u] using h2
  · simpa [am_u] using h3
  · simpa [am_u] using h4
  · simp [am_u]
  · simpa [am_u] using ht.1
theorem k_opn (hz : c_S (p, l, ws, bs, m, tk) I A) (hp : p < 600) : c_R c_sc 8 60 [.ref 19] g I A J X (fun _ => none) c_S (if bs.length < 8 then .ok (p, l, ws, p :: bs, m, tk) else .error (3, p)) := by
  have h1 := hz.1
  have h7 := hz.2.2.2.2.2.2.1
  have h8 := hz.2.2.2.2.2.2.2.1
  by_cases c1 : bs.length < 8
  · rw [if_pos c1]
    refine ⟨_, _, hz.opn c1 hp, (am_Fr.put (by decide)).trans (am_Fr.set (by decide)), am_met rfl rfl ?_⟩
    refine am_cav 9 (by decide) rfl (by rw [h1]; exact t_push24 h7 c1) (by decide) (by decide) (by decide) ?_
    refine am_yea 9 (by decide) rfl (by decide) ?_
    exact am_end 9 (by decide) rfl trivial (by decide) (by decide) ⟨rfl, rfl⟩
  · rw [if_neg c1]
    have e8 : bs.length = 8 := by omega
    refine c_ref (n := 9) rfl rfl (by decide) (s1 := (14, [(0, .ref 19)], [], am_H g I A J X)) ?_ rfl rfl am_Fr.refl (by decide) h1
    intro B C u c Q hu hc k
    refine am_cav 9 (by decide) rfl (t_full24 (by rw [h7, e8])) (by decide) hu hc ?_
    exact am_nay 9 (by decide) rfl (by decide) k
theorem k_shut {c : Int32} (hT : c_T tx n I A) (hz : c_S (p, l, ws, bs, m, tk) I A) : c_R c_sc 8 61 [.ref 19, .int c] g I A J X (fun _ => none) c_S (match bs with
    | [] => .error (4, p)
    | b :: r => if s_ch tx n b = (if c = 41 then 40 else 91) then .ok (p, l, ws, r, m, tk) else .error (4, p)) := by
  have h1 := hz.1
  have h7 := hz.2.2.2.2.2.2.1
  have h8 := hz.2.2.2.2.2.2.2.1
  have h9 := hz.2.2.2.2.2.2.2.2.1
  have h12 := hz.2.2.2.2.2.2.2.2.2.2.2
  have st : am_To 61 8 (0, lv_args 0 [.ref 19, .int c], [], am_H g I A J X) (14, [(2, .int (if c = 41 then 40 else 91)), (0, .ref 19), (1, .int c)], [], am_H g I A J X) := by
    intro B C u c' Q hu hc k
    by_cases c1 : c = 41
    · rw [if_pos c1] at k
      refine am_nay 9 (by decide) rfl (fun z => z c1) ?_
      exact am_pla 3 (by decide) rfl k
    · rw [if_neg c1] at k
      refine am_yea 9 (by decide) rfl c1 ?_
      exact am_pla 2 (by decide) rfl k
  cases bs with
  | nil =>
    dsimp only
    refine c_ref (n := 9) rfl rfl (by decide) (s1 := (42, [(2, .int (if c = 41 then 40 else 91)), (0, .ref 19), (1, .int c)], [], am_H g I A J X)) (st.trans ?_) rfl rfl am_Fr.refl (by decide) h1
    intro B C u c' Q hu hc k
    exact am_yea 9 (by decide) rfl (by rw [h7]; rfl) k
  | cons b r =>
    dsimp only
    have hb : b < 600 := h12 b List.mem_cons_self
    have h8' : r.length < 8 := by simp at h8; omega
    have hlast := t_last24 (g := g) (A := A) (J := J) (X := X) (n := r.length) h7 h8'
    rw [h9.1] at hlast
    have hat := k_at (g := g) (J := J) (X := X) (p := b) hT (by omega)
    have st2 : am_To 61 8 (14, [(2, .int (if c = 41 then 40 else 91)), (0, .ref 19), (1, .int c)], [], am_H g I A J X) (35, [(2, .int (if c = 41 then 40 else 91)), (0, .ref 19), (1, .int c)], [.int (nI b), .ref 1], am_H g I A J X) := by
      intro B C u c' Q hu hc k
      refine am_nay 9 (by decide) rfl (by rw [h7]; exact nI_ne0 (by simp) (by simp; omega)) ?_
      exact am_cav 9 (by decide) rfl hlast (by decide) hu hc k
    by_cases c2 : s_ch tx n b = (if c = 41 then 40 else 91)
    · rw [if_pos c2]
      refine ⟨_, A, hz.shut, am_Fr.put (by decide), am_met rfl rfl ((st.trans st2) _ _ _ _ _ (by decide) (by decide) ?_)⟩
      refine am_cav 9 (by decide) rfl hat (by decide) (by decide) (by decide) ?_
      refine am_yea 9 (by decide) rfl c2 ?_
      refine am_can 9 (by decide) rfl (t_pop24 h7 h8') (by decide) (by decide) (by decide) ?_
      exact am_end 9 (by decide) rfl trivial (by decide) (by decide) ⟨rfl, rfl⟩
    · rw [if_neg c2]
      refine c_ref (n := 9) rfl rfl (by decide) (s1 := (42, [(2, .int (if c = 41 then 40 else 91)), (0, .ref 19), (1, .int c)], [], am_H g I A J X)) ((st.trans st2).trans ?_) rfl rfl am_Fr.refl (by decide) h1
      intro B C u c' Q hu hc k
      refine am_cav 9 (by decide) rfl hat (by decide) hu hc ?_
      exact am_nay 9 (by decide) rfl c2 k
theorem k_eol (hz : c_S (p, l, ws, bs, m, tk) I A) (hp : p < 600) : c_R c_sc 9 54 [.ref 19] g I A J X (fun _ => none) c_S (if 0 < bs.length then .ok (p + 1, l, ws, bs, m, tk) else match s_take 6 6 1 (p, l, ws, bs, m, tk) with
      | .error e => .error e
      | .ok (p', _, y) => .ok (p', false, y)) := by
  have h1 := hz.1
  have h7 := hz.2.2.2.2.2.2.1
  have h8 := hz.2.2.2.2.2.2.2.1
  by_cases c1 : 0 < bs.length
  · rw [if_pos c1]
    refine ⟨_, A, hz.pl (by omega), am_Fr.place, am_met rfl rfl ?_⟩
    refine am_nay 9 (by decide) rfl (by rw [h7]; exact nI_nle c1 (by omega)) ?_
    refine am_end 9 (by decide) rfl trivial (by decide) (by decide) ⟨rfl, ?_⟩
    rw [h1, nI_1]
  · rw [if_neg c1]
    have ht := k_take (g := g) (J := J) (X := X) (k := 6) (mk := 6) (e := 1) hz (by decide) (by dsimp only; omega)
    have st : am_To 54 9 (0, lv_args 0 [.ref 19], [], am_H g I A J X) (21, [(0, .ref 19)], [], am_H g I A J X) := by
      intro B C u c' Q hu hc k
      refine am_yea 9 (by decide) rfl ?_ k
      rw [h7, show bs.length = 0 by omega]
      decide
    revert ht
    generalize s_take 6 6 1 (p, l, ws, bs, m, tk) = res
    intro ht
    cases res with
    | error q =>
      obtain ⟨I', A', k, g1, g2, g3, g4⟩ := ht
      refine ⟨I', A', k, g1, g2, g3, am_metF rfl rfl (am_Ft.from st ?_)⟩
      intro B C u c' Q hu hc hq
      exact am_cat 9 (by decide) rfl g4 (by decide) hu hc rfl hq
    | ok y =>
      obtain ⟨I', A', g1, g2, g3⟩ := ht
      obtain ⟨py, ly, wy, by', my, ty⟩ := y
      refine ⟨am_u I' 19 7 (am_b false), A', g1.ln, g2.trans (am_Fr.put (by decide)), am_met rfl rfl (st _ _ _ _ _ (by decide) (by decide) ?_)⟩
      refine am_can 9 (by decide) rfl g3 (by decide) (by decide) (by decide) ?_
      refine am_nee 9 (by decide) rfl (Or.inl rfl) ?_
      exact am_end 9 (by decide) rfl trivial (by decide) (by decide) ⟨rfl, rfl⟩
end SGN
