/-! THE CLASS'S SCANNER: widths -/
/-- a call at the end of a method -/
theorem c_tail {α : Type} {cs : List Nat} {r : Except aF α} {M M' d d' nx n n2 : Nat} {as as' : List Value} {s1 : aS} {ls : List (Nat × Value)} {g : List aK} {I A I1 A1 : Nat → Nat → Int32} {J : Nat → Nat → Int64} {X : Nat × (Nat → Int32)} {R R' : α → (Nat → Nat → Int32) → (Nat → Nat → Int32) → Prop}
    (hM : Nat.blt M 200 = true) (hl : Nat.ble (lg_sl as).length (am_ml M) = true) (h1d : 1 ≤ d) (hd : d' + 1 ≤ d) (hto : am_To M d (0, lv_args 0 as, [], am_H g I A J X) s1) (hrun : am_run n M s1 = am_ca M' as' (nx, ls, [], am_H g I1 A1 J X)) (hret : ∀ h : aH, am_run n2 M (nx - 3 + 3, ls, [], h) = am_rt True (.inl none) h) (hs : am_hs M = [])
    (hfr : am_Fr cs I A I1 A1) (hr : c_R cs d' M' as' g I1 A1 J X (fun _ => none) R' r) (hR : ∀ a I' A', R' a I' A' → R a I' A') : c_R cs d M as g I A J X (fun _ => none) R r := by
  cases r with
  | ok a =>
    obtain ⟨I', A', h1, h2, h3⟩ := hr
    refine ⟨I', A', hR _ _ _ h1, hfr.trans h2, am_met hM hl (hto _ _ _ _ _ (by decide) (by decide) ?_)⟩
    refine am_can n h1d hrun h3 hd (by decide) (by decide) ?_
    exact am_end n2 h1d (hret _) trivial (by decide) (by decide) ⟨rfl, rfl⟩
  | error q =>
    obtain ⟨I', A', k, h1, h2, h3, h4⟩ := hr
    refine ⟨I', A', k, h1, h2, hfr.e3.trans h3, am_met hM hl (hto _ _ _ _ _ (by decide) (by decide) ?_)⟩
    exact am_cat n h1d hrun h4 hd (by decide) (by decide) hs ⟨rfl, rfl⟩
theorem c_W_same {f f' e e' : Nat → Int32} : ∀ {ws : List (Nat × Nat)}, (∀ k, k < ws.length → e k = f k ∧ e' k = f' k) → c_W f f' ws → c_W e e' ws
  | [], _, _ => trivial
  | x :: r, h, hw => ⟨by rw [(h r.length (by simp)).1]; exact hw.1, by rw [(h r.length (by simp)).2]; exact hw.2.1, c_W_same (fun k hk => h k (by simp; omega)) hw.2.2⟩
theorem c_P_same {f e : Nat → Int32} : ∀ {ws : List Nat}, (∀ k, k < ws.length → e k = f k) → c_P f ws → c_P e ws
  | [], _, _ => trivial
  | x :: r, h, hw => ⟨by rw [h r.length (by simp)]; exact hw.1, c_P_same (fun k hk => h k (by simp; omega)) hw.2⟩
section WID
variable {g : List aK} {I A : Nat → Nat → Int32} {J : Nat → Nat → Int64} {X : Nat × (Nat → Int32)} {tx : Nat → Int32} {n p p' m : Nat} {l l' : Bool} {ws : List (Nat × Nat)} {bs : List Nat} {tk : Nat → aT}
theorem c_S.pl (h : c_S (p, l, ws, bs, m, tk) I A) (hp : p' ≤ 600) : c_S (p', l, ws, bs, m, tk) (am_u I 19 6 (nI p')) A := by
  obtain ⟨h1, h2, h3, h4, h5, h6, h7, h8, h9, ht, h11, h12⟩ := h
  refine ⟨am_uk, ?_, ?_, ?_, h5, h6, ?_, h8, h9, ⟨?_, ht.2⟩, hp, h12⟩
  · simpa [am_u] using h2
  · simpa [am_u] using h3
  · simpa [am_u] using h4
  · simpa [am_u] using h7
  · simpa [am_u] using ht.1
theorem c_S.ln (h : c_S (p, l, ws, bs, m, tk) I A) : c_S (p, l', ws, bs, m, tk) (am_u I 19 7 (am_b l')) A := by
  obtain ⟨h1, h2, h3, h4, h5, h6, h7, h8, h9, ht, h11, h12⟩ := h
  refine ⟨?_, am_uk, ?_, ?_, h5, h6, ?_, h8, h9, ⟨?_, ht.2⟩, h11, h12⟩
  · simpa [am_u] using h1
  · simpa [am_u] using h3
  · simpa [am_u] using h4
  · simpa [am_u] using h7
  · simpa [am_u] using ht.1
theorem c_S.push {w nr : Nat} (h : c_S (p, l, ws, bs, m, tk) I A) (hl : ws.length < 9) : c_S (p, l, (w, nr) :: ws, bs, m, tk) (am_u (am_u I 20 1 (nI (ws.length + 1))) 22 1 (nI (ws.length + 1))) (am_u (am_u A 21 ws.length (nI w)) 23 ws.length (nI nr)) := by
  obtain ⟨h1, h2, h3, h4, h5, h6, h7, h8, h9, ht, h11, h12⟩ := h
  refine ⟨?_, ?_, ?_, ?_, by simp; omega, ⟨?_, ?_, ?_⟩, ?_, h8, ?_, ⟨?_, ht.2.1, ?_⟩, h11, h12⟩
  · simpa [am_u] using h1
  · simpa [am_u] using h2
  · simp [am_u]
  · simp [am_u]
  · simp [am_u]
  · simp [am_u]
  · refine c_W_same (fun k hk => ?_) h6
    have : k ≠ ws.length := by omega
    simp [am_u, this]
  · simpa [am_u] using h7
  · simpa [am_uo] using h9
  · simpa [am_u] using ht.1
  · simpa [am_uo] using ht.2.2
theorem c_S.pop {x : Nat × Nat} (h : c_S (p, l, x :: ws, bs, m, tk) I A) : c_S (p, l, ws, bs, m, tk) (am_u (am_u I 20 1 (nI ws.length)) 22 1 (nI ws.length)) A := by
  obtain ⟨h1, h2, h3, h4, h5, h6, h7, h8, h9, ht, h11, h12⟩ := h
  refine ⟨?_, ?_, ?_, ?_, by simp at h5; omega, h6.2.2, ?_, h8, h9, ⟨?_, ht.2⟩, h11, h12⟩
  · simpa [am_u] using h1
  · simpa [am_u] using h2
  · simp [am_u]
  · simp [am_u]
  · simpa [am_u] using h7
  · simpa [am_u] using ht.1
/-- a refusal as the last thing of a method -/
theorem c_ref {α : Type} {cs : List Nat} {M d n nx : Nat} {as : List Value} {s1 : aS} {ls : List (Nat × Value)} {w pp : Int32} {q : Nat} {I1 A1 : Nat → Nat → Int32} {R : α → (Nat → Nat → Int32) → (Nat → Nat → Int32) → Prop} {V : α → Option Value} (hM : Nat.blt M 200 = true) (hl : Nat.ble (lg_sl as).length (am_ml M) = true) (hd : 8 ≤ d) (hto : am_To M d (0, lv_args 0 as, [], am_H g I A J X) s1) {sk : List Value}
    (hrun : am_run n M s1 = am_ca 16 [.ref 3, .int w, .int pp] (nx, ls, sk, am_H g I1 A1 J X)) (hs : am_hs M = []) (hfr : am_Fr cs I A I1 A1) (h3 : 3 ∉ cs) (hpp : pp = nI q) : c_R cs d M as g I A J X V R (.error (w, q)) := by
  refine ⟨am_u (am_u I1 3 0 w) 3 1 pp, A1, (am_lay ++ g).length, by simp [am_u], by simp [am_u, hpp], (hfr.e3.trans (am_Fr.put List.mem_cons_self)).trans (am_Fr.put List.mem_cons_self), am_met hM hl (hto _ _ _ _ _ (by decide) (by decide) ?_)⟩
  exact am_cat n (by omega) hrun t_refuse hd (by decide) (by decide) hs ⟨rfl, rfl⟩
theorem k_block {w nr w0 n0 : Nat} (hz : c_S (p, l, (w0, n0) :: ws, bs, m, tk) I A) (hw : w < 2 ^ 31) (hnr : nr < 2 ^ 31) (hn0 : n0 < 2 ^ 31) : c_R c_sc 9 51 [.ref 19, .int (nI w), .int (nI nr)] g I A J X (fun _ => none) c_S (if nr ≤ n0 then .error (1, p) else if ws.length + 1 < 9 then s_take 7 7 0 (p, l, (w, nr) :: (w0, n0) :: ws, bs, m, tk) else .error (3, p)) := by
  obtain ⟨h1, h2, h3, h4, h5, h6, h7, h8, h9, ht, h11, h12⟩ := id hz
  have h5' : ws.length < 9 := by simp at h5; omega
  have hlast := t_last22 (g := g) (A := A) (J := J) (X := X) (n := ws.length) h4 h5'
  rw [h6.2.1] at hlast
  by_cases c1 : nr ≤ n0
  · rw [if_pos c1]
    refine c_ref (n := 9) rfl rfl (by decide) (s1 := (11, [(0, .ref 19), (1, .int (nI w)), (2, .int (nI nr))], [], am_H g I A J X)) ?_ rfl rfl am_Fr.refl (by decide) h1
    intro B C u c Q hu hc k
    refine am_cav 9 (by decide) rfl hlast (by decide) hu hc ?_
    exact am_nay 9 (by decide) rfl (nI_nlt c1 (by omega)) k
  · rw [if_neg c1]
    by_cases c2 : ws.length + 1 < 9
    · rw [if_pos c2]
      have hp := hz.push (w := w) (nr := nr) c2
      refine c_tail (n := 9) (n2 := 9) rfl rfl (by decide) (by decide : 8 + 1 ≤ 9) (s1 := (57, [(0, .ref 19), (1, .int (nI w)), (2, .int (nI nr))], [], am_H g (am_u (am_u I 20 1 (nI (ws.length + 1 + 1))) 22 1 (nI (ws.length + 1 + 1))) (am_u (am_u A 21 (ws.length + 1) (nI w)) 23 (ws.length + 1) (nI nr)) J X)) ?_ rfl (fun _ => rfl) rfl ?_ (k_take hp (by decide) h11) (fun _ _ _ h => h)
      · intro B C u c Q hu hc k
        refine am_cav 9 (by decide) rfl hlast (by decide) hu hc ?_
        refine am_yea 9 (by decide) rfl (nI_lt (by omega) (by omega)) ?_
        refine am_cav 9 (by decide) rfl (t_push20 h3 c2) (by decide) hu hc ?_
        refine am_nay 9 (by decide) rfl (by decide) ?_
        refine am_cav 9 (by decide) rfl (t_push22 (n := ws.length + 1) (by rw [am_un (by decide)]; exact h4) c2) (by decide) hu hc ?_
        exact am_yea 9 (by decide) rfl (by decide) k
      · exact (((am_Fr.put (by decide)).trans (am_Fr.put (by decide))).trans (am_Fr.set (by decide))).trans (am_Fr.set (by decide))
    · rw [if_neg c2]
      have e9 : ws.length + 1 = 9 := by omega
      refine c_ref (n := 9) rfl rfl (by decide) (s1 := (45, [(0, .ref 19), (1, .int (nI w)), (2, .int (nI nr))], [], am_H g I A J X)) ?_ rfl rfl am_Fr.refl (by decide) h1
      intro B C u c Q hu hc k
      refine am_cav 9 (by decide) rfl hlast (by decide) hu hc ?_
      refine am_yea 9 (by decide) rfl (nI_lt (by omega) (by omega)) ?_
      refine am_cav 9 (by decide) rfl (t_full20 (by rw [h3]; simp [e9])) (by decide) hu hc ?_
      exact am_yea 9 (by decide) rfl rfl k
end WID
