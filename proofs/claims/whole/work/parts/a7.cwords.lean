/-! THE CLASS WRITES: words, lines -/
/-- the characters of a text of the class -/
def w_ch (i : Nat) : Nat → Nat → List Int32
  | 0, _ => []
  | f + 1, j => am_chr i j :: w_ch i f (j + 1)
/-- what the writer reads: text, tokens, tree -/
def c_Vw (tx : Nat → Int32) (n T : Nat) (tk : Nat → aT) (S : aN) (m : Nat) (I A : Nat → Nat → Int32) : Prop := c_T tx n I A ∧ c_Tk I A T tk ∧ I 9 9 = nI m ∧ m ≤ 300 ∧ ∀ f, f < 8 → A (10 + f) = S f
section CWO
variable {g : List aK} {J : Nat → Nat → Int64} {X : Nat × (Nat → Int32)} {I A : Nat → Nat → Int32} {L W : List Int32} {tx : Nat → Int32} {n T m : Nat} {tk : Nat → aT} {S : aN}
theorem c_Vw.frame {I' A' : Nat → Nat → Int32} (h : c_Vw tx n T tk S m I A) (hf : am_Fr c_wc I A I' A') : c_Vw tx n T tk S m I' A' := by
  obtain ⟨h1, h2, h3, h4, h5⟩ := h
  refine ⟨⟨by rw [(hf 1 (by decide)).1]; exact h1.1, h1.2.1, by rw [(hf 2 (by decide)).2]; exact h1.2.2.1, h1.2.2.2⟩, ⟨by rw [(hf 4 (by decide)).1]; exact h2.1, h2.2.1, fun k hk => ?_⟩, by rw [(hf 9 (by decide)).1]; exact h3, h4, fun f hf8 => ?_⟩
  · rw [(hf 5 (by decide)).2, (hf 6 (by decide)).2, (hf 7 (by decide)).2, (hf 8 (by decide)).2]
    exact h2.2.2 k hk
  · rw [(hf (10 + f) (by simp [c_wc]; omega)).2]
    exact h5 f hf8
/-- a method that writes W and answers v -/
def c_Wv (W L : List Int32) (v0 : Option Value) (_ : Unit) (v : Option Value) (I' A' : Nat → Nat → Int32) : Prop := v = v0 ∧ c_Wr (L ++ W) I' A'
theorem c_D.wr {α : Type} {M d n' d' M' nx : Nat} {as' : List Value} {ls : List (Nat × Value)} {sk : List Value} {s0 : aS} {R : α → Option Value → (Nat → Nat → Int32) → (Nat → Nat → Int32) → Prop} {r : Except aF α} (h1d : 1 ≤ d) (hr : am_run n' M s0 = am_ca M' as' (nx, ls, sk, am_H g I A J X)) (hd : d' + 1 ≤ d) (hcon : c_M c_wc d' M' as' g I A J X (c_Wv W L none) (.ok ())) (k : ∀ I1 A1, c_Wr (L ++ W) I1 A1 → am_Fr c_wc I A I1 A1 → c_D c_wc M d g J X I1 A1 (nx - 3 + 3, ls, sk, am_H g I1 A1 J X) R r) : c_D c_wc M d g J X I A s0 R r := by
  obtain ⟨I1, A1, v, ⟨rfl, h2⟩, h3, h4⟩ := hcon
  exact c_D.can h1d hr h4 hd h3 (k I1 A1 h2 h3)
theorem c_D.wv {α : Type} {M d n' d' M' nx : Nat} {as' : List Value} {ls : List (Nat × Value)} {sk : List Value} {s0 : aS} {R : α → Option Value → (Nat → Nat → Int32) → (Nat → Nat → Int32) → Prop} {r : Except aF α} {v0 : Value} (h1d : 1 ≤ d) (hr : am_run n' M s0 = am_ca M' as' (nx, ls, sk, am_H g I A J X)) (hd : d' + 1 ≤ d) (hcon : c_M c_wc d' M' as' g I A J X (c_Wv W L (some v0)) (.ok ())) (k : ∀ I1 A1, c_Wr (L ++ W) I1 A1 → am_Fr c_wc I A I1 A1 → c_D c_wc M d g J X I1 A1 (nx - 3 + 3, ls, v0 :: sk, am_H g I1 A1 J X) R r) : c_D c_wc M d g J X I A s0 R r := by
  obtain ⟨I1, A1, v, ⟨rfl, h2⟩, h3, h4⟩ := hcon
  exact c_D.cav h1d hr h4 hd h3 (k I1 A1 h2 h3)
theorem k_pw {i : Nat} (hi : i < 29) (h : c_Wr L I A) (hl : L.length + am_sl.getD i 0 ≤ 3120) : c_M c_wc 4 93 [.ref 27, .retAddr i] g I A J X (c_Wv (w_ch i (am_sl.getD i 0) 0) L none) (.ok ()) := by
  have hl31 := am_sl31 i hi
  have loop : ∀ (f j : Nat) (L1 : List Int32) (I1 A1 : Nat → Nat → Int32), j + f = am_sl.getD i 0 → c_Wr L1 I1 A1 → L1.length + f ≤ 3120 → c_D c_wc 93 4 g J X I1 A1 (2, [(2, .int (nI j)), (0, .ref 27), (1, .retAddr i)], [], am_H g I1 A1 J X) (c_Wv (w_ch i f j) L1 none) (.ok ()) := by
    intro f
    induction f with
    | zero =>
      intro j L1 I1 A1 hj h1 hl1
      refine c_D.pla 2 (by decide) rfl ?_
      refine c_D.back (t := (7, [(2, .int (nI j)), (0, .ref 27), (1, .retAddr i)], [.int (nI (am_sl.getD i 0)), .int (nI j)], am_H g I1 A1 J X)) (fun B C u c Q hu hc k' => am_txc (nx := 7) (cp := 35) (M' := 2) (by decide +kernel) rfl (Nat.blt_eq.mpr hi) (t_len hi) (by decide) hu hc k') am_Fr.refl ?_
      refine c_D.yea 9 (by decide) rfl (nI_le (show am_sl.getD i 0 ≤ j by omega) (by omega)) ?_
      exact c_D.ret 9 (by decide) rfl trivial ⟨rfl, by simpa [w_ch] using h1⟩
    | succ f ih =>
      intro j L1 I1 A1 hj h1 hl1
      have hch := am_chr_ok i hi j (by omega)
      refine c_D.pla 2 (by decide) rfl ?_
      refine c_D.back (t := (7, [(2, .int (nI j)), (0, .ref 27), (1, .retAddr i)], [.int (nI (am_sl.getD i 0)), .int (nI j)], am_H g I1 A1 J X)) (fun B C u c Q hu hc k' => am_txc (nx := 7) (cp := 35) (M' := 2) (by decide +kernel) rfl (Nat.blt_eq.mpr hi) (t_len hi) (by decide) hu hc k') am_Fr.refl ?_
      refine c_D.nay 9 (by decide) rfl (nI_ge (show j < am_sl.getD i 0 by omega) hl31) ?_
      refine c_D.pla 3 (by decide) rfl ?_
      refine c_D.back (t := (16, [(2, .int (nI j)), (0, .ref 27), (1, .retAddr i)], [.int (am_chr i j), .ref 27], am_H g I1 A1 J X)) (fun B C u c Q hu hc k' => am_txc (nx := 16) (cp := 41) (M' := 3) (by decide +kernel) rfl (Nat.blt_eq.mpr hi) (t_charAt hi (show j < am_sl.getD i 0 by omega)) (by decide) hu hc k') am_Fr.refl ?_
      refine c_D.put (n := 9) (by decide) rfl h1 (by omega) hch.2 (fun I2 A2 h2 hf2 => ?_)
      refine c_D.pla 2 (by decide) rfl ?_
      rw [nI_1]
      refine (ih (j + 1) _ I2 A2 (by omega) h2 (by simp; omega)).mono ?_
      rintro a v I' A' - ⟨k1, k2⟩
      refine ⟨k1, ?_⟩
      simpa [w_ch, List.append_assoc] using k2
  refine c_D.met rfl rfl ?_
  refine c_D.pla 2 (by decide) rfl ?_
  exact loop (am_sl.getD i 0) 0 L I A (by omega) h hl
theorem k_bgl {d : Nat} (hd : d < 100) (h : c_Wr L I A) (hl : L.length + 2 * d ≤ 3120) : c_M c_wc 5 95 [.ref 27, .int (nI d)] g I A J X (c_Wv (w_id d) L none) (.ok ()) := by
  have loop : ∀ (f i : Nat) (L1 : List Int32) (I1 A1 : Nat → Nat → Int32), i + f = d → c_Wr L1 I1 A1 → L1.length + 2 * f ≤ 3120 → c_D c_wc 95 5 g J X I1 A1 (2, [(2, .int (nI i)), (0, .ref 27), (1, .int (nI d))], [], am_H g I1 A1 J X) (c_Wv (w_id f) L1 none) (.ok ()) := by
    intro f
    induction f with
    | zero =>
      intro i L1 I1 A1 hi h1 hl1
      refine c_D.yea 9 (by decide) rfl (nI_le (by omega) (by omega)) ?_
      exact c_D.ret 9 (by decide) rfl trivial ⟨rfl, by simpa [w_id] using h1⟩
    | succ f ih =>
      intro i L1 I1 A1 hi h1 hl1
      refine c_D.nay 9 (by decide) rfl (nI_ge (by omega) (by omega)) ?_
      refine c_D.wr (n' := 9) (by decide) rfl (by decide) (k_pw (i := 18) (by decide) h1 (by show L1.length + 2 ≤ 3120; omega)) (fun I2 A2 h2 hf2 => ?_)
      refine c_D.pla 2 (by decide) rfl ?_
      rw [nI_1]
      refine (ih (i + 1) _ I2 A2 (by omega) h2 ?_).mono ?_
      · show (L1 ++ [32, 32]).length + 2 * f ≤ 3120
        simp; omega
      rintro a v I' A' - ⟨k1, k2⟩
      refine ⟨k1, ?_⟩
      have e1 : w_id (f + 1) = [32, 32] ++ w_id f := by
        unfold w_id
        rw [show 2 * (f + 1) = 2 * f + 1 + 1 from by omega, List.replicate_succ, List.replicate_succ]
        rfl
      rw [e1, ← List.append_assoc]
      exact k2
  refine c_D.met rfl rfl ?_
  refine c_D.pla 2 (by decide) rfl ?_
  exact loop d 0 L I A (by omega) h hl
theorem t_kindOf {j : Nat} (h : c_Vw tx n T tk S m I A) (hj : j < m) : am_Con 1 36 [.ref 9, .int (nI j)] (am_H g I A J X) (.inl (some (.int (S 0 j)))) (am_H g I A J X) 0 0 := by
  have hm := h.2.2.2.1
  refine am_met rfl rfl ?_
  refine am_nay 9 (by decide) rfl (nI_pos (by omega)) ?_
  refine am_nay 9 (by decide) rfl (by rw [h.2.2.1]; exact nI_ge hj (by omega)) ?_
  refine am_nee 9 (by decide) rfl (nI_in (show j < 360 by omega) (by decide)) ?_
  refine am_end 9 (by decide) rfl trivial (by decide) (by decide) ⟨?_, rfl⟩
  rw [nI_clamp (by omega), ← h.2.2.2.2 0 (by decide)]
theorem t_firstOf {j : Nat} (h : c_Vw tx n T tk S m I A) (hj : j < m) : am_Con 1 40 [.ref 9, .int (nI j)] (am_H g I A J X) (.inl (some (.int (S 4 j)))) (am_H g I A J X) 0 0 := by
  have hm := h.2.2.2.1
  refine am_met rfl rfl ?_
  refine am_nay 9 (by decide) rfl (nI_pos (by omega)) ?_
  refine am_nay 9 (by decide) rfl (by rw [h.2.2.1]; exact nI_ge hj (by omega)) ?_
  refine am_nee 9 (by decide) rfl (nI_in (show j < 360 by omega) (by decide)) ?_
  refine am_end 9 (by decide) rfl trivial (by decide) (by decide) ⟨?_, rfl⟩
  rw [nI_clamp (by omega), ← h.2.2.2.2 4 (by decide)]
theorem t_next {j : Nat} (h : c_Vw tx n T tk S m I A) (hj : j < m) : am_Con 1 41 [.ref 9, .int (nI j)] (am_H g I A J X) (.inl (some (.int (S 6 j)))) (am_H g I A J X) 0 0 := by
  rw [← h.2.2.2.2 6 (by decide)]
  exact t_nextOf h.2.2.1 (Nat.le_trans h.2.2.2.1 (by decide)) hj
theorem t_tokn {j : Nat} (h : c_Vw tx n T tk S m I A) (hj : j < m) : am_Con 1 37 [.ref 9, .int (nI j)] (am_H g I A J X) (.inl (some (.int (S 1 j)))) (am_H g I A J X) 0 0 := by
  rw [← h.2.2.2.2 1 (by decide)]
  exact t_tokenOf h.2.2.1 (Nat.le_trans h.2.2.2.1 (by decide)) hj
/-- a token's text -/
def w_tt (tx : Nat → Int32) (tk : Nat → aT) (k : Nat) : List Int32 := w_tx tx (tk k).2.2.1 (tk k).2.2.2
theorem k_pt {j t : Nat} (h : c_Vw tx n T tk S m I A) (hj : j < m) (hs : S 1 j = nI t) (ht : t < T) (hb : (tk t).2.2.1 + (tk t).2.2.2 ≤ n) (hw : c_Wr L I A) (hl : L.length + (w_tt tx tk t).length ≤ 3120) : c_M c_wc 3 94 [.ref 27, .int (nI j)] g I A J X (c_Wv (w_tt tx tk t) L none) (.ok ()) := by
  refine (k_ptk h.2.1 h.1 h.2.2.1 (Nat.le_trans h.2.2.2.1 (by decide)) hj ((congrFun (h.2.2.2.2 1 (by decide)) j).trans hs) ht hb hw (by unfold w_tt at hl; rw [w_tx_len] at hl; exact hl)).mono ?_
  rintro a v I' A' - ⟨k1, k2⟩
  exact ⟨k1, k2⟩
end CWO
