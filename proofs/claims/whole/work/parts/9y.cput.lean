/-! THE CLASS WRITES -/
def c_Wr (L : List Int32) (I A : Nat → Nat → Int32) : Prop := I 27 4 = nI L.length ∧ (∀ k, k < L.length → A 28 k = L.getD k 0) ∧ ∀ x ∈ L, narrow .char (.int x) = .int x
def c_Wt (W L : List Int32) (_ : Unit) (v : Option Value) (I' A' : Nat → Nat → Int32) : Prop := v = none ∧ c_Wr (L ++ W) I' A'
/-- the cells that the writer writes -/
def c_wc : List Nat := [27, 28]
section CPU
variable {g : List aK} {J : Nat → Nat → Int64} {X : Nat × (Nat → Int32)} {I A : Nat → Nat → Int32} {L : List Int32}
theorem c_Wr.put {c : Int32} (h : c_Wr L I A) (hc : narrow .char (.int c) = .int c) : c_Wr (L ++ [c]) (am_u I 27 4 (nI (L.length + 1))) (am_u A 28 L.length c) := by
  refine ⟨by rw [am_uk]; simp, fun k hk => ?_, fun x hx => by
    rcases List.mem_append.mp hx with z | z
    · exact h.2.2 x z
    · rw [List.mem_singleton.mp z]; exact hc⟩
  by_cases e : k = L.length
  · subst e
    rw [am_uk]
    simp
  · have hk' : k < L.length := by simp at hk; omega
    rw [am_un (fun z => e z.2), h.2.1 k hk']
    simp [List.getD, List.getElem?_append_left hk']
theorem t_put {c : Int32} (h : c_Wr L I A) (hl : L.length < 3120) (hc : narrow .char (.int c) = .int c) : am_Con 1 92 [.ref 27, .int c] (am_H g I A J X) (.inl none) (am_H g (am_u I 27 4 (nI (L.length + 1))) (am_u A 28 L.length c) J X) 0 0 := by
  refine am_met rfl rfl ?_
  refine am_nay 9 (by decide) rfl (by rw [h.1]; exact nI_pos (by omega)) ?_
  refine am_nay 9 (by decide) rfl (by rw [h.1]; exact nI_ge hl (by decide)) ?_
  refine am_nee 9 (by decide) rfl (by rw [h.1]; exact nI_in hl (by decide)) ?_
  refine am_end 12 (by decide) rfl trivial (by decide) (by decide) ⟨rfl, ?_⟩
  have e : vp_nar .char c = c := by simp [vp_nar, hc]
  rw [h.1, nI_clamp (by omega), nI_1, e]
theorem c_putFr {c v : Int32} {k : Nat} : am_Fr c_wc I A (am_u I 27 4 v) (am_u A 28 k c) := (am_Fr.put (by decide)).trans (am_Fr.set (by decide))
theorem c_D.put {α : Type} {M d n nx : Nat} {ls : List (Nat × Value)} {sk : List Value} {c : Int32} {s0 : aS} {R : α → Option Value → (Nat → Nat → Int32) → (Nat → Nat → Int32) → Prop} {r : Except aF α} (h1d : 2 ≤ d) (hr : am_run n M s0 = am_ca 92 [.ref 27, .int c] (nx, ls, sk, am_H g I A J X)) (h : c_Wr L I A) (hl : L.length < 3120) (hc : narrow .char (.int c) = .int c) (k : ∀ I1 A1, c_Wr (L ++ [c]) I1 A1 → am_Fr c_wc I A I1 A1 → c_D c_wc M d g J X I1 A1 (nx - 3 + 3, ls, sk, am_H g I1 A1 J X) R r) : c_D c_wc M d g J X I A s0 R r :=
  c_D.can (by omega) hr (t_put h hl hc) h1d c_putFr (k _ _ (h.put hc) c_putFr)
theorem t_ext {T p : Nat} {tk : Nat → aT} (hT : c_Tk I A T tk) (hp : p < T) : am_Con 1 30 [.ref 4, .int (nI p)] (am_H g I A J X) (.inl (some (.int (nI (tk p).2.2.2)))) (am_H g I A J X) 0 0 := by
  have h120 := hT.2.1
  refine am_met rfl rfl ?_
  refine am_nay 9 (by decide) rfl (nI_pos (by omega)) ?_
  refine am_nay 9 (by decide) rfl (by rw [hT.1]; exact nI_ge hp (by omega)) ?_
  refine am_nee 9 (by decide) rfl (nI_in (show p < 120 by omega) (by decide)) ?_
  refine am_end 9 (by decide) rfl trivial (by decide) (by decide) ⟨?_, rfl⟩
  rw [nI_clamp (by omega), (hT.2.2 p hp).2.2.2]
theorem k_ptk {T n k j m : Nat} {tk : Nat → aT} {tx : Nat → Int32} (hT : c_Tk I A T tk) (hx : c_T tx n I A) (hm : I 9 9 = nI m) (hm3 : m ≤ 360) (hj : j < m) (hjk : A 11 j = nI k) (hk : k < T) (hb : (tk k).2.2.1 + (tk k).2.2.2 ≤ n) (h : c_Wr L I A) (hl : L.length + (tk k).2.2.2 ≤ 3120) : c_M c_wc 3 94 [.ref 27, .int (nI j)] g I A J X (c_Wt (w_tx tx (tk k).2.2.1 (tk k).2.2.2) L) (.ok ()) := by
  have hn := hx.2.1
  have loop : ∀ (f i : Nat) (L1 : List Int32) (I1 A1 : Nat → Nat → Int32), i + f = (tk k).2.2.2 → c_Wr L1 I1 A1 → am_Fr c_wc I A I1 A1 → L1.length + f ≤ 3120 → c_D c_wc 94 3 g J X I1 A1 (31, [(5, .int (nI i)), (4, .int (nI (tk k).2.2.2)), (3, .int (nI (tk k).2.2.1)), (2, .int (nI k)), (0, .ref 27), (1, .int (nI j))], [], am_H g I1 A1 J X) (c_Wt (w_tx tx ((tk k).2.2.1 + i) f) L1) (.ok ()) := by
    intro f
    induction f with
    | zero =>
      intro i L1 I1 A1 hi h1 hf hl1
      refine c_D.yea 9 (by decide) rfl (nI_le (by omega) (by omega)) ?_
      exact c_D.ret 9 (by decide) rfl trivial ⟨rfl, by simpa [w_tx] using h1⟩
    | succ f ih =>
      intro i L1 I1 A1 hi h1 hf hl1
      have hx1 : c_T tx n I1 A1 := ⟨by rw [(hf 1 (by decide)).1]; exact hx.1, hx.2.1, by rw [(hf 2 (by decide)).2]; exact hx.2.2.1, hx.2.2.2⟩
      have hat := k_at (g := g) (J := J) (X := X) (p := (tk k).2.2.1 + i) hx1 (by omega)
      have ech : s_ch tx n ((tk k).2.2.1 + i) = tx ((tk k).2.2.1 + i) := if_pos (by omega)
      rw [ech] at hat
      refine c_D.nay 9 (by decide) rfl (nI_ge (by omega) (by omega)) ?_
      refine c_D.cav (n := 9) (by decide) (by rw [← nI_add]; rfl) hat (by decide) am_Fr.refl ?_
      refine c_D.put (n := 9) (by decide) rfl h1 (by omega) (c_char_n (hx.2.2.2 _ (by omega))) (fun I2 A2 h2 hf2 => ?_)
      refine c_D.pla 2 (by decide) rfl ?_
      rw [nI_1]
      refine (ih (i + 1) _ I2 A2 (by omega) h2 (hf.trans hf2) (by simp; omega)).mono ?_
      rintro a v I' A' - ⟨k1, k2⟩
      refine ⟨k1, ?_⟩
      simpa [w_tx, List.append_assoc, Nat.add_assoc] using k2
  have ht := t_tokenOf (g := g) (A := A) (J := J) (X := X) hm hm3 hj
  rw [show c_st A 1 j = nI k from hjk] at ht
  refine c_D.met rfl rfl ?_
  refine c_D.cav (n := 9) (by decide) rfl ht (by decide) am_Fr.refl ?_
  refine c_D.cav (n := 9) (by decide) rfl (t_place hT hk) (by decide) am_Fr.refl ?_
  refine c_D.cav (n := 9) (by decide) rfl (t_ext hT hk) (by decide) am_Fr.refl ?_
  refine c_D.pla 3 (by decide) rfl ?_
  have := loop (tk k).2.2.2 0 L I A (by omega) h am_Fr.refl hl
  rw [Nat.add_zero] at this
  exact this
end CPU
