/-! THE REFERENCE WRITES -/
/-- what is written so far -/
def m_Wr (L : List Int32) (I A : Nat → Nat → Int32) : Prop := I 29 39 = nI L.length ∧ ∀ k, k < L.length → A 52 k = L.getD k 0
/-- a method that writes W behind it -/
def m_Wt (W L : List Int32) (J : Nat → Nat → Int64) : mP := fun v I' A' J' => v = none ∧ J' = J ∧ m_Wr (L ++ W) I' A'
/-- the characters of a piece of the text -/
def w_tx (tx : Nat → Int32) (p : Nat) : Nat → List Int32
  | 0 => []
  | e + 1 => tx p :: w_tx tx (p + 1) e
theorem w_tx_len {tx : Nat → Int32} : ∀ {p e : Nat}, (w_tx tx p e).length = e
  | _, 0 => rfl
  | p, e + 1 => by simp [w_tx, w_tx_len (p := p + 1) (e := e)]
section MPU
variable {g : List aK} {X : Nat × (Nat → Int32)} {I A : Nat → Nat → Int32} {J : Nat → Nat → Int64} {L : List Int32}
theorem m_Wr.put {c : Int32} (h : m_Wr L I A) : m_Wr (L ++ [c]) (am_u I 29 39 (nI (L.length + 1))) (am_u A 52 L.length c) := by
  refine ⟨by rw [am_uk]; simp, fun k hk => ?_⟩
  by_cases e : k = L.length
  · subst e
    rw [am_uk]
    simp
  · have hk' : k < L.length := by simp at hk; omega
    rw [am_un (fun z => e z.2), h.2 k hk']
    simp [List.getD, List.getElem?_append_left hk']
theorem y_put {c : Int32} (h : m_Wr L I A) (hl : L.length < 3000) : am_Con 1 175 [.ref 29, .int c] (am_H g I A J X) (.inl none) (am_H g (am_u I 29 39 (nI (L.length + 1))) (am_u A 52 L.length c) J X) 0 0 := by
  refine am_met rfl rfl ?_
  refine am_nee 9 (by decide) rfl (by rw [h.1]; exact nI_in hl (by decide)) ?_
  refine am_end 12 (by decide) rfl trivial (by decide) (by decide) ⟨rfl, ?_⟩
  rw [h.1, nI_clamp (by omega), nI_1]
def m_fw : List Nat := [39]
def m_cw : List Nat := [52]
theorem m_putFr {c v : Int32} {k : Nat} : m_Fr m_fw m_cw I A J (am_u I 29 39 v) (am_u A 52 k c) J := (m_Fr.put (by decide)).trans (m_Fr.set (by decide))
/-- after a put, with what is written -/
theorem m_D.put {M d n nx : Nat} {ls : List (Nat × Value)} {sk : List Value} {c : Int32} {s0 : aS} {P : mP} (h1d : 2 ≤ d) (hr : am_run n M s0 = am_ca 175 [.ref 29, .int c] (nx, ls, sk, am_H g I A J X)) (h : m_Wr L I A) (hl : L.length < 3000) (k : ∀ I1 A1, m_Wr (L ++ [c]) I1 A1 → m_Fr m_fw m_cw I A J I1 A1 J → m_D m_fw m_cw M d g X I1 A1 J (nx - 3 + 3, ls, sk, am_H g I1 A1 J X) P) : m_D m_fw m_cw M d g X I A J s0 P :=
  m_D.can (by omega) hr (y_put h hl) h1d m_putFr (k _ _ h.put m_putFr)
theorem y_ind {lv : Nat} (h : m_Wr L I A) (hl : L.length + 2 * lv ≤ 3000) (hlv : lv < 1000) : m_M m_fw m_cw 2 182 [.ref 29, .int (nI lv)] g I A J X (m_Wt (List.replicate (2 * lv) 32) L J) := by
  have loop : ∀ (f i : Nat) (L1 : List Int32) (I1 A1 : Nat → Nat → Int32), i + f = lv → m_Wr L1 I1 A1 → L1.length + 2 * f ≤ 3000 → m_D m_fw m_cw 182 2 g X I1 A1 J (2, [(2, .int (nI i)), (0, .ref 29), (1, .int (nI lv))], [], am_H g I1 A1 J X) (m_Wt (List.replicate (2 * f) 32) L1 J) := by
    intro f
    induction f with
    | zero =>
      intro i L1 I1 A1 hi h1 hl1
      refine m_D.yea 9 (by decide) rfl (nI_le (by omega) (by omega)) ?_
      exact m_D.ret 9 (by decide) rfl trivial m_Fr.refl ⟨rfl, rfl, by simpa using h1⟩
    | succ f ih =>
      intro i L1 I1 A1 hi h1 hl1
      refine m_D.nay 9 (by decide) rfl (nI_ge (by omega) (by omega)) ?_
      refine m_D.put (n := 9) (by decide) rfl h1 (by omega) (fun I2 A2 h2 _ => ?_)
      refine m_D.put (n := 9) (by decide) rfl h2 (by simp; omega) (fun I3 A3 h3 _ => ?_)
      refine m_D.pla 2 (by decide) rfl ?_
      rw [nI_1]
      refine (ih (i + 1) _ I3 A3 (by omega) h3 (by simp; omega)).mono ?_
      rintro v I' A' J' ⟨k1, k2, k3⟩ -
      refine ⟨k1, k2, ?_⟩
      rw [show 2 * (f + 1) = 2 * f + 1 + 1 from by omega, List.replicate_succ, List.replicate_succ]
      simpa [List.append_assoc] using k3
  refine m_D.met rfl rfl ?_
  refine m_D.pla 2 (by decide) rfl ?_
  exact loop lv 0 L I A (by omega) h (by omega)
theorem y_ptk {T n k : Nat} {tk : Nat → aT} {tx : Nat → Int32} (hT : m_Tk I A J T tk) (hx : m_T tx n I A) (hk : k < T) (hb : (tk k).2.2.1 + (tk k).2.2.2 ≤ n) (h : m_Wr L I A) (hl : L.length + (tk k).2.2.2 ≤ 3000) : m_M m_fw m_cw 2 176 [.ref 29, .int (nI k)] g I A J X (m_Wt (w_tx tx (tk k).2.2.1 (tk k).2.2.2) L J) := by
  have hn := hx.2.1
  have h120 := hT.2.1
  have ek : (nI k).toNatClampNeg = k := nI_clamp (by omega)
  have hin : ¬ (nI k < 0 ∨ 120 ≤ (nI k).toNatClampNeg) := nI_in (show k < 120 by omega) (by decide)
  have loop : ∀ (f i : Nat) (L1 : List Int32) (I1 A1 : Nat → Nat → Int32), i + f = (tk k).2.2.2 → m_Wr L1 I1 A1 → m_Fr m_fw m_cw I A J I1 A1 J → L1.length + f ≤ 3000 → m_D m_fw m_cw 176 2 g X I1 A1 J (2, [(2, .int (nI i)), (0, .ref 29), (1, .int (nI k))], [], am_H g I1 A1 J X) (m_Wt (w_tx tx ((tk k).2.2.1 + i) f) L1 J) := by
    intro f
    induction f with
    | zero =>
      intro i L1 I1 A1 hi h1 hf hl1
      have e34 : A1 34 (nI k).toNatClampNeg = nI (tk k).2.2.2 := by rw [ek, hf.2.2.1 34 (by decide)]; exact (hT.2.2.1 k hk).2.2.1
      refine m_D.nee 9 (by decide) rfl hin ?_
      refine m_D.yea 9 (by decide) rfl (by rw [e34]; exact nI_le (by omega) (by omega)) ?_
      exact m_D.ret 9 (by decide) rfl trivial m_Fr.refl ⟨rfl, rfl, by simpa [w_tx] using h1⟩
    | succ f ih =>
      intro i L1 I1 A1 hi h1 hf hl1
      have e34 : A1 34 (nI k).toNatClampNeg = nI (tk k).2.2.2 := by rw [ek, hf.2.2.1 34 (by decide)]; exact (hT.2.2.1 k hk).2.2.1
      have e33 : A1 33 (nI k).toNatClampNeg + nI i = nI ((tk k).2.2.1 + i) := by rw [ek, hf.2.2.1 33 (by decide), (hT.2.2.1 k hk).2.1, nI_add]
      refine m_D.nee 9 (by decide) rfl hin ?_
      refine m_D.nay 9 (by decide) rfl (by rw [e34]; exact nI_ge (by omega) (by omega)) ?_
      refine m_D.nee 9 (by decide) rfl hin ?_
      refine m_D.nee 9 (by decide) rfl (by rw [e33]; exact nI_in (show (tk k).2.2.1 + i < 600 by omega) (by decide)) ?_
      rw [show A1 31 (A1 33 (nI k).toNatClampNeg + nI i).toNatClampNeg = tx ((tk k).2.2.1 + i) from by rw [e33, nI_clamp (by omega), hf.2.2.1 31 (by decide)]; exact hx.2.2.1 _ (by omega)]
      refine m_D.put (n := 9) (by decide) rfl h1 (by omega) (fun I2 A2 h2 hf2 => ?_)
      refine m_D.pla 2 (by decide) rfl ?_
      rw [nI_1]
      refine (ih (i + 1) _ I2 A2 (by omega) h2 (hf.trans hf2) (by simp; omega)).mono ?_
      rintro v I' A' J' ⟨k1, k2, k3⟩ -
      refine ⟨k1, k2, ?_⟩
      simpa [w_tx, List.append_assoc, Nat.add_assoc] using k3
  refine m_D.met rfl rfl ?_
  refine m_D.pla 2 (by decide) rfl ?_
  have := loop (tk k).2.2.2 0 L I A (by omega) h m_Fr.refl hl
  rw [Nat.add_zero] at this
  exact this
end MPU
