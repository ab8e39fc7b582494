/-! THE CLASS'S TREE and tokens, as the parser uses them -/
def c_st (A : Nat → Nat → Int32) : aN := fun f => A (10 + f)
theorem c_st_u {A : Nat → Nat → Int32} {f k : Nat} {v : Int32} : c_st (am_u A (10 + f) k v) = am_u (c_st A) f k v := by
  funext x y
  simp [c_st, am_u]
/-- the last parts, as the class keeps them -/
def c_La (m : Nat) (S : aN) : Prop := ∀ k, k < m → (S 3 k = 0 → S 5 k = -1) ∧ (S 3 k ≠ 0 → ∃ i, i < m ∧ S 5 k = nI i)
def d_mk (T : Nat) (tk : Nat → aT) (p : Nat) : Int32 := if p < T then (tk p).2.1 else -1
def d_pc (tk : Nat → aT) (p : Nat) : Nat := (tk p).2.2.1
/-- the parser's state: next token p, m nodes -/
def p_I (T : Nat) (tk : Nat → aT) (p m : Nat) (I A : Nat → Nat → Int32) : Prop := I 26 3 = nI p ∧ I 9 9 = nI m ∧ m ≤ 360 ∧ p ≤ 120 ∧ c_Tk I A T tk ∧ c_La m (c_st A)
/-- the cells that the parser writes -/
def p_cs : List Nat := [9, 10, 11, 12, 13, 14, 15, 16, 17, 26]
section CTR
variable {g : List aK} {I A : Nat → Nat → Int32} {J : Nat → Nat → Int64} {X : Nat × (Nat → Int32)} {T : Nat} {tk : Nat → aT} {p m : Nat}
theorem t_mark (hT : c_Tk I A T tk) (hp : p < 2 ^ 31) : am_Con 1 28 [.ref 4, .int (nI p)] (am_H g I A J X) (.inl (some (.int (d_mk T tk p)))) (am_H g I A J X) 0 0 := by
  unfold d_mk
  have h120 := hT.2.1
  refine am_met rfl rfl ?_
  refine am_nay 9 (by decide) rfl (nI_pos hp) ?_
  by_cases c : p < T
  · rw [if_pos c]
    refine am_nay 9 (by decide) rfl (by rw [hT.1]; exact nI_ge c (by omega)) ?_
    refine am_nee 9 (by decide) rfl (nI_in (show p < 120 by omega) (by decide)) ?_
    refine am_end 9 (by decide) rfl trivial (by decide) (by decide) ⟨?_, rfl⟩
    rw [nI_clamp hp, (hT.2.2 p c).2.1]
  · rw [if_neg c]
    refine am_yea 9 (by decide) rfl (by rw [hT.1]; exact nI_le (by omega) hp) ?_
    exact am_end 9 (by decide) rfl trivial (by decide) (by decide) ⟨rfl, rfl⟩
theorem t_place (hT : c_Tk I A T tk) (hp : p < T) : am_Con 1 29 [.ref 4, .int (nI p)] (am_H g I A J X) (.inl (some (.int (nI (d_pc tk p))))) (am_H g I A J X) 0 0 := by
  have h120 := hT.2.1
  refine am_met rfl rfl ?_
  refine am_nay 9 (by decide) rfl (nI_pos (by omega)) ?_
  refine am_nay 9 (by decide) rfl (by rw [hT.1]; exact nI_ge hp (by omega)) ?_
  refine am_nee 9 (by decide) rfl (nI_in (show p < 120 by omega) (by decide)) ?_
  refine am_end 9 (by decide) rfl trivial (by decide) (by decide) ⟨?_, rfl⟩
  rw [nI_clamp (by omega), (hT.2.2 p hp).2.2.1]
  rfl
theorem t_isAt {x : Int32} (h : p_I T tk p m I A) : am_Con 2 65 [.ref 26, .int x] (am_H g I A J X) (.inl (some (.int (am_b (decide (d_mk T tk p = x)))))) (am_H g I A J X) 0 0 := by
  refine am_met rfl rfl ?_
  refine am_cav 9 (by decide) rfl (by rw [h.1]; exact t_mark h.2.2.2.2.1 (by have := h.2.2.2.1; omega)) (by decide) (by decide) (by decide) ?_
  by_cases c : d_mk T tk p = x
  · refine am_nay 9 (by decide) rfl (fun z => z c) ?_
    exact am_end 9 (by decide) rfl (Or.inr rfl) (by decide) (by decide) ⟨by simp [c, am_b], rfl⟩
  · refine am_yea 9 (by decide) rfl c ?_
    exact am_end 9 (by decide) rfl (Or.inl rfl) (by decide) (by decide) ⟨by simp [c, am_b], rfl⟩
theorem t_adv (h : I 26 3 = nI p) (hp : p < 2 ^ 20) : am_Con 1 66 [.ref 26] (am_H g I A J X) (.inl (some (.int (nI p)))) (am_H g (am_u I 26 3 (nI (p + 1))) A J X) 0 0 := by
  refine am_met rfl rfl ?_
  refine am_end 12 (by decide) rfl trivial (by decide) (by decide) ⟨?_, ?_⟩
  · rw [am_uk, h, nI_1, show (1 : Int32) = nI 1 from rfl, nI_sub (by omega)]
    rfl
  · rw [h, nI_1]
theorem p_I.adv (h : p_I T tk p m I A) (hp : p < 120) : p_I T tk (p + 1) m (am_u I 26 3 (nI (p + 1))) A := by
  obtain ⟨h1, h2, h3, h4, h5, h6⟩ := h
  refine ⟨am_uk, ?_, h3, by omega, ⟨?_, h5.2⟩, h6⟩
  · simpa [am_u] using h2
  · simpa [am_u] using h5.1
/-- what is expected -/
theorem t_exp {x : Int32} (h : p_I T tk p m I A) (hp : p < T) : c_M p_cs 9 67 [.ref 26, .int x] g I A J X (fun a v I' A' => v = some (.int (nI p)) ∧ I' = am_u I 26 3 (nI (p + 1)) ∧ A' = A ∧ a = p + 1) (if d_mk T tk p = x then .ok (p + 1) else .error (9, d_pc tk p)) := by
  have h5 := h.2.2.2.2.1
  have h120 := h5.2.1
  have st : am_To 67 9 (0, lv_args 0 [.ref 26, .int x], [], am_H g I A J X) (11, [(0, .ref 26), (1, .int x)], [.int (d_mk T tk p)], am_H g I A J X) := by
    intro B C u c Q hu hc k
    refine am_cav 9 (by decide) rfl (by rw [h.1]; exact t_mark h5 (by omega)) (by decide) hu hc ?_
    exact k
  by_cases c : d_mk T tk p = x
  · rw [if_pos c]
    refine c_G.met (R := fun a I' A' s' => I' = am_u I 26 3 (nI (p + 1)) ∧ A' = A ∧ a = p + 1 ∧ s' = (39, [(0, .ref 26), (1, .int x)], [.int (nI p)], am_H g I' A' J X)) rfl rfl (c_G.ok (s1 := (39, [(0, .ref 26), (1, .int x)], [.int (nI p)], am_H g (am_u I 26 3 (nI (p + 1))) A J X)) ⟨rfl, rfl, rfl, rfl⟩ (am_Fr.put (by decide)) (st.trans ?_)) (fun a I' A' s' _ hr => ?_)
    · intro B C u c' Q hu hc k
      refine am_yea 9 (by decide) rfl c ?_
      refine am_cav 9 (by decide) rfl (t_adv h.1 (by omega)) (by decide) hu hc ?_
      exact k
    · obtain ⟨rfl, rfl, r3, rfl⟩ := hr
      refine ⟨_, ⟨rfl, rfl, rfl, r3⟩, fun B C u c Q hu hc hq => ?_⟩
      exact am_end 9 (by decide) rfl trivial hu hc hq
  · rw [if_neg c]
    refine c_G.met (R := fun _ _ _ _ => False) rfl rfl (c_G.from (st.trans ?_) am_Fr.refl (c_G.ref (n := 9) (s0 := (32, [(0, .ref 26), (1, .int x)], [.int (nI (d_pc tk p)), .int 9, .ref 3], am_H g I A J X)) (by decide) rfl rfl (by decide) rfl)) (fun a I' A' s' _ hr => hr.elim)
    intro B C u c' Q hu hc k
    refine am_nay 9 (by decide) rfl c ?_
    refine am_cav 9 (by decide) rfl (by rw [h.1]; exact t_place h5 hp) (by decide) hu hc ?_
    exact k
/-- how many are begun -/
theorem t_opn {o t : Nat} (h5 : c_Tk I A T tk) (ho : o ≤ 12) (ht : t < T) : c_M p_cs 9 87 [.ref 26, .int (nI o), .int (nI t)] g I A J X (fun (_ : Unit) v I' A' => v = some (.int (nI (o + 1))) ∧ I' = I ∧ A' = A) (if o = 12 then .error (3, d_pc tk t) else .ok ()) := by
  by_cases c : o = 12
  · rw [if_pos c]
    refine c_G.met (R := fun _ _ _ _ => False) rfl rfl (c_G.from (s1 := (19, [(0, .ref 26), (1, .int (nI o)), (2, .int (nI t))], [.int (nI (d_pc tk t)), .int 3, .ref 3], am_H g I A J X)) ?_ am_Fr.refl (c_G.ref (n := 9) (by decide) rfl rfl (by decide) rfl)) (fun a I' A' s' _ hr => hr.elim)
    intro B C u c' Q hu hc k
    refine am_nay 9 (by decide) rfl (nI_nlt (b := 12) (by omega) (by omega)) ?_
    refine am_cav 9 (by decide) rfl (t_place h5 ht) (by decide) hu hc ?_
    exact k
  · rw [if_neg c]
    refine ⟨I, A, _, ⟨rfl, rfl, rfl⟩, am_Fr.refl, am_met rfl rfl ?_⟩
    refine am_yea 9 (by decide) rfl (nI_lt (b := 12) (by omega) (by decide)) ?_
    refine am_end 9 (by decide) rfl trivial (by decide) (by decide) ⟨?_, rfl⟩
    rw [nI_1]
end CTR
