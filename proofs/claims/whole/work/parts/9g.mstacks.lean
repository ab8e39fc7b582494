/-! THE REFERENCE'S PARSER: its stacks -/
def x_Kr (f f' f'' : Nat → Int32) : List xK → Prop
  | [] => True
  | (k, t, nd) :: r => f r.length = k ∧ f' r.length = nI t ∧ (k < 0 → f'' r.length = nI nd) ∧ x_Kr f f' f'' r
theorem x_Kr.same {f f' f'' e e' e'' : Nat → Int32} : ∀ {K : List xK}, (∀ k, k < K.length → e k = f k ∧ e' k = f' k ∧ e'' k = f'' k) → x_Kr f f' f'' K → x_Kr e e' e'' K
  | [], _, _ => trivial
  | (k, t, nd) :: r, h, hw => by
    obtain ⟨h1, h2, h3⟩ := h r.length (by simp)
    exact ⟨h1.trans hw.1, h2.trans hw.2.1, fun z => h3.trans (hw.2.2.1 z), x_Kr.same (fun k hk => h k (by simp; omega)) hw.2.2.2⟩
def m_X (T : Nat) (tk : Nat → aT) (X : xX) (I A : Nat → Nat → Int32) (J : Nat → Nat → Int64) : Prop := match X with
  | (p, K, V, m, S) => I 29 31 = nI p ∧ I 29 35 = nI K.length ∧ x_Kr (A 48) (A 49) (A 50) K ∧ I 29 37 = nI V.length ∧ c_P (A 51) V ∧ I 29 29 = nI m ∧ m_st A = S ∧ m_Tk I A J T tk
/-- kinds and marks of the tokens -/
def d_K (T : Nat) (tk : Nat → aT) : Prop := ∀ k, k < T → (tk k).1 = s_kd (tk k).2.1 ∧ ((tk k).2.1 < 22 ∨ s_one (tk k).2.1 = true ∨ s_pm (tk k).2.1 = true)
def x_nb : List xK → Nat
  | [] => 0
  | (k, _) :: r => (if k = 1 ∨ k = 2 ∨ k = 4 ∨ k = 5 ∨ k = 6 then 1 else 0) + x_nb r
def x_no : List xK → Nat
  | [] => 0
  | (k, _) :: r => (if 0 < k then 1 else 0) + x_no r
theorem x_nb_le : ∀ (K : List xK), x_nb K ≤ K.length
  | [] => Nat.le_refl _
  | (k, _) :: r => by
    have := x_nb_le r
    simp only [x_nb, List.length_cons]
    split <;> omega
/-- sound entries -/
def x_Ko (T m : Nat) (e : xK) : Prop := e.2.1 < T ∧ (e.1 < 0 → e.2.2 < m) ∧ (e.1 = -3 ∨ e.1 = -2 ∨ e.1 = -1 ∨ e.1 = 0 ∨ e.1 = 1 ∨ e.1 = 2 ∨ e.1 = 3 ∨ e.1 = 4 ∨ e.1 = 5 ∨ e.1 = 6 ∨ e.1 = 7)
/-- sound nodes -/
def x_So (T m : Nat) (S : aN) : Prop := ∀ k, k < m → (S 3 k = 0 ∨ ∃ i, i < m ∧ S 5 k = nI i) ∧ ∃ t, t < T ∧ S 1 k = nI t
/-- what is always so: u values are finished beyond those of the operators -/
def x_J (T b u : Nat) (X : xX) : Prop := match X with
  | (p, K, V, m, S) => p < T ∧ K.length ≤ 12 ∧ V.length = x_nb K + u ∧ (∀ v ∈ V, v < m) ∧ (∀ e ∈ K, x_Ko T m e) ∧ m + x_no K ≤ b + p ∧ x_So T m S
def m_Rx (T : Nat) (tk : Nat → aT) (r : xE) : mP := fun v I' A' J' => match r with
  | .ok (st, X') => v = some (.int (nI st)) ∧ m_X T tk X' I' A' J'
  | .error q => v = some (.int (-1)) ∧ I' 29 3 = q.1 ∧ I' 29 4 = nI q.2
def m_Ry (T : Nat) (tk : Nat → aT) (r : xE) : mP := fun v I' A' J' => match r with
  | .ok (_, X') => v = some (.int 1) ∧ m_X T tk X' I' A' J'
  | .error q => v = some (.int 0) ∧ I' 29 3 = q.1 ∧ I' 29 4 = nI q.2
section MST
variable {g : List aK} {X : Nat × (Nat → Int32)} {I A : Nat → Nat → Int32} {J : Nat → Nat → Int64} {T p : Nat} {tk : Nat → aT}
theorem y_isS {d : Nat} (hT : m_Tk I A J T tk) (hK : d_K T tk) (h31 : I 29 31 = nI p) (hp : p < T) (hd : 22 ≤ d) (hd2 : d < 128) : am_Con 1 151 [.ref 29, .int (nI d)] (am_H g I A J X) (.inl (some (.int (am_b (decide (d_mk T tk p = nI d)))))) (am_H g I A J X) 0 0 := by
  have h120 := hT.2.1
  have e31 : (I 29 31).toNatClampNeg = p := by rw [h31, nI_clamp (by omega)]
  have hin : ¬ (I 29 31 < 0 ∨ 120 ≤ (I 29 31).toNatClampNeg) := by rw [h31]; exact nI_in (by omega) (by decide)
  have emk : d_mk T tk p = (tk p).2.1 := if_pos hp
  have hs := m_sign (k := (tk p).2.1) (c := nI d) rfl hd hd2
  have e32 : A 32 p = s_kd (tk p).2.1 := (hT.2.2.1 p hp).1.trans (hK p hp).1
  have e35 : J 35 p = m_cd (tk p).2.1 := (hT.2.2.1 p hp).2.2.2
  rw [emk]
  refine am_met rfl rfl ?_
  refine am_nee 9 (by decide) rfl hin ?_
  by_cases c1 : s_kd (tk p).2.1 = 5
  · refine am_nay 9 (by decide) rfl (by rw [e31, e32]; exact fun z => z c1) ?_
    refine am_nee 9 (by decide) rfl hin ?_
    by_cases c2 : m_cd (tk p).2.1 = (nI d).toInt64
    · refine am_nay 9 (by decide) rfl (by rw [e31, e35]; exact fun z => z (lg_cmp0.mpr c2)) ?_
      exact am_end 9 (by decide) rfl (Or.inr rfl) (by decide) (by decide) ⟨by simp [hs.mp ⟨c1, c2⟩, am_b], rfl⟩
    · refine am_yea 9 (by decide) rfl (by rw [e31, e35]; exact fun z => c2 (lg_cmp0.mp z)) ?_
      exact am_end 9 (by decide) rfl (Or.inl rfl) (by decide) (by decide) ⟨by rw [show decide ((tk p).2.1 = nI d) = false from by simpa using fun z => c2 (hs.mpr z).2]; rfl, rfl⟩
  · refine am_yea 9 (by decide) rfl (by rw [e31, e32]; exact c1) ?_
    exact am_end 9 (by decide) rfl (Or.inl rfl) (by decide) (by decide) ⟨by rw [show decide ((tk p).2.1 = nI d) = false from by simpa using fun z => c1 (hs.mpr z).1]; rfl, rfl⟩
theorem y_isW {i : Nat} (hT : m_Tk I A J T tk) (hK : d_K T tk) (h31 : I 29 31 = nI p) (hp : p < T) (hi : i < 11) : am_Con 1 152 [.ref 29, .long (m_wd.getD i 0)] (am_H g I A J X) (.inl (some (.int (am_b (decide (d_mk T tk p = nI (11 + i))))))) (am_H g I A J X) 0 0 := by
  have h120 := hT.2.1
  have e31 : (I 29 31).toNatClampNeg = p := by rw [h31, nI_clamp (by omega)]
  have hin : ¬ (I 29 31 < 0 ∨ 120 ≤ (I 29 31).toNatClampNeg) := by rw [h31]; exact nI_in (by omega) (by decide)
  have emk : d_mk T tk p = (tk p).2.1 := if_pos hp
  have hs := m_word (k := (tk p).2.1) hi
  have e32 : A 32 p = s_kd (tk p).2.1 := (hT.2.2.1 p hp).1.trans (hK p hp).1
  have e35 : J 35 p = m_cd (tk p).2.1 := (hT.2.2.1 p hp).2.2.2
  rw [emk]
  refine am_met rfl rfl ?_
  refine am_nee 9 (by decide) rfl hin ?_
  by_cases c1 : s_kd (tk p).2.1 = 2
  · refine am_nay 9 (by decide) rfl (by rw [e31, e32]; exact fun z => z c1) ?_
    refine am_nee 9 (by decide) rfl hin ?_
    by_cases c2 : m_cd (tk p).2.1 = m_wd.getD i 0
    · refine am_nay 9 (by decide) rfl (by rw [e31, e35]; exact fun z => z (lg_cmp0.mpr c2)) ?_
      exact am_end 9 (by decide) rfl (Or.inr rfl) (by decide) (by decide) ⟨by simp [hs.mp ⟨c1, c2⟩, am_b], rfl⟩
    · refine am_yea 9 (by decide) rfl (by rw [e31, e35]; exact fun z => c2 (lg_cmp0.mp z)) ?_
      exact am_end 9 (by decide) rfl (Or.inl rfl) (by decide) (by decide) ⟨by rw [show decide ((tk p).2.1 = nI (11 + i)) = false from by simpa using fun z => c2 (hs.mpr z).2]; rfl, rfl⟩
  · refine am_yea 9 (by decide) rfl (by rw [e31, e32]; exact c1) ?_
    exact am_end 9 (by decide) rfl (Or.inl rfl) (by decide) (by decide) ⟨by rw [show decide ((tk p).2.1 = nI (11 + i)) = false from by simpa using fun z => c1 (hs.mpr z).1]; rfl, rfl⟩
theorem y_unfit (hT : m_Tk I A J T tk) (h31 : I 29 31 = nI p) (hp : p < T) : am_Con 2 150 [.ref 29] (am_H g I A J X) (.inl (some (.int 0))) (am_H g (am_u (am_u I 29 3 9) 29 4 (nI (d_pc tk p))) A J X) 0 0 := by
  have h120 := hT.2.1
  have e31 : (I 29 31).toNatClampNeg = p := by rw [h31, nI_clamp (by omega)]
  have e33 : A 33 (I 29 31).toNatClampNeg = nI (d_pc tk p) := by rw [e31]; exact (hT.2.2.1 p hp).2.1
  refine am_met rfl rfl ?_
  refine am_nee 9 (by decide) rfl (by rw [h31]; exact nI_in (show p < 120 by omega) (by decide)) ?_
  rw [e33]
  refine am_cav 9 (by decide) rfl y_fault (by decide) (by decide) (by decide) ?_
  exact am_end 9 (by decide) rfl (Or.inl rfl) (by decide) (by decide) ⟨rfl, rfl⟩
theorem y_top {K : List xK} (h35 : I 29 35 = nI K.length) (hl : K.length ≤ 12) (hk : x_Kr (A 48) (A 49) (A 50) K) : am_Con 1 159 [.ref 29] (am_H g I A J X) (.inl (some (.int (x_top K)))) (am_H g I A J X) 0 0 := by
  refine am_met rfl rfl ?_
  cases K with
  | nil =>
    refine am_nay 9 (by decide) rfl (by rw [h35]; exact fun z => z rfl) ?_
    exact am_end 9 (by decide) rfl trivial (by decide) (by decide) ⟨rfl, rfl⟩
  | cons x r =>
    obtain ⟨k, t, nd⟩ := x
    have hl' : r.length < 12 := by simp at hl; omega
    have e35 : I 29 35 - 1 = nI r.length := by rw [h35]; exact nI_pred r.length
    refine am_yea 9 (by decide) rfl (by rw [h35]; exact nI_ne0 (by simp) (by simp; omega)) ?_
    refine am_nee 9 (by decide) rfl (by rw [e35]; exact nI_in hl' (by decide)) ?_
    refine am_end 9 (by decide) rfl trivial (by decide) (by decide) ⟨?_, rfl⟩
    rw [e35, nI_clamp (by omega), hk.1]
    rfl
/-- entering -/
theorem y_ent {K : List xK} {V : List Nat} {m nd : Nat} {S : aN} {k w : Int32} (hX : m_X T tk (p, K, V, m, S) I A J) (hJp : p < T) (hl : K.length ≤ 12) (hw : k < 0 → w = nI nd) : m_M m_fp m_cp 2 157 [.ref 29, .int k, .int w] g I A J X (m_Ry T tk (x_ent (d_pc tk) k nd (p, K, V, m, S))) := by
  obtain ⟨h31, h35, hk, h37, hV, h29, hS, hT⟩ := hX
  have h120 := hT.2.1
  have e31 : (I 29 31).toNatClampNeg = p := by rw [h31, nI_clamp (by omega)]
  unfold x_ent
  dsimp only
  refine m_D.met rfl rfl ?_
  by_cases c1 : K.length = 12
  · rw [if_pos c1]
    refine m_D.nay 9 (by decide) rfl (by rw [h35, c1]; exact fun z => z rfl) ?_
    refine m_D.nee 9 (by decide) rfl (by rw [h31]; exact nI_in (show p < 120 by omega) (by decide)) ?_
    rw [show A 33 (I 29 31).toNatClampNeg = nI (d_pc tk p) from by rw [e31]; exact (hT.2.2.1 p hJp).2.1]
    refine m_D.cav (n := 9) (by decide) rfl y_fault (by decide) ((m_Fr.put (by decide)).trans (m_Fr.put (by decide))) ?_
    exact m_D.ret 9 (by decide) rfl (Or.inl rfl) m_Fr.refl ⟨rfl, by simp [am_u], by simp [am_u]⟩
  · rw [if_neg c1]
    have hlt : K.length < 12 := by omega
    have e35 : (I 29 35).toNatClampNeg = K.length := by rw [h35, nI_clamp (by omega)]
    have hin : ¬ (I 29 35 < 0 ∨ 12 ≤ (I 29 35).toNatClampNeg) := by rw [h35]; exact nI_in hlt (by decide)
    refine m_D.yea 9 (by decide) rfl (by rw [h35]; intro z; have := nI_inj (b := 12) (by omega) (by omega) z; omega) ?_
    refine m_D.nee 9 (by decide) rfl hin ?_
    refine m_D.nee 9 (by decide) rfl hin ?_
    refine m_D.nee 9 (by decide) rfl hin ?_
    refine m_D.ret 20 (by decide) rfl (Or.inr rfl) (((((m_Fr.set (by decide)).trans (m_Fr.set (by decide))).trans (m_Fr.set (by decide))).trans (m_Fr.put (by decide))).trans (m_Fr.put (by decide))) ?_
    rw [e35, h35, h31, nI_1]
    refine ⟨rfl, ?_, ?_, ⟨?_, ?_, ?_, ?_⟩, ?_, ?_, ?_, ?_, ⟨?_, h120, ?_, by simpa [m_K, am_u] using hT.2.2.2⟩⟩
    · rw [am_uk, am_un (by decide), h31, nI_1]
    · rw [am_un (by decide), am_uk]; rfl
    · simp [am_u]
    · simp [am_u]
    · intro z; simp [am_u]; exact hw z
    · refine x_Kr.same (fun j hj => ?_) hk
      have : j ≠ K.length := by omega
      simp [am_u, this]
    · simpa [am_u] using h37
    · simpa [am_uo] using hV
    · simpa [am_u] using h29
    · rw [← hS]
      funext f y
      unfold m_st
      have hne : m_px f ≠ 48 ∧ m_px f ≠ 49 ∧ m_px f ≠ 50 := by
        unfold m_px
        refine ⟨?_, ?_, ?_⟩ <;> (repeat' split) <;> omega
      rw [am_uo hne.2.2, am_uo hne.2.1, am_uo hne.1]
    · simpa [am_u] using hT.1
    · simpa [am_uo] using hT.2.2.1
end MST
