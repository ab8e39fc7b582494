/-! TYPING: both sides -/
theorem bt_255 : ∀ j : Fin 64, ¬ j.val < 8 → (255#64).getLsbD j.val = false := by decide
theorem bt_sh (x : BitVec 64) (s : Nat) (hs : s ≤ 56) : (x.sshiftRight s &&& 255#64) = (x >>> s &&& 255#64) := by
  apply BitVec.eq_of_getLsbD_eq
  intro j hj
  rw [BitVec.getLsbD_and, BitVec.getLsbD_and]
  by_cases h8 : j < 8
  · have h1 : s + j < 64 := by omega
    rw [BitVec.getLsbD_sshiftRight, BitVec.getLsbD_ushiftRight]
    have h2 : ¬ 64 ≤ j := by omega
    simp [h1, h2]
  · rw [bt_255 ⟨j, hj⟩ h8]; simp
theorem bt_key : ∀ i, i < 8 → ((nI (8 * i)).toInt64.toUInt64 &&& Int64.toUInt64 63) = UInt64.ofNat (8 * i) ∧ ((nI (8 * i)).toInt64 &&& 63) = Int64.ofNat (8 * i) ∧ (UInt64.ofNat (8 * i)).toBitVec.toNat % 64 = 8 * i ∧ ((Int64.ofNat (8 * i)).toBitVec.smod 64#64).toNat = 8 * i := by decide
theorem bt_eq (w : Int64) (i : Nat) (hi : i < 8) : ((w.toUInt64 >>> UInt64.ofNat (8 * i)).toInt64 &&& 255) = ((w >>> Int64.ofNat (8 * i)) &&& 255) := by
  apply Int64.toBitVec_inj.mp
  rw [Int64.toBitVec_and, Int64.toBitVec_and, Int64.toBitVec_shiftRight]
  show (w.toUInt64 >>> UInt64.ofNat (8 * i)).toBitVec &&& 255#64 = (BitVec.sshiftRight' w.toBitVec ((Int64.ofNat (8 * i)).toBitVec.smod 64#64)) &&& 255#64
  rw [UInt64.toBitVec_shiftRight, BitVec.sshiftRight', (bt_key i hi).2.2.2]
  rw [bt_sh _ _ (by omega)]
  congr 1
  show w.toUInt64.toBitVec >>> ((UInt64.ofNat (8 * i)).toBitVec % 64#64) = w.toBitVec >>> (8 * i)
  have h1 : ((UInt64.ofNat (8 * i)).toBitVec % 64#64).toNat = 8 * i := by
    rw [BitVec.toNat_umod]
    exact (bt_key i hi).2.2.1
  rw [BitVec.ushiftRight_eq', h1]
  rfl
theorem bt_lt (x : Int64) : (x &&& 255).toInt32.toUInt32.toNat < 256 := by
  show (x &&& 255).toInt32.toBitVec.toNat < 256
  rw [Int64.toBitVec_toInt32, Int64.toBitVec_and]
  show ((x.toBitVec &&& 255#64).signExtend 32).toNat < 256
  rw [BitVec.signExtend_eq_setWidth_of_le _ (by decide), BitVec.toNat_setWidth, BitVec.toNat_and]
  have : x.toBitVec.toNat &&& (255#64).toNat ≤ 255 := Nat.and_le_right
  omega
theorem bt_low (x : Int64) : ((x &&& 255).toInt32.toUInt32 % 65536).toInt32 = (x &&& 255).toInt32 := by
  have h2 : (x &&& 255).toInt32.toUInt32 % 65536 = (x &&& 255).toInt32.toUInt32 := by
    apply UInt32.toNat_inj.mp
    rw [UInt32.toNat_mod]
    exact Nat.mod_eq_of_lt (Nat.lt_trans (bt_lt x) (by decide))
  rw [h2]
  rfl
theorem bt_nar (x : Int64) : narrow .char (.int (x &&& 255).toInt32) = .int (x &&& 255).toInt32 := by
  have h2 : (x &&& 255).toInt32.toUInt32.toUInt16.toUInt32 = (x &&& 255).toInt32.toUInt32 := by
    apply UInt32.toNat_inj.mp
    rw [UInt16.toNat_toUInt32, UInt32.toNat_toUInt16]
    exact Nat.mod_eq_of_lt (Nat.lt_trans (bt_lt x) (by decide))
  show Value.int ((x &&& 255).toInt32.toUInt32.toUInt16.toUInt32).toInt32 = _
  rw [h2]
  rfl
/-- the i-th of the characters -/
abbrev t_c (w : Int64) (i : Nat) : Int32 := w_wc w (nI (8 * i))
theorem t_byte {h : aH} {w : Int64} {i : Nat} (hi : i < 8) : am_Con 1 119 [.long w, .int (nI i)] h (.inl (some (.int (t_c w i)))) h 0 0 := by
  have e1 : (8 : Int32) * nI i = nI (8 * i) := nI_mul 8 i
  have e2 : ((w.toUInt64 >>> ((8 * nI i).toInt64.toUInt64 &&& Int64.toUInt64 63)).toInt64 &&& 255) = ((w >>> (nI (8 * i)).toInt64 &&& 63) &&& 255) ∨ True := Or.inr trivial
  have e3 : ((w.toUInt64 >>> (((8 : Int32) * nI i).toInt64.toUInt64 &&& Int64.toUInt64 63)).toInt64 &&& 255) = ((w >>> ((nI (8 * i)).toInt64 &&& 63)) &&& 255) := by
    rw [e1, (bt_key i hi).1, (bt_key i hi).2.1]
    exact bt_eq w i hi
  refine am_met rfl rfl ?_
  refine am_end 12 (by decide) rfl ?_ (by decide) (by decide) ⟨?_, rfl⟩
  · rw [e3, bt_low]
    exact bt_nar _
  · rw [e3, bt_low]
    rfl
def t_gd (w : Int64) : Nat → Nat → Bool
  | 0, _ => true
  | f + 1, i => c_char (t_c w i) && t_gd w f (i + 1)
/-- the text with k characters more -/
def t_ap (w : Int64) (n : Nat) (tx : Nat → Int32) (k : Nat) : Nat → Int32 := fun q => if n ≤ q ∧ q < n + k then t_c w (q - n) else tx q
/-- how the call ends: 0 well, 1 and 2 refused -/
def r_ty (w : Int64) (n0 : Int32) (n : Nat) : Nat := if n0 < 1 ∨ 8 < n0 then 1 else if t_gd w n0.toNatClampNeg 0 = false then 1 else if 600 < n + n0.toNatClampNeg then 2 else 0
theorem t_gd_all {w : Int64} : ∀ {f i : Nat}, t_gd w f i = true → ∀ q, i ≤ q → q < i + f → c_char (t_c w q) = true
  | 0, i, _, q, h1, h2 => by omega
  | f + 1, i, h, q, h1, h2 => by
    simp only [t_gd, Bool.and_eq_true] at h
    by_cases e : q = i
    · rw [e]; exact h.1
    · exact t_gd_all h.2 q (by omega) (by omega)
theorem t_ap_1 {w : Int64} {n k : Nat} {tx : Nat → Int32} : (fun y => if y = n + k then t_c w k else t_ap w n tx k y) = t_ap w n tx (k + 1) := by
  funext y
  unfold t_ap
  by_cases e : y = n + k
  · rw [if_pos e, if_pos (by omega), show y - n = k from by omega]
  · rw [if_neg e]
    by_cases c : n ≤ y ∧ y < n + k
    · rw [if_pos c, if_pos (by omega)]
    · rw [if_neg c, if_neg (by omega)]
theorem t_ap_0 {w : Int64} {n : Nat} {tx : Nat → Int32} : t_ap w n tx 0 = tx := by
  funext y
  exact if_neg (by omega)
theorem n0_of {n0 : Int32} (h : ¬ (n0 < 1 ∨ 8 < n0)) : ∃ k, 1 ≤ k ∧ k ≤ 8 ∧ n0 = nI k ∧ n0.toNatClampNeg = k := by
  have h1 : ¬ n0 < 1 := fun z => h (Or.inl z)
  have h8 : n0 ≤ 8 := Int32.not_lt.mp (fun z => h (Or.inr z))
  have h0 : ¬ n0 < 0 := fun q => h1 (Int32.lt_trans q (by decide))
  obtain ⟨j, hj, e⟩ := nI_of2 (M := 8) (n := 8) (by decide) h0 h8
  subst e
  refine ⟨j, ?_, by omega, rfl, nI_clamp (by omega)⟩
  rcases Nat.eq_zero_or_pos j with q | q
  · subst q
    exact absurd (show nI 0 < 1 by decide) h1
  · exact q
section TYP
variable {g : List aK} {I A : Nat → Nat → Int32} {J : Nat → Nat → Int64} {X : Nat × (Nat → Int32)} {tx : Nat → Int32} {n : Nat} {w : Int64} {n0 : Int32}
theorem c_T.ap {k : Nat} (h : c_T tx n I A) (hk : n + k ≤ 600) (hg : t_gd w k 0 = true) : c_T (t_ap w n tx k) (n + k) (am_u I 1 1 (nI (n + k))) (fun x => if x = 2 then t_ap w n tx k else A x) := by
  refine ⟨am_uk, hk, by simp, fun q hq => ?_⟩
  unfold t_ap
  by_cases c : n ≤ q ∧ q < n + k
  · rw [if_pos c]
    exact t_gd_all hg (q - n) (by omega) (by omega)
  · rw [if_neg c]
    exact h.2.2.2 q (by omega)
theorem k_type1 (h : c_T tx n I A) (hr : r_ty w n0 n = 1) : ∃ k, am_Con 7 108 [.ref 0, .long w, .int n0] (am_H g I A J X) (.inr (100, k)) (am_H (am_gx g) I A J X) 1 6 := by
  refine ⟨(am_lay ++ g).length, am_met rfl rfl ?_⟩
  by_cases c1 : n0 < 1
  · refine am_yea 9 (by decide) rfl c1 ?_
    refine am_thw 9 (by decide) rfl (by decide) (by decide) ⟨rfl, by simp [am_gx]⟩
  refine am_nay 9 (by decide) rfl c1 ?_
  by_cases c8 : 8 < n0
  · refine am_nay 9 (by decide) rfl (Int32.not_le.mpr c8) ?_
    refine am_thw 9 (by decide) rfl (by decide) (by decide) ⟨rfl, by simp [am_gx]⟩
  refine am_yea 9 (by decide) rfl (Int32.not_lt.mp c8) ?_
  obtain ⟨k, k1, k2, rfl, k4⟩ := n0_of (n0 := n0) (fun z => z.elim c1 c8)
  have hb : t_gd w k 0 = false := by
    unfold r_ty at hr
    rw [if_neg (fun z => z.elim c1 c8), k4] at hr
    by_cases c : t_gd w k 0 = false
    · exact c
    · rw [if_neg c] at hr
      split at hr <;> omega
  have loop : ∀ (f i : Nat), i + f = k → t_gd w f i = false → am_Tri 108 7 1 6 0 0 (24, [(4, .int (nI i)), (0, .ref 0), (1, .long w), (3, .int (nI k))], [], am_H g I A J X) (fun oo hh => oo = .inr (100, (am_lay ++ g).length) ∧ hh = am_H (am_gx g) I A J X) := by
    intro f
    induction f with
    | zero => intro i hi hg; cases hg
    | succ f ih =>
      intro i hi hg
      refine am_nay 9 (by decide) rfl (nI_ge (by omega) (by omega)) ?_
      refine am_cav 9 (by decide) rfl (t_byte (by omega)) (by decide) (by decide) (by decide) ?_
      refine am_cav 9 (by decide) rfl t_char (by decide) (by decide) (by decide) ?_
      by_cases cc : c_char (t_c w i) = true
      · rw [cc]
        refine am_yea 9 (by decide) rfl (by decide) ?_
        refine am_pla 2 (by decide) rfl ?_
        rw [nI_1]
        refine ih (i + 1) (by omega) ?_
        simpa [t_gd, cc] using hg
      · rw [Bool.eq_false_iff.mpr cc]
        refine am_nay 9 (by decide) rfl (by decide) ?_
        refine am_thw 9 (by decide) rfl (by decide) (by decide) ⟨rfl, by simp [am_gx]⟩
  refine am_pla 2 (by decide) rfl ?_
  exact loop k 0 (by omega) hb
/-- all characters are looked at -/
theorem k_tyl {k : Nat} (k1 : 1 ≤ k) (k2 : k ≤ 8) (hg : t_gd w k 0 = true) : am_To 108 7 (0, lv_args 0 [.ref 0, .long w, .int (nI k)], [], am_H g I A J X) (58, [(4, .int (nI k)), (0, .ref 0), (1, .long w), (3, .int (nI k))], [], am_H g I A J X) := by
  have loop : ∀ (f i : Nat), i + f = k → t_gd w f i = true → am_To 108 7 (24, [(4, .int (nI i)), (0, .ref 0), (1, .long w), (3, .int (nI k))], [], am_H g I A J X) (58, [(4, .int (nI k)), (0, .ref 0), (1, .long w), (3, .int (nI k))], [], am_H g I A J X) := by
    intro f
    induction f with
    | zero =>
      intro i hi hg B C u c Q hu hc kk
      have : i = k := by omega
      subst this
      exact am_yea 9 (by decide) rfl (nI_le (Nat.le_refl _) (by omega)) kk
    | succ f ih =>
      intro i hi hg B C u c Q hu hc kk
      simp only [t_gd, Bool.and_eq_true] at hg
      refine am_nay 9 (by decide) rfl (nI_ge (by omega) (by omega)) ?_
      refine am_cav 9 (by decide) rfl (t_byte (by omega)) (by decide) hu hc ?_
      refine am_cav 9 (by decide) rfl t_char (by decide) hu hc ?_
      rw [hg.1]
      refine am_yea 9 (by decide) rfl (by decide) ?_
      refine am_pla 2 (by decide) rfl ?_
      rw [nI_1]
      exact ih (i + 1) (by omega) hg.2 B C u c Q hu hc kk
  intro B C u c Q hu hc kk
  refine am_nay 9 (by decide) rfl (nI_nlt (b := 1) k1 (by omega)) ?_
  refine am_yea 9 (by decide) rfl (nI_le (b := 8) k2 (by decide)) ?_
  refine am_pla 2 (by decide) rfl ?_
  exact loop k 0 (by omega) hg B C u c Q hu hc kk
theorem k_type2 (h : c_T tx n I A) (hr : r_ty w n0 n = 2) : ∃ k, am_Con 7 108 [.ref 0, .long w, .int n0] (am_H g I A J X) (.inr (101, k)) (am_H (am_gx g) I A J X) 1 6 := by
  have hn := h.2.1
  unfold r_ty at hr
  by_cases c1 : n0 < 1 ∨ 8 < n0
  · rw [if_pos c1] at hr; cases hr
  rw [if_neg c1] at hr
  obtain ⟨k, k1, k2, rfl, k4⟩ := n0_of c1
  rw [k4] at hr
  by_cases cg : t_gd w k 0 = false
  · rw [if_pos cg] at hr; cases hr
  rw [if_neg cg] at hr
  by_cases cn : 600 < n + k
  · refine ⟨(am_lay ++ g).length, am_met rfl rfl (k_tyl k1 k2 (by simpa using cg) _ _ _ _ _ (by decide) (by decide) ?_)⟩
    refine am_nay 9 (by decide) rfl ?_ ?_
    · rw [h.1, show (600 : Int32) - nI k = nI (600 - k) from nI_sub (a := 600) (by omega)]
      exact nI_ge (by omega) (by omega)
    · exact am_thw 9 (by decide) rfl (by decide) (by decide) ⟨rfl, by simp [am_gx]⟩
  · rw [if_neg cn] at hr; cases hr
/-- the cells, the text's aside -/
def t_A (A : Nat → Nat → Int32) (a : Nat) (t : Nat → Int32) : Nat → Nat → Int32 := fun x => if x = a then t else A x
theorem t_A_u {a k n : Nat} : am_u (t_A A a (t_ap w n tx k)) a (n + k) (t_c w k) = t_A A a (t_ap w n tx (k + 1)) := by
  rw [← t_ap_1]
  funext x y
  unfold t_A am_u
  by_cases e : x = a
  · subst e
    simp
  · simp [e]
theorem k_type0 (h : c_T tx n I A) (hr : r_ty w n0 n = 0) : ∃ k, 1 ≤ k ∧ n + k ≤ 600 ∧ n0 = nI k ∧ t_gd w k 0 = true ∧ am_Con 7 108 [.ref 0, .long w, .int n0] (am_H g I A J X) (.inl (some (.int (nI (n + k))))) (am_H g (am_u I 1 1 (nI (n + k))) (t_A A 2 (t_ap w n tx k)) J X) 0 0 := by
  have hn := h.2.1
  unfold r_ty at hr
  by_cases c1 : n0 < 1 ∨ 8 < n0
  · rw [if_pos c1] at hr; cases hr
  rw [if_neg c1] at hr
  obtain ⟨k, k1, k2, rfl, k4⟩ := n0_of c1
  rw [k4] at hr
  by_cases cg : t_gd w k 0 = false
  · rw [if_pos cg] at hr; cases hr
  rw [if_neg cg] at hr
  by_cases cn : 600 < n + k
  · rw [if_pos cn] at hr; cases hr
  have hg : t_gd w k 0 = true := by simpa using cg
  refine ⟨k, k1, by omega, rfl, hg, am_met rfl rfl (k_tyl k1 k2 hg _ _ _ _ _ (by decide) (by decide) ?_)⟩
  refine am_yea 9 (by decide) rfl ?_ ?_
  · rw [h.1, show (600 : Int32) - nI k = nI (600 - k) from nI_sub (a := 600) (by omega)]
    exact nI_le (by omega) (by omega)
  have loop : ∀ (f i : Nat), i + f = k → am_Tri 108 7 0 0 0 0 (86, [(4, .int (nI i)), (0, .ref 0), (1, .long w), (3, .int (nI k))], [], am_H g (am_u I 1 1 (nI (n + i))) (t_A A 2 (t_ap w n tx i)) J X) (fun oo hh => oo = .inl (some (.int (nI (n + k)))) ∧ hh = am_H g (am_u I 1 1 (nI (n + k))) (t_A A 2 (t_ap w n tx k)) J X) := by
    intro f
    induction f with
    | zero =>
      intro i hi
      have : i = k := by omega
      subst this
      refine am_yea 9 (by decide) rfl (nI_le (Nat.le_refl _) (by omega)) ?_
      refine am_end 9 (by decide) rfl trivial (by decide) (by decide) ⟨?_, rfl⟩
      rw [am_uk]
    | succ f ih =>
      intro i hi
      refine am_nay 9 (by decide) rfl (nI_ge (by omega) (by omega)) ?_
      refine am_cav 9 (by decide) rfl (t_byte (by omega)) (by decide) (by decide) (by decide) ?_
      refine am_can 9 (by decide) rfl (t_add (n := n + i) am_uk (by omega) (c_char_n (t_gd_all hg i (by omega) (by omega)))) (by decide) (by decide) (by decide) ?_
      refine am_pla 2 (by decide) rfl ?_
      rw [nI_1, am_uu, t_A_u]
      exact ih (i + 1) (by omega)
  refine am_pla 2 (by decide) rfl ?_
  have := loop k 0 (by omega)
  have e1 : am_u I 1 1 (nI (n + 0)) = I := by
    funext x y
    unfold am_u
    split
    · next z => rw [z.1, z.2, h.1, Nat.add_zero]
    · rfl
  have e2 : t_A A 2 (t_ap w n tx 0) = A := by
    funext x y
    unfold t_A
    split
    · next z => rw [t_ap_0, z, h.2.2.1]
    · rfl
  rw [e1, e2] at this
  exact this
/-- the law's call of it: 56 is the row for the answer -/
theorem k_hty (h : c_T tx n I A) : ∃ (g' : List aK) (I' A' : Nat → Nat → Int32) (J' : Nat → Nat → Int64), (∀ x, x ≠ 1 → x ≠ 2 → I' x = I x ∧ A' x = A x) ∧ (r_ty w n0 n ≠ 0 → I' = I ∧ A' = A) ∧ (r_ty w n0 n = 0 → ∃ k, n0 = nI k ∧ 1 ≤ k ∧ k ≤ 8 ∧ c_T (t_ap w n tx k) (n + k) I' A' ∧ J' 56 0 = (nI (n + k)).toInt64) ∧ am_Con 20 195 [.ref 0, .long w, .int n0, .ref 56] (am_H g I A J X) (.inl (some (.int (nI (r_ty w n0 n))))) (am_H g' I' A' J' X) 1 6 := by
  have h3 : r_ty w n0 n = 0 ∨ r_ty w n0 n = 1 ∨ r_ty w n0 n = 2 := by
    unfold r_ty
    repeat' split
    all_goals omega
  rcases h3 with hr | hr | hr
  · obtain ⟨k, k1, k2, k3, k4, k5⟩ := k_type0 (g := g) (J := J) (X := X) h hr
    have k8 : k ≤ 8 := by
      unfold r_ty at hr
      by_cases c1 : n0 < 1 ∨ 8 < n0
      · rw [if_pos c1] at hr; cases hr
      · obtain ⟨k', a1, a2, a3, a4⟩ := n0_of c1
        have := nI_inj (by omega) (by omega) (k3.symm.trans a3)
        omega
    refine ⟨g, am_u I 1 1 (nI (n + k)), t_A A 2 (t_ap w n tx k), am_u J 56 0 (nI (n + k)).toInt64, fun x x1 x2 => ⟨am_uo x1, if_neg x2⟩, fun z => absurd hr z, fun _ => ⟨k, k3, k1, k8, h.ap k2 k4, am_uk⟩, am_met rfl rfl ?_⟩
    refine am_cav 9 (by decide) rfl k5 (by decide) (by decide) (by decide) ?_
    refine am_nee 9 (by decide) rfl (nI_in (c := 0) (show 0 < 1 by omega) (by decide)) ?_
    refine am_end 9 (by decide) rfl trivial (by decide) (by decide) ⟨by rw [hr]; rfl, rfl⟩
  · obtain ⟨k, hk⟩ := k_type1 (g := g) (J := J) (X := X) h hr
    refine ⟨am_gx g, I, A, J, fun _ _ _ => ⟨rfl, rfl⟩, fun _ => ⟨rfl, rfl⟩, fun z => absurd z (by omega), am_met rfl rfl ?_⟩
    refine am_cah 9 (by decide) rfl hk (by decide) (by decide) (by decide) (hp := 14) rfl ?_
    refine am_end 9 (by decide) rfl trivial (by decide) (by decide) ⟨by rw [hr]; rfl, rfl⟩
  · obtain ⟨k, hk⟩ := k_type2 (g := g) (J := J) (X := X) h hr
    refine ⟨am_gx g, I, A, J, fun _ _ _ => ⟨rfl, rfl⟩, fun _ => ⟨rfl, rfl⟩, fun z => absurd z (by omega), am_met rfl rfl ?_⟩
    refine am_cah 9 (by decide) rfl hk (by decide) (by decide) (by decide) (hp := 18) rfl ?_
    refine am_end 9 (by decide) rfl trivial (by decide) (by decide) ⟨by rw [hr]; rfl, rfl⟩
/-- the reference types -/
theorem y_type (hn : n ≤ 600) (h2 : I 29 2 = nI n) : m_M [0, 2] [30] 2 129 [.ref 29, .long w, .int n0] g I A J X (fun v I' A' J' => J' = J ∧ I' 29 0 = nI (r_ty w n0 n) ∧ (r_ty w n0 n ≠ 0 → I' 29 2 = nI n ∧ A' = A) ∧ (r_ty w n0 n = 0 → ∀ k, n0 = nI k → k ≤ 8 → v = some (.int (nI (n + k))) ∧ I' 29 2 = nI (n + k) ∧ A' = t_A A 30 (t_ap w n (A 30) k)) ∧ ∃ b, v = some (.int b)) := by
  -- from the end of the tests on
  have no : ∀ (i : Int32), r_ty w n0 n = 1 → m_D [0, 2] [30] 129 2 g X I A J (55, [(5, .int i), (4, .int 0), (0, .ref 29), (1, .long w), (3, .int n0)], [], am_H g I A J X) (fun v I' A' J' => J' = J ∧ I' 29 0 = nI (r_ty w n0 n) ∧ (r_ty w n0 n ≠ 0 → I' 29 2 = nI n ∧ A' = A) ∧ (r_ty w n0 n = 0 → ∀ k, n0 = nI k → k ≤ 8 → v = some (.int (nI (n + k))) ∧ I' 29 2 = nI (n + k) ∧ A' = t_A A 30 (t_ap w n (A 30) k)) ∧ ∃ b, v = some (.int b)) := by
    intro i hr
    refine m_D.nay 9 (by decide) rfl (by decide) ?_
    refine m_D.nay 12 (by decide) rfl (by rw [am_uk]; decide) ?_
    refine m_D.ret 9 (by decide) rfl trivial (m_Fr.put (f := 0) (by decide)) ⟨rfl, by rw [am_uk, hr]; rfl, fun _ => ⟨by rw [am_un (by decide)]; exact h2, rfl⟩, fun z => absurd z (by omega), ⟨0, rfl⟩⟩
  refine m_D.met rfl rfl ?_
  by_cases c1 : n0 < 1
  · have hr : r_ty w n0 n = 1 := if_pos (Or.inl c1)
    refine m_D.yea 9 (by decide) rfl c1 ?_
    have h01 : n0 ≤ 0 := by
      have a := Int32.lt_iff_toInt_lt.mp c1
      refine Int32.le_iff_toInt_le.mpr ?_
      have e1 : (1 : Int32).toInt = 1 := rfl
      have e0 : (0 : Int32).toInt = 0 := rfl
      omega
    refine m_D.yea 9 (by decide) rfl h01 ?_
    exact no 0 hr
  refine m_D.nay 9 (by decide) rfl c1 ?_
  by_cases c8 : 8 < n0
  · have hr : r_ty w n0 n = 1 := if_pos (Or.inr c8)
    refine m_D.yea 9 (by decide) rfl c8 ?_
    refine m_D.nay 9 (by decide) rfl (Int32.not_le.mpr (Int32.lt_trans (by decide) c8)) ?_
    refine m_D.yea 9 (by decide) rfl rfl ?_
    exact no 0 hr
  refine m_D.nay 9 (by decide) rfl c8 ?_
  obtain ⟨k, k1, k2, rfl, k4⟩ := n0_of (n0 := n0) (fun z => z.elim c1 c8)
  have hr0 : r_ty w (nI k) n = if t_gd w k 0 = false then 1 else if 600 < n + k then 2 else 0 := by
    unfold r_ty
    rw [if_neg (fun z => z.elim c1 c8), k4]
  have e8 : ∀ i, (8 : Int32) * nI i = nI (8 * i) := fun i => nI_mul 8 i
  -- the tests
  have loop : ∀ (f i : Nat) (P : mP), i + f = k → (t_gd w f i = false → ∀ i', m_D [0, 2] [30] 129 2 g X I A J (55, [(5, .int i'), (4, .int 0), (0, .ref 29), (1, .long w), (3, .int (nI k))], [], am_H g I A J X) P) → (t_gd w f i = true → m_D [0, 2] [30] 129 2 g X I A J (55, [(5, .int (nI k)), (4, .int 1), (0, .ref 29), (1, .long w), (3, .int (nI k))], [], am_H g I A J X) P) → m_D [0, 2] [30] 129 2 g X I A J (21, [(5, .int (nI i)), (4, .int 1), (0, .ref 29), (1, .long w), (3, .int (nI k))], [], am_H g I A J X) P := by
    intro f
    induction f with
    | zero =>
      intro i P hi q1 q2
      have : i = k := by omega
      subst this
      refine m_D.yea 9 (by decide) rfl (nI_le (Nat.le_refl _) (by omega)) ?_
      exact q2 rfl
    | succ f ih =>
      intro i P hi q1 q2
      refine m_D.nay 9 (by decide) rfl (nI_ge (by omega) (by omega)) ?_
      refine m_D.nay 9 (by decide) rfl (by decide) ?_
      refine m_D.cav (n := 12) (by decide) (by rw [show t_c w i = ((w >>> (((8 : Int32) * nI i).toInt64 &&& 63)) &&& 255).toInt32 from by rw [e8]; rfl]; rfl) (m_char (c := t_c w i)) (by decide) m_Fr.refl ?_
      by_cases cc : c_char (t_c w i) = true
      · rw [cc]
        refine m_D.pla 3 (by decide) rfl ?_
        rw [nI_1]
        exact ih (i + 1) P (by omega) (fun z => q1 (by simp [t_gd, cc, z])) (fun z => q2 (by simp [t_gd, cc, z]))
      · rw [Bool.eq_false_iff.mpr cc]
        refine m_D.pla 3 (by decide) rfl ?_
        rw [nI_1]
        by_cases ce : k ≤ i + 1
        · refine m_D.yea 9 (by decide) rfl (nI_le ce (by omega)) ?_
          exact q1 (by simp [t_gd, cc]) _
        · refine m_D.nay 9 (by decide) rfl (nI_ge (by omega) (by omega)) ?_
          refine m_D.yea 9 (by decide) rfl rfl ?_
          exact q1 (by simp [t_gd, cc]) _
  refine m_D.pla 5 (by decide) rfl ?_
  refine loop k 0 _ (by omega) (fun z i' => no i' (by rw [hr0, if_pos z])) (fun z => ?_)
  rw [if_neg (by rw [z]; decide)] at hr0
  refine m_D.yea 9 (by decide) rfl (by decide) ?_
  by_cases cn : 600 < n + k
  · rw [if_pos cn] at hr0
    refine m_D.nay 9 (by decide) rfl (by rw [h2, nI_add]; exact nI_ge (a := 600) cn (by omega)) ?_
    refine m_D.nay 12 (by decide) rfl (by rw [am_uk]; decide) ?_
    refine m_D.ret 9 (by decide) rfl trivial (m_Fr.put (f := 0) (by decide)) ⟨rfl, by rw [am_uk, hr0]; rfl, fun _ => ⟨by rw [am_un (by decide)]; exact h2, rfl⟩, fun z => absurd z (by omega), ⟨0, rfl⟩⟩
  · rw [if_neg cn] at hr0
    refine m_D.yea 9 (by decide) rfl (by rw [h2, nI_add]; exact nI_le (b := 600) (by omega) (by decide)) ?_
    refine m_D.yea 12 (by decide) rfl (by rw [am_uk]; decide) ?_
    have fill : ∀ (f i : Nat), i + f = k → m_D [0, 2] [30] 129 2 g X (am_u I 29 0 0) (t_A A 30 (t_ap w n (A 30) i)) J (97, [(5, .int (nI i)), (4, .int 1), (0, .ref 29), (1, .long w), (3, .int (nI k))], [], am_H g (am_u I 29 0 0) (t_A A 30 (t_ap w n (A 30) i)) J X) (fun v I' A' J' => J' = J ∧ I' 29 0 = nI (r_ty w (nI k) n) ∧ (r_ty w (nI k) n ≠ 0 → I' 29 2 = nI n ∧ A' = A) ∧ (r_ty w (nI k) n = 0 → ∀ k', nI k = nI k' → k' ≤ 8 → v = some (.int (nI (n + k'))) ∧ I' 29 2 = nI (n + k') ∧ A' = t_A A 30 (t_ap w n (A 30) k')) ∧ ∃ b, v = some (.int b)) := by
      intro f
      induction f with
      | zero =>
        intro i hi
        have : i = k := by omega
        subst this
        refine m_D.yea 9 (by decide) rfl (nI_le (Nat.le_refl _) (by omega)) ?_
        refine m_D.ret 12 (by decide) rfl trivial (m_Fr.put (f := 2) (by decide)) ?_
        have e2 : am_u I 29 0 0 29 2 + nI i = nI (n + i) := by rw [am_un (by decide), h2, nI_add]
        refine ⟨rfl, by rw [am_un (by decide), am_uk, hr0]; rfl, fun z => absurd hr0 z, fun _ k' hk' hk8 => ?_, ⟨_, rfl⟩⟩
        have : i = k' := nI_inj (by omega) (by omega) hk'
        subst this
        exact ⟨by rw [am_uk, e2], by rw [am_uk, e2], rfl⟩
      | succ f ih =>
        intro i hi
        have e2 : am_u I 29 0 0 29 2 + nI i = nI (n + i) := by rw [am_un (by decide), h2, nI_add]
        refine m_D.nay 9 (by decide) rfl (nI_ge (by omega) (by omega)) ?_
        refine m_D.nee 20 (by decide) rfl (by rw [e2]; exact nI_in (show n + i < 600 by omega) (by decide)) ?_
        refine m_D.pla 2 (by decide) rfl ?_
        have e3 : ((w >>> (((8 : Int32) * nI i).toInt64 &&& 63)) &&& 255).toInt32 = t_c w i := by rw [e8]; rfl
        rw [nI_1, e2, nI_clamp (by omega), e3, t_A_u]
        exact m_D.heap (by rw [← t_A_u]; exact m_Fr.set (by decide)) (ih (i + 1) (by omega))
    refine m_D.pla 2 (by decide) rfl ?_
    have e2 : t_A A 30 (t_ap w n (A 30) 0) = A := by
      funext x y
      unfold t_A
      split
      · next z => rw [t_ap_0, z]
      · rfl
    have := fill k 0 (by omega)
    rw [e2] at this
    exact m_D.heap (m_Fr.put (f := 0) (by decide)) this
end TYP
