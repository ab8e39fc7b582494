/-! THE REFERENCE WRITES: an expression -/
theorem nI_dec (a : Nat) : nI (a + 1) + (-1) = nI a := by
  rw [← nI_pred a, Int32.sub_eq_add_neg]
section MXP
variable {g : List aK} {X : Nat × (Nat → Int32)} {J : Nat → Nat → Int64} {tx : Nat → Int32} {n T m : Nat} {tk : Nat → aT} {S : aN}
theorem y_pe1 (hV : w_V tx n T tk) {P : mP} {e0 : Int32} : ∀ (F : aB) (e j i t lo hi : Nat) (x l : Int32) (c : aB) (L : List Int32) (I A : Nat → Nat → Int32), b_sh (d_mk T tk) e c → e / 32 < T → j < m → n_N S true j e c → b_ok (d_mk T tk) T F → i + b_len F = b_len c → b_len c < 400 → n_F S true F lo hi x j l (-1) → hi ≤ m → t + b_ht F ≤ 9 → m_Vw tx n T tk S m I A J → m_Wr L I A → A 54 t = nI i → A 53 t = nI j → L.length + (w_bs (d_mk T tk) (w_tt tx tk) F e (b_len c) i).length ≤ 3000 → (∀ I' A', m_Vw tx n T tk S m I' A' J → m_Wr (L ++ w_bs (d_mk T tk) (w_tt tx tk) F e (b_len c) i) I' A' → (∀ q, q ≤ t → A' 53 q = A 53 q ∧ A' 55 q = A 55 q) → (∀ q, q < t → A' 54 q = A 54 q) → m_D m_fw m_cx 180 4 g X I' A' J (129, [(4, .int (-1)), (3, .int (nI j)), (2, .int (nI t)), (0, .ref 29), (1, .int e0)], [], am_H g I' A' J X) P) → m_D m_fw m_cx 180 4 g X I A J (33, [(4, .int x), (3, .int (nI j)), (2, .int (nI t)), (0, .ref 29), (1, .int e0)], [], am_H g I A J X) P := by
  intro F
  induction F with
  | leaf u =>
    intro e j i t lo hi x l c L I A hsh ht hj hn hok hil hlen hF hhi hht h hw h54 h53 hl k
    have hx : x = -1 := hF
    subst hx
    simp only [b_len, Nat.add_zero] at hil
    simp only [b_ht] at hht
    simp only [w_bs] at hl k
    have et : (nI t).toNatClampNeg = t := nI_clamp (by omega)
    refine m_D.nay 9 (by decide) rfl (nI_pos (by omega)) ?_
    refine m_D.nee 9 (by decide) rfl (nI_in (show t < 16 by omega) (by decide)) ?_
    rw [et, h54]
    refine m_D.wr (n' := 9) (fun _ z => z) (fun x z => by simp [m_cw] at z; subst z; decide) (by decide) rfl (by decide) (y_bef hV h hj hn hsh ht (by omega) hlen hw hl) (fun I1 A1 hw1 hf1 => ?_)
    have hf1' : m_Fr m_fw m_cx I A J I1 A1 J := hf1.mono (fun _ z => z) (fun x z => by simp [m_cw] at z; subst z; decide)
    refine m_D.yea 9 (by decide) rfl (by decide) ?_
    exact k I1 A1 (h.frame hf1' rfl) hw1 (fun q _ => ⟨congrFun (hf1.2.2.1 53 (by decide)) q, congrFun (hf1.2.2.1 55 (by decide)) q⟩) (fun q _ => congrFun (hf1.2.2.1 54 (by decide)) q)
  | branch e1 c1 s1 ihc ihs =>
    intro e j i t lo hi x l c L I A hsh ht hj hn hok hil hlen hF hhi hht h hw h54 h53 hl k
    obtain ⟨j1, a1, b1, g1, g2, g3, g4, g5, g6, g7, g8, g9, g10, g11⟩ := hF
    subst g6
    have hm := h.2.2.1
    have hlen1 := b_len_lt (by omega) g10
    simp only [b_len] at hil
    simp only [b_ht] at hht
    simp only [w_bs, List.length_append] at hl
    have et : (nI t).toNatClampNeg = t := nI_clamp (by omega)
    have et1 : (nI (t + 1)).toNatClampNeg = t + 1 := nI_clamp (by omega)
    have ej1 : (nI j1).toNatClampNeg = j1 := nI_clamp (by omega)
    have hin : ¬ (nI t < 0 ∨ 16 ≤ (nI t).toNatClampNeg) := nI_in (show t < 16 by omega) (by decide)
    have hin1 : ¬ (nI (t + 1) < 0 ∨ 16 ≤ (nI (t + 1)).toNatClampNeg) := nI_in (show t + 1 < 16 by omega) (by decide)
    have hinj : ¬ (nI j1 < 0 ∨ 400 ≤ (nI j1).toNatClampNeg) := nI_in (show j1 < 400 by omega) (by decide)
    refine m_D.nay 9 (by decide) rfl (nI_pos (by omega)) ?_
    refine m_D.nee 9 (by decide) rfl hin ?_
    rw [et, h54]
    refine m_D.wr (n' := 9) (fun _ z => z) (fun x z => by simp [m_cw] at z; subst z; decide) (by decide) rfl (by decide) (y_bef hV h hj hn hsh ht (by omega) hlen hw (by omega)) (fun I1 A1 hw1 hf1 => ?_)
    have h1 : m_Vw tx n T tk S m I1 A1 J := h.frame (hf1.mono (fun _ z => z) (fun x z => by simp [m_cw] at z; subst z; decide)) rfl
    have h54' : A1 54 t = nI i := (congrFun (hf1.2.2.1 54 (by decide)) t).trans h54
    refine m_D.nay 9 (by decide) rfl (nI_pos (by omega)) ?_
    refine m_D.nee 9 (by decide) rfl hin ?_
    rw [et, h54']
    refine m_D.cav (n := 9) (by decide) rfl (y_in h1 hj hn hsh ht (show j1 < m by omega) g9 hok.1 hok.2.1 (by omega)) (by decide) m_Fr.refl ?_
    -- the part is entered
    have into : ∀ (b : Bool) (L2 : List Int32) (I2 A2 : Nat → Nat → Int32), w_in (d_mk T tk) e e1 i = b → m_Vw tx n T tk S m I2 A2 J → m_Wr L2 I2 A2 → (∀ q, q ≤ t → A2 53 q = A 53 q ∧ A2 55 q = A 55 q) → (∀ q, q ≤ t → A2 54 q = A 54 q) → L2 = L ++ (w_bf (w_tt tx tk) e (b_len c) i ++ (if b then [40] else [])) → m_D m_fw m_cx 180 4 g X I2 A2 J (79, [(5, .int (am_b b)), (4, .int (nI j1)), (3, .int (nI j)), (2, .int (nI t)), (0, .ref 29), (1, .int e0)], [], am_H g I2 A2 J X) P := by
      intro b L2 I2 A2 hb h2 hw2 hk53 hk54 hL2
      have h54'' : A2 54 t = nI i := (hk54 t (Nat.le_refl _)).trans h54
      have hnb : vp_nar .boolean (am_b b) = am_b b := by cases b <;> decide
      refine m_D.nee 9 (by decide) rfl hin ?_
      rw [et, h54'']
      refine m_D.nee 9 (by decide) rfl hin ?_
      simp only [et, nI_1]
      refine m_D.nee 9 (by decide) rfl (by rw [nI_1]; exact hin1) ?_
      simp only [nI_1, et1]
      refine m_D.nee 9 (by decide) rfl hin1 ?_
      simp only [et1]
      refine m_D.nee 9 (by decide) rfl hin1 ?_
      simp only [et1, hnb]
      refine m_D.nee 9 (by decide) rfl hinj ?_
      simp only [ej1]
      refine m_D.pla 2 (by decide) rfl ?_
      generalize hA3 : am_u (am_u (am_u (am_u A2 54 t (nI (i + 1))) 53 (t + 1) (nI j1)) 54 (t + 1) 0) 55 (t + 1) (am_b b) = A3
      have hf3 : m_Fr m_fw m_cx I2 A2 J I2 A3 J := by
        rw [← hA3]
        exact (((m_Fr.set (by decide)).trans (m_Fr.set (by decide))).trans (m_Fr.set (by decide))).trans (m_Fr.set (by decide))
      refine m_D.heap hf3 ?_
      have h3 := h2.frame hf3 rfl
      have hw3 : m_Wr L2 I2 A3 := ⟨hw2.1, fun q hq => by rw [← hA3, am_un (by simp), am_un (by simp), am_un (by simp), am_un (by simp)]; exact hw2.2 q hq⟩
      have v53 : ∀ q, q ≤ t → A3 53 q = A2 53 q := fun q hq => by rw [← hA3, am_un (by simp), am_un (by simp), am_un (by simp; omega), am_un (by simp)]
      have v55 : ∀ q, q ≤ t → A3 55 q = A2 55 q := fun q hq => by rw [← hA3, am_un (by simp; omega), am_un (by simp), am_un (by simp), am_un (by simp)]
      have v54 : ∀ q, q < t → A3 54 q = A2 54 q := fun q hq => by rw [← hA3, am_un (by simp), am_un (by simp; omega), am_un (by simp), am_un (by simp; omega)]
      have v54t : A3 54 t = nI (i + 1) := by rw [← hA3, am_un (by simp), am_un (by simp), am_un (by simp), am_uk]
      have e42 : A3 42 j1 = S 4 j1 := h3.at (f := 4) (by decide)
      rw [e42]
      refine m_D.sub [0, 1, 2, 4, 5] rfl ?_
      refine ihc e1 j1 0 (t + 1) a1 b1 (S 4 j1) (S 5 j1) c1 L2 I2 A3 hok.1 hok.2.1 (by omega) g9 hok.2.2.1 (by omega) (by omega) g10 (by omega) (by omega) h3 hw3 (by rw [← hA3, am_un (by simp), am_uk]; rfl) (by rw [← hA3, am_un (by simp), am_un (by simp), am_uk]) (by rw [hL2]; simp only [List.length_append]; rw [hb] at hl; omega) ?_
      intro I4 A4 h4 hw4 k53 k54
      have b55 : A4 55 (nI (t + 1)).toNatClampNeg = am_b b := by rw [et1, (k53 (t + 1) (Nat.le_refl _)).2, ← hA3, am_uk]
      refine m_D.nee 9 (by decide) rfl hin1 ?_
      rw [b55]
      have out : ∀ (L5 : List Int32) (I5 A5 : Nat → Nat → Int32), m_Vw tx n T tk S m I5 A5 J → m_Wr L5 I5 A5 → A5 53 = A4 53 → A5 54 = A4 54 → A5 55 = A4 55 → L5 = L ++ (w_bf (w_tt tx tk) e (b_len c) i ++ ((if b then [40] else []) ++ (w_bs (d_mk T tk) (w_tt tx tk) c1 e1 (b_len c1) 0 ++ (if b then [41] else [])))) → m_D m_fw m_cx 180 4 g X I5 A5 J (144, [(4, .int (-1)), (3, .int (nI j1)), (2, .int (nI (t + 1))), (0, .ref 29), (1, .int e0)], [], am_H g I5 A5 J X) P := by
        intro L5 I5 A5 h5 hw5 q53 q54 q55 hL5
        have u53 : ∀ q, q ≤ t → A5 53 q = A 53 q := fun q hq => by rw [q53, (k53 q (by omega)).1, v53 q hq, (hk53 q hq).1]
        have u55 : ∀ q, q ≤ t → A5 55 q = A 55 q := fun q hq => by rw [q55, (k53 q (by omega)).2, v55 q hq, (hk53 q hq).2]
        have u54 : ∀ q, q < t → A5 54 q = A 54 q := fun q hq => by rw [q54, k54 q (by omega), v54 q hq, hk54 q (by omega)]
        have u54t : A5 54 t = nI (i + 1) := by rw [q54, k54 t (by omega), v54t]
        have e44 : A5 44 (nI j1).toNatClampNeg = S 6 j1 := by rw [ej1]; exact h5.at (f := 6) (by decide)
        have e53 : A5 53 (nI t).toNatClampNeg = nI j := by rw [et, u53 t (Nat.le_refl _), h53]
        refine m_D.nee 9 (by decide) rfl hinj ?_
        rw [e44]
        refine m_D.nay 9 (by decide) rfl (by rw [nI_dec]; exact nI_pos (by omega)) ?_
        simp only [nI_dec]
        refine m_D.nee 9 (by decide) rfl hin ?_
        rw [e53]
        refine m_D.pla 3 (by decide) rfl ?_
        refine m_D.sub [2, 0, 1, 3, 4] rfl ?_
        refine ihs e j (i + 1) t b1 hi (S 6 j1) l c L5 I5 A5 hsh ht hj hn hok.2.2.2 (by omega) hlen g11 hhi (by omega) h5 hw5 u54t ((u53 t (Nat.le_refl _)).trans h53) (by rw [hL5]; simp only [List.length_append]; rw [hb] at hl; omega) ?_
        intro I6 A6 h6 hw6 z53 z54
        refine k I6 A6 h6 ?_ (fun q hq => ⟨(z53 q hq).1.trans (u53 q hq), (z53 q hq).2.trans (u55 q hq)⟩) (fun q hq => (z54 q hq).trans (u54 q hq))
        simp only [w_bs, hb]
        rw [hL5] at hw6
        simpa [List.append_assoc] using hw6
      cases b with
      | false =>
        refine m_D.yea 9 (by decide) rfl rfl ?_
        exact out _ I4 A4 h4 hw4 rfl rfl rfl (by rw [hL2]; simp [List.append_assoc])
      | true =>
        rw [hb] at hl
        refine m_D.nay 9 (by decide) rfl (by decide) ?_
        refine m_D.putg (n' := 9) (by decide) (by decide) (by decide) rfl hw4 (by rw [hL2]; simp at hl ⊢; omega) (fun I5 A5 hw5 hf5 => ?_)
        exact out _ I5 A5 (h4.frame (hf5.mono (fun _ z => z) (fun x z => by simp [m_cw] at z; subst z; decide)) rfl) hw5 (hf5.2.2.1 53 (by decide)) (hf5.2.2.1 54 (by decide)) (hf5.2.2.1 55 (by decide)) (by rw [hL2]; simp [List.append_assoc])
    cases hb : w_in (d_mk T tk) e e1 i with
    | false =>
      refine m_D.yea 9 (by decide) rfl rfl ?_
      exact into false _ I1 A1 hb h1 hw1 (fun q _ => ⟨congrFun (hf1.2.2.1 53 (by decide)) q, congrFun (hf1.2.2.1 55 (by decide)) q⟩) (fun q _ => congrFun (hf1.2.2.1 54 (by decide)) q) (by simp)
    | true =>
      rw [hb] at hl
      refine m_D.nay 9 (by decide) rfl (by decide) ?_
      refine m_D.putg (n' := 9) (by decide) (by decide) (by decide) rfl hw1 (by simp at hl ⊢; omega) (fun I2 A2 hw2 hf2 => ?_)
      exact into true _ I2 A2 hb (h1.frame (hf2.mono (fun _ z => z) (fun x z => by simp [m_cw] at z; subst z; decide)) rfl) hw2 (fun q _ => ⟨(congrFun (hf2.2.2.1 53 (by decide)) q).trans (congrFun (hf1.2.2.1 53 (by decide)) q), (congrFun (hf2.2.2.1 55 (by decide)) q).trans (congrFun (hf1.2.2.1 55 (by decide)) q)⟩) (fun q _ => (congrFun (hf2.2.2.1 54 (by decide)) q).trans (congrFun (hf1.2.2.1 54 (by decide)) q)) (by simp [List.append_assoc])
theorem y_pex (hV : w_V tx n T tk) {e j a b : Nat} {c : aB} {L : List Int32} {I A : Nat → Nat → Int32} (hsh : b_sh (d_mk T tk) e c) (ht : e / 32 < T) (hj : j < m) (hn : n_N S true j e c) (hok : b_ok (d_mk T tk) T c) (hht : b_ht c ≤ 9) (hF : n_F S true c a b (S 4 j) j (S 5 j) (-1)) (hab : a ≤ b) (hb : b ≤ m) (h : m_Vw tx n T tk S m I A J) (hw : m_Wr L I A) (hl : L.length + (w_e (d_mk T tk) (w_tt tx tk) e c).length ≤ 3000) : m_M m_fw m_cx 4 180 [.ref 29, .int (nI j)] g I A J X (m_Wt (w_e (d_mk T tk) (w_tt tx tk) e c) L J) := by
  have hm := h.2.2.1
  have hlen := b_len_lt hab hF
  have ej : (nI j).toNatClampNeg = j := nI_clamp (by omega)
  have hinj : ¬ (nI j < 0 ∨ 400 ≤ (nI j).toNatClampNeg) := nI_in (show j < 400 by omega) (by decide)
  have hin0 : ¬ ((0 : Int32) < 0 ∨ 16 ≤ (0 : Int32).toNatClampNeg) := by decide
  refine m_D.met rfl rfl ?_
  refine m_D.nee 9 (by decide) rfl hin0 ?_
  refine m_D.nee 9 (by decide) rfl hin0 ?_
  refine m_D.nee 9 (by decide) rfl hin0 ?_
  refine m_D.nee 9 (by decide) rfl hinj ?_
  rw [ej]
  refine m_D.pla 1 (by decide) rfl ?_
  rw [show vp_nar .boolean 0 = 0 from by decide, show (0 : Int32).toNatClampNeg = 0 from rfl]
  generalize hA1 : am_u (am_u (am_u A 53 0 (nI j)) 54 0 0) 55 0 0 = A1
  have hf1 : m_Fr m_fw m_cx I A J I A1 J := by
    rw [← hA1]
    exact ((m_Fr.set (by decide)).trans (m_Fr.set (by decide))).trans (m_Fr.set (by decide))
  have h1 := h.frame hf1 rfl
  have hw1 : m_Wr L I A1 := ⟨hw.1, fun q hq => by rw [← hA1, am_un (by simp), am_un (by simp), am_un (by simp)]; exact hw.2 q hq⟩
  have e42 : A1 42 j = S 4 j := h1.at (f := 4) (by decide)
  rw [e42]
  refine m_D.heap hf1 ?_
  refine y_pe1 hV c e j 0 0 a b (S 4 j) (S 5 j) c L I A1 hsh ht hj hn hok (by omega) (by omega) hF hb (by omega) h1 hw1 (by rw [← hA1, am_un (by simp), am_uk]; rfl) (by rw [← hA1, am_un (by simp), am_un (by simp), am_uk]) hl ?_
  intro I4 A4 h4 hw4 k53 k54
  have b55 : A4 55 0 = 0 := by rw [(k53 0 (Nat.le_refl _)).2, ← hA1, am_uk]
  refine m_D.nee 9 (by decide) rfl hin0 ?_
  rw [show A4 55 (nI 0).toNatClampNeg = 0 from b55]
  refine m_D.yea 9 (by decide) rfl rfl ?_
  refine m_D.nee 9 (by decide) rfl hinj ?_
  refine m_D.yea 9 (by decide) rfl (by decide) ?_
  refine m_D.pla 3 (by decide) rfl ?_
  refine m_D.yea 9 (by decide) rfl (by decide) ?_
  exact m_D.ret 9 (by decide) rfl trivial m_Fr.refl ⟨rfl, rfl, hw4⟩
end MXP
