/-! THE LAW: calls that may be refused -/
theorem lg_same (x : Int64) : lg_cmp x x = 0 := by
  unfold lg_cmp
  simp
section LWT
variable {L : Nat} {xs : Nat → Int32} {i : Nat} {B C u c : Nat} {Q : aO → aH → Prop} {g : List aK} {I A : Nat → Nat → Int32} {J : Nat → Nat → Int64}
theorem lw_in {d : Nat} (hi : i + 4 ≤ L) (hL : L ≤ 2048) (hd : d < 4) : ¬ (nI (i + d) < 0 ∨ L ≤ (nI (i + d)).toNatClampNeg) := nI_in (show i + d < L by omega) (by omega)
theorem lw_5 (hz : z_Z I A) (hi : i + 4 ≤ L) (hL : L ≤ 2048) (hu : u + 2 ≤ B) (hc : c + 12 ≤ C) (hk : lw_K L xs i B C u c Q) : am_Tri 200 2048 B C u c (275, lw_l i, [], am_H g I A J (L, xs)) Q := by
  obtain ⟨tx, n, w, p, T, tk, NL, W, hC, hM⟩ := hz
  have hT := hC.2.2.2.1
  have hT2 := hT.2.1
  have hMq := hM.2.2.2.2.2.2.1
  have e1 : (nI i + 1).toNatClampNeg = i + 1 := by rw [nI_1, nI_clamp (by omega)]
  have e2 : (nI i + 2).toNatClampNeg = i + 2 := by rw [show (2 : Int32) = nI 2 from rfl, nI_add, nI_clamp (by omega)]
  have n1 : ¬ (nI i + 1 < 0 ∨ L ≤ (nI i + 1).toNatClampNeg) := by rw [nI_1]; exact lw_in hi hL (by decide)
  have n2 : ¬ (nI i + 2 < 0 ∨ L ≤ (nI i + 2).toNatClampNeg) := by rw [show (2 : Int32) = nI 2 from rfl, nI_add]; exact lw_in hi hL (by decide)
  refine am_nee 9 (by decide) rfl n1 ?_
  refine am_nee 9 (by decide) rfl n2 ?_
  rw [e1, e2]
  have last : ∀ (g' : List aK) (J' : Nat → Nat → Int64) (v6 v5 t : Int32), z_Z (am_u I 29 0 t) A → am_Tri 200 2048 B C (u + 1) (c + 6) (340, [(6, .int v6), (5, .int v5), (4, .int (nI i)), (3, .ref 56), (2, .ref 29), (1, .ref 0), (0, .retAddr 1000)], [], am_H g' (am_u I 29 0 t) A J' (L, xs)) Q := by
    intro g' J' v6 v5 t hz'
    refine am_pla 1 (by decide) rfl ?_
    refine am_sub [2, 3, 4, 5, 6] rfl ?_
    exact hk g' _ A J' (u + 1) (c + 6) hz' (by omega) (by omega)
  have hzt : ∀ t, z_Z (am_u I 29 0 t) A := fun t => ⟨tx, n, w, p, T, tk, NL, W, hC.fr (fun x hx => ⟨am_uo (by omega), rfl⟩), hM.put⟩
  by_cases hq : q_in (xs (i + 1)) (xs (i + 2)) T
  · obtain ⟨⟨q1, q2⟩, q3, q4⟩ := hq
    obtain ⟨j, j1, j2⟩ := nI_below (by omega) q1 q2
    refine am_cav 9 (by decide) rfl ((k_htk hT).1 j j1 j2 q3 q4) (by decide) (by omega) (by omega) ?_
    refine am_nee 9 (by decide) rfl n1 ?_
    refine am_nee 9 (by decide) rfl n2 ?_
    rw [e1, e2]
    refine am_cav 9 (by decide) rfl ((y_tok hMq).1 j j1 j2 q3 q4) (by decide) (by omega) (by omega) ?_
    refine am_cav 9 (by decide) rfl y_thrown (by decide) (by omega) (by omega) ?_
    refine am_yea 9 (by decide) rfl am_uk ?_
    refine am_nay 9 (by decide) rfl (by decide) ?_
    refine am_nee 9 (by decide) rfl nd_56 ?_
    refine am_yea 9 (by decide) rfl (by rw [show am_u J 56 0 (q_tk tk j (xs (i + 2))).toInt64 56 (0 : Int32).toNatClampNeg = (q_tk tk j (xs (i + 2))).toInt64 from am_uk]; exact lg_same _) ?_
    exact last _ _ _ _ _ (hzt _)
  · refine am_cav 9 (by decide) rfl ((k_htk hT).2 hq) (by decide) (by omega) (by omega) ?_
    refine am_nee 9 (by decide) rfl n1 ?_
    refine am_nee 9 (by decide) rfl n2 ?_
    rw [e1, e2]
    refine am_cav 9 (by decide) rfl ((y_tok hMq).2 hq) (by decide) (by omega) (by omega) ?_
    refine am_cav 9 (by decide) rfl y_thrown (by decide) (by omega) (by omega) ?_
    refine am_yea 9 (by decide) rfl am_uk ?_
    refine am_yea 9 (by decide) rfl (by decide) ?_
    exact last _ _ _ _ _ (hzt _)
theorem lw_7 (hz : z_Z I A) (hi : i + 4 ≤ L) (hL : L ≤ 2048) (hu : u + 2 ≤ B) (hc : c + 12 ≤ C) (hk : lw_K L xs i B C u c Q) : am_Tri 200 2048 B C u c (356, lw_l i, [], am_H g I A J (L, xs)) Q := by
  obtain ⟨tx, n, w, p, T, tk, NL, W, hC, hM⟩ := hz
  have hN := hC.2.2.2.2.1
  have hN3 := hC.2.2.2.2.2.1
  have hNr := hC.2.2.2.2.2.2.1
  have hMn := hM.2.2.2.2.2.2.2.1
  have hMr := hM.2.2.2.2.2.2.2.2.1
  have e1 : (nI i + 1).toNatClampNeg = i + 1 := by rw [nI_1, nI_clamp (by omega)]
  have e2 : (nI i + 2).toNatClampNeg = i + 2 := by rw [show (2 : Int32) = nI 2 from rfl, nI_add, nI_clamp (by omega)]
  have n1 : ¬ (nI i + 1 < 0 ∨ L ≤ (nI i + 1).toNatClampNeg) := by rw [nI_1]; exact lw_in hi hL (by decide)
  have n2 : ¬ (nI i + 2 < 0 ∨ L ≤ (nI i + 2).toNatClampNeg) := by rw [show (2 : Int32) = nI 2 from rfl, nI_add]; exact lw_in hi hL (by decide)
  refine am_nee 9 (by decide) rfl n1 ?_
  refine am_nee 9 (by decide) rfl n2 ?_
  rw [e1, e2]
  have last : ∀ (g' : List aK) (J' : Nat → Nat → Int64) (v6 v5 t : Int32), z_Z (am_u I 29 0 t) A → am_Tri 200 2048 B C (u + 1) (c + 6) (421, [(6, .int v6), (5, .int v5), (4, .int (nI i)), (3, .ref 56), (2, .ref 29), (1, .ref 0), (0, .retAddr 1000)], [], am_H g' (am_u I 29 0 t) A J' (L, xs)) Q := by
    intro g' J' v6 v5 t hz'
    refine am_pla 1 (by decide) rfl ?_
    refine am_sub [2, 3, 4, 5, 6] rfl ?_
    exact hk g' _ A J' (u + 1) (c + 6) hz' (by omega) (by omega)
  have hzt : ∀ t, z_Z (am_u I 29 0 t) A := fun t => ⟨tx, n, w, p, T, tk, NL, W, hC.fr (fun x hx => ⟨am_uo (by omega), rfl⟩), hM.put⟩
  by_cases hq : q_in (xs (i + 1)) (xs (i + 2)) NL.length
  · obtain ⟨⟨q1, q2⟩, q3, q4⟩ := hq
    obtain ⟨j, j1, j2⟩ := nI_below (by omega) q1 q2
    refine am_cav 9 (by decide) rfl ((k_hnd hN hN3 hNr).1 j j1 j2 q3 q4) (by decide) (by omega) (by omega) ?_
    refine am_nee 9 (by decide) rfl n1 ?_
    refine am_nee 9 (by decide) rfl n2 ?_
    rw [e1, e2]
    refine am_cav 9 (by decide) rfl ((y_nod hMn hN3 hMr).1 j j1 j2 q3 q4) (by decide) (by omega) (by omega) ?_
    refine am_cav 9 (by decide) rfl y_thrown (by decide) (by omega) (by omega) ?_
    refine am_yea 9 (by decide) rfl am_uk ?_
    refine am_nay 9 (by decide) rfl (by decide) ?_
    refine am_nee 9 (by decide) rfl nd_56 ?_
    refine am_yea 9 (by decide) rfl (by rw [show am_u J 56 0 (q_nd (NL.getD j (0, 0)) (xs (i + 2))).toInt64 56 (0 : Int32).toNatClampNeg = (q_nd (NL.getD j (0, 0)) (xs (i + 2))).toInt64 from am_uk]; exact lg_same _) ?_
    exact last _ _ _ _ _ (hzt _)
  · refine am_cav 9 (by decide) rfl ((k_hnd hN hN3 hNr).2 hq) (by decide) (by omega) (by omega) ?_
    refine am_nee 9 (by decide) rfl n1 ?_
    refine am_nee 9 (by decide) rfl n2 ?_
    rw [e1, e2]
    refine am_cav 9 (by decide) rfl ((y_nod hMn hN3 hMr).2 hq) (by decide) (by omega) (by omega) ?_
    refine am_cav 9 (by decide) rfl y_thrown (by decide) (by omega) (by omega) ?_
    refine am_yea 9 (by decide) rfl am_uk ?_
    refine am_yea 9 (by decide) rfl (by decide) ?_
    exact last _ _ _ _ _ (hzt _)
theorem lw_9 (hz : z_Z I A) (hi : i + 4 ≤ L) (hL : L ≤ 2048) (hu : u + 2 ≤ B) (hc : c + 12 ≤ C) (hk : lw_K L xs i B C u c Q) : am_Tri 200 2048 B C u c (437, lw_l i, [], am_H g I A J (L, xs)) Q := by
  obtain ⟨tx, n, w, p, T, tk, NL, W, hC, hM⟩ := hz
  have hW := hC.2.2.2.2.2.2.2.1
  have hW3 := hC.2.2.2.2.2.2.2.2
  have hMw := hM.2.2.2.2.2.2.2.2.2
  have e1 : (nI i + 1).toNatClampNeg = i + 1 := by rw [nI_1, nI_clamp (by omega)]
  have n1 : ¬ (nI i + 1 < 0 ∨ L ≤ (nI i + 1).toNatClampNeg) := by rw [nI_1]; exact lw_in hi hL (by decide)
  refine am_nee 9 (by decide) rfl n1 ?_
  rw [e1]
  have last : ∀ (g' : List aK) (J' : Nat → Nat → Int64) (v6 v5 t : Int32), z_Z (am_u I 29 0 t) A → am_Tri 200 2048 B C (u + 1) (c + 6) (490, [(6, .int v6), (5, .int v5), (4, .int (nI i)), (3, .ref 56), (2, .ref 29), (1, .ref 0), (0, .retAddr 1000)], [], am_H g' (am_u I 29 0 t) A J' (L, xs)) Q := by
    intro g' J' v6 v5 t hz'
    refine am_pla 1 (by decide) rfl ?_
    refine am_sub [2, 3, 4, 5, 6] rfl ?_
    exact hk g' _ A J' (u + 1) (c + 6) hz' (by omega) (by omega)
  have hzt : ∀ t, z_Z (am_u I 29 0 t) A := fun t => ⟨tx, n, w, p, T, tk, NL, W, hC.fr (fun x hx => ⟨am_uo (by omega), rfl⟩), hM.put⟩
  by_cases hq : ¬ xs (i + 1) < 0 ∧ xs (i + 1) < nI W.length
  · obtain ⟨q1, q2⟩ := hq
    obtain ⟨j, j1, j2⟩ := nI_below (by omega) q1 q2
    refine am_cav 9 (by decide) rfl ((k_hou hW hW3).1 j j1 j2) (by decide) (by omega) (by omega) ?_
    refine am_nee 9 (by decide) rfl n1 ?_
    rw [e1]
    refine am_cav 9 (by decide) rfl ((y_out hMw hW3 hW.2.2).1 j j1 j2) (by decide) (by omega) (by omega) ?_
    refine am_cav 9 (by decide) rfl y_thrown (by decide) (by omega) (by omega) ?_
    refine am_yea 9 (by decide) rfl am_uk ?_
    refine am_nay 9 (by decide) rfl (by decide) ?_
    refine am_nee 9 (by decide) rfl nd_56 ?_
    refine am_yea 9 (by decide) rfl (by rw [show am_u J 56 0 (W.getD j 0).toInt64 56 (0 : Int32).toNatClampNeg = (W.getD j 0).toInt64 from am_uk]; exact lg_same _) ?_
    exact last _ _ _ _ _ (hzt _)
  · refine am_cav 9 (by decide) rfl ((k_hou hW hW3).2 hq) (by decide) (by omega) (by omega) ?_
    refine am_nee 9 (by decide) rfl n1 ?_
    rw [e1]
    refine am_cav 9 (by decide) rfl ((y_out hMw hW3 hW.2.2).2 hq) (by decide) (by omega) (by omega) ?_
    refine am_cav 9 (by decide) rfl y_thrown (by decide) (by omega) (by omega) ?_
    refine am_yea 9 (by decide) rfl am_uk ?_
    refine am_yea 9 (by decide) rfl (by decide) ?_
    exact last _ _ _ _ _ (hzt _)
end LWT
