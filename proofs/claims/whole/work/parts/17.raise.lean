/-! SOUND: throw new X("..") -/
section SNX
variable {M d B C u c : Nat} {Q : aO → aH → Prop} {pc : Nat} {ls : List (Nat × Value)} {r : List Value} {K : List aK} {I A : Nat → Nat → Int32} {J : Nat → Nat → Int64} {Xs : Nat × (Nat → Int32)} {cp q w X wi t : Nat}
set_option maxHeartbeats 1000000 in
theorem am_i_throw (hk : (am_kr.getD (am_own M) []).lookup cp = some (X, wi)) (hq : (am_sr.getD (am_own M) []).lookup q = some t) (hw : (am_sx.getD (am_own M) []).lookup w = some X) (hhs : am_hs M = []) (h8 : (r.map Value.category).sum ≤ 8)
    (hd0 : decode (am_by M) pc = .ok (.new cp, 3)) (hd3 : decode (am_by M) (pc + 3) = .ok (.dup, 1)) (hd4 : decode (am_by M) (pc + 4) = .ok (.ldc q, 2)) (hd6 : decode (am_by M) (pc + 6) = .ok (.invokespecial w, 3)) (hd9 : decode (am_by M) (pc + 9) = .ok (.athrow, 1))
    (hdd : 6 ≤ d) (hB : u + 1 ≤ B) (hC : c + 6 ≤ C) (hQ : Q (.inr (X, K.length)) (K ++ [.inr (.inr ())], I, A, J, Xs)) : am_Tri M d B C u c (pc, ls, r, (K, I, A, J, Xs)) Q := by
  intro p l e R s m args below meth cd E cx H locs la hR hl hlo
  obtain ⟨hx, hb, hml, hr, hlocks, hname, hown, hG, htr, hex, hRm, hbs, hvn, hol, hE0, hfl⟩ := id cx
  intro T0 hT0 X0
  have hle : s.heap.size ≤ H.size := by rw [← hT0]; exact X0.same.2.1
  refine (?_ : W p l e R s m args below meth cd H locs u c _ _) T0 hT0 X0
  have h1 := am_of am_xall rfl hw
  unfold am_rowX at h1
  split at h1
  · rename_i cls ix bx hcl hxc
    simp only [Bool.and_eq_true, decide_eq_true_eq, List.all_eq_true] at h1
    obtain ⟨⟨⟨⟨⟨⟨⟨hX, hfit⟩, hini⟩, hws⟩, b0⟩, b1⟩, b2⟩, b5⟩ := h1
    dsimp only at hX hcl hxc hws
    have hbef : ∀ x ∈ am_xw (am_nm.getD (am_own M) "") w cls ix bx, x.before args s = true := fun x hx' => am_okX.before (hws x hx') hG hE0 hol args
    have hcn : am_ex.getD (X - 100) "" = cls := by rw [List.getD_eq_getElem?_getD, hcl]; rfl
    obtain ⟨hkw, -⟩ := am_Kd hk
    rw [if_neg (by omega), hcn] at hkw
    obtain ⟨ii, hii⟩ := List.getElem?_of_mem hini
    have hsr := am_of am_sall rfl hq
    unfold am_rowS at hsr
    split at hsr
    · rename_i C0 k0 tx hst
      simp only [Bool.and_eq_true, decide_eq_true_eq] at hsr
      obtain ⟨e1, e2⟩ := hsr
      have hv := hG.2.2.2.1 _ _ hst
      dsimp only at hv e1 e2
      rw [e1, e2] at hv
      refine W.newc hx hb hown (hG.1.use hkw rfl args) (hbef (.instantiable cls 6) (by simp [am_xw])) (hG.1.use hii rfl args) rfl hd0 (by rw [hRm]; exact hB) (by rw [hRm]; exact hC) fun cC kC f1 f2 f3 f4 => ?_
      show W p l e R s m args below meth cd _ locs (u + 1) (c + 6) _ (F0 m (pc + 3) la (.ref H.size :: r.map (am_v E)))
      refine lv_dup hx hb hd3 rfl ?_
      show W p l e R s m args below meth cd _ locs (u + 1) (c + 6) _ (F0 m (pc + 4) la (.ref H.size :: .ref H.size :: r.map (am_v E)))
      refine va_ldcS hx hb hown hv hd4 ?_
      show W p l e R s m args below meth cd _ locs (u + 1) (c + 6) _ (F0 m (pc + 6) la (.ref (E.2.2.2.2 t) :: .ref H.size :: .ref H.size :: r.map (am_v E)))
      intro T hT X1
      have hcell : T.heap[H.size]? = some (freshCell cC kC) := by rw [hT, Array.getElem?_push_size]
      obtain ⟨U, ce, st, hrun, hended, hW, hsame, g1, g2, g3, g4, g5⟩ := xm_throwS X1 hx htr (own := am_nm.getD (am_own M) "") (cls := cls) (ic := w) (ix := ix) (bx := bx) hown hfit b0 b1 b2 b5 hbef
        (fun x hx' cell hc => by rw [hvn x.base cell (hlo x hx') hc]; rfl) f1 f2 hcell hle (msg := .ref (E.2.2.2.2 t)) rfl (g := F0 m (pc + 6) la (.ref (E.2.2.2.2 t) :: .ref H.size :: .ref H.size :: r.map (am_v E))) rfl (by rw [hml]; exact hl.1) rfl rfl (rest := r.map (am_v E)) rfl
        (by rw [hb]; exact hd6) (by rw [hb]; exact hd9) (by
          have h0 : cd.exceptionTable.toList = [] := by
            rw [hhs] at hex
            exact List.map_eq_nil_iff.mp hex
          rw [h0]
          intro x hx'
          cases hx') (by rw [hRm]; show 5 < d; omega) (by
          rw [hRm]
          have h9 := am_vcats E r
          rw [List.map_cons, List.sum_cons, h9]
          show 2 * 0 + (1 + _) + 81 ≤ 40 * d
          omega) hlocks
      have hsz : H.size = E.1 + K.length := hR.1
      refine ⟨U, st, .threw H.size, hrun, hended, ⟨.inr (X, K.length), _, hQ, ?_, ?_⟩, locs, hW, hsame.mono hB hC, hlo⟩
      · refine am_R.moved hW.alike ?_
        refine hR.push (by rw [g4, hT]; simp) (fun z hz => ?_) (fun _ _ => rfl) (fun _ _ => rfl) (fun _ _ => rfl) trivial (fun cell hcell' => ?_)
        · rw [g5 z (Nat.ne_of_lt hz), hT, Array.getElem?_push, if_neg (Nat.ne_of_lt hz)]
        · rw [← hsz, g1] at hcell'
          cases hcell'
          exact g3
      · refine ⟨by rw [hsz], ce, by rw [← hsz]; exact g1, g3, ?_⟩
        rw [hcn, hW.alike.findClass, g2]
        exact f1
    · cases hsr
  · cases h1
end SNX
