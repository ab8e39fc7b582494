/-! SOUND: what the texts' own methods do (String, StringLatin1) -/
section SSTR
variable {M d B C u c : Nat} {Q : aO → aH → Prop} {pc : Nat} {ls : List (Nat × Value)} {r : List Value} {h : aH}
theorem am_R.old {E : aE} {U : State} {H : Heap} (hR : am_R E h U H) (q : Nat) (hq : q < E.2.1.size) : H[q]? = E.2.1[q]? := by
  obtain ⟨K, I, A, J, L, xs⟩ := h
  exact hR.2.2.2.1 q (by rw [← hR.2.2.1]; exact hq)
theorem am_j_get {cp wi q : Nat} {n t : String} {v : Value} (hw : lw_tbl[wi]? = some (Jvm.Cond.fieldLink (am_nm.getD (am_own M) "") cp "java/lang/String" n t)) (hv : ∀ (E : aE) (U : State), am_G E U → va_OF "java/lang/String" n t (am_v E v) (E.2.2.2.2 q) (fun q => E.1 ≤ q) U E.2.1)
    (hd : decode (am_by M) pc = .ok (.getfield cp, 3)) (kk : am_Tri M d B C u c (pc + 3, ls, v :: r, h) Q) : am_Tri M d B C u c (pc, ls, .retAddr q :: r, h) Q := by
  intro p l e R s m args below meth cd E cx H locs la hR hl hlo
  obtain ⟨hx, hb, hml, hr, hlocks, hname, hown, hG, htr, hex, hRm, hbs, hvn, hol, hE0, hfl⟩ := id cx
  obtain ⟨cf, k, fi, f, cell, h1, h2, h3, h4, h5, h6⟩ := (hv E s hG).kept (fun a ha _ => hR.old a ha)
  exact W.getf hx hb hown (hG.1.use hw rfl args) h1 h2 h3 h4 (v := am_v E v) h5 rfl rfl hd (kk p l e R s m args below meth cd E cx H locs la hR hl hlo)
theorem am_j_sta {cp wi : Nat} {C' n t : String} {x : Int32} (hw : lw_tbl[wi]? = some (Jvm.Cond.fieldLink (am_nm.getD (am_own M) "") cp C' n t)) (hv : ∀ (E : aE) (U : State), am_G E U → va_Z C' n t (.int x) (fun q => E.1 ≤ q) U E.2.1)
    (hd : decode (am_by M) pc = .ok (.getstatic cp, 3)) (kk : am_Tri M d B C u c (pc + 3, ls, .int x :: r, h) Q) : am_Tri M d B C u c (pc, ls, r, h) Q := by
  intro p l e R s m args below meth cd E cx H locs la hR hl hlo
  obtain ⟨hx, hb, hml, hr, hlocks, hname, hown, hG, htr, hex, hRm, hbs, hvn, hol, hE0, hfl⟩ := id cx
  obtain ⟨cf, kf, fi, f, a, cell, h1, h2, h3, h4, h5, h6, h7, h8⟩ := (hv E s hG).kept (fun a ha _ => hR.old a ha)
  exact W.gets hx hb hown (hG.1.use hw rfl args) h1 h2 h3 h4 h5 (fun e => by rw [e] at h6; cases h6) h7 rfl hd (kk p l e R s m args below meth cd E cx H locs la hR hl hlo)
theorem am_j_len {i : Nat} (hi : i < 29) (hd : decode (am_by M) pc = .ok (.arraylength, 1)) (kk : am_Tri M d B C u c (pc + 1, ls, .int (Int32.ofNat (am_sl.getD i 0)) :: r, h) Q) : am_Tri M d B C u c (pc, ls, .retAddr (2000 + i) :: r, h) Q := by
  intro p l e R s m args below meth cd E cx H locs la hR hl hlo
  obtain ⟨hx, hb, hml, hr, hlocks, hname, hown, hG, htr, hex, hRm, hbs, hvn, hol, hE0, hfl⟩ := id cx
  obtain ⟨cell, h1, h2, h3, h4, h5, h6, h7⟩ := ((hG.2.2.2.2.1 i hi).2.2.2).kept (fun a ha _ => hR.old a ha)
  exact W.alen (n := Int32.ofNat (am_sl.getD i 0)) hx hb h1 h2 h5 rfl rfl hd (kk p l e R s m args below meth cd E cx H locs la hR hl hlo)
theorem am_j_byte {i : Nat} {j : Int32} (hi : i < 29) (hj : vp_in j (am_sl.getD i 0)) (hd : decode (am_by M) pc = .ok (.baload, 1)) (kk : am_Tri M d B C u c (pc + 1, ls, .int ((am_sb.getD i []).getD j.toNatClampNeg 0) :: r, h) Q) : am_Tri M d B C u c (pc, ls, .int j :: .retAddr (2000 + i) :: r, h) Q := by
  intro p l e R s m args below meth cd E cx H locs la hR hl hlo
  obtain ⟨hx, hb, hml, hr, hlocks, hname, hown, hG, htr, hex, hRm, hbs, hvn, hol, hE0, hfl⟩ := id cx
  obtain ⟨cell, h1, h2, h3, h4, h5, h6, h7⟩ := ((hG.2.2.2.2.1 i hi).2.2.2).kept (fun a ha _ => hR.old a ha)
  have hlt : j.toNatClampNeg < am_sl.getD i 0 := Nat.not_le.mp fun q => hj (Or.inr q)
  have hin' : ¬ (j < 0 ∨ cell.slots.size ≤ j.toNatClampNeg) := by
    intro q
    rcases q with q | q
    · exact hj (Or.inl q)
    · omega
  exact W.bald (v := .int ((am_sb.getD i []).getD j.toNatClampNeg 0)) hx hb h1 h2 h3 hin' (by rw [h6 _ hlt]) rfl rfl hd (kk p l e R s m args below meth cd E cx H locs la hR hl hlo)
end SSTR
