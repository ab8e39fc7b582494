/-! SOUND: arrays, new cells, constants -/
section SNA
variable {M d B C u c : Nat} {Q : aO → aH → Prop} {pc : Nat} {ls : List (Nat × Value)} {r : List Value} {K : List aK} {I A : Nat → Nat → Int32} {J : Nat → Nat → Int64} {X : Nat × (Nat → Int32)} {a cp : Nat} {x i : Int32} {z : Int64} {n : Nat}
theorem am_i_iald (hk : K[a]? = some (.inr (.inl (.int, n)))) (hin : vp_in i n) (hd : decode (am_by M) pc = .ok (.iaload, 1)) (kk : am_Tri M d B C u c (pc + 1, ls, .int (A a i.toNatClampNeg) :: r, (K, I, A, J, X)) Q) : am_Tri M d B C u c (pc, ls, .int i :: .ref a :: r, (K, I, A, J, X)) Q := by
  intro p l e R s m args below meth cd E cx H locs la hR hl hlo
  have hcell : H[E.1 + a]? = some (arrV (E.2.2.2.1 .int) n (fun j => .int (A a j))) := hR.2.1 a _ hk
  have hlt : i.toNatClampNeg < n := Nat.not_le.mp fun q => hin (Or.inr q)
  exact W.iald (v := .int (A a i.toNatClampNeg)) cx.1 cx.2.1 hcell ((cx.2.2.2.2.2.2.2.1.2.2.1 .int rfl).1 n (fun j => .int (A a j))) (fun q => by cases q) (by rw [arrV_size]; exact hin) (by rw [arrV_read _ _ hlt]) rfl rfl hd (kk p l e R s m args below meth cd E cx H locs la hR hl hlo)
theorem am_i_cald (hk : K[a]? = some (.inr (.inl (.char, n)))) (hin : vp_in i n) (hd : decode (am_by M) pc = .ok (.caload, 1)) (kk : am_Tri M d B C u c (pc + 1, ls, .int (A a i.toNatClampNeg) :: r, (K, I, A, J, X)) Q) : am_Tri M d B C u c (pc, ls, .int i :: .ref a :: r, (K, I, A, J, X)) Q := by
  intro p l e R s m args below meth cd E cx H locs la hR hl hlo
  have hcell : H[E.1 + a]? = some (arrV (E.2.2.2.1 .char) n (fun j => .int (A a j))) := hR.2.1 a _ hk
  have hlt : i.toNatClampNeg < n := Nat.not_le.mp fun q => hin (Or.inr q)
  exact W.cald (v := .int (A a i.toNatClampNeg)) cx.1 cx.2.1 hcell ((cx.2.2.2.2.2.2.2.1.2.2.1 .char rfl).1 n (fun j => .int (A a j))) (fun q => by cases q) (by rw [arrV_size]; exact hin) (by rw [arrV_read _ _ hlt]) rfl rfl hd (kk p l e R s m args below meth cd E cx H locs la hR hl hlo)
theorem am_i_zald (hk : K[a]? = some (.inr (.inl (.boolean, n)))) (hin : vp_in i n) (hd : decode (am_by M) pc = .ok (.baload, 1)) (kk : am_Tri M d B C u c (pc + 1, ls, .int (A a i.toNatClampNeg) :: r, (K, I, A, J, X)) Q) : am_Tri M d B C u c (pc, ls, .int i :: .ref a :: r, (K, I, A, J, X)) Q := by
  intro p l e R s m args below meth cd E cx H locs la hR hl hlo
  have hcell : H[E.1 + a]? = some (arrV (E.2.2.2.1 .boolean) n (fun j => .int (A a j))) := hR.2.1 a _ hk
  have hlt : i.toNatClampNeg < n := Nat.not_le.mp fun q => hin (Or.inr q)
  exact W.zald (v := .int (A a i.toNatClampNeg)) cx.1 cx.2.1 hcell ((cx.2.2.2.2.2.2.2.1.2.2.1 .boolean rfl).1 n (fun j => .int (A a j))) (fun q => by cases q) (by rw [arrV_size]; exact hin) (by rw [arrV_read _ _ hlt]) rfl rfl hd (kk p l e R s m args below meth cd E cx H locs la hR hl hlo)
theorem am_i_lald (hk : K[a]? = some (.inr (.inl (.long, n)))) (hin : vp_in i n) (hd : decode (am_by M) pc = .ok (.laload, 1)) (kk : am_Tri M d B C u c (pc + 1, ls, .long (J a i.toNatClampNeg) :: r, (K, I, A, J, X)) Q) : am_Tri M d B C u c (pc, ls, .int i :: .ref a :: r, (K, I, A, J, X)) Q := by
  intro p l e R s m args below meth cd E cx H locs la hR hl hlo
  have hcell : H[E.1 + a]? = some (arrV (E.2.2.2.1 .long) n (fun j => .long (J a j))) := hR.2.1 a _ hk
  have hlt : i.toNatClampNeg < n := Nat.not_le.mp fun q => hin (Or.inr q)
  exact W.lald (v := .long (J a i.toNatClampNeg)) cx.1 cx.2.1 hcell ((cx.2.2.2.2.2.2.2.1.2.2.1 .long rfl).1 n (fun j => .long (J a j))) (fun q => by cases q) (by rw [arrV_size]; exact hin) (by rw [arrV_read _ _ hlt]) rfl rfl hd (kk p l e R s m args below meth cd E cx H locs la hR hl hlo)
theorem am_i_sald {L : Nat} {xs : Nat → Int32} (hin : vp_in i L) (hd : decode (am_by M) pc = .ok (.iaload, 1)) (kk : am_Tri M d B C u c (pc + 1, ls, .int (xs i.toNatClampNeg) :: r, (K, I, A, J, (L, xs))) Q) : am_Tri M d B C u c (pc, ls, .int i :: .retAddr 1000 :: r, (K, I, A, J, (L, xs))) Q := by
  intro p l e R s m args below meth cd E cx H locs la hR hl hlo
  obtain ⟨scr, h1, h2, h3, h4, h5⟩ := hR.2.2.2.2.2
  have hlt : i.toNatClampNeg < L := Nat.not_le.mp fun q => hin (Or.inr q)
  have hb : E.2.2.2.2 1000 < E.1 := by rw [← hR.2.2.1]; exact (Array.getElem?_eq_some_iff.mp h1).1
  exact W.iald (v := .int (xs i.toNatClampNeg)) cx.1 cx.2.1 (by rw [hR.2.2.2.1 _ hb]; exact h1) h2 h3 (by rw [h4]; exact hin) (h5 _ hlt) rfl rfl hd (kk p l e R s m args below meth cd E cx H locs la hR hl hlo)
theorem am_i_len {t : ArrayType} (ht : am_at t = true) (hk : K[a]? = some (.inr (.inl (t, n)))) (hd : decode (am_by M) pc = .ok (.arraylength, 1)) (kk : am_Tri M d B C u c (pc + 1, ls, .int (Int32.ofNat n) :: r, (K, I, A, J, X)) Q) : am_Tri M d B C u c (pc, ls, .ref a :: r, (K, I, A, J, X)) Q := by
  intro p l e R s m args below meth cd E cx H locs la hR hl hlo
  have hcell := hR.2.1 a _ hk
  have hkk := kk p l e R s m args below meth cd E cx H locs la hR hl hlo
  have hG := (cx.2.2.2.2.2.2.2.1.2.2.1 t ht).1
  cases t <;> first
    | exact absurd ht (by decide)
    | exact W.alen (n := Int32.ofNat n) cx.1 cx.2.1 (show H[E.1 + a]? = some (arrV _ n (fun j => .int (A a j))) from hcell) (hG n _) (by rw [arrV_size] <;> rfl) rfl rfl hd hkk
    | exact W.alen (n := Int32.ofNat n) cx.1 cx.2.1 (show H[E.1 + a]? = some (arrV _ n (fun j => .long (J a j))) from hcell) (hG n _) (by rw [arrV_size] <;> rfl) rfl rfl hd hkk
theorem am_i_slen {L : Nat} {xs : Nat → Int32} (hd : decode (am_by M) pc = .ok (.arraylength, 1)) (kk : am_Tri M d B C u c (pc + 1, ls, .int (Int32.ofNat L) :: r, (K, I, A, J, (L, xs))) Q) : am_Tri M d B C u c (pc, ls, .retAddr 1000 :: r, (K, I, A, J, (L, xs))) Q := by
  intro p l e R s m args below meth cd E cx H locs la hR hl hlo
  obtain ⟨scr, h1, h2, h3, h4, h5⟩ := hR.2.2.2.2.2
  have hb : E.2.2.2.2 1000 < E.1 := by rw [← hR.2.2.1]; exact (Array.getElem?_eq_some_iff.mp h1).1
  exact W.alen (n := Int32.ofNat L) cx.1 cx.2.1 (by rw [hR.2.2.2.1 _ hb]; exact h1) h2 (by rw [h4] <;> rfl) rfl rfl hd (kk p l e R s m args below meth cd E cx H locs la hR hl hlo)
theorem am_locs {E : aE} {locs : List Loc} {a k : Nat} (hlo : ∀ q ∈ locs, E.1 ≤ q.base) : ∀ q ∈ locs ++ [⟨E.1 + a, k⟩], E.1 ≤ q.base := by
  intro q hq
  rcases List.mem_append.mp hq with h | h
  · exact hlo q h
  · rw [List.mem_singleton.mp h]
    exact Nat.le_add_right _ _
theorem am_rowi (A : Nat → Nat → Int32) (a k : Nat) (x : Int32) : updV (fun j => Value.int (A a j)) k (.int x) = fun j => .int (am_u A a k x a j) := by
  funext j
  by_cases h : j = k
  · simp [updV, am_u, h]
  · simp [updV, am_u, h]
theorem am_rowl (J : Nat → Nat → Int64) (a k : Nat) (x : Int64) : updV (fun j => Value.long (J a j)) k (.long x) = fun j => .long (am_u J a k x a j) := by
  funext j
  by_cases h : j = k
  · simp [updV, am_u, h]
  · simp [updV, am_u, h]
theorem am_i_iast (hk : K[a]? = some (.inr (.inl (.int, n)))) (hin : vp_in i n) (hd : decode (am_by M) pc = .ok (.iastore, 1)) (kk : am_Tri M d B C u c (pc + 1, ls, r, (K, I, am_u A a i.toNatClampNeg x, J, X)) Q) : am_Tri M d B C u c (pc, ls, .int x :: .int i :: .ref a :: r, (K, I, A, J, X)) Q := by
  intro p l e R s m args below meth cd E cx H locs la hR hl hlo
  have hcell : H[E.1 + a]? = some (arrV (E.2.2.2.1 .int) n (fun j => .int (A a j))) := hR.2.1 a _ hk
  refine W.iast cx.1 cx.2.1 hcell ((cx.2.2.2.2.2.2.2.1.2.2.1 .int rfl).1 n (fun j => .int (A a j))) (fun q => by cases q) (by rw [arrV_size]; exact hin) rfl rfl hd fun H1 e1 e2 e3 => ?_
  rw [arrV_store, am_rowi] at e1
  exact kk p l e R s m args below meth cd E cx H1 _ la (hR.upd e2 e3 rfl (fun _ _ => rfl) (fun _ _ => rfl) (fun j hj => am_ur hj) (fun _ _ => rfl) (fun q hq => by rw [hk] at hq; cases hq; exact e1) (fun ce hce => by rw [e1] at hce; cases hce; rfl)) hl (am_locs hlo)
theorem am_i_cast (hk : K[a]? = some (.inr (.inl (.char, n)))) (hin : vp_in i n) (hd : decode (am_by M) pc = .ok (.castore, 1)) (kk : am_Tri M d B C u c (pc + 1, ls, r, (K, I, am_u A a i.toNatClampNeg (vp_nar .char x), J, X)) Q) : am_Tri M d B C u c (pc, ls, .int x :: .int i :: .ref a :: r, (K, I, A, J, X)) Q := by
  intro p l e R s m args below meth cd E cx H locs la hR hl hlo
  have hcell : H[E.1 + a]? = some (arrV (E.2.2.2.1 .char) n (fun j => .int (A a j))) := hR.2.1 a _ hk
  refine W.cast cx.1 cx.2.1 hcell ((cx.2.2.2.2.2.2.2.1.2.2.1 .char rfl).1 n (fun j => .int (A a j))) (fun q => by cases q) (by rw [arrV_size]; exact hin) rfl rfl hd fun H1 e1 e2 e3 => ?_
  rw [arrV_store, show narrow .char (.int x) = .int (vp_nar .char x) from rfl, am_rowi] at e1
  exact kk p l e R s m args below meth cd E cx H1 _ la (hR.upd e2 e3 rfl (fun _ _ => rfl) (fun _ _ => rfl) (fun j hj => am_ur hj) (fun _ _ => rfl) (fun q hq => by rw [hk] at hq; cases hq; exact e1) (fun ce hce => by rw [e1] at hce; cases hce; rfl)) hl (am_locs hlo)
theorem am_i_zast (hk : K[a]? = some (.inr (.inl (.boolean, n)))) (hin : vp_in i n) (hd : decode (am_by M) pc = .ok (.bastore, 1)) (kk : am_Tri M d B C u c (pc + 1, ls, r, (K, I, am_u A a i.toNatClampNeg (vp_nar .boolean x), J, X)) Q) : am_Tri M d B C u c (pc, ls, .int x :: .int i :: .ref a :: r, (K, I, A, J, X)) Q := by
  intro p l e R s m args below meth cd E cx H locs la hR hl hlo
  have hcell : H[E.1 + a]? = some (arrV (E.2.2.2.1 .boolean) n (fun j => .int (A a j))) := hR.2.1 a _ hk
  refine W.zast cx.1 cx.2.1 hcell ((cx.2.2.2.2.2.2.2.1.2.2.1 .boolean rfl).1 n (fun j => .int (A a j))) (fun q => by cases q) (by rw [arrV_size]; exact hin) rfl rfl hd fun H1 e1 e2 e3 => ?_
  rw [arrV_store, show narrow .boolean (.int x) = .int (vp_nar .boolean x) from rfl, am_rowi] at e1
  exact kk p l e R s m args below meth cd E cx H1 _ la (hR.upd e2 e3 rfl (fun _ _ => rfl) (fun _ _ => rfl) (fun j hj => am_ur hj) (fun _ _ => rfl) (fun q hq => by rw [hk] at hq; cases hq; exact e1) (fun ce hce => by rw [e1] at hce; cases hce; rfl)) hl (am_locs hlo)
theorem am_i_last (hk : K[a]? = some (.inr (.inl (.long, n)))) (hin : vp_in i n) (hd : decode (am_by M) pc = .ok (.lastore, 1)) (kk : am_Tri M d B C u c (pc + 1, ls, r, (K, I, A, am_u J a i.toNatClampNeg z, X)) Q) : am_Tri M d B C u c (pc, ls, .long z :: .int i :: .ref a :: r, (K, I, A, J, X)) Q := by
  intro p l e R s m args below meth cd E cx H locs la hR hl hlo
  have hcell : H[E.1 + a]? = some (arrV (E.2.2.2.1 .long) n (fun j => .long (J a j))) := hR.2.1 a _ hk
  refine W.last cx.1 cx.2.1 hcell ((cx.2.2.2.2.2.2.2.1.2.2.1 .long rfl).1 n (fun j => .long (J a j))) (fun q => by cases q) (by rw [arrV_size]; exact hin) rfl rfl hd fun H1 e1 e2 e3 => ?_
  rw [arrV_store, am_rowl] at e1
  exact kk p l e R s m args below meth cd E cx H1 _ la (hR.upd e2 e3 rfl (fun _ _ => rfl) (fun _ _ => rfl) (fun _ _ => rfl) (fun j hj => am_ur hj) (fun q hq => by rw [hk] at hq; cases hq; exact e1) (fun ce hce => by rw [e1] at hce; cases hce; rfl)) hl (am_locs hlo)
theorem am_arw {t : ArrayType} (ht : am_at t = true) : ∃ i : Nat, lw_tbl[i]? = some (Jvm.Cond.arrayClass (newarray.typeOf t)) := by
  cases t <;> first | exact absurd ht (by decide) | exact List.getElem?_of_mem (by decide +kernel)
theorem am_i_newa {t : ArrayType} (ht : am_at t = true) (hn : ¬ x < 0 ∧ x.toNatClampNeg ≤ 65536) (hB : u + 1 ≤ B) (hC : c + x.toNatClampNeg ≤ C) (hd : decode (am_by M) pc = .ok (.newarray t, 2))
    (kk : am_Tri M d B C (u + 1) (c + x.toNatClampNeg) (pc + 2, ls, .ref K.length :: r, (K ++ [.inr (.inl (t, x.toNatClampNeg))], I, am_z A K.length 0, am_z J K.length 0, X)) Q) : am_Tri M d B C u c (pc, ls, .int x :: r, (K, I, A, J, X)) Q := by
  intro p l e R s m args below meth cd E cx H locs la hR hl hlo
  obtain ⟨hx, hb, hml, hr, hlocks, hname, hown, hG, htr, hex, hRm, hbs, hvn, hol, hE0, hfl⟩ := id cx
  obtain ⟨wi, hwi⟩ := am_arw ht
  have hbytes : x.toNatClampNeg * componentBytes (newarray.typeOf t) ≤ 536870912 := by
    have h8 : componentBytes (newarray.typeOf t) ≤ 8 := by cases t <;> decide
    calc x.toNatClampNeg * componentBytes (newarray.typeOf t) ≤ 65536 * 8 := Nat.mul_le_mul hn.2 h8
      _ ≤ 536870912 := by decide
  refine va_newaK hx hb (hG.1.use hwi (by cases t <;> rfl) args) rfl hd rfl hn.1 rfl hbytes (by rw [hRm]; exact hB) (by rw [hRm]; exact hC) (h := E.1 + K.length) hR.1 fun H1 cA e1 e2 e3 e4 e5 => ?_
  cases (hG.2.2.1 t ht).2.symm.trans e5
  refine kk p l e R s m args below meth cd E cx H1 locs la (hR.push (by rw [e2, hR.1]) (fun q hq => e3 q (by rw [← hR.1]; exact hq)) (fun _ _ => rfl) (fun j hj => am_zr (Nat.ne_of_lt hj)) (fun j hj => am_zr (Nat.ne_of_lt hj)) ?_ (fun ce hce => by rw [e1] at hce; cases hce; rfl)) hl hlo
  cases t <;> first
    | exact absurd ht (by decide)
    | (show H1[E.1 + K.length]? = some (arrV _ _ (fun j => .int (am_z A K.length 0 K.length j))); rw [e1]; simp [am_z]; rfl)
    | (show H1[E.1 + K.length]? = some (arrV _ _ (fun j => .long (am_z J K.length 0 K.length j))); rw [e1]; simp [am_z]; rfl)
theorem am_Kd {own cp n wi : Nat} (h : (am_kr.getD own []).lookup cp = some (n, wi)) : lw_tbl[wi]? = some (Jvm.Cond.classLink (am_nm.getD own "") cp (if n < 100 then am_nm.getD n "" else am_ex.getD (n - 100) "")) ∧ (n < 10 ∨ 100 ≤ n) := by
  have h1 := am_of am_kall rfl h
  simp only [am_rowK, Bool.and_eq_true, decide_eq_true_eq, Bool.or_eq_true] at h1
  exact h1
theorem am_dflt {ci k : Nat} (hk : k < (am_tys.getD ci []).length) : defaultValue (am_ty ci k) = am_fv (0, #[], (fun _ => 0, fun _ _ => 0), fun _ => 0, fun _ => 0) (fun _ _ => 0) 0 ci (List.replicate (am_tys.getD ci []).length .null) k := by
  have ht : am_okt (am_ty ci k) = true := by
    unfold am_ty
    rw [List.getD_eq_getElem?_getD, List.getD_eq_getElem?_getD]
    cases h1 : am_tys[ci]? with
    | none => rfl
    | some l =>
      have h2 := List.all_eq_true.mp am_tall l (List.mem_of_getElem? h1)
      simp only [Option.getD_some]
      cases h3 : l[k]? with
      | none => rfl
      | some t => exact List.all_eq_true.mp h2 t (List.mem_of_getElem? h3)
  have hg : (List.replicate (am_tys.getD ci []).length Value.null).getD k .null = .null := by
    rw [List.getD_eq_getElem?_getD, List.getElem?_replicate, if_pos hk]
    rfl
  unfold am_fv
  rw [hg]
  cases e : am_ty ci k <;> rw [e] at ht <;> simp [am_okt] at ht <;> simp [am_isr, e, am_v] <;> rfl
theorem am_i_new {ci wi : Nat} (hk : (am_kr.getD (am_own M) []).lookup cp = some (ci, wi)) (hci : ci < 100) (hB : u + 1 ≤ B) (hC : c + (am_tys.getD ci []).length ≤ C) (hd : decode (am_by M) pc = .ok (.new cp, 3))
    (kk : am_Tri M d B C (u + 1) (c + (am_tys.getD ci []).length) (pc + 3, ls, .ref K.length :: r, (K ++ [.inl (ci, List.replicate (am_tys.getD ci []).length .null)], am_z I K.length 0, A, J, X)) Q) : am_Tri M d B C u c (pc, ls, r, (K, I, A, J, X)) Q := by
  intro p l e R s m args below meth cd E cx H locs la hR hl hlo
  obtain ⟨hx, hb, hml, hr, hlocks, hname, hown, hG, htr, hex, hRm, hbs, hvn, hol, hE0, hfl⟩ := id cx
  obtain ⟨hw, hn⟩ := am_Kd hk
  have h10 : ci < 10 := by omega
  obtain ⟨⟨C0, T, N⟩, hc⟩ : ∃ q, am_cl[ci]? = some q := ⟨am_cl[ci]'(by exact h10), List.getElem?_eq_getElem (by exact h10)⟩
  obtain ⟨hws, hdis, hfl, ⟨w1, hw1⟩, ⟨w2, hw2⟩, hN⟩ := am_Cd hc
  have hnm : am_nm.getD ci "" = C0 := by
    have : am_cl.map Prod.fst = am_nm.take 10 := rfl
    have h2 : (am_cl.map Prod.fst)[ci]? = some C0 := by rw [List.getElem?_map, hc]; rfl
    rw [this, List.getElem?_take, if_pos h10] at h2
    rw [List.getD_eq_getElem?_getD, h2]
    rfl
  rw [if_pos hci, hnm] at hw
  have hKn := hG.2.1.1 ci _ hc
  have hkk := kk p l e R s m args below meth cd E cx
  rw [hN] at hkk hC
  refine W.newcK hx hb hown (hG.1.use hw rfl args) (hG.1.use hw1 rfl args) (hG.1.use hw2 rfl args) rfl hd (by rw [hRm]; exact hB) (by rw [hRm]; exact hC) hKn.2.1 (h := E.1 + K.length) hR.1 fun H1 kC hkC e1 z1 o1 => ?_
  refine hkk H1 locs la (hR.push (by rw [z1, hR.1]) (fun q hq => o1 q (by rw [← hR.1]; exact hq)) (fun j hj => am_zr (Nat.ne_of_lt hj)) (fun _ _ => rfl) (fun _ _ => rfl) ?_ (fun ce hce => by rw [e1] at hce; cases hce; rfl)) hl hlo
  refine ⟨_, hc, by simp, (u_born (am_ty ci) (am_hts hG.1 hc args) (fun _ h => h) hKn hkC e1 (fun k hk => (hfl k hk).1)).to (fun j hj => ?_)⟩
  rw [am_dflt (by rw [hN]; exact hj), hN]
  unfold am_fv
  by_cases hz : am_isr ci j = true
  · simp only [hz, if_true]
    rw [List.getD_eq_getElem?_getD, List.getElem?_replicate]
    by_cases hjN : j < N <;> simp [hjN, am_v]
  · simp [hz, am_z]
theorem am_i_ldc {t : Nat} (hk : (am_sr.getD (am_own M) []).lookup cp = some t) (hd : decode (am_by M) pc = .ok (.ldc cp, 2)) {h : aH} (kk : am_Tri M d B C u c (pc + 2, ls, .retAddr t :: r, h) Q) : am_Tri M d B C u c (pc, ls, r, h) Q := by
  intro p l e R s m args below meth cd E cx H locs la hR hl hlo
  have h1 := am_of am_sall rfl hk
  unfold am_rowS at h1
  split at h1
  · rename_i C0 k0 tx hq
    simp only [Bool.and_eq_true, decide_eq_true_eq] at h1
    obtain ⟨e1, e2⟩ := h1
    have hv := cx.2.2.2.2.2.2.2.1.2.2.2.1 _ _ hq
    dsimp only at hv e1 e2
    rw [e1, e2] at hv
    exact va_ldcS cx.1 cx.2.1 cx.2.2.2.2.2.2.1 hv hd (kk p l e R s m args below meth cd E cx H locs la hR hl hlo)
  · cases h1
theorem am_i_ldc2 {wi : Nat} {v : Int64} (hk : (am_lr.getD (am_own M) []).lookup cp = some (v, wi)) (hd : decode (am_by M) pc = .ok (.ldc2_w cp, 3)) {h : aH} (kk : am_Tri M d B C u c (pc + 3, ls, .long v :: r, h) Q) : am_Tri M d B C u c (pc, ls, r, h) Q := by
  intro p l e R s m args below meth cd E cx H locs la hR hl hlo
  have h1 := am_of am_lall rfl hk
  simp only [am_rowL, decide_eq_true_eq] at h1
  exact lv_ldc2 cx.1 cx.2.1 cx.2.2.2.2.2.2.1 (cx.2.2.2.2.2.2.2.1.1.use h1 rfl args) hd (kk p l e R s m args below meth cd E cx H locs la hR hl hlo)
end SNA
