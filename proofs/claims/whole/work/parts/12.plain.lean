/-! SOUND: each plain instruction -/
theorem am_lh {E : aE} {la : Array Slot} {n : Nat} {ls : List (Nat × Value)} {i : Nat} {v : Value} (hl : lv_has la n (am_l E ls)) (h : ls.lookup i = some v) : la[i]? = some (.val (am_v E v)) :=
  hl.2.2 (i, am_v E v) (List.mem_map.mpr ⟨(i, v), am_lk h, rfl⟩)
theorem am_lp {E : aE} {ls : List (Nat × Value)} {i : Nat} {v : Value} (h : ls.lookup i = some v) : ∃ k : Nat, (am_l E ls)[k]? = some (i, am_v E v) :=
  List.getElem?_of_mem (List.mem_map.mpr ⟨(i, v), am_lk h, rfl⟩)
theorem am_l1 (E : aE) (i : Nat) (v : Value) (ls : List (Nat × Value)) : (i, am_v E v) :: (am_l E ls).filter (fun q => !(q.1 == i) && !(q.1 + 1 == i && q.2.category == 2)) = am_l E (am_st1 i v ls) := by
  simp only [am_l, am_st1, List.map_cons, List.filter_map]
  congr 2
  apply List.filter_congr
  intro q _
  simp [Function.comp, am_v_cat]
theorem am_l2 (E : aE) (i : Nat) (v : Value) (ls : List (Nat × Value)) : (i, am_v E v) :: (am_l E ls).filter (fun q => !(q.1 == i) && (!(q.1 == i + 1) && !(q.1 + 1 == i && q.2.category == 2))) = am_l E (am_st2 i v ls) := by
  simp only [am_l, am_st2, List.map_cons, List.filter_map]
  congr 2
  apply List.filter_congr
  intro q _
  simp [Function.comp, am_v_cat]
section SND
variable {M d B C u c : Nat} {Q : aO → aH → Prop} {pc : Nat} {ls : List (Nat × Value)} {r : List Value} {h : aH} {x y : Int32} {X Y : Int64} {n : Nat}
theorem am_i_iconst {i : Int} (hv : Int32.ofInt i = x) (hd : decode (am_by M) pc = .ok (.iconst i, 1)) (k : am_Tri M d B C u c (pc + 1, ls, .int x :: r, h) Q) : am_Tri M d B C u c (pc, ls, r, h) Q := by
  intro p l e R s m args below meth cd E cx H locs la hR hl hlo
  exact lv_iconst cx.1 cx.2.1 hd hv (k p l e R s m args below meth cd E cx H locs la hR hl hlo)
theorem am_i_bipush {i : Int} (hv : (Int8.ofInt i).toInt32 = x) (hd : decode (am_by M) pc = .ok (.bipush i, 2)) (k : am_Tri M d B C u c (pc + 2, ls, .int x :: r, h) Q) : am_Tri M d B C u c (pc, ls, r, h) Q := by
  intro p l e R s m args below meth cd E cx H locs la hR hl hlo
  exact lv_bipush cx.1 cx.2.1 hd hv (k p l e R s m args below meth cd E cx H locs la hR hl hlo)
theorem am_i_sipush {i : Int} (hv : (Int16.ofInt i).toInt32 = x) (hd : decode (am_by M) pc = .ok (.sipush i, 3)) (k : am_Tri M d B C u c (pc + 3, ls, .int x :: r, h) Q) : am_Tri M d B C u c (pc, ls, r, h) Q := by
  intro p l e R s m args below meth cd E cx H locs la hR hl hlo
  exact lv_sipush cx.1 cx.2.1 hd hv (k p l e R s m args below meth cd E cx H locs la hR hl hlo)
theorem am_i_lconst {i : Fin 2} (hv : Int64.ofNat (i : Nat) = X) (hd : decode (am_by M) pc = .ok (.lconst i, 1)) (k : am_Tri M d B C u c (pc + 1, ls, .long X :: r, h) Q) : am_Tri M d B C u c (pc, ls, r, h) Q := by
  intro p l e R s m args below meth cd E cx H locs la hR hl hlo
  exact lv_lconst cx.1 cx.2.1 hd hv (k p l e R s m args below meth cd E cx H locs la hR hl hlo)
theorem am_i_iadd (hd : decode (am_by M) pc = .ok (.iadd, 1)) (k : am_Tri M d B C u c (pc + 1, ls, .int (x + y) :: r, h) Q) : am_Tri M d B C u c (pc, ls, .int y :: .int x :: r, h) Q := by
  intro p l e R s m args below meth cd E cx H locs la hR hl hlo
  exact lv_iadd cx.1 cx.2.1 hd (k p l e R s m args below meth cd E cx H locs la hR hl hlo)
theorem am_i_isub (hd : decode (am_by M) pc = .ok (.isub, 1)) (k : am_Tri M d B C u c (pc + 1, ls, .int (x - y) :: r, h) Q) : am_Tri M d B C u c (pc, ls, .int y :: .int x :: r, h) Q := by
  intro p l e R s m args below meth cd E cx H locs la hR hl hlo
  exact lv_isub cx.1 cx.2.1 hd (k p l e R s m args below meth cd E cx H locs la hR hl hlo)
theorem am_i_imul (hd : decode (am_by M) pc = .ok (.imul, 1)) (k : am_Tri M d B C u c (pc + 1, ls, .int (x * y) :: r, h) Q) : am_Tri M d B C u c (pc, ls, .int y :: .int x :: r, h) Q := by
  intro p l e R s m args below meth cd E cx H locs la hR hl hlo
  exact lv_imul cx.1 cx.2.1 hd (k p l e R s m args below meth cd E cx H locs la hR hl hlo)
theorem am_i_iand (hd : decode (am_by M) pc = .ok (.iand, 1)) (k : am_Tri M d B C u c (pc + 1, ls, .int (x &&& y) :: r, h) Q) : am_Tri M d B C u c (pc, ls, .int y :: .int x :: r, h) Q := by
  intro p l e R s m args below meth cd E cx H locs la hR hl hlo
  exact lv_iand cx.1 cx.2.1 hd (k p l e R s m args below meth cd E cx H locs la hR hl hlo)
theorem am_i_idiv (hne : ¬ y = 0) (hd : decode (am_by M) pc = .ok (.idiv, 1)) (k : am_Tri M d B C u c (pc + 1, ls, .int (x / y) :: r, h) Q) : am_Tri M d B C u c (pc, ls, .int y :: .int x :: r, h) Q := by
  intro p l e R s m args below meth cd E cx H locs la hR hl hlo
  exact lv_idiv cx.1 cx.2.1 hd hne (k p l e R s m args below meth cd E cx H locs la hR hl hlo)
theorem am_i_ladd (hd : decode (am_by M) pc = .ok (.ladd, 1)) (k : am_Tri M d B C u c (pc + 1, ls, .long (X + Y) :: r, h) Q) : am_Tri M d B C u c (pc, ls, .long Y :: .long X :: r, h) Q := by
  intro p l e R s m args below meth cd E cx H locs la hR hl hlo
  exact lv_ladd cx.1 cx.2.1 hd (k p l e R s m args below meth cd E cx H locs la hR hl hlo)
theorem am_i_lmul (hd : decode (am_by M) pc = .ok (.lmul, 1)) (k : am_Tri M d B C u c (pc + 1, ls, .long (X * Y) :: r, h) Q) : am_Tri M d B C u c (pc, ls, .long Y :: .long X :: r, h) Q := by
  intro p l e R s m args below meth cd E cx H locs la hR hl hlo
  exact lv_lmul cx.1 cx.2.1 hd (k p l e R s m args below meth cd E cx H locs la hR hl hlo)
theorem am_i_land (hd : decode (am_by M) pc = .ok (.land, 1)) (k : am_Tri M d B C u c (pc + 1, ls, .long (X &&& Y) :: r, h) Q) : am_Tri M d B C u c (pc, ls, .long Y :: .long X :: r, h) Q := by
  intro p l e R s m args below meth cd E cx H locs la hR hl hlo
  exact lv_land cx.1 cx.2.1 hd (k p l e R s m args below meth cd E cx H locs la hR hl hlo)
theorem am_i_lor (hd : decode (am_by M) pc = .ok (.lor, 1)) (k : am_Tri M d B C u c (pc + 1, ls, .long (X ||| Y) :: r, h) Q) : am_Tri M d B C u c (pc, ls, .long Y :: .long X :: r, h) Q := by
  intro p l e R s m args below meth cd E cx H locs la hR hl hlo
  exact lv_lor cx.1 cx.2.1 hd (k p l e R s m args below meth cd E cx H locs la hR hl hlo)
theorem am_i_lushr (hd : decode (am_by M) pc = .ok (.lushr, 1)) (k : am_Tri M d B C u c (pc + 1, ls, .long (X.toUInt64 >>> (y.toInt64.toUInt64 &&& Int64.toUInt64 63)).toInt64 :: r, h) Q) : am_Tri M d B C u c (pc, ls, .int y :: .long X :: r, h) Q := by
  intro p l e R s m args below meth cd E cx H locs la hR hl hlo
  exact lv_lushr cx.1 cx.2.1 hd rfl (k p l e R s m args below meth cd E cx H locs la hR hl hlo)
theorem am_i_lshr (hd : decode (am_by M) pc = .ok (.lshr, 1)) (k : am_Tri M d B C u c (pc + 1, ls, .long (X >>> (y.toInt64 &&& 63)) :: r, h) Q) : am_Tri M d B C u c (pc, ls, .int y :: .long X :: r, h) Q := by
  intro p l e R s m args below meth cd E cx H locs la hR hl hlo
  exact lv_lshr cx.1 cx.2.1 hd rfl (k p l e R s m args below meth cd E cx H locs la hR hl hlo)
theorem am_i_lshl (hd : decode (am_by M) pc = .ok (.lshl, 1)) (k : am_Tri M d B C u c (pc + 1, ls, .long (X <<< (y.toInt64 &&& 63)) :: r, h) Q) : am_Tri M d B C u c (pc, ls, .int y :: .long X :: r, h) Q := by
  intro p l e R s m args below meth cd E cx H locs la hR hl hlo
  exact lv_lshl cx.1 cx.2.1 hd rfl (k p l e R s m args below meth cd E cx H locs la hR hl hlo)
theorem am_i_lcmp (hd : decode (am_by M) pc = .ok (.lcmp, 1)) (k : am_Tri M d B C u c (pc + 1, ls, .int (lg_cmp X Y) :: r, h) Q) : am_Tri M d B C u c (pc, ls, .long Y :: .long X :: r, h) Q := by
  intro p l e R s m args below meth cd E cx H locs la hR hl hlo
  exact W.lcmp cx.1 cx.2.1 hd (k p l e R s m args below meth cd E cx H locs la hR hl hlo)
theorem am_i_i2l (hd : decode (am_by M) pc = .ok (.i2l, 1)) (k : am_Tri M d B C u c (pc + 1, ls, .long x.toInt64 :: r, h) Q) : am_Tri M d B C u c (pc, ls, .int x :: r, h) Q := by
  intro p l e R s m args below meth cd E cx H locs la hR hl hlo
  exact lv_i2l cx.1 cx.2.1 hd rfl (k p l e R s m args below meth cd E cx H locs la hR hl hlo)
theorem am_i_l2i (hd : decode (am_by M) pc = .ok (.l2i, 1)) (k : am_Tri M d B C u c (pc + 1, ls, .int X.toInt32 :: r, h) Q) : am_Tri M d B C u c (pc, ls, .long X :: r, h) Q := by
  intro p l e R s m args below meth cd E cx H locs la hR hl hlo
  exact lv_l2i cx.1 cx.2.1 hd rfl (k p l e R s m args below meth cd E cx H locs la hR hl hlo)
theorem am_i_i2c (hd : decode (am_by M) pc = .ok (.i2c, 1)) (k : am_Tri M d B C u c (pc + 1, ls, .int (x.toUInt32 % 65536).toInt32 :: r, h) Q) : am_Tri M d B C u c (pc, ls, .int x :: r, h) Q := by
  intro p l e R s m args below meth cd E cx H locs la hR hl hlo
  exact lv_i2c cx.1 cx.2.1 hd rfl (k p l e R s m args below meth cd E cx H locs la hR hl hlo)
theorem am_i_dupi (hd : decode (am_by M) pc = .ok (.dup, 1)) (k : am_Tri M d B C u c (pc + 1, ls, .int x :: .int x :: r, h) Q) : am_Tri M d B C u c (pc, ls, .int x :: r, h) Q := by
  intro p l e R s m args below meth cd E cx H locs la hR hl hlo
  exact lv_dup cx.1 cx.2.1 hd rfl (k p l e R s m args below meth cd E cx H locs la hR hl hlo)
theorem am_i_dupr (hd : decode (am_by M) pc = .ok (.dup, 1)) (k : am_Tri M d B C u c (pc + 1, ls, .ref n :: .ref n :: r, h) Q) : am_Tri M d B C u c (pc, ls, .ref n :: r, h) Q := by
  intro p l e R s m args below meth cd E cx H locs la hR hl hlo
  exact lv_dup cx.1 cx.2.1 hd rfl (k p l e R s m args below meth cd E cx H locs la hR hl hlo)
theorem am_i_dup2 (hd : decode (am_by M) pc = .ok (.dup2, 1)) (k : am_Tri M d B C u c (pc + 1, ls, .int x :: .ref n :: .int x :: .ref n :: r, h) Q) : am_Tri M d B C u c (pc, ls, .int x :: .ref n :: r, h) Q := by
  intro p l e R s m args below meth cd E cx H locs la hR hl hlo
  exact lv_dup2_11 cx.1 cx.2.1 hd rfl rfl (k p l e R s m args below meth cd E cx H locs la hR hl hlo)
theorem am_i_pop (hd : decode (am_by M) pc = .ok (.pop, 1)) (k : am_Tri M d B C u c (pc + 1, ls, r, h) Q) : am_Tri M d B C u c (pc, ls, .int x :: r, h) Q := by
  intro p l e R s m args below meth cd E cx H locs la hR hl hlo
  exact lv_pop cx.1 cx.2.1 hd rfl (k p l e R s m args below meth cd E cx H locs la hR hl hlo)
theorem am_i_iload {i : Nat} (hi : ls.lookup i = some (.int x)) (hd : decode (am_by M) pc = .ok (.iload i, 2)) (k : am_Tri M d B C u c (pc + 2, ls, .int x :: r, h) Q) : am_Tri M d B C u c (pc, ls, r, h) Q := by
  intro p l e R s m args below meth cd E cx H locs la hR hl hlo
  exact lv_iload cx.1 cx.2.1 hd (am_lh hl hi) (k p l e R s m args below meth cd E cx H locs la hR hl hlo)
theorem am_i_iload_n {i : Fin 4} (hi : ls.lookup i.val = some (.int x)) (hd : decode (am_by M) pc = .ok (.iload_n i, 1)) (k : am_Tri M d B C u c (pc + 1, ls, .int x :: r, h) Q) : am_Tri M d B C u c (pc, ls, r, h) Q := by
  intro p l e R s m args below meth cd E cx H locs la hR hl hlo
  exact lv_iload_n cx.1 cx.2.1 hd rfl (am_lh hl hi) (k p l e R s m args below meth cd E cx H locs la hR hl hlo)
theorem am_i_lload {i : Nat} (hi : ls.lookup i = some (.long X)) (hd : decode (am_by M) pc = .ok (.lload i, 2)) (k : am_Tri M d B C u c (pc + 2, ls, .long X :: r, h) Q) : am_Tri M d B C u c (pc, ls, r, h) Q := by
  intro p l e R s m args below meth cd E cx H locs la hR hl hlo
  exact lv_lload cx.1 cx.2.1 hd (am_lh hl hi) (k p l e R s m args below meth cd E cx H locs la hR hl hlo)
theorem am_i_lload_n {i : Fin 4} (hi : ls.lookup i.val = some (.long X)) (hd : decode (am_by M) pc = .ok (.lload_n i, 1)) (k : am_Tri M d B C u c (pc + 1, ls, .long X :: r, h) Q) : am_Tri M d B C u c (pc, ls, r, h) Q := by
  intro p l e R s m args below meth cd E cx H locs la hR hl hlo
  exact lv_lload_n cx.1 cx.2.1 hd rfl (am_lh hl hi) (k p l e R s m args below meth cd E cx H locs la hR hl hlo)
theorem am_i_aload {i : Nat} (hi : ls.lookup i = some (.ref n)) (hd : decode (am_by M) pc = .ok (.aload i, 2)) (k : am_Tri M d B C u c (pc + 2, ls, .ref n :: r, h) Q) : am_Tri M d B C u c (pc, ls, r, h) Q := by
  intro p l e R s m args below meth cd E cx H locs la hR hl hlo
  exact lv_aload cx.1 cx.2.1 hd (am_lh hl hi) (k p l e R s m args below meth cd E cx H locs la hR hl hlo)
theorem am_i_aload_n {i : Fin 4} (hi : ls.lookup i.val = some (.ref n)) (hd : decode (am_by M) pc = .ok (.aload_n i, 1)) (k : am_Tri M d B C u c (pc + 1, ls, .ref n :: r, h) Q) : am_Tri M d B C u c (pc, ls, r, h) Q := by
  intro p l e R s m args below meth cd E cx H locs la hR hl hlo
  exact lv_aload_n cx.1 cx.2.1 hd rfl (am_lh hl hi) (k p l e R s m args below meth cd E cx H locs la hR hl hlo)
theorem am_i_aloadt {i : Nat} (hi : ls.lookup i = some (.retAddr n)) (hd : decode (am_by M) pc = .ok (.aload i, 2)) (k : am_Tri M d B C u c (pc + 2, ls, .retAddr n :: r, h) Q) : am_Tri M d B C u c (pc, ls, r, h) Q := by
  intro p l e R s m args below meth cd E cx H locs la hR hl hlo
  exact lv_aload cx.1 cx.2.1 hd (am_lh hl hi) (k p l e R s m args below meth cd E cx H locs la hR hl hlo)
theorem am_i_aloadt_n {i : Fin 4} (hi : ls.lookup i.val = some (.retAddr n)) (hd : decode (am_by M) pc = .ok (.aload_n i, 1)) (k : am_Tri M d B C u c (pc + 1, ls, .retAddr n :: r, h) Q) : am_Tri M d B C u c (pc, ls, r, h) Q := by
  intro p l e R s m args below meth cd E cx H locs la hR hl hlo
  exact lv_aload_n cx.1 cx.2.1 hd rfl (am_lh hl hi) (k p l e R s m args below meth cd E cx H locs la hR hl hlo)
theorem am_i_istore {i : Nat} (hi : i < am_ml M) (hd : decode (am_by M) pc = .ok (.istore i, 2)) (k : am_Tri M d B C u c (pc + 2, am_st1 i (.int x) ls, r, h) Q) : am_Tri M d B C u c (pc, ls, .int x :: r, h) Q := by
  intro p l e R s m args below meth cd E cx H locs la hR hl hlo
  exact lv_istore cx.1 cx.2.1 hd hl hi (am_l1 E i (.int x) ls) (fun la hl => k p l e R s m args below meth cd E cx H locs la hR hl hlo)
theorem am_i_istore_n {i : Fin 4} (hi : i.val < am_ml M) (hd : decode (am_by M) pc = .ok (.istore_n i, 1)) (k : am_Tri M d B C u c (pc + 1, am_st1 i.val (.int x) ls, r, h) Q) : am_Tri M d B C u c (pc, ls, .int x :: r, h) Q := by
  intro p l e R s m args below meth cd E cx H locs la hR hl hlo
  exact lv_istore_n cx.1 cx.2.1 hd rfl hl hi (am_l1 E i.val (.int x) ls) (fun la hl => k p l e R s m args below meth cd E cx H locs la hR hl hlo)
theorem am_i_lstore {i : Nat} (hi : i + 1 < am_ml M) (hd : decode (am_by M) pc = .ok (.lstore i, 2)) (k : am_Tri M d B C u c (pc + 2, am_st2 i (.long X) ls, r, h) Q) : am_Tri M d B C u c (pc, ls, .long X :: r, h) Q := by
  intro p l e R s m args below meth cd E cx H locs la hR hl hlo
  exact lv_lstore cx.1 cx.2.1 hd hl hi (am_l2 E i (.long X) ls) (fun la hl => k p l e R s m args below meth cd E cx H locs la hR hl hlo)
theorem am_i_lstore_n {i : Fin 4} (hi : i.val + 1 < am_ml M) (hd : decode (am_by M) pc = .ok (.lstore_n i, 1)) (k : am_Tri M d B C u c (pc + 1, am_st2 i.val (.long X) ls, r, h) Q) : am_Tri M d B C u c (pc, ls, .long X :: r, h) Q := by
  intro p l e R s m args below meth cd E cx H locs la hR hl hlo
  exact lv_lstore_n cx.1 cx.2.1 hd rfl hl hi (am_l2 E i.val (.long X) ls) (fun la hl => k p l e R s m args below meth cd E cx H locs la hR hl hlo)
theorem am_i_astore {i : Nat} (hi : i < am_ml M) (hd : decode (am_by M) pc = .ok (.astore i, 2)) (k : am_Tri M d B C u c (pc + 2, am_st1 i (.ref n) ls, r, h) Q) : am_Tri M d B C u c (pc, ls, .ref n :: r, h) Q := by
  intro p l e R s m args below meth cd E cx H locs la hR hl hlo
  exact lv_astore cx.1 cx.2.1 hd hl hi (am_l1 E i (.ref n) ls) (fun la hl => k p l e R s m args below meth cd E cx H locs la hR hl hlo)
theorem am_i_astore_n {i : Fin 4} (hi : i.val < am_ml M) (hd : decode (am_by M) pc = .ok (.astore_n i, 1)) (k : am_Tri M d B C u c (pc + 1, am_st1 i.val (.ref n) ls, r, h) Q) : am_Tri M d B C u c (pc, ls, .ref n :: r, h) Q := by
  intro p l e R s m args below meth cd E cx H locs la hR hl hlo
  exact lv_astore_n cx.1 cx.2.1 hd rfl hl hi (am_l1 E i.val (.ref n) ls) (fun la hl => k p l e R s m args below meth cd E cx H locs la hR hl hlo)
theorem am_i_iinc {i : Nat} {z : Int} (hv : Int32.ofInt z = y) (hi : ls.lookup i = some (.int x)) (hm : i < am_ml M) (hd : decode (am_by M) pc = .ok (.iinc i z, 3)) (k : am_Tri M d B C u c (pc + 3, am_st1 i (.int (x + y)) ls, r, h) Q) : am_Tri M d B C u c (pc, ls, r, h) Q := by
  intro p l e R s m args below meth cd E cx H locs la hR hl hlo
  obtain ⟨j, hj⟩ := am_lp (E := E) hi
  exact lv_iinc cx.1 cx.2.1 hd hl (k := j) hj (by rw [hv]) hm (am_l1 E i (.int (x + y)) ls) (fun la hl => k p l e R s m args below meth cd E cx H locs la hR hl hlo)
theorem am_i_goto {o : Int} {t : Nat} (ht : (pc : Int) + o = (t : Int)) (hd : decode (am_by M) pc = .ok (.goto o, 3)) (k : am_Tri M d B C u c (t, ls, r, h) Q) : am_Tri M d B C u c (pc, ls, r, h) Q := by
  intro p l e R s m args below meth cd E cx H locs la hR hl hlo
  exact lv_goto cx.1 cx.2.1 hd ht (k p l e R s m args below meth cd E cx H locs la hR hl hlo)
theorem am_i_icmp_eq {o : Int} {t : Nat} (ht : (pc : Int) + o = (t : Int)) (hd : decode (am_by M) pc = .ok (.if_icmp .eq o, 3)) (kt : x = y → am_Tri M d B C u c (t, ls, r, h) Q) (kf : ¬ (x = y) → am_Tri M d B C u c (pc + 3, ls, r, h) Q) : am_Tri M d B C u c (pc, ls, .int y :: .int x :: r, h) Q := by
  intro p l e R s m args below meth cd E cx H locs la hR hl hlo
  exact lv_icmp_eq cx.1 cx.2.1 hd ht (fun z => kt z p l e R s m args below meth cd E cx H locs la hR hl hlo) (fun z => kf z p l e R s m args below meth cd E cx H locs la hR hl hlo)
theorem am_i_if_eq {o : Int} {t : Nat} (ht : (pc : Int) + o = (t : Int)) (hd : decode (am_by M) pc = .ok (.ifCond .eq o, 3)) (kt : x = 0 → am_Tri M d B C u c (t, ls, r, h) Q) (kf : ¬ (x = 0) → am_Tri M d B C u c (pc + 3, ls, r, h) Q) : am_Tri M d B C u c (pc, ls, .int x :: r, h) Q := by
  intro p l e R s m args below meth cd E cx H locs la hR hl hlo
  exact lv_if_eq cx.1 cx.2.1 hd ht (fun z => kt z p l e R s m args below meth cd E cx H locs la hR hl hlo) (fun z => kf z p l e R s m args below meth cd E cx H locs la hR hl hlo)
theorem am_i_icmp_ne {o : Int} {t : Nat} (ht : (pc : Int) + o = (t : Int)) (hd : decode (am_by M) pc = .ok (.if_icmp .ne o, 3)) (kt : ¬ x = y → am_Tri M d B C u c (t, ls, r, h) Q) (kf : ¬ (¬ x = y) → am_Tri M d B C u c (pc + 3, ls, r, h) Q) : am_Tri M d B C u c (pc, ls, .int y :: .int x :: r, h) Q := by
  intro p l e R s m args below meth cd E cx H locs la hR hl hlo
  exact lv_icmp_ne cx.1 cx.2.1 hd ht (fun z => kt z p l e R s m args below meth cd E cx H locs la hR hl hlo) (fun z => kf (fun q => q z) p l e R s m args below meth cd E cx H locs la hR hl hlo)
theorem am_i_if_ne {o : Int} {t : Nat} (ht : (pc : Int) + o = (t : Int)) (hd : decode (am_by M) pc = .ok (.ifCond .ne o, 3)) (kt : ¬ x = 0 → am_Tri M d B C u c (t, ls, r, h) Q) (kf : ¬ (¬ x = 0) → am_Tri M d B C u c (pc + 3, ls, r, h) Q) : am_Tri M d B C u c (pc, ls, .int x :: r, h) Q := by
  intro p l e R s m args below meth cd E cx H locs la hR hl hlo
  exact lv_if_ne cx.1 cx.2.1 hd ht (fun z => kt z p l e R s m args below meth cd E cx H locs la hR hl hlo) (fun z => kf (fun q => q z) p l e R s m args below meth cd E cx H locs la hR hl hlo)
theorem am_i_icmp_lt {o : Int} {t : Nat} (ht : (pc : Int) + o = (t : Int)) (hd : decode (am_by M) pc = .ok (.if_icmp .lt o, 3)) (kt : x < y → am_Tri M d B C u c (t, ls, r, h) Q) (kf : ¬ (x < y) → am_Tri M d B C u c (pc + 3, ls, r, h) Q) : am_Tri M d B C u c (pc, ls, .int y :: .int x :: r, h) Q := by
  intro p l e R s m args below meth cd E cx H locs la hR hl hlo
  exact lv_icmp_lt cx.1 cx.2.1 hd ht (fun z => kt z p l e R s m args below meth cd E cx H locs la hR hl hlo) (fun z => kf z p l e R s m args below meth cd E cx H locs la hR hl hlo)
theorem am_i_if_lt {o : Int} {t : Nat} (ht : (pc : Int) + o = (t : Int)) (hd : decode (am_by M) pc = .ok (.ifCond .lt o, 3)) (kt : x < 0 → am_Tri M d B C u c (t, ls, r, h) Q) (kf : ¬ (x < 0) → am_Tri M d B C u c (pc + 3, ls, r, h) Q) : am_Tri M d B C u c (pc, ls, .int x :: r, h) Q := by
  intro p l e R s m args below meth cd E cx H locs la hR hl hlo
  exact lv_if_lt cx.1 cx.2.1 hd ht (fun z => kt z p l e R s m args below meth cd E cx H locs la hR hl hlo) (fun z => kf z p l e R s m args below meth cd E cx H locs la hR hl hlo)
theorem am_i_icmp_ge {o : Int} {t : Nat} (ht : (pc : Int) + o = (t : Int)) (hd : decode (am_by M) pc = .ok (.if_icmp .ge o, 3)) (kt : y ≤ x → am_Tri M d B C u c (t, ls, r, h) Q) (kf : ¬ (y ≤ x) → am_Tri M d B C u c (pc + 3, ls, r, h) Q) : am_Tri M d B C u c (pc, ls, .int y :: .int x :: r, h) Q := by
  intro p l e R s m args below meth cd E cx H locs la hR hl hlo
  exact lv_icmp_ge cx.1 cx.2.1 hd ht (fun z => kt z p l e R s m args below meth cd E cx H locs la hR hl hlo) (fun z => kf z p l e R s m args below meth cd E cx H locs la hR hl hlo)
theorem am_i_if_ge {o : Int} {t : Nat} (ht : (pc : Int) + o = (t : Int)) (hd : decode (am_by M) pc = .ok (.ifCond .ge o, 3)) (kt : 0 ≤ x → am_Tri M d B C u c (t, ls, r, h) Q) (kf : ¬ (0 ≤ x) → am_Tri M d B C u c (pc + 3, ls, r, h) Q) : am_Tri M d B C u c (pc, ls, .int x :: r, h) Q := by
  intro p l e R s m args below meth cd E cx H locs la hR hl hlo
  exact lv_if_ge cx.1 cx.2.1 hd ht (fun z => kt z p l e R s m args below meth cd E cx H locs la hR hl hlo) (fun z => kf z p l e R s m args below meth cd E cx H locs la hR hl hlo)
theorem am_i_icmp_gt {o : Int} {t : Nat} (ht : (pc : Int) + o = (t : Int)) (hd : decode (am_by M) pc = .ok (.if_icmp .gt o, 3)) (kt : y < x → am_Tri M d B C u c (t, ls, r, h) Q) (kf : ¬ (y < x) → am_Tri M d B C u c (pc + 3, ls, r, h) Q) : am_Tri M d B C u c (pc, ls, .int y :: .int x :: r, h) Q := by
  intro p l e R s m args below meth cd E cx H locs la hR hl hlo
  exact lv_icmp_gt cx.1 cx.2.1 hd ht (fun z => kt z p l e R s m args below meth cd E cx H locs la hR hl hlo) (fun z => kf z p l e R s m args below meth cd E cx H locs la hR hl hlo)
theorem am_i_if_gt {o : Int} {t : Nat} (ht : (pc : Int) + o = (t : Int)) (hd : decode (am_by M) pc = .ok (.ifCond .gt o, 3)) (kt : 0 < x → am_Tri M d B C u c (t, ls, r, h) Q) (kf : ¬ (0 < x) → am_Tri M d B C u c (pc + 3, ls, r, h) Q) : am_Tri M d B C u c (pc, ls, .int x :: r, h) Q := by
  intro p l e R s m args below meth cd E cx H locs la hR hl hlo
  exact lv_if_gt cx.1 cx.2.1 hd ht (fun z => kt z p l e R s m args below meth cd E cx H locs la hR hl hlo) (fun z => kf z p l e R s m args below meth cd E cx H locs la hR hl hlo)
theorem am_i_icmp_le {o : Int} {t : Nat} (ht : (pc : Int) + o = (t : Int)) (hd : decode (am_by M) pc = .ok (.if_icmp .le o, 3)) (kt : x ≤ y → am_Tri M d B C u c (t, ls, r, h) Q) (kf : ¬ (x ≤ y) → am_Tri M d B C u c (pc + 3, ls, r, h) Q) : am_Tri M d B C u c (pc, ls, .int y :: .int x :: r, h) Q := by
  intro p l e R s m args below meth cd E cx H locs la hR hl hlo
  exact lv_icmp_le cx.1 cx.2.1 hd ht (fun z => kt z p l e R s m args below meth cd E cx H locs la hR hl hlo) (fun z => kf z p l e R s m args below meth cd E cx H locs la hR hl hlo)
theorem am_i_if_le {o : Int} {t : Nat} (ht : (pc : Int) + o = (t : Int)) (hd : decode (am_by M) pc = .ok (.ifCond .le o, 3)) (kt : x ≤ 0 → am_Tri M d B C u c (t, ls, r, h) Q) (kf : ¬ (x ≤ 0) → am_Tri M d B C u c (pc + 3, ls, r, h) Q) : am_Tri M d B C u c (pc, ls, .int x :: r, h) Q := by
  intro p l e R s m args below meth cd E cx H locs la hR hl hlo
  exact lv_if_le cx.1 cx.2.1 hd ht (fun z => kt z p l e R s m args below meth cd E cx H locs la hR hl hlo) (fun z => kf z p l e R s m args below meth cd E cx H locs la hR hl hlo)
end SND
