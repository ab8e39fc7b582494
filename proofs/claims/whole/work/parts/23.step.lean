/-! SOUND: a step, a run -/
def am_Wp (M d B C u c : Nat) (R : aR) (Q : aO → aH → Prop) : Prop := match R with
  | none => False
  | some (.inl s) => am_Tri M d B C u c s Q
  | some (.inr (.inl (P, s))) => P ∧ am_Tri M d B C u c s Q
  | some (.inr (.inr (.inl (P, s, t)))) => (P → am_Tri M d B C u c s Q) ∧ (¬ P → am_Tri M d B C u c t Q)
  | some (.inr (.inr (.inr (.inl (l, s))))) => am_Cs (fun s => am_Tri M d B C u c s Q) l s
  | some (.inr (.inr (.inr (.inr (.inl (M', as, (nx, ls, r, h))))))) => ∃ (d' : Nat) (o : aO) (h' : aH) (B' C' : Nat), am_Con d' M' as h o h' B' C' ∧ d' + 1 ≤ d ∧ u + B' ≤ B ∧ c + C' ≤ C ∧ am_Aft M d B C (u + B') (c + C') (nx - 3) ls r o h' Q
  | some (.inr (.inr (.inr (.inr (.inr (.inl (P, o, h))))))) => P ∧ u ≤ B ∧ c ≤ C ∧ Q o h
  | some (.inr (.inr (.inr (.inr (.inr (.inr (.inl (P, n, s)))))))) => P ∧ u + 1 ≤ B ∧ c + n ≤ C ∧ am_Tri M d B C (u + 1) (c + n) s Q
  | some (.inr (.inr (.inr (.inr (.inr (.inr (.inr (X, k, h)))))))) => 6 ≤ d ∧ u + 1 ≤ B ∧ c + 6 ≤ C ∧ Q (.inr (X, k)) h
section SST
variable {M d B C u c : Nat} {Q : aO → aH → Prop} {pc nx : Nat} {tg : List Nat} {imm : Int32} {ks : List Int32} {ls : List (Nat × Value)} {st : List Value} {h : aH}
theorem am_z_iadd (hd : decode (am_by M) pc = .ok (.iadd, 1)) (hW : am_Wp M d B C u c (am_x M (.iadd) pc (pc + 1) tg imm ks ls st h) Q) : am_Tri M d B C u c (pc, ls, st, h) Q := by
  simp only [am_x] at hW
  split at hW
  · exact am_i_iadd hd hW
  · exact hW.elim
theorem am_z_isub (hd : decode (am_by M) pc = .ok (.isub, 1)) (hW : am_Wp M d B C u c (am_x M (.isub) pc (pc + 1) tg imm ks ls st h) Q) : am_Tri M d B C u c (pc, ls, st, h) Q := by
  simp only [am_x] at hW
  split at hW
  · exact am_i_isub hd hW
  · exact hW.elim
theorem am_z_imul (hd : decode (am_by M) pc = .ok (.imul, 1)) (hW : am_Wp M d B C u c (am_x M (.imul) pc (pc + 1) tg imm ks ls st h) Q) : am_Tri M d B C u c (pc, ls, st, h) Q := by
  simp only [am_x] at hW
  split at hW
  · exact am_i_imul hd hW
  · exact hW.elim
theorem am_z_iand (hd : decode (am_by M) pc = .ok (.iand, 1)) (hW : am_Wp M d B C u c (am_x M (.iand) pc (pc + 1) tg imm ks ls st h) Q) : am_Tri M d B C u c (pc, ls, st, h) Q := by
  simp only [am_x] at hW
  split at hW
  · exact am_i_iand hd hW
  · exact hW.elim
theorem am_z_ladd (hd : decode (am_by M) pc = .ok (.ladd, 1)) (hW : am_Wp M d B C u c (am_x M (.ladd) pc (pc + 1) tg imm ks ls st h) Q) : am_Tri M d B C u c (pc, ls, st, h) Q := by
  simp only [am_x] at hW
  split at hW
  · exact am_i_ladd hd hW
  · exact hW.elim
theorem am_z_lmul (hd : decode (am_by M) pc = .ok (.lmul, 1)) (hW : am_Wp M d B C u c (am_x M (.lmul) pc (pc + 1) tg imm ks ls st h) Q) : am_Tri M d B C u c (pc, ls, st, h) Q := by
  simp only [am_x] at hW
  split at hW
  · exact am_i_lmul hd hW
  · exact hW.elim
theorem am_z_land (hd : decode (am_by M) pc = .ok (.land, 1)) (hW : am_Wp M d B C u c (am_x M (.land) pc (pc + 1) tg imm ks ls st h) Q) : am_Tri M d B C u c (pc, ls, st, h) Q := by
  simp only [am_x] at hW
  split at hW
  · exact am_i_land hd hW
  · exact hW.elim
theorem am_z_lor (hd : decode (am_by M) pc = .ok (.lor, 1)) (hW : am_Wp M d B C u c (am_x M (.lor) pc (pc + 1) tg imm ks ls st h) Q) : am_Tri M d B C u c (pc, ls, st, h) Q := by
  simp only [am_x] at hW
  split at hW
  · exact am_i_lor hd hW
  · exact hW.elim
theorem am_z_lushr (hd : decode (am_by M) pc = .ok (.lushr, 1)) (hW : am_Wp M d B C u c (am_x M (.lushr) pc (pc + 1) tg imm ks ls st h) Q) : am_Tri M d B C u c (pc, ls, st, h) Q := by
  simp only [am_x] at hW
  split at hW
  · exact am_i_lushr hd hW
  · exact hW.elim
theorem am_z_lshr (hd : decode (am_by M) pc = .ok (.lshr, 1)) (hW : am_Wp M d B C u c (am_x M (.lshr) pc (pc + 1) tg imm ks ls st h) Q) : am_Tri M d B C u c (pc, ls, st, h) Q := by
  simp only [am_x] at hW
  split at hW
  · exact am_i_lshr hd hW
  · exact hW.elim
theorem am_z_lshl (hd : decode (am_by M) pc = .ok (.lshl, 1)) (hW : am_Wp M d B C u c (am_x M (.lshl) pc (pc + 1) tg imm ks ls st h) Q) : am_Tri M d B C u c (pc, ls, st, h) Q := by
  simp only [am_x] at hW
  split at hW
  · exact am_i_lshl hd hW
  · exact hW.elim
theorem am_z_lcmp (hd : decode (am_by M) pc = .ok (.lcmp, 1)) (hW : am_Wp M d B C u c (am_x M (.lcmp) pc (pc + 1) tg imm ks ls st h) Q) : am_Tri M d B C u c (pc, ls, st, h) Q := by
  simp only [am_x] at hW
  split at hW
  · exact am_i_lcmp hd hW
  · exact hW.elim
theorem am_z_i2l (hd : decode (am_by M) pc = .ok (.i2l, 1)) (hW : am_Wp M d B C u c (am_x M (.i2l) pc (pc + 1) tg imm ks ls st h) Q) : am_Tri M d B C u c (pc, ls, st, h) Q := by
  simp only [am_x] at hW
  split at hW
  · exact am_i_i2l hd hW
  · exact hW.elim
theorem am_z_l2i (hd : decode (am_by M) pc = .ok (.l2i, 1)) (hW : am_Wp M d B C u c (am_x M (.l2i) pc (pc + 1) tg imm ks ls st h) Q) : am_Tri M d B C u c (pc, ls, st, h) Q := by
  simp only [am_x] at hW
  split at hW
  · exact am_i_l2i hd hW
  · exact hW.elim
theorem am_z_i2c (hd : decode (am_by M) pc = .ok (.i2c, 1)) (hW : am_Wp M d B C u c (am_x M (.i2c) pc (pc + 1) tg imm ks ls st h) Q) : am_Tri M d B C u c (pc, ls, st, h) Q := by
  simp only [am_x] at hW
  split at hW
  · exact am_i_i2c hd hW
  · exact hW.elim
theorem am_z_pop (hd : decode (am_by M) pc = .ok (.pop, 1)) (hW : am_Wp M d B C u c (am_x M (.pop) pc (pc + 1) tg imm ks ls st h) Q) : am_Tri M d B C u c (pc, ls, st, h) Q := by
  simp only [am_x] at hW
  split at hW
  · exact am_i_pop hd hW
  · exact hW.elim
theorem am_z_dup2 (hd : decode (am_by M) pc = .ok (.dup2, 1)) (hW : am_Wp M d B C u c (am_x M (.dup2) pc (pc + 1) tg imm ks ls st h) Q) : am_Tri M d B C u c (pc, ls, st, h) Q := by
  simp only [am_x] at hW
  split at hW
  · exact am_i_dup2 hd hW
  · exact hW.elim
theorem am_z_idiv (hd : decode (am_by M) pc = .ok (.idiv, 1)) (hW : am_Wp M d B C u c (am_x M (.idiv) pc (pc + 1) tg imm ks ls st h) Q) : am_Tri M d B C u c (pc, ls, st, h) Q := by
  simp only [am_x] at hW
  split at hW
  · exact am_i_idiv hW.1 hd hW.2
  · exact hW.elim
theorem am_z_dup (hd : decode (am_by M) pc = .ok (.dup, 1)) (hW : am_Wp M d B C u c (am_x M (.dup) pc (pc + 1) tg imm ks ls st h) Q) : am_Tri M d B C u c (pc, ls, st, h) Q := by
  simp only [am_x] at hW
  split at hW
  · exact am_i_dupi hd hW
  · exact am_i_dupr hd hW
  · exact hW.elim
theorem am_z_iconst {i : Int} (hd : decode (am_by M) pc = .ok (.iconst i, 1)) (hv : Int32.ofInt i = imm) (hW : am_Wp M d B C u c (am_x M (.iconst i) pc (pc + 1) tg imm ks ls st h) Q) : am_Tri M d B C u c (pc, ls, st, h) Q := by
  exact am_i_iconst hv hd hW
theorem am_z_bipush {i : Int} (hd : decode (am_by M) pc = .ok (.bipush i, 2)) (hv : (Int8.ofInt i).toInt32 = imm) (hW : am_Wp M d B C u c (am_x M (.bipush i) pc (pc + 2) tg imm ks ls st h) Q) : am_Tri M d B C u c (pc, ls, st, h) Q := by
  exact am_i_bipush hv hd hW
theorem am_z_sipush {i : Int} (hd : decode (am_by M) pc = .ok (.sipush i, 3)) (hv : (Int16.ofInt i).toInt32 = imm) (hW : am_Wp M d B C u c (am_x M (.sipush i) pc (pc + 3) tg imm ks ls st h) Q) : am_Tri M d B C u c (pc, ls, st, h) Q := by
  exact am_i_sipush hv hd hW
theorem am_z_lconst {i : Fin 2} (hd : decode (am_by M) pc = .ok (.lconst i, 1)) (hW : am_Wp M d B C u c (am_x M (.lconst i) pc (pc + 1) tg imm ks ls st h) Q) : am_Tri M d B C u c (pc, ls, st, h) Q := by
  match i, hd, hW with
  | 0, hd, hW => exact am_i_lconst (X := 0) (by decide) hd hW
  | 1, hd, hW => exact am_i_lconst (X := 1) (by decide) hd hW
theorem am_z_ldc {cp : Nat} (hd : decode (am_by M) pc = .ok (.ldc cp, 2)) (hW : am_Wp M d B C u c (am_x M (.ldc cp) pc (pc + 2) tg imm ks ls st h) Q) : am_Tri M d B C u c (pc, ls, st, h) Q := by
  simp only [am_x] at hW
  split at hW
  · rename_i k hk
    exact am_i_ldc hk hd hW
  · exact hW.elim
theorem am_z_ldc2 {cp : Nat} (hd : decode (am_by M) pc = .ok (.ldc2_w cp, 3)) (hW : am_Wp M d B C u c (am_x M (.ldc2_w cp) pc (pc + 3) tg imm ks ls st h) Q) : am_Tri M d B C u c (pc, ls, st, h) Q := by
  simp only [am_x] at hW
  split at hW
  · rename_i v wi hk
    exact am_i_ldc2 hk hd hW
  · exact hW.elim
theorem am_z_iload {i : Nat} (hd : decode (am_by M) pc = .ok (.iload i, 2)) (hW : am_Wp M d B C u c (am_x M (.iload i) pc (pc + 2) tg imm ks ls st h) Q) : am_Tri M d B C u c (pc, ls, st, h) Q := by
  simp only [am_x, am_iload] at hW
  split at hW
  · rename_i x hx
    exact am_i_iload hx hd hW
  · exact hW.elim
theorem am_z_iload_n {i : Fin 4} (hd : decode (am_by M) pc = .ok (.iload_n i, 1)) (hW : am_Wp M d B C u c (am_x M (.iload_n i) pc (pc + 1) tg imm ks ls st h) Q) : am_Tri M d B C u c (pc, ls, st, h) Q := by
  simp only [am_x, am_iload] at hW
  split at hW
  · rename_i x hx
    exact am_i_iload_n hx hd hW
  · exact hW.elim
theorem am_z_lload {i : Nat} (hd : decode (am_by M) pc = .ok (.lload i, 2)) (hW : am_Wp M d B C u c (am_x M (.lload i) pc (pc + 2) tg imm ks ls st h) Q) : am_Tri M d B C u c (pc, ls, st, h) Q := by
  simp only [am_x, am_lload] at hW
  split at hW
  · rename_i x hx
    exact am_i_lload hx hd hW
  · exact hW.elim
theorem am_z_lload_n {i : Fin 4} (hd : decode (am_by M) pc = .ok (.lload_n i, 1)) (hW : am_Wp M d B C u c (am_x M (.lload_n i) pc (pc + 1) tg imm ks ls st h) Q) : am_Tri M d B C u c (pc, ls, st, h) Q := by
  simp only [am_x, am_lload] at hW
  split at hW
  · rename_i x hx
    exact am_i_lload_n hx hd hW
  · exact hW.elim
theorem am_z_aload {i : Nat} (hd : decode (am_by M) pc = .ok (.aload i, 2)) (hW : am_Wp M d B C u c (am_x M (.aload i) pc (pc + 2) tg imm ks ls st h) Q) : am_Tri M d B C u c (pc, ls, st, h) Q := by
  simp only [am_x, am_aload] at hW
  split at hW
  · rename_i x hx
    exact am_i_aload hx hd hW
  · rename_i x hx
    exact am_i_aloadt hx hd hW
  · exact hW.elim
theorem am_z_aload_n {i : Fin 4} (hd : decode (am_by M) pc = .ok (.aload_n i, 1)) (hW : am_Wp M d B C u c (am_x M (.aload_n i) pc (pc + 1) tg imm ks ls st h) Q) : am_Tri M d B C u c (pc, ls, st, h) Q := by
  simp only [am_x, am_aload] at hW
  split at hW
  · rename_i x hx
    exact am_i_aload_n hx hd hW
  · rename_i x hx
    exact am_i_aloadt_n hx hd hW
  · exact hW.elim
theorem am_z_istore {i : Nat} (hd : decode (am_by M) pc = .ok (.istore i, 2)) (hW : am_Wp M d B C u c (am_x M (.istore i) pc (pc + 2) tg imm ks ls st h) Q) : am_Tri M d B C u c (pc, ls, st, h) Q := by
  simp only [am_x, am_istore] at hW
  split at hW
  · rename_i x r hb
    exact am_i_istore (Nat.blt_eq.mp hb) hd hW
  · exact hW.elim
theorem am_z_istore_n {i : Fin 4} (hd : decode (am_by M) pc = .ok (.istore_n i, 1)) (hW : am_Wp M d B C u c (am_x M (.istore_n i) pc (pc + 1) tg imm ks ls st h) Q) : am_Tri M d B C u c (pc, ls, st, h) Q := by
  simp only [am_x, am_istore] at hW
  split at hW
  · rename_i x r hb
    exact am_i_istore_n (Nat.blt_eq.mp hb) hd hW
  · exact hW.elim
theorem am_z_lstore {i : Nat} (hd : decode (am_by M) pc = .ok (.lstore i, 2)) (hW : am_Wp M d B C u c (am_x M (.lstore i) pc (pc + 2) tg imm ks ls st h) Q) : am_Tri M d B C u c (pc, ls, st, h) Q := by
  simp only [am_x, am_lstore] at hW
  split at hW
  · rename_i x r hb
    exact am_i_lstore (Nat.blt_eq.mp hb) hd hW
  · exact hW.elim
theorem am_z_lstore_n {i : Fin 4} (hd : decode (am_by M) pc = .ok (.lstore_n i, 1)) (hW : am_Wp M d B C u c (am_x M (.lstore_n i) pc (pc + 1) tg imm ks ls st h) Q) : am_Tri M d B C u c (pc, ls, st, h) Q := by
  simp only [am_x, am_lstore] at hW
  split at hW
  · rename_i x r hb
    exact am_i_lstore_n (Nat.blt_eq.mp hb) hd hW
  · exact hW.elim
theorem am_z_astore {i : Nat} (hd : decode (am_by M) pc = .ok (.astore i, 2)) (hW : am_Wp M d B C u c (am_x M (.astore i) pc (pc + 2) tg imm ks ls st h) Q) : am_Tri M d B C u c (pc, ls, st, h) Q := by
  simp only [am_x, am_astore] at hW
  split at hW
  · rename_i x r hb
    exact am_i_astore (Nat.blt_eq.mp hb) hd hW
  · exact hW.elim
theorem am_z_astore_n {i : Fin 4} (hd : decode (am_by M) pc = .ok (.astore_n i, 1)) (hW : am_Wp M d B C u c (am_x M (.astore_n i) pc (pc + 1) tg imm ks ls st h) Q) : am_Tri M d B C u c (pc, ls, st, h) Q := by
  simp only [am_x, am_astore] at hW
  split at hW
  · rename_i x r hb
    exact am_i_astore_n (Nat.blt_eq.mp hb) hd hW
  · exact hW.elim
theorem am_z_iinc {i : Nat} {z : Int} (hv : Int32.ofInt z = imm) (hd : decode (am_by M) pc = .ok (.iinc i z, 3)) (hW : am_Wp M d B C u c (am_x M (.iinc i z) pc (pc + 3) tg imm ks ls st h) Q) : am_Tri M d B C u c (pc, ls, st, h) Q := by
  simp only [am_x] at hW
  split at hW
  · rename_i x hb hx
    exact am_i_iinc hv hx (Nat.blt_eq.mp hb) hd hW
  · exact hW.elim
theorem am_z_goto {o : Int} (ht : am_tgt pc o tg = true) (hd : decode (am_by M) pc = .ok (.goto o, 3)) (hW : am_Wp M d B C u c (am_x M (.goto o) pc (pc + 3) tg imm ks ls st h) Q) : am_Tri M d B C u c (pc, ls, st, h) Q := by
  cases tg with
  | nil => cases ht
  | cons t tg => exact am_i_goto (of_decide_eq_true ht) hd hW
theorem am_z_if {o : Int} {cc : ClassFile.Cond} (ht : am_tgt pc o tg = true) (hd : decode (am_by M) pc = .ok (.ifCond cc o, 3)) (hW : am_Wp M d B C u c (am_x M (.ifCond cc o) pc (pc + 3) tg imm ks ls st h) Q) : am_Tri M d B C u c (pc, ls, st, h) Q := by
  simp only [am_x] at hW
  split at hW
  · have ht := of_decide_eq_true ht
    cases cc
    · exact am_i_if_eq ht hd hW.1 hW.2
    · exact am_i_if_ne ht hd hW.1 hW.2
    · exact am_i_if_lt ht hd hW.1 hW.2
    · exact am_i_if_ge ht hd hW.1 hW.2
    · exact am_i_if_gt ht hd hW.1 hW.2
    · exact am_i_if_le ht hd hW.1 hW.2
  · exact hW.elim
theorem am_z_icmp {o : Int} {cc : ClassFile.Cond} (ht : am_tgt pc o tg = true) (hd : decode (am_by M) pc = .ok (.if_icmp cc o, 3)) (hW : am_Wp M d B C u c (am_x M (.if_icmp cc o) pc (pc + 3) tg imm ks ls st h) Q) : am_Tri M d B C u c (pc, ls, st, h) Q := by
  simp only [am_x] at hW
  split at hW
  · have ht := of_decide_eq_true ht
    cases cc
    · exact am_i_icmp_eq ht hd hW.1 hW.2
    · exact am_i_icmp_ne ht hd hW.1 hW.2
    · exact am_i_icmp_lt ht hd hW.1 hW.2
    · exact am_i_icmp_ge ht hd hW.1 hW.2
    · exact am_i_icmp_gt ht hd hW.1 hW.2
    · exact am_i_icmp_le ht hd hW.1 hW.2
  · exact hW.elim
theorem am_z_tsw {df lo hi : Int} {offs : Array Int} {len : Nat} (htg : am_tg (.tableswitch df lo hi offs) pc tg imm ks = true) (hd : decode (am_by M) pc = .ok (.tableswitch df lo hi offs, len)) (hW : am_Wp M d B C u c (am_x M (.tableswitch df lo hi offs) pc nx tg imm ks ls st h) Q) : am_Tri M d B C u c (pc, ls, st, h) Q := by
  simp only [am_x] at hW
  split at hW
  · exact am_i_tsw hd htg hW
  · exact hW.elim
theorem am_z_lsw {df : Int} {ps : Array (Int × Int)} {len : Nat} (htg : am_tg (.lookupswitch df ps) pc tg imm ks = true) (hd : decode (am_by M) pc = .ok (.lookupswitch df ps, len)) (hW : am_Wp M d B C u c (am_x M (.lookupswitch df ps) pc nx tg imm ks ls st h) Q) : am_Tri M d B C u c (pc, ls, st, h) Q := by
  simp only [am_x] at hW
  split at hW
  · exact am_i_lsw hd htg hW
  · exact hW.elim
theorem am_z_get {cp : Nat} (hd : decode (am_by M) pc = .ok (.getfield cp, 3)) (hW : am_Wp M d B C u c (am_x M (.getfield cp) pc (pc + 3) tg imm ks ls st h) Q) : am_Tri M d B C u c (pc, ls, st, h) Q := by
  simp only [am_x, am_get] at hW
  split at hW
  · rename_i a r ci k wi nest K I A J X hf
    split at hW
    · rename_i c' refs hk
      split at hW
      · rename_i hb hi
        rw [Nat.eq_of_beq_eq_true hb] at hk
        exact am_i_get hf hk (fun E => by rw [am_fvI hi]; rfl) hd hW
      · rename_i hb hi
        rw [Nat.eq_of_beq_eq_true hb] at hk
        split at hW
        · rename_i v hv
          exact am_i_get hf hk (fun E => by simp [am_fv, hi, List.getD_eq_getElem?_getD, hv]) hd hW
        · exact hW.elim
      · exact hW.elim
    · exact hW.elim
  · exact hW.elim
theorem am_z_put {cp : Nat} (hd : decode (am_by M) pc = .ok (.putfield cp, 3)) (hW : am_Wp M d B C u c (am_x M (.putfield cp) pc (pc + 3) tg imm ks ls st h) Q) : am_Tri M d B C u c (pc, ls, st, h) Q := by
  simp only [am_x, am_put] at hW
  split at hW
  · rename_i x a r ci k wi nest K I A J X hf
    split at hW
    · rename_i c' refs hk
      split at hW
      · rename_i hb hi
        rw [Nat.eq_of_beq_eq_true hb] at hk
        exact am_i_put hf hk (by simp [am_isr, hi]) (by rw [hi]; rfl) (by rw [hi]; rfl) hd hW
      · rename_i hb hi
        rw [Nat.eq_of_beq_eq_true hb] at hk
        obtain ⟨h01, hW⟩ := hW
        refine am_i_put hf hk (by simp [am_isr, hi]) ?_ ?_ hd hW
        · rw [hi]; rcases h01 with rfl | rfl <;> rfl
        · rw [hi]; rcases h01 with rfl | rfl <;> rfl
      · exact hW.elim
    · exact hW.elim
  · rename_i b a r ci k wi K I A J X hf
    split at hW
    · rename_i c' refs hk
      split at hW
      · rename_i hb hi
        simp only [Bool.and_eq_true, decide_eq_true_eq, Nat.blt_eq] at hb
        obtain ⟨⟨⟨b1, b2⟩, b3⟩, b4⟩ := hb
        have e1 := Nat.eq_of_beq_eq_true b1
        subst e1
        exact am_i_putr hf hk hi b3 (Nat.eq_of_beq_eq_true b2) b4 hd hW
      · exact hW.elim
    · exact hW.elim
  · exact hW.elim
theorem am_z_iaload (hd : decode (am_by M) pc = .ok (.iaload, 1)) (hW : am_Wp M d B C u c (am_x M .iaload pc (pc + 1) tg imm ks ls st h) Q) : am_Tri M d B C u c (pc, ls, st, h) Q := by
  simp only [am_x, am_ald] at hW
  split at hW
  · rename_i i a r K I A J X
    split at hW
    · rename_i t' n hk
      cases t' <;> first | exact hW.elim | exact am_i_iald hk hW.1 hd hW.2
    · exact hW.elim
  · rename_i i q r K I A J X
    obtain ⟨L, xs⟩ := X
    cases hq : Nat.beq q 1000 with
    | false => rw [hq] at hW; exact hW.elim
    | true =>
      rw [hq] at hW
      rw [Nat.eq_of_beq_eq_true hq]
      first | exact am_i_sald hW.1 hd hW.2 | exact hW.elim
  · exact hW.elim
theorem am_z_caload (hd : decode (am_by M) pc = .ok (.caload, 1)) (hW : am_Wp M d B C u c (am_x M .caload pc (pc + 1) tg imm ks ls st h) Q) : am_Tri M d B C u c (pc, ls, st, h) Q := by
  simp only [am_x, am_ald] at hW
  split at hW
  · rename_i i a r K I A J X
    split at hW
    · rename_i t' n hk
      cases t' <;> first | exact hW.elim | exact am_i_cald hk hW.1 hd hW.2
    · exact hW.elim
  · rename_i i q r K I A J X
    exact hW.elim
  · exact hW.elim
theorem am_z_baload (hd : decode (am_by M) pc = .ok (.baload, 1)) (hW : am_Wp M d B C u c (am_x M .baload pc (pc + 1) tg imm ks ls st h) Q) : am_Tri M d B C u c (pc, ls, st, h) Q := by
  simp only [am_x, am_ald] at hW
  split at hW
  · rename_i i a r K I A J X
    split at hW
    · rename_i t' n hk
      cases t' <;> first | exact hW.elim | exact am_i_zald hk hW.1 hd hW.2
    · exact hW.elim
  · rename_i i q r K I A J X
    exact hW.elim
  · exact hW.elim
theorem am_z_laload (hd : decode (am_by M) pc = .ok (.laload, 1)) (hW : am_Wp M d B C u c (am_x M .laload pc (pc + 1) tg imm ks ls st h) Q) : am_Tri M d B C u c (pc, ls, st, h) Q := by
  simp only [am_x, am_ald] at hW
  split at hW
  · rename_i i a r K I A J X
    split at hW
    · rename_i t' n hk
      cases t' <;> first | exact hW.elim | exact am_i_lald hk hW.1 hd hW.2
    · exact hW.elim
  · rename_i i q r K I A J X
    exact hW.elim
  · exact hW.elim
theorem am_z_iastore (hd : decode (am_by M) pc = .ok (.iastore, 1)) (hW : am_Wp M d B C u c (am_x M .iastore pc (pc + 1) tg imm ks ls st h) Q) : am_Tri M d B C u c (pc, ls, st, h) Q := by
  simp only [am_x, am_ast] at hW
  split at hW
  · rename_i x i a r K I A J X
    split at hW
    · rename_i t' n hk
      cases t' <;> first | exact hW.elim | exact am_i_iast hk hW.1 hd hW.2
    · exact hW.elim
  · rename_i x i a r K I A J X
    split at hW
    · rename_i t' n hk
      cases t' <;> first | exact hW.elim | exact am_i_iast hk hW.1 hd hW.2
    · exact hW.elim
  · exact hW.elim
theorem am_z_castore (hd : decode (am_by M) pc = .ok (.castore, 1)) (hW : am_Wp M d B C u c (am_x M .castore pc (pc + 1) tg imm ks ls st h) Q) : am_Tri M d B C u c (pc, ls, st, h) Q := by
  simp only [am_x, am_ast] at hW
  split at hW
  · rename_i x i a r K I A J X
    split at hW
    · rename_i t' n hk
      cases t' <;> first | exact hW.elim | exact am_i_cast hk hW.1 hd hW.2
    · exact hW.elim
  · rename_i x i a r K I A J X
    split at hW
    · rename_i t' n hk
      cases t' <;> first | exact hW.elim | exact am_i_cast hk hW.1 hd hW.2
    · exact hW.elim
  · exact hW.elim
theorem am_z_bastore (hd : decode (am_by M) pc = .ok (.bastore, 1)) (hW : am_Wp M d B C u c (am_x M .bastore pc (pc + 1) tg imm ks ls st h) Q) : am_Tri M d B C u c (pc, ls, st, h) Q := by
  simp only [am_x, am_ast] at hW
  split at hW
  · rename_i x i a r K I A J X
    split at hW
    · rename_i t' n hk
      cases t' <;> first | exact hW.elim | exact am_i_zast hk hW.1 hd hW.2
    · exact hW.elim
  · rename_i x i a r K I A J X
    split at hW
    · rename_i t' n hk
      cases t' <;> first | exact hW.elim | exact am_i_zast hk hW.1 hd hW.2
    · exact hW.elim
  · exact hW.elim
theorem am_z_lastore (hd : decode (am_by M) pc = .ok (.lastore, 1)) (hW : am_Wp M d B C u c (am_x M .lastore pc (pc + 1) tg imm ks ls st h) Q) : am_Tri M d B C u c (pc, ls, st, h) Q := by
  simp only [am_x, am_ast] at hW
  split at hW
  · rename_i x i a r K I A J X
    split at hW
    · rename_i t' n hk
      cases t' <;> first | exact hW.elim | exact am_i_last hk hW.1 hd hW.2
    · exact hW.elim
  · rename_i x i a r K I A J X
    split at hW
    · rename_i t' n hk
      cases t' <;> first | exact hW.elim | exact am_i_last hk hW.1 hd hW.2
    · exact hW.elim
  · exact hW.elim
theorem am_z_len (hd : decode (am_by M) pc = .ok (.arraylength, 1)) (hW : am_Wp M d B C u c (am_x M .arraylength pc (pc + 1) tg imm ks ls st h) Q) : am_Tri M d B C u c (pc, ls, st, h) Q := by
  simp only [am_x, am_len] at hW
  split at hW
  · rename_i a r K I A J X
    split at hW
    · rename_i t' n hk
      split at hW
      · rename_i ht
        exact am_i_len ht hk hd hW
      · exact hW.elim
    · exact hW.elim
  · rename_i q r K I A J L xs
    split at hW
    · rename_i hq
      rw [Nat.eq_of_beq_eq_true hq]
      exact am_i_slen hd hW
    · exact hW.elim
  · exact hW.elim
theorem am_z_newa {t : ArrayType} (hd : decode (am_by M) pc = .ok (.newarray t, 2)) (hW : am_Wp M d B C u c (am_x M (.newarray t) pc (pc + 2) tg imm ks ls st h) Q) : am_Tri M d B C u c (pc, ls, st, h) Q := by
  simp only [am_x, am_new] at hW
  split at hW
  · rename_i n r K I A J X
    split at hW
    · rename_i ht
      exact am_i_newa ht hW.1 hW.2.1 hW.2.2.1 hd hW.2.2.2
    · exact hW.elim
  · exact hW.elim
theorem am_z_ret (hd : decode (am_by M) pc = .ok (.ireturn, 1)) (hW : am_Wp M d B C u c (am_x M .ireturn pc (pc + 1) tg imm ks ls st h) Q) : am_Tri M d B C u c (pc, ls, st, h) Q := by
  simp only [am_x, am_ret] at hW
  split at hW
  · rename_i x hr
    exact am_i_ret hr rfl hW.2.1 hW.2.2.1 hd hW.2.2.2
  · rename_i x hr
    exact am_i_ret hr (by rcases hW.1 with e | e <;> rw [e] <;> rfl) hW.2.1 hW.2.2.1 hd hW.2.2.2
  · rename_i x hr
    exact am_i_ret hr hW.1 hW.2.1 hW.2.2.1 hd hW.2.2.2
  · exact hW.elim
theorem am_z_retv (hd : decode (am_by M) pc = .ok (.return_, 1)) (hW : am_Wp M d B C u c (am_x M .return_ pc (pc + 1) tg imm ks ls st h) Q) : am_Tri M d B C u c (pc, ls, st, h) Q := by
  simp only [am_x] at hW
  split at hW
  · rename_i hr
    exact am_i_retv hr hW.2.1 hW.2.2.1 hd hW.2.2.2
  · exact hW.elim
theorem am_z_new {cp : Nat} (hd : decode (am_by M) pc = .ok (.new cp, 3)) (hW : am_Wp M d B C u c (am_x M (.new cp) pc (pc + 3) tg imm ks ls st h) Q) : am_Tri M d B C u c (pc, ls, st, h) Q := by
  simp only [am_x, am_obj] at hW
  split at hW
  · rename_i cn wi K I A J X hk
    split at hW
    · rename_i hb
      exact am_i_new hk (Nat.blt_eq.mp hb) hW.2.1 hW.2.2.1 hd hW.2.2.2
    · split at hW
      · rename_i x3 x4 x5 q y4 w y6 y9 l3 l4 l6 l9
        split at hW
        · rename_i t c' hq hw hh
          split at hW
          · rename_i hbb
            simp only [Bool.and_eq_true, Nat.ble_eq] at hbb
            have e1 := Nat.eq_of_beq_eq_true hbb.1
            subst e1
            obtain ⟨g3, k3, -⟩ := am_dec l3
            obtain ⟨g4, k4, -⟩ := am_dec l4
            obtain ⟨g6, k6, -⟩ := am_dec l6
            obtain ⟨g9, k9, -⟩ := am_dec l9
            simp only [am_isw, am_ilen, Bool.false_eq_true, false_or] at k3 k4 k6 k9
            refine am_i_throw hk hq hw hh hbb.2 hd ?_ ?_ ?_ ?_ hW.1 hW.2.1 hW.2.2.1 hW.2.2.2
            · rw [g3, k3, Nat.add_sub_cancel_left]
            · rw [g4, k4, Nat.add_sub_cancel_left]
            · rw [g6, k6, Nat.add_sub_cancel_left]
            · rw [g9, k9, Nat.add_sub_cancel_left]
          · exact hW.elim
        · exact hW.elim
      · exact hW.elim
  · exact hW.elim
theorem am_z_inv0 {cp : Nat} (hd : decode (am_by M) pc = .ok (.invokevirtual cp, 3)) (hW : am_Wp M d B C u c (am_x M (.invokevirtual cp) pc (pc + 3) tg imm ks ls st h) Q) : am_Tri M d B C u c (pc, ls, st, h) Q := by
  simp only [am_x, am_inv] at hW
  split at hW
  · rename_i M' wi nest K I A J X hm
    split at hW
    · rename_i n hn
      split at hW
      · rename_i as r htk
        split at hW
        · rename_i hck
          obtain ⟨d', o, h', B', C', hcon, h1, h2, h3, h4⟩ := hW
          rw [Nat.add_sub_cancel] at h4
          have hck' := hck
          simp only [am_ckc, Bool.and_eq_true, Nat.ble_eq, Nat.blt_eq] at hck'
          exact am_i_call hcon (am_Md hm).1 h1 h2 h3 hck'.1.1.1 hd (am_entV hm hn htk hck hd) h4
        · exact hW.elim
      · exact hW.elim
    · exact hW.elim
  · exact hW.elim
theorem am_z_inv1 {cp : Nat} (hd : decode (am_by M) pc = .ok (.invokestatic cp, 3)) (hW : am_Wp M d B C u c (am_x M (.invokestatic cp) pc (pc + 3) tg imm ks ls st h) Q) : am_Tri M d B C u c (pc, ls, st, h) Q := by
  simp only [am_x, am_inv] at hW
  split at hW
  · rename_i M' wi nest K I A J X hm
    split at hW
    · rename_i n hn
      split at hW
      · rename_i as r htk
        split at hW
        · rename_i hck
          obtain ⟨d', o, h', B', C', hcon, h1, h2, h3, h4⟩ := hW
          rw [Nat.add_sub_cancel] at h4
          have hck' := hck
          simp only [am_ckc, Bool.and_eq_true, Nat.ble_eq, Nat.blt_eq] at hck'
          exact am_i_call hcon (am_Md hm).1 h1 h2 h3 hck'.1.1.1 hd (am_entS hm hn htk hck hd) h4
        · exact hW.elim
      · exact hW.elim
    · exact hW.elim
  · exact hW.elim
theorem am_z_inv2 {cp : Nat} (h1d : 1 ≤ d) (hd : decode (am_by M) pc = .ok (.invokespecial cp, 3)) (hW : am_Wp M d B C u c (am_x M (.invokespecial cp) pc (pc + 3) tg imm ks ls st h) Q) : am_Tri M d B C u c (pc, ls, st, h) Q := by
  simp only [am_x, am_inv] at hW
  split at hW
  · rename_i M' wi nest K I A J X hm
    split at hW
    · rename_i n hn
      split at hW
      · rename_i as r htk
        split at hW
        · rename_i hck
          obtain ⟨d', o, h', B', C', hcon, h1, h2, h3, h4⟩ := hW
          rw [Nat.add_sub_cancel] at h4
          have hck' := hck
          simp only [am_ckc, Bool.and_eq_true, Nat.ble_eq, Nat.blt_eq] at hck'
          exact am_i_call hcon (am_Md hm).1 h1 h2 h3 hck'.1.1.1 hd (am_entI hm hn htk hck hd) h4
        · exact hW.elim
      · exact hW.elim
    · exact hW.elim
  · split at hW
    · rename_i wi a r hm
      split at hW
      · rename_i hb
        exact am_i_oinit hm (Nat.ble_eq.mp hb) h1d hd hW
      · exact hW.elim
    · exact hW.elim
end SST
