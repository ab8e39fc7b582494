/-! SOUND: one step of the abstract machine, and a run of it -/
section SRN
variable {M d B C u c : Nat} {Q : aO → aH → Prop}
theorem am_step_ok (h1d : 1 ≤ d) {s : aS} (hW : am_Wp M d B C u c (am_step M s) Q) : am_Tri M d B C u c s Q := by
  obtain ⟨pc, ls, st, h⟩ := s
  simp only [am_step] at hW
  cases hl : (am_co M).lookup pc with
  | none => rw [hl] at hW; exact hW.elim
  | some q =>
    obtain ⟨i, nx, tg, imm, ks⟩ := q
    rw [hl] at hW
    obtain ⟨hd, hn, ht⟩ := am_dec hl
    dsimp only at hW
    cases i
    case iadd =>
      obtain rfl : nx = pc + 1 := by simpa [am_isw, am_ilen] using hn
      rw [Nat.add_sub_cancel_left] at hd
      exact am_z_iadd hd hW
    case isub =>
      obtain rfl : nx = pc + 1 := by simpa [am_isw, am_ilen] using hn
      rw [Nat.add_sub_cancel_left] at hd
      exact am_z_isub hd hW
    case imul =>
      obtain rfl : nx = pc + 1 := by simpa [am_isw, am_ilen] using hn
      rw [Nat.add_sub_cancel_left] at hd
      exact am_z_imul hd hW
    case iand =>
      obtain rfl : nx = pc + 1 := by simpa [am_isw, am_ilen] using hn
      rw [Nat.add_sub_cancel_left] at hd
      exact am_z_iand hd hW
    case ladd =>
      obtain rfl : nx = pc + 1 := by simpa [am_isw, am_ilen] using hn
      rw [Nat.add_sub_cancel_left] at hd
      exact am_z_ladd hd hW
    case lmul =>
      obtain rfl : nx = pc + 1 := by simpa [am_isw, am_ilen] using hn
      rw [Nat.add_sub_cancel_left] at hd
      exact am_z_lmul hd hW
    case land =>
      obtain rfl : nx = pc + 1 := by simpa [am_isw, am_ilen] using hn
      rw [Nat.add_sub_cancel_left] at hd
      exact am_z_land hd hW
    case lor =>
      obtain rfl : nx = pc + 1 := by simpa [am_isw, am_ilen] using hn
      rw [Nat.add_sub_cancel_left] at hd
      exact am_z_lor hd hW
    case lushr =>
      obtain rfl : nx = pc + 1 := by simpa [am_isw, am_ilen] using hn
      rw [Nat.add_sub_cancel_left] at hd
      exact am_z_lushr hd hW
    case lshr =>
      obtain rfl : nx = pc + 1 := by simpa [am_isw, am_ilen] using hn
      rw [Nat.add_sub_cancel_left] at hd
      exact am_z_lshr hd hW
    case lshl =>
      obtain rfl : nx = pc + 1 := by simpa [am_isw, am_ilen] using hn
      rw [Nat.add_sub_cancel_left] at hd
      exact am_z_lshl hd hW
    case lcmp =>
      obtain rfl : nx = pc + 1 := by simpa [am_isw, am_ilen] using hn
      rw [Nat.add_sub_cancel_left] at hd
      exact am_z_lcmp hd hW
    case i2l =>
      obtain rfl : nx = pc + 1 := by simpa [am_isw, am_ilen] using hn
      rw [Nat.add_sub_cancel_left] at hd
      exact am_z_i2l hd hW
    case l2i =>
      obtain rfl : nx = pc + 1 := by simpa [am_isw, am_ilen] using hn
      rw [Nat.add_sub_cancel_left] at hd
      exact am_z_l2i hd hW
    case i2c =>
      obtain rfl : nx = pc + 1 := by simpa [am_isw, am_ilen] using hn
      rw [Nat.add_sub_cancel_left] at hd
      exact am_z_i2c hd hW
    case pop =>
      obtain rfl : nx = pc + 1 := by simpa [am_isw, am_ilen] using hn
      rw [Nat.add_sub_cancel_left] at hd
      exact am_z_pop hd hW
    case dup2 =>
      obtain rfl : nx = pc + 1 := by simpa [am_isw, am_ilen] using hn
      rw [Nat.add_sub_cancel_left] at hd
      exact am_z_dup2 hd hW
    case idiv =>
      obtain rfl : nx = pc + 1 := by simpa [am_isw, am_ilen] using hn
      rw [Nat.add_sub_cancel_left] at hd
      exact am_z_idiv hd hW
    case dup =>
      obtain rfl : nx = pc + 1 := by simpa [am_isw, am_ilen] using hn
      rw [Nat.add_sub_cancel_left] at hd
      exact am_z_dup hd hW
    case iconst i =>
      obtain rfl : nx = pc + 1 := by simpa [am_isw, am_ilen] using hn
      rw [Nat.add_sub_cancel_left] at hd
      exact am_z_iconst hd (of_decide_eq_true ht) hW
    case bipush i =>
      obtain rfl : nx = pc + 2 := by simpa [am_isw, am_ilen] using hn
      rw [Nat.add_sub_cancel_left] at hd
      exact am_z_bipush hd (of_decide_eq_true ht) hW
    case sipush i =>
      obtain rfl : nx = pc + 3 := by simpa [am_isw, am_ilen] using hn
      rw [Nat.add_sub_cancel_left] at hd
      exact am_z_sipush hd (of_decide_eq_true ht) hW
    case lconst i =>
      obtain rfl : nx = pc + 1 := by simpa [am_isw, am_ilen] using hn
      rw [Nat.add_sub_cancel_left] at hd
      exact am_z_lconst hd hW
    case ldc i =>
      obtain rfl : nx = pc + 2 := by simpa [am_isw, am_ilen] using hn
      rw [Nat.add_sub_cancel_left] at hd
      exact am_z_ldc hd hW
    case ldc2_w i =>
      obtain rfl : nx = pc + 3 := by simpa [am_isw, am_ilen] using hn
      rw [Nat.add_sub_cancel_left] at hd
      exact am_z_ldc2 hd hW
    case iload i =>
      obtain rfl : nx = pc + 2 := by simpa [am_isw, am_ilen] using hn
      rw [Nat.add_sub_cancel_left] at hd
      exact am_z_iload hd hW
    case iload_n i =>
      obtain rfl : nx = pc + 1 := by simpa [am_isw, am_ilen] using hn
      rw [Nat.add_sub_cancel_left] at hd
      exact am_z_iload_n hd hW
    case lload i =>
      obtain rfl : nx = pc + 2 := by simpa [am_isw, am_ilen] using hn
      rw [Nat.add_sub_cancel_left] at hd
      exact am_z_lload hd hW
    case lload_n i =>
      obtain rfl : nx = pc + 1 := by simpa [am_isw, am_ilen] using hn
      rw [Nat.add_sub_cancel_left] at hd
      exact am_z_lload_n hd hW
    case aload i =>
      obtain rfl : nx = pc + 2 := by simpa [am_isw, am_ilen] using hn
      rw [Nat.add_sub_cancel_left] at hd
      exact am_z_aload hd hW
    case aload_n i =>
      obtain rfl : nx = pc + 1 := by simpa [am_isw, am_ilen] using hn
      rw [Nat.add_sub_cancel_left] at hd
      exact am_z_aload_n hd hW
    case istore i =>
      obtain rfl : nx = pc + 2 := by simpa [am_isw, am_ilen] using hn
      rw [Nat.add_sub_cancel_left] at hd
      exact am_z_istore hd hW
    case istore_n i =>
      obtain rfl : nx = pc + 1 := by simpa [am_isw, am_ilen] using hn
      rw [Nat.add_sub_cancel_left] at hd
      exact am_z_istore_n hd hW
    case lstore i =>
      obtain rfl : nx = pc + 2 := by simpa [am_isw, am_ilen] using hn
      rw [Nat.add_sub_cancel_left] at hd
      exact am_z_lstore hd hW
    case lstore_n i =>
      obtain rfl : nx = pc + 1 := by simpa [am_isw, am_ilen] using hn
      rw [Nat.add_sub_cancel_left] at hd
      exact am_z_lstore_n hd hW
    case astore i =>
      obtain rfl : nx = pc + 2 := by simpa [am_isw, am_ilen] using hn
      rw [Nat.add_sub_cancel_left] at hd
      exact am_z_astore hd hW
    case astore_n i =>
      obtain rfl : nx = pc + 1 := by simpa [am_isw, am_ilen] using hn
      rw [Nat.add_sub_cancel_left] at hd
      exact am_z_astore_n hd hW
    case iinc i z =>
      obtain rfl : nx = pc + 3 := by simpa [am_isw, am_ilen] using hn
      rw [Nat.add_sub_cancel_left] at hd
      exact am_z_iinc (of_decide_eq_true ht) hd hW
    case goto o =>
      obtain rfl : nx = pc + 3 := by simpa [am_isw, am_ilen] using hn
      rw [Nat.add_sub_cancel_left] at hd
      exact am_z_goto ht hd hW
    case ifCond cc o =>
      obtain rfl : nx = pc + 3 := by simpa [am_isw, am_ilen] using hn
      rw [Nat.add_sub_cancel_left] at hd
      exact am_z_if ht hd hW
    case if_icmp cc o =>
      obtain rfl : nx = pc + 3 := by simpa [am_isw, am_ilen] using hn
      rw [Nat.add_sub_cancel_left] at hd
      exact am_z_icmp ht hd hW
    case tableswitch df lo hi offs => exact am_z_tsw ht hd hW
    case lookupswitch df ps => exact am_z_lsw ht hd hW
    case getfield cp =>
      obtain rfl : nx = pc + 3 := by simpa [am_isw, am_ilen] using hn
      rw [Nat.add_sub_cancel_left] at hd
      exact am_z_get hd hW
    case putfield cp =>
      obtain rfl : nx = pc + 3 := by simpa [am_isw, am_ilen] using hn
      rw [Nat.add_sub_cancel_left] at hd
      exact am_z_put hd hW
    case iaload =>
      obtain rfl : nx = pc + 1 := by simpa [am_isw, am_ilen] using hn
      rw [Nat.add_sub_cancel_left] at hd
      exact am_z_iaload hd hW
    case caload =>
      obtain rfl : nx = pc + 1 := by simpa [am_isw, am_ilen] using hn
      rw [Nat.add_sub_cancel_left] at hd
      exact am_z_caload hd hW
    case baload =>
      obtain rfl : nx = pc + 1 := by simpa [am_isw, am_ilen] using hn
      rw [Nat.add_sub_cancel_left] at hd
      exact am_z_baload hd hW
    case laload =>
      obtain rfl : nx = pc + 1 := by simpa [am_isw, am_ilen] using hn
      rw [Nat.add_sub_cancel_left] at hd
      exact am_z_laload hd hW
    case iastore =>
      obtain rfl : nx = pc + 1 := by simpa [am_isw, am_ilen] using hn
      rw [Nat.add_sub_cancel_left] at hd
      exact am_z_iastore hd hW
    case castore =>
      obtain rfl : nx = pc + 1 := by simpa [am_isw, am_ilen] using hn
      rw [Nat.add_sub_cancel_left] at hd
      exact am_z_castore hd hW
    case bastore =>
      obtain rfl : nx = pc + 1 := by simpa [am_isw, am_ilen] using hn
      rw [Nat.add_sub_cancel_left] at hd
      exact am_z_bastore hd hW
    case lastore =>
      obtain rfl : nx = pc + 1 := by simpa [am_isw, am_ilen] using hn
      rw [Nat.add_sub_cancel_left] at hd
      exact am_z_lastore hd hW
    case arraylength =>
      obtain rfl : nx = pc + 1 := by simpa [am_isw, am_ilen] using hn
      rw [Nat.add_sub_cancel_left] at hd
      exact am_z_len hd hW
    case newarray t =>
      obtain rfl : nx = pc + 2 := by simpa [am_isw, am_ilen] using hn
      rw [Nat.add_sub_cancel_left] at hd
      exact am_z_newa hd hW
    case new cp =>
      obtain rfl : nx = pc + 3 := by simpa [am_isw, am_ilen] using hn
      rw [Nat.add_sub_cancel_left] at hd
      exact am_z_new hd hW
    case invokevirtual cp =>
      obtain rfl : nx = pc + 3 := by simpa [am_isw, am_ilen] using hn
      rw [Nat.add_sub_cancel_left] at hd
      exact am_z_inv0 hd hW
    case invokespecial cp =>
      obtain rfl : nx = pc + 3 := by simpa [am_isw, am_ilen] using hn
      rw [Nat.add_sub_cancel_left] at hd
      exact am_z_inv2 h1d hd hW
    case invokestatic cp =>
      obtain rfl : nx = pc + 3 := by simpa [am_isw, am_ilen] using hn
      rw [Nat.add_sub_cancel_left] at hd
      exact am_z_inv1 hd hW
    case ireturn =>
      obtain rfl : nx = pc + 1 := by simpa [am_isw, am_ilen] using hn
      rw [Nat.add_sub_cancel_left] at hd
      exact am_z_ret hd hW
    case return_ =>
      obtain rfl : nx = pc + 1 := by simpa [am_isw, am_ilen] using hn
      rw [Nat.add_sub_cancel_left] at hd
      exact am_z_retv hd hW
    all_goals exact hW.elim
theorem am_run_ok (h1d : 1 ≤ d) (n : Nat) : ∀ {s : aS}, am_Wp M d B C u c (am_run n M s) Q → am_Tri M d B C u c s Q := by
  induction n with
  | zero => exact fun hW => hW
  | succ n ih =>
    intro s hW
    refine am_step_ok h1d ?_
    simp only [am_run] at hW
    split at hW
    · rename_i t hs
      rw [hs]
      exact ih hW
    · exact hW
end SRN
