/-- exceptions' constructors by own class: entry, exception -/
def am_sx : List (List (Nat × Nat)) := [[], [], [(22, 101)], [], [], [], [], [], [(68, 100), (89, 101), (111, 102), (125, 103)], [], [], [], [], []]
/-! THE ABSTRACT MACHINE: cells by their places from a base on; one instruction a step; a run up to a branch, a call, an end -/
/-- a cell: an object (class, references), an array (type, length), or what nobody looks at any more -/
abbrev aK : Type := (Nat × List Value) ⊕ (ArrayType × Nat) ⊕ Unit
/-- the cells' shapes; the ints of objects and of arrays; the longs of arrays; the script -/
abbrev aH : Type := List aK × (Nat → Nat → Int32) × (Nat → Nat → Int32) × (Nat → Nat → Int64) × (Nat × (Nat → Int32))
abbrev aS : Type := Nat × List (Nat × Value) × List Value × aH
/-- returned, or threw (exception class, place of the object) -/
abbrev aO : Type := Option Value ⊕ (Nat × Nat)
/-- goes on | goes on if | branches | switches | calls | ends | makes a cell | throws a new exception -/
abbrev aR : Type := Option (aS ⊕ (Prop × aS) ⊕ (Prop × aS × aS) ⊕ (List (Prop × aS) × aS) ⊕ (Nat × List Value × aS) ⊕ (Prop × aO × aH) ⊕ (Prop × Nat × aS) ⊕ (Nat × Nat × aH))
def am_u {α : Type} (f : Nat → Nat → α) (a k : Nat) (v : α) : Nat → Nat → α := fun x y => if x = a ∧ y = k then v else f x y
/-- a row of zeros -/
def am_z {α : Type} (f : Nat → Nat → α) (a : Nat) (v : α) : Nat → Nat → α := fun x y => if x = a then v else f x y
abbrev am_nx (s : aS) : aR := some (.inl s)
abbrev am_nd (P : Prop) (s : aS) : aR := some (.inr (.inl (P, s)))
abbrev am_br (P : Prop) (s t : aS) : aR := some (.inr (.inr (.inl (P, s, t))))
abbrev am_sw (l : List (Prop × aS)) (s : aS) : aR := some (.inr (.inr (.inr (.inl (l, s)))))
abbrev am_ca (M : Nat) (as : List Value) (s : aS) : aR := some (.inr (.inr (.inr (.inr (.inl (M, as, s))))))
abbrev am_rt (P : Prop) (o : aO) (h : aH) : aR := some (.inr (.inr (.inr (.inr (.inr (.inl (P, o, h)))))))
abbrev am_al (P : Prop) (n : Nat) (s : aS) : aR := some (.inr (.inr (.inr (.inr (.inr (.inr (.inl (P, n, s))))))))
abbrev am_th (X k : Nat) (h : aH) : aR := some (.inr (.inr (.inr (.inr (.inr (.inr (.inr (X, k, h))))))))
def am_st1 (i : Nat) (v : Value) (ls : List (Nat × Value)) : List (Nat × Value) := (i, v) :: ls.filter (fun q => !(q.1 == i) && !(q.1 + 1 == i && q.2.category == 2))
def am_st2 (i : Nat) (v : Value) (ls : List (Nat × Value)) : List (Nat × Value) := (i, v) :: ls.filter (fun q => !(q.1 == i) && (!(q.1 == i + 1) && !(q.1 + 1 == i && q.2.category == 2)))
def am_iload (i nx : Nat) (ls : List (Nat × Value)) (st : List Value) (h : aH) : aR := match ls.lookup i with
  | some (.int x) => am_nx (nx, ls, .int x :: st, h)
  | _ => none
def am_lload (i nx : Nat) (ls : List (Nat × Value)) (st : List Value) (h : aH) : aR := match ls.lookup i with
  | some (.long x) => am_nx (nx, ls, .long x :: st, h)
  | _ => none
def am_aload (i nx : Nat) (ls : List (Nat × Value)) (st : List Value) (h : aH) : aR := match ls.lookup i with
  | some (.ref x) => am_nx (nx, ls, .ref x :: st, h)
  | some (.retAddr x) => am_nx (nx, ls, .retAddr x :: st, h)
  | _ => none
def am_istore (i nx ml : Nat) (ls : List (Nat × Value)) (st : List Value) (h : aH) : aR := match Nat.blt i ml, st with
  | true, .int x :: r => am_nx (nx, am_st1 i (.int x) ls, r, h)
  | _, _ => none
def am_lstore (i nx ml : Nat) (ls : List (Nat × Value)) (st : List Value) (h : aH) : aR := match Nat.blt (i + 1) ml, st with
  | true, .long x :: r => am_nx (nx, am_st2 i (.long x) ls, r, h)
  | _, _ => none
def am_astore (i nx ml : Nat) (ls : List (Nat × Value)) (st : List Value) (h : aH) : aR := match Nat.blt i ml, st with
  | true, .ref x :: r => am_nx (nx, am_st1 i (.ref x) ls, r, h)
  | _, _ => none
/-- a branch on two ints -/
def am_brc (c : ClassFile.Cond) (x y : Int32) (s t : aS) : aR := match c with
  | .eq => am_br (x = y) s t
  | .ne => am_br (¬ x = y) s t
  | .lt => am_br (x < y) s t
  | .ge => am_br (y ≤ x) s t
  | .gt => am_br (y < x) s t
  | .le => am_br (x ≤ y) s t
def am_get (own cp nx : Nat) (ls : List (Nat × Value)) (st : List Value) (h : aH) : aR := match st, (am_fr.getD own []).lookup cp, h with
  | .ref a :: r, some (ci, k, _, _), (K, I, A, J, X) => match K[a]? with
    | some (.inl (c', refs)) => match Nat.beq c' ci, am_isr ci k with
      | true, false => am_nx (nx, ls, .int (I a k) :: r, (K, I, A, J, X))
      | true, true => match refs[k]? with
        | some v => am_nx (nx, ls, v :: r, (K, I, A, J, X))
        | none => none
      | _, _ => none
    | _ => none
  | _, _, _ => none
/-- a field of ints, or (in the constructor of its own class) a final reference -/
def am_put (M cp nx : Nat) (ls : List (Nat × Value)) (st : List Value) (h : aH) : aR := match st, (am_fr.getD (am_own M) []).lookup cp, h with
  | .int x :: .ref a :: r, some (ci, k, _, _), (K, I, A, J, X) => match K[a]? with
    | some (.inl (c', _)) => match Nat.beq c' ci, am_ty ci k with
      | true, .int => am_nx (nx, ls, r, (K, am_u I a k x, A, J, X))
      | true, .boolean => am_nd (x = 0 ∨ x = 1) (nx, ls, r, (K, am_u I a k x, A, J, X))
      | _, _ => none
    | _ => none
  | .ref b :: .ref a :: r, some (ci, k, _, false), (K, I, A, J, X) => match K[a]? with
    | some (.inl (c', refs)) => match Nat.beq c' ci && Nat.beq ci (am_own M) && Nat.blt k refs.length && decide ((am_y M).name = "<init>"), am_isr ci k with
      | true, true => am_nx (nx, ls, r, (K.set a (.inl (c', refs.set k (.ref b))), I, A, J, X))
      | _, _ => none
    | _ => none
  | _, _, _ => none
def am_ald (t : ArrayType) (nx : Nat) (ls : List (Nat × Value)) (st : List Value) (h : aH) : aR := match st, h with
  | .int i :: .ref a :: r, (K, I, A, J, X) => match K[a]? with
    | some (.inr (.inl (t', n))) => match t, t' with
      | .int, .int => am_nd (vp_in i n) (nx, ls, .int (A a i.toNatClampNeg) :: r, (K, I, A, J, X))
      | .char, .char => am_nd (vp_in i n) (nx, ls, .int (A a i.toNatClampNeg) :: r, (K, I, A, J, X))
      | .boolean, .boolean => am_nd (vp_in i n) (nx, ls, .int (A a i.toNatClampNeg) :: r, (K, I, A, J, X))
      | .long, .long => am_nd (vp_in i n) (nx, ls, .long (J a i.toNatClampNeg) :: r, (K, I, A, J, X))
      | _, _ => none
    | _ => none
  | .int i :: .retAddr q :: r, (K, I, A, J, X) => match t, X, Nat.beq q 1000 with
    | .int, (L, xs), true => am_nd (vp_in i L) (nx, ls, .int (xs i.toNatClampNeg) :: r, (K, I, A, J, (L, xs)))
    | _, _, _ => none
  | _, _ => none
def am_ast (t : ArrayType) (nx : Nat) (ls : List (Nat × Value)) (st : List Value) (h : aH) : aR := match st, h with
  | .int x :: .int i :: .ref a :: r, (K, I, A, J, X) => match K[a]? with
    | some (.inr (.inl (t', n))) => match t, t' with
      | .int, .int => am_nd (vp_in i n) (nx, ls, r, (K, I, am_u A a i.toNatClampNeg x, J, X))
      | .char, .char => am_nd (vp_in i n) (nx, ls, r, (K, I, am_u A a i.toNatClampNeg (vp_nar .char x), J, X))
      | .boolean, .boolean => am_nd (vp_in i n) (nx, ls, r, (K, I, am_u A a i.toNatClampNeg (vp_nar .boolean x), J, X))
      | _, _ => none
    | _ => none
  | .long x :: .int i :: .ref a :: r, (K, I, A, J, X) => match K[a]? with
    | some (.inr (.inl (t', n))) => match t, t' with
      | .long, .long => am_nd (vp_in i n) (nx, ls, r, (K, I, A, am_u J a i.toNatClampNeg x, X))
      | _, _ => none
    | _ => none
  | _, _ => none
/-- arrays that the program makes -/
def am_at (t : ArrayType) : Bool := match t with
  | .int => true
  | .char => true
  | .long => true
  | .boolean => true
  | _ => false
def am_len (nx : Nat) (ls : List (Nat × Value)) (st : List Value) (h : aH) : aR := match st, h with
  | .ref a :: r, (K, I, A, J, X) => match K[a]? with
    | some (.inr (.inl (t, n))) => match am_at t with
      | true => am_nx (nx, ls, .int (Int32.ofNat n) :: r, (K, I, A, J, X))
      | false => none
    | _ => none
  | .retAddr q :: r, (K, I, A, J, (L, xs)) => match Nat.beq q 1000 with
    | true => am_nx (nx, ls, .int (Int32.ofNat L) :: r, (K, I, A, J, (L, xs)))
    | false => none
  | _, _ => none
def am_new (t : ArrayType) (nx : Nat) (ls : List (Nat × Value)) (st : List Value) (h : aH) : aR := match st, h with
  | .int n :: r, (K, I, A, J, X) => match am_at t with
    | true => am_al (¬ n < 0 ∧ n.toNatClampNeg ≤ 65536) n.toNatClampNeg (nx, ls, .ref K.length :: r, (K ++ [.inr (.inl (t, n.toNatClampNeg))], I, am_z A K.length 0, am_z J K.length 0, X))
    | false => none
  | _, _ => none
/-- a new object; or a new exception, made and thrown right here (new, dup, ldc, invokespecial, athrow) -/
def am_obj (M cp pc nx : Nat) (ls : List (Nat × Value)) (st : List Value) (h : aH) : aR := match (am_kr.getD (am_own M) []).lookup cp, h with
  | some (c, _), (K, I, A, J, X) => match Nat.blt c 100 with
    | true => am_al True (am_tys.getD c []).length (nx, ls, .ref K.length :: st, (K ++ [.inl (c, List.replicate (am_tys.getD c []).length .null)], am_z I K.length 0, A, J, X))
    | false => match (am_co M).lookup (pc + 3), (am_co M).lookup (pc + 4), (am_co M).lookup (pc + 6), (am_co M).lookup (pc + 9) with
      | some (.dup, _), some (.ldc q, _), some (.invokespecial w, _), some (.athrow, _) => match (am_sr.getD (am_own M) []).lookup q, (am_sx.getD (am_own M) []).lookup w, am_hs M with
        | some _, some c', [] => match Nat.beq c' c && Nat.ble ((st.map Value.category).sum) 8 with
          | true => am_th c K.length (K ++ [.inr (.inr ())], I, A, J, X)
          | false => none
        | _, _, _ => none
      | _, _, _, _ => none
  | none, _ => none
/-- the arguments and what lies below them -/
def am_take : Nat → List Value → List Value → Option (List Value × List Value)
  | 0, as, st => some (as, st)
  | n + 1, as, v :: st => am_take n (v :: as) st
  | _ + 1, _, [] => none
def am_kd (M : Nat) : Nat := (am_wi.getD M (0, 0, 0, 0, 3)).2.2.2.2
/-- may this be called so (0 virtual, 1 static, 2 special)? -/
def am_ckc (k M : Nat) (as : List Value) (K : List aK) (r : List Value) : Bool := Nat.ble ((r.map Value.category).sum) 8 && Nat.blt M 200 && Nat.beq k (am_kd M) && (match k, as with
  | 0, .ref a :: _ => match K[a]? with
    | some (.inl (ci, _)) => Nat.beq ci (am_own M)
    | _ => false
  | 0, .retAddr i :: _ => Nat.beq (am_own M) 12 && Nat.blt i 29
  | 1, _ => true
  | 2, .ref _ :: _ => true
  | _, _ => false)
def am_inv (M cp nx k : Nat) (ls : List (Nat × Value)) (st : List Value) (h : aH) : aR := match (am_mr.getD (am_own M) []).lookup cp, h with
  | some (M', _, _), (K, I, A, J, X) => match am_na[M']? with
    | some n => match am_take (match k with | 1 => n | _ => n + 1) [] st with
      | some (as, r) => match am_ckc k M' as K r with
        | true => am_ca M' as (nx, ls, r, (K, I, A, J, X))
        | false => none
      | none => none
    | none => none
  | none, h => match k, (am_or.getD (am_own M) []).lookup cp, st with
    | 2, some _, .ref _ :: r => match Nat.ble ((r.map Value.category).sum) 8 with
      | true => am_nx (nx, ls, r, h)
      | false => none
    | _, _, _ => none
def am_ret (M : Nat) (st : List Value) (h : aH) : aR := match st, am_re M with
  | [.int x], some .int => am_rt True (.inl (some (.int x))) h
  | [.int x], some .boolean => am_rt (x = 0 ∨ x = 1) (.inl (some (.int x))) h
  | [.int x], some .char => am_rt (narrow .char (.int x) = .int x) (.inl (some (.int x))) h
  | _, _ => none
def am_cases (x : Int32) (ls : List (Nat × Value)) (r : List Value) (h : aH) : List Int32 → List Nat → List (Prop × aS)
  | k :: ks, t :: tg => (x = k, (t, ls, r, h)) :: am_cases x ls r h ks tg
  | _, _ => []
/-- one instruction -/
def am_x (M : Nat) (i : Instr) (pc nx : Nat) (tg : List Nat) (imm : Int32) (ks : List Int32) (ls : List (Nat × Value)) (st : List Value) (h : aH) : aR := match i with
  | .iconst _ => am_nx (nx, ls, .int imm :: st, h)
  | .bipush _ => am_nx (nx, ls, .int imm :: st, h)
  | .sipush _ => am_nx (nx, ls, .int imm :: st, h)
  | .lconst 0 => am_nx (nx, ls, .long 0 :: st, h)
  | .lconst 1 => am_nx (nx, ls, .long 1 :: st, h)
  | .ldc cp => match (am_sr.getD (am_own M) []).lookup cp with
    | some k => am_nx (nx, ls, .retAddr k :: st, h)
    | none => none
  | .ldc2_w cp => match (am_lr.getD (am_own M) []).lookup cp with
    | some (v, _) => am_nx (nx, ls, .long v :: st, h)
    | none => none
  | .iload k => am_iload k nx ls st h
  | .iload_n k => am_iload k.val nx ls st h
  | .lload k => am_lload k nx ls st h
  | .lload_n k => am_lload k.val nx ls st h
  | .aload k => am_aload k nx ls st h
  | .aload_n k => am_aload k.val nx ls st h
  | .istore k => am_istore k nx (am_ml M) ls st h
  | .istore_n k => am_istore k.val nx (am_ml M) ls st h
  | .lstore k => am_lstore k nx (am_ml M) ls st h
  | .lstore_n k => am_lstore k.val nx (am_ml M) ls st h
  | .astore k => am_astore k nx (am_ml M) ls st h
  | .astore_n k => am_astore k.val nx (am_ml M) ls st h
  | .iinc k _ => match Nat.blt k (am_ml M), ls.lookup k with
    | true, some (.int x) => am_nx (nx, am_st1 k (.int (x + imm)) ls, st, h)
    | _, _ => none
  | .iadd => match st with
    | .int y :: .int x :: r => am_nx (nx, ls, .int (x + y) :: r, h)
    | _ => none
  | .isub => match st with
    | .int y :: .int x :: r => am_nx (nx, ls, .int (x - y) :: r, h)
    | _ => none
  | .imul => match st with
    | .int y :: .int x :: r => am_nx (nx, ls, .int (x * y) :: r, h)
    | _ => none
  | .idiv => match st with
    | .int y :: .int x :: r => am_nd (¬ y = 0) (nx, ls, .int (x / y) :: r, h)
    | _ => none
  | .iand => match st with
    | .int y :: .int x :: r => am_nx (nx, ls, .int (x &&& y) :: r, h)
    | _ => none
  | .ladd => match st with
    | .long y :: .long x :: r => am_nx (nx, ls, .long (x + y) :: r, h)
    | _ => none
  | .lmul => match st with
    | .long y :: .long x :: r => am_nx (nx, ls, .long (x * y) :: r, h)
    | _ => none
  | .land => match st with
    | .long y :: .long x :: r => am_nx (nx, ls, .long (x &&& y) :: r, h)
    | _ => none
  | .lor => match st with
    | .long y :: .long x :: r => am_nx (nx, ls, .long (x ||| y) :: r, h)
    | _ => none
  | .lushr => match st with
    | .int y :: .long x :: r => am_nx (nx, ls, .long (x.toUInt64 >>> (y.toInt64.toUInt64 &&& Int64.toUInt64 63)).toInt64 :: r, h)
    | _ => none
  | .lshr => match st with
    | .int y :: .long x :: r => am_nx (nx, ls, .long (x >>> (y.toInt64 &&& 63)) :: r, h)
    | _ => none
  | .lshl => match st with
    | .int y :: .long x :: r => am_nx (nx, ls, .long (x <<< (y.toInt64 &&& 63)) :: r, h)
    | _ => none
  | .lcmp => match st with
    | .long y :: .long x :: r => am_nx (nx, ls, .int (lg_cmp x y) :: r, h)
    | _ => none
  | .i2l => match st with
    | .int x :: r => am_nx (nx, ls, .long x.toInt64 :: r, h)
    | _ => none
  | .l2i => match st with
    | .long x :: r => am_nx (nx, ls, .int x.toInt32 :: r, h)
    | _ => none
  | .i2c => match st with
    | .int x :: r => am_nx (nx, ls, .int (x.toUInt32 % 65536).toInt32 :: r, h)
    | _ => none
  | .dup => match st with
    | .int x :: r => am_nx (nx, ls, .int x :: .int x :: r, h)
    | .ref x :: r => am_nx (nx, ls, .ref x :: .ref x :: r, h)
    | _ => none
  | .dup2 => match st with
    | .int x :: .ref y :: r => am_nx (nx, ls, .int x :: .ref y :: .int x :: .ref y :: r, h)
    | _ => none
  | .pop => match st with
    | .int _ :: r => am_nx (nx, ls, r, h)
    | _ => none
  | .goto _ => match tg with
    | t :: _ => am_nx (t, ls, st, h)
    | _ => none
  | .ifCond c _ => match st, tg with
    | .int x :: r, t :: _ => am_brc c x 0 (t, ls, r, h) (nx, ls, r, h)
    | _, _ => none
  | .if_icmp c _ => match st, tg with
    | .int y :: .int x :: r, t :: _ => am_brc c x y (t, ls, r, h) (nx, ls, r, h)
    | _, _ => none
  | .tableswitch .. => match st, tg with
    | .int x :: r, t :: tg => am_sw (am_cases x ls r h ks tg) (t, ls, r, h)
    | _, _ => none
  | .lookupswitch .. => match st, tg with
    | .int x :: r, t :: tg => am_sw (am_cases x ls r h ks tg) (t, ls, r, h)
    | _, _ => none
  | .getfield cp => am_get (am_own M) cp nx ls st h
  | .putfield cp => am_put M cp nx ls st h
  | .iaload => am_ald .int nx ls st h
  | .caload => am_ald .char nx ls st h
  | .baload => am_ald .boolean nx ls st h
  | .laload => am_ald .long nx ls st h
  | .iastore => am_ast .int nx ls st h
  | .castore => am_ast .char nx ls st h
  | .bastore => am_ast .boolean nx ls st h
  | .lastore => am_ast .long nx ls st h
  | .arraylength => am_len nx ls st h
  | .newarray t => am_new t nx ls st h
  | .new cp => am_obj M cp pc nx ls st h
  | .invokevirtual cp => am_inv M cp nx 0 ls st h
  | .invokespecial cp => am_inv M cp nx 2 ls st h
  | .invokestatic cp => am_inv M cp nx 1 ls st h
  | .ireturn => am_ret M st h
  | .return_ => match st, am_re M with
    | [], none => am_rt True (.inl none) h
    | _, _ => none
  | _ => none
def am_step (M : Nat) (s : aS) : aR := match s with
  | (pc, ls, st, h) => match (am_co M).lookup pc with
    | some (i, nx, tg, imm, ks) => am_x M i pc nx tg imm ks ls st h
    | none => none
/-- on and on, up to what isn't a plain step -/
def am_run : Nat → Nat → aS → aR
  | 0, _, s => am_nx s
  | n + 1, M, s => match am_step M s with
    | some (.inl t) => am_run n M t
    | r => r
