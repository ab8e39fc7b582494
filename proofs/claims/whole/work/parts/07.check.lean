/-! THE PRINTED CODE IS THE CODE: each row is what the bytes decode to -/
def am_isw (i : Instr) : Bool := match i with
  | .tableswitch .. => true
  | .lookupswitch .. => true
  | _ => false
def am_ilen (i : Instr) : Nat := match i with
  | .bipush _ => 2
  | .sipush _ => 3
  | .ldc _ => 2
  | .ldc2_w _ => 3
  | .iload _ => 2
  | .lload _ => 2
  | .aload _ => 2
  | .istore _ => 2
  | .lstore _ => 2
  | .astore _ => 2
  | .iinc .. => 3
  | .goto _ => 3
  | .ifCond .. => 3
  | .if_icmp .. => 3
  | .getfield _ => 3
  | .putfield _ => 3
  | .getstatic _ => 3
  | .invokevirtual _ => 3
  | .invokespecial _ => 3
  | .invokestatic _ => 3
  | .new _ => 3
  | .newarray _ => 2
  | .ldc_w _ => 3
  | _ => 1
def am_tgt (pc : Nat) (o : Int) (tg : List Nat) : Bool := match tg with
  | t :: _ => decide ((pc : Int) + o = (t : Int))
  | [] => false
def am_tg (i : Instr) (pc : Nat) (tg : List Nat) (imm : Int32) (ks : List Int32) : Bool := match i with
  | .goto o => am_tgt pc o tg
  | .ifCond _ o => am_tgt pc o tg
  | .if_icmp _ o => am_tgt pc o tg
  | .iconst n => decide (Int32.ofInt n = imm)
  | .bipush n => decide ((Int8.ofInt n).toInt32 = imm)
  | .sipush n => decide ((Int16.ofInt n).toInt32 = imm)
  | .iinc _ n => decide (Int32.ofInt n = imm)
  | .tableswitch d lo hi offs => am_tgt pc d tg && decide ((tg.drop 1).map Int.ofNat = offs.toList.map (fun o => (pc : Int) + o)) && decide (ks.map Int32.toInt = (List.range offs.size).map (fun j : Nat => lo + (j : Int))) && decide (hi = lo + (offs.size : Int) - 1)
  | .lookupswitch d ps => am_tgt pc d tg && decide ((tg.drop 1).map Int.ofNat = ps.toList.map (fun o => (pc : Int) + o.2)) && decide (ks.map Int32.toInt = ps.toList.map Prod.fst) && (ps.toList.zip (ps.toList.drop 1)).all (fun (a, next) => a.1 < next.1)
  | _ => true
def am_row (cc : ByteArray) (e : Nat × Instr × Nat × List Nat × Int32 × List Int32) : Bool := match e with
  | (pc, i, nx, tg, imm, ks) => decide (decode cc pc = .ok (i, nx - pc)) && (am_isw i || decide (nx = pc + am_ilen i)) && am_tg i pc tg imm ks
def am_chk (q : aM) : Bool := q.2.2.2.2.2.2.all (am_row q.2.2.1)
theorem am_k0 : (List.take 10 (List.drop 0 am_ms)).all am_chk = true := by decide +kernel
theorem am_k10 : (List.take 10 (List.drop 10 am_ms)).all am_chk = true := by decide +kernel
theorem am_k20 : (List.take 10 (List.drop 20 am_ms)).all am_chk = true := by decide +kernel
theorem am_k30 : (List.take 10 (List.drop 30 am_ms)).all am_chk = true := by decide +kernel
theorem am_k40 : (List.take 10 (List.drop 40 am_ms)).all am_chk = true := by decide +kernel
theorem am_k50 : (List.take 10 (List.drop 50 am_ms)).all am_chk = true := by decide +kernel
theorem am_k60 : (List.take 10 (List.drop 60 am_ms)).all am_chk = true := by decide +kernel
theorem am_k70 : (List.take 10 (List.drop 70 am_ms)).all am_chk = true := by decide +kernel
theorem am_k80 : (List.take 10 (List.drop 80 am_ms)).all am_chk = true := by decide +kernel
theorem am_k90 : (List.take 10 (List.drop 90 am_ms)).all am_chk = true := by decide +kernel
theorem am_k100 : (List.take 10 (List.drop 100 am_ms)).all am_chk = true := by decide +kernel
theorem am_k110 : (List.take 10 (List.drop 110 am_ms)).all am_chk = true := by decide +kernel
theorem am_k120 : (List.take 10 (List.drop 120 am_ms)).all am_chk = true := by decide +kernel
theorem am_k130 : (List.take 10 (List.drop 130 am_ms)).all am_chk = true := by decide +kernel
theorem am_k140 : (List.take 10 (List.drop 140 am_ms)).all am_chk = true := by decide +kernel
theorem am_k150 : (List.take 10 (List.drop 150 am_ms)).all am_chk = true := by decide +kernel
theorem am_k160 : (List.take 10 (List.drop 160 am_ms)).all am_chk = true := by decide +kernel
theorem am_k170 : (List.take 10 (List.drop 170 am_ms)).all am_chk = true := by decide +kernel
theorem am_k180 : (List.take 10 (List.drop 180 am_ms)).all am_chk = true := by decide +kernel
theorem am_k190 : (List.take 10 (List.drop 190 am_ms)).all am_chk = true := by decide +kernel
theorem am_k200 : (List.take 10 (List.drop 200 am_ms)).all am_chk = true := by decide +kernel
theorem am_ko : ∀ q ∈ am_ms, am_chk q = true := by
  have key : ∀ (l : List aM) (n : Nat), (List.take 10 l).all am_chk = true → (∀ q ∈ List.drop 10 l, am_chk q = true) → ∀ q ∈ l, am_chk q = true := by
    intro l n h1 h2 q hq
    rw [← List.take_append_drop 10 l] at hq
    rcases List.mem_append.mp hq with h | h
    · exact List.all_eq_true.mp h1 q h
    · exact h2 q h
  have dd : ∀ n : Nat, List.drop 10 (List.drop n am_ms) = List.drop (n + 10) am_ms := fun n => by rw [List.drop_drop]
  have h0 : ∀ q ∈ List.drop 0 am_ms, am_chk q = true := by
    refine key _ 0 am_k0 ?_; rw [dd]
    refine key _ 0 am_k10 ?_; rw [dd]
    refine key _ 0 am_k20 ?_; rw [dd]
    refine key _ 0 am_k30 ?_; rw [dd]
    refine key _ 0 am_k40 ?_; rw [dd]
    refine key _ 0 am_k50 ?_; rw [dd]
    refine key _ 0 am_k60 ?_; rw [dd]
    refine key _ 0 am_k70 ?_; rw [dd]
    refine key _ 0 am_k80 ?_; rw [dd]
    refine key _ 0 am_k90 ?_; rw [dd]
    refine key _ 0 am_k100 ?_; rw [dd]
    refine key _ 0 am_k110 ?_; rw [dd]
    refine key _ 0 am_k120 ?_; rw [dd]
    refine key _ 0 am_k130 ?_; rw [dd]
    refine key _ 0 am_k140 ?_; rw [dd]
    refine key _ 0 am_k150 ?_; rw [dd]
    refine key _ 0 am_k160 ?_; rw [dd]
    refine key _ 0 am_k170 ?_; rw [dd]
    refine key _ 0 am_k180 ?_; rw [dd]
    refine key _ 0 am_k190 ?_; rw [dd]
    refine key _ 0 am_k200 ?_; rw [dd]
    intro q hq
    exact absurd hq (by
      have : List.drop 210 am_ms = [] := by rw [List.drop_eq_nil_iff]; decide +kernel
      rw [show 200 + 10 = 210 from rfl, this]
      exact List.not_mem_nil)
  exact fun q hq => h0 q (by rw [List.drop_zero]; exact hq)
theorem am_kM (M : Nat) : am_chk (am_m M) = true := by
  unfold am_m
  rw [List.getD_eq_getElem?_getD]
  cases h : am_ms[M]? with
  | none => exact am_ko _ (List.mem_of_getElem? (i := 0) rfl)
  | some q => exact am_ko _ (List.mem_of_getElem? h)
theorem am_dec {M pc : Nat} {i : Instr} {nx : Nat} {tg : List Nat} {imm : Int32} {ks : List Int32} (h : (am_co M).lookup pc = some (i, nx, tg, imm, ks)) :
    decode (am_by M) pc = .ok (i, nx - pc) ∧ (am_isw i = true ∨ nx = pc + am_ilen i) ∧ am_tg i pc tg imm ks = true := by
  have hm : (pc, i, nx, tg, imm, ks) ∈ am_co M := by
    generalize am_co M = l at h
    induction l with
    | nil => simp at h
    | cons q l ih =>
      obtain ⟨a, b⟩ := q
      rw [List.lookup_cons] at h
      by_cases e : pc = a
      · subst e
        simp at h
        rw [h]
        exact List.mem_cons_self
      · have e' : (pc == a) = false := by simp [e]
        rw [e'] at h
        exact List.mem_cons_of_mem _ (ih h)
  have h1 := List.all_eq_true.mp (am_kM M) _ hm
  simp only [am_row, Bool.and_eq_true, Bool.or_eq_true, decide_eq_true_eq] at h1
  exact ⟨h1.1.1, h1.1.2, h1.2⟩
