/-! THE START: the context at the law's entry -/
theorem am_arr {args : Array Value} {s : State} {ty : FieldType} (h : (Jvm.Cond.arrayClass ty).before args s = true) : ∃ cA : ClassId, ArrOfT s cA ty ∧ s.vm.findClass ("[" ++ ty.toString) = some cA := by
  obtain ⟨c, k, comp, h1, h2, h3⟩ := Cond.arrayClass_spec h
  exact ⟨c, fun n z => ⟨(fun _ h => by cases h), k, h2, comp, h3⟩, h1⟩
theorem am_Sta.of {args : Array Value} {s : State} {C n d : String} (hl : (Jvm.Cond.laysStatic C n d).before args s = true) (h : (Jvm.Cond.isRef (.static C n d)).before args s = true) : am_Sta C n d s s.heap := by
  obtain ⟨c, k, i, f, a, cell, hc, hi, hst, ha, hcell, hs, hcls, hlt, hty⟩ := Cond.laysStatic_spec hl
  cases hv : (Term.static C n d).eval args s none [] s with
  | none => simp [Cond.before, Cond.holds, Cond.value, hv] at h
  | some w =>
    obtain ⟨hst', a', cell', ha', hcell', -, hslot⟩ := Term.static_spec hi hv
    cases ha.symm.trans ha'
    cases hcell.symm.trans hcell'
    refine ⟨c, k, i, f, a, cell, w, hc, hi, hst, ha, hcell, hs, hcls, hlt, hty, hslot, ?_⟩
    simp only [Cond.before, Cond.holds, Cond.value, hv] at h
    cases w <;> simp_all [Value.isRef]
def am_tm (i : Nat) : Term := .string (am_str.getD i ("", 0, "")).1 (am_str.getD i ("", 0, "")).2.1
def am_fl : List Jvm.Cond := flatC (Jvm.Cond.and given_1 narrow_1)
def am_expT (i : Nat) : List Jvm.Cond := Jvm.Cond.exactly (am_tm i) "java/lang/String" :: Jvm.Cond.eq (.field (am_tm i) "java/lang/String" "coder" "B") (.int 0) :: Jvm.Cond.arrayOf (.field (am_tm i) "java/lang/String" "value" "[B") .byte ::
  Jvm.Cond.eq (.length (.field (am_tm i) "java/lang/String" "value" "[B")) (.int (Int32.ofNat (am_sl.getD i 0))) :: (List.range (am_sl.getD i 0)).map (fun j => Jvm.Cond.eq (.elem (.field (am_tm i) "java/lang/String" "value" "[B") (.int (Int32.ofNat j))) (.int ((am_sb.getD i []).getD j 0)))
theorem am_txall : List.drop 63 am_fl = (List.range 29).flatMap am_expT := by decide +kernel
def am_sw0 : List Nat := [419, 453, 463, 538, 574, 628, 629, 630, 631, 632, 633, 634, 635, 636, 637, 650, 706, 881, 908, 961, 966, 967, 968, 973, 974, 979, 997, 1017, 1032]
theorem am_srall : (List.range 29).all (fun i => decide (am_sl.getD i 0 < 2 ^ 31) && decide (lw_tbl[am_sw0.getD i 0]? = some (Jvm.Cond.stringRef (am_str.getD i ("", 0, "")).1 (am_str.getD i ("", 0, "")).2.1 (am_str.getD i ("", 0, "")).2.2))) = true := by decide +kernel
theorem am_rtx {i : Nat} (hi : i < 29) : Jvm.Cond.exactly (am_tm i) "java/lang/String" ∈ am_fl ∧ Jvm.Cond.eq (.field (am_tm i) "java/lang/String" "coder" "B") (.int 0) ∈ am_fl ∧ Jvm.Cond.arrayOf (.field (am_tm i) "java/lang/String" "value" "[B") .byte ∈ am_fl ∧
    Jvm.Cond.eq (.length (.field (am_tm i) "java/lang/String" "value" "[B")) (.int (Int32.ofNat (am_sl.getD i 0))) ∈ am_fl ∧ (∀ j : Nat, j < am_sl.getD i 0 → Jvm.Cond.eq (.elem (.field (am_tm i) "java/lang/String" "value" "[B") (.int (Int32.ofNat j))) (.int ((am_sb.getD i []).getD j 0)) ∈ am_fl) ∧
    am_sl.getD i 0 < 2 ^ 31 ∧ Jvm.Cond.stringRef (am_str.getD i ("", 0, "")).1 (am_str.getD i ("", 0, "")).2.1 (am_str.getD i ("", 0, "")).2.2 ∈ lw_tbl := by
  have hm : ∀ w ∈ am_expT i, w ∈ am_fl := by
    intro w hw
    have h1 : w ∈ (List.range 29).flatMap am_expT := List.mem_flatMap.mpr ⟨i, List.mem_range.mpr hi, hw⟩
    rw [← am_txall] at h1
    exact List.mem_of_mem_drop h1
  have hr := List.all_eq_true.mp am_srall i (List.mem_range.mpr hi)
  simp only [Bool.and_eq_true, decide_eq_true_eq] at hr
  refine ⟨hm _ (by simp [am_expT]), hm _ (by simp [am_expT]), hm _ (by simp [am_expT]), hm _ (by simp [am_expT]), fun j hj => hm _ ?_, hr.1, List.mem_of_getElem? hr.2⟩
  refine List.mem_cons_of_mem _ (List.mem_cons_of_mem _ (List.mem_cons_of_mem _ (List.mem_cons_of_mem _ ?_)))
  exact List.mem_map.mpr ⟨j, List.mem_range.mpr hj, rfl⟩
theorem am_nall : (List.range 4).all (fun i => (List.range 4).all (fun j => decide (i = j) || decide (Jvm.Cond.not (.castable (am_ex.getD i "") (am_ex.getD j "")) ∈ am_fl))) = true := by decide +kernel
theorem am_strs {args : Array Value} {s : State} {A : Nat → Prop} (hf : ∀ w ∈ am_fl, w.before args s = true) (hA : ∀ a : Nat, a < s.heap.size → ¬ A a) : ∃ adK adV : Nat → Nat, am_Str adK adV A s s.heap ∧ ∀ i : Nat, i < 29 → (am_tm i).eval args s none [] s = some (.ref (adK i)) := by
  have h0 : ∀ i : Nat, ∃ q : Nat × Nat, i < 29 → (am_tm i).eval args s none [] s = some (.ref q.1) ∧ va_O "java/lang/String" q.1 A s s.heap ∧ va_OF "java/lang/String" "coder" "B" (.int 0) q.1 A s s.heap ∧ va_OF "java/lang/String" "value" "[B" (.ref q.2) q.1 A s s.heap ∧ va_T .byte q.2 (am_sl.getD i 0) (fun j => .int ((am_sb.getD i []).getD j 0)) A s s.heap := by
    intro i
    by_cases hi : i < 29
    · obtain ⟨r1, r2, r3, r4, r5, r6, r7⟩ := am_rtx hi
      obtain ⟨a, c, cA, kA, q1, q2, q3, q4, q5, q6, -⟩ := Cond.exactly_spec (args := args) (first := s) (o := none) (s := s) (idx := []) (t := am_tm i) (cls := "java/lang/String") (hf _ r1)
      obtain ⟨t, ht, hT⟩ := va_Tof (f := fun j => .int ((am_sb.getD i []).getD j 0)) (A := A) r6 (hf _ r3) (va_eqt (hf _ r4)) (fun j hj => va_eqt (hf _ (r5 j hj))) hA
      exact ⟨(a, t), fun _ => ⟨q1, ⟨cA, q3, q5, by rw [q6]; exact q2, hA a (Array.getElem?_eq_some_iff.mp q3).1⟩, vk_OFof q1 (va_eqt (hf _ r2)) hA, vk_OFof q1 ht hA, hT⟩⟩
    · exact ⟨(0, 0), fun h => absurd h hi⟩
  obtain ⟨ad, had⟩ := Classical.axiomOfChoice h0
  exact ⟨fun i => (ad i).1, fun i => (ad i).2, fun i hi => (had i hi).2, fun i hi => (had i hi).1⟩
theorem am_classes {args : Array Value} {s : State} (hts : ∀ w ∈ lw_tbl, w.before args s = true) : ∃ D : va_G, va_K D am_cl [] s := by
  have h0 : ∀ ci : Nat, ∃ q : ClassId × (Nat → Nat), ∀ r : vw_C, am_cl[ci]? = some r → u_Kn s r.1 r.2.1 r.2.2 q.1 q.2 := by
    intro ci
    cases hr : am_cl[ci]? with
    | none => exact ⟨(0, fun _ => 0), fun r h => by cases h⟩
    | some r =>
      have hlt : ci < 10 := (List.getElem?_eq_some_iff.mp hr).1
      have hc := List.all_eq_true.mp am_call ci (List.mem_range.mpr hlt)
      unfold am_rowC at hc
      rw [hr] at hc
      generalize am_ci.getD ci (0, 0, []) = z at hc
      obtain ⟨w1, w2, ws⟩ := z
      obtain ⟨C, T, N⟩ := r
      simp only [Bool.and_eq_true, decide_eq_true_eq] at hc
      obtain ⟨⟨⟨⟨⟨⟨c1, c2⟩, c3⟩, c4⟩, c5⟩, c6⟩, c7⟩ := hc
      have hin : ∀ w ∈ u_ws C T N, w ∈ lw_tbl := by
        intro w hw
        have h1 : some w ∈ (u_ws C T N).map some := List.mem_map.mpr ⟨w, hw, rfl⟩
        rw [← c3] at h1
        obtain ⟨i, -, hi⟩ := List.mem_map.mp h1
        exact List.mem_of_getElem? hi
      obtain ⟨cC, iS, h⟩ := u_known hts hin (hts _ (List.mem_of_getElem? c1))
      exact ⟨(cC, iS), fun r' h' => by cases h'; exact h⟩
  obtain ⟨D, hD⟩ := Classical.axiomOfChoice h0
  exact ⟨(fun ci => (D ci).1, fun ci => (D ci).2), fun ci r hr => hD ci r hr, fun k q hq => by cases hq⟩
theorem am_begin {s : State} {b L : Nat} {xs : Nat → Int32} (hts : ∀ w ∈ lw_tbl, w.before #[Value.ref b] s = true) (hf : (Jvm.Cond.and given_1 narrow_1).before #[Value.ref b] s = true) (hX : va_X b L xs s s.heap) :
    ∃ E : aE, E.1 = s.heap.size ∧ E.2.1 = s.heap ∧ E.2.2.2.2 1000 = b ∧ am_G E s ∧ am_R E ([], fun _ _ => 0, fun _ _ => 0, fun _ _ => 0, (L, xs)) s s.heap := by
  have hfl : ∀ w ∈ am_fl, w.before #[Value.ref b] s = true := flat_of_before _ hf
  have hA : ∀ a : Nat, a < s.heap.size → ¬ (fun q => s.heap.size ≤ q) a := fun a h1 h2 => absurd h1 (Nat.not_lt.mpr h2)
  obtain ⟨adK, adV, hS, hev⟩ := am_strs hfl hA
  obtain ⟨D, hD⟩ := am_classes hts
  have ha0 : ∀ t : ArrayType, ∃ cA : ClassId, am_at t = true → ArrOfT s cA (newarray.typeOf t) ∧ s.vm.findClass ("[" ++ (newarray.typeOf t).toString) = some cA := by
    intro t
    by_cases ht : am_at t = true
    · obtain ⟨i, hi⟩ := am_arw ht
      obtain ⟨cA, h⟩ := am_arr (hts _ (List.mem_of_getElem? hi))
      exact ⟨cA, fun _ => h⟩
    · exact ⟨0, fun h => absurd h ht⟩
  obtain ⟨ar, har⟩ := Classical.axiomOfChoice ha0
  refine ⟨(s.heap.size, s.heap, D, ar, fun i => if i = 1000 then b else if 2000 ≤ i then adV (i - 2000) else adK i), rfl, rfl, (if_pos rfl : (if (1000 : Nat) = 1000 then b else if 2000 ≤ 1000 then adV (1000 - 2000) else adK 1000) = b), ⟨?_, hD, fun t ht => har t ht, ?_, ?_, ⟨?_, ?_⟩, ?_, ?_, ?_, ?_⟩, ?_⟩
  · intro w hw hg
    have h1 := hts w hw
    cases w
    case fieldLinkNest a i b n d hh => exact va_Nw.of rfl h1
    case methodLinkNest a i x hh => exact va_Nw.of rfl h1
    all_goals exact word_at (State.WarmedH.refl _) (good_of_word hg) h1
  · intro i q hq
    have hi : i < 29 := (List.getElem?_eq_some_iff.mp hq).1
    have hr := am_rtx hi
    have e : am_str.getD i ("", 0, "") = q := by rw [List.getD_eq_getElem?_getD, hq]; rfl
    have h1 := hts _ hr.2.2.2.2.2.2
    have h2 := hev i hi
    unfold am_tm at h2
    rw [e] at h1 h2
    show vk_R q.1 q.2.1 q.2.2 (if i = 1000 then b else if 2000 ≤ i then adV (i - 2000) else adK i) s
    rw [if_neg (by omega), if_neg (by omega)]
    exact vk_R.of h1 h2
  · intro i hi
    dsimp only
    rw [if_neg (show ¬ i = 1000 by omega), if_neg (show ¬ 2000 ≤ i by omega), if_neg (show ¬ 2000 + i = 1000 by omega), if_pos (show 2000 ≤ 2000 + i by omega), Nat.add_sub_cancel_left]
    exact hS i hi
  · exact va_Zof (hts _ (by decide +kernel)) (hts _ (by decide +kernel)) (va_eqi (hfl _ (by decide +kernel))) hA
  · exact va_Zqof (hts _ (by decide +kernel)) (hts _ (by decide +kernel)) (hfl _ (by decide +kernel)) hA
  · exact am_Sta.of (hts _ (by decide +kernel)) (hfl _ (by decide +kernel))
  · exact am_Sta.of (hts _ (by decide +kernel)) (hfl _ (by decide +kernel))
  · intro w hw hg
    have h1 := hts w hw
    cases w
    case declares x => exact va_Nw.of rfl h1
    case castable a b => exact va_Nw.of rfl h1
    all_goals cases hg
  · intro i j a b' hij hia hjb
    have hi : i < 4 := (List.getElem?_eq_some_iff.mp hia).1
    have hj : j < 4 := (List.getElem?_eq_some_iff.mp hjb).1
    have hr := List.all_eq_true.mp (List.all_eq_true.mp am_nall i (List.mem_range.mpr hi)) j (List.mem_range.mpr hj)
    simp only [Bool.or_eq_true, decide_eq_true_eq] at hr
    rcases hr with hr | hr
    · exact absurd hr hij
    · rw [List.getD_eq_getElem?_getD, List.getD_eq_getElem?_getD, hia, hjb] at hr
      exact va_Nc.of (hfl _ hr)
  · refine ⟨rfl, (fun k q hq => by cases hq), rfl, (fun q hq => rfl), (fun q cell hq hc => ?_), ?_⟩
    · exact absurd (Array.getElem?_eq_some_iff.mp hc).1 (Nat.not_lt.mpr hq)
    · show va_X (if (1000 : Nat) = 1000 then b else if 2000 ≤ 1000 then adV (1000 - 2000) else adK 1000) L xs s s.heap
      rw [if_pos rfl]
      exact hX
