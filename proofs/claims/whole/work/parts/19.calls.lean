/-! SOUND: calls -/
/-- does a catch of the class at the entry ct take the exception X? -/
def am_yes (own X ct : Nat) : Option Bool := match (am_kr.getD own []).lookup ct with
  | some (X', _) => match Nat.beq X' X, Nat.ble 100 X' && Nat.blt X' 104 && Nat.ble 100 X && Nat.blt X 104 && Nat.blt 0 ct with
    | true, true => some true
    | false, true => some false
    | _, false => none
  | none => none
/-- what comes behind an exception X (the object k) that leaves a call at pc -/
def am_Thr (M d B C u c pc : Nat) (ls : List (Nat × Value)) (X k : Nat) (h : aH) (Q : aO → aH → Prop) : Prop := match am_hs M with
  | [] => u ≤ B ∧ c ≤ C ∧ Q (.inr (X, k)) h
  | hs => match xm_find (am_yes (am_own M) X) pc hs with
    | some hp => am_Tri M d B C u c (hp, ls, [.ref k], h) Q
    | none => False
/-- what comes behind a call at pc -/
def am_Aft (M d B C u c pc : Nat) (ls : List (Nat × Value)) (r : List Value) (o : aO) (h : aH) (Q : aO → aH → Prop) : Prop := match o with
  | .inl (some v) => am_Tri M d B C u c (pc + 3, ls, v :: r, h) Q
  | .inl none => am_Tri M d B C u c (pc + 3, ls, r, h) Q
  | .inr (X, k) => am_Thr M d B C u c pc ls X k h Q
theorem am_Wm {M : Nat} (hM : M < 200) : am_gw (am_w0 M) = true ∧ (∃ i : Nat, lw_tbl[i]? = some (Jvm.Cond.initialized (am_y M).cls)) ∧ (am_y M).cls = am_nm.getD (am_own M) "" ∧ plainFor (am_y M) = true ∧ ((am_y M).cls ≠ "java/lang/invoke/MethodHandle" ∧ (am_y M).cls ≠ "java/lang/invoke/VarHandle") ∧
    (parseMethodDescriptor (am_y M).desc).map (fun d => d.parameters.length) = am_na[M]? ∧ am_ml M ≤ 21 ∧ (am_kd M = 0 → (∃ i : Nat, lw_tbl[i]? = some (Jvm.Cond.instanceMethod (am_y M))) ∧ ∃ i : Nat, lw_tbl[i]? = some (Jvm.Cond.selects (am_y M).cls (am_y M) (am_y M))) ∧
    (am_kd M = 1 → ∃ i : Nat, lw_tbl[i]? = some (Jvm.Cond.static (am_y M))) ∧ (am_kd M = 2 → (∃ i : Nat, lw_tbl[i]? = some (Jvm.Cond.instanceMethod (am_y M))) ∧ (am_y M).name = "<init>" ∧ am_re M = none ∧ am_hs M = []) := by
  have h := List.all_eq_true.mp am_wall M (List.mem_range.mpr hM)
  have hd : am_wi.getD M (0, 0, 0, 0, 0) = am_wi.getD M (0, 0, 0, 0, 3) := by
    have hl : M < am_wi.length := Nat.lt_of_lt_of_le hM (by decide +kernel)
    rw [List.getD_eq_getElem?_getD, List.getD_eq_getElem?_getD, List.getElem?_eq_getElem hl]
    rfl
  unfold am_rowW at h
  unfold am_kd
  rw [← hd]
  generalize am_wi.getD M (0, 0, 0, 0, 0) = q at h ⊢
  obtain ⟨w1, w2, w3, w4, k⟩ := q
  simp only [Bool.and_eq_true, decide_eq_true_eq] at h
  obtain ⟨⟨⟨⟨⟨⟨⟨⟨h1, h2⟩, h3⟩, h4⟩, h5⟩, h6⟩, h7⟩, h8⟩, h9⟩ := h
  refine ⟨h1, ⟨w4, h2⟩, h3, h4, ⟨h5, h6⟩, h7, h8, fun e => ?_, fun e => ?_, fun e => ?_⟩
  · dsimp only at e
    subst e
    simp only [Bool.and_eq_true, decide_eq_true_eq] at h9
    exact ⟨⟨w2, h9.1⟩, ⟨w3, h9.2⟩⟩
  · dsimp only at e
    subst e
    simp only [decide_eq_true_eq] at h9
    exact ⟨w2, h9⟩
  · dsimp only at e
    subst e
    simp only [Bool.and_eq_true, decide_eq_true_eq] at h9
    exact ⟨⟨w2, h9.1.1.1⟩, h9.1.1.2, h9.1.2, h9.2⟩
theorem am_cw {M : Nat} {args : Array Value} {s : State} (h : (am_w0 M).before args s = true) : xm_code s (am_y M) (am_by M) (am_ml M) (am_re M) := by
  unfold am_w0 at h
  cases e : am_hs M with
  | nil => rw [e] at h; exact xm_code_of h
  | cons q l => rw [e] at h; exact xm_code_with h
theorem am_cs {M : Nat} (hM : M < 200) {s : State} (hW : am_Wd s) (args : Array Value) : (am_w0 M).before args s = true := by
  obtain ⟨i, hi⟩ := List.getElem?_of_mem (am_wm M hM)
  exact hW.use hi (am_Wm hM).1 args
