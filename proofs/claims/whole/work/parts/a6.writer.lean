/-! THE WRITER, said purely: wt the tokens' texts -/
/-- how a node binds -/
def w_sg (mk : Nat → Int32) (e : Nat) : Nat := if e % 32 = 11 ∨ e % 32 = 12 ∨ e % 32 = 14 ∨ e % 32 = 15 then d_sb (mk (e / 32)) else if e % 32 = 13 then 3 else if e % 32 = 16 then 7 else 8
/-- whether the part e1, which is the i-th of e, stands in brackets -/
def w_in (mk : Nat → Int32) (e e1 i : Nat) : Bool := decide (¬ (e % 32 = 23 ∨ (e % 32 = 18 ∧ i = 1) ∨ (e % 32 = 17 ∧ 0 < i) ∨ w_sg mk e1 = 8 ∨ w_sg mk e < w_sg mk e1) ∧ ¬ (w_sg mk e1 = w_sg mk e ∧ (w_sg mk e = 3 ∨ w_sg mk e = 7 ∨ (i = 0 ∧ w_sg mk e ≠ 4))))
/-- what stands before the i-th of the n parts of e, or behind the last -/
def w_bf (wt : Nat → List Int32) (e n i : Nat) : List Int32 :=
  if e % 32 = 23 then (if i = 0 then [91] else []) ++ ((if 0 < i ∧ i ≠ n then [44, 32] else []) ++ (if i = n then [93] else []))
  else if e % 32 = 17 then (if i = 1 then [40] else []) ++ ((if 1 < i ∧ i ≠ n then [44, 32] else []) ++ (if i = n then [41] else []))
  else if e % 32 = 18 then (if 0 < i then (if i = n then [93] else [91]) else [])
  else if e % 32 = 19 then (if i = n then 46 :: wt (e / 32) else [])
  else if e % 32 = 13 then (if i ≠ n then wt (e / 32) ++ [32] else [])
  else if e % 32 = 16 then (if i ≠ n then wt (e / 32) else [])
  else if 19 < e % 32 then wt (e / 32)
  else if i = 1 then 32 :: (wt (e / 32) ++ [32]) else []
section WRI
variable (mk : Nat → Int32) (wt : Nat → List Int32)
/-- the parts of e from the i-th on -/
def w_bs : aB → Nat → Nat → Nat → List Int32
  | .leaf _, e, n, i => w_bf wt e n i
  | .branch e1 c1 s1, e, n, i => w_bf wt e n i ++ ((if w_in mk e e1 i then [40] else []) ++ (w_bs c1 e1 (b_len c1) 0 ++ ((if w_in mk e e1 i then [41] else []) ++ w_bs s1 e n (i + 1))))
def w_e (e : Nat) (c : aB) : List Int32 := w_bs mk wt c e (b_len c) 0
/-- an expression, if there is one -/
def w_x : aB → List Int32
  | .leaf _ => []
  | .branch e c _ => w_e mk wt e c
/-- a small statement -/
def w_sm (e : Nat) (c : aB) : List Int32 := (if e % 32 = 5 then [] else wt (e / 32)) ++ ((if e % 32 = 4 then [32, 61, 32] else []) ++ ((if e % 32 = 3 ∧ b_len c ≠ 0 then [32] else []) ++ (w_x mk wt c ++ [10])))
def w_id (d : Nat) : List Int32 := List.replicate (2 * d) 32
/-- 1 statements; 2 condition, block and more; 3 parameters and a block; 4 further ones; 5 block and more; 7 more -/
def w_m : aB → Nat → Nat → List Int32
  | .leaf _, _, _ => []
  | .branch e c s, 1, d => w_id d ++ ((if e % 32 = 6 ∨ e % 32 = 7 then wt (e / 32) ++ (32 :: w_m c 2 d) else if e % 32 = 8 then [100, 101, 102, 32] ++ (wt (e / 32) ++ (40 :: w_m c 3 d)) else w_sm mk wt e c) ++ w_m s 1 d)
  | .branch e c s, 2, d => w_e mk wt e c ++ ([58, 10] ++ w_m s 5 d)
  | .branch e c s, 3, d => if e % 32 = 24 then wt (e / 32) ++ w_m s 4 d else [41, 58, 10] ++ w_m c 1 (d + 1)
  | .branch e c s, 4, d => if e % 32 = 24 then [44, 32] ++ (wt (e / 32) ++ w_m s 4 d) else [41, 58, 10] ++ w_m c 1 (d + 1)
  | .branch _ c s, 5, d => w_m c 1 (d + 1) ++ w_m s 7 d
  | .branch e c _, 7, d => w_id d ++ (if e % 32 = 6 then wt (e / 32) ++ (32 :: w_m c 2 d) else [101, 108, 115, 101, 58, 10] ++ w_m c 1 (d + 1))
  | .branch _ _ _, _, _ => []
end WRI
section WRL
variable {mk : Nat → Int32} {wt : Nat → List Int32} {w : Nat → Nat} {T : Nat}
/-- what e may still write from its i-th part on -/
def w_r (w : Nat → Nat) (e i : Nat) : Nat :=
  if e % 32 = 23 then (if i = 0 then 2 else 1)
  else if e % 32 = 17 ∨ e % 32 = 18 then (if i ≤ 1 then 2 else 1)
  else if e % 32 = 19 then w (e / 32) + 1
  else if e % 32 = 13 ∨ e % 32 = 16 then (if i = 0 then w (e / 32) + 1 else 0)
  else if 19 < e % 32 then w (e / 32)
  else if i ≤ 1 then w (e / 32) + 2 else 0
theorem w_bf_len (hw : ∀ k, (wt k).length = w k) {e n i : Nat} {c : aB} (hs : b_sh mk e c) (hn : b_len c = n) : (i < n → (w_bf wt e n i).length + w_r w e (i + 1) ≤ w_r w e i + 2) ∧ (i = n → (w_bf wt e n i).length ≤ w_r w e i) := by
  have hk := hs
  unfold b_sh at hk
  rw [hn] at hk
  have hwe := hw (e / 32)
  unfold w_bf w_r
  by_cases k23 : e % 32 = 23
  · simp only [if_pos k23]
    refine ⟨fun h => ?_, fun h => ?_⟩
    · rw [if_neg (show ¬ i + 1 = 0 by omega), if_neg (show ¬ i = n by omega)]
      split <;> split <;> simp <;> omega
    · rw [if_pos h, if_neg (show ¬ (0 < i ∧ i ≠ n) by omega)]
      split <;> simp
  by_cases k17 : e % 32 = 17
  · simp only [if_neg k23, if_pos k17, if_pos (show e % 32 = 17 ∨ e % 32 = 18 from Or.inl k17)]
    refine ⟨fun h => ?_, fun h => ?_⟩
    · rw [if_neg (show ¬ i = n by omega)]
      repeat' split
      all_goals (simp; try omega)
    · rw [if_pos h, if_neg (show ¬ (1 < i ∧ i ≠ n) by omega)]
      repeat' split
      all_goals (simp; try omega)
  by_cases k18 : e % 32 = 18
  · simp only [if_neg k23, if_neg k17, if_pos k18, if_pos (show e % 32 = 17 ∨ e % 32 = 18 from Or.inr k18)]
    refine ⟨fun h => ?_, fun h => ?_⟩
    · repeat' split
      all_goals (simp; try omega)
    · repeat' split
      all_goals (simp; try omega)
  by_cases k19 : e % 32 = 19
  · simp only [if_neg k23, if_neg k17, if_neg k18, if_pos k19, if_neg (show ¬ (e % 32 = 17 ∨ e % 32 = 18) by omega)]
    refine ⟨fun h => ?_, fun h => ?_⟩
    · rw [if_neg (show ¬ i = n by omega)]; simp
    · rw [if_pos h]; simp [hwe]
  by_cases k13 : e % 32 = 13
  · simp only [if_neg k23, if_neg k17, if_neg k18, if_neg k19, if_pos k13, if_neg (show ¬ (e % 32 = 17 ∨ e % 32 = 18) by omega), if_pos (show e % 32 = 13 ∨ e % 32 = 16 from Or.inl k13)]
    refine ⟨fun h => ?_, fun h => ?_⟩
    · rw [if_pos (show i ≠ n by omega), if_neg (show ¬ i + 1 = 0 by omega), if_pos (show i = 0 by omega)]; simp only [List.length_append, hwe, List.length_cons, List.length_nil]; omega
    · rw [if_neg (show ¬ i ≠ n by omega)]; simp
  by_cases k16 : e % 32 = 16
  · simp only [if_neg k23, if_neg k17, if_neg k18, if_neg k19, if_neg k13, if_pos k16, if_neg (show ¬ (e % 32 = 17 ∨ e % 32 = 18) by omega), if_pos (show e % 32 = 13 ∨ e % 32 = 16 from Or.inr k16)]
    refine ⟨fun h => ?_, fun h => ?_⟩
    · rw [if_pos (show i ≠ n by omega), if_neg (show ¬ i + 1 = 0 by omega), if_pos (show i = 0 by omega)]; simp only [List.length_append, hwe, List.length_cons, List.length_nil]; omega
    · rw [if_neg (show ¬ i ≠ n by omega)]; simp
  simp only [if_neg k23, if_neg k17, if_neg k18, if_neg k19, if_neg k13, if_neg k16, if_neg (show ¬ (e % 32 = 17 ∨ e % 32 = 18) by omega), if_neg (show ¬ (e % 32 = 13 ∨ e % 32 = 16) by omega)]
  by_cases ka : 19 < e % 32
  · simp only [if_pos ka]
    refine ⟨fun h => ?_, fun h => ?_⟩
    · omega
    · omega
  · simp only [if_neg ka]
    refine ⟨fun h => ?_, fun h => ?_⟩
    · by_cases i1 : i = 1
      · subst i1; simp [hwe]
      · rw [if_neg i1, if_pos (show i + 1 ≤ 1 by omega), if_pos (show i ≤ 1 by omega)]; simp
    · rw [if_neg (show ¬ i = 1 by omega)]; simp
theorem w_r_le {e i : Nat} (h : 11 ≤ e % 32) : w_r w e i + 4 ≤ b_o w e := by
  unfold w_r b_o
  rw [if_neg (show ¬ e % 32 = 9 by omega), if_neg (show ¬ e % 32 = 5 by omega), if_pos h]
  repeat' split
  all_goals omega
theorem w_bs_len (hw : ∀ k, (wt k).length = w k) : ∀ {F : aB} {e n i : Nat} {c : aB}, b_sh mk e c → b_len c = n → i + b_len F = n → b_ok mk T F → (w_bs mk wt F e n i).length ≤ w_r w e i + b_l w F
  | .leaf _, e, n, i, c, hs, hn, hi, _ => by
    have := (w_bf_len (i := i) hw hs hn).2 (by simpa [b_len] using hi)
    simp only [w_bs, b_l]
    omega
  | .branch e1 c1 s1, e, n, i, c, hs, hn, hi, hok => by
    have h1 := (w_bf_len (i := i) hw hs hn).1 (by simp only [b_len] at hi; omega)
    have h2 := w_bs_len hw (F := c1) (e := e1) (n := b_len c1) (i := 0) hok.1 rfl (by omega) hok.2.2.1
    have h3 := w_bs_len hw (F := s1) (e := e) (n := n) (i := i + 1) hs hn (by simp only [b_len] at hi; omega) hok.2.2.2
    have h4 := w_r_le (w := w) (i := 0) hok.1.ge
    simp only [w_bs, b_l, List.length_append]
    split <;> simp <;> omega
theorem w_e_len (hw : ∀ k, (wt k).length = w k) {e : Nat} {c : aB} (hs : b_sh mk e c) (hok : b_ok mk T c) : (w_e mk wt e c).length + 4 ≤ b_o w e + b_l w c := by
  have h2 := w_bs_len hw (F := c) (e := e) (n := b_len c) (i := 0) hs rfl (by omega) hok
  have h4 := w_r_le (w := w) (i := 0) hs.ge
  unfold w_e
  omega
theorem w_x_len (hw : ∀ k, (wt k).length = w k) {c : aB} (h : b_x mk T c) : (w_x mk wt c).length + 4 ≤ b_l w c := by
  obtain ⟨e1, c1, rfl, h1, h2, h3, h4⟩ := h
  have := w_e_len hw h1 h3
  simp only [w_x, b_l]
  omega
theorem w_id_len {d : Nat} : (w_id d).length = 2 * d := by simp [w_id]
/-- the statements' parts never write more than they weigh -/
theorem w_m_len (hw : ∀ k, (wt k).length = w k) : ∀ {F : aB} {k d : Nat}, b_sk mk T F k → d + b_dp F ≤ 9 → (w_m mk wt F (if k = 4 then 2 else if k = 6 then 5 else k) d).length ≤ b_l w F + (if k = 2 ∨ k = 4 then 2 else 0) ∧ (k = 3 → (w_m mk wt F 4 d).length ≤ b_l w F)
  | .leaf _, k, d, h, _ => by
    unfold b_sk at h
    subst h
    simp [w_m]
  | .branch e c s, 0, d, h, _ => by unfold b_sk at h; exact h.elim
  | .branch e c s, 1, d, h, hd => by
    unfold b_sk at h
    simp only [b_dp] at hd
    obtain ⟨h1, h2, h3⟩ := h
    have hs : (w_m mk wt s 1 d).length ≤ b_l w s := by simpa using (w_m_len hw (d := d) h1 (by omega)).1
    suffices hg : (w_m mk wt (.branch e c s) 1 d).length ≤ b_l w (.branch e c s) from ⟨by simpa using hg, fun z => by omega⟩
    have hwe := hw (e / 32)
    simp only [w_m, b_l, List.length_append, w_id_len]
    have small : ∀ {n : Nat}, n = e % 32 → n = 1 ∨ n = 2 ∨ n = 3 ∨ n = 4 ∨ n = 5 → (c = b_0 ∧ n ≠ 5 ∨ b_x mk T c) → 2 * d + ((if e % 32 = 6 ∨ e % 32 = 7 then wt (e / 32) ++ (32 :: w_m mk wt c 2 d) else if e % 32 = 8 then [100, 101, 102, 32] ++ (wt (e / 32) ++ (40 :: w_m mk wt c 3 d)) else w_sm mk wt e c).length + (w_m mk wt s 1 d).length) ≤ b_o w e + b_l w c + b_l w s := by
      intro n hn hn5 hc
      rw [if_neg (by omega), if_neg (by omega)]
      have hx : (w_x mk wt c).length ≤ b_l w c := by
        rcases hc with ⟨rfl, -⟩ | hc
        · simp [w_x]
        · have := w_x_len hw hc; omega
      unfold w_sm b_o
      rw [if_neg (show ¬ e % 32 = 9 by omega), if_neg (show ¬ 11 ≤ e % 32 by omega)]
      by_cases c5 : e % 32 = 5
      · rw [if_pos c5, if_pos c5, if_neg (by omega), if_neg (by omega)]
        simp
        omega
      · rw [if_neg c5, if_neg c5]
        simp only [List.length_append, hwe]
        split <;> split <;> simp <;> omega
    rcases h3 with z | z | z | z | z | z | z | z
    · exact small z.1.symm (by decide) (Or.inl ⟨z.2.2, by decide⟩)
    · exact small z.1.symm (by decide) (Or.inl ⟨z.2.2, by decide⟩)
    · exact small z.1.symm (by decide) (z.2.2.imp (fun q => ⟨q, by decide⟩) id)
    · exact small z.1.symm (by decide) (Or.inr z.2)
    · exact small z.1.symm (by decide) (Or.inr z.2.1)
    · have hc := (w_m_len hw (d := d) z.2.2 (by omega)).1
      simp at hc
      rw [if_pos (Or.inl z.1)]
      unfold b_o
      rw [if_neg (by omega), if_neg (by omega), if_neg (by omega)]
      simp [hwe]
      omega
    · have hc := (w_m_len hw (d := d) z.2.2 (by omega)).1
      simp at hc
      rw [if_pos (Or.inr z.1)]
      unfold b_o
      rw [if_neg (by omega), if_neg (by omega), if_neg (by omega)]
      simp [hwe]
      omega
    · have hc := (w_m_len hw (d := d) z.2 (by omega)).1
      simp at hc
      rw [if_neg (by omega), if_pos z.1]
      unfold b_o
      rw [if_neg (by omega), if_neg (by omega), if_neg (by omega)]
      simp [hwe]
      omega
  | .branch e c s, 2, d, h, hd => by
    unfold b_sk at h
    simp only [b_dp] at hd
    have hs := (w_m_len hw (d := d) h.2.2.2.2 (by omega)).1
    have hx := w_e_len hw h.1 h.2.2.1
    simp at hs
    refine ⟨?_, fun z => by omega⟩
    simp [w_m, b_l]
    omega
  | .branch e c s, 3, d, h, hd => by
    unfold b_sk at h
    simp only [b_dp] at hd
    have hwe := hw (e / 32)
    rcases h with z | z
    · have hs := (w_m_len hw (d := d) z.2.2.2 (by omega)).2 rfl
      have ho : b_o w e = w (e / 32) + 6 := by
        unfold b_o
        rw [if_neg (by omega), if_neg (by omega), if_pos (by omega)]
      simp [w_m, b_l, z.1, hwe, ho]
      omega
    · rw [if_pos z.1] at hd
      have hc := (w_m_len hw (d := d + 1) z.2.2.2.1 (by omega)).1
      simp at hc
      simp [w_m, b_l, z.1, b_o_9 z.1]
      omega
  | .branch e c s, 4, d, h, hd => by
    unfold b_sk at h
    simp only [b_dp] at hd
    have hs := (w_m_len hw (d := d) h.2.2.2.2 (by omega)).1
    have hx := w_e_len hw h.1 h.2.2.1
    simp at hs
    refine ⟨?_, fun z => by omega⟩
    simp [w_m, b_l]
    omega
  | .branch e c s, 5, d, h, hd => by
    unfold b_sk at h
    simp only [b_dp, if_pos h.1] at hd
    have hc := (w_m_len hw (d := d + 1) h.2.2.2.1 (by omega)).1
    refine ⟨?_, fun z => by omega⟩
    have hs : (w_m mk wt s 7 d).length ≤ b_l w s := by
      rcases h.2.2.2.2 with z | z
      · rw [z]; simp [w_m]
      · have := (w_m_len hw (d := d) z (by omega)).1
        simpa using this
    simp at hc
    simp [w_m, b_l]
    omega
  | .branch e c s, 6, d, h, hd => by
    unfold b_sk at h
    simp only [b_dp, if_pos h.1] at hd
    have hc := (w_m_len hw (d := d + 1) h.2.2.2.1 (by omega)).1
    refine ⟨?_, fun z => by omega⟩
    rw [h.2.2.2.2]
    simp at hc
    simp [w_m, b_l]
    omega
  | .branch e c s, 7, d, h, hd => by
    unfold b_sk at h
    simp only [b_dp] at hd
    have hwe := hw (e / 32)
    refine ⟨?_, fun z => by omega⟩
    rcases h.2 with z | z
    · have hc := (w_m_len hw (d := d) z.2.2.2 (by omega)).1
      have ho : b_o w e = w (e / 32) + 26 := by
        unfold b_o
        rw [if_neg (by omega), if_neg (by omega), if_neg (by omega)]
      simp at hc
      simp [w_m, b_l, w_id_len, z.1, hwe, ho]
      omega
    · rw [if_pos z.1] at hd
      have hc := (w_m_len hw (d := d + 1) z.2.2.2 (by omega)).1
      simp at hc
      simp [w_m, b_l, w_id_len, z.1, b_o_9 z.1]
      omega
  | .branch e c s, _ + 8, d, h, _ => by unfold b_sk at h; exact h.elim
end WRL
