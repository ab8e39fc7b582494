/-! WORDS by their codes -/
section MWD
variable {tx : Nat → Int32} {n p : Nat}
/-- the code of a name's first j characters -/
def m_nc (tx : Nat → Int32) (p : Nat) : Nat → Int64
  | 0 => 0
  | j + 1 => if j < 7 then m_nc tx p j * 256 + (tx (p + j)).toInt64 else 0
def n_nc (cs : Nat → Nat) : Nat → Nat
  | 0 => 0
  | j + 1 => n_nc cs j * 256 + cs j
theorem n_nc_lt {cs : Nat → Nat} : ∀ {j : Nat}, (∀ i, i < j → cs i < 128) → n_nc cs j < 256 ^ j
  | 0, _ => by simp [n_nc]
  | j + 1, h => by
    have h1 := n_nc_lt (j := j) (fun i hi => h i (by omega))
    have h2 := h j (by omega)
    simp only [n_nc, Nat.pow_succ]
    omega
theorem m_nc_n {cs : Nat → Nat} : ∀ {j : Nat}, j ≤ 7 → (∀ i, i < j → tx (p + i) = nI (cs i) ∧ cs i < 128) → m_nc tx p j = Int64.ofNat (n_nc cs j)
  | 0, _, _ => rfl
  | j + 1, hj, h => by
    have h1 := m_nc_n (j := j) (by omega) (fun i hi => h i (by omega))
    have h2 := h j (by omega)
    unfold m_nc n_nc
    rw [if_pos (by omega), h1, h2.1, Int64.ofNat_add, Int64.ofNat_mul]
    congr 1
    exact nI_l (by omega)
theorem m_nc_0 : ∀ {j : Nat}, 8 ≤ j → m_nc tx p j = 0
  | 0, h => by omega
  | j + 1, h => by
    unfold m_nc
    rw [if_neg (by omega)]
theorem m_nc_k {cs : Nat → Nat} {j k : Nat} (hj : j ≤ 7) (h : ∀ i, i < j → tx (p + i) = nI (cs i) ∧ cs i < 128) (hk : k < 2 ^ 62) : m_nc tx p j = Int64.ofNat k ↔ n_nc cs j = k := by
  have hlt := n_nc_lt (cs := cs) (j := j) (fun i hi => (h i hi).2)
  have h7 : 256 ^ j ≤ 256 ^ 7 := Nat.pow_le_pow_right (by decide) hj
  have h8 : (256 : Nat) ^ 7 = 72057594037927936 := by decide
  rw [m_nc_n hj h]
  refine ⟨fun z => ?_, fun z => by rw [z]⟩
  have := congrArg Int64.toInt z
  rw [Int64.toInt_ofNat_of_lt (by omega), Int64.toInt_ofNat_of_lt (by omega)] at this
  omega
theorem s_rd_iff {i p : Nat} : ∀ (f j : Nat), s_rd tx n i p f j = true ↔ ∀ q, q < f → am_chr i (j + q) = s_ch tx n (p + (j + q))
  | 0, j => ⟨fun _ q hq => absurd hq (Nat.not_lt_zero _), fun _ => rfl⟩
  | f + 1, j => by
    unfold s_rd
    by_cases c1 : am_chr i j = s_ch tx n (p + j)
    · rw [if_pos c1, s_rd_iff f (j + 1)]
      refine ⟨fun h q hq => ?_, fun h q hq => ?_⟩
      · cases q with
        | zero => exact c1
        | succ q =>
          have := h q (by omega)
          rw [show j + 1 + q = j + (q + 1) from by omega] at this
          exact this
      · have := h (q + 1) (by omega)
        rw [show j + (q + 1) = j + 1 + q from by omega] at this
        exact this
    · rw [if_neg c1]
      exact ⟨fun z => (by cases z), fun h => absurd (h 0 (by omega)) c1⟩
theorem m_is4 {cs : Nat → Nat} {L : Nat} (hL : 1 ≤ L) (hn : p + L ≤ n) (h : ∀ i, i < L → tx (p + i) = nI (cs i) ∧ 48 ≤ cs i ∧ cs i < 128) : s_is tx n 4 p L = true ↔ m_nc tx p L = Int64.ofNat 26982 := by
  have hl0 : am_sl.getD 4 0 = 2 := rfl
  unfold s_is
  rw [hl0]
  by_cases h7 : 8 ≤ L
  · rw [m_nc_0 h7, if_neg (by omega)]
    exact ⟨fun z => (by cases z), fun z => absurd z (by decide)⟩
  rw [m_nc_k (by omega) (fun i hi => ⟨(h i hi).1, (h i hi).2.2⟩) (by decide)]
  by_cases hl : 2 = L
  · subst hl
    rw [if_pos rfl, s_rd_iff]
    have b0 := h 0 (by decide)
    have c0 : s_ch tx n (p + (0 + 0)) = nI (cs 0) := by
      unfold s_ch
      rw [if_pos (by omega), show p + (0 + 0) = p + 0 from by omega]
      exact b0.1
    have a0 : am_chr 4 (0 + 0) = nI 105 := rfl
    have b1 := h 1 (by decide)
    have c1 : s_ch tx n (p + (0 + 1)) = nI (cs 1) := by
      unfold s_ch
      rw [if_pos (by omega), show p + (0 + 1) = p + 1 from by omega]
      exact b1.1
    have a1 : am_chr 4 (0 + 1) = nI 102 := rfl
    simp only [n_nc]
    refine ⟨fun z => ?_, fun z q hq => ?_⟩
    · have d0 := nI_inj (by decide) (by omega) ((a0.symm.trans (z 0 (by decide))).trans c0)
      have d1 := nI_inj (by decide) (by omega) ((a1.symm.trans (z 1 (by decide))).trans c1)
      omega
    · have dd : cs 0 = 105 ∧ cs 1 = 102 := by omega
      rcases (by omega : q = 0 ∨ q = 1) with rfl | rfl
      · rw [a0, c0, dd.1]
      · rw [a1, c1, dd.2]
  · rw [if_neg hl]
    refine ⟨fun z => (by cases z), fun z => ?_⟩
    exfalso
    rcases (by omega : L = 1 ∨ L = 2 ∨ L = 3 ∨ L = 4 ∨ L = 5 ∨ L = 6 ∨ L = 7) with rfl | rfl | rfl | rfl | rfl | rfl | rfl
    · have b0 := (h 0 (by decide)).2; simp only [n_nc] at z; omega
    · have b0 := (h 0 (by decide)).2; have b1 := (h 1 (by decide)).2; simp only [n_nc] at z; omega
    · have b0 := (h 0 (by decide)).2; have b1 := (h 1 (by decide)).2; have b2 := (h 2 (by decide)).2; simp only [n_nc] at z; omega
    · have b0 := (h 0 (by decide)).2; have b1 := (h 1 (by decide)).2; have b2 := (h 2 (by decide)).2; have b3 := (h 3 (by decide)).2; simp only [n_nc] at z; omega
    · have b0 := (h 0 (by decide)).2; have b1 := (h 1 (by decide)).2; have b2 := (h 2 (by decide)).2; have b3 := (h 3 (by decide)).2; have b4 := (h 4 (by decide)).2; simp only [n_nc] at z; omega
    · have b0 := (h 0 (by decide)).2; have b1 := (h 1 (by decide)).2; have b2 := (h 2 (by decide)).2; have b3 := (h 3 (by decide)).2; have b4 := (h 4 (by decide)).2; have b5 := (h 5 (by decide)).2; simp only [n_nc] at z; omega
    · have b0 := (h 0 (by decide)).2; have b1 := (h 1 (by decide)).2; have b2 := (h 2 (by decide)).2; have b3 := (h 3 (by decide)).2; have b4 := (h 4 (by decide)).2; have b5 := (h 5 (by decide)).2; have b6 := (h 6 (by decide)).2; simp only [n_nc] at z; omega
theorem m_is5 {cs : Nat → Nat} {L : Nat} (hL : 1 ≤ L) (hn : p + L ≤ n) (h : ∀ i, i < L → tx (p + i) = nI (cs i) ∧ 48 ≤ cs i ∧ cs i < 128) : s_is tx n 5 p L = true ↔ m_nc tx p L = Int64.ofNat 1701603686 := by
  have hl0 : am_sl.getD 5 0 = 4 := rfl
  unfold s_is
  rw [hl0]
  by_cases h7 : 8 ≤ L
  · rw [m_nc_0 h7, if_neg (by omega)]
    exact ⟨fun z => (by cases z), fun z => absurd z (by decide)⟩
  rw [m_nc_k (by omega) (fun i hi => ⟨(h i hi).1, (h i hi).2.2⟩) (by decide)]
  by_cases hl : 4 = L
  · subst hl
    rw [if_pos rfl, s_rd_iff]
    have b0 := h 0 (by decide)
    have c0 : s_ch tx n (p + (0 + 0)) = nI (cs 0) := by
      unfold s_ch
      rw [if_pos (by omega), show p + (0 + 0) = p + 0 from by omega]
      exact b0.1
    have a0 : am_chr 5 (0 + 0) = nI 101 := rfl
    have b1 := h 1 (by decide)
    have c1 : s_ch tx n (p + (0 + 1)) = nI (cs 1) := by
      unfold s_ch
      rw [if_pos (by omega), show p + (0 + 1) = p + 1 from by omega]
      exact b1.1
    have a1 : am_chr 5 (0 + 1) = nI 108 := rfl
    have b2 := h 2 (by decide)
    have c2 : s_ch tx n (p + (0 + 2)) = nI (cs 2) := by
      unfold s_ch
      rw [if_pos (by omega), show p + (0 + 2) = p + 2 from by omega]
      exact b2.1
    have a2 : am_chr 5 (0 + 2) = nI 105 := rfl
    have b3 := h 3 (by decide)
    have c3 : s_ch tx n (p + (0 + 3)) = nI (cs 3) := by
      unfold s_ch
      rw [if_pos (by omega), show p + (0 + 3) = p + 3 from by omega]
      exact b3.1
    have a3 : am_chr 5 (0 + 3) = nI 102 := rfl
    simp only [n_nc]
    refine ⟨fun z => ?_, fun z q hq => ?_⟩
    · have d0 := nI_inj (by decide) (by omega) ((a0.symm.trans (z 0 (by decide))).trans c0)
      have d1 := nI_inj (by decide) (by omega) ((a1.symm.trans (z 1 (by decide))).trans c1)
      have d2 := nI_inj (by decide) (by omega) ((a2.symm.trans (z 2 (by decide))).trans c2)
      have d3 := nI_inj (by decide) (by omega) ((a3.symm.trans (z 3 (by decide))).trans c3)
      omega
    · have dd : cs 0 = 101 ∧ cs 1 = 108 ∧ cs 2 = 105 ∧ cs 3 = 102 := by omega
      rcases (by omega : q = 0 ∨ q = 1 ∨ q = 2 ∨ q = 3) with rfl | rfl | rfl | rfl
      · rw [a0, c0, dd.1]
      · rw [a1, c1, dd.2.1]
      · rw [a2, c2, dd.2.2.1]
      · rw [a3, c3, dd.2.2.2]
  · rw [if_neg hl]
    refine ⟨fun z => (by cases z), fun z => ?_⟩
    exfalso
    rcases (by omega : L = 1 ∨ L = 2 ∨ L = 3 ∨ L = 4 ∨ L = 5 ∨ L = 6 ∨ L = 7) with rfl | rfl | rfl | rfl | rfl | rfl | rfl
    · have b0 := (h 0 (by decide)).2; simp only [n_nc] at z; omega
    · have b0 := (h 0 (by decide)).2; have b1 := (h 1 (by decide)).2; simp only [n_nc] at z; omega
    · have b0 := (h 0 (by decide)).2; have b1 := (h 1 (by decide)).2; have b2 := (h 2 (by decide)).2; simp only [n_nc] at z; omega
    · have b0 := (h 0 (by decide)).2; have b1 := (h 1 (by decide)).2; have b2 := (h 2 (by decide)).2; have b3 := (h 3 (by decide)).2; simp only [n_nc] at z; omega
    · have b0 := (h 0 (by decide)).2; have b1 := (h 1 (by decide)).2; have b2 := (h 2 (by decide)).2; have b3 := (h 3 (by decide)).2; have b4 := (h 4 (by decide)).2; simp only [n_nc] at z; omega
    · have b0 := (h 0 (by decide)).2; have b1 := (h 1 (by decide)).2; have b2 := (h 2 (by decide)).2; have b3 := (h 3 (by decide)).2; have b4 := (h 4 (by decide)).2; have b5 := (h 5 (by decide)).2; simp only [n_nc] at z; omega
    · have b0 := (h 0 (by decide)).2; have b1 := (h 1 (by decide)).2; have b2 := (h 2 (by decide)).2; have b3 := (h 3 (by decide)).2; have b4 := (h 4 (by decide)).2; have b5 := (h 5 (by decide)).2; have b6 := (h 6 (by decide)).2; simp only [n_nc] at z; omega
theorem m_is6 {cs : Nat → Nat} {L : Nat} (hL : 1 ≤ L) (hn : p + L ≤ n) (h : ∀ i, i < L → tx (p + i) = nI (cs i) ∧ 48 ≤ cs i ∧ cs i < 128) : s_is tx n 6 p L = true ↔ m_nc tx p L = Int64.ofNat 1701606245 := by
  have hl0 : am_sl.getD 6 0 = 4 := rfl
  unfold s_is
  rw [hl0]
  by_cases h7 : 8 ≤ L
  · rw [m_nc_0 h7, if_neg (by omega)]
    exact ⟨fun z => (by cases z), fun z => absurd z (by decide)⟩
  rw [m_nc_k (by omega) (fun i hi => ⟨(h i hi).1, (h i hi).2.2⟩) (by decide)]
  by_cases hl : 4 = L
  · subst hl
    rw [if_pos rfl, s_rd_iff]
    have b0 := h 0 (by decide)
    have c0 : s_ch tx n (p + (0 + 0)) = nI (cs 0) := by
      unfold s_ch
      rw [if_pos (by omega), show p + (0 + 0) = p + 0 from by omega]
      exact b0.1
    have a0 : am_chr 6 (0 + 0) = nI 101 := rfl
    have b1 := h 1 (by decide)
    have c1 : s_ch tx n (p + (0 + 1)) = nI (cs 1) := by
      unfold s_ch
      rw [if_pos (by omega), show p + (0 + 1) = p + 1 from by omega]
      exact b1.1
    have a1 : am_chr 6 (0 + 1) = nI 108 := rfl
    have b2 := h 2 (by decide)
    have c2 : s_ch tx n (p + (0 + 2)) = nI (cs 2) := by
      unfold s_ch
      rw [if_pos (by omega), show p + (0 + 2) = p + 2 from by omega]
      exact b2.1
    have a2 : am_chr 6 (0 + 2) = nI 115 := rfl
    have b3 := h 3 (by decide)
    have c3 : s_ch tx n (p + (0 + 3)) = nI (cs 3) := by
      unfold s_ch
      rw [if_pos (by omega), show p + (0 + 3) = p + 3 from by omega]
      exact b3.1
    have a3 : am_chr 6 (0 + 3) = nI 101 := rfl
    simp only [n_nc]
    refine ⟨fun z => ?_, fun z q hq => ?_⟩
    · have d0 := nI_inj (by decide) (by omega) ((a0.symm.trans (z 0 (by decide))).trans c0)
      have d1 := nI_inj (by decide) (by omega) ((a1.symm.trans (z 1 (by decide))).trans c1)
      have d2 := nI_inj (by decide) (by omega) ((a2.symm.trans (z 2 (by decide))).trans c2)
      have d3 := nI_inj (by decide) (by omega) ((a3.symm.trans (z 3 (by decide))).trans c3)
      omega
    · have dd : cs 0 = 101 ∧ cs 1 = 108 ∧ cs 2 = 115 ∧ cs 3 = 101 := by omega
      rcases (by omega : q = 0 ∨ q = 1 ∨ q = 2 ∨ q = 3) with rfl | rfl | rfl | rfl
      · rw [a0, c0, dd.1]
      · rw [a1, c1, dd.2.1]
      · rw [a2, c2, dd.2.2.1]
      · rw [a3, c3, dd.2.2.2]
  · rw [if_neg hl]
    refine ⟨fun z => (by cases z), fun z => ?_⟩
    exfalso
    rcases (by omega : L = 1 ∨ L = 2 ∨ L = 3 ∨ L = 4 ∨ L = 5 ∨ L = 6 ∨ L = 7) with rfl | rfl | rfl | rfl | rfl | rfl | rfl
    · have b0 := (h 0 (by decide)).2; simp only [n_nc] at z; omega
    · have b0 := (h 0 (by decide)).2; have b1 := (h 1 (by decide)).2; simp only [n_nc] at z; omega
    · have b0 := (h 0 (by decide)).2; have b1 := (h 1 (by decide)).2; have b2 := (h 2 (by decide)).2; simp only [n_nc] at z; omega
    · have b0 := (h 0 (by decide)).2; have b1 := (h 1 (by decide)).2; have b2 := (h 2 (by decide)).2; have b3 := (h 3 (by decide)).2; simp only [n_nc] at z; omega
    · have b0 := (h 0 (by decide)).2; have b1 := (h 1 (by decide)).2; have b2 := (h 2 (by decide)).2; have b3 := (h 3 (by decide)).2; have b4 := (h 4 (by decide)).2; simp only [n_nc] at z; omega
    · have b0 := (h 0 (by decide)).2; have b1 := (h 1 (by decide)).2; have b2 := (h 2 (by decide)).2; have b3 := (h 3 (by decide)).2; have b4 := (h 4 (by decide)).2; have b5 := (h 5 (by decide)).2; simp only [n_nc] at z; omega
    · have b0 := (h 0 (by decide)).2; have b1 := (h 1 (by decide)).2; have b2 := (h 2 (by decide)).2; have b3 := (h 3 (by decide)).2; have b4 := (h 4 (by decide)).2; have b5 := (h 5 (by decide)).2; have b6 := (h 6 (by decide)).2; simp only [n_nc] at z; omega
theorem m_is7 {cs : Nat → Nat} {L : Nat} (hL : 1 ≤ L) (hn : p + L ≤ n) (h : ∀ i, i < L → tx (p + i) = nI (cs i) ∧ 48 ≤ cs i ∧ cs i < 128) : s_is tx n 7 p L = true ↔ m_nc tx p L = Int64.ofNat 512852847717 := by
  have hl0 : am_sl.getD 7 0 = 5 := rfl
  unfold s_is
  rw [hl0]
  by_cases h7 : 8 ≤ L
  · rw [m_nc_0 h7, if_neg (by omega)]
    exact ⟨fun z => (by cases z), fun z => absurd z (by decide)⟩
  rw [m_nc_k (by omega) (fun i hi => ⟨(h i hi).1, (h i hi).2.2⟩) (by decide)]
  by_cases hl : 5 = L
  · subst hl
    rw [if_pos rfl, s_rd_iff]
    have b0 := h 0 (by decide)
    have c0 : s_ch tx n (p + (0 + 0)) = nI (cs 0) := by
      unfold s_ch
      rw [if_pos (by omega), show p + (0 + 0) = p + 0 from by omega]
      exact b0.1
    have a0 : am_chr 7 (0 + 0) = nI 119 := rfl
    have b1 := h 1 (by decide)
    have c1 : s_ch tx n (p + (0 + 1)) = nI (cs 1) := by
      unfold s_ch
      rw [if_pos (by omega), show p + (0 + 1) = p + 1 from by omega]
      exact b1.1
    have a1 : am_chr 7 (0 + 1) = nI 104 := rfl
    have b2 := h 2 (by decide)
    have c2 : s_ch tx n (p + (0 + 2)) = nI (cs 2) := by
      unfold s_ch
      rw [if_pos (by omega), show p + (0 + 2) = p + 2 from by omega]
      exact b2.1
    have a2 : am_chr 7 (0 + 2) = nI 105 := rfl
    have b3 := h 3 (by decide)
    have c3 : s_ch tx n (p + (0 + 3)) = nI (cs 3) := by
      unfold s_ch
      rw [if_pos (by omega), show p + (0 + 3) = p + 3 from by omega]
      exact b3.1
    have a3 : am_chr 7 (0 + 3) = nI 108 := rfl
    have b4 := h 4 (by decide)
    have c4 : s_ch tx n (p + (0 + 4)) = nI (cs 4) := by
      unfold s_ch
      rw [if_pos (by omega), show p + (0 + 4) = p + 4 from by omega]
      exact b4.1
    have a4 : am_chr 7 (0 + 4) = nI 101 := rfl
    simp only [n_nc]
    refine ⟨fun z => ?_, fun z q hq => ?_⟩
    · have d0 := nI_inj (by decide) (by omega) ((a0.symm.trans (z 0 (by decide))).trans c0)
      have d1 := nI_inj (by decide) (by omega) ((a1.symm.trans (z 1 (by decide))).trans c1)
      have d2 := nI_inj (by decide) (by omega) ((a2.symm.trans (z 2 (by decide))).trans c2)
      have d3 := nI_inj (by decide) (by omega) ((a3.symm.trans (z 3 (by decide))).trans c3)
      have d4 := nI_inj (by decide) (by omega) ((a4.symm.trans (z 4 (by decide))).trans c4)
      omega
    · have dd : cs 0 = 119 ∧ cs 1 = 104 ∧ cs 2 = 105 ∧ cs 3 = 108 ∧ cs 4 = 101 := by omega
      rcases (by omega : q = 0 ∨ q = 1 ∨ q = 2 ∨ q = 3 ∨ q = 4) with rfl | rfl | rfl | rfl | rfl
      · rw [a0, c0, dd.1]
      · rw [a1, c1, dd.2.1]
      · rw [a2, c2, dd.2.2.1]
      · rw [a3, c3, dd.2.2.2.1]
      · rw [a4, c4, dd.2.2.2.2]
  · rw [if_neg hl]
    refine ⟨fun z => (by cases z), fun z => ?_⟩
    exfalso
    rcases (by omega : L = 1 ∨ L = 2 ∨ L = 3 ∨ L = 4 ∨ L = 5 ∨ L = 6 ∨ L = 7) with rfl | rfl | rfl | rfl | rfl | rfl | rfl
    · have b0 := (h 0 (by decide)).2; simp only [n_nc] at z; omega
    · have b0 := (h 0 (by decide)).2; have b1 := (h 1 (by decide)).2; simp only [n_nc] at z; omega
    · have b0 := (h 0 (by decide)).2; have b1 := (h 1 (by decide)).2; have b2 := (h 2 (by decide)).2; simp only [n_nc] at z; omega
    · have b0 := (h 0 (by decide)).2; have b1 := (h 1 (by decide)).2; have b2 := (h 2 (by decide)).2; have b3 := (h 3 (by decide)).2; simp only [n_nc] at z; omega
    · have b0 := (h 0 (by decide)).2; have b1 := (h 1 (by decide)).2; have b2 := (h 2 (by decide)).2; have b3 := (h 3 (by decide)).2; have b4 := (h 4 (by decide)).2; simp only [n_nc] at z; omega
    · have b0 := (h 0 (by decide)).2; have b1 := (h 1 (by decide)).2; have b2 := (h 2 (by decide)).2; have b3 := (h 3 (by decide)).2; have b4 := (h 4 (by decide)).2; have b5 := (h 5 (by decide)).2; simp only [n_nc] at z; omega
    · have b0 := (h 0 (by decide)).2; have b1 := (h 1 (by decide)).2; have b2 := (h 2 (by decide)).2; have b3 := (h 3 (by decide)).2; have b4 := (h 4 (by decide)).2; have b5 := (h 5 (by decide)).2; have b6 := (h 6 (by decide)).2; simp only [n_nc] at z; omega
theorem m_is8 {cs : Nat → Nat} {L : Nat} (hL : 1 ≤ L) (hn : p + L ≤ n) (h : ∀ i, i < L → tx (p + i) = nI (cs i) ∧ 48 ≤ cs i ∧ cs i < 128) : s_is tx n 8 p L = true ↔ m_nc tx p L = Int64.ofNat 6579558 := by
  have hl0 : am_sl.getD 8 0 = 3 := rfl
  unfold s_is
  rw [hl0]
  by_cases h7 : 8 ≤ L
  · rw [m_nc_0 h7, if_neg (by omega)]
    exact ⟨fun z => (by cases z), fun z => absurd z (by decide)⟩
  rw [m_nc_k (by omega) (fun i hi => ⟨(h i hi).1, (h i hi).2.2⟩) (by decide)]
  by_cases hl : 3 = L
  · subst hl
    rw [if_pos rfl, s_rd_iff]
    have b0 := h 0 (by decide)
    have c0 : s_ch tx n (p + (0 + 0)) = nI (cs 0) := by
      unfold s_ch
      rw [if_pos (by omega), show p + (0 + 0) = p + 0 from by omega]
      exact b0.1
    have a0 : am_chr 8 (0 + 0) = nI 100 := rfl
    have b1 := h 1 (by decide)
    have c1 : s_ch tx n (p + (0 + 1)) = nI (cs 1) := by
      unfold s_ch
      rw [if_pos (by omega), show p + (0 + 1) = p + 1 from by omega]
      exact b1.1
    have a1 : am_chr 8 (0 + 1) = nI 101 := rfl
    have b2 := h 2 (by decide)
    have c2 : s_ch tx n (p + (0 + 2)) = nI (cs 2) := by
      unfold s_ch
      rw [if_pos (by omega), show p + (0 + 2) = p + 2 from by omega]
      exact b2.1
    have a2 : am_chr 8 (0 + 2) = nI 102 := rfl
    simp only [n_nc]
    refine ⟨fun z => ?_, fun z q hq => ?_⟩
    · have d0 := nI_inj (by decide) (by omega) ((a0.symm.trans (z 0 (by decide))).trans c0)
      have d1 := nI_inj (by decide) (by omega) ((a1.symm.trans (z 1 (by decide))).trans c1)
      have d2 := nI_inj (by decide) (by omega) ((a2.symm.trans (z 2 (by decide))).trans c2)
      omega
    · have dd : cs 0 = 100 ∧ cs 1 = 101 ∧ cs 2 = 102 := by omega
      rcases (by omega : q = 0 ∨ q = 1 ∨ q = 2) with rfl | rfl | rfl
      · rw [a0, c0, dd.1]
      · rw [a1, c1, dd.2.1]
      · rw [a2, c2, dd.2.2]
  · rw [if_neg hl]
    refine ⟨fun z => (by cases z), fun z => ?_⟩
    exfalso
    rcases (by omega : L = 1 ∨ L = 2 ∨ L = 3 ∨ L = 4 ∨ L = 5 ∨ L = 6 ∨ L = 7) with rfl | rfl | rfl | rfl | rfl | rfl | rfl
    · have b0 := (h 0 (by decide)).2; simp only [n_nc] at z; omega
    · have b0 := (h 0 (by decide)).2; have b1 := (h 1 (by decide)).2; simp only [n_nc] at z; omega
    · have b0 := (h 0 (by decide)).2; have b1 := (h 1 (by decide)).2; have b2 := (h 2 (by decide)).2; simp only [n_nc] at z; omega
    · have b0 := (h 0 (by decide)).2; have b1 := (h 1 (by decide)).2; have b2 := (h 2 (by decide)).2; have b3 := (h 3 (by decide)).2; simp only [n_nc] at z; omega
    · have b0 := (h 0 (by decide)).2; have b1 := (h 1 (by decide)).2; have b2 := (h 2 (by decide)).2; have b3 := (h 3 (by decide)).2; have b4 := (h 4 (by decide)).2; simp only [n_nc] at z; omega
    · have b0 := (h 0 (by decide)).2; have b1 := (h 1 (by decide)).2; have b2 := (h 2 (by decide)).2; have b3 := (h 3 (by decide)).2; have b4 := (h 4 (by decide)).2; have b5 := (h 5 (by decide)).2; simp only [n_nc] at z; omega
    · have b0 := (h 0 (by decide)).2; have b1 := (h 1 (by decide)).2; have b2 := (h 2 (by decide)).2; have b3 := (h 3 (by decide)).2; have b4 := (h 4 (by decide)).2; have b5 := (h 5 (by decide)).2; have b6 := (h 6 (by decide)).2; simp only [n_nc] at z; omega
theorem m_is9 {cs : Nat → Nat} {L : Nat} (hL : 1 ≤ L) (hn : p + L ≤ n) (h : ∀ i, i < L → tx (p + i) = nI (cs i) ∧ 48 ≤ cs i ∧ cs i < 128) : s_is tx n 9 p L = true ↔ m_nc tx p L = Int64.ofNat 125780071117422 := by
  have hl0 : am_sl.getD 9 0 = 6 := rfl
  unfold s_is
  rw [hl0]
  by_cases h7 : 8 ≤ L
  · rw [m_nc_0 h7, if_neg (by omega)]
    exact ⟨fun z => (by cases z), fun z => absurd z (by decide)⟩
  rw [m_nc_k (by omega) (fun i hi => ⟨(h i hi).1, (h i hi).2.2⟩) (by decide)]
  by_cases hl : 6 = L
  · subst hl
    rw [if_pos rfl, s_rd_iff]
    have b0 := h 0 (by decide)
    have c0 : s_ch tx n (p + (0 + 0)) = nI (cs 0) := by
      unfold s_ch
      rw [if_pos (by omega), show p + (0 + 0) = p + 0 from by omega]
      exact b0.1
    have a0 : am_chr 9 (0 + 0) = nI 114 := rfl
    have b1 := h 1 (by decide)
    have c1 : s_ch tx n (p + (0 + 1)) = nI (cs 1) := by
      unfold s_ch
      rw [if_pos (by omega), show p + (0 + 1) = p + 1 from by omega]
      exact b1.1
    have a1 : am_chr 9 (0 + 1) = nI 101 := rfl
    have b2 := h 2 (by decide)
    have c2 : s_ch tx n (p + (0 + 2)) = nI (cs 2) := by
      unfold s_ch
      rw [if_pos (by omega), show p + (0 + 2) = p + 2 from by omega]
      exact b2.1
    have a2 : am_chr 9 (0 + 2) = nI 116 := rfl
    have b3 := h 3 (by decide)
    have c3 : s_ch tx n (p + (0 + 3)) = nI (cs 3) := by
      unfold s_ch
      rw [if_pos (by omega), show p + (0 + 3) = p + 3 from by omega]
      exact b3.1
    have a3 : am_chr 9 (0 + 3) = nI 117 := rfl
    have b4 := h 4 (by decide)
    have c4 : s_ch tx n (p + (0 + 4)) = nI (cs 4) := by
      unfold s_ch
      rw [if_pos (by omega), show p + (0 + 4) = p + 4 from by omega]
      exact b4.1
    have a4 : am_chr 9 (0 + 4) = nI 114 := rfl
    have b5 := h 5 (by decide)
    have c5 : s_ch tx n (p + (0 + 5)) = nI (cs 5) := by
      unfold s_ch
      rw [if_pos (by omega), show p + (0 + 5) = p + 5 from by omega]
      exact b5.1
    have a5 : am_chr 9 (0 + 5) = nI 110 := rfl
    simp only [n_nc]
    refine ⟨fun z => ?_, fun z q hq => ?_⟩
    · have d0 := nI_inj (by decide) (by omega) ((a0.symm.trans (z 0 (by decide))).trans c0)
      have d1 := nI_inj (by decide) (by omega) ((a1.symm.trans (z 1 (by decide))).trans c1)
      have d2 := nI_inj (by decide) (by omega) ((a2.symm.trans (z 2 (by decide))).trans c2)
      have d3 := nI_inj (by decide) (by omega) ((a3.symm.trans (z 3 (by decide))).trans c3)
      have d4 := nI_inj (by decide) (by omega) ((a4.symm.trans (z 4 (by decide))).trans c4)
      have d5 := nI_inj (by decide) (by omega) ((a5.symm.trans (z 5 (by decide))).trans c5)
      omega
    · have dd : cs 0 = 114 ∧ cs 1 = 101 ∧ cs 2 = 116 ∧ cs 3 = 117 ∧ cs 4 = 114 ∧ cs 5 = 110 := by omega
      rcases (by omega : q = 0 ∨ q = 1 ∨ q = 2 ∨ q = 3 ∨ q = 4 ∨ q = 5) with rfl | rfl | rfl | rfl | rfl | rfl
      · rw [a0, c0, dd.1]
      · rw [a1, c1, dd.2.1]
      · rw [a2, c2, dd.2.2.1]
      · rw [a3, c3, dd.2.2.2.1]
      · rw [a4, c4, dd.2.2.2.2.1]
      · rw [a5, c5, dd.2.2.2.2.2]
  · rw [if_neg hl]
    refine ⟨fun z => (by cases z), fun z => ?_⟩
    exfalso
    rcases (by omega : L = 1 ∨ L = 2 ∨ L = 3 ∨ L = 4 ∨ L = 5 ∨ L = 6 ∨ L = 7) with rfl | rfl | rfl | rfl | rfl | rfl | rfl
    · have b0 := (h 0 (by decide)).2; simp only [n_nc] at z; omega
    · have b0 := (h 0 (by decide)).2; have b1 := (h 1 (by decide)).2; simp only [n_nc] at z; omega
    · have b0 := (h 0 (by decide)).2; have b1 := (h 1 (by decide)).2; have b2 := (h 2 (by decide)).2; simp only [n_nc] at z; omega
    · have b0 := (h 0 (by decide)).2; have b1 := (h 1 (by decide)).2; have b2 := (h 2 (by decide)).2; have b3 := (h 3 (by decide)).2; simp only [n_nc] at z; omega
    · have b0 := (h 0 (by decide)).2; have b1 := (h 1 (by decide)).2; have b2 := (h 2 (by decide)).2; have b3 := (h 3 (by decide)).2; have b4 := (h 4 (by decide)).2; simp only [n_nc] at z; omega
    · have b0 := (h 0 (by decide)).2; have b1 := (h 1 (by decide)).2; have b2 := (h 2 (by decide)).2; have b3 := (h 3 (by decide)).2; have b4 := (h 4 (by decide)).2; have b5 := (h 5 (by decide)).2; simp only [n_nc] at z; omega
    · have b0 := (h 0 (by decide)).2; have b1 := (h 1 (by decide)).2; have b2 := (h 2 (by decide)).2; have b3 := (h 3 (by decide)).2; have b4 := (h 4 (by decide)).2; have b5 := (h 5 (by decide)).2; have b6 := (h 6 (by decide)).2; simp only [n_nc] at z; omega
theorem m_is10 {cs : Nat → Nat} {L : Nat} (hL : 1 ≤ L) (hn : p + L ≤ n) (h : ∀ i, i < L → tx (p + i) = nI (cs i) ∧ 48 ≤ cs i ∧ cs i < 128) : s_is tx n 10 p L = true ↔ m_nc tx p L = Int64.ofNat 1885434739 := by
  have hl0 : am_sl.getD 10 0 = 4 := rfl
  unfold s_is
  rw [hl0]
  by_cases h7 : 8 ≤ L
  · rw [m_nc_0 h7, if_neg (by omega)]
    exact ⟨fun z => (by cases z), fun z => absurd z (by decide)⟩
  rw [m_nc_k (by omega) (fun i hi => ⟨(h i hi).1, (h i hi).2.2⟩) (by decide)]
  by_cases hl : 4 = L
  · subst hl
    rw [if_pos rfl, s_rd_iff]
    have b0 := h 0 (by decide)
    have c0 : s_ch tx n (p + (0 + 0)) = nI (cs 0) := by
      unfold s_ch
      rw [if_pos (by omega), show p + (0 + 0) = p + 0 from by omega]
      exact b0.1
    have a0 : am_chr 10 (0 + 0) = nI 112 := rfl
    have b1 := h 1 (by decide)
    have c1 : s_ch tx n (p + (0 + 1)) = nI (cs 1) := by
      unfold s_ch
      rw [if_pos (by omega), show p + (0 + 1) = p + 1 from by omega]
      exact b1.1
    have a1 : am_chr 10 (0 + 1) = nI 97 := rfl
    have b2 := h 2 (by decide)
    have c2 : s_ch tx n (p + (0 + 2)) = nI (cs 2) := by
      unfold s_ch
      rw [if_pos (by omega), show p + (0 + 2) = p + 2 from by omega]
      exact b2.1
    have a2 : am_chr 10 (0 + 2) = nI 115 := rfl
    have b3 := h 3 (by decide)
    have c3 : s_ch tx n (p + (0 + 3)) = nI (cs 3) := by
      unfold s_ch
      rw [if_pos (by omega), show p + (0 + 3) = p + 3 from by omega]
      exact b3.1
    have a3 : am_chr 10 (0 + 3) = nI 115 := rfl
    simp only [n_nc]
    refine ⟨fun z => ?_, fun z q hq => ?_⟩
    · have d0 := nI_inj (by decide) (by omega) ((a0.symm.trans (z 0 (by decide))).trans c0)
      have d1 := nI_inj (by decide) (by omega) ((a1.symm.trans (z 1 (by decide))).trans c1)
      have d2 := nI_inj (by decide) (by omega) ((a2.symm.trans (z 2 (by decide))).trans c2)
      have d3 := nI_inj (by decide) (by omega) ((a3.symm.trans (z 3 (by decide))).trans c3)
      omega
    · have dd : cs 0 = 112 ∧ cs 1 = 97 ∧ cs 2 = 115 ∧ cs 3 = 115 := by omega
      rcases (by omega : q = 0 ∨ q = 1 ∨ q = 2 ∨ q = 3) with rfl | rfl | rfl | rfl
      · rw [a0, c0, dd.1]
      · rw [a1, c1, dd.2.1]
      · rw [a2, c2, dd.2.2.1]
      · rw [a3, c3, dd.2.2.2]
  · rw [if_neg hl]
    refine ⟨fun z => (by cases z), fun z => ?_⟩
    exfalso
    rcases (by omega : L = 1 ∨ L = 2 ∨ L = 3 ∨ L = 4 ∨ L = 5 ∨ L = 6 ∨ L = 7) with rfl | rfl | rfl | rfl | rfl | rfl | rfl
    · have b0 := (h 0 (by decide)).2; simp only [n_nc] at z; omega
    · have b0 := (h 0 (by decide)).2; have b1 := (h 1 (by decide)).2; simp only [n_nc] at z; omega
    · have b0 := (h 0 (by decide)).2; have b1 := (h 1 (by decide)).2; have b2 := (h 2 (by decide)).2; simp only [n_nc] at z; omega
    · have b0 := (h 0 (by decide)).2; have b1 := (h 1 (by decide)).2; have b2 := (h 2 (by decide)).2; have b3 := (h 3 (by decide)).2; simp only [n_nc] at z; omega
    · have b0 := (h 0 (by decide)).2; have b1 := (h 1 (by decide)).2; have b2 := (h 2 (by decide)).2; have b3 := (h 3 (by decide)).2; have b4 := (h 4 (by decide)).2; simp only [n_nc] at z; omega
    · have b0 := (h 0 (by decide)).2; have b1 := (h 1 (by decide)).2; have b2 := (h 2 (by decide)).2; have b3 := (h 3 (by decide)).2; have b4 := (h 4 (by decide)).2; have b5 := (h 5 (by decide)).2; simp only [n_nc] at z; omega
    · have b0 := (h 0 (by decide)).2; have b1 := (h 1 (by decide)).2; have b2 := (h 2 (by decide)).2; have b3 := (h 3 (by decide)).2; have b4 := (h 4 (by decide)).2; have b5 := (h 5 (by decide)).2; have b6 := (h 6 (by decide)).2; simp only [n_nc] at z; omega
theorem m_is11 {cs : Nat → Nat} {L : Nat} (hL : 1 ≤ L) (hn : p + L ≤ n) (h : ∀ i, i < L → tx (p + i) = nI (cs i) ∧ 48 ≤ cs i ∧ cs i < 128) : s_is tx n 11 p L = true ↔ m_nc tx p L = Int64.ofNat 422826041707 := by
  have hl0 : am_sl.getD 11 0 = 5 := rfl
  unfold s_is
  rw [hl0]
  by_cases h7 : 8 ≤ L
  · rw [m_nc_0 h7, if_neg (by omega)]
    exact ⟨fun z => (by cases z), fun z => absurd z (by decide)⟩
  rw [m_nc_k (by omega) (fun i hi => ⟨(h i hi).1, (h i hi).2.2⟩) (by decide)]
  by_cases hl : 5 = L
  · subst hl
    rw [if_pos rfl, s_rd_iff]
    have b0 := h 0 (by decide)
    have c0 : s_ch tx n (p + (0 + 0)) = nI (cs 0) := by
      unfold s_ch
      rw [if_pos (by omega), show p + (0 + 0) = p + 0 from by omega]
      exact b0.1
    have a0 : am_chr 11 (0 + 0) = nI 98 := rfl
    have b1 := h 1 (by decide)
    have c1 : s_ch tx n (p + (0 + 1)) = nI (cs 1) := by
      unfold s_ch
      rw [if_pos (by omega), show p + (0 + 1) = p + 1 from by omega]
      exact b1.1
    have a1 : am_chr 11 (0 + 1) = nI 114 := rfl
    have b2 := h 2 (by decide)
    have c2 : s_ch tx n (p + (0 + 2)) = nI (cs 2) := by
      unfold s_ch
      rw [if_pos (by omega), show p + (0 + 2) = p + 2 from by omega]
      exact b2.1
    have a2 : am_chr 11 (0 + 2) = nI 101 := rfl
    have b3 := h 3 (by decide)
    have c3 : s_ch tx n (p + (0 + 3)) = nI (cs 3) := by
      unfold s_ch
      rw [if_pos (by omega), show p + (0 + 3) = p + 3 from by omega]
      exact b3.1
    have a3 : am_chr 11 (0 + 3) = nI 97 := rfl
    have b4 := h 4 (by decide)
    have c4 : s_ch tx n (p + (0 + 4)) = nI (cs 4) := by
      unfold s_ch
      rw [if_pos (by omega), show p + (0 + 4) = p + 4 from by omega]
      exact b4.1
    have a4 : am_chr 11 (0 + 4) = nI 107 := rfl
    simp only [n_nc]
    refine ⟨fun z => ?_, fun z q hq => ?_⟩
    · have d0 := nI_inj (by decide) (by omega) ((a0.symm.trans (z 0 (by decide))).trans c0)
      have d1 := nI_inj (by decide) (by omega) ((a1.symm.trans (z 1 (by decide))).trans c1)
      have d2 := nI_inj (by decide) (by omega) ((a2.symm.trans (z 2 (by decide))).trans c2)
      have d3 := nI_inj (by decide) (by omega) ((a3.symm.trans (z 3 (by decide))).trans c3)
      have d4 := nI_inj (by decide) (by omega) ((a4.symm.trans (z 4 (by decide))).trans c4)
      omega
    · have dd : cs 0 = 98 ∧ cs 1 = 114 ∧ cs 2 = 101 ∧ cs 3 = 97 ∧ cs 4 = 107 := by omega
      rcases (by omega : q = 0 ∨ q = 1 ∨ q = 2 ∨ q = 3 ∨ q = 4) with rfl | rfl | rfl | rfl | rfl
      · rw [a0, c0, dd.1]
      · rw [a1, c1, dd.2.1]
      · rw [a2, c2, dd.2.2.1]
      · rw [a3, c3, dd.2.2.2.1]
      · rw [a4, c4, dd.2.2.2.2]
  · rw [if_neg hl]
    refine ⟨fun z => (by cases z), fun z => ?_⟩
    exfalso
    rcases (by omega : L = 1 ∨ L = 2 ∨ L = 3 ∨ L = 4 ∨ L = 5 ∨ L = 6 ∨ L = 7) with rfl | rfl | rfl | rfl | rfl | rfl | rfl
    · have b0 := (h 0 (by decide)).2; simp only [n_nc] at z; omega
    · have b0 := (h 0 (by decide)).2; have b1 := (h 1 (by decide)).2; simp only [n_nc] at z; omega
    · have b0 := (h 0 (by decide)).2; have b1 := (h 1 (by decide)).2; have b2 := (h 2 (by decide)).2; simp only [n_nc] at z; omega
    · have b0 := (h 0 (by decide)).2; have b1 := (h 1 (by decide)).2; have b2 := (h 2 (by decide)).2; have b3 := (h 3 (by decide)).2; simp only [n_nc] at z; omega
    · have b0 := (h 0 (by decide)).2; have b1 := (h 1 (by decide)).2; have b2 := (h 2 (by decide)).2; have b3 := (h 3 (by decide)).2; have b4 := (h 4 (by decide)).2; simp only [n_nc] at z; omega
    · have b0 := (h 0 (by decide)).2; have b1 := (h 1 (by decide)).2; have b2 := (h 2 (by decide)).2; have b3 := (h 3 (by decide)).2; have b4 := (h 4 (by decide)).2; have b5 := (h 5 (by decide)).2; simp only [n_nc] at z; omega
    · have b0 := (h 0 (by decide)).2; have b1 := (h 1 (by decide)).2; have b2 := (h 2 (by decide)).2; have b3 := (h 3 (by decide)).2; have b4 := (h 4 (by decide)).2; have b5 := (h 5 (by decide)).2; have b6 := (h 6 (by decide)).2; simp only [n_nc] at z; omega
theorem m_is12 {cs : Nat → Nat} {L : Nat} (hL : 1 ≤ L) (hn : p + L ≤ n) (h : ∀ i, i < L → tx (p + i) = nI (cs i) ∧ 48 ≤ cs i ∧ cs i < 128) : s_is tx n 12 p L = true ↔ m_nc tx p L = Int64.ofNat 6385252 := by
  have hl0 : am_sl.getD 12 0 = 3 := rfl
  unfold s_is
  rw [hl0]
  by_cases h7 : 8 ≤ L
  · rw [m_nc_0 h7, if_neg (by omega)]
    exact ⟨fun z => (by cases z), fun z => absurd z (by decide)⟩
  rw [m_nc_k (by omega) (fun i hi => ⟨(h i hi).1, (h i hi).2.2⟩) (by decide)]
  by_cases hl : 3 = L
  · subst hl
    rw [if_pos rfl, s_rd_iff]
    have b0 := h 0 (by decide)
    have c0 : s_ch tx n (p + (0 + 0)) = nI (cs 0) := by
      unfold s_ch
      rw [if_pos (by omega), show p + (0 + 0) = p + 0 from by omega]
      exact b0.1
    have a0 : am_chr 12 (0 + 0) = nI 97 := rfl
    have b1 := h 1 (by decide)
    have c1 : s_ch tx n (p + (0 + 1)) = nI (cs 1) := by
      unfold s_ch
      rw [if_pos (by omega), show p + (0 + 1) = p + 1 from by omega]
      exact b1.1
    have a1 : am_chr 12 (0 + 1) = nI 110 := rfl
    have b2 := h 2 (by decide)
    have c2 : s_ch tx n (p + (0 + 2)) = nI (cs 2) := by
      unfold s_ch
      rw [if_pos (by omega), show p + (0 + 2) = p + 2 from by omega]
      exact b2.1
    have a2 : am_chr 12 (0 + 2) = nI 100 := rfl
    simp only [n_nc]
    refine ⟨fun z => ?_, fun z q hq => ?_⟩
    · have d0 := nI_inj (by decide) (by omega) ((a0.symm.trans (z 0 (by decide))).trans c0)
      have d1 := nI_inj (by decide) (by omega) ((a1.symm.trans (z 1 (by decide))).trans c1)
      have d2 := nI_inj (by decide) (by omega) ((a2.symm.trans (z 2 (by decide))).trans c2)
      omega
    · have dd : cs 0 = 97 ∧ cs 1 = 110 ∧ cs 2 = 100 := by omega
      rcases (by omega : q = 0 ∨ q = 1 ∨ q = 2) with rfl | rfl | rfl
      · rw [a0, c0, dd.1]
      · rw [a1, c1, dd.2.1]
      · rw [a2, c2, dd.2.2]
  · rw [if_neg hl]
    refine ⟨fun z => (by cases z), fun z => ?_⟩
    exfalso
    rcases (by omega : L = 1 ∨ L = 2 ∨ L = 3 ∨ L = 4 ∨ L = 5 ∨ L = 6 ∨ L = 7) with rfl | rfl | rfl | rfl | rfl | rfl | rfl
    · have b0 := (h 0 (by decide)).2; simp only [n_nc] at z; omega
    · have b0 := (h 0 (by decide)).2; have b1 := (h 1 (by decide)).2; simp only [n_nc] at z; omega
    · have b0 := (h 0 (by decide)).2; have b1 := (h 1 (by decide)).2; have b2 := (h 2 (by decide)).2; simp only [n_nc] at z; omega
    · have b0 := (h 0 (by decide)).2; have b1 := (h 1 (by decide)).2; have b2 := (h 2 (by decide)).2; have b3 := (h 3 (by decide)).2; simp only [n_nc] at z; omega
    · have b0 := (h 0 (by decide)).2; have b1 := (h 1 (by decide)).2; have b2 := (h 2 (by decide)).2; have b3 := (h 3 (by decide)).2; have b4 := (h 4 (by decide)).2; simp only [n_nc] at z; omega
    · have b0 := (h 0 (by decide)).2; have b1 := (h 1 (by decide)).2; have b2 := (h 2 (by decide)).2; have b3 := (h 3 (by decide)).2; have b4 := (h 4 (by decide)).2; have b5 := (h 5 (by decide)).2; simp only [n_nc] at z; omega
    · have b0 := (h 0 (by decide)).2; have b1 := (h 1 (by decide)).2; have b2 := (h 2 (by decide)).2; have b3 := (h 3 (by decide)).2; have b4 := (h 4 (by decide)).2; have b5 := (h 5 (by decide)).2; have b6 := (h 6 (by decide)).2; simp only [n_nc] at z; omega
theorem m_is13 {cs : Nat → Nat} {L : Nat} (hL : 1 ≤ L) (hn : p + L ≤ n) (h : ∀ i, i < L → tx (p + i) = nI (cs i) ∧ 48 ≤ cs i ∧ cs i < 128) : s_is tx n 13 p L = true ↔ m_nc tx p L = Int64.ofNat 28530 := by
  have hl0 : am_sl.getD 13 0 = 2 := rfl
  unfold s_is
  rw [hl0]
  by_cases h7 : 8 ≤ L
  · rw [m_nc_0 h7, if_neg (by omega)]
    exact ⟨fun z => (by cases z), fun z => absurd z (by decide)⟩
  rw [m_nc_k (by omega) (fun i hi => ⟨(h i hi).1, (h i hi).2.2⟩) (by decide)]
  by_cases hl : 2 = L
  · subst hl
    rw [if_pos rfl, s_rd_iff]
    have b0 := h 0 (by decide)
    have c0 : s_ch tx n (p + (0 + 0)) = nI (cs 0) := by
      unfold s_ch
      rw [if_pos (by omega), show p + (0 + 0) = p + 0 from by omega]
      exact b0.1
    have a0 : am_chr 13 (0 + 0) = nI 111 := rfl
    have b1 := h 1 (by decide)
    have c1 : s_ch tx n (p + (0 + 1)) = nI (cs 1) := by
      unfold s_ch
      rw [if_pos (by omega), show p + (0 + 1) = p + 1 from by omega]
      exact b1.1
    have a1 : am_chr 13 (0 + 1) = nI 114 := rfl
    simp only [n_nc]
    refine ⟨fun z => ?_, fun z q hq => ?_⟩
    · have d0 := nI_inj (by decide) (by omega) ((a0.symm.trans (z 0 (by decide))).trans c0)
      have d1 := nI_inj (by decide) (by omega) ((a1.symm.trans (z 1 (by decide))).trans c1)
      omega
    · have dd : cs 0 = 111 ∧ cs 1 = 114 := by omega
      rcases (by omega : q = 0 ∨ q = 1) with rfl | rfl
      · rw [a0, c0, dd.1]
      · rw [a1, c1, dd.2]
  · rw [if_neg hl]
    refine ⟨fun z => (by cases z), fun z => ?_⟩
    exfalso
    rcases (by omega : L = 1 ∨ L = 2 ∨ L = 3 ∨ L = 4 ∨ L = 5 ∨ L = 6 ∨ L = 7) with rfl | rfl | rfl | rfl | rfl | rfl | rfl
    · have b0 := (h 0 (by decide)).2; simp only [n_nc] at z; omega
    · have b0 := (h 0 (by decide)).2; have b1 := (h 1 (by decide)).2; simp only [n_nc] at z; omega
    · have b0 := (h 0 (by decide)).2; have b1 := (h 1 (by decide)).2; have b2 := (h 2 (by decide)).2; simp only [n_nc] at z; omega
    · have b0 := (h 0 (by decide)).2; have b1 := (h 1 (by decide)).2; have b2 := (h 2 (by decide)).2; have b3 := (h 3 (by decide)).2; simp only [n_nc] at z; omega
    · have b0 := (h 0 (by decide)).2; have b1 := (h 1 (by decide)).2; have b2 := (h 2 (by decide)).2; have b3 := (h 3 (by decide)).2; have b4 := (h 4 (by decide)).2; simp only [n_nc] at z; omega
    · have b0 := (h 0 (by decide)).2; have b1 := (h 1 (by decide)).2; have b2 := (h 2 (by decide)).2; have b3 := (h 3 (by decide)).2; have b4 := (h 4 (by decide)).2; have b5 := (h 5 (by decide)).2; simp only [n_nc] at z; omega
    · have b0 := (h 0 (by decide)).2; have b1 := (h 1 (by decide)).2; have b2 := (h 2 (by decide)).2; have b3 := (h 3 (by decide)).2; have b4 := (h 4 (by decide)).2; have b5 := (h 5 (by decide)).2; have b6 := (h 6 (by decide)).2; simp only [n_nc] at z; omega
theorem m_is14 {cs : Nat → Nat} {L : Nat} (hL : 1 ≤ L) (hn : p + L ≤ n) (h : ∀ i, i < L → tx (p + i) = nI (cs i) ∧ 48 ≤ cs i ∧ cs i < 128) : s_is tx n 14 p L = true ↔ m_nc tx p L = Int64.ofNat 7237492 := by
  have hl0 : am_sl.getD 14 0 = 3 := rfl
  unfold s_is
  rw [hl0]
  by_cases h7 : 8 ≤ L
  · rw [m_nc_0 h7, if_neg (by omega)]
    exact ⟨fun z => (by cases z), fun z => absurd z (by decide)⟩
  rw [m_nc_k (by omega) (fun i hi => ⟨(h i hi).1, (h i hi).2.2⟩) (by decide)]
  by_cases hl : 3 = L
  · subst hl
    rw [if_pos rfl, s_rd_iff]
    have b0 := h 0 (by decide)
    have c0 : s_ch tx n (p + (0 + 0)) = nI (cs 0) := by
      unfold s_ch
      rw [if_pos (by omega), show p + (0 + 0) = p + 0 from by omega]
      exact b0.1
    have a0 : am_chr 14 (0 + 0) = nI 110 := rfl
    have b1 := h 1 (by decide)
    have c1 : s_ch tx n (p + (0 + 1)) = nI (cs 1) := by
      unfold s_ch
      rw [if_pos (by omega), show p + (0 + 1) = p + 1 from by omega]
      exact b1.1
    have a1 : am_chr 14 (0 + 1) = nI 111 := rfl
    have b2 := h 2 (by decide)
    have c2 : s_ch tx n (p + (0 + 2)) = nI (cs 2) := by
      unfold s_ch
      rw [if_pos (by omega), show p + (0 + 2) = p + 2 from by omega]
      exact b2.1
    have a2 : am_chr 14 (0 + 2) = nI 116 := rfl
    simp only [n_nc]
    refine ⟨fun z => ?_, fun z q hq => ?_⟩
    · have d0 := nI_inj (by decide) (by omega) ((a0.symm.trans (z 0 (by decide))).trans c0)
      have d1 := nI_inj (by decide) (by omega) ((a1.symm.trans (z 1 (by decide))).trans c1)
      have d2 := nI_inj (by decide) (by omega) ((a2.symm.trans (z 2 (by decide))).trans c2)
      omega
    · have dd : cs 0 = 110 ∧ cs 1 = 111 ∧ cs 2 = 116 := by omega
      rcases (by omega : q = 0 ∨ q = 1 ∨ q = 2) with rfl | rfl | rfl
      · rw [a0, c0, dd.1]
      · rw [a1, c1, dd.2.1]
      · rw [a2, c2, dd.2.2]
  · rw [if_neg hl]
    refine ⟨fun z => (by cases z), fun z => ?_⟩
    exfalso
    rcases (by omega : L = 1 ∨ L = 2 ∨ L = 3 ∨ L = 4 ∨ L = 5 ∨ L = 6 ∨ L = 7) with rfl | rfl | rfl | rfl | rfl | rfl | rfl
    · have b0 := (h 0 (by decide)).2; simp only [n_nc] at z; omega
    · have b0 := (h 0 (by decide)).2; have b1 := (h 1 (by decide)).2; simp only [n_nc] at z; omega
    · have b0 := (h 0 (by decide)).2; have b1 := (h 1 (by decide)).2; have b2 := (h 2 (by decide)).2; simp only [n_nc] at z; omega
    · have b0 := (h 0 (by decide)).2; have b1 := (h 1 (by decide)).2; have b2 := (h 2 (by decide)).2; have b3 := (h 3 (by decide)).2; simp only [n_nc] at z; omega
    · have b0 := (h 0 (by decide)).2; have b1 := (h 1 (by decide)).2; have b2 := (h 2 (by decide)).2; have b3 := (h 3 (by decide)).2; have b4 := (h 4 (by decide)).2; simp only [n_nc] at z; omega
    · have b0 := (h 0 (by decide)).2; have b1 := (h 1 (by decide)).2; have b2 := (h 2 (by decide)).2; have b3 := (h 3 (by decide)).2; have b4 := (h 4 (by decide)).2; have b5 := (h 5 (by decide)).2; simp only [n_nc] at z; omega
    · have b0 := (h 0 (by decide)).2; have b1 := (h 1 (by decide)).2; have b2 := (h 2 (by decide)).2; have b3 := (h 3 (by decide)).2; have b4 := (h 4 (by decide)).2; have b5 := (h 5 (by decide)).2; have b6 := (h 6 (by decide)).2; simp only [n_nc] at z; omega
end MWD
