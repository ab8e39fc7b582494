/-! THE STEPS KEEP THE INVARIANT -/
section XJS
variable {T p b : Nat} {mk : Nat → Int32} {pl : Nat → Nat}
theorem x_ent_J {k : Int32} {nd u st : Nat} {K : List xK} {V : List Nat} {m : Nat} {S : aN} {X' : xX} (hp0 : p < T) (q2 : K.length ≤ 12) (q3 : V.length = x_nb K + u) (q4 : ∀ v ∈ V, v < m) (q5 : ∀ e ∈ K, x_Ko T m e) (q6 : m + x_no K + (if 0 < k then 1 else 0) ≤ b + (p + 1)) (q7 : x_So T m S) (hp : p + 1 < T) (hkk : k = -3 ∨ k = -2 ∨ k = -1 ∨ k = 0 ∨ k = 1 ∨ k = 2 ∨ k = 3 ∨ k = 4 ∨ k = 5 ∨ k = 6 ∨ k = 7) (hnd : k < 0 → nd < m) (hu : u = (if k = 1 ∨ k = 2 ∨ k = 4 ∨ k = 5 ∨ k = 6 then 1 else 0)) (h : x_ent pl k nd (p, K, V, m, S) = .ok (st, X')) : st = 1 ∧ x_J T b 0 X' := by
  have hst := x_ent_st h
  unfold x_ent at h
  dsimp only at h
  split at h
  · cases h
  · next c =>
    cases h
    refine ⟨rfl, hp, by simp; omega, by simp only [x_nb]; omega, q4, fun e he => ?_, ?_, q7⟩
    · rcases List.mem_cons.mp he with z | z
      · subst z; exact ⟨hp0, hnd, hkk⟩
      · exact q5 e z
    · simp only [x_no]
      omega
theorem x_fin_J {n st : Nat} {K : List xK} {V : List Nat} {m : Nat} {S : aN} {X' : xX} (hJ : x_J T b 0 (p, K, V, m, S)) (hn : n < m) (h : x_fin pl p n K V m S = .ok (st, X')) : st = 0 ∧ x_J T b 1 X' := by
  have hst := x_fin_st h
  unfold x_fin at h
  split at h
  · cases h
  · cases h
    obtain ⟨q1, q2, q3, q4, q5, q6, q7⟩ := hJ
    refine ⟨rfl, q1, q2, by simp; omega, fun x hx => ?_, q5, q6, q7⟩
    rcases List.mem_cons.mp hx with z | z
    · omega
    · exact q4 x z
theorem x_end_J {some : Bool} {k : Int32} {t nd st : Nat} {K : List xK} {V : List Nat} {m : Nat} {S : aN} {X' : xX} (hJ : x_J T b (if some = true then 1 else 0) (p, (k, t, nd) :: K, V, m, S)) (hk : ¬ 0 < k) (hk0 : some = false → k ≠ 0) (hp : p + 1 < T) (h : x_end pl some (p, (k, t, nd) :: K, V, m, S) = .ok (st, X')) : st = 0 ∧ x_J T b 1 X' := by
  have hst := x_end_st h
  obtain ⟨q1, q2, q3, q4, q5, q6, q7⟩ := hJ
  have hnb : x_nb ((k, t, nd) :: K) = x_nb K := by
    simp only [x_nb]
    rw [if_neg (by rintro (z | z | z | z | z) <;> exact hk (by rw [z]; decide))]
    omega
  have hno : x_no ((k, t, nd) :: K) = x_no K := by
    simp only [x_no, if_neg hk]
    omega
  rw [hnb] at q3
  rw [hno] at q6
  have hKl : K.length ≤ 12 := by simp at q2; omega
  have q5' : ∀ e ∈ K, x_Ko T m e := fun e he => q5 e (List.mem_cons_of_mem _ he)
  obtain ⟨ho1, ho2, ho3⟩ := q5 (k, t, nd) List.mem_cons_self
  dsimp only at ho2 ho3
  unfold x_end at h
  dsimp only at h
  by_cases c0 : k = 0
  · rw [if_pos c0] at h
    cases h
    cases some with
    | false => exact absurd c0 (hk0 rfl)
    | true =>
      rw [if_pos rfl] at q3
      exact ⟨rfl, hp, hKl, q3, q4, q5', by omega, q7⟩
  · rw [if_neg c0] at h
    have kneg : k < 0 := by
      rcases ho3 with z | z | z | z | z | z | z | z | z | z | z
      · rw [z]; decide
      · rw [z]; decide
      · rw [z]; decide
      · exact absurd z c0
      all_goals exact absurd (by rw [z]; decide) hk
    have hnd := ho2 kneg
    cases some with
    | false =>
      rw [if_neg (by decide)] at h q3
      exact x_fin_J ⟨hp, hKl, q3, q4, q5', by omega, q7⟩ hnd h
    | true =>
      rw [if_pos rfl] at h q3
      cases V with
      | nil => simp at q3
      | cons v V' =>
        dsimp only at h
        have hv := q4 v List.mem_cons_self
        exact x_fin_J ⟨hp, hKl, by simp at q3 ⊢; omega, fun x hx => q4 x (List.mem_cons_of_mem _ hx), q5', by omega, q7.app hv⟩ hnd h
/-- the invariant in a state -/
def x_JJ (T b : Nat) (z : Nat × xX) : Prop := z.1 ≤ 2 ∧ x_J T b (if z.1 = 1 then 0 else 1) z.2
theorem x_part_J {K : List xK} {V : List Nat} {m st : Nat} {S : aN} {X' : xX} (hW : d_W mk T) (hJ : x_J T b 0 (p, K, V, m, S)) (h : x_part mk pl (p, K, V, m, S) = .ok (st, X')) : x_JJ T b (st, X') := by
  obtain ⟨q1, q2, q3, q4, q5, q6, q7⟩ := id hJ
  have one : ∀ {st : Nat} {X' : xX}, st = 1 ∧ x_J T b 0 X' → x_JJ T b (st, X') := fun {st X'} h => by
    obtain ⟨rfl, h⟩ := h
    exact ⟨by simp, h⟩
  have zro : ∀ {st : Nat} {X' : xX}, st = 0 ∧ x_J T b 1 X' → x_JJ T b (st, X') := fun {st X'} h => by
    obtain ⟨rfl, h⟩ := h
    exact ⟨by simp, h⟩
  unfold x_part at h
  dsimp only at h
  split at h
  · next c =>
    have hp : p + 1 < T := by
      rcases c with z | z | z
      · exact hW.lt z (by decide)
      · exact hW.lt z (by decide)
      · exact hW.lt z (by decide)
    cases h
    refine zro ⟨rfl, hp, q2, by simp; omega, fun x hx => ?_, fun e he => ?_, by omega, q7.add q1⟩
    · rcases List.mem_cons.mp hx with z | z
      · omega
      · have := q4 x z; omega
    · obtain ⟨a, c, d⟩ := q5 e he
      exact ⟨a, fun z => by have := c z; omega, d⟩
  split at h
  · next c => exact one (x_ent_J q1 q2 q3 q4 q5 (by rw [if_pos (by decide)]; omega) q7 (hW.lt c.1 (by decide)) (by decide) (fun z => absurd z (by decide)) (by decide) h)
  split at h
  · next c => exact one (x_ent_J q1 q2 q3 q4 q5 (by rw [if_pos (by decide)]; omega) q7 (hW.lt c (by decide)) (by decide) (fun z => absurd z (by decide)) (by decide) h)
  split at h
  · next c => exact one (x_ent_J q1 q2 q3 q4 q5 (by rw [if_neg (by decide)]; omega) q7 (hW.lt c (by decide)) (by decide) (fun z => absurd z (by decide)) (by decide) h)
  split at h
  · next c =>
    refine one (x_ent_J q1 q2 q3 (fun x hx => by have := q4 x hx; omega) (fun e he => ?_) (by rw [if_neg (by decide)]; omega) (q7.add q1) (hW.lt c (by decide)) (by decide) (fun _ => by omega) (by decide) h)
    obtain ⟨a, c, d⟩ := q5 e he
    exact ⟨a, fun z => by have := c z; omega, d⟩
  · cases K with
    | nil => cases h
    | cons e K' =>
      obtain ⟨kk, t, nd⟩ := e
      dsimp only at h
      split at h
      · next c =>
        have hk : ¬ 0 < kk ∧ kk ≠ 0 := by rcases c.2 with z | z <;> (rw [z.2]; decide)
        have hp : p + 1 < T := by
          rcases c.2 with z | z
          · exact hW.lt z.1 (by decide)
          · exact hW.lt z.1 (by decide)
        exact zro (x_end_J (some := false) hJ hk.1 (fun _ => hk.2) hp h)
      · cases h
theorem x_bas_J {K : List xK} {V : List Nat} {m st : Nat} {S : aN} {X' : xX} (hW : d_W mk T) (hJ : x_J T b 1 (p, K, V, m, S)) (hk0 : ∀ e ∈ K.head?, ¬ 0 < e.1) (h : x_bas mk pl (p, K, V, m, S) = .ok (st, X')) : x_JJ T b (st, X') := by
  obtain ⟨q1, q2, q3, q4, q5, q6, q7⟩ := id hJ
  cases K with
  | nil =>
    unfold x_bas at h
    dsimp only at h
    cases h
    exact ⟨by simp, hJ⟩
  | cons e K' =>
    obtain ⟨kk, t, nd⟩ := e
    have hkk := hk0 (kk, t, nd) rfl
    unfold x_bas at h
    dsimp only at h
    split at h
    · next c =>
      have hp := hW.lt c.1 (by decide)
      cases V with
      | nil => simp at q3
      | cons v V' =>
        dsimp only at h
        cases h
        have hv := q4 v List.mem_cons_self
        exact ⟨by show 1 ≤ 2; decide, hp, q2, by simp at q3 ⊢; omega, fun x hx => q4 x (List.mem_cons_of_mem _ hx), q5, by omega, q7.app hv⟩
    · split at h
      · next c =>
        have hp : p + 1 < T := by
          rcases c with z | z
          · exact hW.lt z.1 (by decide)
          · exact hW.lt z.1 (by decide)
        obtain ⟨rfl, h2⟩ := x_end_J (some := true) hJ hkk (fun z => by cases z) hp h
        exact ⟨by simp, h2⟩
      · cases h
theorem i32_lt1 {k : Int32} (h3 : k < 1) : ¬ 0 < k := fun h4 => by
  rw [Int32.lt_iff_toInt_lt] at h3 h4
  have a : (1 : Int32).toInt = 1 := rfl
  have c : (0 : Int32).toInt = 0 := rfl
  omega
theorem x_cl1_J {K : List xK} {V : List Nat} {m st : Nat} {S : aN} {X' : xX} (hW : d_W mk T) (hJ : x_J T b 1 (p, K, V, m, S)) (h : x_cl1 mk pl (p, K, V, m, S) = .ok (st, X')) : x_JJ T b (st, X') := by
  unfold x_cl1 at h
  dsimp only at h
  split at h
  · cases h
  · next K1 V1 m1 S1 hc => exact x_bas_J hW (x_close_J (by decide) K V m S hJ hc) (fun e he => i32_lt1 (x_close_top K V m S hc e he)) h
theorem x_beh_J {K : List xK} {V : List Nat} {m st : Nat} {S : aN} {X' : xX} (hW : d_W mk T) (hJ : x_J T b 1 (p, K, V, m, S)) (h : x_beh mk pl (p, K, V, m, S) = .ok (st, X')) : x_JJ T b (st, X') := by
  obtain ⟨q1, q2, q3, q4, q5, q6, q7⟩ := id hJ
  have one : ∀ {st : Nat} {X' : xX}, st = 1 ∧ x_J T b 0 X' → x_JJ T b (st, X') := fun {st X'} h => by
    obtain ⟨rfl, h⟩ := h
    exact ⟨by simp, h⟩
  have zro : ∀ {st : Nat} {X' : xX}, st = 0 ∧ x_J T b 1 X' → x_JJ T b (st, X') := fun {st X'} h => by
    obtain ⟨rfl, h⟩ := h
    exact ⟨by simp, h⟩
  obtain ⟨v, V', rfl⟩ := x_nb_pos (u := 0) q3
  have hv := q4 v List.mem_cons_self
  have q3' : V'.length = x_nb K + 0 := by simp at q3 ⊢; omega
  have q4' : ∀ x ∈ V', x < m + 1 := fun x hx => by have := q4 x (List.mem_cons_of_mem _ hx); omega
  have q5' : ∀ e ∈ K, x_Ko T (m + 1) e := fun e he => by
    obtain ⟨a, c, d⟩ := q5 e he
    exact ⟨a, fun z => by have := c z; omega, d⟩
  have apl : ∀ (w as : Int32), (as = -1 ∨ as = -2) → p + 1 < T → x_apl pl w as (p, K, v :: V', m, S) = .ok (st, X') → x_JJ T b (st, X') := fun w as has hp h => by
    unfold x_apl at h
    dsimp only at h
    refine one (x_ent_J q1 q2 q3' q4' q5' ?_ ((q7.add q1).app (by omega)) hp ?_ (fun _ => by omega) ?_ h)
    · rcases has with z | z <;> (subst z; rw [if_neg (by decide)]; omega)
    · rcases has with z | z <;> (subst z; decide)
    · rcases has with z | z <;> (subst z; decide)
  unfold x_beh at h
  dsimp only at h
  split at h
  · next c => exact apl 17 (-1) (Or.inl rfl) (hW.lt c (by decide)) h
  split at h
  · next c => exact apl 18 (-2) (Or.inr rfl) (hW.lt c (by decide)) h
  split at h
  · unfold x_mem at h
    dsimp only at h
    split at h
    · next c =>
      have hp := hW.lt c (by decide)
      exact zro (x_fin_J ⟨hp, q2, q3', q4', q5', by omega, (q7.add (by omega)).app (by omega)⟩ (by omega) h)
    · cases h
  split at h
  · next c0 =>
    have hp := hW.lt rfl (d_sb_ne rfl c0)
    have h6 := d_sb_le (mk p)
    have hl : (0 : Int32) < (if d_sb (mk p) = 4 then 5 else nI (d_sb (mk p))) := by
      split
      · decide
      · exact nI_lt (a := 0) c0 (by omega)
    split at h
    · cases h
    · next K1 V1 m1 S1 hc =>
      have hJ1 := x_close_J hl K (v :: V') m S hJ hc
      split at h
      · obtain ⟨r1, r2, r3, r4, r5, r6, r7⟩ := hJ1
        have hs : d_sb (mk p) = 1 ∨ d_sb (mk p) = 2 ∨ d_sb (mk p) = 4 ∨ d_sb (mk p) = 5 ∨ d_sb (mk p) = 6 := by omega
        refine one (x_ent_J r1 r2 r3 r4 r5 ?_ r7 hp ?_ (fun z => absurd z (nI_pos (by omega))) ?_ h)
        · split <;> omega
        · rcases hs with z | z | z | z | z <;> (rw [z]; decide)
        · rcases hs with z | z | z | z | z <;> (rw [z]; decide)
      · exact x_cl1_J hW hJ1 h
  · exact x_cl1_J hW hJ h
end XJS
