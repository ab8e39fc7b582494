/-! SOUND: switches -/
/-- one case after the other -/
def am_Cs (F : aS → Prop) : List (Prop × aS) → aS → Prop
  | [], s => F s
  | (P, t) :: l, s => (P → F t) ∧ (¬ P → am_Cs F l s)
section SNW
variable {M d B C u c : Nat} {Q : aO → aH → Prop} {pc : Nat} {ls : List (Nat × Value)} {r : List Value} {h : aH} {x : Int32}
theorem am_csx {F : aS → Prop} : ∀ {ks : List Int32} {tg : List Nat} {t0 : aS}, ks.length = tg.length → am_Cs F (am_cases x ls r h ks tg) t0 → (∀ (j : Nat) (k : Int32) (t : Nat), ks[j]? = some k → tg[j]? = some t → x = k → (∀ (i : Nat) (k' : Int32), i < j → ks[i]? = some k' → ¬ x = k') → F (t, ls, r, h)) ∧ ((∀ k ∈ ks, ¬ x = k) → F t0) := by
  intro ks
  induction ks with
  | nil =>
    intro tg t0 hl hc
    refine ⟨fun j k t hk => by simp at hk, fun _ => ?_⟩
    cases tg with
    | nil => exact hc
    | cons _ _ => simp at hl
  | cons k ks ih =>
    intro tg t0 hl hc
    cases tg with
    | nil => simp at hl
    | cons t tg =>
      obtain ⟨h1, h2⟩ := hc
      refine ⟨fun j k' t' hk ht hx hlt => ?_, fun hn => ?_⟩
      · cases j with
        | zero =>
          simp at hk ht
          subst hk; subst ht
          exact h1 hx
        | succ j =>
          have hne : ¬ x = k := hlt 0 k (Nat.succ_pos j) rfl
          exact (ih (by simpa using hl) (h2 hne)).1 j k' t' (by simpa using hk) (by simpa using ht) hx (fun i k'' hi hk'' => hlt (i + 1) k'' (by omega) (by simpa using hk''))
      · exact (ih (by simpa using hl) (h2 (hn k List.mem_cons_self))).2 (fun k' hk' => hn k' (List.mem_cons_of_mem _ hk'))
/-- the first place at which x stands in the list -/
theorem am_fst (x : Int32) : ∀ ks : List Int32, x ∈ ks → ∃ j, ks[j]? = some x ∧ ∀ (i : Nat) (k : Int32), i < j → ks[i]? = some k → ¬ x = k := by
  intro ks
  induction ks with
  | nil => intro h; cases h
  | cons k ks ih =>
    intro h
    by_cases e : x = k
    · exact ⟨0, by rw [e]; rfl, fun i _ hi => absurd hi (Nat.not_lt_zero i)⟩
    · obtain ⟨j, h1, h2⟩ := ih ((List.mem_cons.mp h).resolve_left e)
      refine ⟨j + 1, by simpa using h1, fun i k' hi hk => ?_⟩
      cases i with
      | zero => simp at hk; rw [← hk]; exact e
      | succ i => exact h2 i k' (by omega) (by simpa using hk)
theorem am_i_tsw {df lo hi : Int} {offs : Array Int} {len : Nat} {t : Nat} {tg : List Nat} {ks : List Int32} {imm : Int32} (hd : decode (am_by M) pc = .ok (.tableswitch df lo hi offs, len)) (htg : am_tg (.tableswitch df lo hi offs) pc (t :: tg) imm ks = true)
    (hk : am_Cs (fun s => am_Tri M d B C u c s Q) (am_cases x ls r h ks tg) (t, ls, r, h)) : am_Tri M d B C u c (pc, ls, .int x :: r, h) Q := by
  simp only [am_tg, am_tgt, Bool.and_eq_true, decide_eq_true_eq, List.drop_succ_cons, List.drop_zero] at htg
  obtain ⟨⟨⟨h1, h2⟩, h3⟩, h4⟩ := htg
  have hl1 : tg.length = offs.size := by have := congrArg List.length h2; simpa using this
  have hl2 : ks.length = offs.size := by have := congrArg List.length h3; simpa using this
  obtain ⟨k1, k2⟩ := am_csx (hl2.trans hl1.symm) hk
  intro p l e R s m args below meth cd E cx H locs la hR hl hlo
  by_cases hm : x ∈ ks
  · obtain ⟨j, hj, hjm⟩ := am_fst x ks hm
    have hjl : j < offs.size := by rw [← hl2]; exact (List.getElem?_eq_some_iff.mp hj).1
    have e3 : x.toInt = lo + (j : Int) := by
      have a1 : (ks.map Int32.toInt)[j]? = some x.toInt := by rw [List.getElem?_map, hj]; rfl
      rw [h3, List.getElem?_map, List.getElem?_range hjl] at a1
      exact (Option.some.inj a1).symm
    obtain ⟨tj, htj⟩ : ∃ tj, tg[j]? = some tj := ⟨tg[j]'(by omega), List.getElem?_eq_getElem (by omega)⟩
    obtain ⟨oj, hoj⟩ : ∃ oj, offs[j]? = some oj := ⟨offs[j], Array.getElem?_eq_getElem hjl⟩
    have e4 : (tj : Int) = (pc : Int) + oj := by
      have a1 : (tg.map Int.ofNat)[j]? = some (tj : Int) := by rw [List.getElem?_map, htj]; rfl
      rw [h2, List.getElem?_map, Array.getElem?_toList, hoj] at a1
      exact (Option.some.inj a1).symm
    exact lv_tableIn cx.1 cx.2.1 hd (by omega) (by omega) (off := oj) (by rw [show (x.toInt - lo).toNat = j by omega]; exact hoj) e4.symm (k1 j x tj hj htj rfl hjm p l e R s m args below meth cd E cx H locs la hR hl hlo)
  · refine lv_tableOut cx.1 cx.2.1 hd ?_ h1 (k2 (fun k hk' e => hm (e ▸ hk')) p l e R s m args below meth cd E cx H locs la hR hl hlo)
    rcases Int.lt_or_le x.toInt lo with q | q
    · exact Or.inl q
    · rcases Int.lt_or_le hi x.toInt with q2 | q2
      · exact Or.inr q2
      · exfalso
        apply hm
        have hjl : (x.toInt - lo).toNat < offs.size := by omega
        have a1 : (ks.map Int32.toInt)[(x.toInt - lo).toNat]? = some x.toInt := by
          rw [h3, List.getElem?_map, List.getElem?_range hjl]
          show some (lo + ((x.toInt - lo).toNat : Int)) = some x.toInt
          congr 1
          omega
        rw [List.getElem?_map] at a1
        obtain ⟨k', hk', e'⟩ := Option.map_eq_some_iff.mp a1
        rw [← Int32.toInt_inj.mp e']
        exact List.mem_of_getElem? hk'
theorem am_lof : ∀ (ps : List (Int × Int)) (ks : List Int32) (df : Int) (j : Nat) (q : Int × Int), ks.map Int32.toInt = ps.map Prod.fst → ks[j]? = some x → ps[j]? = some q → (∀ (i : Nat) (k : Int32), i < j → ks[i]? = some k → ¬ x = k) → Op.lookupswitch.offset ps df x.toInt = q.2 := by
  intro ps
  induction ps with
  | nil => intro ks df j q _ _ h; simp at h
  | cons p0 ps ih =>
    intro ks df j q he hj hq hn
    cases ks with
    | nil => simp at he
    | cons k ks =>
      simp only [List.map_cons, List.cons.injEq] at he
      obtain ⟨a, o⟩ := p0
      cases j with
      | zero =>
        simp at hj hq
        subst hj; subst hq
        rw [Op.lookupswitch.offset_cons, if_pos he.1.symm]
      | succ j =>
        have hne : ¬ x = k := hn 0 k (Nat.succ_pos j) rfl
        rw [lv_osw hne he.1]
        exact ih ks df j q he.2 (by simpa using hj) (by simpa using hq) (fun i k' hi hk => hn (i + 1) k' (by omega) (by simpa using hk))
theorem am_lod : ∀ (ps : List (Int × Int)) (ks : List Int32) (df : Int), ks.map Int32.toInt = ps.map Prod.fst → (∀ k ∈ ks, ¬ x = k) → Op.lookupswitch.offset ps df x.toInt = df := by
  intro ps
  induction ps with
  | nil => intro ks df _ _; rfl
  | cons p0 ps ih =>
    intro ks df he hn
    cases ks with
    | nil => simp at he
    | cons k ks =>
      simp only [List.map_cons, List.cons.injEq] at he
      obtain ⟨a, o⟩ := p0
      rw [lv_osw (hn k List.mem_cons_self) he.1]
      exact ih ks df he.2 (fun k' hk => hn k' (List.mem_cons_of_mem _ hk))
theorem am_i_lsw {df : Int} {ps : Array (Int × Int)} {len : Nat} {t : Nat} {tg : List Nat} {ks : List Int32} {imm : Int32} (hd : decode (am_by M) pc = .ok (.lookupswitch df ps, len)) (htg : am_tg (.lookupswitch df ps) pc (t :: tg) imm ks = true)
    (hk : am_Cs (fun s => am_Tri M d B C u c s Q) (am_cases x ls r h ks tg) (t, ls, r, h)) : am_Tri M d B C u c (pc, ls, .int x :: r, h) Q := by
  simp only [am_tg, am_tgt, Bool.and_eq_true, decide_eq_true_eq, List.drop_succ_cons, List.drop_zero] at htg
  obtain ⟨⟨⟨h1, h2⟩, h3⟩, h4⟩ := htg
  have hl1 : tg.length = ps.size := by have := congrArg List.length h2; simpa using this
  have hl2 : ks.length = ps.size := by have := congrArg List.length h3; simpa using this
  obtain ⟨k1, k2⟩ := am_csx (hl2.trans hl1.symm) hk
  intro p l e R s m args below meth cd E cx H locs la hR hl hlo
  by_cases hm : x ∈ ks
  · obtain ⟨j, hj, hjm⟩ := am_fst x ks hm
    have hjl : j < ps.size := by rw [← hl2]; exact (List.getElem?_eq_some_iff.mp hj).1
    obtain ⟨tj, htj⟩ : ∃ tj, tg[j]? = some tj := ⟨tg[j]'(by omega), List.getElem?_eq_getElem (by omega)⟩
    obtain ⟨oj, hoj⟩ : ∃ oj, ps.toList[j]? = some oj := ⟨ps.toList[j]'(by simpa using hjl), List.getElem?_eq_getElem (by simpa using hjl)⟩
    have e4 : (tj : Int) = (pc : Int) + oj.2 := by
      have a1 : (tg.map Int.ofNat)[j]? = some (tj : Int) := by rw [List.getElem?_map, htj]; rfl
      rw [h2, List.getElem?_map, hoj] at a1
      exact (Option.some.inj a1).symm
    exact lv_lookup cx.1 cx.2.1 hd h4 (am_lof ps.toList ks df j oj h3 hj hoj hjm) e4.symm (k1 j x tj hj htj rfl hjm p l e R s m args below meth cd E cx H locs la hR hl hlo)
  · exact lv_lookup cx.1 cx.2.1 hd h4 (am_lod ps.toList ks df h3 (fun k hk' e => hm (e ▸ hk'))) h1 (k2 (fun k hk' e => hm (e ▸ hk')) p l e R s m args below meth cd E cx H locs la hR hl hlo)
end SNW
