/-! SOUND: Preconditions.checkIndex, which String.checkIndex calls -/
def am_pck : MethodName := ⟨"jdk/internal/util/Preconditions", "checkIndex", "(IILjava/util/function/BiFunction;)I"⟩
theorem am_pcm (l : Launch) {i n : Int32} {v : Value} (hv : v.category = 1) (h0 : ¬ i < 0) (h1 : i < n) (free : Addr → Prop) :
    xm_Met l am_pck (Jvm.Cond.code am_pck prog_24_method_11_code 3 (some .int)) (am_room 0 0 0) (fun a _ => a = #[.int i, .int n, v]) (fun _ st o t => o = .returned (some (.int i)) ∧ t.heap = st.heap) 0 0 free := by
  refine xm_of (cc := prog_24_method_11_code) (maxL := 3) (ret := some .int) (by decide) (fun args s hw => xm_code_of hw) ?_
  intro p e s m args below meth c s₁ B' hml hP
  subst hP
  have he : entryFrame m #[Value.int i, Value.int n, v] 3 = F0 m 0 #[.val (.int i), .val (.int n), .val v] [] := by
    have := lg_entry_eq m [Value.int i, Value.int n, v] 3
    rw [show #[Value.int i, Value.int n, v] = [Value.int i, Value.int n, v].toArray from rfl, this]
    cases v <;> first | rfl | (simp [Value.category] at hv)
  rw [he]
  have hb := B'.bytes
  have hx := B'.exec
  refine lv_iload_n hx hb (k := 0) (i := 0) (x := i) (by decide +kernel) rfl (by rfl) ?_
  refine lv_if_lt hx hb (off := 8) (tgt := 9) (by decide +kernel) (by decide) (fun h => absurd h h0) fun _ => ?_
  refine lv_iload_n hx hb (k := 0) (i := 0) (x := i) (by decide +kernel) rfl (by rfl) ?_
  refine lv_iload_n hx hb (k := 1) (i := 1) (x := n) (by decide +kernel) rfl (by rfl) ?_
  refine lv_icmp_lt hx hb (off := 10) (tgt := 16) (by decide +kernel) (by decide) (fun _ => ?_) (fun h => absurd h1 h)
  refine lv_iload_n hx hb (k := 0) (i := 0) (x := i) (by decide +kernel) rfl (by rfl) ?_
  exact xm_iret hx hb B'.returns rfl (fun t ht _ => ⟨rfl, ht⟩) (fun q hq => by cases hq) (by decide +kernel) B'.notSynchronized
theorem am_d8a : decode (am_by 8) 2 = .ok (.getstatic 1053, 3) := by decide +kernel
theorem am_d8b : decode (am_by 8) 5 = .ok (.invokestatic 1059, 3) := by decide +kernel
section SCK
variable {d B C u c : Nat} {Q : aO → aH → Prop} {ls : List (Nat × Value)} {r : List Value} {h : aH}
theorem am_j_chk {i n : Int32} (h0 : ¬ i < 0) (h1 : i < n) (h1d : 1 ≤ d) (hu : u ≤ B) (hc : c ≤ C) (h8 : (r.map Value.category).sum ≤ 8) (kk : am_Tri 8 d B C u c (9, ls, r, h) Q) : am_Tri 8 d B C u c (2, ls, .int n :: .int i :: r, h) Q := by
  intro p l e R s m args below meth cd E cx H locs la hR hl hlo
  obtain ⟨hx, hb, hml, hr, hlocks, hname, hown, hG, htr, hex, hRm, hbs, hvn, hol, hE0, hfl⟩ := id cx
  have key : ∀ v : Value, v.category = 1 → W p l e R s m args below meth cd H locs u c (xm_MQ below (am_Qc E Q) args s B C (fun q => E.1 ≤ q)) (F0 m 5 la (v :: .int n :: .int i :: r.map (am_v E))) := by
    intro v hv T hT X
    have w1 : (Jvm.Cond.code am_pck prog_24_method_11_code 3 (some .int)) ∈ lw_tbl := by decide +kernel
    have w2 : (Jvm.Cond.methodLink "java/lang/String" 1059 am_pck) ∈ lw_tbl := by decide +kernel
    have w3 : (Jvm.Cond.static am_pck) ∈ lw_tbl := by decide +kernel
    have w4 : (Jvm.Cond.initialized am_pck.cls) ∈ lw_tbl := by decide +kernel
    obtain ⟨i1, w1⟩ := List.getElem?_of_mem w1
    obtain ⟨i2, w2⟩ := List.getElem?_of_mem w2
    obtain ⟨i3, w3⟩ := List.getElem?_of_mem w3
    obtain ⟨i4, w4⟩ := List.getElem?_of_mem w4
    have hE := xm_entS (rest := r.map (am_v E)) X hx hown (hG.1.use w2 rfl args) (hG.1.use w3 rfl args) (hG.1.use w4 rfl args) (xm_code_of (hG.1.use w1 rfl args)) ⟨by decide, by decide⟩ (g := F0 m 5 la (v :: .int n :: .int i :: r.map (am_v E))) rfl (argsL := [.int i, .int n, v]) (fun sig hs => by
      have : parseMethodDescriptor am_pck.desc = some sig := hs
      rw [show (parseMethodDescriptor am_pck.desc) = some ⟨[.int, .int, .object "java/util/function/BiFunction"], some .int⟩ from by decide +kernel] at this
      cases this
      rfl) rfl (by rw [hb]; exact am_d8b)
    obtain ⟨oc, st, t, Bs, L, e1, e2, X', ⟨hq1, hq2⟩, hL, e3, e4, hWt, stp⟩ := xm_call hE (am_pcm l hv h0 h1 (fun q => E.1 ≤ q)) (by rw [hRm]; exact h1d) (maxL := 3) (by rw [hRm]; show 8 + (3 + 11) + 40 * 0 ≤ 40 * d; omega) rfl (by rw [hml]; exact hl.1) (len := 3) (ig := .invokestatic 1059) (by rw [hb]; exact am_d8b)
      (by show 2 * 0 + _ ≤ 8; rw [am_vcats]; omega) (bytes := prog_24_method_11_code) (ret := some .int) (fun U hU => ⟨(hG.1.warm hU).use w1 rfl _, xm_code_of ((hG.1.warm hU).use w1 rfl #[]), (hG.1.warm hU).use w4 rfl _⟩) (by rw [hRm]; exact hu) (by rw [hRm]; exact hc) (fun U hU hW => rfl)
    subst hq1
    have hRs : am_R E h s Bs.heap := by rw [e3, hq2, e1, hT]; exact hR
    have hlo' : ∀ q ∈ locs ++ L, E.1 ≤ q.base := fun q hq => (List.mem_append.mp hq).elim (hlo q) (hL q)
    obtain ⟨tt, a1, a2⟩ := lv_pop (va := .int i) (pc := 8) hx hb (by decide +kernel) rfl (kk p l e R s m args below meth cd E cx Bs.heap (locs ++ L) la hRs hl hlo') Bs rfl X'
    exact ⟨tt, stp _ a1, a2⟩
  have w5 : (Jvm.Cond.fieldLink "java/lang/String" 1053 "jdk/internal/util/Preconditions" "SIOOBE_FORMATTER" "Ljava/util/function/BiFunction;") ∈ lw_tbl := by decide +kernel
  obtain ⟨i5, w5⟩ := List.getElem?_of_mem w5
  rcases (hG.2.2.2.2.2.1.2).kept (fun a ha _ => hR.old a ha) with hz | ⟨t, hz⟩
  · obtain ⟨cf, kf, fi, f, a, cell, g1, g2, g3, g4, g5, g6, g7, g8⟩ := hz
    exact W.gets hx hb hown (hG.1.use w5 rfl args) g1 g2 g3 g4 g5 (fun e => by rw [e] at g6; cases g6) g7 rfl am_d8a (key _ rfl)
  · obtain ⟨cf, kf, fi, f, a, cell, g1, g2, g3, g4, g5, g6, g7, g8⟩ := hz
    exact W.gets hx hb hown (hG.1.use w5 rfl args) g1 g2 g3 g4 g5 (fun e => by rw [e] at g6; cases g6) g7 rfl am_d8a (key _ rfl)
end SCK
