/-! SOUND: Object(), the ends -/
section SNE
variable {p : Program} {l : Launch} {e : Env} {R : Room} {s : State} {m : MethodId} {args : Array Value} {below : List Frame} {meth : Method} {cd : Code} {H : Heap} {locs : List Loc} {cells slots : Nat}
theorem xm_iret {cc : ByteArray} {Qc : Array Value → State → Outcome → State → Prop} {free : Addr → Prop} {v : Int32} {ty : FieldType} (hexec : p.tables.exec = Jvm.exec) (hb : cd.code = cc) (hr : meth.sig.returnType = some ty) (hn : narrow ty (.int v) = .int v)
    (hq : ∀ t : State, t.heap = H → s.WarmedH t.vm → Qc args s (.returned (some (.int v))) t) (hf : ∀ q ∈ locs, free q.base)
    {pc : Nat} {ls : Array Slot} (hdg : decode cc pc = .ok (.ireturn, 1)) (hlocks : meth.locks = false) : W p l e R s m args below meth cd H locs cells slots (xm_MQ below Qc args s cells slots free) (F0 m pc ls [.int v]) := by
  intro T hT X
  obtain ⟨fs, hret, hrun, hended, hW, hframe⟩ := X.leave (v := some (.int v)) (fun h => by rw [hr] at h; cases h) hlocks
  have hmeth' : T.vm.method? m = some meth := X.method'
  refine ⟨T.setFrames fs, ?_, .returned (some (.int v)), hrun, hended, hq _ hT hW, locs, hW, hframe, hf⟩
  jvm_step X.here [X.here.top, hexec, hb, hdg, hmeth', hr, hn]
  (try refine ⟨rfl, ?_⟩); (try refine ⟨rfl, ?_⟩)
  first | (intro acts; rw [hret _ acts rfl rfl rfl]) | rw [hret _ _ rfl rfl rfl]
  exact Steps.refl _
theorem xm_vret {cc : ByteArray} {Qc : Array Value → State → Outcome → State → Prop} {free : Addr → Prop} (hexec : p.tables.exec = Jvm.exec) (hb : cd.code = cc) (hr : meth.sig.returnType = none)
    (hq : ∀ t : State, t.heap = H → s.WarmedH t.vm → Qc args s (.returned none) t) (hf : ∀ q ∈ locs, free q.base)
    {pc : Nat} {ls : Array Slot} (hdg : decode cc pc = .ok (.return_, 1)) (hlocks : meth.locks = false) : W p l e R s m args below meth cd H locs cells slots (xm_MQ below Qc args s cells slots free) (F0 m pc ls []) := by
  intro T hT X
  obtain ⟨fs, hret, hrun, hended, hW, hframe⟩ := X.leave (v := none) (fun _ => rfl) hlocks
  have hmeth' : T.vm.method? m = some meth := X.method'
  refine ⟨T.setFrames fs, ?_, .returned none, hrun, hended, hq _ hT hW, locs, hW, hframe, hf⟩
  jvm_step X.here [X.here.top, hexec, hb, hdg, hmeth', hr]
  (try refine ⟨rfl, ?_⟩); (try refine ⟨rfl, ?_⟩)
  first | (intro acts; rw [hret _ acts rfl rfl rfl]) | rw [hret _ _ rfl rfl rfl]
  exact Steps.refl _
end SNE
section SNF
variable {M d B C u c : Nat} {Q : aO → aH → Prop} {pc : Nat} {ls : List (Nat × Value)} {r : List Value} {h : aH} {x : Int32} {cp a : Nat}
theorem am_Re {E : aE} {s t : State} {H : Heap} (hR : am_R E h s H) (ht : t.heap = H) (hW : s.WarmedH t.vm) : am_R E h t t.heap := by
  rw [ht]
  exact hR.moved hW.alike
theorem am_i_ret {ty : FieldType} (hre : am_re M = some ty) (hn : narrow ty (.int x) = .int x) (hu : u ≤ B) (hc : c ≤ C) (hd : decode (am_by M) pc = .ok (.ireturn, 1)) (hq : Q (.inl (some (.int x))) h) : am_Tri M d B C u c (pc, ls, [.int x], h) Q := by
  intro p l e R s m args below meth cd E cx H locs la hR hl hlo
  refine W.widen hu hc ?_
  exact xm_iret cx.1 cx.2.1 (by rw [cx.2.2.2.1]; exact hre) hn (fun t ht hW => ⟨_, h, hq, am_Re hR ht hW, rfl⟩) hlo hd cx.2.2.2.2.1
theorem am_i_retv (hre : am_re M = none) (hu : u ≤ B) (hc : c ≤ C) (hd : decode (am_by M) pc = .ok (.return_, 1)) (hq : Q (.inl none) h) : am_Tri M d B C u c (pc, ls, [], h) Q := by
  intro p l e R s m args below meth cd E cx H locs la hR hl hlo
  refine W.widen hu hc ?_
  exact xm_vret cx.1 cx.2.1 (by rw [cx.2.2.2.1]; exact hre) (fun t ht hW => ⟨_, h, hq, am_Re hR ht hW, rfl⟩) hlo hd cx.2.2.2.2.1
theorem am_ob1 : Jvm.Cond.instanceMethod objectInit ∈ lw_tbl := by decide +kernel
theorem am_ob2 : Jvm.Cond.code objectInit ⟨#[0xb1]⟩ 1 none ∈ lw_tbl := by decide +kernel
theorem am_vcats (E : aE) (r : List Value) : ((r.map (am_v E)).map fun v => v.category).sum = (r.map Value.category).sum := by
  rw [List.map_map]
  congr 1
  apply List.map_congr_left
  intro v _
  exact am_v_cat E v
theorem am_i_oinit {wi : Nat} (hk : (am_or.getD (am_own M) []).lookup cp = some wi) (h8 : (r.map Value.category).sum ≤ 8) (hd1 : 1 ≤ d) (hd : decode (am_by M) pc = .ok (.invokespecial cp, 3)) (kk : am_Tri M d B C u c (pc + 3, ls, r, h) Q) : am_Tri M d B C u c (pc, ls, .ref a :: r, h) Q := by
  intro p l e R s m args below meth cd E cx H locs la hR hl hlo
  obtain ⟨hx, hb, hml, hr, hlocks, hname, hown, hG, htr, hex, hRm, hbs, hvn, hol, hE0, hfl⟩ := id cx
  have h1 := am_of am_oall rfl hk
  simp only [am_rowO, decide_eq_true_eq] at h1
  obtain ⟨i1, w1⟩ := List.getElem?_of_mem am_ob1
  obtain ⟨i2, w2⟩ := List.getElem?_of_mem am_ob2
  refine W.objInit hx hb hown (hG.1.use h1 rfl args) (hG.1.use w1 rfl args) (hG.1.use w2 rfl args) rfl (by rw [hml]; exact hl.1) rfl hd (by rw [hRm]; exact hd1) ?_ (kk p l e R s m args below meth cd E cx H locs la hR hl hlo)
  rw [hRm, am_vcats]
  show 2 * 0 + _ + 12 ≤ 40 * d
  omega
end SNF
