/-! THE REFERENCE: from a state to the end of a method -/
/-- of the reference's ints only fs, of the arrays only cs, of the longs only row 35 have changed -/
def m_Fr (fs cs : List Nat) (I A : Nat → Nat → Int32) (J : Nat → Nat → Int64) (I' A' : Nat → Nat → Int32) (J' : Nat → Nat → Int64) : Prop := (∀ x, x ≠ 29 → I' x = I x) ∧ (∀ f, f ∉ fs → I' 29 f = I 29 f) ∧ (∀ x, x ∉ cs → A' x = A x) ∧ (∀ x, x ≠ 35 → J' x = J x) ∧ (∀ x, x = 36 ∨ x = 37 → A' x 0 = A x 0)
theorem m_Fr.refl {fs cs : List Nat} {I A : Nat → Nat → Int32} {J : Nat → Nat → Int64} : m_Fr fs cs I A J I A J := ⟨fun _ _ => rfl, fun _ _ => rfl, fun _ _ => rfl, fun _ _ => rfl, fun _ _ => rfl⟩
theorem m_Fr.trans {fs cs : List Nat} {I A I1 A1 I2 A2 : Nat → Nat → Int32} {J J1 J2 : Nat → Nat → Int64} (h : m_Fr fs cs I A J I1 A1 J1) (h2 : m_Fr fs cs I1 A1 J1 I2 A2 J2) : m_Fr fs cs I A J I2 A2 J2 := ⟨fun x k => (h2.1 x k).trans (h.1 x k), fun x k => (h2.2.1 x k).trans (h.2.1 x k), fun x k => (h2.2.2.1 x k).trans (h.2.2.1 x k), fun x k => (h2.2.2.2.1 x k).trans (h.2.2.2.1 x k), fun x k => (h2.2.2.2.2 x k).trans (h.2.2.2.2 x k)⟩
theorem m_Fr.mono {fs cs fs' cs' : List Nat} {I A I1 A1 : Nat → Nat → Int32} {J J1 : Nat → Nat → Int64} (h : m_Fr fs cs I A J I1 A1 J1) (h1 : ∀ x ∈ fs, x ∈ fs') (h2 : ∀ x ∈ cs, x ∈ cs') : m_Fr fs' cs' I A J I1 A1 J1 := ⟨h.1, fun f k => h.2.1 f (fun z => k (h1 f z)), fun x k => h.2.2.1 x (fun z => k (h2 x z)), h.2.2.2⟩
theorem m_Fr.put {fs cs : List Nat} {I A : Nat → Nat → Int32} {J : Nat → Nat → Int64} {f : Nat} {v : Int32} (h : f ∈ fs) : m_Fr fs cs I A J (am_u I 29 f v) A J := ⟨fun _ k => am_uo k, fun f' k => am_un (fun z => k (z.2 ▸ h)), fun _ _ => rfl, fun _ _ => rfl, fun _ _ => rfl⟩
theorem m_Fr.set {fs cs : List Nat} {I A : Nat → Nat → Int32} {J : Nat → Nat → Int64} {a k : Nat} {v : Int32} (h : a ∈ cs) (h0 : a = 36 ∨ a = 37 → k ≠ 0 := by simp) : m_Fr fs cs I A J I (am_u A a k v) J := ⟨fun _ _ => rfl, fun _ _ => rfl, fun _ z => am_uo (fun e => z (e ▸ h)), fun _ _ => rfl, fun x hx => am_un (fun z => h0 (z.1 ▸ hx) z.2.symm)⟩
theorem m_Fr.lng {fs cs : List Nat} {I A : Nat → Nat → Int32} {J : Nat → Nat → Int64} {k : Nat} {v : Int64} : m_Fr fs cs I A J I A (am_u J 35 k v) := ⟨fun _ _ => rfl, fun _ _ => rfl, fun _ _ => rfl, fun _ z => am_uo z, fun _ _ => rfl⟩
abbrev mP : Type := Option Value → (Nat → Nat → Int32) → (Nat → Nat → Int32) → (Nat → Nat → Int64) → Prop
def m_M (fs cs : List Nat) (d M : Nat) (as : List Value) (g : List aK) (I A : Nat → Nat → Int32) (J : Nat → Nat → Int64) (X : Nat × (Nat → Int32)) (P : mP) : Prop := ∃ (I' A' : Nat → Nat → Int32) (J' : Nat → Nat → Int64) (v : Option Value), P v I' A' J' ∧ m_Fr fs cs I A J I' A' J' ∧ am_Con d M as (am_H g I A J X) (.inl v) (am_H g I' A' J' X) 0 0
def m_D (fs cs : List Nat) (M d : Nat) (g : List aK) (X : Nat × (Nat → Int32)) (I A : Nat → Nat → Int32) (J : Nat → Nat → Int64) (s0 : aS) (P : mP) : Prop := ∃ (I' A' : Nat → Nat → Int32) (J' : Nat → Nat → Int64) (v : Option Value), P v I' A' J' ∧ m_Fr fs cs I A J I' A' J' ∧ ∀ (B C u c : Nat) (Q : aO → aH → Prop), u ≤ B → c ≤ C → Q (.inl v) (am_H g I' A' J' X) → am_Tri M d B C u c s0 Q
section MDW
variable {fs cs : List Nat} {M d : Nat} {g : List aK} {X : Nat × (Nat → Int32)} {I A I1 A1 : Nat → Nat → Int32} {J J1 : Nat → Nat → Int64} {s0 t t2 : aS} {P : mP} {Pp : Prop}
theorem m_D.met {as : List Value} (hM : Nat.blt M 200 = true) (hl : Nat.ble (lg_sl as).length (am_ml M) = true) (h : m_D fs cs M d g X I A J (0, lv_args 0 as, [], am_H g I A J X) P) : m_M fs cs d M as g I A J X P := by
  obtain ⟨I', A', J', v, h1, h2, h3⟩ := h
  exact ⟨I', A', J', v, h1, h2, am_met hM hl (h3 _ _ _ _ _ (by decide) (by decide) ⟨rfl, rfl⟩)⟩
theorem m_D.back (hto : am_To M d s0 t) (hf : m_Fr fs cs I A J I1 A1 J1) (h : m_D fs cs M d g X I1 A1 J1 t P) : m_D fs cs M d g X I A J s0 P := by
  obtain ⟨I', A', J', v, h1, h2, h3⟩ := h
  exact ⟨I', A', J', v, h1, hf.trans h2, fun B C u c Q hu hc hq => hto B C u c Q hu hc (h3 B C u c Q hu hc hq)⟩
theorem m_D.yea (n : Nat) (h1d : 1 ≤ d) (hr : am_run n M s0 = am_br Pp t t2) (hp : Pp) (k : m_D fs cs M d g X I A J t P) : m_D fs cs M d g X I A J s0 P := m_D.back (fun _ _ _ _ _ _ _ k' => am_yea n h1d hr hp k') m_Fr.refl k
theorem m_D.nay (n : Nat) (h1d : 1 ≤ d) (hr : am_run n M s0 = am_br Pp t t2) (hp : ¬ Pp) (k : m_D fs cs M d g X I A J t2 P) : m_D fs cs M d g X I A J s0 P := m_D.back (fun _ _ _ _ _ _ _ k' => am_nay n h1d hr hp k') m_Fr.refl k
theorem m_D.nee (n : Nat) (h1d : 1 ≤ d) (hr : am_run n M s0 = am_nd Pp t) (hp : Pp) (k : m_D fs cs M d g X I A J t P) : m_D fs cs M d g X I A J s0 P := m_D.back (fun _ _ _ _ _ _ _ k' => am_nee n h1d hr hp k') m_Fr.refl k
theorem m_D.pla (n : Nat) (h1d : 1 ≤ d) (hr : am_run n M s0 = am_nx t) (k : m_D fs cs M d g X I A J t P) : m_D fs cs M d g X I A J s0 P := m_D.back (fun _ _ _ _ _ _ _ k' => am_pla n h1d hr k') m_Fr.refl k
/-- steps that changed the heap -/
theorem m_D.heap (hf : m_Fr fs cs I A J I1 A1 J1) (k : m_D fs cs M d g X I1 A1 J1 s0 P) : m_D fs cs M d g X I A J s0 P := m_D.back am_To.refl hf k
theorem m_D.sub {pc : Nat} {ls ls' : List (Nat × Value)} {sk : List Value} {h : aH} (ks : List Nat) (hl : lv_pick ls ks = ls') (k : m_D fs cs M d g X I A J (pc, ls', sk, h) P) : m_D fs cs M d g X I A J (pc, ls, sk, h) P := m_D.back (fun _ _ _ _ _ _ _ k' => am_sub ks hl k') m_Fr.refl k
theorem m_D.swi {l : List (Prop × aS)} {s1 : aS} (n : Nat) (h1d : 1 ≤ d) (hr : am_run n M s0 = am_sw l s1) (hp : am_pick l s1 t) (k : m_D fs cs M d g X I A J t P) : m_D fs cs M d g X I A J s0 P := m_D.back (fun _ _ _ _ _ _ _ k' => am_swi n h1d hr hp k') m_Fr.refl k
theorem m_D.cav {n M' d' nx : Nat} {as' : List Value} {ls : List (Nat × Value)} {sk : List Value} {v : Value} {h0 : aH} (h1d : 1 ≤ d) (hr : am_run n M s0 = am_ca M' as' (nx, ls, sk, h0)) (hcon : am_Con d' M' as' h0 (.inl (some v)) (am_H g I1 A1 J1 X) 0 0) (hd : d' + 1 ≤ d) (hf : m_Fr fs cs I A J I1 A1 J1) (k : m_D fs cs M d g X I1 A1 J1 (nx - 3 + 3, ls, v :: sk, am_H g I1 A1 J1 X) P) : m_D fs cs M d g X I A J s0 P := m_D.back (fun _ _ _ _ _ hu hc k' => am_cav n h1d hr hcon hd hu hc k') hf k
theorem m_D.can {n M' d' nx : Nat} {as' : List Value} {ls : List (Nat × Value)} {sk : List Value} {h0 : aH} (h1d : 1 ≤ d) (hr : am_run n M s0 = am_ca M' as' (nx, ls, sk, h0)) (hcon : am_Con d' M' as' h0 (.inl none) (am_H g I1 A1 J1 X) 0 0) (hd : d' + 1 ≤ d) (hf : m_Fr fs cs I A J I1 A1 J1) (k : m_D fs cs M d g X I1 A1 J1 (nx - 3 + 3, ls, sk, am_H g I1 A1 J1 X) P) : m_D fs cs M d g X I A J s0 P := m_D.back (fun _ _ _ _ _ hu hc k' => am_can n h1d hr hcon hd hu hc k') hf k
theorem m_D.call {n M' d' nx : Nat} {as' : List Value} {ls : List (Nat × Value)} {sk : List Value} {P' : mP} (h1d : 1 ≤ d) (hr : am_run n M s0 = am_ca M' as' (nx, ls, sk, am_H g I A J X)) (hd : d' + 1 ≤ d) (hcon : m_M fs cs d' M' as' g I A J X P') (k : ∀ v I1 A1 J1, P' v I1 A1 J1 → m_Fr fs cs I A J I1 A1 J1 → m_D fs cs M d g X I1 A1 J1 (nx - 3 + 3, ls, (match v with
    | some v => v :: sk
    | none => sk), am_H g I1 A1 J1 X) P) : m_D fs cs M d g X I A J s0 P := by
  obtain ⟨I1, A1, J1, v, h1, h2, h3⟩ := hcon
  have hk := k v I1 A1 J1 h1 h2
  cases v with
  | none => exact m_D.can h1d hr h3 hd h2 hk
  | some v => exact m_D.cav h1d hr h3 hd h2 hk
theorem m_D.ret {v : Option Value} (n : Nat) (h1d : 1 ≤ d) (hr : am_run n M s0 = am_rt Pp (.inl v) (am_H g I1 A1 J1 X)) (hp : Pp) (hf : m_Fr fs cs I A J I1 A1 J1) (h : P v I1 A1 J1) : m_D fs cs M d g X I A J s0 P := ⟨I1, A1, J1, v, h, hf, fun _ _ _ _ _ hu hc hq => am_end n h1d hr hp hu hc hq⟩
theorem m_D.mono {P2 : mP} (h : m_D fs cs M d g X I A J s0 P) (hR : ∀ v I' A' J', P v I' A' J' → m_Fr fs cs I A J I' A' J' → P2 v I' A' J') : m_D fs cs M d g X I A J s0 P2 := by
  obtain ⟨I', A', J', v, h1, h2, h3⟩ := h
  exact ⟨I', A', J', v, hR v I' A' J' h1 h2, h2, h3⟩
theorem m_M.mono {as : List Value} {P2 : mP} (h : m_M fs cs d M as g I A J X P) (hR : ∀ v I' A' J', P v I' A' J' → m_Fr fs cs I A J I' A' J' → P2 v I' A' J') : m_M fs cs d M as g I A J X P2 := by
  obtain ⟨I', A', J', v, h1, h2, h3⟩ := h
  exact ⟨I', A', J', v, hR v I' A' J' h1 h2, h2, h3⟩
theorem m_M.wide {as : List Value} {fs' cs' : List Nat} (h : m_M fs cs d M as g I A J X P) (h1 : ∀ x ∈ fs, x ∈ fs') (h2 : ∀ x ∈ cs, x ∈ cs') : m_M fs' cs' d M as g I A J X P := by
  obtain ⟨I', A', J', v, k1, k2, k3⟩ := h
  exact ⟨I', A', J', v, k1, k2.mono h1 h2, k3⟩
theorem m_M.wid2 {as : List Value} {fs' cs' : List Nat} (h : m_M fs cs d M as g I A J X P) (h1 : ∀ x ∈ fs, x ∈ fs') (h2 : ∀ x ∈ cs, x ∈ cs') : m_M fs' cs' d M as g I A J X (fun v I' A' J' => P v I' A' J' ∧ m_Fr fs cs I A J I' A' J') := by
  obtain ⟨I', A', J', v, k1, k2, k3⟩ := h
  exact ⟨I', A', J', v, ⟨k1, k2⟩, k2.mono h1 h2, k3⟩
end MDW
/-! THE REFERENCE'S SCANNER: its state -/
def m_wd : List Int64 := [0x6966, 0x656C6966, 0x656C7365, 0x7768696C65, 0x646566, 0x72657475726E, 0x70617373, 0x627265616B, 0x616E64, 0x6F72, 0x6E6F74]
/-- a mark's code -/
def m_cd (k : Int32) : Int64 := if k < 11 then 0 else if k < 22 then m_wd.getD (k.toNatClampNeg - 11) 0 else if k < 128 then k.toInt64 else (k + 128).toInt64
/-- nothing was refused -/
abbrev m_K (I : Nat → Nat → Int32) : Prop := I 29 3 = 0 ∧ I 29 4 = -1
def m_Tk (I A : Nat → Nat → Int32) (J : Nat → Nat → Int64) (m : Nat) (tk : Nat → aT) : Prop := I 29 11 = nI m ∧ m ≤ 120 ∧ (∀ k, k < m → A 32 k = (tk k).1 ∧ A 33 k = nI (tk k).2.2.1 ∧ A 34 k = nI (tk k).2.2.2 ∧ J 35 k = m_cd (tk k).2.1) ∧ m_K I
def m_T (tx : Nat → Int32) (n : Nat) (I A : Nat → Nat → Int32) : Prop := I 29 6 = nI n ∧ n ≤ 600 ∧ (∀ k, k < n → A 31 k = tx k) ∧ ∀ k, k < n → c_char (tx k) = true
def m_S (z : aW) (I A : Nat → Nat → Int32) (J : Nat → Nat → Int64) : Prop := match z with
  | (_, l, ws, bs, m, tk) => I 29 17 = am_b (!l) ∧ I 29 14 = nI ws.length ∧ ws.length ≤ 9 ∧ c_W (A 36) (A 37) ws ∧ I 29 19 = nI bs.length ∧ bs.length ≤ 8 ∧ c_P (A 38) bs ∧ (∀ b ∈ bs, b < 600) ∧ m_Tk I A J m tk
def m_fs : List Nat := [3, 4, 11, 14, 15, 16, 17, 19]
def m_cs : List Nat := [32, 33, 34, 36, 37, 38]
/-- the place behind, or none -/
def m_Rp (r : Except aF aW) : mP := fun v I' A' J' => match r with
  | .ok z => v = some (.int (nI z.1)) ∧ m_S z I' A' J'
  | .error q => v = some (.int (-1)) ∧ I' 29 3 = q.1 ∧ I' 29 4 = nI q.2
/-- yes or no -/
def m_Rb (r : Except aF aW) : mP := fun v I' A' J' => match r with
  | .ok z => v = some (.int 1) ∧ m_S z I' A' J'
  | .error q => v = some (.int 0) ∧ I' 29 3 = q.1 ∧ I' 29 4 = nI q.2
section MSC
variable {g : List aK} {X : Nat × (Nat → Int32)} {I A : Nat → Nat → Int32} {J : Nat → Nat → Int64} {tx : Nat → Int32} {n : Nat}
theorem y_fault {w p : Int32} : am_Con 1 131 [.ref 29, .int w, .int p] (am_H g I A J X) (.inl (some (.int 0))) (am_H g (am_u (am_u I 29 3 w) 29 4 p) A J X) 0 0 := by
  refine am_met rfl rfl ?_
  exact am_end 12 (by decide) rfl (Or.inl rfl) (by decide) (by decide) ⟨rfl, rfl⟩
theorem m_T.put {f : Nat} {v : Int32} (h : m_T tx n I A) (hf : f ≠ 6) : m_T tx n (am_u I 29 f v) A := ⟨by rw [am_un (fun z => hf z.2.symm)]; exact h.1, h.2⟩
theorem m_T.Fr {I' A' : Nat → Nat → Int32} {J' : Nat → Nat → Int64} (h : m_T tx n I A) (hf : m_Fr m_fs m_cs I A J I' A' J') : m_T tx n I' A' := ⟨by rw [hf.2.1 6 (by decide)]; exact h.1, h.2.1, fun k hk => by rw [hf.2.2.1 31 (by decide)]; exact h.2.2.1 k hk, h.2.2.2⟩
/-- the character, or -1 -/
def s_cx (tx : Nat → Int32) (n p : Nat) : Int32 := if p < n then tx p else -1
theorem y_char {p : Nat} (h : m_T tx n I A) (hp : p < 2 ^ 31) : am_Con 1 132 [.ref 29, .int (nI p)] (am_H g I A J X) (.inl (some (.int (s_cx tx n p)))) (am_H g I A J X) 0 0 := by
  refine am_met rfl rfl ?_
  have hn := h.2.1
  unfold s_cx
  by_cases c : p < n
  · rw [if_pos c]
    refine am_nay 9 (by decide) rfl (by rw [h.1]; exact nI_ge c (by omega)) ?_
    refine am_nee 9 (by decide) rfl (nI_in (show p < 600 by omega) (by decide)) ?_
    refine am_end 9 (by decide) rfl trivial (by decide) (by decide) ⟨?_, rfl⟩
    rw [nI_clamp hp, h.2.2.1 p c]
  · rw [if_neg c]
    refine am_yea 9 (by decide) rfl (by rw [h.1]; exact nI_le (by omega) hp) ?_
    exact am_end 9 (by decide) rfl trivial (by decide) (by decide) ⟨rfl, rfl⟩
theorem y_add0 {k mk : Int32} {e p : Nat} {l : Bool} {ws : List (Nat × Nat)} {bs : List Nat} {m : Nat} {tk : Nat → aT} (hz : m_S (p, l, ws, bs, m, tk) I A J) : m_M [3, 4, 11] [32, 33, 34] 2 136 [.ref 29, .int k, .int (nI p), .int (nI e), .long (m_cd mk)] g I A J X (m_Rb (s_take k mk e (p, l, ws, bs, m, tk))) := by
  obtain ⟨h2, h3, h5, h6, h7, h8, h9, h12, ht⟩ := hz
  refine m_D.met rfl rfl ?_
  unfold s_take
  dsimp only
  by_cases c1 : m < 120
  · rw [if_pos c1]
    refine m_D.yea 9 (by decide) rfl (by rw [ht.1]; intro z; have := nI_inj (b := 120) (by omega) (by omega) z; omega) ?_
    have hin : ¬ (I 29 11 < 0 ∨ 120 ≤ (I 29 11).toNatClampNeg) := by rw [ht.1]; exact nI_in c1 (by decide)
    have e11 : (I 29 11).toNatClampNeg = m := by rw [ht.1, nI_clamp (by omega)]
    refine m_D.nee 9 (by decide) rfl hin ?_
    refine m_D.nee 9 (by decide) rfl hin ?_
    refine m_D.nee 9 (by decide) rfl hin ?_
    refine m_D.nee 9 (by decide) rfl hin ?_
    refine m_D.ret 12 (by decide) rfl (Or.inr rfl) (((((m_Fr.set (by decide)).trans (m_Fr.set (by decide))).trans (m_Fr.set (by decide))).trans m_Fr.lng).trans (m_Fr.put (by decide))) ?_
    rw [e11, ht.1, nI_1]
    refine ⟨rfl, ?_, ?_, h5, ?_, ?_, h8, ?_, h12, ⟨am_uk, by omega, fun j hj => ?_, by simpa [m_K, am_u] using ht.2.2.2⟩⟩
    · simpa [am_u] using h2
    · simpa [am_u] using h3
    · simpa [am_uo] using h6
    · simpa [am_u] using h7
    · simpa [am_uo] using h9
    · by_cases e1 : j = m
      · subst e1
        simp [am_u]
      · have h1 := ht.2.2.1 j (by omega)
        simp only [if_neg e1]
        simp [am_u, e1, h1]
  · rw [if_neg c1]
    have hm' : m = 120 := by have := ht.2.1; omega
    refine m_D.nay 9 (by decide) rfl (by rw [ht.1, hm']; exact fun z => z rfl) ?_
    refine m_D.cav (n := 9) (by decide) rfl y_fault (by decide) ((m_Fr.put (by decide)).trans (m_Fr.put (by decide))) ?_
    refine m_D.ret 9 (by decide) rfl (Or.inl rfl) m_Fr.refl ⟨rfl, by simp [am_u], by simp [am_u]⟩
theorem y_add {k mk : Int32} {e p : Nat} {l : Bool} {ws : List (Nat × Nat)} {bs : List Nat} {m : Nat} {tk : Nat → aT} (hz : m_S (p, l, ws, bs, m, tk) I A J) : m_M m_fs m_cs 2 136 [.ref 29, .int k, .int (nI p), .int (nI e), .long (m_cd mk)] g I A J X (fun v I' A' J' => m_Rb (s_take k mk e (p, l, ws, bs, m, tk)) v I' A' J' ∧ m_Fr [3, 4, 11] [32, 33, 34] I A J I' A' J') := (y_add0 hz).wid2 (by decide) (by decide)
theorem y_end {p : Nat} (h : m_T tx n I A) (hp : p ≤ n) : am_Con 1 137 [.ref 29, .int (nI p)] (am_H g I A J X) (.inl (some (.int (nI (s_nl tx n p))))) (am_H g I A J X) 0 0 := by
  have hn := h.2.1
  have loop : ∀ (f p q : Nat), p + f = n → am_To 137 1 (2, [(2, .int (nI p)), (0, .ref 29), (1, .int (nI q))], [], am_H g I A J X) (27, [(2, .int (nI (s_run (fun k => !decide (tx k = 10)) f p))), (0, .ref 29), (1, .int (nI q))], [], am_H g I A J X) := by
    intro f
    induction f with
    | zero =>
      intro p q hf B C u c Q hu hc k
      unfold s_run at k
      exact am_yea 9 (by decide) rfl (by rw [h.1]; exact nI_le (by omega) (by omega)) k
    | succ f ih =>
      intro p q hf B C u c Q hu hc k
      unfold s_run at k
      refine am_nay 9 (by decide) rfl (by rw [h.1]; exact nI_ge (by omega) (by omega)) ?_
      refine am_nee 9 (by decide) rfl (nI_in (show p < 600 by omega) (by decide)) ?_
      have e1 : A 31 (nI p).toNatClampNeg = tx p := by rw [nI_clamp (by omega), h.2.2.1 p (by omega)]
      by_cases c10 : tx p = 10
      · rw [if_neg (by simp [c10])] at k
        exact am_yea 9 (by decide) rfl (by rw [e1]; exact c10) k
      · rw [if_pos (by simp [c10])] at k
        refine am_nay 9 (by decide) rfl (by rw [e1]; exact c10) ?_
        refine am_pla 2 (by decide) rfl ?_
        rw [nI_1]
        exact ih (p + 1) q (by omega) B C u c Q hu hc k
  refine am_met rfl rfl ?_
  refine am_pla 2 (by decide) rfl ?_
  refine loop (n - p) p p (by omega) _ _ _ _ _ (by decide) (by decide) ?_
  exact am_end 9 (by decide) rfl trivial (by decide) (by decide) ⟨rfl, rfl⟩
end MSC
