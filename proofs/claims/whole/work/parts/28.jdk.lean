/-! RULES TO RUN BY; the contracts of Math and String -/
section RUL
variable {M d B C u c M' d' B' C' nx k X : Nat} {Q : aO → aH → Prop} {s t t2 : aS} {R : aR} {h h' : aH} {o : aO} {ls : List (Nat × Value)} {sk as : List Value} {P : Prop} {v : Value}
theorem am_go (n : Nat) (h1d : 1 ≤ d) (hr : am_run n M s = R) (hk : am_Wp M d B C u c R Q) : am_Tri M d B C u c s Q := am_run_ok h1d n (by rw [hr]; exact hk)
/-- a branch -/
theorem am_bra (n : Nat) (h1d : 1 ≤ d) (hr : am_run n M s = am_br P t t2) (k1 : P → am_Tri M d B C u c t Q) (k2 : ¬ P → am_Tri M d B C u c t2 Q) : am_Tri M d B C u c s Q := am_go n h1d hr ⟨k1, k2⟩
theorem am_yea (n : Nat) (h1d : 1 ≤ d) (hr : am_run n M s = am_br P t t2) (hp : P) (k1 : am_Tri M d B C u c t Q) : am_Tri M d B C u c s Q := am_go n h1d hr ⟨fun _ => k1, fun h => absurd hp h⟩
theorem am_nay (n : Nat) (h1d : 1 ≤ d) (hr : am_run n M s = am_br P t t2) (hp : ¬ P) (k2 : am_Tri M d B C u c t2 Q) : am_Tri M d B C u c s Q := am_go n h1d hr ⟨fun h => absurd h hp, fun _ => k2⟩
theorem am_nee (n : Nat) (h1d : 1 ≤ d) (hr : am_run n M s = am_nd P t) (hp : P) (k1 : am_Tri M d B C u c t Q) : am_Tri M d B C u c s Q := am_go n h1d hr ⟨hp, k1⟩
theorem am_end (n : Nat) (h1d : 1 ≤ d) (hr : am_run n M s = am_rt P o h) (hp : P) (hu : u ≤ B) (hc : c ≤ C) (hq : Q o h) : am_Tri M d B C u c s Q := am_go n h1d hr ⟨hp, hu, hc, hq⟩
theorem am_new1 (n : Nat) {m : Nat} (h1d : 1 ≤ d) (hr : am_run n M s = am_al P m t) (hp : P) (hu : u + 1 ≤ B) (hc : c + m ≤ C) (k1 : am_Tri M d B C (u + 1) (c + m) t Q) : am_Tri M d B C u c s Q := am_go n h1d hr ⟨hp, hu, hc, k1⟩
theorem am_thw (n : Nat) (h1d : 6 ≤ d) (hr : am_run n M s = am_th X k h) (hu : u + 1 ≤ B) (hc : c + 6 ≤ C) (hq : Q (.inr (X, k)) h) : am_Tri M d B C u c s Q := am_go n (by omega) hr ⟨h1d, hu, hc, hq⟩
/-- a call that returns a value; nothing; throws -/
theorem am_cav (n : Nat) (h1d : 1 ≤ d) (hr : am_run n M s = am_ca M' as (nx, ls, sk, h)) (hcon : am_Con d' M' as h (.inl (some v)) h' B' C') (hd : d' + 1 ≤ d) (hB : u + B' ≤ B) (hC : c + C' ≤ C) (hk : am_Tri M d B C (u + B') (c + C') (nx - 3 + 3, ls, v :: sk, h') Q) : am_Tri M d B C u c s Q :=
  am_go n h1d hr ⟨d', _, h', B', C', hcon, hd, hB, hC, hk⟩
theorem am_can (n : Nat) (h1d : 1 ≤ d) (hr : am_run n M s = am_ca M' as (nx, ls, sk, h)) (hcon : am_Con d' M' as h (.inl none) h' B' C') (hd : d' + 1 ≤ d) (hB : u + B' ≤ B) (hC : c + C' ≤ C) (hk : am_Tri M d B C (u + B') (c + C') (nx - 3 + 3, ls, sk, h') Q) : am_Tri M d B C u c s Q :=
  am_go n h1d hr ⟨d', _, h', B', C', hcon, hd, hB, hC, hk⟩
theorem am_cat (n : Nat) (h1d : 1 ≤ d) (hr : am_run n M s = am_ca M' as (nx, ls, sk, h)) (hcon : am_Con d' M' as h (.inr (X, k)) h' B' C') (hd : d' + 1 ≤ d) (hB : u + B' ≤ B) (hC : c + C' ≤ C) (hs : am_hs M = []) (hq : Q (.inr (X, k)) h') : am_Tri M d B C u c s Q := by
  refine am_go n h1d hr ⟨d', _, h', B', C', hcon, hd, hB, hC, ?_⟩
  show am_Thr M d B C (u + B') (c + C') (nx - 3) ls X k h' Q
  unfold am_Thr
  rw [hs]
  exact ⟨hB, hC, hq⟩
/-- a call of a text's own method -/
theorem am_txc {pc cp i : Nat} {K : List aK} {I A : Nat → Nat → Int32} {J : Nat → Nat → Int64} {Z : Nat × (Nat → Int32)} {st : List Value} (hd : decode (am_by M) pc = .ok (.invokevirtual cp, 3)) (hr : am_x M (.invokevirtual cp) pc (pc + 3) [] 0 [] ls st (K, I, A, J, Z) = (match am_ckc 0 M' (.retAddr i :: as) K sk with | true => am_ca M' (.retAddr i :: as) (nx, ls, sk, (K, I, A, J, Z)) | false => none)) (hck : am_ckc 0 M' (.retAddr i :: as) K sk = true)
    (hcon : am_Con d' M' (.retAddr i :: as) (K, I, A, J, Z) (.inl (some v)) h' B' C') (hd' : d' + 1 ≤ d) (hB : u + B' ≤ B) (hC : c + C' ≤ C) (hk : am_Tri M d B C (u + B') (c + C') (nx - 3 + 3, ls, v :: sk, h') Q) : am_Tri M d B C u c (pc, ls, st, (K, I, A, J, Z)) Q := by
  refine am_z_inv0 (tg := []) (imm := 0) (ks := []) hd ?_
  rw [hr, hck]
  exact ⟨d', _, h', B', C', hcon, hd', hB, hC, hk⟩
theorem am_met (hM : Nat.blt M 200 = true) (hl : Nat.ble (lg_sl as).length (am_ml M) = true) (hT : am_Tri M d B C 0 0 (0, lv_args 0 as, [], h) (fun oo hh => oo = o ∧ hh = h')) : am_Con d M as h o h' B C := am_con (Nat.blt_eq.mp hM) (Nat.ble_eq.mp hl) hT
end RUL
theorem t_max {h : aH} {x y : Int32} : am_Con 1 0 [.int x, .int y] h (.inl (some (.int (if x < y then y else x)))) h 0 0 := by
  refine am_met rfl rfl ?_
  refine am_bra 9 (by decide) rfl (fun q => ?_) (fun q => ?_)
  · exact am_end 9 (by decide) rfl trivial (by decide) (by decide) ⟨by rw [if_pos q], rfl⟩
  · exact am_end 9 (by decide) rfl trivial (by decide) (by decide) ⟨by rw [if_neg q], rfl⟩
theorem t_min {h : aH} {x y : Int32} : am_Con 1 1 [.int x, .int y] h (.inl (some (.int (if y < x then y else x)))) h 0 0 := by
  refine am_met rfl rfl ?_
  refine am_bra 9 (by decide) rfl (fun q => ?_) (fun q => ?_)
  · exact am_end 9 (by decide) rfl trivial (by decide) (by decide) ⟨by rw [if_pos q], rfl⟩
  · exact am_end 9 (by decide) rfl trivial (by decide) (by decide) ⟨by rw [if_neg q], rfl⟩
theorem t_coder {h : aH} {i : Nat} (hi : i < 29) : am_Con 1 6 [.retAddr i] h (.inl (some (.int 0))) h 0 0 := by
  refine am_met rfl rfl ?_
  refine am_j_sta (wi := 587) (cp := 38) (x := 1) (by decide +kernel) (fun E U hG => hG.2.2.2.2.2.1.1) (by decide +kernel) ?_
  refine am_nay 9 (by decide) rfl (by decide) ?_
  refine am_go 1 (by decide) rfl ?_
  refine am_j_get (wi := 1458) (cp := 15) (v := .int 0) (by decide +kernel) (fun E U hG => (hG.2.2.2.2.1 i hi).2.1) (by decide +kernel) ?_
  refine am_go 1 (by decide) rfl ?_
  exact am_i_ret rfl rfl (by decide) (by decide) (by decide +kernel) ⟨rfl, rfl⟩
theorem t_latin {h : aH} {i : Nat} (hi : i < 29) : am_Con 1 7 [.retAddr i] h (.inl (some (.int 1))) h 0 0 := by
  refine am_met rfl rfl ?_
  refine am_j_sta (wi := 587) (cp := 38) (x := 1) (by decide +kernel) (fun E U hG => hG.2.2.2.2.2.1.1) (by decide +kernel) ?_
  refine am_nay 9 (by decide) rfl (by decide) ?_
  refine am_go 1 (by decide) rfl ?_
  refine am_j_get (wi := 1458) (cp := 15) (v := .int 0) (by decide +kernel) (fun E U hG => (hG.2.2.2.2.1 i hi).2.1) (by decide +kernel) ?_
  refine am_nay 9 (by decide) rfl (by decide) ?_
  exact am_end 9 (by decide) rfl (Or.inr rfl) (by decide) (by decide) ⟨rfl, rfl⟩
theorem am_j_ishr {M d B C u c : Nat} {Q : aO → aH → Prop} {pc : Nat} {ls : List (Nat × Value)} {r : List Value} {h : aH} {x y : Int32} (hd : decode (am_by M) pc = .ok (.ishr, 1)) (k : am_Tri M d B C u c (pc + 1, ls, .int (x >>> (y &&& 31)) :: r, h) Q) : am_Tri M d B C u c (pc, ls, .int y :: .int x :: r, h) Q := by
  intro p l e R s m args below meth cd E cx H locs la hR hl hlo
  exact lv_ishr cx.1 cx.2.1 hd (k p l e R s m args below meth cd E cx H locs la hR hl hlo)
theorem am_j_i2b {M d B C u c : Nat} {Q : aO → aH → Prop} {pc : Nat} {ls : List (Nat × Value)} {r : List Value} {h : aH} {x : Int32} (hd : decode (am_by M) pc = .ok (.i2b, 1)) (k : am_Tri M d B C u c (pc + 1, ls, .int x.toInt8.toInt32 :: r, h) Q) : am_Tri M d B C u c (pc, ls, .int x :: r, h) Q := by
  intro p l e R s m args below meth cd E cx H locs la hR hl hlo
  exact lv_i2b cx.1 cx.2.1 hd rfl (k p l e R s m args below meth cd E cx H locs la hR hl hlo)
theorem t_len {h : aH} {i : Nat} (hi : i < 29) : am_Con 2 2 [.retAddr i] h (.inl (some (.int (Int32.ofNat (am_sl.getD i 0))))) h 0 0 := by
  obtain ⟨K, I, A, J, X⟩ := h
  refine am_met rfl rfl ?_
  refine am_go 1 (by decide) rfl ?_
  refine am_j_get (wi := 1457) (cp := 9) (v := .retAddr (2000 + i)) (by decide +kernel) (fun E U hG => (hG.2.2.2.2.1 i hi).2.2.1) (by decide +kernel) ?_
  refine am_j_len hi (by decide +kernel) ?_
  refine am_go 1 (by decide) rfl ?_
  refine am_txc (nx := 9) (cp := 335) (M' := 6) (by decide +kernel) rfl (Nat.blt_eq.mpr hi) (t_coder hi) (by decide) (by decide) (by decide) ?_
  refine am_j_ishr (by decide +kernel) ?_
  rw [show (0 : Int32) &&& 31 = 0 by decide, show ∀ x : Int32, x >>> (0 : Int32) = x from fun x => by simp]
  exact am_end 9 (by decide) rfl trivial (by decide) (by decide) ⟨rfl, rfl⟩
theorem t_chk {h : aH} {i n : Int32} (h0 : ¬ i < 0) (h1 : i < n) : am_Con 1 8 [.int i, .int n] h (.inl none) h 0 0 := by
  refine am_met rfl rfl ?_
  refine am_go 2 (by decide) rfl ?_
  refine am_j_chk h0 h1 (by decide) (by decide) (by decide) (by decide) ?_
  exact am_end 9 (by decide) rfl trivial (by decide) (by decide) ⟨rfl, rfl⟩
/-- a text's character -/
def am_chr (i j : Nat) : Int32 := (am_sb.getD i []).getD j 0
theorem am_chr_ok : ∀ i, i < 29 → ∀ j, j < am_sl.getD i 0 → ((am_chr i j &&& 255).toUInt32 % 65536).toInt32 = am_chr i j ∧ narrow .char (.int (am_chr i j)) = .int (am_chr i j) := by decide +kernel
theorem am_sl31 : ∀ i, i < 29 → am_sl.getD i 0 < 2 ^ 31 := by decide +kernel
theorem t_ch {h : aH} {i j : Nat} (hi : i < 29) (hj : j < am_sl.getD i 0) : am_Con 2 10 [.retAddr (2000 + i), .int (nI j)] h (.inl (some (.int (am_chr i j)))) h 0 0 := by
  obtain ⟨K, I, A, J, X⟩ := h
  have hl := am_sl31 i hi
  have hj' : j < 2 ^ 31 := by omega
  have e1 : (nI j).toNatClampNeg = j := nI_clamp hj'
  refine am_met rfl rfl ?_
  refine am_go 2 (by decide) rfl ?_
  refine am_j_len hi (by decide +kernel) ?_
  have h0 : ¬ nI j < 0 := nI_pos hj'
  have h1 : nI j < Int32.ofNat (am_sl.getD i 0) := nI_lt hj hl
  refine am_can 9 (by decide) rfl (t_chk h0 h1) (by decide) (by decide) (by decide) ?_
  refine am_go 2 (by decide) rfl ?_
  refine am_j_byte hi (fun q => q.elim h0 (fun q => by rw [e1] at q; omega)) (by decide +kernel) ?_
  rw [e1]
  refine am_go 9 (by decide) rfl ⟨?_, by decide, by decide, ?_, rfl⟩
  · have := (am_chr_ok i hi j hj)
    exact (congrArg (fun z => narrow .char (.int z) = .int z) this.1).mpr this.2
  · exact congrArg (fun z => Sum.inl (some (Value.int z))) (am_chr_ok i hi j hj).1
theorem t_charAt {h : aH} {i j : Nat} (hi : i < 29) (hj : j < am_sl.getD i 0) : am_Con 3 3 [.retAddr i, .int (nI j)] h (.inl (some (.int (am_chr i j)))) h 0 0 := by
  obtain ⟨K, I, A, J, X⟩ := h
  refine am_met rfl rfl ?_
  refine am_go 1 (by decide) rfl ?_
  refine am_txc (nx := 4) (cp := 492) (M' := 7) (by decide +kernel) rfl (Nat.blt_eq.mpr hi) (t_latin hi) (by decide) (by decide) (by decide) ?_
  refine am_nay 9 (by decide) rfl (by decide) ?_
  refine am_go 1 (by decide) rfl ?_
  refine am_j_get (wi := 1457) (cp := 9) (v := .retAddr (2000 + i)) (by decide +kernel) (fun E U hG => (hG.2.2.2.2.1 i hi).2.2.1) (by decide +kernel) ?_
  refine am_cav 9 (by decide) rfl (t_ch hi hj) (by decide) (by decide) (by decide) ?_
  exact am_end 9 (by decide) rfl (am_chr_ok i hi j hj).2 (by decide) (by decide) ⟨rfl, rfl⟩
/-- where a character stands first in a text, from k on, n of them; or -1 -/
def am_ix (i : Nat) (c : Int32) : Nat → Nat → Int32
  | _, 0 => -1
  | k, n + 1 => if am_chr i k = c then nI k else am_ix i c (k + 1) n
theorem t_ixc {h : aH} {i : Nat} {c : Int32} (hi : i < 29) (hc : c.toInt8.toInt32 = c) : am_Con 1 13 [.retAddr (2000 + i), .int c, .int 0, .int (Int32.ofNat (am_sl.getD i 0))] h (.inl (some (.int (am_ix i c 0 (am_sl.getD i 0))))) h 0 0 := by
  obtain ⟨K, I, A, J, X⟩ := h
  have hl := am_sl31 i hi
  have loop : ∀ n k, k + n = am_sl.getD i 0 → am_Tri 13 1 0 0 0 0 (7, [(5, .int (nI k)), (4, .int c), (0, .retAddr (2000 + i)), (1, .int c), (2, .int 0), (3, .int (Int32.ofNat (am_sl.getD i 0)))], [], (K, I, A, J, X)) (fun oo hh => oo = .inl (some (.int (am_ix i c k n))) ∧ hh = (K, I, A, J, X)) := by
    intro n
    induction n with
    | zero =>
      intro k hk
      refine am_yea 9 (by decide) rfl (nI_le (show am_sl.getD i 0 ≤ k by omega) (by omega)) ?_
      exact am_end 9 (by decide) rfl trivial (by decide) (by decide) ⟨rfl, rfl⟩
    | succ n ih =>
      intro k hk
      have hk1 : k < am_sl.getD i 0 := by omega
      refine am_nay 9 (by decide) rfl (nI_ge hk1 hl) ?_
      refine am_go 2 (by decide) rfl ?_
      refine am_j_byte hi (nI_in hk1 hl) (by decide +kernel) ?_
      rw [nI_clamp (by omega)]
      refine am_bra 9 (by decide) rfl (fun q => ?_) (fun q => ?_)
      · have := ih (k + 1) (by omega)
        refine am_go 2 (by decide) rfl ?_
        rw [nI_succ] at this
        have e : am_ix i c k (n + 1) = am_ix i c (k + 1) n := if_neg q
        rw [e]
        exact this
      · have e : am_ix i c k (n + 1) = nI k := if_pos (Classical.not_not.mp q)
        rw [e]
        exact am_end 9 (by decide) rfl trivial (by decide) (by decide) ⟨rfl, rfl⟩
  refine am_met rfl rfl ?_
  refine am_go 1 (by decide) rfl ?_
  refine am_j_i2b (by decide +kernel) ?_
  rw [hc]
  refine am_go 3 (by decide) rfl ?_
  exact loop _ 0 (by omega)
theorem t_enc {h : aH} {x : Int32} (h0 : ¬ x < 0) (h1 : ¬ 255 < x) : am_Con 1 11 [.int x] h (.inl (some (.int 1))) h 0 0 := by
  refine am_met rfl rfl ?_
  refine am_nay 9 (by decide) rfl h0 ?_
  refine am_nay 9 (by decide) rfl h1 ?_
  exact am_end 9 (by decide) rfl (Or.inr rfl) (by decide) (by decide) ⟨rfl, rfl⟩
theorem t_ix4 {h : aH} {i : Nat} {c : Int32} (hi : i < 29) (hp : 0 < am_sl.getD i 0) (hc : c.toInt8.toInt32 = c) (h0 : ¬ c < 0) (h1 : ¬ 255 < c) : am_Con 2 12 [.retAddr (2000 + i), .int c, .int 0, .int (Int32.ofNat (am_sl.getD i 0))] h (.inl (some (.int (am_ix i c 0 (am_sl.getD i 0))))) h 0 0 := by
  obtain ⟨K, I, A, J, X⟩ := h
  have hl := am_sl31 i hi
  refine am_met rfl rfl ?_
  refine am_cav 9 (by decide) rfl (t_enc h0 h1) (by decide) (by decide) (by decide) ?_
  refine am_yea 9 (by decide) rfl (by decide) ?_
  refine am_cav 9 (by decide) rfl t_max (by decide) (by decide) (by decide) ?_
  refine am_go 3 (by decide) rfl ?_
  refine am_j_len hi (by decide +kernel) ?_
  refine am_cav 9 (by decide) rfl t_min (by decide) (by decide) (by decide) ?_
  rw [if_neg (show ¬ (Int32.ofNat (am_sl.getD i 0)) < Int32.ofNat (am_sl.getD i 0) from Int32.lt_irrefl)]
  refine am_yea 9 (by decide) rfl (nI_lt hp hl) ?_
  refine am_cav 9 (by decide) rfl (t_ixc hi hc) (by decide) (by decide) (by decide) ?_
  exact am_end 9 (by decide) rfl trivial (by decide) (by decide) ⟨rfl, rfl⟩
theorem t_ix3 {h : aH} {i : Nat} {c : Int32} (hi : i < 29) (hp : 0 < am_sl.getD i 0) (hc : c.toInt8.toInt32 = c) (h0 : ¬ c < 0) (h1 : ¬ 255 < c) : am_Con 3 5 [.retAddr i, .int c, .int 0] h (.inl (some (.int (am_ix i c 0 (am_sl.getD i 0))))) h 0 0 := by
  obtain ⟨K, I, A, J, X⟩ := h
  refine am_met rfl rfl ?_
  refine am_go 1 (by decide) rfl ?_
  refine am_txc (nx := 4) (cp := 492) (M' := 7) (by decide +kernel) rfl (Nat.blt_eq.mpr hi) (t_latin hi) (by decide) (by decide) (by decide) ?_
  refine am_nay 9 (by decide) rfl (by decide) ?_
  refine am_go 1 (by decide) rfl ?_
  refine am_j_get (wi := 1457) (cp := 9) (v := .retAddr (2000 + i)) (by decide +kernel) (fun E U hG => (hG.2.2.2.2.1 i hi).2.2.1) (by decide +kernel) ?_
  refine am_go 3 (by decide) rfl ?_
  refine am_txc (nx := 17) (cp := 505) (M' := 2) (by decide +kernel) rfl (Nat.blt_eq.mpr hi) (t_len hi) (by decide) (by decide) (by decide) ?_
  refine am_cav 9 (by decide) rfl (t_ix4 hi hp hc h0 h1) (by decide) (by decide) (by decide) ?_
  exact am_end 9 (by decide) rfl trivial (by decide) (by decide) ⟨rfl, rfl⟩
theorem t_indexOf {h : aH} {i : Nat} {c : Int32} (hi : i < 29) (hp : 0 < am_sl.getD i 0) (hc : c.toInt8.toInt32 = c) (h0 : ¬ c < 0) (h1 : ¬ 255 < c) : am_Con 4 4 [.retAddr i, .int c] h (.inl (some (.int (am_ix i c 0 (am_sl.getD i 0))))) h 0 0 := by
  obtain ⟨K, I, A, J, X⟩ := h
  refine am_met rfl rfl ?_
  refine am_go 3 (by decide) rfl ?_
  refine am_txc (nx := 6) (cp := 633) (M' := 5) (by decide +kernel) rfl (Nat.blt_eq.mpr hi) (t_ix3 hi hp hc h0 h1) (by decide) (by decide) (by decide) ?_
  exact am_end 9 (by decide) rfl trivial (by decide) (by decide) ⟨rfl, rfl⟩
