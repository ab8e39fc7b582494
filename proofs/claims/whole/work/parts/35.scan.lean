/-! THE SCANNER, said purely: what both sides do with a text tx of n characters -/
/-- kind, mark, place, extent -/
abbrev aT : Type := Int32 × Int32 × Nat × Nat
/-- place, in a line?, widths (last first: with tabs, without), brackets (last first), how many tokens, the tokens -/
abbrev aW : Type := Nat × Bool × List (Nat × Nat) × List Nat × Nat × (Nat → aT)
/-- why, where -/
abbrev aF : Type := Int32 × Nat
def s_ch (tx : Nat → Int32) (n p : Nat) : Int32 := if p < n then tx p else 0
def s_run (f : Nat → Bool) : Nat → Nat → Nat
  | 0, p => p
  | m + 1, p => if f p = true then s_run f m (p + 1) else p
def s_bl (tx : Nat → Int32) : Nat → Nat → Nat → Nat × Nat
  | 0, p, w => (p, w)
  | m + 1, p, w => if c_blank (tx p) = true then s_bl tx m (p + 1) (if tx p = 9 then w / 8 * 8 + 8 else w + 1) else (p, w)
def s_take (k mk : Int32) (e : Nat) (z : aW) : Except aF aW := match z with
  | (p, l, ws, bs, m, tk) => if m < 120 then .ok (p + e, l, ws, bs, m + 1, fun j => if j = m then (k, mk, p, e) else tk j) else .error (8, p)
def s_ded (w p : Nat) (l : Bool) (bs : List Nat) : List (Nat × Nat) → Nat → (Nat → aT) → Except aF aW
  | [], m, tk => .ok (p, l, [], bs, m, tk)
  | (w0, n0) :: r, m, tk => if w < w0 then (if m < 120 then s_ded w p l bs r (m + 1) (fun j => if j = m then (8, 8, p, 0) else tk j) else .error (8, p)) else .ok (p, l, (w0, n0) :: r, bs, m, tk)
def s_eq (w nr : Nat) (z : aW) : Except aF aW := match z with
  | (p, l, ws, bs, m, tk) => match ws with
    | [] => .error (2, p)
    | (w1, n1) :: r => if w1 = w then (if n1 = nr then .ok (p, l, (w1, n1) :: r, bs, m, tk) else .error (1, p)) else .error (2, p)
def s_cmp (w nr : Nat) (z : aW) : Except aF aW := match z with
  | (p, l, ws, bs, m, tk) => match ws with
    | [] => .error (2, p)
    | (w0, n0) :: r => if w0 < w then (if nr ≤ n0 then .error (1, p) else if r.length + 1 < 9 then s_take 7 7 0 (p, l, (w, nr) :: (w0, n0) :: r, bs, m, tk) else .error (3, p))
      else match s_ded w p l bs ((w0, n0) :: r) m tk with
        | .error e => .error e
        | .ok y => s_eq w nr y
def s_nl (tx : Nat → Int32) (n p : Nat) : Nat := s_run (fun k => !decide (tx k = 10)) (n - p) p
def s_line (tx : Nat → Int32) (n : Nat) (z : aW) : Except aF aW := match z with
  | (p, l, ws, bs, m, tk) => match s_bl tx (n - p) p 0 with
    | (q, w) => if n ≤ q ∨ s_ch tx n q = 10 ∨ s_ch tx n q = 35 then .ok (min (s_nl tx n q + 1) n, l, ws, bs, m, tk)
      else match s_cmp w (q - p) (q, l, ws, bs, m, tk) with
        | .error e => .error e
        | .ok (p', _, y) => .ok (p', true, y)
/-- does the text i stand at p, with the extent e? -/
def s_rd (tx : Nat → Int32) (n i p : Nat) : Nat → Nat → Bool
  | 0, _ => true
  | f + 1, j => if am_chr i j = s_ch tx n (p + j) then s_rd tx n i p f (j + 1) else false
def s_is (tx : Nat → Int32) (n i p e : Nat) : Bool := if am_sl.getD i 0 = e then s_rd tx n i p e 0 else false
def s_mark (tx : Nat → Int32) (n p e : Nat) : Int32 :=
  if s_is tx n 4 p e = true then 11 else if s_is tx n 5 p e = true then 12 else if s_is tx n 6 p e = true then 13 else if s_is tx n 7 p e = true then 14 else if s_is tx n 8 p e = true then 15 else if s_is tx n 9 p e = true then 16 else
  if s_is tx n 10 p e = true then 17 else if s_is tx n 11 p e = true then 18 else if s_is tx n 12 p e = true then 19 else if s_is tx n 13 p e = true then 20 else if s_is tx n 14 p e = true then 21 else 1
def s_str (tx : Nat → Int32) (n : Nat) (q : Int32) : Nat → Nat → Option Nat
  | 0, _ => none
  | f + 1, e => if e < n then (if tx e = q then some e else if s_ch tx n (if tx e = 92 then e + 1 else e) = 10 then none else s_str tx n q f ((if tx e = 92 then e + 1 else e) + 1)) else none
def s_pair (c : Int32) : Bool := decide (c = 61) || decide (c = 33) || decide (c = 60) || decide (c = 62)
def s_one (c : Int32) : Bool := decide (c = 43) || decide (c = 45) || decide (c = 42) || decide (c = 47) || decide (c = 37) || decide (c = 40) || decide (c = 41) || decide (c = 91) || decide (c = 93) || decide (c = 44) || decide (c = 58) || decide (c = 61) || decide (c = 60) || decide (c = 62) || decide (c = 46) || decide (c = 59)
def s_sign (tx : Nat → Int32) (n : Nat) (z : aW) : Except aF aW := match z with
  | (p, l, ws, bs, m, tk) =>
    if s_pair (s_ch tx n p) = true ∧ s_ch tx n (p + 1) = 61 then s_take 5 (s_ch tx n p + 128) 2 (p, l, ws, bs, m, tk)
    else if s_one (s_ch tx n p) = false then .error (7, p)
    else if s_ch tx n p = 40 ∨ s_ch tx n p = 91 then (if bs.length < 8 then s_take 5 (s_ch tx n p) 1 (p, l, ws, p :: bs, m, tk) else .error (3, p))
    else if s_ch tx n p = 41 ∨ s_ch tx n p = 93 then (match bs with
      | [] => .error (4, p)
      | b :: r => if s_ch tx n b = (if s_ch tx n p = 41 then 40 else 91) then s_take 5 (s_ch tx n p) 1 (p, l, ws, r, m, tk) else .error (4, p))
    else s_take 5 (s_ch tx n p) 1 (p, l, ws, bs, m, tk)
def s_next (tx : Nat → Int32) (n : Nat) (z : aW) : Except aF aW := match z with
  | (p, l, ws, bs, m, tk) =>
    if c_blank (s_ch tx n p) = true then .ok (p + 1, l, ws, bs, m, tk)
    else if s_ch tx n p = 35 then .ok (s_nl tx n p, l, ws, bs, m, tk)
    else if s_ch tx n p = 92 ∧ s_ch tx n (p + 1) = 10 then .ok (p + 2, l, ws, bs, m, tk)
    else if s_ch tx n p = 10 then (if 0 < bs.length then .ok (p + 1, l, ws, bs, m, tk) else match s_take 6 6 1 (p, l, ws, bs, m, tk) with
      | .error e => .error e
      | .ok (p', _, y) => .ok (p', false, y))
    else if c_letter (s_ch tx n p) = true then
      (match s_run (fun k => c_letter (tx k) || c_digit (tx k)) (n - (p + 1)) (p + 1) with
        | e => s_take (if s_mark tx n p (e - p) = 1 then 1 else 2) (s_mark tx n p (e - p)) (e - p) (p, l, ws, bs, m, tk))
    else if c_digit (s_ch tx n p) = true then
      (match s_run (fun k => c_digit (tx k)) (n - (p + 1)) (p + 1) with
        | e => if c_letter (s_ch tx n e) = true then .error (6, p) else s_take 3 3 (e - p) (p, l, ws, bs, m, tk))
    else if s_ch tx n p = 39 ∨ s_ch tx n p = 34 then (match s_str tx n (s_ch tx n p) (n - p) (p + 1) with
      | none => .error (5, p)
      | some e => s_take 4 4 (e + 1 - p) (p, l, ws, bs, m, tk))
    else s_sign tx n (p, l, ws, bs, m, tk)
def s_iter (tx : Nat → Int32) (n : Nat) (z : aW) : Except aF aW :=
  match (if z.2.1 = true then .ok z else s_line tx n z) with
  | .error e => .error e
  | .ok y => if y.2.1 = true then s_next tx n y else .ok y
def s_loop (tx : Nat → Int32) (n : Nat) : Nat → aW → Except aF aW
  | 0, z => .ok z
  | f + 1, z => if z.1 < n then (match s_iter tx n z with
    | .error e => .error e
    | .ok y => s_loop tx n f y) else .ok z
/-- the blocks that stand at the end are closed -/
def s_close : Nat → aW → Except aF aW
  | 0, z => .ok z
  | f + 1, z => match s_take 8 8 0 z with
    | .error e => .error e
    | .ok y => s_close f y
def s_fin (z : aW) : Except aF aW := match z with
  | (p, l, ws, bs, m, tk) => match bs with
    | b :: _ => .error (4, b)
    | [] => match (if l = true then s_take 6 6 0 (p, l, ws, [], m, tk) else .ok (p, l, ws, [], m, tk)) with
      | .error e => .error e
      | .ok y => match s_close (ws.length - 1) y with
        | .error e => .error e
        | .ok y => s_take 9 9 0 y
def s_scan (tx : Nat → Int32) (n : Nat) : Except aF aW := match s_loop tx n 600 (0, false, [(0, 0)], [], 0, fun _ => (0, 0, 0, 0)) with
  | .error e => .error e
  | .ok z => s_fin z
