/-! THE GRAMMAR, said purely: mk the marks, pl the places of tokens -/
/-- a node's code and parts, and the place behind it -/
abbrev aG : Type := Except aF (Nat × aB × Nat)
def d_sb (m : Int32) : Nat := if m = 20 then 1 else if m = 19 then 2 else if m = 60 ∨ m = 62 ∨ m = 161 ∨ m = 188 ∨ m = 189 ∨ m = 190 then 4 else if m = 43 ∨ m = 45 then 5 else if m = 42 ∨ m = 47 ∨ m = 37 then 6 else 0
def d_kb (s : Nat) : Nat := if s = 1 then 11 else if s = 2 then 12 else if s = 4 then 14 else 15
section GRM
variable (mk : Nat → Int32) (pl : Nat → Nat)
def d_hc (e : Nat) (c : aB) (p : Nat) : aG := if 10 < b_ht c + 1 then .error (3, pl (e / 32)) else .ok (e, c, p)
section LEV
variable (full : Bool) (up : Nat → Nat → aG)
/-- the operators of a strength behind a left side -/
def d_bl (s : Nat) : Nat → Nat → aB → Nat → aG
  | 0, e, c, p => .ok (e, c, p)
  | i + 1, e, c, p => if d_sb (mk p) = s then (if full = true then .error (3, pl p) else match up (s + 1) (p + 1) with
    | .error x => .error x
    | .ok (e2, c2, p2) => match d_hc pl (d_kb s + 32 * p) (.branch e c (.branch e2 c2 b_0)) p2 with
      | .error x => .error x
      | .ok (e3, c3, p3) => d_bl s i e3 c3 p3) else .ok (e, c, p)
/-- further expressions, then what closes them -/
def d_el (cl : Int32) : Nat → aB → Nat → Except aF (aB × Nat)
  | 0, c, p => if mk p = cl then .ok (c, p + 1) else .error (9, pl p)
  | i + 1, c, p => if mk p = 44 then (match up 1 (p + 1) with
    | .error x => .error x
    | .ok (e2, c2, p2) => d_el cl i (b_add c e2 c2) p2) else if mk p = cl then .ok (c, p + 1) else .error (9, pl p)
def d_es (cl : Int32) (c : aB) (p : Nat) : Except aF (aB × Nat) := if mk p = cl then .ok (c, p + 1) else match up 1 p with
  | .error x => .error x
  | .ok (e2, c2, p2) => d_el mk pl up cl 120 (b_add c e2 c2) p2
def d_at (p : Nat) : aG :=
  if mk p = 1 then .ok (20 + 32 * p, b_0, p + 1)
  else if mk p = 3 then .ok (21 + 32 * p, b_0, p + 1)
  else if mk p = 4 then .ok (22 + 32 * p, b_0, p + 1)
  else if mk p = 40 then (if full = true then .error (3, pl p) else match up 1 (p + 1) with
    | .error x => .error x
    | .ok (e, c, p2) => if mk p2 = 41 then .ok (e, c, p2 + 1) else .error (9, pl p2))
  else if mk p = 91 then (if full = true then .error (3, pl p) else match d_es mk pl up 93 b_0 (p + 1) with
    | .error x => .error x
    | .ok (c, p2) => d_hc pl (23 + 32 * p) c p2)
  else .error (9, pl p)
/-- one member, call or index -/
def d_p1 (e : Nat) (c : aB) (p : Nat) : aG :=
  if mk p = 46 then (if mk (p + 1) = 1 then d_hc pl (19 + 32 * (p + 1)) (.branch e c b_0) (p + 2) else .error (9, pl (p + 1)))
  else if mk p = 40 then (if full = true then .error (3, pl p) else match d_es mk pl up 41 (.branch e c b_0) (p + 1) with
    | .error x => .error x
    | .ok (c2, p2) => d_hc pl (17 + 32 * p) c2 p2)
  else (if full = true then .error (3, pl p) else match up 1 (p + 1) with
    | .error x => .error x
    | .ok (e2, c2, p2) => if mk p2 = 93 then d_hc pl (18 + 32 * p) (.branch e c (.branch e2 c2 b_0)) (p2 + 1) else .error (9, pl p2))
def d_pl : Nat → Nat → aB → Nat → aG
  | 0, e, c, p => .ok (e, c, p)
  | i + 1, e, c, p => if mk p = 40 ∨ mk p = 91 ∨ mk p = 46 then (match d_p1 mk pl full up e c p with
    | .error x => .error x
    | .ok (e2, c2, p2) => d_pl i e2 c2 p2) else .ok (e, c, p)
/-- a sign m before an operand of the strength s makes a node of the kind k -/
def d_pr (m : Int32) (k s : Nat) (x : aG) (p : Nat) : aG := if mk p = m then (if full = true then .error (3, pl p) else match up s (p + 1) with
  | .error x => .error x
  | .ok (e, c, p2) => d_hc pl (k + 32 * p) (.branch e c b_0) p2) else x
/-- the rule for the strength 8 - j -/
def d_t : Nat → Nat → aG
  | 0, p => (match d_at mk pl full up p with
    | .error x => .error x
    | .ok (e, c, p2) => d_pl mk pl full up 120 e c p2)
  | j + 1, p => if j = 0 then d_pr mk pl full up 45 16 7 (d_t j p) p
    else if j = 4 then d_pr mk pl full up 21 13 3 (d_t j p) p
    else (match d_t j p with
      | .error x => .error x
      | .ok (e, c, p2) => d_bl mk pl full up (7 - j) (if j = 3 then 1 else 120) e c p2)
end LEV
/-- an expression of strength s where 12 - r are begun -/
def d_ex : Nat → Nat → Nat → aG
  | 0, s, p => d_t mk pl true (fun _ _ => .error (0, 0)) (8 - s) p
  | r + 1, s, p => d_t mk pl false (d_ex r) (8 - s) p
def d_sm (p : Nat) : aG :=
  if mk p = 17 then .ok (1 + 32 * p, b_0, p + 1)
  else if mk p = 18 then .ok (2 + 32 * p, b_0, p + 1)
  else if mk p = 16 then (if mk (p + 1) = 6 ∨ mk (p + 1) = 59 then .ok (3 + 32 * p, b_0, p + 1) else match d_ex mk pl 12 1 (p + 1) with
    | .error x => .error x
    | .ok (e, c, p2) => .ok (3 + 32 * p, .branch e c b_0, p2))
  else if mk p = 1 ∧ mk (p + 1) = 61 then (match d_ex mk pl 12 1 (p + 2) with
    | .error x => .error x
    | .ok (e, c, p2) => .ok (4 + 32 * p, .branch e c b_0, p2))
  else match d_ex mk pl 12 1 p with
    | .error x => .error x
    | .ok (e, c, p2) => .ok (5 + 32 * (e / 32), .branch e c b_0, p2)
/-- a line's further statements -/
def d_ll : Nat → aB → Nat → Except aF (aB × Nat)
  | 0, c, p => if mk p = 6 then .ok (c, p + 1) else .error (9, pl p)
  | i + 1, c, p => if mk p = 59 then (if mk (p + 1) = 6 then .ok (c, p + 2) else match d_sm mk pl (p + 1) with
    | .error x => .error x
    | .ok (e2, c2, p2) => d_ll i (b_add c e2 c2) p2) else if mk p = 6 then .ok (c, p + 1) else .error (9, pl p)
def d_li (c : aB) (p : Nat) : Except aF (aB × Nat) := match d_sm mk pl p with
  | .error x => .error x
  | .ok (e2, c2, p2) => d_ll mk pl 120 (b_add c e2 c2) p2
/-- a block's token: that of its first statement -/
def d_bt (c : aB) (t : Nat) : Nat := match c with
  | .leaf _ => t
  | .branch e _ _ => e / 32
section BLK
variable (st : Nat → aG)
def d_bk (p : Nat) : aG := if mk p = 6 then (if mk (p + 1) = 7 then st (p + 2) else .error (9, pl (p + 1))) else match d_li mk pl b_0 p with
  | .error x => .error x
  | .ok (c, p2) => .ok (9 + 32 * d_bt c p, c, p2)
def d_cd (k p : Nat) : aG := match d_ex mk pl 12 1 (p + 1) with
  | .error x => .error x
  | .ok (e, c, p2) => if mk p2 = 58 then (match d_bk mk pl st (p2 + 1) with
    | .error x => .error x
    | .ok (e3, c3, p3) => .ok (k + 32 * p, .branch e c (.branch e3 c3 b_0), p3)) else .error (9, pl p2)
/-- further parameters, then what closes them -/
def d_pm : Nat → aB → Nat → Except aF (aB × Nat)
  | 0, c, p => if mk p = 41 then .ok (c, p + 1) else .error (9, pl p)
  | i + 1, c, p => if mk p = 44 then (if mk (p + 1) = 1 then d_pm i (b_add c (24 + 32 * (p + 1)) b_0) (p + 2) else .error (9, pl (p + 1))) else if mk p = 41 then .ok (c, p + 1) else .error (9, pl p)
def d_ps (p : Nat) : Except aF (aB × Nat) := if mk p = 41 then .ok (b_0, p + 1) else if mk p = 1 then d_pm mk pl 120 (.branch (24 + 32 * p) b_0 b_0) (p + 1) else .error (9, pl p)
def d_df (p : Nat) : aG :=
  if mk (p + 1) = 1 then (if mk (p + 2) = 40 then (match d_ps mk pl (p + 3) with
    | .error x => .error x
    | .ok (c, p2) => if mk p2 = 58 then (match d_bk mk pl st (p2 + 1) with
      | .error x => .error x
      | .ok (e3, c3, p3) => .ok (8 + 32 * (p + 1), b_add c e3 c3, p3)) else .error (9, pl p2)) else .error (9, pl (p + 2))) else .error (9, pl (p + 1))
/-- what may stand behind a branch: i of them -/
def d_if : Nat → Nat → aG
  | i, p => match d_cd mk pl st 6 p with
    | .error x => .error x
    | .ok (e, c, p2) => (match i with
      | 0 => if mk p2 = 13 then (if mk (p2 + 1) = 58 then (match d_bk mk pl st (p2 + 2) with
        | .error x => .error x
        | .ok (e3, c3, p3) => .ok (e, b_add c e3 c3, p3)) else .error (9, pl (p2 + 1))) else .ok (e, c, p2)
      | i + 1 => if mk p2 = 12 then (match d_if i p2 with
        | .error x => .error x
        | .ok (e3, c3, p3) => .ok (e, b_add c e3 c3, p3))
        else if mk p2 = 13 then (if mk (p2 + 1) = 58 then (match d_bk mk pl st (p2 + 2) with
        | .error x => .error x
        | .ok (e3, c3, p3) => .ok (e, b_add c e3 c3, p3)) else .error (9, pl (p2 + 1))) else .ok (e, c, p2))
/-- one statement, or a line of them, behind those of c -/
def d_s1 (c : aB) (p : Nat) : Except aF (aB × Nat) :=
  if mk p = 11 then (match d_if mk pl st 120 p with
    | .error x => .error x
    | .ok (e2, c2, p2) => .ok (b_add c e2 c2, p2))
  else if mk p = 14 then (match d_cd mk pl st 7 p with
    | .error x => .error x
    | .ok (e2, c2, p2) => .ok (b_add c e2 c2, p2))
  else if mk p = 15 then (match d_df mk pl st p with
    | .error x => .error x
    | .ok (e2, c2, p2) => .ok (b_add c e2 c2, p2))
  else d_li mk pl c p
def d_sl (cl : Int32) : Nat → aB → Nat → Except aF (aB × Nat)
  | 0, c, p => if mk p = cl then .ok (c, p + 1) else .error (9, pl p)
  | i + 1, c, p => if mk p = cl then .ok (c, p + 1) else match d_s1 mk pl st c p with
    | .error x => .error x
    | .ok (c2, p2) => d_sl cl i c2 p2
end BLK
/-- a block where 9 - r lie around -/
def d_st : Nat → Int32 → Nat → aG
  | 0, _, p => .error (3, pl p)
  | r + 1, cl, p => match d_sl mk pl (d_st r 8) cl 120 b_0 p with
    | .error x => .error x
    | .ok (c, p2) => .ok (9 + 32 * d_bt c p, c, p2)
end GRM
