/-! THE REFERENCE'S WAY with an expression: a machine with stacks -/
/-- what is begun: kind, token, node -/
abbrev xK : Type := Int32 × Nat × Nat
/-- place, what is begun (last first), finished nodes (last first), how many nodes, the nodes -/
abbrev xX : Type := Nat × List xK × List Nat × Nat × aN
abbrev xE : Type := Except aF (Nat × xX)
def x_app (S : aN) (j j2 : Nat) : aN := n_lnk S j j2 (if S 2 j2 < S 2 j then S 2 j else S 2 j2 + 1)
def x_kd (k : Int32) : Int32 := if k < 6 then 10 + k else k + 9
def x_top (K : List xK) : Int32 := match K with
  | [] => 9
  | (k, _) :: _ => k
section STK
variable (mk : Nat → Int32) (pl : Nat → Nat)
def x_close (l : Int32) : List xK → List Nat → Nat → aN → Except aF (List xK × List Nat × Nat × aN)
  | [], V, m, S => .ok ([], V, m, S)
  | (k, t, nd) :: K, V, m, S => if k < l then .ok ((k, t, nd) :: K, V, m, S) else if k = 3 ∨ k = 7 then (match V with
      | v :: V' => if 10 < x_app (n_add S m (x_kd k) (nI t)) m v 2 m then .error (3, pl t) else x_close l K (m :: V') (m + 1) (x_app (n_add S m (x_kd k) (nI t)) m v)
      | [] => .error (0, 0))
    else (match V with
      | v2 :: v1 :: V' => if 10 < x_app (x_app (n_add S m (x_kd k) (nI t)) m v1) m v2 2 m then .error (3, pl t) else x_close l K (m :: V') (m + 1) (x_app (x_app (n_add S m (x_kd k) (nI t)) m v1) m v2)
      | _ => .error (0, 0))
def x_ent (k : Int32) (nd : Nat) : xX → xE
  | (p, K, V, m, S) => if K.length = 12 then .error (3, pl p) else .ok (1, p + 1, (k, p, nd) :: K, V, m, S)
/-- a finished node n, at the place p -/
def x_fin (p n : Nat) (K : List xK) (V : List Nat) (m : Nat) (S : aN) : xE := if 10 < S 2 n then .error (3, pl (S 1 n).toNatClampNeg) else .ok (0, p, K, n :: V, m, S)
def x_end (some : Bool) : xX → xE
  | (p, (k, t, nd) :: K, V, m, S) => if k = 0 then .ok (0, p + 1, K, V, m, S) else if some = true then (match V with
      | v :: V' => x_fin pl (p + 1) nd K V' m (x_app S nd v)
      | [] => .error (0, 0)) else x_fin pl (p + 1) nd K V m S
  | _ => .error (0, 0)
def x_part : xX → xE
  | (p, K, V, m, S) =>
    if mk p = 1 ∨ mk p = 3 ∨ mk p = 4 then .ok (0, p + 1, K, m :: V, m + 1, n_add S m (if mk p = 1 then 20 else if mk p = 3 then 21 else 22) (nI p))
    else if mk p = 21 ∧ (K = [] ∨ ¬ 3 < x_top K) then x_ent pl 3 0 (p, K, V, m, S)
    else if mk p = 45 then x_ent pl 7 0 (p, K, V, m, S)
    else if mk p = 40 then x_ent pl 0 0 (p, K, V, m, S)
    else if mk p = 91 then x_ent pl (-3) m (p, K, V, m + 1, n_add S m 23 (nI p))
    else match K with
      | (k, t, nd) :: K' => if t + 1 = p ∧ ((mk p = 41 ∧ k = -1) ∨ (mk p = 93 ∧ k = -3)) then x_end pl false (p, (k, t, nd) :: K', V, m, S) else .error (9, pl p)
      | [] => .error (9, pl p)
def x_apl (w : Int32) (as : Int32) : xX → xE
  | (p, K, v :: V, m, S) => x_ent pl as m (p, K, V, m + 1, x_app (n_add S m w (nI p)) m v)
  | _ => .error (0, 0)
def x_mem : xX → xE
  | (p, K, v :: V, m, S) => if mk (p + 1) = 1 then x_fin pl (p + 2) m K V (m + 1) (x_app (n_add S m 19 (nI (p + 1))) m v) else .error (9, pl (p + 1))
  | _ => .error (0, 0)
/-- behind an expression that is closed as far as it may be -/
def x_bas : xX → xE
  | (p, [], V, m, S) => .ok (2, p, [], V, m, S)
  | (p, (k, t, nd) :: K, V, m, S) => if mk p = 44 ∧ (k = -1 ∨ k = -3) then (match V with
      | v :: V' => .ok (1, p + 1, (k, t, nd) :: K, V', m, x_app S nd v)
      | [] => .error (0, 0))
    else if (mk p = 41 ∧ (k = 0 ∨ k = -1)) ∨ (mk p = 93 ∧ k < -1) then x_end pl true (p, (k, t, nd) :: K, V, m, S)
    else .error (9, pl p)
def x_cl1 : xX → xE
  | (p, K, V, m, S) => match x_close pl 1 K V m S with
    | .error q => .error q
    | .ok (K1, V1, m1, S1) => x_bas mk pl (p, K1, V1, m1, S1)
def x_beh : xX → xE
  | (p, K, V, m, S) =>
    if mk p = 40 then x_apl pl 17 (-1) (p, K, V, m, S)
    else if mk p = 91 then x_apl pl 18 (-2) (p, K, V, m, S)
    else if mk p = 46 then x_mem mk pl (p, K, V, m, S)
    else if 0 < d_sb (mk p) then (match x_close pl (if d_sb (mk p) = 4 then 5 else nI (d_sb (mk p))) K V m S with
      | .error q => .error q
      | .ok (K1, V1, m1, S1) => if d_sb (mk p) ≠ 4 ∨ x_top K1 ≠ 4 then x_ent pl (nI (d_sb (mk p))) 0 (p, K1, V1, m1, S1) else x_cl1 mk pl (p, K1, V1, m1, S1))
    else x_cl1 mk pl (p, K, V, m, S)
/-- state 1: a part is due; state 0: behind a part -/
def x_step : Nat × xX → xE
  | (st, X) => if st = 1 then x_part mk pl X else x_beh mk pl X
/-- n steps, none of them the last -/
def x_to : Nat → Nat × xX → Nat × xX → Prop
  | 0, z, z' => z = z'
  | n + 1, z, z' => z.1 ≤ 1 ∧ ∃ z1, x_step mk pl z = .ok z1 ∧ x_to n z1 z'
/-- refused after n steps -/
def x_er : Nat → Nat × xX → aF → Prop
  | 0, z, q => z.1 ≤ 1 ∧ x_step mk pl z = .error q
  | n + 1, z, q => z.1 ≤ 1 ∧ ∃ z1, x_step mk pl z = .ok z1 ∧ x_er n z1 q
end STK
section STL
variable {mk : Nat → Int32} {pl : Nat → Nat}
theorem x_to.trans : ∀ {n n' : Nat} {z z' z'' : Nat × xX}, x_to mk pl n z z' → x_to mk pl n' z' z'' → ∃ k, x_to mk pl k z z''
  | 0, n', _, _, _, h, h' => ⟨n', by cases h; exact h'⟩
  | n + 1, n', _, _, _, ⟨h0, z1, h1, h2⟩, h' => by
    obtain ⟨k, hk⟩ := x_to.trans h2 h'
    exact ⟨k + 1, h0, z1, h1, hk⟩
theorem x_to.er : ∀ {n n' : Nat} {z z' : Nat × xX} {q : aF}, x_to mk pl n z z' → x_er mk pl n' z' q → ∃ k, x_er mk pl k z q
  | 0, n', _, _, _, h, h' => ⟨n', by cases h; exact h'⟩
  | n + 1, n', _, _, _, ⟨h0, z1, h1, h2⟩, h' => by
    obtain ⟨k, hk⟩ := x_to.er h2 h'
    exact ⟨k + 1, h0, z1, h1, hk⟩
theorem x_to.one {z z' : Nat × xX} (h0 : z.1 ≤ 1) (h : x_step mk pl z = .ok z') : x_to mk pl 1 z z' := ⟨h0, z', h, rfl⟩
end STL
