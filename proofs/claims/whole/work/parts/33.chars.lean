/-! CHARACTERS: the tests that both sides make -/
def am_b (b : Bool) : Int32 := if b = true then 1 else 0
theorem am_b0 {b : Bool} : am_b b = 0 ↔ b = false := by cases b <;> decide
theorem am_b1 {b : Bool} : ¬ am_b b = 0 ↔ b = true := by cases b <;> decide
theorem am_b01 (b : Bool) : am_b b = 0 ∨ am_b b = 1 := by cases b <;> decide
def c_blank (c : Int32) : Bool := decide (c = 32) || decide (c = 9)
def c_digit (c : Int32) : Bool := !(decide (c < 48)) && !(decide (57 < c))
def c_letter (c : Int32) : Bool := (!(decide (c < 97)) && !(decide (122 < c))) || (!(decide (c < 65)) && !(decide (90 < c))) || decide (c = 95)
def c_char (c : Int32) : Bool := decide (c = 9) || decide (c = 10) || (!(decide (c < 32)) && !(decide (126 < c)))
section CHR
variable {h : aH} {c : Int32}
theorem t_blank : am_Con 1 121 [.int c] h (.inl (some (.int (am_b (c_blank c))))) h 0 0 := by
  refine am_met rfl rfl ?_
  repeat' first
    | exact am_end 9 (by decide) rfl (by first | exact Or.inl rfl | exact Or.inr rfl) (by decide) (by decide) ⟨by simp_all [c_blank, am_b], rfl⟩
    | refine am_bra 9 (by decide) rfl (fun q => ?_) (fun q => ?_)
theorem t_digit : am_Con 1 122 [.int c] h (.inl (some (.int (am_b (c_digit c))))) h 0 0 := by
  refine am_met rfl rfl ?_
  repeat' first
    | exact am_end 9 (by decide) rfl (by first | exact Or.inl rfl | exact Or.inr rfl) (by decide) (by decide) ⟨by simp_all [c_digit, am_b], rfl⟩
    | refine am_bra 9 (by decide) rfl (fun q => ?_) (fun q => ?_)
theorem t_letter : am_Con 1 123 [.int c] h (.inl (some (.int (am_b (c_letter c))))) h 0 0 := by
  refine am_met rfl rfl ?_
  repeat' first
    | exact am_end 9 (by decide) rfl (by first | exact Or.inl rfl | exact Or.inr rfl) (by decide) (by decide) ⟨by simp_all [c_letter, am_b], rfl⟩
    | refine am_bra 9 (by decide) rfl (fun q => ?_) (fun q => ?_)
theorem t_char : am_Con 1 120 [.int c] h (.inl (some (.int (am_b (c_char c))))) h 0 0 := by
  refine am_met rfl rfl ?_
  repeat' first
    | exact am_end 9 (by decide) rfl (by first | exact Or.inl rfl | exact Or.inr rfl) (by decide) (by decide) ⟨by simp_all [c_char, am_b], rfl⟩
    | refine am_bra 9 (by decide) rfl (fun q => ?_) (fun q => ?_)
theorem m_char : am_Con 1 128 [.int c] h (.inl (some (.int (am_b (c_char c))))) h 0 0 := by
  refine am_met rfl rfl ?_
  repeat' first
    | exact am_end 9 (by decide) rfl (by first | exact Or.inl rfl | exact Or.inr rfl) (by decide) (by decide) ⟨by simp_all [c_char, am_b], rfl⟩
    | refine am_bra 9 (by decide) rfl (fun q => ?_) (fun q => ?_)
theorem m_blank : am_Con 1 133 [.int c] h (.inl (some (.int (am_b (c_blank c))))) h 0 0 := by
  refine am_met rfl rfl ?_
  repeat' first
    | exact am_end 9 (by decide) rfl (by first | exact Or.inl rfl | exact Or.inr rfl) (by decide) (by decide) ⟨by simp_all [c_blank, am_b], rfl⟩
    | refine am_bra 9 (by decide) rfl (fun q => ?_) (fun q => ?_)
theorem m_digit : am_Con 1 134 [.int c] h (.inl (some (.int (am_b (c_digit c))))) h 0 0 := by
  refine am_met rfl rfl ?_
  repeat' first
    | exact am_end 9 (by decide) rfl (by first | exact Or.inl rfl | exact Or.inr rfl) (by decide) (by decide) ⟨by simp_all [c_digit, am_b], rfl⟩
    | refine am_bra 9 (by decide) rfl (fun q => ?_) (fun q => ?_)
theorem m_letter : am_Con 1 135 [.int c] h (.inl (some (.int (am_b (c_letter c))))) h 0 0 := by
  refine am_met rfl rfl ?_
  repeat' first
    | exact am_end 9 (by decide) rfl (by first | exact Or.inl rfl | exact Or.inr rfl) (by decide) (by decide) ⟨by simp_all [c_letter, am_b], rfl⟩
    | refine am_bra 9 (by decide) rfl (fun q => ?_) (fun q => ?_)
end CHR
