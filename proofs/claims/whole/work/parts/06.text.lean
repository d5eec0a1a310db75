/-! the text of orders -/
abbrev wTx (cC : ClassId) (t0 t1 : Nat) (tl : Nat) (tx : Nat → Int) : va_W := [(t0, .inr (4, [.int (iI (tl : Int)), .ref t1])), (t1, .inl (cC, 60, .inl (fun k => iI (tx k))))]
def TOk (tl : Nat) (tx : Nat → Int) : Prop := tl ≤ 60 ∧ ∀ k, k < tl → 0 ≤ tx k ∧ tx k < 65536
/-- the sign at a place, 0 beyond the end -/
def sgn (tl : Nat) (tx : Nat → Int) (x : Nat) : Int := if x < tl then tx x else 0
theorem TOk.s {tl : Nat} {tx : Nat → Int} (h : TOk tl tx) (x : Nat) : 0 ≤ sgn tl tx x ∧ sgn tl tx x < 65536 := by
  simp only [sgn]
  split
  · exact h.2 x (by assumption)
  · omega
def ablF (c : Int) : Int := if c = 112 then 2 else if c = 114 then 8 else if c = 115 then 4 else 0
/-- what is awaited behind a sign -/
def abF (a c : Int) : Int := if a = 1 then ablF c else if a = 2 then (if 49 ≤ c ∧ c ≤ 57 then 3 else 0) else if a = 3 then (if 48 ≤ c ∧ c ≤ 57 then 8 else if c = 59 then 1 else 0) else if a = 4 then (if 48 ≤ c ∧ c ≤ 57 then 5 else 0) else if a = 5 then (if c = 61 then 6 else 0) else if a = 6 then (if c = 45 then 7 else if 48 ≤ c ∧ c ≤ 57 then 8 else 0) else if a = 7 then (if 49 ≤ c ∧ c ≤ 57 then 8 else 0) else if a = 8 then (if c = 59 then 1 else 0) else 0
theorem abF_bd (a c : Int) : 0 ≤ abF a c ∧ abF a c ≤ 8 := by
  simp only [abF, ablF]
  (repeat' split) <;> omega
def autF (tx : Nat → Int) : Nat → Int
  | 0 => 1
  | i + 1 => abF (autF tx i) (tx i)
theorem autF_bd (tx : Nat → Int) : ∀ i, 0 ≤ autF tx i ∧ autF tx i ≤ 8
  | 0 => by simp [autF]
  | i + 1 => by rw [autF]; exact abF_bd _ _
/-- z is the fault of the text, or -1 -/
def FltP (tl : Nat) (tx : Nat → Int) (z : Int) : Prop := (∃ i : Nat, i < tl ∧ z = (i : Int) ∧ autF tx (i + 1) = 0 ∧ ∀ j, j < i → ¬ autF tx (j + 1) = 0) ∨ ((∀ j, j < tl → ¬ autF tx (j + 1) = 0) ∧ (((autF tx tl = 8 ∨ autF tx tl = 3) ∧ z = -1) ∨ (¬ (autF tx tl = 8 ∨ autF tx tl = 3) ∧ z = (tl : Int))))
theorem FltP.bd {tl : Nat} {tx : Nat → Int} {z : Int} (h : FltP tl tx z) : -1 ≤ z ∧ z ≤ (tl : Int) := by
  rcases h with ⟨i, h1, h2, -⟩ | ⟨-, ⟨-, h⟩ | ⟨-, h⟩⟩ <;> omega
/-- the letter of the order that begins at a place, or 0 -/
def ordA (tl : Nat) (tx : Nat → Int) (x : Nat) : Int := if x = 0 ∨ sgn tl tx (x - 1) = 59 then sgn tl tx x else 0
def tkA (tl : Nat) (tx : Nat → Int) (x : Nat) : Int := if 48 ≤ sgn tl tx (x + 2) ∧ sgn tl tx (x + 2) ≤ 57 then 10 * (sgn tl tx (x + 1) - 48) + (sgn tl tx (x + 2) - 48) else sgn tl tx (x + 1) - 48
def spA (tl : Nat) (tx : Nat → Int) (x : Nat) : Int := if sgn tl tx (x + 3) = 45 then - (sgn tl tx (x + 4) - 48) else sgn tl tx (x + 3) - 48
theorem TOk.o {tl : Nat} {tx : Nat → Int} (h : TOk tl tx) (x : Nat) : 0 ≤ ordA tl tx x ∧ ordA tl tx x < 65536 := by
  have := h.s x
  simp only [ordA]
  split <;> omega
