/-- the sum of speeds, or of their squares -/
def spdM (w : Nat → Int) (b : Bool) (k : Nat) : Int := if b = true then sumI (fun j => w (21 + j) * w (21 + j)) k else sumI (spM w) k
theorem spdM_s (w : Nat → Int) (b : Bool) (k : Nat) : spdM w b (k + 1) = spdM w b k + (if b = true then w (21 + k) * w (21 + k) else w (21 + k)) := by
  simp only [spdM, sumI_s, spM]; split <;> rfl
def gapM (w : Nat → Int) (n : Nat) (o : Nat → Nat) (b : Bool) : Int := if b = true then mxM w n o n else sumI (fun k => if 0 < gpM w n o k then 1 else 0) n
