theorem rmq_1 {w : Nat → Int} {n g f i : Nat} : rmq w n g f i 1 = (n : Int) - 1 := by simp [rmq, rmv]
