/-! what each call answers and does: z its answer, C the class's state before it, D behind it; r is the ring's state, n its rods -/
def tSetRing (r : Nat → Nat → Int) (n : Nat) (x z : Int) (C D : RC) : Prop := (¬ (20 ≤ x ∧ x ≤ 1000) ∧ z = -2 ∧ D = C) ∨ ((20 ≤ x ∧ x ≤ 1000) ∧ 0 < n ∧ z = -4 ∧ D = C) ∨ ((20 ≤ x ∧ x ≤ 1000) ∧ n = 0 ∧ x = r 0 0 ∧ z = -5 ∧ D = C) ∨ ((20 ≤ x ∧ x ≤ 1000) ∧ n = 0 ∧ ¬ x = r 0 0 ∧ z = r 0 0 ∧ D = recC C (rSet (up (r 0) 0 x) (r 1) (r 2) (r 3) (r 4)))
def appC (r : Nat → Nat → Int) (n : Nat) (x w v : Int) : Nat → Nat → Int := rSet (up (r 0) 1 ((n : Int) + 1)) (up (r 1) n x) (up (r 2) n w) (up (r 3) n v) (up (r 4) n 0)
def tAddRod (r : Nat → Nat → Int) (n : Nat) (x w v z : Int) (C D : RC) : Prop := (¬ (0 ≤ x ∧ x < r 0 0) ∧ z = -1 ∧ D = C) ∨ ((0 ≤ x ∧ x < r 0 0) ∧ ¬ ((1 ≤ w ∧ w ≤ 20) ∧ -9 ≤ v ∧ v ≤ 9) ∧ z = -2 ∧ D = C) ∨ ((0 ≤ x ∧ x < r 0 0) ∧ ((1 ≤ w ∧ w ≤ 20) ∧ -9 ≤ v ∧ v ≤ 9) ∧ n = 8 ∧ z = -3 ∧ D = C) ∨ ((0 ≤ x ∧ x < r 0 0) ∧ ((1 ≤ w ∧ w ≤ 20) ∧ -9 ≤ v ∧ v ≤ 9) ∧ n < 8 ∧ ¬ Rmm (r 0 0) n (r 1) (r 2) x w ∧ z = -4 ∧ D = C) ∨ ((0 ≤ x ∧ x < r 0 0) ∧ ((1 ≤ w ∧ w ≤ 20) ∧ -9 ≤ v ∧ v ≤ 9) ∧ n < 8 ∧ Rmm (r 0 0) n (r 1) (r 2) x w ∧ z = (n : Int) ∧ D = recC C (appC r n x w v))
def drpC (r : Nat → Nat → Int) (n g : Nat) : Nat → Nat → Int := rSet (up (r 0) 1 ((n : Int) - 1)) (shi (r 1) g (n - 1)) (shi (r 2) g (n - 1)) (shi (r 3) g (n - 1)) (shi (r 4) g (n - 1))
def tRemoveRod (r : Nat → Nat → Int) (n : Nat) (x z : Int) (C D : RC) : Prop := (¬ (0 ≤ x ∧ x < (n : Int)) ∧ z = -1 ∧ D = C) ∨ (∃ g : Nat, x = (g : Int) ∧ g < n ∧ z = (n : Int) - 1 ∧ D = recC C (drpC r n g))
def tSetSpeed (r : Nat → Nat → Int) (n : Nat) (x v z : Int) (C D : RC) : Prop := (¬ (0 ≤ x ∧ x < (n : Int)) ∧ z = -1 ∧ D = C) ∨ (∃ g : Nat, x = (g : Int) ∧ g < n ∧ ((¬ (-9 ≤ v ∧ v ≤ 9) ∧ z = -2 ∧ D = C) ∨ ((-9 ≤ v ∧ v ≤ 9) ∧ v = r 3 g ∧ z = -5 ∧ D = C) ∨ ((-9 ≤ v ∧ v ≤ 9) ∧ ¬ v = r 3 g ∧ z = 100 + r 3 g ∧ D = recC C (svC r g v))))
def movC (r : Nat → Nat → Int) (n : Nat) : Int := sumI (fun k => if r 3 k = 0 then 0 else 1) n
def tReverse (r : Nat → Nat → Int) (n : Nat) (z : Int) (C D : RC) : Prop := (movC r n = 0 ∧ z = -5 ∧ D = C) ∨ (¬ movC r n = 0 ∧ z = movC r n ∧ D = recC C (trC r n))
def tPass (r : Nat → Nat → Int) (n : Nat) (t z : Int) (C D : RC) : Prop := (¬ (1 ≤ t ∧ t ≤ 100) ∧ z = -2 ∧ D = C) ∨ ((1 ≤ t ∧ t ≤ 100) ∧ 10000 < r 0 2 + t ∧ z = -4 ∧ D = C) ∨ ((1 ≤ t ∧ t ≤ 100) ∧ r 0 2 + t ≤ 10000 ∧ z = crM r n t n ∧ ∃ r', PassR r n t r' ∧ D = recC C r')
def txtC (C : RC) (tl : Nat) (tx : Nat → Int) : RC := (C.1, C.2.1, C.2.2.1, C.2.2.2.1, tl, tx, C.2.2.2.2.2.2)
def tType (tl : Nat) (tx : Nat → Int) (c z : Int) (C D : RC) : Prop := (60 ≤ tl ∧ z = -3 ∧ D = C) ∨ (tl < 60 ∧ z = (tl : Int) + 1 ∧ D = txtC C (tl + 1) (up tx tl c))
def tClear (tl : Nat) (tx : Nat → Int) (z : Int) (C D : RC) : Prop := z = (tl : Int) ∧ D = txtC C 0 tx
def tPerform (r : Nat → Nat → Int) (n tl : Nat) (tx : Nat → Int) (z : Int) (C D : RC) : Prop := ∃ f, FltP tl tx f ∧ ((¬ f = -1 ∧ z = -100 - f ∧ D = C) ∨ (f = -1 ∧ ¬ feF n tl tx tl 0 (r 0 2) = 0 ∧ z = feF n tl tx tl 0 (r 0 2) ∧ D = C) ∨ (f = -1 ∧ feF n tl tx tl 0 (r 0 2) = 0 ∧ ∃ r', DoR n tl tx r tl r' z ∧ D = recC C r'))
def tUndo (k : Nat) (z : Int) (C D : RC) : Prop := (k = 0 ∧ z = -5 ∧ D = C) ∨ (1 ≤ k ∧ z = (k : Int) - 1 ∧ D = (latR k C.2.2.2.1.1 C.2.2.2.1.2.1 C.2.2.2.1.2.2.1 C.2.2.2.1.2.2.2, C.2.1, k - 1, C.2.2.2.1, C.2.2.2.2))
def tKeep (r : Nat → Nat → Int) (z : Int) (C D : RC) : Prop := z = r 0 2 ∧ D = (C.1, C.1, C.2.2.1, C.2.2.2.1, C.2.2.2.2.1, C.2.2.2.2.2.1, 1)
def tRestore (q : Nat → Nat → Int) (ik z : Int) (C D : RC) : Prop := (ik = 0 ∧ z = -5 ∧ D = C) ∨ (¬ ik = 0 ∧ z = q 0 2 ∧ D = recC C q)
def tRod (r : Nat → Nat → Int) (n : Nat) (x w z : Int) : Prop := (¬ (0 ≤ x ∧ x < (n : Int)) ∧ z = -1) ∨ (∃ g : Nat, x = (g : Int) ∧ g < n ∧ ((w = 0 ∧ z = r 1 g) ∨ (w = 1 ∧ z = r 2 g) ∨ (w = 2 ∧ z = 100 + r 3 g) ∨ (w = 3 ∧ z = gapC (r 0 0) n (r 1) (r 2) g n) ∨ (w = 4 ∧ z = ((nrC (r 0 0) (r 1) g n).1 : Int)) ∨ (w = 5 ∧ z = csC (r 0 0) n (r 1) (r 2) g n) ∨ (w = 6 ∧ z = ((lmC (r 0 0) n (r 1) (r 2) g n).1 : Int)) ∨ (w = 7 ∧ z = 1000000 + r 4 g) ∨ (¬ (0 ≤ w ∧ w ≤ 7) ∧ z = -2)))
def tCover (r : Nat → Nat → Int) (n : Nat) (x z : Int) : Prop := (¬ (0 ≤ x ∧ x < r 0 0) ∧ z = -1) ∨ ((0 ≤ x ∧ x < r 0 0) ∧ Cov (r 0 0) n (r 1) (r 2) x z)
def tPlaceIn (r : Nat → Nat → Int) (n : Nat) (x t z : Int) : Prop := (¬ (0 ≤ x ∧ x < (n : Int)) ∧ z = -1) ∨ (∃ g : Nat, x = (g : Int) ∧ g < n ∧ ((¬ (0 ≤ t ∧ t ≤ 100) ∧ z = -2) ∨ ((0 ≤ t ∧ t ≤ 100) ∧ ∃ fw fs, fsA r n t fw fs ∧ z = npC r fw g)))
def tSpeedIn (r : Nat → Nat → Int) (n : Nat) (x t z : Int) : Prop := (¬ (0 ≤ x ∧ x < (n : Int)) ∧ z = -1) ∨ (∃ g : Nat, x = (g : Int) ∧ g < n ∧ ((¬ (0 ≤ t ∧ t ≤ 100) ∧ z = -2) ∨ (t = 0 ∧ z = 100 + r 3 g) ∨ ((1 ≤ t ∧ t ≤ 100) ∧ ∃ fw fs, fsA r n t fw fs ∧ z = 100 + fs g)))
def tMeetings (r : Nat → Nat → Int) (n : Nat) (t w z : Int) : Prop := (¬ (1 ≤ t ∧ t ≤ 100) ∧ z = -2) ∨ ((1 ≤ t ∧ t ≤ 100) ∧ ¬ (0 ≤ w ∧ w ≤ 1) ∧ z = -2) ∨ ((1 ≤ t ∧ t ≤ 100) ∧ w = 0 ∧ z = crM r n t n) ∨ ((1 ≤ t ∧ t ≤ 100) ∧ w = 1 ∧ z = crI r n t n)
def tMoments (r : Nat → Nat → Int) (n : Nat) (t z : Int) : Prop := (¬ (1 ≤ t ∧ t ≤ 3) ∧ z = -2) ∨ ((1 ≤ t ∧ t ≤ 3) ∧ ∃ sm, (∀ j, sm j < 2 ^ 61) ∧ z = sumI (fun j => ((popN (mpA r n t (zer sm 19) n j) : Nat) : Int)) 19)
def tNext (r : Nat → Nat → Int) (n : Nat) (w z : Int) : Prop := (¬ (0 ≤ w ∧ w ≤ 2) ∧ z = -2) ∨ ((0 ≤ w ∧ w ≤ 2) ∧ ∃ u l m, NxtC r n u l m ∧ ((m = 0 ∧ z = -5) ∨ (¬ m = 0 ∧ ((w = 0 ∧ z = u) ∨ (w = 1 ∧ z = l) ∨ (w = 2 ∧ z = m)))))
def tCount (r : Nat → Nat → Int) (n k tl : Nat) (w z : Int) : Prop := (w = 0 ∧ z = r 0 0) ∨ (w = 1 ∧ z = (n : Int)) ∨ (w = 2 ∧ z = freeL (r 0 0) n (r 2)) ∨ (w = 3 ∧ z = r 0 2) ∨ (w = 4 ∧ z = r 0 3) ∨ (w = 5 ∧ z = r 0 4) ∨ (w = 6 ∧ z = 1000 + sumI (r 3) n) ∨ (w = 7 ∧ z = sumI (fun j => r 3 j * r 3 j) n) ∨ (w = 8 ∧ z = sumI (fun j => if 0 < gapC (r 0 0) n (r 1) (r 2) j n then 1 else 0) n) ∨ (w = 9 ∧ z = ggC (r 0 0) n (r 1) (r 2) n) ∨ (w = 10 ∧ z = (k : Int)) ∨ (w = 11 ∧ z = (tl : Int)) ∨ (¬ (0 ≤ w ∧ w ≤ 11) ∧ z = -2)
theorem mov_bd {r : Nat → Nat → Int} {n : Nat} (h : Ok r n) : 0 ≤ sumI (fun k => if r 3 k = 0 then 0 else 1) n ∧ sumI (fun k => if r 3 k = 0 then 0 else 1) n ≤ 8 := by
  have h1 := sumI_bd (f := fun k => if r 3 k = 0 then (0 : Int) else 1) (a := 0) (b := 1) (n := n) (fun k _ => by split <;> omega)
  have := h.bd
  omega
theorem cpi_out {f g : Nat → Int} {i k : Nat} (h : i ≤ k) : cpi f g i k = f k := by simp only [cpi]; rw [if_neg (by omega)]
theorem lp_np {r : Nat → Nat → Int} {fw fs w : Nat → Int} {i : Nat} : ((rSet (r 0) (cpi (r 1) (npC r fw) i) (r 2) (cpi (r 3) fs i) w) 1 i + fw i) % ((rSet (r 0) (cpi (r 1) (npC r fw) i) (r 2) (cpi (r 3) fs i) w) 0 0) = npC r fw i := by
  show (cpi (r 1) (npC r fw) i i + fw i) % r 0 0 = npC r fw i
  rw [cpi_out (Nat.le_refl i)]; rfl
theorem NxtC.bd {r : Nat → Nat → Int} {n : Nat} (hok : Ok r n) {u l m : Int} (h : NxtC r n u l m) : 0 ≤ m ∧ m ≤ 100 := by
  obtain ⟨a, b, h1, -⟩ := h
  have := h1.2.2.1
  have := hok.bd
  omega
theorem recK_le {k : Nat} (h : k ≤ 4) : recK k ≤ 4 := by simp only [recK]; split <;> omega
theorem abF_2 (c : Int) : abF 2 c = if 49 ≤ c ∧ c ≤ 57 then 3 else 0 := rfl
theorem abF_3 (c : Int) : abF 3 c = if 48 ≤ c ∧ c ≤ 57 then 8 else if c = 59 then 1 else 0 := rfl
theorem abF_4 (c : Int) : abF 4 c = if 48 ≤ c ∧ c ≤ 57 then 5 else 0 := rfl
theorem abF_5 (c : Int) : abF 5 c = if c = 61 then 6 else 0 := rfl
theorem abF_6 (c : Int) : abF 6 c = if c = 45 then 7 else if 48 ≤ c ∧ c ≤ 57 then 8 else 0 := rfl
theorem abF_7 (c : Int) : abF 7 c = if 49 ≤ c ∧ c ≤ 57 then 8 else 0 := rfl
theorem abF_8 (c : Int) : abF 8 c = if c = 59 then 1 else 0 := rfl
theorem abF_59 (a : Int) (h : ¬ abF a 59 = 0) : abF a 59 = 1 := by
  simp only [abF, ablF] at *
  (repeat' split at h) <;> first | (exfalso; exact h rfl) | ((repeat' split) <;> omega)
/-- in a text without fault each sign is awaited, and the end may come -/
theorem FltP.all {tl : Nat} {tx : Nat → Int} (h : FltP tl tx (-1)) : (∀ j, j < tl → ¬ abF (autF tx j) (tx j) = 0) ∧ (autF tx tl = 8 ∨ autF tx tl = 3) := by
  rcases h with ⟨i, -, h, -⟩ | ⟨h1, ⟨h2, -⟩ | ⟨-, h2⟩⟩
  · omega
  · exact ⟨h1, h2⟩
  · omega
theorem FltP.good {tl : Nat} {tx : Nat → Int} (h : FltP tl tx (-1)) : TxG tl tx := by
  obtain ⟨h1, h2⟩ := h.all
  intro x hx
  have st : ¬ ordA tl tx x = 0 → autF tx x = 1 := by
    intro ho
    simp only [ordA] at ho
    split at ho
    · rename_i q
      rcases q with q | q
      · subst q; rfl
      · rcases Nat.eq_zero_or_pos x with e | e
        · subst e; rfl
        · have g := h1 (x - 1) (by omega)
          simp only [sgn] at q
          rw [if_pos (by omega)] at q
          have e2 : autF tx x = abF (autF tx (x - 1)) (tx (x - 1)) := by
            have e3 : x = (x - 1) + 1 := by omega
            rw [e3, autF]; rfl
          rw [q] at g e2
          rw [e2]; exact abF_59 _ g
    · exact absurd rfl ho
  have sx : ¬ ordA tl tx x = 0 → ordA tl tx x = tx x := by
    intro ho
    simp only [ordA] at ho ⊢
    split at ho
    · rename_i q
      rw [if_pos q]; simp only [sgn]; rw [if_pos hx]
    · exact absurd rfl ho
  have nx : ∀ j, j < tl → autF tx (j + 1) ≠ 8 → autF tx (j + 1) ≠ 3 → j + 1 < tl := by
    intro j hj e8 e3
    rcases Nat.lt_or_ge (j + 1) tl with q | q
    · exact q
    · have : j + 1 = tl := by omega
      rw [this] at e8 e3
      omega
  have sg : ∀ j, j < tl → sgn tl tx j = tx j := fun j hj => by simp only [sgn]; rw [if_pos hj]
  constructor
  · intro ho
    have a0 := st (by omega)
    have c0 := sx (by omega)
    have a1 : autF tx (x + 1) = 2 := by rw [autF, a0, ← c0, ho]; rfl
    have l1 := nx x hx (by omega) (by omega)
    have g1 := h1 (x + 1) l1
    rw [a1] at g1
    have d1 : 49 ≤ tx (x + 1) ∧ tx (x + 1) ≤ 57 := by
      rcases Decidable.em (49 ≤ tx (x + 1) ∧ tx (x + 1) ≤ 57) with q | q
      · exact q
      · exact absurd (by rw [abF_2, if_neg q]) g1
    simp only [tkA]
    rw [sg (x + 1) l1]
    split <;> omega
  · intro ho
    have a0 := st (by omega)
    have c0 := sx (by omega)
    have a1 : autF tx (x + 1) = 4 := by rw [autF, a0, ← c0, ho]; rfl
    have l1 := nx x hx (by omega) (by omega)
    have g1 := h1 (x + 1) l1
    rw [a1] at g1
    have d1 : 48 ≤ tx (x + 1) ∧ tx (x + 1) ≤ 57 := by
      rcases Decidable.em (48 ≤ tx (x + 1) ∧ tx (x + 1) ≤ 57) with q | q
      · exact q
      · exact absurd (by rw [abF_4, if_neg q]) g1
    have a2 : autF tx (x + 2) = 5 := by rw [autF, a1, abF_4, if_pos d1]
    have l2 := nx (x + 1) l1 (show autF tx (x + 2) ≠ 8 by omega) (show autF tx (x + 2) ≠ 3 by omega)
    have g2 := h1 (x + 2) l2
    rw [a2] at g2
    have d2 : tx (x + 2) = 61 := by
      rcases Decidable.em (tx (x + 2) = 61) with q | q
      · exact q
      · exact absurd (by rw [abF_5, if_neg q]) g2
    have a3 : autF tx (x + 3) = 6 := by rw [autF, a2, d2]; rfl
    have l3 := nx (x + 2) l2 (show autF tx (x + 3) ≠ 8 by omega) (show autF tx (x + 3) ≠ 3 by omega)
    have g3 := h1 (x + 3) l3
    rw [a3] at g3
    simp only [spA]
    rw [sg (x + 3) l3]
    by_cases q3 : tx (x + 3) = 45
    · have a4 : autF tx (x + 4) = 7 := by rw [autF, a3, q3]; rfl
      have l4 := nx (x + 3) l3 (show autF tx (x + 4) ≠ 8 by omega) (show autF tx (x + 4) ≠ 3 by omega)
      have g4 := h1 (x + 4) l4
      rw [a4] at g4
      have d4 : 49 ≤ tx (x + 4) ∧ tx (x + 4) ≤ 57 := by
        rcases Decidable.em (49 ≤ tx (x + 4) ∧ tx (x + 4) ≤ 57) with q | q
        · exact q
        · exact absurd (by rw [abF_7, if_neg q]) g4
      rw [if_pos q3, sg (x + 4) l4]
      omega
    · have d3 : 48 ≤ tx (x + 3) ∧ tx (x + 3) ≤ 57 := by
        rcases Decidable.em (48 ≤ tx (x + 3) ∧ tx (x + 3) ≤ 57) with q | q
        · exact q
        · exact absurd (by rw [abF_6, if_neg q3, if_neg q]) g3
      rw [if_neg q3]
      omega
theorem feF_bd (n tl : Nat) (tx : Nat → Int) : ∀ (f x : Nat) (tk : Int), -4 ≤ feF n tl tx f x tk ∧ feF n tl tx f x tk ≤ 0
  | 0, _, _ => by simp [feF]
  | f + 1, x, tk => by
    have h1 := feF_bd n tl tx f (x + 1) (tk + tkA tl tx x)
    have h2 := feF_bd n tl tx f (x + 1) tk
    rw [feF]
    (repeat' split) <;> omega
