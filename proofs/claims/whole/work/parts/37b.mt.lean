/-! the reference reads orders -/
theorem sgn_eq (tl : Nat) (tx : Nat → Int) (x : Nat) : (x < tl ∧ sgn tl tx x = tx x) ∨ (tl ≤ x ∧ sgn tl tx x = 0) := by
  rcases Nat.lt_or_ge x tl with q | q
  · exact Or.inl ⟨q, by simp only [sgn]; rw [if_pos q]⟩
  · exact Or.inr ⟨q, by simp only [sgn]; rw [if_neg (by omega)]⟩
theorem sgn_lt {tl : Nat} {tx : Nat → Int} {x : Nat} (h : 0 < sgn tl tx x) : x < tl := by
  rcases sgn_eq tl tx x with q | q <;> omega
theorem MeP.bd {w : Nat → Int} {n : Nat} (hok : MOk w n) {t z : Int} (ht : 0 ≤ t ∧ t ≤ 100) (h : MeP w n t false z) : 0 ≤ z ∧ z ≤ 256000 := by
  obtain ⟨o, od, pt, hL, rfl⟩ := h
  have hn := hok.bd
  have h1 := sumI_bd (f := fun k => sumI (fun i => tmM w n o pt t i k * (if false = true then dfM w o i k else 1)) k) (a := 0) (b := 32000) (n := n) (fun k hk => by
    have h2 := sumI_bd (f := fun i => tmM w n o pt t i k * (if false = true then dfM w o i k else 1)) (a := 0) (b := 4000) (n := k) (fun i hi => by
      have := hok.tm pt (hL.lt (show i < n by omega)) (hL.lt hk) ht
      rw [if_neg (by decide), Int.mul_one]; exact this)
    omega)
  simp only [meM]
  omega
theorem MOk.ext {w v : Nat → Int} {n : Nat} (h : MOk w n) (h0 : v 0 = w 0) (h1 : v 1 = w 1) (h2 : ∀ k, k < n → v (13 + k) = w (13 + k)) (h3 : ∀ k, k < n → (0 ≤ v (5 + k) ∧ v (5 + k) < w 0) ∧ -9 ≤ v (21 + k) ∧ v (21 + k) ≤ 9) : MOk v n := by
  have hb := h.bd
  have e : frM v n = frM w n := by
    simp only [frM, freeL]; rw [h0, sumI_cong (f := leM v) (g := leM w) (fun k hk => h2 k hk)]
  refine ⟨hb.1, by omega, by omega, by omega, fun k hk => ?_, by omega⟩
  have g1 := h.at hk
  have g2 := h2 k hk
  have g3 := h3 k hk
  omega
theorem PassM.ok {w w' : Nat → Int} {n : Nat} (hok : MOk w n) {t z : Int} (ht : 0 ≤ t ∧ t ≤ 100) (h : PassM w n t z w') : MOk w' n := by
  obtain ⟨o, od, pt, th, ss, hL, hG, hz, h0, h1, h2, h3, h4, h5, h6⟩ := h
  have hb := hok.bd
  refine hok.ext h0 h1 (fun k hk => h5 (13 + k) (by omega) (by omega)) (fun k hk => ?_)
  obtain ⟨j, hj, rfl⟩ := hL.sur hk
  obtain ⟨p1, p2, p3⟩ := h6 j hj
  have g1 := GoM.bd hok hL ht hG hj
  have g2 := fm_b (x := th j + sumI (fun i => w (13 + o i)) j) (y := w 0) (by omega)
  rw [p1, p2]; omega
theorem MOk.ngk {w : Nat → Int} {n : Nat} (h : MOk w n) : MOk (ngm w n) n := by
  have hb := h.bd
  refine h.ext (by simp only [ngm]; rw [if_neg (by omega)]) (ngm_1 w n) (fun k hk => by simp only [ngm]; rw [if_neg (by omega)]) (fun k hk => ?_)
  have := h.at hk
  simp only [ngm]; rw [if_neg (by omega), if_pos (by omega)]; omega
theorem MOk.usp {w : Nat → Int} {n g : Nat} (h : MOk w n) (hg : g < n) {v : Int} (hv : -9 ≤ v ∧ v ≤ 9) : MOk (up w (21 + g) v) n := by
  have hb := h.bd
  refine h.ext (up_n (by omega)) (up_n (by omega)) (fun k hk => up_n (by omega)) (fun k hk => ?_)
  have := h.at hk
  rw [up_n (by omega)]
  by_cases q : k = g
  · subst q; rw [up_s]; omega
  · rw [up_n (by omega)]; omega
/-- ticks are read at y, and pass if d -/
def PsO (tl : Nat) (tx : Nat → Int) (n : Nat) (d : Bool) (w : Nat → Int) (y : Nat) (z : Int) (w' : Nat → Int) (x' : Nat) : Prop := ∃ tk : Int, (((48 ≤ sgn tl tx (y + 1) ∧ sgn tl tx (y + 1) ≤ 57) ∧ tk = 10 * (sgn tl tx y - 48) + (sgn tl tx (y + 1) - 48) ∧ x' = y + 2) ∨ (¬ (48 ≤ sgn tl tx (y + 1) ∧ sgn tl tx (y + 1) ≤ 57) ∧ tk = sgn tl tx y - 48 ∧ x' = y + 1)) ∧ ((d = false ∧ z = 0 ∧ w' = w) ∨ (d = true ∧ 10000 < w 2 + tk ∧ z = -4 ∧ w' = w) ∨ (d = true ∧ w 2 + tk ≤ 10000 ∧ PassM w n tk z w'))
/-- an order is read at x, and done if d -/
def RdO (tl : Nat) (tx : Nat → Int) (n : Nat) (d : Bool) (w : Nat → Int) (x : Nat) (z : Int) (w' : Nat → Int) (x' : Nat) : Prop :=
  (sgn tl tx x = 114 ∧ z = 0 ∧ x' = x + 1 ∧ ((d = true ∧ w' = ngm w n) ∨ (d = false ∧ w' = w))) ∨
  (sgn tl tx x = 112 ∧ ¬ (49 ≤ sgn tl tx (x + 1) ∧ sgn tl tx (x + 1) ≤ 57) ∧ z = -100 ∧ x' = x + 1 ∧ w' = w) ∨
  (sgn tl tx x = 112 ∧ (49 ≤ sgn tl tx (x + 1) ∧ sgn tl tx (x + 1) ≤ 57) ∧ PsO tl tx n d w (x + 1) z w' x') ∨
  (¬ (sgn tl tx x = 112 ∨ sgn tl tx x = 114 ∨ sgn tl tx x = 115) ∧ z = -100 ∧ x' = x ∧ w' = w) ∨
  (sgn tl tx x = 115 ∧ ¬ (48 ≤ sgn tl tx (x + 1) ∧ sgn tl tx (x + 1) ≤ 57) ∧ z = -100 ∧ x' = x + 1 ∧ w' = w) ∨
  (sgn tl tx x = 115 ∧ (48 ≤ sgn tl tx (x + 1) ∧ sgn tl tx (x + 1) ≤ 57) ∧ ¬ sgn tl tx (x + 2) = 61 ∧ z = -100 ∧ x' = x + 2 ∧ w' = w) ∨
  (sgn tl tx x = 115 ∧ (48 ≤ sgn tl tx (x + 1) ∧ sgn tl tx (x + 1) ≤ 57) ∧ sgn tl tx (x + 2) = 61 ∧ sgn tl tx (x + 3) = 45 ∧ ¬ (49 ≤ sgn tl tx (x + 4) ∧ sgn tl tx (x + 4) ≤ 57) ∧ z = -100 ∧ x' = x + 4 ∧ w' = w) ∨
  (sgn tl tx x = 115 ∧ (48 ≤ sgn tl tx (x + 1) ∧ sgn tl tx (x + 1) ≤ 57) ∧ sgn tl tx (x + 2) = 61 ∧ ¬ sgn tl tx (x + 3) = 45 ∧ ¬ (48 ≤ sgn tl tx (x + 3) ∧ sgn tl tx (x + 3) ≤ 57) ∧ z = -100 ∧ x' = x + 3 ∧ w' = w) ∨
  (sgn tl tx x = 115 ∧ (48 ≤ sgn tl tx (x + 1) ∧ sgn tl tx (x + 1) ≤ 57) ∧ sgn tl tx (x + 2) = 61 ∧ ((sgn tl tx (x + 3) = 45 ∧ (49 ≤ sgn tl tx (x + 4) ∧ sgn tl tx (x + 4) ≤ 57) ∧ x' = x + 5) ∨ (¬ sgn tl tx (x + 3) = 45 ∧ (48 ≤ sgn tl tx (x + 3) ∧ sgn tl tx (x + 3) ≤ 57) ∧ x' = x + 4)) ∧ ((d = false ∧ z = 0 ∧ w' = w) ∨ (d = true ∧ (n : Int) ≤ sgn tl tx (x + 1) - 48 ∧ z = -1 ∧ w' = w) ∨ (d = true ∧ ∃ g : Nat, sgn tl tx (x + 1) - 48 = (g : Int) ∧ g < n ∧ z = 0 ∧ w' = up w (21 + g) (spA tl tx x))))
theorem PsO.ok {tl : Nat} {tx : Nat → Int} {n : Nat} {d : Bool} {w w' : Nat → Int} {y x' : Nat} {z : Int} (hok : MOk w n) (hw2 : 0 ≤ w 2 ∧ w 2 ≤ 10000) (hs : 49 ≤ sgn tl tx y ∧ sgn tl tx y ≤ 57) (h : PsO tl tx n d w y z w' x') : MOk w' n ∧ (0 ≤ w' 2 ∧ w' 2 ≤ 10000) ∧ x' ≤ tl ∧ y + 1 ≤ x' ∧ -100 ≤ z ∧ z ≤ 256000 := by
  obtain ⟨tk, h1, h2⟩ := h
  have l1 := sgn_lt (tl := tl) (tx := tx) (x := y) (by omega)
  have hx : x' ≤ tl ∧ y + 1 ≤ x' ∧ 1 ≤ tk ∧ tk ≤ 99 := by
    rcases h1 with ⟨a, b, c⟩ | ⟨a, b, c⟩
    · have l2 := sgn_lt (tl := tl) (tx := tx) (x := y + 1) (by omega)
      omega
    · omega
  rcases h2 with ⟨-, rfl, rfl⟩ | ⟨-, -, rfl, rfl⟩ | ⟨-, a, b⟩
  · exact ⟨hok, hw2, hx.1, hx.2.1, by omega, by omega⟩
  · exact ⟨hok, hw2, hx.1, hx.2.1, by omega, by omega⟩
  · have g1 := b.ok hok (by omega)
    obtain ⟨o, od, pt, th, ss, hL, hG, hz, h0, h1, h2, -⟩ := b
    have g2 := hz.bd hok (by omega)
    exact ⟨g1, by omega, hx.1, hx.2.1, by omega, by omega⟩
theorem RdO.ok {tl : Nat} {tx : Nat → Int} {n : Nat} {d : Bool} {w w' : Nat → Int} {x x' : Nat} {z : Int} (hok : MOk w n) (hw2 : 0 ≤ w 2 ∧ w 2 ≤ 10000) (hx : x ≤ tl) (h : RdO tl tx n d w x z w' x') : MOk w' n ∧ (0 ≤ w' 2 ∧ w' 2 ≤ 10000) ∧ x' ≤ tl ∧ x ≤ x' ∧ (0 ≤ z → x + 1 ≤ x') ∧ -100 ≤ z ∧ z ≤ 256000 := by
  rcases h with ⟨a, rfl, rfl, ⟨-, rfl⟩ | ⟨-, rfl⟩⟩ | ⟨a, -, rfl, rfl, rfl⟩ | ⟨a, b, c⟩ | ⟨-, rfl, rfl, rfl⟩ | ⟨a, -, rfl, rfl, rfl⟩ | ⟨a, b, -, rfl, rfl, rfl⟩ | ⟨a, b, c, d, -, rfl, rfl, rfl⟩ | ⟨a, b, c, -, -, rfl, rfl, rfl⟩ | ⟨a, b, c, d, e⟩
  · have l1 := sgn_lt (tl := tl) (tx := tx) (x := x) (by omega)
    refine ⟨hok.ngk, ?_, by omega, by omega, by omega, by omega, by omega⟩
    simp only [ngm]; rw [if_neg (by omega)]; exact hw2
  · have l1 := sgn_lt (tl := tl) (tx := tx) (x := x) (by omega)
    exact ⟨hok, hw2, by omega, by omega, by omega, by omega, by omega⟩
  · have l1 := sgn_lt (tl := tl) (tx := tx) (x := x) (by omega)
    exact ⟨hok, hw2, by omega, by omega, by omega, by omega, by omega⟩
  · obtain ⟨g1, g2, g3, g4, g5, g6⟩ := c.ok hok hw2 b
    exact ⟨g1, g2, g3, by omega, by omega, g5, g6⟩
  · exact ⟨hok, hw2, by omega, by omega, by omega, by omega, by omega⟩
  · have l1 := sgn_lt (tl := tl) (tx := tx) (x := x) (by omega)
    exact ⟨hok, hw2, by omega, by omega, by omega, by omega, by omega⟩
  · have l1 := sgn_lt (tl := tl) (tx := tx) (x := x + 1) (by omega)
    exact ⟨hok, hw2, by omega, by omega, by omega, by omega, by omega⟩
  · have l1 := sgn_lt (tl := tl) (tx := tx) (x := x + 3) (by omega)
    exact ⟨hok, hw2, by omega, by omega, by omega, by omega, by omega⟩
  · have l1 := sgn_lt (tl := tl) (tx := tx) (x := x + 2) (by omega)
    exact ⟨hok, hw2, by omega, by omega, by omega, by omega, by omega⟩
  · have hx9 : x' ≤ tl ∧ x + 1 ≤ x' := by
      rcases d with ⟨d1, d2, d3⟩ | ⟨d1, d2, d3⟩
      · have l1 := sgn_lt (tl := tl) (tx := tx) (x := x + 4) (by omega)
        omega
      · have l1 := sgn_lt (tl := tl) (tx := tx) (x := x + 3) (by omega)
        omega
    rcases e with ⟨-, rfl, rfl⟩ | ⟨-, -, rfl, rfl⟩ | ⟨-, g, e1, e2, rfl, rfl⟩
    · exact ⟨hok, hw2, by omega, by omega, by omega, by omega, by omega⟩
    · exact ⟨hok, hw2, by omega, by omega, by omega, by omega, by omega⟩
    · refine ⟨hok.usp e2 ?_, ?_, by omega, by omega, by omega, by omega, by omega⟩
      · simp only [spA]; split <;> omega
      · rw [up_n (by omega)]; exact hw2
/-- k orders are read from the beginning on, and done if d: then the place is x, the row w, the sum of meetings s -/
def PreO (tl : Nat) (tx : Nat → Int) (n : Nat) (d : Bool) (w0 : Nat → Int) : Nat → Nat → (Nat → Int) → Int → Prop
  | 0, x, w, s => x = 0 ∧ w = w0 ∧ s = 0
  | k + 1, x, w, s => ∃ (x1 : Nat) (w1 : Nat → Int) (s1 z : Int) (y : Nat), PreO tl tx n d w0 k x1 w1 s1 ∧ RdO tl tx n d w1 x1 z w y ∧ 0 ≤ z ∧ sgn tl tx y = 59 ∧ x = y + 1 ∧ s = s1 + z
/-- and the last one -/
def DonO (tl : Nat) (tx : Nat → Int) (n : Nat) (d : Bool) (w0 : Nat → Int) (x' : Nat) (w' : Nat → Int) (s : Int) : Prop := ∃ (k x : Nat) (w : Nat → Int) (s1 z : Int), PreO tl tx n d w0 k x w s1 ∧ RdO tl tx n d w x z w' x' ∧ 0 ≤ z ∧ ¬ sgn tl tx x' = 59 ∧ s = s1 + z
def EndO (tl : Nat) (tx : Nat → Int) (n : Nat) (d : Bool) (w0 : Nat → Int) (z : Int) (w' : Nat → Int) (x' : Nat) : Prop := (∃ (k x : Nat) (w : Nat → Int) (s1 : Int), PreO tl tx n d w0 k x w s1 ∧ RdO tl tx n d w x z w' x' ∧ z < 0) ∨ (∃ s, DonO tl tx n d w0 x' w' s ∧ ((x' < tl ∧ z = -100) ∨ (tl ≤ x' ∧ z = s)))
theorem RdO.no {tl : Nat} {tx : Nat → Int} {n : Nat} {w w' : Nat → Int} {x x' : Nat} {z : Int} (h : RdO tl tx n false w x z w' x') : w' = w := by
  rcases h with ⟨-, -, -, ⟨h, -⟩ | ⟨-, h⟩⟩ | ⟨-, -, -, -, h⟩ | ⟨-, -, tk, -, ⟨-, -, h⟩ | ⟨h, -⟩ | ⟨h, -⟩⟩ | ⟨-, -, -, h⟩ | ⟨-, -, -, -, h⟩ | ⟨-, -, -, -, -, h⟩ | ⟨-, -, -, -, -, -, -, h⟩ | ⟨-, -, -, -, -, -, -, h⟩ | ⟨-, -, -, -, ⟨-, -, h⟩ | ⟨h, -⟩ | ⟨h, -⟩⟩ <;> first | exact h | exact absurd h (by decide)
theorem PreO.no {tl : Nat} {tx : Nat → Int} {n : Nat} {w0 : Nat → Int} : ∀ {k x : Nat} {w : Nat → Int} {s : Int}, PreO tl tx n false w0 k x w s → w = w0
  | 0, _, _, _, h => h.2.1
  | _ + 1, _, _, _, h => by
    obtain ⟨x1, w1, s1, z, y, h1, h2, -⟩ := h
    exact h2.no.trans h1.no
theorem EndO.no {tl : Nat} {tx : Nat → Int} {n : Nat} {w0 w' : Nat → Int} {x' : Nat} {z : Int} (h : EndO tl tx n false w0 z w' x') : w' = w0 := by
  rcases h with ⟨k, x, w, s1, h1, h2, -⟩ | ⟨s, ⟨k, x, w, s1, z1, h1, h2, -⟩, -⟩
  · exact h2.no.trans h1.no
  · exact h2.no.trans h1.no
def mPerform (w : Nat → Int) (n tl : Nat) (tx : Nat → Int) (z : Int) (C D : MC) : Prop := ∃ (zf : Int) (xf : Nat), EndO tl tx n false w zf w xf ∧ ((zf < 0 ∧ z = -100 - (xf : Int) ∧ D = C) ∨ (0 ≤ zf ∧ ∃ (wt : Nat → Int) (xt : Nat), EndO tl tx n true w z wt xt ∧ ((z < 0 ∧ ∃ w' : Nat → Int, (∀ y, y < 37 → w' y = w y) ∧ D = (w', C.2)) ∨ (0 ≤ z ∧ D = mrc C wt))))
theorem PreO.ok {tl : Nat} {tx : Nat → Int} {n : Nat} {d : Bool} {w0 : Nat → Int} (hok : MOk w0 n) (hw2 : 0 ≤ w0 2 ∧ w0 2 ≤ 10000) : ∀ {k x : Nat} {w : Nat → Int} {s : Int}, PreO tl tx n d w0 k x w s → MOk w n ∧ (0 ≤ w 2 ∧ w 2 ≤ 10000) ∧ x ≤ tl ∧ 0 ≤ s ∧ s ≤ 256000 * (x : Int)
  | 0, x, w, s, h => by
    obtain ⟨rfl, rfl, rfl⟩ := h
    exact ⟨hok, hw2, Nat.zero_le _, by omega, by omega⟩
  | k + 1, x, w, s, h => by
    obtain ⟨x1, w1, s1, z, y, h1, h2, h3, h4, rfl, rfl⟩ := h
    obtain ⟨g1, g2, g3, g4, g5⟩ := PreO.ok hok hw2 h1
    obtain ⟨f1, f2, f3, f4, f5, f6, f7⟩ := h2.ok g1 g2 g3
    have l1 := sgn_lt (tl := tl) (tx := tx) (x := y) (by omega)
    have := f5 h3
    exact ⟨f1, f2, by omega, by omega, by omega⟩
theorem EndO.bd {tl : Nat} {tx : Nat → Int} {n : Nat} {d : Bool} {w0 w' : Nat → Int} {x' : Nat} {z : Int} (hok : MOk w0 n) (hw2 : 0 ≤ w0 2 ∧ w0 2 ≤ 10000) (h : EndO tl tx n d w0 z w' x') : MOk w' n ∧ (0 ≤ w' 2 ∧ w' 2 ≤ 10000) ∧ x' ≤ tl ∧ -100 ≤ z ∧ z ≤ 256000 * (tl : Int) := by
  rcases h with ⟨k, x, w, s1, h1, h2, h3⟩ | ⟨s, ⟨k, x, w, s1, z1, h1, h2, h3, h4, h5⟩, h6⟩
  · obtain ⟨g1, g2, g3, g4, g5⟩ := h1.ok hok hw2
    obtain ⟨f1, f2, f3, f4, f5, f6, f7⟩ := h2.ok g1 g2 g3
    exact ⟨f1, f2, f3, by omega, by omega⟩
  · obtain ⟨g1, g2, g3, g4, g5⟩ := h1.ok hok hw2
    obtain ⟨f1, f2, f3, f4, f5, f6, f7⟩ := h2.ok g1 g2 g3
    have := f5 h3
    exact ⟨f1, f2, f3, by omega, by omega⟩
theorem spA_l {tl : Nat} {tx : Nat → Int} {x : Nat} {w : Nat → Int} {i : Nat} (h : sgn tl tx (x + 3) = 45) : up w i (-(sgn tl tx (x + 4) - 48)) = up w i (spA tl tx x) := by simp only [spA]; rw [if_pos h]
theorem spA_r {tl : Nat} {tx : Nat → Int} {x : Nat} {w : Nat → Int} {i : Nat} (h : ¬ sgn tl tx (x + 3) = 45) : up w i (sgn tl tx (x + 3) - 48) = up w i (spA tl tx x) := by simp only [spA]; rw [if_neg h]
