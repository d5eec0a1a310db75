/-! orders: the place of a fault, and what is done -/
theorem aut_st {tl : Nat} {tx : Nat → Int} {x : Nat} (h : x < tl) : autF tx (x + 1) = abF (autF tx x) (sgn tl tx x) := by
  rw [autF]; simp only [sgn]; rw [if_pos h]
theorem abF_1 (c : Int) : abF 1 c = if c = 112 then 2 else if c = 114 then 8 else if c = 115 then 4 else 0 := rfl
theorem FltP.one {tl : Nat} {tx : Nat → Int} {z z2 : Int} (h : FltP tl tx z) (h2 : FltP tl tx z2) : z = z2 := by
  rcases h with ⟨i, a1, a2, a3, a4⟩ | ⟨a1, a2⟩
  · rcases h2 with ⟨j, b1, b2, b3, b4⟩ | ⟨b1, b2⟩
    · rcases Nat.lt_trichotomy i j with q | q | q
      · exact absurd a3 (b4 i q)
      · omega
      · exact absurd b3 (a4 j q)
    · exact absurd a3 (b1 i a1)
  · rcases h2 with ⟨j, b1, b2, b3, b4⟩ | ⟨b1, b2⟩
    · exact absurd b3 (a1 j b1)
    · omega
theorem RdO.aut {tl : Nat} {tx : Nat → Int} {n : Nat} {d : Bool} {w w' : Nat → Int} {x x' : Nat} {z : Int} (h : RdO tl tx n d w x z w' x') (ha : autF tx x = 1) (hx : x ≤ tl) : (z = -100 ∧ x ≤ x' ∧ (∀ j, x ≤ j → j < x' → ¬ autF tx (j + 1) = 0) ∧ ((x' < tl ∧ autF tx (x' + 1) = 0) ∨ (x' = tl ∧ ¬ (autF tx tl = 8 ∨ autF tx tl = 3)))) ∨ ((d = false → z = 0) ∧ (MOk w n → ¬ z = -100) ∧ x < x' ∧ x' ≤ tl ∧ (∀ j, x ≤ j → j < x' → ¬ autF tx (j + 1) = 0 ∧ ¬ sgn tl tx j = 59) ∧ (autF tx x' = 8 ∨ (autF tx x' = 3 ∧ ¬ (48 ≤ sgn tl tx x' ∧ sgn tl tx x' ≤ 57)))) := by
  rcases h with ⟨a, rfl, rfl, -⟩ | ⟨a, b, rfl, rfl, -⟩ | ⟨a, b, tk, c, e⟩ | ⟨a, rfl, rfl, -⟩ | ⟨a, b, rfl, rfl, -⟩ | ⟨a, b, c, rfl, rfl, -⟩ | ⟨a, b, c, e, f, rfl, rfl, -⟩ | ⟨a, b, c, e, f, rfl, rfl, -⟩ | ⟨a, b, c, e, f⟩
  · have l0 := sgn_lt (tl := tl) (tx := tx) (x := x) (by omega)
    have a1 := aut_st (tx := tx) l0
    rw [ha, a] at a1
    have a2 : autF tx (x + 1) = 8 := a1
    exact Or.inr ⟨fun _ => rfl, fun _ => by omega, by omega, by omega, fun j h1 h2 => by (have e : j = x := (by omega)); subst e; omega, Or.inl a2⟩
  · have l0 := sgn_lt (tl := tl) (tx := tx) (x := x) (by omega)
    have a1 := aut_st (tx := tx) l0
    rw [ha, a] at a1
    have a2 : autF tx (x + 1) = 2 := a1
    refine Or.inl ⟨rfl, by omega, fun j h1 h2 => by (have e : j = x := (by omega)); subst e; omega, ?_⟩
    rcases Nat.lt_or_ge (x + 1) tl with q | q
    · refine Or.inl ⟨q, ?_⟩
      rw [aut_st q, a2, abF_2, if_neg b]
    · refine Or.inr ⟨by omega, ?_⟩
      rw [show tl = x + 1 by omega, a2]; omega
  · have l0 := sgn_lt (tl := tl) (tx := tx) (x := x) (by omega)
    have l1 := sgn_lt (tl := tl) (tx := tx) (x := x + 1) (by omega)
    have a1 := aut_st (tx := tx) l0
    rw [ha, a] at a1
    have a2 : autF tx (x + 1) = 2 := a1
    have a3 := aut_st (tx := tx) l1
    rw [a2, abF_2, if_pos b] at a3
    have hz : d = false → z = 0 := fun hd => by
      rcases e with ⟨-, e, -⟩ | ⟨e, -⟩ | ⟨e, -⟩
      · exact e
      · rw [hd] at e; exact absurd e (by decide)
      · rw [hd] at e; exact absurd e (by decide)
    have hn : MOk w n → ¬ z = -100 := fun hm => by
      rcases e with ⟨-, e, -⟩ | ⟨-, -, e, -⟩ | ⟨-, -, o9, od9, P9, th9, ss9, hL9, hG9, hz9, -⟩
      · omega
      · omega
      · have := hz9.bd hm (by rcases c with ⟨c, c2, -⟩ | ⟨c, c2, -⟩ <;> omega)
        omega
    rcases c with ⟨c, -, rfl⟩ | ⟨c, -, rfl⟩
    · have l2 := sgn_lt (tl := tl) (tx := tx) (x := x + 1 + 1) (by omega)
      have a4 := aut_st (tx := tx) l2
      rw [a3, abF_3, if_pos c] at a4
      refine Or.inr ⟨hz, hn, by omega, by omega, fun j h1 h2 => ?_, Or.inl a4⟩
      have e : j = x ∨ j = x + 1 ∨ j = x + 1 + 1 := by omega
      rcases e with rfl | rfl | rfl <;> omega
    · refine Or.inr ⟨hz, hn, by omega, by omega, fun j h1 h2 => ?_, Or.inr ⟨a3, c⟩⟩
      have e : j = x ∨ j = x + 1 := by omega
      rcases e with rfl | rfl <;> omega
  · refine Or.inl ⟨rfl, Nat.le_refl _, fun j h1 h2 => by omega, ?_⟩
    rcases Nat.lt_or_ge x' tl with q | q
    · refine Or.inl ⟨q, ?_⟩
      rw [aut_st q, ha, abF_1, if_neg (by omega), if_neg (by omega), if_neg (by omega)]
    · refine Or.inr ⟨by omega, ?_⟩
      rw [show tl = x' by omega, ha]; omega
  · have l0 := sgn_lt (tl := tl) (tx := tx) (x := x) (by omega)
    have a1 := aut_st (tx := tx) l0
    rw [ha, a] at a1
    have a2 : autF tx (x + 1) = 4 := a1
    refine Or.inl ⟨rfl, by omega, fun j h1 h2 => by (have e : j = x := (by omega)); subst e; omega, ?_⟩
    rcases Nat.lt_or_ge (x + 1) tl with q | q
    · refine Or.inl ⟨q, ?_⟩
      rw [aut_st q, a2, abF_4, if_neg b]
    · refine Or.inr ⟨by omega, ?_⟩
      rw [show tl = x + 1 by omega, a2]; omega
  · have l0 := sgn_lt (tl := tl) (tx := tx) (x := x) (by omega)
    have l1 := sgn_lt (tl := tl) (tx := tx) (x := x + 1) (by omega)
    have a1 := aut_st (tx := tx) l0
    rw [ha, a] at a1
    have a2 : autF tx (x + 1) = 4 := a1
    have a3 := aut_st (tx := tx) l1
    rw [a2, abF_4, if_pos b] at a3
    refine Or.inl ⟨rfl, by omega, fun j h1 h2 => ?_, ?_⟩
    · have e : j = x ∨ j = x + 1 := by omega
      rcases e with rfl | rfl <;> omega
    · rcases Nat.lt_or_ge (x + 2) tl with q | q
      · refine Or.inl ⟨q, ?_⟩
        rw [aut_st q, a3, abF_5, if_neg c]
      · refine Or.inr ⟨by omega, ?_⟩
        rw [show tl = x + 1 + 1 by omega, a3]; omega
  · have l0 := sgn_lt (tl := tl) (tx := tx) (x := x) (by omega)
    have l1 := sgn_lt (tl := tl) (tx := tx) (x := x + 1) (by omega)
    have l2 := sgn_lt (tl := tl) (tx := tx) (x := x + 2) (by omega)
    have l3 := sgn_lt (tl := tl) (tx := tx) (x := x + 3) (by omega)
    have a1 := aut_st (tx := tx) l0
    rw [ha, a] at a1
    have a2 : autF tx (x + 1) = 4 := a1
    have a3 := aut_st (tx := tx) l1
    rw [a2, abF_4, if_pos b] at a3
    have a4 : autF tx (x + 3) = _ := aut_st (tx := tx) l2
    rw [show autF tx (x + 2) = 5 from a3, abF_5, if_pos c] at a4
    have b4 : autF tx (x + 2 + 1) = 6 := a4
    have a5 : autF tx (x + 4) = _ := aut_st (tx := tx) l3
    rw [a4, abF_6, if_pos e] at a5
    have b5 : autF tx (x + 3 + 1) = 7 := a5
    refine Or.inl ⟨rfl, by omega, fun j h1 h2 => ?_, ?_⟩
    · have e : j = x ∨ j = x + 1 ∨ j = x + 2 ∨ j = x + 3 := by omega
      rcases e with rfl | rfl | rfl | rfl <;> omega
    · rcases Nat.lt_or_ge (x + 4) tl with q | q
      · refine Or.inl ⟨q, ?_⟩
        rw [aut_st q, a5, abF_7, if_neg f]
      · refine Or.inr ⟨by omega, ?_⟩
        rw [show tl = x + 4 by omega, a5]; omega
  · have l0 := sgn_lt (tl := tl) (tx := tx) (x := x) (by omega)
    have l1 := sgn_lt (tl := tl) (tx := tx) (x := x + 1) (by omega)
    have l2 := sgn_lt (tl := tl) (tx := tx) (x := x + 2) (by omega)
    have a1 := aut_st (tx := tx) l0
    rw [ha, a] at a1
    have a2 : autF tx (x + 1) = 4 := a1
    have a3 := aut_st (tx := tx) l1
    rw [a2, abF_4, if_pos b] at a3
    have a4 : autF tx (x + 3) = _ := aut_st (tx := tx) l2
    rw [show autF tx (x + 2) = 5 from a3, abF_5, if_pos c] at a4
    have b4 : autF tx (x + 2 + 1) = 6 := a4
    refine Or.inl ⟨rfl, by omega, fun j h1 h2 => ?_, ?_⟩
    · have e : j = x ∨ j = x + 1 ∨ j = x + 2 := by omega
      rcases e with rfl | rfl | rfl <;> omega
    · rcases Nat.lt_or_ge (x + 3) tl with q | q
      · refine Or.inl ⟨q, ?_⟩
        rw [aut_st q, a4, abF_6, if_neg e, if_neg f]
      · refine Or.inr ⟨by omega, ?_⟩
        rw [show tl = x + 3 by omega, a4]; omega
  · have l0 := sgn_lt (tl := tl) (tx := tx) (x := x) (by omega)
    have l1 := sgn_lt (tl := tl) (tx := tx) (x := x + 1) (by omega)
    have l2 := sgn_lt (tl := tl) (tx := tx) (x := x + 2) (by omega)
    have l3 := sgn_lt (tl := tl) (tx := tx) (x := x + 3) (by omega)
    have a1 := aut_st (tx := tx) l0
    rw [ha, a] at a1
    have a2 : autF tx (x + 1) = 4 := a1
    have a3 := aut_st (tx := tx) l1
    rw [a2, abF_4, if_pos b] at a3
    have a4 : autF tx (x + 3) = _ := aut_st (tx := tx) l2
    rw [show autF tx (x + 2) = 5 from a3, abF_5, if_pos c] at a4
    have b4 : autF tx (x + 2 + 1) = 6 := a4
    have a5 : autF tx (x + 4) = _ := aut_st (tx := tx) l3
    rw [a4, abF_6] at a5
    have hz : d = false → z = 0 := fun hd => by
      rcases f with ⟨-, f, -⟩ | ⟨f, -⟩ | ⟨f, -⟩
      · exact f
      · rw [hd] at f; exact absurd f (by decide)
      · rw [hd] at f; exact absurd f (by decide)
    have hn : MOk w n → ¬ z = -100 := fun _ => by
      rcases f with ⟨-, f, -⟩ | ⟨-, -, f, -⟩ | ⟨-, g9, -, -, f, -⟩ <;> omega
    rcases e with ⟨e1, e2, rfl⟩ | ⟨e1, e2, rfl⟩
    · have l4 := sgn_lt (tl := tl) (tx := tx) (x := x + 4) (by omega)
      rw [if_pos e1] at a5
      have b5 : autF tx (x + 3 + 1) = 7 := a5
      have a6 : autF tx (x + 5) = _ := aut_st (tx := tx) l4
      rw [a5, abF_7, if_pos e2] at a6
      have b6 : autF tx (x + 4 + 1) = 8 := a6
      refine Or.inr ⟨hz, hn, by omega, by omega, fun j h1 h2 => ?_, Or.inl a6⟩
      have e : j = x ∨ j = x + 1 ∨ j = x + 2 ∨ j = x + 3 ∨ j = x + 4 := by omega
      rcases e with rfl | rfl | rfl | rfl | rfl <;> omega
    · rw [if_neg e1, if_pos e2] at a5
      have b5 : autF tx (x + 3 + 1) = 8 := a5
      refine Or.inr ⟨hz, hn, by omega, by omega, fun j h1 h2 => ?_, Or.inl a5⟩
      have e : j = x ∨ j = x + 1 ∨ j = x + 2 ∨ j = x + 3 := by omega
      rcases e with rfl | rfl | rfl | rfl <;> omega
/-- behind an order -/
theorem beh {tl : Nat} {tx : Nat → Int} {x : Nat} (h : autF tx x = 8 ∨ (autF tx x = 3 ∧ ¬ (48 ≤ sgn tl tx x ∧ sgn tl tx x ≤ 57))) (hx : x < tl) : (sgn tl tx x = 59 → autF tx (x + 1) = 1) ∧ (¬ sgn tl tx x = 59 → autF tx (x + 1) = 0) := by
  rw [aut_st hx]
  rcases h with h | ⟨h, h2⟩
  · rw [h, abF_8]
    exact ⟨fun e => by rw [if_pos e], fun e => by rw [if_neg e]⟩
  · rw [h, abF_3, if_neg h2]
    exact ⟨fun e => by rw [if_pos e], fun e => by rw [if_neg e]⟩
theorem PreO.aut {tl : Nat} {tx : Nat → Int} {n : Nat} {d : Bool} {w0 : Nat → Int} : ∀ {k x : Nat} {w : Nat → Int} {s : Int}, PreO tl tx n d w0 k x w s → autF tx x = 1 ∧ x ≤ tl ∧ (∀ j, j < x → ¬ autF tx (j + 1) = 0) ∧ (x = 0 ∨ sgn tl tx (x - 1) = 59) ∧ (d = false → s = 0)
  | 0, x, w, s, h => by
    obtain ⟨rfl, rfl, rfl⟩ := h
    exact ⟨rfl, Nat.zero_le _, fun j hj => absurd hj (Nat.not_lt_zero j), Or.inl rfl, fun _ => rfl⟩
  | k + 1, x, w, s, h => by
    obtain ⟨x1, w1, s1, z, y, h1, h2, h3, h4, rfl, rfl⟩ := h
    obtain ⟨g1, g2, g3, g4, g5⟩ := PreO.aut h1
    have l1 := sgn_lt (tl := tl) (tx := tx) (x := y) (by omega)
    rcases h2.aut g1 g2 with ⟨f1, -⟩ | ⟨f1, -, f2, f3, f4, f5⟩
    · omega
    · have hb := (beh f5 l1).1 h4
      refine ⟨hb, by omega, fun j hj => ?_, Or.inr h4, fun hd => by rw [g5 hd, f1 hd]; rfl⟩
      rcases Nat.lt_or_ge j x1 with q | q
      · exact g3 j q
      · rcases Nat.lt_or_ge j y with q2 | q2
        · exact (f4 j q q2).1
        · rw [show j = y by omega, hb]; omega
/-- the first reading tells the fault -/
theorem EndO.flt {tl : Nat} {tx : Nat → Int} {n : Nat} {w0 w' : Nat → Int} {x' : Nat} {z : Int} (h : EndO tl tx n false w0 z w' x') : (z < 0 ∧ FltP tl tx (x' : Int)) ∨ (0 ≤ z ∧ FltP tl tx (-1)) := by
  rcases h with ⟨k, x, w, s1, h1, h2, h3⟩ | ⟨s, ⟨k, x, w, s1, z1, h1, h2, h3, h4, h5⟩, h6⟩
  · obtain ⟨g1, g2, g3, g4, g5⟩ := h1.aut
    rcases h2.aut g1 g2 with ⟨f1, f2, f3, f4⟩ | ⟨f1, -⟩
    · refine Or.inl ⟨h3, ?_⟩
      have al : ∀ j, j < x' → ¬ autF tx (j + 1) = 0 := fun j hj => by
        rcases Nat.lt_or_ge j x with q | q
        · exact g3 j q
        · exact f3 j q hj
      rcases f4 with ⟨f4, f5⟩ | ⟨f4, f5⟩
      · exact Or.inl ⟨x', f4, rfl, f5, al⟩
      · exact Or.inr ⟨fun j hj => al j (by omega), Or.inr ⟨f5, by omega⟩⟩
    · have := f1 rfl; omega
  · obtain ⟨g1, g2, g3, g4, g5⟩ := h1.aut
    rcases h2.aut g1 g2 with ⟨f1, -⟩ | ⟨f1, -, f2, f3, f4, f5⟩
    · omega
    · have al : ∀ j, j < x' → ¬ autF tx (j + 1) = 0 := fun j hj => by
        rcases Nat.lt_or_ge j x with q | q
        · exact g3 j q
        · exact (f4 j q hj).1
      rcases h6 with ⟨h6, h7⟩ | ⟨h6, h7⟩
      · exact Or.inl ⟨by omega, Or.inl ⟨x', h6, rfl, (beh f5 h6).2 h4, al⟩⟩
      · have e : x' = tl := by omega
        subst e
        refine Or.inr ⟨by have := g5 rfl; omega, Or.inr ⟨al, Or.inl ⟨?_, rfl⟩⟩⟩
        rcases f5 with f5 | ⟨f5, -⟩
        · exact Or.inl f5
        · exact Or.inr f5
