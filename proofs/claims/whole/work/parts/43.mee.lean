/-! meetings -/
theorem Bth.spd {r : Nat → Nat → Int} {w : Nat → Int} {n : Nat} {o : Nat → Nat} {P : Nat → Int} (h : Bth r w n o P) {a : Nat} (ha : a < n) : w (21 + o a) = r 3 (o a) := (h.2.1.2 _ (h.2.2.1.1 a ha)).2.2.1
theorem Bth.af {r : Nat → Nat → Int} {w : Nat → Int} {n : Nat} {o : Nat → Nat} {P : Nat → Int} (h : Bth r w n o P) {a b : Nat} (ha : a < n) (hb : b < n) : ahF w n o P a b = fbk P (frC r n) a b := by
  have h1 := h.fbb ha hb
  have h2 := h.fr
  have h3 : (P b - P a) % frM w n = fbk P (frC r n) a b % frC r n := by
    rw [h.2.2.2.2]
    simp only [fbk]
    split
    · exact (Int.add_emod_right _ _).symm
    · rw [Int.add_zero]
  have h4 := h.il ha hb
  simp only [ahF]
  rw [h3, h.2.2.2.2]
  rcases Int.lt_or_le (fbk P (frC r n) a b) (frC r n) with q | q
  · rw [Int.emod_eq_of_lt h1.1 q]
    rw [if_pos (by
      rcases Int.lt_or_le 0 (fbk P (frC r n) a b) with g | g
      · exact Or.inl g
      · exact Or.inr (h4.mpr (by omega)))]
  · have e : fbk P (frC r n) a b = frC r n := by omega
    rw [e, Int.emod_self]
    rw [if_neg (by
      intro g
      rcases g with g | g
      · omega
      · have := h4.mp g; omega)]
/-- how far, of two ranks -/
theorem Bth.ah {r : Nat → Nat → Int} {w : Nat → Int} {n : Nat} {o : Nat → Nat} {P : Nat → Int} (h : Bth r w n o P) {a b : Nat} (ha : a < n) (hb : b < n) : ahM w n o P a b = if clC r (o a) (o b) = 0 then -5 else if 0 < clC r (o a) (o b) then fbC r n (o a) (o b) else fbC r n (o b) (o a) := by
  have s1 := h.spd ha
  have s2 := h.spd hb
  have ec : clC r (o a) (o b) = r 3 (o a) - r 3 (o b) := rfl
  have f1 : fbC r n (o a) (o b) = fbk P (frC r n) a b := h.fb ha hb
  have f2 : fbC r n (o b) (o a) = fbk P (frC r n) b a := h.fb hb ha
  simp only [ahM]
  rw [s1, s2, h.af ha hb, h.af hb ha, f1, f2]
  by_cases q : r 3 (o a) = r 3 (o b)
  · rw [if_pos q, if_pos (by omega)]
  · rw [if_neg q, if_neg (show ¬ clC r (o a) (o b) = 0 by omega)]
    by_cases q2 : r 3 (o b) < r 3 (o a)
    · rw [if_pos q2, if_pos (show 0 < clC r (o a) (o b) by omega)]
    · rw [if_neg q2, if_neg (show ¬ 0 < clC r (o a) (o b) by omega)]
theorem Bth.df {r : Nat → Nat → Int} {w : Nat → Int} {n : Nat} {o : Nat → Nat} {P : Nat → Int} (h : Bth r w n o P) {a b : Nat} (ha : a < n) (hb : b < n) : dfM w o a b = if 0 < clC r (o a) (o b) then clC r (o a) (o b) else clC r (o b) (o a) := by
  have s1 := h.spd ha
  have s2 := h.spd hb
  have ec : clC r (o a) (o b) = r 3 (o a) - r 3 (o b) := rfl
  have ed : clC r (o b) (o a) = r 3 (o b) - r 3 (o a) := rfl
  simp only [dfM]
  rw [s1, s2]
  by_cases q : r 3 (o a) - r 3 (o b) < 0
  · rw [if_pos q, if_neg (by omega)]; omega
  · rw [if_neg q]
    by_cases q2 : 0 < r 3 (o a) - r 3 (o b)
    · rw [if_pos (by omega)]; omega
    · rw [if_neg (by omega)]; omega
theorem crC_no {r : Nat → Nat → Int} {n : Nat} {t : Int} {a b : Nat} (h : clC r a b ≤ 0) : crC r n t a b = 0 := by simp only [crC]; rw [if_pos (Or.inl h)]
theorem cl_sy (r : Nat → Nat → Int) (a b : Nat) : clC r b a = - clC r a b := by simp only [clC]; omega
theorem Bth.nnf {r : Nat → Nat → Int} {w : Nat → Int} {n : Nat} {o : Nat → Nat} {P : Nat → Int} (h : Bth r w n o P) {a b : Nat} (ha : a < n) (hb : b < n) : 0 ≤ fbC r n (o a) (o b) := by
  have := (h.fbb ha hb).1
  simp only [fbC]; rw [h.fb ha hb]; exact this
/-- how often two ranks meet -/
theorem Bth.tm {r : Nat → Nat → Int} {w : Nat → Int} {n : Nat} {o : Nat → Nat} {P : Nat → Int} (h : Bth r w n o P) (t : Int) {a b : Nat} (ha : a < n) (hb : b < n) : tmM w n o P t a b = crC r n t (o a) (o b) + crC r n t (o b) (o a) ∧ tmM w n o P t a b * dfM w o a b = crC r n t (o a) (o b) * clC r (o a) (o b) + crC r n t (o b) (o a) * clC r (o b) (o a) := by
  have e1 := h.ah ha hb
  have e2 := h.df ha hb
  have sy := cl_sy r (o a) (o b)
  have n1 := h.nnf ha hb
  have n2 := h.nnf hb ha
  have hf : frM w n = freeL (r 0 0) n (r 2) := h.2.2.2.2
  have one : ∀ x y : Nat, 0 < clC r x y → 0 ≤ fbC r n x y → ahM w n o P a b = fbC r n x y → dfM w o a b = clC r x y → tmM w n o P t a b = crC r n t x y := by
    intro x y g1 g2 g3 g4
    simp only [tmM, crC]
    rw [g3, g4, hf]
    by_cases q : clC r x y * t < fbC r n x y
    · rw [if_pos (Or.inr q), if_pos (Or.inr (by omega))]
    · rw [if_neg (by omega), if_neg (by omega)]; omega
  rcases Int.lt_trichotomy (clC r (o a) (o b)) 0 with q | q | q
  · rw [if_neg (by omega), if_neg (by omega)] at e1
    rw [if_neg (by omega)] at e2
    have z := crC_no (n := n) (t := t) (show clC r (o a) (o b) ≤ 0 by omega)
    have k := one (o b) (o a) (by omega) n2 e1 e2
    rw [z, k, e2]
    exact ⟨by omega, by omega⟩
  · rw [if_pos q] at e1
    have z := crC_no (n := n) (t := t) (show clC r (o a) (o b) ≤ 0 by omega)
    have z2 := crC_no (n := n) (t := t) (show clC r (o b) (o a) ≤ 0 by omega)
    have k : tmM w n o P t a b = 0 := by simp only [tmM]; rw [if_pos (Or.inl (by omega))]
    rw [z, z2, k]
    exact ⟨by omega, by omega⟩
  · rw [if_neg (by omega), if_pos q] at e1
    rw [if_pos q] at e2
    have z := crC_no (n := n) (t := t) (show clC r (o b) (o a) ≤ 0 by omega)
    have k := one (o a) (o b) q n1 e1 e2
    rw [z, k, e2]
    exact ⟨by omega, by omega⟩
theorem sum_swap (f : Nat → Nat → Int) (m : Nat) : ∀ k, sumI (fun a => sumI (fun b => f a b) m) k = sumI (fun b => sumI (fun a => f a b) k) m
  | 0 => by
    have : sumI (fun b => sumI (fun a => f a b) 0) m = 0 := sumI_zero (fun _ _ => rfl)
    rw [this]; rfl
  | k + 1 => by
    rw [sumI_s, sum_swap f m k, ← sum_add]
    exact sumI_cong (fun b _ => rfl)
/-- a sum over all pairs is one over those in order -/
theorem sum_tri (f : Nat → Nat → Int) (hz : ∀ k, f k k = 0) : ∀ m, sumI (fun a => sumI (fun b => f a b) m) m = sumI (fun k => sumI (fun i => f i k + f k i) k) m
  | 0 => rfl
  | m + 1 => by
    rw [sumI_s, sumI_s, sumI_s (fun k => sumI (fun i => f i k + f k i) k), ← sum_tri f hz m]
    have e1 : sumI (fun a => sumI (fun b => f a b) (m + 1)) m = sumI (fun a => sumI (fun b => f a b) m) m + sumI (fun a => f a m) m := by
      rw [← sum_add]; exact sumI_cong (fun a _ => rfl)
    rw [e1, hz m, sum_add (fun i => f i m) (fun i => f m i)]; omega
theorem Ord.two {L : Int} {n : Nat} {p l : Nat → Int} {o : Nat → Nat} {P : Nat → Int} (h : Ord L n p l o P) (f : Nat → Nat → Int) : sumI (fun a => sumI (fun b => f a b) n) n = sumI (fun a => sumI (fun b => f (o a) (o b)) n) n := by
  rw [← h.2.1 (fun a => sumI (fun b => f a b) n)]
  exact sumI_cong (fun a _ => (h.2.1 (fun b => f (o a) b)).symm)
theorem Bth.mee {r : Nat → Nat → Int} {w : Nat → Int} {n : Nat} {o : Nat → Nat} {P : Nat → Int} (h : Bth r w n o P) (t : Int) : meM w n o P t false n = crM r n t n ∧ meM w n o P t true n = crI r n t n := by
  have hO := h.2.2.1
  constructor
  · simp only [meM, crM]
    rw [hO.two, sum_tri (fun a b => crC r n t (o a) (o b)) (fun k => crC_no (by simp only [clC]; omega))]
    refine sumI_cong (fun k hk => sumI_cong (fun i hi => ?_))
    rw [if_neg (by decide), Int.mul_one]
    exact (h.tm t (show i < n by omega) hk).1
  · simp only [meM, crI]
    rw [hO.two (fun a b => crC r n t a b * (r 3 a - r 3 b)), sum_tri (fun a b => crC r n t (o a) (o b) * (r 3 (o a) - r 3 (o b))) (fun k => by rw [crC_no (by simp only [clC]; omega), Int.zero_mul])]
    refine sumI_cong (fun k hk => sumI_cong (fun i hi => ?_))
    rw [if_pos trivial]
    exact (h.tm t (show i < n by omega) hk).2
