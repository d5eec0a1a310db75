/-! when rods meet: the class's own reckoning -/
abbrev wCr (x0 x1 : Nat) (c0 c1 c2 c3 c4 : Int) : va_W := [(x0, .inr (0, [.int (iI c0), .int (iI c1), .int (iI c2), .int (iI c3), .int (iI c4), .ref x1]))]
def clC (r : Nat → Nat → Int) (a b : Nat) : Int := r 3 a - r 3 b
def fbC (r : Nat → Nat → Int) (n : Nat) (a b : Nat) : Int := fbtw (r 0 0) n (r 1) (r 2) a b
/-- how often a's point catches up with b's -/
def crC (r : Nat → Nat → Int) (n : Nat) (t : Int) (a b : Nat) : Int := if clC r a b ≤ 0 ∨ clC r a b * t - fbC r n a b < 0 then 0 else (clC r a b * t - fbC r n a b) / freeL (r 0 0) n (r 2) + 1
theorem Ok.cl {r : Nat → Nat → Int} {n : Nat} (h : Ok r n) {a b : Nat} (ha : a < n) (hb : b < n) : -18 ≤ clC r a b ∧ clC r a b ≤ 18 := by
  have h1 := h.at ha
  have h2 := h.at hb
  simp only [clC]; omega
theorem tdiv_nn {x y : Int} (h : 0 ≤ x) : x.tdiv y = x / y := Int.tdiv_eq_ediv_of_nonneg h
theorem tmod_nat (d e : Nat) : Int.tmod (d : Int) (e : Int) = ((d % e : Nat) : Int) := rfl
theorem tdiv_nat (d e : Nat) : Int.tdiv (d : Int) (e : Int) = ((d / e : Nat) : Int) := rfl
theorem Ok.cr {r : Nat → Nat → Int} {n : Nat} (h : Ok r n) {a b : Nat} (ha : a < n) (hb : b < n) {t : Int} (ht : 0 ≤ t ∧ t ≤ 100) : 0 ≤ crC r n t a b ∧ crC r n t a b ≤ 4000 := by
  have h1 := h.cl ha hb
  have h2 : -160 ≤ fbC r n a b ∧ fbC r n a b ≤ 1000 := h.fb ha hb
  have h3 := h.fr
  have h4 := mul_b (a := clC r a b) (b := t) (by omega) ht
  simp only [crC]
  split
  · omega
  · have h5 := ediv_b (x := clC r a b * t - fbC r n a b) (y := freeL (r 0 0) n (r 2)) (b := 3000) h3.1 (by omega) (by omega)
    have h6 := Int.ediv_nonneg (a := clC r a b * t - fbC r n a b) (b := freeL (r 0 0) n (r 2)) (by omega) (by omega)
    omega
def crM (r : Nat → Nat → Int) (n : Nat) (t : Int) (i : Nat) : Int := sumI (fun a => sumI (fun b => crC r n t a b) n) i
def crI (r : Nat → Nat → Int) (n : Nat) (t : Int) (i : Nat) : Int := sumI (fun a => sumI (fun b => crC r n t a b * (r 3 a - r 3 b)) n) i
/-! the first moment -/
def dnC (i j a b : Nat) : Prop := a < i ∨ (a = i ∧ b < j)
def hitC (r : Nat → Nat → Int) (n : Nat) (u l : Int) (a b : Nat) : Int := if 0 < clC r a b ∧ fbC r n a b * l = u * clC r a b then 1 else 0
def cntC (r : Nat → Nat → Int) (n : Nat) (u l : Int) (i j : Nat) : Int := sumI (fun a => sumI (fun b => hitC r n u l a b) n) i + sumI (fun b => hitC r n u l i b) j
/-- what holds when the pairs (a, b) with a below i, or a = i and b below j, are looked at -/
def FstI (r : Nat → Nat → Int) (n : Nat) (i j : Nat) (u l m : Int) : Prop := (0 ≤ u ∧ u ≤ 1000) ∧ (1 ≤ l ∧ l ≤ 18) ∧ (0 ≤ m ∧ m ≤ (i : Int) * 8 + (j : Int)) ∧ (m = 0 → ∀ a b, a < n → b < n → dnC i j a b → clC r a b ≤ 0) ∧ (0 < m → ∀ a b, a < n → b < n → dnC i j a b → 0 < clC r a b → u * clC r a b ≤ fbC r n a b * l) ∧ (0 < m → ∃ a b, a < n ∧ b < n ∧ 0 < clC r a b ∧ u = fbC r n a b ∧ l = clC r a b) ∧ m = cntC r n u l i j
theorem FstI.zero (r : Nat → Nat → Int) (n : Nat) : FstI r n 0 0 0 1 0 := by
  refine ⟨by omega, by omega, by omega, fun _ a b _ _ h => ?_, fun h => absurd h (by omega), fun h => absurd h (by omega), by simp [cntC, sumI]⟩
  simp only [dnC] at h; omega
theorem FstI.row {r : Nat → Nat → Int} {n i : Nat} {u l m : Int} (hn : n ≤ 8) (h : FstI r n i n u l m) : FstI r n (i + 1) 0 u l m := by
  obtain ⟨h1, h2, h3, h4, h5, h6, h7⟩ := h
  have hd : ∀ a b, b < n → dnC (i + 1) 0 a b → dnC i n a b := fun a b hb h => by simp only [dnC] at *; omega
  refine ⟨h1, h2, by omega, fun q a b ha hb hh => h4 q a b ha hb (hd a b hb hh), fun q a b ha hb hh => h5 q a b ha hb (hd a b hb hh), h6, ?_⟩
  rw [h7]; simp only [cntC, sumI]; omega
theorem dnC.split {i j a b : Nat} (h : dnC i (j + 1) a b) : dnC i j a b ∨ (a = i ∧ b = j) := by simp only [dnC] at *; omega
theorem FstI.skip {r : Nat → Nat → Int} {n i j : Nat} {u l m : Int} (h : FstI r n i j u l m) (hc : clC r i j ≤ 0) : FstI r n i (j + 1) u l m := by
  obtain ⟨h1, h2, h3, h4, h5, h6, h7⟩ := h
  refine ⟨h1, h2, by omega, fun q a b ha hb hh => ?_, fun q a b ha hb hh hp => ?_, h6, ?_⟩
  · rcases hh.split with g | ⟨rfl, rfl⟩
    · exact h4 q a b ha hb g
    · exact hc
  · rcases hh.split with g | ⟨rfl, rfl⟩
    · exact h5 q a b ha hb g hp
    · omega
  · rw [h7]; simp only [cntC, sumI_s]
    rw [show hitC r n u l i j = 0 by simp only [hitC]; rw [if_neg (by omega)]]; omega
theorem FstI.far {r : Nat → Nat → Int} {n i j : Nat} {u l m : Int} (h : FstI r n i j u l m) (hm : 0 < m) (hc : 0 < clC r i j) (hf : u * clC r i j < fbC r n i j * l) : FstI r n i (j + 1) u l m := by
  obtain ⟨h1, h2, h3, h4, h5, h6, h7⟩ := h
  refine ⟨h1, h2, by omega, fun q => absurd q (by omega), fun q a b ha hb hh hp => ?_, h6, ?_⟩
  · rcases hh.split with g | ⟨rfl, rfl⟩
    · exact h5 q a b ha hb g hp
    · omega
  · rw [h7]; simp only [cntC, sumI_s]
    rw [show hitC r n u l i j = 0 by simp only [hitC]; rw [if_neg (by omega)]]; omega
theorem FstI.same {r : Nat → Nat → Int} {n i j : Nat} {u l m : Int} (h : FstI r n i j u l m) (hm : 0 < m) (hc : 0 < clC r i j) (hf : fbC r n i j * l = u * clC r i j) : FstI r n i (j + 1) u l (m + 1) := by
  obtain ⟨h1, h2, h3, h4, h5, h6, h7⟩ := h
  refine ⟨h1, h2, by omega, fun q => absurd q (by omega), fun q a b ha hb hh hp => ?_, fun _ => h6 hm, ?_⟩
  · rcases hh.split with g | ⟨rfl, rfl⟩
    · exact h5 hm a b ha hb g hp
    · omega
  · rw [h7]; simp only [cntC, sumI_s]
    rw [show hitC r n u l i j = 1 by simp only [hitC]; rw [if_pos ⟨hc, hf⟩]]; omega
theorem sumI_zero {f : Nat → Int} : ∀ {n : Nat}, (∀ k, k < n → f k = 0) → sumI f n = 0
  | 0, _ => rfl
  | n + 1, h => by rw [sumI_s, sumI_zero (fun k hk => h k (by omega)), h n (by omega)]; omega
theorem FstI.new {r : Nat → Nat → Int} {n i j : Nat} {u l m : Int} (hok : Ok r n) (h : FstI r n i j u l m) (hi : i < n) (hj : j < n) (hnn : 0 ≤ fbC r n i j) (hc : 0 < clC r i j) (hf : m = 0 ∨ fbC r n i j * l < u * clC r i j) : FstI r n i (j + 1) (fbC r n i j) (clC r i j) 1 := by
  obtain ⟨h1, h2, h3, h4, h5, h6, h7⟩ := h
  have hb1 := hok.fb hi hj
  have hb2 := hok.cl hi hj
  have prev : ∀ a b, a < n → b < n → dnC i j a b → 0 < clC r a b → fbC r n i j * clC r a b < fbC r n a b * clC r i j := by
    intro a b ha hb hd hp
    rcases Int.lt_or_le m 1 with q | q
    · have := h4 (by omega) a b ha hb hd; omega
    · have g := h5 (by omega) a b ha hb hd hp
      rcases hf with hf | hf
      · omega
      · have e1 : fbC r n i j * l * clC r a b < u * clC r i j * clC r a b := Int.mul_lt_mul_of_pos_right hf hp
        have e2 : u * clC r a b * clC r i j ≤ fbC r n a b * l * clC r i j := Int.mul_le_mul_of_nonneg_right g (by omega)
        have e3 : l * (fbC r n i j * clC r a b) < l * (fbC r n a b * clC r i j) := by
          have a1 : fbC r n i j * l * clC r a b = l * (fbC r n i j * clC r a b) := by rw [Int.mul_comm (fbC r n i j) l, Int.mul_assoc]
          have a2 : fbC r n a b * l * clC r i j = l * (fbC r n a b * clC r i j) := by rw [Int.mul_comm (fbC r n a b) l, Int.mul_assoc]
          have a3 : u * clC r i j * clC r a b = u * clC r a b * clC r i j := by rw [Int.mul_assoc, Int.mul_comm (clC r i j), ← Int.mul_assoc]
          omega
        exact Int.lt_of_mul_lt_mul_left e3 (by omega)
  refine ⟨⟨hnn, by simp only [fbC]; omega⟩, ⟨by omega, by omega⟩, by omega, fun q => absurd q (by omega), fun q a b ha hb hh hp => ?_, fun _ => ⟨i, j, hi, hj, hc, rfl, rfl⟩, ?_⟩
  · rcases hh.split with g | ⟨rfl, rfl⟩
    · have := prev a b ha hb g hp; omega
    · exact Int.le_refl _
  · have z : ∀ a b, a < n → b < n → dnC i j a b → hitC r n (fbC r n i j) (clC r i j) a b = 0 := by
      intro a b ha hb hd
      simp only [hitC]
      rw [if_neg (fun q => by have := prev a b ha hb hd q.1; omega)]
    simp only [cntC, sumI_s]
    rw [sumI_zero (n := i) (fun a ha => sumI_zero (fun b hb => z a b (by omega) hb (Or.inl ha))), sumI_zero (n := j) (fun b hb => z i b hi (by omega) (Or.inr ⟨rfl, hb⟩))]
    rw [show hitC r n (fbC r n i j) (clC r i j) i j = 1 by simp [hitC, hc]]; omega
/-- the first moment as a fraction in lowest terms, and how many meetings there are then -/
def NxtC (r : Nat → Nat → Int) (n : Nat) (u l m : Int) : Prop := ∃ a b : Nat, FstI r n n 0 (a : Int) (b : Int) m ∧ u = ((a / Nat.gcd a b : Nat) : Int) ∧ l = ((b / Nat.gcd a b : Nat) : Int)
theorem mul_b2 {a b : Int} (ha : 0 ≤ a ∧ a ≤ 1000) (hb : 0 ≤ b ∧ b ≤ 18) : 0 ≤ a * b ∧ a * b ≤ 18000 := by
  have h1 : 0 ≤ a * b := Int.mul_nonneg ha.1 hb.1
  have h2 : a * b ≤ 1000 * 18 := Int.mul_le_mul ha.2 hb.2 hb.1 (by omega)
  omega
