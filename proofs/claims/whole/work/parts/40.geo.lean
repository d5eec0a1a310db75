/-! rods in the order of places: ways of points as differences -/
def Geo (L : Int) (n : Nat) (p l : Nat → Int) : Prop := ∀ i j, i < n → j < n → i ≠ j → l i ≤ dist L p i j
theorem sum_rng (f : Nat → Int) {a b : Nat} (hab : a ≤ b) : ∀ m, sumI (fun j => if a ≤ j ∧ j < b then f j else 0) m = sumI f (min b m) - sumI f (min a m)
  | 0 => by simp [sumI]
  | m + 1 => by
    rw [sumI_s, sum_rng f hab m]
    rcases Nat.lt_or_ge m a with q | q
    · rw [if_neg (by omega), show min b m = m by omega, show min a m = m by omega, show min b (m + 1) = m + 1 by omega, show min a (m + 1) = m + 1 by omega]; omega
    · rcases Nat.lt_or_ge m b with q2 | q2
      · rw [if_pos (by omega), show min b m = m by omega, show min a m = a by omega, show min b (m + 1) = m + 1 by omega, show min a (m + 1) = a by omega, sumI_s]; omega
      · rw [if_neg (by omega), show min b m = b by omega, show min a m = a by omega, show min b (m + 1) = b by omega, show min a (m + 1) = a by omega]; omega
theorem sum_add (f g : Nat → Int) : ∀ m, sumI (fun j => f j + g j) m = sumI f m + sumI g m
  | 0 => by simp [sumI]
  | m + 1 => by rw [sumI_s, sum_add f g m, sumI_s, sumI_s]; omega
theorem sum_out (f : Nat → Int) {a b : Nat} (hab : a ≤ b) (m : Nat) (hb : b ≤ m) : sumI (fun j => if j < a ∨ b ≤ j then f j else 0) m = sumI f m - sumI f b + sumI f a := by
  have h1 := sum_rng f hab m
  have h2 := sum_add (fun j => if a ≤ j ∧ j < b then f j else 0) (fun j => if j < a ∨ b ≤ j then f j else 0) m
  have h3 : sumI (fun j => (if a ≤ j ∧ j < b then f j else 0) + (if j < a ∨ b ≤ j then f j else 0)) m = sumI f m := sumI_cong (fun j _ => by
    by_cases q : a ≤ j ∧ j < b
    · rw [if_pos q, if_neg (by omega)]; omega
    · rw [if_neg q, if_pos (by omega)]; omega)
  rw [show min b m = b by omega, show min a m = a by omega] at h1
  omega
/-- o is the order of the places, P the points in it -/
def Ord (L : Int) (n : Nat) (p l : Nat → Int) (o : Nat → Nat) (P : Nat → Int) : Prop := (∀ j, j < n → o j < n) ∧ (∀ F : Nat → Int, sumI (fun j => F (o j)) n = sumI F n) ∧ (∀ a b, a < b → b < n → p (o a) < p (o b)) ∧ (∀ j, j < n → P j = p (o j) - sumI (fun i => l (o i)) j) ∧ (∀ k, k < n → 0 ≤ p k ∧ p k < L ∧ 1 ≤ l k)
theorem Ord.dst {L : Int} {n : Nat} {p l : Nat → Int} {o : Nat → Nat} {P : Nat → Int} (h : Ord L n p l o P) {a b : Nat} (ha : a < n) (hb : b < n) : dist L p (o a) (o b) = p (o b) - p (o a) + (if b < a then L else 0) := by
  have h1 := h.2.2.2.2 (o a) (h.1 a ha)
  have h2 := h.2.2.2.2 (o b) (h.1 b hb)
  simp only [dist]
  rcases Nat.lt_trichotomy a b with q | q | q
  · have := h.2.2.1 a b q hb
    rw [if_neg (by omega), if_neg (by omega)]; omega
  · subst q; rw [if_neg (by omega), if_neg (by omega)]; omega
  · have := h.2.2.1 b a q ha
    rw [if_pos (by omega), if_pos (by omega)]
theorem Ord.mono {L : Int} {n : Nat} {p l : Nat → Int} {o : Nat → Nat} {P : Nat → Int} (h : Ord L n p l o P) {a b : Nat} (hab : a ≤ b) (hb : b < n) : p (o a) ≤ p (o b) := by
  rcases Nat.lt_or_ge a b with q | q
  · exact Int.le_of_lt (h.2.2.1 a b q hb)
  · rw [show a = b by omega]; exact Int.le_refl _
/-- a sum over the rods that lie nearer to a than b -/
theorem Ord.near {L : Int} {n : Nat} {p l : Nat → Int} {o : Nat → Nat} {P : Nat → Int} (h : Ord L n p l o P) (f : Nat → Int) {a b : Nat} (ha : a < n) (hb : b < n) : sumI (fun k => if dist L p (o a) k < dist L p (o a) (o b) then f k else 0) n = sumI (fun i => f (o i)) b - sumI (fun i => f (o i)) a + (if b < a then sumI f n else 0) := by
  rw [← h.2.1 (fun k => if dist L p (o a) k < dist L p (o a) (o b) then f k else 0), ← h.2.1 f]
  have va := h.2.2.2.2 (o a) (h.1 a ha)
  have vb := h.2.2.2.2 (o b) (h.1 b hb)
  rcases Nat.lt_or_ge b a with q | q
  · have e : sumI (fun j => if dist L p (o a) (o j) < dist L p (o a) (o b) then f (o j) else 0) n = sumI (fun j => if j < b ∨ a ≤ j then f (o j) else 0) n := sumI_cong (fun j hj => by
      have vj := h.2.2.2.2 (o j) (h.1 j hj)
      have d1 := h.dst ha hj
      have d2 := h.dst ha hb
      rw [if_pos q] at d2
      rcases Nat.lt_or_ge j b with c1 | c1
      · have := h.2.2.1 j b c1 hb
        rw [if_pos (by omega)] at d1
        rw [if_pos (by omega), if_pos (by omega)]
      · rcases Nat.lt_or_ge j a with c2 | c2
        · have := h.mono c1 hj
          rw [if_pos c2] at d1
          rw [if_neg (by omega), if_neg (by omega)]
        · have := h.mono c2 hj
          rw [if_neg (by omega)] at d1
          rw [if_pos (by omega), if_pos (by omega)])
    rw [e, sum_out (fun j => f (o j)) (show b ≤ a by omega) n (by omega), if_pos q]; omega
  · have e : sumI (fun j => if dist L p (o a) (o j) < dist L p (o a) (o b) then f (o j) else 0) n = sumI (fun j => if a ≤ j ∧ j < b then f (o j) else 0) n := sumI_cong (fun j hj => by
      have vj := h.2.2.2.2 (o j) (h.1 j hj)
      have d1 := h.dst ha hj
      have d2 := h.dst ha hb
      rw [if_neg (by omega)] at d2
      rcases Nat.lt_or_ge j a with c1 | c1
      · have := h.2.2.1 j a c1 ha
        have := h.mono q hb
        rw [if_pos c1] at d1
        rw [if_neg (by omega), if_neg (by omega)]
      · rw [if_neg (by omega)] at d1
        rcases Nat.lt_or_ge j b with c2 | c2
        · have := h.2.2.1 j b c2 hb
          rw [if_pos (by omega), if_pos (by omega)]
        · have := h.mono c2 hj
          rw [if_neg (by omega), if_neg (by omega)])
    rw [e, sum_rng (fun j => f (o j)) q n, show min b n = b by omega, show min a n = a by omega, if_neg (by omega)]; omega
theorem Ord.fb {L : Int} {n : Nat} {p l : Nat → Int} {o : Nat → Nat} {P : Nat → Int} (h : Ord L n p l o P) {a b : Nat} (ha : a < n) (hb : b < n) : fbtw L n p l (o a) (o b) = P b - P a + (if b < a then freeL L n l else 0) := by
  have h1 := h.near l ha hb
  have h2 := h.dst ha hb
  have h3 := h.2.2.2.1 a ha
  have h4 := h.2.2.2.1 b hb
  simp only [fbtw, freeL]
  rw [h1, h2]
  split <;> omega
theorem sumI_one : ∀ n : Nat, sumI (fun _ => (1 : Int)) n = (n : Int)
  | 0 => rfl
  | n + 1 => by rw [sumI_s, sumI_one n]; omega
theorem Ord.rb {L : Int} {n : Nat} {p l : Nat → Int} {o : Nat → Nat} {P : Nat → Int} (h : Ord L n p l o P) {a b : Nat} (ha : a < n) (hb : b < n) : rbtw L n p (o a) (o b) = ((rd n a b : Nat) : Int) := by
  have h1 := h.near (fun _ => 1) ha hb
  simp only [rbtw]
  rw [h1, sumI_one, sumI_one, sumI_one]
  simp only [rd]
  split <;> split <;> omega
theorem Ord.sur {L : Int} {n : Nat} {p l : Nat → Int} {o : Nat → Nat} {P : Nat → Int} (h : Ord L n p l o P) {g : Nat} (hg : g < n) : ∃ k, k < n ∧ o k = g := by
  obtain ⟨i, hi, e⟩ := fb_onto (n := n) (f := o) (fun i hi => h.1 i hi) (fun i j hij hj e => by have := h.2.2.1 i j hij hj; rw [e] at this; omega) hg
  exact ⟨i, hi, e⟩
theorem Ord.inj {L : Int} {n : Nat} {p l : Nat → Int} {o : Nat → Nat} {P : Nat → Int} (h : Ord L n p l o P) {a b : Nat} (ha : a < n) (hb : b < n) (e : o a = o b) : a = b := by
  rcases Nat.lt_trichotomy a b with q | q | q
  · have := h.2.2.1 a b q hb; rw [e] at this; omega
  · exact q
  · have := h.2.2.1 b a q ha; rw [e] at this; omega
/-- points do not go down, and come again one round higher -/
def Pup (n : Nat) (R : Int) (P : Nat → Int) : Prop := (∀ a b, a ≤ b → b < n → P a ≤ P b) ∧ (∀ a b, a < n → b < n → P b ≤ P a + R)
theorem Ord.up1 {L : Int} {n : Nat} {p l : Nat → Int} {o : Nat → Nat} {P : Nat → Int} (h : Ord L n p l o P) (hg : Geo L n p l) {k : Nat} (hk : k + 1 < n) : P k ≤ P (k + 1) := by
  have h1 := hg (o k) (o (k + 1)) (h.1 k (by omega)) (h.1 _ hk) (fun e => by have := h.inj (show k < n by omega) hk e; omega)
  rw [h.dst (show k < n by omega) hk, if_neg (by omega)] at h1
  have h2 := h.2.2.2.1 k (by omega)
  have h3 := h.2.2.2.1 (k + 1) hk
  rw [sumI_s] at h3
  omega
theorem Ord.pup {L : Int} {n : Nat} {p l : Nat → Int} {o : Nat → Nat} {P : Nat → Int} (h : Ord L n p l o P) (hg : Geo L n p l) (hF : 1 ≤ freeL L n l) : Pup n (freeL L n l) P := by
  have mn : ∀ d a, a + d < n → P a ≤ P (a + d) := by
    intro d
    induction d with
    | zero => intro a _; exact Int.le_refl _
    | succ d ih => intro a ha; exact Int.le_trans (ih a (by omega)) (h.up1 hg (k := a + d) (by omega))
  have m2 : ∀ a b, a ≤ b → b < n → P a ≤ P b := fun a b hab hb => by
    have := mn (b - a) a (by omega); rw [show a + (b - a) = b by omega] at this; exact this
  refine ⟨m2, fun a b ha hb => ?_⟩
  have g1 := m2 0 a (by omega) ha
  have g2 := m2 b (n - 1) (by omega) (by omega)
  rcases Nat.lt_or_ge n 2 with q | q
  · have : a = b := by omega
    subst this; omega
  · have h1 := hg (o (n - 1)) (o 0) (h.1 _ (by omega)) (h.1 _ (by omega)) (fun e => by have := h.inj (show n - 1 < n by omega) (show 0 < n by omega) e; omega)
    rw [h.dst (show n - 1 < n by omega) (show 0 < n by omega), if_pos (by omega)] at h1
    have h2 := h.2.2.2.1 0 (by omega)
    have h3 := h.2.2.2.1 (n - 1) (by omega)
    have h4 := h.2.1 l
    rw [show n = (n - 1) + 1 by omega, sumI_s] at h4
    simp only [sumI] at h2
    rw [show n - 1 + 1 = n by omega] at h4
    simp only [freeL]
    omega
theorem Ord.fnn {L : Int} {n : Nat} {p l : Nat → Int} {o : Nat → Nat} {P : Nat → Int} (h : Ord L n p l o P) (hg : Geo L n p l) (hF : 1 ≤ freeL L n l) {a b : Nat} (ha : a < n) (hb : b < n) : 0 ≤ fbtw L n p l a b := by
  obtain ⟨i, hi, rfl⟩ := h.sur ha
  obtain ⟨j, hj, rfl⟩ := h.sur hb
  have hp := h.pup hg hF
  rw [h.fb hi hj]
  split
  · have := hp.2 j i hj hi; omega
  · have := hp.1 i j (by omega) hj; omega
