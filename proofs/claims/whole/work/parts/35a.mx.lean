theorem tmod_pv {n k : Nat} (h : k < n) : Int.tmod ((k : Int) + (n : Int) - 1) (n : Int) = ((pv n k : Nat) : Int) := by
  rw [show ((k : Int) + (n : Int) - 1) = ((k + n - 1 : Nat) : Int) by omega, tmod_nat (k + n - 1) n, pv_eq h]
theorem rd_pv2 {n k x : Nat} (hk : k < n) (hx : x < n) (h : pv n k ≠ x) : rd n (pv n k) x = rd n k x + 1 := by
  simp only [rd, pv] at h ⊢
  (repeat' split at h) <;> (repeat' split) <;> omega
theorem rd_nx2 {n m k : Nat} (hm : m < n) (hk : k < n) (h : nx n k ≠ m) : rd n m (nx n k) = rd n m k + 1 := by
  simp only [rd, nx] at h ⊢
  (repeat' split at h) <;> (repeat' split) <;> omega
theorem rd_all {n k x : Nat} (hk : k < n) (h : pv n k = x) : rd n k x = n - 1 := by
  subst h; simp only [rd, pv]
  (repeat' split) <;> omega
theorem rd_all2 {n m k : Nat} (hk : k < n) (h : nx n k = m) : rd n m k = n - 1 := by
  subst h; simp only [rd, nx]
  (repeat' split) <;> omega
theorem rd_in {n a x y : Nat} (ha : a < n) (hx : x < n) (hy : y < n) (h : rd n a x = rd n a y) : x = y := by
  simp only [rd] at h
  (repeat' split at h) <;> omega
theorem ilB_iff (w : Nat → Int) (n : Nat) (o : Nat → Nat) : ∀ (d m : Nat), m < n → d ≤ n → (ilB w n o d m = true ↔ ∀ j, j < n → rd n m j < d → gpM w n o j ≤ 0)
  | 0, m, _, _ => ⟨fun _ j _ h => absurd h (Nat.not_lt_zero _), fun _ => rfl⟩
  | d + 1, m, hm, hd => by
    have ih := ilB_iff w n o d (nx n m) (nx_lt hm) (by omega)
    rw [ilB, Bool.and_eq_true, decide_eq_true_iff, ih]
    constructor
    · rintro ⟨h1, h2⟩ j hj hr
      by_cases q : m = j
      · subst q; exact h1
      · have := rd_nx hm hj q
        exact h2 j hj (by omega)
    · intro h
      refine ⟨h m hm (by rw [rd_z]; omega), fun j hj hr => ?_⟩
      by_cases q : m = j
      · subst q
        have := rd_all2 (n := n) (m := nx n m) hm rfl
        exact absurd hr (by omega)
      · have := rd_nx hm hj q
        exact h j hj (by omega)
/-- some gap -/
def GpP (w : Nat → Int) (n : Nat) : Prop := ∀ (o : Nat → Nat) (od pt : Nat → Int), Lay w n o od pt → 0 < n → ∃ j, j < n ∧ 0 < gpM w n o j
/-- one more to the left has no gap -/
theorem lm_step {w : Nat → Int} {n : Nat} {o : Nat → Nat} {k x : Nat} (hp : ∃ j, j < n ∧ 0 < gpM w n o j) (hk : k < n) (hx : x < n) (h : ilB w n o (rd n k x) k = true) (hg : gpM w n o (pv n k) = 0) : ilB w n o (rd n (pv n k) x) (pv n k) = true := by
  have hl := rd_lt hk hx
  have hpk := pv_lt hk
  rw [ilB_iff w n o _ _ hk (by omega)] at h
  have hl2 := rd_lt hpk hx
  rw [ilB_iff w n o _ _ hpk (by omega)]
  intro j hj hr
  by_cases e : pv n k = j
  · subst e; omega
  · have hx2 : pv n k ≠ x := by
      intro q
      have := rd_all hk q
      obtain ⟨i, hi, gi⟩ := hp
      by_cases e2 : i = x
      · subst e2; rw [← q] at gi; omega
      · have a1 := rd_lt hk hi
        have : rd n k i ≠ rd n k x := fun z => e2 (rd_in hk hi hx z)
        have := h i hi (by omega)
        omega
    have e1 := rd_pv2 hk hx hx2
    have e2 := rd_pv2 hk hj e
    exact h j hj (by omega)
/-- how far to the left one goes -/
theorem lm_mu {w : Nat → Int} {n : Nat} {o : Nat → Nat} {k j : Nat} (hk : k < n) (hj : j < n) (gj : 0 < gpM w n o j) (hg : gpM w n o (pv n k) = 0) : rd n j (pv n (pv n k)) < rd n j (pv n k) := by
  have := rd_pv (n := n) (a := j) (b := pv n k) hj (pv_lt hk) (fun q => by rw [q] at hg; omega)
  omega
theorem re_step {w : Nat → Int} {n : Nat} {o : Nat → Nat} {m k : Nat} (hp : ∃ j, j < n ∧ 0 < gpM w n o j) (hm : m < n) (hk : k < n) (h : ilB w n o (rd n m k) m = true) (hg : gpM w n o k = 0) : rd n m (nx n k) = rd n m k + 1 ∧ ilB w n o (rd n m (nx n k)) m = true := by
  have hl := rd_lt hm hk
  have hnk := nx_lt hk
  rw [ilB_iff w n o _ _ hm (by omega)] at h
  have e : nx n k ≠ m := by
    intro q
    have := rd_all2 hk q
    obtain ⟨i, hi, gi⟩ := hp
    by_cases e2 : i = k
    · subst e2; omega
    · have a1 := rd_lt hm hi
      have : rd n m i ≠ rd n m k := fun z => e2 (rd_in hm hi hk z)
      have := h i hi (by omega)
      omega
  have e1 := rd_nx2 hm hk e
  refine ⟨e1, ?_⟩
  have hl2 := rd_lt hm hnk
  rw [ilB_iff w n o _ _ hm (by omega)]
  intro j hj hr
  by_cases e3 : j = k
  · subst e3; omega
  · have : rd n m j ≠ rd n m k := fun z => e3 (rd_in hm hj hk z)
    exact h j hj (by omega)
