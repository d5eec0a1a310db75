/-! sorting by putting in -/
/-- the row f, from the place i to k moved up by one -/
def shr (f : Nat → Int) (i k : Nat) : Nat → Int := fun j => if i < j ∧ j ≤ k then f (j - 1) else f j
theorem shr_k (f : Nat → Int) (k : Nat) : shr f k k = f := by funext j; simp only [shr]; rw [if_neg (by omega)]
theorem shr_lo {f : Nat → Int} {i k j : Nat} (h : j ≤ i) : shr f i k j = f j := by simp only [shr]; rw [if_neg (by omega)]
theorem shr_s {f : Nat → Int} {i k : Nat} (h0 : 0 < i) (h : i ≤ k) : up (shr f i k) i (f (i - 1)) = shr f (i - 1) k := by
  funext j
  simp only [shr, up]
  by_cases q : j = i
  · subst q; rw [if_pos rfl, if_pos (by omega)]
  · rw [if_neg q]
    by_cases q2 : i < j ∧ j ≤ k
    · rw [if_pos q2, if_pos (by omega)]
    · rw [if_neg q2, if_neg (by omega)]
/-- v put in at the place i -/
def ins {α : Type} (f : Nat → α) (i : Nat) (v : α) : Nat → α := fun j => if j < i then f j else if j = i then v else f (j - 1)
theorem ins_lt {α : Type} {f : Nat → α} {i j : Nat} {v : α} (h : j < i) : ins f i v j = f j := by simp only [ins]; rw [if_pos h]
theorem ins_at {α : Type} {f : Nat → α} {i : Nat} {v : α} : ins f i v i = v := by simp [ins]
theorem ins_gt {α : Type} {f : Nat → α} {i j : Nat} {v : α} (h : i < j) : ins f i v j = f (j - 1) := by simp only [ins]; rw [if_neg (by omega), if_neg (by omega)]
theorem up_shr {f : Nat → Int} {i k j : Nat} {v : Int} (hj : j ≤ k) : up (shr f i k) i v j = ins f i v j := by
  rcases Nat.lt_trichotomy j i with q | q | q
  · rw [up_n (by omega), shr_lo (by omega), ins_lt q]
  · subst q; rw [up_s, ins_at]
  · rw [up_n (by omega), ins_gt q]; simp only [shr]; rw [if_pos ⟨q, hj⟩]
theorem ins_sum {α : Type} (G : α → Int) (f : Nat → α) (v : α) (i : Nat) : ∀ d, sumI (fun j => G (ins f i v j)) (i + d + 1) = sumI (fun j => G (f j)) (i + d) + G v
  | 0 => by
    rw [Nat.add_zero, sumI_s]
    rw [sumI_cong (g := fun j => G (f j)) (fun j hj => by rw [ins_lt hj]), ins_at]
    rfl
  | d + 1 => by
    rw [← Nat.add_assoc, sumI_s, ins_sum G f v i d, sumI_s, ins_gt (by omega)]
    simp only [Nat.add_sub_cancel]; omega
theorem ins_sum2 {α : Type} (G : α → Int) (f : Nat → α) (v : α) {i k : Nat} (h : i ≤ k) : sumI (fun j => G (ins f i v j)) (k + 1) = sumI (fun j => G (f j)) k + G v := by
  obtain ⟨d, rfl⟩ : ∃ d, k = i + d := ⟨k - i, by omega⟩
  exact ins_sum G f v i d
/-- what is sorted stays so -/
theorem ins_sort {α : Type} {f : Nat → α} {v : α} {i k : Nat} (R : α → α → Prop) (hik : i ≤ k) (hs : ∀ a b, a < b → b < k → R (f a) (f b)) (hlo : ∀ j, j < i → R (f j) v) (hhi : ∀ j, i ≤ j → j < k → R v (f j)) : ∀ a b, a < b → b < k + 1 → R (ins f i v a) (ins f i v b) := by
  intro a b hab hb
  rcases Nat.lt_trichotomy b i with q | q | q
  · rw [ins_lt q, ins_lt (by omega)]; exact hs a b hab (by omega)
  · subst q; rw [ins_at, ins_lt hab]; exact hlo a hab
  · rw [ins_gt q]
    rcases Nat.lt_trichotomy a i with p | p | p
    · rw [ins_lt p]; exact hs a (b - 1) (by omega) (by omega)
    · subst p; rw [ins_at]; exact hhi (b - 1) (by omega) (by omega)
    · rw [ins_gt p]; exact hs (a - 1) (b - 1) (by omega) (by omega)
/-- as far as the rods below k are put in order -/
def LayK (w : Nat → Int) (k : Nat) (o : Nat → Nat) (od : Nat → Int) : Prop := (∀ j, j < k → od j = (o j : Int) ∧ o j < k) ∧ (∀ F : Nat → Int, sumI (fun j => F (o j)) k = sumI F k) ∧ (∀ a b, a < b → b < k → w (5 + o a) ≤ w (5 + o b))
theorem LayK.step {w : Nat → Int} {k i : Nat} {o : Nat → Nat} {od : Nat → Int} (h : LayK w k o od) (hi : i ≤ k) (hgt : ∀ j, i ≤ j → j < k → w (5 + k) < w (5 + o j)) (hle : i = 0 ∨ w (5 + o (i - 1)) ≤ w (5 + k)) : LayK w (k + 1) (ins o i k) (up (shr od i k) i (k : Int)) := by
  obtain ⟨h1, h2, h3⟩ := h
  refine ⟨fun j hj => ?_, fun F => ?_, ?_⟩
  · rw [up_shr (by omega)]
    rcases Nat.lt_trichotomy j i with q | q | q
    · rw [ins_lt q, ins_lt q]; have := h1 j (by omega); exact ⟨this.1, by omega⟩
    · subst q; rw [ins_at, ins_at]; exact ⟨rfl, by omega⟩
    · rw [ins_gt q, ins_gt q]; have := h1 (j - 1) (by omega); exact ⟨this.1, by omega⟩
  · rw [ins_sum2 F o k hi, h2 F, sumI_s]
  · refine ins_sort (fun a b => w (5 + a) ≤ w (5 + b)) hi h3 (fun j hj => ?_) (fun j g1 g2 => by have := hgt j g1 g2; omega)
    rcases hle with q | q
    · omega
    · rcases Nat.lt_or_ge j (i - 1) with p | p
      · exact Int.le_trans (h3 j (i - 1) p (by omega)) q
      · rw [show j = i - 1 by omega]; exact q
/-! points at the end, in order -/
def lxgt (a b c d : Int) : Prop := c < a ∨ (a = c ∧ d < b)
def eM (w : Nat → Int) (n : Nat) (o : Nat → Nat) (pt : Nat → Int) (t : Int) (j : Nat) : Int := (pt j + t * w (21 + o j)) % frM w n
def rdM (w : Nat → Int) (n : Nat) (o : Nat → Nat) (pt : Nat → Int) (t : Int) (k : Nat) : Int := sumI (fun j => (pt j + t * w (21 + o j)) / frM w n) k
/-- the points below k lie in tu and fa, in order -/
def SrtM (w : Nat → Int) (n : Nat) (o : Nat → Nat) (pt : Nat → Int) (t : Int) (tu fa : Nat → Int) (k : Nat) : Prop := (∀ j, j < k → (0 ≤ tu j ∧ tu j < frM w n) ∧ -9 ≤ fa j ∧ fa j ≤ 9) ∧ (∀ F : Int → Int → Int, sumI (fun j => F (tu j) (fa j)) k = sumI (fun j => F (eM w n o pt t j) (w (21 + o j))) k) ∧ (∀ a b, a < b → b < k → ¬ lxgt (tu a) (fa a) (tu b) (fa b))
theorem SrtM.zero (w : Nat → Int) (n : Nat) (o : Nat → Nat) (pt : Nat → Int) (t : Int) (tu fa : Nat → Int) : SrtM w n o pt t tu fa 0 := ⟨fun j hj => absurd hj (Nat.not_lt_zero j), fun _ => rfl, fun a b _ hb => absurd hb (Nat.not_lt_zero b)⟩
theorem SrtM.step {w : Nat → Int} {n : Nat} {o : Nat → Nat} {pt : Nat → Int} {t : Int} {tu fa : Nat → Int} {k i : Nat} (h : SrtM w n o pt t tu fa k) (hi : i ≤ k) (hf : 1 ≤ frM w n) (hv : -9 ≤ w (21 + o k) ∧ w (21 + o k) ≤ 9) (hgt : ∀ j, i ≤ j → j < k → lxgt (tu j) (fa j) (eM w n o pt t k) (w (21 + o k))) (hle : i = 0 ∨ ¬ lxgt (tu (i - 1)) (fa (i - 1)) (eM w n o pt t k) (w (21 + o k))) : SrtM w n o pt t (up (shr tu i k) i (eM w n o pt t k)) (up (shr fa i k) i (w (21 + o k))) (k + 1) := by
  obtain ⟨h1, h2, h3⟩ := h
  have he := fm_b (x := pt k + t * w (21 + o k)) (y := frM w n) (by omega)
  refine ⟨fun j hj => ?_, fun F => ?_, fun a b hab hb => ?_⟩
  · rw [up_shr (by omega), up_shr (by omega)]
    rcases Nat.lt_trichotomy j i with q | q | q
    · rw [ins_lt q, ins_lt q]; exact h1 j (by omega)
    · subst q; rw [ins_at, ins_at]; exact ⟨he, hv⟩
    · rw [ins_gt q, ins_gt q]; exact h1 (j - 1) (by omega)
  · have e1 : sumI (fun j => F (up (shr tu i k) i (eM w n o pt t k) j) (up (shr fa i k) i (w (21 + o k)) j)) (k + 1) = sumI (fun j => (fun q : Int × Int => F q.1 q.2) (ins (fun j => (tu j, fa j)) i (eM w n o pt t k, w (21 + o k)) j)) (k + 1) := by
      refine sumI_cong (fun j hj => ?_)
      rw [up_shr (by omega), up_shr (by omega)]
      rcases Nat.lt_trichotomy j i with q | q | q
      · rw [ins_lt q, ins_lt q, ins_lt q]
      · subst q; rw [ins_at, ins_at, ins_at]
      · rw [ins_gt q, ins_gt q, ins_gt q]
    rw [e1, ins_sum2 (fun q : Int × Int => F q.1 q.2) (fun j => (tu j, fa j)) (eM w n o pt t k, w (21 + o k)) hi, sumI_s, ← h2 F]
  · have srt := ins_sort (α := Int × Int) (f := fun j => (tu j, fa j)) (v := (eM w n o pt t k, w (21 + o k))) (fun p q => ¬ lxgt p.1 p.2 q.1 q.2) hi h3 (fun j hj => ?_) (fun j g1 g2 => by have := hgt j g1 g2; simp only [lxgt] at *; omega) a b hab hb
    · have e : ∀ j, ins (fun j => (tu j, fa j)) i (eM w n o pt t k, w (21 + o k)) j = (ins tu i (eM w n o pt t k) j, ins fa i (w (21 + o k)) j) := by
        intro j
        rcases Nat.lt_trichotomy j i with q | q | q
        · rw [ins_lt q, ins_lt q, ins_lt q]
        · subst q; rw [ins_at, ins_at, ins_at]
        · rw [ins_gt q, ins_gt q, ins_gt q]
      rw [e a, e b] at srt
      rw [up_shr (by omega), up_shr (by omega), up_shr (by omega), up_shr (by omega)]
      exact srt
    · rcases hle with q | q
      · omega
      · rcases Nat.lt_or_ge j (i - 1) with p | p
        · have g := h3 j (i - 1) p (by omega)
          simp only [lxgt] at *; omega
        · rw [show j = i - 1 by omega]; exact q
/-- where rods are then -/
def GoM (w : Nat → Int) (n : Nat) (o : Nat → Nat) (pt : Nat → Int) (t : Int) (th ss : Nat → Int) : Prop := ∃ tu fa : Nat → Int, SrtM w n o pt t tu fa n ∧ ∀ k, k < n → th k = tu (((k : Int) + rdM w n o pt t n) % (n : Int)).toNat + frM w n * (((k : Int) + rdM w n o pt t n) / (n : Int)) ∧ ss k = fa (((k : Int) + rdM w n o pt t n) % (n : Int)).toNat
theorem div_ex {x y : Int} (hy : 0 < y) : Int.tdiv (x - x % y) y = x / y := by
  have h := Int.emod_add_mul_ediv x y
  rw [show x - x % y = y * (x / y) by omega, Int.mul_tdiv_cancel_left _ (by omega)]
theorem MOk.gb {w : Nat → Int} {n : Nat} (h : MOk w n) {o : Nat → Nat} {od pt : Nat → Int} (hL : Lay w n o od pt) {t : Int} (ht : 0 ≤ t ∧ t ≤ 100) {j : Nat} (hj : j < n) : -3000 ≤ pt j + t * w (21 + o j) ∧ pt j + t * w (21 + o j) ≤ 3000 := by
  have h1 := hL.pt h hj
  have h2 := h.at (hL.lt hj)
  have h3 := mul_b (a := w (21 + o j)) (b := t) (by omega) ht
  rw [Int.mul_comm] at h3
  omega
theorem MOk.rb {w : Nat → Int} {n : Nat} (h : MOk w n) {o : Nat → Nat} {od pt : Nat → Int} (hL : Lay w n o od pt) {t : Int} (ht : 0 ≤ t ∧ t ≤ 100) {k : Nat} (hk : k ≤ n) : -24000 ≤ rdM w n o pt t k ∧ rdM w n o pt t k ≤ 24000 := by
  have h0 := h.bd
  have h1 := sumI_bd (f := fun j => (pt j + t * w (21 + o j)) / frM w n) (a := -3000) (b := 3000) (n := k) (fun j hj => ediv_b (b := 3000) h.fr.1 (by omega) (h.gb hL ht (by omega)))
  simp only [rdM]; omega
