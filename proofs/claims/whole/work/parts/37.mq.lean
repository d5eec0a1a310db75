/-! the reference: the first moment, and all moments -/
def dnM (k i a b : Nat) : Prop := b < k ∨ (b = k ∧ a < i)
theorem dnM.split {k i a b : Nat} (h : dnM k (i + 1) a b) : dnM k i a b ∨ (a = i ∧ b = k) := by simp only [dnM] at *; omega
theorem MOk.dfp {w : Nat → Int} {n : Nat} {o : Nat → Nat} {pt : Nat → Int} {i k : Nat} (h : 0 ≤ ahM w n o pt i k) : 1 ≤ dfM w o i k := by
  simp only [ahM] at h
  simp only [dfM]
  split at h
  · omega
  · split <;> omega
def hitM (w : Nat → Int) (n : Nat) (o : Nat → Nat) (pt : Nat → Int) (u l : Int) (a b : Nat) : Int := if 0 ≤ ahM w n o pt a b ∧ ahM w n o pt a b * l = u * dfM w o a b then 1 else 0
def cntM (w : Nat → Int) (n : Nat) (o : Nat → Nat) (pt : Nat → Int) (u l : Int) (k i : Nat) : Int := sumI (fun b => sumI (fun a => hitM w n o pt u l a b) b) k + sumI (fun a => hitM w n o pt u l a k) i
/-- what holds when the pairs (a, b), a below b, with b below k, or b = k and a below i, are looked at -/
def NxI (w : Nat → Int) (n : Nat) (o : Nat → Nat) (pt : Nat → Int) (k i : Nat) (u l v : Int) : Prop := (u = -5 ∧ l = 1 ∧ v = 0 ∧ ∀ a b, a < b → b < n → dnM k i a b → ahM w n o pt a b < 0) ∨ ((0 ≤ u ∧ u ≤ 1000) ∧ (1 ≤ l ∧ l ≤ 18) ∧ (0 ≤ v ∧ v ≤ (k : Int) * 8 + (i : Int)) ∧ (∀ a b, a < b → b < n → dnM k i a b → 0 ≤ ahM w n o pt a b → u * dfM w o a b ≤ ahM w n o pt a b * l) ∧ (∃ a b, a < b ∧ b < n ∧ 0 ≤ ahM w n o pt a b ∧ u = ahM w n o pt a b ∧ l = dfM w o a b) ∧ v = cntM w n o pt u l k i)
theorem NxI.bd {w : Nat → Int} {n : Nat} {o : Nat → Nat} {pt : Nat → Int} {k i : Nat} {u l v : Int} (h : NxI w n o pt k i u l v) : (-5 ≤ u ∧ u ≤ 1000) ∧ (1 ≤ l ∧ l ≤ 18) ∧ (0 ≤ v ∧ v ≤ (k : Int) * 8 + (i : Int)) ∧ (u = -5 ∨ 0 ≤ u) := by
  rcases h with ⟨h1, h2, h3, -⟩ | ⟨h1, h2, h3, -⟩ <;> omega
theorem NxI.zero (w : Nat → Int) (n : Nat) (o : Nat → Nat) (pt : Nat → Int) : NxI w n o pt 0 0 (-5) 1 0 := Or.inl ⟨rfl, rfl, rfl, fun a b h1 h2 h => by simp only [dnM] at h; omega⟩
theorem NxI.row {w : Nat → Int} {n : Nat} {o : Nat → Nat} {pt : Nat → Int} {k i : Nat} {u l v : Int} (h : NxI w n o pt k i u l v) (hi : i = k) (hk : k < 8) : NxI w n o pt (k + 1) 0 u l v := by
  subst hi
  have hd : ∀ a b, a < b → dnM (i + 1) 0 a b → dnM i i a b := fun a b hb h => by simp only [dnM] at *; omega
  rcases h with ⟨h1, h2, h3, h4⟩ | ⟨h1, h2, h3, h4, h5, h6⟩
  · exact Or.inl ⟨h1, h2, h3, fun a b ha hb hh => h4 a b ha hb (hd a b ha hh)⟩
  · refine Or.inr ⟨h1, h2, by omega, fun a b ha hb hh => h4 a b ha hb (hd a b ha hh), h5, ?_⟩
    rw [h6]; simp only [cntM, sumI]; omega
theorem NxI.skip {w : Nat → Int} {n : Nat} {o : Nat → Nat} {pt : Nat → Int} {k i : Nat} {u l v : Int} (h : NxI w n o pt k i u l v) (hc : ahM w n o pt i k < 0) : NxI w n o pt k (i + 1) u l v := by
  rcases h with ⟨h1, h2, h3, h4⟩ | ⟨h1, h2, h3, h4, h5, h6⟩
  · refine Or.inl ⟨h1, h2, h3, fun a b ha hb hh => ?_⟩
    rcases hh.split with g | ⟨rfl, rfl⟩
    · exact h4 a b ha hb g
    · exact hc
  · refine Or.inr ⟨h1, h2, by omega, fun a b ha hb hh hp => ?_, h5, ?_⟩
    · rcases hh.split with g | ⟨rfl, rfl⟩
      · exact h4 a b ha hb g hp
      · omega
    · rw [h6]; simp only [cntM, sumI_s]
      rw [show hitM w n o pt u l i k = 0 by simp only [hitM]; rw [if_neg (by omega)]]; omega
theorem NxI.far {w : Nat → Int} {n : Nat} {o : Nat → Nat} {pt : Nat → Int} {k i : Nat} {u l v : Int} (h : NxI w n o pt k i u l v) (hu : 0 ≤ u) (hf : u * dfM w o i k < ahM w n o pt i k * l) : NxI w n o pt k (i + 1) u l v := by
  rcases h with ⟨h1, h2, h3, h4⟩ | ⟨h1, h2, h3, h4, h5, h6⟩
  · omega
  · refine Or.inr ⟨h1, h2, by omega, fun a b ha hb hh hp => ?_, h5, ?_⟩
    · rcases hh.split with g | ⟨rfl, rfl⟩
      · exact h4 a b ha hb g hp
      · omega
    · rw [h6]; simp only [cntM, sumI_s]
      rw [show hitM w n o pt u l i k = 0 by simp only [hitM]; rw [if_neg (by omega)]]; omega
theorem NxI.same {w : Nat → Int} {n : Nat} {o : Nat → Nat} {pt : Nat → Int} {k i : Nat} {u l v : Int} (h : NxI w n o pt k i u l v) (hu : 0 ≤ u) (hc : 0 ≤ ahM w n o pt i k) (hf : ahM w n o pt i k * l = u * dfM w o i k) : NxI w n o pt k (i + 1) u l (v + 1) := by
  rcases h with ⟨h1, h2, h3, h4⟩ | ⟨h1, h2, h3, h4, h5, h6⟩
  · omega
  · refine Or.inr ⟨h1, h2, by omega, fun a b ha hb hh hp => ?_, h5, ?_⟩
    · rcases hh.split with g | ⟨rfl, rfl⟩
      · exact h4 a b ha hb g hp
      · omega
    · rw [h6]; simp only [cntM, sumI_s]
      rw [show hitM w n o pt u l i k = 1 by simp only [hitM]; rw [if_pos ⟨hc, hf⟩]]; omega
theorem NxI.new {w : Nat → Int} {n : Nat} (hok : MOk w n) {o : Nat → Nat} {pt : Nat → Int} (ho : ∀ j, j < n → o j < n) {k i : Nat} {u l v : Int} (h : NxI w n o pt k i u l v) (hi : i < k) (hk : k < n) (hc : 0 ≤ ahM w n o pt i k) (hf : u = -5 ∨ ahM w n o pt i k * l < u * dfM w o i k) : NxI w n o pt k (i + 1) (ahM w n o pt i k) (dfM w o i k) (0 + 1) := by
  have hb1 := hok.ah o pt i k
  have hb2 := hok.df (ho i (by omega)) (ho k hk)
  have hb3 := MOk.dfp hc
  have prev : ∀ a b, a < b → b < n → dnM k i a b → 0 ≤ ahM w n o pt a b → ahM w n o pt i k * dfM w o a b < ahM w n o pt a b * dfM w o i k := by
    intro a b ha hb hd hp
    have hp2 := MOk.dfp hp
    rcases h with ⟨h1, h2, h3, h4⟩ | ⟨h1, h2, h3, h4, h5, h6⟩
    · have := h4 a b ha hb hd; omega
    · have g := h4 a b ha hb hd hp
      rcases hf with hf | hf
      · omega
      · have e1 : ahM w n o pt i k * l * dfM w o a b < u * dfM w o i k * dfM w o a b := Int.mul_lt_mul_of_pos_right hf (by omega)
        have e2 : u * dfM w o a b * dfM w o i k ≤ ahM w n o pt a b * l * dfM w o i k := Int.mul_le_mul_of_nonneg_right g (by omega)
        have e3 : l * (ahM w n o pt i k * dfM w o a b) < l * (ahM w n o pt a b * dfM w o i k) := by
          have a1 : ahM w n o pt i k * l * dfM w o a b = l * (ahM w n o pt i k * dfM w o a b) := by rw [Int.mul_comm (ahM w n o pt i k) l, Int.mul_assoc]
          have a2 : ahM w n o pt a b * l * dfM w o i k = l * (ahM w n o pt a b * dfM w o i k) := by rw [Int.mul_comm (ahM w n o pt a b) l, Int.mul_assoc]
          have a3 : u * dfM w o i k * dfM w o a b = u * dfM w o a b * dfM w o i k := by rw [Int.mul_assoc, Int.mul_comm (dfM w o i k), ← Int.mul_assoc]
          omega
        exact Int.lt_of_mul_lt_mul_left e3 (by omega)
  refine Or.inr ⟨by omega, by omega, by omega, fun a b ha hb hh hp => ?_, ⟨i, k, hi, hk, hc, rfl, rfl⟩, ?_⟩
  · rcases hh.split with g | ⟨rfl, rfl⟩
    · have := prev a b ha hb g hp; omega
    · exact Int.le_refl _
  · have z : ∀ a b, a < b → b < n → dnM k i a b → hitM w n o pt (ahM w n o pt i k) (dfM w o i k) a b = 0 := by
      intro a b ha hb hd
      simp only [hitM]
      rw [if_neg (fun q => by have := prev a b ha hb hd q.1; omega)]
    simp only [cntM, sumI_s]
    rw [sumI_zero (n := k) (fun b hb => sumI_zero (fun a ha => z a b ha (by omega) (Or.inl hb))), sumI_zero (n := i) (fun a ha => z a k (by omega) hk (Or.inr ⟨rfl, ha⟩))]
    rw [show hitM w n o pt (ahM w n o pt i k) (dfM w o i k) i k = 1 by simp [hitM, hc]]; rfl
def mNext (w : Nat → Int) (n : Nat) (v z : Int) : Prop := (¬ (0 ≤ v ∧ v ≤ 2) ∧ z = -2) ∨ ((0 ≤ v ∧ v ≤ 2) ∧ ∃ (o : Nat → Nat) (od pt : Nat → Int) (u l r : Int), Lay w n o od pt ∧ NxI w n o pt n 0 u l r ∧ ((u = -5 ∧ z = -5) ∨ (∃ a b : Nat, u = (a : Int) ∧ l = (b : Int) ∧ ((v = 0 ∧ z = ((a / Nat.gcd b a : Nat) : Int)) ∨ (v = 1 ∧ z = ((b / Nat.gcd b a : Nat) : Int)) ∨ (v = 2 ∧ z = r)))))
/-! all moments in some ticks -/
def keyM (w : Nat → Int) (n : Nat) (o : Nat → Nat) (pt : Nat → Int) (i k t : Nat) : Int := (ahM w n o pt i k + (t : Int) * frM w n) * (12252240 / dfM w o i k)
def triN : Nat → Nat
  | 0 => 0
  | k + 1 => triN k + k
theorem triN_le {k : Nat} (h : k < 8) : triN k ≤ 21 := (by decide : ∀ k, k < 8 → triN k ≤ 21) k h
theorem MOk.tm3 {w : Nat → Int} {n : Nat} (h : MOk w n) {o : Nat → Nat} (pt : Nat → Int) {i k : Nat} (hi : o i < n) (hk : o k < n) {t : Int} (ht : 1 ≤ t ∧ t ≤ 3) : tmM w n o pt t i k ≤ 55 := by
  have h1 := h.fr
  have h2 := h.ah o pt i k
  have h3 := h.df hi hk
  have h4 : dfM w o i k * t ≤ 18 * 3 := Int.mul_le_mul h3.2 ht.2 (by omega) (by omega)
  simp only [tmM]
  split
  · omega
  · have h5 := ediv_b (x := dfM w o i k * t - ahM w n o pt i k) (y := frM w n) (b := 54) h1.1 (by omega) (by omega)
    omega
/-- a moment that is counted lies in the ticks -/
theorem tm_in {w : Nat → Int} {n : Nat} (h : MOk w n) {o : Nat → Nat} (pt : Nat → Int) {i k s : Nat} {t : Int} (hs : (s : Int) < tmM w n o pt t i k) : 0 ≤ ahM w n o pt i k ∧ ahM w n o pt i k + (s : Int) * frM w n ≤ dfM w o i k * t := by
  have h1 := h.fr
  simp only [tmM] at hs
  split at hs
  · omega
  · rename_i q
    refine ⟨by omega, ?_⟩
    have h2 : (s : Int) ≤ (dfM w o i k * t - ahM w n o pt i k) / frM w n := by omega
    have h3 : (s : Int) * frM w n ≤ (dfM w o i k * t - ahM w n o pt i k) / frM w n * frM w n := Int.mul_le_mul_of_nonneg_right h2 (by omega)
    have h4 := Int.ediv_mul_le (dfM w o i k * t - ahM w n o pt i k) (show frM w n ≠ 0 by omega)
    omega
theorem in_tm {w : Nat → Int} {n : Nat} (h : MOk w n) {o : Nat → Nat} (pt : Nat → Int) {i k s : Nat} {t : Int} (h0 : 0 ≤ ahM w n o pt i k) (hs : ahM w n o pt i k + (s : Int) * frM w n ≤ dfM w o i k * t) : (s : Int) < tmM w n o pt t i k := by
  have h1 := h.fr
  have h3 : 0 ≤ (s : Int) * frM w n := Int.mul_nonneg (by omega) (by omega)
  simp only [tmM]
  rw [if_neg (by omega)]
  have h4 : (s : Int) ≤ (dfM w o i k * t - ahM w n o pt i k) / frM w n := Int.le_ediv_of_mul_le (by omega) (by omega)
  omega
theorem key_bd {w : Nat → Int} {n : Nat} (h : MOk w n) {o : Nat → Nat} (pt : Nat → Int) {i k s : Nat} {t : Int} (ht : 1 ≤ t ∧ t ≤ 3) (hs : (s : Int) < tmM w n o pt t i k) : (1 ≤ dfM w o i k) ∧ (0 ≤ 12252240 / dfM w o i k ∧ 12252240 / dfM w o i k ≤ 12252240) ∧ 0 ≤ keyM w n o pt i k s ∧ keyM w n o pt i k s ≤ 36756720 := by
  obtain ⟨h1, h2⟩ := tm_in h pt hs
  have h3 := MOk.dfp h1
  have h5 := h.fr
  have h6 : 0 ≤ (s : Int) * frM w n := Int.mul_nonneg (by omega) (by omega)
  have h7 : 0 ≤ 12252240 / dfM w o i k := Int.ediv_nonneg (by omega) (by omega)
  have h8 : dfM w o i k * (12252240 / dfM w o i k) ≤ 12252240 := Int.mul_ediv_self_le (by omega)
  refine ⟨h3, ⟨h7, Int.ediv_le_self _ (by omega)⟩, Int.mul_nonneg (by omega) h7, ?_⟩
  simp only [keyM]
  have h9 : (ahM w n o pt i k + (s : Int) * frM w n) * (12252240 / dfM w o i k) ≤ dfM w o i k * t * (12252240 / dfM w o i k) := Int.mul_le_mul_of_nonneg_right h2 h7
  have ha : dfM w o i k * t * (12252240 / dfM w o i k) = t * (dfM w o i k * (12252240 / dfM w o i k)) := by rw [Int.mul_comm (dfM w o i k) t, Int.mul_assoc]
  have hb : t * (dfM w o i k * (12252240 / dfM w o i k)) ≤ t * 12252240 := Int.mul_le_mul_of_nonneg_left h8 (by omega)
  omega
def dnT (k i t a b s : Nat) : Prop := b < k ∨ (b = k ∧ (a < i ∨ (a = i ∧ s < t)))
/-- the moments of the pairs looked at, each once -/
def MomI (w : Nat → Int) (n : Nat) (o : Nat → Nat) (pt : Nat → Int) (T : Int) (k i t : Nat) (mo : Nat → Int) (c : Nat) : Prop := (∀ j, j < c → ∃ a b s : Nat, a < b ∧ b < n ∧ (s : Int) < tmM w n o pt T a b ∧ mo j = keyM w n o pt a b s) ∧ (∀ a b s : Nat, a < b → b < n → dnT k i t a b s → (s : Int) < tmM w n o pt T a b → ∃ j, j < c ∧ mo j = keyM w n o pt a b s) ∧ (∀ j j', j < j' → j' < c → ¬ mo j = mo j') ∧ c ≤ 55 * (triN k + i) + t
theorem MomI.zero (w : Nat → Int) (n : Nat) (o : Nat → Nat) (pt : Nat → Int) (T : Int) (mo : Nat → Int) : MomI w n o pt T 0 0 0 mo 0 := ⟨fun j hj => absurd hj (Nat.not_lt_zero j), fun a b s h1 h2 h => by simp only [dnT] at h; omega, fun j j' _ h => absurd h (Nat.not_lt_zero _), Nat.zero_le _⟩
theorem MomI.bd {w : Nat → Int} {n : Nat} (hok : MOk w n) {o : Nat → Nat} {pt : Nat → Int} {T : Int} (ht : 1 ≤ T ∧ T ≤ 3) {k i t : Nat} {mo : Nat → Int} {c : Nat} (h : MomI w n o pt T k i t mo c) : ∀ j, j < c → -2147483648 ≤ mo j ∧ mo j < 2147483648 := by
  intro j hj
  obtain ⟨a, b, s, h1, h2, h3, h4⟩ := h.1 j hj
  have := key_bd hok pt ht h3
  omega
theorem MomI.row {w : Nat → Int} {n : Nat} {o : Nat → Nat} {pt : Nat → Int} {T : Int} {k i : Nat} {mo : Nat → Int} {c : Nat} (h : MomI w n o pt T k i 0 mo c) (hi : i = k) : MomI w n o pt T (k + 1) 0 0 mo c := by
  subst hi
  refine ⟨h.1, fun a b s h1 h2 h3 h4 => h.2.1 a b s h1 h2 (by simp only [dnT] at *; omega) h4, h.2.2.1, ?_⟩
  have := h.2.2.2; rw [triN]; omega
theorem MomI.cell {w : Nat → Int} {n : Nat} {o : Nat → Nat} {pt : Nat → Int} {T : Int} {k i t : Nat} {mo : Nat → Int} {c : Nat} (h : MomI w n o pt T k i t mo c) (ht : ¬ (t : Int) < tmM w n o pt T i k) (h5 : t ≤ 55) : MomI w n o pt T k (i + 1) 0 mo c := by
  refine ⟨h.1, fun a b s h1 h2 h3 h4 => ?_, h.2.2.1, ?_⟩
  · refine h.2.1 a b s h1 h2 ?_ h4
    simp only [dnT] at *
    rcases Nat.lt_trichotomy a i with q | q | q
    · omega
    · rcases Nat.lt_trichotomy b k with q2 | q2 | q2
      · omega
      · subst q q2; omega
      · omega
    · omega
  · have := h.2.2.2; omega
theorem MomI.step {w : Nat → Int} {n : Nat} {o : Nat → Nat} {pt : Nat → Int} {T : Int} {k i t : Nat} {mo mo2 : Nat → Int} {c : Nat} {z v : Int} (h : MomI w n o pt T k i t mo c) (hik : i < k) (hk : k < n) (ht : (t : Int) < tmM w n o pt T i k) (ev : v = keyM w n o pt i k t) (hz : (∃ j, j < c ∧ mo j = v ∧ mo2 = mo ∧ z = (c : Int)) ∨ ((∀ j, j < c → ¬ mo j = v) ∧ mo2 = up mo c v ∧ z = (c : Int) + 1)) : MomI w n o pt T k i (t + 1) mo2 z.toNat ∧ z = ((z.toNat : Nat) : Int) := by
  have sp : ∀ a b s, dnT k i (t + 1) a b s → dnT k i t a b s ∨ (a = i ∧ b = k ∧ s = t) := fun a b s hh => by simp only [dnT] at *; omega
  rcases hz with ⟨j, hj, e1, rfl, rfl⟩ | ⟨h1, rfl, rfl⟩
  · refine ⟨⟨h.1, fun a b s g1 g2 g3 g4 => ?_, h.2.2.1, ?_⟩, by omega⟩
    · rcases sp a b s g3 with g | ⟨rfl, rfl, rfl⟩
      · exact h.2.1 a b s g1 g2 g g4
      · exact ⟨j, hj, e1.trans ev⟩
    · have := h.2.2.2; omega
  · have ec : ((c : Int) + 1).toNat = c + 1 := by omega
    rw [ec]
    refine ⟨⟨fun j hj => ?_, fun a b s g1 g2 g3 g4 => ?_, fun j j' g1 g2 => ?_, ?_⟩, by omega⟩
    · rcases Nat.lt_succ_iff_lt_or_eq.mp hj with q | q
      · rw [up_n (by omega)]; exact h.1 j q
      · subst q; rw [up_s]; exact ⟨i, k, t, hik, hk, ht, ev⟩
    · rcases sp a b s g3 with g | ⟨rfl, rfl, rfl⟩
      · obtain ⟨j, hj, e⟩ := h.2.1 a b s g1 g2 g g4
        exact ⟨j, by omega, by rw [up_n (by omega)]; exact e⟩
      · exact ⟨c, by omega, by rw [up_s]; exact ev⟩
    · rcases Nat.lt_succ_iff_lt_or_eq.mp g2 with q | q
      · rw [up_n (by omega), up_n (by omega)]; exact h.2.2.1 j j' g1 q
      · subst q; rw [up_s, up_n (by omega)]; exact h1 j g1
    · have := h.2.2.2; omega
def mMoments (w : Nat → Int) (n : Nat) (t z : Int) : Prop := (¬ (1 ≤ t ∧ t ≤ 3) ∧ z = -2) ∨ ((1 ≤ t ∧ t ≤ 3) ∧ ∃ (o : Nat → Nat) (od pt mo : Nat → Int) (c : Nat), Lay w n o od pt ∧ MomI w n o pt t n 0 0 mo c ∧ z = (c : Int))
