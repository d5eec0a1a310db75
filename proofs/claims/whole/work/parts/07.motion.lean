/-! where rods go: the class's own reckoning -/
abbrev wMo (cI : ClassId) (m0 m1 m2 m3 m4 : Nat) (fw fs ft fe : Nat → Int) : va_W := [(m0, .inr (2, [.ref m1, .ref m2, .ref m3, .ref m4])), (m1, .inl (cI, 8, .inl (fun k => iI (fw k)))), (m2, .inl (cI, 8, .inl (fun k => iI (fs k)))), (m3, .inl (cI, 8, .inl (fun k => iI (ft k)))), (m4, .inl (cI, 8, .inl (fun k => iI (fe k))))]
/-- the point a comes ahead of the point b -/
abbrev befP (fe sp : Nat → Int) (a b : Nat) : Prop := fe a < fe b ∨ (fe a = fe b ∧ (sp a < sp b ∨ (sp a = sp b ∧ a < b)))
def rEn (n : Nat) (fe sp : Nat → Int) (q : Nat) : Int := sumI (fun k => if befP fe sp k q then 1 else 0) n
theorem sumI_le {f g : Nat → Int} : ∀ {n : Nat}, (∀ k, k < n → f k ≤ g k) → sumI f n ≤ sumI g n
  | 0, _ => Int.le_refl _
  | n + 1, h => by
    have h1 := sumI_le (n := n) (fun k hk => h k (by omega))
    have h2 := h n (by omega)
    rw [sumI_s, sumI_s]; omega
theorem sumI_lt {f g : Nat → Int} : ∀ {n : Nat}, (∀ k, k < n → f k ≤ g k) → ∀ i, i < n → f i < g i → sumI f n < sumI g n
  | 0, _, i, hi, _ => absurd hi (Nat.not_lt_zero i)
  | n + 1, h, i, hi, hl => by
    rw [sumI_s, sumI_s]
    have h2 := h n (by omega)
    rcases Nat.lt_succ_iff_lt_or_eq.mp hi with q | q
    · have h1 := sumI_lt (n := n) (fun k hk => h k (by omega)) i q hl
      omega
    · subst q
      have h1 := sumI_le (n := i) (fun k hk => h k (by omega))
      omega
theorem rEn_lt {n : Nat} {fe sp : Nat → Int} {a b : Nat} (ha : a < n) (h : befP fe sp a b) : rEn n fe sp a < rEn n fe sp b := by
  refine sumI_lt (fun k _ => ?_) a ha ?_
  · by_cases q : befP fe sp k a
    · rw [if_pos q, if_pos (show befP fe sp k b by simp only [befP] at *; omega)]; omega
    · rw [if_neg q]; split <;> omega
  · rw [if_neg (show ¬ befP fe sp a a by simp only [befP]; omega), if_pos h]; omega
theorem rEn_inj {n : Nat} {fe sp : Nat → Int} {a b : Nat} (ha : a < n) (hb : b < n) (h : rEn n fe sp a = rEn n fe sp b) : a = b := by
  rcases Nat.lt_trichotomy a b with q | q | q
  · exfalso
    by_cases c : befP fe sp a b
    · have := rEn_lt ha c; omega
    · have c2 : befP fe sp b a := by simp only [befP] at *; omega
      have := rEn_lt hb c2; omega
  · exact q
  · exfalso
    by_cases c : befP fe sp b a
    · have := rEn_lt hb c; omega
    · have c2 : befP fe sp a b := by simp only [befP] at *; omega
      have := rEn_lt ha c2; omega
theorem rEn_bd (n : Nat) (fe sp : Nat → Int) (a : Nat) : 0 ≤ rEn n fe sp a ∧ rEn n fe sp a ≤ (n : Int) := Ok.sum1 (p := fun k => befP fe sp k a) (i := n)
theorem rEn_cong {n : Nat} {fe ge sp : Nat → Int} (h : ∀ k, k < n → fe k = ge k) {q : Nat} (hq : q < n) : rEn n fe sp q = rEn n ge sp q := by
  refine sumI_cong (fun k hk => ?_)
  simp only [befP]
  rw [h k hk, h q hq]
/-- the point of a rod, how often points go over the seam, and where they end -/
def fsX (r : Nat → Nat → Int) (n : Nat) (k : Nat) : Int := fbtw (r 0 0) n (r 1) (r 2) 0 k
def fsF (r : Nat → Nat → Int) (n : Nat) (t : Int) (k : Nat) : Int := fsX r n k + r 3 k * t
def fsT (r : Nat → Nat → Int) (n : Nat) (t : Int) (i : Nat) : Int := sumI (fun k => fsF r n t k / freeL (r 0 0) n (r 2)) i
def fsE (r : Nat → Nat → Int) (n : Nat) (t : Int) (k : Nat) : Int := fsF r n t k % freeL (r 0 0) n (r 2)
def fsK (r : Nat → Nat → Int) (n : Nat) (t : Int) (k : Nat) : Int := rbtw (r 0 0) n (r 1) 0 k + fsT r n t n
theorem Ok.ff {r : Nat → Nat → Int} {n : Nat} (h : Ok r n) {t : Int} (ht : 0 ≤ t ∧ t ≤ 100) {k : Nat} (hk : k < n) : -3000 ≤ fsF r n t k ∧ fsF r n t k ≤ 3000 := by
  have h1 := h.fb (a := 0) (b := k) (by omega) hk
  have h2 := h.at hk
  have h3 := mul_b (a := r 3 k) (b := t) (by omega) ht
  simp only [fsF, fsX]
  omega
theorem Ok.ft {r : Nat → Nat → Int} {n : Nat} (h : Ok r n) {t : Int} (ht : 0 ≤ t ∧ t ≤ 100) {i : Nat} (hi : i ≤ n) : -24000 ≤ fsT r n t i ∧ fsT r n t i ≤ 24000 := by
  have h0 := h.bd
  have h1 := sumI_bd (f := fun k => fsF r n t k / freeL (r 0 0) n (r 2)) (a := -3000) (b := 3000) (n := i) (fun k hk => by
    have h2 := h.ff ht (k := k) (by omega)
    have h3 := h.fr
    exact ediv_b (b := 3000) h3.1 (by omega) h2)
  simp only [fsT]
  omega
theorem Ok.fe {r : Nat → Nat → Int} {n : Nat} (h : Ok r n) (t : Int) (k : Nat) : 0 ≤ fsE r n t k ∧ fsE r n t k < freeL (r 0 0) n (r 2) := by
  have h3 := h.fr
  exact fm_b (by omega)
theorem Ok.fk {r : Nat → Nat → Int} {n : Nat} (h : Ok r n) {t : Int} (ht : 0 ≤ t ∧ t ≤ 100) (k : Nat) : -24010 ≤ fsK r n t k ∧ fsK r n t k ≤ 24010 := by
  have h1 := h.ft ht (Nat.le_refl n)
  have h2 := h.rb 0 k
  simp only [fsK]
  omega
/-- rod k takes the point q -/
def fsP (r : Nat → Nat → Int) (n : Nat) (t : Int) (fw fs : Nat → Int) (k q : Nat) : Prop := rEn n (fsE r n t) (r 3) q = fsK r n t k % (n : Int) → fw k = fsE r n t q + fsK r n t k / (n : Int) * freeL (r 0 0) n (r 2) - fsX r n k ∧ fs k = r 3 q
theorem fsP.keep {r : Nat → Nat → Int} {n : Nat} {t : Int} {fw fs : Nat → Int} {k q i : Nat} {x y : Int} (h : fsP r n t fw fs k q) (hk : k ≠ i) : fsP r n t (up fw i x) (up fs i y) k q := by
  intro e
  rw [up_n hk, up_n hk]
  exact h e
theorem cpi_in {f g : Nat → Int} {i k : Nat} (h : k < i) : cpi f g i k = g k := by simp [cpi, h]
