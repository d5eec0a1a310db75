/-! the whole class: what its calls do, in words of its state -/
abbrev RC : Type := (Nat → Nat → Int) × (Nat → Nat → Int) × Nat × ((Nat → Nat → Int) × (Nat → Nat → Int) × (Nat → Nat → Int) × (Nat → Nat → Int)) × Nat × (Nat → Int) × Int
abbrev RX : Type := ((Nat → Int) × (Nat → Int) × (Nat → Int) × (Nat → Int)) × (Int × Int × Int × Int × Int) × (Nat → Nat)
abbrev wRR (cI cJ cC cO : ClassId) (g0 n0 n1 n2 n3 n4 k0 k1 k2 k3 k4 hh hs t0 t1 m0 m1 m2 m3 m4 x0 x1 : Nat) (P : Nat → Nat → Nat) (qf : Nat → Option Nat) (C : RC) (X : RX) : va_W := [(g0, .inr (5, [.ref n0, .ref k0, .ref hh, .ref t0, .ref m0, .ref x0, .int (iI C.2.2.2.2.2.2)]))] ++ (wSt cI n0 n1 n2 n3 n4 C.1 ++ (wSt cI k0 k1 k2 k3 k4 C.2.1 ++ (wHi cI cO hh hs P qf C.2.2.1 C.2.2.2.1.1 C.2.2.2.1.2.1 C.2.2.2.1.2.2.1 C.2.2.2.1.2.2.2 ++ (wTx cC t0 t1 C.2.2.2.2.1 C.2.2.2.2.2.1 ++ (wMo cI m0 m1 m2 m3 m4 X.1.1 X.1.2.1 X.1.2.2.1 X.1.2.2.2 ++ (wCr x0 x1 X.2.1.1 X.2.1.2.1 X.2.1.2.2.1 X.2.1.2.2.2.1 X.2.1.2.2.2.2 ++ wSn cJ x1 X.2.2))))))
/-- the state r' comes, r is recorded -/
def recC (C : RC) (r' : Nat → Nat → Int) : RC := (r', C.2.1, recK C.2.2.1, (recR C.2.2.1 0 C.2.2.2.1.1 C.2.2.2.1.2.1 C.1, recR C.2.2.1 1 C.2.2.2.1.2.1 C.2.2.2.1.2.2.1 C.1, recR C.2.2.1 2 C.2.2.2.1.2.2.1 C.2.2.2.1.2.2.2 C.1, recR C.2.2.1 3 C.2.2.2.1.2.2.2 C.1 C.1), C.2.2.2.2.1, C.2.2.2.2.2.1, C.2.2.2.2.2.2)
/-- another state in the place of the one that is -/
def setC (C : RC) (r' : Nat → Nat → Int) : RC := (r', C.2)
def smX (X : RX) : Prop := ∀ j, X.2.2 j < 2 ^ 61
theorem fb_holes : ∀ (m n : Nat) (f : Nat → Nat), (∀ i, i < n → f i < m) → (∀ i j, i < j → j < n → f i ≠ f j) → n ≤ m := by
  intro m
  induction m with
  | zero =>
    intro n f h1 _
    rcases Nat.eq_zero_or_pos n with h | h
    · omega
    · exact absurd (h1 0 h) (Nat.not_lt_zero _)
  | succ m ih =>
    intro n f h1 h2
    by_cases hx : ∃ i, i < n ∧ f i = m
    · obtain ⟨a, ha, hfa⟩ := hx
      have hg := ih (n - 1) (fun i => if i < a then f i else f (i + 1)) (by
        intro i hi
        by_cases q : i < a
        · simp only [if_pos q]
          have b1 := h1 i (by omega)
          have b2 := h2 i a q ha
          omega
        · simp only [if_neg q]
          have b1 := h1 (i + 1) (by omega)
          have b2 := h2 a (i + 1) (by omega) (by omega)
          omega) (by
        intro i j hij hj
        by_cases q : i < a
        · by_cases r : j < a
          · simp only [if_pos q, if_pos r]
            exact h2 i j hij (by omega)
          · simp only [if_pos q, if_neg r]
            exact h2 i (j + 1) (by omega) (by omega)
        · have r : ¬ j < a := by omega
          simp only [if_neg q, if_neg r]
          exact h2 (i + 1) (j + 1) (by omega) (by omega))
      omega
    · have hg := ih n f (fun i hi => by
        have b1 := h1 i hi
        have b2 : f i ≠ m := fun e => hx ⟨i, hi, e⟩
        omega) h2
      omega
/-- two of them in one place -/
theorem fb_twice {m n : Nat} {f : Nat → Nat} (h : ∀ i, i < n → f i < m) (hm : m < n) : ∃ i j, i < j ∧ j < n ∧ f i = f j := by
  refine Classical.byContradiction fun hx => ?_
  have := fb_holes m n f h (fun i j hij hj e => hx ⟨i, j, hij, hj, e⟩)
  omega
/-- as many as places, none twice: each place is taken -/
theorem fb_onto {n : Nat} {f : Nat → Nat} (h : ∀ i, i < n → f i < n) (h2 : ∀ i j, i < j → j < n → f i ≠ f j) {y : Nat} (hy : y < n) : ∃ i, i < n ∧ f i = y := by
  refine Classical.byContradiction fun hx => ?_
  have hne : ∀ i, i < n → f i ≠ y := fun i hi e => hx ⟨i, hi, e⟩
  have := fb_holes (n - 1) n (fun i => if f i < y then f i else f i - 1) (by
    intro i hi
    have b1 := h i hi
    have b2 := hne i hi
    by_cases q : f i < y
    · simp only [if_pos q]; omega
    · simp only [if_neg q]; omega) (by
    intro i j hij hj
    have b1 := hne i (by omega)
    have b2 := hne j hj
    have b3 := h2 i j hij hj
    by_cases q : f i < y
    · by_cases r : f j < y
      · simp only [if_pos q, if_pos r]; exact b3
      · simp only [if_pos q, if_neg r]; omega
    · by_cases r : f j < y
      · simp only [if_neg q, if_pos r]; omega
      · simp only [if_neg q, if_neg r]; omega)
  omega

theorem fs_ex {r : Nat → Nat → Int} {n : Nat} (t : Int) {k : Nat} (hk : k < n) : ∃ q, q < n ∧ rEn n (fsE r n t) (r 3) q = fsK r n t k % (n : Int) := by
  have hb := fm_b (x := fsK r n t k) (y := (n : Int)) (by omega)
  have hlt : ∀ q, q < n → rEn n (fsE r n t) (r 3) q < (n : Int) := by
    intro q hq
    have h1 : rEn n (fsE r n t) (r 3) q < sumI (fun _ => 1) n := by
      refine sumI_lt (fun k _ => ?_) q hq ?_
      · split <;> omega
      · rw [if_neg (show ¬ befP (fsE r n t) (r 3) q q by simp only [befP]; omega)]; omega
    have h2 := sumI_bd (f := fun _ => (1 : Int)) (a := 1) (b := 1) (n := n) (fun _ _ => by omega)
    omega
  obtain ⟨q, hq, e⟩ := fb_onto (n := n) (f := fun q => if q < n then (rEn n (fsE r n t) (r 3) q).toNat else q) (fun q hq => by
      have h1 := hlt q hq
      have h2 := rEn_bd n (fsE r n t) (r 3) q
      simp only [hq, if_true]; omega) (fun i j hij hj => by
      have h1 := rEn_bd n (fsE r n t) (r 3) i
      have h2 := rEn_bd n (fsE r n t) (r 3) j
      simp only [show i < n by omega, hj, if_true]
      intro e
      have := rEn_inj (fe := fsE r n t) (sp := r 3) (show i < n by omega) hj (by omega)
      omega) (y := (fsK r n t k % (n : Int)).toNat) (by omega)
  have h2 := rEn_bd n (fsE r n t) (r 3) q
  simp only [hq, if_true] at e
  exact ⟨q, hq, by omega⟩
/-- all rods take their points -/
def fsA (r : Nat → Nat → Int) (n : Nat) (t : Int) (fw fs : Nat → Int) : Prop := ∀ k, k < n → ∀ q, q < n → fsP r n t fw fs k q
theorem fsA.bd {r : Nat → Nat → Int} {n : Nat} (hok : Ok r n) {t : Int} (ht : 0 ≤ t ∧ t ≤ 100) {fw fs : Nat → Int} (h : fsA r n t fw fs) {k : Nat} (hk : k < n) : (-90000000 ≤ fw k ∧ fw k ≤ 90000000) ∧ -9 ≤ fs k ∧ fs k ≤ 9 := by
  obtain ⟨q, hq, e⟩ := fs_ex (r := r) t hk
  obtain ⟨e1, e2⟩ := h k hk q hq e
  have h1 := hok.fr
  have h2 := hok.fe t q
  have h3 := hok.fk ht k
  have h4 : -160 ≤ fsX r n k ∧ fsX r n k ≤ 1000 := hok.fb (a := 0) (by omega) hk
  have h5 := ediv_b (x := fsK r n t k) (y := (n : Int)) (b := 25000) (by omega) (by omega) (by omega)
  have h6 : fsK r n t k / (n : Int) * freeL (r 0 0) n (r 2) ≤ 25000 * freeL (r 0 0) n (r 2) := Int.mul_le_mul_of_nonneg_right h5.2 (by omega)
  have h7 : (-25000) * freeL (r 0 0) n (r 2) ≤ fsK r n t k / (n : Int) * freeL (r 0 0) n (r 2) := Int.mul_le_mul_of_nonneg_right h5.1 (by omega)
  have h8 := hok.at hq
  rw [e1, e2]
  omega
/-- the new places -/
def npC (r : Nat → Nat → Int) (fw : Nat → Int) (k : Nat) : Int := (r 1 k + fw k) % (r 0 0)
def nwC (r : Nat → Nat → Int) (fw : Nat → Int) (k : Nat) : Int := r 4 k + fw k
theorem Ok.set {r r' : Nat → Nat → Int} {n : Nat} (h : Ok r n) (h0 : r' 0 0 = r 0 0) (h1 : r' 0 1 = r 0 1) (h2 : r' 2 = r 2) (hp : ∀ k, k < n → 0 ≤ r' 1 k ∧ r' 1 k < r 0 0) (hv : ∀ k, k < n → -9 ≤ r' 3 k ∧ r' 3 k ≤ 9) : Ok r' n := by
  refine ⟨h.1, by rw [h1]; exact h.2.1, by rw [h0]; exact h.2.2.1, by rw [h0]; exact h.2.2.2.1, fun k hk => ?_, by rw [h0, h2]; exact h.2.2.2.2.2⟩
  have a1 := h.at hk
  have a2 := hp k hk
  have a3 := hv k hk
  rw [h0, h2]
  omega
/-- r' is r when ticks have passed -/
def PassR (r : Nat → Nat → Int) (n : Nat) (t : Int) (r' : Nat → Nat → Int) : Prop := ∃ fw fs, fsA r n t fw fs ∧ (∀ k, k < n → r' 1 k = npC r fw k ∧ r' 3 k = fs k ∧ r' 4 k = nwC r fw k) ∧ r' 2 = r 2 ∧ r' 0 0 = r 0 0 ∧ r' 0 1 = r 0 1 ∧ r' 0 2 = r 0 2 + t ∧ r' 0 3 = r 0 3 + crM r n t n ∧ r' 0 4 = r 0 4 + crI r n t n
theorem PassR.ok {r r' : Nat → Nat → Int} {n : Nat} (hok : Ok r n) {t : Int} (ht : 0 ≤ t ∧ t ≤ 100) (h : PassR r n t r') : Ok r' n := by
  obtain ⟨fw, fs, hA, h1, h2, h3, h4, -⟩ := h
  have hb := hok.bd
  refine hok.set h3 h4 h2 (fun k hk => ?_) (fun k hk => ?_)
  · rw [(h1 k hk).1]; exact fm_b (by omega)
  · rw [(h1 k hk).2.1]; exact (hA.bd hok ht hk).2
/-- a state with other rows of rods -/
theorem Ok.lp {r : Nat → Nat → Int} {n : Nat} (hok : Ok r n) {t : Int} (ht : 0 ≤ t ∧ t ≤ 100) {fw fs : Nat → Int} (hA : fsA r n t fw fs) (i j : Nat) (w : Nat → Int) : Ok (rSet (r 0) (cpi (r 1) (npC r fw) i) (r 2) (cpi (r 3) fs j) w) n := by
  have hb := hok.bd
  refine hok.set rfl rfl rfl (fun k hk => ?_) (fun k hk => ?_)
  · have h1 := hok.at hk
    have h2 := fm_b (x := r 1 k + fw k) (y := r 0 0) (by omega)
    show 0 ≤ cpi (r 1) (npC r fw) i k ∧ cpi (r 1) (npC r fw) i k < r 0 0
    simp only [cpi, npC]
    split <;> omega
  · have h1 := hok.at hk
    have h2 := hA.bd hok ht hk
    show -9 ≤ cpi (r 3) fs j k ∧ cpi (r 3) fs j k ≤ 9
    simp only [cpi]
    split <;> omega
/-! orders -/
/-- the error of the first order that can't be done, from the place x on, or 0 -/
def feF (n tl : Nat) (tx : Nat → Int) : Nat → Nat → Int → Int
  | 0, _, _ => 0
  | f + 1, x, tk => if ordA tl tx x = 112 then (if 10000 < tk + tkA tl tx x then -4 else feF n tl tx f (x + 1) (tk + tkA tl tx x)) else if ordA tl tx x = 115 ∧ ¬ (0 ≤ sgn tl tx (x + 1) - 48 ∧ sgn tl tx (x + 1) - 48 < (n : Int)) then -1 else feF n tl tx f (x + 1) tk
def trC (r : Nat → Nat → Int) (n : Nat) : Nat → Nat → Int := rSet (r 0) (r 1) (r 2) (ngi (r 3) n) (r 4)
def svC (r : Nat → Nat → Int) (k : Nat) (v : Int) : Nat → Nat → Int := rSet (r 0) (r 1) (r 2) (up (r 3) k v) (r 4)
theorem trC.ok {r : Nat → Nat → Int} {n : Nat} (h : Ok r n) : Ok (trC r n) n := h.set rfl rfl rfl (fun k hk => by have := h.at hk; exact ⟨this.1, this.2.1⟩) (fun k hk => by
  have := h.at hk
  show -9 ≤ ngi (r 3) n k ∧ ngi (r 3) n k ≤ 9
  simp only [ngi]; split <;> omega)
theorem svC.ok {r : Nat → Nat → Int} {n k : Nat} {v : Int} (h : Ok r n) (hv : -9 ≤ v ∧ v ≤ 9) : Ok (svC r k v) n := h.set rfl rfl rfl (fun k hk => by have := h.at hk; exact ⟨this.1, this.2.1⟩) (fun j hj => by
  have := h.at hj
  show -9 ≤ up (r 3) k v j ∧ up (r 3) k v j ≤ 9
  simp only [up]; split <;> omega)
/-- the order at the place x is done -/
def StepR (n tl : Nat) (tx : Nat → Int) (x : Nat) (r : Nat → Nat → Int) (m : Int) (r' : Nat → Nat → Int) (m' : Int) : Prop := (ordA tl tx x = 112 ∧ PassR r n (tkA tl tx x) r' ∧ m' = m + crM r n (tkA tl tx x) n) ∨ (ordA tl tx x = 114 ∧ r' = trC r n ∧ m' = m) ∨ (ordA tl tx x = 115 ∧ (∃ k : Nat, sgn tl tx (x + 1) - 48 = (k : Int) ∧ k < n ∧ r' = svC r k (spA tl tx x)) ∧ m' = m) ∨ ((¬ (ordA tl tx x = 112 ∨ ordA tl tx x = 114 ∨ ordA tl tx x = 115) ∨ (ordA tl tx x = 115 ∧ ¬ (0 ≤ sgn tl tx (x + 1) - 48 ∧ sgn tl tx (x + 1) - 48 < (n : Int)))) ∧ r' = r ∧ m' = m)
/-- the orders that begin at places below x are done -/
def DoR (n tl : Nat) (tx : Nat → Int) (r0 : Nat → Nat → Int) : Nat → (Nat → Nat → Int) → Int → Prop
  | 0, r, m => r = r0 ∧ m = 0
  | x + 1, r, m => ∃ r1 m1, DoR n tl tx r0 x r1 m1 ∧ StepR n tl tx x r1 m1 r m
/-- numbers of the orders of a text without fault are in their ranges -/
def TxG (tl : Nat) (tx : Nat → Int) : Prop := ∀ x, x < tl → (ordA tl tx x = 112 → 1 ≤ tkA tl tx x ∧ tkA tl tx x ≤ 99) ∧ (ordA tl tx x = 115 → -9 ≤ spA tl tx x ∧ spA tl tx x ≤ 9)
theorem TOk.k {tl : Nat} {tx : Nat → Int} (h : TOk tl tx) (x : Nat) : -1000 ≤ tkA tl tx x ∧ tkA tl tx x ≤ 1000000 := by
  have h1 := h.s (x + 1)
  have h2 := h.s (x + 2)
  simp only [tkA]
  split <;> omega
