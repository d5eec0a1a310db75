/-! the reference: its cells, and its own reckoning -/
abbrev wM (cI cC : ClassId) (b0 b1 b2 b3 b4 b5 b6 b7 b8 b9 b10 b11 b12 : Nat) (w pa ad be : Nat → Int) (ns ia : Int) (tx : Nat → Int) (tl ta : Int) (od pt tu fa th ss mo : Nat → Int) : va_W := [(b0, .inr (6, [.ref b1, .ref b2, .ref b3, .ref b4, .int (iI ns), .int (iI ia), .ref b5, .int (iI tl), .int (iI ta), .ref b6, .ref b7, .ref b8, .ref b9, .ref b10, .ref b11, .ref b12])), (b1, .inl (cI, 37, .inl (fun z9 => iI (w z9)))), (b2, .inl (cI, 148, .inl (fun z9 => iI (pa z9)))), (b3, .inl (cI, 37, .inl (fun z9 => iI (ad z9)))), (b4, .inl (cI, 37, .inl (fun z9 => iI (be z9)))), (b5, .inl (cC, 60, .inl (fun z9 => iI (tx z9)))), (b6, .inl (cI, 8, .inl (fun z9 => iI (od z9)))), (b7, .inl (cI, 8, .inl (fun z9 => iI (pt z9)))), (b8, .inl (cI, 8, .inl (fun z9 => iI (tu z9)))), (b9, .inl (cI, 8, .inl (fun z9 => iI (fa z9)))), (b10, .inl (cI, 8, .inl (fun z9 => iI (th z9)))), (b11, .inl (cI, 8, .inl (fun z9 => iI (ss z9)))), (b12, .inl (cI, 1600, .inl (fun z9 => iI (mo z9))))]
def plM (w : Nat → Int) : Nat → Int := fun k => w (5 + k)
def leM (w : Nat → Int) : Nat → Int := fun k => w (13 + k)
def spM (w : Nat → Int) : Nat → Int := fun k => w (21 + k)
def frM (w : Nat → Int) (n : Nat) : Int := freeL (w 0) n (leM w)
def MOk (w : Nat → Int) (n : Nat) : Prop := n ≤ 8 ∧ w 1 = (n : Int) ∧ 20 ≤ w 0 ∧ w 0 ≤ 1000 ∧ (∀ k, k < n → 0 ≤ w (5 + k) ∧ w (5 + k) < w 0 ∧ 1 ≤ w (13 + k) ∧ w (13 + k) ≤ 20 ∧ -9 ≤ w (21 + k) ∧ w (21 + k) ≤ 9) ∧ 1 ≤ frM w n
theorem MOk.at {w : Nat → Int} {n : Nat} (h : MOk w n) {k : Nat} (hk : k < n) : 0 ≤ w (5 + k) ∧ w (5 + k) < w 0 ∧ 1 ≤ w (13 + k) ∧ w (13 + k) ≤ 20 ∧ -9 ≤ w (21 + k) ∧ w (21 + k) ≤ 9 := h.2.2.2.2.1 k hk
theorem MOk.bd {w : Nat → Int} {n : Nat} (h : MOk w n) : n ≤ 8 ∧ w 1 = (n : Int) ∧ 20 ≤ w 0 ∧ w 0 ≤ 1000 ∧ 1 ≤ frM w n := ⟨h.1, h.2.1, h.2.2.1, h.2.2.2.1, h.2.2.2.2.2⟩
theorem MOk.fr {w : Nat → Int} {n : Nat} (h : MOk w n) : 1 ≤ frM w n ∧ frM w n ≤ 1000 := by
  have h1 := h.bd
  have h2 := sumI_bd (f := leM w) (a := 0) (b := 20) (n := n) (fun k hk => by have := h.at hk; simp only [leM]; omega)
  refine ⟨h1.2.2.2.2, ?_⟩
  simp only [frM, freeL]; omega
/-- the order of places: o j is the rod of the rank j; and the points -/
def Lay (w : Nat → Int) (n : Nat) (o : Nat → Nat) (od pt : Nat → Int) : Prop := (∀ j, j < n → od j = (o j : Int) ∧ o j < n) ∧ (∀ F : Nat → Int, sumI (fun j => F (o j)) n = sumI F n) ∧ (∀ a b, a < b → b < n → w (5 + o a) ≤ w (5 + o b)) ∧ (∀ j, j < n → pt j = w (5 + o j) - sumI (fun i => w (13 + o i)) j)
theorem Lay.lt {w : Nat → Int} {n : Nat} {o : Nat → Nat} {od pt : Nat → Int} (h : Lay w n o od pt) {j : Nat} (hj : j < n) : o j < n := (h.1 j hj).2
theorem Lay.od {w : Nat → Int} {n : Nat} {o : Nat → Nat} {od pt : Nat → Int} (h : Lay w n o od pt) {j : Nat} (hj : j < n) : od j = ((o j : Nat) : Int) := (h.1 j hj).1
theorem Lay.pt {w : Nat → Int} {n : Nat} {o : Nat → Nat} {od pt : Nat → Int} (hok : MOk w n) (h : Lay w n o od pt) {j : Nat} (hj : j < n) : -160 ≤ pt j ∧ pt j ≤ 1000 := by
  have h1 := h.2.2.2 j hj
  have h2 := hok.at (h.lt hj)
  have h3 := sumI_bd (f := fun i => w (13 + o i)) (a := 0) (b := 20) (n := j) (fun k hk => by have := hok.at (h.lt (show k < n by omega)); omega)
  have h4 := hok.bd
  omega
/-- the next rank to the right, the one to the left -/
def nx (n k : Nat) : Nat := if k + 1 = n then 0 else k + 1
def pv (n k : Nat) : Nat := if k = 0 then n - 1 else k - 1
/-- how many ranks from a on to b -/
def rd (n a b : Nat) : Nat := if a ≤ b then b - a else b + n - a
theorem nx_eq {n k : Nat} (h : k < n) : (k + 1) % n = nx n k := by
  simp only [nx]
  split
  · rename_i q; rw [q, Nat.mod_self]
  · exact Nat.mod_eq_of_lt (by omega)
theorem pv_eq {n k : Nat} (h : k < n) : (k + n - 1) % n = pv n k := by
  simp only [pv]
  split
  · rename_i q; subst q; rw [show 0 + n - 1 = n - 1 by omega]; exact Nat.mod_eq_of_lt (by omega)
  · rw [show k + n - 1 = (k - 1) + n by omega, Nat.add_mod_right]
    exact Nat.mod_eq_of_lt (by omega)
theorem nx_lt {n k : Nat} (h : k < n) : nx n k < n := by simp only [nx]; split <;> omega
theorem pv_lt {n k : Nat} (h : k < n) : pv n k < n := by simp only [pv]; split <;> omega
theorem rd_nx {n a b : Nat} (ha : a < n) (hb : b < n) (hab : a ≠ b) : rd n (nx n a) b + 1 = rd n a b := by
  simp only [rd, nx]; split <;> split <;> split <;> omega
theorem rd_pv {n a b : Nat} (ha : a < n) (hb : b < n) (hab : b ≠ a) : rd n a (pv n b) + 1 = rd n a b := by
  simp only [rd, pv]; split <;> split <;> split <;> omega
theorem rd_z {n a : Nat} : rd n a a = 0 := by simp [rd]
theorem rd_lt {n a b : Nat} (ha : a < n) (hb : b < n) : rd n a b < n := by simp only [rd]; split <;> omega
/-- the gap of the rank k -/
def gpM (w : Nat → Int) (n : Nat) (o : Nat → Nat) (k : Nat) : Int := if n = 1 then frM w n else (w (5 + o (nx n k)) - w (5 + o k) - w (13 + o k)) % (w 0)
theorem MOk.gp {w : Nat → Int} {n : Nat} (h : MOk w n) (o : Nat → Nat) (k : Nat) : 0 ≤ gpM w n o k ∧ gpM w n o k ≤ 1000 := by
  have h1 := h.fr
  have h2 := h.bd
  have h3 := fm_b (x := w (5 + o (nx n k)) - w (5 + o k) - w (13 + o k)) (y := w 0) (by omega)
  simp only [gpM]; split <;> omega
/-- no gap on d ranks from k on -/
def ilB (w : Nat → Int) (n : Nat) (o : Nat → Nat) : Nat → Nat → Bool
  | 0, _ => true
  | d + 1, k => decide (gpM w n o k ≤ 0) && ilB w n o d (nx n k)
/-- how far the slower one is ahead of the faster one -/
def ahF (w : Nat → Int) (n : Nat) (o : Nat → Nat) (pt : Nat → Int) (f t : Nat) : Int := if 0 < (pt t - pt f) % frM w n ∨ ilB w n o (rd n f t) f = true then (pt t - pt f) % frM w n else frM w n
def ahM (w : Nat → Int) (n : Nat) (o : Nat → Nat) (pt : Nat → Int) (i k : Nat) : Int := if w (21 + o i) = w (21 + o k) then -5 else if w (21 + o k) < w (21 + o i) then ahF w n o pt i k else ahF w n o pt k i
def dfM (w : Nat → Int) (o : Nat → Nat) (i k : Nat) : Int := if w (21 + o i) - w (21 + o k) < 0 then - (w (21 + o i) - w (21 + o k)) else w (21 + o i) - w (21 + o k)
def tmM (w : Nat → Int) (n : Nat) (o : Nat → Nat) (pt : Nat → Int) (t : Int) (i k : Nat) : Int := if ahM w n o pt i k < 0 ∨ dfM w o i k * t < ahM w n o pt i k then 0 else 1 + (dfM w o i k * t - ahM w n o pt i k) / frM w n
theorem MOk.af {w : Nat → Int} {n : Nat} (h : MOk w n) (o : Nat → Nat) (pt : Nat → Int) (f t : Nat) : 0 ≤ ahF w n o pt f t ∧ ahF w n o pt f t ≤ 1000 := by
  have h1 := h.fr
  have h3 := fm_b (x := pt t - pt f) (y := frM w n) (by omega)
  simp only [ahF]; split <;> omega
theorem MOk.ah {w : Nat → Int} {n : Nat} (h : MOk w n) (o : Nat → Nat) (pt : Nat → Int) (i k : Nat) : -5 ≤ ahM w n o pt i k ∧ ahM w n o pt i k ≤ 1000 := by
  have h1 := h.af o pt i k
  have h2 := h.af o pt k i
  simp only [ahM]
  (repeat' split) <;> omega
theorem MOk.df {w : Nat → Int} {n : Nat} (h : MOk w n) {o : Nat → Nat} {i k : Nat} (hi : o i < n) (hk : o k < n) : 0 ≤ dfM w o i k ∧ dfM w o i k ≤ 18 := by
  have h1 := h.at hi
  have h2 := h.at hk
  simp only [dfM]; split <;> omega
theorem MOk.tm {w : Nat → Int} {n : Nat} (h : MOk w n) {o : Nat → Nat} (pt : Nat → Int) {i k : Nat} (hi : o i < n) (hk : o k < n) {t : Int} (ht : 0 ≤ t ∧ t ≤ 100) : 0 ≤ tmM w n o pt t i k ∧ tmM w n o pt t i k ≤ 4000 := by
  have h1 := h.fr
  have h2 := h.ah o pt i k
  have h3 := h.df hi hk
  have h4 := mul_b (a := dfM w o i k) (b := t) (by omega) ht
  simp only [tmM]
  split
  · omega
  · have h5 := ediv_b (x := dfM w o i k * t - ahM w n o pt i k) (y := frM w n) (b := 3000) h1.1 (by omega) (by omega)
    have h6 := Int.ediv_nonneg (a := dfM w o i k * t - ahM w n o pt i k) (b := frM w n) (by omega) (by omega)
    omega
def meM (w : Nat → Int) (n : Nat) (o : Nat → Nat) (pt : Nat → Int) (t : Int) (b : Bool) (k : Nat) : Int := sumI (fun k => sumI (fun i => tmM w n o pt t i k * (if b then dfM w o i k else 1)) k) k
/-! rows that are written -/
def ngm (w : Nat → Int) (i : Nat) : Nat → Int := fun x => if 21 ≤ x ∧ x < 21 + i then - w x else w x
theorem ngm_0 (w : Nat → Int) : ngm w 0 = w := by funext x; simp only [ngm]; rw [if_neg (by omega)]
theorem ngm_s (w : Nat → Int) (i : Nat) : up (ngm w i) (21 + i) (- (ngm w i (21 + i))) = ngm w (i + 1) := by
  funext x
  simp only [ngm, up]
  by_cases q : x = 21 + i
  · subst q; rw [if_pos rfl, if_neg (by omega), if_pos (by omega)]
  · rw [if_neg q]
    by_cases q2 : 21 ≤ x ∧ x < 21 + i
    · rw [if_pos q2, if_pos (by omega)]
    · rw [if_neg q2, if_neg (by omega)]
/-- i numbers of g at the place a of f -/
def cpo (f g : Nat → Int) (a i : Nat) : Nat → Int := fun x => if a ≤ x ∧ x < a + i then g (x - a) else f x
theorem cpo_0 (f g : Nat → Int) (a : Nat) : cpo f g a 0 = f := by funext x; simp only [cpo]; rw [if_neg (by omega)]
theorem cpo_s (f g : Nat → Int) (a i : Nat) : up (cpo f g a i) (a + i) (g i) = cpo f g a (i + 1) := by
  funext x
  simp only [cpo, up]
  by_cases q : x = a + i
  · subst q; rw [if_pos rfl, if_pos (by omega), show a + i - a = i by omega]
  · rw [if_neg q]
    by_cases q2 : a ≤ x ∧ x < a + i
    · rw [if_pos q2, if_pos (by omega)]
    · rw [if_neg q2, if_neg (by omega)]
/-- the past, the oldest state left out, as far as i numbers -/
def shl (f : Nat → Int) (i : Nat) : Nat → Int := fun x => if x < i then f (37 + x) else f x
theorem shl_0 (f : Nat → Int) : shl f 0 = f := by funext x; simp [shl]
theorem shl_s (f : Nat → Int) (i : Nat) : up (shl f i) i (f (37 + i)) = shl f (i + 1) := by
  funext x
  simp only [shl, up]
  by_cases q : x = i
  · subst q; rw [if_pos rfl, if_pos (by omega)]
  · rw [if_neg q]
    by_cases q2 : x < i
    · rw [if_pos q2, if_pos (by omega)]
    · rw [if_neg q2, if_neg (by omega)]
theorem shl_at (f : Nat → Int) (i : Nat) : shl f i (37 + i) = f (37 + i) := by simp only [shl]; rw [if_neg (by omega)]
/-- the past when b is recorded -/
def rcM (pa be : Nat → Int) (ns : Int) : Nat → Int := if ns = 4 then cpo (shl pa 111) be 111 37 else cpo pa be (37 * ns.toNat) 37
def rnM (ns : Int) : Int := if ns = 4 then 4 else ns + 1
theorem ngm_1 (w : Nat → Int) (i : Nat) : ngm w i 1 = w 1 := by simp only [ngm]; rw [if_neg (by omega)]
theorem mvM_bd {w : Nat → Int} {n : Nat} (h : MOk w n) : 0 ≤ sumI (fun k => if w (21 + k) = 0 then 0 else 1) n ∧ sumI (fun k => if w (21 + k) = 0 then 0 else 1) n ≤ 8 := by
  have h1 := sumI_bd (f := fun k => if w (21 + k) = 0 then (0 : Int) else 1) (a := 0) (b := 1) (n := n) (fun k _ => by split <;> omega)
  have := h.bd
  omega
theorem il_of {z : Int} {b : Bool} (h : z = if b = true then 1 else 0) : (¬ z = 0 → b = true) ∧ (z = 0 → ¬ b = true) := by
  subst h
  constructor
  · intro h; split at h
    · assumption
    · exact absurd rfl h
  · intro h; split at h
    · omega
    · assumption
