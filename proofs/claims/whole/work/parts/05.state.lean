/-! what a state of the ring is: a row of scalars (ring length, rods, ticks, meetings, impulses) and four rows of the rods (place, length, speed, way) -/
abbrev tyG (cI cJ cC cO : ClassId) : List (ClassId × FieldType) := [(cI, .int), (cJ, .long), (cC, .char), (cO, .object "RingRods$State")]
abbrev wSt (cI : ClassId) (h a1 a2 a3 a4 : Nat) (r : Nat → Nat → Int) : va_W := [(h, .inr (3, [.int (iI (r 0 0)), .int (iI (r 0 1)), .int (iI (r 0 2)), .int (iI (r 0 3)), .int (iI (r 0 4)), .ref a1, .ref a2, .ref a3, .ref a4])), (a1, .inl (cI, 8, .inl (fun k => iI (r 1 k)))), (a2, .inl (cI, 8, .inl (fun k => iI (r 2 k)))), (a3, .inl (cI, 8, .inl (fun k => iI (r 3 k)))), (a4, .inl (cI, 8, .inl (fun k => iI (r 4 k))))]
/-- a sum over the numbers below n -/
def sumI (f : Nat → Int) : Nat → Int
  | 0 => 0
  | n + 1 => sumI f n + f n
theorem sumI_0 (f : Nat → Int) : sumI f 0 = 0 := rfl
theorem sumI_s (f : Nat → Int) (n : Nat) : sumI f (n + 1) = sumI f n + f n := rfl
theorem sumI_bd {f : Nat → Int} {a b : Int} : ∀ {n : Nat}, (∀ k, k < n → a ≤ f k ∧ f k ≤ b) → (n : Int) * a ≤ sumI f n ∧ sumI f n ≤ (n : Int) * b
  | 0, _ => by simp [sumI]
  | n + 1, h => by
    have h1 := sumI_bd (n := n) (fun k hk => h k (by omega))
    have h2 := h n (by omega)
    rw [sumI_s]
    constructor
    · have : ((n + 1 : Nat) : Int) * a = (n : Int) * a + a := by rw [Int.natCast_add, Int.add_mul]; simp
      omega
    · have : ((n + 1 : Nat) : Int) * b = (n : Int) * b + b := by rw [Int.natCast_add, Int.add_mul]; simp
      omega
theorem sumI_cong {f g : Nat → Int} : ∀ {n : Nat}, (∀ k, k < n → f k = g k) → sumI f n = sumI g n
  | 0, _ => rfl
  | n + 1, h => by rw [sumI_s, sumI_s, sumI_cong (fun k hk => h k (by omega)), h n (by omega)]
/-- the free length -/
def freeL (L : Int) (n : Nat) (le : Nat → Int) : Int := L - sumI le n
/-- how far the left end of b lies to the right of that of a -/
def dist (L : Int) (pl : Nat → Int) (a b : Nat) : Int := if pl b - pl a < 0 then pl b - pl a + L else pl b - pl a
/-- how many rods there are from a on, before b -/
def rbtw (L : Int) (n : Nat) (pl : Nat → Int) (a b : Nat) : Int := sumI (fun k => if dist L pl a k < dist L pl a b then 1 else 0) n
/-- how many free pieces lie from a on, before b -/
def fbtw (L : Int) (n : Nat) (pl le : Nat → Int) (a b : Nat) : Int := dist L pl a b - sumI (fun k => if dist L pl a k < dist L pl a b then le k else 0) n
/-- what holds of the state that a ring with n rods is in -/
def Ok (r : Nat → Nat → Int) (n : Nat) : Prop := n ≤ 8 ∧ r 0 1 = (n : Int) ∧ 20 ≤ r 0 0 ∧ r 0 0 ≤ 1000 ∧ (∀ k, k < n → 0 ≤ r 1 k ∧ r 1 k < r 0 0 ∧ 1 ≤ r 2 k ∧ r 2 k ≤ 20 ∧ -9 ≤ r 3 k ∧ r 3 k ≤ 9) ∧ 1 ≤ freeL (r 0 0) n (r 2)
theorem Ok.at {r : Nat → Nat → Int} {n : Nat} (h : Ok r n) {k : Nat} (hk : k < n) : 0 ≤ r 1 k ∧ r 1 k < r 0 0 ∧ 1 ≤ r 2 k ∧ r 2 k ≤ 20 ∧ -9 ≤ r 3 k ∧ r 3 k ≤ 9 := h.2.2.2.2.1 k hk
theorem Ok.bd {r : Nat → Nat → Int} {n : Nat} (h : Ok r n) : n ≤ 8 ∧ r 0 1 = (n : Int) ∧ 20 ≤ r 0 0 ∧ r 0 0 ≤ 1000 ∧ 1 ≤ freeL (r 0 0) n (r 2) := ⟨h.1, h.2.1, h.2.2.1, h.2.2.2.1, h.2.2.2.2.2⟩
theorem Ok.dst {r : Nat → Nat → Int} {n : Nat} (h : Ok r n) {a b : Nat} (ha : a < n) (hb : b < n) : 0 ≤ dist (r 0 0) (r 1) a b ∧ dist (r 0 0) (r 1) a b < r 0 0 := by
  have h1 := h.at ha
  have h2 := h.at hb
  simp only [dist]
  split <;> omega
theorem Ok.sumle {r : Nat → Nat → Int} {n : Nat} (h : Ok r n) {p : Nat → Prop} [DecidablePred p] : ∀ {i : Nat}, i ≤ n → 0 ≤ sumI (fun k => if p k then r 2 k else 0) i ∧ sumI (fun k => if p k then r 2 k else 0) i ≤ 20 * (i : Int)
  | 0, _ => by simp [sumI]
  | i + 1, hi => by
    have h1 := Ok.sumle h (p := p) (i := i) (by omega)
    have h2 := h.at (k := i) (by omega)
    rw [sumI_s]
    by_cases q : p i
    · simp only [q, if_true]; omega
    · simp only [q, if_false]; omega
theorem Ok.sum1 {p : Nat → Prop} [DecidablePred p] : ∀ {i : Nat}, 0 ≤ sumI (fun k => if p k then 1 else 0) i ∧ sumI (fun k => if p k then 1 else 0) i ≤ (i : Int)
  | 0 => by simp [sumI]
  | i + 1 => by
    have h1 := Ok.sum1 (p := p) (i := i)
    rw [sumI_s]
    by_cases q : p i
    · simp only [q, if_true]; omega
    · simp only [q, if_false]; omega
theorem Ok.fb {r : Nat → Nat → Int} {n : Nat} (h : Ok r n) {a b : Nat} (ha : a < n) (hb : b < n) : -160 ≤ fbtw (r 0 0) n (r 1) (r 2) a b ∧ fbtw (r 0 0) n (r 1) (r 2) a b ≤ 1000 := by
  have h1 := h.dst ha hb
  have h2 := h.sumle (p := fun k => dist (r 0 0) (r 1) a k < dist (r 0 0) (r 1) a b) (i := n) (Nat.le_refl n)
  have h3 := h.bd
  simp only [fbtw]
  omega
theorem Ok.rb {r : Nat → Nat → Int} {n : Nat} (h : Ok r n) (a b : Nat) : 0 ≤ rbtw (r 0 0) n (r 1) a b ∧ rbtw (r 0 0) n (r 1) a b ≤ 8 := by
  have h2 := Ok.sum1 (p := fun k => dist (r 0 0) (r 1) a k < dist (r 0 0) (r 1) a b) (i := n)
  have h3 := h.bd
  simp only [rbtw]
  omega
theorem Ok.fr {r : Nat → Nat → Int} {n : Nat} (h : Ok r n) : 1 ≤ freeL (r 0 0) n (r 2) ∧ freeL (r 0 0) n (r 2) ≤ 1000 := by
  have h3 := h.bd
  have h2 := sumI_bd (f := r 2) (a := 0) (b := 20) (n := n) (fun k hk => by have := h.at hk; omega)
  refine ⟨h3.2.2.2.2, ?_⟩
  simp only [freeL]
  omega
/-- the least of the free length and the ways to the rods below i -/
def gapC (L : Int) (n : Nat) (pl le : Nat → Int) (f : Nat) : Nat → Int
  | 0 => freeL L n le
  | i + 1 => if i = f then gapC L n pl le f i else min (gapC L n pl le f i) (fbtw L n pl le f i)
/-- the nearest rod to the right among those below i, and how far -/
def nrC (L : Int) (pl : Nat → Int) (f : Nat) : Nat → Nat × Int
  | 0 => (f, L)
  | i + 1 => if ¬ i = f ∧ dist L pl f i < (nrC L pl f i).2 then (i, dist L pl f i) else nrC L pl f i
/-- how many rods below i are of a cluster with f -/
def csC (L : Int) (n : Nat) (pl le : Nat → Int) (f : Nat) (i : Nat) : Int := sumI (fun k => if fbtw L n pl le k f = 0 ∨ fbtw L n pl le f k = 0 then 1 else 0) i
/-- the farthest rod to the left without a gap among those below i -/
def lmC (L : Int) (n : Nat) (pl le : Nat → Int) (f : Nat) : Nat → Nat × Int
  | 0 => (f, 0)
  | i + 1 => if fbtw L n pl le i f = 0 ∧ (lmC L n pl le f i).2 < dist L pl i f then (i, dist L pl i f) else lmC L n pl le f i
def ggC (L : Int) (n : Nat) (pl le : Nat → Int) : Nat → Int
  | 0 => 0
  | i + 1 => max (ggC L n pl le i) (gapC L n pl le i n)
theorem Ok.gp {r : Nat → Nat → Int} {n : Nat} (h : Ok r n) {a : Nat} (ha : a < n) : ∀ {i : Nat}, i ≤ n → -160 ≤ gapC (r 0 0) n (r 1) (r 2) a i ∧ gapC (r 0 0) n (r 1) (r 2) a i ≤ 1000
  | 0, _ => by have := h.fr; simp only [gapC]; omega
  | i + 1, hi => by
    have h1 := Ok.gp h ha (i := i) (by omega)
    have h2 := h.fb ha (b := i) (by omega)
    rw [gapC]
    split <;> omega
theorem Ok.nr {r : Nat → Nat → Int} {n : Nat} (h : Ok r n) {a : Nat} (ha : a < n) : ∀ {i : Nat}, i ≤ n → 0 ≤ (nrC (r 0 0) (r 1) a i).2 ∧ (nrC (r 0 0) (r 1) a i).2 ≤ 1000
  | 0, _ => by have := h.bd; simp only [nrC]; omega
  | i + 1, hi => by
    have h1 := Ok.nr h ha (i := i) (by omega)
    have h2 := h.dst ha (b := i) (by omega)
    have h3 := h.bd
    rw [nrC]
    split
    · simp only []; omega
    · exact h1
theorem Ok.lm {r : Nat → Nat → Int} {n : Nat} (h : Ok r n) {a : Nat} (ha : a < n) : ∀ {i : Nat}, i ≤ n → 0 ≤ (lmC (r 0 0) n (r 1) (r 2) a i).2 ∧ (lmC (r 0 0) n (r 1) (r 2) a i).2 ≤ 1000
  | 0, _ => by simp [lmC]
  | i + 1, hi => by
    have h1 := Ok.lm h ha (i := i) (by omega)
    have h2 := h.dst (a := i) (by omega) ha
    have h3 := h.bd
    rw [lmC]
    split
    · simp only []; omega
    · exact h1
theorem Ok.gg {r : Nat → Nat → Int} {n : Nat} (h : Ok r n) : ∀ {i : Nat}, i ≤ n → 0 ≤ ggC (r 0 0) n (r 1) (r 2) i ∧ ggC (r 0 0) n (r 1) (r 2) i ≤ 1000
  | 0, _ => by simp [ggC]
  | i + 1, hi => by
    have h1 := Ok.gg h (i := i) (by omega)
    have h2 := h.gp (a := i) (by omega) (i := n) (Nat.le_refl n)
    rw [ggC]
    omega
/-- z tells which rod covers the piece x, or -5 -/
def Cov (L : Int) (n : Nat) (pl le : Nat → Int) (x z : Int) : Prop := (∃ k : Nat, k < n ∧ z = (k : Int) ∧ (x - pl k) % L < le k ∧ ∀ j, j < k → ¬ (x - pl j) % L < le j) ∨ (z = -5 ∧ ∀ j, j < n → ¬ (x - pl j) % L < le j)
theorem Cov.bd {L : Int} {n : Nat} {pl le : Nat → Int} {x z : Int} (h : Cov L n pl le x z) : -5 ≤ z ∧ (z = -5 ∨ 0 ≤ z) ∧ z ≤ (n : Int) := by
  rcases h with ⟨k, h1, h2, -⟩ | ⟨h1, -⟩ <;> omega
theorem Cov.no {L : Int} {n : Nat} {pl le : Nat → Int} {x z : Int} (h : Cov L n pl le x z) (hz : z < 0) : ∀ j, j < n → ¬ (x - pl j) % L < le j := by
  rcases h with ⟨k, h1, h2, -⟩ | ⟨-, h2⟩
  · omega
  · exact h2
theorem Cov.yes {L : Int} {n : Nat} {pl le : Nat → Int} {x z : Int} (h : Cov L n pl le x z) (hz : 0 ≤ z) : ∃ k, k < n ∧ (x - pl k) % L < le k := by
  rcases h with ⟨k, h1, -, h2, -⟩ | ⟨h1, -⟩
  · exact ⟨k, h1, h2⟩
  · omega
theorem Cov.one {L : Int} {n : Nat} {pl le : Nat → Int} {x z z' : Int} (h : Cov L n pl le x z) (h' : Cov L n pl le x z') : z = z' := by
  rcases h with ⟨k, h1, h2, h3, h4⟩ | ⟨h1, h2⟩ <;> rcases h' with ⟨k', g1, g2, g3, g4⟩ | ⟨g1, g2⟩
  · rcases Nat.lt_trichotomy k k' with q | q | q
    · exact absurd h3 (g4 k q)
    · subst q; omega
    · exact absurd g3 (h4 k' q)
  · exact absurd h3 (g2 k h1)
  · exact absurd g3 (h2 k' g1)
  · omega
/-- there is room for a rod of the length w at the place x -/
def Rmm (L : Int) (n : Nat) (pl le : Nat → Int) (x w : Int) : Prop := w < freeL L n le ∧ ∀ j : Nat, (j : Int) < w → ∀ k, k < n → ¬ ((x + (j : Int)) % L - pl k) % L < le k
/-- rows that move up by one place from g on, below i -/
def shi (f : Nat → Int) (g i : Nat) : Nat → Int := fun k => if g ≤ k ∧ k < i then f (k + 1) else f k
theorem shi_0 (f : Nat → Int) (g : Nat) : shi f g g = f := by
  funext k; simp only [shi]; rw [if_neg (by omega)]
theorem shi_s {f : Nat → Int} {g i : Nat} (h : g ≤ i) : up (shi f g i) i (shi f g i (i + 1)) = shi f g (i + 1) := by
  funext k
  simp only [shi, up]
  by_cases q : k = i
  · subst q; rw [if_pos rfl, if_neg (by omega), if_pos (by omega)]
  · rw [if_neg q]
    by_cases q2 : g ≤ k ∧ k < i
    · rw [if_pos q2, if_pos (by omega)]
    · rw [if_neg q2, if_neg (by omega)]
def ngi (f : Nat → Int) (i : Nat) : Nat → Int := fun k => if k < i then - f k else f k
theorem ngi_0 (f : Nat → Int) : ngi f 0 = f := by funext k; simp [ngi]
theorem ngi_s (f : Nat → Int) (i : Nat) : up (ngi f i) i (- (ngi f i i)) = ngi f (i + 1) := by
  funext k
  simp only [ngi, up]
  by_cases q : k = i
  · subst q; rw [if_pos rfl, if_neg (by omega), if_pos (by omega)]
  · rw [if_neg q]
    by_cases q2 : k < i
    · rw [if_pos q2, if_pos (by omega)]
    · rw [if_neg q2, if_neg (by omega)]
def cpi (f g : Nat → Int) (i : Nat) : Nat → Int := fun k => if k < i then g k else f k
theorem cpi_0 (f g : Nat → Int) : cpi f g 0 = f := by funext k; simp [cpi]
theorem cpi_s (f g : Nat → Int) (i : Nat) : up (cpi f g i) i (g i) = cpi f g (i + 1) := by
  funext k
  simp only [cpi, up]
  by_cases q : k = i
  · subst q; rw [if_pos rfl, if_pos (by omega)]
  · rw [if_neg q]
    by_cases q2 : k < i
    · rw [if_pos q2, if_pos (by omega)]
    · rw [if_neg q2, if_neg (by omega)]
/-- a state out of its rows -/
def rSet (s p l v w : Nat → Int) : Nat → Nat → Int := fun b => match b with
  | 0 => s
  | 1 => p
  | 2 => l
  | 3 => v
  | _ => w
theorem st_copied {D : va_G} {cl : List vw_C} {cI : ClassId} {h a1 a2 a3 a4 g b1 b2 b3 b4 : Nat} {r q : Nat → Nat → Int} {H : Heap} (hP : va_P D cl [(h, .inr (3, [.int (iI (q 0 0)), .int (iI (q 0 1)), .int (iI (q 0 2)), .int (iI (q 0 3)), .int (iI (q 0 4)), .ref a1, .ref a2, .ref a3, .ref a4])), (a1, .inl (cI, 8, .inl (fun k => iI (cpi (r 1) (q 1) 8 k)))), (a2, .inl (cI, 8, .inl (fun k => iI (cpi (r 2) (q 2) 8 k)))), (a3, .inl (cI, 8, .inl (fun k => iI (cpi (r 3) (q 3) 8 k)))), (a4, .inl (cI, 8, .inl (fun k => iI (cpi (r 4) (q 4) 8 k)))), (g, .inr (3, [.int (iI (q 0 0)), .int (iI (q 0 1)), .int (iI (q 0 2)), .int (iI (q 0 3)), .int (iI (q 0 4)), .ref b1, .ref b2, .ref b3, .ref b4])), (b1, .inl (cI, 8, .inl (fun k => iI (q 1 k)))), (b2, .inl (cI, 8, .inl (fun k => iI (q 2 k)))), (b3, .inl (cI, 8, .inl (fun k => iI (q 3 k)))), (b4, .inl (cI, 8, .inl (fun k => iI (q 4 k))))] H) : va_P D cl (wSt cI h a1 a2 a3 a4 q ++ wSt cI g b1 b2 b3 b4 q) H := by
  intro k x hx
  match k, hx with
  | 0, hx => exact hP 0 x hx
  | 1, hx => cases hx; exact arrI_congr (fun j hj => by simp [cpi, hj]) (hP 1 _ rfl)
  | 2, hx => cases hx; exact arrI_congr (fun j hj => by simp [cpi, hj]) (hP 2 _ rfl)
  | 3, hx => cases hx; exact arrI_congr (fun j hj => by simp [cpi, hj]) (hP 3 _ rfl)
  | 4, hx => cases hx; exact arrI_congr (fun j hj => by simp [cpi, hj]) (hP 4 _ rfl)
  | 5, hx => exact hP 5 x hx
  | 6, hx => exact hP 6 x hx
  | 7, hx => exact hP 7 x hx
  | 8, hx => exact hP 8 x hx
  | 9, hx => exact hP 9 x hx
  | k + 10, hx => simp [wSt] at hx
