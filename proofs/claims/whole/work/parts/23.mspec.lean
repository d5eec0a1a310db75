/-! the reference's calls: z the answer, C its state before, D behind -/
abbrev MC : Type := (Nat → Int) × (Nat → Int) × (Nat → Int) × Int × Int × (Nat → Int) × Nat
abbrev MX : Type := ((Nat → Int) × Int) × (Nat → Int) × (Nat → Int) × (Nat → Int) × (Nat → Int) × (Nat → Int) × (Nat → Int) × (Nat → Int)
abbrev wMU (cI cC : ClassId) (b0 b1 b2 b3 b4 b5 b6 b7 b8 b9 b10 b11 b12 : Nat) (C : MC) (X : MX) : va_W := wM cI cC b0 b1 b2 b3 b4 b5 b6 b7 b8 b9 b10 b11 b12 C.1 C.2.1 C.2.2.1 X.1.1 C.2.2.2.1 C.2.2.2.2.1 C.2.2.2.2.2.1 ((C.2.2.2.2.2.2 : Nat) : Int) X.1.2 X.2.1 X.2.2.1 X.2.2.2.1 X.2.2.2.2.1 X.2.2.2.2.2.1 X.2.2.2.2.2.2.1 X.2.2.2.2.2.2.2
/-- w' comes, the row that is is recorded -/
def mrc (C : MC) (w' : Nat → Int) : MC := (w', rcM C.2.1 C.1 C.2.2.2.1, C.2.2.1, rnM C.2.2.2.1, C.2.2.2.2)
theorem rcM_cpi (pa be w : Nat → Int) (ns : Int) : rcM pa (cpi be w 37) ns = rcM pa w ns := by
  have e : ∀ (f : Nat → Int) (a : Nat), cpo f (cpi be w 37) a 37 = cpo f w a 37 := by
    intro f a
    funext x
    simp only [cpo]
    by_cases q : a ≤ x ∧ x < a + 37
    · rw [if_pos q, if_pos q, cpi_in (by omega)]
    · rw [if_neg q, if_neg q]
  simp only [rcM, e]
def mSetRing (w : Nat → Int) (n : Nat) (x z : Int) (C D : MC) : Prop := (¬ (20 ≤ x ∧ x ≤ 1000) ∧ z = -2 ∧ D = C) ∨ ((20 ≤ x ∧ x ≤ 1000) ∧ 0 < n ∧ z = -4 ∧ D = C) ∨ ((20 ≤ x ∧ x ≤ 1000) ∧ n = 0 ∧ x = w 0 ∧ z = -5 ∧ D = C) ∨ ((20 ≤ x ∧ x ≤ 1000) ∧ n = 0 ∧ ¬ x = w 0 ∧ z = w 0 ∧ D = mrc C (up w 0 x))
def appM (w : Nat → Int) (n : Nat) (x l v : Int) : Nat → Int := up (up (up (up (up w (5 + n) x) (13 + n) l) (21 + n) v) (29 + n) 0) 1 ((n : Int) + 1)
def mAddRod (w : Nat → Int) (n : Nat) (x l v z : Int) (C D : MC) : Prop := (¬ (0 ≤ x ∧ x < w 0) ∧ z = -1 ∧ D = C) ∨ ((0 ≤ x ∧ x < w 0) ∧ ¬ ((1 ≤ l ∧ l ≤ 20) ∧ -9 ≤ v ∧ v ≤ 9) ∧ z = -2 ∧ D = C) ∨ ((0 ≤ x ∧ x < w 0) ∧ ((1 ≤ l ∧ l ≤ 20) ∧ -9 ≤ v ∧ v ≤ 9) ∧ n = 8 ∧ z = -3 ∧ D = C) ∨ ((0 ≤ x ∧ x < w 0) ∧ ((1 ≤ l ∧ l ≤ 20) ∧ -9 ≤ v ∧ v ≤ 9) ∧ n < 8 ∧ ¬ Rmm (w 0) n (plM w) (leM w) x l ∧ z = -4 ∧ D = C) ∨ ((0 ≤ x ∧ x < w 0) ∧ ((1 ≤ l ∧ l ≤ 20) ∧ -9 ≤ v ∧ v ≤ 9) ∧ n < 8 ∧ Rmm (w 0) n (plM w) (leM w) x l ∧ z = (n : Int) ∧ D = mrc C (appM w n x l v))
/-- the rod g taken away -/
def rmv (w : Nat → Int) (n g : Nat) : Nat → Int := fun x => if x = 1 then (n : Int) - 1 else if x < 5 then w x else if (x - 5) % 8 < g then w x else if (x - 5) % 8 + 1 < n then w (x + 1) else if (x - 5) % 8 + 1 = n then 0 else w x
/-- the blocks of rows below the place f, and of the next one i numbers from g on -/
def rmq (w : Nat → Int) (n g f i : Nat) : Nat → Int := fun x => if x = 1 ∨ x < f then rmv w n g x else if f + g ≤ x ∧ x < f + i then w (x + 1) else w x
def mRemoveRod (w : Nat → Int) (n : Nat) (x z : Int) (C D : MC) : Prop := (¬ (0 ≤ x ∧ x < (n : Int)) ∧ z = -1 ∧ D = C) ∨ (∃ g : Nat, x = (g : Int) ∧ g < n ∧ z = (n : Int) - 1 ∧ ∃ w', (∀ y, y < 37 → w' y = rmv w n g y) ∧ D = mrc C w')
def mSetSpeed (w : Nat → Int) (n : Nat) (x v z : Int) (C D : MC) : Prop := (¬ (0 ≤ x ∧ x < (n : Int)) ∧ z = -1 ∧ D = C) ∨ (∃ g : Nat, x = (g : Int) ∧ g < n ∧ ((¬ (-9 ≤ v ∧ v ≤ 9) ∧ z = -2 ∧ D = C) ∨ ((-9 ≤ v ∧ v ≤ 9) ∧ v = w (21 + g) ∧ z = -5 ∧ D = C) ∨ ((-9 ≤ v ∧ v ≤ 9) ∧ ¬ v = w (21 + g) ∧ z = 100 + w (21 + g) ∧ D = mrc C (up w (21 + g) v))))
def mvM (w : Nat → Int) (n : Nat) : Int := sumI (fun k => if w (21 + k) = 0 then 0 else 1) n
def mReverse (w : Nat → Int) (n : Nat) (z : Int) (C D : MC) : Prop := (mvM w n = 0 ∧ z = -5 ∧ D = C) ∨ (¬ mvM w n = 0 ∧ z = mvM w n ∧ D = mrc C (ngm w n))
def mPass (w : Nat → Int) (n : Nat) (t z : Int) (C D : MC) : Prop := (¬ (1 ≤ t ∧ t ≤ 100) ∧ z = -2 ∧ D = C) ∨ ((1 ≤ t ∧ t ≤ 100) ∧ 10000 < w 2 + t ∧ z = -4 ∧ D = C) ∨ ((1 ≤ t ∧ t ≤ 100) ∧ w 2 + t ≤ 10000 ∧ ∃ w', PassM w n t z w' ∧ D = mrc C w')
def txtM (C : MC) (tx : Nat → Int) (tn : Nat) : MC := (C.1, C.2.1, C.2.2.1, C.2.2.2.1, C.2.2.2.2.1, tx, tn)
def mType (tn : Nat) (tx : Nat → Int) (c z : Int) (C D : MC) : Prop := (tn = 60 ∧ z = -3 ∧ D = C) ∨ (tn < 60 ∧ z = (tn : Int) + 1 ∧ D = txtM C (up tx tn c) (tn + 1))
def mClear (tn : Nat) (tx : Nat → Int) (z : Int) (C D : MC) : Prop := z = (tn : Int) ∧ D = txtM C tx 0
def mUndo (w pa : Nat → Int) (ns z : Int) (C D : MC) : Prop := (ns = 0 ∧ z = -5 ∧ D = C) ∨ (1 ≤ ns ∧ z = ns - 1 ∧ ∃ w', (∀ y, y < 37 → w' y = pa (37 * (ns.toNat - 1) + y)) ∧ D = (w', C.2.1, C.2.2.1, ns - 1, C.2.2.2.2))
def mKeep (w : Nat → Int) (z : Int) (C D : MC) : Prop := z = w 2 ∧ ∃ ad, (∀ y, y < 37 → ad y = w y) ∧ D = (C.1, C.2.1, ad, C.2.2.2.1, 1, C.2.2.2.2.2)
def mRestore (ad : Nat → Int) (ia z : Int) (C D : MC) : Prop := (ia = 0 ∧ z = -5 ∧ D = C) ∨ (¬ ia = 0 ∧ z = ad 2 ∧ ∃ w', (∀ y, y < 37 → w' y = ad y) ∧ D = mrc C w')
/-- the largest of 0 and the gaps of the ranks below k -/
def mxM (w : Nat → Int) (n : Nat) (o : Nat → Nat) : Nat → Int
  | 0 => 0
  | k + 1 => if mxM w n o k < gpM w n o k then gpM w n o k else mxM w n o k
theorem mxM_bd {w : Nat → Int} {n : Nat} (h : MOk w n) (o : Nat → Nat) : ∀ k, 0 ≤ mxM w n o k ∧ mxM w n o k ≤ 1000
  | 0 => by simp [mxM]
  | k + 1 => by
    have h1 := mxM_bd h o k
    have h2 := h.gp o k
    rw [mxM]; split <;> omega
/-- m is the leftmost rank of the cluster of k -/
def LmP (w : Nat → Int) (n : Nat) (o : Nat → Nat) (k m : Nat) : Prop := m < n ∧ ilB w n o (rd n m k) m = true ∧ (n = 1 ∨ ¬ gpM w n o (pv n m) = 0)
/-- the cluster from the rank m on ends with the rank e -/
def ReP (w : Nat → Int) (n : Nat) (o : Nat → Nat) (m e : Nat) : Prop := e < n ∧ ilB w n o (rd n m e) m = true ∧ ¬ gpM w n o e = 0
def mRod (w : Nat → Int) (n : Nat) (x v z : Int) : Prop := (¬ (0 ≤ x ∧ x < (n : Int)) ∧ z = -1) ∨ (∃ g : Nat, x = (g : Int) ∧ g < n ∧ ((v = 0 ∧ z = w (5 + g)) ∨ (v = 1 ∧ z = w (13 + g)) ∨ (v = 2 ∧ z = 100 + w (21 + g)) ∨ (v = 7 ∧ z = 1000000 + w (29 + g)) ∨ (¬ (0 ≤ v ∧ v ≤ 7) ∧ z = -2) ∨ (∃ (o : Nat → Nat) (od pt : Nat → Int) (k : Nat), Lay w n o od pt ∧ k < n ∧ o k = g ∧ ((v = 3 ∧ z = gpM w n o k) ∨ (v = 4 ∧ z = ((o (nx n k) : Nat) : Int)) ∨ (v = 5 ∧ ∃ m e, LmP w n o k m ∧ ReP w n o m e ∧ z = 1 + ((rd n m e : Nat) : Int)) ∨ (v = 6 ∧ ∃ m, LmP w n o k m ∧ z = ((o m : Nat) : Int))))))
def mCover (w : Nat → Int) (n : Nat) (x z : Int) : Prop := (¬ (0 ≤ x ∧ x < w 0) ∧ z = -1) ∨ ((0 ≤ x ∧ x < w 0) ∧ Cov (w 0) n (plM w) (leM w) x z)
def mPlaceIn (w : Nat → Int) (n : Nat) (x t z : Int) : Prop := (¬ (0 ≤ x ∧ x < (n : Int)) ∧ z = -1) ∨ (∃ g : Nat, x = (g : Int) ∧ g < n ∧ ((¬ (0 ≤ t ∧ t ≤ 100) ∧ z = -2) ∨ ((0 ≤ t ∧ t ≤ 100) ∧ ∃ (o : Nat → Nat) (od pt th ss : Nat → Int) (k : Nat), Lay w n o od pt ∧ GoM w n o pt t th ss ∧ k < n ∧ o k = g ∧ z = (th k + sumI (fun i => w (13 + o i)) k) % w 0)))
def mSpeedIn (w : Nat → Int) (n : Nat) (x t z : Int) : Prop := (¬ (0 ≤ x ∧ x < (n : Int)) ∧ z = -1) ∨ (∃ g : Nat, x = (g : Int) ∧ g < n ∧ ((¬ (0 ≤ t ∧ t ≤ 100) ∧ z = -2) ∨ (t = 0 ∧ z = 100 + w (21 + g)) ∨ ((1 ≤ t ∧ t ≤ 100) ∧ ∃ (o : Nat → Nat) (od pt th ss : Nat → Int) (k : Nat), Lay w n o od pt ∧ GoM w n o pt t th ss ∧ k < n ∧ o k = g ∧ z = 100 + ss k)))
def mMeetings (w : Nat → Int) (n : Nat) (t v z : Int) : Prop := (¬ (1 ≤ t ∧ t ≤ 100) ∧ z = -2) ∨ ((1 ≤ t ∧ t ≤ 100) ∧ ¬ (0 ≤ v ∧ v ≤ 1) ∧ z = -2) ∨ ((1 ≤ t ∧ t ≤ 100) ∧ v = 0 ∧ MeP w n t false z) ∨ ((1 ≤ t ∧ t ≤ 100) ∧ v = 1 ∧ MeP w n t true z)
def mCount (w : Nat → Int) (n : Nat) (ns : Int) (tn : Nat) (v z : Int) : Prop := (v = 0 ∧ z = w 0) ∨ (v = 1 ∧ z = (n : Int)) ∨ (v = 2 ∧ z = frM w n) ∨ (v = 3 ∧ z = w 2) ∨ (v = 4 ∧ z = w 3) ∨ (v = 5 ∧ z = w 4) ∨ (v = 6 ∧ z = 1000 + sumI (spM w) n) ∨ (v = 7 ∧ z = sumI (fun j => w (21 + j) * w (21 + j)) n) ∨ (v = 8 ∧ ∃ (o : Nat → Nat) (od pt : Nat → Int), Lay w n o od pt ∧ z = sumI (fun k => if 0 < gpM w n o k then 1 else 0) n) ∨ (v = 9 ∧ ∃ (o : Nat → Nat) (od pt : Nat → Int), Lay w n o od pt ∧ z = mxM w n o n) ∨ (v = 10 ∧ z = ns) ∨ (v = 11 ∧ z = (tn : Int)) ∨ (¬ (0 ≤ v ∧ v ≤ 11) ∧ z = -2)
theorem Lay.sur {w : Nat → Int} {n : Nat} {o : Nat → Nat} {od pt : Nat → Int} (hL : Lay w n o od pt) {g : Nat} (hg : g < n) : ∃ k, k < n ∧ o k = g := by
  obtain ⟨i, hi, e⟩ := fb_onto (n := n) (f := o) (fun i hi => hL.lt hi) (fun i j hij hj e => by have := hL.inj (show i < n by omega) hj e; omega) hg
  exact ⟨i, hi, e⟩
theorem rmq_0 {w : Nat → Int} {n g : Nat} (h1 : w 1 = (n : Int)) : up w 1 ((n : Int) - 1) = rmq w n g 5 g := by
  funext x
  simp only [rmq, rmv, up]
  (repeat' split) <;> first | rfl | (exfalso; omega)
theorem rmq_in {w : Nat → Int} {n g f i : Nat} (hf : 5 ≤ f) (hg : g ≤ i) : up (rmq w n g f i) (f + i) (rmq w n g f i (f + i + 1)) = rmq w n g f (i + 1) := by
  funext x
  simp only [rmq, up]
  by_cases q : x = f + i
  · subst q
    rw [if_pos rfl, if_neg (by omega), if_neg (by omega), if_neg (by omega), if_pos (by omega)]
  · rw [if_neg q]
    (repeat' split) <;> first | rfl | (exfalso; omega)
theorem rmq_nx {w : Nat → Int} {n g f q : Nat} (hf : f = 5 + 8 * q) (hg : g < n) (hn : n ≤ 8) : up (rmq w n g f (n - 1)) (f + (n - 1)) 0 = rmq w n g (f + 8) g := by
  funext x
  have e : x < f ∨ (f ≤ x ∧ x < f + 8 ∧ (x - 5) % 8 = x - f) ∨ f + 8 ≤ x := by omega
  simp only [rmq, rmv, up]
  (repeat' split) <;> first | rfl | (exfalso; omega)
