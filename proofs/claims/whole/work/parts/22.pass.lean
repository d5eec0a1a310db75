/-! rows that agree where it matters for the rods -/
def AgW (w v : Nat → Int) : Prop := w 0 = v 0 ∧ w 1 = v 1 ∧ ∀ x, 5 ≤ x → x < 29 → w x = v x
theorem AgW.up {w : Nat → Int} {i : Nat} (hi : 2 ≤ i ∧ i ≤ 4) (x : Int) : AgW w (up w i x) := ⟨(up_n (by omega)).symm, (up_n (by omega)).symm, fun y h1 h2 => (up_n (by omega)).symm⟩
theorem AgW.tr {w v u : Nat → Int} (h : AgW w v) (g : AgW v u) : AgW w u := ⟨h.1.trans g.1, h.2.1.trans g.2.1, fun x h1 h2 => (h.2.2 x h1 h2).trans (g.2.2 x h1 h2)⟩
theorem AgW.sy {w v : Nat → Int} (h : AgW w v) : AgW v w := ⟨h.1.symm, h.2.1.symm, fun x h1 h2 => (h.2.2 x h1 h2).symm⟩
theorem AgW.fr {w v : Nat → Int} (h : AgW w v) {n : Nat} (hn : n ≤ 8) : frM w n = frM v n := by
  simp only [frM, freeL]
  rw [h.1, sumI_cong (f := leM w) (g := leM v) (fun k hk => h.2.2 (13 + k) (by omega) (by omega))]
theorem AgW.ok {w v : Nat → Int} (h : AgW w v) {n : Nat} (hok : MOk w n) : MOk v n := by
  have hb := hok.bd
  refine ⟨hb.1, by rw [← h.2.1]; exact hb.2.1, by rw [← h.1]; exact hb.2.2.1, by rw [← h.1]; exact hb.2.2.2.1, fun k hk => ?_, by rw [← h.fr hb.1]; exact hb.2.2.2.2⟩
  have := hok.at hk
  rw [← h.2.2 (5 + k) (by omega) (by omega), ← h.2.2 (13 + k) (by omega) (by omega), ← h.2.2 (21 + k) (by omega) (by omega), ← h.1]
  exact this
theorem MOk.u {w : Nat → Int} {n : Nat} (h : MOk w n) {i : Nat} (hi : 2 ≤ i ∧ i ≤ 4) (x : Int) : MOk (up w i x) n := (AgW.up hi x).ok h
theorem AgW.lay {w v : Nat → Int} (h : AgW w v) {n : Nat} (hn : n ≤ 8) {o : Nat → Nat} {od pt : Nat → Int} (hL : Lay w n o od pt) : Lay v n o od pt := by
  obtain ⟨h1, h2, h3, h4⟩ := hL
  have e : ∀ j, j < n → 5 + o j < 29 ∧ 13 + o j < 29 := fun j hj => by have := (h1 j hj).2; omega
  refine ⟨h1, h2, fun a b hab hb => ?_, fun j hj => ?_⟩
  · rw [← h.2.2 (5 + o a) (by omega) (e a (by omega)).1, ← h.2.2 (5 + o b) (by omega) (e b hb).1]; exact h3 a b hab hb
  · rw [← h.2.2 (5 + o j) (by omega) (e j hj).1, ← sumI_cong (f := fun i => w (13 + o i)) (fun i hi => h.2.2 (13 + o i) (by omega) (e i (by omega)).2)]; exact h4 j hj
theorem AgW.gp {w v : Nat → Int} (h : AgW w v) {n : Nat} (hn : n ≤ 8) {o : Nat → Nat} (ho : ∀ j, j < n → o j < n) {k : Nat} (hk : k < n) : gpM w n o k = gpM v n o k := by
  have h1 := ho k hk
  have h2 := ho (nx n k) (nx_lt hk)
  simp only [gpM]
  rw [h.fr hn, h.1, h.2.2 (5 + o (nx n k)) (by omega) (by omega), h.2.2 (5 + o k) (by omega) (by omega), h.2.2 (13 + o k) (by omega) (by omega)]
theorem AgW.il {w v : Nat → Int} (h : AgW w v) {n : Nat} (hn : n ≤ 8) {o : Nat → Nat} (ho : ∀ j, j < n → o j < n) : ∀ (d k : Nat), k < n → ilB w n o d k = ilB v n o d k
  | 0, _, _ => rfl
  | d + 1, k, hk => by rw [ilB, ilB, h.gp hn ho hk, AgW.il h hn ho d (nx n k) (nx_lt hk)]
theorem AgW.af {w v : Nat → Int} (h : AgW w v) {n : Nat} (hn : n ≤ 8) {o : Nat → Nat} (ho : ∀ j, j < n → o j < n) (pt : Nat → Int) {f t : Nat} (hf : f < n) : ahF w n o pt f t = ahF v n o pt f t := by
  simp only [ahF]; rw [h.fr hn, h.il hn ho _ f hf]
theorem AgW.tm {w v : Nat → Int} (h : AgW w v) {n : Nat} (hn : n ≤ 8) {o : Nat → Nat} (ho : ∀ j, j < n → o j < n) (pt : Nat → Int) (t : Int) {i k : Nat} (hi : i < n) (hk : k < n) : tmM w n o pt t i k = tmM v n o pt t i k ∧ dfM w o i k = dfM v o i k ∧ ahM w n o pt i k = ahM v n o pt i k := by
  have h1 := ho i hi
  have h2 := ho k hk
  have e1 := h.2.2 (21 + o i) (by omega) (by omega)
  have e2 := h.2.2 (21 + o k) (by omega) (by omega)
  have a : ahM w n o pt i k = ahM v n o pt i k := by simp only [ahM]; rw [e1, e2, h.af hn ho pt hi, h.af hn ho pt hk]
  have d : dfM w o i k = dfM v o i k := by simp only [dfM]; rw [e1, e2]
  exact ⟨by simp only [tmM]; rw [a, d, h.fr hn], d, a⟩
theorem AgW.me {w v : Nat → Int} (h : AgW w v) {n : Nat} (hn : n ≤ 8) {o : Nat → Nat} (ho : ∀ j, j < n → o j < n) (pt : Nat → Int) (t : Int) (b : Bool) : meM w n o pt t b n = meM v n o pt t b n := by
  simp only [meM]
  refine sumI_cong (fun k hk => sumI_cong (fun i hi => ?_))
  have := h.tm hn ho pt t (show i < n by omega) hk
  rw [this.1, this.2.1]
theorem AgW.go {w v : Nat → Int} (h : AgW w v) {n : Nat} (hn : n ≤ 8) {o : Nat → Nat} (ho : ∀ j, j < n → o j < n) {pt : Nat → Int} {t : Int} {th ss : Nat → Int} (hG : GoM w n o pt t th ss) : GoM v n o pt t th ss := by
  obtain ⟨tu, fa, ⟨s1, s2, s3⟩, hk⟩ := hG
  have e1 : ∀ j, j < n → w (21 + o j) = v (21 + o j) := fun j hj => by have := ho j hj; exact h.2.2 (21 + o j) (by omega) (by omega)
  have e2 := h.fr hn
  have e3 : rdM w n o pt t n = rdM v n o pt t n := by
    simp only [rdM]; exact sumI_cong (fun j hj => by rw [e1 j hj, e2])
  refine ⟨tu, fa, ⟨fun j hj => by rw [← e2]; exact s1 j hj, fun F => ?_, s3⟩, fun k hk9 => by rw [← e2, ← e3]; exact hk k hk9⟩
  rw [s2 F]
  exact sumI_cong (fun j hj => by simp only [eM]; rw [e1 j hj, e2])
theorem bsel {zb x y : Int} {b : Bool} (eb : zb = if b = true then 1 else 0) : (zb = 0 → (if b = true then x else y) = y) ∧ (¬ zb = 0 → (if b = true then x else y) = x) := by
  cases b
  · simp at eb; subst eb; simp
  · simp at eb; subst eb; simp
theorem bsel_bd {zb : Int} {b : Bool} (eb : zb = if b = true then 1 else 0) : 0 ≤ zb ∧ zb ≤ 1 := by
  cases b
  · simp at eb; omega
  · simp at eb; omega
/-- an order of places names no rod twice -/
theorem Lay.inj {w : Nat → Int} {n : Nat} {o : Nat → Nat} {od pt : Nat → Int} (hL : Lay w n o od pt) {a b : Nat} (ha : a < n) (hb : b < n) (h : o a = o b) : a = b := by
  rcases Nat.lt_trichotomy a b with q | q | q
  · exfalso
    have h1 := hL.2.1 (fun k => if k = o a then 1 else 0)
    have h2 : sumI (fun k => if k = o a then (1 : Int) else 0) n ≤ 1 := by
      have : ∀ m, sumI (fun k => if k = o a then (1 : Int) else 0) m ≤ 1 ∧ (m ≤ o a → sumI (fun k => if k = o a then (1 : Int) else 0) m = 0) := by
        intro m
        induction m with
        | zero => simp [sumI]
        | succ m ih =>
          rw [sumI_s]
          by_cases e : m = o a
          · rw [if_pos e]; have := ih.2 (by omega); omega
          · rw [if_neg e]; omega
      exact (this n).1
    have h3 : sumI (fun j => if j = a then (1 : Int) else 0) n < sumI (fun j => if o j = o a then (1 : Int) else 0) n := by
      refine sumI_lt (fun k _ => ?_) b hb ?_
      · by_cases e : k = a
        · subst e; rw [if_pos rfl, if_pos rfl]; omega
        · rw [if_neg e]; split <;> omega
      · rw [if_neg (by omega), if_pos h.symm]; omega
    have h4 : sumI (fun j => if j = a then (0 : Int) else 0) n < sumI (fun j => if j = a then (1 : Int) else 0) n := by
      refine sumI_lt (fun k _ => by split <;> omega) a ha ?_
      rw [if_pos rfl, if_pos rfl]; omega
    have h5 : sumI (fun j => if j = a then (0 : Int) else 0) n = 0 := sumI_zero (fun k _ => by split <;> rfl)
    omega
  · exact q
  · exfalso
    have h1 := hL.2.1 (fun k => if k = o b then 1 else 0)
    have h2 : sumI (fun k => if k = o b then (1 : Int) else 0) n ≤ 1 := by
      have : ∀ m, sumI (fun k => if k = o b then (1 : Int) else 0) m ≤ 1 ∧ (m ≤ o b → sumI (fun k => if k = o b then (1 : Int) else 0) m = 0) := by
        intro m
        induction m with
        | zero => simp [sumI]
        | succ m ih =>
          rw [sumI_s]
          by_cases e : m = o b
          · rw [if_pos e]; have := ih.2 (by omega); omega
          · rw [if_neg e]; omega
      exact (this n).1
    have h3 : sumI (fun j => if j = b then (1 : Int) else 0) n < sumI (fun j => if o j = o b then (1 : Int) else 0) n := by
      refine sumI_lt (fun k _ => ?_) a ha ?_
      · by_cases e : k = b
        · subst e; rw [if_pos rfl, if_pos rfl]; omega
        · rw [if_neg e]; split <;> omega
      · rw [if_neg (by omega), if_pos h]; omega
    have h4 : sumI (fun j => if j = b then (0 : Int) else 0) n < sumI (fun j => if j = b then (1 : Int) else 0) n := by
      refine sumI_lt (fun k _ => by split <;> omega) b hb ?_
      rw [if_pos rfl, if_pos rfl]; omega
    have h5 : sumI (fun j => if j = b then (0 : Int) else 0) n = 0 := sumI_zero (fun k _ => by split <;> rfl)
    omega
/-- the row when the ranks below k have moved; w is the row before -/
def PtI (w : Nat → Int) (n : Nat) (o : Nat → Nat) (pt th ss : Nat → Int) (k : Nat) (W : Nat → Int) : Prop := (∀ x, x < 5 → W x = w x) ∧ (∀ x, 13 ≤ x → x < 21 → W x = w x) ∧ (∀ j, j < k → W (5 + o j) = (th j + sumI (fun i => w (13 + o i)) j) % w 0 ∧ W (21 + o j) = ss j ∧ W (29 + o j) = w (29 + o j) + (th j - pt j)) ∧ (∀ j, k ≤ j → j < n → W (29 + o j) = w (29 + o j))
theorem PtI.zero (w : Nat → Int) (n : Nat) (o : Nat → Nat) (pt th ss : Nat → Int) : PtI w n o pt th ss 0 w := ⟨fun _ _ => rfl, fun _ _ _ => rfl, fun j hj => absurd hj (Nat.not_lt_zero j), fun _ _ _ => rfl⟩
theorem PtI.step {w : Nat → Int} {n : Nat} {o : Nat → Nat} {od pt th ss : Nat → Int} {k : Nat} {W : Nat → Int} (hn : n ≤ 8) (hL : Lay w n o od pt) (h : PtI w n o pt th ss k W) (hk : k < n) {A B C : Int} (hA : A = (th k + sumI (fun i => w (13 + o i)) k) % w 0) (hB : B = ss k) (hC : C = w (29 + o k) + (th k - pt k)) : PtI w n o pt th ss (k + 1) (up (up (up W (5 + o k) A) (21 + o k) B) (29 + o k) C) := by
  obtain ⟨h1, h2, h3, h4⟩ := h
  have lk := hL.lt hk
  refine ⟨fun x hx => by rw [up_n (by omega), up_n (by omega), up_n (by omega)]; exact h1 x hx, fun x g1 g2 => by rw [up_n (by omega), up_n (by omega), up_n (by omega)]; exact h2 x g1 g2, fun j hj => ?_, fun j g1 g2 => ?_⟩
  · rcases Nat.lt_succ_iff_lt_or_eq.mp hj with q | q
    · have lj := hL.lt (show j < n by omega)
      have ne : o j ≠ o k := fun e => by have := hL.inj (show j < n by omega) hk e; omega
      rw [up_n (by omega), up_n (by omega), up_n (by omega), up_n (by omega), up_n (by omega), up_n (by omega), up_n (by omega), up_n (by omega), up_n (by omega)]
      exact h3 j q
    · subst q
      refine ⟨?_, ?_, ?_⟩
      · rw [up_n (by omega), up_n (by omega), up_s]; exact hA
      · rw [up_n (by omega), up_s]; exact hB
      · rw [up_s]; exact hC
  · have lj := hL.lt g2
    have ne : o j ≠ o k := fun e => by have := hL.inj g2 hk e; omega
    rw [up_n (by omega), up_n (by omega), up_n (by omega)]
    exact h4 j (by omega) g2
theorem GoM.bd {w : Nat → Int} {n : Nat} (hok : MOk w n) {o : Nat → Nat} {od pt : Nat → Int} (hL : Lay w n o od pt) {t : Int} (ht : 0 ≤ t ∧ t ≤ 100) {th ss : Nat → Int} (h : GoM w n o pt t th ss) {k : Nat} (hk : k < n) : (-90000000 ≤ th k ∧ th k ≤ 90000000) ∧ -9 ≤ ss k ∧ ss k ≤ 9 := by
  obtain ⟨tu, fa, ⟨s1, -, -⟩, hg⟩ := h
  obtain ⟨e1, e2⟩ := hg k hk
  have hb := hok.bd
  have hm := fm_b (x := (k : Int) + rdM w n o pt t n) (y := (n : Int)) (by omega)
  have h1 := s1 (((k : Int) + rdM w n o pt t n) % (n : Int)).toNat (by omega)
  have h2 := hok.rb hL ht (Nat.le_refl n)
  have h3 := hok.fr
  have h5 := ediv_b (x := (k : Int) + rdM w n o pt t n) (y := (n : Int)) (b := 25000) (by omega) (by omega) (by omega)
  have h6 : frM w n * (((k : Int) + rdM w n o pt t n) / (n : Int)) ≤ frM w n * 25000 := Int.mul_le_mul_of_nonneg_left h5.2 (by omega)
  have h7 : frM w n * (-25000) ≤ frM w n * (((k : Int) + rdM w n o pt t n) / (n : Int)) := Int.mul_le_mul_of_nonneg_left h5.1 (by omega)
  rw [e1, e2]
  omega
/-- z: the meetings in some ticks, or their impulses -/
def MeP (w : Nat → Int) (n : Nat) (t : Int) (b : Bool) (z : Int) : Prop := ∃ (o : Nat → Nat) (od pt : Nat → Int), Lay w n o od pt ∧ z = meM w n o pt t b n
theorem AgW.mep {w v : Nat → Int} (h : AgW w v) {n : Nat} (hn : n ≤ 8) {t : Int} {b : Bool} {z : Int} (hm : MeP w n t b z) : MeP v n t b z := by
  obtain ⟨o, od, pt, hL, e⟩ := hm
  exact ⟨o, od, pt, h.lay hn hL, e.trans (h.me hn (fun j hj => hL.lt hj) pt t b)⟩
/-- w' is the row w when ticks have passed, z meetings -/
def PassM (w : Nat → Int) (n : Nat) (t z : Int) (w' : Nat → Int) : Prop := ∃ (o : Nat → Nat) (od pt th ss : Nat → Int), Lay w n o od pt ∧ GoM w n o pt t th ss ∧ MeP w n t false z ∧ w' 0 = w 0 ∧ w' 1 = w 1 ∧ w' 2 = w 2 + t ∧ w' 3 = w 3 + z ∧ (∃ y, MeP w n t true y ∧ w' 4 = w 4 + y) ∧ (∀ x, 13 ≤ x → x < 21 → w' x = w x) ∧ (∀ j, j < n → w' (5 + o j) = (th j + sumI (fun i => w (13 + o i)) j) % w 0 ∧ w' (21 + o j) = ss j ∧ w' (29 + o j) = w (29 + o j) + (th j - pt j))
theorem PassM.mk {w w2 W : Nat → Int} {n : Nat} (hok : MOk w n) {t z y : Int} (hag : AgW w w2) (h2 : ∀ x, 29 ≤ x → w2 x = w x) (e2 : w2 2 = w 2) (e3 : w2 3 = w 3 + z) (e4 : w2 4 = w 4 + y) (hz : MeP w n t false z) (hy : MeP w n t true y) {o : Nat → Nat} {od pt th ss : Nat → Int} (hL : Lay w2 n o od pt) (hG : GoM w2 n o pt t th ss) (hP : PtI w2 n o pt th ss n W) : PassM w n t z (up W 2 (W 2 + t)) := by
  have hn := hok.bd.1
  have hs := hag.sy
  have hl : ∀ j, j < n → o j < n := fun j hj => hL.lt hj
  obtain ⟨p1, p2, p3, -⟩ := hP
  refine ⟨o, od, pt, th, ss, hs.lay hn hL, hs.go hn hl hG, hz, ?_, ?_, ?_, ?_, ⟨y, hy, ?_⟩, fun x g1 g2 => ?_, fun j hj => ?_⟩
  · rw [up_n (by omega), p1 0 (by omega)]; exact hs.1
  · rw [up_n (by omega), p1 1 (by omega)]; exact hs.2.1
  · rw [up_s, p1 2 (by omega), e2]
  · rw [up_n (by omega), p1 3 (by omega), e3]
  · rw [up_n (by omega), p1 4 (by omega), e4]
  · rw [up_n (by omega), p2 x g1 g2]; exact hs.2.2 x (by omega) (by omega)
  · have := hl j hj
    obtain ⟨q1, q2, q3⟩ := p3 j hj
    rw [up_n (by omega), up_n (by omega), up_n (by omega), q1, q2, q3, h2 (29 + o j) (by omega), hs.1, sumI_cong (f := fun i => w2 (13 + o i)) (fun i hi => by have := hl i (by omega); exact hs.2.2 (13 + o i) (by omega) (by omega))]
    exact ⟨rfl, rfl, rfl⟩
