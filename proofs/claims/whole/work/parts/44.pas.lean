/-! ticks pass: a point and its speed are told by counting -/
def cnA (F Y u y v : Int) : Int := (y - Y) / F + (if (y - Y) % F = 0 ∧ ¬ u < v then 0 else 1)
def cnB (F Y u y v : Int) : Int := (y - Y) / F + (if (y - Y) % F = 0 ∧ ¬ u ≤ v then 0 else 1)
theorem cn_q {F : Int} (hF : 1 ≤ F) (x c : Int) : (x + c * F) / F = x / F + c ∧ (x + c * F) % F = x % F := ⟨Int.add_mul_ediv_right x c (by omega), Int.add_mul_emod_self_right x c F⟩
theorem cnA_eq {F Y u y v Y' y' c : Int} (hF : 1 ≤ F) (h : y' - Y' = y - Y + c * F) : cnA F Y' u y' v = cnA F Y u y v + c := by
  have h1 := cn_q hF (y - Y) c
  simp only [cnA]
  rw [h, h1.1, h1.2]; omega
theorem cnB_eq {F Y u y v Y' y' c : Int} (hF : 1 ≤ F) (h : y' - Y' = y - Y + c * F) : cnB F Y' u y' v = cnB F Y u y v + c := by
  have h1 := cn_q hF (y - Y) c
  simp only [cnB]
  rw [h, h1.1, h1.2]; omega
theorem em_at {F x y q : Int} (h : x = y + q * F) (h0 : 0 ≤ y) (h1 : y < F) : x / F = q ∧ x % F = y := by
  have h2 := cn_q (show 1 ≤ F by omega) y q
  rw [h, h2.1, h2.2, Int.ediv_eq_zero_of_lt h0 h1, Int.emod_eq_of_lt h0 h1]
  exact ⟨by omega, rfl⟩
theorem cnA_at {F E g u T q v : Int} (hE : 0 ≤ E ∧ E < F) (hT : 0 ≤ T ∧ T < F) : cnA F (E + g * F) u (T + q * F) v = q - g + (if E < T ∨ (E = T ∧ u < v) then 1 else 0) := by
  simp only [cnA]
  have e : T + q * F - (E + g * F) = (T - E) + (q - g) * F := by rw [Int.sub_mul]; omega
  rcases Int.lt_or_le T E with c | c
  · have h := em_at (F := F) (x := T + q * F - (E + g * F)) (y := T - E + F) (q := q - g - 1) (by rw [e, Int.sub_mul (q - g) 1 F]; omega) (by omega) (by omega)
    rw [h.1, h.2, if_neg (by omega), if_neg (by omega)]; omega
  · have h := em_at (F := F) (x := T + q * F - (E + g * F)) (y := T - E) (q := q - g) e (by omega) (by omega)
    rw [h.1, h.2]
    by_cases d : E < T ∨ (E = T ∧ u < v)
    · rw [if_pos d, if_neg (by omega)]
    · rw [if_neg d, if_pos (by omega)]
theorem cnB_at {F E g u T q v : Int} (hE : 0 ≤ E ∧ E < F) (hT : 0 ≤ T ∧ T < F) : cnB F (E + g * F) u (T + q * F) v = q - g + (if E < T ∨ (E = T ∧ u ≤ v) then 1 else 0) := by
  simp only [cnB]
  have e : T + q * F - (E + g * F) = (T - E) + (q - g) * F := by rw [Int.sub_mul]; omega
  rcases Int.lt_or_le T E with c | c
  · have h := em_at (F := F) (x := T + q * F - (E + g * F)) (y := T - E + F) (q := q - g - 1) (by rw [e, Int.sub_mul (q - g) 1 F]; omega) (by omega) (by omega)
    rw [h.1, h.2, if_neg (by omega), if_neg (by omega)]; omega
  · have h := em_at (F := F) (x := T + q * F - (E + g * F)) (y := T - E) (q := q - g) e (by omega) (by omega)
    rw [h.1, h.2]
    by_cases d : E < T ∨ (E = T ∧ u ≤ v)
    · rw [if_pos d, if_neg (by omega)]
    · rw [if_neg d, if_pos (by omega)]
/-- what lies lower is counted less -/
theorem cn_lt {F Y u y v y2 v2 : Int} (hF : 1 ≤ F) (h : y < y2 ∨ (y = y2 ∧ v < v2)) : cnB F Y u y v ≤ cnA F Y u y2 v2 := by
  simp only [cnA, cnB]
  rcases h with h | ⟨rfl, h⟩
  · have h1 : (y - Y) / F ≤ (y2 - Y) / F := Int.ediv_le_ediv (by omega) (by omega)
    rcases Int.lt_or_le ((y - Y) / F) ((y2 - Y) / F) with q | q
    · split <;> split <;> omega
    · have e : (y - Y) / F = (y2 - Y) / F := by omega
      have a1 := Int.emod_add_mul_ediv (y - Y) F
      have a2 := Int.emod_add_mul_ediv (y2 - Y) F
      rw [e] at a1
      have b1 := fm_b (x := y - Y) (y := F) (by omega)
      rw [if_neg (show ¬ ((y2 - Y) % F = 0 ∧ ¬ u < v2) by omega)]
      split <;> omega
  · split <;> split <;> omega
def IsK (F : Int) (n : Nat) (Y u : Nat → Int) (K y v : Int) : Prop := sumI (fun a => cnA F (Y a) (u a) y v) n ≤ K ∧ K < sumI (fun a => cnB F (Y a) (u a) y v) n
theorem IsK.no {F : Int} (hF : 1 ≤ F) {n : Nat} {Y u : Nat → Int} {K y v y2 v2 : Int} (h : IsK F n Y u K y v) (h2 : IsK F n Y u K y2 v2) : ¬ (y < y2 ∨ (y = y2 ∧ v < v2)) := fun q => by
  have h1 := sumI_le (f := fun a => cnB F (Y a) (u a) y v) (g := fun a => cnA F (Y a) (u a) y2 v2) (n := n) (fun a _ => cn_lt hF q)
  have := h.2
  have := h2.1
  omega
theorem IsK.one {F : Int} (hF : 1 ≤ F) {n : Nat} {Y u : Nat → Int} {K y v y2 v2 : Int} (h : IsK F n Y u K y v) (h2 : IsK F n Y u K y2 v2) : y = y2 ∧ v = v2 := by
  have h3 := IsK.no hF h h2
  have h4 := IsK.no hF h2 h
  omega
theorem sum_cst (f : Nat → Int) (c : Int) : ∀ n : Nat, sumI (fun a => c - f a) n = (n : Int) * c - sumI f n
  | 0 => by simp [sumI]
  | n + 1 => by
    rw [sumI_s, sum_cst f c n, sumI_s]
    have e : ((n + 1 : Nat) : Int) = (n : Int) + 1 := by omega
    rw [e, Int.add_mul, Int.one_mul]; omega
/-- the place m of a sorted row -/
theorem srt_A {n : Nat} {tu fa : Nat → Int} (hs : ∀ a b, a < b → b < n → ¬ lxgt (tu a) (fa a) (tu b) (fa b)) {m : Nat} (hm : m < n) : sumI (fun j => if tu j < tu m ∨ (tu j = tu m ∧ fa j < fa m) then (1 : Int) else 0) n ≤ (m : Int) ∧ (m : Int) < sumI (fun j => if tu j < tu m ∨ (tu j = tu m ∧ fa j ≤ fa m) then (1 : Int) else 0) n := by
  have h1 := sum_rng (fun _ => (1 : Int)) (show 0 ≤ m by omega) n
  have h2 := sum_rng (fun _ => (1 : Int)) (show 0 ≤ m + 1 by omega) n
  rw [sumI_one, sumI_one] at h1 h2
  have g1 := sumI_le (f := fun j => if tu j < tu m ∨ (tu j = tu m ∧ fa j < fa m) then (1 : Int) else 0) (g := fun j => if 0 ≤ j ∧ j < m then (1 : Int) else 0) (n := n) (fun j hj => by
    by_cases q : j < m
    · rw [if_pos (show 0 ≤ j ∧ j < m by omega)]; split <;> omega
    · have : ¬ lxgt (tu m) (fa m) (tu j) (fa j) := by
        rcases Nat.lt_or_ge m j with c | c
        · exact hs m j c hj
        · rw [show j = m by omega]; simp only [lxgt]; omega
      simp only [lxgt] at this
      rw [if_neg (by omega)]; split <;> omega)
  have g2 := sumI_le (f := fun j => if 0 ≤ j ∧ j < m + 1 then (1 : Int) else 0) (g := fun j => if tu j < tu m ∨ (tu j = tu m ∧ fa j ≤ fa m) then (1 : Int) else 0) (n := n) (fun j hj => by
    by_cases q : j < m + 1
    · have : ¬ lxgt (tu j) (fa j) (tu m) (fa m) := by
        rcases Nat.lt_or_ge j m with c | c
        · exact hs j m c hm
        · rw [show j = m by omega]; simp only [lxgt]; omega
      simp only [lxgt] at this
      rw [if_pos (show tu j < tu m ∨ (tu j = tu m ∧ fa j ≤ fa m) by omega)]; split <;> omega
    · rw [if_neg (show ¬ (0 ≤ j ∧ j < m + 1) by omega)]; split <;> omega)
  omega
theorem gs_b {n : Nat} (f : Nat → Int) (q : Int) (c : Nat → Int) : sumI (fun a => q - f a + c a) n = (n : Int) * q - sumI f n + sumI c n := by
  rw [sum_add (fun a => q - f a) c, sum_cst]
/-- the reference's point and speed of a rank -/
theorem GoM.isk {w : Nat → Int} {n : Nat} {o : Nat → Nat} {P : Nat → Int} {t : Int} {th ss : Nat → Int} (h : GoM w n o P t th ss) (hF : 1 ≤ frM w n) {j : Nat} (hj : j < n) : IsK (frM w n) n (fun a => P a + t * w (21 + o a)) (fun a => w (21 + o a)) (j : Int) (th j) (ss j) := by
  obtain ⟨tu, fa, ⟨s1, s2, s3⟩, hg⟩ := h
  obtain ⟨e1, e2⟩ := hg j hj
  have hm := fm_b (x := (j : Int) + rdM w n o P t n) (y := (n : Int)) (by omega)
  have hq := Int.emod_add_mul_ediv ((j : Int) + rdM w n o P t n) (n : Int)
  obtain ⟨m, em⟩ : ∃ m : Nat, ((j : Int) + rdM w n o P t n) % (n : Int) = (m : Int) := ⟨(((j : Int) + rdM w n o P t n) % (n : Int)).toNat, by omega⟩
  rw [em] at hm e1 e2 hq
  have em2 : ((m : Nat) : Int).toNat = m := by omega
  rw [em2] at e1 e2
  generalize ((j : Int) + rdM w n o P t n) / (n : Int) = q at e1 hq
  have hmn : m < n := by omega
  have bt := (s1 m hmn).1
  have sa := srt_A s3 hmn
  have f1 := s2 (fun a b => if a < tu m ∨ (a = tu m ∧ b < fa m) then (1 : Int) else 0)
  have f2 := s2 (fun a b => if a < tu m ∨ (a = tu m ∧ b ≤ fa m) then (1 : Int) else 0)
  have key : ∀ a, eM w n o P t a + (P a + t * w (21 + o a)) / frM w n * frM w n = P a + t * w (21 + o a) := fun a => by
    have := Int.emod_add_mul_ediv (P a + t * w (21 + o a)) (frM w n)
    rw [Int.mul_comm (frM w n)] at this
    exact this
  have be : ∀ a, 0 ≤ eM w n o P t a ∧ eM w n o P t a < frM w n := fun a => fm_b (by omega)
  have ey : th j = tu m + q * frM w n := by rw [e1, Int.mul_comm]
  have c1 : sumI (fun a => cnA (frM w n) (P a + t * w (21 + o a)) (w (21 + o a)) (th j) (ss j)) n = (n : Int) * q - rdM w n o P t n + sumI (fun a => if eM w n o P t a < tu m ∨ (eM w n o P t a = tu m ∧ w (21 + o a) < fa m) then (1 : Int) else 0) n := by
    rw [rdM, ← gs_b]
    refine sumI_cong (fun a _ => ?_)
    rw [← cnA_at (be a) bt, key a, ey, e2]
  have c2 : sumI (fun a => cnB (frM w n) (P a + t * w (21 + o a)) (w (21 + o a)) (th j) (ss j)) n = (n : Int) * q - rdM w n o P t n + sumI (fun a => if eM w n o P t a < tu m ∨ (eM w n o P t a = tu m ∧ w (21 + o a) ≤ fa m) then (1 : Int) else 0) n := by
    rw [rdM, ← gs_b]
    refine sumI_cong (fun a _ => ?_)
    rw [← cnB_at (be a) bt, key a, ey, e2]
  simp only [IsK]
  rw [c1, c2]
  omega
/-- the class's point of a rod -/
theorem fsA.isk {r : Nat → Nat → Int} {n : Nat} {t : Int} {fw fs : Nat → Int} (h : fsA r n t fw fs) (hF : 1 ≤ frC r n) {k : Nat} (hk : k < n) : IsK (frC r n) n (fsF r n t) (r 3) (rbtw (r 0 0) n (r 1) 0 k) (fw k + fsX r n k) (fs k) := by
  obtain ⟨q, hq, eq⟩ := fs_ex (r := r) t hk
  obtain ⟨e1, e2⟩ := h k hk q hq eq
  have hf : freeL (r 0 0) n (r 2) = frC r n := rfl
  have hd := Int.emod_add_mul_ediv (fsK r n t k) (n : Int)
  have ek : fsK r n t k = rbtw (r 0 0) n (r 1) 0 k + fsT r n t n := rfl
  have ey : fw k + fsX r n k = fsE r n t q + fsK r n t k / (n : Int) * frC r n := by rw [e1, hf]; omega
  generalize fsK r n t k / (n : Int) = d at hd ey
  have be : ∀ a, 0 ≤ fsE r n t a ∧ fsE r n t a < frC r n := fun a => fm_b (by omega)
  have key : ∀ a, fsE r n t a + fsF r n t a / frC r n * frC r n = fsF r n t a := fun a => by
    have := Int.emod_add_mul_ediv (fsF r n t a) (frC r n)
    rw [Int.mul_comm (frC r n)] at this
    exact this
  have c1 : sumI (fun a => cnA (frC r n) (fsF r n t a) (r 3 a) (fw k + fsX r n k) (fs k)) n = (n : Int) * d - fsT r n t n + sumI (fun a => if fsE r n t a < fsE r n t q ∨ (fsE r n t a = fsE r n t q ∧ r 3 a < r 3 q) then (1 : Int) else 0) n := by
    rw [fsT, ← gs_b]
    refine sumI_cong (fun a _ => ?_)
    rw [← cnA_at (be a) (be q), hf, key a, ey, e2]
  have c2 : sumI (fun a => cnB (frC r n) (fsF r n t a) (r 3 a) (fw k + fsX r n k) (fs k)) n = (n : Int) * d - fsT r n t n + sumI (fun a => if fsE r n t a < fsE r n t q ∨ (fsE r n t a = fsE r n t q ∧ r 3 a ≤ r 3 q) then (1 : Int) else 0) n := by
    rw [fsT, ← gs_b]
    refine sumI_cong (fun a _ => ?_)
    rw [← cnB_at (be a) (be q), hf, key a, ey, e2]
  have g1 : sumI (fun a => if fsE r n t a < fsE r n t q ∨ (fsE r n t a = fsE r n t q ∧ r 3 a < r 3 q) then (1 : Int) else 0) n ≤ rEn n (fsE r n t) (r 3) q := by
    refine sumI_le (fun a _ => ?_)
    by_cases c : fsE r n t a < fsE r n t q ∨ (fsE r n t a = fsE r n t q ∧ r 3 a < r 3 q)
    · rw [if_pos c, if_pos (by simp only [befP]; omega)]; omega
    · rw [if_neg c]; split <;> omega
  have g2 : rEn n (fsE r n t) (r 3) q < sumI (fun a => if fsE r n t a < fsE r n t q ∨ (fsE r n t a = fsE r n t q ∧ r 3 a ≤ r 3 q) then (1 : Int) else 0) n := by
    refine sumI_lt (fun a _ => ?_) q hq ?_
    · by_cases c : befP (fsE r n t) (r 3) a q
      · rw [if_pos c, if_pos (by simp only [befP] at c; omega)]; omega
      · rw [if_neg c]; split <;> omega
    · rw [if_neg (by simp only [befP]; omega), if_pos (by omega)]; omega
  simp only [IsK]
  rw [c1, c2]
  omega
theorem sum_ind (n z : Nat) (hz : z ≤ n) : sumI (fun a => if a < z then (1 : Int) else 0) n = (z : Int) := by
  have h := sum_rng (fun _ => (1 : Int)) (show 0 ≤ z by omega) n
  rw [sumI_one, sumI_one] at h
  rw [sumI_cong (g := fun a => if 0 ≤ a ∧ a < z then (1 : Int) else 0) (fun a _ => by
    by_cases q : a < z
    · rw [if_pos q, if_pos (by omega)]
    · rw [if_neg q, if_neg (by omega)]), h]
  omega
/-- they are the same -/
theorem Bth.way {r : Nat → Nat → Int} {w : Nat → Int} {n : Nat} {o : Nat → Nat} {P : Nat → Int} (h : Bth r w n o P) {t : Int} {fw fs th ss : Nat → Int} (hA : fsA r n t fw fs) (hG : GoM w n o P t th ss) {j : Nat} (hj : j < n) : fw (o j) = th j - P j ∧ fs (o j) = ss j := by
  have hO := h.2.2.1
  have hF := h.fr
  obtain ⟨z, hz, ez⟩ := hO.sur (show 0 < n by omega)
  have g1 := hG.isk (by rw [h.2.2.2.2]; exact hF) hj
  have g2 := hA.isk hF (hO.1 j hj)
  rw [h.2.2.2.2] at g1
  have ex : ∀ a, a < n → fsX r n (o a) = P a - P z + (if a < z then 1 else 0) * frC r n := by
    intro a ha
    have hz0 := h.fb hz ha
    rw [ez] at hz0
    simp only [fsX]
    rw [hz0]
    simp only [fbk]
    split <;> omega
  have er : rbtw (r 0 0) n (r 1) 0 (o j) = ((rd n z j : Nat) : Int) := by (have := hO.rb hz hj); rw [ez] at this; exact this
  have df : ∀ a, a < n → (fw (o j) + fsX r n (o j)) - fsF r n t (o a) = (fw (o j) + P j) - (P a + t * w (21 + o a)) + ((if j < z then 1 else 0) - (if a < z then 1 else 0)) * frC r n := by
    intro a ha
    have e1 := ex j hj
    have e2 := ex a ha
    have e3 := h.spd ha
    simp only [fsF]
    rw [e1, e2, e3, Int.sub_mul, Int.mul_comm (r 3 (o a)) t]
    omega
  have sA : sumI (fun a => cnA (frC r n) (fsF r n t a) (r 3 a) (fw (o j) + fsX r n (o j)) (fs (o j))) n = sumI (fun a => cnA (frC r n) (P a + t * w (21 + o a)) (w (21 + o a)) (fw (o j) + P j) (fs (o j))) n + ((n : Int) * (if j < z then 1 else 0) - (z : Int)) := by
    rw [← hO.2.1 (fun a => cnA (frC r n) (fsF r n t a) (r 3 a) (fw (o j) + fsX r n (o j)) (fs (o j))), ← sum_ind n z (by omega), ← sum_cst, ← sum_add]
    refine sumI_cong (fun a ha => ?_)
    rw [h.spd ha]
    have d := df a ha
    rw [h.spd ha] at d
    exact cnA_eq hF d
  have sB : sumI (fun a => cnB (frC r n) (fsF r n t a) (r 3 a) (fw (o j) + fsX r n (o j)) (fs (o j))) n = sumI (fun a => cnB (frC r n) (P a + t * w (21 + o a)) (w (21 + o a)) (fw (o j) + P j) (fs (o j))) n + ((n : Int) * (if j < z then 1 else 0) - (z : Int)) := by
    rw [← hO.2.1 (fun a => cnB (frC r n) (fsF r n t a) (r 3 a) (fw (o j) + fsX r n (o j)) (fs (o j))), ← sum_ind n z (by omega), ← sum_cst, ← sum_add]
    refine sumI_cong (fun a ha => ?_)
    rw [h.spd ha]
    have d := df a ha
    rw [h.spd ha] at d
    exact cnB_eq hF d
  have rz : ((rd n z j : Nat) : Int) = (j : Int) + ((n : Int) * (if j < z then 1 else 0) - (z : Int)) := by
    simp only [rd]
    by_cases q : j < z
    · rw [if_neg (by omega), if_pos q]; omega
    · rw [if_pos (by omega), if_neg q]; omega
  simp only [IsK] at g2
  rw [sA, sB, er, rz] at g2
  have g3 : IsK (frC r n) n (fun a => P a + t * w (21 + o a)) (fun a => w (21 + o a)) (j : Int) (fw (o j) + P j) (fs (o j)) := by
    simp only [IsK]; omega
  have := IsK.one hF g3 g1
  omega
