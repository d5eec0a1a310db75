theorem IsK.mono {F : Int} (hF : 1 ≤ F) {n : Nat} {Y u : Nat → Int} {K K2 y v y2 v2 : Int} (h : IsK F n Y u K y v) (h2 : IsK F n Y u K2 y2 v2) (hK : K ≤ K2) : y ≤ y2 := by
  rcases Int.lt_or_le y2 y with q | q
  · exfalso
    have h1 := sumI_le (f := fun a => cnB F (Y a) (u a) y2 v2) (g := fun a => cnA F (Y a) (u a) y v) (n := n) (fun a _ => cn_lt hF (Or.inl q))
    have := h.1
    have := h2.2
    omega
  · exact q
theorem IsK.rnd {F : Int} (hF : 1 ≤ F) {n : Nat} {Y u : Nat → Int} {K y v : Int} (h : IsK F n Y u K y v) : IsK F n Y u (K + (n : Int)) (y + F) v := by
  have e1 : sumI (fun a => cnA F (Y a) (u a) (y + F) v) n = sumI (fun a => cnA F (Y a) (u a) y v) n + (n : Int) := by
    rw [← sumI_one n, ← sum_add]
    exact sumI_cong (fun a _ => cnA_eq hF (by omega))
  have e2 : sumI (fun a => cnB F (Y a) (u a) (y + F) v) n = sumI (fun a => cnB F (Y a) (u a) y v) n + (n : Int) := by
    rw [← sumI_one n, ← sum_add]
    exact sumI_cong (fun a _ => cnB_eq hF (by omega))
  simp only [IsK] at *
  omega
theorem GoM.pup {w : Nat → Int} {n : Nat} {o : Nat → Nat} {P : Nat → Int} {t : Int} {th ss : Nat → Int} (h : GoM w n o P t th ss) (hF : 1 ≤ frM w n) : Pup n (frM w n) th := ⟨fun a b hab hb => (h.isk hF (show a < n by omega)).mono hF (h.isk hF hb) (by omega), fun a b ha hb => (h.isk hF hb).mono hF ((h.isk hF ha).rnd hF) (by omega)⟩
theorem dist_em {L : Int} {p : Nat → Int} {a b : Nat} (ha : 0 ≤ p a ∧ p a < L) (hb : 0 ≤ p b ∧ p b < L) : dist L p a b = (p b - p a) % L := by
  simp only [dist]
  split
  · exact (em_eq (q := -1) (by omega) (by omega) (by omega)).symm
  · exact (em_eq (q := 0) (by omega) (by omega) (by omega)).symm
theorem sum_mn {f : Nat → Int} {n : Nat} (h : ∀ k, k < n → 0 ≤ f k) : ∀ d i, i + d ≤ n → sumI f i ≤ sumI f (i + d)
  | 0, i, _ => Int.le_refl _
  | d + 1, i, hi => by
    have := sum_mn h d i (by omega)
    have := h (i + d) (by omega)
    rw [← Nat.add_assoc, sumI_s]; omega
theorem sum_mn2 {f : Nat → Int} {n : Nat} (h : ∀ k, k < n → 0 ≤ f k) {i j : Nat} (hij : i < j) (hj : j ≤ n) : sumI f i + f i ≤ sumI f j := by
  have := sum_mn h (j - (i + 1)) (i + 1) (by omega)
  rw [show i + 1 + (j - (i + 1)) = j by omega, sumI_s] at this
  exact this
/-- points in order keep their rods apart -/
theorem geo_of {L : Int} {n : Nat} {p l : Nat → Int} {o : Nat → Nat} {P th p' : Nat → Int} (hO : Ord L n p l o P) (hL : 1 ≤ L) (hT : Pup n (freeL L n l) th) (hp : ∀ j, j < n → p' (o j) = (th j + sumI (fun i => l (o i)) j) % L) : Geo L n p' l := by
  have lp : ∀ k, k < n → 0 ≤ l (o k) := fun k hk => by have := hO.2.2.2.2 _ (hO.1 k hk); omega
  have tot : sumI (fun i => l (o i)) n = sumI l n := hO.2.1 l
  have pb : ∀ j, j < n → 0 ≤ p' (o j) ∧ p' (o j) < L := fun j hj => by rw [hp j hj]; exact fm_b (by omega)
  have main : ∀ i j, i < j → j < n → dist L p' (o i) (o j) = (th j + sumI (fun i => l (o i)) j) - (th i + sumI (fun i => l (o i)) i) ∧ dist L p' (o j) (o i) = L - ((th j + sumI (fun i => l (o i)) j) - (th i + sumI (fun i => l (o i)) i)) ∧ l (o i) ≤ (th j + sumI (fun i => l (o i)) j) - (th i + sumI (fun i => l (o i)) i) ∧ l (o j) ≤ L - ((th j + sumI (fun i => l (o i)) j) - (th i + sumI (fun i => l (o i)) i)) := by
    intro i j hij hj
    have a1 := sum_mn2 (f := fun i => l (o i)) lp hij (by omega)
    have a2 := sum_mn2 (f := fun i => l (o i)) lp hj (Nat.le_refl n)
    have a3 := sum_mn (f := fun i => l (o i)) lp i 0 (by omega)
    rw [Nat.zero_add] at a3
    have a4 : sumI (fun i => l (o i)) 0 = 0 := rfl
    have b1 := hT.1 i j (by omega) hj
    have b2 := hT.2 i j (by omega) hj
    have c1 := hO.2.2.2.2 _ (hO.1 i (by omega))
    have c2 := hO.2.2.2.2 _ (hO.1 j hj)
    simp only [freeL] at b2
    rw [dist_em (pb i (by omega)) (pb j hj), dist_em (pb j hj) (pb i (by omega)), hp i (by omega), hp j hj, ← Int.sub_emod, ← Int.sub_emod]
    generalize eA : th j + sumI (fun i => l (o i)) j = A
    generalize eB : th i + sumI (fun i => l (o i)) i = B
    refine ⟨em_eq (q := 0) (by omega) (by omega) (by omega), em_eq (q := -1) (by omega) (by omega) (by omega), by omega, by omega⟩
  intro x y hx hy hne
  obtain ⟨i, hi, rfl⟩ := hO.sur hx
  obtain ⟨j, hj, rfl⟩ := hO.sur hy
  rcases Nat.lt_trichotomy i j with q | q | q
  · have := main i j q hj; omega
  · exact absurd (by rw [q]) hne
  · have := main j i q hi; omega
/-- ticks pass in both alike -/
theorem pass_rel {r r' : Nat → Nat → Int} {w w' : Nat → Int} {n : Nat} (hok : Ok r n) (hR : Rw r w n) (hg : Geo (r 0 0) n (r 1) (r 2)) {t z : Int} (hC : PassR r n t r') (hM : PassM w n t z w') : z = crM r n t n ∧ Rw r' w' n ∧ Geo (r' 0 0) n (r' 1) (r' 2) := by
  obtain ⟨fw, fs, hA, c1, c2, c3, c4, c5, c6, c7⟩ := hC
  obtain ⟨o, od, P, th, ss, hL, hG, ⟨o1, od1, P1, hL1, ez⟩, m0, m1, m2, m3, ⟨y, ⟨o2, od2, P2, hL2, ey⟩, m4⟩, m5, m6⟩ := hM
  have B := hL.bth hok hR hg
  have B1 := hL1.bth hok hR hg
  have B2 := hL2.bth hok hR hg
  have hO := B.2.2.1
  have zz : z = crM r n t n := ez.trans (B1.mee t).1
  have yy : y = crI r n t n := ey.trans (B2.mee t).2
  have hb := hok.bd
  have r0 := hR.1 0 (by omega)
  have r1 := hR.1 1 (by omega)
  have r2 := hR.1 2 (by omega)
  have r3 := hR.1 3 (by omega)
  have r4 := hR.1 4 (by omega)
  have se : ∀ j, j < n → sumI (fun i => w (13 + o i)) j = sumI (fun i => r 2 (o i)) j := fun j hj => sumI_cong (fun i hi => (hR.2 _ (hO.1 i (by omega))).2.1)
  have pl : ∀ j, j < n → r' 1 (o j) = (th j + sumI (fun i => r 2 (o i)) j) % r 0 0 := by
    intro j hj
    have g1 := (c1 (o j) (hO.1 j hj)).1
    have g2 := (B.way hA hG hj).1
    have g3 := hO.2.2.2.1 j hj
    rw [g1]
    simp only [npC]
    congr 1
    omega
  refine ⟨zz, ⟨fun k hk => ?_, fun k hk => ?_⟩, ?_⟩
  · have e : k = 0 ∨ k = 1 ∨ k = 2 ∨ k = 3 ∨ k = 4 := by omega
    rcases e with rfl | rfl | rfl | rfl | rfl <;> omega
  · obtain ⟨j, hj, rfl⟩ := hO.sur hk
    have g1 := m6 j hj
    have g2 := c1 (o j) (hO.1 j hj)
    have g3 := hR.2 (o j) (hO.1 j hj)
    have g4 := B.way hA hG hj
    have g5 := m5 (13 + o j) (by have := hO.1 j hj; omega) (by have := hO.1 j hj; omega)
    refine ⟨?_, ?_, ?_, ?_⟩
    · rw [g1.1, pl j hj, se j hj, r0]
    · rw [g5, c2]; exact g3.2.1
    · rw [g1.2.1, g2.2.1]; exact g4.2.symm
    · rw [g1.2.2, g2.2.2, g3.2.2.2]
      simp only [nwC]
      omega
  · rw [c3, c2]
    refine geo_of hO (by omega) ?_ pl
    have := hG.pup (by rw [B.2.2.2.2]; exact B.fr)
    rw [B.2.2.2.2] at this
    exact this
