/-! the class's row r and the reference's row w: gaps, clusters -/
def Rw (r : Nat → Nat → Int) (w : Nat → Int) (n : Nat) : Prop := (∀ k, k < 5 → w k = r 0 k) ∧ ∀ k, k < n → w (5 + k) = r 1 k ∧ w (13 + k) = r 2 k ∧ w (21 + k) = r 3 k ∧ w (29 + k) = r 4 k
def frC (r : Nat → Nat → Int) (n : Nat) : Int := freeL (r 0 0) n (r 2)
def Bth (r : Nat → Nat → Int) (w : Nat → Int) (n : Nat) (o : Nat → Nat) (P : Nat → Int) : Prop := Ok r n ∧ Rw r w n ∧ Ord (r 0 0) n (r 1) (r 2) o P ∧ Pup n (frC r n) P ∧ frM w n = frC r n
theorem Rw.fr {r : Nat → Nat → Int} {w : Nat → Int} {n : Nat} (h : Rw r w n) : frM w n = frC r n := by
  simp only [frM, frC, freeL]
  rw [h.1 0 (by omega), sumI_cong (f := leM w) (g := r 2) (fun k hk => (h.2 k hk).2.1)]
theorem Rw.mok {r : Nat → Nat → Int} {w : Nat → Int} {n : Nat} (h : Rw r w n) (hok : Ok r n) : MOk w n := by
  have hb := hok.bd
  have h0 := h.1 0 (by omega)
  have h1 := h.1 1 (by omega)
  refine ⟨hb.1, by omega, by omega, by omega, fun k hk => ?_, by rw [h.fr]; exact hb.2.2.2.2⟩
  have g1 := hok.at hk
  have g2 := h.2 k hk
  omega
theorem Lay.bth {r : Nat → Nat → Int} {w : Nat → Int} {n : Nat} {o : Nat → Nat} {od pt : Nat → Int} (hL : Lay w n o od pt) (hok : Ok r n) (hR : Rw r w n) (hg : Geo (r 0 0) n (r 1) (r 2)) : Bth r w n o pt := by
  have hO : Ord (r 0 0) n (r 1) (r 2) o pt := by
    refine ⟨fun j hj => hL.lt hj, hL.2.1, fun a b hab hb => ?_, fun j hj => ?_, fun k hk => ?_⟩
    · have h1 := hL.2.2.1 a b hab hb
      have la := hL.lt (show a < n by omega)
      have lb := hL.lt hb
      rw [(hR.2 _ la).1, (hR.2 _ lb).1] at h1
      rcases Int.lt_or_le (r 1 (o a)) (r 1 (o b)) with q | q
      · exact q
      · have h2 := hg (o a) (o b) la lb (fun e => by have := hL.inj (show a < n by omega) hb e; omega)
        have h3 := hok.at la
        simp only [dist] at h2
        rw [if_neg (by omega)] at h2
        omega
    · rw [hL.2.2.2 j hj, (hR.2 _ (hL.lt hj)).1, sumI_cong (f := fun i => w (13 + o i)) (g := fun i => r 2 (o i)) (fun i hi => (hR.2 _ (hL.lt (show i < n by omega))).2.1)]
    · have := hok.at hk; omega
  exact ⟨hok, hR, hO, hO.pup hg hok.bd.2.2.2.2, hR.fr⟩
/-- the way of points between ranks -/
def fbk (P : Nat → Int) (F : Int) (a b : Nat) : Int := P b - P a + (if b < a then F else 0)
theorem Bth.fb {r : Nat → Nat → Int} {w : Nat → Int} {n : Nat} {o : Nat → Nat} {P : Nat → Int} (h : Bth r w n o P) {a b : Nat} (ha : a < n) (hb : b < n) : fbtw (r 0 0) n (r 1) (r 2) (o a) (o b) = fbk P (frC r n) a b := h.2.2.1.fb ha hb
theorem Bth.fr {r : Nat → Nat → Int} {w : Nat → Int} {n : Nat} {o : Nat → Nat} {P : Nat → Int} (h : Bth r w n o P) : 1 ≤ frC r n := h.1.bd.2.2.2.2
theorem Bth.fbb {r : Nat → Nat → Int} {w : Nat → Int} {n : Nat} {o : Nat → Nat} {P : Nat → Int} (h : Bth r w n o P) {a b : Nat} (ha : a < n) (hb : b < n) : 0 ≤ fbk P (frC r n) a b ∧ fbk P (frC r n) a b ≤ frC r n := by
  have hp := h.2.2.2.1
  have h1 := hp.2 a b ha hb
  have h2 := hp.2 b a hb ha
  simp only [fbk]
  split
  · have := hp.1 b a (by omega) ha; omega
  · have := hp.1 a b (by omega) hb; omega
theorem em_eq {x y q L : Int} (h : x = y + q * L) (h0 : 0 ≤ y) (h1 : y < L) : x % L = y := by
  rw [h, Int.add_mul_emod_self_right, Int.emod_eq_of_lt h0 h1]
/-- the gap of a rank -/
theorem Bth.gp {r : Nat → Nat → Int} {w : Nat → Int} {n : Nat} {o : Nat → Nat} {P : Nat → Int} (h : Bth r w n o P) {k : Nat} (hk : k < n) : gpM w n o k = if k + 1 = n then P 0 - P k + frC r n else P (k + 1) - P k := by
  obtain ⟨hok, hR, hO, hp, hF⟩ := h
  have hb := hok.bd
  have hk1 := hO.2.2.2.1 k hk
  have lk := hO.1 k hk
  have rk := hR.2 _ lk
  have ak := hok.at lk
  simp only [gpM]
  rcases Nat.lt_or_ge n 2 with q | q
  · rw [if_pos (by omega), if_pos (by omega), hF, show k = 0 by omega]; omega
  · rw [if_neg (by omega)]
    have w0 := hR.1 0 (by omega)
    by_cases e : k + 1 = n
    · rw [if_pos e, show nx n k = 0 by simp only [nx]; rw [if_pos e]]
      have l0 := hO.1 0 (by omega)
      have r0 := hR.2 _ l0
      have a0 := hok.at l0
      have p0 := hO.2.2.2.1 0 (by omega)
      have p1 := hp.2 0 k (by omega) hk
      have p2 := hp.1 0 k (by omega) hk
      have h4 := hO.2.1 (r 2)
      rw [← e, sumI_s] at h4
      rw [e] at h4
      have hf : frC r n = r 0 0 - sumI (r 2) n := rfl
      simp only [sumI] at p0
      rw [r0.1, rk.1, rk.2.1, w0]
      have pm := hO.2.2.1 0 k (by omega) hk
      refine em_eq (q := -1) ?_ (by omega) (by omega)
      omega
    · rw [if_neg e, show nx n k = k + 1 by simp only [nx]; rw [if_neg e]]
      have l0 := hO.1 (k + 1) (by omega)
      have r0 := hR.2 _ l0
      have a0 := hok.at l0
      have p0 := hO.2.2.2.1 (k + 1) (by omega)
      have p2 := hp.1 k (k + 1) (by omega) (by omega)
      rw [sumI_s] at p0
      rw [r0.1, rk.1, rk.2.1, w0]
      refine em_eq (q := 0) ?_ (by omega) (by omega)
      omega
theorem Bth.gpn {r : Nat → Nat → Int} {w : Nat → Int} {n : Nat} {o : Nat → Nat} {P : Nat → Int} (h : Bth r w n o P) {k : Nat} (hk : k < n) : 0 ≤ gpM w n o k := by
  rw [h.gp hk]
  have hp := h.2.2.2.1
  split
  · have := hp.2 0 k (by omega) hk; omega
  · have := hp.1 k (k + 1) (by omega) (by omega); omega
theorem Bth.fbs {r : Nat → Nat → Int} {w : Nat → Int} {n : Nat} {o : Nat → Nat} {P : Nat → Int} (h : Bth r w n o P) {a b : Nat} (ha : a < n) (hb : b < n) (hne : nx n b ≠ a) : fbk P (frC r n) a (nx n b) = fbk P (frC r n) a b + gpM w n o b := by
  rw [h.gp hb]
  by_cases e : b + 1 = n
  · rw [show nx n b = 0 by simp only [nx]; rw [if_pos e]] at hne ⊢
    simp only [fbk]
    rw [if_pos e, if_pos (by omega), if_neg (by omega)]; omega
  · rw [show nx n b = b + 1 by simp only [nx]; rw [if_neg e]] at hne ⊢
    simp only [fbk]
    rw [if_neg e]
    by_cases q : b < a
    · rw [if_pos q, if_pos (by omega)]; omega
    · rw [if_neg q, if_neg (by omega)]; omega
theorem nx_la {n k : Nat} (h : k + 1 = n) : nx n k = 0 := by simp only [nx]; rw [if_pos h]
theorem nx_mi {n k : Nat} (h : ¬ k + 1 = n) : nx n k = k + 1 := by simp only [nx]; rw [if_neg h]
theorem nx_pv {n b : Nat} (hb : b < n) : nx n (pv n b) = b := by
  simp only [nx, pv]; split <;> split <;> omega
/-- no way between them: each gap between is none -/
theorem Bth.z_iff {r : Nat → Nat → Int} {w : Nat → Int} {n : Nat} {o : Nat → Nat} {P : Nat → Int} (h : Bth r w n o P) {a : Nat} (ha : a < n) : ∀ (d b : Nat), b < n → rd n a b = d → (fbk P (frC r n) a b = 0 ↔ ∀ j, j < n → rd n a j < d → gpM w n o j ≤ 0)
  | 0, b, hb, e => by
    have : a = b := rd_in ha ha hb (by rw [rd_z]; exact e.symm)
    subst this
    refine ⟨fun _ j _ hj => absurd hj (Nat.not_lt_zero _), fun _ => ?_⟩
    simp only [fbk]; rw [if_neg (by omega)]; omega
  | d + 1, b, hb, e => by
    have hne : b ≠ a := fun q => by rw [q, rd_z] at e; omega
    have hb2 := pv_lt hb
    have e2 := rd_pv (n := n) (a := a) (b := b) ha hb hne
    have ih := Bth.z_iff h ha d (pv n b) hb2 (by omega)
    have hs := h.fbs ha hb2 (by rw [nx_pv hb]; exact hne)
    rw [nx_pv hb] at hs
    have n1 := h.fbb ha hb2
    have n2 := h.gpn hb2
    constructor
    · intro hz j hj hd
      rcases Nat.lt_succ_iff_lt_or_eq.mp hd with q | q
      · exact ih.mp (by omega) j hj q
      · have : j = pv n b := rd_in ha hj hb2 (by omega)
        subst this; omega
    · intro hall
      have g1 := ih.mpr (fun j hj hd => hall j hj (by omega))
      have g2 := hall (pv n b) hb2 (by omega)
      omega
theorem Bth.il {r : Nat → Nat → Int} {w : Nat → Int} {n : Nat} {o : Nat → Nat} {P : Nat → Int} (h : Bth r w n o P) {a b : Nat} (ha : a < n) (hb : b < n) : ilB w n o (rd n a b) a = true ↔ fbk P (frC r n) a b = 0 := by
  have h1 := ilB_iff w n o (rd n a b) a ha (by have := rd_lt ha hb; omega)
  exact h1.trans (h.z_iff ha _ b hb rfl).symm
/-! the nearest ones -/
theorem gapC_le (L : Int) (n : Nat) (pl le : Nat → Int) (f : Nat) : ∀ i, gapC L n pl le f i ≤ freeL L n le ∧ (∀ j, j < i → j ≠ f → gapC L n pl le f i ≤ fbtw L n pl le f j) ∧ (gapC L n pl le f i = freeL L n le ∨ ∃ j, j < i ∧ j ≠ f ∧ gapC L n pl le f i = fbtw L n pl le f j)
  | 0 => ⟨by simp [gapC], fun j hj => absurd hj (Nat.not_lt_zero j), Or.inl rfl⟩
  | i + 1 => by
    obtain ⟨h1, h2, h3⟩ := gapC_le L n pl le f i
    rw [gapC]
    by_cases q : i = f
    · rw [if_pos q]
      refine ⟨h1, fun j hj hne => h2 j (by omega) hne, ?_⟩
      rcases h3 with g | ⟨j, g1, g2, g3⟩
      · exact Or.inl g
      · exact Or.inr ⟨j, by omega, g2, g3⟩
    · rw [if_neg q]
      refine ⟨by omega, fun j hj hne => ?_, ?_⟩
      · rcases Nat.lt_succ_iff_lt_or_eq.mp hj with g | g
        · have := h2 j g hne; omega
        · subst g; omega
      · rcases Int.lt_or_le (fbtw L n pl le f i) (gapC L n pl le f i) with g | g
        · exact Or.inr ⟨i, by omega, q, by omega⟩
        · rcases h3 with g4 | ⟨j, g1, g2, g3⟩
          · exact Or.inl (by omega)
          · exact Or.inr ⟨j, by omega, g2, by omega⟩
theorem Bth.gapq {r : Nat → Nat → Int} {w : Nat → Int} {n : Nat} {o : Nat → Nat} {P : Nat → Int} (h : Bth r w n o P) {k : Nat} (hk : k < n) : gapC (r 0 0) n (r 1) (r 2) (o k) n = gpM w n o k := by
  obtain ⟨h1, h2, h3⟩ := gapC_le (r 0 0) n (r 1) (r 2) (o k) n
  have hg := h.gp hk
  have hO := h.2.2.1
  have hp := h.2.2.2.1
  have hf : freeL (r 0 0) n (r 2) = frC r n := rfl
  have lo : gpM w n o k ≤ gapC (r 0 0) n (r 1) (r 2) (o k) n := by
    rcases h3 with g | ⟨j, g1, g2, g3⟩
    · rw [g, hf, hg]
      split
      · have := hp.1 0 k (by omega) hk; omega
      · have := hp.2 k (k + 1) hk (by omega); omega
    · obtain ⟨b, hb, rfl⟩ := hO.sur g1
      have hne : b ≠ k := fun q => g2 (by rw [q])
      rw [g3, h.fb hk hb, hg]
      simp only [fbk]
      by_cases q : b < k
      · rw [if_pos q]
        split
        · have := hp.1 0 b (by omega) hb; omega
        · have := hp.2 b (k + 1) hb (by omega); omega
      · rw [if_neg q, if_neg (by omega)]
        have := hp.1 (k + 1) b (by omega) hb; omega
  have hi : gapC (r 0 0) n (r 1) (r 2) (o k) n ≤ gpM w n o k := by
    rcases Nat.lt_or_ge n 2 with q | q
    · rw [hg, if_pos (by omega), show k = 0 by omega] at *
      omega
    · have hn := nx_lt hk
      have ne : nx n k ≠ k := by simp only [nx]; split <;> omega
      have g := h2 (o (nx n k)) (hO.1 _ hn) (fun e => ne (hO.inj hn hk e))
      rw [h.fb hk hn] at g
      rw [hg]
      by_cases e : k + 1 = n
      · rw [nx_la e] at g
        simp only [fbk] at g
        rw [if_pos (by omega)] at g
        rw [if_pos e]; exact g
      · rw [nx_mi e] at g
        simp only [fbk] at g
        rw [if_neg (by omega)] at g
        rw [if_neg e]; omega
  omega
theorem nrC_at (L : Int) (pl : Nat → Int) (f : Nat) : ∀ i, (nrC L pl f i).2 ≤ L ∧ (∀ j, j < i → j ≠ f → (nrC L pl f i).2 ≤ dist L pl f j) ∧ (((nrC L pl f i).1 = f ∧ (nrC L pl f i).2 = L) ∨ ((nrC L pl f i).1 < i ∧ (nrC L pl f i).1 ≠ f ∧ (nrC L pl f i).2 = dist L pl f (nrC L pl f i).1))
  | 0 => ⟨by simp [nrC], fun j hj => absurd hj (Nat.not_lt_zero j), Or.inl ⟨rfl, rfl⟩⟩
  | i + 1 => by
    obtain ⟨h1, h2, h3⟩ := nrC_at L pl f i
    rw [nrC]
    by_cases q : ¬ i = f ∧ dist L pl f i < (nrC L pl f i).2
    · rw [if_pos q]
      refine ⟨by show dist L pl f i ≤ L; omega, fun j hj hne => ?_, Or.inr ⟨Nat.lt_succ_self i, q.1, rfl⟩⟩
      show dist L pl f i ≤ dist L pl f j
      rcases Nat.lt_succ_iff_lt_or_eq.mp hj with g | g
      · have := h2 j g hne; omega
      · subst g; exact Int.le_refl _
    · rw [if_neg q]
      refine ⟨h1, fun j hj hne => ?_, ?_⟩
      · rcases Nat.lt_succ_iff_lt_or_eq.mp hj with g | g
        · exact h2 j g hne
        · subst g; omega
      · rcases h3 with g | ⟨g1, g2⟩
        · exact Or.inl g
        · exact Or.inr ⟨by omega, g2⟩
theorem Bth.nrq {r : Nat → Nat → Int} {w : Nat → Int} {n : Nat} {o : Nat → Nat} {P : Nat → Int} (h : Bth r w n o P) {k : Nat} (hk : k < n) : (nrC (r 0 0) (r 1) (o k) n).1 = o (nx n k) := by
  obtain ⟨h1, h2, h3⟩ := nrC_at (r 0 0) (r 1) (o k) n
  have hO := h.2.2.1
  have ak := hO.2.2.2.2 _ (hO.1 k hk)
  have hn := nx_lt hk
  have an := hO.2.2.2.2 _ (hO.1 _ hn)
  rcases Nat.lt_or_ge n 2 with q | q
  · have e1 : nx n k = k := by simp only [nx]; split <;> omega
    rw [e1]
    rcases h3 with g | ⟨g1, g2, -⟩
    · exact g.1
    · have := hO.1 k hk; omega
  · have ne : nx n k ≠ k := by simp only [nx]; split <;> omega
    have g := h2 (o (nx n k)) (hO.1 _ hn) (fun e => ne (hO.inj hn hk e))
    have dn := hO.dst hk hn
    rcases h3 with g3 | ⟨g1, g2, g3⟩
    · exfalso
      rw [g3.2, dn] at g
      by_cases e : k + 1 = n
      · rw [nx_la e, if_pos (by omega)] at g
        have := hO.2.2.1 0 k (by omega) hk; omega
      · rw [nx_mi e, if_neg (by omega)] at g
        have a2 := hO.2.2.2.2 _ (hO.1 (k + 1) (by omega))
        omega
    · obtain ⟨b, hb, e⟩ := hO.sur g1
      rw [← e] at g2 g3 ⊢
      have hne : b ≠ k := fun q => g2 (by rw [q])
      have db := hO.dst hk hb
      have ab := hO.2.2.2.2 _ (hO.1 b hb)
      congr 1
      by_cases e2 : k + 1 = n
      · rw [nx_la e2] at g dn an ⊢
        rw [if_pos (by omega)] at dn
        rw [if_pos (by omega)] at db
        rcases Nat.eq_zero_or_pos b with z | z
        · exact z
        · have := hO.2.2.1 0 b z hb; omega
      · rw [nx_mi e2] at g dn an ⊢
        rw [if_neg (by omega)] at dn
        rcases Nat.lt_or_ge b k with z | z
        · rw [if_pos z] at db; omega
        · rw [if_neg (by omega)] at db
          rcases Nat.lt_or_ge (k + 1) b with z2 | z2
          · have := hO.2.2.1 (k + 1) b z2 hb; omega
          · omega
