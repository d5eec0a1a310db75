/-! clusters -/
theorem fbk_q {n : Nat} {P : Nat → Int} {F : Int} {m a b : Nat} (hm : m < n) (ha : a < n) (hb : b < n) : fbk P F a b = fbk P F m b - fbk P F m a + (if rd n m b < rd n m a then F else 0) := by
  have ra : rd n m a = if m ≤ a then a - m else a + n - m := rfl
  have rb : rd n m b = if m ≤ b then b - m else b + n - m := rfl
  simp only [fbk]
  by_cases c1 : a < m
  · rw [if_neg (show ¬ m ≤ a by omega)] at ra
    rw [if_pos c1]
    by_cases c2 : b < m
    · rw [if_neg (show ¬ m ≤ b by omega)] at rb
      rw [if_pos c2]
      by_cases c3 : b < a
      · rw [if_pos c3, if_pos (by omega)]; omega
      · rw [if_neg c3, if_neg (by omega)]; omega
    · rw [if_pos (show m ≤ b by omega)] at rb
      rw [if_neg c2, if_neg (show ¬ b < a by omega), if_pos (by omega)]; omega
  · rw [if_pos (show m ≤ a by omega)] at ra
    rw [if_neg c1]
    by_cases c2 : b < m
    · rw [if_neg (show ¬ m ≤ b by omega)] at rb
      rw [if_pos c2, if_pos (show b < a by omega), if_neg (by omega)]; omega
    · rw [if_pos (show m ≤ b by omega)] at rb
      rw [if_neg c2]
      by_cases c3 : b < a
      · rw [if_pos c3, if_pos (by omega)]; omega
      · rw [if_neg c3, if_neg (by omega)]; omega
theorem Bth.qm {r : Nat → Nat → Int} {w : Nat → Int} {n : Nat} {o : Nat → Nat} {P : Nat → Int} (h : Bth r w n o P) {m a b : Nat} (hm : m < n) (ha : a < n) (hb : b < n) (hr : rd n m a ≤ rd n m b) : fbk P (frC r n) m a ≤ fbk P (frC r n) m b := by
  have h1 := fbk_q (P := P) (F := frC r n) hm ha hb
  have h2 := (h.fbb ha hb).1
  rw [if_neg (by omega)] at h1
  omega
theorem Bth.rnd {r : Nat → Nat → Int} {w : Nat → Int} {n : Nat} {o : Nat → Nat} {P : Nat → Int} (h : Bth r w n o P) {m : Nat} (hm : m < n) : fbk P (frC r n) m (pv n m) + gpM w n o (pv n m) = frC r n := by
  have hb := pv_lt hm
  rw [h.gp hb]
  rcases Nat.eq_zero_or_pos m with e | e
  · subst e
    have e2 : pv n 0 = n - 1 := by simp [pv]
    rw [e2]
    simp only [fbk]
    rw [if_neg (by omega), if_pos (by omega)]; omega
  · have e2 : pv n m = m - 1 := by simp only [pv]; rw [if_neg (by omega)]
    rw [e2, if_neg (by omega)]
    simp only [fbk]
    rw [if_pos (by omega), show m - 1 + 1 = m by omega]; omega
/-- from the leftmost one on all points lie less than one round -/
theorem Bth.qlt {r : Nat → Nat → Int} {w : Nat → Int} {n : Nat} {o : Nat → Nat} {P : Nat → Int} (h : Bth r w n o P) {m : Nat} (hm : m < n) (hg : n = 1 ∨ ¬ gpM w n o (pv n m) = 0) {a : Nat} (ha : a < n) : fbk P (frC r n) m a < frC r n := by
  have hb := pv_lt hm
  have h1 := h.rnd hm
  have h2 := h.gpn hb
  have h3 := h.qm hm ha hb (by have := rd_all2 (n := n) (m := m) hb (nx_pv hm); have := rd_lt hm ha; omega)
  have h4 : ¬ gpM w n o (pv n m) = 0 := by
    rcases hg with g | g
    · have h5 := h.gp hb
      have h6 := h.fr
      rw [if_pos (by omega), show pv n m = 0 by omega] at h5
      rw [show pv n m = 0 by omega]; omega
    · exact g
  omega
theorem Bth.zq {r : Nat → Nat → Int} {w : Nat → Int} {n : Nat} {o : Nat → Nat} {P : Nat → Int} (h : Bth r w n o P) {m : Nat} (hm : m < n) (hg : n = 1 ∨ ¬ gpM w n o (pv n m) = 0) {a b : Nat} (ha : a < n) (hb : b < n) : fbk P (frC r n) a b = 0 ↔ rd n m a ≤ rd n m b ∧ fbk P (frC r n) m a = fbk P (frC r n) m b := by
  have h1 := fbk_q (P := P) (F := frC r n) hm ha hb
  have h2 := h.qlt hm hg ha
  have h3 := (h.fbb hm hb).1
  by_cases q : rd n m b < rd n m a
  · rw [if_pos q] at h1; omega
  · rw [if_neg q] at h1; omega
theorem cnt_rd {n m e : Nat} (hm : m < n) (he : e < n) : sumI (fun j => if rd n m j ≤ rd n m e then (1 : Int) else 0) n = 1 + ((rd n m e : Nat) : Int) := by
  have re : rd n m e = if m ≤ e then e - m else e + n - m := rfl
  by_cases q : e < m
  · have h1 := sum_out (fun _ => (1 : Int)) (show e + 1 ≤ m by omega) n (by omega)
    rw [sumI_one, sumI_one, sumI_one] at h1
    rw [if_neg (by omega)] at re
    rw [sumI_cong (g := fun j => if j < e + 1 ∨ m ≤ j then (1 : Int) else 0) (fun j hj => by
      have rj : rd n m j = if m ≤ j then j - m else j + n - m := rfl
      by_cases c : m ≤ j
      · rw [if_pos c] at rj
        rw [if_pos (by omega), if_pos (by omega)]
      · rw [if_neg c] at rj
        by_cases c2 : j < e + 1
        · rw [if_pos (by omega), if_pos (by omega)]
        · rw [if_neg (by omega), if_neg (by omega)]), h1]
    omega
  · have h1 := sum_rng (fun _ => (1 : Int)) (show m ≤ e + 1 by omega) n
    rw [sumI_one, sumI_one] at h1
    rw [if_pos (by omega)] at re
    rw [sumI_cong (g := fun j => if m ≤ j ∧ j < e + 1 then (1 : Int) else 0) (fun j hj => by
      have rj : rd n m j = if m ≤ j then j - m else j + n - m := rfl
      by_cases c : m ≤ j
      · rw [if_pos c] at rj
        by_cases c2 : j < e + 1
        · rw [if_pos (by omega), if_pos (by omega)]
        · rw [if_neg (by omega), if_neg (by omega)]
      · rw [if_neg c] at rj
        rw [if_neg (by omega), if_neg (by omega)]), h1]
    omega
theorem Bth.csq {r : Nat → Nat → Int} {w : Nat → Int} {n : Nat} {o : Nat → Nat} {P : Nat → Int} (h : Bth r w n o P) {k m e : Nat} (hk : k < n) (h1 : LmP w n o k m) (h2 : ReP w n o m e) : csC (r 0 0) n (r 1) (r 2) (o k) n = 1 + ((rd n m e : Nat) : Int) := by
  obtain ⟨hm, i1, hg⟩ := h1
  obtain ⟨he, i2, ge⟩ := h2
  have z1 := (h.il hm hk).mp i1
  have z2 := (h.il hm he).mp i2
  have hO := h.2.2.1
  have al : ∀ j, j < n → (fbk P (frC r n) m j = 0 ↔ rd n m j ≤ rd n m e) := by
    intro j hj
    constructor
    · intro hz
      rcases Nat.lt_or_ge (rd n m e) (rd n m j) with q | q
      · exfalso
        have lj := rd_lt hm hj
        have ne : nx n e ≠ m := fun q2 => by have := rd_all2 he q2; omega
        have r2 := rd_nx2 hm he ne
        have s1 := h.fbs hm he ne
        have s2 := h.qm hm (nx_lt he) hj (by omega)
        have s3 := h.gpn he
        omega
      · exact q
    · intro hr
      have := h.qm hm hj he hr
      have := (h.fbb hm hj).1
      omega
  simp only [csC]
  rw [← hO.2.1 (fun k9 => if fbtw (r 0 0) n (r 1) (r 2) k9 (o k) = 0 ∨ fbtw (r 0 0) n (r 1) (r 2) (o k) k9 = 0 then (1 : Int) else 0), ← cnt_rd hm he]
  refine sumI_cong (fun j hj => ?_)
  rw [h.fb hj hk, h.fb hk hj]
  have c1 := h.zq hm hg hj hk
  have c2 := h.zq hm hg hk hj
  have c3 := al j hj
  by_cases q : rd n m j ≤ rd n m e
  · rw [if_pos q, if_pos (by have := c3.mpr q; rcases Nat.le_total (rd n m j) (rd n m k) with g | g; exact Or.inl (c1.mpr ⟨g, by omega⟩); exact Or.inr (c2.mpr ⟨g, by omega⟩))]
  · rw [if_neg q, if_neg (by
      intro g
      refine q (c3.mp ?_)
      rcases g with g | g
      · have := (c1.mp g).2; omega
      · have := (c2.mp g).2; omega)]
theorem lmC_at (L : Int) (n : Nat) (pl le : Nat → Int) (f : Nat) : ∀ i, 0 ≤ (lmC L n pl le f i).2 ∧ (∀ j, j < i → fbtw L n pl le j f = 0 → dist L pl j f ≤ (lmC L n pl le f i).2) ∧ (((lmC L n pl le f i).1 = f ∧ (lmC L n pl le f i).2 = 0) ∨ ((lmC L n pl le f i).1 < i ∧ fbtw L n pl le (lmC L n pl le f i).1 f = 0 ∧ (lmC L n pl le f i).2 = dist L pl (lmC L n pl le f i).1 f))
  | 0 => ⟨by simp [lmC], fun j hj => absurd hj (Nat.not_lt_zero j), Or.inl ⟨rfl, rfl⟩⟩
  | i + 1 => by
    obtain ⟨h1, h2, h3⟩ := lmC_at L n pl le f i
    rw [lmC]
    by_cases q : fbtw L n pl le i f = 0 ∧ (lmC L n pl le f i).2 < dist L pl i f
    · rw [if_pos q]
      refine ⟨by show 0 ≤ dist L pl i f; omega, fun j hj hz => ?_, Or.inr ⟨Nat.lt_succ_self i, q.1, rfl⟩⟩
      show dist L pl j f ≤ dist L pl i f
      rcases Nat.lt_succ_iff_lt_or_eq.mp hj with g | g
      · have := h2 j g hz; omega
      · subst g; exact Int.le_refl _
    · rw [if_neg q]
      refine ⟨h1, fun j hj hz => ?_, ?_⟩
      · rcases Nat.lt_succ_iff_lt_or_eq.mp hj with g | g
        · exact h2 j g hz
        · subst g
          rcases Int.lt_or_le (lmC L n pl le f j).2 (dist L pl j f) with g2 | g2
          · exact absurd ⟨hz, g2⟩ q
          · exact g2
      · rcases h3 with g | ⟨g1, g2⟩
        · exact Or.inl g
        · exact Or.inr ⟨by omega, g2⟩
theorem Ord.far {L : Int} {n : Nat} {p l : Nat → Int} {o : Nat → Nat} {P : Nat → Int} (h : Ord L n p l o P) {m j k : Nat} (hm : m < n) (hj : j < n) (hk : k < n) (h1 : rd n m j ≤ rd n m k) (h2 : dist L p (o m) (o k) ≤ dist L p (o j) (o k)) : j = m := by
  rw [h.dst hm hk, h.dst hj hk] at h2
  have am := h.2.2.2.2 _ (h.1 m hm)
  have aj := h.2.2.2.2 _ (h.1 j hj)
  have ak := h.2.2.2.2 _ (h.1 k hk)
  simp only [rd] at h1
  rcases Nat.lt_trichotomy j m with q | q | q
  · exfalso
    have := h.2.2.1 j m q hm
    rw [if_neg (show ¬ m ≤ j by omega)] at h1
    rcases Nat.lt_or_ge k m with c | c
    · rw [if_neg (show ¬ m ≤ k by omega)] at h1
      rw [if_pos c, if_neg (by omega)] at h2
      omega
    · rw [if_pos c] at h1; omega
  · exact q
  · exfalso
    have := h.2.2.1 m j q hj
    rw [if_pos (show m ≤ j by omega)] at h1
    rcases Nat.lt_or_ge k m with c | c
    · rw [if_pos c, if_pos (by omega)] at h2
      omega
    · rw [if_pos c] at h1
      rw [if_neg (by omega), if_neg (by omega)] at h2
      omega
theorem Bth.lmq {r : Nat → Nat → Int} {w : Nat → Int} {n : Nat} {o : Nat → Nat} {P : Nat → Int} (h : Bth r w n o P) {k m : Nat} (hk : k < n) (h1 : LmP w n o k m) : (lmC (r 0 0) n (r 1) (r 2) (o k) n).1 = o m := by
  obtain ⟨hm, i1, hg⟩ := h1
  have z1 := (h.il hm hk).mp i1
  have hO := h.2.2.1
  obtain ⟨g1, g2, g3⟩ := lmC_at (r 0 0) n (r 1) (r 2) (o k) n
  have g4 := g2 (o m) (hO.1 m hm) (by rw [h.fb hm hk]; exact z1)
  rcases g3 with ⟨e1, e2⟩ | ⟨e1, e2, e3⟩
  · rw [e1]
    congr 1
    refine hO.far hm hk hk (Nat.le_refl _) ?_
    rw [hO.dst hk hk, if_neg (by omega)]; omega
  · obtain ⟨j, hj, e⟩ := hO.sur e1
    rw [← e] at e2 e3 ⊢
    congr 1
    rw [h.fb hj hk] at e2
    exact hO.far hm hj hk ((h.zq hm hg hj hk).mp e2).1 (by omega)
/-! the greatest gap -/
theorem ggC_at (L : Int) (n : Nat) (pl le : Nat → Int) : ∀ i, 0 ≤ ggC L n pl le i ∧ (∀ j, j < i → gapC L n pl le j n ≤ ggC L n pl le i) ∧ (ggC L n pl le i = 0 ∨ ∃ j, j < i ∧ ggC L n pl le i = gapC L n pl le j n)
  | 0 => ⟨by simp [ggC], fun j hj => absurd hj (Nat.not_lt_zero j), Or.inl rfl⟩
  | i + 1 => by
    obtain ⟨h1, h2, h3⟩ := ggC_at L n pl le i
    rw [ggC]
    refine ⟨by omega, fun j hj => ?_, ?_⟩
    · rcases Nat.lt_succ_iff_lt_or_eq.mp hj with g | g
      · have := h2 j g; omega
      · subst g; omega
    · rcases Int.lt_or_le (ggC L n pl le i) (gapC L n pl le i n) with g | g
      · exact Or.inr ⟨i, by omega, by omega⟩
      · rcases h3 with g4 | ⟨j, g1, g2⟩
        · exact Or.inl (by omega)
        · exact Or.inr ⟨j, by omega, by omega⟩
theorem mxM_at (w : Nat → Int) (n : Nat) (o : Nat → Nat) : ∀ i, 0 ≤ mxM w n o i ∧ (∀ j, j < i → gpM w n o j ≤ mxM w n o i) ∧ (mxM w n o i = 0 ∨ ∃ j, j < i ∧ mxM w n o i = gpM w n o j)
  | 0 => ⟨by simp [mxM], fun j hj => absurd hj (Nat.not_lt_zero j), Or.inl rfl⟩
  | i + 1 => by
    obtain ⟨h1, h2, h3⟩ := mxM_at w n o i
    rw [mxM]
    by_cases q : mxM w n o i < gpM w n o i
    · rw [if_pos q]
      refine ⟨by omega, fun j hj => ?_, Or.inr ⟨i, by omega, rfl⟩⟩
      rcases Nat.lt_succ_iff_lt_or_eq.mp hj with g | g
      · have := h2 j g; omega
      · subst g; omega
    · rw [if_neg q]
      refine ⟨h1, fun j hj => ?_, ?_⟩
      · rcases Nat.lt_succ_iff_lt_or_eq.mp hj with g | g
        · exact h2 j g
        · subst g; omega
      · rcases h3 with g4 | ⟨j, g1, g2⟩
        · exact Or.inl g4
        · exact Or.inr ⟨j, by omega, g2⟩
theorem Bth.ggq {r : Nat → Nat → Int} {w : Nat → Int} {n : Nat} {o : Nat → Nat} {P : Nat → Int} (h : Bth r w n o P) : ggC (r 0 0) n (r 1) (r 2) n = mxM w n o n := by
  obtain ⟨a1, a2, a3⟩ := ggC_at (r 0 0) n (r 1) (r 2) n
  obtain ⟨b1, b2, b3⟩ := mxM_at w n o n
  have hO := h.2.2.1
  have c1 : ggC (r 0 0) n (r 1) (r 2) n ≤ mxM w n o n := by
    rcases a3 with g | ⟨j, g1, g2⟩
    · omega
    · obtain ⟨k, hk, rfl⟩ := hO.sur g1
      have := b2 k hk
      rw [h.gapq hk] at g2; omega
  have c2 : mxM w n o n ≤ ggC (r 0 0) n (r 1) (r 2) n := by
    rcases b3 with g | ⟨j, g1, g2⟩
    · omega
    · have := a2 (o j) (hO.1 j g1)
      rw [h.gapq g1] at this; omega
  omega
theorem Bth.cnt8 {r : Nat → Nat → Int} {w : Nat → Int} {n : Nat} {o : Nat → Nat} {P : Nat → Int} (h : Bth r w n o P) : sumI (fun j => if 0 < gapC (r 0 0) n (r 1) (r 2) j n then 1 else 0) n = sumI (fun k => if 0 < gpM w n o k then 1 else 0) n := by
  rw [← h.2.2.1.2.1 (fun j => if 0 < gapC (r 0 0) n (r 1) (r 2) j n then 1 else 0)]
  exact sumI_cong (fun j hj => by rw [h.gapq hj])
theorem Bth.pos {r : Nat → Nat → Int} {w : Nat → Int} {n : Nat} {o : Nat → Nat} {P : Nat → Int} (h : Bth r w n o P) (hn : 0 < n) : ∃ j, j < n ∧ 0 < gpM w n o j := by
  rcases Classical.em (∃ j, j < n ∧ 0 < gpM w n o j) with q | q
  · exact q
  · exfalso
    have all : ∀ j, j < n → gpM w n o j ≤ 0 := fun j hj => by
      rcases Int.lt_or_le 0 (gpM w n o j) with g | g
      · exact absurd ⟨j, hj, g⟩ q
      · exact g
    have z := (h.z_iff hn _ (pv n 0) (pv_lt hn) rfl).mpr (fun j hj _ => all j hj)
    have := h.rnd hn
    have := all _ (pv_lt hn)
    have := h.fr
    omega
theorem GpP.mk {r : Nat → Nat → Int} {w : Nat → Int} {n : Nat} (hok : Ok r n) (hR : Rw r w n) (hg : Geo (r 0 0) n (r 1) (r 2)) : GpP w n := fun o od pt hL hn => (hL.bth hok hR hg).pos hn
