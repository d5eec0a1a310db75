/-! fractions in lowest terms -/
theorem red_core {A B C D g k : Nat} (hg : 0 < g) (hk : 0 < k) (c1 : Nat.Coprime A B) (c2 : Nat.Coprime C D) (hB : 0 < B) (h : A * g * (D * k) = C * k * (B * g)) : A = C ∧ B = D := by
  have e : A * D = C * B := by
    have e2 : (A * D) * (g * k) = (C * B) * (g * k) := by
      rw [Nat.mul_mul_mul_comm A g D k, Nat.mul_mul_mul_comm C k B g, Nat.mul_comm k g] at h
      exact h
    exact Nat.eq_of_mul_eq_mul_right (Nat.mul_pos hg hk) e2
  have h1 : B ∣ D := Nat.Coprime.dvd_of_dvd_mul_left (Nat.Coprime.symm c1) ⟨C, by rw [e, Nat.mul_comm]⟩
  have h2 : D ∣ B := Nat.Coprime.dvd_of_dvd_mul_left (Nat.Coprime.symm c2) ⟨A, by rw [← e, Nat.mul_comm]⟩
  have h3 := Nat.dvd_antisymm h1 h2
  subst h3
  exact ⟨Nat.eq_of_mul_eq_mul_right hB e, rfl⟩
theorem red_eq {a b c d : Nat} (hb : 0 < b) (hd : 0 < d) (h : a * d = c * b) : a / Nat.gcd a b = c / Nat.gcd c d ∧ b / Nat.gcd a b = d / Nat.gcd c d := by
  have hg : 0 < Nat.gcd a b := Nat.gcd_pos_of_pos_right a hb
  have hk : 0 < Nat.gcd c d := Nat.gcd_pos_of_pos_right c hd
  have ea := Nat.div_mul_cancel (Nat.gcd_dvd_left a b)
  have eb := Nat.div_mul_cancel (Nat.gcd_dvd_right a b)
  have ec := Nat.div_mul_cancel (Nat.gcd_dvd_left c d)
  have ed := Nat.div_mul_cancel (Nat.gcd_dvd_right c d)
  refine red_core hg hk (Nat.coprime_div_gcd_div_gcd hg) (Nat.coprime_div_gcd_div_gcd hk) (Nat.div_pos (Nat.gcd_le_right a hb) hg) ?_
  rw [ea, eb, ec, ed]; exact h
/-- two of the same value -/
theorem frac_eq {x y u l u2 l2 : Int} (hl : 0 < l) (hl2 : 0 < l2) (h : u * l2 = u2 * l) : x * l = u * y ↔ x * l2 = u2 * y := by
  constructor
  · intro g
    have e : l * (x * l2) = l * (u2 * y) := by
      have a1 : l * (x * l2) = (x * l) * l2 := by rw [← Int.mul_assoc, Int.mul_comm l x]
      have a2 : l * (u2 * y) = (u2 * l) * y := by rw [← Int.mul_assoc, Int.mul_comm l u2]
      rw [a1, a2, g, ← h, Int.mul_assoc, Int.mul_comm y l2, ← Int.mul_assoc]
    exact Int.eq_of_mul_eq_mul_left (by omega) e
  · intro g
    have e : l2 * (x * l) = l2 * (u * y) := by
      have a1 : l2 * (x * l) = (x * l2) * l := by rw [← Int.mul_assoc, Int.mul_comm l2 x]
      have a2 : l2 * (u * y) = (u * l2) * y := by rw [← Int.mul_assoc, Int.mul_comm l2 u]
      rw [a1, a2, g, h, Int.mul_assoc, Int.mul_comm y l, ← Int.mul_assoc]
    exact Int.eq_of_mul_eq_mul_left (by omega) e
/-- a pair of rods as a pair of ranks -/
theorem Bth.pair {r : Nat → Nat → Int} {w : Nat → Int} {n : Nat} {o : Nat → Nat} {P : Nat → Int} (h : Bth r w n o P) {a b : Nat} (ha : a < n) (hb : b < n) (hc : 0 < clC r a b) : ∃ i k, i < k ∧ k < n ∧ ahM w n o P i k = fbC r n a b ∧ dfM w o i k = clC r a b ∧ 0 ≤ fbC r n a b ∧ ∀ t, tmM w n o P t i k = crC r n t a b := by
  have hO := h.2.2.1
  obtain ⟨x, hx, rfl⟩ := hO.sur ha
  obtain ⟨y, hy, rfl⟩ := hO.sur hb
  have sy := cl_sy r (o x) (o y)
  have hf := h.nnf hx hy
  rcases Nat.lt_trichotomy x y with q | q | q
  · refine ⟨x, y, q, hy, ?_, ?_, hf, fun t => ?_⟩
    · rw [h.ah hx hy, if_neg (by omega), if_pos hc]
    · rw [h.df hx hy, if_pos hc]
    · rw [(h.tm t hx hy).1, crC_no (n := n) (t := t) (show clC r (o y) (o x) ≤ 0 by omega)]; omega
  · subst q; omega
  · refine ⟨y, x, q, hx, ?_, ?_, hf, fun t => ?_⟩
    · rw [h.ah hy hx, if_neg (by omega), if_neg (by omega)]
    · rw [h.df hy hx, if_neg (by omega)]
    · rw [(h.tm t hy hx).1, crC_no (n := n) (t := t) (show clC r (o y) (o x) ≤ 0 by omega)]; omega
/-- a pair of ranks as one of rods -/
theorem Bth.riap {r : Nat → Nat → Int} {w : Nat → Int} {n : Nat} {o : Nat → Nat} {P : Nat → Int} (h : Bth r w n o P) {i k : Nat} (hi : i < n) (hk : k < n) (hc : 0 ≤ ahM w n o P i k) : ∃ a b, a < n ∧ b < n ∧ 0 < clC r a b ∧ ahM w n o P i k = fbC r n a b ∧ dfM w o i k = clC r a b ∧ 0 ≤ fbC r n a b ∧ ∀ t, tmM w n o P t i k = crC r n t a b := by
  have hO := h.2.2.1
  have sy := cl_sy r (o i) (o k)
  have e1 := h.ah hi hk
  have e2 := h.df hi hk
  rcases Int.lt_trichotomy (clC r (o i) (o k)) 0 with q | q | q
  · rw [if_neg (by omega), if_neg (by omega)] at e1
    rw [if_neg (by omega)] at e2
    exact ⟨o k, o i, hO.1 k hk, hO.1 i hi, by omega, e1, e2, h.nnf hk hi, fun t => by rw [(h.tm t hi hk).1, crC_no (n := n) (t := t) (show clC r (o i) (o k) ≤ 0 by omega)]; omega⟩
  · rw [if_pos q] at e1; omega
  · rw [if_neg (by omega), if_pos q] at e1
    rw [if_pos q] at e2
    exact ⟨o i, o k, hO.1 i hi, hO.1 k hk, q, e1, e2, h.nnf hi hk, fun t => by rw [(h.tm t hi hk).1, crC_no (n := n) (t := t) (show clC r (o k) (o i) ≤ 0 by omega)]; omega⟩
theorem hit_no {r : Nat → Nat → Int} {n : Nat} {u l : Int} {x y : Nat} (g : clC r x y ≤ 0) : hitC r n u l x y = 0 := by simp only [hitC]; rw [if_neg (by omega)]
theorem Bth.hit {r : Nat → Nat → Int} {w : Nat → Int} {n : Nat} {o : Nat → Nat} {P : Nat → Int} (h : Bth r w n o P) {u l u2 l2 : Int} (hl : 0 < l) (hl2 : 0 < l2) (he : u * l2 = u2 * l) {i k : Nat} (hi : i < n) (hk : k < n) : hitM w n o P u2 l2 i k = hitC r n u l (o i) (o k) + hitC r n u l (o k) (o i) := by
  have sy := cl_sy r (o i) (o k)
  have e1 := h.ah hi hk
  have e2 := h.df hi hk
  have n1 := h.nnf hi hk
  have n2 := h.nnf hk hi
  have z : ∀ x y : Nat, clC r x y ≤ 0 → hitC r n u l x y = 0 := fun x y g => by simp only [hitC]; rw [if_neg (by omega)]
  have one : ∀ x y : Nat, 0 < clC r x y → 0 ≤ fbC r n x y → ahM w n o P i k = fbC r n x y → dfM w o i k = clC r x y → hitM w n o P u2 l2 i k = hitC r n u l x y := by
    intro x y g1 g2 g3 g4
    simp only [hitM, hitC]
    rw [g3, g4]
    have f := frac_eq (x := fbC r n x y) (y := clC r x y) hl hl2 he
    by_cases q : fbC r n x y * l = u * clC r x y
    · rw [if_pos ⟨g2, f.mp q⟩, if_pos ⟨g1, q⟩]
    · rw [if_neg (fun g => q (f.mpr g.2)), if_neg (fun g => q g.2)]
  rcases Int.lt_trichotomy (clC r (o i) (o k)) 0 with q | q | q
  · rw [if_neg (by omega), if_neg (by omega)] at e1
    rw [if_neg (by omega)] at e2
    rw [one (o k) (o i) (by omega) n2 e1 e2, z (o i) (o k) (by omega)]; omega
  · rw [if_pos q] at e1
    rw [z (o i) (o k) (by omega), z (o k) (o i) (by omega)]
    simp only [hitM]; rw [if_neg (by omega)]; rfl
  · rw [if_neg (by omega), if_pos q] at e1
    rw [if_pos q] at e2
    rw [one (o i) (o k) q n1 e1 e2, z (o k) (o i) (by omega)]; omega
theorem next_rel {r : Nat → Nat → Int} {w : Nat → Int} {n : Nat} (hok : Ok r n) (hR : Rw r w n) (hg : Geo (r 0 0) n (r 1) (r 2)) {v z z2 : Int} (hC : tNext r n v z) (hM : mNext w n v z2) : z = z2 := by
  rcases hC with ⟨c1, c2⟩ | ⟨c1, u, l, m, ⟨a, b, hF, eu, el⟩, hz⟩
  · rcases hM with ⟨m1, m2⟩ | ⟨m1, -⟩ <;> omega
  · rcases hM with ⟨m1, m2⟩ | ⟨m1, o, od, P, u2, l2, m2, hL, hI, hz2⟩
    · omega
    have B := hL.bth hok hR hg
    have hO := B.2.2.1
    obtain ⟨f1, f2, f3, f4, f5, f6, f7⟩ := hF
    have dn : ∀ x y, x < n → y < n → dnC n 0 x y := fun x y hx hy => Or.inl hx
    have dm : ∀ x y, x < y → y < n → dnM n 0 x y := fun x y hx hy => Or.inl hy
    by_cases q : m = 0
    · have al := f4 q
      rcases hI with ⟨i1, i2, i3, i4⟩ | ⟨i1, i2, i3, i4, ⟨x, y, hxy, hy, g1, g2, g3⟩, i6⟩
      · rcases hz with ⟨-, hz⟩ | ⟨h9, -⟩
        · rcases hz2 with ⟨-, hz2⟩ | ⟨a9, b9, h8, -⟩
          · omega
          · omega
        · exact absurd q h9
      · exfalso
        obtain ⟨x2, y2, k1, k2, k3, -⟩ := B.riap (show x < n by omega) hy g1
        have := al x2 y2 k1 k2 (dn x2 y2 k1 k2); omega
    · have hm : 0 < m := by omega
      obtain ⟨x, y, hx, hy, hc, eu1, el1⟩ := f6 hm
      obtain ⟨i, k, hik, hk, p1, p2, p3, -⟩ := B.pair hx hy hc
      rcases hI with ⟨i1, i2, i3, i4⟩ | ⟨i1, i2, i3, i4, ⟨x3, y3, hxy, hy3, g1, g2, g3⟩, i6⟩
      · exfalso
        have := i4 i k hik hk (dm i k hik hk); omega
      · obtain ⟨x2, y2, k1, k2, k3, k4, k5, -⟩ := B.riap (show x3 < n by omega) hy3 g1
        have q1 := f5 hm x2 y2 k1 k2 (dn x2 y2 k1 k2) k3
        rw [← k4, ← k5, ← g2, ← g3] at q1
        have q2 := i4 i k hik hk (dm i k hik hk) (by omega)
        rw [p1, p2, ← eu1, ← el1] at q2
        have he : (a : Int) * l2 = u2 * (b : Int) := by omega
        have hb0 : 0 < (b : Int) := by omega
        have em : m = m2 := by
          rw [f7, i6]
          simp only [cntC, cntM]
          have s0 : ∀ f : Nat → Int, sumI f 0 = 0 := fun _ => rfl
          rw [s0, s0, hO.two, sum_tri (fun x y => hitC r n (a : Int) (b : Int) (o x) (o y)) (fun k => hit_no (by simp only [clC]; omega))]
          congr 1
          exact sumI_cong (fun k hk => sumI_cong (fun i hi => (B.hit hb0 (by omega) he (show i < n by omega) hk).symm))
        rcases hz with ⟨h9, -⟩ | ⟨-, hz⟩
        · omega
        · rcases hz2 with ⟨h8, -⟩ | ⟨a2, b2, ea2, eb2, hz2⟩
          · omega
          · rw [ea2, eb2] at he
            have he2 : a * b2 = a2 * b := by
              have : ((a * b2 : Nat) : Int) = ((a2 * b : Nat) : Int) := by rw [Int.natCast_mul, Int.natCast_mul]; exact he
              exact Int.ofNat.inj this
            have rd := red_eq (show 0 < b by omega) (show 0 < b2 by omega) he2
            rw [Nat.gcd_comm b2 a2] at hz2
            rw [← rd.1, ← rd.2] at hz2
            omega
