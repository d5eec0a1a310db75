/-! all moments: marks and numbers -/
theorem mpB_bit {r : Nat → Nat → Int} {n : Nat} {t : Int} {sm : Nat → Nat} {a : Nat} (row bit : Nat) : ∀ b, ((mpB r n t sm a b row).testBit bit = true ↔ ((sm row).testBit bit = true ∨ ∃ y s, y < b ∧ s < (crC r n t a y).toNat ∧ redP ((fbC r n a y).toNat + s * (freeL (r 0 0) n (r 2)).toNat) (clC r a y).toNat row bit))
  | 0 => by
    rw [mpB]
    exact ⟨Or.inl, fun h => h.elim id (fun ⟨y, s, h, _⟩ => absurd h (Nat.not_lt_zero y))⟩
  | b + 1 => by
    rw [mpB, mmC, mrkT_bit, mpB_bit row bit b]
    constructor
    · rintro ((h | ⟨y, s, h1, h2⟩) | ⟨s, h1, h2⟩)
      · exact Or.inl h
      · exact Or.inr ⟨y, s, by omega, h2⟩
      · exact Or.inr ⟨b, s, by omega, h1, h2⟩
    · rintro (h | ⟨y, s, h1, h2⟩)
      · exact Or.inl (Or.inl h)
      · rcases Nat.lt_succ_iff_lt_or_eq.mp h1 with q | q
        · exact Or.inl (Or.inr ⟨y, s, q, h2⟩)
        · subst q; exact Or.inr ⟨s, h2⟩
theorem mpA_bit {r : Nat → Nat → Int} {n : Nat} {t : Int} {sm : Nat → Nat} (row bit : Nat) : ∀ a, ((mpA r n t sm a row).testBit bit = true ↔ ((sm row).testBit bit = true ∨ ∃ x y s, x < a ∧ y < n ∧ s < (crC r n t x y).toNat ∧ redP ((fbC r n x y).toNat + s * (freeL (r 0 0) n (r 2)).toNat) (clC r x y).toNat row bit))
  | 0 => by
    rw [mpA]
    exact ⟨Or.inl, fun h => h.elim id (fun ⟨x, y, s, h, _⟩ => absurd h (Nat.not_lt_zero x))⟩
  | a + 1 => by
    rw [mpA, mpB_bit, mpA_bit row bit a]
    constructor
    · rintro ((h | ⟨x, y, s, h1, h2⟩) | ⟨y, s, h1, h2⟩)
      · exact Or.inl h
      · exact Or.inr ⟨x, y, s, by omega, h2⟩
      · exact Or.inr ⟨a, y, s, by omega, h1, h2⟩
    · rintro (h | ⟨x, y, s, h1, h2⟩)
      · exact Or.inl (Or.inl h)
      · rcases Nat.lt_succ_iff_lt_or_eq.mp h1 with q | q
        · exact Or.inl (Or.inr ⟨x, y, s, q, h2⟩)
        · subst q; exact Or.inr ⟨y, s, h2⟩
theorem sum_pt (f : Nat → Nat) (i : Nat) : ∀ c, (∀ j j', j < j' → j' < c → f j ≠ f j') → (∃ j, j < c ∧ f j = i) → sumI (fun j => if f j = i then (1 : Int) else 0) c = 1
  | 0, _, h => by obtain ⟨j, hj, _⟩ := h; omega
  | c + 1, hd, h => by
    rw [sumI_s]
    obtain ⟨j, hj, e⟩ := h
    by_cases q : f c = i
    · rw [if_pos q, sumI_zero (fun k hk => by rw [if_neg (fun e2 => hd k c hk (by omega) (by rw [e2, q]))])]; omega
    · rw [if_neg q, sum_pt f i c (fun a b hab hb => hd a b hab (by omega)) ⟨j, by rcases Nat.lt_succ_iff_lt_or_eq.mp hj with g | g; exact g; subst g; exact absurd e q, e⟩]; omega
theorem sum_hit {x N : Nat} (h : x < N) : sumI (fun i => if x = i then (1 : Int) else 0) N = 1 := by
  refine Eq.trans (sumI_cong (fun i _ => ?_)) (sum_pt (fun i => i) x N (fun a b hab _ => by omega) ⟨x, h, rfl⟩)
  by_cases q : x = i
  · rw [if_pos q, if_pos q.symm]
  · rw [if_neg q, if_neg (fun e => q e.symm)]
/-- as many marks as numbers -/
theorem sum_bij {N c : Nat} {f : Nat → Nat} {χ : Nat → Bool} (h1 : ∀ j, j < c → f j < N ∧ χ (f j) = true) (h2 : ∀ j j', j < j' → j' < c → f j ≠ f j') (h3 : ∀ i, i < N → χ i = true → ∃ j, j < c ∧ f j = i) : sumI (fun i => if χ i = true then (1 : Int) else 0) N = (c : Int) := by
  rw [sumI_cong (g := fun i => sumI (fun j => if f j = i then (1 : Int) else 0) c) (fun i hi => by
    by_cases q : χ i = true
    · rw [if_pos q, sum_pt f i c h2 (h3 i hi q)]
    · rw [if_neg q, sumI_zero (fun j hj => by rw [if_neg (fun e => q (by rw [← e]; exact (h1 j hj).2))])])]
  rw [sum_swap (fun i j => if f j = i then (1 : Int) else 0) c N, sumI_cong (g := fun _ => (1 : Int)) (fun j hj => sum_hit (h1 j hj).1), sumI_one]
theorem sum_blk (f : Nat → Int) (b : Nat) : ∀ a, sumI (fun row => sumI (fun bit => f (row * b + bit)) b) a = sumI f (a * b)
  | 0 => by rw [Nat.zero_mul]; rfl
  | a + 1 => by
    rw [sumI_s, sum_blk f b a, Nat.succ_mul]
    have cut : ∀ d, sumI f (a * b + d) = sumI f (a * b) + sumI (fun bit => f (a * b + bit)) d := by
      intro d
      induction d with
      | zero => rw [Nat.add_zero]; show _ = _ + (0 : Int); omega
      | succ d ih => rw [← Nat.add_assoc, sumI_s, ih, sumI_s]; omega
    exact (cut b).symm
/-- the number of a fraction, and its reduced form -/
theorem key_red {u d K : Nat} (hd : 1 ≤ d ∧ d ≤ 18) (hK : K = u * (12252240 / d)) : K / Nat.gcd K 12252240 = u / Nat.gcd u d ∧ 12252240 / Nat.gcd K 12252240 = d / Nat.gcd u d := by
  refine red_eq (by omega) (by omega) ?_
  have e : 12252240 / d * d = 12252240 := by
    have := (by decide : ∀ d, d < 19 → 1 ≤ d → 12252240 / d * d = 12252240) d (by omega) hd.1
    exact this
  rw [hK, Nat.mul_assoc, e]
theorem key_one {K K2 Q : Nat} (hQ : 0 < Q) (h1 : K / Nat.gcd K Q = K2 / Nat.gcd K2 Q) (h2 : Q / Nat.gcd K Q = Q / Nat.gcd K2 Q) : K = K2 := by
  have a1 := Nat.div_mul_cancel (Nat.gcd_dvd_left K Q)
  have a2 := Nat.div_mul_cancel (Nat.gcd_dvd_right K Q)
  have b1 := Nat.div_mul_cancel (Nat.gcd_dvd_left K2 Q)
  have b2 := Nat.div_mul_cancel (Nat.gcd_dvd_right K2 Q)
  have hq : 0 < Q / Nat.gcd K Q := Nat.div_pos (Nat.gcd_le_right K hQ) (Nat.gcd_pos_of_pos_right K hQ)
  have e : Nat.gcd K Q = Nat.gcd K2 Q := by
    have : Nat.gcd K Q * (Q / Nat.gcd K Q) = Nat.gcd K2 Q * (Q / Nat.gcd K Q) := by
      rw [Nat.mul_comm, a2, h2, Nat.mul_comm, b2]
    exact Nat.eq_of_mul_eq_mul_right hq this
  rw [← a1, h1, e, b1]
theorem keyM_nat {r : Nat → Nat → Int} {w : Nat → Int} {n : Nat} {o : Nat → Nat} {P : Nat → Int} (B : Bth r w n o P) {a b x y s : Nat} (h1 : ahM w n o P a b = fbC r n x y) (h2 : dfM w o a b = clC r x y) (h3 : 0 ≤ fbC r n x y) (h4 : 0 < clC r x y) : keyM w n o P a b s = ((((fbC r n x y).toNat + s * (freeL (r 0 0) n (r 2)).toNat) * (12252240 / (clC r x y).toNat) : Nat) : Int) := by
  have hF := B.fr
  have hf : freeL (r 0 0) n (r 2) = frC r n := rfl
  simp only [keyM]
  rw [h1, h2, B.2.2.2.2, hf]
  obtain ⟨f, ef⟩ : ∃ f : Nat, fbC r n x y = (f : Int) := ⟨(fbC r n x y).toNat, by omega⟩
  obtain ⟨d, ed⟩ : ∃ d : Nat, clC r x y = (d : Int) := ⟨(clC r x y).toNat, by omega⟩
  obtain ⟨F, eF⟩ : ∃ F : Nat, frC r n = (F : Int) := ⟨(frC r n).toNat, by omega⟩
  rw [ef, ed, eF, Int.toNat_natCast, Int.toNat_natCast, Int.toNat_natCast, Int.natCast_mul, Int.natCast_add, Int.natCast_mul]
  rfl
theorem blk {A B : Nat} (h : B < 64) : (A * 64 + B) / 64 = A ∧ (A * 64 + B) % 64 = B := by omega
theorem blk2 {A B C D : Nat} (hB : B < 64) (hD : D < 64) (h : A * 64 + B = C * 64 + D) : B = D ∧ A = C := by omega
theorem moments_rel {r : Nat → Nat → Int} {w : Nat → Int} {n : Nat} (hok : Ok r n) (hR : Rw r w n) (hg : Geo (r 0 0) n (r 1) (r 2)) {t z z2 : Int} (hC : tMoments r n t z) (hM : mMoments w n t z2) : z = z2 := by
  rcases hC with ⟨c1, c2⟩ | ⟨c1, sm, hs, ez⟩
  · rcases hM with ⟨m1, m2⟩ | ⟨m1, -⟩ <;> omega
  · rcases hM with ⟨m1, m2⟩ | ⟨m1, o, od, P, mo, c, hL, hI, ez2⟩
    · omega
    have B := hL.bth hok hR hg
    have hO := B.2.2.1
    have hnn : ∀ a b, a < n → b < n → 0 ≤ fbC r n a b := fun a b ha hb => hO.fnn hg B.fr ha hb
    have hF := B.fr
    have hf : freeL (r 0 0) n (r 2) = frC r n := rfl
    have hfw : frM w n = frC r n := B.2.2.2.2
    have hmk := hR.mok hok
    have lt61 := mpA_lt hok hnn c1 (zer_lt hs 19) n (Nat.le_refl n)
    have kd : ∀ j, j < c → ∃ x y s u d : Nat, x < n ∧ y < n ∧ s < (crC r n t x y).toNat ∧ u = (fbC r n x y).toNat + s * (freeL (r 0 0) n (r 2)).toNat ∧ d = (clC r x y).toNat ∧ (1 ≤ d ∧ d ≤ 18) ∧ u ≤ 54 ∧ (mo j).toNat = u * (12252240 / d) ∧ mo j = (((mo j).toNat : Nat) : Int) := by
      intro j hj
      obtain ⟨a, b, s, hab, hb, hs2, ek⟩ := hI.1 j hj
      have t1 := tm_in hmk P hs2
      obtain ⟨x, y, hx, hy, hc, e1, e2, e3, e4⟩ := B.riap (show a < n by omega) hb t1.1
      have hc2 := hok.cl hx hy
      rw [keyM_nat B e1 e2 e3 hc] at ek
      refine ⟨x, y, s, _, _, hx, hy, ?_, rfl, rfl, by omega, ?_, by rw [ek]; exact Int.toNat_natCast _, by rw [ek, Int.toNat_natCast]⟩
      · rw [e4] at hs2; omega
      · have h9 := t1.2
        rw [e1, e2, hfw] at h9
        obtain ⟨f, ef⟩ : ∃ f : Nat, fbC r n x y = (f : Int) := ⟨(fbC r n x y).toNat, by omega⟩
        obtain ⟨F, eF⟩ : ∃ F : Nat, frC r n = (F : Int) := ⟨(frC r n).toNat, by omega⟩
        have h8 : clC r x y * t ≤ 18 * 3 := Int.mul_le_mul hc2.2 c1.2 (by omega) (by omega)
        rw [hf, ef, eF, Int.toNat_natCast, Int.toNat_natCast]
        rw [ef, eF, ← Int.natCast_mul] at h9
        omega
    have hz : z = sumI (fun i => if (mpA r n t (zer sm 19) n (i / 64)).testBit (i % 64) = true then (1 : Int) else 0) (19 * 64) := by
      rw [ez, ← sum_blk _ 64 19]
      refine sumI_cong (fun row hrow => ?_)
      rw [popN_eq (by have := lt61 row; omega)]
      refine sumI_cong (fun bit hbit => ?_)
      rw [show (row * 64 + bit) / 64 = row by omega, show (row * 64 + bit) % 64 = bit by omega]
    have at_ : ∀ j, j < c → (12252240 / Nat.gcd (mo j).toNat 12252240 ≤ 18) ∧ ((mo j).toNat / Nat.gcd (mo j).toNat 12252240 ≤ 54) ∧ (mpA r n t (zer sm 19) n (12252240 / Nat.gcd (mo j).toNat 12252240)).testBit ((mo j).toNat / Nat.gcd (mo j).toNat 12252240) = true := by
      intro j hj
      obtain ⟨x, y, s, u, d, hx, hy, hs1, eu, ed, hd, hu, eK, -⟩ := kd j hj
      have kr := key_red hd eK
      have l1 := Nat.div_le_self d (Nat.gcd u d)
      have l2 := Nat.div_le_self u (Nat.gcd u d)
      refine ⟨by rw [kr.2]; omega, by rw [kr.1]; omega, ?_⟩
      rw [mpA_bit]
      exact Or.inr ⟨x, y, s, hx, hy, hs1, by rw [← eu, ← ed]; exact ⟨kr.2, kr.1⟩⟩
    have hb := sum_bij (N := 19 * 64) (c := c) (f := fun j => 12252240 / Nat.gcd (mo j).toNat 12252240 * 64 + (mo j).toNat / Nat.gcd (mo j).toNat 12252240) (χ := fun i => (mpA r n t (zer sm 19) n (i / 64)).testBit (i % 64)) (fun j hj => by
      obtain ⟨a1, a2, a3⟩ := at_ j hj
      refine ⟨by omega, ?_⟩
      show (mpA r n t (zer sm 19) n _).testBit _ = true
      rw [(blk (by omega)).1, (blk (by omega)).2]
      exact a3) (fun j j' hjj hj' e => by
      obtain ⟨a1, a2, a3⟩ := at_ j (by omega)
      obtain ⟨b1, b2, b3⟩ := at_ j' hj'
      obtain ⟨x, y, s, u, d, -, -, -, -, -, -, -, -, ea⟩ := kd j (by omega)
      obtain ⟨x2, y2, s2, u2, d2, -, -, -, -, -, -, -, -, eb⟩ := kd j' hj'
      have e9 : 12252240 / Nat.gcd (mo j).toNat 12252240 * 64 + (mo j).toNat / Nat.gcd (mo j).toNat 12252240 = 12252240 / Nat.gcd (mo j').toNat 12252240 * 64 + (mo j').toNat / Nat.gcd (mo j').toNat 12252240 := e
      have k1 := key_one (K := (mo j).toNat) (K2 := (mo j').toNat) (Q := 12252240) (by omega) (blk2 (by omega) (by omega) e9).1 (blk2 (by omega) (by omega) e9).2
      exact hI.2.2.1 j j' hjj hj' (by rw [ea, eb, k1])) (fun i hi hχ => by
      have hχ2 : (mpA r n t (zer sm 19) n (i / 64)).testBit (i % 64) = true := hχ
      rw [mpA_bit] at hχ2
      rcases hχ2 with q | ⟨x, y, s, hx, hy, hs1, hrd⟩
      · exfalso
        simp only [zer] at q
        rw [if_pos (by omega), Nat.zero_testBit] at q
        exact absurd q (by decide)
      · have hc : 0 < clC r x y := by
          rcases Int.lt_or_le 0 (clC r x y) with g | g
          · exact g
          · rw [crC_no g] at hs1; exact absurd hs1 (Nat.not_lt_zero s)
        have hc2 := hok.cl hx hy
        obtain ⟨a, b, hab, hb, e1, e2, e3, e4⟩ := B.pair hx hy hc
        obtain ⟨j, hj, ek⟩ := hI.2.1 a b s hab hb (Or.inl hb) (by rw [e4]; omega)
        rw [keyM_nat B e1 e2 e3 hc] at ek
        have eK := congrArg Int.toNat ek
        rw [Int.toNat_natCast] at eK
        have kr := key_red (d := (clC r x y).toNat) (by omega) eK
        refine ⟨j, hj, ?_⟩
        show 12252240 / Nat.gcd (mo j).toNat 12252240 * 64 + (mo j).toNat / Nat.gcd (mo j).toNat 12252240 = i
        rw [kr.1, kr.2, ← hrd.1, ← hrd.2]; omega)
    rw [hz, ez2]; exact hb
