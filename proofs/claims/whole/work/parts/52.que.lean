/-! the queries -/
theorem op_rod {r : Nat → Nat → Int} {w : Nat → Int} {n : Nat} (hs : StR r w n) {x v z z2 : Int} (hC : tRod r n x v z) (hM : mRod w n x v z2) : z = z2 := by
  rcases hC with ⟨c1, c2⟩ | ⟨g, c1, c2, c3⟩
  · rcases hM with ⟨m1, m2⟩ | ⟨g2, m1, m2, -⟩ <;> omega
  · rcases hM with ⟨m1, m2⟩ | ⟨g2, m1, m2, m3⟩
    · omega
    have : g2 = g := by omega
    subst this
    have e := hs.2.1.2 _ c2
    rcases m3 with m3 | m3 | m3 | m3 | m3 | ⟨o, od, P, k, hL, hk, eo, m3⟩
    · rcases c3 with c3 | c3 | c3 | c3 | c3 | c3 | c3 | c3 | c3 <;> omega
    · rcases c3 with c3 | c3 | c3 | c3 | c3 | c3 | c3 | c3 | c3 <;> omega
    · rcases c3 with c3 | c3 | c3 | c3 | c3 | c3 | c3 | c3 | c3 <;> omega
    · rcases c3 with c3 | c3 | c3 | c3 | c3 | c3 | c3 | c3 | c3 <;> omega
    · rcases c3 with c3 | c3 | c3 | c3 | c3 | c3 | c3 | c3 | c3 <;> omega
    · have B := hL.bth hs.1 hs.2.1 hs.2.2.1
      subst eo
      rcases m3 with ⟨m3, m4⟩ | ⟨m3, m4⟩ | ⟨m3, m, f, hl, hr, m4⟩ | ⟨m3, m, hl, m4⟩
      · have q := B.gapq hk
        rcases c3 with c3 | c3 | c3 | c3 | c3 | c3 | c3 | c3 | c3 <;> omega
      · have q := B.nrq hk
        rw [← q] at m4
        rcases c3 with c3 | c3 | c3 | c3 | c3 | c3 | c3 | c3 | c3 <;> omega
      · have q := B.csq hk hl hr
        rcases c3 with c3 | c3 | c3 | c3 | c3 | c3 | c3 | c3 | c3 <;> omega
      · have q := B.lmq hk hl
        rw [← q] at m4
        rcases c3 with c3 | c3 | c3 | c3 | c3 | c3 | c3 | c3 | c3 <;> omega
theorem op_cover {r : Nat → Nat → Int} {w : Nat → Int} {n : Nat} (hs : StR r w n) {x z z2 : Int} (hC : tCover r n x z) (hM : mCover w n x z2) : z = z2 := by
  have r0 := hs.2.1.1 0 (by omega)
  rcases hC with ⟨c1, c2⟩ | ⟨c1, c2⟩ <;> rcases hM with ⟨m1, m2⟩ | ⟨m1, m2⟩ <;> try omega
  refine c2.one ?_
  have ee : ∀ k, k < n → ((x - plM w k) % w 0 < leM w k ↔ (x - r 1 k) % r 0 0 < r 2 k) := fun k hk => by
    rw [show plM w k = r 1 k from (hs.2.1.2 k hk).1, show leM w k = r 2 k from (hs.2.1.2 k hk).2.1, r0]
  rcases m2 with ⟨k, k1, k2, k3, k4⟩ | ⟨k1, k2⟩
  · exact Or.inl ⟨k, k1, k2, (ee k k1).mp k3, fun j hj q => k4 j hj ((ee j (by omega)).mpr q)⟩
  · exact Or.inr ⟨k1, fun j hj q => k2 j hj ((ee j hj).mpr q)⟩
theorem op_placeIn {r : Nat → Nat → Int} {w : Nat → Int} {n : Nat} (hs : StR r w n) {x t z z2 : Int} (hC : tPlaceIn r n x t z) (hM : mPlaceIn w n x t z2) : z = z2 := by
  have r0 := hs.2.1.1 0 (by omega)
  rcases hC with ⟨c1, c2⟩ | ⟨g, c1, c2, c3⟩
  · rcases hM with ⟨m1, m2⟩ | ⟨g2, m1, m2, -⟩ <;> omega
  · rcases hM with ⟨m1, m2⟩ | ⟨g2, m1, m2, m3⟩
    · omega
    have : g2 = g := by omega
    subst this
    rcases c3 with ⟨c3, c4⟩ | ⟨c3, fw, fs, hA, c4⟩ <;> rcases m3 with ⟨m3, m4⟩ | ⟨m3, o, od, P, th, ss, k, hL, hG, hk, eo, m4⟩ <;> try omega
    have B := hL.bth hs.1 hs.2.1 hs.2.2.1
    subst eo
    have q := B.way hA hG hk
    have hP := B.2.2.1.2.2.2.1 k hk
    have se : sumI (fun i => w (13 + o i)) k = sumI (fun i => r 2 (o i)) k := sumI_cong (fun i hi => (hs.2.1.2 _ (B.2.2.1.1 i (by omega))).2.1)
    rw [c4, m4, r0, se]
    simp only [npC]
    congr 1
    omega
theorem op_speedIn {r : Nat → Nat → Int} {w : Nat → Int} {n : Nat} (hs : StR r w n) {x t z z2 : Int} (hC : tSpeedIn r n x t z) (hM : mSpeedIn w n x t z2) : z = z2 := by
  rcases hC with ⟨c1, c2⟩ | ⟨g, c1, c2, c3⟩
  · rcases hM with ⟨m1, m2⟩ | ⟨g2, m1, m2, -⟩ <;> omega
  · rcases hM with ⟨m1, m2⟩ | ⟨g2, m1, m2, m3⟩
    · omega
    have : g2 = g := by omega
    subst this
    have e := (hs.2.1.2 _ c2).2.2.1
    rcases c3 with ⟨c3, c4⟩ | ⟨c3, c4⟩ | ⟨c3, fw, fs, hA, c4⟩ <;> rcases m3 with ⟨m3, m4⟩ | ⟨m3, m4⟩ | ⟨m3, o, od, P, th, ss, k, hL, hG, hk, eo, m4⟩ <;> try omega
    have B := hL.bth hs.1 hs.2.1 hs.2.2.1
    subst eo
    have q := B.way hA hG hk
    omega
theorem op_meetings {r : Nat → Nat → Int} {w : Nat → Int} {n : Nat} (hs : StR r w n) {t v z z2 : Int} (hC : tMeetings r n t v z) (hM : mMeetings w n t v z2) : z = z2 := by
  rcases hM with ⟨m1, m2⟩ | ⟨m1, m2, m3⟩ | ⟨m1, m2, o, od, P, hL, m3⟩ | ⟨m1, m2, o, od, P, hL, m3⟩
  · rcases hC with ⟨c1, c2⟩ | ⟨c1, c2, c3⟩ | ⟨c1, c2, c3⟩ | ⟨c1, c2, c3⟩ <;> omega
  · rcases hC with ⟨c1, c2⟩ | ⟨c1, c2, c3⟩ | ⟨c1, c2, c3⟩ | ⟨c1, c2, c3⟩ <;> omega
  · have q := (hL.bth hs.1 hs.2.1 hs.2.2.1).mee t
    rcases hC with ⟨c1, c2⟩ | ⟨c1, c2, c3⟩ | ⟨c1, c2, c3⟩ | ⟨c1, c2, c3⟩ <;> omega
  · have q := (hL.bth hs.1 hs.2.1 hs.2.2.1).mee t
    rcases hC with ⟨c1, c2⟩ | ⟨c1, c2, c3⟩ | ⟨c1, c2, c3⟩ | ⟨c1, c2, c3⟩ <;> omega
theorem op_count {r : Nat → Nat → Int} {w : Nat → Int} {n k tl tn : Nat} {ns : Int} (hs : StR r w n) (hk : ns = (k : Int)) (ht : tn = tl) {v z z2 : Int} (hC : tCount r n k tl v z) (hM : mCount w n ns tn v z2) : z = z2 := by
  have r0 := hs.2.1.1 0 (by omega)
  have r2 := hs.2.1.1 2 (by omega)
  have r3 := hs.2.1.1 3 (by omega)
  have r4 := hs.2.1.1 4 (by omega)
  have ef : frM w n = freeL (r 0 0) n (r 2) := hs.2.1.fr
  have e6 : sumI (spM w) n = sumI (r 3) n := sumI_cong (fun j hj => (hs.2.1.2 j hj).2.2.1)
  have e7 : sumI (fun j => w (21 + j) * w (21 + j)) n = sumI (fun j => r 3 j * r 3 j) n := sumI_cong (fun j hj => by rw [(hs.2.1.2 j hj).2.2.1])
  rcases hM with m | m | m | m | m | m | m | m | ⟨m, o, od, P, hL, m2⟩ | ⟨m, o, od, P, hL, m2⟩ | m | m | m
  · rcases hC with c | c | c | c | c | c | c | c | c | c | c | c | c <;> omega
  · rcases hC with c | c | c | c | c | c | c | c | c | c | c | c | c <;> omega
  · rcases hC with c | c | c | c | c | c | c | c | c | c | c | c | c <;> omega
  · rcases hC with c | c | c | c | c | c | c | c | c | c | c | c | c <;> omega
  · rcases hC with c | c | c | c | c | c | c | c | c | c | c | c | c <;> omega
  · rcases hC with c | c | c | c | c | c | c | c | c | c | c | c | c <;> omega
  · rcases hC with c | c | c | c | c | c | c | c | c | c | c | c | c <;> omega
  · rcases hC with c | c | c | c | c | c | c | c | c | c | c | c | c <;> omega
  · have q := (hL.bth hs.1 hs.2.1 hs.2.2.1).cnt8
    rcases hC with c | c | c | c | c | c | c | c | c | c | c | c | c <;> omega
  · have q := (hL.bth hs.1 hs.2.1 hs.2.2.1).ggq
    rcases hC with c | c | c | c | c | c | c | c | c | c | c | c | c <;> omega
  · rcases hC with c | c | c | c | c | c | c | c | c | c | c | c | c <;> omega
  · rcases hC with c | c | c | c | c | c | c | c | c | c | c | c | c <;> omega
  · rcases hC with c | c | c | c | c | c | c | c | c | c | c | c | c <;> omega
/-- an order of the places there is -/
theorem lay_pos {w : Nat → Int} {k : Nat} {o : Nat → Nat} : ∀ i, i ≤ k → (∀ j, i ≤ j → j < k → w (5 + k) < w (5 + o j)) → ∃ i', i' ≤ k ∧ (∀ j, i' ≤ j → j < k → w (5 + k) < w (5 + o j)) ∧ (i' = 0 ∨ w (5 + o (i' - 1)) ≤ w (5 + k))
  | 0, h, hp => ⟨0, h, hp, Or.inl rfl⟩
  | i + 1, h, hp => by
    rcases Int.lt_or_le (w (5 + k)) (w (5 + o i)) with q | q
    · refine lay_pos i (by omega) (fun j h1 h2 => ?_)
      rcases Nat.lt_or_ge i j with g | g
      · exact hp j g h2
      · rw [show j = i by omega]; exact q
    · exact ⟨i + 1, h, hp, Or.inr q⟩
theorem lay_k (w : Nat → Int) : ∀ k, ∃ (o : Nat → Nat) (od : Nat → Int), LayK w k o od
  | 0 => ⟨fun j => j, fun _ => 0, fun j hj => absurd hj (Nat.not_lt_zero j), fun _ => rfl, fun a b _ hb => absurd hb (Nat.not_lt_zero b)⟩
  | k + 1 => by
    obtain ⟨o, od, h⟩ := lay_k w k
    obtain ⟨i, h1, h2, h3⟩ := lay_pos (w := w) (o := o) k (Nat.le_refl k) (fun j g1 g2 => by omega)
    exact ⟨_, _, h.step h1 h2 h3⟩
theorem lay_ex (w : Nat → Int) (n : Nat) : ∃ (o : Nat → Nat) (od pt : Nat → Int), Lay w n o od pt := by
  obtain ⟨o, od, h1, h2, h3⟩ := lay_k w n
  exact ⟨o, od, _, h1, h2, h3, fun j _ => rfl⟩
/-- what the ways of points need -/
theorem StR.nn {r : Nat → Nat → Int} {w : Nat → Int} {n : Nat} (hs : StR r w n) : ∀ a b, a < n → b < n → 0 ≤ fbC r n a b := by
  intro a b ha hb
  obtain ⟨o, od, pt, hL⟩ := lay_ex w n
  have B := hL.bth hs.1 hs.2.1 hs.2.2.1
  exact B.2.2.1.fnn hs.2.2.1 B.fr ha hb
/-- the state a new object begins with -/
theorem rel_new {C : RC} {M : MC} (h0 : C.1 0 0 = 100 ∧ C.1 0 1 = 0 ∧ C.1 0 2 = 0 ∧ C.1 0 3 = 0 ∧ C.1 0 4 = 0) (m0 : M.1 0 = 100 ∧ M.1 1 = 0 ∧ M.1 2 = 0 ∧ M.1 3 = 0 ∧ M.1 4 = 0) (h1 : C.2.2.1 = 0) (h2 : M.2.2.2.1 = 0) (h3 : C.2.2.2.2.2.2 = 0) (h4 : M.2.2.2.2.1 = 0) (h5 : M.2.2.2.2.2.1 = C.2.2.2.2.2.1) (h6 : M.2.2.2.2.2.2 = 0) (h7 : C.2.2.2.2.1 = 0) : RelS C M := by
  refine ⟨⟨0, ⟨by omega, by rw [h0.2.1]; rfl, by omega, by omega, fun k hk => absurd hk (Nat.not_lt_zero k), ?_⟩, ⟨fun k hk => ?_, fun k hk => absurd hk (Nat.not_lt_zero k)⟩, fun i j hi => absurd hi (Nat.not_lt_zero i), by omega⟩, by omega, by omega, fun j hj => absurd hj (by omega), Or.inl h3, by omega, fun h => by omega, h5, by omega, ?_⟩
  · simp only [freeL, sumI]; omega
  · have e : k = 0 ∨ k = 1 ∨ k = 2 ∨ k = 3 ∨ k = 4 := by omega
    rcases e with rfl | rfl | rfl | rfl | rfl <;> omega
  · rw [h7]; exact ⟨Nat.zero_le _, fun k hk => absurd hk (Nat.not_lt_zero k)⟩
