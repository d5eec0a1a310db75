/-! both states: one row, and all of it -/
def StR (r : Nat → Nat → Int) (w : Nat → Int) (n : Nat) : Prop := Ok r n ∧ Rw r w n ∧ Geo (r 0 0) n (r 1) (r 2) ∧ 0 ≤ w 2 ∧ w 2 ≤ 10000
theorem StR.cong {r : Nat → Nat → Int} {w v : Nat → Int} {n : Nat} (h : StR r w n) (e : ∀ y, y < 37 → v y = w y) : StR r v n := by
  obtain ⟨h1, h2, h3, h4⟩ := h
  have hn := h1.bd.1
  refine ⟨h1, ⟨fun k hk => by rw [e k (by omega)]; exact h2.1 k hk, fun k hk => ?_⟩, h3, by rw [e 2 (by omega)]; exact h4⟩
  rw [e _ (by omega), e _ (by omega), e _ (by omega), e _ (by omega)]
  exact h2.2 k hk
def hsR (H : (Nat → Nat → Int) × (Nat → Nat → Int) × (Nat → Nat → Int) × (Nat → Nat → Int)) (j : Nat) : Nat → Nat → Int := if j = 0 then H.1 else if j = 1 then H.2.1 else if j = 2 then H.2.2.1 else H.2.2.2
def RelS (C : RC) (M : MC) : Prop := (∃ n, StR C.1 M.1 n) ∧ C.2.2.1 ≤ 4 ∧ M.2.2.2.1 = (C.2.2.1 : Int) ∧ (∀ j, j < C.2.2.1 → ∃ n, StR (hsR C.2.2.2.1 j) (fun y => M.2.1 (37 * j + y)) n) ∧ (C.2.2.2.2.2.2 = 0 ∨ C.2.2.2.2.2.2 = 1) ∧ M.2.2.2.2.1 = C.2.2.2.2.2.2 ∧ (C.2.2.2.2.2.2 = 1 → ∃ n, StR C.2.1 M.2.2.1 n) ∧ M.2.2.2.2.2.1 = C.2.2.2.2.2.1 ∧ M.2.2.2.2.2.2 = C.2.2.2.2.1 ∧ TOk C.2.2.2.2.1 C.2.2.2.2.2.1
/-- a new row comes, the one that is is recorded -/
theorem RelS.rec {C : RC} {M : MC} (h : RelS C M) {r' : Nat → Nat → Int} {w' : Nat → Int} (hs : ∃ n, StR r' w' n) : RelS (recC C r') (mrc M w') := by
  obtain ⟨⟨n, h1⟩, h2, h3, h4, h5, h6, h7, h8⟩ := h
  refine ⟨hs, recK_le h2, ?_, fun j hj => ?_, h5, h6, h7, h8⟩
  · show rnM M.2.2.2.1 = ((recK C.2.2.1 : Nat) : Int)
    simp only [rnM, recK]
    rw [h3]
    by_cases q : C.2.2.1 = 4
    · rw [if_pos q, if_pos (by omega)]; rfl
    · rw [if_neg q, if_neg (by omega)]; omega
  · have hj2 : j < recK C.2.2.1 := hj
    show ∃ n, StR (hsR (recR C.2.2.1 0 C.2.2.2.1.1 C.2.2.2.1.2.1 C.1, recR C.2.2.1 1 C.2.2.2.1.2.1 C.2.2.2.1.2.2.1 C.1, recR C.2.2.1 2 C.2.2.2.1.2.2.1 C.2.2.2.1.2.2.2 C.1, recR C.2.2.1 3 C.2.2.2.1.2.2.2 C.1 C.1) j) (fun y => rcM M.2.1 M.1 M.2.2.2.1 (37 * j + y)) n
    simp only [recK] at hj2
    by_cases q : C.2.2.1 = 4
    · rw [if_pos q] at hj2
      have eP : ∀ x, rcM M.2.1 M.1 M.2.2.2.1 x = cpo (shl M.2.1 111) M.1 111 37 x := fun x => by
        simp only [rcM]; rw [if_pos (by omega)]
      have eR : ∀ i a b, recR C.2.2.1 i a b C.1 = b := fun i a b => by simp only [recR]; rw [if_pos q]
      rw [eR, eR, eR, eR]
      by_cases q3 : j = 3
      · subst q3
        refine ⟨n, StR.cong (w := M.1) h1 (fun y hy => ?_)⟩
        show rcM M.2.1 M.1 M.2.2.2.1 (37 * 3 + y) = M.1 y
        rw [eP]; simp only [cpo]; rw [if_pos (by omega), show 37 * 3 + y - 111 = y by omega]
      · obtain ⟨n2, g⟩ := h4 (j + 1) (by omega)
        refine ⟨n2, ?_⟩
        have e9 : hsR (C.2.2.2.1.2.1, C.2.2.2.1.2.2.1, C.2.2.2.1.2.2.2, C.1) j = hsR C.2.2.2.1 (j + 1) := by
          have e : j = 0 ∨ j = 1 ∨ j = 2 := by omega
          rcases e with rfl | rfl | rfl <;> rfl
        rw [e9]
        refine g.cong (fun y hy => ?_)
        show rcM M.2.1 M.1 M.2.2.2.1 (37 * j + y) = M.2.1 (37 * (j + 1) + y)
        rw [eP]; simp only [cpo, shl]; rw [if_neg (by omega), if_pos (by omega), show 37 + (37 * j + y) = 37 * (j + 1) + y by omega]
    · rw [if_neg q] at hj2
      have eP : ∀ x, rcM M.2.1 M.1 M.2.2.2.1 x = cpo M.2.1 M.1 (37 * C.2.2.1) 37 x := fun x => by
        simp only [rcM]; rw [if_neg (by omega), h3, Int.toNat_natCast]
      have eR : ∀ i a b, recR C.2.2.1 i a b C.1 = if C.2.2.1 = i then C.1 else a := fun i a b => by simp only [recR]; rw [if_neg q]
      by_cases q3 : j = C.2.2.1
      · have e9 : hsR (recR C.2.2.1 0 C.2.2.2.1.1 C.2.2.2.1.2.1 C.1, recR C.2.2.1 1 C.2.2.2.1.2.1 C.2.2.2.1.2.2.1 C.1, recR C.2.2.1 2 C.2.2.2.1.2.2.1 C.2.2.2.1.2.2.2 C.1, recR C.2.2.1 3 C.2.2.2.1.2.2.2 C.1 C.1) j = C.1 := by
          rw [eR, eR, eR, eR]
          have e : j = 0 ∨ j = 1 ∨ j = 2 ∨ j = 3 := by omega
          rcases e with rfl | rfl | rfl | rfl <;> (rw [← q3]; rfl)
        rw [e9]
        refine ⟨n, StR.cong (w := M.1) h1 (fun y hy => ?_)⟩
        show rcM M.2.1 M.1 M.2.2.2.1 (37 * j + y) = M.1 y
        rw [eP, ← q3]; simp only [cpo]; rw [if_pos (by omega), show 37 * j + y - 37 * j = y by omega]
      · obtain ⟨n2, g⟩ := h4 j (by omega)
        have e9 : hsR (recR C.2.2.1 0 C.2.2.2.1.1 C.2.2.2.1.2.1 C.1, recR C.2.2.1 1 C.2.2.2.1.2.1 C.2.2.2.1.2.2.1 C.1, recR C.2.2.1 2 C.2.2.2.1.2.2.1 C.2.2.2.1.2.2.2 C.1, recR C.2.2.1 3 C.2.2.2.1.2.2.2 C.1 C.1) j = hsR C.2.2.2.1 j := by
          rw [eR, eR, eR, eR]
          have e : j = 0 ∨ j = 1 ∨ j = 2 := by omega
          rcases e with rfl | rfl | rfl
          · show (if C.2.2.1 = 0 then C.1 else C.2.2.2.1.1) = _
            rw [if_neg (by omega)]; rfl
          · show (if C.2.2.1 = 1 then C.1 else C.2.2.2.1.2.1) = _
            rw [if_neg (by omega)]; rfl
          · show (if C.2.2.1 = 2 then C.1 else C.2.2.2.1.2.2.1) = _
            rw [if_neg (by omega)]; rfl
        rw [e9]
        refine ⟨n2, g.cong (fun y hy => ?_)⟩
        show rcM M.2.1 M.1 M.2.2.2.1 (37 * j + y) = M.2.1 (37 * j + y)
        rw [eP]; simp only [cpo]; rw [if_neg (by omega)]
theorem RelS.n {C : RC} {M : MC} (h : RelS C M) : ∃ n, StR C.1 M.1 n := h.1
/-! the calls -/
theorem op_setRing {C D : RC} {M E : MC} (h : RelS C M) {n : Nat} (hs : StR C.1 M.1 n) {x z z2 : Int} (hC : tSetRing C.1 n x z C D) (hM : mSetRing M.1 n x z2 M E) : z = z2 ∧ RelS D E := by
  have r0 := hs.2.1.1 0 (by omega)
  have hb := hs.1.bd
  rcases hC with ⟨c1, c2, c3⟩ | ⟨c1, c2, c3, c4⟩ | ⟨c1, c2, c3, c4, c5⟩ | ⟨c1, c2, c3, c4, c5⟩ <;> rcases hM with ⟨m1, m2, m3⟩ | ⟨m1, m2, m3, m4⟩ | ⟨m1, m2, m3, m4, m5⟩ | ⟨m1, m2, m3, m4, m5⟩ <;> try omega
  · rw [c3, m3]; exact ⟨by omega, h⟩
  · rw [c4, m4]; exact ⟨by omega, h⟩
  · rw [c5, m5]; exact ⟨by omega, h⟩
  · rw [c5, m5]
    refine ⟨by omega, h.rec ⟨0, ⟨⟨by omega, ?_, ?_, ?_, fun k hk => absurd hk (Nat.not_lt_zero k), ?_⟩, ⟨fun k hk => ?_, fun k hk => absurd hk (Nat.not_lt_zero k)⟩, fun i j hi => absurd hi (Nat.not_lt_zero i), ?_⟩⟩⟩
    · show up (C.1 0) 0 x 1 = _
      rw [up_n (by omega), hb.2.1, c2]
    · show 20 ≤ up (C.1 0) 0 x 0
      rw [up_s]; omega
    · show up (C.1 0) 0 x 0 ≤ 1000
      rw [up_s]; omega
    · show 1 ≤ freeL (up (C.1 0) 0 x 0) 0 _
      rw [up_s]; simp only [freeL, sumI]; omega
    · show up M.1 0 x k = up (C.1 0) 0 x k
      by_cases q : k = 0
      · subst q; rw [up_s, up_s]
      · rw [up_n q, up_n q]; exact hs.2.1.1 k hk
    · rw [up_n (by omega)]; exact hs.2.2.2
