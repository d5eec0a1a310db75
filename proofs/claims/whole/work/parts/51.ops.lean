theorem Rw.rmm {r : Nat → Nat → Int} {w : Nat → Int} {n : Nat} (h : Rw r w n) {x l : Int} : Rmm (w 0) n (plM w) (leM w) x l ↔ Rmm (r 0 0) n (r 1) (r 2) x l := by
  have e0 := h.1 0 (by omega)
  have ef : freeL (w 0) n (leM w) = freeL (r 0 0) n (r 2) := h.fr
  simp only [Rmm]
  rw [ef, e0]
  refine and_congr Iff.rfl (forall_congr' fun j => imp_congr Iff.rfl (forall_congr' fun k => ?_))
  constructor
  · intro g hk
    have := g hk
    rw [show plM w k = r 1 k from (h.2 k hk).1, show leM w k = r 2 k from (h.2 k hk).2.1] at this
    exact this
  · intro g hk
    rw [show plM w k = r 1 k from (h.2 k hk).1, show leM w k = r 2 k from (h.2 k hk).2.1]
    exact g hk
theorem app_rel {r : Nat → Nat → Int} {w : Nat → Int} {n : Nat} (hs : StR r w n) (hn : n < 8) {x l v : Int} (hx : 0 ≤ x ∧ x < r 0 0) (hl : 1 ≤ l ∧ l ≤ 20) (hv : -9 ≤ v ∧ v ≤ 9) (hm : Rmm (r 0 0) n (r 1) (r 2) x l) : StR (appC r n x l v) (appM w n x l v) (n + 1) := by
  obtain ⟨hok, hR, hg, hw⟩ := hs
  have hb := hok.bd
  have e0 : (appC r n x l v) 0 0 = r 0 0 := by
    show up (r 0) 1 ((n : Int) + 1) 0 = r 0 0
    rw [up_n (by omega)]
  have e2 : sumI ((appC r n x l v) 2) (n + 1) = sumI (r 2) n + l := by
    show sumI (up (r 2) n l) (n + 1) = _
    rw [sumI_s, up_s, sumI_cong (g := r 2) (fun k hk => up_n (by omega))]
  have hp : ∀ k, k < n + 1 → (k < n ∧ (appC r n x l v) 1 k = r 1 k ∧ (appC r n x l v) 2 k = r 2 k ∧ (appC r n x l v) 3 k = r 3 k ∧ (appC r n x l v) 4 k = r 4 k) ∨ (k = n ∧ (appC r n x l v) 1 k = x ∧ (appC r n x l v) 2 k = l ∧ (appC r n x l v) 3 k = v ∧ (appC r n x l v) 4 k = 0) := fun k hk => by
    rcases Nat.lt_succ_iff_lt_or_eq.mp hk with q | q
    · refine Or.inl ⟨q, ?_, ?_, ?_, ?_⟩ <;> exact up_n (by omega)
    · subst q; refine Or.inr ⟨rfl, ?_, ?_, ?_, ?_⟩ <;> exact up_s _ _ _
  refine ⟨⟨by omega, ?_, by rw [e0]; exact hb.2.2.1, by rw [e0]; exact hb.2.2.2.1, fun k hk => ?_, ?_⟩, ⟨fun k hk => ?_, fun k hk => ?_⟩, ?_, ?_⟩
  · show up (r 0) 1 ((n : Int) + 1) 1 = _
    rw [up_s]; omega
  · rw [e0]
    rcases hp k hk with ⟨q, a, b, c, -⟩ | ⟨q, a, b, c, -⟩
    · rw [a, b, c]; exact hok.at q
    · rw [a, b, c]; omega
  · have h1 := hm.1
    simp only [freeL] at h1 ⊢
    rw [e0, e2]; omega
  · show appM w n x l v k = up (r 0) 1 ((n : Int) + 1) k
    simp only [appM]
    by_cases q : k = 1
    · subst q; rw [up_s, up_s]
    · rw [up_n q, up_n q, up_n (by omega), up_n (by omega), up_n (by omega), up_n (by omega)]; exact hR.1 k hk
  · simp only [appM]
    rcases hp k hk with ⟨q, a, b, c, d⟩ | ⟨q, a, b, c, d⟩
    · rw [a, b, c, d]
      have := hR.2 k q
      refine ⟨?_, ?_, ?_, ?_⟩ <;> (rw [up_n (by omega), up_n (by omega), up_n (by omega), up_n (by omega), up_n (by omega)]; first | exact this.1 | exact this.2.1 | exact this.2.2.1 | exact this.2.2.2)
    · subst q
      rw [a, b, c, d]
      refine ⟨?_, ?_, ?_, ?_⟩
      · rw [up_n (by omega), up_n (by omega), up_n (by omega), up_n (by omega), up_s]
      · rw [up_n (by omega), up_n (by omega), up_n (by omega), up_s]
      · rw [up_n (by omega), up_n (by omega), up_s]
      · rw [up_n (by omega), up_s]
  · rw [e0]
    have r0 : 0 < r 0 0 := by omega
    have dnew : ∀ i, i < n → r 2 i ≤ (x - r 1 i) % r 0 0 ∧ l ≤ (r 1 i - x) % r 0 0 := by
      intro i hi
      have ai := hok.at hi
      constructor
      · have := hm.2 0 (by omega) i hi
        rw [show x + ((0 : Nat) : Int) = x by omega, Int.emod_eq_of_lt hx.1 hx.2] at this
        omega
      · rcases Int.lt_or_le ((r 1 i - x) % r 0 0) l with q | q
        · exfalso
          have hd := fm_b (x := r 1 i - x) (y := r 0 0) r0
          obtain ⟨D, eD⟩ : ∃ D : Nat, (r 1 i - x) % r 0 0 = (D : Int) := ⟨((r 1 i - x) % r 0 0).toNat, by omega⟩
          have := hm.2 D (by omega) i hi
          have e1 : (x + (D : Int)) % r 0 0 = r 1 i := by
            rw [← eD, Int.add_emod_emod, show x + (r 1 i - x) = r 1 i by omega, Int.emod_eq_of_lt ai.1 ai.2.1]
          rw [e1, Int.sub_self, Int.zero_emod] at this
          omega
        · exact q
    intro i j hi hj hne
    rcases hp i hi with ⟨qi, a, b, -, -⟩ | ⟨qi, a, b, -, -⟩ <;> rcases hp j hj with ⟨qj, a2, b2, -, -⟩ | ⟨qj, a2, b2, -, -⟩
    · have g := hg i j qi qj hne
      simp only [dist] at g ⊢
      rw [a, a2, b]; exact g
    · have ai := hok.at qi
      rw [dist_em (by rw [a]; omega) (by rw [a2]; omega), a, a2, b]
      exact (dnew i qi).1
    · have aj := hok.at qj
      rw [dist_em (by rw [a]; omega) (by rw [a2]; omega), a, a2, b]
      exact (dnew j qj).2
    · omega
  · have : appM w n x l v 2 = w 2 := by
      simp only [appM]
      rw [up_n (by omega), up_n (by omega), up_n (by omega), up_n (by omega), up_n (by omega)]
    rw [this]; exact hw
theorem op_addRod {C D : RC} {M E : MC} (h : RelS C M) {n : Nat} (hs : StR C.1 M.1 n) {x l v z z2 : Int} (hC : tAddRod C.1 n x l v z C D) (hM : mAddRod M.1 n x l v z2 M E) : z = z2 ∧ RelS D E := by
  have r0 := hs.2.1.1 0 (by omega)
  have hm := hs.2.1.rmm (x := x) (l := l)
  rcases hC with ⟨c1, c2, c3⟩ | ⟨c1, c2, c3, c4⟩ | ⟨c1, c2, c3, c4, c5⟩ | ⟨c1, c2, c3, c4, c5, c6⟩ | ⟨c1, c2, c3, c4, c5, c6⟩ <;> rcases hM with ⟨m1, m2, m3⟩ | ⟨m1, m2, m3, m4⟩ | ⟨m1, m2, m3, m4, m5⟩ | ⟨m1, m2, m3, m4, m5, m6⟩ | ⟨m1, m2, m3, m4, m5, m6⟩ <;> try omega
  · rw [c3, m3]; exact ⟨by omega, h⟩
  · rw [c4, m4]; exact ⟨by omega, h⟩
  · rw [c5, m5]; exact ⟨by omega, h⟩
  · rw [c6, m6]; exact ⟨by omega, h⟩
  · exact absurd (hm.mp m4) c4
  · exact absurd (hm.mpr c4) m4
  · rw [c6, m6]
    exact ⟨by omega, h.rec ⟨n + 1, app_rel hs c3 c1 c2.1 c2.2 c4⟩⟩
theorem sum_shi (f : Nat → Int) (g N : Nat) : ∀ k, k ≤ N → sumI (shi f g N) k = if k ≤ g then sumI f k else sumI f (k + 1) - f g
  | 0, _ => by rw [if_pos (Nat.zero_le g)]; rfl
  | k + 1, hk => by
    rw [sumI_s, sum_shi f g N k (by omega)]
    simp only [shi]
    rcases Nat.lt_trichotomy k g with q | q | q
    · rw [if_pos (by omega), if_neg (by omega), if_pos (by omega), sumI_s]
    · subst q; rw [if_pos (by omega), if_pos (by omega), if_neg (by omega), sumI_s, sumI_s]; omega
    · rw [if_neg (by omega), if_pos (by omega), if_neg (by omega), sumI_s f (k + 1)]; omega
theorem drp_rel {r : Nat → Nat → Int} {w w' : Nat → Int} {n g : Nat} (hs : StR r w n) (hgn : g < n) (hw' : ∀ y, y < 37 → w' y = rmv w n g y) : StR (drpC r n g) w' (n - 1) := by
  obtain ⟨hok, hR, hg, hw⟩ := hs
  have hb := hok.bd
  have e0 : (drpC r n g) 0 0 = r 0 0 := by
    show up (r 0) 1 ((n : Int) - 1) 0 = r 0 0
    rw [up_n (by omega)]
  -- which rod comes to the place k
  have hp : ∀ k, k < n - 1 → ∃ i, i < n ∧ (k < g → i = k) ∧ (g ≤ k → i = k + 1) ∧ (drpC r n g) 1 k = r 1 i ∧ (drpC r n g) 2 k = r 2 i ∧ (drpC r n g) 3 k = r 3 i ∧ (drpC r n g) 4 k = r 4 i := fun k hk => by
    by_cases q : g ≤ k
    · refine ⟨k + 1, by omega, fun h => by omega, fun _ => rfl, ?_, ?_, ?_, ?_⟩ <;> (show shi _ g (n - 1) k = _; simp only [shi]; rw [if_pos (by omega)])
    · refine ⟨k, by omega, fun _ => rfl, fun h => by omega, ?_, ?_, ?_, ?_⟩ <;> (show shi _ g (n - 1) k = _; simp only [shi]; rw [if_neg (by omega)])
  have hrm : ∀ b k, (b = 5 ∨ b = 13 ∨ b = 21 ∨ b = 29) → k < n - 1 → w' (b + k) = if g ≤ k then w (b + (k + 1)) else w (b + k) := by
    intro b k hbb hk
    rw [hw' (b + k) (by omega)]
    simp only [rmv]
    have e : (b + k - 5) % 8 = k := by omega
    rw [e, if_neg (by omega), if_neg (by omega)]
    by_cases q : g ≤ k
    · rw [if_neg (by omega), if_pos (by omega), if_pos q, Nat.add_assoc]
    · rw [if_pos (by omega), if_neg q]
  refine ⟨⟨by omega, ?_, by rw [e0]; exact hb.2.2.1, by rw [e0]; exact hb.2.2.2.1, fun k hk => ?_, ?_⟩, ⟨fun k hk => ?_, fun k hk => ?_⟩, ?_, ?_⟩
  · show up (r 0) 1 ((n : Int) - 1) 1 = _
    rw [up_s]; omega
  · obtain ⟨i, hi, -, -, a, b, c, -⟩ := hp k hk
    rw [e0, a, b, c]; exact hok.at hi
  · have e2 := sum_shi (r 2) g (n - 1) (n - 1) (Nat.le_refl _)
    have ag := hok.at hgn
    show 1 ≤ freeL ((drpC r n g) 0 0) (n - 1) (shi (r 2) g (n - 1))
    rw [e0]
    have hf := hb.2.2.2.2
    simp only [freeL] at hf ⊢
    by_cases q : n - 1 ≤ g
    · rw [if_pos q] at e2
      rw [show n = (n - 1) + 1 by omega, sumI_s] at hf
      have al := hok.at (show n - 1 < n by omega)
      omega
    · rw [if_neg q, show n - 1 + 1 = n by omega] at e2
      omega
  · show w' k = up (r 0) 1 ((n : Int) - 1) k
    rw [hw' k (by omega)]
    simp only [rmv]
    by_cases q : k = 1
    · subst q; rw [if_pos rfl, up_s]
    · rw [if_neg q, if_pos hk, up_n q]; exact hR.1 k hk
  · obtain ⟨i, hi, i1, i2, a, b, c, d⟩ := hp k hk
    have g1 := hR.2 i hi
    rw [a, b, c, d, hrm 5 k (by omega) hk, hrm 13 k (by omega) hk, hrm 21 k (by omega) hk, hrm 29 k (by omega) hk]
    by_cases q : g ≤ k
    · have := i2 q; subst this
      rw [if_pos q, if_pos q, if_pos q, if_pos q]; exact g1
    · have := i1 (by omega); subst this
      rw [if_neg q, if_neg q, if_neg q, if_neg q]; exact g1
  · rw [e0]
    intro i j hi hj hne
    obtain ⟨a, ha, a1, a2, b1, b2, -⟩ := hp i hi
    obtain ⟨c, hc, c1, c2, d1, d2, -⟩ := hp j hj
    have g1 := hg a c ha hc (by
      intro e
      rcases Nat.lt_or_ge i g with q | q <;> rcases Nat.lt_or_ge j g with q2 | q2
      · have := a1 q; have := c1 q2; omega
      · have := a1 q; have := c2 q2; omega
      · have := a2 q; have := c1 q2; omega
      · have := a2 q; have := c2 q2; omega)
    simp only [dist] at g1 ⊢
    rw [b1, b2, d1]; exact g1
  · rw [hw' 2 (by omega)]
    simp only [rmv]
    rw [if_neg (by omega), if_pos (by omega)]; exact hw
theorem op_removeRod {C D : RC} {M E : MC} (h : RelS C M) {n : Nat} (hs : StR C.1 M.1 n) {x z z2 : Int} (hC : tRemoveRod C.1 n x z C D) (hM : mRemoveRod M.1 n x z2 M E) : z = z2 ∧ RelS D E := by
  rcases hC with ⟨c1, c2, c3⟩ | ⟨g, c1, c2, c3, c4⟩ <;> rcases hM with ⟨m1, m2, m3⟩ | ⟨g2, m1, m2, m3, w', m4, m5⟩ <;> try omega
  · rw [c3, m3]; exact ⟨by omega, h⟩
  · have : g2 = g := by omega
    subst this
    rw [c4, m5]
    exact ⟨by omega, h.rec ⟨n - 1, drp_rel hs c2 m4⟩⟩
theorem op_setSpeed {C D : RC} {M E : MC} (h : RelS C M) {n : Nat} (hs : StR C.1 M.1 n) {x v z z2 : Int} (hC : tSetSpeed C.1 n x v z C D) (hM : mSetSpeed M.1 n x v z2 M E) : z = z2 ∧ RelS D E := by
  rcases hC with ⟨c1, c2, c3⟩ | ⟨g, c1, c2, c3⟩ <;> rcases hM with ⟨m1, m2, m3⟩ | ⟨g2, m1, m2, m3⟩
  · rw [c3, m3]; exact ⟨by omega, h⟩
  · omega
  · omega
  · have : g2 = g := by omega
    subst this
    have e := (hs.2.1.2 _ c2).2.2.1
    have hn := hs.1.bd.1
    rcases c3 with ⟨c3, c4, c5⟩ | ⟨c3, c4, c5, c6⟩ | ⟨c3, c4, c5, c6⟩ <;> rcases m3 with ⟨m3, m4, m5⟩ | ⟨m3, m4, m5, m6⟩ | ⟨m3, m4, m5, m6⟩ <;> try omega
    · rw [c5, m5]; exact ⟨by omega, h⟩
    · rw [c6, m6]; exact ⟨by omega, h⟩
    · rw [c6, m6]
      refine ⟨by omega, h.rec ⟨n, svC.ok hs.1 c3, sv_rel hn hs.2.1 c2, hs.2.2.1, ?_⟩⟩
      rw [up_n (by omega)]; exact hs.2.2.2
theorem op_reverse {C D : RC} {M E : MC} (h : RelS C M) {n : Nat} (hs : StR C.1 M.1 n) {z z2 : Int} (hC : tReverse C.1 n z C D) (hM : mReverse M.1 n z2 M E) : z = z2 ∧ RelS D E := by
  have e : mvM M.1 n = movC C.1 n := sumI_cong (fun k hk => by rw [(hs.2.1.2 k hk).2.2.1])
  have hn := hs.1.bd.1
  rcases hC with ⟨c1, c2, c3⟩ | ⟨c1, c2, c3⟩ <;> rcases hM with ⟨m1, m2, m3⟩ | ⟨m1, m2, m3⟩ <;> try omega
  · rw [c3, m3]; exact ⟨by omega, h⟩
  · rw [c3, m3]
    refine ⟨by omega, h.rec ⟨n, trC.ok hs.1, ng_rel hn hs.2.1, hs.2.2.1, ?_⟩⟩
    simp only [ngm]; rw [if_neg (by omega)]; exact hs.2.2.2
theorem op_pass {C D : RC} {M E : MC} (h : RelS C M) {n : Nat} (hs : StR C.1 M.1 n) {t z z2 : Int} (hC : tPass C.1 n t z C D) (hM : mPass M.1 n t z2 M E) : z = z2 ∧ RelS D E := by
  have r2 := hs.2.1.1 2 (by omega)
  have hw := hs.2.2.2
  rcases hC with ⟨c1, c2, c3⟩ | ⟨c1, c2, c3, c4⟩ | ⟨c1, c2, c3, r', c4, c5⟩ <;> rcases hM with ⟨m1, m2, m3⟩ | ⟨m1, m2, m3, m4⟩ | ⟨m1, m2, w', m3, m4⟩ <;> try omega
  · rw [c3, m3]; exact ⟨by omega, h⟩
  · rw [c4, m4]; exact ⟨by omega, h⟩
  · have k := pass_rel hs.1 hs.2.1 hs.2.2.1 c4 m3
    have k2 := c4.ok hs.1 (show 0 ≤ t ∧ t ≤ 100 by omega)
    obtain ⟨o9, od9, P9, th9, ss9, hL9, hG9, hz9, -, -, h9, -⟩ := id m3
    rw [c5, m4]
    exact ⟨by omega, h.rec ⟨n, k2, k.2.1, k.2.2, by omega⟩⟩
theorem TOk.up {tl : Nat} {tx : Nat → Int} (h : TOk tl tx) (hl : tl < 60) {c : Int} (hc : 0 ≤ c ∧ c < 65536) : TOk (tl + 1) (up tx tl c) := by
  refine ⟨by omega, fun k hk => ?_⟩
  rcases Nat.lt_succ_iff_lt_or_eq.mp hk with q | q
  · rw [up_n (by omega)]; exact h.2 k q
  · subst q; rw [up_s]; exact hc
theorem op_type {C D : RC} {M E : MC} (h : RelS C M) {c z z2 : Int} (hc : 0 ≤ c ∧ c < 65536) (hC : tType C.2.2.2.2.1 C.2.2.2.2.2.1 c z C D) (hM : mType M.2.2.2.2.2.2 M.2.2.2.2.2.1 c z2 M E) : z = z2 ∧ RelS D E := by
  obtain ⟨h1, h2, h3, h4, h5, h6, h7, h8, h9, hT⟩ := id h
  have hl := hT.1
  rw [h8, h9] at hM
  rcases hC with ⟨c1, c2, c3⟩ | ⟨c1, c2, c3⟩ <;> rcases hM with ⟨m1, m2, m3⟩ | ⟨m1, m2, m3⟩ <;> try omega
  · rw [c3, m3]; exact ⟨by omega, h⟩
  · rw [c3, m3]
    exact ⟨by omega, h1, h2, h3, h4, h5, h6, h7, rfl, rfl, hT.up c1 hc⟩
theorem op_clear {C D : RC} {M E : MC} (h : RelS C M) {z z2 : Int} (hC : tClear C.2.2.2.2.1 C.2.2.2.2.2.1 z C D) (hM : mClear M.2.2.2.2.2.2 M.2.2.2.2.2.1 z2 M E) : z = z2 ∧ RelS D E := by
  obtain ⟨h1, h2, h3, h4, h5, h6, h7, h8, h9, hT⟩ := id h
  rw [h8, h9] at hM
  obtain ⟨c1, c2⟩ := hC
  obtain ⟨m1, m2⟩ := hM
  rw [c2, m2]
  exact ⟨by omega, h1, h2, h3, h4, h5, h6, h7, rfl, rfl, Nat.zero_le _, fun k hk => absurd hk (Nat.not_lt_zero k)⟩
theorem op_undo {C D : RC} {M E : MC} (h : RelS C M) {z z2 : Int} (hC : tUndo C.2.2.1 z C D) (hM : mUndo M.1 M.2.1 M.2.2.2.1 z2 M E) : z = z2 ∧ RelS D E := by
  obtain ⟨h1, h2, h3, h4, h5, h6, h7, h8, h9, hT⟩ := id h
  rcases hC with ⟨c1, c2, c3⟩ | ⟨c1, c2, c3⟩ <;> rcases hM with ⟨m1, m2, m3⟩ | ⟨m1, m2, w', m3, m4⟩ <;> try omega
  · rw [c3, m3]; exact ⟨by omega, h⟩
  · rw [c3, m4]
    obtain ⟨n2, g⟩ := h4 (C.2.2.1 - 1) (by omega)
    have e9 : latR C.2.2.1 C.2.2.2.1.1 C.2.2.2.1.2.1 C.2.2.2.1.2.2.1 C.2.2.2.1.2.2.2 = hsR C.2.2.2.1 (C.2.2.1 - 1) := by
      have e : C.2.2.1 = 1 ∨ C.2.2.1 = 2 ∨ C.2.2.1 = 3 ∨ C.2.2.1 = 4 := by omega
      simp only [latR, hsR]
      rcases e with e | e | e | e <;> rw [e] <;> rfl
    refine ⟨by omega, ⟨n2, ?_⟩, ?_, ?_, fun j hj => h4 j ?_, h5, h6, h7, h8, h9, hT⟩
    · show StR (latR C.2.2.1 C.2.2.2.1.1 C.2.2.2.1.2.1 C.2.2.2.1.2.2.1 C.2.2.2.1.2.2.2) w' n2
      rw [e9]
      refine g.cong (fun y hy => ?_)
      rw [m3 y hy, h3, Int.toNat_natCast]
    · show C.2.2.1 - 1 ≤ 4
      omega
    · show M.2.2.2.1 - 1 = ((C.2.2.1 - 1 : Nat) : Int)
      omega
    · have : j < C.2.2.1 - 1 := hj
      omega
theorem op_keep {C D : RC} {M E : MC} (h : RelS C M) {z z2 : Int} (hC : tKeep C.1 z C D) (hM : mKeep M.1 z2 M E) : z = z2 ∧ RelS D E := by
  obtain ⟨⟨n, h1⟩, h2, h3, h4, h5, h6, h7, h8, h9, hT⟩ := id h
  obtain ⟨c1, c2⟩ := hC
  obtain ⟨m1, ad, m2, m3⟩ := hM
  have r2 := h1.2.1.1 2 (by omega)
  rw [c2, m3]
  exact ⟨by omega, ⟨n, h1⟩, h2, h3, h4, Or.inr rfl, rfl, fun _ => ⟨n, h1.cong m2⟩, h8, h9, hT⟩
theorem op_restore {C D : RC} {M E : MC} (h : RelS C M) {z z2 : Int} (hC : tRestore C.2.1 C.2.2.2.2.2.2 z C D) (hM : mRestore M.2.2.1 M.2.2.2.2.1 z2 M E) : z = z2 ∧ RelS D E := by
  obtain ⟨h1, h2, h3, h4, h5, h6, h7, h8, h9, hT⟩ := id h
  rw [h6] at hM
  rcases hC with ⟨c1, c2, c3⟩ | ⟨c1, c2, c3⟩ <;> rcases hM with ⟨m1, m2, m3⟩ | ⟨m1, m2, w', m3, m4⟩ <;> try omega
  · rw [c3, m3]; exact ⟨by omega, h⟩
  · obtain ⟨n, g⟩ := h7 (by omega)
    have r2 := g.2.1.1 2 (by omega)
    rw [c3, m4]
    exact ⟨by omega, h.rec ⟨n, g.cong m3⟩⟩
theorem op_perform {C D : RC} {M E : MC} (h : RelS C M) {n : Nat} (hs : StR C.1 M.1 n) {z z2 : Int} (hC : tPerform C.1 n C.2.2.2.2.1 C.2.2.2.2.2.1 z C D) (hM : mPerform M.1 n M.2.2.2.2.2.2 M.2.2.2.2.2.1 z2 M E) : z = z2 ∧ RelS D E := by
  obtain ⟨h1, h2, h3, h4, h5, h6, h7, h8, h9, hT⟩ := id h
  rw [h8, h9] at hM
  obtain ⟨ez, hr⟩ := perform_rel hs.1 hs.2.1 hs.2.2.1 hs.2.2.2 hC hM
  refine ⟨ez, ?_⟩
  rcases hr with ⟨e1, e2 | ⟨w', e2, e3⟩⟩ | ⟨r', w', e1, e2, k1, k2, k3, k4⟩
  · rw [e1, e2]; exact h
  · rw [e1, e3]
    exact ⟨⟨n, hs.cong e2⟩, h2, h3, h4, h5, h6, h7, h8, h9, hT⟩
  · rw [e1, e2]; exact h.rec ⟨n, k1, k2, k3, k4⟩
