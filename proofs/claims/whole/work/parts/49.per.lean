/-! orders are done in both alike -/
theorem fe_skip {n tl : Nat} {tx : Nat → Int} {tk : Int} : ∀ (e a f : Nat), (∀ j, a ≤ j → j < a + e → ordA tl tx j = 0) → feF n tl tx (e + f) a tk = feF n tl tx f (a + e) tk
  | 0, a, f, _ => by rw [Nat.zero_add, Nat.add_zero]
  | e + 1, a, f, h => by
    have h0 := h a (Nat.le_refl a) (by omega)
    rw [show e + 1 + f = (e + f) + 1 by omega, feF, h0, if_neg (by omega), if_neg (by omega), fe_skip e (a + 1) f (fun j h1 h2 => h j (by omega) (by omega)), show a + 1 + e = a + (e + 1) by omega]
theorem do_skip {n tl : Nat} {tx : Nat → Int} {r0 : Nat → Nat → Int} {a : Nat} : ∀ (e : Nat) {r : Nat → Nat → Int} {m : Int}, (∀ j, a ≤ j → j < a + e → ordA tl tx j = 0) → DoR n tl tx r0 (a + e) r m → DoR n tl tx r0 a r m
  | 0, _, _, _, h => h
  | e + 1, r, m, h0, h => by
    obtain ⟨r1, m1, h1, h2⟩ := h
    have o := h0 (a + e) (by omega) (by omega)
    have h3 : r = r1 ∧ m = m1 := by
      rcases h2 with ⟨g, -⟩ | ⟨g, -⟩ | ⟨g, -⟩ | ⟨-, g⟩
      · exact absurd (o.symm.trans g) (by decide)
      · exact absurd (o.symm.trans g) (by decide)
      · exact absurd (o.symm.trans g) (by decide)
      · exact g
    rw [h3.1, h3.2]
    exact do_skip e (fun j g1 g2 => h0 j g1 (by omega)) h1
theorem ng_rel {r : Nat → Nat → Int} {w : Nat → Int} {n : Nat} (hn : n ≤ 8) (hR : Rw r w n) : Rw (trC r n) (ngm w n) n := by
  refine ⟨fun k hk => ?_, fun k hk => ?_⟩
  · simp only [ngm]; rw [if_neg (by omega)]; exact hR.1 k hk
  · have h := hR.2 k hk
    refine ⟨?_, ?_, ?_, ?_⟩
    · simp only [ngm]; rw [if_neg (by omega)]; exact h.1
    · simp only [ngm]; rw [if_neg (by omega)]; exact h.2.1
    · show ngm w n (21 + k) = ngi (r 3) n k
      simp only [ngm, ngi]; rw [if_pos (by omega), if_pos hk, h.2.2.1]
    · simp only [ngm]; rw [if_neg (by omega)]; exact h.2.2.2
theorem sv_rel {r : Nat → Nat → Int} {w : Nat → Int} {n g : Nat} {v : Int} (hn : n ≤ 8) (hR : Rw r w n) (hg : g < n) : Rw (svC r g v) (up w (21 + g) v) n := by
  refine ⟨fun k hk => ?_, fun k hk => ?_⟩
  · rw [up_n (by omega)]; exact hR.1 k hk
  · have h := hR.2 k hk
    refine ⟨?_, ?_, ?_, ?_⟩
    · rw [up_n (by omega)]; exact h.1
    · rw [up_n (by omega)]; exact h.2.1
    · show up w (21 + g) v (21 + k) = up (r 3) g v k
      by_cases q : k = g
      · subst q; rw [up_s, up_s]
      · rw [up_n (by omega), up_n q]; exact h.2.2.1
    · rw [up_n (by omega)]; exact h.2.2.2
theorem RdO.sim {tl : Nat} {tx : Nat → Int} {n : Nat} {w w' : Nat → Int} {x x' : Nat} {z : Int} (hm : MOk w n) (hw2 : 0 ≤ w 2 ∧ w 2 ≤ 10000) (hx0 : x = 0 ∨ sgn tl tx (x - 1) = 59) (hnot : ¬ z = -100) (h : RdO tl tx n true w x z w' x') : x < tl ∧ ((z < 0 ∧ ∀ f, feF n tl tx (f + 1) x (w 2) = z) ∨ (0 ≤ z ∧ (∀ f, feF n tl tx (f + 1) x (w 2) = feF n tl tx f (x + 1) (w' 2)) ∧ ∀ (r : Nat → Nat → Int) (m : Int) (r1 : Nat → Nat → Int) (m1 : Int), Ok r n → Rw r w n → Geo (r 0 0) n (r 1) (r 2) → StepR n tl tx x r m r1 m1 → m1 = m + z ∧ Rw r1 w' n ∧ Ok r1 n ∧ Geo (r1 0 0) n (r1 1) (r1 2))) := by
  have ho : ordA tl tx x = sgn tl tx x := by simp only [ordA]; rw [if_pos hx0]
  have hn := hm.bd
  rcases h with ⟨a, rfl, rfl, hd⟩ | ⟨a, b, e, -⟩ | ⟨a, b, tk, c, e⟩ | ⟨a, e, -⟩ | ⟨a, b, e, -⟩ | ⟨a, b, c, e, -⟩ | ⟨a, b, c, g, f, e, -⟩ | ⟨a, b, c, g, f, e, -⟩ | ⟨a, b, c, e, f⟩
  · have l0 := sgn_lt (tl := tl) (tx := tx) (x := x) (by omega)
    have ew : w' = ngm w n := by
      rcases hd with ⟨-, hd⟩ | ⟨hd, -⟩
      · exact hd
      · exact absurd hd (by decide)
    subst ew
    refine ⟨l0, Or.inr ⟨by omega, fun f => ?_, fun r m r1 m1 hok hR hg hs => ?_⟩⟩
    · rw [feF, if_neg (by omega), if_neg (by omega), show ngm w n 2 = w 2 by simp only [ngm]; rw [if_neg (by omega)]]
    · rcases hs with ⟨g, -⟩ | ⟨-, rfl, rfl⟩ | ⟨g, -⟩ | ⟨g, -⟩
      · omega
      · exact ⟨by omega, ng_rel hn.1 hR, trC.ok hok, hg⟩
      · omega
      · omega
  · exact absurd e hnot
  · have l0 := sgn_lt (tl := tl) (tx := tx) (x := x) (by omega)
    have etk : tk = tkA tl tx x ∧ 1 ≤ tk ∧ tk ≤ 99 := by
      simp only [tkA]
      rcases c with ⟨c, c2, -⟩ | ⟨c, c2, -⟩
      · rw [if_pos (show 48 ≤ sgn tl tx (x + 2) ∧ sgn tl tx (x + 2) ≤ 57 from c)]
        exact ⟨c2, by omega, by omega⟩
      · rw [if_neg (show ¬ (48 ≤ sgn tl tx (x + 2) ∧ sgn tl tx (x + 2) ≤ 57) from c)]
        exact ⟨c2, by omega, by omega⟩
    refine ⟨l0, ?_⟩
    rcases e with ⟨e, -⟩ | ⟨-, e, rfl, rfl⟩ | ⟨-, e, hP⟩
    · exact absurd e (by decide)
    · exact Or.inl ⟨by omega, fun f => by rw [feF, if_pos (by omega), if_pos (by omega)]⟩
    · have hz : 0 ≤ z := by
        obtain ⟨o9, od9, P9, th9, ss9, hL9, hG9, hz9, -⟩ := id hP
        have := hz9.bd hm (by omega); omega
      have h2 : w' 2 = w 2 + tk := by
        obtain ⟨o9, od9, P9, th9, ss9, hL9, hG9, hz9, -, -, h9, -⟩ := id hP
        exact h9
      refine Or.inr ⟨hz, fun f => ?_, fun r m r1 m1 hok hR hg hs => ?_⟩
      · rw [feF, if_pos (by omega), if_neg (by omega), h2, etk.1]
      · rcases hs with ⟨-, hp, em⟩ | ⟨g, -⟩ | ⟨g, -⟩ | ⟨g, -⟩
        · rw [← etk.1] at hp em
          have k1 := pass_rel hok hR hg hp hP
          exact ⟨by rw [em, k1.1], k1.2.1, hp.ok hok (by omega), k1.2.2⟩
        · omega
        · omega
        · omega
  · exact absurd e hnot
  · exact absurd e hnot
  · exact absurd e hnot
  · exact absurd e hnot
  · exact absurd e hnot
  · have l0 := sgn_lt (tl := tl) (tx := tx) (x := x) (by omega)
    refine ⟨l0, ?_⟩
    have sp : -9 ≤ spA tl tx x ∧ spA tl tx x ≤ 9 := by
      clear f; simp only [spA]; split <;> omega
    rcases f with ⟨f, -⟩ | ⟨-, f, rfl, rfl⟩ | ⟨-, g, f, g1, rfl, rfl⟩
    · exact absurd f (by decide)
    · exact Or.inl ⟨by omega, fun f9 => by rw [feF, if_neg (by omega), if_pos (by omega)]⟩
    · refine Or.inr ⟨by omega, fun f9 => ?_, fun r m r1 m1 hok hR hg hs => ?_⟩
      · rw [feF, if_neg (by omega), if_neg (by omega), up_n (by omega)]
      · rcases hs with ⟨g, -⟩ | ⟨g, -⟩ | ⟨-, ⟨k, k1, k2, rfl⟩, rfl⟩ | ⟨g9, -⟩
        · omega
        · omega
        · have : k = g := by omega
          subst this
          exact ⟨by omega, sv_rel hn.1 hR k2, svC.ok hok sp, hg⟩
        · omega
theorem ord_no {tl : Nat} {tx : Nat → Int} {x j : Nat} (h : ∀ i, x ≤ i → i < j → ¬ sgn tl tx i = 59) (hj : x < j) : ordA tl tx j = 0 := by
  simp only [ordA]
  rw [if_neg (by have := h (j - 1) (by omega) (by omega); omega)]
/-- as far as orders are done -/
theorem PreO.sim {tl : Nat} {tx : Nat → Int} {n : Nat} {r0 : Nat → Nat → Int} {w0 : Nat → Int} (hok : Ok r0 n) (hR : Rw r0 w0 n) (hg : Geo (r0 0 0) n (r0 1) (r0 2)) (hw2 : 0 ≤ w0 2 ∧ w0 2 ≤ 10000) : ∀ {k x : Nat} {w : Nat → Int} {s : Int}, PreO tl tx n true w0 k x w s → feF n tl tx tl 0 (w0 2) = feF n tl tx (tl - x) x (w 2) ∧ ∀ (r : Nat → Nat → Int) (m : Int), DoR n tl tx r0 x r m → m = s ∧ Rw r w n ∧ Ok r n ∧ Geo (r 0 0) n (r 1) (r 2)
  | 0, x, w, s, h => by
    obtain ⟨rfl, rfl, rfl⟩ := h
    refine ⟨rfl, fun r m hd => ?_⟩
    obtain ⟨rfl, rfl⟩ := hd
    exact ⟨rfl, hR, hok, hg⟩
  | k + 1, x, w, s, h => by
    obtain ⟨x1, w1, s1, z, y, h1, h2, h3, h4, rfl, rfl⟩ := h
    obtain ⟨i1, i2⟩ := PreO.sim hok hR hg hw2 h1
    obtain ⟨g1, g2, g3, g4, g5⟩ := h1.ok (hR.mok hok) hw2
    obtain ⟨a1, a2, a3, a4, a5⟩ := h1.aut
    have l1 := sgn_lt (tl := tl) (tx := tx) (x := y) (by omega)
    rcases h2.aut a1 a2 with ⟨f1, -⟩ | ⟨-, f1, f2, f3, f4, f5⟩
    · omega
    · obtain ⟨s0, q | ⟨-, q1, q2⟩⟩ := h2.sim g1 g2 a4 (by omega)
      · omega
      · have no : ∀ j, x1 + 1 ≤ j → j < x1 + 1 + (y - x1) → ordA tl tx j = 0 := fun j c1 c2 => ord_no (x := x1) (fun i d1 d2 => (f4 i d1 (by omega)).2) (by omega)
        constructor
        · rw [i1, show tl - x1 = (tl - x1 - 1) + 1 by omega, q1, show tl - x1 - 1 = (y - x1) + (tl - (y + 1)) by omega, fe_skip (y - x1) (x1 + 1) _ no, show x1 + 1 + (y - x1) = y + 1 by omega]
        · intro r m hd
          have hd2 := do_skip (a := x1 + 1) (y - x1) (r := r) (m := m) no (by rw [show x1 + 1 + (y - x1) = y + 1 by omega]; exact hd)
          obtain ⟨r1, m1, e1, e2⟩ := hd2
          obtain ⟨b1, b2, b3, b4⟩ := i2 r1 m1 e1
          obtain ⟨c1, c2⟩ := q2 r1 m1 r m b3 b2 b4 e2
          exact ⟨by omega, c2⟩
theorem perform_rel {r : Nat → Nat → Int} {w : Nat → Int} {n tl : Nat} {tx : Nat → Int} (hok : Ok r n) (hR : Rw r w n) (hg : Geo (r 0 0) n (r 1) (r 2)) (hw2 : 0 ≤ w 2 ∧ w 2 ≤ 10000) {z z2 : Int} {C D : RC} {C2 D2 : MC} (hC : tPerform r n tl tx z C D) (hM : mPerform w n tl tx z2 C2 D2) : z = z2 ∧ ((D = C ∧ (D2 = C2 ∨ ∃ w' : Nat → Int, (∀ y, y < 37 → w' y = w y) ∧ D2 = (w', C2.2))) ∨ ∃ (r' : Nat → Nat → Int) (w' : Nat → Int), D = recC C r' ∧ D2 = mrc C2 w' ∧ Ok r' n ∧ Rw r' w' n ∧ Geo (r' 0 0) n (r' 1) (r' 2) ∧ 0 ≤ w' 2 ∧ w' 2 ≤ 10000) := by
  obtain ⟨f, hf, hC⟩ := hC
  obtain ⟨zf, xf, hE, hM⟩ := hM
  have r2 := hR.1 2 (by omega)
  rcases hE.flt with ⟨q1, q2⟩ | ⟨q1, q2⟩
  · have ef := hf.one q2
    rcases hM with ⟨-, ez, eD⟩ | ⟨m1, -⟩
    · rcases hC with ⟨-, c2, c3⟩ | ⟨c1, -⟩ | ⟨c1, -⟩
      · exact ⟨by omega, Or.inl ⟨c3, Or.inl eD⟩⟩
      · omega
      · omega
    · omega
  · have ef := hf.one q2
    rcases hM with ⟨m1, -⟩ | ⟨-, wt, xt, hT, hM⟩
    · omega
    have hal := q2.all
    have no0 : ∀ j, j < tl → ¬ autF tx (j + 1) = 0 := fun j hj => by
      have := hal.1 j hj
      rw [autF]; exact this
    rcases hT with ⟨k, x, w1, s1, h1, h2, h3⟩ | ⟨s, ⟨k, x, w1, s1, z1, h1, h2, h3, h4, h5⟩, h6⟩
    · -- an order that can't be done
      obtain ⟨i1, i2⟩ := h1.sim hok hR hg hw2
      obtain ⟨g1, g2, g3, g4, g5⟩ := h1.ok (hR.mok hok) hw2
      obtain ⟨a1, a2, a3, a4, a5⟩ := h1.aut
      rcases h2.aut a1 a2 with ⟨f1, f2, f3, f4⟩ | ⟨-, f1, f2, f3, f4, f5⟩
      · exfalso
        rcases f4 with ⟨f4, f5⟩ | ⟨f4, f5⟩
        · exact no0 xt f4 f5
        · exact f5 hal.2
      · obtain ⟨s0, ⟨-, q⟩ | ⟨q, -⟩⟩ := h2.sim g1 g2 a4 (f1 g1)
        · have fe : feF n tl tx tl 0 (r 0 2) = z2 := by
            rw [← r2, i1, show tl - x = (tl - x - 1) + 1 by omega, q]
          rcases hM with ⟨-, w', ew, eD⟩ | ⟨m1, -⟩
          · rcases hC with ⟨c1, -⟩ | ⟨-, -, c2, c3⟩ | ⟨-, c1, -⟩
            · omega
            · exact ⟨by omega, Or.inl ⟨c3, Or.inr ⟨w', ew, eD⟩⟩⟩
            · omega
          · omega
        · omega
    · obtain ⟨i1, i2⟩ := h1.sim hok hR hg hw2
      obtain ⟨g1, g2, g3, g4, g5⟩ := h1.ok (hR.mok hok) hw2
      obtain ⟨a1, a2, a3, a4, a5⟩ := h1.aut
      rcases h2.aut a1 a2 with ⟨f1, -⟩ | ⟨-, f1, f2, f3, f4, f5⟩
      · omega
      · have ext : xt = tl := by
          rcases Nat.lt_or_ge xt tl with q | q
          · exact absurd ((beh f5 q).2 h4) (no0 xt q)
          · omega
        subst ext
        obtain ⟨k1, k2, -⟩ := h2.ok g1 g2 g3
        obtain ⟨s0, ⟨q, -⟩ | ⟨-, q1, q2⟩⟩ := h2.sim g1 g2 a4 (f1 g1)
        · omega
        · have no : ∀ j, x + 1 ≤ j → j < x + 1 + (xt - x - 1) → ordA xt tx j = 0 := fun j c1 c2 => ord_no (x := x) (fun i d1 d2 => (f4 i d1 (by omega)).2) (by omega)
          have fe : feF n xt tx xt 0 (r 0 2) = 0 := by
            rw [← r2, i1, show xt - x = (xt - x - 1) + 1 by omega, q1, show xt - x - 1 = (xt - x - 1) + 0 by omega, fe_skip (xt - x - 1) (x + 1) 0 no, feF]
          rcases hM with ⟨m1, -⟩ | ⟨-, eD⟩
          · omega
          · rcases hC with ⟨c1, -⟩ | ⟨-, c1, -⟩ | ⟨-, -, r', hD, eD2⟩
            · omega
            · omega
            · have hd2 := do_skip (a := x + 1) (xt - x - 1) (r := r') (m := z) no (by rw [show x + 1 + (xt - x - 1) = xt by omega]; exact hD)
              obtain ⟨r1, m1, e1, e2⟩ := hd2
              obtain ⟨b1, b2, b3, b4⟩ := i2 r1 m1 e1
              obtain ⟨c1, c2, c3, c4⟩ := q2 r1 m1 r' z b3 b2 b4 e2
              exact ⟨by omega, Or.inr ⟨r', wt, eD2, eD, c3, c2, c4, k2⟩⟩
