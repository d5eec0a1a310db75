set_option maxHeartbeats 4000000 in
set_option maxRecDepth 100000 in
theorem c_X6_in (l : Launch) (dC : Nat → ClassId) (dI : Nat → Nat → Nat) (cI cJ cC cO : ClassId) (x : Int) (bx : -2147483648 ≤ x ∧ x < 2147483648) (lo : Int) (blo : -2147483648 ≤ lo ∧ lo < 2147483648) (hi : Int) (bhi : -2147483648 ≤ hi ∧ hi < 2147483648) : Met l yX6_in wsX6_in ({ frames := 0, cells := 0, slots := 0, locals := 0 } : Room) (va_Pc [.int (iI x), .int (iI lo), .int (iI hi)] (ro_B (dC, dI) vwCl (tyG cI cJ cC cO) ([]))) (ro_Q (fun z => (z = 1 ∧ lo ≤ x ∧ x ≤ hi) ∨ (z = 0 ∧ ¬ (lo ≤ x ∧ x ≤ hi)))) 0 0 (fun _ => False) := by
  refine Met.ofW (cc := cX6_in) (maxL := 3) (ret := (some .boolean)) (by decide) rfl ?_
  intro p e s m args below meth c s₁ B hml hv
  obtain ⟨hav, hP, hK⟩ := hv
  have hx := B.exec
  have hb := B.bytes
  have hr := B.returns
  have hts := atoms_spec (ws := wsX6_in) B.pre
  have hown : s.vm.findClass RX6 = some m.cls := findClass_of_methodNamed B.named
  have hlocks := B.notSynchronized
  have hP : va_P (dC, dI) vwCl [] s.heap := hP
  have hl := lv_entry ([.int (iI x), .int (iI lo), .int (iI hi)]) (n := 3) (Nat.le_of_ble_eq_true rfl)
  have hent : entryFrame m args 3 = F0 m 0 ((lg_sl ([.int (iI x), .int (iI lo), .int (iI hi)]) ++ List.replicate (3 - (lg_sl ([.int (iI x), .int (iI lo), .int (iI hi)])).length) Slot.unset).toArray) [] := by rw [hav]; exact lg_entry_eq ..
  rw [hent]
  generalize (lg_sl ([.int (iI x), .int (iI lo), .int (iI hi)]) ++ List.replicate (3 - (lg_sl ([.int (iI x), .int (iI lo), .int (iI hi)])).length) Slot.unset).toArray = ls at hl ⊢
  have hl : lv_has ls 3 [(0, .int (iI x)), (1, .int (iI lo)), (2, .int (iI hi))] := hl
  refine lv_iload_n hx hb dX6_in_0 rfl (lv_at hl 0 rfl) ?_
  refine lv_iload_n hx hb dX6_in_1 rfl (lv_at hl 1 rfl) ?_
  refine zz_icmp_lt (tgt := 14) hx hb dX6_in_2 (by decide) (by omega) (by omega) (fun c_2 => ?_) (fun c_2 => ?_)
  · skip
    refine zz_iconst hx hb dX6_in_14 ?_
    exact W.zret (v := iI (0 : Int)) hx hb hr (rfl) (fun t9 ht9 hW9 => ⟨(0 : Int), rfl, Or.inr ⟨rfl, by omega⟩, ht9⟩) (fun q hq => by cases hq) dX6_in_15
  · skip
    refine lv_iload_n hx hb dX6_in_5 rfl (lv_at hl 0 rfl) ?_
    refine lv_iload_n hx hb dX6_in_6 rfl (lv_at hl 2 rfl) ?_
    refine zz_icmp_gt (tgt := 14) hx hb dX6_in_7 (by decide) (by omega) (by omega) (fun c_7 => ?_) (fun c_7 => ?_)
    · skip
      refine zz_iconst hx hb dX6_in_14 ?_
      exact W.zret (v := iI (0 : Int)) hx hb hr (rfl) (fun t9 ht9 hW9 => ⟨(0 : Int), rfl, Or.inr ⟨rfl, by omega⟩, ht9⟩) (fun q hq => by cases hq) dX6_in_15
    · skip
      refine zz_iconst hx hb dX6_in_10 ?_
      refine lv_goto (tgt := 15) hx hb dX6_in_11 (by decide) ?_
      exact W.zret (v := iI (1 : Int)) hx hb hr (rfl) (fun t9 ht9 hW9 => ⟨(1 : Int), rfl, Or.inl ⟨rfl, by omega⟩, ht9⟩) (fun q hq => by cases hq) dX6_in_15
set_option maxHeartbeats 4000000 in
set_option maxRecDepth 100000 in
theorem c_X6_rest (l : Launch) (dC : Nat → ClassId) (dI : Nat → Nat → Nat) (cI cJ cC cO : ClassId) (x y : Int) (hx0 : -2147483648 < x ∧ x < 2147483648) (hy : 0 < y ∧ y < 2147483648) : Met l yX6_rest wsX6_rest ({ frames := 0, cells := 0, slots := 0, locals := 0 } : Room) (va_Pc [.int (iI x), .int (iI y)] (ro_B (dC, dI) vwCl (tyG cI cJ cC cO) ([]))) (ro_Q (fun z => z = x % y)) 0 0 (fun _ => False) := by
  refine Met.ofW (cc := cX6_rest) (maxL := 3) (ret := (some .int)) (by decide) rfl ?_
  intro p e s m args below meth c s₁ B hml hv
  obtain ⟨hav, hP, hK⟩ := hv
  have hx := B.exec
  have hb := B.bytes
  have hr := B.returns
  have hts := atoms_spec (ws := wsX6_rest) B.pre
  have hown : s.vm.findClass RX6 = some m.cls := findClass_of_methodNamed B.named
  have hlocks := B.notSynchronized
  have hP : va_P (dC, dI) vwCl [] s.heap := hP
  have hl := lv_entry ([.int (iI x), .int (iI y)]) (n := 3) (Nat.le_of_ble_eq_true rfl)
  have hent : entryFrame m args 3 = F0 m 0 ((lg_sl ([.int (iI x), .int (iI y)]) ++ List.replicate (3 - (lg_sl ([.int (iI x), .int (iI y)])).length) Slot.unset).toArray) [] := by rw [hav]; exact lg_entry_eq ..
  rw [hent]
  generalize (lg_sl ([.int (iI x), .int (iI y)]) ++ List.replicate (3 - (lg_sl ([.int (iI x), .int (iI y)])).length) Slot.unset).toArray = ls at hl ⊢
  have hl : lv_has ls 3 [(0, .int (iI x)), (1, .int (iI y))] := hl
  have ht1 := fm_b (x := x) (y := y) hy.1
  have ht3 := fm_cases (x := x) (y := y) hy.1
  refine lv_iload_n hx hb dX6_rest_0 rfl (lv_at hl 0 rfl) ?_
  refine lv_iload_n hx hb dX6_rest_1 rfl (lv_at hl 1 rfl) ?_
  refine zz_irem hx hb dX6_rest_2 (by omega) (by omega) (by omega) ?_
  refine lv_istore_n (lv' := [(2, .int (iI (Int.tmod x y))), (0, .int (iI x)), (1, .int (iI y))]) hx hb dX6_rest_3 rfl hl (by decide) rfl (fun ls hl => ?_)
  refine lv_iload_n hx hb dX6_rest_4 rfl (lv_at hl 0 rfl) ?_
  refine zz_if_ge (tgt := 14) hx hb dX6_rest_5 (by decide) (by omega) (fun c_5 => ?_) (fun c_5 => ?_)
  · skip
    refine lv_iload_n hx hb dX6_rest_14 rfl (lv_at hl 0 rfl) ?_
    exact W.iret (v := iI (Int.tmod x y)) hx hb hr (fun t9 ht9 hW9 => ⟨(Int.tmod x y), rfl, by omega, ht9⟩) (fun q hq => by cases hq) dX6_rest_15
  · skip
    refine lv_iload_n hx hb dX6_rest_8 rfl (lv_at hl 0 rfl) ?_
    refine lv_iload_n hx hb dX6_rest_9 rfl (lv_at hl 2 rfl) ?_
    refine zz_iadd hx hb dX6_rest_10 ?_
    refine lv_goto (tgt := 15) hx hb dX6_rest_11 (by decide) ?_
    exact W.iret (v := iI ((Int.tmod x y) + y)) hx hb hr (fun t9 ht9 hW9 => ⟨((Int.tmod x y) + y), rfl, by omega, ht9⟩) (fun q hq => by cases hq) dX6_rest_15
set_option maxHeartbeats 4000000 in
set_option maxRecDepth 100000 in
theorem c_X6_noRod (l : Launch) (dC : Nat → ClassId) (dI : Nat → Nat → Nat) (cI cJ cC cO : ClassId) (b0 b1 b2 b3 b4 b5 b6 b7 b8 b9 b10 b11 b12 : Nat) (w pa ad be : Nat → Int) (ns ia : Int) (tx : Nat → Int) (tl ta : Int) (od pt tu fa th ss mo : Nat → Int) (n : Nat) (hok : MOk w n) (x : Int) (bx : -2147483648 ≤ x ∧ x < 2147483648) : Met l yX6_noRod wsX6_noRod ({ frames := 1, cells := 0, slots := 0, locals := 22 } : Room) (va_Pc [.ref b0, .int (iI x)] (ro_B (dC, dI) vwCl (tyG cI cJ cC cO) (wM cI cC b0 b1 b2 b3 b4 b5 b6 b7 b8 b9 b10 b11 b12 w pa ad be ns ia tx tl ta od pt tu fa th ss mo))) (ro_Q (fun z => (z = 1 ∧ ¬ (0 ≤ x ∧ x < (n : Int))) ∨ (z = 0 ∧ 0 ≤ x ∧ x < (n : Int)))) 0 0 (fun _ => False) := by
  refine Met.ofW (cc := cX6_noRod) (maxL := 2) (ret := (some .boolean)) (by decide) rfl ?_
  intro p e s m args below meth c s₁ B hml hv
  obtain ⟨hav, hP, hK⟩ := hv
  have hx := B.exec
  have hb := B.bytes
  have hr := B.returns
  have hts := atoms_spec (ws := wsX6_noRod) B.pre
  have hown : s.vm.findClass RX6 = some m.cls := findClass_of_methodNamed B.named
  have hlocks := B.notSynchronized
  have hf7 := hts (.fieldLink RX6 7 "RingRodsModel" "row" "[I") (by decide +kernel)
  have hw6 : ∀ w ∈ u_ws RX6 TX6 16, w ∈ wsX6_noRod := by decide +kernel
  have hP : va_P (dC, dI) vwCl [(b0, .inr (6, [.ref b1, .ref b2, .ref b3, .ref b4, .int (iI ns), .int (iI ia), .ref b5, .int (iI tl), .int (iI ta), .ref b6, .ref b7, .ref b8, .ref b9, .ref b10, .ref b11, .ref b12])), (b1, .inl (cI, 37, .inl (fun z9 => iI (w z9)))), (b2, .inl (cI, 148, .inl (fun z9 => iI (pa z9)))), (b3, .inl (cI, 37, .inl (fun z9 => iI (ad z9)))), (b4, .inl (cI, 37, .inl (fun z9 => iI (be z9)))), (b5, .inl (cC, 60, .inl (fun z9 => iI (tx z9)))), (b6, .inl (cI, 8, .inl (fun z9 => iI (od z9)))), (b7, .inl (cI, 8, .inl (fun z9 => iI (pt z9)))), (b8, .inl (cI, 8, .inl (fun z9 => iI (tu z9)))), (b9, .inl (cI, 8, .inl (fun z9 => iI (fa z9)))), (b10, .inl (cI, 8, .inl (fun z9 => iI (th z9)))), (b11, .inl (cI, 8, .inl (fun z9 => iI (ss z9)))), (b12, .inl (cI, 1600, .inl (fun z9 => iI (mo z9))))] s.heap := hP
  have hl := lv_entry ([.ref b0, .int (iI x)]) (n := 2) (Nat.le_of_ble_eq_true rfl)
  have hent : entryFrame m args 2 = F0 m 0 ((lg_sl ([.ref b0, .int (iI x)]) ++ List.replicate (2 - (lg_sl ([.ref b0, .int (iI x)])).length) Slot.unset).toArray) [] := by rw [hav]; exact lg_entry_eq ..
  rw [hent]
  generalize (lg_sl ([.ref b0, .int (iI x)]) ++ List.replicate (2 - (lg_sl ([.ref b0, .int (iI x)])).length) Slot.unset).toArray = ls at hl ⊢
  have hl : lv_has ls 2 [(0, .ref b0), (1, .int (iI x))] := hl
  have bd0 := hok.bd
  have bd1 := hok.fr
  refine lv_iload_n hx hb dX6_noRod_0 rfl (lv_at hl 1 rfl) ?_
  refine zz_iconst hx hb dX6_noRod_1 ?_
  refine lv_aload_n hx hb dX6_noRod_2 rfl (lv_at hl 0 rfl) ?_
  refine va_get (D := (dC, dI)) (ci := 6) (v := .ref b1) (C := RX6) (T := TX6) (N := 16) hx hb hts hw6 hown hK hP 0 rfl rfl 0 (by decide) hf7 (fun _ h9 => h9) rfl dX6_noRod_3 ?_
  refine zz_iconst hx hb dX6_noRod_6 ?_
  refine zz_iald hx hb hK hP 1 0 (f := w) rfl rfl (by decide) 1 (by omega) (by omega) dX6_noRod_7 ?_
  refine zz_iconst hx hb dX6_noRod_8 ?_
  refine zz_isub hx hb dX6_noRod_9 ?_
  refine ro_S (As := [.int (iI x), .int (iI (0 : Int)), .int (iI ((w 1) - (1 : Int)))]) (rest := []) ⟨hx, hb, hml, hown, hts⟩ (c_X6_in l dC dI cI cJ cC cO x (by omega) (0 : Int) (by omega) ((w 1) - (1 : Int)) (by omega)) (cwS 3 hts gX6_noRod_X6_in rfl rfl rfl (by decide +kernel) ⟨Nat.le_of_ble_eq_true rfl, Nat.le_of_ble_eq_true rfl⟩) hK hP [] rfl rfl hl.1 rfl (Nat.le_of_ble_eq_true rfl) dX6_noRod_10 ⟨Nat.zero_le _, Nat.zero_le _⟩ (fun z_10 hz_10 => ?_)
  refine zz_if_ne (tgt := 20) hx hb dX6_noRod_13 (by decide) (by omega) (fun c_13 => ?_) (fun c_13 => ?_)
  · skip
    refine zz_iconst hx hb dX6_noRod_20 ?_
    exact W.zret (v := iI (0 : Int)) hx hb hr (rfl) (fun t9 ht9 hW9 => ⟨(0 : Int), rfl, Or.inr ⟨rfl, by omega⟩, ht9⟩) (fun q hq => by cases hq) dX6_noRod_21
  · skip
    refine zz_iconst hx hb dX6_noRod_16 ?_
    refine lv_goto (tgt := 21) hx hb dX6_noRod_17 (by decide) ?_
    exact W.zret (v := iI (1 : Int)) hx hb hr (rfl) (fun t9 ht9 hW9 => ⟨(1 : Int), rfl, Or.inl ⟨rfl, by omega⟩, ht9⟩) (fun q hq => by cases hq) dX6_noRod_21
set_option maxHeartbeats 4000000 in
set_option maxRecDepth 100000 in
theorem c_X6_lengths (l : Launch) (dC : Nat → ClassId) (dI : Nat → Nat → Nat) (cI cJ cC cO : ClassId) (b0 b1 b2 b3 b4 b5 b6 b7 b8 b9 b10 b11 b12 : Nat) (w pa ad be : Nat → Int) (ns ia : Int) (tx : Nat → Int) (tl ta : Int) (od pt tu fa th ss mo : Nat → Int) (n : Nat) (hok : MOk w n) : Met l yX6_lengths wsX6_lengths ({ frames := 0, cells := 0, slots := 0, locals := 0 } : Room) (va_Pc [.ref b0] (ro_B (dC, dI) vwCl (tyG cI cJ cC cO) (wM cI cC b0 b1 b2 b3 b4 b5 b6 b7 b8 b9 b10 b11 b12 w pa ad be ns ia tx tl ta od pt tu fa th ss mo))) (ro_Q (fun z => z = sumI (leM w) n)) 0 0 (fun _ => False) := by
  refine Met.ofW (cc := cX6_lengths) (maxL := 3) (ret := (some .int)) (by decide) rfl ?_
  intro p e s m args below meth c s₁ B hml hv
  obtain ⟨hav, hP, hK⟩ := hv
  have hx := B.exec
  have hb := B.bytes
  have hr := B.returns
  have hts := atoms_spec (ws := wsX6_lengths) B.pre
  have hown : s.vm.findClass RX6 = some m.cls := findClass_of_methodNamed B.named
  have hlocks := B.notSynchronized
  have hf7 := hts (.fieldLink RX6 7 "RingRodsModel" "row" "[I") (by decide +kernel)
  have hw6 : ∀ w ∈ u_ws RX6 TX6 16, w ∈ wsX6_lengths := by decide +kernel
  have hP : va_P (dC, dI) vwCl [(b0, .inr (6, [.ref b1, .ref b2, .ref b3, .ref b4, .int (iI ns), .int (iI ia), .ref b5, .int (iI tl), .int (iI ta), .ref b6, .ref b7, .ref b8, .ref b9, .ref b10, .ref b11, .ref b12])), (b1, .inl (cI, 37, .inl (fun z9 => iI (w z9)))), (b2, .inl (cI, 148, .inl (fun z9 => iI (pa z9)))), (b3, .inl (cI, 37, .inl (fun z9 => iI (ad z9)))), (b4, .inl (cI, 37, .inl (fun z9 => iI (be z9)))), (b5, .inl (cC, 60, .inl (fun z9 => iI (tx z9)))), (b6, .inl (cI, 8, .inl (fun z9 => iI (od z9)))), (b7, .inl (cI, 8, .inl (fun z9 => iI (pt z9)))), (b8, .inl (cI, 8, .inl (fun z9 => iI (tu z9)))), (b9, .inl (cI, 8, .inl (fun z9 => iI (fa z9)))), (b10, .inl (cI, 8, .inl (fun z9 => iI (th z9)))), (b11, .inl (cI, 8, .inl (fun z9 => iI (ss z9)))), (b12, .inl (cI, 1600, .inl (fun z9 => iI (mo z9))))] s.heap := hP
  have hl := lv_entry ([.ref b0]) (n := 3) (Nat.le_of_ble_eq_true rfl)
  have hent : entryFrame m args 3 = F0 m 0 ((lg_sl ([.ref b0]) ++ List.replicate (3 - (lg_sl ([.ref b0])).length) Slot.unset).toArray) [] := by rw [hav]; exact lg_entry_eq ..
  rw [hent]
  generalize (lg_sl ([.ref b0]) ++ List.replicate (3 - (lg_sl ([.ref b0])).length) Slot.unset).toArray = ls at hl ⊢
  have hl : lv_has ls 3 [(0, .ref b0)] := hl
  have bd0 := hok.bd
  have bd1 := hok.fr
  refine zz_iconst hx hb dX6_lengths_0 ?_
  refine lv_istore_n (lv' := [(1, .int (iI (0 : Int))), (0, .ref b0)]) hx hb dX6_lengths_1 rfl hl (by decide) rfl (fun ls hl => ?_)
  refine zz_iconst hx hb dX6_lengths_2 ?_
  refine lv_istore_n (lv' := [(2, .int (iI (0 : Int))), (1, .int (iI (0 : Int))), (0, .ref b0)]) hx hb dX6_lengths_3 rfl hl (by decide) rfl (fun ls hl => ?_)
  have lp4 : ∀ (d4 : Nat), ∀ (i : Nat) (v1 v2 : Int) (hi : i ≤ n) (ei : v2 = (i : Int)) (ea : v1 = sumI (leM w) i), n - i < d4 → ∀ ls : Array Slot, lv_has ls 3 [(0, .ref b0), (1, .int (iI v1)), (2, .int (iI v2))] → W p l e ({ frames := 0, cells := 0, slots := 0, locals := 0 } : Room) s m args below meth c s.heap [] 0 0 (MQ below (ro_Q (fun z => z = sumI (leM w) n)) args s 0 0 (fun _ => False)) (F0 m 4 ls []) := by
    intro d4
    induction d4 with
    | zero =>
      intro i v1 v2 hi ei ea hd4
      exact absurd hd4 (Nat.not_lt_zero _)
    | succ d4 ih4 =>
      intro i v1 v2 hi ei ea hd4 ls hl
      refine lv_iload_n hx hb dX6_lengths_4 rfl (lv_at hl 2 rfl) ?_
      refine lv_aload_n hx hb dX6_lengths_5 rfl (lv_at hl 0 rfl) ?_
      refine va_get (D := (dC, dI)) (ci := 6) (v := .ref b1) (C := RX6) (T := TX6) (N := 16) hx hb hts hw6 hown hK hP 0 rfl rfl 0 (by decide) hf7 (fun _ h9 => h9) rfl dX6_lengths_6 ?_
      refine zz_iconst hx hb dX6_lengths_9 ?_
      refine zz_iald hx hb hK hP 1 0 (f := w) rfl rfl (by decide) 1 (by omega) (by omega) dX6_lengths_10 ?_
      refine zz_icmp_ge (tgt := 32) hx hb dX6_lengths_11 (by decide) (by omega) (by omega) (fun c_11 => ?_) (fun c_11 => ?_)
      · skip
        refine lv_iload_n hx hb dX6_lengths_32 rfl (lv_at hl 1 rfl) ?_
        exact W.iret (v := iI v1) hx hb hr (fun t9 ht9 hW9 => ⟨v1, rfl, by (have h9 : i = n := (by omega)); rw [h9] at ea; exact ea, ht9⟩) (fun q hq => by cases hq) dX6_lengths_33
      · skip
        refine lv_iload_n hx hb dX6_lengths_14 rfl (lv_at hl 1 rfl) ?_
        refine lv_aload_n hx hb dX6_lengths_15 rfl (lv_at hl 0 rfl) ?_
        refine va_get (D := (dC, dI)) (ci := 6) (v := .ref b1) (C := RX6) (T := TX6) (N := 16) hx hb hts hw6 hown hK hP 0 rfl rfl 0 (by decide) hf7 (fun _ h9 => h9) rfl dX6_lengths_16 ?_
        refine zz_bipush hx hb dX6_lengths_19 (by decide +kernel) ?_
        refine lv_iload_n hx hb dX6_lengths_21 rfl (lv_at hl 2 rfl) ?_
        refine zz_iadd hx hb dX6_lengths_22 ?_
        refine zz_iald hx hb hK hP 1 0 (f := w) rfl rfl (by decide) (13 + i) (by omega) (by omega) dX6_lengths_23 ?_
        have b_23 := hok.at (k := i) (by omega)
        refine zz_iadd hx hb dX6_lengths_24 ?_
        refine lv_istore_n (lv' := [(1, .int (iI (v1 + (w (13 + i))))), (0, .ref b0), (2, .int (iI v2))]) hx hb dX6_lengths_25 rfl hl (by decide) rfl (fun ls hl => ?_)
        refine zz_iinc (lv' := [(2, .int (iI (v2 + (1 : Int)))), (1, .int (iI (v1 + (w (13 + i))))), (0, .ref b0)]) hx hb dX6_lengths_26 hl (k := 2) rfl (by decide) rfl (fun ls hl => ?_)
        refine lv_goto (tgt := 4) hx hb dX6_lengths_29 (by decide) ?_
        exact ih4 (i + 1) (v1 + (w (13 + i))) (v2 + (1 : Int)) (by omega) (by omega) (by rw [sumI_s]; simp only [leM] at ea ⊢; omega) (by omega) ls (lv_sub hl [2, 1, 0] rfl)
  exact lp4 _ 0 (0 : Int) (0 : Int) (by omega) (by omega) (by simp [sumI]) (Nat.lt_succ_self _) ls (lv_sub hl [2, 1, 0] rfl)
set_option maxHeartbeats 4000000 in
set_option maxRecDepth 100000 in
theorem c_X6_free (l : Launch) (dC : Nat → ClassId) (dI : Nat → Nat → Nat) (cI cJ cC cO : ClassId) (b0 b1 b2 b3 b4 b5 b6 b7 b8 b9 b10 b11 b12 : Nat) (w pa ad be : Nat → Int) (ns ia : Int) (tx : Nat → Int) (tl ta : Int) (od pt tu fa th ss mo : Nat → Int) (n : Nat) (hok : MOk w n) : Met l yX6_free wsX6_free ({ frames := 1, cells := 0, slots := 0, locals := 22 } : Room) (va_Pc [.ref b0] (ro_B (dC, dI) vwCl (tyG cI cJ cC cO) (wM cI cC b0 b1 b2 b3 b4 b5 b6 b7 b8 b9 b10 b11 b12 w pa ad be ns ia tx tl ta od pt tu fa th ss mo))) (ro_Q (fun z => z = frM w n)) 0 0 (fun _ => False) := by
  refine Met.ofW (cc := cX6_free) (maxL := 1) (ret := (some .int)) (by decide) rfl ?_
  intro p e s m args below meth c s₁ B hml hv
  obtain ⟨hav, hP, hK⟩ := hv
  have hx := B.exec
  have hb := B.bytes
  have hr := B.returns
  have hts := atoms_spec (ws := wsX6_free) B.pre
  have hown : s.vm.findClass RX6 = some m.cls := findClass_of_methodNamed B.named
  have hlocks := B.notSynchronized
  have hf7 := hts (.fieldLink RX6 7 "RingRodsModel" "row" "[I") (by decide +kernel)
  have hw6 : ∀ w ∈ u_ws RX6 TX6 16, w ∈ wsX6_free := by decide +kernel
  have hP : va_P (dC, dI) vwCl [(b0, .inr (6, [.ref b1, .ref b2, .ref b3, .ref b4, .int (iI ns), .int (iI ia), .ref b5, .int (iI tl), .int (iI ta), .ref b6, .ref b7, .ref b8, .ref b9, .ref b10, .ref b11, .ref b12])), (b1, .inl (cI, 37, .inl (fun z9 => iI (w z9)))), (b2, .inl (cI, 148, .inl (fun z9 => iI (pa z9)))), (b3, .inl (cI, 37, .inl (fun z9 => iI (ad z9)))), (b4, .inl (cI, 37, .inl (fun z9 => iI (be z9)))), (b5, .inl (cC, 60, .inl (fun z9 => iI (tx z9)))), (b6, .inl (cI, 8, .inl (fun z9 => iI (od z9)))), (b7, .inl (cI, 8, .inl (fun z9 => iI (pt z9)))), (b8, .inl (cI, 8, .inl (fun z9 => iI (tu z9)))), (b9, .inl (cI, 8, .inl (fun z9 => iI (fa z9)))), (b10, .inl (cI, 8, .inl (fun z9 => iI (th z9)))), (b11, .inl (cI, 8, .inl (fun z9 => iI (ss z9)))), (b12, .inl (cI, 1600, .inl (fun z9 => iI (mo z9))))] s.heap := hP
  have hl := lv_entry ([.ref b0]) (n := 1) (Nat.le_of_ble_eq_true rfl)
  have hent : entryFrame m args 1 = F0 m 0 ((lg_sl ([.ref b0]) ++ List.replicate (1 - (lg_sl ([.ref b0])).length) Slot.unset).toArray) [] := by rw [hav]; exact lg_entry_eq ..
  rw [hent]
  generalize (lg_sl ([.ref b0]) ++ List.replicate (1 - (lg_sl ([.ref b0])).length) Slot.unset).toArray = ls at hl ⊢
  have hl : lv_has ls 1 [(0, .ref b0)] := hl
  have bd0 := hok.bd
  have bd1 := hok.fr
  refine lv_aload_n hx hb dX6_free_0 rfl (lv_at hl 0 rfl) ?_
  refine va_get (D := (dC, dI)) (ci := 6) (v := .ref b1) (C := RX6) (T := TX6) (N := 16) hx hb hts hw6 hown hK hP 0 rfl rfl 0 (by decide) hf7 (fun _ h9 => h9) rfl dX6_free_1 ?_
  refine zz_iconst hx hb dX6_free_4 ?_
  refine zz_iald hx hb hK hP 1 0 (f := w) rfl rfl (by decide) 0 (by omega) (by omega) dX6_free_5 ?_
  refine lv_aload_n hx hb dX6_free_6 rfl (lv_at hl 0 rfl) ?_
  refine ro_V (As := []) (rest := [.int (iI (w 0))]) ⟨hx, hb, hml, hown, hts⟩ (c_X6_lengths l dC dI cI cJ cC cO b0 b1 b2 b3 b4 b5 b6 b7 b8 b9 b10 b11 b12 w pa ad be ns ia tx tl ta od pt tu fa th ss mo n hok) (cwV 0 hts gX6_free_X6_lengths rfl rfl rfl (by decide +kernel) ⟨Nat.le_of_ble_eq_true rfl, Nat.le_of_ble_eq_true rfl⟩) hK hP [0, 1, 2, 3, 4, 5, 6, 7, 8, 9, 10, 11, 12] rfl 6 0 rfl rfl rfl hl.1 rfl (Nat.le_of_ble_eq_true rfl) dX6_free_7 ⟨Nat.zero_le _, Nat.zero_le _⟩ (fun z_7 hz_7 => ?_)
  subst hz_7
  refine zz_isub hx hb dX6_free_10 ?_
  exact W.iret (v := iI ((w 0) - (sumI (leM w) n))) hx hb hr (fun t9 ht9 hW9 => ⟨((w 0) - (sumI (leM w) n)), rfl, rfl, ht9⟩) (fun q hq => by cases hq) dX6_free_11
set_option maxHeartbeats 4000000 in
set_option maxRecDepth 100000 in
theorem c_X6_coverer (l : Launch) (dC : Nat → ClassId) (dI : Nat → Nat → Nat) (cI cJ cC cO : ClassId) (b0 b1 b2 b3 b4 b5 b6 b7 b8 b9 b10 b11 b12 : Nat) (w pa ad be : Nat → Int) (ns ia : Int) (tx : Nat → Int) (tl ta : Int) (od pt tu fa th ss mo : Nat → Int) (n : Nat) (hok : MOk w n) (x : Int) (hx0 : -100000000 < x ∧ x < 100000000) : Met l yX6_coverer wsX6_coverer ({ frames := 1, cells := 0, slots := 0, locals := 22 } : Room) (va_Pc [.ref b0, .int (iI x)] (ro_B (dC, dI) vwCl (tyG cI cJ cC cO) (wM cI cC b0 b1 b2 b3 b4 b5 b6 b7 b8 b9 b10 b11 b12 w pa ad be ns ia tx tl ta od pt tu fa th ss mo))) (ro_Q (fun z => Cov (w 0) n (plM w) (leM w) x z)) 0 0 (fun _ => False) := by
  refine Met.ofW (cc := cX6_coverer) (maxL := 3) (ret := (some .int)) (by decide) rfl ?_
  intro p e s m args below meth c s₁ B hml hv
  obtain ⟨hav, hP, hK⟩ := hv
  have hx := B.exec
  have hb := B.bytes
  have hr := B.returns
  have hts := atoms_spec (ws := wsX6_coverer) B.pre
  have hown : s.vm.findClass RX6 = some m.cls := findClass_of_methodNamed B.named
  have hlocks := B.notSynchronized
  have hf7 := hts (.fieldLink RX6 7 "RingRodsModel" "row" "[I") (by decide +kernel)
  have hw6 : ∀ w ∈ u_ws RX6 TX6 16, w ∈ wsX6_coverer := by decide +kernel
  have hP : va_P (dC, dI) vwCl [(b0, .inr (6, [.ref b1, .ref b2, .ref b3, .ref b4, .int (iI ns), .int (iI ia), .ref b5, .int (iI tl), .int (iI ta), .ref b6, .ref b7, .ref b8, .ref b9, .ref b10, .ref b11, .ref b12])), (b1, .inl (cI, 37, .inl (fun z9 => iI (w z9)))), (b2, .inl (cI, 148, .inl (fun z9 => iI (pa z9)))), (b3, .inl (cI, 37, .inl (fun z9 => iI (ad z9)))), (b4, .inl (cI, 37, .inl (fun z9 => iI (be z9)))), (b5, .inl (cC, 60, .inl (fun z9 => iI (tx z9)))), (b6, .inl (cI, 8, .inl (fun z9 => iI (od z9)))), (b7, .inl (cI, 8, .inl (fun z9 => iI (pt z9)))), (b8, .inl (cI, 8, .inl (fun z9 => iI (tu z9)))), (b9, .inl (cI, 8, .inl (fun z9 => iI (fa z9)))), (b10, .inl (cI, 8, .inl (fun z9 => iI (th z9)))), (b11, .inl (cI, 8, .inl (fun z9 => iI (ss z9)))), (b12, .inl (cI, 1600, .inl (fun z9 => iI (mo z9))))] s.heap := hP
  have hl := lv_entry ([.ref b0, .int (iI x)]) (n := 3) (Nat.le_of_ble_eq_true rfl)
  have hent : entryFrame m args 3 = F0 m 0 ((lg_sl ([.ref b0, .int (iI x)]) ++ List.replicate (3 - (lg_sl ([.ref b0, .int (iI x)])).length) Slot.unset).toArray) [] := by rw [hav]; exact lg_entry_eq ..
  rw [hent]
  generalize (lg_sl ([.ref b0, .int (iI x)]) ++ List.replicate (3 - (lg_sl ([.ref b0, .int (iI x)])).length) Slot.unset).toArray = ls at hl ⊢
  have hl : lv_has ls 3 [(0, .ref b0), (1, .int (iI x))] := hl
  have bd0 := hok.bd
  have bd1 := hok.fr
  refine zz_iconst hx hb dX6_coverer_0 ?_
  refine lv_istore_n (lv' := [(2, .int (iI (0 : Int))), (0, .ref b0), (1, .int (iI x))]) hx hb dX6_coverer_1 rfl hl (by decide) rfl (fun ls hl => ?_)
  have lp2 : ∀ (d2 : Nat), ∀ (i : Nat) (v2 : Int) (hi : i ≤ n) (e2 : v2 = (i : Int)) (e1 : ∀ j, j < i → ¬ (x - plM w j) % (w 0) < leM w j), n - i < d2 → ∀ ls : Array Slot, lv_has ls 3 [(0, .ref b0), (1, .int (iI x)), (2, .int (iI v2))] → W p l e ({ frames := 1, cells := 0, slots := 0, locals := 22 } : Room) s m args below meth c s.heap [] 0 0 (MQ below (ro_Q (fun z => Cov (w 0) n (plM w) (leM w) x z)) args s 0 0 (fun _ => False)) (F0 m 2 ls []) := by
    intro d2
    induction d2 with
    | zero =>
      intro i v2 hi e2 e1 hd2
      exact absurd hd2 (Nat.not_lt_zero _)
    | succ d2 ih2 =>
      intro i v2 hi e2 e1 hd2 ls hl
      refine lv_iload_n hx hb dX6_coverer_2 rfl (lv_at hl 2 rfl) ?_
      refine lv_aload_n hx hb dX6_coverer_3 rfl (lv_at hl 0 rfl) ?_
      refine va_get (D := (dC, dI)) (ci := 6) (v := .ref b1) (C := RX6) (T := TX6) (N := 16) hx hb hts hw6 hown hK hP 0 rfl rfl 0 (by decide) hf7 (fun _ h9 => h9) rfl dX6_coverer_4 ?_
      refine zz_iconst hx hb dX6_coverer_7 ?_
      refine zz_iald hx hb hK hP 1 0 (f := w) rfl rfl (by decide) 1 (by omega) (by omega) dX6_coverer_8 ?_
      refine zz_icmp_ge (tgt := 51) hx hb dX6_coverer_9 (by decide) (by omega) (by omega) (fun c_9 => ?_) (fun c_9 => ?_)
      · skip
        refine zz_bipush hx hb dX6_coverer_51 (by decide +kernel) ?_
        exact W.iret (v := iI (-5 : Int)) hx hb hr (fun t9 ht9 hW9 => ⟨(-5 : Int), rfl, Or.inr ⟨rfl, fun j hj => e1 j (by omega)⟩, ht9⟩) (fun q hq => by cases hq) dX6_coverer_53
      · skip
        refine lv_iload_n hx hb dX6_coverer_12 rfl (lv_at hl 1 rfl) ?_
        refine lv_aload_n hx hb dX6_coverer_13 rfl (lv_at hl 0 rfl) ?_
        refine va_get (D := (dC, dI)) (ci := 6) (v := .ref b1) (C := RX6) (T := TX6) (N := 16) hx hb hts hw6 hown hK hP 0 rfl rfl 0 (by decide) hf7 (fun _ h9 => h9) rfl dX6_coverer_14 ?_
        refine zz_iconst hx hb dX6_coverer_17 ?_
        refine lv_iload_n hx hb dX6_coverer_18 rfl (lv_at hl 2 rfl) ?_
        refine zz_iadd hx hb dX6_coverer_19 ?_
        refine zz_iald hx hb hK hP 1 0 (f := w) rfl rfl (by decide) (5 + i) (by omega) (by omega) dX6_coverer_20 ?_
        have b_20 := hok.at (k := i) (by omega)
        refine zz_isub hx hb dX6_coverer_21 ?_
        refine lv_aload_n hx hb dX6_coverer_22 rfl (lv_at hl 0 rfl) ?_
        refine va_get (D := (dC, dI)) (ci := 6) (v := .ref b1) (C := RX6) (T := TX6) (N := 16) hx hb hts hw6 hown hK hP 0 rfl rfl 0 (by decide) hf7 (fun _ h9 => h9) rfl dX6_coverer_23 ?_
        refine zz_iconst hx hb dX6_coverer_26 ?_
        refine zz_iald hx hb hK hP 1 0 (f := w) rfl rfl (by decide) 0 (by omega) (by omega) dX6_coverer_27 ?_
        refine ro_S (As := [.int (iI (x - (w (5 + i)))), .int (iI (w 0))]) (rest := []) ⟨hx, hb, hml, hown, hts⟩ (c_X6_rest l dC dI cI cJ cC cO (x - (w (5 + i))) (w 0) (by omega) (by omega)) (cwS 2 hts gX6_coverer_X6_rest rfl rfl rfl (by decide +kernel) ⟨Nat.le_of_ble_eq_true rfl, Nat.le_of_ble_eq_true rfl⟩) hK hP [] rfl rfl hl.1 rfl (Nat.le_of_ble_eq_true rfl) dX6_coverer_28 ⟨Nat.zero_le _, Nat.zero_le _⟩ (fun z_28 hz_28 => ?_)
        subst hz_28
        have bz_28 := fm_b (x := (x - (w (5 + i)))) (y := (w 0)) (by omega)
        refine lv_aload_n hx hb dX6_coverer_31 rfl (lv_at hl 0 rfl) ?_
        refine va_get (D := (dC, dI)) (ci := 6) (v := .ref b1) (C := RX6) (T := TX6) (N := 16) hx hb hts hw6 hown hK hP 0 rfl rfl 0 (by decide) hf7 (fun _ h9 => h9) rfl dX6_coverer_32 ?_
        refine zz_bipush hx hb dX6_coverer_35 (by decide +kernel) ?_
        refine lv_iload_n hx hb dX6_coverer_37 rfl (lv_at hl 2 rfl) ?_
        refine zz_iadd hx hb dX6_coverer_38 ?_
        refine zz_iald hx hb hK hP 1 0 (f := w) rfl rfl (by decide) (13 + i) (by omega) (by omega) dX6_coverer_39 ?_
        have b_39 := hok.at (k := i) (by omega)
        refine zz_icmp_ge (tgt := 45) hx hb dX6_coverer_40 (by decide) (by omega) (by omega) (fun c_40 => ?_) (fun c_40 => ?_)
        · skip
          refine zz_iinc (lv' := [(2, .int (iI (v2 + (1 : Int)))), (0, .ref b0), (1, .int (iI x))]) hx hb dX6_coverer_45 hl (k := 2) rfl (by decide) rfl (fun ls hl => ?_)
          refine lv_goto (tgt := 2) hx hb dX6_coverer_48 (by decide) ?_
          exact ih2 (i + 1) (v2 + (1 : Int)) (by omega) (by omega) (fun j hj => by (rcases Nat.lt_succ_iff_lt_or_eq.mp hj with q | q); exact e1 j q; subst q; simp only [plM, leM]; omega) (by omega) ls (lv_sub hl [1, 2, 0] rfl)
        · skip
          refine lv_iload_n hx hb dX6_coverer_43 rfl (lv_at hl 2 rfl) ?_
          exact W.iret (v := iI v2) hx hb hr (fun t9 ht9 hW9 => ⟨v2, rfl, Or.inl ⟨i, by omega, e2, by simp only [plM, leM]; omega, e1⟩, ht9⟩) (fun q hq => by cases hq) dX6_coverer_44
  exact lp2 _ 0 (0 : Int) (by omega) (by omega) (fun j hj => absurd hj (Nat.not_lt_zero _)) (Nat.lt_succ_self _) ls (lv_sub hl [1, 2, 0] rfl)
set_option maxHeartbeats 4000000 in
set_option maxRecDepth 100000 in
theorem c_X6_moving (l : Launch) (dC : Nat → ClassId) (dI : Nat → Nat → Nat) (cI cJ cC cO : ClassId) (b0 b1 b2 b3 b4 b5 b6 b7 b8 b9 b10 b11 b12 : Nat) (w pa ad be : Nat → Int) (ns ia : Int) (tx : Nat → Int) (tl ta : Int) (od pt tu fa th ss mo : Nat → Int) (n : Nat) (hok : MOk w n) : Met l yX6_moving wsX6_moving ({ frames := 0, cells := 0, slots := 0, locals := 0 } : Room) (va_Pc [.ref b0] (ro_B (dC, dI) vwCl (tyG cI cJ cC cO) (wM cI cC b0 b1 b2 b3 b4 b5 b6 b7 b8 b9 b10 b11 b12 w pa ad be ns ia tx tl ta od pt tu fa th ss mo))) (ro_Q (fun z => z = sumI (fun k => if w (21 + k) = 0 then 0 else 1) n)) 0 0 (fun _ => False) := by
  refine Met.ofW (cc := cX6_moving) (maxL := 3) (ret := (some .int)) (by decide) rfl ?_
  intro p e s m args below meth c s₁ B hml hv
  obtain ⟨hav, hP, hK⟩ := hv
  have hx := B.exec
  have hb := B.bytes
  have hr := B.returns
  have hts := atoms_spec (ws := wsX6_moving) B.pre
  have hown : s.vm.findClass RX6 = some m.cls := findClass_of_methodNamed B.named
  have hlocks := B.notSynchronized
  have hf7 := hts (.fieldLink RX6 7 "RingRodsModel" "row" "[I") (by decide +kernel)
  have hw6 : ∀ w ∈ u_ws RX6 TX6 16, w ∈ wsX6_moving := by decide +kernel
  have hP : va_P (dC, dI) vwCl [(b0, .inr (6, [.ref b1, .ref b2, .ref b3, .ref b4, .int (iI ns), .int (iI ia), .ref b5, .int (iI tl), .int (iI ta), .ref b6, .ref b7, .ref b8, .ref b9, .ref b10, .ref b11, .ref b12])), (b1, .inl (cI, 37, .inl (fun z9 => iI (w z9)))), (b2, .inl (cI, 148, .inl (fun z9 => iI (pa z9)))), (b3, .inl (cI, 37, .inl (fun z9 => iI (ad z9)))), (b4, .inl (cI, 37, .inl (fun z9 => iI (be z9)))), (b5, .inl (cC, 60, .inl (fun z9 => iI (tx z9)))), (b6, .inl (cI, 8, .inl (fun z9 => iI (od z9)))), (b7, .inl (cI, 8, .inl (fun z9 => iI (pt z9)))), (b8, .inl (cI, 8, .inl (fun z9 => iI (tu z9)))), (b9, .inl (cI, 8, .inl (fun z9 => iI (fa z9)))), (b10, .inl (cI, 8, .inl (fun z9 => iI (th z9)))), (b11, .inl (cI, 8, .inl (fun z9 => iI (ss z9)))), (b12, .inl (cI, 1600, .inl (fun z9 => iI (mo z9))))] s.heap := hP
  have hl := lv_entry ([.ref b0]) (n := 3) (Nat.le_of_ble_eq_true rfl)
  have hent : entryFrame m args 3 = F0 m 0 ((lg_sl ([.ref b0]) ++ List.replicate (3 - (lg_sl ([.ref b0])).length) Slot.unset).toArray) [] := by rw [hav]; exact lg_entry_eq ..
  rw [hent]
  generalize (lg_sl ([.ref b0]) ++ List.replicate (3 - (lg_sl ([.ref b0])).length) Slot.unset).toArray = ls at hl ⊢
  have hl : lv_has ls 3 [(0, .ref b0)] := hl
  have bd0 := hok.bd
  have bd1 := hok.fr
  refine zz_iconst hx hb dX6_moving_0 ?_
  refine lv_istore_n (lv' := [(1, .int (iI (0 : Int))), (0, .ref b0)]) hx hb dX6_moving_1 rfl hl (by decide) rfl (fun ls hl => ?_)
  refine zz_iconst hx hb dX6_moving_2 ?_
  refine lv_istore_n (lv' := [(2, .int (iI (0 : Int))), (1, .int (iI (0 : Int))), (0, .ref b0)]) hx hb dX6_moving_3 rfl hl (by decide) rfl (fun ls hl => ?_)
  have lp4 : ∀ (d4 : Nat), ∀ (i : Nat) (v1 v2 : Int) (hi : i ≤ n) (ei : v2 = (i : Int)) (ea : v1 = sumI (fun k => if w (21 + k) = 0 then 0 else 1) i), n - i < d4 → ∀ ls : Array Slot, lv_has ls 3 [(0, .ref b0), (1, .int (iI v1)), (2, .int (iI v2))] → W p l e ({ frames := 0, cells := 0, slots := 0, locals := 0 } : Room) s m args below meth c s.heap [] 0 0 (MQ below (ro_Q (fun z => z = sumI (fun k => if w (21 + k) = 0 then 0 else 1) n)) args s 0 0 (fun _ => False)) (F0 m 4 ls []) := by
    intro d4
    induction d4 with
    | zero =>
      intro i v1 v2 hi ei ea hd4
      exact absurd hd4 (Nat.not_lt_zero _)
    | succ d4 ih4 =>
      intro i v1 v2 hi ei ea hd4 ls hl
      refine lv_iload_n hx hb dX6_moving_4 rfl (lv_at hl 2 rfl) ?_
      refine lv_aload_n hx hb dX6_moving_5 rfl (lv_at hl 0 rfl) ?_
      refine va_get (D := (dC, dI)) (ci := 6) (v := .ref b1) (C := RX6) (T := TX6) (N := 16) hx hb hts hw6 hown hK hP 0 rfl rfl 0 (by decide) hf7 (fun _ h9 => h9) rfl dX6_moving_6 ?_
      refine zz_iconst hx hb dX6_moving_9 ?_
      refine zz_iald hx hb hK hP 1 0 (f := w) rfl rfl (by decide) 1 (by omega) (by omega) dX6_moving_10 ?_
      refine zz_icmp_ge (tgt := 40) hx hb dX6_moving_11 (by decide) (by omega) (by omega) (fun c_11 => ?_) (fun c_11 => ?_)
      · skip
        refine lv_iload_n hx hb dX6_moving_40 rfl (lv_at hl 1 rfl) ?_
        exact W.iret (v := iI v1) hx hb hr (fun t9 ht9 hW9 => ⟨v1, rfl, by (have h9 : i = n := (by omega)); rw [h9] at ea; exact ea, ht9⟩) (fun q hq => by cases hq) dX6_moving_41
      · skip
        refine lv_iload_n hx hb dX6_moving_14 rfl (lv_at hl 1 rfl) ?_
        refine lv_aload_n hx hb dX6_moving_15 rfl (lv_at hl 0 rfl) ?_
        refine va_get (D := (dC, dI)) (ci := 6) (v := .ref b1) (C := RX6) (T := TX6) (N := 16) hx hb hts hw6 hown hK hP 0 rfl rfl 0 (by decide) hf7 (fun _ h9 => h9) rfl dX6_moving_16 ?_
        refine zz_bipush hx hb dX6_moving_19 (by decide +kernel) ?_
        refine lv_iload_n hx hb dX6_moving_21 rfl (lv_at hl 2 rfl) ?_
        refine zz_iadd hx hb dX6_moving_22 ?_
        refine zz_iald hx hb hK hP 1 0 (f := w) rfl rfl (by decide) (21 + i) (by omega) (by omega) dX6_moving_23 ?_
        have b_23 := hok.at (k := i) (by omega)
        refine zz_if_ne (tgt := 31) hx hb dX6_moving_24 (by decide) (by omega) (fun c_24 => ?_) (fun c_24 => ?_)
        · skip
          refine zz_iconst hx hb dX6_moving_31 ?_
          refine zz_iadd hx hb dX6_moving_32 ?_
          refine lv_istore_n (lv' := [(1, .int (iI (v1 + (1 : Int)))), (0, .ref b0), (2, .int (iI v2))]) hx hb dX6_moving_33 rfl hl (by decide) rfl (fun ls hl => ?_)
          refine zz_iinc (lv' := [(2, .int (iI (v2 + (1 : Int)))), (1, .int (iI (v1 + (1 : Int)))), (0, .ref b0)]) hx hb dX6_moving_34 hl (k := 2) rfl (by decide) rfl (fun ls hl => ?_)
          refine lv_goto (tgt := 4) hx hb dX6_moving_37 (by decide) ?_
          exact ih4 (i + 1) (v1 + (1 : Int)) (v2 + (1 : Int)) (by omega) (by omega) (by rw [sumI_s]; split <;> omega) (by omega) ls (lv_sub hl [2, 1, 0] rfl)
        · skip
          refine zz_iconst hx hb dX6_moving_27 ?_
          refine lv_goto (tgt := 32) hx hb dX6_moving_28 (by decide) ?_
          refine zz_iadd hx hb dX6_moving_32 ?_
          refine lv_istore_n (lv' := [(1, .int (iI (v1 + (0 : Int)))), (0, .ref b0), (2, .int (iI v2))]) hx hb dX6_moving_33 rfl hl (by decide) rfl (fun ls hl => ?_)
          refine zz_iinc (lv' := [(2, .int (iI (v2 + (1 : Int)))), (1, .int (iI (v1 + (0 : Int)))), (0, .ref b0)]) hx hb dX6_moving_34 hl (k := 2) rfl (by decide) rfl (fun ls hl => ?_)
          refine lv_goto (tgt := 4) hx hb dX6_moving_37 (by decide) ?_
          exact ih4 (i + 1) (v1 + (0 : Int)) (v2 + (1 : Int)) (by omega) (by omega) (by rw [sumI_s]; split <;> omega) (by omega) ls (lv_sub hl [2, 1, 0] rfl)
  exact lp4 _ 0 (0 : Int) (0 : Int) (by omega) (by omega) (by simp [sumI]) (Nat.lt_succ_self _) ls (lv_sub hl [2, 1, 0] rfl)
set_option maxHeartbeats 4000000 in
set_option maxRecDepth 100000 in
theorem c_X6_turnRound (l : Launch) (dC : Nat → ClassId) (dI : Nat → Nat → Nat) (cI cJ cC cO : ClassId) (b0 b1 b2 b3 b4 b5 b6 b7 b8 b9 b10 b11 b12 : Nat) (w pa ad be : Nat → Int) (ns ia : Int) (tx : Nat → Int) (tl ta : Int) (od pt tu fa th ss mo : Nat → Int) (n : Nat) (hok : MOk w n) : Met l yX6_turnRound wsX6_turnRound ({ frames := 0, cells := 0, slots := 0, locals := 0 } : Room) (va_Pc [.ref b0] (wr_B (dC, dI) vwCl (tyG cI cJ cC cO) (wM cI cC b0 b1 b2 b3 b4 b5 b6 b7 b8 b9 b10 b11 b12 w pa ad be ns ia tx tl ta od pt tu fa th ss mo))) (wr_Qv (fun (u : Unit) => True) (fun u t => va_P (dC, dI) vwCl (wM cI cC b0 b1 b2 b3 b4 b5 b6 b7 b8 b9 b10 b11 b12 (ngm w n) pa ad be ns ia tx tl ta od pt tu fa th ss mo) t.heap) (wr_A (wM cI cC b0 b1 b2 b3 b4 b5 b6 b7 b8 b9 b10 b11 b12 w pa ad be ns ia tx tl ta od pt tu fa th ss mo))) 0 0 (wr_A (wM cI cC b0 b1 b2 b3 b4 b5 b6 b7 b8 b9 b10 b11 b12 w pa ad be ns ia tx tl ta od pt tu fa th ss mo)) := by
  refine Met.ofW (cc := cX6_turnRound) (maxL := 2) (ret := none) (by decide) rfl ?_
  intro p e s m args below meth c s₁ B hml hv
  obtain ⟨hav, hP, hK, hD0⟩ := hv
  have hx := B.exec
  have hb := B.bytes
  have hr := B.returns
  have hts := atoms_spec (ws := wsX6_turnRound) B.pre
  have hown : s.vm.findClass RX6 = some m.cls := findClass_of_methodNamed B.named
  have hlocks := B.notSynchronized
  have hf7 := hts (.fieldLink RX6 7 "RingRodsModel" "row" "[I") (by decide +kernel)
  have hw6 : ∀ w ∈ u_ws RX6 TX6 16, w ∈ wsX6_turnRound := by decide +kernel
  have hD := va_D.slf hD0
  have hS : va_S (wr_A (wM cI cC b0 b1 b2 b3 b4 b5 b6 b7 b8 b9 b10 b11 b12 w pa ad be ns ia tx tl ta od pt tu fa th ss mo)) s.heap s.heap [] := va_S.rf
  show W p l e ({ frames := 0, cells := 0, slots := 0, locals := 0 } : Room) s m args below meth c s.heap [] 0 0 (MQ below (wr_Qv (fun (u : Unit) => True) (fun u t => va_P (dC, dI) vwCl (wM cI cC b0 b1 b2 b3 b4 b5 b6 b7 b8 b9 b10 b11 b12 (ngm w n) pa ad be ns ia tx tl ta od pt tu fa th ss mo) t.heap) (wr_A (wM cI cC b0 b1 b2 b3 b4 b5 b6 b7 b8 b9 b10 b11 b12 w pa ad be ns ia tx tl ta od pt tu fa th ss mo))) args s 0 0 (wr_A (wM cI cC b0 b1 b2 b3 b4 b5 b6 b7 b8 b9 b10 b11 b12 w pa ad be ns ia tx tl ta od pt tu fa th ss mo))) (entryFrame m args 2)
  generalize hAe : wr_A (wM cI cC b0 b1 b2 b3 b4 b5 b6 b7 b8 b9 b10 b11 b12 w pa ad be ns ia tx tl ta od pt tu fa th ss mo) = A at hD hS ⊢
  have hP : va_P (dC, dI) vwCl [(b0, .inr (6, [.ref b1, .ref b2, .ref b3, .ref b4, .int (iI ns), .int (iI ia), .ref b5, .int (iI tl), .int (iI ta), .ref b6, .ref b7, .ref b8, .ref b9, .ref b10, .ref b11, .ref b12])), (b1, .inl (cI, 37, .inl (fun z9 => iI (w z9)))), (b2, .inl (cI, 148, .inl (fun z9 => iI (pa z9)))), (b3, .inl (cI, 37, .inl (fun z9 => iI (ad z9)))), (b4, .inl (cI, 37, .inl (fun z9 => iI (be z9)))), (b5, .inl (cC, 60, .inl (fun z9 => iI (tx z9)))), (b6, .inl (cI, 8, .inl (fun z9 => iI (od z9)))), (b7, .inl (cI, 8, .inl (fun z9 => iI (pt z9)))), (b8, .inl (cI, 8, .inl (fun z9 => iI (tu z9)))), (b9, .inl (cI, 8, .inl (fun z9 => iI (fa z9)))), (b10, .inl (cI, 8, .inl (fun z9 => iI (th z9)))), (b11, .inl (cI, 8, .inl (fun z9 => iI (ss z9)))), (b12, .inl (cI, 1600, .inl (fun z9 => iI (mo z9))))] s.heap := hP
  have hD : va_D A [(b0, .inr (6, [.ref b1, .ref b2, .ref b3, .ref b4, .int (iI ns), .int (iI ia), .ref b5, .int (iI tl), .int (iI ta), .ref b6, .ref b7, .ref b8, .ref b9, .ref b10, .ref b11, .ref b12])), (b1, .inl (cI, 37, .inl (fun z9 => iI (w z9)))), (b2, .inl (cI, 148, .inl (fun z9 => iI (pa z9)))), (b3, .inl (cI, 37, .inl (fun z9 => iI (ad z9)))), (b4, .inl (cI, 37, .inl (fun z9 => iI (be z9)))), (b5, .inl (cC, 60, .inl (fun z9 => iI (tx z9)))), (b6, .inl (cI, 8, .inl (fun z9 => iI (od z9)))), (b7, .inl (cI, 8, .inl (fun z9 => iI (pt z9)))), (b8, .inl (cI, 8, .inl (fun z9 => iI (tu z9)))), (b9, .inl (cI, 8, .inl (fun z9 => iI (fa z9)))), (b10, .inl (cI, 8, .inl (fun z9 => iI (th z9)))), (b11, .inl (cI, 8, .inl (fun z9 => iI (ss z9)))), (b12, .inl (cI, 1600, .inl (fun z9 => iI (mo z9))))] := hD
  have hl := lv_entry ([.ref b0]) (n := 2) (Nat.le_of_ble_eq_true rfl)
  have hent : entryFrame m args 2 = F0 m 0 ((lg_sl ([.ref b0]) ++ List.replicate (2 - (lg_sl ([.ref b0])).length) Slot.unset).toArray) [] := by rw [hav]; exact lg_entry_eq ..
  rw [hent]
  generalize (lg_sl ([.ref b0]) ++ List.replicate (2 - (lg_sl ([.ref b0])).length) Slot.unset).toArray = ls at hl ⊢
  have hl : lv_has ls 2 [(0, .ref b0)] := hl
  have bd0 := hok.bd
  have bd1 := hok.fr
  refine zz_iconst hx hb dX6_turnRound_0 ?_
  refine lv_istore_n (lv' := [(1, .int (iI (0 : Int))), (0, .ref b0)]) hx hb dX6_turnRound_1 rfl hl (by decide) rfl (fun ls hl => ?_)
  have lp2 : ∀ (d2 : Nat), ∀ (i : Nat) (v1 : Int) (hi : i ≤ n) (e1 : v1 = (i : Int)), n - i < d2 → ∀ (H : Heap) (locs : List Loc), va_P (dC, dI) vwCl [(b0, .inr (6, [.ref b1, .ref b2, .ref b3, .ref b4, .int (iI ns), .int (iI ia), .ref b5, .int (iI tl), .int (iI ta), .ref b6, .ref b7, .ref b8, .ref b9, .ref b10, .ref b11, .ref b12])), (b1, .inl (cI, 37, .inl (fun z9 => iI ((ngm w i) z9)))), (b2, .inl (cI, 148, .inl (fun z9 => iI (pa z9)))), (b3, .inl (cI, 37, .inl (fun z9 => iI (ad z9)))), (b4, .inl (cI, 37, .inl (fun z9 => iI (be z9)))), (b5, .inl (cC, 60, .inl (fun z9 => iI (tx z9)))), (b6, .inl (cI, 8, .inl (fun z9 => iI (od z9)))), (b7, .inl (cI, 8, .inl (fun z9 => iI (pt z9)))), (b8, .inl (cI, 8, .inl (fun z9 => iI (tu z9)))), (b9, .inl (cI, 8, .inl (fun z9 => iI (fa z9)))), (b10, .inl (cI, 8, .inl (fun z9 => iI (th z9)))), (b11, .inl (cI, 8, .inl (fun z9 => iI (ss z9)))), (b12, .inl (cI, 1600, .inl (fun z9 => iI (mo z9))))] H → va_D A [(b0, .inr (6, [.ref b1, .ref b2, .ref b3, .ref b4, .int (iI ns), .int (iI ia), .ref b5, .int (iI tl), .int (iI ta), .ref b6, .ref b7, .ref b8, .ref b9, .ref b10, .ref b11, .ref b12])), (b1, .inl (cI, 37, .inl (fun z9 => iI ((ngm w i) z9)))), (b2, .inl (cI, 148, .inl (fun z9 => iI (pa z9)))), (b3, .inl (cI, 37, .inl (fun z9 => iI (ad z9)))), (b4, .inl (cI, 37, .inl (fun z9 => iI (be z9)))), (b5, .inl (cC, 60, .inl (fun z9 => iI (tx z9)))), (b6, .inl (cI, 8, .inl (fun z9 => iI (od z9)))), (b7, .inl (cI, 8, .inl (fun z9 => iI (pt z9)))), (b8, .inl (cI, 8, .inl (fun z9 => iI (tu z9)))), (b9, .inl (cI, 8, .inl (fun z9 => iI (fa z9)))), (b10, .inl (cI, 8, .inl (fun z9 => iI (th z9)))), (b11, .inl (cI, 8, .inl (fun z9 => iI (ss z9)))), (b12, .inl (cI, 1600, .inl (fun z9 => iI (mo z9))))] → va_S A s.heap H locs → ∀ ls : Array Slot, lv_has ls 2 [(0, .ref b0), (1, .int (iI v1))] → W p l e ({ frames := 0, cells := 0, slots := 0, locals := 0 } : Room) s m args below meth c H locs 0 0 (MQ below (wr_Qv (fun (u : Unit) => True) (fun u t => va_P (dC, dI) vwCl (wM cI cC b0 b1 b2 b3 b4 b5 b6 b7 b8 b9 b10 b11 b12 (ngm w n) pa ad be ns ia tx tl ta od pt tu fa th ss mo) t.heap) A) args s 0 0 A) (F0 m 2 ls []) := by
    intro d2
    induction d2 with
    | zero =>
      intro i v1 hi e1 hd2
      exact absurd hd2 (Nat.not_lt_zero _)
    | succ d2 ih2 =>
      intro i v1 hi e1 hd2 H locs hP hD hS ls hl
      have e9 : ngm w i 1 = (n : Int) := (ngm_1 w i).trans bd0.2.1
      refine lv_iload_n hx hb dX6_turnRound_2 rfl (lv_at hl 1 rfl) ?_
      refine lv_aload_n hx hb dX6_turnRound_3 rfl (lv_at hl 0 rfl) ?_
      refine va_get (D := (dC, dI)) (ci := 6) (v := .ref b1) (C := RX6) (T := TX6) (N := 16) hx hb hts hw6 hown hK hP 0 rfl rfl 0 (by decide) hf7 (fun _ h9 => h9) rfl dX6_turnRound_4 ?_
      refine zz_iconst hx hb dX6_turnRound_7 ?_
      refine zz_iald hx hb hK hP 1 0 (f := (ngm w i)) rfl rfl (by decide) 1 (by omega) (by omega) dX6_turnRound_8 ?_
      refine zz_icmp_ge (tgt := 37) hx hb dX6_turnRound_9 (by decide) (by omega) (by omega) (fun c_9 => ?_) (fun c_9 => ?_)
      · skip
        exact W.vret hx hb hr (fun t9 ht9 hW9 => ⟨⟨(), rfl, trivial, by show va_P _ _ _ t9.heap; rw [ht9]; exact (by rw [show n = i by omega]; exact hP)⟩, hS.F ht9⟩) hS.2.2 dX6_turnRound_37
      · skip
        refine lv_aload_n hx hb dX6_turnRound_12 rfl (lv_at hl 0 rfl) ?_
        refine va_get (D := (dC, dI)) (ci := 6) (v := .ref b1) (C := RX6) (T := TX6) (N := 16) hx hb hts hw6 hown hK hP 0 rfl rfl 0 (by decide) hf7 (fun _ h9 => h9) rfl dX6_turnRound_13 ?_
        refine zz_bipush hx hb dX6_turnRound_16 (by decide +kernel) ?_
        refine lv_iload_n hx hb dX6_turnRound_18 rfl (lv_at hl 1 rfl) ?_
        refine zz_iadd hx hb dX6_turnRound_19 ?_
        refine lv_aload_n hx hb dX6_turnRound_20 rfl (lv_at hl 0 rfl) ?_
        refine va_get (D := (dC, dI)) (ci := 6) (v := .ref b1) (C := RX6) (T := TX6) (N := 16) hx hb hts hw6 hown hK hP 0 rfl rfl 0 (by decide) hf7 (fun _ h9 => h9) rfl dX6_turnRound_21 ?_
        refine zz_bipush hx hb dX6_turnRound_24 (by decide +kernel) ?_
        refine lv_iload_n hx hb dX6_turnRound_26 rfl (lv_at hl 1 rfl) ?_
        refine zz_iadd hx hb dX6_turnRound_27 ?_
        refine zz_iald hx hb hK hP 1 0 (f := (ngm w i)) rfl rfl (by decide) (21 + i) (by omega) (by omega) dX6_turnRound_28 ?_
        refine zz_ineg hx hb dX6_turnRound_29 ?_
        refine zz_iast hx hb hK hP hD hS 1 0 (f := (ngm w i)) (x := (- ((ngm w i) (21 + i)))) rfl rfl (by decide) (21 + i) (by omega) (by omega) dX6_turnRound_30 (fun H locs hP hD hS => ?_)
        have hP : va_P (dC, dI) vwCl [(b0, .inr (6, [.ref b1, .ref b2, .ref b3, .ref b4, .int (iI ns), .int (iI ia), .ref b5, .int (iI tl), .int (iI ta), .ref b6, .ref b7, .ref b8, .ref b9, .ref b10, .ref b11, .ref b12])), (b1, .inl (cI, 37, .inl (fun z9 => iI ((up (ngm w i) (21 + i) (- ((ngm w i) (21 + i)))) z9)))), (b2, .inl (cI, 148, .inl (fun z9 => iI (pa z9)))), (b3, .inl (cI, 37, .inl (fun z9 => iI (ad z9)))), (b4, .inl (cI, 37, .inl (fun z9 => iI (be z9)))), (b5, .inl (cC, 60, .inl (fun z9 => iI (tx z9)))), (b6, .inl (cI, 8, .inl (fun z9 => iI (od z9)))), (b7, .inl (cI, 8, .inl (fun z9 => iI (pt z9)))), (b8, .inl (cI, 8, .inl (fun z9 => iI (tu z9)))), (b9, .inl (cI, 8, .inl (fun z9 => iI (fa z9)))), (b10, .inl (cI, 8, .inl (fun z9 => iI (th z9)))), (b11, .inl (cI, 8, .inl (fun z9 => iI (ss z9)))), (b12, .inl (cI, 1600, .inl (fun z9 => iI (mo z9))))] H := hP
        have hD : va_D A [(b0, .inr (6, [.ref b1, .ref b2, .ref b3, .ref b4, .int (iI ns), .int (iI ia), .ref b5, .int (iI tl), .int (iI ta), .ref b6, .ref b7, .ref b8, .ref b9, .ref b10, .ref b11, .ref b12])), (b1, .inl (cI, 37, .inl (fun z9 => iI ((up (ngm w i) (21 + i) (- ((ngm w i) (21 + i)))) z9)))), (b2, .inl (cI, 148, .inl (fun z9 => iI (pa z9)))), (b3, .inl (cI, 37, .inl (fun z9 => iI (ad z9)))), (b4, .inl (cI, 37, .inl (fun z9 => iI (be z9)))), (b5, .inl (cC, 60, .inl (fun z9 => iI (tx z9)))), (b6, .inl (cI, 8, .inl (fun z9 => iI (od z9)))), (b7, .inl (cI, 8, .inl (fun z9 => iI (pt z9)))), (b8, .inl (cI, 8, .inl (fun z9 => iI (tu z9)))), (b9, .inl (cI, 8, .inl (fun z9 => iI (fa z9)))), (b10, .inl (cI, 8, .inl (fun z9 => iI (th z9)))), (b11, .inl (cI, 8, .inl (fun z9 => iI (ss z9)))), (b12, .inl (cI, 1600, .inl (fun z9 => iI (mo z9))))] := hD
        refine zz_iinc (lv' := [(1, .int (iI (v1 + (1 : Int)))), (0, .ref b0)]) hx hb dX6_turnRound_31 hl (k := 1) rfl (by decide) rfl (fun ls hl => ?_)
        refine lv_goto (tgt := 2) hx hb dX6_turnRound_34 (by decide) ?_
        have hP : va_P (dC, dI) vwCl [(b0, .inr (6, [.ref b1, .ref b2, .ref b3, .ref b4, .int (iI ns), .int (iI ia), .ref b5, .int (iI tl), .int (iI ta), .ref b6, .ref b7, .ref b8, .ref b9, .ref b10, .ref b11, .ref b12])), (b1, .inl (cI, 37, .inl (fun z9 => iI ((ngm w (i + 1)) z9)))), (b2, .inl (cI, 148, .inl (fun z9 => iI (pa z9)))), (b3, .inl (cI, 37, .inl (fun z9 => iI (ad z9)))), (b4, .inl (cI, 37, .inl (fun z9 => iI (be z9)))), (b5, .inl (cC, 60, .inl (fun z9 => iI (tx z9)))), (b6, .inl (cI, 8, .inl (fun z9 => iI (od z9)))), (b7, .inl (cI, 8, .inl (fun z9 => iI (pt z9)))), (b8, .inl (cI, 8, .inl (fun z9 => iI (tu z9)))), (b9, .inl (cI, 8, .inl (fun z9 => iI (fa z9)))), (b10, .inl (cI, 8, .inl (fun z9 => iI (th z9)))), (b11, .inl (cI, 8, .inl (fun z9 => iI (ss z9)))), (b12, .inl (cI, 1600, .inl (fun z9 => iI (mo z9))))] H := by simp only [ngm_s] at hP; exact hP
        have hD : va_D A [(b0, .inr (6, [.ref b1, .ref b2, .ref b3, .ref b4, .int (iI ns), .int (iI ia), .ref b5, .int (iI tl), .int (iI ta), .ref b6, .ref b7, .ref b8, .ref b9, .ref b10, .ref b11, .ref b12])), (b1, .inl (cI, 37, .inl (fun z9 => iI ((ngm w (i + 1)) z9)))), (b2, .inl (cI, 148, .inl (fun z9 => iI (pa z9)))), (b3, .inl (cI, 37, .inl (fun z9 => iI (ad z9)))), (b4, .inl (cI, 37, .inl (fun z9 => iI (be z9)))), (b5, .inl (cC, 60, .inl (fun z9 => iI (tx z9)))), (b6, .inl (cI, 8, .inl (fun z9 => iI (od z9)))), (b7, .inl (cI, 8, .inl (fun z9 => iI (pt z9)))), (b8, .inl (cI, 8, .inl (fun z9 => iI (tu z9)))), (b9, .inl (cI, 8, .inl (fun z9 => iI (fa z9)))), (b10, .inl (cI, 8, .inl (fun z9 => iI (th z9)))), (b11, .inl (cI, 8, .inl (fun z9 => iI (ss z9)))), (b12, .inl (cI, 1600, .inl (fun z9 => iI (mo z9))))] := by simp only [ngm_s] at hD; exact hD
        exact ih2 (i + 1) (v1 + (1 : Int)) (by omega) (by omega) (by omega) H locs hP hD hS ls (lv_sub hl [1, 0] rfl)
  have hP : va_P (dC, dI) vwCl [(b0, .inr (6, [.ref b1, .ref b2, .ref b3, .ref b4, .int (iI ns), .int (iI ia), .ref b5, .int (iI tl), .int (iI ta), .ref b6, .ref b7, .ref b8, .ref b9, .ref b10, .ref b11, .ref b12])), (b1, .inl (cI, 37, .inl (fun z9 => iI ((ngm w 0) z9)))), (b2, .inl (cI, 148, .inl (fun z9 => iI (pa z9)))), (b3, .inl (cI, 37, .inl (fun z9 => iI (ad z9)))), (b4, .inl (cI, 37, .inl (fun z9 => iI (be z9)))), (b5, .inl (cC, 60, .inl (fun z9 => iI (tx z9)))), (b6, .inl (cI, 8, .inl (fun z9 => iI (od z9)))), (b7, .inl (cI, 8, .inl (fun z9 => iI (pt z9)))), (b8, .inl (cI, 8, .inl (fun z9 => iI (tu z9)))), (b9, .inl (cI, 8, .inl (fun z9 => iI (fa z9)))), (b10, .inl (cI, 8, .inl (fun z9 => iI (th z9)))), (b11, .inl (cI, 8, .inl (fun z9 => iI (ss z9)))), (b12, .inl (cI, 1600, .inl (fun z9 => iI (mo z9))))] s.heap := by simp only [ngm_0]; exact hP
  have hD : va_D A [(b0, .inr (6, [.ref b1, .ref b2, .ref b3, .ref b4, .int (iI ns), .int (iI ia), .ref b5, .int (iI tl), .int (iI ta), .ref b6, .ref b7, .ref b8, .ref b9, .ref b10, .ref b11, .ref b12])), (b1, .inl (cI, 37, .inl (fun z9 => iI ((ngm w 0) z9)))), (b2, .inl (cI, 148, .inl (fun z9 => iI (pa z9)))), (b3, .inl (cI, 37, .inl (fun z9 => iI (ad z9)))), (b4, .inl (cI, 37, .inl (fun z9 => iI (be z9)))), (b5, .inl (cC, 60, .inl (fun z9 => iI (tx z9)))), (b6, .inl (cI, 8, .inl (fun z9 => iI (od z9)))), (b7, .inl (cI, 8, .inl (fun z9 => iI (pt z9)))), (b8, .inl (cI, 8, .inl (fun z9 => iI (tu z9)))), (b9, .inl (cI, 8, .inl (fun z9 => iI (fa z9)))), (b10, .inl (cI, 8, .inl (fun z9 => iI (th z9)))), (b11, .inl (cI, 8, .inl (fun z9 => iI (ss z9)))), (b12, .inl (cI, 1600, .inl (fun z9 => iI (mo z9))))] := by simp only [ngm_0]; exact hD
  exact lp2 _ 0 (0 : Int) (by omega) (by omega) (Nat.lt_succ_self _) s.heap [] hP hD hS ls (lv_sub hl [1, 0] rfl)
set_option maxHeartbeats 4000000 in
set_option maxRecDepth 100000 in
theorem c_X6_remember (l : Launch) (dC : Nat → ClassId) (dI : Nat → Nat → Nat) (cI cJ cC cO : ClassId) (b0 b1 b2 b3 b4 b5 b6 b7 b8 b9 b10 b11 b12 : Nat) (w pa ad be : Nat → Int) (ns ia : Int) (tx : Nat → Int) (tl ta : Int) (od pt tu fa th ss mo : Nat → Int) : Met l yX6_remember wsX6_remember ({ frames := 0, cells := 0, slots := 0, locals := 0 } : Room) (va_Pc [.ref b0] (wr_B (dC, dI) vwCl (tyG cI cJ cC cO) (wM cI cC b0 b1 b2 b3 b4 b5 b6 b7 b8 b9 b10 b11 b12 w pa ad be ns ia tx tl ta od pt tu fa th ss mo))) (wr_Qv (fun (u : Unit) => True) (fun u t => va_P (dC, dI) vwCl (wM cI cC b0 b1 b2 b3 b4 b5 b6 b7 b8 b9 b10 b11 b12 w pa ad (cpi be w 37) ns ia tx tl ta od pt tu fa th ss mo) t.heap) (wr_A (wM cI cC b0 b1 b2 b3 b4 b5 b6 b7 b8 b9 b10 b11 b12 w pa ad be ns ia tx tl ta od pt tu fa th ss mo))) 0 0 (wr_A (wM cI cC b0 b1 b2 b3 b4 b5 b6 b7 b8 b9 b10 b11 b12 w pa ad be ns ia tx tl ta od pt tu fa th ss mo)) := by
  refine Met.ofW (cc := cX6_remember) (maxL := 2) (ret := none) (by decide) rfl ?_
  intro p e s m args below meth c s₁ B hml hv
  obtain ⟨hav, hP, hK, hD0⟩ := hv
  have hx := B.exec
  have hb := B.bytes
  have hr := B.returns
  have hts := atoms_spec (ws := wsX6_remember) B.pre
  have hown : s.vm.findClass RX6 = some m.cls := findClass_of_methodNamed B.named
  have hlocks := B.notSynchronized
  have hf7 := hts (.fieldLink RX6 7 "RingRodsModel" "row" "[I") (by decide +kernel)
  have hf19 := hts (.fieldLink RX6 19 "RingRodsModel" "before" "[I") (by decide +kernel)
  have hw6 : ∀ w ∈ u_ws RX6 TX6 16, w ∈ wsX6_remember := by decide +kernel
  have hD := va_D.slf hD0
  have hS : va_S (wr_A (wM cI cC b0 b1 b2 b3 b4 b5 b6 b7 b8 b9 b10 b11 b12 w pa ad be ns ia tx tl ta od pt tu fa th ss mo)) s.heap s.heap [] := va_S.rf
  show W p l e ({ frames := 0, cells := 0, slots := 0, locals := 0 } : Room) s m args below meth c s.heap [] 0 0 (MQ below (wr_Qv (fun (u : Unit) => True) (fun u t => va_P (dC, dI) vwCl (wM cI cC b0 b1 b2 b3 b4 b5 b6 b7 b8 b9 b10 b11 b12 w pa ad (cpi be w 37) ns ia tx tl ta od pt tu fa th ss mo) t.heap) (wr_A (wM cI cC b0 b1 b2 b3 b4 b5 b6 b7 b8 b9 b10 b11 b12 w pa ad be ns ia tx tl ta od pt tu fa th ss mo))) args s 0 0 (wr_A (wM cI cC b0 b1 b2 b3 b4 b5 b6 b7 b8 b9 b10 b11 b12 w pa ad be ns ia tx tl ta od pt tu fa th ss mo))) (entryFrame m args 2)
  generalize hAe : wr_A (wM cI cC b0 b1 b2 b3 b4 b5 b6 b7 b8 b9 b10 b11 b12 w pa ad be ns ia tx tl ta od pt tu fa th ss mo) = A at hD hS ⊢
  have hP : va_P (dC, dI) vwCl [(b0, .inr (6, [.ref b1, .ref b2, .ref b3, .ref b4, .int (iI ns), .int (iI ia), .ref b5, .int (iI tl), .int (iI ta), .ref b6, .ref b7, .ref b8, .ref b9, .ref b10, .ref b11, .ref b12])), (b1, .inl (cI, 37, .inl (fun z9 => iI (w z9)))), (b2, .inl (cI, 148, .inl (fun z9 => iI (pa z9)))), (b3, .inl (cI, 37, .inl (fun z9 => iI (ad z9)))), (b4, .inl (cI, 37, .inl (fun z9 => iI (be z9)))), (b5, .inl (cC, 60, .inl (fun z9 => iI (tx z9)))), (b6, .inl (cI, 8, .inl (fun z9 => iI (od z9)))), (b7, .inl (cI, 8, .inl (fun z9 => iI (pt z9)))), (b8, .inl (cI, 8, .inl (fun z9 => iI (tu z9)))), (b9, .inl (cI, 8, .inl (fun z9 => iI (fa z9)))), (b10, .inl (cI, 8, .inl (fun z9 => iI (th z9)))), (b11, .inl (cI, 8, .inl (fun z9 => iI (ss z9)))), (b12, .inl (cI, 1600, .inl (fun z9 => iI (mo z9))))] s.heap := hP
  have hD : va_D A [(b0, .inr (6, [.ref b1, .ref b2, .ref b3, .ref b4, .int (iI ns), .int (iI ia), .ref b5, .int (iI tl), .int (iI ta), .ref b6, .ref b7, .ref b8, .ref b9, .ref b10, .ref b11, .ref b12])), (b1, .inl (cI, 37, .inl (fun z9 => iI (w z9)))), (b2, .inl (cI, 148, .inl (fun z9 => iI (pa z9)))), (b3, .inl (cI, 37, .inl (fun z9 => iI (ad z9)))), (b4, .inl (cI, 37, .inl (fun z9 => iI (be z9)))), (b5, .inl (cC, 60, .inl (fun z9 => iI (tx z9)))), (b6, .inl (cI, 8, .inl (fun z9 => iI (od z9)))), (b7, .inl (cI, 8, .inl (fun z9 => iI (pt z9)))), (b8, .inl (cI, 8, .inl (fun z9 => iI (tu z9)))), (b9, .inl (cI, 8, .inl (fun z9 => iI (fa z9)))), (b10, .inl (cI, 8, .inl (fun z9 => iI (th z9)))), (b11, .inl (cI, 8, .inl (fun z9 => iI (ss z9)))), (b12, .inl (cI, 1600, .inl (fun z9 => iI (mo z9))))] := hD
  have hl := lv_entry ([.ref b0]) (n := 2) (Nat.le_of_ble_eq_true rfl)
  have hent : entryFrame m args 2 = F0 m 0 ((lg_sl ([.ref b0]) ++ List.replicate (2 - (lg_sl ([.ref b0])).length) Slot.unset).toArray) [] := by rw [hav]; exact lg_entry_eq ..
  rw [hent]
  generalize (lg_sl ([.ref b0]) ++ List.replicate (2 - (lg_sl ([.ref b0])).length) Slot.unset).toArray = ls at hl ⊢
  have hl : lv_has ls 2 [(0, .ref b0)] := hl
  refine zz_iconst hx hb dX6_remember_0 ?_
  refine lv_istore_n (lv' := [(1, .int (iI (0 : Int))), (0, .ref b0)]) hx hb dX6_remember_1 rfl hl (by decide) rfl (fun ls hl => ?_)
  have lp2 : ∀ (d2 : Nat), ∀ (i : Nat) (v1 : Int) (hi : i ≤ 37) (e1 : v1 = (i : Int)), 37 - i < d2 → ∀ (H : Heap) (locs : List Loc), va_P (dC, dI) vwCl [(b0, .inr (6, [.ref b1, .ref b2, .ref b3, .ref b4, .int (iI ns), .int (iI ia), .ref b5, .int (iI tl), .int (iI ta), .ref b6, .ref b7, .ref b8, .ref b9, .ref b10, .ref b11, .ref b12])), (b1, .inl (cI, 37, .inl (fun z9 => iI (w z9)))), (b2, .inl (cI, 148, .inl (fun z9 => iI (pa z9)))), (b3, .inl (cI, 37, .inl (fun z9 => iI (ad z9)))), (b4, .inl (cI, 37, .inl (fun z9 => iI ((cpi be w i) z9)))), (b5, .inl (cC, 60, .inl (fun z9 => iI (tx z9)))), (b6, .inl (cI, 8, .inl (fun z9 => iI (od z9)))), (b7, .inl (cI, 8, .inl (fun z9 => iI (pt z9)))), (b8, .inl (cI, 8, .inl (fun z9 => iI (tu z9)))), (b9, .inl (cI, 8, .inl (fun z9 => iI (fa z9)))), (b10, .inl (cI, 8, .inl (fun z9 => iI (th z9)))), (b11, .inl (cI, 8, .inl (fun z9 => iI (ss z9)))), (b12, .inl (cI, 1600, .inl (fun z9 => iI (mo z9))))] H → va_D A [(b0, .inr (6, [.ref b1, .ref b2, .ref b3, .ref b4, .int (iI ns), .int (iI ia), .ref b5, .int (iI tl), .int (iI ta), .ref b6, .ref b7, .ref b8, .ref b9, .ref b10, .ref b11, .ref b12])), (b1, .inl (cI, 37, .inl (fun z9 => iI (w z9)))), (b2, .inl (cI, 148, .inl (fun z9 => iI (pa z9)))), (b3, .inl (cI, 37, .inl (fun z9 => iI (ad z9)))), (b4, .inl (cI, 37, .inl (fun z9 => iI ((cpi be w i) z9)))), (b5, .inl (cC, 60, .inl (fun z9 => iI (tx z9)))), (b6, .inl (cI, 8, .inl (fun z9 => iI (od z9)))), (b7, .inl (cI, 8, .inl (fun z9 => iI (pt z9)))), (b8, .inl (cI, 8, .inl (fun z9 => iI (tu z9)))), (b9, .inl (cI, 8, .inl (fun z9 => iI (fa z9)))), (b10, .inl (cI, 8, .inl (fun z9 => iI (th z9)))), (b11, .inl (cI, 8, .inl (fun z9 => iI (ss z9)))), (b12, .inl (cI, 1600, .inl (fun z9 => iI (mo z9))))] → va_S A s.heap H locs → ∀ ls : Array Slot, lv_has ls 2 [(0, .ref b0), (1, .int (iI v1))] → W p l e ({ frames := 0, cells := 0, slots := 0, locals := 0 } : Room) s m args below meth c H locs 0 0 (MQ below (wr_Qv (fun (u : Unit) => True) (fun u t => va_P (dC, dI) vwCl (wM cI cC b0 b1 b2 b3 b4 b5 b6 b7 b8 b9 b10 b11 b12 w pa ad (cpi be w 37) ns ia tx tl ta od pt tu fa th ss mo) t.heap) A) args s 0 0 A) (F0 m 2 ls []) := by
    intro d2
    induction d2 with
    | zero =>
      intro i v1 hi e1 hd2
      exact absurd hd2 (Nat.not_lt_zero _)
    | succ d2 ih2 =>
      intro i v1 hi e1 hd2 H locs hP hD hS ls hl
      refine lv_iload_n hx hb dX6_remember_2 rfl (lv_at hl 1 rfl) ?_
      refine zz_bipush hx hb dX6_remember_3 (by decide +kernel) ?_
      refine zz_icmp_ge (tgt := 26) hx hb dX6_remember_5 (by decide) (by omega) (by omega) (fun c_5 => ?_) (fun c_5 => ?_)
      · skip
        exact W.vret hx hb hr (fun t9 ht9 hW9 => ⟨⟨(), rfl, trivial, by show va_P _ _ _ t9.heap; rw [ht9]; exact (by rw [show i = 37 by omega] at hP; exact hP)⟩, hS.F ht9⟩) hS.2.2 dX6_remember_26
      · skip
        refine lv_aload_n hx hb dX6_remember_8 rfl (lv_at hl 0 rfl) ?_
        refine va_get (D := (dC, dI)) (ci := 6) (v := .ref b4) (C := RX6) (T := TX6) (N := 16) hx hb hts hw6 hown hK hP 0 rfl rfl 3 (by decide) hf19 (fun _ h9 => h9) rfl dX6_remember_9 ?_
        refine lv_iload_n hx hb dX6_remember_12 rfl (lv_at hl 1 rfl) ?_
        refine lv_aload_n hx hb dX6_remember_13 rfl (lv_at hl 0 rfl) ?_
        refine va_get (D := (dC, dI)) (ci := 6) (v := .ref b1) (C := RX6) (T := TX6) (N := 16) hx hb hts hw6 hown hK hP 0 rfl rfl 0 (by decide) hf7 (fun _ h9 => h9) rfl dX6_remember_14 ?_
        refine lv_iload_n hx hb dX6_remember_17 rfl (lv_at hl 1 rfl) ?_
        refine zz_iald hx hb hK hP 1 0 (f := w) rfl rfl (by decide) i (by omega) (by omega) dX6_remember_18 ?_
        refine zz_iast hx hb hK hP hD hS 4 0 (f := (cpi be w i)) (x := (w i)) rfl rfl (by decide) i (by omega) (by omega) dX6_remember_19 (fun H locs hP hD hS => ?_)
        have hP : va_P (dC, dI) vwCl [(b0, .inr (6, [.ref b1, .ref b2, .ref b3, .ref b4, .int (iI ns), .int (iI ia), .ref b5, .int (iI tl), .int (iI ta), .ref b6, .ref b7, .ref b8, .ref b9, .ref b10, .ref b11, .ref b12])), (b1, .inl (cI, 37, .inl (fun z9 => iI (w z9)))), (b2, .inl (cI, 148, .inl (fun z9 => iI (pa z9)))), (b3, .inl (cI, 37, .inl (fun z9 => iI (ad z9)))), (b4, .inl (cI, 37, .inl (fun z9 => iI ((up (cpi be w i) i (w i)) z9)))), (b5, .inl (cC, 60, .inl (fun z9 => iI (tx z9)))), (b6, .inl (cI, 8, .inl (fun z9 => iI (od z9)))), (b7, .inl (cI, 8, .inl (fun z9 => iI (pt z9)))), (b8, .inl (cI, 8, .inl (fun z9 => iI (tu z9)))), (b9, .inl (cI, 8, .inl (fun z9 => iI (fa z9)))), (b10, .inl (cI, 8, .inl (fun z9 => iI (th z9)))), (b11, .inl (cI, 8, .inl (fun z9 => iI (ss z9)))), (b12, .inl (cI, 1600, .inl (fun z9 => iI (mo z9))))] H := hP
        have hD : va_D A [(b0, .inr (6, [.ref b1, .ref b2, .ref b3, .ref b4, .int (iI ns), .int (iI ia), .ref b5, .int (iI tl), .int (iI ta), .ref b6, .ref b7, .ref b8, .ref b9, .ref b10, .ref b11, .ref b12])), (b1, .inl (cI, 37, .inl (fun z9 => iI (w z9)))), (b2, .inl (cI, 148, .inl (fun z9 => iI (pa z9)))), (b3, .inl (cI, 37, .inl (fun z9 => iI (ad z9)))), (b4, .inl (cI, 37, .inl (fun z9 => iI ((up (cpi be w i) i (w i)) z9)))), (b5, .inl (cC, 60, .inl (fun z9 => iI (tx z9)))), (b6, .inl (cI, 8, .inl (fun z9 => iI (od z9)))), (b7, .inl (cI, 8, .inl (fun z9 => iI (pt z9)))), (b8, .inl (cI, 8, .inl (fun z9 => iI (tu z9)))), (b9, .inl (cI, 8, .inl (fun z9 => iI (fa z9)))), (b10, .inl (cI, 8, .inl (fun z9 => iI (th z9)))), (b11, .inl (cI, 8, .inl (fun z9 => iI (ss z9)))), (b12, .inl (cI, 1600, .inl (fun z9 => iI (mo z9))))] := hD
        refine zz_iinc (lv' := [(1, .int (iI (v1 + (1 : Int)))), (0, .ref b0)]) hx hb dX6_remember_20 hl (k := 1) rfl (by decide) rfl (fun ls hl => ?_)
        refine lv_goto (tgt := 2) hx hb dX6_remember_23 (by decide) ?_
        have hP : va_P (dC, dI) vwCl [(b0, .inr (6, [.ref b1, .ref b2, .ref b3, .ref b4, .int (iI ns), .int (iI ia), .ref b5, .int (iI tl), .int (iI ta), .ref b6, .ref b7, .ref b8, .ref b9, .ref b10, .ref b11, .ref b12])), (b1, .inl (cI, 37, .inl (fun z9 => iI (w z9)))), (b2, .inl (cI, 148, .inl (fun z9 => iI (pa z9)))), (b3, .inl (cI, 37, .inl (fun z9 => iI (ad z9)))), (b4, .inl (cI, 37, .inl (fun z9 => iI ((cpi be w (i + 1)) z9)))), (b5, .inl (cC, 60, .inl (fun z9 => iI (tx z9)))), (b6, .inl (cI, 8, .inl (fun z9 => iI (od z9)))), (b7, .inl (cI, 8, .inl (fun z9 => iI (pt z9)))), (b8, .inl (cI, 8, .inl (fun z9 => iI (tu z9)))), (b9, .inl (cI, 8, .inl (fun z9 => iI (fa z9)))), (b10, .inl (cI, 8, .inl (fun z9 => iI (th z9)))), (b11, .inl (cI, 8, .inl (fun z9 => iI (ss z9)))), (b12, .inl (cI, 1600, .inl (fun z9 => iI (mo z9))))] H := by simp only [cpi_s] at hP; exact hP
        have hD : va_D A [(b0, .inr (6, [.ref b1, .ref b2, .ref b3, .ref b4, .int (iI ns), .int (iI ia), .ref b5, .int (iI tl), .int (iI ta), .ref b6, .ref b7, .ref b8, .ref b9, .ref b10, .ref b11, .ref b12])), (b1, .inl (cI, 37, .inl (fun z9 => iI (w z9)))), (b2, .inl (cI, 148, .inl (fun z9 => iI (pa z9)))), (b3, .inl (cI, 37, .inl (fun z9 => iI (ad z9)))), (b4, .inl (cI, 37, .inl (fun z9 => iI ((cpi be w (i + 1)) z9)))), (b5, .inl (cC, 60, .inl (fun z9 => iI (tx z9)))), (b6, .inl (cI, 8, .inl (fun z9 => iI (od z9)))), (b7, .inl (cI, 8, .inl (fun z9 => iI (pt z9)))), (b8, .inl (cI, 8, .inl (fun z9 => iI (tu z9)))), (b9, .inl (cI, 8, .inl (fun z9 => iI (fa z9)))), (b10, .inl (cI, 8, .inl (fun z9 => iI (th z9)))), (b11, .inl (cI, 8, .inl (fun z9 => iI (ss z9)))), (b12, .inl (cI, 1600, .inl (fun z9 => iI (mo z9))))] := by simp only [cpi_s] at hD; exact hD
        exact ih2 (i + 1) (v1 + (1 : Int)) (by omega) (by omega) (by omega) H locs hP hD hS ls (lv_sub hl [1, 0] rfl)
  have hP : va_P (dC, dI) vwCl [(b0, .inr (6, [.ref b1, .ref b2, .ref b3, .ref b4, .int (iI ns), .int (iI ia), .ref b5, .int (iI tl), .int (iI ta), .ref b6, .ref b7, .ref b8, .ref b9, .ref b10, .ref b11, .ref b12])), (b1, .inl (cI, 37, .inl (fun z9 => iI (w z9)))), (b2, .inl (cI, 148, .inl (fun z9 => iI (pa z9)))), (b3, .inl (cI, 37, .inl (fun z9 => iI (ad z9)))), (b4, .inl (cI, 37, .inl (fun z9 => iI ((cpi be w 0) z9)))), (b5, .inl (cC, 60, .inl (fun z9 => iI (tx z9)))), (b6, .inl (cI, 8, .inl (fun z9 => iI (od z9)))), (b7, .inl (cI, 8, .inl (fun z9 => iI (pt z9)))), (b8, .inl (cI, 8, .inl (fun z9 => iI (tu z9)))), (b9, .inl (cI, 8, .inl (fun z9 => iI (fa z9)))), (b10, .inl (cI, 8, .inl (fun z9 => iI (th z9)))), (b11, .inl (cI, 8, .inl (fun z9 => iI (ss z9)))), (b12, .inl (cI, 1600, .inl (fun z9 => iI (mo z9))))] s.heap := by simp only [cpi_0]; exact hP
  have hD : va_D A [(b0, .inr (6, [.ref b1, .ref b2, .ref b3, .ref b4, .int (iI ns), .int (iI ia), .ref b5, .int (iI tl), .int (iI ta), .ref b6, .ref b7, .ref b8, .ref b9, .ref b10, .ref b11, .ref b12])), (b1, .inl (cI, 37, .inl (fun z9 => iI (w z9)))), (b2, .inl (cI, 148, .inl (fun z9 => iI (pa z9)))), (b3, .inl (cI, 37, .inl (fun z9 => iI (ad z9)))), (b4, .inl (cI, 37, .inl (fun z9 => iI ((cpi be w 0) z9)))), (b5, .inl (cC, 60, .inl (fun z9 => iI (tx z9)))), (b6, .inl (cI, 8, .inl (fun z9 => iI (od z9)))), (b7, .inl (cI, 8, .inl (fun z9 => iI (pt z9)))), (b8, .inl (cI, 8, .inl (fun z9 => iI (tu z9)))), (b9, .inl (cI, 8, .inl (fun z9 => iI (fa z9)))), (b10, .inl (cI, 8, .inl (fun z9 => iI (th z9)))), (b11, .inl (cI, 8, .inl (fun z9 => iI (ss z9)))), (b12, .inl (cI, 1600, .inl (fun z9 => iI (mo z9))))] := by simp only [cpi_0]; exact hD
  exact lp2 _ 0 (0 : Int) (by omega) (by omega) (Nat.lt_succ_self _) s.heap [] hP hD hS ls (lv_sub hl [1, 0] rfl)
set_option maxHeartbeats 4000000 in
set_option maxRecDepth 100000 in
theorem c_X6_goBack (l : Launch) (dC : Nat → ClassId) (dI : Nat → Nat → Nat) (cI cJ cC cO : ClassId) (b0 b1 b2 b3 b4 b5 b6 b7 b8 b9 b10 b11 b12 : Nat) (w pa ad be : Nat → Int) (ns ia : Int) (tx : Nat → Int) (tl ta : Int) (od pt tu fa th ss mo : Nat → Int) : Met l yX6_goBack wsX6_goBack ({ frames := 0, cells := 0, slots := 0, locals := 0 } : Room) (va_Pc [.ref b0] (wr_B (dC, dI) vwCl (tyG cI cJ cC cO) (wM cI cC b0 b1 b2 b3 b4 b5 b6 b7 b8 b9 b10 b11 b12 w pa ad be ns ia tx tl ta od pt tu fa th ss mo))) (wr_Qv (fun (u : Unit) => True) (fun u t => va_P (dC, dI) vwCl (wM cI cC b0 b1 b2 b3 b4 b5 b6 b7 b8 b9 b10 b11 b12 (cpi w be 37) pa ad be ns ia tx tl ta od pt tu fa th ss mo) t.heap) (wr_A (wM cI cC b0 b1 b2 b3 b4 b5 b6 b7 b8 b9 b10 b11 b12 w pa ad be ns ia tx tl ta od pt tu fa th ss mo))) 0 0 (wr_A (wM cI cC b0 b1 b2 b3 b4 b5 b6 b7 b8 b9 b10 b11 b12 w pa ad be ns ia tx tl ta od pt tu fa th ss mo)) := by
  refine Met.ofW (cc := cX6_goBack) (maxL := 2) (ret := none) (by decide) rfl ?_
  intro p e s m args below meth c s₁ B hml hv
  obtain ⟨hav, hP, hK, hD0⟩ := hv
  have hx := B.exec
  have hb := B.bytes
  have hr := B.returns
  have hts := atoms_spec (ws := wsX6_goBack) B.pre
  have hown : s.vm.findClass RX6 = some m.cls := findClass_of_methodNamed B.named
  have hlocks := B.notSynchronized
  have hf7 := hts (.fieldLink RX6 7 "RingRodsModel" "row" "[I") (by decide +kernel)
  have hf19 := hts (.fieldLink RX6 19 "RingRodsModel" "before" "[I") (by decide +kernel)
  have hw6 : ∀ w ∈ u_ws RX6 TX6 16, w ∈ wsX6_goBack := by decide +kernel
  have hD := va_D.slf hD0
  have hS : va_S (wr_A (wM cI cC b0 b1 b2 b3 b4 b5 b6 b7 b8 b9 b10 b11 b12 w pa ad be ns ia tx tl ta od pt tu fa th ss mo)) s.heap s.heap [] := va_S.rf
  show W p l e ({ frames := 0, cells := 0, slots := 0, locals := 0 } : Room) s m args below meth c s.heap [] 0 0 (MQ below (wr_Qv (fun (u : Unit) => True) (fun u t => va_P (dC, dI) vwCl (wM cI cC b0 b1 b2 b3 b4 b5 b6 b7 b8 b9 b10 b11 b12 (cpi w be 37) pa ad be ns ia tx tl ta od pt tu fa th ss mo) t.heap) (wr_A (wM cI cC b0 b1 b2 b3 b4 b5 b6 b7 b8 b9 b10 b11 b12 w pa ad be ns ia tx tl ta od pt tu fa th ss mo))) args s 0 0 (wr_A (wM cI cC b0 b1 b2 b3 b4 b5 b6 b7 b8 b9 b10 b11 b12 w pa ad be ns ia tx tl ta od pt tu fa th ss mo))) (entryFrame m args 2)
  generalize hAe : wr_A (wM cI cC b0 b1 b2 b3 b4 b5 b6 b7 b8 b9 b10 b11 b12 w pa ad be ns ia tx tl ta od pt tu fa th ss mo) = A at hD hS ⊢
  have hP : va_P (dC, dI) vwCl [(b0, .inr (6, [.ref b1, .ref b2, .ref b3, .ref b4, .int (iI ns), .int (iI ia), .ref b5, .int (iI tl), .int (iI ta), .ref b6, .ref b7, .ref b8, .ref b9, .ref b10, .ref b11, .ref b12])), (b1, .inl (cI, 37, .inl (fun z9 => iI (w z9)))), (b2, .inl (cI, 148, .inl (fun z9 => iI (pa z9)))), (b3, .inl (cI, 37, .inl (fun z9 => iI (ad z9)))), (b4, .inl (cI, 37, .inl (fun z9 => iI (be z9)))), (b5, .inl (cC, 60, .inl (fun z9 => iI (tx z9)))), (b6, .inl (cI, 8, .inl (fun z9 => iI (od z9)))), (b7, .inl (cI, 8, .inl (fun z9 => iI (pt z9)))), (b8, .inl (cI, 8, .inl (fun z9 => iI (tu z9)))), (b9, .inl (cI, 8, .inl (fun z9 => iI (fa z9)))), (b10, .inl (cI, 8, .inl (fun z9 => iI (th z9)))), (b11, .inl (cI, 8, .inl (fun z9 => iI (ss z9)))), (b12, .inl (cI, 1600, .inl (fun z9 => iI (mo z9))))] s.heap := hP
  have hD : va_D A [(b0, .inr (6, [.ref b1, .ref b2, .ref b3, .ref b4, .int (iI ns), .int (iI ia), .ref b5, .int (iI tl), .int (iI ta), .ref b6, .ref b7, .ref b8, .ref b9, .ref b10, .ref b11, .ref b12])), (b1, .inl (cI, 37, .inl (fun z9 => iI (w z9)))), (b2, .inl (cI, 148, .inl (fun z9 => iI (pa z9)))), (b3, .inl (cI, 37, .inl (fun z9 => iI (ad z9)))), (b4, .inl (cI, 37, .inl (fun z9 => iI (be z9)))), (b5, .inl (cC, 60, .inl (fun z9 => iI (tx z9)))), (b6, .inl (cI, 8, .inl (fun z9 => iI (od z9)))), (b7, .inl (cI, 8, .inl (fun z9 => iI (pt z9)))), (b8, .inl (cI, 8, .inl (fun z9 => iI (tu z9)))), (b9, .inl (cI, 8, .inl (fun z9 => iI (fa z9)))), (b10, .inl (cI, 8, .inl (fun z9 => iI (th z9)))), (b11, .inl (cI, 8, .inl (fun z9 => iI (ss z9)))), (b12, .inl (cI, 1600, .inl (fun z9 => iI (mo z9))))] := hD
  have hl := lv_entry ([.ref b0]) (n := 2) (Nat.le_of_ble_eq_true rfl)
  have hent : entryFrame m args 2 = F0 m 0 ((lg_sl ([.ref b0]) ++ List.replicate (2 - (lg_sl ([.ref b0])).length) Slot.unset).toArray) [] := by rw [hav]; exact lg_entry_eq ..
  rw [hent]
  generalize (lg_sl ([.ref b0]) ++ List.replicate (2 - (lg_sl ([.ref b0])).length) Slot.unset).toArray = ls at hl ⊢
  have hl : lv_has ls 2 [(0, .ref b0)] := hl
  refine zz_iconst hx hb dX6_goBack_0 ?_
  refine lv_istore_n (lv' := [(1, .int (iI (0 : Int))), (0, .ref b0)]) hx hb dX6_goBack_1 rfl hl (by decide) rfl (fun ls hl => ?_)
  have lp2 : ∀ (d2 : Nat), ∀ (i : Nat) (v1 : Int) (hi : i ≤ 37) (e1 : v1 = (i : Int)), 37 - i < d2 → ∀ (H : Heap) (locs : List Loc), va_P (dC, dI) vwCl [(b0, .inr (6, [.ref b1, .ref b2, .ref b3, .ref b4, .int (iI ns), .int (iI ia), .ref b5, .int (iI tl), .int (iI ta), .ref b6, .ref b7, .ref b8, .ref b9, .ref b10, .ref b11, .ref b12])), (b1, .inl (cI, 37, .inl (fun z9 => iI ((cpi w be i) z9)))), (b2, .inl (cI, 148, .inl (fun z9 => iI (pa z9)))), (b3, .inl (cI, 37, .inl (fun z9 => iI (ad z9)))), (b4, .inl (cI, 37, .inl (fun z9 => iI (be z9)))), (b5, .inl (cC, 60, .inl (fun z9 => iI (tx z9)))), (b6, .inl (cI, 8, .inl (fun z9 => iI (od z9)))), (b7, .inl (cI, 8, .inl (fun z9 => iI (pt z9)))), (b8, .inl (cI, 8, .inl (fun z9 => iI (tu z9)))), (b9, .inl (cI, 8, .inl (fun z9 => iI (fa z9)))), (b10, .inl (cI, 8, .inl (fun z9 => iI (th z9)))), (b11, .inl (cI, 8, .inl (fun z9 => iI (ss z9)))), (b12, .inl (cI, 1600, .inl (fun z9 => iI (mo z9))))] H → va_D A [(b0, .inr (6, [.ref b1, .ref b2, .ref b3, .ref b4, .int (iI ns), .int (iI ia), .ref b5, .int (iI tl), .int (iI ta), .ref b6, .ref b7, .ref b8, .ref b9, .ref b10, .ref b11, .ref b12])), (b1, .inl (cI, 37, .inl (fun z9 => iI ((cpi w be i) z9)))), (b2, .inl (cI, 148, .inl (fun z9 => iI (pa z9)))), (b3, .inl (cI, 37, .inl (fun z9 => iI (ad z9)))), (b4, .inl (cI, 37, .inl (fun z9 => iI (be z9)))), (b5, .inl (cC, 60, .inl (fun z9 => iI (tx z9)))), (b6, .inl (cI, 8, .inl (fun z9 => iI (od z9)))), (b7, .inl (cI, 8, .inl (fun z9 => iI (pt z9)))), (b8, .inl (cI, 8, .inl (fun z9 => iI (tu z9)))), (b9, .inl (cI, 8, .inl (fun z9 => iI (fa z9)))), (b10, .inl (cI, 8, .inl (fun z9 => iI (th z9)))), (b11, .inl (cI, 8, .inl (fun z9 => iI (ss z9)))), (b12, .inl (cI, 1600, .inl (fun z9 => iI (mo z9))))] → va_S A s.heap H locs → ∀ ls : Array Slot, lv_has ls 2 [(0, .ref b0), (1, .int (iI v1))] → W p l e ({ frames := 0, cells := 0, slots := 0, locals := 0 } : Room) s m args below meth c H locs 0 0 (MQ below (wr_Qv (fun (u : Unit) => True) (fun u t => va_P (dC, dI) vwCl (wM cI cC b0 b1 b2 b3 b4 b5 b6 b7 b8 b9 b10 b11 b12 (cpi w be 37) pa ad be ns ia tx tl ta od pt tu fa th ss mo) t.heap) A) args s 0 0 A) (F0 m 2 ls []) := by
    intro d2
    induction d2 with
    | zero =>
      intro i v1 hi e1 hd2
      exact absurd hd2 (Nat.not_lt_zero _)
    | succ d2 ih2 =>
      intro i v1 hi e1 hd2 H locs hP hD hS ls hl
      refine lv_iload_n hx hb dX6_goBack_2 rfl (lv_at hl 1 rfl) ?_
      refine zz_bipush hx hb dX6_goBack_3 (by decide +kernel) ?_
      refine zz_icmp_ge (tgt := 26) hx hb dX6_goBack_5 (by decide) (by omega) (by omega) (fun c_5 => ?_) (fun c_5 => ?_)
      · skip
        exact W.vret hx hb hr (fun t9 ht9 hW9 => ⟨⟨(), rfl, trivial, by show va_P _ _ _ t9.heap; rw [ht9]; exact (by rw [show i = 37 by omega] at hP; exact hP)⟩, hS.F ht9⟩) hS.2.2 dX6_goBack_26
      · skip
        refine lv_aload_n hx hb dX6_goBack_8 rfl (lv_at hl 0 rfl) ?_
        refine va_get (D := (dC, dI)) (ci := 6) (v := .ref b1) (C := RX6) (T := TX6) (N := 16) hx hb hts hw6 hown hK hP 0 rfl rfl 0 (by decide) hf7 (fun _ h9 => h9) rfl dX6_goBack_9 ?_
        refine lv_iload_n hx hb dX6_goBack_12 rfl (lv_at hl 1 rfl) ?_
        refine lv_aload_n hx hb dX6_goBack_13 rfl (lv_at hl 0 rfl) ?_
        refine va_get (D := (dC, dI)) (ci := 6) (v := .ref b4) (C := RX6) (T := TX6) (N := 16) hx hb hts hw6 hown hK hP 0 rfl rfl 3 (by decide) hf19 (fun _ h9 => h9) rfl dX6_goBack_14 ?_
        refine lv_iload_n hx hb dX6_goBack_17 rfl (lv_at hl 1 rfl) ?_
        refine zz_iald hx hb hK hP 4 0 (f := be) rfl rfl (by decide) i (by omega) (by omega) dX6_goBack_18 ?_
        refine zz_iast hx hb hK hP hD hS 1 0 (f := (cpi w be i)) (x := (be i)) rfl rfl (by decide) i (by omega) (by omega) dX6_goBack_19 (fun H locs hP hD hS => ?_)
        have hP : va_P (dC, dI) vwCl [(b0, .inr (6, [.ref b1, .ref b2, .ref b3, .ref b4, .int (iI ns), .int (iI ia), .ref b5, .int (iI tl), .int (iI ta), .ref b6, .ref b7, .ref b8, .ref b9, .ref b10, .ref b11, .ref b12])), (b1, .inl (cI, 37, .inl (fun z9 => iI ((up (cpi w be i) i (be i)) z9)))), (b2, .inl (cI, 148, .inl (fun z9 => iI (pa z9)))), (b3, .inl (cI, 37, .inl (fun z9 => iI (ad z9)))), (b4, .inl (cI, 37, .inl (fun z9 => iI (be z9)))), (b5, .inl (cC, 60, .inl (fun z9 => iI (tx z9)))), (b6, .inl (cI, 8, .inl (fun z9 => iI (od z9)))), (b7, .inl (cI, 8, .inl (fun z9 => iI (pt z9)))), (b8, .inl (cI, 8, .inl (fun z9 => iI (tu z9)))), (b9, .inl (cI, 8, .inl (fun z9 => iI (fa z9)))), (b10, .inl (cI, 8, .inl (fun z9 => iI (th z9)))), (b11, .inl (cI, 8, .inl (fun z9 => iI (ss z9)))), (b12, .inl (cI, 1600, .inl (fun z9 => iI (mo z9))))] H := hP
        have hD : va_D A [(b0, .inr (6, [.ref b1, .ref b2, .ref b3, .ref b4, .int (iI ns), .int (iI ia), .ref b5, .int (iI tl), .int (iI ta), .ref b6, .ref b7, .ref b8, .ref b9, .ref b10, .ref b11, .ref b12])), (b1, .inl (cI, 37, .inl (fun z9 => iI ((up (cpi w be i) i (be i)) z9)))), (b2, .inl (cI, 148, .inl (fun z9 => iI (pa z9)))), (b3, .inl (cI, 37, .inl (fun z9 => iI (ad z9)))), (b4, .inl (cI, 37, .inl (fun z9 => iI (be z9)))), (b5, .inl (cC, 60, .inl (fun z9 => iI (tx z9)))), (b6, .inl (cI, 8, .inl (fun z9 => iI (od z9)))), (b7, .inl (cI, 8, .inl (fun z9 => iI (pt z9)))), (b8, .inl (cI, 8, .inl (fun z9 => iI (tu z9)))), (b9, .inl (cI, 8, .inl (fun z9 => iI (fa z9)))), (b10, .inl (cI, 8, .inl (fun z9 => iI (th z9)))), (b11, .inl (cI, 8, .inl (fun z9 => iI (ss z9)))), (b12, .inl (cI, 1600, .inl (fun z9 => iI (mo z9))))] := hD
        refine zz_iinc (lv' := [(1, .int (iI (v1 + (1 : Int)))), (0, .ref b0)]) hx hb dX6_goBack_20 hl (k := 1) rfl (by decide) rfl (fun ls hl => ?_)
        refine lv_goto (tgt := 2) hx hb dX6_goBack_23 (by decide) ?_
        have hP : va_P (dC, dI) vwCl [(b0, .inr (6, [.ref b1, .ref b2, .ref b3, .ref b4, .int (iI ns), .int (iI ia), .ref b5, .int (iI tl), .int (iI ta), .ref b6, .ref b7, .ref b8, .ref b9, .ref b10, .ref b11, .ref b12])), (b1, .inl (cI, 37, .inl (fun z9 => iI ((cpi w be (i + 1)) z9)))), (b2, .inl (cI, 148, .inl (fun z9 => iI (pa z9)))), (b3, .inl (cI, 37, .inl (fun z9 => iI (ad z9)))), (b4, .inl (cI, 37, .inl (fun z9 => iI (be z9)))), (b5, .inl (cC, 60, .inl (fun z9 => iI (tx z9)))), (b6, .inl (cI, 8, .inl (fun z9 => iI (od z9)))), (b7, .inl (cI, 8, .inl (fun z9 => iI (pt z9)))), (b8, .inl (cI, 8, .inl (fun z9 => iI (tu z9)))), (b9, .inl (cI, 8, .inl (fun z9 => iI (fa z9)))), (b10, .inl (cI, 8, .inl (fun z9 => iI (th z9)))), (b11, .inl (cI, 8, .inl (fun z9 => iI (ss z9)))), (b12, .inl (cI, 1600, .inl (fun z9 => iI (mo z9))))] H := by simp only [cpi_s] at hP; exact hP
        have hD : va_D A [(b0, .inr (6, [.ref b1, .ref b2, .ref b3, .ref b4, .int (iI ns), .int (iI ia), .ref b5, .int (iI tl), .int (iI ta), .ref b6, .ref b7, .ref b8, .ref b9, .ref b10, .ref b11, .ref b12])), (b1, .inl (cI, 37, .inl (fun z9 => iI ((cpi w be (i + 1)) z9)))), (b2, .inl (cI, 148, .inl (fun z9 => iI (pa z9)))), (b3, .inl (cI, 37, .inl (fun z9 => iI (ad z9)))), (b4, .inl (cI, 37, .inl (fun z9 => iI (be z9)))), (b5, .inl (cC, 60, .inl (fun z9 => iI (tx z9)))), (b6, .inl (cI, 8, .inl (fun z9 => iI (od z9)))), (b7, .inl (cI, 8, .inl (fun z9 => iI (pt z9)))), (b8, .inl (cI, 8, .inl (fun z9 => iI (tu z9)))), (b9, .inl (cI, 8, .inl (fun z9 => iI (fa z9)))), (b10, .inl (cI, 8, .inl (fun z9 => iI (th z9)))), (b11, .inl (cI, 8, .inl (fun z9 => iI (ss z9)))), (b12, .inl (cI, 1600, .inl (fun z9 => iI (mo z9))))] := by simp only [cpi_s] at hD; exact hD
        exact ih2 (i + 1) (v1 + (1 : Int)) (by omega) (by omega) (by omega) H locs hP hD hS ls (lv_sub hl [1, 0] rfl)
  have hP : va_P (dC, dI) vwCl [(b0, .inr (6, [.ref b1, .ref b2, .ref b3, .ref b4, .int (iI ns), .int (iI ia), .ref b5, .int (iI tl), .int (iI ta), .ref b6, .ref b7, .ref b8, .ref b9, .ref b10, .ref b11, .ref b12])), (b1, .inl (cI, 37, .inl (fun z9 => iI ((cpi w be 0) z9)))), (b2, .inl (cI, 148, .inl (fun z9 => iI (pa z9)))), (b3, .inl (cI, 37, .inl (fun z9 => iI (ad z9)))), (b4, .inl (cI, 37, .inl (fun z9 => iI (be z9)))), (b5, .inl (cC, 60, .inl (fun z9 => iI (tx z9)))), (b6, .inl (cI, 8, .inl (fun z9 => iI (od z9)))), (b7, .inl (cI, 8, .inl (fun z9 => iI (pt z9)))), (b8, .inl (cI, 8, .inl (fun z9 => iI (tu z9)))), (b9, .inl (cI, 8, .inl (fun z9 => iI (fa z9)))), (b10, .inl (cI, 8, .inl (fun z9 => iI (th z9)))), (b11, .inl (cI, 8, .inl (fun z9 => iI (ss z9)))), (b12, .inl (cI, 1600, .inl (fun z9 => iI (mo z9))))] s.heap := by simp only [cpi_0]; exact hP
  have hD : va_D A [(b0, .inr (6, [.ref b1, .ref b2, .ref b3, .ref b4, .int (iI ns), .int (iI ia), .ref b5, .int (iI tl), .int (iI ta), .ref b6, .ref b7, .ref b8, .ref b9, .ref b10, .ref b11, .ref b12])), (b1, .inl (cI, 37, .inl (fun z9 => iI ((cpi w be 0) z9)))), (b2, .inl (cI, 148, .inl (fun z9 => iI (pa z9)))), (b3, .inl (cI, 37, .inl (fun z9 => iI (ad z9)))), (b4, .inl (cI, 37, .inl (fun z9 => iI (be z9)))), (b5, .inl (cC, 60, .inl (fun z9 => iI (tx z9)))), (b6, .inl (cI, 8, .inl (fun z9 => iI (od z9)))), (b7, .inl (cI, 8, .inl (fun z9 => iI (pt z9)))), (b8, .inl (cI, 8, .inl (fun z9 => iI (tu z9)))), (b9, .inl (cI, 8, .inl (fun z9 => iI (fa z9)))), (b10, .inl (cI, 8, .inl (fun z9 => iI (th z9)))), (b11, .inl (cI, 8, .inl (fun z9 => iI (ss z9)))), (b12, .inl (cI, 1600, .inl (fun z9 => iI (mo z9))))] := by simp only [cpi_0]; exact hD
  exact lp2 _ 0 (0 : Int) (by omega) (by omega) (Nat.lt_succ_self _) s.heap [] hP hD hS ls (lv_sub hl [1, 0] rfl)
set_option maxHeartbeats 4000000 in
set_option maxRecDepth 100000 in
theorem c_X6_record (l : Launch) (dC : Nat → ClassId) (dI : Nat → Nat → Nat) (cI cJ cC cO : ClassId) (b0 b1 b2 b3 b4 b5 b6 b7 b8 b9 b10 b11 b12 : Nat) (w pa ad be : Nat → Int) (ns ia : Int) (tx : Nat → Int) (tl ta : Int) (od pt tu fa th ss mo : Nat → Int) (hns : 0 ≤ ns ∧ ns ≤ 4) : Met l yX6_record wsX6_record ({ frames := 0, cells := 0, slots := 0, locals := 0 } : Room) (va_Pc [.ref b0] (wr_B (dC, dI) vwCl (tyG cI cJ cC cO) (wM cI cC b0 b1 b2 b3 b4 b5 b6 b7 b8 b9 b10 b11 b12 w pa ad be ns ia tx tl ta od pt tu fa th ss mo))) (wr_Qv (fun (u : Unit) => True) (fun u t => va_P (dC, dI) vwCl (wM cI cC b0 b1 b2 b3 b4 b5 b6 b7 b8 b9 b10 b11 b12 w (rcM pa be ns) ad be (rnM ns) ia tx tl ta od pt tu fa th ss mo) t.heap) (wr_A (wM cI cC b0 b1 b2 b3 b4 b5 b6 b7 b8 b9 b10 b11 b12 w pa ad be ns ia tx tl ta od pt tu fa th ss mo))) 0 0 (wr_A (wM cI cC b0 b1 b2 b3 b4 b5 b6 b7 b8 b9 b10 b11 b12 w pa ad be ns ia tx tl ta od pt tu fa th ss mo)) := by
  refine Met.ofW (cc := cX6_record) (maxL := 2) (ret := none) (by decide) rfl ?_
  intro p e s m args below meth c s₁ B hml hv
  obtain ⟨hav, hP, hK, hD0⟩ := hv
  have hx := B.exec
  have hb := B.bytes
  have hr := B.returns
  have hts := atoms_spec (ws := wsX6_record) B.pre
  have hown : s.vm.findClass RX6 = some m.cls := findClass_of_methodNamed B.named
  have hlocks := B.notSynchronized
  have hf13 := hts (.fieldLink RX6 13 "RingRodsModel" "past" "[I") (by decide +kernel)
  have hf19 := hts (.fieldLink RX6 19 "RingRodsModel" "before" "[I") (by decide +kernel)
  have hf47 := hts (.fieldLink RX6 47 "RingRodsModel" "states" "I") (by decide +kernel)
  have hw6 : ∀ w ∈ u_ws RX6 TX6 16, w ∈ wsX6_record := by decide +kernel
  have hD := va_D.slf hD0
  have hS : va_S (wr_A (wM cI cC b0 b1 b2 b3 b4 b5 b6 b7 b8 b9 b10 b11 b12 w pa ad be ns ia tx tl ta od pt tu fa th ss mo)) s.heap s.heap [] := va_S.rf
  show W p l e ({ frames := 0, cells := 0, slots := 0, locals := 0 } : Room) s m args below meth c s.heap [] 0 0 (MQ below (wr_Qv (fun (u : Unit) => True) (fun u t => va_P (dC, dI) vwCl (wM cI cC b0 b1 b2 b3 b4 b5 b6 b7 b8 b9 b10 b11 b12 w (rcM pa be ns) ad be (rnM ns) ia tx tl ta od pt tu fa th ss mo) t.heap) (wr_A (wM cI cC b0 b1 b2 b3 b4 b5 b6 b7 b8 b9 b10 b11 b12 w pa ad be ns ia tx tl ta od pt tu fa th ss mo))) args s 0 0 (wr_A (wM cI cC b0 b1 b2 b3 b4 b5 b6 b7 b8 b9 b10 b11 b12 w pa ad be ns ia tx tl ta od pt tu fa th ss mo))) (entryFrame m args 2)
  generalize hAe : wr_A (wM cI cC b0 b1 b2 b3 b4 b5 b6 b7 b8 b9 b10 b11 b12 w pa ad be ns ia tx tl ta od pt tu fa th ss mo) = A at hD hS ⊢
  have hP : va_P (dC, dI) vwCl [(b0, .inr (6, [.ref b1, .ref b2, .ref b3, .ref b4, .int (iI ns), .int (iI ia), .ref b5, .int (iI tl), .int (iI ta), .ref b6, .ref b7, .ref b8, .ref b9, .ref b10, .ref b11, .ref b12])), (b1, .inl (cI, 37, .inl (fun z9 => iI (w z9)))), (b2, .inl (cI, 148, .inl (fun z9 => iI (pa z9)))), (b3, .inl (cI, 37, .inl (fun z9 => iI (ad z9)))), (b4, .inl (cI, 37, .inl (fun z9 => iI (be z9)))), (b5, .inl (cC, 60, .inl (fun z9 => iI (tx z9)))), (b6, .inl (cI, 8, .inl (fun z9 => iI (od z9)))), (b7, .inl (cI, 8, .inl (fun z9 => iI (pt z9)))), (b8, .inl (cI, 8, .inl (fun z9 => iI (tu z9)))), (b9, .inl (cI, 8, .inl (fun z9 => iI (fa z9)))), (b10, .inl (cI, 8, .inl (fun z9 => iI (th z9)))), (b11, .inl (cI, 8, .inl (fun z9 => iI (ss z9)))), (b12, .inl (cI, 1600, .inl (fun z9 => iI (mo z9))))] s.heap := hP
  have hD : va_D A [(b0, .inr (6, [.ref b1, .ref b2, .ref b3, .ref b4, .int (iI ns), .int (iI ia), .ref b5, .int (iI tl), .int (iI ta), .ref b6, .ref b7, .ref b8, .ref b9, .ref b10, .ref b11, .ref b12])), (b1, .inl (cI, 37, .inl (fun z9 => iI (w z9)))), (b2, .inl (cI, 148, .inl (fun z9 => iI (pa z9)))), (b3, .inl (cI, 37, .inl (fun z9 => iI (ad z9)))), (b4, .inl (cI, 37, .inl (fun z9 => iI (be z9)))), (b5, .inl (cC, 60, .inl (fun z9 => iI (tx z9)))), (b6, .inl (cI, 8, .inl (fun z9 => iI (od z9)))), (b7, .inl (cI, 8, .inl (fun z9 => iI (pt z9)))), (b8, .inl (cI, 8, .inl (fun z9 => iI (tu z9)))), (b9, .inl (cI, 8, .inl (fun z9 => iI (fa z9)))), (b10, .inl (cI, 8, .inl (fun z9 => iI (th z9)))), (b11, .inl (cI, 8, .inl (fun z9 => iI (ss z9)))), (b12, .inl (cI, 1600, .inl (fun z9 => iI (mo z9))))] := hD
  have hl := lv_entry ([.ref b0]) (n := 2) (Nat.le_of_ble_eq_true rfl)
  have hent : entryFrame m args 2 = F0 m 0 ((lg_sl ([.ref b0]) ++ List.replicate (2 - (lg_sl ([.ref b0])).length) Slot.unset).toArray) [] := by rw [hav]; exact lg_entry_eq ..
  rw [hent]
  generalize (lg_sl ([.ref b0]) ++ List.replicate (2 - (lg_sl ([.ref b0])).length) Slot.unset).toArray = ls at hl ⊢
  have hl : lv_has ls 2 [(0, .ref b0)] := hl
  obtain ⟨kn, ekn⟩ : ∃ kn : Nat, ns = (kn : Int) := ⟨ns.toNat, by omega⟩
  by_cases hn4 : ns = 4
  · skip
    refine lv_aload_n hx hb dX6_record_0 rfl (lv_at hl 0 rfl) ?_
    refine va_get (D := (dC, dI)) (ci := 6) (v := .int (iI ns)) (C := RX6) (T := TX6) (N := 16) hx hb hts hw6 hown hK hP 0 rfl rfl 4 (by decide) hf47 (fun _ h9 => h9) rfl dX6_record_1 ?_
    refine zz_iconst hx hb dX6_record_4 ?_
    refine zz_icmp_ne (tgt := 47) hx hb dX6_record_5 (by decide) (by omega) (by omega) (fun c_5 => ?_) (fun c_5 => ?_)
    · skip
      exact absurd hn4 c_5
    · skip
      refine zz_iconst hx hb dX6_record_8 ?_
      refine lv_istore_n (lv' := [(1, .int (iI (0 : Int))), (0, .ref b0)]) hx hb dX6_record_9 rfl hl (by decide) rfl (fun ls hl => ?_)
      have lp10 : ∀ (d10 : Nat), ∀ (i : Nat) (v1 : Int) (hi : i ≤ 111) (e1 : v1 = (i : Int)), 111 - i < d10 → ∀ (H : Heap) (locs : List Loc), va_P (dC, dI) vwCl [(b0, .inr (6, [.ref b1, .ref b2, .ref b3, .ref b4, .int (iI ns), .int (iI ia), .ref b5, .int (iI tl), .int (iI ta), .ref b6, .ref b7, .ref b8, .ref b9, .ref b10, .ref b11, .ref b12])), (b1, .inl (cI, 37, .inl (fun z9 => iI (w z9)))), (b2, .inl (cI, 148, .inl (fun z9 => iI ((shl pa i) z9)))), (b3, .inl (cI, 37, .inl (fun z9 => iI (ad z9)))), (b4, .inl (cI, 37, .inl (fun z9 => iI (be z9)))), (b5, .inl (cC, 60, .inl (fun z9 => iI (tx z9)))), (b6, .inl (cI, 8, .inl (fun z9 => iI (od z9)))), (b7, .inl (cI, 8, .inl (fun z9 => iI (pt z9)))), (b8, .inl (cI, 8, .inl (fun z9 => iI (tu z9)))), (b9, .inl (cI, 8, .inl (fun z9 => iI (fa z9)))), (b10, .inl (cI, 8, .inl (fun z9 => iI (th z9)))), (b11, .inl (cI, 8, .inl (fun z9 => iI (ss z9)))), (b12, .inl (cI, 1600, .inl (fun z9 => iI (mo z9))))] H → va_D A [(b0, .inr (6, [.ref b1, .ref b2, .ref b3, .ref b4, .int (iI ns), .int (iI ia), .ref b5, .int (iI tl), .int (iI ta), .ref b6, .ref b7, .ref b8, .ref b9, .ref b10, .ref b11, .ref b12])), (b1, .inl (cI, 37, .inl (fun z9 => iI (w z9)))), (b2, .inl (cI, 148, .inl (fun z9 => iI ((shl pa i) z9)))), (b3, .inl (cI, 37, .inl (fun z9 => iI (ad z9)))), (b4, .inl (cI, 37, .inl (fun z9 => iI (be z9)))), (b5, .inl (cC, 60, .inl (fun z9 => iI (tx z9)))), (b6, .inl (cI, 8, .inl (fun z9 => iI (od z9)))), (b7, .inl (cI, 8, .inl (fun z9 => iI (pt z9)))), (b8, .inl (cI, 8, .inl (fun z9 => iI (tu z9)))), (b9, .inl (cI, 8, .inl (fun z9 => iI (fa z9)))), (b10, .inl (cI, 8, .inl (fun z9 => iI (th z9)))), (b11, .inl (cI, 8, .inl (fun z9 => iI (ss z9)))), (b12, .inl (cI, 1600, .inl (fun z9 => iI (mo z9))))] → va_S A s.heap H locs → ∀ ls : Array Slot, lv_has ls 2 [(0, .ref b0), (1, .int (iI v1))] → W p l e ({ frames := 0, cells := 0, slots := 0, locals := 0 } : Room) s m args below meth c H locs 0 0 (MQ below (wr_Qv (fun (u : Unit) => True) (fun u t => va_P (dC, dI) vwCl (wM cI cC b0 b1 b2 b3 b4 b5 b6 b7 b8 b9 b10 b11 b12 w (rcM pa be ns) ad be (rnM ns) ia tx tl ta od pt tu fa th ss mo) t.heap) A) args s 0 0 A) (F0 m 10 ls []) := by
        intro d10
        induction d10 with
        | zero =>
          intro i v1 hi e1 hd10
          exact absurd hd10 (Nat.not_lt_zero _)
        | succ d10 ih10 =>
          intro i v1 hi e1 hd10 H locs hP hD hS ls hl
          refine lv_iload_n hx hb dX6_record_10 rfl (lv_at hl 1 rfl) ?_
          refine zz_bipush hx hb dX6_record_11 (by decide +kernel) ?_
          refine zz_icmp_ge (tgt := 37) hx hb dX6_record_13 (by decide) (by omega) (by omega) (fun c_13 => ?_) (fun c_13 => ?_)
          · skip
            refine lv_aload_n hx hb dX6_record_37 rfl (lv_at hl 0 rfl) ?_
            refine lv_dup hx hb dX6_record_38 rfl ?_
            refine va_get (D := (dC, dI)) (ci := 6) (v := .int (iI ns)) (C := RX6) (T := TX6) (N := 16) hx hb hts hw6 hown hK hP 0 rfl rfl 4 (by decide) hf47 (fun _ h9 => h9) rfl dX6_record_39 ?_
            refine zz_iconst hx hb dX6_record_42 ?_
            refine zz_isub hx hb dX6_record_43 ?_
            refine va_put (D := (dC, dI)) (ci := 6) (v := .int (iI (ns - (1 : Int)))) (ty := .int) (C := RX6) (T := TX6) (N := 16) hx hb hts hw6 tyX6 tyX6_ok nmX6 hown hK hP hD hS 0 rfl rfl 4 (by decide) hf47 (fun _ h9 => h9) rfl (by decide +kernel) rfl rfl (Nat.le_of_ble_eq_true rfl) dX6_record_44 (fun H locs hP hD hS => ?_)
            have hP : va_P (dC, dI) vwCl [(b0, .inr (6, [.ref b1, .ref b2, .ref b3, .ref b4, .int (iI (ns - (1 : Int))), .int (iI ia), .ref b5, .int (iI tl), .int (iI ta), .ref b6, .ref b7, .ref b8, .ref b9, .ref b10, .ref b11, .ref b12])), (b1, .inl (cI, 37, .inl (fun z9 => iI (w z9)))), (b2, .inl (cI, 148, .inl (fun z9 => iI ((shl pa i) z9)))), (b3, .inl (cI, 37, .inl (fun z9 => iI (ad z9)))), (b4, .inl (cI, 37, .inl (fun z9 => iI (be z9)))), (b5, .inl (cC, 60, .inl (fun z9 => iI (tx z9)))), (b6, .inl (cI, 8, .inl (fun z9 => iI (od z9)))), (b7, .inl (cI, 8, .inl (fun z9 => iI (pt z9)))), (b8, .inl (cI, 8, .inl (fun z9 => iI (tu z9)))), (b9, .inl (cI, 8, .inl (fun z9 => iI (fa z9)))), (b10, .inl (cI, 8, .inl (fun z9 => iI (th z9)))), (b11, .inl (cI, 8, .inl (fun z9 => iI (ss z9)))), (b12, .inl (cI, 1600, .inl (fun z9 => iI (mo z9))))] H := hP
            have hD : va_D A [(b0, .inr (6, [.ref b1, .ref b2, .ref b3, .ref b4, .int (iI (ns - (1 : Int))), .int (iI ia), .ref b5, .int (iI tl), .int (iI ta), .ref b6, .ref b7, .ref b8, .ref b9, .ref b10, .ref b11, .ref b12])), (b1, .inl (cI, 37, .inl (fun z9 => iI (w z9)))), (b2, .inl (cI, 148, .inl (fun z9 => iI ((shl pa i) z9)))), (b3, .inl (cI, 37, .inl (fun z9 => iI (ad z9)))), (b4, .inl (cI, 37, .inl (fun z9 => iI (be z9)))), (b5, .inl (cC, 60, .inl (fun z9 => iI (tx z9)))), (b6, .inl (cI, 8, .inl (fun z9 => iI (od z9)))), (b7, .inl (cI, 8, .inl (fun z9 => iI (pt z9)))), (b8, .inl (cI, 8, .inl (fun z9 => iI (tu z9)))), (b9, .inl (cI, 8, .inl (fun z9 => iI (fa z9)))), (b10, .inl (cI, 8, .inl (fun z9 => iI (th z9)))), (b11, .inl (cI, 8, .inl (fun z9 => iI (ss z9)))), (b12, .inl (cI, 1600, .inl (fun z9 => iI (mo z9))))] := hD
            refine zz_iconst hx hb dX6_record_47 ?_
            refine lv_istore_n (lv' := [(1, .int (iI (0 : Int))), (0, .ref b0)]) hx hb dX6_record_48 rfl hl (by decide) rfl (fun ls hl => ?_)
            have lp49 : ∀ (d49 : Nat), ∀ (j : Nat) (v2 : Int) (hj : j ≤ 37) (e2 : v2 = (j : Int)), 37 - j < d49 → ∀ (H : Heap) (locs : List Loc), va_P (dC, dI) vwCl [(b0, .inr (6, [.ref b1, .ref b2, .ref b3, .ref b4, .int (iI (ns - (1 : Int))), .int (iI ia), .ref b5, .int (iI tl), .int (iI ta), .ref b6, .ref b7, .ref b8, .ref b9, .ref b10, .ref b11, .ref b12])), (b1, .inl (cI, 37, .inl (fun z9 => iI (w z9)))), (b2, .inl (cI, 148, .inl (fun z9 => iI ((cpo (shl pa 111) be 111 j) z9)))), (b3, .inl (cI, 37, .inl (fun z9 => iI (ad z9)))), (b4, .inl (cI, 37, .inl (fun z9 => iI (be z9)))), (b5, .inl (cC, 60, .inl (fun z9 => iI (tx z9)))), (b6, .inl (cI, 8, .inl (fun z9 => iI (od z9)))), (b7, .inl (cI, 8, .inl (fun z9 => iI (pt z9)))), (b8, .inl (cI, 8, .inl (fun z9 => iI (tu z9)))), (b9, .inl (cI, 8, .inl (fun z9 => iI (fa z9)))), (b10, .inl (cI, 8, .inl (fun z9 => iI (th z9)))), (b11, .inl (cI, 8, .inl (fun z9 => iI (ss z9)))), (b12, .inl (cI, 1600, .inl (fun z9 => iI (mo z9))))] H → va_D A [(b0, .inr (6, [.ref b1, .ref b2, .ref b3, .ref b4, .int (iI (ns - (1 : Int))), .int (iI ia), .ref b5, .int (iI tl), .int (iI ta), .ref b6, .ref b7, .ref b8, .ref b9, .ref b10, .ref b11, .ref b12])), (b1, .inl (cI, 37, .inl (fun z9 => iI (w z9)))), (b2, .inl (cI, 148, .inl (fun z9 => iI ((cpo (shl pa 111) be 111 j) z9)))), (b3, .inl (cI, 37, .inl (fun z9 => iI (ad z9)))), (b4, .inl (cI, 37, .inl (fun z9 => iI (be z9)))), (b5, .inl (cC, 60, .inl (fun z9 => iI (tx z9)))), (b6, .inl (cI, 8, .inl (fun z9 => iI (od z9)))), (b7, .inl (cI, 8, .inl (fun z9 => iI (pt z9)))), (b8, .inl (cI, 8, .inl (fun z9 => iI (tu z9)))), (b9, .inl (cI, 8, .inl (fun z9 => iI (fa z9)))), (b10, .inl (cI, 8, .inl (fun z9 => iI (th z9)))), (b11, .inl (cI, 8, .inl (fun z9 => iI (ss z9)))), (b12, .inl (cI, 1600, .inl (fun z9 => iI (mo z9))))] → va_S A s.heap H locs → ∀ ls : Array Slot, lv_has ls 2 [(0, .ref b0), (1, .int (iI v2))] → W p l e ({ frames := 0, cells := 0, slots := 0, locals := 0 } : Room) s m args below meth c H locs 0 0 (MQ below (wr_Qv (fun (u : Unit) => True) (fun u t => va_P (dC, dI) vwCl (wM cI cC b0 b1 b2 b3 b4 b5 b6 b7 b8 b9 b10 b11 b12 w (rcM pa be ns) ad be (rnM ns) ia tx tl ta od pt tu fa th ss mo) t.heap) A) args s 0 0 A) (F0 m 49 ls []) := by
              intro d49
              induction d49 with
              | zero =>
                intro j v2 hj e2 hd49
                exact absurd hd49 (Nat.not_lt_zero _)
              | succ d49 ih49 =>
                intro j v2 hj e2 hd49 H locs hP hD hS ls hl
                refine lv_iload_n hx hb dX6_record_49 rfl (lv_at hl 1 rfl) ?_
                refine zz_bipush hx hb dX6_record_50 (by decide +kernel) ?_
                refine zz_icmp_ge (tgt := 81) hx hb dX6_record_52 (by decide) (by omega) (by omega) (fun c_52 => ?_) (fun c_52 => ?_)
                · skip
                  refine lv_aload_n hx hb dX6_record_81 rfl (lv_at hl 0 rfl) ?_
                  refine lv_dup hx hb dX6_record_82 rfl ?_
                  refine va_get (D := (dC, dI)) (ci := 6) (v := .int (iI (ns - (1 : Int)))) (C := RX6) (T := TX6) (N := 16) hx hb hts hw6 hown hK hP 0 rfl rfl 4 (by decide) hf47 (fun _ h9 => h9) rfl dX6_record_83 ?_
                  refine zz_iconst hx hb dX6_record_86 ?_
                  refine zz_iadd hx hb dX6_record_87 ?_
                  refine va_put (D := (dC, dI)) (ci := 6) (v := .int (iI ((ns - (1 : Int)) + (1 : Int)))) (ty := .int) (C := RX6) (T := TX6) (N := 16) hx hb hts hw6 tyX6 tyX6_ok nmX6 hown hK hP hD hS 0 rfl rfl 4 (by decide) hf47 (fun _ h9 => h9) rfl (by decide +kernel) rfl rfl (Nat.le_of_ble_eq_true rfl) dX6_record_88 (fun H locs hP hD hS => ?_)
                  have hP : va_P (dC, dI) vwCl [(b0, .inr (6, [.ref b1, .ref b2, .ref b3, .ref b4, .int (iI ((ns - (1 : Int)) + (1 : Int))), .int (iI ia), .ref b5, .int (iI tl), .int (iI ta), .ref b6, .ref b7, .ref b8, .ref b9, .ref b10, .ref b11, .ref b12])), (b1, .inl (cI, 37, .inl (fun z9 => iI (w z9)))), (b2, .inl (cI, 148, .inl (fun z9 => iI ((cpo (shl pa 111) be 111 j) z9)))), (b3, .inl (cI, 37, .inl (fun z9 => iI (ad z9)))), (b4, .inl (cI, 37, .inl (fun z9 => iI (be z9)))), (b5, .inl (cC, 60, .inl (fun z9 => iI (tx z9)))), (b6, .inl (cI, 8, .inl (fun z9 => iI (od z9)))), (b7, .inl (cI, 8, .inl (fun z9 => iI (pt z9)))), (b8, .inl (cI, 8, .inl (fun z9 => iI (tu z9)))), (b9, .inl (cI, 8, .inl (fun z9 => iI (fa z9)))), (b10, .inl (cI, 8, .inl (fun z9 => iI (th z9)))), (b11, .inl (cI, 8, .inl (fun z9 => iI (ss z9)))), (b12, .inl (cI, 1600, .inl (fun z9 => iI (mo z9))))] H := hP
                  have hD : va_D A [(b0, .inr (6, [.ref b1, .ref b2, .ref b3, .ref b4, .int (iI ((ns - (1 : Int)) + (1 : Int))), .int (iI ia), .ref b5, .int (iI tl), .int (iI ta), .ref b6, .ref b7, .ref b8, .ref b9, .ref b10, .ref b11, .ref b12])), (b1, .inl (cI, 37, .inl (fun z9 => iI (w z9)))), (b2, .inl (cI, 148, .inl (fun z9 => iI ((cpo (shl pa 111) be 111 j) z9)))), (b3, .inl (cI, 37, .inl (fun z9 => iI (ad z9)))), (b4, .inl (cI, 37, .inl (fun z9 => iI (be z9)))), (b5, .inl (cC, 60, .inl (fun z9 => iI (tx z9)))), (b6, .inl (cI, 8, .inl (fun z9 => iI (od z9)))), (b7, .inl (cI, 8, .inl (fun z9 => iI (pt z9)))), (b8, .inl (cI, 8, .inl (fun z9 => iI (tu z9)))), (b9, .inl (cI, 8, .inl (fun z9 => iI (fa z9)))), (b10, .inl (cI, 8, .inl (fun z9 => iI (th z9)))), (b11, .inl (cI, 8, .inl (fun z9 => iI (ss z9)))), (b12, .inl (cI, 1600, .inl (fun z9 => iI (mo z9))))] := hD
                  exact W.vret hx hb hr (fun t9 ht9 hW9 => ⟨⟨(), rfl, trivial, by show va_P _ _ _ t9.heap; rw [ht9]; exact (by rw [show j = 37 by omega] at hP; (have e9 : rcM pa be ns = cpo (shl pa 111) be 111 37 := (by simp only [rcM]; rw [if_pos hn4])); (have e8 : rnM ns = ns - 1 + 1 := (by simp only [rnM]; rw [if_pos hn4]; omega)); rw [e9, e8]; exact hP)⟩, hS.F ht9⟩) hS.2.2 dX6_record_91
                · skip
                  refine lv_aload_n hx hb dX6_record_55 rfl (lv_at hl 0 rfl) ?_
                  refine va_get (D := (dC, dI)) (ci := 6) (v := .ref b2) (C := RX6) (T := TX6) (N := 16) hx hb hts hw6 hown hK hP 0 rfl rfl 1 (by decide) hf13 (fun _ h9 => h9) rfl dX6_record_56 ?_
                  refine zz_bipush hx hb dX6_record_59 (by decide +kernel) ?_
                  refine lv_aload_n hx hb dX6_record_61 rfl (lv_at hl 0 rfl) ?_
                  refine va_get (D := (dC, dI)) (ci := 6) (v := .int (iI (ns - (1 : Int)))) (C := RX6) (T := TX6) (N := 16) hx hb hts hw6 hown hK hP 0 rfl rfl 4 (by decide) hf47 (fun _ h9 => h9) rfl dX6_record_62 ?_
                  refine zz_imul hx hb dX6_record_65 ?_
                  refine lv_iload_n hx hb dX6_record_66 rfl (lv_at hl 1 rfl) ?_
                  refine zz_iadd hx hb dX6_record_67 ?_
                  refine lv_aload_n hx hb dX6_record_68 rfl (lv_at hl 0 rfl) ?_
                  refine va_get (D := (dC, dI)) (ci := 6) (v := .ref b4) (C := RX6) (T := TX6) (N := 16) hx hb hts hw6 hown hK hP 0 rfl rfl 3 (by decide) hf19 (fun _ h9 => h9) rfl dX6_record_69 ?_
                  refine lv_iload_n hx hb dX6_record_72 rfl (lv_at hl 1 rfl) ?_
                  refine zz_iald hx hb hK hP 4 0 (f := be) rfl rfl (by decide) j (by omega) (by omega) dX6_record_73 ?_
                  refine zz_iast hx hb hK hP hD hS 2 0 (f := (cpo (shl pa 111) be 111 j)) (x := (be j)) rfl rfl (by decide) (111 + j) (by omega) (by omega) dX6_record_74 (fun H locs hP hD hS => ?_)
                  have hP : va_P (dC, dI) vwCl [(b0, .inr (6, [.ref b1, .ref b2, .ref b3, .ref b4, .int (iI (ns - (1 : Int))), .int (iI ia), .ref b5, .int (iI tl), .int (iI ta), .ref b6, .ref b7, .ref b8, .ref b9, .ref b10, .ref b11, .ref b12])), (b1, .inl (cI, 37, .inl (fun z9 => iI (w z9)))), (b2, .inl (cI, 148, .inl (fun z9 => iI ((up (cpo (shl pa 111) be 111 j) (111 + j) (be j)) z9)))), (b3, .inl (cI, 37, .inl (fun z9 => iI (ad z9)))), (b4, .inl (cI, 37, .inl (fun z9 => iI (be z9)))), (b5, .inl (cC, 60, .inl (fun z9 => iI (tx z9)))), (b6, .inl (cI, 8, .inl (fun z9 => iI (od z9)))), (b7, .inl (cI, 8, .inl (fun z9 => iI (pt z9)))), (b8, .inl (cI, 8, .inl (fun z9 => iI (tu z9)))), (b9, .inl (cI, 8, .inl (fun z9 => iI (fa z9)))), (b10, .inl (cI, 8, .inl (fun z9 => iI (th z9)))), (b11, .inl (cI, 8, .inl (fun z9 => iI (ss z9)))), (b12, .inl (cI, 1600, .inl (fun z9 => iI (mo z9))))] H := hP
                  have hD : va_D A [(b0, .inr (6, [.ref b1, .ref b2, .ref b3, .ref b4, .int (iI (ns - (1 : Int))), .int (iI ia), .ref b5, .int (iI tl), .int (iI ta), .ref b6, .ref b7, .ref b8, .ref b9, .ref b10, .ref b11, .ref b12])), (b1, .inl (cI, 37, .inl (fun z9 => iI (w z9)))), (b2, .inl (cI, 148, .inl (fun z9 => iI ((up (cpo (shl pa 111) be 111 j) (111 + j) (be j)) z9)))), (b3, .inl (cI, 37, .inl (fun z9 => iI (ad z9)))), (b4, .inl (cI, 37, .inl (fun z9 => iI (be z9)))), (b5, .inl (cC, 60, .inl (fun z9 => iI (tx z9)))), (b6, .inl (cI, 8, .inl (fun z9 => iI (od z9)))), (b7, .inl (cI, 8, .inl (fun z9 => iI (pt z9)))), (b8, .inl (cI, 8, .inl (fun z9 => iI (tu z9)))), (b9, .inl (cI, 8, .inl (fun z9 => iI (fa z9)))), (b10, .inl (cI, 8, .inl (fun z9 => iI (th z9)))), (b11, .inl (cI, 8, .inl (fun z9 => iI (ss z9)))), (b12, .inl (cI, 1600, .inl (fun z9 => iI (mo z9))))] := hD
                  refine zz_iinc (lv' := [(1, .int (iI (v2 + (1 : Int)))), (0, .ref b0)]) hx hb dX6_record_75 hl (k := 1) rfl (by decide) rfl (fun ls hl => ?_)
                  refine lv_goto (tgt := 49) hx hb dX6_record_78 (by decide) ?_
                  have hP : va_P (dC, dI) vwCl [(b0, .inr (6, [.ref b1, .ref b2, .ref b3, .ref b4, .int (iI (ns - (1 : Int))), .int (iI ia), .ref b5, .int (iI tl), .int (iI ta), .ref b6, .ref b7, .ref b8, .ref b9, .ref b10, .ref b11, .ref b12])), (b1, .inl (cI, 37, .inl (fun z9 => iI (w z9)))), (b2, .inl (cI, 148, .inl (fun z9 => iI ((cpo (shl pa 111) be 111 (j + 1)) z9)))), (b3, .inl (cI, 37, .inl (fun z9 => iI (ad z9)))), (b4, .inl (cI, 37, .inl (fun z9 => iI (be z9)))), (b5, .inl (cC, 60, .inl (fun z9 => iI (tx z9)))), (b6, .inl (cI, 8, .inl (fun z9 => iI (od z9)))), (b7, .inl (cI, 8, .inl (fun z9 => iI (pt z9)))), (b8, .inl (cI, 8, .inl (fun z9 => iI (tu z9)))), (b9, .inl (cI, 8, .inl (fun z9 => iI (fa z9)))), (b10, .inl (cI, 8, .inl (fun z9 => iI (th z9)))), (b11, .inl (cI, 8, .inl (fun z9 => iI (ss z9)))), (b12, .inl (cI, 1600, .inl (fun z9 => iI (mo z9))))] H := by simp only [cpo_s] at hP; exact hP
                  have hD : va_D A [(b0, .inr (6, [.ref b1, .ref b2, .ref b3, .ref b4, .int (iI (ns - (1 : Int))), .int (iI ia), .ref b5, .int (iI tl), .int (iI ta), .ref b6, .ref b7, .ref b8, .ref b9, .ref b10, .ref b11, .ref b12])), (b1, .inl (cI, 37, .inl (fun z9 => iI (w z9)))), (b2, .inl (cI, 148, .inl (fun z9 => iI ((cpo (shl pa 111) be 111 (j + 1)) z9)))), (b3, .inl (cI, 37, .inl (fun z9 => iI (ad z9)))), (b4, .inl (cI, 37, .inl (fun z9 => iI (be z9)))), (b5, .inl (cC, 60, .inl (fun z9 => iI (tx z9)))), (b6, .inl (cI, 8, .inl (fun z9 => iI (od z9)))), (b7, .inl (cI, 8, .inl (fun z9 => iI (pt z9)))), (b8, .inl (cI, 8, .inl (fun z9 => iI (tu z9)))), (b9, .inl (cI, 8, .inl (fun z9 => iI (fa z9)))), (b10, .inl (cI, 8, .inl (fun z9 => iI (th z9)))), (b11, .inl (cI, 8, .inl (fun z9 => iI (ss z9)))), (b12, .inl (cI, 1600, .inl (fun z9 => iI (mo z9))))] := by simp only [cpo_s] at hD; exact hD
                  exact ih49 (j + 1) (v2 + (1 : Int)) (by omega) (by omega) (by omega) H locs hP hD hS ls (lv_sub hl [1, 0] rfl)
            have hP : va_P (dC, dI) vwCl [(b0, .inr (6, [.ref b1, .ref b2, .ref b3, .ref b4, .int (iI (ns - (1 : Int))), .int (iI ia), .ref b5, .int (iI tl), .int (iI ta), .ref b6, .ref b7, .ref b8, .ref b9, .ref b10, .ref b11, .ref b12])), (b1, .inl (cI, 37, .inl (fun z9 => iI (w z9)))), (b2, .inl (cI, 148, .inl (fun z9 => iI ((cpo (shl pa 111) be 111 0) z9)))), (b3, .inl (cI, 37, .inl (fun z9 => iI (ad z9)))), (b4, .inl (cI, 37, .inl (fun z9 => iI (be z9)))), (b5, .inl (cC, 60, .inl (fun z9 => iI (tx z9)))), (b6, .inl (cI, 8, .inl (fun z9 => iI (od z9)))), (b7, .inl (cI, 8, .inl (fun z9 => iI (pt z9)))), (b8, .inl (cI, 8, .inl (fun z9 => iI (tu z9)))), (b9, .inl (cI, 8, .inl (fun z9 => iI (fa z9)))), (b10, .inl (cI, 8, .inl (fun z9 => iI (th z9)))), (b11, .inl (cI, 8, .inl (fun z9 => iI (ss z9)))), (b12, .inl (cI, 1600, .inl (fun z9 => iI (mo z9))))] H := by first | (simp only [cpo_0]; exact hP) | ((have h9 : i = 111 := (by omega)); rw [h9] at hP; simp only [cpo_0]; exact hP)
            have hD : va_D A [(b0, .inr (6, [.ref b1, .ref b2, .ref b3, .ref b4, .int (iI (ns - (1 : Int))), .int (iI ia), .ref b5, .int (iI tl), .int (iI ta), .ref b6, .ref b7, .ref b8, .ref b9, .ref b10, .ref b11, .ref b12])), (b1, .inl (cI, 37, .inl (fun z9 => iI (w z9)))), (b2, .inl (cI, 148, .inl (fun z9 => iI ((cpo (shl pa 111) be 111 0) z9)))), (b3, .inl (cI, 37, .inl (fun z9 => iI (ad z9)))), (b4, .inl (cI, 37, .inl (fun z9 => iI (be z9)))), (b5, .inl (cC, 60, .inl (fun z9 => iI (tx z9)))), (b6, .inl (cI, 8, .inl (fun z9 => iI (od z9)))), (b7, .inl (cI, 8, .inl (fun z9 => iI (pt z9)))), (b8, .inl (cI, 8, .inl (fun z9 => iI (tu z9)))), (b9, .inl (cI, 8, .inl (fun z9 => iI (fa z9)))), (b10, .inl (cI, 8, .inl (fun z9 => iI (th z9)))), (b11, .inl (cI, 8, .inl (fun z9 => iI (ss z9)))), (b12, .inl (cI, 1600, .inl (fun z9 => iI (mo z9))))] := by first | (simp only [cpo_0]; exact hD) | ((have h9 : i = 111 := (by omega)); rw [h9] at hD; simp only [cpo_0]; exact hD)
            exact lp49 _ 0 (0 : Int) (by omega) (by omega) (Nat.lt_succ_self _) H locs hP hD hS ls (lv_sub hl [1, 0] rfl)
          · skip
            refine lv_aload_n hx hb dX6_record_16 rfl (lv_at hl 0 rfl) ?_
            refine va_get (D := (dC, dI)) (ci := 6) (v := .ref b2) (C := RX6) (T := TX6) (N := 16) hx hb hts hw6 hown hK hP 0 rfl rfl 1 (by decide) hf13 (fun _ h9 => h9) rfl dX6_record_17 ?_
            refine lv_iload_n hx hb dX6_record_20 rfl (lv_at hl 1 rfl) ?_
            refine lv_aload_n hx hb dX6_record_21 rfl (lv_at hl 0 rfl) ?_
            refine va_get (D := (dC, dI)) (ci := 6) (v := .ref b2) (C := RX6) (T := TX6) (N := 16) hx hb hts hw6 hown hK hP 0 rfl rfl 1 (by decide) hf13 (fun _ h9 => h9) rfl dX6_record_22 ?_
            refine zz_bipush hx hb dX6_record_25 (by decide +kernel) ?_
            refine lv_iload_n hx hb dX6_record_27 rfl (lv_at hl 1 rfl) ?_
            refine zz_iadd hx hb dX6_record_28 ?_
            refine zz_ialdv hx hb hK hP 2 0 (f := (shl pa i)) rfl rfl (by decide) (37 + i) (by omega) (by omega) (v := (pa (37 + i))) (shl_at pa i) dX6_record_29 ?_
            refine zz_iast hx hb hK hP hD hS 2 0 (f := (shl pa i)) (x := (pa (37 + i))) rfl rfl (by decide) i (by omega) (by omega) dX6_record_30 (fun H locs hP hD hS => ?_)
            have hP : va_P (dC, dI) vwCl [(b0, .inr (6, [.ref b1, .ref b2, .ref b3, .ref b4, .int (iI ns), .int (iI ia), .ref b5, .int (iI tl), .int (iI ta), .ref b6, .ref b7, .ref b8, .ref b9, .ref b10, .ref b11, .ref b12])), (b1, .inl (cI, 37, .inl (fun z9 => iI (w z9)))), (b2, .inl (cI, 148, .inl (fun z9 => iI ((up (shl pa i) i (pa (37 + i))) z9)))), (b3, .inl (cI, 37, .inl (fun z9 => iI (ad z9)))), (b4, .inl (cI, 37, .inl (fun z9 => iI (be z9)))), (b5, .inl (cC, 60, .inl (fun z9 => iI (tx z9)))), (b6, .inl (cI, 8, .inl (fun z9 => iI (od z9)))), (b7, .inl (cI, 8, .inl (fun z9 => iI (pt z9)))), (b8, .inl (cI, 8, .inl (fun z9 => iI (tu z9)))), (b9, .inl (cI, 8, .inl (fun z9 => iI (fa z9)))), (b10, .inl (cI, 8, .inl (fun z9 => iI (th z9)))), (b11, .inl (cI, 8, .inl (fun z9 => iI (ss z9)))), (b12, .inl (cI, 1600, .inl (fun z9 => iI (mo z9))))] H := hP
            have hD : va_D A [(b0, .inr (6, [.ref b1, .ref b2, .ref b3, .ref b4, .int (iI ns), .int (iI ia), .ref b5, .int (iI tl), .int (iI ta), .ref b6, .ref b7, .ref b8, .ref b9, .ref b10, .ref b11, .ref b12])), (b1, .inl (cI, 37, .inl (fun z9 => iI (w z9)))), (b2, .inl (cI, 148, .inl (fun z9 => iI ((up (shl pa i) i (pa (37 + i))) z9)))), (b3, .inl (cI, 37, .inl (fun z9 => iI (ad z9)))), (b4, .inl (cI, 37, .inl (fun z9 => iI (be z9)))), (b5, .inl (cC, 60, .inl (fun z9 => iI (tx z9)))), (b6, .inl (cI, 8, .inl (fun z9 => iI (od z9)))), (b7, .inl (cI, 8, .inl (fun z9 => iI (pt z9)))), (b8, .inl (cI, 8, .inl (fun z9 => iI (tu z9)))), (b9, .inl (cI, 8, .inl (fun z9 => iI (fa z9)))), (b10, .inl (cI, 8, .inl (fun z9 => iI (th z9)))), (b11, .inl (cI, 8, .inl (fun z9 => iI (ss z9)))), (b12, .inl (cI, 1600, .inl (fun z9 => iI (mo z9))))] := hD
            refine zz_iinc (lv' := [(1, .int (iI (v1 + (1 : Int)))), (0, .ref b0)]) hx hb dX6_record_31 hl (k := 1) rfl (by decide) rfl (fun ls hl => ?_)
            refine lv_goto (tgt := 10) hx hb dX6_record_34 (by decide) ?_
            have hP : va_P (dC, dI) vwCl [(b0, .inr (6, [.ref b1, .ref b2, .ref b3, .ref b4, .int (iI ns), .int (iI ia), .ref b5, .int (iI tl), .int (iI ta), .ref b6, .ref b7, .ref b8, .ref b9, .ref b10, .ref b11, .ref b12])), (b1, .inl (cI, 37, .inl (fun z9 => iI (w z9)))), (b2, .inl (cI, 148, .inl (fun z9 => iI ((shl pa (i + 1)) z9)))), (b3, .inl (cI, 37, .inl (fun z9 => iI (ad z9)))), (b4, .inl (cI, 37, .inl (fun z9 => iI (be z9)))), (b5, .inl (cC, 60, .inl (fun z9 => iI (tx z9)))), (b6, .inl (cI, 8, .inl (fun z9 => iI (od z9)))), (b7, .inl (cI, 8, .inl (fun z9 => iI (pt z9)))), (b8, .inl (cI, 8, .inl (fun z9 => iI (tu z9)))), (b9, .inl (cI, 8, .inl (fun z9 => iI (fa z9)))), (b10, .inl (cI, 8, .inl (fun z9 => iI (th z9)))), (b11, .inl (cI, 8, .inl (fun z9 => iI (ss z9)))), (b12, .inl (cI, 1600, .inl (fun z9 => iI (mo z9))))] H := by simp only [shl_s] at hP; exact hP
            have hD : va_D A [(b0, .inr (6, [.ref b1, .ref b2, .ref b3, .ref b4, .int (iI ns), .int (iI ia), .ref b5, .int (iI tl), .int (iI ta), .ref b6, .ref b7, .ref b8, .ref b9, .ref b10, .ref b11, .ref b12])), (b1, .inl (cI, 37, .inl (fun z9 => iI (w z9)))), (b2, .inl (cI, 148, .inl (fun z9 => iI ((shl pa (i + 1)) z9)))), (b3, .inl (cI, 37, .inl (fun z9 => iI (ad z9)))), (b4, .inl (cI, 37, .inl (fun z9 => iI (be z9)))), (b5, .inl (cC, 60, .inl (fun z9 => iI (tx z9)))), (b6, .inl (cI, 8, .inl (fun z9 => iI (od z9)))), (b7, .inl (cI, 8, .inl (fun z9 => iI (pt z9)))), (b8, .inl (cI, 8, .inl (fun z9 => iI (tu z9)))), (b9, .inl (cI, 8, .inl (fun z9 => iI (fa z9)))), (b10, .inl (cI, 8, .inl (fun z9 => iI (th z9)))), (b11, .inl (cI, 8, .inl (fun z9 => iI (ss z9)))), (b12, .inl (cI, 1600, .inl (fun z9 => iI (mo z9))))] := by simp only [shl_s] at hD; exact hD
            exact ih10 (i + 1) (v1 + (1 : Int)) (by omega) (by omega) (by omega) H locs hP hD hS ls (lv_sub hl [1, 0] rfl)
      have hP : va_P (dC, dI) vwCl [(b0, .inr (6, [.ref b1, .ref b2, .ref b3, .ref b4, .int (iI ns), .int (iI ia), .ref b5, .int (iI tl), .int (iI ta), .ref b6, .ref b7, .ref b8, .ref b9, .ref b10, .ref b11, .ref b12])), (b1, .inl (cI, 37, .inl (fun z9 => iI (w z9)))), (b2, .inl (cI, 148, .inl (fun z9 => iI ((shl pa 0) z9)))), (b3, .inl (cI, 37, .inl (fun z9 => iI (ad z9)))), (b4, .inl (cI, 37, .inl (fun z9 => iI (be z9)))), (b5, .inl (cC, 60, .inl (fun z9 => iI (tx z9)))), (b6, .inl (cI, 8, .inl (fun z9 => iI (od z9)))), (b7, .inl (cI, 8, .inl (fun z9 => iI (pt z9)))), (b8, .inl (cI, 8, .inl (fun z9 => iI (tu z9)))), (b9, .inl (cI, 8, .inl (fun z9 => iI (fa z9)))), (b10, .inl (cI, 8, .inl (fun z9 => iI (th z9)))), (b11, .inl (cI, 8, .inl (fun z9 => iI (ss z9)))), (b12, .inl (cI, 1600, .inl (fun z9 => iI (mo z9))))] s.heap := by simp only [shl_0]; exact hP
      have hD : va_D A [(b0, .inr (6, [.ref b1, .ref b2, .ref b3, .ref b4, .int (iI ns), .int (iI ia), .ref b5, .int (iI tl), .int (iI ta), .ref b6, .ref b7, .ref b8, .ref b9, .ref b10, .ref b11, .ref b12])), (b1, .inl (cI, 37, .inl (fun z9 => iI (w z9)))), (b2, .inl (cI, 148, .inl (fun z9 => iI ((shl pa 0) z9)))), (b3, .inl (cI, 37, .inl (fun z9 => iI (ad z9)))), (b4, .inl (cI, 37, .inl (fun z9 => iI (be z9)))), (b5, .inl (cC, 60, .inl (fun z9 => iI (tx z9)))), (b6, .inl (cI, 8, .inl (fun z9 => iI (od z9)))), (b7, .inl (cI, 8, .inl (fun z9 => iI (pt z9)))), (b8, .inl (cI, 8, .inl (fun z9 => iI (tu z9)))), (b9, .inl (cI, 8, .inl (fun z9 => iI (fa z9)))), (b10, .inl (cI, 8, .inl (fun z9 => iI (th z9)))), (b11, .inl (cI, 8, .inl (fun z9 => iI (ss z9)))), (b12, .inl (cI, 1600, .inl (fun z9 => iI (mo z9))))] := by simp only [shl_0]; exact hD
      exact lp10 _ 0 (0 : Int) (by omega) (by omega) (Nat.lt_succ_self _) s.heap [] hP hD hS ls (lv_sub hl [1, 0] rfl)
  · skip
    refine lv_aload_n hx hb dX6_record_0 rfl (lv_at hl 0 rfl) ?_
    refine va_get (D := (dC, dI)) (ci := 6) (v := .int (iI ns)) (C := RX6) (T := TX6) (N := 16) hx hb hts hw6 hown hK hP 0 rfl rfl 4 (by decide) hf47 (fun _ h9 => h9) rfl dX6_record_1 ?_
    refine zz_iconst hx hb dX6_record_4 ?_
    refine zz_icmp_ne (tgt := 47) hx hb dX6_record_5 (by decide) (by omega) (by omega) (fun c_5 => ?_) (fun c_5 => ?_)
    · skip
      refine zz_iconst hx hb dX6_record_47 ?_
      refine lv_istore_n (lv' := [(1, .int (iI (0 : Int))), (0, .ref b0)]) hx hb dX6_record_48 rfl hl (by decide) rfl (fun ls hl => ?_)
      have lp49 : ∀ (d49 : Nat), ∀ (j : Nat) (v2 : Int) (hj : j ≤ 37) (e2 : v2 = (j : Int)), 37 - j < d49 → ∀ (H : Heap) (locs : List Loc), va_P (dC, dI) vwCl [(b0, .inr (6, [.ref b1, .ref b2, .ref b3, .ref b4, .int (iI ns), .int (iI ia), .ref b5, .int (iI tl), .int (iI ta), .ref b6, .ref b7, .ref b8, .ref b9, .ref b10, .ref b11, .ref b12])), (b1, .inl (cI, 37, .inl (fun z9 => iI (w z9)))), (b2, .inl (cI, 148, .inl (fun z9 => iI ((cpo pa be (37 * kn) j) z9)))), (b3, .inl (cI, 37, .inl (fun z9 => iI (ad z9)))), (b4, .inl (cI, 37, .inl (fun z9 => iI (be z9)))), (b5, .inl (cC, 60, .inl (fun z9 => iI (tx z9)))), (b6, .inl (cI, 8, .inl (fun z9 => iI (od z9)))), (b7, .inl (cI, 8, .inl (fun z9 => iI (pt z9)))), (b8, .inl (cI, 8, .inl (fun z9 => iI (tu z9)))), (b9, .inl (cI, 8, .inl (fun z9 => iI (fa z9)))), (b10, .inl (cI, 8, .inl (fun z9 => iI (th z9)))), (b11, .inl (cI, 8, .inl (fun z9 => iI (ss z9)))), (b12, .inl (cI, 1600, .inl (fun z9 => iI (mo z9))))] H → va_D A [(b0, .inr (6, [.ref b1, .ref b2, .ref b3, .ref b4, .int (iI ns), .int (iI ia), .ref b5, .int (iI tl), .int (iI ta), .ref b6, .ref b7, .ref b8, .ref b9, .ref b10, .ref b11, .ref b12])), (b1, .inl (cI, 37, .inl (fun z9 => iI (w z9)))), (b2, .inl (cI, 148, .inl (fun z9 => iI ((cpo pa be (37 * kn) j) z9)))), (b3, .inl (cI, 37, .inl (fun z9 => iI (ad z9)))), (b4, .inl (cI, 37, .inl (fun z9 => iI (be z9)))), (b5, .inl (cC, 60, .inl (fun z9 => iI (tx z9)))), (b6, .inl (cI, 8, .inl (fun z9 => iI (od z9)))), (b7, .inl (cI, 8, .inl (fun z9 => iI (pt z9)))), (b8, .inl (cI, 8, .inl (fun z9 => iI (tu z9)))), (b9, .inl (cI, 8, .inl (fun z9 => iI (fa z9)))), (b10, .inl (cI, 8, .inl (fun z9 => iI (th z9)))), (b11, .inl (cI, 8, .inl (fun z9 => iI (ss z9)))), (b12, .inl (cI, 1600, .inl (fun z9 => iI (mo z9))))] → va_S A s.heap H locs → ∀ ls : Array Slot, lv_has ls 2 [(0, .ref b0), (1, .int (iI v2))] → W p l e ({ frames := 0, cells := 0, slots := 0, locals := 0 } : Room) s m args below meth c H locs 0 0 (MQ below (wr_Qv (fun (u : Unit) => True) (fun u t => va_P (dC, dI) vwCl (wM cI cC b0 b1 b2 b3 b4 b5 b6 b7 b8 b9 b10 b11 b12 w (rcM pa be ns) ad be (rnM ns) ia tx tl ta od pt tu fa th ss mo) t.heap) A) args s 0 0 A) (F0 m 49 ls []) := by
        intro d49
        induction d49 with
        | zero =>
          intro j v2 hj e2 hd49
          exact absurd hd49 (Nat.not_lt_zero _)
        | succ d49 ih49 =>
          intro j v2 hj e2 hd49 H locs hP hD hS ls hl
          refine lv_iload_n hx hb dX6_record_49 rfl (lv_at hl 1 rfl) ?_
          refine zz_bipush hx hb dX6_record_50 (by decide +kernel) ?_
          refine zz_icmp_ge (tgt := 81) hx hb dX6_record_52 (by decide) (by omega) (by omega) (fun c_52 => ?_) (fun c_52 => ?_)
          · skip
            refine lv_aload_n hx hb dX6_record_81 rfl (lv_at hl 0 rfl) ?_
            refine lv_dup hx hb dX6_record_82 rfl ?_
            refine va_get (D := (dC, dI)) (ci := 6) (v := .int (iI ns)) (C := RX6) (T := TX6) (N := 16) hx hb hts hw6 hown hK hP 0 rfl rfl 4 (by decide) hf47 (fun _ h9 => h9) rfl dX6_record_83 ?_
            refine zz_iconst hx hb dX6_record_86 ?_
            refine zz_iadd hx hb dX6_record_87 ?_
            refine va_put (D := (dC, dI)) (ci := 6) (v := .int (iI (ns + (1 : Int)))) (ty := .int) (C := RX6) (T := TX6) (N := 16) hx hb hts hw6 tyX6 tyX6_ok nmX6 hown hK hP hD hS 0 rfl rfl 4 (by decide) hf47 (fun _ h9 => h9) rfl (by decide +kernel) rfl rfl (Nat.le_of_ble_eq_true rfl) dX6_record_88 (fun H locs hP hD hS => ?_)
            have hP : va_P (dC, dI) vwCl [(b0, .inr (6, [.ref b1, .ref b2, .ref b3, .ref b4, .int (iI (ns + (1 : Int))), .int (iI ia), .ref b5, .int (iI tl), .int (iI ta), .ref b6, .ref b7, .ref b8, .ref b9, .ref b10, .ref b11, .ref b12])), (b1, .inl (cI, 37, .inl (fun z9 => iI (w z9)))), (b2, .inl (cI, 148, .inl (fun z9 => iI ((cpo pa be (37 * kn) j) z9)))), (b3, .inl (cI, 37, .inl (fun z9 => iI (ad z9)))), (b4, .inl (cI, 37, .inl (fun z9 => iI (be z9)))), (b5, .inl (cC, 60, .inl (fun z9 => iI (tx z9)))), (b6, .inl (cI, 8, .inl (fun z9 => iI (od z9)))), (b7, .inl (cI, 8, .inl (fun z9 => iI (pt z9)))), (b8, .inl (cI, 8, .inl (fun z9 => iI (tu z9)))), (b9, .inl (cI, 8, .inl (fun z9 => iI (fa z9)))), (b10, .inl (cI, 8, .inl (fun z9 => iI (th z9)))), (b11, .inl (cI, 8, .inl (fun z9 => iI (ss z9)))), (b12, .inl (cI, 1600, .inl (fun z9 => iI (mo z9))))] H := hP
            have hD : va_D A [(b0, .inr (6, [.ref b1, .ref b2, .ref b3, .ref b4, .int (iI (ns + (1 : Int))), .int (iI ia), .ref b5, .int (iI tl), .int (iI ta), .ref b6, .ref b7, .ref b8, .ref b9, .ref b10, .ref b11, .ref b12])), (b1, .inl (cI, 37, .inl (fun z9 => iI (w z9)))), (b2, .inl (cI, 148, .inl (fun z9 => iI ((cpo pa be (37 * kn) j) z9)))), (b3, .inl (cI, 37, .inl (fun z9 => iI (ad z9)))), (b4, .inl (cI, 37, .inl (fun z9 => iI (be z9)))), (b5, .inl (cC, 60, .inl (fun z9 => iI (tx z9)))), (b6, .inl (cI, 8, .inl (fun z9 => iI (od z9)))), (b7, .inl (cI, 8, .inl (fun z9 => iI (pt z9)))), (b8, .inl (cI, 8, .inl (fun z9 => iI (tu z9)))), (b9, .inl (cI, 8, .inl (fun z9 => iI (fa z9)))), (b10, .inl (cI, 8, .inl (fun z9 => iI (th z9)))), (b11, .inl (cI, 8, .inl (fun z9 => iI (ss z9)))), (b12, .inl (cI, 1600, .inl (fun z9 => iI (mo z9))))] := hD
            exact W.vret hx hb hr (fun t9 ht9 hW9 => ⟨⟨(), rfl, trivial, by show va_P _ _ _ t9.heap; rw [ht9]; exact (by rw [show j = 37 by omega] at hP; (have e9 : rcM pa be ns = cpo pa be (37 * kn) 37 := (by simp only [rcM]; rw [if_neg hn4, ekn]; rfl)); (have e8 : rnM ns = ns + 1 := (by simp only [rnM]; rw [if_neg hn4])); rw [e9, e8]; exact hP)⟩, hS.F ht9⟩) hS.2.2 dX6_record_91
          · skip
            refine lv_aload_n hx hb dX6_record_55 rfl (lv_at hl 0 rfl) ?_
            refine va_get (D := (dC, dI)) (ci := 6) (v := .ref b2) (C := RX6) (T := TX6) (N := 16) hx hb hts hw6 hown hK hP 0 rfl rfl 1 (by decide) hf13 (fun _ h9 => h9) rfl dX6_record_56 ?_
            refine zz_bipush hx hb dX6_record_59 (by decide +kernel) ?_
            refine lv_aload_n hx hb dX6_record_61 rfl (lv_at hl 0 rfl) ?_
            refine va_get (D := (dC, dI)) (ci := 6) (v := .int (iI ns)) (C := RX6) (T := TX6) (N := 16) hx hb hts hw6 hown hK hP 0 rfl rfl 4 (by decide) hf47 (fun _ h9 => h9) rfl dX6_record_62 ?_
            refine zz_imul hx hb dX6_record_65 ?_
            refine lv_iload_n hx hb dX6_record_66 rfl (lv_at hl 1 rfl) ?_
            refine zz_iadd hx hb dX6_record_67 ?_
            refine lv_aload_n hx hb dX6_record_68 rfl (lv_at hl 0 rfl) ?_
            refine va_get (D := (dC, dI)) (ci := 6) (v := .ref b4) (C := RX6) (T := TX6) (N := 16) hx hb hts hw6 hown hK hP 0 rfl rfl 3 (by decide) hf19 (fun _ h9 => h9) rfl dX6_record_69 ?_
            refine lv_iload_n hx hb dX6_record_72 rfl (lv_at hl 1 rfl) ?_
            refine zz_iald hx hb hK hP 4 0 (f := be) rfl rfl (by decide) j (by omega) (by omega) dX6_record_73 ?_
            refine zz_iast hx hb hK hP hD hS 2 0 (f := (cpo pa be (37 * kn) j)) (x := (be j)) rfl rfl (by decide) ((37 * kn) + j) (by omega) (by omega) dX6_record_74 (fun H locs hP hD hS => ?_)
            have hP : va_P (dC, dI) vwCl [(b0, .inr (6, [.ref b1, .ref b2, .ref b3, .ref b4, .int (iI ns), .int (iI ia), .ref b5, .int (iI tl), .int (iI ta), .ref b6, .ref b7, .ref b8, .ref b9, .ref b10, .ref b11, .ref b12])), (b1, .inl (cI, 37, .inl (fun z9 => iI (w z9)))), (b2, .inl (cI, 148, .inl (fun z9 => iI ((up (cpo pa be (37 * kn) j) ((37 * kn) + j) (be j)) z9)))), (b3, .inl (cI, 37, .inl (fun z9 => iI (ad z9)))), (b4, .inl (cI, 37, .inl (fun z9 => iI (be z9)))), (b5, .inl (cC, 60, .inl (fun z9 => iI (tx z9)))), (b6, .inl (cI, 8, .inl (fun z9 => iI (od z9)))), (b7, .inl (cI, 8, .inl (fun z9 => iI (pt z9)))), (b8, .inl (cI, 8, .inl (fun z9 => iI (tu z9)))), (b9, .inl (cI, 8, .inl (fun z9 => iI (fa z9)))), (b10, .inl (cI, 8, .inl (fun z9 => iI (th z9)))), (b11, .inl (cI, 8, .inl (fun z9 => iI (ss z9)))), (b12, .inl (cI, 1600, .inl (fun z9 => iI (mo z9))))] H := hP
            have hD : va_D A [(b0, .inr (6, [.ref b1, .ref b2, .ref b3, .ref b4, .int (iI ns), .int (iI ia), .ref b5, .int (iI tl), .int (iI ta), .ref b6, .ref b7, .ref b8, .ref b9, .ref b10, .ref b11, .ref b12])), (b1, .inl (cI, 37, .inl (fun z9 => iI (w z9)))), (b2, .inl (cI, 148, .inl (fun z9 => iI ((up (cpo pa be (37 * kn) j) ((37 * kn) + j) (be j)) z9)))), (b3, .inl (cI, 37, .inl (fun z9 => iI (ad z9)))), (b4, .inl (cI, 37, .inl (fun z9 => iI (be z9)))), (b5, .inl (cC, 60, .inl (fun z9 => iI (tx z9)))), (b6, .inl (cI, 8, .inl (fun z9 => iI (od z9)))), (b7, .inl (cI, 8, .inl (fun z9 => iI (pt z9)))), (b8, .inl (cI, 8, .inl (fun z9 => iI (tu z9)))), (b9, .inl (cI, 8, .inl (fun z9 => iI (fa z9)))), (b10, .inl (cI, 8, .inl (fun z9 => iI (th z9)))), (b11, .inl (cI, 8, .inl (fun z9 => iI (ss z9)))), (b12, .inl (cI, 1600, .inl (fun z9 => iI (mo z9))))] := hD
            refine zz_iinc (lv' := [(1, .int (iI (v2 + (1 : Int)))), (0, .ref b0)]) hx hb dX6_record_75 hl (k := 1) rfl (by decide) rfl (fun ls hl => ?_)
            refine lv_goto (tgt := 49) hx hb dX6_record_78 (by decide) ?_
            have hP : va_P (dC, dI) vwCl [(b0, .inr (6, [.ref b1, .ref b2, .ref b3, .ref b4, .int (iI ns), .int (iI ia), .ref b5, .int (iI tl), .int (iI ta), .ref b6, .ref b7, .ref b8, .ref b9, .ref b10, .ref b11, .ref b12])), (b1, .inl (cI, 37, .inl (fun z9 => iI (w z9)))), (b2, .inl (cI, 148, .inl (fun z9 => iI ((cpo pa be (37 * kn) (j + 1)) z9)))), (b3, .inl (cI, 37, .inl (fun z9 => iI (ad z9)))), (b4, .inl (cI, 37, .inl (fun z9 => iI (be z9)))), (b5, .inl (cC, 60, .inl (fun z9 => iI (tx z9)))), (b6, .inl (cI, 8, .inl (fun z9 => iI (od z9)))), (b7, .inl (cI, 8, .inl (fun z9 => iI (pt z9)))), (b8, .inl (cI, 8, .inl (fun z9 => iI (tu z9)))), (b9, .inl (cI, 8, .inl (fun z9 => iI (fa z9)))), (b10, .inl (cI, 8, .inl (fun z9 => iI (th z9)))), (b11, .inl (cI, 8, .inl (fun z9 => iI (ss z9)))), (b12, .inl (cI, 1600, .inl (fun z9 => iI (mo z9))))] H := by simp only [cpo_s] at hP; exact hP
            have hD : va_D A [(b0, .inr (6, [.ref b1, .ref b2, .ref b3, .ref b4, .int (iI ns), .int (iI ia), .ref b5, .int (iI tl), .int (iI ta), .ref b6, .ref b7, .ref b8, .ref b9, .ref b10, .ref b11, .ref b12])), (b1, .inl (cI, 37, .inl (fun z9 => iI (w z9)))), (b2, .inl (cI, 148, .inl (fun z9 => iI ((cpo pa be (37 * kn) (j + 1)) z9)))), (b3, .inl (cI, 37, .inl (fun z9 => iI (ad z9)))), (b4, .inl (cI, 37, .inl (fun z9 => iI (be z9)))), (b5, .inl (cC, 60, .inl (fun z9 => iI (tx z9)))), (b6, .inl (cI, 8, .inl (fun z9 => iI (od z9)))), (b7, .inl (cI, 8, .inl (fun z9 => iI (pt z9)))), (b8, .inl (cI, 8, .inl (fun z9 => iI (tu z9)))), (b9, .inl (cI, 8, .inl (fun z9 => iI (fa z9)))), (b10, .inl (cI, 8, .inl (fun z9 => iI (th z9)))), (b11, .inl (cI, 8, .inl (fun z9 => iI (ss z9)))), (b12, .inl (cI, 1600, .inl (fun z9 => iI (mo z9))))] := by simp only [cpo_s] at hD; exact hD
            exact ih49 (j + 1) (v2 + (1 : Int)) (by omega) (by omega) (by omega) H locs hP hD hS ls (lv_sub hl [1, 0] rfl)
      have hP : va_P (dC, dI) vwCl [(b0, .inr (6, [.ref b1, .ref b2, .ref b3, .ref b4, .int (iI ns), .int (iI ia), .ref b5, .int (iI tl), .int (iI ta), .ref b6, .ref b7, .ref b8, .ref b9, .ref b10, .ref b11, .ref b12])), (b1, .inl (cI, 37, .inl (fun z9 => iI (w z9)))), (b2, .inl (cI, 148, .inl (fun z9 => iI ((cpo pa be (37 * kn) 0) z9)))), (b3, .inl (cI, 37, .inl (fun z9 => iI (ad z9)))), (b4, .inl (cI, 37, .inl (fun z9 => iI (be z9)))), (b5, .inl (cC, 60, .inl (fun z9 => iI (tx z9)))), (b6, .inl (cI, 8, .inl (fun z9 => iI (od z9)))), (b7, .inl (cI, 8, .inl (fun z9 => iI (pt z9)))), (b8, .inl (cI, 8, .inl (fun z9 => iI (tu z9)))), (b9, .inl (cI, 8, .inl (fun z9 => iI (fa z9)))), (b10, .inl (cI, 8, .inl (fun z9 => iI (th z9)))), (b11, .inl (cI, 8, .inl (fun z9 => iI (ss z9)))), (b12, .inl (cI, 1600, .inl (fun z9 => iI (mo z9))))] s.heap := by first | (simp only [cpo_0]; exact hP) | ((have h9 : i = 111 := (by omega)); rw [h9] at hP; simp only [cpo_0]; exact hP)
      have hD : va_D A [(b0, .inr (6, [.ref b1, .ref b2, .ref b3, .ref b4, .int (iI ns), .int (iI ia), .ref b5, .int (iI tl), .int (iI ta), .ref b6, .ref b7, .ref b8, .ref b9, .ref b10, .ref b11, .ref b12])), (b1, .inl (cI, 37, .inl (fun z9 => iI (w z9)))), (b2, .inl (cI, 148, .inl (fun z9 => iI ((cpo pa be (37 * kn) 0) z9)))), (b3, .inl (cI, 37, .inl (fun z9 => iI (ad z9)))), (b4, .inl (cI, 37, .inl (fun z9 => iI (be z9)))), (b5, .inl (cC, 60, .inl (fun z9 => iI (tx z9)))), (b6, .inl (cI, 8, .inl (fun z9 => iI (od z9)))), (b7, .inl (cI, 8, .inl (fun z9 => iI (pt z9)))), (b8, .inl (cI, 8, .inl (fun z9 => iI (tu z9)))), (b9, .inl (cI, 8, .inl (fun z9 => iI (fa z9)))), (b10, .inl (cI, 8, .inl (fun z9 => iI (th z9)))), (b11, .inl (cI, 8, .inl (fun z9 => iI (ss z9)))), (b12, .inl (cI, 1600, .inl (fun z9 => iI (mo z9))))] := by first | (simp only [cpo_0]; exact hD) | ((have h9 : i = 111 := (by omega)); rw [h9] at hD; simp only [cpo_0]; exact hD)
      exact lp49 _ 0 (0 : Int) (by omega) (by omega) (Nat.lt_succ_self _) s.heap [] hP hD hS ls (lv_sub hl [1, 0] rfl)
    · skip
      exact absurd c_5 hn4
set_option maxHeartbeats 4000000 in
set_option maxRecDepth 100000 in
theorem c_X6_begin (l : Launch) (dC : Nat → ClassId) (dI : Nat → Nat → Nat) (cI cJ cC cO : ClassId) (b0 b1 b2 b3 b4 b5 b6 b7 b8 b9 b10 b11 b12 : Nat) (w pa ad be : Nat → Int) (ns ia : Int) (tx : Nat → Int) (tl ta : Int) (od pt tu fa th ss mo : Nat → Int) (hns : 0 ≤ ns ∧ ns ≤ 4) : Met l yX6_begin wsX6_begin ({ frames := 1, cells := 0, slots := 0, locals := 21 } : Room) (va_Pc [.ref b0] (wr_B (dC, dI) vwCl (tyG cI cJ cC cO) (wM cI cC b0 b1 b2 b3 b4 b5 b6 b7 b8 b9 b10 b11 b12 w pa ad be ns ia tx tl ta od pt tu fa th ss mo))) (wr_Qv (fun (u : Unit) => True) (fun u t => va_P (dC, dI) vwCl (wM cI cC b0 b1 b2 b3 b4 b5 b6 b7 b8 b9 b10 b11 b12 w (rcM pa w ns) ad (cpi be w 37) (rnM ns) ia tx tl ta od pt tu fa th ss mo) t.heap) (wr_A (wM cI cC b0 b1 b2 b3 b4 b5 b6 b7 b8 b9 b10 b11 b12 w pa ad be ns ia tx tl ta od pt tu fa th ss mo))) 0 0 (wr_A (wM cI cC b0 b1 b2 b3 b4 b5 b6 b7 b8 b9 b10 b11 b12 w pa ad be ns ia tx tl ta od pt tu fa th ss mo)) := by
  refine Met.ofW (cc := cX6_begin) (maxL := 1) (ret := none) (by decide) rfl ?_
  intro p e s m args below meth c s₁ B hml hv
  obtain ⟨hav, hP, hK, hD0⟩ := hv
  have hx := B.exec
  have hb := B.bytes
  have hr := B.returns
  have hts := atoms_spec (ws := wsX6_begin) B.pre
  have hown : s.vm.findClass RX6 = some m.cls := findClass_of_methodNamed B.named
  have hlocks := B.notSynchronized
  have hD := va_D.slf hD0
  have hS : va_S (wr_A (wM cI cC b0 b1 b2 b3 b4 b5 b6 b7 b8 b9 b10 b11 b12 w pa ad be ns ia tx tl ta od pt tu fa th ss mo)) s.heap s.heap [] := va_S.rf
  show W p l e ({ frames := 1, cells := 0, slots := 0, locals := 21 } : Room) s m args below meth c s.heap [] 0 0 (MQ below (wr_Qv (fun (u : Unit) => True) (fun u t => va_P (dC, dI) vwCl (wM cI cC b0 b1 b2 b3 b4 b5 b6 b7 b8 b9 b10 b11 b12 w (rcM pa w ns) ad (cpi be w 37) (rnM ns) ia tx tl ta od pt tu fa th ss mo) t.heap) (wr_A (wM cI cC b0 b1 b2 b3 b4 b5 b6 b7 b8 b9 b10 b11 b12 w pa ad be ns ia tx tl ta od pt tu fa th ss mo))) args s 0 0 (wr_A (wM cI cC b0 b1 b2 b3 b4 b5 b6 b7 b8 b9 b10 b11 b12 w pa ad be ns ia tx tl ta od pt tu fa th ss mo))) (entryFrame m args 1)
  generalize hAe : wr_A (wM cI cC b0 b1 b2 b3 b4 b5 b6 b7 b8 b9 b10 b11 b12 w pa ad be ns ia tx tl ta od pt tu fa th ss mo) = A at hD hS ⊢
  have hP : va_P (dC, dI) vwCl [(b0, .inr (6, [.ref b1, .ref b2, .ref b3, .ref b4, .int (iI ns), .int (iI ia), .ref b5, .int (iI tl), .int (iI ta), .ref b6, .ref b7, .ref b8, .ref b9, .ref b10, .ref b11, .ref b12])), (b1, .inl (cI, 37, .inl (fun z9 => iI (w z9)))), (b2, .inl (cI, 148, .inl (fun z9 => iI (pa z9)))), (b3, .inl (cI, 37, .inl (fun z9 => iI (ad z9)))), (b4, .inl (cI, 37, .inl (fun z9 => iI (be z9)))), (b5, .inl (cC, 60, .inl (fun z9 => iI (tx z9)))), (b6, .inl (cI, 8, .inl (fun z9 => iI (od z9)))), (b7, .inl (cI, 8, .inl (fun z9 => iI (pt z9)))), (b8, .inl (cI, 8, .inl (fun z9 => iI (tu z9)))), (b9, .inl (cI, 8, .inl (fun z9 => iI (fa z9)))), (b10, .inl (cI, 8, .inl (fun z9 => iI (th z9)))), (b11, .inl (cI, 8, .inl (fun z9 => iI (ss z9)))), (b12, .inl (cI, 1600, .inl (fun z9 => iI (mo z9))))] s.heap := hP
  have hD : va_D A [(b0, .inr (6, [.ref b1, .ref b2, .ref b3, .ref b4, .int (iI ns), .int (iI ia), .ref b5, .int (iI tl), .int (iI ta), .ref b6, .ref b7, .ref b8, .ref b9, .ref b10, .ref b11, .ref b12])), (b1, .inl (cI, 37, .inl (fun z9 => iI (w z9)))), (b2, .inl (cI, 148, .inl (fun z9 => iI (pa z9)))), (b3, .inl (cI, 37, .inl (fun z9 => iI (ad z9)))), (b4, .inl (cI, 37, .inl (fun z9 => iI (be z9)))), (b5, .inl (cC, 60, .inl (fun z9 => iI (tx z9)))), (b6, .inl (cI, 8, .inl (fun z9 => iI (od z9)))), (b7, .inl (cI, 8, .inl (fun z9 => iI (pt z9)))), (b8, .inl (cI, 8, .inl (fun z9 => iI (tu z9)))), (b9, .inl (cI, 8, .inl (fun z9 => iI (fa z9)))), (b10, .inl (cI, 8, .inl (fun z9 => iI (th z9)))), (b11, .inl (cI, 8, .inl (fun z9 => iI (ss z9)))), (b12, .inl (cI, 1600, .inl (fun z9 => iI (mo z9))))] := hD
  have hl := lv_entry ([.ref b0]) (n := 1) (Nat.le_of_ble_eq_true rfl)
  have hent : entryFrame m args 1 = F0 m 0 ((lg_sl ([.ref b0]) ++ List.replicate (1 - (lg_sl ([.ref b0])).length) Slot.unset).toArray) [] := by rw [hav]; exact lg_entry_eq ..
  rw [hent]
  generalize (lg_sl ([.ref b0]) ++ List.replicate (1 - (lg_sl ([.ref b0])).length) Slot.unset).toArray = ls at hl ⊢
  have hl : lv_has ls 1 [(0, .ref b0)] := hl
  refine lv_aload_n hx hb dX6_begin_0 rfl (lv_at hl 0 rfl) ?_
  refine wr_Vv (As := []) (rest := []) ⟨hx, hb, hml, hown, hts⟩ (c_X6_remember l dC dI cI cJ cC cO b0 b1 b2 b3 b4 b5 b6 b7 b8 b9 b10 b11 b12 w pa ad be ns ia tx tl ta od pt tu fa th ss mo) (cwV 0 hts gX6_begin_X6_remember rfl rfl rfl (by decide +kernel) ⟨Nat.le_of_ble_eq_true rfl, Nat.le_of_ble_eq_true rfl⟩) hK hP hD hS [0, 1, 2, 3, 4, 5, 6, 7, 8, 9, 10, 11, 12] rfl (by decide) 6 0 rfl rfl (fun u_1 => [(b0, .inr (6, [.ref b1, .ref b2, .ref b3, .ref b4, .int (iI ns), .int (iI ia), .ref b5, .int (iI tl), .int (iI ta), .ref b6, .ref b7, .ref b8, .ref b9, .ref b10, .ref b11, .ref b12])), (b1, .inl (cI, 37, .inl (fun z9 => iI (w z9)))), (b2, .inl (cI, 148, .inl (fun z9 => iI (pa z9)))), (b3, .inl (cI, 37, .inl (fun z9 => iI (ad z9)))), (b4, .inl (cI, 37, .inl (fun z9 => iI ((cpi be w 37) z9)))), (b5, .inl (cC, 60, .inl (fun z9 => iI (tx z9)))), (b6, .inl (cI, 8, .inl (fun z9 => iI (od z9)))), (b7, .inl (cI, 8, .inl (fun z9 => iI (pt z9)))), (b8, .inl (cI, 8, .inl (fun z9 => iI (tu z9)))), (b9, .inl (cI, 8, .inl (fun z9 => iI (fa z9)))), (b10, .inl (cI, 8, .inl (fun z9 => iI (th z9)))), (b11, .inl (cI, 8, .inl (fun z9 => iI (ss z9)))), (b12, .inl (cI, 1600, .inl (fun z9 => iI (mo z9))))]) [.inr 0, .inr 1, .inr 2, .inr 3, .inr 4, .inr 5, .inr 6, .inr 7, .inr 8, .inr 9, .inr 10, .inr 11, .inr 12] (fun _ => rfl) (fun _ => rfl) rfl rfl hl.1 rfl (Nat.le_of_ble_eq_true rfl) dX6_begin_1 ⟨Nat.zero_le _, Nat.zero_le _⟩ (fun u_1 H locs hz_1 hP hD hS => ?_)
  have hP : va_P (dC, dI) vwCl [(b0, .inr (6, [.ref b1, .ref b2, .ref b3, .ref b4, .int (iI ns), .int (iI ia), .ref b5, .int (iI tl), .int (iI ta), .ref b6, .ref b7, .ref b8, .ref b9, .ref b10, .ref b11, .ref b12])), (b1, .inl (cI, 37, .inl (fun z9 => iI (w z9)))), (b2, .inl (cI, 148, .inl (fun z9 => iI (pa z9)))), (b3, .inl (cI, 37, .inl (fun z9 => iI (ad z9)))), (b4, .inl (cI, 37, .inl (fun z9 => iI ((cpi be w 37) z9)))), (b5, .inl (cC, 60, .inl (fun z9 => iI (tx z9)))), (b6, .inl (cI, 8, .inl (fun z9 => iI (od z9)))), (b7, .inl (cI, 8, .inl (fun z9 => iI (pt z9)))), (b8, .inl (cI, 8, .inl (fun z9 => iI (tu z9)))), (b9, .inl (cI, 8, .inl (fun z9 => iI (fa z9)))), (b10, .inl (cI, 8, .inl (fun z9 => iI (th z9)))), (b11, .inl (cI, 8, .inl (fun z9 => iI (ss z9)))), (b12, .inl (cI, 1600, .inl (fun z9 => iI (mo z9))))] H := hP
  have hD : va_D A [(b0, .inr (6, [.ref b1, .ref b2, .ref b3, .ref b4, .int (iI ns), .int (iI ia), .ref b5, .int (iI tl), .int (iI ta), .ref b6, .ref b7, .ref b8, .ref b9, .ref b10, .ref b11, .ref b12])), (b1, .inl (cI, 37, .inl (fun z9 => iI (w z9)))), (b2, .inl (cI, 148, .inl (fun z9 => iI (pa z9)))), (b3, .inl (cI, 37, .inl (fun z9 => iI (ad z9)))), (b4, .inl (cI, 37, .inl (fun z9 => iI ((cpi be w 37) z9)))), (b5, .inl (cC, 60, .inl (fun z9 => iI (tx z9)))), (b6, .inl (cI, 8, .inl (fun z9 => iI (od z9)))), (b7, .inl (cI, 8, .inl (fun z9 => iI (pt z9)))), (b8, .inl (cI, 8, .inl (fun z9 => iI (tu z9)))), (b9, .inl (cI, 8, .inl (fun z9 => iI (fa z9)))), (b10, .inl (cI, 8, .inl (fun z9 => iI (th z9)))), (b11, .inl (cI, 8, .inl (fun z9 => iI (ss z9)))), (b12, .inl (cI, 1600, .inl (fun z9 => iI (mo z9))))] := hD
  refine lv_aload_n hx hb dX6_begin_4 rfl (lv_at hl 0 rfl) ?_
  refine wr_Vv (As := []) (rest := []) ⟨hx, hb, hml, hown, hts⟩ (c_X6_record l dC dI cI cJ cC cO b0 b1 b2 b3 b4 b5 b6 b7 b8 b9 b10 b11 b12 w pa ad (cpi be w 37) ns ia tx tl ta od pt tu fa th ss mo (by omega)) (cwV 0 hts gX6_begin_X6_record rfl rfl rfl (by decide +kernel) ⟨Nat.le_of_ble_eq_true rfl, Nat.le_of_ble_eq_true rfl⟩) hK hP hD hS [0, 1, 2, 3, 4, 5, 6, 7, 8, 9, 10, 11, 12] rfl (by decide) 6 0 rfl rfl (fun u_5 => [(b0, .inr (6, [.ref b1, .ref b2, .ref b3, .ref b4, .int (iI (rnM ns)), .int (iI ia), .ref b5, .int (iI tl), .int (iI ta), .ref b6, .ref b7, .ref b8, .ref b9, .ref b10, .ref b11, .ref b12])), (b1, .inl (cI, 37, .inl (fun z9 => iI (w z9)))), (b2, .inl (cI, 148, .inl (fun z9 => iI ((rcM pa (cpi be w 37) ns) z9)))), (b3, .inl (cI, 37, .inl (fun z9 => iI (ad z9)))), (b4, .inl (cI, 37, .inl (fun z9 => iI ((cpi be w 37) z9)))), (b5, .inl (cC, 60, .inl (fun z9 => iI (tx z9)))), (b6, .inl (cI, 8, .inl (fun z9 => iI (od z9)))), (b7, .inl (cI, 8, .inl (fun z9 => iI (pt z9)))), (b8, .inl (cI, 8, .inl (fun z9 => iI (tu z9)))), (b9, .inl (cI, 8, .inl (fun z9 => iI (fa z9)))), (b10, .inl (cI, 8, .inl (fun z9 => iI (th z9)))), (b11, .inl (cI, 8, .inl (fun z9 => iI (ss z9)))), (b12, .inl (cI, 1600, .inl (fun z9 => iI (mo z9))))]) [.inr 0, .inr 1, .inr 2, .inr 3, .inr 4, .inr 5, .inr 6, .inr 7, .inr 8, .inr 9, .inr 10, .inr 11, .inr 12] (fun _ => rfl) (fun _ => rfl) rfl rfl hl.1 rfl (Nat.le_of_ble_eq_true rfl) dX6_begin_5 ⟨Nat.zero_le _, Nat.zero_le _⟩ (fun u_5 H locs hz_5 hP hD hS => ?_)
  have hP : va_P (dC, dI) vwCl [(b0, .inr (6, [.ref b1, .ref b2, .ref b3, .ref b4, .int (iI (rnM ns)), .int (iI ia), .ref b5, .int (iI tl), .int (iI ta), .ref b6, .ref b7, .ref b8, .ref b9, .ref b10, .ref b11, .ref b12])), (b1, .inl (cI, 37, .inl (fun z9 => iI (w z9)))), (b2, .inl (cI, 148, .inl (fun z9 => iI ((rcM pa (cpi be w 37) ns) z9)))), (b3, .inl (cI, 37, .inl (fun z9 => iI (ad z9)))), (b4, .inl (cI, 37, .inl (fun z9 => iI ((cpi be w 37) z9)))), (b5, .inl (cC, 60, .inl (fun z9 => iI (tx z9)))), (b6, .inl (cI, 8, .inl (fun z9 => iI (od z9)))), (b7, .inl (cI, 8, .inl (fun z9 => iI (pt z9)))), (b8, .inl (cI, 8, .inl (fun z9 => iI (tu z9)))), (b9, .inl (cI, 8, .inl (fun z9 => iI (fa z9)))), (b10, .inl (cI, 8, .inl (fun z9 => iI (th z9)))), (b11, .inl (cI, 8, .inl (fun z9 => iI (ss z9)))), (b12, .inl (cI, 1600, .inl (fun z9 => iI (mo z9))))] H := hP
  have hD : va_D A [(b0, .inr (6, [.ref b1, .ref b2, .ref b3, .ref b4, .int (iI (rnM ns)), .int (iI ia), .ref b5, .int (iI tl), .int (iI ta), .ref b6, .ref b7, .ref b8, .ref b9, .ref b10, .ref b11, .ref b12])), (b1, .inl (cI, 37, .inl (fun z9 => iI (w z9)))), (b2, .inl (cI, 148, .inl (fun z9 => iI ((rcM pa (cpi be w 37) ns) z9)))), (b3, .inl (cI, 37, .inl (fun z9 => iI (ad z9)))), (b4, .inl (cI, 37, .inl (fun z9 => iI ((cpi be w 37) z9)))), (b5, .inl (cC, 60, .inl (fun z9 => iI (tx z9)))), (b6, .inl (cI, 8, .inl (fun z9 => iI (od z9)))), (b7, .inl (cI, 8, .inl (fun z9 => iI (pt z9)))), (b8, .inl (cI, 8, .inl (fun z9 => iI (tu z9)))), (b9, .inl (cI, 8, .inl (fun z9 => iI (fa z9)))), (b10, .inl (cI, 8, .inl (fun z9 => iI (th z9)))), (b11, .inl (cI, 8, .inl (fun z9 => iI (ss z9)))), (b12, .inl (cI, 1600, .inl (fun z9 => iI (mo z9))))] := hD
  exact W.vret hx hb hr (fun t9 ht9 hW9 => ⟨⟨(), rfl, trivial, by show va_P _ _ _ t9.heap; rw [ht9]; exact (by rw [rcM_cpi] at hP; exact hP)⟩, hS.F ht9⟩) hS.2.2 dX6_begin_8
