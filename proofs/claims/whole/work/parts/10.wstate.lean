set_option maxHeartbeats 4000000 in
set_option maxRecDepth 100000 in
theorem c_J9_floorMod_7cf53 (l : Launch) (dC : Nat → ClassId) (dI : Nat → Nat → Nat) (cI cJ cC cO : ClassId) (x y : Int) (hx0 : -2147483648 < x ∧ x < 2147483648) (hy : 0 < y ∧ y < 2147483648) : Met l yJ9_floorMod_7cf53 wsJ9_floorMod_7cf53 ({ frames := 0, cells := 0, slots := 0, locals := 0 } : Room) (va_Pc [.int (iI x), .int (iI y)] (ro_B (dC, dI) vwCl (tyG cI cJ cC cO) ([]))) (ro_Q (fun z => z = x % y)) 0 0 (fun _ => False) := by
  refine va_MetF (cc := cJ9_floorMod_7cf53) (maxL := 3) (ret := (some .int)) (by decide +kernel) rfl ?_
  intro p e s m args below meth c s₁ B hml hv
  obtain ⟨hav, hP, hK⟩ := hv
  have hx := B.exec
  have hb := B.bytes
  have hr := B.returns
  have hts := atoms_spec (ws := wsJ9_floorMod_7cf53) B.pre
  have hown : s.vm.findClass RJ9 = some m.cls := findClass_of_methodNamed B.named
  have hlocks := B.notSynchronized
  have hP : va_P (dC, dI) vwCl [] s.heap := hP
  have hl := lv_entry ([.int (iI x), .int (iI y)]) (n := 3) (Nat.le_of_ble_eq_true rfl)
  have hent : entryFrame m args 3 = F0 m 0 ((lg_sl ([.int (iI x), .int (iI y)]) ++ List.replicate (3 - (lg_sl ([.int (iI x), .int (iI y)])).length) Slot.unset).toArray) [] := by rw [hav]; exact lg_entry_eq ..
  rw [hent]
  generalize (lg_sl ([.int (iI x), .int (iI y)]) ++ List.replicate (3 - (lg_sl ([.int (iI x), .int (iI y)])).length) Slot.unset).toArray = ls at hl ⊢
  have hl : lv_has ls 3 [(0, .int (iI x)), (1, .int (iI y))] := hl
  have ht1 := Int.emod_nonneg x (b := y) (by omega)
  have ht2 := Int.emod_lt_of_pos x (b := y) (by omega)
  have ht3 := fm_cases (x := x) (y := y) hy.1
  refine lv_iload_n hx hb dJ9_floorMod_7cf53_0 rfl (lv_at hl 0 rfl) ?_
  refine lv_iload_n hx hb dJ9_floorMod_7cf53_1 rfl (lv_at hl 1 rfl) ?_
  refine zz_irem hx hb dJ9_floorMod_7cf53_2 (by omega) (by omega) (by omega) ?_
  refine lv_istore_n (lv' := [(2, .int (iI (Int.tmod x y))), (0, .int (iI x)), (1, .int (iI y))]) hx hb dJ9_floorMod_7cf53_3 rfl hl (by decide) rfl (fun ls hl => ?_)
  refine lv_iload_n hx hb dJ9_floorMod_7cf53_4 rfl (lv_at hl 1 rfl) ?_
  refine lv_iload_n hx hb dJ9_floorMod_7cf53_5 rfl (lv_at hl 2 rfl) ?_
  refine lv_ixor hx hb dJ9_floorMod_7cf53_6 ?_
  obtain ⟨zx, hzx, ezx, bzx⟩ := fm_xor (x := x) (y := y) hx0 hy
  rw [hzx]
  refine zz_if_ge (tgt := 18) hx hb dJ9_floorMod_7cf53_7 (by decide) (by omega) (fun c_7 => ?_) (fun c_7 => ?_)
  · skip
    refine lv_iload_n hx hb dJ9_floorMod_7cf53_18 rfl (lv_at hl 0 rfl) ?_
    exact W.iret (v := iI (Int.tmod x y)) hx hb hr (fun t9 ht9 hW9 => ⟨(Int.tmod x y), rfl, by omega, ht9⟩) (fun q hq => by cases hq) dJ9_floorMod_7cf53_19
  · skip
    refine lv_iload_n hx hb dJ9_floorMod_7cf53_10 rfl (lv_at hl 0 rfl) ?_
    refine zz_if_eq (tgt := 18) hx hb dJ9_floorMod_7cf53_11 (by decide) (by omega) (fun c_11 => ?_) (fun c_11 => ?_)
    · skip
      refine lv_iload_n hx hb dJ9_floorMod_7cf53_18 rfl (lv_at hl 0 rfl) ?_
      exact W.iret (v := iI (Int.tmod x y)) hx hb hr (fun t9 ht9 hW9 => ⟨(Int.tmod x y), rfl, by omega, ht9⟩) (fun q hq => by cases hq) dJ9_floorMod_7cf53_19
    · skip
      refine lv_iload_n hx hb dJ9_floorMod_7cf53_14 rfl (lv_at hl 0 rfl) ?_
      refine lv_iload_n hx hb dJ9_floorMod_7cf53_15 rfl (lv_at hl 2 rfl) ?_
      refine zz_iadd hx hb dJ9_floorMod_7cf53_16 ?_
      exact W.iret (v := iI ((Int.tmod x y) + y)) hx hb hr (fun t9 ht9 hW9 => ⟨((Int.tmod x y) + y), rfl, by omega, ht9⟩) (fun q hq => by cases hq) dJ9_floorMod_7cf53_17
set_option maxHeartbeats 4000000 in
set_option maxRecDepth 100000 in
theorem c_J9_floorDiv_7cf53 (l : Launch) (dC : Nat → ClassId) (dI : Nat → Nat → Nat) (cI cJ cC cO : ClassId) (x y : Int) (hx0 : -2147483648 < x ∧ x < 2147483648) (hy : 0 < y ∧ y < 2147483648) : Met l yJ9_floorDiv_7cf53 wsJ9_floorDiv_7cf53 ({ frames := 0, cells := 0, slots := 0, locals := 0 } : Room) (va_Pc [.int (iI x), .int (iI y)] (ro_B (dC, dI) vwCl (tyG cI cJ cC cO) ([]))) (ro_Q (fun z => z = x / y)) 0 0 (fun _ => False) := by
  refine va_MetF (cc := cJ9_floorDiv_7cf53) (maxL := 3) (ret := (some .int)) (by decide +kernel) rfl ?_
  intro p e s m args below meth c s₁ B hml hv
  obtain ⟨hav, hP, hK⟩ := hv
  have hx := B.exec
  have hb := B.bytes
  have hr := B.returns
  have hts := atoms_spec (ws := wsJ9_floorDiv_7cf53) B.pre
  have hown : s.vm.findClass RJ9 = some m.cls := findClass_of_methodNamed B.named
  have hlocks := B.notSynchronized
  have hP : va_P (dC, dI) vwCl [] s.heap := hP
  have hl := lv_entry ([.int (iI x), .int (iI y)]) (n := 3) (Nat.le_of_ble_eq_true rfl)
  have hent : entryFrame m args 3 = F0 m 0 ((lg_sl ([.int (iI x), .int (iI y)]) ++ List.replicate (3 - (lg_sl ([.int (iI x), .int (iI y)])).length) Slot.unset).toArray) [] := by rw [hav]; exact lg_entry_eq ..
  rw [hent]
  generalize (lg_sl ([.int (iI x), .int (iI y)]) ++ List.replicate (3 - (lg_sl ([.int (iI x), .int (iI y)])).length) Slot.unset).toArray = ls at hl ⊢
  have hl : lv_has ls 3 [(0, .int (iI x)), (1, .int (iI y))] := hl
  have ht3 := fm_cases (x := x) (y := y) hy.1
  have ht4 := fd_bd (x := x) (y := y) hy.1
  refine lv_iload_n hx hb dJ9_floorDiv_7cf53_0 rfl (lv_at hl 0 rfl) ?_
  refine lv_iload_n hx hb dJ9_floorDiv_7cf53_1 rfl (lv_at hl 1 rfl) ?_
  refine zz_idiv hx hb dJ9_floorDiv_7cf53_2 (by omega) (by omega) (by omega) ?_
  refine lv_istore_n (lv' := [(2, .int (iI (Int.tdiv x y))), (0, .int (iI x)), (1, .int (iI y))]) hx hb dJ9_floorDiv_7cf53_3 rfl hl (by decide) rfl (fun ls hl => ?_)
  refine lv_iload_n hx hb dJ9_floorDiv_7cf53_4 rfl (lv_at hl 1 rfl) ?_
  refine lv_iload_n hx hb dJ9_floorDiv_7cf53_5 rfl (lv_at hl 2 rfl) ?_
  refine lv_ixor hx hb dJ9_floorDiv_7cf53_6 ?_
  obtain ⟨zx, hzx, ezx, bzx⟩ := fm_xor (x := x) (y := y) hx0 hy
  rw [hzx]
  refine zz_if_ge (tgt := 21) hx hb dJ9_floorDiv_7cf53_7 (by decide) (by omega) (fun c_7 => ?_) (fun c_7 => ?_)
  · skip
    refine lv_iload_n hx hb dJ9_floorDiv_7cf53_21 rfl (lv_at hl 0 rfl) ?_
    exact W.iret (v := iI (Int.tdiv x y)) hx hb hr (fun t9 ht9 hW9 => ⟨(Int.tdiv x y), rfl, by omega, ht9⟩) (fun q hq => by cases hq) dJ9_floorDiv_7cf53_22
  · skip
    refine lv_iload_n hx hb dJ9_floorDiv_7cf53_10 rfl (lv_at hl 0 rfl) ?_
    refine lv_iload_n hx hb dJ9_floorDiv_7cf53_11 rfl (lv_at hl 2 rfl) ?_
    refine zz_imul hx hb dJ9_floorDiv_7cf53_12 ?_
    refine lv_iload_n hx hb dJ9_floorDiv_7cf53_13 rfl (lv_at hl 1 rfl) ?_
    refine zz_icmp_eq (tgt := 21) hx hb dJ9_floorDiv_7cf53_14 (by decide) (by omega) (by omega) (fun c_14 => ?_) (fun c_14 => ?_)
    · skip
      refine lv_iload_n hx hb dJ9_floorDiv_7cf53_21 rfl (lv_at hl 0 rfl) ?_
      exact W.iret (v := iI (Int.tdiv x y)) hx hb hr (fun t9 ht9 hW9 => ⟨(Int.tdiv x y), rfl, by omega, ht9⟩) (fun q hq => by cases hq) dJ9_floorDiv_7cf53_22
    · skip
      refine lv_iload_n hx hb dJ9_floorDiv_7cf53_17 rfl (lv_at hl 0 rfl) ?_
      refine zz_iconst hx hb dJ9_floorDiv_7cf53_18 ?_
      refine zz_isub hx hb dJ9_floorDiv_7cf53_19 ?_
      exact W.iret (v := iI ((Int.tdiv x y) - (1 : Int))) hx hb hr (fun t9 ht9 hW9 => ⟨((Int.tdiv x y) - (1 : Int)), rfl, by omega, ht9⟩) (fun q hq => by cases hq) dJ9_floorDiv_7cf53_20
set_option maxHeartbeats 4000000 in
set_option maxRecDepth 100000 in
theorem c_X3_onRing (l : Launch) (dC : Nat → ClassId) (dI : Nat → Nat → Nat) (cI cJ cC cO : ClassId) (h a1 a2 a3 a4 : Nat) (r : Nat → Nat → Int) (n : Nat) (hok : Ok r n) (x : Int) (hx0 : -1000000000 < x ∧ x < 1000000000) : Met l yX3_onRing wsX3_onRing ({ frames := 1, cells := 0, slots := 0, locals := 22 } : Room) (va_Pc [.ref h, .int (iI x)] (ro_B (dC, dI) vwCl (tyG cI cJ cC cO) (wSt cI h a1 a2 a3 a4 r))) (ro_Q (fun z => z = x % (r 0 0))) 0 0 (fun _ => False) := by
  refine Met.ofW (cc := cX3_onRing) (maxL := 2) (ret := (some .int)) (by decide) rfl ?_
  intro p e s m args below meth c s₁ B hml hv
  obtain ⟨hav, hP, hK⟩ := hv
  have hx := B.exec
  have hb := B.bytes
  have hr := B.returns
  have hts := atoms_spec (ws := wsX3_onRing) B.pre
  have hown : s.vm.findClass RX3 = some m.cls := findClass_of_methodNamed B.named
  have hlocks := B.notSynchronized
  have hf9 := hts (.fieldLink RX3 9 "RingRods$State" "ringLength" "I") (by decide +kernel)
  have hw3 : ∀ w ∈ u_ws RX3 TX3 9, w ∈ wsX3_onRing := by decide +kernel
  have hP : va_P (dC, dI) vwCl [(h, .inr (3, [.int (iI (r 0 0)), .int (iI (r 0 1)), .int (iI (r 0 2)), .int (iI (r 0 3)), .int (iI (r 0 4)), .ref a1, .ref a2, .ref a3, .ref a4])), (a1, .inl (cI, 8, .inl (fun k => iI ((r 1) k)))), (a2, .inl (cI, 8, .inl (fun k => iI ((r 2) k)))), (a3, .inl (cI, 8, .inl (fun k => iI ((r 3) k)))), (a4, .inl (cI, 8, .inl (fun k => iI ((r 4) k))))] s.heap := hP
  have hl := lv_entry ([.ref h, .int (iI x)]) (n := 2) (Nat.le_of_ble_eq_true rfl)
  have hent : entryFrame m args 2 = F0 m 0 ((lg_sl ([.ref h, .int (iI x)]) ++ List.replicate (2 - (lg_sl ([.ref h, .int (iI x)])).length) Slot.unset).toArray) [] := by rw [hav]; exact lg_entry_eq ..
  rw [hent]
  generalize (lg_sl ([.ref h, .int (iI x)]) ++ List.replicate (2 - (lg_sl ([.ref h, .int (iI x)])).length) Slot.unset).toArray = ls at hl ⊢
  have hl : lv_has ls 2 [(0, .ref h), (1, .int (iI x))] := hl
  have bd0 := hok.bd
  have bd1 := hok.fr
  refine lv_aload_n hx hb dX3_onRing_0 rfl (lv_at hl 0 rfl) ?_
  refine va_get (D := (dC, dI)) (ci := 3) (v := .int (iI (r 0 0))) (C := RX3) (T := TX3) (N := 9) hx hb hts hw3 hown hK hP 0 rfl rfl 0 (by decide) hf9 (fun _ h9 => h9) rfl dX3_onRing_1 ?_
  refine zz_if_le (tgt := 18) hx hb dX3_onRing_4 (by decide) (by omega) (fun c_4 => ?_) (fun c_4 => ?_)
  · skip
    exfalso; omega
  · skip
    refine lv_iload_n hx hb dX3_onRing_7 rfl (lv_at hl 1 rfl) ?_
    refine lv_aload_n hx hb dX3_onRing_8 rfl (lv_at hl 0 rfl) ?_
    refine va_get (D := (dC, dI)) (ci := 3) (v := .int (iI (r 0 0))) (C := RX3) (T := TX3) (N := 9) hx hb hts hw3 hown hK hP 0 rfl rfl 0 (by decide) hf9 (fun _ h9 => h9) rfl dX3_onRing_9 ?_
    refine ro_S (As := [.int (iI x), .int (iI (r 0 0))]) (rest := []) ⟨hx, hb, hml, hown, hts⟩ (c_J9_floorMod_7cf53 l dC dI cI cJ cC cO x (r 0 0) (by omega) (by omega)) (va_cwS 2 hts gX3_onRing_J9_floorMod_7cf53 rfl rfl rfl (by decide +kernel) ⟨Nat.le_of_ble_eq_true rfl, Nat.le_of_ble_eq_true rfl⟩) hK hP [] rfl rfl hl.1 rfl (Nat.le_of_ble_eq_true rfl) dX3_onRing_12 ⟨Nat.zero_le _, Nat.zero_le _⟩ (fun z_12 hz_12 => ?_)
    subst hz_12
    refine lv_goto (tgt := 19) hx hb dX3_onRing_15 (by decide) ?_
    exact W.iret (v := iI (x % (r 0 0))) hx hb hr (fun t9 ht9 hW9 => ⟨(x % (r 0 0)), rfl, rfl, ht9⟩) (fun q hq => by cases hq) dX3_onRing_19
set_option maxHeartbeats 4000000 in
set_option maxRecDepth 100000 in
theorem c_X3_distance (l : Launch) (dC : Nat → ClassId) (dI : Nat → Nat → Nat) (cI cJ cC cO : ClassId) (h a1 a2 a3 a4 : Nat) (r : Nat → Nat → Int) (n : Nat) (hok : Ok r n) (zf : Int) (f : Nat) (ef : zf = (f : Int)) (hf : f < n) (zt : Int) (t : Nat) (et : zt = (t : Int)) (ht : t < n) : Met l yX3_distance wsX3_distance ({ frames := 0, cells := 0, slots := 0, locals := 0 } : Room) (va_Pc [.ref h, .int (iI zf), .int (iI zt)] (ro_B (dC, dI) vwCl (tyG cI cJ cC cO) (wSt cI h a1 a2 a3 a4 r))) (ro_Q (fun z => z = dist (r 0 0) (r 1) f t)) 0 0 (fun _ => False) := by
  refine Met.ofW (cc := cX3_distance) (maxL := 4) (ret := (some .int)) (by decide) rfl ?_
  intro p e s m args below meth c s₁ B hml hv
  obtain ⟨hav, hP, hK⟩ := hv
  have hx := B.exec
  have hb := B.bytes
  have hr := B.returns
  have hts := atoms_spec (ws := wsX3_distance) B.pre
  have hown : s.vm.findClass RX3 = some m.cls := findClass_of_methodNamed B.named
  have hlocks := B.notSynchronized
  have hf9 := hts (.fieldLink RX3 9 "RingRods$State" "ringLength" "I") (by decide +kernel)
  have hf15 := hts (.fieldLink RX3 15 "RingRods$State" "place" "[I") (by decide +kernel)
  have hw3 : ∀ w ∈ u_ws RX3 TX3 9, w ∈ wsX3_distance := by decide +kernel
  have hP : va_P (dC, dI) vwCl [(h, .inr (3, [.int (iI (r 0 0)), .int (iI (r 0 1)), .int (iI (r 0 2)), .int (iI (r 0 3)), .int (iI (r 0 4)), .ref a1, .ref a2, .ref a3, .ref a4])), (a1, .inl (cI, 8, .inl (fun k => iI ((r 1) k)))), (a2, .inl (cI, 8, .inl (fun k => iI ((r 2) k)))), (a3, .inl (cI, 8, .inl (fun k => iI ((r 3) k)))), (a4, .inl (cI, 8, .inl (fun k => iI ((r 4) k))))] s.heap := hP
  have hl := lv_entry ([.ref h, .int (iI zf), .int (iI zt)]) (n := 4) (Nat.le_of_ble_eq_true rfl)
  have hent : entryFrame m args 4 = F0 m 0 ((lg_sl ([.ref h, .int (iI zf), .int (iI zt)]) ++ List.replicate (4 - (lg_sl ([.ref h, .int (iI zf), .int (iI zt)])).length) Slot.unset).toArray) [] := by rw [hav]; exact lg_entry_eq ..
  rw [hent]
  generalize (lg_sl ([.ref h, .int (iI zf), .int (iI zt)]) ++ List.replicate (4 - (lg_sl ([.ref h, .int (iI zf), .int (iI zt)])).length) Slot.unset).toArray = ls at hl ⊢
  have hl : lv_has ls 4 [(0, .ref h), (1, .int (iI zf)), (2, .int (iI zt))] := hl
  have bd0 := hok.bd
  have bd1 := hok.fr
  refine lv_aload_n hx hb dX3_distance_0 rfl (lv_at hl 0 rfl) ?_
  refine va_get (D := (dC, dI)) (ci := 3) (v := .ref a1) (C := RX3) (T := TX3) (N := 9) hx hb hts hw3 hown hK hP 0 rfl rfl 5 (by decide) hf15 (fun _ h9 => h9) rfl dX3_distance_1 ?_
  refine lv_iload_n hx hb dX3_distance_4 rfl (lv_at hl 2 rfl) ?_
  refine zz_iald hx hb hK hP 1 0 (f := (r 1)) rfl rfl (by decide) t (by omega) (by omega) dX3_distance_5 ?_
  have b_5 := hok.at (k := t) (by omega)
  refine lv_aload_n hx hb dX3_distance_6 rfl (lv_at hl 0 rfl) ?_
  refine va_get (D := (dC, dI)) (ci := 3) (v := .ref a1) (C := RX3) (T := TX3) (N := 9) hx hb hts hw3 hown hK hP 0 rfl rfl 5 (by decide) hf15 (fun _ h9 => h9) rfl dX3_distance_7 ?_
  refine lv_iload_n hx hb dX3_distance_10 rfl (lv_at hl 1 rfl) ?_
  refine zz_iald hx hb hK hP 1 0 (f := (r 1)) rfl rfl (by decide) f (by omega) (by omega) dX3_distance_11 ?_
  have b_11 := hok.at (k := f) (by omega)
  refine zz_isub hx hb dX3_distance_12 ?_
  refine lv_istore_n (lv' := [(3, .int (iI (((r 1) t) - ((r 1) f)))), (0, .ref h), (1, .int (iI zf)), (2, .int (iI zt))]) hx hb dX3_distance_13 rfl hl (by decide) rfl (fun ls hl => ?_)
  refine lv_iload_n hx hb dX3_distance_14 rfl (lv_at hl 0 rfl) ?_
  refine zz_if_ge (tgt := 27) hx hb dX3_distance_15 (by decide) (by omega) (fun c_15 => ?_) (fun c_15 => ?_)
  · skip
    refine lv_iload_n hx hb dX3_distance_27 rfl (lv_at hl 0 rfl) ?_
    exact W.iret (v := iI (((r 1) t) - ((r 1) f))) hx hb hr (fun t9 ht9 hW9 => ⟨(((r 1) t) - ((r 1) f)), rfl, by simp only [dist]; split <;> omega, ht9⟩) (fun q hq => by cases hq) dX3_distance_28
  · skip
    refine lv_iload_n hx hb dX3_distance_18 rfl (lv_at hl 0 rfl) ?_
    refine lv_aload_n hx hb dX3_distance_19 rfl (lv_at hl 1 rfl) ?_
    refine va_get (D := (dC, dI)) (ci := 3) (v := .int (iI (r 0 0))) (C := RX3) (T := TX3) (N := 9) hx hb hts hw3 hown hK hP 0 rfl rfl 0 (by decide) hf9 (fun _ h9 => h9) rfl dX3_distance_20 ?_
    refine zz_iadd hx hb dX3_distance_23 ?_
    refine lv_goto (tgt := 28) hx hb dX3_distance_24 (by decide) ?_
    exact W.iret (v := iI ((((r 1) t) - ((r 1) f)) + (r 0 0))) hx hb hr (fun t9 ht9 hW9 => ⟨((((r 1) t) - ((r 1) f)) + (r 0 0)), rfl, by simp only [dist]; split <;> omega, ht9⟩) (fun q hq => by cases hq) dX3_distance_28
set_option maxHeartbeats 4000000 in
set_option maxRecDepth 100000 in
theorem c_X3_freeLength (l : Launch) (dC : Nat → ClassId) (dI : Nat → Nat → Nat) (cI cJ cC cO : ClassId) (h a1 a2 a3 a4 : Nat) (r : Nat → Nat → Int) (n : Nat) (hok : Ok r n) : Met l yX3_freeLength wsX3_freeLength ({ frames := 0, cells := 0, slots := 0, locals := 0 } : Room) (va_Pc [.ref h] (ro_B (dC, dI) vwCl (tyG cI cJ cC cO) (wSt cI h a1 a2 a3 a4 r))) (ro_Q (fun z => z = freeL (r 0 0) n (r 2))) 0 0 (fun _ => False) := by
  refine Met.ofW (cc := cX3_freeLength) (maxL := 3) (ret := (some .int)) (by decide) rfl ?_
  intro p e s m args below meth c s₁ B hml hv
  obtain ⟨hav, hP, hK⟩ := hv
  have hx := B.exec
  have hb := B.bytes
  have hr := B.returns
  have hts := atoms_spec (ws := wsX3_freeLength) B.pre
  have hown : s.vm.findClass RX3 = some m.cls := findClass_of_methodNamed B.named
  have hlocks := B.notSynchronized
  have hf9 := hts (.fieldLink RX3 9 "RingRods$State" "ringLength" "I") (by decide +kernel)
  have hf19 := hts (.fieldLink RX3 19 "RingRods$State" "length" "[I") (by decide +kernel)
  have hf28 := hts (.fieldLink RX3 28 "RingRods$State" "rods" "I") (by decide +kernel)
  have hw3 : ∀ w ∈ u_ws RX3 TX3 9, w ∈ wsX3_freeLength := by decide +kernel
  have hP : va_P (dC, dI) vwCl [(h, .inr (3, [.int (iI (r 0 0)), .int (iI (r 0 1)), .int (iI (r 0 2)), .int (iI (r 0 3)), .int (iI (r 0 4)), .ref a1, .ref a2, .ref a3, .ref a4])), (a1, .inl (cI, 8, .inl (fun k => iI ((r 1) k)))), (a2, .inl (cI, 8, .inl (fun k => iI ((r 2) k)))), (a3, .inl (cI, 8, .inl (fun k => iI ((r 3) k)))), (a4, .inl (cI, 8, .inl (fun k => iI ((r 4) k))))] s.heap := hP
  have hl := lv_entry ([.ref h]) (n := 3) (Nat.le_of_ble_eq_true rfl)
  have hent : entryFrame m args 3 = F0 m 0 ((lg_sl ([.ref h]) ++ List.replicate (3 - (lg_sl ([.ref h])).length) Slot.unset).toArray) [] := by rw [hav]; exact lg_entry_eq ..
  rw [hent]
  generalize (lg_sl ([.ref h]) ++ List.replicate (3 - (lg_sl ([.ref h])).length) Slot.unset).toArray = ls at hl ⊢
  have hl : lv_has ls 3 [(0, .ref h)] := hl
  have bd0 := hok.bd
  have bd1 := hok.fr
  refine lv_aload_n hx hb dX3_freeLength_0 rfl (lv_at hl 0 rfl) ?_
  refine va_get (D := (dC, dI)) (ci := 3) (v := .int (iI (r 0 0))) (C := RX3) (T := TX3) (N := 9) hx hb hts hw3 hown hK hP 0 rfl rfl 0 (by decide) hf9 (fun _ h9 => h9) rfl dX3_freeLength_1 ?_
  refine lv_istore_n (lv' := [(1, .int (iI (r 0 0))), (0, .ref h)]) hx hb dX3_freeLength_4 rfl hl (by decide) rfl (fun ls hl => ?_)
  refine zz_iconst hx hb dX3_freeLength_5 ?_
  refine lv_istore_n (lv' := [(2, .int (iI (0 : Int))), (1, .int (iI (r 0 0))), (0, .ref h)]) hx hb dX3_freeLength_6 rfl hl (by decide) rfl (fun ls hl => ?_)
  have lp7 : ∀ (d7 : Nat), ∀ (i : Nat) (v1 v2 : Int) (hi : i ≤ n) (e2 : v2 = (i : Int)) (e1 : v1 = r 0 0 - sumI (r 2) i), n - i < d7 → ∀ ls : Array Slot, lv_has ls 3 [(0, .ref h), (1, .int (iI v1)), (2, .int (iI v2))] → W p l e ({ frames := 0, cells := 0, slots := 0, locals := 0 } : Room) s m args below meth c s.heap [] 0 0 (MQ below (ro_Q (fun z => z = freeL (r 0 0) n (r 2))) args s 0 0 (fun _ => False)) (F0 m 7 ls []) := by
    intro d7
    induction d7 with
    | zero =>
      intro i v1 v2 hi e2 e1 hd7
      exact absurd hd7 (Nat.not_lt_zero _)
    | succ d7 ih7 =>
      intro i v1 v2 hi e2 e1 hd7 ls hl
      refine lv_iload_n hx hb dX3_freeLength_7 rfl (lv_at hl 2 rfl) ?_
      refine lv_aload_n hx hb dX3_freeLength_8 rfl (lv_at hl 0 rfl) ?_
      refine va_get (D := (dC, dI)) (ci := 3) (v := .int (iI (r 0 1))) (C := RX3) (T := TX3) (N := 9) hx hb hts hw3 hown hK hP 0 rfl rfl 1 (by decide) hf28 (fun _ h9 => h9) rfl dX3_freeLength_9 ?_
      refine zz_icmp_ge (tgt := 30) hx hb dX3_freeLength_12 (by decide) (by omega) (by omega) (fun c_12 => ?_) (fun c_12 => ?_)
      · skip
        refine lv_iload_n hx hb dX3_freeLength_30 rfl (lv_at hl 1 rfl) ?_
        exact W.iret (v := iI v1) hx hb hr (fun t9 ht9 hW9 => ⟨v1, rfl, by (have h9 : i = n := (by omega)); rw [h9] at e1; simp only [freeL]; omega, ht9⟩) (fun q hq => by cases hq) dX3_freeLength_31
      · skip
        refine lv_iload_n hx hb dX3_freeLength_15 rfl (lv_at hl 1 rfl) ?_
        refine lv_aload_n hx hb dX3_freeLength_16 rfl (lv_at hl 0 rfl) ?_
        refine va_get (D := (dC, dI)) (ci := 3) (v := .ref a2) (C := RX3) (T := TX3) (N := 9) hx hb hts hw3 hown hK hP 0 rfl rfl 6 (by decide) hf19 (fun _ h9 => h9) rfl dX3_freeLength_17 ?_
        refine lv_iload_n hx hb dX3_freeLength_20 rfl (lv_at hl 2 rfl) ?_
        refine zz_iald hx hb hK hP 2 0 (f := (r 2)) rfl rfl (by decide) i (by omega) (by omega) dX3_freeLength_21 ?_
        have b_21 := hok.at (k := i) (by omega)
        refine zz_isub hx hb dX3_freeLength_22 ?_
        refine lv_istore_n (lv' := [(1, .int (iI (v1 - ((r 2) i)))), (0, .ref h), (2, .int (iI v2))]) hx hb dX3_freeLength_23 rfl hl (by decide) rfl (fun ls hl => ?_)
        refine zz_iinc (lv' := [(2, .int (iI (v2 + (1 : Int)))), (1, .int (iI (v1 - ((r 2) i)))), (0, .ref h)]) hx hb dX3_freeLength_24 hl (k := 2) rfl (by decide) rfl (fun ls hl => ?_)
        refine lv_goto (tgt := 7) hx hb dX3_freeLength_27 (by decide) ?_
        exact ih7 (i + 1) (v1 - ((r 2) i)) (v2 + (1 : Int)) (by omega) (by omega) (by rw [sumI_s]; omega) (by omega) ls (lv_sub hl [2, 1, 0] rfl)
  exact lp7 _ 0 (r 0 0) (0 : Int) (by omega) (by omega) (by simp [sumI]) (Nat.lt_succ_self _) ls (lv_sub hl [2, 1, 0] rfl)
set_option maxHeartbeats 4000000 in
set_option maxRecDepth 100000 in
theorem c_X3_freeBetween (l : Launch) (dC : Nat → ClassId) (dI : Nat → Nat → Nat) (cI cJ cC cO : ClassId) (h a1 a2 a3 a4 : Nat) (r : Nat → Nat → Int) (n : Nat) (hok : Ok r n) (zf : Int) (f : Nat) (ef : zf = (f : Int)) (hf : f < n) (zt : Int) (t : Nat) (et : zt = (t : Int)) (ht : t < n) : Met l yX3_freeBetween wsX3_freeBetween ({ frames := 1, cells := 0, slots := 0, locals := 23 } : Room) (va_Pc [.ref h, .int (iI zf), .int (iI zt)] (ro_B (dC, dI) vwCl (tyG cI cJ cC cO) (wSt cI h a1 a2 a3 a4 r))) (ro_Q (fun z => z = fbtw (r 0 0) n (r 1) (r 2) f t)) 0 0 (fun _ => False) := by
  refine Met.ofW (cc := cX3_freeBetween) (maxL := 6) (ret := (some .int)) (by decide) rfl ?_
  intro p e s m args below meth c s₁ B hml hv
  obtain ⟨hav, hP, hK⟩ := hv
  have hx := B.exec
  have hb := B.bytes
  have hr := B.returns
  have hts := atoms_spec (ws := wsX3_freeBetween) B.pre
  have hown : s.vm.findClass RX3 = some m.cls := findClass_of_methodNamed B.named
  have hlocks := B.notSynchronized
  have hf19 := hts (.fieldLink RX3 19 "RingRods$State" "length" "[I") (by decide +kernel)
  have hf28 := hts (.fieldLink RX3 28 "RingRods$State" "rods" "I") (by decide +kernel)
  have hw3 : ∀ w ∈ u_ws RX3 TX3 9, w ∈ wsX3_freeBetween := by decide +kernel
  have hP : va_P (dC, dI) vwCl [(h, .inr (3, [.int (iI (r 0 0)), .int (iI (r 0 1)), .int (iI (r 0 2)), .int (iI (r 0 3)), .int (iI (r 0 4)), .ref a1, .ref a2, .ref a3, .ref a4])), (a1, .inl (cI, 8, .inl (fun k => iI ((r 1) k)))), (a2, .inl (cI, 8, .inl (fun k => iI ((r 2) k)))), (a3, .inl (cI, 8, .inl (fun k => iI ((r 3) k)))), (a4, .inl (cI, 8, .inl (fun k => iI ((r 4) k))))] s.heap := hP
  have hl := lv_entry ([.ref h, .int (iI zf), .int (iI zt)]) (n := 6) (Nat.le_of_ble_eq_true rfl)
  have hent : entryFrame m args 6 = F0 m 0 ((lg_sl ([.ref h, .int (iI zf), .int (iI zt)]) ++ List.replicate (6 - (lg_sl ([.ref h, .int (iI zf), .int (iI zt)])).length) Slot.unset).toArray) [] := by rw [hav]; exact lg_entry_eq ..
  rw [hent]
  generalize (lg_sl ([.ref h, .int (iI zf), .int (iI zt)]) ++ List.replicate (6 - (lg_sl ([.ref h, .int (iI zf), .int (iI zt)])).length) Slot.unset).toArray = ls at hl ⊢
  have hl : lv_has ls 6 [(0, .ref h), (1, .int (iI zf)), (2, .int (iI zt))] := hl
  have bd0 := hok.bd
  have bd1 := hok.fr
  refine lv_aload_n hx hb dX3_freeBetween_0 rfl (lv_at hl 0 rfl) ?_
  refine lv_iload_n hx hb dX3_freeBetween_1 rfl (lv_at hl 1 rfl) ?_
  refine lv_iload_n hx hb dX3_freeBetween_2 rfl (lv_at hl 2 rfl) ?_
  refine ro_V (As := [.int (iI zf), .int (iI zt)]) (rest := []) ⟨hx, hb, hml, hown, hts⟩ (c_X3_distance l dC dI cI cJ cC cO h a1 a2 a3 a4 r n hok zf f (by omega) (by omega) zt t (by omega) (by omega)) (cwV 2 hts gX3_freeBetween_X3_distance rfl rfl rfl (by decide +kernel) ⟨Nat.le_of_ble_eq_true rfl, Nat.le_of_ble_eq_true rfl⟩) hK hP [0, 1, 2, 3, 4] rfl 3 0 rfl rfl rfl hl.1 rfl (Nat.le_of_ble_eq_true rfl) dX3_freeBetween_3 ⟨Nat.zero_le _, Nat.zero_le _⟩ (fun z_3 hz_3 => ?_)
  subst hz_3
  have bz_3 := hok.dst (a := f) (b := t) (by omega) (by omega)
  refine lv_istore_n (lv' := [(3, .int (iI (dist (r 0 0) (r 1) f t))), (0, .ref h), (1, .int (iI zf)), (2, .int (iI zt))]) hx hb dX3_freeBetween_6 rfl hl (by decide) rfl (fun ls hl => ?_)
  refine lv_iload_n hx hb dX3_freeBetween_7 rfl (lv_at hl 0 rfl) ?_
  refine lv_istore (lv' := [(4, .int (iI (dist (r 0 0) (r 1) f t))), (3, .int (iI (dist (r 0 0) (r 1) f t))), (0, .ref h), (1, .int (iI zf)), (2, .int (iI zt))]) hx hb dX3_freeBetween_8 hl (by decide) rfl (fun ls hl => ?_)
  refine zz_iconst hx hb dX3_freeBetween_10 ?_
  refine lv_istore (lv' := [(5, .int (iI (0 : Int))), (4, .int (iI (dist (r 0 0) (r 1) f t))), (3, .int (iI (dist (r 0 0) (r 1) f t))), (0, .ref h), (1, .int (iI zf)), (2, .int (iI zt))]) hx hb dX3_freeBetween_11 hl (by decide) rfl (fun ls hl => ?_)
  have lp13 : ∀ (d13 : Nat), ∀ (i : Nat) (v4 v5 : Int) (hi : i ≤ n) (e5 : v5 = (i : Int)) (e4 : v4 = dist (r 0 0) (r 1) f t - sumI (fun k => if dist (r 0 0) (r 1) f k < dist (r 0 0) (r 1) f t then r 2 k else 0) i), n - i < d13 → ∀ ls : Array Slot, lv_has ls 6 [(0, .ref h), (1, .int (iI zf)), (2, .int (iI zt)), (3, .int (iI (dist (r 0 0) (r 1) f t))), (4, .int (iI v4)), (5, .int (iI v5))] → W p l e ({ frames := 1, cells := 0, slots := 0, locals := 23 } : Room) s m args below meth c s.heap [] 0 0 (MQ below (ro_Q (fun z => z = fbtw (r 0 0) n (r 1) (r 2) f t)) args s 0 0 (fun _ => False)) (F0 m 13 ls []) := by
    intro d13
    induction d13 with
    | zero =>
      intro i v4 v5 hi e5 e4 hd13
      exact absurd hd13 (Nat.not_lt_zero _)
    | succ d13 ih13 =>
      intro i v4 v5 hi e5 e4 hd13 ls hl
      refine lv_iload hx hb dX3_freeBetween_13 (lv_at hl 5 rfl) ?_
      refine lv_aload_n hx hb dX3_freeBetween_15 rfl (lv_at hl 0 rfl) ?_
      refine va_get (D := (dC, dI)) (ci := 3) (v := .int (iI (r 0 1))) (C := RX3) (T := TX3) (N := 9) hx hb hts hw3 hown hK hP 0 rfl rfl 1 (by decide) hf28 (fun _ h9 => h9) rfl dX3_freeBetween_16 ?_
      refine zz_icmp_ge (tgt := 51) hx hb dX3_freeBetween_19 (by decide) (by omega) (by omega) (fun c_19 => ?_) (fun c_19 => ?_)
      · skip
        refine lv_iload hx hb dX3_freeBetween_51 (lv_at hl 4 rfl) ?_
        exact W.iret (v := iI v4) hx hb hr (fun t9 ht9 hW9 => ⟨v4, rfl, by (have h9 : i = n := (by omega)); rw [h9] at e4; simp only [fbtw]; omega, ht9⟩) (fun q hq => by cases hq) dX3_freeBetween_53
      · skip
        refine lv_aload_n hx hb dX3_freeBetween_22 rfl (lv_at hl 0 rfl) ?_
        refine lv_iload_n hx hb dX3_freeBetween_23 rfl (lv_at hl 1 rfl) ?_
        refine lv_iload hx hb dX3_freeBetween_24 (lv_at hl 5 rfl) ?_
        refine ro_V (As := [.int (iI zf), .int (iI v5)]) (rest := []) ⟨hx, hb, hml, hown, hts⟩ (c_X3_distance l dC dI cI cJ cC cO h a1 a2 a3 a4 r n hok zf f (by omega) (by omega) v5 i (by omega) (by omega)) (cwV 2 hts gX3_freeBetween_X3_distance rfl rfl rfl (by decide +kernel) ⟨Nat.le_of_ble_eq_true rfl, Nat.le_of_ble_eq_true rfl⟩) hK hP [0, 1, 2, 3, 4] rfl 3 0 rfl rfl rfl hl.1 rfl (Nat.le_of_ble_eq_true rfl) dX3_freeBetween_26 ⟨Nat.zero_le _, Nat.zero_le _⟩ (fun z_26 hz_26 => ?_)
        subst hz_26
        have bz_26 := hok.dst (a := f) (b := i) (by omega) (by omega)
        refine lv_iload_n hx hb dX3_freeBetween_29 rfl (lv_at hl 3 rfl) ?_
        refine zz_icmp_ge (tgt := 45) hx hb dX3_freeBetween_30 (by decide) (by omega) (by omega) (fun c_30 => ?_) (fun c_30 => ?_)
        · skip
          refine zz_iinc (lv' := [(5, .int (iI (v5 + (1 : Int)))), (0, .ref h), (1, .int (iI zf)), (2, .int (iI zt)), (3, .int (iI (dist (r 0 0) (r 1) f t))), (4, .int (iI v4))]) hx hb dX3_freeBetween_45 hl (k := 5) rfl (by decide) rfl (fun ls hl => ?_)
          refine lv_goto (tgt := 13) hx hb dX3_freeBetween_48 (by decide) ?_
          exact ih13 (i + 1) v4 (v5 + (1 : Int)) (by omega) (by omega) (by rw [sumI_s]; split <;> omega) (by omega) ls (lv_sub hl [1, 2, 3, 4, 5, 0] rfl)
        · skip
          refine lv_iload hx hb dX3_freeBetween_33 (lv_at hl 4 rfl) ?_
          refine lv_aload_n hx hb dX3_freeBetween_35 rfl (lv_at hl 0 rfl) ?_
          refine va_get (D := (dC, dI)) (ci := 3) (v := .ref a2) (C := RX3) (T := TX3) (N := 9) hx hb hts hw3 hown hK hP 0 rfl rfl 6 (by decide) hf19 (fun _ h9 => h9) rfl dX3_freeBetween_36 ?_
          refine lv_iload hx hb dX3_freeBetween_39 (lv_at hl 5 rfl) ?_
          refine zz_iald hx hb hK hP 2 0 (f := (r 2)) rfl rfl (by decide) i (by omega) (by omega) dX3_freeBetween_41 ?_
          have b_41 := hok.at (k := i) (by omega)
          refine zz_isub hx hb dX3_freeBetween_42 ?_
          refine lv_istore (lv' := [(4, .int (iI (v4 - ((r 2) i)))), (0, .ref h), (1, .int (iI zf)), (2, .int (iI zt)), (3, .int (iI (dist (r 0 0) (r 1) f t))), (5, .int (iI v5))]) hx hb dX3_freeBetween_43 hl (by decide) rfl (fun ls hl => ?_)
          refine zz_iinc (lv' := [(5, .int (iI (v5 + (1 : Int)))), (4, .int (iI (v4 - ((r 2) i)))), (0, .ref h), (1, .int (iI zf)), (2, .int (iI zt)), (3, .int (iI (dist (r 0 0) (r 1) f t)))]) hx hb dX3_freeBetween_45 hl (k := 5) rfl (by decide) rfl (fun ls hl => ?_)
          refine lv_goto (tgt := 13) hx hb dX3_freeBetween_48 (by decide) ?_
          exact ih13 (i + 1) (v4 - ((r 2) i)) (v5 + (1 : Int)) (by omega) (by omega) (by rw [sumI_s]; split <;> omega) (by omega) ls (lv_sub hl [2, 3, 4, 5, 1, 0] rfl)
  exact lp13 _ 0 (dist (r 0 0) (r 1) f t) (0 : Int) (by omega) (by omega) (by simp [sumI]) (Nat.lt_succ_self _) ls (lv_sub hl [3, 4, 5, 2, 1, 0] rfl)
set_option maxHeartbeats 4000000 in
set_option maxRecDepth 100000 in
theorem c_X3_rodsBetween (l : Launch) (dC : Nat → ClassId) (dI : Nat → Nat → Nat) (cI cJ cC cO : ClassId) (h a1 a2 a3 a4 : Nat) (r : Nat → Nat → Int) (n : Nat) (hok : Ok r n) (zf : Int) (f : Nat) (ef : zf = (f : Int)) (hf : f < n) (zt : Int) (t : Nat) (et : zt = (t : Int)) (ht : t < n) : Met l yX3_rodsBetween wsX3_rodsBetween ({ frames := 1, cells := 0, slots := 0, locals := 23 } : Room) (va_Pc [.ref h, .int (iI zf), .int (iI zt)] (ro_B (dC, dI) vwCl (tyG cI cJ cC cO) (wSt cI h a1 a2 a3 a4 r))) (ro_Q (fun z => z = rbtw (r 0 0) n (r 1) f t)) 0 0 (fun _ => False) := by
  refine Met.ofW (cc := cX3_rodsBetween) (maxL := 5) (ret := (some .int)) (by decide) rfl ?_
  intro p e s m args below meth c s₁ B hml hv
  obtain ⟨hav, hP, hK⟩ := hv
  have hx := B.exec
  have hb := B.bytes
  have hr := B.returns
  have hts := atoms_spec (ws := wsX3_rodsBetween) B.pre
  have hown : s.vm.findClass RX3 = some m.cls := findClass_of_methodNamed B.named
  have hlocks := B.notSynchronized
  have hf28 := hts (.fieldLink RX3 28 "RingRods$State" "rods" "I") (by decide +kernel)
  have hw3 : ∀ w ∈ u_ws RX3 TX3 9, w ∈ wsX3_rodsBetween := by decide +kernel
  have hP : va_P (dC, dI) vwCl [(h, .inr (3, [.int (iI (r 0 0)), .int (iI (r 0 1)), .int (iI (r 0 2)), .int (iI (r 0 3)), .int (iI (r 0 4)), .ref a1, .ref a2, .ref a3, .ref a4])), (a1, .inl (cI, 8, .inl (fun k => iI ((r 1) k)))), (a2, .inl (cI, 8, .inl (fun k => iI ((r 2) k)))), (a3, .inl (cI, 8, .inl (fun k => iI ((r 3) k)))), (a4, .inl (cI, 8, .inl (fun k => iI ((r 4) k))))] s.heap := hP
  have hl := lv_entry ([.ref h, .int (iI zf), .int (iI zt)]) (n := 5) (Nat.le_of_ble_eq_true rfl)
  have hent : entryFrame m args 5 = F0 m 0 ((lg_sl ([.ref h, .int (iI zf), .int (iI zt)]) ++ List.replicate (5 - (lg_sl ([.ref h, .int (iI zf), .int (iI zt)])).length) Slot.unset).toArray) [] := by rw [hav]; exact lg_entry_eq ..
  rw [hent]
  generalize (lg_sl ([.ref h, .int (iI zf), .int (iI zt)]) ++ List.replicate (5 - (lg_sl ([.ref h, .int (iI zf), .int (iI zt)])).length) Slot.unset).toArray = ls at hl ⊢
  have hl : lv_has ls 5 [(0, .ref h), (1, .int (iI zf)), (2, .int (iI zt))] := hl
  have bd0 := hok.bd
  have bd1 := hok.fr
  refine zz_iconst hx hb dX3_rodsBetween_0 ?_
  refine lv_istore_n (lv' := [(3, .int (iI (0 : Int))), (0, .ref h), (1, .int (iI zf)), (2, .int (iI zt))]) hx hb dX3_rodsBetween_1 rfl hl (by decide) rfl (fun ls hl => ?_)
  refine zz_iconst hx hb dX3_rodsBetween_2 ?_
  refine lv_istore (lv' := [(4, .int (iI (0 : Int))), (3, .int (iI (0 : Int))), (0, .ref h), (1, .int (iI zf)), (2, .int (iI zt))]) hx hb dX3_rodsBetween_3 hl (by decide) rfl (fun ls hl => ?_)
  have lp5 : ∀ (d5 : Nat), ∀ (i : Nat) (v3 v4 : Int) (hi : i ≤ n) (e4 : v4 = (i : Int)) (e3 : v3 = sumI (fun k => if dist (r 0 0) (r 1) f k < dist (r 0 0) (r 1) f t then 1 else 0) i), n - i < d5 → ∀ ls : Array Slot, lv_has ls 5 [(0, .ref h), (1, .int (iI zf)), (2, .int (iI zt)), (3, .int (iI v3)), (4, .int (iI v4))] → W p l e ({ frames := 1, cells := 0, slots := 0, locals := 23 } : Room) s m args below meth c s.heap [] 0 0 (MQ below (ro_Q (fun z => z = rbtw (r 0 0) n (r 1) f t)) args s 0 0 (fun _ => False)) (F0 m 5 ls []) := by
    intro d5
    induction d5 with
    | zero =>
      intro i v3 v4 hi e4 e3 hd5
      exact absurd hd5 (Nat.not_lt_zero _)
    | succ d5 ih5 =>
      intro i v3 v4 hi e4 e3 hd5 ls hl
      refine lv_iload hx hb dX3_rodsBetween_5 (lv_at hl 4 rfl) ?_
      refine lv_aload_n hx hb dX3_rodsBetween_7 rfl (lv_at hl 0 rfl) ?_
      refine va_get (D := (dC, dI)) (ci := 3) (v := .int (iI (r 0 1))) (C := RX3) (T := TX3) (N := 9) hx hb hts hw3 hown hK hP 0 rfl rfl 1 (by decide) hf28 (fun _ h9 => h9) rfl dX3_rodsBetween_8 ?_
      refine zz_icmp_ge (tgt := 39) hx hb dX3_rodsBetween_11 (by decide) (by omega) (by omega) (fun c_11 => ?_) (fun c_11 => ?_)
      · skip
        refine lv_iload_n hx hb dX3_rodsBetween_39 rfl (lv_at hl 3 rfl) ?_
        exact W.iret (v := iI v3) hx hb hr (fun t9 ht9 hW9 => ⟨v3, rfl, by (have h9 : i = n := (by omega)); rw [h9] at e3; simp only [rbtw]; omega, ht9⟩) (fun q hq => by cases hq) dX3_rodsBetween_40
      · skip
        refine lv_aload_n hx hb dX3_rodsBetween_14 rfl (lv_at hl 0 rfl) ?_
        refine lv_iload_n hx hb dX3_rodsBetween_15 rfl (lv_at hl 1 rfl) ?_
        refine lv_iload hx hb dX3_rodsBetween_16 (lv_at hl 4 rfl) ?_
        refine ro_V (As := [.int (iI zf), .int (iI v4)]) (rest := []) ⟨hx, hb, hml, hown, hts⟩ (c_X3_distance l dC dI cI cJ cC cO h a1 a2 a3 a4 r n hok zf f (by omega) (by omega) v4 i (by omega) (by omega)) (cwV 2 hts gX3_rodsBetween_X3_distance rfl rfl rfl (by decide +kernel) ⟨Nat.le_of_ble_eq_true rfl, Nat.le_of_ble_eq_true rfl⟩) hK hP [0, 1, 2, 3, 4] rfl 3 0 rfl rfl rfl hl.1 rfl (Nat.le_of_ble_eq_true rfl) dX3_rodsBetween_18 ⟨Nat.zero_le _, Nat.zero_le _⟩ (fun z_18 hz_18 => ?_)
        subst hz_18
        have bz_18 := hok.dst (a := f) (b := i) (by omega) (by omega)
        refine lv_aload_n hx hb dX3_rodsBetween_21 rfl (lv_at hl 0 rfl) ?_
        refine lv_iload_n hx hb dX3_rodsBetween_22 rfl (lv_at hl 1 rfl) ?_
        refine lv_iload_n hx hb dX3_rodsBetween_23 rfl (lv_at hl 2 rfl) ?_
        refine ro_V (As := [.int (iI zf), .int (iI zt)]) (rest := [.int (iI (dist (r 0 0) (r 1) f i))]) ⟨hx, hb, hml, hown, hts⟩ (c_X3_distance l dC dI cI cJ cC cO h a1 a2 a3 a4 r n hok zf f (by omega) (by omega) zt t (by omega) (by omega)) (cwV 2 hts gX3_rodsBetween_X3_distance rfl rfl rfl (by decide +kernel) ⟨Nat.le_of_ble_eq_true rfl, Nat.le_of_ble_eq_true rfl⟩) hK hP [0, 1, 2, 3, 4] rfl 3 0 rfl rfl rfl hl.1 rfl (Nat.le_of_ble_eq_true rfl) dX3_rodsBetween_24 ⟨Nat.zero_le _, Nat.zero_le _⟩ (fun z_24 hz_24 => ?_)
        subst hz_24
        have bz_24 := hok.dst (a := f) (b := t) (by omega) (by omega)
        refine zz_icmp_ge (tgt := 33) hx hb dX3_rodsBetween_27 (by decide) (by omega) (by omega) (fun c_27 => ?_) (fun c_27 => ?_)
        · skip
          refine zz_iinc (lv' := [(4, .int (iI (v4 + (1 : Int)))), (0, .ref h), (1, .int (iI zf)), (2, .int (iI zt)), (3, .int (iI v3))]) hx hb dX3_rodsBetween_33 hl (k := 4) rfl (by decide) rfl (fun ls hl => ?_)
          refine lv_goto (tgt := 5) hx hb dX3_rodsBetween_36 (by decide) ?_
          exact ih5 (i + 1) v3 (v4 + (1 : Int)) (by omega) (by omega) (by rw [sumI_s]; split <;> omega) (by omega) ls (lv_sub hl [1, 2, 3, 4, 0] rfl)
        · skip
          refine zz_iinc (lv' := [(3, .int (iI (v3 + (1 : Int)))), (0, .ref h), (1, .int (iI zf)), (2, .int (iI zt)), (4, .int (iI v4))]) hx hb dX3_rodsBetween_30 hl (k := 3) rfl (by decide) rfl (fun ls hl => ?_)
          refine zz_iinc (lv' := [(4, .int (iI (v4 + (1 : Int)))), (3, .int (iI (v3 + (1 : Int)))), (0, .ref h), (1, .int (iI zf)), (2, .int (iI zt))]) hx hb dX3_rodsBetween_33 hl (k := 4) rfl (by decide) rfl (fun ls hl => ?_)
          refine lv_goto (tgt := 5) hx hb dX3_rodsBetween_36 (by decide) ?_
          exact ih5 (i + 1) (v3 + (1 : Int)) (v4 + (1 : Int)) (by omega) (by omega) (by rw [sumI_s]; split <;> omega) (by omega) ls (lv_sub hl [2, 3, 4, 1, 0] rfl)
  exact lp5 _ 0 (0 : Int) (0 : Int) (by omega) (by omega) (by simp [sumI]) (Nat.lt_succ_self _) ls (lv_sub hl [2, 3, 4, 1, 0] rfl)
set_option maxHeartbeats 4000000 in
set_option maxRecDepth 100000 in
theorem c_X3_gap (l : Launch) (dC : Nat → ClassId) (dI : Nat → Nat → Nat) (cI cJ cC cO : ClassId) (h a1 a2 a3 a4 : Nat) (r : Nat → Nat → Int) (n : Nat) (hok : Ok r n) (zf : Int) (f : Nat) (ef : zf = (f : Int)) (hf : f < n) : Met l yX3_gap wsX3_gap ({ frames := 2, cells := 0, slots := 0, locals := 48 } : Room) (va_Pc [.ref h, .int (iI zf)] (ro_B (dC, dI) vwCl (tyG cI cJ cC cO) (wSt cI h a1 a2 a3 a4 r))) (ro_Q (fun z => z = gapC (r 0 0) n (r 1) (r 2) f n)) 0 0 (fun _ => False) := by
  refine Met.ofW (cc := cX3_gap) (maxL := 4) (ret := (some .int)) (by decide) rfl ?_
  intro p e s m args below meth c s₁ B hml hv
  obtain ⟨hav, hP, hK⟩ := hv
  have hx := B.exec
  have hb := B.bytes
  have hr := B.returns
  have hts := atoms_spec (ws := wsX3_gap) B.pre
  have hown : s.vm.findClass RX3 = some m.cls := findClass_of_methodNamed B.named
  have hlocks := B.notSynchronized
  have hf28 := hts (.fieldLink RX3 28 "RingRods$State" "rods" "I") (by decide +kernel)
  have hw3 : ∀ w ∈ u_ws RX3 TX3 9, w ∈ wsX3_gap := by decide +kernel
  have hP : va_P (dC, dI) vwCl [(h, .inr (3, [.int (iI (r 0 0)), .int (iI (r 0 1)), .int (iI (r 0 2)), .int (iI (r 0 3)), .int (iI (r 0 4)), .ref a1, .ref a2, .ref a3, .ref a4])), (a1, .inl (cI, 8, .inl (fun k => iI ((r 1) k)))), (a2, .inl (cI, 8, .inl (fun k => iI ((r 2) k)))), (a3, .inl (cI, 8, .inl (fun k => iI ((r 3) k)))), (a4, .inl (cI, 8, .inl (fun k => iI ((r 4) k))))] s.heap := hP
  have hl := lv_entry ([.ref h, .int (iI zf)]) (n := 4) (Nat.le_of_ble_eq_true rfl)
  have hent : entryFrame m args 4 = F0 m 0 ((lg_sl ([.ref h, .int (iI zf)]) ++ List.replicate (4 - (lg_sl ([.ref h, .int (iI zf)])).length) Slot.unset).toArray) [] := by rw [hav]; exact lg_entry_eq ..
  rw [hent]
  generalize (lg_sl ([.ref h, .int (iI zf)]) ++ List.replicate (4 - (lg_sl ([.ref h, .int (iI zf)])).length) Slot.unset).toArray = ls at hl ⊢
  have hl : lv_has ls 4 [(0, .ref h), (1, .int (iI zf))] := hl
  have bd0 := hok.bd
  have bd1 := hok.fr
  refine lv_aload_n hx hb dX3_gap_0 rfl (lv_at hl 0 rfl) ?_
  refine ro_V (As := []) (rest := []) ⟨hx, hb, hml, hown, hts⟩ (c_X3_freeLength l dC dI cI cJ cC cO h a1 a2 a3 a4 r n hok) (cwV 0 hts gX3_gap_X3_freeLength rfl rfl rfl (by decide +kernel) ⟨Nat.le_of_ble_eq_true rfl, Nat.le_of_ble_eq_true rfl⟩) hK hP [0, 1, 2, 3, 4] rfl 3 0 rfl rfl rfl hl.1 rfl (Nat.le_of_ble_eq_true rfl) dX3_gap_1 ⟨Nat.zero_le _, Nat.zero_le _⟩ (fun z_1 hz_1 => ?_)
  subst hz_1
  have bz_1 := hok.fr
  refine lv_istore_n (lv' := [(2, .int (iI (freeL (r 0 0) n (r 2)))), (0, .ref h), (1, .int (iI zf))]) hx hb dX3_gap_4 rfl hl (by decide) rfl (fun ls hl => ?_)
  refine zz_iconst hx hb dX3_gap_5 ?_
  refine lv_istore_n (lv' := [(3, .int (iI (0 : Int))), (2, .int (iI (freeL (r 0 0) n (r 2)))), (0, .ref h), (1, .int (iI zf))]) hx hb dX3_gap_6 rfl hl (by decide) rfl (fun ls hl => ?_)
  have lp7 : ∀ (d7 : Nat), ∀ (i : Nat) (v2 v3 : Int) (hi : i ≤ n) (e3 : v3 = (i : Int)) (e2 : v2 = gapC (r 0 0) n (r 1) (r 2) f i), n - i < d7 → ∀ ls : Array Slot, lv_has ls 4 [(0, .ref h), (1, .int (iI zf)), (2, .int (iI v2)), (3, .int (iI v3))] → W p l e ({ frames := 2, cells := 0, slots := 0, locals := 48 } : Room) s m args below meth c s.heap [] 0 0 (MQ below (ro_Q (fun z => z = gapC (r 0 0) n (r 1) (r 2) f n)) args s 0 0 (fun _ => False)) (F0 m 7 ls []) := by
    intro d7
    induction d7 with
    | zero =>
      intro i v2 v3 hi e3 e2 hd7
      exact absurd hd7 (Nat.not_lt_zero _)
    | succ d7 ih7 =>
      intro i v2 v3 hi e3 e2 hd7 ls hl
      have bg := hok.gp (a := f) hf (i := i) hi
      refine lv_iload_n hx hb dX3_gap_7 rfl (lv_at hl 3 rfl) ?_
      refine lv_aload_n hx hb dX3_gap_8 rfl (lv_at hl 0 rfl) ?_
      refine va_get (D := (dC, dI)) (ci := 3) (v := .int (iI (r 0 1))) (C := RX3) (T := TX3) (N := 9) hx hb hts hw3 hown hK hP 0 rfl rfl 1 (by decide) hf28 (fun _ h9 => h9) rfl dX3_gap_9 ?_
      refine zz_icmp_ge (tgt := 37) hx hb dX3_gap_12 (by decide) (by omega) (by omega) (fun c_12 => ?_) (fun c_12 => ?_)
      · skip
        refine lv_iload_n hx hb dX3_gap_37 rfl (lv_at hl 2 rfl) ?_
        exact W.iret (v := iI v2) hx hb hr (fun t9 ht9 hW9 => ⟨v2, rfl, by (have h9 : i = n := (by omega)); rw [h9] at e2; exact e2, ht9⟩) (fun q hq => by cases hq) dX3_gap_38
      · skip
        refine lv_iload_n hx hb dX3_gap_15 rfl (lv_at hl 3 rfl) ?_
        refine lv_iload_n hx hb dX3_gap_16 rfl (lv_at hl 1 rfl) ?_
        refine zz_icmp_eq (tgt := 31) hx hb dX3_gap_17 (by decide) (by omega) (by omega) (fun c_17 => ?_) (fun c_17 => ?_)
        · skip
          refine zz_iinc (lv' := [(3, .int (iI (v3 + (1 : Int)))), (0, .ref h), (1, .int (iI zf)), (2, .int (iI v2))]) hx hb dX3_gap_31 hl (k := 3) rfl (by decide) rfl (fun ls hl => ?_)
          refine lv_goto (tgt := 7) hx hb dX3_gap_34 (by decide) ?_
          exact ih7 (i + 1) v2 (v3 + (1 : Int)) (by omega) (by omega) (by rw [gapC]; split <;> first | omega | (rw [e2])) (by omega) ls (lv_sub hl [1, 2, 3, 0] rfl)
        · skip
          refine lv_iload_n hx hb dX3_gap_20 rfl (lv_at hl 2 rfl) ?_
          refine lv_aload_n hx hb dX3_gap_21 rfl (lv_at hl 0 rfl) ?_
          refine lv_iload_n hx hb dX3_gap_22 rfl (lv_at hl 1 rfl) ?_
          refine lv_iload_n hx hb dX3_gap_23 rfl (lv_at hl 3 rfl) ?_
          refine ro_V (As := [.int (iI zf), .int (iI v3)]) (rest := [.int (iI v2)]) ⟨hx, hb, hml, hown, hts⟩ (c_X3_freeBetween l dC dI cI cJ cC cO h a1 a2 a3 a4 r n hok zf f (by omega) (by omega) v3 i (by omega) (by omega)) (cwV 2 hts gX3_gap_X3_freeBetween rfl rfl rfl (by decide +kernel) ⟨Nat.le_of_ble_eq_true rfl, Nat.le_of_ble_eq_true rfl⟩) hK hP [0, 1, 2, 3, 4] rfl 3 0 rfl rfl rfl hl.1 rfl (Nat.le_of_ble_eq_true rfl) dX3_gap_24 ⟨Nat.zero_le _, Nat.zero_le _⟩ (fun z_24 hz_24 => ?_)
          subst hz_24
          have bz_24 := hok.fb (a := f) (b := i) (by omega) (by omega)
          refine zz_mmin hx hb hml hl.1 hown (hts (.methodLink RX3 58 Lib.Math.min.name) (by decide +kernel)) (hts (.static Lib.Math.min.name) (by decide +kernel)) (hts (.initialized "java/lang/Math") (by decide +kernel)) (hts (.code Lib.Math.min.name Lib.Math.min.code 2 (some .int)) (by decide +kernel)) (Nat.le_of_ble_eq_true rfl) (Nat.le_of_ble_eq_true rfl) (Nat.zero_le _) (Nat.zero_le _) (by omega) (by omega) dX3_gap_27 ?_
          refine lv_istore_n (lv' := [(2, .int (iI (min v2 (fbtw (r 0 0) n (r 1) (r 2) f i)))), (0, .ref h), (1, .int (iI zf)), (3, .int (iI v3))]) hx hb dX3_gap_30 rfl hl (by decide) rfl (fun ls hl => ?_)
          refine zz_iinc (lv' := [(3, .int (iI (v3 + (1 : Int)))), (2, .int (iI (min v2 (fbtw (r 0 0) n (r 1) (r 2) f i)))), (0, .ref h), (1, .int (iI zf))]) hx hb dX3_gap_31 hl (k := 3) rfl (by decide) rfl (fun ls hl => ?_)
          refine lv_goto (tgt := 7) hx hb dX3_gap_34 (by decide) ?_
          exact ih7 (i + 1) (min v2 (fbtw (r 0 0) n (r 1) (r 2) f i)) (v3 + (1 : Int)) (by omega) (by omega) (by rw [gapC]; split <;> first | omega | (rw [e2])) (by omega) ls (lv_sub hl [2, 3, 1, 0] rfl)
  exact lp7 _ 0 (freeL (r 0 0) n (r 2)) (0 : Int) (by omega) (by omega) (by rfl) (Nat.lt_succ_self _) ls (lv_sub hl [2, 3, 1, 0] rfl)
set_option maxHeartbeats 4000000 in
set_option maxRecDepth 100000 in
theorem c_X3_rodToTheRight (l : Launch) (dC : Nat → ClassId) (dI : Nat → Nat → Nat) (cI cJ cC cO : ClassId) (h a1 a2 a3 a4 : Nat) (r : Nat → Nat → Int) (n : Nat) (hok : Ok r n) (zf : Int) (f : Nat) (ef : zf = (f : Int)) (hf : f < n) : Met l yX3_rodToTheRight wsX3_rodToTheRight ({ frames := 1, cells := 0, slots := 0, locals := 23 } : Room) (va_Pc [.ref h, .int (iI zf)] (ro_B (dC, dI) vwCl (tyG cI cJ cC cO) (wSt cI h a1 a2 a3 a4 r))) (ro_Q (fun z => z = ((nrC (r 0 0) (r 1) f n).1 : Int))) 0 0 (fun _ => False) := by
  refine Met.ofW (cc := cX3_rodToTheRight) (maxL := 5) (ret := (some .int)) (by decide) rfl ?_
  intro p e s m args below meth c s₁ B hml hv
  obtain ⟨hav, hP, hK⟩ := hv
  have hx := B.exec
  have hb := B.bytes
  have hr := B.returns
  have hts := atoms_spec (ws := wsX3_rodToTheRight) B.pre
  have hown : s.vm.findClass RX3 = some m.cls := findClass_of_methodNamed B.named
  have hlocks := B.notSynchronized
  have hf9 := hts (.fieldLink RX3 9 "RingRods$State" "ringLength" "I") (by decide +kernel)
  have hf28 := hts (.fieldLink RX3 28 "RingRods$State" "rods" "I") (by decide +kernel)
  have hw3 : ∀ w ∈ u_ws RX3 TX3 9, w ∈ wsX3_rodToTheRight := by decide +kernel
  have hP : va_P (dC, dI) vwCl [(h, .inr (3, [.int (iI (r 0 0)), .int (iI (r 0 1)), .int (iI (r 0 2)), .int (iI (r 0 3)), .int (iI (r 0 4)), .ref a1, .ref a2, .ref a3, .ref a4])), (a1, .inl (cI, 8, .inl (fun k => iI ((r 1) k)))), (a2, .inl (cI, 8, .inl (fun k => iI ((r 2) k)))), (a3, .inl (cI, 8, .inl (fun k => iI ((r 3) k)))), (a4, .inl (cI, 8, .inl (fun k => iI ((r 4) k))))] s.heap := hP
  have hl := lv_entry ([.ref h, .int (iI zf)]) (n := 5) (Nat.le_of_ble_eq_true rfl)
  have hent : entryFrame m args 5 = F0 m 0 ((lg_sl ([.ref h, .int (iI zf)]) ++ List.replicate (5 - (lg_sl ([.ref h, .int (iI zf)])).length) Slot.unset).toArray) [] := by rw [hav]; exact lg_entry_eq ..
  rw [hent]
  generalize (lg_sl ([.ref h, .int (iI zf)]) ++ List.replicate (5 - (lg_sl ([.ref h, .int (iI zf)])).length) Slot.unset).toArray = ls at hl ⊢
  have hl : lv_has ls 5 [(0, .ref h), (1, .int (iI zf))] := hl
  have bd0 := hok.bd
  have bd1 := hok.fr
  refine lv_iload_n hx hb dX3_rodToTheRight_0 rfl (lv_at hl 1 rfl) ?_
  refine lv_istore_n (lv' := [(2, .int (iI zf)), (0, .ref h), (1, .int (iI zf))]) hx hb dX3_rodToTheRight_1 rfl hl (by decide) rfl (fun ls hl => ?_)
  refine lv_aload_n hx hb dX3_rodToTheRight_2 rfl (lv_at hl 1 rfl) ?_
  refine va_get (D := (dC, dI)) (ci := 3) (v := .int (iI (r 0 0))) (C := RX3) (T := TX3) (N := 9) hx hb hts hw3 hown hK hP 0 rfl rfl 0 (by decide) hf9 (fun _ h9 => h9) rfl dX3_rodToTheRight_3 ?_
  refine lv_istore_n (lv' := [(3, .int (iI (r 0 0))), (2, .int (iI zf)), (0, .ref h), (1, .int (iI zf))]) hx hb dX3_rodToTheRight_6 rfl hl (by decide) rfl (fun ls hl => ?_)
  refine zz_iconst hx hb dX3_rodToTheRight_7 ?_
  refine lv_istore (lv' := [(4, .int (iI (0 : Int))), (3, .int (iI (r 0 0))), (2, .int (iI zf)), (0, .ref h), (1, .int (iI zf))]) hx hb dX3_rodToTheRight_8 hl (by decide) rfl (fun ls hl => ?_)
  have lp10 : ∀ (d10 : Nat), ∀ (i : Nat) (v2 v3 v4 : Int) (hi : i ≤ n) (e4 : v4 = (i : Int)) (e2 : v2 = ((nrC (r 0 0) (r 1) f i).1 : Int)) (e3 : v3 = (nrC (r 0 0) (r 1) f i).2), n - i < d10 → ∀ ls : Array Slot, lv_has ls 5 [(0, .ref h), (1, .int (iI zf)), (2, .int (iI v2)), (3, .int (iI v3)), (4, .int (iI v4))] → W p l e ({ frames := 1, cells := 0, slots := 0, locals := 23 } : Room) s m args below meth c s.heap [] 0 0 (MQ below (ro_Q (fun z => z = ((nrC (r 0 0) (r 1) f n).1 : Int))) args s 0 0 (fun _ => False)) (F0 m 10 ls []) := by
    intro d10
    induction d10 with
    | zero =>
      intro i v2 v3 v4 hi e4 e2 e3 hd10
      exact absurd hd10 (Nat.not_lt_zero _)
    | succ d10 ih10 =>
      intro i v2 v3 v4 hi e4 e2 e3 hd10 ls hl
      have bg := hok.nr (a := f) hf (i := i) hi
      refine lv_iload hx hb dX3_rodToTheRight_10 (lv_at hl 4 rfl) ?_
      refine lv_aload_n hx hb dX3_rodToTheRight_12 rfl (lv_at hl 0 rfl) ?_
      refine va_get (D := (dC, dI)) (ci := 3) (v := .int (iI (r 0 1))) (C := RX3) (T := TX3) (N := 9) hx hb hts hw3 hown hK hP 0 rfl rfl 1 (by decide) hf28 (fun _ h9 => h9) rfl dX3_rodToTheRight_13 ?_
      refine zz_icmp_ge (tgt := 53) hx hb dX3_rodToTheRight_16 (by decide) (by omega) (by omega) (fun c_16 => ?_) (fun c_16 => ?_)
      · skip
        refine lv_iload_n hx hb dX3_rodToTheRight_53 rfl (lv_at hl 2 rfl) ?_
        exact W.iret (v := iI v2) hx hb hr (fun t9 ht9 hW9 => ⟨v2, rfl, by (have h9 : i = n := (by omega)); rw [h9] at e2; exact e2, ht9⟩) (fun q hq => by cases hq) dX3_rodToTheRight_54
      · skip
        refine lv_iload hx hb dX3_rodToTheRight_19 (lv_at hl 4 rfl) ?_
        refine lv_iload_n hx hb dX3_rodToTheRight_21 rfl (lv_at hl 1 rfl) ?_
        refine zz_icmp_eq (tgt := 47) hx hb dX3_rodToTheRight_22 (by decide) (by omega) (by omega) (fun c_22 => ?_) (fun c_22 => ?_)
        · skip
          refine zz_iinc (lv' := [(4, .int (iI (v4 + (1 : Int)))), (0, .ref h), (1, .int (iI zf)), (2, .int (iI v2)), (3, .int (iI v3))]) hx hb dX3_rodToTheRight_47 hl (k := 4) rfl (by decide) rfl (fun ls hl => ?_)
          refine lv_goto (tgt := 10) hx hb dX3_rodToTheRight_50 (by decide) ?_
          exact ih10 (i + 1) v2 v3 (v4 + (1 : Int)) (by omega) (by omega) (by rw [nrC]; split <;> first | omega | (simp only []; omega)) (by rw [nrC]; split <;> first | omega | (simp only []; omega)) (by omega) ls (lv_sub hl [1, 2, 3, 4, 0] rfl)
        · skip
          refine lv_aload_n hx hb dX3_rodToTheRight_25 rfl (lv_at hl 0 rfl) ?_
          refine lv_iload_n hx hb dX3_rodToTheRight_26 rfl (lv_at hl 1 rfl) ?_
          refine lv_iload hx hb dX3_rodToTheRight_27 (lv_at hl 4 rfl) ?_
          refine ro_V (As := [.int (iI zf), .int (iI v4)]) (rest := []) ⟨hx, hb, hml, hown, hts⟩ (c_X3_distance l dC dI cI cJ cC cO h a1 a2 a3 a4 r n hok zf f (by omega) (by omega) v4 i (by omega) (by omega)) (cwV 2 hts gX3_rodToTheRight_X3_distance rfl rfl rfl (by decide +kernel) ⟨Nat.le_of_ble_eq_true rfl, Nat.le_of_ble_eq_true rfl⟩) hK hP [0, 1, 2, 3, 4] rfl 3 0 rfl rfl rfl hl.1 rfl (Nat.le_of_ble_eq_true rfl) dX3_rodToTheRight_29 ⟨Nat.zero_le _, Nat.zero_le _⟩ (fun z_29 hz_29 => ?_)
          subst hz_29
          have bz_29 := hok.dst (a := f) (b := i) (by omega) (by omega)
          refine lv_iload_n hx hb dX3_rodToTheRight_32 rfl (lv_at hl 3 rfl) ?_
          refine zz_icmp_ge (tgt := 47) hx hb dX3_rodToTheRight_33 (by decide) (by omega) (by omega) (fun c_33 => ?_) (fun c_33 => ?_)
          · skip
            refine zz_iinc (lv' := [(4, .int (iI (v4 + (1 : Int)))), (0, .ref h), (1, .int (iI zf)), (2, .int (iI v2)), (3, .int (iI v3))]) hx hb dX3_rodToTheRight_47 hl (k := 4) rfl (by decide) rfl (fun ls hl => ?_)
            refine lv_goto (tgt := 10) hx hb dX3_rodToTheRight_50 (by decide) ?_
            exact ih10 (i + 1) v2 v3 (v4 + (1 : Int)) (by omega) (by omega) (by rw [nrC]; split <;> first | omega | (simp only []; omega)) (by rw [nrC]; split <;> first | omega | (simp only []; omega)) (by omega) ls (lv_sub hl [1, 2, 3, 4, 0] rfl)
          · skip
            refine lv_iload hx hb dX3_rodToTheRight_36 (lv_at hl 4 rfl) ?_
            refine lv_istore_n (lv' := [(2, .int (iI v4)), (0, .ref h), (1, .int (iI zf)), (3, .int (iI v3)), (4, .int (iI v4))]) hx hb dX3_rodToTheRight_38 rfl hl (by decide) rfl (fun ls hl => ?_)
            refine lv_aload_n hx hb dX3_rodToTheRight_39 rfl (lv_at hl 1 rfl) ?_
            refine lv_iload_n hx hb dX3_rodToTheRight_40 rfl (lv_at hl 2 rfl) ?_
            refine lv_iload hx hb dX3_rodToTheRight_41 (lv_at hl 4 rfl) ?_
            refine ro_V (As := [.int (iI zf), .int (iI v4)]) (rest := []) ⟨hx, hb, hml, hown, hts⟩ (c_X3_distance l dC dI cI cJ cC cO h a1 a2 a3 a4 r n hok zf f (by omega) (by omega) v4 i (by omega) (by omega)) (cwV 2 hts gX3_rodToTheRight_X3_distance rfl rfl rfl (by decide +kernel) ⟨Nat.le_of_ble_eq_true rfl, Nat.le_of_ble_eq_true rfl⟩) hK hP [0, 1, 2, 3, 4] rfl 3 0 rfl rfl rfl hl.1 rfl (Nat.le_of_ble_eq_true rfl) dX3_rodToTheRight_43 ⟨Nat.zero_le _, Nat.zero_le _⟩ (fun z_43 hz_43 => ?_)
            subst hz_43
            have bz_43 := hok.dst (a := f) (b := i) (by omega) (by omega)
            refine lv_istore_n (lv' := [(3, .int (iI (dist (r 0 0) (r 1) f i))), (2, .int (iI v4)), (0, .ref h), (1, .int (iI zf)), (4, .int (iI v4))]) hx hb dX3_rodToTheRight_46 rfl hl (by decide) rfl (fun ls hl => ?_)
            refine zz_iinc (lv' := [(4, .int (iI (v4 + (1 : Int)))), (3, .int (iI (dist (r 0 0) (r 1) f i))), (2, .int (iI v4)), (0, .ref h), (1, .int (iI zf))]) hx hb dX3_rodToTheRight_47 hl (k := 4) rfl (by decide) rfl (fun ls hl => ?_)
            refine lv_goto (tgt := 10) hx hb dX3_rodToTheRight_50 (by decide) ?_
            exact ih10 (i + 1) v4 (dist (r 0 0) (r 1) f i) (v4 + (1 : Int)) (by omega) (by omega) (by rw [nrC]; split <;> first | omega | (simp only []; omega)) (by rw [nrC]; split <;> first | omega | (simp only []; omega)) (by omega) ls (lv_sub hl [3, 4, 2, 1, 0] rfl)
  exact lp10 _ 0 zf (r 0 0) (0 : Int) (by omega) (by omega) (by simp only [nrC]; omega) (by simp only [nrC]) (Nat.lt_succ_self _) ls (lv_sub hl [3, 4, 2, 1, 0] rfl)
set_option maxHeartbeats 4000000 in
set_option maxRecDepth 100000 in
theorem c_X3_clusterSize (l : Launch) (dC : Nat → ClassId) (dI : Nat → Nat → Nat) (cI cJ cC cO : ClassId) (h a1 a2 a3 a4 : Nat) (r : Nat → Nat → Int) (n : Nat) (hok : Ok r n) (zf : Int) (f : Nat) (ef : zf = (f : Int)) (hf : f < n) : Met l yX3_clusterSize wsX3_clusterSize ({ frames := 2, cells := 0, slots := 0, locals := 48 } : Room) (va_Pc [.ref h, .int (iI zf)] (ro_B (dC, dI) vwCl (tyG cI cJ cC cO) (wSt cI h a1 a2 a3 a4 r))) (ro_Q (fun z => z = csC (r 0 0) n (r 1) (r 2) f n)) 0 0 (fun _ => False) := by
  refine Met.ofW (cc := cX3_clusterSize) (maxL := 4) (ret := (some .int)) (by decide) rfl ?_
  intro p e s m args below meth c s₁ B hml hv
  obtain ⟨hav, hP, hK⟩ := hv
  have hx := B.exec
  have hb := B.bytes
  have hr := B.returns
  have hts := atoms_spec (ws := wsX3_clusterSize) B.pre
  have hown : s.vm.findClass RX3 = some m.cls := findClass_of_methodNamed B.named
  have hlocks := B.notSynchronized
  have hf28 := hts (.fieldLink RX3 28 "RingRods$State" "rods" "I") (by decide +kernel)
  have hw3 : ∀ w ∈ u_ws RX3 TX3 9, w ∈ wsX3_clusterSize := by decide +kernel
  have hP : va_P (dC, dI) vwCl [(h, .inr (3, [.int (iI (r 0 0)), .int (iI (r 0 1)), .int (iI (r 0 2)), .int (iI (r 0 3)), .int (iI (r 0 4)), .ref a1, .ref a2, .ref a3, .ref a4])), (a1, .inl (cI, 8, .inl (fun k => iI ((r 1) k)))), (a2, .inl (cI, 8, .inl (fun k => iI ((r 2) k)))), (a3, .inl (cI, 8, .inl (fun k => iI ((r 3) k)))), (a4, .inl (cI, 8, .inl (fun k => iI ((r 4) k))))] s.heap := hP
  have hl := lv_entry ([.ref h, .int (iI zf)]) (n := 4) (Nat.le_of_ble_eq_true rfl)
  have hent : entryFrame m args 4 = F0 m 0 ((lg_sl ([.ref h, .int (iI zf)]) ++ List.replicate (4 - (lg_sl ([.ref h, .int (iI zf)])).length) Slot.unset).toArray) [] := by rw [hav]; exact lg_entry_eq ..
  rw [hent]
  generalize (lg_sl ([.ref h, .int (iI zf)]) ++ List.replicate (4 - (lg_sl ([.ref h, .int (iI zf)])).length) Slot.unset).toArray = ls at hl ⊢
  have hl : lv_has ls 4 [(0, .ref h), (1, .int (iI zf))] := hl
  have bd0 := hok.bd
  have bd1 := hok.fr
  refine zz_iconst hx hb dX3_clusterSize_0 ?_
  refine lv_istore_n (lv' := [(2, .int (iI (0 : Int))), (0, .ref h), (1, .int (iI zf))]) hx hb dX3_clusterSize_1 rfl hl (by decide) rfl (fun ls hl => ?_)
  refine zz_iconst hx hb dX3_clusterSize_2 ?_
  refine lv_istore_n (lv' := [(3, .int (iI (0 : Int))), (2, .int (iI (0 : Int))), (0, .ref h), (1, .int (iI zf))]) hx hb dX3_clusterSize_3 rfl hl (by decide) rfl (fun ls hl => ?_)
  have lp4 : ∀ (d4 : Nat), ∀ (i : Nat) (v2 v3 : Int) (hi : i ≤ n) (e3 : v3 = (i : Int)) (e2 : v2 = csC (r 0 0) n (r 1) (r 2) f i), n - i < d4 → ∀ ls : Array Slot, lv_has ls 4 [(0, .ref h), (1, .int (iI zf)), (2, .int (iI v2)), (3, .int (iI v3))] → W p l e ({ frames := 2, cells := 0, slots := 0, locals := 48 } : Room) s m args below meth c s.heap [] 0 0 (MQ below (ro_Q (fun z => z = csC (r 0 0) n (r 1) (r 2) f n)) args s 0 0 (fun _ => False)) (F0 m 4 ls []) := by
    intro d4
    induction d4 with
    | zero =>
      intro i v2 v3 hi e3 e2 hd4
      exact absurd hd4 (Nat.not_lt_zero _)
    | succ d4 ih4 =>
      intro i v2 v3 hi e3 e2 hd4 ls hl
      refine lv_iload_n hx hb dX3_clusterSize_4 rfl (lv_at hl 3 rfl) ?_
      refine lv_aload_n hx hb dX3_clusterSize_5 rfl (lv_at hl 0 rfl) ?_
      refine va_get (D := (dC, dI)) (ci := 3) (v := .int (iI (r 0 1))) (C := RX3) (T := TX3) (N := 9) hx hb hts hw3 hown hK hP 0 rfl rfl 1 (by decide) hf28 (fun _ h9 => h9) rfl dX3_clusterSize_6 ?_
      refine zz_icmp_ge (tgt := 39) hx hb dX3_clusterSize_9 (by decide) (by omega) (by omega) (fun c_9 => ?_) (fun c_9 => ?_)
      · skip
        refine lv_iload_n hx hb dX3_clusterSize_39 rfl (lv_at hl 2 rfl) ?_
        exact W.iret (v := iI v2) hx hb hr (fun t9 ht9 hW9 => ⟨v2, rfl, by (have h9 : i = n := (by omega)); rw [h9] at e2; exact e2, ht9⟩) (fun q hq => by cases hq) dX3_clusterSize_40
      · skip
        refine lv_aload_n hx hb dX3_clusterSize_12 rfl (lv_at hl 0 rfl) ?_
        refine lv_iload_n hx hb dX3_clusterSize_13 rfl (lv_at hl 3 rfl) ?_
        refine lv_iload_n hx hb dX3_clusterSize_14 rfl (lv_at hl 1 rfl) ?_
        refine ro_V (As := [.int (iI v3), .int (iI zf)]) (rest := []) ⟨hx, hb, hml, hown, hts⟩ (c_X3_freeBetween l dC dI cI cJ cC cO h a1 a2 a3 a4 r n hok v3 i (by omega) (by omega) zf f (by omega) (by omega)) (cwV 2 hts gX3_clusterSize_X3_freeBetween rfl rfl rfl (by decide +kernel) ⟨Nat.le_of_ble_eq_true rfl, Nat.le_of_ble_eq_true rfl⟩) hK hP [0, 1, 2, 3, 4] rfl 3 0 rfl rfl rfl hl.1 rfl (Nat.le_of_ble_eq_true rfl) dX3_clusterSize_15 ⟨Nat.zero_le _, Nat.zero_le _⟩ (fun z_15 hz_15 => ?_)
        subst hz_15
        have bz_15 := hok.fb (a := i) (b := f) (by omega) (by omega)
        refine zz_if_eq (tgt := 30) hx hb dX3_clusterSize_18 (by decide) (by omega) (fun c_18 => ?_) (fun c_18 => ?_)
        · skip
          refine zz_iinc (lv' := [(2, .int (iI (v2 + (1 : Int)))), (0, .ref h), (1, .int (iI zf)), (3, .int (iI v3))]) hx hb dX3_clusterSize_30 hl (k := 2) rfl (by decide) rfl (fun ls hl => ?_)
          refine zz_iinc (lv' := [(3, .int (iI (v3 + (1 : Int)))), (2, .int (iI (v2 + (1 : Int)))), (0, .ref h), (1, .int (iI zf))]) hx hb dX3_clusterSize_33 hl (k := 3) rfl (by decide) rfl (fun ls hl => ?_)
          refine lv_goto (tgt := 4) hx hb dX3_clusterSize_36 (by decide) ?_
          exact ih4 (i + 1) (v2 + (1 : Int)) (v3 + (1 : Int)) (by omega) (by omega) (by simp only [csC] at e2 ⊢; rw [sumI_s]; split <;> omega) (by omega) ls (lv_sub hl [2, 3, 1, 0] rfl)
        · skip
          refine lv_aload_n hx hb dX3_clusterSize_21 rfl (lv_at hl 0 rfl) ?_
          refine lv_iload_n hx hb dX3_clusterSize_22 rfl (lv_at hl 1 rfl) ?_
          refine lv_iload_n hx hb dX3_clusterSize_23 rfl (lv_at hl 3 rfl) ?_
          refine ro_V (As := [.int (iI zf), .int (iI v3)]) (rest := []) ⟨hx, hb, hml, hown, hts⟩ (c_X3_freeBetween l dC dI cI cJ cC cO h a1 a2 a3 a4 r n hok zf f (by omega) (by omega) v3 i (by omega) (by omega)) (cwV 2 hts gX3_clusterSize_X3_freeBetween rfl rfl rfl (by decide +kernel) ⟨Nat.le_of_ble_eq_true rfl, Nat.le_of_ble_eq_true rfl⟩) hK hP [0, 1, 2, 3, 4] rfl 3 0 rfl rfl rfl hl.1 rfl (Nat.le_of_ble_eq_true rfl) dX3_clusterSize_24 ⟨Nat.zero_le _, Nat.zero_le _⟩ (fun z_24 hz_24 => ?_)
          subst hz_24
          have bz_24 := hok.fb (a := f) (b := i) (by omega) (by omega)
          refine zz_if_ne (tgt := 33) hx hb dX3_clusterSize_27 (by decide) (by omega) (fun c_27 => ?_) (fun c_27 => ?_)
          · skip
            refine zz_iinc (lv' := [(3, .int (iI (v3 + (1 : Int)))), (0, .ref h), (1, .int (iI zf)), (2, .int (iI v2))]) hx hb dX3_clusterSize_33 hl (k := 3) rfl (by decide) rfl (fun ls hl => ?_)
            refine lv_goto (tgt := 4) hx hb dX3_clusterSize_36 (by decide) ?_
            exact ih4 (i + 1) v2 (v3 + (1 : Int)) (by omega) (by omega) (by simp only [csC] at e2 ⊢; rw [sumI_s]; split <;> omega) (by omega) ls (lv_sub hl [1, 2, 3, 0] rfl)
          · skip
            refine zz_iinc (lv' := [(2, .int (iI (v2 + (1 : Int)))), (0, .ref h), (1, .int (iI zf)), (3, .int (iI v3))]) hx hb dX3_clusterSize_30 hl (k := 2) rfl (by decide) rfl (fun ls hl => ?_)
            refine zz_iinc (lv' := [(3, .int (iI (v3 + (1 : Int)))), (2, .int (iI (v2 + (1 : Int)))), (0, .ref h), (1, .int (iI zf))]) hx hb dX3_clusterSize_33 hl (k := 3) rfl (by decide) rfl (fun ls hl => ?_)
            refine lv_goto (tgt := 4) hx hb dX3_clusterSize_36 (by decide) ?_
            exact ih4 (i + 1) (v2 + (1 : Int)) (v3 + (1 : Int)) (by omega) (by omega) (by simp only [csC] at e2 ⊢; rw [sumI_s]; split <;> omega) (by omega) ls (lv_sub hl [2, 3, 1, 0] rfl)
  exact lp4 _ 0 (0 : Int) (0 : Int) (by omega) (by omega) (by simp [csC, sumI]) (Nat.lt_succ_self _) ls (lv_sub hl [2, 3, 1, 0] rfl)
set_option maxHeartbeats 4000000 in
set_option maxRecDepth 100000 in
theorem c_X3_leftmostOfCluster (l : Launch) (dC : Nat → ClassId) (dI : Nat → Nat → Nat) (cI cJ cC cO : ClassId) (h a1 a2 a3 a4 : Nat) (r : Nat → Nat → Int) (n : Nat) (hok : Ok r n) (zf : Int) (f : Nat) (ef : zf = (f : Int)) (hf : f < n) : Met l yX3_leftmostOfCluster wsX3_leftmostOfCluster ({ frames := 2, cells := 0, slots := 0, locals := 48 } : Room) (va_Pc [.ref h, .int (iI zf)] (ro_B (dC, dI) vwCl (tyG cI cJ cC cO) (wSt cI h a1 a2 a3 a4 r))) (ro_Q (fun z => z = ((lmC (r 0 0) n (r 1) (r 2) f n).1 : Int))) 0 0 (fun _ => False) := by
  refine Met.ofW (cc := cX3_leftmostOfCluster) (maxL := 5) (ret := (some .int)) (by decide) rfl ?_
  intro p e s m args below meth c s₁ B hml hv
  obtain ⟨hav, hP, hK⟩ := hv
  have hx := B.exec
  have hb := B.bytes
  have hr := B.returns
  have hts := atoms_spec (ws := wsX3_leftmostOfCluster) B.pre
  have hown : s.vm.findClass RX3 = some m.cls := findClass_of_methodNamed B.named
  have hlocks := B.notSynchronized
  have hf28 := hts (.fieldLink RX3 28 "RingRods$State" "rods" "I") (by decide +kernel)
  have hw3 : ∀ w ∈ u_ws RX3 TX3 9, w ∈ wsX3_leftmostOfCluster := by decide +kernel
  have hP : va_P (dC, dI) vwCl [(h, .inr (3, [.int (iI (r 0 0)), .int (iI (r 0 1)), .int (iI (r 0 2)), .int (iI (r 0 3)), .int (iI (r 0 4)), .ref a1, .ref a2, .ref a3, .ref a4])), (a1, .inl (cI, 8, .inl (fun k => iI ((r 1) k)))), (a2, .inl (cI, 8, .inl (fun k => iI ((r 2) k)))), (a3, .inl (cI, 8, .inl (fun k => iI ((r 3) k)))), (a4, .inl (cI, 8, .inl (fun k => iI ((r 4) k))))] s.heap := hP
  have hl := lv_entry ([.ref h, .int (iI zf)]) (n := 5) (Nat.le_of_ble_eq_true rfl)
  have hent : entryFrame m args 5 = F0 m 0 ((lg_sl ([.ref h, .int (iI zf)]) ++ List.replicate (5 - (lg_sl ([.ref h, .int (iI zf)])).length) Slot.unset).toArray) [] := by rw [hav]; exact lg_entry_eq ..
  rw [hent]
  generalize (lg_sl ([.ref h, .int (iI zf)]) ++ List.replicate (5 - (lg_sl ([.ref h, .int (iI zf)])).length) Slot.unset).toArray = ls at hl ⊢
  have hl : lv_has ls 5 [(0, .ref h), (1, .int (iI zf))] := hl
  have bd0 := hok.bd
  have bd1 := hok.fr
  refine lv_iload_n hx hb dX3_leftmostOfCluster_0 rfl (lv_at hl 1 rfl) ?_
  refine lv_istore_n (lv' := [(2, .int (iI zf)), (0, .ref h), (1, .int (iI zf))]) hx hb dX3_leftmostOfCluster_1 rfl hl (by decide) rfl (fun ls hl => ?_)
  refine zz_iconst hx hb dX3_leftmostOfCluster_2 ?_
  refine lv_istore_n (lv' := [(3, .int (iI (0 : Int))), (2, .int (iI zf)), (0, .ref h), (1, .int (iI zf))]) hx hb dX3_leftmostOfCluster_3 rfl hl (by decide) rfl (fun ls hl => ?_)
  refine zz_iconst hx hb dX3_leftmostOfCluster_4 ?_
  refine lv_istore (lv' := [(4, .int (iI (0 : Int))), (3, .int (iI (0 : Int))), (2, .int (iI zf)), (0, .ref h), (1, .int (iI zf))]) hx hb dX3_leftmostOfCluster_5 hl (by decide) rfl (fun ls hl => ?_)
  have lp7 : ∀ (d7 : Nat), ∀ (i : Nat) (v2 v3 v4 : Int) (hi : i ≤ n) (e4 : v4 = (i : Int)) (e2 : v2 = ((lmC (r 0 0) n (r 1) (r 2) f i).1 : Int)) (e3 : v3 = (lmC (r 0 0) n (r 1) (r 2) f i).2), n - i < d7 → ∀ ls : Array Slot, lv_has ls 5 [(0, .ref h), (1, .int (iI zf)), (2, .int (iI v2)), (3, .int (iI v3)), (4, .int (iI v4))] → W p l e ({ frames := 2, cells := 0, slots := 0, locals := 48 } : Room) s m args below meth c s.heap [] 0 0 (MQ below (ro_Q (fun z => z = ((lmC (r 0 0) n (r 1) (r 2) f n).1 : Int))) args s 0 0 (fun _ => False)) (F0 m 7 ls []) := by
    intro d7
    induction d7 with
    | zero =>
      intro i v2 v3 v4 hi e4 e2 e3 hd7
      exact absurd hd7 (Nat.not_lt_zero _)
    | succ d7 ih7 =>
      intro i v2 v3 v4 hi e4 e2 e3 hd7 ls hl
      have bg := hok.lm (a := f) hf (i := i) hi
      refine lv_iload hx hb dX3_leftmostOfCluster_7 (lv_at hl 4 rfl) ?_
      refine lv_aload_n hx hb dX3_leftmostOfCluster_9 rfl (lv_at hl 0 rfl) ?_
      refine va_get (D := (dC, dI)) (ci := 3) (v := .int (iI (r 0 1))) (C := RX3) (T := TX3) (N := 9) hx hb hts hw3 hown hK hP 0 rfl rfl 1 (by decide) hf28 (fun _ h9 => h9) rfl dX3_leftmostOfCluster_10 ?_
      refine zz_icmp_ge (tgt := 54) hx hb dX3_leftmostOfCluster_13 (by decide) (by omega) (by omega) (fun c_13 => ?_) (fun c_13 => ?_)
      · skip
        refine lv_iload_n hx hb dX3_leftmostOfCluster_54 rfl (lv_at hl 2 rfl) ?_
        exact W.iret (v := iI v2) hx hb hr (fun t9 ht9 hW9 => ⟨v2, rfl, by (have h9 : i = n := (by omega)); rw [h9] at e2; exact e2, ht9⟩) (fun q hq => by cases hq) dX3_leftmostOfCluster_55
      · skip
        refine lv_aload_n hx hb dX3_leftmostOfCluster_16 rfl (lv_at hl 0 rfl) ?_
        refine lv_iload hx hb dX3_leftmostOfCluster_17 (lv_at hl 4 rfl) ?_
        refine lv_iload_n hx hb dX3_leftmostOfCluster_19 rfl (lv_at hl 1 rfl) ?_
        refine ro_V (As := [.int (iI v4), .int (iI zf)]) (rest := []) ⟨hx, hb, hml, hown, hts⟩ (c_X3_freeBetween l dC dI cI cJ cC cO h a1 a2 a3 a4 r n hok v4 i (by omega) (by omega) zf f (by omega) (by omega)) (cwV 2 hts gX3_leftmostOfCluster_X3_freeBetween rfl rfl rfl (by decide +kernel) ⟨Nat.le_of_ble_eq_true rfl, Nat.le_of_ble_eq_true rfl⟩) hK hP [0, 1, 2, 3, 4] rfl 3 0 rfl rfl rfl hl.1 rfl (Nat.le_of_ble_eq_true rfl) dX3_leftmostOfCluster_20 ⟨Nat.zero_le _, Nat.zero_le _⟩ (fun z_20 hz_20 => ?_)
        subst hz_20
        have bz_20 := hok.fb (a := i) (b := f) (by omega) (by omega)
        refine zz_if_ne (tgt := 48) hx hb dX3_leftmostOfCluster_23 (by decide) (by omega) (fun c_23 => ?_) (fun c_23 => ?_)
        · skip
          refine zz_iinc (lv' := [(4, .int (iI (v4 + (1 : Int)))), (0, .ref h), (1, .int (iI zf)), (2, .int (iI v2)), (3, .int (iI v3))]) hx hb dX3_leftmostOfCluster_48 hl (k := 4) rfl (by decide) rfl (fun ls hl => ?_)
          refine lv_goto (tgt := 7) hx hb dX3_leftmostOfCluster_51 (by decide) ?_
          exact ih7 (i + 1) v2 v3 (v4 + (1 : Int)) (by omega) (by omega) (by rw [lmC]; split <;> first | omega | (simp only []; omega)) (by rw [lmC]; split <;> first | omega | (simp only []; omega)) (by omega) ls (lv_sub hl [1, 2, 3, 4, 0] rfl)
        · skip
          refine lv_aload_n hx hb dX3_leftmostOfCluster_26 rfl (lv_at hl 0 rfl) ?_
          refine lv_iload hx hb dX3_leftmostOfCluster_27 (lv_at hl 4 rfl) ?_
          refine lv_iload_n hx hb dX3_leftmostOfCluster_29 rfl (lv_at hl 1 rfl) ?_
          refine ro_V (As := [.int (iI v4), .int (iI zf)]) (rest := []) ⟨hx, hb, hml, hown, hts⟩ (c_X3_distance l dC dI cI cJ cC cO h a1 a2 a3 a4 r n hok v4 i (by omega) (by omega) zf f (by omega) (by omega)) (cwV 2 hts gX3_leftmostOfCluster_X3_distance rfl rfl rfl (by decide +kernel) ⟨Nat.le_of_ble_eq_true rfl, Nat.le_of_ble_eq_true rfl⟩) hK hP [0, 1, 2, 3, 4] rfl 3 0 rfl rfl rfl hl.1 rfl (Nat.le_of_ble_eq_true rfl) dX3_leftmostOfCluster_30 ⟨Nat.zero_le _, Nat.zero_le _⟩ (fun z_30 hz_30 => ?_)
          subst hz_30
          have bz_30 := hok.dst (a := i) (b := f) (by omega) (by omega)
          refine lv_iload_n hx hb dX3_leftmostOfCluster_33 rfl (lv_at hl 3 rfl) ?_
          refine zz_icmp_le (tgt := 48) hx hb dX3_leftmostOfCluster_34 (by decide) (by omega) (by omega) (fun c_34 => ?_) (fun c_34 => ?_)
          · skip
            refine zz_iinc (lv' := [(4, .int (iI (v4 + (1 : Int)))), (0, .ref h), (1, .int (iI zf)), (2, .int (iI v2)), (3, .int (iI v3))]) hx hb dX3_leftmostOfCluster_48 hl (k := 4) rfl (by decide) rfl (fun ls hl => ?_)
            refine lv_goto (tgt := 7) hx hb dX3_leftmostOfCluster_51 (by decide) ?_
            exact ih7 (i + 1) v2 v3 (v4 + (1 : Int)) (by omega) (by omega) (by rw [lmC]; split <;> first | omega | (simp only []; omega)) (by rw [lmC]; split <;> first | omega | (simp only []; omega)) (by omega) ls (lv_sub hl [1, 2, 3, 4, 0] rfl)
          · skip
            refine lv_iload hx hb dX3_leftmostOfCluster_37 (lv_at hl 4 rfl) ?_
            refine lv_istore_n (lv' := [(2, .int (iI v4)), (0, .ref h), (1, .int (iI zf)), (3, .int (iI v3)), (4, .int (iI v4))]) hx hb dX3_leftmostOfCluster_39 rfl hl (by decide) rfl (fun ls hl => ?_)
            refine lv_aload_n hx hb dX3_leftmostOfCluster_40 rfl (lv_at hl 1 rfl) ?_
            refine lv_iload hx hb dX3_leftmostOfCluster_41 (lv_at hl 4 rfl) ?_
            refine lv_iload_n hx hb dX3_leftmostOfCluster_43 rfl (lv_at hl 2 rfl) ?_
            refine ro_V (As := [.int (iI v4), .int (iI zf)]) (rest := []) ⟨hx, hb, hml, hown, hts⟩ (c_X3_distance l dC dI cI cJ cC cO h a1 a2 a3 a4 r n hok v4 i (by omega) (by omega) zf f (by omega) (by omega)) (cwV 2 hts gX3_leftmostOfCluster_X3_distance rfl rfl rfl (by decide +kernel) ⟨Nat.le_of_ble_eq_true rfl, Nat.le_of_ble_eq_true rfl⟩) hK hP [0, 1, 2, 3, 4] rfl 3 0 rfl rfl rfl hl.1 rfl (Nat.le_of_ble_eq_true rfl) dX3_leftmostOfCluster_44 ⟨Nat.zero_le _, Nat.zero_le _⟩ (fun z_44 hz_44 => ?_)
            subst hz_44
            have bz_44 := hok.dst (a := i) (b := f) (by omega) (by omega)
            refine lv_istore_n (lv' := [(3, .int (iI (dist (r 0 0) (r 1) i f))), (2, .int (iI v4)), (0, .ref h), (1, .int (iI zf)), (4, .int (iI v4))]) hx hb dX3_leftmostOfCluster_47 rfl hl (by decide) rfl (fun ls hl => ?_)
            refine zz_iinc (lv' := [(4, .int (iI (v4 + (1 : Int)))), (3, .int (iI (dist (r 0 0) (r 1) i f))), (2, .int (iI v4)), (0, .ref h), (1, .int (iI zf))]) hx hb dX3_leftmostOfCluster_48 hl (k := 4) rfl (by decide) rfl (fun ls hl => ?_)
            refine lv_goto (tgt := 7) hx hb dX3_leftmostOfCluster_51 (by decide) ?_
            exact ih7 (i + 1) v4 (dist (r 0 0) (r 1) i f) (v4 + (1 : Int)) (by omega) (by omega) (by rw [lmC]; split <;> first | omega | (simp only []; omega)) (by rw [lmC]; split <;> first | omega | (simp only []; omega)) (by omega) ls (lv_sub hl [3, 4, 2, 1, 0] rfl)
  exact lp7 _ 0 zf (0 : Int) (0 : Int) (by omega) (by omega) (by simp only [lmC]; omega) (by simp only [lmC]) (Nat.lt_succ_self _) ls (lv_sub hl [3, 4, 2, 1, 0] rfl)
set_option maxHeartbeats 4000000 in
set_option maxRecDepth 100000 in
theorem c_X3_clusters (l : Launch) (dC : Nat → ClassId) (dI : Nat → Nat → Nat) (cI cJ cC cO : ClassId) (h a1 a2 a3 a4 : Nat) (r : Nat → Nat → Int) (n : Nat) (hok : Ok r n) : Met l yX3_clusters wsX3_clusters ({ frames := 3, cells := 0, slots := 0, locals := 71 } : Room) (va_Pc [.ref h] (ro_B (dC, dI) vwCl (tyG cI cJ cC cO) (wSt cI h a1 a2 a3 a4 r))) (ro_Q (fun z => z = sumI (fun k => if 0 < gapC (r 0 0) n (r 1) (r 2) k n then 1 else 0) n)) 0 0 (fun _ => False) := by
  refine Met.ofW (cc := cX3_clusters) (maxL := 3) (ret := (some .int)) (by decide) rfl ?_
  intro p e s m args below meth c s₁ B hml hv
  obtain ⟨hav, hP, hK⟩ := hv
  have hx := B.exec
  have hb := B.bytes
  have hr := B.returns
  have hts := atoms_spec (ws := wsX3_clusters) B.pre
  have hown : s.vm.findClass RX3 = some m.cls := findClass_of_methodNamed B.named
  have hlocks := B.notSynchronized
  have hf28 := hts (.fieldLink RX3 28 "RingRods$State" "rods" "I") (by decide +kernel)
  have hw3 : ∀ w ∈ u_ws RX3 TX3 9, w ∈ wsX3_clusters := by decide +kernel
  have hP : va_P (dC, dI) vwCl [(h, .inr (3, [.int (iI (r 0 0)), .int (iI (r 0 1)), .int (iI (r 0 2)), .int (iI (r 0 3)), .int (iI (r 0 4)), .ref a1, .ref a2, .ref a3, .ref a4])), (a1, .inl (cI, 8, .inl (fun k => iI ((r 1) k)))), (a2, .inl (cI, 8, .inl (fun k => iI ((r 2) k)))), (a3, .inl (cI, 8, .inl (fun k => iI ((r 3) k)))), (a4, .inl (cI, 8, .inl (fun k => iI ((r 4) k))))] s.heap := hP
  have hl := lv_entry ([.ref h]) (n := 3) (Nat.le_of_ble_eq_true rfl)
  have hent : entryFrame m args 3 = F0 m 0 ((lg_sl ([.ref h]) ++ List.replicate (3 - (lg_sl ([.ref h])).length) Slot.unset).toArray) [] := by rw [hav]; exact lg_entry_eq ..
  rw [hent]
  generalize (lg_sl ([.ref h]) ++ List.replicate (3 - (lg_sl ([.ref h])).length) Slot.unset).toArray = ls at hl ⊢
  have hl : lv_has ls 3 [(0, .ref h)] := hl
  have bd0 := hok.bd
  have bd1 := hok.fr
  refine zz_iconst hx hb dX3_clusters_0 ?_
  refine lv_istore_n (lv' := [(1, .int (iI (0 : Int))), (0, .ref h)]) hx hb dX3_clusters_1 rfl hl (by decide) rfl (fun ls hl => ?_)
  refine zz_iconst hx hb dX3_clusters_2 ?_
  refine lv_istore_n (lv' := [(2, .int (iI (0 : Int))), (1, .int (iI (0 : Int))), (0, .ref h)]) hx hb dX3_clusters_3 rfl hl (by decide) rfl (fun ls hl => ?_)
  have lp4 : ∀ (d4 : Nat), ∀ (i : Nat) (v1 v2 : Int) (hi : i ≤ n) (e2 : v2 = (i : Int)) (e1 : v1 = sumI (fun k => if 0 < gapC (r 0 0) n (r 1) (r 2) k n then 1 else 0) i), n - i < d4 → ∀ ls : Array Slot, lv_has ls 3 [(0, .ref h), (1, .int (iI v1)), (2, .int (iI v2))] → W p l e ({ frames := 3, cells := 0, slots := 0, locals := 71 } : Room) s m args below meth c s.heap [] 0 0 (MQ below (ro_Q (fun z => z = sumI (fun k => if 0 < gapC (r 0 0) n (r 1) (r 2) k n then 1 else 0) n)) args s 0 0 (fun _ => False)) (F0 m 4 ls []) := by
    intro d4
    induction d4 with
    | zero =>
      intro i v1 v2 hi e2 e1 hd4
      exact absurd hd4 (Nat.not_lt_zero _)
    | succ d4 ih4 =>
      intro i v1 v2 hi e2 e1 hd4 ls hl
      refine lv_iload_n hx hb dX3_clusters_4 rfl (lv_at hl 2 rfl) ?_
      refine lv_aload_n hx hb dX3_clusters_5 rfl (lv_at hl 0 rfl) ?_
      refine va_get (D := (dC, dI)) (ci := 3) (v := .int (iI (r 0 1))) (C := RX3) (T := TX3) (N := 9) hx hb hts hw3 hown hK hP 0 rfl rfl 1 (by decide) hf28 (fun _ h9 => h9) rfl dX3_clusters_6 ?_
      refine zz_icmp_ge (tgt := 29) hx hb dX3_clusters_9 (by decide) (by omega) (by omega) (fun c_9 => ?_) (fun c_9 => ?_)
      · skip
        refine lv_iload_n hx hb dX3_clusters_29 rfl (lv_at hl 1 rfl) ?_
        exact W.iret (v := iI v1) hx hb hr (fun t9 ht9 hW9 => ⟨v1, rfl, by (have h9 : i = n := (by omega)); rw [h9] at e1; exact e1, ht9⟩) (fun q hq => by cases hq) dX3_clusters_30
      · skip
        refine lv_aload_n hx hb dX3_clusters_12 rfl (lv_at hl 0 rfl) ?_
        refine lv_iload_n hx hb dX3_clusters_13 rfl (lv_at hl 2 rfl) ?_
        refine ro_V (As := [.int (iI v2)]) (rest := []) ⟨hx, hb, hml, hown, hts⟩ (c_X3_gap l dC dI cI cJ cC cO h a1 a2 a3 a4 r n hok v2 i (by omega) (by omega)) (cwV 1 hts gX3_clusters_X3_gap rfl rfl rfl (by decide +kernel) ⟨Nat.le_of_ble_eq_true rfl, Nat.le_of_ble_eq_true rfl⟩) hK hP [0, 1, 2, 3, 4] rfl 3 0 rfl rfl rfl hl.1 rfl (Nat.le_of_ble_eq_true rfl) dX3_clusters_14 ⟨Nat.zero_le _, Nat.zero_le _⟩ (fun z_14 hz_14 => ?_)
        subst hz_14
        have bz_14 := hok.gp (a := i) (by omega) (i := n) (Nat.le_refl _)
        refine zz_if_le (tgt := 23) hx hb dX3_clusters_17 (by decide) (by omega) (fun c_17 => ?_) (fun c_17 => ?_)
        · skip
          refine zz_iinc (lv' := [(2, .int (iI (v2 + (1 : Int)))), (0, .ref h), (1, .int (iI v1))]) hx hb dX3_clusters_23 hl (k := 2) rfl (by decide) rfl (fun ls hl => ?_)
          refine lv_goto (tgt := 4) hx hb dX3_clusters_26 (by decide) ?_
          exact ih4 (i + 1) v1 (v2 + (1 : Int)) (by omega) (by omega) (by rw [sumI_s]; split <;> omega) (by omega) ls (lv_sub hl [1, 2, 0] rfl)
        · skip
          refine zz_iinc (lv' := [(1, .int (iI (v1 + (1 : Int)))), (0, .ref h), (2, .int (iI v2))]) hx hb dX3_clusters_20 hl (k := 1) rfl (by decide) rfl (fun ls hl => ?_)
          refine zz_iinc (lv' := [(2, .int (iI (v2 + (1 : Int)))), (1, .int (iI (v1 + (1 : Int)))), (0, .ref h)]) hx hb dX3_clusters_23 hl (k := 2) rfl (by decide) rfl (fun ls hl => ?_)
          refine lv_goto (tgt := 4) hx hb dX3_clusters_26 (by decide) ?_
          exact ih4 (i + 1) (v1 + (1 : Int)) (v2 + (1 : Int)) (by omega) (by omega) (by rw [sumI_s]; split <;> omega) (by omega) ls (lv_sub hl [2, 1, 0] rfl)
  exact lp4 _ 0 (0 : Int) (0 : Int) (by omega) (by omega) (by simp [sumI]) (Nat.lt_succ_self _) ls (lv_sub hl [2, 1, 0] rfl)
set_option maxHeartbeats 4000000 in
set_option maxRecDepth 100000 in
theorem c_X3_greatestGap (l : Launch) (dC : Nat → ClassId) (dI : Nat → Nat → Nat) (cI cJ cC cO : ClassId) (h a1 a2 a3 a4 : Nat) (r : Nat → Nat → Int) (n : Nat) (hok : Ok r n) : Met l yX3_greatestGap wsX3_greatestGap ({ frames := 3, cells := 0, slots := 0, locals := 71 } : Room) (va_Pc [.ref h] (ro_B (dC, dI) vwCl (tyG cI cJ cC cO) (wSt cI h a1 a2 a3 a4 r))) (ro_Q (fun z => z = ggC (r 0 0) n (r 1) (r 2) n)) 0 0 (fun _ => False) := by
  refine Met.ofW (cc := cX3_greatestGap) (maxL := 3) (ret := (some .int)) (by decide) rfl ?_
  intro p e s m args below meth c s₁ B hml hv
  obtain ⟨hav, hP, hK⟩ := hv
  have hx := B.exec
  have hb := B.bytes
  have hr := B.returns
  have hts := atoms_spec (ws := wsX3_greatestGap) B.pre
  have hown : s.vm.findClass RX3 = some m.cls := findClass_of_methodNamed B.named
  have hlocks := B.notSynchronized
  have hf28 := hts (.fieldLink RX3 28 "RingRods$State" "rods" "I") (by decide +kernel)
  have hw3 : ∀ w ∈ u_ws RX3 TX3 9, w ∈ wsX3_greatestGap := by decide +kernel
  have hP : va_P (dC, dI) vwCl [(h, .inr (3, [.int (iI (r 0 0)), .int (iI (r 0 1)), .int (iI (r 0 2)), .int (iI (r 0 3)), .int (iI (r 0 4)), .ref a1, .ref a2, .ref a3, .ref a4])), (a1, .inl (cI, 8, .inl (fun k => iI ((r 1) k)))), (a2, .inl (cI, 8, .inl (fun k => iI ((r 2) k)))), (a3, .inl (cI, 8, .inl (fun k => iI ((r 3) k)))), (a4, .inl (cI, 8, .inl (fun k => iI ((r 4) k))))] s.heap := hP
  have hl := lv_entry ([.ref h]) (n := 3) (Nat.le_of_ble_eq_true rfl)
  have hent : entryFrame m args 3 = F0 m 0 ((lg_sl ([.ref h]) ++ List.replicate (3 - (lg_sl ([.ref h])).length) Slot.unset).toArray) [] := by rw [hav]; exact lg_entry_eq ..
  rw [hent]
  generalize (lg_sl ([.ref h]) ++ List.replicate (3 - (lg_sl ([.ref h])).length) Slot.unset).toArray = ls at hl ⊢
  have hl : lv_has ls 3 [(0, .ref h)] := hl
  have bd0 := hok.bd
  have bd1 := hok.fr
  refine zz_iconst hx hb dX3_greatestGap_0 ?_
  refine lv_istore_n (lv' := [(1, .int (iI (0 : Int))), (0, .ref h)]) hx hb dX3_greatestGap_1 rfl hl (by decide) rfl (fun ls hl => ?_)
  refine zz_iconst hx hb dX3_greatestGap_2 ?_
  refine lv_istore_n (lv' := [(2, .int (iI (0 : Int))), (1, .int (iI (0 : Int))), (0, .ref h)]) hx hb dX3_greatestGap_3 rfl hl (by decide) rfl (fun ls hl => ?_)
  have lp4 : ∀ (d4 : Nat), ∀ (i : Nat) (v1 v2 : Int) (hi : i ≤ n) (e2 : v2 = (i : Int)) (e1 : v1 = ggC (r 0 0) n (r 1) (r 2) i), n - i < d4 → ∀ ls : Array Slot, lv_has ls 3 [(0, .ref h), (1, .int (iI v1)), (2, .int (iI v2))] → W p l e ({ frames := 3, cells := 0, slots := 0, locals := 71 } : Room) s m args below meth c s.heap [] 0 0 (MQ below (ro_Q (fun z => z = ggC (r 0 0) n (r 1) (r 2) n)) args s 0 0 (fun _ => False)) (F0 m 4 ls []) := by
    intro d4
    induction d4 with
    | zero =>
      intro i v1 v2 hi e2 e1 hd4
      exact absurd hd4 (Nat.not_lt_zero _)
    | succ d4 ih4 =>
      intro i v1 v2 hi e2 e1 hd4 ls hl
      have bg := hok.gg (i := i) hi
      refine lv_iload_n hx hb dX3_greatestGap_4 rfl (lv_at hl 2 rfl) ?_
      refine lv_aload_n hx hb dX3_greatestGap_5 rfl (lv_at hl 0 rfl) ?_
      refine va_get (D := (dC, dI)) (ci := 3) (v := .int (iI (r 0 1))) (C := RX3) (T := TX3) (N := 9) hx hb hts hw3 hown hK hP 0 rfl rfl 1 (by decide) hf28 (fun _ h9 => h9) rfl dX3_greatestGap_6 ?_
      refine zz_icmp_ge (tgt := 28) hx hb dX3_greatestGap_9 (by decide) (by omega) (by omega) (fun c_9 => ?_) (fun c_9 => ?_)
      · skip
        refine lv_iload_n hx hb dX3_greatestGap_28 rfl (lv_at hl 1 rfl) ?_
        exact W.iret (v := iI v1) hx hb hr (fun t9 ht9 hW9 => ⟨v1, rfl, by (have h9 : i = n := (by omega)); rw [h9] at e1; exact e1, ht9⟩) (fun q hq => by cases hq) dX3_greatestGap_29
      · skip
        refine lv_iload_n hx hb dX3_greatestGap_12 rfl (lv_at hl 1 rfl) ?_
        refine lv_aload_n hx hb dX3_greatestGap_13 rfl (lv_at hl 0 rfl) ?_
        refine lv_iload_n hx hb dX3_greatestGap_14 rfl (lv_at hl 2 rfl) ?_
        refine ro_V (As := [.int (iI v2)]) (rest := [.int (iI v1)]) ⟨hx, hb, hml, hown, hts⟩ (c_X3_gap l dC dI cI cJ cC cO h a1 a2 a3 a4 r n hok v2 i (by omega) (by omega)) (cwV 1 hts gX3_greatestGap_X3_gap rfl rfl rfl (by decide +kernel) ⟨Nat.le_of_ble_eq_true rfl, Nat.le_of_ble_eq_true rfl⟩) hK hP [0, 1, 2, 3, 4] rfl 3 0 rfl rfl rfl hl.1 rfl (Nat.le_of_ble_eq_true rfl) dX3_greatestGap_15 ⟨Nat.zero_le _, Nat.zero_le _⟩ (fun z_15 hz_15 => ?_)
        subst hz_15
        have bz_15 := hok.gp (a := i) (by omega) (i := n) (Nat.le_refl _)
        refine zz_mmax hx hb hml hl.1 hown (hts (.methodLink RX3 66 Lib.Math.max.name) (by decide +kernel)) (hts (.static Lib.Math.max.name) (by decide +kernel)) (hts (.initialized "java/lang/Math") (by decide +kernel)) (hts (.code Lib.Math.max.name Lib.Math.max.code 2 (some .int)) (by decide +kernel)) (Nat.le_of_ble_eq_true rfl) (Nat.le_of_ble_eq_true rfl) (Nat.zero_le _) (Nat.zero_le _) (by omega) (by omega) dX3_greatestGap_18 ?_
        refine lv_istore_n (lv' := [(1, .int (iI (max v1 (gapC (r 0 0) n (r 1) (r 2) i n)))), (0, .ref h), (2, .int (iI v2))]) hx hb dX3_greatestGap_21 rfl hl (by decide) rfl (fun ls hl => ?_)
        refine zz_iinc (lv' := [(2, .int (iI (v2 + (1 : Int)))), (1, .int (iI (max v1 (gapC (r 0 0) n (r 1) (r 2) i n)))), (0, .ref h)]) hx hb dX3_greatestGap_22 hl (k := 2) rfl (by decide) rfl (fun ls hl => ?_)
        refine lv_goto (tgt := 4) hx hb dX3_greatestGap_25 (by decide) ?_
        exact ih4 (i + 1) (max v1 (gapC (r 0 0) n (r 1) (r 2) i n)) (v2 + (1 : Int)) (by omega) (by omega) (by rw [ggC, e1]) (by omega) ls (lv_sub hl [2, 1, 0] rfl)
  exact lp4 _ 0 (0 : Int) (0 : Int) (by omega) (by omega) (by rfl) (Nat.lt_succ_self _) ls (lv_sub hl [2, 1, 0] rfl)
set_option maxHeartbeats 4000000 in
set_option maxRecDepth 100000 in
theorem c_X3_movingRods (l : Launch) (dC : Nat → ClassId) (dI : Nat → Nat → Nat) (cI cJ cC cO : ClassId) (h a1 a2 a3 a4 : Nat) (r : Nat → Nat → Int) (n : Nat) (hok : Ok r n) : Met l yX3_movingRods wsX3_movingRods ({ frames := 0, cells := 0, slots := 0, locals := 0 } : Room) (va_Pc [.ref h] (ro_B (dC, dI) vwCl (tyG cI cJ cC cO) (wSt cI h a1 a2 a3 a4 r))) (ro_Q (fun z => z = sumI (fun k => if r 3 k = 0 then 0 else 1) n)) 0 0 (fun _ => False) := by
  refine Met.ofW (cc := cX3_movingRods) (maxL := 3) (ret := (some .int)) (by decide) rfl ?_
  intro p e s m args below meth c s₁ B hml hv
  obtain ⟨hav, hP, hK⟩ := hv
  have hx := B.exec
  have hb := B.bytes
  have hr := B.returns
  have hts := atoms_spec (ws := wsX3_movingRods) B.pre
  have hown : s.vm.findClass RX3 = some m.cls := findClass_of_methodNamed B.named
  have hlocks := B.notSynchronized
  have hf22 := hts (.fieldLink RX3 22 "RingRods$State" "speed" "[I") (by decide +kernel)
  have hf28 := hts (.fieldLink RX3 28 "RingRods$State" "rods" "I") (by decide +kernel)
  have hw3 : ∀ w ∈ u_ws RX3 TX3 9, w ∈ wsX3_movingRods := by decide +kernel
  have hP : va_P (dC, dI) vwCl [(h, .inr (3, [.int (iI (r 0 0)), .int (iI (r 0 1)), .int (iI (r 0 2)), .int (iI (r 0 3)), .int (iI (r 0 4)), .ref a1, .ref a2, .ref a3, .ref a4])), (a1, .inl (cI, 8, .inl (fun k => iI ((r 1) k)))), (a2, .inl (cI, 8, .inl (fun k => iI ((r 2) k)))), (a3, .inl (cI, 8, .inl (fun k => iI ((r 3) k)))), (a4, .inl (cI, 8, .inl (fun k => iI ((r 4) k))))] s.heap := hP
  have hl := lv_entry ([.ref h]) (n := 3) (Nat.le_of_ble_eq_true rfl)
  have hent : entryFrame m args 3 = F0 m 0 ((lg_sl ([.ref h]) ++ List.replicate (3 - (lg_sl ([.ref h])).length) Slot.unset).toArray) [] := by rw [hav]; exact lg_entry_eq ..
  rw [hent]
  generalize (lg_sl ([.ref h]) ++ List.replicate (3 - (lg_sl ([.ref h])).length) Slot.unset).toArray = ls at hl ⊢
  have hl : lv_has ls 3 [(0, .ref h)] := hl
  have bd0 := hok.bd
  have bd1 := hok.fr
  refine zz_iconst hx hb dX3_movingRods_0 ?_
  refine lv_istore_n (lv' := [(1, .int (iI (0 : Int))), (0, .ref h)]) hx hb dX3_movingRods_1 rfl hl (by decide) rfl (fun ls hl => ?_)
  refine zz_iconst hx hb dX3_movingRods_2 ?_
  refine lv_istore_n (lv' := [(2, .int (iI (0 : Int))), (1, .int (iI (0 : Int))), (0, .ref h)]) hx hb dX3_movingRods_3 rfl hl (by decide) rfl (fun ls hl => ?_)
  have lp4 : ∀ (d4 : Nat), ∀ (i : Nat) (v1 v2 : Int) (hi : i ≤ n) (e2 : v2 = (i : Int)) (e1 : v1 = sumI (fun k => if r 3 k = 0 then 0 else 1) i), n - i < d4 → ∀ ls : Array Slot, lv_has ls 3 [(0, .ref h), (1, .int (iI v1)), (2, .int (iI v2))] → W p l e ({ frames := 0, cells := 0, slots := 0, locals := 0 } : Room) s m args below meth c s.heap [] 0 0 (MQ below (ro_Q (fun z => z = sumI (fun k => if r 3 k = 0 then 0 else 1) n)) args s 0 0 (fun _ => False)) (F0 m 4 ls []) := by
    intro d4
    induction d4 with
    | zero =>
      intro i v1 v2 hi e2 e1 hd4
      exact absurd hd4 (Nat.not_lt_zero _)
    | succ d4 ih4 =>
      intro i v1 v2 hi e2 e1 hd4 ls hl
      refine lv_iload_n hx hb dX3_movingRods_4 rfl (lv_at hl 2 rfl) ?_
      refine lv_aload_n hx hb dX3_movingRods_5 rfl (lv_at hl 0 rfl) ?_
      refine va_get (D := (dC, dI)) (ci := 3) (v := .int (iI (r 0 1))) (C := RX3) (T := TX3) (N := 9) hx hb hts hw3 hown hK hP 0 rfl rfl 1 (by decide) hf28 (fun _ h9 => h9) rfl dX3_movingRods_6 ?_
      refine zz_icmp_ge (tgt := 30) hx hb dX3_movingRods_9 (by decide) (by omega) (by omega) (fun c_9 => ?_) (fun c_9 => ?_)
      · skip
        refine lv_iload_n hx hb dX3_movingRods_30 rfl (lv_at hl 1 rfl) ?_
        exact W.iret (v := iI v1) hx hb hr (fun t9 ht9 hW9 => ⟨v1, rfl, by (have h9 : i = n := (by omega)); rw [h9] at e1; exact e1, ht9⟩) (fun q hq => by cases hq) dX3_movingRods_31
      · skip
        refine lv_aload_n hx hb dX3_movingRods_12 rfl (lv_at hl 0 rfl) ?_
        refine va_get (D := (dC, dI)) (ci := 3) (v := .ref a3) (C := RX3) (T := TX3) (N := 9) hx hb hts hw3 hown hK hP 0 rfl rfl 7 (by decide) hf22 (fun _ h9 => h9) rfl dX3_movingRods_13 ?_
        refine lv_iload_n hx hb dX3_movingRods_16 rfl (lv_at hl 2 rfl) ?_
        refine zz_iald hx hb hK hP 3 0 (f := (r 3)) rfl rfl (by decide) i (by omega) (by omega) dX3_movingRods_17 ?_
        have b_17 := hok.at (k := i) (by omega)
        refine zz_if_eq (tgt := 24) hx hb dX3_movingRods_18 (by decide) (by omega) (fun c_18 => ?_) (fun c_18 => ?_)
        · skip
          refine zz_iinc (lv' := [(2, .int (iI (v2 + (1 : Int)))), (0, .ref h), (1, .int (iI v1))]) hx hb dX3_movingRods_24 hl (k := 2) rfl (by decide) rfl (fun ls hl => ?_)
          refine lv_goto (tgt := 4) hx hb dX3_movingRods_27 (by decide) ?_
          exact ih4 (i + 1) v1 (v2 + (1 : Int)) (by omega) (by omega) (by rw [sumI_s]; split <;> omega) (by omega) ls (lv_sub hl [1, 2, 0] rfl)
        · skip
          refine zz_iinc (lv' := [(1, .int (iI (v1 + (1 : Int)))), (0, .ref h), (2, .int (iI v2))]) hx hb dX3_movingRods_21 hl (k := 1) rfl (by decide) rfl (fun ls hl => ?_)
          refine zz_iinc (lv' := [(2, .int (iI (v2 + (1 : Int)))), (1, .int (iI (v1 + (1 : Int)))), (0, .ref h)]) hx hb dX3_movingRods_24 hl (k := 2) rfl (by decide) rfl (fun ls hl => ?_)
          refine lv_goto (tgt := 4) hx hb dX3_movingRods_27 (by decide) ?_
          exact ih4 (i + 1) (v1 + (1 : Int)) (v2 + (1 : Int)) (by omega) (by omega) (by rw [sumI_s]; split <;> omega) (by omega) ls (lv_sub hl [2, 1, 0] rfl)
  exact lp4 _ 0 (0 : Int) (0 : Int) (by omega) (by omega) (by simp [sumI]) (Nat.lt_succ_self _) ls (lv_sub hl [2, 1, 0] rfl)
set_option maxHeartbeats 4000000 in
set_option maxRecDepth 100000 in
theorem c_X3_sumOfSpeeds (l : Launch) (dC : Nat → ClassId) (dI : Nat → Nat → Nat) (cI cJ cC cO : ClassId) (h a1 a2 a3 a4 : Nat) (r : Nat → Nat → Int) (n : Nat) (hok : Ok r n) : Met l yX3_sumOfSpeeds wsX3_sumOfSpeeds ({ frames := 0, cells := 0, slots := 0, locals := 0 } : Room) (va_Pc [.ref h] (ro_B (dC, dI) vwCl (tyG cI cJ cC cO) (wSt cI h a1 a2 a3 a4 r))) (ro_Q (fun z => z = sumI (r 3) n)) 0 0 (fun _ => False) := by
  refine Met.ofW (cc := cX3_sumOfSpeeds) (maxL := 3) (ret := (some .int)) (by decide) rfl ?_
  intro p e s m args below meth c s₁ B hml hv
  obtain ⟨hav, hP, hK⟩ := hv
  have hx := B.exec
  have hb := B.bytes
  have hr := B.returns
  have hts := atoms_spec (ws := wsX3_sumOfSpeeds) B.pre
  have hown : s.vm.findClass RX3 = some m.cls := findClass_of_methodNamed B.named
  have hlocks := B.notSynchronized
  have hf22 := hts (.fieldLink RX3 22 "RingRods$State" "speed" "[I") (by decide +kernel)
  have hf28 := hts (.fieldLink RX3 28 "RingRods$State" "rods" "I") (by decide +kernel)
  have hw3 : ∀ w ∈ u_ws RX3 TX3 9, w ∈ wsX3_sumOfSpeeds := by decide +kernel
  have hP : va_P (dC, dI) vwCl [(h, .inr (3, [.int (iI (r 0 0)), .int (iI (r 0 1)), .int (iI (r 0 2)), .int (iI (r 0 3)), .int (iI (r 0 4)), .ref a1, .ref a2, .ref a3, .ref a4])), (a1, .inl (cI, 8, .inl (fun k => iI ((r 1) k)))), (a2, .inl (cI, 8, .inl (fun k => iI ((r 2) k)))), (a3, .inl (cI, 8, .inl (fun k => iI ((r 3) k)))), (a4, .inl (cI, 8, .inl (fun k => iI ((r 4) k))))] s.heap := hP
  have hl := lv_entry ([.ref h]) (n := 3) (Nat.le_of_ble_eq_true rfl)
  have hent : entryFrame m args 3 = F0 m 0 ((lg_sl ([.ref h]) ++ List.replicate (3 - (lg_sl ([.ref h])).length) Slot.unset).toArray) [] := by rw [hav]; exact lg_entry_eq ..
  rw [hent]
  generalize (lg_sl ([.ref h]) ++ List.replicate (3 - (lg_sl ([.ref h])).length) Slot.unset).toArray = ls at hl ⊢
  have hl : lv_has ls 3 [(0, .ref h)] := hl
  have bd0 := hok.bd
  have bd1 := hok.fr
  refine zz_iconst hx hb dX3_sumOfSpeeds_0 ?_
  refine lv_istore_n (lv' := [(1, .int (iI (0 : Int))), (0, .ref h)]) hx hb dX3_sumOfSpeeds_1 rfl hl (by decide) rfl (fun ls hl => ?_)
  refine zz_iconst hx hb dX3_sumOfSpeeds_2 ?_
  refine lv_istore_n (lv' := [(2, .int (iI (0 : Int))), (1, .int (iI (0 : Int))), (0, .ref h)]) hx hb dX3_sumOfSpeeds_3 rfl hl (by decide) rfl (fun ls hl => ?_)
  have lp4 : ∀ (d4 : Nat), ∀ (i : Nat) (v1 v2 : Int) (hi : i ≤ n) (e2 : v2 = (i : Int)) (e1 : v1 = sumI (r 3) i), n - i < d4 → ∀ ls : Array Slot, lv_has ls 3 [(0, .ref h), (1, .int (iI v1)), (2, .int (iI v2))] → W p l e ({ frames := 0, cells := 0, slots := 0, locals := 0 } : Room) s m args below meth c s.heap [] 0 0 (MQ below (ro_Q (fun z => z = sumI (r 3) n)) args s 0 0 (fun _ => False)) (F0 m 4 ls []) := by
    intro d4
    induction d4 with
    | zero =>
      intro i v1 v2 hi e2 e1 hd4
      exact absurd hd4 (Nat.not_lt_zero _)
    | succ d4 ih4 =>
      intro i v1 v2 hi e2 e1 hd4 ls hl
      refine lv_iload_n hx hb dX3_sumOfSpeeds_4 rfl (lv_at hl 2 rfl) ?_
      refine lv_aload_n hx hb dX3_sumOfSpeeds_5 rfl (lv_at hl 0 rfl) ?_
      refine va_get (D := (dC, dI)) (ci := 3) (v := .int (iI (r 0 1))) (C := RX3) (T := TX3) (N := 9) hx hb hts hw3 hown hK hP 0 rfl rfl 1 (by decide) hf28 (fun _ h9 => h9) rfl dX3_sumOfSpeeds_6 ?_
      refine zz_icmp_ge (tgt := 27) hx hb dX3_sumOfSpeeds_9 (by decide) (by omega) (by omega) (fun c_9 => ?_) (fun c_9 => ?_)
      · skip
        refine lv_iload_n hx hb dX3_sumOfSpeeds_27 rfl (lv_at hl 1 rfl) ?_
        exact W.iret (v := iI v1) hx hb hr (fun t9 ht9 hW9 => ⟨v1, rfl, by (have h9 : i = n := (by omega)); rw [h9] at e1; exact e1, ht9⟩) (fun q hq => by cases hq) dX3_sumOfSpeeds_28
      · skip
        refine lv_iload_n hx hb dX3_sumOfSpeeds_12 rfl (lv_at hl 1 rfl) ?_
        refine lv_aload_n hx hb dX3_sumOfSpeeds_13 rfl (lv_at hl 0 rfl) ?_
        refine va_get (D := (dC, dI)) (ci := 3) (v := .ref a3) (C := RX3) (T := TX3) (N := 9) hx hb hts hw3 hown hK hP 0 rfl rfl 7 (by decide) hf22 (fun _ h9 => h9) rfl dX3_sumOfSpeeds_14 ?_
        refine lv_iload_n hx hb dX3_sumOfSpeeds_17 rfl (lv_at hl 2 rfl) ?_
        refine zz_iald hx hb hK hP 3 0 (f := (r 3)) rfl rfl (by decide) i (by omega) (by omega) dX3_sumOfSpeeds_18 ?_
        have b_18 := hok.at (k := i) (by omega)
        refine zz_iadd hx hb dX3_sumOfSpeeds_19 ?_
        refine lv_istore_n (lv' := [(1, .int (iI (v1 + ((r 3) i)))), (0, .ref h), (2, .int (iI v2))]) hx hb dX3_sumOfSpeeds_20 rfl hl (by decide) rfl (fun ls hl => ?_)
        refine zz_iinc (lv' := [(2, .int (iI (v2 + (1 : Int)))), (1, .int (iI (v1 + ((r 3) i)))), (0, .ref h)]) hx hb dX3_sumOfSpeeds_21 hl (k := 2) rfl (by decide) rfl (fun ls hl => ?_)
        refine lv_goto (tgt := 4) hx hb dX3_sumOfSpeeds_24 (by decide) ?_
        exact ih4 (i + 1) (v1 + ((r 3) i)) (v2 + (1 : Int)) (by omega) (by omega) (by rw [sumI_s]; omega) (by omega) ls (lv_sub hl [2, 1, 0] rfl)
  exact lp4 _ 0 (0 : Int) (0 : Int) (by omega) (by omega) (by simp [sumI]) (Nat.lt_succ_self _) ls (lv_sub hl [2, 1, 0] rfl)
set_option maxHeartbeats 4000000 in
set_option maxRecDepth 100000 in
theorem c_X3_sumOfSquares (l : Launch) (dC : Nat → ClassId) (dI : Nat → Nat → Nat) (cI cJ cC cO : ClassId) (h a1 a2 a3 a4 : Nat) (r : Nat → Nat → Int) (n : Nat) (hok : Ok r n) : Met l yX3_sumOfSquares wsX3_sumOfSquares ({ frames := 0, cells := 0, slots := 0, locals := 0 } : Room) (va_Pc [.ref h] (ro_B (dC, dI) vwCl (tyG cI cJ cC cO) (wSt cI h a1 a2 a3 a4 r))) (ro_Q (fun z => z = sumI (fun k => r 3 k * r 3 k) n)) 0 0 (fun _ => False) := by
  refine Met.ofW (cc := cX3_sumOfSquares) (maxL := 3) (ret := (some .int)) (by decide) rfl ?_
  intro p e s m args below meth c s₁ B hml hv
  obtain ⟨hav, hP, hK⟩ := hv
  have hx := B.exec
  have hb := B.bytes
  have hr := B.returns
  have hts := atoms_spec (ws := wsX3_sumOfSquares) B.pre
  have hown : s.vm.findClass RX3 = some m.cls := findClass_of_methodNamed B.named
  have hlocks := B.notSynchronized
  have hf22 := hts (.fieldLink RX3 22 "RingRods$State" "speed" "[I") (by decide +kernel)
  have hf28 := hts (.fieldLink RX3 28 "RingRods$State" "rods" "I") (by decide +kernel)
  have hw3 : ∀ w ∈ u_ws RX3 TX3 9, w ∈ wsX3_sumOfSquares := by decide +kernel
  have hP : va_P (dC, dI) vwCl [(h, .inr (3, [.int (iI (r 0 0)), .int (iI (r 0 1)), .int (iI (r 0 2)), .int (iI (r 0 3)), .int (iI (r 0 4)), .ref a1, .ref a2, .ref a3, .ref a4])), (a1, .inl (cI, 8, .inl (fun k => iI ((r 1) k)))), (a2, .inl (cI, 8, .inl (fun k => iI ((r 2) k)))), (a3, .inl (cI, 8, .inl (fun k => iI ((r 3) k)))), (a4, .inl (cI, 8, .inl (fun k => iI ((r 4) k))))] s.heap := hP
  have hl := lv_entry ([.ref h]) (n := 3) (Nat.le_of_ble_eq_true rfl)
  have hent : entryFrame m args 3 = F0 m 0 ((lg_sl ([.ref h]) ++ List.replicate (3 - (lg_sl ([.ref h])).length) Slot.unset).toArray) [] := by rw [hav]; exact lg_entry_eq ..
  rw [hent]
  generalize (lg_sl ([.ref h]) ++ List.replicate (3 - (lg_sl ([.ref h])).length) Slot.unset).toArray = ls at hl ⊢
  have hl : lv_has ls 3 [(0, .ref h)] := hl
  have bd0 := hok.bd
  have bd1 := hok.fr
  refine zz_iconst hx hb dX3_sumOfSquares_0 ?_
  refine lv_istore_n (lv' := [(1, .int (iI (0 : Int))), (0, .ref h)]) hx hb dX3_sumOfSquares_1 rfl hl (by decide) rfl (fun ls hl => ?_)
  refine zz_iconst hx hb dX3_sumOfSquares_2 ?_
  refine lv_istore_n (lv' := [(2, .int (iI (0 : Int))), (1, .int (iI (0 : Int))), (0, .ref h)]) hx hb dX3_sumOfSquares_3 rfl hl (by decide) rfl (fun ls hl => ?_)
  have lp4 : ∀ (d4 : Nat), ∀ (i : Nat) (v1 v2 : Int) (hi : i ≤ n) (e2 : v2 = (i : Int)) (e1 : v1 = sumI (fun k => r 3 k * r 3 k) i), n - i < d4 → ∀ ls : Array Slot, lv_has ls 3 [(0, .ref h), (1, .int (iI v1)), (2, .int (iI v2))] → W p l e ({ frames := 0, cells := 0, slots := 0, locals := 0 } : Room) s m args below meth c s.heap [] 0 0 (MQ below (ro_Q (fun z => z = sumI (fun k => r 3 k * r 3 k) n)) args s 0 0 (fun _ => False)) (F0 m 4 ls []) := by
    intro d4
    induction d4 with
    | zero =>
      intro i v1 v2 hi e2 e1 hd4
      exact absurd hd4 (Nat.not_lt_zero _)
    | succ d4 ih4 =>
      intro i v1 v2 hi e2 e1 hd4 ls hl
      refine lv_iload_n hx hb dX3_sumOfSquares_4 rfl (lv_at hl 2 rfl) ?_
      refine lv_aload_n hx hb dX3_sumOfSquares_5 rfl (lv_at hl 0 rfl) ?_
      refine va_get (D := (dC, dI)) (ci := 3) (v := .int (iI (r 0 1))) (C := RX3) (T := TX3) (N := 9) hx hb hts hw3 hown hK hP 0 rfl rfl 1 (by decide) hf28 (fun _ h9 => h9) rfl dX3_sumOfSquares_6 ?_
      refine zz_icmp_ge (tgt := 34) hx hb dX3_sumOfSquares_9 (by decide) (by omega) (by omega) (fun c_9 => ?_) (fun c_9 => ?_)
      · skip
        refine lv_iload_n hx hb dX3_sumOfSquares_34 rfl (lv_at hl 1 rfl) ?_
        exact W.iret (v := iI v1) hx hb hr (fun t9 ht9 hW9 => ⟨v1, rfl, by (have h9 : i = n := (by omega)); rw [h9] at e1; exact e1, ht9⟩) (fun q hq => by cases hq) dX3_sumOfSquares_35
      · skip
        refine lv_iload_n hx hb dX3_sumOfSquares_12 rfl (lv_at hl 1 rfl) ?_
        refine lv_aload_n hx hb dX3_sumOfSquares_13 rfl (lv_at hl 0 rfl) ?_
        refine va_get (D := (dC, dI)) (ci := 3) (v := .ref a3) (C := RX3) (T := TX3) (N := 9) hx hb hts hw3 hown hK hP 0 rfl rfl 7 (by decide) hf22 (fun _ h9 => h9) rfl dX3_sumOfSquares_14 ?_
        refine lv_iload_n hx hb dX3_sumOfSquares_17 rfl (lv_at hl 2 rfl) ?_
        refine zz_iald hx hb hK hP 3 0 (f := (r 3)) rfl rfl (by decide) i (by omega) (by omega) dX3_sumOfSquares_18 ?_
        have b_18 := hok.at (k := i) (by omega)
        refine lv_aload_n hx hb dX3_sumOfSquares_19 rfl (lv_at hl 0 rfl) ?_
        refine va_get (D := (dC, dI)) (ci := 3) (v := .ref a3) (C := RX3) (T := TX3) (N := 9) hx hb hts hw3 hown hK hP 0 rfl rfl 7 (by decide) hf22 (fun _ h9 => h9) rfl dX3_sumOfSquares_20 ?_
        refine lv_iload_n hx hb dX3_sumOfSquares_23 rfl (lv_at hl 2 rfl) ?_
        refine zz_iald hx hb hK hP 3 0 (f := (r 3)) rfl rfl (by decide) i (by omega) (by omega) dX3_sumOfSquares_24 ?_
        have b_24 := hok.at (k := i) (by omega)
        refine zz_imul hx hb dX3_sumOfSquares_25 ?_
        refine zz_iadd hx hb dX3_sumOfSquares_26 ?_
        refine lv_istore_n (lv' := [(1, .int (iI (v1 + (((r 3) i) * ((r 3) i))))), (0, .ref h), (2, .int (iI v2))]) hx hb dX3_sumOfSquares_27 rfl hl (by decide) rfl (fun ls hl => ?_)
        refine zz_iinc (lv' := [(2, .int (iI (v2 + (1 : Int)))), (1, .int (iI (v1 + (((r 3) i) * ((r 3) i))))), (0, .ref h)]) hx hb dX3_sumOfSquares_28 hl (k := 2) rfl (by decide) rfl (fun ls hl => ?_)
        refine lv_goto (tgt := 4) hx hb dX3_sumOfSquares_31 (by decide) ?_
        exact ih4 (i + 1) (v1 + (((r 3) i) * ((r 3) i))) (v2 + (1 : Int)) (by omega) (by omega) (by rw [sumI_s, e1]) (by omega) ls (lv_sub hl [2, 1, 0] rfl)
  exact lp4 _ 0 (0 : Int) (0 : Int) (by omega) (by omega) (by simp [sumI]) (Nat.lt_succ_self _) ls (lv_sub hl [2, 1, 0] rfl)
set_option maxHeartbeats 4000000 in
set_option maxRecDepth 100000 in
theorem c_X3_rodThatCovers (l : Launch) (dC : Nat → ClassId) (dI : Nat → Nat → Nat) (cI cJ cC cO : ClassId) (h a1 a2 a3 a4 : Nat) (r : Nat → Nat → Int) (n : Nat) (hok : Ok r n) (x : Int) (hx0 : -100000000 < x ∧ x < 100000000) : Met l yX3_rodThatCovers wsX3_rodThatCovers ({ frames := 2, cells := 0, slots := 0, locals := 43 } : Room) (va_Pc [.ref h, .int (iI x)] (ro_B (dC, dI) vwCl (tyG cI cJ cC cO) (wSt cI h a1 a2 a3 a4 r))) (ro_Q (fun z => Cov (r 0 0) n (r 1) (r 2) x z)) 0 0 (fun _ => False) := by
  refine Met.ofW (cc := cX3_rodThatCovers) (maxL := 3) (ret := (some .int)) (by decide) rfl ?_
  intro p e s m args below meth c s₁ B hml hv
  obtain ⟨hav, hP, hK⟩ := hv
  have hx := B.exec
  have hb := B.bytes
  have hr := B.returns
  have hts := atoms_spec (ws := wsX3_rodThatCovers) B.pre
  have hown : s.vm.findClass RX3 = some m.cls := findClass_of_methodNamed B.named
  have hlocks := B.notSynchronized
  have hf15 := hts (.fieldLink RX3 15 "RingRods$State" "place" "[I") (by decide +kernel)
  have hf19 := hts (.fieldLink RX3 19 "RingRods$State" "length" "[I") (by decide +kernel)
  have hf28 := hts (.fieldLink RX3 28 "RingRods$State" "rods" "I") (by decide +kernel)
  have hw3 : ∀ w ∈ u_ws RX3 TX3 9, w ∈ wsX3_rodThatCovers := by decide +kernel
  have hP : va_P (dC, dI) vwCl [(h, .inr (3, [.int (iI (r 0 0)), .int (iI (r 0 1)), .int (iI (r 0 2)), .int (iI (r 0 3)), .int (iI (r 0 4)), .ref a1, .ref a2, .ref a3, .ref a4])), (a1, .inl (cI, 8, .inl (fun k => iI ((r 1) k)))), (a2, .inl (cI, 8, .inl (fun k => iI ((r 2) k)))), (a3, .inl (cI, 8, .inl (fun k => iI ((r 3) k)))), (a4, .inl (cI, 8, .inl (fun k => iI ((r 4) k))))] s.heap := hP
  have hl := lv_entry ([.ref h, .int (iI x)]) (n := 3) (Nat.le_of_ble_eq_true rfl)
  have hent : entryFrame m args 3 = F0 m 0 ((lg_sl ([.ref h, .int (iI x)]) ++ List.replicate (3 - (lg_sl ([.ref h, .int (iI x)])).length) Slot.unset).toArray) [] := by rw [hav]; exact lg_entry_eq ..
  rw [hent]
  generalize (lg_sl ([.ref h, .int (iI x)]) ++ List.replicate (3 - (lg_sl ([.ref h, .int (iI x)])).length) Slot.unset).toArray = ls at hl ⊢
  have hl : lv_has ls 3 [(0, .ref h), (1, .int (iI x))] := hl
  have bd0 := hok.bd
  have bd1 := hok.fr
  refine zz_iconst hx hb dX3_rodThatCovers_0 ?_
  refine lv_istore_n (lv' := [(2, .int (iI (0 : Int))), (0, .ref h), (1, .int (iI x))]) hx hb dX3_rodThatCovers_1 rfl hl (by decide) rfl (fun ls hl => ?_)
  have lp2 : ∀ (d2 : Nat), ∀ (i : Nat) (v2 : Int) (hi : i ≤ n) (e2 : v2 = (i : Int)) (e1 : ∀ j, j < i → ¬ (x - r 1 j) % (r 0 0) < r 2 j), n - i < d2 → ∀ ls : Array Slot, lv_has ls 3 [(0, .ref h), (1, .int (iI x)), (2, .int (iI v2))] → W p l e ({ frames := 2, cells := 0, slots := 0, locals := 43 } : Room) s m args below meth c s.heap [] 0 0 (MQ below (ro_Q (fun z => Cov (r 0 0) n (r 1) (r 2) x z)) args s 0 0 (fun _ => False)) (F0 m 2 ls []) := by
    intro d2
    induction d2 with
    | zero =>
      intro i v2 hi e2 e1 hd2
      exact absurd hd2 (Nat.not_lt_zero _)
    | succ d2 ih2 =>
      intro i v2 hi e2 e1 hd2 ls hl
      refine lv_iload_n hx hb dX3_rodThatCovers_2 rfl (lv_at hl 2 rfl) ?_
      refine lv_aload_n hx hb dX3_rodThatCovers_3 rfl (lv_at hl 0 rfl) ?_
      refine va_get (D := (dC, dI)) (ci := 3) (v := .int (iI (r 0 1))) (C := RX3) (T := TX3) (N := 9) hx hb hts hw3 hown hK hP 0 rfl rfl 1 (by decide) hf28 (fun _ h9 => h9) rfl dX3_rodThatCovers_4 ?_
      refine zz_icmp_ge (tgt := 39) hx hb dX3_rodThatCovers_7 (by decide) (by omega) (by omega) (fun c_7 => ?_) (fun c_7 => ?_)
      · skip
        refine zz_bipush hx hb dX3_rodThatCovers_39 (by decide +kernel) ?_
        exact W.iret (v := iI (-5 : Int)) hx hb hr (fun t9 ht9 hW9 => ⟨(-5 : Int), rfl, Or.inr ⟨rfl, fun j hj => e1 j (by omega)⟩, ht9⟩) (fun q hq => by cases hq) dX3_rodThatCovers_41
      · skip
        refine lv_aload_n hx hb dX3_rodThatCovers_10 rfl (lv_at hl 0 rfl) ?_
        refine lv_iload_n hx hb dX3_rodThatCovers_11 rfl (lv_at hl 1 rfl) ?_
        refine lv_aload_n hx hb dX3_rodThatCovers_12 rfl (lv_at hl 0 rfl) ?_
        refine va_get (D := (dC, dI)) (ci := 3) (v := .ref a1) (C := RX3) (T := TX3) (N := 9) hx hb hts hw3 hown hK hP 0 rfl rfl 5 (by decide) hf15 (fun _ h9 => h9) rfl dX3_rodThatCovers_13 ?_
        refine lv_iload_n hx hb dX3_rodThatCovers_16 rfl (lv_at hl 2 rfl) ?_
        refine zz_iald hx hb hK hP 1 0 (f := (r 1)) rfl rfl (by decide) i (by omega) (by omega) dX3_rodThatCovers_17 ?_
        have b_17 := hok.at (k := i) (by omega)
        refine zz_isub hx hb dX3_rodThatCovers_18 ?_
        refine ro_V (As := [.int (iI (x - ((r 1) i)))]) (rest := []) ⟨hx, hb, hml, hown, hts⟩ (c_X3_onRing l dC dI cI cJ cC cO h a1 a2 a3 a4 r n hok (x - ((r 1) i)) (by omega)) (cwV 1 hts gX3_rodThatCovers_X3_onRing rfl rfl rfl (by decide +kernel) ⟨Nat.le_of_ble_eq_true rfl, Nat.le_of_ble_eq_true rfl⟩) hK hP [0, 1, 2, 3, 4] rfl 3 0 rfl rfl rfl hl.1 rfl (Nat.le_of_ble_eq_true rfl) dX3_rodThatCovers_19 ⟨Nat.zero_le _, Nat.zero_le _⟩ (fun z_19 hz_19 => ?_)
        subst hz_19
        have bz_19 := fm_b (x := (x - ((r 1) i))) (y := r 0 0) (by omega)
        refine lv_aload_n hx hb dX3_rodThatCovers_22 rfl (lv_at hl 0 rfl) ?_
        refine va_get (D := (dC, dI)) (ci := 3) (v := .ref a2) (C := RX3) (T := TX3) (N := 9) hx hb hts hw3 hown hK hP 0 rfl rfl 6 (by decide) hf19 (fun _ h9 => h9) rfl dX3_rodThatCovers_23 ?_
        refine lv_iload_n hx hb dX3_rodThatCovers_26 rfl (lv_at hl 2 rfl) ?_
        refine zz_iald hx hb hK hP 2 0 (f := (r 2)) rfl rfl (by decide) i (by omega) (by omega) dX3_rodThatCovers_27 ?_
        have b_27 := hok.at (k := i) (by omega)
        refine zz_icmp_ge (tgt := 33) hx hb dX3_rodThatCovers_28 (by decide) (by omega) (by omega) (fun c_28 => ?_) (fun c_28 => ?_)
        · skip
          refine zz_iinc (lv' := [(2, .int (iI (v2 + (1 : Int)))), (0, .ref h), (1, .int (iI x))]) hx hb dX3_rodThatCovers_33 hl (k := 2) rfl (by decide) rfl (fun ls hl => ?_)
          refine lv_goto (tgt := 2) hx hb dX3_rodThatCovers_36 (by decide) ?_
          exact ih2 (i + 1) (v2 + (1 : Int)) (by omega) (by omega) (fun j hj => by (rcases Nat.lt_succ_iff_lt_or_eq.mp hj with q | q); exact e1 j q; subst q; omega) (by omega) ls (lv_sub hl [1, 2, 0] rfl)
        · skip
          refine lv_iload_n hx hb dX3_rodThatCovers_31 rfl (lv_at hl 2 rfl) ?_
          exact W.iret (v := iI v2) hx hb hr (fun t9 ht9 hW9 => ⟨v2, rfl, Or.inl ⟨i, by omega, e2, by omega, e1⟩, ht9⟩) (fun q hq => by cases hq) dX3_rodThatCovers_32
  exact lp2 _ 0 (0 : Int) (by omega) (by omega) (fun j hj => absurd hj (Nat.not_lt_zero _)) (Nat.lt_succ_self _) ls (lv_sub hl [1, 2, 0] rfl)
set_option maxHeartbeats 4000000 in
set_option maxRecDepth 100000 in
theorem c_X3_hasRoom (l : Launch) (dC : Nat → ClassId) (dI : Nat → Nat → Nat) (cI cJ cC cO : ClassId) (h a1 a2 a3 a4 : Nat) (r : Nat → Nat → Int) (n : Nat) (hok : Ok r n) (x w : Int) (hx0 : 0 ≤ x ∧ x < r 0 0) (hw0 : 1 ≤ w ∧ w ≤ 20) : Met l yX3_hasRoom wsX3_hasRoom ({ frames := 3, cells := 0, slots := 0, locals := 65 } : Room) (va_Pc [.ref h, .int (iI x), .int (iI w)] (ro_B (dC, dI) vwCl (tyG cI cJ cC cO) (wSt cI h a1 a2 a3 a4 r))) (ro_Q (fun z => (z = 1 ∧ Rmm (r 0 0) n (r 1) (r 2) x w) ∨ (z = 0 ∧ ¬ Rmm (r 0 0) n (r 1) (r 2) x w))) 0 0 (fun _ => False) := by
  refine Met.ofW (cc := cX3_hasRoom) (maxL := 4) (ret := (some .boolean)) (by decide) rfl ?_
  intro p e s m args below meth c s₁ B hml hv
  obtain ⟨hav, hP, hK⟩ := hv
  have hx := B.exec
  have hb := B.bytes
  have hr := B.returns
  have hts := atoms_spec (ws := wsX3_hasRoom) B.pre
  have hown : s.vm.findClass RX3 = some m.cls := findClass_of_methodNamed B.named
  have hlocks := B.notSynchronized
  have hP : va_P (dC, dI) vwCl [(h, .inr (3, [.int (iI (r 0 0)), .int (iI (r 0 1)), .int (iI (r 0 2)), .int (iI (r 0 3)), .int (iI (r 0 4)), .ref a1, .ref a2, .ref a3, .ref a4])), (a1, .inl (cI, 8, .inl (fun k => iI ((r 1) k)))), (a2, .inl (cI, 8, .inl (fun k => iI ((r 2) k)))), (a3, .inl (cI, 8, .inl (fun k => iI ((r 3) k)))), (a4, .inl (cI, 8, .inl (fun k => iI ((r 4) k))))] s.heap := hP
  have hl := lv_entry ([.ref h, .int (iI x), .int (iI w)]) (n := 4) (Nat.le_of_ble_eq_true rfl)
  have hent : entryFrame m args 4 = F0 m 0 ((lg_sl ([.ref h, .int (iI x), .int (iI w)]) ++ List.replicate (4 - (lg_sl ([.ref h, .int (iI x), .int (iI w)])).length) Slot.unset).toArray) [] := by rw [hav]; exact lg_entry_eq ..
  rw [hent]
  generalize (lg_sl ([.ref h, .int (iI x), .int (iI w)]) ++ List.replicate (4 - (lg_sl ([.ref h, .int (iI x), .int (iI w)])).length) Slot.unset).toArray = ls at hl ⊢
  have hl : lv_has ls 4 [(0, .ref h), (1, .int (iI x)), (2, .int (iI w))] := hl
  have bd0 := hok.bd
  have bd1 := hok.fr
  refine lv_iload_n hx hb dX3_hasRoom_0 rfl (lv_at hl 2 rfl) ?_
  refine lv_aload_n hx hb dX3_hasRoom_1 rfl (lv_at hl 0 rfl) ?_
  refine ro_V (As := []) (rest := [.int (iI w)]) ⟨hx, hb, hml, hown, hts⟩ (c_X3_freeLength l dC dI cI cJ cC cO h a1 a2 a3 a4 r n hok) (cwV 0 hts gX3_hasRoom_X3_freeLength rfl rfl rfl (by decide +kernel) ⟨Nat.le_of_ble_eq_true rfl, Nat.le_of_ble_eq_true rfl⟩) hK hP [0, 1, 2, 3, 4] rfl 3 0 rfl rfl rfl hl.1 rfl (Nat.le_of_ble_eq_true rfl) dX3_hasRoom_2 ⟨Nat.zero_le _, Nat.zero_le _⟩ (fun z_2 hz_2 => ?_)
  subst hz_2
  have bz_2 := hok.fr
  refine zz_icmp_lt (tgt := 10) hx hb dX3_hasRoom_5 (by decide) (by omega) (by omega) (fun c_5 => ?_) (fun c_5 => ?_)
  · skip
    refine zz_iconst hx hb dX3_hasRoom_10 ?_
    refine lv_istore_n (lv' := [(3, .int (iI (0 : Int))), (0, .ref h), (1, .int (iI x)), (2, .int (iI w))]) hx hb dX3_hasRoom_11 rfl hl (by decide) rfl (fun ls hl => ?_)
    have lp12 : ∀ (d12 : Nat), ∀ (i : Nat) (v3 : Int) (hi : (i : Int) ≤ w) (e3 : v3 = (i : Int)) (e1 : ∀ j : Nat, j < i → ∀ k, k < n → ¬ ((x + (j : Int)) % (r 0 0) - r 1 k) % (r 0 0) < r 2 k), w.toNat - i < d12 → ∀ ls : Array Slot, lv_has ls 4 [(0, .ref h), (1, .int (iI x)), (2, .int (iI w)), (3, .int (iI v3))] → W p l e ({ frames := 3, cells := 0, slots := 0, locals := 65 } : Room) s m args below meth c s.heap [] 0 0 (MQ below (ro_Q (fun z => (z = 1 ∧ Rmm (r 0 0) n (r 1) (r 2) x w) ∨ (z = 0 ∧ ¬ Rmm (r 0 0) n (r 1) (r 2) x w))) args s 0 0 (fun _ => False)) (F0 m 12 ls []) := by
      intro d12
      induction d12 with
      | zero =>
        intro i v3 hi e3 e1 hd12
        exact absurd hd12 (Nat.not_lt_zero _)
      | succ d12 ih12 =>
        intro i v3 hi e3 e1 hd12 ls hl
        refine lv_iload_n hx hb dX3_hasRoom_12 rfl (lv_at hl 3 rfl) ?_
        refine lv_iload_n hx hb dX3_hasRoom_13 rfl (lv_at hl 2 rfl) ?_
        refine zz_icmp_ge (tgt := 41) hx hb dX3_hasRoom_14 (by decide) (by omega) (by omega) (fun c_14 => ?_) (fun c_14 => ?_)
        · skip
          refine zz_iconst hx hb dX3_hasRoom_41 ?_
          exact W.zret (v := iI (1 : Int)) hx hb hr (rfl) (fun t9 ht9 hW9 => ⟨(1 : Int), rfl, Or.inl ⟨rfl, by omega, fun j hj k hk => e1 j (by omega) k hk⟩, ht9⟩) (fun q hq => by cases hq) dX3_hasRoom_42
        · skip
          refine lv_aload_n hx hb dX3_hasRoom_17 rfl (lv_at hl 0 rfl) ?_
          refine lv_aload_n hx hb dX3_hasRoom_18 rfl (lv_at hl 0 rfl) ?_
          refine lv_iload_n hx hb dX3_hasRoom_19 rfl (lv_at hl 1 rfl) ?_
          refine lv_iload_n hx hb dX3_hasRoom_20 rfl (lv_at hl 3 rfl) ?_
          refine zz_iadd hx hb dX3_hasRoom_21 ?_
          refine ro_V (As := [.int (iI (x + v3))]) (rest := [.ref h]) ⟨hx, hb, hml, hown, hts⟩ (c_X3_onRing l dC dI cI cJ cC cO h a1 a2 a3 a4 r n hok (x + v3) (by omega)) (cwV 1 hts gX3_hasRoom_X3_onRing rfl rfl rfl (by decide +kernel) ⟨Nat.le_of_ble_eq_true rfl, Nat.le_of_ble_eq_true rfl⟩) hK hP [0, 1, 2, 3, 4] rfl 3 0 rfl rfl rfl hl.1 rfl (Nat.le_of_ble_eq_true rfl) dX3_hasRoom_22 ⟨Nat.zero_le _, Nat.zero_le _⟩ (fun z_22 hz_22 => ?_)
          subst hz_22
          have bz_22 := fm_b (x := (x + v3)) (y := r 0 0) (by omega)
          refine ro_V (As := [.int (iI ((x + v3) % (r 0 0)))]) (rest := []) ⟨hx, hb, hml, hown, hts⟩ (c_X3_rodThatCovers l dC dI cI cJ cC cO h a1 a2 a3 a4 r n hok ((x + v3) % (r 0 0)) (by omega)) (cwV 1 hts gX3_hasRoom_X3_rodThatCovers rfl rfl rfl (by decide +kernel) ⟨Nat.le_of_ble_eq_true rfl, Nat.le_of_ble_eq_true rfl⟩) hK hP [0, 1, 2, 3, 4] rfl 3 0 rfl rfl rfl hl.1 rfl (Nat.le_of_ble_eq_true rfl) dX3_hasRoom_25 ⟨Nat.zero_le _, Nat.zero_le _⟩ (fun z_25 hz_25 => ?_)
          have bz_25 := hz_25.bd
          refine zz_bipush hx hb dX3_hasRoom_28 (by decide +kernel) ?_
          refine zz_icmp_eq (tgt := 35) hx hb dX3_hasRoom_30 (by decide) (by omega) (by omega) (fun c_30 => ?_) (fun c_30 => ?_)
          · skip
            refine zz_iinc (lv' := [(3, .int (iI (v3 + (1 : Int)))), (0, .ref h), (1, .int (iI x)), (2, .int (iI w))]) hx hb dX3_hasRoom_35 hl (k := 3) rfl (by decide) rfl (fun ls hl => ?_)
            refine lv_goto (tgt := 12) hx hb dX3_hasRoom_38 (by decide) ?_
            exact ih12 (i + 1) (v3 + (1 : Int)) (by omega) (by omega) (fun j hj k hk => by (rcases Nat.lt_succ_iff_lt_or_eq.mp hj with q9 | q9); exact e1 j q9 k hk; subst q9; rw [← e3]; exact hz_25.no (by omega) k hk) (by omega) ls (lv_sub hl [1, 2, 3, 0] rfl)
          · skip
            refine zz_iconst hx hb dX3_hasRoom_33 ?_
            exact W.zret (v := iI (0 : Int)) hx hb hr (rfl) (fun t9 ht9 hW9 => ⟨(0 : Int), rfl, Or.inr ⟨rfl, fun hR => by (obtain ⟨k, hk, q9⟩ := hz_25.yes (by (have := hz_25.bd); omega)); exact hR.2 i (by omega) k hk (by rw [← e3]; exact q9)⟩, ht9⟩) (fun q hq => by cases hq) dX3_hasRoom_34
    exact lp12 _ 0 (0 : Int) (by omega) (by omega) (fun j hj => absurd hj (Nat.not_lt_zero _)) (Nat.lt_succ_self _) ls (lv_sub hl [1, 2, 3, 0] rfl)
  · skip
    refine zz_iconst hx hb dX3_hasRoom_8 ?_
    exact W.zret (v := iI (0 : Int)) hx hb hr (rfl) (fun t9 ht9 hW9 => ⟨(0 : Int), rfl, Or.inr ⟨rfl, fun hR => absurd hR.1 (by omega)⟩, ht9⟩) (fun q hq => by cases hq) dX3_hasRoom_9
set_option maxHeartbeats 4000000 in
set_option maxRecDepth 100000 in
theorem c_X3_placeBehind (l : Launch) (dC : Nat → ClassId) (dI : Nat → Nat → Nat) (cI cJ cC cO : ClassId) (h a1 a2 a3 a4 : Nat) (r : Nat → Nat → Int) (n : Nat) (hok : Ok r n) (zf : Int) (f : Nat) (ef : zf = (f : Int)) (hf : f < n) (x : Int) (hx0 : -100000000 < x ∧ x < 100000000) : Met l yX3_placeBehind wsX3_placeBehind ({ frames := 2, cells := 0, slots := 0, locals := 43 } : Room) (va_Pc [.ref h, .int (iI zf), .int (iI x)] (ro_B (dC, dI) vwCl (tyG cI cJ cC cO) (wSt cI h a1 a2 a3 a4 r))) (ro_Q (fun z => z = (r 1 f + x) % (r 0 0))) 0 0 (fun _ => False) := by
  refine Met.ofW (cc := cX3_placeBehind) (maxL := 3) (ret := (some .int)) (by decide) rfl ?_
  intro p e s m args below meth c s₁ B hml hv
  obtain ⟨hav, hP, hK⟩ := hv
  have hx := B.exec
  have hb := B.bytes
  have hr := B.returns
  have hts := atoms_spec (ws := wsX3_placeBehind) B.pre
  have hown : s.vm.findClass RX3 = some m.cls := findClass_of_methodNamed B.named
  have hlocks := B.notSynchronized
  have hf15 := hts (.fieldLink RX3 15 "RingRods$State" "place" "[I") (by decide +kernel)
  have hw3 : ∀ w ∈ u_ws RX3 TX3 9, w ∈ wsX3_placeBehind := by decide +kernel
  have hP : va_P (dC, dI) vwCl [(h, .inr (3, [.int (iI (r 0 0)), .int (iI (r 0 1)), .int (iI (r 0 2)), .int (iI (r 0 3)), .int (iI (r 0 4)), .ref a1, .ref a2, .ref a3, .ref a4])), (a1, .inl (cI, 8, .inl (fun k => iI ((r 1) k)))), (a2, .inl (cI, 8, .inl (fun k => iI ((r 2) k)))), (a3, .inl (cI, 8, .inl (fun k => iI ((r 3) k)))), (a4, .inl (cI, 8, .inl (fun k => iI ((r 4) k))))] s.heap := hP
  have hl := lv_entry ([.ref h, .int (iI zf), .int (iI x)]) (n := 3) (Nat.le_of_ble_eq_true rfl)
  have hent : entryFrame m args 3 = F0 m 0 ((lg_sl ([.ref h, .int (iI zf), .int (iI x)]) ++ List.replicate (3 - (lg_sl ([.ref h, .int (iI zf), .int (iI x)])).length) Slot.unset).toArray) [] := by rw [hav]; exact lg_entry_eq ..
  rw [hent]
  generalize (lg_sl ([.ref h, .int (iI zf), .int (iI x)]) ++ List.replicate (3 - (lg_sl ([.ref h, .int (iI zf), .int (iI x)])).length) Slot.unset).toArray = ls at hl ⊢
  have hl : lv_has ls 3 [(0, .ref h), (1, .int (iI zf)), (2, .int (iI x))] := hl
  have bd0 := hok.bd
  have bd1 := hok.fr
  refine lv_aload_n hx hb dX3_placeBehind_0 rfl (lv_at hl 0 rfl) ?_
  refine lv_aload_n hx hb dX3_placeBehind_1 rfl (lv_at hl 0 rfl) ?_
  refine va_get (D := (dC, dI)) (ci := 3) (v := .ref a1) (C := RX3) (T := TX3) (N := 9) hx hb hts hw3 hown hK hP 0 rfl rfl 5 (by decide) hf15 (fun _ h9 => h9) rfl dX3_placeBehind_2 ?_
  refine lv_iload_n hx hb dX3_placeBehind_5 rfl (lv_at hl 1 rfl) ?_
  refine zz_iald hx hb hK hP 1 0 (f := (r 1)) rfl rfl (by decide) f (by omega) (by omega) dX3_placeBehind_6 ?_
  have b_6 := hok.at (k := f) (by omega)
  refine lv_iload_n hx hb dX3_placeBehind_7 rfl (lv_at hl 2 rfl) ?_
  refine zz_iadd hx hb dX3_placeBehind_8 ?_
  refine ro_V (As := [.int (iI (((r 1) f) + x))]) (rest := []) ⟨hx, hb, hml, hown, hts⟩ (c_X3_onRing l dC dI cI cJ cC cO h a1 a2 a3 a4 r n hok (((r 1) f) + x) (by omega)) (cwV 1 hts gX3_placeBehind_X3_onRing rfl rfl rfl (by decide +kernel) ⟨Nat.le_of_ble_eq_true rfl, Nat.le_of_ble_eq_true rfl⟩) hK hP [0, 1, 2, 3, 4] rfl 3 0 rfl rfl rfl hl.1 rfl (Nat.le_of_ble_eq_true rfl) dX3_placeBehind_9 ⟨Nat.zero_le _, Nat.zero_le _⟩ (fun z_9 hz_9 => ?_)
  subst hz_9
  have bz_9 := fm_b (x := (((r 1) f) + x)) (y := r 0 0) (by omega)
  exact W.iret (v := iI ((((r 1) f) + x) % (r 0 0))) hx hb hr (fun t9 ht9 hW9 => ⟨((((r 1) f) + x) % (r 0 0)), rfl, rfl, ht9⟩) (fun q hq => by cases hq) dX3_placeBehind_12
set_option maxHeartbeats 4000000 in
set_option maxRecDepth 100000 in
theorem c_X3_hasRod (l : Launch) (dC : Nat → ClassId) (dI : Nat → Nat → Nat) (cI cJ cC cO : ClassId) (h a1 a2 a3 a4 : Nat) (r : Nat → Nat → Int) (n : Nat) (hok : Ok r n) (x : Int) (hx0 : -2147483648 ≤ x ∧ x < 2147483648) : Met l yX3_hasRod wsX3_hasRod ({ frames := 0, cells := 0, slots := 0, locals := 0 } : Room) (va_Pc [.ref h, .int (iI x)] (ro_B (dC, dI) vwCl (tyG cI cJ cC cO) (wSt cI h a1 a2 a3 a4 r))) (ro_Q (fun z => (z = 1 ∧ 0 ≤ x ∧ x < (n : Int)) ∨ (z = 0 ∧ ¬ (0 ≤ x ∧ x < (n : Int))))) 0 0 (fun _ => False) := by
  refine Met.ofW (cc := cX3_hasRod) (maxL := 2) (ret := (some .boolean)) (by decide) rfl ?_
  intro p e s m args below meth c s₁ B hml hv
  obtain ⟨hav, hP, hK⟩ := hv
  have hx := B.exec
  have hb := B.bytes
  have hr := B.returns
  have hts := atoms_spec (ws := wsX3_hasRod) B.pre
  have hown : s.vm.findClass RX3 = some m.cls := findClass_of_methodNamed B.named
  have hlocks := B.notSynchronized
  have hf28 := hts (.fieldLink RX3 28 "RingRods$State" "rods" "I") (by decide +kernel)
  have hw3 : ∀ w ∈ u_ws RX3 TX3 9, w ∈ wsX3_hasRod := by decide +kernel
  have hP : va_P (dC, dI) vwCl [(h, .inr (3, [.int (iI (r 0 0)), .int (iI (r 0 1)), .int (iI (r 0 2)), .int (iI (r 0 3)), .int (iI (r 0 4)), .ref a1, .ref a2, .ref a3, .ref a4])), (a1, .inl (cI, 8, .inl (fun k => iI ((r 1) k)))), (a2, .inl (cI, 8, .inl (fun k => iI ((r 2) k)))), (a3, .inl (cI, 8, .inl (fun k => iI ((r 3) k)))), (a4, .inl (cI, 8, .inl (fun k => iI ((r 4) k))))] s.heap := hP
  have hl := lv_entry ([.ref h, .int (iI x)]) (n := 2) (Nat.le_of_ble_eq_true rfl)
  have hent : entryFrame m args 2 = F0 m 0 ((lg_sl ([.ref h, .int (iI x)]) ++ List.replicate (2 - (lg_sl ([.ref h, .int (iI x)])).length) Slot.unset).toArray) [] := by rw [hav]; exact lg_entry_eq ..
  rw [hent]
  generalize (lg_sl ([.ref h, .int (iI x)]) ++ List.replicate (2 - (lg_sl ([.ref h, .int (iI x)])).length) Slot.unset).toArray = ls at hl ⊢
  have hl : lv_has ls 2 [(0, .ref h), (1, .int (iI x))] := hl
  have bd0 := hok.bd
  have bd1 := hok.fr
  refine lv_iload_n hx hb dX3_hasRod_0 rfl (lv_at hl 1 rfl) ?_
  refine zz_if_lt (tgt := 16) hx hb dX3_hasRod_1 (by decide) (by omega) (fun c_1 => ?_) (fun c_1 => ?_)
  · skip
    refine zz_iconst hx hb dX3_hasRod_16 ?_
    exact W.zret (v := iI (0 : Int)) hx hb hr (rfl) (fun t9 ht9 hW9 => ⟨(0 : Int), rfl, Or.inr ⟨rfl, by omega⟩, ht9⟩) (fun q hq => by cases hq) dX3_hasRod_17
  · skip
    refine lv_iload_n hx hb dX3_hasRod_4 rfl (lv_at hl 1 rfl) ?_
    refine lv_aload_n hx hb dX3_hasRod_5 rfl (lv_at hl 0 rfl) ?_
    refine va_get (D := (dC, dI)) (ci := 3) (v := .int (iI (r 0 1))) (C := RX3) (T := TX3) (N := 9) hx hb hts hw3 hown hK hP 0 rfl rfl 1 (by decide) hf28 (fun _ h9 => h9) rfl dX3_hasRod_6 ?_
    refine zz_icmp_ge (tgt := 16) hx hb dX3_hasRod_9 (by decide) (by omega) (by omega) (fun c_9 => ?_) (fun c_9 => ?_)
    · skip
      refine zz_iconst hx hb dX3_hasRod_16 ?_
      exact W.zret (v := iI (0 : Int)) hx hb hr (rfl) (fun t9 ht9 hW9 => ⟨(0 : Int), rfl, Or.inr ⟨rfl, by omega⟩, ht9⟩) (fun q hq => by cases hq) dX3_hasRod_17
    · skip
      refine zz_iconst hx hb dX3_hasRod_12 ?_
      refine lv_goto (tgt := 17) hx hb dX3_hasRod_13 (by decide) ?_
      exact W.zret (v := iI (1 : Int)) hx hb hr (rfl) (fun t9 ht9 hW9 => ⟨(1 : Int), rfl, Or.inl ⟨rfl, by omega⟩, ht9⟩) (fun q hq => by cases hq) dX3_hasRod_17
set_option maxHeartbeats 4000000 in
set_option maxRecDepth 100000 in
theorem c_X3_hasPlace (l : Launch) (dC : Nat → ClassId) (dI : Nat → Nat → Nat) (cI cJ cC cO : ClassId) (h a1 a2 a3 a4 : Nat) (r : Nat → Nat → Int) (n : Nat) (hok : Ok r n) (x : Int) (hx0 : -2147483648 ≤ x ∧ x < 2147483648) : Met l yX3_hasPlace wsX3_hasPlace ({ frames := 0, cells := 0, slots := 0, locals := 0 } : Room) (va_Pc [.ref h, .int (iI x)] (ro_B (dC, dI) vwCl (tyG cI cJ cC cO) (wSt cI h a1 a2 a3 a4 r))) (ro_Q (fun z => (z = 1 ∧ 0 ≤ x ∧ x < r 0 0) ∨ (z = 0 ∧ ¬ (0 ≤ x ∧ x < r 0 0)))) 0 0 (fun _ => False) := by
  refine Met.ofW (cc := cX3_hasPlace) (maxL := 2) (ret := (some .boolean)) (by decide) rfl ?_
  intro p e s m args below meth c s₁ B hml hv
  obtain ⟨hav, hP, hK⟩ := hv
  have hx := B.exec
  have hb := B.bytes
  have hr := B.returns
  have hts := atoms_spec (ws := wsX3_hasPlace) B.pre
  have hown : s.vm.findClass RX3 = some m.cls := findClass_of_methodNamed B.named
  have hlocks := B.notSynchronized
  have hf9 := hts (.fieldLink RX3 9 "RingRods$State" "ringLength" "I") (by decide +kernel)
  have hw3 : ∀ w ∈ u_ws RX3 TX3 9, w ∈ wsX3_hasPlace := by decide +kernel
  have hP : va_P (dC, dI) vwCl [(h, .inr (3, [.int (iI (r 0 0)), .int (iI (r 0 1)), .int (iI (r 0 2)), .int (iI (r 0 3)), .int (iI (r 0 4)), .ref a1, .ref a2, .ref a3, .ref a4])), (a1, .inl (cI, 8, .inl (fun k => iI ((r 1) k)))), (a2, .inl (cI, 8, .inl (fun k => iI ((r 2) k)))), (a3, .inl (cI, 8, .inl (fun k => iI ((r 3) k)))), (a4, .inl (cI, 8, .inl (fun k => iI ((r 4) k))))] s.heap := hP
  have hl := lv_entry ([.ref h, .int (iI x)]) (n := 2) (Nat.le_of_ble_eq_true rfl)
  have hent : entryFrame m args 2 = F0 m 0 ((lg_sl ([.ref h, .int (iI x)]) ++ List.replicate (2 - (lg_sl ([.ref h, .int (iI x)])).length) Slot.unset).toArray) [] := by rw [hav]; exact lg_entry_eq ..
  rw [hent]
  generalize (lg_sl ([.ref h, .int (iI x)]) ++ List.replicate (2 - (lg_sl ([.ref h, .int (iI x)])).length) Slot.unset).toArray = ls at hl ⊢
  have hl : lv_has ls 2 [(0, .ref h), (1, .int (iI x))] := hl
  have bd0 := hok.bd
  have bd1 := hok.fr
  refine lv_iload_n hx hb dX3_hasPlace_0 rfl (lv_at hl 1 rfl) ?_
  refine zz_if_lt (tgt := 16) hx hb dX3_hasPlace_1 (by decide) (by omega) (fun c_1 => ?_) (fun c_1 => ?_)
  · skip
    refine zz_iconst hx hb dX3_hasPlace_16 ?_
    exact W.zret (v := iI (0 : Int)) hx hb hr (rfl) (fun t9 ht9 hW9 => ⟨(0 : Int), rfl, Or.inr ⟨rfl, by omega⟩, ht9⟩) (fun q hq => by cases hq) dX3_hasPlace_17
  · skip
    refine lv_iload_n hx hb dX3_hasPlace_4 rfl (lv_at hl 1 rfl) ?_
    refine lv_aload_n hx hb dX3_hasPlace_5 rfl (lv_at hl 0 rfl) ?_
    refine va_get (D := (dC, dI)) (ci := 3) (v := .int (iI (r 0 0))) (C := RX3) (T := TX3) (N := 9) hx hb hts hw3 hown hK hP 0 rfl rfl 0 (by decide) hf9 (fun _ h9 => h9) rfl dX3_hasPlace_6 ?_
    refine zz_icmp_ge (tgt := 16) hx hb dX3_hasPlace_9 (by decide) (by omega) (by omega) (fun c_9 => ?_) (fun c_9 => ?_)
    · skip
      refine zz_iconst hx hb dX3_hasPlace_16 ?_
      exact W.zret (v := iI (0 : Int)) hx hb hr (rfl) (fun t9 ht9 hW9 => ⟨(0 : Int), rfl, Or.inr ⟨rfl, by omega⟩, ht9⟩) (fun q hq => by cases hq) dX3_hasPlace_17
    · skip
      refine zz_iconst hx hb dX3_hasPlace_12 ?_
      refine lv_goto (tgt := 17) hx hb dX3_hasPlace_13 (by decide) ?_
      exact W.zret (v := iI (1 : Int)) hx hb hr (rfl) (fun t9 ht9 hW9 => ⟨(1 : Int), rfl, Or.inl ⟨rfl, by omega⟩, ht9⟩) (fun q hq => by cases hq) dX3_hasPlace_17
set_option maxHeartbeats 4000000 in
set_option maxRecDepth 100000 in
theorem c_X3_append (l : Launch) (dC : Nat → ClassId) (dI : Nat → Nat → Nat) (cI cJ cC cO : ClassId) (h a1 a2 a3 a4 : Nat) (r : Nat → Nat → Int) (n : Nat) (hok : Ok r n) (hn : n < 8) (x w v : Int) : Met l yX3_append wsX3_append ({ frames := 0, cells := 0, slots := 0, locals := 0 } : Room) (va_Pc [.ref h, .int (iI x), .int (iI w), .int (iI v)] (wr_B (dC, dI) vwCl (tyG cI cJ cC cO) (wSt cI h a1 a2 a3 a4 r))) (wr_Q (fun (z : Int) (u : Unit) => z = (n : Int)) (fun u t => va_P (dC, dI) vwCl (wSt cI h a1 a2 a3 a4 (rSet (up (r 0) 1 ((n : Int) + 1)) (up (r 1) n x) (up (r 2) n w) (up (r 3) n v) (up (r 4) n 0))) t.heap) (wr_A (wSt cI h a1 a2 a3 a4 r))) 0 0 (wr_A (wSt cI h a1 a2 a3 a4 r)) := by
  refine Met.ofW (cc := cX3_append) (maxL := 5) (ret := (some .int)) (by decide) rfl ?_
  intro p e s m args below meth c s₁ B hml hv
  obtain ⟨hav, hP, hK, hD0⟩ := hv
  have hx := B.exec
  have hb := B.bytes
  have hr := B.returns
  have hts := atoms_spec (ws := wsX3_append) B.pre
  have hown : s.vm.findClass RX3 = some m.cls := findClass_of_methodNamed B.named
  have hlocks := B.notSynchronized
  have hf15 := hts (.fieldLink RX3 15 "RingRods$State" "place" "[I") (by decide +kernel)
  have hf19 := hts (.fieldLink RX3 19 "RingRods$State" "length" "[I") (by decide +kernel)
  have hf22 := hts (.fieldLink RX3 22 "RingRods$State" "speed" "[I") (by decide +kernel)
  have hf25 := hts (.fieldLink RX3 25 "RingRods$State" "way" "[I") (by decide +kernel)
  have hf28 := hts (.fieldLink RX3 28 "RingRods$State" "rods" "I") (by decide +kernel)
  have hw3 : ∀ w ∈ u_ws RX3 TX3 9, w ∈ wsX3_append := by decide +kernel
  have hD := va_D.slf hD0
  have hS : va_S (wr_A (wSt cI h a1 a2 a3 a4 r)) s.heap s.heap [] := va_S.rf
  show W p l e ({ frames := 0, cells := 0, slots := 0, locals := 0 } : Room) s m args below meth c s.heap [] 0 0 (MQ below (wr_Q (fun (z : Int) (u : Unit) => z = (n : Int)) (fun u t => va_P (dC, dI) vwCl (wSt cI h a1 a2 a3 a4 (rSet (up (r 0) 1 ((n : Int) + 1)) (up (r 1) n x) (up (r 2) n w) (up (r 3) n v) (up (r 4) n 0))) t.heap) (wr_A (wSt cI h a1 a2 a3 a4 r))) args s 0 0 (wr_A (wSt cI h a1 a2 a3 a4 r))) (entryFrame m args 5)
  generalize hAe : wr_A (wSt cI h a1 a2 a3 a4 r) = A at hD hS ⊢
  have hP : va_P (dC, dI) vwCl [(h, .inr (3, [.int (iI (r 0 0)), .int (iI (r 0 1)), .int (iI (r 0 2)), .int (iI (r 0 3)), .int (iI (r 0 4)), .ref a1, .ref a2, .ref a3, .ref a4])), (a1, .inl (cI, 8, .inl (fun k => iI ((r 1) k)))), (a2, .inl (cI, 8, .inl (fun k => iI ((r 2) k)))), (a3, .inl (cI, 8, .inl (fun k => iI ((r 3) k)))), (a4, .inl (cI, 8, .inl (fun k => iI ((r 4) k))))] s.heap := hP
  have hD : va_D A [(h, .inr (3, [.int (iI (r 0 0)), .int (iI (r 0 1)), .int (iI (r 0 2)), .int (iI (r 0 3)), .int (iI (r 0 4)), .ref a1, .ref a2, .ref a3, .ref a4])), (a1, .inl (cI, 8, .inl (fun k => iI ((r 1) k)))), (a2, .inl (cI, 8, .inl (fun k => iI ((r 2) k)))), (a3, .inl (cI, 8, .inl (fun k => iI ((r 3) k)))), (a4, .inl (cI, 8, .inl (fun k => iI ((r 4) k))))] := hD
  have hl := lv_entry ([.ref h, .int (iI x), .int (iI w), .int (iI v)]) (n := 5) (Nat.le_of_ble_eq_true rfl)
  have hent : entryFrame m args 5 = F0 m 0 ((lg_sl ([.ref h, .int (iI x), .int (iI w), .int (iI v)]) ++ List.replicate (5 - (lg_sl ([.ref h, .int (iI x), .int (iI w), .int (iI v)])).length) Slot.unset).toArray) [] := by rw [hav]; exact lg_entry_eq ..
  rw [hent]
  generalize (lg_sl ([.ref h, .int (iI x), .int (iI w), .int (iI v)]) ++ List.replicate (5 - (lg_sl ([.ref h, .int (iI x), .int (iI w), .int (iI v)])).length) Slot.unset).toArray = ls at hl ⊢
  have hl : lv_has ls 5 [(0, .ref h), (1, .int (iI x)), (2, .int (iI w)), (3, .int (iI v))] := hl
  have bd0 := hok.bd
  have bd1 := hok.fr
  refine lv_aload_n hx hb dX3_append_0 rfl (lv_at hl 0 rfl) ?_
  refine va_get (D := (dC, dI)) (ci := 3) (v := .int (iI (r 0 1))) (C := RX3) (T := TX3) (N := 9) hx hb hts hw3 hown hK hP 0 rfl rfl 1 (by decide) hf28 (fun _ h9 => h9) rfl dX3_append_1 ?_
  refine lv_istore (lv' := [(4, .int (iI (r 0 1))), (0, .ref h), (1, .int (iI x)), (2, .int (iI w)), (3, .int (iI v))]) hx hb dX3_append_4 hl (by decide) rfl (fun ls hl => ?_)
  refine lv_iload hx hb dX3_append_6 (lv_at hl 0 rfl) ?_
  refine zz_if_lt (tgt := 18) hx hb dX3_append_8 (by decide) (by omega) (fun c_8 => ?_) (fun c_8 => ?_)
  · skip
    exfalso; omega
  · skip
    refine lv_iload hx hb dX3_append_11 (lv_at hl 0 rfl) ?_
    refine zz_bipush hx hb dX3_append_13 (by decide +kernel) ?_
    refine zz_icmp_lt (tgt := 21) hx hb dX3_append_15 (by decide) (by omega) (by omega) (fun c_15 => ?_) (fun c_15 => ?_)
    · skip
      refine lv_aload_n hx hb dX3_append_21 rfl (lv_at hl 1 rfl) ?_
      refine va_get (D := (dC, dI)) (ci := 3) (v := .ref a1) (C := RX3) (T := TX3) (N := 9) hx hb hts hw3 hown hK hP 0 rfl rfl 5 (by decide) hf15 (fun _ h9 => h9) rfl dX3_append_22 ?_
      refine lv_iload hx hb dX3_append_25 (lv_at hl 0 rfl) ?_
      refine lv_iload_n hx hb dX3_append_27 rfl (lv_at hl 2 rfl) ?_
      refine zz_iast hx hb hK hP hD hS 1 0 (f := (r 1)) (x := x) rfl rfl (by decide) n (by omega) (by omega) dX3_append_28 (fun H locs hP hD hS => ?_)
      have hP : va_P (dC, dI) vwCl [(h, .inr (3, [.int (iI (r 0 0)), .int (iI (r 0 1)), .int (iI (r 0 2)), .int (iI (r 0 3)), .int (iI (r 0 4)), .ref a1, .ref a2, .ref a3, .ref a4])), (a1, .inl (cI, 8, .inl (fun k => iI ((up (r 1) n x) k)))), (a2, .inl (cI, 8, .inl (fun k => iI ((r 2) k)))), (a3, .inl (cI, 8, .inl (fun k => iI ((r 3) k)))), (a4, .inl (cI, 8, .inl (fun k => iI ((r 4) k))))] H := hP
      have hD : va_D A [(h, .inr (3, [.int (iI (r 0 0)), .int (iI (r 0 1)), .int (iI (r 0 2)), .int (iI (r 0 3)), .int (iI (r 0 4)), .ref a1, .ref a2, .ref a3, .ref a4])), (a1, .inl (cI, 8, .inl (fun k => iI ((up (r 1) n x) k)))), (a2, .inl (cI, 8, .inl (fun k => iI ((r 2) k)))), (a3, .inl (cI, 8, .inl (fun k => iI ((r 3) k)))), (a4, .inl (cI, 8, .inl (fun k => iI ((r 4) k))))] := hD
      refine lv_aload_n hx hb dX3_append_29 rfl (lv_at hl 1 rfl) ?_
      refine va_get (D := (dC, dI)) (ci := 3) (v := .ref a2) (C := RX3) (T := TX3) (N := 9) hx hb hts hw3 hown hK hP 0 rfl rfl 6 (by decide) hf19 (fun _ h9 => h9) rfl dX3_append_30 ?_
      refine lv_iload hx hb dX3_append_33 (lv_at hl 0 rfl) ?_
      refine lv_iload_n hx hb dX3_append_35 rfl (lv_at hl 3 rfl) ?_
      refine zz_iast hx hb hK hP hD hS 2 0 (f := (r 2)) (x := w) rfl rfl (by decide) n (by omega) (by omega) dX3_append_36 (fun H locs hP hD hS => ?_)
      have hP : va_P (dC, dI) vwCl [(h, .inr (3, [.int (iI (r 0 0)), .int (iI (r 0 1)), .int (iI (r 0 2)), .int (iI (r 0 3)), .int (iI (r 0 4)), .ref a1, .ref a2, .ref a3, .ref a4])), (a1, .inl (cI, 8, .inl (fun k => iI ((up (r 1) n x) k)))), (a2, .inl (cI, 8, .inl (fun k => iI ((up (r 2) n w) k)))), (a3, .inl (cI, 8, .inl (fun k => iI ((r 3) k)))), (a4, .inl (cI, 8, .inl (fun k => iI ((r 4) k))))] H := hP
      have hD : va_D A [(h, .inr (3, [.int (iI (r 0 0)), .int (iI (r 0 1)), .int (iI (r 0 2)), .int (iI (r 0 3)), .int (iI (r 0 4)), .ref a1, .ref a2, .ref a3, .ref a4])), (a1, .inl (cI, 8, .inl (fun k => iI ((up (r 1) n x) k)))), (a2, .inl (cI, 8, .inl (fun k => iI ((up (r 2) n w) k)))), (a3, .inl (cI, 8, .inl (fun k => iI ((r 3) k)))), (a4, .inl (cI, 8, .inl (fun k => iI ((r 4) k))))] := hD
      refine lv_aload_n hx hb dX3_append_37 rfl (lv_at hl 1 rfl) ?_
      refine va_get (D := (dC, dI)) (ci := 3) (v := .ref a3) (C := RX3) (T := TX3) (N := 9) hx hb hts hw3 hown hK hP 0 rfl rfl 7 (by decide) hf22 (fun _ h9 => h9) rfl dX3_append_38 ?_
      refine lv_iload hx hb dX3_append_41 (lv_at hl 0 rfl) ?_
      refine lv_iload_n hx hb dX3_append_43 rfl (lv_at hl 4 rfl) ?_
      refine zz_iast hx hb hK hP hD hS 3 0 (f := (r 3)) (x := v) rfl rfl (by decide) n (by omega) (by omega) dX3_append_44 (fun H locs hP hD hS => ?_)
      have hP : va_P (dC, dI) vwCl [(h, .inr (3, [.int (iI (r 0 0)), .int (iI (r 0 1)), .int (iI (r 0 2)), .int (iI (r 0 3)), .int (iI (r 0 4)), .ref a1, .ref a2, .ref a3, .ref a4])), (a1, .inl (cI, 8, .inl (fun k => iI ((up (r 1) n x) k)))), (a2, .inl (cI, 8, .inl (fun k => iI ((up (r 2) n w) k)))), (a3, .inl (cI, 8, .inl (fun k => iI ((up (r 3) n v) k)))), (a4, .inl (cI, 8, .inl (fun k => iI ((r 4) k))))] H := hP
      have hD : va_D A [(h, .inr (3, [.int (iI (r 0 0)), .int (iI (r 0 1)), .int (iI (r 0 2)), .int (iI (r 0 3)), .int (iI (r 0 4)), .ref a1, .ref a2, .ref a3, .ref a4])), (a1, .inl (cI, 8, .inl (fun k => iI ((up (r 1) n x) k)))), (a2, .inl (cI, 8, .inl (fun k => iI ((up (r 2) n w) k)))), (a3, .inl (cI, 8, .inl (fun k => iI ((up (r 3) n v) k)))), (a4, .inl (cI, 8, .inl (fun k => iI ((r 4) k))))] := hD
      refine lv_aload_n hx hb dX3_append_45 rfl (lv_at hl 1 rfl) ?_
      refine va_get (D := (dC, dI)) (ci := 3) (v := .ref a4) (C := RX3) (T := TX3) (N := 9) hx hb hts hw3 hown hK hP 0 rfl rfl 8 (by decide) hf25 (fun _ h9 => h9) rfl dX3_append_46 ?_
      refine lv_iload hx hb dX3_append_49 (lv_at hl 0 rfl) ?_
      refine zz_iconst hx hb dX3_append_51 ?_
      refine zz_iast hx hb hK hP hD hS 4 0 (f := (r 4)) (x := (0 : Int)) rfl rfl (by decide) n (by omega) (by omega) dX3_append_52 (fun H locs hP hD hS => ?_)
      have hP : va_P (dC, dI) vwCl [(h, .inr (3, [.int (iI (r 0 0)), .int (iI (r 0 1)), .int (iI (r 0 2)), .int (iI (r 0 3)), .int (iI (r 0 4)), .ref a1, .ref a2, .ref a3, .ref a4])), (a1, .inl (cI, 8, .inl (fun k => iI ((up (r 1) n x) k)))), (a2, .inl (cI, 8, .inl (fun k => iI ((up (r 2) n w) k)))), (a3, .inl (cI, 8, .inl (fun k => iI ((up (r 3) n v) k)))), (a4, .inl (cI, 8, .inl (fun k => iI ((up (r 4) n (0 : Int)) k))))] H := hP
      have hD : va_D A [(h, .inr (3, [.int (iI (r 0 0)), .int (iI (r 0 1)), .int (iI (r 0 2)), .int (iI (r 0 3)), .int (iI (r 0 4)), .ref a1, .ref a2, .ref a3, .ref a4])), (a1, .inl (cI, 8, .inl (fun k => iI ((up (r 1) n x) k)))), (a2, .inl (cI, 8, .inl (fun k => iI ((up (r 2) n w) k)))), (a3, .inl (cI, 8, .inl (fun k => iI ((up (r 3) n v) k)))), (a4, .inl (cI, 8, .inl (fun k => iI ((up (r 4) n (0 : Int)) k))))] := hD
      refine lv_aload_n hx hb dX3_append_53 rfl (lv_at hl 1 rfl) ?_
      refine lv_iload hx hb dX3_append_54 (lv_at hl 0 rfl) ?_
      refine zz_iconst hx hb dX3_append_56 ?_
      refine zz_iadd hx hb dX3_append_57 ?_
      refine va_put (D := (dC, dI)) (ci := 3) (v := .int (iI ((r 0 1) + (1 : Int)))) (ty := .int) (C := RX3) (T := TX3) (N := 9) hx hb hts hw3 tyX3 tyX3_ok nmX3 hown hK hP hD hS 0 rfl rfl 1 (by decide) hf28 (fun _ h9 => h9) rfl (by decide +kernel) rfl rfl (Nat.le_of_ble_eq_true rfl) dX3_append_58 (fun H locs hP hD hS => ?_)
      have hP : va_P (dC, dI) vwCl [(h, .inr (3, [.int (iI (r 0 0)), .int (iI ((r 0 1) + (1 : Int))), .int (iI (r 0 2)), .int (iI (r 0 3)), .int (iI (r 0 4)), .ref a1, .ref a2, .ref a3, .ref a4])), (a1, .inl (cI, 8, .inl (fun k => iI ((up (r 1) n x) k)))), (a2, .inl (cI, 8, .inl (fun k => iI ((up (r 2) n w) k)))), (a3, .inl (cI, 8, .inl (fun k => iI ((up (r 3) n v) k)))), (a4, .inl (cI, 8, .inl (fun k => iI ((up (r 4) n (0 : Int)) k))))] H := hP
      have hD : va_D A [(h, .inr (3, [.int (iI (r 0 0)), .int (iI ((r 0 1) + (1 : Int))), .int (iI (r 0 2)), .int (iI (r 0 3)), .int (iI (r 0 4)), .ref a1, .ref a2, .ref a3, .ref a4])), (a1, .inl (cI, 8, .inl (fun k => iI ((up (r 1) n x) k)))), (a2, .inl (cI, 8, .inl (fun k => iI ((up (r 2) n w) k)))), (a3, .inl (cI, 8, .inl (fun k => iI ((up (r 3) n v) k)))), (a4, .inl (cI, 8, .inl (fun k => iI ((up (r 4) n (0 : Int)) k))))] := hD
      refine lv_iload hx hb dX3_append_61 (lv_at hl 0 rfl) ?_
      exact W.iret (v := iI (r 0 1)) hx hb hr (fun t9 ht9 hW9 => ⟨⟨(r 0 1), (), rfl, by omega, by show va_P _ _ _ t9.heap; rw [ht9]; exact (by rw [hok.bd.2.1] at hP; exact hP)⟩, hS.F ht9⟩) hS.2.2 dX3_append_63
    · skip
      exfalso; omega
set_option maxHeartbeats 4000000 in
set_option maxRecDepth 100000 in
theorem c_X3_drop (l : Launch) (dC : Nat → ClassId) (dI : Nat → Nat → Nat) (cI cJ cC cO : ClassId) (h a1 a2 a3 a4 : Nat) (r : Nat → Nat → Int) (n : Nat) (hok : Ok r n) (zg : Int) (g : Nat) (eg : zg = (g : Int)) (hg : g < n) : Met l yX3_drop wsX3_drop ({ frames := 0, cells := 0, slots := 0, locals := 0 } : Room) (va_Pc [.ref h, .int (iI zg)] (wr_B (dC, dI) vwCl (tyG cI cJ cC cO) (wSt cI h a1 a2 a3 a4 r))) (wr_Qv (fun (u : Unit) => True) (fun u t => va_P (dC, dI) vwCl (wSt cI h a1 a2 a3 a4 (rSet (up (r 0) 1 ((n : Int) - 1)) (shi (r 1) g (n - 1)) (shi (r 2) g (n - 1)) (shi (r 3) g (n - 1)) (shi (r 4) g (n - 1)))) t.heap) (wr_A (wSt cI h a1 a2 a3 a4 r))) 0 0 (wr_A (wSt cI h a1 a2 a3 a4 r)) := by
  refine Met.ofW (cc := cX3_drop) (maxL := 3) (ret := none) (by decide) rfl ?_
  intro p e s m args below meth c s₁ B hml hv
  obtain ⟨hav, hP, hK, hD0⟩ := hv
  have hx := B.exec
  have hb := B.bytes
  have hr := B.returns
  have hts := atoms_spec (ws := wsX3_drop) B.pre
  have hown : s.vm.findClass RX3 = some m.cls := findClass_of_methodNamed B.named
  have hlocks := B.notSynchronized
  have hf15 := hts (.fieldLink RX3 15 "RingRods$State" "place" "[I") (by decide +kernel)
  have hf19 := hts (.fieldLink RX3 19 "RingRods$State" "length" "[I") (by decide +kernel)
  have hf22 := hts (.fieldLink RX3 22 "RingRods$State" "speed" "[I") (by decide +kernel)
  have hf25 := hts (.fieldLink RX3 25 "RingRods$State" "way" "[I") (by decide +kernel)
  have hf28 := hts (.fieldLink RX3 28 "RingRods$State" "rods" "I") (by decide +kernel)
  have hw3 : ∀ w ∈ u_ws RX3 TX3 9, w ∈ wsX3_drop := by decide +kernel
  have hD := va_D.slf hD0
  have hS : va_S (wr_A (wSt cI h a1 a2 a3 a4 r)) s.heap s.heap [] := va_S.rf
  show W p l e ({ frames := 0, cells := 0, slots := 0, locals := 0 } : Room) s m args below meth c s.heap [] 0 0 (MQ below (wr_Qv (fun (u : Unit) => True) (fun u t => va_P (dC, dI) vwCl (wSt cI h a1 a2 a3 a4 (rSet (up (r 0) 1 ((n : Int) - 1)) (shi (r 1) g (n - 1)) (shi (r 2) g (n - 1)) (shi (r 3) g (n - 1)) (shi (r 4) g (n - 1)))) t.heap) (wr_A (wSt cI h a1 a2 a3 a4 r))) args s 0 0 (wr_A (wSt cI h a1 a2 a3 a4 r))) (entryFrame m args 3)
  generalize hAe : wr_A (wSt cI h a1 a2 a3 a4 r) = A at hD hS ⊢
  have hP : va_P (dC, dI) vwCl [(h, .inr (3, [.int (iI (r 0 0)), .int (iI (r 0 1)), .int (iI (r 0 2)), .int (iI (r 0 3)), .int (iI (r 0 4)), .ref a1, .ref a2, .ref a3, .ref a4])), (a1, .inl (cI, 8, .inl (fun k => iI ((r 1) k)))), (a2, .inl (cI, 8, .inl (fun k => iI ((r 2) k)))), (a3, .inl (cI, 8, .inl (fun k => iI ((r 3) k)))), (a4, .inl (cI, 8, .inl (fun k => iI ((r 4) k))))] s.heap := hP
  have hD : va_D A [(h, .inr (3, [.int (iI (r 0 0)), .int (iI (r 0 1)), .int (iI (r 0 2)), .int (iI (r 0 3)), .int (iI (r 0 4)), .ref a1, .ref a2, .ref a3, .ref a4])), (a1, .inl (cI, 8, .inl (fun k => iI ((r 1) k)))), (a2, .inl (cI, 8, .inl (fun k => iI ((r 2) k)))), (a3, .inl (cI, 8, .inl (fun k => iI ((r 3) k)))), (a4, .inl (cI, 8, .inl (fun k => iI ((r 4) k))))] := hD
  have hl := lv_entry ([.ref h, .int (iI zg)]) (n := 3) (Nat.le_of_ble_eq_true rfl)
  have hent : entryFrame m args 3 = F0 m 0 ((lg_sl ([.ref h, .int (iI zg)]) ++ List.replicate (3 - (lg_sl ([.ref h, .int (iI zg)])).length) Slot.unset).toArray) [] := by rw [hav]; exact lg_entry_eq ..
  rw [hent]
  generalize (lg_sl ([.ref h, .int (iI zg)]) ++ List.replicate (3 - (lg_sl ([.ref h, .int (iI zg)])).length) Slot.unset).toArray = ls at hl ⊢
  have hl : lv_has ls 3 [(0, .ref h), (1, .int (iI zg))] := hl
  have bd0 := hok.bd
  have bd1 := hok.fr
  refine lv_iload_n hx hb dX3_drop_0 rfl (lv_at hl 1 rfl) ?_
  refine lv_istore_n (lv' := [(2, .int (iI zg)), (0, .ref h), (1, .int (iI zg))]) hx hb dX3_drop_1 rfl hl (by decide) rfl (fun ls hl => ?_)
  have lp2 : ∀ (d2 : Nat), ∀ (i : Nat) (v2 : Int) (hi : i + 1 ≤ n) (hg2 : g ≤ i) (e2 : v2 = (i : Int)), n - i < d2 → ∀ (H : Heap) (locs : List Loc), va_P (dC, dI) vwCl [(h, .inr (3, [.int (iI (r 0 0)), .int (iI (r 0 1)), .int (iI (r 0 2)), .int (iI (r 0 3)), .int (iI (r 0 4)), .ref a1, .ref a2, .ref a3, .ref a4])), (a1, .inl (cI, 8, .inl (fun k => iI ((shi (r 1) g i) k)))), (a2, .inl (cI, 8, .inl (fun k => iI ((shi (r 2) g i) k)))), (a3, .inl (cI, 8, .inl (fun k => iI ((shi (r 3) g i) k)))), (a4, .inl (cI, 8, .inl (fun k => iI ((shi (r 4) g i) k))))] H → va_D A [(h, .inr (3, [.int (iI (r 0 0)), .int (iI (r 0 1)), .int (iI (r 0 2)), .int (iI (r 0 3)), .int (iI (r 0 4)), .ref a1, .ref a2, .ref a3, .ref a4])), (a1, .inl (cI, 8, .inl (fun k => iI ((shi (r 1) g i) k)))), (a2, .inl (cI, 8, .inl (fun k => iI ((shi (r 2) g i) k)))), (a3, .inl (cI, 8, .inl (fun k => iI ((shi (r 3) g i) k)))), (a4, .inl (cI, 8, .inl (fun k => iI ((shi (r 4) g i) k))))] → va_S A s.heap H locs → ∀ ls : Array Slot, lv_has ls 3 [(0, .ref h), (1, .int (iI zg)), (2, .int (iI v2))] → W p l e ({ frames := 0, cells := 0, slots := 0, locals := 0 } : Room) s m args below meth c H locs 0 0 (MQ below (wr_Qv (fun (u : Unit) => True) (fun u t => va_P (dC, dI) vwCl (wSt cI h a1 a2 a3 a4 (rSet (up (r 0) 1 ((n : Int) - 1)) (shi (r 1) g (n - 1)) (shi (r 2) g (n - 1)) (shi (r 3) g (n - 1)) (shi (r 4) g (n - 1)))) t.heap) A) args s 0 0 A) (F0 m 2 ls []) := by
    intro d2
    induction d2 with
    | zero =>
      intro i v2 hi hg2 e2 hd2
      exact absurd hd2 (Nat.not_lt_zero _)
    | succ d2 ih2 =>
      intro i v2 hi hg2 e2 hd2 H locs hP hD hS ls hl
      refine lv_iload_n hx hb dX3_drop_2 rfl (lv_at hl 2 rfl) ?_
      refine zz_iconst hx hb dX3_drop_3 ?_
      refine zz_iadd hx hb dX3_drop_4 ?_
      refine lv_aload_n hx hb dX3_drop_5 rfl (lv_at hl 0 rfl) ?_
      refine va_get (D := (dC, dI)) (ci := 3) (v := .int (iI (r 0 1))) (C := RX3) (T := TX3) (N := 9) hx hb hts hw3 hown hK hP 0 rfl rfl 1 (by decide) hf28 (fun _ h9 => h9) rfl dX3_drop_6 ?_
      refine zz_icmp_ge (tgt := 74) hx hb dX3_drop_9 (by decide) (by omega) (by omega) (fun c_9 => ?_) (fun c_9 => ?_)
      · skip
        refine lv_aload_n hx hb dX3_drop_74 rfl (lv_at hl 0 rfl) ?_
        refine lv_dup hx hb dX3_drop_75 rfl ?_
        refine va_get (D := (dC, dI)) (ci := 3) (v := .int (iI (r 0 1))) (C := RX3) (T := TX3) (N := 9) hx hb hts hw3 hown hK hP 0 rfl rfl 1 (by decide) hf28 (fun _ h9 => h9) rfl dX3_drop_76 ?_
        refine zz_iconst hx hb dX3_drop_79 ?_
        refine zz_isub hx hb dX3_drop_80 ?_
        refine va_put (D := (dC, dI)) (ci := 3) (v := .int (iI ((r 0 1) - (1 : Int)))) (ty := .int) (C := RX3) (T := TX3) (N := 9) hx hb hts hw3 tyX3 tyX3_ok nmX3 hown hK hP hD hS 0 rfl rfl 1 (by decide) hf28 (fun _ h9 => h9) rfl (by decide +kernel) rfl rfl (Nat.le_of_ble_eq_true rfl) dX3_drop_81 (fun H locs hP hD hS => ?_)
        have hP : va_P (dC, dI) vwCl [(h, .inr (3, [.int (iI (r 0 0)), .int (iI ((r 0 1) - (1 : Int))), .int (iI (r 0 2)), .int (iI (r 0 3)), .int (iI (r 0 4)), .ref a1, .ref a2, .ref a3, .ref a4])), (a1, .inl (cI, 8, .inl (fun k => iI ((shi (r 1) g i) k)))), (a2, .inl (cI, 8, .inl (fun k => iI ((shi (r 2) g i) k)))), (a3, .inl (cI, 8, .inl (fun k => iI ((shi (r 3) g i) k)))), (a4, .inl (cI, 8, .inl (fun k => iI ((shi (r 4) g i) k))))] H := hP
        have hD : va_D A [(h, .inr (3, [.int (iI (r 0 0)), .int (iI ((r 0 1) - (1 : Int))), .int (iI (r 0 2)), .int (iI (r 0 3)), .int (iI (r 0 4)), .ref a1, .ref a2, .ref a3, .ref a4])), (a1, .inl (cI, 8, .inl (fun k => iI ((shi (r 1) g i) k)))), (a2, .inl (cI, 8, .inl (fun k => iI ((shi (r 2) g i) k)))), (a3, .inl (cI, 8, .inl (fun k => iI ((shi (r 3) g i) k)))), (a4, .inl (cI, 8, .inl (fun k => iI ((shi (r 4) g i) k))))] := hD
        exact W.vret hx hb hr (fun t9 ht9 hW9 => ⟨⟨(), rfl, trivial, by show va_P _ _ _ t9.heap; rw [ht9]; exact (by rw [hok.bd.2.1] at hP; rw [show n - 1 = i by omega]; exact hP)⟩, hS.F ht9⟩) hS.2.2 dX3_drop_84
      · skip
        refine lv_aload_n hx hb dX3_drop_12 rfl (lv_at hl 0 rfl) ?_
        refine va_get (D := (dC, dI)) (ci := 3) (v := .ref a1) (C := RX3) (T := TX3) (N := 9) hx hb hts hw3 hown hK hP 0 rfl rfl 5 (by decide) hf15 (fun _ h9 => h9) rfl dX3_drop_13 ?_
        refine lv_iload_n hx hb dX3_drop_16 rfl (lv_at hl 2 rfl) ?_
        refine lv_aload_n hx hb dX3_drop_17 rfl (lv_at hl 0 rfl) ?_
        refine va_get (D := (dC, dI)) (ci := 3) (v := .ref a1) (C := RX3) (T := TX3) (N := 9) hx hb hts hw3 hown hK hP 0 rfl rfl 5 (by decide) hf15 (fun _ h9 => h9) rfl dX3_drop_18 ?_
        refine lv_iload_n hx hb dX3_drop_21 rfl (lv_at hl 2 rfl) ?_
        refine zz_iconst hx hb dX3_drop_22 ?_
        refine zz_iadd hx hb dX3_drop_23 ?_
        refine zz_iald hx hb hK hP 1 0 (f := (shi (r 1) g i)) rfl rfl (by decide) (i + 1) (by omega) (by omega) dX3_drop_24 ?_
        refine zz_iast hx hb hK hP hD hS 1 0 (f := (shi (r 1) g i)) (x := ((shi (r 1) g i) (i + 1))) rfl rfl (by decide) i (by omega) (by omega) dX3_drop_25 (fun H locs hP hD hS => ?_)
        have hP : va_P (dC, dI) vwCl [(h, .inr (3, [.int (iI (r 0 0)), .int (iI (r 0 1)), .int (iI (r 0 2)), .int (iI (r 0 3)), .int (iI (r 0 4)), .ref a1, .ref a2, .ref a3, .ref a4])), (a1, .inl (cI, 8, .inl (fun k => iI ((up (shi (r 1) g i) i ((shi (r 1) g i) (i + 1))) k)))), (a2, .inl (cI, 8, .inl (fun k => iI ((shi (r 2) g i) k)))), (a3, .inl (cI, 8, .inl (fun k => iI ((shi (r 3) g i) k)))), (a4, .inl (cI, 8, .inl (fun k => iI ((shi (r 4) g i) k))))] H := hP
        have hD : va_D A [(h, .inr (3, [.int (iI (r 0 0)), .int (iI (r 0 1)), .int (iI (r 0 2)), .int (iI (r 0 3)), .int (iI (r 0 4)), .ref a1, .ref a2, .ref a3, .ref a4])), (a1, .inl (cI, 8, .inl (fun k => iI ((up (shi (r 1) g i) i ((shi (r 1) g i) (i + 1))) k)))), (a2, .inl (cI, 8, .inl (fun k => iI ((shi (r 2) g i) k)))), (a3, .inl (cI, 8, .inl (fun k => iI ((shi (r 3) g i) k)))), (a4, .inl (cI, 8, .inl (fun k => iI ((shi (r 4) g i) k))))] := hD
        refine lv_aload_n hx hb dX3_drop_26 rfl (lv_at hl 0 rfl) ?_
        refine va_get (D := (dC, dI)) (ci := 3) (v := .ref a2) (C := RX3) (T := TX3) (N := 9) hx hb hts hw3 hown hK hP 0 rfl rfl 6 (by decide) hf19 (fun _ h9 => h9) rfl dX3_drop_27 ?_
        refine lv_iload_n hx hb dX3_drop_30 rfl (lv_at hl 2 rfl) ?_
        refine lv_aload_n hx hb dX3_drop_31 rfl (lv_at hl 0 rfl) ?_
        refine va_get (D := (dC, dI)) (ci := 3) (v := .ref a2) (C := RX3) (T := TX3) (N := 9) hx hb hts hw3 hown hK hP 0 rfl rfl 6 (by decide) hf19 (fun _ h9 => h9) rfl dX3_drop_32 ?_
        refine lv_iload_n hx hb dX3_drop_35 rfl (lv_at hl 2 rfl) ?_
        refine zz_iconst hx hb dX3_drop_36 ?_
        refine zz_iadd hx hb dX3_drop_37 ?_
        refine zz_iald hx hb hK hP 2 0 (f := (shi (r 2) g i)) rfl rfl (by decide) (i + 1) (by omega) (by omega) dX3_drop_38 ?_
        refine zz_iast hx hb hK hP hD hS 2 0 (f := (shi (r 2) g i)) (x := ((shi (r 2) g i) (i + 1))) rfl rfl (by decide) i (by omega) (by omega) dX3_drop_39 (fun H locs hP hD hS => ?_)
        have hP : va_P (dC, dI) vwCl [(h, .inr (3, [.int (iI (r 0 0)), .int (iI (r 0 1)), .int (iI (r 0 2)), .int (iI (r 0 3)), .int (iI (r 0 4)), .ref a1, .ref a2, .ref a3, .ref a4])), (a1, .inl (cI, 8, .inl (fun k => iI ((up (shi (r 1) g i) i ((shi (r 1) g i) (i + 1))) k)))), (a2, .inl (cI, 8, .inl (fun k => iI ((up (shi (r 2) g i) i ((shi (r 2) g i) (i + 1))) k)))), (a3, .inl (cI, 8, .inl (fun k => iI ((shi (r 3) g i) k)))), (a4, .inl (cI, 8, .inl (fun k => iI ((shi (r 4) g i) k))))] H := hP
        have hD : va_D A [(h, .inr (3, [.int (iI (r 0 0)), .int (iI (r 0 1)), .int (iI (r 0 2)), .int (iI (r 0 3)), .int (iI (r 0 4)), .ref a1, .ref a2, .ref a3, .ref a4])), (a1, .inl (cI, 8, .inl (fun k => iI ((up (shi (r 1) g i) i ((shi (r 1) g i) (i + 1))) k)))), (a2, .inl (cI, 8, .inl (fun k => iI ((up (shi (r 2) g i) i ((shi (r 2) g i) (i + 1))) k)))), (a3, .inl (cI, 8, .inl (fun k => iI ((shi (r 3) g i) k)))), (a4, .inl (cI, 8, .inl (fun k => iI ((shi (r 4) g i) k))))] := hD
        refine lv_aload_n hx hb dX3_drop_40 rfl (lv_at hl 0 rfl) ?_
        refine va_get (D := (dC, dI)) (ci := 3) (v := .ref a3) (C := RX3) (T := TX3) (N := 9) hx hb hts hw3 hown hK hP 0 rfl rfl 7 (by decide) hf22 (fun _ h9 => h9) rfl dX3_drop_41 ?_
        refine lv_iload_n hx hb dX3_drop_44 rfl (lv_at hl 2 rfl) ?_
        refine lv_aload_n hx hb dX3_drop_45 rfl (lv_at hl 0 rfl) ?_
        refine va_get (D := (dC, dI)) (ci := 3) (v := .ref a3) (C := RX3) (T := TX3) (N := 9) hx hb hts hw3 hown hK hP 0 rfl rfl 7 (by decide) hf22 (fun _ h9 => h9) rfl dX3_drop_46 ?_
        refine lv_iload_n hx hb dX3_drop_49 rfl (lv_at hl 2 rfl) ?_
        refine zz_iconst hx hb dX3_drop_50 ?_
        refine zz_iadd hx hb dX3_drop_51 ?_
        refine zz_iald hx hb hK hP 3 0 (f := (shi (r 3) g i)) rfl rfl (by decide) (i + 1) (by omega) (by omega) dX3_drop_52 ?_
        refine zz_iast hx hb hK hP hD hS 3 0 (f := (shi (r 3) g i)) (x := ((shi (r 3) g i) (i + 1))) rfl rfl (by decide) i (by omega) (by omega) dX3_drop_53 (fun H locs hP hD hS => ?_)
        have hP : va_P (dC, dI) vwCl [(h, .inr (3, [.int (iI (r 0 0)), .int (iI (r 0 1)), .int (iI (r 0 2)), .int (iI (r 0 3)), .int (iI (r 0 4)), .ref a1, .ref a2, .ref a3, .ref a4])), (a1, .inl (cI, 8, .inl (fun k => iI ((up (shi (r 1) g i) i ((shi (r 1) g i) (i + 1))) k)))), (a2, .inl (cI, 8, .inl (fun k => iI ((up (shi (r 2) g i) i ((shi (r 2) g i) (i + 1))) k)))), (a3, .inl (cI, 8, .inl (fun k => iI ((up (shi (r 3) g i) i ((shi (r 3) g i) (i + 1))) k)))), (a4, .inl (cI, 8, .inl (fun k => iI ((shi (r 4) g i) k))))] H := hP
        have hD : va_D A [(h, .inr (3, [.int (iI (r 0 0)), .int (iI (r 0 1)), .int (iI (r 0 2)), .int (iI (r 0 3)), .int (iI (r 0 4)), .ref a1, .ref a2, .ref a3, .ref a4])), (a1, .inl (cI, 8, .inl (fun k => iI ((up (shi (r 1) g i) i ((shi (r 1) g i) (i + 1))) k)))), (a2, .inl (cI, 8, .inl (fun k => iI ((up (shi (r 2) g i) i ((shi (r 2) g i) (i + 1))) k)))), (a3, .inl (cI, 8, .inl (fun k => iI ((up (shi (r 3) g i) i ((shi (r 3) g i) (i + 1))) k)))), (a4, .inl (cI, 8, .inl (fun k => iI ((shi (r 4) g i) k))))] := hD
        refine lv_aload_n hx hb dX3_drop_54 rfl (lv_at hl 0 rfl) ?_
        refine va_get (D := (dC, dI)) (ci := 3) (v := .ref a4) (C := RX3) (T := TX3) (N := 9) hx hb hts hw3 hown hK hP 0 rfl rfl 8 (by decide) hf25 (fun _ h9 => h9) rfl dX3_drop_55 ?_
        refine lv_iload_n hx hb dX3_drop_58 rfl (lv_at hl 2 rfl) ?_
        refine lv_aload_n hx hb dX3_drop_59 rfl (lv_at hl 0 rfl) ?_
        refine va_get (D := (dC, dI)) (ci := 3) (v := .ref a4) (C := RX3) (T := TX3) (N := 9) hx hb hts hw3 hown hK hP 0 rfl rfl 8 (by decide) hf25 (fun _ h9 => h9) rfl dX3_drop_60 ?_
        refine lv_iload_n hx hb dX3_drop_63 rfl (lv_at hl 2 rfl) ?_
        refine zz_iconst hx hb dX3_drop_64 ?_
        refine zz_iadd hx hb dX3_drop_65 ?_
        refine zz_iald hx hb hK hP 4 0 (f := (shi (r 4) g i)) rfl rfl (by decide) (i + 1) (by omega) (by omega) dX3_drop_66 ?_
        refine zz_iast hx hb hK hP hD hS 4 0 (f := (shi (r 4) g i)) (x := ((shi (r 4) g i) (i + 1))) rfl rfl (by decide) i (by omega) (by omega) dX3_drop_67 (fun H locs hP hD hS => ?_)
        have hP : va_P (dC, dI) vwCl [(h, .inr (3, [.int (iI (r 0 0)), .int (iI (r 0 1)), .int (iI (r 0 2)), .int (iI (r 0 3)), .int (iI (r 0 4)), .ref a1, .ref a2, .ref a3, .ref a4])), (a1, .inl (cI, 8, .inl (fun k => iI ((up (shi (r 1) g i) i ((shi (r 1) g i) (i + 1))) k)))), (a2, .inl (cI, 8, .inl (fun k => iI ((up (shi (r 2) g i) i ((shi (r 2) g i) (i + 1))) k)))), (a3, .inl (cI, 8, .inl (fun k => iI ((up (shi (r 3) g i) i ((shi (r 3) g i) (i + 1))) k)))), (a4, .inl (cI, 8, .inl (fun k => iI ((up (shi (r 4) g i) i ((shi (r 4) g i) (i + 1))) k))))] H := hP
        have hD : va_D A [(h, .inr (3, [.int (iI (r 0 0)), .int (iI (r 0 1)), .int (iI (r 0 2)), .int (iI (r 0 3)), .int (iI (r 0 4)), .ref a1, .ref a2, .ref a3, .ref a4])), (a1, .inl (cI, 8, .inl (fun k => iI ((up (shi (r 1) g i) i ((shi (r 1) g i) (i + 1))) k)))), (a2, .inl (cI, 8, .inl (fun k => iI ((up (shi (r 2) g i) i ((shi (r 2) g i) (i + 1))) k)))), (a3, .inl (cI, 8, .inl (fun k => iI ((up (shi (r 3) g i) i ((shi (r 3) g i) (i + 1))) k)))), (a4, .inl (cI, 8, .inl (fun k => iI ((up (shi (r 4) g i) i ((shi (r 4) g i) (i + 1))) k))))] := hD
        refine zz_iinc (lv' := [(2, .int (iI (v2 + (1 : Int)))), (0, .ref h), (1, .int (iI zg))]) hx hb dX3_drop_68 hl (k := 2) rfl (by decide) rfl (fun ls hl => ?_)
        refine lv_goto (tgt := 2) hx hb dX3_drop_71 (by decide) ?_
        have hP : va_P (dC, dI) vwCl [(h, .inr (3, [.int (iI (r 0 0)), .int (iI (r 0 1)), .int (iI (r 0 2)), .int (iI (r 0 3)), .int (iI (r 0 4)), .ref a1, .ref a2, .ref a3, .ref a4])), (a1, .inl (cI, 8, .inl (fun k => iI ((shi (r 1) g (i + 1)) k)))), (a2, .inl (cI, 8, .inl (fun k => iI ((shi (r 2) g (i + 1)) k)))), (a3, .inl (cI, 8, .inl (fun k => iI ((shi (r 3) g (i + 1)) k)))), (a4, .inl (cI, 8, .inl (fun k => iI ((shi (r 4) g (i + 1)) k))))] H := by simp only [shi_s hg2] at hP; exact hP
        have hD : va_D A [(h, .inr (3, [.int (iI (r 0 0)), .int (iI (r 0 1)), .int (iI (r 0 2)), .int (iI (r 0 3)), .int (iI (r 0 4)), .ref a1, .ref a2, .ref a3, .ref a4])), (a1, .inl (cI, 8, .inl (fun k => iI ((shi (r 1) g (i + 1)) k)))), (a2, .inl (cI, 8, .inl (fun k => iI ((shi (r 2) g (i + 1)) k)))), (a3, .inl (cI, 8, .inl (fun k => iI ((shi (r 3) g (i + 1)) k)))), (a4, .inl (cI, 8, .inl (fun k => iI ((shi (r 4) g (i + 1)) k))))] := by simp only [shi_s hg2] at hD; exact hD
        exact ih2 (i + 1) (v2 + (1 : Int)) (by omega) (by omega) (by omega) (by omega) H locs hP hD hS ls (lv_sub hl [1, 2, 0] rfl)
  have hP : va_P (dC, dI) vwCl [(h, .inr (3, [.int (iI (r 0 0)), .int (iI (r 0 1)), .int (iI (r 0 2)), .int (iI (r 0 3)), .int (iI (r 0 4)), .ref a1, .ref a2, .ref a3, .ref a4])), (a1, .inl (cI, 8, .inl (fun k => iI ((shi (r 1) g g) k)))), (a2, .inl (cI, 8, .inl (fun k => iI ((shi (r 2) g g) k)))), (a3, .inl (cI, 8, .inl (fun k => iI ((shi (r 3) g g) k)))), (a4, .inl (cI, 8, .inl (fun k => iI ((shi (r 4) g g) k))))] s.heap := by simp only [shi_0]; exact hP
  have hD : va_D A [(h, .inr (3, [.int (iI (r 0 0)), .int (iI (r 0 1)), .int (iI (r 0 2)), .int (iI (r 0 3)), .int (iI (r 0 4)), .ref a1, .ref a2, .ref a3, .ref a4])), (a1, .inl (cI, 8, .inl (fun k => iI ((shi (r 1) g g) k)))), (a2, .inl (cI, 8, .inl (fun k => iI ((shi (r 2) g g) k)))), (a3, .inl (cI, 8, .inl (fun k => iI ((shi (r 3) g g) k)))), (a4, .inl (cI, 8, .inl (fun k => iI ((shi (r 4) g g) k))))] := by simp only [shi_0]; exact hD
  exact lp2 _ g zg (by omega) (by omega) (by omega) (Nat.lt_succ_self _) s.heap [] hP hD hS ls (lv_sub hl [1, 2, 0] rfl)
set_option maxHeartbeats 4000000 in
set_option maxRecDepth 100000 in
theorem c_X3_turnRound (l : Launch) (dC : Nat → ClassId) (dI : Nat → Nat → Nat) (cI cJ cC cO : ClassId) (h a1 a2 a3 a4 : Nat) (r : Nat → Nat → Int) (n : Nat) (hok : Ok r n) : Met l yX3_turnRound wsX3_turnRound ({ frames := 0, cells := 0, slots := 0, locals := 0 } : Room) (va_Pc [.ref h] (wr_B (dC, dI) vwCl (tyG cI cJ cC cO) (wSt cI h a1 a2 a3 a4 r))) (wr_Qv (fun (u : Unit) => True) (fun u t => va_P (dC, dI) vwCl (wSt cI h a1 a2 a3 a4 (rSet (r 0) (r 1) (r 2) (ngi (r 3) n) (r 4))) t.heap) (wr_A (wSt cI h a1 a2 a3 a4 r))) 0 0 (wr_A (wSt cI h a1 a2 a3 a4 r)) := by
  refine Met.ofW (cc := cX3_turnRound) (maxL := 2) (ret := none) (by decide) rfl ?_
  intro p e s m args below meth c s₁ B hml hv
  obtain ⟨hav, hP, hK, hD0⟩ := hv
  have hx := B.exec
  have hb := B.bytes
  have hr := B.returns
  have hts := atoms_spec (ws := wsX3_turnRound) B.pre
  have hown : s.vm.findClass RX3 = some m.cls := findClass_of_methodNamed B.named
  have hlocks := B.notSynchronized
  have hf22 := hts (.fieldLink RX3 22 "RingRods$State" "speed" "[I") (by decide +kernel)
  have hf28 := hts (.fieldLink RX3 28 "RingRods$State" "rods" "I") (by decide +kernel)
  have hw3 : ∀ w ∈ u_ws RX3 TX3 9, w ∈ wsX3_turnRound := by decide +kernel
  have hD := va_D.slf hD0
  have hS : va_S (wr_A (wSt cI h a1 a2 a3 a4 r)) s.heap s.heap [] := va_S.rf
  show W p l e ({ frames := 0, cells := 0, slots := 0, locals := 0 } : Room) s m args below meth c s.heap [] 0 0 (MQ below (wr_Qv (fun (u : Unit) => True) (fun u t => va_P (dC, dI) vwCl (wSt cI h a1 a2 a3 a4 (rSet (r 0) (r 1) (r 2) (ngi (r 3) n) (r 4))) t.heap) (wr_A (wSt cI h a1 a2 a3 a4 r))) args s 0 0 (wr_A (wSt cI h a1 a2 a3 a4 r))) (entryFrame m args 2)
  generalize hAe : wr_A (wSt cI h a1 a2 a3 a4 r) = A at hD hS ⊢
  have hP : va_P (dC, dI) vwCl [(h, .inr (3, [.int (iI (r 0 0)), .int (iI (r 0 1)), .int (iI (r 0 2)), .int (iI (r 0 3)), .int (iI (r 0 4)), .ref a1, .ref a2, .ref a3, .ref a4])), (a1, .inl (cI, 8, .inl (fun k => iI ((r 1) k)))), (a2, .inl (cI, 8, .inl (fun k => iI ((r 2) k)))), (a3, .inl (cI, 8, .inl (fun k => iI ((r 3) k)))), (a4, .inl (cI, 8, .inl (fun k => iI ((r 4) k))))] s.heap := hP
  have hD : va_D A [(h, .inr (3, [.int (iI (r 0 0)), .int (iI (r 0 1)), .int (iI (r 0 2)), .int (iI (r 0 3)), .int (iI (r 0 4)), .ref a1, .ref a2, .ref a3, .ref a4])), (a1, .inl (cI, 8, .inl (fun k => iI ((r 1) k)))), (a2, .inl (cI, 8, .inl (fun k => iI ((r 2) k)))), (a3, .inl (cI, 8, .inl (fun k => iI ((r 3) k)))), (a4, .inl (cI, 8, .inl (fun k => iI ((r 4) k))))] := hD
  have hl := lv_entry ([.ref h]) (n := 2) (Nat.le_of_ble_eq_true rfl)
  have hent : entryFrame m args 2 = F0 m 0 ((lg_sl ([.ref h]) ++ List.replicate (2 - (lg_sl ([.ref h])).length) Slot.unset).toArray) [] := by rw [hav]; exact lg_entry_eq ..
  rw [hent]
  generalize (lg_sl ([.ref h]) ++ List.replicate (2 - (lg_sl ([.ref h])).length) Slot.unset).toArray = ls at hl ⊢
  have hl : lv_has ls 2 [(0, .ref h)] := hl
  have bd0 := hok.bd
  have bd1 := hok.fr
  refine zz_iconst hx hb dX3_turnRound_0 ?_
  refine lv_istore_n (lv' := [(1, .int (iI (0 : Int))), (0, .ref h)]) hx hb dX3_turnRound_1 rfl hl (by decide) rfl (fun ls hl => ?_)
  have lp2 : ∀ (d2 : Nat), ∀ (i : Nat) (v1 : Int) (hi : i ≤ n) (e1 : v1 = (i : Int)), n - i < d2 → ∀ (H : Heap) (locs : List Loc), va_P (dC, dI) vwCl [(h, .inr (3, [.int (iI (r 0 0)), .int (iI (r 0 1)), .int (iI (r 0 2)), .int (iI (r 0 3)), .int (iI (r 0 4)), .ref a1, .ref a2, .ref a3, .ref a4])), (a1, .inl (cI, 8, .inl (fun k => iI ((r 1) k)))), (a2, .inl (cI, 8, .inl (fun k => iI ((r 2) k)))), (a3, .inl (cI, 8, .inl (fun k => iI ((ngi (r 3) i) k)))), (a4, .inl (cI, 8, .inl (fun k => iI ((r 4) k))))] H → va_D A [(h, .inr (3, [.int (iI (r 0 0)), .int (iI (r 0 1)), .int (iI (r 0 2)), .int (iI (r 0 3)), .int (iI (r 0 4)), .ref a1, .ref a2, .ref a3, .ref a4])), (a1, .inl (cI, 8, .inl (fun k => iI ((r 1) k)))), (a2, .inl (cI, 8, .inl (fun k => iI ((r 2) k)))), (a3, .inl (cI, 8, .inl (fun k => iI ((ngi (r 3) i) k)))), (a4, .inl (cI, 8, .inl (fun k => iI ((r 4) k))))] → va_S A s.heap H locs → ∀ ls : Array Slot, lv_has ls 2 [(0, .ref h), (1, .int (iI v1))] → W p l e ({ frames := 0, cells := 0, slots := 0, locals := 0 } : Room) s m args below meth c H locs 0 0 (MQ below (wr_Qv (fun (u : Unit) => True) (fun u t => va_P (dC, dI) vwCl (wSt cI h a1 a2 a3 a4 (rSet (r 0) (r 1) (r 2) (ngi (r 3) n) (r 4))) t.heap) A) args s 0 0 A) (F0 m 2 ls []) := by
    intro d2
    induction d2 with
    | zero =>
      intro i v1 hi e1 hd2
      exact absurd hd2 (Nat.not_lt_zero _)
    | succ d2 ih2 =>
      intro i v1 hi e1 hd2 H locs hP hD hS ls hl
      refine lv_iload_n hx hb dX3_turnRound_2 rfl (lv_at hl 1 rfl) ?_
      refine lv_aload_n hx hb dX3_turnRound_3 rfl (lv_at hl 0 rfl) ?_
      refine va_get (D := (dC, dI)) (ci := 3) (v := .int (iI (r 0 1))) (C := RX3) (T := TX3) (N := 9) hx hb hts hw3 hown hK hP 0 rfl rfl 1 (by decide) hf28 (fun _ h9 => h9) rfl dX3_turnRound_4 ?_
      refine zz_icmp_ge (tgt := 29) hx hb dX3_turnRound_7 (by decide) (by omega) (by omega) (fun c_7 => ?_) (fun c_7 => ?_)
      · skip
        exact W.vret hx hb hr (fun t9 ht9 hW9 => ⟨⟨(), rfl, trivial, by show va_P _ _ _ t9.heap; rw [ht9]; exact (by rw [show n = i by omega]; exact hP)⟩, hS.F ht9⟩) hS.2.2 dX3_turnRound_29
      · skip
        refine lv_aload_n hx hb dX3_turnRound_10 rfl (lv_at hl 0 rfl) ?_
        refine va_get (D := (dC, dI)) (ci := 3) (v := .ref a3) (C := RX3) (T := TX3) (N := 9) hx hb hts hw3 hown hK hP 0 rfl rfl 7 (by decide) hf22 (fun _ h9 => h9) rfl dX3_turnRound_11 ?_
        refine lv_iload_n hx hb dX3_turnRound_14 rfl (lv_at hl 1 rfl) ?_
        refine lv_aload_n hx hb dX3_turnRound_15 rfl (lv_at hl 0 rfl) ?_
        refine va_get (D := (dC, dI)) (ci := 3) (v := .ref a3) (C := RX3) (T := TX3) (N := 9) hx hb hts hw3 hown hK hP 0 rfl rfl 7 (by decide) hf22 (fun _ h9 => h9) rfl dX3_turnRound_16 ?_
        refine lv_iload_n hx hb dX3_turnRound_19 rfl (lv_at hl 1 rfl) ?_
        refine zz_iald hx hb hK hP 3 0 (f := (ngi (r 3) i)) rfl rfl (by decide) i (by omega) (by omega) dX3_turnRound_20 ?_
        refine zz_ineg hx hb dX3_turnRound_21 ?_
        refine zz_iast hx hb hK hP hD hS 3 0 (f := (ngi (r 3) i)) (x := (- ((ngi (r 3) i) i))) rfl rfl (by decide) i (by omega) (by omega) dX3_turnRound_22 (fun H locs hP hD hS => ?_)
        have hP : va_P (dC, dI) vwCl [(h, .inr (3, [.int (iI (r 0 0)), .int (iI (r 0 1)), .int (iI (r 0 2)), .int (iI (r 0 3)), .int (iI (r 0 4)), .ref a1, .ref a2, .ref a3, .ref a4])), (a1, .inl (cI, 8, .inl (fun k => iI ((r 1) k)))), (a2, .inl (cI, 8, .inl (fun k => iI ((r 2) k)))), (a3, .inl (cI, 8, .inl (fun k => iI ((up (ngi (r 3) i) i (- ((ngi (r 3) i) i))) k)))), (a4, .inl (cI, 8, .inl (fun k => iI ((r 4) k))))] H := hP
        have hD : va_D A [(h, .inr (3, [.int (iI (r 0 0)), .int (iI (r 0 1)), .int (iI (r 0 2)), .int (iI (r 0 3)), .int (iI (r 0 4)), .ref a1, .ref a2, .ref a3, .ref a4])), (a1, .inl (cI, 8, .inl (fun k => iI ((r 1) k)))), (a2, .inl (cI, 8, .inl (fun k => iI ((r 2) k)))), (a3, .inl (cI, 8, .inl (fun k => iI ((up (ngi (r 3) i) i (- ((ngi (r 3) i) i))) k)))), (a4, .inl (cI, 8, .inl (fun k => iI ((r 4) k))))] := hD
        refine zz_iinc (lv' := [(1, .int (iI (v1 + (1 : Int)))), (0, .ref h)]) hx hb dX3_turnRound_23 hl (k := 1) rfl (by decide) rfl (fun ls hl => ?_)
        refine lv_goto (tgt := 2) hx hb dX3_turnRound_26 (by decide) ?_
        have hP : va_P (dC, dI) vwCl [(h, .inr (3, [.int (iI (r 0 0)), .int (iI (r 0 1)), .int (iI (r 0 2)), .int (iI (r 0 3)), .int (iI (r 0 4)), .ref a1, .ref a2, .ref a3, .ref a4])), (a1, .inl (cI, 8, .inl (fun k => iI ((r 1) k)))), (a2, .inl (cI, 8, .inl (fun k => iI ((r 2) k)))), (a3, .inl (cI, 8, .inl (fun k => iI ((ngi (r 3) (i + 1)) k)))), (a4, .inl (cI, 8, .inl (fun k => iI ((r 4) k))))] H := by simp only [ngi_s] at hP; exact hP
        have hD : va_D A [(h, .inr (3, [.int (iI (r 0 0)), .int (iI (r 0 1)), .int (iI (r 0 2)), .int (iI (r 0 3)), .int (iI (r 0 4)), .ref a1, .ref a2, .ref a3, .ref a4])), (a1, .inl (cI, 8, .inl (fun k => iI ((r 1) k)))), (a2, .inl (cI, 8, .inl (fun k => iI ((r 2) k)))), (a3, .inl (cI, 8, .inl (fun k => iI ((ngi (r 3) (i + 1)) k)))), (a4, .inl (cI, 8, .inl (fun k => iI ((r 4) k))))] := by simp only [ngi_s] at hD; exact hD
        exact ih2 (i + 1) (v1 + (1 : Int)) (by omega) (by omega) (by omega) H locs hP hD hS ls (lv_sub hl [1, 0] rfl)
  have hP : va_P (dC, dI) vwCl [(h, .inr (3, [.int (iI (r 0 0)), .int (iI (r 0 1)), .int (iI (r 0 2)), .int (iI (r 0 3)), .int (iI (r 0 4)), .ref a1, .ref a2, .ref a3, .ref a4])), (a1, .inl (cI, 8, .inl (fun k => iI ((r 1) k)))), (a2, .inl (cI, 8, .inl (fun k => iI ((r 2) k)))), (a3, .inl (cI, 8, .inl (fun k => iI ((ngi (r 3) 0) k)))), (a4, .inl (cI, 8, .inl (fun k => iI ((r 4) k))))] s.heap := by simp only [ngi_0]; exact hP
  have hD : va_D A [(h, .inr (3, [.int (iI (r 0 0)), .int (iI (r 0 1)), .int (iI (r 0 2)), .int (iI (r 0 3)), .int (iI (r 0 4)), .ref a1, .ref a2, .ref a3, .ref a4])), (a1, .inl (cI, 8, .inl (fun k => iI ((r 1) k)))), (a2, .inl (cI, 8, .inl (fun k => iI ((r 2) k)))), (a3, .inl (cI, 8, .inl (fun k => iI ((ngi (r 3) 0) k)))), (a4, .inl (cI, 8, .inl (fun k => iI ((r 4) k))))] := by simp only [ngi_0]; exact hD
  exact lp2 _ 0 (0 : Int) (by omega) (by omega) (Nat.lt_succ_self _) s.heap [] hP hD hS ls (lv_sub hl [1, 0] rfl)
set_option maxHeartbeats 4000000 in
set_option maxRecDepth 100000 in
theorem c_X3_copyFrom (l : Launch) (dC : Nat → ClassId) (dI : Nat → Nat → Nat) (cI cJ cC cO : ClassId) (h a1 a2 a3 a4 : Nat) (r : Nat → Nat → Int) (g b1 b2 b3 b4 : Nat) (q : Nat → Nat → Int) : Met l yX3_copyFrom wsX3_copyFrom ({ frames := 0, cells := 0, slots := 0, locals := 0 } : Room) (va_Pc [.ref h, .ref g] (wr_B (dC, dI) vwCl (tyG cI cJ cC cO) (wSt cI h a1 a2 a3 a4 r ++ wSt cI g b1 b2 b3 b4 q))) (wr_Qv (fun (u : Unit) => True) (fun u t => va_P (dC, dI) vwCl (wSt cI h a1 a2 a3 a4 q ++ wSt cI g b1 b2 b3 b4 q) t.heap) (wr_A (wSt cI h a1 a2 a3 a4 r ++ wSt cI g b1 b2 b3 b4 q))) 0 0 (wr_A (wSt cI h a1 a2 a3 a4 r ++ wSt cI g b1 b2 b3 b4 q)) := by
  refine Met.ofW (cc := cX3_copyFrom) (maxL := 3) (ret := none) (by decide) rfl ?_
  intro p e s m args below meth c s₁ B hml hv
  obtain ⟨hav, hP, hK, hD0⟩ := hv
  have hx := B.exec
  have hb := B.bytes
  have hr := B.returns
  have hts := atoms_spec (ws := wsX3_copyFrom) B.pre
  have hown : s.vm.findClass RX3 = some m.cls := findClass_of_methodNamed B.named
  have hlocks := B.notSynchronized
  have hf9 := hts (.fieldLink RX3 9 "RingRods$State" "ringLength" "I") (by decide +kernel)
  have hf15 := hts (.fieldLink RX3 15 "RingRods$State" "place" "[I") (by decide +kernel)
  have hf19 := hts (.fieldLink RX3 19 "RingRods$State" "length" "[I") (by decide +kernel)
  have hf22 := hts (.fieldLink RX3 22 "RingRods$State" "speed" "[I") (by decide +kernel)
  have hf25 := hts (.fieldLink RX3 25 "RingRods$State" "way" "[I") (by decide +kernel)
  have hf28 := hts (.fieldLink RX3 28 "RingRods$State" "rods" "I") (by decide +kernel)
  have hf31 := hts (.fieldLink RX3 31 "RingRods$State" "ticks" "I") (by decide +kernel)
  have hf34 := hts (.fieldLink RX3 34 "RingRods$State" "meetings" "I") (by decide +kernel)
  have hf37 := hts (.fieldLink RX3 37 "RingRods$State" "impulses" "I") (by decide +kernel)
  have hw3 : ∀ w ∈ u_ws RX3 TX3 9, w ∈ wsX3_copyFrom := by decide +kernel
  have hD := va_D.slf hD0
  have hS : va_S (wr_A (wSt cI h a1 a2 a3 a4 r ++ wSt cI g b1 b2 b3 b4 q)) s.heap s.heap [] := va_S.rf
  show W p l e ({ frames := 0, cells := 0, slots := 0, locals := 0 } : Room) s m args below meth c s.heap [] 0 0 (MQ below (wr_Qv (fun (u : Unit) => True) (fun u t => va_P (dC, dI) vwCl (wSt cI h a1 a2 a3 a4 q ++ wSt cI g b1 b2 b3 b4 q) t.heap) (wr_A (wSt cI h a1 a2 a3 a4 r ++ wSt cI g b1 b2 b3 b4 q))) args s 0 0 (wr_A (wSt cI h a1 a2 a3 a4 r ++ wSt cI g b1 b2 b3 b4 q))) (entryFrame m args 3)
  generalize hAe : wr_A (wSt cI h a1 a2 a3 a4 r ++ wSt cI g b1 b2 b3 b4 q) = A at hD hS ⊢
  have hP : va_P (dC, dI) vwCl [(h, .inr (3, [.int (iI (r 0 0)), .int (iI (r 0 1)), .int (iI (r 0 2)), .int (iI (r 0 3)), .int (iI (r 0 4)), .ref a1, .ref a2, .ref a3, .ref a4])), (a1, .inl (cI, 8, .inl (fun k => iI ((r 1) k)))), (a2, .inl (cI, 8, .inl (fun k => iI ((r 2) k)))), (a3, .inl (cI, 8, .inl (fun k => iI ((r 3) k)))), (a4, .inl (cI, 8, .inl (fun k => iI ((r 4) k)))), (g, .inr (3, [.int (iI (q 0 0)), .int (iI (q 0 1)), .int (iI (q 0 2)), .int (iI (q 0 3)), .int (iI (q 0 4)), .ref b1, .ref b2, .ref b3, .ref b4])), (b1, .inl (cI, 8, .inl (fun k => iI ((q 1) k)))), (b2, .inl (cI, 8, .inl (fun k => iI ((q 2) k)))), (b3, .inl (cI, 8, .inl (fun k => iI ((q 3) k)))), (b4, .inl (cI, 8, .inl (fun k => iI ((q 4) k))))] s.heap := hP
  have hD : va_D A [(h, .inr (3, [.int (iI (r 0 0)), .int (iI (r 0 1)), .int (iI (r 0 2)), .int (iI (r 0 3)), .int (iI (r 0 4)), .ref a1, .ref a2, .ref a3, .ref a4])), (a1, .inl (cI, 8, .inl (fun k => iI ((r 1) k)))), (a2, .inl (cI, 8, .inl (fun k => iI ((r 2) k)))), (a3, .inl (cI, 8, .inl (fun k => iI ((r 3) k)))), (a4, .inl (cI, 8, .inl (fun k => iI ((r 4) k)))), (g, .inr (3, [.int (iI (q 0 0)), .int (iI (q 0 1)), .int (iI (q 0 2)), .int (iI (q 0 3)), .int (iI (q 0 4)), .ref b1, .ref b2, .ref b3, .ref b4])), (b1, .inl (cI, 8, .inl (fun k => iI ((q 1) k)))), (b2, .inl (cI, 8, .inl (fun k => iI ((q 2) k)))), (b3, .inl (cI, 8, .inl (fun k => iI ((q 3) k)))), (b4, .inl (cI, 8, .inl (fun k => iI ((q 4) k))))] := hD
  have hl := lv_entry ([.ref h, .ref g]) (n := 3) (Nat.le_of_ble_eq_true rfl)
  have hent : entryFrame m args 3 = F0 m 0 ((lg_sl ([.ref h, .ref g]) ++ List.replicate (3 - (lg_sl ([.ref h, .ref g])).length) Slot.unset).toArray) [] := by rw [hav]; exact lg_entry_eq ..
  rw [hent]
  generalize (lg_sl ([.ref h, .ref g]) ++ List.replicate (3 - (lg_sl ([.ref h, .ref g])).length) Slot.unset).toArray = ls at hl ⊢
  have hl : lv_has ls 3 [(0, .ref h), (1, .ref g)] := hl
  refine lv_aload_n hx hb dX3_copyFrom_0 rfl (lv_at hl 0 rfl) ?_
  refine lv_aload_n hx hb dX3_copyFrom_1 rfl (lv_at hl 1 rfl) ?_
  refine va_get (D := (dC, dI)) (ci := 3) (v := .int (iI (q 0 0))) (C := RX3) (T := TX3) (N := 9) hx hb hts hw3 hown hK hP 5 rfl rfl 0 (by decide) hf9 (fun _ h9 => h9) rfl dX3_copyFrom_2 ?_
  refine va_put (D := (dC, dI)) (ci := 3) (v := .int (iI (q 0 0))) (ty := .int) (C := RX3) (T := TX3) (N := 9) hx hb hts hw3 tyX3 tyX3_ok nmX3 hown hK hP hD hS 0 rfl rfl 0 (by decide) hf9 (fun _ h9 => h9) rfl (by decide +kernel) rfl rfl (Nat.le_of_ble_eq_true rfl) dX3_copyFrom_5 (fun H locs hP hD hS => ?_)
  have hP : va_P (dC, dI) vwCl [(h, .inr (3, [.int (iI (q 0 0)), .int (iI (r 0 1)), .int (iI (r 0 2)), .int (iI (r 0 3)), .int (iI (r 0 4)), .ref a1, .ref a2, .ref a3, .ref a4])), (a1, .inl (cI, 8, .inl (fun k => iI ((r 1) k)))), (a2, .inl (cI, 8, .inl (fun k => iI ((r 2) k)))), (a3, .inl (cI, 8, .inl (fun k => iI ((r 3) k)))), (a4, .inl (cI, 8, .inl (fun k => iI ((r 4) k)))), (g, .inr (3, [.int (iI (q 0 0)), .int (iI (q 0 1)), .int (iI (q 0 2)), .int (iI (q 0 3)), .int (iI (q 0 4)), .ref b1, .ref b2, .ref b3, .ref b4])), (b1, .inl (cI, 8, .inl (fun k => iI ((q 1) k)))), (b2, .inl (cI, 8, .inl (fun k => iI ((q 2) k)))), (b3, .inl (cI, 8, .inl (fun k => iI ((q 3) k)))), (b4, .inl (cI, 8, .inl (fun k => iI ((q 4) k))))] H := hP
  have hD : va_D A [(h, .inr (3, [.int (iI (q 0 0)), .int (iI (r 0 1)), .int (iI (r 0 2)), .int (iI (r 0 3)), .int (iI (r 0 4)), .ref a1, .ref a2, .ref a3, .ref a4])), (a1, .inl (cI, 8, .inl (fun k => iI ((r 1) k)))), (a2, .inl (cI, 8, .inl (fun k => iI ((r 2) k)))), (a3, .inl (cI, 8, .inl (fun k => iI ((r 3) k)))), (a4, .inl (cI, 8, .inl (fun k => iI ((r 4) k)))), (g, .inr (3, [.int (iI (q 0 0)), .int (iI (q 0 1)), .int (iI (q 0 2)), .int (iI (q 0 3)), .int (iI (q 0 4)), .ref b1, .ref b2, .ref b3, .ref b4])), (b1, .inl (cI, 8, .inl (fun k => iI ((q 1) k)))), (b2, .inl (cI, 8, .inl (fun k => iI ((q 2) k)))), (b3, .inl (cI, 8, .inl (fun k => iI ((q 3) k)))), (b4, .inl (cI, 8, .inl (fun k => iI ((q 4) k))))] := hD
  refine lv_aload_n hx hb dX3_copyFrom_8 rfl (lv_at hl 0 rfl) ?_
  refine lv_aload_n hx hb dX3_copyFrom_9 rfl (lv_at hl 1 rfl) ?_
  refine va_get (D := (dC, dI)) (ci := 3) (v := .int (iI (q 0 1))) (C := RX3) (T := TX3) (N := 9) hx hb hts hw3 hown hK hP 5 rfl rfl 1 (by decide) hf28 (fun _ h9 => h9) rfl dX3_copyFrom_10 ?_
  refine va_put (D := (dC, dI)) (ci := 3) (v := .int (iI (q 0 1))) (ty := .int) (C := RX3) (T := TX3) (N := 9) hx hb hts hw3 tyX3 tyX3_ok nmX3 hown hK hP hD hS 0 rfl rfl 1 (by decide) hf28 (fun _ h9 => h9) rfl (by decide +kernel) rfl rfl (Nat.le_of_ble_eq_true rfl) dX3_copyFrom_13 (fun H locs hP hD hS => ?_)
  have hP : va_P (dC, dI) vwCl [(h, .inr (3, [.int (iI (q 0 0)), .int (iI (q 0 1)), .int (iI (r 0 2)), .int (iI (r 0 3)), .int (iI (r 0 4)), .ref a1, .ref a2, .ref a3, .ref a4])), (a1, .inl (cI, 8, .inl (fun k => iI ((r 1) k)))), (a2, .inl (cI, 8, .inl (fun k => iI ((r 2) k)))), (a3, .inl (cI, 8, .inl (fun k => iI ((r 3) k)))), (a4, .inl (cI, 8, .inl (fun k => iI ((r 4) k)))), (g, .inr (3, [.int (iI (q 0 0)), .int (iI (q 0 1)), .int (iI (q 0 2)), .int (iI (q 0 3)), .int (iI (q 0 4)), .ref b1, .ref b2, .ref b3, .ref b4])), (b1, .inl (cI, 8, .inl (fun k => iI ((q 1) k)))), (b2, .inl (cI, 8, .inl (fun k => iI ((q 2) k)))), (b3, .inl (cI, 8, .inl (fun k => iI ((q 3) k)))), (b4, .inl (cI, 8, .inl (fun k => iI ((q 4) k))))] H := hP
  have hD : va_D A [(h, .inr (3, [.int (iI (q 0 0)), .int (iI (q 0 1)), .int (iI (r 0 2)), .int (iI (r 0 3)), .int (iI (r 0 4)), .ref a1, .ref a2, .ref a3, .ref a4])), (a1, .inl (cI, 8, .inl (fun k => iI ((r 1) k)))), (a2, .inl (cI, 8, .inl (fun k => iI ((r 2) k)))), (a3, .inl (cI, 8, .inl (fun k => iI ((r 3) k)))), (a4, .inl (cI, 8, .inl (fun k => iI ((r 4) k)))), (g, .inr (3, [.int (iI (q 0 0)), .int (iI (q 0 1)), .int (iI (q 0 2)), .int (iI (q 0 3)), .int (iI (q 0 4)), .ref b1, .ref b2, .ref b3, .ref b4])), (b1, .inl (cI, 8, .inl (fun k => iI ((q 1) k)))), (b2, .inl (cI, 8, .inl (fun k => iI ((q 2) k)))), (b3, .inl (cI, 8, .inl (fun k => iI ((q 3) k)))), (b4, .inl (cI, 8, .inl (fun k => iI ((q 4) k))))] := hD
  refine lv_aload_n hx hb dX3_copyFrom_16 rfl (lv_at hl 0 rfl) ?_
  refine lv_aload_n hx hb dX3_copyFrom_17 rfl (lv_at hl 1 rfl) ?_
  refine va_get (D := (dC, dI)) (ci := 3) (v := .int (iI (q 0 2))) (C := RX3) (T := TX3) (N := 9) hx hb hts hw3 hown hK hP 5 rfl rfl 2 (by decide) hf31 (fun _ h9 => h9) rfl dX3_copyFrom_18 ?_
  refine va_put (D := (dC, dI)) (ci := 3) (v := .int (iI (q 0 2))) (ty := .int) (C := RX3) (T := TX3) (N := 9) hx hb hts hw3 tyX3 tyX3_ok nmX3 hown hK hP hD hS 0 rfl rfl 2 (by decide) hf31 (fun _ h9 => h9) rfl (by decide +kernel) rfl rfl (Nat.le_of_ble_eq_true rfl) dX3_copyFrom_21 (fun H locs hP hD hS => ?_)
  have hP : va_P (dC, dI) vwCl [(h, .inr (3, [.int (iI (q 0 0)), .int (iI (q 0 1)), .int (iI (q 0 2)), .int (iI (r 0 3)), .int (iI (r 0 4)), .ref a1, .ref a2, .ref a3, .ref a4])), (a1, .inl (cI, 8, .inl (fun k => iI ((r 1) k)))), (a2, .inl (cI, 8, .inl (fun k => iI ((r 2) k)))), (a3, .inl (cI, 8, .inl (fun k => iI ((r 3) k)))), (a4, .inl (cI, 8, .inl (fun k => iI ((r 4) k)))), (g, .inr (3, [.int (iI (q 0 0)), .int (iI (q 0 1)), .int (iI (q 0 2)), .int (iI (q 0 3)), .int (iI (q 0 4)), .ref b1, .ref b2, .ref b3, .ref b4])), (b1, .inl (cI, 8, .inl (fun k => iI ((q 1) k)))), (b2, .inl (cI, 8, .inl (fun k => iI ((q 2) k)))), (b3, .inl (cI, 8, .inl (fun k => iI ((q 3) k)))), (b4, .inl (cI, 8, .inl (fun k => iI ((q 4) k))))] H := hP
  have hD : va_D A [(h, .inr (3, [.int (iI (q 0 0)), .int (iI (q 0 1)), .int (iI (q 0 2)), .int (iI (r 0 3)), .int (iI (r 0 4)), .ref a1, .ref a2, .ref a3, .ref a4])), (a1, .inl (cI, 8, .inl (fun k => iI ((r 1) k)))), (a2, .inl (cI, 8, .inl (fun k => iI ((r 2) k)))), (a3, .inl (cI, 8, .inl (fun k => iI ((r 3) k)))), (a4, .inl (cI, 8, .inl (fun k => iI ((r 4) k)))), (g, .inr (3, [.int (iI (q 0 0)), .int (iI (q 0 1)), .int (iI (q 0 2)), .int (iI (q 0 3)), .int (iI (q 0 4)), .ref b1, .ref b2, .ref b3, .ref b4])), (b1, .inl (cI, 8, .inl (fun k => iI ((q 1) k)))), (b2, .inl (cI, 8, .inl (fun k => iI ((q 2) k)))), (b3, .inl (cI, 8, .inl (fun k => iI ((q 3) k)))), (b4, .inl (cI, 8, .inl (fun k => iI ((q 4) k))))] := hD
  refine lv_aload_n hx hb dX3_copyFrom_24 rfl (lv_at hl 0 rfl) ?_
  refine lv_aload_n hx hb dX3_copyFrom_25 rfl (lv_at hl 1 rfl) ?_
  refine va_get (D := (dC, dI)) (ci := 3) (v := .int (iI (q 0 3))) (C := RX3) (T := TX3) (N := 9) hx hb hts hw3 hown hK hP 5 rfl rfl 3 (by decide) hf34 (fun _ h9 => h9) rfl dX3_copyFrom_26 ?_
  refine va_put (D := (dC, dI)) (ci := 3) (v := .int (iI (q 0 3))) (ty := .int) (C := RX3) (T := TX3) (N := 9) hx hb hts hw3 tyX3 tyX3_ok nmX3 hown hK hP hD hS 0 rfl rfl 3 (by decide) hf34 (fun _ h9 => h9) rfl (by decide +kernel) rfl rfl (Nat.le_of_ble_eq_true rfl) dX3_copyFrom_29 (fun H locs hP hD hS => ?_)
  have hP : va_P (dC, dI) vwCl [(h, .inr (3, [.int (iI (q 0 0)), .int (iI (q 0 1)), .int (iI (q 0 2)), .int (iI (q 0 3)), .int (iI (r 0 4)), .ref a1, .ref a2, .ref a3, .ref a4])), (a1, .inl (cI, 8, .inl (fun k => iI ((r 1) k)))), (a2, .inl (cI, 8, .inl (fun k => iI ((r 2) k)))), (a3, .inl (cI, 8, .inl (fun k => iI ((r 3) k)))), (a4, .inl (cI, 8, .inl (fun k => iI ((r 4) k)))), (g, .inr (3, [.int (iI (q 0 0)), .int (iI (q 0 1)), .int (iI (q 0 2)), .int (iI (q 0 3)), .int (iI (q 0 4)), .ref b1, .ref b2, .ref b3, .ref b4])), (b1, .inl (cI, 8, .inl (fun k => iI ((q 1) k)))), (b2, .inl (cI, 8, .inl (fun k => iI ((q 2) k)))), (b3, .inl (cI, 8, .inl (fun k => iI ((q 3) k)))), (b4, .inl (cI, 8, .inl (fun k => iI ((q 4) k))))] H := hP
  have hD : va_D A [(h, .inr (3, [.int (iI (q 0 0)), .int (iI (q 0 1)), .int (iI (q 0 2)), .int (iI (q 0 3)), .int (iI (r 0 4)), .ref a1, .ref a2, .ref a3, .ref a4])), (a1, .inl (cI, 8, .inl (fun k => iI ((r 1) k)))), (a2, .inl (cI, 8, .inl (fun k => iI ((r 2) k)))), (a3, .inl (cI, 8, .inl (fun k => iI ((r 3) k)))), (a4, .inl (cI, 8, .inl (fun k => iI ((r 4) k)))), (g, .inr (3, [.int (iI (q 0 0)), .int (iI (q 0 1)), .int (iI (q 0 2)), .int (iI (q 0 3)), .int (iI (q 0 4)), .ref b1, .ref b2, .ref b3, .ref b4])), (b1, .inl (cI, 8, .inl (fun k => iI ((q 1) k)))), (b2, .inl (cI, 8, .inl (fun k => iI ((q 2) k)))), (b3, .inl (cI, 8, .inl (fun k => iI ((q 3) k)))), (b4, .inl (cI, 8, .inl (fun k => iI ((q 4) k))))] := hD
  refine lv_aload_n hx hb dX3_copyFrom_32 rfl (lv_at hl 0 rfl) ?_
  refine lv_aload_n hx hb dX3_copyFrom_33 rfl (lv_at hl 1 rfl) ?_
  refine va_get (D := (dC, dI)) (ci := 3) (v := .int (iI (q 0 4))) (C := RX3) (T := TX3) (N := 9) hx hb hts hw3 hown hK hP 5 rfl rfl 4 (by decide) hf37 (fun _ h9 => h9) rfl dX3_copyFrom_34 ?_
  refine va_put (D := (dC, dI)) (ci := 3) (v := .int (iI (q 0 4))) (ty := .int) (C := RX3) (T := TX3) (N := 9) hx hb hts hw3 tyX3 tyX3_ok nmX3 hown hK hP hD hS 0 rfl rfl 4 (by decide) hf37 (fun _ h9 => h9) rfl (by decide +kernel) rfl rfl (Nat.le_of_ble_eq_true rfl) dX3_copyFrom_37 (fun H locs hP hD hS => ?_)
  have hP : va_P (dC, dI) vwCl [(h, .inr (3, [.int (iI (q 0 0)), .int (iI (q 0 1)), .int (iI (q 0 2)), .int (iI (q 0 3)), .int (iI (q 0 4)), .ref a1, .ref a2, .ref a3, .ref a4])), (a1, .inl (cI, 8, .inl (fun k => iI ((r 1) k)))), (a2, .inl (cI, 8, .inl (fun k => iI ((r 2) k)))), (a3, .inl (cI, 8, .inl (fun k => iI ((r 3) k)))), (a4, .inl (cI, 8, .inl (fun k => iI ((r 4) k)))), (g, .inr (3, [.int (iI (q 0 0)), .int (iI (q 0 1)), .int (iI (q 0 2)), .int (iI (q 0 3)), .int (iI (q 0 4)), .ref b1, .ref b2, .ref b3, .ref b4])), (b1, .inl (cI, 8, .inl (fun k => iI ((q 1) k)))), (b2, .inl (cI, 8, .inl (fun k => iI ((q 2) k)))), (b3, .inl (cI, 8, .inl (fun k => iI ((q 3) k)))), (b4, .inl (cI, 8, .inl (fun k => iI ((q 4) k))))] H := hP
  have hD : va_D A [(h, .inr (3, [.int (iI (q 0 0)), .int (iI (q 0 1)), .int (iI (q 0 2)), .int (iI (q 0 3)), .int (iI (q 0 4)), .ref a1, .ref a2, .ref a3, .ref a4])), (a1, .inl (cI, 8, .inl (fun k => iI ((r 1) k)))), (a2, .inl (cI, 8, .inl (fun k => iI ((r 2) k)))), (a3, .inl (cI, 8, .inl (fun k => iI ((r 3) k)))), (a4, .inl (cI, 8, .inl (fun k => iI ((r 4) k)))), (g, .inr (3, [.int (iI (q 0 0)), .int (iI (q 0 1)), .int (iI (q 0 2)), .int (iI (q 0 3)), .int (iI (q 0 4)), .ref b1, .ref b2, .ref b3, .ref b4])), (b1, .inl (cI, 8, .inl (fun k => iI ((q 1) k)))), (b2, .inl (cI, 8, .inl (fun k => iI ((q 2) k)))), (b3, .inl (cI, 8, .inl (fun k => iI ((q 3) k)))), (b4, .inl (cI, 8, .inl (fun k => iI ((q 4) k))))] := hD
  refine zz_iconst hx hb dX3_copyFrom_40 ?_
  refine lv_istore_n (lv' := [(2, .int (iI (0 : Int))), (0, .ref h), (1, .ref g)]) hx hb dX3_copyFrom_41 rfl hl (by decide) rfl (fun ls hl => ?_)
  have lp42 : ∀ (d42 : Nat), ∀ (i : Nat) (v2 : Int) (hi : i ≤ 8) (e2 : v2 = (i : Int)), 8 - i < d42 → ∀ (H : Heap) (locs : List Loc), va_P (dC, dI) vwCl [(h, .inr (3, [.int (iI (q 0 0)), .int (iI (q 0 1)), .int (iI (q 0 2)), .int (iI (q 0 3)), .int (iI (q 0 4)), .ref a1, .ref a2, .ref a3, .ref a4])), (a1, .inl (cI, 8, .inl (fun k => iI ((cpi (r 1) (q 1) i) k)))), (a2, .inl (cI, 8, .inl (fun k => iI ((cpi (r 2) (q 2) i) k)))), (a3, .inl (cI, 8, .inl (fun k => iI ((cpi (r 3) (q 3) i) k)))), (a4, .inl (cI, 8, .inl (fun k => iI ((cpi (r 4) (q 4) i) k)))), (g, .inr (3, [.int (iI (q 0 0)), .int (iI (q 0 1)), .int (iI (q 0 2)), .int (iI (q 0 3)), .int (iI (q 0 4)), .ref b1, .ref b2, .ref b3, .ref b4])), (b1, .inl (cI, 8, .inl (fun k => iI ((q 1) k)))), (b2, .inl (cI, 8, .inl (fun k => iI ((q 2) k)))), (b3, .inl (cI, 8, .inl (fun k => iI ((q 3) k)))), (b4, .inl (cI, 8, .inl (fun k => iI ((q 4) k))))] H → va_D A [(h, .inr (3, [.int (iI (q 0 0)), .int (iI (q 0 1)), .int (iI (q 0 2)), .int (iI (q 0 3)), .int (iI (q 0 4)), .ref a1, .ref a2, .ref a3, .ref a4])), (a1, .inl (cI, 8, .inl (fun k => iI ((cpi (r 1) (q 1) i) k)))), (a2, .inl (cI, 8, .inl (fun k => iI ((cpi (r 2) (q 2) i) k)))), (a3, .inl (cI, 8, .inl (fun k => iI ((cpi (r 3) (q 3) i) k)))), (a4, .inl (cI, 8, .inl (fun k => iI ((cpi (r 4) (q 4) i) k)))), (g, .inr (3, [.int (iI (q 0 0)), .int (iI (q 0 1)), .int (iI (q 0 2)), .int (iI (q 0 3)), .int (iI (q 0 4)), .ref b1, .ref b2, .ref b3, .ref b4])), (b1, .inl (cI, 8, .inl (fun k => iI ((q 1) k)))), (b2, .inl (cI, 8, .inl (fun k => iI ((q 2) k)))), (b3, .inl (cI, 8, .inl (fun k => iI ((q 3) k)))), (b4, .inl (cI, 8, .inl (fun k => iI ((q 4) k))))] → va_S A s.heap H locs → ∀ ls : Array Slot, lv_has ls 3 [(0, .ref h), (1, .ref g), (2, .int (iI v2))] → W p l e ({ frames := 0, cells := 0, slots := 0, locals := 0 } : Room) s m args below meth c H locs 0 0 (MQ below (wr_Qv (fun (u : Unit) => True) (fun u t => va_P (dC, dI) vwCl (wSt cI h a1 a2 a3 a4 q ++ wSt cI g b1 b2 b3 b4 q) t.heap) A) args s 0 0 A) (F0 m 42 ls []) := by
    intro d42
    induction d42 with
    | zero =>
      intro i v2 hi e2 hd42
      exact absurd hd42 (Nat.not_lt_zero _)
    | succ d42 ih42 =>
      intro i v2 hi e2 hd42 H locs hP hD hS ls hl
      refine lv_iload_n hx hb dX3_copyFrom_42 rfl (lv_at hl 2 rfl) ?_
      refine zz_bipush hx hb dX3_copyFrom_43 (by decide +kernel) ?_
      refine zz_icmp_ge (tgt := 102) hx hb dX3_copyFrom_45 (by decide) (by omega) (by omega) (fun c_45 => ?_) (fun c_45 => ?_)
      · skip
        exact W.vret hx hb hr (fun t9 ht9 hW9 => ⟨⟨(), rfl, trivial, by show va_P _ _ _ t9.heap; rw [ht9]; exact (by (have e9 : i = 8 := (by omega)); rw [e9] at hP; exact st_copied hP)⟩, hS.F ht9⟩) hS.2.2 dX3_copyFrom_102
      · skip
        refine lv_aload_n hx hb dX3_copyFrom_48 rfl (lv_at hl 0 rfl) ?_
        refine va_get (D := (dC, dI)) (ci := 3) (v := .ref a1) (C := RX3) (T := TX3) (N := 9) hx hb hts hw3 hown hK hP 0 rfl rfl 5 (by decide) hf15 (fun _ h9 => h9) rfl dX3_copyFrom_49 ?_
        refine lv_iload_n hx hb dX3_copyFrom_52 rfl (lv_at hl 2 rfl) ?_
        refine lv_aload_n hx hb dX3_copyFrom_53 rfl (lv_at hl 1 rfl) ?_
        refine va_get (D := (dC, dI)) (ci := 3) (v := .ref b1) (C := RX3) (T := TX3) (N := 9) hx hb hts hw3 hown hK hP 5 rfl rfl 5 (by decide) hf15 (fun _ h9 => h9) rfl dX3_copyFrom_54 ?_
        refine lv_iload_n hx hb dX3_copyFrom_57 rfl (lv_at hl 2 rfl) ?_
        refine zz_iald hx hb hK hP 6 0 (f := (q 1)) rfl rfl (by decide) i (by omega) (by omega) dX3_copyFrom_58 ?_
        refine zz_iast hx hb hK hP hD hS 1 0 (f := (cpi (r 1) (q 1) i)) (x := ((q 1) i)) rfl rfl (by decide) i (by omega) (by omega) dX3_copyFrom_59 (fun H locs hP hD hS => ?_)
        have hP : va_P (dC, dI) vwCl [(h, .inr (3, [.int (iI (q 0 0)), .int (iI (q 0 1)), .int (iI (q 0 2)), .int (iI (q 0 3)), .int (iI (q 0 4)), .ref a1, .ref a2, .ref a3, .ref a4])), (a1, .inl (cI, 8, .inl (fun k => iI ((up (cpi (r 1) (q 1) i) i ((q 1) i)) k)))), (a2, .inl (cI, 8, .inl (fun k => iI ((cpi (r 2) (q 2) i) k)))), (a3, .inl (cI, 8, .inl (fun k => iI ((cpi (r 3) (q 3) i) k)))), (a4, .inl (cI, 8, .inl (fun k => iI ((cpi (r 4) (q 4) i) k)))), (g, .inr (3, [.int (iI (q 0 0)), .int (iI (q 0 1)), .int (iI (q 0 2)), .int (iI (q 0 3)), .int (iI (q 0 4)), .ref b1, .ref b2, .ref b3, .ref b4])), (b1, .inl (cI, 8, .inl (fun k => iI ((q 1) k)))), (b2, .inl (cI, 8, .inl (fun k => iI ((q 2) k)))), (b3, .inl (cI, 8, .inl (fun k => iI ((q 3) k)))), (b4, .inl (cI, 8, .inl (fun k => iI ((q 4) k))))] H := hP
        have hD : va_D A [(h, .inr (3, [.int (iI (q 0 0)), .int (iI (q 0 1)), .int (iI (q 0 2)), .int (iI (q 0 3)), .int (iI (q 0 4)), .ref a1, .ref a2, .ref a3, .ref a4])), (a1, .inl (cI, 8, .inl (fun k => iI ((up (cpi (r 1) (q 1) i) i ((q 1) i)) k)))), (a2, .inl (cI, 8, .inl (fun k => iI ((cpi (r 2) (q 2) i) k)))), (a3, .inl (cI, 8, .inl (fun k => iI ((cpi (r 3) (q 3) i) k)))), (a4, .inl (cI, 8, .inl (fun k => iI ((cpi (r 4) (q 4) i) k)))), (g, .inr (3, [.int (iI (q 0 0)), .int (iI (q 0 1)), .int (iI (q 0 2)), .int (iI (q 0 3)), .int (iI (q 0 4)), .ref b1, .ref b2, .ref b3, .ref b4])), (b1, .inl (cI, 8, .inl (fun k => iI ((q 1) k)))), (b2, .inl (cI, 8, .inl (fun k => iI ((q 2) k)))), (b3, .inl (cI, 8, .inl (fun k => iI ((q 3) k)))), (b4, .inl (cI, 8, .inl (fun k => iI ((q 4) k))))] := hD
        refine lv_aload_n hx hb dX3_copyFrom_60 rfl (lv_at hl 0 rfl) ?_
        refine va_get (D := (dC, dI)) (ci := 3) (v := .ref a2) (C := RX3) (T := TX3) (N := 9) hx hb hts hw3 hown hK hP 0 rfl rfl 6 (by decide) hf19 (fun _ h9 => h9) rfl dX3_copyFrom_61 ?_
        refine lv_iload_n hx hb dX3_copyFrom_64 rfl (lv_at hl 2 rfl) ?_
        refine lv_aload_n hx hb dX3_copyFrom_65 rfl (lv_at hl 1 rfl) ?_
        refine va_get (D := (dC, dI)) (ci := 3) (v := .ref b2) (C := RX3) (T := TX3) (N := 9) hx hb hts hw3 hown hK hP 5 rfl rfl 6 (by decide) hf19 (fun _ h9 => h9) rfl dX3_copyFrom_66 ?_
        refine lv_iload_n hx hb dX3_copyFrom_69 rfl (lv_at hl 2 rfl) ?_
        refine zz_iald hx hb hK hP 7 0 (f := (q 2)) rfl rfl (by decide) i (by omega) (by omega) dX3_copyFrom_70 ?_
        refine zz_iast hx hb hK hP hD hS 2 0 (f := (cpi (r 2) (q 2) i)) (x := ((q 2) i)) rfl rfl (by decide) i (by omega) (by omega) dX3_copyFrom_71 (fun H locs hP hD hS => ?_)
        have hP : va_P (dC, dI) vwCl [(h, .inr (3, [.int (iI (q 0 0)), .int (iI (q 0 1)), .int (iI (q 0 2)), .int (iI (q 0 3)), .int (iI (q 0 4)), .ref a1, .ref a2, .ref a3, .ref a4])), (a1, .inl (cI, 8, .inl (fun k => iI ((up (cpi (r 1) (q 1) i) i ((q 1) i)) k)))), (a2, .inl (cI, 8, .inl (fun k => iI ((up (cpi (r 2) (q 2) i) i ((q 2) i)) k)))), (a3, .inl (cI, 8, .inl (fun k => iI ((cpi (r 3) (q 3) i) k)))), (a4, .inl (cI, 8, .inl (fun k => iI ((cpi (r 4) (q 4) i) k)))), (g, .inr (3, [.int (iI (q 0 0)), .int (iI (q 0 1)), .int (iI (q 0 2)), .int (iI (q 0 3)), .int (iI (q 0 4)), .ref b1, .ref b2, .ref b3, .ref b4])), (b1, .inl (cI, 8, .inl (fun k => iI ((q 1) k)))), (b2, .inl (cI, 8, .inl (fun k => iI ((q 2) k)))), (b3, .inl (cI, 8, .inl (fun k => iI ((q 3) k)))), (b4, .inl (cI, 8, .inl (fun k => iI ((q 4) k))))] H := hP
        have hD : va_D A [(h, .inr (3, [.int (iI (q 0 0)), .int (iI (q 0 1)), .int (iI (q 0 2)), .int (iI (q 0 3)), .int (iI (q 0 4)), .ref a1, .ref a2, .ref a3, .ref a4])), (a1, .inl (cI, 8, .inl (fun k => iI ((up (cpi (r 1) (q 1) i) i ((q 1) i)) k)))), (a2, .inl (cI, 8, .inl (fun k => iI ((up (cpi (r 2) (q 2) i) i ((q 2) i)) k)))), (a3, .inl (cI, 8, .inl (fun k => iI ((cpi (r 3) (q 3) i) k)))), (a4, .inl (cI, 8, .inl (fun k => iI ((cpi (r 4) (q 4) i) k)))), (g, .inr (3, [.int (iI (q 0 0)), .int (iI (q 0 1)), .int (iI (q 0 2)), .int (iI (q 0 3)), .int (iI (q 0 4)), .ref b1, .ref b2, .ref b3, .ref b4])), (b1, .inl (cI, 8, .inl (fun k => iI ((q 1) k)))), (b2, .inl (cI, 8, .inl (fun k => iI ((q 2) k)))), (b3, .inl (cI, 8, .inl (fun k => iI ((q 3) k)))), (b4, .inl (cI, 8, .inl (fun k => iI ((q 4) k))))] := hD
        refine lv_aload_n hx hb dX3_copyFrom_72 rfl (lv_at hl 0 rfl) ?_
        refine va_get (D := (dC, dI)) (ci := 3) (v := .ref a3) (C := RX3) (T := TX3) (N := 9) hx hb hts hw3 hown hK hP 0 rfl rfl 7 (by decide) hf22 (fun _ h9 => h9) rfl dX3_copyFrom_73 ?_
        refine lv_iload_n hx hb dX3_copyFrom_76 rfl (lv_at hl 2 rfl) ?_
        refine lv_aload_n hx hb dX3_copyFrom_77 rfl (lv_at hl 1 rfl) ?_
        refine va_get (D := (dC, dI)) (ci := 3) (v := .ref b3) (C := RX3) (T := TX3) (N := 9) hx hb hts hw3 hown hK hP 5 rfl rfl 7 (by decide) hf22 (fun _ h9 => h9) rfl dX3_copyFrom_78 ?_
        refine lv_iload_n hx hb dX3_copyFrom_81 rfl (lv_at hl 2 rfl) ?_
        refine zz_iald hx hb hK hP 8 0 (f := (q 3)) rfl rfl (by decide) i (by omega) (by omega) dX3_copyFrom_82 ?_
        refine zz_iast hx hb hK hP hD hS 3 0 (f := (cpi (r 3) (q 3) i)) (x := ((q 3) i)) rfl rfl (by decide) i (by omega) (by omega) dX3_copyFrom_83 (fun H locs hP hD hS => ?_)
        have hP : va_P (dC, dI) vwCl [(h, .inr (3, [.int (iI (q 0 0)), .int (iI (q 0 1)), .int (iI (q 0 2)), .int (iI (q 0 3)), .int (iI (q 0 4)), .ref a1, .ref a2, .ref a3, .ref a4])), (a1, .inl (cI, 8, .inl (fun k => iI ((up (cpi (r 1) (q 1) i) i ((q 1) i)) k)))), (a2, .inl (cI, 8, .inl (fun k => iI ((up (cpi (r 2) (q 2) i) i ((q 2) i)) k)))), (a3, .inl (cI, 8, .inl (fun k => iI ((up (cpi (r 3) (q 3) i) i ((q 3) i)) k)))), (a4, .inl (cI, 8, .inl (fun k => iI ((cpi (r 4) (q 4) i) k)))), (g, .inr (3, [.int (iI (q 0 0)), .int (iI (q 0 1)), .int (iI (q 0 2)), .int (iI (q 0 3)), .int (iI (q 0 4)), .ref b1, .ref b2, .ref b3, .ref b4])), (b1, .inl (cI, 8, .inl (fun k => iI ((q 1) k)))), (b2, .inl (cI, 8, .inl (fun k => iI ((q 2) k)))), (b3, .inl (cI, 8, .inl (fun k => iI ((q 3) k)))), (b4, .inl (cI, 8, .inl (fun k => iI ((q 4) k))))] H := hP
        have hD : va_D A [(h, .inr (3, [.int (iI (q 0 0)), .int (iI (q 0 1)), .int (iI (q 0 2)), .int (iI (q 0 3)), .int (iI (q 0 4)), .ref a1, .ref a2, .ref a3, .ref a4])), (a1, .inl (cI, 8, .inl (fun k => iI ((up (cpi (r 1) (q 1) i) i ((q 1) i)) k)))), (a2, .inl (cI, 8, .inl (fun k => iI ((up (cpi (r 2) (q 2) i) i ((q 2) i)) k)))), (a3, .inl (cI, 8, .inl (fun k => iI ((up (cpi (r 3) (q 3) i) i ((q 3) i)) k)))), (a4, .inl (cI, 8, .inl (fun k => iI ((cpi (r 4) (q 4) i) k)))), (g, .inr (3, [.int (iI (q 0 0)), .int (iI (q 0 1)), .int (iI (q 0 2)), .int (iI (q 0 3)), .int (iI (q 0 4)), .ref b1, .ref b2, .ref b3, .ref b4])), (b1, .inl (cI, 8, .inl (fun k => iI ((q 1) k)))), (b2, .inl (cI, 8, .inl (fun k => iI ((q 2) k)))), (b3, .inl (cI, 8, .inl (fun k => iI ((q 3) k)))), (b4, .inl (cI, 8, .inl (fun k => iI ((q 4) k))))] := hD
        refine lv_aload_n hx hb dX3_copyFrom_84 rfl (lv_at hl 0 rfl) ?_
        refine va_get (D := (dC, dI)) (ci := 3) (v := .ref a4) (C := RX3) (T := TX3) (N := 9) hx hb hts hw3 hown hK hP 0 rfl rfl 8 (by decide) hf25 (fun _ h9 => h9) rfl dX3_copyFrom_85 ?_
        refine lv_iload_n hx hb dX3_copyFrom_88 rfl (lv_at hl 2 rfl) ?_
        refine lv_aload_n hx hb dX3_copyFrom_89 rfl (lv_at hl 1 rfl) ?_
        refine va_get (D := (dC, dI)) (ci := 3) (v := .ref b4) (C := RX3) (T := TX3) (N := 9) hx hb hts hw3 hown hK hP 5 rfl rfl 8 (by decide) hf25 (fun _ h9 => h9) rfl dX3_copyFrom_90 ?_
        refine lv_iload_n hx hb dX3_copyFrom_93 rfl (lv_at hl 2 rfl) ?_
        refine zz_iald hx hb hK hP 9 0 (f := (q 4)) rfl rfl (by decide) i (by omega) (by omega) dX3_copyFrom_94 ?_
        refine zz_iast hx hb hK hP hD hS 4 0 (f := (cpi (r 4) (q 4) i)) (x := ((q 4) i)) rfl rfl (by decide) i (by omega) (by omega) dX3_copyFrom_95 (fun H locs hP hD hS => ?_)
        have hP : va_P (dC, dI) vwCl [(h, .inr (3, [.int (iI (q 0 0)), .int (iI (q 0 1)), .int (iI (q 0 2)), .int (iI (q 0 3)), .int (iI (q 0 4)), .ref a1, .ref a2, .ref a3, .ref a4])), (a1, .inl (cI, 8, .inl (fun k => iI ((up (cpi (r 1) (q 1) i) i ((q 1) i)) k)))), (a2, .inl (cI, 8, .inl (fun k => iI ((up (cpi (r 2) (q 2) i) i ((q 2) i)) k)))), (a3, .inl (cI, 8, .inl (fun k => iI ((up (cpi (r 3) (q 3) i) i ((q 3) i)) k)))), (a4, .inl (cI, 8, .inl (fun k => iI ((up (cpi (r 4) (q 4) i) i ((q 4) i)) k)))), (g, .inr (3, [.int (iI (q 0 0)), .int (iI (q 0 1)), .int (iI (q 0 2)), .int (iI (q 0 3)), .int (iI (q 0 4)), .ref b1, .ref b2, .ref b3, .ref b4])), (b1, .inl (cI, 8, .inl (fun k => iI ((q 1) k)))), (b2, .inl (cI, 8, .inl (fun k => iI ((q 2) k)))), (b3, .inl (cI, 8, .inl (fun k => iI ((q 3) k)))), (b4, .inl (cI, 8, .inl (fun k => iI ((q 4) k))))] H := hP
        have hD : va_D A [(h, .inr (3, [.int (iI (q 0 0)), .int (iI (q 0 1)), .int (iI (q 0 2)), .int (iI (q 0 3)), .int (iI (q 0 4)), .ref a1, .ref a2, .ref a3, .ref a4])), (a1, .inl (cI, 8, .inl (fun k => iI ((up (cpi (r 1) (q 1) i) i ((q 1) i)) k)))), (a2, .inl (cI, 8, .inl (fun k => iI ((up (cpi (r 2) (q 2) i) i ((q 2) i)) k)))), (a3, .inl (cI, 8, .inl (fun k => iI ((up (cpi (r 3) (q 3) i) i ((q 3) i)) k)))), (a4, .inl (cI, 8, .inl (fun k => iI ((up (cpi (r 4) (q 4) i) i ((q 4) i)) k)))), (g, .inr (3, [.int (iI (q 0 0)), .int (iI (q 0 1)), .int (iI (q 0 2)), .int (iI (q 0 3)), .int (iI (q 0 4)), .ref b1, .ref b2, .ref b3, .ref b4])), (b1, .inl (cI, 8, .inl (fun k => iI ((q 1) k)))), (b2, .inl (cI, 8, .inl (fun k => iI ((q 2) k)))), (b3, .inl (cI, 8, .inl (fun k => iI ((q 3) k)))), (b4, .inl (cI, 8, .inl (fun k => iI ((q 4) k))))] := hD
        refine zz_iinc (lv' := [(2, .int (iI (v2 + (1 : Int)))), (0, .ref h), (1, .ref g)]) hx hb dX3_copyFrom_96 hl (k := 2) rfl (by decide) rfl (fun ls hl => ?_)
        refine lv_goto (tgt := 42) hx hb dX3_copyFrom_99 (by decide) ?_
        have hP : va_P (dC, dI) vwCl [(h, .inr (3, [.int (iI (q 0 0)), .int (iI (q 0 1)), .int (iI (q 0 2)), .int (iI (q 0 3)), .int (iI (q 0 4)), .ref a1, .ref a2, .ref a3, .ref a4])), (a1, .inl (cI, 8, .inl (fun k => iI ((cpi (r 1) (q 1) (i + 1)) k)))), (a2, .inl (cI, 8, .inl (fun k => iI ((cpi (r 2) (q 2) (i + 1)) k)))), (a3, .inl (cI, 8, .inl (fun k => iI ((cpi (r 3) (q 3) (i + 1)) k)))), (a4, .inl (cI, 8, .inl (fun k => iI ((cpi (r 4) (q 4) (i + 1)) k)))), (g, .inr (3, [.int (iI (q 0 0)), .int (iI (q 0 1)), .int (iI (q 0 2)), .int (iI (q 0 3)), .int (iI (q 0 4)), .ref b1, .ref b2, .ref b3, .ref b4])), (b1, .inl (cI, 8, .inl (fun k => iI ((q 1) k)))), (b2, .inl (cI, 8, .inl (fun k => iI ((q 2) k)))), (b3, .inl (cI, 8, .inl (fun k => iI ((q 3) k)))), (b4, .inl (cI, 8, .inl (fun k => iI ((q 4) k))))] H := by simp only [cpi_s] at hP; exact hP
        have hD : va_D A [(h, .inr (3, [.int (iI (q 0 0)), .int (iI (q 0 1)), .int (iI (q 0 2)), .int (iI (q 0 3)), .int (iI (q 0 4)), .ref a1, .ref a2, .ref a3, .ref a4])), (a1, .inl (cI, 8, .inl (fun k => iI ((cpi (r 1) (q 1) (i + 1)) k)))), (a2, .inl (cI, 8, .inl (fun k => iI ((cpi (r 2) (q 2) (i + 1)) k)))), (a3, .inl (cI, 8, .inl (fun k => iI ((cpi (r 3) (q 3) (i + 1)) k)))), (a4, .inl (cI, 8, .inl (fun k => iI ((cpi (r 4) (q 4) (i + 1)) k)))), (g, .inr (3, [.int (iI (q 0 0)), .int (iI (q 0 1)), .int (iI (q 0 2)), .int (iI (q 0 3)), .int (iI (q 0 4)), .ref b1, .ref b2, .ref b3, .ref b4])), (b1, .inl (cI, 8, .inl (fun k => iI ((q 1) k)))), (b2, .inl (cI, 8, .inl (fun k => iI ((q 2) k)))), (b3, .inl (cI, 8, .inl (fun k => iI ((q 3) k)))), (b4, .inl (cI, 8, .inl (fun k => iI ((q 4) k))))] := by simp only [cpi_s] at hD; exact hD
        exact ih42 (i + 1) (v2 + (1 : Int)) (by omega) (by omega) (by omega) H locs hP hD hS ls (lv_sub hl [1, 2, 0] rfl)
  have hP : va_P (dC, dI) vwCl [(h, .inr (3, [.int (iI (q 0 0)), .int (iI (q 0 1)), .int (iI (q 0 2)), .int (iI (q 0 3)), .int (iI (q 0 4)), .ref a1, .ref a2, .ref a3, .ref a4])), (a1, .inl (cI, 8, .inl (fun k => iI ((cpi (r 1) (q 1) 0) k)))), (a2, .inl (cI, 8, .inl (fun k => iI ((cpi (r 2) (q 2) 0) k)))), (a3, .inl (cI, 8, .inl (fun k => iI ((cpi (r 3) (q 3) 0) k)))), (a4, .inl (cI, 8, .inl (fun k => iI ((cpi (r 4) (q 4) 0) k)))), (g, .inr (3, [.int (iI (q 0 0)), .int (iI (q 0 1)), .int (iI (q 0 2)), .int (iI (q 0 3)), .int (iI (q 0 4)), .ref b1, .ref b2, .ref b3, .ref b4])), (b1, .inl (cI, 8, .inl (fun k => iI ((q 1) k)))), (b2, .inl (cI, 8, .inl (fun k => iI ((q 2) k)))), (b3, .inl (cI, 8, .inl (fun k => iI ((q 3) k)))), (b4, .inl (cI, 8, .inl (fun k => iI ((q 4) k))))] H := by simp only [cpi_0]; exact hP
  have hD : va_D A [(h, .inr (3, [.int (iI (q 0 0)), .int (iI (q 0 1)), .int (iI (q 0 2)), .int (iI (q 0 3)), .int (iI (q 0 4)), .ref a1, .ref a2, .ref a3, .ref a4])), (a1, .inl (cI, 8, .inl (fun k => iI ((cpi (r 1) (q 1) 0) k)))), (a2, .inl (cI, 8, .inl (fun k => iI ((cpi (r 2) (q 2) 0) k)))), (a3, .inl (cI, 8, .inl (fun k => iI ((cpi (r 3) (q 3) 0) k)))), (a4, .inl (cI, 8, .inl (fun k => iI ((cpi (r 4) (q 4) 0) k)))), (g, .inr (3, [.int (iI (q 0 0)), .int (iI (q 0 1)), .int (iI (q 0 2)), .int (iI (q 0 3)), .int (iI (q 0 4)), .ref b1, .ref b2, .ref b3, .ref b4])), (b1, .inl (cI, 8, .inl (fun k => iI ((q 1) k)))), (b2, .inl (cI, 8, .inl (fun k => iI ((q 2) k)))), (b3, .inl (cI, 8, .inl (fun k => iI ((q 3) k)))), (b4, .inl (cI, 8, .inl (fun k => iI ((q 4) k))))] := by simp only [cpi_0]; exact hD
  exact lp42 _ 0 (0 : Int) (by omega) (by omega) (Nat.lt_succ_self _) H locs hP hD hS ls (lv_sub hl [1, 2, 0] rfl)
