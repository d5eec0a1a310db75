set_option maxHeartbeats 4000000 in
set_option maxRecDepth 100000 in
theorem c_X0_crossingsOf (l : Launch) (dC : Nat → ClassId) (dI : Nat → Nat → Nat) (cI cJ cC cO : ClassId) (h a1 a2 a3 a4 : Nat) (r : Nat → Nat → Int) (n : Nat) (hok : Ok r n) (zx : Int) (x : Nat) (ex : zx = (x : Int)) (hx : x < n) (zy : Int) (y : Nat) (ey : zy = (y : Int)) (hy : y < n) (zt : Int) (ht : 0 ≤ zt ∧ zt ≤ 100) : Met l yX0_crossingsOf wsX0_crossingsOf ({ frames := 2, cells := 0, slots := 0, locals := 48 } : Room) (va_Pc [.ref h, .int (iI zx), .int (iI zy), .int (iI zt)] (ro_B (dC, dI) vwCl (tyG cI cJ cC cO) (wSt cI h a1 a2 a3 a4 r))) (ro_Q (fun z => z = crC r n zt x y)) 0 0 (fun _ => False) := by
  refine Met.ofW (cc := cX0_crossingsOf) (maxL := 7) (ret := (some .int)) (by decide) rfl ?_
  intro p e s m args below meth c s₁ B hml hv
  obtain ⟨hav, hP, hK⟩ := hv
  have hx := B.exec
  have hb := B.bytes
  have hr := B.returns
  have hts := atoms_spec (ws := wsX0_crossingsOf) B.pre
  have hown : s.vm.findClass RX0 = some m.cls := findClass_of_methodNamed B.named
  have hlocks := B.notSynchronized
  have hf31 := hts (.fieldLink RX0 31 "RingRods$State" "speed" "[I") (by decide +kernel)
  have hw3 : ∀ w ∈ u_ws RX3 TX3 9, w ∈ wsX0_crossingsOf := by decide +kernel
  have hP : va_P (dC, dI) vwCl [(h, .inr (3, [.int (iI (r 0 0)), .int (iI (r 0 1)), .int (iI (r 0 2)), .int (iI (r 0 3)), .int (iI (r 0 4)), .ref a1, .ref a2, .ref a3, .ref a4])), (a1, .inl (cI, 8, .inl (fun k => iI ((r 1) k)))), (a2, .inl (cI, 8, .inl (fun k => iI ((r 2) k)))), (a3, .inl (cI, 8, .inl (fun k => iI ((r 3) k)))), (a4, .inl (cI, 8, .inl (fun k => iI ((r 4) k))))] s.heap := hP
  have hl := lv_entry ([.ref h, .int (iI zx), .int (iI zy), .int (iI zt)]) (n := 7) (Nat.le_of_ble_eq_true rfl)
  have hent : entryFrame m args 7 = F0 m 0 ((lg_sl ([.ref h, .int (iI zx), .int (iI zy), .int (iI zt)]) ++ List.replicate (7 - (lg_sl ([.ref h, .int (iI zx), .int (iI zy), .int (iI zt)])).length) Slot.unset).toArray) [] := by rw [hav]; exact lg_entry_eq ..
  rw [hent]
  generalize (lg_sl ([.ref h, .int (iI zx), .int (iI zy), .int (iI zt)]) ++ List.replicate (7 - (lg_sl ([.ref h, .int (iI zx), .int (iI zy), .int (iI zt)])).length) Slot.unset).toArray = ls at hl ⊢
  have hl : lv_has ls 7 [(0, .ref h), (1, .int (iI zx)), (2, .int (iI zy)), (3, .int (iI zt))] := hl
  have bd0 := hok.bd
  have bd1 := hok.fr
  have bc := hok.cl (a := x) (b := y) (by omega) (by omega)
  have bm := mul_b (a := r 3 x - r 3 y) (b := zt) (by simp only [clC] at bc; omega) ht
  refine lv_aload_n hx hb dX0_crossingsOf_0 rfl (lv_at hl 0 rfl) ?_
  refine va_get (D := (dC, dI)) (ci := 3) (v := .ref a3) (C := RX3) (T := TX3) (N := 9) hx hb hts hw3 hown hK hP 0 rfl rfl 7 (by decide) hf31 (fun _ h9 => h9) rfl dX0_crossingsOf_1 ?_
  refine lv_iload_n hx hb dX0_crossingsOf_4 rfl (lv_at hl 1 rfl) ?_
  refine zz_iald hx hb hK hP 3 0 (f := (r 3)) rfl rfl (by decide) x (by omega) (by omega) dX0_crossingsOf_5 ?_
  have b_5 := hok.at (k := x) (by omega)
  refine lv_aload_n hx hb dX0_crossingsOf_6 rfl (lv_at hl 0 rfl) ?_
  refine va_get (D := (dC, dI)) (ci := 3) (v := .ref a3) (C := RX3) (T := TX3) (N := 9) hx hb hts hw3 hown hK hP 0 rfl rfl 7 (by decide) hf31 (fun _ h9 => h9) rfl dX0_crossingsOf_7 ?_
  refine lv_iload_n hx hb dX0_crossingsOf_10 rfl (lv_at hl 2 rfl) ?_
  refine zz_iald hx hb hK hP 3 0 (f := (r 3)) rfl rfl (by decide) y (by omega) (by omega) dX0_crossingsOf_11 ?_
  have b_11 := hok.at (k := y) (by omega)
  refine zz_isub hx hb dX0_crossingsOf_12 ?_
  refine lv_istore (lv' := [(4, .int (iI (((r 3) x) - ((r 3) y)))), (0, .ref h), (1, .int (iI zx)), (2, .int (iI zy)), (3, .int (iI zt))]) hx hb dX0_crossingsOf_13 hl (by decide) rfl (fun ls hl => ?_)
  refine lv_aload_n hx hb dX0_crossingsOf_15 rfl (lv_at hl 1 rfl) ?_
  refine ro_V (As := []) (rest := []) ⟨hx, hb, hml, hown, hts⟩ (c_X3_freeLength l dC dI cI cJ cC cO h a1 a2 a3 a4 r n hok) (cwV 0 hts gX0_crossingsOf_X3_freeLength rfl rfl rfl (by decide +kernel) ⟨Nat.le_of_ble_eq_true rfl, Nat.le_of_ble_eq_true rfl⟩) hK hP [0, 1, 2, 3, 4] rfl 3 0 rfl rfl rfl hl.1 rfl (Nat.le_of_ble_eq_true rfl) dX0_crossingsOf_16 ⟨Nat.zero_le _, Nat.zero_le _⟩ (fun z_16 hz_16 => ?_)
  subst hz_16
  have bz_16 := hok.fr
  refine lv_istore (lv' := [(5, .int (iI (freeL (r 0 0) n (r 2)))), (4, .int (iI (((r 3) x) - ((r 3) y)))), (0, .ref h), (1, .int (iI zx)), (2, .int (iI zy)), (3, .int (iI zt))]) hx hb dX0_crossingsOf_19 hl (by decide) rfl (fun ls hl => ?_)
  refine lv_iload hx hb dX0_crossingsOf_21 (lv_at hl 1 rfl) ?_
  refine zz_if_le (tgt := 32) hx hb dX0_crossingsOf_23 (by decide) (by omega) (fun c_23 => ?_) (fun c_23 => ?_)
  · skip
    refine zz_iconst hx hb dX0_crossingsOf_32 ?_
    exact W.iret (v := iI (0 : Int)) hx hb hr (fun t9 ht9 hW9 => ⟨(0 : Int), rfl, by simp only [crC]; rw [if_pos (Or.inl (by simp only [clC]; omega))], ht9⟩) (fun q hq => by cases hq) dX0_crossingsOf_33
  · skip
    refine lv_iload hx hb dX0_crossingsOf_26 (lv_at hl 0 rfl) ?_
    refine zz_iconst hx hb dX0_crossingsOf_28 ?_
    refine zz_icmp_ge (tgt := 34) hx hb dX0_crossingsOf_29 (by decide) (by omega) (by omega) (fun c_29 => ?_) (fun c_29 => ?_)
    · skip
      refine lv_iload hx hb dX0_crossingsOf_34 (lv_at hl 1 rfl) ?_
      refine lv_iload_n hx hb dX0_crossingsOf_36 rfl (lv_at hl 5 rfl) ?_
      refine zz_imul hx hb dX0_crossingsOf_37 ?_
      refine lv_aload_n hx hb dX0_crossingsOf_38 rfl (lv_at hl 2 rfl) ?_
      refine lv_iload_n hx hb dX0_crossingsOf_39 rfl (lv_at hl 3 rfl) ?_
      refine lv_iload_n hx hb dX0_crossingsOf_40 rfl (lv_at hl 4 rfl) ?_
      refine ro_V (As := [.int (iI zx), .int (iI zy)]) (rest := [.int (iI ((((r 3) x) - ((r 3) y)) * zt))]) ⟨hx, hb, hml, hown, hts⟩ (c_X3_freeBetween l dC dI cI cJ cC cO h a1 a2 a3 a4 r n hok zx x (by omega) (by omega) zy y (by omega) (by omega)) (cwV 2 hts gX0_crossingsOf_X3_freeBetween rfl rfl rfl (by decide +kernel) ⟨Nat.le_of_ble_eq_true rfl, Nat.le_of_ble_eq_true rfl⟩) hK hP [0, 1, 2, 3, 4] rfl 3 0 rfl rfl rfl hl.1 rfl (Nat.le_of_ble_eq_true rfl) dX0_crossingsOf_41 ⟨Nat.zero_le _, Nat.zero_le _⟩ (fun z_41 hz_41 => ?_)
      subst hz_41
      have bz_41 := hok.fb (a := x) (b := y) (by omega) (by omega)
      refine zz_isub hx hb dX0_crossingsOf_44 ?_
      refine lv_istore (lv' := [(6, .int (iI (((((r 3) x) - ((r 3) y)) * zt) - (fbtw (r 0 0) n (r 1) (r 2) x y)))), (5, .int (iI (freeL (r 0 0) n (r 2)))), (4, .int (iI (((r 3) x) - ((r 3) y)))), (0, .ref h), (1, .int (iI zx)), (2, .int (iI zy)), (3, .int (iI zt))]) hx hb dX0_crossingsOf_45 hl (by decide) rfl (fun ls hl => ?_)
      refine lv_iload hx hb dX0_crossingsOf_47 (lv_at hl 0 rfl) ?_
      refine zz_if_ge (tgt := 56) hx hb dX0_crossingsOf_49 (by decide) (by omega) (fun c_49 => ?_) (fun c_49 => ?_)
      · skip
        refine lv_iload hx hb dX0_crossingsOf_56 (lv_at hl 0 rfl) ?_
        refine lv_iload hx hb dX0_crossingsOf_58 (lv_at hl 1 rfl) ?_
        refine zz_idiv hx hb dX0_crossingsOf_60 (by omega) (by omega) (by omega) ?_
        refine zz_iconst hx hb dX0_crossingsOf_61 ?_
        refine zz_iadd hx hb dX0_crossingsOf_62 ?_
        exact W.iret (v := iI ((Int.tdiv (((((r 3) x) - ((r 3) y)) * zt) - (fbtw (r 0 0) n (r 1) (r 2) x y)) (freeL (r 0 0) n (r 2))) + (1 : Int))) hx hb hr (fun t9 ht9 hW9 => ⟨((Int.tdiv (((((r 3) x) - ((r 3) y)) * zt) - (fbtw (r 0 0) n (r 1) (r 2) x y)) (freeL (r 0 0) n (r 2))) + (1 : Int)), rfl, by simp only [crC]; rw [if_neg (by simp only [clC, fbC]; omega), tdiv_nn (by omega)]; simp only [clC, fbC], ht9⟩) (fun q hq => by cases hq) dX0_crossingsOf_63
      · skip
        refine zz_iconst hx hb dX0_crossingsOf_52 ?_
        refine lv_goto (tgt := 63) hx hb dX0_crossingsOf_53 (by decide) ?_
        exact W.iret (v := iI (0 : Int)) hx hb hr (fun t9 ht9 hW9 => ⟨(0 : Int), rfl, by simp only [crC]; rw [if_pos (Or.inr (by simp only [clC, fbC]; omega))], ht9⟩) (fun q hq => by cases hq) dX0_crossingsOf_63
    · skip
      refine zz_iconst hx hb dX0_crossingsOf_32 ?_
      exact W.iret (v := iI (0 : Int)) hx hb hr (fun t9 ht9 hW9 => ⟨(0 : Int), rfl, by simp only [crC]; rw [if_pos (Or.inl (by simp only [clC]; omega))], ht9⟩) (fun q hq => by cases hq) dX0_crossingsOf_33
set_option maxHeartbeats 4000000 in
set_option maxRecDepth 100000 in
theorem c_X0_foresee (l : Launch) (dC : Nat → ClassId) (dI : Nat → Nat → Nat) (cI cJ cC cO : ClassId) (x0 x1 : Nat) (c0 c1 c2 c3 c4 : Int) (h a1 a2 a3 a4 : Nat) (r : Nat → Nat → Int) (n : Nat) (hok : Ok r n) (zt : Int) (ht : 0 ≤ zt ∧ zt ≤ 100) : Met l yX0_foresee wsX0_foresee ({ frames := 3, cells := 0, slots := 0, locals := 74 } : Room) (va_Pc [.ref x0, .ref h, .int (iI zt)] (wr_B (dC, dI) vwCl (tyG cI cJ cC cO) (wCr x0 x1 c0 c1 c2 c3 c4 ++ wSt cI h a1 a2 a3 a4 r))) (wr_Qv (fun (u : Unit) => True) (fun u t => va_P (dC, dI) vwCl (wCr x0 x1 (crM r n zt n) (crI r n zt n) c2 c3 c4 ++ wSt cI h a1 a2 a3 a4 r) t.heap) (wr_A (wCr x0 x1 c0 c1 c2 c3 c4 ++ wSt cI h a1 a2 a3 a4 r))) 0 0 (wr_A (wCr x0 x1 c0 c1 c2 c3 c4 ++ wSt cI h a1 a2 a3 a4 r)) := by
  refine Met.ofW (cc := cX0_foresee) (maxL := 6) (ret := none) (by decide) rfl ?_
  intro p e s m args below meth c s₁ B hml hv
  obtain ⟨hav, hP, hK, hD0⟩ := hv
  have hx := B.exec
  have hb := B.bytes
  have hr := B.returns
  have hts := atoms_spec (ws := wsX0_foresee) B.pre
  have hown : s.vm.findClass RX0 = some m.cls := findClass_of_methodNamed B.named
  have hlocks := B.notSynchronized
  have hf15 := hts (.fieldLink RX0 15 "RingRods$Crossings" "many" "I") (by decide +kernel)
  have hf19 := hts (.fieldLink RX0 19 "RingRods$Crossings" "impulses" "I") (by decide +kernel)
  have hf22 := hts (.fieldLink RX0 22 "RingRods$State" "rods" "I") (by decide +kernel)
  have hf31 := hts (.fieldLink RX0 31 "RingRods$State" "speed" "[I") (by decide +kernel)
  have hw0 : ∀ w ∈ u_ws RX0 TX0 6, w ∈ wsX0_foresee := by decide +kernel
  have hw3 : ∀ w ∈ u_ws RX3 TX3 9, w ∈ wsX0_foresee := by decide +kernel
  have hD := va_D.slf hD0
  have hS : va_S (wr_A (wCr x0 x1 c0 c1 c2 c3 c4 ++ wSt cI h a1 a2 a3 a4 r)) s.heap s.heap [] := va_S.rf
  show W p l e ({ frames := 3, cells := 0, slots := 0, locals := 74 } : Room) s m args below meth c s.heap [] 0 0 (MQ below (wr_Qv (fun (u : Unit) => True) (fun u t => va_P (dC, dI) vwCl (wCr x0 x1 (crM r n zt n) (crI r n zt n) c2 c3 c4 ++ wSt cI h a1 a2 a3 a4 r) t.heap) (wr_A (wCr x0 x1 c0 c1 c2 c3 c4 ++ wSt cI h a1 a2 a3 a4 r))) args s 0 0 (wr_A (wCr x0 x1 c0 c1 c2 c3 c4 ++ wSt cI h a1 a2 a3 a4 r))) (entryFrame m args 6)
  generalize hAe : wr_A (wCr x0 x1 c0 c1 c2 c3 c4 ++ wSt cI h a1 a2 a3 a4 r) = A at hD hS ⊢
  have hP : va_P (dC, dI) vwCl [(x0, .inr (0, [.int (iI c0), .int (iI c1), .int (iI c2), .int (iI c3), .int (iI c4), .ref x1])), (h, .inr (3, [.int (iI (r 0 0)), .int (iI (r 0 1)), .int (iI (r 0 2)), .int (iI (r 0 3)), .int (iI (r 0 4)), .ref a1, .ref a2, .ref a3, .ref a4])), (a1, .inl (cI, 8, .inl (fun k => iI ((r 1) k)))), (a2, .inl (cI, 8, .inl (fun k => iI ((r 2) k)))), (a3, .inl (cI, 8, .inl (fun k => iI ((r 3) k)))), (a4, .inl (cI, 8, .inl (fun k => iI ((r 4) k))))] s.heap := hP
  have hD : va_D A [(x0, .inr (0, [.int (iI c0), .int (iI c1), .int (iI c2), .int (iI c3), .int (iI c4), .ref x1])), (h, .inr (3, [.int (iI (r 0 0)), .int (iI (r 0 1)), .int (iI (r 0 2)), .int (iI (r 0 3)), .int (iI (r 0 4)), .ref a1, .ref a2, .ref a3, .ref a4])), (a1, .inl (cI, 8, .inl (fun k => iI ((r 1) k)))), (a2, .inl (cI, 8, .inl (fun k => iI ((r 2) k)))), (a3, .inl (cI, 8, .inl (fun k => iI ((r 3) k)))), (a4, .inl (cI, 8, .inl (fun k => iI ((r 4) k))))] := hD
  have hl := lv_entry ([.ref x0, .ref h, .int (iI zt)]) (n := 6) (Nat.le_of_ble_eq_true rfl)
  have hent : entryFrame m args 6 = F0 m 0 ((lg_sl ([.ref x0, .ref h, .int (iI zt)]) ++ List.replicate (6 - (lg_sl ([.ref x0, .ref h, .int (iI zt)])).length) Slot.unset).toArray) [] := by rw [hav]; exact lg_entry_eq ..
  rw [hent]
  generalize (lg_sl ([.ref x0, .ref h, .int (iI zt)]) ++ List.replicate (6 - (lg_sl ([.ref x0, .ref h, .int (iI zt)])).length) Slot.unset).toArray = ls at hl ⊢
  have hl : lv_has ls 6 [(0, .ref x0), (1, .ref h), (2, .int (iI zt))] := hl
  have bd0 := hok.bd
  have bd1 := hok.fr
  refine lv_aload_n hx hb dX0_foresee_0 rfl (lv_at hl 0 rfl) ?_
  refine zz_iconst hx hb dX0_foresee_1 ?_
  refine va_put (D := (dC, dI)) (ci := 0) (v := .int (iI (0 : Int))) (ty := .int) (C := RX0) (T := TX0) (N := 6) hx hb hts hw0 tyX0 tyX0_ok nmX0 hown hK hP hD hS 0 rfl rfl 0 (by decide) hf15 (fun _ h9 => h9) rfl (by decide +kernel) rfl rfl (Nat.le_of_ble_eq_true rfl) dX0_foresee_2 (fun H locs hP hD hS => ?_)
  have hP : va_P (dC, dI) vwCl [(x0, .inr (0, [.int (iI (0 : Int)), .int (iI c1), .int (iI c2), .int (iI c3), .int (iI c4), .ref x1])), (h, .inr (3, [.int (iI (r 0 0)), .int (iI (r 0 1)), .int (iI (r 0 2)), .int (iI (r 0 3)), .int (iI (r 0 4)), .ref a1, .ref a2, .ref a3, .ref a4])), (a1, .inl (cI, 8, .inl (fun k => iI ((r 1) k)))), (a2, .inl (cI, 8, .inl (fun k => iI ((r 2) k)))), (a3, .inl (cI, 8, .inl (fun k => iI ((r 3) k)))), (a4, .inl (cI, 8, .inl (fun k => iI ((r 4) k))))] H := hP
  have hD : va_D A [(x0, .inr (0, [.int (iI (0 : Int)), .int (iI c1), .int (iI c2), .int (iI c3), .int (iI c4), .ref x1])), (h, .inr (3, [.int (iI (r 0 0)), .int (iI (r 0 1)), .int (iI (r 0 2)), .int (iI (r 0 3)), .int (iI (r 0 4)), .ref a1, .ref a2, .ref a3, .ref a4])), (a1, .inl (cI, 8, .inl (fun k => iI ((r 1) k)))), (a2, .inl (cI, 8, .inl (fun k => iI ((r 2) k)))), (a3, .inl (cI, 8, .inl (fun k => iI ((r 3) k)))), (a4, .inl (cI, 8, .inl (fun k => iI ((r 4) k))))] := hD
  refine lv_aload_n hx hb dX0_foresee_5 rfl (lv_at hl 0 rfl) ?_
  refine zz_iconst hx hb dX0_foresee_6 ?_
  refine va_put (D := (dC, dI)) (ci := 0) (v := .int (iI (0 : Int))) (ty := .int) (C := RX0) (T := TX0) (N := 6) hx hb hts hw0 tyX0 tyX0_ok nmX0 hown hK hP hD hS 0 rfl rfl 1 (by decide) hf19 (fun _ h9 => h9) rfl (by decide +kernel) rfl rfl (Nat.le_of_ble_eq_true rfl) dX0_foresee_7 (fun H locs hP hD hS => ?_)
  have hP : va_P (dC, dI) vwCl [(x0, .inr (0, [.int (iI (0 : Int)), .int (iI (0 : Int)), .int (iI c2), .int (iI c3), .int (iI c4), .ref x1])), (h, .inr (3, [.int (iI (r 0 0)), .int (iI (r 0 1)), .int (iI (r 0 2)), .int (iI (r 0 3)), .int (iI (r 0 4)), .ref a1, .ref a2, .ref a3, .ref a4])), (a1, .inl (cI, 8, .inl (fun k => iI ((r 1) k)))), (a2, .inl (cI, 8, .inl (fun k => iI ((r 2) k)))), (a3, .inl (cI, 8, .inl (fun k => iI ((r 3) k)))), (a4, .inl (cI, 8, .inl (fun k => iI ((r 4) k))))] H := hP
  have hD : va_D A [(x0, .inr (0, [.int (iI (0 : Int)), .int (iI (0 : Int)), .int (iI c2), .int (iI c3), .int (iI c4), .ref x1])), (h, .inr (3, [.int (iI (r 0 0)), .int (iI (r 0 1)), .int (iI (r 0 2)), .int (iI (r 0 3)), .int (iI (r 0 4)), .ref a1, .ref a2, .ref a3, .ref a4])), (a1, .inl (cI, 8, .inl (fun k => iI ((r 1) k)))), (a2, .inl (cI, 8, .inl (fun k => iI ((r 2) k)))), (a3, .inl (cI, 8, .inl (fun k => iI ((r 3) k)))), (a4, .inl (cI, 8, .inl (fun k => iI ((r 4) k))))] := hD
  refine zz_iconst hx hb dX0_foresee_10 ?_
  refine lv_istore_n (lv' := [(3, .int (iI (0 : Int))), (0, .ref x0), (1, .ref h), (2, .int (iI zt))]) hx hb dX0_foresee_11 rfl hl (by decide) rfl (fun ls hl => ?_)
  have lp12 : ∀ (d12 : Nat), ∀ (i : Nat) (w0 : Int) (w1 : Int) (v3 : Int) (hi : i ≤ n) (e3 : v3 = (i : Int)) (ew0 : w0 = crM r n zt i) (ew1 : w1 = crI r n zt i), n - i < d12 → ∀ (H : Heap) (locs : List Loc), va_P (dC, dI) vwCl [(x0, .inr (0, [.int (iI w0), .int (iI w1), .int (iI c2), .int (iI c3), .int (iI c4), .ref x1])), (h, .inr (3, [.int (iI (r 0 0)), .int (iI (r 0 1)), .int (iI (r 0 2)), .int (iI (r 0 3)), .int (iI (r 0 4)), .ref a1, .ref a2, .ref a3, .ref a4])), (a1, .inl (cI, 8, .inl (fun k => iI ((r 1) k)))), (a2, .inl (cI, 8, .inl (fun k => iI ((r 2) k)))), (a3, .inl (cI, 8, .inl (fun k => iI ((r 3) k)))), (a4, .inl (cI, 8, .inl (fun k => iI ((r 4) k))))] H → va_D A [(x0, .inr (0, [.int (iI w0), .int (iI w1), .int (iI c2), .int (iI c3), .int (iI c4), .ref x1])), (h, .inr (3, [.int (iI (r 0 0)), .int (iI (r 0 1)), .int (iI (r 0 2)), .int (iI (r 0 3)), .int (iI (r 0 4)), .ref a1, .ref a2, .ref a3, .ref a4])), (a1, .inl (cI, 8, .inl (fun k => iI ((r 1) k)))), (a2, .inl (cI, 8, .inl (fun k => iI ((r 2) k)))), (a3, .inl (cI, 8, .inl (fun k => iI ((r 3) k)))), (a4, .inl (cI, 8, .inl (fun k => iI ((r 4) k))))] → va_S A s.heap H locs → ∀ ls : Array Slot, lv_has ls 6 [(0, .ref x0), (1, .ref h), (2, .int (iI zt)), (3, .int (iI v3))] → W p l e ({ frames := 3, cells := 0, slots := 0, locals := 74 } : Room) s m args below meth c H locs 0 0 (MQ below (wr_Qv (fun (u : Unit) => True) (fun u t => va_P (dC, dI) vwCl (wCr x0 x1 (crM r n zt n) (crI r n zt n) c2 c3 c4 ++ wSt cI h a1 a2 a3 a4 r) t.heap) A) args s 0 0 A) (F0 m 12 ls []) := by
    intro d12
    induction d12 with
    | zero =>
      intro i w0 w1 v3 hi e3 ew0 ew1 hd12
      exact absurd hd12 (Nat.not_lt_zero _)
    | succ d12 ih12 =>
      intro i w0 w1 v3 hi e3 ew0 ew1 hd12 H locs hP hD hS ls hl
      refine lv_iload_n hx hb dX0_foresee_12 rfl (lv_at hl 3 rfl) ?_
      refine lv_aload_n hx hb dX0_foresee_13 rfl (lv_at hl 1 rfl) ?_
      refine va_get (D := (dC, dI)) (ci := 3) (v := .int (iI (r 0 1))) (C := RX3) (T := TX3) (N := 9) hx hb hts hw3 hown hK hP 1 rfl rfl 1 (by decide) hf22 (fun _ h9 => h9) rfl dX0_foresee_14 ?_
      refine zz_icmp_ge (tgt := 91) hx hb dX0_foresee_17 (by decide) (by omega) (by omega) (fun c_17 => ?_) (fun c_17 => ?_)
      · skip
        exact W.vret hx hb hr (fun t9 ht9 hW9 => ⟨⟨(), rfl, trivial, by show va_P _ _ _ t9.heap; rw [ht9]; exact (by (have h9 : i = n := (by omega)); rw [h9] at ew0 ew1; rw [← ew0, ← ew1]; exact hP)⟩, hS.F ht9⟩) hS.2.2 dX0_foresee_91
      · skip
        refine zz_iconst hx hb dX0_foresee_20 ?_
        refine lv_istore (lv' := [(4, .int (iI (0 : Int))), (0, .ref x0), (1, .ref h), (2, .int (iI zt)), (3, .int (iI v3))]) hx hb dX0_foresee_21 hl (by decide) rfl (fun ls hl => ?_)
        have lp23 : ∀ (d23 : Nat), ∀ (j : Nat) (y0 : Int) (y1 : Int) (v4 : Int) (hj : j ≤ n) (e4 : v4 = (j : Int)) (ey0 : y0 = w0 + sumI (fun b => crC r n zt i b) j) (ey1 : y1 = w1 + sumI (fun b => crC r n zt i b * (r 3 i - r 3 b)) j), n - j < d23 → ∀ (H : Heap) (locs : List Loc), va_P (dC, dI) vwCl [(x0, .inr (0, [.int (iI y0), .int (iI y1), .int (iI c2), .int (iI c3), .int (iI c4), .ref x1])), (h, .inr (3, [.int (iI (r 0 0)), .int (iI (r 0 1)), .int (iI (r 0 2)), .int (iI (r 0 3)), .int (iI (r 0 4)), .ref a1, .ref a2, .ref a3, .ref a4])), (a1, .inl (cI, 8, .inl (fun k => iI ((r 1) k)))), (a2, .inl (cI, 8, .inl (fun k => iI ((r 2) k)))), (a3, .inl (cI, 8, .inl (fun k => iI ((r 3) k)))), (a4, .inl (cI, 8, .inl (fun k => iI ((r 4) k))))] H → va_D A [(x0, .inr (0, [.int (iI y0), .int (iI y1), .int (iI c2), .int (iI c3), .int (iI c4), .ref x1])), (h, .inr (3, [.int (iI (r 0 0)), .int (iI (r 0 1)), .int (iI (r 0 2)), .int (iI (r 0 3)), .int (iI (r 0 4)), .ref a1, .ref a2, .ref a3, .ref a4])), (a1, .inl (cI, 8, .inl (fun k => iI ((r 1) k)))), (a2, .inl (cI, 8, .inl (fun k => iI ((r 2) k)))), (a3, .inl (cI, 8, .inl (fun k => iI ((r 3) k)))), (a4, .inl (cI, 8, .inl (fun k => iI ((r 4) k))))] → va_S A s.heap H locs → ∀ ls : Array Slot, lv_has ls 6 [(0, .ref x0), (1, .ref h), (2, .int (iI zt)), (3, .int (iI v3)), (4, .int (iI v4))] → W p l e ({ frames := 3, cells := 0, slots := 0, locals := 74 } : Room) s m args below meth c H locs 0 0 (MQ below (wr_Qv (fun (u : Unit) => True) (fun u t => va_P (dC, dI) vwCl (wCr x0 x1 (crM r n zt n) (crI r n zt n) c2 c3 c4 ++ wSt cI h a1 a2 a3 a4 r) t.heap) A) args s 0 0 A) (F0 m 23 ls []) := by
          intro d23
          induction d23 with
          | zero =>
            intro j y0 y1 v4 hj e4 ey0 ey1 hd23
            exact absurd hd23 (Nat.not_lt_zero _)
          | succ d23 ih23 =>
            intro j y0 y1 v4 hj e4 ey0 ey1 hd23 H locs hP hD hS ls hl
            refine lv_iload hx hb dX0_foresee_23 (lv_at hl 4 rfl) ?_
            refine lv_aload_n hx hb dX0_foresee_25 rfl (lv_at hl 1 rfl) ?_
            refine va_get (D := (dC, dI)) (ci := 3) (v := .int (iI (r 0 1))) (C := RX3) (T := TX3) (N := 9) hx hb hts hw3 hown hK hP 1 rfl rfl 1 (by decide) hf22 (fun _ h9 => h9) rfl dX0_foresee_26 ?_
            refine zz_icmp_ge (tgt := 85) hx hb dX0_foresee_29 (by decide) (by omega) (by omega) (fun c_29 => ?_) (fun c_29 => ?_)
            · skip
              refine zz_iinc (lv' := [(3, .int (iI (v3 + (1 : Int)))), (0, .ref x0), (1, .ref h), (2, .int (iI zt)), (4, .int (iI v4))]) hx hb dX0_foresee_85 hl (k := 3) rfl (by decide) rfl (fun ls hl => ?_)
              refine lv_goto (tgt := 12) hx hb dX0_foresee_88 (by decide) ?_
              have hP : va_P (dC, dI) vwCl [(x0, .inr (0, [.int (iI y0), .int (iI y1), .int (iI c2), .int (iI c3), .int (iI c4), .ref x1])), (h, .inr (3, [.int (iI (r 0 0)), .int (iI (r 0 1)), .int (iI (r 0 2)), .int (iI (r 0 3)), .int (iI (r 0 4)), .ref a1, .ref a2, .ref a3, .ref a4])), (a1, .inl (cI, 8, .inl (fun k => iI ((r 1) k)))), (a2, .inl (cI, 8, .inl (fun k => iI ((r 2) k)))), (a3, .inl (cI, 8, .inl (fun k => iI ((r 3) k)))), (a4, .inl (cI, 8, .inl (fun k => iI ((r 4) k))))] H := by exact hP
              have hD : va_D A [(x0, .inr (0, [.int (iI y0), .int (iI y1), .int (iI c2), .int (iI c3), .int (iI c4), .ref x1])), (h, .inr (3, [.int (iI (r 0 0)), .int (iI (r 0 1)), .int (iI (r 0 2)), .int (iI (r 0 3)), .int (iI (r 0 4)), .ref a1, .ref a2, .ref a3, .ref a4])), (a1, .inl (cI, 8, .inl (fun k => iI ((r 1) k)))), (a2, .inl (cI, 8, .inl (fun k => iI ((r 2) k)))), (a3, .inl (cI, 8, .inl (fun k => iI ((r 3) k)))), (a4, .inl (cI, 8, .inl (fun k => iI ((r 4) k))))] := by exact hD
              exact ih12 (i + 1) y0 y1 (v3 + (1 : Int)) (by omega) (by omega) (by (have h9 : j = n := (by omega)); rw [h9] at ey0; rw [crM, sumI_s, ← crM, ← ew0]; exact ey0) (by (have h9 : j = n := (by omega)); rw [h9] at ey1; rw [crI, sumI_s, ← crI, ← ew1]; exact ey1) (by omega) H locs hP hD hS ls (lv_sub hl [1, 2, 3, 0] rfl)
            · skip
              refine lv_aload_n hx hb dX0_foresee_32 rfl (lv_at hl 1 rfl) ?_
              refine lv_iload_n hx hb dX0_foresee_33 rfl (lv_at hl 3 rfl) ?_
              refine lv_iload hx hb dX0_foresee_34 (lv_at hl 4 rfl) ?_
              refine lv_iload_n hx hb dX0_foresee_36 rfl (lv_at hl 2 rfl) ?_
              refine ro_S (As := [.ref h, .int (iI v3), .int (iI v4), .int (iI zt)]) (rest := []) ⟨hx, hb, hml, hown, hts⟩ (c_X0_crossingsOf l dC dI cI cJ cC cO h a1 a2 a3 a4 r n hok v3 i (by omega) (by omega) v4 j (by omega) (by omega) zt (by omega)) (cwS 4 hts gX0_foresee_X0_crossingsOf rfl rfl rfl (by decide +kernel) ⟨Nat.le_of_ble_eq_true rfl, Nat.le_of_ble_eq_true rfl⟩) hK hP [1, 2, 3, 4, 5] rfl rfl hl.1 rfl (Nat.le_of_ble_eq_true rfl) dX0_foresee_37 ⟨Nat.zero_le _, Nat.zero_le _⟩ (fun z_37 hz_37 => ?_)
              subst hz_37
              have bz_37 := hok.cr (a := i) (b := j) (by omega) (by omega) (t := zt) (by omega)
              refine lv_istore (lv' := [(5, .int (iI (crC r n zt i j))), (0, .ref x0), (1, .ref h), (2, .int (iI zt)), (3, .int (iI v3)), (4, .int (iI v4))]) hx hb dX0_foresee_40 hl (by decide) rfl (fun ls hl => ?_)
              refine lv_aload_n hx hb dX0_foresee_42 rfl (lv_at hl 1 rfl) ?_
              refine lv_dup hx hb dX0_foresee_43 rfl ?_
              refine va_get (D := (dC, dI)) (ci := 0) (v := .int (iI y0)) (C := RX0) (T := TX0) (N := 6) hx hb hts hw0 hown hK hP 0 rfl rfl 0 (by decide) hf15 (fun _ h9 => h9) rfl dX0_foresee_44 ?_
              refine lv_iload hx hb dX0_foresee_47 (lv_at hl 0 rfl) ?_
              refine zz_iadd hx hb dX0_foresee_49 ?_
              refine va_put (D := (dC, dI)) (ci := 0) (v := .int (iI (y0 + (crC r n zt i j)))) (ty := .int) (C := RX0) (T := TX0) (N := 6) hx hb hts hw0 tyX0 tyX0_ok nmX0 hown hK hP hD hS 0 rfl rfl 0 (by decide) hf15 (fun _ h9 => h9) rfl (by decide +kernel) rfl rfl (Nat.le_of_ble_eq_true rfl) dX0_foresee_50 (fun H locs hP hD hS => ?_)
              have hP : va_P (dC, dI) vwCl [(x0, .inr (0, [.int (iI (y0 + (crC r n zt i j))), .int (iI y1), .int (iI c2), .int (iI c3), .int (iI c4), .ref x1])), (h, .inr (3, [.int (iI (r 0 0)), .int (iI (r 0 1)), .int (iI (r 0 2)), .int (iI (r 0 3)), .int (iI (r 0 4)), .ref a1, .ref a2, .ref a3, .ref a4])), (a1, .inl (cI, 8, .inl (fun k => iI ((r 1) k)))), (a2, .inl (cI, 8, .inl (fun k => iI ((r 2) k)))), (a3, .inl (cI, 8, .inl (fun k => iI ((r 3) k)))), (a4, .inl (cI, 8, .inl (fun k => iI ((r 4) k))))] H := hP
              have hD : va_D A [(x0, .inr (0, [.int (iI (y0 + (crC r n zt i j))), .int (iI y1), .int (iI c2), .int (iI c3), .int (iI c4), .ref x1])), (h, .inr (3, [.int (iI (r 0 0)), .int (iI (r 0 1)), .int (iI (r 0 2)), .int (iI (r 0 3)), .int (iI (r 0 4)), .ref a1, .ref a2, .ref a3, .ref a4])), (a1, .inl (cI, 8, .inl (fun k => iI ((r 1) k)))), (a2, .inl (cI, 8, .inl (fun k => iI ((r 2) k)))), (a3, .inl (cI, 8, .inl (fun k => iI ((r 3) k)))), (a4, .inl (cI, 8, .inl (fun k => iI ((r 4) k))))] := hD
              refine lv_aload_n hx hb dX0_foresee_53 rfl (lv_at hl 1 rfl) ?_
              refine lv_dup hx hb dX0_foresee_54 rfl ?_
              refine va_get (D := (dC, dI)) (ci := 0) (v := .int (iI y1)) (C := RX0) (T := TX0) (N := 6) hx hb hts hw0 hown hK hP 0 rfl rfl 1 (by decide) hf19 (fun _ h9 => h9) rfl dX0_foresee_55 ?_
              refine lv_iload hx hb dX0_foresee_58 (lv_at hl 0 rfl) ?_
              refine lv_aload_n hx hb dX0_foresee_60 rfl (lv_at hl 2 rfl) ?_
              refine va_get (D := (dC, dI)) (ci := 3) (v := .ref a3) (C := RX3) (T := TX3) (N := 9) hx hb hts hw3 hown hK hP 1 rfl rfl 7 (by decide) hf31 (fun _ h9 => h9) rfl dX0_foresee_61 ?_
              refine lv_iload_n hx hb dX0_foresee_64 rfl (lv_at hl 4 rfl) ?_
              refine zz_iald hx hb hK hP 4 0 (f := (r 3)) rfl rfl (by decide) i (by omega) (by omega) dX0_foresee_65 ?_
              have b_65 := hok.at (k := i) (by omega)
              refine lv_aload_n hx hb dX0_foresee_66 rfl (lv_at hl 2 rfl) ?_
              refine va_get (D := (dC, dI)) (ci := 3) (v := .ref a3) (C := RX3) (T := TX3) (N := 9) hx hb hts hw3 hown hK hP 1 rfl rfl 7 (by decide) hf31 (fun _ h9 => h9) rfl dX0_foresee_67 ?_
              refine lv_iload hx hb dX0_foresee_70 (lv_at hl 5 rfl) ?_
              refine zz_iald hx hb hK hP 4 0 (f := (r 3)) rfl rfl (by decide) j (by omega) (by omega) dX0_foresee_72 ?_
              have b_72 := hok.at (k := j) (by omega)
              refine zz_isub hx hb dX0_foresee_73 ?_
              refine zz_imul hx hb dX0_foresee_74 ?_
              refine zz_iadd hx hb dX0_foresee_75 ?_
              refine va_put (D := (dC, dI)) (ci := 0) (v := .int (iI (y1 + ((crC r n zt i j) * (((r 3) i) - ((r 3) j)))))) (ty := .int) (C := RX0) (T := TX0) (N := 6) hx hb hts hw0 tyX0 tyX0_ok nmX0 hown hK hP hD hS 0 rfl rfl 1 (by decide) hf19 (fun _ h9 => h9) rfl (by decide +kernel) rfl rfl (Nat.le_of_ble_eq_true rfl) dX0_foresee_76 (fun H locs hP hD hS => ?_)
              have hP : va_P (dC, dI) vwCl [(x0, .inr (0, [.int (iI (y0 + (crC r n zt i j))), .int (iI (y1 + ((crC r n zt i j) * (((r 3) i) - ((r 3) j))))), .int (iI c2), .int (iI c3), .int (iI c4), .ref x1])), (h, .inr (3, [.int (iI (r 0 0)), .int (iI (r 0 1)), .int (iI (r 0 2)), .int (iI (r 0 3)), .int (iI (r 0 4)), .ref a1, .ref a2, .ref a3, .ref a4])), (a1, .inl (cI, 8, .inl (fun k => iI ((r 1) k)))), (a2, .inl (cI, 8, .inl (fun k => iI ((r 2) k)))), (a3, .inl (cI, 8, .inl (fun k => iI ((r 3) k)))), (a4, .inl (cI, 8, .inl (fun k => iI ((r 4) k))))] H := hP
              have hD : va_D A [(x0, .inr (0, [.int (iI (y0 + (crC r n zt i j))), .int (iI (y1 + ((crC r n zt i j) * (((r 3) i) - ((r 3) j))))), .int (iI c2), .int (iI c3), .int (iI c4), .ref x1])), (h, .inr (3, [.int (iI (r 0 0)), .int (iI (r 0 1)), .int (iI (r 0 2)), .int (iI (r 0 3)), .int (iI (r 0 4)), .ref a1, .ref a2, .ref a3, .ref a4])), (a1, .inl (cI, 8, .inl (fun k => iI ((r 1) k)))), (a2, .inl (cI, 8, .inl (fun k => iI ((r 2) k)))), (a3, .inl (cI, 8, .inl (fun k => iI ((r 3) k)))), (a4, .inl (cI, 8, .inl (fun k => iI ((r 4) k))))] := hD
              refine zz_iinc (lv' := [(4, .int (iI (v4 + (1 : Int)))), (5, .int (iI (crC r n zt i j))), (0, .ref x0), (1, .ref h), (2, .int (iI zt)), (3, .int (iI v3))]) hx hb dX0_foresee_79 hl (k := 5) rfl (by decide) rfl (fun ls hl => ?_)
              refine lv_goto (tgt := 23) hx hb dX0_foresee_82 (by decide) ?_
              have hP : va_P (dC, dI) vwCl [(x0, .inr (0, [.int (iI (y0 + (crC r n zt i j))), .int (iI (y1 + ((crC r n zt i j) * (((r 3) i) - ((r 3) j))))), .int (iI c2), .int (iI c3), .int (iI c4), .ref x1])), (h, .inr (3, [.int (iI (r 0 0)), .int (iI (r 0 1)), .int (iI (r 0 2)), .int (iI (r 0 3)), .int (iI (r 0 4)), .ref a1, .ref a2, .ref a3, .ref a4])), (a1, .inl (cI, 8, .inl (fun k => iI ((r 1) k)))), (a2, .inl (cI, 8, .inl (fun k => iI ((r 2) k)))), (a3, .inl (cI, 8, .inl (fun k => iI ((r 3) k)))), (a4, .inl (cI, 8, .inl (fun k => iI ((r 4) k))))] H := by exact hP
              have hD : va_D A [(x0, .inr (0, [.int (iI (y0 + (crC r n zt i j))), .int (iI (y1 + ((crC r n zt i j) * (((r 3) i) - ((r 3) j))))), .int (iI c2), .int (iI c3), .int (iI c4), .ref x1])), (h, .inr (3, [.int (iI (r 0 0)), .int (iI (r 0 1)), .int (iI (r 0 2)), .int (iI (r 0 3)), .int (iI (r 0 4)), .ref a1, .ref a2, .ref a3, .ref a4])), (a1, .inl (cI, 8, .inl (fun k => iI ((r 1) k)))), (a2, .inl (cI, 8, .inl (fun k => iI ((r 2) k)))), (a3, .inl (cI, 8, .inl (fun k => iI ((r 3) k)))), (a4, .inl (cI, 8, .inl (fun k => iI ((r 4) k))))] := by exact hD
              exact ih23 (j + 1) (y0 + (crC r n zt i j)) (y1 + ((crC r n zt i j) * (((r 3) i) - ((r 3) j)))) (v4 + (1 : Int)) (by omega) (by omega) (by rw [sumI_s]; omega) (by rw [sumI_s]; omega) (by omega) H locs hP hD hS ls (lv_sub hl [2, 3, 4, 5, 0] rfl)
        have hP : va_P (dC, dI) vwCl [(x0, .inr (0, [.int (iI w0), .int (iI w1), .int (iI c2), .int (iI c3), .int (iI c4), .ref x1])), (h, .inr (3, [.int (iI (r 0 0)), .int (iI (r 0 1)), .int (iI (r 0 2)), .int (iI (r 0 3)), .int (iI (r 0 4)), .ref a1, .ref a2, .ref a3, .ref a4])), (a1, .inl (cI, 8, .inl (fun k => iI ((r 1) k)))), (a2, .inl (cI, 8, .inl (fun k => iI ((r 2) k)))), (a3, .inl (cI, 8, .inl (fun k => iI ((r 3) k)))), (a4, .inl (cI, 8, .inl (fun k => iI ((r 4) k))))] H := by exact hP
        have hD : va_D A [(x0, .inr (0, [.int (iI w0), .int (iI w1), .int (iI c2), .int (iI c3), .int (iI c4), .ref x1])), (h, .inr (3, [.int (iI (r 0 0)), .int (iI (r 0 1)), .int (iI (r 0 2)), .int (iI (r 0 3)), .int (iI (r 0 4)), .ref a1, .ref a2, .ref a3, .ref a4])), (a1, .inl (cI, 8, .inl (fun k => iI ((r 1) k)))), (a2, .inl (cI, 8, .inl (fun k => iI ((r 2) k)))), (a3, .inl (cI, 8, .inl (fun k => iI ((r 3) k)))), (a4, .inl (cI, 8, .inl (fun k => iI ((r 4) k))))] := by exact hD
        exact lp23 _ 0 w0 w1 (0 : Int) (by omega) (by omega) (by simp [sumI]) (by simp [sumI]) (Nat.lt_succ_self _) H locs hP hD hS ls (lv_sub hl [1, 2, 3, 4, 0] rfl)
  have hP : va_P (dC, dI) vwCl [(x0, .inr (0, [.int (iI (0 : Int)), .int (iI (0 : Int)), .int (iI c2), .int (iI c3), .int (iI c4), .ref x1])), (h, .inr (3, [.int (iI (r 0 0)), .int (iI (r 0 1)), .int (iI (r 0 2)), .int (iI (r 0 3)), .int (iI (r 0 4)), .ref a1, .ref a2, .ref a3, .ref a4])), (a1, .inl (cI, 8, .inl (fun k => iI ((r 1) k)))), (a2, .inl (cI, 8, .inl (fun k => iI ((r 2) k)))), (a3, .inl (cI, 8, .inl (fun k => iI ((r 3) k)))), (a4, .inl (cI, 8, .inl (fun k => iI ((r 4) k))))] H := by exact hP
  have hD : va_D A [(x0, .inr (0, [.int (iI (0 : Int)), .int (iI (0 : Int)), .int (iI c2), .int (iI c3), .int (iI c4), .ref x1])), (h, .inr (3, [.int (iI (r 0 0)), .int (iI (r 0 1)), .int (iI (r 0 2)), .int (iI (r 0 3)), .int (iI (r 0 4)), .ref a1, .ref a2, .ref a3, .ref a4])), (a1, .inl (cI, 8, .inl (fun k => iI ((r 1) k)))), (a2, .inl (cI, 8, .inl (fun k => iI ((r 2) k)))), (a3, .inl (cI, 8, .inl (fun k => iI ((r 3) k)))), (a4, .inl (cI, 8, .inl (fun k => iI ((r 4) k))))] := by exact hD
  exact lp12 _ 0 (0 : Int) (0 : Int) (0 : Int) (by omega) (by omega) (rfl) (rfl) (Nat.lt_succ_self _) H locs hP hD hS ls (lv_sub hl [1, 2, 3, 0] rfl)
set_option maxHeartbeats 4000000 in
set_option maxRecDepth 100000 in
theorem c_X0_commonDivisor (l : Launch) (dC : Nat → ClassId) (dI : Nat → Nat → Nat) (cI cJ cC cO : ClassId) (za : Int) (a : Nat) (ea : za = (a : Int)) (ha : a ≤ 100000) (zb : Int) (b : Nat) (eb : zb = (b : Int)) (hb9 : b ≤ 18) : Met l yX0_commonDivisor wsX0_commonDivisor ({ frames := 0, cells := 0, slots := 0, locals := 0 } : Room) (va_Pc [.int (iI za), .int (iI zb)] (ro_B (dC, dI) vwCl (tyG cI cJ cC cO) ([]))) (ro_Q (fun z => z = ((Nat.gcd a b : Nat) : Int))) 0 0 (fun _ => False) := by
  refine Met.ofW (cc := cX0_commonDivisor) (maxL := 6) (ret := (some .int)) (by decide) rfl ?_
  intro p e s m args below meth c s₁ B hml hv
  obtain ⟨hav, hP, hK⟩ := hv
  have hx := B.exec
  have hb := B.bytes
  have hr := B.returns
  have hts := atoms_spec (ws := wsX0_commonDivisor) B.pre
  have hown : s.vm.findClass RX0 = some m.cls := findClass_of_methodNamed B.named
  have hlocks := B.notSynchronized
  have hP : va_P (dC, dI) vwCl [] s.heap := hP
  have hl := lv_entry ([.int (iI za), .int (iI zb)]) (n := 6) (Nat.le_of_ble_eq_true rfl)
  have hent : entryFrame m args 6 = F0 m 0 ((lg_sl ([.int (iI za), .int (iI zb)]) ++ List.replicate (6 - (lg_sl ([.int (iI za), .int (iI zb)])).length) Slot.unset).toArray) [] := by rw [hav]; exact lg_entry_eq ..
  rw [hent]
  generalize (lg_sl ([.int (iI za), .int (iI zb)]) ++ List.replicate (6 - (lg_sl ([.int (iI za), .int (iI zb)])).length) Slot.unset).toArray = ls at hl ⊢
  have hl : lv_has ls 6 [(0, .int (iI za)), (1, .int (iI zb))] := hl
  refine lv_iload_n hx hb dX0_commonDivisor_0 rfl (lv_at hl 0 rfl) ?_
  refine lv_istore_n (lv' := [(2, .int (iI za)), (0, .int (iI za)), (1, .int (iI zb))]) hx hb dX0_commonDivisor_1 rfl hl (by decide) rfl (fun ls hl => ?_)
  refine lv_iload_n hx hb dX0_commonDivisor_2 rfl (lv_at hl 2 rfl) ?_
  refine lv_istore_n (lv' := [(3, .int (iI zb)), (2, .int (iI za)), (0, .int (iI za)), (1, .int (iI zb))]) hx hb dX0_commonDivisor_3 rfl hl (by decide) rfl (fun ls hl => ?_)
  refine zz_iconst hx hb dX0_commonDivisor_4 ?_
  refine lv_istore (lv' := [(4, .int (iI (0 : Int))), (3, .int (iI zb)), (2, .int (iI za)), (0, .int (iI za)), (1, .int (iI zb))]) hx hb dX0_commonDivisor_5 hl (by decide) rfl (fun ls hl => ?_)
  have lp7 : ∀ (d7 : Nat), ∀ (d : Nat) (e9 : Nat) (v2 v3 v4 : Int) (e2 : v2 = (d : Int)) (e3 : v3 = (e9 : Int)) (e4 : 0 ≤ v4 ∧ v4 + (e9 : Int) ≤ 18) (hd9 : d ≤ 100000) (hg : Nat.gcd d e9 = Nat.gcd a b), e9 < d7 → ∀ ls : Array Slot, lv_has ls 6 [(0, .int (iI za)), (1, .int (iI zb)), (2, .int (iI v2)), (3, .int (iI v3)), (4, .int (iI v4))] → W p l e ({ frames := 0, cells := 0, slots := 0, locals := 0 } : Room) s m args below meth c s.heap [] 0 0 (MQ below (ro_Q (fun z => z = ((Nat.gcd a b : Nat) : Int))) args s 0 0 (fun _ => False)) (F0 m 7 ls []) := by
    intro d7
    induction d7 with
    | zero =>
      intro d e9 v2 v3 v4 e2 e3 e4 hd9 hg hd7
      exact absurd hd7 (Nat.not_lt_zero _)
    | succ d7 ih7 =>
      intro d e9 v2 v3 v4 e2 e3 e4 hd9 hg hd7 ls hl
      refine lv_iload hx hb dX0_commonDivisor_7 (lv_at hl 4 rfl) ?_
      refine zz_bipush hx hb dX0_commonDivisor_9 (by decide +kernel) ?_
      refine zz_icmp_ge (tgt := 34) hx hb dX0_commonDivisor_11 (by decide) (by omega) (by omega) (fun c_11 => ?_) (fun c_11 => ?_)
      · skip
        refine lv_iload_n hx hb dX0_commonDivisor_34 rfl (lv_at hl 2 rfl) ?_
        exact W.iret (v := iI v2) hx hb hr (fun t9 ht9 hW9 => ⟨v2, rfl, by (have h9 : e9 = 0 := (by omega)); rw [h9, Nat.gcd_zero_right] at hg; rw [e2, hg], ht9⟩) (fun q hq => by cases hq) dX0_commonDivisor_35
      · skip
        refine lv_iload_n hx hb dX0_commonDivisor_14 rfl (lv_at hl 3 rfl) ?_
        refine zz_if_eq (tgt := 34) hx hb dX0_commonDivisor_15 (by decide) (by omega) (fun c_15 => ?_) (fun c_15 => ?_)
        · skip
          refine lv_iload_n hx hb dX0_commonDivisor_34 rfl (lv_at hl 2 rfl) ?_
          exact W.iret (v := iI v2) hx hb hr (fun t9 ht9 hW9 => ⟨v2, rfl, by (have h9 : e9 = 0 := (by omega)); rw [h9, Nat.gcd_zero_right] at hg; rw [e2, hg], ht9⟩) (fun q hq => by cases hq) dX0_commonDivisor_35
        · skip
          refine lv_iload_n hx hb dX0_commonDivisor_18 rfl (lv_at hl 2 rfl) ?_
          refine lv_iload_n hx hb dX0_commonDivisor_19 rfl (lv_at hl 3 rfl) ?_
          refine zz_irem hx hb dX0_commonDivisor_20 (by omega) (by omega) (by omega) ?_
          refine lv_istore (lv' := [(5, .int (iI (Int.tmod v2 v3))), (0, .int (iI za)), (1, .int (iI zb)), (2, .int (iI v2)), (3, .int (iI v3)), (4, .int (iI v4))]) hx hb dX0_commonDivisor_21 hl (by decide) rfl (fun ls hl => ?_)
          refine lv_iload_n hx hb dX0_commonDivisor_23 rfl (lv_at hl 4 rfl) ?_
          refine lv_istore_n (lv' := [(2, .int (iI v3)), (5, .int (iI (Int.tmod v2 v3))), (0, .int (iI za)), (1, .int (iI zb)), (3, .int (iI v3)), (4, .int (iI v4))]) hx hb dX0_commonDivisor_24 rfl hl (by decide) rfl (fun ls hl => ?_)
          refine lv_iload hx hb dX0_commonDivisor_25 (lv_at hl 1 rfl) ?_
          refine lv_istore_n (lv' := [(3, .int (iI (Int.tmod v2 v3))), (2, .int (iI v3)), (5, .int (iI (Int.tmod v2 v3))), (0, .int (iI za)), (1, .int (iI zb)), (4, .int (iI v4))]) hx hb dX0_commonDivisor_27 rfl hl (by decide) rfl (fun ls hl => ?_)
          refine zz_iinc (lv' := [(4, .int (iI (v4 + (1 : Int)))), (3, .int (iI (Int.tmod v2 v3))), (2, .int (iI v3)), (5, .int (iI (Int.tmod v2 v3))), (0, .int (iI za)), (1, .int (iI zb))]) hx hb dX0_commonDivisor_28 hl (k := 5) rfl (by decide) rfl (fun ls hl => ?_)
          refine lv_goto (tgt := 7) hx hb dX0_commonDivisor_31 (by decide) ?_
          exact ih7 e9 (d % e9) v3 (Int.tmod v2 v3) (v4 + (1 : Int)) (by omega) (by rw [e2, e3]; exact tmod_nat d e9) (by (have := Nat.mod_lt d (show 0 < e9 by omega)); omega) (by omega) (by rw [← hg, Nat.gcd_comm e9, ← Nat.gcd_rec, Nat.gcd_comm]) (by (have := Nat.mod_lt d (show 0 < e9 by omega)); omega) ls (lv_sub hl [4, 5, 2, 1, 0] rfl)
  exact lp7 _ a b za zb (0 : Int) (by omega) (by omega) (by omega) (by omega) (rfl) (Nat.lt_succ_self _) ls (lv_sub hl [3, 4, 2, 1, 0] rfl)
set_option maxHeartbeats 4000000 in
set_option maxRecDepth 100000 in
theorem c_J6_compare_7cf53 (l : Launch) (dC : Nat → ClassId) (dI : Nat → Nat → Nat) (cI cJ cC cO : ClassId) (x y : Int) (hx0 : -2147483648 ≤ x ∧ x < 2147483648) (hy0 : -2147483648 ≤ y ∧ y < 2147483648) : Met l yJ6_compare_7cf53 wsJ6_compare_7cf53 ({ frames := 0, cells := 0, slots := 0, locals := 0 } : Room) (va_Pc [.int (iI x), .int (iI y)] (ro_B (dC, dI) vwCl (tyG cI cJ cC cO) ([]))) (ro_Q (fun z => (z = -1 ∧ x < y) ∨ (z = 0 ∧ x = y) ∨ (z = 1 ∧ y < x))) 0 0 (fun _ => False) := by
  refine va_MetF (cc := cJ6_compare_7cf53) (maxL := 2) (ret := (some .int)) (by decide +kernel) rfl ?_
  intro p e s m args below meth c s₁ B hml hv
  obtain ⟨hav, hP, hK⟩ := hv
  have hx := B.exec
  have hb := B.bytes
  have hr := B.returns
  have hts := atoms_spec (ws := wsJ6_compare_7cf53) B.pre
  have hown : s.vm.findClass RJ6 = some m.cls := findClass_of_methodNamed B.named
  have hlocks := B.notSynchronized
  have hP : va_P (dC, dI) vwCl [] s.heap := hP
  have hl := lv_entry ([.int (iI x), .int (iI y)]) (n := 2) (Nat.le_of_ble_eq_true rfl)
  have hent : entryFrame m args 2 = F0 m 0 ((lg_sl ([.int (iI x), .int (iI y)]) ++ List.replicate (2 - (lg_sl ([.int (iI x), .int (iI y)])).length) Slot.unset).toArray) [] := by rw [hav]; exact lg_entry_eq ..
  rw [hent]
  generalize (lg_sl ([.int (iI x), .int (iI y)]) ++ List.replicate (2 - (lg_sl ([.int (iI x), .int (iI y)])).length) Slot.unset).toArray = ls at hl ⊢
  have hl : lv_has ls 2 [(0, .int (iI x)), (1, .int (iI y))] := hl
  refine lv_iload_n hx hb dJ6_compare_7cf53_0 rfl (lv_at hl 0 rfl) ?_
  refine lv_iload_n hx hb dJ6_compare_7cf53_1 rfl (lv_at hl 1 rfl) ?_
  refine zz_icmp_ge (tgt := 9) hx hb dJ6_compare_7cf53_2 (by decide) (by omega) (by omega) (fun c_2 => ?_) (fun c_2 => ?_)
  · skip
    refine lv_iload_n hx hb dJ6_compare_7cf53_9 rfl (lv_at hl 0 rfl) ?_
    refine lv_iload_n hx hb dJ6_compare_7cf53_10 rfl (lv_at hl 1 rfl) ?_
    refine zz_icmp_ne (tgt := 18) hx hb dJ6_compare_7cf53_11 (by decide) (by omega) (by omega) (fun c_11 => ?_) (fun c_11 => ?_)
    · skip
      refine zz_iconst hx hb dJ6_compare_7cf53_18 ?_
      exact W.iret (v := iI (1 : Int)) hx hb hr (fun t9 ht9 hW9 => ⟨(1 : Int), rfl, by omega, ht9⟩) (fun q hq => by cases hq) dJ6_compare_7cf53_19
    · skip
      refine zz_iconst hx hb dJ6_compare_7cf53_14 ?_
      refine lv_goto (tgt := 19) hx hb dJ6_compare_7cf53_15 (by decide) ?_
      exact W.iret (v := iI (0 : Int)) hx hb hr (fun t9 ht9 hW9 => ⟨(0 : Int), rfl, by omega, ht9⟩) (fun q hq => by cases hq) dJ6_compare_7cf53_19
  · skip
    refine zz_iconst hx hb dJ6_compare_7cf53_5 ?_
    refine lv_goto (tgt := 19) hx hb dJ6_compare_7cf53_6 (by decide) ?_
    exact W.iret (v := iI (-1 : Int)) hx hb hr (fun t9 ht9 hW9 => ⟨(-1 : Int), rfl, by omega, ht9⟩) (fun q hq => by cases hq) dJ6_compare_7cf53_19
set_option maxHeartbeats 4000000 in
set_option maxRecDepth 100000 in
theorem c_X0_takeIfFirst (l : Launch) (dC : Nat → ClassId) (dI : Nat → Nat → Nat) (cI cJ cC cO : ClassId) (x0 x1 : Nat) (c0 c1 c2 c3 c4 : Int) (hc2 : 0 ≤ c2 ∧ c2 ≤ 1000) (hc3 : 1 ≤ c3 ∧ c3 ≤ 18) (hc4 : 0 ≤ c4 ∧ c4 ≤ 1000) (zx zy : Int) (hzx : 0 ≤ zx ∧ zx ≤ 1000) (hzy : 1 ≤ zy ∧ zy ≤ 18) : Met l yX0_takeIfFirst wsX0_takeIfFirst ({ frames := 1, cells := 0, slots := 0, locals := 21 } : Room) (va_Pc [.ref x0, .int (iI zx), .int (iI zy)] (wr_B (dC, dI) vwCl (tyG cI cJ cC cO) (wCr x0 x1 c0 c1 c2 c3 c4))) (wr_Qv (fun (u : Int × Int × Int) => ((c4 = 0 ∨ zx * c3 < c2 * zy) ∧ u = (zx, zy, (1 : Int))) ∨ (¬ c4 = 0 ∧ zx * c3 = c2 * zy ∧ u = (c2, c3, c4 + 1)) ∨ (¬ c4 = 0 ∧ c2 * zy < zx * c3 ∧ u = (c2, c3, c4))) (fun u t => va_P (dC, dI) vwCl (wCr x0 x1 c0 c1 u.1 u.2.1 u.2.2) t.heap) (wr_A (wCr x0 x1 c0 c1 c2 c3 c4))) 0 0 (wr_A (wCr x0 x1 c0 c1 c2 c3 c4)) := by
  refine Met.ofW (cc := cX0_takeIfFirst) (maxL := 4) (ret := none) (by decide) rfl ?_
  intro p e s m args below meth c s₁ B hml hv
  obtain ⟨hav, hP, hK, hD0⟩ := hv
  have hx := B.exec
  have hb := B.bytes
  have hr := B.returns
  have hts := atoms_spec (ws := wsX0_takeIfFirst) B.pre
  have hown : s.vm.findClass RX0 = some m.cls := findClass_of_methodNamed B.named
  have hlocks := B.notSynchronized
  have hf45 := hts (.fieldLink RX0 45 "RingRods$Crossings" "firstUpper" "I") (by decide +kernel)
  have hf48 := hts (.fieldLink RX0 48 "RingRods$Crossings" "firstLower" "I") (by decide +kernel)
  have hf51 := hts (.fieldLink RX0 51 "RingRods$Crossings" "firstMany" "I") (by decide +kernel)
  have hw0 : ∀ w ∈ u_ws RX0 TX0 6, w ∈ wsX0_takeIfFirst := by decide +kernel
  have hD := va_D.slf hD0
  have hS : va_S (wr_A (wCr x0 x1 c0 c1 c2 c3 c4)) s.heap s.heap [] := va_S.rf
  show W p l e ({ frames := 1, cells := 0, slots := 0, locals := 21 } : Room) s m args below meth c s.heap [] 0 0 (MQ below (wr_Qv (fun (u : Int × Int × Int) => ((c4 = 0 ∨ zx * c3 < c2 * zy) ∧ u = (zx, zy, (1 : Int))) ∨ (¬ c4 = 0 ∧ zx * c3 = c2 * zy ∧ u = (c2, c3, c4 + 1)) ∨ (¬ c4 = 0 ∧ c2 * zy < zx * c3 ∧ u = (c2, c3, c4))) (fun u t => va_P (dC, dI) vwCl (wCr x0 x1 c0 c1 u.1 u.2.1 u.2.2) t.heap) (wr_A (wCr x0 x1 c0 c1 c2 c3 c4))) args s 0 0 (wr_A (wCr x0 x1 c0 c1 c2 c3 c4))) (entryFrame m args 4)
  generalize hAe : wr_A (wCr x0 x1 c0 c1 c2 c3 c4) = A at hD hS ⊢
  have hP : va_P (dC, dI) vwCl [(x0, .inr (0, [.int (iI c0), .int (iI c1), .int (iI c2), .int (iI c3), .int (iI c4), .ref x1]))] s.heap := hP
  have hD : va_D A [(x0, .inr (0, [.int (iI c0), .int (iI c1), .int (iI c2), .int (iI c3), .int (iI c4), .ref x1]))] := hD
  have hl := lv_entry ([.ref x0, .int (iI zx), .int (iI zy)]) (n := 4) (Nat.le_of_ble_eq_true rfl)
  have hent : entryFrame m args 4 = F0 m 0 ((lg_sl ([.ref x0, .int (iI zx), .int (iI zy)]) ++ List.replicate (4 - (lg_sl ([.ref x0, .int (iI zx), .int (iI zy)])).length) Slot.unset).toArray) [] := by rw [hav]; exact lg_entry_eq ..
  rw [hent]
  generalize (lg_sl ([.ref x0, .int (iI zx), .int (iI zy)]) ++ List.replicate (4 - (lg_sl ([.ref x0, .int (iI zx), .int (iI zy)])).length) Slot.unset).toArray = ls at hl ⊢
  have hl : lv_has ls 4 [(0, .ref x0), (1, .int (iI zx)), (2, .int (iI zy))] := hl
  have b1 := mul_b2 (a := zx) (b := c3) (by omega) (by omega)
  have b2 := mul_b2 (a := c2) (b := zy) (by omega) (by omega)
  refine lv_iload_n hx hb dX0_takeIfFirst_0 rfl (lv_at hl 1 rfl) ?_
  refine lv_aload_n hx hb dX0_takeIfFirst_1 rfl (lv_at hl 0 rfl) ?_
  refine va_get (D := (dC, dI)) (ci := 0) (v := .int (iI c3)) (C := RX0) (T := TX0) (N := 6) hx hb hts hw0 hown hK hP 0 rfl rfl 3 (by decide) hf48 (fun _ h9 => h9) rfl dX0_takeIfFirst_2 ?_
  refine zz_imul hx hb dX0_takeIfFirst_5 ?_
  refine lv_aload_n hx hb dX0_takeIfFirst_6 rfl (lv_at hl 0 rfl) ?_
  refine va_get (D := (dC, dI)) (ci := 0) (v := .int (iI c2)) (C := RX0) (T := TX0) (N := 6) hx hb hts hw0 hown hK hP 0 rfl rfl 2 (by decide) hf45 (fun _ h9 => h9) rfl dX0_takeIfFirst_7 ?_
  refine lv_iload_n hx hb dX0_takeIfFirst_10 rfl (lv_at hl 2 rfl) ?_
  refine zz_imul hx hb dX0_takeIfFirst_11 ?_
  refine ro_S (As := [.int (iI (zx * c3)), .int (iI (c2 * zy))]) (rest := []) ⟨hx, hb, hml, hown, hts⟩ (c_J6_compare_7cf53 l dC dI cI cJ cC cO (zx * c3) (c2 * zy) (by omega) (by omega)) (va_cwS 2 hts gX0_takeIfFirst_J6_compare_7cf53 rfl rfl rfl (by decide +kernel) ⟨Nat.le_of_ble_eq_true rfl, Nat.le_of_ble_eq_true rfl⟩) hK hP [] rfl rfl hl.1 rfl (Nat.le_of_ble_eq_true rfl) dX0_takeIfFirst_12 ⟨Nat.zero_le _, Nat.zero_le _⟩ (fun z_12 hz_12 => ?_)
  refine lv_istore_n (lv' := [(3, .int (iI z_12)), (0, .ref x0), (1, .int (iI zx)), (2, .int (iI zy))]) hx hb dX0_takeIfFirst_15 rfl hl (by decide) rfl (fun ls hl => ?_)
  refine lv_aload_n hx hb dX0_takeIfFirst_16 rfl (lv_at hl 1 rfl) ?_
  refine va_get (D := (dC, dI)) (ci := 0) (v := .int (iI c4)) (C := RX0) (T := TX0) (N := 6) hx hb hts hw0 hown hK hP 0 rfl rfl 4 (by decide) hf51 (fun _ h9 => h9) rfl dX0_takeIfFirst_17 ?_
  refine zz_if_eq (tgt := 27) hx hb dX0_takeIfFirst_20 (by decide) (by omega) (fun c_20 => ?_) (fun c_20 => ?_)
  · skip
    refine lv_aload_n hx hb dX0_takeIfFirst_27 rfl (lv_at hl 1 rfl) ?_
    refine lv_iload_n hx hb dX0_takeIfFirst_28 rfl (lv_at hl 2 rfl) ?_
    refine va_put (D := (dC, dI)) (ci := 0) (v := .int (iI zx)) (ty := .int) (C := RX0) (T := TX0) (N := 6) hx hb hts hw0 tyX0 tyX0_ok nmX0 hown hK hP hD hS 0 rfl rfl 2 (by decide) hf45 (fun _ h9 => h9) rfl (by decide +kernel) rfl rfl (Nat.le_of_ble_eq_true rfl) dX0_takeIfFirst_29 (fun H locs hP hD hS => ?_)
    have hP : va_P (dC, dI) vwCl [(x0, .inr (0, [.int (iI c0), .int (iI c1), .int (iI zx), .int (iI c3), .int (iI c4), .ref x1]))] H := hP
    have hD : va_D A [(x0, .inr (0, [.int (iI c0), .int (iI c1), .int (iI zx), .int (iI c3), .int (iI c4), .ref x1]))] := hD
    refine lv_aload_n hx hb dX0_takeIfFirst_32 rfl (lv_at hl 1 rfl) ?_
    refine lv_iload_n hx hb dX0_takeIfFirst_33 rfl (lv_at hl 3 rfl) ?_
    refine va_put (D := (dC, dI)) (ci := 0) (v := .int (iI zy)) (ty := .int) (C := RX0) (T := TX0) (N := 6) hx hb hts hw0 tyX0 tyX0_ok nmX0 hown hK hP hD hS 0 rfl rfl 3 (by decide) hf48 (fun _ h9 => h9) rfl (by decide +kernel) rfl rfl (Nat.le_of_ble_eq_true rfl) dX0_takeIfFirst_34 (fun H locs hP hD hS => ?_)
    have hP : va_P (dC, dI) vwCl [(x0, .inr (0, [.int (iI c0), .int (iI c1), .int (iI zx), .int (iI zy), .int (iI c4), .ref x1]))] H := hP
    have hD : va_D A [(x0, .inr (0, [.int (iI c0), .int (iI c1), .int (iI zx), .int (iI zy), .int (iI c4), .ref x1]))] := hD
    refine lv_aload_n hx hb dX0_takeIfFirst_37 rfl (lv_at hl 1 rfl) ?_
    refine zz_iconst hx hb dX0_takeIfFirst_38 ?_
    refine va_put (D := (dC, dI)) (ci := 0) (v := .int (iI (1 : Int))) (ty := .int) (C := RX0) (T := TX0) (N := 6) hx hb hts hw0 tyX0 tyX0_ok nmX0 hown hK hP hD hS 0 rfl rfl 4 (by decide) hf51 (fun _ h9 => h9) rfl (by decide +kernel) rfl rfl (Nat.le_of_ble_eq_true rfl) dX0_takeIfFirst_39 (fun H locs hP hD hS => ?_)
    have hP : va_P (dC, dI) vwCl [(x0, .inr (0, [.int (iI c0), .int (iI c1), .int (iI zx), .int (iI zy), .int (iI (1 : Int)), .ref x1]))] H := hP
    have hD : va_D A [(x0, .inr (0, [.int (iI c0), .int (iI c1), .int (iI zx), .int (iI zy), .int (iI (1 : Int)), .ref x1]))] := hD
    refine lv_goto (tgt := 59) hx hb dX0_takeIfFirst_42 (by decide) ?_
    exact W.vret hx hb hr (fun t9 ht9 hW9 => ⟨⟨(zx, zy, (1 : Int)), rfl, Or.inl ⟨by omega, rfl⟩, by show va_P _ _ _ t9.heap; rw [ht9]; exact hP⟩, hS.F ht9⟩) hS.2.2 dX0_takeIfFirst_59
  · skip
    refine lv_iload_n hx hb dX0_takeIfFirst_23 rfl (lv_at hl 0 rfl) ?_
    refine zz_if_ge (tgt := 45) hx hb dX0_takeIfFirst_24 (by decide) (by omega) (fun c_24 => ?_) (fun c_24 => ?_)
    · skip
      refine lv_iload_n hx hb dX0_takeIfFirst_45 rfl (lv_at hl 0 rfl) ?_
      refine zz_if_ne (tgt := 59) hx hb dX0_takeIfFirst_46 (by decide) (by omega) (fun c_46 => ?_) (fun c_46 => ?_)
      · skip
        exact W.vret hx hb hr (fun t9 ht9 hW9 => ⟨⟨(c2, c3, c4), rfl, Or.inr (Or.inr ⟨by omega, by omega, rfl⟩), by show va_P _ _ _ t9.heap; rw [ht9]; exact hP⟩, hS.F ht9⟩) hS.2.2 dX0_takeIfFirst_59
      · skip
        refine lv_aload_n hx hb dX0_takeIfFirst_49 rfl (lv_at hl 1 rfl) ?_
        refine lv_dup hx hb dX0_takeIfFirst_50 rfl ?_
        refine va_get (D := (dC, dI)) (ci := 0) (v := .int (iI c4)) (C := RX0) (T := TX0) (N := 6) hx hb hts hw0 hown hK hP 0 rfl rfl 4 (by decide) hf51 (fun _ h9 => h9) rfl dX0_takeIfFirst_51 ?_
        refine zz_iconst hx hb dX0_takeIfFirst_54 ?_
        refine zz_iadd hx hb dX0_takeIfFirst_55 ?_
        refine va_put (D := (dC, dI)) (ci := 0) (v := .int (iI (c4 + (1 : Int)))) (ty := .int) (C := RX0) (T := TX0) (N := 6) hx hb hts hw0 tyX0 tyX0_ok nmX0 hown hK hP hD hS 0 rfl rfl 4 (by decide) hf51 (fun _ h9 => h9) rfl (by decide +kernel) rfl rfl (Nat.le_of_ble_eq_true rfl) dX0_takeIfFirst_56 (fun H locs hP hD hS => ?_)
        have hP : va_P (dC, dI) vwCl [(x0, .inr (0, [.int (iI c0), .int (iI c1), .int (iI c2), .int (iI c3), .int (iI (c4 + (1 : Int))), .ref x1]))] H := hP
        have hD : va_D A [(x0, .inr (0, [.int (iI c0), .int (iI c1), .int (iI c2), .int (iI c3), .int (iI (c4 + (1 : Int))), .ref x1]))] := hD
        exact W.vret hx hb hr (fun t9 ht9 hW9 => ⟨⟨(c2, c3, (c4 + (1 : Int))), rfl, Or.inr (Or.inl ⟨by omega, by omega, rfl⟩), by show va_P _ _ _ t9.heap; rw [ht9]; exact hP⟩, hS.F ht9⟩) hS.2.2 dX0_takeIfFirst_59
    · skip
      refine lv_aload_n hx hb dX0_takeIfFirst_27 rfl (lv_at hl 1 rfl) ?_
      refine lv_iload_n hx hb dX0_takeIfFirst_28 rfl (lv_at hl 2 rfl) ?_
      refine va_put (D := (dC, dI)) (ci := 0) (v := .int (iI zx)) (ty := .int) (C := RX0) (T := TX0) (N := 6) hx hb hts hw0 tyX0 tyX0_ok nmX0 hown hK hP hD hS 0 rfl rfl 2 (by decide) hf45 (fun _ h9 => h9) rfl (by decide +kernel) rfl rfl (Nat.le_of_ble_eq_true rfl) dX0_takeIfFirst_29 (fun H locs hP hD hS => ?_)
      have hP : va_P (dC, dI) vwCl [(x0, .inr (0, [.int (iI c0), .int (iI c1), .int (iI zx), .int (iI c3), .int (iI c4), .ref x1]))] H := hP
      have hD : va_D A [(x0, .inr (0, [.int (iI c0), .int (iI c1), .int (iI zx), .int (iI c3), .int (iI c4), .ref x1]))] := hD
      refine lv_aload_n hx hb dX0_takeIfFirst_32 rfl (lv_at hl 1 rfl) ?_
      refine lv_iload_n hx hb dX0_takeIfFirst_33 rfl (lv_at hl 3 rfl) ?_
      refine va_put (D := (dC, dI)) (ci := 0) (v := .int (iI zy)) (ty := .int) (C := RX0) (T := TX0) (N := 6) hx hb hts hw0 tyX0 tyX0_ok nmX0 hown hK hP hD hS 0 rfl rfl 3 (by decide) hf48 (fun _ h9 => h9) rfl (by decide +kernel) rfl rfl (Nat.le_of_ble_eq_true rfl) dX0_takeIfFirst_34 (fun H locs hP hD hS => ?_)
      have hP : va_P (dC, dI) vwCl [(x0, .inr (0, [.int (iI c0), .int (iI c1), .int (iI zx), .int (iI zy), .int (iI c4), .ref x1]))] H := hP
      have hD : va_D A [(x0, .inr (0, [.int (iI c0), .int (iI c1), .int (iI zx), .int (iI zy), .int (iI c4), .ref x1]))] := hD
      refine lv_aload_n hx hb dX0_takeIfFirst_37 rfl (lv_at hl 1 rfl) ?_
      refine zz_iconst hx hb dX0_takeIfFirst_38 ?_
      refine va_put (D := (dC, dI)) (ci := 0) (v := .int (iI (1 : Int))) (ty := .int) (C := RX0) (T := TX0) (N := 6) hx hb hts hw0 tyX0 tyX0_ok nmX0 hown hK hP hD hS 0 rfl rfl 4 (by decide) hf51 (fun _ h9 => h9) rfl (by decide +kernel) rfl rfl (Nat.le_of_ble_eq_true rfl) dX0_takeIfFirst_39 (fun H locs hP hD hS => ?_)
      have hP : va_P (dC, dI) vwCl [(x0, .inr (0, [.int (iI c0), .int (iI c1), .int (iI zx), .int (iI zy), .int (iI (1 : Int)), .ref x1]))] H := hP
      have hD : va_D A [(x0, .inr (0, [.int (iI c0), .int (iI c1), .int (iI zx), .int (iI zy), .int (iI (1 : Int)), .ref x1]))] := hD
      refine lv_goto (tgt := 59) hx hb dX0_takeIfFirst_42 (by decide) ?_
      exact W.vret hx hb hr (fun t9 ht9 hW9 => ⟨⟨(zx, zy, (1 : Int)), rfl, Or.inl ⟨by omega, rfl⟩, by show va_P _ _ _ t9.heap; rw [ht9]; exact hP⟩, hS.F ht9⟩) hS.2.2 dX0_takeIfFirst_59
