set_option maxHeartbeats 4000000 in
set_option maxRecDepth 100000 in
theorem c_X0_crossingsOf (l : Launch) (dC : Nat → ClassId) (dI : Nat → Nat → Nat) (cI cJ cC cO : ClassId) (h a1 a2 a3 a4 : Nat) (r : Nat → Nat → Int) (n : Nat) (hok : Ok r n) (zx : Int) (x : Nat) (ex : zx = (x : Int)) (hx : x < n) (zy : Int) (y : Nat) (ey : zy = (y : Int)) (hy : y < n) (zt : Int) (ht : 0 ≤ zt ∧ zt ≤ 100) : Met l yX0_crossingsOf wsX0_crossingsOf ({ frames := 2, cells := 0, slots := 0, locals := 48 } : Room) (va_Pc [.ref h, .int (iI zx), .int (iI zy), .int (iI zt)] (ro_B (dC, dI) vwCl (tyG cI cJ cC cO) (wSt cI h a1 a2 a3 a4 r))) (ro_Q (fun z => z = crC r n zt x y)) 0 0 (fun _ => False) := by
  refine Met.ofW (cc := cX0_crossingsOf) (maxL := 7) (ret := (some .int)) (by decide) rfl ?_
  intro p e s m args below meth c s₁ B hml hv
  obtain ⟨hav, hP, hK⟩ := hv
  have hx := B.exec
  have hb := B.bytes
  have hr := B.returns
  have hts := atoms_spec (ws := wsX0_crossingsOf) B.pre
  have hown : s.vm.findClass RX0 = some m.cls := findClass_of_methodNamed B.named
  have hlocks := B.notSynchronized
  have hf31 := hts (.fieldLink RX0 31 "RingRods$State" "speed" "[I") (by decide +kernel)
  have hw3 : ∀ w ∈ u_ws RX3 TX3 9, w ∈ wsX0_crossingsOf := by decide +kernel
  have hP : va_P (dC, dI) vwCl [(h, .inr (3, [.int (iI (r 0 0)), .int (iI (r 0 1)), .int (iI (r 0 2)), .int (iI (r 0 3)), .int (iI (r 0 4)), .ref a1, .ref a2, .ref a3, .ref a4])), (a1, .inl (cI, 8, .inl (fun k => iI ((r 1) k)))), (a2, .inl (cI, 8, .inl (fun k => iI ((r 2) k)))), (a3, .inl (cI, 8, .inl (fun k => iI ((r 3) k)))), (a4, .inl (cI, 8, .inl (fun k => iI ((r 4) k))))] s.heap := hP
  have hl := lv_entry ([.ref h, .int (iI zx), .int (iI zy), .int (iI zt)]) (n := 7) (Nat.le_of_ble_eq_true rfl)
  have hent : entryFrame m args 7 = F0 m 0 ((lg_sl ([.ref h, .int (iI zx), .int (iI zy), .int (iI zt)]) ++ List.replicate (7 - (lg_sl ([.ref h, .int (iI zx), .int (iI zy), .int (iI zt)])).length) Slot.unset).toArray) [] := by rw [hav]; exact lg_entry_eq ..
  rw [hent]
  generalize (lg_sl ([.ref h, .int (iI zx), .int (iI zy), .int (iI zt)]) ++ List.replicate (7 - (lg_sl ([.ref h, .int (iI zx), .int (iI zy), .int (iI zt)])).length) Slot.unset).toArray = ls at hl ⊢
  have hl : lv_has ls 7 [(0, .ref h), (1, .int (iI zx)), (2, .int (iI zy)), (3, .int (iI zt))] := hl
  have bd0 := hok.bd
  have bd1 := hok.fr
  have bc := hok.cl (a := x) (b := y) (by omega) (by omega)
  have bm := mul_b (a := r 3 x - r 3 y) (b := zt) (by simp only [clC] at bc; omega) ht
  refine lv_aload_n hx hb dX0_crossingsOf_0 rfl (lv_at hl 0 rfl) ?_
  refine va_get (D := (dC, dI)) (ci := 3) (v := .ref a3) (C := RX3) (T := TX3) (N := 9) hx hb hts hw3 hown hK hP 0 rfl rfl 7 (by decide) hf31 (fun _ h9 => h9) rfl dX0_crossingsOf_1 ?_
  refine lv_iload_n hx hb dX0_crossingsOf_4 rfl (lv_at hl 1 rfl) ?_
  refine zz_iald hx hb hK hP 3 0 (f := (r 3)) rfl rfl (by decide) x (by omega) (by omega) dX0_crossingsOf_5 ?_
  have b_5 := hok.at (k := x) (by omega)
  refine lv_aload_n hx hb dX0_crossingsOf_6 rfl (lv_at hl 0 rfl) ?_
  refine va_get (D := (dC, dI)) (ci := 3) (v := .ref a3) (C := RX3) (T := TX3) (N := 9) hx hb hts hw3 hown hK hP 0 rfl rfl 7 (by decide) hf31 (fun _ h9 => h9) rfl dX0_crossingsOf_7 ?_
  refine lv_iload_n hx hb dX0_crossingsOf_10 rfl (lv_at hl 2 rfl) ?_
  refine zz_iald hx hb hK hP 3 0 (f := (r 3)) rfl rfl (by decide) y (by omega) (by omega) dX0_crossingsOf_11 ?_
  have b_11 := hok.at (k := y) (by omega)
  refine zz_isub hx hb dX0_crossingsOf_12 ?_
  refine lv_istore (lv' := [(4, .int (iI (((r 3) x) - ((r 3) y)))), (0, .ref h), (1, .int (iI zx)), (2, .int (iI zy)), (3, .int (iI zt))]) hx hb dX0_crossingsOf_13 hl (by decide) rfl (fun ls hl => ?_)
  refine lv_aload_n hx hb dX0_crossingsOf_15 rfl (lv_at hl 1 rfl) ?_
  refine ro_V (As := []) (rest := []) ⟨hx, hb, hml, hown, hts⟩ (c_X3_freeLength l dC dI cI cJ cC cO h a1 a2 a3 a4 r n hok) (cwV 0 hts gX0_crossingsOf_X3_freeLength rfl rfl rfl (by decide +kernel) ⟨Nat.le_of_ble_eq_true rfl, Nat.le_of_ble_eq_true rfl⟩) hK hP [0, 1, 2, 3, 4] rfl 3 0 rfl rfl rfl hl.1 rfl (Nat.le_of_ble_eq_true rfl) dX0_crossingsOf_16 ⟨Nat.zero_le _, Nat.zero_le _⟩ (fun z_16 hz_16 => ?_)
  subst hz_16
  have bz_16 := hok.fr
  refine lv_istore (lv' := [(5, .int (iI (freeL (r 0 0) n (r 2)))), (4, .int (iI (((r 3) x) - ((r 3) y)))), (0, .ref h), (1, .int (iI zx)), (2, .int (iI zy)), (3, .int (iI zt))]) hx hb dX0_crossingsOf_19 hl (by decide) rfl (fun ls hl => ?_)
  refine lv_iload hx hb dX0_crossingsOf_21 (lv_at hl 1 rfl) ?_
  refine zz_if_le (tgt := 32) hx hb dX0_crossingsOf_23 (by decide) (by omega) (fun c_23 => ?_) (fun c_23 => ?_)
  · skip
    refine zz_iconst hx hb dX0_crossingsOf_32 ?_
    exact W.iret (v := iI (0 : Int)) hx hb hr (fun t9 ht9 hW9 => ⟨(0 : Int), rfl, by simp only [crC]; rw [if_pos (Or.inl (by simp only [clC]; omega))], ht9⟩) (fun q hq => by cases hq) dX0_crossingsOf_33
  · skip
    refine lv_iload hx hb dX0_crossingsOf_26 (lv_at hl 0 rfl) ?_
    refine zz_iconst hx hb dX0_crossingsOf_28 ?_
    refine zz_icmp_ge (tgt := 34) hx hb dX0_crossingsOf_29 (by decide) (by omega) (by omega) (fun c_29 => ?_) (fun c_29 => ?_)
    · skip
      refine lv_iload hx hb dX0_crossingsOf_34 (lv_at hl 1 rfl) ?_
      refine lv_iload_n hx hb dX0_crossingsOf_36 rfl (lv_at hl 5 rfl) ?_
      refine zz_imul hx hb dX0_crossingsOf_37 ?_
      refine lv_aload_n hx hb dX0_crossingsOf_38 rfl (lv_at hl 2 rfl) ?_
      refine lv_iload_n hx hb dX0_crossingsOf_39 rfl (lv_at hl 3 rfl) ?_
      refine lv_iload_n hx hb dX0_crossingsOf_40 rfl (lv_at hl 4 rfl) ?_
      refine ro_V (As := [.int (iI zx), .int (iI zy)]) (rest := [.int (iI ((((r 3) x) - ((r 3) y)) * zt))]) ⟨hx, hb, hml, hown, hts⟩ (c_X3_freeBetween l dC dI cI cJ cC cO h a1 a2 a3 a4 r n hok zx x (by omega) (by omega) zy y (by omega) (by omega)) (cwV 2 hts gX0_crossingsOf_X3_freeBetween rfl rfl rfl (by decide +kernel) ⟨Nat.le_of_ble_eq_true rfl, Nat.le_of_ble_eq_true rfl⟩) hK hP [0, 1, 2, 3, 4] rfl 3 0 rfl rfl rfl hl.1 rfl (Nat.le_of_ble_eq_true rfl) dX0_crossingsOf_41 ⟨Nat.zero_le _, Nat.zero_le _⟩ (fun z_41 hz_41 => ?_)
      subst hz_41
      have bz_41 := hok.fb (a := x) (b := y) (by omega) (by omega)
      refine zz_isub hx hb dX0_crossingsOf_44 ?_
      refine lv_istore (lv' := [(6, .int (iI (((((r 3) x) - ((r 3) y)) * zt) - (fbtw (r 0 0) n (r 1) (r 2) x y)))), (5, .int (iI (freeL (r 0 0) n (r 2)))), (4, .int (iI (((r 3) x) - ((r 3) y)))), (0, .ref h), (1, .int (iI zx)), (2, .int (iI zy)), (3, .int (iI zt))]) hx hb dX0_crossingsOf_45 hl (by decide) rfl (fun ls hl => ?_)
      refine lv_iload hx hb dX0_crossingsOf_47 (lv_at hl 0 rfl) ?_
      refine zz_if_ge (tgt := 56) hx hb dX0_crossingsOf_49 (by decide) (by omega) (fun c_49 => ?_) (fun c_49 => ?_)
      · skip
        refine lv_iload hx hb dX0_crossingsOf_56 (lv_at hl 0 rfl) ?_
        refine lv_iload hx hb dX0_crossingsOf_58 (lv_at hl 1 rfl) ?_
        refine zz_idiv hx hb dX0_crossingsOf_60 (by omega) (by omega) (by omega) ?_
        refine zz_iconst hx hb dX0_crossingsOf_61 ?_
        refine zz_iadd hx hb dX0_crossingsOf_62 ?_
        exact W.iret (v := iI ((Int.tdiv (((((r 3) x) - ((r 3) y)) * zt) - (fbtw (r 0 0) n (r 1) (r 2) x y)) (freeL (r 0 0) n (r 2))) + (1 : Int))) hx hb hr (fun t9 ht9 hW9 => ⟨((Int.tdiv (((((r 3) x) - ((r 3) y)) * zt) - (fbtw (r 0 0) n (r 1) (r 2) x y)) (freeL (r 0 0) n (r 2))) + (1 : Int)), rfl, by simp only [crC]; rw [if_neg (by simp only [clC, fbC]; omega), tdiv_nn (by omega)]; simp only [clC, fbC], ht9⟩) (fun q hq => by cases hq) dX0_crossingsOf_63
      · skip
        refine zz_iconst hx hb dX0_crossingsOf_52 ?_
        refine lv_goto (tgt := 63) hx hb dX0_crossingsOf_53 (by decide) ?_
        exact W.iret (v := iI (0 : Int)) hx hb hr (fun t9 ht9 hW9 => ⟨(0 : Int), rfl, by simp only [crC]; rw [if_pos (Or.inr (by simp only [clC, fbC]; omega))], ht9⟩) (fun q hq => by cases hq) dX0_crossingsOf_63
    · skip
      refine zz_iconst hx hb dX0_crossingsOf_32 ?_
      exact W.iret (v := iI (0 : Int)) hx hb hr (fun t9 ht9 hW9 => ⟨(0 : Int), rfl, by simp only [crC]; rw [if_pos (Or.inl (by simp only [clC]; omega))], ht9⟩) (fun q hq => by cases hq) dX0_crossingsOf_33
set_option maxHeartbeats 4000000 in
set_option maxRecDepth 100000 in
theorem c_X0_foresee (l : Launch) (dC : Nat → ClassId) (dI : Nat → Nat → Nat) (cI cJ cC cO : ClassId) (x0 x1 : Nat) (c0 c1 c2 c3 c4 : Int) (h a1 a2 a3 a4 : Nat) (r : Nat → Nat → Int) (n : Nat) (hok : Ok r n) (zt : Int) (ht : 0 ≤ zt ∧ zt ≤ 100) : Met l yX0_foresee wsX0_foresee ({ frames := 3, cells := 0, slots := 0, locals := 74 } : Room) (va_Pc [.ref x0, .ref h, .int (iI zt)] (wr_B (dC, dI) vwCl (tyG cI cJ cC cO) (wCr x0 x1 c0 c1 c2 c3 c4 ++ wSt cI h a1 a2 a3 a4 r))) (wr_Qv (fun (u : Unit) => True) (fun u t => va_P (dC, dI) vwCl (wCr x0 x1 (crM r n zt n) (crI r n zt n) c2 c3 c4 ++ wSt cI h a1 a2 a3 a4 r) t.heap) (wr_A (wCr x0 x1 c0 c1 c2 c3 c4 ++ wSt cI h a1 a2 a3 a4 r))) 0 0 (wr_A (wCr x0 x1 c0 c1 c2 c3 c4 ++ wSt cI h a1 a2 a3 a4 r)) := by
  refine Met.ofW (cc := cX0_foresee) (maxL := 6) (ret := none) (by decide) rfl ?_
  intro p e s m args below meth c s₁ B hml hv
  obtain ⟨hav, hP, hK, hD0⟩ := hv
  have hx := B.exec
  have hb := B.bytes
  have hr := B.returns
  have hts := atoms_spec (ws := wsX0_foresee) B.pre
  have hown : s.vm.findClass RX0 = some m.cls := findClass_of_methodNamed B.named
  have hlocks := B.notSynchronized
  have hf15 := hts (.fieldLink RX0 15 "RingRods$Crossings" "many" "I") (by decide +kernel)
  have hf19 := hts (.fieldLink RX0 19 "RingRods$Crossings" "impulses" "I") (by decide +kernel)
  have hf22 := hts (.fieldLink RX0 22 "RingRods$State" "rods" "I") (by decide +kernel)
  have hf31 := hts (.fieldLink RX0 31 "RingRods$State" "speed" "[I") (by decide +kernel)
  have hw0 : ∀ w ∈ u_ws RX0 TX0 6, w ∈ wsX0_foresee := by decide +kernel
  have hw3 : ∀ w ∈ u_ws RX3 TX3 9, w ∈ wsX0_foresee := by decide +kernel
  have hD := va_D.slf hD0
  have hS : va_S (wr_A (wCr x0 x1 c0 c1 c2 c3 c4 ++ wSt cI h a1 a2 a3 a4 r)) s.heap s.heap [] := va_S.rf
  show W p l e ({ frames := 3, cells := 0, slots := 0, locals := 74 } : Room) s m args below meth c s.heap [] 0 0 (MQ below (wr_Qv (fun (u : Unit) => True) (fun u t => va_P (dC, dI) vwCl (wCr x0 x1 (crM r n zt n) (crI r n zt n) c2 c3 c4 ++ wSt cI h a1 a2 a3 a4 r) t.heap) (wr_A (wCr x0 x1 c0 c1 c2 c3 c4 ++ wSt cI h a1 a2 a3 a4 r))) args s 0 0 (wr_A (wCr x0 x1 c0 c1 c2 c3 c4 ++ wSt cI h a1 a2 a3 a4 r))) (entryFrame m args 6)
  generalize hAe : wr_A (wCr x0 x1 c0 c1 c2 c3 c4 ++ wSt cI h a1 a2 a3 a4 r) = A at hD hS ⊢
  have hP : va_P (dC, dI) vwCl [(x0, .inr (0, [.int (iI c0), .int (iI c1), .int (iI c2), .int (iI c3), .int (iI c4), .ref x1])), (h, .inr (3, [.int (iI (r 0 0)), .int (iI (r 0 1)), .int (iI (r 0 2)), .int (iI (r 0 3)), .int (iI (r 0 4)), .ref a1, .ref a2, .ref a3, .ref a4])), (a1, .inl (cI, 8, .inl (fun k => iI ((r 1) k)))), (a2, .inl (cI, 8, .inl (fun k => iI ((r 2) k)))), (a3, .inl (cI, 8, .inl (fun k => iI ((r 3) k)))), (a4, .inl (cI, 8, .inl (fun k => iI ((r 4) k))))] s.heap := hP
  have hD : va_D A [(x0, .inr (0, [.int (iI c0), .int (iI c1), .int (iI c2), .int (iI c3), .int (iI c4), .ref x1])), (h, .inr (3, [.int (iI (r 0 0)), .int (iI (r 0 1)), .int (iI (r 0 2)), .int (iI (r 0 3)), .int (iI (r 0 4)), .ref a1, .ref a2, .ref a3, .ref a4])), (a1, .inl (cI, 8, .inl (fun k => iI ((r 1) k)))), (a2, .inl (cI, 8, .inl (fun k => iI ((r 2) k)))), (a3, .inl (cI, 8, .inl (fun k => iI ((r 3) k)))), (a4, .inl (cI, 8, .inl (fun k => iI ((r 4) k))))] := hD
  have hl := lv_entry ([.ref x0, .ref h, .int (iI zt)]) (n := 6) (Nat.le_of_ble_eq_true rfl)
  have hent : entryFrame m args 6 = F0 m 0 ((lg_sl ([.ref x0, .ref h, .int (iI zt)]) ++ List.replicate (6 - (lg_sl ([.ref x0, .ref h, .int (iI zt)])).length) Slot.unset).toArray) [] := by rw [hav]; exact lg_entry_eq ..
  rw [hent]
  generalize (lg_sl ([.ref x0, .ref h, .int (iI zt)]) ++ List.replicate (6 - (lg_sl ([.ref x0, .ref h, .int (iI zt)])).length) Slot.unset).toArray = ls at hl ⊢
  have hl : lv_has ls 6 [(0, .ref x0), (1, .ref h), (2, .int (iI zt))] := hl
  have bd0 := hok.bd
  have bd1 := hok.fr
  refine lv_aload_n hx hb dX0_foresee_0 rfl (lv_at hl 0 rfl) ?_
  refine zz_iconst hx hb dX0_foresee_1 ?_
  refine va_put (D := (dC, dI)) (ci := 0) (v := .int (iI (0 : Int))) (ty := .int) (C := RX0) (T := TX0) (N := 6) hx hb hts hw0 tyX0 tyX0_ok nmX0 hown hK hP hD hS 0 rfl rfl 0 (by decide) hf15 (fun _ h9 => h9) rfl (by decide +kernel) rfl rfl (Nat.le_of_ble_eq_true rfl) dX0_foresee_2 (fun H locs hP hD hS => ?_)
  have hP : va_P (dC, dI) vwCl [(x0, .inr (0, [.int (iI (0 : Int)), .int (iI c1), .int (iI c2), .int (iI c3), .int (iI c4), .ref x1])), (h, .inr (3, [.int (iI (r 0 0)), .int (iI (r 0 1)), .int (iI (r 0 2)), .int (iI (r 0 3)), .int (iI (r 0 4)), .ref a1, .ref a2, .ref a3, .ref a4])), (a1, .inl (cI, 8, .inl (fun k => iI ((r 1) k)))), (a2, .inl (cI, 8, .inl (fun k => iI ((r 2) k)))), (a3, .inl (cI, 8, .inl (fun k => iI ((r 3) k)))), (a4, .inl (cI, 8, .inl (fun k => iI ((r 4) k))))] H := hP
  have hD : va_D A [(x0, .inr (0, [.int (iI (0 : Int)), .int (iI c1), .int (iI c2), .int (iI c3), .int (iI c4), .ref x1])), (h, .inr (3, [.int (iI (r 0 0)), .int (iI (r 0 1)), .int (iI (r 0 2)), .int (iI (r 0 3)), .int (iI (r 0 4)), .ref a1, .ref a2, .ref a3, .ref a4])), (a1, .inl (cI, 8, .inl (fun k => iI ((r 1) k)))), (a2, .inl (cI, 8, .inl (fun k => iI ((r 2) k)))), (a3, .inl (cI, 8, .inl (fun k => iI ((r 3) k)))), (a4, .inl (cI, 8, .inl (fun k => iI ((r 4) k))))] := hD
  refine lv_aload_n hx hb dX0_foresee_5 rfl (lv_at hl 0 rfl) ?_
  refine zz_iconst hx hb dX0_foresee_6 ?_
  refine va_put (D := (dC, dI)) (ci := 0) (v := .int (iI (0 : Int))) (ty := .int) (C := RX0) (T := TX0) (N := 6) hx hb hts hw0 tyX0 tyX0_ok nmX0 hown hK hP hD hS 0 rfl rfl 1 (by decide) hf19 (fun _ h9 => h9) rfl (by decide +kernel) rfl rfl (Nat.le_of_ble_eq_true rfl) dX0_foresee_7 (fun H locs hP hD hS => ?_)
  have hP : va_P (dC, dI) vwCl [(x0, .inr (0, [.int (iI (0 : Int)), .int (iI (0 : Int)), .int (iI c2), .int (iI c3), .int (iI c4), .ref x1])), (h, .inr (3, [.int (iI (r 0 0)), .int (iI (r 0 1)), .int (iI (r 0 2)), .int (iI (r 0 3)), .int (iI (r 0 4)), .ref a1, .ref a2, .ref a3, .ref a4])), (a1, .inl (cI, 8, .inl (fun k => iI ((r 1) k)))), (a2, .inl (cI, 8, .inl (fun k => iI ((r 2) k)))), (a3, .inl (cI, 8, .inl (fun k => iI ((r 3) k)))), (a4, .inl (cI, 8, .inl (fun k => iI ((r 4) k))))] H := hP
  have hD : va_D A [(x0, .inr (0, [.int (iI (0 : Int)), .int (iI (0 : Int)), .int (iI c2), .int (iI c3), .int (iI c4), .ref x1])), (h, .inr (3, [.int (iI (r 0 0)), .int (iI (r 0 1)), .int (iI (r 0 2)), .int (iI (r 0 3)), .int (iI (r 0 4)), .ref a1, .ref a2, .ref a3, .ref a4])), (a1, .inl (cI, 8, .inl (fun k => iI ((r 1) k)))), (a2, .inl (cI, 8, .inl (fun k => iI ((r 2) k)))), (a3, .inl (cI, 8, .inl (fun k => iI ((r 3) k)))), (a4, .inl (cI, 8, .inl (fun k => iI ((r 4) k))))] := hD
  refine zz_iconst hx hb dX0_foresee_10 ?_
  refine lv_istore_n (lv' := [(3, .int (iI (0 : Int))), (0, .ref x0), (1, .ref h), (2, .int (iI zt))]) hx hb dX0_foresee_11 rfl hl (by decide) rfl (fun ls hl => ?_)
  have lp12 : ∀ (d12 : Nat), ∀ (i : Nat) (w0 : Int) (w1 : Int) (v3 : Int) (hi : i ≤ n) (e3 : v3 = (i : Int)) (ew0 : w0 = crM r n zt i) (ew1 : w1 = crI r n zt i), n - i < d12 → ∀ (H : Heap) (locs : List Loc), va_P (dC, dI) vwCl [(x0, .inr (0, [.int (iI w0), .int (iI w1), .int (iI c2), .int (iI c3), .int (iI c4), .ref x1])), (h, .inr (3, [.int (iI (r 0 0)), .int (iI (r 0 1)), .int (iI (r 0 2)), .int (iI (r 0 3)), .int (iI (r 0 4)), .ref a1, .ref a2, .ref a3, .ref a4])), (a1, .inl (cI, 8, .inl (fun k => iI ((r 1) k)))), (a2, .inl (cI, 8, .inl (fun k => iI ((r 2) k)))), (a3, .inl (cI, 8, .inl (fun k => iI ((r 3) k)))), (a4, .inl (cI, 8, .inl (fun k => iI ((r 4) k))))] H → va_D A [(x0, .inr (0, [.int (iI w0), .int (iI w1), .int (iI c2), .int (iI c3), .int (iI c4), .ref x1])), (h, .inr (3, [.int (iI (r 0 0)), .int (iI (r 0 1)), .int (iI (r 0 2)), .int (iI (r 0 3)), .int (iI (r 0 4)), .ref a1, .ref a2, .ref a3, .ref a4])), (a1, .inl (cI, 8, .inl (fun k => iI ((r 1) k)))), (a2, .inl (cI, 8, .inl (fun k => iI ((r 2) k)))), (a3, .inl (cI, 8, .inl (fun k => iI ((r 3) k)))), (a4, .inl (cI, 8, .inl (fun k => iI ((r 4) k))))] → va_S A s.heap H locs → ∀ ls : Array Slot, lv_has ls 6 [(0, .ref x0), (1, .ref h), (2, .int (iI zt)), (3, .int (iI v3))] → W p l e ({ frames := 3, cells := 0, slots := 0, locals := 74 } : Room) s m args below meth c H locs 0 0 (MQ below (wr_Qv (fun (u : Unit) => True) (fun u t => va_P (dC, dI) vwCl (wCr x0 x1 (crM r n zt n) (crI r n zt n) c2 c3 c4 ++ wSt cI h a1 a2 a3 a4 r) t.heap) A) args s 0 0 A) (F0 m 12 ls []) := by
    intro d12
    induction d12 with
    | zero =>
      intro i w0 w1 v3 hi e3 ew0 ew1 hd12
      exact absurd hd12 (Nat.not_lt_zero _)
    | succ d12 ih12 =>
      intro i w0 w1 v3 hi e3 ew0 ew1 hd12 H locs hP hD hS ls hl
      refine lv_iload_n hx hb dX0_foresee_12 rfl (lv_at hl 3 rfl) ?_
      refine lv_aload_n hx hb dX0_foresee_13 rfl (lv_at hl 1 rfl) ?_
      refine va_get (D := (dC, dI)) (ci := 3) (v := .int (iI (r 0 1))) (C := RX3) (T := TX3) (N := 9) hx hb hts hw3 hown hK hP 1 rfl rfl 1 (by decide) hf22 (fun _ h9 => h9) rfl dX0_foresee_14 ?_
      refine zz_icmp_ge (tgt := 91) hx hb dX0_foresee_17 (by decide) (by omega) (by omega) (fun c_17 => ?_) (fun c_17 => ?_)
      · skip
        exact W.vret hx hb hr (fun t9 ht9 hW9 => ⟨⟨(), rfl, trivial, by show va_P _ _ _ t9.heap; rw [ht9]; exact (by (have h9 : i = n := (by omega)); rw [h9] at ew0 ew1; rw [← ew0, ← ew1]; exact hP)⟩, hS.F ht9⟩) hS.2.2 dX0_foresee_91
      · skip
        refine zz_iconst hx hb dX0_foresee_20 ?_
        refine lv_istore (lv' := [(4, .int (iI (0 : Int))), (0, .ref x0), (1, .ref h), (2, .int (iI zt)), (3, .int (iI v3))]) hx hb dX0_foresee_21 hl (by decide) rfl (fun ls hl => ?_)
        have lp23 : ∀ (d23 : Nat), ∀ (j : Nat) (y0 : Int) (y1 : Int) (v4 : Int) (hj : j ≤ n) (e4 : v4 = (j : Int)) (ey0 : y0 = w0 + sumI (fun b => crC r n zt i b) j) (ey1 : y1 = w1 + sumI (fun b => crC r n zt i b * (r 3 i - r 3 b)) j), n - j < d23 → ∀ (H : Heap) (locs : List Loc), va_P (dC, dI) vwCl [(x0, .inr (0, [.int (iI y0), .int (iI y1), .int (iI c2), .int (iI c3), .int (iI c4), .ref x1])), (h, .inr (3, [.int (iI (r 0 0)), .int (iI (r 0 1)), .int (iI (r 0 2)), .int (iI (r 0 3)), .int (iI (r 0 4)), .ref a1, .ref a2, .ref a3, .ref a4])), (a1, .inl (cI, 8, .inl (fun k => iI ((r 1) k)))), (a2, .inl (cI, 8, .inl (fun k => iI ((r 2) k)))), (a3, .inl (cI, 8, .inl (fun k => iI ((r 3) k)))), (a4, .inl (cI, 8, .inl (fun k => iI ((r 4) k))))] H → va_D A [(x0, .inr (0, [.int (iI y0), .int (iI y1), .int (iI c2), .int (iI c3), .int (iI c4), .ref x1])), (h, .inr (3, [.int (iI (r 0 0)), .int (iI (r 0 1)), .int (iI (r 0 2)), .int (iI (r 0 3)), .int (iI (r 0 4)), .ref a1, .ref a2, .ref a3, .ref a4])), (a1, .inl (cI, 8, .inl (fun k => iI ((r 1) k)))), (a2, .inl (cI, 8, .inl (fun k => iI ((r 2) k)))), (a3, .inl (cI, 8, .inl (fun k => iI ((r 3) k)))), (a4, .inl (cI, 8, .inl (fun k => iI ((r 4) k))))] → va_S A s.heap H locs → ∀ ls : Array Slot, lv_has ls 6 [(0, .ref x0), (1, .ref h), (2, .int (iI zt)), (3, .int (iI v3)), (4, .int (iI v4))] → W p l e ({ frames := 3, cells := 0, slots := 0, locals := 74 } : Room) s m args below meth c H locs 0 0 (MQ below (wr_Qv (fun (u : Unit) => True) (fun u t => va_P (dC, dI) vwCl (wCr x0 x1 (crM r n zt n) (crI r n zt n) c2 c3 c4 ++ wSt cI h a1 a2 a3 a4 r) t.heap) A) args s 0 0 A) (F0 m 23 ls []) := by
          intro d23
          induction d23 with
          | zero =>
            intro j y0 y1 v4 hj e4 ey0 ey1 hd23
            exact absurd hd23 (Nat.not_lt_zero _)
          | succ d23 ih23 =>
            intro j y0 y1 v4 hj e4 ey0 ey1 hd23 H locs hP hD hS ls hl
            refine lv_iload hx hb dX0_foresee_23 (lv_at hl 4 rfl) ?_
            refine lv_aload_n hx hb dX0_foresee_25 rfl (lv_at hl 1 rfl) ?_
            refine va_get (D := (dC, dI)) (ci := 3) (v := .int (iI (r 0 1))) (C := RX3) (T := TX3) (N := 9) hx hb hts hw3 hown hK hP 1 rfl rfl 1 (by decide) hf22 (fun _ h9 => h9) rfl dX0_foresee_26 ?_
            refine zz_icmp_ge (tgt := 85) hx hb dX0_foresee_29 (by decide) (by omega) (by omega) (fun c_29 => ?_) (fun c_29 => ?_)
            · skip
              refine zz_iinc (lv' := [(3, .int (iI (v3 + (1 : Int)))), (0, .ref x0), (1, .ref h), (2, .int (iI zt)), (4, .int (iI v4))]) hx hb dX0_foresee_85 hl (k := 3) rfl (by decide) rfl (fun ls hl => ?_)
              refine lv_goto (tgt := 12) hx hb dX0_foresee_88 (by decide) ?_
              have hP : va_P (dC, dI) vwCl [(x0, .inr (0, [.int (iI y0), .int (iI y1), .int (iI c2), .int (iI c3), .int (iI c4), .ref x1])), (h, .inr (3, [.int (iI (r 0 0)), .int (iI (r 0 1)), .int (iI (r 0 2)), .int (iI (r 0 3)), .int (iI (r 0 4)), .ref a1, .ref a2, .ref a3, .ref a4])), (a1, .inl (cI, 8, .inl (fun k => iI ((r 1) k)))), (a2, .inl (cI, 8, .inl (fun k => iI ((r 2) k)))), (a3, .inl (cI, 8, .inl (fun k => iI ((r 3) k)))), (a4, .inl (cI, 8, .inl (fun k => iI ((r 4) k))))] H := by exact hP
              have hD : va_D A [(x0, .inr (0, [.int (iI y0), .int (iI y1), .int (iI c2), .int (iI c3), .int (iI c4), .ref x1])), (h, .inr (3, [.int (iI (r 0 0)), .int (iI (r 0 1)), .int (iI (r 0 2)), .int (iI (r 0 3)), .int (iI (r 0 4)), .ref a1, .ref a2, .ref a3, .ref a4])), (a1, .inl (cI, 8, .inl (fun k => iI ((r 1) k)))), (a2, .inl (cI, 8, .inl (fun k => iI ((r 2) k)))), (a3, .inl (cI, 8, .inl (fun k => iI ((r 3) k)))), (a4, .inl (cI, 8, .inl (fun k => iI ((r 4) k))))] := by exact hD
              exact ih12 (i + 1) y0 y1 (v3 + (1 : Int)) (by omega) (by omega) (by (have h9 : j = n := (by omega)); rw [h9] at ey0; rw [crM, sumI_s, ← crM, ← ew0]; exact ey0) (by (have h9 : j = n := (by omega)); rw [h9] at ey1; rw [crI, sumI_s, ← crI, ← ew1]; exact ey1) (by omega) H locs hP hD hS ls (lv_sub hl [1, 2, 3, 0] rfl)
            · skip
              refine lv_aload_n hx hb dX0_foresee_32 rfl (lv_at hl 1 rfl) ?_
              refine lv_iload_n hx hb dX0_foresee_33 rfl (lv_at hl 3 rfl) ?_
              refine lv_iload hx hb dX0_foresee_34 (lv_at hl 4 rfl) ?_
              refine lv_iload_n hx hb dX0_foresee_36 rfl (lv_at hl 2 rfl) ?_
              refine ro_S (As := [.ref h, .int (iI v3), .int (iI v4), .int (iI zt)]) (rest := []) ⟨hx, hb, hml, hown, hts⟩ (c_X0_crossingsOf l dC dI cI cJ cC cO h a1 a2 a3 a4 r n hok v3 i (by omega) (by omega) v4 j (by omega) (by omega) zt (by omega)) (cwS 4 hts gX0_foresee_X0_crossingsOf rfl rfl rfl (by decide +kernel) ⟨Nat.le_of_ble_eq_true rfl, Nat.le_of_ble_eq_true rfl⟩) hK hP [1, 2, 3, 4, 5] rfl rfl hl.1 rfl (Nat.le_of_ble_eq_true rfl) dX0_foresee_37 ⟨Nat.zero_le _, Nat.zero_le _⟩ (fun z_37 hz_37 => ?_)
              subst hz_37
              have bz_37 := hok.cr (a := i) (b := j) (by omega) (by omega) (t := zt) (by omega)
              refine lv_istore (lv' := [(5, .int (iI (crC r n zt i j))), (0, .ref x0), (1, .ref h), (2, .int (iI zt)), (3, .int (iI v3)), (4, .int (iI v4))]) hx hb dX0_foresee_40 hl (by decide) rfl (fun ls hl => ?_)
              refine lv_aload_n hx hb dX0_foresee_42 rfl (lv_at hl 1 rfl) ?_
              refine lv_dup hx hb dX0_foresee_43 rfl ?_
              refine va_get (D := (dC, dI)) (ci := 0) (v := .int (iI y0)) (C := RX0) (T := TX0) (N := 6) hx hb hts hw0 hown hK hP 0 rfl rfl 0 (by decide) hf15 (fun _ h9 => h9) rfl dX0_foresee_44 ?_
              refine lv_iload hx hb dX0_foresee_47 (lv_at hl 0 rfl) ?_
              refine zz_iadd hx hb dX0_foresee_49 ?_
              refine va_put (D := (dC, dI)) (ci := 0) (v := .int (iI (y0 + (crC r n zt i j)))) (ty := .int) (C := RX0) (T := TX0) (N := 6) hx hb hts hw0 tyX0 tyX0_ok nmX0 hown hK hP hD hS 0 rfl rfl 0 (by decide) hf15 (fun _ h9 => h9) rfl (by decide +kernel) rfl rfl (Nat.le_of_ble_eq_true rfl) dX0_foresee_50 (fun H locs hP hD hS => ?_)
              have hP : va_P (dC, dI) vwCl [(x0, .inr (0, [.int (iI (y0 + (crC r n zt i j))), .int (iI y1), .int (iI c2), .int (iI c3), .int (iI c4), .ref x1])), (h, .inr (3, [.int (iI (r 0 0)), .int (iI (r 0 1)), .int (iI (r 0 2)), .int (iI (r 0 3)), .int (iI (r 0 4)), .ref a1, .ref a2, .ref a3, .ref a4])), (a1, .inl (cI, 8, .inl (fun k => iI ((r 1) k)))), (a2, .inl (cI, 8, .inl (fun k => iI ((r 2) k)))), (a3, .inl (cI, 8, .inl (fun k => iI ((r 3) k)))), (a4, .inl (cI, 8, .inl (fun k => iI ((r 4) k))))] H := hP
              have hD : va_D A [(x0, .inr (0, [.int (iI (y0 + (crC r n zt i j))), .int (iI y1), .int (iI c2), .int (iI c3), .int (iI c4), .ref x1])), (h, .inr (3, [.int (iI (r 0 0)), .int (iI (r 0 1)), .int (iI (r 0 2)), .int (iI (r 0 3)), .int (iI (r 0 4)), .ref a1, .ref a2, .ref a3, .ref a4])), (a1, .inl (cI, 8, .inl (fun k => iI ((r 1) k)))), (a2, .inl (cI, 8, .inl (fun k => iI ((r 2) k)))), (a3, .inl (cI, 8, .inl (fun k => iI ((r 3) k)))), (a4, .inl (cI, 8, .inl (fun k => iI ((r 4) k))))] := hD
              refine lv_aload_n hx hb dX0_foresee_53 rfl (lv_at hl 1 rfl) ?_
              refine lv_dup hx hb dX0_foresee_54 rfl ?_
              refine va_get (D := (dC, dI)) (ci := 0) (v := .int (iI y1)) (C := RX0) (T := TX0) (N := 6) hx hb hts hw0 hown hK hP 0 rfl rfl 1 (by decide) hf19 (fun _ h9 => h9) rfl dX0_foresee_55 ?_
              refine lv_iload hx hb dX0_foresee_58 (lv_at hl 0 rfl) ?_
              refine lv_aload_n hx hb dX0_foresee_60 rfl (lv_at hl 2 rfl) ?_
              refine va_get (D := (dC, dI)) (ci := 3) (v := .ref a3) (C := RX3) (T := TX3) (N := 9) hx hb hts hw3 hown hK hP 1 rfl rfl 7 (by decide) hf31 (fun _ h9 => h9) rfl dX0_foresee_61 ?_
              refine lv_iload_n hx hb dX0_foresee_64 rfl (lv_at hl 4 rfl) ?_
              refine zz_iald hx hb hK hP 4 0 (f := (r 3)) rfl rfl (by decide) i (by omega) (by omega) dX0_foresee_65 ?_
              have b_65 := hok.at (k := i) (by omega)
              refine lv_aload_n hx hb dX0_foresee_66 rfl (lv_at hl 2 rfl) ?_
              refine va_get (D := (dC, dI)) (ci := 3) (v := .ref a3) (C := RX3) (T := TX3) (N := 9) hx hb hts hw3 hown hK hP 1 rfl rfl 7 (by decide) hf31 (fun _ h9 => h9) rfl dX0_foresee_67 ?_
              refine lv_iload hx hb dX0_foresee_70 (lv_at hl 5 rfl) ?_
              refine zz_iald hx hb hK hP 4 0 (f := (r 3)) rfl rfl (by decide) j (by omega) (by omega) dX0_foresee_72 ?_
              have b_72 := hok.at (k := j) (by omega)
              refine zz_isub hx hb dX0_foresee_73 ?_
              refine zz_imul hx hb dX0_foresee_74 ?_
              refine zz_iadd hx hb dX0_foresee_75 ?_
              refine va_put (D := (dC, dI)) (ci := 0) (v := .int (iI (y1 + ((crC r n zt i j) * (((r 3) i) - ((r 3) j)))))) (ty := .int) (C := RX0) (T := TX0) (N := 6) hx hb hts hw0 tyX0 tyX0_ok nmX0 hown hK hP hD hS 0 rfl rfl 1 (by decide) hf19 (fun _ h9 => h9) rfl (by decide +kernel) rfl rfl (Nat.le_of_ble_eq_true rfl) dX0_foresee_76 (fun H locs hP hD hS => ?_)
              have hP : va_P (dC, dI) vwCl [(x0, .inr (0, [.int (iI (y0 + (crC r n zt i j))), .int (iI (y1 + ((crC r n zt i j) * (((r 3) i) - ((r 3) j))))), .int (iI c2), .int (iI c3), .int (iI c4), .ref x1])), (h, .inr (3, [.int (iI (r 0 0)), .int (iI (r 0 1)), .int (iI (r 0 2)), .int (iI (r 0 3)), .int (iI (r 0 4)), .ref a1, .ref a2, .ref a3, .ref a4])), (a1, .inl (cI, 8, .inl (fun k => iI ((r 1) k)))), (a2, .inl (cI, 8, .inl (fun k => iI ((r 2) k)))), (a3, .inl (cI, 8, .inl (fun k => iI ((r 3) k)))), (a4, .inl (cI, 8, .inl (fun k => iI ((r 4) k))))] H := hP
              have hD : va_D A [(x0, .inr (0, [.int (iI (y0 + (crC r n zt i j))), .int (iI (y1 + ((crC r n zt i j) * (((r 3) i) - ((r 3) j))))), .int (iI c2), .int (iI c3), .int (iI c4), .ref x1])), (h, .inr (3, [.int (iI (r 0 0)), .int (iI (r 0 1)), .int (iI (r 0 2)), .int (iI (r 0 3)), .int (iI (r 0 4)), .ref a1, .ref a2, .ref a3, .ref a4])), (a1, .inl (cI, 8, .inl (fun k => iI ((r 1) k)))), (a2, .inl (cI, 8, .inl (fun k => iI ((r 2) k)))), (a3, .inl (cI, 8, .inl (fun k => iI ((r 3) k)))), (a4, .inl (cI, 8, .inl (fun k => iI ((r 4) k))))] := hD
              refine zz_iinc (lv' := [(4, .int (iI (v4 + (1 : Int)))), (5, .int (iI (crC r n zt i j))), (0, .ref x0), (1, .ref h), (2, .int (iI zt)), (3, .int (iI v3))]) hx hb dX0_foresee_79 hl (k := 5) rfl (by decide) rfl (fun ls hl => ?_)
              refine lv_goto (tgt := 23) hx hb dX0_foresee_82 (by decide) ?_
              have hP : va_P (dC, dI) vwCl [(x0, .inr (0, [.int (iI (y0 + (crC r n zt i j))), .int (iI (y1 + ((crC r n zt i j) * (((r 3) i) - ((r 3) j))))), .int (iI c2), .int (iI c3), .int (iI c4), .ref x1])), (h, .inr (3, [.int (iI (r 0 0)), .int (iI (r 0 1)), .int (iI (r 0 2)), .int (iI (r 0 3)), .int (iI (r 0 4)), .ref a1, .ref a2, .ref a3, .ref a4])), (a1, .inl (cI, 8, .inl (fun k => iI ((r 1) k)))), (a2, .inl (cI, 8, .inl (fun k => iI ((r 2) k)))), (a3, .inl (cI, 8, .inl (fun k => iI ((r 3) k)))), (a4, .inl (cI, 8, .inl (fun k => iI ((r 4) k))))] H := by exact hP
              have hD : va_D A [(x0, .inr (0, [.int (iI (y0 + (crC r n zt i j))), .int (iI (y1 + ((crC r n zt i j) * (((r 3) i) - ((r 3) j))))), .int (iI c2), .int (iI c3), .int (iI c4), .ref x1])), (h, .inr (3, [.int (iI (r 0 0)), .int (iI (r 0 1)), .int (iI (r 0 2)), .int (iI (r 0 3)), .int (iI (r 0 4)), .ref a1, .ref a2, .ref a3, .ref a4])), (a1, .inl (cI, 8, .inl (fun k => iI ((r 1) k)))), (a2, .inl (cI, 8, .inl (fun k => iI ((r 2) k)))), (a3, .inl (cI, 8, .inl (fun k => iI ((r 3) k)))), (a4, .inl (cI, 8, .inl (fun k => iI ((r 4) k))))] := by exact hD
              exact ih23 (j + 1) (y0 + (crC r n zt i j)) (y1 + ((crC r n zt i j) * (((r 3) i) - ((r 3) j)))) (v4 + (1 : Int)) (by omega) (by omega) (by rw [sumI_s]; omega) (by rw [sumI_s]; omega) (by omega) H locs hP hD hS ls (lv_sub hl [2, 3, 4, 5, 0] rfl)
        have hP : va_P (dC, dI) vwCl [(x0, .inr (0, [.int (iI w0), .int (iI w1), .int (iI c2), .int (iI c3), .int (iI c4), .ref x1])), (h, .inr (3, [.int (iI (r 0 0)), .int (iI (r 0 1)), .int (iI (r 0 2)), .int (iI (r 0 3)), .int (iI (r 0 4)), .ref a1, .ref a2, .ref a3, .ref a4])), (a1, .inl (cI, 8, .inl (fun k => iI ((r 1) k)))), (a2, .inl (cI, 8, .inl (fun k => iI ((r 2) k)))), (a3, .inl (cI, 8, .inl (fun k => iI ((r 3) k)))), (a4, .inl (cI, 8, .inl (fun k => iI ((r 4) k))))] H := by exact hP
        have hD : va_D A [(x0, .inr (0, [.int (iI w0), .int (iI w1), .int (iI c2), .int (iI c3), .int (iI c4), .ref x1])), (h, .inr (3, [.int (iI (r 0 0)), .int (iI (r 0 1)), .int (iI (r 0 2)), .int (iI (r 0 3)), .int (iI (r 0 4)), .ref a1, .ref a2, .ref a3, .ref a4])), (a1, .inl (cI, 8, .inl (fun k => iI ((r 1) k)))), (a2, .inl (cI, 8, .inl (fun k => iI ((r 2) k)))), (a3, .inl (cI, 8, .inl (fun k => iI ((r 3) k)))), (a4, .inl (cI, 8, .inl (fun k => iI ((r 4) k))))] := by exact hD
        exact lp23 _ 0 w0 w1 (0 : Int) (by omega) (by omega) (by simp [sumI]) (by simp [sumI]) (Nat.lt_succ_self _) H locs hP hD hS ls (lv_sub hl [1, 2, 3, 4, 0] rfl)
  have hP : va_P (dC, dI) vwCl [(x0, .inr (0, [.int (iI (0 : Int)), .int (iI (0 : Int)), .int (iI c2), .int (iI c3), .int (iI c4), .ref x1])), (h, .inr (3, [.int (iI (r 0 0)), .int (iI (r 0 1)), .int (iI (r 0 2)), .int (iI (r 0 3)), .int (iI (r 0 4)), .ref a1, .ref a2, .ref a3, .ref a4])), (a1, .inl (cI, 8, .inl (fun k => iI ((r 1) k)))), (a2, .inl (cI, 8, .inl (fun k => iI ((r 2) k)))), (a3, .inl (cI, 8, .inl (fun k => iI ((r 3) k)))), (a4, .inl (cI, 8, .inl (fun k => iI ((r 4) k))))] H := by exact hP
  have hD : va_D A [(x0, .inr (0, [.int (iI (0 : Int)), .int (iI (0 : Int)), .int (iI c2), .int (iI c3), .int (iI c4), .ref x1])), (h, .inr (3, [.int (iI (r 0 0)), .int (iI (r 0 1)), .int (iI (r 0 2)), .int (iI (r 0 3)), .int (iI (r 0 4)), .ref a1, .ref a2, .ref a3, .ref a4])), (a1, .inl (cI, 8, .inl (fun k => iI ((r 1) k)))), (a2, .inl (cI, 8, .inl (fun k => iI ((r 2) k)))), (a3, .inl (cI, 8, .inl (fun k => iI ((r 3) k)))), (a4, .inl (cI, 8, .inl (fun k => iI ((r 4) k))))] := by exact hD
  exact lp12 _ 0 (0 : Int) (0 : Int) (0 : Int) (by omega) (by omega) (rfl) (rfl) (Nat.lt_succ_self _) H locs hP hD hS ls (lv_sub hl [1, 2, 3, 0] rfl)
set_option maxHeartbeats 4000000 in
set_option maxRecDepth 100000 in
theorem c_X0_commonDivisor (l : Launch) (dC : Nat → ClassId) (dI : Nat → Nat → Nat) (cI cJ cC cO : ClassId) (za : Int) (a : Nat) (ea : za = (a : Int)) (ha : a ≤ 100000) (zb : Int) (b : Nat) (eb : zb = (b : Int)) (hb9 : b ≤ 18) : Met l yX0_commonDivisor wsX0_commonDivisor ({ frames := 0, cells := 0, slots := 0, locals := 0 } : Room) (va_Pc [.int (iI za), .int (iI zb)] (ro_B (dC, dI) vwCl (tyG cI cJ cC cO) ([]))) (ro_Q (fun z => z = ((Nat.gcd a b : Nat) : Int))) 0 0 (fun _ => False) := by
  refine Met.ofW (cc := cX0_commonDivisor) (maxL := 6) (ret := (some .int)) (by decide) rfl ?_
  intro p e s m args below meth c s₁ B hml hv
  obtain ⟨hav, hP, hK⟩ := hv
  have hx := B.exec
  have hb := B.bytes
  have hr := B.returns
  have hts := atoms_spec (ws := wsX0_commonDivisor) B.pre
  have hown : s.vm.findClass RX0 = some m.cls := findClass_of_methodNamed B.named
  have hlocks := B.notSynchronized
  have hP : va_P (dC, dI) vwCl [] s.heap := hP
  have hl := lv_entry ([.int (iI za), .int (iI zb)]) (n := 6) (Nat.le_of_ble_eq_true rfl)
  have hent : entryFrame m args 6 = F0 m 0 ((lg_sl ([.int (iI za), .int (iI zb)]) ++ List.replicate (6 - (lg_sl ([.int (iI za), .int (iI zb)])).length) Slot.unset).toArray) [] := by rw [hav]; exact lg_entry_eq ..
  rw [hent]
  generalize (lg_sl ([.int (iI za), .int (iI zb)]) ++ List.replicate (6 - (lg_sl ([.int (iI za), .int (iI zb)])).length) Slot.unset).toArray = ls at hl ⊢
  have hl : lv_has ls 6 [(0, .int (iI za)), (1, .int (iI zb))] := hl
  refine lv_iload_n hx hb dX0_commonDivisor_0 rfl (lv_at hl 0 rfl) ?_
  refine lv_istore_n (lv' := [(2, .int (iI za)), (0, .int (iI za)), (1, .int (iI zb))]) hx hb dX0_commonDivisor_1 rfl hl (by decide) rfl (fun ls hl => ?_)
  refine lv_iload_n hx hb dX0_commonDivisor_2 rfl (lv_at hl 2 rfl) ?_
  refine lv_istore_n (lv' := [(3, .int (iI zb)), (2, .int (iI za)), (0, .int (iI za)), (1, .int (iI zb))]) hx hb dX0_commonDivisor_3 rfl hl (by decide) rfl (fun ls hl => ?_)
  refine zz_iconst hx hb dX0_commonDivisor_4 ?_
  refine lv_istore (lv' := [(4, .int (iI (0 : Int))), (3, .int (iI zb)), (2, .int (iI za)), (0, .int (iI za)), (1, .int (iI zb))]) hx hb dX0_commonDivisor_5 hl (by decide) rfl (fun ls hl => ?_)
  have lp7 : ∀ (d7 : Nat), ∀ (d : Nat) (e9 : Nat) (v2 v3 v4 : Int) (e2 : v2 = (d : Int)) (e3 : v3 = (e9 : Int)) (e4 : 0 ≤ v4 ∧ v4 + (e9 : Int) ≤ 18) (hd9 : d ≤ 100000) (hg : Nat.gcd d e9 = Nat.gcd a b), e9 < d7 → ∀ ls : Array Slot, lv_has ls 6 [(0, .int (iI za)), (1, .int (iI zb)), (2, .int (iI v2)), (3, .int (iI v3)), (4, .int (iI v4))] → W p l e ({ frames := 0, cells := 0, slots := 0, locals := 0 } : Room) s m args below meth c s.heap [] 0 0 (MQ below (ro_Q (fun z => z = ((Nat.gcd a b : Nat) : Int))) args s 0 0 (fun _ => False)) (F0 m 7 ls []) := by
    intro d7
    induction d7 with
    | zero =>
      intro d e9 v2 v3 v4 e2 e3 e4 hd9 hg hd7
      exact absurd hd7 (Nat.not_lt_zero _)
    | succ d7 ih7 =>
      intro d e9 v2 v3 v4 e2 e3 e4 hd9 hg hd7 ls hl
      refine lv_iload hx hb dX0_commonDivisor_7 (lv_at hl 4 rfl) ?_
      refine zz_bipush hx hb dX0_commonDivisor_9 (by decide +kernel) ?_
      refine zz_icmp_ge (tgt := 34) hx hb dX0_commonDivisor_11 (by decide) (by omega) (by omega) (fun c_11 => ?_) (fun c_11 => ?_)
      · skip
        refine lv_iload_n hx hb dX0_commonDivisor_34 rfl (lv_at hl 2 rfl) ?_
        exact W.iret (v := iI v2) hx hb hr (fun t9 ht9 hW9 => ⟨v2, rfl, by (have h9 : e9 = 0 := (by omega)); rw [h9, Nat.gcd_zero_right] at hg; rw [e2, hg], ht9⟩) (fun q hq => by cases hq) dX0_commonDivisor_35
      · skip
        refine lv_iload_n hx hb dX0_commonDivisor_14 rfl (lv_at hl 3 rfl) ?_
        refine zz_if_eq (tgt := 34) hx hb dX0_commonDivisor_15 (by decide) (by omega) (fun c_15 => ?_) (fun c_15 => ?_)
        · skip
          refine lv_iload_n hx hb dX0_commonDivisor_34 rfl (lv_at hl 2 rfl) ?_
          exact W.iret (v := iI v2) hx hb hr (fun t9 ht9 hW9 => ⟨v2, rfl, by (have h9 : e9 = 0 := (by omega)); rw [h9, Nat.gcd_zero_right] at hg; rw [e2, hg], ht9⟩) (fun q hq => by cases hq) dX0_commonDivisor_35
        · skip
          refine lv_iload_n hx hb dX0_commonDivisor_18 rfl (lv_at hl 2 rfl) ?_
          refine lv_iload_n hx hb dX0_commonDivisor_19 rfl (lv_at hl 3 rfl) ?_
          refine zz_irem hx hb dX0_commonDivisor_20 (by omega) (by omega) (by omega) ?_
          refine lv_istore (lv' := [(5, .int (iI (Int.tmod v2 v3))), (0, .int (iI za)), (1, .int (iI zb)), (2, .int (iI v2)), (3, .int (iI v3)), (4, .int (iI v4))]) hx hb dX0_commonDivisor_21 hl (by decide) rfl (fun ls hl => ?_)
          refine lv_iload_n hx hb dX0_commonDivisor_23 rfl (lv_at hl 4 rfl) ?_
          refine lv_istore_n (lv' := [(2, .int (iI v3)), (5, .int (iI (Int.tmod v2 v3))), (0, .int (iI za)), (1, .int (iI zb)), (3, .int (iI v3)), (4, .int (iI v4))]) hx hb dX0_commonDivisor_24 rfl hl (by decide) rfl (fun ls hl => ?_)
          refine lv_iload hx hb dX0_commonDivisor_25 (lv_at hl 1 rfl) ?_
          refine lv_istore_n (lv' := [(3, .int (iI (Int.tmod v2 v3))), (2, .int (iI v3)), (5, .int (iI (Int.tmod v2 v3))), (0, .int (iI za)), (1, .int (iI zb)), (4, .int (iI v4))]) hx hb dX0_commonDivisor_27 rfl hl (by decide) rfl (fun ls hl => ?_)
          refine zz_iinc (lv' := [(4, .int (iI (v4 + (1 : Int)))), (3, .int (iI (Int.tmod v2 v3))), (2, .int (iI v3)), (5, .int (iI (Int.tmod v2 v3))), (0, .int (iI za)), (1, .int (iI zb))]) hx hb dX0_commonDivisor_28 hl (k := 5) rfl (by decide) rfl (fun ls hl => ?_)
          refine lv_goto (tgt := 7) hx hb dX0_commonDivisor_31 (by decide) ?_
          exact ih7 e9 (d % e9) v3 (Int.tmod v2 v3) (v4 + (1 : Int)) (by omega) (by rw [e2, e3]; exact tmod_nat d e9) (by (have := Nat.mod_lt d (show 0 < e9 by omega)); omega) (by omega) (by rw [← hg, Nat.gcd_comm e9, ← Nat.gcd_rec, Nat.gcd_comm]) (by (have := Nat.mod_lt d (show 0 < e9 by omega)); omega) ls (lv_sub hl [4, 5, 2, 1, 0] rfl)
  exact lp7 _ a b za zb (0 : Int) (by omega) (by omega) (by omega) (by omega) (rfl) (Nat.lt_succ_self _) ls (lv_sub hl [3, 4, 2, 1, 0] rfl)
set_option maxHeartbeats 4000000 in
set_option maxRecDepth 100000 in
theorem c_J6_compare_7cf53 (l : Launch) (dC : Nat → ClassId) (dI : Nat → Nat → Nat) (cI cJ cC cO : ClassId) (x y : Int) (hx0 : -2147483648 ≤ x ∧ x < 2147483648) (hy0 : -2147483648 ≤ y ∧ y < 2147483648) : Met l yJ6_compare_7cf53 wsJ6_compare_7cf53 ({ frames := 0, cells := 0, slots := 0, locals := 0 } : Room) (va_Pc [.int (iI x), .int (iI y)] (ro_B (dC, dI) vwCl (tyG cI cJ cC cO) ([]))) (ro_Q (fun z => (z = -1 ∧ x < y) ∨ (z = 0 ∧ x = y) ∨ (z = 1 ∧ y < x))) 0 0 (fun _ => False) := by
  refine va_MetF (cc := cJ6_compare_7cf53) (maxL := 2) (ret := (some .int)) (by decide +kernel) rfl ?_
  intro p e s m args below meth c s₁ B hml hv
  obtain ⟨hav, hP, hK⟩ := hv
  have hx := B.exec
  have hb := B.bytes
  have hr := B.returns
  have hts := atoms_spec (ws := wsJ6_compare_7cf53) B.pre
  have hown : s.vm.findClass RJ6 = some m.cls := findClass_of_methodNamed B.named
  have hlocks := B.notSynchronized
  have hP : va_P (dC, dI) vwCl [] s.heap := hP
  have hl := lv_entry ([.int (iI x), .int (iI y)]) (n := 2) (Nat.le_of_ble_eq_true rfl)
  have hent : entryFrame m args 2 = F0 m 0 ((lg_sl ([.int (iI x), .int (iI y)]) ++ List.replicate (2 - (lg_sl ([.int (iI x), .int (iI y)])).length) Slot.unset).toArray) [] := by rw [hav]; exact lg_entry_eq ..
  rw [hent]
  generalize (lg_sl ([.int (iI x), .int (iI y)]) ++ List.replicate (2 - (lg_sl ([.int (iI x), .int (iI y)])).length) Slot.unset).toArray = ls at hl ⊢
  have hl : lv_has ls 2 [(0, .int (iI x)), (1, .int (iI y))] := hl
  refine lv_iload_n hx hb dJ6_compare_7cf53_0 rfl (lv_at hl 0 rfl) ?_
  refine lv_iload_n hx hb dJ6_compare_7cf53_1 rfl (lv_at hl 1 rfl) ?_
  refine zz_icmp_ge (tgt := 9) hx hb dJ6_compare_7cf53_2 (by decide) (by omega) (by omega) (fun c_2 => ?_) (fun c_2 => ?_)
  · skip
    refine lv_iload_n hx hb dJ6_compare_7cf53_9 rfl (lv_at hl 0 rfl) ?_
    refine lv_iload_n hx hb dJ6_compare_7cf53_10 rfl (lv_at hl 1 rfl) ?_
    refine zz_icmp_ne (tgt := 18) hx hb dJ6_compare_7cf53_11 (by decide) (by omega) (by omega) (fun c_11 => ?_) (fun c_11 => ?_)
    · skip
      refine zz_iconst hx hb dJ6_compare_7cf53_18 ?_
      exact W.iret (v := iI (1 : Int)) hx hb hr (fun t9 ht9 hW9 => ⟨(1 : Int), rfl, by omega, ht9⟩) (fun q hq => by cases hq) dJ6_compare_7cf53_19
    · skip
      refine zz_iconst hx hb dJ6_compare_7cf53_14 ?_
      refine lv_goto (tgt := 19) hx hb dJ6_compare_7cf53_15 (by decide) ?_
      exact W.iret (v := iI (0 : Int)) hx hb hr (fun t9 ht9 hW9 => ⟨(0 : Int), rfl, by omega, ht9⟩) (fun q hq => by cases hq) dJ6_compare_7cf53_19
  · skip
    refine zz_iconst hx hb dJ6_compare_7cf53_5 ?_
    refine lv_goto (tgt := 19) hx hb dJ6_compare_7cf53_6 (by decide) ?_
    exact W.iret (v := iI (-1 : Int)) hx hb hr (fun t9 ht9 hW9 => ⟨(-1 : Int), rfl, by omega, ht9⟩) (fun q hq => by cases hq) dJ6_compare_7cf53_19
set_option maxHeartbeats 4000000 in
set_option maxRecDepth 100000 in
theorem c_X0_takeIfFirst (l : Launch) (dC : Nat → ClassId) (dI : Nat → Nat → Nat) (cI cJ cC cO : ClassId) (x0 x1 : Nat) (c0 c1 c2 c3 c4 : Int) (hc2 : 0 ≤ c2 ∧ c2 ≤ 1000) (hc3 : 1 ≤ c3 ∧ c3 ≤ 18) (hc4 : 0 ≤ c4 ∧ c4 ≤ 1000) (zx zy : Int) (hzx : 0 ≤ zx ∧ zx ≤ 1000) (hzy : 1 ≤ zy ∧ zy ≤ 18) : Met l yX0_takeIfFirst wsX0_takeIfFirst ({ frames := 1, cells := 0, slots := 0, locals := 21 } : Room) (va_Pc [.ref x0, .int (iI zx), .int (iI zy)] (wr_B (dC, dI) vwCl (tyG cI cJ cC cO) (wCr x0 x1 c0 c1 c2 c3 c4))) (wr_Qv (fun (u : Int × Int × Int) => ((c4 = 0 ∨ zx * c3 < c2 * zy) ∧ u = (zx, zy, (1 : Int))) ∨ (¬ c4 = 0 ∧ zx * c3 = c2 * zy ∧ u = (c2, c3, c4 + 1)) ∨ (¬ c4 = 0 ∧ c2 * zy < zx * c3 ∧ u = (c2, c3, c4))) (fun u t => va_P (dC, dI) vwCl (wCr x0 x1 c0 c1 u.1 u.2.1 u.2.2) t.heap) (wr_A (wCr x0 x1 c0 c1 c2 c3 c4))) 0 0 (wr_A (wCr x0 x1 c0 c1 c2 c3 c4)) := by
  refine Met.ofW (cc := cX0_takeIfFirst) (maxL := 4) (ret := none) (by decide) rfl ?_
  intro p e s m args below meth c s₁ B hml hv
  obtain ⟨hav, hP, hK, hD0⟩ := hv
  have hx := B.exec
  have hb := B.bytes
  have hr := B.returns
  have hts := atoms_spec (ws := wsX0_takeIfFirst) B.pre
  have hown : s.vm.findClass RX0 = some m.cls := findClass_of_methodNamed B.named
  have hlocks := B.notSynchronized
  have hf45 := hts (.fieldLink RX0 45 "RingRods$Crossings" "firstUpper" "I") (by decide +kernel)
  have hf48 := hts (.fieldLink RX0 48 "RingRods$Crossings" "firstLower" "I") (by decide +kernel)
  have hf51 := hts (.fieldLink RX0 51 "RingRods$Crossings" "firstMany" "I") (by decide +kernel)
  have hw0 : ∀ w ∈ u_ws RX0 TX0 6, w ∈ wsX0_takeIfFirst := by decide +kernel
  have hD := va_D.slf hD0
  have hS : va_S (wr_A (wCr x0 x1 c0 c1 c2 c3 c4)) s.heap s.heap [] := va_S.rf
  show W p l e ({ frames := 1, cells := 0, slots := 0, locals := 21 } : Room) s m args below meth c s.heap [] 0 0 (MQ below (wr_Qv (fun (u : Int × Int × Int) => ((c4 = 0 ∨ zx * c3 < c2 * zy) ∧ u = (zx, zy, (1 : Int))) ∨ (¬ c4 = 0 ∧ zx * c3 = c2 * zy ∧ u = (c2, c3, c4 + 1)) ∨ (¬ c4 = 0 ∧ c2 * zy < zx * c3 ∧ u = (c2, c3, c4))) (fun u t => va_P (dC, dI) vwCl (wCr x0 x1 c0 c1 u.1 u.2.1 u.2.2) t.heap) (wr_A (wCr x0 x1 c0 c1 c2 c3 c4))) args s 0 0 (wr_A (wCr x0 x1 c0 c1 c2 c3 c4))) (entryFrame m args 4)
  generalize hAe : wr_A (wCr x0 x1 c0 c1 c2 c3 c4) = A at hD hS ⊢
  have hP : va_P (dC, dI) vwCl [(x0, .inr (0, [.int (iI c0), .int (iI c1), .int (iI c2), .int (iI c3), .int (iI c4), .ref x1]))] s.heap := hP
  have hD : va_D A [(x0, .inr (0, [.int (iI c0), .int (iI c1), .int (iI c2), .int (iI c3), .int (iI c4), .ref x1]))] := hD
  have hl := lv_entry ([.ref x0, .int (iI zx), .int (iI zy)]) (n := 4) (Nat.le_of_ble_eq_true rfl)
  have hent : entryFrame m args 4 = F0 m 0 ((lg_sl ([.ref x0, .int (iI zx), .int (iI zy)]) ++ List.replicate (4 - (lg_sl ([.ref x0, .int (iI zx), .int (iI zy)])).length) Slot.unset).toArray) [] := by rw [hav]; exact lg_entry_eq ..
  rw [hent]
  generalize (lg_sl ([.ref x0, .int (iI zx), .int (iI zy)]) ++ List.replicate (4 - (lg_sl ([.ref x0, .int (iI zx), .int (iI zy)])).length) Slot.unset).toArray = ls at hl ⊢
  have hl : lv_has ls 4 [(0, .ref x0), (1, .int (iI zx)), (2, .int (iI zy))] := hl
  have b1 := mul_b2 (a := zx) (b := c3) (by omega) (by omega)
  have b2 := mul_b2 (a := c2) (b := zy) (by omega) (by omega)
  refine lv_iload_n hx hb dX0_takeIfFirst_0 rfl (lv_at hl 1 rfl) ?_
  refine lv_aload_n hx hb dX0_takeIfFirst_1 rfl (lv_at hl 0 rfl) ?_
  refine va_get (D := (dC, dI)) (ci := 0) (v := .int (iI c3)) (C := RX0) (T := TX0) (N := 6) hx hb hts hw0 hown hK hP 0 rfl rfl 3 (by decide) hf48 (fun _ h9 => h9) rfl dX0_takeIfFirst_2 ?_
  refine zz_imul hx hb dX0_takeIfFirst_5 ?_
  refine lv_aload_n hx hb dX0_takeIfFirst_6 rfl (lv_at hl 0 rfl) ?_
  refine va_get (D := (dC, dI)) (ci := 0) (v := .int (iI c2)) (C := RX0) (T := TX0) (N := 6) hx hb hts hw0 hown hK hP 0 rfl rfl 2 (by decide) hf45 (fun _ h9 => h9) rfl dX0_takeIfFirst_7 ?_
  refine lv_iload_n hx hb dX0_takeIfFirst_10 rfl (lv_at hl 2 rfl) ?_
  refine zz_imul hx hb dX0_takeIfFirst_11 ?_
  refine ro_S (As := [.int (iI (zx * c3)), .int (iI (c2 * zy))]) (rest := []) ⟨hx, hb, hml, hown, hts⟩ (c_J6_compare_7cf53 l dC dI cI cJ cC cO (zx * c3) (c2 * zy) (by omega) (by omega)) (va_cwS 2 hts gX0_takeIfFirst_J6_compare_7cf53 rfl rfl rfl (by decide +kernel) ⟨Nat.le_of_ble_eq_true rfl, Nat.le_of_ble_eq_true rfl⟩) hK hP [] rfl rfl hl.1 rfl (Nat.le_of_ble_eq_true rfl) dX0_takeIfFirst_12 ⟨Nat.zero_le _, Nat.zero_le _⟩ (fun z_12 hz_12 => ?_)
  refine lv_istore_n (lv' := [(3, .int (iI z_12)), (0, .ref x0), (1, .int (iI zx)), (2, .int (iI zy))]) hx hb dX0_takeIfFirst_15 rfl hl (by decide) rfl (fun ls hl => ?_)
  refine lv_aload_n hx hb dX0_takeIfFirst_16 rfl (lv_at hl 1 rfl) ?_
  refine va_get (D := (dC, dI)) (ci := 0) (v := .int (iI c4)) (C := RX0) (T := TX0) (N := 6) hx hb hts hw0 hown hK hP 0 rfl rfl 4 (by decide) hf51 (fun _ h9 => h9) rfl dX0_takeIfFirst_17 ?_
  refine zz_if_eq (tgt := 27) hx hb dX0_takeIfFirst_20 (by decide) (by omega) (fun c_20 => ?_) (fun c_20 => ?_)
  · skip
    refine lv_aload_n hx hb dX0_takeIfFirst_27 rfl (lv_at hl 1 rfl) ?_
    refine lv_iload_n hx hb dX0_takeIfFirst_28 rfl (lv_at hl 2 rfl) ?_
    refine va_put (D := (dC, dI)) (ci := 0) (v := .int (iI zx)) (ty := .int) (C := RX0) (T := TX0) (N := 6) hx hb hts hw0 tyX0 tyX0_ok nmX0 hown hK hP hD hS 0 rfl rfl 2 (by decide) hf45 (fun _ h9 => h9) rfl (by decide +kernel) rfl rfl (Nat.le_of_ble_eq_true rfl) dX0_takeIfFirst_29 (fun H locs hP hD hS => ?_)
    have hP : va_P (dC, dI) vwCl [(x0, .inr (0, [.int (iI c0), .int (iI c1), .int (iI zx), .int (iI c3), .int (iI c4), .ref x1]))] H := hP
    have hD : va_D A [(x0, .inr (0, [.int (iI c0), .int (iI c1), .int (iI zx), .int (iI c3), .int (iI c4), .ref x1]))] := hD
    refine lv_aload_n hx hb dX0_takeIfFirst_32 rfl (lv_at hl 1 rfl) ?_
    refine lv_iload_n hx hb dX0_takeIfFirst_33 rfl (lv_at hl 3 rfl) ?_
    refine va_put (D := (dC, dI)) (ci := 0) (v := .int (iI zy)) (ty := .int) (C := RX0) (T := TX0) (N := 6) hx hb hts hw0 tyX0 tyX0_ok nmX0 hown hK hP hD hS 0 rfl rfl 3 (by decide) hf48 (fun _ h9 => h9) rfl (by decide +kernel) rfl rfl (Nat.le_of_ble_eq_true rfl) dX0_takeIfFirst_34 (fun H locs hP hD hS => ?_)
    have hP : va_P (dC, dI) vwCl [(x0, .inr (0, [.int (iI c0), .int (iI c1), .int (iI zx), .int (iI zy), .int (iI c4), .ref x1]))] H := hP
    have hD : va_D A [(x0, .inr (0, [.int (iI c0), .int (iI c1), .int (iI zx), .int (iI zy), .int (iI c4), .ref x1]))] := hD
    refine lv_aload_n hx hb dX0_takeIfFirst_37 rfl (lv_at hl 1 rfl) ?_
    refine zz_iconst hx hb dX0_takeIfFirst_38 ?_
    refine va_put (D := (dC, dI)) (ci := 0) (v := .int (iI (1 : Int))) (ty := .int) (C := RX0) (T := TX0) (N := 6) hx hb hts hw0 tyX0 tyX0_ok nmX0 hown hK hP hD hS 0 rfl rfl 4 (by decide) hf51 (fun _ h9 => h9) rfl (by decide +kernel) rfl rfl (Nat.le_of_ble_eq_true rfl) dX0_takeIfFirst_39 (fun H locs hP hD hS => ?_)
    have hP : va_P (dC, dI) vwCl [(x0, .inr (0, [.int (iI c0), .int (iI c1), .int (iI zx), .int (iI zy), .int (iI (1 : Int)), .ref x1]))] H := hP
    have hD : va_D A [(x0, .inr (0, [.int (iI c0), .int (iI c1), .int (iI zx), .int (iI zy), .int (iI (1 : Int)), .ref x1]))] := hD
    refine lv_goto (tgt := 59) hx hb dX0_takeIfFirst_42 (by decide) ?_
    exact W.vret hx hb hr (fun t9 ht9 hW9 => ⟨⟨(zx, zy, (1 : Int)), rfl, Or.inl ⟨by omega, rfl⟩, by show va_P _ _ _ t9.heap; rw [ht9]; exact hP⟩, hS.F ht9⟩) hS.2.2 dX0_takeIfFirst_59
  · skip
    refine lv_iload_n hx hb dX0_takeIfFirst_23 rfl (lv_at hl 0 rfl) ?_
    refine zz_if_ge (tgt := 45) hx hb dX0_takeIfFirst_24 (by decide) (by omega) (fun c_24 => ?_) (fun c_24 => ?_)
    · skip
      refine lv_iload_n hx hb dX0_takeIfFirst_45 rfl (lv_at hl 0 rfl) ?_
      refine zz_if_ne (tgt := 59) hx hb dX0_takeIfFirst_46 (by decide) (by omega) (fun c_46 => ?_) (fun c_46 => ?_)
      · skip
        exact W.vret hx hb hr (fun t9 ht9 hW9 => ⟨⟨(c2, c3, c4), rfl, Or.inr (Or.inr ⟨by omega, by omega, rfl⟩), by show va_P _ _ _ t9.heap; rw [ht9]; exact hP⟩, hS.F ht9⟩) hS.2.2 dX0_takeIfFirst_59
      · skip
        refine lv_aload_n hx hb dX0_takeIfFirst_49 rfl (lv_at hl 1 rfl) ?_
        refine lv_dup hx hb dX0_takeIfFirst_50 rfl ?_
        refine va_get (D := (dC, dI)) (ci := 0) (v := .int (iI c4)) (C := RX0) (T := TX0) (N := 6) hx hb hts hw0 hown hK hP 0 rfl rfl 4 (by decide) hf51 (fun _ h9 => h9) rfl dX0_takeIfFirst_51 ?_
        refine zz_iconst hx hb dX0_takeIfFirst_54 ?_
        refine zz_iadd hx hb dX0_takeIfFirst_55 ?_
        refine va_put (D := (dC, dI)) (ci := 0) (v := .int (iI (c4 + (1 : Int)))) (ty := .int) (C := RX0) (T := TX0) (N := 6) hx hb hts hw0 tyX0 tyX0_ok nmX0 hown hK hP hD hS 0 rfl rfl 4 (by decide) hf51 (fun _ h9 => h9) rfl (by decide +kernel) rfl rfl (Nat.le_of_ble_eq_true rfl) dX0_takeIfFirst_56 (fun H locs hP hD hS => ?_)
        have hP : va_P (dC, dI) vwCl [(x0, .inr (0, [.int (iI c0), .int (iI c1), .int (iI c2), .int (iI c3), .int (iI (c4 + (1 : Int))), .ref x1]))] H := hP
        have hD : va_D A [(x0, .inr (0, [.int (iI c0), .int (iI c1), .int (iI c2), .int (iI c3), .int (iI (c4 + (1 : Int))), .ref x1]))] := hD
        exact W.vret hx hb hr (fun t9 ht9 hW9 => ⟨⟨(c2, c3, (c4 + (1 : Int))), rfl, Or.inr (Or.inl ⟨by omega, by omega, rfl⟩), by show va_P _ _ _ t9.heap; rw [ht9]; exact hP⟩, hS.F ht9⟩) hS.2.2 dX0_takeIfFirst_59
    · skip
      refine lv_aload_n hx hb dX0_takeIfFirst_27 rfl (lv_at hl 1 rfl) ?_
      refine lv_iload_n hx hb dX0_takeIfFirst_28 rfl (lv_at hl 2 rfl) ?_
      refine va_put (D := (dC, dI)) (ci := 0) (v := .int (iI zx)) (ty := .int) (C := RX0) (T := TX0) (N := 6) hx hb hts hw0 tyX0 tyX0_ok nmX0 hown hK hP hD hS 0 rfl rfl 2 (by decide) hf45 (fun _ h9 => h9) rfl (by decide +kernel) rfl rfl (Nat.le_of_ble_eq_true rfl) dX0_takeIfFirst_29 (fun H locs hP hD hS => ?_)
      have hP : va_P (dC, dI) vwCl [(x0, .inr (0, [.int (iI c0), .int (iI c1), .int (iI zx), .int (iI c3), .int (iI c4), .ref x1]))] H := hP
      have hD : va_D A [(x0, .inr (0, [.int (iI c0), .int (iI c1), .int (iI zx), .int (iI c3), .int (iI c4), .ref x1]))] := hD
      refine lv_aload_n hx hb dX0_takeIfFirst_32 rfl (lv_at hl 1 rfl) ?_
      refine lv_iload_n hx hb dX0_takeIfFirst_33 rfl (lv_at hl 3 rfl) ?_
      refine va_put (D := (dC, dI)) (ci := 0) (v := .int (iI zy)) (ty := .int) (C := RX0) (T := TX0) (N := 6) hx hb hts hw0 tyX0 tyX0_ok nmX0 hown hK hP hD hS 0 rfl rfl 3 (by decide) hf48 (fun _ h9 => h9) rfl (by decide +kernel) rfl rfl (Nat.le_of_ble_eq_true rfl) dX0_takeIfFirst_34 (fun H locs hP hD hS => ?_)
      have hP : va_P (dC, dI) vwCl [(x0, .inr (0, [.int (iI c0), .int (iI c1), .int (iI zx), .int (iI zy), .int (iI c4), .ref x1]))] H := hP
      have hD : va_D A [(x0, .inr (0, [.int (iI c0), .int (iI c1), .int (iI zx), .int (iI zy), .int (iI c4), .ref x1]))] := hD
      refine lv_aload_n hx hb dX0_takeIfFirst_37 rfl (lv_at hl 1 rfl) ?_
      refine zz_iconst hx hb dX0_takeIfFirst_38 ?_
      refine va_put (D := (dC, dI)) (ci := 0) (v := .int (iI (1 : Int))) (ty := .int) (C := RX0) (T := TX0) (N := 6) hx hb hts hw0 tyX0 tyX0_ok nmX0 hown hK hP hD hS 0 rfl rfl 4 (by decide) hf51 (fun _ h9 => h9) rfl (by decide +kernel) rfl rfl (Nat.le_of_ble_eq_true rfl) dX0_takeIfFirst_39 (fun H locs hP hD hS => ?_)
      have hP : va_P (dC, dI) vwCl [(x0, .inr (0, [.int (iI c0), .int (iI c1), .int (iI zx), .int (iI zy), .int (iI (1 : Int)), .ref x1]))] H := hP
      have hD : va_D A [(x0, .inr (0, [.int (iI c0), .int (iI c1), .int (iI zx), .int (iI zy), .int (iI (1 : Int)), .ref x1]))] := hD
      refine lv_goto (tgt := 59) hx hb dX0_takeIfFirst_42 (by decide) ?_
      exact W.vret hx hb hr (fun t9 ht9 hW9 => ⟨⟨(zx, zy, (1 : Int)), rfl, Or.inl ⟨by omega, rfl⟩, by show va_P _ _ _ t9.heap; rw [ht9]; exact hP⟩, hS.F ht9⟩) hS.2.2 dX0_takeIfFirst_59
set_option maxHeartbeats 4000000 in
set_option maxRecDepth 100000 in
theorem c_X0_findFirst (l : Launch) (dC : Nat → ClassId) (dI : Nat → Nat → Nat) (cI cJ cC cO : ClassId) (x0 x1 : Nat) (c0 c1 c2 c3 c4 : Int) (h a1 a2 a3 a4 : Nat) (r : Nat → Nat → Int) (n : Nat) (hok : Ok r n) (hnn : ∀ a b, a < n → b < n → 0 ≤ fbC r n a b) : Met l yX0_findFirst wsX0_findFirst ({ frames := 2, cells := 0, slots := 0, locals := 48 } : Room) (va_Pc [.ref x0, .ref h] (wr_B (dC, dI) vwCl (tyG cI cJ cC cO) (wCr x0 x1 c0 c1 c2 c3 c4 ++ wSt cI h a1 a2 a3 a4 r))) (wr_Qv (fun (u : Int × Int × Int) => NxtC r n u.1 u.2.1 u.2.2) (fun u t => va_P (dC, dI) vwCl (wCr x0 x1 c0 c1 u.1 u.2.1 u.2.2 ++ wSt cI h a1 a2 a3 a4 r) t.heap) (wr_A (wCr x0 x1 c0 c1 c2 c3 c4 ++ wSt cI h a1 a2 a3 a4 r))) 0 0 (wr_A (wCr x0 x1 c0 c1 c2 c3 c4 ++ wSt cI h a1 a2 a3 a4 r)) := by
  refine Met.ofW (cc := cX0_findFirst) (maxL := 5) (ret := none) (by decide) rfl ?_
  intro p e s m args below meth c s₁ B hml hv
  obtain ⟨hav, hP, hK, hD0⟩ := hv
  have hx := B.exec
  have hb := B.bytes
  have hr := B.returns
  have hts := atoms_spec (ws := wsX0_findFirst) B.pre
  have hown : s.vm.findClass RX0 = some m.cls := findClass_of_methodNamed B.named
  have hlocks := B.notSynchronized
  have hf22 := hts (.fieldLink RX0 22 "RingRods$State" "rods" "I") (by decide +kernel)
  have hf31 := hts (.fieldLink RX0 31 "RingRods$State" "speed" "[I") (by decide +kernel)
  have hf45 := hts (.fieldLink RX0 45 "RingRods$Crossings" "firstUpper" "I") (by decide +kernel)
  have hf48 := hts (.fieldLink RX0 48 "RingRods$Crossings" "firstLower" "I") (by decide +kernel)
  have hf51 := hts (.fieldLink RX0 51 "RingRods$Crossings" "firstMany" "I") (by decide +kernel)
  have hw0 : ∀ w ∈ u_ws RX0 TX0 6, w ∈ wsX0_findFirst := by decide +kernel
  have hw3 : ∀ w ∈ u_ws RX3 TX3 9, w ∈ wsX0_findFirst := by decide +kernel
  have hD := va_D.slf hD0
  have hS : va_S (wr_A (wCr x0 x1 c0 c1 c2 c3 c4 ++ wSt cI h a1 a2 a3 a4 r)) s.heap s.heap [] := va_S.rf
  show W p l e ({ frames := 2, cells := 0, slots := 0, locals := 48 } : Room) s m args below meth c s.heap [] 0 0 (MQ below (wr_Qv (fun (u : Int × Int × Int) => NxtC r n u.1 u.2.1 u.2.2) (fun u t => va_P (dC, dI) vwCl (wCr x0 x1 c0 c1 u.1 u.2.1 u.2.2 ++ wSt cI h a1 a2 a3 a4 r) t.heap) (wr_A (wCr x0 x1 c0 c1 c2 c3 c4 ++ wSt cI h a1 a2 a3 a4 r))) args s 0 0 (wr_A (wCr x0 x1 c0 c1 c2 c3 c4 ++ wSt cI h a1 a2 a3 a4 r))) (entryFrame m args 5)
  generalize hAe : wr_A (wCr x0 x1 c0 c1 c2 c3 c4 ++ wSt cI h a1 a2 a3 a4 r) = A at hD hS ⊢
  have hP : va_P (dC, dI) vwCl [(x0, .inr (0, [.int (iI c0), .int (iI c1), .int (iI c2), .int (iI c3), .int (iI c4), .ref x1])), (h, .inr (3, [.int (iI (r 0 0)), .int (iI (r 0 1)), .int (iI (r 0 2)), .int (iI (r 0 3)), .int (iI (r 0 4)), .ref a1, .ref a2, .ref a3, .ref a4])), (a1, .inl (cI, 8, .inl (fun k => iI ((r 1) k)))), (a2, .inl (cI, 8, .inl (fun k => iI ((r 2) k)))), (a3, .inl (cI, 8, .inl (fun k => iI ((r 3) k)))), (a4, .inl (cI, 8, .inl (fun k => iI ((r 4) k))))] s.heap := hP
  have hD : va_D A [(x0, .inr (0, [.int (iI c0), .int (iI c1), .int (iI c2), .int (iI c3), .int (iI c4), .ref x1])), (h, .inr (3, [.int (iI (r 0 0)), .int (iI (r 0 1)), .int (iI (r 0 2)), .int (iI (r 0 3)), .int (iI (r 0 4)), .ref a1, .ref a2, .ref a3, .ref a4])), (a1, .inl (cI, 8, .inl (fun k => iI ((r 1) k)))), (a2, .inl (cI, 8, .inl (fun k => iI ((r 2) k)))), (a3, .inl (cI, 8, .inl (fun k => iI ((r 3) k)))), (a4, .inl (cI, 8, .inl (fun k => iI ((r 4) k))))] := hD
  have hl := lv_entry ([.ref x0, .ref h]) (n := 5) (Nat.le_of_ble_eq_true rfl)
  have hent : entryFrame m args 5 = F0 m 0 ((lg_sl ([.ref x0, .ref h]) ++ List.replicate (5 - (lg_sl ([.ref x0, .ref h])).length) Slot.unset).toArray) [] := by rw [hav]; exact lg_entry_eq ..
  rw [hent]
  generalize (lg_sl ([.ref x0, .ref h]) ++ List.replicate (5 - (lg_sl ([.ref x0, .ref h])).length) Slot.unset).toArray = ls at hl ⊢
  have hl : lv_has ls 5 [(0, .ref x0), (1, .ref h)] := hl
  have bd0 := hok.bd
  have bd1 := hok.fr
  refine lv_aload_n hx hb dX0_findFirst_0 rfl (lv_at hl 0 rfl) ?_
  refine zz_iconst hx hb dX0_findFirst_1 ?_
  refine va_put (D := (dC, dI)) (ci := 0) (v := .int (iI (0 : Int))) (ty := .int) (C := RX0) (T := TX0) (N := 6) hx hb hts hw0 tyX0 tyX0_ok nmX0 hown hK hP hD hS 0 rfl rfl 2 (by decide) hf45 (fun _ h9 => h9) rfl (by decide +kernel) rfl rfl (Nat.le_of_ble_eq_true rfl) dX0_findFirst_2 (fun H locs hP hD hS => ?_)
  have hP : va_P (dC, dI) vwCl [(x0, .inr (0, [.int (iI c0), .int (iI c1), .int (iI (0 : Int)), .int (iI c3), .int (iI c4), .ref x1])), (h, .inr (3, [.int (iI (r 0 0)), .int (iI (r 0 1)), .int (iI (r 0 2)), .int (iI (r 0 3)), .int (iI (r 0 4)), .ref a1, .ref a2, .ref a3, .ref a4])), (a1, .inl (cI, 8, .inl (fun k => iI ((r 1) k)))), (a2, .inl (cI, 8, .inl (fun k => iI ((r 2) k)))), (a3, .inl (cI, 8, .inl (fun k => iI ((r 3) k)))), (a4, .inl (cI, 8, .inl (fun k => iI ((r 4) k))))] H := hP
  have hD : va_D A [(x0, .inr (0, [.int (iI c0), .int (iI c1), .int (iI (0 : Int)), .int (iI c3), .int (iI c4), .ref x1])), (h, .inr (3, [.int (iI (r 0 0)), .int (iI (r 0 1)), .int (iI (r 0 2)), .int (iI (r 0 3)), .int (iI (r 0 4)), .ref a1, .ref a2, .ref a3, .ref a4])), (a1, .inl (cI, 8, .inl (fun k => iI ((r 1) k)))), (a2, .inl (cI, 8, .inl (fun k => iI ((r 2) k)))), (a3, .inl (cI, 8, .inl (fun k => iI ((r 3) k)))), (a4, .inl (cI, 8, .inl (fun k => iI ((r 4) k))))] := hD
  refine lv_aload_n hx hb dX0_findFirst_5 rfl (lv_at hl 0 rfl) ?_
  refine zz_iconst hx hb dX0_findFirst_6 ?_
  refine va_put (D := (dC, dI)) (ci := 0) (v := .int (iI (1 : Int))) (ty := .int) (C := RX0) (T := TX0) (N := 6) hx hb hts hw0 tyX0 tyX0_ok nmX0 hown hK hP hD hS 0 rfl rfl 3 (by decide) hf48 (fun _ h9 => h9) rfl (by decide +kernel) rfl rfl (Nat.le_of_ble_eq_true rfl) dX0_findFirst_7 (fun H locs hP hD hS => ?_)
  have hP : va_P (dC, dI) vwCl [(x0, .inr (0, [.int (iI c0), .int (iI c1), .int (iI (0 : Int)), .int (iI (1 : Int)), .int (iI c4), .ref x1])), (h, .inr (3, [.int (iI (r 0 0)), .int (iI (r 0 1)), .int (iI (r 0 2)), .int (iI (r 0 3)), .int (iI (r 0 4)), .ref a1, .ref a2, .ref a3, .ref a4])), (a1, .inl (cI, 8, .inl (fun k => iI ((r 1) k)))), (a2, .inl (cI, 8, .inl (fun k => iI ((r 2) k)))), (a3, .inl (cI, 8, .inl (fun k => iI ((r 3) k)))), (a4, .inl (cI, 8, .inl (fun k => iI ((r 4) k))))] H := hP
  have hD : va_D A [(x0, .inr (0, [.int (iI c0), .int (iI c1), .int (iI (0 : Int)), .int (iI (1 : Int)), .int (iI c4), .ref x1])), (h, .inr (3, [.int (iI (r 0 0)), .int (iI (r 0 1)), .int (iI (r 0 2)), .int (iI (r 0 3)), .int (iI (r 0 4)), .ref a1, .ref a2, .ref a3, .ref a4])), (a1, .inl (cI, 8, .inl (fun k => iI ((r 1) k)))), (a2, .inl (cI, 8, .inl (fun k => iI ((r 2) k)))), (a3, .inl (cI, 8, .inl (fun k => iI ((r 3) k)))), (a4, .inl (cI, 8, .inl (fun k => iI ((r 4) k))))] := hD
  refine lv_aload_n hx hb dX0_findFirst_10 rfl (lv_at hl 0 rfl) ?_
  refine zz_iconst hx hb dX0_findFirst_11 ?_
  refine va_put (D := (dC, dI)) (ci := 0) (v := .int (iI (0 : Int))) (ty := .int) (C := RX0) (T := TX0) (N := 6) hx hb hts hw0 tyX0 tyX0_ok nmX0 hown hK hP hD hS 0 rfl rfl 4 (by decide) hf51 (fun _ h9 => h9) rfl (by decide +kernel) rfl rfl (Nat.le_of_ble_eq_true rfl) dX0_findFirst_12 (fun H locs hP hD hS => ?_)
  have hP : va_P (dC, dI) vwCl [(x0, .inr (0, [.int (iI c0), .int (iI c1), .int (iI (0 : Int)), .int (iI (1 : Int)), .int (iI (0 : Int)), .ref x1])), (h, .inr (3, [.int (iI (r 0 0)), .int (iI (r 0 1)), .int (iI (r 0 2)), .int (iI (r 0 3)), .int (iI (r 0 4)), .ref a1, .ref a2, .ref a3, .ref a4])), (a1, .inl (cI, 8, .inl (fun k => iI ((r 1) k)))), (a2, .inl (cI, 8, .inl (fun k => iI ((r 2) k)))), (a3, .inl (cI, 8, .inl (fun k => iI ((r 3) k)))), (a4, .inl (cI, 8, .inl (fun k => iI ((r 4) k))))] H := hP
  have hD : va_D A [(x0, .inr (0, [.int (iI c0), .int (iI c1), .int (iI (0 : Int)), .int (iI (1 : Int)), .int (iI (0 : Int)), .ref x1])), (h, .inr (3, [.int (iI (r 0 0)), .int (iI (r 0 1)), .int (iI (r 0 2)), .int (iI (r 0 3)), .int (iI (r 0 4)), .ref a1, .ref a2, .ref a3, .ref a4])), (a1, .inl (cI, 8, .inl (fun k => iI ((r 1) k)))), (a2, .inl (cI, 8, .inl (fun k => iI ((r 2) k)))), (a3, .inl (cI, 8, .inl (fun k => iI ((r 3) k)))), (a4, .inl (cI, 8, .inl (fun k => iI ((r 4) k))))] := hD
  refine zz_iconst hx hb dX0_findFirst_15 ?_
  refine lv_istore_n (lv' := [(2, .int (iI (0 : Int))), (0, .ref x0), (1, .ref h)]) hx hb dX0_findFirst_16 rfl hl (by decide) rfl (fun ls hl => ?_)
  have lp17 : ∀ (d17 : Nat), ∀ (i : Nat) (gu : Int) (gl : Int) (gm : Int) (v2 : Int) (hi : i ≤ n) (e2 : v2 = (i : Int)) (hF : FstI r n i 0 gu gl gm), n - i < d17 → ∀ (H : Heap) (locs : List Loc), va_P (dC, dI) vwCl [(x0, .inr (0, [.int (iI c0), .int (iI c1), .int (iI gu), .int (iI gl), .int (iI gm), .ref x1])), (h, .inr (3, [.int (iI (r 0 0)), .int (iI (r 0 1)), .int (iI (r 0 2)), .int (iI (r 0 3)), .int (iI (r 0 4)), .ref a1, .ref a2, .ref a3, .ref a4])), (a1, .inl (cI, 8, .inl (fun k => iI ((r 1) k)))), (a2, .inl (cI, 8, .inl (fun k => iI ((r 2) k)))), (a3, .inl (cI, 8, .inl (fun k => iI ((r 3) k)))), (a4, .inl (cI, 8, .inl (fun k => iI ((r 4) k))))] H → va_D A [(x0, .inr (0, [.int (iI c0), .int (iI c1), .int (iI gu), .int (iI gl), .int (iI gm), .ref x1])), (h, .inr (3, [.int (iI (r 0 0)), .int (iI (r 0 1)), .int (iI (r 0 2)), .int (iI (r 0 3)), .int (iI (r 0 4)), .ref a1, .ref a2, .ref a3, .ref a4])), (a1, .inl (cI, 8, .inl (fun k => iI ((r 1) k)))), (a2, .inl (cI, 8, .inl (fun k => iI ((r 2) k)))), (a3, .inl (cI, 8, .inl (fun k => iI ((r 3) k)))), (a4, .inl (cI, 8, .inl (fun k => iI ((r 4) k))))] → va_S A s.heap H locs → ∀ ls : Array Slot, lv_has ls 5 [(0, .ref x0), (1, .ref h), (2, .int (iI v2))] → W p l e ({ frames := 2, cells := 0, slots := 0, locals := 48 } : Room) s m args below meth c H locs 0 0 (MQ below (wr_Qv (fun (u : Int × Int × Int) => NxtC r n u.1 u.2.1 u.2.2) (fun u t => va_P (dC, dI) vwCl (wCr x0 x1 c0 c1 u.1 u.2.1 u.2.2 ++ wSt cI h a1 a2 a3 a4 r) t.heap) A) args s 0 0 A) (F0 m 17 ls []) := by
    intro d17
    induction d17 with
    | zero =>
      intro i gu gl gm v2 hi e2 hF hd17
      exact absurd hd17 (Nat.not_lt_zero _)
    | succ d17 ih17 =>
      intro i gu gl gm v2 hi e2 hF hd17 H locs hP hD hS ls hl
      refine lv_iload_n hx hb dX0_findFirst_17 rfl (lv_at hl 2 rfl) ?_
      refine lv_aload_n hx hb dX0_findFirst_18 rfl (lv_at hl 1 rfl) ?_
      refine va_get (D := (dC, dI)) (ci := 3) (v := .int (iI (r 0 1))) (C := RX3) (T := TX3) (N := 9) hx hb hts hw3 hown hK hP 1 rfl rfl 1 (by decide) hf22 (fun _ h9 => h9) rfl dX0_findFirst_19 ?_
      refine zz_icmp_ge (tgt := 79) hx hb dX0_findFirst_22 (by decide) (by omega) (by omega) (fun c_22 => ?_) (fun c_22 => ?_)
      · skip
        have hb1 := hF.1
        have hb2 := hF.2.1
        obtain ⟨a9, ea9⟩ : ∃ a9 : Nat, gu = (a9 : Int) := ⟨gu.toNat, by omega⟩
        obtain ⟨b9, eb9⟩ : ∃ b9 : Nat, gl = (b9 : Int) := ⟨gl.toNat, by omega⟩
        have hg9 := Nat.gcd_pos_of_pos_right a9 (show 0 < b9 by omega)
        have hg8 := Nat.gcd_le_right (n := b9) a9 (by omega)
        have h9n : i = n := by omega
        rw [h9n] at hF
        refine lv_aload_n hx hb dX0_findFirst_79 rfl (lv_at hl 0 rfl) ?_
        refine va_get (D := (dC, dI)) (ci := 0) (v := .int (iI gu)) (C := RX0) (T := TX0) (N := 6) hx hb hts hw0 hown hK hP 0 rfl rfl 2 (by decide) hf45 (fun _ h9 => h9) rfl dX0_findFirst_80 ?_
        refine lv_aload_n hx hb dX0_findFirst_83 rfl (lv_at hl 0 rfl) ?_
        refine va_get (D := (dC, dI)) (ci := 0) (v := .int (iI gl)) (C := RX0) (T := TX0) (N := 6) hx hb hts hw0 hown hK hP 0 rfl rfl 3 (by decide) hf48 (fun _ h9 => h9) rfl dX0_findFirst_84 ?_
        refine ro_S (As := [.int (iI gu), .int (iI gl)]) (rest := []) ⟨hx, hb, hml, hown, hts⟩ (c_X0_commonDivisor l dC dI cI cJ cC cO gu a9 (by omega) (by omega) gl b9 (by omega) (by omega)) (cwS 2 hts gX0_findFirst_X0_commonDivisor rfl rfl rfl (by decide +kernel) ⟨Nat.le_of_ble_eq_true rfl, Nat.le_of_ble_eq_true rfl⟩) hK hP [] rfl rfl hl.1 rfl (Nat.le_of_ble_eq_true rfl) dX0_findFirst_87 ⟨Nat.zero_le _, Nat.zero_le _⟩ (fun z_87 hz_87 => ?_)
        subst hz_87
        refine lv_istore_n (lv' := [(2, .int (iI ((Nat.gcd a9 b9 : Nat) : Int))), (0, .ref x0), (1, .ref h)]) hx hb dX0_findFirst_90 rfl hl (by decide) rfl (fun ls hl => ?_)
        refine lv_iload_n hx hb dX0_findFirst_91 rfl (lv_at hl 0 rfl) ?_
        refine zz_if_le (tgt := 115) hx hb dX0_findFirst_92 (by decide) (by omega) (fun c_92 => ?_) (fun c_92 => ?_)
        · skip
          exfalso; omega
        · skip
          refine lv_aload_n hx hb dX0_findFirst_95 rfl (lv_at hl 1 rfl) ?_
          refine lv_dup hx hb dX0_findFirst_96 rfl ?_
          refine va_get (D := (dC, dI)) (ci := 0) (v := .int (iI gu)) (C := RX0) (T := TX0) (N := 6) hx hb hts hw0 hown hK hP 0 rfl rfl 2 (by decide) hf45 (fun _ h9 => h9) rfl dX0_findFirst_97 ?_
          refine lv_iload_n hx hb dX0_findFirst_100 rfl (lv_at hl 0 rfl) ?_
          refine zz_idiv hx hb dX0_findFirst_101 (by omega) (by omega) (by omega) ?_
          refine va_put (D := (dC, dI)) (ci := 0) (v := .int (iI (Int.tdiv gu ((Nat.gcd a9 b9 : Nat) : Int)))) (ty := .int) (C := RX0) (T := TX0) (N := 6) hx hb hts hw0 tyX0 tyX0_ok nmX0 hown hK hP hD hS 0 rfl rfl 2 (by decide) hf45 (fun _ h9 => h9) rfl (by decide +kernel) rfl rfl (Nat.le_of_ble_eq_true rfl) dX0_findFirst_102 (fun H locs hP hD hS => ?_)
          have hP : va_P (dC, dI) vwCl [(x0, .inr (0, [.int (iI c0), .int (iI c1), .int (iI (Int.tdiv gu ((Nat.gcd a9 b9 : Nat) : Int))), .int (iI gl), .int (iI gm), .ref x1])), (h, .inr (3, [.int (iI (r 0 0)), .int (iI (r 0 1)), .int (iI (r 0 2)), .int (iI (r 0 3)), .int (iI (r 0 4)), .ref a1, .ref a2, .ref a3, .ref a4])), (a1, .inl (cI, 8, .inl (fun k => iI ((r 1) k)))), (a2, .inl (cI, 8, .inl (fun k => iI ((r 2) k)))), (a3, .inl (cI, 8, .inl (fun k => iI ((r 3) k)))), (a4, .inl (cI, 8, .inl (fun k => iI ((r 4) k))))] H := hP
          have hD : va_D A [(x0, .inr (0, [.int (iI c0), .int (iI c1), .int (iI (Int.tdiv gu ((Nat.gcd a9 b9 : Nat) : Int))), .int (iI gl), .int (iI gm), .ref x1])), (h, .inr (3, [.int (iI (r 0 0)), .int (iI (r 0 1)), .int (iI (r 0 2)), .int (iI (r 0 3)), .int (iI (r 0 4)), .ref a1, .ref a2, .ref a3, .ref a4])), (a1, .inl (cI, 8, .inl (fun k => iI ((r 1) k)))), (a2, .inl (cI, 8, .inl (fun k => iI ((r 2) k)))), (a3, .inl (cI, 8, .inl (fun k => iI ((r 3) k)))), (a4, .inl (cI, 8, .inl (fun k => iI ((r 4) k))))] := hD
          refine lv_aload_n hx hb dX0_findFirst_105 rfl (lv_at hl 1 rfl) ?_
          refine lv_dup hx hb dX0_findFirst_106 rfl ?_
          refine va_get (D := (dC, dI)) (ci := 0) (v := .int (iI gl)) (C := RX0) (T := TX0) (N := 6) hx hb hts hw0 hown hK hP 0 rfl rfl 3 (by decide) hf48 (fun _ h9 => h9) rfl dX0_findFirst_107 ?_
          refine lv_iload_n hx hb dX0_findFirst_110 rfl (lv_at hl 0 rfl) ?_
          refine zz_idiv hx hb dX0_findFirst_111 (by omega) (by omega) (by omega) ?_
          refine va_put (D := (dC, dI)) (ci := 0) (v := .int (iI (Int.tdiv gl ((Nat.gcd a9 b9 : Nat) : Int)))) (ty := .int) (C := RX0) (T := TX0) (N := 6) hx hb hts hw0 tyX0 tyX0_ok nmX0 hown hK hP hD hS 0 rfl rfl 3 (by decide) hf48 (fun _ h9 => h9) rfl (by decide +kernel) rfl rfl (Nat.le_of_ble_eq_true rfl) dX0_findFirst_112 (fun H locs hP hD hS => ?_)
          have hP : va_P (dC, dI) vwCl [(x0, .inr (0, [.int (iI c0), .int (iI c1), .int (iI (Int.tdiv gu ((Nat.gcd a9 b9 : Nat) : Int))), .int (iI (Int.tdiv gl ((Nat.gcd a9 b9 : Nat) : Int))), .int (iI gm), .ref x1])), (h, .inr (3, [.int (iI (r 0 0)), .int (iI (r 0 1)), .int (iI (r 0 2)), .int (iI (r 0 3)), .int (iI (r 0 4)), .ref a1, .ref a2, .ref a3, .ref a4])), (a1, .inl (cI, 8, .inl (fun k => iI ((r 1) k)))), (a2, .inl (cI, 8, .inl (fun k => iI ((r 2) k)))), (a3, .inl (cI, 8, .inl (fun k => iI ((r 3) k)))), (a4, .inl (cI, 8, .inl (fun k => iI ((r 4) k))))] H := hP
          have hD : va_D A [(x0, .inr (0, [.int (iI c0), .int (iI c1), .int (iI (Int.tdiv gu ((Nat.gcd a9 b9 : Nat) : Int))), .int (iI (Int.tdiv gl ((Nat.gcd a9 b9 : Nat) : Int))), .int (iI gm), .ref x1])), (h, .inr (3, [.int (iI (r 0 0)), .int (iI (r 0 1)), .int (iI (r 0 2)), .int (iI (r 0 3)), .int (iI (r 0 4)), .ref a1, .ref a2, .ref a3, .ref a4])), (a1, .inl (cI, 8, .inl (fun k => iI ((r 1) k)))), (a2, .inl (cI, 8, .inl (fun k => iI ((r 2) k)))), (a3, .inl (cI, 8, .inl (fun k => iI ((r 3) k)))), (a4, .inl (cI, 8, .inl (fun k => iI ((r 4) k))))] := hD
          exact W.vret hx hb hr (fun t9 ht9 hW9 => ⟨⟨((Int.tdiv gu ((Nat.gcd a9 b9 : Nat) : Int)), (Int.tdiv gl ((Nat.gcd a9 b9 : Nat) : Int)), gm), rfl, ⟨a9, b9, by rw [← ea9, ← eb9]; exact hF, by rw [ea9]; exact tdiv_nat _ _, by rw [eb9]; exact tdiv_nat _ _⟩, by show va_P _ _ _ t9.heap; rw [ht9]; exact hP⟩, hS.F ht9⟩) hS.2.2 dX0_findFirst_115
      · skip
        refine zz_iconst hx hb dX0_findFirst_25 ?_
        refine lv_istore_n (lv' := [(3, .int (iI (0 : Int))), (0, .ref x0), (1, .ref h), (2, .int (iI v2))]) hx hb dX0_findFirst_26 rfl hl (by decide) rfl (fun ls hl => ?_)
        have lp27 : ∀ (d27 : Nat), ∀ (j : Nat) (ju : Int) (jl : Int) (jm : Int) (v3 : Int) (hj : j ≤ n) (e3 : v3 = (j : Int)) (hJ : FstI r n i j ju jl jm), n - j < d27 → ∀ (H : Heap) (locs : List Loc), va_P (dC, dI) vwCl [(x0, .inr (0, [.int (iI c0), .int (iI c1), .int (iI ju), .int (iI jl), .int (iI jm), .ref x1])), (h, .inr (3, [.int (iI (r 0 0)), .int (iI (r 0 1)), .int (iI (r 0 2)), .int (iI (r 0 3)), .int (iI (r 0 4)), .ref a1, .ref a2, .ref a3, .ref a4])), (a1, .inl (cI, 8, .inl (fun k => iI ((r 1) k)))), (a2, .inl (cI, 8, .inl (fun k => iI ((r 2) k)))), (a3, .inl (cI, 8, .inl (fun k => iI ((r 3) k)))), (a4, .inl (cI, 8, .inl (fun k => iI ((r 4) k))))] H → va_D A [(x0, .inr (0, [.int (iI c0), .int (iI c1), .int (iI ju), .int (iI jl), .int (iI jm), .ref x1])), (h, .inr (3, [.int (iI (r 0 0)), .int (iI (r 0 1)), .int (iI (r 0 2)), .int (iI (r 0 3)), .int (iI (r 0 4)), .ref a1, .ref a2, .ref a3, .ref a4])), (a1, .inl (cI, 8, .inl (fun k => iI ((r 1) k)))), (a2, .inl (cI, 8, .inl (fun k => iI ((r 2) k)))), (a3, .inl (cI, 8, .inl (fun k => iI ((r 3) k)))), (a4, .inl (cI, 8, .inl (fun k => iI ((r 4) k))))] → va_S A s.heap H locs → ∀ ls : Array Slot, lv_has ls 5 [(0, .ref x0), (1, .ref h), (2, .int (iI v2)), (3, .int (iI v3))] → W p l e ({ frames := 2, cells := 0, slots := 0, locals := 48 } : Room) s m args below meth c H locs 0 0 (MQ below (wr_Qv (fun (u : Int × Int × Int) => NxtC r n u.1 u.2.1 u.2.2) (fun u t => va_P (dC, dI) vwCl (wCr x0 x1 c0 c1 u.1 u.2.1 u.2.2 ++ wSt cI h a1 a2 a3 a4 r) t.heap) A) args s 0 0 A) (F0 m 27 ls []) := by
          intro d27
          induction d27 with
          | zero =>
            intro j ju jl jm v3 hj e3 hJ hd27
            exact absurd hd27 (Nat.not_lt_zero _)
          | succ d27 ih27 =>
            intro j ju jl jm v3 hj e3 hJ hd27 H locs hP hD hS ls hl
            have hj1 := hJ.1
            have hj2 := hJ.2.1
            have hj3 := hJ.2.2.1
            refine lv_iload_n hx hb dX0_findFirst_27 rfl (lv_at hl 3 rfl) ?_
            refine lv_aload_n hx hb dX0_findFirst_28 rfl (lv_at hl 1 rfl) ?_
            refine va_get (D := (dC, dI)) (ci := 3) (v := .int (iI (r 0 1))) (C := RX3) (T := TX3) (N := 9) hx hb hts hw3 hown hK hP 1 rfl rfl 1 (by decide) hf22 (fun _ h9 => h9) rfl dX0_findFirst_29 ?_
            refine zz_icmp_ge (tgt := 73) hx hb dX0_findFirst_32 (by decide) (by omega) (by omega) (fun c_32 => ?_) (fun c_32 => ?_)
            · skip
              refine zz_iinc (lv' := [(2, .int (iI (v2 + (1 : Int)))), (0, .ref x0), (1, .ref h), (3, .int (iI v3))]) hx hb dX0_findFirst_73 hl (k := 2) rfl (by decide) rfl (fun ls hl => ?_)
              refine lv_goto (tgt := 17) hx hb dX0_findFirst_76 (by decide) ?_
              have hP : va_P (dC, dI) vwCl [(x0, .inr (0, [.int (iI c0), .int (iI c1), .int (iI ju), .int (iI jl), .int (iI jm), .ref x1])), (h, .inr (3, [.int (iI (r 0 0)), .int (iI (r 0 1)), .int (iI (r 0 2)), .int (iI (r 0 3)), .int (iI (r 0 4)), .ref a1, .ref a2, .ref a3, .ref a4])), (a1, .inl (cI, 8, .inl (fun k => iI ((r 1) k)))), (a2, .inl (cI, 8, .inl (fun k => iI ((r 2) k)))), (a3, .inl (cI, 8, .inl (fun k => iI ((r 3) k)))), (a4, .inl (cI, 8, .inl (fun k => iI ((r 4) k))))] H := by exact hP
              have hD : va_D A [(x0, .inr (0, [.int (iI c0), .int (iI c1), .int (iI ju), .int (iI jl), .int (iI jm), .ref x1])), (h, .inr (3, [.int (iI (r 0 0)), .int (iI (r 0 1)), .int (iI (r 0 2)), .int (iI (r 0 3)), .int (iI (r 0 4)), .ref a1, .ref a2, .ref a3, .ref a4])), (a1, .inl (cI, 8, .inl (fun k => iI ((r 1) k)))), (a2, .inl (cI, 8, .inl (fun k => iI ((r 2) k)))), (a3, .inl (cI, 8, .inl (fun k => iI ((r 3) k)))), (a4, .inl (cI, 8, .inl (fun k => iI ((r 4) k))))] := by exact hD
              exact ih17 (i + 1) ju jl jm (v2 + (1 : Int)) (by omega) (by omega) (by (have h9 : j = n := (by omega)); rw [h9] at hJ; exact hJ.row hok.1) (by omega) H locs hP hD hS ls (lv_sub hl [1, 2, 0] rfl)
            · skip
              refine lv_aload_n hx hb dX0_findFirst_35 rfl (lv_at hl 1 rfl) ?_
              refine va_get (D := (dC, dI)) (ci := 3) (v := .ref a3) (C := RX3) (T := TX3) (N := 9) hx hb hts hw3 hown hK hP 1 rfl rfl 7 (by decide) hf31 (fun _ h9 => h9) rfl dX0_findFirst_36 ?_
              refine lv_iload_n hx hb dX0_findFirst_39 rfl (lv_at hl 2 rfl) ?_
              refine zz_iald hx hb hK hP 4 0 (f := (r 3)) rfl rfl (by decide) i (by omega) (by omega) dX0_findFirst_40 ?_
              have b_40 := hok.at (k := i) (by omega)
              refine lv_aload_n hx hb dX0_findFirst_41 rfl (lv_at hl 1 rfl) ?_
              refine va_get (D := (dC, dI)) (ci := 3) (v := .ref a3) (C := RX3) (T := TX3) (N := 9) hx hb hts hw3 hown hK hP 1 rfl rfl 7 (by decide) hf31 (fun _ h9 => h9) rfl dX0_findFirst_42 ?_
              refine lv_iload_n hx hb dX0_findFirst_45 rfl (lv_at hl 3 rfl) ?_
              refine zz_iald hx hb hK hP 4 0 (f := (r 3)) rfl rfl (by decide) j (by omega) (by omega) dX0_findFirst_46 ?_
              have b_46 := hok.at (k := j) (by omega)
              refine zz_isub hx hb dX0_findFirst_47 ?_
              refine lv_istore (lv' := [(4, .int (iI (((r 3) i) - ((r 3) j)))), (0, .ref x0), (1, .ref h), (2, .int (iI v2)), (3, .int (iI v3))]) hx hb dX0_findFirst_48 hl (by decide) rfl (fun ls hl => ?_)
              refine lv_iload hx hb dX0_findFirst_50 (lv_at hl 0 rfl) ?_
              refine zz_if_le (tgt := 67) hx hb dX0_findFirst_52 (by decide) (by omega) (fun c_52 => ?_) (fun c_52 => ?_)
              · skip
                refine zz_iinc (lv' := [(3, .int (iI (v3 + (1 : Int)))), (4, .int (iI (((r 3) i) - ((r 3) j)))), (0, .ref x0), (1, .ref h), (2, .int (iI v2))]) hx hb dX0_findFirst_67 hl (k := 4) rfl (by decide) rfl (fun ls hl => ?_)
                refine lv_goto (tgt := 27) hx hb dX0_findFirst_70 (by decide) ?_
                have hP : va_P (dC, dI) vwCl [(x0, .inr (0, [.int (iI c0), .int (iI c1), .int (iI ju), .int (iI jl), .int (iI jm), .ref x1])), (h, .inr (3, [.int (iI (r 0 0)), .int (iI (r 0 1)), .int (iI (r 0 2)), .int (iI (r 0 3)), .int (iI (r 0 4)), .ref a1, .ref a2, .ref a3, .ref a4])), (a1, .inl (cI, 8, .inl (fun k => iI ((r 1) k)))), (a2, .inl (cI, 8, .inl (fun k => iI ((r 2) k)))), (a3, .inl (cI, 8, .inl (fun k => iI ((r 3) k)))), (a4, .inl (cI, 8, .inl (fun k => iI ((r 4) k))))] H := by exact hP
                have hD : va_D A [(x0, .inr (0, [.int (iI c0), .int (iI c1), .int (iI ju), .int (iI jl), .int (iI jm), .ref x1])), (h, .inr (3, [.int (iI (r 0 0)), .int (iI (r 0 1)), .int (iI (r 0 2)), .int (iI (r 0 3)), .int (iI (r 0 4)), .ref a1, .ref a2, .ref a3, .ref a4])), (a1, .inl (cI, 8, .inl (fun k => iI ((r 1) k)))), (a2, .inl (cI, 8, .inl (fun k => iI ((r 2) k)))), (a3, .inl (cI, 8, .inl (fun k => iI ((r 3) k)))), (a4, .inl (cI, 8, .inl (fun k => iI ((r 4) k))))] := by exact hD
                exact ih27 (j + 1) ju jl jm (v3 + (1 : Int)) (by omega) (by omega) (by first | exact hJ.skip (by simp only [clC]; omega) | ((rcases hz_64 with ⟨q1, q2⟩ | ⟨q1, q3, q2⟩ | ⟨q1, q3, q2⟩); (rw [q2]; exact hJ.new hok (by omega) (by omega) (hnn i j (by omega) (by omega)) (by simp only [clC]; omega) q1); (rw [q2]; exact hJ.same (by omega) (by simp only [clC]; omega) q3); (rw [q2]; exact hJ.far (by omega) (by simp only [clC]; omega) q3))) (by omega) H locs hP hD hS ls (lv_sub hl [2, 3, 4, 0] rfl)
              · skip
                refine lv_aload_n hx hb dX0_findFirst_55 rfl (lv_at hl 1 rfl) ?_
                refine lv_aload_n hx hb dX0_findFirst_56 rfl (lv_at hl 2 rfl) ?_
                refine lv_iload_n hx hb dX0_findFirst_57 rfl (lv_at hl 3 rfl) ?_
                refine lv_iload_n hx hb dX0_findFirst_58 rfl (lv_at hl 4 rfl) ?_
                refine ro_V (As := [.int (iI v2), .int (iI v3)]) (rest := [.ref x0]) ⟨hx, hb, hml, hown, hts⟩ (c_X3_freeBetween l dC dI cI cJ cC cO h a1 a2 a3 a4 r n hok v2 i (by omega) (by omega) v3 j (by omega) (by omega)) (cwV 2 hts gX0_findFirst_X3_freeBetween rfl rfl rfl (by decide +kernel) ⟨Nat.le_of_ble_eq_true rfl, Nat.le_of_ble_eq_true rfl⟩) hK hP [1, 2, 3, 4, 5] rfl 3 0 rfl rfl rfl hl.1 rfl (Nat.le_of_ble_eq_true rfl) dX0_findFirst_59 ⟨Nat.zero_le _, Nat.zero_le _⟩ (fun z_59 hz_59 => ?_)
                subst hz_59
                have bz_59 := hok.fb (a := i) (b := j) (by omega) (by omega)
                have bn_59 : 0 ≤ fbtw (r 0 0) n (r 1) (r 2) i j := hnn i j (by omega) (by omega)
                refine lv_iload hx hb dX0_findFirst_62 (lv_at hl 0 rfl) ?_
                refine wr_Vv (As := [.int (iI (fbtw (r 0 0) n (r 1) (r 2) i j)), .int (iI (((r 3) i) - ((r 3) j)))]) (rest := []) ⟨hx, hb, hml, hown, hts⟩ (c_X0_takeIfFirst l dC dI cI cJ cC cO x0 x1 c0 c1 ju jl jm (by omega) (by omega) (by omega) (fbtw (r 0 0) n (r 1) (r 2) i j) (((r 3) i) - ((r 3) j)) (by omega) (by omega)) (cwV 2 hts gX0_findFirst_X0_takeIfFirst rfl rfl rfl (by decide +kernel) ⟨Nat.le_of_ble_eq_true rfl, Nat.le_of_ble_eq_true rfl⟩) hK hP hD hS [0] rfl (by decide) 0 0 rfl rfl (fun u_64 => [(x0, .inr (0, [.int (iI c0), .int (iI c1), .int (iI u_64.1), .int (iI u_64.2.1), .int (iI u_64.2.2), .ref x1])), (h, .inr (3, [.int (iI (r 0 0)), .int (iI (r 0 1)), .int (iI (r 0 2)), .int (iI (r 0 3)), .int (iI (r 0 4)), .ref a1, .ref a2, .ref a3, .ref a4])), (a1, .inl (cI, 8, .inl (fun k => iI ((r 1) k)))), (a2, .inl (cI, 8, .inl (fun k => iI ((r 2) k)))), (a3, .inl (cI, 8, .inl (fun k => iI ((r 3) k)))), (a4, .inl (cI, 8, .inl (fun k => iI ((r 4) k))))]) [.inr 0, .inl 1, .inl 2, .inl 3, .inl 4, .inl 5] (fun _ => rfl) (fun _ => rfl) rfl rfl hl.1 rfl (Nat.le_of_ble_eq_true rfl) dX0_findFirst_64 ⟨Nat.zero_le _, Nat.zero_le _⟩ (fun u_64 H locs hz_64 hP hD hS => ?_)
                have hP : va_P (dC, dI) vwCl [(x0, .inr (0, [.int (iI c0), .int (iI c1), .int (iI u_64.1), .int (iI u_64.2.1), .int (iI u_64.2.2), .ref x1])), (h, .inr (3, [.int (iI (r 0 0)), .int (iI (r 0 1)), .int (iI (r 0 2)), .int (iI (r 0 3)), .int (iI (r 0 4)), .ref a1, .ref a2, .ref a3, .ref a4])), (a1, .inl (cI, 8, .inl (fun k => iI ((r 1) k)))), (a2, .inl (cI, 8, .inl (fun k => iI ((r 2) k)))), (a3, .inl (cI, 8, .inl (fun k => iI ((r 3) k)))), (a4, .inl (cI, 8, .inl (fun k => iI ((r 4) k))))] H := hP
                have hD : va_D A [(x0, .inr (0, [.int (iI c0), .int (iI c1), .int (iI u_64.1), .int (iI u_64.2.1), .int (iI u_64.2.2), .ref x1])), (h, .inr (3, [.int (iI (r 0 0)), .int (iI (r 0 1)), .int (iI (r 0 2)), .int (iI (r 0 3)), .int (iI (r 0 4)), .ref a1, .ref a2, .ref a3, .ref a4])), (a1, .inl (cI, 8, .inl (fun k => iI ((r 1) k)))), (a2, .inl (cI, 8, .inl (fun k => iI ((r 2) k)))), (a3, .inl (cI, 8, .inl (fun k => iI ((r 3) k)))), (a4, .inl (cI, 8, .inl (fun k => iI ((r 4) k))))] := hD
                refine zz_iinc (lv' := [(3, .int (iI (v3 + (1 : Int)))), (4, .int (iI (((r 3) i) - ((r 3) j)))), (0, .ref x0), (1, .ref h), (2, .int (iI v2))]) hx hb dX0_findFirst_67 hl (k := 4) rfl (by decide) rfl (fun ls hl => ?_)
                refine lv_goto (tgt := 27) hx hb dX0_findFirst_70 (by decide) ?_
                have hP : va_P (dC, dI) vwCl [(x0, .inr (0, [.int (iI c0), .int (iI c1), .int (iI u_64.1), .int (iI u_64.2.1), .int (iI u_64.2.2), .ref x1])), (h, .inr (3, [.int (iI (r 0 0)), .int (iI (r 0 1)), .int (iI (r 0 2)), .int (iI (r 0 3)), .int (iI (r 0 4)), .ref a1, .ref a2, .ref a3, .ref a4])), (a1, .inl (cI, 8, .inl (fun k => iI ((r 1) k)))), (a2, .inl (cI, 8, .inl (fun k => iI ((r 2) k)))), (a3, .inl (cI, 8, .inl (fun k => iI ((r 3) k)))), (a4, .inl (cI, 8, .inl (fun k => iI ((r 4) k))))] H := by exact hP
                have hD : va_D A [(x0, .inr (0, [.int (iI c0), .int (iI c1), .int (iI u_64.1), .int (iI u_64.2.1), .int (iI u_64.2.2), .ref x1])), (h, .inr (3, [.int (iI (r 0 0)), .int (iI (r 0 1)), .int (iI (r 0 2)), .int (iI (r 0 3)), .int (iI (r 0 4)), .ref a1, .ref a2, .ref a3, .ref a4])), (a1, .inl (cI, 8, .inl (fun k => iI ((r 1) k)))), (a2, .inl (cI, 8, .inl (fun k => iI ((r 2) k)))), (a3, .inl (cI, 8, .inl (fun k => iI ((r 3) k)))), (a4, .inl (cI, 8, .inl (fun k => iI ((r 4) k))))] := by exact hD
                exact ih27 (j + 1) u_64.1 u_64.2.1 u_64.2.2 (v3 + (1 : Int)) (by omega) (by omega) (by first | exact hJ.skip (by simp only [clC]; omega) | ((rcases hz_64 with ⟨q1, q2⟩ | ⟨q1, q3, q2⟩ | ⟨q1, q3, q2⟩); (rw [q2]; exact hJ.new hok (by omega) (by omega) (hnn i j (by omega) (by omega)) (by simp only [clC]; omega) q1); (rw [q2]; exact hJ.same (by omega) (by simp only [clC]; omega) q3); (rw [q2]; exact hJ.far (by omega) (by simp only [clC]; omega) q3))) (by omega) H locs hP hD hS ls (lv_sub hl [2, 3, 4, 0] rfl)
        have hP : va_P (dC, dI) vwCl [(x0, .inr (0, [.int (iI c0), .int (iI c1), .int (iI gu), .int (iI gl), .int (iI gm), .ref x1])), (h, .inr (3, [.int (iI (r 0 0)), .int (iI (r 0 1)), .int (iI (r 0 2)), .int (iI (r 0 3)), .int (iI (r 0 4)), .ref a1, .ref a2, .ref a3, .ref a4])), (a1, .inl (cI, 8, .inl (fun k => iI ((r 1) k)))), (a2, .inl (cI, 8, .inl (fun k => iI ((r 2) k)))), (a3, .inl (cI, 8, .inl (fun k => iI ((r 3) k)))), (a4, .inl (cI, 8, .inl (fun k => iI ((r 4) k))))] H := by exact hP
        have hD : va_D A [(x0, .inr (0, [.int (iI c0), .int (iI c1), .int (iI gu), .int (iI gl), .int (iI gm), .ref x1])), (h, .inr (3, [.int (iI (r 0 0)), .int (iI (r 0 1)), .int (iI (r 0 2)), .int (iI (r 0 3)), .int (iI (r 0 4)), .ref a1, .ref a2, .ref a3, .ref a4])), (a1, .inl (cI, 8, .inl (fun k => iI ((r 1) k)))), (a2, .inl (cI, 8, .inl (fun k => iI ((r 2) k)))), (a3, .inl (cI, 8, .inl (fun k => iI ((r 3) k)))), (a4, .inl (cI, 8, .inl (fun k => iI ((r 4) k))))] := by exact hD
        exact lp27 _ 0 gu gl gm (0 : Int) (by omega) (by omega) (hF) (Nat.lt_succ_self _) H locs hP hD hS ls (lv_sub hl [1, 2, 3, 0] rfl)
  have hP : va_P (dC, dI) vwCl [(x0, .inr (0, [.int (iI c0), .int (iI c1), .int (iI (0 : Int)), .int (iI (1 : Int)), .int (iI (0 : Int)), .ref x1])), (h, .inr (3, [.int (iI (r 0 0)), .int (iI (r 0 1)), .int (iI (r 0 2)), .int (iI (r 0 3)), .int (iI (r 0 4)), .ref a1, .ref a2, .ref a3, .ref a4])), (a1, .inl (cI, 8, .inl (fun k => iI ((r 1) k)))), (a2, .inl (cI, 8, .inl (fun k => iI ((r 2) k)))), (a3, .inl (cI, 8, .inl (fun k => iI ((r 3) k)))), (a4, .inl (cI, 8, .inl (fun k => iI ((r 4) k))))] H := by exact hP
  have hD : va_D A [(x0, .inr (0, [.int (iI c0), .int (iI c1), .int (iI (0 : Int)), .int (iI (1 : Int)), .int (iI (0 : Int)), .ref x1])), (h, .inr (3, [.int (iI (r 0 0)), .int (iI (r 0 1)), .int (iI (r 0 2)), .int (iI (r 0 3)), .int (iI (r 0 4)), .ref a1, .ref a2, .ref a3, .ref a4])), (a1, .inl (cI, 8, .inl (fun k => iI ((r 1) k)))), (a2, .inl (cI, 8, .inl (fun k => iI ((r 2) k)))), (a3, .inl (cI, 8, .inl (fun k => iI ((r 3) k)))), (a4, .inl (cI, 8, .inl (fun k => iI ((r 4) k))))] := by exact hD
  exact lp17 _ 0 (0 : Int) (1 : Int) (0 : Int) (0 : Int) (by omega) (by omega) (FstI.zero r n) (Nat.lt_succ_self _) H locs hP hD hS ls (lv_sub hl [1, 2, 0] rfl)
set_option maxHeartbeats 4000000 in
set_option maxRecDepth 100000 in
theorem c_X0_mark (l : Launch) (dC : Nat → ClassId) (dI : Nat → Nat → Nat) (cI cJ cC cO : ClassId) (x0 x1 : Nat) (c0 c1 c2 c3 c4 : Int) (sm : Nat → Nat) (hsm : ∀ j, sm j < 2 ^ 61) (zp : Int) (pu : Nat) (ep : zp = (pu : Int)) (hp9 : pu ≤ 60) (zq : Int) (pw : Nat) (eq9 : zq = (pw : Int)) (hq9 : 1 ≤ pw ∧ pw ≤ 18) : Met l yX0_mark wsX0_mark ({ frames := 1, cells := 0, slots := 0, locals := 25 } : Room) (va_Pc [.ref x0, .int (iI zp), .int (iI zq)] (wr_B (dC, dI) vwCl (tyG cI cJ cC cO) (wCr x0 x1 c0 c1 c2 c3 c4 ++ wSn cJ x1 sm))) (wr_Qv (fun (u : Unit) => True) (fun u t => va_P (dC, dI) vwCl (wCr x0 x1 c0 c1 c2 c3 c4 ++ wSn cJ x1 (mrk sm pu pw)) t.heap) (wr_A (wCr x0 x1 c0 c1 c2 c3 c4 ++ wSn cJ x1 sm))) 0 0 (wr_A (wCr x0 x1 c0 c1 c2 c3 c4 ++ wSn cJ x1 sm)) := by
  refine Met.ofW (cc := cX0_mark) (maxL := 5) (ret := none) (by decide) rfl ?_
  intro p e s m args below meth c s₁ B hml hv
  obtain ⟨hav, hP, hK, hD0⟩ := hv
  have hx := B.exec
  have hb := B.bytes
  have hr := B.returns
  have hts := atoms_spec (ws := wsX0_mark) B.pre
  have hown : s.vm.findClass RX0 = some m.cls := findClass_of_methodNamed B.named
  have hlocks := B.notSynchronized
  have hf9 := hts (.fieldLink RX0 9 "RingRods$Crossings" "seen" "[J") (by decide +kernel)
  have hw0 : ∀ w ∈ u_ws RX0 TX0 6, w ∈ wsX0_mark := by decide +kernel
  have hD := va_D.slf hD0
  have hS : va_S (wr_A (wCr x0 x1 c0 c1 c2 c3 c4 ++ wSn cJ x1 sm)) s.heap s.heap [] := va_S.rf
  show W p l e ({ frames := 1, cells := 0, slots := 0, locals := 25 } : Room) s m args below meth c s.heap [] 0 0 (MQ below (wr_Qv (fun (u : Unit) => True) (fun u t => va_P (dC, dI) vwCl (wCr x0 x1 c0 c1 c2 c3 c4 ++ wSn cJ x1 (mrk sm pu pw)) t.heap) (wr_A (wCr x0 x1 c0 c1 c2 c3 c4 ++ wSn cJ x1 sm))) args s 0 0 (wr_A (wCr x0 x1 c0 c1 c2 c3 c4 ++ wSn cJ x1 sm))) (entryFrame m args 5)
  generalize hAe : wr_A (wCr x0 x1 c0 c1 c2 c3 c4 ++ wSn cJ x1 sm) = A at hD hS ⊢
  have hP : va_P (dC, dI) vwCl [(x0, .inr (0, [.int (iI c0), .int (iI c1), .int (iI c2), .int (iI c3), .int (iI c4), .ref x1])), (x1, .inl (cJ, 19, .inr (.inl (fun j => lN (sm j)))))] s.heap := hP
  have hD : va_D A [(x0, .inr (0, [.int (iI c0), .int (iI c1), .int (iI c2), .int (iI c3), .int (iI c4), .ref x1])), (x1, .inl (cJ, 19, .inr (.inl (fun j => lN (sm j)))))] := hD
  have hl := lv_entry ([.ref x0, .int (iI zp), .int (iI zq)]) (n := 5) (Nat.le_of_ble_eq_true rfl)
  have hent : entryFrame m args 5 = F0 m 0 ((lg_sl ([.ref x0, .int (iI zp), .int (iI zq)]) ++ List.replicate (5 - (lg_sl ([.ref x0, .int (iI zp), .int (iI zq)])).length) Slot.unset).toArray) [] := by rw [hav]; exact lg_entry_eq ..
  rw [hent]
  generalize (lg_sl ([.ref x0, .int (iI zp), .int (iI zq)]) ++ List.replicate (5 - (lg_sl ([.ref x0, .int (iI zp), .int (iI zq)])).length) Slot.unset).toArray = ls at hl ⊢
  have hl : lv_has ls 5 [(0, .ref x0), (1, .int (iI zp)), (2, .int (iI zq))] := hl
  have hg1 := Nat.gcd_pos_of_pos_right pu (show 0 < pw by omega)
  have hg2 := Nat.gcd_le_right (n := pw) pu (by omega)
  have hg3 := Nat.div_le_self pw (Nat.gcd pu pw)
  have hg4 := Nat.div_le_self pu (Nat.gcd pu pw)
  have hg5 : (0 : Int) ≤ ((pw / Nat.gcd pu pw : Nat) : Int) := Int.natCast_nonneg _
  have hg6 : (0 : Int) ≤ ((pu / Nat.gcd pu pw : Nat) : Int) := Int.natCast_nonneg _
  refine lv_iload_n hx hb dX0_mark_0 rfl (lv_at hl 1 rfl) ?_
  refine lv_iload_n hx hb dX0_mark_1 rfl (lv_at hl 2 rfl) ?_
  refine ro_S (As := [.int (iI zp), .int (iI zq)]) (rest := []) ⟨hx, hb, hml, hown, hts⟩ (c_X0_commonDivisor l dC dI cI cJ cC cO zp pu (by omega) (by omega) zq pw (by omega) (by omega)) (cwS 2 hts gX0_mark_X0_commonDivisor rfl rfl rfl (by decide +kernel) ⟨Nat.le_of_ble_eq_true rfl, Nat.le_of_ble_eq_true rfl⟩) hK hP [] rfl rfl hl.1 rfl (Nat.le_of_ble_eq_true rfl) dX0_mark_2 ⟨Nat.zero_le _, Nat.zero_le _⟩ (fun z_2 hz_2 => ?_)
  subst hz_2
  refine lv_istore_n (lv' := [(3, .int (iI ((Nat.gcd pu pw : Nat) : Int))), (0, .ref x0), (1, .int (iI zp)), (2, .int (iI zq))]) hx hb dX0_mark_5 rfl hl (by decide) rfl (fun ls hl => ?_)
  refine lv_iload_n hx hb dX0_mark_6 rfl (lv_at hl 0 rfl) ?_
  refine zz_iconst hx hb dX0_mark_7 ?_
  refine zz_icmp_ge (tgt := 12) hx hb dX0_mark_8 (by decide) (by omega) (by omega) (fun c_8 => ?_) (fun c_8 => ?_)
  · skip
    refine lv_iload_n hx hb dX0_mark_12 rfl (lv_at hl 3 rfl) ?_
    refine lv_iload_n hx hb dX0_mark_13 rfl (lv_at hl 0 rfl) ?_
    refine zz_idiv hx hb dX0_mark_14 (by omega) (by omega) (by omega) ?_
    rw [show (Int.tdiv zq ((Nat.gcd pu pw : Nat) : Int)) = ((pw / Nat.gcd pu pw : Nat) : Int) by rw [eq9]; exact tdiv_nat _ _]
    refine lv_istore (lv' := [(4, .int (iI ((pw / Nat.gcd pu pw : Nat) : Int))), (3, .int (iI ((Nat.gcd pu pw : Nat) : Int))), (0, .ref x0), (1, .int (iI zp)), (2, .int (iI zq))]) hx hb dX0_mark_15 hl (by decide) rfl (fun ls hl => ?_)
    refine lv_iload hx hb dX0_mark_17 (lv_at hl 0 rfl) ?_
    refine zz_if_lt (tgt := 47) hx hb dX0_mark_19 (by decide) (by omega) (fun c_19 => ?_) (fun c_19 => ?_)
    · skip
      exfalso; omega
    · skip
      refine lv_iload hx hb dX0_mark_22 (lv_at hl 0 rfl) ?_
      refine lv_aload_n hx hb dX0_mark_24 rfl (lv_at hl 2 rfl) ?_
      refine va_get (D := (dC, dI)) (ci := 0) (v := .ref x1) (C := RX0) (T := TX0) (N := 6) hx hb hts hw0 hown hK hP 0 rfl rfl 5 (by decide) hf9 (fun _ h9 => h9) rfl dX0_mark_25 ?_
      refine va_alen hx hb hK hP 1 1 rfl rfl (v := iI (19 : Int)) rfl dX0_mark_28 ?_
      refine zz_icmp_ge (tgt := 47) hx hb dX0_mark_29 (by decide) (by omega) (by omega) (fun c_29 => ?_) (fun c_29 => ?_)
      · skip
        exfalso; omega
      · skip
        refine lv_aload_n hx hb dX0_mark_32 rfl (lv_at hl 2 rfl) ?_
        refine va_get (D := (dC, dI)) (ci := 0) (v := .ref x1) (C := RX0) (T := TX0) (N := 6) hx hb hts hw0 hown hK hP 0 rfl rfl 5 (by decide) hf9 (fun _ h9 => h9) rfl dX0_mark_33 ?_
        refine lv_iload hx hb dX0_mark_36 (lv_at hl 0 rfl) ?_
        refine lv_dup2_11 hx hb dX0_mark_38 rfl rfl ?_
        refine zz_lald hx hb hK hP 1 1 (f := sm) rfl rfl (by decide) (pw / Nat.gcd pu pw) (by omega) (by omega) dX0_mark_39 ?_
        refine lv_lconst (v := lN 1) hx hb dX0_mark_40 (by decide) ?_
        refine lv_iload_n hx hb dX0_mark_41 rfl (lv_at hl 3 rfl) ?_
        refine lv_iload_n hx hb dX0_mark_42 rfl (lv_at hl 1 rfl) ?_
        refine zz_idiv hx hb dX0_mark_43 (by omega) (by omega) (by omega) ?_
        rw [show (Int.tdiv zp ((Nat.gcd pu pw : Nat) : Int)) = ((pu / Nat.gcd pu pw : Nat) : Int) by rw [ep]; exact tdiv_nat _ _]
        refine zz_lshl1 hx hb (pu / Nat.gcd pu pw) (by omega) (by omega) dX0_mark_44 ?_
        refine zz_lor hx hb (Nat.lt_of_lt_of_le (hsm _) (by decide)) (Nat.pow_lt_pow_right (by omega) (by omega)) dX0_mark_45 ?_
        refine zz_last hx hb hK hP hD hS 1 1 (f := sm) (x := ((sm (pw / Nat.gcd pu pw)) ||| (2 ^ (pu / Nat.gcd pu pw)))) rfl rfl (by decide) (pw / Nat.gcd pu pw) (by omega) (by omega) dX0_mark_46 (fun H locs hP hD hS => ?_)
        have hP : va_P (dC, dI) vwCl [(x0, .inr (0, [.int (iI c0), .int (iI c1), .int (iI c2), .int (iI c3), .int (iI c4), .ref x1])), (x1, .inl (cJ, 19, .inr (.inl (fun j => lN ((upN sm (pw / Nat.gcd pu pw) ((sm (pw / Nat.gcd pu pw)) ||| (2 ^ (pu / Nat.gcd pu pw)))) j)))))] H := hP
        have hD : va_D A [(x0, .inr (0, [.int (iI c0), .int (iI c1), .int (iI c2), .int (iI c3), .int (iI c4), .ref x1])), (x1, .inl (cJ, 19, .inr (.inl (fun j => lN ((upN sm (pw / Nat.gcd pu pw) ((sm (pw / Nat.gcd pu pw)) ||| (2 ^ (pu / Nat.gcd pu pw)))) j)))))] := hD
        exact W.vret hx hb hr (fun t9 ht9 hW9 => ⟨⟨(), rfl, trivial, by show va_P _ _ _ t9.heap; rw [ht9]; exact hP⟩, hS.F ht9⟩) hS.2.2 dX0_mark_47
  · skip
    exfalso; omega
set_option maxHeartbeats 4000000 in
set_option maxRecDepth 100000 in
theorem c_X0_markMoments (l : Launch) (dC : Nat → ClassId) (dI : Nat → Nat → Nat) (cI cJ cC cO : ClassId) (x0 x1 : Nat) (c0 c1 c2 c3 c4 : Int) (sm : Nat → Nat) (hsm : ∀ j, sm j < 2 ^ 61) (h a1 a2 a3 a4 : Nat) (r : Nat → Nat → Int) (n : Nat) (hok : Ok r n) (hnn : ∀ a b, a < n → b < n → 0 ≤ fbC r n a b) (zx : Int) (x : Nat) (ex : zx = (x : Int)) (hx : x < n) (zy : Int) (y : Nat) (ey : zy = (y : Int)) (hy : y < n) (zt : Int) (ht : 1 ≤ zt ∧ zt ≤ 3) : Met l yX0_markMoments wsX0_markMoments ({ frames := 3, cells := 0, slots := 0, locals := 74 } : Room) (va_Pc [.ref x0, .ref h, .int (iI zx), .int (iI zy), .int (iI zt)] (wr_B (dC, dI) vwCl (tyG cI cJ cC cO) (wCr x0 x1 c0 c1 c2 c3 c4 ++ wSn cJ x1 sm ++ wSt cI h a1 a2 a3 a4 r))) (wr_Qv (fun (u : Unit) => True) (fun u t => va_P (dC, dI) vwCl (wCr x0 x1 c0 c1 c2 c3 c4 ++ wSn cJ x1 (mmC r n zt sm x y) ++ wSt cI h a1 a2 a3 a4 r) t.heap) (wr_A (wCr x0 x1 c0 c1 c2 c3 c4 ++ wSn cJ x1 sm ++ wSt cI h a1 a2 a3 a4 r))) 0 0 (wr_A (wCr x0 x1 c0 c1 c2 c3 c4 ++ wSn cJ x1 sm ++ wSt cI h a1 a2 a3 a4 r)) := by
  refine Met.ofW (cc := cX0_markMoments) (maxL := 10) (ret := none) (by decide) rfl ?_
  intro p e s m args below meth c s₁ B hml hv
  obtain ⟨hav, hP, hK, hD0⟩ := hv
  have hx := B.exec
  have hb := B.bytes
  have hr := B.returns
  have hts := atoms_spec (ws := wsX0_markMoments) B.pre
  have hown : s.vm.findClass RX0 = some m.cls := findClass_of_methodNamed B.named
  have hlocks := B.notSynchronized
  have hf31 := hts (.fieldLink RX0 31 "RingRods$State" "speed" "[I") (by decide +kernel)
  have hw3 : ∀ w ∈ u_ws RX3 TX3 9, w ∈ wsX0_markMoments := by decide +kernel
  have hD := va_D.slf hD0
  have hS : va_S (wr_A (wCr x0 x1 c0 c1 c2 c3 c4 ++ wSn cJ x1 sm ++ wSt cI h a1 a2 a3 a4 r)) s.heap s.heap [] := va_S.rf
  show W p l e ({ frames := 3, cells := 0, slots := 0, locals := 74 } : Room) s m args below meth c s.heap [] 0 0 (MQ below (wr_Qv (fun (u : Unit) => True) (fun u t => va_P (dC, dI) vwCl (wCr x0 x1 c0 c1 c2 c3 c4 ++ wSn cJ x1 (mmC r n zt sm x y) ++ wSt cI h a1 a2 a3 a4 r) t.heap) (wr_A (wCr x0 x1 c0 c1 c2 c3 c4 ++ wSn cJ x1 sm ++ wSt cI h a1 a2 a3 a4 r))) args s 0 0 (wr_A (wCr x0 x1 c0 c1 c2 c3 c4 ++ wSn cJ x1 sm ++ wSt cI h a1 a2 a3 a4 r))) (entryFrame m args 10)
  generalize hAe : wr_A (wCr x0 x1 c0 c1 c2 c3 c4 ++ wSn cJ x1 sm ++ wSt cI h a1 a2 a3 a4 r) = A at hD hS ⊢
  have hP : va_P (dC, dI) vwCl [(x0, .inr (0, [.int (iI c0), .int (iI c1), .int (iI c2), .int (iI c3), .int (iI c4), .ref x1])), (x1, .inl (cJ, 19, .inr (.inl (fun j => lN (sm j))))), (h, .inr (3, [.int (iI (r 0 0)), .int (iI (r 0 1)), .int (iI (r 0 2)), .int (iI (r 0 3)), .int (iI (r 0 4)), .ref a1, .ref a2, .ref a3, .ref a4])), (a1, .inl (cI, 8, .inl (fun z9 => iI ((r 1) z9)))), (a2, .inl (cI, 8, .inl (fun z9 => iI ((r 2) z9)))), (a3, .inl (cI, 8, .inl (fun z9 => iI ((r 3) z9)))), (a4, .inl (cI, 8, .inl (fun z9 => iI ((r 4) z9))))] s.heap := hP
  have hD : va_D A [(x0, .inr (0, [.int (iI c0), .int (iI c1), .int (iI c2), .int (iI c3), .int (iI c4), .ref x1])), (x1, .inl (cJ, 19, .inr (.inl (fun j => lN (sm j))))), (h, .inr (3, [.int (iI (r 0 0)), .int (iI (r 0 1)), .int (iI (r 0 2)), .int (iI (r 0 3)), .int (iI (r 0 4)), .ref a1, .ref a2, .ref a3, .ref a4])), (a1, .inl (cI, 8, .inl (fun z9 => iI ((r 1) z9)))), (a2, .inl (cI, 8, .inl (fun z9 => iI ((r 2) z9)))), (a3, .inl (cI, 8, .inl (fun z9 => iI ((r 3) z9)))), (a4, .inl (cI, 8, .inl (fun z9 => iI ((r 4) z9))))] := hD
  have hl := lv_entry ([.ref x0, .ref h, .int (iI zx), .int (iI zy), .int (iI zt)]) (n := 10) (Nat.le_of_ble_eq_true rfl)
  have hent : entryFrame m args 10 = F0 m 0 ((lg_sl ([.ref x0, .ref h, .int (iI zx), .int (iI zy), .int (iI zt)]) ++ List.replicate (10 - (lg_sl ([.ref x0, .ref h, .int (iI zx), .int (iI zy), .int (iI zt)])).length) Slot.unset).toArray) [] := by rw [hav]; exact lg_entry_eq ..
  rw [hent]
  generalize (lg_sl ([.ref x0, .ref h, .int (iI zx), .int (iI zy), .int (iI zt)]) ++ List.replicate (10 - (lg_sl ([.ref x0, .ref h, .int (iI zx), .int (iI zy), .int (iI zt)])).length) Slot.unset).toArray = ls at hl ⊢
  have hl : lv_has ls 10 [(0, .ref x0), (1, .ref h), (2, .int (iI zx)), (3, .int (iI zy)), (4, .int (iI zt))] := hl
  have bd0 := hok.bd
  have bd1 := hok.fr
  have hu0 := hnn x y (by omega) (by omega)
  obtain ⟨u0, eu0⟩ : ∃ u0 : Nat, fbC r n x y = (u0 : Int) := ⟨(fbC r n x y).toNat, by omega⟩
  obtain ⟨Rn, eRn⟩ : ∃ Rn : Nat, freeL (r 0 0) n (r 2) = (Rn : Int) := ⟨(freeL (r 0 0) n (r 2)).toNat, by omega⟩
  obtain ⟨wn, ewn⟩ : ∃ wn : Nat, (clC r x y).toNat = wn := ⟨_, rfl⟩
  have bc := hok.cl (a := x) (b := y) (by omega) (by omega)
  refine lv_aload_n hx hb dX0_markMoments_0 rfl (lv_at hl 1 rfl) ?_
  refine va_get (D := (dC, dI)) (ci := 3) (v := .ref a3) (C := RX3) (T := TX3) (N := 9) hx hb hts hw3 hown hK hP 2 rfl rfl 7 (by decide) hf31 (fun _ h9 => h9) rfl dX0_markMoments_1 ?_
  refine lv_iload_n hx hb dX0_markMoments_4 rfl (lv_at hl 2 rfl) ?_
  refine zz_iald hx hb hK hP 5 0 (f := (r 3)) rfl rfl (by decide) x (by omega) (by omega) dX0_markMoments_5 ?_
  have b_5 := hok.at (k := x) (by omega)
  refine lv_aload_n hx hb dX0_markMoments_6 rfl (lv_at hl 1 rfl) ?_
  refine va_get (D := (dC, dI)) (ci := 3) (v := .ref a3) (C := RX3) (T := TX3) (N := 9) hx hb hts hw3 hown hK hP 2 rfl rfl 7 (by decide) hf31 (fun _ h9 => h9) rfl dX0_markMoments_7 ?_
  refine lv_iload_n hx hb dX0_markMoments_10 rfl (lv_at hl 3 rfl) ?_
  refine zz_iald hx hb hK hP 5 0 (f := (r 3)) rfl rfl (by decide) y (by omega) (by omega) dX0_markMoments_11 ?_
  have b_11 := hok.at (k := y) (by omega)
  refine zz_isub hx hb dX0_markMoments_12 ?_
  refine lv_istore (lv' := [(5, .int (iI (((r 3) x) - ((r 3) y)))), (0, .ref x0), (1, .ref h), (2, .int (iI zx)), (3, .int (iI zy)), (4, .int (iI zt))]) hx hb dX0_markMoments_13 hl (by decide) rfl (fun ls hl => ?_)
  refine lv_aload_n hx hb dX0_markMoments_15 rfl (lv_at hl 2 rfl) ?_
  refine lv_iload_n hx hb dX0_markMoments_16 rfl (lv_at hl 3 rfl) ?_
  refine lv_iload_n hx hb dX0_markMoments_17 rfl (lv_at hl 4 rfl) ?_
  refine lv_iload hx hb dX0_markMoments_18 (lv_at hl 5 rfl) ?_
  refine ro_S (As := [.ref h, .int (iI zx), .int (iI zy), .int (iI zt)]) (rest := []) ⟨hx, hb, hml, hown, hts⟩ (c_X0_crossingsOf l dC dI cI cJ cC cO h a1 a2 a3 a4 r n hok zx x (by omega) (by omega) zy y (by omega) (by omega) zt (by omega)) (cwS 4 hts gX0_markMoments_X0_crossingsOf rfl rfl rfl (by decide +kernel) ⟨Nat.le_of_ble_eq_true rfl, Nat.le_of_ble_eq_true rfl⟩) hK hP [2, 3, 4, 5, 6] rfl rfl hl.1 rfl (Nat.le_of_ble_eq_true rfl) dX0_markMoments_20 ⟨Nat.zero_le _, Nat.zero_le _⟩ (fun z_20 hz_20 => ?_)
  subst hz_20
  have bz_20 := hok.cr (a := x) (b := y) (by omega) (by omega) (t := zt) (by omega)
  refine lv_istore (lv' := [(6, .int (iI (crC r n zt x y))), (5, .int (iI (((r 3) x) - ((r 3) y)))), (0, .ref x0), (1, .ref h), (2, .int (iI zx)), (3, .int (iI zy)), (4, .int (iI zt))]) hx hb dX0_markMoments_23 hl (by decide) rfl (fun ls hl => ?_)
  refine lv_aload_n hx hb dX0_markMoments_25 rfl (lv_at hl 3 rfl) ?_
  refine lv_iload_n hx hb dX0_markMoments_26 rfl (lv_at hl 4 rfl) ?_
  refine lv_iload_n hx hb dX0_markMoments_27 rfl (lv_at hl 5 rfl) ?_
  refine ro_V (As := [.int (iI zx), .int (iI zy)]) (rest := []) ⟨hx, hb, hml, hown, hts⟩ (c_X3_freeBetween l dC dI cI cJ cC cO h a1 a2 a3 a4 r n hok zx x (by omega) (by omega) zy y (by omega) (by omega)) (cwV 2 hts gX0_markMoments_X3_freeBetween rfl rfl rfl (by decide +kernel) ⟨Nat.le_of_ble_eq_true rfl, Nat.le_of_ble_eq_true rfl⟩) hK hP [2, 3, 4, 5, 6] rfl 3 0 rfl rfl rfl hl.1 rfl (Nat.le_of_ble_eq_true rfl) dX0_markMoments_28 ⟨Nat.zero_le _, Nat.zero_le _⟩ (fun z_28 hz_28 => ?_)
  subst hz_28
  have bz_28 := hok.fb (a := x) (b := y) (by omega) (by omega)
  refine lv_istore (lv' := [(7, .int (iI (fbtw (r 0 0) n (r 1) (r 2) x y))), (6, .int (iI (crC r n zt x y))), (5, .int (iI (((r 3) x) - ((r 3) y)))), (0, .ref x0), (1, .ref h), (2, .int (iI zx)), (3, .int (iI zy)), (4, .int (iI zt))]) hx hb dX0_markMoments_31 hl (by decide) rfl (fun ls hl => ?_)
  refine lv_aload_n hx hb dX0_markMoments_33 rfl (lv_at hl 4 rfl) ?_
  refine ro_V (As := []) (rest := []) ⟨hx, hb, hml, hown, hts⟩ (c_X3_freeLength l dC dI cI cJ cC cO h a1 a2 a3 a4 r n hok) (cwV 0 hts gX0_markMoments_X3_freeLength rfl rfl rfl (by decide +kernel) ⟨Nat.le_of_ble_eq_true rfl, Nat.le_of_ble_eq_true rfl⟩) hK hP [2, 3, 4, 5, 6] rfl 3 0 rfl rfl rfl hl.1 rfl (Nat.le_of_ble_eq_true rfl) dX0_markMoments_34 ⟨Nat.zero_le _, Nat.zero_le _⟩ (fun z_34 hz_34 => ?_)
  subst hz_34
  have bz_34 := hok.fr
  refine lv_istore (lv' := [(8, .int (iI (freeL (r 0 0) n (r 2)))), (7, .int (iI (fbtw (r 0 0) n (r 1) (r 2) x y))), (6, .int (iI (crC r n zt x y))), (5, .int (iI (((r 3) x) - ((r 3) y)))), (0, .ref x0), (1, .ref h), (2, .int (iI zx)), (3, .int (iI zy)), (4, .int (iI zt))]) hx hb dX0_markMoments_37 hl (by decide) rfl (fun ls hl => ?_)
  refine zz_iconst hx hb dX0_markMoments_39 ?_
  refine lv_istore (lv' := [(9, .int (iI (0 : Int))), (8, .int (iI (freeL (r 0 0) n (r 2)))), (7, .int (iI (fbtw (r 0 0) n (r 1) (r 2) x y))), (6, .int (iI (crC r n zt x y))), (5, .int (iI (((r 3) x) - ((r 3) y)))), (0, .ref x0), (1, .ref h), (2, .int (iI zx)), (3, .int (iI zy)), (4, .int (iI zt))]) hx hb dX0_markMoments_40 hl (by decide) rfl (fun ls hl => ?_)
  have lp42 : ∀ (d42 : Nat), ∀ (i : Nat) (v7 v9 : Int) (hi : (i : Int) ≤ crC r n zt x y) (e9 : v9 = (i : Int)) (e7 : v7 = ((u0 + i * Rn : Nat) : Int)) (hms : ∀ j, mrkT sm u0 Rn wn i j < 2 ^ 61), (crC r n zt x y).toNat - i < d42 → ∀ (H : Heap) (locs : List Loc), va_P (dC, dI) vwCl [(x0, .inr (0, [.int (iI c0), .int (iI c1), .int (iI c2), .int (iI c3), .int (iI c4), .ref x1])), (x1, .inl (cJ, 19, .inr (.inl (fun j => lN ((mrkT sm u0 Rn wn i) j))))), (h, .inr (3, [.int (iI (r 0 0)), .int (iI (r 0 1)), .int (iI (r 0 2)), .int (iI (r 0 3)), .int (iI (r 0 4)), .ref a1, .ref a2, .ref a3, .ref a4])), (a1, .inl (cI, 8, .inl (fun z9 => iI ((r 1) z9)))), (a2, .inl (cI, 8, .inl (fun z9 => iI ((r 2) z9)))), (a3, .inl (cI, 8, .inl (fun z9 => iI ((r 3) z9)))), (a4, .inl (cI, 8, .inl (fun z9 => iI ((r 4) z9))))] H → va_D A [(x0, .inr (0, [.int (iI c0), .int (iI c1), .int (iI c2), .int (iI c3), .int (iI c4), .ref x1])), (x1, .inl (cJ, 19, .inr (.inl (fun j => lN ((mrkT sm u0 Rn wn i) j))))), (h, .inr (3, [.int (iI (r 0 0)), .int (iI (r 0 1)), .int (iI (r 0 2)), .int (iI (r 0 3)), .int (iI (r 0 4)), .ref a1, .ref a2, .ref a3, .ref a4])), (a1, .inl (cI, 8, .inl (fun z9 => iI ((r 1) z9)))), (a2, .inl (cI, 8, .inl (fun z9 => iI ((r 2) z9)))), (a3, .inl (cI, 8, .inl (fun z9 => iI ((r 3) z9)))), (a4, .inl (cI, 8, .inl (fun z9 => iI ((r 4) z9))))] → va_S A s.heap H locs → ∀ ls : Array Slot, lv_has ls 10 [(0, .ref x0), (1, .ref h), (2, .int (iI zx)), (3, .int (iI zy)), (4, .int (iI zt)), (5, .int (iI (((r 3) x) - ((r 3) y)))), (6, .int (iI (crC r n zt x y))), (7, .int (iI v7)), (8, .int (iI (freeL (r 0 0) n (r 2)))), (9, .int (iI v9))] → W p l e ({ frames := 3, cells := 0, slots := 0, locals := 74 } : Room) s m args below meth c H locs 0 0 (MQ below (wr_Qv (fun (u : Unit) => True) (fun u t => va_P (dC, dI) vwCl (wCr x0 x1 c0 c1 c2 c3 c4 ++ wSn cJ x1 (mmC r n zt sm x y) ++ wSt cI h a1 a2 a3 a4 r) t.heap) A) args s 0 0 A) (F0 m 42 ls []) := by
    intro d42
    induction d42 with
    | zero =>
      intro i v7 v9 hi e9 e7 hms hd42
      exact absurd hd42 (Nat.not_lt_zero _)
    | succ d42 ih42 =>
      intro i v7 v9 hi e9 e7 hms hd42 H locs hP hD hS ls hl
      refine lv_iload hx hb dX0_markMoments_42 (lv_at hl 9 rfl) ?_
      refine lv_iload hx hb dX0_markMoments_44 (lv_at hl 6 rfl) ?_
      refine zz_icmp_ge (tgt := 70) hx hb dX0_markMoments_46 (by decide) (by omega) (by omega) (fun c_46 => ?_) (fun c_46 => ?_)
      · skip
        exact W.vret hx hb hr (fun t9 ht9 hW9 => ⟨⟨(), rfl, trivial, by show va_P _ _ _ t9.heap; rw [ht9]; exact (by (have h9 : mmC r n zt sm x y = mrkT sm u0 Rn wn i := (by simp only [mmC]; rw [ewn, eu0, eRn, show (crC r n zt x y).toNat = i by omega]; rfl)); rw [h9]; exact hP)⟩, hS.F ht9⟩) hS.2.2 dX0_markMoments_70
      · skip
        have hca := crC_at (t := zt) (a := x) (b := y) (i := (i : Int)) bd1.1 (by omega) (by omega)
        have hcb : clC r x y * zt ≤ 18 * 3 := Int.mul_le_mul (by omega) (by omega) (by omega) (by omega)
        have hcc : ((u0 + i * Rn : Nat) : Int) = fbC r n x y + (i : Int) * freeL (r 0 0) n (r 2) := by rw [eu0, eRn, Int.natCast_add, Int.natCast_mul]
        have hcd : r 3 x - r 3 y = (wn : Int) := by (have h9 : r 3 x - r 3 y = clC r x y := rfl); omega
        refine lv_aload_n hx hb dX0_markMoments_49 rfl (lv_at hl 0 rfl) ?_
        refine lv_iload hx hb dX0_markMoments_50 (lv_at hl 7 rfl) ?_
        refine lv_iload hx hb dX0_markMoments_52 (lv_at hl 5 rfl) ?_
        refine wr_Vv (As := [.int (iI v7), .int (iI (((r 3) x) - ((r 3) y)))]) (rest := []) ⟨hx, hb, hml, hown, hts⟩ (c_X0_mark l dC dI cI cJ cC cO x0 x1 c0 c1 c2 c3 c4 (mrkT sm u0 Rn wn i) (by assumption) v7 (u0 + i * Rn) (by omega) (by omega) (((r 3) x) - ((r 3) y)) wn (by omega) (by omega)) (cwV 2 hts gX0_markMoments_X0_mark rfl rfl rfl (by decide +kernel) ⟨Nat.le_of_ble_eq_true rfl, Nat.le_of_ble_eq_true rfl⟩) hK hP hD hS [0, 1] rfl (by decide) 0 0 rfl rfl (fun u_54 => [(x0, .inr (0, [.int (iI c0), .int (iI c1), .int (iI c2), .int (iI c3), .int (iI c4), .ref x1])), (x1, .inl (cJ, 19, .inr (.inl (fun j => lN ((mrk (mrkT sm u0 Rn wn i) (u0 + i * Rn) wn) j))))), (h, .inr (3, [.int (iI (r 0 0)), .int (iI (r 0 1)), .int (iI (r 0 2)), .int (iI (r 0 3)), .int (iI (r 0 4)), .ref a1, .ref a2, .ref a3, .ref a4])), (a1, .inl (cI, 8, .inl (fun z9 => iI ((r 1) z9)))), (a2, .inl (cI, 8, .inl (fun z9 => iI ((r 2) z9)))), (a3, .inl (cI, 8, .inl (fun z9 => iI ((r 3) z9)))), (a4, .inl (cI, 8, .inl (fun z9 => iI ((r 4) z9))))]) [.inr 0, .inr 1, .inl 2, .inl 3, .inl 4, .inl 5, .inl 6] (fun _ => rfl) (fun _ => rfl) rfl rfl hl.1 rfl (Nat.le_of_ble_eq_true rfl) dX0_markMoments_54 ⟨Nat.zero_le _, Nat.zero_le _⟩ (fun u_54 H locs hz_54 hP hD hS => ?_)
        have hP : va_P (dC, dI) vwCl [(x0, .inr (0, [.int (iI c0), .int (iI c1), .int (iI c2), .int (iI c3), .int (iI c4), .ref x1])), (x1, .inl (cJ, 19, .inr (.inl (fun j => lN ((mrk (mrkT sm u0 Rn wn i) (u0 + i * Rn) wn) j))))), (h, .inr (3, [.int (iI (r 0 0)), .int (iI (r 0 1)), .int (iI (r 0 2)), .int (iI (r 0 3)), .int (iI (r 0 4)), .ref a1, .ref a2, .ref a3, .ref a4])), (a1, .inl (cI, 8, .inl (fun z9 => iI ((r 1) z9)))), (a2, .inl (cI, 8, .inl (fun z9 => iI ((r 2) z9)))), (a3, .inl (cI, 8, .inl (fun z9 => iI ((r 3) z9)))), (a4, .inl (cI, 8, .inl (fun z9 => iI ((r 4) z9))))] H := hP
        have hD : va_D A [(x0, .inr (0, [.int (iI c0), .int (iI c1), .int (iI c2), .int (iI c3), .int (iI c4), .ref x1])), (x1, .inl (cJ, 19, .inr (.inl (fun j => lN ((mrk (mrkT sm u0 Rn wn i) (u0 + i * Rn) wn) j))))), (h, .inr (3, [.int (iI (r 0 0)), .int (iI (r 0 1)), .int (iI (r 0 2)), .int (iI (r 0 3)), .int (iI (r 0 4)), .ref a1, .ref a2, .ref a3, .ref a4])), (a1, .inl (cI, 8, .inl (fun z9 => iI ((r 1) z9)))), (a2, .inl (cI, 8, .inl (fun z9 => iI ((r 2) z9)))), (a3, .inl (cI, 8, .inl (fun z9 => iI ((r 3) z9)))), (a4, .inl (cI, 8, .inl (fun z9 => iI ((r 4) z9))))] := hD
        refine lv_iload hx hb dX0_markMoments_57 (lv_at hl 7 rfl) ?_
        refine lv_iload hx hb dX0_markMoments_59 (lv_at hl 8 rfl) ?_
        refine zz_iadd hx hb dX0_markMoments_61 ?_
        refine lv_istore (lv' := [(7, .int (iI (v7 + (freeL (r 0 0) n (r 2))))), (0, .ref x0), (1, .ref h), (2, .int (iI zx)), (3, .int (iI zy)), (4, .int (iI zt)), (5, .int (iI (((r 3) x) - ((r 3) y)))), (6, .int (iI (crC r n zt x y))), (8, .int (iI (freeL (r 0 0) n (r 2)))), (9, .int (iI v9))]) hx hb dX0_markMoments_62 hl (by decide) rfl (fun ls hl => ?_)
        refine zz_iinc (lv' := [(9, .int (iI (v9 + (1 : Int)))), (7, .int (iI (v7 + (freeL (r 0 0) n (r 2))))), (0, .ref x0), (1, .ref h), (2, .int (iI zx)), (3, .int (iI zy)), (4, .int (iI zt)), (5, .int (iI (((r 3) x) - ((r 3) y)))), (6, .int (iI (crC r n zt x y))), (8, .int (iI (freeL (r 0 0) n (r 2))))]) hx hb dX0_markMoments_64 hl (k := 9) rfl (by decide) rfl (fun ls hl => ?_)
        refine lv_goto (tgt := 42) hx hb dX0_markMoments_67 (by decide) ?_
        have hP : va_P (dC, dI) vwCl [(x0, .inr (0, [.int (iI c0), .int (iI c1), .int (iI c2), .int (iI c3), .int (iI c4), .ref x1])), (x1, .inl (cJ, 19, .inr (.inl (fun j => lN ((mrkT sm u0 Rn wn (i + 1)) j))))), (h, .inr (3, [.int (iI (r 0 0)), .int (iI (r 0 1)), .int (iI (r 0 2)), .int (iI (r 0 3)), .int (iI (r 0 4)), .ref a1, .ref a2, .ref a3, .ref a4])), (a1, .inl (cI, 8, .inl (fun z9 => iI ((r 1) z9)))), (a2, .inl (cI, 8, .inl (fun z9 => iI ((r 2) z9)))), (a3, .inl (cI, 8, .inl (fun z9 => iI ((r 3) z9)))), (a4, .inl (cI, 8, .inl (fun z9 => iI ((r 4) z9))))] H := by exact hP
        have hD : va_D A [(x0, .inr (0, [.int (iI c0), .int (iI c1), .int (iI c2), .int (iI c3), .int (iI c4), .ref x1])), (x1, .inl (cJ, 19, .inr (.inl (fun j => lN ((mrkT sm u0 Rn wn (i + 1)) j))))), (h, .inr (3, [.int (iI (r 0 0)), .int (iI (r 0 1)), .int (iI (r 0 2)), .int (iI (r 0 3)), .int (iI (r 0 4)), .ref a1, .ref a2, .ref a3, .ref a4])), (a1, .inl (cI, 8, .inl (fun z9 => iI ((r 1) z9)))), (a2, .inl (cI, 8, .inl (fun z9 => iI ((r 2) z9)))), (a3, .inl (cI, 8, .inl (fun z9 => iI ((r 3) z9)))), (a4, .inl (cI, 8, .inl (fun z9 => iI ((r 4) z9))))] := by exact hD
        exact ih42 (i + 1) (v7 + (freeL (r 0 0) n (r 2))) (v9 + (1 : Int)) (by omega) (by omega) (by (have h9 := Nat.add_mul i 1 Rn); omega) (mrk_lt hms (by omega)) (by omega) H locs hP hD hS ls (lv_sub hl [2, 3, 4, 5, 6, 7, 8, 1, 9, 0] rfl)
  have hP : va_P (dC, dI) vwCl [(x0, .inr (0, [.int (iI c0), .int (iI c1), .int (iI c2), .int (iI c3), .int (iI c4), .ref x1])), (x1, .inl (cJ, 19, .inr (.inl (fun j => lN ((mrkT sm u0 Rn wn 0) j))))), (h, .inr (3, [.int (iI (r 0 0)), .int (iI (r 0 1)), .int (iI (r 0 2)), .int (iI (r 0 3)), .int (iI (r 0 4)), .ref a1, .ref a2, .ref a3, .ref a4])), (a1, .inl (cI, 8, .inl (fun z9 => iI ((r 1) z9)))), (a2, .inl (cI, 8, .inl (fun z9 => iI ((r 2) z9)))), (a3, .inl (cI, 8, .inl (fun z9 => iI ((r 3) z9)))), (a4, .inl (cI, 8, .inl (fun z9 => iI ((r 4) z9))))] s.heap := by exact hP
  have hD : va_D A [(x0, .inr (0, [.int (iI c0), .int (iI c1), .int (iI c2), .int (iI c3), .int (iI c4), .ref x1])), (x1, .inl (cJ, 19, .inr (.inl (fun j => lN ((mrkT sm u0 Rn wn 0) j))))), (h, .inr (3, [.int (iI (r 0 0)), .int (iI (r 0 1)), .int (iI (r 0 2)), .int (iI (r 0 3)), .int (iI (r 0 4)), .ref a1, .ref a2, .ref a3, .ref a4])), (a1, .inl (cI, 8, .inl (fun z9 => iI ((r 1) z9)))), (a2, .inl (cI, 8, .inl (fun z9 => iI ((r 2) z9)))), (a3, .inl (cI, 8, .inl (fun z9 => iI ((r 3) z9)))), (a4, .inl (cI, 8, .inl (fun z9 => iI ((r 4) z9))))] := by exact hD
  exact lp42 _ 0 (fbtw (r 0 0) n (r 1) (r 2) x y) (0 : Int) (by omega) (by omega) (by (have h9 : fbtw (r 0 0) n (r 1) (r 2) x y = (u0 : Int) := eu0); omega) (hsm) (Nat.lt_succ_self _) s.heap [] hP hD hS ls (lv_sub hl [5, 6, 7, 8, 9, 4, 3, 2, 1, 0] rfl)
set_option maxHeartbeats 4000000 in
set_option maxRecDepth 100000 in
theorem c_J13_bitCount_95d88 (l : Launch) (dC : Nat → ClassId) (dI : Nat → Nat → Nat) (cI cJ cC cO : ClassId) (x : Nat) (hx64 : x < 2 ^ 64) : Met l yJ13_bitCount_95d88 wsJ13_bitCount_95d88 ({ frames := 0, cells := 0, slots := 0, locals := 0 } : Room) (va_Pc [.long (lN x)] (ro_B (dC, dI) vwCl (tyG cI cJ cC cO) ([]))) (ro_Q (fun z => z = ((popN x : Nat) : Int))) 0 0 (fun _ => False) := by
  refine va_MetF (cc := cJ13_bitCount_95d88) (maxL := 2) (ret := (some .int)) (by decide +kernel) rfl ?_
  intro p e s m args below meth c s₁ B hml hv
  obtain ⟨hav, hP, hK⟩ := hv
  have hx := B.exec
  have hb := B.bytes
  have hr := B.returns
  have hts := atoms_spec (ws := wsJ13_bitCount_95d88) B.pre
  have hown : s.vm.findClass RJ13 = some m.cls := findClass_of_methodNamed B.named
  have hlocks := B.notSynchronized
  have hP : va_P (dC, dI) vwCl [] s.heap := hP
  have hl := lv_entry ([.long (lN x)]) (n := 2) (Nat.le_of_ble_eq_true rfl)
  have hent : entryFrame m args 2 = F0 m 0 ((lg_sl ([.long (lN x)]) ++ List.replicate (2 - (lg_sl ([.long (lN x)])).length) Slot.unset).toArray) [] := by rw [hav]; exact lg_entry_eq ..
  rw [hent]
  generalize (lg_sl ([.long (lN x)]) ++ List.replicate (2 - (lg_sl ([.long (lN x)])).length) Slot.unset).toArray = ls at hl ⊢
  have hl : lv_has ls 2 [(0, .long (lN x))] := hl
  refine lv_lload_n hx hb dJ13_bitCount_95d88_0 rfl (lv_at hl 0 rfl) ?_
  refine lv_lload_n hx hb dJ13_bitCount_95d88_1 rfl (lv_at hl 0 rfl) ?_
  refine zz_iconst hx hb dJ13_bitCount_95d88_2 ?_
  refine zz_lushr hx hb (by omega) 1 (by omega) (by omega) (x / 2) (by rfl) dJ13_bitCount_95d88_3 ?_
  refine lv_ldc2 (v := lN 6148914691236517205) hx hb hown (show (Cond.constantLong RJ13 314 (lN 6148914691236517205)).before args s = true from hts (.constantLong RJ13 314 (6148914691236517205)) (by decide +kernel)) dJ13_bitCount_95d88_4 ?_
  refine zz_land hx hb (by omega) (by omega) dJ13_bitCount_95d88_7 ?_
  refine zz_lsub hx hb (Nat.le_trans Nat.and_le_left (Nat.div_le_self _ _)) dJ13_bitCount_95d88_8 ?_
  refine zz_topn (fun y1 ey1 => ?_)
  have by1 : y1 < 2 ^ 64 := by omega
  refine lv_lstore_n (lv' := [(0, .long (lN y1))]) hx hb dJ13_bitCount_95d88_9 rfl hl (by decide) rfl (fun ls hl => ?_)
  refine lv_lload_n hx hb dJ13_bitCount_95d88_10 rfl (lv_at hl 0 rfl) ?_
  refine lv_ldc2 (v := lN 3689348814741910323) hx hb hown (show (Cond.constantLong RJ13 316 (lN 3689348814741910323)).before args s = true from hts (.constantLong RJ13 316 (3689348814741910323)) (by decide +kernel)) dJ13_bitCount_95d88_11 ?_
  refine zz_land hx hb (by omega) (by omega) dJ13_bitCount_95d88_14 ?_
  refine lv_lload_n hx hb dJ13_bitCount_95d88_15 rfl (lv_at hl 0 rfl) ?_
  refine zz_iconst hx hb dJ13_bitCount_95d88_16 ?_
  refine zz_lushr hx hb (by omega) 2 (by omega) (by omega) (y1 / 4) (by rfl) dJ13_bitCount_95d88_17 ?_
  refine lv_ldc2 (v := lN 3689348814741910323) hx hb hown (show (Cond.constantLong RJ13 316 (lN 3689348814741910323)).before args s = true from hts (.constantLong RJ13 316 (3689348814741910323)) (by decide +kernel)) dJ13_bitCount_95d88_18 ?_
  refine zz_land hx hb (by omega) (by omega) dJ13_bitCount_95d88_21 ?_
  refine zz_ladd hx hb  dJ13_bitCount_95d88_22 ?_
  refine zz_topn (fun y2 ey2 => ?_)
  have hq1 := Nat.and_le_right (n := y1) (m := 3689348814741910323)
  have hq2 := Nat.and_le_right (n := y1 / 4) (m := 3689348814741910323)
  have by2 : y2 < 2 ^ 63 := by omega
  refine lv_lstore_n (lv' := [(0, .long (lN y2))]) hx hb dJ13_bitCount_95d88_23 rfl hl (by decide) rfl (fun ls hl => ?_)
  refine lv_lload_n hx hb dJ13_bitCount_95d88_24 rfl (lv_at hl 0 rfl) ?_
  refine lv_lload_n hx hb dJ13_bitCount_95d88_25 rfl (lv_at hl 0 rfl) ?_
  refine zz_iconst hx hb dJ13_bitCount_95d88_26 ?_
  refine zz_lushr hx hb (by omega) 4 (by omega) (by omega) (y2 / 16) (by rfl) dJ13_bitCount_95d88_27 ?_
  refine zz_ladd hx hb  dJ13_bitCount_95d88_28 ?_
  refine lv_ldc2 (v := lN 1085102592571150095) hx hb hown (show (Cond.constantLong RJ13 318 (lN 1085102592571150095)).before args s = true from hts (.constantLong RJ13 318 (1085102592571150095)) (by decide +kernel)) dJ13_bitCount_95d88_29 ?_
  refine zz_land hx hb (by omega) (by omega) dJ13_bitCount_95d88_32 ?_
  refine zz_topn (fun y3 ey3 => ?_)
  have hq3 := Nat.and_le_right (n := y2 + y2 / 16) (m := 1085102592571150095)
  have by3 : y3 < 2 ^ 62 := by omega
  refine lv_lstore_n (lv' := [(0, .long (lN y3))]) hx hb dJ13_bitCount_95d88_33 rfl hl (by decide) rfl (fun ls hl => ?_)
  refine lv_lload_n hx hb dJ13_bitCount_95d88_34 rfl (lv_at hl 0 rfl) ?_
  refine lv_lload_n hx hb dJ13_bitCount_95d88_35 rfl (lv_at hl 0 rfl) ?_
  refine zz_bipush hx hb dJ13_bitCount_95d88_36 (by decide +kernel) ?_
  refine zz_lushr hx hb (by omega) 8 (by omega) (by omega) (y3 / 256) (by rfl) dJ13_bitCount_95d88_38 ?_
  refine zz_ladd hx hb  dJ13_bitCount_95d88_39 ?_
  refine zz_topn (fun y4 ey4 => ?_)
  have by4 : y4 < 2 ^ 63 := by omega
  refine lv_lstore_n (lv' := [(0, .long (lN y4))]) hx hb dJ13_bitCount_95d88_40 rfl hl (by decide) rfl (fun ls hl => ?_)
  refine lv_lload_n hx hb dJ13_bitCount_95d88_41 rfl (lv_at hl 0 rfl) ?_
  refine lv_lload_n hx hb dJ13_bitCount_95d88_42 rfl (lv_at hl 0 rfl) ?_
  refine zz_bipush hx hb dJ13_bitCount_95d88_43 (by decide +kernel) ?_
  refine zz_lushr hx hb (by omega) 16 (by omega) (by omega) (y4 / 65536) (by rfl) dJ13_bitCount_95d88_45 ?_
  refine zz_ladd hx hb  dJ13_bitCount_95d88_46 ?_
  refine zz_topn (fun y5 ey5 => ?_)
  have by5 : y5 < 2 ^ 64 := by omega
  refine lv_lstore_n (lv' := [(0, .long (lN y5))]) hx hb dJ13_bitCount_95d88_47 rfl hl (by decide) rfl (fun ls hl => ?_)
  refine lv_lload_n hx hb dJ13_bitCount_95d88_48 rfl (lv_at hl 0 rfl) ?_
  refine lv_lload_n hx hb dJ13_bitCount_95d88_49 rfl (lv_at hl 0 rfl) ?_
  refine zz_bipush hx hb dJ13_bitCount_95d88_50 (by decide +kernel) ?_
  refine zz_lushr hx hb (by omega) 32 (by omega) (by omega) (y5 / 4294967296) (by rfl) dJ13_bitCount_95d88_52 ?_
  refine zz_ladd hx hb  dJ13_bitCount_95d88_53 ?_
  refine zz_topn (fun y6 ey6 => ?_)
  refine lv_lstore_n (lv' := [(0, .long (lN y6))]) hx hb dJ13_bitCount_95d88_54 rfl hl (by decide) rfl (fun ls hl => ?_)
  refine lv_lload_n hx hb dJ13_bitCount_95d88_55 rfl (lv_at hl 0 rfl) ?_
  refine lv_l2i hx hb (v := nI y6) dJ13_bitCount_95d88_56 (lN_i _) ?_
  refine zz_bipush hx hb dJ13_bitCount_95d88_57 (by decide +kernel) ?_
  refine zz_iand127 hx hb dJ13_bitCount_95d88_59 ?_
  exact W.iret (v := iI ((y6 % 128 : Nat) : Int)) hx hb hr (fun t9 ht9 hW9 => ⟨((y6 % 128 : Nat) : Int), rfl, by rw [ey6, ey5, ey4, ey3, ey2, ey1]; rfl, ht9⟩) (fun q hq => by cases hq) dJ13_bitCount_95d88_60
set_option maxHeartbeats 4000000 in
set_option maxRecDepth 100000 in
theorem c_X0_differentMoments (l : Launch) (dC : Nat → ClassId) (dI : Nat → Nat → Nat) (cI cJ cC cO : ClassId) (x0 x1 : Nat) (c0 c1 c2 c3 c4 : Int) (sm : Nat → Nat) (hsm : ∀ j, sm j < 2 ^ 61) (h a1 a2 a3 a4 : Nat) (r : Nat → Nat → Int) (n : Nat) (hok : Ok r n) (hnn : ∀ a b, a < n → b < n → 0 ≤ fbC r n a b) (zt : Int) (ht : 1 ≤ zt ∧ zt ≤ 3) : Met l yX0_differentMoments wsX0_differentMoments ({ frames := 4, cells := 0, slots := 0, locals := 103 } : Room) (va_Pc [.ref x0, .ref h, .int (iI zt)] (wr_B (dC, dI) vwCl (tyG cI cJ cC cO) (wCr x0 x1 c0 c1 c2 c3 c4 ++ wSn cJ x1 sm ++ wSt cI h a1 a2 a3 a4 r))) (wr_Q (fun (z : Int) (u : Unit) => z = sumI (fun j => ((popN (mpA r n zt (zer sm 19) n j) : Nat) : Int)) 19) (fun u t => va_P (dC, dI) vwCl (wCr x0 x1 c0 c1 c2 c3 c4 ++ wSn cJ x1 (mpA r n zt (zer sm 19) n) ++ wSt cI h a1 a2 a3 a4 r) t.heap) (wr_A (wCr x0 x1 c0 c1 c2 c3 c4 ++ wSn cJ x1 sm ++ wSt cI h a1 a2 a3 a4 r))) 0 0 (wr_A (wCr x0 x1 c0 c1 c2 c3 c4 ++ wSn cJ x1 sm ++ wSt cI h a1 a2 a3 a4 r)) := by
  refine Met.ofW (cc := cX0_differentMoments) (maxL := 5) (ret := (some .int)) (by decide) rfl ?_
  intro p e s m args below meth c s₁ B hml hv
  obtain ⟨hav, hP, hK, hD0⟩ := hv
  have hx := B.exec
  have hb := B.bytes
  have hr := B.returns
  have hts := atoms_spec (ws := wsX0_differentMoments) B.pre
  have hown : s.vm.findClass RX0 = some m.cls := findClass_of_methodNamed B.named
  have hlocks := B.notSynchronized
  have hf9 := hts (.fieldLink RX0 9 "RingRods$Crossings" "seen" "[J") (by decide +kernel)
  have hf22 := hts (.fieldLink RX0 22 "RingRods$State" "rods" "I") (by decide +kernel)
  have hw0 : ∀ w ∈ u_ws RX0 TX0 6, w ∈ wsX0_differentMoments := by decide +kernel
  have hw3 : ∀ w ∈ u_ws RX3 TX3 9, w ∈ wsX0_differentMoments := by decide +kernel
  have hD := va_D.slf hD0
  have hS : va_S (wr_A (wCr x0 x1 c0 c1 c2 c3 c4 ++ wSn cJ x1 sm ++ wSt cI h a1 a2 a3 a4 r)) s.heap s.heap [] := va_S.rf
  show W p l e ({ frames := 4, cells := 0, slots := 0, locals := 103 } : Room) s m args below meth c s.heap [] 0 0 (MQ below (wr_Q (fun (z : Int) (u : Unit) => z = sumI (fun j => ((popN (mpA r n zt (zer sm 19) n j) : Nat) : Int)) 19) (fun u t => va_P (dC, dI) vwCl (wCr x0 x1 c0 c1 c2 c3 c4 ++ wSn cJ x1 (mpA r n zt (zer sm 19) n) ++ wSt cI h a1 a2 a3 a4 r) t.heap) (wr_A (wCr x0 x1 c0 c1 c2 c3 c4 ++ wSn cJ x1 sm ++ wSt cI h a1 a2 a3 a4 r))) args s 0 0 (wr_A (wCr x0 x1 c0 c1 c2 c3 c4 ++ wSn cJ x1 sm ++ wSt cI h a1 a2 a3 a4 r))) (entryFrame m args 5)
  generalize hAe : wr_A (wCr x0 x1 c0 c1 c2 c3 c4 ++ wSn cJ x1 sm ++ wSt cI h a1 a2 a3 a4 r) = A at hD hS ⊢
  have hP : va_P (dC, dI) vwCl [(x0, .inr (0, [.int (iI c0), .int (iI c1), .int (iI c2), .int (iI c3), .int (iI c4), .ref x1])), (x1, .inl (cJ, 19, .inr (.inl (fun j => lN (sm j))))), (h, .inr (3, [.int (iI (r 0 0)), .int (iI (r 0 1)), .int (iI (r 0 2)), .int (iI (r 0 3)), .int (iI (r 0 4)), .ref a1, .ref a2, .ref a3, .ref a4])), (a1, .inl (cI, 8, .inl (fun z9 => iI ((r 1) z9)))), (a2, .inl (cI, 8, .inl (fun z9 => iI ((r 2) z9)))), (a3, .inl (cI, 8, .inl (fun z9 => iI ((r 3) z9)))), (a4, .inl (cI, 8, .inl (fun z9 => iI ((r 4) z9))))] s.heap := hP
  have hD : va_D A [(x0, .inr (0, [.int (iI c0), .int (iI c1), .int (iI c2), .int (iI c3), .int (iI c4), .ref x1])), (x1, .inl (cJ, 19, .inr (.inl (fun j => lN (sm j))))), (h, .inr (3, [.int (iI (r 0 0)), .int (iI (r 0 1)), .int (iI (r 0 2)), .int (iI (r 0 3)), .int (iI (r 0 4)), .ref a1, .ref a2, .ref a3, .ref a4])), (a1, .inl (cI, 8, .inl (fun z9 => iI ((r 1) z9)))), (a2, .inl (cI, 8, .inl (fun z9 => iI ((r 2) z9)))), (a3, .inl (cI, 8, .inl (fun z9 => iI ((r 3) z9)))), (a4, .inl (cI, 8, .inl (fun z9 => iI ((r 4) z9))))] := hD
  have hl := lv_entry ([.ref x0, .ref h, .int (iI zt)]) (n := 5) (Nat.le_of_ble_eq_true rfl)
  have hent : entryFrame m args 5 = F0 m 0 ((lg_sl ([.ref x0, .ref h, .int (iI zt)]) ++ List.replicate (5 - (lg_sl ([.ref x0, .ref h, .int (iI zt)])).length) Slot.unset).toArray) [] := by rw [hav]; exact lg_entry_eq ..
  rw [hent]
  generalize (lg_sl ([.ref x0, .ref h, .int (iI zt)]) ++ List.replicate (5 - (lg_sl ([.ref x0, .ref h, .int (iI zt)])).length) Slot.unset).toArray = ls at hl ⊢
  have hl : lv_has ls 5 [(0, .ref x0), (1, .ref h), (2, .int (iI zt))] := hl
  have bd0 := hok.bd
  have bd1 := hok.fr
  refine zz_iconst hx hb dX0_differentMoments_0 ?_
  refine lv_istore_n (lv' := [(3, .int (iI (0 : Int))), (0, .ref x0), (1, .ref h), (2, .int (iI zt))]) hx hb dX0_differentMoments_1 rfl hl (by decide) rfl (fun ls hl => ?_)
  have lp2 : ∀ (d2 : Nat), ∀ (i : Nat) (v3 : Int) (hi : i ≤ 19) (e3 : v3 = (i : Int)), 19 - i < d2 → ∀ (H : Heap) (locs : List Loc), va_P (dC, dI) vwCl [(x0, .inr (0, [.int (iI c0), .int (iI c1), .int (iI c2), .int (iI c3), .int (iI c4), .ref x1])), (x1, .inl (cJ, 19, .inr (.inl (fun j => lN ((zer sm i) j))))), (h, .inr (3, [.int (iI (r 0 0)), .int (iI (r 0 1)), .int (iI (r 0 2)), .int (iI (r 0 3)), .int (iI (r 0 4)), .ref a1, .ref a2, .ref a3, .ref a4])), (a1, .inl (cI, 8, .inl (fun z9 => iI ((r 1) z9)))), (a2, .inl (cI, 8, .inl (fun z9 => iI ((r 2) z9)))), (a3, .inl (cI, 8, .inl (fun z9 => iI ((r 3) z9)))), (a4, .inl (cI, 8, .inl (fun z9 => iI ((r 4) z9))))] H → va_D A [(x0, .inr (0, [.int (iI c0), .int (iI c1), .int (iI c2), .int (iI c3), .int (iI c4), .ref x1])), (x1, .inl (cJ, 19, .inr (.inl (fun j => lN ((zer sm i) j))))), (h, .inr (3, [.int (iI (r 0 0)), .int (iI (r 0 1)), .int (iI (r 0 2)), .int (iI (r 0 3)), .int (iI (r 0 4)), .ref a1, .ref a2, .ref a3, .ref a4])), (a1, .inl (cI, 8, .inl (fun z9 => iI ((r 1) z9)))), (a2, .inl (cI, 8, .inl (fun z9 => iI ((r 2) z9)))), (a3, .inl (cI, 8, .inl (fun z9 => iI ((r 3) z9)))), (a4, .inl (cI, 8, .inl (fun z9 => iI ((r 4) z9))))] → va_S A s.heap H locs → ∀ ls : Array Slot, lv_has ls 5 [(0, .ref x0), (1, .ref h), (2, .int (iI zt)), (3, .int (iI v3))] → W p l e ({ frames := 4, cells := 0, slots := 0, locals := 103 } : Room) s m args below meth c H locs 0 0 (MQ below (wr_Q (fun (z : Int) (u : Unit) => z = sumI (fun j => ((popN (mpA r n zt (zer sm 19) n j) : Nat) : Int)) 19) (fun u t => va_P (dC, dI) vwCl (wCr x0 x1 c0 c1 c2 c3 c4 ++ wSn cJ x1 (mpA r n zt (zer sm 19) n) ++ wSt cI h a1 a2 a3 a4 r) t.heap) A) args s 0 0 A) (F0 m 2 ls []) := by
    intro d2
    induction d2 with
    | zero =>
      intro i v3 hi e3 hd2
      exact absurd hd2 (Nat.not_lt_zero _)
    | succ d2 ih2 =>
      intro i v3 hi e3 hd2 H locs hP hD hS ls hl
      refine lv_iload_n hx hb dX0_differentMoments_2 rfl (lv_at hl 3 rfl) ?_
      refine lv_aload_n hx hb dX0_differentMoments_3 rfl (lv_at hl 0 rfl) ?_
      refine va_get (D := (dC, dI)) (ci := 0) (v := .ref x1) (C := RX0) (T := TX0) (N := 6) hx hb hts hw0 hown hK hP 0 rfl rfl 5 (by decide) hf9 (fun _ h9 => h9) rfl dX0_differentMoments_4 ?_
      refine va_alen hx hb hK hP 1 1 rfl rfl (v := iI (19 : Int)) rfl dX0_differentMoments_7 ?_
      refine zz_icmp_ge (tgt := 24) hx hb dX0_differentMoments_8 (by decide) (by omega) (by omega) (fun c_8 => ?_) (fun c_8 => ?_)
      · skip
        refine zz_iconst hx hb dX0_differentMoments_24 ?_
        refine lv_istore_n (lv' := [(3, .int (iI (0 : Int))), (0, .ref x0), (1, .ref h), (2, .int (iI zt))]) hx hb dX0_differentMoments_25 rfl hl (by decide) rfl (fun ls hl => ?_)
        have lp26 : ∀ (d26 : Nat), ∀ (a : Nat) (w3 : Int) (ha : a ≤ n) (f3 : w3 = (a : Int)), n - a < d26 → ∀ (H : Heap) (locs : List Loc), va_P (dC, dI) vwCl [(x0, .inr (0, [.int (iI c0), .int (iI c1), .int (iI c2), .int (iI c3), .int (iI c4), .ref x1])), (x1, .inl (cJ, 19, .inr (.inl (fun j => lN ((mpA r n zt (zer sm 19) a) j))))), (h, .inr (3, [.int (iI (r 0 0)), .int (iI (r 0 1)), .int (iI (r 0 2)), .int (iI (r 0 3)), .int (iI (r 0 4)), .ref a1, .ref a2, .ref a3, .ref a4])), (a1, .inl (cI, 8, .inl (fun z9 => iI ((r 1) z9)))), (a2, .inl (cI, 8, .inl (fun z9 => iI ((r 2) z9)))), (a3, .inl (cI, 8, .inl (fun z9 => iI ((r 3) z9)))), (a4, .inl (cI, 8, .inl (fun z9 => iI ((r 4) z9))))] H → va_D A [(x0, .inr (0, [.int (iI c0), .int (iI c1), .int (iI c2), .int (iI c3), .int (iI c4), .ref x1])), (x1, .inl (cJ, 19, .inr (.inl (fun j => lN ((mpA r n zt (zer sm 19) a) j))))), (h, .inr (3, [.int (iI (r 0 0)), .int (iI (r 0 1)), .int (iI (r 0 2)), .int (iI (r 0 3)), .int (iI (r 0 4)), .ref a1, .ref a2, .ref a3, .ref a4])), (a1, .inl (cI, 8, .inl (fun z9 => iI ((r 1) z9)))), (a2, .inl (cI, 8, .inl (fun z9 => iI ((r 2) z9)))), (a3, .inl (cI, 8, .inl (fun z9 => iI ((r 3) z9)))), (a4, .inl (cI, 8, .inl (fun z9 => iI ((r 4) z9))))] → va_S A s.heap H locs → ∀ ls : Array Slot, lv_has ls 5 [(0, .ref x0), (1, .ref h), (2, .int (iI zt)), (3, .int (iI w3))] → W p l e ({ frames := 4, cells := 0, slots := 0, locals := 103 } : Room) s m args below meth c H locs 0 0 (MQ below (wr_Q (fun (z : Int) (u : Unit) => z = sumI (fun j => ((popN (mpA r n zt (zer sm 19) n j) : Nat) : Int)) 19) (fun u t => va_P (dC, dI) vwCl (wCr x0 x1 c0 c1 c2 c3 c4 ++ wSn cJ x1 (mpA r n zt (zer sm 19) n) ++ wSt cI h a1 a2 a3 a4 r) t.heap) A) args s 0 0 A) (F0 m 26 ls []) := by
          intro d26
          induction d26 with
          | zero =>
            intro a w3 ha f3 hd26
            exact absurd hd26 (Nat.not_lt_zero _)
          | succ d26 ih26 =>
            intro a w3 ha f3 hd26 H locs hP hD hS ls hl
            refine lv_iload_n hx hb dX0_differentMoments_26 rfl (lv_at hl 3 rfl) ?_
            refine lv_aload_n hx hb dX0_differentMoments_27 rfl (lv_at hl 1 rfl) ?_
            refine va_get (D := (dC, dI)) (ci := 3) (v := .int (iI (r 0 1))) (C := RX3) (T := TX3) (N := 9) hx hb hts hw3 hown hK hP 2 rfl rfl 1 (by decide) hf22 (fun _ h9 => h9) rfl dX0_differentMoments_28 ?_
            refine zz_icmp_ge (tgt := 67) hx hb dX0_differentMoments_31 (by decide) (by omega) (by omega) (fun c_31 => ?_) (fun c_31 => ?_)
            · skip
              refine zz_iconst hx hb dX0_differentMoments_67 ?_
              refine lv_istore_n (lv' := [(3, .int (iI (0 : Int))), (0, .ref x0), (1, .ref h), (2, .int (iI zt))]) hx hb dX0_differentMoments_68 rfl hl (by decide) rfl (fun ls hl => ?_)
              refine zz_iconst hx hb dX0_differentMoments_69 ?_
              refine lv_istore (lv' := [(4, .int (iI (0 : Int))), (3, .int (iI (0 : Int))), (0, .ref x0), (1, .ref h), (2, .int (iI zt))]) hx hb dX0_differentMoments_70 hl (by decide) rfl (fun ls hl => ?_)
              have lp72 : ∀ (d72 : Nat), ∀ (k : Nat) (y3 y4 : Int) (hk : k ≤ 19) (g4 : y4 = (k : Int)) (g3 : y3 = sumI (fun j => ((popN (mpA r n zt (zer sm 19) n j) : Nat) : Int)) k), 19 - k < d72 → ∀ (H : Heap) (locs : List Loc), va_P (dC, dI) vwCl [(x0, .inr (0, [.int (iI c0), .int (iI c1), .int (iI c2), .int (iI c3), .int (iI c4), .ref x1])), (x1, .inl (cJ, 19, .inr (.inl (fun j => lN ((mpA r n zt (zer sm 19) n) j))))), (h, .inr (3, [.int (iI (r 0 0)), .int (iI (r 0 1)), .int (iI (r 0 2)), .int (iI (r 0 3)), .int (iI (r 0 4)), .ref a1, .ref a2, .ref a3, .ref a4])), (a1, .inl (cI, 8, .inl (fun z9 => iI ((r 1) z9)))), (a2, .inl (cI, 8, .inl (fun z9 => iI ((r 2) z9)))), (a3, .inl (cI, 8, .inl (fun z9 => iI ((r 3) z9)))), (a4, .inl (cI, 8, .inl (fun z9 => iI ((r 4) z9))))] H → va_D A [(x0, .inr (0, [.int (iI c0), .int (iI c1), .int (iI c2), .int (iI c3), .int (iI c4), .ref x1])), (x1, .inl (cJ, 19, .inr (.inl (fun j => lN ((mpA r n zt (zer sm 19) n) j))))), (h, .inr (3, [.int (iI (r 0 0)), .int (iI (r 0 1)), .int (iI (r 0 2)), .int (iI (r 0 3)), .int (iI (r 0 4)), .ref a1, .ref a2, .ref a3, .ref a4])), (a1, .inl (cI, 8, .inl (fun z9 => iI ((r 1) z9)))), (a2, .inl (cI, 8, .inl (fun z9 => iI ((r 2) z9)))), (a3, .inl (cI, 8, .inl (fun z9 => iI ((r 3) z9)))), (a4, .inl (cI, 8, .inl (fun z9 => iI ((r 4) z9))))] → va_S A s.heap H locs → ∀ ls : Array Slot, lv_has ls 5 [(0, .ref x0), (1, .ref h), (2, .int (iI zt)), (3, .int (iI y3)), (4, .int (iI y4))] → W p l e ({ frames := 4, cells := 0, slots := 0, locals := 103 } : Room) s m args below meth c H locs 0 0 (MQ below (wr_Q (fun (z : Int) (u : Unit) => z = sumI (fun j => ((popN (mpA r n zt (zer sm 19) n j) : Nat) : Int)) 19) (fun u t => va_P (dC, dI) vwCl (wCr x0 x1 c0 c1 c2 c3 c4 ++ wSn cJ x1 (mpA r n zt (zer sm 19) n) ++ wSt cI h a1 a2 a3 a4 r) t.heap) A) args s 0 0 A) (F0 m 72 ls []) := by
                intro d72
                induction d72 with
                | zero =>
                  intro k y3 y4 hk g4 g3 hd72
                  exact absurd hd72 (Nat.not_lt_zero _)
                | succ d72 ih72 =>
                  intro k y3 y4 hk g4 g3 hd72 H locs hP hD hS ls hl
                  refine lv_iload hx hb dX0_differentMoments_72 (lv_at hl 4 rfl) ?_
                  refine lv_aload_n hx hb dX0_differentMoments_74 rfl (lv_at hl 0 rfl) ?_
                  refine va_get (D := (dC, dI)) (ci := 0) (v := .ref x1) (C := RX0) (T := TX0) (N := 6) hx hb hts hw0 hown hK hP 0 rfl rfl 5 (by decide) hf9 (fun _ h9 => h9) rfl dX0_differentMoments_75 ?_
                  refine va_alen hx hb hK hP 1 1 rfl rfl (v := iI (19 : Int)) rfl dX0_differentMoments_78 ?_
                  refine zz_icmp_ge (tgt := 101) hx hb dX0_differentMoments_79 (by decide) (by omega) (by omega) (fun c_79 => ?_) (fun c_79 => ?_)
                  · skip
                    refine lv_iload_n hx hb dX0_differentMoments_101 rfl (lv_at hl 3 rfl) ?_
                    exact W.iret (v := iI y3) hx hb hr (fun t9 ht9 hW9 => ⟨⟨y3, (), rfl, by (have h9 : k = 19 := (by omega)); rw [h9] at g3; exact g3, by show va_P _ _ _ t9.heap; rw [ht9]; exact hP⟩, hS.F ht9⟩) hS.2.2 dX0_differentMoments_102
                  · skip
                    refine lv_iload_n hx hb dX0_differentMoments_82 rfl (lv_at hl 3 rfl) ?_
                    refine lv_aload_n hx hb dX0_differentMoments_83 rfl (lv_at hl 0 rfl) ?_
                    refine va_get (D := (dC, dI)) (ci := 0) (v := .ref x1) (C := RX0) (T := TX0) (N := 6) hx hb hts hw0 hown hK hP 0 rfl rfl 5 (by decide) hf9 (fun _ h9 => h9) rfl dX0_differentMoments_84 ?_
                    refine lv_iload hx hb dX0_differentMoments_87 (lv_at hl 4 rfl) ?_
                    refine zz_lald hx hb hK hP 1 1 (f := (mpA r n zt (zer sm 19) n)) rfl rfl (by decide) k (by omega) (by omega) dX0_differentMoments_89 ?_
                    refine ro_S (As := [.long (lN ((mpA r n zt (zer sm 19) n) k))]) (rest := [.int (iI y3)]) ⟨hx, hb, hml, hown, hts⟩ (c_J13_bitCount_95d88 l dC dI cI cJ cC cO ((mpA r n zt (zer sm 19) n) k) (Nat.lt_of_lt_of_le (mpA_lt hok hnn ht (zer_lt hsm 19) n (Nat.le_refl n) k) (by decide))) (va_cwS 1 hts gX0_differentMoments_J13_bitCount_95d88 rfl rfl rfl (by decide +kernel) ⟨Nat.le_of_ble_eq_true rfl, Nat.le_of_ble_eq_true rfl⟩) hK hP [] rfl rfl hl.1 rfl (Nat.le_of_ble_eq_true rfl) dX0_differentMoments_90 ⟨Nat.zero_le _, Nat.zero_le _⟩ (fun z_90 hz_90 => ?_)
                    subst hz_90
                    refine zz_iadd hx hb dX0_differentMoments_93 ?_
                    refine lv_istore_n (lv' := [(3, .int (iI (y3 + ((popN ((mpA r n zt (zer sm 19) n) k) : Nat) : Int)))), (0, .ref x0), (1, .ref h), (2, .int (iI zt)), (4, .int (iI y4))]) hx hb dX0_differentMoments_94 rfl hl (by decide) rfl (fun ls hl => ?_)
                    refine zz_iinc (lv' := [(4, .int (iI (y4 + (1 : Int)))), (3, .int (iI (y3 + ((popN ((mpA r n zt (zer sm 19) n) k) : Nat) : Int)))), (0, .ref x0), (1, .ref h), (2, .int (iI zt))]) hx hb dX0_differentMoments_95 hl (k := 4) rfl (by decide) rfl (fun ls hl => ?_)
                    refine lv_goto (tgt := 72) hx hb dX0_differentMoments_98 (by decide) ?_
                    have hP : va_P (dC, dI) vwCl [(x0, .inr (0, [.int (iI c0), .int (iI c1), .int (iI c2), .int (iI c3), .int (iI c4), .ref x1])), (x1, .inl (cJ, 19, .inr (.inl (fun j => lN ((mpA r n zt (zer sm 19) n) j))))), (h, .inr (3, [.int (iI (r 0 0)), .int (iI (r 0 1)), .int (iI (r 0 2)), .int (iI (r 0 3)), .int (iI (r 0 4)), .ref a1, .ref a2, .ref a3, .ref a4])), (a1, .inl (cI, 8, .inl (fun z9 => iI ((r 1) z9)))), (a2, .inl (cI, 8, .inl (fun z9 => iI ((r 2) z9)))), (a3, .inl (cI, 8, .inl (fun z9 => iI ((r 3) z9)))), (a4, .inl (cI, 8, .inl (fun z9 => iI ((r 4) z9))))] H := by exact hP
                    have hD : va_D A [(x0, .inr (0, [.int (iI c0), .int (iI c1), .int (iI c2), .int (iI c3), .int (iI c4), .ref x1])), (x1, .inl (cJ, 19, .inr (.inl (fun j => lN ((mpA r n zt (zer sm 19) n) j))))), (h, .inr (3, [.int (iI (r 0 0)), .int (iI (r 0 1)), .int (iI (r 0 2)), .int (iI (r 0 3)), .int (iI (r 0 4)), .ref a1, .ref a2, .ref a3, .ref a4])), (a1, .inl (cI, 8, .inl (fun z9 => iI ((r 1) z9)))), (a2, .inl (cI, 8, .inl (fun z9 => iI ((r 2) z9)))), (a3, .inl (cI, 8, .inl (fun z9 => iI ((r 3) z9)))), (a4, .inl (cI, 8, .inl (fun z9 => iI ((r 4) z9))))] := by exact hD
                    exact ih72 (k + 1) (y3 + ((popN ((mpA r n zt (zer sm 19) n) k) : Nat) : Int)) (y4 + (1 : Int)) (by omega) (by omega) (by rw [sumI_s]; omega) (by omega) H locs hP hD hS ls (lv_sub hl [2, 3, 4, 1, 0] rfl)
              have hP : va_P (dC, dI) vwCl [(x0, .inr (0, [.int (iI c0), .int (iI c1), .int (iI c2), .int (iI c3), .int (iI c4), .ref x1])), (x1, .inl (cJ, 19, .inr (.inl (fun j => lN ((mpA r n zt (zer sm 19) n) j))))), (h, .inr (3, [.int (iI (r 0 0)), .int (iI (r 0 1)), .int (iI (r 0 2)), .int (iI (r 0 3)), .int (iI (r 0 4)), .ref a1, .ref a2, .ref a3, .ref a4])), (a1, .inl (cI, 8, .inl (fun z9 => iI ((r 1) z9)))), (a2, .inl (cI, 8, .inl (fun z9 => iI ((r 2) z9)))), (a3, .inl (cI, 8, .inl (fun z9 => iI ((r 3) z9)))), (a4, .inl (cI, 8, .inl (fun z9 => iI ((r 4) z9))))] H := by (have h9 : a = n := (by omega)); rw [h9] at hP; exact hP
              have hD : va_D A [(x0, .inr (0, [.int (iI c0), .int (iI c1), .int (iI c2), .int (iI c3), .int (iI c4), .ref x1])), (x1, .inl (cJ, 19, .inr (.inl (fun j => lN ((mpA r n zt (zer sm 19) n) j))))), (h, .inr (3, [.int (iI (r 0 0)), .int (iI (r 0 1)), .int (iI (r 0 2)), .int (iI (r 0 3)), .int (iI (r 0 4)), .ref a1, .ref a2, .ref a3, .ref a4])), (a1, .inl (cI, 8, .inl (fun z9 => iI ((r 1) z9)))), (a2, .inl (cI, 8, .inl (fun z9 => iI ((r 2) z9)))), (a3, .inl (cI, 8, .inl (fun z9 => iI ((r 3) z9)))), (a4, .inl (cI, 8, .inl (fun z9 => iI ((r 4) z9))))] := by (have h9 : a = n := (by omega)); rw [h9] at hD; exact hD
              exact lp72 _ 0 (0 : Int) (0 : Int) (by omega) (by omega) (by simp [sumI]) (Nat.lt_succ_self _) H locs hP hD hS ls (lv_sub hl [2, 3, 4, 1, 0] rfl)
            · skip
              refine zz_iconst hx hb dX0_differentMoments_34 ?_
              refine lv_istore (lv' := [(4, .int (iI (0 : Int))), (0, .ref x0), (1, .ref h), (2, .int (iI zt)), (3, .int (iI w3))]) hx hb dX0_differentMoments_35 hl (by decide) rfl (fun ls hl => ?_)
              have lp37 : ∀ (d37 : Nat), ∀ (b : Nat) (w4 : Int) (hb8 : b ≤ n) (f4 : w4 = (b : Int)), n - b < d37 → ∀ (H : Heap) (locs : List Loc), va_P (dC, dI) vwCl [(x0, .inr (0, [.int (iI c0), .int (iI c1), .int (iI c2), .int (iI c3), .int (iI c4), .ref x1])), (x1, .inl (cJ, 19, .inr (.inl (fun j => lN ((mpB r n zt (mpA r n zt (zer sm 19) a) a b) j))))), (h, .inr (3, [.int (iI (r 0 0)), .int (iI (r 0 1)), .int (iI (r 0 2)), .int (iI (r 0 3)), .int (iI (r 0 4)), .ref a1, .ref a2, .ref a3, .ref a4])), (a1, .inl (cI, 8, .inl (fun z9 => iI ((r 1) z9)))), (a2, .inl (cI, 8, .inl (fun z9 => iI ((r 2) z9)))), (a3, .inl (cI, 8, .inl (fun z9 => iI ((r 3) z9)))), (a4, .inl (cI, 8, .inl (fun z9 => iI ((r 4) z9))))] H → va_D A [(x0, .inr (0, [.int (iI c0), .int (iI c1), .int (iI c2), .int (iI c3), .int (iI c4), .ref x1])), (x1, .inl (cJ, 19, .inr (.inl (fun j => lN ((mpB r n zt (mpA r n zt (zer sm 19) a) a b) j))))), (h, .inr (3, [.int (iI (r 0 0)), .int (iI (r 0 1)), .int (iI (r 0 2)), .int (iI (r 0 3)), .int (iI (r 0 4)), .ref a1, .ref a2, .ref a3, .ref a4])), (a1, .inl (cI, 8, .inl (fun z9 => iI ((r 1) z9)))), (a2, .inl (cI, 8, .inl (fun z9 => iI ((r 2) z9)))), (a3, .inl (cI, 8, .inl (fun z9 => iI ((r 3) z9)))), (a4, .inl (cI, 8, .inl (fun z9 => iI ((r 4) z9))))] → va_S A s.heap H locs → ∀ ls : Array Slot, lv_has ls 5 [(0, .ref x0), (1, .ref h), (2, .int (iI zt)), (3, .int (iI w3)), (4, .int (iI w4))] → W p l e ({ frames := 4, cells := 0, slots := 0, locals := 103 } : Room) s m args below meth c H locs 0 0 (MQ below (wr_Q (fun (z : Int) (u : Unit) => z = sumI (fun j => ((popN (mpA r n zt (zer sm 19) n j) : Nat) : Int)) 19) (fun u t => va_P (dC, dI) vwCl (wCr x0 x1 c0 c1 c2 c3 c4 ++ wSn cJ x1 (mpA r n zt (zer sm 19) n) ++ wSt cI h a1 a2 a3 a4 r) t.heap) A) args s 0 0 A) (F0 m 37 ls []) := by
                intro d37
                induction d37 with
                | zero =>
                  intro b w4 hb8 f4 hd37
                  exact absurd hd37 (Nat.not_lt_zero _)
                | succ d37 ih37 =>
                  intro b w4 hb8 f4 hd37 H locs hP hD hS ls hl
                  refine lv_iload hx hb dX0_differentMoments_37 (lv_at hl 4 rfl) ?_
                  refine lv_aload_n hx hb dX0_differentMoments_39 rfl (lv_at hl 1 rfl) ?_
                  refine va_get (D := (dC, dI)) (ci := 3) (v := .int (iI (r 0 1))) (C := RX3) (T := TX3) (N := 9) hx hb hts hw3 hown hK hP 2 rfl rfl 1 (by decide) hf22 (fun _ h9 => h9) rfl dX0_differentMoments_40 ?_
                  refine zz_icmp_ge (tgt := 61) hx hb dX0_differentMoments_43 (by decide) (by omega) (by omega) (fun c_43 => ?_) (fun c_43 => ?_)
                  · skip
                    refine zz_iinc (lv' := [(3, .int (iI (w3 + (1 : Int)))), (0, .ref x0), (1, .ref h), (2, .int (iI zt)), (4, .int (iI w4))]) hx hb dX0_differentMoments_61 hl (k := 3) rfl (by decide) rfl (fun ls hl => ?_)
                    refine lv_goto (tgt := 26) hx hb dX0_differentMoments_64 (by decide) ?_
                    have hP : va_P (dC, dI) vwCl [(x0, .inr (0, [.int (iI c0), .int (iI c1), .int (iI c2), .int (iI c3), .int (iI c4), .ref x1])), (x1, .inl (cJ, 19, .inr (.inl (fun j => lN ((mpA r n zt (zer sm 19) (a + 1)) j))))), (h, .inr (3, [.int (iI (r 0 0)), .int (iI (r 0 1)), .int (iI (r 0 2)), .int (iI (r 0 3)), .int (iI (r 0 4)), .ref a1, .ref a2, .ref a3, .ref a4])), (a1, .inl (cI, 8, .inl (fun z9 => iI ((r 1) z9)))), (a2, .inl (cI, 8, .inl (fun z9 => iI ((r 2) z9)))), (a3, .inl (cI, 8, .inl (fun z9 => iI ((r 3) z9)))), (a4, .inl (cI, 8, .inl (fun z9 => iI ((r 4) z9))))] H := by (have h9 : b = n := (by omega)); rw [h9] at hP; exact hP
                    have hD : va_D A [(x0, .inr (0, [.int (iI c0), .int (iI c1), .int (iI c2), .int (iI c3), .int (iI c4), .ref x1])), (x1, .inl (cJ, 19, .inr (.inl (fun j => lN ((mpA r n zt (zer sm 19) (a + 1)) j))))), (h, .inr (3, [.int (iI (r 0 0)), .int (iI (r 0 1)), .int (iI (r 0 2)), .int (iI (r 0 3)), .int (iI (r 0 4)), .ref a1, .ref a2, .ref a3, .ref a4])), (a1, .inl (cI, 8, .inl (fun z9 => iI ((r 1) z9)))), (a2, .inl (cI, 8, .inl (fun z9 => iI ((r 2) z9)))), (a3, .inl (cI, 8, .inl (fun z9 => iI ((r 3) z9)))), (a4, .inl (cI, 8, .inl (fun z9 => iI ((r 4) z9))))] := by (have h9 : b = n := (by omega)); rw [h9] at hD; exact hD
                    exact ih26 (a + 1) (w3 + (1 : Int)) (by omega) (by omega) (by omega) H locs hP hD hS ls (lv_sub hl [1, 2, 3, 0] rfl)
                  · skip
                    refine lv_aload_n hx hb dX0_differentMoments_46 rfl (lv_at hl 0 rfl) ?_
                    refine lv_aload_n hx hb dX0_differentMoments_47 rfl (lv_at hl 1 rfl) ?_
                    refine lv_iload_n hx hb dX0_differentMoments_48 rfl (lv_at hl 3 rfl) ?_
                    refine lv_iload hx hb dX0_differentMoments_49 (lv_at hl 4 rfl) ?_
                    refine lv_iload_n hx hb dX0_differentMoments_51 rfl (lv_at hl 2 rfl) ?_
                    refine wr_Vv (As := [.ref h, .int (iI w3), .int (iI w4), .int (iI zt)]) (rest := []) ⟨hx, hb, hml, hown, hts⟩ (c_X0_markMoments l dC dI cI cJ cC cO x0 x1 c0 c1 c2 c3 c4 (mpB r n zt (mpA r n zt (zer sm 19) a) a b) (mpB_lt hok hnn ht (by omega) (mpA_lt hok hnn ht (zer_lt hsm 19) a ha) b hb8) h a1 a2 a3 a4 r n hok hnn w3 a (by omega) (by omega) w4 b (by omega) (by omega) zt (by omega)) (cwV 4 hts gX0_differentMoments_X0_markMoments rfl rfl rfl (by decide +kernel) ⟨Nat.le_of_ble_eq_true rfl, Nat.le_of_ble_eq_true rfl⟩) hK hP hD hS [0, 1, 2, 3, 4, 5, 6] rfl (by decide) 0 0 rfl rfl (fun u_52 => [(x0, .inr (0, [.int (iI c0), .int (iI c1), .int (iI c2), .int (iI c3), .int (iI c4), .ref x1])), (x1, .inl (cJ, 19, .inr (.inl (fun j => lN ((mmC r n zt (mpB r n zt (mpA r n zt (zer sm 19) a) a b) a b) j))))), (h, .inr (3, [.int (iI (r 0 0)), .int (iI (r 0 1)), .int (iI (r 0 2)), .int (iI (r 0 3)), .int (iI (r 0 4)), .ref a1, .ref a2, .ref a3, .ref a4])), (a1, .inl (cI, 8, .inl (fun z9 => iI ((r 1) z9)))), (a2, .inl (cI, 8, .inl (fun z9 => iI ((r 2) z9)))), (a3, .inl (cI, 8, .inl (fun z9 => iI ((r 3) z9)))), (a4, .inl (cI, 8, .inl (fun z9 => iI ((r 4) z9))))]) [.inr 0, .inr 1, .inr 2, .inr 3, .inr 4, .inr 5, .inr 6] (fun _ => rfl) (fun _ => rfl) rfl rfl hl.1 rfl (Nat.le_of_ble_eq_true rfl) dX0_differentMoments_52 ⟨Nat.zero_le _, Nat.zero_le _⟩ (fun u_52 H locs hz_52 hP hD hS => ?_)
                    have hP : va_P (dC, dI) vwCl [(x0, .inr (0, [.int (iI c0), .int (iI c1), .int (iI c2), .int (iI c3), .int (iI c4), .ref x1])), (x1, .inl (cJ, 19, .inr (.inl (fun j => lN ((mmC r n zt (mpB r n zt (mpA r n zt (zer sm 19) a) a b) a b) j))))), (h, .inr (3, [.int (iI (r 0 0)), .int (iI (r 0 1)), .int (iI (r 0 2)), .int (iI (r 0 3)), .int (iI (r 0 4)), .ref a1, .ref a2, .ref a3, .ref a4])), (a1, .inl (cI, 8, .inl (fun z9 => iI ((r 1) z9)))), (a2, .inl (cI, 8, .inl (fun z9 => iI ((r 2) z9)))), (a3, .inl (cI, 8, .inl (fun z9 => iI ((r 3) z9)))), (a4, .inl (cI, 8, .inl (fun z9 => iI ((r 4) z9))))] H := hP
                    have hD : va_D A [(x0, .inr (0, [.int (iI c0), .int (iI c1), .int (iI c2), .int (iI c3), .int (iI c4), .ref x1])), (x1, .inl (cJ, 19, .inr (.inl (fun j => lN ((mmC r n zt (mpB r n zt (mpA r n zt (zer sm 19) a) a b) a b) j))))), (h, .inr (3, [.int (iI (r 0 0)), .int (iI (r 0 1)), .int (iI (r 0 2)), .int (iI (r 0 3)), .int (iI (r 0 4)), .ref a1, .ref a2, .ref a3, .ref a4])), (a1, .inl (cI, 8, .inl (fun z9 => iI ((r 1) z9)))), (a2, .inl (cI, 8, .inl (fun z9 => iI ((r 2) z9)))), (a3, .inl (cI, 8, .inl (fun z9 => iI ((r 3) z9)))), (a4, .inl (cI, 8, .inl (fun z9 => iI ((r 4) z9))))] := hD
                    refine zz_iinc (lv' := [(4, .int (iI (w4 + (1 : Int)))), (0, .ref x0), (1, .ref h), (2, .int (iI zt)), (3, .int (iI w3))]) hx hb dX0_differentMoments_55 hl (k := 4) rfl (by decide) rfl (fun ls hl => ?_)
                    refine lv_goto (tgt := 37) hx hb dX0_differentMoments_58 (by decide) ?_
                    have hP : va_P (dC, dI) vwCl [(x0, .inr (0, [.int (iI c0), .int (iI c1), .int (iI c2), .int (iI c3), .int (iI c4), .ref x1])), (x1, .inl (cJ, 19, .inr (.inl (fun j => lN ((mpB r n zt (mpA r n zt (zer sm 19) a) a (b + 1)) j))))), (h, .inr (3, [.int (iI (r 0 0)), .int (iI (r 0 1)), .int (iI (r 0 2)), .int (iI (r 0 3)), .int (iI (r 0 4)), .ref a1, .ref a2, .ref a3, .ref a4])), (a1, .inl (cI, 8, .inl (fun z9 => iI ((r 1) z9)))), (a2, .inl (cI, 8, .inl (fun z9 => iI ((r 2) z9)))), (a3, .inl (cI, 8, .inl (fun z9 => iI ((r 3) z9)))), (a4, .inl (cI, 8, .inl (fun z9 => iI ((r 4) z9))))] H := by exact hP
                    have hD : va_D A [(x0, .inr (0, [.int (iI c0), .int (iI c1), .int (iI c2), .int (iI c3), .int (iI c4), .ref x1])), (x1, .inl (cJ, 19, .inr (.inl (fun j => lN ((mpB r n zt (mpA r n zt (zer sm 19) a) a (b + 1)) j))))), (h, .inr (3, [.int (iI (r 0 0)), .int (iI (r 0 1)), .int (iI (r 0 2)), .int (iI (r 0 3)), .int (iI (r 0 4)), .ref a1, .ref a2, .ref a3, .ref a4])), (a1, .inl (cI, 8, .inl (fun z9 => iI ((r 1) z9)))), (a2, .inl (cI, 8, .inl (fun z9 => iI ((r 2) z9)))), (a3, .inl (cI, 8, .inl (fun z9 => iI ((r 3) z9)))), (a4, .inl (cI, 8, .inl (fun z9 => iI ((r 4) z9))))] := by exact hD
                    exact ih37 (b + 1) (w4 + (1 : Int)) (by omega) (by omega) (by omega) H locs hP hD hS ls (lv_sub hl [1, 2, 3, 4, 0] rfl)
              have hP : va_P (dC, dI) vwCl [(x0, .inr (0, [.int (iI c0), .int (iI c1), .int (iI c2), .int (iI c3), .int (iI c4), .ref x1])), (x1, .inl (cJ, 19, .inr (.inl (fun j => lN ((mpB r n zt (mpA r n zt (zer sm 19) a) a 0) j))))), (h, .inr (3, [.int (iI (r 0 0)), .int (iI (r 0 1)), .int (iI (r 0 2)), .int (iI (r 0 3)), .int (iI (r 0 4)), .ref a1, .ref a2, .ref a3, .ref a4])), (a1, .inl (cI, 8, .inl (fun z9 => iI ((r 1) z9)))), (a2, .inl (cI, 8, .inl (fun z9 => iI ((r 2) z9)))), (a3, .inl (cI, 8, .inl (fun z9 => iI ((r 3) z9)))), (a4, .inl (cI, 8, .inl (fun z9 => iI ((r 4) z9))))] H := by exact hP
              have hD : va_D A [(x0, .inr (0, [.int (iI c0), .int (iI c1), .int (iI c2), .int (iI c3), .int (iI c4), .ref x1])), (x1, .inl (cJ, 19, .inr (.inl (fun j => lN ((mpB r n zt (mpA r n zt (zer sm 19) a) a 0) j))))), (h, .inr (3, [.int (iI (r 0 0)), .int (iI (r 0 1)), .int (iI (r 0 2)), .int (iI (r 0 3)), .int (iI (r 0 4)), .ref a1, .ref a2, .ref a3, .ref a4])), (a1, .inl (cI, 8, .inl (fun z9 => iI ((r 1) z9)))), (a2, .inl (cI, 8, .inl (fun z9 => iI ((r 2) z9)))), (a3, .inl (cI, 8, .inl (fun z9 => iI ((r 3) z9)))), (a4, .inl (cI, 8, .inl (fun z9 => iI ((r 4) z9))))] := by exact hD
              exact lp37 _ 0 (0 : Int) (by omega) (by omega) (Nat.lt_succ_self _) H locs hP hD hS ls (lv_sub hl [1, 2, 3, 4, 0] rfl)
        have hP : va_P (dC, dI) vwCl [(x0, .inr (0, [.int (iI c0), .int (iI c1), .int (iI c2), .int (iI c3), .int (iI c4), .ref x1])), (x1, .inl (cJ, 19, .inr (.inl (fun j => lN ((mpA r n zt (zer sm 19) 0) j))))), (h, .inr (3, [.int (iI (r 0 0)), .int (iI (r 0 1)), .int (iI (r 0 2)), .int (iI (r 0 3)), .int (iI (r 0 4)), .ref a1, .ref a2, .ref a3, .ref a4])), (a1, .inl (cI, 8, .inl (fun z9 => iI ((r 1) z9)))), (a2, .inl (cI, 8, .inl (fun z9 => iI ((r 2) z9)))), (a3, .inl (cI, 8, .inl (fun z9 => iI ((r 3) z9)))), (a4, .inl (cI, 8, .inl (fun z9 => iI ((r 4) z9))))] H := by (have h9 : i = 19 := (by omega)); rw [h9] at hP; exact hP
        have hD : va_D A [(x0, .inr (0, [.int (iI c0), .int (iI c1), .int (iI c2), .int (iI c3), .int (iI c4), .ref x1])), (x1, .inl (cJ, 19, .inr (.inl (fun j => lN ((mpA r n zt (zer sm 19) 0) j))))), (h, .inr (3, [.int (iI (r 0 0)), .int (iI (r 0 1)), .int (iI (r 0 2)), .int (iI (r 0 3)), .int (iI (r 0 4)), .ref a1, .ref a2, .ref a3, .ref a4])), (a1, .inl (cI, 8, .inl (fun z9 => iI ((r 1) z9)))), (a2, .inl (cI, 8, .inl (fun z9 => iI ((r 2) z9)))), (a3, .inl (cI, 8, .inl (fun z9 => iI ((r 3) z9)))), (a4, .inl (cI, 8, .inl (fun z9 => iI ((r 4) z9))))] := by (have h9 : i = 19 := (by omega)); rw [h9] at hD; exact hD
        exact lp26 _ 0 (0 : Int) (by omega) (by omega) (Nat.lt_succ_self _) H locs hP hD hS ls (lv_sub hl [1, 2, 3, 0] rfl)
      · skip
        refine lv_aload_n hx hb dX0_differentMoments_11 rfl (lv_at hl 0 rfl) ?_
        refine va_get (D := (dC, dI)) (ci := 0) (v := .ref x1) (C := RX0) (T := TX0) (N := 6) hx hb hts hw0 hown hK hP 0 rfl rfl 5 (by decide) hf9 (fun _ h9 => h9) rfl dX0_differentMoments_12 ?_
        refine lv_iload_n hx hb dX0_differentMoments_15 rfl (lv_at hl 3 rfl) ?_
        refine lv_lconst (v := lN 0) hx hb dX0_differentMoments_16 (by decide) ?_
        refine zz_last hx hb hK hP hD hS 1 1 (f := (zer sm i)) (x := 0) rfl rfl (by decide) i (by omega) (by omega) dX0_differentMoments_17 (fun H locs hP hD hS => ?_)
        have hP : va_P (dC, dI) vwCl [(x0, .inr (0, [.int (iI c0), .int (iI c1), .int (iI c2), .int (iI c3), .int (iI c4), .ref x1])), (x1, .inl (cJ, 19, .inr (.inl (fun j => lN ((upN (zer sm i) i 0) j))))), (h, .inr (3, [.int (iI (r 0 0)), .int (iI (r 0 1)), .int (iI (r 0 2)), .int (iI (r 0 3)), .int (iI (r 0 4)), .ref a1, .ref a2, .ref a3, .ref a4])), (a1, .inl (cI, 8, .inl (fun z9 => iI ((r 1) z9)))), (a2, .inl (cI, 8, .inl (fun z9 => iI ((r 2) z9)))), (a3, .inl (cI, 8, .inl (fun z9 => iI ((r 3) z9)))), (a4, .inl (cI, 8, .inl (fun z9 => iI ((r 4) z9))))] H := hP
        have hD : va_D A [(x0, .inr (0, [.int (iI c0), .int (iI c1), .int (iI c2), .int (iI c3), .int (iI c4), .ref x1])), (x1, .inl (cJ, 19, .inr (.inl (fun j => lN ((upN (zer sm i) i 0) j))))), (h, .inr (3, [.int (iI (r 0 0)), .int (iI (r 0 1)), .int (iI (r 0 2)), .int (iI (r 0 3)), .int (iI (r 0 4)), .ref a1, .ref a2, .ref a3, .ref a4])), (a1, .inl (cI, 8, .inl (fun z9 => iI ((r 1) z9)))), (a2, .inl (cI, 8, .inl (fun z9 => iI ((r 2) z9)))), (a3, .inl (cI, 8, .inl (fun z9 => iI ((r 3) z9)))), (a4, .inl (cI, 8, .inl (fun z9 => iI ((r 4) z9))))] := hD
        refine zz_iinc (lv' := [(3, .int (iI (v3 + (1 : Int)))), (0, .ref x0), (1, .ref h), (2, .int (iI zt))]) hx hb dX0_differentMoments_18 hl (k := 3) rfl (by decide) rfl (fun ls hl => ?_)
        refine lv_goto (tgt := 2) hx hb dX0_differentMoments_21 (by decide) ?_
        have hP : va_P (dC, dI) vwCl [(x0, .inr (0, [.int (iI c0), .int (iI c1), .int (iI c2), .int (iI c3), .int (iI c4), .ref x1])), (x1, .inl (cJ, 19, .inr (.inl (fun j => lN ((zer sm (i + 1)) j))))), (h, .inr (3, [.int (iI (r 0 0)), .int (iI (r 0 1)), .int (iI (r 0 2)), .int (iI (r 0 3)), .int (iI (r 0 4)), .ref a1, .ref a2, .ref a3, .ref a4])), (a1, .inl (cI, 8, .inl (fun z9 => iI ((r 1) z9)))), (a2, .inl (cI, 8, .inl (fun z9 => iI ((r 2) z9)))), (a3, .inl (cI, 8, .inl (fun z9 => iI ((r 3) z9)))), (a4, .inl (cI, 8, .inl (fun z9 => iI ((r 4) z9))))] H := by simp only [zer_s] at hP; exact hP
        have hD : va_D A [(x0, .inr (0, [.int (iI c0), .int (iI c1), .int (iI c2), .int (iI c3), .int (iI c4), .ref x1])), (x1, .inl (cJ, 19, .inr (.inl (fun j => lN ((zer sm (i + 1)) j))))), (h, .inr (3, [.int (iI (r 0 0)), .int (iI (r 0 1)), .int (iI (r 0 2)), .int (iI (r 0 3)), .int (iI (r 0 4)), .ref a1, .ref a2, .ref a3, .ref a4])), (a1, .inl (cI, 8, .inl (fun z9 => iI ((r 1) z9)))), (a2, .inl (cI, 8, .inl (fun z9 => iI ((r 2) z9)))), (a3, .inl (cI, 8, .inl (fun z9 => iI ((r 3) z9)))), (a4, .inl (cI, 8, .inl (fun z9 => iI ((r 4) z9))))] := by simp only [zer_s] at hD; exact hD
        exact ih2 (i + 1) (v3 + (1 : Int)) (by omega) (by omega) (by omega) H locs hP hD hS ls (lv_sub hl [1, 2, 3, 0] rfl)
  have hP : va_P (dC, dI) vwCl [(x0, .inr (0, [.int (iI c0), .int (iI c1), .int (iI c2), .int (iI c3), .int (iI c4), .ref x1])), (x1, .inl (cJ, 19, .inr (.inl (fun j => lN ((zer sm 0) j))))), (h, .inr (3, [.int (iI (r 0 0)), .int (iI (r 0 1)), .int (iI (r 0 2)), .int (iI (r 0 3)), .int (iI (r 0 4)), .ref a1, .ref a2, .ref a3, .ref a4])), (a1, .inl (cI, 8, .inl (fun z9 => iI ((r 1) z9)))), (a2, .inl (cI, 8, .inl (fun z9 => iI ((r 2) z9)))), (a3, .inl (cI, 8, .inl (fun z9 => iI ((r 3) z9)))), (a4, .inl (cI, 8, .inl (fun z9 => iI ((r 4) z9))))] s.heap := by simp only [zer_0]; exact hP
  have hD : va_D A [(x0, .inr (0, [.int (iI c0), .int (iI c1), .int (iI c2), .int (iI c3), .int (iI c4), .ref x1])), (x1, .inl (cJ, 19, .inr (.inl (fun j => lN ((zer sm 0) j))))), (h, .inr (3, [.int (iI (r 0 0)), .int (iI (r 0 1)), .int (iI (r 0 2)), .int (iI (r 0 3)), .int (iI (r 0 4)), .ref a1, .ref a2, .ref a3, .ref a4])), (a1, .inl (cI, 8, .inl (fun z9 => iI ((r 1) z9)))), (a2, .inl (cI, 8, .inl (fun z9 => iI ((r 2) z9)))), (a3, .inl (cI, 8, .inl (fun z9 => iI ((r 3) z9)))), (a4, .inl (cI, 8, .inl (fun z9 => iI ((r 4) z9))))] := by simp only [zer_0]; exact hD
  exact lp2 _ 0 (0 : Int) (by omega) (by omega) (Nat.lt_succ_self _) s.heap [] hP hD hS ls (lv_sub hl [1, 2, 3, 0] rfl)
