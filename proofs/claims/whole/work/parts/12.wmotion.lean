set_option maxHeartbeats 4000000 in
set_option maxRecDepth 100000 in
theorem c_X2_isBefore (l : Launch) (dC : Nat → ClassId) (dI : Nat → Nat → Nat) (cI cJ cC cO : ClassId) (m0 m1 m2 m3 m4 : Nat) (fw fs ft fe : Nat → Int) (h a1 a2 a3 a4 : Nat) (r : Nat → Nat → Int) (n : Nat) (hok : Ok r n) (E : Nat → Int) (hE : ∀ k, k < n → fe k = E k) (hEb : ∀ k, k < n → 0 ≤ E k ∧ E k ≤ 1000) (zx : Int) (x : Nat) (ex : zx = (x : Int)) (hx : x < n) (zy : Int) (y : Nat) (ey : zy = (y : Int)) (hy : y < n) : Met l yX2_isBefore wsX2_isBefore ({ frames := 0, cells := 0, slots := 0, locals := 0 } : Room) (va_Pc [.ref m0, .ref h, .int (iI zx), .int (iI zy)] (ro_B (dC, dI) vwCl (tyG cI cJ cC cO) (wMo cI m0 m1 m2 m3 m4 fw fs ft fe ++ wSt cI h a1 a2 a3 a4 r))) (ro_Q (fun z => (z = 1 ∧ befP E (r 3) x y) ∨ (z = 0 ∧ ¬ befP E (r 3) x y))) 0 0 (fun _ => False) := by
  refine Met.ofW (cc := cX2_isBefore) (maxL := 4) (ret := (some .boolean)) (by decide) rfl ?_
  intro p e s m args below meth c s₁ B hml hv
  obtain ⟨hav, hP, hK⟩ := hv
  have hx := B.exec
  have hb := B.bytes
  have hr := B.returns
  have hts := atoms_spec (ws := wsX2_isBefore) B.pre
  have hown : s.vm.findClass RX2 = some m.cls := findClass_of_methodNamed B.named
  have hlocks := B.notSynchronized
  have hf21 := hts (.fieldLink RX2 21 "RingRods$Motion" "end" "[I") (by decide +kernel)
  have hf54 := hts (.fieldLink RX2 54 "RingRods$State" "speed" "[I") (by decide +kernel)
  have hw2 : ∀ w ∈ u_ws RX2 TX2 4, w ∈ wsX2_isBefore := by decide +kernel
  have hw3 : ∀ w ∈ u_ws RX3 TX3 9, w ∈ wsX2_isBefore := by decide +kernel
  have hP : va_P (dC, dI) vwCl [(m0, .inr (2, [.ref m1, .ref m2, .ref m3, .ref m4])), (m1, .inl (cI, 8, .inl (fun k => iI (fw k)))), (m2, .inl (cI, 8, .inl (fun k => iI (fs k)))), (m3, .inl (cI, 8, .inl (fun k => iI (ft k)))), (m4, .inl (cI, 8, .inl (fun k => iI (fe k)))), (h, .inr (3, [.int (iI (r 0 0)), .int (iI (r 0 1)), .int (iI (r 0 2)), .int (iI (r 0 3)), .int (iI (r 0 4)), .ref a1, .ref a2, .ref a3, .ref a4])), (a1, .inl (cI, 8, .inl (fun k => iI ((r 1) k)))), (a2, .inl (cI, 8, .inl (fun k => iI ((r 2) k)))), (a3, .inl (cI, 8, .inl (fun k => iI ((r 3) k)))), (a4, .inl (cI, 8, .inl (fun k => iI ((r 4) k))))] s.heap := hP
  have hl := lv_entry ([.ref m0, .ref h, .int (iI zx), .int (iI zy)]) (n := 4) (Nat.le_of_ble_eq_true rfl)
  have hent : entryFrame m args 4 = F0 m 0 ((lg_sl ([.ref m0, .ref h, .int (iI zx), .int (iI zy)]) ++ List.replicate (4 - (lg_sl ([.ref m0, .ref h, .int (iI zx), .int (iI zy)])).length) Slot.unset).toArray) [] := by rw [hav]; exact lg_entry_eq ..
  rw [hent]
  generalize (lg_sl ([.ref m0, .ref h, .int (iI zx), .int (iI zy)]) ++ List.replicate (4 - (lg_sl ([.ref m0, .ref h, .int (iI zx), .int (iI zy)])).length) Slot.unset).toArray = ls at hl ⊢
  have hl : lv_has ls 4 [(0, .ref m0), (1, .ref h), (2, .int (iI zx)), (3, .int (iI zy))] := hl
  have bd0 := hok.bd
  have bd1 := hok.fr
  refine lv_aload_n hx hb dX2_isBefore_0 rfl (lv_at hl 0 rfl) ?_
  refine va_get (D := (dC, dI)) (ci := 2) (v := .ref m4) (C := RX2) (T := TX2) (N := 4) hx hb hts hw2 hown hK hP 0 rfl rfl 3 (by decide) hf21 (fun _ h9 => h9) rfl dX2_isBefore_1 ?_
  refine lv_iload_n hx hb dX2_isBefore_4 rfl (lv_at hl 2 rfl) ?_
  refine zz_ialdv hx hb hK hP 4 0 (f := fe) rfl rfl (by decide) x (by omega) (by omega) (v := (E x)) (hE x (by omega)) dX2_isBefore_5 ?_
  have b_5 := hEb x (by omega)
  refine lv_aload_n hx hb dX2_isBefore_6 rfl (lv_at hl 0 rfl) ?_
  refine va_get (D := (dC, dI)) (ci := 2) (v := .ref m4) (C := RX2) (T := TX2) (N := 4) hx hb hts hw2 hown hK hP 0 rfl rfl 3 (by decide) hf21 (fun _ h9 => h9) rfl dX2_isBefore_7 ?_
  refine lv_iload_n hx hb dX2_isBefore_10 rfl (lv_at hl 3 rfl) ?_
  refine zz_ialdv hx hb hK hP 4 0 (f := fe) rfl rfl (by decide) y (by omega) (by omega) (v := (E y)) (hE y (by omega)) dX2_isBefore_11 ?_
  have b_11 := hEb y (by omega)
  refine zz_icmp_eq (tgt := 36) hx hb dX2_isBefore_12 (by decide) (by omega) (by omega) (fun c_12 => ?_) (fun c_12 => ?_)
  · skip
    refine lv_aload_n hx hb dX2_isBefore_36 rfl (lv_at hl 1 rfl) ?_
    refine va_get (D := (dC, dI)) (ci := 3) (v := .ref a3) (C := RX3) (T := TX3) (N := 9) hx hb hts hw3 hown hK hP 5 rfl rfl 7 (by decide) hf54 (fun _ h9 => h9) rfl dX2_isBefore_37 ?_
    refine lv_iload_n hx hb dX2_isBefore_40 rfl (lv_at hl 2 rfl) ?_
    refine zz_iald hx hb hK hP 8 0 (f := (r 3)) rfl rfl (by decide) x (by omega) (by omega) dX2_isBefore_41 ?_
    have b_41 := hok.at (k := x) (by omega)
    refine lv_aload_n hx hb dX2_isBefore_42 rfl (lv_at hl 1 rfl) ?_
    refine va_get (D := (dC, dI)) (ci := 3) (v := .ref a3) (C := RX3) (T := TX3) (N := 9) hx hb hts hw3 hown hK hP 5 rfl rfl 7 (by decide) hf54 (fun _ h9 => h9) rfl dX2_isBefore_43 ?_
    refine lv_iload_n hx hb dX2_isBefore_46 rfl (lv_at hl 3 rfl) ?_
    refine zz_iald hx hb hK hP 8 0 (f := (r 3)) rfl rfl (by decide) y (by omega) (by omega) dX2_isBefore_47 ?_
    have b_47 := hok.at (k := y) (by omega)
    refine zz_icmp_eq (tgt := 72) hx hb dX2_isBefore_48 (by decide) (by omega) (by omega) (fun c_48 => ?_) (fun c_48 => ?_)
    · skip
      refine lv_iload_n hx hb dX2_isBefore_72 rfl (lv_at hl 2 rfl) ?_
      refine lv_iload_n hx hb dX2_isBefore_73 rfl (lv_at hl 3 rfl) ?_
      refine zz_icmp_ge (tgt := 81) hx hb dX2_isBefore_74 (by decide) (by omega) (by omega) (fun c_74 => ?_) (fun c_74 => ?_)
      · skip
        refine zz_iconst hx hb dX2_isBefore_81 ?_
        exact W.zret (v := iI (0 : Int)) hx hb hr (rfl) (fun t9 ht9 hW9 => ⟨(0 : Int), rfl, Or.inr ⟨rfl, by simp only [befP]; omega⟩, ht9⟩) (fun q hq => by cases hq) dX2_isBefore_82
      · skip
        refine zz_iconst hx hb dX2_isBefore_77 ?_
        refine lv_goto (tgt := 82) hx hb dX2_isBefore_78 (by decide) ?_
        exact W.zret (v := iI (1 : Int)) hx hb hr (rfl) (fun t9 ht9 hW9 => ⟨(1 : Int), rfl, Or.inl ⟨rfl, by simp only [befP]; omega⟩, ht9⟩) (fun q hq => by cases hq) dX2_isBefore_82
    · skip
      refine lv_aload_n hx hb dX2_isBefore_51 rfl (lv_at hl 1 rfl) ?_
      refine va_get (D := (dC, dI)) (ci := 3) (v := .ref a3) (C := RX3) (T := TX3) (N := 9) hx hb hts hw3 hown hK hP 5 rfl rfl 7 (by decide) hf54 (fun _ h9 => h9) rfl dX2_isBefore_52 ?_
      refine lv_iload_n hx hb dX2_isBefore_55 rfl (lv_at hl 2 rfl) ?_
      refine zz_iald hx hb hK hP 8 0 (f := (r 3)) rfl rfl (by decide) x (by omega) (by omega) dX2_isBefore_56 ?_
      have b_56 := hok.at (k := x) (by omega)
      refine lv_aload_n hx hb dX2_isBefore_57 rfl (lv_at hl 1 rfl) ?_
      refine va_get (D := (dC, dI)) (ci := 3) (v := .ref a3) (C := RX3) (T := TX3) (N := 9) hx hb hts hw3 hown hK hP 5 rfl rfl 7 (by decide) hf54 (fun _ h9 => h9) rfl dX2_isBefore_58 ?_
      refine lv_iload_n hx hb dX2_isBefore_61 rfl (lv_at hl 3 rfl) ?_
      refine zz_iald hx hb hK hP 8 0 (f := (r 3)) rfl rfl (by decide) y (by omega) (by omega) dX2_isBefore_62 ?_
      have b_62 := hok.at (k := y) (by omega)
      refine zz_icmp_ge (tgt := 70) hx hb dX2_isBefore_63 (by decide) (by omega) (by omega) (fun c_63 => ?_) (fun c_63 => ?_)
      · skip
        refine zz_iconst hx hb dX2_isBefore_70 ?_
        exact W.zret (v := iI (0 : Int)) hx hb hr (rfl) (fun t9 ht9 hW9 => ⟨(0 : Int), rfl, Or.inr ⟨rfl, by simp only [befP]; omega⟩, ht9⟩) (fun q hq => by cases hq) dX2_isBefore_71
      · skip
        refine zz_iconst hx hb dX2_isBefore_66 ?_
        refine lv_goto (tgt := 71) hx hb dX2_isBefore_67 (by decide) ?_
        exact W.zret (v := iI (1 : Int)) hx hb hr (rfl) (fun t9 ht9 hW9 => ⟨(1 : Int), rfl, Or.inl ⟨rfl, by simp only [befP]; omega⟩, ht9⟩) (fun q hq => by cases hq) dX2_isBefore_71
  · skip
    refine lv_aload_n hx hb dX2_isBefore_15 rfl (lv_at hl 0 rfl) ?_
    refine va_get (D := (dC, dI)) (ci := 2) (v := .ref m4) (C := RX2) (T := TX2) (N := 4) hx hb hts hw2 hown hK hP 0 rfl rfl 3 (by decide) hf21 (fun _ h9 => h9) rfl dX2_isBefore_16 ?_
    refine lv_iload_n hx hb dX2_isBefore_19 rfl (lv_at hl 2 rfl) ?_
    refine zz_ialdv hx hb hK hP 4 0 (f := fe) rfl rfl (by decide) x (by omega) (by omega) (v := (E x)) (hE x (by omega)) dX2_isBefore_20 ?_
    have b_20 := hEb x (by omega)
    refine lv_aload_n hx hb dX2_isBefore_21 rfl (lv_at hl 0 rfl) ?_
    refine va_get (D := (dC, dI)) (ci := 2) (v := .ref m4) (C := RX2) (T := TX2) (N := 4) hx hb hts hw2 hown hK hP 0 rfl rfl 3 (by decide) hf21 (fun _ h9 => h9) rfl dX2_isBefore_22 ?_
    refine lv_iload_n hx hb dX2_isBefore_25 rfl (lv_at hl 3 rfl) ?_
    refine zz_ialdv hx hb hK hP 4 0 (f := fe) rfl rfl (by decide) y (by omega) (by omega) (v := (E y)) (hE y (by omega)) dX2_isBefore_26 ?_
    have b_26 := hEb y (by omega)
    refine zz_icmp_ge (tgt := 34) hx hb dX2_isBefore_27 (by decide) (by omega) (by omega) (fun c_27 => ?_) (fun c_27 => ?_)
    · skip
      refine zz_iconst hx hb dX2_isBefore_34 ?_
      exact W.zret (v := iI (0 : Int)) hx hb hr (rfl) (fun t9 ht9 hW9 => ⟨(0 : Int), rfl, Or.inr ⟨rfl, by simp only [befP]; omega⟩, ht9⟩) (fun q hq => by cases hq) dX2_isBefore_35
    · skip
      refine zz_iconst hx hb dX2_isBefore_30 ?_
      refine lv_goto (tgt := 35) hx hb dX2_isBefore_31 (by decide) ?_
      exact W.zret (v := iI (1 : Int)) hx hb hr (rfl) (fun t9 ht9 hW9 => ⟨(1 : Int), rfl, Or.inl ⟨rfl, by simp only [befP]; omega⟩, ht9⟩) (fun q hq => by cases hq) dX2_isBefore_35
set_option maxHeartbeats 4000000 in
set_option maxRecDepth 100000 in
theorem c_X2_rankAtEnd (l : Launch) (dC : Nat → ClassId) (dI : Nat → Nat → Nat) (cI cJ cC cO : ClassId) (m0 m1 m2 m3 m4 : Nat) (fw fs ft fe : Nat → Int) (h a1 a2 a3 a4 : Nat) (r : Nat → Nat → Int) (n : Nat) (hok : Ok r n) (E : Nat → Int) (hE : ∀ k, k < n → fe k = E k) (hEb : ∀ k, k < n → 0 ≤ E k ∧ E k ≤ 1000) (zx : Int) (x : Nat) (ex : zx = (x : Int)) (hx : x < n) : Met l yX2_rankAtEnd wsX2_rankAtEnd ({ frames := 1, cells := 0, slots := 0, locals := 23 } : Room) (va_Pc [.ref m0, .ref h, .int (iI zx)] (ro_B (dC, dI) vwCl (tyG cI cJ cC cO) (wMo cI m0 m1 m2 m3 m4 fw fs ft fe ++ wSt cI h a1 a2 a3 a4 r))) (ro_Q (fun z => z = rEn n E (r 3) x)) 0 0 (fun _ => False) := by
  refine Met.ofW (cc := cX2_rankAtEnd) (maxL := 5) (ret := (some .int)) (by decide) rfl ?_
  intro p e s m args below meth c s₁ B hml hv
  obtain ⟨hav, hP, hK⟩ := hv
  have hx := B.exec
  have hb := B.bytes
  have hr := B.returns
  have hts := atoms_spec (ws := wsX2_rankAtEnd) B.pre
  have hown : s.vm.findClass RX2 = some m.cls := findClass_of_methodNamed B.named
  have hlocks := B.notSynchronized
  have hf30 := hts (.fieldLink RX2 30 "RingRods$State" "rods" "I") (by decide +kernel)
  have hw3 : ∀ w ∈ u_ws RX3 TX3 9, w ∈ wsX2_rankAtEnd := by decide +kernel
  have hP : va_P (dC, dI) vwCl [(m0, .inr (2, [.ref m1, .ref m2, .ref m3, .ref m4])), (m1, .inl (cI, 8, .inl (fun k => iI (fw k)))), (m2, .inl (cI, 8, .inl (fun k => iI (fs k)))), (m3, .inl (cI, 8, .inl (fun k => iI (ft k)))), (m4, .inl (cI, 8, .inl (fun k => iI (fe k)))), (h, .inr (3, [.int (iI (r 0 0)), .int (iI (r 0 1)), .int (iI (r 0 2)), .int (iI (r 0 3)), .int (iI (r 0 4)), .ref a1, .ref a2, .ref a3, .ref a4])), (a1, .inl (cI, 8, .inl (fun k => iI ((r 1) k)))), (a2, .inl (cI, 8, .inl (fun k => iI ((r 2) k)))), (a3, .inl (cI, 8, .inl (fun k => iI ((r 3) k)))), (a4, .inl (cI, 8, .inl (fun k => iI ((r 4) k))))] s.heap := hP
  have hl := lv_entry ([.ref m0, .ref h, .int (iI zx)]) (n := 5) (Nat.le_of_ble_eq_true rfl)
  have hent : entryFrame m args 5 = F0 m 0 ((lg_sl ([.ref m0, .ref h, .int (iI zx)]) ++ List.replicate (5 - (lg_sl ([.ref m0, .ref h, .int (iI zx)])).length) Slot.unset).toArray) [] := by rw [hav]; exact lg_entry_eq ..
  rw [hent]
  generalize (lg_sl ([.ref m0, .ref h, .int (iI zx)]) ++ List.replicate (5 - (lg_sl ([.ref m0, .ref h, .int (iI zx)])).length) Slot.unset).toArray = ls at hl ⊢
  have hl : lv_has ls 5 [(0, .ref m0), (1, .ref h), (2, .int (iI zx))] := hl
  have bd0 := hok.bd
  have bd1 := hok.fr
  refine zz_iconst hx hb dX2_rankAtEnd_0 ?_
  refine lv_istore_n (lv' := [(3, .int (iI (0 : Int))), (0, .ref m0), (1, .ref h), (2, .int (iI zx))]) hx hb dX2_rankAtEnd_1 rfl hl (by decide) rfl (fun ls hl => ?_)
  refine zz_iconst hx hb dX2_rankAtEnd_2 ?_
  refine lv_istore (lv' := [(4, .int (iI (0 : Int))), (3, .int (iI (0 : Int))), (0, .ref m0), (1, .ref h), (2, .int (iI zx))]) hx hb dX2_rankAtEnd_3 hl (by decide) rfl (fun ls hl => ?_)
  have lp5 : ∀ (d5 : Nat), ∀ (i : Nat) (v3 v4 : Int) (hi : i ≤ n) (e4 : v4 = (i : Int)) (e3 : v3 = sumI (fun k => if befP E (r 3) k x then 1 else 0) i), n - i < d5 → ∀ ls : Array Slot, lv_has ls 5 [(0, .ref m0), (1, .ref h), (2, .int (iI zx)), (3, .int (iI v3)), (4, .int (iI v4))] → W p l e ({ frames := 1, cells := 0, slots := 0, locals := 23 } : Room) s m args below meth c s.heap [] 0 0 (MQ below (ro_Q (fun z => z = rEn n E (r 3) x)) args s 0 0 (fun _ => False)) (F0 m 5 ls []) := by
    intro d5
    induction d5 with
    | zero =>
      intro i v3 v4 hi e4 e3 hd5
      exact absurd hd5 (Nat.not_lt_zero _)
    | succ d5 ih5 =>
      intro i v3 v4 hi e4 e3 hd5 ls hl
      refine lv_iload hx hb dX2_rankAtEnd_5 (lv_at hl 4 rfl) ?_
      refine lv_aload_n hx hb dX2_rankAtEnd_7 rfl (lv_at hl 1 rfl) ?_
      refine va_get (D := (dC, dI)) (ci := 3) (v := .int (iI (r 0 1))) (C := RX3) (T := TX3) (N := 9) hx hb hts hw3 hown hK hP 5 rfl rfl 1 (by decide) hf30 (fun _ h9 => h9) rfl dX2_rankAtEnd_8 ?_
      refine zz_icmp_ge (tgt := 34) hx hb dX2_rankAtEnd_11 (by decide) (by omega) (by omega) (fun c_11 => ?_) (fun c_11 => ?_)
      · skip
        refine lv_iload_n hx hb dX2_rankAtEnd_34 rfl (lv_at hl 3 rfl) ?_
        exact W.iret (v := iI v3) hx hb hr (fun t9 ht9 hW9 => ⟨v3, rfl, by (have h9 : i = n := (by omega)); rw [h9] at e3; exact e3, ht9⟩) (fun q hq => by cases hq) dX2_rankAtEnd_35
      · skip
        refine lv_aload_n hx hb dX2_rankAtEnd_14 rfl (lv_at hl 0 rfl) ?_
        refine lv_aload_n hx hb dX2_rankAtEnd_15 rfl (lv_at hl 1 rfl) ?_
        refine lv_iload hx hb dX2_rankAtEnd_16 (lv_at hl 4 rfl) ?_
        refine lv_iload_n hx hb dX2_rankAtEnd_18 rfl (lv_at hl 2 rfl) ?_
        refine ro_V (As := [.ref h, .int (iI v4), .int (iI zx)]) (rest := []) ⟨hx, hb, hml, hown, hts⟩ (c_X2_isBefore l dC dI cI cJ cC cO m0 m1 m2 m3 m4 fw fs ft fe h a1 a2 a3 a4 r n hok E hE hEb v4 i (by omega) (by omega) zx x (by omega) (by omega)) (cwV 3 hts gX2_rankAtEnd_X2_isBefore rfl rfl rfl (by decide +kernel) ⟨Nat.le_of_ble_eq_true rfl, Nat.le_of_ble_eq_true rfl⟩) hK hP [0, 1, 2, 3, 4, 5, 6, 7, 8, 9] rfl 2 0 rfl rfl rfl hl.1 rfl (Nat.le_of_ble_eq_true rfl) dX2_rankAtEnd_19 ⟨Nat.zero_le _, Nat.zero_le _⟩ (fun z_19 hz_19 => ?_)
        refine zz_if_eq (tgt := 28) hx hb dX2_rankAtEnd_22 (by decide) (by omega) (fun c_22 => ?_) (fun c_22 => ?_)
        · skip
          refine zz_iinc (lv' := [(4, .int (iI (v4 + (1 : Int)))), (0, .ref m0), (1, .ref h), (2, .int (iI zx)), (3, .int (iI v3))]) hx hb dX2_rankAtEnd_28 hl (k := 4) rfl (by decide) rfl (fun ls hl => ?_)
          refine lv_goto (tgt := 5) hx hb dX2_rankAtEnd_31 (by decide) ?_
          exact ih5 (i + 1) v3 (v4 + (1 : Int)) (by omega) (by omega) (by rw [sumI_s]; (rcases hz_19 with q9 | q9); (rw [if_pos q9.2]; omega); (rw [if_neg q9.2]; omega)) (by omega) ls (lv_sub hl [1, 2, 3, 4, 0] rfl)
        · skip
          refine zz_iinc (lv' := [(3, .int (iI (v3 + (1 : Int)))), (0, .ref m0), (1, .ref h), (2, .int (iI zx)), (4, .int (iI v4))]) hx hb dX2_rankAtEnd_25 hl (k := 3) rfl (by decide) rfl (fun ls hl => ?_)
          refine zz_iinc (lv' := [(4, .int (iI (v4 + (1 : Int)))), (3, .int (iI (v3 + (1 : Int)))), (0, .ref m0), (1, .ref h), (2, .int (iI zx))]) hx hb dX2_rankAtEnd_28 hl (k := 4) rfl (by decide) rfl (fun ls hl => ?_)
          refine lv_goto (tgt := 5) hx hb dX2_rankAtEnd_31 (by decide) ?_
          exact ih5 (i + 1) (v3 + (1 : Int)) (v4 + (1 : Int)) (by omega) (by omega) (by rw [sumI_s]; (rcases hz_19 with q9 | q9); (rw [if_pos q9.2]; omega); (rw [if_neg q9.2]; omega)) (by omega) ls (lv_sub hl [2, 3, 4, 1, 0] rfl)
  exact lp5 _ 0 (0 : Int) (0 : Int) (by omega) (by omega) (by simp [sumI]) (Nat.lt_succ_self _) ls (lv_sub hl [2, 3, 4, 1, 0] rfl)
set_option maxHeartbeats 4000000 in
set_option maxRecDepth 100000 in
theorem c_X2_movePoints (l : Launch) (dC : Nat → ClassId) (dI : Nat → Nat → Nat) (cI cJ cC cO : ClassId) (m0 m1 m2 m3 m4 : Nat) (fw fs ft fe : Nat → Int) (h a1 a2 a3 a4 : Nat) (r : Nat → Nat → Int) (n : Nat) (hok : Ok r n) (zt : Int) (ht : 0 ≤ zt ∧ zt ≤ 100) : Met l yX2_movePoints wsX2_movePoints ({ frames := 2, cells := 0, slots := 0, locals := 48 } : Room) (va_Pc [.ref m0, .ref h, .int (iI zt), .int (iI (freeL (r 0 0) n (r 2)))] (wr_B (dC, dI) vwCl (tyG cI cJ cC cO) (wMo cI m0 m1 m2 m3 m4 fw fs ft fe ++ wSt cI h a1 a2 a3 a4 r))) (wr_Q (fun (z : Int) (u : Unit) => z = fsT r n zt n) (fun u t => va_P (dC, dI) vwCl (wMo cI m0 m1 m2 m3 m4 fw fs (cpi ft (fsX r n) n) (cpi fe (fsE r n zt) n) ++ wSt cI h a1 a2 a3 a4 r) t.heap) (wr_A (wMo cI m0 m1 m2 m3 m4 fw fs ft fe ++ wSt cI h a1 a2 a3 a4 r))) 0 0 (wr_A (wMo cI m0 m1 m2 m3 m4 fw fs ft fe ++ wSt cI h a1 a2 a3 a4 r)) := by
  refine Met.ofW (cc := cX2_movePoints) (maxL := 7) (ret := (some .int)) (by decide) rfl ?_
  intro p e s m args below meth c s₁ B hml hv
  obtain ⟨hav, hP, hK, hD0⟩ := hv
  have hx := B.exec
  have hb := B.bytes
  have hr := B.returns
  have hts := atoms_spec (ws := wsX2_movePoints) B.pre
  have hown : s.vm.findClass RX2 = some m.cls := findClass_of_methodNamed B.named
  have hlocks := B.notSynchronized
  have hf18 := hts (.fieldLink RX2 18 "RingRods$Motion" "start" "[I") (by decide +kernel)
  have hf21 := hts (.fieldLink RX2 21 "RingRods$Motion" "end" "[I") (by decide +kernel)
  have hf30 := hts (.fieldLink RX2 30 "RingRods$State" "rods" "I") (by decide +kernel)
  have hf54 := hts (.fieldLink RX2 54 "RingRods$State" "speed" "[I") (by decide +kernel)
  have hw2 : ∀ w ∈ u_ws RX2 TX2 4, w ∈ wsX2_movePoints := by decide +kernel
  have hw3 : ∀ w ∈ u_ws RX3 TX3 9, w ∈ wsX2_movePoints := by decide +kernel
  have hD := va_D.slf hD0
  have hS : va_S (wr_A (wMo cI m0 m1 m2 m3 m4 fw fs ft fe ++ wSt cI h a1 a2 a3 a4 r)) s.heap s.heap [] := va_S.rf
  show W p l e ({ frames := 2, cells := 0, slots := 0, locals := 48 } : Room) s m args below meth c s.heap [] 0 0 (MQ below (wr_Q (fun (z : Int) (u : Unit) => z = fsT r n zt n) (fun u t => va_P (dC, dI) vwCl (wMo cI m0 m1 m2 m3 m4 fw fs (cpi ft (fsX r n) n) (cpi fe (fsE r n zt) n) ++ wSt cI h a1 a2 a3 a4 r) t.heap) (wr_A (wMo cI m0 m1 m2 m3 m4 fw fs ft fe ++ wSt cI h a1 a2 a3 a4 r))) args s 0 0 (wr_A (wMo cI m0 m1 m2 m3 m4 fw fs ft fe ++ wSt cI h a1 a2 a3 a4 r))) (entryFrame m args 7)
  generalize hAe : wr_A (wMo cI m0 m1 m2 m3 m4 fw fs ft fe ++ wSt cI h a1 a2 a3 a4 r) = A at hD hS ⊢
  have hP : va_P (dC, dI) vwCl [(m0, .inr (2, [.ref m1, .ref m2, .ref m3, .ref m4])), (m1, .inl (cI, 8, .inl (fun k => iI (fw k)))), (m2, .inl (cI, 8, .inl (fun k => iI (fs k)))), (m3, .inl (cI, 8, .inl (fun k => iI (ft k)))), (m4, .inl (cI, 8, .inl (fun k => iI (fe k)))), (h, .inr (3, [.int (iI (r 0 0)), .int (iI (r 0 1)), .int (iI (r 0 2)), .int (iI (r 0 3)), .int (iI (r 0 4)), .ref a1, .ref a2, .ref a3, .ref a4])), (a1, .inl (cI, 8, .inl (fun k => iI ((r 1) k)))), (a2, .inl (cI, 8, .inl (fun k => iI ((r 2) k)))), (a3, .inl (cI, 8, .inl (fun k => iI ((r 3) k)))), (a4, .inl (cI, 8, .inl (fun k => iI ((r 4) k))))] s.heap := hP
  have hD : va_D A [(m0, .inr (2, [.ref m1, .ref m2, .ref m3, .ref m4])), (m1, .inl (cI, 8, .inl (fun k => iI (fw k)))), (m2, .inl (cI, 8, .inl (fun k => iI (fs k)))), (m3, .inl (cI, 8, .inl (fun k => iI (ft k)))), (m4, .inl (cI, 8, .inl (fun k => iI (fe k)))), (h, .inr (3, [.int (iI (r 0 0)), .int (iI (r 0 1)), .int (iI (r 0 2)), .int (iI (r 0 3)), .int (iI (r 0 4)), .ref a1, .ref a2, .ref a3, .ref a4])), (a1, .inl (cI, 8, .inl (fun k => iI ((r 1) k)))), (a2, .inl (cI, 8, .inl (fun k => iI ((r 2) k)))), (a3, .inl (cI, 8, .inl (fun k => iI ((r 3) k)))), (a4, .inl (cI, 8, .inl (fun k => iI ((r 4) k))))] := hD
  have hl := lv_entry ([.ref m0, .ref h, .int (iI zt), .int (iI (freeL (r 0 0) n (r 2)))]) (n := 7) (Nat.le_of_ble_eq_true rfl)
  have hent : entryFrame m args 7 = F0 m 0 ((lg_sl ([.ref m0, .ref h, .int (iI zt), .int (iI (freeL (r 0 0) n (r 2)))]) ++ List.replicate (7 - (lg_sl ([.ref m0, .ref h, .int (iI zt), .int (iI (freeL (r 0 0) n (r 2)))])).length) Slot.unset).toArray) [] := by rw [hav]; exact lg_entry_eq ..
  rw [hent]
  generalize (lg_sl ([.ref m0, .ref h, .int (iI zt), .int (iI (freeL (r 0 0) n (r 2)))]) ++ List.replicate (7 - (lg_sl ([.ref m0, .ref h, .int (iI zt), .int (iI (freeL (r 0 0) n (r 2)))])).length) Slot.unset).toArray = ls at hl ⊢
  have hl : lv_has ls 7 [(0, .ref m0), (1, .ref h), (2, .int (iI zt)), (3, .int (iI (freeL (r 0 0) n (r 2))))] := hl
  have bd0 := hok.bd
  have bd1 := hok.fr
  refine zz_iconst hx hb dX2_movePoints_0 ?_
  refine lv_istore (lv' := [(4, .int (iI (0 : Int))), (0, .ref m0), (1, .ref h), (2, .int (iI zt)), (3, .int (iI (freeL (r 0 0) n (r 2))))]) hx hb dX2_movePoints_1 hl (by decide) rfl (fun ls hl => ?_)
  refine lv_iload_n hx hb dX2_movePoints_3 rfl (lv_at hl 4 rfl) ?_
  refine zz_iconst hx hb dX2_movePoints_4 ?_
  refine zz_icmp_ge (tgt := 11) hx hb dX2_movePoints_5 (by decide) (by omega) (by omega) (fun c_5 => ?_) (fun c_5 => ?_)
  · skip
    refine zz_iconst hx hb dX2_movePoints_11 ?_
    refine lv_istore (lv' := [(5, .int (iI (0 : Int))), (4, .int (iI (0 : Int))), (0, .ref m0), (1, .ref h), (2, .int (iI zt)), (3, .int (iI (freeL (r 0 0) n (r 2))))]) hx hb dX2_movePoints_12 hl (by decide) rfl (fun ls hl => ?_)
    have lp14 : ∀ (d14 : Nat), ∀ (i : Nat) (v4 v5 : Int) (hi : i ≤ n) (e5 : v5 = (i : Int)) (e4 : v4 = fsT r n zt i), n - i < d14 → ∀ (H : Heap) (locs : List Loc), va_P (dC, dI) vwCl [(m0, .inr (2, [.ref m1, .ref m2, .ref m3, .ref m4])), (m1, .inl (cI, 8, .inl (fun k => iI (fw k)))), (m2, .inl (cI, 8, .inl (fun k => iI (fs k)))), (m3, .inl (cI, 8, .inl (fun k => iI ((cpi ft (fsX r n) i) k)))), (m4, .inl (cI, 8, .inl (fun k => iI ((cpi fe (fsE r n zt) i) k)))), (h, .inr (3, [.int (iI (r 0 0)), .int (iI (r 0 1)), .int (iI (r 0 2)), .int (iI (r 0 3)), .int (iI (r 0 4)), .ref a1, .ref a2, .ref a3, .ref a4])), (a1, .inl (cI, 8, .inl (fun k => iI ((r 1) k)))), (a2, .inl (cI, 8, .inl (fun k => iI ((r 2) k)))), (a3, .inl (cI, 8, .inl (fun k => iI ((r 3) k)))), (a4, .inl (cI, 8, .inl (fun k => iI ((r 4) k))))] H → va_D A [(m0, .inr (2, [.ref m1, .ref m2, .ref m3, .ref m4])), (m1, .inl (cI, 8, .inl (fun k => iI (fw k)))), (m2, .inl (cI, 8, .inl (fun k => iI (fs k)))), (m3, .inl (cI, 8, .inl (fun k => iI ((cpi ft (fsX r n) i) k)))), (m4, .inl (cI, 8, .inl (fun k => iI ((cpi fe (fsE r n zt) i) k)))), (h, .inr (3, [.int (iI (r 0 0)), .int (iI (r 0 1)), .int (iI (r 0 2)), .int (iI (r 0 3)), .int (iI (r 0 4)), .ref a1, .ref a2, .ref a3, .ref a4])), (a1, .inl (cI, 8, .inl (fun k => iI ((r 1) k)))), (a2, .inl (cI, 8, .inl (fun k => iI ((r 2) k)))), (a3, .inl (cI, 8, .inl (fun k => iI ((r 3) k)))), (a4, .inl (cI, 8, .inl (fun k => iI ((r 4) k))))] → va_S A s.heap H locs → ∀ ls : Array Slot, lv_has ls 7 [(0, .ref m0), (1, .ref h), (2, .int (iI zt)), (3, .int (iI (freeL (r 0 0) n (r 2)))), (4, .int (iI v4)), (5, .int (iI v5))] → W p l e ({ frames := 2, cells := 0, slots := 0, locals := 48 } : Room) s m args below meth c H locs 0 0 (MQ below (wr_Q (fun (z : Int) (u : Unit) => z = fsT r n zt n) (fun u t => va_P (dC, dI) vwCl (wMo cI m0 m1 m2 m3 m4 fw fs (cpi ft (fsX r n) n) (cpi fe (fsE r n zt) n) ++ wSt cI h a1 a2 a3 a4 r) t.heap) A) args s 0 0 A) (F0 m 14 ls []) := by
      intro d14
      induction d14 with
      | zero =>
        intro i v4 v5 hi e5 e4 hd14
        exact absurd hd14 (Nat.not_lt_zero _)
      | succ d14 ih14 =>
        intro i v4 v5 hi e5 e4 hd14 H locs hP hD hS ls hl
        refine lv_iload hx hb dX2_movePoints_14 (lv_at hl 5 rfl) ?_
        refine lv_aload_n hx hb dX2_movePoints_16 rfl (lv_at hl 1 rfl) ?_
        refine va_get (D := (dC, dI)) (ci := 3) (v := .int (iI (r 0 1))) (C := RX3) (T := TX3) (N := 9) hx hb hts hw3 hown hK hP 5 rfl rfl 1 (by decide) hf30 (fun _ h9 => h9) rfl dX2_movePoints_17 ?_
        refine zz_icmp_ge (tgt := 86) hx hb dX2_movePoints_20 (by decide) (by omega) (by omega) (fun c_20 => ?_) (fun c_20 => ?_)
        · skip
          refine lv_iload hx hb dX2_movePoints_86 (lv_at hl 4 rfl) ?_
          exact W.iret (v := iI v4) hx hb hr (fun t9 ht9 hW9 => ⟨⟨v4, (), rfl, by (have h9 : i = n := (by omega)); rw [h9] at e4; exact e4, by show va_P _ _ _ t9.heap; rw [ht9]; exact (by rw [show n = i by omega]; rw [show n = i by omega] at hP; exact hP)⟩, hS.F ht9⟩) hS.2.2 dX2_movePoints_88
        · skip
          refine lv_aload_n hx hb dX2_movePoints_23 rfl (lv_at hl 0 rfl) ?_
          refine va_get (D := (dC, dI)) (ci := 2) (v := .ref m3) (C := RX2) (T := TX2) (N := 4) hx hb hts hw2 hown hK hP 0 rfl rfl 2 (by decide) hf18 (fun _ h9 => h9) rfl dX2_movePoints_24 ?_
          refine lv_iload hx hb dX2_movePoints_27 (lv_at hl 5 rfl) ?_
          refine lv_aload_n hx hb dX2_movePoints_29 rfl (lv_at hl 1 rfl) ?_
          refine zz_iconst hx hb dX2_movePoints_30 ?_
          refine lv_iload hx hb dX2_movePoints_31 (lv_at hl 5 rfl) ?_
          refine ro_V (As := [.int (iI (0 : Int)), .int (iI v5)]) (rest := [.int (iI v5), .ref m3]) ⟨hx, hb, hml, hown, hts⟩ (c_X3_freeBetween l dC dI cI cJ cC cO h a1 a2 a3 a4 r n hok (0 : Int) 0 (by omega) (by omega) v5 i (by omega) (by omega)) (cwV 2 hts gX2_movePoints_X3_freeBetween rfl rfl rfl (by decide +kernel) ⟨Nat.le_of_ble_eq_true rfl, Nat.le_of_ble_eq_true rfl⟩) hK hP [5, 6, 7, 8, 9] rfl 3 0 rfl rfl rfl hl.1 rfl (Nat.le_of_ble_eq_true rfl) dX2_movePoints_33 ⟨Nat.zero_le _, Nat.zero_le _⟩ (fun z_33 hz_33 => ?_)
          subst hz_33
          have bz_33 := hok.fb (a := 0) (b := i) (by omega) (by omega)
          refine zz_iast hx hb hK hP hD hS 3 0 (f := (cpi ft (fsX r n) i)) (x := (fbtw (r 0 0) n (r 1) (r 2) 0 i)) rfl rfl (by decide) i (by omega) (by omega) dX2_movePoints_36 (fun H locs hP hD hS => ?_)
          have hP : va_P (dC, dI) vwCl [(m0, .inr (2, [.ref m1, .ref m2, .ref m3, .ref m4])), (m1, .inl (cI, 8, .inl (fun k => iI (fw k)))), (m2, .inl (cI, 8, .inl (fun k => iI (fs k)))), (m3, .inl (cI, 8, .inl (fun k => iI ((up (cpi ft (fsX r n) i) i (fbtw (r 0 0) n (r 1) (r 2) 0 i)) k)))), (m4, .inl (cI, 8, .inl (fun k => iI ((cpi fe (fsE r n zt) i) k)))), (h, .inr (3, [.int (iI (r 0 0)), .int (iI (r 0 1)), .int (iI (r 0 2)), .int (iI (r 0 3)), .int (iI (r 0 4)), .ref a1, .ref a2, .ref a3, .ref a4])), (a1, .inl (cI, 8, .inl (fun k => iI ((r 1) k)))), (a2, .inl (cI, 8, .inl (fun k => iI ((r 2) k)))), (a3, .inl (cI, 8, .inl (fun k => iI ((r 3) k)))), (a4, .inl (cI, 8, .inl (fun k => iI ((r 4) k))))] H := hP
          have hD : va_D A [(m0, .inr (2, [.ref m1, .ref m2, .ref m3, .ref m4])), (m1, .inl (cI, 8, .inl (fun k => iI (fw k)))), (m2, .inl (cI, 8, .inl (fun k => iI (fs k)))), (m3, .inl (cI, 8, .inl (fun k => iI ((up (cpi ft (fsX r n) i) i (fbtw (r 0 0) n (r 1) (r 2) 0 i)) k)))), (m4, .inl (cI, 8, .inl (fun k => iI ((cpi fe (fsE r n zt) i) k)))), (h, .inr (3, [.int (iI (r 0 0)), .int (iI (r 0 1)), .int (iI (r 0 2)), .int (iI (r 0 3)), .int (iI (r 0 4)), .ref a1, .ref a2, .ref a3, .ref a4])), (a1, .inl (cI, 8, .inl (fun k => iI ((r 1) k)))), (a2, .inl (cI, 8, .inl (fun k => iI ((r 2) k)))), (a3, .inl (cI, 8, .inl (fun k => iI ((r 3) k)))), (a4, .inl (cI, 8, .inl (fun k => iI ((r 4) k))))] := hD
          refine lv_aload_n hx hb dX2_movePoints_37 rfl (lv_at hl 0 rfl) ?_
          refine va_get (D := (dC, dI)) (ci := 2) (v := .ref m3) (C := RX2) (T := TX2) (N := 4) hx hb hts hw2 hown hK hP 0 rfl rfl 2 (by decide) hf18 (fun _ h9 => h9) rfl dX2_movePoints_38 ?_
          refine lv_iload hx hb dX2_movePoints_41 (lv_at hl 5 rfl) ?_
          refine zz_ialdv hx hb hK hP 3 0 (f := (up (cpi ft (fsX r n) i) i (fbtw (r 0 0) n (r 1) (r 2) 0 i))) rfl rfl (by decide) i (by omega) (by omega) (v := (fbtw (r 0 0) n (r 1) (r 2) 0 i)) (up_s _ _ _) dX2_movePoints_43 ?_
          refine lv_aload_n hx hb dX2_movePoints_44 rfl (lv_at hl 1 rfl) ?_
          refine va_get (D := (dC, dI)) (ci := 3) (v := .ref a3) (C := RX3) (T := TX3) (N := 9) hx hb hts hw3 hown hK hP 5 rfl rfl 7 (by decide) hf54 (fun _ h9 => h9) rfl dX2_movePoints_45 ?_
          refine lv_iload hx hb dX2_movePoints_48 (lv_at hl 5 rfl) ?_
          refine zz_iald hx hb hK hP 8 0 (f := (r 3)) rfl rfl (by decide) i (by omega) (by omega) dX2_movePoints_50 ?_
          have b_50 := hok.at (k := i) (by omega)
          refine lv_iload_n hx hb dX2_movePoints_51 rfl (lv_at hl 2 rfl) ?_
          refine zz_imul hx hb dX2_movePoints_52 ?_
          have bm_52 := mul_b (a := r 3 i) (b := zt) (by omega) ht
          refine zz_iadd hx hb dX2_movePoints_53 ?_
          refine lv_istore (lv' := [(6, .int (iI ((fbtw (r 0 0) n (r 1) (r 2) 0 i) + (((r 3) i) * zt)))), (0, .ref m0), (1, .ref h), (2, .int (iI zt)), (3, .int (iI (freeL (r 0 0) n (r 2)))), (4, .int (iI v4)), (5, .int (iI v5))]) hx hb dX2_movePoints_54 hl (by decide) rfl (fun ls hl => ?_)
          refine lv_aload_n hx hb dX2_movePoints_56 rfl (lv_at hl 1 rfl) ?_
          refine va_get (D := (dC, dI)) (ci := 2) (v := .ref m4) (C := RX2) (T := TX2) (N := 4) hx hb hts hw2 hown hK hP 0 rfl rfl 3 (by decide) hf21 (fun _ h9 => h9) rfl dX2_movePoints_57 ?_
          refine lv_iload hx hb dX2_movePoints_60 (lv_at hl 6 rfl) ?_
          refine lv_iload hx hb dX2_movePoints_62 (lv_at hl 0 rfl) ?_
          refine lv_iload_n hx hb dX2_movePoints_64 rfl (lv_at hl 4 rfl) ?_
          refine ro_S (As := [.int (iI ((fbtw (r 0 0) n (r 1) (r 2) 0 i) + (((r 3) i) * zt))), .int (iI (freeL (r 0 0) n (r 2)))]) (rest := [.int (iI v5), .ref m4]) ⟨hx, hb, hml, hown, hts⟩ (c_J9_floorMod_7cf53 l dC dI cI cJ cC cO ((fbtw (r 0 0) n (r 1) (r 2) 0 i) + (((r 3) i) * zt)) (freeL (r 0 0) n (r 2)) (by omega) (by omega)) (va_cwS 2 hts gX2_movePoints_J9_floorMod_7cf53 rfl rfl rfl (by decide +kernel) ⟨Nat.le_of_ble_eq_true rfl, Nat.le_of_ble_eq_true rfl⟩) hK hP [] rfl rfl hl.1 rfl (Nat.le_of_ble_eq_true rfl) dX2_movePoints_65 ⟨Nat.zero_le _, Nat.zero_le _⟩ (fun z_65 hz_65 => ?_)
          subst hz_65
          refine zz_iast hx hb hK hP hD hS 4 0 (f := (cpi fe (fsE r n zt) i)) (x := (((fbtw (r 0 0) n (r 1) (r 2) 0 i) + (((r 3) i) * zt)) % (freeL (r 0 0) n (r 2)))) rfl rfl (by decide) i (by omega) (by omega) dX2_movePoints_68 (fun H locs hP hD hS => ?_)
          have hP : va_P (dC, dI) vwCl [(m0, .inr (2, [.ref m1, .ref m2, .ref m3, .ref m4])), (m1, .inl (cI, 8, .inl (fun k => iI (fw k)))), (m2, .inl (cI, 8, .inl (fun k => iI (fs k)))), (m3, .inl (cI, 8, .inl (fun k => iI ((up (cpi ft (fsX r n) i) i (fbtw (r 0 0) n (r 1) (r 2) 0 i)) k)))), (m4, .inl (cI, 8, .inl (fun k => iI ((up (cpi fe (fsE r n zt) i) i (((fbtw (r 0 0) n (r 1) (r 2) 0 i) + (((r 3) i) * zt)) % (freeL (r 0 0) n (r 2)))) k)))), (h, .inr (3, [.int (iI (r 0 0)), .int (iI (r 0 1)), .int (iI (r 0 2)), .int (iI (r 0 3)), .int (iI (r 0 4)), .ref a1, .ref a2, .ref a3, .ref a4])), (a1, .inl (cI, 8, .inl (fun k => iI ((r 1) k)))), (a2, .inl (cI, 8, .inl (fun k => iI ((r 2) k)))), (a3, .inl (cI, 8, .inl (fun k => iI ((r 3) k)))), (a4, .inl (cI, 8, .inl (fun k => iI ((r 4) k))))] H := hP
          have hD : va_D A [(m0, .inr (2, [.ref m1, .ref m2, .ref m3, .ref m4])), (m1, .inl (cI, 8, .inl (fun k => iI (fw k)))), (m2, .inl (cI, 8, .inl (fun k => iI (fs k)))), (m3, .inl (cI, 8, .inl (fun k => iI ((up (cpi ft (fsX r n) i) i (fbtw (r 0 0) n (r 1) (r 2) 0 i)) k)))), (m4, .inl (cI, 8, .inl (fun k => iI ((up (cpi fe (fsE r n zt) i) i (((fbtw (r 0 0) n (r 1) (r 2) 0 i) + (((r 3) i) * zt)) % (freeL (r 0 0) n (r 2)))) k)))), (h, .inr (3, [.int (iI (r 0 0)), .int (iI (r 0 1)), .int (iI (r 0 2)), .int (iI (r 0 3)), .int (iI (r 0 4)), .ref a1, .ref a2, .ref a3, .ref a4])), (a1, .inl (cI, 8, .inl (fun k => iI ((r 1) k)))), (a2, .inl (cI, 8, .inl (fun k => iI ((r 2) k)))), (a3, .inl (cI, 8, .inl (fun k => iI ((r 3) k)))), (a4, .inl (cI, 8, .inl (fun k => iI ((r 4) k))))] := hD
          refine lv_iload hx hb dX2_movePoints_69 (lv_at hl 5 rfl) ?_
          refine lv_iload hx hb dX2_movePoints_71 (lv_at hl 0 rfl) ?_
          refine lv_iload_n hx hb dX2_movePoints_73 rfl (lv_at hl 4 rfl) ?_
          refine ro_S (As := [.int (iI ((fbtw (r 0 0) n (r 1) (r 2) 0 i) + (((r 3) i) * zt))), .int (iI (freeL (r 0 0) n (r 2)))]) (rest := [.int (iI v4)]) ⟨hx, hb, hml, hown, hts⟩ (c_J9_floorDiv_7cf53 l dC dI cI cJ cC cO ((fbtw (r 0 0) n (r 1) (r 2) 0 i) + (((r 3) i) * zt)) (freeL (r 0 0) n (r 2)) (by omega) (by omega)) (va_cwS 2 hts gX2_movePoints_J9_floorDiv_7cf53 rfl rfl rfl (by decide +kernel) ⟨Nat.le_of_ble_eq_true rfl, Nat.le_of_ble_eq_true rfl⟩) hK hP [] rfl rfl hl.1 rfl (Nat.le_of_ble_eq_true rfl) dX2_movePoints_74 ⟨Nat.zero_le _, Nat.zero_le _⟩ (fun z_74 hz_74 => ?_)
          subst hz_74
          have bt_77 := hok.ft ht (i := i) hi
          refine zz_iadd hx hb dX2_movePoints_77 ?_
          refine lv_istore (lv' := [(4, .int (iI (v4 + (((fbtw (r 0 0) n (r 1) (r 2) 0 i) + (((r 3) i) * zt)) / (freeL (r 0 0) n (r 2)))))), (6, .int (iI ((fbtw (r 0 0) n (r 1) (r 2) 0 i) + (((r 3) i) * zt)))), (0, .ref m0), (1, .ref h), (2, .int (iI zt)), (3, .int (iI (freeL (r 0 0) n (r 2)))), (5, .int (iI v5))]) hx hb dX2_movePoints_78 hl (by decide) rfl (fun ls hl => ?_)
          refine zz_iinc (lv' := [(5, .int (iI (v5 + (1 : Int)))), (4, .int (iI (v4 + (((fbtw (r 0 0) n (r 1) (r 2) 0 i) + (((r 3) i) * zt)) / (freeL (r 0 0) n (r 2)))))), (6, .int (iI ((fbtw (r 0 0) n (r 1) (r 2) 0 i) + (((r 3) i) * zt)))), (0, .ref m0), (1, .ref h), (2, .int (iI zt)), (3, .int (iI (freeL (r 0 0) n (r 2))))]) hx hb dX2_movePoints_80 hl (k := 6) rfl (by decide) rfl (fun ls hl => ?_)
          refine lv_goto (tgt := 14) hx hb dX2_movePoints_83 (by decide) ?_
          have hP : va_P (dC, dI) vwCl [(m0, .inr (2, [.ref m1, .ref m2, .ref m3, .ref m4])), (m1, .inl (cI, 8, .inl (fun k => iI (fw k)))), (m2, .inl (cI, 8, .inl (fun k => iI (fs k)))), (m3, .inl (cI, 8, .inl (fun k => iI ((cpi ft (fsX r n) (i + 1)) k)))), (m4, .inl (cI, 8, .inl (fun k => iI ((cpi fe (fsE r n zt) (i + 1)) k)))), (h, .inr (3, [.int (iI (r 0 0)), .int (iI (r 0 1)), .int (iI (r 0 2)), .int (iI (r 0 3)), .int (iI (r 0 4)), .ref a1, .ref a2, .ref a3, .ref a4])), (a1, .inl (cI, 8, .inl (fun k => iI ((r 1) k)))), (a2, .inl (cI, 8, .inl (fun k => iI ((r 2) k)))), (a3, .inl (cI, 8, .inl (fun k => iI ((r 3) k)))), (a4, .inl (cI, 8, .inl (fun k => iI ((r 4) k))))] H := by rw [← cpi_s, ← cpi_s]; exact hP
          have hD : va_D A [(m0, .inr (2, [.ref m1, .ref m2, .ref m3, .ref m4])), (m1, .inl (cI, 8, .inl (fun k => iI (fw k)))), (m2, .inl (cI, 8, .inl (fun k => iI (fs k)))), (m3, .inl (cI, 8, .inl (fun k => iI ((cpi ft (fsX r n) (i + 1)) k)))), (m4, .inl (cI, 8, .inl (fun k => iI ((cpi fe (fsE r n zt) (i + 1)) k)))), (h, .inr (3, [.int (iI (r 0 0)), .int (iI (r 0 1)), .int (iI (r 0 2)), .int (iI (r 0 3)), .int (iI (r 0 4)), .ref a1, .ref a2, .ref a3, .ref a4])), (a1, .inl (cI, 8, .inl (fun k => iI ((r 1) k)))), (a2, .inl (cI, 8, .inl (fun k => iI ((r 2) k)))), (a3, .inl (cI, 8, .inl (fun k => iI ((r 3) k)))), (a4, .inl (cI, 8, .inl (fun k => iI ((r 4) k))))] := by rw [← cpi_s, ← cpi_s]; exact hD
          exact ih14 (i + 1) (v4 + (((fbtw (r 0 0) n (r 1) (r 2) 0 i) + (((r 3) i) * zt)) / (freeL (r 0 0) n (r 2)))) (v5 + (1 : Int)) (by omega) (by omega) (by rw [fsT, sumI_s, ← fsT, ← e4]; simp only [fsF, fsX]) (by omega) H locs hP hD hS ls (lv_sub hl [3, 4, 5, 6, 1, 0] rfl)
    have hP : va_P (dC, dI) vwCl [(m0, .inr (2, [.ref m1, .ref m2, .ref m3, .ref m4])), (m1, .inl (cI, 8, .inl (fun k => iI (fw k)))), (m2, .inl (cI, 8, .inl (fun k => iI (fs k)))), (m3, .inl (cI, 8, .inl (fun k => iI ((cpi ft (fsX r n) 0) k)))), (m4, .inl (cI, 8, .inl (fun k => iI ((cpi fe (fsE r n zt) 0) k)))), (h, .inr (3, [.int (iI (r 0 0)), .int (iI (r 0 1)), .int (iI (r 0 2)), .int (iI (r 0 3)), .int (iI (r 0 4)), .ref a1, .ref a2, .ref a3, .ref a4])), (a1, .inl (cI, 8, .inl (fun k => iI ((r 1) k)))), (a2, .inl (cI, 8, .inl (fun k => iI ((r 2) k)))), (a3, .inl (cI, 8, .inl (fun k => iI ((r 3) k)))), (a4, .inl (cI, 8, .inl (fun k => iI ((r 4) k))))] s.heap := by simp only [cpi_0]; exact hP
    have hD : va_D A [(m0, .inr (2, [.ref m1, .ref m2, .ref m3, .ref m4])), (m1, .inl (cI, 8, .inl (fun k => iI (fw k)))), (m2, .inl (cI, 8, .inl (fun k => iI (fs k)))), (m3, .inl (cI, 8, .inl (fun k => iI ((cpi ft (fsX r n) 0) k)))), (m4, .inl (cI, 8, .inl (fun k => iI ((cpi fe (fsE r n zt) 0) k)))), (h, .inr (3, [.int (iI (r 0 0)), .int (iI (r 0 1)), .int (iI (r 0 2)), .int (iI (r 0 3)), .int (iI (r 0 4)), .ref a1, .ref a2, .ref a3, .ref a4])), (a1, .inl (cI, 8, .inl (fun k => iI ((r 1) k)))), (a2, .inl (cI, 8, .inl (fun k => iI ((r 2) k)))), (a3, .inl (cI, 8, .inl (fun k => iI ((r 3) k)))), (a4, .inl (cI, 8, .inl (fun k => iI ((r 4) k))))] := by simp only [cpi_0]; exact hD
    exact lp14 _ 0 (0 : Int) (0 : Int) (by omega) (by omega) (by rfl) (Nat.lt_succ_self _) s.heap [] hP hD hS ls (lv_sub hl [2, 3, 4, 5, 1, 0] rfl)
  · skip
    exfalso; omega
set_option maxHeartbeats 4000000 in
set_option maxRecDepth 100000 in
theorem c_X2_foresee (l : Launch) (dC : Nat → ClassId) (dI : Nat → Nat → Nat) (cI cJ cC cO : ClassId) (m0 m1 m2 m3 m4 : Nat) (fw fs ft fe : Nat → Int) (h a1 a2 a3 a4 : Nat) (r : Nat → Nat → Int) (n : Nat) (hok : Ok r n) (zt : Int) (ht : 0 ≤ zt ∧ zt ≤ 100) : Met l yX2_foresee wsX2_foresee ({ frames := 3, cells := 0, slots := 0, locals := 74 } : Room) (va_Pc [.ref m0, .ref h, .int (iI zt)] (wr_B (dC, dI) vwCl (tyG cI cJ cC cO) (wMo cI m0 m1 m2 m3 m4 fw fs ft fe ++ wSt cI h a1 a2 a3 a4 r))) (wr_Qv (fun (u : (Nat → Int) × (Nat → Int) × (Nat → Int) × (Nat → Int)) => ∀ k, k < n → ∀ q, q < n → fsP r n zt u.1 u.2.1 k q) (fun u t => va_P (dC, dI) vwCl (wMo cI m0 m1 m2 m3 m4 u.1 u.2.1 u.2.2.1 u.2.2.2 ++ wSt cI h a1 a2 a3 a4 r) t.heap) (wr_A (wMo cI m0 m1 m2 m3 m4 fw fs ft fe ++ wSt cI h a1 a2 a3 a4 r))) 0 0 (wr_A (wMo cI m0 m1 m2 m3 m4 fw fs ft fe ++ wSt cI h a1 a2 a3 a4 r)) := by
  refine Met.ofW (cc := cX2_foresee) (maxL := 11) (ret := none) (by decide) rfl ?_
  intro p e s m args below meth c s₁ B hml hv
  obtain ⟨hav, hP, hK, hD0⟩ := hv
  have hx := B.exec
  have hb := B.bytes
  have hr := B.returns
  have hts := atoms_spec (ws := wsX2_foresee) B.pre
  have hown : s.vm.findClass RX2 = some m.cls := findClass_of_methodNamed B.named
  have hlocks := B.notSynchronized
  have hf9 := hts (.fieldLink RX2 9 "RingRods$Motion" "way" "[I") (by decide +kernel)
  have hf15 := hts (.fieldLink RX2 15 "RingRods$Motion" "speed" "[I") (by decide +kernel)
  have hf18 := hts (.fieldLink RX2 18 "RingRods$Motion" "start" "[I") (by decide +kernel)
  have hf21 := hts (.fieldLink RX2 21 "RingRods$Motion" "end" "[I") (by decide +kernel)
  have hf30 := hts (.fieldLink RX2 30 "RingRods$State" "rods" "I") (by decide +kernel)
  have hf54 := hts (.fieldLink RX2 54 "RingRods$State" "speed" "[I") (by decide +kernel)
  have hw2 : ∀ w ∈ u_ws RX2 TX2 4, w ∈ wsX2_foresee := by decide +kernel
  have hw3 : ∀ w ∈ u_ws RX3 TX3 9, w ∈ wsX2_foresee := by decide +kernel
  have hD := va_D.slf hD0
  have hS : va_S (wr_A (wMo cI m0 m1 m2 m3 m4 fw fs ft fe ++ wSt cI h a1 a2 a3 a4 r)) s.heap s.heap [] := va_S.rf
  show W p l e ({ frames := 3, cells := 0, slots := 0, locals := 74 } : Room) s m args below meth c s.heap [] 0 0 (MQ below (wr_Qv (fun (u : (Nat → Int) × (Nat → Int) × (Nat → Int) × (Nat → Int)) => ∀ k, k < n → ∀ q, q < n → fsP r n zt u.1 u.2.1 k q) (fun u t => va_P (dC, dI) vwCl (wMo cI m0 m1 m2 m3 m4 u.1 u.2.1 u.2.2.1 u.2.2.2 ++ wSt cI h a1 a2 a3 a4 r) t.heap) (wr_A (wMo cI m0 m1 m2 m3 m4 fw fs ft fe ++ wSt cI h a1 a2 a3 a4 r))) args s 0 0 (wr_A (wMo cI m0 m1 m2 m3 m4 fw fs ft fe ++ wSt cI h a1 a2 a3 a4 r))) (entryFrame m args 11)
  generalize hAe : wr_A (wMo cI m0 m1 m2 m3 m4 fw fs ft fe ++ wSt cI h a1 a2 a3 a4 r) = A at hD hS ⊢
  have hP : va_P (dC, dI) vwCl [(m0, .inr (2, [.ref m1, .ref m2, .ref m3, .ref m4])), (m1, .inl (cI, 8, .inl (fun k => iI (fw k)))), (m2, .inl (cI, 8, .inl (fun k => iI (fs k)))), (m3, .inl (cI, 8, .inl (fun k => iI (ft k)))), (m4, .inl (cI, 8, .inl (fun k => iI (fe k)))), (h, .inr (3, [.int (iI (r 0 0)), .int (iI (r 0 1)), .int (iI (r 0 2)), .int (iI (r 0 3)), .int (iI (r 0 4)), .ref a1, .ref a2, .ref a3, .ref a4])), (a1, .inl (cI, 8, .inl (fun k => iI ((r 1) k)))), (a2, .inl (cI, 8, .inl (fun k => iI ((r 2) k)))), (a3, .inl (cI, 8, .inl (fun k => iI ((r 3) k)))), (a4, .inl (cI, 8, .inl (fun k => iI ((r 4) k))))] s.heap := hP
  have hD : va_D A [(m0, .inr (2, [.ref m1, .ref m2, .ref m3, .ref m4])), (m1, .inl (cI, 8, .inl (fun k => iI (fw k)))), (m2, .inl (cI, 8, .inl (fun k => iI (fs k)))), (m3, .inl (cI, 8, .inl (fun k => iI (ft k)))), (m4, .inl (cI, 8, .inl (fun k => iI (fe k)))), (h, .inr (3, [.int (iI (r 0 0)), .int (iI (r 0 1)), .int (iI (r 0 2)), .int (iI (r 0 3)), .int (iI (r 0 4)), .ref a1, .ref a2, .ref a3, .ref a4])), (a1, .inl (cI, 8, .inl (fun k => iI ((r 1) k)))), (a2, .inl (cI, 8, .inl (fun k => iI ((r 2) k)))), (a3, .inl (cI, 8, .inl (fun k => iI ((r 3) k)))), (a4, .inl (cI, 8, .inl (fun k => iI ((r 4) k))))] := hD
  have hl := lv_entry ([.ref m0, .ref h, .int (iI zt)]) (n := 11) (Nat.le_of_ble_eq_true rfl)
  have hent : entryFrame m args 11 = F0 m 0 ((lg_sl ([.ref m0, .ref h, .int (iI zt)]) ++ List.replicate (11 - (lg_sl ([.ref m0, .ref h, .int (iI zt)])).length) Slot.unset).toArray) [] := by rw [hav]; exact lg_entry_eq ..
  rw [hent]
  generalize (lg_sl ([.ref m0, .ref h, .int (iI zt)]) ++ List.replicate (11 - (lg_sl ([.ref m0, .ref h, .int (iI zt)])).length) Slot.unset).toArray = ls at hl ⊢
  have hl : lv_has ls 11 [(0, .ref m0), (1, .ref h), (2, .int (iI zt))] := hl
  have bd0 := hok.bd
  have bd1 := hok.fr
  refine lv_aload_n hx hb dX2_foresee_0 rfl (lv_at hl 1 rfl) ?_
  refine ro_V (As := []) (rest := []) ⟨hx, hb, hml, hown, hts⟩ (c_X3_freeLength l dC dI cI cJ cC cO h a1 a2 a3 a4 r n hok) (cwV 0 hts gX2_foresee_X3_freeLength rfl rfl rfl (by decide +kernel) ⟨Nat.le_of_ble_eq_true rfl, Nat.le_of_ble_eq_true rfl⟩) hK hP [5, 6, 7, 8, 9] rfl 3 0 rfl rfl rfl hl.1 rfl (Nat.le_of_ble_eq_true rfl) dX2_foresee_1 ⟨Nat.zero_le _, Nat.zero_le _⟩ (fun z_1 hz_1 => ?_)
  subst hz_1
  have bz_1 := hok.fr
  refine lv_istore_n (lv' := [(3, .int (iI (freeL (r 0 0) n (r 2)))), (0, .ref m0), (1, .ref h), (2, .int (iI zt))]) hx hb dX2_foresee_4 rfl hl (by decide) rfl (fun ls hl => ?_)
  refine lv_aload_n hx hb dX2_foresee_5 rfl (lv_at hl 2 rfl) ?_
  refine va_get (D := (dC, dI)) (ci := 3) (v := .int (iI (r 0 1))) (C := RX3) (T := TX3) (N := 9) hx hb hts hw3 hown hK hP 5 rfl rfl 1 (by decide) hf30 (fun _ h9 => h9) rfl dX2_foresee_6 ?_
  rw [hok.bd.2.1]
  refine lv_istore (lv' := [(4, .int (iI (n : Int))), (3, .int (iI (freeL (r 0 0) n (r 2)))), (0, .ref m0), (1, .ref h), (2, .int (iI zt))]) hx hb dX2_foresee_9 hl (by decide) rfl (fun ls hl => ?_)
  refine lv_iload_n hx hb dX2_foresee_11 rfl (lv_at hl 1 rfl) ?_
  refine zz_iconst hx hb dX2_foresee_12 ?_
  refine zz_icmp_lt (tgt := 22) hx hb dX2_foresee_13 (by decide) (by omega) (by omega) (fun c_13 => ?_) (fun c_13 => ?_)
  · skip
    exfalso; omega
  · skip
    refine lv_iload hx hb dX2_foresee_16 (lv_at hl 0 rfl) ?_
    refine zz_iconst hx hb dX2_foresee_18 ?_
    refine zz_icmp_ge (tgt := 23) hx hb dX2_foresee_19 (by decide) (by omega) (by omega) (fun c_19 => ?_) (fun c_19 => ?_)
    · skip
      refine lv_aload_n hx hb dX2_foresee_23 rfl (lv_at hl 2 rfl) ?_
      refine lv_aload_n hx hb dX2_foresee_24 rfl (lv_at hl 3 rfl) ?_
      refine lv_iload_n hx hb dX2_foresee_25 rfl (lv_at hl 4 rfl) ?_
      refine lv_iload_n hx hb dX2_foresee_26 rfl (lv_at hl 1 rfl) ?_
      refine wr_V (As := [.ref h, .int (iI zt), .int (iI (freeL (r 0 0) n (r 2)))]) (rest := []) ⟨hx, hb, hml, hown, hts⟩ (c_X2_movePoints l dC dI cI cJ cC cO m0 m1 m2 m3 m4 fw fs ft fe h a1 a2 a3 a4 r n hok zt (by omega)) (cwV 3 hts gX2_foresee_X2_movePoints rfl rfl rfl (by decide +kernel) ⟨Nat.le_of_ble_eq_true rfl, Nat.le_of_ble_eq_true rfl⟩) hK hP hD hS [0, 1, 2, 3, 4, 5, 6, 7, 8, 9] rfl (by decide) 2 0 rfl rfl (fun u_27 => [(m0, .inr (2, [.ref m1, .ref m2, .ref m3, .ref m4])), (m1, .inl (cI, 8, .inl (fun k => iI (fw k)))), (m2, .inl (cI, 8, .inl (fun k => iI (fs k)))), (m3, .inl (cI, 8, .inl (fun k => iI ((cpi ft (fsX r n) n) k)))), (m4, .inl (cI, 8, .inl (fun k => iI ((cpi fe (fsE r n zt) n) k)))), (h, .inr (3, [.int (iI (r 0 0)), .int (iI (r 0 1)), .int (iI (r 0 2)), .int (iI (r 0 3)), .int (iI (r 0 4)), .ref a1, .ref a2, .ref a3, .ref a4])), (a1, .inl (cI, 8, .inl (fun k => iI ((r 1) k)))), (a2, .inl (cI, 8, .inl (fun k => iI ((r 2) k)))), (a3, .inl (cI, 8, .inl (fun k => iI ((r 3) k)))), (a4, .inl (cI, 8, .inl (fun k => iI ((r 4) k))))]) [.inr 0, .inr 1, .inr 2, .inr 3, .inr 4, .inr 5, .inr 6, .inr 7, .inr 8, .inr 9] (fun _ => rfl) (fun _ => rfl) rfl rfl hl.1 rfl (Nat.le_of_ble_eq_true rfl) dX2_foresee_27 ⟨Nat.zero_le _, Nat.zero_le _⟩ (fun z_27 u_27 H locs hz_27 hP hD hS => ?_)
      have hP : va_P (dC, dI) vwCl [(m0, .inr (2, [.ref m1, .ref m2, .ref m3, .ref m4])), (m1, .inl (cI, 8, .inl (fun k => iI (fw k)))), (m2, .inl (cI, 8, .inl (fun k => iI (fs k)))), (m3, .inl (cI, 8, .inl (fun k => iI ((cpi ft (fsX r n) n) k)))), (m4, .inl (cI, 8, .inl (fun k => iI ((cpi fe (fsE r n zt) n) k)))), (h, .inr (3, [.int (iI (r 0 0)), .int (iI (r 0 1)), .int (iI (r 0 2)), .int (iI (r 0 3)), .int (iI (r 0 4)), .ref a1, .ref a2, .ref a3, .ref a4])), (a1, .inl (cI, 8, .inl (fun k => iI ((r 1) k)))), (a2, .inl (cI, 8, .inl (fun k => iI ((r 2) k)))), (a3, .inl (cI, 8, .inl (fun k => iI ((r 3) k)))), (a4, .inl (cI, 8, .inl (fun k => iI ((r 4) k))))] H := hP
      have hD : va_D A [(m0, .inr (2, [.ref m1, .ref m2, .ref m3, .ref m4])), (m1, .inl (cI, 8, .inl (fun k => iI (fw k)))), (m2, .inl (cI, 8, .inl (fun k => iI (fs k)))), (m3, .inl (cI, 8, .inl (fun k => iI ((cpi ft (fsX r n) n) k)))), (m4, .inl (cI, 8, .inl (fun k => iI ((cpi fe (fsE r n zt) n) k)))), (h, .inr (3, [.int (iI (r 0 0)), .int (iI (r 0 1)), .int (iI (r 0 2)), .int (iI (r 0 3)), .int (iI (r 0 4)), .ref a1, .ref a2, .ref a3, .ref a4])), (a1, .inl (cI, 8, .inl (fun k => iI ((r 1) k)))), (a2, .inl (cI, 8, .inl (fun k => iI ((r 2) k)))), (a3, .inl (cI, 8, .inl (fun k => iI ((r 3) k)))), (a4, .inl (cI, 8, .inl (fun k => iI ((r 4) k))))] := hD
      subst hz_27
      have bz_27 := hok.ft (t := zt) (by omega) (Nat.le_refl _)
      refine lv_istore (lv' := [(5, .int (iI (fsT r n zt n))), (4, .int (iI (n : Int))), (3, .int (iI (freeL (r 0 0) n (r 2)))), (0, .ref m0), (1, .ref h), (2, .int (iI zt))]) hx hb dX2_foresee_30 hl (by decide) rfl (fun ls hl => ?_)
      refine zz_iconst hx hb dX2_foresee_32 ?_
      refine lv_istore (lv' := [(6, .int (iI (0 : Int))), (5, .int (iI (fsT r n zt n))), (4, .int (iI (n : Int))), (3, .int (iI (freeL (r 0 0) n (r 2)))), (0, .ref m0), (1, .ref h), (2, .int (iI zt))]) hx hb dX2_foresee_33 hl (by decide) rfl (fun ls hl => ?_)
      have lp35 : ∀ (d35 : Nat), ∀ (i : Nat) (g1 : Nat → Int) (g2 : Nat → Int) (v6 : Int) (hi : i ≤ n) (e6 : v6 = (i : Int)) (hA : ∀ k, k < i → ∀ q, q < n → fsP r n zt g1 g2 k q), n - i < d35 → ∀ (H : Heap) (locs : List Loc), va_P (dC, dI) vwCl [(m0, .inr (2, [.ref m1, .ref m2, .ref m3, .ref m4])), (m1, .inl (cI, 8, .inl (fun k => iI (g1 k)))), (m2, .inl (cI, 8, .inl (fun k => iI (g2 k)))), (m3, .inl (cI, 8, .inl (fun k => iI ((cpi ft (fsX r n) n) k)))), (m4, .inl (cI, 8, .inl (fun k => iI ((cpi fe (fsE r n zt) n) k)))), (h, .inr (3, [.int (iI (r 0 0)), .int (iI (r 0 1)), .int (iI (r 0 2)), .int (iI (r 0 3)), .int (iI (r 0 4)), .ref a1, .ref a2, .ref a3, .ref a4])), (a1, .inl (cI, 8, .inl (fun k => iI ((r 1) k)))), (a2, .inl (cI, 8, .inl (fun k => iI ((r 2) k)))), (a3, .inl (cI, 8, .inl (fun k => iI ((r 3) k)))), (a4, .inl (cI, 8, .inl (fun k => iI ((r 4) k))))] H → va_D A [(m0, .inr (2, [.ref m1, .ref m2, .ref m3, .ref m4])), (m1, .inl (cI, 8, .inl (fun k => iI (g1 k)))), (m2, .inl (cI, 8, .inl (fun k => iI (g2 k)))), (m3, .inl (cI, 8, .inl (fun k => iI ((cpi ft (fsX r n) n) k)))), (m4, .inl (cI, 8, .inl (fun k => iI ((cpi fe (fsE r n zt) n) k)))), (h, .inr (3, [.int (iI (r 0 0)), .int (iI (r 0 1)), .int (iI (r 0 2)), .int (iI (r 0 3)), .int (iI (r 0 4)), .ref a1, .ref a2, .ref a3, .ref a4])), (a1, .inl (cI, 8, .inl (fun k => iI ((r 1) k)))), (a2, .inl (cI, 8, .inl (fun k => iI ((r 2) k)))), (a3, .inl (cI, 8, .inl (fun k => iI ((r 3) k)))), (a4, .inl (cI, 8, .inl (fun k => iI ((r 4) k))))] → va_S A s.heap H locs → ∀ ls : Array Slot, lv_has ls 11 [(0, .ref m0), (1, .ref h), (2, .int (iI zt)), (3, .int (iI (freeL (r 0 0) n (r 2)))), (4, .int (iI (n : Int))), (5, .int (iI (fsT r n zt n))), (6, .int (iI v6))] → W p l e ({ frames := 3, cells := 0, slots := 0, locals := 74 } : Room) s m args below meth c H locs 0 0 (MQ below (wr_Qv (fun (u : (Nat → Int) × (Nat → Int) × (Nat → Int) × (Nat → Int)) => ∀ k, k < n → ∀ q, q < n → fsP r n zt u.1 u.2.1 k q) (fun u t => va_P (dC, dI) vwCl (wMo cI m0 m1 m2 m3 m4 u.1 u.2.1 u.2.2.1 u.2.2.2 ++ wSt cI h a1 a2 a3 a4 r) t.heap) A) args s 0 0 A) (F0 m 35 ls []) := by
        intro d35
        induction d35 with
        | zero =>
          intro i g1 g2 v6 hi e6 hA hd35
          exact absurd hd35 (Nat.not_lt_zero _)
        | succ d35 ih35 =>
          intro i g1 g2 v6 hi e6 hA hd35 H locs hP hD hS ls hl
          refine lv_iload hx hb dX2_foresee_35 (lv_at hl 6 rfl) ?_
          refine lv_iload hx hb dX2_foresee_37 (lv_at hl 4 rfl) ?_
          refine zz_icmp_ge (tgt := 147) hx hb dX2_foresee_39 (by decide) (by omega) (by omega) (fun c_39 => ?_) (fun c_39 => ?_)
          · skip
            exact W.vret hx hb hr (fun t9 ht9 hW9 => ⟨⟨(g1, g2, (cpi ft (fsX r n) n), (cpi fe (fsE r n zt) n)), rfl, fun k hk => hA k (by omega), by show va_P _ _ _ t9.heap; rw [ht9]; exact hP⟩, hS.F ht9⟩) hS.2.2 dX2_foresee_147
          · skip
            refine lv_aload_n hx hb dX2_foresee_42 rfl (lv_at hl 1 rfl) ?_
            refine zz_iconst hx hb dX2_foresee_43 ?_
            refine lv_iload hx hb dX2_foresee_44 (lv_at hl 6 rfl) ?_
            refine ro_V (As := [.int (iI (0 : Int)), .int (iI v6)]) (rest := []) ⟨hx, hb, hml, hown, hts⟩ (c_X3_rodsBetween l dC dI cI cJ cC cO h a1 a2 a3 a4 r n hok (0 : Int) 0 (by omega) (by omega) v6 i (by omega) (by omega)) (cwV 2 hts gX2_foresee_X3_rodsBetween rfl rfl rfl (by decide +kernel) ⟨Nat.le_of_ble_eq_true rfl, Nat.le_of_ble_eq_true rfl⟩) hK hP [5, 6, 7, 8, 9] rfl 3 0 rfl rfl rfl hl.1 rfl (Nat.le_of_ble_eq_true rfl) dX2_foresee_46 ⟨Nat.zero_le _, Nat.zero_le _⟩ (fun z_46 hz_46 => ?_)
            subst hz_46
            have bz_46 := hok.rb 0 i
            refine lv_iload hx hb dX2_foresee_49 (lv_at hl 5 rfl) ?_
            refine zz_iadd hx hb dX2_foresee_51 ?_
            have bk : -24010 ≤ rbtw (r 0 0) n (r 1) 0 i + fsT r n zt n ∧ rbtw (r 0 0) n (r 1) 0 i + fsT r n zt n ≤ 24010 := hok.fk ht i
            have bm := fm_b (x := rbtw (r 0 0) n (r 1) 0 i + fsT r n zt n) (y := (n : Int)) (by omega)
            refine lv_istore (lv' := [(7, .int (iI ((rbtw (r 0 0) n (r 1) 0 i) + (fsT r n zt n)))), (0, .ref m0), (1, .ref h), (2, .int (iI zt)), (3, .int (iI (freeL (r 0 0) n (r 2)))), (4, .int (iI (n : Int))), (5, .int (iI (fsT r n zt n))), (6, .int (iI v6))]) hx hb dX2_foresee_52 hl (by decide) rfl (fun ls hl => ?_)
            refine lv_iload hx hb dX2_foresee_54 (lv_at hl 0 rfl) ?_
            refine lv_iload hx hb dX2_foresee_56 (lv_at hl 5 rfl) ?_
            refine ro_S (As := [.int (iI ((rbtw (r 0 0) n (r 1) 0 i) + (fsT r n zt n))), .int (iI (n : Int))]) (rest := []) ⟨hx, hb, hml, hown, hts⟩ (c_J9_floorDiv_7cf53 l dC dI cI cJ cC cO ((rbtw (r 0 0) n (r 1) 0 i) + (fsT r n zt n)) (n : Int) (by omega) (by omega)) (va_cwS 2 hts gX2_foresee_J9_floorDiv_7cf53 rfl rfl rfl (by decide +kernel) ⟨Nat.le_of_ble_eq_true rfl, Nat.le_of_ble_eq_true rfl⟩) hK hP [] rfl rfl hl.1 rfl (Nat.le_of_ble_eq_true rfl) dX2_foresee_58 ⟨Nat.zero_le _, Nat.zero_le _⟩ (fun z_58 hz_58 => ?_)
            subst hz_58
            refine lv_istore (lv' := [(8, .int (iI (((rbtw (r 0 0) n (r 1) 0 i) + (fsT r n zt n)) / (n : Int)))), (7, .int (iI ((rbtw (r 0 0) n (r 1) 0 i) + (fsT r n zt n)))), (0, .ref m0), (1, .ref h), (2, .int (iI zt)), (3, .int (iI (freeL (r 0 0) n (r 2)))), (4, .int (iI (n : Int))), (5, .int (iI (fsT r n zt n))), (6, .int (iI v6))]) hx hb dX2_foresee_61 hl (by decide) rfl (fun ls hl => ?_)
            refine lv_iload hx hb dX2_foresee_63 (lv_at hl 1 rfl) ?_
            refine lv_iload hx hb dX2_foresee_65 (lv_at hl 6 rfl) ?_
            refine ro_S (As := [.int (iI ((rbtw (r 0 0) n (r 1) 0 i) + (fsT r n zt n))), .int (iI (n : Int))]) (rest := []) ⟨hx, hb, hml, hown, hts⟩ (c_J9_floorMod_7cf53 l dC dI cI cJ cC cO ((rbtw (r 0 0) n (r 1) 0 i) + (fsT r n zt n)) (n : Int) (by omega) (by omega)) (va_cwS 2 hts gX2_foresee_J9_floorMod_7cf53 rfl rfl rfl (by decide +kernel) ⟨Nat.le_of_ble_eq_true rfl, Nat.le_of_ble_eq_true rfl⟩) hK hP [] rfl rfl hl.1 rfl (Nat.le_of_ble_eq_true rfl) dX2_foresee_67 ⟨Nat.zero_le _, Nat.zero_le _⟩ (fun z_67 hz_67 => ?_)
            subst hz_67
            refine lv_istore (lv' := [(9, .int (iI (((rbtw (r 0 0) n (r 1) 0 i) + (fsT r n zt n)) % (n : Int)))), (8, .int (iI (((rbtw (r 0 0) n (r 1) 0 i) + (fsT r n zt n)) / (n : Int)))), (7, .int (iI ((rbtw (r 0 0) n (r 1) 0 i) + (fsT r n zt n)))), (0, .ref m0), (1, .ref h), (2, .int (iI zt)), (3, .int (iI (freeL (r 0 0) n (r 2)))), (4, .int (iI (n : Int))), (5, .int (iI (fsT r n zt n))), (6, .int (iI v6))]) hx hb dX2_foresee_70 hl (by decide) rfl (fun ls hl => ?_)
            refine zz_iconst hx hb dX2_foresee_72 ?_
            refine lv_istore (lv' := [(10, .int (iI (0 : Int))), (9, .int (iI (((rbtw (r 0 0) n (r 1) 0 i) + (fsT r n zt n)) % (n : Int)))), (8, .int (iI (((rbtw (r 0 0) n (r 1) 0 i) + (fsT r n zt n)) / (n : Int)))), (7, .int (iI ((rbtw (r 0 0) n (r 1) 0 i) + (fsT r n zt n)))), (0, .ref m0), (1, .ref h), (2, .int (iI zt)), (3, .int (iI (freeL (r 0 0) n (r 2)))), (4, .int (iI (n : Int))), (5, .int (iI (fsT r n zt n))), (6, .int (iI v6))]) hx hb dX2_foresee_73 hl (by decide) rfl (fun ls hl => ?_)
            have lp75 : ∀ (d75 : Nat), ∀ (j : Nat) (f1 : Nat → Int) (f2 : Nat → Int) (v10 : Int) (hj : j ≤ n) (e10 : v10 = (j : Int)) (hA2 : ∀ k, k < i → ∀ q, q < n → fsP r n zt f1 f2 k q) (hB : ∀ q, q < j → fsP r n zt f1 f2 i q), n - j < d75 → ∀ (H : Heap) (locs : List Loc), va_P (dC, dI) vwCl [(m0, .inr (2, [.ref m1, .ref m2, .ref m3, .ref m4])), (m1, .inl (cI, 8, .inl (fun k => iI (f1 k)))), (m2, .inl (cI, 8, .inl (fun k => iI (f2 k)))), (m3, .inl (cI, 8, .inl (fun k => iI ((cpi ft (fsX r n) n) k)))), (m4, .inl (cI, 8, .inl (fun k => iI ((cpi fe (fsE r n zt) n) k)))), (h, .inr (3, [.int (iI (r 0 0)), .int (iI (r 0 1)), .int (iI (r 0 2)), .int (iI (r 0 3)), .int (iI (r 0 4)), .ref a1, .ref a2, .ref a3, .ref a4])), (a1, .inl (cI, 8, .inl (fun k => iI ((r 1) k)))), (a2, .inl (cI, 8, .inl (fun k => iI ((r 2) k)))), (a3, .inl (cI, 8, .inl (fun k => iI ((r 3) k)))), (a4, .inl (cI, 8, .inl (fun k => iI ((r 4) k))))] H → va_D A [(m0, .inr (2, [.ref m1, .ref m2, .ref m3, .ref m4])), (m1, .inl (cI, 8, .inl (fun k => iI (f1 k)))), (m2, .inl (cI, 8, .inl (fun k => iI (f2 k)))), (m3, .inl (cI, 8, .inl (fun k => iI ((cpi ft (fsX r n) n) k)))), (m4, .inl (cI, 8, .inl (fun k => iI ((cpi fe (fsE r n zt) n) k)))), (h, .inr (3, [.int (iI (r 0 0)), .int (iI (r 0 1)), .int (iI (r 0 2)), .int (iI (r 0 3)), .int (iI (r 0 4)), .ref a1, .ref a2, .ref a3, .ref a4])), (a1, .inl (cI, 8, .inl (fun k => iI ((r 1) k)))), (a2, .inl (cI, 8, .inl (fun k => iI ((r 2) k)))), (a3, .inl (cI, 8, .inl (fun k => iI ((r 3) k)))), (a4, .inl (cI, 8, .inl (fun k => iI ((r 4) k))))] → va_S A s.heap H locs → ∀ ls : Array Slot, lv_has ls 11 [(0, .ref m0), (1, .ref h), (2, .int (iI zt)), (3, .int (iI (freeL (r 0 0) n (r 2)))), (4, .int (iI (n : Int))), (5, .int (iI (fsT r n zt n))), (6, .int (iI v6)), (7, .int (iI ((rbtw (r 0 0) n (r 1) 0 i) + (fsT r n zt n)))), (8, .int (iI (((rbtw (r 0 0) n (r 1) 0 i) + (fsT r n zt n)) / (n : Int)))), (9, .int (iI (((rbtw (r 0 0) n (r 1) 0 i) + (fsT r n zt n)) % (n : Int)))), (10, .int (iI v10))] → W p l e ({ frames := 3, cells := 0, slots := 0, locals := 74 } : Room) s m args below meth c H locs 0 0 (MQ below (wr_Qv (fun (u : (Nat → Int) × (Nat → Int) × (Nat → Int) × (Nat → Int)) => ∀ k, k < n → ∀ q, q < n → fsP r n zt u.1 u.2.1 k q) (fun u t => va_P (dC, dI) vwCl (wMo cI m0 m1 m2 m3 m4 u.1 u.2.1 u.2.2.1 u.2.2.2 ++ wSt cI h a1 a2 a3 a4 r) t.heap) A) args s 0 0 A) (F0 m 75 ls []) := by
              intro d75
              induction d75 with
              | zero =>
                intro j f1 f2 v10 hj e10 hA2 hB hd75
                exact absurd hd75 (Nat.not_lt_zero _)
              | succ d75 ih75 =>
                intro j f1 f2 v10 hj e10 hA2 hB hd75 H locs hP hD hS ls hl
                refine lv_iload hx hb dX2_foresee_75 (lv_at hl 10 rfl) ?_
                refine lv_iload hx hb dX2_foresee_77 (lv_at hl 4 rfl) ?_
                refine zz_icmp_ge (tgt := 141) hx hb dX2_foresee_79 (by decide) (by omega) (by omega) (fun c_79 => ?_) (fun c_79 => ?_)
                · skip
                  refine zz_iinc (lv' := [(6, .int (iI (v6 + (1 : Int)))), (0, .ref m0), (1, .ref h), (2, .int (iI zt)), (3, .int (iI (freeL (r 0 0) n (r 2)))), (4, .int (iI (n : Int))), (5, .int (iI (fsT r n zt n))), (7, .int (iI ((rbtw (r 0 0) n (r 1) 0 i) + (fsT r n zt n)))), (8, .int (iI (((rbtw (r 0 0) n (r 1) 0 i) + (fsT r n zt n)) / (n : Int)))), (9, .int (iI (((rbtw (r 0 0) n (r 1) 0 i) + (fsT r n zt n)) % (n : Int)))), (10, .int (iI v10))]) hx hb dX2_foresee_141 hl (k := 6) rfl (by decide) rfl (fun ls hl => ?_)
                  refine lv_goto (tgt := 35) hx hb dX2_foresee_144 (by decide) ?_
                  have hP : va_P (dC, dI) vwCl [(m0, .inr (2, [.ref m1, .ref m2, .ref m3, .ref m4])), (m1, .inl (cI, 8, .inl (fun k => iI (f1 k)))), (m2, .inl (cI, 8, .inl (fun k => iI (f2 k)))), (m3, .inl (cI, 8, .inl (fun k => iI ((cpi ft (fsX r n) n) k)))), (m4, .inl (cI, 8, .inl (fun k => iI ((cpi fe (fsE r n zt) n) k)))), (h, .inr (3, [.int (iI (r 0 0)), .int (iI (r 0 1)), .int (iI (r 0 2)), .int (iI (r 0 3)), .int (iI (r 0 4)), .ref a1, .ref a2, .ref a3, .ref a4])), (a1, .inl (cI, 8, .inl (fun k => iI ((r 1) k)))), (a2, .inl (cI, 8, .inl (fun k => iI ((r 2) k)))), (a3, .inl (cI, 8, .inl (fun k => iI ((r 3) k)))), (a4, .inl (cI, 8, .inl (fun k => iI ((r 4) k))))] H := by exact hP
                  have hD : va_D A [(m0, .inr (2, [.ref m1, .ref m2, .ref m3, .ref m4])), (m1, .inl (cI, 8, .inl (fun k => iI (f1 k)))), (m2, .inl (cI, 8, .inl (fun k => iI (f2 k)))), (m3, .inl (cI, 8, .inl (fun k => iI ((cpi ft (fsX r n) n) k)))), (m4, .inl (cI, 8, .inl (fun k => iI ((cpi fe (fsE r n zt) n) k)))), (h, .inr (3, [.int (iI (r 0 0)), .int (iI (r 0 1)), .int (iI (r 0 2)), .int (iI (r 0 3)), .int (iI (r 0 4)), .ref a1, .ref a2, .ref a3, .ref a4])), (a1, .inl (cI, 8, .inl (fun k => iI ((r 1) k)))), (a2, .inl (cI, 8, .inl (fun k => iI ((r 2) k)))), (a3, .inl (cI, 8, .inl (fun k => iI ((r 3) k)))), (a4, .inl (cI, 8, .inl (fun k => iI ((r 4) k))))] := by exact hD
                  exact ih35 (i + 1) f1 f2 (v6 + (1 : Int)) (by omega) (by omega) (fun k hk => by (rcases Nat.lt_succ_iff_lt_or_eq.mp hk with q9 | q9); exact hA2 k q9; subst q9; exact fun q hq => hB q (by omega)) (by omega) H locs hP hD hS ls (lv_sub hl [1, 2, 3, 4, 5, 6, 0] rfl)
                · skip
                  refine lv_aload_n hx hb dX2_foresee_82 rfl (lv_at hl 0 rfl) ?_
                  refine lv_aload_n hx hb dX2_foresee_83 rfl (lv_at hl 1 rfl) ?_
                  refine lv_iload hx hb dX2_foresee_84 (lv_at hl 10 rfl) ?_
                  refine ro_V (As := [.ref h, .int (iI v10)]) (rest := []) ⟨hx, hb, hml, hown, hts⟩ (c_X2_rankAtEnd l dC dI cI cJ cC cO m0 m1 m2 m3 m4 f1 f2 (cpi ft (fsX r n) n) (cpi fe (fsE r n zt) n) h a1 a2 a3 a4 r n hok (fsE r n zt) (fun k hk => cpi_in hk) (fun k hk => by have := hok.fe zt k; omega) v10 j (by omega) (by omega)) (cwV 2 hts gX2_foresee_X2_rankAtEnd rfl rfl rfl (by decide +kernel) ⟨Nat.le_of_ble_eq_true rfl, Nat.le_of_ble_eq_true rfl⟩) hK hP [0, 1, 2, 3, 4, 5, 6, 7, 8, 9] rfl 2 0 rfl rfl rfl hl.1 rfl (Nat.le_of_ble_eq_true rfl) dX2_foresee_86 ⟨Nat.zero_le _, Nat.zero_le _⟩ (fun z_86 hz_86 => ?_)
                  subst hz_86
                  have bz_86 := rEn_bd n (fsE r n zt) (r 3) j
                  refine lv_iload hx hb dX2_foresee_89 (lv_at hl 9 rfl) ?_
                  refine zz_icmp_ne (tgt := 135) hx hb dX2_foresee_91 (by decide) (by omega) (by omega) (fun c_91 => ?_) (fun c_91 => ?_)
                  · skip
                    refine zz_iinc (lv' := [(10, .int (iI (v10 + (1 : Int)))), (0, .ref m0), (1, .ref h), (2, .int (iI zt)), (3, .int (iI (freeL (r 0 0) n (r 2)))), (4, .int (iI (n : Int))), (5, .int (iI (fsT r n zt n))), (6, .int (iI v6)), (7, .int (iI ((rbtw (r 0 0) n (r 1) 0 i) + (fsT r n zt n)))), (8, .int (iI (((rbtw (r 0 0) n (r 1) 0 i) + (fsT r n zt n)) / (n : Int)))), (9, .int (iI (((rbtw (r 0 0) n (r 1) 0 i) + (fsT r n zt n)) % (n : Int))))]) hx hb dX2_foresee_135 hl (k := 10) rfl (by decide) rfl (fun ls hl => ?_)
                    refine lv_goto (tgt := 75) hx hb dX2_foresee_138 (by decide) ?_
                    have hP : va_P (dC, dI) vwCl [(m0, .inr (2, [.ref m1, .ref m2, .ref m3, .ref m4])), (m1, .inl (cI, 8, .inl (fun k => iI (f1 k)))), (m2, .inl (cI, 8, .inl (fun k => iI (f2 k)))), (m3, .inl (cI, 8, .inl (fun k => iI ((cpi ft (fsX r n) n) k)))), (m4, .inl (cI, 8, .inl (fun k => iI ((cpi fe (fsE r n zt) n) k)))), (h, .inr (3, [.int (iI (r 0 0)), .int (iI (r 0 1)), .int (iI (r 0 2)), .int (iI (r 0 3)), .int (iI (r 0 4)), .ref a1, .ref a2, .ref a3, .ref a4])), (a1, .inl (cI, 8, .inl (fun k => iI ((r 1) k)))), (a2, .inl (cI, 8, .inl (fun k => iI ((r 2) k)))), (a3, .inl (cI, 8, .inl (fun k => iI ((r 3) k)))), (a4, .inl (cI, 8, .inl (fun k => iI ((r 4) k))))] H := by exact hP
                    have hD : va_D A [(m0, .inr (2, [.ref m1, .ref m2, .ref m3, .ref m4])), (m1, .inl (cI, 8, .inl (fun k => iI (f1 k)))), (m2, .inl (cI, 8, .inl (fun k => iI (f2 k)))), (m3, .inl (cI, 8, .inl (fun k => iI ((cpi ft (fsX r n) n) k)))), (m4, .inl (cI, 8, .inl (fun k => iI ((cpi fe (fsE r n zt) n) k)))), (h, .inr (3, [.int (iI (r 0 0)), .int (iI (r 0 1)), .int (iI (r 0 2)), .int (iI (r 0 3)), .int (iI (r 0 4)), .ref a1, .ref a2, .ref a3, .ref a4])), (a1, .inl (cI, 8, .inl (fun k => iI ((r 1) k)))), (a2, .inl (cI, 8, .inl (fun k => iI ((r 2) k)))), (a3, .inl (cI, 8, .inl (fun k => iI ((r 3) k)))), (a4, .inl (cI, 8, .inl (fun k => iI ((r 4) k))))] := by exact hD
                    exact ih75 (j + 1) f1 f2 (v10 + (1 : Int)) (by omega) (by omega) (by first | exact hA2 | exact fun k hk q hq => (hA2 k hk q hq).keep (by omega)) (fun q hq => by (rcases Nat.lt_succ_iff_lt_or_eq.mp hq with q9 | q9); (first | exact hB q q9 | exact (fun e => absurd (rEn_inj (show q < n by omega) (show j < n by omega) (e.trans c_91.symm)) (by omega))); subst q9; (first | exact (fun e => absurd e c_91) | exact (fun e => ⟨up_s _ _ _, up_s _ _ _⟩))) (by omega) H locs hP hD hS ls (lv_sub hl [1, 2, 3, 4, 5, 6, 7, 8, 9, 10, 0] rfl)
                  · skip
                    refine lv_aload_n hx hb dX2_foresee_94 rfl (lv_at hl 0 rfl) ?_
                    refine va_get (D := (dC, dI)) (ci := 2) (v := .ref m1) (C := RX2) (T := TX2) (N := 4) hx hb hts hw2 hown hK hP 0 rfl rfl 0 (by decide) hf9 (fun _ h9 => h9) rfl dX2_foresee_95 ?_
                    refine lv_iload hx hb dX2_foresee_98 (lv_at hl 6 rfl) ?_
                    refine lv_aload_n hx hb dX2_foresee_100 rfl (lv_at hl 0 rfl) ?_
                    refine va_get (D := (dC, dI)) (ci := 2) (v := .ref m4) (C := RX2) (T := TX2) (N := 4) hx hb hts hw2 hown hK hP 0 rfl rfl 3 (by decide) hf21 (fun _ h9 => h9) rfl dX2_foresee_101 ?_
                    refine lv_iload hx hb dX2_foresee_104 (lv_at hl 10 rfl) ?_
                    refine zz_ialdv hx hb hK hP 4 0 (f := (cpi fe (fsE r n zt) n)) rfl rfl (by decide) j (by omega) (by omega) (v := (fsE r n zt j)) (cpi_in (by omega)) dX2_foresee_106 ?_
                    refine lv_iload hx hb dX2_foresee_107 (lv_at hl 8 rfl) ?_
                    refine lv_iload_n hx hb dX2_foresee_109 rfl (lv_at hl 3 rfl) ?_
                    refine zz_imul hx hb dX2_foresee_110 ?_
                    refine zz_iadd hx hb dX2_foresee_111 ?_
                    refine lv_aload_n hx hb dX2_foresee_112 rfl (lv_at hl 0 rfl) ?_
                    refine va_get (D := (dC, dI)) (ci := 2) (v := .ref m3) (C := RX2) (T := TX2) (N := 4) hx hb hts hw2 hown hK hP 0 rfl rfl 2 (by decide) hf18 (fun _ h9 => h9) rfl dX2_foresee_113 ?_
                    refine lv_iload hx hb dX2_foresee_116 (lv_at hl 6 rfl) ?_
                    refine zz_ialdv hx hb hK hP 3 0 (f := (cpi ft (fsX r n) n)) rfl rfl (by decide) i (by omega) (by omega) (v := (fsX r n i)) (cpi_in (by omega)) dX2_foresee_118 ?_
                    refine zz_isub hx hb dX2_foresee_119 ?_
                    refine zz_iast hx hb hK hP hD hS 1 0 (f := f1) (x := (((fsE r n zt j) + ((((rbtw (r 0 0) n (r 1) 0 i) + (fsT r n zt n)) / (n : Int)) * (freeL (r 0 0) n (r 2)))) - (fsX r n i))) rfl rfl (by decide) i (by omega) (by omega) dX2_foresee_120 (fun H locs hP hD hS => ?_)
                    have hP : va_P (dC, dI) vwCl [(m0, .inr (2, [.ref m1, .ref m2, .ref m3, .ref m4])), (m1, .inl (cI, 8, .inl (fun k => iI ((up f1 i (((fsE r n zt j) + ((((rbtw (r 0 0) n (r 1) 0 i) + (fsT r n zt n)) / (n : Int)) * (freeL (r 0 0) n (r 2)))) - (fsX r n i))) k)))), (m2, .inl (cI, 8, .inl (fun k => iI (f2 k)))), (m3, .inl (cI, 8, .inl (fun k => iI ((cpi ft (fsX r n) n) k)))), (m4, .inl (cI, 8, .inl (fun k => iI ((cpi fe (fsE r n zt) n) k)))), (h, .inr (3, [.int (iI (r 0 0)), .int (iI (r 0 1)), .int (iI (r 0 2)), .int (iI (r 0 3)), .int (iI (r 0 4)), .ref a1, .ref a2, .ref a3, .ref a4])), (a1, .inl (cI, 8, .inl (fun k => iI ((r 1) k)))), (a2, .inl (cI, 8, .inl (fun k => iI ((r 2) k)))), (a3, .inl (cI, 8, .inl (fun k => iI ((r 3) k)))), (a4, .inl (cI, 8, .inl (fun k => iI ((r 4) k))))] H := hP
                    have hD : va_D A [(m0, .inr (2, [.ref m1, .ref m2, .ref m3, .ref m4])), (m1, .inl (cI, 8, .inl (fun k => iI ((up f1 i (((fsE r n zt j) + ((((rbtw (r 0 0) n (r 1) 0 i) + (fsT r n zt n)) / (n : Int)) * (freeL (r 0 0) n (r 2)))) - (fsX r n i))) k)))), (m2, .inl (cI, 8, .inl (fun k => iI (f2 k)))), (m3, .inl (cI, 8, .inl (fun k => iI ((cpi ft (fsX r n) n) k)))), (m4, .inl (cI, 8, .inl (fun k => iI ((cpi fe (fsE r n zt) n) k)))), (h, .inr (3, [.int (iI (r 0 0)), .int (iI (r 0 1)), .int (iI (r 0 2)), .int (iI (r 0 3)), .int (iI (r 0 4)), .ref a1, .ref a2, .ref a3, .ref a4])), (a1, .inl (cI, 8, .inl (fun k => iI ((r 1) k)))), (a2, .inl (cI, 8, .inl (fun k => iI ((r 2) k)))), (a3, .inl (cI, 8, .inl (fun k => iI ((r 3) k)))), (a4, .inl (cI, 8, .inl (fun k => iI ((r 4) k))))] := hD
                    refine lv_aload_n hx hb dX2_foresee_121 rfl (lv_at hl 0 rfl) ?_
                    refine va_get (D := (dC, dI)) (ci := 2) (v := .ref m2) (C := RX2) (T := TX2) (N := 4) hx hb hts hw2 hown hK hP 0 rfl rfl 1 (by decide) hf15 (fun _ h9 => h9) rfl dX2_foresee_122 ?_
                    refine lv_iload hx hb dX2_foresee_125 (lv_at hl 6 rfl) ?_
                    refine lv_aload_n hx hb dX2_foresee_127 rfl (lv_at hl 1 rfl) ?_
                    refine va_get (D := (dC, dI)) (ci := 3) (v := .ref a3) (C := RX3) (T := TX3) (N := 9) hx hb hts hw3 hown hK hP 5 rfl rfl 7 (by decide) hf54 (fun _ h9 => h9) rfl dX2_foresee_128 ?_
                    refine lv_iload hx hb dX2_foresee_131 (lv_at hl 10 rfl) ?_
                    refine zz_iald hx hb hK hP 8 0 (f := (r 3)) rfl rfl (by decide) j (by omega) (by omega) dX2_foresee_133 ?_
                    have b_133 := hok.at (k := j) (by omega)
                    refine zz_iast hx hb hK hP hD hS 2 0 (f := f2) (x := ((r 3) j)) rfl rfl (by decide) i (by omega) (by omega) dX2_foresee_134 (fun H locs hP hD hS => ?_)
                    have hP : va_P (dC, dI) vwCl [(m0, .inr (2, [.ref m1, .ref m2, .ref m3, .ref m4])), (m1, .inl (cI, 8, .inl (fun k => iI ((up f1 i (((fsE r n zt j) + ((((rbtw (r 0 0) n (r 1) 0 i) + (fsT r n zt n)) / (n : Int)) * (freeL (r 0 0) n (r 2)))) - (fsX r n i))) k)))), (m2, .inl (cI, 8, .inl (fun k => iI ((up f2 i ((r 3) j)) k)))), (m3, .inl (cI, 8, .inl (fun k => iI ((cpi ft (fsX r n) n) k)))), (m4, .inl (cI, 8, .inl (fun k => iI ((cpi fe (fsE r n zt) n) k)))), (h, .inr (3, [.int (iI (r 0 0)), .int (iI (r 0 1)), .int (iI (r 0 2)), .int (iI (r 0 3)), .int (iI (r 0 4)), .ref a1, .ref a2, .ref a3, .ref a4])), (a1, .inl (cI, 8, .inl (fun k => iI ((r 1) k)))), (a2, .inl (cI, 8, .inl (fun k => iI ((r 2) k)))), (a3, .inl (cI, 8, .inl (fun k => iI ((r 3) k)))), (a4, .inl (cI, 8, .inl (fun k => iI ((r 4) k))))] H := hP
                    have hD : va_D A [(m0, .inr (2, [.ref m1, .ref m2, .ref m3, .ref m4])), (m1, .inl (cI, 8, .inl (fun k => iI ((up f1 i (((fsE r n zt j) + ((((rbtw (r 0 0) n (r 1) 0 i) + (fsT r n zt n)) / (n : Int)) * (freeL (r 0 0) n (r 2)))) - (fsX r n i))) k)))), (m2, .inl (cI, 8, .inl (fun k => iI ((up f2 i ((r 3) j)) k)))), (m3, .inl (cI, 8, .inl (fun k => iI ((cpi ft (fsX r n) n) k)))), (m4, .inl (cI, 8, .inl (fun k => iI ((cpi fe (fsE r n zt) n) k)))), (h, .inr (3, [.int (iI (r 0 0)), .int (iI (r 0 1)), .int (iI (r 0 2)), .int (iI (r 0 3)), .int (iI (r 0 4)), .ref a1, .ref a2, .ref a3, .ref a4])), (a1, .inl (cI, 8, .inl (fun k => iI ((r 1) k)))), (a2, .inl (cI, 8, .inl (fun k => iI ((r 2) k)))), (a3, .inl (cI, 8, .inl (fun k => iI ((r 3) k)))), (a4, .inl (cI, 8, .inl (fun k => iI ((r 4) k))))] := hD
                    refine zz_iinc (lv' := [(10, .int (iI (v10 + (1 : Int)))), (0, .ref m0), (1, .ref h), (2, .int (iI zt)), (3, .int (iI (freeL (r 0 0) n (r 2)))), (4, .int (iI (n : Int))), (5, .int (iI (fsT r n zt n))), (6, .int (iI v6)), (7, .int (iI ((rbtw (r 0 0) n (r 1) 0 i) + (fsT r n zt n)))), (8, .int (iI (((rbtw (r 0 0) n (r 1) 0 i) + (fsT r n zt n)) / (n : Int)))), (9, .int (iI (((rbtw (r 0 0) n (r 1) 0 i) + (fsT r n zt n)) % (n : Int))))]) hx hb dX2_foresee_135 hl (k := 10) rfl (by decide) rfl (fun ls hl => ?_)
                    refine lv_goto (tgt := 75) hx hb dX2_foresee_138 (by decide) ?_
                    have hP : va_P (dC, dI) vwCl [(m0, .inr (2, [.ref m1, .ref m2, .ref m3, .ref m4])), (m1, .inl (cI, 8, .inl (fun k => iI ((up f1 i (((fsE r n zt j) + ((((rbtw (r 0 0) n (r 1) 0 i) + (fsT r n zt n)) / (n : Int)) * (freeL (r 0 0) n (r 2)))) - (fsX r n i))) k)))), (m2, .inl (cI, 8, .inl (fun k => iI ((up f2 i ((r 3) j)) k)))), (m3, .inl (cI, 8, .inl (fun k => iI ((cpi ft (fsX r n) n) k)))), (m4, .inl (cI, 8, .inl (fun k => iI ((cpi fe (fsE r n zt) n) k)))), (h, .inr (3, [.int (iI (r 0 0)), .int (iI (r 0 1)), .int (iI (r 0 2)), .int (iI (r 0 3)), .int (iI (r 0 4)), .ref a1, .ref a2, .ref a3, .ref a4])), (a1, .inl (cI, 8, .inl (fun k => iI ((r 1) k)))), (a2, .inl (cI, 8, .inl (fun k => iI ((r 2) k)))), (a3, .inl (cI, 8, .inl (fun k => iI ((r 3) k)))), (a4, .inl (cI, 8, .inl (fun k => iI ((r 4) k))))] H := by exact hP
                    have hD : va_D A [(m0, .inr (2, [.ref m1, .ref m2, .ref m3, .ref m4])), (m1, .inl (cI, 8, .inl (fun k => iI ((up f1 i (((fsE r n zt j) + ((((rbtw (r 0 0) n (r 1) 0 i) + (fsT r n zt n)) / (n : Int)) * (freeL (r 0 0) n (r 2)))) - (fsX r n i))) k)))), (m2, .inl (cI, 8, .inl (fun k => iI ((up f2 i ((r 3) j)) k)))), (m3, .inl (cI, 8, .inl (fun k => iI ((cpi ft (fsX r n) n) k)))), (m4, .inl (cI, 8, .inl (fun k => iI ((cpi fe (fsE r n zt) n) k)))), (h, .inr (3, [.int (iI (r 0 0)), .int (iI (r 0 1)), .int (iI (r 0 2)), .int (iI (r 0 3)), .int (iI (r 0 4)), .ref a1, .ref a2, .ref a3, .ref a4])), (a1, .inl (cI, 8, .inl (fun k => iI ((r 1) k)))), (a2, .inl (cI, 8, .inl (fun k => iI ((r 2) k)))), (a3, .inl (cI, 8, .inl (fun k => iI ((r 3) k)))), (a4, .inl (cI, 8, .inl (fun k => iI ((r 4) k))))] := by exact hD
                    exact ih75 (j + 1) (up f1 i (((fsE r n zt j) + ((((rbtw (r 0 0) n (r 1) 0 i) + (fsT r n zt n)) / (n : Int)) * (freeL (r 0 0) n (r 2)))) - (fsX r n i))) (up f2 i ((r 3) j)) (v10 + (1 : Int)) (by omega) (by omega) (by first | exact hA2 | exact fun k hk q hq => (hA2 k hk q hq).keep (by omega)) (fun q hq => by (rcases Nat.lt_succ_iff_lt_or_eq.mp hq with q9 | q9); (first | exact hB q q9 | exact (fun e => absurd (rEn_inj (show q < n by omega) (show j < n by omega) (e.trans c_91.symm)) (by omega))); subst q9; (first | exact (fun e => absurd e c_91) | exact (fun e => ⟨up_s _ _ _, up_s _ _ _⟩))) (by omega) H locs hP hD hS ls (lv_sub hl [1, 2, 3, 4, 5, 6, 7, 8, 9, 10, 0] rfl)
            have hP : va_P (dC, dI) vwCl [(m0, .inr (2, [.ref m1, .ref m2, .ref m3, .ref m4])), (m1, .inl (cI, 8, .inl (fun k => iI (g1 k)))), (m2, .inl (cI, 8, .inl (fun k => iI (g2 k)))), (m3, .inl (cI, 8, .inl (fun k => iI ((cpi ft (fsX r n) n) k)))), (m4, .inl (cI, 8, .inl (fun k => iI ((cpi fe (fsE r n zt) n) k)))), (h, .inr (3, [.int (iI (r 0 0)), .int (iI (r 0 1)), .int (iI (r 0 2)), .int (iI (r 0 3)), .int (iI (r 0 4)), .ref a1, .ref a2, .ref a3, .ref a4])), (a1, .inl (cI, 8, .inl (fun k => iI ((r 1) k)))), (a2, .inl (cI, 8, .inl (fun k => iI ((r 2) k)))), (a3, .inl (cI, 8, .inl (fun k => iI ((r 3) k)))), (a4, .inl (cI, 8, .inl (fun k => iI ((r 4) k))))] H := by exact hP
            have hD : va_D A [(m0, .inr (2, [.ref m1, .ref m2, .ref m3, .ref m4])), (m1, .inl (cI, 8, .inl (fun k => iI (g1 k)))), (m2, .inl (cI, 8, .inl (fun k => iI (g2 k)))), (m3, .inl (cI, 8, .inl (fun k => iI ((cpi ft (fsX r n) n) k)))), (m4, .inl (cI, 8, .inl (fun k => iI ((cpi fe (fsE r n zt) n) k)))), (h, .inr (3, [.int (iI (r 0 0)), .int (iI (r 0 1)), .int (iI (r 0 2)), .int (iI (r 0 3)), .int (iI (r 0 4)), .ref a1, .ref a2, .ref a3, .ref a4])), (a1, .inl (cI, 8, .inl (fun k => iI ((r 1) k)))), (a2, .inl (cI, 8, .inl (fun k => iI ((r 2) k)))), (a3, .inl (cI, 8, .inl (fun k => iI ((r 3) k)))), (a4, .inl (cI, 8, .inl (fun k => iI ((r 4) k))))] := by exact hD
            exact lp75 _ 0 g1 g2 (0 : Int) (by omega) (by omega) (hA) (fun k hk => absurd hk (Nat.not_lt_zero _)) (Nat.lt_succ_self _) H locs hP hD hS ls (lv_sub hl [4, 5, 6, 7, 8, 9, 10, 3, 2, 1, 0] rfl)
      have hP : va_P (dC, dI) vwCl [(m0, .inr (2, [.ref m1, .ref m2, .ref m3, .ref m4])), (m1, .inl (cI, 8, .inl (fun k => iI (fw k)))), (m2, .inl (cI, 8, .inl (fun k => iI (fs k)))), (m3, .inl (cI, 8, .inl (fun k => iI ((cpi ft (fsX r n) n) k)))), (m4, .inl (cI, 8, .inl (fun k => iI ((cpi fe (fsE r n zt) n) k)))), (h, .inr (3, [.int (iI (r 0 0)), .int (iI (r 0 1)), .int (iI (r 0 2)), .int (iI (r 0 3)), .int (iI (r 0 4)), .ref a1, .ref a2, .ref a3, .ref a4])), (a1, .inl (cI, 8, .inl (fun k => iI ((r 1) k)))), (a2, .inl (cI, 8, .inl (fun k => iI ((r 2) k)))), (a3, .inl (cI, 8, .inl (fun k => iI ((r 3) k)))), (a4, .inl (cI, 8, .inl (fun k => iI ((r 4) k))))] H := by exact hP
      have hD : va_D A [(m0, .inr (2, [.ref m1, .ref m2, .ref m3, .ref m4])), (m1, .inl (cI, 8, .inl (fun k => iI (fw k)))), (m2, .inl (cI, 8, .inl (fun k => iI (fs k)))), (m3, .inl (cI, 8, .inl (fun k => iI ((cpi ft (fsX r n) n) k)))), (m4, .inl (cI, 8, .inl (fun k => iI ((cpi fe (fsE r n zt) n) k)))), (h, .inr (3, [.int (iI (r 0 0)), .int (iI (r 0 1)), .int (iI (r 0 2)), .int (iI (r 0 3)), .int (iI (r 0 4)), .ref a1, .ref a2, .ref a3, .ref a4])), (a1, .inl (cI, 8, .inl (fun k => iI ((r 1) k)))), (a2, .inl (cI, 8, .inl (fun k => iI ((r 2) k)))), (a3, .inl (cI, 8, .inl (fun k => iI ((r 3) k)))), (a4, .inl (cI, 8, .inl (fun k => iI ((r 4) k))))] := by exact hD
      exact lp35 _ 0 fw fs (0 : Int) (by omega) (by omega) (fun k hk => absurd hk (Nat.not_lt_zero _)) (Nat.lt_succ_self _) H locs hP hD hS ls (lv_sub hl [4, 5, 6, 3, 2, 1, 0] rfl)
    · skip
      exact W.vret hx hb hr (fun t9 ht9 hW9 => ⟨⟨(fw, fs, ft, fe), rfl, fun k hk => absurd hk (by omega), by show va_P _ _ _ t9.heap; rw [ht9]; exact hP⟩, hS.F ht9⟩) hS.2.2 dX2_foresee_22
