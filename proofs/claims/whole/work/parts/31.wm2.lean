set_option maxHeartbeats 4000000 in
set_option maxRecDepth 100000 in
theorem c_X6_gapOf (l : Launch) (dC : Nat → ClassId) (dI : Nat → Nat → Nat) (cI cJ cC cO : ClassId) (b0 b1 b2 b3 b4 b5 b6 b7 b8 b9 b10 b11 b12 : Nat) (w pa ad be : Nat → Int) (ns ia : Int) (tx : Nat → Int) (tl ta : Int) (od pt tu fa th ss mo : Nat → Int) (n : Nat) (hok : MOk w n) (o : Nat → Nat) (hL : Lay w n o od pt) (zx : Int) (x : Nat) (ex : zx = (x : Int)) (hx : x < n) : Met l yX6_gapOf wsX6_gapOf ({ frames := 2, cells := 0, slots := 0, locals := 42 } : Room) (va_Pc [.ref b0, .int (iI zx)] (ro_B (dC, dI) vwCl (tyG cI cJ cC cO) (wM cI cC b0 b1 b2 b3 b4 b5 b6 b7 b8 b9 b10 b11 b12 w pa ad be ns ia tx tl ta od pt tu fa th ss mo))) (ro_Q (fun z => z = gpM w n o x)) 0 0 (fun _ => False) := by
  refine Met.ofW (cc := cX6_gapOf) (maxL := 5) (ret := (some .int)) (by decide) rfl ?_
  intro p e s m args below meth c s₁ B hml hv
  obtain ⟨hav, hP, hK⟩ := hv
  have hx := B.exec
  have hb := B.bytes
  have hr := B.returns
  have hts := atoms_spec (ws := wsX6_gapOf) B.pre
  have hown : s.vm.findClass RX6 = some m.cls := findClass_of_methodNamed B.named
  have hlocks := B.notSynchronized
  have hf7 := hts (.fieldLink RX6 7 "RingRodsModel" "row" "[I") (by decide +kernel)
  have hf26 := hts (.fieldLink RX6 26 "RingRodsModel" "order" "[I") (by decide +kernel)
  have hw6 : ∀ w ∈ u_ws RX6 TX6 16, w ∈ wsX6_gapOf := by decide +kernel
  have hP : va_P (dC, dI) vwCl [(b0, .inr (6, [.ref b1, .ref b2, .ref b3, .ref b4, .int (iI ns), .int (iI ia), .ref b5, .int (iI tl), .int (iI ta), .ref b6, .ref b7, .ref b8, .ref b9, .ref b10, .ref b11, .ref b12])), (b1, .inl (cI, 37, .inl (fun z9 => iI (w z9)))), (b2, .inl (cI, 148, .inl (fun z9 => iI (pa z9)))), (b3, .inl (cI, 37, .inl (fun z9 => iI (ad z9)))), (b4, .inl (cI, 37, .inl (fun z9 => iI (be z9)))), (b5, .inl (cC, 60, .inl (fun z9 => iI (tx z9)))), (b6, .inl (cI, 8, .inl (fun z9 => iI (od z9)))), (b7, .inl (cI, 8, .inl (fun z9 => iI (pt z9)))), (b8, .inl (cI, 8, .inl (fun z9 => iI (tu z9)))), (b9, .inl (cI, 8, .inl (fun z9 => iI (fa z9)))), (b10, .inl (cI, 8, .inl (fun z9 => iI (th z9)))), (b11, .inl (cI, 8, .inl (fun z9 => iI (ss z9)))), (b12, .inl (cI, 1600, .inl (fun z9 => iI (mo z9))))] s.heap := hP
  have hl := lv_entry ([.ref b0, .int (iI zx)]) (n := 5) (Nat.le_of_ble_eq_true rfl)
  have hent : entryFrame m args 5 = F0 m 0 ((lg_sl ([.ref b0, .int (iI zx)]) ++ List.replicate (5 - (lg_sl ([.ref b0, .int (iI zx)])).length) Slot.unset).toArray) [] := by rw [hav]; exact lg_entry_eq ..
  rw [hent]
  generalize (lg_sl ([.ref b0, .int (iI zx)]) ++ List.replicate (5 - (lg_sl ([.ref b0, .int (iI zx)])).length) Slot.unset).toArray = ls at hl ⊢
  have hl : lv_has ls 5 [(0, .ref b0), (1, .int (iI zx))] := hl
  have bd0 := hok.bd
  have bd1 := hok.fr
  refine lv_aload_n hx hb dX6_gapOf_0 rfl (lv_at hl 0 rfl) ?_
  refine va_get (D := (dC, dI)) (ci := 6) (v := .ref b1) (C := RX6) (T := TX6) (N := 16) hx hb hts hw6 hown hK hP 0 rfl rfl 0 (by decide) hf7 (fun _ h9 => h9) rfl dX6_gapOf_1 ?_
  refine zz_iconst hx hb dX6_gapOf_4 ?_
  refine zz_iald hx hb hK hP 1 0 (f := w) rfl rfl (by decide) 1 (by omega) (by omega) dX6_gapOf_5 ?_
  refine lv_istore_n (lv' := [(2, .int (iI (w 1))), (0, .ref b0), (1, .int (iI zx))]) hx hb dX6_gapOf_6 rfl hl (by decide) rfl (fun ls hl => ?_)
  refine lv_aload_n hx hb dX6_gapOf_7 rfl (lv_at hl 1 rfl) ?_
  refine va_get (D := (dC, dI)) (ci := 6) (v := .ref b6) (C := RX6) (T := TX6) (N := 16) hx hb hts hw6 hown hK hP 0 rfl rfl 9 (by decide) hf26 (fun _ h9 => h9) rfl dX6_gapOf_8 ?_
  refine lv_iload_n hx hb dX6_gapOf_11 rfl (lv_at hl 2 rfl) ?_
  refine zz_iconst hx hb dX6_gapOf_12 ?_
  refine zz_iadd hx hb dX6_gapOf_13 ?_
  refine lv_iload_n hx hb dX6_gapOf_14 rfl (lv_at hl 0 rfl) ?_
  refine zz_irem hx hb dX6_gapOf_15 (by omega) (by omega) (by omega) ?_
  rw [show (Int.tmod (zx + (1 : Int)) (w 1)) = ((nx n x : Nat) : Int) from by rw [ex, bd0.2.1]; exact (tmod_nat (x + 1) n).trans (congrArg Nat.cast (nx_eq (by omega)))]
  have hnx := nx_lt (n := n) (k := x) (by omega)
  refine zz_ialdv hx hb hK hP 6 0 (f := od) rfl rfl (by decide) (nx n x) (by omega) (by omega) (v := ((o (nx n x) : Nat) : Int)) (Lay.od hL (j := (nx n x)) (by omega)) dX6_gapOf_16 ?_
  have lo_16 := Lay.lt hL (j := (nx n x)) (by omega)
  refine lv_istore_n (lv' := [(3, .int (iI ((o (nx n x) : Nat) : Int))), (2, .int (iI (w 1))), (0, .ref b0), (1, .int (iI zx))]) hx hb dX6_gapOf_17 rfl hl (by decide) rfl (fun ls hl => ?_)
  refine lv_aload_n hx hb dX6_gapOf_18 rfl (lv_at hl 2 rfl) ?_
  refine va_get (D := (dC, dI)) (ci := 6) (v := .ref b6) (C := RX6) (T := TX6) (N := 16) hx hb hts hw6 hown hK hP 0 rfl rfl 9 (by decide) hf26 (fun _ h9 => h9) rfl dX6_gapOf_19 ?_
  refine lv_iload_n hx hb dX6_gapOf_22 rfl (lv_at hl 3 rfl) ?_
  refine zz_ialdv hx hb hK hP 6 0 (f := od) rfl rfl (by decide) x (by omega) (by omega) (v := ((o x : Nat) : Int)) (Lay.od hL (j := x) (by omega)) dX6_gapOf_23 ?_
  have lo_23 := Lay.lt hL (j := x) (by omega)
  refine lv_istore (lv' := [(4, .int (iI ((o x : Nat) : Int))), (3, .int (iI ((o (nx n x) : Nat) : Int))), (2, .int (iI (w 1))), (0, .ref b0), (1, .int (iI zx))]) hx hb dX6_gapOf_24 hl (by decide) rfl (fun ls hl => ?_)
  refine lv_iload_n hx hb dX6_gapOf_26 rfl (lv_at hl 2 rfl) ?_
  refine zz_iconst hx hb dX6_gapOf_27 ?_
  refine zz_icmp_ne (tgt := 38) hx hb dX6_gapOf_28 (by decide) (by omega) (by omega) (fun c_28 => ?_) (fun c_28 => ?_)
  · skip
    refine lv_aload_n hx hb dX6_gapOf_38 rfl (lv_at hl 3 rfl) ?_
    refine va_get (D := (dC, dI)) (ci := 6) (v := .ref b1) (C := RX6) (T := TX6) (N := 16) hx hb hts hw6 hown hK hP 0 rfl rfl 0 (by decide) hf7 (fun _ h9 => h9) rfl dX6_gapOf_39 ?_
    refine zz_iconst hx hb dX6_gapOf_42 ?_
    refine lv_iload_n hx hb dX6_gapOf_43 rfl (lv_at hl 1 rfl) ?_
    refine zz_iadd hx hb dX6_gapOf_44 ?_
    refine zz_iald hx hb hK hP 1 0 (f := w) rfl rfl (by decide) (5 + (o (nx n x))) (by omega) (by omega) dX6_gapOf_45 ?_
    have b_45 := hok.at (k := (o (nx n x))) (by omega)
    refine lv_aload_n hx hb dX6_gapOf_46 rfl (lv_at hl 3 rfl) ?_
    refine va_get (D := (dC, dI)) (ci := 6) (v := .ref b1) (C := RX6) (T := TX6) (N := 16) hx hb hts hw6 hown hK hP 0 rfl rfl 0 (by decide) hf7 (fun _ h9 => h9) rfl dX6_gapOf_47 ?_
    refine zz_iconst hx hb dX6_gapOf_50 ?_
    refine lv_iload hx hb dX6_gapOf_51 (lv_at hl 0 rfl) ?_
    refine zz_iadd hx hb dX6_gapOf_53 ?_
    refine zz_iald hx hb hK hP 1 0 (f := w) rfl rfl (by decide) (5 + (o x)) (by omega) (by omega) dX6_gapOf_54 ?_
    have b_54 := hok.at (k := (o x)) (by omega)
    refine zz_isub hx hb dX6_gapOf_55 ?_
    refine lv_aload_n hx hb dX6_gapOf_56 rfl (lv_at hl 3 rfl) ?_
    refine va_get (D := (dC, dI)) (ci := 6) (v := .ref b1) (C := RX6) (T := TX6) (N := 16) hx hb hts hw6 hown hK hP 0 rfl rfl 0 (by decide) hf7 (fun _ h9 => h9) rfl dX6_gapOf_57 ?_
    refine zz_bipush hx hb dX6_gapOf_60 (by decide +kernel) ?_
    refine lv_iload hx hb dX6_gapOf_62 (lv_at hl 0 rfl) ?_
    refine zz_iadd hx hb dX6_gapOf_64 ?_
    refine zz_iald hx hb hK hP 1 0 (f := w) rfl rfl (by decide) (13 + (o x)) (by omega) (by omega) dX6_gapOf_65 ?_
    have b_65 := hok.at (k := (o x)) (by omega)
    refine zz_isub hx hb dX6_gapOf_66 ?_
    refine lv_aload_n hx hb dX6_gapOf_67 rfl (lv_at hl 3 rfl) ?_
    refine va_get (D := (dC, dI)) (ci := 6) (v := .ref b1) (C := RX6) (T := TX6) (N := 16) hx hb hts hw6 hown hK hP 0 rfl rfl 0 (by decide) hf7 (fun _ h9 => h9) rfl dX6_gapOf_68 ?_
    refine zz_iconst hx hb dX6_gapOf_71 ?_
    refine zz_iald hx hb hK hP 1 0 (f := w) rfl rfl (by decide) 0 (by omega) (by omega) dX6_gapOf_72 ?_
    refine ro_S (As := [.int (iI (((w (5 + (o (nx n x)))) - (w (5 + (o x)))) - (w (13 + (o x))))), .int (iI (w 0))]) (rest := []) ⟨hx, hb, hml, hown, hts⟩ (c_X6_rest l dC dI cI cJ cC cO (((w (5 + (o (nx n x)))) - (w (5 + (o x)))) - (w (13 + (o x)))) (w 0) (by omega) (by omega)) (cwS 2 hts gX6_gapOf_X6_rest rfl rfl rfl (by decide +kernel) ⟨Nat.le_of_ble_eq_true rfl, Nat.le_of_ble_eq_true rfl⟩) hK hP [] rfl rfl hl.1 rfl (Nat.le_of_ble_eq_true rfl) dX6_gapOf_73 ⟨Nat.zero_le _, Nat.zero_le _⟩ (fun z_73 hz_73 => ?_)
    subst hz_73
    have bz_73 := fm_b (x := (((w (5 + (o (nx n x)))) - (w (5 + (o x)))) - (w (13 + (o x))))) (y := (w 0)) (by omega)
    exact W.iret (v := iI ((((w (5 + (o (nx n x)))) - (w (5 + (o x)))) - (w (13 + (o x)))) % (w 0))) hx hb hr (fun t9 ht9 hW9 => ⟨((((w (5 + (o (nx n x)))) - (w (5 + (o x)))) - (w (13 + (o x)))) % (w 0)), rfl, by simp only [gpM]; rw [if_neg (by omega)], ht9⟩) (fun q hq => by cases hq) dX6_gapOf_76
  · skip
    refine lv_aload_n hx hb dX6_gapOf_31 rfl (lv_at hl 3 rfl) ?_
    refine ro_V (As := []) (rest := []) ⟨hx, hb, hml, hown, hts⟩ (c_X6_free l dC dI cI cJ cC cO b0 b1 b2 b3 b4 b5 b6 b7 b8 b9 b10 b11 b12 w pa ad be ns ia tx tl ta od pt tu fa th ss mo n hok) (cwV 0 hts gX6_gapOf_X6_free rfl rfl rfl (by decide +kernel) ⟨Nat.le_of_ble_eq_true rfl, Nat.le_of_ble_eq_true rfl⟩) hK hP [0, 1, 2, 3, 4, 5, 6, 7, 8, 9, 10, 11, 12] rfl 6 0 rfl rfl rfl hl.1 rfl (Nat.le_of_ble_eq_true rfl) dX6_gapOf_32 ⟨Nat.zero_le _, Nat.zero_le _⟩ (fun z_32 hz_32 => ?_)
    subst hz_32
    have bz_32 := hok.fr
    refine lv_goto (tgt := 76) hx hb dX6_gapOf_35 (by decide) ?_
    exact W.iret (v := iI (frM w n)) hx hb hr (fun t9 ht9 hW9 => ⟨(frM w n), rfl, by simp only [gpM]; rw [if_pos (by omega)], ht9⟩) (fun q hq => by cases hq) dX6_gapOf_76
set_option maxHeartbeats 4000000 in
set_option maxRecDepth 100000 in
theorem c_X6_isLeft (l : Launch) (dC : Nat → ClassId) (dI : Nat → Nat → Nat) (cI cJ cC cO : ClassId) (b0 b1 b2 b3 b4 b5 b6 b7 b8 b9 b10 b11 b12 : Nat) (w pa ad be : Nat → Int) (ns ia : Int) (tx : Nat → Int) (tl ta : Int) (od pt tu fa th ss mo : Nat → Int) (n : Nat) (hok : MOk w n) (o : Nat → Nat) (hL : Lay w n o od pt) (zx : Int) (x : Nat) (ex : zx = (x : Int)) (hx : x < n) (zy : Int) (y : Nat) (ey : zy = (y : Int)) (hy : y < n) : Met l yX6_isLeft wsX6_isLeft ({ frames := 3, cells := 0, slots := 0, locals := 66 } : Room) (va_Pc [.ref b0, .int (iI zx), .int (iI zy)] (ro_B (dC, dI) vwCl (tyG cI cJ cC cO) (wM cI cC b0 b1 b2 b3 b4 b5 b6 b7 b8 b9 b10 b11 b12 w pa ad be ns ia tx tl ta od pt tu fa th ss mo))) (ro_Q (fun z => z = if ilB w n o (rd n x y) x = true then 1 else 0)) 0 0 (fun _ => False) := by
  refine Met.ofW (cc := cX6_isLeft) (maxL := 5) (ret := (some .boolean)) (by decide) rfl ?_
  intro p e s m args below meth c s₁ B hml hv
  obtain ⟨hav, hP, hK⟩ := hv
  have hx := B.exec
  have hb := B.bytes
  have hr := B.returns
  have hts := atoms_spec (ws := wsX6_isLeft) B.pre
  have hown : s.vm.findClass RX6 = some m.cls := findClass_of_methodNamed B.named
  have hlocks := B.notSynchronized
  have hf7 := hts (.fieldLink RX6 7 "RingRodsModel" "row" "[I") (by decide +kernel)
  have hw6 : ∀ w ∈ u_ws RX6 TX6 16, w ∈ wsX6_isLeft := by decide +kernel
  have hP : va_P (dC, dI) vwCl [(b0, .inr (6, [.ref b1, .ref b2, .ref b3, .ref b4, .int (iI ns), .int (iI ia), .ref b5, .int (iI tl), .int (iI ta), .ref b6, .ref b7, .ref b8, .ref b9, .ref b10, .ref b11, .ref b12])), (b1, .inl (cI, 37, .inl (fun z9 => iI (w z9)))), (b2, .inl (cI, 148, .inl (fun z9 => iI (pa z9)))), (b3, .inl (cI, 37, .inl (fun z9 => iI (ad z9)))), (b4, .inl (cI, 37, .inl (fun z9 => iI (be z9)))), (b5, .inl (cC, 60, .inl (fun z9 => iI (tx z9)))), (b6, .inl (cI, 8, .inl (fun z9 => iI (od z9)))), (b7, .inl (cI, 8, .inl (fun z9 => iI (pt z9)))), (b8, .inl (cI, 8, .inl (fun z9 => iI (tu z9)))), (b9, .inl (cI, 8, .inl (fun z9 => iI (fa z9)))), (b10, .inl (cI, 8, .inl (fun z9 => iI (th z9)))), (b11, .inl (cI, 8, .inl (fun z9 => iI (ss z9)))), (b12, .inl (cI, 1600, .inl (fun z9 => iI (mo z9))))] s.heap := hP
  have hl := lv_entry ([.ref b0, .int (iI zx), .int (iI zy)]) (n := 5) (Nat.le_of_ble_eq_true rfl)
  have hent : entryFrame m args 5 = F0 m 0 ((lg_sl ([.ref b0, .int (iI zx), .int (iI zy)]) ++ List.replicate (5 - (lg_sl ([.ref b0, .int (iI zx), .int (iI zy)])).length) Slot.unset).toArray) [] := by rw [hav]; exact lg_entry_eq ..
  rw [hent]
  generalize (lg_sl ([.ref b0, .int (iI zx), .int (iI zy)]) ++ List.replicate (5 - (lg_sl ([.ref b0, .int (iI zx), .int (iI zy)])).length) Slot.unset).toArray = ls at hl ⊢
  have hl : lv_has ls 5 [(0, .ref b0), (1, .int (iI zx)), (2, .int (iI zy))] := hl
  have bd0 := hok.bd
  have bd1 := hok.fr
  refine lv_iload_n hx hb dX6_isLeft_0 rfl (lv_at hl 1 rfl) ?_
  refine lv_istore_n (lv' := [(3, .int (iI zx)), (0, .ref b0), (1, .int (iI zx)), (2, .int (iI zy))]) hx hb dX6_isLeft_1 rfl hl (by decide) rfl (fun ls hl => ?_)
  have lp2 : ∀ (d2 : Nat), ∀ (k : Nat) (v3 : Int) (hk9 : k < n) (ek : v3 = (k : Int)) (hI : ilB w n o (rd n k y) k = ilB w n o (rd n x y) x), rd n k y < d2 → ∀ ls : Array Slot, lv_has ls 5 [(0, .ref b0), (1, .int (iI zx)), (2, .int (iI zy)), (3, .int (iI v3))] → W p l e ({ frames := 3, cells := 0, slots := 0, locals := 66 } : Room) s m args below meth c s.heap [] 0 0 (MQ below (ro_Q (fun z => z = if ilB w n o (rd n x y) x = true then 1 else 0)) args s 0 0 (fun _ => False)) (F0 m 2 ls []) := by
    intro d2
    induction d2 with
    | zero =>
      intro k v3 hk9 ek hI hd2
      exact absurd hd2 (Nat.not_lt_zero _)
    | succ d2 ih2 =>
      intro k v3 hk9 ek hI hd2 ls hl
      refine lv_iload_n hx hb dX6_isLeft_2 rfl (lv_at hl 3 rfl) ?_
      refine lv_iload_n hx hb dX6_isLeft_3 rfl (lv_at hl 2 rfl) ?_
      refine zz_icmp_eq (tgt := 35) hx hb dX6_isLeft_4 (by decide) (by omega) (by omega) (fun c_4 => ?_) (fun c_4 => ?_)
      · skip
        refine zz_iconst hx hb dX6_isLeft_35 ?_
        exact W.zret (v := iI (1 : Int)) hx hb hr (rfl) (fun t9 ht9 hW9 => ⟨(1 : Int), rfl, by (have h9 : k = y := (by omega)); rw [h9, rd_z] at hI; rw [← hI]; rfl, ht9⟩) (fun q hq => by cases hq) dX6_isLeft_36
      · skip
        refine lv_iload_n hx hb dX6_isLeft_7 rfl (lv_at hl 3 rfl) ?_
        refine zz_iconst hx hb dX6_isLeft_8 ?_
        refine zz_iadd hx hb dX6_isLeft_9 ?_
        refine lv_aload_n hx hb dX6_isLeft_10 rfl (lv_at hl 0 rfl) ?_
        refine va_get (D := (dC, dI)) (ci := 6) (v := .ref b1) (C := RX6) (T := TX6) (N := 16) hx hb hts hw6 hown hK hP 0 rfl rfl 0 (by decide) hf7 (fun _ h9 => h9) rfl dX6_isLeft_11 ?_
        refine zz_iconst hx hb dX6_isLeft_14 ?_
        refine zz_iald hx hb hK hP 1 0 (f := w) rfl rfl (by decide) 1 (by omega) (by omega) dX6_isLeft_15 ?_
        refine zz_irem hx hb dX6_isLeft_16 (by omega) (by omega) (by omega) ?_
        rw [show (Int.tmod (v3 + (1 : Int)) (w 1)) = ((nx n k : Nat) : Int) from by rw [ek, bd0.2.1]; exact (tmod_nat (k + 1) n).trans (congrArg Nat.cast (nx_eq (by omega)))]
        refine lv_istore (lv' := [(4, .int (iI ((nx n k : Nat) : Int))), (0, .ref b0), (1, .int (iI zx)), (2, .int (iI zy)), (3, .int (iI v3))]) hx hb dX6_isLeft_17 hl (by decide) rfl (fun ls hl => ?_)
        have hnx := nx_lt (n := n) (k := k) (by omega)
        have hrd := rd_nx (n := n) (a := k) (b := y) (by omega) (by omega) (by omega)
        refine lv_aload_n hx hb dX6_isLeft_19 rfl (lv_at hl 1 rfl) ?_
        refine lv_iload_n hx hb dX6_isLeft_20 rfl (lv_at hl 4 rfl) ?_
        refine ro_V (As := [.int (iI v3)]) (rest := []) ⟨hx, hb, hml, hown, hts⟩ (c_X6_gapOf l dC dI cI cJ cC cO b0 b1 b2 b3 b4 b5 b6 b7 b8 b9 b10 b11 b12 w pa ad be ns ia tx tl ta od pt tu fa th ss mo n hok o hL v3 k (by omega) (by omega)) (cwV 1 hts gX6_isLeft_X6_gapOf rfl rfl rfl (by decide +kernel) ⟨Nat.le_of_ble_eq_true rfl, Nat.le_of_ble_eq_true rfl⟩) hK hP [0, 1, 2, 3, 4, 5, 6, 7, 8, 9, 10, 11, 12] rfl 6 0 rfl rfl rfl hl.1 rfl (Nat.le_of_ble_eq_true rfl) dX6_isLeft_21 ⟨Nat.zero_le _, Nat.zero_le _⟩ (fun z_21 hz_21 => ?_)
        subst hz_21
        have bz_21 := MOk.gp hok o k
        refine zz_if_le (tgt := 29) hx hb dX6_isLeft_24 (by decide) (by omega) (fun c_24 => ?_) (fun c_24 => ?_)
        · skip
          refine lv_iload hx hb dX6_isLeft_29 (lv_at hl 0 rfl) ?_
          refine lv_istore_n (lv' := [(3, .int (iI ((nx n k : Nat) : Int))), (4, .int (iI ((nx n k : Nat) : Int))), (0, .ref b0), (1, .int (iI zx)), (2, .int (iI zy))]) hx hb dX6_isLeft_31 rfl hl (by decide) rfl (fun ls hl => ?_)
          refine lv_goto (tgt := 2) hx hb dX6_isLeft_32 (by decide) ?_
          exact ih2 (nx n k) ((nx n k : Nat) : Int) (by omega) (by omega) (by rw [← hrd, ilB, decide_eq_true (show gpM w n o k ≤ 0 by omega), Bool.true_and] at hI; exact hI) (by omega) ls (lv_sub hl [2, 3, 4, 0] rfl)
        · skip
          refine zz_iconst hx hb dX6_isLeft_27 ?_
          exact W.zret (v := iI (0 : Int)) hx hb hr (rfl) (fun t9 ht9 hW9 => ⟨(0 : Int), rfl, by rw [← hrd, ilB, decide_eq_false (show ¬ gpM w n o k ≤ 0 by omega), Bool.false_and] at hI; rw [← hI]; rfl, ht9⟩) (fun q hq => by cases hq) dX6_isLeft_28
  exact lp2 _ x zx (by omega) (by omega) (rfl) (Nat.lt_succ_self _) ls (lv_sub hl [1, 2, 3, 0] rfl)
set_option maxHeartbeats 4000000 in
set_option maxRecDepth 100000 in
theorem c_X6_difference (l : Launch) (dC : Nat → ClassId) (dI : Nat → Nat → Nat) (cI cJ cC cO : ClassId) (b0 b1 b2 b3 b4 b5 b6 b7 b8 b9 b10 b11 b12 : Nat) (w pa ad be : Nat → Int) (ns ia : Int) (tx : Nat → Int) (tl ta : Int) (od pt tu fa th ss mo : Nat → Int) (n : Nat) (hok : MOk w n) (o : Nat → Nat) (hL : Lay w n o od pt) (zx : Int) (x : Nat) (ex : zx = (x : Int)) (hx : x < n) (zy : Int) (y : Nat) (ey : zy = (y : Int)) (hy : y < n) : Met l yX6_difference wsX6_difference ({ frames := 0, cells := 0, slots := 0, locals := 0 } : Room) (va_Pc [.ref b0, .int (iI zx), .int (iI zy)] (ro_B (dC, dI) vwCl (tyG cI cJ cC cO) (wM cI cC b0 b1 b2 b3 b4 b5 b6 b7 b8 b9 b10 b11 b12 w pa ad be ns ia tx tl ta od pt tu fa th ss mo))) (ro_Q (fun z => z = dfM w o x y)) 0 0 (fun _ => False) := by
  refine Met.ofW (cc := cX6_difference) (maxL := 4) (ret := (some .int)) (by decide) rfl ?_
  intro p e s m args below meth c s₁ B hml hv
  obtain ⟨hav, hP, hK⟩ := hv
  have hx := B.exec
  have hb := B.bytes
  have hr := B.returns
  have hts := atoms_spec (ws := wsX6_difference) B.pre
  have hown : s.vm.findClass RX6 = some m.cls := findClass_of_methodNamed B.named
  have hlocks := B.notSynchronized
  have hf7 := hts (.fieldLink RX6 7 "RingRodsModel" "row" "[I") (by decide +kernel)
  have hf26 := hts (.fieldLink RX6 26 "RingRodsModel" "order" "[I") (by decide +kernel)
  have hw6 : ∀ w ∈ u_ws RX6 TX6 16, w ∈ wsX6_difference := by decide +kernel
  have hP : va_P (dC, dI) vwCl [(b0, .inr (6, [.ref b1, .ref b2, .ref b3, .ref b4, .int (iI ns), .int (iI ia), .ref b5, .int (iI tl), .int (iI ta), .ref b6, .ref b7, .ref b8, .ref b9, .ref b10, .ref b11, .ref b12])), (b1, .inl (cI, 37, .inl (fun z9 => iI (w z9)))), (b2, .inl (cI, 148, .inl (fun z9 => iI (pa z9)))), (b3, .inl (cI, 37, .inl (fun z9 => iI (ad z9)))), (b4, .inl (cI, 37, .inl (fun z9 => iI (be z9)))), (b5, .inl (cC, 60, .inl (fun z9 => iI (tx z9)))), (b6, .inl (cI, 8, .inl (fun z9 => iI (od z9)))), (b7, .inl (cI, 8, .inl (fun z9 => iI (pt z9)))), (b8, .inl (cI, 8, .inl (fun z9 => iI (tu z9)))), (b9, .inl (cI, 8, .inl (fun z9 => iI (fa z9)))), (b10, .inl (cI, 8, .inl (fun z9 => iI (th z9)))), (b11, .inl (cI, 8, .inl (fun z9 => iI (ss z9)))), (b12, .inl (cI, 1600, .inl (fun z9 => iI (mo z9))))] s.heap := hP
  have hl := lv_entry ([.ref b0, .int (iI zx), .int (iI zy)]) (n := 4) (Nat.le_of_ble_eq_true rfl)
  have hent : entryFrame m args 4 = F0 m 0 ((lg_sl ([.ref b0, .int (iI zx), .int (iI zy)]) ++ List.replicate (4 - (lg_sl ([.ref b0, .int (iI zx), .int (iI zy)])).length) Slot.unset).toArray) [] := by rw [hav]; exact lg_entry_eq ..
  rw [hent]
  generalize (lg_sl ([.ref b0, .int (iI zx), .int (iI zy)]) ++ List.replicate (4 - (lg_sl ([.ref b0, .int (iI zx), .int (iI zy)])).length) Slot.unset).toArray = ls at hl ⊢
  have hl : lv_has ls 4 [(0, .ref b0), (1, .int (iI zx)), (2, .int (iI zy))] := hl
  have bd0 := hok.bd
  have bd1 := hok.fr
  refine lv_aload_n hx hb dX6_difference_0 rfl (lv_at hl 0 rfl) ?_
  refine va_get (D := (dC, dI)) (ci := 6) (v := .ref b1) (C := RX6) (T := TX6) (N := 16) hx hb hts hw6 hown hK hP 0 rfl rfl 0 (by decide) hf7 (fun _ h9 => h9) rfl dX6_difference_1 ?_
  refine zz_bipush hx hb dX6_difference_4 (by decide +kernel) ?_
  refine lv_aload_n hx hb dX6_difference_6 rfl (lv_at hl 0 rfl) ?_
  refine va_get (D := (dC, dI)) (ci := 6) (v := .ref b6) (C := RX6) (T := TX6) (N := 16) hx hb hts hw6 hown hK hP 0 rfl rfl 9 (by decide) hf26 (fun _ h9 => h9) rfl dX6_difference_7 ?_
  refine lv_iload_n hx hb dX6_difference_10 rfl (lv_at hl 1 rfl) ?_
  refine zz_ialdv hx hb hK hP 6 0 (f := od) rfl rfl (by decide) x (by omega) (by omega) (v := ((o x : Nat) : Int)) (Lay.od hL (j := x) (by omega)) dX6_difference_11 ?_
  have lo_11 := Lay.lt hL (j := x) (by omega)
  refine zz_iadd hx hb dX6_difference_12 ?_
  refine zz_iald hx hb hK hP 1 0 (f := w) rfl rfl (by decide) (21 + (o x)) (by omega) (by omega) dX6_difference_13 ?_
  have b_13 := hok.at (k := (o x)) (by omega)
  refine lv_aload_n hx hb dX6_difference_14 rfl (lv_at hl 0 rfl) ?_
  refine va_get (D := (dC, dI)) (ci := 6) (v := .ref b1) (C := RX6) (T := TX6) (N := 16) hx hb hts hw6 hown hK hP 0 rfl rfl 0 (by decide) hf7 (fun _ h9 => h9) rfl dX6_difference_15 ?_
  refine zz_bipush hx hb dX6_difference_18 (by decide +kernel) ?_
  refine lv_aload_n hx hb dX6_difference_20 rfl (lv_at hl 0 rfl) ?_
  refine va_get (D := (dC, dI)) (ci := 6) (v := .ref b6) (C := RX6) (T := TX6) (N := 16) hx hb hts hw6 hown hK hP 0 rfl rfl 9 (by decide) hf26 (fun _ h9 => h9) rfl dX6_difference_21 ?_
  refine lv_iload_n hx hb dX6_difference_24 rfl (lv_at hl 2 rfl) ?_
  refine zz_ialdv hx hb hK hP 6 0 (f := od) rfl rfl (by decide) y (by omega) (by omega) (v := ((o y : Nat) : Int)) (Lay.od hL (j := y) (by omega)) dX6_difference_25 ?_
  have lo_25 := Lay.lt hL (j := y) (by omega)
  refine zz_iadd hx hb dX6_difference_26 ?_
  refine zz_iald hx hb hK hP 1 0 (f := w) rfl rfl (by decide) (21 + (o y)) (by omega) (by omega) dX6_difference_27 ?_
  have b_27 := hok.at (k := (o y)) (by omega)
  refine zz_isub hx hb dX6_difference_28 ?_
  refine lv_istore_n (lv' := [(3, .int (iI ((w (21 + (o x))) - (w (21 + (o y)))))), (0, .ref b0), (1, .int (iI zx)), (2, .int (iI zy))]) hx hb dX6_difference_29 rfl hl (by decide) rfl (fun ls hl => ?_)
  refine lv_iload_n hx hb dX6_difference_30 rfl (lv_at hl 0 rfl) ?_
  refine zz_if_ge (tgt := 39) hx hb dX6_difference_31 (by decide) (by omega) (fun c_31 => ?_) (fun c_31 => ?_)
  · skip
    refine lv_iload_n hx hb dX6_difference_39 rfl (lv_at hl 0 rfl) ?_
    exact W.iret (v := iI ((w (21 + (o x))) - (w (21 + (o y))))) hx hb hr (fun t9 ht9 hW9 => ⟨((w (21 + (o x))) - (w (21 + (o y)))), rfl, by simp only [dfM]; rw [if_neg (by omega)], ht9⟩) (fun q hq => by cases hq) dX6_difference_40
  · skip
    refine lv_iload_n hx hb dX6_difference_34 rfl (lv_at hl 0 rfl) ?_
    refine zz_ineg hx hb dX6_difference_35 ?_
    refine lv_goto (tgt := 40) hx hb dX6_difference_36 (by decide) ?_
    exact W.iret (v := iI (- ((w (21 + (o x))) - (w (21 + (o y)))))) hx hb hr (fun t9 ht9 hW9 => ⟨(- ((w (21 + (o x))) - (w (21 + (o y))))), rfl, by simp only [dfM]; rw [if_pos (by omega)], ht9⟩) (fun q hq => by cases hq) dX6_difference_40
set_option maxHeartbeats 4000000 in
set_option maxRecDepth 100000 in
theorem c_X6_ahead (l : Launch) (dC : Nat → ClassId) (dI : Nat → Nat → Nat) (cI cJ cC cO : ClassId) (b0 b1 b2 b3 b4 b5 b6 b7 b8 b9 b10 b11 b12 : Nat) (w pa ad be : Nat → Int) (ns ia : Int) (tx : Nat → Int) (tl ta : Int) (od pt tu fa th ss mo : Nat → Int) (n : Nat) (hok : MOk w n) (o : Nat → Nat) (hL : Lay w n o od pt) (zx : Int) (x : Nat) (ex : zx = (x : Int)) (hx : x < n) (zy : Int) (y : Nat) (ey : zy = (y : Int)) (hy : y < n) : Met l yX6_ahead wsX6_ahead ({ frames := 4, cells := 0, slots := 0, locals := 90 } : Room) (va_Pc [.ref b0, .int (iI zx), .int (iI zy)] (ro_B (dC, dI) vwCl (tyG cI cJ cC cO) (wM cI cC b0 b1 b2 b3 b4 b5 b6 b7 b8 b9 b10 b11 b12 w pa ad be ns ia tx tl ta od pt tu fa th ss mo))) (ro_Q (fun z => z = ahM w n o pt x y)) 0 0 (fun _ => False) := by
  refine Met.ofW (cc := cX6_ahead) (maxL := 8) (ret := (some .int)) (by decide) rfl ?_
  intro p e s m args below meth c s₁ B hml hv
  obtain ⟨hav, hP, hK⟩ := hv
  have hx := B.exec
  have hb := B.bytes
  have hr := B.returns
  have hts := atoms_spec (ws := wsX6_ahead) B.pre
  have hown : s.vm.findClass RX6 = some m.cls := findClass_of_methodNamed B.named
  have hlocks := B.notSynchronized
  have hf7 := hts (.fieldLink RX6 7 "RingRodsModel" "row" "[I") (by decide +kernel)
  have hf26 := hts (.fieldLink RX6 26 "RingRodsModel" "order" "[I") (by decide +kernel)
  have hf29 := hts (.fieldLink RX6 29 "RingRodsModel" "point" "[I") (by decide +kernel)
  have hw6 : ∀ w ∈ u_ws RX6 TX6 16, w ∈ wsX6_ahead := by decide +kernel
  have hP : va_P (dC, dI) vwCl [(b0, .inr (6, [.ref b1, .ref b2, .ref b3, .ref b4, .int (iI ns), .int (iI ia), .ref b5, .int (iI tl), .int (iI ta), .ref b6, .ref b7, .ref b8, .ref b9, .ref b10, .ref b11, .ref b12])), (b1, .inl (cI, 37, .inl (fun z9 => iI (w z9)))), (b2, .inl (cI, 148, .inl (fun z9 => iI (pa z9)))), (b3, .inl (cI, 37, .inl (fun z9 => iI (ad z9)))), (b4, .inl (cI, 37, .inl (fun z9 => iI (be z9)))), (b5, .inl (cC, 60, .inl (fun z9 => iI (tx z9)))), (b6, .inl (cI, 8, .inl (fun z9 => iI (od z9)))), (b7, .inl (cI, 8, .inl (fun z9 => iI (pt z9)))), (b8, .inl (cI, 8, .inl (fun z9 => iI (tu z9)))), (b9, .inl (cI, 8, .inl (fun z9 => iI (fa z9)))), (b10, .inl (cI, 8, .inl (fun z9 => iI (th z9)))), (b11, .inl (cI, 8, .inl (fun z9 => iI (ss z9)))), (b12, .inl (cI, 1600, .inl (fun z9 => iI (mo z9))))] s.heap := hP
  have hl := lv_entry ([.ref b0, .int (iI zx), .int (iI zy)]) (n := 8) (Nat.le_of_ble_eq_true rfl)
  have hent : entryFrame m args 8 = F0 m 0 ((lg_sl ([.ref b0, .int (iI zx), .int (iI zy)]) ++ List.replicate (8 - (lg_sl ([.ref b0, .int (iI zx), .int (iI zy)])).length) Slot.unset).toArray) [] := by rw [hav]; exact lg_entry_eq ..
  rw [hent]
  generalize (lg_sl ([.ref b0, .int (iI zx), .int (iI zy)]) ++ List.replicate (8 - (lg_sl ([.ref b0, .int (iI zx), .int (iI zy)])).length) Slot.unset).toArray = ls at hl ⊢
  have hl : lv_has ls 8 [(0, .ref b0), (1, .int (iI zx)), (2, .int (iI zy))] := hl
  have bd0 := hok.bd
  have bd1 := hok.fr
  refine lv_aload_n hx hb dX6_ahead_0 rfl (lv_at hl 0 rfl) ?_
  refine va_get (D := (dC, dI)) (ci := 6) (v := .ref b1) (C := RX6) (T := TX6) (N := 16) hx hb hts hw6 hown hK hP 0 rfl rfl 0 (by decide) hf7 (fun _ h9 => h9) rfl dX6_ahead_1 ?_
  refine zz_bipush hx hb dX6_ahead_4 (by decide +kernel) ?_
  refine lv_aload_n hx hb dX6_ahead_6 rfl (lv_at hl 0 rfl) ?_
  refine va_get (D := (dC, dI)) (ci := 6) (v := .ref b6) (C := RX6) (T := TX6) (N := 16) hx hb hts hw6 hown hK hP 0 rfl rfl 9 (by decide) hf26 (fun _ h9 => h9) rfl dX6_ahead_7 ?_
  refine lv_iload_n hx hb dX6_ahead_10 rfl (lv_at hl 1 rfl) ?_
  refine zz_ialdv hx hb hK hP 6 0 (f := od) rfl rfl (by decide) x (by omega) (by omega) (v := ((o x : Nat) : Int)) (Lay.od hL (j := x) (by omega)) dX6_ahead_11 ?_
  have lo_11 := Lay.lt hL (j := x) (by omega)
  refine zz_iadd hx hb dX6_ahead_12 ?_
  refine zz_iald hx hb hK hP 1 0 (f := w) rfl rfl (by decide) (21 + (o x)) (by omega) (by omega) dX6_ahead_13 ?_
  have b_13 := hok.at (k := (o x)) (by omega)
  refine lv_istore_n (lv' := [(3, .int (iI (w (21 + (o x))))), (0, .ref b0), (1, .int (iI zx)), (2, .int (iI zy))]) hx hb dX6_ahead_14 rfl hl (by decide) rfl (fun ls hl => ?_)
  refine lv_aload_n hx hb dX6_ahead_15 rfl (lv_at hl 1 rfl) ?_
  refine va_get (D := (dC, dI)) (ci := 6) (v := .ref b1) (C := RX6) (T := TX6) (N := 16) hx hb hts hw6 hown hK hP 0 rfl rfl 0 (by decide) hf7 (fun _ h9 => h9) rfl dX6_ahead_16 ?_
  refine zz_bipush hx hb dX6_ahead_19 (by decide +kernel) ?_
  refine lv_aload_n hx hb dX6_ahead_21 rfl (lv_at hl 1 rfl) ?_
  refine va_get (D := (dC, dI)) (ci := 6) (v := .ref b6) (C := RX6) (T := TX6) (N := 16) hx hb hts hw6 hown hK hP 0 rfl rfl 9 (by decide) hf26 (fun _ h9 => h9) rfl dX6_ahead_22 ?_
  refine lv_iload_n hx hb dX6_ahead_25 rfl (lv_at hl 3 rfl) ?_
  refine zz_ialdv hx hb hK hP 6 0 (f := od) rfl rfl (by decide) y (by omega) (by omega) (v := ((o y : Nat) : Int)) (Lay.od hL (j := y) (by omega)) dX6_ahead_26 ?_
  have lo_26 := Lay.lt hL (j := y) (by omega)
  refine zz_iadd hx hb dX6_ahead_27 ?_
  refine zz_iald hx hb hK hP 1 0 (f := w) rfl rfl (by decide) (21 + (o y)) (by omega) (by omega) dX6_ahead_28 ?_
  have b_28 := hok.at (k := (o y)) (by omega)
  refine lv_istore (lv' := [(4, .int (iI (w (21 + (o y))))), (3, .int (iI (w (21 + (o x))))), (0, .ref b0), (1, .int (iI zx)), (2, .int (iI zy))]) hx hb dX6_ahead_29 hl (by decide) rfl (fun ls hl => ?_)
  refine lv_iload_n hx hb dX6_ahead_31 rfl (lv_at hl 1 rfl) ?_
  refine lv_iload hx hb dX6_ahead_32 (lv_at hl 0 rfl) ?_
  refine zz_icmp_ne (tgt := 40) hx hb dX6_ahead_34 (by decide) (by omega) (by omega) (fun c_34 => ?_) (fun c_34 => ?_)
  · skip
    refine lv_iload_n hx hb dX6_ahead_40 rfl (lv_at hl 1 rfl) ?_
    refine lv_iload hx hb dX6_ahead_41 (lv_at hl 0 rfl) ?_
    refine zz_icmp_le (tgt := 50) hx hb dX6_ahead_43 (by decide) (by omega) (by omega) (fun c_43 => ?_) (fun c_43 => ?_)
    · skip
      refine lv_iload_n hx hb dX6_ahead_50 rfl (lv_at hl 4 rfl) ?_
      refine lv_istore (lv' := [(5, .int (iI zy)), (4, .int (iI (w (21 + (o y))))), (3, .int (iI (w (21 + (o x))))), (0, .ref b0), (1, .int (iI zx)), (2, .int (iI zy))]) hx hb dX6_ahead_51 hl (by decide) rfl (fun ls hl => ?_)
      refine lv_iload_n hx hb dX6_ahead_53 rfl (lv_at hl 2 rfl) ?_
      refine lv_iload hx hb dX6_ahead_54 (lv_at hl 1 rfl) ?_
      refine zz_icmp_le (tgt := 63) hx hb dX6_ahead_56 (by decide) (by omega) (by omega) (fun c_56 => ?_) (fun c_56 => ?_)
      · skip
        refine lv_iload_n hx hb dX6_ahead_63 rfl (lv_at hl 4 rfl) ?_
        refine lv_istore (lv' := [(6, .int (iI zx)), (5, .int (iI zy)), (4, .int (iI (w (21 + (o y))))), (3, .int (iI (w (21 + (o x))))), (0, .ref b0), (1, .int (iI zx)), (2, .int (iI zy))]) hx hb dX6_ahead_64 hl (by decide) rfl (fun ls hl => ?_)
        refine lv_aload_n hx hb dX6_ahead_66 rfl (lv_at hl 4 rfl) ?_
        refine va_get (D := (dC, dI)) (ci := 6) (v := .ref b7) (C := RX6) (T := TX6) (N := 16) hx hb hts hw6 hown hK hP 0 rfl rfl 10 (by decide) hf29 (fun _ h9 => h9) rfl dX6_ahead_67 ?_
        refine lv_iload hx hb dX6_ahead_70 (lv_at hl 0 rfl) ?_
        refine zz_iald hx hb hK hP 7 0 (f := pt) rfl rfl (by decide) x (by omega) (by omega) dX6_ahead_72 ?_
        have bp_72 := Lay.pt hok hL (j := x) (by omega)
        refine lv_aload_n hx hb dX6_ahead_73 rfl (lv_at hl 4 rfl) ?_
        refine va_get (D := (dC, dI)) (ci := 6) (v := .ref b7) (C := RX6) (T := TX6) (N := 16) hx hb hts hw6 hown hK hP 0 rfl rfl 10 (by decide) hf29 (fun _ h9 => h9) rfl dX6_ahead_74 ?_
        refine lv_iload hx hb dX6_ahead_77 (lv_at hl 1 rfl) ?_
        refine zz_iald hx hb hK hP 7 0 (f := pt) rfl rfl (by decide) y (by omega) (by omega) dX6_ahead_79 ?_
        have bp_79 := Lay.pt hok hL (j := y) (by omega)
        refine zz_isub hx hb dX6_ahead_80 ?_
        refine lv_aload_n hx hb dX6_ahead_81 rfl (lv_at hl 4 rfl) ?_
        refine ro_V (As := []) (rest := [.int (iI ((pt x) - (pt y)))]) ⟨hx, hb, hml, hown, hts⟩ (c_X6_free l dC dI cI cJ cC cO b0 b1 b2 b3 b4 b5 b6 b7 b8 b9 b10 b11 b12 w pa ad be ns ia tx tl ta od pt tu fa th ss mo n hok) (cwV 0 hts gX6_ahead_X6_free rfl rfl rfl (by decide +kernel) ⟨Nat.le_of_ble_eq_true rfl, Nat.le_of_ble_eq_true rfl⟩) hK hP [0, 1, 2, 3, 4, 5, 6, 7, 8, 9, 10, 11, 12] rfl 6 0 rfl rfl rfl hl.1 rfl (Nat.le_of_ble_eq_true rfl) dX6_ahead_82 ⟨Nat.zero_le _, Nat.zero_le _⟩ (fun z_82 hz_82 => ?_)
        subst hz_82
        have bz_82 := hok.fr
        refine ro_S (As := [.int (iI ((pt x) - (pt y))), .int (iI (frM w n))]) (rest := []) ⟨hx, hb, hml, hown, hts⟩ (c_X6_rest l dC dI cI cJ cC cO ((pt x) - (pt y)) (frM w n) (by omega) (by omega)) (cwS 2 hts gX6_ahead_X6_rest rfl rfl rfl (by decide +kernel) ⟨Nat.le_of_ble_eq_true rfl, Nat.le_of_ble_eq_true rfl⟩) hK hP [] rfl rfl hl.1 rfl (Nat.le_of_ble_eq_true rfl) dX6_ahead_85 ⟨Nat.zero_le _, Nat.zero_le _⟩ (fun z_85 hz_85 => ?_)
        subst hz_85
        have bz_85 := fm_b (x := ((pt x) - (pt y))) (y := (frM w n)) (by omega)
        refine lv_istore (lv' := [(7, .int (iI (((pt x) - (pt y)) % (frM w n)))), (6, .int (iI zx)), (5, .int (iI zy)), (4, .int (iI (w (21 + (o y))))), (3, .int (iI (w (21 + (o x))))), (0, .ref b0), (1, .int (iI zx)), (2, .int (iI zy))]) hx hb dX6_ahead_88 hl (by decide) rfl (fun ls hl => ?_)
        refine lv_iload hx hb dX6_ahead_90 (lv_at hl 0 rfl) ?_
        refine zz_if_gt (tgt := 106) hx hb dX6_ahead_92 (by decide) (by omega) (fun c_92 => ?_) (fun c_92 => ?_)
        · skip
          refine lv_iload hx hb dX6_ahead_106 (lv_at hl 0 rfl) ?_
          refine lv_goto (tgt := 115) hx hb dX6_ahead_108 (by decide) ?_
          exact W.iret (v := iI (((pt x) - (pt y)) % (frM w n))) hx hb hr (fun t9 ht9 hW9 => ⟨(((pt x) - (pt y)) % (frM w n)), rfl, by simp only [ahM]; rw [if_neg (by omega)]; first | (rw [if_pos (by omega)]; simp only [ahF]; first | rw [if_pos (Or.inl (by omega))] | rw [if_pos (Or.inr (by first | exact hiL1 | omega))] | rw [if_neg (fun h9 => h9.elim (by omega) (by first | exact hiL0 | omega))]) | (rw [if_neg (by omega)]; simp only [ahF]; first | rw [if_pos (Or.inl (by omega))] | rw [if_pos (Or.inr (by first | exact hiL1 | omega))] | rw [if_neg (fun h9 => h9.elim (by omega) (by first | exact hiL0 | omega))]), ht9⟩) (fun q hq => by cases hq) dX6_ahead_115
        · skip
          refine lv_aload_n hx hb dX6_ahead_95 rfl (lv_at hl 5 rfl) ?_
          refine lv_iload hx hb dX6_ahead_96 (lv_at hl 2 rfl) ?_
          refine lv_iload hx hb dX6_ahead_98 (lv_at hl 1 rfl) ?_
          refine ro_V (As := [.int (iI zy), .int (iI zx)]) (rest := []) ⟨hx, hb, hml, hown, hts⟩ (c_X6_isLeft l dC dI cI cJ cC cO b0 b1 b2 b3 b4 b5 b6 b7 b8 b9 b10 b11 b12 w pa ad be ns ia tx tl ta od pt tu fa th ss mo n hok o hL zy y (by omega) (by omega) zx x (by omega) (by omega)) (cwV 2 hts gX6_ahead_X6_isLeft rfl rfl rfl (by decide +kernel) ⟨Nat.le_of_ble_eq_true rfl, Nat.le_of_ble_eq_true rfl⟩) hK hP [0, 1, 2, 3, 4, 5, 6, 7, 8, 9, 10, 11, 12] rfl 6 0 rfl rfl rfl hl.1 rfl (Nat.le_of_ble_eq_true rfl) dX6_ahead_100 ⟨Nat.zero_le _, Nat.zero_le _⟩ (fun z_100 hz_100 => ?_)
          have bz_100 : 0 ≤ z_100 ∧ z_100 ≤ 1 := by rw [hz_100]; split <;> omega
          refine zz_if_eq (tgt := 111) hx hb dX6_ahead_103 (by decide) (by omega) (fun c_103 => ?_) (fun c_103 => ?_)
          · skip
            have hiL0 := (il_of hz_100).2 (by omega)
            refine lv_aload_n hx hb dX6_ahead_111 rfl (lv_at hl 5 rfl) ?_
            refine ro_V (As := []) (rest := []) ⟨hx, hb, hml, hown, hts⟩ (c_X6_free l dC dI cI cJ cC cO b0 b1 b2 b3 b4 b5 b6 b7 b8 b9 b10 b11 b12 w pa ad be ns ia tx tl ta od pt tu fa th ss mo n hok) (cwV 0 hts gX6_ahead_X6_free rfl rfl rfl (by decide +kernel) ⟨Nat.le_of_ble_eq_true rfl, Nat.le_of_ble_eq_true rfl⟩) hK hP [0, 1, 2, 3, 4, 5, 6, 7, 8, 9, 10, 11, 12] rfl 6 0 rfl rfl rfl hl.1 rfl (Nat.le_of_ble_eq_true rfl) dX6_ahead_112 ⟨Nat.zero_le _, Nat.zero_le _⟩ (fun z_112 hz_112 => ?_)
            subst hz_112
            have bz_112 := hok.fr
            exact W.iret (v := iI (frM w n)) hx hb hr (fun t9 ht9 hW9 => ⟨(frM w n), rfl, by simp only [ahM]; rw [if_neg (by omega)]; first | (rw [if_pos (by omega)]; simp only [ahF]; first | rw [if_pos (Or.inl (by omega))] | rw [if_pos (Or.inr (by first | exact hiL1 | omega))] | rw [if_neg (fun h9 => h9.elim (by omega) (by first | exact hiL0 | omega))]) | (rw [if_neg (by omega)]; simp only [ahF]; first | rw [if_pos (Or.inl (by omega))] | rw [if_pos (Or.inr (by first | exact hiL1 | omega))] | rw [if_neg (fun h9 => h9.elim (by omega) (by first | exact hiL0 | omega))]), ht9⟩) (fun q hq => by cases hq) dX6_ahead_115
          · skip
            have hiL1 := (il_of hz_100).1 (by omega)
            refine lv_iload hx hb dX6_ahead_106 (lv_at hl 0 rfl) ?_
            refine lv_goto (tgt := 115) hx hb dX6_ahead_108 (by decide) ?_
            exact W.iret (v := iI (((pt x) - (pt y)) % (frM w n))) hx hb hr (fun t9 ht9 hW9 => ⟨(((pt x) - (pt y)) % (frM w n)), rfl, by simp only [ahM]; rw [if_neg (by omega)]; first | (rw [if_pos (by omega)]; simp only [ahF]; first | rw [if_pos (Or.inl (by omega))] | rw [if_pos (Or.inr (by first | exact hiL1 | omega))] | rw [if_neg (fun h9 => h9.elim (by omega) (by first | exact hiL0 | omega))]) | (rw [if_neg (by omega)]; simp only [ahF]; first | rw [if_pos (Or.inl (by omega))] | rw [if_pos (Or.inr (by first | exact hiL1 | omega))] | rw [if_neg (fun h9 => h9.elim (by omega) (by first | exact hiL0 | omega))]), ht9⟩) (fun q hq => by cases hq) dX6_ahead_115
      · skip
        exfalso; omega
    · skip
      refine lv_iload_n hx hb dX6_ahead_46 rfl (lv_at hl 3 rfl) ?_
      refine lv_goto (tgt := 51) hx hb dX6_ahead_47 (by decide) ?_
      refine lv_istore (lv' := [(5, .int (iI zx)), (4, .int (iI (w (21 + (o y))))), (3, .int (iI (w (21 + (o x))))), (0, .ref b0), (1, .int (iI zx)), (2, .int (iI zy))]) hx hb dX6_ahead_51 hl (by decide) rfl (fun ls hl => ?_)
      refine lv_iload_n hx hb dX6_ahead_53 rfl (lv_at hl 2 rfl) ?_
      refine lv_iload hx hb dX6_ahead_54 (lv_at hl 1 rfl) ?_
      refine zz_icmp_le (tgt := 63) hx hb dX6_ahead_56 (by decide) (by omega) (by omega) (fun c_56 => ?_) (fun c_56 => ?_)
      · skip
        exfalso; omega
      · skip
        refine lv_iload_n hx hb dX6_ahead_59 rfl (lv_at hl 5 rfl) ?_
        refine lv_goto (tgt := 64) hx hb dX6_ahead_60 (by decide) ?_
        refine lv_istore (lv' := [(6, .int (iI zy)), (5, .int (iI zx)), (4, .int (iI (w (21 + (o y))))), (3, .int (iI (w (21 + (o x))))), (0, .ref b0), (1, .int (iI zx)), (2, .int (iI zy))]) hx hb dX6_ahead_64 hl (by decide) rfl (fun ls hl => ?_)
        refine lv_aload_n hx hb dX6_ahead_66 rfl (lv_at hl 4 rfl) ?_
        refine va_get (D := (dC, dI)) (ci := 6) (v := .ref b7) (C := RX6) (T := TX6) (N := 16) hx hb hts hw6 hown hK hP 0 rfl rfl 10 (by decide) hf29 (fun _ h9 => h9) rfl dX6_ahead_67 ?_
        refine lv_iload hx hb dX6_ahead_70 (lv_at hl 0 rfl) ?_
        refine zz_iald hx hb hK hP 7 0 (f := pt) rfl rfl (by decide) y (by omega) (by omega) dX6_ahead_72 ?_
        have bp_72 := Lay.pt hok hL (j := y) (by omega)
        refine lv_aload_n hx hb dX6_ahead_73 rfl (lv_at hl 4 rfl) ?_
        refine va_get (D := (dC, dI)) (ci := 6) (v := .ref b7) (C := RX6) (T := TX6) (N := 16) hx hb hts hw6 hown hK hP 0 rfl rfl 10 (by decide) hf29 (fun _ h9 => h9) rfl dX6_ahead_74 ?_
        refine lv_iload hx hb dX6_ahead_77 (lv_at hl 1 rfl) ?_
        refine zz_iald hx hb hK hP 7 0 (f := pt) rfl rfl (by decide) x (by omega) (by omega) dX6_ahead_79 ?_
        have bp_79 := Lay.pt hok hL (j := x) (by omega)
        refine zz_isub hx hb dX6_ahead_80 ?_
        refine lv_aload_n hx hb dX6_ahead_81 rfl (lv_at hl 4 rfl) ?_
        refine ro_V (As := []) (rest := [.int (iI ((pt y) - (pt x)))]) ⟨hx, hb, hml, hown, hts⟩ (c_X6_free l dC dI cI cJ cC cO b0 b1 b2 b3 b4 b5 b6 b7 b8 b9 b10 b11 b12 w pa ad be ns ia tx tl ta od pt tu fa th ss mo n hok) (cwV 0 hts gX6_ahead_X6_free rfl rfl rfl (by decide +kernel) ⟨Nat.le_of_ble_eq_true rfl, Nat.le_of_ble_eq_true rfl⟩) hK hP [0, 1, 2, 3, 4, 5, 6, 7, 8, 9, 10, 11, 12] rfl 6 0 rfl rfl rfl hl.1 rfl (Nat.le_of_ble_eq_true rfl) dX6_ahead_82 ⟨Nat.zero_le _, Nat.zero_le _⟩ (fun z_82 hz_82 => ?_)
        subst hz_82
        have bz_82 := hok.fr
        refine ro_S (As := [.int (iI ((pt y) - (pt x))), .int (iI (frM w n))]) (rest := []) ⟨hx, hb, hml, hown, hts⟩ (c_X6_rest l dC dI cI cJ cC cO ((pt y) - (pt x)) (frM w n) (by omega) (by omega)) (cwS 2 hts gX6_ahead_X6_rest rfl rfl rfl (by decide +kernel) ⟨Nat.le_of_ble_eq_true rfl, Nat.le_of_ble_eq_true rfl⟩) hK hP [] rfl rfl hl.1 rfl (Nat.le_of_ble_eq_true rfl) dX6_ahead_85 ⟨Nat.zero_le _, Nat.zero_le _⟩ (fun z_85 hz_85 => ?_)
        subst hz_85
        have bz_85 := fm_b (x := ((pt y) - (pt x))) (y := (frM w n)) (by omega)
        refine lv_istore (lv' := [(7, .int (iI (((pt y) - (pt x)) % (frM w n)))), (6, .int (iI zy)), (5, .int (iI zx)), (4, .int (iI (w (21 + (o y))))), (3, .int (iI (w (21 + (o x))))), (0, .ref b0), (1, .int (iI zx)), (2, .int (iI zy))]) hx hb dX6_ahead_88 hl (by decide) rfl (fun ls hl => ?_)
        refine lv_iload hx hb dX6_ahead_90 (lv_at hl 0 rfl) ?_
        refine zz_if_gt (tgt := 106) hx hb dX6_ahead_92 (by decide) (by omega) (fun c_92 => ?_) (fun c_92 => ?_)
        · skip
          refine lv_iload hx hb dX6_ahead_106 (lv_at hl 0 rfl) ?_
          refine lv_goto (tgt := 115) hx hb dX6_ahead_108 (by decide) ?_
          exact W.iret (v := iI (((pt y) - (pt x)) % (frM w n))) hx hb hr (fun t9 ht9 hW9 => ⟨(((pt y) - (pt x)) % (frM w n)), rfl, by simp only [ahM]; rw [if_neg (by omega)]; first | (rw [if_pos (by omega)]; simp only [ahF]; first | rw [if_pos (Or.inl (by omega))] | rw [if_pos (Or.inr (by first | exact hiL1 | omega))] | rw [if_neg (fun h9 => h9.elim (by omega) (by first | exact hiL0 | omega))]) | (rw [if_neg (by omega)]; simp only [ahF]; first | rw [if_pos (Or.inl (by omega))] | rw [if_pos (Or.inr (by first | exact hiL1 | omega))] | rw [if_neg (fun h9 => h9.elim (by omega) (by first | exact hiL0 | omega))]), ht9⟩) (fun q hq => by cases hq) dX6_ahead_115
        · skip
          refine lv_aload_n hx hb dX6_ahead_95 rfl (lv_at hl 5 rfl) ?_
          refine lv_iload hx hb dX6_ahead_96 (lv_at hl 2 rfl) ?_
          refine lv_iload hx hb dX6_ahead_98 (lv_at hl 1 rfl) ?_
          refine ro_V (As := [.int (iI zx), .int (iI zy)]) (rest := []) ⟨hx, hb, hml, hown, hts⟩ (c_X6_isLeft l dC dI cI cJ cC cO b0 b1 b2 b3 b4 b5 b6 b7 b8 b9 b10 b11 b12 w pa ad be ns ia tx tl ta od pt tu fa th ss mo n hok o hL zx x (by omega) (by omega) zy y (by omega) (by omega)) (cwV 2 hts gX6_ahead_X6_isLeft rfl rfl rfl (by decide +kernel) ⟨Nat.le_of_ble_eq_true rfl, Nat.le_of_ble_eq_true rfl⟩) hK hP [0, 1, 2, 3, 4, 5, 6, 7, 8, 9, 10, 11, 12] rfl 6 0 rfl rfl rfl hl.1 rfl (Nat.le_of_ble_eq_true rfl) dX6_ahead_100 ⟨Nat.zero_le _, Nat.zero_le _⟩ (fun z_100 hz_100 => ?_)
          have bz_100 : 0 ≤ z_100 ∧ z_100 ≤ 1 := by rw [hz_100]; split <;> omega
          refine zz_if_eq (tgt := 111) hx hb dX6_ahead_103 (by decide) (by omega) (fun c_103 => ?_) (fun c_103 => ?_)
          · skip
            have hiL0 := (il_of hz_100).2 (by omega)
            refine lv_aload_n hx hb dX6_ahead_111 rfl (lv_at hl 5 rfl) ?_
            refine ro_V (As := []) (rest := []) ⟨hx, hb, hml, hown, hts⟩ (c_X6_free l dC dI cI cJ cC cO b0 b1 b2 b3 b4 b5 b6 b7 b8 b9 b10 b11 b12 w pa ad be ns ia tx tl ta od pt tu fa th ss mo n hok) (cwV 0 hts gX6_ahead_X6_free rfl rfl rfl (by decide +kernel) ⟨Nat.le_of_ble_eq_true rfl, Nat.le_of_ble_eq_true rfl⟩) hK hP [0, 1, 2, 3, 4, 5, 6, 7, 8, 9, 10, 11, 12] rfl 6 0 rfl rfl rfl hl.1 rfl (Nat.le_of_ble_eq_true rfl) dX6_ahead_112 ⟨Nat.zero_le _, Nat.zero_le _⟩ (fun z_112 hz_112 => ?_)
            subst hz_112
            have bz_112 := hok.fr
            exact W.iret (v := iI (frM w n)) hx hb hr (fun t9 ht9 hW9 => ⟨(frM w n), rfl, by simp only [ahM]; rw [if_neg (by omega)]; first | (rw [if_pos (by omega)]; simp only [ahF]; first | rw [if_pos (Or.inl (by omega))] | rw [if_pos (Or.inr (by first | exact hiL1 | omega))] | rw [if_neg (fun h9 => h9.elim (by omega) (by first | exact hiL0 | omega))]) | (rw [if_neg (by omega)]; simp only [ahF]; first | rw [if_pos (Or.inl (by omega))] | rw [if_pos (Or.inr (by first | exact hiL1 | omega))] | rw [if_neg (fun h9 => h9.elim (by omega) (by first | exact hiL0 | omega))]), ht9⟩) (fun q hq => by cases hq) dX6_ahead_115
          · skip
            have hiL1 := (il_of hz_100).1 (by omega)
            refine lv_iload hx hb dX6_ahead_106 (lv_at hl 0 rfl) ?_
            refine lv_goto (tgt := 115) hx hb dX6_ahead_108 (by decide) ?_
            exact W.iret (v := iI (((pt y) - (pt x)) % (frM w n))) hx hb hr (fun t9 ht9 hW9 => ⟨(((pt y) - (pt x)) % (frM w n)), rfl, by simp only [ahM]; rw [if_neg (by omega)]; first | (rw [if_pos (by omega)]; simp only [ahF]; first | rw [if_pos (Or.inl (by omega))] | rw [if_pos (Or.inr (by first | exact hiL1 | omega))] | rw [if_neg (fun h9 => h9.elim (by omega) (by first | exact hiL0 | omega))]) | (rw [if_neg (by omega)]; simp only [ahF]; first | rw [if_pos (Or.inl (by omega))] | rw [if_pos (Or.inr (by first | exact hiL1 | omega))] | rw [if_neg (fun h9 => h9.elim (by omega) (by first | exact hiL0 | omega))]), ht9⟩) (fun q hq => by cases hq) dX6_ahead_115
  · skip
    refine zz_bipush hx hb dX6_ahead_37 (by decide +kernel) ?_
    exact W.iret (v := iI (-5 : Int)) hx hb hr (fun t9 ht9 hW9 => ⟨(-5 : Int), rfl, by simp only [ahM]; rw [if_pos (by omega)], ht9⟩) (fun q hq => by cases hq) dX6_ahead_39
set_option maxHeartbeats 4000000 in
set_option maxRecDepth 100000 in
theorem c_X6_times (l : Launch) (dC : Nat → ClassId) (dI : Nat → Nat → Nat) (cI cJ cC cO : ClassId) (b0 b1 b2 b3 b4 b5 b6 b7 b8 b9 b10 b11 b12 : Nat) (w pa ad be : Nat → Int) (ns ia : Int) (tx : Nat → Int) (tl ta : Int) (od pt tu fa th ss mo : Nat → Int) (n : Nat) (hok : MOk w n) (o : Nat → Nat) (hL : Lay w n o od pt) (zx : Int) (x : Nat) (ex : zx = (x : Int)) (hx : x < n) (zy : Int) (y : Nat) (ey : zy = (y : Int)) (hy : y < n) (t : Int) (ht : 0 ≤ t ∧ t ≤ 100) : Met l yX6_times wsX6_times ({ frames := 5, cells := 0, slots := 0, locals := 117 } : Room) (va_Pc [.ref b0, .int (iI zx), .int (iI zy), .int (iI t)] (ro_B (dC, dI) vwCl (tyG cI cJ cC cO) (wM cI cC b0 b1 b2 b3 b4 b5 b6 b7 b8 b9 b10 b11 b12 w pa ad be ns ia tx tl ta od pt tu fa th ss mo))) (ro_Q (fun z => z = tmM w n o pt t x y)) 0 0 (fun _ => False) := by
  refine Met.ofW (cc := cX6_times) (maxL := 6) (ret := (some .int)) (by decide) rfl ?_
  intro p e s m args below meth c s₁ B hml hv
  obtain ⟨hav, hP, hK⟩ := hv
  have hx := B.exec
  have hb := B.bytes
  have hr := B.returns
  have hts := atoms_spec (ws := wsX6_times) B.pre
  have hown : s.vm.findClass RX6 = some m.cls := findClass_of_methodNamed B.named
  have hlocks := B.notSynchronized
  have hP : va_P (dC, dI) vwCl [(b0, .inr (6, [.ref b1, .ref b2, .ref b3, .ref b4, .int (iI ns), .int (iI ia), .ref b5, .int (iI tl), .int (iI ta), .ref b6, .ref b7, .ref b8, .ref b9, .ref b10, .ref b11, .ref b12])), (b1, .inl (cI, 37, .inl (fun z9 => iI (w z9)))), (b2, .inl (cI, 148, .inl (fun z9 => iI (pa z9)))), (b3, .inl (cI, 37, .inl (fun z9 => iI (ad z9)))), (b4, .inl (cI, 37, .inl (fun z9 => iI (be z9)))), (b5, .inl (cC, 60, .inl (fun z9 => iI (tx z9)))), (b6, .inl (cI, 8, .inl (fun z9 => iI (od z9)))), (b7, .inl (cI, 8, .inl (fun z9 => iI (pt z9)))), (b8, .inl (cI, 8, .inl (fun z9 => iI (tu z9)))), (b9, .inl (cI, 8, .inl (fun z9 => iI (fa z9)))), (b10, .inl (cI, 8, .inl (fun z9 => iI (th z9)))), (b11, .inl (cI, 8, .inl (fun z9 => iI (ss z9)))), (b12, .inl (cI, 1600, .inl (fun z9 => iI (mo z9))))] s.heap := hP
  have hl := lv_entry ([.ref b0, .int (iI zx), .int (iI zy), .int (iI t)]) (n := 6) (Nat.le_of_ble_eq_true rfl)
  have hent : entryFrame m args 6 = F0 m 0 ((lg_sl ([.ref b0, .int (iI zx), .int (iI zy), .int (iI t)]) ++ List.replicate (6 - (lg_sl ([.ref b0, .int (iI zx), .int (iI zy), .int (iI t)])).length) Slot.unset).toArray) [] := by rw [hav]; exact lg_entry_eq ..
  rw [hent]
  generalize (lg_sl ([.ref b0, .int (iI zx), .int (iI zy), .int (iI t)]) ++ List.replicate (6 - (lg_sl ([.ref b0, .int (iI zx), .int (iI zy), .int (iI t)])).length) Slot.unset).toArray = ls at hl ⊢
  have hl : lv_has ls 6 [(0, .ref b0), (1, .int (iI zx)), (2, .int (iI zy)), (3, .int (iI t))] := hl
  have bd0 := hok.bd
  have bd1 := hok.fr
  refine lv_aload_n hx hb dX6_times_0 rfl (lv_at hl 0 rfl) ?_
  refine lv_iload_n hx hb dX6_times_1 rfl (lv_at hl 1 rfl) ?_
  refine lv_iload_n hx hb dX6_times_2 rfl (lv_at hl 2 rfl) ?_
  refine ro_V (As := [.int (iI zx), .int (iI zy)]) (rest := []) ⟨hx, hb, hml, hown, hts⟩ (c_X6_ahead l dC dI cI cJ cC cO b0 b1 b2 b3 b4 b5 b6 b7 b8 b9 b10 b11 b12 w pa ad be ns ia tx tl ta od pt tu fa th ss mo n hok o hL zx x (by omega) (by omega) zy y (by omega) (by omega)) (cwV 2 hts gX6_times_X6_ahead rfl rfl rfl (by decide +kernel) ⟨Nat.le_of_ble_eq_true rfl, Nat.le_of_ble_eq_true rfl⟩) hK hP [0, 1, 2, 3, 4, 5, 6, 7, 8, 9, 10, 11, 12] rfl 6 0 rfl rfl rfl hl.1 rfl (Nat.le_of_ble_eq_true rfl) dX6_times_3 ⟨Nat.zero_le _, Nat.zero_le _⟩ (fun z_3 hz_3 => ?_)
  subst hz_3
  have bz_3 := MOk.ah hok o pt x y
  refine lv_istore (lv' := [(4, .int (iI (ahM w n o pt x y))), (0, .ref b0), (1, .int (iI zx)), (2, .int (iI zy)), (3, .int (iI t))]) hx hb dX6_times_6 hl (by decide) rfl (fun ls hl => ?_)
  refine lv_aload_n hx hb dX6_times_8 rfl (lv_at hl 1 rfl) ?_
  refine lv_iload_n hx hb dX6_times_9 rfl (lv_at hl 2 rfl) ?_
  refine lv_iload_n hx hb dX6_times_10 rfl (lv_at hl 3 rfl) ?_
  refine ro_V (As := [.int (iI zx), .int (iI zy)]) (rest := []) ⟨hx, hb, hml, hown, hts⟩ (c_X6_difference l dC dI cI cJ cC cO b0 b1 b2 b3 b4 b5 b6 b7 b8 b9 b10 b11 b12 w pa ad be ns ia tx tl ta od pt tu fa th ss mo n hok o hL zx x (by omega) (by omega) zy y (by omega) (by omega)) (cwV 2 hts gX6_times_X6_difference rfl rfl rfl (by decide +kernel) ⟨Nat.le_of_ble_eq_true rfl, Nat.le_of_ble_eq_true rfl⟩) hK hP [0, 1, 2, 3, 4, 5, 6, 7, 8, 9, 10, 11, 12] rfl 6 0 rfl rfl rfl hl.1 rfl (Nat.le_of_ble_eq_true rfl) dX6_times_11 ⟨Nat.zero_le _, Nat.zero_le _⟩ (fun z_11 hz_11 => ?_)
  subst hz_11
  have bz_11 := MOk.df hok (o := o) (i := x) (k := y) (Lay.lt hL (by omega)) (Lay.lt hL (by omega))
  refine lv_iload_n hx hb dX6_times_14 rfl (lv_at hl 4 rfl) ?_
  refine zz_imul hx hb dX6_times_15 ?_
  have bm_15 := mul_b (a := dfM w o x y) (b := t) (by omega) ht
  refine lv_istore (lv' := [(5, .int (iI ((dfM w o x y) * t))), (4, .int (iI (ahM w n o pt x y))), (0, .ref b0), (1, .int (iI zx)), (2, .int (iI zy)), (3, .int (iI t))]) hx hb dX6_times_16 hl (by decide) rfl (fun ls hl => ?_)
  refine lv_iload hx hb dX6_times_18 (lv_at hl 1 rfl) ?_
  refine zz_if_lt (tgt := 30) hx hb dX6_times_20 (by decide) (by omega) (fun c_20 => ?_) (fun c_20 => ?_)
  · skip
    refine zz_iconst hx hb dX6_times_30 ?_
    refine lv_goto (tgt := 46) hx hb dX6_times_31 (by decide) ?_
    exact W.iret (v := iI (0 : Int)) hx hb hr (fun t9 ht9 hW9 => ⟨(0 : Int), rfl, by simp only [tmM]; rw [if_pos (by omega)], ht9⟩) (fun q hq => by cases hq) dX6_times_46
  · skip
    refine lv_iload hx hb dX6_times_23 (lv_at hl 0 rfl) ?_
    refine lv_iload hx hb dX6_times_25 (lv_at hl 1 rfl) ?_
    refine zz_icmp_ge (tgt := 34) hx hb dX6_times_27 (by decide) (by omega) (by omega) (fun c_27 => ?_) (fun c_27 => ?_)
    · skip
      refine zz_iconst hx hb dX6_times_34 ?_
      refine lv_iload hx hb dX6_times_35 (lv_at hl 0 rfl) ?_
      refine lv_iload hx hb dX6_times_37 (lv_at hl 1 rfl) ?_
      refine zz_isub hx hb dX6_times_39 ?_
      refine lv_aload_n hx hb dX6_times_40 rfl (lv_at hl 2 rfl) ?_
      refine ro_V (As := []) (rest := [.int (iI (((dfM w o x y) * t) - (ahM w n o pt x y))), .int (iI (1 : Int))]) ⟨hx, hb, hml, hown, hts⟩ (c_X6_free l dC dI cI cJ cC cO b0 b1 b2 b3 b4 b5 b6 b7 b8 b9 b10 b11 b12 w pa ad be ns ia tx tl ta od pt tu fa th ss mo n hok) (cwV 0 hts gX6_times_X6_free rfl rfl rfl (by decide +kernel) ⟨Nat.le_of_ble_eq_true rfl, Nat.le_of_ble_eq_true rfl⟩) hK hP [0, 1, 2, 3, 4, 5, 6, 7, 8, 9, 10, 11, 12] rfl 6 0 rfl rfl rfl hl.1 rfl (Nat.le_of_ble_eq_true rfl) dX6_times_41 ⟨Nat.zero_le _, Nat.zero_le _⟩ (fun z_41 hz_41 => ?_)
      subst hz_41
      have bz_41 := hok.fr
      refine zz_idiv hx hb dX6_times_44 (by omega) (by omega) (by omega) ?_
      refine zz_iadd hx hb dX6_times_45 ?_
      exact W.iret (v := iI ((1 : Int) + (Int.tdiv (((dfM w o x y) * t) - (ahM w n o pt x y)) (frM w n)))) hx hb hr (fun t9 ht9 hW9 => ⟨((1 : Int) + (Int.tdiv (((dfM w o x y) * t) - (ahM w n o pt x y)) (frM w n))), rfl, by simp only [tmM]; rw [if_neg (by omega), tdiv_nn (by omega)], ht9⟩) (fun q hq => by cases hq) dX6_times_46
    · skip
      refine zz_iconst hx hb dX6_times_30 ?_
      refine lv_goto (tgt := 46) hx hb dX6_times_31 (by decide) ?_
      exact W.iret (v := iI (0 : Int)) hx hb hr (fun t9 ht9 hW9 => ⟨(0 : Int), rfl, by simp only [tmM]; rw [if_pos (by omega)], ht9⟩) (fun q hq => by cases hq) dX6_times_46
