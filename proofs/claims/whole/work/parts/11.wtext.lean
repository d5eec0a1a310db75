set_option maxHeartbeats 4000000 in
set_option maxRecDepth 100000 in
theorem c_X4_signAt (l : Launch) (dC : Nat → ClassId) (dI : Nat → Nat → Nat) (cI cJ cC cO : ClassId) (t0 t1 tl : Nat) (tx : Nat → Int) (hto : TOk tl tx) (zx : Int) (x : Nat) (ex : zx = (x : Int)) (hx : x < 3000) : Met l yX4_signAt wsX4_signAt ({ frames := 0, cells := 0, slots := 0, locals := 0 } : Room) (va_Pc [.ref t0, .int (iI zx)] (ro_B (dC, dI) vwCl (tyG cI cJ cC cO) (wTx cC t0 t1 tl tx))) (ro_Q (fun z => z = sgn tl tx x)) 0 0 (fun _ => False) := by
  refine Met.ofW (cc := cX4_signAt) (maxL := 2) (ret := (some .char)) (by decide) rfl ?_
  intro p e s m args below meth c s₁ B hml hv
  obtain ⟨hav, hP, hK⟩ := hv
  have hx := B.exec
  have hb := B.bytes
  have hr := B.returns
  have hts := atoms_spec (ws := wsX4_signAt) B.pre
  have hown : s.vm.findClass RX4 = some m.cls := findClass_of_methodNamed B.named
  have hlocks := B.notSynchronized
  have hf9 := hts (.fieldLink RX4 9 "RingRods$Text" "signs" "[C") (by decide +kernel)
  have hf15 := hts (.fieldLink RX4 15 "RingRods$Text" "length" "I") (by decide +kernel)
  have hw4 : ∀ w ∈ u_ws RX4 TX4 2, w ∈ wsX4_signAt := by decide +kernel
  have hP : va_P (dC, dI) vwCl [(t0, .inr (4, [.int (iI (tl : Int)), .ref t1])), (t1, .inl (cC, 60, .inl (fun k => iI (tx k))))] s.heap := hP
  have hl := lv_entry ([.ref t0, .int (iI zx)]) (n := 2) (Nat.le_of_ble_eq_true rfl)
  have hent : entryFrame m args 2 = F0 m 0 ((lg_sl ([.ref t0, .int (iI zx)]) ++ List.replicate (2 - (lg_sl ([.ref t0, .int (iI zx)])).length) Slot.unset).toArray) [] := by rw [hav]; exact lg_entry_eq ..
  rw [hent]
  generalize (lg_sl ([.ref t0, .int (iI zx)]) ++ List.replicate (2 - (lg_sl ([.ref t0, .int (iI zx)])).length) Slot.unset).toArray = ls at hl ⊢
  have hl : lv_has ls 2 [(0, .ref t0), (1, .int (iI zx))] := hl
  have bt0 := hto.1
  refine lv_iload_n hx hb dX4_signAt_0 rfl (lv_at hl 1 rfl) ?_
  refine zz_if_lt (tgt := 30) hx hb dX4_signAt_1 (by decide) (by omega) (fun c_1 => ?_) (fun c_1 => ?_)
  · skip
    refine zz_iconst hx hb dX4_signAt_30 ?_
    exact W.zret (v := iI (0 : Int)) hx hb hr (zz_nchar (by omega)) (fun t9 ht9 hW9 => ⟨(0 : Int), rfl, by simp only [sgn]; rw [if_neg (by omega)], ht9⟩) (fun q hq => by cases hq) dX4_signAt_31
  · skip
    refine lv_iload_n hx hb dX4_signAt_4 rfl (lv_at hl 1 rfl) ?_
    refine lv_aload_n hx hb dX4_signAt_5 rfl (lv_at hl 0 rfl) ?_
    refine va_get (D := (dC, dI)) (ci := 4) (v := .int (iI (tl : Int))) (C := RX4) (T := TX4) (N := 2) hx hb hts hw4 hown hK hP 0 rfl rfl 0 (by decide) hf15 (fun _ h9 => h9) rfl dX4_signAt_6 ?_
    refine zz_icmp_ge (tgt := 30) hx hb dX4_signAt_9 (by decide) (by omega) (by omega) (fun c_9 => ?_) (fun c_9 => ?_)
    · skip
      refine zz_iconst hx hb dX4_signAt_30 ?_
      exact W.zret (v := iI (0 : Int)) hx hb hr (zz_nchar (by omega)) (fun t9 ht9 hW9 => ⟨(0 : Int), rfl, by simp only [sgn]; rw [if_neg (by omega)], ht9⟩) (fun q hq => by cases hq) dX4_signAt_31
    · skip
      refine lv_iload_n hx hb dX4_signAt_12 rfl (lv_at hl 1 rfl) ?_
      refine lv_aload_n hx hb dX4_signAt_13 rfl (lv_at hl 0 rfl) ?_
      refine va_get (D := (dC, dI)) (ci := 4) (v := .ref t1) (C := RX4) (T := TX4) (N := 2) hx hb hts hw4 hown hK hP 0 rfl rfl 1 (by decide) hf9 (fun _ h9 => h9) rfl dX4_signAt_14 ?_
      refine va_alen hx hb hK hP 1 2 rfl rfl (v := iI (60 : Int)) rfl dX4_signAt_17 ?_
      refine zz_icmp_ge (tgt := 30) hx hb dX4_signAt_18 (by decide) (by omega) (by omega) (fun c_18 => ?_) (fun c_18 => ?_)
      · skip
        refine zz_iconst hx hb dX4_signAt_30 ?_
        exact W.zret (v := iI (0 : Int)) hx hb hr (zz_nchar (by omega)) (fun t9 ht9 hW9 => ⟨(0 : Int), rfl, by simp only [sgn]; rw [if_neg (by omega)], ht9⟩) (fun q hq => by cases hq) dX4_signAt_31
      · skip
        refine lv_aload_n hx hb dX4_signAt_21 rfl (lv_at hl 0 rfl) ?_
        refine va_get (D := (dC, dI)) (ci := 4) (v := .ref t1) (C := RX4) (T := TX4) (N := 2) hx hb hts hw4 hown hK hP 0 rfl rfl 1 (by decide) hf9 (fun _ h9 => h9) rfl dX4_signAt_22 ?_
        refine lv_iload_n hx hb dX4_signAt_25 rfl (lv_at hl 1 rfl) ?_
        refine zz_cald hx hb hK hP 1 2 (f := tx) rfl rfl (by decide) x (by omega) (by omega) dX4_signAt_26 ?_
        have b_26 := hto.2 x (by omega)
        refine lv_goto (tgt := 31) hx hb dX4_signAt_27 (by decide) ?_
        exact W.zret (v := iI (tx x)) hx hb hr (zz_nchar (by omega)) (fun t9 ht9 hW9 => ⟨(tx x), rfl, by simp only [sgn]; rw [if_pos (by omega)], ht9⟩) (fun q hq => by cases hq) dX4_signAt_31
set_option maxHeartbeats 4000000 in
set_option maxRecDepth 100000 in
theorem c_X4_isDigit (l : Launch) (dC : Nat → ClassId) (dI : Nat → Nat → Nat) (cI cJ cC cO : ClassId) (x y : Int) (hx0 : 0 ≤ x ∧ x < 65536) (hy0 : 0 ≤ y ∧ y < 65536) : Met l yX4_isDigit wsX4_isDigit ({ frames := 0, cells := 0, slots := 0, locals := 0 } : Room) (va_Pc [.int (iI x), .int (iI y)] (ro_B (dC, dI) vwCl (tyG cI cJ cC cO) ([]))) (ro_Q (fun z => (z = 1 ∧ y ≤ x ∧ x ≤ 57) ∨ (z = 0 ∧ ¬ (y ≤ x ∧ x ≤ 57)))) 0 0 (fun _ => False) := by
  refine Met.ofW (cc := cX4_isDigit) (maxL := 2) (ret := (some .boolean)) (by decide) rfl ?_
  intro p e s m args below meth c s₁ B hml hv
  obtain ⟨hav, hP, hK⟩ := hv
  have hx := B.exec
  have hb := B.bytes
  have hr := B.returns
  have hts := atoms_spec (ws := wsX4_isDigit) B.pre
  have hown : s.vm.findClass RX4 = some m.cls := findClass_of_methodNamed B.named
  have hlocks := B.notSynchronized
  have hP : va_P (dC, dI) vwCl [] s.heap := hP
  have hl := lv_entry ([.int (iI x), .int (iI y)]) (n := 2) (Nat.le_of_ble_eq_true rfl)
  have hent : entryFrame m args 2 = F0 m 0 ((lg_sl ([.int (iI x), .int (iI y)]) ++ List.replicate (2 - (lg_sl ([.int (iI x), .int (iI y)])).length) Slot.unset).toArray) [] := by rw [hav]; exact lg_entry_eq ..
  rw [hent]
  generalize (lg_sl ([.int (iI x), .int (iI y)]) ++ List.replicate (2 - (lg_sl ([.int (iI x), .int (iI y)])).length) Slot.unset).toArray = ls at hl ⊢
  have hl : lv_has ls 2 [(0, .int (iI x)), (1, .int (iI y))] := hl
  refine lv_iload_n hx hb dX4_isDigit_0 rfl (lv_at hl 0 rfl) ?_
  refine lv_iload_n hx hb dX4_isDigit_1 rfl (lv_at hl 1 rfl) ?_
  refine zz_icmp_lt (tgt := 15) hx hb dX4_isDigit_2 (by decide) (by omega) (by omega) (fun c_2 => ?_) (fun c_2 => ?_)
  · skip
    refine zz_iconst hx hb dX4_isDigit_15 ?_
    exact W.zret (v := iI (0 : Int)) hx hb hr (rfl) (fun t9 ht9 hW9 => ⟨(0 : Int), rfl, Or.inr ⟨rfl, by omega⟩, ht9⟩) (fun q hq => by cases hq) dX4_isDigit_16
  · skip
    refine lv_iload_n hx hb dX4_isDigit_5 rfl (lv_at hl 0 rfl) ?_
    refine zz_bipush hx hb dX4_isDigit_6 (by decide +kernel) ?_
    refine zz_icmp_gt (tgt := 15) hx hb dX4_isDigit_8 (by decide) (by omega) (by omega) (fun c_8 => ?_) (fun c_8 => ?_)
    · skip
      refine zz_iconst hx hb dX4_isDigit_15 ?_
      exact W.zret (v := iI (0 : Int)) hx hb hr (rfl) (fun t9 ht9 hW9 => ⟨(0 : Int), rfl, Or.inr ⟨rfl, by omega⟩, ht9⟩) (fun q hq => by cases hq) dX4_isDigit_16
    · skip
      refine zz_iconst hx hb dX4_isDigit_11 ?_
      refine lv_goto (tgt := 16) hx hb dX4_isDigit_12 (by decide) ?_
      exact W.zret (v := iI (1 : Int)) hx hb hr (rfl) (fun t9 ht9 hW9 => ⟨(1 : Int), rfl, Or.inl ⟨rfl, by omega⟩, ht9⟩) (fun q hq => by cases hq) dX4_isDigit_16
set_option maxHeartbeats 4000000 in
set_option maxRecDepth 100000 in
theorem c_X4_digitAt (l : Launch) (dC : Nat → ClassId) (dI : Nat → Nat → Nat) (cI cJ cC cO : ClassId) (t0 t1 tl : Nat) (tx : Nat → Int) (hto : TOk tl tx) (zx : Int) (x : Nat) (ex : zx = (x : Int)) (hx : x < 2000) : Met l yX4_digitAt wsX4_digitAt ({ frames := 1, cells := 0, slots := 0, locals := 21 } : Room) (va_Pc [.ref t0, .int (iI zx)] (ro_B (dC, dI) vwCl (tyG cI cJ cC cO) (wTx cC t0 t1 tl tx))) (ro_Q (fun z => z = sgn tl tx x - 48)) 0 0 (fun _ => False) := by
  refine Met.ofW (cc := cX4_digitAt) (maxL := 2) (ret := (some .int)) (by decide) rfl ?_
  intro p e s m args below meth c s₁ B hml hv
  obtain ⟨hav, hP, hK⟩ := hv
  have hx := B.exec
  have hb := B.bytes
  have hr := B.returns
  have hts := atoms_spec (ws := wsX4_digitAt) B.pre
  have hown : s.vm.findClass RX4 = some m.cls := findClass_of_methodNamed B.named
  have hlocks := B.notSynchronized
  have hP : va_P (dC, dI) vwCl [(t0, .inr (4, [.int (iI (tl : Int)), .ref t1])), (t1, .inl (cC, 60, .inl (fun k => iI (tx k))))] s.heap := hP
  have hl := lv_entry ([.ref t0, .int (iI zx)]) (n := 2) (Nat.le_of_ble_eq_true rfl)
  have hent : entryFrame m args 2 = F0 m 0 ((lg_sl ([.ref t0, .int (iI zx)]) ++ List.replicate (2 - (lg_sl ([.ref t0, .int (iI zx)])).length) Slot.unset).toArray) [] := by rw [hav]; exact lg_entry_eq ..
  rw [hent]
  generalize (lg_sl ([.ref t0, .int (iI zx)]) ++ List.replicate (2 - (lg_sl ([.ref t0, .int (iI zx)])).length) Slot.unset).toArray = ls at hl ⊢
  have hl : lv_has ls 2 [(0, .ref t0), (1, .int (iI zx))] := hl
  have bt0 := hto.1
  refine lv_aload_n hx hb dX4_digitAt_0 rfl (lv_at hl 0 rfl) ?_
  refine lv_iload_n hx hb dX4_digitAt_1 rfl (lv_at hl 1 rfl) ?_
  refine ro_V (As := [.int (iI zx)]) (rest := []) ⟨hx, hb, hml, hown, hts⟩ (c_X4_signAt l dC dI cI cJ cC cO t0 t1 tl tx hto zx x (by omega) (by omega)) (cwV 1 hts gX4_digitAt_X4_signAt rfl rfl rfl (by decide +kernel) ⟨Nat.le_of_ble_eq_true rfl, Nat.le_of_ble_eq_true rfl⟩) hK hP [0, 1] rfl 4 0 rfl rfl rfl hl.1 rfl (Nat.le_of_ble_eq_true rfl) dX4_digitAt_2 ⟨Nat.zero_le _, Nat.zero_le _⟩ (fun z_2 hz_2 => ?_)
  subst hz_2
  have bz_2 := hto.s x
  refine zz_bipush hx hb dX4_digitAt_5 (by decide +kernel) ?_
  refine zz_isub hx hb dX4_digitAt_7 ?_
  exact W.iret (v := iI ((sgn tl tx x) - (48 : Int))) hx hb hr (fun t9 ht9 hW9 => ⟨((sgn tl tx x) - (48 : Int)), rfl, rfl, ht9⟩) (fun q hq => by cases hq) dX4_digitAt_8
set_option maxHeartbeats 4000000 in
set_option maxRecDepth 100000 in
theorem c_X4_orderAt (l : Launch) (dC : Nat → ClassId) (dI : Nat → Nat → Nat) (cI cJ cC cO : ClassId) (t0 t1 tl : Nat) (tx : Nat → Int) (hto : TOk tl tx) (zx : Int) (x : Nat) (ex : zx = (x : Int)) (hx : x < 1000) : Met l yX4_orderAt wsX4_orderAt ({ frames := 1, cells := 0, slots := 0, locals := 21 } : Room) (va_Pc [.ref t0, .int (iI zx)] (ro_B (dC, dI) vwCl (tyG cI cJ cC cO) (wTx cC t0 t1 tl tx))) (ro_Q (fun z => z = ordA tl tx x)) 0 0 (fun _ => False) := by
  refine Met.ofW (cc := cX4_orderAt) (maxL := 2) (ret := (some .char)) (by decide) rfl ?_
  intro p e s m args below meth c s₁ B hml hv
  obtain ⟨hav, hP, hK⟩ := hv
  have hx := B.exec
  have hb := B.bytes
  have hr := B.returns
  have hts := atoms_spec (ws := wsX4_orderAt) B.pre
  have hown : s.vm.findClass RX4 = some m.cls := findClass_of_methodNamed B.named
  have hlocks := B.notSynchronized
  have hP : va_P (dC, dI) vwCl [(t0, .inr (4, [.int (iI (tl : Int)), .ref t1])), (t1, .inl (cC, 60, .inl (fun k => iI (tx k))))] s.heap := hP
  have hl := lv_entry ([.ref t0, .int (iI zx)]) (n := 2) (Nat.le_of_ble_eq_true rfl)
  have hent : entryFrame m args 2 = F0 m 0 ((lg_sl ([.ref t0, .int (iI zx)]) ++ List.replicate (2 - (lg_sl ([.ref t0, .int (iI zx)])).length) Slot.unset).toArray) [] := by rw [hav]; exact lg_entry_eq ..
  rw [hent]
  generalize (lg_sl ([.ref t0, .int (iI zx)]) ++ List.replicate (2 - (lg_sl ([.ref t0, .int (iI zx)])).length) Slot.unset).toArray = ls at hl ⊢
  have hl : lv_has ls 2 [(0, .ref t0), (1, .int (iI zx))] := hl
  have bt0 := hto.1
  refine lv_iload_n hx hb dX4_orderAt_0 rfl (lv_at hl 1 rfl) ?_
  refine zz_if_eq (tgt := 16) hx hb dX4_orderAt_1 (by decide) (by omega) (fun c_1 => ?_) (fun c_1 => ?_)
  · skip
    refine lv_aload_n hx hb dX4_orderAt_16 rfl (lv_at hl 0 rfl) ?_
    refine lv_iload_n hx hb dX4_orderAt_17 rfl (lv_at hl 1 rfl) ?_
    refine ro_V (As := [.int (iI zx)]) (rest := []) ⟨hx, hb, hml, hown, hts⟩ (c_X4_signAt l dC dI cI cJ cC cO t0 t1 tl tx hto zx x (by omega) (by omega)) (cwV 1 hts gX4_orderAt_X4_signAt rfl rfl rfl (by decide +kernel) ⟨Nat.le_of_ble_eq_true rfl, Nat.le_of_ble_eq_true rfl⟩) hK hP [0, 1] rfl 4 0 rfl rfl rfl hl.1 rfl (Nat.le_of_ble_eq_true rfl) dX4_orderAt_18 ⟨Nat.zero_le _, Nat.zero_le _⟩ (fun z_18 hz_18 => ?_)
    subst hz_18
    have bz_18 := hto.s x
    refine lv_goto (tgt := 25) hx hb dX4_orderAt_21 (by decide) ?_
    exact W.zret (v := iI (sgn tl tx x)) hx hb hr (zz_nchar (by omega)) (fun t9 ht9 hW9 => ⟨(sgn tl tx x), rfl, by simp only [ordA]; rw [if_pos (by omega)], ht9⟩) (fun q hq => by cases hq) dX4_orderAt_25
  · skip
    refine lv_aload_n hx hb dX4_orderAt_4 rfl (lv_at hl 0 rfl) ?_
    refine lv_iload_n hx hb dX4_orderAt_5 rfl (lv_at hl 1 rfl) ?_
    refine zz_iconst hx hb dX4_orderAt_6 ?_
    refine zz_isub hx hb dX4_orderAt_7 ?_
    refine ro_V (As := [.int (iI (zx - (1 : Int)))]) (rest := []) ⟨hx, hb, hml, hown, hts⟩ (c_X4_signAt l dC dI cI cJ cC cO t0 t1 tl tx hto (zx - (1 : Int)) (x - 1) (by omega) (by omega)) (cwV 1 hts gX4_orderAt_X4_signAt rfl rfl rfl (by decide +kernel) ⟨Nat.le_of_ble_eq_true rfl, Nat.le_of_ble_eq_true rfl⟩) hK hP [0, 1] rfl 4 0 rfl rfl rfl hl.1 rfl (Nat.le_of_ble_eq_true rfl) dX4_orderAt_8 ⟨Nat.zero_le _, Nat.zero_le _⟩ (fun z_8 hz_8 => ?_)
    subst hz_8
    have bz_8 := hto.s (x - 1)
    refine zz_bipush hx hb dX4_orderAt_11 (by decide +kernel) ?_
    refine zz_icmp_ne (tgt := 24) hx hb dX4_orderAt_13 (by decide) (by omega) (by omega) (fun c_13 => ?_) (fun c_13 => ?_)
    · skip
      refine zz_iconst hx hb dX4_orderAt_24 ?_
      exact W.zret (v := iI (0 : Int)) hx hb hr (zz_nchar (by omega)) (fun t9 ht9 hW9 => ⟨(0 : Int), rfl, by simp only [ordA]; rw [if_neg (by omega)], ht9⟩) (fun q hq => by cases hq) dX4_orderAt_25
    · skip
      refine lv_aload_n hx hb dX4_orderAt_16 rfl (lv_at hl 0 rfl) ?_
      refine lv_iload_n hx hb dX4_orderAt_17 rfl (lv_at hl 1 rfl) ?_
      refine ro_V (As := [.int (iI zx)]) (rest := []) ⟨hx, hb, hml, hown, hts⟩ (c_X4_signAt l dC dI cI cJ cC cO t0 t1 tl tx hto zx x (by omega) (by omega)) (cwV 1 hts gX4_orderAt_X4_signAt rfl rfl rfl (by decide +kernel) ⟨Nat.le_of_ble_eq_true rfl, Nat.le_of_ble_eq_true rfl⟩) hK hP [0, 1] rfl 4 0 rfl rfl rfl hl.1 rfl (Nat.le_of_ble_eq_true rfl) dX4_orderAt_18 ⟨Nat.zero_le _, Nat.zero_le _⟩ (fun z_18 hz_18 => ?_)
      subst hz_18
      have bz_18 := hto.s x
      refine lv_goto (tgt := 25) hx hb dX4_orderAt_21 (by decide) ?_
      exact W.zret (v := iI (sgn tl tx x)) hx hb hr (zz_nchar (by omega)) (fun t9 ht9 hW9 => ⟨(sgn tl tx x), rfl, by simp only [ordA]; rw [if_pos (by omega)], ht9⟩) (fun q hq => by cases hq) dX4_orderAt_25
set_option maxHeartbeats 4000000 in
set_option maxRecDepth 100000 in
theorem c_X4_ticksAt (l : Launch) (dC : Nat → ClassId) (dI : Nat → Nat → Nat) (cI cJ cC cO : ClassId) (t0 t1 tl : Nat) (tx : Nat → Int) (hto : TOk tl tx) (zx : Int) (x : Nat) (ex : zx = (x : Int)) (hx : x < 1000) : Met l yX4_ticksAt wsX4_ticksAt ({ frames := 2, cells := 0, slots := 0, locals := 42 } : Room) (va_Pc [.ref t0, .int (iI zx)] (ro_B (dC, dI) vwCl (tyG cI cJ cC cO) (wTx cC t0 t1 tl tx))) (ro_Q (fun z => z = tkA tl tx x)) 0 0 (fun _ => False) := by
  refine Met.ofW (cc := cX4_ticksAt) (maxL := 3) (ret := (some .int)) (by decide) rfl ?_
  intro p e s m args below meth c s₁ B hml hv
  obtain ⟨hav, hP, hK⟩ := hv
  have hx := B.exec
  have hb := B.bytes
  have hr := B.returns
  have hts := atoms_spec (ws := wsX4_ticksAt) B.pre
  have hown : s.vm.findClass RX4 = some m.cls := findClass_of_methodNamed B.named
  have hlocks := B.notSynchronized
  have hP : va_P (dC, dI) vwCl [(t0, .inr (4, [.int (iI (tl : Int)), .ref t1])), (t1, .inl (cC, 60, .inl (fun k => iI (tx k))))] s.heap := hP
  have hl := lv_entry ([.ref t0, .int (iI zx)]) (n := 3) (Nat.le_of_ble_eq_true rfl)
  have hent : entryFrame m args 3 = F0 m 0 ((lg_sl ([.ref t0, .int (iI zx)]) ++ List.replicate (3 - (lg_sl ([.ref t0, .int (iI zx)])).length) Slot.unset).toArray) [] := by rw [hav]; exact lg_entry_eq ..
  rw [hent]
  generalize (lg_sl ([.ref t0, .int (iI zx)]) ++ List.replicate (3 - (lg_sl ([.ref t0, .int (iI zx)])).length) Slot.unset).toArray = ls at hl ⊢
  have hl : lv_has ls 3 [(0, .ref t0), (1, .int (iI zx))] := hl
  have bt0 := hto.1
  refine lv_aload_n hx hb dX4_ticksAt_0 rfl (lv_at hl 0 rfl) ?_
  refine lv_iload_n hx hb dX4_ticksAt_1 rfl (lv_at hl 1 rfl) ?_
  refine zz_iconst hx hb dX4_ticksAt_2 ?_
  refine zz_iadd hx hb dX4_ticksAt_3 ?_
  refine ro_V (As := [.int (iI (zx + (1 : Int)))]) (rest := []) ⟨hx, hb, hml, hown, hts⟩ (c_X4_digitAt l dC dI cI cJ cC cO t0 t1 tl tx hto (zx + (1 : Int)) (x + 1) (by omega) (by omega)) (cwV 1 hts gX4_ticksAt_X4_digitAt rfl rfl rfl (by decide +kernel) ⟨Nat.le_of_ble_eq_true rfl, Nat.le_of_ble_eq_true rfl⟩) hK hP [0, 1] rfl 4 0 rfl rfl rfl hl.1 rfl (Nat.le_of_ble_eq_true rfl) dX4_ticksAt_4 ⟨Nat.zero_le _, Nat.zero_le _⟩ (fun z_4 hz_4 => ?_)
  subst hz_4
  have bz_4 := hto.s (x + 1)
  refine lv_istore_n (lv' := [(2, .int (iI (sgn tl tx (x + 1) - 48))), (0, .ref t0), (1, .int (iI zx))]) hx hb dX4_ticksAt_7 rfl hl (by decide) rfl (fun ls hl => ?_)
  refine lv_aload_n hx hb dX4_ticksAt_8 rfl (lv_at hl 1 rfl) ?_
  refine lv_iload_n hx hb dX4_ticksAt_9 rfl (lv_at hl 2 rfl) ?_
  refine zz_iconst hx hb dX4_ticksAt_10 ?_
  refine zz_iadd hx hb dX4_ticksAt_11 ?_
  refine ro_V (As := [.int (iI (zx + (2 : Int)))]) (rest := []) ⟨hx, hb, hml, hown, hts⟩ (c_X4_signAt l dC dI cI cJ cC cO t0 t1 tl tx hto (zx + (2 : Int)) (x + 2) (by omega) (by omega)) (cwV 1 hts gX4_ticksAt_X4_signAt rfl rfl rfl (by decide +kernel) ⟨Nat.le_of_ble_eq_true rfl, Nat.le_of_ble_eq_true rfl⟩) hK hP [0, 1] rfl 4 0 rfl rfl rfl hl.1 rfl (Nat.le_of_ble_eq_true rfl) dX4_ticksAt_12 ⟨Nat.zero_le _, Nat.zero_le _⟩ (fun z_12 hz_12 => ?_)
  subst hz_12
  have bz_12 := hto.s (x + 2)
  refine zz_bipush hx hb dX4_ticksAt_15 (by decide +kernel) ?_
  refine ro_S (As := [.int (iI (sgn tl tx (x + 2))), .int (iI (48 : Int))]) (rest := []) ⟨hx, hb, hml, hown, hts⟩ (c_X4_isDigit l dC dI cI cJ cC cO (sgn tl tx (x + 2)) (48 : Int) (by omega) (by omega)) (cwS 2 hts gX4_ticksAt_X4_isDigit rfl rfl rfl (by decide +kernel) ⟨Nat.le_of_ble_eq_true rfl, Nat.le_of_ble_eq_true rfl⟩) hK hP [] rfl rfl hl.1 rfl (Nat.le_of_ble_eq_true rfl) dX4_ticksAt_17 ⟨Nat.zero_le _, Nat.zero_le _⟩ (fun z_17 hz_17 => ?_)
  refine zz_if_eq (tgt := 36) hx hb dX4_ticksAt_20 (by decide) (by omega) (fun c_20 => ?_) (fun c_20 => ?_)
  · skip
    refine lv_iload_n hx hb dX4_ticksAt_36 rfl (lv_at hl 0 rfl) ?_
    exact W.iret (v := iI (sgn tl tx (x + 1) - 48)) hx hb hr (fun t9 ht9 hW9 => ⟨(sgn tl tx (x + 1) - 48), rfl, by simp only [tkA]; rw [if_neg (by omega)], ht9⟩) (fun q hq => by cases hq) dX4_ticksAt_37
  · skip
    refine zz_bipush hx hb dX4_ticksAt_23 (by decide +kernel) ?_
    refine lv_iload_n hx hb dX4_ticksAt_25 rfl (lv_at hl 0 rfl) ?_
    refine zz_imul hx hb dX4_ticksAt_26 ?_
    refine lv_aload_n hx hb dX4_ticksAt_27 rfl (lv_at hl 1 rfl) ?_
    refine lv_iload_n hx hb dX4_ticksAt_28 rfl (lv_at hl 2 rfl) ?_
    refine zz_iconst hx hb dX4_ticksAt_29 ?_
    refine zz_iadd hx hb dX4_ticksAt_30 ?_
    refine ro_V (As := [.int (iI (zx + (2 : Int)))]) (rest := [.int (iI ((10 : Int) * (sgn tl tx (x + 1) - 48)))]) ⟨hx, hb, hml, hown, hts⟩ (c_X4_digitAt l dC dI cI cJ cC cO t0 t1 tl tx hto (zx + (2 : Int)) (x + 2) (by omega) (by omega)) (cwV 1 hts gX4_ticksAt_X4_digitAt rfl rfl rfl (by decide +kernel) ⟨Nat.le_of_ble_eq_true rfl, Nat.le_of_ble_eq_true rfl⟩) hK hP [0, 1] rfl 4 0 rfl rfl rfl hl.1 rfl (Nat.le_of_ble_eq_true rfl) dX4_ticksAt_31 ⟨Nat.zero_le _, Nat.zero_le _⟩ (fun z_31 hz_31 => ?_)
    subst hz_31
    have bz_31 := hto.s (x + 2)
    refine zz_iadd hx hb dX4_ticksAt_34 ?_
    exact W.iret (v := iI (((10 : Int) * (sgn tl tx (x + 1) - 48)) + (sgn tl tx (x + 2) - 48))) hx hb hr (fun t9 ht9 hW9 => ⟨(((10 : Int) * (sgn tl tx (x + 1) - 48)) + (sgn tl tx (x + 2) - 48)), rfl, by simp only [tkA]; rw [if_pos (by omega)], ht9⟩) (fun q hq => by cases hq) dX4_ticksAt_35
set_option maxHeartbeats 4000000 in
set_option maxRecDepth 100000 in
theorem c_X4_rodAt (l : Launch) (dC : Nat → ClassId) (dI : Nat → Nat → Nat) (cI cJ cC cO : ClassId) (t0 t1 tl : Nat) (tx : Nat → Int) (hto : TOk tl tx) (zx : Int) (x : Nat) (ex : zx = (x : Int)) (hx : x < 1000) : Met l yX4_rodAt wsX4_rodAt ({ frames := 2, cells := 0, slots := 0, locals := 42 } : Room) (va_Pc [.ref t0, .int (iI zx)] (ro_B (dC, dI) vwCl (tyG cI cJ cC cO) (wTx cC t0 t1 tl tx))) (ro_Q (fun z => z = sgn tl tx (x + 1) - 48)) 0 0 (fun _ => False) := by
  refine Met.ofW (cc := cX4_rodAt) (maxL := 2) (ret := (some .int)) (by decide) rfl ?_
  intro p e s m args below meth c s₁ B hml hv
  obtain ⟨hav, hP, hK⟩ := hv
  have hx := B.exec
  have hb := B.bytes
  have hr := B.returns
  have hts := atoms_spec (ws := wsX4_rodAt) B.pre
  have hown : s.vm.findClass RX4 = some m.cls := findClass_of_methodNamed B.named
  have hlocks := B.notSynchronized
  have hP : va_P (dC, dI) vwCl [(t0, .inr (4, [.int (iI (tl : Int)), .ref t1])), (t1, .inl (cC, 60, .inl (fun k => iI (tx k))))] s.heap := hP
  have hl := lv_entry ([.ref t0, .int (iI zx)]) (n := 2) (Nat.le_of_ble_eq_true rfl)
  have hent : entryFrame m args 2 = F0 m 0 ((lg_sl ([.ref t0, .int (iI zx)]) ++ List.replicate (2 - (lg_sl ([.ref t0, .int (iI zx)])).length) Slot.unset).toArray) [] := by rw [hav]; exact lg_entry_eq ..
  rw [hent]
  generalize (lg_sl ([.ref t0, .int (iI zx)]) ++ List.replicate (2 - (lg_sl ([.ref t0, .int (iI zx)])).length) Slot.unset).toArray = ls at hl ⊢
  have hl : lv_has ls 2 [(0, .ref t0), (1, .int (iI zx))] := hl
  have bt0 := hto.1
  refine lv_aload_n hx hb dX4_rodAt_0 rfl (lv_at hl 0 rfl) ?_
  refine lv_iload_n hx hb dX4_rodAt_1 rfl (lv_at hl 1 rfl) ?_
  refine zz_iconst hx hb dX4_rodAt_2 ?_
  refine zz_iadd hx hb dX4_rodAt_3 ?_
  refine ro_V (As := [.int (iI (zx + (1 : Int)))]) (rest := []) ⟨hx, hb, hml, hown, hts⟩ (c_X4_digitAt l dC dI cI cJ cC cO t0 t1 tl tx hto (zx + (1 : Int)) (x + 1) (by omega) (by omega)) (cwV 1 hts gX4_rodAt_X4_digitAt rfl rfl rfl (by decide +kernel) ⟨Nat.le_of_ble_eq_true rfl, Nat.le_of_ble_eq_true rfl⟩) hK hP [0, 1] rfl 4 0 rfl rfl rfl hl.1 rfl (Nat.le_of_ble_eq_true rfl) dX4_rodAt_4 ⟨Nat.zero_le _, Nat.zero_le _⟩ (fun z_4 hz_4 => ?_)
  subst hz_4
  have bz_4 := hto.s (x + 1)
  exact W.iret (v := iI (sgn tl tx (x + 1) - 48)) hx hb hr (fun t9 ht9 hW9 => ⟨(sgn tl tx (x + 1) - 48), rfl, rfl, ht9⟩) (fun q hq => by cases hq) dX4_rodAt_7
set_option maxHeartbeats 4000000 in
set_option maxRecDepth 100000 in
theorem c_X4_speedAt (l : Launch) (dC : Nat → ClassId) (dI : Nat → Nat → Nat) (cI cJ cC cO : ClassId) (t0 t1 tl : Nat) (tx : Nat → Int) (hto : TOk tl tx) (zx : Int) (x : Nat) (ex : zx = (x : Int)) (hx : x < 1000) : Met l yX4_speedAt wsX4_speedAt ({ frames := 2, cells := 0, slots := 0, locals := 42 } : Room) (va_Pc [.ref t0, .int (iI zx)] (ro_B (dC, dI) vwCl (tyG cI cJ cC cO) (wTx cC t0 t1 tl tx))) (ro_Q (fun z => z = spA tl tx x)) 0 0 (fun _ => False) := by
  refine Met.ofW (cc := cX4_speedAt) (maxL := 2) (ret := (some .int)) (by decide) rfl ?_
  intro p e s m args below meth c s₁ B hml hv
  obtain ⟨hav, hP, hK⟩ := hv
  have hx := B.exec
  have hb := B.bytes
  have hr := B.returns
  have hts := atoms_spec (ws := wsX4_speedAt) B.pre
  have hown : s.vm.findClass RX4 = some m.cls := findClass_of_methodNamed B.named
  have hlocks := B.notSynchronized
  have hP : va_P (dC, dI) vwCl [(t0, .inr (4, [.int (iI (tl : Int)), .ref t1])), (t1, .inl (cC, 60, .inl (fun k => iI (tx k))))] s.heap := hP
  have hl := lv_entry ([.ref t0, .int (iI zx)]) (n := 2) (Nat.le_of_ble_eq_true rfl)
  have hent : entryFrame m args 2 = F0 m 0 ((lg_sl ([.ref t0, .int (iI zx)]) ++ List.replicate (2 - (lg_sl ([.ref t0, .int (iI zx)])).length) Slot.unset).toArray) [] := by rw [hav]; exact lg_entry_eq ..
  rw [hent]
  generalize (lg_sl ([.ref t0, .int (iI zx)]) ++ List.replicate (2 - (lg_sl ([.ref t0, .int (iI zx)])).length) Slot.unset).toArray = ls at hl ⊢
  have hl : lv_has ls 2 [(0, .ref t0), (1, .int (iI zx))] := hl
  have bt0 := hto.1
  refine lv_aload_n hx hb dX4_speedAt_0 rfl (lv_at hl 0 rfl) ?_
  refine lv_iload_n hx hb dX4_speedAt_1 rfl (lv_at hl 1 rfl) ?_
  refine zz_iconst hx hb dX4_speedAt_2 ?_
  refine zz_iadd hx hb dX4_speedAt_3 ?_
  refine ro_V (As := [.int (iI (zx + (3 : Int)))]) (rest := []) ⟨hx, hb, hml, hown, hts⟩ (c_X4_signAt l dC dI cI cJ cC cO t0 t1 tl tx hto (zx + (3 : Int)) (x + 3) (by omega) (by omega)) (cwV 1 hts gX4_speedAt_X4_signAt rfl rfl rfl (by decide +kernel) ⟨Nat.le_of_ble_eq_true rfl, Nat.le_of_ble_eq_true rfl⟩) hK hP [0, 1] rfl 4 0 rfl rfl rfl hl.1 rfl (Nat.le_of_ble_eq_true rfl) dX4_speedAt_4 ⟨Nat.zero_le _, Nat.zero_le _⟩ (fun z_4 hz_4 => ?_)
  subst hz_4
  have bz_4 := hto.s (x + 3)
  refine zz_bipush hx hb dX4_speedAt_7 (by decide +kernel) ?_
  refine zz_icmp_ne (tgt := 21) hx hb dX4_speedAt_9 (by decide) (by omega) (by omega) (fun c_9 => ?_) (fun c_9 => ?_)
  · skip
    refine lv_aload_n hx hb dX4_speedAt_21 rfl (lv_at hl 0 rfl) ?_
    refine lv_iload_n hx hb dX4_speedAt_22 rfl (lv_at hl 1 rfl) ?_
    refine zz_iconst hx hb dX4_speedAt_23 ?_
    refine zz_iadd hx hb dX4_speedAt_24 ?_
    refine ro_V (As := [.int (iI (zx + (3 : Int)))]) (rest := []) ⟨hx, hb, hml, hown, hts⟩ (c_X4_digitAt l dC dI cI cJ cC cO t0 t1 tl tx hto (zx + (3 : Int)) (x + 3) (by omega) (by omega)) (cwV 1 hts gX4_speedAt_X4_digitAt rfl rfl rfl (by decide +kernel) ⟨Nat.le_of_ble_eq_true rfl, Nat.le_of_ble_eq_true rfl⟩) hK hP [0, 1] rfl 4 0 rfl rfl rfl hl.1 rfl (Nat.le_of_ble_eq_true rfl) dX4_speedAt_25 ⟨Nat.zero_le _, Nat.zero_le _⟩ (fun z_25 hz_25 => ?_)
    subst hz_25
    have bz_25 := hto.s (x + 3)
    exact W.iret (v := iI (sgn tl tx (x + 3) - 48)) hx hb hr (fun t9 ht9 hW9 => ⟨(sgn tl tx (x + 3) - 48), rfl, by simp only [spA]; rw [if_neg (by omega)], ht9⟩) (fun q hq => by cases hq) dX4_speedAt_28
  · skip
    refine lv_aload_n hx hb dX4_speedAt_12 rfl (lv_at hl 0 rfl) ?_
    refine lv_iload_n hx hb dX4_speedAt_13 rfl (lv_at hl 1 rfl) ?_
    refine zz_iconst hx hb dX4_speedAt_14 ?_
    refine zz_iadd hx hb dX4_speedAt_15 ?_
    refine ro_V (As := [.int (iI (zx + (4 : Int)))]) (rest := []) ⟨hx, hb, hml, hown, hts⟩ (c_X4_digitAt l dC dI cI cJ cC cO t0 t1 tl tx hto (zx + (4 : Int)) (x + 4) (by omega) (by omega)) (cwV 1 hts gX4_speedAt_X4_digitAt rfl rfl rfl (by decide +kernel) ⟨Nat.le_of_ble_eq_true rfl, Nat.le_of_ble_eq_true rfl⟩) hK hP [0, 1] rfl 4 0 rfl rfl rfl hl.1 rfl (Nat.le_of_ble_eq_true rfl) dX4_speedAt_16 ⟨Nat.zero_le _, Nat.zero_le _⟩ (fun z_16 hz_16 => ?_)
    subst hz_16
    have bz_16 := hto.s (x + 4)
    refine zz_ineg hx hb dX4_speedAt_19 ?_
    exact W.iret (v := iI (- (sgn tl tx (x + 4) - 48))) hx hb hr (fun t9 ht9 hW9 => ⟨(- (sgn tl tx (x + 4) - 48)), rfl, by simp only [spA]; rw [if_pos (by omega)], ht9⟩) (fun q hq => by cases hq) dX4_speedAt_20
set_option maxHeartbeats 4000000 in
set_option maxRecDepth 100000 in
theorem c_X4_awaitedBehindLetter (l : Launch) (dC : Nat → ClassId) (dI : Nat → Nat → Nat) (cI cJ cC cO : ClassId) (x : Int) (hx0 : 0 ≤ x ∧ x < 65536) : Met l yX4_awaitedBehindLetter wsX4_awaitedBehindLetter ({ frames := 0, cells := 0, slots := 0, locals := 0 } : Room) (va_Pc [.int (iI x)] (ro_B (dC, dI) vwCl (tyG cI cJ cC cO) ([]))) (ro_Q (fun z => z = ablF x)) 0 0 (fun _ => False) := by
  refine Met.ofW (cc := cX4_awaitedBehindLetter) (maxL := 1) (ret := (some .int)) (by decide) rfl ?_
  intro p e s m args below meth c s₁ B hml hv
  obtain ⟨hav, hP, hK⟩ := hv
  have hx := B.exec
  have hb := B.bytes
  have hr := B.returns
  have hts := atoms_spec (ws := wsX4_awaitedBehindLetter) B.pre
  have hown : s.vm.findClass RX4 = some m.cls := findClass_of_methodNamed B.named
  have hlocks := B.notSynchronized
  have hP : va_P (dC, dI) vwCl [] s.heap := hP
  have hl := lv_entry ([.int (iI x)]) (n := 1) (Nat.le_of_ble_eq_true rfl)
  have hent : entryFrame m args 1 = F0 m 0 ((lg_sl ([.int (iI x)]) ++ List.replicate (1 - (lg_sl ([.int (iI x)])).length) Slot.unset).toArray) [] := by rw [hav]; exact lg_entry_eq ..
  rw [hent]
  generalize (lg_sl ([.int (iI x)]) ++ List.replicate (1 - (lg_sl ([.int (iI x)])).length) Slot.unset).toArray = ls at hl ⊢
  have hl : lv_has ls 1 [(0, .int (iI x))] := hl
  refine lv_iload_n hx hb dX4_awaitedBehindLetter_0 rfl (lv_at hl 0 rfl) ?_
  have htI : (iI x).toInt = x := iI_toInt (by omega)
  rcases (show x = (112 : Int) ∨ x = (113 : Int) ∨ x = (114 : Int) ∨ x = (115 : Int) ∨ (x < (112 : Int) ∨ (115 : Int) < x) by omega) with t_1 | t_1 | t_1 | t_1 | t_1
  · skip
    refine lv_tableIn (off := 31) (tgt := 32) hx hb dX4_awaitedBehindLetter_1 (by rw [htI]; omega) (by rw [htI]; omega) (by rw [htI, t_1]; rfl) (by decide) ?_
    refine zz_iconst hx hb dX4_awaitedBehindLetter_32 ?_
    exact W.iret (v := iI (2 : Int)) hx hb hr (fun t9 ht9 hW9 => ⟨(2 : Int), rfl, by simp only [ablF]; (repeat' split) <;> omega, ht9⟩) (fun q hq => by cases hq) dX4_awaitedBehindLetter_33
  · skip
    refine lv_tableIn (off := 38) (tgt := 39) hx hb dX4_awaitedBehindLetter_1 (by rw [htI]; omega) (by rw [htI]; omega) (by rw [htI, t_1]; rfl) (by decide) ?_
    refine zz_iconst hx hb dX4_awaitedBehindLetter_39 ?_
    exact W.iret (v := iI (0 : Int)) hx hb hr (fun t9 ht9 hW9 => ⟨(0 : Int), rfl, by simp only [ablF]; (repeat' split) <;> omega, ht9⟩) (fun q hq => by cases hq) dX4_awaitedBehindLetter_40
  · skip
    refine lv_tableIn (off := 33) (tgt := 34) hx hb dX4_awaitedBehindLetter_1 (by rw [htI]; omega) (by rw [htI]; omega) (by rw [htI, t_1]; rfl) (by decide) ?_
    refine zz_bipush hx hb dX4_awaitedBehindLetter_34 (by decide +kernel) ?_
    exact W.iret (v := iI (8 : Int)) hx hb hr (fun t9 ht9 hW9 => ⟨(8 : Int), rfl, by simp only [ablF]; (repeat' split) <;> omega, ht9⟩) (fun q hq => by cases hq) dX4_awaitedBehindLetter_36
  · skip
    refine lv_tableIn (off := 36) (tgt := 37) hx hb dX4_awaitedBehindLetter_1 (by rw [htI]; omega) (by rw [htI]; omega) (by rw [htI, t_1]; rfl) (by decide) ?_
    refine zz_iconst hx hb dX4_awaitedBehindLetter_37 ?_
    exact W.iret (v := iI (4 : Int)) hx hb hr (fun t9 ht9 hW9 => ⟨(4 : Int), rfl, by simp only [ablF]; (repeat' split) <;> omega, ht9⟩) (fun q hq => by cases hq) dX4_awaitedBehindLetter_38
  · skip
    refine lv_tableOut (tgt := 39) hx hb dX4_awaitedBehindLetter_1 (by rw [htI]; omega) (by decide) ?_
    refine zz_iconst hx hb dX4_awaitedBehindLetter_39 ?_
    exact W.iret (v := iI (0 : Int)) hx hb hr (fun t9 ht9 hW9 => ⟨(0 : Int), rfl, by simp only [ablF]; (repeat' split) <;> omega, ht9⟩) (fun q hq => by cases hq) dX4_awaitedBehindLetter_40
set_option maxHeartbeats 4000000 in
set_option maxRecDepth 100000 in
theorem c_X4_awaitedBehind (l : Launch) (dC : Nat → ClassId) (dI : Nat → Nat → Nat) (cI cJ cC cO : ClassId) (a x : Int) (ha0 : 0 ≤ a ∧ a ≤ 8) (hx0 : 0 ≤ x ∧ x < 65536) : Met l yX4_awaitedBehind wsX4_awaitedBehind ({ frames := 1, cells := 0, slots := 0, locals := 21 } : Room) (va_Pc [.int (iI a), .int (iI x)] (ro_B (dC, dI) vwCl (tyG cI cJ cC cO) ([]))) (ro_Q (fun z => z = abF a x)) 0 0 (fun _ => False) := by
  refine Met.ofW (cc := cX4_awaitedBehind) (maxL := 2) (ret := (some .int)) (by decide) rfl ?_
  intro p e s m args below meth c s₁ B hml hv
  obtain ⟨hav, hP, hK⟩ := hv
  have hx := B.exec
  have hb := B.bytes
  have hr := B.returns
  have hts := atoms_spec (ws := wsX4_awaitedBehind) B.pre
  have hown : s.vm.findClass RX4 = some m.cls := findClass_of_methodNamed B.named
  have hlocks := B.notSynchronized
  have hP : va_P (dC, dI) vwCl [] s.heap := hP
  have hl := lv_entry ([.int (iI a), .int (iI x)]) (n := 2) (Nat.le_of_ble_eq_true rfl)
  have hent : entryFrame m args 2 = F0 m 0 ((lg_sl ([.int (iI a), .int (iI x)]) ++ List.replicate (2 - (lg_sl ([.int (iI a), .int (iI x)])).length) Slot.unset).toArray) [] := by rw [hav]; exact lg_entry_eq ..
  rw [hent]
  generalize (lg_sl ([.int (iI a), .int (iI x)]) ++ List.replicate (2 - (lg_sl ([.int (iI a), .int (iI x)])).length) Slot.unset).toArray = ls at hl ⊢
  have hl : lv_has ls 2 [(0, .int (iI a)), (1, .int (iI x))] := hl
  refine lv_iload_n hx hb dX4_awaitedBehind_0 rfl (lv_at hl 0 rfl) ?_
  have htI : (iI a).toInt = a := iI_toInt (by omega)
  rcases (show a = (1 : Int) ∨ a = (2 : Int) ∨ a = (3 : Int) ∨ a = (4 : Int) ∨ a = (5 : Int) ∨ a = (6 : Int) ∨ a = (7 : Int) ∨ a = (8 : Int) ∨ (a < (1 : Int) ∨ (8 : Int) < a) by omega) with t_1 | t_1 | t_1 | t_1 | t_1 | t_1 | t_1 | t_1 | t_1
  · skip
    refine lv_tableIn (off := 47) (tgt := 48) hx hb dX4_awaitedBehind_1 (by rw [htI]; omega) (by rw [htI]; omega) (by rw [htI, t_1]; rfl) (by decide) ?_
    refine lv_iload_n hx hb dX4_awaitedBehind_48 rfl (lv_at hl 1 rfl) ?_
    refine ro_S (As := [.int (iI x)]) (rest := []) ⟨hx, hb, hml, hown, hts⟩ (c_X4_awaitedBehindLetter l dC dI cI cJ cC cO x (by omega)) (cwS 1 hts gX4_awaitedBehind_X4_awaitedBehindLetter rfl rfl rfl (by decide +kernel) ⟨Nat.le_of_ble_eq_true rfl, Nat.le_of_ble_eq_true rfl⟩) hK hP [] rfl rfl hl.1 rfl (Nat.le_of_ble_eq_true rfl) dX4_awaitedBehind_49 ⟨Nat.zero_le _, Nat.zero_le _⟩ (fun z_49 hz_49 => ?_)
    subst hz_49
    exact W.iret (v := iI (ablF x)) hx hb hr (fun t9 ht9 hW9 => ⟨(ablF x), rfl, by simp only [abF]; rw [if_pos (by omega)], ht9⟩) (fun q hq => by cases hq) dX4_awaitedBehind_52
  · skip
    refine lv_tableIn (off := 52) (tgt := 53) hx hb dX4_awaitedBehind_1 (by rw [htI]; omega) (by rw [htI]; omega) (by rw [htI, t_1]; rfl) (by decide) ?_
    refine lv_iload_n hx hb dX4_awaitedBehind_53 rfl (lv_at hl 1 rfl) ?_
    refine zz_bipush hx hb dX4_awaitedBehind_54 (by decide +kernel) ?_
    refine ro_S (As := [.int (iI x), .int (iI (49 : Int))]) (rest := []) ⟨hx, hb, hml, hown, hts⟩ (c_X4_isDigit l dC dI cI cJ cC cO x (49 : Int) (by omega) (by omega)) (cwS 2 hts gX4_awaitedBehind_X4_isDigit rfl rfl rfl (by decide +kernel) ⟨Nat.le_of_ble_eq_true rfl, Nat.le_of_ble_eq_true rfl⟩) hK hP [] rfl rfl hl.1 rfl (Nat.le_of_ble_eq_true rfl) dX4_awaitedBehind_56 ⟨Nat.zero_le _, Nat.zero_le _⟩ (fun z_56 hz_56 => ?_)
    refine zz_if_eq (tgt := 66) hx hb dX4_awaitedBehind_59 (by decide) (by omega) (fun c_59 => ?_) (fun c_59 => ?_)
    · skip
      refine zz_iconst hx hb dX4_awaitedBehind_66 ?_
      exact W.iret (v := iI (0 : Int)) hx hb hr (fun t9 ht9 hW9 => ⟨(0 : Int), rfl, by simp only [abF, ablF]; (repeat' split) <;> omega, ht9⟩) (fun q hq => by cases hq) dX4_awaitedBehind_67
    · skip
      refine zz_iconst hx hb dX4_awaitedBehind_62 ?_
      refine lv_goto (tgt := 67) hx hb dX4_awaitedBehind_63 (by decide) ?_
      exact W.iret (v := iI (3 : Int)) hx hb hr (fun t9 ht9 hW9 => ⟨(3 : Int), rfl, by simp only [abF, ablF]; (repeat' split) <;> omega, ht9⟩) (fun q hq => by cases hq) dX4_awaitedBehind_67
  · skip
    refine lv_tableIn (off := 67) (tgt := 68) hx hb dX4_awaitedBehind_1 (by rw [htI]; omega) (by rw [htI]; omega) (by rw [htI, t_1]; rfl) (by decide) ?_
    refine lv_iload_n hx hb dX4_awaitedBehind_68 rfl (lv_at hl 1 rfl) ?_
    refine zz_bipush hx hb dX4_awaitedBehind_69 (by decide +kernel) ?_
    refine ro_S (As := [.int (iI x), .int (iI (48 : Int))]) (rest := []) ⟨hx, hb, hml, hown, hts⟩ (c_X4_isDigit l dC dI cI cJ cC cO x (48 : Int) (by omega) (by omega)) (cwS 2 hts gX4_awaitedBehind_X4_isDigit rfl rfl rfl (by decide +kernel) ⟨Nat.le_of_ble_eq_true rfl, Nat.le_of_ble_eq_true rfl⟩) hK hP [] rfl rfl hl.1 rfl (Nat.le_of_ble_eq_true rfl) dX4_awaitedBehind_71 ⟨Nat.zero_le _, Nat.zero_le _⟩ (fun z_71 hz_71 => ?_)
    refine zz_if_eq (tgt := 80) hx hb dX4_awaitedBehind_74 (by decide) (by omega) (fun c_74 => ?_) (fun c_74 => ?_)
    · skip
      refine lv_iload_n hx hb dX4_awaitedBehind_80 rfl (lv_at hl 1 rfl) ?_
      refine zz_bipush hx hb dX4_awaitedBehind_81 (by decide +kernel) ?_
      refine zz_icmp_ne (tgt := 90) hx hb dX4_awaitedBehind_83 (by decide) (by omega) (by omega) (fun c_83 => ?_) (fun c_83 => ?_)
      · skip
        refine zz_iconst hx hb dX4_awaitedBehind_90 ?_
        exact W.iret (v := iI (0 : Int)) hx hb hr (fun t9 ht9 hW9 => ⟨(0 : Int), rfl, by simp only [abF, ablF]; (repeat' split) <;> omega, ht9⟩) (fun q hq => by cases hq) dX4_awaitedBehind_91
      · skip
        refine zz_iconst hx hb dX4_awaitedBehind_86 ?_
        refine lv_goto (tgt := 91) hx hb dX4_awaitedBehind_87 (by decide) ?_
        exact W.iret (v := iI (1 : Int)) hx hb hr (fun t9 ht9 hW9 => ⟨(1 : Int), rfl, by simp only [abF, ablF]; (repeat' split) <;> omega, ht9⟩) (fun q hq => by cases hq) dX4_awaitedBehind_91
    · skip
      refine zz_bipush hx hb dX4_awaitedBehind_77 (by decide +kernel) ?_
      exact W.iret (v := iI (8 : Int)) hx hb hr (fun t9 ht9 hW9 => ⟨(8 : Int), rfl, by simp only [abF, ablF]; (repeat' split) <;> omega, ht9⟩) (fun q hq => by cases hq) dX4_awaitedBehind_79
  · skip
    refine lv_tableIn (off := 91) (tgt := 92) hx hb dX4_awaitedBehind_1 (by rw [htI]; omega) (by rw [htI]; omega) (by rw [htI, t_1]; rfl) (by decide) ?_
    refine lv_iload_n hx hb dX4_awaitedBehind_92 rfl (lv_at hl 1 rfl) ?_
    refine zz_bipush hx hb dX4_awaitedBehind_93 (by decide +kernel) ?_
    refine ro_S (As := [.int (iI x), .int (iI (48 : Int))]) (rest := []) ⟨hx, hb, hml, hown, hts⟩ (c_X4_isDigit l dC dI cI cJ cC cO x (48 : Int) (by omega) (by omega)) (cwS 2 hts gX4_awaitedBehind_X4_isDigit rfl rfl rfl (by decide +kernel) ⟨Nat.le_of_ble_eq_true rfl, Nat.le_of_ble_eq_true rfl⟩) hK hP [] rfl rfl hl.1 rfl (Nat.le_of_ble_eq_true rfl) dX4_awaitedBehind_95 ⟨Nat.zero_le _, Nat.zero_le _⟩ (fun z_95 hz_95 => ?_)
    refine zz_if_eq (tgt := 105) hx hb dX4_awaitedBehind_98 (by decide) (by omega) (fun c_98 => ?_) (fun c_98 => ?_)
    · skip
      refine zz_iconst hx hb dX4_awaitedBehind_105 ?_
      exact W.iret (v := iI (0 : Int)) hx hb hr (fun t9 ht9 hW9 => ⟨(0 : Int), rfl, by simp only [abF, ablF]; (repeat' split) <;> omega, ht9⟩) (fun q hq => by cases hq) dX4_awaitedBehind_106
    · skip
      refine zz_iconst hx hb dX4_awaitedBehind_101 ?_
      refine lv_goto (tgt := 106) hx hb dX4_awaitedBehind_102 (by decide) ?_
      exact W.iret (v := iI (5 : Int)) hx hb hr (fun t9 ht9 hW9 => ⟨(5 : Int), rfl, by simp only [abF, ablF]; (repeat' split) <;> omega, ht9⟩) (fun q hq => by cases hq) dX4_awaitedBehind_106
  · skip
    refine lv_tableIn (off := 106) (tgt := 107) hx hb dX4_awaitedBehind_1 (by rw [htI]; omega) (by rw [htI]; omega) (by rw [htI, t_1]; rfl) (by decide) ?_
    refine lv_iload_n hx hb dX4_awaitedBehind_107 rfl (lv_at hl 1 rfl) ?_
    refine zz_bipush hx hb dX4_awaitedBehind_108 (by decide +kernel) ?_
    refine zz_icmp_ne (tgt := 118) hx hb dX4_awaitedBehind_110 (by decide) (by omega) (by omega) (fun c_110 => ?_) (fun c_110 => ?_)
    · skip
      refine zz_iconst hx hb dX4_awaitedBehind_118 ?_
      exact W.iret (v := iI (0 : Int)) hx hb hr (fun t9 ht9 hW9 => ⟨(0 : Int), rfl, by simp only [abF, ablF]; (repeat' split) <;> omega, ht9⟩) (fun q hq => by cases hq) dX4_awaitedBehind_119
    · skip
      refine zz_bipush hx hb dX4_awaitedBehind_113 (by decide +kernel) ?_
      refine lv_goto (tgt := 119) hx hb dX4_awaitedBehind_115 (by decide) ?_
      exact W.iret (v := iI (6 : Int)) hx hb hr (fun t9 ht9 hW9 => ⟨(6 : Int), rfl, by simp only [abF, ablF]; (repeat' split) <;> omega, ht9⟩) (fun q hq => by cases hq) dX4_awaitedBehind_119
  · skip
    refine lv_tableIn (off := 119) (tgt := 120) hx hb dX4_awaitedBehind_1 (by rw [htI]; omega) (by rw [htI]; omega) (by rw [htI, t_1]; rfl) (by decide) ?_
    refine lv_iload_n hx hb dX4_awaitedBehind_120 rfl (lv_at hl 1 rfl) ?_
    refine zz_bipush hx hb dX4_awaitedBehind_121 (by decide +kernel) ?_
    refine zz_icmp_ne (tgt := 129) hx hb dX4_awaitedBehind_123 (by decide) (by omega) (by omega) (fun c_123 => ?_) (fun c_123 => ?_)
    · skip
      refine lv_iload_n hx hb dX4_awaitedBehind_129 rfl (lv_at hl 1 rfl) ?_
      refine zz_bipush hx hb dX4_awaitedBehind_130 (by decide +kernel) ?_
      refine ro_S (As := [.int (iI x), .int (iI (48 : Int))]) (rest := []) ⟨hx, hb, hml, hown, hts⟩ (c_X4_isDigit l dC dI cI cJ cC cO x (48 : Int) (by omega) (by omega)) (cwS 2 hts gX4_awaitedBehind_X4_isDigit rfl rfl rfl (by decide +kernel) ⟨Nat.le_of_ble_eq_true rfl, Nat.le_of_ble_eq_true rfl⟩) hK hP [] rfl rfl hl.1 rfl (Nat.le_of_ble_eq_true rfl) dX4_awaitedBehind_132 ⟨Nat.zero_le _, Nat.zero_le _⟩ (fun z_132 hz_132 => ?_)
      refine zz_if_eq (tgt := 143) hx hb dX4_awaitedBehind_135 (by decide) (by omega) (fun c_135 => ?_) (fun c_135 => ?_)
      · skip
        refine zz_iconst hx hb dX4_awaitedBehind_143 ?_
        exact W.iret (v := iI (0 : Int)) hx hb hr (fun t9 ht9 hW9 => ⟨(0 : Int), rfl, by simp only [abF, ablF]; (repeat' split) <;> omega, ht9⟩) (fun q hq => by cases hq) dX4_awaitedBehind_144
      · skip
        refine zz_bipush hx hb dX4_awaitedBehind_138 (by decide +kernel) ?_
        refine lv_goto (tgt := 144) hx hb dX4_awaitedBehind_140 (by decide) ?_
        exact W.iret (v := iI (8 : Int)) hx hb hr (fun t9 ht9 hW9 => ⟨(8 : Int), rfl, by simp only [abF, ablF]; (repeat' split) <;> omega, ht9⟩) (fun q hq => by cases hq) dX4_awaitedBehind_144
    · skip
      refine zz_bipush hx hb dX4_awaitedBehind_126 (by decide +kernel) ?_
      exact W.iret (v := iI (7 : Int)) hx hb hr (fun t9 ht9 hW9 => ⟨(7 : Int), rfl, by simp only [abF, ablF]; (repeat' split) <;> omega, ht9⟩) (fun q hq => by cases hq) dX4_awaitedBehind_128
  · skip
    refine lv_tableIn (off := 144) (tgt := 145) hx hb dX4_awaitedBehind_1 (by rw [htI]; omega) (by rw [htI]; omega) (by rw [htI, t_1]; rfl) (by decide) ?_
    refine lv_iload_n hx hb dX4_awaitedBehind_145 rfl (lv_at hl 1 rfl) ?_
    refine zz_bipush hx hb dX4_awaitedBehind_146 (by decide +kernel) ?_
    refine ro_S (As := [.int (iI x), .int (iI (49 : Int))]) (rest := []) ⟨hx, hb, hml, hown, hts⟩ (c_X4_isDigit l dC dI cI cJ cC cO x (49 : Int) (by omega) (by omega)) (cwS 2 hts gX4_awaitedBehind_X4_isDigit rfl rfl rfl (by decide +kernel) ⟨Nat.le_of_ble_eq_true rfl, Nat.le_of_ble_eq_true rfl⟩) hK hP [] rfl rfl hl.1 rfl (Nat.le_of_ble_eq_true rfl) dX4_awaitedBehind_148 ⟨Nat.zero_le _, Nat.zero_le _⟩ (fun z_148 hz_148 => ?_)
    refine zz_if_eq (tgt := 159) hx hb dX4_awaitedBehind_151 (by decide) (by omega) (fun c_151 => ?_) (fun c_151 => ?_)
    · skip
      refine zz_iconst hx hb dX4_awaitedBehind_159 ?_
      exact W.iret (v := iI (0 : Int)) hx hb hr (fun t9 ht9 hW9 => ⟨(0 : Int), rfl, by simp only [abF, ablF]; (repeat' split) <;> omega, ht9⟩) (fun q hq => by cases hq) dX4_awaitedBehind_160
    · skip
      refine zz_bipush hx hb dX4_awaitedBehind_154 (by decide +kernel) ?_
      refine lv_goto (tgt := 160) hx hb dX4_awaitedBehind_156 (by decide) ?_
      exact W.iret (v := iI (8 : Int)) hx hb hr (fun t9 ht9 hW9 => ⟨(8 : Int), rfl, by simp only [abF, ablF]; (repeat' split) <;> omega, ht9⟩) (fun q hq => by cases hq) dX4_awaitedBehind_160
  · skip
    refine lv_tableIn (off := 160) (tgt := 161) hx hb dX4_awaitedBehind_1 (by rw [htI]; omega) (by rw [htI]; omega) (by rw [htI, t_1]; rfl) (by decide) ?_
    refine lv_iload_n hx hb dX4_awaitedBehind_161 rfl (lv_at hl 1 rfl) ?_
    refine zz_bipush hx hb dX4_awaitedBehind_162 (by decide +kernel) ?_
    refine zz_icmp_ne (tgt := 171) hx hb dX4_awaitedBehind_164 (by decide) (by omega) (by omega) (fun c_164 => ?_) (fun c_164 => ?_)
    · skip
      refine zz_iconst hx hb dX4_awaitedBehind_171 ?_
      exact W.iret (v := iI (0 : Int)) hx hb hr (fun t9 ht9 hW9 => ⟨(0 : Int), rfl, by simp only [abF, ablF]; (repeat' split) <;> omega, ht9⟩) (fun q hq => by cases hq) dX4_awaitedBehind_172
    · skip
      refine zz_iconst hx hb dX4_awaitedBehind_167 ?_
      refine lv_goto (tgt := 172) hx hb dX4_awaitedBehind_168 (by decide) ?_
      exact W.iret (v := iI (1 : Int)) hx hb hr (fun t9 ht9 hW9 => ⟨(1 : Int), rfl, by simp only [abF, ablF]; (repeat' split) <;> omega, ht9⟩) (fun q hq => by cases hq) dX4_awaitedBehind_172
  · skip
    refine lv_tableOut (tgt := 173) hx hb dX4_awaitedBehind_1 (by rw [htI]; omega) (by decide) ?_
    refine zz_iconst hx hb dX4_awaitedBehind_173 ?_
    exact W.iret (v := iI (0 : Int)) hx hb hr (fun t9 ht9 hW9 => ⟨(0 : Int), rfl, by simp only [abF, ablF]; (repeat' split) <;> omega, ht9⟩) (fun q hq => by cases hq) dX4_awaitedBehind_174
set_option maxHeartbeats 4000000 in
set_option maxRecDepth 100000 in
theorem c_X4_fault (l : Launch) (dC : Nat → ClassId) (dI : Nat → Nat → Nat) (cI cJ cC cO : ClassId) (t0 t1 tl : Nat) (tx : Nat → Int) (hto : TOk tl tx) : Met l yX4_fault wsX4_fault ({ frames := 2, cells := 0, slots := 0, locals := 42 } : Room) (va_Pc [.ref t0] (ro_B (dC, dI) vwCl (tyG cI cJ cC cO) (wTx cC t0 t1 tl tx))) (ro_Q (fun z => FltP tl tx z)) 0 0 (fun _ => False) := by
  refine Met.ofW (cc := cX4_fault) (maxL := 3) (ret := (some .int)) (by decide) rfl ?_
  intro p e s m args below meth c s₁ B hml hv
  obtain ⟨hav, hP, hK⟩ := hv
  have hx := B.exec
  have hb := B.bytes
  have hr := B.returns
  have hts := atoms_spec (ws := wsX4_fault) B.pre
  have hown : s.vm.findClass RX4 = some m.cls := findClass_of_methodNamed B.named
  have hlocks := B.notSynchronized
  have hf15 := hts (.fieldLink RX4 15 "RingRods$Text" "length" "I") (by decide +kernel)
  have hw4 : ∀ w ∈ u_ws RX4 TX4 2, w ∈ wsX4_fault := by decide +kernel
  have hP : va_P (dC, dI) vwCl [(t0, .inr (4, [.int (iI (tl : Int)), .ref t1])), (t1, .inl (cC, 60, .inl (fun k => iI (tx k))))] s.heap := hP
  have hl := lv_entry ([.ref t0]) (n := 3) (Nat.le_of_ble_eq_true rfl)
  have hent : entryFrame m args 3 = F0 m 0 ((lg_sl ([.ref t0]) ++ List.replicate (3 - (lg_sl ([.ref t0])).length) Slot.unset).toArray) [] := by rw [hav]; exact lg_entry_eq ..
  rw [hent]
  generalize (lg_sl ([.ref t0]) ++ List.replicate (3 - (lg_sl ([.ref t0])).length) Slot.unset).toArray = ls at hl ⊢
  have hl : lv_has ls 3 [(0, .ref t0)] := hl
  have bt0 := hto.1
  refine zz_iconst hx hb dX4_fault_0 ?_
  refine lv_istore_n (lv' := [(1, .int (iI (1 : Int))), (0, .ref t0)]) hx hb dX4_fault_1 rfl hl (by decide) rfl (fun ls hl => ?_)
  refine zz_iconst hx hb dX4_fault_2 ?_
  refine lv_istore_n (lv' := [(2, .int (iI (0 : Int))), (1, .int (iI (1 : Int))), (0, .ref t0)]) hx hb dX4_fault_3 rfl hl (by decide) rfl (fun ls hl => ?_)
  have lp4 : ∀ (d4 : Nat), ∀ (i : Nat) (v1 v2 : Int) (hi : i ≤ tl) (e2 : v2 = (i : Int)) (e1 : v1 = autF tx i) (h0 : ∀ j, j < i → ¬ autF tx (j + 1) = 0), tl - i < d4 → ∀ ls : Array Slot, lv_has ls 3 [(0, .ref t0), (1, .int (iI v1)), (2, .int (iI v2))] → W p l e ({ frames := 2, cells := 0, slots := 0, locals := 42 } : Room) s m args below meth c s.heap [] 0 0 (MQ below (ro_Q (fun z => FltP tl tx z)) args s 0 0 (fun _ => False)) (F0 m 4 ls []) := by
    intro d4
    induction d4 with
    | zero =>
      intro i v1 v2 hi e2 e1 h0 hd4
      exact absurd hd4 (Nat.not_lt_zero _)
    | succ d4 ih4 =>
      intro i v1 v2 hi e2 e1 h0 hd4 ls hl
      have ba := autF_bd tx i
      refine lv_iload_n hx hb dX4_fault_4 rfl (lv_at hl 2 rfl) ?_
      refine lv_aload_n hx hb dX4_fault_5 rfl (lv_at hl 0 rfl) ?_
      refine va_get (D := (dC, dI)) (ci := 4) (v := .int (iI (tl : Int))) (C := RX4) (T := TX4) (N := 2) hx hb hts hw4 hown hK hP 0 rfl rfl 0 (by decide) hf15 (fun _ h9 => h9) rfl dX4_fault_6 ?_
      refine zz_icmp_ge (tgt := 34) hx hb dX4_fault_9 (by decide) (by omega) (by omega) (fun c_9 => ?_) (fun c_9 => ?_)
      · skip
        refine lv_iload_n hx hb dX4_fault_34 rfl (lv_at hl 1 rfl) ?_
        refine zz_bipush hx hb dX4_fault_35 (by decide +kernel) ?_
        refine zz_icmp_eq (tgt := 45) hx hb dX4_fault_37 (by decide) (by omega) (by omega) (fun c_37 => ?_) (fun c_37 => ?_)
        · skip
          refine zz_iconst hx hb dX4_fault_45 ?_
          refine lv_goto (tgt := 53) hx hb dX4_fault_46 (by decide) ?_
          exact W.iret (v := iI (-1 : Int)) hx hb hr (fun t9 ht9 hW9 => ⟨(-1 : Int), rfl, Or.inr ⟨fun j hj => h0 j (by omega), Or.inl ⟨by (have h9 : i = tl := (by omega)); rw [h9] at e1; omega, rfl⟩⟩, ht9⟩) (fun q hq => by cases hq) dX4_fault_53
        · skip
          refine lv_iload_n hx hb dX4_fault_40 rfl (lv_at hl 1 rfl) ?_
          refine zz_iconst hx hb dX4_fault_41 ?_
          refine zz_icmp_ne (tgt := 49) hx hb dX4_fault_42 (by decide) (by omega) (by omega) (fun c_42 => ?_) (fun c_42 => ?_)
          · skip
            refine lv_aload_n hx hb dX4_fault_49 rfl (lv_at hl 0 rfl) ?_
            refine va_get (D := (dC, dI)) (ci := 4) (v := .int (iI (tl : Int))) (C := RX4) (T := TX4) (N := 2) hx hb hts hw4 hown hK hP 0 rfl rfl 0 (by decide) hf15 (fun _ h9 => h9) rfl dX4_fault_50 ?_
            exact W.iret (v := iI (tl : Int)) hx hb hr (fun t9 ht9 hW9 => ⟨(tl : Int), rfl, Or.inr ⟨fun j hj => h0 j (by omega), Or.inr ⟨by (have h9 : i = tl := (by omega)); rw [h9] at e1; omega, rfl⟩⟩, ht9⟩) (fun q hq => by cases hq) dX4_fault_53
          · skip
            refine zz_iconst hx hb dX4_fault_45 ?_
            refine lv_goto (tgt := 53) hx hb dX4_fault_46 (by decide) ?_
            exact W.iret (v := iI (-1 : Int)) hx hb hr (fun t9 ht9 hW9 => ⟨(-1 : Int), rfl, Or.inr ⟨fun j hj => h0 j (by omega), Or.inl ⟨by (have h9 : i = tl := (by omega)); rw [h9] at e1; omega, rfl⟩⟩, ht9⟩) (fun q hq => by cases hq) dX4_fault_53
      · skip
        refine lv_iload_n hx hb dX4_fault_12 rfl (lv_at hl 1 rfl) ?_
        refine lv_aload_n hx hb dX4_fault_13 rfl (lv_at hl 0 rfl) ?_
        refine lv_iload_n hx hb dX4_fault_14 rfl (lv_at hl 2 rfl) ?_
        refine ro_V (As := [.int (iI v2)]) (rest := [.int (iI v1)]) ⟨hx, hb, hml, hown, hts⟩ (c_X4_signAt l dC dI cI cJ cC cO t0 t1 tl tx hto v2 i (by omega) (by omega)) (cwV 1 hts gX4_fault_X4_signAt rfl rfl rfl (by decide +kernel) ⟨Nat.le_of_ble_eq_true rfl, Nat.le_of_ble_eq_true rfl⟩) hK hP [0, 1] rfl 4 0 rfl rfl rfl hl.1 rfl (Nat.le_of_ble_eq_true rfl) dX4_fault_15 ⟨Nat.zero_le _, Nat.zero_le _⟩ (fun z_15 hz_15 => ?_)
        subst hz_15
        have bz_15 := hto.s i
        refine ro_S (As := [.int (iI v1), .int (iI (sgn tl tx i))]) (rest := []) ⟨hx, hb, hml, hown, hts⟩ (c_X4_awaitedBehind l dC dI cI cJ cC cO v1 (sgn tl tx i) (by omega) (by omega)) (cwS 2 hts gX4_fault_X4_awaitedBehind rfl rfl rfl (by decide +kernel) ⟨Nat.le_of_ble_eq_true rfl, Nat.le_of_ble_eq_true rfl⟩) hK hP [] rfl rfl hl.1 rfl (Nat.le_of_ble_eq_true rfl) dX4_fault_18 ⟨Nat.zero_le _, Nat.zero_le _⟩ (fun z_18 hz_18 => ?_)
        subst hz_18
        have bz_18 := abF_bd v1 (sgn tl tx i)
        refine lv_istore_n (lv' := [(1, .int (iI (abF v1 (sgn tl tx i)))), (0, .ref t0), (2, .int (iI v2))]) hx hb dX4_fault_21 rfl hl (by decide) rfl (fun ls hl => ?_)
        refine lv_iload_n hx hb dX4_fault_22 rfl (lv_at hl 0 rfl) ?_
        refine zz_if_ne (tgt := 28) hx hb dX4_fault_23 (by decide) (by omega) (fun c_23 => ?_) (fun c_23 => ?_)
        · skip
          refine zz_iinc (lv' := [(2, .int (iI (v2 + (1 : Int)))), (1, .int (iI (abF v1 (sgn tl tx i)))), (0, .ref t0)]) hx hb dX4_fault_28 hl (k := 2) rfl (by decide) rfl (fun ls hl => ?_)
          refine lv_goto (tgt := 4) hx hb dX4_fault_31 (by decide) ?_
          exact ih4 (i + 1) (abF v1 (sgn tl tx i)) (v2 + (1 : Int)) (by omega) (by omega) (by (have es : sgn tl tx i = tx i := (by simp only [sgn]; rw [if_pos (by omega)])); rw [autF, ← e1, ← es]) (fun j hj => by (rcases Nat.lt_succ_iff_lt_or_eq.mp hj with q9 | q9); exact h0 j q9; subst q9; (have es : sgn tl tx j = tx j := (by simp only [sgn]; rw [if_pos (by omega)])); rw [autF, ← e1, ← es]; omega) (by omega) ls (lv_sub hl [2, 1, 0] rfl)
        · skip
          refine lv_iload_n hx hb dX4_fault_26 rfl (lv_at hl 2 rfl) ?_
          exact W.iret (v := iI v2) hx hb hr (fun t9 ht9 hW9 => ⟨v2, rfl, Or.inl ⟨i, by omega, e2, by (have es : sgn tl tx i = tx i := (by simp only [sgn]; rw [if_pos (by omega)])); rw [autF, ← e1, ← es]; omega, h0⟩, ht9⟩) (fun q hq => by cases hq) dX4_fault_27
  exact lp4 _ 0 (1 : Int) (0 : Int) (by omega) (by omega) (by rfl) (fun j hj => absurd hj (Nat.not_lt_zero _)) (Nat.lt_succ_self _) ls (lv_sub hl [2, 1, 0] rfl)
