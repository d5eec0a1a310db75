set_option maxHeartbeats 40000000 in
set_option maxRecDepth 100000 in
theorem law_loop {p : Program} {l : Launch} {e : Env} {s : State} {m : MethodId} {below : List Frame} {meth : Method} {c : Code} {dC : Nat → ClassId} {dI : Nat → Nat → Nat} {cI cJ cC cO : ClassId} {b L : Nat} {xs : Nat → Int32} (hL : L ≤ 2048) (C0 : lw_At p s m meth c b L xs) (hK : va_K (dC, dI) vwCl (tyG cI cJ cC cO) s) (g0 b0 : Nat) (a : Nat → Nat) (P : Nat → Nat → Nat) (qf : Nat → Option Nat) (hqf : ∀ j, j < 4 → qf j = some (P j 0)) (d : Nat → Nat) :
    ∀ (n9 i : Nat), i ≤ L → L + 1 ≤ i + n9 → ∀ (C : RC) (X : RX) (M : MC) (Y : MX), RelS C M → smX X → ∀ (H : Heap) (locs : List Loc), va_P (dC, dI) vwCl (wLw cI cJ cC cO g0 b0 a P qf d C X M Y) H → va_D (fun q : Nat => s.heap.size ≤ q) (wLw cI cJ cC cO g0 b0 a P qf d C X M Y) → va_S (fun q : Nat => s.heap.size ≤ q) s.heap H locs → ∀ (ls : Array Slot), lv_has ls 4 [(0, .ref b), (1, .ref g0), (2, .ref b0), (3, .int (iI (i : Int)))] → W p l e room_1 s m #[Value.ref b] below meth c H locs 55 2365 (lw_Z below #[Value.ref b] s) (F0 m 18 ls []) := by
  obtain ⟨hx, hb, hr, hml, hown, hts, hX, hbl, hlocks, hgv⟩ := C0
  have hownL : s.vm.findClass RL = some m.cls := hown
  have htsL : ∀ w ∈ wsL_law, w.before #[Value.ref b] s = true := fun w h => hts w (wsL_law_in w h)
  have hA : ∀ q : Nat, s.heap.size ≤ q → (fun q : Nat => s.heap.size ≤ q) q := fun _ h => h
  have hbA : ¬ (fun q : Nat => s.heap.size ≤ q) b := Nat.not_le.mpr hbl
  have hxi : p.tables.exec = Jvm.exec := hx
  obtain ⟨V, hVd⟩ : ∃ V : Nat → Int, V = fun j => (xs j).toInt := ⟨_, rfl⟩
  have hV : ∀ j, xs j = iI (V j) := fun j => by rw [hVd]; exact (iI_of _).symm
  have bV : ∀ j, -2147483648 ≤ V j ∧ V j < 2147483648 := fun j => by rw [hVd]; exact ⟨Int32.le_toInt _, Int32.toInt_lt _⟩
  intro n9
  induction n9 with
  | zero =>
    intro i h1 h2
    exact absurd h2 (by omega)
  | succ n9 ih =>
    intro i hi hin C X M Y hR hsm H locs hP hD hS ls hl
    have jn : i + 4 ≤ L → ∀ (C : RC) (X : RX) (M : MC) (Y : MX), RelS C M → smX X → ∀ (H : Heap) (locs : List Loc), va_P (dC, dI) vwCl (wLw cI cJ cC cO g0 b0 a P qf d C X M Y) H → va_D (fun q : Nat => s.heap.size ≤ q) (wLw cI cJ cC cO g0 b0 a P qf d C X M Y) → va_S (fun q : Nat => s.heap.size ≤ q) s.heap H locs → ∀ (ls : Array Slot), lv_has ls 4 [(0, .ref b), (1, .ref g0), (2, .ref b0), (3, .int (iI (i : Int)))] → W p l e room_1 s m #[Value.ref b] below meth c H locs 55 2365 (lw_Z below #[Value.ref b] s) (F0 m 600 ls []) := by
      intro h4 C X M Y hR hsm H locs hP hD hS ls hl
      refine zz_iinc (lv' := [(3, .int (iI ((i : Int) + (4 : Int)))), (0, .ref b), (1, .ref g0), (2, .ref b0)]) hx hb dL_law_600 hl (k := 3) rfl (by decide) rfl (fun ls hl => ?_)
      refine lv_goto (tgt := 18) hx hb dL_law_603 (by decide) ?_
      exact ih (i + 4) h4 (by omega) C X M Y hR hsm H locs hP hD hS ls (lv_sub hl [1, 2, 3, 0] rfl)
    refine lv_iload_n hx hb dL_law_18 rfl (lv_at hl 3 rfl) ?_
    refine lv_aload_n hx hb dL_law_19 rfl (lv_at hl 0 rfl) ?_
    refine zz_slen hx hb hX hbl hbA hS dL_law_20 ?_
    refine zz_iconst hx hb dL_law_21 ?_
    refine zz_isub hx hb dL_law_22 ?_
    refine zz_icmp_gt (tgt := 606) hx hb dL_law_23 (by decide) (by omega) (by omega) (fun c_23 => ?_) (fun c_23 => ?_)
    · refine lv_iconst (v := 1) hx hb dL_law_606 (by decide) ?_
      refine va_forget (fun q hq => hS.2.2 q hq) ?_
      refine W.widen (k := 600000) (n := 7302250) (Nat.le_of_ble_eq_true rfl) (Nat.le_of_ble_eq_true rfl) ?_
      exact lw_ret hx hb hr hlocks dL_law_607
    · have h4 : i + 4 ≤ L := by omega
      have jn := jn h4
      obtain ⟨⟨n, hs⟩, hk4, hns, hh, hik, hia, hkp, htx, htl, hT⟩ := id hR
      have hmk : MOk M.1 n := hs.2.1.mok hs.1
      have hns2 : 0 ≤ M.2.2.2.1 ∧ M.2.2.2.1 ≤ 4 := by omega
      have hia2 : 0 ≤ M.2.2.2.2.1 ∧ M.2.2.2.2.1 ≤ 1 := by omega
      have hto2 : TOk M.2.2.2.2.2.2 M.2.2.2.2.2.1 := by rw [htx, htl]; exact hT
      have htk : 0 ≤ C.1 0 2 ∧ C.1 0 2 ≤ 10000 := by rw [← hs.2.1.1 2 (by omega)]; exact hs.2.2.2
      obtain ⟨cV, hcE, hcV⟩ : ∃ cV : Nat, ((iI (V (i + 1))).toUInt32 % 65536).toInt32 = iI ((cV : Nat) : Int) ∧ (0 ≤ ((cV : Nat) : Int) ∧ ((cV : Nat) : Int) < 65536) := ⟨(iI (V (i + 1))).toBitVec.toNat % 65536, pk_char _, by omega⟩
      refine lv_aload_n hx hb dL_law_26 rfl (lv_at hl 0 rfl) ?_
      refine lv_iload_n hx hb dL_law_27 rfl (lv_at hl 3 rfl) ?_
      refine zz_sld hx hb hX hbl hbA hS (i + 0) (by omega) (by omega) (by omega) (v := V) (hV _) dL_law_28 ?_
      refine lv_bipush (v := 31) hx hb dL_law_29 (by decide +kernel) ?_
      refine lv_iand hx hb dL_law_31 ?_
      obtain ⟨t, ht⟩ : ∃ t : Int, (iI (V (i + 0)) &&& (31 : Int32)).toInt = t := ⟨_, rfl⟩
      rcases (show t = 0 ∨ t = 1 ∨ t = 2 ∨ t = 3 ∨ t = 4 ∨ t = 5 ∨ t = 6 ∨ t = 7 ∨ t = 8 ∨ t = 9 ∨ t = 10 ∨ t = 11 ∨ t = 12 ∨ t = 13 ∨ t = 14 ∨ t = 15 ∨ t = 16 ∨ t = 17 ∨ t = 18 ∨ t = 19 ∨ (t < 0 ∨ 19 < t) by omega) with t9 | t9 | t9 | t9 | t9 | t9 | t9 | t9 | t9 | t9 | t9 | t9 | t9 | t9 | t9 | t9 | t9 | t9 | t9 | t9 | t9
      · skip
        refine lv_tableIn (off := 96) (tgt := 128) hx hb dL_law_32 (by rw [ht]; omega) (by rw [ht]; omega) (by rw [ht, t9]; rfl) (by decide) ?_
        exact lw_setRing hL hX hbl hbA hx hb hml hownL htsL hK hqf hV bV h4 hR hsm hs hk4 hns hik htl hT hmk hns2 hia2 hto2 htk hcE hcV jn hP hD hS hl
      · skip
        refine lv_tableIn (off := 119) (tgt := 151) hx hb dL_law_32 (by rw [ht]; omega) (by rw [ht]; omega) (by rw [ht, t9]; rfl) (by decide) ?_
        exact lw_addRod hL hX hbl hbA hx hb hml hownL htsL hK hqf hV bV h4 hR hsm hs hk4 hns hik htl hT hmk hns2 hia2 hto2 htk hcE hcV jn hP hD hS hl
      · skip
        refine lv_tableIn (off := 162) (tgt := 194) hx hb dL_law_32 (by rw [ht]; omega) (by rw [ht]; omega) (by rw [ht, t9]; rfl) (by decide) ?_
        exact lw_removeRod hL hX hbl hbA hx hb hml hownL htsL hK hqf hV bV h4 hR hsm hs hk4 hns hik htl hT hmk hns2 hia2 hto2 htk hcE hcV jn hP hD hS hl
      · skip
        refine lv_tableIn (off := 185) (tgt := 217) hx hb dL_law_32 (by rw [ht]; omega) (by rw [ht]; omega) (by rw [ht, t9]; rfl) (by decide) ?_
        exact lw_setSpeed hL hX hbl hbA hx hb hml hownL htsL hK hqf hV bV h4 hR hsm hs hk4 hns hik htl hT hmk hns2 hia2 hto2 htk hcE hcV jn hP hD hS hl
      · skip
        refine lv_tableIn (off := 218) (tgt := 250) hx hb dL_law_32 (by rw [ht]; omega) (by rw [ht]; omega) (by rw [ht, t9]; rfl) (by decide) ?_
        exact lw_reverse hL hX hbl hbA hx hb hml hownL htsL hK hqf hV bV h4 hR hsm hs hk4 hns hik htl hT hmk hns2 hia2 hto2 htk hcE hcV jn hP hD hS hl
      · skip
        refine lv_tableIn (off := 231) (tgt := 263) hx hb dL_law_32 (by rw [ht]; omega) (by rw [ht]; omega) (by rw [ht, t9]; rfl) (by decide) ?_
        exact lw_pass hL hX hbl hbA hx hb hml hownL htsL hK hqf hV bV h4 hR hsm hs hk4 hns hik htl hT hmk hns2 hia2 hto2 htk hcE hcV jn hP hD hS hl
      · skip
        refine lv_tableIn (off := 254) (tgt := 286) hx hb dL_law_32 (by rw [ht]; omega) (by rw [ht]; omega) (by rw [ht, t9]; rfl) (by decide) ?_
        exact lw_type hL hX hbl hbA hx hb hml hownL htsL hK hqf hV bV h4 hR hsm hs hk4 hns hik htl hT hmk hns2 hia2 hto2 htk hcE hcV jn hP hD hS hl
      · skip
        refine lv_tableIn (off := 279) (tgt := 311) hx hb dL_law_32 (by rw [ht]; omega) (by rw [ht]; omega) (by rw [ht, t9]; rfl) (by decide) ?_
        exact lw_clearText hL hX hbl hbA hx hb hml hownL htsL hK hqf hV bV h4 hR hsm hs hk4 hns hik htl hT hmk hns2 hia2 hto2 htk hcE hcV jn hP hD hS hl
      · skip
        refine lv_tableIn (off := 292) (tgt := 324) hx hb dL_law_32 (by rw [ht]; omega) (by rw [ht]; omega) (by rw [ht, t9]; rfl) (by decide) ?_
        exact lw_perform hL hX hbl hbA hx hb hml hownL htsL hK hqf hV bV h4 hR hsm hs hk4 hns hik htl hT hmk hns2 hia2 hto2 htk hcE hcV jn hP hD hS hl
      · skip
        refine lv_tableIn (off := 305) (tgt := 337) hx hb dL_law_32 (by rw [ht]; omega) (by rw [ht]; omega) (by rw [ht, t9]; rfl) (by decide) ?_
        exact lw_undo hL hX hbl hbA hx hb hml hownL htsL hK hqf hV bV h4 hR hsm hs hk4 hns hik htl hT hmk hns2 hia2 hto2 htk hcE hcV jn hP hD hS hl
      · skip
        refine lv_tableIn (off := 318) (tgt := 350) hx hb dL_law_32 (by rw [ht]; omega) (by rw [ht]; omega) (by rw [ht, t9]; rfl) (by decide) ?_
        exact lw_keep hL hX hbl hbA hx hb hml hownL htsL hK hqf hV bV h4 hR hsm hs hk4 hns hik htl hT hmk hns2 hia2 hto2 htk hcE hcV jn hP hD hS hl
      · skip
        refine lv_tableIn (off := 331) (tgt := 363) hx hb dL_law_32 (by rw [ht]; omega) (by rw [ht]; omega) (by rw [ht, t9]; rfl) (by decide) ?_
        exact lw_restore hL hX hbl hbA hx hb hml hownL htsL hK hqf hV bV h4 hR hsm hs hk4 hns hik htl hT hmk hns2 hia2 hto2 htk hcE hcV jn hP hD hS hl
      · skip
        refine lv_tableIn (off := 344) (tgt := 376) hx hb dL_law_32 (by rw [ht]; omega) (by rw [ht]; omega) (by rw [ht, t9]; rfl) (by decide) ?_
        exact lw_rod hL hX hbl hbA hx hb hml hownL htsL hK hqf hV bV h4 hR hsm hs hk4 hns hik htl hT hmk hns2 hia2 hto2 htk hcE hcV jn hP hD hS hl
      · skip
        refine lv_tableIn (off := 377) (tgt := 409) hx hb dL_law_32 (by rw [ht]; omega) (by rw [ht]; omega) (by rw [ht, t9]; rfl) (by decide) ?_
        exact lw_cover hL hX hbl hbA hx hb hml hownL htsL hK hqf hV bV h4 hR hsm hs hk4 hns hik htl hT hmk hns2 hia2 hto2 htk hcE hcV jn hP hD hS hl
      · skip
        refine lv_tableIn (off := 400) (tgt := 432) hx hb dL_law_32 (by rw [ht]; omega) (by rw [ht]; omega) (by rw [ht, t9]; rfl) (by decide) ?_
        exact lw_placeIn hL hX hbl hbA hx hb hml hownL htsL hK hqf hV bV h4 hR hsm hs hk4 hns hik htl hT hmk hns2 hia2 hto2 htk hcE hcV jn hP hD hS hl
      · skip
        refine lv_tableIn (off := 433) (tgt := 465) hx hb dL_law_32 (by rw [ht]; omega) (by rw [ht]; omega) (by rw [ht, t9]; rfl) (by decide) ?_
        exact lw_speedIn hL hX hbl hbA hx hb hml hownL htsL hK hqf hV bV h4 hR hsm hs hk4 hns hik htl hT hmk hns2 hia2 hto2 htk hcE hcV jn hP hD hS hl
      · skip
        refine lv_tableIn (off := 466) (tgt := 498) hx hb dL_law_32 (by rw [ht]; omega) (by rw [ht]; omega) (by rw [ht, t9]; rfl) (by decide) ?_
        exact lw_meetings hL hX hbl hbA hx hb hml hownL htsL hK hqf hV bV h4 hR hsm hs hk4 hns hik htl hT hmk hns2 hia2 hto2 htk hcE hcV jn hP hD hS hl
      · skip
        refine lv_tableIn (off := 499) (tgt := 531) hx hb dL_law_32 (by rw [ht]; omega) (by rw [ht]; omega) (by rw [ht, t9]; rfl) (by decide) ?_
        exact lw_moments hL hX hbl hbA hx hb hml hownL htsL hK hqf hV bV h4 hR hsm hs hk4 hns hik htl hT hmk hns2 hia2 hto2 htk hcE hcV jn hP hD hS hl
      · skip
        refine lv_tableIn (off := 522) (tgt := 554) hx hb dL_law_32 (by rw [ht]; omega) (by rw [ht]; omega) (by rw [ht, t9]; rfl) (by decide) ?_
        exact lw_next hL hX hbl hbA hx hb hml hownL htsL hK hqf hV bV h4 hR hsm hs hk4 hns hik htl hT hmk hns2 hia2 hto2 htk hcE hcV jn hP hD hS hl
      · skip
        refine lv_tableIn (off := 545) (tgt := 577) hx hb dL_law_32 (by rw [ht]; omega) (by rw [ht]; omega) (by rw [ht, t9]; rfl) (by decide) ?_
        exact lw_count hL hX hbl hbA hx hb hml hownL htsL hK hqf hV bV h4 hR hsm hs hk4 hns hik htl hT hmk hns2 hia2 hto2 htk hcE hcV jn hP hD hS hl
      · skip
        refine lv_tableOut (tgt := 600) hx hb dL_law_32 (by rw [ht]; omega) (by decide) ?_
        exact jn C X M Y hR hsm H locs hP hD hS ls hl
