set_option maxHeartbeats 4000000 in
set_option maxRecDepth 100000 in
theorem c_X6_rank (l : Launch) (dC : Nat → ClassId) (dI : Nat → Nat → Nat) (cI cJ cC cO : ClassId) (b0 b1 b2 b3 b4 b5 b6 b7 b8 b9 b10 b11 b12 : Nat) (w pa ad be : Nat → Int) (ns ia : Int) (tx : Nat → Int) (tl ta : Int) (od pt tu fa th ss mo : Nat → Int) (n : Nat) (hok : MOk w n) (zg : Int) (g : Nat) (eg : zg = (g : Int)) (hg9 : g < n) : Met l yX6_rank wsX6_rank ({ frames := 1, cells := 0, slots := 0, locals := 23 } : Room) (va_Pc [.ref b0, .int (iI zg)] (wr_B (dC, dI) vwCl (tyG cI cJ cC cO) (wM cI cC b0 b1 b2 b3 b4 b5 b6 b7 b8 b9 b10 b11 b12 w pa ad be ns ia tx tl ta od pt tu fa th ss mo))) (wr_Q (fun (z : Int) (u : (Nat → Int) × (Nat → Int)) => ∃ o, Lay w n o u.1 u.2 ∧ ∃ k, k < n ∧ o k = g ∧ z = (k : Int)) (fun u t => va_P (dC, dI) vwCl (wM cI cC b0 b1 b2 b3 b4 b5 b6 b7 b8 b9 b10 b11 b12 w pa ad be ns ia tx tl ta u.1 u.2 tu fa th ss mo) t.heap) (wr_A (wM cI cC b0 b1 b2 b3 b4 b5 b6 b7 b8 b9 b10 b11 b12 w pa ad be ns ia tx tl ta od pt tu fa th ss mo))) 0 0 (wr_A (wM cI cC b0 b1 b2 b3 b4 b5 b6 b7 b8 b9 b10 b11 b12 w pa ad be ns ia tx tl ta od pt tu fa th ss mo)) := by
  refine Met.ofW (cc := cX6_rank) (maxL := 3) (ret := (some .int)) (by decide) rfl ?_
  intro p e s m args below meth c s₁ B hml hv
  obtain ⟨hav, hP, hK, hD0⟩ := hv
  have hx := B.exec
  have hb := B.bytes
  have hr := B.returns
  have hts := atoms_spec (ws := wsX6_rank) B.pre
  have hown : s.vm.findClass RX6 = some m.cls := findClass_of_methodNamed B.named
  have hlocks := B.notSynchronized
  have hf26 := hts (.fieldLink RX6 26 "RingRodsModel" "order" "[I") (by decide +kernel)
  have hw6 : ∀ w ∈ u_ws RX6 TX6 16, w ∈ wsX6_rank := by decide +kernel
  have hD := va_D.slf hD0
  have hS : va_S (wr_A (wM cI cC b0 b1 b2 b3 b4 b5 b6 b7 b8 b9 b10 b11 b12 w pa ad be ns ia tx tl ta od pt tu fa th ss mo)) s.heap s.heap [] := va_S.rf
  show W p l e ({ frames := 1, cells := 0, slots := 0, locals := 23 } : Room) s m args below meth c s.heap [] 0 0 (MQ below (wr_Q (fun (z : Int) (u : (Nat → Int) × (Nat → Int)) => ∃ o, Lay w n o u.1 u.2 ∧ ∃ k, k < n ∧ o k = g ∧ z = (k : Int)) (fun u t => va_P (dC, dI) vwCl (wM cI cC b0 b1 b2 b3 b4 b5 b6 b7 b8 b9 b10 b11 b12 w pa ad be ns ia tx tl ta u.1 u.2 tu fa th ss mo) t.heap) (wr_A (wM cI cC b0 b1 b2 b3 b4 b5 b6 b7 b8 b9 b10 b11 b12 w pa ad be ns ia tx tl ta od pt tu fa th ss mo))) args s 0 0 (wr_A (wM cI cC b0 b1 b2 b3 b4 b5 b6 b7 b8 b9 b10 b11 b12 w pa ad be ns ia tx tl ta od pt tu fa th ss mo))) (entryFrame m args 3)
  generalize hAe : wr_A (wM cI cC b0 b1 b2 b3 b4 b5 b6 b7 b8 b9 b10 b11 b12 w pa ad be ns ia tx tl ta od pt tu fa th ss mo) = A at hD hS ⊢
  have hP : va_P (dC, dI) vwCl [(b0, .inr (6, [.ref b1, .ref b2, .ref b3, .ref b4, .int (iI ns), .int (iI ia), .ref b5, .int (iI tl), .int (iI ta), .ref b6, .ref b7, .ref b8, .ref b9, .ref b10, .ref b11, .ref b12])), (b1, .inl (cI, 37, .inl (fun z9 => iI (w z9)))), (b2, .inl (cI, 148, .inl (fun z9 => iI (pa z9)))), (b3, .inl (cI, 37, .inl (fun z9 => iI (ad z9)))), (b4, .inl (cI, 37, .inl (fun z9 => iI (be z9)))), (b5, .inl (cC, 60, .inl (fun z9 => iI (tx z9)))), (b6, .inl (cI, 8, .inl (fun z9 => iI (od z9)))), (b7, .inl (cI, 8, .inl (fun z9 => iI (pt z9)))), (b8, .inl (cI, 8, .inl (fun z9 => iI (tu z9)))), (b9, .inl (cI, 8, .inl (fun z9 => iI (fa z9)))), (b10, .inl (cI, 8, .inl (fun z9 => iI (th z9)))), (b11, .inl (cI, 8, .inl (fun z9 => iI (ss z9)))), (b12, .inl (cI, 1600, .inl (fun z9 => iI (mo z9))))] s.heap := hP
  have hD : va_D A [(b0, .inr (6, [.ref b1, .ref b2, .ref b3, .ref b4, .int (iI ns), .int (iI ia), .ref b5, .int (iI tl), .int (iI ta), .ref b6, .ref b7, .ref b8, .ref b9, .ref b10, .ref b11, .ref b12])), (b1, .inl (cI, 37, .inl (fun z9 => iI (w z9)))), (b2, .inl (cI, 148, .inl (fun z9 => iI (pa z9)))), (b3, .inl (cI, 37, .inl (fun z9 => iI (ad z9)))), (b4, .inl (cI, 37, .inl (fun z9 => iI (be z9)))), (b5, .inl (cC, 60, .inl (fun z9 => iI (tx z9)))), (b6, .inl (cI, 8, .inl (fun z9 => iI (od z9)))), (b7, .inl (cI, 8, .inl (fun z9 => iI (pt z9)))), (b8, .inl (cI, 8, .inl (fun z9 => iI (tu z9)))), (b9, .inl (cI, 8, .inl (fun z9 => iI (fa z9)))), (b10, .inl (cI, 8, .inl (fun z9 => iI (th z9)))), (b11, .inl (cI, 8, .inl (fun z9 => iI (ss z9)))), (b12, .inl (cI, 1600, .inl (fun z9 => iI (mo z9))))] := hD
  have hl := lv_entry ([.ref b0, .int (iI zg)]) (n := 3) (Nat.le_of_ble_eq_true rfl)
  have hent : entryFrame m args 3 = F0 m 0 ((lg_sl ([.ref b0, .int (iI zg)]) ++ List.replicate (3 - (lg_sl ([.ref b0, .int (iI zg)])).length) Slot.unset).toArray) [] := by rw [hav]; exact lg_entry_eq ..
  rw [hent]
  generalize (lg_sl ([.ref b0, .int (iI zg)]) ++ List.replicate (3 - (lg_sl ([.ref b0, .int (iI zg)])).length) Slot.unset).toArray = ls at hl ⊢
  have hl : lv_has ls 3 [(0, .ref b0), (1, .int (iI zg))] := hl
  have bd0 := hok.bd
  have bd1 := hok.fr
  refine lv_aload_n hx hb dX6_rank_0 rfl (lv_at hl 0 rfl) ?_
  refine wr_Vv (As := []) (rest := []) ⟨hx, hb, hml, hown, hts⟩ (c_X6_layPoints l dC dI cI cJ cC cO b0 b1 b2 b3 b4 b5 b6 b7 b8 b9 b10 b11 b12 w pa ad be ns ia tx tl ta od pt tu fa th ss mo n hok) (cwV 0 hts gX6_rank_X6_layPoints rfl rfl rfl (by decide +kernel) ⟨Nat.le_of_ble_eq_true rfl, Nat.le_of_ble_eq_true rfl⟩) hK hP hD hS [0, 1, 2, 3, 4, 5, 6, 7, 8, 9, 10, 11, 12] rfl (by decide) 6 0 rfl rfl (fun u_1 => [(b0, .inr (6, [.ref b1, .ref b2, .ref b3, .ref b4, .int (iI ns), .int (iI ia), .ref b5, .int (iI tl), .int (iI ta), .ref b6, .ref b7, .ref b8, .ref b9, .ref b10, .ref b11, .ref b12])), (b1, .inl (cI, 37, .inl (fun z9 => iI (w z9)))), (b2, .inl (cI, 148, .inl (fun z9 => iI (pa z9)))), (b3, .inl (cI, 37, .inl (fun z9 => iI (ad z9)))), (b4, .inl (cI, 37, .inl (fun z9 => iI (be z9)))), (b5, .inl (cC, 60, .inl (fun z9 => iI (tx z9)))), (b6, .inl (cI, 8, .inl (fun z9 => iI (u_1.1 z9)))), (b7, .inl (cI, 8, .inl (fun z9 => iI (u_1.2 z9)))), (b8, .inl (cI, 8, .inl (fun z9 => iI (tu z9)))), (b9, .inl (cI, 8, .inl (fun z9 => iI (fa z9)))), (b10, .inl (cI, 8, .inl (fun z9 => iI (th z9)))), (b11, .inl (cI, 8, .inl (fun z9 => iI (ss z9)))), (b12, .inl (cI, 1600, .inl (fun z9 => iI (mo z9))))]) [.inr 0, .inr 1, .inr 2, .inr 3, .inr 4, .inr 5, .inr 6, .inr 7, .inr 8, .inr 9, .inr 10, .inr 11, .inr 12] (fun _ => rfl) (fun _ => rfl) rfl rfl hl.1 rfl (Nat.le_of_ble_eq_true rfl) dX6_rank_1 ⟨Nat.zero_le _, Nat.zero_le _⟩ (fun u_1 H locs hz_1 hP hD hS => ?_)
  have hP : va_P (dC, dI) vwCl [(b0, .inr (6, [.ref b1, .ref b2, .ref b3, .ref b4, .int (iI ns), .int (iI ia), .ref b5, .int (iI tl), .int (iI ta), .ref b6, .ref b7, .ref b8, .ref b9, .ref b10, .ref b11, .ref b12])), (b1, .inl (cI, 37, .inl (fun z9 => iI (w z9)))), (b2, .inl (cI, 148, .inl (fun z9 => iI (pa z9)))), (b3, .inl (cI, 37, .inl (fun z9 => iI (ad z9)))), (b4, .inl (cI, 37, .inl (fun z9 => iI (be z9)))), (b5, .inl (cC, 60, .inl (fun z9 => iI (tx z9)))), (b6, .inl (cI, 8, .inl (fun z9 => iI (u_1.1 z9)))), (b7, .inl (cI, 8, .inl (fun z9 => iI (u_1.2 z9)))), (b8, .inl (cI, 8, .inl (fun z9 => iI (tu z9)))), (b9, .inl (cI, 8, .inl (fun z9 => iI (fa z9)))), (b10, .inl (cI, 8, .inl (fun z9 => iI (th z9)))), (b11, .inl (cI, 8, .inl (fun z9 => iI (ss z9)))), (b12, .inl (cI, 1600, .inl (fun z9 => iI (mo z9))))] H := hP
  have hD : va_D A [(b0, .inr (6, [.ref b1, .ref b2, .ref b3, .ref b4, .int (iI ns), .int (iI ia), .ref b5, .int (iI tl), .int (iI ta), .ref b6, .ref b7, .ref b8, .ref b9, .ref b10, .ref b11, .ref b12])), (b1, .inl (cI, 37, .inl (fun z9 => iI (w z9)))), (b2, .inl (cI, 148, .inl (fun z9 => iI (pa z9)))), (b3, .inl (cI, 37, .inl (fun z9 => iI (ad z9)))), (b4, .inl (cI, 37, .inl (fun z9 => iI (be z9)))), (b5, .inl (cC, 60, .inl (fun z9 => iI (tx z9)))), (b6, .inl (cI, 8, .inl (fun z9 => iI (u_1.1 z9)))), (b7, .inl (cI, 8, .inl (fun z9 => iI (u_1.2 z9)))), (b8, .inl (cI, 8, .inl (fun z9 => iI (tu z9)))), (b9, .inl (cI, 8, .inl (fun z9 => iI (fa z9)))), (b10, .inl (cI, 8, .inl (fun z9 => iI (th z9)))), (b11, .inl (cI, 8, .inl (fun z9 => iI (ss z9)))), (b12, .inl (cI, 1600, .inl (fun z9 => iI (mo z9))))] := hD
  obtain ⟨o_1, hL_1⟩ := hz_1
  refine zz_iconst hx hb dX6_rank_4 ?_
  refine lv_istore_n (lv' := [(2, .int (iI (0 : Int))), (0, .ref b0), (1, .int (iI zg))]) hx hb dX6_rank_5 rfl hl (by decide) rfl (fun ls hl => ?_)
  have lp6 : ∀ (d6 : Nat), ∀ (k : Nat) (v2 : Int) (hk : k ≤ n) (e2 : v2 = (k : Int)) (hA : ∀ j, j < k → ¬ o_1 j = g), n - k < d6 → ∀ (H : Heap) (locs : List Loc), va_P (dC, dI) vwCl [(b0, .inr (6, [.ref b1, .ref b2, .ref b3, .ref b4, .int (iI ns), .int (iI ia), .ref b5, .int (iI tl), .int (iI ta), .ref b6, .ref b7, .ref b8, .ref b9, .ref b10, .ref b11, .ref b12])), (b1, .inl (cI, 37, .inl (fun z9 => iI (w z9)))), (b2, .inl (cI, 148, .inl (fun z9 => iI (pa z9)))), (b3, .inl (cI, 37, .inl (fun z9 => iI (ad z9)))), (b4, .inl (cI, 37, .inl (fun z9 => iI (be z9)))), (b5, .inl (cC, 60, .inl (fun z9 => iI (tx z9)))), (b6, .inl (cI, 8, .inl (fun z9 => iI (u_1.1 z9)))), (b7, .inl (cI, 8, .inl (fun z9 => iI (u_1.2 z9)))), (b8, .inl (cI, 8, .inl (fun z9 => iI (tu z9)))), (b9, .inl (cI, 8, .inl (fun z9 => iI (fa z9)))), (b10, .inl (cI, 8, .inl (fun z9 => iI (th z9)))), (b11, .inl (cI, 8, .inl (fun z9 => iI (ss z9)))), (b12, .inl (cI, 1600, .inl (fun z9 => iI (mo z9))))] H → va_D A [(b0, .inr (6, [.ref b1, .ref b2, .ref b3, .ref b4, .int (iI ns), .int (iI ia), .ref b5, .int (iI tl), .int (iI ta), .ref b6, .ref b7, .ref b8, .ref b9, .ref b10, .ref b11, .ref b12])), (b1, .inl (cI, 37, .inl (fun z9 => iI (w z9)))), (b2, .inl (cI, 148, .inl (fun z9 => iI (pa z9)))), (b3, .inl (cI, 37, .inl (fun z9 => iI (ad z9)))), (b4, .inl (cI, 37, .inl (fun z9 => iI (be z9)))), (b5, .inl (cC, 60, .inl (fun z9 => iI (tx z9)))), (b6, .inl (cI, 8, .inl (fun z9 => iI (u_1.1 z9)))), (b7, .inl (cI, 8, .inl (fun z9 => iI (u_1.2 z9)))), (b8, .inl (cI, 8, .inl (fun z9 => iI (tu z9)))), (b9, .inl (cI, 8, .inl (fun z9 => iI (fa z9)))), (b10, .inl (cI, 8, .inl (fun z9 => iI (th z9)))), (b11, .inl (cI, 8, .inl (fun z9 => iI (ss z9)))), (b12, .inl (cI, 1600, .inl (fun z9 => iI (mo z9))))] → va_S A s.heap H locs → ∀ ls : Array Slot, lv_has ls 3 [(0, .ref b0), (1, .int (iI zg)), (2, .int (iI v2))] → W p l e ({ frames := 1, cells := 0, slots := 0, locals := 23 } : Room) s m args below meth c H locs 0 0 (MQ below (wr_Q (fun (z : Int) (u : (Nat → Int) × (Nat → Int)) => ∃ o, Lay w n o u.1 u.2 ∧ ∃ k, k < n ∧ o k = g ∧ z = (k : Int)) (fun u t => va_P (dC, dI) vwCl (wM cI cC b0 b1 b2 b3 b4 b5 b6 b7 b8 b9 b10 b11 b12 w pa ad be ns ia tx tl ta u.1 u.2 tu fa th ss mo) t.heap) A) args s 0 0 A) (F0 m 6 ls []) := by
    intro d6
    induction d6 with
    | zero =>
      intro k v2 hk e2 hA hd6
      exact absurd hd6 (Nat.not_lt_zero _)
    | succ d6 ih6 =>
      intro k v2 hk e2 hA hd6 H locs hP hD hS ls hl
      have hkn : k < n := by (obtain ⟨k9, h9, h8⟩ := hL_1.sur hg9); (rcases Nat.lt_or_ge k n with q9 | q9); exact q9; exact absurd h8 (hA k9 (by omega))
      refine lv_aload_n hx hb dX6_rank_6 rfl (lv_at hl 0 rfl) ?_
      refine va_get (D := (dC, dI)) (ci := 6) (v := .ref b6) (C := RX6) (T := TX6) (N := 16) hx hb hts hw6 hown hK hP 0 rfl rfl 9 (by decide) hf26 (fun _ h9 => h9) rfl dX6_rank_7 ?_
      refine lv_iload_n hx hb dX6_rank_10 rfl (lv_at hl 2 rfl) ?_
      refine zz_ialdv hx hb hK hP 6 0 (f := u_1.1) rfl rfl (by decide) k (by omega) (by omega) (v := ((o_1 k : Nat) : Int)) (Lay.od hL_1 (j := k) (by omega)) dX6_rank_11 ?_
      have lo_11 := Lay.lt hL_1 (j := k) (by omega)
      refine lv_iload_n hx hb dX6_rank_12 rfl (lv_at hl 1 rfl) ?_
      refine zz_icmp_eq (tgt := 22) hx hb dX6_rank_13 (by decide) (by omega) (by omega) (fun c_13 => ?_) (fun c_13 => ?_)
      · skip
        refine lv_iload_n hx hb dX6_rank_22 rfl (lv_at hl 2 rfl) ?_
        exact W.iret (v := iI v2) hx hb hr (fun t9 ht9 hW9 => ⟨⟨v2, (u_1.1, u_1.2), rfl, ⟨o_1, hL_1, k, hkn, by omega, by omega⟩, by show va_P _ _ _ t9.heap; rw [ht9]; exact hP⟩, hS.F ht9⟩) hS.2.2 dX6_rank_23
      · skip
        refine zz_iinc (lv' := [(2, .int (iI (v2 + (1 : Int)))), (0, .ref b0), (1, .int (iI zg))]) hx hb dX6_rank_16 hl (k := 2) rfl (by decide) rfl (fun ls hl => ?_)
        refine lv_goto (tgt := 6) hx hb dX6_rank_19 (by decide) ?_
        exact ih6 (k + 1) (v2 + (1 : Int)) (by omega) (by omega) (fun j hj => by (rcases Nat.lt_succ_iff_lt_or_eq.mp hj with q9 | q9); exact hA j q9; (subst q9; omega)) (by omega) H locs hP hD hS ls (lv_sub hl [1, 2, 0] rfl)
  exact lp6 _ 0 (0 : Int) (by omega) (by omega) (fun j hj => absurd hj (Nat.not_lt_zero j)) (Nat.lt_succ_self _) H locs hP hD hS ls (lv_sub hl [1, 2, 0] rfl)
set_option maxHeartbeats 4000000 in
set_option maxRecDepth 100000 in
theorem c_X6_leftmost (l : Launch) (dC : Nat → ClassId) (dI : Nat → Nat → Nat) (cI cJ cC cO : ClassId) (b0 b1 b2 b3 b4 b5 b6 b7 b8 b9 b10 b11 b12 : Nat) (w pa ad be : Nat → Int) (ns ia : Int) (tx : Nat → Int) (tl ta : Int) (od pt tu fa th ss mo : Nat → Int) (n : Nat) (hok : MOk w n) (o : Nat → Nat) (hL : Lay w n o od pt) (zx : Int) (x : Nat) (ex : zx = (x : Int)) (hx : x < n) (hpos : ∃ j, j < n ∧ 0 < gpM w n o j) : Met l yX6_leftmost wsX6_leftmost ({ frames := 3, cells := 0, slots := 0, locals := 66 } : Room) (va_Pc [.ref b0, .int (iI zx)] (ro_B (dC, dI) vwCl (tyG cI cJ cC cO) (wM cI cC b0 b1 b2 b3 b4 b5 b6 b7 b8 b9 b10 b11 b12 w pa ad be ns ia tx tl ta od pt tu fa th ss mo))) (ro_Q (fun z => ∃ m : Nat, z = (m : Int) ∧ LmP w n o x m)) 0 0 (fun _ => False) := by
  refine Met.ofW (cc := cX6_leftmost) (maxL := 4) (ret := (some .int)) (by decide) rfl ?_
  intro p e s m args below meth c s₁ B hml hv
  obtain ⟨hav, hP, hK⟩ := hv
  have hx := B.exec
  have hb := B.bytes
  have hr := B.returns
  have hts := atoms_spec (ws := wsX6_leftmost) B.pre
  have hown : s.vm.findClass RX6 = some m.cls := findClass_of_methodNamed B.named
  have hlocks := B.notSynchronized
  have hf7 := hts (.fieldLink RX6 7 "RingRodsModel" "row" "[I") (by decide +kernel)
  have hw6 : ∀ w ∈ u_ws RX6 TX6 16, w ∈ wsX6_leftmost := by decide +kernel
  have hP : va_P (dC, dI) vwCl [(b0, .inr (6, [.ref b1, .ref b2, .ref b3, .ref b4, .int (iI ns), .int (iI ia), .ref b5, .int (iI tl), .int (iI ta), .ref b6, .ref b7, .ref b8, .ref b9, .ref b10, .ref b11, .ref b12])), (b1, .inl (cI, 37, .inl (fun z9 => iI (w z9)))), (b2, .inl (cI, 148, .inl (fun z9 => iI (pa z9)))), (b3, .inl (cI, 37, .inl (fun z9 => iI (ad z9)))), (b4, .inl (cI, 37, .inl (fun z9 => iI (be z9)))), (b5, .inl (cC, 60, .inl (fun z9 => iI (tx z9)))), (b6, .inl (cI, 8, .inl (fun z9 => iI (od z9)))), (b7, .inl (cI, 8, .inl (fun z9 => iI (pt z9)))), (b8, .inl (cI, 8, .inl (fun z9 => iI (tu z9)))), (b9, .inl (cI, 8, .inl (fun z9 => iI (fa z9)))), (b10, .inl (cI, 8, .inl (fun z9 => iI (th z9)))), (b11, .inl (cI, 8, .inl (fun z9 => iI (ss z9)))), (b12, .inl (cI, 1600, .inl (fun z9 => iI (mo z9))))] s.heap := hP
  have hl := lv_entry ([.ref b0, .int (iI zx)]) (n := 4) (Nat.le_of_ble_eq_true rfl)
  have hent : entryFrame m args 4 = F0 m 0 ((lg_sl ([.ref b0, .int (iI zx)]) ++ List.replicate (4 - (lg_sl ([.ref b0, .int (iI zx)])).length) Slot.unset).toArray) [] := by rw [hav]; exact lg_entry_eq ..
  rw [hent]
  generalize (lg_sl ([.ref b0, .int (iI zx)]) ++ List.replicate (4 - (lg_sl ([.ref b0, .int (iI zx)])).length) Slot.unset).toArray = ls at hl ⊢
  have hl : lv_has ls 4 [(0, .ref b0), (1, .int (iI zx))] := hl
  have bd0 := hok.bd
  have bd1 := hok.fr
  obtain ⟨j, hj, gj⟩ := id hpos
  refine lv_aload_n hx hb dX6_leftmost_0 rfl (lv_at hl 0 rfl) ?_
  refine va_get (D := (dC, dI)) (ci := 6) (v := .ref b1) (C := RX6) (T := TX6) (N := 16) hx hb hts hw6 hown hK hP 0 rfl rfl 0 (by decide) hf7 (fun _ h9 => h9) rfl dX6_leftmost_1 ?_
  refine zz_iconst hx hb dX6_leftmost_4 ?_
  refine zz_iald hx hb hK hP 1 0 (f := w) rfl rfl (by decide) 1 (by omega) (by omega) dX6_leftmost_5 ?_
  rw [bd0.2.1]
  refine lv_istore_n (lv' := [(2, .int (iI (n : Int))), (0, .ref b0), (1, .int (iI zx))]) hx hb dX6_leftmost_6 rfl hl (by decide) rfl (fun ls hl => ?_)
  refine lv_iload_n hx hb dX6_leftmost_7 rfl (lv_at hl 2 rfl) ?_
  refine lv_istore_n (lv' := [(3, .int (iI zx)), (2, .int (iI (n : Int))), (0, .ref b0), (1, .int (iI zx))]) hx hb dX6_leftmost_8 rfl hl (by decide) rfl (fun ls hl => ?_)
  have lp9 : ∀ (d9 : Nat), ∀ (k : Nat) (v3 : Int) (hk9 : k < n) (e3 : v3 = (k : Int)) (hI : ilB w n o (rd n k x) k = true), rd n j (pv n k) < d9 → ∀ ls : Array Slot, lv_has ls 4 [(0, .ref b0), (1, .int (iI zx)), (2, .int (iI (n : Int))), (3, .int (iI v3))] → W p l e ({ frames := 3, cells := 0, slots := 0, locals := 66 } : Room) s m args below meth c s.heap [] 0 0 (MQ below (ro_Q (fun z => ∃ m : Nat, z = (m : Int) ∧ LmP w n o x m)) args s 0 0 (fun _ => False)) (F0 m 9 ls []) := by
    intro d9
    induction d9 with
    | zero =>
      intro k v3 hk9 e3 hI hd9
      exact absurd hd9 (Nat.not_lt_zero _)
    | succ d9 ih9 =>
      intro k v3 hk9 e3 hI hd9 ls hl
      refine lv_iload_n hx hb dX6_leftmost_9 rfl (lv_at hl 2 rfl) ?_
      refine zz_iconst hx hb dX6_leftmost_10 ?_
      refine zz_icmp_le (tgt := 39) hx hb dX6_leftmost_11 (by decide) (by omega) (by omega) (fun c_11 => ?_) (fun c_11 => ?_)
      · skip
        refine lv_iload_n hx hb dX6_leftmost_39 rfl (lv_at hl 3 rfl) ?_
        exact W.iret (v := iI v3) hx hb hr (fun t9 ht9 hW9 => ⟨v3, rfl, ⟨k, by omega, by omega, hI, by omega⟩, ht9⟩) (fun q hq => by cases hq) dX6_leftmost_40
      · skip
        refine lv_aload_n hx hb dX6_leftmost_14 rfl (lv_at hl 0 rfl) ?_
        refine lv_iload_n hx hb dX6_leftmost_15 rfl (lv_at hl 3 rfl) ?_
        refine lv_iload_n hx hb dX6_leftmost_16 rfl (lv_at hl 2 rfl) ?_
        refine zz_iadd hx hb dX6_leftmost_17 ?_
        refine zz_iconst hx hb dX6_leftmost_18 ?_
        refine zz_isub hx hb dX6_leftmost_19 ?_
        refine lv_iload_n hx hb dX6_leftmost_20 rfl (lv_at hl 2 rfl) ?_
        refine zz_irem hx hb dX6_leftmost_21 (by omega) (by omega) (by omega) ?_
        rw [show (Int.tmod ((v3 + (n : Int)) - (1 : Int)) (n : Int)) = ((pv n k : Nat) : Int) from by rw [e3]; exact tmod_pv (by omega)]
        have hpk := pv_lt (n := n) (k := k) (by omega)
        refine ro_V (As := [.int (iI ((pv n k : Nat) : Int))]) (rest := []) ⟨hx, hb, hml, hown, hts⟩ (c_X6_gapOf l dC dI cI cJ cC cO b0 b1 b2 b3 b4 b5 b6 b7 b8 b9 b10 b11 b12 w pa ad be ns ia tx tl ta od pt tu fa th ss mo n hok o hL ((pv n k : Nat) : Int) (pv n k) (by omega) (by omega)) (cwV 1 hts gX6_leftmost_X6_gapOf rfl rfl rfl (by decide +kernel) ⟨Nat.le_of_ble_eq_true rfl, Nat.le_of_ble_eq_true rfl⟩) hK hP [0, 1, 2, 3, 4, 5, 6, 7, 8, 9, 10, 11, 12] rfl 6 0 rfl rfl rfl hl.1 rfl (Nat.le_of_ble_eq_true rfl) dX6_leftmost_22 ⟨Nat.zero_le _, Nat.zero_le _⟩ (fun z_22 hz_22 => ?_)
        subst hz_22
        have bz_22 := MOk.gp hok o (pv n k)
        refine zz_if_ne (tgt := 39) hx hb dX6_leftmost_25 (by decide) (by omega) (fun c_25 => ?_) (fun c_25 => ?_)
        · skip
          refine lv_iload_n hx hb dX6_leftmost_39 rfl (lv_at hl 3 rfl) ?_
          exact W.iret (v := iI v3) hx hb hr (fun t9 ht9 hW9 => ⟨v3, rfl, ⟨k, by omega, by omega, hI, by omega⟩, ht9⟩) (fun q hq => by cases hq) dX6_leftmost_40
        · skip
          refine lv_iload_n hx hb dX6_leftmost_28 rfl (lv_at hl 3 rfl) ?_
          refine lv_iload_n hx hb dX6_leftmost_29 rfl (lv_at hl 2 rfl) ?_
          refine zz_iadd hx hb dX6_leftmost_30 ?_
          refine zz_iconst hx hb dX6_leftmost_31 ?_
          refine zz_isub hx hb dX6_leftmost_32 ?_
          refine lv_iload_n hx hb dX6_leftmost_33 rfl (lv_at hl 2 rfl) ?_
          refine zz_irem hx hb dX6_leftmost_34 (by omega) (by omega) (by omega) ?_
          rw [show (Int.tmod ((v3 + (n : Int)) - (1 : Int)) (n : Int)) = ((pv n k : Nat) : Int) from by rw [e3]; exact tmod_pv (by omega)]
          refine lv_istore_n (lv' := [(3, .int (iI ((pv n k : Nat) : Int))), (0, .ref b0), (1, .int (iI zx)), (2, .int (iI (n : Int)))]) hx hb dX6_leftmost_35 rfl hl (by decide) rfl (fun ls hl => ?_)
          refine lv_goto (tgt := 9) hx hb dX6_leftmost_36 (by decide) ?_
          exact ih9 (pv n k) ((pv n k : Nat) : Int) (by omega) (by omega) (lm_step hpos (by omega) (by omega) hI (by omega)) (by (have h8 := lm_mu hk9 hj gj (show gpM w n o (pv n k) = 0 by omega)); omega) ls (lv_sub hl [1, 2, 3, 0] rfl)
  exact lp9 _ x zx (by omega) (by omega) (by rw [rd_z]; rfl) (Nat.lt_succ_self _) ls (lv_sub hl [2, 3, 1, 0] rfl)
set_option maxHeartbeats 4000000 in
set_option maxRecDepth 100000 in
theorem c_X6_clusterOf (l : Launch) (dC : Nat → ClassId) (dI : Nat → Nat → Nat) (cI cJ cC cO : ClassId) (b0 b1 b2 b3 b4 b5 b6 b7 b8 b9 b10 b11 b12 : Nat) (w pa ad be : Nat → Int) (ns ia : Int) (tx : Nat → Int) (tl ta : Int) (od pt tu fa th ss mo : Nat → Int) (n : Nat) (hok : MOk w n) (o : Nat → Nat) (hL : Lay w n o od pt) (zx : Int) (x : Nat) (ex : zx = (x : Int)) (hx : x < n) (hpos : ∃ j, j < n ∧ 0 < gpM w n o j) : Met l yX6_clusterOf wsX6_clusterOf ({ frames := 4, cells := 0, slots := 0, locals := 89 } : Room) (va_Pc [.ref b0, .int (iI zx)] (ro_B (dC, dI) vwCl (tyG cI cJ cC cO) (wM cI cC b0 b1 b2 b3 b4 b5 b6 b7 b8 b9 b10 b11 b12 w pa ad be ns ia tx tl ta od pt tu fa th ss mo))) (ro_Q (fun z => ∃ m e, LmP w n o x m ∧ ReP w n o m e ∧ z = 1 + ((rd n m e : Nat) : Int))) 0 0 (fun _ => False) := by
  refine Met.ofW (cc := cX6_clusterOf) (maxL := 5) (ret := (some .int)) (by decide) rfl ?_
  intro p e s m args below meth c s₁ B hml hv
  obtain ⟨hav, hP, hK⟩ := hv
  have hx := B.exec
  have hb := B.bytes
  have hr := B.returns
  have hts := atoms_spec (ws := wsX6_clusterOf) B.pre
  have hown : s.vm.findClass RX6 = some m.cls := findClass_of_methodNamed B.named
  have hlocks := B.notSynchronized
  have hf7 := hts (.fieldLink RX6 7 "RingRodsModel" "row" "[I") (by decide +kernel)
  have hw6 : ∀ w ∈ u_ws RX6 TX6 16, w ∈ wsX6_clusterOf := by decide +kernel
  have hP : va_P (dC, dI) vwCl [(b0, .inr (6, [.ref b1, .ref b2, .ref b3, .ref b4, .int (iI ns), .int (iI ia), .ref b5, .int (iI tl), .int (iI ta), .ref b6, .ref b7, .ref b8, .ref b9, .ref b10, .ref b11, .ref b12])), (b1, .inl (cI, 37, .inl (fun z9 => iI (w z9)))), (b2, .inl (cI, 148, .inl (fun z9 => iI (pa z9)))), (b3, .inl (cI, 37, .inl (fun z9 => iI (ad z9)))), (b4, .inl (cI, 37, .inl (fun z9 => iI (be z9)))), (b5, .inl (cC, 60, .inl (fun z9 => iI (tx z9)))), (b6, .inl (cI, 8, .inl (fun z9 => iI (od z9)))), (b7, .inl (cI, 8, .inl (fun z9 => iI (pt z9)))), (b8, .inl (cI, 8, .inl (fun z9 => iI (tu z9)))), (b9, .inl (cI, 8, .inl (fun z9 => iI (fa z9)))), (b10, .inl (cI, 8, .inl (fun z9 => iI (th z9)))), (b11, .inl (cI, 8, .inl (fun z9 => iI (ss z9)))), (b12, .inl (cI, 1600, .inl (fun z9 => iI (mo z9))))] s.heap := hP
  have hl := lv_entry ([.ref b0, .int (iI zx)]) (n := 5) (Nat.le_of_ble_eq_true rfl)
  have hent : entryFrame m args 5 = F0 m 0 ((lg_sl ([.ref b0, .int (iI zx)]) ++ List.replicate (5 - (lg_sl ([.ref b0, .int (iI zx)])).length) Slot.unset).toArray) [] := by rw [hav]; exact lg_entry_eq ..
  rw [hent]
  generalize (lg_sl ([.ref b0, .int (iI zx)]) ++ List.replicate (5 - (lg_sl ([.ref b0, .int (iI zx)])).length) Slot.unset).toArray = ls at hl ⊢
  have hl : lv_has ls 5 [(0, .ref b0), (1, .int (iI zx))] := hl
  have bd0 := hok.bd
  have bd1 := hok.fr
  refine lv_aload_n hx hb dX6_clusterOf_0 rfl (lv_at hl 0 rfl) ?_
  refine va_get (D := (dC, dI)) (ci := 6) (v := .ref b1) (C := RX6) (T := TX6) (N := 16) hx hb hts hw6 hown hK hP 0 rfl rfl 0 (by decide) hf7 (fun _ h9 => h9) rfl dX6_clusterOf_1 ?_
  refine zz_iconst hx hb dX6_clusterOf_4 ?_
  refine zz_iald hx hb hK hP 1 0 (f := w) rfl rfl (by decide) 1 (by omega) (by omega) dX6_clusterOf_5 ?_
  rw [bd0.2.1]
  refine lv_istore_n (lv' := [(2, .int (iI (n : Int))), (0, .ref b0), (1, .int (iI zx))]) hx hb dX6_clusterOf_6 rfl hl (by decide) rfl (fun ls hl => ?_)
  refine lv_aload_n hx hb dX6_clusterOf_7 rfl (lv_at hl 1 rfl) ?_
  refine lv_iload_n hx hb dX6_clusterOf_8 rfl (lv_at hl 2 rfl) ?_
  refine ro_V (As := [.int (iI zx)]) (rest := []) ⟨hx, hb, hml, hown, hts⟩ (c_X6_leftmost l dC dI cI cJ cC cO b0 b1 b2 b3 b4 b5 b6 b7 b8 b9 b10 b11 b12 w pa ad be ns ia tx tl ta od pt tu fa th ss mo n hok o hL zx x (by omega) (by omega) hpos) (cwV 1 hts gX6_clusterOf_X6_leftmost rfl rfl rfl (by decide +kernel) ⟨Nat.le_of_ble_eq_true rfl, Nat.le_of_ble_eq_true rfl⟩) hK hP [0, 1, 2, 3, 4, 5, 6, 7, 8, 9, 10, 11, 12] rfl 6 0 rfl rfl rfl hl.1 rfl (Nat.le_of_ble_eq_true rfl) dX6_clusterOf_9 ⟨Nat.zero_le _, Nat.zero_le _⟩ (fun z_9 hz_9 => ?_)
  obtain ⟨m_9, em_9, hm_9⟩ := hz_9
  subst em_9
  have hm1_9 := hm_9.1
  refine lv_istore_n (lv' := [(3, .int (iI ((m_9 : Nat) : Int))), (2, .int (iI (n : Int))), (0, .ref b0), (1, .int (iI zx))]) hx hb dX6_clusterOf_12 rfl hl (by decide) rfl (fun ls hl => ?_)
  refine zz_iconst hx hb dX6_clusterOf_13 ?_
  refine lv_istore (lv' := [(4, .int (iI (1 : Int))), (3, .int (iI ((m_9 : Nat) : Int))), (2, .int (iI (n : Int))), (0, .ref b0), (1, .int (iI zx))]) hx hb dX6_clusterOf_14 hl (by decide) rfl (fun ls hl => ?_)
  have lp16 : ∀ (d16 : Nat), ∀ (k : Nat) (v3 v4 : Int) (hk9 : k < n) (e3 : v3 = (k : Int)) (e4 : v4 = 1 + ((rd n m_9 k : Nat) : Int)) (hI : ilB w n o (rd n m_9 k) m_9 = true), n - rd n m_9 k < d16 → ∀ ls : Array Slot, lv_has ls 5 [(0, .ref b0), (1, .int (iI zx)), (2, .int (iI (n : Int))), (3, .int (iI v3)), (4, .int (iI v4))] → W p l e ({ frames := 4, cells := 0, slots := 0, locals := 89 } : Room) s m args below meth c s.heap [] 0 0 (MQ below (ro_Q (fun z => ∃ m e, LmP w n o x m ∧ ReP w n o m e ∧ z = 1 + ((rd n m e : Nat) : Int))) args s 0 0 (fun _ => False)) (F0 m 16 ls []) := by
    intro d16
    induction d16 with
    | zero =>
      intro k v3 v4 hk9 e3 e4 hI hd16
      exact absurd hd16 (Nat.not_lt_zero _)
    | succ d16 ih16 =>
      intro k v3 v4 hk9 e3 e4 hI hd16 ls hl
      have hnx := nx_lt (n := n) (k := k) (by omega)
      have hr9 := rd_lt (n := n) (a := m_9) (b := k) (by omega) (by omega)
      refine lv_aload_n hx hb dX6_clusterOf_16 rfl (lv_at hl 0 rfl) ?_
      refine lv_iload_n hx hb dX6_clusterOf_17 rfl (lv_at hl 3 rfl) ?_
      refine ro_V (As := [.int (iI v3)]) (rest := []) ⟨hx, hb, hml, hown, hts⟩ (c_X6_gapOf l dC dI cI cJ cC cO b0 b1 b2 b3 b4 b5 b6 b7 b8 b9 b10 b11 b12 w pa ad be ns ia tx tl ta od pt tu fa th ss mo n hok o hL v3 k (by omega) (by omega)) (cwV 1 hts gX6_clusterOf_X6_gapOf rfl rfl rfl (by decide +kernel) ⟨Nat.le_of_ble_eq_true rfl, Nat.le_of_ble_eq_true rfl⟩) hK hP [0, 1, 2, 3, 4, 5, 6, 7, 8, 9, 10, 11, 12] rfl 6 0 rfl rfl rfl hl.1 rfl (Nat.le_of_ble_eq_true rfl) dX6_clusterOf_18 ⟨Nat.zero_le _, Nat.zero_le _⟩ (fun z_18 hz_18 => ?_)
      subst hz_18
      have bz_18 := MOk.gp hok o k
      refine zz_if_ne (tgt := 36) hx hb dX6_clusterOf_21 (by decide) (by omega) (fun c_21 => ?_) (fun c_21 => ?_)
      · skip
        refine lv_iload hx hb dX6_clusterOf_36 (lv_at hl 4 rfl) ?_
        exact W.iret (v := iI v4) hx hb hr (fun t9 ht9 hW9 => ⟨v4, rfl, ⟨m_9, k, hm_9, ⟨by omega, hI, by omega⟩, by omega⟩, ht9⟩) (fun q hq => by cases hq) dX6_clusterOf_38
      · skip
        refine lv_iload_n hx hb dX6_clusterOf_24 rfl (lv_at hl 3 rfl) ?_
        refine zz_iconst hx hb dX6_clusterOf_25 ?_
        refine zz_iadd hx hb dX6_clusterOf_26 ?_
        refine lv_iload_n hx hb dX6_clusterOf_27 rfl (lv_at hl 2 rfl) ?_
        refine zz_irem hx hb dX6_clusterOf_28 (by omega) (by omega) (by omega) ?_
        rw [show (Int.tmod (v3 + (1 : Int)) (n : Int)) = ((nx n k : Nat) : Int) from by rw [e3]; exact (tmod_nat (k + 1) n).trans (congrArg Nat.cast (nx_eq (by omega)))]
        refine lv_istore_n (lv' := [(3, .int (iI ((nx n k : Nat) : Int))), (0, .ref b0), (1, .int (iI zx)), (2, .int (iI (n : Int))), (4, .int (iI v4))]) hx hb dX6_clusterOf_29 rfl hl (by decide) rfl (fun ls hl => ?_)
        refine zz_iinc (lv' := [(4, .int (iI (v4 + (1 : Int)))), (3, .int (iI ((nx n k : Nat) : Int))), (0, .ref b0), (1, .int (iI zx)), (2, .int (iI (n : Int)))]) hx hb dX6_clusterOf_30 hl (k := 4) rfl (by decide) rfl (fun ls hl => ?_)
        refine lv_goto (tgt := 16) hx hb dX6_clusterOf_33 (by decide) ?_
        exact ih16 (nx n k) ((nx n k : Nat) : Int) (v4 + (1 : Int)) (by omega) (by omega) (by (have h8 := (re_step hpos hm_9.1 (show k < n by omega) hI (by omega)).1); omega) ((re_step hpos hm_9.1 (show k < n by omega) hI (by omega)).2) (by (have h8 := (re_step hpos hm_9.1 (show k < n by omega) hI (by omega)).1); omega) ls (lv_sub hl [2, 3, 4, 1, 0] rfl)
  exact lp16 _ m_9 ((m_9 : Nat) : Int) (1 : Int) (by omega) (by omega) (by rw [rd_z]; rfl) (by rw [rd_z]; rfl) (Nat.lt_succ_self _) ls (lv_sub hl [3, 4, 2, 1, 0] rfl)
set_option maxHeartbeats 4000000 in
set_option maxRecDepth 100000 in
theorem c_X6_speeds (l : Launch) (dC : Nat → ClassId) (dI : Nat → Nat → Nat) (cI cJ cC cO : ClassId) (b0 b1 b2 b3 b4 b5 b6 b7 b8 b9 b10 b11 b12 : Nat) (w pa ad be : Nat → Int) (ns ia : Int) (tx : Nat → Int) (tl ta : Int) (od pt tu fa th ss mo : Nat → Int) (n : Nat) (hok : MOk w n) (zb : Int) (b : Bool) (eb : zb = if b = true then 1 else 0) : Met l yX6_speeds wsX6_speeds ({ frames := 0, cells := 0, slots := 0, locals := 0 } : Room) (va_Pc [.ref b0, .int (iI zb)] (ro_B (dC, dI) vwCl (tyG cI cJ cC cO) (wM cI cC b0 b1 b2 b3 b4 b5 b6 b7 b8 b9 b10 b11 b12 w pa ad be ns ia tx tl ta od pt tu fa th ss mo))) (ro_Q (fun z => z = spdM w b n)) 0 0 (fun _ => False) := by
  refine Met.ofW (cc := cX6_speeds) (maxL := 5) (ret := (some .int)) (by decide) rfl ?_
  intro p e s m args below meth c s₁ B hml hv
  obtain ⟨hav, hP, hK⟩ := hv
  have hx := B.exec
  have hb := B.bytes
  have hr := B.returns
  have hts := atoms_spec (ws := wsX6_speeds) B.pre
  have hown : s.vm.findClass RX6 = some m.cls := findClass_of_methodNamed B.named
  have hlocks := B.notSynchronized
  have hf7 := hts (.fieldLink RX6 7 "RingRodsModel" "row" "[I") (by decide +kernel)
  have hw6 : ∀ w ∈ u_ws RX6 TX6 16, w ∈ wsX6_speeds := by decide +kernel
  have hP : va_P (dC, dI) vwCl [(b0, .inr (6, [.ref b1, .ref b2, .ref b3, .ref b4, .int (iI ns), .int (iI ia), .ref b5, .int (iI tl), .int (iI ta), .ref b6, .ref b7, .ref b8, .ref b9, .ref b10, .ref b11, .ref b12])), (b1, .inl (cI, 37, .inl (fun z9 => iI (w z9)))), (b2, .inl (cI, 148, .inl (fun z9 => iI (pa z9)))), (b3, .inl (cI, 37, .inl (fun z9 => iI (ad z9)))), (b4, .inl (cI, 37, .inl (fun z9 => iI (be z9)))), (b5, .inl (cC, 60, .inl (fun z9 => iI (tx z9)))), (b6, .inl (cI, 8, .inl (fun z9 => iI (od z9)))), (b7, .inl (cI, 8, .inl (fun z9 => iI (pt z9)))), (b8, .inl (cI, 8, .inl (fun z9 => iI (tu z9)))), (b9, .inl (cI, 8, .inl (fun z9 => iI (fa z9)))), (b10, .inl (cI, 8, .inl (fun z9 => iI (th z9)))), (b11, .inl (cI, 8, .inl (fun z9 => iI (ss z9)))), (b12, .inl (cI, 1600, .inl (fun z9 => iI (mo z9))))] s.heap := hP
  have hl := lv_entry ([.ref b0, .int (iI zb)]) (n := 5) (Nat.le_of_ble_eq_true rfl)
  have hent : entryFrame m args 5 = F0 m 0 ((lg_sl ([.ref b0, .int (iI zb)]) ++ List.replicate (5 - (lg_sl ([.ref b0, .int (iI zb)])).length) Slot.unset).toArray) [] := by rw [hav]; exact lg_entry_eq ..
  rw [hent]
  generalize (lg_sl ([.ref b0, .int (iI zb)]) ++ List.replicate (5 - (lg_sl ([.ref b0, .int (iI zb)])).length) Slot.unset).toArray = ls at hl ⊢
  have hl : lv_has ls 5 [(0, .ref b0), (1, .int (iI zb))] := hl
  have bd0 := hok.bd
  have bd1 := hok.fr
  have bb := bsel_bd eb
  refine zz_iconst hx hb dX6_speeds_0 ?_
  refine lv_istore_n (lv' := [(2, .int (iI (0 : Int))), (0, .ref b0), (1, .int (iI zb))]) hx hb dX6_speeds_1 rfl hl (by decide) rfl (fun ls hl => ?_)
  refine zz_iconst hx hb dX6_speeds_2 ?_
  refine lv_istore_n (lv' := [(3, .int (iI (0 : Int))), (2, .int (iI (0 : Int))), (0, .ref b0), (1, .int (iI zb))]) hx hb dX6_speeds_3 rfl hl (by decide) rfl (fun ls hl => ?_)
  have lp4 : ∀ (d4 : Nat), ∀ (i : Nat) (v2 v3 : Int) (hi : i ≤ n) (e3 : v3 = (i : Int)) (e2 : v2 = spdM w b i), n - i < d4 → ∀ ls : Array Slot, lv_has ls 5 [(0, .ref b0), (1, .int (iI zb)), (2, .int (iI v2)), (3, .int (iI v3))] → W p l e ({ frames := 0, cells := 0, slots := 0, locals := 0 } : Room) s m args below meth c s.heap [] 0 0 (MQ below (ro_Q (fun z => z = spdM w b n)) args s 0 0 (fun _ => False)) (F0 m 4 ls []) := by
    intro d4
    induction d4 with
    | zero =>
      intro i v2 v3 hi e3 e2 hd4
      exact absurd hd4 (Nat.not_lt_zero _)
    | succ d4 ih4 =>
      intro i v2 v3 hi e3 e2 hd4 ls hl
      refine lv_iload_n hx hb dX6_speeds_4 rfl (lv_at hl 3 rfl) ?_
      refine lv_aload_n hx hb dX6_speeds_5 rfl (lv_at hl 0 rfl) ?_
      refine va_get (D := (dC, dI)) (ci := 6) (v := .ref b1) (C := RX6) (T := TX6) (N := 16) hx hb hts hw6 hown hK hP 0 rfl rfl 0 (by decide) hf7 (fun _ h9 => h9) rfl dX6_speeds_6 ?_
      refine zz_iconst hx hb dX6_speeds_9 ?_
      refine zz_iald hx hb hK hP 1 0 (f := w) rfl rfl (by decide) 1 (by omega) (by omega) dX6_speeds_10 ?_
      refine zz_icmp_ge (tgt := 48) hx hb dX6_speeds_11 (by decide) (by omega) (by omega) (fun c_11 => ?_) (fun c_11 => ?_)
      · skip
        refine lv_iload_n hx hb dX6_speeds_48 rfl (lv_at hl 2 rfl) ?_
        exact W.iret (v := iI v2) hx hb hr (fun t9 ht9 hW9 => ⟨v2, rfl, by (have h9 : i = n := (by omega)); rw [h9] at e2; exact e2, ht9⟩) (fun q hq => by cases hq) dX6_speeds_49
      · skip
        refine lv_aload_n hx hb dX6_speeds_14 rfl (lv_at hl 0 rfl) ?_
        refine va_get (D := (dC, dI)) (ci := 6) (v := .ref b1) (C := RX6) (T := TX6) (N := 16) hx hb hts hw6 hown hK hP 0 rfl rfl 0 (by decide) hf7 (fun _ h9 => h9) rfl dX6_speeds_15 ?_
        refine zz_bipush hx hb dX6_speeds_18 (by decide +kernel) ?_
        refine lv_iload_n hx hb dX6_speeds_20 rfl (lv_at hl 3 rfl) ?_
        refine zz_iadd hx hb dX6_speeds_21 ?_
        refine zz_iald hx hb hK hP 1 0 (f := w) rfl rfl (by decide) (21 + i) (by omega) (by omega) dX6_speeds_22 ?_
        have b_22 := hok.at (k := i) (by omega)
        refine lv_istore (lv' := [(4, .int (iI (w (21 + i)))), (0, .ref b0), (1, .int (iI zb)), (2, .int (iI v2)), (3, .int (iI v3))]) hx hb dX6_speeds_23 hl (by decide) rfl (fun ls hl => ?_)
        refine lv_iload_n hx hb dX6_speeds_25 rfl (lv_at hl 3 rfl) ?_
        refine lv_iload_n hx hb dX6_speeds_26 rfl (lv_at hl 2 rfl) ?_
        refine zz_if_eq (tgt := 38) hx hb dX6_speeds_27 (by decide) (by omega) (fun c_27 => ?_) (fun c_27 => ?_)
        · skip
          refine lv_iload hx hb dX6_speeds_38 (lv_at hl 0 rfl) ?_
          refine zz_iadd hx hb dX6_speeds_40 ?_
          refine lv_istore_n (lv' := [(2, .int (iI (v2 + (w (21 + i))))), (4, .int (iI (w (21 + i)))), (0, .ref b0), (1, .int (iI zb)), (3, .int (iI v3))]) hx hb dX6_speeds_41 rfl hl (by decide) rfl (fun ls hl => ?_)
          refine zz_iinc (lv' := [(3, .int (iI (v3 + (1 : Int)))), (2, .int (iI (v2 + (w (21 + i))))), (4, .int (iI (w (21 + i)))), (0, .ref b0), (1, .int (iI zb))]) hx hb dX6_speeds_42 hl (k := 4) rfl (by decide) rfl (fun ls hl => ?_)
          refine lv_goto (tgt := 4) hx hb dX6_speeds_45 (by decide) ?_
          exact ih4 (i + 1) (v2 + (w (21 + i))) (v3 + (1 : Int)) (by omega) (by omega) (by rw [spdM_s]; first | (rw [if_pos ((il_of eb).1 (by omega)), ← e2]) | (rw [if_neg ((il_of eb).2 (by omega)), ← e2])) (by omega) ls (lv_sub hl [3, 4, 1, 0] rfl)
        · skip
          refine lv_iload hx hb dX6_speeds_30 (lv_at hl 0 rfl) ?_
          refine lv_iload hx hb dX6_speeds_32 (lv_at hl 0 rfl) ?_
          refine zz_imul hx hb dX6_speeds_34 ?_
          refine lv_goto (tgt := 40) hx hb dX6_speeds_35 (by decide) ?_
          refine zz_iadd hx hb dX6_speeds_40 ?_
          refine lv_istore_n (lv' := [(2, .int (iI (v2 + ((w (21 + i)) * (w (21 + i)))))), (4, .int (iI (w (21 + i)))), (0, .ref b0), (1, .int (iI zb)), (3, .int (iI v3))]) hx hb dX6_speeds_41 rfl hl (by decide) rfl (fun ls hl => ?_)
          refine zz_iinc (lv' := [(3, .int (iI (v3 + (1 : Int)))), (2, .int (iI (v2 + ((w (21 + i)) * (w (21 + i)))))), (4, .int (iI (w (21 + i)))), (0, .ref b0), (1, .int (iI zb))]) hx hb dX6_speeds_42 hl (k := 4) rfl (by decide) rfl (fun ls hl => ?_)
          refine lv_goto (tgt := 4) hx hb dX6_speeds_45 (by decide) ?_
          exact ih4 (i + 1) (v2 + ((w (21 + i)) * (w (21 + i)))) (v3 + (1 : Int)) (by omega) (by omega) (by rw [spdM_s]; first | (rw [if_pos ((il_of eb).1 (by omega)), ← e2]) | (rw [if_neg ((il_of eb).2 (by omega)), ← e2])) (by omega) ls (lv_sub hl [3, 4, 1, 0] rfl)
  exact lp4 _ 0 (0 : Int) (0 : Int) (by omega) (by omega) (by simp [spdM, sumI]) (Nat.lt_succ_self _) ls (lv_sub hl [2, 3, 1, 0] rfl)
set_option maxHeartbeats 4000000 in
set_option maxRecDepth 100000 in
theorem c_X6_gaps (l : Launch) (dC : Nat → ClassId) (dI : Nat → Nat → Nat) (cI cJ cC cO : ClassId) (b0 b1 b2 b3 b4 b5 b6 b7 b8 b9 b10 b11 b12 : Nat) (w pa ad be : Nat → Int) (ns ia : Int) (tx : Nat → Int) (tl ta : Int) (od pt tu fa th ss mo : Nat → Int) (n : Nat) (hok : MOk w n) (zb : Int) (b : Bool) (eb : zb = if b = true then 1 else 0) : Met l yX6_gaps wsX6_gaps ({ frames := 3, cells := 0, slots := 0, locals := 66 } : Room) (va_Pc [.ref b0, .int (iI zb)] (wr_B (dC, dI) vwCl (tyG cI cJ cC cO) (wM cI cC b0 b1 b2 b3 b4 b5 b6 b7 b8 b9 b10 b11 b12 w pa ad be ns ia tx tl ta od pt tu fa th ss mo))) (wr_Q (fun (z : Int) (u : (Nat → Int) × (Nat → Int)) => ∃ o, Lay w n o u.1 u.2 ∧ z = gapM w n o b) (fun u t => va_P (dC, dI) vwCl (wM cI cC b0 b1 b2 b3 b4 b5 b6 b7 b8 b9 b10 b11 b12 w pa ad be ns ia tx tl ta u.1 u.2 tu fa th ss mo) t.heap) (wr_A (wM cI cC b0 b1 b2 b3 b4 b5 b6 b7 b8 b9 b10 b11 b12 w pa ad be ns ia tx tl ta od pt tu fa th ss mo))) 0 0 (wr_A (wM cI cC b0 b1 b2 b3 b4 b5 b6 b7 b8 b9 b10 b11 b12 w pa ad be ns ia tx tl ta od pt tu fa th ss mo)) := by
  refine Met.ofW (cc := cX6_gaps) (maxL := 6) (ret := (some .int)) (by decide) rfl ?_
  intro p e s m args below meth c s₁ B hml hv
  obtain ⟨hav, hP, hK, hD0⟩ := hv
  have hx := B.exec
  have hb := B.bytes
  have hr := B.returns
  have hts := atoms_spec (ws := wsX6_gaps) B.pre
  have hown : s.vm.findClass RX6 = some m.cls := findClass_of_methodNamed B.named
  have hlocks := B.notSynchronized
  have hf7 := hts (.fieldLink RX6 7 "RingRodsModel" "row" "[I") (by decide +kernel)
  have hw6 : ∀ w ∈ u_ws RX6 TX6 16, w ∈ wsX6_gaps := by decide +kernel
  have hD := va_D.slf hD0
  have hS : va_S (wr_A (wM cI cC b0 b1 b2 b3 b4 b5 b6 b7 b8 b9 b10 b11 b12 w pa ad be ns ia tx tl ta od pt tu fa th ss mo)) s.heap s.heap [] := va_S.rf
  show W p l e ({ frames := 3, cells := 0, slots := 0, locals := 66 } : Room) s m args below meth c s.heap [] 0 0 (MQ below (wr_Q (fun (z : Int) (u : (Nat → Int) × (Nat → Int)) => ∃ o, Lay w n o u.1 u.2 ∧ z = gapM w n o b) (fun u t => va_P (dC, dI) vwCl (wM cI cC b0 b1 b2 b3 b4 b5 b6 b7 b8 b9 b10 b11 b12 w pa ad be ns ia tx tl ta u.1 u.2 tu fa th ss mo) t.heap) (wr_A (wM cI cC b0 b1 b2 b3 b4 b5 b6 b7 b8 b9 b10 b11 b12 w pa ad be ns ia tx tl ta od pt tu fa th ss mo))) args s 0 0 (wr_A (wM cI cC b0 b1 b2 b3 b4 b5 b6 b7 b8 b9 b10 b11 b12 w pa ad be ns ia tx tl ta od pt tu fa th ss mo))) (entryFrame m args 6)
  generalize hAe : wr_A (wM cI cC b0 b1 b2 b3 b4 b5 b6 b7 b8 b9 b10 b11 b12 w pa ad be ns ia tx tl ta od pt tu fa th ss mo) = A at hD hS ⊢
  have hP : va_P (dC, dI) vwCl [(b0, .inr (6, [.ref b1, .ref b2, .ref b3, .ref b4, .int (iI ns), .int (iI ia), .ref b5, .int (iI tl), .int (iI ta), .ref b6, .ref b7, .ref b8, .ref b9, .ref b10, .ref b11, .ref b12])), (b1, .inl (cI, 37, .inl (fun z9 => iI (w z9)))), (b2, .inl (cI, 148, .inl (fun z9 => iI (pa z9)))), (b3, .inl (cI, 37, .inl (fun z9 => iI (ad z9)))), (b4, .inl (cI, 37, .inl (fun z9 => iI (be z9)))), (b5, .inl (cC, 60, .inl (fun z9 => iI (tx z9)))), (b6, .inl (cI, 8, .inl (fun z9 => iI (od z9)))), (b7, .inl (cI, 8, .inl (fun z9 => iI (pt z9)))), (b8, .inl (cI, 8, .inl (fun z9 => iI (tu z9)))), (b9, .inl (cI, 8, .inl (fun z9 => iI (fa z9)))), (b10, .inl (cI, 8, .inl (fun z9 => iI (th z9)))), (b11, .inl (cI, 8, .inl (fun z9 => iI (ss z9)))), (b12, .inl (cI, 1600, .inl (fun z9 => iI (mo z9))))] s.heap := hP
  have hD : va_D A [(b0, .inr (6, [.ref b1, .ref b2, .ref b3, .ref b4, .int (iI ns), .int (iI ia), .ref b5, .int (iI tl), .int (iI ta), .ref b6, .ref b7, .ref b8, .ref b9, .ref b10, .ref b11, .ref b12])), (b1, .inl (cI, 37, .inl (fun z9 => iI (w z9)))), (b2, .inl (cI, 148, .inl (fun z9 => iI (pa z9)))), (b3, .inl (cI, 37, .inl (fun z9 => iI (ad z9)))), (b4, .inl (cI, 37, .inl (fun z9 => iI (be z9)))), (b5, .inl (cC, 60, .inl (fun z9 => iI (tx z9)))), (b6, .inl (cI, 8, .inl (fun z9 => iI (od z9)))), (b7, .inl (cI, 8, .inl (fun z9 => iI (pt z9)))), (b8, .inl (cI, 8, .inl (fun z9 => iI (tu z9)))), (b9, .inl (cI, 8, .inl (fun z9 => iI (fa z9)))), (b10, .inl (cI, 8, .inl (fun z9 => iI (th z9)))), (b11, .inl (cI, 8, .inl (fun z9 => iI (ss z9)))), (b12, .inl (cI, 1600, .inl (fun z9 => iI (mo z9))))] := hD
  have hl := lv_entry ([.ref b0, .int (iI zb)]) (n := 6) (Nat.le_of_ble_eq_true rfl)
  have hent : entryFrame m args 6 = F0 m 0 ((lg_sl ([.ref b0, .int (iI zb)]) ++ List.replicate (6 - (lg_sl ([.ref b0, .int (iI zb)])).length) Slot.unset).toArray) [] := by rw [hav]; exact lg_entry_eq ..
  rw [hent]
  generalize (lg_sl ([.ref b0, .int (iI zb)]) ++ List.replicate (6 - (lg_sl ([.ref b0, .int (iI zb)])).length) Slot.unset).toArray = ls at hl ⊢
  have hl : lv_has ls 6 [(0, .ref b0), (1, .int (iI zb))] := hl
  have bd0 := hok.bd
  have bd1 := hok.fr
  have bb := bsel_bd eb
  refine lv_aload_n hx hb dX6_gaps_0 rfl (lv_at hl 0 rfl) ?_
  refine wr_Vv (As := []) (rest := []) ⟨hx, hb, hml, hown, hts⟩ (c_X6_layPoints l dC dI cI cJ cC cO b0 b1 b2 b3 b4 b5 b6 b7 b8 b9 b10 b11 b12 w pa ad be ns ia tx tl ta od pt tu fa th ss mo n hok) (cwV 0 hts gX6_gaps_X6_layPoints rfl rfl rfl (by decide +kernel) ⟨Nat.le_of_ble_eq_true rfl, Nat.le_of_ble_eq_true rfl⟩) hK hP hD hS [0, 1, 2, 3, 4, 5, 6, 7, 8, 9, 10, 11, 12] rfl (by decide) 6 0 rfl rfl (fun u_1 => [(b0, .inr (6, [.ref b1, .ref b2, .ref b3, .ref b4, .int (iI ns), .int (iI ia), .ref b5, .int (iI tl), .int (iI ta), .ref b6, .ref b7, .ref b8, .ref b9, .ref b10, .ref b11, .ref b12])), (b1, .inl (cI, 37, .inl (fun z9 => iI (w z9)))), (b2, .inl (cI, 148, .inl (fun z9 => iI (pa z9)))), (b3, .inl (cI, 37, .inl (fun z9 => iI (ad z9)))), (b4, .inl (cI, 37, .inl (fun z9 => iI (be z9)))), (b5, .inl (cC, 60, .inl (fun z9 => iI (tx z9)))), (b6, .inl (cI, 8, .inl (fun z9 => iI (u_1.1 z9)))), (b7, .inl (cI, 8, .inl (fun z9 => iI (u_1.2 z9)))), (b8, .inl (cI, 8, .inl (fun z9 => iI (tu z9)))), (b9, .inl (cI, 8, .inl (fun z9 => iI (fa z9)))), (b10, .inl (cI, 8, .inl (fun z9 => iI (th z9)))), (b11, .inl (cI, 8, .inl (fun z9 => iI (ss z9)))), (b12, .inl (cI, 1600, .inl (fun z9 => iI (mo z9))))]) [.inr 0, .inr 1, .inr 2, .inr 3, .inr 4, .inr 5, .inr 6, .inr 7, .inr 8, .inr 9, .inr 10, .inr 11, .inr 12] (fun _ => rfl) (fun _ => rfl) rfl rfl hl.1 rfl (Nat.le_of_ble_eq_true rfl) dX6_gaps_1 ⟨Nat.zero_le _, Nat.zero_le _⟩ (fun u_1 H locs hz_1 hP hD hS => ?_)
  have hP : va_P (dC, dI) vwCl [(b0, .inr (6, [.ref b1, .ref b2, .ref b3, .ref b4, .int (iI ns), .int (iI ia), .ref b5, .int (iI tl), .int (iI ta), .ref b6, .ref b7, .ref b8, .ref b9, .ref b10, .ref b11, .ref b12])), (b1, .inl (cI, 37, .inl (fun z9 => iI (w z9)))), (b2, .inl (cI, 148, .inl (fun z9 => iI (pa z9)))), (b3, .inl (cI, 37, .inl (fun z9 => iI (ad z9)))), (b4, .inl (cI, 37, .inl (fun z9 => iI (be z9)))), (b5, .inl (cC, 60, .inl (fun z9 => iI (tx z9)))), (b6, .inl (cI, 8, .inl (fun z9 => iI (u_1.1 z9)))), (b7, .inl (cI, 8, .inl (fun z9 => iI (u_1.2 z9)))), (b8, .inl (cI, 8, .inl (fun z9 => iI (tu z9)))), (b9, .inl (cI, 8, .inl (fun z9 => iI (fa z9)))), (b10, .inl (cI, 8, .inl (fun z9 => iI (th z9)))), (b11, .inl (cI, 8, .inl (fun z9 => iI (ss z9)))), (b12, .inl (cI, 1600, .inl (fun z9 => iI (mo z9))))] H := hP
  have hD : va_D A [(b0, .inr (6, [.ref b1, .ref b2, .ref b3, .ref b4, .int (iI ns), .int (iI ia), .ref b5, .int (iI tl), .int (iI ta), .ref b6, .ref b7, .ref b8, .ref b9, .ref b10, .ref b11, .ref b12])), (b1, .inl (cI, 37, .inl (fun z9 => iI (w z9)))), (b2, .inl (cI, 148, .inl (fun z9 => iI (pa z9)))), (b3, .inl (cI, 37, .inl (fun z9 => iI (ad z9)))), (b4, .inl (cI, 37, .inl (fun z9 => iI (be z9)))), (b5, .inl (cC, 60, .inl (fun z9 => iI (tx z9)))), (b6, .inl (cI, 8, .inl (fun z9 => iI (u_1.1 z9)))), (b7, .inl (cI, 8, .inl (fun z9 => iI (u_1.2 z9)))), (b8, .inl (cI, 8, .inl (fun z9 => iI (tu z9)))), (b9, .inl (cI, 8, .inl (fun z9 => iI (fa z9)))), (b10, .inl (cI, 8, .inl (fun z9 => iI (th z9)))), (b11, .inl (cI, 8, .inl (fun z9 => iI (ss z9)))), (b12, .inl (cI, 1600, .inl (fun z9 => iI (mo z9))))] := hD
  obtain ⟨o_1, hL_1⟩ := hz_1
  refine zz_iconst hx hb dX6_gaps_4 ?_
  refine lv_istore_n (lv' := [(2, .int (iI (0 : Int))), (0, .ref b0), (1, .int (iI zb))]) hx hb dX6_gaps_5 rfl hl (by decide) rfl (fun ls hl => ?_)
  refine zz_iconst hx hb dX6_gaps_6 ?_
  refine lv_istore_n (lv' := [(3, .int (iI (0 : Int))), (2, .int (iI (0 : Int))), (0, .ref b0), (1, .int (iI zb))]) hx hb dX6_gaps_7 rfl hl (by decide) rfl (fun ls hl => ?_)
  refine zz_iconst hx hb dX6_gaps_8 ?_
  refine lv_istore (lv' := [(4, .int (iI (0 : Int))), (3, .int (iI (0 : Int))), (2, .int (iI (0 : Int))), (0, .ref b0), (1, .int (iI zb))]) hx hb dX6_gaps_9 hl (by decide) rfl (fun ls hl => ?_)
  have lp11 : ∀ (d11 : Nat), ∀ (k : Nat) (v2 v3 v4 : Int) (hk : k ≤ n) (e4 : v4 = (k : Int)) (e2 : v2 = sumI (fun k => if 0 < gpM w n o_1 k then 1 else 0) k) (e3 : v3 = mxM w n o_1 k), n - k < d11 → ∀ (H : Heap) (locs : List Loc), va_P (dC, dI) vwCl [(b0, .inr (6, [.ref b1, .ref b2, .ref b3, .ref b4, .int (iI ns), .int (iI ia), .ref b5, .int (iI tl), .int (iI ta), .ref b6, .ref b7, .ref b8, .ref b9, .ref b10, .ref b11, .ref b12])), (b1, .inl (cI, 37, .inl (fun z9 => iI (w z9)))), (b2, .inl (cI, 148, .inl (fun z9 => iI (pa z9)))), (b3, .inl (cI, 37, .inl (fun z9 => iI (ad z9)))), (b4, .inl (cI, 37, .inl (fun z9 => iI (be z9)))), (b5, .inl (cC, 60, .inl (fun z9 => iI (tx z9)))), (b6, .inl (cI, 8, .inl (fun z9 => iI (u_1.1 z9)))), (b7, .inl (cI, 8, .inl (fun z9 => iI (u_1.2 z9)))), (b8, .inl (cI, 8, .inl (fun z9 => iI (tu z9)))), (b9, .inl (cI, 8, .inl (fun z9 => iI (fa z9)))), (b10, .inl (cI, 8, .inl (fun z9 => iI (th z9)))), (b11, .inl (cI, 8, .inl (fun z9 => iI (ss z9)))), (b12, .inl (cI, 1600, .inl (fun z9 => iI (mo z9))))] H → va_D A [(b0, .inr (6, [.ref b1, .ref b2, .ref b3, .ref b4, .int (iI ns), .int (iI ia), .ref b5, .int (iI tl), .int (iI ta), .ref b6, .ref b7, .ref b8, .ref b9, .ref b10, .ref b11, .ref b12])), (b1, .inl (cI, 37, .inl (fun z9 => iI (w z9)))), (b2, .inl (cI, 148, .inl (fun z9 => iI (pa z9)))), (b3, .inl (cI, 37, .inl (fun z9 => iI (ad z9)))), (b4, .inl (cI, 37, .inl (fun z9 => iI (be z9)))), (b5, .inl (cC, 60, .inl (fun z9 => iI (tx z9)))), (b6, .inl (cI, 8, .inl (fun z9 => iI (u_1.1 z9)))), (b7, .inl (cI, 8, .inl (fun z9 => iI (u_1.2 z9)))), (b8, .inl (cI, 8, .inl (fun z9 => iI (tu z9)))), (b9, .inl (cI, 8, .inl (fun z9 => iI (fa z9)))), (b10, .inl (cI, 8, .inl (fun z9 => iI (th z9)))), (b11, .inl (cI, 8, .inl (fun z9 => iI (ss z9)))), (b12, .inl (cI, 1600, .inl (fun z9 => iI (mo z9))))] → va_S A s.heap H locs → ∀ ls : Array Slot, lv_has ls 6 [(0, .ref b0), (1, .int (iI zb)), (2, .int (iI v2)), (3, .int (iI v3)), (4, .int (iI v4))] → W p l e ({ frames := 3, cells := 0, slots := 0, locals := 66 } : Room) s m args below meth c H locs 0 0 (MQ below (wr_Q (fun (z : Int) (u : (Nat → Int) × (Nat → Int)) => ∃ o, Lay w n o u.1 u.2 ∧ z = gapM w n o b) (fun u t => va_P (dC, dI) vwCl (wM cI cC b0 b1 b2 b3 b4 b5 b6 b7 b8 b9 b10 b11 b12 w pa ad be ns ia tx tl ta u.1 u.2 tu fa th ss mo) t.heap) A) args s 0 0 A) (F0 m 11 ls []) := by
    intro d11
    induction d11 with
    | zero =>
      intro k v2 v3 v4 hk e4 e2 e3 hd11
      exact absurd hd11 (Nat.not_lt_zero _)
    | succ d11 ih11 =>
      intro k v2 v3 v4 hk e4 e2 e3 hd11 H locs hP hD hS ls hl
      have hmx := mxM_bd hok o_1 k
      refine lv_iload hx hb dX6_gaps_11 (lv_at hl 4 rfl) ?_
      refine lv_aload_n hx hb dX6_gaps_13 rfl (lv_at hl 0 rfl) ?_
      refine va_get (D := (dC, dI)) (ci := 6) (v := .ref b1) (C := RX6) (T := TX6) (N := 16) hx hb hts hw6 hown hK hP 0 rfl rfl 0 (by decide) hf7 (fun _ h9 => h9) rfl dX6_gaps_14 ?_
      refine zz_iconst hx hb dX6_gaps_17 ?_
      refine zz_iald hx hb hK hP 1 0 (f := w) rfl rfl (by decide) 1 (by omega) (by omega) dX6_gaps_18 ?_
      refine zz_icmp_ge (tgt := 62) hx hb dX6_gaps_19 (by decide) (by omega) (by omega) (fun c_19 => ?_) (fun c_19 => ?_)
      · skip
        refine lv_iload_n hx hb dX6_gaps_62 rfl (lv_at hl 1 rfl) ?_
        refine zz_if_eq (tgt := 70) hx hb dX6_gaps_63 (by decide) (by omega) (fun c_63 => ?_) (fun c_63 => ?_)
        · skip
          refine lv_iload_n hx hb dX6_gaps_70 rfl (lv_at hl 2 rfl) ?_
          exact W.iret (v := iI v2) hx hb hr (fun t9 ht9 hW9 => ⟨⟨v2, (u_1.1, u_1.2), rfl, ⟨o_1, hL_1, by (have h9 : k = n := (by omega)); rw [h9] at e2 e3; simp only [gapM]; first | (rw [if_pos ((il_of eb).1 (by omega))]; exact e3) | (rw [if_neg ((il_of eb).2 (by omega))]; exact e2)⟩, by show va_P _ _ _ t9.heap; rw [ht9]; exact hP⟩, hS.F ht9⟩) hS.2.2 dX6_gaps_71
        · skip
          refine lv_iload_n hx hb dX6_gaps_66 rfl (lv_at hl 3 rfl) ?_
          refine lv_goto (tgt := 71) hx hb dX6_gaps_67 (by decide) ?_
          exact W.iret (v := iI v3) hx hb hr (fun t9 ht9 hW9 => ⟨⟨v3, (u_1.1, u_1.2), rfl, ⟨o_1, hL_1, by (have h9 : k = n := (by omega)); rw [h9] at e2 e3; simp only [gapM]; first | (rw [if_pos ((il_of eb).1 (by omega))]; exact e3) | (rw [if_neg ((il_of eb).2 (by omega))]; exact e2)⟩, by show va_P _ _ _ t9.heap; rw [ht9]; exact hP⟩, hS.F ht9⟩) hS.2.2 dX6_gaps_71
      · skip
        refine lv_aload_n hx hb dX6_gaps_22 rfl (lv_at hl 0 rfl) ?_
        refine lv_iload hx hb dX6_gaps_23 (lv_at hl 4 rfl) ?_
        refine ro_V (As := [.int (iI v4)]) (rest := []) ⟨hx, hb, hml, hown, hts⟩ (c_X6_gapOf l dC dI cI cJ cC cO b0 b1 b2 b3 b4 b5 b6 b7 b8 b9 b10 b11 b12 w pa ad be ns ia tx tl ta u_1.1 u_1.2 tu fa th ss mo n hok o_1 hL_1 v4 k (by omega) (by omega)) (cwV 1 hts gX6_gaps_X6_gapOf rfl rfl rfl (by decide +kernel) ⟨Nat.le_of_ble_eq_true rfl, Nat.le_of_ble_eq_true rfl⟩) hK hP [0, 1, 2, 3, 4, 5, 6, 7, 8, 9, 10, 11, 12] rfl 6 0 rfl rfl rfl hl.1 rfl (Nat.le_of_ble_eq_true rfl) dX6_gaps_25 ⟨Nat.zero_le _, Nat.zero_le _⟩ (fun z_25 hz_25 => ?_)
        subst hz_25
        have bz_25 := MOk.gp hok o_1 k
        refine lv_istore (lv' := [(5, .int (iI (gpM w n o_1 k))), (0, .ref b0), (1, .int (iI zb)), (2, .int (iI v2)), (3, .int (iI v3)), (4, .int (iI v4))]) hx hb dX6_gaps_28 hl (by decide) rfl (fun ls hl => ?_)
        refine lv_iload_n hx hb dX6_gaps_30 rfl (lv_at hl 3 rfl) ?_
        refine lv_iload hx hb dX6_gaps_31 (lv_at hl 0 rfl) ?_
        refine zz_if_le (tgt := 40) hx hb dX6_gaps_33 (by decide) (by omega) (fun c_33 => ?_) (fun c_33 => ?_)
        · skip
          refine zz_iconst hx hb dX6_gaps_40 ?_
          refine zz_iadd hx hb dX6_gaps_41 ?_
          refine lv_istore_n (lv' := [(2, .int (iI (v2 + (0 : Int)))), (5, .int (iI (gpM w n o_1 k))), (0, .ref b0), (1, .int (iI zb)), (3, .int (iI v3)), (4, .int (iI v4))]) hx hb dX6_gaps_42 rfl hl (by decide) rfl (fun ls hl => ?_)
          refine lv_iload hx hb dX6_gaps_43 (lv_at hl 1 rfl) ?_
          refine lv_iload_n hx hb dX6_gaps_45 rfl (lv_at hl 4 rfl) ?_
          refine zz_icmp_le (tgt := 54) hx hb dX6_gaps_46 (by decide) (by omega) (by omega) (fun c_46 => ?_) (fun c_46 => ?_)
          · skip
            refine lv_iload_n hx hb dX6_gaps_54 rfl (lv_at hl 4 rfl) ?_
            refine lv_istore_n (lv' := [(3, .int (iI v3)), (2, .int (iI (v2 + (0 : Int)))), (5, .int (iI (gpM w n o_1 k))), (0, .ref b0), (1, .int (iI zb)), (4, .int (iI v4))]) hx hb dX6_gaps_55 rfl hl (by decide) rfl (fun ls hl => ?_)
            refine zz_iinc (lv' := [(4, .int (iI (v4 + (1 : Int)))), (3, .int (iI v3)), (2, .int (iI (v2 + (0 : Int)))), (5, .int (iI (gpM w n o_1 k))), (0, .ref b0), (1, .int (iI zb))]) hx hb dX6_gaps_56 hl (k := 5) rfl (by decide) rfl (fun ls hl => ?_)
            refine lv_goto (tgt := 11) hx hb dX6_gaps_59 (by decide) ?_
            exact ih11 (k + 1) (v2 + (0 : Int)) v3 (v4 + (1 : Int)) (by omega) (by omega) (by rw [sumI_s]; first | (rw [if_pos (by omega)]; omega) | (rw [if_neg (by omega)]; omega)) (by rw [mxM]; split <;> omega) (by omega) H locs hP hD hS ls (lv_sub hl [4, 5, 2, 1, 0] rfl)
          · skip
            refine lv_iload hx hb dX6_gaps_49 (lv_at hl 1 rfl) ?_
            refine lv_goto (tgt := 55) hx hb dX6_gaps_51 (by decide) ?_
            refine lv_istore_n (lv' := [(3, .int (iI (gpM w n o_1 k))), (2, .int (iI (v2 + (0 : Int)))), (5, .int (iI (gpM w n o_1 k))), (0, .ref b0), (1, .int (iI zb)), (4, .int (iI v4))]) hx hb dX6_gaps_55 rfl hl (by decide) rfl (fun ls hl => ?_)
            refine zz_iinc (lv' := [(4, .int (iI (v4 + (1 : Int)))), (3, .int (iI (gpM w n o_1 k))), (2, .int (iI (v2 + (0 : Int)))), (5, .int (iI (gpM w n o_1 k))), (0, .ref b0), (1, .int (iI zb))]) hx hb dX6_gaps_56 hl (k := 5) rfl (by decide) rfl (fun ls hl => ?_)
            refine lv_goto (tgt := 11) hx hb dX6_gaps_59 (by decide) ?_
            exact ih11 (k + 1) (v2 + (0 : Int)) (gpM w n o_1 k) (v4 + (1 : Int)) (by omega) (by omega) (by rw [sumI_s]; first | (rw [if_pos (by omega)]; omega) | (rw [if_neg (by omega)]; omega)) (by rw [mxM]; split <;> omega) (by omega) H locs hP hD hS ls (lv_sub hl [4, 5, 2, 1, 0] rfl)
        · skip
          refine zz_iconst hx hb dX6_gaps_36 ?_
          refine lv_goto (tgt := 41) hx hb dX6_gaps_37 (by decide) ?_
          refine zz_iadd hx hb dX6_gaps_41 ?_
          refine lv_istore_n (lv' := [(2, .int (iI (v2 + (1 : Int)))), (5, .int (iI (gpM w n o_1 k))), (0, .ref b0), (1, .int (iI zb)), (3, .int (iI v3)), (4, .int (iI v4))]) hx hb dX6_gaps_42 rfl hl (by decide) rfl (fun ls hl => ?_)
          refine lv_iload hx hb dX6_gaps_43 (lv_at hl 1 rfl) ?_
          refine lv_iload_n hx hb dX6_gaps_45 rfl (lv_at hl 4 rfl) ?_
          refine zz_icmp_le (tgt := 54) hx hb dX6_gaps_46 (by decide) (by omega) (by omega) (fun c_46 => ?_) (fun c_46 => ?_)
          · skip
            refine lv_iload_n hx hb dX6_gaps_54 rfl (lv_at hl 4 rfl) ?_
            refine lv_istore_n (lv' := [(3, .int (iI v3)), (2, .int (iI (v2 + (1 : Int)))), (5, .int (iI (gpM w n o_1 k))), (0, .ref b0), (1, .int (iI zb)), (4, .int (iI v4))]) hx hb dX6_gaps_55 rfl hl (by decide) rfl (fun ls hl => ?_)
            refine zz_iinc (lv' := [(4, .int (iI (v4 + (1 : Int)))), (3, .int (iI v3)), (2, .int (iI (v2 + (1 : Int)))), (5, .int (iI (gpM w n o_1 k))), (0, .ref b0), (1, .int (iI zb))]) hx hb dX6_gaps_56 hl (k := 5) rfl (by decide) rfl (fun ls hl => ?_)
            refine lv_goto (tgt := 11) hx hb dX6_gaps_59 (by decide) ?_
            exact ih11 (k + 1) (v2 + (1 : Int)) v3 (v4 + (1 : Int)) (by omega) (by omega) (by rw [sumI_s]; first | (rw [if_pos (by omega)]; omega) | (rw [if_neg (by omega)]; omega)) (by rw [mxM]; split <;> omega) (by omega) H locs hP hD hS ls (lv_sub hl [4, 5, 2, 1, 0] rfl)
          · skip
            refine lv_iload hx hb dX6_gaps_49 (lv_at hl 1 rfl) ?_
            refine lv_goto (tgt := 55) hx hb dX6_gaps_51 (by decide) ?_
            refine lv_istore_n (lv' := [(3, .int (iI (gpM w n o_1 k))), (2, .int (iI (v2 + (1 : Int)))), (5, .int (iI (gpM w n o_1 k))), (0, .ref b0), (1, .int (iI zb)), (4, .int (iI v4))]) hx hb dX6_gaps_55 rfl hl (by decide) rfl (fun ls hl => ?_)
            refine zz_iinc (lv' := [(4, .int (iI (v4 + (1 : Int)))), (3, .int (iI (gpM w n o_1 k))), (2, .int (iI (v2 + (1 : Int)))), (5, .int (iI (gpM w n o_1 k))), (0, .ref b0), (1, .int (iI zb))]) hx hb dX6_gaps_56 hl (k := 5) rfl (by decide) rfl (fun ls hl => ?_)
            refine lv_goto (tgt := 11) hx hb dX6_gaps_59 (by decide) ?_
            exact ih11 (k + 1) (v2 + (1 : Int)) (gpM w n o_1 k) (v4 + (1 : Int)) (by omega) (by omega) (by rw [sumI_s]; first | (rw [if_pos (by omega)]; omega) | (rw [if_neg (by omega)]; omega)) (by rw [mxM]; split <;> omega) (by omega) H locs hP hD hS ls (lv_sub hl [4, 5, 2, 1, 0] rfl)
  exact lp11 _ 0 (0 : Int) (0 : Int) (0 : Int) (by omega) (by omega) (by simp [sumI]) (by rfl) (Nat.lt_succ_self _) H locs hP hD hS ls (lv_sub hl [3, 4, 2, 1, 0] rfl)
set_option maxHeartbeats 4000000 in
set_option maxRecDepth 100000 in
theorem c_X6_common (l : Launch) (dC : Nat → ClassId) (dI : Nat → Nat → Nat) (cI cJ cC cO : ClassId) (za : Int) (a : Nat) (ea : za = (a : Int)) (ha : a ≤ 100000) (zb : Int) (b : Nat) (eb : zb = (b : Int)) (hb9 : b ≤ 100000) : Met l yX6_common wsX6_common ({ frames := 0, cells := 0, slots := 0, locals := 0 } : Room) (va_Pc [.int (iI za), .int (iI zb)] (ro_B (dC, dI) vwCl (tyG cI cJ cC cO) ([]))) (ro_Q (fun z => z = ((Nat.gcd a b : Nat) : Int))) 0 0 (fun _ => False) := by
  refine Met.ofW (cc := cX6_common) (maxL := 5) (ret := (some .int)) (by decide) rfl ?_
  intro p e s m args below meth c s₁ B hml hv
  obtain ⟨hav, hP, hK⟩ := hv
  have hx := B.exec
  have hb := B.bytes
  have hr := B.returns
  have hts := atoms_spec (ws := wsX6_common) B.pre
  have hown : s.vm.findClass RX6 = some m.cls := findClass_of_methodNamed B.named
  have hlocks := B.notSynchronized
  have hP : va_P (dC, dI) vwCl [] s.heap := hP
  have hl := lv_entry ([.int (iI za), .int (iI zb)]) (n := 5) (Nat.le_of_ble_eq_true rfl)
  have hent : entryFrame m args 5 = F0 m 0 ((lg_sl ([.int (iI za), .int (iI zb)]) ++ List.replicate (5 - (lg_sl ([.int (iI za), .int (iI zb)])).length) Slot.unset).toArray) [] := by rw [hav]; exact lg_entry_eq ..
  rw [hent]
  generalize (lg_sl ([.int (iI za), .int (iI zb)]) ++ List.replicate (5 - (lg_sl ([.int (iI za), .int (iI zb)])).length) Slot.unset).toArray = ls at hl ⊢
  have hl : lv_has ls 5 [(0, .int (iI za)), (1, .int (iI zb))] := hl
  refine lv_iload_n hx hb dX6_common_0 rfl (lv_at hl 0 rfl) ?_
  refine lv_istore_n (lv' := [(2, .int (iI za)), (0, .int (iI za)), (1, .int (iI zb))]) hx hb dX6_common_1 rfl hl (by decide) rfl (fun ls hl => ?_)
  refine lv_iload_n hx hb dX6_common_2 rfl (lv_at hl 2 rfl) ?_
  refine lv_istore_n (lv' := [(3, .int (iI zb)), (2, .int (iI za)), (0, .int (iI za)), (1, .int (iI zb))]) hx hb dX6_common_3 rfl hl (by decide) rfl (fun ls hl => ?_)
  have lp4 : ∀ (d4 : Nat), ∀ (d : Nat) (e9 : Nat) (v2 v3 : Int) (e2 : v2 = (d : Int)) (e3 : v3 = (e9 : Int)) (hd9 : d ≤ 100000 ∧ e9 ≤ 100000) (hg : Nat.gcd d e9 = Nat.gcd a b), e9 < d4 → ∀ ls : Array Slot, lv_has ls 5 [(0, .int (iI za)), (1, .int (iI zb)), (2, .int (iI v2)), (3, .int (iI v3))] → W p l e ({ frames := 0, cells := 0, slots := 0, locals := 0 } : Room) s m args below meth c s.heap [] 0 0 (MQ below (ro_Q (fun z => z = ((Nat.gcd a b : Nat) : Int))) args s 0 0 (fun _ => False)) (F0 m 4 ls []) := by
    intro d4
    induction d4 with
    | zero =>
      intro d e9 v2 v3 e2 e3 hd9 hg hd4
      exact absurd hd4 (Nat.not_lt_zero _)
    | succ d4 ih4 =>
      intro d e9 v2 v3 e2 e3 hd9 hg hd4 ls hl
      refine lv_iload_n hx hb dX6_common_4 rfl (lv_at hl 3 rfl) ?_
      refine zz_if_eq (tgt := 21) hx hb dX6_common_5 (by decide) (by omega) (fun c_5 => ?_) (fun c_5 => ?_)
      · skip
        refine lv_iload_n hx hb dX6_common_21 rfl (lv_at hl 2 rfl) ?_
        exact W.iret (v := iI v2) hx hb hr (fun t9 ht9 hW9 => ⟨v2, rfl, by (have h9 : e9 = 0 := (by omega)); rw [h9, Nat.gcd_zero_right] at hg; rw [e2, hg], ht9⟩) (fun q hq => by cases hq) dX6_common_22
      · skip
        refine lv_iload_n hx hb dX6_common_8 rfl (lv_at hl 2 rfl) ?_
        refine lv_iload_n hx hb dX6_common_9 rfl (lv_at hl 3 rfl) ?_
        refine zz_irem hx hb dX6_common_10 (by omega) (by omega) (by omega) ?_
        refine lv_istore (lv' := [(4, .int (iI (Int.tmod v2 v3))), (0, .int (iI za)), (1, .int (iI zb)), (2, .int (iI v2)), (3, .int (iI v3))]) hx hb dX6_common_11 hl (by decide) rfl (fun ls hl => ?_)
        refine lv_iload_n hx hb dX6_common_13 rfl (lv_at hl 4 rfl) ?_
        refine lv_istore_n (lv' := [(2, .int (iI v3)), (4, .int (iI (Int.tmod v2 v3))), (0, .int (iI za)), (1, .int (iI zb)), (3, .int (iI v3))]) hx hb dX6_common_14 rfl hl (by decide) rfl (fun ls hl => ?_)
        refine lv_iload hx hb dX6_common_15 (lv_at hl 1 rfl) ?_
        refine lv_istore_n (lv' := [(3, .int (iI (Int.tmod v2 v3))), (2, .int (iI v3)), (4, .int (iI (Int.tmod v2 v3))), (0, .int (iI za)), (1, .int (iI zb))]) hx hb dX6_common_17 rfl hl (by decide) rfl (fun ls hl => ?_)
        refine lv_goto (tgt := 4) hx hb dX6_common_18 (by decide) ?_
        exact ih4 e9 (d % e9) v3 (Int.tmod v2 v3) (by omega) (by rw [e2, e3]; exact tmod_nat d e9) (by (have := Nat.mod_lt d (show 0 < e9 by omega)); omega) (by rw [← hg, Nat.gcd_comm e9, ← Nat.gcd_rec, Nat.gcd_comm]) (by (have := Nat.mod_lt d (show 0 < e9 by omega)); omega) ls (lv_sub hl [3, 4, 1, 0] rfl)
  exact lp4 _ a b za zb (by omega) (by omega) (by omega) (rfl) (Nat.lt_succ_self _) ls (lv_sub hl [2, 3, 1, 0] rfl)
set_option maxHeartbeats 4000000 in
set_option maxRecDepth 100000 in
theorem c_X6_addMoment (l : Launch) (dC : Nat → ClassId) (dI : Nat → Nat → Nat) (cI cJ cC cO : ClassId) (b0 b1 b2 b3 b4 b5 b6 b7 b8 b9 b10 b11 b12 : Nat) (w pa ad be : Nat → Int) (ns ia : Int) (tx : Nat → Int) (tl ta : Int) (od pt tu fa th ss mo : Nat → Int) (zc : Int) (c9 : Nat) (ec : zc = (c9 : Int)) (hc : c9 < 1600) (v : Int) (hv9 : -2147483648 ≤ v ∧ v < 2147483648) (hmo : ∀ j, j < c9 → -2147483648 ≤ mo j ∧ mo j < 2147483648) : Met l yX6_addMoment wsX6_addMoment ({ frames := 0, cells := 0, slots := 0, locals := 0 } : Room) (va_Pc [.ref b0, .int (iI zc), .int (iI v)] (wr_B (dC, dI) vwCl (tyG cI cJ cC cO) (wM cI cC b0 b1 b2 b3 b4 b5 b6 b7 b8 b9 b10 b11 b12 w pa ad be ns ia tx tl ta od pt tu fa th ss mo))) (wr_Q (fun (z : Int) (u : Nat → Int) => (∃ j, j < c9 ∧ mo j = v ∧ u = mo ∧ z = (c9 : Int)) ∨ ((∀ j, j < c9 → ¬ mo j = v) ∧ u = up mo c9 v ∧ z = (c9 : Int) + 1)) (fun u t => va_P (dC, dI) vwCl (wM cI cC b0 b1 b2 b3 b4 b5 b6 b7 b8 b9 b10 b11 b12 w pa ad be ns ia tx tl ta od pt tu fa th ss u) t.heap) (wr_A (wM cI cC b0 b1 b2 b3 b4 b5 b6 b7 b8 b9 b10 b11 b12 w pa ad be ns ia tx tl ta od pt tu fa th ss mo))) 0 0 (wr_A (wM cI cC b0 b1 b2 b3 b4 b5 b6 b7 b8 b9 b10 b11 b12 w pa ad be ns ia tx tl ta od pt tu fa th ss mo)) := by
  refine Met.ofW (cc := cX6_addMoment) (maxL := 4) (ret := (some .int)) (by decide) rfl ?_
  intro p e s m args below meth c s₁ B hml hv
  obtain ⟨hav, hP, hK, hD0⟩ := hv
  have hx := B.exec
  have hb := B.bytes
  have hr := B.returns
  have hts := atoms_spec (ws := wsX6_addMoment) B.pre
  have hown : s.vm.findClass RX6 = some m.cls := findClass_of_methodNamed B.named
  have hlocks := B.notSynchronized
  have hf44 := hts (.fieldLink RX6 44 "RingRodsModel" "moment" "[I") (by decide +kernel)
  have hw6 : ∀ w ∈ u_ws RX6 TX6 16, w ∈ wsX6_addMoment := by decide +kernel
  have hD := va_D.slf hD0
  have hS : va_S (wr_A (wM cI cC b0 b1 b2 b3 b4 b5 b6 b7 b8 b9 b10 b11 b12 w pa ad be ns ia tx tl ta od pt tu fa th ss mo)) s.heap s.heap [] := va_S.rf
  show W p l e ({ frames := 0, cells := 0, slots := 0, locals := 0 } : Room) s m args below meth c s.heap [] 0 0 (MQ below (wr_Q (fun (z : Int) (u : Nat → Int) => (∃ j, j < c9 ∧ mo j = v ∧ u = mo ∧ z = (c9 : Int)) ∨ ((∀ j, j < c9 → ¬ mo j = v) ∧ u = up mo c9 v ∧ z = (c9 : Int) + 1)) (fun u t => va_P (dC, dI) vwCl (wM cI cC b0 b1 b2 b3 b4 b5 b6 b7 b8 b9 b10 b11 b12 w pa ad be ns ia tx tl ta od pt tu fa th ss u) t.heap) (wr_A (wM cI cC b0 b1 b2 b3 b4 b5 b6 b7 b8 b9 b10 b11 b12 w pa ad be ns ia tx tl ta od pt tu fa th ss mo))) args s 0 0 (wr_A (wM cI cC b0 b1 b2 b3 b4 b5 b6 b7 b8 b9 b10 b11 b12 w pa ad be ns ia tx tl ta od pt tu fa th ss mo))) (entryFrame m args 4)
  generalize hAe : wr_A (wM cI cC b0 b1 b2 b3 b4 b5 b6 b7 b8 b9 b10 b11 b12 w pa ad be ns ia tx tl ta od pt tu fa th ss mo) = A at hD hS ⊢
  have hP : va_P (dC, dI) vwCl [(b0, .inr (6, [.ref b1, .ref b2, .ref b3, .ref b4, .int (iI ns), .int (iI ia), .ref b5, .int (iI tl), .int (iI ta), .ref b6, .ref b7, .ref b8, .ref b9, .ref b10, .ref b11, .ref b12])), (b1, .inl (cI, 37, .inl (fun z9 => iI (w z9)))), (b2, .inl (cI, 148, .inl (fun z9 => iI (pa z9)))), (b3, .inl (cI, 37, .inl (fun z9 => iI (ad z9)))), (b4, .inl (cI, 37, .inl (fun z9 => iI (be z9)))), (b5, .inl (cC, 60, .inl (fun z9 => iI (tx z9)))), (b6, .inl (cI, 8, .inl (fun z9 => iI (od z9)))), (b7, .inl (cI, 8, .inl (fun z9 => iI (pt z9)))), (b8, .inl (cI, 8, .inl (fun z9 => iI (tu z9)))), (b9, .inl (cI, 8, .inl (fun z9 => iI (fa z9)))), (b10, .inl (cI, 8, .inl (fun z9 => iI (th z9)))), (b11, .inl (cI, 8, .inl (fun z9 => iI (ss z9)))), (b12, .inl (cI, 1600, .inl (fun z9 => iI (mo z9))))] s.heap := hP
  have hD : va_D A [(b0, .inr (6, [.ref b1, .ref b2, .ref b3, .ref b4, .int (iI ns), .int (iI ia), .ref b5, .int (iI tl), .int (iI ta), .ref b6, .ref b7, .ref b8, .ref b9, .ref b10, .ref b11, .ref b12])), (b1, .inl (cI, 37, .inl (fun z9 => iI (w z9)))), (b2, .inl (cI, 148, .inl (fun z9 => iI (pa z9)))), (b3, .inl (cI, 37, .inl (fun z9 => iI (ad z9)))), (b4, .inl (cI, 37, .inl (fun z9 => iI (be z9)))), (b5, .inl (cC, 60, .inl (fun z9 => iI (tx z9)))), (b6, .inl (cI, 8, .inl (fun z9 => iI (od z9)))), (b7, .inl (cI, 8, .inl (fun z9 => iI (pt z9)))), (b8, .inl (cI, 8, .inl (fun z9 => iI (tu z9)))), (b9, .inl (cI, 8, .inl (fun z9 => iI (fa z9)))), (b10, .inl (cI, 8, .inl (fun z9 => iI (th z9)))), (b11, .inl (cI, 8, .inl (fun z9 => iI (ss z9)))), (b12, .inl (cI, 1600, .inl (fun z9 => iI (mo z9))))] := hD
  have hl := lv_entry ([.ref b0, .int (iI zc), .int (iI v)]) (n := 4) (Nat.le_of_ble_eq_true rfl)
  have hent : entryFrame m args 4 = F0 m 0 ((lg_sl ([.ref b0, .int (iI zc), .int (iI v)]) ++ List.replicate (4 - (lg_sl ([.ref b0, .int (iI zc), .int (iI v)])).length) Slot.unset).toArray) [] := by rw [hav]; exact lg_entry_eq ..
  rw [hent]
  generalize (lg_sl ([.ref b0, .int (iI zc), .int (iI v)]) ++ List.replicate (4 - (lg_sl ([.ref b0, .int (iI zc), .int (iI v)])).length) Slot.unset).toArray = ls at hl ⊢
  have hl : lv_has ls 4 [(0, .ref b0), (1, .int (iI zc)), (2, .int (iI v))] := hl
  refine zz_iconst hx hb dX6_addMoment_0 ?_
  refine lv_istore_n (lv' := [(3, .int (iI (0 : Int))), (0, .ref b0), (1, .int (iI zc)), (2, .int (iI v))]) hx hb dX6_addMoment_1 rfl hl (by decide) rfl (fun ls hl => ?_)
  have lp2 : ∀ (d2 : Nat), ∀ (k : Nat) (v3 : Int) (hk : k ≤ c9) (e3 : v3 = (k : Int)) (hA : ∀ j, j < k → ¬ mo j = v), c9 - k < d2 → ∀ (H : Heap) (locs : List Loc), va_P (dC, dI) vwCl [(b0, .inr (6, [.ref b1, .ref b2, .ref b3, .ref b4, .int (iI ns), .int (iI ia), .ref b5, .int (iI tl), .int (iI ta), .ref b6, .ref b7, .ref b8, .ref b9, .ref b10, .ref b11, .ref b12])), (b1, .inl (cI, 37, .inl (fun z9 => iI (w z9)))), (b2, .inl (cI, 148, .inl (fun z9 => iI (pa z9)))), (b3, .inl (cI, 37, .inl (fun z9 => iI (ad z9)))), (b4, .inl (cI, 37, .inl (fun z9 => iI (be z9)))), (b5, .inl (cC, 60, .inl (fun z9 => iI (tx z9)))), (b6, .inl (cI, 8, .inl (fun z9 => iI (od z9)))), (b7, .inl (cI, 8, .inl (fun z9 => iI (pt z9)))), (b8, .inl (cI, 8, .inl (fun z9 => iI (tu z9)))), (b9, .inl (cI, 8, .inl (fun z9 => iI (fa z9)))), (b10, .inl (cI, 8, .inl (fun z9 => iI (th z9)))), (b11, .inl (cI, 8, .inl (fun z9 => iI (ss z9)))), (b12, .inl (cI, 1600, .inl (fun z9 => iI (mo z9))))] H → va_D A [(b0, .inr (6, [.ref b1, .ref b2, .ref b3, .ref b4, .int (iI ns), .int (iI ia), .ref b5, .int (iI tl), .int (iI ta), .ref b6, .ref b7, .ref b8, .ref b9, .ref b10, .ref b11, .ref b12])), (b1, .inl (cI, 37, .inl (fun z9 => iI (w z9)))), (b2, .inl (cI, 148, .inl (fun z9 => iI (pa z9)))), (b3, .inl (cI, 37, .inl (fun z9 => iI (ad z9)))), (b4, .inl (cI, 37, .inl (fun z9 => iI (be z9)))), (b5, .inl (cC, 60, .inl (fun z9 => iI (tx z9)))), (b6, .inl (cI, 8, .inl (fun z9 => iI (od z9)))), (b7, .inl (cI, 8, .inl (fun z9 => iI (pt z9)))), (b8, .inl (cI, 8, .inl (fun z9 => iI (tu z9)))), (b9, .inl (cI, 8, .inl (fun z9 => iI (fa z9)))), (b10, .inl (cI, 8, .inl (fun z9 => iI (th z9)))), (b11, .inl (cI, 8, .inl (fun z9 => iI (ss z9)))), (b12, .inl (cI, 1600, .inl (fun z9 => iI (mo z9))))] → va_S A s.heap H locs → ∀ ls : Array Slot, lv_has ls 4 [(0, .ref b0), (1, .int (iI zc)), (2, .int (iI v)), (3, .int (iI v3))] → W p l e ({ frames := 0, cells := 0, slots := 0, locals := 0 } : Room) s m args below meth c H locs 0 0 (MQ below (wr_Q (fun (z : Int) (u : Nat → Int) => (∃ j, j < c9 ∧ mo j = v ∧ u = mo ∧ z = (c9 : Int)) ∨ ((∀ j, j < c9 → ¬ mo j = v) ∧ u = up mo c9 v ∧ z = (c9 : Int) + 1)) (fun u t => va_P (dC, dI) vwCl (wM cI cC b0 b1 b2 b3 b4 b5 b6 b7 b8 b9 b10 b11 b12 w pa ad be ns ia tx tl ta od pt tu fa th ss u) t.heap) A) args s 0 0 A) (F0 m 2 ls []) := by
    intro d2
    induction d2 with
    | zero =>
      intro k v3 hk e3 hA hd2
      exact absurd hd2 (Nat.not_lt_zero _)
    | succ d2 ih2 =>
      intro k v3 hk e3 hA hd2 H locs hP hD hS ls hl
      refine lv_iload_n hx hb dX6_addMoment_2 rfl (lv_at hl 3 rfl) ?_
      refine lv_iload_n hx hb dX6_addMoment_3 rfl (lv_at hl 1 rfl) ?_
      refine zz_icmp_ge (tgt := 25) hx hb dX6_addMoment_4 (by decide) (by omega) (by omega) (fun c_4 => ?_) (fun c_4 => ?_)
      · skip
        refine lv_aload_n hx hb dX6_addMoment_25 rfl (lv_at hl 0 rfl) ?_
        refine va_get (D := (dC, dI)) (ci := 6) (v := .ref b12) (C := RX6) (T := TX6) (N := 16) hx hb hts hw6 hown hK hP 0 rfl rfl 15 (by decide) hf44 (fun _ h9 => h9) rfl dX6_addMoment_26 ?_
        refine lv_iload_n hx hb dX6_addMoment_29 rfl (lv_at hl 1 rfl) ?_
        refine lv_iload_n hx hb dX6_addMoment_30 rfl (lv_at hl 2 rfl) ?_
        refine zz_iast hx hb hK hP hD hS 12 0 (f := mo) (x := v) rfl rfl (by decide) c9 (by omega) (by omega) dX6_addMoment_31 (fun H locs hP hD hS => ?_)
        have hP : va_P (dC, dI) vwCl [(b0, .inr (6, [.ref b1, .ref b2, .ref b3, .ref b4, .int (iI ns), .int (iI ia), .ref b5, .int (iI tl), .int (iI ta), .ref b6, .ref b7, .ref b8, .ref b9, .ref b10, .ref b11, .ref b12])), (b1, .inl (cI, 37, .inl (fun z9 => iI (w z9)))), (b2, .inl (cI, 148, .inl (fun z9 => iI (pa z9)))), (b3, .inl (cI, 37, .inl (fun z9 => iI (ad z9)))), (b4, .inl (cI, 37, .inl (fun z9 => iI (be z9)))), (b5, .inl (cC, 60, .inl (fun z9 => iI (tx z9)))), (b6, .inl (cI, 8, .inl (fun z9 => iI (od z9)))), (b7, .inl (cI, 8, .inl (fun z9 => iI (pt z9)))), (b8, .inl (cI, 8, .inl (fun z9 => iI (tu z9)))), (b9, .inl (cI, 8, .inl (fun z9 => iI (fa z9)))), (b10, .inl (cI, 8, .inl (fun z9 => iI (th z9)))), (b11, .inl (cI, 8, .inl (fun z9 => iI (ss z9)))), (b12, .inl (cI, 1600, .inl (fun z9 => iI ((up mo c9 v) z9))))] H := hP
        have hD : va_D A [(b0, .inr (6, [.ref b1, .ref b2, .ref b3, .ref b4, .int (iI ns), .int (iI ia), .ref b5, .int (iI tl), .int (iI ta), .ref b6, .ref b7, .ref b8, .ref b9, .ref b10, .ref b11, .ref b12])), (b1, .inl (cI, 37, .inl (fun z9 => iI (w z9)))), (b2, .inl (cI, 148, .inl (fun z9 => iI (pa z9)))), (b3, .inl (cI, 37, .inl (fun z9 => iI (ad z9)))), (b4, .inl (cI, 37, .inl (fun z9 => iI (be z9)))), (b5, .inl (cC, 60, .inl (fun z9 => iI (tx z9)))), (b6, .inl (cI, 8, .inl (fun z9 => iI (od z9)))), (b7, .inl (cI, 8, .inl (fun z9 => iI (pt z9)))), (b8, .inl (cI, 8, .inl (fun z9 => iI (tu z9)))), (b9, .inl (cI, 8, .inl (fun z9 => iI (fa z9)))), (b10, .inl (cI, 8, .inl (fun z9 => iI (th z9)))), (b11, .inl (cI, 8, .inl (fun z9 => iI (ss z9)))), (b12, .inl (cI, 1600, .inl (fun z9 => iI ((up mo c9 v) z9))))] := hD
        refine lv_iload_n hx hb dX6_addMoment_32 rfl (lv_at hl 1 rfl) ?_
        refine zz_iconst hx hb dX6_addMoment_33 ?_
        refine zz_iadd hx hb dX6_addMoment_34 ?_
        exact W.iret (v := iI (zc + (1 : Int))) hx hb hr (fun t9 ht9 hW9 => ⟨⟨(zc + (1 : Int)), (up mo c9 v), rfl, Or.inr ⟨fun j hj => hA j (by omega), rfl, by omega⟩, by show va_P _ _ _ t9.heap; rw [ht9]; exact hP⟩, hS.F ht9⟩) hS.2.2 dX6_addMoment_35
      · skip
        refine lv_aload_n hx hb dX6_addMoment_7 rfl (lv_at hl 0 rfl) ?_
        refine va_get (D := (dC, dI)) (ci := 6) (v := .ref b12) (C := RX6) (T := TX6) (N := 16) hx hb hts hw6 hown hK hP 0 rfl rfl 15 (by decide) hf44 (fun _ h9 => h9) rfl dX6_addMoment_8 ?_
        refine lv_iload_n hx hb dX6_addMoment_11 rfl (lv_at hl 3 rfl) ?_
        refine zz_iald hx hb hK hP 12 0 (f := mo) rfl rfl (by decide) k (by omega) (by omega) dX6_addMoment_12 ?_
        have bm := hmo k (by omega)
        refine lv_iload_n hx hb dX6_addMoment_13 rfl (lv_at hl 2 rfl) ?_
        refine zz_icmp_ne (tgt := 19) hx hb dX6_addMoment_14 (by decide) (by omega) (by omega) (fun c_14 => ?_) (fun c_14 => ?_)
        · skip
          refine zz_iinc (lv' := [(3, .int (iI (v3 + (1 : Int)))), (0, .ref b0), (1, .int (iI zc)), (2, .int (iI v))]) hx hb dX6_addMoment_19 hl (k := 3) rfl (by decide) rfl (fun ls hl => ?_)
          refine lv_goto (tgt := 2) hx hb dX6_addMoment_22 (by decide) ?_
          exact ih2 (k + 1) (v3 + (1 : Int)) (by omega) (by omega) (fun j hj => by (rcases Nat.lt_succ_iff_lt_or_eq.mp hj with q9 | q9); exact hA j q9; (subst q9; omega)) (by omega) H locs hP hD hS ls (lv_sub hl [1, 2, 3, 0] rfl)
        · skip
          refine lv_iload_n hx hb dX6_addMoment_17 rfl (lv_at hl 1 rfl) ?_
          exact W.iret (v := iI zc) hx hb hr (fun t9 ht9 hW9 => ⟨⟨zc, mo, rfl, Or.inl ⟨k, by omega, by omega, rfl, ec⟩, by show va_P _ _ _ t9.heap; rw [ht9]; exact hP⟩, hS.F ht9⟩) hS.2.2 dX6_addMoment_18
  exact lp2 _ 0 (0 : Int) (by omega) (by omega) (fun j hj => absurd hj (Nat.not_lt_zero j)) (Nat.lt_succ_self _) s.heap [] hP hD hS ls (lv_sub hl [1, 2, 3, 0] rfl)
set_option maxHeartbeats 4000000 in
set_option maxRecDepth 100000 in
theorem c_X6_cover (l : Launch) (dC : Nat → ClassId) (dI : Nat → Nat → Nat) (cI cJ cC cO : ClassId) (b0 b1 b2 b3 b4 b5 b6 b7 b8 b9 b10 b11 b12 : Nat) (w pa ad be : Nat → Int) (ns ia : Int) (tx : Nat → Int) (tn : Nat) (ta : Int) (od pt tu fa th ss mo : Nat → Int) (hns : 0 ≤ ns ∧ ns ≤ 4) (hia : 0 ≤ ia ∧ ia ≤ 1) (hto : TOk tn tx) (n : Nat) (hok : MOk w n) (x : Int) (bx : -2147483648 ≤ x ∧ x < 2147483648) : Met l yX6_cover wsX6_cover ({ frames := 2, cells := 0, slots := 0, locals := 44 } : Room) (va_Pc [.ref b0, .int (iI x)] (ro_B (dC, dI) vwCl (tyG cI cJ cC cO) (wM cI cC b0 b1 b2 b3 b4 b5 b6 b7 b8 b9 b10 b11 b12 w pa ad be ns ia tx ((tn : Nat) : Int) ta od pt tu fa th ss mo))) (ro_Q (fun z => mCover w n x z)) 0 0 (fun _ => False) := by
  refine Met.ofW (cc := cX6_cover) (maxL := 2) (ret := (some .int)) (by decide) rfl ?_
  intro p e s m args below meth c s₁ B hml hv
  obtain ⟨hav, hP, hK⟩ := hv
  have hx := B.exec
  have hb := B.bytes
  have hr := B.returns
  have hts := atoms_spec (ws := wsX6_cover) B.pre
  have hown : s.vm.findClass RX6 = some m.cls := findClass_of_methodNamed B.named
  have hlocks := B.notSynchronized
  have hf7 := hts (.fieldLink RX6 7 "RingRodsModel" "row" "[I") (by decide +kernel)
  have hw6 : ∀ w ∈ u_ws RX6 TX6 16, w ∈ wsX6_cover := by decide +kernel
  have hP : va_P (dC, dI) vwCl [(b0, .inr (6, [.ref b1, .ref b2, .ref b3, .ref b4, .int (iI ns), .int (iI ia), .ref b5, .int (iI ((tn : Nat) : Int)), .int (iI ta), .ref b6, .ref b7, .ref b8, .ref b9, .ref b10, .ref b11, .ref b12])), (b1, .inl (cI, 37, .inl (fun z9 => iI (w z9)))), (b2, .inl (cI, 148, .inl (fun z9 => iI (pa z9)))), (b3, .inl (cI, 37, .inl (fun z9 => iI (ad z9)))), (b4, .inl (cI, 37, .inl (fun z9 => iI (be z9)))), (b5, .inl (cC, 60, .inl (fun z9 => iI (tx z9)))), (b6, .inl (cI, 8, .inl (fun z9 => iI (od z9)))), (b7, .inl (cI, 8, .inl (fun z9 => iI (pt z9)))), (b8, .inl (cI, 8, .inl (fun z9 => iI (tu z9)))), (b9, .inl (cI, 8, .inl (fun z9 => iI (fa z9)))), (b10, .inl (cI, 8, .inl (fun z9 => iI (th z9)))), (b11, .inl (cI, 8, .inl (fun z9 => iI (ss z9)))), (b12, .inl (cI, 1600, .inl (fun z9 => iI (mo z9))))] s.heap := hP
  have hl := lv_entry ([.ref b0, .int (iI x)]) (n := 2) (Nat.le_of_ble_eq_true rfl)
  have hent : entryFrame m args 2 = F0 m 0 ((lg_sl ([.ref b0, .int (iI x)]) ++ List.replicate (2 - (lg_sl ([.ref b0, .int (iI x)])).length) Slot.unset).toArray) [] := by rw [hav]; exact lg_entry_eq ..
  rw [hent]
  generalize (lg_sl ([.ref b0, .int (iI x)]) ++ List.replicate (2 - (lg_sl ([.ref b0, .int (iI x)])).length) Slot.unset).toArray = ls at hl ⊢
  have hl : lv_has ls 2 [(0, .ref b0), (1, .int (iI x))] := hl
  have bd0 := hok.bd
  have bd1 := hok.fr
  refine lv_iload_n hx hb dX6_cover_0 rfl (lv_at hl 1 rfl) ?_
  refine zz_iconst hx hb dX6_cover_1 ?_
  refine lv_aload_n hx hb dX6_cover_2 rfl (lv_at hl 0 rfl) ?_
  refine va_get (D := (dC, dI)) (ci := 6) (v := .ref b1) (C := RX6) (T := TX6) (N := 16) hx hb hts hw6 hown hK hP 0 rfl rfl 0 (by decide) hf7 (fun _ h9 => h9) rfl dX6_cover_3 ?_
  refine zz_iconst hx hb dX6_cover_6 ?_
  refine zz_iald hx hb hK hP 1 0 (f := w) rfl rfl (by decide) 0 (by omega) (by omega) dX6_cover_7 ?_
  refine zz_iconst hx hb dX6_cover_8 ?_
  refine zz_isub hx hb dX6_cover_9 ?_
  refine ro_S (As := [.int (iI x), .int (iI (0 : Int)), .int (iI ((w 0) - (1 : Int)))]) (rest := []) ⟨hx, hb, hml, hown, hts⟩ (c_X6_in l dC dI cI cJ cC cO x (by omega) (0 : Int) (by omega) ((w 0) - (1 : Int)) (by omega)) (cwS 3 hts gX6_cover_X6_in rfl rfl rfl (by decide +kernel) ⟨Nat.le_of_ble_eq_true rfl, Nat.le_of_ble_eq_true rfl⟩) hK hP [] rfl rfl hl.1 rfl (Nat.le_of_ble_eq_true rfl) dX6_cover_10 ⟨Nat.zero_le _, Nat.zero_le _⟩ (fun z_10 hz_10 => ?_)
  refine zz_if_eq (tgt := 24) hx hb dX6_cover_13 (by decide) (by omega) (fun c_13 => ?_) (fun c_13 => ?_)
  · skip
    refine zz_iconst hx hb dX6_cover_24 ?_
    exact W.iret (v := iI (-1 : Int)) hx hb hr (fun t9 ht9 hW9 => ⟨(-1 : Int), rfl, by first | exact Or.inl ⟨by omega, by omega⟩ | exact Or.inr ⟨by omega, hz_18⟩, ht9⟩) (fun q hq => by cases hq) dX6_cover_25
  · skip
    refine lv_aload_n hx hb dX6_cover_16 rfl (lv_at hl 0 rfl) ?_
    refine lv_iload_n hx hb dX6_cover_17 rfl (lv_at hl 1 rfl) ?_
    refine ro_V (As := [.int (iI x)]) (rest := []) ⟨hx, hb, hml, hown, hts⟩ (c_X6_coverer l dC dI cI cJ cC cO b0 b1 b2 b3 b4 b5 b6 b7 b8 b9 b10 b11 b12 w pa ad be ns ia tx ((tn : Nat) : Int) ta od pt tu fa th ss mo n hok x (by omega)) (cwV 1 hts gX6_cover_X6_coverer rfl rfl rfl (by decide +kernel) ⟨Nat.le_of_ble_eq_true rfl, Nat.le_of_ble_eq_true rfl⟩) hK hP [0, 1, 2, 3, 4, 5, 6, 7, 8, 9, 10, 11, 12] rfl 6 0 rfl rfl rfl hl.1 rfl (Nat.le_of_ble_eq_true rfl) dX6_cover_18 ⟨Nat.zero_le _, Nat.zero_le _⟩ (fun z_18 hz_18 => ?_)
    have bz_18 := hz_18.bd
    refine lv_goto (tgt := 25) hx hb dX6_cover_21 (by decide) ?_
    exact W.iret (v := iI z_18) hx hb hr (fun t9 ht9 hW9 => ⟨z_18, rfl, by first | exact Or.inl ⟨by omega, by omega⟩ | exact Or.inr ⟨by omega, hz_18⟩, ht9⟩) (fun q hq => by cases hq) dX6_cover_25
set_option maxHeartbeats 4000000 in
set_option maxRecDepth 100000 in
theorem c_X6_meetings (l : Launch) (dC : Nat → ClassId) (dI : Nat → Nat → Nat) (cI cJ cC cO : ClassId) (b0 b1 b2 b3 b4 b5 b6 b7 b8 b9 b10 b11 b12 : Nat) (w pa ad be : Nat → Int) (ns ia : Int) (tx : Nat → Int) (tn : Nat) (ta : Int) (od pt tu fa th ss mo : Nat → Int) (hns : 0 ≤ ns ∧ ns ≤ 4) (hia : 0 ≤ ia ∧ ia ≤ 1) (hto : TOk tn tx) (n : Nat) (hok : MOk w n) (t : Int) (bt : -2147483648 ≤ t ∧ t < 2147483648) (v : Int) (bv : -2147483648 ≤ v ∧ v < 2147483648) : Met l yX6_meetings wsX6_meetings ({ frames := 7, cells := 0, slots := 0, locals := 167 } : Room) (va_Pc [.ref b0, .int (iI t), .int (iI v)] (wr_B (dC, dI) vwCl (tyG cI cJ cC cO) (wM cI cC b0 b1 b2 b3 b4 b5 b6 b7 b8 b9 b10 b11 b12 w pa ad be ns ia tx ((tn : Nat) : Int) ta od pt tu fa th ss mo))) (wr_Q (fun (z : Int) (u : MC × MX) => u.1 = (w, pa, ad, ns, ia, tx, tn) ∧ mMeetings w n t v z) (fun u t => va_P (dC, dI) vwCl (wMU cI cC b0 b1 b2 b3 b4 b5 b6 b7 b8 b9 b10 b11 b12 u.1 u.2) t.heap) (wr_A (wM cI cC b0 b1 b2 b3 b4 b5 b6 b7 b8 b9 b10 b11 b12 w pa ad be ns ia tx ((tn : Nat) : Int) ta od pt tu fa th ss mo))) 0 0 (wr_A (wM cI cC b0 b1 b2 b3 b4 b5 b6 b7 b8 b9 b10 b11 b12 w pa ad be ns ia tx ((tn : Nat) : Int) ta od pt tu fa th ss mo)) := by
  refine Met.ofW (cc := cX6_meetings) (maxL := 3) (ret := (some .int)) (by decide) rfl ?_
  intro p e s m args below meth c s₁ B hml hv
  obtain ⟨hav, hP, hK, hD0⟩ := hv
  have hx := B.exec
  have hb := B.bytes
  have hr := B.returns
  have hts := atoms_spec (ws := wsX6_meetings) B.pre
  have hown : s.vm.findClass RX6 = some m.cls := findClass_of_methodNamed B.named
  have hlocks := B.notSynchronized
  have hD := va_D.slf hD0
  have hS : va_S (wr_A (wM cI cC b0 b1 b2 b3 b4 b5 b6 b7 b8 b9 b10 b11 b12 w pa ad be ns ia tx ((tn : Nat) : Int) ta od pt tu fa th ss mo)) s.heap s.heap [] := va_S.rf
  show W p l e ({ frames := 7, cells := 0, slots := 0, locals := 167 } : Room) s m args below meth c s.heap [] 0 0 (MQ below (wr_Q (fun (z : Int) (u : MC × MX) => u.1 = (w, pa, ad, ns, ia, tx, tn) ∧ mMeetings w n t v z) (fun u t => va_P (dC, dI) vwCl (wMU cI cC b0 b1 b2 b3 b4 b5 b6 b7 b8 b9 b10 b11 b12 u.1 u.2) t.heap) (wr_A (wM cI cC b0 b1 b2 b3 b4 b5 b6 b7 b8 b9 b10 b11 b12 w pa ad be ns ia tx ((tn : Nat) : Int) ta od pt tu fa th ss mo))) args s 0 0 (wr_A (wM cI cC b0 b1 b2 b3 b4 b5 b6 b7 b8 b9 b10 b11 b12 w pa ad be ns ia tx ((tn : Nat) : Int) ta od pt tu fa th ss mo))) (entryFrame m args 3)
  generalize hAe : wr_A (wM cI cC b0 b1 b2 b3 b4 b5 b6 b7 b8 b9 b10 b11 b12 w pa ad be ns ia tx ((tn : Nat) : Int) ta od pt tu fa th ss mo) = A at hD hS ⊢
  have hP : va_P (dC, dI) vwCl [(b0, .inr (6, [.ref b1, .ref b2, .ref b3, .ref b4, .int (iI ns), .int (iI ia), .ref b5, .int (iI ((tn : Nat) : Int)), .int (iI ta), .ref b6, .ref b7, .ref b8, .ref b9, .ref b10, .ref b11, .ref b12])), (b1, .inl (cI, 37, .inl (fun z9 => iI (w z9)))), (b2, .inl (cI, 148, .inl (fun z9 => iI (pa z9)))), (b3, .inl (cI, 37, .inl (fun z9 => iI (ad z9)))), (b4, .inl (cI, 37, .inl (fun z9 => iI (be z9)))), (b5, .inl (cC, 60, .inl (fun z9 => iI (tx z9)))), (b6, .inl (cI, 8, .inl (fun z9 => iI (od z9)))), (b7, .inl (cI, 8, .inl (fun z9 => iI (pt z9)))), (b8, .inl (cI, 8, .inl (fun z9 => iI (tu z9)))), (b9, .inl (cI, 8, .inl (fun z9 => iI (fa z9)))), (b10, .inl (cI, 8, .inl (fun z9 => iI (th z9)))), (b11, .inl (cI, 8, .inl (fun z9 => iI (ss z9)))), (b12, .inl (cI, 1600, .inl (fun z9 => iI (mo z9))))] s.heap := hP
  have hD : va_D A [(b0, .inr (6, [.ref b1, .ref b2, .ref b3, .ref b4, .int (iI ns), .int (iI ia), .ref b5, .int (iI ((tn : Nat) : Int)), .int (iI ta), .ref b6, .ref b7, .ref b8, .ref b9, .ref b10, .ref b11, .ref b12])), (b1, .inl (cI, 37, .inl (fun z9 => iI (w z9)))), (b2, .inl (cI, 148, .inl (fun z9 => iI (pa z9)))), (b3, .inl (cI, 37, .inl (fun z9 => iI (ad z9)))), (b4, .inl (cI, 37, .inl (fun z9 => iI (be z9)))), (b5, .inl (cC, 60, .inl (fun z9 => iI (tx z9)))), (b6, .inl (cI, 8, .inl (fun z9 => iI (od z9)))), (b7, .inl (cI, 8, .inl (fun z9 => iI (pt z9)))), (b8, .inl (cI, 8, .inl (fun z9 => iI (tu z9)))), (b9, .inl (cI, 8, .inl (fun z9 => iI (fa z9)))), (b10, .inl (cI, 8, .inl (fun z9 => iI (th z9)))), (b11, .inl (cI, 8, .inl (fun z9 => iI (ss z9)))), (b12, .inl (cI, 1600, .inl (fun z9 => iI (mo z9))))] := hD
  have hl := lv_entry ([.ref b0, .int (iI t), .int (iI v)]) (n := 3) (Nat.le_of_ble_eq_true rfl)
  have hent : entryFrame m args 3 = F0 m 0 ((lg_sl ([.ref b0, .int (iI t), .int (iI v)]) ++ List.replicate (3 - (lg_sl ([.ref b0, .int (iI t), .int (iI v)])).length) Slot.unset).toArray) [] := by rw [hav]; exact lg_entry_eq ..
  rw [hent]
  generalize (lg_sl ([.ref b0, .int (iI t), .int (iI v)]) ++ List.replicate (3 - (lg_sl ([.ref b0, .int (iI t), .int (iI v)])).length) Slot.unset).toArray = ls at hl ⊢
  have hl : lv_has ls 3 [(0, .ref b0), (1, .int (iI t)), (2, .int (iI v))] := hl
  have bt0 := hto.1
  have bd0 := hok.bd
  have bd1 := hok.fr
  refine lv_iload_n hx hb dX6_meetings_0 rfl (lv_at hl 1 rfl) ?_
  refine zz_iconst hx hb dX6_meetings_1 ?_
  refine zz_bipush hx hb dX6_meetings_2 (by decide +kernel) ?_
  refine ro_S (As := [.int (iI t), .int (iI (1 : Int)), .int (iI (100 : Int))]) (rest := []) ⟨hx, hb, hml, hown, hts⟩ (c_X6_in l dC dI cI cJ cC cO t (by omega) (1 : Int) (by omega) (100 : Int) (by omega)) (cwS 3 hts gX6_meetings_X6_in rfl rfl rfl (by decide +kernel) ⟨Nat.le_of_ble_eq_true rfl, Nat.le_of_ble_eq_true rfl⟩) hK hP [] rfl rfl hl.1 rfl (Nat.le_of_ble_eq_true rfl) dX6_meetings_4 ⟨Nat.zero_le _, Nat.zero_le _⟩ (fun z_4 hz_4 => ?_)
  refine zz_if_eq (tgt := 37) hx hb dX6_meetings_7 (by decide) (by omega) (fun c_7 => ?_) (fun c_7 => ?_)
  · skip
    refine zz_bipush hx hb dX6_meetings_37 (by decide +kernel) ?_
    exact W.iret (v := iI (-2 : Int)) hx hb hr (fun t9 ht9 hW9 => ⟨⟨(-2 : Int), ((w, pa, ad, ns, ia, tx, tn), ((be, ta), od, pt, tu, fa, th, ss, mo)), rfl, by first | exact ⟨rfl, Or.inl ⟨by omega, by omega⟩⟩ | exact ⟨rfl, Or.inr (Or.inl ⟨by omega, by omega, by omega⟩)⟩ | exact ⟨rfl, Or.inr (Or.inr (Or.inl ⟨by omega, by omega, (by (obtain ⟨o9, l9, e9⟩ := hz_31); exact ⟨o9, _, _, l9, e9⟩)⟩))⟩ | exact ⟨rfl, Or.inr (Or.inr (Or.inr ⟨by omega, by omega, (by (obtain ⟨o9, l9, e9⟩ := hz_31); exact ⟨o9, _, _, l9, e9⟩)⟩))⟩, by show va_P _ _ _ t9.heap; rw [ht9]; exact hP⟩, hS.F ht9⟩) hS.2.2 dX6_meetings_39
  · skip
    refine lv_iload_n hx hb dX6_meetings_10 rfl (lv_at hl 2 rfl) ?_
    refine zz_iconst hx hb dX6_meetings_11 ?_
    refine zz_iconst hx hb dX6_meetings_12 ?_
    refine ro_S (As := [.int (iI v), .int (iI (0 : Int)), .int (iI (1 : Int))]) (rest := []) ⟨hx, hb, hml, hown, hts⟩ (c_X6_in l dC dI cI cJ cC cO v (by omega) (0 : Int) (by omega) (1 : Int) (by omega)) (cwS 3 hts gX6_meetings_X6_in rfl rfl rfl (by decide +kernel) ⟨Nat.le_of_ble_eq_true rfl, Nat.le_of_ble_eq_true rfl⟩) hK hP [] rfl rfl hl.1 rfl (Nat.le_of_ble_eq_true rfl) dX6_meetings_13 ⟨Nat.zero_le _, Nat.zero_le _⟩ (fun z_13 hz_13 => ?_)
    refine zz_if_eq (tgt := 37) hx hb dX6_meetings_16 (by decide) (by omega) (fun c_16 => ?_) (fun c_16 => ?_)
    · skip
      refine zz_bipush hx hb dX6_meetings_37 (by decide +kernel) ?_
      exact W.iret (v := iI (-2 : Int)) hx hb hr (fun t9 ht9 hW9 => ⟨⟨(-2 : Int), ((w, pa, ad, ns, ia, tx, tn), ((be, ta), od, pt, tu, fa, th, ss, mo)), rfl, by first | exact ⟨rfl, Or.inl ⟨by omega, by omega⟩⟩ | exact ⟨rfl, Or.inr (Or.inl ⟨by omega, by omega, by omega⟩)⟩ | exact ⟨rfl, Or.inr (Or.inr (Or.inl ⟨by omega, by omega, (by (obtain ⟨o9, l9, e9⟩ := hz_31); exact ⟨o9, _, _, l9, e9⟩)⟩))⟩ | exact ⟨rfl, Or.inr (Or.inr (Or.inr ⟨by omega, by omega, (by (obtain ⟨o9, l9, e9⟩ := hz_31); exact ⟨o9, _, _, l9, e9⟩)⟩))⟩, by show va_P _ _ _ t9.heap; rw [ht9]; exact hP⟩, hS.F ht9⟩) hS.2.2 dX6_meetings_39
    · skip
      refine lv_aload_n hx hb dX6_meetings_19 rfl (lv_at hl 0 rfl) ?_
      refine lv_iload_n hx hb dX6_meetings_20 rfl (lv_at hl 1 rfl) ?_
      refine lv_iload_n hx hb dX6_meetings_21 rfl (lv_at hl 2 rfl) ?_
      refine zz_iconst hx hb dX6_meetings_22 ?_
      refine zz_icmp_ne (tgt := 30) hx hb dX6_meetings_23 (by decide) (by omega) (by omega) (fun c_23 => ?_) (fun c_23 => ?_)
      · skip
        refine zz_iconst hx hb dX6_meetings_30 ?_
        refine wr_V (As := [.int (iI t), .int (iI (0 : Int))]) (rest := []) ⟨hx, hb, hml, hown, hts⟩ (c_X6_meet l dC dI cI cJ cC cO b0 b1 b2 b3 b4 b5 b6 b7 b8 b9 b10 b11 b12 w pa ad be ns ia tx ((tn : Nat) : Int) ta od pt tu fa th ss mo n hok t (by omega) (0 : Int) false (by rfl)) (cwV 2 hts gX6_meetings_X6_meet rfl rfl rfl (by decide +kernel) ⟨Nat.le_of_ble_eq_true rfl, Nat.le_of_ble_eq_true rfl⟩) hK hP hD hS [0, 1, 2, 3, 4, 5, 6, 7, 8, 9, 10, 11, 12] rfl (by decide) 6 0 rfl rfl (fun u_31 => [(b0, .inr (6, [.ref b1, .ref b2, .ref b3, .ref b4, .int (iI ns), .int (iI ia), .ref b5, .int (iI ((tn : Nat) : Int)), .int (iI ta), .ref b6, .ref b7, .ref b8, .ref b9, .ref b10, .ref b11, .ref b12])), (b1, .inl (cI, 37, .inl (fun z9 => iI (w z9)))), (b2, .inl (cI, 148, .inl (fun z9 => iI (pa z9)))), (b3, .inl (cI, 37, .inl (fun z9 => iI (ad z9)))), (b4, .inl (cI, 37, .inl (fun z9 => iI (be z9)))), (b5, .inl (cC, 60, .inl (fun z9 => iI (tx z9)))), (b6, .inl (cI, 8, .inl (fun z9 => iI (u_31.1 z9)))), (b7, .inl (cI, 8, .inl (fun z9 => iI (u_31.2 z9)))), (b8, .inl (cI, 8, .inl (fun z9 => iI (tu z9)))), (b9, .inl (cI, 8, .inl (fun z9 => iI (fa z9)))), (b10, .inl (cI, 8, .inl (fun z9 => iI (th z9)))), (b11, .inl (cI, 8, .inl (fun z9 => iI (ss z9)))), (b12, .inl (cI, 1600, .inl (fun z9 => iI (mo z9))))]) [.inr 0, .inr 1, .inr 2, .inr 3, .inr 4, .inr 5, .inr 6, .inr 7, .inr 8, .inr 9, .inr 10, .inr 11, .inr 12] (fun _ => rfl) (fun _ => rfl) rfl rfl hl.1 rfl (Nat.le_of_ble_eq_true rfl) dX6_meetings_31 ⟨Nat.zero_le _, Nat.zero_le _⟩ (fun z_31 u_31 H locs hz_31 hP hD hS => ?_)
        have hP : va_P (dC, dI) vwCl [(b0, .inr (6, [.ref b1, .ref b2, .ref b3, .ref b4, .int (iI ns), .int (iI ia), .ref b5, .int (iI ((tn : Nat) : Int)), .int (iI ta), .ref b6, .ref b7, .ref b8, .ref b9, .ref b10, .ref b11, .ref b12])), (b1, .inl (cI, 37, .inl (fun z9 => iI (w z9)))), (b2, .inl (cI, 148, .inl (fun z9 => iI (pa z9)))), (b3, .inl (cI, 37, .inl (fun z9 => iI (ad z9)))), (b4, .inl (cI, 37, .inl (fun z9 => iI (be z9)))), (b5, .inl (cC, 60, .inl (fun z9 => iI (tx z9)))), (b6, .inl (cI, 8, .inl (fun z9 => iI (u_31.1 z9)))), (b7, .inl (cI, 8, .inl (fun z9 => iI (u_31.2 z9)))), (b8, .inl (cI, 8, .inl (fun z9 => iI (tu z9)))), (b9, .inl (cI, 8, .inl (fun z9 => iI (fa z9)))), (b10, .inl (cI, 8, .inl (fun z9 => iI (th z9)))), (b11, .inl (cI, 8, .inl (fun z9 => iI (ss z9)))), (b12, .inl (cI, 1600, .inl (fun z9 => iI (mo z9))))] H := hP
        have hD : va_D A [(b0, .inr (6, [.ref b1, .ref b2, .ref b3, .ref b4, .int (iI ns), .int (iI ia), .ref b5, .int (iI ((tn : Nat) : Int)), .int (iI ta), .ref b6, .ref b7, .ref b8, .ref b9, .ref b10, .ref b11, .ref b12])), (b1, .inl (cI, 37, .inl (fun z9 => iI (w z9)))), (b2, .inl (cI, 148, .inl (fun z9 => iI (pa z9)))), (b3, .inl (cI, 37, .inl (fun z9 => iI (ad z9)))), (b4, .inl (cI, 37, .inl (fun z9 => iI (be z9)))), (b5, .inl (cC, 60, .inl (fun z9 => iI (tx z9)))), (b6, .inl (cI, 8, .inl (fun z9 => iI (u_31.1 z9)))), (b7, .inl (cI, 8, .inl (fun z9 => iI (u_31.2 z9)))), (b8, .inl (cI, 8, .inl (fun z9 => iI (tu z9)))), (b9, .inl (cI, 8, .inl (fun z9 => iI (fa z9)))), (b10, .inl (cI, 8, .inl (fun z9 => iI (th z9)))), (b11, .inl (cI, 8, .inl (fun z9 => iI (ss z9)))), (b12, .inl (cI, 1600, .inl (fun z9 => iI (mo z9))))] := hD
        refine lv_goto (tgt := 39) hx hb dX6_meetings_34 (by decide) ?_
        exact W.iret (v := iI z_31) hx hb hr (fun t9 ht9 hW9 => ⟨⟨z_31, ((w, pa, ad, ns, ia, tx, tn), ((be, ta), u_31.1, u_31.2, tu, fa, th, ss, mo)), rfl, by first | exact ⟨rfl, Or.inl ⟨by omega, by omega⟩⟩ | exact ⟨rfl, Or.inr (Or.inl ⟨by omega, by omega, by omega⟩)⟩ | exact ⟨rfl, Or.inr (Or.inr (Or.inl ⟨by omega, by omega, (by (obtain ⟨o9, l9, e9⟩ := hz_31); exact ⟨o9, _, _, l9, e9⟩)⟩))⟩ | exact ⟨rfl, Or.inr (Or.inr (Or.inr ⟨by omega, by omega, (by (obtain ⟨o9, l9, e9⟩ := hz_31); exact ⟨o9, _, _, l9, e9⟩)⟩))⟩, by show va_P _ _ _ t9.heap; rw [ht9]; exact hP⟩, hS.F ht9⟩) hS.2.2 dX6_meetings_39
      · skip
        refine zz_iconst hx hb dX6_meetings_26 ?_
        refine lv_goto (tgt := 31) hx hb dX6_meetings_27 (by decide) ?_
        refine wr_V (As := [.int (iI t), .int (iI (1 : Int))]) (rest := []) ⟨hx, hb, hml, hown, hts⟩ (c_X6_meet l dC dI cI cJ cC cO b0 b1 b2 b3 b4 b5 b6 b7 b8 b9 b10 b11 b12 w pa ad be ns ia tx ((tn : Nat) : Int) ta od pt tu fa th ss mo n hok t (by omega) (1 : Int) true (by rfl)) (cwV 2 hts gX6_meetings_X6_meet rfl rfl rfl (by decide +kernel) ⟨Nat.le_of_ble_eq_true rfl, Nat.le_of_ble_eq_true rfl⟩) hK hP hD hS [0, 1, 2, 3, 4, 5, 6, 7, 8, 9, 10, 11, 12] rfl (by decide) 6 0 rfl rfl (fun u_31 => [(b0, .inr (6, [.ref b1, .ref b2, .ref b3, .ref b4, .int (iI ns), .int (iI ia), .ref b5, .int (iI ((tn : Nat) : Int)), .int (iI ta), .ref b6, .ref b7, .ref b8, .ref b9, .ref b10, .ref b11, .ref b12])), (b1, .inl (cI, 37, .inl (fun z9 => iI (w z9)))), (b2, .inl (cI, 148, .inl (fun z9 => iI (pa z9)))), (b3, .inl (cI, 37, .inl (fun z9 => iI (ad z9)))), (b4, .inl (cI, 37, .inl (fun z9 => iI (be z9)))), (b5, .inl (cC, 60, .inl (fun z9 => iI (tx z9)))), (b6, .inl (cI, 8, .inl (fun z9 => iI (u_31.1 z9)))), (b7, .inl (cI, 8, .inl (fun z9 => iI (u_31.2 z9)))), (b8, .inl (cI, 8, .inl (fun z9 => iI (tu z9)))), (b9, .inl (cI, 8, .inl (fun z9 => iI (fa z9)))), (b10, .inl (cI, 8, .inl (fun z9 => iI (th z9)))), (b11, .inl (cI, 8, .inl (fun z9 => iI (ss z9)))), (b12, .inl (cI, 1600, .inl (fun z9 => iI (mo z9))))]) [.inr 0, .inr 1, .inr 2, .inr 3, .inr 4, .inr 5, .inr 6, .inr 7, .inr 8, .inr 9, .inr 10, .inr 11, .inr 12] (fun _ => rfl) (fun _ => rfl) rfl rfl hl.1 rfl (Nat.le_of_ble_eq_true rfl) dX6_meetings_31 ⟨Nat.zero_le _, Nat.zero_le _⟩ (fun z_31 u_31 H locs hz_31 hP hD hS => ?_)
        have hP : va_P (dC, dI) vwCl [(b0, .inr (6, [.ref b1, .ref b2, .ref b3, .ref b4, .int (iI ns), .int (iI ia), .ref b5, .int (iI ((tn : Nat) : Int)), .int (iI ta), .ref b6, .ref b7, .ref b8, .ref b9, .ref b10, .ref b11, .ref b12])), (b1, .inl (cI, 37, .inl (fun z9 => iI (w z9)))), (b2, .inl (cI, 148, .inl (fun z9 => iI (pa z9)))), (b3, .inl (cI, 37, .inl (fun z9 => iI (ad z9)))), (b4, .inl (cI, 37, .inl (fun z9 => iI (be z9)))), (b5, .inl (cC, 60, .inl (fun z9 => iI (tx z9)))), (b6, .inl (cI, 8, .inl (fun z9 => iI (u_31.1 z9)))), (b7, .inl (cI, 8, .inl (fun z9 => iI (u_31.2 z9)))), (b8, .inl (cI, 8, .inl (fun z9 => iI (tu z9)))), (b9, .inl (cI, 8, .inl (fun z9 => iI (fa z9)))), (b10, .inl (cI, 8, .inl (fun z9 => iI (th z9)))), (b11, .inl (cI, 8, .inl (fun z9 => iI (ss z9)))), (b12, .inl (cI, 1600, .inl (fun z9 => iI (mo z9))))] H := hP
        have hD : va_D A [(b0, .inr (6, [.ref b1, .ref b2, .ref b3, .ref b4, .int (iI ns), .int (iI ia), .ref b5, .int (iI ((tn : Nat) : Int)), .int (iI ta), .ref b6, .ref b7, .ref b8, .ref b9, .ref b10, .ref b11, .ref b12])), (b1, .inl (cI, 37, .inl (fun z9 => iI (w z9)))), (b2, .inl (cI, 148, .inl (fun z9 => iI (pa z9)))), (b3, .inl (cI, 37, .inl (fun z9 => iI (ad z9)))), (b4, .inl (cI, 37, .inl (fun z9 => iI (be z9)))), (b5, .inl (cC, 60, .inl (fun z9 => iI (tx z9)))), (b6, .inl (cI, 8, .inl (fun z9 => iI (u_31.1 z9)))), (b7, .inl (cI, 8, .inl (fun z9 => iI (u_31.2 z9)))), (b8, .inl (cI, 8, .inl (fun z9 => iI (tu z9)))), (b9, .inl (cI, 8, .inl (fun z9 => iI (fa z9)))), (b10, .inl (cI, 8, .inl (fun z9 => iI (th z9)))), (b11, .inl (cI, 8, .inl (fun z9 => iI (ss z9)))), (b12, .inl (cI, 1600, .inl (fun z9 => iI (mo z9))))] := hD
        refine lv_goto (tgt := 39) hx hb dX6_meetings_34 (by decide) ?_
        exact W.iret (v := iI z_31) hx hb hr (fun t9 ht9 hW9 => ⟨⟨z_31, ((w, pa, ad, ns, ia, tx, tn), ((be, ta), u_31.1, u_31.2, tu, fa, th, ss, mo)), rfl, by first | exact ⟨rfl, Or.inl ⟨by omega, by omega⟩⟩ | exact ⟨rfl, Or.inr (Or.inl ⟨by omega, by omega, by omega⟩)⟩ | exact ⟨rfl, Or.inr (Or.inr (Or.inl ⟨by omega, by omega, (by (obtain ⟨o9, l9, e9⟩ := hz_31); exact ⟨o9, _, _, l9, e9⟩)⟩))⟩ | exact ⟨rfl, Or.inr (Or.inr (Or.inr ⟨by omega, by omega, (by (obtain ⟨o9, l9, e9⟩ := hz_31); exact ⟨o9, _, _, l9, e9⟩)⟩))⟩, by show va_P _ _ _ t9.heap; rw [ht9]; exact hP⟩, hS.F ht9⟩) hS.2.2 dX6_meetings_39
set_option maxHeartbeats 4000000 in
set_option maxRecDepth 100000 in
theorem c_X6_rod (l : Launch) (dC : Nat → ClassId) (dI : Nat → Nat → Nat) (cI cJ cC cO : ClassId) (b0 b1 b2 b3 b4 b5 b6 b7 b8 b9 b10 b11 b12 : Nat) (w pa ad be : Nat → Int) (ns ia : Int) (tx : Nat → Int) (tn : Nat) (ta : Int) (od pt tu fa th ss mo : Nat → Int) (hns : 0 ≤ ns ∧ ns ≤ 4) (hia : 0 ≤ ia ∧ ia ≤ 1) (hto : TOk tn tx) (n : Nat) (hok : MOk w n) (x : Int) (bx : -2147483648 ≤ x ∧ x < 2147483648) (v : Int) (bv : -2147483648 ≤ v ∧ v < 2147483648) (hgp : GpP w n) : Met l yX6_rod wsX6_rod ({ frames := 5, cells := 0, slots := 0, locals := 113 } : Room) (va_Pc [.ref b0, .int (iI x), .int (iI v)] (wr_B (dC, dI) vwCl (tyG cI cJ cC cO) (wM cI cC b0 b1 b2 b3 b4 b5 b6 b7 b8 b9 b10 b11 b12 w pa ad be ns ia tx ((tn : Nat) : Int) ta od pt tu fa th ss mo))) (wr_Q (fun (z : Int) (u : MC × MX) => u.1 = (w, pa, ad, ns, ia, tx, tn) ∧ mRod w n x v z) (fun u t => va_P (dC, dI) vwCl (wMU cI cC b0 b1 b2 b3 b4 b5 b6 b7 b8 b9 b10 b11 b12 u.1 u.2) t.heap) (wr_A (wM cI cC b0 b1 b2 b3 b4 b5 b6 b7 b8 b9 b10 b11 b12 w pa ad be ns ia tx ((tn : Nat) : Int) ta od pt tu fa th ss mo))) 0 0 (wr_A (wM cI cC b0 b1 b2 b3 b4 b5 b6 b7 b8 b9 b10 b11 b12 w pa ad be ns ia tx ((tn : Nat) : Int) ta od pt tu fa th ss mo)) := by
  refine Met.ofW (cc := cX6_rod) (maxL := 4) (ret := (some .int)) (by decide) rfl ?_
  intro p e s m args below meth c s₁ B hml hv
  obtain ⟨hav, hP, hK, hD0⟩ := hv
  have hx := B.exec
  have hb := B.bytes
  have hr := B.returns
  have hts := atoms_spec (ws := wsX6_rod) B.pre
  have hown : s.vm.findClass RX6 = some m.cls := findClass_of_methodNamed B.named
  have hlocks := B.notSynchronized
  have hf7 := hts (.fieldLink RX6 7 "RingRodsModel" "row" "[I") (by decide +kernel)
  have hf26 := hts (.fieldLink RX6 26 "RingRodsModel" "order" "[I") (by decide +kernel)
  have hw6 : ∀ w ∈ u_ws RX6 TX6 16, w ∈ wsX6_rod := by decide +kernel
  have hD := va_D.slf hD0
  have hS : va_S (wr_A (wM cI cC b0 b1 b2 b3 b4 b5 b6 b7 b8 b9 b10 b11 b12 w pa ad be ns ia tx ((tn : Nat) : Int) ta od pt tu fa th ss mo)) s.heap s.heap [] := va_S.rf
  show W p l e ({ frames := 5, cells := 0, slots := 0, locals := 113 } : Room) s m args below meth c s.heap [] 0 0 (MQ below (wr_Q (fun (z : Int) (u : MC × MX) => u.1 = (w, pa, ad, ns, ia, tx, tn) ∧ mRod w n x v z) (fun u t => va_P (dC, dI) vwCl (wMU cI cC b0 b1 b2 b3 b4 b5 b6 b7 b8 b9 b10 b11 b12 u.1 u.2) t.heap) (wr_A (wM cI cC b0 b1 b2 b3 b4 b5 b6 b7 b8 b9 b10 b11 b12 w pa ad be ns ia tx ((tn : Nat) : Int) ta od pt tu fa th ss mo))) args s 0 0 (wr_A (wM cI cC b0 b1 b2 b3 b4 b5 b6 b7 b8 b9 b10 b11 b12 w pa ad be ns ia tx ((tn : Nat) : Int) ta od pt tu fa th ss mo))) (entryFrame m args 4)
  generalize hAe : wr_A (wM cI cC b0 b1 b2 b3 b4 b5 b6 b7 b8 b9 b10 b11 b12 w pa ad be ns ia tx ((tn : Nat) : Int) ta od pt tu fa th ss mo) = A at hD hS ⊢
  have hP : va_P (dC, dI) vwCl [(b0, .inr (6, [.ref b1, .ref b2, .ref b3, .ref b4, .int (iI ns), .int (iI ia), .ref b5, .int (iI ((tn : Nat) : Int)), .int (iI ta), .ref b6, .ref b7, .ref b8, .ref b9, .ref b10, .ref b11, .ref b12])), (b1, .inl (cI, 37, .inl (fun z9 => iI (w z9)))), (b2, .inl (cI, 148, .inl (fun z9 => iI (pa z9)))), (b3, .inl (cI, 37, .inl (fun z9 => iI (ad z9)))), (b4, .inl (cI, 37, .inl (fun z9 => iI (be z9)))), (b5, .inl (cC, 60, .inl (fun z9 => iI (tx z9)))), (b6, .inl (cI, 8, .inl (fun z9 => iI (od z9)))), (b7, .inl (cI, 8, .inl (fun z9 => iI (pt z9)))), (b8, .inl (cI, 8, .inl (fun z9 => iI (tu z9)))), (b9, .inl (cI, 8, .inl (fun z9 => iI (fa z9)))), (b10, .inl (cI, 8, .inl (fun z9 => iI (th z9)))), (b11, .inl (cI, 8, .inl (fun z9 => iI (ss z9)))), (b12, .inl (cI, 1600, .inl (fun z9 => iI (mo z9))))] s.heap := hP
  have hD : va_D A [(b0, .inr (6, [.ref b1, .ref b2, .ref b3, .ref b4, .int (iI ns), .int (iI ia), .ref b5, .int (iI ((tn : Nat) : Int)), .int (iI ta), .ref b6, .ref b7, .ref b8, .ref b9, .ref b10, .ref b11, .ref b12])), (b1, .inl (cI, 37, .inl (fun z9 => iI (w z9)))), (b2, .inl (cI, 148, .inl (fun z9 => iI (pa z9)))), (b3, .inl (cI, 37, .inl (fun z9 => iI (ad z9)))), (b4, .inl (cI, 37, .inl (fun z9 => iI (be z9)))), (b5, .inl (cC, 60, .inl (fun z9 => iI (tx z9)))), (b6, .inl (cI, 8, .inl (fun z9 => iI (od z9)))), (b7, .inl (cI, 8, .inl (fun z9 => iI (pt z9)))), (b8, .inl (cI, 8, .inl (fun z9 => iI (tu z9)))), (b9, .inl (cI, 8, .inl (fun z9 => iI (fa z9)))), (b10, .inl (cI, 8, .inl (fun z9 => iI (th z9)))), (b11, .inl (cI, 8, .inl (fun z9 => iI (ss z9)))), (b12, .inl (cI, 1600, .inl (fun z9 => iI (mo z9))))] := hD
  have hl := lv_entry ([.ref b0, .int (iI x), .int (iI v)]) (n := 4) (Nat.le_of_ble_eq_true rfl)
  have hent : entryFrame m args 4 = F0 m 0 ((lg_sl ([.ref b0, .int (iI x), .int (iI v)]) ++ List.replicate (4 - (lg_sl ([.ref b0, .int (iI x), .int (iI v)])).length) Slot.unset).toArray) [] := by rw [hav]; exact lg_entry_eq ..
  rw [hent]
  generalize (lg_sl ([.ref b0, .int (iI x), .int (iI v)]) ++ List.replicate (4 - (lg_sl ([.ref b0, .int (iI x), .int (iI v)])).length) Slot.unset).toArray = ls at hl ⊢
  have hl : lv_has ls 4 [(0, .ref b0), (1, .int (iI x)), (2, .int (iI v))] := hl
  have bt0 := hto.1
  have bd0 := hok.bd
  have bd1 := hok.fr
  refine lv_aload_n hx hb dX6_rod_0 rfl (lv_at hl 0 rfl) ?_
  refine lv_iload_n hx hb dX6_rod_1 rfl (lv_at hl 1 rfl) ?_
  refine ro_V (As := [.int (iI x)]) (rest := []) ⟨hx, hb, hml, hown, hts⟩ (c_X6_noRod l dC dI cI cJ cC cO b0 b1 b2 b3 b4 b5 b6 b7 b8 b9 b10 b11 b12 w pa ad be ns ia tx ((tn : Nat) : Int) ta od pt tu fa th ss mo n hok x (by omega)) (cwV 1 hts gX6_rod_X6_noRod rfl rfl rfl (by decide +kernel) ⟨Nat.le_of_ble_eq_true rfl, Nat.le_of_ble_eq_true rfl⟩) hK hP [0, 1, 2, 3, 4, 5, 6, 7, 8, 9, 10, 11, 12] rfl 6 0 rfl rfl rfl hl.1 rfl (Nat.le_of_ble_eq_true rfl) dX6_rod_2 ⟨Nat.zero_le _, Nat.zero_le _⟩ (fun z_2 hz_2 => ?_)
  refine zz_if_eq (tgt := 10) hx hb dX6_rod_5 (by decide) (by omega) (fun c_5 => ?_) (fun c_5 => ?_)
  · skip
    obtain ⟨g, eg⟩ : ∃ g : Nat, x = (g : Int) := ⟨x.toNat, by omega⟩
    have hg9 : g < n := by omega
    refine lv_aload_n hx hb dX6_rod_10 rfl (lv_at hl 0 rfl) ?_
    refine lv_iload_n hx hb dX6_rod_11 rfl (lv_at hl 1 rfl) ?_
    refine wr_V (As := [.int (iI x)]) (rest := []) ⟨hx, hb, hml, hown, hts⟩ (c_X6_rank l dC dI cI cJ cC cO b0 b1 b2 b3 b4 b5 b6 b7 b8 b9 b10 b11 b12 w pa ad be ns ia tx ((tn : Nat) : Int) ta od pt tu fa th ss mo n hok x g (by omega) (by omega)) (cwV 1 hts gX6_rod_X6_rank rfl rfl rfl (by decide +kernel) ⟨Nat.le_of_ble_eq_true rfl, Nat.le_of_ble_eq_true rfl⟩) hK hP hD hS [0, 1, 2, 3, 4, 5, 6, 7, 8, 9, 10, 11, 12] rfl (by decide) 6 0 rfl rfl (fun u_12 => [(b0, .inr (6, [.ref b1, .ref b2, .ref b3, .ref b4, .int (iI ns), .int (iI ia), .ref b5, .int (iI ((tn : Nat) : Int)), .int (iI ta), .ref b6, .ref b7, .ref b8, .ref b9, .ref b10, .ref b11, .ref b12])), (b1, .inl (cI, 37, .inl (fun z9 => iI (w z9)))), (b2, .inl (cI, 148, .inl (fun z9 => iI (pa z9)))), (b3, .inl (cI, 37, .inl (fun z9 => iI (ad z9)))), (b4, .inl (cI, 37, .inl (fun z9 => iI (be z9)))), (b5, .inl (cC, 60, .inl (fun z9 => iI (tx z9)))), (b6, .inl (cI, 8, .inl (fun z9 => iI (u_12.1 z9)))), (b7, .inl (cI, 8, .inl (fun z9 => iI (u_12.2 z9)))), (b8, .inl (cI, 8, .inl (fun z9 => iI (tu z9)))), (b9, .inl (cI, 8, .inl (fun z9 => iI (fa z9)))), (b10, .inl (cI, 8, .inl (fun z9 => iI (th z9)))), (b11, .inl (cI, 8, .inl (fun z9 => iI (ss z9)))), (b12, .inl (cI, 1600, .inl (fun z9 => iI (mo z9))))]) [.inr 0, .inr 1, .inr 2, .inr 3, .inr 4, .inr 5, .inr 6, .inr 7, .inr 8, .inr 9, .inr 10, .inr 11, .inr 12] (fun _ => rfl) (fun _ => rfl) rfl rfl hl.1 rfl (Nat.le_of_ble_eq_true rfl) dX6_rod_12 ⟨Nat.zero_le _, Nat.zero_le _⟩ (fun z_12 u_12 H locs hz_12 hP hD hS => ?_)
    have hP : va_P (dC, dI) vwCl [(b0, .inr (6, [.ref b1, .ref b2, .ref b3, .ref b4, .int (iI ns), .int (iI ia), .ref b5, .int (iI ((tn : Nat) : Int)), .int (iI ta), .ref b6, .ref b7, .ref b8, .ref b9, .ref b10, .ref b11, .ref b12])), (b1, .inl (cI, 37, .inl (fun z9 => iI (w z9)))), (b2, .inl (cI, 148, .inl (fun z9 => iI (pa z9)))), (b3, .inl (cI, 37, .inl (fun z9 => iI (ad z9)))), (b4, .inl (cI, 37, .inl (fun z9 => iI (be z9)))), (b5, .inl (cC, 60, .inl (fun z9 => iI (tx z9)))), (b6, .inl (cI, 8, .inl (fun z9 => iI (u_12.1 z9)))), (b7, .inl (cI, 8, .inl (fun z9 => iI (u_12.2 z9)))), (b8, .inl (cI, 8, .inl (fun z9 => iI (tu z9)))), (b9, .inl (cI, 8, .inl (fun z9 => iI (fa z9)))), (b10, .inl (cI, 8, .inl (fun z9 => iI (th z9)))), (b11, .inl (cI, 8, .inl (fun z9 => iI (ss z9)))), (b12, .inl (cI, 1600, .inl (fun z9 => iI (mo z9))))] H := hP
    have hD : va_D A [(b0, .inr (6, [.ref b1, .ref b2, .ref b3, .ref b4, .int (iI ns), .int (iI ia), .ref b5, .int (iI ((tn : Nat) : Int)), .int (iI ta), .ref b6, .ref b7, .ref b8, .ref b9, .ref b10, .ref b11, .ref b12])), (b1, .inl (cI, 37, .inl (fun z9 => iI (w z9)))), (b2, .inl (cI, 148, .inl (fun z9 => iI (pa z9)))), (b3, .inl (cI, 37, .inl (fun z9 => iI (ad z9)))), (b4, .inl (cI, 37, .inl (fun z9 => iI (be z9)))), (b5, .inl (cC, 60, .inl (fun z9 => iI (tx z9)))), (b6, .inl (cI, 8, .inl (fun z9 => iI (u_12.1 z9)))), (b7, .inl (cI, 8, .inl (fun z9 => iI (u_12.2 z9)))), (b8, .inl (cI, 8, .inl (fun z9 => iI (tu z9)))), (b9, .inl (cI, 8, .inl (fun z9 => iI (fa z9)))), (b10, .inl (cI, 8, .inl (fun z9 => iI (th z9)))), (b11, .inl (cI, 8, .inl (fun z9 => iI (ss z9)))), (b12, .inl (cI, 1600, .inl (fun z9 => iI (mo z9))))] := hD
    obtain ⟨o_12, hL_12, k_12, hk_12, ek_12, ez_12⟩ := hz_12
    subst ez_12
    have hpos := hgp o_12 _ _ hL_12 (by omega)
    refine lv_istore_n (lv' := [(3, .int (iI ((k_12 : Nat) : Int))), (0, .ref b0), (1, .int (iI x)), (2, .int (iI v))]) hx hb dX6_rod_15 rfl hl (by decide) rfl (fun ls hl => ?_)
    refine lv_iload_n hx hb dX6_rod_16 rfl (lv_at hl 3 rfl) ?_
    have htI : (iI v).toInt = v := iI_toInt (by omega)
    rcases (show v = (0 : Int) ∨ v = (1 : Int) ∨ v = (2 : Int) ∨ v = (3 : Int) ∨ v = (4 : Int) ∨ v = (5 : Int) ∨ v = (6 : Int) ∨ v = (7 : Int) ∨ (v < (0 : Int) ∨ (7 : Int) < v) by omega) with t_17 | t_17 | t_17 | t_17 | t_17 | t_17 | t_17 | t_17 | t_17
    · skip
      refine lv_tableIn (off := 47) (tgt := 64) hx hb dX6_rod_17 (by rw [htI]; omega) (by rw [htI]; omega) (by rw [htI, t_17]; rfl) (by decide) ?_
      refine lv_aload_n hx hb dX6_rod_64 rfl (lv_at hl 1 rfl) ?_
      refine va_get (D := (dC, dI)) (ci := 6) (v := .ref b1) (C := RX6) (T := TX6) (N := 16) hx hb hts hw6 hown hK hP 0 rfl rfl 0 (by decide) hf7 (fun _ h9 => h9) rfl dX6_rod_65 ?_
      refine zz_iconst hx hb dX6_rod_68 ?_
      refine lv_iload_n hx hb dX6_rod_69 rfl (lv_at hl 2 rfl) ?_
      refine zz_iadd hx hb dX6_rod_70 ?_
      refine zz_iald hx hb hK hP 1 0 (f := w) rfl rfl (by decide) (5 + g) (by omega) (by omega) dX6_rod_71 ?_
      have b_71 := hok.at (k := g) (by omega)
      exact W.iret (v := iI (w (5 + g))) hx hb hr (fun t9 ht9 hW9 => ⟨⟨(w (5 + g)), ((w, pa, ad, ns, ia, tx, tn), ((be, ta), u_12.1, u_12.2, tu, fa, th, ss, mo)), rfl, by first | exact ⟨rfl, Or.inl ⟨by omega, by omega⟩⟩ | exact ⟨rfl, Or.inr ⟨g, eg, by omega, Or.inl (⟨by omega, by omega⟩)⟩⟩ | exact ⟨rfl, Or.inr ⟨g, eg, by omega, Or.inr (Or.inl (⟨by omega, by omega⟩))⟩⟩ | exact ⟨rfl, Or.inr ⟨g, eg, by omega, Or.inr (Or.inr (Or.inl (⟨by omega, by omega⟩)))⟩⟩ | exact ⟨rfl, Or.inr ⟨g, eg, by omega, Or.inr (Or.inr (Or.inr (Or.inl (⟨by omega, by omega⟩))))⟩⟩ | exact ⟨rfl, Or.inr ⟨g, eg, by omega, Or.inr (Or.inr (Or.inr (Or.inr (Or.inl (⟨by omega, by omega⟩)))))⟩⟩ | exact ⟨rfl, Or.inr ⟨g, eg, by omega, Or.inr (Or.inr (Or.inr (Or.inr (Or.inr (⟨o_12, _, _, k_12, hL_12, hk_12, ek_12, Or.inl (⟨by omega, by omega⟩)⟩)))))⟩⟩ | exact ⟨rfl, Or.inr ⟨g, eg, by omega, Or.inr (Or.inr (Or.inr (Or.inr (Or.inr (⟨o_12, _, _, k_12, hL_12, hk_12, ek_12, Or.inr (Or.inl (⟨by omega, by rfl⟩))⟩)))))⟩⟩ | exact ⟨rfl, Or.inr ⟨g, eg, by omega, Or.inr (Or.inr (Or.inr (Or.inr (Or.inr (⟨o_12, _, _, k_12, hL_12, hk_12, ek_12, Or.inr (Or.inr (Or.inl (⟨by omega, m_120, f_120, hm_120, hf_120, by omega⟩)))⟩)))))⟩⟩ | exact ⟨rfl, Or.inr ⟨g, eg, by omega, Or.inr (Or.inr (Or.inr (Or.inr (Or.inr (⟨o_12, _, _, k_12, hL_12, hk_12, ek_12, Or.inr (Or.inr (Or.inr (⟨by omega, m_130, hm_130, by rfl⟩)))⟩)))))⟩⟩, by show va_P _ _ _ t9.heap; rw [ht9]; exact hP⟩, hS.F ht9⟩) hS.2.2 dX6_rod_72
    · skip
      refine lv_tableIn (off := 56) (tgt := 73) hx hb dX6_rod_17 (by rw [htI]; omega) (by rw [htI]; omega) (by rw [htI, t_17]; rfl) (by decide) ?_
      refine lv_aload_n hx hb dX6_rod_73 rfl (lv_at hl 1 rfl) ?_
      refine va_get (D := (dC, dI)) (ci := 6) (v := .ref b1) (C := RX6) (T := TX6) (N := 16) hx hb hts hw6 hown hK hP 0 rfl rfl 0 (by decide) hf7 (fun _ h9 => h9) rfl dX6_rod_74 ?_
      refine zz_bipush hx hb dX6_rod_77 (by decide +kernel) ?_
      refine lv_iload_n hx hb dX6_rod_79 rfl (lv_at hl 2 rfl) ?_
      refine zz_iadd hx hb dX6_rod_80 ?_
      refine zz_iald hx hb hK hP 1 0 (f := w) rfl rfl (by decide) (13 + g) (by omega) (by omega) dX6_rod_81 ?_
      have b_81 := hok.at (k := g) (by omega)
      exact W.iret (v := iI (w (13 + g))) hx hb hr (fun t9 ht9 hW9 => ⟨⟨(w (13 + g)), ((w, pa, ad, ns, ia, tx, tn), ((be, ta), u_12.1, u_12.2, tu, fa, th, ss, mo)), rfl, by first | exact ⟨rfl, Or.inl ⟨by omega, by omega⟩⟩ | exact ⟨rfl, Or.inr ⟨g, eg, by omega, Or.inl (⟨by omega, by omega⟩)⟩⟩ | exact ⟨rfl, Or.inr ⟨g, eg, by omega, Or.inr (Or.inl (⟨by omega, by omega⟩))⟩⟩ | exact ⟨rfl, Or.inr ⟨g, eg, by omega, Or.inr (Or.inr (Or.inl (⟨by omega, by omega⟩)))⟩⟩ | exact ⟨rfl, Or.inr ⟨g, eg, by omega, Or.inr (Or.inr (Or.inr (Or.inl (⟨by omega, by omega⟩))))⟩⟩ | exact ⟨rfl, Or.inr ⟨g, eg, by omega, Or.inr (Or.inr (Or.inr (Or.inr (Or.inl (⟨by omega, by omega⟩)))))⟩⟩ | exact ⟨rfl, Or.inr ⟨g, eg, by omega, Or.inr (Or.inr (Or.inr (Or.inr (Or.inr (⟨o_12, _, _, k_12, hL_12, hk_12, ek_12, Or.inl (⟨by omega, by omega⟩)⟩)))))⟩⟩ | exact ⟨rfl, Or.inr ⟨g, eg, by omega, Or.inr (Or.inr (Or.inr (Or.inr (Or.inr (⟨o_12, _, _, k_12, hL_12, hk_12, ek_12, Or.inr (Or.inl (⟨by omega, by rfl⟩))⟩)))))⟩⟩ | exact ⟨rfl, Or.inr ⟨g, eg, by omega, Or.inr (Or.inr (Or.inr (Or.inr (Or.inr (⟨o_12, _, _, k_12, hL_12, hk_12, ek_12, Or.inr (Or.inr (Or.inl (⟨by omega, m_120, f_120, hm_120, hf_120, by omega⟩)))⟩)))))⟩⟩ | exact ⟨rfl, Or.inr ⟨g, eg, by omega, Or.inr (Or.inr (Or.inr (Or.inr (Or.inr (⟨o_12, _, _, k_12, hL_12, hk_12, ek_12, Or.inr (Or.inr (Or.inr (⟨by omega, m_130, hm_130, by rfl⟩)))⟩)))))⟩⟩, by show va_P _ _ _ t9.heap; rw [ht9]; exact hP⟩, hS.F ht9⟩) hS.2.2 dX6_rod_82
    · skip
      refine lv_tableIn (off := 66) (tgt := 83) hx hb dX6_rod_17 (by rw [htI]; omega) (by rw [htI]; omega) (by rw [htI, t_17]; rfl) (by decide) ?_
      refine zz_bipush hx hb dX6_rod_83 (by decide +kernel) ?_
      refine lv_aload_n hx hb dX6_rod_85 rfl (lv_at hl 1 rfl) ?_
      refine va_get (D := (dC, dI)) (ci := 6) (v := .ref b1) (C := RX6) (T := TX6) (N := 16) hx hb hts hw6 hown hK hP 0 rfl rfl 0 (by decide) hf7 (fun _ h9 => h9) rfl dX6_rod_86 ?_
      refine zz_bipush hx hb dX6_rod_89 (by decide +kernel) ?_
      refine lv_iload_n hx hb dX6_rod_91 rfl (lv_at hl 2 rfl) ?_
      refine zz_iadd hx hb dX6_rod_92 ?_
      refine zz_iald hx hb hK hP 1 0 (f := w) rfl rfl (by decide) (21 + g) (by omega) (by omega) dX6_rod_93 ?_
      have b_93 := hok.at (k := g) (by omega)
      refine zz_iadd hx hb dX6_rod_94 ?_
      exact W.iret (v := iI ((100 : Int) + (w (21 + g)))) hx hb hr (fun t9 ht9 hW9 => ⟨⟨((100 : Int) + (w (21 + g))), ((w, pa, ad, ns, ia, tx, tn), ((be, ta), u_12.1, u_12.2, tu, fa, th, ss, mo)), rfl, by first | exact ⟨rfl, Or.inl ⟨by omega, by omega⟩⟩ | exact ⟨rfl, Or.inr ⟨g, eg, by omega, Or.inl (⟨by omega, by omega⟩)⟩⟩ | exact ⟨rfl, Or.inr ⟨g, eg, by omega, Or.inr (Or.inl (⟨by omega, by omega⟩))⟩⟩ | exact ⟨rfl, Or.inr ⟨g, eg, by omega, Or.inr (Or.inr (Or.inl (⟨by omega, by omega⟩)))⟩⟩ | exact ⟨rfl, Or.inr ⟨g, eg, by omega, Or.inr (Or.inr (Or.inr (Or.inl (⟨by omega, by omega⟩))))⟩⟩ | exact ⟨rfl, Or.inr ⟨g, eg, by omega, Or.inr (Or.inr (Or.inr (Or.inr (Or.inl (⟨by omega, by omega⟩)))))⟩⟩ | exact ⟨rfl, Or.inr ⟨g, eg, by omega, Or.inr (Or.inr (Or.inr (Or.inr (Or.inr (⟨o_12, _, _, k_12, hL_12, hk_12, ek_12, Or.inl (⟨by omega, by omega⟩)⟩)))))⟩⟩ | exact ⟨rfl, Or.inr ⟨g, eg, by omega, Or.inr (Or.inr (Or.inr (Or.inr (Or.inr (⟨o_12, _, _, k_12, hL_12, hk_12, ek_12, Or.inr (Or.inl (⟨by omega, by rfl⟩))⟩)))))⟩⟩ | exact ⟨rfl, Or.inr ⟨g, eg, by omega, Or.inr (Or.inr (Or.inr (Or.inr (Or.inr (⟨o_12, _, _, k_12, hL_12, hk_12, ek_12, Or.inr (Or.inr (Or.inl (⟨by omega, m_120, f_120, hm_120, hf_120, by omega⟩)))⟩)))))⟩⟩ | exact ⟨rfl, Or.inr ⟨g, eg, by omega, Or.inr (Or.inr (Or.inr (Or.inr (Or.inr (⟨o_12, _, _, k_12, hL_12, hk_12, ek_12, Or.inr (Or.inr (Or.inr (⟨by omega, m_130, hm_130, by rfl⟩)))⟩)))))⟩⟩, by show va_P _ _ _ t9.heap; rw [ht9]; exact hP⟩, hS.F ht9⟩) hS.2.2 dX6_rod_95
    · skip
      refine lv_tableIn (off := 79) (tgt := 96) hx hb dX6_rod_17 (by rw [htI]; omega) (by rw [htI]; omega) (by rw [htI, t_17]; rfl) (by decide) ?_
      refine lv_aload_n hx hb dX6_rod_96 rfl (lv_at hl 1 rfl) ?_
      refine lv_iload_n hx hb dX6_rod_97 rfl (lv_at hl 0 rfl) ?_
      refine ro_V (As := [.int (iI ((k_12 : Nat) : Int))]) (rest := []) ⟨hx, hb, hml, hown, hts⟩ (c_X6_gapOf l dC dI cI cJ cC cO b0 b1 b2 b3 b4 b5 b6 b7 b8 b9 b10 b11 b12 w pa ad be ns ia tx ((tn : Nat) : Int) ta u_12.1 u_12.2 tu fa th ss mo n hok o_12 hL_12 ((k_12 : Nat) : Int) k_12 (by omega) (by omega)) (cwV 1 hts gX6_rod_X6_gapOf rfl rfl rfl (by decide +kernel) ⟨Nat.le_of_ble_eq_true rfl, Nat.le_of_ble_eq_true rfl⟩) hK hP [0, 1, 2, 3, 4, 5, 6, 7, 8, 9, 10, 11, 12] rfl 6 0 rfl rfl rfl hl.1 rfl (Nat.le_of_ble_eq_true rfl) dX6_rod_98 ⟨Nat.zero_le _, Nat.zero_le _⟩ (fun z_98 hz_98 => ?_)
      subst hz_98
      have bz_98 := MOk.gp hok o_12 k_12
      exact W.iret (v := iI (gpM w n o_12 k_12)) hx hb hr (fun t9 ht9 hW9 => ⟨⟨(gpM w n o_12 k_12), ((w, pa, ad, ns, ia, tx, tn), ((be, ta), u_12.1, u_12.2, tu, fa, th, ss, mo)), rfl, by first | exact ⟨rfl, Or.inl ⟨by omega, by omega⟩⟩ | exact ⟨rfl, Or.inr ⟨g, eg, by omega, Or.inl (⟨by omega, by omega⟩)⟩⟩ | exact ⟨rfl, Or.inr ⟨g, eg, by omega, Or.inr (Or.inl (⟨by omega, by omega⟩))⟩⟩ | exact ⟨rfl, Or.inr ⟨g, eg, by omega, Or.inr (Or.inr (Or.inl (⟨by omega, by omega⟩)))⟩⟩ | exact ⟨rfl, Or.inr ⟨g, eg, by omega, Or.inr (Or.inr (Or.inr (Or.inl (⟨by omega, by omega⟩))))⟩⟩ | exact ⟨rfl, Or.inr ⟨g, eg, by omega, Or.inr (Or.inr (Or.inr (Or.inr (Or.inl (⟨by omega, by omega⟩)))))⟩⟩ | exact ⟨rfl, Or.inr ⟨g, eg, by omega, Or.inr (Or.inr (Or.inr (Or.inr (Or.inr (⟨o_12, _, _, k_12, hL_12, hk_12, ek_12, Or.inl (⟨by omega, by omega⟩)⟩)))))⟩⟩ | exact ⟨rfl, Or.inr ⟨g, eg, by omega, Or.inr (Or.inr (Or.inr (Or.inr (Or.inr (⟨o_12, _, _, k_12, hL_12, hk_12, ek_12, Or.inr (Or.inl (⟨by omega, by rfl⟩))⟩)))))⟩⟩ | exact ⟨rfl, Or.inr ⟨g, eg, by omega, Or.inr (Or.inr (Or.inr (Or.inr (Or.inr (⟨o_12, _, _, k_12, hL_12, hk_12, ek_12, Or.inr (Or.inr (Or.inl (⟨by omega, m_120, f_120, hm_120, hf_120, by omega⟩)))⟩)))))⟩⟩ | exact ⟨rfl, Or.inr ⟨g, eg, by omega, Or.inr (Or.inr (Or.inr (Or.inr (Or.inr (⟨o_12, _, _, k_12, hL_12, hk_12, ek_12, Or.inr (Or.inr (Or.inr (⟨by omega, m_130, hm_130, by rfl⟩)))⟩)))))⟩⟩, by show va_P _ _ _ t9.heap; rw [ht9]; exact hP⟩, hS.F ht9⟩) hS.2.2 dX6_rod_101
    · skip
      refine lv_tableIn (off := 85) (tgt := 102) hx hb dX6_rod_17 (by rw [htI]; omega) (by rw [htI]; omega) (by rw [htI, t_17]; rfl) (by decide) ?_
      refine lv_aload_n hx hb dX6_rod_102 rfl (lv_at hl 1 rfl) ?_
      refine va_get (D := (dC, dI)) (ci := 6) (v := .ref b6) (C := RX6) (T := TX6) (N := 16) hx hb hts hw6 hown hK hP 0 rfl rfl 9 (by decide) hf26 (fun _ h9 => h9) rfl dX6_rod_103 ?_
      refine lv_iload_n hx hb dX6_rod_106 rfl (lv_at hl 0 rfl) ?_
      refine zz_iconst hx hb dX6_rod_107 ?_
      refine zz_iadd hx hb dX6_rod_108 ?_
      refine lv_aload_n hx hb dX6_rod_109 rfl (lv_at hl 1 rfl) ?_
      refine va_get (D := (dC, dI)) (ci := 6) (v := .ref b1) (C := RX6) (T := TX6) (N := 16) hx hb hts hw6 hown hK hP 0 rfl rfl 0 (by decide) hf7 (fun _ h9 => h9) rfl dX6_rod_110 ?_
      refine zz_iconst hx hb dX6_rod_113 ?_
      refine zz_iald hx hb hK hP 1 0 (f := w) rfl rfl (by decide) 1 (by omega) (by omega) dX6_rod_114 ?_
      rw [bd0.2.1]
      refine zz_irem hx hb dX6_rod_115 (by omega) (by omega) (by omega) ?_
      rw [show (Int.tmod (((k_12 : Nat) : Int) + (1 : Int)) (n : Int)) = ((nx n k_12 : Nat) : Int) from by exact (tmod_nat (k_12 + 1) n).trans (congrArg Nat.cast (nx_eq (by omega)))]
      have hnx := nx_lt (n := n) (k := k_12) (by omega)
      refine zz_ialdv hx hb hK hP 6 0 (f := u_12.1) rfl rfl (by decide) (nx n k_12) (by omega) (by omega) (v := ((o_12 (nx n k_12) : Nat) : Int)) (Lay.od hL_12 (j := (nx n k_12)) (by omega)) dX6_rod_116 ?_
      have lo_116 := Lay.lt hL_12 (j := (nx n k_12)) (by omega)
      exact W.iret (v := iI ((o_12 (nx n k_12) : Nat) : Int)) hx hb hr (fun t9 ht9 hW9 => ⟨⟨((o_12 (nx n k_12) : Nat) : Int), ((w, pa, ad, ns, ia, tx, tn), ((be, ta), u_12.1, u_12.2, tu, fa, th, ss, mo)), rfl, by first | exact ⟨rfl, Or.inl ⟨by omega, by omega⟩⟩ | exact ⟨rfl, Or.inr ⟨g, eg, by omega, Or.inl (⟨by omega, by omega⟩)⟩⟩ | exact ⟨rfl, Or.inr ⟨g, eg, by omega, Or.inr (Or.inl (⟨by omega, by omega⟩))⟩⟩ | exact ⟨rfl, Or.inr ⟨g, eg, by omega, Or.inr (Or.inr (Or.inl (⟨by omega, by omega⟩)))⟩⟩ | exact ⟨rfl, Or.inr ⟨g, eg, by omega, Or.inr (Or.inr (Or.inr (Or.inl (⟨by omega, by omega⟩))))⟩⟩ | exact ⟨rfl, Or.inr ⟨g, eg, by omega, Or.inr (Or.inr (Or.inr (Or.inr (Or.inl (⟨by omega, by omega⟩)))))⟩⟩ | exact ⟨rfl, Or.inr ⟨g, eg, by omega, Or.inr (Or.inr (Or.inr (Or.inr (Or.inr (⟨o_12, _, _, k_12, hL_12, hk_12, ek_12, Or.inl (⟨by omega, by omega⟩)⟩)))))⟩⟩ | exact ⟨rfl, Or.inr ⟨g, eg, by omega, Or.inr (Or.inr (Or.inr (Or.inr (Or.inr (⟨o_12, _, _, k_12, hL_12, hk_12, ek_12, Or.inr (Or.inl (⟨by omega, by rfl⟩))⟩)))))⟩⟩ | exact ⟨rfl, Or.inr ⟨g, eg, by omega, Or.inr (Or.inr (Or.inr (Or.inr (Or.inr (⟨o_12, _, _, k_12, hL_12, hk_12, ek_12, Or.inr (Or.inr (Or.inl (⟨by omega, m_120, f_120, hm_120, hf_120, by omega⟩)))⟩)))))⟩⟩ | exact ⟨rfl, Or.inr ⟨g, eg, by omega, Or.inr (Or.inr (Or.inr (Or.inr (Or.inr (⟨o_12, _, _, k_12, hL_12, hk_12, ek_12, Or.inr (Or.inr (Or.inr (⟨by omega, m_130, hm_130, by rfl⟩)))⟩)))))⟩⟩, by show va_P _ _ _ t9.heap; rw [ht9]; exact hP⟩, hS.F ht9⟩) hS.2.2 dX6_rod_117
    · skip
      refine lv_tableIn (off := 101) (tgt := 118) hx hb dX6_rod_17 (by rw [htI]; omega) (by rw [htI]; omega) (by rw [htI, t_17]; rfl) (by decide) ?_
      refine lv_aload_n hx hb dX6_rod_118 rfl (lv_at hl 1 rfl) ?_
      refine lv_iload_n hx hb dX6_rod_119 rfl (lv_at hl 0 rfl) ?_
      refine ro_V (As := [.int (iI ((k_12 : Nat) : Int))]) (rest := []) ⟨hx, hb, hml, hown, hts⟩ (c_X6_clusterOf l dC dI cI cJ cC cO b0 b1 b2 b3 b4 b5 b6 b7 b8 b9 b10 b11 b12 w pa ad be ns ia tx ((tn : Nat) : Int) ta u_12.1 u_12.2 tu fa th ss mo n hok o_12 hL_12 ((k_12 : Nat) : Int) k_12 (by omega) (by omega) hpos) (cwV 1 hts gX6_rod_X6_clusterOf rfl rfl rfl (by decide +kernel) ⟨Nat.le_of_ble_eq_true rfl, Nat.le_of_ble_eq_true rfl⟩) hK hP [0, 1, 2, 3, 4, 5, 6, 7, 8, 9, 10, 11, 12] rfl 6 0 rfl rfl rfl hl.1 rfl (Nat.le_of_ble_eq_true rfl) dX6_rod_120 ⟨Nat.zero_le _, Nat.zero_le _⟩ (fun z_120 hz_120 => ?_)
      obtain ⟨m_120, f_120, hm_120, hf_120, ez_120⟩ := hz_120
      exact W.iret (v := iI z_120) hx hb hr (fun t9 ht9 hW9 => ⟨⟨z_120, ((w, pa, ad, ns, ia, tx, tn), ((be, ta), u_12.1, u_12.2, tu, fa, th, ss, mo)), rfl, by first | exact ⟨rfl, Or.inl ⟨by omega, by omega⟩⟩ | exact ⟨rfl, Or.inr ⟨g, eg, by omega, Or.inl (⟨by omega, by omega⟩)⟩⟩ | exact ⟨rfl, Or.inr ⟨g, eg, by omega, Or.inr (Or.inl (⟨by omega, by omega⟩))⟩⟩ | exact ⟨rfl, Or.inr ⟨g, eg, by omega, Or.inr (Or.inr (Or.inl (⟨by omega, by omega⟩)))⟩⟩ | exact ⟨rfl, Or.inr ⟨g, eg, by omega, Or.inr (Or.inr (Or.inr (Or.inl (⟨by omega, by omega⟩))))⟩⟩ | exact ⟨rfl, Or.inr ⟨g, eg, by omega, Or.inr (Or.inr (Or.inr (Or.inr (Or.inl (⟨by omega, by omega⟩)))))⟩⟩ | exact ⟨rfl, Or.inr ⟨g, eg, by omega, Or.inr (Or.inr (Or.inr (Or.inr (Or.inr (⟨o_12, _, _, k_12, hL_12, hk_12, ek_12, Or.inl (⟨by omega, by omega⟩)⟩)))))⟩⟩ | exact ⟨rfl, Or.inr ⟨g, eg, by omega, Or.inr (Or.inr (Or.inr (Or.inr (Or.inr (⟨o_12, _, _, k_12, hL_12, hk_12, ek_12, Or.inr (Or.inl (⟨by omega, by rfl⟩))⟩)))))⟩⟩ | exact ⟨rfl, Or.inr ⟨g, eg, by omega, Or.inr (Or.inr (Or.inr (Or.inr (Or.inr (⟨o_12, _, _, k_12, hL_12, hk_12, ek_12, Or.inr (Or.inr (Or.inl (⟨by omega, m_120, f_120, hm_120, hf_120, by omega⟩)))⟩)))))⟩⟩ | exact ⟨rfl, Or.inr ⟨g, eg, by omega, Or.inr (Or.inr (Or.inr (Or.inr (Or.inr (⟨o_12, _, _, k_12, hL_12, hk_12, ek_12, Or.inr (Or.inr (Or.inr (⟨by omega, m_130, hm_130, by rfl⟩)))⟩)))))⟩⟩, by show va_P _ _ _ t9.heap; rw [ht9]; exact hP⟩, hS.F ht9⟩) hS.2.2 dX6_rod_123
    · skip
      refine lv_tableIn (off := 107) (tgt := 124) hx hb dX6_rod_17 (by rw [htI]; omega) (by rw [htI]; omega) (by rw [htI, t_17]; rfl) (by decide) ?_
      refine lv_aload_n hx hb dX6_rod_124 rfl (lv_at hl 1 rfl) ?_
      refine va_get (D := (dC, dI)) (ci := 6) (v := .ref b6) (C := RX6) (T := TX6) (N := 16) hx hb hts hw6 hown hK hP 0 rfl rfl 9 (by decide) hf26 (fun _ h9 => h9) rfl dX6_rod_125 ?_
      refine lv_aload_n hx hb dX6_rod_128 rfl (lv_at hl 1 rfl) ?_
      refine lv_iload_n hx hb dX6_rod_129 rfl (lv_at hl 0 rfl) ?_
      refine ro_V (As := [.int (iI ((k_12 : Nat) : Int))]) (rest := [.ref b6]) ⟨hx, hb, hml, hown, hts⟩ (c_X6_leftmost l dC dI cI cJ cC cO b0 b1 b2 b3 b4 b5 b6 b7 b8 b9 b10 b11 b12 w pa ad be ns ia tx ((tn : Nat) : Int) ta u_12.1 u_12.2 tu fa th ss mo n hok o_12 hL_12 ((k_12 : Nat) : Int) k_12 (by omega) (by omega) hpos) (cwV 1 hts gX6_rod_X6_leftmost rfl rfl rfl (by decide +kernel) ⟨Nat.le_of_ble_eq_true rfl, Nat.le_of_ble_eq_true rfl⟩) hK hP [0, 1, 2, 3, 4, 5, 6, 7, 8, 9, 10, 11, 12] rfl 6 0 rfl rfl rfl hl.1 rfl (Nat.le_of_ble_eq_true rfl) dX6_rod_130 ⟨Nat.zero_le _, Nat.zero_le _⟩ (fun z_130 hz_130 => ?_)
      obtain ⟨m_130, em_130, hm_130⟩ := hz_130
      subst em_130
      have hm1_130 := hm_130.1
      refine zz_ialdv hx hb hK hP 6 0 (f := u_12.1) rfl rfl (by decide) m_130 (by omega) (by omega) (v := ((o_12 m_130 : Nat) : Int)) (Lay.od hL_12 (j := m_130) (by omega)) dX6_rod_133 ?_
      have lo_133 := Lay.lt hL_12 (j := m_130) (by omega)
      exact W.iret (v := iI ((o_12 m_130 : Nat) : Int)) hx hb hr (fun t9 ht9 hW9 => ⟨⟨((o_12 m_130 : Nat) : Int), ((w, pa, ad, ns, ia, tx, tn), ((be, ta), u_12.1, u_12.2, tu, fa, th, ss, mo)), rfl, by first | exact ⟨rfl, Or.inl ⟨by omega, by omega⟩⟩ | exact ⟨rfl, Or.inr ⟨g, eg, by omega, Or.inl (⟨by omega, by omega⟩)⟩⟩ | exact ⟨rfl, Or.inr ⟨g, eg, by omega, Or.inr (Or.inl (⟨by omega, by omega⟩))⟩⟩ | exact ⟨rfl, Or.inr ⟨g, eg, by omega, Or.inr (Or.inr (Or.inl (⟨by omega, by omega⟩)))⟩⟩ | exact ⟨rfl, Or.inr ⟨g, eg, by omega, Or.inr (Or.inr (Or.inr (Or.inl (⟨by omega, by omega⟩))))⟩⟩ | exact ⟨rfl, Or.inr ⟨g, eg, by omega, Or.inr (Or.inr (Or.inr (Or.inr (Or.inl (⟨by omega, by omega⟩)))))⟩⟩ | exact ⟨rfl, Or.inr ⟨g, eg, by omega, Or.inr (Or.inr (Or.inr (Or.inr (Or.inr (⟨o_12, _, _, k_12, hL_12, hk_12, ek_12, Or.inl (⟨by omega, by omega⟩)⟩)))))⟩⟩ | exact ⟨rfl, Or.inr ⟨g, eg, by omega, Or.inr (Or.inr (Or.inr (Or.inr (Or.inr (⟨o_12, _, _, k_12, hL_12, hk_12, ek_12, Or.inr (Or.inl (⟨by omega, by rfl⟩))⟩)))))⟩⟩ | exact ⟨rfl, Or.inr ⟨g, eg, by omega, Or.inr (Or.inr (Or.inr (Or.inr (Or.inr (⟨o_12, _, _, k_12, hL_12, hk_12, ek_12, Or.inr (Or.inr (Or.inl (⟨by omega, m_120, f_120, hm_120, hf_120, by omega⟩)))⟩)))))⟩⟩ | exact ⟨rfl, Or.inr ⟨g, eg, by omega, Or.inr (Or.inr (Or.inr (Or.inr (Or.inr (⟨o_12, _, _, k_12, hL_12, hk_12, ek_12, Or.inr (Or.inr (Or.inr (⟨by omega, m_130, hm_130, by rfl⟩)))⟩)))))⟩⟩, by show va_P _ _ _ t9.heap; rw [ht9]; exact hP⟩, hS.F ht9⟩) hS.2.2 dX6_rod_134
    · skip
      refine lv_tableIn (off := 118) (tgt := 135) hx hb dX6_rod_17 (by rw [htI]; omega) (by rw [htI]; omega) (by rw [htI, t_17]; rfl) (by decide) ?_
      refine lv_ldc (v := iI 1000000) hx hb hown (by have h9 := hts (.constant RX6 162 (1000000)) (by decide +kernel); rw [show (1000000 : Int32) = iI 1000000 by decide +kernel] at h9; exact h9) dX6_rod_135 ?_
      refine lv_aload_n hx hb dX6_rod_137 rfl (lv_at hl 1 rfl) ?_
      refine va_get (D := (dC, dI)) (ci := 6) (v := .ref b1) (C := RX6) (T := TX6) (N := 16) hx hb hts hw6 hown hK hP 0 rfl rfl 0 (by decide) hf7 (fun _ h9 => h9) rfl dX6_rod_138 ?_
      refine zz_bipush hx hb dX6_rod_141 (by decide +kernel) ?_
      refine lv_iload_n hx hb dX6_rod_143 rfl (lv_at hl 2 rfl) ?_
      refine zz_iadd hx hb dX6_rod_144 ?_
      refine zz_iald hx hb hK hP 1 0 (f := w) rfl rfl (by decide) (29 + g) (by omega) (by omega) dX6_rod_145 ?_
      have b_145 := hok.at (k := g) (by omega)
      refine zz_iadd hx hb dX6_rod_146 ?_
      exact W.iret (v := iI ((1000000 : Int) + (w (29 + g)))) hx hb hr (fun t9 ht9 hW9 => ⟨⟨((1000000 : Int) + (w (29 + g))), ((w, pa, ad, ns, ia, tx, tn), ((be, ta), u_12.1, u_12.2, tu, fa, th, ss, mo)), rfl, by first | exact ⟨rfl, Or.inl ⟨by omega, by omega⟩⟩ | exact ⟨rfl, Or.inr ⟨g, eg, by omega, Or.inl (⟨by omega, by omega⟩)⟩⟩ | exact ⟨rfl, Or.inr ⟨g, eg, by omega, Or.inr (Or.inl (⟨by omega, by omega⟩))⟩⟩ | exact ⟨rfl, Or.inr ⟨g, eg, by omega, Or.inr (Or.inr (Or.inl (⟨by omega, by omega⟩)))⟩⟩ | exact ⟨rfl, Or.inr ⟨g, eg, by omega, Or.inr (Or.inr (Or.inr (Or.inl (⟨by omega, by omega⟩))))⟩⟩ | exact ⟨rfl, Or.inr ⟨g, eg, by omega, Or.inr (Or.inr (Or.inr (Or.inr (Or.inl (⟨by omega, by omega⟩)))))⟩⟩ | exact ⟨rfl, Or.inr ⟨g, eg, by omega, Or.inr (Or.inr (Or.inr (Or.inr (Or.inr (⟨o_12, _, _, k_12, hL_12, hk_12, ek_12, Or.inl (⟨by omega, by omega⟩)⟩)))))⟩⟩ | exact ⟨rfl, Or.inr ⟨g, eg, by omega, Or.inr (Or.inr (Or.inr (Or.inr (Or.inr (⟨o_12, _, _, k_12, hL_12, hk_12, ek_12, Or.inr (Or.inl (⟨by omega, by rfl⟩))⟩)))))⟩⟩ | exact ⟨rfl, Or.inr ⟨g, eg, by omega, Or.inr (Or.inr (Or.inr (Or.inr (Or.inr (⟨o_12, _, _, k_12, hL_12, hk_12, ek_12, Or.inr (Or.inr (Or.inl (⟨by omega, m_120, f_120, hm_120, hf_120, by omega⟩)))⟩)))))⟩⟩ | exact ⟨rfl, Or.inr ⟨g, eg, by omega, Or.inr (Or.inr (Or.inr (Or.inr (Or.inr (⟨o_12, _, _, k_12, hL_12, hk_12, ek_12, Or.inr (Or.inr (Or.inr (⟨by omega, m_130, hm_130, by rfl⟩)))⟩)))))⟩⟩, by show va_P _ _ _ t9.heap; rw [ht9]; exact hP⟩, hS.F ht9⟩) hS.2.2 dX6_rod_147
    · skip
      refine lv_tableOut (tgt := 148) hx hb dX6_rod_17 (by rw [htI]; omega) (by decide) ?_
      refine zz_bipush hx hb dX6_rod_148 (by decide +kernel) ?_
      exact W.iret (v := iI (-2 : Int)) hx hb hr (fun t9 ht9 hW9 => ⟨⟨(-2 : Int), ((w, pa, ad, ns, ia, tx, tn), ((be, ta), u_12.1, u_12.2, tu, fa, th, ss, mo)), rfl, by first | exact ⟨rfl, Or.inl ⟨by omega, by omega⟩⟩ | exact ⟨rfl, Or.inr ⟨g, eg, by omega, Or.inl (⟨by omega, by omega⟩)⟩⟩ | exact ⟨rfl, Or.inr ⟨g, eg, by omega, Or.inr (Or.inl (⟨by omega, by omega⟩))⟩⟩ | exact ⟨rfl, Or.inr ⟨g, eg, by omega, Or.inr (Or.inr (Or.inl (⟨by omega, by omega⟩)))⟩⟩ | exact ⟨rfl, Or.inr ⟨g, eg, by omega, Or.inr (Or.inr (Or.inr (Or.inl (⟨by omega, by omega⟩))))⟩⟩ | exact ⟨rfl, Or.inr ⟨g, eg, by omega, Or.inr (Or.inr (Or.inr (Or.inr (Or.inl (⟨by omega, by omega⟩)))))⟩⟩ | exact ⟨rfl, Or.inr ⟨g, eg, by omega, Or.inr (Or.inr (Or.inr (Or.inr (Or.inr (⟨o_12, _, _, k_12, hL_12, hk_12, ek_12, Or.inl (⟨by omega, by omega⟩)⟩)))))⟩⟩ | exact ⟨rfl, Or.inr ⟨g, eg, by omega, Or.inr (Or.inr (Or.inr (Or.inr (Or.inr (⟨o_12, _, _, k_12, hL_12, hk_12, ek_12, Or.inr (Or.inl (⟨by omega, by rfl⟩))⟩)))))⟩⟩ | exact ⟨rfl, Or.inr ⟨g, eg, by omega, Or.inr (Or.inr (Or.inr (Or.inr (Or.inr (⟨o_12, _, _, k_12, hL_12, hk_12, ek_12, Or.inr (Or.inr (Or.inl (⟨by omega, m_120, f_120, hm_120, hf_120, by omega⟩)))⟩)))))⟩⟩ | exact ⟨rfl, Or.inr ⟨g, eg, by omega, Or.inr (Or.inr (Or.inr (Or.inr (Or.inr (⟨o_12, _, _, k_12, hL_12, hk_12, ek_12, Or.inr (Or.inr (Or.inr (⟨by omega, m_130, hm_130, by rfl⟩)))⟩)))))⟩⟩, by show va_P _ _ _ t9.heap; rw [ht9]; exact hP⟩, hS.F ht9⟩) hS.2.2 dX6_rod_150
  · skip
    refine zz_iconst hx hb dX6_rod_8 ?_
    exact W.iret (v := iI (-1 : Int)) hx hb hr (fun t9 ht9 hW9 => ⟨⟨(-1 : Int), ((w, pa, ad, ns, ia, tx, tn), ((be, ta), od, pt, tu, fa, th, ss, mo)), rfl, by first | exact ⟨rfl, Or.inl ⟨by omega, by omega⟩⟩ | exact ⟨rfl, Or.inr ⟨g, eg, by omega, Or.inl (⟨by omega, by omega⟩)⟩⟩ | exact ⟨rfl, Or.inr ⟨g, eg, by omega, Or.inr (Or.inl (⟨by omega, by omega⟩))⟩⟩ | exact ⟨rfl, Or.inr ⟨g, eg, by omega, Or.inr (Or.inr (Or.inl (⟨by omega, by omega⟩)))⟩⟩ | exact ⟨rfl, Or.inr ⟨g, eg, by omega, Or.inr (Or.inr (Or.inr (Or.inl (⟨by omega, by omega⟩))))⟩⟩ | exact ⟨rfl, Or.inr ⟨g, eg, by omega, Or.inr (Or.inr (Or.inr (Or.inr (Or.inl (⟨by omega, by omega⟩)))))⟩⟩ | exact ⟨rfl, Or.inr ⟨g, eg, by omega, Or.inr (Or.inr (Or.inr (Or.inr (Or.inr (⟨o_12, _, _, k_12, hL_12, hk_12, ek_12, Or.inl (⟨by omega, by omega⟩)⟩)))))⟩⟩ | exact ⟨rfl, Or.inr ⟨g, eg, by omega, Or.inr (Or.inr (Or.inr (Or.inr (Or.inr (⟨o_12, _, _, k_12, hL_12, hk_12, ek_12, Or.inr (Or.inl (⟨by omega, by rfl⟩))⟩)))))⟩⟩ | exact ⟨rfl, Or.inr ⟨g, eg, by omega, Or.inr (Or.inr (Or.inr (Or.inr (Or.inr (⟨o_12, _, _, k_12, hL_12, hk_12, ek_12, Or.inr (Or.inr (Or.inl (⟨by omega, m_120, f_120, hm_120, hf_120, by omega⟩)))⟩)))))⟩⟩ | exact ⟨rfl, Or.inr ⟨g, eg, by omega, Or.inr (Or.inr (Or.inr (Or.inr (Or.inr (⟨o_12, _, _, k_12, hL_12, hk_12, ek_12, Or.inr (Or.inr (Or.inr (⟨by omega, m_130, hm_130, by rfl⟩)))⟩)))))⟩⟩, by show va_P _ _ _ t9.heap; rw [ht9]; exact hP⟩, hS.F ht9⟩) hS.2.2 dX6_rod_9
set_option maxHeartbeats 4000000 in
set_option maxRecDepth 100000 in
theorem c_X6_placeIn (l : Launch) (dC : Nat → ClassId) (dI : Nat → Nat → Nat) (cI cJ cC cO : ClassId) (b0 b1 b2 b3 b4 b5 b6 b7 b8 b9 b10 b11 b12 : Nat) (w pa ad be : Nat → Int) (ns ia : Int) (tx : Nat → Int) (tn : Nat) (ta : Int) (od pt tu fa th ss mo : Nat → Int) (hns : 0 ≤ ns ∧ ns ≤ 4) (hia : 0 ≤ ia ∧ ia ≤ 1) (hto : TOk tn tx) (n : Nat) (hok : MOk w n) (x : Int) (bx : -2147483648 ≤ x ∧ x < 2147483648) (t : Int) (bt : -2147483648 ≤ t ∧ t < 2147483648) : Met l yX6_placeIn wsX6_placeIn ({ frames := 3, cells := 0, slots := 0, locals := 69 } : Room) (va_Pc [.ref b0, .int (iI x), .int (iI t)] (wr_B (dC, dI) vwCl (tyG cI cJ cC cO) (wM cI cC b0 b1 b2 b3 b4 b5 b6 b7 b8 b9 b10 b11 b12 w pa ad be ns ia tx ((tn : Nat) : Int) ta od pt tu fa th ss mo))) (wr_Q (fun (z : Int) (u : MC × MX) => u.1 = (w, pa, ad, ns, ia, tx, tn) ∧ mPlaceIn w n x t z) (fun u t => va_P (dC, dI) vwCl (wMU cI cC b0 b1 b2 b3 b4 b5 b6 b7 b8 b9 b10 b11 b12 u.1 u.2) t.heap) (wr_A (wM cI cC b0 b1 b2 b3 b4 b5 b6 b7 b8 b9 b10 b11 b12 w pa ad be ns ia tx ((tn : Nat) : Int) ta od pt tu fa th ss mo))) 0 0 (wr_A (wM cI cC b0 b1 b2 b3 b4 b5 b6 b7 b8 b9 b10 b11 b12 w pa ad be ns ia tx ((tn : Nat) : Int) ta od pt tu fa th ss mo)) := by
  refine Met.ofW (cc := cX6_placeIn) (maxL := 5) (ret := (some .int)) (by decide) rfl ?_
  intro p e s m args below meth c s₁ B hml hv
  obtain ⟨hav, hP, hK, hD0⟩ := hv
  have hx := B.exec
  have hb := B.bytes
  have hr := B.returns
  have hts := atoms_spec (ws := wsX6_placeIn) B.pre
  have hown : s.vm.findClass RX6 = some m.cls := findClass_of_methodNamed B.named
  have hlocks := B.notSynchronized
  have hf7 := hts (.fieldLink RX6 7 "RingRodsModel" "row" "[I") (by decide +kernel)
  have hf26 := hts (.fieldLink RX6 26 "RingRodsModel" "order" "[I") (by decide +kernel)
  have hf38 := hts (.fieldLink RX6 38 "RingRodsModel" "then" "[I") (by decide +kernel)
  have hw6 : ∀ w ∈ u_ws RX6 TX6 16, w ∈ wsX6_placeIn := by decide +kernel
  have hD := va_D.slf hD0
  have hS : va_S (wr_A (wM cI cC b0 b1 b2 b3 b4 b5 b6 b7 b8 b9 b10 b11 b12 w pa ad be ns ia tx ((tn : Nat) : Int) ta od pt tu fa th ss mo)) s.heap s.heap [] := va_S.rf
  show W p l e ({ frames := 3, cells := 0, slots := 0, locals := 69 } : Room) s m args below meth c s.heap [] 0 0 (MQ below (wr_Q (fun (z : Int) (u : MC × MX) => u.1 = (w, pa, ad, ns, ia, tx, tn) ∧ mPlaceIn w n x t z) (fun u t => va_P (dC, dI) vwCl (wMU cI cC b0 b1 b2 b3 b4 b5 b6 b7 b8 b9 b10 b11 b12 u.1 u.2) t.heap) (wr_A (wM cI cC b0 b1 b2 b3 b4 b5 b6 b7 b8 b9 b10 b11 b12 w pa ad be ns ia tx ((tn : Nat) : Int) ta od pt tu fa th ss mo))) args s 0 0 (wr_A (wM cI cC b0 b1 b2 b3 b4 b5 b6 b7 b8 b9 b10 b11 b12 w pa ad be ns ia tx ((tn : Nat) : Int) ta od pt tu fa th ss mo))) (entryFrame m args 5)
  generalize hAe : wr_A (wM cI cC b0 b1 b2 b3 b4 b5 b6 b7 b8 b9 b10 b11 b12 w pa ad be ns ia tx ((tn : Nat) : Int) ta od pt tu fa th ss mo) = A at hD hS ⊢
  have hP : va_P (dC, dI) vwCl [(b0, .inr (6, [.ref b1, .ref b2, .ref b3, .ref b4, .int (iI ns), .int (iI ia), .ref b5, .int (iI ((tn : Nat) : Int)), .int (iI ta), .ref b6, .ref b7, .ref b8, .ref b9, .ref b10, .ref b11, .ref b12])), (b1, .inl (cI, 37, .inl (fun z9 => iI (w z9)))), (b2, .inl (cI, 148, .inl (fun z9 => iI (pa z9)))), (b3, .inl (cI, 37, .inl (fun z9 => iI (ad z9)))), (b4, .inl (cI, 37, .inl (fun z9 => iI (be z9)))), (b5, .inl (cC, 60, .inl (fun z9 => iI (tx z9)))), (b6, .inl (cI, 8, .inl (fun z9 => iI (od z9)))), (b7, .inl (cI, 8, .inl (fun z9 => iI (pt z9)))), (b8, .inl (cI, 8, .inl (fun z9 => iI (tu z9)))), (b9, .inl (cI, 8, .inl (fun z9 => iI (fa z9)))), (b10, .inl (cI, 8, .inl (fun z9 => iI (th z9)))), (b11, .inl (cI, 8, .inl (fun z9 => iI (ss z9)))), (b12, .inl (cI, 1600, .inl (fun z9 => iI (mo z9))))] s.heap := hP
  have hD : va_D A [(b0, .inr (6, [.ref b1, .ref b2, .ref b3, .ref b4, .int (iI ns), .int (iI ia), .ref b5, .int (iI ((tn : Nat) : Int)), .int (iI ta), .ref b6, .ref b7, .ref b8, .ref b9, .ref b10, .ref b11, .ref b12])), (b1, .inl (cI, 37, .inl (fun z9 => iI (w z9)))), (b2, .inl (cI, 148, .inl (fun z9 => iI (pa z9)))), (b3, .inl (cI, 37, .inl (fun z9 => iI (ad z9)))), (b4, .inl (cI, 37, .inl (fun z9 => iI (be z9)))), (b5, .inl (cC, 60, .inl (fun z9 => iI (tx z9)))), (b6, .inl (cI, 8, .inl (fun z9 => iI (od z9)))), (b7, .inl (cI, 8, .inl (fun z9 => iI (pt z9)))), (b8, .inl (cI, 8, .inl (fun z9 => iI (tu z9)))), (b9, .inl (cI, 8, .inl (fun z9 => iI (fa z9)))), (b10, .inl (cI, 8, .inl (fun z9 => iI (th z9)))), (b11, .inl (cI, 8, .inl (fun z9 => iI (ss z9)))), (b12, .inl (cI, 1600, .inl (fun z9 => iI (mo z9))))] := hD
  have hl := lv_entry ([.ref b0, .int (iI x), .int (iI t)]) (n := 5) (Nat.le_of_ble_eq_true rfl)
  have hent : entryFrame m args 5 = F0 m 0 ((lg_sl ([.ref b0, .int (iI x), .int (iI t)]) ++ List.replicate (5 - (lg_sl ([.ref b0, .int (iI x), .int (iI t)])).length) Slot.unset).toArray) [] := by rw [hav]; exact lg_entry_eq ..
  rw [hent]
  generalize (lg_sl ([.ref b0, .int (iI x), .int (iI t)]) ++ List.replicate (5 - (lg_sl ([.ref b0, .int (iI x), .int (iI t)])).length) Slot.unset).toArray = ls at hl ⊢
  have hl : lv_has ls 5 [(0, .ref b0), (1, .int (iI x)), (2, .int (iI t))] := hl
  have bt0 := hto.1
  have bd0 := hok.bd
  have bd1 := hok.fr
  refine lv_aload_n hx hb dX6_placeIn_0 rfl (lv_at hl 0 rfl) ?_
  refine lv_iload_n hx hb dX6_placeIn_1 rfl (lv_at hl 1 rfl) ?_
  refine ro_V (As := [.int (iI x)]) (rest := []) ⟨hx, hb, hml, hown, hts⟩ (c_X6_noRod l dC dI cI cJ cC cO b0 b1 b2 b3 b4 b5 b6 b7 b8 b9 b10 b11 b12 w pa ad be ns ia tx ((tn : Nat) : Int) ta od pt tu fa th ss mo n hok x (by omega)) (cwV 1 hts gX6_placeIn_X6_noRod rfl rfl rfl (by decide +kernel) ⟨Nat.le_of_ble_eq_true rfl, Nat.le_of_ble_eq_true rfl⟩) hK hP [0, 1, 2, 3, 4, 5, 6, 7, 8, 9, 10, 11, 12] rfl 6 0 rfl rfl rfl hl.1 rfl (Nat.le_of_ble_eq_true rfl) dX6_placeIn_2 ⟨Nat.zero_le _, Nat.zero_le _⟩ (fun z_2 hz_2 => ?_)
  refine zz_if_eq (tgt := 10) hx hb dX6_placeIn_5 (by decide) (by omega) (fun c_5 => ?_) (fun c_5 => ?_)
  · skip
    obtain ⟨g, eg⟩ : ∃ g : Nat, x = (g : Int) := ⟨x.toNat, by omega⟩
    have hg9 : g < n := by omega
    refine lv_iload_n hx hb dX6_placeIn_10 rfl (lv_at hl 2 rfl) ?_
    refine zz_iconst hx hb dX6_placeIn_11 ?_
    refine zz_bipush hx hb dX6_placeIn_12 (by decide +kernel) ?_
    refine ro_S (As := [.int (iI t), .int (iI (0 : Int)), .int (iI (100 : Int))]) (rest := []) ⟨hx, hb, hml, hown, hts⟩ (c_X6_in l dC dI cI cJ cC cO t (by omega) (0 : Int) (by omega) (100 : Int) (by omega)) (cwS 3 hts gX6_placeIn_X6_in rfl rfl rfl (by decide +kernel) ⟨Nat.le_of_ble_eq_true rfl, Nat.le_of_ble_eq_true rfl⟩) hK hP [] rfl rfl hl.1 rfl (Nat.le_of_ble_eq_true rfl) dX6_placeIn_14 ⟨Nat.zero_le _, Nat.zero_le _⟩ (fun z_14 hz_14 => ?_)
    refine zz_if_ne (tgt := 23) hx hb dX6_placeIn_17 (by decide) (by omega) (fun c_17 => ?_) (fun c_17 => ?_)
    · skip
      refine lv_aload_n hx hb dX6_placeIn_23 rfl (lv_at hl 0 rfl) ?_
      refine lv_iload_n hx hb dX6_placeIn_24 rfl (lv_at hl 2 rfl) ?_
      refine wr_Vv (As := [.int (iI t)]) (rest := []) ⟨hx, hb, hml, hown, hts⟩ (c_X6_go l dC dI cI cJ cC cO b0 b1 b2 b3 b4 b5 b6 b7 b8 b9 b10 b11 b12 w pa ad be ns ia tx ((tn : Nat) : Int) ta od pt tu fa th ss mo n hok t (by omega)) (cwV 1 hts gX6_placeIn_X6_go rfl rfl rfl (by decide +kernel) ⟨Nat.le_of_ble_eq_true rfl, Nat.le_of_ble_eq_true rfl⟩) hK hP hD hS [0, 1, 2, 3, 4, 5, 6, 7, 8, 9, 10, 11, 12] rfl (by decide) 6 0 rfl rfl (fun u_25 => [(b0, .inr (6, [.ref b1, .ref b2, .ref b3, .ref b4, .int (iI ns), .int (iI ia), .ref b5, .int (iI ((tn : Nat) : Int)), .int (iI ta), .ref b6, .ref b7, .ref b8, .ref b9, .ref b10, .ref b11, .ref b12])), (b1, .inl (cI, 37, .inl (fun z9 => iI (w z9)))), (b2, .inl (cI, 148, .inl (fun z9 => iI (pa z9)))), (b3, .inl (cI, 37, .inl (fun z9 => iI (ad z9)))), (b4, .inl (cI, 37, .inl (fun z9 => iI (be z9)))), (b5, .inl (cC, 60, .inl (fun z9 => iI (tx z9)))), (b6, .inl (cI, 8, .inl (fun z9 => iI (u_25.1 z9)))), (b7, .inl (cI, 8, .inl (fun z9 => iI (u_25.2.1 z9)))), (b8, .inl (cI, 8, .inl (fun z9 => iI (u_25.2.2.1 z9)))), (b9, .inl (cI, 8, .inl (fun z9 => iI (u_25.2.2.2.1 z9)))), (b10, .inl (cI, 8, .inl (fun z9 => iI (u_25.2.2.2.2.1 z9)))), (b11, .inl (cI, 8, .inl (fun z9 => iI (u_25.2.2.2.2.2 z9)))), (b12, .inl (cI, 1600, .inl (fun z9 => iI (mo z9))))]) [.inr 0, .inr 1, .inr 2, .inr 3, .inr 4, .inr 5, .inr 6, .inr 7, .inr 8, .inr 9, .inr 10, .inr 11, .inr 12] (fun _ => rfl) (fun _ => rfl) rfl rfl hl.1 rfl (Nat.le_of_ble_eq_true rfl) dX6_placeIn_25 ⟨Nat.zero_le _, Nat.zero_le _⟩ (fun u_25 H locs hz_25 hP hD hS => ?_)
      have hP : va_P (dC, dI) vwCl [(b0, .inr (6, [.ref b1, .ref b2, .ref b3, .ref b4, .int (iI ns), .int (iI ia), .ref b5, .int (iI ((tn : Nat) : Int)), .int (iI ta), .ref b6, .ref b7, .ref b8, .ref b9, .ref b10, .ref b11, .ref b12])), (b1, .inl (cI, 37, .inl (fun z9 => iI (w z9)))), (b2, .inl (cI, 148, .inl (fun z9 => iI (pa z9)))), (b3, .inl (cI, 37, .inl (fun z9 => iI (ad z9)))), (b4, .inl (cI, 37, .inl (fun z9 => iI (be z9)))), (b5, .inl (cC, 60, .inl (fun z9 => iI (tx z9)))), (b6, .inl (cI, 8, .inl (fun z9 => iI (u_25.1 z9)))), (b7, .inl (cI, 8, .inl (fun z9 => iI (u_25.2.1 z9)))), (b8, .inl (cI, 8, .inl (fun z9 => iI (u_25.2.2.1 z9)))), (b9, .inl (cI, 8, .inl (fun z9 => iI (u_25.2.2.2.1 z9)))), (b10, .inl (cI, 8, .inl (fun z9 => iI (u_25.2.2.2.2.1 z9)))), (b11, .inl (cI, 8, .inl (fun z9 => iI (u_25.2.2.2.2.2 z9)))), (b12, .inl (cI, 1600, .inl (fun z9 => iI (mo z9))))] H := hP
      have hD : va_D A [(b0, .inr (6, [.ref b1, .ref b2, .ref b3, .ref b4, .int (iI ns), .int (iI ia), .ref b5, .int (iI ((tn : Nat) : Int)), .int (iI ta), .ref b6, .ref b7, .ref b8, .ref b9, .ref b10, .ref b11, .ref b12])), (b1, .inl (cI, 37, .inl (fun z9 => iI (w z9)))), (b2, .inl (cI, 148, .inl (fun z9 => iI (pa z9)))), (b3, .inl (cI, 37, .inl (fun z9 => iI (ad z9)))), (b4, .inl (cI, 37, .inl (fun z9 => iI (be z9)))), (b5, .inl (cC, 60, .inl (fun z9 => iI (tx z9)))), (b6, .inl (cI, 8, .inl (fun z9 => iI (u_25.1 z9)))), (b7, .inl (cI, 8, .inl (fun z9 => iI (u_25.2.1 z9)))), (b8, .inl (cI, 8, .inl (fun z9 => iI (u_25.2.2.1 z9)))), (b9, .inl (cI, 8, .inl (fun z9 => iI (u_25.2.2.2.1 z9)))), (b10, .inl (cI, 8, .inl (fun z9 => iI (u_25.2.2.2.2.1 z9)))), (b11, .inl (cI, 8, .inl (fun z9 => iI (u_25.2.2.2.2.2 z9)))), (b12, .inl (cI, 1600, .inl (fun z9 => iI (mo z9))))] := hD
      obtain ⟨o_25, hL_25, hGo_25⟩ := hz_25
      refine zz_iconst hx hb dX6_placeIn_28 ?_
      refine lv_istore_n (lv' := [(3, .int (iI (0 : Int))), (0, .ref b0), (1, .int (iI x)), (2, .int (iI t))]) hx hb dX6_placeIn_29 rfl hl (by decide) rfl (fun ls hl => ?_)
      refine zz_iconst hx hb dX6_placeIn_30 ?_
      refine lv_istore (lv' := [(4, .int (iI (0 : Int))), (3, .int (iI (0 : Int))), (0, .ref b0), (1, .int (iI x)), (2, .int (iI t))]) hx hb dX6_placeIn_31 hl (by decide) rfl (fun ls hl => ?_)
      have lp33 : ∀ (d33 : Nat), ∀ (k : Nat) (v3 v4 : Int) (hk : k ≤ n) (e4 : v4 = (k : Int)) (e3 : v3 = sumI (fun i => w (13 + o_25 i)) k) (hA : ∀ j, j < k → ¬ o_25 j = g), n - k < d33 → ∀ (H : Heap) (locs : List Loc), va_P (dC, dI) vwCl [(b0, .inr (6, [.ref b1, .ref b2, .ref b3, .ref b4, .int (iI ns), .int (iI ia), .ref b5, .int (iI ((tn : Nat) : Int)), .int (iI ta), .ref b6, .ref b7, .ref b8, .ref b9, .ref b10, .ref b11, .ref b12])), (b1, .inl (cI, 37, .inl (fun z9 => iI (w z9)))), (b2, .inl (cI, 148, .inl (fun z9 => iI (pa z9)))), (b3, .inl (cI, 37, .inl (fun z9 => iI (ad z9)))), (b4, .inl (cI, 37, .inl (fun z9 => iI (be z9)))), (b5, .inl (cC, 60, .inl (fun z9 => iI (tx z9)))), (b6, .inl (cI, 8, .inl (fun z9 => iI (u_25.1 z9)))), (b7, .inl (cI, 8, .inl (fun z9 => iI (u_25.2.1 z9)))), (b8, .inl (cI, 8, .inl (fun z9 => iI (u_25.2.2.1 z9)))), (b9, .inl (cI, 8, .inl (fun z9 => iI (u_25.2.2.2.1 z9)))), (b10, .inl (cI, 8, .inl (fun z9 => iI (u_25.2.2.2.2.1 z9)))), (b11, .inl (cI, 8, .inl (fun z9 => iI (u_25.2.2.2.2.2 z9)))), (b12, .inl (cI, 1600, .inl (fun z9 => iI (mo z9))))] H → va_D A [(b0, .inr (6, [.ref b1, .ref b2, .ref b3, .ref b4, .int (iI ns), .int (iI ia), .ref b5, .int (iI ((tn : Nat) : Int)), .int (iI ta), .ref b6, .ref b7, .ref b8, .ref b9, .ref b10, .ref b11, .ref b12])), (b1, .inl (cI, 37, .inl (fun z9 => iI (w z9)))), (b2, .inl (cI, 148, .inl (fun z9 => iI (pa z9)))), (b3, .inl (cI, 37, .inl (fun z9 => iI (ad z9)))), (b4, .inl (cI, 37, .inl (fun z9 => iI (be z9)))), (b5, .inl (cC, 60, .inl (fun z9 => iI (tx z9)))), (b6, .inl (cI, 8, .inl (fun z9 => iI (u_25.1 z9)))), (b7, .inl (cI, 8, .inl (fun z9 => iI (u_25.2.1 z9)))), (b8, .inl (cI, 8, .inl (fun z9 => iI (u_25.2.2.1 z9)))), (b9, .inl (cI, 8, .inl (fun z9 => iI (u_25.2.2.2.1 z9)))), (b10, .inl (cI, 8, .inl (fun z9 => iI (u_25.2.2.2.2.1 z9)))), (b11, .inl (cI, 8, .inl (fun z9 => iI (u_25.2.2.2.2.2 z9)))), (b12, .inl (cI, 1600, .inl (fun z9 => iI (mo z9))))] → va_S A s.heap H locs → ∀ ls : Array Slot, lv_has ls 5 [(0, .ref b0), (1, .int (iI x)), (2, .int (iI t)), (3, .int (iI v3)), (4, .int (iI v4))] → W p l e ({ frames := 3, cells := 0, slots := 0, locals := 69 } : Room) s m args below meth c H locs 0 0 (MQ below (wr_Q (fun (z : Int) (u : MC × MX) => u.1 = (w, pa, ad, ns, ia, tx, tn) ∧ mPlaceIn w n x t z) (fun u t => va_P (dC, dI) vwCl (wMU cI cC b0 b1 b2 b3 b4 b5 b6 b7 b8 b9 b10 b11 b12 u.1 u.2) t.heap) A) args s 0 0 A) (F0 m 33 ls []) := by
        intro d33
        induction d33 with
        | zero =>
          intro k v3 v4 hk e4 e3 hA hd33
          exact absurd hd33 (Nat.not_lt_zero _)
        | succ d33 ih33 =>
          intro k v3 v4 hk e4 e3 hA hd33 H locs hP hD hS ls hl
          have hkn : k < n := by (obtain ⟨k9, h9, h8⟩ := hL_25.sur hg9); (rcases Nat.lt_or_ge k n with q9 | q9); exact q9; exact absurd h8 (hA k9 (by omega))
          have hS9 := sumI_bd (f := fun i => w (13 + o_25 i)) (a := 0) (b := 20) (n := k) (fun j hj => by have := hok.at (hL_25.lt (show j < n by omega)); omega)
          refine lv_aload_n hx hb dX6_placeIn_33 rfl (lv_at hl 0 rfl) ?_
          refine va_get (D := (dC, dI)) (ci := 6) (v := .ref b6) (C := RX6) (T := TX6) (N := 16) hx hb hts hw6 hown hK hP 0 rfl rfl 9 (by decide) hf26 (fun _ h9 => h9) rfl dX6_placeIn_34 ?_
          refine lv_iload hx hb dX6_placeIn_37 (lv_at hl 4 rfl) ?_
          refine zz_ialdv hx hb hK hP 6 0 (f := u_25.1) rfl rfl (by decide) k (by omega) (by omega) (v := ((o_25 k : Nat) : Int)) (Lay.od hL_25 (j := k) (by omega)) dX6_placeIn_39 ?_
          have lo_39 := Lay.lt hL_25 (j := k) (by omega)
          refine lv_iload_n hx hb dX6_placeIn_40 rfl (lv_at hl 1 rfl) ?_
          refine zz_icmp_eq (tgt := 68) hx hb dX6_placeIn_41 (by decide) (by omega) (by omega) (fun c_41 => ?_) (fun c_41 => ?_)
          · skip
            refine lv_aload_n hx hb dX6_placeIn_68 rfl (lv_at hl 0 rfl) ?_
            refine va_get (D := (dC, dI)) (ci := 6) (v := .ref b10) (C := RX6) (T := TX6) (N := 16) hx hb hts hw6 hown hK hP 0 rfl rfl 13 (by decide) hf38 (fun _ h9 => h9) rfl dX6_placeIn_69 ?_
            refine lv_iload hx hb dX6_placeIn_72 (lv_at hl 4 rfl) ?_
            refine zz_iald hx hb hK hP 10 0 (f := u_25.2.2.2.2.1) rfl rfl (by decide) k (by omega) (by omega) dX6_placeIn_74 ?_
            have bth := GoM.bd hok hL_25 (by omega) hGo_25 (k := k) (by omega)
            refine lv_iload_n hx hb dX6_placeIn_75 rfl (lv_at hl 3 rfl) ?_
            refine zz_iadd hx hb dX6_placeIn_76 ?_
            refine lv_aload_n hx hb dX6_placeIn_77 rfl (lv_at hl 0 rfl) ?_
            refine va_get (D := (dC, dI)) (ci := 6) (v := .ref b1) (C := RX6) (T := TX6) (N := 16) hx hb hts hw6 hown hK hP 0 rfl rfl 0 (by decide) hf7 (fun _ h9 => h9) rfl dX6_placeIn_78 ?_
            refine zz_iconst hx hb dX6_placeIn_81 ?_
            refine zz_iald hx hb hK hP 1 0 (f := w) rfl rfl (by decide) 0 (by omega) (by omega) dX6_placeIn_82 ?_
            refine ro_S (As := [.int (iI ((u_25.2.2.2.2.1 k) + v3)), .int (iI (w 0))]) (rest := []) ⟨hx, hb, hml, hown, hts⟩ (c_X6_rest l dC dI cI cJ cC cO ((u_25.2.2.2.2.1 k) + v3) (w 0) (by omega) (by omega)) (cwS 2 hts gX6_placeIn_X6_rest rfl rfl rfl (by decide +kernel) ⟨Nat.le_of_ble_eq_true rfl, Nat.le_of_ble_eq_true rfl⟩) hK hP [] rfl rfl hl.1 rfl (Nat.le_of_ble_eq_true rfl) dX6_placeIn_83 ⟨Nat.zero_le _, Nat.zero_le _⟩ (fun z_83 hz_83 => ?_)
            subst hz_83
            have bz_83 := fm_b (x := ((u_25.2.2.2.2.1 k) + v3)) (y := (w 0)) (by omega)
            exact W.iret (v := iI (((u_25.2.2.2.2.1 k) + v3) % (w 0))) hx hb hr (fun t9 ht9 hW9 => ⟨⟨(((u_25.2.2.2.2.1 k) + v3) % (w 0)), ((w, pa, ad, ns, ia, tx, tn), ((be, ta), u_25.1, u_25.2.1, u_25.2.2.1, u_25.2.2.2.1, u_25.2.2.2.2.1, u_25.2.2.2.2.2, mo)), rfl, by first | exact ⟨rfl, Or.inl ⟨by omega, by omega⟩⟩ | exact ⟨rfl, Or.inr ⟨g, eg, by omega, Or.inl ⟨by omega, by omega⟩⟩⟩ | exact ⟨rfl, Or.inr ⟨g, eg, by omega, Or.inr ⟨by omega, o_25, _, _, _, _, k, hL_25, hGo_25, hkn, by omega, by rw [← e3]⟩⟩⟩, by show va_P _ _ _ t9.heap; rw [ht9]; exact hP⟩, hS.F ht9⟩) hS.2.2 dX6_placeIn_86
          · skip
            refine lv_iload_n hx hb dX6_placeIn_44 rfl (lv_at hl 3 rfl) ?_
            refine lv_aload_n hx hb dX6_placeIn_45 rfl (lv_at hl 0 rfl) ?_
            refine va_get (D := (dC, dI)) (ci := 6) (v := .ref b1) (C := RX6) (T := TX6) (N := 16) hx hb hts hw6 hown hK hP 0 rfl rfl 0 (by decide) hf7 (fun _ h9 => h9) rfl dX6_placeIn_46 ?_
            refine zz_bipush hx hb dX6_placeIn_49 (by decide +kernel) ?_
            refine lv_aload_n hx hb dX6_placeIn_51 rfl (lv_at hl 0 rfl) ?_
            refine va_get (D := (dC, dI)) (ci := 6) (v := .ref b6) (C := RX6) (T := TX6) (N := 16) hx hb hts hw6 hown hK hP 0 rfl rfl 9 (by decide) hf26 (fun _ h9 => h9) rfl dX6_placeIn_52 ?_
            refine lv_iload hx hb dX6_placeIn_55 (lv_at hl 4 rfl) ?_
            refine zz_ialdv hx hb hK hP 6 0 (f := u_25.1) rfl rfl (by decide) k (by omega) (by omega) (v := ((o_25 k : Nat) : Int)) (Lay.od hL_25 (j := k) (by omega)) dX6_placeIn_57 ?_
            have lo_57 := Lay.lt hL_25 (j := k) (by omega)
            refine zz_iadd hx hb dX6_placeIn_58 ?_
            refine zz_iald hx hb hK hP 1 0 (f := w) rfl rfl (by decide) (13 + (o_25 k)) (by omega) (by omega) dX6_placeIn_59 ?_
            have b_59 := hok.at (k := (o_25 k)) (by omega)
            refine zz_iadd hx hb dX6_placeIn_60 ?_
            refine lv_istore_n (lv' := [(3, .int (iI (v3 + (w (13 + (o_25 k)))))), (0, .ref b0), (1, .int (iI x)), (2, .int (iI t)), (4, .int (iI v4))]) hx hb dX6_placeIn_61 rfl hl (by decide) rfl (fun ls hl => ?_)
            refine zz_iinc (lv' := [(4, .int (iI (v4 + (1 : Int)))), (3, .int (iI (v3 + (w (13 + (o_25 k)))))), (0, .ref b0), (1, .int (iI x)), (2, .int (iI t))]) hx hb dX6_placeIn_62 hl (k := 4) rfl (by decide) rfl (fun ls hl => ?_)
            refine lv_goto (tgt := 33) hx hb dX6_placeIn_65 (by decide) ?_
            exact ih33 (k + 1) (v3 + (w (13 + (o_25 k)))) (v4 + (1 : Int)) (by omega) (by omega) (by rw [sumI_s, ← e3]) (fun j hj => by (rcases Nat.lt_succ_iff_lt_or_eq.mp hj with q9 | q9); exact hA j q9; (subst q9; omega)) (by omega) H locs hP hD hS ls (lv_sub hl [2, 3, 4, 1, 0] rfl)
      exact lp33 _ 0 (0 : Int) (0 : Int) (by omega) (by omega) (by simp [sumI]) (fun j hj => absurd hj (Nat.not_lt_zero j)) (Nat.lt_succ_self _) H locs hP hD hS ls (lv_sub hl [2, 3, 4, 1, 0] rfl)
    · skip
      refine zz_bipush hx hb dX6_placeIn_20 (by decide +kernel) ?_
      exact W.iret (v := iI (-2 : Int)) hx hb hr (fun t9 ht9 hW9 => ⟨⟨(-2 : Int), ((w, pa, ad, ns, ia, tx, tn), ((be, ta), od, pt, tu, fa, th, ss, mo)), rfl, by first | exact ⟨rfl, Or.inl ⟨by omega, by omega⟩⟩ | exact ⟨rfl, Or.inr ⟨g, eg, by omega, Or.inl ⟨by omega, by omega⟩⟩⟩ | exact ⟨rfl, Or.inr ⟨g, eg, by omega, Or.inr ⟨by omega, o_25, _, _, _, _, k, hL_25, hGo_25, hkn, by omega, by rw [← e3]⟩⟩⟩, by show va_P _ _ _ t9.heap; rw [ht9]; exact hP⟩, hS.F ht9⟩) hS.2.2 dX6_placeIn_22
  · skip
    refine zz_iconst hx hb dX6_placeIn_8 ?_
    exact W.iret (v := iI (-1 : Int)) hx hb hr (fun t9 ht9 hW9 => ⟨⟨(-1 : Int), ((w, pa, ad, ns, ia, tx, tn), ((be, ta), od, pt, tu, fa, th, ss, mo)), rfl, by first | exact ⟨rfl, Or.inl ⟨by omega, by omega⟩⟩ | exact ⟨rfl, Or.inr ⟨g, eg, by omega, Or.inl ⟨by omega, by omega⟩⟩⟩ | exact ⟨rfl, Or.inr ⟨g, eg, by omega, Or.inr ⟨by omega, o_25, _, _, _, _, k, hL_25, hGo_25, hkn, by omega, by rw [← e3]⟩⟩⟩, by show va_P _ _ _ t9.heap; rw [ht9]; exact hP⟩, hS.F ht9⟩) hS.2.2 dX6_placeIn_9
set_option maxHeartbeats 4000000 in
set_option maxRecDepth 100000 in
theorem c_X6_speedIn (l : Launch) (dC : Nat → ClassId) (dI : Nat → Nat → Nat) (cI cJ cC cO : ClassId) (b0 b1 b2 b3 b4 b5 b6 b7 b8 b9 b10 b11 b12 : Nat) (w pa ad be : Nat → Int) (ns ia : Int) (tx : Nat → Int) (tn : Nat) (ta : Int) (od pt tu fa th ss mo : Nat → Int) (hns : 0 ≤ ns ∧ ns ≤ 4) (hia : 0 ≤ ia ∧ ia ≤ 1) (hto : TOk tn tx) (n : Nat) (hok : MOk w n) (x : Int) (bx : -2147483648 ≤ x ∧ x < 2147483648) (t : Int) (bt : -2147483648 ≤ t ∧ t < 2147483648) : Met l yX6_speedIn wsX6_speedIn ({ frames := 3, cells := 0, slots := 0, locals := 69 } : Room) (va_Pc [.ref b0, .int (iI x), .int (iI t)] (wr_B (dC, dI) vwCl (tyG cI cJ cC cO) (wM cI cC b0 b1 b2 b3 b4 b5 b6 b7 b8 b9 b10 b11 b12 w pa ad be ns ia tx ((tn : Nat) : Int) ta od pt tu fa th ss mo))) (wr_Q (fun (z : Int) (u : MC × MX) => u.1 = (w, pa, ad, ns, ia, tx, tn) ∧ mSpeedIn w n x t z) (fun u t => va_P (dC, dI) vwCl (wMU cI cC b0 b1 b2 b3 b4 b5 b6 b7 b8 b9 b10 b11 b12 u.1 u.2) t.heap) (wr_A (wM cI cC b0 b1 b2 b3 b4 b5 b6 b7 b8 b9 b10 b11 b12 w pa ad be ns ia tx ((tn : Nat) : Int) ta od pt tu fa th ss mo))) 0 0 (wr_A (wM cI cC b0 b1 b2 b3 b4 b5 b6 b7 b8 b9 b10 b11 b12 w pa ad be ns ia tx ((tn : Nat) : Int) ta od pt tu fa th ss mo)) := by
  refine Met.ofW (cc := cX6_speedIn) (maxL := 4) (ret := (some .int)) (by decide) rfl ?_
  intro p e s m args below meth c s₁ B hml hv
  obtain ⟨hav, hP, hK, hD0⟩ := hv
  have hx := B.exec
  have hb := B.bytes
  have hr := B.returns
  have hts := atoms_spec (ws := wsX6_speedIn) B.pre
  have hown : s.vm.findClass RX6 = some m.cls := findClass_of_methodNamed B.named
  have hlocks := B.notSynchronized
  have hf7 := hts (.fieldLink RX6 7 "RingRodsModel" "row" "[I") (by decide +kernel)
  have hf26 := hts (.fieldLink RX6 26 "RingRodsModel" "order" "[I") (by decide +kernel)
  have hf41 := hts (.fieldLink RX6 41 "RingRodsModel" "speed" "[I") (by decide +kernel)
  have hw6 : ∀ w ∈ u_ws RX6 TX6 16, w ∈ wsX6_speedIn := by decide +kernel
  have hD := va_D.slf hD0
  have hS : va_S (wr_A (wM cI cC b0 b1 b2 b3 b4 b5 b6 b7 b8 b9 b10 b11 b12 w pa ad be ns ia tx ((tn : Nat) : Int) ta od pt tu fa th ss mo)) s.heap s.heap [] := va_S.rf
  show W p l e ({ frames := 3, cells := 0, slots := 0, locals := 69 } : Room) s m args below meth c s.heap [] 0 0 (MQ below (wr_Q (fun (z : Int) (u : MC × MX) => u.1 = (w, pa, ad, ns, ia, tx, tn) ∧ mSpeedIn w n x t z) (fun u t => va_P (dC, dI) vwCl (wMU cI cC b0 b1 b2 b3 b4 b5 b6 b7 b8 b9 b10 b11 b12 u.1 u.2) t.heap) (wr_A (wM cI cC b0 b1 b2 b3 b4 b5 b6 b7 b8 b9 b10 b11 b12 w pa ad be ns ia tx ((tn : Nat) : Int) ta od pt tu fa th ss mo))) args s 0 0 (wr_A (wM cI cC b0 b1 b2 b3 b4 b5 b6 b7 b8 b9 b10 b11 b12 w pa ad be ns ia tx ((tn : Nat) : Int) ta od pt tu fa th ss mo))) (entryFrame m args 4)
  generalize hAe : wr_A (wM cI cC b0 b1 b2 b3 b4 b5 b6 b7 b8 b9 b10 b11 b12 w pa ad be ns ia tx ((tn : Nat) : Int) ta od pt tu fa th ss mo) = A at hD hS ⊢
  have hP : va_P (dC, dI) vwCl [(b0, .inr (6, [.ref b1, .ref b2, .ref b3, .ref b4, .int (iI ns), .int (iI ia), .ref b5, .int (iI ((tn : Nat) : Int)), .int (iI ta), .ref b6, .ref b7, .ref b8, .ref b9, .ref b10, .ref b11, .ref b12])), (b1, .inl (cI, 37, .inl (fun z9 => iI (w z9)))), (b2, .inl (cI, 148, .inl (fun z9 => iI (pa z9)))), (b3, .inl (cI, 37, .inl (fun z9 => iI (ad z9)))), (b4, .inl (cI, 37, .inl (fun z9 => iI (be z9)))), (b5, .inl (cC, 60, .inl (fun z9 => iI (tx z9)))), (b6, .inl (cI, 8, .inl (fun z9 => iI (od z9)))), (b7, .inl (cI, 8, .inl (fun z9 => iI (pt z9)))), (b8, .inl (cI, 8, .inl (fun z9 => iI (tu z9)))), (b9, .inl (cI, 8, .inl (fun z9 => iI (fa z9)))), (b10, .inl (cI, 8, .inl (fun z9 => iI (th z9)))), (b11, .inl (cI, 8, .inl (fun z9 => iI (ss z9)))), (b12, .inl (cI, 1600, .inl (fun z9 => iI (mo z9))))] s.heap := hP
  have hD : va_D A [(b0, .inr (6, [.ref b1, .ref b2, .ref b3, .ref b4, .int (iI ns), .int (iI ia), .ref b5, .int (iI ((tn : Nat) : Int)), .int (iI ta), .ref b6, .ref b7, .ref b8, .ref b9, .ref b10, .ref b11, .ref b12])), (b1, .inl (cI, 37, .inl (fun z9 => iI (w z9)))), (b2, .inl (cI, 148, .inl (fun z9 => iI (pa z9)))), (b3, .inl (cI, 37, .inl (fun z9 => iI (ad z9)))), (b4, .inl (cI, 37, .inl (fun z9 => iI (be z9)))), (b5, .inl (cC, 60, .inl (fun z9 => iI (tx z9)))), (b6, .inl (cI, 8, .inl (fun z9 => iI (od z9)))), (b7, .inl (cI, 8, .inl (fun z9 => iI (pt z9)))), (b8, .inl (cI, 8, .inl (fun z9 => iI (tu z9)))), (b9, .inl (cI, 8, .inl (fun z9 => iI (fa z9)))), (b10, .inl (cI, 8, .inl (fun z9 => iI (th z9)))), (b11, .inl (cI, 8, .inl (fun z9 => iI (ss z9)))), (b12, .inl (cI, 1600, .inl (fun z9 => iI (mo z9))))] := hD
  have hl := lv_entry ([.ref b0, .int (iI x), .int (iI t)]) (n := 4) (Nat.le_of_ble_eq_true rfl)
  have hent : entryFrame m args 4 = F0 m 0 ((lg_sl ([.ref b0, .int (iI x), .int (iI t)]) ++ List.replicate (4 - (lg_sl ([.ref b0, .int (iI x), .int (iI t)])).length) Slot.unset).toArray) [] := by rw [hav]; exact lg_entry_eq ..
  rw [hent]
  generalize (lg_sl ([.ref b0, .int (iI x), .int (iI t)]) ++ List.replicate (4 - (lg_sl ([.ref b0, .int (iI x), .int (iI t)])).length) Slot.unset).toArray = ls at hl ⊢
  have hl : lv_has ls 4 [(0, .ref b0), (1, .int (iI x)), (2, .int (iI t))] := hl
  have bt0 := hto.1
  have bd0 := hok.bd
  have bd1 := hok.fr
  refine lv_aload_n hx hb dX6_speedIn_0 rfl (lv_at hl 0 rfl) ?_
  refine lv_iload_n hx hb dX6_speedIn_1 rfl (lv_at hl 1 rfl) ?_
  refine ro_V (As := [.int (iI x)]) (rest := []) ⟨hx, hb, hml, hown, hts⟩ (c_X6_noRod l dC dI cI cJ cC cO b0 b1 b2 b3 b4 b5 b6 b7 b8 b9 b10 b11 b12 w pa ad be ns ia tx ((tn : Nat) : Int) ta od pt tu fa th ss mo n hok x (by omega)) (cwV 1 hts gX6_speedIn_X6_noRod rfl rfl rfl (by decide +kernel) ⟨Nat.le_of_ble_eq_true rfl, Nat.le_of_ble_eq_true rfl⟩) hK hP [0, 1, 2, 3, 4, 5, 6, 7, 8, 9, 10, 11, 12] rfl 6 0 rfl rfl rfl hl.1 rfl (Nat.le_of_ble_eq_true rfl) dX6_speedIn_2 ⟨Nat.zero_le _, Nat.zero_le _⟩ (fun z_2 hz_2 => ?_)
  refine zz_if_eq (tgt := 10) hx hb dX6_speedIn_5 (by decide) (by omega) (fun c_5 => ?_) (fun c_5 => ?_)
  · skip
    obtain ⟨g, eg⟩ : ∃ g : Nat, x = (g : Int) := ⟨x.toNat, by omega⟩
    have hg9 : g < n := by omega
    refine lv_iload_n hx hb dX6_speedIn_10 rfl (lv_at hl 2 rfl) ?_
    refine zz_iconst hx hb dX6_speedIn_11 ?_
    refine zz_bipush hx hb dX6_speedIn_12 (by decide +kernel) ?_
    refine ro_S (As := [.int (iI t), .int (iI (0 : Int)), .int (iI (100 : Int))]) (rest := []) ⟨hx, hb, hml, hown, hts⟩ (c_X6_in l dC dI cI cJ cC cO t (by omega) (0 : Int) (by omega) (100 : Int) (by omega)) (cwS 3 hts gX6_speedIn_X6_in rfl rfl rfl (by decide +kernel) ⟨Nat.le_of_ble_eq_true rfl, Nat.le_of_ble_eq_true rfl⟩) hK hP [] rfl rfl hl.1 rfl (Nat.le_of_ble_eq_true rfl) dX6_speedIn_14 ⟨Nat.zero_le _, Nat.zero_le _⟩ (fun z_14 hz_14 => ?_)
    refine zz_if_ne (tgt := 23) hx hb dX6_speedIn_17 (by decide) (by omega) (fun c_17 => ?_) (fun c_17 => ?_)
    · skip
      refine lv_iload_n hx hb dX6_speedIn_23 rfl (lv_at hl 2 rfl) ?_
      refine zz_if_ne (tgt := 40) hx hb dX6_speedIn_24 (by decide) (by omega) (fun c_24 => ?_) (fun c_24 => ?_)
      · skip
        refine lv_aload_n hx hb dX6_speedIn_40 rfl (lv_at hl 0 rfl) ?_
        refine lv_iload_n hx hb dX6_speedIn_41 rfl (lv_at hl 2 rfl) ?_
        refine wr_Vv (As := [.int (iI t)]) (rest := []) ⟨hx, hb, hml, hown, hts⟩ (c_X6_go l dC dI cI cJ cC cO b0 b1 b2 b3 b4 b5 b6 b7 b8 b9 b10 b11 b12 w pa ad be ns ia tx ((tn : Nat) : Int) ta od pt tu fa th ss mo n hok t (by omega)) (cwV 1 hts gX6_speedIn_X6_go rfl rfl rfl (by decide +kernel) ⟨Nat.le_of_ble_eq_true rfl, Nat.le_of_ble_eq_true rfl⟩) hK hP hD hS [0, 1, 2, 3, 4, 5, 6, 7, 8, 9, 10, 11, 12] rfl (by decide) 6 0 rfl rfl (fun u_42 => [(b0, .inr (6, [.ref b1, .ref b2, .ref b3, .ref b4, .int (iI ns), .int (iI ia), .ref b5, .int (iI ((tn : Nat) : Int)), .int (iI ta), .ref b6, .ref b7, .ref b8, .ref b9, .ref b10, .ref b11, .ref b12])), (b1, .inl (cI, 37, .inl (fun z9 => iI (w z9)))), (b2, .inl (cI, 148, .inl (fun z9 => iI (pa z9)))), (b3, .inl (cI, 37, .inl (fun z9 => iI (ad z9)))), (b4, .inl (cI, 37, .inl (fun z9 => iI (be z9)))), (b5, .inl (cC, 60, .inl (fun z9 => iI (tx z9)))), (b6, .inl (cI, 8, .inl (fun z9 => iI (u_42.1 z9)))), (b7, .inl (cI, 8, .inl (fun z9 => iI (u_42.2.1 z9)))), (b8, .inl (cI, 8, .inl (fun z9 => iI (u_42.2.2.1 z9)))), (b9, .inl (cI, 8, .inl (fun z9 => iI (u_42.2.2.2.1 z9)))), (b10, .inl (cI, 8, .inl (fun z9 => iI (u_42.2.2.2.2.1 z9)))), (b11, .inl (cI, 8, .inl (fun z9 => iI (u_42.2.2.2.2.2 z9)))), (b12, .inl (cI, 1600, .inl (fun z9 => iI (mo z9))))]) [.inr 0, .inr 1, .inr 2, .inr 3, .inr 4, .inr 5, .inr 6, .inr 7, .inr 8, .inr 9, .inr 10, .inr 11, .inr 12] (fun _ => rfl) (fun _ => rfl) rfl rfl hl.1 rfl (Nat.le_of_ble_eq_true rfl) dX6_speedIn_42 ⟨Nat.zero_le _, Nat.zero_le _⟩ (fun u_42 H locs hz_42 hP hD hS => ?_)
        have hP : va_P (dC, dI) vwCl [(b0, .inr (6, [.ref b1, .ref b2, .ref b3, .ref b4, .int (iI ns), .int (iI ia), .ref b5, .int (iI ((tn : Nat) : Int)), .int (iI ta), .ref b6, .ref b7, .ref b8, .ref b9, .ref b10, .ref b11, .ref b12])), (b1, .inl (cI, 37, .inl (fun z9 => iI (w z9)))), (b2, .inl (cI, 148, .inl (fun z9 => iI (pa z9)))), (b3, .inl (cI, 37, .inl (fun z9 => iI (ad z9)))), (b4, .inl (cI, 37, .inl (fun z9 => iI (be z9)))), (b5, .inl (cC, 60, .inl (fun z9 => iI (tx z9)))), (b6, .inl (cI, 8, .inl (fun z9 => iI (u_42.1 z9)))), (b7, .inl (cI, 8, .inl (fun z9 => iI (u_42.2.1 z9)))), (b8, .inl (cI, 8, .inl (fun z9 => iI (u_42.2.2.1 z9)))), (b9, .inl (cI, 8, .inl (fun z9 => iI (u_42.2.2.2.1 z9)))), (b10, .inl (cI, 8, .inl (fun z9 => iI (u_42.2.2.2.2.1 z9)))), (b11, .inl (cI, 8, .inl (fun z9 => iI (u_42.2.2.2.2.2 z9)))), (b12, .inl (cI, 1600, .inl (fun z9 => iI (mo z9))))] H := hP
        have hD : va_D A [(b0, .inr (6, [.ref b1, .ref b2, .ref b3, .ref b4, .int (iI ns), .int (iI ia), .ref b5, .int (iI ((tn : Nat) : Int)), .int (iI ta), .ref b6, .ref b7, .ref b8, .ref b9, .ref b10, .ref b11, .ref b12])), (b1, .inl (cI, 37, .inl (fun z9 => iI (w z9)))), (b2, .inl (cI, 148, .inl (fun z9 => iI (pa z9)))), (b3, .inl (cI, 37, .inl (fun z9 => iI (ad z9)))), (b4, .inl (cI, 37, .inl (fun z9 => iI (be z9)))), (b5, .inl (cC, 60, .inl (fun z9 => iI (tx z9)))), (b6, .inl (cI, 8, .inl (fun z9 => iI (u_42.1 z9)))), (b7, .inl (cI, 8, .inl (fun z9 => iI (u_42.2.1 z9)))), (b8, .inl (cI, 8, .inl (fun z9 => iI (u_42.2.2.1 z9)))), (b9, .inl (cI, 8, .inl (fun z9 => iI (u_42.2.2.2.1 z9)))), (b10, .inl (cI, 8, .inl (fun z9 => iI (u_42.2.2.2.2.1 z9)))), (b11, .inl (cI, 8, .inl (fun z9 => iI (u_42.2.2.2.2.2 z9)))), (b12, .inl (cI, 1600, .inl (fun z9 => iI (mo z9))))] := hD
        obtain ⟨o_42, hL_42, hGo_42⟩ := hz_42
        refine zz_iconst hx hb dX6_speedIn_45 ?_
        refine lv_istore_n (lv' := [(3, .int (iI (0 : Int))), (0, .ref b0), (1, .int (iI x)), (2, .int (iI t))]) hx hb dX6_speedIn_46 rfl hl (by decide) rfl (fun ls hl => ?_)
        have lp47 : ∀ (d47 : Nat), ∀ (k : Nat) (v3 : Int) (hk : k ≤ n) (e3 : v3 = (k : Int)) (hA : ∀ j, j < k → ¬ o_42 j = g), n - k < d47 → ∀ (H : Heap) (locs : List Loc), va_P (dC, dI) vwCl [(b0, .inr (6, [.ref b1, .ref b2, .ref b3, .ref b4, .int (iI ns), .int (iI ia), .ref b5, .int (iI ((tn : Nat) : Int)), .int (iI ta), .ref b6, .ref b7, .ref b8, .ref b9, .ref b10, .ref b11, .ref b12])), (b1, .inl (cI, 37, .inl (fun z9 => iI (w z9)))), (b2, .inl (cI, 148, .inl (fun z9 => iI (pa z9)))), (b3, .inl (cI, 37, .inl (fun z9 => iI (ad z9)))), (b4, .inl (cI, 37, .inl (fun z9 => iI (be z9)))), (b5, .inl (cC, 60, .inl (fun z9 => iI (tx z9)))), (b6, .inl (cI, 8, .inl (fun z9 => iI (u_42.1 z9)))), (b7, .inl (cI, 8, .inl (fun z9 => iI (u_42.2.1 z9)))), (b8, .inl (cI, 8, .inl (fun z9 => iI (u_42.2.2.1 z9)))), (b9, .inl (cI, 8, .inl (fun z9 => iI (u_42.2.2.2.1 z9)))), (b10, .inl (cI, 8, .inl (fun z9 => iI (u_42.2.2.2.2.1 z9)))), (b11, .inl (cI, 8, .inl (fun z9 => iI (u_42.2.2.2.2.2 z9)))), (b12, .inl (cI, 1600, .inl (fun z9 => iI (mo z9))))] H → va_D A [(b0, .inr (6, [.ref b1, .ref b2, .ref b3, .ref b4, .int (iI ns), .int (iI ia), .ref b5, .int (iI ((tn : Nat) : Int)), .int (iI ta), .ref b6, .ref b7, .ref b8, .ref b9, .ref b10, .ref b11, .ref b12])), (b1, .inl (cI, 37, .inl (fun z9 => iI (w z9)))), (b2, .inl (cI, 148, .inl (fun z9 => iI (pa z9)))), (b3, .inl (cI, 37, .inl (fun z9 => iI (ad z9)))), (b4, .inl (cI, 37, .inl (fun z9 => iI (be z9)))), (b5, .inl (cC, 60, .inl (fun z9 => iI (tx z9)))), (b6, .inl (cI, 8, .inl (fun z9 => iI (u_42.1 z9)))), (b7, .inl (cI, 8, .inl (fun z9 => iI (u_42.2.1 z9)))), (b8, .inl (cI, 8, .inl (fun z9 => iI (u_42.2.2.1 z9)))), (b9, .inl (cI, 8, .inl (fun z9 => iI (u_42.2.2.2.1 z9)))), (b10, .inl (cI, 8, .inl (fun z9 => iI (u_42.2.2.2.2.1 z9)))), (b11, .inl (cI, 8, .inl (fun z9 => iI (u_42.2.2.2.2.2 z9)))), (b12, .inl (cI, 1600, .inl (fun z9 => iI (mo z9))))] → va_S A s.heap H locs → ∀ ls : Array Slot, lv_has ls 4 [(0, .ref b0), (1, .int (iI x)), (2, .int (iI t)), (3, .int (iI v3))] → W p l e ({ frames := 3, cells := 0, slots := 0, locals := 69 } : Room) s m args below meth c H locs 0 0 (MQ below (wr_Q (fun (z : Int) (u : MC × MX) => u.1 = (w, pa, ad, ns, ia, tx, tn) ∧ mSpeedIn w n x t z) (fun u t => va_P (dC, dI) vwCl (wMU cI cC b0 b1 b2 b3 b4 b5 b6 b7 b8 b9 b10 b11 b12 u.1 u.2) t.heap) A) args s 0 0 A) (F0 m 47 ls []) := by
          intro d47
          induction d47 with
          | zero =>
            intro k v3 hk e3 hA hd47
            exact absurd hd47 (Nat.not_lt_zero _)
          | succ d47 ih47 =>
            intro k v3 hk e3 hA hd47 H locs hP hD hS ls hl
            have hkn : k < n := by (obtain ⟨k9, h9, h8⟩ := hL_42.sur hg9); (rcases Nat.lt_or_ge k n with q9 | q9); exact q9; exact absurd h8 (hA k9 (by omega))
            refine lv_aload_n hx hb dX6_speedIn_47 rfl (lv_at hl 0 rfl) ?_
            refine va_get (D := (dC, dI)) (ci := 6) (v := .ref b6) (C := RX6) (T := TX6) (N := 16) hx hb hts hw6 hown hK hP 0 rfl rfl 9 (by decide) hf26 (fun _ h9 => h9) rfl dX6_speedIn_48 ?_
            refine lv_iload_n hx hb dX6_speedIn_51 rfl (lv_at hl 3 rfl) ?_
            refine zz_ialdv hx hb hK hP 6 0 (f := u_42.1) rfl rfl (by decide) k (by omega) (by omega) (v := ((o_42 k : Nat) : Int)) (Lay.od hL_42 (j := k) (by omega)) dX6_speedIn_52 ?_
            have lo_52 := Lay.lt hL_42 (j := k) (by omega)
            refine lv_iload_n hx hb dX6_speedIn_53 rfl (lv_at hl 1 rfl) ?_
            refine zz_icmp_eq (tgt := 63) hx hb dX6_speedIn_54 (by decide) (by omega) (by omega) (fun c_54 => ?_) (fun c_54 => ?_)
            · skip
              refine zz_bipush hx hb dX6_speedIn_63 (by decide +kernel) ?_
              refine lv_aload_n hx hb dX6_speedIn_65 rfl (lv_at hl 0 rfl) ?_
              refine va_get (D := (dC, dI)) (ci := 6) (v := .ref b11) (C := RX6) (T := TX6) (N := 16) hx hb hts hw6 hown hK hP 0 rfl rfl 14 (by decide) hf41 (fun _ h9 => h9) rfl dX6_speedIn_66 ?_
              refine lv_iload_n hx hb dX6_speedIn_69 rfl (lv_at hl 3 rfl) ?_
              refine zz_iald hx hb hK hP 11 0 (f := u_42.2.2.2.2.2) rfl rfl (by decide) k (by omega) (by omega) dX6_speedIn_70 ?_
              refine zz_iadd hx hb dX6_speedIn_71 ?_
              exact W.iret (v := iI ((100 : Int) + (u_42.2.2.2.2.2 k))) hx hb hr (fun t9 ht9 hW9 => ⟨⟨((100 : Int) + (u_42.2.2.2.2.2 k)), ((w, pa, ad, ns, ia, tx, tn), ((be, ta), u_42.1, u_42.2.1, u_42.2.2.1, u_42.2.2.2.1, u_42.2.2.2.2.1, u_42.2.2.2.2.2, mo)), rfl, by first | exact ⟨rfl, Or.inl ⟨by omega, by omega⟩⟩ | exact ⟨rfl, Or.inr ⟨g, eg, by omega, Or.inl ⟨by omega, by omega⟩⟩⟩ | exact ⟨rfl, Or.inr ⟨g, eg, by omega, Or.inr (Or.inl ⟨by omega, by omega⟩)⟩⟩ | exact ⟨rfl, Or.inr ⟨g, eg, by omega, Or.inr (Or.inr ⟨by omega, o_42, _, _, _, _, k, hL_42, hGo_42, hkn, by omega, by rfl⟩)⟩⟩, by show va_P _ _ _ t9.heap; rw [ht9]; exact hP⟩, hS.F ht9⟩) hS.2.2 dX6_speedIn_72
            · skip
              refine zz_iinc (lv' := [(3, .int (iI (v3 + (1 : Int)))), (0, .ref b0), (1, .int (iI x)), (2, .int (iI t))]) hx hb dX6_speedIn_57 hl (k := 3) rfl (by decide) rfl (fun ls hl => ?_)
              refine lv_goto (tgt := 47) hx hb dX6_speedIn_60 (by decide) ?_
              exact ih47 (k + 1) (v3 + (1 : Int)) (by omega) (by omega) (fun j hj => by (rcases Nat.lt_succ_iff_lt_or_eq.mp hj with q9 | q9); exact hA j q9; (subst q9; omega)) (by omega) H locs hP hD hS ls (lv_sub hl [1, 2, 3, 0] rfl)
        exact lp47 _ 0 (0 : Int) (by omega) (by omega) (fun j hj => absurd hj (Nat.not_lt_zero j)) (Nat.lt_succ_self _) H locs hP hD hS ls (lv_sub hl [1, 2, 3, 0] rfl)
      · skip
        refine zz_bipush hx hb dX6_speedIn_27 (by decide +kernel) ?_
        refine lv_aload_n hx hb dX6_speedIn_29 rfl (lv_at hl 0 rfl) ?_
        refine va_get (D := (dC, dI)) (ci := 6) (v := .ref b1) (C := RX6) (T := TX6) (N := 16) hx hb hts hw6 hown hK hP 0 rfl rfl 0 (by decide) hf7 (fun _ h9 => h9) rfl dX6_speedIn_30 ?_
        refine zz_bipush hx hb dX6_speedIn_33 (by decide +kernel) ?_
        refine lv_iload_n hx hb dX6_speedIn_35 rfl (lv_at hl 1 rfl) ?_
        refine zz_iadd hx hb dX6_speedIn_36 ?_
        refine zz_iald hx hb hK hP 1 0 (f := w) rfl rfl (by decide) (21 + g) (by omega) (by omega) dX6_speedIn_37 ?_
        have b_37 := hok.at (k := g) (by omega)
        refine zz_iadd hx hb dX6_speedIn_38 ?_
        exact W.iret (v := iI ((100 : Int) + (w (21 + g)))) hx hb hr (fun t9 ht9 hW9 => ⟨⟨((100 : Int) + (w (21 + g))), ((w, pa, ad, ns, ia, tx, tn), ((be, ta), od, pt, tu, fa, th, ss, mo)), rfl, by first | exact ⟨rfl, Or.inl ⟨by omega, by omega⟩⟩ | exact ⟨rfl, Or.inr ⟨g, eg, by omega, Or.inl ⟨by omega, by omega⟩⟩⟩ | exact ⟨rfl, Or.inr ⟨g, eg, by omega, Or.inr (Or.inl ⟨by omega, by omega⟩)⟩⟩ | exact ⟨rfl, Or.inr ⟨g, eg, by omega, Or.inr (Or.inr ⟨by omega, o_42, _, _, _, _, k, hL_42, hGo_42, hkn, by omega, by rfl⟩)⟩⟩, by show va_P _ _ _ t9.heap; rw [ht9]; exact hP⟩, hS.F ht9⟩) hS.2.2 dX6_speedIn_39
    · skip
      refine zz_bipush hx hb dX6_speedIn_20 (by decide +kernel) ?_
      exact W.iret (v := iI (-2 : Int)) hx hb hr (fun t9 ht9 hW9 => ⟨⟨(-2 : Int), ((w, pa, ad, ns, ia, tx, tn), ((be, ta), od, pt, tu, fa, th, ss, mo)), rfl, by first | exact ⟨rfl, Or.inl ⟨by omega, by omega⟩⟩ | exact ⟨rfl, Or.inr ⟨g, eg, by omega, Or.inl ⟨by omega, by omega⟩⟩⟩ | exact ⟨rfl, Or.inr ⟨g, eg, by omega, Or.inr (Or.inl ⟨by omega, by omega⟩)⟩⟩ | exact ⟨rfl, Or.inr ⟨g, eg, by omega, Or.inr (Or.inr ⟨by omega, o_42, _, _, _, _, k, hL_42, hGo_42, hkn, by omega, by rfl⟩)⟩⟩, by show va_P _ _ _ t9.heap; rw [ht9]; exact hP⟩, hS.F ht9⟩) hS.2.2 dX6_speedIn_22
  · skip
    refine zz_iconst hx hb dX6_speedIn_8 ?_
    exact W.iret (v := iI (-1 : Int)) hx hb hr (fun t9 ht9 hW9 => ⟨⟨(-1 : Int), ((w, pa, ad, ns, ia, tx, tn), ((be, ta), od, pt, tu, fa, th, ss, mo)), rfl, by first | exact ⟨rfl, Or.inl ⟨by omega, by omega⟩⟩ | exact ⟨rfl, Or.inr ⟨g, eg, by omega, Or.inl ⟨by omega, by omega⟩⟩⟩ | exact ⟨rfl, Or.inr ⟨g, eg, by omega, Or.inr (Or.inl ⟨by omega, by omega⟩)⟩⟩ | exact ⟨rfl, Or.inr ⟨g, eg, by omega, Or.inr (Or.inr ⟨by omega, o_42, _, _, _, _, k, hL_42, hGo_42, hkn, by omega, by rfl⟩)⟩⟩, by show va_P _ _ _ t9.heap; rw [ht9]; exact hP⟩, hS.F ht9⟩) hS.2.2 dX6_speedIn_9
set_option maxHeartbeats 4000000 in
set_option maxRecDepth 100000 in
theorem c_X6_count (l : Launch) (dC : Nat → ClassId) (dI : Nat → Nat → Nat) (cI cJ cC cO : ClassId) (b0 b1 b2 b3 b4 b5 b6 b7 b8 b9 b10 b11 b12 : Nat) (w pa ad be : Nat → Int) (ns ia : Int) (tx : Nat → Int) (tn : Nat) (ta : Int) (od pt tu fa th ss mo : Nat → Int) (hns : 0 ≤ ns ∧ ns ≤ 4) (hia : 0 ≤ ia ∧ ia ≤ 1) (hto : TOk tn tx) (n : Nat) (hok : MOk w n) (v : Int) (bv : -2147483648 ≤ v ∧ v < 2147483648) : Met l yX6_count wsX6_count ({ frames := 4, cells := 0, slots := 0, locals := 91 } : Room) (va_Pc [.ref b0, .int (iI v)] (wr_B (dC, dI) vwCl (tyG cI cJ cC cO) (wM cI cC b0 b1 b2 b3 b4 b5 b6 b7 b8 b9 b10 b11 b12 w pa ad be ns ia tx ((tn : Nat) : Int) ta od pt tu fa th ss mo))) (wr_Q (fun (z : Int) (u : MC × MX) => u.1 = (w, pa, ad, ns, ia, tx, tn) ∧ mCount w n ns tn v z) (fun u t => va_P (dC, dI) vwCl (wMU cI cC b0 b1 b2 b3 b4 b5 b6 b7 b8 b9 b10 b11 b12 u.1 u.2) t.heap) (wr_A (wM cI cC b0 b1 b2 b3 b4 b5 b6 b7 b8 b9 b10 b11 b12 w pa ad be ns ia tx ((tn : Nat) : Int) ta od pt tu fa th ss mo))) 0 0 (wr_A (wM cI cC b0 b1 b2 b3 b4 b5 b6 b7 b8 b9 b10 b11 b12 w pa ad be ns ia tx ((tn : Nat) : Int) ta od pt tu fa th ss mo)) := by
  refine Met.ofW (cc := cX6_count) (maxL := 2) (ret := (some .int)) (by decide) rfl ?_
  intro p e s m args below meth c s₁ B hml hv
  obtain ⟨hav, hP, hK, hD0⟩ := hv
  have hx := B.exec
  have hb := B.bytes
  have hr := B.returns
  have hts := atoms_spec (ws := wsX6_count) B.pre
  have hown : s.vm.findClass RX6 = some m.cls := findClass_of_methodNamed B.named
  have hlocks := B.notSynchronized
  have hf7 := hts (.fieldLink RX6 7 "RingRodsModel" "row" "[I") (by decide +kernel)
  have hf47 := hts (.fieldLink RX6 47 "RingRodsModel" "states" "I") (by decide +kernel)
  have hf128 := hts (.fieldLink RX6 128 "RingRodsModel" "length" "I") (by decide +kernel)
  have hw6 : ∀ w ∈ u_ws RX6 TX6 16, w ∈ wsX6_count := by decide +kernel
  have hD := va_D.slf hD0
  have hS : va_S (wr_A (wM cI cC b0 b1 b2 b3 b4 b5 b6 b7 b8 b9 b10 b11 b12 w pa ad be ns ia tx ((tn : Nat) : Int) ta od pt tu fa th ss mo)) s.heap s.heap [] := va_S.rf
  show W p l e ({ frames := 4, cells := 0, slots := 0, locals := 91 } : Room) s m args below meth c s.heap [] 0 0 (MQ below (wr_Q (fun (z : Int) (u : MC × MX) => u.1 = (w, pa, ad, ns, ia, tx, tn) ∧ mCount w n ns tn v z) (fun u t => va_P (dC, dI) vwCl (wMU cI cC b0 b1 b2 b3 b4 b5 b6 b7 b8 b9 b10 b11 b12 u.1 u.2) t.heap) (wr_A (wM cI cC b0 b1 b2 b3 b4 b5 b6 b7 b8 b9 b10 b11 b12 w pa ad be ns ia tx ((tn : Nat) : Int) ta od pt tu fa th ss mo))) args s 0 0 (wr_A (wM cI cC b0 b1 b2 b3 b4 b5 b6 b7 b8 b9 b10 b11 b12 w pa ad be ns ia tx ((tn : Nat) : Int) ta od pt tu fa th ss mo))) (entryFrame m args 2)
  generalize hAe : wr_A (wM cI cC b0 b1 b2 b3 b4 b5 b6 b7 b8 b9 b10 b11 b12 w pa ad be ns ia tx ((tn : Nat) : Int) ta od pt tu fa th ss mo) = A at hD hS ⊢
  have hP : va_P (dC, dI) vwCl [(b0, .inr (6, [.ref b1, .ref b2, .ref b3, .ref b4, .int (iI ns), .int (iI ia), .ref b5, .int (iI ((tn : Nat) : Int)), .int (iI ta), .ref b6, .ref b7, .ref b8, .ref b9, .ref b10, .ref b11, .ref b12])), (b1, .inl (cI, 37, .inl (fun z9 => iI (w z9)))), (b2, .inl (cI, 148, .inl (fun z9 => iI (pa z9)))), (b3, .inl (cI, 37, .inl (fun z9 => iI (ad z9)))), (b4, .inl (cI, 37, .inl (fun z9 => iI (be z9)))), (b5, .inl (cC, 60, .inl (fun z9 => iI (tx z9)))), (b6, .inl (cI, 8, .inl (fun z9 => iI (od z9)))), (b7, .inl (cI, 8, .inl (fun z9 => iI (pt z9)))), (b8, .inl (cI, 8, .inl (fun z9 => iI (tu z9)))), (b9, .inl (cI, 8, .inl (fun z9 => iI (fa z9)))), (b10, .inl (cI, 8, .inl (fun z9 => iI (th z9)))), (b11, .inl (cI, 8, .inl (fun z9 => iI (ss z9)))), (b12, .inl (cI, 1600, .inl (fun z9 => iI (mo z9))))] s.heap := hP
  have hD : va_D A [(b0, .inr (6, [.ref b1, .ref b2, .ref b3, .ref b4, .int (iI ns), .int (iI ia), .ref b5, .int (iI ((tn : Nat) : Int)), .int (iI ta), .ref b6, .ref b7, .ref b8, .ref b9, .ref b10, .ref b11, .ref b12])), (b1, .inl (cI, 37, .inl (fun z9 => iI (w z9)))), (b2, .inl (cI, 148, .inl (fun z9 => iI (pa z9)))), (b3, .inl (cI, 37, .inl (fun z9 => iI (ad z9)))), (b4, .inl (cI, 37, .inl (fun z9 => iI (be z9)))), (b5, .inl (cC, 60, .inl (fun z9 => iI (tx z9)))), (b6, .inl (cI, 8, .inl (fun z9 => iI (od z9)))), (b7, .inl (cI, 8, .inl (fun z9 => iI (pt z9)))), (b8, .inl (cI, 8, .inl (fun z9 => iI (tu z9)))), (b9, .inl (cI, 8, .inl (fun z9 => iI (fa z9)))), (b10, .inl (cI, 8, .inl (fun z9 => iI (th z9)))), (b11, .inl (cI, 8, .inl (fun z9 => iI (ss z9)))), (b12, .inl (cI, 1600, .inl (fun z9 => iI (mo z9))))] := hD
  have hl := lv_entry ([.ref b0, .int (iI v)]) (n := 2) (Nat.le_of_ble_eq_true rfl)
  have hent : entryFrame m args 2 = F0 m 0 ((lg_sl ([.ref b0, .int (iI v)]) ++ List.replicate (2 - (lg_sl ([.ref b0, .int (iI v)])).length) Slot.unset).toArray) [] := by rw [hav]; exact lg_entry_eq ..
  rw [hent]
  generalize (lg_sl ([.ref b0, .int (iI v)]) ++ List.replicate (2 - (lg_sl ([.ref b0, .int (iI v)])).length) Slot.unset).toArray = ls at hl ⊢
  have hl : lv_has ls 2 [(0, .ref b0), (1, .int (iI v))] := hl
  have bt0 := hto.1
  have bd0 := hok.bd
  have bd1 := hok.fr
  refine lv_iload_n hx hb dX6_count_0 rfl (lv_at hl 1 rfl) ?_
  have htI : (iI v).toInt = v := iI_toInt (by omega)
  rcases (show v = (0 : Int) ∨ v = (1 : Int) ∨ v = (2 : Int) ∨ v = (3 : Int) ∨ v = (4 : Int) ∨ v = (5 : Int) ∨ v = (6 : Int) ∨ v = (7 : Int) ∨ v = (8 : Int) ∨ v = (9 : Int) ∨ v = (10 : Int) ∨ v = (11 : Int) ∨ (v < (0 : Int) ∨ (11 : Int) < v) by omega) with t_1 | t_1 | t_1 | t_1 | t_1 | t_1 | t_1 | t_1 | t_1 | t_1 | t_1 | t_1 | t_1
  · skip
    refine lv_tableIn (off := 63) (tgt := 64) hx hb dX6_count_1 (by rw [htI]; omega) (by rw [htI]; omega) (by rw [htI, t_1]; rfl) (by decide) ?_
    refine lv_aload_n hx hb dX6_count_64 rfl (lv_at hl 0 rfl) ?_
    refine va_get (D := (dC, dI)) (ci := 6) (v := .ref b1) (C := RX6) (T := TX6) (N := 16) hx hb hts hw6 hown hK hP 0 rfl rfl 0 (by decide) hf7 (fun _ h9 => h9) rfl dX6_count_65 ?_
    refine zz_iconst hx hb dX6_count_68 ?_
    refine zz_iald hx hb hK hP 1 0 (f := w) rfl rfl (by decide) 0 (by omega) (by omega) dX6_count_69 ?_
    exact W.iret (v := iI (w 0)) hx hb hr (fun t9 ht9 hW9 => ⟨⟨(w 0), ((w, pa, ad, ns, ia, tx, tn), ((be, ta), od, pt, tu, fa, th, ss, mo)), rfl, by first | exact ⟨rfl, Or.inl (⟨by omega, by omega⟩)⟩ | exact ⟨rfl, Or.inr (Or.inl (⟨by omega, by omega⟩))⟩ | exact ⟨rfl, Or.inr (Or.inr (Or.inl (⟨by omega, by omega⟩)))⟩ | exact ⟨rfl, Or.inr (Or.inr (Or.inr (Or.inl (⟨by omega, by omega⟩))))⟩ | exact ⟨rfl, Or.inr (Or.inr (Or.inr (Or.inr (Or.inl (⟨by omega, by omega⟩)))))⟩ | exact ⟨rfl, Or.inr (Or.inr (Or.inr (Or.inr (Or.inr (Or.inl (⟨by omega, by omega⟩))))))⟩ | exact ⟨rfl, Or.inr (Or.inr (Or.inr (Or.inr (Or.inr (Or.inr (Or.inl (⟨by omega, by omega⟩)))))))⟩ | exact ⟨rfl, Or.inr (Or.inr (Or.inr (Or.inr (Or.inr (Or.inr (Or.inr (Or.inl (⟨by omega, by omega⟩))))))))⟩ | exact ⟨rfl, Or.inr (Or.inr (Or.inr (Or.inr (Or.inr (Or.inr (Or.inr (Or.inr (Or.inl (⟨by omega, o_122, _, _, hL_122, e_122⟩)))))))))⟩ | exact ⟨rfl, Or.inr (Or.inr (Or.inr (Or.inr (Or.inr (Or.inr (Or.inr (Or.inr (Or.inr (Or.inl (⟨by omega, o_128, _, _, hL_128, e_128⟩))))))))))⟩ | exact ⟨rfl, Or.inr (Or.inr (Or.inr (Or.inr (Or.inr (Or.inr (Or.inr (Or.inr (Or.inr (Or.inr (Or.inl (⟨by omega, by omega⟩)))))))))))⟩ | exact ⟨rfl, Or.inr (Or.inr (Or.inr (Or.inr (Or.inr (Or.inr (Or.inr (Or.inr (Or.inr (Or.inr (Or.inr (Or.inl (⟨by omega, by omega⟩))))))))))))⟩ | exact ⟨rfl, Or.inr (Or.inr (Or.inr (Or.inr (Or.inr (Or.inr (Or.inr (Or.inr (Or.inr (Or.inr (Or.inr (Or.inr (⟨by omega, by omega⟩))))))))))))⟩, by show va_P _ _ _ t9.heap; rw [ht9]; exact hP⟩, hS.F ht9⟩) hS.2.2 dX6_count_70
  · skip
    refine lv_tableIn (off := 70) (tgt := 71) hx hb dX6_count_1 (by rw [htI]; omega) (by rw [htI]; omega) (by rw [htI, t_1]; rfl) (by decide) ?_
    refine lv_aload_n hx hb dX6_count_71 rfl (lv_at hl 0 rfl) ?_
    refine va_get (D := (dC, dI)) (ci := 6) (v := .ref b1) (C := RX6) (T := TX6) (N := 16) hx hb hts hw6 hown hK hP 0 rfl rfl 0 (by decide) hf7 (fun _ h9 => h9) rfl dX6_count_72 ?_
    refine zz_iconst hx hb dX6_count_75 ?_
    refine zz_iald hx hb hK hP 1 0 (f := w) rfl rfl (by decide) 1 (by omega) (by omega) dX6_count_76 ?_
    exact W.iret (v := iI (w 1)) hx hb hr (fun t9 ht9 hW9 => ⟨⟨(w 1), ((w, pa, ad, ns, ia, tx, tn), ((be, ta), od, pt, tu, fa, th, ss, mo)), rfl, by first | exact ⟨rfl, Or.inl (⟨by omega, by omega⟩)⟩ | exact ⟨rfl, Or.inr (Or.inl (⟨by omega, by omega⟩))⟩ | exact ⟨rfl, Or.inr (Or.inr (Or.inl (⟨by omega, by omega⟩)))⟩ | exact ⟨rfl, Or.inr (Or.inr (Or.inr (Or.inl (⟨by omega, by omega⟩))))⟩ | exact ⟨rfl, Or.inr (Or.inr (Or.inr (Or.inr (Or.inl (⟨by omega, by omega⟩)))))⟩ | exact ⟨rfl, Or.inr (Or.inr (Or.inr (Or.inr (Or.inr (Or.inl (⟨by omega, by omega⟩))))))⟩ | exact ⟨rfl, Or.inr (Or.inr (Or.inr (Or.inr (Or.inr (Or.inr (Or.inl (⟨by omega, by omega⟩)))))))⟩ | exact ⟨rfl, Or.inr (Or.inr (Or.inr (Or.inr (Or.inr (Or.inr (Or.inr (Or.inl (⟨by omega, by omega⟩))))))))⟩ | exact ⟨rfl, Or.inr (Or.inr (Or.inr (Or.inr (Or.inr (Or.inr (Or.inr (Or.inr (Or.inl (⟨by omega, o_122, _, _, hL_122, e_122⟩)))))))))⟩ | exact ⟨rfl, Or.inr (Or.inr (Or.inr (Or.inr (Or.inr (Or.inr (Or.inr (Or.inr (Or.inr (Or.inl (⟨by omega, o_128, _, _, hL_128, e_128⟩))))))))))⟩ | exact ⟨rfl, Or.inr (Or.inr (Or.inr (Or.inr (Or.inr (Or.inr (Or.inr (Or.inr (Or.inr (Or.inr (Or.inl (⟨by omega, by omega⟩)))))))))))⟩ | exact ⟨rfl, Or.inr (Or.inr (Or.inr (Or.inr (Or.inr (Or.inr (Or.inr (Or.inr (Or.inr (Or.inr (Or.inr (Or.inl (⟨by omega, by omega⟩))))))))))))⟩ | exact ⟨rfl, Or.inr (Or.inr (Or.inr (Or.inr (Or.inr (Or.inr (Or.inr (Or.inr (Or.inr (Or.inr (Or.inr (Or.inr (⟨by omega, by omega⟩))))))))))))⟩, by show va_P _ _ _ t9.heap; rw [ht9]; exact hP⟩, hS.F ht9⟩) hS.2.2 dX6_count_77
  · skip
    refine lv_tableIn (off := 77) (tgt := 78) hx hb dX6_count_1 (by rw [htI]; omega) (by rw [htI]; omega) (by rw [htI, t_1]; rfl) (by decide) ?_
    refine lv_aload_n hx hb dX6_count_78 rfl (lv_at hl 0 rfl) ?_
    refine ro_V (As := []) (rest := []) ⟨hx, hb, hml, hown, hts⟩ (c_X6_free l dC dI cI cJ cC cO b0 b1 b2 b3 b4 b5 b6 b7 b8 b9 b10 b11 b12 w pa ad be ns ia tx ((tn : Nat) : Int) ta od pt tu fa th ss mo n hok) (cwV 0 hts gX6_count_X6_free rfl rfl rfl (by decide +kernel) ⟨Nat.le_of_ble_eq_true rfl, Nat.le_of_ble_eq_true rfl⟩) hK hP [0, 1, 2, 3, 4, 5, 6, 7, 8, 9, 10, 11, 12] rfl 6 0 rfl rfl rfl hl.1 rfl (Nat.le_of_ble_eq_true rfl) dX6_count_79 ⟨Nat.zero_le _, Nat.zero_le _⟩ (fun z_79 hz_79 => ?_)
    subst hz_79
    have bz_79 := hok.fr
    exact W.iret (v := iI (frM w n)) hx hb hr (fun t9 ht9 hW9 => ⟨⟨(frM w n), ((w, pa, ad, ns, ia, tx, tn), ((be, ta), od, pt, tu, fa, th, ss, mo)), rfl, by first | exact ⟨rfl, Or.inl (⟨by omega, by omega⟩)⟩ | exact ⟨rfl, Or.inr (Or.inl (⟨by omega, by omega⟩))⟩ | exact ⟨rfl, Or.inr (Or.inr (Or.inl (⟨by omega, by omega⟩)))⟩ | exact ⟨rfl, Or.inr (Or.inr (Or.inr (Or.inl (⟨by omega, by omega⟩))))⟩ | exact ⟨rfl, Or.inr (Or.inr (Or.inr (Or.inr (Or.inl (⟨by omega, by omega⟩)))))⟩ | exact ⟨rfl, Or.inr (Or.inr (Or.inr (Or.inr (Or.inr (Or.inl (⟨by omega, by omega⟩))))))⟩ | exact ⟨rfl, Or.inr (Or.inr (Or.inr (Or.inr (Or.inr (Or.inr (Or.inl (⟨by omega, by omega⟩)))))))⟩ | exact ⟨rfl, Or.inr (Or.inr (Or.inr (Or.inr (Or.inr (Or.inr (Or.inr (Or.inl (⟨by omega, by omega⟩))))))))⟩ | exact ⟨rfl, Or.inr (Or.inr (Or.inr (Or.inr (Or.inr (Or.inr (Or.inr (Or.inr (Or.inl (⟨by omega, o_122, _, _, hL_122, e_122⟩)))))))))⟩ | exact ⟨rfl, Or.inr (Or.inr (Or.inr (Or.inr (Or.inr (Or.inr (Or.inr (Or.inr (Or.inr (Or.inl (⟨by omega, o_128, _, _, hL_128, e_128⟩))))))))))⟩ | exact ⟨rfl, Or.inr (Or.inr (Or.inr (Or.inr (Or.inr (Or.inr (Or.inr (Or.inr (Or.inr (Or.inr (Or.inl (⟨by omega, by omega⟩)))))))))))⟩ | exact ⟨rfl, Or.inr (Or.inr (Or.inr (Or.inr (Or.inr (Or.inr (Or.inr (Or.inr (Or.inr (Or.inr (Or.inr (Or.inl (⟨by omega, by omega⟩))))))))))))⟩ | exact ⟨rfl, Or.inr (Or.inr (Or.inr (Or.inr (Or.inr (Or.inr (Or.inr (Or.inr (Or.inr (Or.inr (Or.inr (Or.inr (⟨by omega, by omega⟩))))))))))))⟩, by show va_P _ _ _ t9.heap; rw [ht9]; exact hP⟩, hS.F ht9⟩) hS.2.2 dX6_count_82
  · skip
    refine lv_tableIn (off := 82) (tgt := 83) hx hb dX6_count_1 (by rw [htI]; omega) (by rw [htI]; omega) (by rw [htI, t_1]; rfl) (by decide) ?_
    refine lv_aload_n hx hb dX6_count_83 rfl (lv_at hl 0 rfl) ?_
    refine va_get (D := (dC, dI)) (ci := 6) (v := .ref b1) (C := RX6) (T := TX6) (N := 16) hx hb hts hw6 hown hK hP 0 rfl rfl 0 (by decide) hf7 (fun _ h9 => h9) rfl dX6_count_84 ?_
    refine zz_iconst hx hb dX6_count_87 ?_
    refine zz_iald hx hb hK hP 1 0 (f := w) rfl rfl (by decide) 2 (by omega) (by omega) dX6_count_88 ?_
    exact W.iret (v := iI (w 2)) hx hb hr (fun t9 ht9 hW9 => ⟨⟨(w 2), ((w, pa, ad, ns, ia, tx, tn), ((be, ta), od, pt, tu, fa, th, ss, mo)), rfl, by first | exact ⟨rfl, Or.inl (⟨by omega, by omega⟩)⟩ | exact ⟨rfl, Or.inr (Or.inl (⟨by omega, by omega⟩))⟩ | exact ⟨rfl, Or.inr (Or.inr (Or.inl (⟨by omega, by omega⟩)))⟩ | exact ⟨rfl, Or.inr (Or.inr (Or.inr (Or.inl (⟨by omega, by omega⟩))))⟩ | exact ⟨rfl, Or.inr (Or.inr (Or.inr (Or.inr (Or.inl (⟨by omega, by omega⟩)))))⟩ | exact ⟨rfl, Or.inr (Or.inr (Or.inr (Or.inr (Or.inr (Or.inl (⟨by omega, by omega⟩))))))⟩ | exact ⟨rfl, Or.inr (Or.inr (Or.inr (Or.inr (Or.inr (Or.inr (Or.inl (⟨by omega, by omega⟩)))))))⟩ | exact ⟨rfl, Or.inr (Or.inr (Or.inr (Or.inr (Or.inr (Or.inr (Or.inr (Or.inl (⟨by omega, by omega⟩))))))))⟩ | exact ⟨rfl, Or.inr (Or.inr (Or.inr (Or.inr (Or.inr (Or.inr (Or.inr (Or.inr (Or.inl (⟨by omega, o_122, _, _, hL_122, e_122⟩)))))))))⟩ | exact ⟨rfl, Or.inr (Or.inr (Or.inr (Or.inr (Or.inr (Or.inr (Or.inr (Or.inr (Or.inr (Or.inl (⟨by omega, o_128, _, _, hL_128, e_128⟩))))))))))⟩ | exact ⟨rfl, Or.inr (Or.inr (Or.inr (Or.inr (Or.inr (Or.inr (Or.inr (Or.inr (Or.inr (Or.inr (Or.inl (⟨by omega, by omega⟩)))))))))))⟩ | exact ⟨rfl, Or.inr (Or.inr (Or.inr (Or.inr (Or.inr (Or.inr (Or.inr (Or.inr (Or.inr (Or.inr (Or.inr (Or.inl (⟨by omega, by omega⟩))))))))))))⟩ | exact ⟨rfl, Or.inr (Or.inr (Or.inr (Or.inr (Or.inr (Or.inr (Or.inr (Or.inr (Or.inr (Or.inr (Or.inr (Or.inr (⟨by omega, by omega⟩))))))))))))⟩, by show va_P _ _ _ t9.heap; rw [ht9]; exact hP⟩, hS.F ht9⟩) hS.2.2 dX6_count_89
  · skip
    refine lv_tableIn (off := 89) (tgt := 90) hx hb dX6_count_1 (by rw [htI]; omega) (by rw [htI]; omega) (by rw [htI, t_1]; rfl) (by decide) ?_
    refine lv_aload_n hx hb dX6_count_90 rfl (lv_at hl 0 rfl) ?_
    refine va_get (D := (dC, dI)) (ci := 6) (v := .ref b1) (C := RX6) (T := TX6) (N := 16) hx hb hts hw6 hown hK hP 0 rfl rfl 0 (by decide) hf7 (fun _ h9 => h9) rfl dX6_count_91 ?_
    refine zz_iconst hx hb dX6_count_94 ?_
    refine zz_iald hx hb hK hP 1 0 (f := w) rfl rfl (by decide) 3 (by omega) (by omega) dX6_count_95 ?_
    exact W.iret (v := iI (w 3)) hx hb hr (fun t9 ht9 hW9 => ⟨⟨(w 3), ((w, pa, ad, ns, ia, tx, tn), ((be, ta), od, pt, tu, fa, th, ss, mo)), rfl, by first | exact ⟨rfl, Or.inl (⟨by omega, by omega⟩)⟩ | exact ⟨rfl, Or.inr (Or.inl (⟨by omega, by omega⟩))⟩ | exact ⟨rfl, Or.inr (Or.inr (Or.inl (⟨by omega, by omega⟩)))⟩ | exact ⟨rfl, Or.inr (Or.inr (Or.inr (Or.inl (⟨by omega, by omega⟩))))⟩ | exact ⟨rfl, Or.inr (Or.inr (Or.inr (Or.inr (Or.inl (⟨by omega, by omega⟩)))))⟩ | exact ⟨rfl, Or.inr (Or.inr (Or.inr (Or.inr (Or.inr (Or.inl (⟨by omega, by omega⟩))))))⟩ | exact ⟨rfl, Or.inr (Or.inr (Or.inr (Or.inr (Or.inr (Or.inr (Or.inl (⟨by omega, by omega⟩)))))))⟩ | exact ⟨rfl, Or.inr (Or.inr (Or.inr (Or.inr (Or.inr (Or.inr (Or.inr (Or.inl (⟨by omega, by omega⟩))))))))⟩ | exact ⟨rfl, Or.inr (Or.inr (Or.inr (Or.inr (Or.inr (Or.inr (Or.inr (Or.inr (Or.inl (⟨by omega, o_122, _, _, hL_122, e_122⟩)))))))))⟩ | exact ⟨rfl, Or.inr (Or.inr (Or.inr (Or.inr (Or.inr (Or.inr (Or.inr (Or.inr (Or.inr (Or.inl (⟨by omega, o_128, _, _, hL_128, e_128⟩))))))))))⟩ | exact ⟨rfl, Or.inr (Or.inr (Or.inr (Or.inr (Or.inr (Or.inr (Or.inr (Or.inr (Or.inr (Or.inr (Or.inl (⟨by omega, by omega⟩)))))))))))⟩ | exact ⟨rfl, Or.inr (Or.inr (Or.inr (Or.inr (Or.inr (Or.inr (Or.inr (Or.inr (Or.inr (Or.inr (Or.inr (Or.inl (⟨by omega, by omega⟩))))))))))))⟩ | exact ⟨rfl, Or.inr (Or.inr (Or.inr (Or.inr (Or.inr (Or.inr (Or.inr (Or.inr (Or.inr (Or.inr (Or.inr (Or.inr (⟨by omega, by omega⟩))))))))))))⟩, by show va_P _ _ _ t9.heap; rw [ht9]; exact hP⟩, hS.F ht9⟩) hS.2.2 dX6_count_96
  · skip
    refine lv_tableIn (off := 96) (tgt := 97) hx hb dX6_count_1 (by rw [htI]; omega) (by rw [htI]; omega) (by rw [htI, t_1]; rfl) (by decide) ?_
    refine lv_aload_n hx hb dX6_count_97 rfl (lv_at hl 0 rfl) ?_
    refine va_get (D := (dC, dI)) (ci := 6) (v := .ref b1) (C := RX6) (T := TX6) (N := 16) hx hb hts hw6 hown hK hP 0 rfl rfl 0 (by decide) hf7 (fun _ h9 => h9) rfl dX6_count_98 ?_
    refine zz_iconst hx hb dX6_count_101 ?_
    refine zz_iald hx hb hK hP 1 0 (f := w) rfl rfl (by decide) 4 (by omega) (by omega) dX6_count_102 ?_
    exact W.iret (v := iI (w 4)) hx hb hr (fun t9 ht9 hW9 => ⟨⟨(w 4), ((w, pa, ad, ns, ia, tx, tn), ((be, ta), od, pt, tu, fa, th, ss, mo)), rfl, by first | exact ⟨rfl, Or.inl (⟨by omega, by omega⟩)⟩ | exact ⟨rfl, Or.inr (Or.inl (⟨by omega, by omega⟩))⟩ | exact ⟨rfl, Or.inr (Or.inr (Or.inl (⟨by omega, by omega⟩)))⟩ | exact ⟨rfl, Or.inr (Or.inr (Or.inr (Or.inl (⟨by omega, by omega⟩))))⟩ | exact ⟨rfl, Or.inr (Or.inr (Or.inr (Or.inr (Or.inl (⟨by omega, by omega⟩)))))⟩ | exact ⟨rfl, Or.inr (Or.inr (Or.inr (Or.inr (Or.inr (Or.inl (⟨by omega, by omega⟩))))))⟩ | exact ⟨rfl, Or.inr (Or.inr (Or.inr (Or.inr (Or.inr (Or.inr (Or.inl (⟨by omega, by omega⟩)))))))⟩ | exact ⟨rfl, Or.inr (Or.inr (Or.inr (Or.inr (Or.inr (Or.inr (Or.inr (Or.inl (⟨by omega, by omega⟩))))))))⟩ | exact ⟨rfl, Or.inr (Or.inr (Or.inr (Or.inr (Or.inr (Or.inr (Or.inr (Or.inr (Or.inl (⟨by omega, o_122, _, _, hL_122, e_122⟩)))))))))⟩ | exact ⟨rfl, Or.inr (Or.inr (Or.inr (Or.inr (Or.inr (Or.inr (Or.inr (Or.inr (Or.inr (Or.inl (⟨by omega, o_128, _, _, hL_128, e_128⟩))))))))))⟩ | exact ⟨rfl, Or.inr (Or.inr (Or.inr (Or.inr (Or.inr (Or.inr (Or.inr (Or.inr (Or.inr (Or.inr (Or.inl (⟨by omega, by omega⟩)))))))))))⟩ | exact ⟨rfl, Or.inr (Or.inr (Or.inr (Or.inr (Or.inr (Or.inr (Or.inr (Or.inr (Or.inr (Or.inr (Or.inr (Or.inl (⟨by omega, by omega⟩))))))))))))⟩ | exact ⟨rfl, Or.inr (Or.inr (Or.inr (Or.inr (Or.inr (Or.inr (Or.inr (Or.inr (Or.inr (Or.inr (Or.inr (Or.inr (⟨by omega, by omega⟩))))))))))))⟩, by show va_P _ _ _ t9.heap; rw [ht9]; exact hP⟩, hS.F ht9⟩) hS.2.2 dX6_count_103
  · skip
    refine lv_tableIn (off := 103) (tgt := 104) hx hb dX6_count_1 (by rw [htI]; omega) (by rw [htI]; omega) (by rw [htI, t_1]; rfl) (by decide) ?_
    refine zz_sipush hx hb dX6_count_104 (by decide +kernel) ?_
    refine lv_aload_n hx hb dX6_count_107 rfl (lv_at hl 0 rfl) ?_
    refine zz_iconst hx hb dX6_count_108 ?_
    refine ro_V (As := [.int (iI (0 : Int))]) (rest := [.int (iI (1000 : Int))]) ⟨hx, hb, hml, hown, hts⟩ (c_X6_speeds l dC dI cI cJ cC cO b0 b1 b2 b3 b4 b5 b6 b7 b8 b9 b10 b11 b12 w pa ad be ns ia tx ((tn : Nat) : Int) ta od pt tu fa th ss mo n hok (0 : Int) false (by rfl)) (cwV 1 hts gX6_count_X6_speeds rfl rfl rfl (by decide +kernel) ⟨Nat.le_of_ble_eq_true rfl, Nat.le_of_ble_eq_true rfl⟩) hK hP [0, 1, 2, 3, 4, 5, 6, 7, 8, 9, 10, 11, 12] rfl 6 0 rfl rfl rfl hl.1 rfl (Nat.le_of_ble_eq_true rfl) dX6_count_109 ⟨Nat.zero_le _, Nat.zero_le _⟩ (fun z_109 hz_109 => ?_)
    have e_109 : z_109 = sumI (spM w) n := hz_109
    subst e_109
    refine zz_iadd hx hb dX6_count_112 ?_
    exact W.iret (v := iI ((1000 : Int) + (sumI (spM w) n))) hx hb hr (fun t9 ht9 hW9 => ⟨⟨((1000 : Int) + (sumI (spM w) n)), ((w, pa, ad, ns, ia, tx, tn), ((be, ta), od, pt, tu, fa, th, ss, mo)), rfl, by first | exact ⟨rfl, Or.inl (⟨by omega, by omega⟩)⟩ | exact ⟨rfl, Or.inr (Or.inl (⟨by omega, by omega⟩))⟩ | exact ⟨rfl, Or.inr (Or.inr (Or.inl (⟨by omega, by omega⟩)))⟩ | exact ⟨rfl, Or.inr (Or.inr (Or.inr (Or.inl (⟨by omega, by omega⟩))))⟩ | exact ⟨rfl, Or.inr (Or.inr (Or.inr (Or.inr (Or.inl (⟨by omega, by omega⟩)))))⟩ | exact ⟨rfl, Or.inr (Or.inr (Or.inr (Or.inr (Or.inr (Or.inl (⟨by omega, by omega⟩))))))⟩ | exact ⟨rfl, Or.inr (Or.inr (Or.inr (Or.inr (Or.inr (Or.inr (Or.inl (⟨by omega, by omega⟩)))))))⟩ | exact ⟨rfl, Or.inr (Or.inr (Or.inr (Or.inr (Or.inr (Or.inr (Or.inr (Or.inl (⟨by omega, by omega⟩))))))))⟩ | exact ⟨rfl, Or.inr (Or.inr (Or.inr (Or.inr (Or.inr (Or.inr (Or.inr (Or.inr (Or.inl (⟨by omega, o_122, _, _, hL_122, e_122⟩)))))))))⟩ | exact ⟨rfl, Or.inr (Or.inr (Or.inr (Or.inr (Or.inr (Or.inr (Or.inr (Or.inr (Or.inr (Or.inl (⟨by omega, o_128, _, _, hL_128, e_128⟩))))))))))⟩ | exact ⟨rfl, Or.inr (Or.inr (Or.inr (Or.inr (Or.inr (Or.inr (Or.inr (Or.inr (Or.inr (Or.inr (Or.inl (⟨by omega, by omega⟩)))))))))))⟩ | exact ⟨rfl, Or.inr (Or.inr (Or.inr (Or.inr (Or.inr (Or.inr (Or.inr (Or.inr (Or.inr (Or.inr (Or.inr (Or.inl (⟨by omega, by omega⟩))))))))))))⟩ | exact ⟨rfl, Or.inr (Or.inr (Or.inr (Or.inr (Or.inr (Or.inr (Or.inr (Or.inr (Or.inr (Or.inr (Or.inr (Or.inr (⟨by omega, by omega⟩))))))))))))⟩, by show va_P _ _ _ t9.heap; rw [ht9]; exact hP⟩, hS.F ht9⟩) hS.2.2 dX6_count_113
  · skip
    refine lv_tableIn (off := 113) (tgt := 114) hx hb dX6_count_1 (by rw [htI]; omega) (by rw [htI]; omega) (by rw [htI, t_1]; rfl) (by decide) ?_
    refine lv_aload_n hx hb dX6_count_114 rfl (lv_at hl 0 rfl) ?_
    refine zz_iconst hx hb dX6_count_115 ?_
    refine ro_V (As := [.int (iI (1 : Int))]) (rest := []) ⟨hx, hb, hml, hown, hts⟩ (c_X6_speeds l dC dI cI cJ cC cO b0 b1 b2 b3 b4 b5 b6 b7 b8 b9 b10 b11 b12 w pa ad be ns ia tx ((tn : Nat) : Int) ta od pt tu fa th ss mo n hok (1 : Int) true (by rfl)) (cwV 1 hts gX6_count_X6_speeds rfl rfl rfl (by decide +kernel) ⟨Nat.le_of_ble_eq_true rfl, Nat.le_of_ble_eq_true rfl⟩) hK hP [0, 1, 2, 3, 4, 5, 6, 7, 8, 9, 10, 11, 12] rfl 6 0 rfl rfl rfl hl.1 rfl (Nat.le_of_ble_eq_true rfl) dX6_count_116 ⟨Nat.zero_le _, Nat.zero_le _⟩ (fun z_116 hz_116 => ?_)
    have e_116 : z_116 = sumI (fun j => w (21 + j) * w (21 + j)) n := hz_116
    subst e_116
    exact W.iret (v := iI (sumI (fun j => w (21 + j) * w (21 + j)) n)) hx hb hr (fun t9 ht9 hW9 => ⟨⟨(sumI (fun j => w (21 + j) * w (21 + j)) n), ((w, pa, ad, ns, ia, tx, tn), ((be, ta), od, pt, tu, fa, th, ss, mo)), rfl, by first | exact ⟨rfl, Or.inl (⟨by omega, by omega⟩)⟩ | exact ⟨rfl, Or.inr (Or.inl (⟨by omega, by omega⟩))⟩ | exact ⟨rfl, Or.inr (Or.inr (Or.inl (⟨by omega, by omega⟩)))⟩ | exact ⟨rfl, Or.inr (Or.inr (Or.inr (Or.inl (⟨by omega, by omega⟩))))⟩ | exact ⟨rfl, Or.inr (Or.inr (Or.inr (Or.inr (Or.inl (⟨by omega, by omega⟩)))))⟩ | exact ⟨rfl, Or.inr (Or.inr (Or.inr (Or.inr (Or.inr (Or.inl (⟨by omega, by omega⟩))))))⟩ | exact ⟨rfl, Or.inr (Or.inr (Or.inr (Or.inr (Or.inr (Or.inr (Or.inl (⟨by omega, by omega⟩)))))))⟩ | exact ⟨rfl, Or.inr (Or.inr (Or.inr (Or.inr (Or.inr (Or.inr (Or.inr (Or.inl (⟨by omega, by omega⟩))))))))⟩ | exact ⟨rfl, Or.inr (Or.inr (Or.inr (Or.inr (Or.inr (Or.inr (Or.inr (Or.inr (Or.inl (⟨by omega, o_122, _, _, hL_122, e_122⟩)))))))))⟩ | exact ⟨rfl, Or.inr (Or.inr (Or.inr (Or.inr (Or.inr (Or.inr (Or.inr (Or.inr (Or.inr (Or.inl (⟨by omega, o_128, _, _, hL_128, e_128⟩))))))))))⟩ | exact ⟨rfl, Or.inr (Or.inr (Or.inr (Or.inr (Or.inr (Or.inr (Or.inr (Or.inr (Or.inr (Or.inr (Or.inl (⟨by omega, by omega⟩)))))))))))⟩ | exact ⟨rfl, Or.inr (Or.inr (Or.inr (Or.inr (Or.inr (Or.inr (Or.inr (Or.inr (Or.inr (Or.inr (Or.inr (Or.inl (⟨by omega, by omega⟩))))))))))))⟩ | exact ⟨rfl, Or.inr (Or.inr (Or.inr (Or.inr (Or.inr (Or.inr (Or.inr (Or.inr (Or.inr (Or.inr (Or.inr (Or.inr (⟨by omega, by omega⟩))))))))))))⟩, by show va_P _ _ _ t9.heap; rw [ht9]; exact hP⟩, hS.F ht9⟩) hS.2.2 dX6_count_119
  · skip
    refine lv_tableIn (off := 119) (tgt := 120) hx hb dX6_count_1 (by rw [htI]; omega) (by rw [htI]; omega) (by rw [htI, t_1]; rfl) (by decide) ?_
    refine lv_aload_n hx hb dX6_count_120 rfl (lv_at hl 0 rfl) ?_
    refine zz_iconst hx hb dX6_count_121 ?_
    refine wr_V (As := [.int (iI (0 : Int))]) (rest := []) ⟨hx, hb, hml, hown, hts⟩ (c_X6_gaps l dC dI cI cJ cC cO b0 b1 b2 b3 b4 b5 b6 b7 b8 b9 b10 b11 b12 w pa ad be ns ia tx ((tn : Nat) : Int) ta od pt tu fa th ss mo n hok (0 : Int) false (by rfl)) (cwV 1 hts gX6_count_X6_gaps rfl rfl rfl (by decide +kernel) ⟨Nat.le_of_ble_eq_true rfl, Nat.le_of_ble_eq_true rfl⟩) hK hP hD hS [0, 1, 2, 3, 4, 5, 6, 7, 8, 9, 10, 11, 12] rfl (by decide) 6 0 rfl rfl (fun u_122 => [(b0, .inr (6, [.ref b1, .ref b2, .ref b3, .ref b4, .int (iI ns), .int (iI ia), .ref b5, .int (iI ((tn : Nat) : Int)), .int (iI ta), .ref b6, .ref b7, .ref b8, .ref b9, .ref b10, .ref b11, .ref b12])), (b1, .inl (cI, 37, .inl (fun z9 => iI (w z9)))), (b2, .inl (cI, 148, .inl (fun z9 => iI (pa z9)))), (b3, .inl (cI, 37, .inl (fun z9 => iI (ad z9)))), (b4, .inl (cI, 37, .inl (fun z9 => iI (be z9)))), (b5, .inl (cC, 60, .inl (fun z9 => iI (tx z9)))), (b6, .inl (cI, 8, .inl (fun z9 => iI (u_122.1 z9)))), (b7, .inl (cI, 8, .inl (fun z9 => iI (u_122.2 z9)))), (b8, .inl (cI, 8, .inl (fun z9 => iI (tu z9)))), (b9, .inl (cI, 8, .inl (fun z9 => iI (fa z9)))), (b10, .inl (cI, 8, .inl (fun z9 => iI (th z9)))), (b11, .inl (cI, 8, .inl (fun z9 => iI (ss z9)))), (b12, .inl (cI, 1600, .inl (fun z9 => iI (mo z9))))]) [.inr 0, .inr 1, .inr 2, .inr 3, .inr 4, .inr 5, .inr 6, .inr 7, .inr 8, .inr 9, .inr 10, .inr 11, .inr 12] (fun _ => rfl) (fun _ => rfl) rfl rfl hl.1 rfl (Nat.le_of_ble_eq_true rfl) dX6_count_122 ⟨Nat.zero_le _, Nat.zero_le _⟩ (fun z_122 u_122 H locs hz_122 hP hD hS => ?_)
    have hP : va_P (dC, dI) vwCl [(b0, .inr (6, [.ref b1, .ref b2, .ref b3, .ref b4, .int (iI ns), .int (iI ia), .ref b5, .int (iI ((tn : Nat) : Int)), .int (iI ta), .ref b6, .ref b7, .ref b8, .ref b9, .ref b10, .ref b11, .ref b12])), (b1, .inl (cI, 37, .inl (fun z9 => iI (w z9)))), (b2, .inl (cI, 148, .inl (fun z9 => iI (pa z9)))), (b3, .inl (cI, 37, .inl (fun z9 => iI (ad z9)))), (b4, .inl (cI, 37, .inl (fun z9 => iI (be z9)))), (b5, .inl (cC, 60, .inl (fun z9 => iI (tx z9)))), (b6, .inl (cI, 8, .inl (fun z9 => iI (u_122.1 z9)))), (b7, .inl (cI, 8, .inl (fun z9 => iI (u_122.2 z9)))), (b8, .inl (cI, 8, .inl (fun z9 => iI (tu z9)))), (b9, .inl (cI, 8, .inl (fun z9 => iI (fa z9)))), (b10, .inl (cI, 8, .inl (fun z9 => iI (th z9)))), (b11, .inl (cI, 8, .inl (fun z9 => iI (ss z9)))), (b12, .inl (cI, 1600, .inl (fun z9 => iI (mo z9))))] H := hP
    have hD : va_D A [(b0, .inr (6, [.ref b1, .ref b2, .ref b3, .ref b4, .int (iI ns), .int (iI ia), .ref b5, .int (iI ((tn : Nat) : Int)), .int (iI ta), .ref b6, .ref b7, .ref b8, .ref b9, .ref b10, .ref b11, .ref b12])), (b1, .inl (cI, 37, .inl (fun z9 => iI (w z9)))), (b2, .inl (cI, 148, .inl (fun z9 => iI (pa z9)))), (b3, .inl (cI, 37, .inl (fun z9 => iI (ad z9)))), (b4, .inl (cI, 37, .inl (fun z9 => iI (be z9)))), (b5, .inl (cC, 60, .inl (fun z9 => iI (tx z9)))), (b6, .inl (cI, 8, .inl (fun z9 => iI (u_122.1 z9)))), (b7, .inl (cI, 8, .inl (fun z9 => iI (u_122.2 z9)))), (b8, .inl (cI, 8, .inl (fun z9 => iI (tu z9)))), (b9, .inl (cI, 8, .inl (fun z9 => iI (fa z9)))), (b10, .inl (cI, 8, .inl (fun z9 => iI (th z9)))), (b11, .inl (cI, 8, .inl (fun z9 => iI (ss z9)))), (b12, .inl (cI, 1600, .inl (fun z9 => iI (mo z9))))] := hD
    obtain ⟨o_122, hL_122, eg_122⟩ := hz_122
    have e_122 : z_122 = sumI (fun k => if 0 < gpM w n o_122 k then 1 else 0) n := eg_122
    exact W.iret (v := iI z_122) hx hb hr (fun t9 ht9 hW9 => ⟨⟨z_122, ((w, pa, ad, ns, ia, tx, tn), ((be, ta), u_122.1, u_122.2, tu, fa, th, ss, mo)), rfl, by first | exact ⟨rfl, Or.inl (⟨by omega, by omega⟩)⟩ | exact ⟨rfl, Or.inr (Or.inl (⟨by omega, by omega⟩))⟩ | exact ⟨rfl, Or.inr (Or.inr (Or.inl (⟨by omega, by omega⟩)))⟩ | exact ⟨rfl, Or.inr (Or.inr (Or.inr (Or.inl (⟨by omega, by omega⟩))))⟩ | exact ⟨rfl, Or.inr (Or.inr (Or.inr (Or.inr (Or.inl (⟨by omega, by omega⟩)))))⟩ | exact ⟨rfl, Or.inr (Or.inr (Or.inr (Or.inr (Or.inr (Or.inl (⟨by omega, by omega⟩))))))⟩ | exact ⟨rfl, Or.inr (Or.inr (Or.inr (Or.inr (Or.inr (Or.inr (Or.inl (⟨by omega, by omega⟩)))))))⟩ | exact ⟨rfl, Or.inr (Or.inr (Or.inr (Or.inr (Or.inr (Or.inr (Or.inr (Or.inl (⟨by omega, by omega⟩))))))))⟩ | exact ⟨rfl, Or.inr (Or.inr (Or.inr (Or.inr (Or.inr (Or.inr (Or.inr (Or.inr (Or.inl (⟨by omega, o_122, _, _, hL_122, e_122⟩)))))))))⟩ | exact ⟨rfl, Or.inr (Or.inr (Or.inr (Or.inr (Or.inr (Or.inr (Or.inr (Or.inr (Or.inr (Or.inl (⟨by omega, o_128, _, _, hL_128, e_128⟩))))))))))⟩ | exact ⟨rfl, Or.inr (Or.inr (Or.inr (Or.inr (Or.inr (Or.inr (Or.inr (Or.inr (Or.inr (Or.inr (Or.inl (⟨by omega, by omega⟩)))))))))))⟩ | exact ⟨rfl, Or.inr (Or.inr (Or.inr (Or.inr (Or.inr (Or.inr (Or.inr (Or.inr (Or.inr (Or.inr (Or.inr (Or.inl (⟨by omega, by omega⟩))))))))))))⟩ | exact ⟨rfl, Or.inr (Or.inr (Or.inr (Or.inr (Or.inr (Or.inr (Or.inr (Or.inr (Or.inr (Or.inr (Or.inr (Or.inr (⟨by omega, by omega⟩))))))))))))⟩, by show va_P _ _ _ t9.heap; rw [ht9]; exact hP⟩, hS.F ht9⟩) hS.2.2 dX6_count_125
  · skip
    refine lv_tableIn (off := 125) (tgt := 126) hx hb dX6_count_1 (by rw [htI]; omega) (by rw [htI]; omega) (by rw [htI, t_1]; rfl) (by decide) ?_
    refine lv_aload_n hx hb dX6_count_126 rfl (lv_at hl 0 rfl) ?_
    refine zz_iconst hx hb dX6_count_127 ?_
    refine wr_V (As := [.int (iI (1 : Int))]) (rest := []) ⟨hx, hb, hml, hown, hts⟩ (c_X6_gaps l dC dI cI cJ cC cO b0 b1 b2 b3 b4 b5 b6 b7 b8 b9 b10 b11 b12 w pa ad be ns ia tx ((tn : Nat) : Int) ta od pt tu fa th ss mo n hok (1 : Int) true (by rfl)) (cwV 1 hts gX6_count_X6_gaps rfl rfl rfl (by decide +kernel) ⟨Nat.le_of_ble_eq_true rfl, Nat.le_of_ble_eq_true rfl⟩) hK hP hD hS [0, 1, 2, 3, 4, 5, 6, 7, 8, 9, 10, 11, 12] rfl (by decide) 6 0 rfl rfl (fun u_128 => [(b0, .inr (6, [.ref b1, .ref b2, .ref b3, .ref b4, .int (iI ns), .int (iI ia), .ref b5, .int (iI ((tn : Nat) : Int)), .int (iI ta), .ref b6, .ref b7, .ref b8, .ref b9, .ref b10, .ref b11, .ref b12])), (b1, .inl (cI, 37, .inl (fun z9 => iI (w z9)))), (b2, .inl (cI, 148, .inl (fun z9 => iI (pa z9)))), (b3, .inl (cI, 37, .inl (fun z9 => iI (ad z9)))), (b4, .inl (cI, 37, .inl (fun z9 => iI (be z9)))), (b5, .inl (cC, 60, .inl (fun z9 => iI (tx z9)))), (b6, .inl (cI, 8, .inl (fun z9 => iI (u_128.1 z9)))), (b7, .inl (cI, 8, .inl (fun z9 => iI (u_128.2 z9)))), (b8, .inl (cI, 8, .inl (fun z9 => iI (tu z9)))), (b9, .inl (cI, 8, .inl (fun z9 => iI (fa z9)))), (b10, .inl (cI, 8, .inl (fun z9 => iI (th z9)))), (b11, .inl (cI, 8, .inl (fun z9 => iI (ss z9)))), (b12, .inl (cI, 1600, .inl (fun z9 => iI (mo z9))))]) [.inr 0, .inr 1, .inr 2, .inr 3, .inr 4, .inr 5, .inr 6, .inr 7, .inr 8, .inr 9, .inr 10, .inr 11, .inr 12] (fun _ => rfl) (fun _ => rfl) rfl rfl hl.1 rfl (Nat.le_of_ble_eq_true rfl) dX6_count_128 ⟨Nat.zero_le _, Nat.zero_le _⟩ (fun z_128 u_128 H locs hz_128 hP hD hS => ?_)
    have hP : va_P (dC, dI) vwCl [(b0, .inr (6, [.ref b1, .ref b2, .ref b3, .ref b4, .int (iI ns), .int (iI ia), .ref b5, .int (iI ((tn : Nat) : Int)), .int (iI ta), .ref b6, .ref b7, .ref b8, .ref b9, .ref b10, .ref b11, .ref b12])), (b1, .inl (cI, 37, .inl (fun z9 => iI (w z9)))), (b2, .inl (cI, 148, .inl (fun z9 => iI (pa z9)))), (b3, .inl (cI, 37, .inl (fun z9 => iI (ad z9)))), (b4, .inl (cI, 37, .inl (fun z9 => iI (be z9)))), (b5, .inl (cC, 60, .inl (fun z9 => iI (tx z9)))), (b6, .inl (cI, 8, .inl (fun z9 => iI (u_128.1 z9)))), (b7, .inl (cI, 8, .inl (fun z9 => iI (u_128.2 z9)))), (b8, .inl (cI, 8, .inl (fun z9 => iI (tu z9)))), (b9, .inl (cI, 8, .inl (fun z9 => iI (fa z9)))), (b10, .inl (cI, 8, .inl (fun z9 => iI (th z9)))), (b11, .inl (cI, 8, .inl (fun z9 => iI (ss z9)))), (b12, .inl (cI, 1600, .inl (fun z9 => iI (mo z9))))] H := hP
    have hD : va_D A [(b0, .inr (6, [.ref b1, .ref b2, .ref b3, .ref b4, .int (iI ns), .int (iI ia), .ref b5, .int (iI ((tn : Nat) : Int)), .int (iI ta), .ref b6, .ref b7, .ref b8, .ref b9, .ref b10, .ref b11, .ref b12])), (b1, .inl (cI, 37, .inl (fun z9 => iI (w z9)))), (b2, .inl (cI, 148, .inl (fun z9 => iI (pa z9)))), (b3, .inl (cI, 37, .inl (fun z9 => iI (ad z9)))), (b4, .inl (cI, 37, .inl (fun z9 => iI (be z9)))), (b5, .inl (cC, 60, .inl (fun z9 => iI (tx z9)))), (b6, .inl (cI, 8, .inl (fun z9 => iI (u_128.1 z9)))), (b7, .inl (cI, 8, .inl (fun z9 => iI (u_128.2 z9)))), (b8, .inl (cI, 8, .inl (fun z9 => iI (tu z9)))), (b9, .inl (cI, 8, .inl (fun z9 => iI (fa z9)))), (b10, .inl (cI, 8, .inl (fun z9 => iI (th z9)))), (b11, .inl (cI, 8, .inl (fun z9 => iI (ss z9)))), (b12, .inl (cI, 1600, .inl (fun z9 => iI (mo z9))))] := hD
    obtain ⟨o_128, hL_128, eg_128⟩ := hz_128
    have e_128 : z_128 = mxM w n o_128 n := eg_128
    exact W.iret (v := iI z_128) hx hb hr (fun t9 ht9 hW9 => ⟨⟨z_128, ((w, pa, ad, ns, ia, tx, tn), ((be, ta), u_128.1, u_128.2, tu, fa, th, ss, mo)), rfl, by first | exact ⟨rfl, Or.inl (⟨by omega, by omega⟩)⟩ | exact ⟨rfl, Or.inr (Or.inl (⟨by omega, by omega⟩))⟩ | exact ⟨rfl, Or.inr (Or.inr (Or.inl (⟨by omega, by omega⟩)))⟩ | exact ⟨rfl, Or.inr (Or.inr (Or.inr (Or.inl (⟨by omega, by omega⟩))))⟩ | exact ⟨rfl, Or.inr (Or.inr (Or.inr (Or.inr (Or.inl (⟨by omega, by omega⟩)))))⟩ | exact ⟨rfl, Or.inr (Or.inr (Or.inr (Or.inr (Or.inr (Or.inl (⟨by omega, by omega⟩))))))⟩ | exact ⟨rfl, Or.inr (Or.inr (Or.inr (Or.inr (Or.inr (Or.inr (Or.inl (⟨by omega, by omega⟩)))))))⟩ | exact ⟨rfl, Or.inr (Or.inr (Or.inr (Or.inr (Or.inr (Or.inr (Or.inr (Or.inl (⟨by omega, by omega⟩))))))))⟩ | exact ⟨rfl, Or.inr (Or.inr (Or.inr (Or.inr (Or.inr (Or.inr (Or.inr (Or.inr (Or.inl (⟨by omega, o_122, _, _, hL_122, e_122⟩)))))))))⟩ | exact ⟨rfl, Or.inr (Or.inr (Or.inr (Or.inr (Or.inr (Or.inr (Or.inr (Or.inr (Or.inr (Or.inl (⟨by omega, o_128, _, _, hL_128, e_128⟩))))))))))⟩ | exact ⟨rfl, Or.inr (Or.inr (Or.inr (Or.inr (Or.inr (Or.inr (Or.inr (Or.inr (Or.inr (Or.inr (Or.inl (⟨by omega, by omega⟩)))))))))))⟩ | exact ⟨rfl, Or.inr (Or.inr (Or.inr (Or.inr (Or.inr (Or.inr (Or.inr (Or.inr (Or.inr (Or.inr (Or.inr (Or.inl (⟨by omega, by omega⟩))))))))))))⟩ | exact ⟨rfl, Or.inr (Or.inr (Or.inr (Or.inr (Or.inr (Or.inr (Or.inr (Or.inr (Or.inr (Or.inr (Or.inr (Or.inr (⟨by omega, by omega⟩))))))))))))⟩, by show va_P _ _ _ t9.heap; rw [ht9]; exact hP⟩, hS.F ht9⟩) hS.2.2 dX6_count_131
  · skip
    refine lv_tableIn (off := 131) (tgt := 132) hx hb dX6_count_1 (by rw [htI]; omega) (by rw [htI]; omega) (by rw [htI, t_1]; rfl) (by decide) ?_
    refine lv_aload_n hx hb dX6_count_132 rfl (lv_at hl 0 rfl) ?_
    refine va_get (D := (dC, dI)) (ci := 6) (v := .int (iI ns)) (C := RX6) (T := TX6) (N := 16) hx hb hts hw6 hown hK hP 0 rfl rfl 4 (by decide) hf47 (fun _ h9 => h9) rfl dX6_count_133 ?_
    exact W.iret (v := iI ns) hx hb hr (fun t9 ht9 hW9 => ⟨⟨ns, ((w, pa, ad, ns, ia, tx, tn), ((be, ta), od, pt, tu, fa, th, ss, mo)), rfl, by first | exact ⟨rfl, Or.inl (⟨by omega, by omega⟩)⟩ | exact ⟨rfl, Or.inr (Or.inl (⟨by omega, by omega⟩))⟩ | exact ⟨rfl, Or.inr (Or.inr (Or.inl (⟨by omega, by omega⟩)))⟩ | exact ⟨rfl, Or.inr (Or.inr (Or.inr (Or.inl (⟨by omega, by omega⟩))))⟩ | exact ⟨rfl, Or.inr (Or.inr (Or.inr (Or.inr (Or.inl (⟨by omega, by omega⟩)))))⟩ | exact ⟨rfl, Or.inr (Or.inr (Or.inr (Or.inr (Or.inr (Or.inl (⟨by omega, by omega⟩))))))⟩ | exact ⟨rfl, Or.inr (Or.inr (Or.inr (Or.inr (Or.inr (Or.inr (Or.inl (⟨by omega, by omega⟩)))))))⟩ | exact ⟨rfl, Or.inr (Or.inr (Or.inr (Or.inr (Or.inr (Or.inr (Or.inr (Or.inl (⟨by omega, by omega⟩))))))))⟩ | exact ⟨rfl, Or.inr (Or.inr (Or.inr (Or.inr (Or.inr (Or.inr (Or.inr (Or.inr (Or.inl (⟨by omega, o_122, _, _, hL_122, e_122⟩)))))))))⟩ | exact ⟨rfl, Or.inr (Or.inr (Or.inr (Or.inr (Or.inr (Or.inr (Or.inr (Or.inr (Or.inr (Or.inl (⟨by omega, o_128, _, _, hL_128, e_128⟩))))))))))⟩ | exact ⟨rfl, Or.inr (Or.inr (Or.inr (Or.inr (Or.inr (Or.inr (Or.inr (Or.inr (Or.inr (Or.inr (Or.inl (⟨by omega, by omega⟩)))))))))))⟩ | exact ⟨rfl, Or.inr (Or.inr (Or.inr (Or.inr (Or.inr (Or.inr (Or.inr (Or.inr (Or.inr (Or.inr (Or.inr (Or.inl (⟨by omega, by omega⟩))))))))))))⟩ | exact ⟨rfl, Or.inr (Or.inr (Or.inr (Or.inr (Or.inr (Or.inr (Or.inr (Or.inr (Or.inr (Or.inr (Or.inr (Or.inr (⟨by omega, by omega⟩))))))))))))⟩, by show va_P _ _ _ t9.heap; rw [ht9]; exact hP⟩, hS.F ht9⟩) hS.2.2 dX6_count_136
  · skip
    refine lv_tableIn (off := 136) (tgt := 137) hx hb dX6_count_1 (by rw [htI]; omega) (by rw [htI]; omega) (by rw [htI, t_1]; rfl) (by decide) ?_
    refine lv_aload_n hx hb dX6_count_137 rfl (lv_at hl 0 rfl) ?_
    refine va_get (D := (dC, dI)) (ci := 6) (v := .int (iI ((tn : Nat) : Int))) (C := RX6) (T := TX6) (N := 16) hx hb hts hw6 hown hK hP 0 rfl rfl 7 (by decide) hf128 (fun _ h9 => h9) rfl dX6_count_138 ?_
    exact W.iret (v := iI ((tn : Nat) : Int)) hx hb hr (fun t9 ht9 hW9 => ⟨⟨((tn : Nat) : Int), ((w, pa, ad, ns, ia, tx, tn), ((be, ta), od, pt, tu, fa, th, ss, mo)), rfl, by first | exact ⟨rfl, Or.inl (⟨by omega, by omega⟩)⟩ | exact ⟨rfl, Or.inr (Or.inl (⟨by omega, by omega⟩))⟩ | exact ⟨rfl, Or.inr (Or.inr (Or.inl (⟨by omega, by omega⟩)))⟩ | exact ⟨rfl, Or.inr (Or.inr (Or.inr (Or.inl (⟨by omega, by omega⟩))))⟩ | exact ⟨rfl, Or.inr (Or.inr (Or.inr (Or.inr (Or.inl (⟨by omega, by omega⟩)))))⟩ | exact ⟨rfl, Or.inr (Or.inr (Or.inr (Or.inr (Or.inr (Or.inl (⟨by omega, by omega⟩))))))⟩ | exact ⟨rfl, Or.inr (Or.inr (Or.inr (Or.inr (Or.inr (Or.inr (Or.inl (⟨by omega, by omega⟩)))))))⟩ | exact ⟨rfl, Or.inr (Or.inr (Or.inr (Or.inr (Or.inr (Or.inr (Or.inr (Or.inl (⟨by omega, by omega⟩))))))))⟩ | exact ⟨rfl, Or.inr (Or.inr (Or.inr (Or.inr (Or.inr (Or.inr (Or.inr (Or.inr (Or.inl (⟨by omega, o_122, _, _, hL_122, e_122⟩)))))))))⟩ | exact ⟨rfl, Or.inr (Or.inr (Or.inr (Or.inr (Or.inr (Or.inr (Or.inr (Or.inr (Or.inr (Or.inl (⟨by omega, o_128, _, _, hL_128, e_128⟩))))))))))⟩ | exact ⟨rfl, Or.inr (Or.inr (Or.inr (Or.inr (Or.inr (Or.inr (Or.inr (Or.inr (Or.inr (Or.inr (Or.inl (⟨by omega, by omega⟩)))))))))))⟩ | exact ⟨rfl, Or.inr (Or.inr (Or.inr (Or.inr (Or.inr (Or.inr (Or.inr (Or.inr (Or.inr (Or.inr (Or.inr (Or.inl (⟨by omega, by omega⟩))))))))))))⟩ | exact ⟨rfl, Or.inr (Or.inr (Or.inr (Or.inr (Or.inr (Or.inr (Or.inr (Or.inr (Or.inr (Or.inr (Or.inr (Or.inr (⟨by omega, by omega⟩))))))))))))⟩, by show va_P _ _ _ t9.heap; rw [ht9]; exact hP⟩, hS.F ht9⟩) hS.2.2 dX6_count_141
  · skip
    refine lv_tableOut (tgt := 142) hx hb dX6_count_1 (by rw [htI]; omega) (by decide) ?_
    refine zz_bipush hx hb dX6_count_142 (by decide +kernel) ?_
    exact W.iret (v := iI (-2 : Int)) hx hb hr (fun t9 ht9 hW9 => ⟨⟨(-2 : Int), ((w, pa, ad, ns, ia, tx, tn), ((be, ta), od, pt, tu, fa, th, ss, mo)), rfl, by first | exact ⟨rfl, Or.inl (⟨by omega, by omega⟩)⟩ | exact ⟨rfl, Or.inr (Or.inl (⟨by omega, by omega⟩))⟩ | exact ⟨rfl, Or.inr (Or.inr (Or.inl (⟨by omega, by omega⟩)))⟩ | exact ⟨rfl, Or.inr (Or.inr (Or.inr (Or.inl (⟨by omega, by omega⟩))))⟩ | exact ⟨rfl, Or.inr (Or.inr (Or.inr (Or.inr (Or.inl (⟨by omega, by omega⟩)))))⟩ | exact ⟨rfl, Or.inr (Or.inr (Or.inr (Or.inr (Or.inr (Or.inl (⟨by omega, by omega⟩))))))⟩ | exact ⟨rfl, Or.inr (Or.inr (Or.inr (Or.inr (Or.inr (Or.inr (Or.inl (⟨by omega, by omega⟩)))))))⟩ | exact ⟨rfl, Or.inr (Or.inr (Or.inr (Or.inr (Or.inr (Or.inr (Or.inr (Or.inl (⟨by omega, by omega⟩))))))))⟩ | exact ⟨rfl, Or.inr (Or.inr (Or.inr (Or.inr (Or.inr (Or.inr (Or.inr (Or.inr (Or.inl (⟨by omega, o_122, _, _, hL_122, e_122⟩)))))))))⟩ | exact ⟨rfl, Or.inr (Or.inr (Or.inr (Or.inr (Or.inr (Or.inr (Or.inr (Or.inr (Or.inr (Or.inl (⟨by omega, o_128, _, _, hL_128, e_128⟩))))))))))⟩ | exact ⟨rfl, Or.inr (Or.inr (Or.inr (Or.inr (Or.inr (Or.inr (Or.inr (Or.inr (Or.inr (Or.inr (Or.inl (⟨by omega, by omega⟩)))))))))))⟩ | exact ⟨rfl, Or.inr (Or.inr (Or.inr (Or.inr (Or.inr (Or.inr (Or.inr (Or.inr (Or.inr (Or.inr (Or.inr (Or.inl (⟨by omega, by omega⟩))))))))))))⟩ | exact ⟨rfl, Or.inr (Or.inr (Or.inr (Or.inr (Or.inr (Or.inr (Or.inr (Or.inr (Or.inr (Or.inr (Or.inr (Or.inr (⟨by omega, by omega⟩))))))))))))⟩, by show va_P _ _ _ t9.heap; rw [ht9]; exact hP⟩, hS.F ht9⟩) hS.2.2 dX6_count_144
