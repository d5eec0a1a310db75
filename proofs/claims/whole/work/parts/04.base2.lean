/-! methods that change cells, but make none -/
def wr_A (ws : va_W) : Nat → Prop := fun q => ∃ (k : Nat) (e : va_E), ws[k]? = some (q, e)
theorem va_D.slf {ws : va_W} {A : Nat → Prop} (h : va_D A ws) : va_D (wr_A ws) ws := ⟨h.1, fun k q hk => ⟨k, q.2, hk⟩⟩
def wr_B (D : va_G) (cl : List vw_C) (tys : List (ClassId × FieldType)) (ws : va_W) : State → Prop := fun U => va_P D cl ws U.heap ∧ va_K D cl tys U ∧ va_D (fun _ => True) ws
theorem wr_blind {av : List Value} {D : va_G} {cl : List vw_C} {tys : List (ClassId × FieldType)} {ws : va_W} : FrameBlind (va_Pc av (wr_B D cl tys ws)) := fun a U g mk q => by
  obtain ⟨q0, qP, qK, qD⟩ := q
  exact ⟨q0, qP, va_K.moved (u := U) (U := U.calling g mk a) (Vm.Alike.refl U.vm) qK, qD⟩
def wr_Q {S : Type} (post : Int → S → Prop) (B : S → State → Prop) (A : Nat → Prop) : Array Value → State → Outcome → State → Prop := fun _ st oc t => (∃ (z : Int) (u : S), oc = .returned (some (.int (iI z))) ∧ post z u ∧ B u t) ∧ va_F A st t
def wr_Qv {S : Type} (post : S → Prop) (B : S → State → Prop) (A : Nat → Prop) : Array Value → State → Outcome → State → Prop := fun _ st oc t => (∃ u : S, oc = .returned none ∧ post u ∧ B u t) ∧ va_F A st t
theorem wr_pick {ws wc : va_W} {isC : List Nat} (hC : isC.map (fun i => ws[i]?) = wc.map some) (k : Nat) (q : Nat × va_E) (hq : wc[k]? = some q) : ∃ i, isC[k]? = some i ∧ ws[i]? = some q := by
  have h1 : (isC.map (fun i => ws[i]?))[k]? = some (some q) := by rw [hC, List.getElem?_map, hq]; rfl
  rw [List.getElem?_map] at h1
  cases hi : isC[k]? with
  | none => rw [hi] at h1; cases h1
  | some i => rw [hi] at h1; exact ⟨i, rfl, Option.some.inj h1⟩
theorem wr_len {ws wc : va_W} {isC : List Nat} (hC : isC.map (fun i => ws[i]?) = wc.map some) : wc.length = isC.length := by
  have := congrArg List.length hC
  simpa using this.symm
theorem wr_adr {w1 wc : va_W} (h : w1.map (fun q => q.1) = wc.map (fun q => q.1)) (j : Nat) (q : Nat × va_E) (hq : w1[j]? = some q) : ∃ e, wc[j]? = some (q.1, e) := by
  have h1 : (wc.map (fun q => q.1))[j]? = some q.1 := by rw [← h, List.getElem?_map, hq]; rfl
  rw [List.getElem?_map] at h1
  cases hi : wc[j]? with
  | none => rw [hi] at h1; cases h1
  | some x =>
    rw [hi] at h1
    have h2 : x.1 = q.1 := Option.some.inj h1
    exact ⟨x.2, by rw [← h2]⟩
def wr_pk (ws w1 : va_W) : Nat ⊕ Nat → Option (Nat × va_E)
  | .inl i => ws[i]?
  | .inr j => w1[j]?
theorem wr_join {A0 : Nat → Prop} {D : va_G} {cl : List vw_C} {ws wc w1 wn : va_W} {H H1 : Heap} (hP : va_P D cl ws H) (hD : va_D A0 ws) (isC : List Nat) (hC : isC.map (fun i => ws[i]?) = wc.map some)
    (hk : ∀ q : Nat, q < H.size → ¬ wr_A wc q → H1[q]? = H[q]?) (hP1 : va_P D cl w1 H1) (ix : List (Nat ⊕ Nat)) (hix : ix.map (wr_pk ws w1) = wn.map some) (hfst : wn.map (fun q => q.1) = ws.map (fun q => q.1)) (hni : ix.all (fun q => match q with | .inl i => !isC.contains i | .inr _ => true) = true) : va_P D cl wn H1 ∧ va_D A0 wn := by
  refine ⟨fun k q h => ?_, fun i j x y hx hy hxy => ?_, fun k q h => ?_⟩
  · have h1 : (ix.map (wr_pk ws w1))[k]? = some (some q) := by rw [hix, List.getElem?_map, h]; rfl
    rw [List.getElem?_map] at h1
    cases hi : ix[k]? with
    | none => rw [hi] at h1; cases h1
    | some x =>
      rw [hi] at h1
      have h2 : wr_pk ws w1 x = some q := Option.some.inj h1
      cases x with
      | inr j => exact hP1 j q h2
      | inl i =>
        have h3 : ws[i]? = some q := h2
        have h4 := List.all_eq_true.mp hni (.inl i) (List.mem_of_getElem? hi)
        have h5 : i ∉ isC := by simpa using h4
        have hl := (hP i q h3).lt
        refine (hP i q h3).kept (hk q.1 hl (fun ha => ?_))
        obtain ⟨j, e, hj⟩ := ha
        obtain ⟨i2, g1, g2⟩ := wr_pick hC j (q.1, e) hj
        have := hD.1 i i2 q (q.1, e) h3 g2 rfl
        subst this
        exact h5 (List.mem_of_getElem? g1)
  · obtain ⟨e1, g1⟩ := wr_adr hfst i x hx
    obtain ⟨e2, g2⟩ := wr_adr hfst j y hy
    exact hD.1 i j (x.1, e1) (y.1, e2) g1 g2 hxy
  · obtain ⟨e, g⟩ := wr_adr hfst k q h
    exact hD.2 k (q.1, e) g
theorem wr_in {A0 : Nat → Prop} {ws wc : va_W} (hD : va_D A0 ws) {isC : List Nat} (hC : isC.map (fun i => ws[i]?) = wc.map some) : ∀ q, wr_A wc q → A0 q := by
  intro q h
  obtain ⟨k, e, hk⟩ := h
  obtain ⟨i, -, g⟩ := wr_pick hC k (q, e) hk
  exact hD.2 i (q, e) g
section ZW
variable {p : Program} {l : Launch} {e : Env} {R : Room} {s : State} {m : MethodId} {args : Array Value} {below : List Frame} {meth : Method} {c : Code} {H : Heap} {locs : List Loc} {cells slots : Nat} {Q : State → Prop}
variable {cc : ByteArray} {pc : Nat} {ls : Array Slot} {rest : List Value}
variable {D : va_G} {cl : List vw_C} {tys : List (ClassId × FieldType)} {ws wc : va_W} {A : Nat → Prop} {H0 : Heap} {a : Array Value} {st0 : List Value}
theorem wr_go {S : Type} {post : Int → S → Prop} {wf : S → va_W} (hr : va_Run p l e R s m args below meth c H locs cells slots 0 0 (F0 m pc ls st0) rest (wr_Q post (fun u t => va_P D cl (wf u) t.heap) (wr_A wc) a) (wr_A wc)) (hP : va_P D cl ws H) (hD : va_D A ws) (hS : va_S A H0 H locs) (isC : List Nat) (hC : isC.map (fun i => ws[i]?) = wc.map some) (wn : S → va_W) (ix : List (Nat ⊕ Nat)) (hix : ∀ u, ix.map (wr_pk ws (wf u)) = (wn u).map some) (hfst : ∀ u, (wn u).map (fun q => q.1) = ws.map (fun q => q.1)) (hni : ix.all (fun q => match q with | .inl i => !isC.contains i | .inr _ => true) = true)
    (kk : ∀ (z : Int) (u : S) (H1 : Heap) (locs1 : List Loc), post z u → va_P D cl (wn u) H1 → va_D A (wn u) → va_S A H0 H1 locs1 → W p l e R s m args below meth c H1 locs1 cells slots Q (F0 m (pc + 3) ls (.int (iI z) :: rest))) : W p l e R s m args below meth c H locs cells slots Q (F0 m pc ls st0) := by
  intro T hT X
  obtain ⟨v, st₀, t, T', L, h0, X', hL, e1, e2, ⟨⟨z, u, hv, hp, hb⟩, hz, hk⟩, st⟩ := hr T hT X
  cases hv
  rw [h0] at hz hk
  obtain ⟨hP1, hD1⟩ := wr_join hP hD isC hC hk hb ix (hix u) (hfst u) hni
  obtain ⟨t2, a1, b1⟩ := kk z u T'.heap (locs ++ L) hp (by rw [e1]; exact hP1) hD1
    ⟨Nat.le_trans hS.1 (by rw [e1]; exact hz), fun q h1 h2 => by rw [e1, hk q (Nat.lt_of_lt_of_le h1 hS.1) (fun z => h2 (wr_in hD hC q z))]; exact hS.2.1 q h1 h2, fun q hq => by
      rcases List.mem_append.mp hq with h | h
      · exact hS.2.2 q h
      · exact wr_in hD hC _ (hL q h)⟩ T' rfl X'
  exact ⟨t2, st t2 a1, b1⟩
theorem wr_gov {S : Type} {post : S → Prop} {wf : S → va_W} (hr : va_Run p l e R s m args below meth c H locs cells slots 0 0 (F0 m pc ls st0) rest (wr_Qv post (fun u t => va_P D cl (wf u) t.heap) (wr_A wc) a) (wr_A wc)) (hP : va_P D cl ws H) (hD : va_D A ws) (hS : va_S A H0 H locs) (isC : List Nat) (hC : isC.map (fun i => ws[i]?) = wc.map some) (wn : S → va_W) (ix : List (Nat ⊕ Nat)) (hix : ∀ u, ix.map (wr_pk ws (wf u)) = (wn u).map some) (hfst : ∀ u, (wn u).map (fun q => q.1) = ws.map (fun q => q.1)) (hni : ix.all (fun q => match q with | .inl i => !isC.contains i | .inr _ => true) = true)
    (kk : ∀ (u : S) (H1 : Heap) (locs1 : List Loc), post u → va_P D cl (wn u) H1 → va_D A (wn u) → va_S A H0 H1 locs1 → W p l e R s m args below meth c H1 locs1 cells slots Q (F0 m (pc + 3) ls rest)) : W p l e R s m args below meth c H locs cells slots Q (F0 m pc ls st0) := by
  intro T hT X
  obtain ⟨v, st₀, t, T', L, h0, X', hL, e1, e2, ⟨⟨u, hv, hp, hb⟩, hz, hk⟩, st⟩ := hr T hT X
  cases hv
  rw [h0] at hz hk
  obtain ⟨hP1, hD1⟩ := wr_join hP hD isC hC hk hb ix (hix u) (hfst u) hni
  obtain ⟨t2, a1, b1⟩ := kk u T'.heap (locs ++ L) hp (by rw [e1]; exact hP1) hD1
    ⟨Nat.le_trans hS.1 (by rw [e1]; exact hz), fun q h1 h2 => by rw [e1, hk q (Nat.lt_of_lt_of_le h1 hS.1) (fun z => h2 (wr_in hD hC q z))]; exact hS.2.1 q h1 h2, fun q hq => by
      rcases List.mem_append.mp hq with h | h
      · exact hS.2.2 q h
      · exact wr_in hD hC _ (hL q h)⟩ T' rfl X'
  exact ⟨t2, st t2 a1, b1⟩
variable {y : MethodName} {bytes : ByteArray} {maxL nL n index : Nat} {ret : Option FieldType} {wy Ts : List Cond} {rm : Room} {own C : String} {b : Addr} {As : List Value}
theorem wr_V {S : Type} {post : Int → S → Prop} {wf : S → va_W} (Sx : CallFix p m c cc nL s args Ts own) (hM : Met l y wy rm (va_Pc (.ref b :: As) (wr_B D cl tys wc)) (wr_Q post (fun u t => va_P D cl (wf u) t.heap) (wr_A wc)) 0 0 (wr_A wc)) (cw : CallW R s args own C index y bytes maxL ret wy rm 0 0 n) (hK : va_K D cl tys s) (hP : va_P D cl ws H) (hD : va_D A ws) (hS : va_S A H0 H locs) (isC : List Nat) (hC : isC.map (fun i => ws[i]?) = wc.map some) (hnd : va_nd isC = true) (ci q0 : Nat) {fs : List Value} {N : Nat} {T : u_T} (hc : cl[ci]? = some (C, T, N)) (hq : wc[q0]? = some (b, .inr (ci, fs))) (wn : S → va_W) (ix : List (Nat ⊕ Nat)) (hix : ∀ u, ix.map (wr_pk ws (wf u)) = (wn u).map some) (hfst : ∀ u, (wn u).map (fun q => q.1) = ws.map (fun q => q.1)) (hni : ix.all (fun q => match q with | .inl i => !isC.contains i | .inr _ => true) = true) (hn : As.length = n) (hsize : ls.size = nL) (hst : st0 = As.reverse ++ .ref b :: rest) (hW : (rest.map fun v => v.category).sum ≤ 8) (hdg : decode cc pc = .ok (.invokevirtual index, 3)) (hc0 : cells ≤ R.cells ∧ slots ≤ R.slots)
    (kk : ∀ (z : Int) (u : S) (H1 : Heap) (locs1 : List Loc), post z u → va_P D cl (wn u) H1 → va_D A (wn u) → va_S A H0 H1 locs1 → W p l e R s m args below meth c H1 locs1 cells slots Q (F0 m (pc + 3) ls (.int (iI z) :: rest))) : W p l e R s m args below meth c H locs cells slots Q (F0 m pc ls st0) := by
  have hPc : va_P D cl wc H := fun k q hq => by
    obtain ⟨i, -, g⟩ := wr_pick hC k q hq
    exact hP i q g
  have hDc : va_D (fun _ => True) wc := (hD.sub isC hnd hC).weaken (fun _ _ _ _ => trivial)
  exact wr_go (va_runV (rest := rest) Sx hM cw ⟨wr_blind, va_recv hK hPc hc hq, fun U hU hW => ⟨rfl, by rw [hU]; exact hPc, va_K.moved hW.alike hK, hDc⟩⟩ rfl hn hsize hst (by show 2 * 0 + _ ≤ 8; omega) hdg hc0) hP hD hS isC hC wn ix hix hfst hni kk
theorem wr_Vv {S : Type} {post : S → Prop} {wf : S → va_W} (Sx : CallFix p m c cc nL s args Ts own) (hM : Met l y wy rm (va_Pc (.ref b :: As) (wr_B D cl tys wc)) (wr_Qv post (fun u t => va_P D cl (wf u) t.heap) (wr_A wc)) 0 0 (wr_A wc)) (cw : CallW R s args own C index y bytes maxL ret wy rm 0 0 n) (hK : va_K D cl tys s) (hP : va_P D cl ws H) (hD : va_D A ws) (hS : va_S A H0 H locs) (isC : List Nat) (hC : isC.map (fun i => ws[i]?) = wc.map some) (hnd : va_nd isC = true) (ci q0 : Nat) {fs : List Value} {N : Nat} {T : u_T} (hc : cl[ci]? = some (C, T, N)) (hq : wc[q0]? = some (b, .inr (ci, fs))) (wn : S → va_W) (ix : List (Nat ⊕ Nat)) (hix : ∀ u, ix.map (wr_pk ws (wf u)) = (wn u).map some) (hfst : ∀ u, (wn u).map (fun q => q.1) = ws.map (fun q => q.1)) (hni : ix.all (fun q => match q with | .inl i => !isC.contains i | .inr _ => true) = true) (hn : As.length = n) (hsize : ls.size = nL) (hst : st0 = As.reverse ++ .ref b :: rest) (hW : (rest.map fun v => v.category).sum ≤ 8) (hdg : decode cc pc = .ok (.invokevirtual index, 3)) (hc0 : cells ≤ R.cells ∧ slots ≤ R.slots)
    (kk : ∀ (u : S) (H1 : Heap) (locs1 : List Loc), post u → va_P D cl (wn u) H1 → va_D A (wn u) → va_S A H0 H1 locs1 → W p l e R s m args below meth c H1 locs1 cells slots Q (F0 m (pc + 3) ls rest)) : W p l e R s m args below meth c H locs cells slots Q (F0 m pc ls st0) := by
  have hPc : va_P D cl wc H := fun k q hq => by
    obtain ⟨i, -, g⟩ := wr_pick hC k q hq
    exact hP i q g
  have hDc : va_D (fun _ => True) wc := (hD.sub isC hnd hC).weaken (fun _ _ _ _ => trivial)
  exact wr_gov (va_runV (rest := rest) Sx hM cw ⟨wr_blind, va_recv hK hPc hc hq, fun U hU hW => ⟨rfl, by rw [hU]; exact hPc, va_K.moved hW.alike hK, hDc⟩⟩ rfl hn hsize hst (by show 2 * 0 + _ ≤ 8; omega) hdg hc0) hP hD hS isC hC wn ix hix hfst hni kk
theorem wr_Sv {S : Type} {post : S → Prop} {wf : S → va_W} (Sx : CallFix p m c cc nL s args Ts own) (hM : Met l y wy rm (va_Pc As (wr_B D cl tys wc)) (wr_Qv post (fun u t => va_P D cl (wf u) t.heap) (wr_A wc)) 0 0 (wr_A wc)) (cw : CallB R s args own index y bytes maxL ret wy rm 0 0 n ∧ (Cond.static y).before args s = true) (hK : va_K D cl tys s) (hP : va_P D cl ws H) (hD : va_D A ws) (hS : va_S A H0 H locs) (isC : List Nat) (hC : isC.map (fun i => ws[i]?) = wc.map some) (hnd : va_nd isC = true) (wn : S → va_W) (ix : List (Nat ⊕ Nat)) (hix : ∀ u, ix.map (wr_pk ws (wf u)) = (wn u).map some) (hfst : ∀ u, (wn u).map (fun q => q.1) = ws.map (fun q => q.1)) (hni : ix.all (fun q => match q with | .inl i => !isC.contains i | .inr _ => true) = true) (hn : As.length = n) (hsize : ls.size = nL) (hst : st0 = As.reverse ++ rest) (hW : (rest.map fun v => v.category).sum ≤ 8) (hdg : decode cc pc = .ok (.invokestatic index, 3)) (hc0 : cells ≤ R.cells ∧ slots ≤ R.slots)
    (kk : ∀ (u : S) (H1 : Heap) (locs1 : List Loc), post u → va_P D cl (wn u) H1 → va_D A (wn u) → va_S A H0 H1 locs1 → W p l e R s m args below meth c H1 locs1 cells slots Q (F0 m (pc + 3) ls rest)) : W p l e R s m args below meth c H locs cells slots Q (F0 m pc ls st0) := by
  have hPc : va_P D cl wc H := fun k q hq => by
    obtain ⟨i, -, g⟩ := wr_pick hC k q hq
    exact hP i q g
  have hDc : va_D (fun _ => True) wc := (hD.sub isC hnd hC).weaken (fun _ _ _ _ => trivial)
  exact wr_gov (va_runS (rest := rest) Sx hM cw ⟨wr_blind, fun U hU hW => ⟨rfl, by rw [hU]; exact hPc, va_K.moved hW.alike hK, hDc⟩⟩ rfl hn hsize hst (by show 2 * 0 + _ ≤ 8; omega) hdg hc0) hP hD hS isC hC wn ix hix hfst hni kk
/-! Math.min and Math.max of whole numbers -/
theorem zz_mmin {own' : String} {ix nl : Nat} (hx : p.tables.exec = Jvm.exec) (hb : c.code = cc) (hml : c.maxLocals = nl) (hsz : ls.size = nl) (hown : s.vm.findClass own' = some m.cls) (hlink : (Cond.methodLink own' ix Lib.Math.min.name).before args s = true) (hstat : (Cond.static Lib.Math.min.name).before args s = true) (hini : (Cond.initialized "java/lang/Math").before args s = true) (hcode : (Cond.code Lib.Math.min.name Lib.Math.min.code 2 (some .int)).before args s = true) (hfr : 1 ≤ R.frames) (hlo : (rest.map fun v => v.category).sum + 13 ≤ R.locals) (hc : cells ≤ R.cells) (hs : slots ≤ R.slots) {x y : Int} (h1 : -2147483648 ≤ x ∧ x < 2147483648) (h2 : -2147483648 ≤ y ∧ y < 2147483648) (hdg : decode cc pc = .ok (.invokestatic ix, 3)) (k : W p l e R s m args below meth c H locs cells slots Q (F0 m (pc + 3) ls (.int (iI (min x y)) :: rest))) : W p l e R s m args below meth c H locs cells slots Q (F0 m pc ls (.int (iI y) :: .int (iI x) :: rest)) := by
  refine va_mmin hx hb (hml.trans hsz.symm) hown hlink hstat hini hcode hfr hlo hc hs hdg ?_
  have : (if iI y < iI x then iI y else iI x) = iI (min x y) := by
    by_cases q : y < x
    · rw [if_pos ((iI_lt h2 h1).mpr q), Int.min_eq_right (by omega)]
    · rw [if_neg (fun z => q ((iI_lt h2 h1).mp z)), Int.min_eq_left (by omega)]
  rw [this]; exact k
theorem zz_mmax {own' : String} {ix nl : Nat} (hx : p.tables.exec = Jvm.exec) (hb : c.code = cc) (hml : c.maxLocals = nl) (hsz : ls.size = nl) (hown : s.vm.findClass own' = some m.cls) (hlink : (Cond.methodLink own' ix Lib.Math.max.name).before args s = true) (hstat : (Cond.static Lib.Math.max.name).before args s = true) (hini : (Cond.initialized "java/lang/Math").before args s = true) (hcode : (Cond.code Lib.Math.max.name Lib.Math.max.code 2 (some .int)).before args s = true) (hfr : 1 ≤ R.frames) (hlo : (rest.map fun v => v.category).sum + 13 ≤ R.locals) (hc : cells ≤ R.cells) (hs : slots ≤ R.slots) {x y : Int} (h1 : -2147483648 ≤ x ∧ x < 2147483648) (h2 : -2147483648 ≤ y ∧ y < 2147483648) (hdg : decode cc pc = .ok (.invokestatic ix, 3)) (k : W p l e R s m args below meth c H locs cells slots Q (F0 m (pc + 3) ls (.int (iI (max x y)) :: rest))) : W p l e R s m args below meth c H locs cells slots Q (F0 m pc ls (.int (iI y) :: .int (iI x) :: rest)) := by
  refine va_mmax hx hb (hml.trans hsz.symm) hown hlink hstat hini hcode hfr hlo hc hs hdg ?_
  have : (if iI x < iI y then iI y else iI x) = iI (max x y) := by
    by_cases q : x < y
    · rw [if_pos ((iI_lt h1 h2).mpr q), Int.max_eq_right (by omega)]
    · rw [if_neg (fun z => q ((iI_lt h1 h2).mp z)), Int.max_eq_left (by omega)]
  rw [this]; exact k
end ZW
theorem fm_cases {x y : Int} (hy : 0 < y) : (x < 0 ∧ x.tmod y ≠ 0 → x % y = x.tmod y + y ∧ x / y = x.tdiv y - 1) ∧ (0 ≤ x ∨ x.tmod y = 0 → x % y = x.tmod y ∧ x / y = x.tdiv y) ∧ x.tdiv y * y = x - x.tmod y ∧ -y < x.tmod y ∧ x.tmod y < y ∧ (0 ≤ x → 0 ≤ x.tmod y) ∧ (x ≤ 0 → x.tmod y ≤ 0) := by
  have h1 := Int.tmod_add_mul_tdiv x y
  have h2 := Int.emod_add_mul_ediv x y
  have h3 := Int.emod_nonneg x (b := y) (by omega)
  have h4 := Int.emod_lt_of_pos x hy
  have h5 : x.tdiv y * y = x - x.tmod y := by rw [Int.mul_comm]; omega
  have h6 : (0 ≤ x → 0 ≤ x.tmod y) := fun h => Int.tmod_nonneg y h
  have h7 : (x ≤ 0 → x.tmod y ≤ 0) := fun h => by
    have := Int.tmod_nonneg y (a := -x) (by omega)
    rw [Int.neg_tmod] at this
    omega
  have h8 : x.tmod y < y := Int.tmod_lt_of_pos x hy
  have h9 : -y < x.tmod y := by
    have := Int.tmod_lt_of_pos (-x) hy
    rw [Int.neg_tmod] at this
    omega
  have key : ∀ q r : Int, y * q + r = x → 0 ≤ r → r < y → x % y = r ∧ x / y = q := by
    intro q r e r0 r1
    have hd : (x / y - q) * y = r - x % y := by
      have : y * (x / y) = x - x % y := by omega
      rw [Int.sub_mul, Int.mul_comm (x / y), Int.mul_comm q]
      omega
    have hq : x / y - q = 0 := by
      rcases Int.lt_trichotomy (x / y - q) 0 with h | h | h
      · have : (x / y - q) * y ≤ (-1) * y := Int.mul_le_mul_of_nonneg_right (by omega) (by omega)
        omega
      · exact h
      · have : 1 * y ≤ (x / y - q) * y := Int.mul_le_mul_of_nonneg_right (by omega) (by omega)
        omega
    rw [hq] at hd
    omega
  refine ⟨fun ⟨a, b⟩ => ?_, fun a => ?_, h5, h9, h8, h6, h7⟩
  · have := h7 (by omega)
    have := key (x.tdiv y - 1) (x.tmod y + y) (by rw [Int.mul_sub]; omega) (by omega) (by omega)
    exact this
  · exact key (x.tdiv y) (x.tmod y) (by omega) (by rcases a with a | a; exact h6 a; omega) h8
theorem fd_bd {x y : Int} (hy : 0 < y) : (-x.natAbs : Int) ≤ x.tdiv y ∧ x.tdiv y ≤ x.natAbs := by
  have h1 := Int.natAbs_tdiv_le_natAbs x y
  omega
theorem fm_xor {x y : Int} (hx : -2147483648 < x ∧ x < 2147483648) (hy : 0 < y ∧ y < 2147483648) : ∃ z : Int, iI x ^^^ iI y = iI z ∧ (0 ≤ z ↔ 0 ≤ x) ∧ (-2147483648 ≤ z ∧ z < 2147483648) := by
  refine ⟨(iI x ^^^ iI y).toInt, (iI_of _).symm, ?_, iI_rng _⟩
  have h1 : ∀ w : Int32, (0 ≤ w.toInt ↔ w.toBitVec.msb = false) := fun w => by
    show (0 ≤ w.toBitVec.toInt ↔ _)
    rw [BitVec.toInt_eq_msb_cond]
    have := w.toBitVec.isLt
    split <;> simp_all <;> omega
  have e1 := h1 (iI x)
  have e2 := h1 (iI y)
  have e3 := h1 (iI x ^^^ iI y)
  rw [iI_toInt ⟨by omega, by omega⟩] at e1 e2
  rw [e3, Int32.toBitVec_xor, BitVec.msb_xor]
  have e4 : (iI y).toBitVec.msb = false := e2.mp (by omega)
  rw [e4, e1]
  simp
theorem zz_nchar {z : Int} (h : 0 ≤ z ∧ z < 65536) : narrow .char (.int (iI z)) = .int (iI z) := by
  obtain ⟨k, rfl⟩ : ∃ k : Nat, z = (k : Int) := ⟨z.toNat, by omega⟩
  exact (pk_charN (q := k) (by omega)).1
theorem zz_pchar {z : Int} (h : 0 ≤ z ∧ z < 65536) : vp_nar .char (iI z) = iI z := by
  simp only [vp_nar, zz_nchar h]
section ZC
variable {p : Program} {l : Launch} {e : Env} {R : Room} {s : State} {m : MethodId} {args : Array Value} {below : List Frame} {meth : Method} {c : Code} {H : Heap} {locs : List Loc} {cells slots : Nat} {Q : State → Prop}
variable {cc : ByteArray} {pc : Nat} {ls : Array Slot} {rest : List Value}
variable {D : va_G} {cl : List vw_C} {tys : List (ClassId × FieldType)} {ws : va_W} {A : Nat → Prop} {H0 : Heap} {a : Nat}
theorem zz_cast (hx : p.tables.exec = Jvm.exec) (hb : c.code = cc) (hK : va_K D cl tys s) (hP : va_P D cl ws H) (hD : va_D A ws) (hS : va_S A H0 H locs) (q0 t0 : Nat) {cA : ClassId} {n : Nat} {f : Nat → Int} (ha : ws[q0]? = some (a, .inl (cA, n, .inl (fun j => iI (f j))))) (ht : tys[t0]? = some (cA, .char)) (hn : n < 2147483648) {z x : Int} (i : Nat) (hz : z = (i : Int)) (hi : i < n) (hxr : 0 ≤ x ∧ x < 65536) (hdg : decode cc pc = .ok (.castore, 1)) (kk : ∀ (H1 : Heap) (locs1 : List Loc), va_P D cl (ws.set q0 (a, .inl (cA, n, .inl (fun j => iI (up f i x j))))) H1 → va_D A (ws.set q0 (a, .inl (cA, n, .inl (fun j => iI (up f i x j))))) → va_S A H0 H1 locs1 → W p l e R s m args below meth c H1 locs1 cells slots Q (F0 m (pc + 1) ls rest)) : W p l e R s m args below meth c H locs cells slots Q (F0 m pc ls (.int (iI x) :: .int (iI z) :: .ref a :: rest)) := by
  obtain ⟨h1, h2⟩ := iI_at hz hi hn
  refine va_cast hx hb hK hP hD hS q0 t0 ha ht h1 hdg ?_
  rw [h2, zz_pchar hxr, up_iI]
  exact kk
end ZC
/-- rows that agree below their length are the same cell -/
theorem arrI_congr {D : va_G} {cl : List vw_C} {a : Nat} {cA : ClassId} {n : Nat} {f g : Nat → Int} {H : Heap} (hfg : ∀ j, j < n → f j = g j) (h : va_at D cl (a, .inl (cA, n, .inl (fun k => iI (f k)))) H) : va_at D cl (a, .inl (cA, n, .inl (fun k => iI (g k)))) H := by
  have e : arrV cA n (fun j => .int (iI (f j))) = arrV cA n (fun j => .int (iI (g j))) := by
    unfold arrV
    congr 1
    apply Array.ext
    · simp
    · intro i h1 h2
      simp only [Array.getElem_ofFn]
      rw [hfg i (by simpa using h1)]
  have h' : H[a]? = some (arrV cA n (fun j => .int (iI (f j)))) := h
  rw [e] at h'
  exact h'
theorem fm_b {x y : Int} (h : 0 < y) : 0 ≤ x % y ∧ x % y < y := ⟨Int.emod_nonneg x (by omega), Int.emod_lt_of_pos x h⟩
section ZD
variable {p : Program} {l : Launch} {e : Env} {R : Room} {s : State} {m : MethodId} {args : Array Value} {below : List Frame} {meth : Method} {c : Code} {H : Heap} {locs : List Loc} {cells slots : Nat} {Q : State → Prop}
variable {cc : ByteArray} {pc : Nat} {ls : Array Slot} {rest : List Value}
variable {D : va_G} {cl : List vw_C} {tys : List (ClassId × FieldType)} {ws : va_W} {A : Nat → Prop} {H0 : Heap} {a : Nat}
theorem zz_ialdv (hx : p.tables.exec = Jvm.exec) (hb : c.code = cc) (hK : va_K D cl tys s) (hP : va_P D cl ws H) (q0 t0 : Nat) {cA : ClassId} {n : Nat} {f : Nat → Int} (ha : ws[q0]? = some (a, .inl (cA, n, .inl (fun j => iI (f j))))) (ht : tys[t0]? = some (cA, .int)) (hn : n < 2147483648) {z : Int} (i : Nat) (hz : z = (i : Int)) (hi : i < n) {v : Int} (hv : f i = v) (hdg : decode cc pc = .ok (.iaload, 1)) (kk : W p l e R s m args below meth c H locs cells slots Q (F0 m (pc + 1) ls (.int (iI v) :: rest))) : W p l e R s m args below meth c H locs cells slots Q (F0 m pc ls (.int (iI z) :: .ref a :: rest)) := by
  subst hv
  exact zz_iald hx hb hK hP q0 t0 ha ht hn i hz hi hdg kk
theorem zz_caldv (hx : p.tables.exec = Jvm.exec) (hb : c.code = cc) (hK : va_K D cl tys s) (hP : va_P D cl ws H) (q0 t0 : Nat) {cA : ClassId} {n : Nat} {f : Nat → Int} (ha : ws[q0]? = some (a, .inl (cA, n, .inl (fun j => iI (f j))))) (ht : tys[t0]? = some (cA, .char)) (hn : n < 2147483648) {z : Int} (i : Nat) (hz : z = (i : Int)) (hi : i < n) {v : Int} (hv : f i = v) (hdg : decode cc pc = .ok (.caload, 1)) (kk : W p l e R s m args below meth c H locs cells slots Q (F0 m (pc + 1) ls (.int (iI v) :: rest))) : W p l e R s m args below meth c H locs cells slots Q (F0 m pc ls (.int (iI z) :: .ref a :: rest)) := by
  subst hv
  exact zz_cald hx hb hK hP q0 t0 ha ht hn i hz hi hdg kk
end ZD
theorem mul_b {a b : Int} (ha : -20 ≤ a ∧ a ≤ 20) (hb : 0 ≤ b ∧ b ≤ 100) : -2000 ≤ a * b ∧ a * b ≤ 2000 := by
  have h1 : (a + 20) * b = a * b + 20 * b := by rw [Int.add_mul]
  have h2 : (20 - a) * b = 20 * b - a * b := by rw [Int.sub_mul]
  have h3 : 0 ≤ (a + 20) * b := Int.mul_nonneg (by omega) (by omega)
  have h4 : 0 ≤ (20 - a) * b := Int.mul_nonneg (by omega) (by omega)
  omega
theorem ediv_b {x y b : Int} (hy : 1 ≤ y) (hb : 0 ≤ b) (hx : -b ≤ x ∧ x ≤ b) : -b ≤ x / y ∧ x / y ≤ b := by
  have h1 : x / y ≤ b := by
    by_cases h : x < 0
    · have : x / y ≤ 0 := Int.ediv_nonpos_of_nonpos_of_neg (by omega) (by omega)
      omega
    · have := Int.ediv_le_self y (show 0 ≤ x by omega)
      omega
  have h2 : -b ≤ x / y := by
    rw [Int.le_ediv_iff_mul_le (by omega)]
    have : b * 1 ≤ b * y := Int.mul_le_mul_of_nonneg_left hy hb
    rw [Int.neg_mul]
    omega
  exact ⟨h2, h1⟩
