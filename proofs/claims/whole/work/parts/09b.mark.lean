/-! the moments that are marked: a row of 19 longs, a bit for each upper number -/
abbrev wSn (cJ : ClassId) (x1 : Nat) (sm : Nat → Nat) : va_W := [(x1, .inl (cJ, 19, .inr (.inl (fun j => lN (sm j)))))]
def upN (f : Nat → Nat) (i : Nat) (x : Nat) : Nat → Nat := fun j => if j = i then x else f j
theorem upN_lN (f : Nat → Nat) (i : Nat) (x : Nat) : vp_updL (fun j => lN (f j)) i (lN x) = fun j => lN (upN f i x j) := by
  funext j
  by_cases h : j = i
  · simp [vp_updL, upN, h]
  · simp [vp_updL, upN, h]
section ZJ
variable {p : Program} {l : Launch} {e : Env} {R : Room} {s : State} {m : MethodId} {args : Array Value} {below : List Frame} {meth : Method} {c : Code} {H : Heap} {locs : List Loc} {cells slots : Nat} {Q : State → Prop}
variable {cc : ByteArray} {pc : Nat} {ls : Array Slot} {rest : List Value}
variable {D : va_G} {cl : List vw_C} {tys : List (ClassId × FieldType)} {ws : va_W} {A : Nat → Prop} {H0 : Heap} {a : Nat}
theorem zz_lald (hx : p.tables.exec = Jvm.exec) (hb : c.code = cc) (hK : va_K D cl tys s) (hP : va_P D cl ws H) (q0 t0 : Nat) {cA : ClassId} {n : Nat} {f : Nat → Nat} (ha : ws[q0]? = some (a, .inl (cA, n, .inr (.inl (fun j => lN (f j)))))) (ht : tys[t0]? = some (cA, .long)) (hn : n < 2147483648) {z : Int} (i : Nat) (hz : z = (i : Int)) (hi : i < n) (hdg : decode cc pc = .ok (.laload, 1)) (kk : W p l e R s m args below meth c H locs cells slots Q (F0 m (pc + 1) ls (.long (lN (f i)) :: rest))) : W p l e R s m args below meth c H locs cells slots Q (F0 m pc ls (.int (iI z) :: .ref a :: rest)) := by
  obtain ⟨h1, h2⟩ := iI_at hz hi hn
  refine va_lald hx hb hK hP q0 t0 ha ht h1 hdg ?_
  rw [h2]
  exact kk
theorem zz_last (hx : p.tables.exec = Jvm.exec) (hb : c.code = cc) (hK : va_K D cl tys s) (hP : va_P D cl ws H) (hD : va_D A ws) (hS : va_S A H0 H locs) (q0 t0 : Nat) {cA : ClassId} {n : Nat} {f : Nat → Nat} (ha : ws[q0]? = some (a, .inl (cA, n, .inr (.inl (fun j => lN (f j)))))) (ht : tys[t0]? = some (cA, .long)) (hn : n < 2147483648) {z : Int} {x : Nat} (i : Nat) (hz : z = (i : Int)) (hi : i < n) (hdg : decode cc pc = .ok (.lastore, 1)) (kk : ∀ (H1 : Heap) (locs1 : List Loc), va_P D cl (ws.set q0 (a, .inl (cA, n, .inr (.inl (fun j => lN (upN f i x j)))))) H1 → va_D A (ws.set q0 (a, .inl (cA, n, .inr (.inl (fun j => lN (upN f i x j)))))) → va_S A H0 H1 locs1 → W p l e R s m args below meth c H1 locs1 cells slots Q (F0 m (pc + 1) ls rest)) : W p l e R s m args below meth c H locs cells slots Q (F0 m pc ls (.long (lN x) :: .int (iI z) :: .ref a :: rest)) := by
  obtain ⟨h1, h2⟩ := iI_at hz hi hn
  refine va_last hx hb hK hP hD hS q0 t0 ha ht h1 hdg ?_
  rw [h2, upN_lN]
  exact kk
theorem zz_lshl1 (hx : p.tables.exec = Jvm.exec) (hb : c.code = cc) {z : Int} (k : Nat) (hz : z = (k : Int)) (hk : k < 64) (hdg : decode cc pc = .ok (.lshl, 1)) (kk : W p l e R s m args below meth c H locs cells slots Q (F0 m (pc + 1) ls (.long (lN (2 ^ k)) :: rest))) : W p l e R s m args below meth c H locs cells slots Q (F0 m pc ls (.int (iI z) :: .long (lN 1) :: rest)) := by
  subst hz
  refine lv_lshl hx hb hdg (v := lN (2 ^ k)) ?_ kk
  have := wb_shl 1 hk
  rw [Nat.one_mul] at this
  exact this
theorem zz_lor (hx : p.tables.exec = Jvm.exec) (hb : c.code = cc) {x y : Nat} (h1 : x < 2 ^ 64) (h2 : y < 2 ^ 64) (hdg : decode cc pc = .ok (.lor, 1)) (kk : W p l e R s m args below meth c H locs cells slots Q (F0 m (pc + 1) ls (.long (lN (x ||| y)) :: rest))) : W p l e R s m args below meth c H locs cells slots Q (F0 m pc ls (.long (lN y) :: .long (lN x) :: rest)) := lv_lor hx hb hdg (by rw [wb_or h1 h2]; exact kk)
theorem zz_land (hx : p.tables.exec = Jvm.exec) (hb : c.code = cc) {x y : Nat} (h1 : x < 2 ^ 64) (h2 : y < 2 ^ 64) (hdg : decode cc pc = .ok (.land, 1)) (kk : W p l e R s m args below meth c H locs cells slots Q (F0 m (pc + 1) ls (.long (lN (x &&& y)) :: rest))) : W p l e R s m args below meth c H locs cells slots Q (F0 m pc ls (.long (lN y) :: .long (lN x) :: rest)) := lv_land hx hb hdg (by rw [wb_and h1 h2]; exact kk)
theorem zz_ladd (hx : p.tables.exec = Jvm.exec) (hb : c.code = cc) {x y : Nat} (hdg : decode cc pc = .ok (.ladd, 1)) (kk : W p l e R s m args below meth c H locs cells slots Q (F0 m (pc + 1) ls (.long (lN (x + y)) :: rest))) : W p l e R s m args below meth c H locs cells slots Q (F0 m pc ls (.long (lN y) :: .long (lN x) :: rest)) := lv_ladd hx hb hdg (by rw [lN_add]; exact kk)
theorem zz_lsub (hx : p.tables.exec = Jvm.exec) (hb : c.code = cc) {x y : Nat} (h : y ≤ x) (hdg : decode cc pc = .ok (.lsub, 1)) (kk : W p l e R s m args below meth c H locs cells slots Q (F0 m (pc + 1) ls (.long (lN (x - y)) :: rest))) : W p l e R s m args below meth c H locs cells slots Q (F0 m pc ls (.long (lN y) :: .long (lN x) :: rest)) := lv_lsub hx hb hdg (by rw [lN_sub h]; exact kk)
theorem zz_lushr (hx : p.tables.exec = Jvm.exec) (hb : c.code = cc) {x : Nat} (h1 : x < 2 ^ 64) (k : Nat) {z : Int} (hz : z = (k : Int)) (hk : k < 64) (v : Nat) (hv : x / 2 ^ k = v) (hdg : decode cc pc = .ok (.lushr, 1)) (kk : W p l e R s m args below meth c H locs cells slots Q (F0 m (pc + 1) ls (.long (lN v) :: rest))) : W p l e R s m args below meth c H locs cells slots Q (F0 m pc ls (.int (iI z) :: .long (lN x) :: rest)) := by
  subst hz
  exact lv_lushr hx hb hdg (v := lN v) (by rw [← hv]; exact wb_shr h1 hk) kk
end ZJ
/-- a mark: the fraction u / w in lowest terms -/
def redP (u w row bit : Nat) : Prop := row = w / Nat.gcd u w ∧ bit = u / Nat.gcd u w
def mrk (sm : Nat → Nat) (u w : Nat) : Nat → Nat := upN sm (w / Nat.gcd u w) (sm (w / Nat.gcd u w) ||| 2 ^ (u / Nat.gcd u w))
theorem mrk_bit (sm : Nat → Nat) (u w row bit : Nat) : (mrk sm u w row).testBit bit = true ↔ ((sm row).testBit bit = true ∨ redP u w row bit) := by
  simp only [mrk, upN, redP]
  by_cases h : row = w / Nat.gcd u w
  · subst h
    rw [if_pos rfl, Nat.testBit_or, Nat.testBit_two_pow]
    simp only [Bool.or_eq_true, decide_eq_true_eq, true_and]
    constructor
    · rintro (h | h)
      · exact Or.inl h
      · exact Or.inr h.symm
    · rintro (h | h)
      · exact Or.inl h
      · exact Or.inr h.symm
  · rw [if_neg h]
    simp [h]
theorem mrk_lt {sm : Nat → Nat} {u w : Nat} (h : ∀ j, sm j < 2 ^ 61) (hu : u ≤ 60) : ∀ j, mrk sm u w j < 2 ^ 61 := by
  intro j
  simp only [mrk, upN]
  split
  · refine Nat.or_lt_two_pow (h _) (Nat.pow_lt_pow_right (by omega) ?_)
    have := Nat.div_le_self u (Nat.gcd u w)
    omega
  · exact h j
/-- the marks of one pair, for the times below k -/
def mrkT (sm : Nat → Nat) (u0 R w : Nat) : Nat → Nat → Nat
  | 0 => sm
  | k + 1 => mrk (mrkT sm u0 R w k) (u0 + k * R) w
theorem mrkT_bit (sm : Nat → Nat) (u0 R w row bit : Nat) : ∀ k, (mrkT sm u0 R w k row).testBit bit = true ↔ ((sm row).testBit bit = true ∨ ∃ t, t < k ∧ redP (u0 + t * R) w row bit)
  | 0 => by simp [mrkT]
  | k + 1 => by
    rw [mrkT, mrk_bit, mrkT_bit sm u0 R w row bit k]
    constructor
    · rintro ((h | ⟨t, h1, h2⟩) | h)
      · exact Or.inl h
      · exact Or.inr ⟨t, by omega, h2⟩
      · exact Or.inr ⟨k, by omega, h⟩
    · rintro (h | ⟨t, h1, h2⟩)
      · exact Or.inl (Or.inl h)
      · rcases Nat.lt_succ_iff_lt_or_eq.mp h1 with q | q
        · exact Or.inl (Or.inr ⟨t, q, h2⟩)
        · subst q; exact Or.inr h2
theorem mrkT_lt {sm : Nat → Nat} {u0 R w : Nat} (h : ∀ j, sm j < 2 ^ 61) : ∀ k, (∀ t, t < k → u0 + t * R ≤ 60) → ∀ j, mrkT sm u0 R w k j < 2 ^ 61
  | 0, _ => h
  | k + 1, hk => mrk_lt (mrkT_lt h k (fun t ht => hk t (by omega))) (hk k (by omega))
section ZK
variable {p : Program} {l : Launch} {e : Env} {R : Room} {s : State} {m : MethodId} {args : Array Value} {below : List Frame} {meth : Method} {c : Code} {H : Heap} {locs : List Loc} {cells slots : Nat} {Q : State → Prop}
variable {cc : ByteArray} {pc : Nat} {ls : Array Slot} {rest : List Value}
theorem zz_topn {x : Nat} (k : ∀ y : Nat, y = x → W p l e R s m args below meth c H locs cells slots Q (F0 m pc ls (.long (lN y) :: rest))) : W p l e R s m args below meth c H locs cells slots Q (F0 m pc ls (.long (lN x) :: rest)) := k x rfl
theorem zz_iand127 (hx : p.tables.exec = Jvm.exec) (hb : c.code = cc) {x : Nat} (hdg : decode cc pc = .ok (.iand, 1)) (k : W p l e R s m args below meth c H locs cells slots Q (F0 m (pc + 1) ls (.int (iI ((x % 128 : Nat) : Int)) :: rest))) : W p l e R s m args below meth c H locs cells slots Q (F0 m pc ls (.int (iI 127) :: .int (nI x) :: rest)) := by
  refine lv_iand hx hb hdg ?_
  have h1 := pk_and (nI x) (m := iI 127) 7 (by decide)
  have h2 : (nI x).toBitVec.toNat = x % 4294967296 := by
    show (BitVec.ofNat 32 x).toNat = _
    rw [BitVec.toNat_ofNat]
  rw [h2, show x % 4294967296 % 2 ^ 7 = x % 128 by omega] at h1
  rw [h1]
  exact k
end ZK
def mmC (r : Nat → Nat → Int) (n : Nat) (t : Int) (sm : Nat → Nat) (a b : Nat) : Nat → Nat := mrkT sm (fbC r n a b).toNat (freeL (r 0 0) n (r 2)).toNat (clC r a b).toNat (crC r n t a b).toNat
def mpB (r : Nat → Nat → Int) (n : Nat) (t : Int) (sm : Nat → Nat) (a : Nat) : Nat → Nat → Nat
  | 0 => sm
  | b + 1 => mmC r n t (mpB r n t sm a b) a b
def mpA (r : Nat → Nat → Int) (n : Nat) (t : Int) (sm : Nat → Nat) : Nat → Nat → Nat
  | 0 => sm
  | a + 1 => mpB r n t (mpA r n t sm a) a n
theorem crC_at {r : Nat → Nat → Int} {n : Nat} {t : Int} {a b : Nat} (hR : 1 ≤ freeL (r 0 0) n (r 2)) {i : Int} (h0 : 0 ≤ i) (h : i < crC r n t a b) : 0 < clC r a b ∧ fbC r n a b + i * freeL (r 0 0) n (r 2) ≤ clC r a b * t := by
  simp only [crC] at h
  split at h
  · omega
  · rename_i q
    refine ⟨by omega, ?_⟩
    have h1 : i ≤ (clC r a b * t - fbC r n a b) / freeL (r 0 0) n (r 2) := by omega
    have h2 := (Int.le_ediv_iff_mul_le (by omega)).mp h1
    omega
theorem mmC_lt {r : Nat → Nat → Int} {n : Nat} (hok : Ok r n) {t : Int} (ht : 1 ≤ t ∧ t ≤ 3) {sm : Nat → Nat} {a b : Nat} (ha : a < n) (hb : b < n) (hnn : 0 ≤ fbC r n a b) (h : ∀ j, sm j < 2 ^ 61) : ∀ j, mmC r n t sm a b j < 2 ^ 61 := by
  refine mrkT_lt h _ (fun k hk => ?_)
  have h1 := hok.fr
  have h2 := crC_at (t := t) (a := a) (b := b) h1.1 (i := (k : Int)) (by omega) (by omega)
  have h3 := hok.cl ha hb
  have h4 : clC r a b * t ≤ 18 * 3 := Int.mul_le_mul (by omega) (by omega) (by omega) (by omega)
  have h5 : ((k * (freeL (r 0 0) n (r 2)).toNat : Nat) : Int) = (k : Int) * freeL (r 0 0) n (r 2) := by
    rw [Int.natCast_mul, Int.toNat_of_nonneg (by omega)]
  omega
theorem mpB_lt {r : Nat → Nat → Int} {n : Nat} (hok : Ok r n) (hnn : ∀ a b, a < n → b < n → 0 ≤ fbC r n a b) {t : Int} (ht : 1 ≤ t ∧ t ≤ 3) {sm : Nat → Nat} {a : Nat} (ha : a < n) (h : ∀ j, sm j < 2 ^ 61) : ∀ b, b ≤ n → ∀ j, mpB r n t sm a b j < 2 ^ 61
  | 0, _ => h
  | b + 1, hb => mmC_lt hok ht ha (by omega) (hnn a b ha (by omega)) (mpB_lt hok hnn ht ha h b (by omega))
theorem mpA_lt {r : Nat → Nat → Int} {n : Nat} (hok : Ok r n) (hnn : ∀ a b, a < n → b < n → 0 ≤ fbC r n a b) {t : Int} (ht : 1 ≤ t ∧ t ≤ 3) {sm : Nat → Nat} (h : ∀ j, sm j < 2 ^ 61) : ∀ a, a ≤ n → ∀ j, mpA r n t sm a j < 2 ^ 61
  | 0, _ => h
  | a + 1, ha => mpB_lt hok hnn ht (by omega) (mpA_lt hok hnn ht h a (by omega)) n (Nat.le_refl n)
def zer (sm : Nat → Nat) (i : Nat) : Nat → Nat := fun j => if j < i then 0 else sm j
theorem zer_0 (sm : Nat → Nat) : zer sm 0 = sm := by funext j; simp [zer]
theorem zer_s (sm : Nat → Nat) (i : Nat) : upN (zer sm i) i 0 = zer sm (i + 1) := by
  funext j
  simp only [zer, upN]
  by_cases q : j = i
  · subst q; rw [if_pos rfl, if_pos (by omega)]
  · rw [if_neg q]
    by_cases q2 : j < i
    · rw [if_pos q2, if_pos (by omega)]
    · rw [if_neg q2, if_neg (by omega)]
theorem zer_lt {sm : Nat → Nat} (h : ∀ j, sm j < 2 ^ 61) (i : Nat) : ∀ j, zer sm i j < 2 ^ 61 := fun j => by
  simp only [zer]
  split
  · decide
  · exact h j
