theorem wb_tb (n : Nat) : (lN n).toBitVec = BitVec.ofNat 64 n := rfl
theorem wb_inj {a b : Int64} (h : a.toBitVec = b.toBitVec) : a = b := Int64.toBitVec_inj.mp h
theorem wb_tn {n : Nat} (h : n < 2 ^ 64) : (lN n).toBitVec.toNat = n := by rw [wb_tb, BitVec.toNat_ofNat, Nat.mod_eq_of_lt h]
theorem wb_of (x : Int64) : ∃ n, n < 2 ^ 64 ∧ x = lN n := ⟨x.toBitVec.toNat, x.toBitVec.isLt, wb_inj (by rw [wb_tb]; simp)⟩
theorem wb_of32 (x : Int32) : ∃ n, n < 2 ^ 32 ∧ x = nI n := ⟨x.toBitVec.toNat, x.toBitVec.isLt, Int32.toBitVec_inj.mp (by show _ = BitVec.ofNat 32 _; simp)⟩
theorem wb_c : ∀ k, k < 64 → ((nI k).toInt64 &&& 63) = lN k := by decide +kernel
theorem wb_cu : ∀ k, k < 64 → ((nI k).toInt64.toUInt64 &&& Int64.toUInt64 63) = UInt64.ofNat k := by decide +kernel
theorem wb_sm : ∀ k, k < 64 → (BitVec.ofNat 64 k).smod 64 = BitVec.ofNat 64 k := by decide +kernel
theorem wb_pw {a b : Nat} (h : a ≤ b) : 2 ^ b = 2 ^ a * 2 ^ (b - a) := by rw [← Nat.pow_add]; congr 1; omega
theorem wb_lt2 {a b : Nat} (h : a < b) : 2 ^ a < 2 ^ b := Nat.pow_lt_pow_right (by decide) h
theorem wb_mod (n : Nat) : lN n = lN (n % 2 ^ 64) := wb_inj (by rw [wb_tb, wb_tb]; apply BitVec.eq_of_toNat_eq; rw [BitVec.toNat_ofNat, BitVec.toNat_ofNat, Nat.mod_mod])
theorem wb_shr {n k : Nat} (hn : n < 2 ^ 64) (hk : k < 64) : ((lN n).toUInt64 >>> ((nI k).toInt64.toUInt64 &&& Int64.toUInt64 63)).toInt64 = lN (n / 2 ^ k) := by
  rw [wb_cu k hk]
  apply wb_inj
  apply BitVec.eq_of_toNat_eq
  show ((lN n).toUInt64 >>> UInt64.ofNat k).toNat = (BitVec.ofNat 64 _).toNat
  have h1 : (UInt64.ofNat k).toNat = k := by
    show (BitVec.ofNat 64 k).toNat = k
    rw [BitVec.toNat_ofNat, Nat.mod_eq_of_lt (by omega)]
  have h2 : (lN n).toUInt64.toNat = n := wb_tn hn
  rw [UInt64.toNat_shiftRight, h1, h2, Nat.mod_eq_of_lt hk, Nat.shiftRight_eq_div_pow, BitVec.toNat_ofNat, Nat.mod_eq_of_lt (Nat.lt_of_le_of_lt (Nat.div_le_self _ _) hn)]
theorem wb_shl (n : Nat) {k : Nat} (hk : k < 64) : lN n <<< ((nI k).toInt64 &&& 63) = lN (n * 2 ^ k) := by
  rw [wb_c k hk]
  apply wb_inj
  rw [Int64.toBitVec_shiftLeft, wb_tb, wb_tb, wb_tb, wb_sm k hk]
  apply BitVec.eq_of_toNat_eq
  rw [BitVec.shiftLeft_eq', BitVec.toNat_shiftLeft, BitVec.toNat_ofNat, BitVec.toNat_ofNat, BitVec.toNat_ofNat, Nat.mod_eq_of_lt (show k < 2 ^ 64 by omega), Nat.shiftLeft_eq, Nat.mul_mod, Nat.mod_mod, ← Nat.mul_mod]
theorem wb_and {a b : Nat} (ha : a < 2 ^ 64) (hb : b < 2 ^ 64) : lN a &&& lN b = lN (a &&& b) := by
  apply wb_inj
  rw [Int64.toBitVec_and, wb_tb, wb_tb, wb_tb]
  apply BitVec.eq_of_toNat_eq
  rw [BitVec.toNat_and, BitVec.toNat_ofNat, BitVec.toNat_ofNat, BitVec.toNat_ofNat, Nat.mod_eq_of_lt ha, Nat.mod_eq_of_lt hb, Nat.mod_eq_of_lt (Nat.and_lt_two_pow _ hb)]
theorem wb_or {a b : Nat} (ha : a < 2 ^ 64) (hb : b < 2 ^ 64) : lN a ||| lN b = lN (a ||| b) := by
  apply wb_inj
  rw [Int64.toBitVec_or, wb_tb, wb_tb, wb_tb]
  apply BitVec.eq_of_toNat_eq
  rw [BitVec.toNat_or, BitVec.toNat_ofNat, BitVec.toNat_ofNat, BitVec.toNat_ofNat, Nat.mod_eq_of_lt ha, Nat.mod_eq_of_lt hb, Nat.mod_eq_of_lt (Nat.or_lt_two_pow ha hb)]
/-! how many bits a number of 64 bits has, as Long.bitCount reckons -/
theorem and_cat {a p n q : Nat} (ha : a < 256) (hp : p < 256) : (a + 256 * n) &&& (p + 256 * q) = (a &&& p) + 256 * (n &&& q) := by
  apply Nat.eq_of_testBit_eq
  intro i
  have e1 : a + 256 * n = 2 ^ 8 * n + a := by omega
  have e2 : p + 256 * q = 2 ^ 8 * q + p := by omega
  have e3 : (a &&& p) + 256 * (n &&& q) = 2 ^ 8 * (n &&& q) + (a &&& p) := by omega
  have h3 : a &&& p < 2 ^ 8 := Nat.and_lt_two_pow a (by omega)
  rw [e1, e2, e3, Nat.testBit_and, Nat.testBit_two_pow_mul_add _ (show a < 2 ^ 8 by omega), Nat.testBit_two_pow_mul_add _ (show p < 2 ^ 8 by omega), Nat.testBit_two_pow_mul_add _ h3]
  split
  · rw [Nat.testBit_and]
  · rw [Nat.testBit_and]
def pcA (q x : Nat) : Nat := x - (x / 2 &&& q)
def pcB (q x : Nat) : Nat := (x &&& q) + (x / 4 &&& q)
def pcC (q x : Nat) : Nat := (x + x / 16) &&& q
theorem pc_f1 : ∀ a, a < 256 → ∀ b, b < 2 → (a / 2 + 128 * b) &&& 85 = a / 2 &&& 85 := by decide +kernel
theorem pc_f2 : ∀ a, a < 256 → (a / 2 &&& 85) ≤ a := by decide +kernel
theorem pc_f3 : ∀ a, a < 256 → ∀ b, b < 4 → (a / 4 + 64 * b) &&& 51 = a / 4 &&& 51 := by decide +kernel
theorem pc_f4 : ∀ a, a < 256 → a % 16 ≤ 4 → a / 16 ≤ 4 → ∀ b, b < 5 → (a + a / 16 + 16 * b) &&& 15 = (a + a / 16) &&& 15 := by decide +kernel
theorem pc_f5 : ∀ a, a < 256 → pcA 85 a < 256 ∧ pcB 51 (pcA 85 a) < 256 ∧ pcB 51 (pcA 85 a) % 16 ≤ 4 ∧ pcB 51 (pcA 85 a) / 16 ≤ 4 ∧ pcC 15 (pcB 51 (pcA 85 a)) ≤ 8 := by decide +kernel
theorem pc_f6 : ∀ a, a < 256 → ((pcC 15 (pcB 51 (pcA 85 a)) : Nat) : Int) = sumI (fun j => if a.testBit j then 1 else 0) 8 := by decide +kernel
theorem pcA_cat {a n q : Nat} (ha : a < 256) : pcA (85 + 256 * q) (a + 256 * n) = pcA 85 a + 256 * pcA q n := by
  simp only [pcA]
  rw [show (a + 256 * n) / 2 = (a / 2 + 128 * (n % 2)) + 256 * (n / 2) by omega, and_cat (by omega) (by omega), pc_f1 a ha (n % 2) (by omega)]
  have h1 := pc_f2 a ha
  have h2 : n / 2 &&& q ≤ n / 2 := Nat.and_le_left
  omega
theorem pcB_cat {a n q : Nat} (ha : a < 256) : pcB (51 + 256 * q) (a + 256 * n) = pcB 51 a + 256 * pcB q n := by
  simp only [pcB]
  rw [show (a + 256 * n) / 4 = (a / 4 + 64 * (n % 4)) + 256 * (n / 4) by omega, and_cat ha (by omega), and_cat (a := a / 4 + 64 * (n % 4)) (by omega) (by omega), pc_f3 a ha (n % 4) (by omega)]
  omega
theorem pcC_cat {a n q : Nat} (ha : a < 256) (h1 : a % 16 ≤ 4) (h2 : a / 16 ≤ 4) (h3 : n % 16 ≤ 4) : pcC (15 + 256 * q) (a + 256 * n) = pcC 15 a + 256 * pcC q n := by
  simp only [pcC]
  rw [show a + 256 * n + (a + 256 * n) / 16 = (a + a / 16 + 16 * (n % 16)) + 256 * (n + n / 16) by omega, and_cat (by omega) (by omega), pc_f4 a ha h1 h2 (n % 16) (by omega)]
/-- what Long.bitCount answers -/
def popN (x : Nat) : Nat :=
  let y := pcC 1085102592571150095 (pcB 3689348814741910323 (pcA 6148914691236517205 x))
  let y1 := y + y / 256
  let y2 := y1 + y1 / 65536
  (y2 + y2 / 4294967296) % 128
theorem sumI_split (f : Nat → Int) (k : Nat) : ∀ m, sumI f (k + m) = sumI f k + sumI (fun j => f (k + j)) m
  | 0 => by simp [sumI]
  | m + 1 => by
    have h := sumI_split f k m
    rw [← Nat.add_assoc, sumI_s, sumI_s, h]; omega
theorem bits_cat {a n : Nat} (ha : a < 256) (k : Nat) : sumI (fun j => if (a + 256 * n).testBit j then 1 else 0) (8 + k) = sumI (fun j => if a.testBit j then 1 else 0) 8 + sumI (fun j => if n.testBit j then 1 else 0) k := by
  rw [sumI_split]
  have e1 : a + 256 * n = 2 ^ 8 * n + a := by omega
  congr 1
  · refine sumI_cong (fun j hj => ?_)
    rw [e1, Nat.testBit_two_pow_mul_add _ (show a < 2 ^ 8 by omega), if_pos hj]
  · refine sumI_cong (fun j hj => ?_)
    have e3 : (a + 256 * n).testBit (8 + j) = n.testBit j := by
      rw [e1, Nat.testBit_two_pow_mul_add _ (show a < 2 ^ 8 by omega), if_neg (by omega)]
      congr 1
      omega
    rw [e3]
theorem popN_eq {x : Nat} (hx : x < 18446744073709551616) : ((popN x : Nat) : Int) = sumI (fun j => if x.testBit j then 1 else 0) 64 := by
  obtain ⟨a0, n0, h0, e0⟩ : ∃ a n, a < 256 ∧ x = a + 256 * n := ⟨x % 256, x / 256, by omega, by omega⟩
  obtain ⟨a1, n1, h1, e1⟩ : ∃ a n, a < 256 ∧ n0 = a + 256 * n := ⟨n0 % 256, n0 / 256, by omega, by omega⟩
  obtain ⟨a2, n2, h2, e2⟩ : ∃ a n, a < 256 ∧ n1 = a + 256 * n := ⟨n1 % 256, n1 / 256, by omega, by omega⟩
  obtain ⟨a3, n3, h3, e3⟩ : ∃ a n, a < 256 ∧ n2 = a + 256 * n := ⟨n2 % 256, n2 / 256, by omega, by omega⟩
  obtain ⟨a4, n4, h4, e4⟩ : ∃ a n, a < 256 ∧ n3 = a + 256 * n := ⟨n3 % 256, n3 / 256, by omega, by omega⟩
  obtain ⟨a5, n5, h5, e5⟩ : ∃ a n, a < 256 ∧ n4 = a + 256 * n := ⟨n4 % 256, n4 / 256, by omega, by omega⟩
  obtain ⟨a6, n6, h6, e6⟩ : ∃ a n, a < 256 ∧ n5 = a + 256 * n := ⟨n5 % 256, n5 / 256, by omega, by omega⟩
  obtain ⟨a7, n7, h7, e7⟩ : ∃ a n, a < 256 ∧ n6 = a + 256 * n := ⟨n6 % 256, n6 / 256, by omega, by omega⟩
  have e8 : n7 = 0 := by omega
  subst e8
  have f0 := pc_f5 a0 h0
  have f1 := pc_f5 a1 h1
  have f2 := pc_f5 a2 h2
  have f3 := pc_f5 a3 h3
  have f4 := pc_f5 a4 h4
  have f5 := pc_f5 a5 h5
  have f6 := pc_f5 a6 h6
  have f7 := pc_f5 a7 h7
  have s0 := pc_f6 a0 h0
  have s1 := pc_f6 a1 h1
  have s2 := pc_f6 a2 h2
  have s3 := pc_f6 a3 h3
  have s4 := pc_f6 a4 h4
  have s5 := pc_f6 a5 h5
  have s6 := pc_f6 a6 h6
  have s7 := pc_f6 a7 h7
  have t0 : ∀ k, sumI (fun j => if (0 : Nat).testBit j then 1 else 0) k = 0 := fun k => sumI_zero (fun j _ => by simp)
  have hsum : sumI (fun j => if x.testBit j then 1 else 0) 64 = sumI (fun j => if a0.testBit j then 1 else 0) 8 + (sumI (fun j => if a1.testBit j then 1 else 0) 8 + (sumI (fun j => if a2.testBit j then 1 else 0) 8 + (sumI (fun j => if a3.testBit j then 1 else 0) 8 + (sumI (fun j => if a4.testBit j then 1 else 0) 8 + (sumI (fun j => if a5.testBit j then 1 else 0) 8 + (sumI (fun j => if a6.testBit j then 1 else 0) 8 + (sumI (fun j => if a7.testBit j then 1 else 0) 8 + 0))))))) := by
    rw [e0, bits_cat h0 56, e1, bits_cat h1 48, e2, bits_cat h2 40, e3, bits_cat h3 32, e4, bits_cat h4 24, e5, bits_cat h5 16, e6, bits_cat h6 8, e7, bits_cat h7 0, t0 0]
  have z1 : pcA 6148914691236517205 x = pcA 85 a0 + 256 * (pcA 85 a1 + 256 * (pcA 85 a2 + 256 * (pcA 85 a3 + 256 * (pcA 85 a4 + 256 * (pcA 85 a5 + 256 * (pcA 85 a6 + 256 * (pcA 85 a7 + 256 * 0))))))) := by
    rw [e0, e1, e2, e3, e4, e5, e6, e7, show (6148914691236517205 : Nat) = 85 + 256 * (85 + 256 * (85 + 256 * (85 + 256 * (85 + 256 * (85 + 256 * (85 + 256 * (85 + 256 * 0))))))) by decide, pcA_cat h0, pcA_cat h1, pcA_cat h2, pcA_cat h3, pcA_cat h4, pcA_cat h5, pcA_cat h6, pcA_cat h7]
    rfl
  have z2 : pcB 3689348814741910323 (pcA 6148914691236517205 x) = pcB 51 (pcA 85 a0) + 256 * (pcB 51 (pcA 85 a1) + 256 * (pcB 51 (pcA 85 a2) + 256 * (pcB 51 (pcA 85 a3) + 256 * (pcB 51 (pcA 85 a4) + 256 * (pcB 51 (pcA 85 a5) + 256 * (pcB 51 (pcA 85 a6) + 256 * (pcB 51 (pcA 85 a7) + 256 * 0))))))) := by
    rw [z1, show (3689348814741910323 : Nat) = 51 + 256 * (51 + 256 * (51 + 256 * (51 + 256 * (51 + 256 * (51 + 256 * (51 + 256 * (51 + 256 * 0))))))) by decide, pcB_cat f0.1, pcB_cat f1.1, pcB_cat f2.1, pcB_cat f3.1, pcB_cat f4.1, pcB_cat f5.1, pcB_cat f6.1, pcB_cat f7.1]
    rfl
  generalize pcB 51 (pcA 85 a0) = b0 at *
  generalize pcB 51 (pcA 85 a1) = b1 at *
  generalize pcB 51 (pcA 85 a2) = b2 at *
  generalize pcB 51 (pcA 85 a3) = b3 at *
  generalize pcB 51 (pcA 85 a4) = b4 at *
  generalize pcB 51 (pcA 85 a5) = b5 at *
  generalize pcB 51 (pcA 85 a6) = b6 at *
  generalize pcB 51 (pcA 85 a7) = b7 at *
  have z3 : pcC 1085102592571150095 (pcB 3689348814741910323 (pcA 6148914691236517205 x)) = pcC 15 b0 + 256 * (pcC 15 b1 + 256 * (pcC 15 b2 + 256 * (pcC 15 b3 + 256 * (pcC 15 b4 + 256 * (pcC 15 b5 + 256 * (pcC 15 b6 + 256 * (pcC 15 b7 + 256 * 0))))))) := by
    rw [z2, show (1085102592571150095 : Nat) = 15 + 256 * (15 + 256 * (15 + 256 * (15 + 256 * (15 + 256 * (15 + 256 * (15 + 256 * (15 + 256 * 0))))))) by decide, pcC_cat f0.2.1 f0.2.2.1 f0.2.2.2.1 (by omega), pcC_cat f1.2.1 f1.2.2.1 f1.2.2.2.1 (by omega), pcC_cat f2.2.1 f2.2.2.1 f2.2.2.2.1 (by omega), pcC_cat f3.2.1 f3.2.2.1 f3.2.2.2.1 (by omega), pcC_cat f4.2.1 f4.2.2.1 f4.2.2.2.1 (by omega), pcC_cat f5.2.1 f5.2.2.1 f5.2.2.2.1 (by omega), pcC_cat f6.2.1 f6.2.2.1 f6.2.2.2.1 (by omega), pcC_cat f7.2.1 f7.2.2.1 f7.2.2.2.1 (by omega)]
    rfl
  have hz : popN x = pcC 15 b0 + pcC 15 b1 + pcC 15 b2 + pcC 15 b3 + pcC 15 b4 + pcC 15 b5 + pcC 15 b6 + pcC 15 b7 := by
    simp only [popN]
    rw [z3]
    generalize pcC 15 b0 = g0 at *
    generalize pcC 15 b1 = g1 at *
    generalize pcC 15 b2 = g2 at *
    generalize pcC 15 b3 = g3 at *
    generalize pcC 15 b4 = g4 at *
    generalize pcC 15 b5 = g5 at *
    generalize pcC 15 b6 = g6 at *
    generalize pcC 15 b7 = g7 at *
    have q1 : (g0 + 256 * (g1 + 256 * (g2 + 256 * (g3 + 256 * (g4 + 256 * (g5 + 256 * (g6 + 256 * (g7 + 256 * 0)))))))) / 256 = g1 + 256 * (g2 + 256 * (g3 + 256 * (g4 + 256 * (g5 + 256 * (g6 + 256 * (g7 + 256 * 0)))))) := by omega
    rw [q1]
    have q2 : g0 + 256 * (g1 + 256 * (g2 + 256 * (g3 + 256 * (g4 + 256 * (g5 + 256 * (g6 + 256 * (g7 + 256 * 0))))))) + (g1 + 256 * (g2 + 256 * (g3 + 256 * (g4 + 256 * (g5 + 256 * (g6 + 256 * (g7 + 256 * 0))))))) = (g0 + g1) + 256 * ((g1 + g2) + 256 * ((g2 + g3) + 256 * ((g3 + g4) + 256 * ((g4 + g5) + 256 * ((g5 + g6) + 256 * ((g6 + g7) + 256 * g7)))))) := by omega
    rw [q2]
    have q3 : ((g0 + g1) + 256 * ((g1 + g2) + 256 * ((g2 + g3) + 256 * ((g3 + g4) + 256 * ((g4 + g5) + 256 * ((g5 + g6) + 256 * ((g6 + g7) + 256 * g7))))))) / 65536 = (g2 + g3) + 256 * ((g3 + g4) + 256 * ((g4 + g5) + 256 * ((g5 + g6) + 256 * ((g6 + g7) + 256 * g7)))) := by omega
    rw [q3]
    have q4 : (g0 + g1) + 256 * ((g1 + g2) + 256 * ((g2 + g3) + 256 * ((g3 + g4) + 256 * ((g4 + g5) + 256 * ((g5 + g6) + 256 * ((g6 + g7) + 256 * g7)))))) + ((g2 + g3) + 256 * ((g3 + g4) + 256 * ((g4 + g5) + 256 * ((g5 + g6) + 256 * ((g6 + g7) + 256 * g7))))) = (g0 + g1 + g2 + g3) + 256 * ((g1 + g2 + g3 + g4) + 256 * ((g2 + g3 + g4 + g5) + 256 * ((g3 + g4 + g5 + g6) + 256 * ((g4 + g5 + g6 + g7) + 256 * ((g5 + g6 + g7) + 256 * ((g6 + g7) + 256 * g7)))))) := by omega
    rw [q4]
    have q5 : ((g0 + g1 + g2 + g3) + 256 * ((g1 + g2 + g3 + g4) + 256 * ((g2 + g3 + g4 + g5) + 256 * ((g3 + g4 + g5 + g6) + 256 * ((g4 + g5 + g6 + g7) + 256 * ((g5 + g6 + g7) + 256 * ((g6 + g7) + 256 * g7))))))) / 4294967296 = (g4 + g5 + g6 + g7) + 256 * ((g5 + g6 + g7) + 256 * ((g6 + g7) + 256 * g7)) := by omega
    rw [q5]
    clear q1 q2 q3 q4 q5 z1 z2 z3 hsum s0 s1 s2 s3 s4 s5 s6 s7 t0 e0 e1 e2 e3 e4 e5 e6 e7 h0 h1 h2 h3 h4 h5 h6 h7 hx
    omega
  rw [hsum, hz]
  omega
