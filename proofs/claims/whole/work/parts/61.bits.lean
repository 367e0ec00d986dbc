/-! ===== sets as numbers ===== -/
theorem jN_bv (a : Nat) : (jI a).toBitVec = BitVec.ofNat 32 a := by
  show BitVec.ofInt 32 (a : Int) = _
  exact BitVec.ofInt_natCast 32 a
theorem jN_nat (a : Nat) (h : a < 4294967296) : (jI a).toBitVec.toNat = a := by
  rw [jN_bv, BitVec.toNat_ofNat]
  exact Nat.mod_eq_of_lt h
theorem jN_ext (x : Int32) (a : Nat) (h : a < 4294967296) (e : x.toBitVec.toNat = a) : x = jI a := by
  apply Int32.toBitVec_inj.mp
  apply BitVec.eq_of_toNat_eq
  rw [e, jN_nat a h]
theorem jN_and (a b : Nat) (h : a < 4294967296) (h' : b < 4294967296) : jI a &&& jI b = jI ((a &&& b : Nat) : Int) := by
  have l : a &&& b ≤ a := Nat.and_le_left
  refine jN_ext _ _ (by omega) ?_
  rw [Int32.toBitVec_and, BitVec.toNat_and, jN_nat a h, jN_nat b h']
theorem jN_or (a b : Nat) (h : a < 4294967296) (h' : b < 4294967296) : jI a ||| jI b = jI ((a ||| b : Nat) : Int) := by
  refine jN_ext _ _ (Nat.or_lt_two_pow (n := 32) h h') ?_
  rw [Int32.toBitVec_or, BitVec.toNat_or, jN_nat a h, jN_nat b h']
def usr (x k : Int32) : Int32 := (Int32.toUInt32 x >>> (Int32.toUInt32 k &&& Int32.toUInt32 31)).toInt32
theorem usr_j (a : Nat) (h : a < 4294967296) (k : Int32) (m : Nat) (hk : (Int32.toUInt32 k &&& Int32.toUInt32 31).toNat % 32 = m) : usr (jI a) k = jI ((a >>> m : Nat) : Int) := by
  have l := Nat.shiftRight_le a m
  refine jN_ext _ _ (by omega) ?_
  show (Int32.toUInt32 (jI a) >>> (Int32.toUInt32 k &&& Int32.toUInt32 31)).toNat = _
  rw [UInt32.toNat_shiftRight, hk]
  have e : (Int32.toUInt32 (jI a)).toNat = a := jN_nat a h
  rw [e]
theorem and_step (a b m M : Nat) (ha : a < 256) (hm : m < 256) : (a + 256 * b) &&& (m + 256 * M) = (a &&& m) + 256 * (b &&& M) := by
  apply Nat.eq_of_testBit_eq
  intro i
  have l : a &&& m < 2 ^ 8 := Nat.lt_of_le_of_lt Nat.and_le_left ha
  rw [Nat.testBit_and, Nat.add_comm a, Nat.add_comm m, Nat.add_comm (a &&& m), show (256 : Nat) = 2 ^ 8 from rfl, Nat.testBit_two_pow_mul_add _ ha, Nat.testBit_two_pow_mul_add _ hm, Nat.testBit_two_pow_mul_add _ l]
  by_cases z : i < 8
  · rw [if_pos z, if_pos z, if_pos z, Nat.testBit_and]
  · rw [if_neg z, if_neg z, if_neg z, Nat.testBit_and]
theorem bc_a : ∀ a, a < 256 → ∀ t, t < 2 → (a / 2 + 128 * t) &&& 85 = (a / 2) &&& 85 := by decide +kernel
theorem bc_b : ∀ a, a < 256 → ∀ t, t < 4 → (a / 4 + 64 * t) &&& 51 = (a / 4) &&& 51 := by decide +kernel
theorem bc_c : ∀ a, a < 69 → ∀ t, t < 5 → (a + a / 16 + 16 * t) &&& 15 = (a + a / 16) &&& 15 := by decide +kernel
theorem st_a (a b m : Nat) (ha : a < 256) : ((a + 256 * b) / 2) &&& (85 + 256 * m) = ((a / 2) &&& 85) + 256 * ((b / 2) &&& m) := by
  rw [show (a + 256 * b) / 2 = (a / 2 + 128 * (b % 2)) + 256 * (b / 2) by omega, and_step _ _ _ _ (by omega) (by omega), bc_a a ha (b % 2) (by omega)]
theorem st_b (a b m : Nat) (ha : a < 256) : ((a + 256 * b) / 4) &&& (51 + 256 * m) = ((a / 4) &&& 51) + 256 * ((b / 4) &&& m) := by
  rw [show (a + 256 * b) / 4 = (a / 4 + 64 * (b % 4)) + 256 * (b / 4) by omega, and_step _ _ _ _ (by omega) (by omega), bc_b a ha (b % 4) (by omega)]
def s1 (a : Nat) : Nat := a - ((a / 2) &&& 85)
def s2 (a : Nat) : Nat := (a &&& 51) + ((a / 4) &&& 51)
def s3 (a : Nat) : Nat := (a + a / 16) &&& 15
/-- bits among the first k -/
def cnt (x : Nat) : Nat → Nat
  | 0 => 0
  | k + 1 => cnt x k + x / 2 ^ k % 2
theorem sx_8 : ∀ a, a < 256 → (a / 2) &&& 85 ≤ a ∧ s1 a < 256 ∧ s2 (s1 a) < 69 ∧ s2 (s1 a) / 16 < 5 ∧ s2 (s1 a) % 16 < 5 ∧ s3 (s2 (s1 a)) = cnt a 8 ∧ cnt a 8 ≤ 8 := by decide +kernel
theorem bitCount_j (X : Nat) (hX : X < 1048576) : fJ6_bitCount_0f7a4 (jI X) = some (jI (cnt X 20 : Nat)) := by
  obtain ⟨a, b, c, ha, hb, hc, rfl⟩ : ∃ a b c, a < 256 ∧ b < 256 ∧ c < 16 ∧ X = a + 256 * (b + 256 * c) := ⟨X % 256, X / 256 % 256, X / 65536, by omega, by omega, by omega, by omega⟩
  obtain ⟨a1, a2, a3, a3', a4, a5, a6⟩ := sx_8 a ha
  obtain ⟨b1, b2, b3, b3', b4, b5, b6⟩ := sx_8 b hb
  obtain ⟨c1, c2, c3, c3', c4, c5, c6⟩ := sx_8 c (by omega)
  have hx : fJ6_bitCount_0f7a4 (jI (a + 256 * (b + 256 * c) : Nat)) = some (let x1 := jI (a + 256 * (b + 256 * c) : Nat) - (usr (jI (a + 256 * (b + 256 * c) : Nat)) 1 &&& (1431655765 : Int32)); let x2 := (x1 &&& (858993459 : Int32)) + (usr x1 2 &&& (858993459 : Int32)); let x3 := (x2 + usr x2 4) &&& (252645135 : Int32); let x4 := x3 + usr x3 8; (x4 + usr x4 16) &&& (63 : Int32)) := rfl
  rw [hx]
  have e1 : jI (a + 256 * (b + 256 * c) : Nat) - (usr (jI (a + 256 * (b + 256 * c) : Nat)) 1 &&& (1431655765 : Int32)) = jI (s1 a + 256 * (s1 b + 256 * s1 c) : Nat) := by
    rw [usr_j _ (by omega) 1 1 (by decide +kernel), Nat.shiftRight_eq_div_pow, Nat.pow_one, show (1431655765 : Int32) = jI ((85 + 256 * (85 + 256 * (85 + 256 * 85)) : Nat) : Int) from rfl, jN_and _ _ (by omega) (by omega), st_a _ _ _ ha, st_a _ _ _ hb]
    have c0 : (c / 2) &&& (85 + 256 * 85) = (c / 2) &&& 85 := by
      have := and_step (c / 2) 0 85 85 (by omega) (by omega)
      rw [show (0 : Nat) &&& 85 = 0 from rfl] at this
      exact this
    rw [c0, jI_sub]
    congr 1
    unfold s1
    omega
  have e2 : (jI (s1 a + 256 * (s1 b + 256 * s1 c) : Nat) &&& (858993459 : Int32)) + (usr (jI (s1 a + 256 * (s1 b + 256 * s1 c) : Nat)) 2 &&& (858993459 : Int32)) = jI (s2 (s1 a) + 256 * (s2 (s1 b) + 256 * s2 (s1 c)) : Nat) := by
    rw [usr_j _ (by omega) 2 2 (by decide +kernel), Nat.shiftRight_eq_div_pow, show (2 : Nat) ^ 2 = 4 from rfl, show (858993459 : Int32) = jI ((51 + 256 * (51 + 256 * (51 + 256 * 51)) : Nat) : Int) from rfl, jN_and _ _ (by omega) (by omega), jN_and _ _ (by omega) (by omega), st_b _ _ _ a2, st_b _ _ _ b2, and_step _ _ _ _ a2 (by omega), and_step _ _ _ _ b2 (by omega)]
    have k1 : (s1 c / 4) &&& (51 + 256 * 51) = (s1 c / 4) &&& 51 := by
      have := and_step (s1 c / 4) 0 51 51 (by omega) (by omega)
      rw [show (0 : Nat) &&& 51 = 0 from rfl] at this
      exact this
    have k2 : (s1 c) &&& (51 + 256 * 51) = (s1 c) &&& 51 := by
      have := and_step (s1 c) 0 51 51 (by omega) (by omega)
      rw [show (0 : Nat) &&& 51 = 0 from rfl] at this
      exact this
    rw [k1, k2, jI_add]
    congr 1
    unfold s2
    omega
  have e3 : (jI (s2 (s1 a) + 256 * (s2 (s1 b) + 256 * s2 (s1 c)) : Nat) + usr (jI (s2 (s1 a) + 256 * (s2 (s1 b) + 256 * s2 (s1 c)) : Nat)) 4) &&& (252645135 : Int32) = jI (cnt a 8 + 256 * (cnt b 8 + 256 * cnt c 8) : Nat) := by
    rw [usr_j _ (by omega) 4 4 (by decide +kernel), Nat.shiftRight_eq_div_pow, show (2 : Nat) ^ 4 = 16 from rfl, jI_add, ← Int.natCast_add, show (252645135 : Int32) = jI ((15 + 256 * (15 + 256 * (15 + 256 * 15)) : Nat) : Int) from rfl]
    have q : (s2 (s1 a) + 256 * (s2 (s1 b) + 256 * s2 (s1 c))) + (s2 (s1 a) + 256 * (s2 (s1 b) + 256 * s2 (s1 c))) / 16 = (s2 (s1 a) + s2 (s1 a) / 16 + 16 * (s2 (s1 b) % 16)) + 256 * ((s2 (s1 b) + s2 (s1 b) / 16 + 16 * (s2 (s1 c) % 16)) + 256 * (s2 (s1 c) + s2 (s1 c) / 16)) := by omega
    rw [q, jN_and _ _ (by omega) (by omega), and_step _ _ _ _ (by omega) (by omega), and_step _ _ _ _ (by omega) (by omega), bc_c _ a3 _ b4, bc_c _ b3 _ c4]
    have k1 : (s2 (s1 c) + s2 (s1 c) / 16) &&& (15 + 256 * 15) = (s2 (s1 c) + s2 (s1 c) / 16) &&& 15 := by
      have := and_step (s2 (s1 c) + s2 (s1 c) / 16) 0 15 15 (by omega) (by omega)
      rw [show (0 : Nat) &&& 15 = 0 from rfl] at this
      exact this
    rw [k1, ← a5, ← b5, ← c5]
    rfl
  have e4 : jI (cnt a 8 + 256 * (cnt b 8 + 256 * cnt c 8) : Nat) + usr (jI (cnt a 8 + 256 * (cnt b 8 + 256 * cnt c 8) : Nat)) 8 = jI ((cnt a 8 + cnt b 8) + 256 * ((cnt b 8 + cnt c 8) + 256 * cnt c 8) : Nat) := by
    rw [usr_j _ (by omega) 8 8 (by decide +kernel), Nat.shiftRight_eq_div_pow, show (2 : Nat) ^ 8 = 256 from rfl, jI_add]
    congr 1
    omega
  have e5 : (jI ((cnt a 8 + cnt b 8) + 256 * ((cnt b 8 + cnt c 8) + 256 * cnt c 8) : Nat) + usr (jI ((cnt a 8 + cnt b 8) + 256 * ((cnt b 8 + cnt c 8) + 256 * cnt c 8) : Nat)) 16) &&& (63 : Int32) = jI (cnt a 8 + cnt b 8 + cnt c 8 : Nat) := by
    rw [usr_j _ (by omega) 16 16 (by decide +kernel), Nat.shiftRight_eq_div_pow, show (2 : Nat) ^ 16 = 65536 from rfl, jI_add, ← Int.natCast_add, show (63 : Int32) = jI ((2 ^ 6 - 1 : Nat) : Int) from rfl, jN_and _ _ (by omega) (by omega), Nat.and_two_pow_sub_one_eq_mod]
    have hv : ((cnt a 8 + cnt b 8) + 256 * ((cnt b 8 + cnt c 8) + 256 * cnt c 8)) / 65536 = cnt c 8 := by omega
    rw [hv, show (2 : Nat) ^ 6 = 64 from rfl]
    congr 2
    omega
  simp only [e1, e2, e3, e4, e5]
  congr 3
  have sp : ∀ k, cnt (a + 256 * (b + 256 * c)) (8 + k) = cnt a 8 + cnt (b + 256 * c) k := by
    intro k
    induction k with
    | zero =>
      show cnt (a + 256 * (b + 256 * c)) 8 = cnt a 8
      unfold cnt cnt cnt cnt cnt cnt cnt cnt cnt
      omega
    | succ k ih =>
      show cnt (a + 256 * (b + 256 * c)) (8 + k) + (a + 256 * (b + 256 * c)) / 2 ^ (8 + k) % 2 = cnt a 8 + (cnt (b + 256 * c) k + (b + 256 * c) / 2 ^ k % 2)
      rw [ih, Nat.pow_add, ← Nat.div_div_eq_div_mul, show (2 : Nat) ^ 8 = 256 from rfl, show (a + 256 * (b + 256 * c)) / 256 = b + 256 * c by omega]
      omega
  have sp2 : ∀ k, cnt (b + 256 * c) (8 + k) = cnt b 8 + cnt c k := by
    intro k
    induction k with
    | zero =>
      show cnt (b + 256 * c) 8 = cnt b 8
      unfold cnt cnt cnt cnt cnt cnt cnt cnt cnt
      omega
    | succ k ih =>
      show cnt (b + 256 * c) (8 + k) + (b + 256 * c) / 2 ^ (8 + k) % 2 = cnt b 8 + (cnt c k + c / 2 ^ k % 2)
      rw [ih, Nat.pow_add, ← Nat.div_div_eq_div_mul, show (2 : Nat) ^ 8 = 256 from rfl, show (b + 256 * c) / 256 = c by omega]
      omega
  have q1 := sp 12
  have q2 := sp2 4
  have q3 : ∀ c, c < 16 → cnt c 8 = cnt c 4 := by decide +kernel
  have q4 := q3 c hc
  have q1' : cnt (a + 256 * (b + 256 * c)) 20 = cnt a 8 + cnt (b + 256 * c) 12 := q1
  have q2' : cnt (b + 256 * c) 12 = cnt b 8 + cnt c 4 := q2
  omega
