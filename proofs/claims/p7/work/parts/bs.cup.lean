/-! up of the class -/
theorem and_up {x k : Nat} (hk : k ≤ 64) (hx : x < 2 ^ 64) : x &&& (2 ^ 64 - 2 ^ k) = x / 2 ^ k * 2 ^ k := by
  have e : 2 ^ 64 - 2 ^ k = (2 ^ (64 - k) - 1) * 2 ^ k := by
    rw [Nat.sub_mul, Nat.one_mul, ← Nat.pow_add, show 64 - k + k = 64 by omega]
  apply Nat.eq_of_testBit_eq
  intro i
  rw [Nat.testBit_and, e, Nat.testBit_mul_two_pow, Nat.testBit_mul_two_pow, Nat.testBit_two_pow_sub_one, Nat.testBit_div_two_pow]
  by_cases c : k ≤ i
  · rw [decide_eq_true c, Bool.true_and, Bool.true_and, show i - k + k = i by omega]
    by_cases c2 : i - k < 64 - k
    · rw [decide_eq_true c2, Bool.and_true]
    · rw [decide_eq_false c2, Bool.and_false]
      have : x < 2 ^ i := Nat.lt_of_lt_of_le hx (Nat.pow_le_pow_right (by decide) (by omega))
      exact (Nat.testBit_lt_two_pow this).symm
  · rw [decide_eq_false c, Bool.false_and, Bool.and_false, Bool.false_and]
theorem k_up {F : Nat} {c : px_CT} {ph : px_H} {v k : Nat} (hk : k ≤ 32) (hv : v < 2 ^ 61) : f_H_up F c (lN v) (lN (2 ^ k)) ph = some (lN (upN v (2 ^ k)), ph) := by
  have h1 : 1 ≤ 2 ^ k := Nat.one_le_two_pow
  have h2 : 2 ^ k ≤ 2 ^ 32 := Nat.pow_le_pow_right (by decide) hk
  unfold f_H_up upN
  rw [lN_add, lN_sub (by omega)]
  congr 2
  apply Int64.toBitVec_inj.mp
  apply BitVec.eq_of_toNat_eq
  show (BitVec.ofNat 64 (v + 2 ^ k - 1) &&& - BitVec.ofNat 64 (2 ^ k)).toNat = (BitVec.ofNat 64 ((v + 2 ^ k - 1) / 2 ^ k * 2 ^ k)).toNat
  have h3 : (v + 2 ^ k - 1) / 2 ^ k * 2 ^ k ≤ v + 2 ^ k - 1 := Nat.div_mul_le_self _ _
  rw [BitVec.toNat_and, BitVec.toNat_neg, BitVec.toNat_ofNat, BitVec.toNat_ofNat, BitVec.toNat_ofNat, Nat.mod_eq_of_lt (show v + 2 ^ k - 1 < 2 ^ 64 by omega), Nat.mod_eq_of_lt (show 2 ^ k < 2 ^ 64 by omega), Nat.mod_eq_of_lt (show 2 ^ 64 - 2 ^ k < 2 ^ 64 by omega), Nat.mod_eq_of_lt (show (v + 2 ^ k - 1) / 2 ^ k * 2 ^ k < 2 ^ 64 by omega)]
  exact and_up (by omega) (by omega)
