/-! the bytes of a word -/
theorem mq_land {x : BitVec 64} : (x &&& 255#64).toInt = (x.toNat % 256 : Nat) := by
  have h : (x &&& 255#64).toNat = x.toNat % 256 := by
    rw [BitVec.toNat_and]
    exact Nat.and_two_pow_sub_one_eq_mod x.toNat 8
  rw [BitVec.toInt_eq_toNat_of_lt (by omega), h]
theorem mq_land32 {x : BitVec 32} : (x &&& 255#32).toInt = (x.toNat % 256 : Nat) := by
  have h : (x &&& 255#32).toNat = x.toNat % 256 := by
    rw [BitVec.toNat_and]
    exact Nat.and_two_pow_sub_one_eq_mod x.toNat 8
  rw [BitVec.toInt_eq_toNat_of_lt (by omega), h]
theorem mq_a (v k : Int) : zland (zlshr v (8 * k)) 255 = (((zJ v >>> ((zI (8 * k)).toInt64 &&& 63)).toBitVec.toNat % 256 : Nat) : Int) := by
  unfold zland zlshr
  have e : zJ (zJ v >>> ((zI (8 * k)).toInt64 &&& 63)).toInt = zJ v >>> ((zI (8 * k)).toInt64 &&& 63) := by
    unfold zJ
    exact Int64.ofInt_toInt _
  rw [e]
  exact mq_land
theorem mq_int {x : BitVec 64} : ((x.toNat % 256 : Nat) : Int) = x.toInt % 256 := by
  rw [BitVec.toInt_eq_toNat_cond]
  have := x.isLt
  split <;> omega
theorem mq_zJ {v : Int} (hv : -9223372036854775808 ≤ v ∧ v < 9223372036854775808) : (zJ v).toInt = v := by
  unfold zJ
  exact Int64.toInt_ofInt_of_le hv.1 hv.2
theorem mq_b {v : Int} {c : Nat} (hc : c < 8) (hv : -9223372036854775808 ≤ v ∧ v < 9223372036854775808) : zland (zlshr v (8 * (c : Int))) 255 = v / 2 ^ (8 * c) % 256 := by
  rw [mq_a, mq_int]
  have e : (zJ v >>> ((zI (8 * (c : Int))).toInt64 &&& 63)).toBitVec.toInt = v / 2 ^ (8 * c) := by
    have hs : (((zI (8 * (c : Int))).toInt64 &&& 63).toBitVec.smod 64).toNat = 8 * c := by
      have : c = 0 ∨ c = 1 ∨ c = 2 ∨ c = 3 ∨ c = 4 ∨ c = 5 ∨ c = 6 ∨ c = 7 := by omega
      rcases this with e | e | e | e | e | e | e | e <;> subst e <;> decide
    rw [Int64.toBitVec_shiftRight, BitVec.sshiftRight_eq', hs, BitVec.toInt_sshiftRight, Int.shiftRight_eq_div_pow]
    rw [show (zJ v).toBitVec.toInt = v from mq_zJ hv]
    norm_cast
  rw [e]
