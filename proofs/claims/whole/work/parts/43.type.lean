/-! the bytes of a word -/
theorem mq_land {x : BitVec 64} : (x &&& 255#64).toInt = (x.toNat % 256 : Nat) := by
  have h : (x &&& 255#64).toNat = x.toNat % 256 := by
    rw [BitVec.toNat_and]
    exact Nat.and_two_pow_sub_one_eq_mod x.toNat 8
  rw [BitVec.toInt_eq_toNat_of_lt (by omega), h]
theorem mq_land32 {x : BitVec 32} : (x &&& 255#32).toInt = (x.toNat % 256 : Nat) := by
  have h : (x &&& 255#32).toNat = x.toNat % 256 := by
    rw [BitVec.toNat_and]
    exact Nat.and_two_pow_sub_one_eq_mod x.toNat 8
  rw [BitVec.toInt_eq_toNat_of_lt (by omega), h]
theorem mq_a (v k : Int) : zland (zlshr v (8 * k)) 255 = (((zJ v >>> ((zI (8 * k)).toInt64 &&& 63)).toBitVec.toNat % 256 : Nat) : Int) := by
  unfold zland zlshr
  have e : zJ (zJ v >>> ((zI (8 * k)).toInt64 &&& 63)).toInt = zJ v >>> ((zI (8 * k)).toInt64 &&& 63) := by
    unfold zJ
    exact Int64.ofInt_toInt _
  rw [e]
  exact mq_land
theorem mq_int {x : BitVec 64} : ((x.toNat % 256 : Nat) : Int) = x.toInt % 256 := by
  rw [BitVec.toInt_eq_toNat_cond]
  have := x.isLt
  split <;> omega
theorem mq_zJ {v : Int} (hv : -9223372036854775808 ≤ v ∧ v < 9223372036854775808) : (zJ v).toInt = v := by
  unfold zJ
  exact Int64.toInt_ofInt_of_le hv.1 hv.2
theorem mq_b {v : Int} {c : Nat} (hc : c < 8) (hv : -9223372036854775808 ≤ v ∧ v < 9223372036854775808) : zland (zlshr v (8 * (c : Int))) 255 = v / 2 ^ (8 * c) % 256 := by
  rw [mq_a, mq_int]
  have e : (zJ v >>> ((zI (8 * (c : Int))).toInt64 &&& 63)).toBitVec.toInt = v / 2 ^ (8 * c) := by
    have hs : (((zI (8 * (c : Int))).toInt64 &&& 63).toBitVec.smod 64).toNat = 8 * c := by
      have : c = 0 ∨ c = 1 ∨ c = 2 ∨ c = 3 ∨ c = 4 ∨ c = 5 ∨ c = 6 ∨ c = 7 := by omega
      rcases this with e | e | e | e | e | e | e | e <;> subst e <;> decide
    rw [Int64.toBitVec_shiftRight, BitVec.sshiftRight_eq', hs, BitVec.toInt_sshiftRight, Int.shiftRight_eq_div_pow]
    rw [show (zJ v).toBitVec.toInt = v from mq_zJ hv]
    norm_cast
  rw [e]
theorem mq_c {v : Int} {c : Nat} (hc : c < 8) (hv : -9223372036854775808 ≤ v ∧ v < 9223372036854775808) : zand (zlushr v (8 * (c : Int))) 255 = v / 2 ^ (8 * c) % 256 := by
  unfold zand zlushr
  have e1 : ∀ x : Int, (zI x &&& zI 255).toInt = x % 256 := by
    intro x
    have h := mq_land32 (x := (zI x).toBitVec)
    have h2 : ((zI x).toBitVec.toNat : Int) = x % 4294967296 := by
      show (((BitVec.ofInt 32 x).toNat : Nat) : Int) = _
      rw [BitVec.toNat_ofInt]
      omega
    refine Eq.trans h ?_
    omega
  rw [e1]
  have e2 : ∀ u : UInt64, u.toInt64.toInt % 256 = ((u.toNat : Nat) : Int) % 256 := by
    intro u
    have := mq_int (x := u.toBitVec)
    show u.toBitVec.toInt % 256 = ((u.toBitVec.toNat : Nat) : Int) % 256
    omega
  rw [e2, UInt64.toNat_shiftRight]
  have hs : ((zI (8 * (c : Int))).toInt64.toUInt64 &&& Int64.toUInt64 63).toNat % 64 = 8 * c := by
    have : c = 0 ∨ c = 1 ∨ c = 2 ∨ c = 3 ∨ c = 4 ∨ c = 5 ∨ c = 6 ∨ c = 7 := by omega
    rcases this with e | e | e | e | e | e | e | e <;> subst e <;> decide
  rw [hs, Nat.shiftRight_eq_div_pow]
  have e3 : (((zJ v).toUInt64.toNat : Nat) : Int) = v % 18446744073709551616 := by
    show (((BitVec.ofInt 64 v).toNat : Nat) : Int) = _
    rw [BitVec.toNat_ofInt]
    omega
  generalize (zJ v).toUInt64.toNat = u at e3
  have : c = 0 ∨ c = 1 ∨ c = 2 ∨ c = 3 ∨ c = 4 ∨ c = 5 ∨ c = 6 ∨ c = 7 := by omega
  rcases this with e | e | e | e | e | e | e | e <;> subst e <;> simp only [Nat.reduceMul, Nat.reducePow, Int.reducePow] <;> omega
def mby (v : Int) (k : Int) : Int := v / 2 ^ (8 * k.toNat) % 256
theorem mby_r (v k : Int) : 0 ≤ mby v k ∧ mby v k < 256 := by unfold mby; omega
theorem m_bow {v k : Int} (hk : 0 ≤ k ∧ k < 8) (hv : -9223372036854775808 ≤ v ∧ v < 9223372036854775808) : f_X5_byteOfWord v k = some (mby v k) := by
  unfold f_X5_byteOfWord mby
  have := mq_c (v := v) (c := k.toNat) (by omega) hv
  rw [show ((k.toNat : Nat) : Int) = k by omega] at this
  rw [this]
theorem m_bowM {v k : Int} (hk : 0 ≤ k ∧ k < 8) (hv : -9223372036854775808 ≤ v ∧ v < 9223372036854775808) : zland (zlshr v (8 * k)) 255 = mby v k := by
  unfold mby
  have := mq_b (v := v) (c := k.toNat) (by omega) hv
  rw [show ((k.toNat : Nat) : Int) = k by omega] at this
  rw [this]
