/-! the call that tells a cost: both programs answer alike -/
theorem mq_and1 (x : Int) : zand x 1 = x % 2 := by
  unfold zand
  have h : ((zI x).toBitVec &&& 1#32).toNat = (zI x).toBitVec.toNat % 2 := by
    rw [BitVec.toNat_and]
    exact Nat.and_two_pow_sub_one_eq_mod (zI x).toBitVec.toNat 1
  have h2 : ((zI x).toBitVec.toNat : Int) = x % 4294967296 := by
    show (((BitVec.ofInt 32 x).toNat : Nat) : Int) = _
    rw [BitVec.toNat_ofInt]
    omega
  have h3 : ((zI x).toBitVec &&& 1#32).toInt = (((zI x).toBitVec.toNat % 2 : Nat) : Int) := by
    rw [BitVec.toInt_eq_toNat_of_lt (by omega), h]
  refine Eq.trans h3 ?_
  omega
theorem mq_zI {v : Int} (hv : mW v) : (zI v).toInt = v := mw32 hv
theorem mq_sh {v : Int} {c : Nat} (hc : c < 32) (hv : mW v) : zishr v (c : Int) = v / 2 ^ c := by
  unfold zishr
  have hs : ((zI (c : Int) &&& 31).toBitVec.smod 32).toNat = c := by
    have : ∀ c : Fin 32, ((zI (c.val : Int) &&& 31).toBitVec.smod 32).toNat = c.val := by decide
    exact this ⟨c, hc⟩
  show (zI v >>> (zI (c : Int) &&& 31)).toBitVec.toInt = _
  rw [Int32.toBitVec_shiftRight, BitVec.sshiftRight_eq', hs, BitVec.toInt_sshiftRight, Int.shiftRight_eq_div_pow]
  rw [show (zI v).toBitVec.toInt = v from mq_zI hv]
  norm_cast
theorem mq_ush {v : Int} {c : Nat} (hc : c < 32) (hv : mW v) : ziushr v (c : Int) % 2 = v / 2 ^ c % 2 := by
  unfold ziushr
  have e2 : ∀ u : UInt32, u.toInt32.toInt % 2 = ((u.toNat : Nat) : Int) % 2 := by
    intro u
    show u.toBitVec.toInt % 2 = ((u.toBitVec.toNat : Nat) : Int) % 2
    rw [BitVec.toInt_eq_toNat_cond]
    have := u.toBitVec.isLt
    split <;> omega
  rw [e2, UInt32.toNat_shiftRight]
  have hs : ((zI (c : Int)).toUInt32 &&& Int32.toUInt32 31).toNat % 32 = c := by
    have : ∀ c : Fin 32, ((zI (c.val : Int)).toUInt32 &&& Int32.toUInt32 31).toNat % 32 = c.val := by decide
    exact this ⟨c, hc⟩
  rw [hs, Nat.shiftRight_eq_div_pow]
  have e3 : (((zI v).toUInt32.toNat : Nat) : Int) = v % 4294967296 := by
    show (((BitVec.ofInt 32 v).toNat : Nat) : Int) = _
    rw [BitVec.toNat_ofInt]
    omega
  generalize (zI v).toUInt32.toNat = u at e3
  have hp : (0 : Int) < 2 ^ c := Int.pow_pos (by decide)
  have hq : (4294967296 : Int) = 2 ^ c * (2 * 2 ^ (31 - c)) := by
    have : (2 : Int) ^ 32 = 2 ^ c * (2 ^ 1 * 2 ^ (31 - c)) := by
      rw [← Int.pow_add, ← Int.pow_add]
      congr 1
      omega
    simpa using this
  have hv2 : v = 2 ^ c * (2 * 2 ^ (31 - c)) * (v / 4294967296) + (u : Int) := by
    rw [← hq, e3]
    omega
  have : v / 2 ^ c = 2 * (2 ^ (31 - c) * (v / 4294967296)) + (u : Int) / 2 ^ c := by
    conv => lhs; rw [hv2]
    rw [Int.mul_assoc, Int.add_comm, Int.add_mul_ediv_left _ _ (by omega)]
    rw [Int.mul_assoc 2]
    omega
  rw [this]
  have e4 : ((u / 2 ^ c : Nat) : Int) = (u : Int) / 2 ^ c := by norm_cast
  omega
