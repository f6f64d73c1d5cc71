/-! BITS OF LONGS -/
theorem l_orU (a b : Nat) : lI a ||| lI b = lI (a ||| b) := by
  apply Int64.toBitVec_inj.mp
  apply BitVec.eq_of_toNat_eq
  rw [Int64.toBitVec_or, BitVec.toNat_or]
  show (a % 2 ^ 64) ||| (b % 2 ^ 64) = (a ||| b) % 2 ^ 64
  rw [Nat.or_mod_two_pow]
theorem l_and1U (a : Nat) : lI a &&& lI 1 = lI (a % 2) := by
  apply Int64.toBitVec_inj.mp
  apply BitVec.eq_of_toNat_eq
  rw [Int64.toBitVec_and, BitVec.toNat_and]
  show (a % 2 ^ 64) &&& (1 % 2 ^ 64) = (a % 2) % 2 ^ 64
  rw [← Nat.and_mod_two_pow, Nat.and_one_is_mod]
theorem l_sm : ∀ k, k < 64 → (((nI k).toInt64 &&& 63).toBitVec.smod 64).toNat = k := by
  intro k hk
  exact co_dec (N := 64) (P := fun k => (((nI k).toInt64 &&& 63).toBitVec.smod 64).toNat = k) (by decide +kernel) hk
theorem l_sk : ∀ k, k < 64 → (((nI k).toInt64.toUInt64 &&& Int64.toUInt64 63).toBitVec % 64).toNat = k := by
  intro k hk
  exact co_dec (N := 64) (P := fun k => (((nI k).toInt64.toUInt64 &&& Int64.toUInt64 63).toBitVec % 64).toNat = k) (by decide +kernel) hk
theorem l_1shl {k : Nat} (hk : k < 64) : lI 1 <<< ((nI k).toInt64 &&& 63) = lI (2 ^ k) := by
  apply Int64.toBitVec_inj.mp
  apply BitVec.eq_of_toNat_eq
  rw [Int64.toBitVec_shiftLeft, BitVec.shiftLeft_eq', BitVec.toNat_shiftLeft, l_sm k hk]
  show (1 % 2 ^ 64) <<< k % 2 ^ 64 = (2 ^ k) % 2 ^ 64
  rw [Nat.shiftLeft_eq, Nat.mod_eq_of_lt (show 1 < 2 ^ 64 by decide), Nat.one_mul]
theorem l_ushr {a k : Nat} (ha : a < 2 ^ 64) (hk : k < 64) : ((lI a).toUInt64 >>> ((nI k).toInt64.toUInt64 &&& Int64.toUInt64 63)).toInt64 = lI (a / 2 ^ k) := by
  apply Int64.toBitVec_inj.mp
  apply BitVec.eq_of_toNat_eq
  show ((lI a).toUInt64 >>> ((nI k).toInt64.toUInt64 &&& Int64.toUInt64 63)).toBitVec.toNat = _
  rw [UInt64.toBitVec_shiftRight, BitVec.ushiftRight_eq', BitVec.toNat_ushiftRight, l_sk k hk]
  show (a % 2 ^ 64) >>> k = (a / 2 ^ k) % 2 ^ 64
  rw [Nat.mod_eq_of_lt ha, Nat.shiftRight_eq_div_pow, Nat.mod_eq_of_lt (Nat.lt_of_le_of_lt (Nat.div_le_self _ _) ha)]
