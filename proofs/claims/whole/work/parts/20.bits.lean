/-! bits of natural numbers -/
theorem b_sk : ∀ k, k < 32 → (((nI k).toUInt32 &&& Int32.toUInt32 31).toBitVec % 32).toNat = k := by
  intro k hk
  exact co_dec (N := 32) (P := fun k => (((nI k).toUInt32 &&& Int32.toUInt32 31).toBitVec % 32).toNat = k) (by decide +kernel) hk
theorem b_sm : ∀ k, k < 32 → ((nI k &&& 31).toBitVec.smod 32).toNat = k := by
  intro k hk
  exact co_dec (N := 32) (P := fun k => ((nI k &&& 31).toBitVec.smod 32).toNat = k) (by decide +kernel) hk
theorem b_ushr {a k : Nat} (ha : a < 2 ^ 31) (hk : k < 32) : ((nI a).toUInt32 >>> ((nI k).toUInt32 &&& Int32.toUInt32 31)).toInt32 = nI (a / 2 ^ k) := pk_ushrN (by omega) (nI k) k (b_sk k hk)
theorem b_shr {a k : Nat} (ha : a < 2 ^ 31) (hk : k < 32) : nI a >>> (nI k &&& 31) = nI (a / 2 ^ k) := pk_shrN ha (nI k &&& 31) k (b_sm k hk)
theorem b_shl {a k : Nat} (h : a * 2 ^ k < 2 ^ 32) (hk : k < 32) : nI a <<< (nI k &&& 31) = nI (a * 2 ^ k) := pk_shlN (nI k &&& 31) k (b_sm k hk) h
theorem b_and1 {a : Nat} (h : a < 2 ^ 32) : nI a &&& nI 1 = nI (a % 2) := pk_andN h 1 (by decide)
theorem b_tn {a : Nat} (h : a < 2 ^ 32) : (nI a).toBitVec.toNat = a := pk_tn h
theorem b_or {a b : Nat} (ha : a < 2 ^ 32) (hb : b < 2 ^ 32) : nI a ||| nI b = nI (a ||| b) := by
  apply Int32.toBitVec_inj.mp
  apply BitVec.eq_of_toNat_eq
  have hab : a ||| b < 2 ^ 32 := Nat.or_lt_two_pow ha hb
  rw [Int32.toBitVec_or, BitVec.toNat_or, b_tn ha, b_tn hb, b_tn hab]
theorem b_and {a b : Nat} (ha : a < 2 ^ 32) (hb : b < 2 ^ 32) : nI a &&& nI b = nI (a &&& b) := by
  apply Int32.toBitVec_inj.mp
  apply BitVec.eq_of_toNat_eq
  have hab : a &&& b < 2 ^ 32 := Nat.lt_of_le_of_lt Nat.and_le_left ha
  rw [Int32.toBitVec_and, BitVec.toNat_and, b_tn ha, b_tn hb, b_tn hab]
theorem b_p14 {k : Nat} (h : k ≤ 14) : 2 ^ k ≤ 16384 := by
  calc 2 ^ k ≤ 2 ^ 14 := Nat.pow_le_pow_right (by decide) h
    _ = 16384 := by decide
theorem b_1shl {k : Nat} (hk : k ≤ 14) : nI 1 <<< (nI k &&& 31) = nI (2 ^ k) := by
  have := b_p14 hk
  rw [b_shl (by omega) (by omega), Nat.one_mul]
