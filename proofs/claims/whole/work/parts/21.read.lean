/-! OBLIGATIONS room, way, found -/
theorem inc_134 : ai_inc ar_134 = true := by decide +kernel
theorem inc_133 : ai_inc ar_133 = true := by decide +kernel
theorem sw_3 (y : Int32) : y = nI 0 ∨ y = nI 1 ∨ y = nI 2 ∨ ((y.toInt < 0 ∨ 2 < y.toInt) ∧ ¬ (¬ y < 0 ∧ ¬ nI 2 < y)) := by
  rcases pk_ix y (n := 3) (by decide) with h | h | ⟨j, hj, rfl⟩
  · right; right; right
    refine ⟨Or.inl ?_, fun z => z.1 h⟩
    rw [Int32.lt_iff_toInt_lt] at h
    exact h
  · right; right; right
    rw [Int32.le_iff_toInt_le, nI_toInt (by decide)] at h
    refine ⟨Or.inr (by omega), fun z => z.2 ?_⟩
    rw [Int32.lt_iff_toInt_lt, nI_toInt (by decide)]
    omega
  · rcases (show j = 0 ∨ j = 1 ∨ j = 2 by omega) with rfl | rfl | rfl
    · exact Or.inl rfl
    · exact Or.inr (Or.inl rfl)
    · exact Or.inr (Or.inr (Or.inl rfl))
theorem c134_0 {X : ai_X} {h : ai_H} {tp : Int32} {n k : Nat} {F : Nat → Int32} {G : Nat → Nat → Int32} (c0 : h[0]? = some (cOne tp)) (H : HouseAt h 3 F G) (hF : F 0 = nI n) (hn : n ≤ 14) (hk : k < n) : Mt X am_134 [.ref 0, .int (nI k), .int (nI 0)] h (Qe (G 3 k) h) := by
  have hc00 : h[3]? = some (cHouse 3 F) := H.1
  refine rk_aload_n rfl rfl ?_
  refine rk_get rfl (by assumption) rfl ?_
  refine rk_iload_n rfl rfl ?_
  refine rk_cv1e rfl rfl (by assumption) rfl rfl (Nat.le_of_ble_eq_true rfl) (Nat.le_of_ble_eq_true rfl) (s23n H hF _) ?_
  refine rk_if_ne rfl rfl (fun hc4 => ?_) (fun hc4 => ?_)
  · replace hc4 := Decidable.not_not.mp (mt bI_0.mpr hc4)
    refine rk_iload_n rfl rfl ?_
    refine rk_sw_in (off := 25) (j := 9) rfl (by decide) rfl (ai_dw inc_134 rfl) rfl ?_
    refine rk_aload_n rfl rfl ?_
    refine rk_get rfl (by assumption) rfl ?_
    refine rk_iload_n rfl rfl ?_
    refine rk_cv1e rfl rfl (by assumption) rfl rfl (Nat.le_of_ble_eq_true rfl) (Nat.le_of_ble_eq_true rfl) (s30 H (by omega)) ?_
    exact rk_ireturn rfl rfl Qe_mk
  · replace hc4 := Decidable.not_not.mp hc4
    replace hc4 := (bI_0).mp hc4
    exact absurd (in_mk (by omega) hk) hc4
theorem c134_1 {X : ai_X} {h : ai_H} {tp : Int32} {n k : Nat} {F : Nat → Int32} {G : Nat → Nat → Int32} (c0 : h[0]? = some (cOne tp)) (H : HouseAt h 3 F G) (hF : F 0 = nI n) (hn : n ≤ 14) (hk : k < n) : Mt X am_134 [.ref 0, .int (nI k), .int (nI 1)] h (Qe ((((F 5).toUInt32 >>> ((nI k).toUInt32 &&& Int32.toUInt32 31)).toInt32 &&& nI 1)) h) := by
  have hc00 : h[3]? = some (cHouse 3 F) := H.1
  refine rk_aload_n rfl rfl ?_
  refine rk_get rfl (by assumption) rfl ?_
  refine rk_iload_n rfl rfl ?_
  refine rk_cv1e rfl rfl (by assumption) rfl rfl (Nat.le_of_ble_eq_true rfl) (Nat.le_of_ble_eq_true rfl) (s23n H hF _) ?_
  refine rk_if_ne rfl rfl (fun hc4 => ?_) (fun hc4 => ?_)
  · replace hc4 := Decidable.not_not.mp (mt bI_0.mpr hc4)
    refine rk_iload_n rfl rfl ?_
    refine rk_sw_in (off := 34) (j := 14) rfl (by decide) rfl (ai_dw inc_134 rfl) rfl ?_
    refine rk_aload_n rfl rfl ?_
    refine rk_get rfl (by assumption) rfl ?_
    refine rk_get rfl (by assumption) rfl ?_
    refine rk_iload_n rfl rfl ?_
    refine rk_iushr rfl rfl ?_
    refine rk_iconst (v := nI 1) rfl (by decide) ?_
    refine rk_iand rfl rfl ?_
    exact rk_ireturn rfl rfl Qe_mk
  · replace hc4 := Decidable.not_not.mp hc4
    replace hc4 := (bI_0).mp hc4
    exact absurd (in_mk (by omega) hk) hc4
theorem c134_2 {X : ai_X} {h : ai_H} {tp : Int32} {n k : Nat} {F : Nat → Int32} {G : Nat → Nat → Int32} (c0 : h[0]? = some (cOne tp)) (H : HouseAt h 3 F G) (hF : F 0 = nI n) (hn : n ≤ 14) (hk : k < n) : Mt X am_134 [.ref 0, .int (nI k), .int (nI 2)] h (Qe ((((F 6).toUInt32 >>> ((nI k).toUInt32 &&& Int32.toUInt32 31)).toInt32 &&& nI 1)) h) := by
  have hc00 : h[3]? = some (cHouse 3 F) := H.1
  refine rk_aload_n rfl rfl ?_
  refine rk_get rfl (by assumption) rfl ?_
  refine rk_iload_n rfl rfl ?_
  refine rk_cv1e rfl rfl (by assumption) rfl rfl (Nat.le_of_ble_eq_true rfl) (Nat.le_of_ble_eq_true rfl) (s23n H hF _) ?_
  refine rk_if_ne rfl rfl (fun hc4 => ?_) (fun hc4 => ?_)
  · replace hc4 := Decidable.not_not.mp (mt bI_0.mpr hc4)
    refine rk_iload_n rfl rfl ?_
    refine rk_sw_in (off := 46) (j := 22) rfl (by decide) rfl (ai_dw inc_134 rfl) rfl ?_
    refine rk_aload_n rfl rfl ?_
    refine rk_get rfl (by assumption) rfl ?_
    refine rk_get rfl (by assumption) rfl ?_
    refine rk_iload_n rfl rfl ?_
    refine rk_iushr rfl rfl ?_
    refine rk_iconst (v := nI 1) rfl (by decide) ?_
    refine rk_iand rfl rfl ?_
    exact rk_ireturn rfl rfl Qe_mk
  · replace hc4 := Decidable.not_not.mp hc4
    replace hc4 := (bI_0).mp hc4
    exact absurd (in_mk (by omega) hk) hc4
theorem c134_o {X : ai_X} {h : ai_H} {tp : Int32} {n k : Nat} {F : Nat → Int32} {G : Nat → Nat → Int32} (c0 : h[0]? = some (cOne tp)) (H : HouseAt h 3 F G) (hF : F 0 = nI n) (hn : n ≤ 14) {y : Int32} (hk : k < n) (hy : y.toInt < 0 ∨ 2 < y.toInt) : Mt X am_134 [.ref 0, .int (nI k), .int y] h (Qe (-2) h) := by
  have hc00 : h[3]? = some (cHouse 3 F) := H.1
  refine rk_aload_n rfl rfl ?_
  refine rk_get rfl (by assumption) rfl ?_
  refine rk_iload_n rfl rfl ?_
  refine rk_cv1e rfl rfl (by assumption) rfl rfl (Nat.le_of_ble_eq_true rfl) (Nat.le_of_ble_eq_true rfl) (s23n H hF _) ?_
  refine rk_if_ne rfl rfl (fun hc4 => ?_) (fun hc4 => ?_)
  · replace hc4 := Decidable.not_not.mp (mt bI_0.mpr hc4)
    refine rk_iload_n rfl rfl ?_
    refine rk_sw_out (j := 30) rfl hy (ai_dw inc_134 rfl) rfl ?_
    refine rk_bipush (v := (-2)) rfl (by decide) ?_
    exact rk_ireturn rfl rfl Qe_mk
  · replace hc4 := Decidable.not_not.mp hc4
    replace hc4 := (bI_0).mp hc4
    exact absurd (in_mk (by omega) hk) hc4
theorem c134_x {X : ai_X} {h : ai_H} {tp : Int32} {n k : Nat} {F : Nat → Int32} {G : Nat → Nat → Int32} (c0 : h[0]? = some (cOne tp)) (H : HouseAt h 3 F G) (hF : F 0 = nI n) (hn : n ≤ 14) {x y : Int32} (hx : ¬ (¬ x < 0 ∧ ¬ nI n ≤ x)) : Mt X am_134 [.ref 0, .int x, .int y] h (Qe (-2) h) := by
  have hc00 : h[3]? = some (cHouse 3 F) := H.1
  refine rk_aload_n rfl rfl ?_
  refine rk_get rfl (by assumption) rfl ?_
  refine rk_iload_n rfl rfl ?_
  refine rk_cv1e rfl rfl (by assumption) rfl rfl (Nat.le_of_ble_eq_true rfl) (Nat.le_of_ble_eq_true rfl) (s23n H hF _) ?_
  refine rk_if_ne rfl rfl (fun hc4 => ?_) (fun hc4 => ?_)
  · replace hc4 := Decidable.not_not.mp (mt bI_0.mpr hc4)
    exact absurd hc4 hx
  · replace hc4 := Decidable.not_not.mp hc4
    replace hc4 := (bI_0).mp hc4
    refine rk_bipush (v := (-2)) rfl (by decide) ?_
    exact rk_ireturn rfl rfl Qe_mk
theorem m216_0 {X : ai_X} {h : ai_H} {n k : Nat} {v A : Nat → Int32} (c0 : h[52]? = some (cMdl v)) (c1 : h[53]? = some (cI 2346 A)) (hA : A 0 = nI n) (hn : n ≤ 14) (hk : k < n) : Rk X am_216 3 (ai_loc (ai_mL am_216) [.ref 52, .int (nI k), .int (nI 0)]) [] h (Qe (A (254 + k)) h) := by
  refine rk_aload_n rfl rfl ?_
  refine rk_iload_n rfl rfl ?_
  refine rk_cv1e rfl rfl (by assumption) rfl rfl (Nat.le_of_ble_eq_true rfl) (Nat.le_of_ble_eq_true rfl) (s207n c0 c1 hA (by omega) _) ?_
  refine rk_if_eq rfl rfl (fun hc6 => ?_) (fun hc6 => ?_)
  · replace hc6 := (bI_0).mp hc6
    exact absurd (in_mk (by omega) hk) hc6
  · replace hc6 := Decidable.not_not.mp (mt bI_0.mpr hc6)
    refine rk_iload_n rfl rfl ?_
    refine rk_i2l rfl rfl ?_
    refine rk_lconst (v := 0) rfl (by decide) ?_
    rw [show (0 : Int64) = (0 : Int32).toInt64 by decide]
    refine rk_ldc2 rfl ?_
    rw [show (2 : Int64) = (nI 2).toInt64 by decide]
    refine rk_cs3e rfl rfl rfl (Nat.le_of_ble_eq_true rfl) (Nat.le_of_ble_eq_true rfl) (s181 _ _ _) ?_
    refine rk_if_ne rfl rfl (fun hc12 => ?_) (fun hc12 => ?_)
    · replace hc12 := Decidable.not_not.mp (mt bI_0.mpr hc12)
      refine rk_iload_n rfl rfl ?_
      refine rk_if_ne rfl rfl (fun hc16 => ?_) (fun hc16 => ?_)
      · replace hc16 := mt (n0_eq (by omega)).mpr hc16
        omega
      · replace hc16 := Decidable.not_not.mp hc16
        replace hc16 := (n0_eq (by omega)).mp hc16
        refine rk_aload_n rfl rfl ?_
        refine rk_get rfl (by assumption) rfl ?_
        refine rk_sipush (v := nI 254) rfl (by decide) ?_
        refine rk_iload_n rfl rfl ?_
        refine rk_iadd rfl (nI_add _ _) ?_
        refine rk_iald rfl (by assumption) (rfl) (by omega) (by decide) ?_
        refine rk_goto rfl rfl ?_
        exact rk_ireturn rfl rfl Qe_mk
    · replace hc12 := Decidable.not_not.mp hc12
      replace hc12 := (bI_0).mp hc12
      exact absurd ⟨by decide, by decide⟩ hc12
theorem m216_1 {X : ai_X} {h : ai_H} {n k : Nat} {v A : Nat → Int32} (c0 : h[52]? = some (cMdl v)) (c1 : h[53]? = some (cI 2346 A)) (hA : A 0 = nI n) (hn : n ≤ 14) (hk : k < n) : Rk X am_216 3 (ai_loc (ai_mL am_216) [.ref 52, .int (nI k), .int (nI 1)]) [] h (Qe ((A 268) >>> (nI k &&& 31) &&& nI 1) h) := by
  refine rk_aload_n rfl rfl ?_
  refine rk_iload_n rfl rfl ?_
  refine rk_cv1e rfl rfl (by assumption) rfl rfl (Nat.le_of_ble_eq_true rfl) (Nat.le_of_ble_eq_true rfl) (s207n c0 c1 hA (by omega) _) ?_
  refine rk_if_eq rfl rfl (fun hc6 => ?_) (fun hc6 => ?_)
  · replace hc6 := (bI_0).mp hc6
    exact absurd (in_mk (by omega) hk) hc6
  · replace hc6 := Decidable.not_not.mp (mt bI_0.mpr hc6)
    refine rk_iload_n rfl rfl ?_
    refine rk_i2l rfl rfl ?_
    refine rk_lconst (v := 0) rfl (by decide) ?_
    rw [show (0 : Int64) = (0 : Int32).toInt64 by decide]
    refine rk_ldc2 rfl ?_
    rw [show (2 : Int64) = (nI 2).toInt64 by decide]
    refine rk_cs3e rfl rfl rfl (Nat.le_of_ble_eq_true rfl) (Nat.le_of_ble_eq_true rfl) (s181 _ _ _) ?_
    refine rk_if_ne rfl rfl (fun hc12 => ?_) (fun hc12 => ?_)
    · replace hc12 := Decidable.not_not.mp (mt bI_0.mpr hc12)
      refine rk_iload_n rfl rfl ?_
      refine rk_if_ne rfl rfl (fun hc16 => ?_) (fun hc16 => ?_)
      · replace hc16 := mt (n0_eq (by omega)).mpr hc16
        refine rk_aload_n rfl rfl ?_
        refine rk_get rfl (by assumption) rfl ?_
        refine rk_iload_n rfl rfl ?_
        refine rk_iconst (v := nI 1) rfl (by decide) ?_
        refine rk_icmp_ne rfl rfl (fun hc28 => ?_) (fun hc28 => ?_)
        · replace hc28 := mt (nI_eq (by omega) (by omega)).mpr hc28
          omega
        · replace hc28 := Decidable.not_not.mp hc28
          replace hc28 := (nI_eq (by omega) (by omega)).mp hc28
          refine rk_sipush (v := nI 268) rfl (by decide) ?_
          refine rk_goto rfl rfl ?_
          refine rk_iald rfl (by assumption) (rfl) (by omega) (by decide) ?_
          refine rk_iload_n rfl rfl ?_
          refine rk_ishr rfl rfl ?_
          refine rk_iconst (v := nI 1) rfl (by decide) ?_
          refine rk_iand rfl rfl ?_
          exact rk_ireturn rfl rfl Qe_mk
      · replace hc16 := Decidable.not_not.mp hc16
        replace hc16 := (n0_eq (by omega)).mp hc16
        omega
    · replace hc12 := Decidable.not_not.mp hc12
      replace hc12 := (bI_0).mp hc12
      exact absurd ⟨by decide, by decide⟩ hc12
theorem m216_2 {X : ai_X} {h : ai_H} {n k : Nat} {v A : Nat → Int32} (c0 : h[52]? = some (cMdl v)) (c1 : h[53]? = some (cI 2346 A)) (hA : A 0 = nI n) (hn : n ≤ 14) (hk : k < n) : Rk X am_216 3 (ai_loc (ai_mL am_216) [.ref 52, .int (nI k), .int (nI 2)]) [] h (Qe ((A 269) >>> (nI k &&& 31) &&& nI 1) h) := by
  refine rk_aload_n rfl rfl ?_
  refine rk_iload_n rfl rfl ?_
  refine rk_cv1e rfl rfl (by assumption) rfl rfl (Nat.le_of_ble_eq_true rfl) (Nat.le_of_ble_eq_true rfl) (s207n c0 c1 hA (by omega) _) ?_
  refine rk_if_eq rfl rfl (fun hc6 => ?_) (fun hc6 => ?_)
  · replace hc6 := (bI_0).mp hc6
    exact absurd (in_mk (by omega) hk) hc6
  · replace hc6 := Decidable.not_not.mp (mt bI_0.mpr hc6)
    refine rk_iload_n rfl rfl ?_
    refine rk_i2l rfl rfl ?_
    refine rk_lconst (v := 0) rfl (by decide) ?_
    rw [show (0 : Int64) = (0 : Int32).toInt64 by decide]
    refine rk_ldc2 rfl ?_
    rw [show (2 : Int64) = (nI 2).toInt64 by decide]
    refine rk_cs3e rfl rfl rfl (Nat.le_of_ble_eq_true rfl) (Nat.le_of_ble_eq_true rfl) (s181 _ _ _) ?_
    refine rk_if_ne rfl rfl (fun hc12 => ?_) (fun hc12 => ?_)
    · replace hc12 := Decidable.not_not.mp (mt bI_0.mpr hc12)
      refine rk_iload_n rfl rfl ?_
      refine rk_if_ne rfl rfl (fun hc16 => ?_) (fun hc16 => ?_)
      · replace hc16 := mt (n0_eq (by omega)).mpr hc16
        refine rk_aload_n rfl rfl ?_
        refine rk_get rfl (by assumption) rfl ?_
        refine rk_iload_n rfl rfl ?_
        refine rk_iconst (v := nI 1) rfl (by decide) ?_
        refine rk_icmp_ne rfl rfl (fun hc28 => ?_) (fun hc28 => ?_)
        · replace hc28 := mt (nI_eq (by omega) (by omega)).mpr hc28
          refine rk_sipush (v := nI 269) rfl (by decide) ?_
          refine rk_iald rfl (by assumption) (rfl) (by omega) (by decide) ?_
          refine rk_iload_n rfl rfl ?_
          refine rk_ishr rfl rfl ?_
          refine rk_iconst (v := nI 1) rfl (by decide) ?_
          refine rk_iand rfl rfl ?_
          exact rk_ireturn rfl rfl Qe_mk
        · replace hc28 := Decidable.not_not.mp hc28
          replace hc28 := (nI_eq (by omega) (by omega)).mp hc28
          omega
      · replace hc16 := Decidable.not_not.mp hc16
        replace hc16 := (n0_eq (by omega)).mp hc16
        omega
    · replace hc12 := Decidable.not_not.mp hc12
      replace hc12 := (bI_0).mp hc12
      exact absurd ⟨by decide, by decide⟩ hc12
theorem m216_o {X : ai_X} {h : ai_H} {n k : Nat} {v A : Nat → Int32} (c0 : h[52]? = some (cMdl v)) (c1 : h[53]? = some (cI 2346 A)) (hA : A 0 = nI n) (hn : n ≤ 14) {y : Int32} (hk : k < n) (hy : ¬ (¬ y < 0 ∧ ¬ nI 2 < y)) : Rk X am_216 3 (ai_loc (ai_mL am_216) [.ref 52, .int (nI k), .int y]) [] h (Qe (-2) h) := by
  refine rk_aload_n rfl rfl ?_
  refine rk_iload_n rfl rfl ?_
  refine rk_cv1e rfl rfl (by assumption) rfl rfl (Nat.le_of_ble_eq_true rfl) (Nat.le_of_ble_eq_true rfl) (s207n c0 c1 hA (by omega) _) ?_
  refine rk_if_eq rfl rfl (fun hc6 => ?_) (fun hc6 => ?_)
  · replace hc6 := (bI_0).mp hc6
    exact absurd (in_mk (by omega) hk) hc6
  · replace hc6 := Decidable.not_not.mp (mt bI_0.mpr hc6)
    refine rk_iload_n rfl rfl ?_
    refine rk_i2l rfl rfl ?_
    refine rk_lconst (v := 0) rfl (by decide) ?_
    rw [show (0 : Int64) = (0 : Int32).toInt64 by decide]
    refine rk_ldc2 rfl ?_
    rw [show (2 : Int64) = (nI 2).toInt64 by decide]
    refine rk_cs3e rfl rfl rfl (Nat.le_of_ble_eq_true rfl) (Nat.le_of_ble_eq_true rfl) (s181 _ _ _) ?_
    refine rk_if_ne rfl rfl (fun hc12 => ?_) (fun hc12 => ?_)
    · replace hc12 := Decidable.not_not.mp (mt bI_0.mpr hc12)
      exact absurd hc12 hy
    · replace hc12 := Decidable.not_not.mp hc12
      replace hc12 := (bI_0).mp hc12
      refine rk_bipush (v := (-2)) rfl (by decide) ?_
      exact rk_ireturn rfl rfl Qe_mk
theorem m216_x {X : ai_X} {h : ai_H} {n k : Nat} {v A : Nat → Int32} (c0 : h[52]? = some (cMdl v)) (c1 : h[53]? = some (cI 2346 A)) (hA : A 0 = nI n) (hn : n ≤ 14) {x y : Int32} (hx : ¬ (¬ x < 0 ∧ ¬ nI n ≤ x)) : Rk X am_216 3 (ai_loc (ai_mL am_216) [.ref 52, .int x, .int y]) [] h (Qe (-2) h) := by
  refine rk_aload_n rfl rfl ?_
  refine rk_iload_n rfl rfl ?_
  refine rk_cv1e rfl rfl (by assumption) rfl rfl (Nat.le_of_ble_eq_true rfl) (Nat.le_of_ble_eq_true rfl) (s207n c0 c1 hA (by omega) _) ?_
  refine rk_if_eq rfl rfl (fun hc6 => ?_) (fun hc6 => ?_)
  · replace hc6 := (bI_0).mp hc6
    refine rk_bipush (v := (-2)) rfl (by decide) ?_
    exact rk_ireturn rfl rfl Qe_mk
  · replace hc6 := Decidable.not_not.mp (mt bI_0.mpr hc6)
    exact absurd hc6 hx
theorem ob4 (X : ai_X) : O4 X Inv := by
  intro x y
  refine ob_pure fun m c s h I => ?_
  obtain ⟨tp, T, A, im, rs, rm, nu, fk, fp, b, ⟨a1, -⟩, ⟨⟨F, G, hH, hC⟩, -⟩, -, -, -, -, ⟨⟨v, mk, e1, -⟩, e2, -⟩, ⟨-, -, ⟨n, t, w, hV, -⟩, -⟩, -⟩ := I
  obtain ⟨q1, q2, q3, q4, -, q6, -, ⟨b1, q8, q8'⟩, ⟨b2, q9, q9'⟩, -⟩ := id hV
  have hF : F 0 = nI n := hC.1.trans q1
  have hn : n ≤ 14 := by omega
  have hp := b_p14 hn
  by_cases hx : ¬ x < 0 ∧ ¬ nI n ≤ x
  · obtain ⟨k, hk, rfl⟩ := in_of (by omega) hx
    rcases sw_3 y with rfl | rfl | rfl | ⟨hy, hy'⟩
    · refine ⟨_, c134_0 a1 hH hF hn hk, md_thr rfl rfl rfl rfl e1 (fun h1 g1 hh => ?_)⟩
      have z := m216_0 (X := X) (k := k) g1 ((hh 53 (by omega)).trans e2) q1 hn hk
      rw [hC.2.2.2.2.2.2.2.1 k (by omega)]
      rw [show 0 + 254 + k = 254 + k by omega]
      exact z
    · refine ⟨_, c134_1 a1 hH hF hn hk, md_thr rfl rfl rfl rfl e1 (fun h1 g1 hh => ?_)⟩
      have z := m216_1 (X := X) (k := k) g1 ((hh 53 (by omega)).trans e2) q1 hn hk
      rw [show A 268 = nI b1 from q8, b_shr (by omega) (by omega)] at z
      rw [hC.2.2.2.2.2.1, show A (0 + 268) = nI b1 from q8, b_ushr (by omega) (by omega)]
      exact z
    · refine ⟨_, c134_2 a1 hH hF hn hk, md_thr rfl rfl rfl rfl e1 (fun h1 g1 hh => ?_)⟩
      have z := m216_2 (X := X) (k := k) g1 ((hh 53 (by omega)).trans e2) q1 hn hk
      rw [show A 269 = nI b2 from q9, b_shr (by omega) (by omega)] at z
      rw [hC.2.2.2.2.2.2.1, show A (0 + 269) = nI b2 from q9, b_ushr (by omega) (by omega)]
      exact z
    · exact ⟨_, c134_o a1 hH hF hn hk hy, md_thr rfl rfl rfl rfl e1 (fun h1 g1 hh => m216_o (X := X) g1 ((hh 53 (by omega)).trans e2) q1 hn hk hy')⟩
  · exact ⟨_, c134_x (k := 0) a1 hH hF hn hx, md_thr rfl rfl rfl rfl e1 (fun h1 g1 hh => m216_x (X := X) (k := 0) g1 ((hh 53 (by omega)).trans e2) q1 hn hx)⟩
theorem c133_0 {X : ai_X} {h : ai_H} {tp : Int32} {n t r i : Nat} {F : Nat → Int32} {G : Nat → Nat → Int32} (c0 : h[0]? = some (cOne tp)) (H : HouseAt h 3 F G) (hF : F 0 = nI n) (hn : n ≤ 14) (hT : F 1 = nI t) (ht : t ≤ 6) (hr : r < n) (hi : i < t) : Mt X am_133 [.ref 0, .int (nI r), .int (nI i), .int (nI 0)] h (Qe (G 0 (r * 6 + i)) h) := by
  have hc00 : h[3]? = some (cHouse 3 F) := H.1
  refine rk_aload_n rfl rfl ?_
  refine rk_get rfl (by assumption) rfl ?_
  refine rk_iload_n rfl rfl ?_
  refine rk_cv1e rfl rfl (by assumption) rfl rfl (Nat.le_of_ble_eq_true rfl) (Nat.le_of_ble_eq_true rfl) (s23n H hF _) ?_
  refine rk_if_eq rfl rfl (fun hc4 => ?_) (fun hc4 => ?_)
  · replace hc4 := (bI_0).mp hc4
    exact absurd (in_mk (by omega) hr) hc4
  · replace hc4 := Decidable.not_not.mp (mt bI_0.mpr hc4)
    refine rk_aload_n rfl rfl ?_
    refine rk_get rfl (by assumption) rfl ?_
    refine rk_iload_n rfl rfl ?_
    refine rk_cv1e rfl rfl (by assumption) rfl rfl (Nat.le_of_ble_eq_true rfl) (Nat.le_of_ble_eq_true rfl) (s24n H hT _) ?_
    refine rk_if_ne rfl rfl (fun hc9 => ?_) (fun hc9 => ?_)
    · replace hc9 := Decidable.not_not.mp (mt bI_0.mpr hc9)
      refine rk_iload_n rfl rfl ?_
      refine rk_sw_in (off := 26) (j := 14) rfl (by decide) rfl (ai_dw inc_133 rfl) rfl ?_
      refine rk_aload_n rfl rfl ?_
      refine rk_get rfl (by assumption) rfl ?_
      refine rk_iload_n rfl rfl ?_
      refine rk_iload_n rfl rfl ?_
      refine rk_cv2e rfl rfl (by assumption) rfl rfl (Nat.le_of_ble_eq_true rfl) (Nat.le_of_ble_eq_true rfl) (s27 H (by omega)) ?_
      exact rk_ireturn rfl rfl Qe_mk
    · replace hc9 := Decidable.not_not.mp hc9
      replace hc9 := (bI_0).mp hc9
      exact absurd (in_mk (by omega) hi) hc9
theorem c133_1 {X : ai_X} {h : ai_H} {tp : Int32} {n t r i : Nat} {F : Nat → Int32} {G : Nat → Nat → Int32} (c0 : h[0]? = some (cOne tp)) (H : HouseAt h 3 F G) (hF : F 0 = nI n) (hn : n ≤ 14) (hT : F 1 = nI t) (ht : t ≤ 6) (hr : r < n) (hi : i < t) : Mt X am_133 [.ref 0, .int (nI r), .int (nI i), .int (nI 1)] h (Qe (G 1 (r * 6 + i)) h) := by
  have hc00 : h[3]? = some (cHouse 3 F) := H.1
  refine rk_aload_n rfl rfl ?_
  refine rk_get rfl (by assumption) rfl ?_
  refine rk_iload_n rfl rfl ?_
  refine rk_cv1e rfl rfl (by assumption) rfl rfl (Nat.le_of_ble_eq_true rfl) (Nat.le_of_ble_eq_true rfl) (s23n H hF _) ?_
  refine rk_if_eq rfl rfl (fun hc4 => ?_) (fun hc4 => ?_)
  · replace hc4 := (bI_0).mp hc4
    exact absurd (in_mk (by omega) hr) hc4
  · replace hc4 := Decidable.not_not.mp (mt bI_0.mpr hc4)
    refine rk_aload_n rfl rfl ?_
    refine rk_get rfl (by assumption) rfl ?_
    refine rk_iload_n rfl rfl ?_
    refine rk_cv1e rfl rfl (by assumption) rfl rfl (Nat.le_of_ble_eq_true rfl) (Nat.le_of_ble_eq_true rfl) (s24n H hT _) ?_
    refine rk_if_ne rfl rfl (fun hc9 => ?_) (fun hc9 => ?_)
    · replace hc9 := Decidable.not_not.mp (mt bI_0.mpr hc9)
      refine rk_iload_n rfl rfl ?_
      refine rk_sw_in (off := 36) (j := 20) rfl (by decide) rfl (ai_dw inc_133 rfl) rfl ?_
      refine rk_aload_n rfl rfl ?_
      refine rk_get rfl (by assumption) rfl ?_
      refine rk_iload_n rfl rfl ?_
      refine rk_iload_n rfl rfl ?_
      refine rk_cv2e rfl rfl (by assumption) rfl rfl (Nat.le_of_ble_eq_true rfl) (Nat.le_of_ble_eq_true rfl) (s28 H (by omega)) ?_
      exact rk_ireturn rfl rfl Qe_mk
    · replace hc9 := Decidable.not_not.mp hc9
      replace hc9 := (bI_0).mp hc9
      exact absurd (in_mk (by omega) hi) hc9
theorem c133_2 {X : ai_X} {h : ai_H} {tp : Int32} {n t r i : Nat} {F : Nat → Int32} {G : Nat → Nat → Int32} (c0 : h[0]? = some (cOne tp)) (H : HouseAt h 3 F G) (hF : F 0 = nI n) (hn : n ≤ 14) (hT : F 1 = nI t) (ht : t ≤ 6) (hr : r < n) (hi : i < t) : Mt X am_133 [.ref 0, .int (nI r), .int (nI i), .int (nI 2)] h (Qe (G 2 (r * 6 + i)) h) := by
  have hc00 : h[3]? = some (cHouse 3 F) := H.1
  refine rk_aload_n rfl rfl ?_
  refine rk_get rfl (by assumption) rfl ?_
  refine rk_iload_n rfl rfl ?_
  refine rk_cv1e rfl rfl (by assumption) rfl rfl (Nat.le_of_ble_eq_true rfl) (Nat.le_of_ble_eq_true rfl) (s23n H hF _) ?_
  refine rk_if_eq rfl rfl (fun hc4 => ?_) (fun hc4 => ?_)
  · replace hc4 := (bI_0).mp hc4
    exact absurd (in_mk (by omega) hr) hc4
  · replace hc4 := Decidable.not_not.mp (mt bI_0.mpr hc4)
    refine rk_aload_n rfl rfl ?_
    refine rk_get rfl (by assumption) rfl ?_
    refine rk_iload_n rfl rfl ?_
    refine rk_cv1e rfl rfl (by assumption) rfl rfl (Nat.le_of_ble_eq_true rfl) (Nat.le_of_ble_eq_true rfl) (s24n H hT _) ?_
    refine rk_if_ne rfl rfl (fun hc9 => ?_) (fun hc9 => ?_)
    · replace hc9 := Decidable.not_not.mp (mt bI_0.mpr hc9)
      refine rk_iload_n rfl rfl ?_
      refine rk_sw_in (off := 46) (j := 26) rfl (by decide) rfl (ai_dw inc_133 rfl) rfl ?_
      refine rk_aload_n rfl rfl ?_
      refine rk_get rfl (by assumption) rfl ?_
      refine rk_iload_n rfl rfl ?_
      refine rk_iload_n rfl rfl ?_
      refine rk_cv2e rfl rfl (by assumption) rfl rfl (Nat.le_of_ble_eq_true rfl) (Nat.le_of_ble_eq_true rfl) (s29 H (by omega)) ?_
      exact rk_ireturn rfl rfl Qe_mk
    · replace hc9 := Decidable.not_not.mp hc9
      replace hc9 := (bI_0).mp hc9
      exact absurd (in_mk (by omega) hi) hc9
theorem c133_o {X : ai_X} {h : ai_H} {tp : Int32} {n t r i : Nat} {F : Nat → Int32} {G : Nat → Nat → Int32} (c0 : h[0]? = some (cOne tp)) (H : HouseAt h 3 F G) (hF : F 0 = nI n) (hn : n ≤ 14) (hT : F 1 = nI t) (ht : t ≤ 6) {y : Int32} (hr : r < n) (hi : i < t) (hy : y.toInt < 0 ∨ 2 < y.toInt) : Mt X am_133 [.ref 0, .int (nI r), .int (nI i), .int y] h (Qe (-2) h) := by
  have hc00 : h[3]? = some (cHouse 3 F) := H.1
  refine rk_aload_n rfl rfl ?_
  refine rk_get rfl (by assumption) rfl ?_
  refine rk_iload_n rfl rfl ?_
  refine rk_cv1e rfl rfl (by assumption) rfl rfl (Nat.le_of_ble_eq_true rfl) (Nat.le_of_ble_eq_true rfl) (s23n H hF _) ?_
  refine rk_if_eq rfl rfl (fun hc4 => ?_) (fun hc4 => ?_)
  · replace hc4 := (bI_0).mp hc4
    exact absurd (in_mk (by omega) hr) hc4
  · replace hc4 := Decidable.not_not.mp (mt bI_0.mpr hc4)
    refine rk_aload_n rfl rfl ?_
    refine rk_get rfl (by assumption) rfl ?_
    refine rk_iload_n rfl rfl ?_
    refine rk_cv1e rfl rfl (by assumption) rfl rfl (Nat.le_of_ble_eq_true rfl) (Nat.le_of_ble_eq_true rfl) (s24n H hT _) ?_
    refine rk_if_ne rfl rfl (fun hc9 => ?_) (fun hc9 => ?_)
    · replace hc9 := Decidable.not_not.mp (mt bI_0.mpr hc9)
      refine rk_iload_n rfl rfl ?_
      refine rk_sw_out (j := 32) rfl hy (ai_dw inc_133 rfl) rfl ?_
      refine rk_bipush (v := (-2)) rfl (by decide) ?_
      exact rk_ireturn rfl rfl Qe_mk
    · replace hc9 := Decidable.not_not.mp hc9
      replace hc9 := (bI_0).mp hc9
      exact absurd (in_mk (by omega) hi) hc9
theorem c133_x {X : ai_X} {h : ai_H} {tp : Int32} {n t r i : Nat} {F : Nat → Int32} {G : Nat → Nat → Int32} (c0 : h[0]? = some (cOne tp)) (H : HouseAt h 3 F G) (hF : F 0 = nI n) (hn : n ≤ 14) (hT : F 1 = nI t) (ht : t ≤ 6) {x z y : Int32} (hx : ¬ (¬ x < 0 ∧ ¬ nI n ≤ x)) : Mt X am_133 [.ref 0, .int x, .int z, .int y] h (Qe (-2) h) := by
  have hc00 : h[3]? = some (cHouse 3 F) := H.1
  refine rk_aload_n rfl rfl ?_
  refine rk_get rfl (by assumption) rfl ?_
  refine rk_iload_n rfl rfl ?_
  refine rk_cv1e rfl rfl (by assumption) rfl rfl (Nat.le_of_ble_eq_true rfl) (Nat.le_of_ble_eq_true rfl) (s23n H hF _) ?_
  refine rk_if_eq rfl rfl (fun hc4 => ?_) (fun hc4 => ?_)
  · replace hc4 := (bI_0).mp hc4
    refine rk_bipush (v := (-2)) rfl (by decide) ?_
    exact rk_ireturn rfl rfl Qe_mk
  · replace hc4 := Decidable.not_not.mp (mt bI_0.mpr hc4)
    exact absurd hc4 hx
theorem c133_y {X : ai_X} {h : ai_H} {tp : Int32} {n t r i : Nat} {F : Nat → Int32} {G : Nat → Nat → Int32} (c0 : h[0]? = some (cOne tp)) (H : HouseAt h 3 F G) (hF : F 0 = nI n) (hn : n ≤ 14) (hT : F 1 = nI t) (ht : t ≤ 6) {z y : Int32} (hr : r < n) (hz : ¬ (¬ z < 0 ∧ ¬ nI t ≤ z)) : Mt X am_133 [.ref 0, .int (nI r), .int z, .int y] h (Qe (-2) h) := by
  have hc00 : h[3]? = some (cHouse 3 F) := H.1
  refine rk_aload_n rfl rfl ?_
  refine rk_get rfl (by assumption) rfl ?_
  refine rk_iload_n rfl rfl ?_
  refine rk_cv1e rfl rfl (by assumption) rfl rfl (Nat.le_of_ble_eq_true rfl) (Nat.le_of_ble_eq_true rfl) (s23n H hF _) ?_
  refine rk_if_eq rfl rfl (fun hc4 => ?_) (fun hc4 => ?_)
  · replace hc4 := (bI_0).mp hc4
    exact absurd (in_mk (by omega) hr) hc4
  · replace hc4 := Decidable.not_not.mp (mt bI_0.mpr hc4)
    refine rk_aload_n rfl rfl ?_
    refine rk_get rfl (by assumption) rfl ?_
    refine rk_iload_n rfl rfl ?_
    refine rk_cv1e rfl rfl (by assumption) rfl rfl (Nat.le_of_ble_eq_true rfl) (Nat.le_of_ble_eq_true rfl) (s24n H hT _) ?_
    refine rk_if_ne rfl rfl (fun hc9 => ?_) (fun hc9 => ?_)
    · replace hc9 := Decidable.not_not.mp (mt bI_0.mpr hc9)
      exact absurd hc9 hz
    · replace hc9 := Decidable.not_not.mp hc9
      replace hc9 := (bI_0).mp hc9
      refine rk_bipush (v := (-2)) rfl (by decide) ?_
      exact rk_ireturn rfl rfl Qe_mk
theorem m215_0 {X : ai_X} {h : ai_H} {n t r i : Nat} {v A : Nat → Int32} (c0 : h[52]? = some (cMdl v)) (c1 : h[53]? = some (cI 2346 A)) (hA : A 0 = nI n) (hn : n ≤ 14) (hA1 : A 1 = nI t) (ht : t ≤ 6) (hr : r < n) (hi : i < t) : Rk X am_215 3 (ai_loc (ai_mL am_215) [.ref 52, .int (nI r), .int (nI i), .int (nI 0)]) [] h (Qe (A (2 + (6 * r + i))) h) := by
  refine rk_aload_n rfl rfl ?_
  refine rk_iload_n rfl rfl ?_
  refine rk_cv1e rfl rfl (by assumption) rfl rfl (Nat.le_of_ble_eq_true rfl) (Nat.le_of_ble_eq_true rfl) (s207n c0 c1 hA (by omega) _) ?_
  refine rk_if_eq rfl rfl (fun hc6 => ?_) (fun hc6 => ?_)
  · replace hc6 := (bI_0).mp hc6
    exact absurd (in_mk (by omega) hr) hc6
  · replace hc6 := Decidable.not_not.mp (mt bI_0.mpr hc6)
    refine rk_iload_n rfl rfl ?_
    refine rk_i2l rfl rfl ?_
    refine rk_lconst (v := 0) rfl (by decide) ?_
    rw [show (0 : Int64) = (0 : Int32).toInt64 by decide]
    refine rk_aload_n rfl rfl ?_
    refine rk_get rfl (by assumption) rfl ?_
    refine rk_iconst (v := nI 1) rfl (by decide) ?_
    refine rk_iald rfl (by assumption) (rfl) (by omega) (by decide) ?_
    rw [hA1]
    refine rk_iconst (v := nI 1) rfl (by decide) ?_
    refine rk_isub rfl rfl ?_
    refine rk_i2l rfl rfl ?_
    refine rk_cs3e rfl rfl rfl (Nat.le_of_ble_eq_true rfl) (Nat.le_of_ble_eq_true rfl) (s181 _ _ _) ?_
    refine rk_if_eq rfl rfl (fun hc18 => ?_) (fun hc18 => ?_)
    · replace hc18 := (bI_0).mp hc18
      exact absurd ((in_iff (by omega)).mpr (in_mk (by omega) hi)) hc18
    · replace hc18 := Decidable.not_not.mp (mt bI_0.mpr hc18)
      refine rk_iload_n rfl rfl ?_
      refine rk_i2l rfl rfl ?_
      refine rk_lconst (v := 0) rfl (by decide) ?_
      rw [show (0 : Int64) = (0 : Int32).toInt64 by decide]
      refine rk_ldc2 rfl ?_
      rw [show (2 : Int64) = (nI 2).toInt64 by decide]
      refine rk_cs3e rfl rfl rfl (Nat.le_of_ble_eq_true rfl) (Nat.le_of_ble_eq_true rfl) (s181 _ _ _) ?_
      refine rk_if_ne rfl rfl (fun hc24 => ?_) (fun hc24 => ?_)
      · replace hc24 := Decidable.not_not.mp (mt bI_0.mpr hc24)
        refine rk_iload_n rfl rfl ?_
        refine rk_if_ne rfl rfl (fun hc28 => ?_) (fun hc28 => ?_)
        · replace hc28 := mt (n0_eq (by omega)).mpr hc28
          omega
        · replace hc28 := Decidable.not_not.mp hc28
          replace hc28 := (n0_eq (by omega)).mp hc28
          refine rk_aload_n rfl rfl ?_
          refine rk_iload_n rfl rfl ?_
          refine rk_iload_n rfl rfl ?_
          refine rk_cv2e rfl rfl (by assumption) rfl rfl (Nat.le_of_ble_eq_true rfl) (Nat.le_of_ble_eq_true rfl) (s210 c0 c1 (by omega)) ?_
          refine rk_goto rfl rfl ?_
          exact rk_ireturn rfl rfl Qe_mk
      · replace hc24 := Decidable.not_not.mp hc24
        replace hc24 := (bI_0).mp hc24
        exact absurd ⟨by decide, by decide⟩ hc24
theorem m215_1 {X : ai_X} {h : ai_H} {n t r i : Nat} {v A : Nat → Int32} (c0 : h[52]? = some (cMdl v)) (c1 : h[53]? = some (cI 2346 A)) (hA : A 0 = nI n) (hn : n ≤ 14) (hA1 : A 1 = nI t) (ht : t ≤ 6) (hr : r < n) (hi : i < t) : Rk X am_215 3 (ai_loc (ai_mL am_215) [.ref 52, .int (nI r), .int (nI i), .int (nI 1)]) [] h (Qe (A (86 + (6 * r + i))) h) := by
  refine rk_aload_n rfl rfl ?_
  refine rk_iload_n rfl rfl ?_
  refine rk_cv1e rfl rfl (by assumption) rfl rfl (Nat.le_of_ble_eq_true rfl) (Nat.le_of_ble_eq_true rfl) (s207n c0 c1 hA (by omega) _) ?_
  refine rk_if_eq rfl rfl (fun hc6 => ?_) (fun hc6 => ?_)
  · replace hc6 := (bI_0).mp hc6
    exact absurd (in_mk (by omega) hr) hc6
  · replace hc6 := Decidable.not_not.mp (mt bI_0.mpr hc6)
    refine rk_iload_n rfl rfl ?_
    refine rk_i2l rfl rfl ?_
    refine rk_lconst (v := 0) rfl (by decide) ?_
    rw [show (0 : Int64) = (0 : Int32).toInt64 by decide]
    refine rk_aload_n rfl rfl ?_
    refine rk_get rfl (by assumption) rfl ?_
    refine rk_iconst (v := nI 1) rfl (by decide) ?_
    refine rk_iald rfl (by assumption) (rfl) (by omega) (by decide) ?_
    rw [hA1]
    refine rk_iconst (v := nI 1) rfl (by decide) ?_
    refine rk_isub rfl rfl ?_
    refine rk_i2l rfl rfl ?_
    refine rk_cs3e rfl rfl rfl (Nat.le_of_ble_eq_true rfl) (Nat.le_of_ble_eq_true rfl) (s181 _ _ _) ?_
    refine rk_if_eq rfl rfl (fun hc18 => ?_) (fun hc18 => ?_)
    · replace hc18 := (bI_0).mp hc18
      exact absurd ((in_iff (by omega)).mpr (in_mk (by omega) hi)) hc18
    · replace hc18 := Decidable.not_not.mp (mt bI_0.mpr hc18)
      refine rk_iload_n rfl rfl ?_
      refine rk_i2l rfl rfl ?_
      refine rk_lconst (v := 0) rfl (by decide) ?_
      rw [show (0 : Int64) = (0 : Int32).toInt64 by decide]
      refine rk_ldc2 rfl ?_
      rw [show (2 : Int64) = (nI 2).toInt64 by decide]
      refine rk_cs3e rfl rfl rfl (Nat.le_of_ble_eq_true rfl) (Nat.le_of_ble_eq_true rfl) (s181 _ _ _) ?_
      refine rk_if_ne rfl rfl (fun hc24 => ?_) (fun hc24 => ?_)
      · replace hc24 := Decidable.not_not.mp (mt bI_0.mpr hc24)
        refine rk_iload_n rfl rfl ?_
        refine rk_if_ne rfl rfl (fun hc28 => ?_) (fun hc28 => ?_)
        · replace hc28 := mt (n0_eq (by omega)).mpr hc28
          refine rk_aload_n rfl rfl ?_
          refine rk_get rfl (by assumption) rfl ?_
          refine rk_iload_n rfl rfl ?_
          refine rk_iconst (v := nI 1) rfl (by decide) ?_
          refine rk_icmp_ne rfl rfl (fun hc38 => ?_) (fun hc38 => ?_)
          · replace hc38 := mt (nI_eq (by omega) (by omega)).mpr hc38
            omega
          · replace hc38 := Decidable.not_not.mp hc38
            replace hc38 := (nI_eq (by omega) (by omega)).mp hc38
            refine rk_bipush (v := nI 86) rfl (by decide) ?_
            refine rk_goto rfl rfl ?_
            refine rk_iload_n rfl rfl ?_
            refine rk_iload_n rfl rfl ?_
            refine rk_cs2e rfl rfl rfl (Nat.le_of_ble_eq_true rfl) (Nat.le_of_ble_eq_true rfl) (s196) ?_
            refine rk_iadd rfl (nI_add _ _) ?_
            refine rk_iald rfl (by assumption) (rfl) (by omega) (by decide) ?_
            exact rk_ireturn rfl rfl Qe_mk
        · replace hc28 := Decidable.not_not.mp hc28
          replace hc28 := (n0_eq (by omega)).mp hc28
          omega
      · replace hc24 := Decidable.not_not.mp hc24
        replace hc24 := (bI_0).mp hc24
        exact absurd ⟨by decide, by decide⟩ hc24
theorem m215_2 {X : ai_X} {h : ai_H} {n t r i : Nat} {v A : Nat → Int32} (c0 : h[52]? = some (cMdl v)) (c1 : h[53]? = some (cI 2346 A)) (hA : A 0 = nI n) (hn : n ≤ 14) (hA1 : A 1 = nI t) (ht : t ≤ 6) (hr : r < n) (hi : i < t) : Rk X am_215 3 (ai_loc (ai_mL am_215) [.ref 52, .int (nI r), .int (nI i), .int (nI 2)]) [] h (Qe (A (170 + (6 * r + i))) h) := by
  refine rk_aload_n rfl rfl ?_
  refine rk_iload_n rfl rfl ?_
  refine rk_cv1e rfl rfl (by assumption) rfl rfl (Nat.le_of_ble_eq_true rfl) (Nat.le_of_ble_eq_true rfl) (s207n c0 c1 hA (by omega) _) ?_
  refine rk_if_eq rfl rfl (fun hc6 => ?_) (fun hc6 => ?_)
  · replace hc6 := (bI_0).mp hc6
    exact absurd (in_mk (by omega) hr) hc6
  · replace hc6 := Decidable.not_not.mp (mt bI_0.mpr hc6)
    refine rk_iload_n rfl rfl ?_
    refine rk_i2l rfl rfl ?_
    refine rk_lconst (v := 0) rfl (by decide) ?_
    rw [show (0 : Int64) = (0 : Int32).toInt64 by decide]
    refine rk_aload_n rfl rfl ?_
    refine rk_get rfl (by assumption) rfl ?_
    refine rk_iconst (v := nI 1) rfl (by decide) ?_
    refine rk_iald rfl (by assumption) (rfl) (by omega) (by decide) ?_
    rw [hA1]
    refine rk_iconst (v := nI 1) rfl (by decide) ?_
    refine rk_isub rfl rfl ?_
    refine rk_i2l rfl rfl ?_
    refine rk_cs3e rfl rfl rfl (Nat.le_of_ble_eq_true rfl) (Nat.le_of_ble_eq_true rfl) (s181 _ _ _) ?_
    refine rk_if_eq rfl rfl (fun hc18 => ?_) (fun hc18 => ?_)
    · replace hc18 := (bI_0).mp hc18
      exact absurd ((in_iff (by omega)).mpr (in_mk (by omega) hi)) hc18
    · replace hc18 := Decidable.not_not.mp (mt bI_0.mpr hc18)
      refine rk_iload_n rfl rfl ?_
      refine rk_i2l rfl rfl ?_
      refine rk_lconst (v := 0) rfl (by decide) ?_
      rw [show (0 : Int64) = (0 : Int32).toInt64 by decide]
      refine rk_ldc2 rfl ?_
      rw [show (2 : Int64) = (nI 2).toInt64 by decide]
      refine rk_cs3e rfl rfl rfl (Nat.le_of_ble_eq_true rfl) (Nat.le_of_ble_eq_true rfl) (s181 _ _ _) ?_
      refine rk_if_ne rfl rfl (fun hc24 => ?_) (fun hc24 => ?_)
      · replace hc24 := Decidable.not_not.mp (mt bI_0.mpr hc24)
        refine rk_iload_n rfl rfl ?_
        refine rk_if_ne rfl rfl (fun hc28 => ?_) (fun hc28 => ?_)
        · replace hc28 := mt (n0_eq (by omega)).mpr hc28
          refine rk_aload_n rfl rfl ?_
          refine rk_get rfl (by assumption) rfl ?_
          refine rk_iload_n rfl rfl ?_
          refine rk_iconst (v := nI 1) rfl (by decide) ?_
          refine rk_icmp_ne rfl rfl (fun hc38 => ?_) (fun hc38 => ?_)
          · replace hc38 := mt (nI_eq (by omega) (by omega)).mpr hc38
            refine rk_sipush (v := nI 170) rfl (by decide) ?_
            refine rk_iload_n rfl rfl ?_
            refine rk_iload_n rfl rfl ?_
            refine rk_cs2e rfl rfl rfl (Nat.le_of_ble_eq_true rfl) (Nat.le_of_ble_eq_true rfl) (s196) ?_
            refine rk_iadd rfl (nI_add _ _) ?_
            refine rk_iald rfl (by assumption) (rfl) (by omega) (by decide) ?_
            exact rk_ireturn rfl rfl Qe_mk
          · replace hc38 := Decidable.not_not.mp hc38
            replace hc38 := (nI_eq (by omega) (by omega)).mp hc38
            omega
        · replace hc28 := Decidable.not_not.mp hc28
          replace hc28 := (n0_eq (by omega)).mp hc28
          omega
      · replace hc24 := Decidable.not_not.mp hc24
        replace hc24 := (bI_0).mp hc24
        exact absurd ⟨by decide, by decide⟩ hc24
theorem m215_o {X : ai_X} {h : ai_H} {n t r i : Nat} {v A : Nat → Int32} (c0 : h[52]? = some (cMdl v)) (c1 : h[53]? = some (cI 2346 A)) (hA : A 0 = nI n) (hn : n ≤ 14) (hA1 : A 1 = nI t) (ht : t ≤ 6) {y : Int32} (hr : r < n) (hi : i < t) (hy : ¬ (¬ y < 0 ∧ ¬ nI 2 < y)) : Rk X am_215 3 (ai_loc (ai_mL am_215) [.ref 52, .int (nI r), .int (nI i), .int y]) [] h (Qe (-2) h) := by
  refine rk_aload_n rfl rfl ?_
  refine rk_iload_n rfl rfl ?_
  refine rk_cv1e rfl rfl (by assumption) rfl rfl (Nat.le_of_ble_eq_true rfl) (Nat.le_of_ble_eq_true rfl) (s207n c0 c1 hA (by omega) _) ?_
  refine rk_if_eq rfl rfl (fun hc6 => ?_) (fun hc6 => ?_)
  · replace hc6 := (bI_0).mp hc6
    exact absurd (in_mk (by omega) hr) hc6
  · replace hc6 := Decidable.not_not.mp (mt bI_0.mpr hc6)
    refine rk_iload_n rfl rfl ?_
    refine rk_i2l rfl rfl ?_
    refine rk_lconst (v := 0) rfl (by decide) ?_
    rw [show (0 : Int64) = (0 : Int32).toInt64 by decide]
    refine rk_aload_n rfl rfl ?_
    refine rk_get rfl (by assumption) rfl ?_
    refine rk_iconst (v := nI 1) rfl (by decide) ?_
    refine rk_iald rfl (by assumption) (rfl) (by omega) (by decide) ?_
    rw [hA1]
    refine rk_iconst (v := nI 1) rfl (by decide) ?_
    refine rk_isub rfl rfl ?_
    refine rk_i2l rfl rfl ?_
    refine rk_cs3e rfl rfl rfl (Nat.le_of_ble_eq_true rfl) (Nat.le_of_ble_eq_true rfl) (s181 _ _ _) ?_
    refine rk_if_eq rfl rfl (fun hc18 => ?_) (fun hc18 => ?_)
    · replace hc18 := (bI_0).mp hc18
      exact absurd ((in_iff (by omega)).mpr (in_mk (by omega) hi)) hc18
    · replace hc18 := Decidable.not_not.mp (mt bI_0.mpr hc18)
      refine rk_iload_n rfl rfl ?_
      refine rk_i2l rfl rfl ?_
      refine rk_lconst (v := 0) rfl (by decide) ?_
      rw [show (0 : Int64) = (0 : Int32).toInt64 by decide]
      refine rk_ldc2 rfl ?_
      rw [show (2 : Int64) = (nI 2).toInt64 by decide]
      refine rk_cs3e rfl rfl rfl (Nat.le_of_ble_eq_true rfl) (Nat.le_of_ble_eq_true rfl) (s181 _ _ _) ?_
      refine rk_if_ne rfl rfl (fun hc24 => ?_) (fun hc24 => ?_)
      · replace hc24 := Decidable.not_not.mp (mt bI_0.mpr hc24)
        exact absurd hc24 hy
      · replace hc24 := Decidable.not_not.mp hc24
        replace hc24 := (bI_0).mp hc24
        refine rk_bipush (v := (-2)) rfl (by decide) ?_
        exact rk_ireturn rfl rfl Qe_mk
theorem m215_x {X : ai_X} {h : ai_H} {n t r i : Nat} {v A : Nat → Int32} (c0 : h[52]? = some (cMdl v)) (c1 : h[53]? = some (cI 2346 A)) (hA : A 0 = nI n) (hn : n ≤ 14) (hA1 : A 1 = nI t) (ht : t ≤ 6) {x z y : Int32} (hx : ¬ (¬ x < 0 ∧ ¬ nI n ≤ x)) : Rk X am_215 3 (ai_loc (ai_mL am_215) [.ref 52, .int x, .int z, .int y]) [] h (Qe (-2) h) := by
  refine rk_aload_n rfl rfl ?_
  refine rk_iload_n rfl rfl ?_
  refine rk_cv1e rfl rfl (by assumption) rfl rfl (Nat.le_of_ble_eq_true rfl) (Nat.le_of_ble_eq_true rfl) (s207n c0 c1 hA (by omega) _) ?_
  refine rk_if_eq rfl rfl (fun hc6 => ?_) (fun hc6 => ?_)
  · replace hc6 := (bI_0).mp hc6
    refine rk_bipush (v := (-2)) rfl (by decide) ?_
    exact rk_ireturn rfl rfl Qe_mk
  · replace hc6 := Decidable.not_not.mp (mt bI_0.mpr hc6)
    exact absurd hc6 hx
theorem m215_y {X : ai_X} {h : ai_H} {n t r i : Nat} {v A : Nat → Int32} (c0 : h[52]? = some (cMdl v)) (c1 : h[53]? = some (cI 2346 A)) (hA : A 0 = nI n) (hn : n ≤ 14) (hA1 : A 1 = nI t) (ht : t ≤ 6) {z y : Int32} (hr : r < n) (hz : ¬ (¬ z < 0 ∧ ¬ nI t ≤ z)) : Rk X am_215 3 (ai_loc (ai_mL am_215) [.ref 52, .int (nI r), .int z, .int y]) [] h (Qe (-2) h) := by
  refine rk_aload_n rfl rfl ?_
  refine rk_iload_n rfl rfl ?_
  refine rk_cv1e rfl rfl (by assumption) rfl rfl (Nat.le_of_ble_eq_true rfl) (Nat.le_of_ble_eq_true rfl) (s207n c0 c1 hA (by omega) _) ?_
  refine rk_if_eq rfl rfl (fun hc6 => ?_) (fun hc6 => ?_)
  · replace hc6 := (bI_0).mp hc6
    exact absurd (in_mk (by omega) hr) hc6
  · replace hc6 := Decidable.not_not.mp (mt bI_0.mpr hc6)
    refine rk_iload_n rfl rfl ?_
    refine rk_i2l rfl rfl ?_
    refine rk_lconst (v := 0) rfl (by decide) ?_
    rw [show (0 : Int64) = (0 : Int32).toInt64 by decide]
    refine rk_aload_n rfl rfl ?_
    refine rk_get rfl (by assumption) rfl ?_
    refine rk_iconst (v := nI 1) rfl (by decide) ?_
    refine rk_iald rfl (by assumption) (rfl) (by omega) (by decide) ?_
    rw [hA1]
    refine rk_iconst (v := nI 1) rfl (by decide) ?_
    refine rk_isub rfl rfl ?_
    refine rk_i2l rfl rfl ?_
    refine rk_cs3e rfl rfl rfl (Nat.le_of_ble_eq_true rfl) (Nat.le_of_ble_eq_true rfl) (s181 _ _ _) ?_
    refine rk_if_eq rfl rfl (fun hc18 => ?_) (fun hc18 => ?_)
    · replace hc18 := (bI_0).mp hc18
      refine rk_bipush (v := (-2)) rfl (by decide) ?_
      exact rk_ireturn rfl rfl Qe_mk
    · replace hc18 := Decidable.not_not.mp (mt bI_0.mpr hc18)
      exact absurd ((in_iff (by omega)).mp hc18) hz
theorem ob3 (X : ai_X) : O3 X Inv := by
  intro x z y
  refine ob_pure fun m c s h I => ?_
  obtain ⟨tp, T, A, im, rs, rm, nu, fk, fp, b, ⟨a1, -⟩, ⟨⟨F, G, hH, hC⟩, -⟩, -, -, -, -, ⟨⟨v, mk, e1, -⟩, e2, -⟩, ⟨-, -, ⟨n, t, w, hV, -⟩, -⟩, -⟩ := I
  obtain ⟨q1, q2, q3, q4, -, q6, -⟩ := id hV
  have hF : F 0 = nI n := hC.1.trans q1
  have hT : F 1 = nI t := hC.2.1.trans q2
  have hn : n ≤ 14 := by omega
  have ht : t ≤ 6 := by omega
  by_cases hx : ¬ x < 0 ∧ ¬ nI n ≤ x
  · obtain ⟨r, hr, rfl⟩ := in_of (by omega) hx
    by_cases hz : ¬ z < 0 ∧ ¬ nI t ≤ z
    · obtain ⟨i, hi, rfl⟩ := in_of (by omega) hz
      have hT0 : ¬ F 1 = 0 := by rw [hT, n0_eq (by omega)]; omega
      have hk : r * 6 + i < 84 := by omega
      have h0 := (hC.2.2.2.2.2.2.2.2.2.2 hT0 _ hk).1
      have h1 := (hC.2.2.2.2.2.2.2.2.2.2 hT0 _ hk).2
      have h2 := hC.2.2.2.2.2.2.2.2.1 _ hk
      rcases sw_3 y with rfl | rfl | rfl | ⟨hy, hy'⟩
      · refine ⟨_, c133_0 a1 hH hF hn hT ht hr hi, md_thr rfl rfl rfl rfl e1 (fun h1 g1 hh => ?_)⟩
        have z := m215_0 (X := X) g1 ((hh 53 (by omega)).trans e2) q1 hn q2 ht hr hi
        rw [h0, show 0 + 2 + (r * 6 + i) = 2 + (6 * r + i) by omega]
        exact z
      · refine ⟨_, c133_1 a1 hH hF hn hT ht hr hi, md_thr rfl rfl rfl rfl e1 (fun h1' g1 hh => ?_)⟩
        have z := m215_1 (X := X) g1 ((hh 53 (by omega)).trans e2) q1 hn q2 ht hr hi
        rw [h1, show 0 + 86 + (r * 6 + i) = 86 + (6 * r + i) by omega]
        exact z
      · refine ⟨_, c133_2 a1 hH hF hn hT ht hr hi, md_thr rfl rfl rfl rfl e1 (fun h1 g1 hh => ?_)⟩
        have z := m215_2 (X := X) g1 ((hh 53 (by omega)).trans e2) q1 hn q2 ht hr hi
        rw [h2, show 0 + 170 + (r * 6 + i) = 170 + (6 * r + i) by omega]
        exact z
      · exact ⟨_, c133_o a1 hH hF hn hT ht hr hi hy, md_thr rfl rfl rfl rfl e1 (fun h1 g1 hh => m215_o (X := X) g1 ((hh 53 (by omega)).trans e2) q1 hn q2 ht hr hi hy')⟩
    · exact ⟨_, c133_y (i := 0) a1 hH hF hn hT ht hr hz, md_thr rfl rfl rfl rfl e1 (fun h1 g1 hh => m215_y (X := X) (i := 0) g1 ((hh 53 (by omega)).trans e2) q1 hn q2 ht hr hz)⟩
  · exact ⟨_, c133_x (r := 0) (i := 0) a1 hH hF hn hT ht hx, md_thr rfl rfl rfl rfl e1 (fun h1 g1 hh => m215_x (X := X) (r := 0) (i := 0) g1 ((hh 53 (by omega)).trans e2) q1 hn q2 ht hx)⟩
