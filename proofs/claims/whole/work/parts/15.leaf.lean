/-! leaves -/
theorem nI_one : nI 1 = 1 := by decide
theorem s23 {X : ai_X} {h : ai_H} {p : Nat} {F : Nat → Int32} {G : Nat → Nat → Int32} (H : HouseAt h p F G) (x : Int32) : Mt X am_23 [.ref p, .int x] h (Qe (bI (¬ x < 0 ∧ ¬ F 0 ≤ x)) h) := by
  obtain ⟨c0, c1, c2, c3, c4, c5⟩ := H
  refine rk_iload_n rfl rfl ?_
  refine rk_if_lt rfl rfl (fun hc1 => ?_) (fun hc1 => ?_)
  · refine rk_iconst (v := nI 0) rfl (by decide) ?_
    exact rk_ireturn rfl (by decide) (Qe_of (by first | (simp [bI, nI_0, nI_one, *]; done) | (rw [bI, if_pos ⟨by assumption, by assumption⟩]; rfl) | (rw [bI, if_neg (fun z => z.2 (by assumption))]; rfl)))
  · refine rk_iload_n rfl rfl ?_
    refine rk_aload_n rfl rfl ?_
    refine rk_get rfl (by assumption) rfl ?_
    refine rk_icmp_ge rfl rfl (fun hc5 => ?_) (fun hc5 => ?_)
    · refine rk_iconst (v := nI 0) rfl (by decide) ?_
      exact rk_ireturn rfl (by decide) (Qe_of (by first | (simp [bI, nI_0, nI_one, *]; done) | (rw [bI, if_pos ⟨by assumption, by assumption⟩]; rfl) | (rw [bI, if_neg (fun z => z.2 (by assumption))]; rfl)))
    · refine rk_iconst (v := nI 1) rfl (by decide) ?_
      refine rk_goto rfl rfl ?_
      exact rk_ireturn rfl (by decide) (Qe_of (by first | (simp [bI, nI_0, nI_one, *]; done) | (rw [bI, if_pos ⟨by assumption, by assumption⟩]; rfl) | (rw [bI, if_neg (fun z => z.2 (by assumption))]; rfl)))
theorem s24 {X : ai_X} {h : ai_H} {p : Nat} {F : Nat → Int32} {G : Nat → Nat → Int32} (H : HouseAt h p F G) (x : Int32) : Mt X am_24 [.ref p, .int x] h (Qe (bI (¬ x < 0 ∧ ¬ F 1 ≤ x)) h) := by
  obtain ⟨c0, c1, c2, c3, c4, c5⟩ := H
  refine rk_iload_n rfl rfl ?_
  refine rk_if_lt rfl rfl (fun hc1 => ?_) (fun hc1 => ?_)
  · refine rk_iconst (v := nI 0) rfl (by decide) ?_
    exact rk_ireturn rfl (by decide) (Qe_of (by first | (simp [bI, nI_0, nI_one, *]; done) | (rw [bI, if_pos ⟨by assumption, by assumption⟩]; rfl) | (rw [bI, if_neg (fun z => z.2 (by assumption))]; rfl)))
  · refine rk_iload_n rfl rfl ?_
    refine rk_aload_n rfl rfl ?_
    refine rk_get rfl (by assumption) rfl ?_
    refine rk_icmp_ge rfl rfl (fun hc5 => ?_) (fun hc5 => ?_)
    · refine rk_iconst (v := nI 0) rfl (by decide) ?_
      exact rk_ireturn rfl (by decide) (Qe_of (by first | (simp [bI, nI_0, nI_one, *]; done) | (rw [bI, if_pos ⟨by assumption, by assumption⟩]; rfl) | (rw [bI, if_neg (fun z => z.2 (by assumption))]; rfl)))
    · refine rk_iconst (v := nI 1) rfl (by decide) ?_
      refine rk_goto rfl rfl ?_
      exact rk_ireturn rfl (by decide) (Qe_of (by first | (simp [bI, nI_0, nI_one, *]; done) | (rw [bI, if_pos ⟨by assumption, by assumption⟩]; rfl) | (rw [bI, if_neg (fun z => z.2 (by assumption))]; rfl)))
theorem s25 {X : ai_X} {h : ai_H} {p : Nat} {F : Nat → Int32} {G : Nat → Nat → Int32} (H : HouseAt h p F G) (x : Int32) : Mt X am_25 [.ref p, .int x] h (Qe (bI (¬ x < 0 ∧ ¬ F 4 ≤ x)) h) := by
  obtain ⟨c0, c1, c2, c3, c4, c5⟩ := H
  refine rk_iload_n rfl rfl ?_
  refine rk_if_lt rfl rfl (fun hc1 => ?_) (fun hc1 => ?_)
  · refine rk_iconst (v := nI 0) rfl (by decide) ?_
    exact rk_ireturn rfl (by decide) (Qe_of (by first | (simp [bI, nI_0, nI_one, *]; done) | (rw [bI, if_pos ⟨by assumption, by assumption⟩]; rfl) | (rw [bI, if_neg (fun z => z.2 (by assumption))]; rfl)))
  · refine rk_iload_n rfl rfl ?_
    refine rk_aload_n rfl rfl ?_
    refine rk_get rfl (by assumption) rfl ?_
    refine rk_icmp_ge rfl rfl (fun hc5 => ?_) (fun hc5 => ?_)
    · refine rk_iconst (v := nI 0) rfl (by decide) ?_
      exact rk_ireturn rfl (by decide) (Qe_of (by first | (simp [bI, nI_0, nI_one, *]; done) | (rw [bI, if_pos ⟨by assumption, by assumption⟩]; rfl) | (rw [bI, if_neg (fun z => z.2 (by assumption))]; rfl)))
    · refine rk_iconst (v := nI 1) rfl (by decide) ?_
      refine rk_goto rfl rfl ?_
      exact rk_ireturn rfl (by decide) (Qe_of (by first | (simp [bI, nI_0, nI_one, *]; done) | (rw [bI, if_pos ⟨by assumption, by assumption⟩]; rfl) | (rw [bI, if_neg (fun z => z.2 (by assumption))]; rfl)))
theorem s26 {X : ai_X} {h : ai_H} {p : Nat} {F : Nat → Int32} {G : Nat → Nat → Int32} (H : HouseAt h p F G) (x : Int32) : Mt X am_26 [.ref p, .int x] h (Qe (bI (¬ x ≤ 0 ∧ ¬ (nI 1 <<< (F 0 &&& 31)) ≤ x)) h) := by
  obtain ⟨c0, c1, c2, c3, c4, c5⟩ := H
  refine rk_iload_n rfl rfl ?_
  refine rk_if_le rfl rfl (fun hc1 => ?_) (fun hc1 => ?_)
  · refine rk_iconst (v := nI 0) rfl (by decide) ?_
    exact rk_ireturn rfl (by decide) (Qe_of (by first | (simp [bI, nI_0, nI_one, *]; done) | (rw [bI, if_pos ⟨by assumption, by assumption⟩]; rfl) | (rw [bI, if_neg (fun z => z.2 (by assumption))]; rfl)))
  · refine rk_iload_n rfl rfl ?_
    refine rk_iconst (v := nI 1) rfl (by decide) ?_
    refine rk_aload_n rfl rfl ?_
    refine rk_get rfl (by assumption) rfl ?_
    refine rk_ishl rfl rfl ?_
    refine rk_icmp_ge rfl rfl (fun hc7 => ?_) (fun hc7 => ?_)
    · refine rk_iconst (v := nI 0) rfl (by decide) ?_
      exact rk_ireturn rfl (by decide) (Qe_of (by first | (simp [bI, nI_0, nI_one, *]; done) | (rw [bI, if_pos ⟨by assumption, by assumption⟩]; rfl) | (rw [bI, if_neg (fun z => z.2 (by assumption))]; rfl)))
    · refine rk_iconst (v := nI 1) rfl (by decide) ?_
      refine rk_goto rfl rfl ?_
      exact rk_ireturn rfl (by decide) (Qe_of (by first | (simp [bI, nI_0, nI_one, *]; done) | (rw [bI, if_pos ⟨by assumption, by assumption⟩]; rfl) | (rw [bI, if_neg (fun z => z.2 (by assumption))]; rfl)))
theorem s27 {X : ai_X} {h : ai_H} {p : Nat} {F : Nat → Int32} {G : Nat → Nat → Int32} (H : HouseAt h p F G) {r t : Nat} (hb : r * 6 + t < 84) : Mt X am_27 [.ref p, .int (nI r), .int (nI t)] h (Qe (G 0 (r * 6 + t)) h) := by
  obtain ⟨c0, c1, c2, c3, c4, c5⟩ := H
  refine rk_aload_n rfl rfl ?_
  refine rk_get rfl (by assumption) rfl ?_
  refine rk_iload_n rfl rfl ?_
  refine rk_bipush (v := nI 6) rfl (by decide) ?_
  refine rk_imul rfl (pk_mul _ _) ?_
  refine rk_iload_n rfl rfl ?_
  refine rk_iadd rfl (nI_add _ _) ?_
  refine rk_iald rfl (by assumption) (rfl) (by omega) (by decide) ?_
  exact rk_ireturn rfl rfl Qe_mk
theorem s28 {X : ai_X} {h : ai_H} {p : Nat} {F : Nat → Int32} {G : Nat → Nat → Int32} (H : HouseAt h p F G) {r t : Nat} (hb : r * 6 + t < 84) : Mt X am_28 [.ref p, .int (nI r), .int (nI t)] h (Qe (G 1 (r * 6 + t)) h) := by
  obtain ⟨c0, c1, c2, c3, c4, c5⟩ := H
  refine rk_aload_n rfl rfl ?_
  refine rk_get rfl (by assumption) rfl ?_
  refine rk_iload_n rfl rfl ?_
  refine rk_bipush (v := nI 6) rfl (by decide) ?_
  refine rk_imul rfl (pk_mul _ _) ?_
  refine rk_iload_n rfl rfl ?_
  refine rk_iadd rfl (nI_add _ _) ?_
  refine rk_iald rfl (by assumption) (rfl) (by omega) (by decide) ?_
  exact rk_ireturn rfl rfl Qe_mk
theorem s29 {X : ai_X} {h : ai_H} {p : Nat} {F : Nat → Int32} {G : Nat → Nat → Int32} (H : HouseAt h p F G) {r t : Nat} (hb : r * 6 + t < 84) : Mt X am_29 [.ref p, .int (nI r), .int (nI t)] h (Qe (G 2 (r * 6 + t)) h) := by
  obtain ⟨c0, c1, c2, c3, c4, c5⟩ := H
  refine rk_aload_n rfl rfl ?_
  refine rk_get rfl (by assumption) rfl ?_
  refine rk_iload_n rfl rfl ?_
  refine rk_bipush (v := nI 6) rfl (by decide) ?_
  refine rk_imul rfl (pk_mul _ _) ?_
  refine rk_iload_n rfl rfl ?_
  refine rk_iadd rfl (nI_add _ _) ?_
  refine rk_iald rfl (by assumption) (rfl) (by omega) (by decide) ?_
  exact rk_ireturn rfl rfl Qe_mk
theorem s30 {X : ai_X} {h : ai_H} {p : Nat} {F : Nat → Int32} {G : Nat → Nat → Int32} (H : HouseAt h p F G) {r : Nat} (hb : r < 14) : Mt X am_30 [.ref p, .int (nI r)] h (Qe (G 3 r) h) := by
  obtain ⟨c0, c1, c2, c3, c4, c5⟩ := H
  refine rk_aload_n rfl rfl ?_
  refine rk_get rfl (by assumption) rfl ?_
  refine rk_iload_n rfl rfl ?_
  refine rk_iald rfl (by assumption) (rfl) (by omega) (by decide) ?_
  exact rk_ireturn rfl rfl Qe_mk
theorem s31 {X : ai_X} {h : ai_H} {p : Nat} {F : Nat → Int32} {G : Nat → Nat → Int32} (H : HouseAt h p F G) {r : Nat} (hb : r < 8) : Mt X am_31 [.ref p, .int (nI r)] h (Qe (G 4 r) h) := by
  obtain ⟨c0, c1, c2, c3, c4, c5⟩ := H
  refine rk_aload_n rfl rfl ?_
  refine rk_get rfl (by assumption) rfl ?_
  refine rk_iload_n rfl rfl ?_
  refine rk_iald rfl (by assumption) (rfl) (by omega) (by decide) ?_
  exact rk_ireturn rfl rfl Qe_mk
theorem s90 {X : ai_X} {h : ai_H} {p : Nat} {n : Int32} {f : Nat → Int32} (H : RouteAt h p n f) {i : Nat} (hb : i < 500) : Mt X am_90 [.ref p, .int (nI i)] h (Qe (f i) h) := by
  obtain ⟨c0, c1⟩ := H
  refine rk_iload_n rfl rfl ?_
  refine rk_if_lt rfl rfl (fun hc1 => ?_) (fun hc1 => ?_)
  · replace hc1 := (n0_lt (by omega)).mp hc1
    exact hc1.elim
  · replace hc1 := mt (n0_lt (by omega)).mpr hc1
    refine rk_iload_n rfl rfl ?_
    refine rk_sipush (v := nI 500) rfl (by decide) ?_
    refine rk_icmp_ge rfl rfl (fun hc4 => ?_) (fun hc4 => ?_)
    · replace hc4 := (nI_leI (by omega) (by omega)).mp hc4
      omega
    · replace hc4 := mt (nI_leI (by omega) (by omega)).mpr hc4
      refine rk_aload_n rfl rfl ?_
      refine rk_get rfl (by assumption) rfl ?_
      refine rk_iload_n rfl rfl ?_
      refine rk_iald rfl (by assumption) (rfl) (by omega) (by decide) ?_
      refine rk_goto rfl rfl ?_
      exact rk_ireturn rfl rfl Qe_mk
theorem s43 {X : ai_X} {h : ai_H} {p : Nat} {sz so : Int32} {f : Nat → Int64} (H : NumAt h p sz so f) : Mt X am_43 [.ref p] h (Qe (bI (sz = -1)) h) := by
  obtain ⟨c0, c1⟩ := H
  refine rk_aload_n rfl rfl ?_
  refine rk_get rfl (by assumption) rfl ?_
  refine rk_iconst (v := (-1)) rfl (by decide) ?_
  refine rk_icmp_ne rfl rfl (fun hc3 => ?_) (fun hc3 => ?_)
  · refine rk_iconst (v := nI 0) rfl (by decide) ?_
    exact rk_ireturn rfl (by decide) (Qe_of (by first | (simp [bI, nI_0, nI_one, *]; done) | (rw [bI, if_pos ⟨by assumption, by assumption⟩]; rfl) | (rw [bI, if_neg (fun z => z.2 (by assumption))]; rfl)))
  · replace hc3 := Decidable.not_not.mp hc3
    refine rk_iconst (v := nI 1) rfl (by decide) ?_
    refine rk_goto rfl rfl ?_
    exact rk_ireturn rfl (by decide) (Qe_of (by first | (simp [bI, nI_0, nI_one, *]; done) | (rw [bI, if_pos ⟨by assumption, by assumption⟩]; rfl) | (rw [bI, if_neg (fun z => z.2 (by assumption))]; rfl)))
theorem s47 {X : ai_X} {h : ai_H} {p : Nat} {sz so : Int32} {f : Nat → Int64} (H : NumAt h p sz so f) {i : Nat} (hb : i < 40) : Mt X am_47 [.ref p, .int (nI i)] h (Qe (f i).toInt32 h) := by
  obtain ⟨c0, c1⟩ := H
  refine rk_aload_n rfl rfl ?_
  refine rk_get rfl (by assumption) rfl ?_
  refine rk_iload_n rfl rfl ?_
  refine rk_lald rfl (by assumption) (rfl) (by omega) (by decide) ?_
  refine rk_l2i rfl rfl ?_
  exact rk_ireturn rfl rfl Qe_mk
theorem s50 {X : ai_X} {h : ai_H} {p a b : Nat} : Mt X am_50 [.ref p, .int (nI a), .int (nI b)] h (Qe (nI (a * 14 + b)) h) := by
  refine rk_iload_n rfl rfl ?_
  refine rk_bipush (v := nI 14) rfl (by decide) ?_
  refine rk_imul rfl (pk_mul _ _) ?_
  refine rk_iload_n rfl rfl ?_
  refine rk_iadd rfl (nI_add _ _) ?_
  exact rk_ireturn rfl rfl Qe_mk
theorem s196 {X : ai_X} {h : ai_H} {a b : Nat} : Mt X am_196 [.int (nI a), .int (nI b)] h (Qe (nI (6 * a + b)) h) := by
  refine rk_bipush (v := nI 6) rfl (by decide) ?_
  refine rk_iload_n rfl rfl ?_
  refine rk_imul rfl (pk_mul _ _) ?_
  refine rk_iload_n rfl rfl ?_
  refine rk_iadd rfl (nI_add _ _) ?_
  exact rk_ireturn rfl rfl Qe_mk
theorem s210 {X : ai_X} {h : ai_H} {v A : Nat → Int32} (c0 : h[52]? = some (cMdl v)) (c1 : h[53]? = some (cI 2346 A)) {r t : Nat} (hb : 6 * r + t < 84) : Mt X am_210 [.ref 52, .int (nI r), .int (nI t)] h (Qe (A (2 + (6 * r + t))) h) := by
  refine rk_aload_n rfl rfl ?_
  refine rk_get rfl (by assumption) rfl ?_
  refine rk_iconst (v := nI 2) rfl (by decide) ?_
  refine rk_iload_n rfl rfl ?_
  refine rk_iload_n rfl rfl ?_
  refine rk_cs2e rfl rfl rfl (Nat.le_of_ble_eq_true rfl) (Nat.le_of_ble_eq_true rfl) (s196) ?_
  refine rk_iadd rfl (nI_add _ _) ?_
  refine rk_iald rfl (by assumption) (rfl) (by omega) (by decide) ?_
  exact rk_ireturn rfl rfl Qe_mk
