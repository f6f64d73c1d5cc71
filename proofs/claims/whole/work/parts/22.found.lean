/-! OBLIGATION found -/
theorem c172_1 {X : ai_X} {h : ai_H} {tp n : Int32} {f : Nat → Int32} (c0 : h[0]? = some (cOne tp)) (H : RouteAt h 15 n f) : Mt X am_172 [.ref 0, .int (-1)] h (Qe n h) := by
  have hc00 : h[15]? = some (cRoute 15 n) := H.1
  refine rk_iload_n rfl rfl ?_
  refine rk_iconst (v := (-1)) rfl (by decide) ?_
  refine rk_icmp_ne rfl rfl (fun hc2 => ?_) (fun hc2 => ?_)
  · exact absurd rfl hc2
  · replace hc2 := Decidable.not_not.mp hc2
    refine rk_aload_n rfl rfl ?_
    refine rk_get rfl (by assumption) rfl ?_
    refine rk_get rfl (by assumption) rfl ?_
    exact rk_ireturn rfl rfl Qe_mk
theorem c172_x {X : ai_X} {h : ai_H} {tp n : Int32} {f : Nat → Int32} (c0 : h[0]? = some (cOne tp)) (H : RouteAt h 15 n f) {a : Int32} (ha : ¬ a = -1) (hx : ¬ (¬ a < 0 ∧ ¬ n ≤ a)) : Mt X am_172 [.ref 0, .int a] h (Qe (-1) h) := by
  have hc00 : h[15]? = some (cRoute 15 n) := H.1
  refine rk_iload_n rfl rfl ?_
  refine rk_iconst (v := (-1)) rfl (by decide) ?_
  refine rk_icmp_ne rfl rfl (fun hc2 => ?_) (fun hc2 => ?_)
  · refine rk_iload_n rfl rfl ?_
    refine rk_if_lt rfl rfl (fun hc8 => ?_) (fun hc8 => ?_)
    · refine rk_iconst (v := (-1)) rfl (by decide) ?_
      exact rk_ireturn rfl rfl Qe_mk
    · refine rk_iload_n rfl rfl ?_
      refine rk_aload_n rfl rfl ?_
      refine rk_get rfl (by assumption) rfl ?_
      refine rk_get rfl (by assumption) rfl ?_
      refine rk_icmp_ge rfl rfl (fun hc13 => ?_) (fun hc13 => ?_)
      · refine rk_iconst (v := (-1)) rfl (by decide) ?_
        exact rk_ireturn rfl rfl Qe_mk
      · exact absurd ⟨hc8, hc13⟩ hx
  · replace hc2 := Decidable.not_not.mp hc2
    exact absurd hc2 ha
theorem c172_v {X : ai_X} {h : ai_H} {tp n : Int32} {f : Nat → Int32} (c0 : h[0]? = some (cOne tp)) (H : RouteAt h 15 n f) {k : Nat} (hk : k < 500) (hx : ¬ n ≤ nI k) : Mt X am_172 [.ref 0, .int (nI k)] h (Qe (f k) h) := by
  have hc00 : h[15]? = some (cRoute 15 n) := H.1
  refine rk_iload_n rfl rfl ?_
  refine rk_iconst (v := (-1)) rfl (by decide) ?_
  refine rk_icmp_ne rfl rfl (fun hc2 => ?_) (fun hc2 => ?_)
  · refine rk_iload_n rfl rfl ?_
    refine rk_if_lt rfl rfl (fun hc8 => ?_) (fun hc8 => ?_)
    · replace hc8 := (n0_lt (by omega)).mp hc8
      exact hc8.elim
    · replace hc8 := mt (n0_lt (by omega)).mpr hc8
      refine rk_iload_n rfl rfl ?_
      refine rk_aload_n rfl rfl ?_
      refine rk_get rfl (by assumption) rfl ?_
      refine rk_get rfl (by assumption) rfl ?_
      refine rk_icmp_ge rfl rfl (fun hc13 => ?_) (fun hc13 => ?_)
      · exact absurd hc13 hx
      · refine rk_aload_n rfl rfl ?_
        refine rk_get rfl (by assumption) rfl ?_
        refine rk_iload_n rfl rfl ?_
        refine rk_cv1e rfl rfl (by assumption) rfl rfl (Nat.le_of_ble_eq_true rfl) (Nat.le_of_ble_eq_true rfl) (s90 H (by omega)) ?_
        refine rk_goto rfl rfl ?_
        exact rk_ireturn rfl rfl Qe_mk
  · replace hc2 := Decidable.not_not.mp hc2
    exact absurd hc2 (nm_eq (by omega))
theorem m281_1 {X : ai_X} {h : ai_H} {v A : Nat → Int32} (c0 : h[52]? = some (cMdl v)) (c1 : h[53]? = some (cI 2346 A)) : Rk X am_281 3 (ai_loc (ai_mL am_281) [.ref 52, .int (-1)]) [] h (Qe (A 281) h) := by
  refine rk_iload_n rfl rfl ?_
  refine rk_iconst (v := (-1)) rfl (by decide) ?_
  refine rk_icmp_ne rfl rfl (fun hc5 => ?_) (fun hc5 => ?_)
  · exact absurd rfl hc5
  · replace hc5 := Decidable.not_not.mp hc5
    refine rk_aload_n rfl rfl ?_
    refine rk_get rfl (by assumption) rfl ?_
    refine rk_sipush (v := nI 281) rfl (by decide) ?_
    refine rk_iald rfl (by assumption) (rfl) (by omega) (by decide) ?_
    exact rk_ireturn rfl rfl Qe_mk
theorem m281_x {X : ai_X} {h : ai_H} {v A : Nat → Int32} (c0 : h[52]? = some (cMdl v)) (c1 : h[53]? = some (cI 2346 A)) {a : Int32} (ha : ¬ a = -1) (hx : ¬ (¬ a < 0 ∧ ¬ (A 281 - nI 1) < a)) : Rk X am_281 3 (ai_loc (ai_mL am_281) [.ref 52, .int a]) [] h (Qe (-1) h) := by
  refine rk_iload_n rfl rfl ?_
  refine rk_iconst (v := (-1)) rfl (by decide) ?_
  refine rk_icmp_ne rfl rfl (fun hc5 => ?_) (fun hc5 => ?_)
  · refine rk_iload_n rfl rfl ?_
    refine rk_i2l rfl rfl ?_
    refine rk_lconst (v := 0) rfl (by decide) ?_
    rw [show (0 : Int64) = (0 : Int32).toInt64 by decide]
    refine rk_aload_n rfl rfl ?_
    refine rk_get rfl (by assumption) rfl ?_
    refine rk_sipush (v := nI 281) rfl (by decide) ?_
    refine rk_iald rfl (by assumption) (rfl) (by omega) (by decide) ?_
    refine rk_iconst (v := nI 1) rfl (by decide) ?_
    refine rk_isub rfl rfl ?_
    refine rk_i2l rfl rfl ?_
    refine rk_cs3e rfl rfl rfl (Nat.le_of_ble_eq_true rfl) (Nat.le_of_ble_eq_true rfl) (s181 _ _ _) ?_
    refine rk_if_eq rfl rfl (fun hc22 => ?_) (fun hc22 => ?_)
    · replace hc22 := (bI_0).mp hc22
      refine rk_iconst (v := (-1)) rfl (by decide) ?_
      exact rk_ireturn rfl rfl Qe_mk
    · replace hc22 := Decidable.not_not.mp (mt bI_0.mpr hc22)
      exact absurd hc22 hx
  · replace hc5 := Decidable.not_not.mp hc5
    exact absurd hc5 ha
theorem m281_v {X : ai_X} {h : ai_H} {v A : Nat → Int32} (c0 : h[52]? = some (cMdl v)) (c1 : h[53]? = some (cI 2346 A)) {k : Nat} (hk : k < 500) (hx : ¬ nI k < 0 ∧ ¬ (A 281 - nI 1) < nI k) : Rk X am_281 3 (ai_loc (ai_mL am_281) [.ref 52, .int (nI k)]) [] h (Qe (A (282 + k)) h) := by
  refine rk_iload_n rfl rfl ?_
  refine rk_iconst (v := (-1)) rfl (by decide) ?_
  refine rk_icmp_ne rfl rfl (fun hc5 => ?_) (fun hc5 => ?_)
  · refine rk_iload_n rfl rfl ?_
    refine rk_i2l rfl rfl ?_
    refine rk_lconst (v := 0) rfl (by decide) ?_
    rw [show (0 : Int64) = (0 : Int32).toInt64 by decide]
    refine rk_aload_n rfl rfl ?_
    refine rk_get rfl (by assumption) rfl ?_
    refine rk_sipush (v := nI 281) rfl (by decide) ?_
    refine rk_iald rfl (by assumption) (rfl) (by omega) (by decide) ?_
    refine rk_iconst (v := nI 1) rfl (by decide) ?_
    refine rk_isub rfl rfl ?_
    refine rk_i2l rfl rfl ?_
    refine rk_cs3e rfl rfl rfl (Nat.le_of_ble_eq_true rfl) (Nat.le_of_ble_eq_true rfl) (s181 _ _ _) ?_
    refine rk_if_eq rfl rfl (fun hc22 => ?_) (fun hc22 => ?_)
    · replace hc22 := (bI_0).mp hc22
      exact absurd hx hc22
    · replace hc22 := Decidable.not_not.mp (mt bI_0.mpr hc22)
      refine rk_aload_n rfl rfl ?_
      refine rk_get rfl (by assumption) rfl ?_
      refine rk_sipush (v := nI 282) rfl (by decide) ?_
      refine rk_iload_n rfl rfl ?_
      refine rk_iadd rfl (nI_add _ _) ?_
      refine rk_iald rfl (by assumption) (rfl) (by omega) (by decide) ?_
      refine rk_goto rfl rfl ?_
      exact rk_ireturn rfl rfl Qe_mk
  · replace hc5 := Decidable.not_not.mp hc5
    exact absurd hc5 (nm_eq (by omega))
theorem i32_ge0 {a : Int32} (h : ¬ a < 0) : (-1 : Int32) ≤ a ∧ (-1 : Int32) - nI 1 < a := by
  rw [Int32.lt_iff_toInt_lt] at h
  rw [Int32.lt_iff_toInt_lt, Int32.le_iff_toInt_le]
  have e1 : ((-1 : Int32) - nI 1).toInt = -2 := by decide
  have e2 : (-1 : Int32).toInt = -1 := by decide
  have e3 : (0 : Int32).toInt = 0 := by decide
  rw [e1, e2]
  rw [e3] at h
  omega
theorem ob39 (X : ai_X) : O39 X Inv := by
  intro a
  refine ob_pure fun m c s h I => ?_
  obtain ⟨tp, T, A, im, rs, rm, nu, fk, fp, b, ⟨a1, -⟩, ⟨-, -, ⟨n, f, hR, hn, hf⟩, -⟩, -, -, -, -, ⟨⟨v, mk, e1, -⟩, e2, -⟩, ⟨-, -, ⟨_, t, _, -, hV⟩, -⟩, -⟩ := I
  by_cases ha : a = -1
  · subst ha
    refine ⟨_, c172_1 a1 hR, md_thr rfl rfl rfl rfl e1 (fun h1 g1 hh => ?_)⟩
    rw [hn]
    exact m281_1 (X := X) g1 ((hh 53 (by omega)).trans e2)
  · rcases hV with hV | ⟨l, hl, hV, -⟩
    · have hV' : A 281 = -1 := hV
      refine ⟨_, c172_x a1 hR ha (fun z => z.2 (by rw [hn]; show A 281 ≤ a; rw [hV']; exact (i32_ge0 z.1).1)), md_thr rfl rfl rfl rfl e1 (fun h1 g1 hh => ?_)⟩
      exact m281_x (X := X) g1 ((hh 53 (by omega)).trans e2) ha (fun z => z.2 (by rw [hV']; exact (i32_ge0 z.1).2))
    · have hV' : A 281 = nI l := hV
      have hn' : n = nI l := hn.trans hV
      by_cases hx : ¬ a < 0 ∧ ¬ nI l ≤ a
      · obtain ⟨k, hk, rfl⟩ := in_of (by omega) hx
        refine ⟨_, c172_v a1 hR (k := k) (by omega) (by rw [hn']; exact hx.2), md_thr rfl rfl rfl rfl e1 (fun h1 g1 hh => ?_)⟩
        rw [hf k (by rw [hV, cl_nI (by omega)]; exact hk), show 0 + 282 + k = 282 + k by omega]
        exact m281_v (X := X) g1 ((hh 53 (by omega)).trans e2) (by omega) (by rw [hV']; exact (in_iff (by omega)).mpr hx)
      · refine ⟨_, c172_x a1 hR ha (by rw [hn']; exact hx), md_thr rfl rfl rfl rfl e1 (fun h1 g1 hh => ?_)⟩
        exact m281_x (X := X) g1 ((hh 53 (by omega)).trans e2) ha (by rw [hV']; exact fun z => hx ((in_iff (by omega)).mp z))
