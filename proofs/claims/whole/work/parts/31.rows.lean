/-! ROWS OF NUMBERS ARE WRITTEN: numbers, write -/
theorem l291 {X : ai_X} {h : ai_H} {p n : Nat} {v : Int64} {f0 : Nat → Int64} (hn : n < 2 ^ 31) (c0 : h[p]? = some (cJ n f0)) : ∀ (d : Nat) (k : Nat) (g : ai_H) (f : Nat → Int64), n < k + d → (k ≤ n) → (Fr p (p + 1) h g) → (g[p]? = some (cJ n f)) → (∀ j, j < k → f j = v) → Rk X am_291 5 [some (.ref p), some (.long v), none, some (.int (nI k)), some (.int (nI n))] [] g (Qv (fun h1 => Fr p (p + 1) h h1 ∧ ∃ f, h1[p]? = some (cJ n f) ∧ ∀ j, j < n → f j = v)) := by
  intro d
  induction d with
  | zero => intro k g f hd hk F cp hf; exfalso; omega
  | succ d ih =>
    intro k g f hd hk F cp hf
    refine rk_iload_n rfl rfl ?_
    refine rk_iload rfl rfl ?_
    refine rk_icmp_ge rfl rfl (fun hc7 => ?_) (fun hc7 => ?_)
    · replace hc7 := (nI_leI (by omega) (by omega)).mp hc7
      exact rk_return rfl rfl ⟨_, rfl, F, f, cp, fun j hj => hf j (by omega)⟩
    · replace hc7 := mt (nI_leI (by omega) (by omega)).mpr hc7
      refine rk_aload_n rfl rfl ?_
      refine rk_iload_n rfl rfl ?_
      refine rk_lload_n rfl rfl ?_
      refine rk_last rfl cp (rfl) (by omega) (by omega) ?_
      refine hp_gen cp (fun h1 g1 hk1 hl1 => ?_)
      replace cp := g1
      refine rk_iinc rfl rfl (n_inc _) rfl ?_
      refine rk_goto rfl rfl ?_
      refine ih (k + 1) h1 _ (by omega) (by omega) (F.tr (Fr.mk1 hk1 hl1 (by omega) (by omega))) cp (fun j hj => ?_)
      simp only [vp_updL]
      by_cases e : j = k
      · rw [if_pos e]
      · rw [if_neg e]; exact hf j (by omega)
theorem s291 {X : ai_X} {h : ai_H} {p n : Nat} {v : Int64} {f0 : Nat → Int64} (hn : n < 2 ^ 31) (c0 : h[p]? = some (cJ n f0)) : Mt X am_291 [.ref p, .long v] h (Qv (fun h1 => Fr p (p + 1) h h1 ∧ ∃ f, h1[p]? = some (cJ n f) ∧ ∀ j, j < n → f j = v)) := by
  refine rk_iconst (v := nI 0) rfl (by decide) ?_
  refine rk_istore_n rfl (Nat.le_of_ble_eq_true rfl) rfl ?_
  refine rk_aload_n rfl rfl ?_
  refine rk_alen (w := nI n) rfl c0 (Nat.le_of_ble_eq_true rfl) rfl ?_
  refine rk_istore rfl (Nat.le_of_ble_eq_true rfl) rfl ?_
  exact l291 hn c0 (n + 1) 0 h f0 (by omega) (by omega) Fr.rfl' c0 (fun j hj => absurd hj (by omega))
theorem l292 {X : ai_X} {h : ai_H} {p n : Nat} {v : Int32} {f0 : Nat → Int32} (hn : n < 2 ^ 31) (c0 : h[p]? = some (cI n f0)) : ∀ (d : Nat) (k : Nat) (g : ai_H) (f : Nat → Int32), n < k + d → (k ≤ n) → (Fr p (p + 1) h g) → (g[p]? = some (cI n f)) → (∀ j, j < k → f j = v) → Rk X am_292 5 [some (.ref p), some (.int v), some (.int (nI k)), some (.int (nI n))] [] g (Qv (fun h1 => Fr p (p + 1) h h1 ∧ ∃ f, h1[p]? = some (cI n f) ∧ ∀ j, j < n → f j = v)) := by
  intro d
  induction d with
  | zero => intro k g f hd hk F cp hf; exfalso; omega
  | succ d ih =>
    intro k g f hd hk F cp hf
    refine rk_iload_n rfl rfl ?_
    refine rk_iload_n rfl rfl ?_
    refine rk_icmp_ge rfl rfl (fun hc7 => ?_) (fun hc7 => ?_)
    · replace hc7 := (nI_leI (by omega) (by omega)).mp hc7
      exact rk_return rfl rfl ⟨_, rfl, F, f, cp, fun j hj => hf j (by omega)⟩
    · replace hc7 := mt (nI_leI (by omega) (by omega)).mpr hc7
      refine rk_aload_n rfl rfl ?_
      refine rk_iload_n rfl rfl ?_
      refine rk_iload_n rfl rfl ?_
      refine rk_iast rfl cp (rfl) (by omega) (by omega) ?_
      refine hp_gen cp (fun h1 g1 hk1 hl1 => ?_)
      replace cp := g1
      refine rk_iinc rfl rfl (n_inc _) rfl ?_
      refine rk_goto rfl rfl ?_
      refine ih (k + 1) h1 _ (by omega) (by omega) (F.tr (Fr.mk1 hk1 hl1 (by omega) (by omega))) cp (fun j hj => ?_)
      simp only [upd]
      by_cases e : j = k
      · rw [if_pos e]
      · rw [if_neg e]; exact hf j (by omega)
theorem s292 {X : ai_X} {h : ai_H} {p n : Nat} {v : Int32} {f0 : Nat → Int32} (hn : n < 2 ^ 31) (c0 : h[p]? = some (cI n f0)) : Mt X am_292 [.ref p, .int v] h (Qv (fun h1 => Fr p (p + 1) h h1 ∧ ∃ f, h1[p]? = some (cI n f) ∧ ∀ j, j < n → f j = v)) := by
  refine rk_iconst (v := nI 0) rfl (by decide) ?_
  refine rk_istore_n rfl (Nat.le_of_ble_eq_true rfl) rfl ?_
  refine rk_aload_n rfl rfl ?_
  refine rk_alen (w := nI n) rfl c0 (Nat.le_of_ble_eq_true rfl) rfl ?_
  refine rk_istore_n rfl (Nat.le_of_ble_eq_true rfl) rfl ?_
  exact l292 hn c0 (n + 1) 0 h f0 (by omega) (by omega) Fr.rfl' c0 (fun j hj => absurd hj (by omega))
theorem s44 {X : ai_X} {h : ai_H} {p : Nat} {sz so sz0 so0 : Int32} {f : Nat → Int64} (R : NumAt h p sz0 so0 f) : Mt X am_44 [.ref p, .int so, .int sz] h (Qv (fun h1 => Fr p (p + 2) h h1 ∧ ∃ f, NumAt h1 p sz so f ∧ ∀ j, j < 40 → f j = 0)) := by
  obtain ⟨c0, c1⟩ := id R
  have F0 : Fr p (p + 2) h h := Fr.rfl'
  refine rk_aload_n rfl rfl ?_
  refine rk_iload_n rfl rfl ?_
  refine rk_put rfl c0 (Nat.le_of_ble_eq_true rfl) ft_3_1 rfl (Or.inl rfl) rfl ?_
  refine hp_gen c0 (fun h1 g1 hk1 hl1 => ?_)
  replace c1 := (hk1 _ (by omega)).trans c1
  replace F0 := F0.tr (Fr.mk1 hk1 hl1 (by omega) (by omega))
  replace c0 := g1
  refine rk_aload_n rfl rfl ?_
  refine rk_iload_n rfl rfl ?_
  refine rk_put rfl c0 (Nat.le_of_ble_eq_true rfl) ft_3_0 rfl (Or.inl rfl) rfl ?_
  refine hp_gen c0 (fun h1 g1 hk1 hl1 => ?_)
  replace c1 := (hk1 _ (by omega)).trans c1
  replace F0 := F0.tr (Fr.mk1 hk1 hl1 (by omega) (by omega))
  replace c0 := g1
  refine rk_aload_n rfl rfl ?_
  refine rk_get rfl (by assumption) rfl ?_
  refine rk_lconst (v := 0) rfl (by decide) ?_
  refine rk_cs2v rfl rfl rfl (Nat.le_of_ble_eq_true rfl) (Nat.le_of_ble_eq_true rfl) (s291 (by decide) c1) (fun h1 hF => ?_)
  obtain ⟨F2, f2, c2, hf2⟩ := hF
  replace c0 := (F2.2 p (by omega)).trans c0
  exact rk_return rfl rfl ⟨_, rfl, F0.tr (F2.mono (by omega) (by omega)), f2, ⟨c0, c2⟩, hf2⟩
theorem c173_x {X : ai_X} {h : ai_H} {tp : Int32} {ro : Nat → Option Nat} (d0 : h[0]? = some (cOne tp)) (d19 : h[19]? = some (cR 3 4 ro)) (hro : ∀ i, i < 4 → ro i = some (44 + 2 * i)) {a b c : Int32} (ha : ¬ (¬ a < 0 ∧ ¬ nI 4 ≤ a)) : Mt X am_173 [.ref 0, .int a, .int b, .int c] h (Qe (-2) h) := by
  refine rk_aload_n rfl rfl ?_
  refine rk_iload_n rfl rfl ?_
  refine rk_cv1e rfl rfl (by assumption) rfl rfl (Nat.le_of_ble_eq_true rfl) (Nat.le_of_ble_eq_true rfl) (s179 _) ?_
  refine rk_if_eq rfl rfl (fun hc3 => ?_) (fun hc3 => ?_)
  · replace hc3 := (bI_0).mp hc3
    refine rk_bipush (v := (-2)) rfl (by decide) ?_
    exact rk_ireturn rfl rfl Qe_mk
  · replace hc3 := Decidable.not_not.mp (mt bI_0.mpr hc3)
    exact absurd hc3 ha
theorem c173_y {X : ai_X} {h : ai_H} {tp : Int32} {ro : Nat → Option Nat} (d0 : h[0]? = some (cOne tp)) (d19 : h[19]? = some (cR 3 4 ro)) (hro : ∀ i, i < 4 → ro i = some (44 + 2 * i)) {i : Nat} {b c : Int32} (hi : i < 4) (hb : ¬ (¬ b < 0 ∧ ¬ nI 4 ≤ b)) : Mt X am_173 [.ref 0, .int (nI i), .int b, .int c] h (Qe (-2) h) := by
  refine rk_aload_n rfl rfl ?_
  refine rk_iload_n rfl rfl ?_
  refine rk_cv1e rfl rfl (by assumption) rfl rfl (Nat.le_of_ble_eq_true rfl) (Nat.le_of_ble_eq_true rfl) (s179 _) ?_
  refine rk_if_eq rfl rfl (fun hc3 => ?_) (fun hc3 => ?_)
  · replace hc3 := (bI_0).mp hc3
    exact absurd (in_mk (by omega) hi) hc3
  · replace hc3 := Decidable.not_not.mp (mt bI_0.mpr hc3)
    refine rk_iload_n rfl rfl ?_
    refine rk_if_lt rfl rfl (fun hc5 => ?_) (fun hc5 => ?_)
    · refine rk_bipush (v := (-2)) rfl (by decide) ?_
      exact rk_ireturn rfl rfl Qe_mk
    · refine rk_iload_n rfl rfl ?_
      refine rk_iconst (v := nI 4) rfl (by decide) ?_
      refine rk_icmp_lt rfl rfl (fun hc8 => ?_) (fun hc8 => ?_)
      · exact absurd ⟨hc5, fun z => i32_le.mp z hc8⟩ hb
      · refine rk_bipush (v := (-2)) rfl (by decide) ?_
        exact rk_ireturn rfl rfl Qe_mk
theorem c173_z {X : ai_X} {h : ai_H} {tp : Int32} {ro : Nat → Option Nat} (d0 : h[0]? = some (cOne tp)) (d19 : h[19]? = some (cR 3 4 ro)) (hro : ∀ i, i < 4 → ro i = some (44 + 2 * i)) {i j : Nat} {c : Int32} (hi : i < 4) (hj : j < 4) (hc : ¬ (¬ c < 0 ∧ ¬ nI 40 < c)) : Mt X am_173 [.ref 0, .int (nI i), .int (nI j), .int c] h (Qe (-3) h) := by
  refine rk_aload_n rfl rfl ?_
  refine rk_iload_n rfl rfl ?_
  refine rk_cv1e rfl rfl (by assumption) rfl rfl (Nat.le_of_ble_eq_true rfl) (Nat.le_of_ble_eq_true rfl) (s179 _) ?_
  refine rk_if_eq rfl rfl (fun hc3 => ?_) (fun hc3 => ?_)
  · replace hc3 := (bI_0).mp hc3
    exact absurd (in_mk (by omega) hi) hc3
  · replace hc3 := Decidable.not_not.mp (mt bI_0.mpr hc3)
    refine rk_iload_n rfl rfl ?_
    refine rk_if_lt rfl rfl (fun hc5 => ?_) (fun hc5 => ?_)
    · replace hc5 := (n0_lt (by omega)).mp hc5
      exact hc5.elim
    · replace hc5 := mt (n0_lt (by omega)).mpr hc5
      refine rk_iload_n rfl rfl ?_
      refine rk_iconst (v := nI 4) rfl (by decide) ?_
      refine rk_icmp_lt rfl rfl (fun hc8 => ?_) (fun hc8 => ?_)
      · replace hc8 := (nI_ltI (by omega) (by omega)).mp hc8
        refine rk_iload_n rfl rfl ?_
        refine rk_if_lt rfl rfl (fun hc12 => ?_) (fun hc12 => ?_)
        · refine rk_bipush (v := (-3)) rfl (by decide) ?_
          exact rk_ireturn rfl rfl Qe_mk
        · refine rk_iload_n rfl rfl ?_
          refine rk_bipush (v := nI 40) rfl (by decide) ?_
          refine rk_icmp_le rfl rfl (fun hc15 => ?_) (fun hc15 => ?_)
          · exact absurd ⟨hc12, i32_le.mp hc15⟩ hc
          · refine rk_bipush (v := (-3)) rfl (by decide) ?_
            exact rk_ireturn rfl rfl Qe_mk
      · replace hc8 := mt (nI_ltI (by omega) (by omega)).mpr hc8
        omega
theorem c173_v {X : ai_X} {h : ai_H} {tp : Int32} {ro : Nat → Option Nat} (d0 : h[0]? = some (cOne tp)) (d19 : h[19]? = some (cR 3 4 ro)) (hro : ∀ i, i < 4 → ro i = some (44 + 2 * i)) {i : Nat} {sz0 so0 : Int32} {f : Nat → Int64} (hi : i < 4) (R : NumAt h (44 + 2 * i) sz0 so0 f) {j n : Nat} (hj : j < 4) (hn : n ≤ 40) : Mt X am_173 [.ref 0, .int (nI i), .int (nI j), .int (nI n)] h (Qi (fun w h1 => w = nI 0 ∧ Fr (44 + 2 * i) (44 + 2 * i + 2) h h1 ∧ ∃ f, NumAt h1 (44 + 2 * i) (nI n) (nI j) f ∧ ∀ k, k < 40 → f k = 0)) := by
  have rn := R.1
  refine rk_aload_n rfl rfl ?_
  refine rk_iload_n rfl rfl ?_
  refine rk_cv1e rfl rfl (by assumption) rfl rfl (Nat.le_of_ble_eq_true rfl) (Nat.le_of_ble_eq_true rfl) (s179 _) ?_
  refine rk_if_eq rfl rfl (fun hc3 => ?_) (fun hc3 => ?_)
  · replace hc3 := (bI_0).mp hc3
    exact absurd (in_mk (by omega) hi) hc3
  · replace hc3 := Decidable.not_not.mp (mt bI_0.mpr hc3)
    refine rk_iload_n rfl rfl ?_
    refine rk_if_lt rfl rfl (fun hc5 => ?_) (fun hc5 => ?_)
    · replace hc5 := (n0_lt (by omega)).mp hc5
      exact hc5.elim
    · replace hc5 := mt (n0_lt (by omega)).mpr hc5
      refine rk_iload_n rfl rfl ?_
      refine rk_iconst (v := nI 4) rfl (by decide) ?_
      refine rk_icmp_lt rfl rfl (fun hc8 => ?_) (fun hc8 => ?_)
      · replace hc8 := (nI_ltI (by omega) (by omega)).mp hc8
        refine rk_iload_n rfl rfl ?_
        refine rk_if_lt rfl rfl (fun hc12 => ?_) (fun hc12 => ?_)
        · replace hc12 := (n0_lt (by omega)).mp hc12
          exact hc12.elim
        · replace hc12 := mt (n0_lt (by omega)).mpr hc12
          refine rk_iload_n rfl rfl ?_
          refine rk_bipush (v := nI 40) rfl (by decide) ?_
          refine rk_icmp_le rfl rfl (fun hc15 => ?_) (fun hc15 => ?_)
          · replace hc15 := (nI_leI (by omega) (by omega)).mp hc15
            refine rk_aload_n rfl rfl ?_
            refine rk_get rfl (by assumption) rfl ?_
            refine rk_iload_n rfl rfl ?_
            refine rk_aald (w := .ref (44 + 2 * i)) rfl (by assumption) (by decide) rfl (by omega) (by decide) (by rw [hro i hi]; rfl) ?_
            refine rk_iload_n rfl rfl ?_
            refine rk_iload_n rfl rfl ?_
            refine rk_cv2v rfl rfl (by assumption) rfl rfl (Nat.le_of_ble_eq_true rfl) (Nat.le_of_ble_eq_true rfl) (s44 R) (fun h1 hF => ?_)
            obtain ⟨F2, f2, R2, hf2⟩ := hF
            refine rk_iconst (v := nI 0) rfl (by decide) ?_
            exact rk_ireturn rfl rfl ⟨_, _, rfl, rfl, F2, f2, R2, hf2⟩
          · replace hc15 := mt (nI_leI (by omega) (by omega)).mpr hc15
            omega
      · replace hc8 := mt (nI_ltI (by omega) (by omega)).mpr hc8
        omega
theorem m283_x {X : ai_X} {h : ai_H} {v : Nat → Int32} (c0 : h[52]? = some (cMdl v)) {a b c : Int32} (ha : ¬ (¬ a < 0 ∧ ¬ nI 4 ≤ a)) : Rk X am_283 3 (ai_loc (ai_mL am_283) [.ref 52, .int a, .int b, .int c]) [] h (Qe (-2) h) := by
  refine rk_iload_n rfl rfl ?_
  refine rk_i2l rfl rfl ?_
  refine rk_lconst (v := 0) rfl (by decide) ?_
  rw [show (0 : Int64) = (0 : Int32).toInt64 by decide]
  refine rk_ldc2 rfl ?_
  rw [show (3 : Int64) = (nI 3).toInt64 by decide]
  refine rk_cs3e rfl rfl rfl (Nat.le_of_ble_eq_true rfl) (Nat.le_of_ble_eq_true rfl) (s181 _ _ _) ?_
  refine rk_if_eq rfl rfl (fun hc8 => ?_) (fun hc8 => ?_)
  · replace hc8 := (bI_0).mp hc8
    refine rk_bipush (v := (-2)) rfl (by decide) ?_
    exact rk_ireturn rfl rfl Qe_mk
  · replace hc8 := Decidable.not_not.mp (mt bI_0.mpr hc8)
    exact absurd (in34.mp hc8) ha
theorem m283_y {X : ai_X} {h : ai_H} {v : Nat → Int32} (c0 : h[52]? = some (cMdl v)) {i : Nat} {b c : Int32} (hi : i < 4) (hb : ¬ (¬ b < 0 ∧ ¬ nI 4 ≤ b)) : Rk X am_283 3 (ai_loc (ai_mL am_283) [.ref 52, .int (nI i), .int b, .int c]) [] h (Qe (-2) h) := by
  refine rk_iload_n rfl rfl ?_
  refine rk_i2l rfl rfl ?_
  refine rk_lconst (v := 0) rfl (by decide) ?_
  rw [show (0 : Int64) = (0 : Int32).toInt64 by decide]
  refine rk_ldc2 rfl ?_
  rw [show (3 : Int64) = (nI 3).toInt64 by decide]
  refine rk_cs3e rfl rfl rfl (Nat.le_of_ble_eq_true rfl) (Nat.le_of_ble_eq_true rfl) (s181 _ _ _) ?_
  refine rk_if_eq rfl rfl (fun hc8 => ?_) (fun hc8 => ?_)
  · replace hc8 := (bI_0).mp hc8
    exact absurd (in3_mk hi) hc8
  · replace hc8 := Decidable.not_not.mp (mt bI_0.mpr hc8)
    refine rk_iload_n rfl rfl ?_
    refine rk_i2l rfl rfl ?_
    refine rk_lconst (v := 0) rfl (by decide) ?_
    rw [show (0 : Int64) = (0 : Int32).toInt64 by decide]
    refine rk_ldc2 rfl ?_
    rw [show (3 : Int64) = (nI 3).toInt64 by decide]
    refine rk_cs3e rfl rfl rfl (Nat.le_of_ble_eq_true rfl) (Nat.le_of_ble_eq_true rfl) (s181 _ _ _) ?_
    refine rk_if_ne rfl rfl (fun hc14 => ?_) (fun hc14 => ?_)
    · replace hc14 := Decidable.not_not.mp (mt bI_0.mpr hc14)
      exact absurd (in34.mp hc14) hb
    · replace hc14 := Decidable.not_not.mp hc14
      replace hc14 := (bI_0).mp hc14
      refine rk_bipush (v := (-2)) rfl (by decide) ?_
      exact rk_ireturn rfl rfl Qe_mk
theorem m283_z {X : ai_X} {h : ai_H} {v : Nat → Int32} (c0 : h[52]? = some (cMdl v)) {i j : Nat} {c : Int32} (hi : i < 4) (hj : j < 4) (hc : ¬ (¬ c < 0 ∧ ¬ nI 40 < c)) : Rk X am_283 3 (ai_loc (ai_mL am_283) [.ref 52, .int (nI i), .int (nI j), .int c]) [] h (Qe (-3) h) := by
  refine rk_iload_n rfl rfl ?_
  refine rk_i2l rfl rfl ?_
  refine rk_lconst (v := 0) rfl (by decide) ?_
  rw [show (0 : Int64) = (0 : Int32).toInt64 by decide]
  refine rk_ldc2 rfl ?_
  rw [show (3 : Int64) = (nI 3).toInt64 by decide]
  refine rk_cs3e rfl rfl rfl (Nat.le_of_ble_eq_true rfl) (Nat.le_of_ble_eq_true rfl) (s181 _ _ _) ?_
  refine rk_if_eq rfl rfl (fun hc8 => ?_) (fun hc8 => ?_)
  · replace hc8 := (bI_0).mp hc8
    exact absurd (in3_mk hi) hc8
  · replace hc8 := Decidable.not_not.mp (mt bI_0.mpr hc8)
    refine rk_iload_n rfl rfl ?_
    refine rk_i2l rfl rfl ?_
    refine rk_lconst (v := 0) rfl (by decide) ?_
    rw [show (0 : Int64) = (0 : Int32).toInt64 by decide]
    refine rk_ldc2 rfl ?_
    rw [show (3 : Int64) = (nI 3).toInt64 by decide]
    refine rk_cs3e rfl rfl rfl (Nat.le_of_ble_eq_true rfl) (Nat.le_of_ble_eq_true rfl) (s181 _ _ _) ?_
    refine rk_if_ne rfl rfl (fun hc14 => ?_) (fun hc14 => ?_)
    · replace hc14 := Decidable.not_not.mp (mt bI_0.mpr hc14)
      refine rk_iload_n rfl rfl ?_
      refine rk_i2l rfl rfl ?_
      refine rk_lconst (v := 0) rfl (by decide) ?_
      rw [show (0 : Int64) = (0 : Int32).toInt64 by decide]
      refine rk_ldc2 rfl ?_
      rw [show (40 : Int64) = (nI 40).toInt64 by decide]
      refine rk_cs3e rfl rfl rfl (Nat.le_of_ble_eq_true rfl) (Nat.le_of_ble_eq_true rfl) (s181 _ _ _) ?_
      refine rk_if_ne rfl rfl (fun hc22 => ?_) (fun hc22 => ?_)
      · replace hc22 := Decidable.not_not.mp (mt bI_0.mpr hc22)
        exact absurd hc22 hc
      · replace hc22 := Decidable.not_not.mp hc22
        replace hc22 := (bI_0).mp hc22
        refine rk_bipush (v := (-3)) rfl (by decide) ?_
        exact rk_ireturn rfl rfl Qe_mk
    · replace hc14 := Decidable.not_not.mp hc14
      replace hc14 := (bI_0).mp hc14
      exact absurd (in3_mk hj) hc14
theorem l283 {X : ai_X} {h : ai_H} {v : Nat → Int32} {nu : Nat → Int64} {i j n : Nat} (c0 : h[52]? = some (cMdl v)) (c79 : h[79]? = some (cJ 160 nu)) (hi : i < 4) (hn : n ≤ 40) : ∀ (d : Nat) (k : Nat) (g : ai_H) (nv : Nat → Int64), n < k + d → (k ≤ n) → (Fr 79 80 h g) → (g[79]? = some (cJ 160 nv)) → (∀ q, nv q = if 40 * i ≤ q ∧ q < 40 * i + k then 0 else nu q) → Rk X am_283 37 [some (.ref 52), some (.int (nI i)), some (.int (nI j)), some (.int (nI n)), some (.int (nI k))] [] g (Qi (fun w h1 => w = nI 0 ∧ Fr 79 80 h h1 ∧ ∃ nv, h1[79]? = some (cJ 160 nv) ∧ ∀ q, nv q = if 40 * i ≤ q ∧ q < 40 * i + n then 0 else nu q)) := by
  intro d
  induction d with
  | zero => intro k g nv hd hk F cp hf; exfalso; omega
  | succ d ih =>
    intro k g nv hd hk F cp hf
    have e52 := (F.2 52 (by omega)).trans c0
    refine rk_iload rfl rfl ?_
    refine rk_iload_n rfl rfl ?_
    refine rk_icmp_ge rfl rfl (fun hc39 => ?_) (fun hc39 => ?_)
    · replace hc39 := (nI_leI (by omega) (by omega)).mp hc39
      refine rk_iconst (v := nI 0) rfl (by decide) ?_
      exact rk_ireturn rfl rfl ⟨_, _, rfl, rfl, F, nv, cp, fun q => by rw [hf q, show k = n by omega]⟩
    · replace hc39 := mt (nI_leI (by omega) (by omega)).mpr hc39
      refine rk_aload_n rfl rfl ?_
      refine rk_get rfl (by assumption) rfl ?_
      refine rk_bipush (v := nI 40) rfl (by decide) ?_
      refine rk_iload_n rfl rfl ?_
      refine rk_imul rfl (pk_mul _ _) ?_
      refine rk_iload rfl rfl ?_
      refine rk_iadd rfl (nI_add _ _) ?_
      refine rk_lconst (v := 0) rfl (by decide) ?_
      refine rk_last rfl cp (rfl) (by omega) (by decide) ?_
      refine hp_gen cp (fun h1 g1 hk1 hl1 => ?_)
      replace cp := g1
      refine rk_iinc rfl rfl (n_inc _) rfl ?_
      refine rk_goto rfl rfl ?_
      refine ih (k + 1) h1 _ (by omega) (by omega) (F.tr (Fr.mk1 hk1 hl1 (by omega) (by omega))) cp (fun q => ?_)
      simp only [vp_updL]
      by_cases e : q = 40 * i + k
      · rw [if_pos e, if_pos (by omega)]
      · rw [if_neg e, hf q]
        by_cases e2 : 40 * i ≤ q ∧ q < 40 * i + k
        · rw [if_pos e2, if_pos (by omega)]
        · rw [if_neg e2, if_neg (by omega)]
theorem m283_v {X : ai_X} {h : ai_H} {v : Nat → Int32} {rs rm : Nat → Int32} {nu : Nat → Int64} {i j n : Nat} (c0 : h[52]? = some (cMdl v)) (c77 : h[77]? = some (cI 4 rs)) (c78 : h[78]? = some (cI 4 rm)) (c79 : h[79]? = some (cJ 160 nu)) (hi : i < 4) (hn : n ≤ 40) (hj : j < 4) : Rk X am_283 3 (ai_loc (ai_mL am_283) [.ref 52, .int (nI i), .int (nI j), .int (nI n)]) [] h (Qi (fun w h1 => w = nI 0 ∧ Fr 77 80 h h1 ∧ h1[77]? = some (cI 4 (upd rs i (nI j))) ∧ h1[78]? = some (cI 4 (upd rm i (nI n))) ∧ ∃ nv, h1[79]? = some (cJ 160 nv) ∧ ∀ q, nv q = if 40 * i ≤ q ∧ q < 40 * i + n then 0 else nu q)) := by
  have F0 : Fr 77 80 h h := Fr.rfl'
  refine rk_iload_n rfl rfl ?_
  refine rk_i2l rfl rfl ?_
  refine rk_lconst (v := 0) rfl (by decide) ?_
  rw [show (0 : Int64) = (0 : Int32).toInt64 by decide]
  refine rk_ldc2 rfl ?_
  rw [show (3 : Int64) = (nI 3).toInt64 by decide]
  refine rk_cs3e rfl rfl rfl (Nat.le_of_ble_eq_true rfl) (Nat.le_of_ble_eq_true rfl) (s181 _ _ _) ?_
  refine rk_if_eq rfl rfl (fun hc8 => ?_) (fun hc8 => ?_)
  · replace hc8 := (bI_0).mp hc8
    exact absurd (in3_mk hi) hc8
  · replace hc8 := Decidable.not_not.mp (mt bI_0.mpr hc8)
    refine rk_iload_n rfl rfl ?_
    refine rk_i2l rfl rfl ?_
    refine rk_lconst (v := 0) rfl (by decide) ?_
    rw [show (0 : Int64) = (0 : Int32).toInt64 by decide]
    refine rk_ldc2 rfl ?_
    rw [show (3 : Int64) = (nI 3).toInt64 by decide]
    refine rk_cs3e rfl rfl rfl (Nat.le_of_ble_eq_true rfl) (Nat.le_of_ble_eq_true rfl) (s181 _ _ _) ?_
    refine rk_if_ne rfl rfl (fun hc14 => ?_) (fun hc14 => ?_)
    · replace hc14 := Decidable.not_not.mp (mt bI_0.mpr hc14)
      refine rk_iload_n rfl rfl ?_
      refine rk_i2l rfl rfl ?_
      refine rk_lconst (v := 0) rfl (by decide) ?_
      rw [show (0 : Int64) = (0 : Int32).toInt64 by decide]
      refine rk_ldc2 rfl ?_
      rw [show (40 : Int64) = (nI 40).toInt64 by decide]
      refine rk_cs3e rfl rfl rfl (Nat.le_of_ble_eq_true rfl) (Nat.le_of_ble_eq_true rfl) (s181 _ _ _) ?_
      refine rk_if_ne rfl rfl (fun hc22 => ?_) (fun hc22 => ?_)
      · replace hc22 := Decidable.not_not.mp (mt bI_0.mpr hc22)
        refine rk_aload_n rfl rfl ?_
        refine rk_get rfl (by assumption) rfl ?_
        refine rk_iload_n rfl rfl ?_
        refine rk_iload_n rfl rfl ?_
        refine rk_iast rfl c77 (rfl) (by omega) (by decide) ?_
        refine hp_gen c77 (fun h1 g1 hk1 hl1 => ?_)
        replace c0 := (hk1 _ (by omega)).trans c0
        replace c78 := (hk1 _ (by omega)).trans c78
        replace c79 := (hk1 _ (by omega)).trans c79
        replace F0 := F0.tr (Fr.mk1 hk1 hl1 (by omega) (by omega))
        replace c77 := g1
        refine rk_aload_n rfl rfl ?_
        refine rk_get rfl (by assumption) rfl ?_
        refine rk_iload_n rfl rfl ?_
        refine rk_iload_n rfl rfl ?_
        refine rk_iast rfl c78 (rfl) (by omega) (by decide) ?_
        refine hp_gen c78 (fun h1 g1 hk1 hl1 => ?_)
        replace c0 := (hk1 _ (by omega)).trans c0
        replace c77 := (hk1 _ (by omega)).trans c77
        replace c79 := (hk1 _ (by omega)).trans c79
        replace F0 := F0.tr (Fr.mk1 hk1 hl1 (by omega) (by omega))
        replace c78 := g1
        refine rk_iconst (v := nI 0) rfl (by decide) ?_
        refine rk_istore rfl (Nat.le_of_ble_eq_true rfl) rfl ?_
        refine (l283 c0 c79 hi hn (n + 1) 0 _ _ (by omega) (by omega) Fr.rfl' c79 (fun q => by rw [if_neg (by omega)])).mono ?_
        rintro o ⟨w, h2, rfl, rfl, F2, nv, c, hc⟩
        exact ⟨_, _, rfl, rfl, F0.tr (F2.mono (by omega) (by omega)), (F2.2 77 (by omega)).trans c77, (F2.2 78 (by omega)).trans c78, nv, c, hc⟩
      · replace hc22 := Decidable.not_not.mp hc22
        replace hc22 := (bI_0).mp hc22
        exact absurd (w_mk (n := 41) (by omega) (by omega)) hc22
    · replace hc14 := Decidable.not_not.mp hc14
      replace hc14 := (bI_0).mp hc14
      exact absurd (in3_mk hj) hc14
theorem w40 {c : Int32} : (¬ c < 0 ∧ ¬ nI 40 < c) → ∃ n, n ≤ 40 ∧ c = nI n := by
  intro h
  have := (in_iff (n := 41) (x := c) (by decide)).mp
  rw [pk_sub (by decide)] at this
  obtain ⟨n, hn, e⟩ := in_of (by decide) (this h)
  exact ⟨n, by omega, e⟩
theorem nI_4 {j : Nat} (hj : j < 4) : nI j = 0 ∨ nI j = 1 ∨ nI j = 2 ∨ nI j = 3 := by
  rcases (show j = 0 ∨ j = 1 ∨ j = 2 ∨ j = 3 by omega) with rfl | rfl | rfl | rfl
  · exact Or.inl rfl
  · exact Or.inr (Or.inl rfl)
  · exact Or.inr (Or.inr (Or.inl rfl))
  · exact Or.inr (Or.inr (Or.inr rfl))
/-- one row is as told, the others as they were -/
theorem InvR.one {h h2 : ai_H} {rs rm rs' rm' : Nat → Int32} {nu nu' : Nat → Int64} {i : Nat} {sz so : Int32} {f : Nat → Int64} (H : InvR h rs rm nu) (hi : i < 4) (h19 : h2[19]? = h[19]?) (K : ∀ q : Nat, 44 ≤ q → q < 52 → ¬ (44 + 2 * i ≤ q ∧ q < 44 + 2 * i + 2) → h2[q]? = h[q]?) (R : NumAt h2 (44 + 2 * i) sz so f) (hC : NC i sz so f rs' rm' nu') (h1 : ∀ j, j < 4 → j ≠ i → rs' j = rs j ∧ rm' j = rm j ∧ ∀ k, k < 40 → nu' (40 * j + k) = nu (40 * j + k)) : InvR h2 rs' rm' nu' := by
  obtain ⟨⟨ro, r1, r2⟩, b⟩ := H
  refine ⟨⟨ro, h19.trans r1, r2⟩, fun j hj => ?_⟩
  by_cases e : j = i
  · subst e
    exact ⟨sz, so, f, R, hC⟩
  · obtain ⟨sz', so', f', c1, c2⟩ := b j hj
    obtain ⟨x1, x2, x3⟩ := h1 j hj e
    refine ⟨sz', so', f', c1.fr (fun q a b => K q (by omega) (by omega) (by omega)), ?_⟩
    unfold NC at c2 ⊢
    rw [x1, x2]
    rcases c2 with z | ⟨n, y1, y2, y3, y4, y5, y6⟩
    · exact Or.inl z
    · exact Or.inr ⟨n, y1, y2, y3, y4, y5, fun k hk => by rw [y6 k hk, x3 k (by omega)]⟩
theorem ob40 (X : ai_X) : O40 X Inv := by
  intro a b c
  refine ob_gen fun m c' s h _ I => ?_
  obtain ⟨tp, T, A, im, rs, rm, nu, fk, fp, bb, hP⟩ := id I
  obtain ⟨hA, hB, hR, hI, hS, hO, hM, hV, hD, hc, hs⟩ := id hP
  obtain ⟨⟨v, mk, d52, -⟩, -⟩ := id hM
  have c77 := hM.2.2.2.2.1
  have c78 := hM.2.2.2.2.2.1
  have c79 := hM.2.2.2.2.2.2.1
  have d0 := hA.1
  obtain ⟨⟨ro, d19, hro⟩, RR⟩ := id hR
  have K : ∀ {W : Int32}, (∀ h2 : ai_H, h2[52]? = some (cMdl (upd v 0 (nI 0))) → (∀ q : Nat, q ≠ 52 → h2[q]? = h[q]?) → Rk X am_283 3 (ai_loc (ai_mL am_283) [.ref 52, .int a, .int b, .int c]) [] h2 (Qe W h2)) → Mt X am_283 [.ref 52, .int a, .int b, .int c] h (Qi (fun w h1 => w = W ∧ MdO h h1)) := fun z => md_thr rfl rfl rfl rfl d52 z
  by_cases ha : ¬ a < 0 ∧ ¬ nI 4 ≤ a
  · obtain ⟨i, hi, rfl⟩ := in_of (by omega) ha
    by_cases hb : ¬ b < 0 ∧ ¬ nI 4 ≤ b
    · obtain ⟨j, hj, rfl⟩ := in_of (by omega) hb
      by_cases hcn : ¬ c < 0 ∧ ¬ nI 40 < c
      · obtain ⟨n, hn, rfl⟩ := w40 hcn
        obtain ⟨sz, so, f, hNum, hC⟩ := RR i hi
        refine ⟨_, _, c173_v d0 d19 hro hi hNum hj hn, ?_⟩
        rintro h1 ⟨F1, f1, R1, hf1⟩ k1
        have e52 := (F1.2 52 (by omega)).trans d52
        refine ⟨⟨_, e52⟩, md_g rfl rfl rfl rfl e52 (fun h2 g2 hk hl => ?_)⟩
        refine (m283_v g2 ((hk _ (by omega)).trans ((F1.2 77 (by omega)).trans c77)) ((hk _ (by omega)).trans ((F1.2 78 (by omega)).trans c78)) ((hk _ (by omega)).trans ((F1.2 79 (by omega)).trans c79)) hi hn hj).mono ?_
        rintro o ⟨w, h3, rfl, rfl, F3, g77, g78, nv, g79, hnv⟩
        refine ⟨_, _, rfl, rfl, fun k2 => Inv.rows hP (k1.trans k2) (by rw [F3.1, hl, F1.1]) (fun q x y => (F3.2 q (by omega)).trans ((hk q (by omega)).trans (F1.2 q (by omega)))) ?_ (hR.one hi ((F3.2 19 (by omega)).trans ((hk 19 (by omega)).trans (F1.2 19 (by omega)))) (fun q x y z => (F3.2 q (by omega)).trans ((hk q (by omega)).trans (F1.2 q (by omega)))) (R1.fr (fun q _ _ => (F3.2 q (by omega)).trans (hk q (by omega)))) ?_ ?_) g77 g78 g79⟩
        · intro v' hv'
          rw [d52] at hv'
          obtain ⟨x1, x2, x3, x4⟩ := cMdl_inj (Option.some.inj hv')
          exact ⟨_, (F3.2 52 (by omega)).trans g2, x1, x2, x3, x4⟩
        · refine Or.inr ⟨n, hn, rfl, if_pos rfl, (if_pos rfl).symm, nI_4 hj, fun k hk => ?_⟩
          rw [hf1 k (by omega), hnv, if_pos (by omega)]
        · intro j' hj' hne
          refine ⟨if_neg hne, if_neg hne, fun k hk => ?_⟩
          rw [hnv, if_neg (by omega)]
      · exact og_pure I (c173_z d0 d19 hro hi hj hcn) (K fun h2 g2 hk => m283_z g2 hi hj hcn)
    · exact og_pure I (c173_y d0 d19 hro hi hb) (K fun h2 g2 hk => m283_y g2 hi hb)
  · exact og_pure I (c173_x d0 d19 hro ha) (K fun h2 g2 hk => m283_x g2 ha)
/-! write -/
theorem inc_46 : ai_inc ar_46 = true := by decide +kernel
/-- cut to a sort -/
def cutn (c : Nat) (v : Int64) : Int64 := if c = 0 then v.toInt32.toInt8.toInt32.toInt64 else if c = 1 then v.toInt32.toInt16.toInt32.toInt64 else if c = 2 then v.toInt32.toInt64 else v
theorem s46_0 {X : ai_X} {h : ai_H} {p : Nat} {sz : Int32} {x : Int64} (c0 : h[p]? = some (cNum p sz (nI 0))) : Mt X am_46 [.ref p, .long x] h (Ql (fun w h1 => w = cutn 0 x ∧ h1 = h)) := by
  refine rk_aload_n rfl rfl ?_
  refine rk_get rfl (by assumption) rfl ?_
  refine rk_sw_in (off := 28) (j := 3) rfl (by decide) rfl (ai_dw inc_46 rfl) rfl ?_
  refine rk_lload_n rfl rfl ?_
  refine rk_l2i rfl rfl ?_
  refine rk_i2b rfl rfl ?_
  refine rk_i2l rfl rfl ?_
  exact rk_lreturn rfl rfl ⟨_, _, rfl, rfl, rfl⟩
theorem s46_1 {X : ai_X} {h : ai_H} {p : Nat} {sz : Int32} {x : Int64} (c0 : h[p]? = some (cNum p sz (nI 1))) : Mt X am_46 [.ref p, .long x] h (Ql (fun w h1 => w = cutn 1 x ∧ h1 = h)) := by
  refine rk_aload_n rfl rfl ?_
  refine rk_get rfl (by assumption) rfl ?_
  refine rk_sw_in (off := 33) (j := 8) rfl (by decide) rfl (ai_dw inc_46 rfl) rfl ?_
  refine rk_lload_n rfl rfl ?_
  refine rk_l2i rfl rfl ?_
  refine rk_i2s rfl rfl ?_
  refine rk_i2l rfl rfl ?_
  exact rk_lreturn rfl rfl ⟨_, _, rfl, rfl, rfl⟩
theorem s46_2 {X : ai_X} {h : ai_H} {p : Nat} {sz : Int32} {x : Int64} (c0 : h[p]? = some (cNum p sz (nI 2))) : Mt X am_46 [.ref p, .long x] h (Ql (fun w h1 => w = cutn 2 x ∧ h1 = h)) := by
  refine rk_aload_n rfl rfl ?_
  refine rk_get rfl (by assumption) rfl ?_
  refine rk_sw_in (off := 38) (j := 13) rfl (by decide) rfl (ai_dw inc_46 rfl) rfl ?_
  refine rk_lload_n rfl rfl ?_
  refine rk_l2i rfl rfl ?_
  refine rk_i2l rfl rfl ?_
  exact rk_lreturn rfl rfl ⟨_, _, rfl, rfl, rfl⟩
theorem s46_3 {X : ai_X} {h : ai_H} {p : Nat} {sz : Int32} {x : Int64} (c0 : h[p]? = some (cNum p sz (nI 3))) : Mt X am_46 [.ref p, .long x] h (Ql (fun w h1 => w = cutn 3 x ∧ h1 = h)) := by
  refine rk_aload_n rfl rfl ?_
  refine rk_get rfl (by assumption) rfl ?_
  refine rk_sw_out (j := 17) rfl (by decide) (ai_dw inc_46 rfl) rfl ?_
  refine rk_lload_n rfl rfl ?_
  exact rk_lreturn rfl rfl ⟨_, _, rfl, rfl, rfl⟩
theorem s46 {X : ai_X} {h : ai_H} {p c : Nat} {sz : Int32} {x : Int64} (hc : c < 4) (c0 : h[p]? = some (cNum p sz (nI c))) : Mt X am_46 [.ref p, .long x] h (Ql (fun w h1 => w = cutn c x ∧ h1 = h)) := by
  rcases (show c = 0 ∨ c = 1 ∨ c = 2 ∨ c = 3 by omega) with rfl | rfl | rfl | rfl
  · exact s46_0 c0
  · exact s46_1 c0
  · exact s46_2 c0
  · exact s46_3 c0
theorem s45 {X : ai_X} {h : ai_H} {p c k : Nat} {sz : Int32} {x : Int64} {f : Nat → Int64} (R : NumAt h p sz (nI c) f) (hc : c < 4) (hk : k < 40) : Mt X am_45 [.ref p, .int (nI k), .long x] h (Ql (fun w h1 => w = cutn c x ∧ Fr p (p + 2) h h1 ∧ NumAt h1 p sz (nI c) (vp_updL f k (cutn c x)))) := by
  obtain ⟨c0, c1⟩ := id R
  have F0 : Fr p (p + 2) h h := Fr.rfl'
  refine rk_aload_n rfl rfl ?_
  refine rk_get rfl (by assumption) rfl ?_
  refine rk_iload_n rfl rfl ?_
  refine rk_aload_n rfl rfl ?_
  refine rk_lload_n rfl rfl ?_
  refine rk_cv1l rfl rfl (by assumption) rfl rfl (Nat.le_of_ble_eq_true rfl) (Nat.le_of_ble_eq_true rfl) (s46 hc c0) (fun w h1 hF => ?_)
  obtain ⟨rfl, rfl⟩ := hF
  refine rk_last rfl c1 (rfl) (by omega) (by decide) ?_
  refine hp_gen c1 (fun h1 g1 hk1 hl1 => ?_)
  replace c0 := (hk1 _ (by omega)).trans c0
  replace F0 := F0.tr (Fr.mk1 hk1 hl1 (by omega) (by omega))
  replace c1 := g1
  refine rk_aload_n rfl rfl ?_
  refine rk_get rfl (by assumption) rfl ?_
  refine rk_iload_n rfl rfl ?_
  refine rk_lald rfl (by assumption) (rfl) (by omega) (by decide) ?_
  exact rk_lreturn rfl rfl ⟨_, _, rfl, if_pos rfl, F0, c0, c1⟩
theorem c174_x {X : ai_X} {h : ai_H} {tp : Int32} {ro : Nat → Option Nat} (d0 : h[0]? = some (cOne tp)) (d19 : h[19]? = some (cR 3 4 ro)) (hro : ∀ i, i < 4 → ro i = some (44 + 2 * i)) {x : Int64} {a b : Int32} (ha : ¬ (¬ a < 0 ∧ ¬ nI 4 ≤ a)) : Mt X am_174 [.ref 0, .int a, .int b, .long x] h (Ql (fun w h1 => w = -2 ∧ h1 = h)) := by
  refine rk_aload_n rfl rfl ?_
  refine rk_iload_n rfl rfl ?_
  refine rk_cv1e rfl rfl (by assumption) rfl rfl (Nat.le_of_ble_eq_true rfl) (Nat.le_of_ble_eq_true rfl) (s179 _) ?_
  refine rk_if_ne rfl rfl (fun hc3 => ?_) (fun hc3 => ?_)
  · replace hc3 := Decidable.not_not.mp (mt bI_0.mpr hc3)
    exact absurd hc3 ha
  · replace hc3 := Decidable.not_not.mp hc3
    replace hc3 := (bI_0).mp hc3
    refine rk_ldc2 rfl ?_
    exact rk_lreturn rfl rfl ⟨_, _, rfl, rfl, rfl⟩
theorem c174_m {X : ai_X} {h : ai_H} {tp : Int32} {ro : Nat → Option Nat} (d0 : h[0]? = some (cOne tp)) (d19 : h[19]? = some (cR 3 4 ro)) (hro : ∀ i, i < 4 → ro i = some (44 + 2 * i)) {x : Int64} {i : Nat} {sz0 so0 : Int32} {f : Nat → Int64} (hi : i < 4) (R : NumAt h (44 + 2 * i) sz0 so0 f) {b : Int32} (hz : sz0 = -1) : Mt X am_174 [.ref 0, .int (nI i), .int b, .long x] h (Ql (fun w h1 => w = -6 ∧ h1 = h)) := by
  have rn := R.1
  refine rk_aload_n rfl rfl ?_
  refine rk_iload_n rfl rfl ?_
  refine rk_cv1e rfl rfl (by assumption) rfl rfl (Nat.le_of_ble_eq_true rfl) (Nat.le_of_ble_eq_true rfl) (s179 _) ?_
  refine rk_if_ne rfl rfl (fun hc3 => ?_) (fun hc3 => ?_)
  · replace hc3 := Decidable.not_not.mp (mt bI_0.mpr hc3)
    refine rk_aload_n rfl rfl ?_
    refine rk_get rfl (by assumption) rfl ?_
    refine rk_iload_n rfl rfl ?_
    refine rk_aald (w := .ref (44 + 2 * i)) rfl (by assumption) (by decide) rfl (by omega) (by decide) (by rw [hro i hi]; rfl) ?_
    refine rk_cv0e rfl rfl (by assumption) rfl rfl (Nat.le_of_ble_eq_true rfl) (Nat.le_of_ble_eq_true rfl) (s43 R) ?_
    refine rk_if_eq rfl rfl (fun hc11 => ?_) (fun hc11 => ?_)
    · replace hc11 := (bI_0).mp hc11
      exact absurd hz hc11
    · replace hc11 := Decidable.not_not.mp (mt bI_0.mpr hc11)
      refine rk_ldc2 rfl ?_
      exact rk_lreturn rfl rfl ⟨_, _, rfl, rfl, rfl⟩
  · replace hc3 := Decidable.not_not.mp hc3
    replace hc3 := (bI_0).mp hc3
    exact absurd (in_mk (by omega) hi) hc3
theorem c174_o {X : ai_X} {h : ai_H} {tp : Int32} {ro : Nat → Option Nat} (d0 : h[0]? = some (cOne tp)) (d19 : h[19]? = some (cR 3 4 ro)) (hro : ∀ i, i < 4 → ro i = some (44 + 2 * i)) {x : Int64} {i : Nat} {L : Nat} {so0 : Int32} {f : Nat → Int64} (hi : i < 4) (R : NumAt h (44 + 2 * i) (nI L) so0 f) (hL : L ≤ 40) {b : Int32} (hb : ¬ (¬ b < 0 ∧ ¬ nI L ≤ b)) : Mt X am_174 [.ref 0, .int (nI i), .int b, .long x] h (Ql (fun w h1 => w = -7 ∧ h1 = h)) := by
  have rn := R.1
  refine rk_aload_n rfl rfl ?_
  refine rk_iload_n rfl rfl ?_
  refine rk_cv1e rfl rfl (by assumption) rfl rfl (Nat.le_of_ble_eq_true rfl) (Nat.le_of_ble_eq_true rfl) (s179 _) ?_
  refine rk_if_ne rfl rfl (fun hc3 => ?_) (fun hc3 => ?_)
  · replace hc3 := Decidable.not_not.mp (mt bI_0.mpr hc3)
    refine rk_aload_n rfl rfl ?_
    refine rk_get rfl (by assumption) rfl ?_
    refine rk_iload_n rfl rfl ?_
    refine rk_aald (w := .ref (44 + 2 * i)) rfl (by assumption) (by decide) rfl (by omega) (by decide) (by rw [hro i hi]; rfl) ?_
    refine rk_cv0e rfl rfl (by assumption) rfl rfl (Nat.le_of_ble_eq_true rfl) (Nat.le_of_ble_eq_true rfl) (s43 R) ?_
    refine rk_if_eq rfl rfl (fun hc11 => ?_) (fun hc11 => ?_)
    · replace hc11 := (bI_0).mp hc11
      refine rk_iload_n rfl rfl ?_
      refine rk_if_lt rfl rfl (fun hc15 => ?_) (fun hc15 => ?_)
      · refine rk_ldc2 rfl ?_
        refine rk_goto rfl rfl ?_
        exact rk_lreturn rfl rfl ⟨_, _, rfl, rfl, rfl⟩
      · refine rk_iload_n rfl rfl ?_
        refine rk_aload_n rfl rfl ?_
        refine rk_get rfl (by assumption) rfl ?_
        refine rk_iload_n rfl rfl ?_
        refine rk_aald (w := .ref (44 + 2 * i)) rfl (by assumption) (by decide) rfl (by omega) (by decide) (by rw [hro i hi]; rfl) ?_
        refine rk_get rfl (by assumption) rfl ?_
        refine rk_icmp_lt rfl rfl (fun hc22 => ?_) (fun hc22 => ?_)
        · exact absurd ⟨hc15, fun z => i32_le.mp z hc22⟩ hb
        · refine rk_ldc2 rfl ?_
          refine rk_goto rfl rfl ?_
          exact rk_lreturn rfl rfl ⟨_, _, rfl, rfl, rfl⟩
    · replace hc11 := Decidable.not_not.mp (mt bI_0.mpr hc11)
      exact absurd hc11 (nm_eq (by omega))
  · replace hc3 := Decidable.not_not.mp hc3
    replace hc3 := (bI_0).mp hc3
    exact absurd (in_mk (by omega) hi) hc3
theorem c174_v {X : ai_X} {h : ai_H} {tp : Int32} {ro : Nat → Option Nat} (d0 : h[0]? = some (cOne tp)) (d19 : h[19]? = some (cR 3 4 ro)) (hro : ∀ i, i < 4 → ro i = some (44 + 2 * i)) {x : Int64} {i : Nat} {L : Nat} {c k : Nat} {f : Nat → Int64} (hi : i < 4) (R : NumAt h (44 + 2 * i) (nI L) (nI c) f) (hL : L ≤ 40) (hc : c < 4) (hk : k < L) : Mt X am_174 [.ref 0, .int (nI i), .int (nI k), .long x] h (Ql (fun w h1 => w = cutn c x ∧ Fr (44 + 2 * i) (44 + 2 * i + 2) h h1 ∧ NumAt h1 (44 + 2 * i) (nI L) (nI c) (vp_updL f k (cutn c x)))) := by
  have rn := R.1
  refine rk_aload_n rfl rfl ?_
  refine rk_iload_n rfl rfl ?_
  refine rk_cv1e rfl rfl (by assumption) rfl rfl (Nat.le_of_ble_eq_true rfl) (Nat.le_of_ble_eq_true rfl) (s179 _) ?_
  refine rk_if_ne rfl rfl (fun hc3 => ?_) (fun hc3 => ?_)
  · replace hc3 := Decidable.not_not.mp (mt bI_0.mpr hc3)
    refine rk_aload_n rfl rfl ?_
    refine rk_get rfl (by assumption) rfl ?_
    refine rk_iload_n rfl rfl ?_
    refine rk_aald (w := .ref (44 + 2 * i)) rfl (by assumption) (by decide) rfl (by omega) (by decide) (by rw [hro i hi]; rfl) ?_
    refine rk_cv0e rfl rfl (by assumption) rfl rfl (Nat.le_of_ble_eq_true rfl) (Nat.le_of_ble_eq_true rfl) (s43 R) ?_
    refine rk_if_eq rfl rfl (fun hc11 => ?_) (fun hc11 => ?_)
    · replace hc11 := (bI_0).mp hc11
      refine rk_iload_n rfl rfl ?_
      refine rk_if_lt rfl rfl (fun hc15 => ?_) (fun hc15 => ?_)
      · replace hc15 := (n0_lt (by omega)).mp hc15
        exact hc15.elim
      · replace hc15 := mt (n0_lt (by omega)).mpr hc15
        refine rk_iload_n rfl rfl ?_
        refine rk_aload_n rfl rfl ?_
        refine rk_get rfl (by assumption) rfl ?_
        refine rk_iload_n rfl rfl ?_
        refine rk_aald (w := .ref (44 + 2 * i)) rfl (by assumption) (by decide) rfl (by omega) (by decide) (by rw [hro i hi]; rfl) ?_
        refine rk_get rfl (by assumption) rfl ?_
        refine rk_icmp_lt rfl rfl (fun hc22 => ?_) (fun hc22 => ?_)
        · replace hc22 := (nI_ltI (by omega) (by omega)).mp hc22
          refine rk_aload_n rfl rfl ?_
          refine rk_get rfl (by assumption) rfl ?_
          refine rk_iload_n rfl rfl ?_
          refine rk_aald (w := .ref (44 + 2 * i)) rfl (by assumption) (by decide) rfl (by omega) (by decide) (by rw [hro i hi]; rfl) ?_
          refine rk_iload_n rfl rfl ?_
          refine rk_lload_n rfl rfl ?_
          refine rk_cv2l rfl rfl (by assumption) rfl rfl (Nat.le_of_ble_eq_true rfl) (Nat.le_of_ble_eq_true rfl) (s45 R hc (by omega)) (fun w h1 hF => ?_)
          exact rk_lreturn rfl rfl ⟨_, _, rfl, hF⟩
        · replace hc22 := mt (nI_ltI (by omega) (by omega)).mpr hc22
          omega
    · replace hc11 := Decidable.not_not.mp (mt bI_0.mpr hc11)
      exact absurd hc11 (nm_eq (by omega))
  · replace hc3 := Decidable.not_not.mp hc3
    replace hc3 := (bI_0).mp hc3
    exact absurd (in_mk (by omega) hi) hc3
theorem s282 {X : ai_X} {h : ai_H} {c : Nat} {x : Int64} (hc : c < 4) : Mt X am_282 [.long x, .int (nI c)] h (Ql (fun w h1 => w = cutn c x ∧ h1 = h)) := by
  refine rk_iload_n rfl rfl ?_
  refine rk_if_ne rfl rfl (fun hc1 => ?_) (fun hc1 => ?_)
  · replace hc1 := mt (n0_eq (by omega)).mpr hc1
    refine rk_iload_n rfl rfl ?_
    refine rk_iconst (v := nI 1) rfl (by decide) ?_
    refine rk_icmp_ne rfl rfl (fun hc9 => ?_) (fun hc9 => ?_)
    · replace hc9 := mt (nI_eq (by omega) (by omega)).mpr hc9
      refine rk_iload_n rfl rfl ?_
      refine rk_iconst (v := nI 2) rfl (by decide) ?_
      refine rk_icmp_ne rfl rfl (fun hc17 => ?_) (fun hc17 => ?_)
      · replace hc17 := mt (nI_eq (by omega) (by omega)).mpr hc17
        refine rk_lload_n rfl rfl ?_
        exact rk_lreturn rfl rfl ⟨_, _, rfl, by unfold cutn; first | rw [if_pos (by omega)] | rw [if_neg (by omega), if_pos (by omega)] | rw [if_neg (by omega), if_neg (by omega), if_pos (by omega)] | rw [if_neg (by omega), if_neg (by omega), if_neg (by omega)], rfl⟩
      · replace hc17 := Decidable.not_not.mp hc17
        replace hc17 := (nI_eq (by omega) (by omega)).mp hc17
        refine rk_lload_n rfl rfl ?_
        refine rk_l2i rfl rfl ?_
        refine rk_i2l rfl rfl ?_
        refine rk_goto rfl rfl ?_
        exact rk_lreturn rfl rfl ⟨_, _, rfl, by unfold cutn; first | rw [if_pos (by omega)] | rw [if_neg (by omega), if_pos (by omega)] | rw [if_neg (by omega), if_neg (by omega), if_pos (by omega)] | rw [if_neg (by omega), if_neg (by omega), if_neg (by omega)], rfl⟩
    · replace hc9 := Decidable.not_not.mp hc9
      replace hc9 := (nI_eq (by omega) (by omega)).mp hc9
      refine rk_lload_n rfl rfl ?_
      refine rk_l2i rfl rfl ?_
      refine rk_i2s rfl rfl ?_
      refine rk_i2l rfl rfl ?_
      refine rk_goto rfl rfl ?_
      exact rk_lreturn rfl rfl ⟨_, _, rfl, by unfold cutn; first | rw [if_pos (by omega)] | rw [if_neg (by omega), if_pos (by omega)] | rw [if_neg (by omega), if_neg (by omega), if_pos (by omega)] | rw [if_neg (by omega), if_neg (by omega), if_neg (by omega)], rfl⟩
  · replace hc1 := Decidable.not_not.mp hc1
    replace hc1 := (n0_eq (by omega)).mp hc1
    refine rk_lload_n rfl rfl ?_
    refine rk_l2i rfl rfl ?_
    refine rk_i2b rfl rfl ?_
    refine rk_i2l rfl rfl ?_
    refine rk_goto rfl rfl ?_
    exact rk_lreturn rfl rfl ⟨_, _, rfl, by unfold cutn; first | rw [if_pos (by omega)] | rw [if_neg (by omega), if_pos (by omega)] | rw [if_neg (by omega), if_neg (by omega), if_pos (by omega)] | rw [if_neg (by omega), if_neg (by omega), if_neg (by omega)], rfl⟩
theorem m284_x {X : ai_X} {h : ai_H} {v : Nat → Int32} {x : Int64} (c0 : h[52]? = some (cMdl v)) {a b : Int32} (ha : ¬ (¬ a < 0 ∧ ¬ nI 4 ≤ a)) : Rk X am_284 3 (ai_loc (ai_mL am_284) [.ref 52, .int a, .int b, .long x]) [] h (Ql (fun w h1 => w = -2 ∧ h1 = h)) := by
  refine rk_iload_n rfl rfl ?_
  refine rk_i2l rfl rfl ?_
  refine rk_lconst (v := 0) rfl (by decide) ?_
  rw [show (0 : Int64) = (0 : Int32).toInt64 by decide]
  refine rk_ldc2 rfl ?_
  rw [show (3 : Int64) = (nI 3).toInt64 by decide]
  refine rk_cs3e rfl rfl rfl (Nat.le_of_ble_eq_true rfl) (Nat.le_of_ble_eq_true rfl) (s181 _ _ _) ?_
  refine rk_if_ne rfl rfl (fun hc8 => ?_) (fun hc8 => ?_)
  · replace hc8 := Decidable.not_not.mp (mt bI_0.mpr hc8)
    exact absurd (in34.mp hc8) ha
  · replace hc8 := Decidable.not_not.mp hc8
    replace hc8 := (bI_0).mp hc8
    refine rk_ldc2 rfl ?_
    exact rk_lreturn rfl rfl ⟨_, _, rfl, rfl, rfl⟩
theorem m284_m {X : ai_X} {h : ai_H} {v : Nat → Int32} {x : Int64} (c0 : h[52]? = some (cMdl v)) {rs rm : Nat → Int32} {nu : Nat → Int64} {i : Nat} (c77 : h[77]? = some (cI 4 rs)) (c78 : h[78]? = some (cI 4 rm)) (c79 : h[79]? = some (cJ 160 nu)) (hi : i < 4) {b : Int32} (hz : rs i = -1) : Rk X am_284 3 (ai_loc (ai_mL am_284) [.ref 52, .int (nI i), .int b, .long x]) [] h (Ql (fun w h1 => w = -6 ∧ h1 = h)) := by
  refine rk_iload_n rfl rfl ?_
  refine rk_i2l rfl rfl ?_
  refine rk_lconst (v := 0) rfl (by decide) ?_
  rw [show (0 : Int64) = (0 : Int32).toInt64 by decide]
  refine rk_ldc2 rfl ?_
  rw [show (3 : Int64) = (nI 3).toInt64 by decide]
  refine rk_cs3e rfl rfl rfl (Nat.le_of_ble_eq_true rfl) (Nat.le_of_ble_eq_true rfl) (s181 _ _ _) ?_
  refine rk_if_ne rfl rfl (fun hc8 => ?_) (fun hc8 => ?_)
  · replace hc8 := Decidable.not_not.mp (mt bI_0.mpr hc8)
    refine rk_aload_n rfl rfl ?_
    refine rk_get rfl (by assumption) rfl ?_
    refine rk_iload_n rfl rfl ?_
    refine rk_iald rfl (by assumption) (rfl) (by omega) (by decide) ?_
    refine rk_iconst (v := (-1)) rfl (by decide) ?_
    refine rk_icmp_ne rfl rfl (fun hc16 => ?_) (fun hc16 => ?_)
    · exact absurd hz hc16
    · replace hc16 := Decidable.not_not.mp hc16
      refine rk_ldc2 rfl ?_
      exact rk_lreturn rfl rfl ⟨_, _, rfl, rfl, rfl⟩
  · replace hc8 := Decidable.not_not.mp hc8
    replace hc8 := (bI_0).mp hc8
    exact absurd (in3_mk hi) hc8
theorem m284_o {X : ai_X} {h : ai_H} {v : Nat → Int32} {x : Int64} (c0 : h[52]? = some (cMdl v)) {rs rm : Nat → Int32} {nu : Nat → Int64} {i : Nat} (c77 : h[77]? = some (cI 4 rs)) (c78 : h[78]? = some (cI 4 rm)) (c79 : h[79]? = some (cJ 160 nu)) (hi : i < 4) {b : Int32} {L : Nat} (hz : ¬ rs i = -1) (hm : rm i = nI L) (hL : L ≤ 40) (hb : ¬ (¬ b < 0 ∧ ¬ nI L ≤ b)) : Rk X am_284 3 (ai_loc (ai_mL am_284) [.ref 52, .int (nI i), .int b, .long x]) [] h (Ql (fun w h1 => w = -7 ∧ h1 = h)) := by
  refine rk_iload_n rfl rfl ?_
  refine rk_i2l rfl rfl ?_
  refine rk_lconst (v := 0) rfl (by decide) ?_
  rw [show (0 : Int64) = (0 : Int32).toInt64 by decide]
  refine rk_ldc2 rfl ?_
  rw [show (3 : Int64) = (nI 3).toInt64 by decide]
  refine rk_cs3e rfl rfl rfl (Nat.le_of_ble_eq_true rfl) (Nat.le_of_ble_eq_true rfl) (s181 _ _ _) ?_
  refine rk_if_ne rfl rfl (fun hc8 => ?_) (fun hc8 => ?_)
  · replace hc8 := Decidable.not_not.mp (mt bI_0.mpr hc8)
    refine rk_aload_n rfl rfl ?_
    refine rk_get rfl (by assumption) rfl ?_
    refine rk_iload_n rfl rfl ?_
    refine rk_iald rfl (by assumption) (rfl) (by omega) (by decide) ?_
    refine rk_iconst (v := (-1)) rfl (by decide) ?_
    refine rk_icmp_ne rfl rfl (fun hc16 => ?_) (fun hc16 => ?_)
    · refine rk_iload_n rfl rfl ?_
      refine rk_i2l rfl rfl ?_
      refine rk_lconst (v := 0) rfl (by decide) ?_
      rw [show (0 : Int64) = (0 : Int32).toInt64 by decide]
      refine rk_aload_n rfl rfl ?_
      refine rk_get rfl (by assumption) rfl ?_
      refine rk_iload_n rfl rfl ?_
      refine rk_iald rfl (by assumption) (rfl) (by omega) (by decide) ?_
      refine rk_iconst (v := nI 1) rfl (by decide) ?_
      refine rk_isub rfl rfl ?_
      refine rk_i2l rfl rfl ?_
      refine rk_cs3e rfl rfl rfl (Nat.le_of_ble_eq_true rfl) (Nat.le_of_ble_eq_true rfl) (s181 _ _ _) ?_
      refine rk_if_ne rfl rfl (fun hc30 => ?_) (fun hc30 => ?_)
      · replace hc30 := Decidable.not_not.mp (mt bI_0.mpr hc30)
        rw [hm] at hc30
        exact absurd ((in_iff (by omega)).mp hc30) hb
      · replace hc30 := Decidable.not_not.mp hc30
        replace hc30 := (bI_0).mp hc30
        refine rk_ldc2 rfl ?_
        exact rk_lreturn rfl rfl ⟨_, _, rfl, rfl, rfl⟩
    · replace hc16 := Decidable.not_not.mp hc16
      exact absurd hc16 hz
  · replace hc8 := Decidable.not_not.mp hc8
    replace hc8 := (bI_0).mp hc8
    exact absurd (in3_mk hi) hc8
theorem m284_v {X : ai_X} {h : ai_H} {v : Nat → Int32} {x : Int64} (c0 : h[52]? = some (cMdl v)) {rs rm : Nat → Int32} {nu : Nat → Int64} {i : Nat} (c77 : h[77]? = some (cI 4 rs)) (c78 : h[78]? = some (cI 4 rm)) (c79 : h[79]? = some (cJ 160 nu)) (hi : i < 4) {L c k : Nat} (hz : ¬ rs i = -1) (hm : rm i = nI L) (hL : L ≤ 40) (hk : k < L) (hs : rs i = nI c) (hc : c < 4) : Rk X am_284 3 (ai_loc (ai_mL am_284) [.ref 52, .int (nI i), .int (nI k), .long x]) [] h (Ql (fun w h1 => w = cutn c x ∧ Fr 79 80 h h1 ∧ h1[79]? = some (cJ 160 (vp_updL nu (40 * i + k) (cutn c x))))) := by
  have F0 : Fr 79 80 h h := Fr.rfl'
  refine rk_iload_n rfl rfl ?_
  refine rk_i2l rfl rfl ?_
  refine rk_lconst (v := 0) rfl (by decide) ?_
  rw [show (0 : Int64) = (0 : Int32).toInt64 by decide]
  refine rk_ldc2 rfl ?_
  rw [show (3 : Int64) = (nI 3).toInt64 by decide]
  refine rk_cs3e rfl rfl rfl (Nat.le_of_ble_eq_true rfl) (Nat.le_of_ble_eq_true rfl) (s181 _ _ _) ?_
  refine rk_if_ne rfl rfl (fun hc8 => ?_) (fun hc8 => ?_)
  · replace hc8 := Decidable.not_not.mp (mt bI_0.mpr hc8)
    refine rk_aload_n rfl rfl ?_
    refine rk_get rfl (by assumption) rfl ?_
    refine rk_iload_n rfl rfl ?_
    refine rk_iald rfl (by assumption) (rfl) (by omega) (by decide) ?_
    refine rk_iconst (v := (-1)) rfl (by decide) ?_
    refine rk_icmp_ne rfl rfl (fun hc16 => ?_) (fun hc16 => ?_)
    · refine rk_iload_n rfl rfl ?_
      refine rk_i2l rfl rfl ?_
      refine rk_lconst (v := 0) rfl (by decide) ?_
      rw [show (0 : Int64) = (0 : Int32).toInt64 by decide]
      refine rk_aload_n rfl rfl ?_
      refine rk_get rfl (by assumption) rfl ?_
      refine rk_iload_n rfl rfl ?_
      refine rk_iald rfl (by assumption) (rfl) (by omega) (by decide) ?_
      refine rk_iconst (v := nI 1) rfl (by decide) ?_
      refine rk_isub rfl rfl ?_
      refine rk_i2l rfl rfl ?_
      refine rk_cs3e rfl rfl rfl (Nat.le_of_ble_eq_true rfl) (Nat.le_of_ble_eq_true rfl) (s181 _ _ _) ?_
      refine rk_if_ne rfl rfl (fun hc30 => ?_) (fun hc30 => ?_)
      · replace hc30 := Decidable.not_not.mp (mt bI_0.mpr hc30)
        refine rk_aload_n rfl rfl ?_
        refine rk_get rfl (by assumption) rfl ?_
        refine rk_bipush (v := nI 40) rfl (by decide) ?_
        refine rk_iload_n rfl rfl ?_
        refine rk_imul rfl (pk_mul _ _) ?_
        refine rk_iload_n rfl rfl ?_
        refine rk_iadd rfl (nI_add _ _) ?_
        refine rk_lload_n rfl rfl ?_
        refine rk_aload_n rfl rfl ?_
        refine rk_get rfl (by assumption) rfl ?_
        refine rk_iload_n rfl rfl ?_
        refine rk_iald rfl (by assumption) (rfl) (by omega) (by decide) ?_
        rw [hs]
        refine rk_cs2l rfl rfl rfl (Nat.le_of_ble_eq_true rfl) (Nat.le_of_ble_eq_true rfl) (s282 hc) (fun w h1 hF => ?_)
        obtain ⟨rfl, rfl⟩ := hF
        refine rk_last rfl c79 (rfl) (by omega) (by decide) ?_
        refine hp_gen c79 (fun h1 g1 hk1 hl1 => ?_)
        replace c0 := (hk1 _ (by omega)).trans c0
        replace F0 := F0.tr (Fr.mk1 hk1 hl1 (by omega) (by omega))
        replace c79 := g1
        refine rk_aload_n rfl rfl ?_
        refine rk_get rfl (by assumption) rfl ?_
        refine rk_bipush (v := nI 40) rfl (by decide) ?_
        refine rk_iload_n rfl rfl ?_
        refine rk_imul rfl (pk_mul _ _) ?_
        refine rk_iload_n rfl rfl ?_
        refine rk_iadd rfl (nI_add _ _) ?_
        refine rk_lald rfl (by assumption) (rfl) (by omega) (by decide) ?_
        exact rk_lreturn rfl rfl ⟨_, _, rfl, if_pos rfl, F0, c79⟩
      · replace hc30 := Decidable.not_not.mp hc30
        replace hc30 := (bI_0).mp hc30
        rw [hm] at hc30
        exact absurd ((in_iff (by omega)).mpr (in_mk (by omega) hk)) hc30
    · replace hc16 := Decidable.not_not.mp hc16
      exact absurd hc16 hz
  · replace hc8 := Decidable.not_not.mp hc8
    replace hc8 := (bI_0).mp hc8
    exact absurd (in3_mk hi) hc8
theorem ob41 (X : ai_X) : O41 X Inv := by
  intro a b x
  refine obL_gen fun m c' s h _ I => ?_
  obtain ⟨tp, T, A, im, rs, rm, nu, fk, fp, bb, hP⟩ := id I
  obtain ⟨hA, hB, hR, hI, hS, hO, hM, hV, hD, hc, hs⟩ := id hP
  obtain ⟨⟨v, mk, d52, -⟩, -⟩ := id hM
  have c77 := hM.2.2.2.2.1
  have c78 := hM.2.2.2.2.2.1
  have c79 := hM.2.2.2.2.2.2.1
  have d0 := hA.1
  obtain ⟨⟨ro, d19, hro⟩, RR⟩ := id hR
  have K : ∀ {W : Int64}, (∀ h2 : ai_H, h2[52]? = some (cMdl (upd v 0 (nI 0))) → (∀ q : Nat, q ≠ 52 → h2[q]? = h[q]?) → Rk X am_284 3 (ai_loc (ai_mL am_284) [.ref 52, .int a, .int b, .long x]) [] h2 (Ql (fun w h1 => w = W ∧ h1 = h2))) → Mt X am_284 [.ref 52, .int a, .int b, .long x] h (Ql (fun w h1 => w = W ∧ MdO h h1)) := fun z => md_thrL rfl rfl rfl rfl d52 z
  by_cases ha : ¬ a < 0 ∧ ¬ nI 4 ≤ a
  · obtain ⟨i, hi, rfl⟩ := in_of (by omega) ha
    obtain ⟨sz, so, f, hNum, hC⟩ := RR i hi
    rcases hC with ⟨z1, rfl, -⟩ | ⟨n, hn, rfl, hm, hs, h4, hf⟩
    · exact ogL_pure I (c174_m d0 d19 hro hi hNum rfl) (K fun h2 g2 hk => m284_m g2 ((hk _ (by omega)).trans c77) ((hk _ (by omega)).trans c78) ((hk _ (by omega)).trans c79) hi z1)
    · have hne := rs_ne hs h4
      obtain ⟨c, hc4, rfl⟩ : ∃ c, c < 4 ∧ so = nI c := by
        rcases h4 with rfl | rfl | rfl | rfl
        · exact ⟨0, by omega, rfl⟩
        · exact ⟨1, by omega, rfl⟩
        · exact ⟨2, by omega, rfl⟩
        · exact ⟨3, by omega, rfl⟩
      by_cases hb : ¬ b < 0 ∧ ¬ nI n ≤ b
      · obtain ⟨k, hkn, rfl⟩ := in_of (by omega) hb
        refine ⟨_, _, c174_v d0 d19 hro hi hNum hn hc4 hkn, ?_⟩
        rintro h1 ⟨F1, R1⟩ k1
        have e52 := (F1.2 52 (by omega)).trans d52
        refine ⟨⟨_, e52⟩, md_g rfl rfl rfl rfl e52 (fun h2 g2 hk hl => ?_)⟩
        have e77 := (hk 77 (by omega)).trans ((F1.2 77 (by omega)).trans c77)
        have e78 := (hk 78 (by omega)).trans ((F1.2 78 (by omega)).trans c78)
        refine (m284_v g2 e77 e78 ((hk _ (by omega)).trans ((F1.2 79 (by omega)).trans c79)) hi hne hm hn hkn hs.symm hc4).mono ?_
        rintro o ⟨w, h3, rfl, rfl, F3, g79⟩
        refine ⟨_, _, rfl, rfl, fun k2 => Inv.rows hP (k1.trans k2) (by rw [F3.1, hl, F1.1]) (fun q x y => (F3.2 q (by omega)).trans ((hk q (by omega)).trans (F1.2 q (by omega)))) ?_ (hR.one hi ((F3.2 19 (by omega)).trans ((hk 19 (by omega)).trans (F1.2 19 (by omega)))) (fun q x y z => (F3.2 q (by omega)).trans ((hk q (by omega)).trans (F1.2 q (by omega)))) (R1.fr (fun q _ _ => (F3.2 q (by omega)).trans (hk q (by omega)))) ?_ ?_) ((F3.2 77 (by omega)).trans e77) ((F3.2 78 (by omega)).trans e78) g79⟩
        · intro v' hv'
          rw [d52] at hv'
          obtain ⟨x1, x2, x3, x4⟩ := cMdl_inj (Option.some.inj hv')
          exact ⟨_, (F3.2 52 (by omega)).trans g2, x1, x2, x3, x4⟩
        · refine Or.inr ⟨n, hn, rfl, hm, hs, h4, fun j hj => ?_⟩
          simp only [vp_updL]
          by_cases e : j = k
          · rw [if_pos e, if_pos (by omega)]
          · rw [if_neg e, if_neg (by omega)]; exact hf j hj
        · intro j' hj' hne
          refine ⟨rfl, rfl, fun k' hk' => ?_⟩
          simp only [vp_updL]
          rw [if_neg (by omega)]
      · exact ogL_pure I (c174_o d0 d19 hro hi hNum hn hb) (K fun h2 g2 hk => m284_o g2 ((hk _ (by omega)).trans c77) ((hk _ (by omega)).trans c78) ((hk _ (by omega)).trans c79) hi hne hm hn hb)
  · exact ogL_pure I (c174_x d0 d19 hro ha) (K fun h2 g2 hk => m284_x g2 ha)
