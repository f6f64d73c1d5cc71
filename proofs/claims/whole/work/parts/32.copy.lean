/-! OBLIGATIONS copy, feed -/
/-- the row that was found, in natural numbers -/
theorem found_nat {h : ai_H} {A f : Nat → Int32} {n : Int32} {t : Nat} (ht : t ≤ 6) (R : RouteAt h 15 n f) (C : FC n f A 0) (V : FV A 0 t) : (n = -1 ∧ A 281 = -1) ∨ ∃ L y, L ≤ 500 ∧ n = nI L ∧ A 281 = nI L ∧ RtAt h 15 L y ∧ ∀ k, k < L → y k < t ∧ A (282 + k) = nI (y k) := by
  obtain ⟨c1, c2⟩ := C
  simp only [Nat.zero_add] at c1 c2
  rcases V with v | ⟨L, hL, v1, v2⟩
  · rw [Nat.zero_add] at v
    exact Or.inl ⟨c1.trans v, v⟩
  · simp only [Nat.zero_add] at v1 v2
    have hy : ∀ k, k < L → (A (282 + k)).toNatClampNeg < t ∧ A (282 + k) = nI (A (282 + k)).toNatClampNeg := by
      intro k hk
      obtain ⟨x, hx, ex⟩ := v2 k hk
      rw [ex, cl_nI (by omega)]
      exact ⟨hx, rfl⟩
    refine Or.inr ⟨L, fun k => (A (282 + k)).toNatClampNeg, hL, c1.trans v1, v1, ⟨f, by rw [← v1, ← c1]; exact R, fun k hk => ?_⟩, hy⟩
    rw [c2 k (by rw [v1, cl_nI (by omega)]; exact hk)]
    exact (hy k hk).2
theorem cut_sm {c x : Nat} (hx : x < 6) : cutn c (nI x).toInt64 = (nI x).toInt64 := by
  unfold cutn
  rcases (show x = 0 ∨ x = 1 ∨ x = 2 ∨ x = 3 ∨ x = 4 ∨ x = 5 by omega) with rfl | rfl | rfl | rfl | rfl | rfl <;> (split; · decide) <;> (split; · decide) <;> (split; · decide) <;> rfl
theorem c175_x {X : ai_X} {h : ai_H} {tp : Int32} {ro : Nat → Option Nat} {n15 : Int32} {f15 : Nat → Int32} (d0 : h[0]? = some (cOne tp)) (d19 : h[19]? = some (cR 3 4 ro)) (hro : ∀ i, i < 4 → ro i = some (44 + 2 * i)) (Q : RouteAt h 15 n15 f15) {a : Int32} (ha : ¬ (¬ a < 0 ∧ ¬ nI 4 ≤ a)) : Mt X am_175 [.ref 0, .int a] h (Qe (-2) h) := by
  have q0 := Q.1
  refine rk_aload_n rfl rfl ?_
  refine rk_iload_n rfl rfl ?_
  refine rk_cv1e rfl rfl (by assumption) rfl rfl (Nat.le_of_ble_eq_true rfl) (Nat.le_of_ble_eq_true rfl) (s179 _) ?_
  refine rk_if_ne rfl rfl (fun hc3 => ?_) (fun hc3 => ?_)
  · replace hc3 := Decidable.not_not.mp (mt bI_0.mpr hc3)
    exact absurd hc3 ha
  · replace hc3 := Decidable.not_not.mp hc3
    replace hc3 := (bI_0).mp hc3
    refine rk_bipush (v := (-2)) rfl (by decide) ?_
    exact rk_ireturn rfl rfl Qe_mk
theorem c175_n {X : ai_X} {h : ai_H} {tp : Int32} {ro : Nat → Option Nat} {n15 : Int32} {f15 : Nat → Int32} (d0 : h[0]? = some (cOne tp)) (d19 : h[19]? = some (cR 3 4 ro)) (hro : ∀ i, i < 4 → ro i = some (44 + 2 * i)) (Q : RouteAt h 15 n15 f15) {i : Nat} (hi : i < 4) (hn : n15 = -1) : Mt X am_175 [.ref 0, .int (nI i)] h (Qe (-5) h) := by
  have q0 := Q.1
  refine rk_aload_n rfl rfl ?_
  refine rk_iload_n rfl rfl ?_
  refine rk_cv1e rfl rfl (by assumption) rfl rfl (Nat.le_of_ble_eq_true rfl) (Nat.le_of_ble_eq_true rfl) (s179 _) ?_
  refine rk_if_ne rfl rfl (fun hc3 => ?_) (fun hc3 => ?_)
  · replace hc3 := Decidable.not_not.mp (mt bI_0.mpr hc3)
    refine rk_aload_n rfl rfl ?_
    refine rk_get rfl (by assumption) rfl ?_
    refine rk_get rfl (by assumption) rfl ?_
    refine rk_iconst (v := (-1)) rfl (by decide) ?_
    refine rk_icmp_ne rfl rfl (fun hc10 => ?_) (fun hc10 => ?_)
    · exact absurd hn hc10
    · replace hc10 := Decidable.not_not.mp hc10
      refine rk_bipush (v := (-5)) rfl (by decide) ?_
      exact rk_ireturn rfl rfl Qe_mk
  · replace hc3 := Decidable.not_not.mp hc3
    replace hc3 := (bI_0).mp hc3
    exact absurd (in_mk (by omega) hi) hc3
theorem c175_m {X : ai_X} {h : ai_H} {tp : Int32} {ro : Nat → Option Nat} {n15 : Int32} {f15 : Nat → Int32} (d0 : h[0]? = some (cOne tp)) (d19 : h[19]? = some (cR 3 4 ro)) (hro : ∀ i, i < 4 → ro i = some (44 + 2 * i)) (Q : RouteAt h 15 n15 f15) {i : Nat} {sz0 so0 : Int32} {f : Nat → Int64} (hi : i < 4) (R : NumAt h (44 + 2 * i) sz0 so0 f) (hn : ¬ n15 = -1) (hz : sz0 = -1) : Mt X am_175 [.ref 0, .int (nI i)] h (Qe (-6) h) := by
  have q0 := Q.1
  have rn := R.1
  refine rk_aload_n rfl rfl ?_
  refine rk_iload_n rfl rfl ?_
  refine rk_cv1e rfl rfl (by assumption) rfl rfl (Nat.le_of_ble_eq_true rfl) (Nat.le_of_ble_eq_true rfl) (s179 _) ?_
  refine rk_if_ne rfl rfl (fun hc3 => ?_) (fun hc3 => ?_)
  · replace hc3 := Decidable.not_not.mp (mt bI_0.mpr hc3)
    refine rk_aload_n rfl rfl ?_
    refine rk_get rfl (by assumption) rfl ?_
    refine rk_get rfl (by assumption) rfl ?_
    refine rk_iconst (v := (-1)) rfl (by decide) ?_
    refine rk_icmp_ne rfl rfl (fun hc10 => ?_) (fun hc10 => ?_)
    · refine rk_aload_n rfl rfl ?_
      refine rk_get rfl (by assumption) rfl ?_
      refine rk_iload_n rfl rfl ?_
      refine rk_aald (w := .ref (44 + 2 * i)) rfl (by assumption) (by decide) rfl (by omega) (by decide) (by rw [hro i hi]; rfl) ?_
      refine rk_cv0e rfl rfl (by assumption) rfl rfl (Nat.le_of_ble_eq_true rfl) (Nat.le_of_ble_eq_true rfl) (s43 R) ?_
      refine rk_if_eq rfl rfl (fun hc18 => ?_) (fun hc18 => ?_)
      · replace hc18 := (bI_0).mp hc18
        exact absurd hz hc18
      · replace hc18 := Decidable.not_not.mp (mt bI_0.mpr hc18)
        refine rk_bipush (v := (-6)) rfl (by decide) ?_
        exact rk_ireturn rfl rfl Qe_mk
    · replace hc10 := Decidable.not_not.mp hc10
      exact absurd hc10 hn
  · replace hc3 := Decidable.not_not.mp hc3
    replace hc3 := (bI_0).mp hc3
    exact absurd (in_mk (by omega) hi) hc3
theorem c175_s {X : ai_X} {h : ai_H} {tp : Int32} {ro : Nat → Option Nat} {L : Nat} {y : Nat → Nat} (d0 : h[0]? = some (cOne tp)) (d19 : h[19]? = some (cR 3 4 ro)) (hro : ∀ i, i < 4 → ro i = some (44 + 2 * i)) (Q : RtAt h 15 L y) (hL5 : L ≤ 500) {i : Nat} {n c : Nat} {f : Nat → Int64} (hi : i < 4) (R : NumAt h (44 + 2 * i) (nI n) (nI c) f) (hL : n ≤ 40) (hs : n < L) : Mt X am_175 [.ref 0, .int (nI i)] h (Qe (-7) h) := by
  obtain ⟨f15, Q0, Q1⟩ := id Q
  have q0 := Q0.1
  have rn := R.1
  refine rk_aload_n rfl rfl ?_
  refine rk_iload_n rfl rfl ?_
  refine rk_cv1e rfl rfl (by assumption) rfl rfl (Nat.le_of_ble_eq_true rfl) (Nat.le_of_ble_eq_true rfl) (s179 _) ?_
  refine rk_if_ne rfl rfl (fun hc3 => ?_) (fun hc3 => ?_)
  · replace hc3 := Decidable.not_not.mp (mt bI_0.mpr hc3)
    refine rk_aload_n rfl rfl ?_
    refine rk_get rfl (by assumption) rfl ?_
    refine rk_get rfl (by assumption) rfl ?_
    refine rk_iconst (v := (-1)) rfl (by decide) ?_
    refine rk_icmp_ne rfl rfl (fun hc10 => ?_) (fun hc10 => ?_)
    · refine rk_aload_n rfl rfl ?_
      refine rk_get rfl (by assumption) rfl ?_
      refine rk_iload_n rfl rfl ?_
      refine rk_aald (w := .ref (44 + 2 * i)) rfl (by assumption) (by decide) rfl (by omega) (by decide) (by rw [hro i hi]; rfl) ?_
      refine rk_cv0e rfl rfl (by assumption) rfl rfl (Nat.le_of_ble_eq_true rfl) (Nat.le_of_ble_eq_true rfl) (s43 R) ?_
      refine rk_if_eq rfl rfl (fun hc18 => ?_) (fun hc18 => ?_)
      · replace hc18 := (bI_0).mp hc18
        refine rk_aload_n rfl rfl ?_
        refine rk_get rfl (by assumption) rfl ?_
        refine rk_get rfl (by assumption) rfl ?_
        refine rk_aload_n rfl rfl ?_
        refine rk_get rfl (by assumption) rfl ?_
        refine rk_iload_n rfl rfl ?_
        refine rk_aald (w := .ref (44 + 2 * i)) rfl (by assumption) (by decide) rfl (by omega) (by decide) (by rw [hro i hi]; rfl) ?_
        refine rk_get rfl (by assumption) rfl ?_
        refine rk_icmp_le rfl rfl (fun hc29 => ?_) (fun hc29 => ?_)
        · replace hc29 := (nI_leI (by omega) (by omega)).mp hc29
          omega
        · replace hc29 := mt (nI_leI (by omega) (by omega)).mpr hc29
          refine rk_bipush (v := (-7)) rfl (by decide) ?_
          exact rk_ireturn rfl rfl Qe_mk
      · replace hc18 := Decidable.not_not.mp (mt bI_0.mpr hc18)
        exact absurd hc18 (nm_eq (by omega))
    · replace hc10 := Decidable.not_not.mp hc10
      exact absurd hc10 (nm_eq (by omega))
  · replace hc3 := Decidable.not_not.mp hc3
    replace hc3 := (bI_0).mp hc3
    exact absurd (in_mk (by omega) hi) hc3
theorem l175 {X : ai_X} {h : ai_H} {tp : Int32} {ro : Nat → Option Nat} {L : Nat} {y : Nat → Nat} (d0 : h[0]? = some (cOne tp)) (d19 : h[19]? = some (cR 3 4 ro)) (hro : ∀ i, i < 4 → ro i = some (44 + 2 * i)) (Q : RtAt h 15 L y) (hL5 : L ≤ 500) {i : Nat} {n c : Nat} {f : Nat → Int64} (hi : i < 4) (R : NumAt h (44 + 2 * i) (nI n) (nI c) f) (hL : n ≤ 40) (hc : c < 4) (hs : L ≤ n) (hy : ∀ k, k < L → y k < 6) : ∀ (d : Nat) (j : Nat) (g : ai_H) (fv : Nat → Int64), L < j + d → (j ≤ L) → (Fr (44 + 2 * i) (44 + 2 * i + 2) h g) → (NumAt g (44 + 2 * i) (nI n) (nI c) fv) → (∀ k, fv k = if k < j then (nI (y k)).toInt64 else f k) → Rk X am_175 34 [some (.ref 0), some (.int (nI i)), some (.int (nI j))] [] g (Qi (fun w h1 => w = nI L ∧ Fr (44 + 2 * i) (44 + 2 * i + 2) h h1 ∧ ∃ fv, NumAt h1 (44 + 2 * i) (nI n) (nI c) fv ∧ ∀ k, fv k = if k < L then (nI (y k)).toInt64 else f k)) := by
  intro d
  induction d with
  | zero => intro j g fv hd hj F R9 hf; exfalso; omega
  | succ d ih =>
    intro j g fv hd hj F R9 hf
    have e0 := (F.2 0 (by omega)).trans d0
    have e19 := (F.2 19 (by omega)).trans d19
    have Q9 := Q.fr2 F (by omega)
    obtain ⟨f15, Q0, Q1⟩ := id Q9
    have q0 := Q0.1
    have rn := R9.1
    refine rk_iload_n rfl rfl ?_
    refine rk_aload_n rfl rfl ?_
    refine rk_get rfl (by assumption) rfl ?_
    refine rk_get rfl (by assumption) rfl ?_
    refine rk_icmp_ge rfl rfl (fun hc38 => ?_) (fun hc38 => ?_)
    · replace hc38 := (nI_leI (by omega) (by omega)).mp hc38
      refine rk_aload_n rfl rfl ?_
      refine rk_get rfl (by assumption) rfl ?_
      refine rk_get rfl (by assumption) rfl ?_
      exact rk_ireturn rfl rfl ⟨_, _, rfl, rfl, F, fv, R9, fun k => by rw [hf k, show j = L by omega]⟩
    · replace hc38 := mt (nI_leI (by omega) (by omega)).mpr hc38
      refine rk_aload_n rfl rfl ?_
      refine rk_get rfl (by assumption) rfl ?_
      refine rk_iload_n rfl rfl ?_
      refine rk_aald (w := .ref (44 + 2 * i)) rfl (by assumption) (by decide) rfl (by omega) (by decide) (by rw [hro i hi]; rfl) ?_
      refine rk_iload_n rfl rfl ?_
      refine rk_aload_n rfl rfl ?_
      refine rk_get rfl (by assumption) rfl ?_
      refine rk_iload_n rfl rfl ?_
      refine rk_cv1e rfl rfl (by assumption) rfl rfl (Nat.le_of_ble_eq_true rfl) (Nat.le_of_ble_eq_true rfl) (s90N Q9 (by omega) (by omega)) ?_
      refine rk_i2l rfl rfl ?_
      refine rk_cv2l rfl rfl (by assumption) rfl rfl (Nat.le_of_ble_eq_true rfl) (Nat.le_of_ble_eq_true rfl) (s45 R9 hc (by omega)) (fun w h1 hF => ?_)
      obtain ⟨rfl, F2, R2⟩ := hF
      refine rk_pop2 rfl ?_
      refine rk_iinc rfl rfl (n_inc _) rfl ?_
      refine rk_goto rfl rfl ?_
      rw [cut_sm (hy j (by omega))] at R2
      refine ih (j + 1) h1 _ (by omega) (by omega) (F.tr F2) R2 (fun k => ?_)
      simp only [vp_updL]
      by_cases e : k = j
      · subst e; rw [if_pos rfl, if_pos (by omega)]
      · rw [if_neg e, hf k]
        by_cases e2 : k < j
        · rw [if_pos e2, if_pos (by omega)]
        · rw [if_neg e2, if_neg (by omega)]
theorem c175_v {X : ai_X} {h : ai_H} {tp : Int32} {ro : Nat → Option Nat} {L : Nat} {y : Nat → Nat} (d0 : h[0]? = some (cOne tp)) (d19 : h[19]? = some (cR 3 4 ro)) (hro : ∀ i, i < 4 → ro i = some (44 + 2 * i)) (Q : RtAt h 15 L y) (hL5 : L ≤ 500) {i : Nat} {n c : Nat} {f : Nat → Int64} (hi : i < 4) (R : NumAt h (44 + 2 * i) (nI n) (nI c) f) (hL : n ≤ 40) (hc : c < 4) (hs : L ≤ n) (hy : ∀ k, k < L → y k < 6) : Mt X am_175 [.ref 0, .int (nI i)] h (Qi (fun w h1 => w = nI L ∧ Fr (44 + 2 * i) (44 + 2 * i + 2) h h1 ∧ ∃ fv, NumAt h1 (44 + 2 * i) (nI n) (nI c) fv ∧ ∀ k, fv k = if k < L then (nI (y k)).toInt64 else f k)) := by
  obtain ⟨f15, Q0, Q1⟩ := id Q
  have q0 := Q0.1
  have rn := R.1
  refine rk_aload_n rfl rfl ?_
  refine rk_iload_n rfl rfl ?_
  refine rk_cv1e rfl rfl (by assumption) rfl rfl (Nat.le_of_ble_eq_true rfl) (Nat.le_of_ble_eq_true rfl) (s179 _) ?_
  refine rk_if_ne rfl rfl (fun hc3 => ?_) (fun hc3 => ?_)
  · replace hc3 := Decidable.not_not.mp (mt bI_0.mpr hc3)
    refine rk_aload_n rfl rfl ?_
    refine rk_get rfl (by assumption) rfl ?_
    refine rk_get rfl (by assumption) rfl ?_
    refine rk_iconst (v := (-1)) rfl (by decide) ?_
    refine rk_icmp_ne rfl rfl (fun hc10 => ?_) (fun hc10 => ?_)
    · refine rk_aload_n rfl rfl ?_
      refine rk_get rfl (by assumption) rfl ?_
      refine rk_iload_n rfl rfl ?_
      refine rk_aald (w := .ref (44 + 2 * i)) rfl (by assumption) (by decide) rfl (by omega) (by decide) (by rw [hro i hi]; rfl) ?_
      refine rk_cv0e rfl rfl (by assumption) rfl rfl (Nat.le_of_ble_eq_true rfl) (Nat.le_of_ble_eq_true rfl) (s43 R) ?_
      refine rk_if_eq rfl rfl (fun hc18 => ?_) (fun hc18 => ?_)
      · replace hc18 := (bI_0).mp hc18
        refine rk_aload_n rfl rfl ?_
        refine rk_get rfl (by assumption) rfl ?_
        refine rk_get rfl (by assumption) rfl ?_
        refine rk_aload_n rfl rfl ?_
        refine rk_get rfl (by assumption) rfl ?_
        refine rk_iload_n rfl rfl ?_
        refine rk_aald (w := .ref (44 + 2 * i)) rfl (by assumption) (by decide) rfl (by omega) (by decide) (by rw [hro i hi]; rfl) ?_
        refine rk_get rfl (by assumption) rfl ?_
        refine rk_icmp_le rfl rfl (fun hc29 => ?_) (fun hc29 => ?_)
        · replace hc29 := (nI_leI (by omega) (by omega)).mp hc29
          refine rk_iconst (v := nI 0) rfl (by decide) ?_
          refine rk_istore_n rfl (Nat.le_of_ble_eq_true rfl) rfl ?_
          exact l175 d0 d19 hro Q hL5 hi R hL hc hs hy (L + 1) 0 h f (by omega) (by omega) Fr.rfl' R (fun k => by rw [if_neg (by omega)])
        · replace hc29 := mt (nI_leI (by omega) (by omega)).mpr hc29
          omega
      · replace hc18 := Decidable.not_not.mp (mt bI_0.mpr hc18)
        exact absurd hc18 (nm_eq (by omega))
    · replace hc10 := Decidable.not_not.mp hc10
      exact absurd hc10 (nm_eq (by omega))
  · replace hc3 := Decidable.not_not.mp hc3
    replace hc3 := (bI_0).mp hc3
    exact absurd (in_mk (by omega) hi) hc3
theorem m285_x {X : ai_X} {h : ai_H} {v A : Nat → Int32} (c0 : h[52]? = some (cMdl v)) (c1 : h[53]? = some (cI 2346 A)) {a : Int32} (ha : ¬ (¬ a < 0 ∧ ¬ nI 4 ≤ a)) : Rk X am_285 3 (ai_loc (ai_mL am_285) [.ref 52, .int a]) [] h (Qe (-2) h) := by
  refine rk_iload_n rfl rfl ?_
  refine rk_i2l rfl rfl ?_
  refine rk_lconst (v := 0) rfl (by decide) ?_
  rw [show (0 : Int64) = (0 : Int32).toInt64 by decide]
  refine rk_ldc2 rfl ?_
  rw [show (3 : Int64) = (nI 3).toInt64 by decide]
  refine rk_cs3e rfl rfl rfl (Nat.le_of_ble_eq_true rfl) (Nat.le_of_ble_eq_true rfl) (s181 _ _ _) ?_
  refine rk_if_ne rfl rfl (fun hc8 => ?_) (fun hc8 => ?_)
  · replace hc8 := Decidable.not_not.mp (mt bI_0.mpr hc8)
    exact absurd (in34.mp hc8) ha
  · replace hc8 := Decidable.not_not.mp hc8
    replace hc8 := (bI_0).mp hc8
    refine rk_bipush (v := (-2)) rfl (by decide) ?_
    exact rk_ireturn rfl rfl Qe_mk
theorem m285_n {X : ai_X} {h : ai_H} {v A : Nat → Int32} (c0 : h[52]? = some (cMdl v)) (c1 : h[53]? = some (cI 2346 A)) {i : Nat} (hi : i < 4) (hn : A 281 = -1) : Rk X am_285 3 (ai_loc (ai_mL am_285) [.ref 52, .int (nI i)]) [] h (Qe (-5) h) := by
  refine rk_iload_n rfl rfl ?_
  refine rk_i2l rfl rfl ?_
  refine rk_lconst (v := 0) rfl (by decide) ?_
  rw [show (0 : Int64) = (0 : Int32).toInt64 by decide]
  refine rk_ldc2 rfl ?_
  rw [show (3 : Int64) = (nI 3).toInt64 by decide]
  refine rk_cs3e rfl rfl rfl (Nat.le_of_ble_eq_true rfl) (Nat.le_of_ble_eq_true rfl) (s181 _ _ _) ?_
  refine rk_if_ne rfl rfl (fun hc8 => ?_) (fun hc8 => ?_)
  · replace hc8 := Decidable.not_not.mp (mt bI_0.mpr hc8)
    refine rk_aload_n rfl rfl ?_
    refine rk_get rfl (by assumption) rfl ?_
    refine rk_sipush (v := nI 281) rfl (by decide) ?_
    refine rk_iald rfl (by assumption) (rfl) (by omega) (by decide) ?_
    refine rk_iconst (v := (-1)) rfl (by decide) ?_
    refine rk_icmp_ne rfl rfl (fun hc16 => ?_) (fun hc16 => ?_)
    · exact absurd hn hc16
    · replace hc16 := Decidable.not_not.mp hc16
      refine rk_bipush (v := (-5)) rfl (by decide) ?_
      exact rk_ireturn rfl rfl Qe_mk
  · replace hc8 := Decidable.not_not.mp hc8
    replace hc8 := (bI_0).mp hc8
    exact absurd (in3_mk hi) hc8
theorem m285_m {X : ai_X} {h : ai_H} {v A : Nat → Int32} (c0 : h[52]? = some (cMdl v)) (c1 : h[53]? = some (cI 2346 A)) {rs rm : Nat → Int32} {nu : Nat → Int64} {i : Nat} (c77 : h[77]? = some (cI 4 rs)) (c78 : h[78]? = some (cI 4 rm)) (c79 : h[79]? = some (cJ 160 nu)) (hi : i < 4) (hn : ¬ A 281 = -1) (hz : rs i = -1) : Rk X am_285 3 (ai_loc (ai_mL am_285) [.ref 52, .int (nI i)]) [] h (Qe (-6) h) := by
  refine rk_iload_n rfl rfl ?_
  refine rk_i2l rfl rfl ?_
  refine rk_lconst (v := 0) rfl (by decide) ?_
  rw [show (0 : Int64) = (0 : Int32).toInt64 by decide]
  refine rk_ldc2 rfl ?_
  rw [show (3 : Int64) = (nI 3).toInt64 by decide]
  refine rk_cs3e rfl rfl rfl (Nat.le_of_ble_eq_true rfl) (Nat.le_of_ble_eq_true rfl) (s181 _ _ _) ?_
  refine rk_if_ne rfl rfl (fun hc8 => ?_) (fun hc8 => ?_)
  · replace hc8 := Decidable.not_not.mp (mt bI_0.mpr hc8)
    refine rk_aload_n rfl rfl ?_
    refine rk_get rfl (by assumption) rfl ?_
    refine rk_sipush (v := nI 281) rfl (by decide) ?_
    refine rk_iald rfl (by assumption) (rfl) (by omega) (by decide) ?_
    refine rk_iconst (v := (-1)) rfl (by decide) ?_
    refine rk_icmp_ne rfl rfl (fun hc16 => ?_) (fun hc16 => ?_)
    · refine rk_aload_n rfl rfl ?_
      refine rk_get rfl (by assumption) rfl ?_
      refine rk_iload_n rfl rfl ?_
      refine rk_iald rfl (by assumption) (rfl) (by omega) (by decide) ?_
      refine rk_iconst (v := (-1)) rfl (by decide) ?_
      refine rk_icmp_ne rfl rfl (fun hc24 => ?_) (fun hc24 => ?_)
      · exact absurd hz hc24
      · replace hc24 := Decidable.not_not.mp hc24
        refine rk_bipush (v := (-6)) rfl (by decide) ?_
        exact rk_ireturn rfl rfl Qe_mk
    · replace hc16 := Decidable.not_not.mp hc16
      exact absurd hc16 hn
  · replace hc8 := Decidable.not_not.mp hc8
    replace hc8 := (bI_0).mp hc8
    exact absurd (in3_mk hi) hc8
theorem m285_s {X : ai_X} {h : ai_H} {v A : Nat → Int32} (c0 : h[52]? = some (cMdl v)) (c1 : h[53]? = some (cI 2346 A)) {rs rm : Nat → Int32} {nu : Nat → Int64} {i : Nat} (c77 : h[77]? = some (cI 4 rs)) (c78 : h[78]? = some (cI 4 rm)) (c79 : h[79]? = some (cJ 160 nu)) (hi : i < 4) {L n : Nat} {y : Nat → Nat} (hm : rm i = nI n) (hn : n ≤ 40) (ha : A 281 = nI L) (hL5 : L ≤ 500) (hy : ∀ k, k < L → A (282 + k) = nI (y k)) (hz : ¬ rs i = -1) (hs : n < L) : Rk X am_285 3 (ai_loc (ai_mL am_285) [.ref 52, .int (nI i)]) [] h (Qe (-7) h) := by
  refine rk_iload_n rfl rfl ?_
  refine rk_i2l rfl rfl ?_
  refine rk_lconst (v := 0) rfl (by decide) ?_
  rw [show (0 : Int64) = (0 : Int32).toInt64 by decide]
  refine rk_ldc2 rfl ?_
  rw [show (3 : Int64) = (nI 3).toInt64 by decide]
  refine rk_cs3e rfl rfl rfl (Nat.le_of_ble_eq_true rfl) (Nat.le_of_ble_eq_true rfl) (s181 _ _ _) ?_
  refine rk_if_ne rfl rfl (fun hc8 => ?_) (fun hc8 => ?_)
  · replace hc8 := Decidable.not_not.mp (mt bI_0.mpr hc8)
    refine rk_aload_n rfl rfl ?_
    refine rk_get rfl (by assumption) rfl ?_
    refine rk_sipush (v := nI 281) rfl (by decide) ?_
    refine rk_iald rfl (by assumption) (rfl) (by omega) (by decide) ?_
    refine rk_iconst (v := (-1)) rfl (by decide) ?_
    refine rk_icmp_ne rfl rfl (fun hc16 => ?_) (fun hc16 => ?_)
    · refine rk_aload_n rfl rfl ?_
      refine rk_get rfl (by assumption) rfl ?_
      refine rk_iload_n rfl rfl ?_
      refine rk_iald rfl (by assumption) (rfl) (by omega) (by decide) ?_
      refine rk_iconst (v := (-1)) rfl (by decide) ?_
      refine rk_icmp_ne rfl rfl (fun hc24 => ?_) (fun hc24 => ?_)
      · refine rk_aload_n rfl rfl ?_
        refine rk_get rfl (by assumption) rfl ?_
        refine rk_iload_n rfl rfl ?_
        refine rk_iald rfl (by assumption) (rfl) (by omega) (by decide) ?_
        rw [hm]
        refine rk_aload_n rfl rfl ?_
        refine rk_get rfl (by assumption) rfl ?_
        refine rk_sipush (v := nI 281) rfl (by decide) ?_
        refine rk_iald rfl (by assumption) (rfl) (by omega) (by decide) ?_
        rw [ha]
        refine rk_icmp_ge rfl rfl (fun hc35 => ?_) (fun hc35 => ?_)
        · replace hc35 := (nI_leI (by omega) (by omega)).mp hc35
          omega
        · replace hc35 := mt (nI_leI (by omega) (by omega)).mpr hc35
          refine rk_bipush (v := (-7)) rfl (by decide) ?_
          exact rk_ireturn rfl rfl Qe_mk
      · replace hc24 := Decidable.not_not.mp hc24
        exact absurd hc24 hz
    · replace hc16 := Decidable.not_not.mp hc16
      rw [ha] at hc16
      exact absurd hc16 (nm_eq (by omega))
  · replace hc8 := Decidable.not_not.mp hc8
    replace hc8 := (bI_0).mp hc8
    exact absurd (in3_mk hi) hc8
theorem l285 {X : ai_X} {h : ai_H} {v A : Nat → Int32} (c0 : h[52]? = some (cMdl v)) (c1 : h[53]? = some (cI 2346 A)) {rs rm : Nat → Int32} {nu : Nat → Int64} {i : Nat} (c77 : h[77]? = some (cI 4 rs)) (c78 : h[78]? = some (cI 4 rm)) (c79 : h[79]? = some (cJ 160 nu)) (hi : i < 4) {L n : Nat} {y : Nat → Nat} (hm : rm i = nI n) (hn : n ≤ 40) (ha : A 281 = nI L) (hL5 : L ≤ 500) (hy : ∀ k, k < L → A (282 + k) = nI (y k)) (hs : L ≤ n) : ∀ (d : Nat) (j : Nat) (g : ai_H) (nv : Nat → Int64), L < j + d → (j ≤ L) → (Fr 79 80 h g) → (g[79]? = some (cJ 160 nv)) → (∀ q, nv q = if 40 * i ≤ q ∧ q < 40 * i + j then (nI (y (q - 40 * i))).toInt64 else nu q) → Rk X am_285 40 [some (.ref 52), some (.int (nI i)), some (.int (nI j))] [] g (Qi (fun w h1 => w = nI L ∧ Fr 79 80 h h1 ∧ ∃ nv, h1[79]? = some (cJ 160 nv) ∧ ∀ q, nv q = if 40 * i ≤ q ∧ q < 40 * i + L then (nI (y (q - 40 * i))).toInt64 else nu q)) := by
  intro d
  induction d with
  | zero => intro j g nv hd hj F cp hf; exfalso; omega
  | succ d ih =>
    intro j g nv hd hj F cp hf
    have e52 := (F.2 52 (by omega)).trans c0
    have e53 := (F.2 53 (by omega)).trans c1
    refine rk_iload_n rfl rfl ?_
    refine rk_aload_n rfl rfl ?_
    refine rk_get rfl (by assumption) rfl ?_
    refine rk_sipush (v := nI 281) rfl (by decide) ?_
    refine rk_iald rfl (by assumption) (rfl) (by omega) (by decide) ?_
    rw [ha]
    refine rk_icmp_ge rfl rfl (fun hc45 => ?_) (fun hc45 => ?_)
    · replace hc45 := (nI_leI (by omega) (by omega)).mp hc45
      refine rk_aload_n rfl rfl ?_
      refine rk_get rfl (by assumption) rfl ?_
      refine rk_sipush (v := nI 281) rfl (by decide) ?_
      refine rk_iald rfl (by assumption) (rfl) (by omega) (by decide) ?_
      rw [ha]
      exact rk_ireturn rfl rfl ⟨_, _, rfl, rfl, F, nv, cp, fun q => by rw [hf q, show j = L by omega]⟩
    · replace hc45 := mt (nI_leI (by omega) (by omega)).mpr hc45
      refine rk_aload_n rfl rfl ?_
      refine rk_get rfl (by assumption) rfl ?_
      refine rk_bipush (v := nI 40) rfl (by decide) ?_
      refine rk_iload_n rfl rfl ?_
      refine rk_imul rfl (pk_mul _ _) ?_
      refine rk_iload_n rfl rfl ?_
      refine rk_iadd rfl (nI_add _ _) ?_
      refine rk_aload_n rfl rfl ?_
      refine rk_get rfl (by assumption) rfl ?_
      refine rk_sipush (v := nI 282) rfl (by decide) ?_
      refine rk_iload_n rfl rfl ?_
      refine rk_iadd rfl (nI_add _ _) ?_
      refine rk_iald rfl (by assumption) (rfl) (by omega) (by decide) ?_
      rw [hy j (by omega)]
      refine rk_i2l rfl rfl ?_
      refine rk_last rfl cp (rfl) (by omega) (by decide) ?_
      refine hp_gen cp (fun h1 g1 hk1 hl1 => ?_)
      replace cp := g1
      refine rk_iinc rfl rfl (n_inc _) rfl ?_
      refine rk_goto rfl rfl ?_
      refine ih (j + 1) h1 _ (by omega) (by omega) (F.tr (Fr.mk1 hk1 hl1 (by omega) (by omega))) cp (fun q => ?_)
      simp only [vp_updL]
      by_cases e : q = 40 * i + j
      · rw [if_pos e, if_pos (by omega), show q - 40 * i = j by omega]
      · rw [if_neg e, hf q]
        by_cases e2 : 40 * i ≤ q ∧ q < 40 * i + j
        · rw [if_pos e2, if_pos (by omega)]
        · rw [if_neg e2, if_neg (by omega)]
theorem m285_v {X : ai_X} {h : ai_H} {v A : Nat → Int32} (c0 : h[52]? = some (cMdl v)) (c1 : h[53]? = some (cI 2346 A)) {rs rm : Nat → Int32} {nu : Nat → Int64} {i : Nat} (c77 : h[77]? = some (cI 4 rs)) (c78 : h[78]? = some (cI 4 rm)) (c79 : h[79]? = some (cJ 160 nu)) (hi : i < 4) {L n : Nat} {y : Nat → Nat} (hm : rm i = nI n) (hn : n ≤ 40) (ha : A 281 = nI L) (hL5 : L ≤ 500) (hy : ∀ k, k < L → A (282 + k) = nI (y k)) (hz : ¬ rs i = -1) (hs : L ≤ n) : Rk X am_285 3 (ai_loc (ai_mL am_285) [.ref 52, .int (nI i)]) [] h (Qi (fun w h1 => w = nI L ∧ Fr 79 80 h h1 ∧ ∃ nv, h1[79]? = some (cJ 160 nv) ∧ ∀ q, nv q = if 40 * i ≤ q ∧ q < 40 * i + L then (nI (y (q - 40 * i))).toInt64 else nu q)) := by
  refine rk_iload_n rfl rfl ?_
  refine rk_i2l rfl rfl ?_
  refine rk_lconst (v := 0) rfl (by decide) ?_
  rw [show (0 : Int64) = (0 : Int32).toInt64 by decide]
  refine rk_ldc2 rfl ?_
  rw [show (3 : Int64) = (nI 3).toInt64 by decide]
  refine rk_cs3e rfl rfl rfl (Nat.le_of_ble_eq_true rfl) (Nat.le_of_ble_eq_true rfl) (s181 _ _ _) ?_
  refine rk_if_ne rfl rfl (fun hc8 => ?_) (fun hc8 => ?_)
  · replace hc8 := Decidable.not_not.mp (mt bI_0.mpr hc8)
    refine rk_aload_n rfl rfl ?_
    refine rk_get rfl (by assumption) rfl ?_
    refine rk_sipush (v := nI 281) rfl (by decide) ?_
    refine rk_iald rfl (by assumption) (rfl) (by omega) (by decide) ?_
    refine rk_iconst (v := (-1)) rfl (by decide) ?_
    refine rk_icmp_ne rfl rfl (fun hc16 => ?_) (fun hc16 => ?_)
    · refine rk_aload_n rfl rfl ?_
      refine rk_get rfl (by assumption) rfl ?_
      refine rk_iload_n rfl rfl ?_
      refine rk_iald rfl (by assumption) (rfl) (by omega) (by decide) ?_
      refine rk_iconst (v := (-1)) rfl (by decide) ?_
      refine rk_icmp_ne rfl rfl (fun hc24 => ?_) (fun hc24 => ?_)
      · refine rk_aload_n rfl rfl ?_
        refine rk_get rfl (by assumption) rfl ?_
        refine rk_iload_n rfl rfl ?_
        refine rk_iald rfl (by assumption) (rfl) (by omega) (by decide) ?_
        rw [hm]
        refine rk_aload_n rfl rfl ?_
        refine rk_get rfl (by assumption) rfl ?_
        refine rk_sipush (v := nI 281) rfl (by decide) ?_
        refine rk_iald rfl (by assumption) (rfl) (by omega) (by decide) ?_
        rw [ha]
        refine rk_icmp_ge rfl rfl (fun hc35 => ?_) (fun hc35 => ?_)
        · replace hc35 := (nI_leI (by omega) (by omega)).mp hc35
          refine rk_iconst (v := nI 0) rfl (by decide) ?_
          refine rk_istore_n rfl (Nat.le_of_ble_eq_true rfl) rfl ?_
          exact l285 c0 c1 c77 c78 c79 hi hm hn ha hL5 hy hs (L + 1) 0 h nu (by omega) (by omega) Fr.rfl' c79 (fun q => by rw [if_neg (by omega)])
        · replace hc35 := mt (nI_leI (by omega) (by omega)).mpr hc35
          omega
      · replace hc24 := Decidable.not_not.mp hc24
        exact absurd hc24 hz
    · replace hc16 := Decidable.not_not.mp hc16
      rw [ha] at hc16
      exact absurd hc16 (nm_eq (by omega))
  · replace hc8 := Decidable.not_not.mp hc8
    replace hc8 := (bI_0).mp hc8
    exact absurd (in3_mk hi) hc8
theorem ob42 (X : ai_X) : O42 X Inv := by
  intro a
  refine ob_gen fun m c' s h _ I => ?_
  obtain ⟨tp, T, A, im, rs, rm, nu, fk, fp, bb, hP⟩ := id I
  obtain ⟨hA, hB, hR, hI, hS, hO, hM, hV, hD, hc, hs⟩ := id hP
  obtain ⟨⟨v, mk, d52, -⟩, d53, -⟩ := id hM
  have c77 := hM.2.2.2.2.1
  have c78 := hM.2.2.2.2.2.1
  have c79 := hM.2.2.2.2.2.2.1
  have d0 := hA.1
  obtain ⟨⟨ro, d19, hro⟩, RR⟩ := id hR
  obtain ⟨-, -, ⟨n15, f15, Q, hFC⟩, -⟩ := hB
  obtain ⟨-, -, ⟨n0, t, w, hHV, hFV⟩, -⟩ := hV
  have ht : t ≤ 6 := by have := hHV.2.2.2.2.2.1; omega
  have hf0 := found_nat ht Q hFC hFV
  have K : ∀ {W : Int32}, (∀ h2 : ai_H, h2[52]? = some (cMdl (upd v 0 (nI 0))) → (∀ q : Nat, q ≠ 52 → h2[q]? = h[q]?) → Rk X am_285 3 (ai_loc (ai_mL am_285) [.ref 52, .int a]) [] h2 (Qe W h2)) → Mt X am_285 [.ref 52, .int a] h (Qi (fun w h1 => w = W ∧ MdO h h1)) := fun z => md_thr rfl rfl rfl rfl d52 z
  by_cases ha : ¬ a < 0 ∧ ¬ nI 4 ≤ a
  · obtain ⟨i, hi, rfl⟩ := in_of (by omega) ha
    rcases hf0 with ⟨z1, z2⟩ | ⟨L, y, hL5, z1, z2, QL, hy⟩
    · exact og_pure I (c175_n d0 d19 hro Q hi z1) (K fun h2 g2 hk => m285_n g2 ((hk 53 (by omega)).trans d53) hi z2)
    · have z3 : ¬ n15 = -1 := by rw [z1]; exact nm_eq (by omega)
      have z4 : ¬ A 281 = -1 := by rw [z2]; exact nm_eq (by omega)
      obtain ⟨sz, so, f, hNum, hC⟩ := RR i hi
      rcases hC with ⟨h1, rfl, -⟩ | ⟨n, hn, rfl, hm, hs, h4, hf⟩
      · exact og_pure I (c175_m d0 d19 hro Q hi hNum z3 rfl) (K fun h2 g2 hk => m285_m g2 ((hk 53 (by omega)).trans d53) ((hk _ (by omega)).trans c77) ((hk _ (by omega)).trans c78) ((hk _ (by omega)).trans c79) hi z4 h1)
      · have hne := rs_ne hs h4
        obtain ⟨c, hc4, rfl⟩ : ∃ c, c < 4 ∧ so = nI c := by
          rcases h4 with rfl | rfl | rfl | rfl
          · exact ⟨0, by omega, rfl⟩
          · exact ⟨1, by omega, rfl⟩
          · exact ⟨2, by omega, rfl⟩
          · exact ⟨3, by omega, rfl⟩
        by_cases hLn : L ≤ n
        · refine ⟨_, _, c175_v d0 d19 hro QL hL5 hi hNum hn hc4 hLn (fun k hk => by have := (hy k hk).1; omega), ?_⟩
          rintro h1 ⟨F1, f1, R1, hf1⟩ k1
          have e52 := (F1.2 52 (by omega)).trans d52
          refine ⟨⟨_, e52⟩, md_g rfl rfl rfl rfl e52 (fun h2 g2 hk hl => ?_)⟩
          have e77 := (hk 77 (by omega)).trans ((F1.2 77 (by omega)).trans c77)
          have e78 := (hk 78 (by omega)).trans ((F1.2 78 (by omega)).trans c78)
          refine (m285_v g2 ((hk _ (by omega)).trans ((F1.2 53 (by omega)).trans d53)) e77 e78 ((hk _ (by omega)).trans ((F1.2 79 (by omega)).trans c79)) hi hm hn z2 hL5 (fun k hk => (hy k hk).2) hne hLn).mono ?_
          rintro o ⟨w, h3, rfl, rfl, F3, nv, g79, hnv⟩
          refine ⟨_, _, rfl, rfl, fun k2 => Inv.rows hP (k1.trans k2) (by rw [F3.1, hl, F1.1]) (fun q x y => (F3.2 q (by omega)).trans ((hk q (by omega)).trans (F1.2 q (by omega)))) ?_ (hR.one hi ((F3.2 19 (by omega)).trans ((hk 19 (by omega)).trans (F1.2 19 (by omega)))) (fun q x y z => (F3.2 q (by omega)).trans ((hk q (by omega)).trans (F1.2 q (by omega)))) (R1.fr (fun q _ _ => (F3.2 q (by omega)).trans (hk q (by omega)))) ?_ ?_) ((F3.2 77 (by omega)).trans e77) ((F3.2 78 (by omega)).trans e78) g79⟩
          · intro v' hv'
            rw [d52] at hv'
            obtain ⟨x1, x2, x3, x4⟩ := cMdl_inj (Option.some.inj hv')
            exact ⟨_, (F3.2 52 (by omega)).trans g2, x1, x2, x3, x4⟩
          · refine Or.inr ⟨n, hn, rfl, hm, hs, h4, fun j hj => ?_⟩
            rw [hf1 j, hnv]
            by_cases e : j < L
            · rw [if_pos e, if_pos (by omega), show 40 * i + j - 40 * i = j by omega]
            · rw [if_neg e, if_neg (by omega)]; exact hf j hj
          · intro j' hj' hne
            refine ⟨rfl, rfl, fun k' hk' => ?_⟩
            rw [hnv, if_neg (by omega)]
        · exact og_pure I (c175_s d0 d19 hro QL hL5 hi hNum hn (by omega)) (K fun h2 g2 hk => m285_s g2 ((hk 53 (by omega)).trans d53) ((hk _ (by omega)).trans c77) ((hk _ (by omega)).trans c78) ((hk _ (by omega)).trans c79) hi hm hn z2 hL5 (fun k hk => (hy k hk).2) hne (by omega))
  · exact og_pure I (c175_x d0 d19 hro Q ha) (K fun h2 g2 hk => m285_x g2 ((hk 53 (by omega)).trans d53) ha)
/-! feed -/
theorem byt_bv (a : BitVec 32) (s : Nat) (hs : s ≤ 24) : (a >>> s) &&& (nI 255).toBitVec = (a.sshiftRight s) &&& (nI 255).toBitVec := by
  have hm : ∀ i, i < 32 → ¬ i < 8 → (nI 255).toBitVec.getLsbD i = false := by decide
  apply BitVec.eq_of_getLsbD_eq
  intro i hi
  rw [BitVec.getLsbD_and, BitVec.getLsbD_and]
  by_cases h8 : i < 8
  · rw [BitVec.getLsbD_ushiftRight, BitVec.getLsbD_sshiftRight]
    have h1 : s + i < 32 := by omega
    have h2 : decide (32 ≤ i) = false := decide_eq_false (by omega)
    rw [h2, if_pos h1]
    rfl
  · rw [hm i hi h8, Bool.and_false, Bool.and_false]
abbrev byt (a : Int32) (s : Nat) : Int32 := (a.toUInt32 >>> ((nI s).toUInt32 &&& Int32.toUInt32 31)).toInt32 &&& nI 255
theorem byt_sshr {a : Int32} {s : Nat} (hs : s ≤ 24) : (a >>> (nI s &&& 31)) &&& nI 255 = byt a s := by
  symm
  apply Int32.toBitVec_inj.mp
  rw [Int32.toBitVec_and, Int32.toBitVec_and, Int32.toBitVec_shiftRight, BitVec.sshiftRight_eq', b_sm s (by omega)]
  show (a.toUInt32 >>> ((nI s).toUInt32 &&& Int32.toUInt32 31)).toBitVec &&& _ = _
  rw [UInt32.toBitVec_shiftRight, BitVec.ushiftRight_eq', b_sk s (by omega)]
  exact byt_bv _ s hs
theorem nI_self (z : Int32) : z = nI z.toBitVec.toNat := by
  apply Int32.toBitVec_inj.mp
  apply BitVec.eq_of_toNat_eq
  show _ = z.toBitVec.toNat % 2 ^ 32
  rw [Nat.mod_eq_of_lt z.toBitVec.isLt]
theorem and255 (z : Int32) : ∃ x, x < 256 ∧ z &&& nI 255 = nI x := by
  refine ⟨z.toBitVec.toNat &&& 255, Nat.and_lt_two_pow _ (n := 8) (by decide), ?_⟩
  rw [← b_andU, ← nI_self]
def sel5 (a b c d e : Int32) (k : Nat) : Int32 := if k < 4 then a else if k < 8 then b else if k < 12 then c else if k < 16 then d else e
theorem Inv.tape {m c s : Nat} {h h2 : ai_H} {tp tp' : Nat} {T T' A im rs rm : Nat → Int32} {nu : Nat → Int64} {fk fp : Int32} {b : Nat → Option Nat} (I : InvP m c s h tp T A im rs rm nu fk fp b) (k : ai_Sk h h2) (hl : h2.length = h.length) (K : ∀ q : Nat, q ≠ 0 → q ≠ 1 → q ≠ 52 → q ≠ 55 → h2[q]? = h[q]?) (h0 : h2[0]? = some (cOne (nI tp'))) (h1 : h2[1]? = some (cI 600 T')) (w : ∀ v : Nat → Int32, h[52]? = some (cMdl v) → ∃ v1 : Nat → Int32, h2[52]? = some (cMdl v1) ∧ v1 5 = nI tp' ∧ v1 13 = v 13 ∧ v1 14 = v 14 ∧ v1 22 = v 22) (h55 : h2[55]? = some (cI 600 T')) (ht : tp' ≤ 600) (hT : ∀ i, i < 600 → ∃ x, x < 256 ∧ T' i = nI x) : Inv (m + 1) (c + 0) (s + 0) h2 := by
  obtain ⟨hA, hB, hR, hI, hS, hO, hM, hV, hD, hc, hs⟩ := I
  obtain ⟨-, -, rf, g, x1, x2⟩ := hA
  refine ⟨tp', T', A, im, rs, rm, nu, fk, fp, b, ⟨h0, h1, rf, g, (K 2 (by omega) (by omega) (by omega) (by omega)).trans x1, x2⟩, hB.fr (fun q _ _ => K q (by omega) (by omega) (by omega) (by omega)), hR.fr (fun q _ => K q (by omega) (by omega) (by omega) (by omega)), hI.fr (K 20 (by omega) (by omega) (by omega) (by omega)) (K 21 (by omega) (by omega) (by omega) (by omega)) (fun i p hi e q _ _ => ?_), hS.fr (fun q _ _ => K q (by omega) (by omega) (by omega) (by omega)) (fun i p _ hi e q _ _ => ?_), hO.fr (fun q _ _ => K q (by omega) (by omega) (by omega) (by omega)), hM.up k ?_ ?_ ?_ h55 ?_ ?_ ?_, ⟨ht, hT, hV.2.2⟩, hD.fr (by omega), hc, hs⟩
  · have := (hD i p (by omega) e).1
    exact K q (by omega) (by omega) (by omega) (by omega)
  · have := (hD i p hi e).1
    exact K q (by omega) (by omega) (by omega) (by omega)
  · obtain ⟨⟨v, mk, e1, e2, e3, e4, e5, e6, sm, e7, e8⟩, -⟩ := hM
    obtain ⟨v1, f1, f2, f3, f4, f5⟩ := w v e1
    exact ⟨v1, mk, f1, f2, f3.trans e3, f4.trans e4, f5.trans e5, by omega, sm, (K 62 (by omega) (by omega) (by omega) (by omega)).trans e7, e8⟩
  · exact (K _ (by omega) (by omega) (by omega) (by omega)).trans hM.2.1
  · exact (K _ (by omega) (by omega) (by omega) (by omega)).trans hM.2.2.1
  · exact (K _ (by omega) (by omega) (by omega) (by omega)).trans hM.2.2.2.2.1
  · exact (K _ (by omega) (by omega) (by omega) (by omega)).trans hM.2.2.2.2.2.1
  · exact (K _ (by omega) (by omega) (by omega) (by omega)).trans hM.2.2.2.2.2.2.1
theorem l130 {X : ai_X} {h : ai_H} {a : Int32} {tp : Nat} {T : Nat → Int32} (c0 : h[0]? = some (cOne (nI tp))) (c1 : h[1]? = some (cI 600 T)) {s : Nat} {P : ai_O → Prop} (hs : s ≤ 24) (htp : tp < 600) (z : ∀ h1, Fr 0 2 h h1 → h1[0]? = some (cOne (nI (tp + 1))) → h1[1]? = some (cI 600 (upd T tp (byt a s))) → Rk X am_130 2 [some (.ref 0), some (.int a), some (.int (nI s + Int32.ofInt (-8)))] [] h1 P) : Rk X am_130 2 [some (.ref 0), some (.int a), some (.int (nI s))] [] h P := by
  have F0 : Fr 0 2 h h := Fr.rfl'
  refine rk_iload_n rfl rfl ?_
  refine rk_if_lt rfl rfl (fun hc3 => ?_) (fun hc3 => ?_)
  · replace hc3 := (n0_lt (by omega)).mp hc3
    exact hc3.elim
  · replace hc3 := mt (n0_lt (by omega)).mpr hc3
    refine rk_aload_n rfl rfl ?_
    refine rk_get rfl (by assumption) rfl ?_
    refine rk_sipush (v := nI 600) rfl (by decide) ?_
    refine rk_icmp_ge rfl rfl (fun hc7 => ?_) (fun hc7 => ?_)
    · replace hc7 := (nI_leI (by omega) (by omega)).mp hc7
      omega
    · replace hc7 := mt (nI_leI (by omega) (by omega)).mpr hc7
      refine rk_aload_n rfl rfl ?_
      refine rk_get rfl (by assumption) rfl ?_
      refine rk_aload_n rfl rfl ?_
      refine rk_get rfl (by assumption) rfl ?_
      refine rk_iload_n rfl rfl ?_
      refine rk_iload_n rfl rfl ?_
      refine rk_iushr rfl rfl ?_
      refine rk_sipush (v := nI 255) rfl (by decide) ?_
      refine rk_iand rfl rfl ?_
      refine rk_iast rfl c1 (rfl) (by omega) (by decide) ?_
      refine hp_gen c1 (fun h1 g1 hk1 hl1 => ?_)
      replace c0 := (hk1 _ (by omega)).trans c0
      replace F0 := F0.tr (Fr.mk1 hk1 hl1 (by omega) (by omega))
      replace c1 := g1
      refine rk_aload_n rfl rfl ?_
      refine rk_dup_a rfl ?_
      refine rk_get rfl (by assumption) rfl ?_
      refine rk_iconst (v := nI 1) rfl (by decide) ?_
      refine rk_iadd rfl (nI_add _ _) ?_
      refine rk_put rfl c0 (Nat.le_of_ble_eq_true rfl) ft_10_1 rfl (Or.inl rfl) rfl ?_
      refine hp_gen c0 (fun h1 g1 hk1 hl1 => ?_)
      replace c1 := (hk1 _ (by omega)).trans c1
      replace F0 := F0.tr (Fr.mk1 hk1 hl1 (by omega) (by omega))
      replace c0 := g1
      refine rk_iinc rfl rfl rfl rfl ?_
      refine rk_goto rfl rfl ?_
      exact z _ F0 c0 c1
theorem s130 {X : ai_X} {h : ai_H} {a : Int32} {tp : Nat} {T : Nat → Int32} (c0 : h[0]? = some (cOne (nI tp))) (c1 : h[1]? = some (cI 600 T)) (htp : tp + 4 ≤ 600) : Mt X am_130 [.ref 0, .int a] h (Qv (fun h1 => Fr 0 2 h h1 ∧ h1[0]? = some (cOne (nI (tp + 4))) ∧ ∃ T', h1[1]? = some (cI 600 T') ∧ ∀ q, T' q = if tp ≤ q ∧ q < tp + 4 then byt a (24 - 8 * (q - tp)) else T q)) := by
  refine rk_bipush (v := nI 24) rfl (by decide) ?_
  refine rk_istore_n rfl (Nat.le_of_ble_eq_true rfl) rfl ?_
  refine l130 c0 c1 (by decide) (by omega) (fun h1 F1 a1 b1 => ?_)
  rw [show nI 24 + Int32.ofInt (-8) = nI 16 by decide]
  refine l130 a1 b1 (by decide) (by omega) (fun h2 F2 a2 b2 => ?_)
  rw [show nI 16 + Int32.ofInt (-8) = nI 8 by decide]
  refine l130 a2 b2 (by decide) (by omega) (fun h3 F3 a3 b3 => ?_)
  rw [show nI 8 + Int32.ofInt (-8) = nI 0 by decide]
  refine l130 a3 b3 (by decide) (by omega) (fun h4 F4 a4 b4 => ?_)
  refine rk_iload_n rfl rfl ?_
  refine rk_if_lt rfl rfl (fun _ => ?_) (fun hc => absurd (by decide) hc)
  refine rk_return rfl rfl ⟨_, rfl, ((F1.tr F2).tr F3).tr F4, a4, _, b4, fun q => ?_⟩
  simp only [upd]
  by_cases h3 : q = tp + 1 + 1 + 1
  · rw [if_pos h3, if_pos (by omega), show 24 - 8 * (q - tp) = 0 by omega]
  rw [if_neg h3]
  by_cases h2 : q = tp + 1 + 1
  · rw [if_pos h2, if_pos (by omega), show 24 - 8 * (q - tp) = 8 by omega]
  rw [if_neg h2]
  by_cases h1 : q = tp + 1
  · rw [if_pos h1, if_pos (by omega), show 24 - 8 * (q - tp) = 16 by omega]
  rw [if_neg h1]
  by_cases h0 : q = tp
  · rw [if_pos h0, if_pos (by omega), show 24 - 8 * (q - tp) = 24 by omega]
  rw [if_neg h0, if_neg (by omega)]
theorem c129_x {X : ai_X} {h : ai_H} {tp : Nat} {T : Nat → Int32} (c0 : h[0]? = some (cOne (nI tp))) (c1 : h[1]? = some (cI 600 T)) {a b c d e : Int32} (hx : 600 < tp + 20) (hl : tp ≤ 600) : Mt X am_129 [.ref 0, .int a, .int b, .int c, .int d, .int e] h (Qe (-5) h) := by
  refine rk_aload_n rfl rfl ?_
  refine rk_get rfl (by assumption) rfl ?_
  refine rk_bipush (v := nI 20) rfl (by decide) ?_
  refine rk_iadd rfl (nI_add _ _) ?_
  refine rk_sipush (v := nI 600) rfl (by decide) ?_
  refine rk_icmp_le rfl rfl (fun hc5 => ?_) (fun hc5 => ?_)
  · replace hc5 := (nI_leI (by omega) (by omega)).mp hc5
    omega
  · replace hc5 := mt (nI_leI (by omega) (by omega)).mpr hc5
    refine rk_bipush (v := (-5)) rfl (by decide) ?_
    exact rk_ireturn rfl rfl Qe_mk
theorem c129_v {X : ai_X} {h : ai_H} {tp : Nat} {T : Nat → Int32} (c0 : h[0]? = some (cOne (nI tp))) (c1 : h[1]? = some (cI 600 T)) {a b c d e : Int32} (hx : tp + 20 ≤ 600) : Mt X am_129 [.ref 0, .int a, .int b, .int c, .int d, .int e] h (Qi (fun w h1 => w = nI (tp + 20) ∧ Fr 0 2 h h1 ∧ h1[0]? = some (cOne (nI (tp + 20))) ∧ ∃ T', h1[1]? = some (cI 600 T') ∧ ∀ q, T' q = if tp ≤ q ∧ q < tp + 20 then byt (sel5 a b c d e (q - tp)) (24 - 8 * ((q - tp) % 4)) else T q)) := by
  refine rk_aload_n rfl rfl ?_
  refine rk_get rfl (by assumption) rfl ?_
  refine rk_bipush (v := nI 20) rfl (by decide) ?_
  refine rk_iadd rfl (nI_add _ _) ?_
  refine rk_sipush (v := nI 600) rfl (by decide) ?_
  refine rk_icmp_le rfl rfl (fun hc5 => ?_) (fun hc5 => ?_)
  · replace hc5 := (nI_leI (by omega) (by omega)).mp hc5
    refine rk_aload_n rfl rfl ?_
    refine rk_iload_n rfl rfl ?_
    refine rk_cv1v rfl rfl (by assumption) rfl rfl (Nat.le_of_ble_eq_true rfl) (Nat.le_of_ble_eq_true rfl) (s130 c0 c1 (by omega)) (fun h1 hF => ?_)
    obtain ⟨F0, c0, T0, c1, hT0⟩ := hF
    refine rk_aload_n rfl rfl ?_
    refine rk_iload_n rfl rfl ?_
    refine rk_cv1v rfl rfl (by assumption) rfl rfl (Nat.le_of_ble_eq_true rfl) (Nat.le_of_ble_eq_true rfl) (s130 c0 c1 (by omega)) (fun h1 hF => ?_)
    obtain ⟨F1, c0, T1, c1, hT1⟩ := hF
    refine rk_aload_n rfl rfl ?_
    refine rk_iload_n rfl rfl ?_
    refine rk_cv1v rfl rfl (by assumption) rfl rfl (Nat.le_of_ble_eq_true rfl) (Nat.le_of_ble_eq_true rfl) (s130 c0 c1 (by omega)) (fun h1 hF => ?_)
    obtain ⟨F2, c0, T2, c1, hT2⟩ := hF
    refine rk_aload_n rfl rfl ?_
    refine rk_iload rfl rfl ?_
    refine rk_cv1v rfl rfl (by assumption) rfl rfl (Nat.le_of_ble_eq_true rfl) (Nat.le_of_ble_eq_true rfl) (s130 c0 c1 (by omega)) (fun h1 hF => ?_)
    obtain ⟨F3, c0, T3, c1, hT3⟩ := hF
    refine rk_aload_n rfl rfl ?_
    refine rk_iload rfl rfl ?_
    refine rk_cv1v rfl rfl (by assumption) rfl rfl (Nat.le_of_ble_eq_true rfl) (Nat.le_of_ble_eq_true rfl) (s130 c0 c1 (by omega)) (fun h1 hF => ?_)
    obtain ⟨F4, c0, T4, c1, hT4⟩ := hF
    refine rk_aload_n rfl rfl ?_
    refine rk_get rfl (by assumption) rfl ?_
    refine rk_ireturn rfl rfl ⟨_, _, rfl, rfl, (((F0.tr F1).tr F2).tr F3).tr F4, c0, T4, c1, fun q => ?_⟩
    rw [hT4, hT3, hT2, hT1, hT0]
    unfold sel5
    by_cases h0 : tp ≤ q ∧ q < tp + 20
    · rw [if_pos h0]
      by_cases h1 : q - tp < 4
      · rw [if_neg (by omega), if_neg (by omega), if_neg (by omega), if_neg (by omega), if_pos (by omega), if_pos h1, show (q - tp) % 4 = q - tp by omega]
      by_cases h2 : q - tp < 8
      · rw [if_neg (by omega), if_neg (by omega), if_neg (by omega), if_pos (by omega), if_neg h1, if_pos h2, show (q - tp) % 4 = q - (tp + 4) by omega]
      by_cases h3 : q - tp < 12
      · rw [if_neg (by omega), if_neg (by omega), if_pos (by omega), if_neg h1, if_neg h2, if_pos h3, show (q - tp) % 4 = q - (tp + 4 + 4) by omega]
      by_cases h4 : q - tp < 16
      · rw [if_neg (by omega), if_pos (by omega), if_neg h1, if_neg h2, if_neg h3, if_pos h4, show (q - tp) % 4 = q - (tp + 4 + 4 + 4) by omega]
      · rw [if_pos (by omega), if_neg h1, if_neg h2, if_neg h3, if_neg h4, show (q - tp) % 4 = q - (tp + 4 + 4 + 4 + 4) by omega]
    · rw [if_neg (by omega), if_neg (by omega), if_neg (by omega), if_neg (by omega), if_neg (by omega), if_neg h0]
  · replace hc5 := mt (nI_leI (by omega) (by omega)).mpr hc5
    omega
theorem m183_x {X : ai_X} {h : ai_H} {v : Nat → Int32} {tp : Nat} {T : Nat → Int32} (c0 : h[52]? = some (cMdl v)) (c55 : h[55]? = some (cI 600 T)) (hv5 : v 5 = nI tp) {a b c dd e : Int32} (hx : 600 < tp + 20) (hl : tp ≤ 600) : Rk X am_183 3 (ai_loc (ai_mL am_183) [.ref 52, .int a, .int b, .int c, .int dd, .int e]) [] h (Qe (-5) h) := by
  refine rk_aload_n rfl rfl ?_
  refine rk_get rfl (by assumption) rfl ?_
  rw [hv5]
  refine rk_bipush (v := nI 20) rfl (by decide) ?_
  refine rk_iadd rfl (nI_add _ _) ?_
  refine rk_sipush (v := nI 600) rfl (by decide) ?_
  refine rk_icmp_le rfl rfl (fun hc8 => ?_) (fun hc8 => ?_)
  · replace hc8 := (nI_leI (by omega) (by omega)).mp hc8
    omega
  · replace hc8 := mt (nI_leI (by omega) (by omega)).mpr hc8
    refine rk_bipush (v := (-5)) rfl (by decide) ?_
    exact rk_ireturn rfl rfl Qe_mk
theorem l183 {X : ai_X} {h : ai_H} {v : Nat → Int32} {tp : Nat} {T : Nat → Int32} (c0 : h[52]? = some (cMdl v)) (c55 : h[55]? = some (cI 600 T)) (hv5 : v 5 = nI tp) {a b c dd e : Int32} (hx : tp + 20 ≤ 600) : ∀ (d : Nat) (k : Nat) (g : ai_H) (vv Tv : Nat → Int32) (c7 : Option Value), 20 < k + d → (k ≤ 20) → (g.length = h.length) → (∀ q : Nat, q ≠ 52 → q ≠ 55 → g[q]? = h[q]?) → (g[52]? = some (cMdl vv)) → (vv 5 = nI (tp + k)) → (vv 13 = v 13) → (vv 14 = v 14) → (vv 22 = v 22) → (g[55]? = some (cI 600 Tv)) → (∀ q, Tv q = if tp ≤ q ∧ q < tp + k then byt (sel5 a b c dd e (q - tp)) (24 - 8 * ((q - tp) % 4)) else T q) → Rk X am_183 13 [some (.ref 52), some (.int a), some (.int b), some (.int c), some (.int dd), some (.int e), some (.int (nI k)), c7] [] g (Qi (fun w h1 => w = nI (tp + 20) ∧ h1.length = h.length ∧ (∀ q : Nat, q ≠ 52 → q ≠ 55 → h1[q]? = h[q]?) ∧ (∃ v1 : Nat → Int32, h1[52]? = some (cMdl v1) ∧ v1 5 = nI (tp + 20) ∧ v1 13 = v 13 ∧ v1 14 = v 14 ∧ v1 22 = v 22) ∧ ∃ T', h1[55]? = some (cI 600 T') ∧ ∀ q, T' q = if tp ≤ q ∧ q < tp + 20 then byt (sel5 a b c dd e (q - tp)) (24 - 8 * ((q - tp) % 4)) else T q)) := by
  intro d
  induction d with
  | zero => intro k g vv Tv c7 hd hk hl K e52 e5 e13 e14 e22 e55 hf; exfalso; omega
  | succ d ih =>
    intro k g vv Tv c7 hd hk hl K e52 e5 e13 e14 e22 e55 hf
    refine rk_iload rfl rfl ?_
    refine rk_bipush (v := nI 20) rfl (by decide) ?_
    refine rk_icmp_ge rfl rfl (fun hc15 => ?_) (fun hc15 => ?_)
    · replace hc15 := (nI_leI (by omega) (by omega)).mp hc15
      refine rk_aload_n rfl rfl ?_
      refine rk_get rfl (by assumption) rfl ?_
      rw [e5]
      have hk2 : k = 20 := by omega
      subst hk2
      exact rk_ireturn rfl rfl ⟨_, _, rfl, rfl, hl, K, ⟨vv, e52, e5, e13, e14, e22⟩, Tv, e55, hf⟩
    · replace hc15 := mt (nI_leI (by omega) (by omega)).mpr hc15
      refine rk_iload rfl rfl ?_
      refine rk_iconst (v := nI 4) rfl (by decide) ?_
      refine rk_icmp_ge rfl rfl (fun hc18 => ?_) (fun hc18 => ?_)
      · replace hc18 := (nI_leI (by omega) (by omega)).mp hc18
        refine rk_iload rfl rfl ?_
        refine rk_bipush (v := nI 8) rfl (by decide) ?_
        refine rk_icmp_ge rfl rfl (fun hc23 => ?_) (fun hc23 => ?_)
        · replace hc23 := (nI_leI (by omega) (by omega)).mp hc23
          refine rk_iload rfl rfl ?_
          refine rk_bipush (v := nI 12) rfl (by decide) ?_
          refine rk_icmp_ge rfl rfl (fun hc28 => ?_) (fun hc28 => ?_)
          · replace hc28 := (nI_leI (by omega) (by omega)).mp hc28
            refine rk_iload rfl rfl ?_
            refine rk_bipush (v := nI 16) rfl (by decide) ?_
            refine rk_icmp_ge rfl rfl (fun hc33 => ?_) (fun hc33 => ?_)
            · replace hc33 := (nI_leI (by omega) (by omega)).mp hc33
              have hsel : sel5 a b c dd e k = e := by unfold sel5; rw [if_neg (by omega), if_neg (by omega), if_neg (by omega), if_neg (by omega)]
              refine rk_iload rfl rfl ?_
              refine rk_istore rfl (Nat.le_of_ble_eq_true rfl) rfl ?_
              refine rk_aload_n rfl rfl ?_
              refine rk_get rfl (by assumption) rfl ?_
              refine rk_aload_n rfl rfl ?_
              refine rk_get rfl (by assumption) rfl ?_
              rw [e5]
              refine rk_iload rfl rfl ?_
              refine rk_bipush (v := nI 24) rfl (by decide) ?_
              refine rk_bipush (v := nI 8) rfl (by decide) ?_
              refine rk_iload rfl rfl ?_
              refine rk_iconst (v := nI 4) rfl (by decide) ?_
              refine rk_irem rfl (nI_ne0 (by omega) (by omega)) (pk_rem (by omega) (by omega) (by omega)) ?_
              refine rk_imul rfl (pk_mul _ _) ?_
              refine rk_isub rfl (pk_sub (by omega)) ?_
              refine rk_ishr rfl rfl ?_
              refine rk_sipush (v := nI 255) rfl (by decide) ?_
              refine rk_iand rfl rfl ?_
              refine rk_iast rfl e55 rfl (by omega) (by decide) ?_
              refine hp_gen e55 (fun h0 g0 hk0 hl0 => ?_)
              replace e52 := (hk0 52 (by omega)).trans e52
              replace e55 := g0
              refine rk_aload_n rfl rfl ?_
              refine rk_dup_a rfl ?_
              refine rk_get rfl (by assumption) rfl ?_
              rw [e5]
              refine rk_iconst (v := nI 1) rfl (by decide) ?_
              refine rk_iadd rfl (nI_add _ _) ?_
              refine rk_putM rfl e52 (Or.inr (Or.inl rfl)) (fun h1 g1 hk1 hl1 => ?_)
              refine rk_iinc rfl rfl (n_inc _) rfl ?_
              refine rk_goto rfl rfl ?_
              refine ih (k + 1) _ _ _ _ (by omega) (by omega) (hl1.trans (hl0.trans hl)) (fun q x y => (hk1 q x).trans ((hk0 q y).trans (K q x y))) g1 rfl e13 e14 e22 ((hk1 55 (by omega)).trans e55) (fun q => ?_)
              simp only [upd]
              by_cases e1 : q = tp + k
              · rw [if_pos e1, if_pos (by omega), show q - tp = k by omega, hsel, byt_sshr (by omega)]
              · rw [if_neg e1, hf q]
                by_cases e2 : tp ≤ q ∧ q < tp + k
                · rw [if_pos e2, if_pos (by omega)]
                · rw [if_neg e2, if_neg (by omega)]
            · replace hc33 := mt (nI_leI (by omega) (by omega)).mpr hc33
              have hsel : sel5 a b c dd e k = dd := by unfold sel5; rw [if_neg (by omega), if_neg (by omega), if_neg (by omega), if_pos (by omega)]
              refine rk_iload rfl rfl ?_
              refine rk_goto rfl rfl ?_
              refine rk_istore rfl (Nat.le_of_ble_eq_true rfl) rfl ?_
              refine rk_aload_n rfl rfl ?_
              refine rk_get rfl (by assumption) rfl ?_
              refine rk_aload_n rfl rfl ?_
              refine rk_get rfl (by assumption) rfl ?_
              rw [e5]
              refine rk_iload rfl rfl ?_
              refine rk_bipush (v := nI 24) rfl (by decide) ?_
              refine rk_bipush (v := nI 8) rfl (by decide) ?_
              refine rk_iload rfl rfl ?_
              refine rk_iconst (v := nI 4) rfl (by decide) ?_
              refine rk_irem rfl (nI_ne0 (by omega) (by omega)) (pk_rem (by omega) (by omega) (by omega)) ?_
              refine rk_imul rfl (pk_mul _ _) ?_
              refine rk_isub rfl (pk_sub (by omega)) ?_
              refine rk_ishr rfl rfl ?_
              refine rk_sipush (v := nI 255) rfl (by decide) ?_
              refine rk_iand rfl rfl ?_
              refine rk_iast rfl e55 rfl (by omega) (by decide) ?_
              refine hp_gen e55 (fun h0 g0 hk0 hl0 => ?_)
              replace e52 := (hk0 52 (by omega)).trans e52
              replace e55 := g0
              refine rk_aload_n rfl rfl ?_
              refine rk_dup_a rfl ?_
              refine rk_get rfl (by assumption) rfl ?_
              rw [e5]
              refine rk_iconst (v := nI 1) rfl (by decide) ?_
              refine rk_iadd rfl (nI_add _ _) ?_
              refine rk_putM rfl e52 (Or.inr (Or.inl rfl)) (fun h1 g1 hk1 hl1 => ?_)
              refine rk_iinc rfl rfl (n_inc _) rfl ?_
              refine rk_goto rfl rfl ?_
              refine ih (k + 1) _ _ _ _ (by omega) (by omega) (hl1.trans (hl0.trans hl)) (fun q x y => (hk1 q x).trans ((hk0 q y).trans (K q x y))) g1 rfl e13 e14 e22 ((hk1 55 (by omega)).trans e55) (fun q => ?_)
              simp only [upd]
              by_cases e1 : q = tp + k
              · rw [if_pos e1, if_pos (by omega), show q - tp = k by omega, hsel, byt_sshr (by omega)]
              · rw [if_neg e1, hf q]
                by_cases e2 : tp ≤ q ∧ q < tp + k
                · rw [if_pos e2, if_pos (by omega)]
                · rw [if_neg e2, if_neg (by omega)]
          · replace hc28 := mt (nI_leI (by omega) (by omega)).mpr hc28
            have hsel : sel5 a b c dd e k = c := by unfold sel5; rw [if_neg (by omega), if_neg (by omega), if_pos (by omega)]
            refine rk_iload_n rfl rfl ?_
            refine rk_goto rfl rfl ?_
            refine rk_istore rfl (Nat.le_of_ble_eq_true rfl) rfl ?_
            refine rk_aload_n rfl rfl ?_
            refine rk_get rfl (by assumption) rfl ?_
            refine rk_aload_n rfl rfl ?_
            refine rk_get rfl (by assumption) rfl ?_
            rw [e5]
            refine rk_iload rfl rfl ?_
            refine rk_bipush (v := nI 24) rfl (by decide) ?_
            refine rk_bipush (v := nI 8) rfl (by decide) ?_
            refine rk_iload rfl rfl ?_
            refine rk_iconst (v := nI 4) rfl (by decide) ?_
            refine rk_irem rfl (nI_ne0 (by omega) (by omega)) (pk_rem (by omega) (by omega) (by omega)) ?_
            refine rk_imul rfl (pk_mul _ _) ?_
            refine rk_isub rfl (pk_sub (by omega)) ?_
            refine rk_ishr rfl rfl ?_
            refine rk_sipush (v := nI 255) rfl (by decide) ?_
            refine rk_iand rfl rfl ?_
            refine rk_iast rfl e55 rfl (by omega) (by decide) ?_
            refine hp_gen e55 (fun h0 g0 hk0 hl0 => ?_)
            replace e52 := (hk0 52 (by omega)).trans e52
            replace e55 := g0
            refine rk_aload_n rfl rfl ?_
            refine rk_dup_a rfl ?_
            refine rk_get rfl (by assumption) rfl ?_
            rw [e5]
            refine rk_iconst (v := nI 1) rfl (by decide) ?_
            refine rk_iadd rfl (nI_add _ _) ?_
            refine rk_putM rfl e52 (Or.inr (Or.inl rfl)) (fun h1 g1 hk1 hl1 => ?_)
            refine rk_iinc rfl rfl (n_inc _) rfl ?_
            refine rk_goto rfl rfl ?_
            refine ih (k + 1) _ _ _ _ (by omega) (by omega) (hl1.trans (hl0.trans hl)) (fun q x y => (hk1 q x).trans ((hk0 q y).trans (K q x y))) g1 rfl e13 e14 e22 ((hk1 55 (by omega)).trans e55) (fun q => ?_)
            simp only [upd]
            by_cases e1 : q = tp + k
            · rw [if_pos e1, if_pos (by omega), show q - tp = k by omega, hsel, byt_sshr (by omega)]
            · rw [if_neg e1, hf q]
              by_cases e2 : tp ≤ q ∧ q < tp + k
              · rw [if_pos e2, if_pos (by omega)]
              · rw [if_neg e2, if_neg (by omega)]
        · replace hc23 := mt (nI_leI (by omega) (by omega)).mpr hc23
          have hsel : sel5 a b c dd e k = b := by unfold sel5; rw [if_neg (by omega), if_pos (by omega)]
          refine rk_iload_n rfl rfl ?_
          refine rk_goto rfl rfl ?_
          refine rk_istore rfl (Nat.le_of_ble_eq_true rfl) rfl ?_
          refine rk_aload_n rfl rfl ?_
          refine rk_get rfl (by assumption) rfl ?_
          refine rk_aload_n rfl rfl ?_
          refine rk_get rfl (by assumption) rfl ?_
          rw [e5]
          refine rk_iload rfl rfl ?_
          refine rk_bipush (v := nI 24) rfl (by decide) ?_
          refine rk_bipush (v := nI 8) rfl (by decide) ?_
          refine rk_iload rfl rfl ?_
          refine rk_iconst (v := nI 4) rfl (by decide) ?_
          refine rk_irem rfl (nI_ne0 (by omega) (by omega)) (pk_rem (by omega) (by omega) (by omega)) ?_
          refine rk_imul rfl (pk_mul _ _) ?_
          refine rk_isub rfl (pk_sub (by omega)) ?_
          refine rk_ishr rfl rfl ?_
          refine rk_sipush (v := nI 255) rfl (by decide) ?_
          refine rk_iand rfl rfl ?_
          refine rk_iast rfl e55 rfl (by omega) (by decide) ?_
          refine hp_gen e55 (fun h0 g0 hk0 hl0 => ?_)
          replace e52 := (hk0 52 (by omega)).trans e52
          replace e55 := g0
          refine rk_aload_n rfl rfl ?_
          refine rk_dup_a rfl ?_
          refine rk_get rfl (by assumption) rfl ?_
          rw [e5]
          refine rk_iconst (v := nI 1) rfl (by decide) ?_
          refine rk_iadd rfl (nI_add _ _) ?_
          refine rk_putM rfl e52 (Or.inr (Or.inl rfl)) (fun h1 g1 hk1 hl1 => ?_)
          refine rk_iinc rfl rfl (n_inc _) rfl ?_
          refine rk_goto rfl rfl ?_
          refine ih (k + 1) _ _ _ _ (by omega) (by omega) (hl1.trans (hl0.trans hl)) (fun q x y => (hk1 q x).trans ((hk0 q y).trans (K q x y))) g1 rfl e13 e14 e22 ((hk1 55 (by omega)).trans e55) (fun q => ?_)
          simp only [upd]
          by_cases e1 : q = tp + k
          · rw [if_pos e1, if_pos (by omega), show q - tp = k by omega, hsel, byt_sshr (by omega)]
          · rw [if_neg e1, hf q]
            by_cases e2 : tp ≤ q ∧ q < tp + k
            · rw [if_pos e2, if_pos (by omega)]
            · rw [if_neg e2, if_neg (by omega)]
      · replace hc18 := mt (nI_leI (by omega) (by omega)).mpr hc18
        have hsel : sel5 a b c dd e k = a := if_pos (by omega)
        refine rk_iload_n rfl rfl ?_
        refine rk_goto rfl rfl ?_
        refine rk_istore rfl (Nat.le_of_ble_eq_true rfl) rfl ?_
        refine rk_aload_n rfl rfl ?_
        refine rk_get rfl (by assumption) rfl ?_
        refine rk_aload_n rfl rfl ?_
        refine rk_get rfl (by assumption) rfl ?_
        rw [e5]
        refine rk_iload rfl rfl ?_
        refine rk_bipush (v := nI 24) rfl (by decide) ?_
        refine rk_bipush (v := nI 8) rfl (by decide) ?_
        refine rk_iload rfl rfl ?_
        refine rk_iconst (v := nI 4) rfl (by decide) ?_
        refine rk_irem rfl (nI_ne0 (by omega) (by omega)) (pk_rem (by omega) (by omega) (by omega)) ?_
        refine rk_imul rfl (pk_mul _ _) ?_
        refine rk_isub rfl (pk_sub (by omega)) ?_
        refine rk_ishr rfl rfl ?_
        refine rk_sipush (v := nI 255) rfl (by decide) ?_
        refine rk_iand rfl rfl ?_
        refine rk_iast rfl e55 rfl (by omega) (by decide) ?_
        refine hp_gen e55 (fun h0 g0 hk0 hl0 => ?_)
        replace e52 := (hk0 52 (by omega)).trans e52
        replace e55 := g0
        refine rk_aload_n rfl rfl ?_
        refine rk_dup_a rfl ?_
        refine rk_get rfl (by assumption) rfl ?_
        rw [e5]
        refine rk_iconst (v := nI 1) rfl (by decide) ?_
        refine rk_iadd rfl (nI_add _ _) ?_
        refine rk_putM rfl e52 (Or.inr (Or.inl rfl)) (fun h1 g1 hk1 hl1 => ?_)
        refine rk_iinc rfl rfl (n_inc _) rfl ?_
        refine rk_goto rfl rfl ?_
        refine ih (k + 1) _ _ _ _ (by omega) (by omega) (hl1.trans (hl0.trans hl)) (fun q x y => (hk1 q x).trans ((hk0 q y).trans (K q x y))) g1 rfl e13 e14 e22 ((hk1 55 (by omega)).trans e55) (fun q => ?_)
        simp only [upd]
        by_cases e1 : q = tp + k
        · rw [if_pos e1, if_pos (by omega), show q - tp = k by omega, hsel, byt_sshr (by omega)]
        · rw [if_neg e1, hf q]
          by_cases e2 : tp ≤ q ∧ q < tp + k
          · rw [if_pos e2, if_pos (by omega)]
          · rw [if_neg e2, if_neg (by omega)]
theorem m183_v {X : ai_X} {h : ai_H} {v : Nat → Int32} {tp : Nat} {T : Nat → Int32} (c0 : h[52]? = some (cMdl v)) (c55 : h[55]? = some (cI 600 T)) (hv5 : v 5 = nI tp) {a b c dd e : Int32} (hx : tp + 20 ≤ 600) : Rk X am_183 3 (ai_loc (ai_mL am_183) [.ref 52, .int a, .int b, .int c, .int dd, .int e]) [] h (Qi (fun w h1 => w = nI (tp + 20) ∧ h1.length = h.length ∧ (∀ q : Nat, q ≠ 52 → q ≠ 55 → h1[q]? = h[q]?) ∧ (∃ v1 : Nat → Int32, h1[52]? = some (cMdl v1) ∧ v1 5 = nI (tp + 20) ∧ v1 13 = v 13 ∧ v1 14 = v 14 ∧ v1 22 = v 22) ∧ ∃ T', h1[55]? = some (cI 600 T') ∧ ∀ q, T' q = if tp ≤ q ∧ q < tp + 20 then byt (sel5 a b c dd e (q - tp)) (24 - 8 * ((q - tp) % 4)) else T q)) := by
  refine rk_aload_n rfl rfl ?_
  refine rk_get rfl (by assumption) rfl ?_
  rw [hv5]
  refine rk_bipush (v := nI 20) rfl (by decide) ?_
  refine rk_iadd rfl (nI_add _ _) ?_
  refine rk_sipush (v := nI 600) rfl (by decide) ?_
  refine rk_icmp_le rfl rfl (fun hc8 => ?_) (fun hc8 => ?_)
  · replace hc8 := (nI_leI (by omega) (by omega)).mp hc8
    refine rk_iconst (v := nI 0) rfl (by decide) ?_
    refine rk_istore rfl (Nat.le_of_ble_eq_true rfl) rfl ?_
    exact l183 c0 c55 hv5 hx 21 0 h v T _ (by omega) (by omega) rfl (fun _ _ _ => rfl) c0 hv5 rfl rfl rfl c55 (fun q => by rw [if_neg (by omega)])
  · replace hc8 := mt (nI_leI (by omega) (by omega)).mpr hc8
    omega
theorem ob0 (X : ai_X) : O0 X Inv := by
  intro a b c d e
  refine ob_gen fun m c' s h _ I => ?_
  obtain ⟨tp, T, A, im, rs, rm, nu, fk, fp, bb, hP⟩ := id I
  obtain ⟨hA, hB, hR, hI, hS, hO, hM, hV, hD, hc, hs⟩ := id hP
  obtain ⟨⟨v, mk, d52, hv5, -⟩, -, -, d55, -⟩ := id hM
  have d0 := hA.1
  have d1 := hA.2.1
  have htp := hV.1
  have K : ∀ {W : Int32}, (∀ h2 : ai_H, h2[52]? = some (cMdl (upd v 0 (nI 0))) → (∀ q : Nat, q ≠ 52 → h2[q]? = h[q]?) → Rk X am_183 3 (ai_loc (ai_mL am_183) [.ref 52, .int a, .int b, .int c, .int d, .int e]) [] h2 (Qe W h2)) → Mt X am_183 [.ref 52, .int a, .int b, .int c, .int d, .int e] h (Qi (fun w h1 => w = W ∧ MdO h h1)) := fun z => md_thr rfl rfl rfl rfl d52 z
  by_cases hx : tp + 20 ≤ 600
  · refine ⟨_, _, c129_v d0 d1 hx, ?_⟩
    rintro h1 ⟨F1, g0, T1, g1, hT1⟩ k1
    have e52 := (F1.2 52 (by omega)).trans d52
    refine ⟨⟨_, e52⟩, md_g rfl rfl rfl rfl e52 (fun h2 g2 hk hl => ?_)⟩
    refine (m183_v g2 ((hk _ (by omega)).trans ((F1.2 55 (by omega)).trans d55)) hv5 hx).mono ?_
    rintro o ⟨w, h3, rfl, rfl, l3, K3, ⟨v1, x0, x5, x13, x14, x22⟩, T3, g55, hT3⟩
    have hTT : T1 = T3 := funext fun q => by rw [hT1, hT3]
    subst hTT
    refine ⟨_, _, rfl, rfl, fun k2 => Inv.tape hP (k1.trans k2) (by rw [l3, hl, F1.1]) (fun q y0 y1 y2 y3 => (K3 q y2 y3).trans ((hk q y2).trans (F1.2 q (by omega)))) ((K3 0 (by omega) (by omega)).trans ((hk 0 (by omega)).trans g0)) ((K3 1 (by omega) (by omega)).trans ((hk 1 (by omega)).trans g1)) ?_ g55 hx ?_⟩
    · intro v' hv'
      rw [d52] at hv'
      obtain ⟨y1, y2, y3, y4⟩ := cMdl_inj (Option.some.inj hv')
      exact ⟨v1, x0, x5, x13.trans y2, x14.trans y3, x22.trans y4⟩
    · intro i hi
      rw [hT1]
      split
      · exact and255 _
      · exact hV.2.1 i hi
  · exact og_pure I (c129_x d0 d1 (by omega) htp) (K fun h2 g2 hk => m183_x g2 ((hk 55 (by omega)).trans d55) hv5 (by omega) htp)
