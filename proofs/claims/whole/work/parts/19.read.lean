/-! OBLIGATIONS of calls that only read, their arguments within bounds or not -/
theorem bI_congr {p q : Prop} [Decidable p] [Decidable q] (h : p ↔ q) : bI p = bI q := by
  by_cases hp : p
  · rw [bI_t hp, bI_t (h.mp hp)]
  · rw [bI_f hp, bI_f (fun z => hp (h.mpr z))]
/-- x is one of n numbers -/
def In (n : Nat) (x : Int32) : Prop := ¬ x < 0 ∧ ¬ nI n ≤ x
theorem in_iff {n : Nat} {x : Int32} (hn : n < 2 ^ 30) : (¬ x < 0 ∧ ¬ (nI n - nI 1) < x) ↔ (¬ x < 0 ∧ ¬ nI n ≤ x) := by
  have e : nI n - nI 1 < x ↔ nI n ≤ x := by
    rw [Int32.lt_iff_toInt_lt, Int32.le_iff_toInt_le, pk_sub_toInt hn (by decide), nI_toInt (by omega)]
    omega
  rw [e]
theorem in_of {n : Nat} {x : Int32} (hn : n < 2 ^ 31) (h : ¬ x < 0 ∧ ¬ nI n ≤ x) : ∃ k, k < n ∧ x = nI k := by
  rcases pk_ix x hn with z | z | z
  · exact absurd z h.1
  · exact absurd z h.2
  · exact z
theorem in_mk {n k : Nat} (hn : n < 2 ^ 31) (h : k < n) : ¬ nI k < 0 ∧ ¬ nI n ≤ nI k := ⟨nI_pos (by omega), nI_ge h hn⟩
theorem cl_nI {k : Nat} (h : k < 2 ^ 31) : (nI k).toNatClampNeg = k := nI_clamp h
theorem s23n {X : ai_X} {h : ai_H} {p n : Nat} {F : Nat → Int32} {G : Nat → Nat → Int32} (H : HouseAt h p F G) (hF : F 0 = nI n) (x : Int32) : Mt X am_23 [.ref p, .int x] h (Qe (bI (¬ x < 0 ∧ ¬ nI n ≤ x)) h) := by
  rw [← hF]
  exact s23 H x
theorem s24n {X : ai_X} {h : ai_H} {p n : Nat} {F : Nat → Int32} {G : Nat → Nat → Int32} (H : HouseAt h p F G) (hF : F 1 = nI n) (x : Int32) : Mt X am_24 [.ref p, .int x] h (Qe (bI (¬ x < 0 ∧ ¬ nI n ≤ x)) h) := by
  rw [← hF]
  exact s24 H x
theorem s25n {X : ai_X} {h : ai_H} {p n : Nat} {F : Nat → Int32} {G : Nat → Nat → Int32} (H : HouseAt h p F G) (hF : F 4 = nI n) (x : Int32) : Mt X am_25 [.ref p, .int x] h (Qe (bI (¬ x < 0 ∧ ¬ nI n ≤ x)) h) := by
  rw [← hF]
  exact s25 H x
theorem s207n {X : ai_X} {h : ai_H} {n : Nat} {v A : Nat → Int32} (c0 : h[52]? = some (cMdl v)) (c1 : h[53]? = some (cI 2346 A)) (hA : A 0 = nI n) (hn : n < 2 ^ 30) (x : Int32) : Mt X am_207 [.ref 52, .int x] h (Qe (bI (¬ x < 0 ∧ ¬ nI n ≤ x)) h) := by
  have z := s207 (X := X) c0 c1 x
  rw [hA, bI_congr (in_iff hn)] at z
  exact z
theorem s209n {X : ai_X} {h : ai_H} {n : Nat} {v A : Nat → Int32} (c0 : h[52]? = some (cMdl v)) (c1 : h[53]? = some (cI 2346 A)) (hA : A 271 = nI n) (hn : n < 2 ^ 30) (x : Int32) : Mt X am_209 [.ref 52, .int x] h (Qe (bI (¬ x < 0 ∧ ¬ nI n ≤ x)) h) := by
  have z := s209 (X := X) c0 c1 x
  rw [hA, bI_congr (in_iff hn)] at z
  exact z
theorem c135 {X : ai_X} {h : ai_H} {tp x : Int32} {w : Nat} {F : Nat → Int32} {G : Nat → Nat → Int32} (c0 : h[0]? = some (cOne tp)) (H : HouseAt h 3 F G) (hF : F 4 = nI w) (hw : w ≤ 8) : Mt X am_135 [.ref 0, .int x] h (Qe (if ¬ x < 0 ∧ ¬ nI w ≤ x then G 4 x.toNatClampNeg else -2) h) := by
  have hc00 : h[3]? = some (cHouse 3 F) := H.1
  refine rk_aload_n rfl rfl ?_
  refine rk_get rfl (by assumption) rfl ?_
  refine rk_iload_n rfl rfl ?_
  refine rk_cv1e rfl rfl (by assumption) rfl rfl (Nat.le_of_ble_eq_true rfl) (Nat.le_of_ble_eq_true rfl) (s25n H hF _) ?_
  refine rk_if_eq rfl rfl (fun hc4 => ?_) (fun hc4 => ?_)
  · replace hc4 := (bI_0).mp hc4
    rw [if_neg hc4]
    refine rk_bipush (v := (-2)) rfl (by decide) ?_
    exact rk_ireturn rfl rfl Qe_mk
  · replace hc4 := Decidable.not_not.mp (mt bI_0.mpr hc4)
    rw [if_pos hc4]
    obtain ⟨k, hk, rfl⟩ := in_of (by omega) hc4
    rw [cl_nI (by omega)]
    refine rk_aload_n rfl rfl ?_
    refine rk_get rfl (by assumption) rfl ?_
    refine rk_iload_n rfl rfl ?_
    refine rk_cv1e rfl rfl (by assumption) rfl rfl (Nat.le_of_ble_eq_true rfl) (Nat.le_of_ble_eq_true rfl) (s31 H (by omega)) ?_
    refine rk_goto rfl rfl ?_
    exact rk_ireturn rfl rfl Qe_mk
theorem m217 {X : ai_X} {h : ai_H} {x : Int32} {w : Nat} {v A : Nat → Int32} (c0 : h[52]? = some (cMdl v)) (c1 : h[53]? = some (cI 2346 A)) (hA : A 271 = nI w) (hw : w ≤ 8) : Rk X am_217 3 (ai_loc (ai_mL am_217) [.ref 52, .int x]) [] h (Qe (if ¬ x < 0 ∧ ¬ nI w ≤ x then A (272 + x.toNatClampNeg) else -2) h) := by
  refine rk_aload_n rfl rfl ?_
  refine rk_iload_n rfl rfl ?_
  refine rk_cv1e rfl rfl (by assumption) rfl rfl (Nat.le_of_ble_eq_true rfl) (Nat.le_of_ble_eq_true rfl) (s209n c0 c1 hA (by omega) _) ?_
  refine rk_if_eq rfl rfl (fun hc6 => ?_) (fun hc6 => ?_)
  · replace hc6 := (bI_0).mp hc6
    rw [if_neg hc6]
    refine rk_bipush (v := (-2)) rfl (by decide) ?_
    exact rk_ireturn rfl rfl Qe_mk
  · replace hc6 := Decidable.not_not.mp (mt bI_0.mpr hc6)
    rw [if_pos hc6]
    obtain ⟨k, hk, rfl⟩ := in_of (by omega) hc6
    rw [cl_nI (by omega)]
    refine rk_aload_n rfl rfl ?_
    refine rk_get rfl (by assumption) rfl ?_
    refine rk_sipush (v := nI 272) rfl (by decide) ?_
    refine rk_iload_n rfl rfl ?_
    refine rk_iadd rfl (nI_add _ _) ?_
    refine rk_iald rfl (by assumption) (rfl) (by omega) (by decide) ?_
    refine rk_goto rfl rfl ?_
    exact rk_ireturn rfl rfl Qe_mk
theorem ob5 (X : ai_X) : O5 X Inv := by
  intro x
  refine ob_pure fun m c s h I => ?_
  obtain ⟨tp, T, A, im, rs, rm, nu, fk, fp, b, ⟨a1, -⟩, ⟨⟨F, G, hH, hC⟩, -⟩, -, -, -, -, ⟨⟨v, mk, e1, -⟩, e2, -⟩, ⟨-, -, ⟨n, t, w, hV, -⟩, -⟩, -⟩ := I
  obtain ⟨q1, q2, q3, q4, -⟩ := id hV
  have hF : F 4 = nI w := hC.2.2.2.2.1.trans q3
  refine ⟨_, c135 (x := x) a1 hH hF q4, ?_⟩
  refine md_thr rfl rfl rfl rfl e1 (fun h1 g1 hk => ?_)
  have z := m217 (X := X) (x := x) g1 ((hk 53 (by omega)).trans e2) q3 q4
  have hW : (if ¬ x < 0 ∧ ¬ nI w ≤ x then A (272 + x.toNatClampNeg) else -2) = if ¬ x < 0 ∧ ¬ nI w ≤ x then G 4 x.toNatClampNeg else -2 := by
    by_cases hx : ¬ x < 0 ∧ ¬ nI w ≤ x
    · rw [if_pos hx, if_pos hx]
      obtain ⟨k, hk, rfl⟩ := in_of (by omega) hx
      rw [cl_nI (by omega), hC.2.2.2.2.2.2.2.2.2.1 k (by rw [hF, cl_nI (by omega)]; exact hk)]
    · rw [if_neg hx, if_neg hx]
  rw [hW] at z
  exact z
