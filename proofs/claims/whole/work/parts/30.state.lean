/-! WHAT HOLDS, WHEN A CALL HAS WRITTEN -/
abbrev InvP (m c s : Nat) (h : ai_H) (tp : Nat) (T A im rs rm : Nat → Int32) (nu : Nat → Int64) (fk fp : Int32) (b : Nat → Option Nat) : Prop := InvA h tp T fk fp ∧ InvB h A ∧ InvR h rs rm nu ∧ InvI h A im b ∧ InvS h b ∧ InvO h ∧ InvM h m tp T A im rs rm nu fk fp ∧ InvV tp T A im ∧ DynOk h b ∧ c + pend b blN ≤ 104 ∧ s + pend b blS ≤ 534748
theorem InvM.up {h h1 : ai_H} {m m' tp tp' : Nat} {T A im rs rm T' A' im' rs' rm' : Nat → Int32} {nu nu' : Nat → Int64} {fk fp fk' fp' : Int32} (k : ai_Sk h h1) (w : ∃ v mk, h1[52]? = some (cMdl v) ∧ v 5 = nI tp' ∧ v 13 = fk' ∧ v 14 = fp' ∧ v 22 = nI mk ∧ mk ≤ 4000 * m' ∧ ∃ sm, h1[62]? = some (cI 65536 sm) ∧ ∀ i, i < 65536 → ∃ x, x ≤ mk ∧ sm i = nI x) (a1 : h1[53]? = some (cI 2346 A')) (a2 : h1[54]? = some (cZ 2 im')) (a3 : h1[55]? = some (cI 600 T')) (a4 : h1[77]? = some (cI 4 rs')) (a5 : h1[78]? = some (cI 4 rm')) (a6 : h1[79]? = some (cJ 160 nu')) (H : InvM h m tp T A im rs rm nu fk fp) : InvM h1 m' tp' T' A' im' rs' rm' nu' fk' fp' := by
  obtain ⟨-, -, -, -, -, -, -, s1, s2, s3, s4, s5, s6, s7, s8, s9, s10, s11, s12, s13, s14, s15, s16, s17, s18, s19, s20⟩ := H
  exact ⟨w, a1, a2, a3, a4, a5, a6, s1.sk k, s2.sk k, s3.sk k, s4.sk k, s5.sk k, s6.sk k, s7.sk k, s8.sk k, s9.sk k, s10.sk k, s11.sk k, s12.sk k, s13.sk k, s14.sk k, s15.sk k, s16.sk k, s17.sk k, s18.sk k, s19.sk k, s20.sk k⟩
/-- the model's object, as it must be -/
theorem InvM.obj {h h1 : ai_H} {m tp : Nat} {T A im rs rm : Nat → Int32} {nu : Nat → Int64} {fk fp : Int32} (H : InvM h m tp T A im rs rm nu fk fp) (h62 : h1[62]? = h[62]?) (w : ∀ v : Nat → Int32, h[52]? = some (cMdl v) → ∃ v1 : Nat → Int32, h1[52]? = some (cMdl v1) ∧ v1 5 = v 5 ∧ v1 13 = v 13 ∧ v1 14 = v 14 ∧ v1 22 = v 22) : ∃ v mk, h1[52]? = some (cMdl v) ∧ v 5 = nI tp ∧ v 13 = fk ∧ v 14 = fp ∧ v 22 = nI mk ∧ mk ≤ 4000 * (m + 1) ∧ ∃ sm, h1[62]? = some (cI 65536 sm) ∧ ∀ i, i < 65536 → ∃ x, x ≤ mk ∧ sm i = nI x := by
  obtain ⟨⟨v, mk, e1, e2, e3, e4, e5, e6, sm, e7, e8⟩, -⟩ := H
  obtain ⟨v1, f1, f2, f3, f4, f5⟩ := w v e1
  exact ⟨v1, mk, f1, f2.trans e2, f3.trans e3, f4.trans e4, f5.trans e5, by omega, sm, h62.trans e7, e8⟩
theorem Inv.rows {m c s : Nat} {h h2 : ai_H} {tp : Nat} {T A im rs rm rs' rm' : Nat → Int32} {nu nu' : Nat → Int64} {fk fp : Int32} {b : Nat → Option Nat} (I : InvP m c s h tp T A im rs rm nu fk fp b) (k : ai_Sk h h2) (hl : h2.length = h.length) (K : ∀ q : Nat, ¬ (44 ≤ q ∧ q < 53) → ¬ (77 ≤ q ∧ q < 80) → h2[q]? = h[q]?) (w : ∀ v : Nat → Int32, h[52]? = some (cMdl v) → ∃ v1 : Nat → Int32, h2[52]? = some (cMdl v1) ∧ v1 5 = v 5 ∧ v1 13 = v 13 ∧ v1 14 = v 14 ∧ v1 22 = v 22) (R : InvR h2 rs' rm' nu') (c77 : h2[77]? = some (cI 4 rs')) (c78 : h2[78]? = some (cI 4 rm')) (c79 : h2[79]? = some (cJ 160 nu')) : Inv (m + 1) (c + 0) (s + 0) h2 := by
  obtain ⟨hA, hB, hR, hI, hS, hO, hM, hV, hD, hc, hs⟩ := I
  refine ⟨tp, T, A, im, rs', rm', nu', fk, fp, b, hA.fr (fun q _ => K q (by omega) (by omega)), hB.fr (fun q _ _ => K q (by omega) (by omega)), R, hI.fr (K 20 (by omega) (by omega)) (K 21 (by omega) (by omega)) (fun i p hi e q _ _ => ?_), hS.fr (fun q _ _ => K q (by omega) (by omega)) (fun i p _ hi e q _ _ => ?_), hO.fr (fun q _ _ => K q (by omega) (by omega)), hM.up k (hM.obj (K 62 (by omega) (by omega)) w) ?_ ?_ ?_ c77 c78 c79, hV, hD.fr (by omega), hc, hs⟩
  · have := (hD i p (by omega) e).1
    exact K q (by omega) (by omega)
  · have := (hD i p hi e).1
    exact K q (by omega) (by omega)
  · exact (K 53 (by omega) (by omega)).trans hM.2.1
  · exact (K 54 (by omega) (by omega)).trans hM.2.2.1
  · exact (K 55 (by omega) (by omega)).trans hM.2.2.2.1
/-- an obligation of one call at one heap -/
def OG (X : ai_X) (m c s : Nat) (h : ai_H) (Mc Mm : ai_M) (as : List Value) : Prop := ∃ (W : Int32) (E : ai_H → Prop), Mt X Mc (.ref 0 :: as) h (Qi (fun w h1 => w = W ∧ E h1)) ∧ ∀ h1, E h1 → ai_Sk h h1 → (∃ fs, h1[52]? = some (.inr (11, fs))) ∧ Mt X Mm (.ref 52 :: as) h1 (Qi (fun w h2 => w = W ∧ (ai_Sk h1 h2 → Inv (m + 1) (c + 0) (s + 0) h2)))
def OGL (X : ai_X) (m c s : Nat) (h : ai_H) (Mc Mm : ai_M) (as : List Value) : Prop := ∃ (W : Int64) (E : ai_H → Prop), Mt X Mc (.ref 0 :: as) h (Ql (fun w h1 => w = W ∧ E h1)) ∧ ∀ h1, E h1 → ai_Sk h h1 → (∃ fs, h1[52]? = some (.inr (11, fs))) ∧ Mt X Mm (.ref 52 :: as) h1 (Ql (fun w h2 => w = W ∧ (ai_Sk h1 h2 → Inv (m + 1) (c + 0) (s + 0) h2)))
theorem ob_gen {X : ai_X} {Mc Mm : ai_M} {as : List Value} (hc : ∀ m c s h, m < 64 → Inv m c s h → OG X m c s h Mc Mm as) : Ob X Inv Mc Mm as := by
  intro m c s h hm I
  obtain ⟨W, E, hcl, hmd⟩ := hc m c s h hm I
  obtain ⟨n, o, hn, ⟨w, h1, rfl, rfl, S⟩, k1⟩ := hcl.sk
  obtain ⟨⟨fs, hf⟩, h3⟩ := hmd h1 S k1
  obtain ⟨n2, o2, hn2, ⟨w2, h2, rfl, rfl, S2⟩, k2⟩ := h3.sk
  exact ⟨n, _, hn, _, h1, 0, 0, fs, rfl, hf, n2, _, hn2, h2, rfl, S2 k2⟩
theorem obL_gen {X : ai_X} {Mc Mm : ai_M} {as : List Value} (hc : ∀ m c s h, m < 64 → Inv m c s h → OGL X m c s h Mc Mm as) : ObL X Inv Mc Mm as := by
  intro m c s h hm I
  obtain ⟨W, E, hcl, hmd⟩ := hc m c s h hm I
  obtain ⟨n, o, hn, ⟨w, h1, rfl, rfl, S⟩, k1⟩ := hcl.sk
  obtain ⟨⟨fs, hf⟩, h3⟩ := hmd h1 S k1
  obtain ⟨n2, o2, hn2, ⟨w2, h2, rfl, rfl, S2⟩, k2⟩ := h3.sk
  exact ⟨n, _, hn, _, h1, 0, 0, fs, rfl, hf, n2, _, hn2, h2, rfl, S2 k2⟩
theorem Inv.m52 {m c s : Nat} {h : ai_H} (I : Inv m c s h) : ∃ v, h[52]? = some (cMdl v) := by
  obtain ⟨tp, v, A, N, ro, d0, d52, -⟩ := I.dat
  exact ⟨v, d52⟩
theorem og_pure {X : ai_X} {m c s : Nat} {h : ai_H} {Mc Mm : ai_M} {as : List Value} {W : Int32} (I : Inv m c s h) (a : Mt X Mc (.ref 0 :: as) h (Qe W h)) (b : Mt X Mm (.ref 52 :: as) h (Qi (fun w h1 => w = W ∧ MdO h h1))) : OG X m c s h Mc Mm as := by
  obtain ⟨v, hv⟩ := I.m52
  refine ⟨W, fun h1 => h1 = h, a, fun h1 e _ => ?_⟩
  subst e
  refine ⟨⟨_, hv⟩, Rk.mono ?_ b⟩
  rintro o ⟨w, h2, rfl, rfl, hO⟩
  exact ⟨_, _, rfl, rfl, fun _ => I.ob hO.1 hO.2.1 hO.w⟩
theorem ogL_pure {X : ai_X} {m c s : Nat} {h : ai_H} {Mc Mm : ai_M} {as : List Value} {W : Int64} (I : Inv m c s h) (a : Mt X Mc (.ref 0 :: as) h (Ql (fun w h1 => w = W ∧ h1 = h))) (b : Mt X Mm (.ref 52 :: as) h (Ql (fun w h1 => w = W ∧ MdO h h1))) : OGL X m c s h Mc Mm as := by
  obtain ⟨v, hv⟩ := I.m52
  refine ⟨W, fun h1 => h1 = h, a, fun h1 e _ => ?_⟩
  subst e
  refine ⟨⟨_, hv⟩, Rk.mono ?_ b⟩
  rintro o ⟨w, h2, rfl, rfl, hO⟩
  exact ⟨_, _, rfl, rfl, fun _ => I.ob hO.1 hO.2.1 hO.w⟩
/-- the model's call behind its first three rows -/
theorem md_g {X : ai_X} {M : ai_M} {ls : ai_L} {h : ai_H} {P : ai_O → Prop} {pc0 len0 a0 b0 p0 q0 pc1 len1 a1 b1 p1 q1 pc2 len2 p2 q2 i2 : Nat} {x0 x1 x2 : Value} {v : Nat → Int32} (r0 : (ai_mR M)[0]? = some (pc0, .aload_n 0, len0, x0, a0, b0, p0, q0)) (r1 : (ai_mR M)[1]? = some (pc1, .iconst 0, len1, x1, a1, b1, p1, q1)) (r2 : (ai_mR M)[2]? = some (pc2, .putfield i2, len2, x2, 11, 0, p2, q2)) (l0 : ls[0]? = some (some (.ref 52))) (hv : h[52]? = some (cMdl v)) (z : ∀ h1 : ai_H, h1[52]? = some (cMdl (upd v 0 (nI 0))) → (∀ q : Nat, q ≠ 52 → h1[q]? = h[q]?) → h1.length = h.length → Rk X M 3 ls [] h1 P) : Rk X M 0 ls [] h P := by
  refine rk_aload_n r0 l0 ?_
  refine rk_iconst (v := nI 0) r1 (by decide) ?_
  exact rk_putM r2 hv (Or.inl rfl) z
theorem md_thrL {X : ai_X} {M : ai_M} {ls : ai_L} {h : ai_H} {W : Int64} {pc0 len0 a0 b0 p0 q0 pc1 len1 a1 b1 p1 q1 pc2 len2 p2 q2 i2 : Nat} {x0 x1 x2 : Value} {v : Nat → Int32} (r0 : (ai_mR M)[0]? = some (pc0, .aload_n 0, len0, x0, a0, b0, p0, q0)) (r1 : (ai_mR M)[1]? = some (pc1, .iconst 0, len1, x1, a1, b1, p1, q1)) (r2 : (ai_mR M)[2]? = some (pc2, .putfield i2, len2, x2, 11, 0, p2, q2)) (l0 : ls[0]? = some (some (.ref 52))) (hv : h[52]? = some (cMdl v)) (z : ∀ h1 : ai_H, h1[52]? = some (cMdl (upd v 0 (nI 0))) → (∀ q : Nat, q ≠ 52 → h1[q]? = h[q]?) → Rk X M 3 ls [] h1 (Ql (fun w h2 => w = W ∧ h2 = h1))) : Rk X M 0 ls [] h (Ql (fun w h1 => w = W ∧ MdO h h1)) := by
  refine md_g r0 r1 r2 l0 hv (fun h1 g1 hk hl => (z h1 g1 hk).mono ?_)
  rintro o ⟨w, h2, rfl, rfl, rfl⟩
  exact ⟨w, h2, rfl, rfl, hk, hl, v, _, hv, g1, rfl, rfl, rfl, rfl⟩
theorem c137_x {X : ai_X} {h : ai_H} {tp : Int32} {ro : Nat → Option Nat} {N : Nat → Nat} (d0 : h[0]? = some (cOne tp)) (hN : HN N) (C : CH h 3 N) (d19 : h[19]? = some (cR 3 4 ro)) (hro : ∀ i, i < 4 → ro i = some (44 + 2 * i)) {a : Int32} (ha : ¬ (¬ a < 0 ∧ ¬ nI 4 ≤ a)) : Mt X am_137 [.ref 0, .int a] h (Qe (-2) h) := by
  have d3 := C.1
  refine rk_aload_n rfl rfl ?_
  refine rk_iload_n rfl rfl ?_
  refine rk_cv1e rfl rfl (by assumption) rfl rfl (Nat.le_of_ble_eq_true rfl) (Nat.le_of_ble_eq_true rfl) (s179 _) ?_
  refine rk_if_ne rfl rfl (fun hc3 => ?_) (fun hc3 => ?_)
  · replace hc3 := Decidable.not_not.mp (mt bI_0.mpr hc3)
    exact absurd hc3 ha
  · replace hc3 := Decidable.not_not.mp hc3
    replace hc3 := (bI_0).mp hc3
    refine rk_bipush (v := (-2)) rfl (by decide) ?_
    exact rk_ireturn rfl rfl Qe_mk
theorem c137_t {X : ai_X} {h : ai_H} {tp : Int32} {ro : Nat → Option Nat} {N : Nat → Nat} (d0 : h[0]? = some (cOne tp)) (hN : HN N) (C : CH h 3 N) (d19 : h[19]? = some (cR 3 4 ro)) (hro : ∀ i, i < 4 → ro i = some (44 + 2 * i)) {i : Nat} (hi : i < 4) (ht : N 1 = 0) : Mt X am_137 [.ref 0, .int (nI i)] h (Qe (-5) h) := by
  have d3 := C.1
  refine rk_aload_n rfl rfl ?_
  refine rk_iload_n rfl rfl ?_
  refine rk_cv1e rfl rfl (by assumption) rfl rfl (Nat.le_of_ble_eq_true rfl) (Nat.le_of_ble_eq_true rfl) (s179 _) ?_
  refine rk_if_ne rfl rfl (fun hc3 => ?_) (fun hc3 => ?_)
  · replace hc3 := Decidable.not_not.mp (mt bI_0.mpr hc3)
    refine rk_aload_n rfl rfl ?_
    refine rk_get rfl (by assumption) rfl ?_
    refine rk_get rfl (by assumption) rfl ?_
    refine rk_if_ne rfl rfl (fun hc9 => ?_) (fun hc9 => ?_)
    · replace hc9 := mt (n0_eq (by omega)).mpr hc9
      exact absurd ht hc9
    · replace hc9 := Decidable.not_not.mp hc9
      replace hc9 := (n0_eq (by omega)).mp hc9
      refine rk_bipush (v := (-5)) rfl (by decide) ?_
      exact rk_ireturn rfl rfl Qe_mk
  · replace hc3 := Decidable.not_not.mp hc3
    replace hc3 := (bI_0).mp hc3
    exact absurd (in_mk (by omega) hi) hc3
theorem c137_m {X : ai_X} {h : ai_H} {tp : Int32} {ro : Nat → Option Nat} {N : Nat → Nat} (d0 : h[0]? = some (cOne tp)) (hN : HN N) (C : CH h 3 N) (d19 : h[19]? = some (cR 3 4 ro)) (hro : ∀ i, i < 4 → ro i = some (44 + 2 * i)) {i : Nat} {sz so : Int32} {f : Nat → Int64} (hi : i < 4) (R : NumAt h (44 + 2 * i) sz so f) (ht : ¬ N 1 = 0) (hz : sz = -1) : Mt X am_137 [.ref 0, .int (nI i)] h (Qe (-6) h) := by
  have d3 := C.1
  have h6 := hN.t
  have rn := R.1
  refine rk_aload_n rfl rfl ?_
  refine rk_iload_n rfl rfl ?_
  refine rk_cv1e rfl rfl (by assumption) rfl rfl (Nat.le_of_ble_eq_true rfl) (Nat.le_of_ble_eq_true rfl) (s179 _) ?_
  refine rk_if_ne rfl rfl (fun hc3 => ?_) (fun hc3 => ?_)
  · replace hc3 := Decidable.not_not.mp (mt bI_0.mpr hc3)
    refine rk_aload_n rfl rfl ?_
    refine rk_get rfl (by assumption) rfl ?_
    refine rk_get rfl (by assumption) rfl ?_
    refine rk_if_ne rfl rfl (fun hc9 => ?_) (fun hc9 => ?_)
    · replace hc9 := mt (n0_eq (by omega)).mpr hc9
      refine rk_aload_n rfl rfl ?_
      refine rk_get rfl (by assumption) rfl ?_
      refine rk_iload_n rfl rfl ?_
      refine rk_aald (w := .ref (44 + 2 * i)) rfl (by assumption) (by decide) rfl (by omega) (by decide) (by rw [hro i hi]; rfl) ?_
      refine rk_cv0e rfl rfl (by assumption) rfl rfl (Nat.le_of_ble_eq_true rfl) (Nat.le_of_ble_eq_true rfl) (s43 R) ?_
      refine rk_if_eq rfl rfl (fun hc17 => ?_) (fun hc17 => ?_)
      · replace hc17 := (bI_0).mp hc17
        exact absurd hz hc17
      · replace hc17 := Decidable.not_not.mp (mt bI_0.mpr hc17)
        refine rk_bipush (v := (-6)) rfl (by decide) ?_
        exact rk_ireturn rfl rfl Qe_mk
    · replace hc9 := Decidable.not_not.mp hc9
      replace hc9 := (n0_eq (by omega)).mp hc9
      exact absurd hc9 ht
  · replace hc3 := Decidable.not_not.mp hc3
    replace hc3 := (bI_0).mp hc3
    exact absurd (in_mk (by omega) hi) hc3
theorem c137_v {X : ai_X} {h : ai_H} {tp : Int32} {ro : Nat → Option Nat} {N : Nat → Nat} (d0 : h[0]? = some (cOne tp)) (hN : HN N) (C : CH h 3 N) (d19 : h[19]? = some (cR 3 4 ro)) (hro : ∀ i, i < 4 → ro i = some (44 + 2 * i)) {i : Nat} {L : Nat} {so : Int32} {f : Nat → Int64} (hi : i < 4) (R : NumAt h (44 + 2 * i) (nI L) so f) (hL : L ≤ 40) (ht : ¬ N 1 = 0) : Mt X am_137 [.ref 0, .int (nI i)] h (Qe (fb f (N 1) L 0) h) := by
  have d3 := C.1
  have h6 := hN.t
  have rn := R.1
  refine rk_aload_n rfl rfl ?_
  refine rk_iload_n rfl rfl ?_
  refine rk_cv1e rfl rfl (by assumption) rfl rfl (Nat.le_of_ble_eq_true rfl) (Nat.le_of_ble_eq_true rfl) (s179 _) ?_
  refine rk_if_ne rfl rfl (fun hc3 => ?_) (fun hc3 => ?_)
  · replace hc3 := Decidable.not_not.mp (mt bI_0.mpr hc3)
    refine rk_aload_n rfl rfl ?_
    refine rk_get rfl (by assumption) rfl ?_
    refine rk_get rfl (by assumption) rfl ?_
    refine rk_if_ne rfl rfl (fun hc9 => ?_) (fun hc9 => ?_)
    · replace hc9 := mt (n0_eq (by omega)).mpr hc9
      refine rk_aload_n rfl rfl ?_
      refine rk_get rfl (by assumption) rfl ?_
      refine rk_iload_n rfl rfl ?_
      refine rk_aald (w := .ref (44 + 2 * i)) rfl (by assumption) (by decide) rfl (by omega) (by decide) (by rw [hro i hi]; rfl) ?_
      refine rk_cv0e rfl rfl (by assumption) rfl rfl (Nat.le_of_ble_eq_true rfl) (Nat.le_of_ble_eq_true rfl) (s43 R) ?_
      refine rk_if_eq rfl rfl (fun hc17 => ?_) (fun hc17 => ?_)
      · replace hc17 := (bI_0).mp hc17
        refine rk_aload_n rfl rfl ?_
        refine rk_get rfl (by assumption) rfl ?_
        refine rk_iload_n rfl rfl ?_
        refine rk_aald (w := .ref (44 + 2 * i)) rfl (by assumption) (by decide) rfl (by omega) (by decide) (by rw [hro i hi]; rfl) ?_
        refine rk_aload_n rfl rfl ?_
        refine rk_get rfl (by assumption) rfl ?_
        refine rk_get rfl (by assumption) rfl ?_
        refine rk_cv1e rfl rfl (by assumption) rfl rfl (Nat.le_of_ble_eq_true rfl) (Nat.le_of_ble_eq_true rfl) (s48 R.1 R.2 hL) ?_
        exact rk_ireturn rfl rfl Qe_mk
      · replace hc17 := Decidable.not_not.mp (mt bI_0.mpr hc17)
        exact absurd hc17 (nm_eq (by omega))
    · replace hc9 := Decidable.not_not.mp hc9
      replace hc9 := (n0_eq (by omega)).mp hc9
      exact absurd hc9 ht
  · replace hc3 := Decidable.not_not.mp hc3
    replace hc3 := (bI_0).mp hc3
    exact absurd (in_mk (by omega) hi) hc3
theorem m220_x {X : ai_X} {h : ai_H} {v A : Nat → Int32} {N : Nat → Nat} (c0 : h[52]? = some (cMdl v)) (c1 : h[53]? = some (cI 2346 A)) (hN : HN N) (M : MH A N) {a : Int32} (ha : ¬ (¬ a < 0 ∧ ¬ nI 4 ≤ a)) : Rk X am_220 3 (ai_loc (ai_mL am_220) [.ref 52, .int a]) [] h (Qe (-2) h) := by
  obtain ⟨a0, a1, a268, a269, a270, a271, apl, apc, aot, asg, awt⟩ := id M
  refine rk_iload_n rfl rfl ?_
  refine rk_i2l rfl rfl ?_
  refine rk_lconst (v := 0) rfl (by decide) ?_
  rw [show (0 : Int64) = (0 : Int32).toInt64 by decide]
  refine rk_ldc2 rfl ?_
  rw [show (3 : Int64) = (nI 3).toInt64 by decide]
  refine rk_cs3e rfl rfl rfl (Nat.le_of_ble_eq_true rfl) (Nat.le_of_ble_eq_true rfl) (s181 _ _ _) ?_
  refine rk_if_ne rfl rfl (fun hc8 => ?_) (fun hc8 => ?_)
  · replace hc8 := Decidable.not_not.mp (mt bI_0.mpr hc8)
    exact absurd (in34.mp hc8) ha
  · replace hc8 := Decidable.not_not.mp hc8
    replace hc8 := (bI_0).mp hc8
    refine rk_bipush (v := (-2)) rfl (by decide) ?_
    exact rk_ireturn rfl rfl (Qe_of (by first | rfl | rw [if_neg (by assumption)] | rw [if_pos rfl]))
theorem m220_t {X : ai_X} {h : ai_H} {v A : Nat → Int32} {N : Nat → Nat} (c0 : h[52]? = some (cMdl v)) (c1 : h[53]? = some (cI 2346 A)) (hN : HN N) (M : MH A N) {i : Nat} (hi : i < 4) (ht : N 1 = 0) : Rk X am_220 3 (ai_loc (ai_mL am_220) [.ref 52, .int (nI i)]) [] h (Qe (-5) h) := by
  obtain ⟨a0, a1, a268, a269, a270, a271, apl, apc, aot, asg, awt⟩ := id M
  refine rk_iload_n rfl rfl ?_
  refine rk_i2l rfl rfl ?_
  refine rk_lconst (v := 0) rfl (by decide) ?_
  rw [show (0 : Int64) = (0 : Int32).toInt64 by decide]
  refine rk_ldc2 rfl ?_
  rw [show (3 : Int64) = (nI 3).toInt64 by decide]
  refine rk_cs3e rfl rfl rfl (Nat.le_of_ble_eq_true rfl) (Nat.le_of_ble_eq_true rfl) (s181 _ _ _) ?_
  refine rk_if_ne rfl rfl (fun hc8 => ?_) (fun hc8 => ?_)
  · replace hc8 := Decidable.not_not.mp (mt bI_0.mpr hc8)
    refine rk_aload_n rfl rfl ?_
    refine rk_get rfl (by assumption) rfl ?_
    refine rk_iconst (v := nI 1) rfl (by decide) ?_
    refine rk_iald rfl (by assumption) (rfl) (by omega) (by decide) ?_
    rw [a1]
    refine rk_if_ne rfl rfl (fun hc15 => ?_) (fun hc15 => ?_)
    · replace hc15 := mt (n0_eq (by omega)).mpr hc15
      exact absurd ht hc15
    · replace hc15 := Decidable.not_not.mp hc15
      replace hc15 := (n0_eq (by omega)).mp hc15
      refine rk_bipush (v := (-5)) rfl (by decide) ?_
      exact rk_ireturn rfl rfl (Qe_of (by first | rfl | rw [if_neg (by assumption)] | rw [if_pos rfl]))
  · replace hc8 := Decidable.not_not.mp hc8
    replace hc8 := (bI_0).mp hc8
    exact absurd (in3_mk hi) hc8
theorem m220_m {X : ai_X} {h : ai_H} {v A : Nat → Int32} {N : Nat → Nat} (c0 : h[52]? = some (cMdl v)) (c1 : h[53]? = some (cI 2346 A)) (hN : HN N) (M : MH A N) {rs rm : Nat → Int32} {nu : Nat → Int64} {i : Nat} (c77 : h[77]? = some (cI 4 rs)) (c78 : h[78]? = some (cI 4 rm)) (c79 : h[79]? = some (cJ 160 nu)) (hi : i < 4) (ht : ¬ N 1 = 0) (hz : rs i = -1) : Rk X am_220 3 (ai_loc (ai_mL am_220) [.ref 52, .int (nI i)]) [] h (Qe (-6) h) := by
  obtain ⟨a0, a1, a268, a269, a270, a271, apl, apc, aot, asg, awt⟩ := id M
  have h6 := hN.t
  refine rk_iload_n rfl rfl ?_
  refine rk_i2l rfl rfl ?_
  refine rk_lconst (v := 0) rfl (by decide) ?_
  rw [show (0 : Int64) = (0 : Int32).toInt64 by decide]
  refine rk_ldc2 rfl ?_
  rw [show (3 : Int64) = (nI 3).toInt64 by decide]
  refine rk_cs3e rfl rfl rfl (Nat.le_of_ble_eq_true rfl) (Nat.le_of_ble_eq_true rfl) (s181 _ _ _) ?_
  refine rk_if_ne rfl rfl (fun hc8 => ?_) (fun hc8 => ?_)
  · replace hc8 := Decidable.not_not.mp (mt bI_0.mpr hc8)
    refine rk_aload_n rfl rfl ?_
    refine rk_get rfl (by assumption) rfl ?_
    refine rk_iconst (v := nI 1) rfl (by decide) ?_
    refine rk_iald rfl (by assumption) (rfl) (by omega) (by decide) ?_
    rw [a1]
    refine rk_if_ne rfl rfl (fun hc15 => ?_) (fun hc15 => ?_)
    · replace hc15 := mt (n0_eq (by omega)).mpr hc15
      refine rk_aload_n rfl rfl ?_
      refine rk_get rfl (by assumption) rfl ?_
      refine rk_iload_n rfl rfl ?_
      refine rk_iald rfl (by assumption) (rfl) (by omega) (by decide) ?_
      refine rk_iconst (v := (-1)) rfl (by decide) ?_
      refine rk_icmp_ne rfl rfl (fun hc23 => ?_) (fun hc23 => ?_)
      · exact absurd hz hc23
      · replace hc23 := Decidable.not_not.mp hc23
        refine rk_bipush (v := (-6)) rfl (by decide) ?_
        exact rk_ireturn rfl rfl (Qe_of (by first | rfl | rw [if_neg (by assumption)] | rw [if_pos rfl]))
    · replace hc15 := Decidable.not_not.mp hc15
      replace hc15 := (n0_eq (by omega)).mp hc15
      exact absurd hc15 ht
  · replace hc8 := Decidable.not_not.mp hc8
    replace hc8 := (bI_0).mp hc8
    exact absurd (in3_mk hi) hc8
theorem m220_v {X : ai_X} {h : ai_H} {v A : Nat → Int32} {N : Nat → Nat} (c0 : h[52]? = some (cMdl v)) (c1 : h[53]? = some (cI 2346 A)) (hN : HN N) (M : MH A N) {rs rm : Nat → Int32} {nu : Nat → Int64} {i L : Nat} (c77 : h[77]? = some (cI 4 rs)) (c78 : h[78]? = some (cI 4 rm)) (c79 : h[79]? = some (cJ 160 nu)) (hi : i < 4) (ht : ¬ N 1 = 0) (hz : ¬ rs i = -1) (hm : rm i = nI L) (hL : L ≤ 40) : Rk X am_220 3 (ai_loc (ai_mL am_220) [.ref 52, .int (nI i)]) [] h (Qe (fb (fun k => nu (40 * i + k)) (N 1) L 0) h) := by
  obtain ⟨a0, a1, a268, a269, a270, a271, apl, apc, aot, asg, awt⟩ := id M
  have h6 := hN.t
  refine rk_iload_n rfl rfl ?_
  refine rk_i2l rfl rfl ?_
  refine rk_lconst (v := 0) rfl (by decide) ?_
  rw [show (0 : Int64) = (0 : Int32).toInt64 by decide]
  refine rk_ldc2 rfl ?_
  rw [show (3 : Int64) = (nI 3).toInt64 by decide]
  refine rk_cs3e rfl rfl rfl (Nat.le_of_ble_eq_true rfl) (Nat.le_of_ble_eq_true rfl) (s181 _ _ _) ?_
  refine rk_if_ne rfl rfl (fun hc8 => ?_) (fun hc8 => ?_)
  · replace hc8 := Decidable.not_not.mp (mt bI_0.mpr hc8)
    refine rk_aload_n rfl rfl ?_
    refine rk_get rfl (by assumption) rfl ?_
    refine rk_iconst (v := nI 1) rfl (by decide) ?_
    refine rk_iald rfl (by assumption) (rfl) (by omega) (by decide) ?_
    rw [a1]
    refine rk_if_ne rfl rfl (fun hc15 => ?_) (fun hc15 => ?_)
    · replace hc15 := mt (n0_eq (by omega)).mpr hc15
      refine rk_aload_n rfl rfl ?_
      refine rk_get rfl (by assumption) rfl ?_
      refine rk_iload_n rfl rfl ?_
      refine rk_iald rfl (by assumption) (rfl) (by omega) (by decide) ?_
      refine rk_iconst (v := (-1)) rfl (by decide) ?_
      refine rk_icmp_ne rfl rfl (fun hc23 => ?_) (fun hc23 => ?_)
      · refine rk_aload_n rfl rfl ?_
        refine rk_iload_n rfl rfl ?_
        refine rk_cv1e rfl rfl (by assumption) rfl rfl (Nat.le_of_ble_eq_true rfl) (Nat.le_of_ble_eq_true rfl) (s219 c0 c1 c78 c79 a1 hN.t hi hm hL) ?_
        exact rk_ireturn rfl rfl Qe_mk
      · replace hc23 := Decidable.not_not.mp hc23
        exact absurd hc23 hz
    · replace hc15 := Decidable.not_not.mp hc15
      replace hc15 := (n0_eq (by omega)).mp hc15
      exact absurd hc15 ht
  · replace hc8 := Decidable.not_not.mp hc8
    replace hc8 := (bI_0).mp hc8
    exact absurd (in3_mk hi) hc8
theorem rs_ne {i : Nat} {so : Int32} {rs : Nat → Int32} (hs : so = rs i) (h4 : so = 0 ∨ so = 1 ∨ so = 2 ∨ so = 3) : ¬ rs i = -1 := by
  rw [← hs]
  rcases h4 with z | z | z | z <;> (rw [z]; decide)
theorem ob7 (X : ai_X) : O7 X Inv := by
  intro a
  refine ob_gen fun m c' s h _ I => ?_
  obtain ⟨tp, T, A, im, rs, rm, nu, fk, fp, b, hA, hB, hR, hI, hS, hO, hM, hV, hD, hc, hs⟩ := id I
  have c77 := hM.2.2.2.2.1
  have c78 := hM.2.2.2.2.2.1
  have c79 := hM.2.2.2.2.2.2.1
  obtain ⟨tp, v, A, N, ro, d0, d52, d53, hN, C, M, d19, hro, Q, -, O⟩ := I.dat
  have K : ∀ {W : Int32}, (∀ h2 : ai_H, h2[52]? = some (cMdl (upd v 0 (nI 0))) → (∀ q : Nat, q ≠ 52 → h2[q]? = h[q]?) → Rk X am_220 3 (ai_loc (ai_mL am_220) [.ref 52, .int a]) [] h2 (Qe W h2)) → Mt X am_220 [.ref 52, .int a] h (Qi (fun w h1 => w = W ∧ MdO h h1)) := fun z => md_thr rfl rfl rfl rfl d52 z
  by_cases ha : ¬ a < 0 ∧ ¬ nI 4 ≤ a
  · obtain ⟨i, hi, rfl⟩ := in_of (by omega) ha
    by_cases ht : N 1 = 0
    · exact og_pure I (c137_t d0 hN C d19 hro hi ht) (K fun h2 g2 hk => m220_t g2 ((hk 53 (by omega)).trans d53) hN M hi ht)
    · obtain ⟨sz, so, f, hNum, hC⟩ := hR.2 i hi
      rcases hC with ⟨h1, rfl, -⟩ | ⟨n, hn, rfl, hm, hs, h4, hf⟩
      · exact og_pure I (c137_m d0 hN C d19 hro hi hNum ht rfl) (K fun h2 g2 hk => m220_m g2 ((hk 53 (by omega)).trans d53) hN M ((hk _ (by omega)).trans c77) ((hk _ (by omega)).trans c78) ((hk _ (by omega)).trans c79) hi ht h1)
      · refine og_pure I (c137_v d0 hN C d19 hro hi hNum hn ht) (K fun h2 g2 hk => ?_)
        have z := m220_v (X := X) g2 ((hk 53 (by omega)).trans d53) hN M ((hk _ (by omega)).trans c77) ((hk _ (by omega)).trans c78) ((hk _ (by omega)).trans c79) hi ht (rs_ne hs h4) hm hn
        rw [fb_congr (v := f) (v' := fun k => nu (40 * i + k)) n 0 (fun k hk => by rw [Nat.zero_add]; exact hf k hk)]
        exact z
  · exact og_pure I (c137_x d0 hN C d19 hro ha) (K fun h2 g2 hk => m220_x g2 ((hk 53 (by omega)).trans d53) hN M ha)
/-! count -/
theorem inc_178 : ai_inc ar_178 = true := by decide +kernel
theorem inc_289 : ai_inc ar_289 = true := by decide +kernel
theorem sw_7 (y : Int32) : y = nI 0 ∨ y = nI 1 ∨ y = nI 2 ∨ y = nI 3 ∨ y = nI 4 ∨ y = nI 5 ∨ y = nI 6 ∨ (y.toInt < 0 ∨ 6 < y.toInt) := by
  by_cases h : y.toInt < 0 ∨ 6 < y.toInt
  · simp only [h, or_true]
  · have : ∀ k : Nat, k < 7 → y.toInt = k → y = nI k := fun k hk z => Int32.toInt_inj.mp (by rw [nI_toInt (by omega)]; exact z)
    rcases (show y.toInt = 0 ∨ y.toInt = 1 ∨ y.toInt = 2 ∨ y.toInt = 3 ∨ y.toInt = 4 ∨ y.toInt = 5 ∨ y.toInt = 6 by omega) with z | z | z | z | z | z | z
    · simp only [this 0 (by omega) z, true_or]
    · simp only [this 1 (by omega) z, true_or, or_true]
    · simp only [this 2 (by omega) z, true_or, or_true]
    · simp only [this 3 (by omega) z, true_or, or_true]
    · simp only [this 4 (by omega) z, true_or, or_true]
    · simp only [this 5 (by omega) z, true_or, or_true]
    · simp only [this 6 (by omega) z, true_or, or_true]
/-- chances, in a room's first j tones, in k rooms of T tones -/
def chi (N : Nat → Nat) (r : Nat) : Nat → Nat
  | 0 => 0
  | j + 1 => chi N r j + if pct N r j = 0 then 0 else 1
def cho (N : Nat → Nat) (T : Nat) : Nat → Nat
  | 0 => 0
  | k + 1 => cho N T k + chi N k T
def ch84 (N : Nat → Nat) : Nat → Nat
  | 0 => 0
  | k + 1 => ch84 N k + if N (170 + k) = 0 then 0 else 1
theorem chi_le (N : Nat → Nat) (r : Nat) : ∀ j, chi N r j ≤ j
  | 0 => Nat.le_refl _
  | j + 1 => by have := chi_le N r j; simp only [chi]; split <;> omega
theorem cho_le (N : Nat → Nat) (T : Nat) : ∀ k, cho N T k ≤ T * k
  | 0 => Nat.le_refl _
  | k + 1 => by have := cho_le N T k; have := chi_le N k T; simp only [cho]; rw [Nat.mul_succ]; omega
theorem chi_ge {N : Nat → Nat} {r : Nat} {T : Nat} : ∀ d, (∀ j, T ≤ j → j < T + d → pct N r j = 0) → chi N r (T + d) = chi N r T
  | 0, _ => rfl
  | d + 1, h => by
    have e : chi N r (T + (d + 1)) = chi N r (T + d) + (if pct N r (T + d) = 0 then 0 else 1) := rfl
    rw [e, if_pos (h (T + d) (by omega) (by omega)), chi_ge d (fun j a b => h j a (by omega))]
    rfl
theorem chi_z {N : Nat → Nat} {r : Nat} : ∀ j, (∀ i, i < j → pct N r i = 0) → chi N r j = 0
  | 0, _ => rfl
  | j + 1, h => by
    show chi N r j + _ = _
    rw [if_pos (h j (by omega)), chi_z j (fun i hi => h i (by omega))]
theorem cho_ge {N : Nat → Nat} {n T : Nat} : ∀ d, (∀ k, n ≤ k → k < n + d → chi N k T = 0) → cho N T (n + d) = cho N T n
  | 0, _ => rfl
  | d + 1, h => by
    show cho N T (n + d) + chi N (n + d) T = _
    rw [h (n + d) (by omega) (by omega), cho_ge d (fun k a b => h k a (by omega))]
    rfl
theorem cho_cg {N : Nat → Nat} {T T' : Nat} : ∀ k, (∀ j, j < k → chi N j T = chi N j T') → cho N T k = cho N T' k
  | 0, _ => rfl
  | k + 1, h => by simp only [cho]; rw [h k (by omega), cho_cg k (fun j hj => h j (by omega))]
theorem ch84_6 (N : Nat → Nat) (r : Nat) : ∀ j, ch84 N (6 * r + j) = ch84 N (6 * r) + chi N r j
  | 0 => rfl
  | j + 1 => by
    have e : ch84 N (6 * r + (j + 1)) = ch84 N (6 * r + j) + (if pct N r j = 0 then 0 else 1) := rfl
    rw [e, ch84_6 N r j]
    simp only [chi]
    omega
theorem ch84_o (N : Nat → Nat) : ∀ k, ch84 N (6 * k) = cho N 6 k
  | 0 => rfl
  | k + 1 => by
    rw [show 6 * (k + 1) = 6 * k + 6 by omega, ch84_6 N k 6, ch84_o N k]
    rfl
theorem ch_eq {N : Nat → Nat} (hN : HN N) : ch84 N 84 = cho N (N 1) (N 0) := by
  have h1 := hN.n
  have h2 := hN.t
  have hz : ∀ r i, r < 14 → i < 6 → ¬ (r < N 0 ∧ i < N 1) → pct N r i = 0 := by
    intro r i hr hi hn
    by_cases h : 0 < pct N r i
    · have := (hN.2.2.2.2.2.2.1 r i hr hi).2 h
      exact absurd ⟨this.1, this.2.1⟩ hn
    · omega
  have e1 : ch84 N 84 = cho N 6 14 := ch84_o N 14
  have e2 : cho N 6 14 = cho N (N 1) 14 := cho_cg 14 (fun r hr => by
    have := chi_ge (N := N) (r := r) (T := N 1) (6 - N 1) (fun j a b => hz r j hr (by omega) (by omega))
    rw [show N 1 + (6 - N 1) = 6 by omega] at this
    exact this)
  have e3 := cho_ge (N := N) (n := N 0) (T := N 1) (14 - N 0) (fun k a b => chi_z _ (fun i hi => hz k i (by omega) (by omega) (by omega)))
  rw [show N 0 + (14 - N 0) = 14 by omega] at e3
  rw [e1, e2, e3]
theorem l36i {X : ai_X} {h : ai_H} {p : Nat} {N : Nat → Nat} (hN : HN N) (C : CH h p N) {P : ai_O → Prop} {k s : Nat} (hk : k < N 0) (hs : s ≤ 84) (z : Rk X am_36 22 [some (.ref p), some (.int (nI (s + chi N k (N 1)))), some (.int (nI k)), some (.int (nI (N 1)))] [] h P) : ∀ (d : Nat) (j : Nat), N 1 < j + d → (j ≤ N 1) → Rk X am_36 10 [some (.ref p), some (.int (nI (s + chi N k j))), some (.int (nI k)), some (.int (nI j))] [] h (P) := by
  intro d
  induction d with
  | zero => intro j hd hj; exfalso; omega
  | succ d ih =>
    intro j hd hj
    have d0 := C.1
    have ht := hN.t
    have hn := hN.n
    have hp := hN.xpct (r := k) (i := j) (by omega)
    refine rk_iload_n rfl rfl ?_
    refine rk_aload_n rfl rfl ?_
    refine rk_get rfl (by assumption) rfl ?_
    refine rk_icmp_ge rfl rfl (fun hc13 => ?_) (fun hc13 => ?_)
    · replace hc13 := (nI_leI (by omega) (by omega)).mp hc13
      have hj2 : j = N 1 := by omega
      subst hj2
      exact z
    · replace hc13 := mt (nI_leI (by omega) (by omega)).mpr hc13
      refine rk_aload_n rfl rfl ?_
      refine rk_iload_n rfl rfl ?_
      refine rk_iload_n rfl rfl ?_
      refine rk_cv2e rfl rfl (by assumption) rfl rfl (Nat.le_of_ble_eq_true rfl) (Nat.le_of_ble_eq_true rfl) (s29N C (by omega) (by omega)) ?_
      replace hp := hp (by omega)
      refine rk_if_le rfl rfl (fun hc18 => ?_) (fun hc18 => ?_)
      · replace hc18 := (n0_le (by omega)).mp hc18
        have hm : s + chi N k (j + 1) = s + chi N k j := by simp only [chi]; rw [if_pos hc18]; rfl
        refine rk_iinc rfl rfl (n_inc _) rfl ?_
        refine rk_goto rfl rfl ?_
        have z := ih (j + 1) (by omega) (by omega)
        rw [hm] at z
        exact z
      · replace hc18 := mt (n0_le (by omega)).mpr hc18
        have hm : s + chi N k (j + 1) = s + chi N k j + 1 := by simp only [chi]; rw [if_neg hc18]; rfl
        refine rk_iinc rfl rfl (n_inc _) rfl ?_
        refine rk_iinc rfl rfl (n_inc _) rfl ?_
        refine rk_goto rfl rfl ?_
        have z := ih (j + 1) (by omega) (by omega)
        rw [hm] at z
        exact z
theorem l36 {X : ai_X} {h : ai_H} {p : Nat} {N : Nat → Nat} (hN : HN N) (C : CH h p N) : ∀ (d : Nat) (k : Nat) (c3 : Option Value), N 0 < k + d → (k ≤ N 0) → Rk X am_36 4 [some (.ref p), some (.int (nI (cho N (N 1) k))), some (.int (nI k)), c3] [] h (Qe (nI (cho N (N 1) (N 0))) h) := by
  intro d
  induction d with
  | zero => intro k c3 hd hk; exfalso; omega
  | succ d ih =>
    intro k c3 hd hk
    have d0 := C.1
    have ht := hN.t
    have hn := hN.n
    have hle := cho_le N (N 1) k
    have h84 : N 1 * k ≤ 6 * 14 := Nat.mul_le_mul ht (by omega)
    refine rk_iload_n rfl rfl ?_
    refine rk_aload_n rfl rfl ?_
    refine rk_get rfl (by assumption) rfl ?_
    refine rk_icmp_ge rfl rfl (fun hc7 => ?_) (fun hc7 => ?_)
    · replace hc7 := (nI_leI (by omega) (by omega)).mp hc7
      refine rk_iload_n rfl rfl ?_
      exact rk_ireturn rfl rfl (Qe_of (by rw [show k = N 0 by omega]))
    · replace hc7 := mt (nI_leI (by omega) (by omega)).mpr hc7
      refine rk_iconst (v := nI 0) rfl (by decide) ?_
      refine rk_istore_n rfl (Nat.le_of_ble_eq_true rfl) rfl ?_
      refine l36i hN C (by omega) (by omega) ?_ (N 1 + 1) 0 (by omega) (by omega)
      refine rk_iinc rfl rfl (n_inc _) rfl ?_
      refine rk_goto rfl rfl ?_
      exact ih (k + 1) _ (by omega) (by omega)
theorem s36 {X : ai_X} {h : ai_H} {p : Nat} {N : Nat → Nat} (hN : HN N) (C : CH h p N) : Mt X am_36 [.ref p] h (Qe (nI (cho N (N 1) (N 0))) h) := by
  refine rk_iconst (v := nI 0) rfl (by decide) ?_
  refine rk_istore_n rfl (Nat.le_of_ble_eq_true rfl) rfl ?_
  refine rk_iconst (v := nI 0) rfl (by decide) ?_
  refine rk_istore_n rfl (Nat.le_of_ble_eq_true rfl) rfl ?_
  exact l36 hN C (N 0 + 1) 0 _ (by omega) (by omega)
theorem l288 {X : ai_X} {h : ai_H} {v A : Nat → Int32} {N : Nat → Nat} (c0 : h[52]? = some (cMdl v)) (c1 : h[53]? = some (cI 2346 A)) (hN : HN N) (M : MH A N) : ∀ (d : Nat) (k : Nat), 84 < k + d → (k ≤ 84) → Rk X am_288 4 [some (.ref 52), some (.int (nI (ch84 N k))), some (.int (nI k))] [] h (Qe (nI (ch84 N 84)) h) := by
  intro d
  induction d with
  | zero => intro k hd hk; exfalso; omega
  | succ d ih =>
    intro k hd hk
    obtain ⟨a0, a1, a268, a269, a270, a271, apl, apc, aot, asg, awt⟩ := id M
    have hp : k < 84 → A (170 + k) = nI (N (170 + k)) ∧ N (170 + k) < 100 := fun hk => by
      have z := apc (k / 6) (k % 6) (by omega) (by omega)
      have z2 := hN.xpct (r := k / 6) (i := k % 6) (by omega) (by omega)
      unfold pct at z z2
      rw [show 6 * (k / 6) + k % 6 = k by omega] at z z2
      exact ⟨z, z2⟩
    refine rk_iload_n rfl rfl ?_
    refine rk_bipush (v := nI 84) rfl (by decide) ?_
    refine rk_icmp_ge rfl rfl (fun hc6 => ?_) (fun hc6 => ?_)
    · replace hc6 := (nI_leI (by omega) (by omega)).mp hc6
      refine rk_iload_n rfl rfl ?_
      exact rk_ireturn rfl rfl (Qe_of (by rw [show k = 84 by omega]))
    · replace hc6 := mt (nI_leI (by omega) (by omega)).mpr hc6
      refine rk_iload_n rfl rfl ?_
      refine rk_aload_n rfl rfl ?_
      refine rk_get rfl (by assumption) rfl ?_
      refine rk_sipush (v := nI 170) rfl (by decide) ?_
      refine rk_iload_n rfl rfl ?_
      refine rk_iadd rfl (nI_add _ _) ?_
      refine rk_iald rfl (by assumption) (rfl) (by omega) (by decide) ?_
      obtain ⟨hp, hp2⟩ := hp (by omega)
      rw [hp]
      refine rk_if_le rfl rfl (fun hc14 => ?_) (fun hc14 => ?_)
      · replace hc14 := (n0_le (by omega)).mp hc14
        have hm : ch84 N (k + 1) = ch84 N k + 0 := by simp only [ch84]; rw [if_pos hc14]
        refine rk_iconst (v := nI 0) rfl (by decide) ?_
        refine rk_iadd rfl (nI_add _ _) ?_
        refine rk_istore_n rfl (Nat.le_of_ble_eq_true rfl) rfl ?_
        refine rk_iinc rfl rfl (n_inc _) rfl ?_
        refine rk_goto rfl rfl ?_
        have z := ih (k + 1) (by omega) (by omega)
        rw [hm] at z
        exact z
      · replace hc14 := mt (n0_le (by omega)).mpr hc14
        have hm : ch84 N (k + 1) = ch84 N k + 1 := by simp only [ch84]; rw [if_neg hc14]
        refine rk_iconst (v := nI 1) rfl (by decide) ?_
        refine rk_goto rfl rfl ?_
        refine rk_iadd rfl (nI_add _ _) ?_
        refine rk_istore_n rfl (Nat.le_of_ble_eq_true rfl) rfl ?_
        refine rk_iinc rfl rfl (n_inc _) rfl ?_
        refine rk_goto rfl rfl ?_
        have z := ih (k + 1) (by omega) (by omega)
        rw [hm] at z
        exact z
theorem s288 {X : ai_X} {h : ai_H} {v A : Nat → Int32} {N : Nat → Nat} (c0 : h[52]? = some (cMdl v)) (c1 : h[53]? = some (cI 2346 A)) (hN : HN N) (M : MH A N) : Mt X am_288 [.ref 52] h (Qe (nI (ch84 N 84)) h) := by
  refine rk_iconst (v := nI 0) rfl (by decide) ?_
  refine rk_istore_n rfl (Nat.le_of_ble_eq_true rfl) rfl ?_
  refine rk_iconst (v := nI 0) rfl (by decide) ?_
  refine rk_istore_n rfl (Nat.le_of_ble_eq_true rfl) rfl ?_
  exact l288 c0 c1 hN M 85 0 (by omega) (by omega)
theorem c178_0 {X : ai_X} {h : ai_H} {tp : Int32} {N : Nat → Nat} (d0 : h[0]? = some (cOne tp)) (hN : HN N) (C : CH h 3 N) : Mt X am_178 [.ref 0, .int (nI 0)] h (Qe (nI (N 0)) h) := by
  have d3 := C.1
  have hn := hN.n
  refine rk_iload_n rfl rfl ?_
  refine rk_sw_in (off := 43) (j := 2) rfl (by decide) rfl (ai_dw inc_178 rfl) rfl ?_
  refine rk_aload_n rfl rfl ?_
  refine rk_get rfl (by assumption) rfl ?_
  refine rk_get rfl (by assumption) rfl ?_
  exact rk_ireturn rfl rfl (Qe_of (by first | rfl | exact (if_pos (by assumption)).symm | exact (if_neg (by assumption)).symm))
theorem c178_1 {X : ai_X} {h : ai_H} {tp : Int32} {N : Nat → Nat} (d0 : h[0]? = some (cOne tp)) (hN : HN N) (C : CH h 3 N) : Mt X am_178 [.ref 0, .int (nI 1)] h (Qe (nI (N 1)) h) := by
  have d3 := C.1
  have hn := hN.n
  refine rk_iload_n rfl rfl ?_
  refine rk_sw_in (off := 51) (j := 6) rfl (by decide) rfl (ai_dw inc_178 rfl) rfl ?_
  refine rk_aload_n rfl rfl ?_
  refine rk_get rfl (by assumption) rfl ?_
  refine rk_get rfl (by assumption) rfl ?_
  exact rk_ireturn rfl rfl (Qe_of (by first | rfl | exact (if_pos (by assumption)).symm | exact (if_neg (by assumption)).symm))
theorem c178_2 {X : ai_X} {h : ai_H} {tp : Int32} {N : Nat → Nat} (d0 : h[0]? = some (cOne tp)) (hN : HN N) (C : CH h 3 N) : Mt X am_178 [.ref 0, .int (nI 2)] h (Qe (nI (N 280)) h) := by
  have d3 := C.1
  have hn := hN.n
  refine rk_iload_n rfl rfl ?_
  refine rk_sw_in (off := 59) (j := 10) rfl (by decide) rfl (ai_dw inc_178 rfl) rfl ?_
  refine rk_aload_n rfl rfl ?_
  refine rk_get rfl (by assumption) rfl ?_
  refine rk_get rfl (by assumption) rfl ?_
  exact rk_ireturn rfl rfl (Qe_of (by first | rfl | exact (if_pos (by assumption)).symm | exact (if_neg (by assumption)).symm))
theorem c178_3 {X : ai_X} {h : ai_H} {tp : Int32} {N : Nat → Nat} (d0 : h[0]? = some (cOne tp)) (hN : HN N) (C : CH h 3 N) : Mt X am_178 [.ref 0, .int (nI 3)] h (Qe (nI (N 271)) h) := by
  have d3 := C.1
  have hn := hN.n
  refine rk_iload_n rfl rfl ?_
  refine rk_sw_in (off := 67) (j := 14) rfl (by decide) rfl (ai_dw inc_178 rfl) rfl ?_
  refine rk_aload_n rfl rfl ?_
  refine rk_get rfl (by assumption) rfl ?_
  refine rk_get rfl (by assumption) rfl ?_
  exact rk_ireturn rfl rfl (Qe_of (by first | rfl | exact (if_pos (by assumption)).symm | exact (if_neg (by assumption)).symm))
theorem c178_4 {X : ai_X} {h : ai_H} {tp : Int32} {N : Nat → Nat} (d0 : h[0]? = some (cOne tp)) (hN : HN N) (C : CH h 3 N) : Mt X am_178 [.ref 0, .int (nI 4)] h (Qe (if N 0 = 0 then -1 else nI (N 270)) h) := by
  have d3 := C.1
  have hn := hN.n
  refine rk_iload_n rfl rfl ?_
  refine rk_sw_in (off := 75) (j := 18) rfl (by decide) rfl (ai_dw inc_178 rfl) rfl ?_
  refine rk_aload_n rfl rfl ?_
  refine rk_get rfl (by assumption) rfl ?_
  refine rk_get rfl (by assumption) rfl ?_
  refine rk_if_ne rfl rfl (fun hc21 => ?_) (fun hc21 => ?_)
  · replace hc21 := mt (n0_eq (by omega)).mpr hc21
    refine rk_aload_n rfl rfl ?_
    refine rk_get rfl (by assumption) rfl ?_
    refine rk_get rfl (by assumption) rfl ?_
    exact rk_ireturn rfl rfl (Qe_of (by first | rfl | exact (if_pos (by assumption)).symm | exact (if_neg (by assumption)).symm))
  · replace hc21 := Decidable.not_not.mp hc21
    replace hc21 := (n0_eq (by omega)).mp hc21
    refine rk_iconst (v := (-1)) rfl (by decide) ?_
    refine rk_goto rfl rfl ?_
    exact rk_ireturn rfl rfl (Qe_of (by first | rfl | exact (if_pos (by assumption)).symm | exact (if_neg (by assumption)).symm))
theorem c178_5 {X : ai_X} {h : ai_H} {tp : Int32} {N : Nat → Nat} (d0 : h[0]? = some (cOne tp)) (hN : HN N) (C : CH h 3 N) : Mt X am_178 [.ref 0, .int (nI 5)] h (Qe (nI (cho N (N 1) (N 0))) h) := by
  have d3 := C.1
  have hn := hN.n
  refine rk_iload_n rfl rfl ?_
  refine rk_sw_in (off := 97) (j := 28) rfl (by decide) rfl (ai_dw inc_178 rfl) rfl ?_
  refine rk_aload_n rfl rfl ?_
  refine rk_get rfl (by assumption) rfl ?_
  refine rk_cv0e rfl rfl (by assumption) rfl rfl (Nat.le_of_ble_eq_true rfl) (Nat.le_of_ble_eq_true rfl) (s36 hN C) ?_
  exact rk_ireturn rfl rfl (Qe_of (by first | rfl | exact (if_pos (by assumption)).symm | exact (if_neg (by assumption)).symm))
theorem c178_6 {X : ai_X} {h : ai_H} {tp : Int32} {N : Nat → Nat} (d0 : h[0]? = some (cOne tp)) (hN : HN N) (C : CH h 3 N) : Mt X am_178 [.ref 0, .int (nI 6)] h (Qe (tp) h) := by
  have d3 := C.1
  have hn := hN.n
  refine rk_iload_n rfl rfl ?_
  refine rk_sw_in (off := 105) (j := 32) rfl (by decide) rfl (ai_dw inc_178 rfl) rfl ?_
  refine rk_aload_n rfl rfl ?_
  refine rk_get rfl (by assumption) rfl ?_
  exact rk_ireturn rfl rfl (Qe_of (by first | rfl | exact (if_pos (by assumption)).symm | exact (if_neg (by assumption)).symm))
theorem c178_o {X : ai_X} {h : ai_H} {tp : Int32} {N : Nat → Nat} (d0 : h[0]? = some (cOne tp)) (hN : HN N) (C : CH h 3 N) {y : Int32} (hy : y.toInt < 0 ∨ 6 < y.toInt) : Mt X am_178 [.ref 0, .int y] h (Qe (-1) h) := by
  have d3 := C.1
  refine rk_iload_n rfl rfl ?_
  refine rk_sw_out (j := 35) rfl hy (ai_dw inc_178 rfl) rfl ?_
  refine rk_iconst (v := (-1)) rfl (by decide) ?_
  exact rk_ireturn rfl rfl Qe_mk
theorem m289_0 {X : ai_X} {h : ai_H} {v A : Nat → Int32} {N : Nat → Nat} (c0 : h[52]? = some (cMdl v)) (c1 : h[53]? = some (cI 2346 A)) (hN : HN N) (M : MH A N) : Rk X am_289 3 (ai_loc (ai_mL am_289) [.ref 52, .int (nI 0)]) [] h (Qe (nI (N 0)) h) := by
  obtain ⟨a0, a1, a268, a269, a270, a271, apl, apc, aot, asg, awt⟩ := id M
  have hn := hN.n
  refine rk_iload_n rfl rfl ?_
  refine rk_sw_in (off := 42) (j := 5) rfl (by decide) rfl (ai_dw inc_289 rfl) rfl ?_
  refine rk_aload_n rfl rfl ?_
  refine rk_get rfl (by assumption) rfl ?_
  refine rk_iconst (v := nI 0) rfl (by decide) ?_
  refine rk_iald rfl (by assumption) (rfl) (by omega) (by decide) ?_
  rw [a0]
  exact rk_ireturn rfl rfl (Qe_of (by first | rfl | exact (if_pos (by assumption)).symm | exact (if_neg (by assumption)).symm))
theorem m289_1 {X : ai_X} {h : ai_H} {v A : Nat → Int32} {N : Nat → Nat} (c0 : h[52]? = some (cMdl v)) (c1 : h[53]? = some (cI 2346 A)) (hN : HN N) (M : MH A N) : Rk X am_289 3 (ai_loc (ai_mL am_289) [.ref 52, .int (nI 1)]) [] h (Qe (nI (N 1)) h) := by
  obtain ⟨a0, a1, a268, a269, a270, a271, apl, apc, aot, asg, awt⟩ := id M
  have hn := hN.n
  refine rk_iload_n rfl rfl ?_
  refine rk_sw_in (off := 49) (j := 10) rfl (by decide) rfl (ai_dw inc_289 rfl) rfl ?_
  refine rk_aload_n rfl rfl ?_
  refine rk_get rfl (by assumption) rfl ?_
  refine rk_iconst (v := nI 1) rfl (by decide) ?_
  refine rk_iald rfl (by assumption) (rfl) (by omega) (by decide) ?_
  rw [a1]
  exact rk_ireturn rfl rfl (Qe_of (by first | rfl | exact (if_pos (by assumption)).symm | exact (if_neg (by assumption)).symm))
theorem m289_2 {X : ai_X} {h : ai_H} {v A : Nat → Int32} {N : Nat → Nat} (c0 : h[52]? = some (cMdl v)) (c1 : h[53]? = some (cI 2346 A)) (hN : HN N) (M : MH A N) (a280 : A 280 = nI (N 280)) : Rk X am_289 3 (ai_loc (ai_mL am_289) [.ref 52, .int (nI 2)]) [] h (Qe (nI (N 280)) h) := by
  obtain ⟨a0, a1, a268, a269, a270, a271, apl, apc, aot, asg, awt⟩ := id M
  have hn := hN.n
  refine rk_iload_n rfl rfl ?_
  refine rk_sw_in (off := 56) (j := 15) rfl (by decide) rfl (ai_dw inc_289 rfl) rfl ?_
  refine rk_aload_n rfl rfl ?_
  refine rk_get rfl (by assumption) rfl ?_
  refine rk_sipush (v := nI 280) rfl (by decide) ?_
  refine rk_iald rfl (by assumption) (rfl) (by omega) (by decide) ?_
  rw [a280]
  exact rk_ireturn rfl rfl (Qe_of (by first | rfl | exact (if_pos (by assumption)).symm | exact (if_neg (by assumption)).symm))
theorem m289_3 {X : ai_X} {h : ai_H} {v A : Nat → Int32} {N : Nat → Nat} (c0 : h[52]? = some (cMdl v)) (c1 : h[53]? = some (cI 2346 A)) (hN : HN N) (M : MH A N) : Rk X am_289 3 (ai_loc (ai_mL am_289) [.ref 52, .int (nI 3)]) [] h (Qe (nI (N 271)) h) := by
  obtain ⟨a0, a1, a268, a269, a270, a271, apl, apc, aot, asg, awt⟩ := id M
  have hn := hN.n
  refine rk_iload_n rfl rfl ?_
  refine rk_sw_in (off := 65) (j := 20) rfl (by decide) rfl (ai_dw inc_289 rfl) rfl ?_
  refine rk_aload_n rfl rfl ?_
  refine rk_get rfl (by assumption) rfl ?_
  refine rk_sipush (v := nI 271) rfl (by decide) ?_
  refine rk_iald rfl (by assumption) (rfl) (by omega) (by decide) ?_
  rw [a271]
  exact rk_ireturn rfl rfl (Qe_of (by first | rfl | exact (if_pos (by assumption)).symm | exact (if_neg (by assumption)).symm))
theorem m289_4 {X : ai_X} {h : ai_H} {v A : Nat → Int32} {N : Nat → Nat} (c0 : h[52]? = some (cMdl v)) (c1 : h[53]? = some (cI 2346 A)) (hN : HN N) (M : MH A N) : Rk X am_289 3 (ai_loc (ai_mL am_289) [.ref 52, .int (nI 4)]) [] h (Qe (if N 0 = 0 then -1 else nI (N 270)) h) := by
  obtain ⟨a0, a1, a268, a269, a270, a271, apl, apc, aot, asg, awt⟩ := id M
  have hn := hN.n
  refine rk_iload_n rfl rfl ?_
  refine rk_sw_in (off := 74) (j := 25) rfl (by decide) rfl (ai_dw inc_289 rfl) rfl ?_
  refine rk_aload_n rfl rfl ?_
  refine rk_get rfl (by assumption) rfl ?_
  refine rk_iconst (v := nI 0) rfl (by decide) ?_
  refine rk_iald rfl (by assumption) (rfl) (by omega) (by decide) ?_
  rw [a0]
  refine rk_if_ne rfl rfl (fun hc29 => ?_) (fun hc29 => ?_)
  · replace hc29 := mt (n0_eq (by omega)).mpr hc29
    refine rk_aload_n rfl rfl ?_
    refine rk_get rfl (by assumption) rfl ?_
    refine rk_sipush (v := nI 270) rfl (by decide) ?_
    refine rk_iald rfl (by assumption) (rfl) (by omega) (by decide) ?_
    rw [a270]
    exact rk_ireturn rfl rfl (Qe_of (by first | rfl | exact (if_pos (by assumption)).symm | exact (if_neg (by assumption)).symm))
  · replace hc29 := Decidable.not_not.mp hc29
    replace hc29 := (n0_eq (by omega)).mp hc29
    refine rk_iconst (v := (-1)) rfl (by decide) ?_
    refine rk_goto rfl rfl ?_
    exact rk_ireturn rfl rfl (Qe_of (by first | rfl | exact (if_pos (by assumption)).symm | exact (if_neg (by assumption)).symm))
theorem m289_5 {X : ai_X} {h : ai_H} {v A : Nat → Int32} {N : Nat → Nat} (c0 : h[52]? = some (cMdl v)) (c1 : h[53]? = some (cI 2346 A)) (hN : HN N) (M : MH A N) : Rk X am_289 3 (ai_loc (ai_mL am_289) [.ref 52, .int (nI 5)]) [] h (Qe (nI (cho N (N 1) (N 0))) h) := by
  obtain ⟨a0, a1, a268, a269, a270, a271, apl, apc, aot, asg, awt⟩ := id M
  have hn := hN.n
  refine rk_iload_n rfl rfl ?_
  refine rk_sw_in (off := 96) (j := 37) rfl (by decide) rfl (ai_dw inc_289 rfl) rfl ?_
  refine rk_aload_n rfl rfl ?_
  refine rk_cv0e rfl rfl (by assumption) rfl rfl (Nat.le_of_ble_eq_true rfl) (Nat.le_of_ble_eq_true rfl) (s288 c0 c1 hN M) ?_
  exact rk_ireturn rfl rfl (Qe_of (by rw [ch_eq hN]))
theorem m289_6 {X : ai_X} {h : ai_H} {v A : Nat → Int32} {N : Nat → Nat} (c0 : h[52]? = some (cMdl v)) (c1 : h[53]? = some (cI 2346 A)) (hN : HN N) (M : MH A N) : Rk X am_289 3 (ai_loc (ai_mL am_289) [.ref 52, .int (nI 6)]) [] h (Qe (v 5) h) := by
  obtain ⟨a0, a1, a268, a269, a270, a271, apl, apc, aot, asg, awt⟩ := id M
  have hn := hN.n
  refine rk_iload_n rfl rfl ?_
  refine rk_sw_in (off := 101) (j := 40) rfl (by decide) rfl (ai_dw inc_289 rfl) rfl ?_
  refine rk_aload_n rfl rfl ?_
  refine rk_get rfl (by assumption) rfl ?_
  exact rk_ireturn rfl rfl (Qe_of (by first | rfl | exact (if_pos (by assumption)).symm | exact (if_neg (by assumption)).symm))
theorem m289_o {X : ai_X} {h : ai_H} {v A : Nat → Int32} {N : Nat → Nat} (c0 : h[52]? = some (cMdl v)) (c1 : h[53]? = some (cI 2346 A)) (hN : HN N) (M : MH A N) {y : Int32} (hy : y.toInt < 0 ∨ 6 < y.toInt) : Rk X am_289 3 (ai_loc (ai_mL am_289) [.ref 52, .int y]) [] h (Qe (-1) h) := by
  obtain ⟨a0, a1, a268, a269, a270, a271, apl, apc, aot, asg, awt⟩ := id M
  refine rk_iload_n rfl rfl ?_
  refine rk_sw_out (j := 43) rfl hy (ai_dw inc_289 rfl) rfl ?_
  refine rk_iconst (v := (-1)) rfl (by decide) ?_
  exact rk_ireturn rfl rfl Qe_mk
theorem ob45 (X : ai_X) : O45 X Inv := by
  intro a
  refine ob_gen fun m c' s h _ I => ?_
  obtain ⟨tp, T, A, im, rs, rm, nu, fk, fp, b, hA, ⟨⟨F, G, hH, hC⟩, -, -, hQ⟩, -, -, -, hO, ⟨⟨v, mk, e1, e2, -⟩, d53, -⟩, ⟨-, -, ⟨n, t, w, hV, -⟩, -⟩, -⟩ := id I
  obtain ⟨N, hN, -, -, -, hA0, hM, f0, f1, f2, f3, f4, f5, f6, g⟩ := hV.nat F G hC
  have C : CH h 3 N := by
    obtain ⟨c0, c1, c2, c3, c4, c5⟩ := hH
    refine ⟨?_, G, c1, c2, c3, c4, c5, g⟩
    rw [c0]
    simp only [cHouse, cHo, f0, f1, f2, f3, f4, f5, f6]
  have M : MH A N := by simpa only [Nat.zero_add] using hM
  have a280 : A 280 = nI (N 280) := by
    obtain ⟨-, -, -, -, ⟨l, hl, e⟩, -⟩ := hV
    rw [Nat.zero_add] at e
    rw [hA0, Nat.zero_add, e, cl_nI (by omega)]
  have d0 := hA.1
  have K : ∀ {W : Int32}, (∀ h2 : ai_H, h2[52]? = some (cMdl (upd v 0 (nI 0))) → (∀ q : Nat, q ≠ 52 → h2[q]? = h[q]?) → Rk X am_289 3 (ai_loc (ai_mL am_289) [.ref 52, .int a]) [] h2 (Qe W h2)) → Mt X am_289 [.ref 52, .int a] h (Qi (fun w h1 => w = W ∧ MdO h h1)) := fun z => md_thr rfl rfl rfl rfl e1 z
  rcases sw_7 a with rfl | rfl | rfl | rfl | rfl | rfl | rfl | ha
  · exact og_pure I (c178_0 d0 hN C) (K fun h2 g2 hk => m289_0 g2 ((hk 53 (by omega)).trans d53) hN M)
  · exact og_pure I (c178_1 d0 hN C) (K fun h2 g2 hk => m289_1 g2 ((hk 53 (by omega)).trans d53) hN M)
  · exact og_pure I (c178_2 d0 hN C) (K fun h2 g2 hk => m289_2 g2 ((hk 53 (by omega)).trans d53) hN M a280)
  · exact og_pure I (c178_3 d0 hN C) (K fun h2 g2 hk => m289_3 g2 ((hk 53 (by omega)).trans d53) hN M)
  · exact og_pure I (c178_4 d0 hN C) (K fun h2 g2 hk => m289_4 g2 ((hk 53 (by omega)).trans d53) hN M)
  · exact og_pure I (c178_5 d0 hN C) (K fun h2 g2 hk => m289_5 g2 ((hk 53 (by omega)).trans d53) hN M)
  · refine og_pure I (c178_6 d0 hN C) (K fun h2 g2 hk => ?_)
    have z := m289_6 (X := X) g2 ((hk 53 (by omega)).trans d53) hN M
    rw [show upd v 0 (nI 0) 5 = nI tp from e2] at z
    exact z
  · exact og_pure I (c178_o d0 hN C ha) (K fun h2 g2 hk => m289_o g2 ((hk 53 (by omega)).trans d53) hN M ha)
