/-! OBLIGATIONS meeting, amiss, night -/
theorem i32_le {x y : Int32} : y ≤ x ↔ ¬ x < y := by
  rw [Int32.le_iff_toInt_le, Int32.lt_iff_toInt_lt]; omega
theorem w1_mk {c : Nat} (hc : c < 2) : ¬ nI c < 0 ∧ ¬ nI 1 < nI c := ⟨nI_pos (by omega), fun z => by have := (nI_ltI (by omega) (by omega)).mp z; omega⟩
theorem w1_of {b : Int32} (h : ¬ b < 0 ∧ ¬ nI 1 < b) : ∃ c, c < 2 ∧ b = nI c := by
  have := (in_iff (n := 2) (x := b) (by decide)).mp
  rw [pk_sub (by decide)] at this
  exact in_of (by decide) (this h)
theorem sh34 {h : ai_H} (O : InvO h) : ShI h 34 8 := O.2.2.2.2.2.2.2.2.2.2.2.1
theorem SM.tr {h h1 h2 : ai_H} (a : SM h h1) (b : SM h1 h2) : SM h h2 := by
  obtain ⟨l1, k1, v, v1, x, y, z1, z2, z3, z4⟩ := a
  obtain ⟨l2, k2, w, w1, x', y', t1, t2, t3, t4⟩ := b
  rw [y] at x'
  obtain ⟨e1, e2, e3, e4⟩ := cMdl_inj (Option.some.inj x')
  exact ⟨l2.trans l1, fun q a b c => (k2 q a b c).trans (k1 q a b c), v, w1, x, y', t1.trans (e1.symm.trans z1), t2.trans (e2.symm.trans z2), t3.trans (e3.symm.trans z3), t4.trans (e4.symm.trans z4)⟩
theorem SM.fr {h h1 : ai_H} {v : Nat → Int32} {a b : Nat} (hv : h[52]? = some (cMdl v)) (F : Fr a b h h1) (hab : (63 ≤ a ∧ b ≤ 77) ∨ (56 ≤ a ∧ b ≤ 62)) : SM h h1 :=
  ⟨F.1, fun q x y z => F.2 q (by omega), v, v, hv, (F.2 52 (by omega)).trans hv, rfl, rfl, rfl, rfl⟩
theorem md_sc2 {X : ai_X} {M : ai_M} {ls : ai_L} {h : ai_H} {W : Int32} {pc0 len0 a0 b0 p0 q0 pc1 len1 a1 b1 p1 q1 pc2 len2 p2 q2 i2 : Nat} {x0 x1 x2 : Value} {v : Nat → Int32} (r0 : (ai_mR M)[0]? = some (pc0, .aload_n 0, len0, x0, a0, b0, p0, q0)) (r1 : (ai_mR M)[1]? = some (pc1, .iconst 0, len1, x1, a1, b1, p1, q1)) (r2 : (ai_mR M)[2]? = some (pc2, .putfield i2, len2, x2, 11, 0, p2, q2)) (l0 : ls[0]? = some (some (.ref 52))) (hv : h[52]? = some (cMdl v)) (z : ∀ h1 : ai_H, h1[52]? = some (cMdl (upd v 0 (nI 0))) → (∀ q : Nat, q ≠ 52 → h1[q]? = h[q]?) → Rk X M 3 ls [] h1 (Qi (fun w h2 => w = W ∧ SM h1 h2))) : Rk X M 0 ls [] h (Qi (fun y h1 => y = W ∧ SM h h1)) := by
  refine rk_aload_n r0 l0 ?_
  refine rk_iconst (v := nI 0) r1 (by decide) ?_
  refine rk_putM r2 hv (Or.inl rfl) (fun h1 g1 hk hl => ?_)
  refine (z h1 g1 hk).mono ?_
  rintro o ⟨w, h2, rfl, rfl, S⟩
  exact ⟨w, h2, rfl, rfl, SM.tr ⟨hl, fun q a _ _ => hk q a, v, _, hv, g1, rfl, rfl, rfl, rfl⟩ S⟩
theorem md_sc2L {X : ai_X} {M : ai_M} {ls : ai_L} {h : ai_H} {W : Int64} {pc0 len0 a0 b0 p0 q0 pc1 len1 a1 b1 p1 q1 pc2 len2 p2 q2 i2 : Nat} {x0 x1 x2 : Value} {v : Nat → Int32} (r0 : (ai_mR M)[0]? = some (pc0, .aload_n 0, len0, x0, a0, b0, p0, q0)) (r1 : (ai_mR M)[1]? = some (pc1, .iconst 0, len1, x1, a1, b1, p1, q1)) (r2 : (ai_mR M)[2]? = some (pc2, .putfield i2, len2, x2, 11, 0, p2, q2)) (l0 : ls[0]? = some (some (.ref 52))) (hv : h[52]? = some (cMdl v)) (z : ∀ h1 : ai_H, h1[52]? = some (cMdl (upd v 0 (nI 0))) → (∀ q : Nat, q ≠ 52 → h1[q]? = h[q]?) → Rk X M 3 ls [] h1 (Ql (fun w h2 => w = W ∧ SM h1 h2))) : Rk X M 0 ls [] h (Ql (fun y h1 => y = W ∧ SM h h1)) := by
  refine rk_aload_n r0 l0 ?_
  refine rk_iconst (v := nI 0) r1 (by decide) ?_
  refine rk_putM r2 hv (Or.inl rfl) (fun h1 g1 hk hl => ?_)
  refine (z h1 g1 hk).mono ?_
  rintro o ⟨w, h2, rfl, rfl, S⟩
  exact ⟨w, h2, rfl, rfl, SM.tr ⟨hl, fun q a _ _ => hk q a, v, _, hv, g1, rfl, rfl, rfl, rfl⟩ S⟩
theorem bh_pred {N x : Nat → Nat} {r k : Nat} (h : 0 < k) : pl N (bh N x r (k - 1)) (x (k - 1)) = bh N x r k := by
  obtain ⟨j, rfl⟩ : ∃ j, k = j + 1 := ⟨k - 1, by omega⟩
  rfl
abbrev mtv (N x : Nat → Nat) (k : Nat) : Int32 := tgo (fun w => bh N x (wt N w) k) (N 271) (N 271) 0
abbrev mtq (N x : Nat → Nat) : Nat → Prop := fun k => ¬ mtv N x k = -1
abbrev mtg (N x : Nat → Nat) (c : Nat) : Nat → Int32 := fun k => if c = 0 then nI k else mtv N x k
noncomputable abbrev amv (N x : Nat → Nat) (k : Nat) : Int32 := fw (amq N (fun w => bh N x (wt N w) k)) nI (N 0) 0
noncomputable abbrev amu (N x : Nat → Nat) : Nat → Prop := fun k => ¬ amv N x k = -1
noncomputable abbrev amg (N x : Nat → Nat) (c : Nat) : Nat → Int32 := fun k => if c = 0 then nI k else amv N x k
theorem l139 {X : ai_X} {h : ai_H} {tp n33 : Int32} {i c L : Nat} {c3 : Int32} {N x : Nat → Nat} (d0 : h[0]? = some (cOne tp)) (hN : HN N) (C : CH h 3 N) (d33 : h[33]? = some (cCo n33)) (R : RtAt h 17 L x) (hx : ∀ j, j < L → x j < N 1) (hL : L ≤ 40) (hc : c < 2) : ∀ (d : Nat) (k : Nat) (g : ai_H) (c5 : Option Value), L < k + d → (k ≤ L) → (Fr 34 35 h g) → (AN g 34 8 (N 271) (fun w => bh N x (wt N w) k)) → Rk X am_139 24 [some (.ref 0), some (.int (nI i)), some (.int (nI c)), some (.int c3), some (.int (nI k)), c5] [] g (Qi (fun w h1 => w = fw (mtq N x) (mtg N x c) (L - k) (k + 1) ∧ Fr 34 35 h h1)) := by
  intro d
  induction d with
  | zero => intro k g c5 hd hk F A; exfalso; omega
  | succ d ih =>
    intro k g c5 hd hk F A
    have e0 := (F.2 0 (by omega)).trans d0
    have e33 := (F.2 33 (by omega)).trans d33
    have C1 := C.fr2 F (by omega)
    have R1 := R.fr2 F (by omega)
    obtain ⟨f, R0, Rf⟩ := id R1
    have e17 := R0.1
    have hy : ∀ w, w < N 271 → bh N x (wt N w) (k) < N 0 := fun w hw => bh_lt hN (hN.xwt hw) _ (fun j hj => hx j (by omega))
    refine rk_iload rfl rfl ?_
    refine rk_aload_n rfl rfl ?_
    refine rk_get rfl (by assumption) rfl ?_
    refine rk_get rfl (by assumption) rfl ?_
    refine rk_icmp_ge rfl rfl (fun hc28 => ?_) (fun hc28 => ?_)
    · replace hc28 := (nI_leI (by omega) (by omega)).mp hc28
      refine rk_iconst (v := (-1)) rfl (by decide) ?_
      exact rk_ireturn rfl rfl ⟨_, _, rfl, by rw [show L - k = 0 by omega]; rfl, F⟩
    · replace hc28 := mt (nI_leI (by omega) (by omega)).mpr hc28
      refine rk_aload_n rfl rfl ?_
      refine rk_get rfl (by assumption) rfl ?_
      refine rk_aload_n rfl rfl ?_
      refine rk_get rfl (by assumption) rfl ?_
      refine rk_iload rfl rfl ?_
      refine rk_cv1e rfl rfl (by assumption) rfl rfl (Nat.le_of_ble_eq_true rfl) (Nat.le_of_ble_eq_true rfl) (s90N R1 (by omega) (by omega)) ?_
      refine rk_cv1v rfl rfl (by assumption) rfl rfl (Nat.le_of_ble_eq_true rfl) (Nat.le_of_ble_eq_true rfl) (s8 hN C1 e33 (hx k (by omega)) hy A) (fun h1 hF => ?_)
      obtain ⟨F2, A2⟩ := hF
      have F3 := F.tr F2
      replace e0 := (F2.2 0 (by omega)).trans e0
      replace e33 := (F2.2 33 (by omega)).trans e33
      have C2 := C1.fr2 F2 (by omega)
      have hy2 : ∀ w, w < N 271 → bh N x (wt N w) (k + 1) < N 0 := fun w hw => bh_lt hN (hN.xwt hw) _ (fun j hj => hx j (by omega))
      have A2 : AN h1 34 8 (N 271) (fun w => bh N x (wt N w) (k + 1)) := A2
      refine rk_aload_n rfl rfl ?_
      refine rk_get rfl (by assumption) rfl ?_
      refine rk_cv0e rfl rfl (by assumption) rfl rfl (Nat.le_of_ble_eq_true rfl) (Nat.le_of_ble_eq_true rfl) (s10 hN C2 e33 hy2 A2) ?_
      refine rk_istore rfl (Nat.le_of_ble_eq_true rfl) rfl ?_
      refine rk_iload rfl rfl ?_
      refine rk_iconst (v := (-1)) rfl (by decide) ?_
      refine rk_icmp_eq rfl rfl (fun hc42 => ?_) (fun hc42 => ?_)
      · have hm : fw (mtq N x) (mtg N x c) (L - k) (k + 1) = fw (mtq N x) (mtg N x c) (L - (k + 1)) (k + 1 + 1) := by rw [show L - k = L - (k + 1) + 1 by omega, fw_f (fun z => z hc42)]
        refine rk_iinc rfl rfl (n_inc _) rfl ?_
        refine rk_goto rfl rfl ?_
        rw [hm]
        exact ih (k + 1) h1 _ (by omega) (by omega) F3 A2
      · have hm : fw (mtq N x) (mtg N x c) (L - k) (k + 1) = mtg N x c (k + 1) := by rw [show L - k = L - (k + 1) + 1 by omega, fw_t hc42]
        refine rk_iload_n rfl rfl ?_
        refine rk_if_ne rfl rfl (fun hc44 => ?_) (fun hc44 => ?_)
        · replace hc44 := mt (n0_eq (by omega)).mpr hc44
          refine rk_iload rfl rfl ?_
          exact rk_ireturn rfl rfl ⟨_, _, rfl, by rw [hm]; first | exact (if_pos (by omega)).symm | exact (if_neg (by omega)).symm, F3⟩
        · replace hc44 := Decidable.not_not.mp hc44
          replace hc44 := (n0_eq (by omega)).mp hc44
          refine rk_iload rfl rfl ?_
          refine rk_iconst (v := nI 1) rfl (by decide) ?_
          refine rk_iadd rfl (nI_add _ _) ?_
          refine rk_goto rfl rfl ?_
          exact rk_ireturn rfl rfl ⟨_, _, rfl, by rw [hm]; first | exact (if_pos (by omega)).symm | exact (if_neg (by omega)).symm, F3⟩
theorem c139_x {X : ai_X} {h : ai_H} {tp : Int32} {ro : Nat → Option Nat} {N : Nat → Nat} (d0 : h[0]? = some (cOne tp)) (hN : HN N) (C : CH h 3 N) (d19 : h[19]? = some (cR 3 4 ro)) (hro : ∀ i, i < 4 → ro i = some (44 + 2 * i)) (Q : ∃ n f, RouteAt h 17 n f) (O : InvO h) {a b : Int32} (ha : ¬ (¬ a < 0 ∧ ¬ nI 4 ≤ a)) : Mt X am_139 [.ref 0, .int a, .int b] h (Qi (fun y h1 => y = -2 ∧ SC h h1)) := by
  have d3 := C.1
  refine rk_aload_n rfl rfl ?_
  refine rk_iload_n rfl rfl ?_
  refine rk_cv1e rfl rfl (by assumption) rfl rfl (Nat.le_of_ble_eq_true rfl) (Nat.le_of_ble_eq_true rfl) (s179 _) ?_
  refine rk_if_eq rfl rfl (fun hc3 => ?_) (fun hc3 => ?_)
  · replace hc3 := (bI_0).mp hc3
    refine rk_bipush (v := (-2)) rfl (by decide) ?_
    exact rk_ireturn rfl rfl ⟨_, _, rfl, rfl, SC.rfl' Q O⟩
  · replace hc3 := Decidable.not_not.mp (mt bI_0.mpr hc3)
    exact absurd hc3 ha
theorem c139_y {X : ai_X} {h : ai_H} {tp : Int32} {ro : Nat → Option Nat} {N : Nat → Nat} (d0 : h[0]? = some (cOne tp)) (hN : HN N) (C : CH h 3 N) (d19 : h[19]? = some (cR 3 4 ro)) (hro : ∀ i, i < 4 → ro i = some (44 + 2 * i)) (Q : ∃ n f, RouteAt h 17 n f) (O : InvO h) {i : Nat} {b : Int32} (hi : i < 4) (hb : ¬ (¬ b < 0 ∧ ¬ nI 1 < b)) : Mt X am_139 [.ref 0, .int (nI i), .int b] h (Qi (fun y h1 => y = -2 ∧ SC h h1)) := by
  have d3 := C.1
  refine rk_aload_n rfl rfl ?_
  refine rk_iload_n rfl rfl ?_
  refine rk_cv1e rfl rfl (by assumption) rfl rfl (Nat.le_of_ble_eq_true rfl) (Nat.le_of_ble_eq_true rfl) (s179 _) ?_
  refine rk_if_eq rfl rfl (fun hc3 => ?_) (fun hc3 => ?_)
  · replace hc3 := (bI_0).mp hc3
    exact absurd (in_mk (by omega) hi) hc3
  · replace hc3 := Decidable.not_not.mp (mt bI_0.mpr hc3)
    refine rk_iload_n rfl rfl ?_
    refine rk_if_lt rfl rfl (fun hc5 => ?_) (fun hc5 => ?_)
    · refine rk_bipush (v := (-2)) rfl (by decide) ?_
      exact rk_ireturn rfl rfl ⟨_, _, rfl, rfl, SC.rfl' Q O⟩
    · refine rk_iload_n rfl rfl ?_
      refine rk_iconst (v := nI 1) rfl (by decide) ?_
      refine rk_icmp_le rfl rfl (fun hc8 => ?_) (fun hc8 => ?_)
      · exact absurd ⟨hc5, i32_le.mp hc8⟩ hb
      · refine rk_bipush (v := (-2)) rfl (by decide) ?_
        exact rk_ireturn rfl rfl ⟨_, _, rfl, rfl, SC.rfl' Q O⟩
theorem c139_v {X : ai_X} {h : ai_H} {tp : Int32} {ro : Nat → Option Nat} {N : Nat → Nat} (d0 : h[0]? = some (cOne tp)) (hN : HN N) (C : CH h 3 N) (d19 : h[19]? = some (cR 3 4 ro)) (hro : ∀ i, i < 4 → ro i = some (44 + 2 * i)) (Q : ∃ n f, RouteAt h 17 n f) (O : InvO h) {i L : Nat} {code : Int32} {x : Nat → Nat} (hi : i < 4) (R : CRow h i (N 1) code L x) {c : Nat} (hc : c < 2) : Mt X am_139 [.ref 0, .int (nI i), .int (nI c)] h (Qi (fun y h1 => y = (if code = 0 then fw (mtq N x) (mtg N x c) L 1 else code) ∧ SC h h1)) := by
  have d3 := C.1
  refine rk_aload_n rfl rfl ?_
  refine rk_iload_n rfl rfl ?_
  refine rk_cv1e rfl rfl (by assumption) rfl rfl (Nat.le_of_ble_eq_true rfl) (Nat.le_of_ble_eq_true rfl) (s179 _) ?_
  refine rk_if_eq rfl rfl (fun hc3 => ?_) (fun hc3 => ?_)
  · replace hc3 := (bI_0).mp hc3
    exact absurd (in_mk (by omega) hi) hc3
  · replace hc3 := Decidable.not_not.mp (mt bI_0.mpr hc3)
    refine rk_iload_n rfl rfl ?_
    refine rk_if_lt rfl rfl (fun hc5 => ?_) (fun hc5 => ?_)
    · replace hc5 := (n0_lt (by omega)).mp hc5
      exact hc5.elim
    · replace hc5 := mt (n0_lt (by omega)).mpr hc5
      refine rk_iload_n rfl rfl ?_
      refine rk_iconst (v := nI 1) rfl (by decide) ?_
      refine rk_icmp_le rfl rfl (fun hc8 => ?_) (fun hc8 => ?_)
      · replace hc8 := (nI_leI (by omega) (by omega)).mp hc8
        refine rk_aload_n rfl rfl ?_
        refine rk_iload_n rfl rfl ?_
        refine rk_cv1i rfl rfl (by assumption) rfl rfl (Nat.le_of_ble_eq_true rfl) (Nat.le_of_ble_eq_true rfl) (s180 d0 d19 hro hi C rfl Q R) (fun w h1 hF => ?_)
        obtain ⟨rfl, F1, Q1, R1⟩ := hF
        have e0 := (F1.2 0 (by omega)).trans d0
        have C1 := C.fr2 F1 (by omega)
        have e3 := C1.1
        refine rk_istore_n rfl (Nat.le_of_ble_eq_true rfl) rfl ?_
        refine rk_iload_n rfl rfl ?_
        refine rk_if_eq rfl rfl (fun hc16 => ?_) (fun hc16 => ?_)
        · subst hc16
          have R2 := R1 rfl
          obtain ⟨hL, hx⟩ := R.x
          have e17 := R2.choose_spec.1.1
          obtain ⟨n33, d33⟩ := O.led
          have e33 := (F1.2 33 (by omega)).trans d33
          have A0 := (sh34 O).fr (F1.2 34 (by omega))
          refine rk_aload_n rfl rfl ?_
          refine rk_get rfl (by assumption) rfl ?_
          refine rk_cv0v rfl rfl (by assumption) rfl rfl (Nat.le_of_ble_eq_true rfl) (Nat.le_of_ble_eq_true rfl) (s6 hN C1 e33 A0) (fun h1 hF => ?_)
          obtain ⟨F2, A2⟩ := hF
          replace e0 := (F2.2 0 (by omega)).trans e0
          replace e33 := (F2.2 33 (by omega)).trans e33
          have C2 := C1.fr2 F2 (by omega)
          have R3 := R2.fr2 F2 (by omega)
          obtain ⟨f9, R9, -⟩ := id R3
          replace e17 := R9.1
          refine rk_iconst (v := nI 0) rfl (by decide) ?_
          refine rk_istore rfl (Nat.le_of_ble_eq_true rfl) rfl ?_
          refine (l139 e0 hN C2 e33 R3 hx hL hc (L + 2) 0 _ _ (by omega) (by omega) Fr.rfl' A2).mono ?_
          rintro o ⟨w, h2, rfl, rfl, F9⟩
          exact ⟨_, _, rfl, by rw [if_pos rfl]; rfl, ((SC.of17 F1 Q1 O).co F2).co F9⟩
        · refine rk_iload_n rfl rfl ?_
          exact rk_ireturn rfl rfl ⟨_, _, rfl, by first | rw [if_neg (by assumption)] | rw [if_pos rfl], SC.of17 F1 Q1 O⟩
      · replace hc8 := mt (nI_leI (by omega) (by omega)).mpr hc8
        omega
theorem l140 {X : ai_X} {h : ai_H} {tp n33 : Int32} {i c L : Nat} {c3 : Int32} {N x : Nat → Nat} (d0 : h[0]? = some (cOne tp)) (hN : HN N) (C : CH h 3 N) (d33 : h[33]? = some (cCo n33)) (R : RtAt h 17 L x) (hx : ∀ j, j < L → x j < N 1) (hL : L ≤ 40) (hc : c < 2) : ∀ (d : Nat) (k : Nat) (g : ai_H) (c5 : Option Value), L + 1 < k + d → (k ≤ L + 1) → (Fr 34 35 h g) → (AN g 34 8 (N 271) (fun w => bh N x (wt N w) (k - 1))) → Rk X am_140 24 [some (.ref 0), some (.int (nI i)), some (.int (nI c)), some (.int c3), some (.int (nI k)), c5] [] g (Qi (fun w h1 => w = fw (amu N x) (amg N x c) (L + 1 - k) k ∧ Fr 34 35 h h1)) := by
  intro d
  induction d with
  | zero => intro k g c5 hd hk F A; exfalso; omega
  | succ d ih =>
    intro k g c5 hd hk F A
    have e0 := (F.2 0 (by omega)).trans d0
    have e33 := (F.2 33 (by omega)).trans d33
    have C1 := C.fr2 F (by omega)
    have R1 := R.fr2 F (by omega)
    obtain ⟨f, R0, Rf⟩ := id R1
    have e17 := R0.1
    refine rk_iload rfl rfl ?_
    refine rk_aload_n rfl rfl ?_
    refine rk_get rfl (by assumption) rfl ?_
    refine rk_get rfl (by assumption) rfl ?_
    refine rk_icmp_gt rfl rfl (fun hc28 => ?_) (fun hc28 => ?_)
    · replace hc28 := (nI_ltI (by omega) (by omega)).mp hc28
      refine rk_iconst (v := (-1)) rfl (by decide) ?_
      exact rk_ireturn rfl rfl ⟨_, _, rfl, by rw [show L + 1 - k = 0 by omega]; rfl, F⟩
    · replace hc28 := mt (nI_ltI (by omega) (by omega)).mpr hc28
      refine rk_iload rfl rfl ?_
      refine rk_if_le rfl rfl (fun hc30 => ?_) (fun hc30 => ?_)
      · replace hc30 := (n0_le (by omega)).mp hc30
        have F3 := F
        have C2 := C1
        have hy2 : ∀ w, w < N 271 → bh N x (wt N w) (k) < N 0 := fun w hw => bh_lt hN (hN.xwt hw) _ (fun j hj => hx j (by omega))
        have A2 : AN g 34 8 (N 271) (fun w => bh N x (wt N w) k) := A.congr (fun w _ => by rw [show k - 1 = k by omega])
        refine rk_aload_n rfl rfl ?_
        refine rk_get rfl (by assumption) rfl ?_
        refine rk_cv0e rfl rfl (by assumption) rfl rfl (Nat.le_of_ble_eq_true rfl) (Nat.le_of_ble_eq_true rfl) (s12 hN C2 e33 hy2 A2) ?_
        refine rk_istore rfl (Nat.le_of_ble_eq_true rfl) rfl ?_
        refine rk_iload rfl rfl ?_
        refine rk_iconst (v := (-1)) rfl (by decide) ?_
        refine rk_icmp_eq rfl rfl (fun hc46 => ?_) (fun hc46 => ?_)
        · have hm : fw (amu N x) (amg N x c) (L + 1 - k) k = fw (amu N x) (amg N x c) (L + 1 - (k + 1)) (k + 1) := by rw [show L + 1 - k = L + 1 - (k + 1) + 1 by omega, fw_f (fun z => z hc46)]
          refine rk_iinc rfl rfl (n_inc _) rfl ?_
          refine rk_goto rfl rfl ?_
          rw [hm]
          exact ih (k + 1) _ _ (by omega) (by omega) F3 A2
        · have hm : fw (amu N x) (amg N x c) (L + 1 - k) k = amg N x c k := by rw [show L + 1 - k = L + 1 - (k + 1) + 1 by omega, fw_t hc46]
          refine rk_iload_n rfl rfl ?_
          refine rk_if_ne rfl rfl (fun hc48 => ?_) (fun hc48 => ?_)
          · replace hc48 := mt (n0_eq (by omega)).mpr hc48
            refine rk_iload rfl rfl ?_
            exact rk_ireturn rfl rfl ⟨_, _, rfl, by rw [hm]; first | exact (if_pos (by omega)).symm | exact (if_neg (by omega)).symm, F3⟩
          · replace hc48 := Decidable.not_not.mp hc48
            replace hc48 := (n0_eq (by omega)).mp hc48
            refine rk_iload rfl rfl ?_
            refine rk_goto rfl rfl ?_
            exact rk_ireturn rfl rfl ⟨_, _, rfl, by rw [hm]; first | exact (if_pos (by omega)).symm | exact (if_neg (by omega)).symm, F3⟩
      · replace hc30 := mt (n0_le (by omega)).mpr hc30
        have hy : ∀ w, w < N 271 → bh N x (wt N w) (k - 1) < N 0 := fun w hw => bh_lt hN (hN.xwt hw) _ (fun j hj => hx j (by omega))
        refine rk_aload_n rfl rfl ?_
        refine rk_get rfl (by assumption) rfl ?_
        refine rk_aload_n rfl rfl ?_
        refine rk_get rfl (by assumption) rfl ?_
        refine rk_iload rfl rfl ?_
        refine rk_iconst (v := nI 1) rfl (by decide) ?_
        refine rk_isub rfl (pk_sub (by omega)) ?_
        refine rk_cv1e rfl rfl (by assumption) rfl rfl (Nat.le_of_ble_eq_true rfl) (Nat.le_of_ble_eq_true rfl) (s90N R1 (by omega) (by omega)) ?_
        refine rk_cv1v rfl rfl (by assumption) rfl rfl (Nat.le_of_ble_eq_true rfl) (Nat.le_of_ble_eq_true rfl) (s8 hN C1 e33 (hx (k - 1) (by omega)) hy A) (fun h1 hF => ?_)
        obtain ⟨F2, A2⟩ := hF
        have F3 := F.tr F2
        replace e0 := (F2.2 0 (by omega)).trans e0
        replace e33 := (F2.2 33 (by omega)).trans e33
        have C2 := C1.fr2 F2 (by omega)
        have hy2 : ∀ w, w < N 271 → bh N x (wt N w) (k) < N 0 := fun w hw => bh_lt hN (hN.xwt hw) _ (fun j hj => hx j (by omega))
        have A2 : AN h1 34 8 (N 271) (fun w => bh N x (wt N w) k) := A2.congr (fun w _ => bh_pred (by omega))
        refine rk_aload_n rfl rfl ?_
        refine rk_get rfl (by assumption) rfl ?_
        refine rk_cv0e rfl rfl (by assumption) rfl rfl (Nat.le_of_ble_eq_true rfl) (Nat.le_of_ble_eq_true rfl) (s12 hN C2 e33 hy2 A2) ?_
        refine rk_istore rfl (Nat.le_of_ble_eq_true rfl) rfl ?_
        refine rk_iload rfl rfl ?_
        refine rk_iconst (v := (-1)) rfl (by decide) ?_
        refine rk_icmp_eq rfl rfl (fun hc46 => ?_) (fun hc46 => ?_)
        · have hm : fw (amu N x) (amg N x c) (L + 1 - k) k = fw (amu N x) (amg N x c) (L + 1 - (k + 1)) (k + 1) := by rw [show L + 1 - k = L + 1 - (k + 1) + 1 by omega, fw_f (fun z => z hc46)]
          refine rk_iinc rfl rfl (n_inc _) rfl ?_
          refine rk_goto rfl rfl ?_
          rw [hm]
          exact ih (k + 1) _ _ (by omega) (by omega) F3 A2
        · have hm : fw (amu N x) (amg N x c) (L + 1 - k) k = amg N x c k := by rw [show L + 1 - k = L + 1 - (k + 1) + 1 by omega, fw_t hc46]
          refine rk_iload_n rfl rfl ?_
          refine rk_if_ne rfl rfl (fun hc48 => ?_) (fun hc48 => ?_)
          · replace hc48 := mt (n0_eq (by omega)).mpr hc48
            refine rk_iload rfl rfl ?_
            exact rk_ireturn rfl rfl ⟨_, _, rfl, by rw [hm]; first | exact (if_pos (by omega)).symm | exact (if_neg (by omega)).symm, F3⟩
          · replace hc48 := Decidable.not_not.mp hc48
            replace hc48 := (n0_eq (by omega)).mp hc48
            refine rk_iload rfl rfl ?_
            refine rk_goto rfl rfl ?_
            exact rk_ireturn rfl rfl ⟨_, _, rfl, by rw [hm]; first | exact (if_pos (by omega)).symm | exact (if_neg (by omega)).symm, F3⟩
theorem c140_x {X : ai_X} {h : ai_H} {tp : Int32} {ro : Nat → Option Nat} {N : Nat → Nat} (d0 : h[0]? = some (cOne tp)) (hN : HN N) (C : CH h 3 N) (d19 : h[19]? = some (cR 3 4 ro)) (hro : ∀ i, i < 4 → ro i = some (44 + 2 * i)) (Q : ∃ n f, RouteAt h 17 n f) (O : InvO h) {a b : Int32} (ha : ¬ (¬ a < 0 ∧ ¬ nI 4 ≤ a)) : Mt X am_140 [.ref 0, .int a, .int b] h (Qi (fun y h1 => y = -2 ∧ SC h h1)) := by
  have d3 := C.1
  refine rk_aload_n rfl rfl ?_
  refine rk_iload_n rfl rfl ?_
  refine rk_cv1e rfl rfl (by assumption) rfl rfl (Nat.le_of_ble_eq_true rfl) (Nat.le_of_ble_eq_true rfl) (s179 _) ?_
  refine rk_if_eq rfl rfl (fun hc3 => ?_) (fun hc3 => ?_)
  · replace hc3 := (bI_0).mp hc3
    refine rk_bipush (v := (-2)) rfl (by decide) ?_
    exact rk_ireturn rfl rfl ⟨_, _, rfl, rfl, SC.rfl' Q O⟩
  · replace hc3 := Decidable.not_not.mp (mt bI_0.mpr hc3)
    exact absurd hc3 ha
theorem c140_y {X : ai_X} {h : ai_H} {tp : Int32} {ro : Nat → Option Nat} {N : Nat → Nat} (d0 : h[0]? = some (cOne tp)) (hN : HN N) (C : CH h 3 N) (d19 : h[19]? = some (cR 3 4 ro)) (hro : ∀ i, i < 4 → ro i = some (44 + 2 * i)) (Q : ∃ n f, RouteAt h 17 n f) (O : InvO h) {i : Nat} {b : Int32} (hi : i < 4) (hb : ¬ (¬ b < 0 ∧ ¬ nI 1 < b)) : Mt X am_140 [.ref 0, .int (nI i), .int b] h (Qi (fun y h1 => y = -2 ∧ SC h h1)) := by
  have d3 := C.1
  refine rk_aload_n rfl rfl ?_
  refine rk_iload_n rfl rfl ?_
  refine rk_cv1e rfl rfl (by assumption) rfl rfl (Nat.le_of_ble_eq_true rfl) (Nat.le_of_ble_eq_true rfl) (s179 _) ?_
  refine rk_if_eq rfl rfl (fun hc3 => ?_) (fun hc3 => ?_)
  · replace hc3 := (bI_0).mp hc3
    exact absurd (in_mk (by omega) hi) hc3
  · replace hc3 := Decidable.not_not.mp (mt bI_0.mpr hc3)
    refine rk_iload_n rfl rfl ?_
    refine rk_if_lt rfl rfl (fun hc5 => ?_) (fun hc5 => ?_)
    · refine rk_bipush (v := (-2)) rfl (by decide) ?_
      exact rk_ireturn rfl rfl ⟨_, _, rfl, rfl, SC.rfl' Q O⟩
    · refine rk_iload_n rfl rfl ?_
      refine rk_iconst (v := nI 1) rfl (by decide) ?_
      refine rk_icmp_le rfl rfl (fun hc8 => ?_) (fun hc8 => ?_)
      · exact absurd ⟨hc5, i32_le.mp hc8⟩ hb
      · refine rk_bipush (v := (-2)) rfl (by decide) ?_
        exact rk_ireturn rfl rfl ⟨_, _, rfl, rfl, SC.rfl' Q O⟩
theorem c140_v {X : ai_X} {h : ai_H} {tp : Int32} {ro : Nat → Option Nat} {N : Nat → Nat} (d0 : h[0]? = some (cOne tp)) (hN : HN N) (C : CH h 3 N) (d19 : h[19]? = some (cR 3 4 ro)) (hro : ∀ i, i < 4 → ro i = some (44 + 2 * i)) (Q : ∃ n f, RouteAt h 17 n f) (O : InvO h) {i L : Nat} {code : Int32} {x : Nat → Nat} (hi : i < 4) (R : CRow h i (N 1) code L x) {c : Nat} (hc : c < 2) : Mt X am_140 [.ref 0, .int (nI i), .int (nI c)] h (Qi (fun y h1 => y = (if code = 0 then fw (amu N x) (amg N x c) (L + 1) 0 else code) ∧ SC h h1)) := by
  have d3 := C.1
  refine rk_aload_n rfl rfl ?_
  refine rk_iload_n rfl rfl ?_
  refine rk_cv1e rfl rfl (by assumption) rfl rfl (Nat.le_of_ble_eq_true rfl) (Nat.le_of_ble_eq_true rfl) (s179 _) ?_
  refine rk_if_eq rfl rfl (fun hc3 => ?_) (fun hc3 => ?_)
  · replace hc3 := (bI_0).mp hc3
    exact absurd (in_mk (by omega) hi) hc3
  · replace hc3 := Decidable.not_not.mp (mt bI_0.mpr hc3)
    refine rk_iload_n rfl rfl ?_
    refine rk_if_lt rfl rfl (fun hc5 => ?_) (fun hc5 => ?_)
    · replace hc5 := (n0_lt (by omega)).mp hc5
      exact hc5.elim
    · replace hc5 := mt (n0_lt (by omega)).mpr hc5
      refine rk_iload_n rfl rfl ?_
      refine rk_iconst (v := nI 1) rfl (by decide) ?_
      refine rk_icmp_le rfl rfl (fun hc8 => ?_) (fun hc8 => ?_)
      · replace hc8 := (nI_leI (by omega) (by omega)).mp hc8
        refine rk_aload_n rfl rfl ?_
        refine rk_iload_n rfl rfl ?_
        refine rk_cv1i rfl rfl (by assumption) rfl rfl (Nat.le_of_ble_eq_true rfl) (Nat.le_of_ble_eq_true rfl) (s180 d0 d19 hro hi C rfl Q R) (fun w h1 hF => ?_)
        obtain ⟨rfl, F1, Q1, R1⟩ := hF
        have e0 := (F1.2 0 (by omega)).trans d0
        have C1 := C.fr2 F1 (by omega)
        have e3 := C1.1
        refine rk_istore_n rfl (Nat.le_of_ble_eq_true rfl) rfl ?_
        refine rk_iload_n rfl rfl ?_
        refine rk_if_eq rfl rfl (fun hc16 => ?_) (fun hc16 => ?_)
        · subst hc16
          have R2 := R1 rfl
          obtain ⟨hL, hx⟩ := R.x
          have e17 := R2.choose_spec.1.1
          obtain ⟨n33, d33⟩ := O.led
          have e33 := (F1.2 33 (by omega)).trans d33
          have A0 := (sh34 O).fr (F1.2 34 (by omega))
          refine rk_aload_n rfl rfl ?_
          refine rk_get rfl (by assumption) rfl ?_
          refine rk_cv0v rfl rfl (by assumption) rfl rfl (Nat.le_of_ble_eq_true rfl) (Nat.le_of_ble_eq_true rfl) (s6 hN C1 e33 A0) (fun h1 hF => ?_)
          obtain ⟨F2, A2⟩ := hF
          replace e0 := (F2.2 0 (by omega)).trans e0
          replace e33 := (F2.2 33 (by omega)).trans e33
          have C2 := C1.fr2 F2 (by omega)
          have R3 := R2.fr2 F2 (by omega)
          obtain ⟨f9, R9, -⟩ := id R3
          replace e17 := R9.1
          refine rk_iconst (v := nI 0) rfl (by decide) ?_
          refine rk_istore rfl (Nat.le_of_ble_eq_true rfl) rfl ?_
          refine (l140 e0 hN C2 e33 R3 hx hL hc (L + 2) 0 _ _ (by omega) (by omega) Fr.rfl' A2).mono ?_
          rintro o ⟨w, h2, rfl, rfl, F9⟩
          exact ⟨_, _, rfl, by rw [if_pos rfl]; rfl, ((SC.of17 F1 Q1 O).co F2).co F9⟩
        · refine rk_iload_n rfl rfl ?_
          exact rk_ireturn rfl rfl ⟨_, _, rfl, by first | rw [if_neg (by assumption)] | rw [if_pos rfl], SC.of17 F1 Q1 O⟩
      · replace hc8 := mt (nI_leI (by omega) (by omega)).mpr hc8
        omega
theorem l226 {X : ai_X} {h : ai_H} {v A rm : Nat → Int32} {nu : Nat → Int64} {i c L : Nat} {c3 : Int32} {N x : Nat → Nat} (c0 : h[52]? = some (cMdl v)) (c1 : h[53]? = some (cI 2346 A)) (c78 : h[78]? = some (cI 4 rm)) (c4 : h[79]? = some (cJ 160 nu)) (hN : HN N) (M : MH A N) (hi : i < 4) (hm : rm i = nI L) (hx : ∀ k, k < L → x k < N 1 ∧ nu (40 * i + k) = (nI (x k)).toInt64) (hL : L ≤ 40) (hc : c < 2) : ∀ (d : Nat) (k : Nat), L + 1 < k + d → (k ≤ L + 1) → Rk X am_226 27 [some (.ref 52), some (.int (nI i)), some (.int (nI c)), some (.int c3), some (.int (nI k))] [] h (Qe (fw (mtq N x) (mtg N x c) (L + 1 - k) k) h) := by
  intro d
  induction d with
  | zero => intro k hd hk; exfalso; omega
  | succ d ih =>
    intro k hd hk
    refine rk_iload rfl rfl ?_
    refine rk_aload_n rfl rfl ?_
    refine rk_get rfl (by assumption) rfl ?_
    refine rk_iload_n rfl rfl ?_
    refine rk_iald rfl (by assumption) (rfl) (by omega) (by decide) ?_
    rw [hm]
    refine rk_icmp_gt rfl rfl (fun hc32 => ?_) (fun hc32 => ?_)
    · replace hc32 := (nI_ltI (by omega) (by omega)).mp hc32
      refine rk_iconst (v := (-1)) rfl (by decide) ?_
      exact rk_ireturn rfl rfl (Qe_of (by rw [show L + 1 - k = 0 by omega]; rfl))
    · replace hc32 := mt (nI_ltI (by omega) (by omega)).mpr hc32
      refine rk_aload_n rfl rfl ?_
      refine rk_iload_n rfl rfl ?_
      refine rk_iload rfl rfl ?_
      refine rk_cv2e rfl rfl (by assumption) rfl rfl (Nat.le_of_ble_eq_true rfl) (Nat.le_of_ble_eq_true rfl) (s225 c0 c1 c4 hN M hi hx (by omega) hL) ?_
      refine rk_iconst (v := (-1)) rfl (by decide) ?_
      refine rk_icmp_eq rfl rfl (fun hc38 => ?_) (fun hc38 => ?_)
      · have hm2 : fw (mtq N x) (mtg N x c) (L + 1 - k) k = fw (mtq N x) (mtg N x c) (L + 1 - (k + 1)) (k + 1) := by rw [show L + 1 - k = L + 1 - (k + 1) + 1 by omega, fw_f (fun z => z hc38)]
        refine rk_iinc rfl rfl (n_inc _) rfl ?_
        refine rk_goto rfl rfl ?_
        rw [hm2]
        exact ih (k + 1) (by omega) (by omega)
      · have hm2 : fw (mtq N x) (mtg N x c) (L + 1 - k) k = mtg N x c k := by rw [show L + 1 - k = L + 1 - (k + 1) + 1 by omega, fw_t hc38]
        refine rk_iload_n rfl rfl ?_
        refine rk_if_ne rfl rfl (fun hc40 => ?_) (fun hc40 => ?_)
        · replace hc40 := mt (n0_eq (by omega)).mpr hc40
          refine rk_aload_n rfl rfl ?_
          refine rk_iload_n rfl rfl ?_
          refine rk_iload rfl rfl ?_
          refine rk_cv2e rfl rfl (by assumption) rfl rfl (Nat.le_of_ble_eq_true rfl) (Nat.le_of_ble_eq_true rfl) (s225 c0 c1 c4 hN M hi hx (by omega) hL) ?_
          exact rk_ireturn rfl rfl (Qe_of (by rw [hm2]; first | exact (if_pos (by omega)).symm | exact (if_neg (by omega)).symm))
        · replace hc40 := Decidable.not_not.mp hc40
          replace hc40 := (n0_eq (by omega)).mp hc40
          refine rk_iload rfl rfl ?_
          refine rk_goto rfl rfl ?_
          exact rk_ireturn rfl rfl (Qe_of (by rw [hm2]; first | exact (if_pos (by omega)).symm | exact (if_neg (by omega)).symm))
theorem m226_x {X : ai_X} {h : ai_H} {v A : Nat → Int32} {N : Nat → Nat} (c0 : h[52]? = some (cMdl v)) (c1 : h[53]? = some (cI 2346 A)) (hN : HN N) (M : MH A N) {a b : Int32} (ha : ¬ (¬ a < 0 ∧ ¬ nI 4 ≤ a)) : Rk X am_226 3 (ai_loc (ai_mL am_226) [.ref 52, .int a, .int b]) [] h (Qe (-2) h) := by
  obtain ⟨a0, a1, a268, a269, a270, a271, apl, apc, aot, asg, awt⟩ := id M
  refine rk_iload_n rfl rfl ?_
  refine rk_i2l rfl rfl ?_
  refine rk_lconst (v := 0) rfl (by decide) ?_
  rw [show (0 : Int64) = (0 : Int32).toInt64 by decide]
  refine rk_ldc2 rfl ?_
  rw [show (3 : Int64) = (nI 3).toInt64 by decide]
  refine rk_cs3e rfl rfl rfl (Nat.le_of_ble_eq_true rfl) (Nat.le_of_ble_eq_true rfl) (s181 _ _ _) ?_
  refine rk_if_eq rfl rfl (fun hc8 => ?_) (fun hc8 => ?_)
  · replace hc8 := (bI_0).mp hc8
    refine rk_bipush (v := (-2)) rfl (by decide) ?_
    exact rk_ireturn rfl rfl (Qe_of (by first | rfl | rw [if_neg (by assumption)] | rw [if_pos rfl]))
  · replace hc8 := Decidable.not_not.mp (mt bI_0.mpr hc8)
    exact absurd (in34.mp hc8) ha
theorem m226_y {X : ai_X} {h : ai_H} {v A : Nat → Int32} {N : Nat → Nat} (c0 : h[52]? = some (cMdl v)) (c1 : h[53]? = some (cI 2346 A)) (hN : HN N) (M : MH A N) {i : Nat} {b : Int32} (hi : i < 4) (hb : ¬ (¬ b < 0 ∧ ¬ nI 1 < b)) : Rk X am_226 3 (ai_loc (ai_mL am_226) [.ref 52, .int (nI i), .int b]) [] h (Qe (-2) h) := by
  obtain ⟨a0, a1, a268, a269, a270, a271, apl, apc, aot, asg, awt⟩ := id M
  refine rk_iload_n rfl rfl ?_
  refine rk_i2l rfl rfl ?_
  refine rk_lconst (v := 0) rfl (by decide) ?_
  rw [show (0 : Int64) = (0 : Int32).toInt64 by decide]
  refine rk_ldc2 rfl ?_
  rw [show (3 : Int64) = (nI 3).toInt64 by decide]
  refine rk_cs3e rfl rfl rfl (Nat.le_of_ble_eq_true rfl) (Nat.le_of_ble_eq_true rfl) (s181 _ _ _) ?_
  refine rk_if_eq rfl rfl (fun hc8 => ?_) (fun hc8 => ?_)
  · replace hc8 := (bI_0).mp hc8
    exact absurd (in3_mk hi) hc8
  · replace hc8 := Decidable.not_not.mp (mt bI_0.mpr hc8)
    refine rk_iload_n rfl rfl ?_
    refine rk_i2l rfl rfl ?_
    refine rk_lconst (v := 0) rfl (by decide) ?_
    rw [show (0 : Int64) = (0 : Int32).toInt64 by decide]
    refine rk_lconst (v := 1) rfl (by decide) ?_
    rw [show (1 : Int64) = (nI 1).toInt64 by decide]
    refine rk_cs3e rfl rfl rfl (Nat.le_of_ble_eq_true rfl) (Nat.le_of_ble_eq_true rfl) (s181 _ _ _) ?_
    refine rk_if_ne rfl rfl (fun hc14 => ?_) (fun hc14 => ?_)
    · replace hc14 := Decidable.not_not.mp (mt bI_0.mpr hc14)
      exact absurd hc14 hb
    · replace hc14 := Decidable.not_not.mp hc14
      replace hc14 := (bI_0).mp hc14
      refine rk_bipush (v := (-2)) rfl (by decide) ?_
      exact rk_ireturn rfl rfl (Qe_of (by first | rfl | rw [if_neg (by assumption)] | rw [if_pos rfl]))
theorem m226_v {X : ai_X} {h : ai_H} {v A : Nat → Int32} {N : Nat → Nat} (c0 : h[52]? = some (cMdl v)) (c1 : h[53]? = some (cI 2346 A)) (hN : HN N) (M : MH A N) {i L : Nat} {code : Int32} {x : Nat → Nat} (hi : i < 4) (R : MRow h i (N 1) code L x) {c : Nat} (hc : c < 2) : Rk X am_226 3 (ai_loc (ai_mL am_226) [.ref 52, .int (nI i), .int (nI c)]) [] h (Qe (if code = 0 then fw (mtq N x) (mtg N x c) L 1 else code) h) := by
  obtain ⟨a0, a1, a268, a269, a270, a271, apl, apc, aot, asg, awt⟩ := id M
  refine rk_iload_n rfl rfl ?_
  refine rk_i2l rfl rfl ?_
  refine rk_lconst (v := 0) rfl (by decide) ?_
  rw [show (0 : Int64) = (0 : Int32).toInt64 by decide]
  refine rk_ldc2 rfl ?_
  rw [show (3 : Int64) = (nI 3).toInt64 by decide]
  refine rk_cs3e rfl rfl rfl (Nat.le_of_ble_eq_true rfl) (Nat.le_of_ble_eq_true rfl) (s181 _ _ _) ?_
  refine rk_if_eq rfl rfl (fun hc8 => ?_) (fun hc8 => ?_)
  · replace hc8 := (bI_0).mp hc8
    exact absurd (in3_mk hi) hc8
  · replace hc8 := Decidable.not_not.mp (mt bI_0.mpr hc8)
    refine rk_iload_n rfl rfl ?_
    refine rk_i2l rfl rfl ?_
    refine rk_lconst (v := 0) rfl (by decide) ?_
    rw [show (0 : Int64) = (0 : Int32).toInt64 by decide]
    refine rk_lconst (v := 1) rfl (by decide) ?_
    rw [show (1 : Int64) = (nI 1).toInt64 by decide]
    refine rk_cs3e rfl rfl rfl (Nat.le_of_ble_eq_true rfl) (Nat.le_of_ble_eq_true rfl) (s181 _ _ _) ?_
    refine rk_if_ne rfl rfl (fun hc14 => ?_) (fun hc14 => ?_)
    · replace hc14 := Decidable.not_not.mp (mt bI_0.mpr hc14)
      refine rk_aload_n rfl rfl ?_
      refine rk_iload_n rfl rfl ?_
      refine rk_cv1e rfl rfl (by assumption) rfl rfl (Nat.le_of_ble_eq_true rfl) (Nat.le_of_ble_eq_true rfl) (s221 c0 c1 a1 hN.t hi R) ?_
      refine rk_istore_n rfl (Nat.le_of_ble_eq_true rfl) rfl ?_
      refine rk_iload_n rfl rfl ?_
      refine rk_if_eq rfl rfl (fun hc22 => ?_) (fun hc22 => ?_)
      · subst hc22
        obtain ⟨rm, nu, c3, c4, hm, hL, hx⟩ := R.good
        rw [if_pos rfl]
        refine rk_iconst (v := nI 1) rfl (by decide) ?_
        refine rk_istore rfl (Nat.le_of_ble_eq_true rfl) rfl ?_
        have z := l226 (X := X) (c3 := 0) c0 c1 c3 c4 hN M hi hm hx hL hc (L + 2) 1 (by omega) (by omega)
        rw [show L + 1 - 1 = L by omega] at z
        exact z
      · refine rk_iload_n rfl rfl ?_
        exact rk_ireturn rfl rfl (Qe_of (by first | rfl | rw [if_neg (by assumption)] | rw [if_pos rfl]))
    · replace hc14 := Decidable.not_not.mp hc14
      replace hc14 := (bI_0).mp hc14
      exact absurd (w1_mk hc) hc14
theorem l228 {X : ai_X} {h : ai_H} {v A rm : Nat → Int32} {nu : Nat → Int64} {i c L : Nat} {c3 : Int32} {N x : Nat → Nat} (c0 : h[52]? = some (cMdl v)) (c1 : h[53]? = some (cI 2346 A)) (c78 : h[78]? = some (cI 4 rm)) (c4 : h[79]? = some (cJ 160 nu)) (hN : HN N) (M : MH A N) (hi : i < 4) (hm : rm i = nI L) (hx : ∀ k, k < L → x k < N 1 ∧ nu (40 * i + k) = (nI (x k)).toInt64) (hL : L ≤ 40) (hc : c < 2) : ∀ (d : Nat) (k : Nat), L + 1 < k + d → (k ≤ L + 1) → Rk X am_228 27 [some (.ref 52), some (.int (nI i)), some (.int (nI c)), some (.int c3), some (.int (nI k))] [] h (Qe (fw (amu N x) (amg N x c) (L + 1 - k) k) h) := by
  intro d
  induction d with
  | zero => intro k hd hk; exfalso; omega
  | succ d ih =>
    intro k hd hk
    refine rk_iload rfl rfl ?_
    refine rk_aload_n rfl rfl ?_
    refine rk_get rfl (by assumption) rfl ?_
    refine rk_iload_n rfl rfl ?_
    refine rk_iald rfl (by assumption) (rfl) (by omega) (by decide) ?_
    rw [hm]
    refine rk_icmp_gt rfl rfl (fun hc32 => ?_) (fun hc32 => ?_)
    · replace hc32 := (nI_ltI (by omega) (by omega)).mp hc32
      refine rk_iconst (v := (-1)) rfl (by decide) ?_
      exact rk_ireturn rfl rfl (Qe_of (by rw [show L + 1 - k = 0 by omega]; rfl))
    · replace hc32 := mt (nI_ltI (by omega) (by omega)).mpr hc32
      refine rk_aload_n rfl rfl ?_
      refine rk_iload_n rfl rfl ?_
      refine rk_iload rfl rfl ?_
      refine rk_cv2e rfl rfl (by assumption) rfl rfl (Nat.le_of_ble_eq_true rfl) (Nat.le_of_ble_eq_true rfl) (s227 c0 c1 c4 hN M hi hx (by omega) hL) ?_
      refine rk_iconst (v := (-1)) rfl (by decide) ?_
      refine rk_icmp_eq rfl rfl (fun hc38 => ?_) (fun hc38 => ?_)
      · have hm2 : fw (amu N x) (amg N x c) (L + 1 - k) k = fw (amu N x) (amg N x c) (L + 1 - (k + 1)) (k + 1) := by rw [show L + 1 - k = L + 1 - (k + 1) + 1 by omega, fw_f (fun z => z hc38)]
        refine rk_iinc rfl rfl (n_inc _) rfl ?_
        refine rk_goto rfl rfl ?_
        rw [hm2]
        exact ih (k + 1) (by omega) (by omega)
      · have hm2 : fw (amu N x) (amg N x c) (L + 1 - k) k = amg N x c k := by rw [show L + 1 - k = L + 1 - (k + 1) + 1 by omega, fw_t hc38]
        refine rk_iload_n rfl rfl ?_
        refine rk_if_ne rfl rfl (fun hc40 => ?_) (fun hc40 => ?_)
        · replace hc40 := mt (n0_eq (by omega)).mpr hc40
          refine rk_aload_n rfl rfl ?_
          refine rk_iload_n rfl rfl ?_
          refine rk_iload rfl rfl ?_
          refine rk_cv2e rfl rfl (by assumption) rfl rfl (Nat.le_of_ble_eq_true rfl) (Nat.le_of_ble_eq_true rfl) (s227 c0 c1 c4 hN M hi hx (by omega) hL) ?_
          exact rk_ireturn rfl rfl (Qe_of (by rw [hm2]; first | exact (if_pos (by omega)).symm | exact (if_neg (by omega)).symm))
        · replace hc40 := Decidable.not_not.mp hc40
          replace hc40 := (n0_eq (by omega)).mp hc40
          refine rk_iload rfl rfl ?_
          refine rk_goto rfl rfl ?_
          exact rk_ireturn rfl rfl (Qe_of (by rw [hm2]; first | exact (if_pos (by omega)).symm | exact (if_neg (by omega)).symm))
theorem m228_x {X : ai_X} {h : ai_H} {v A : Nat → Int32} {N : Nat → Nat} (c0 : h[52]? = some (cMdl v)) (c1 : h[53]? = some (cI 2346 A)) (hN : HN N) (M : MH A N) {a b : Int32} (ha : ¬ (¬ a < 0 ∧ ¬ nI 4 ≤ a)) : Rk X am_228 3 (ai_loc (ai_mL am_228) [.ref 52, .int a, .int b]) [] h (Qe (-2) h) := by
  obtain ⟨a0, a1, a268, a269, a270, a271, apl, apc, aot, asg, awt⟩ := id M
  refine rk_iload_n rfl rfl ?_
  refine rk_i2l rfl rfl ?_
  refine rk_lconst (v := 0) rfl (by decide) ?_
  rw [show (0 : Int64) = (0 : Int32).toInt64 by decide]
  refine rk_ldc2 rfl ?_
  rw [show (3 : Int64) = (nI 3).toInt64 by decide]
  refine rk_cs3e rfl rfl rfl (Nat.le_of_ble_eq_true rfl) (Nat.le_of_ble_eq_true rfl) (s181 _ _ _) ?_
  refine rk_if_eq rfl rfl (fun hc8 => ?_) (fun hc8 => ?_)
  · replace hc8 := (bI_0).mp hc8
    refine rk_bipush (v := (-2)) rfl (by decide) ?_
    exact rk_ireturn rfl rfl (Qe_of (by first | rfl | rw [if_neg (by assumption)] | rw [if_pos rfl]))
  · replace hc8 := Decidable.not_not.mp (mt bI_0.mpr hc8)
    exact absurd (in34.mp hc8) ha
theorem m228_y {X : ai_X} {h : ai_H} {v A : Nat → Int32} {N : Nat → Nat} (c0 : h[52]? = some (cMdl v)) (c1 : h[53]? = some (cI 2346 A)) (hN : HN N) (M : MH A N) {i : Nat} {b : Int32} (hi : i < 4) (hb : ¬ (¬ b < 0 ∧ ¬ nI 1 < b)) : Rk X am_228 3 (ai_loc (ai_mL am_228) [.ref 52, .int (nI i), .int b]) [] h (Qe (-2) h) := by
  obtain ⟨a0, a1, a268, a269, a270, a271, apl, apc, aot, asg, awt⟩ := id M
  refine rk_iload_n rfl rfl ?_
  refine rk_i2l rfl rfl ?_
  refine rk_lconst (v := 0) rfl (by decide) ?_
  rw [show (0 : Int64) = (0 : Int32).toInt64 by decide]
  refine rk_ldc2 rfl ?_
  rw [show (3 : Int64) = (nI 3).toInt64 by decide]
  refine rk_cs3e rfl rfl rfl (Nat.le_of_ble_eq_true rfl) (Nat.le_of_ble_eq_true rfl) (s181 _ _ _) ?_
  refine rk_if_eq rfl rfl (fun hc8 => ?_) (fun hc8 => ?_)
  · replace hc8 := (bI_0).mp hc8
    exact absurd (in3_mk hi) hc8
  · replace hc8 := Decidable.not_not.mp (mt bI_0.mpr hc8)
    refine rk_iload_n rfl rfl ?_
    refine rk_i2l rfl rfl ?_
    refine rk_lconst (v := 0) rfl (by decide) ?_
    rw [show (0 : Int64) = (0 : Int32).toInt64 by decide]
    refine rk_lconst (v := 1) rfl (by decide) ?_
    rw [show (1 : Int64) = (nI 1).toInt64 by decide]
    refine rk_cs3e rfl rfl rfl (Nat.le_of_ble_eq_true rfl) (Nat.le_of_ble_eq_true rfl) (s181 _ _ _) ?_
    refine rk_if_ne rfl rfl (fun hc14 => ?_) (fun hc14 => ?_)
    · replace hc14 := Decidable.not_not.mp (mt bI_0.mpr hc14)
      exact absurd hc14 hb
    · replace hc14 := Decidable.not_not.mp hc14
      replace hc14 := (bI_0).mp hc14
      refine rk_bipush (v := (-2)) rfl (by decide) ?_
      exact rk_ireturn rfl rfl (Qe_of (by first | rfl | rw [if_neg (by assumption)] | rw [if_pos rfl]))
theorem m228_v {X : ai_X} {h : ai_H} {v A : Nat → Int32} {N : Nat → Nat} (c0 : h[52]? = some (cMdl v)) (c1 : h[53]? = some (cI 2346 A)) (hN : HN N) (M : MH A N) {i L : Nat} {code : Int32} {x : Nat → Nat} (hi : i < 4) (R : MRow h i (N 1) code L x) {c : Nat} (hc : c < 2) : Rk X am_228 3 (ai_loc (ai_mL am_228) [.ref 52, .int (nI i), .int (nI c)]) [] h (Qe (if code = 0 then fw (amu N x) (amg N x c) (L + 1) 0 else code) h) := by
  obtain ⟨a0, a1, a268, a269, a270, a271, apl, apc, aot, asg, awt⟩ := id M
  refine rk_iload_n rfl rfl ?_
  refine rk_i2l rfl rfl ?_
  refine rk_lconst (v := 0) rfl (by decide) ?_
  rw [show (0 : Int64) = (0 : Int32).toInt64 by decide]
  refine rk_ldc2 rfl ?_
  rw [show (3 : Int64) = (nI 3).toInt64 by decide]
  refine rk_cs3e rfl rfl rfl (Nat.le_of_ble_eq_true rfl) (Nat.le_of_ble_eq_true rfl) (s181 _ _ _) ?_
  refine rk_if_eq rfl rfl (fun hc8 => ?_) (fun hc8 => ?_)
  · replace hc8 := (bI_0).mp hc8
    exact absurd (in3_mk hi) hc8
  · replace hc8 := Decidable.not_not.mp (mt bI_0.mpr hc8)
    refine rk_iload_n rfl rfl ?_
    refine rk_i2l rfl rfl ?_
    refine rk_lconst (v := 0) rfl (by decide) ?_
    rw [show (0 : Int64) = (0 : Int32).toInt64 by decide]
    refine rk_lconst (v := 1) rfl (by decide) ?_
    rw [show (1 : Int64) = (nI 1).toInt64 by decide]
    refine rk_cs3e rfl rfl rfl (Nat.le_of_ble_eq_true rfl) (Nat.le_of_ble_eq_true rfl) (s181 _ _ _) ?_
    refine rk_if_ne rfl rfl (fun hc14 => ?_) (fun hc14 => ?_)
    · replace hc14 := Decidable.not_not.mp (mt bI_0.mpr hc14)
      refine rk_aload_n rfl rfl ?_
      refine rk_iload_n rfl rfl ?_
      refine rk_cv1e rfl rfl (by assumption) rfl rfl (Nat.le_of_ble_eq_true rfl) (Nat.le_of_ble_eq_true rfl) (s221 c0 c1 a1 hN.t hi R) ?_
      refine rk_istore_n rfl (Nat.le_of_ble_eq_true rfl) rfl ?_
      refine rk_iload_n rfl rfl ?_
      refine rk_if_eq rfl rfl (fun hc22 => ?_) (fun hc22 => ?_)
      · subst hc22
        obtain ⟨rm, nu, c3, c4, hm, hL, hx⟩ := R.good
        rw [if_pos rfl]
        refine rk_iconst (v := nI 0) rfl (by decide) ?_
        refine rk_istore rfl (Nat.le_of_ble_eq_true rfl) rfl ?_
        exact l228 c0 c1 c3 c4 hN M hi hm hx hL hc (L + 2) 0 (by omega) (by omega)
      · refine rk_iload_n rfl rfl ?_
        exact rk_ireturn rfl rfl (Qe_of (by first | rfl | rw [if_neg (by assumption)] | rw [if_pos rfl]))
    · replace hc14 := Decidable.not_not.mp hc14
      replace hc14 := (bI_0).mp hc14
      exact absurd (w1_mk hc) hc14
theorem ob9 (X : ai_X) : O9 X Inv := by
  intro a b
  refine ob_scr fun m c' s h I => ?_
  obtain ⟨tp, v, A, N, ro, d0, d52, d53, hN, C, M, d19, hro, Q, RR, O⟩ := I.dat
  by_cases ha : ¬ a < 0 ∧ ¬ nI 4 ≤ a
  · obtain ⟨i, hi, rfl⟩ := in_of (by omega) ha
    obtain ⟨code, L, x, RC, RM⟩ := RR i hi
    by_cases hb : ¬ b < 0 ∧ ¬ nI 1 < b
    · obtain ⟨c, hc, rfl⟩ := w1_of hb
      exact ⟨_, c139_v d0 hN C d19 hro Q O hi RC hc, fun h1 S => md_scr rfl rfl rfl rfl ((S.m (by omega)).trans d52) (fun h2 g2 hk => m226_v g2 ((S.m2 hk (by omega) (by omega)).trans d53) hN M hi (RM.m2 S hk) hc)⟩
    · exact ⟨_, c139_y d0 hN C d19 hro Q O hi hb, fun h1 S => md_scr rfl rfl rfl rfl ((S.m (by omega)).trans d52) (fun h2 g2 hk => m226_y g2 ((S.m2 hk (by omega) (by omega)).trans d53) hN M hi hb)⟩
  · exact ⟨_, c139_x d0 hN C d19 hro Q O ha, fun h1 S => md_scr rfl rfl rfl rfl ((S.m (by omega)).trans d52) (fun h2 g2 hk => m226_x g2 ((S.m2 hk (by omega) (by omega)).trans d53) hN M ha)⟩
theorem ob10 (X : ai_X) : O10 X Inv := by
  intro a b
  refine ob_scr fun m c' s h I => ?_
  obtain ⟨tp, v, A, N, ro, d0, d52, d53, hN, C, M, d19, hro, Q, RR, O⟩ := I.dat
  by_cases ha : ¬ a < 0 ∧ ¬ nI 4 ≤ a
  · obtain ⟨i, hi, rfl⟩ := in_of (by omega) ha
    obtain ⟨code, L, x, RC, RM⟩ := RR i hi
    by_cases hb : ¬ b < 0 ∧ ¬ nI 1 < b
    · obtain ⟨c, hc, rfl⟩ := w1_of hb
      exact ⟨_, c140_v d0 hN C d19 hro Q O hi RC hc, fun h1 S => md_scr rfl rfl rfl rfl ((S.m (by omega)).trans d52) (fun h2 g2 hk => m228_v g2 ((S.m2 hk (by omega) (by omega)).trans d53) hN M hi (RM.m2 S hk) hc)⟩
    · exact ⟨_, c140_y d0 hN C d19 hro Q O hi hb, fun h1 S => md_scr rfl rfl rfl rfl ((S.m (by omega)).trans d52) (fun h2 g2 hk => m228_y g2 ((S.m2 hk (by omega) (by omega)).trans d53) hN M hi hb)⟩
  · exact ⟨_, c140_x d0 hN C d19 hro Q O ha, fun h1 S => md_scr rfl rfl rfl rfl ((S.m (by omega)).trans d52) (fun h2 g2 hk => m228_x g2 ((S.m2 hk (by omega) (by omega)).trans d53) hN M ha)⟩
/-- a night's draws: the seed behind k waiters, where waiter k goes -/
abbrev ndr (x : Int32) : Int32 := 1103515245 * x + nI 12345
abbrev ndl (x : Int32) : Int32 := (x.toUInt32 >>> ((nI 16).toUInt32 &&& Int32.toUInt32 31)).toInt32 - (x.toUInt32 >>> ((nI 16).toUInt32 &&& Int32.toUInt32 31)).toInt32 / nI 100 * nI 100
def sd (N : Nat → Nat) (t : Nat) (y : Nat → Nat) (s : Int32) : Nat → Int32
  | 0 => s
  | k + 1 => if pct N (y k) t = 0 then sd N t y s k else ndr (sd N t y s k)
def ny (N : Nat → Nat) (t : Nat) (y : Nat → Nat) (s : Int32) (k : Nat) : Nat := if ¬ pct N (y k) t = 0 ∧ ¬ nI (pct N (y k) t) ≤ ndl (sd N t y s (k + 1)) then ot N (y k) t else pl N (y k) t
def nit (N x : Nat → Nat) (s : Int32) : Nat → (Nat → Nat) × Int32
  | 0 => (wt N, s)
  | k + 1 => (ny N (x k) (nit N x s k).1 (nit N x s k).2, sd N (x k) (nit N x s k).1 (nit N x s k).2 (N 271))
theorem sd_0 {N : Nat → Nat} {t : Nat} {y : Nat → Nat} {s : Int32} {k : Nat} (h : pct N (y k) t = 0) : sd N t y s (k + 1) = sd N t y s k := by rw [sd, if_pos h]
theorem sd_1 {N : Nat → Nat} {t : Nat} {y : Nat → Nat} {s : Int32} {k : Nat} (h : ¬ pct N (y k) t = 0) : sd N t y s (k + 1) = ndr (sd N t y s k) := by rw [sd, if_neg h]
theorem ny_lt {N : Nat → Nat} {t : Nat} {y : Nat → Nat} {s : Int32} {k : Nat} (hN : HN N) (ht : t < N 1) (hy : y k < N 0) : ny N t y s k < N 0 := by
  have h1 := hN.n
  have h2 := hN.t
  unfold ny
  split
  · rename_i h
    exact hN.xot (by omega) (by omega) (by omega)
  · exact hN.xpl hy ht
theorem nit_lt {N x : Nat → Nat} {s : Int32} (hN : HN N) : ∀ k, (∀ j, j < k → x j < N 1) → ∀ w, w < N 271 → (nit N x s k).1 w < N 0
  | 0, _, w, hw => hN.xwt hw
  | k + 1, hx, w, hw => ny_lt hN (hx k (by omega)) (nit_lt hN k (fun j hj => hx j (by omega)) w hw)
theorem l9 {X : ai_X} {h : ai_H} {N : Nat → Nat} {n33 : Int32} (hN : HN N) (C : CH h 3 N) (d33 : h[33]? = some (cCo n33)) {t : Nat} {y : Nat → Nat} {s : Int32} (ht : t < N 1) (hy : ∀ k, k < N 271 → y k < N 0) : ∀ (d : Nat) (k : Nat) (g : ai_H) (c5 c6 : Option Value), N 271 < k + d → (k ≤ N 271) → (Fr 34 35 h g) → (AN g 34 8 (N 271) (fun j => if j < k then ny N t y s j else y j)) → Rk X am_9 4 [some (.ref 33), some (.int (nI t)), some (.int s), some (.int (sd N t y s k)), some (.int (nI k)), c5, c6] [] g (Qi (fun w h1 => w = sd N t y s (N 271) ∧ Fr 34 35 h h1 ∧ AN h1 34 8 (N 271) (ny N t y s))) := by
  intro d
  induction d with
  | zero => intro k g c5 c6 hd hk F A; exfalso; omega
  | succ d ih =>
    intro k g c5 c6 hd hk F A
    obtain ⟨f, c34, hf⟩ := A
    replace hf : ∀ j, j < N 271 → f j = nI (if j < k then ny N t y s j else y j) := hf
    have e33 := (F.2 33 (by omega)).trans d33
    have C1 := C.fr2 F (by omega)
    have e3 := C1.1
    have hw := hN.w
    have hn := hN.n
    have h6 := hN.t
    have h100 : ¬ nI 100 = (0 : Int32) := by decide
    refine rk_iload rfl rfl ?_
    refine rk_aload_n rfl rfl ?_
    refine rk_get rfl (by assumption) rfl ?_
    refine rk_get rfl (by assumption) rfl ?_
    refine rk_icmp_ge rfl rfl (fun hc8 => ?_) (fun hc8 => ?_)
    · replace hc8 := (nI_leI (by omega) (by omega)).mp hc8
      refine rk_iload_n rfl rfl ?_
      exact rk_ireturn rfl rfl ⟨_, _, rfl, by rw [show k = N 271 by omega], F, f, c34, fun j hj => by rw [hf j hj, if_pos (by omega)]⟩
    · replace hc8 := mt (nI_leI (by omega) (by omega)).mpr hc8
      refine rk_aload_n rfl rfl ?_
      refine rk_get rfl (by assumption) rfl ?_
      refine rk_aload_n rfl rfl ?_
      refine rk_get rfl (by assumption) rfl ?_
      refine rk_iload rfl rfl ?_
      refine rk_iald rfl (by assumption) (rfl) (by omega) (by decide) ?_
      rw [hf k (by omega), if_neg (by omega)]
      have hyk := hy k (by omega)
      have hpc := hN.xpct (r := y k) (i := t) (by omega) (by omega)
      refine rk_iload_n rfl rfl ?_
      refine rk_cv2e rfl rfl (by assumption) rfl rfl (Nat.le_of_ble_eq_true rfl) (Nat.le_of_ble_eq_true rfl) (s29N C1 (by omega) (by omega)) ?_
      refine rk_istore rfl (Nat.le_of_ble_eq_true rfl) rfl ?_
      refine rk_iconst (v := nI 0) rfl (by decide) ?_
      refine rk_istore rfl (Nat.le_of_ble_eq_true rfl) rfl ?_
      refine rk_iload rfl rfl ?_
      refine rk_if_le rfl rfl (fun hc21 => ?_) (fun hc21 => ?_)
      · replace hc21 := (n0_le (by omega)).mp hc21
        have hsd := sd_0 (s := s) hc21
        have hny : ny N t y s k = pl N (y k) t := by rw [ny, if_neg (fun z => z.1 hc21)]
        refine rk_aload_n rfl rfl ?_
        refine rk_get rfl (by assumption) rfl ?_
        refine rk_iload rfl rfl ?_
        refine rk_iload rfl rfl ?_
        refine rk_if_eq rfl rfl (fun hc43 => ?_) (fun hc43 => ?_)
        · replace hc43 := (n0_eq (by omega)).mp hc43
          refine rk_aload_n rfl rfl ?_
          refine rk_get rfl (by assumption) rfl ?_
          refine rk_aload_n rfl rfl ?_
          refine rk_get rfl (by assumption) rfl ?_
          refine rk_iload rfl rfl ?_
          refine rk_iald rfl (by assumption) (rfl) (by omega) (by decide) ?_
          rw [hf k (by omega), if_neg (by omega)]
          refine rk_iload_n rfl rfl ?_
          refine rk_cv2e rfl rfl (by assumption) rfl rfl (Nat.le_of_ble_eq_true rfl) (Nat.le_of_ble_eq_true rfl) (s27N C1 hN hyk ht) ?_
          refine rk_iast rfl c34 (rfl) (by omega) (by decide) ?_
          refine hp_gen c34 (fun h1 g1 hk1 hl1 => ?_)
          replace c34 := g1
          refine rk_iinc rfl rfl (n_inc _) rfl ?_
          refine rk_goto rfl rfl ?_
          rw [← hsd]
          exact ih (k + 1) h1 _ _ (by omega) (by omega) (F.tr (Fr.mk1 hk1 hl1 (by omega) (by omega))) (AN.step c34 hf (by rw [hny]))
        · replace hc43 := mt (n0_eq (by omega)).mpr hc43
          omega
      · replace hc21 := mt (n0_le (by omega)).mpr hc21
        have hsd : sd N t y s (k + 1) = 1103515245 * sd N t y s k + nI 12345 := sd_1 hc21
        refine rk_ldc rfl ?_
        refine rk_iload_n rfl rfl ?_
        refine rk_imul rfl rfl ?_
        refine rk_sipush (v := nI 12345) rfl (by decide) ?_
        refine rk_iadd rfl rfl ?_
        refine rk_istore_n rfl (Nat.le_of_ble_eq_true rfl) rfl ?_
        refine rk_iload_n rfl rfl ?_
        refine rk_bipush (v := nI 16) rfl (by decide) ?_
        refine rk_iushr rfl rfl ?_
        refine rk_bipush (v := nI 100) rfl (by decide) ?_
        refine rk_irem rfl (by assumption) rfl ?_
        refine rk_iload rfl rfl ?_
        refine rk_icmp_ge rfl rfl (fun hc34 => ?_) (fun hc34 => ?_)
        · have hny : ny N t y s k = pl N (y k) t := by rw [ny, hsd]; exact if_neg (fun z => z.2 hc34)
          refine rk_iconst (v := nI 0) rfl (by decide) ?_
          refine rk_istore rfl (Nat.le_of_ble_eq_true rfl) rfl ?_
          refine rk_aload_n rfl rfl ?_
          refine rk_get rfl (by assumption) rfl ?_
          refine rk_iload rfl rfl ?_
          refine rk_iload rfl rfl ?_
          refine rk_if_eq rfl rfl (fun hc43 => ?_) (fun hc43 => ?_)
          · replace hc43 := (n0_eq (by omega)).mp hc43
            refine rk_aload_n rfl rfl ?_
            refine rk_get rfl (by assumption) rfl ?_
            refine rk_aload_n rfl rfl ?_
            refine rk_get rfl (by assumption) rfl ?_
            refine rk_iload rfl rfl ?_
            refine rk_iald rfl (by assumption) (rfl) (by omega) (by decide) ?_
            rw [hf k (by omega), if_neg (by omega)]
            refine rk_iload_n rfl rfl ?_
            refine rk_cv2e rfl rfl (by assumption) rfl rfl (Nat.le_of_ble_eq_true rfl) (Nat.le_of_ble_eq_true rfl) (s27N C1 hN hyk ht) ?_
            refine rk_iast rfl c34 (rfl) (by omega) (by decide) ?_
            refine hp_gen c34 (fun h1 g1 hk1 hl1 => ?_)
            replace c34 := g1
            refine rk_iinc rfl rfl (n_inc _) rfl ?_
            refine rk_goto rfl rfl ?_
            rw [← hsd]
            exact ih (k + 1) h1 _ _ (by omega) (by omega) (F.tr (Fr.mk1 hk1 hl1 (by omega) (by omega))) (AN.step c34 hf (by rw [hny]))
          · replace hc43 := mt (n0_eq (by omega)).mpr hc43
            omega
        · have hny : ny N t y s k = ot N (y k) t := by rw [ny, hsd]; exact if_pos ⟨hc21, hc34⟩
          refine rk_iconst (v := nI 1) rfl (by decide) ?_
          refine rk_goto rfl rfl ?_
          refine rk_istore rfl (Nat.le_of_ble_eq_true rfl) rfl ?_
          refine rk_aload_n rfl rfl ?_
          refine rk_get rfl (by assumption) rfl ?_
          refine rk_iload rfl rfl ?_
          refine rk_iload rfl rfl ?_
          refine rk_if_eq rfl rfl (fun hc43 => ?_) (fun hc43 => ?_)
          · replace hc43 := (n0_eq (by omega)).mp hc43
            omega
          · replace hc43 := mt (n0_eq (by omega)).mpr hc43
            refine rk_aload_n rfl rfl ?_
            refine rk_get rfl (by assumption) rfl ?_
            refine rk_aload_n rfl rfl ?_
            refine rk_get rfl (by assumption) rfl ?_
            refine rk_iload rfl rfl ?_
            refine rk_iald rfl (by assumption) (rfl) (by omega) (by decide) ?_
            rw [hf k (by omega), if_neg (by omega)]
            refine rk_iload_n rfl rfl ?_
            refine rk_cv2e rfl rfl (by assumption) rfl rfl (Nat.le_of_ble_eq_true rfl) (Nat.le_of_ble_eq_true rfl) (s28N C1 (by omega) (by omega) (by omega)) ?_
            refine rk_goto rfl rfl ?_
            refine rk_iast rfl c34 (rfl) (by omega) (by decide) ?_
            refine hp_gen c34 (fun h1 g1 hk1 hl1 => ?_)
            replace c34 := g1
            refine rk_iinc rfl rfl (n_inc _) rfl ?_
            refine rk_goto rfl rfl ?_
            rw [← hsd]
            exact ih (k + 1) h1 _ _ (by omega) (by omega) (F.tr (Fr.mk1 hk1 hl1 (by omega) (by omega))) (AN.step c34 hf (by rw [hny]))
theorem s9 {X : ai_X} {h : ai_H} {N : Nat → Nat} {n33 : Int32} (hN : HN N) (C : CH h 3 N) (d33 : h[33]? = some (cCo n33)) {t : Nat} {y : Nat → Nat} {s : Int32} (ht : t < N 1) (hy : ∀ k, k < N 271 → y k < N 0) (A : AN h 34 8 (N 271) y) : Mt X am_9 [.ref 33, .int (nI t), .int s] h (Qi (fun w h1 => w = sd N t y s (N 271) ∧ Fr 34 35 h h1 ∧ AN h1 34 8 (N 271) (ny N t y s))) := by
  refine rk_iload_n rfl rfl ?_
  refine rk_istore_n rfl (Nat.le_of_ble_eq_true rfl) rfl ?_
  refine rk_iconst (v := nI 0) rfl (by decide) ?_
  refine rk_istore rfl (Nat.le_of_ble_eq_true rfl) rfl ?_
  exact l9 hN C d33 ht hy (N 271 + 1) 0 h _ _ (by omega) (by omega) Fr.rfl' (A.congr (fun k _ => (if_neg (by omega)).symm))
theorem l171 {X : ai_X} {h : ai_H} {tp n33 : Int32} {i c L : Nat} {c3 : Int32} {N x : Nat → Nat} (d0 : h[0]? = some (cOne tp)) (hN : HN N) (C : CH h 3 N) (d33 : h[33]? = some (cCo n33)) (R : RtAt h 17 L x) (hx : ∀ j, j < L → x j < N 1) (hL : L ≤ 40) (hw : c < N 271) {s : Int32} : ∀ (d : Nat) (k : Nat) (g : ai_H), L < k + d → (k ≤ L) → (Fr 34 35 h g) → (AN g 34 8 (N 271) (nit N x s k).1) → Rk X am_171 26 [some (.ref 0), some (.int (nI i)), some (.int s), some (.int (nI c)), some (.int c3), some (.int (nit N x s k).2), some (.int (nI k))] [] g (Qi (fun w h1 => w = nI ((nit N x s L).1 c) ∧ Fr 34 35 h h1)) := by
  intro d
  induction d with
  | zero => intro k g hd hk F A; exfalso; omega
  | succ d ih =>
    intro k g hd hk F A
    have e0 := (F.2 0 (by omega)).trans d0
    have e33 := (F.2 33 (by omega)).trans d33
    have C1 := C.fr2 F (by omega)
    have R1 := R.fr2 F (by omega)
    obtain ⟨f, R0, Rf⟩ := id R1
    have e17 := R0.1
    have hw8 := hN.w
    have hy := nit_lt (s := s) hN k (fun j hj => hx j (by omega))
    refine rk_iload rfl rfl ?_
    refine rk_aload_n rfl rfl ?_
    refine rk_get rfl (by assumption) rfl ?_
    refine rk_get rfl (by assumption) rfl ?_
    refine rk_icmp_ge rfl rfl (fun hc30 => ?_) (fun hc30 => ?_)
    · replace hc30 := (nI_leI (by omega) (by omega)).mp hc30
      refine rk_aload_n rfl rfl ?_
      refine rk_get rfl (by assumption) rfl ?_
      refine rk_iload_n rfl rfl ?_
      refine rk_cv1e rfl rfl (by assumption) rfl rfl (Nat.le_of_ble_eq_true rfl) (Nat.le_of_ble_eq_true rfl) (s7 e33 A hw hN.w) ?_
      exact rk_ireturn rfl rfl ⟨_, _, rfl, by rw [show k = L by omega], F⟩
    · replace hc30 := mt (nI_leI (by omega) (by omega)).mpr hc30
      refine rk_aload_n rfl rfl ?_
      refine rk_get rfl (by assumption) rfl ?_
      refine rk_aload_n rfl rfl ?_
      refine rk_get rfl (by assumption) rfl ?_
      refine rk_iload rfl rfl ?_
      refine rk_cv1e rfl rfl (by assumption) rfl rfl (Nat.le_of_ble_eq_true rfl) (Nat.le_of_ble_eq_true rfl) (s90N R1 (by omega) (by omega)) ?_
      refine rk_iload rfl rfl ?_
      refine rk_cv2i rfl rfl (by assumption) rfl rfl (Nat.le_of_ble_eq_true rfl) (Nat.le_of_ble_eq_true rfl) (s9 hN C1 e33 (hx k (by omega)) hy A) (fun w h1 hF => ?_)
      obtain ⟨rfl, hF⟩ := hF
      obtain ⟨F2, A2⟩ := hF
      have F3 := F.tr F2
      replace e0 := (F2.2 0 (by omega)).trans e0
      replace e33 := (F2.2 33 (by omega)).trans e33
      have C2 := C1.fr2 F2 (by omega)
      refine rk_istore rfl (Nat.le_of_ble_eq_true rfl) rfl ?_
      refine rk_iinc rfl rfl (n_inc _) rfl ?_
      refine rk_goto rfl rfl ?_
      exact ih (k + 1) h1 (by omega) (by omega) F3 A2
theorem c171_x {X : ai_X} {h : ai_H} {tp : Int32} {ro : Nat → Option Nat} {N : Nat → Nat} (d0 : h[0]? = some (cOne tp)) (hN : HN N) (C : CH h 3 N) (d19 : h[19]? = some (cR 3 4 ro)) (hro : ∀ i, i < 4 → ro i = some (44 + 2 * i)) (Q : ∃ n f, RouteAt h 17 n f) (O : InvO h) {a b c : Int32} (ha : ¬ (¬ a < 0 ∧ ¬ nI 4 ≤ a)) : Mt X am_171 [.ref 0, .int a, .int b, .int c] h (Qi (fun y h1 => y = -2 ∧ SC h h1)) := by
  have d3 := C.1
  refine rk_aload_n rfl rfl ?_
  refine rk_iload_n rfl rfl ?_
  refine rk_cv1e rfl rfl (by assumption) rfl rfl (Nat.le_of_ble_eq_true rfl) (Nat.le_of_ble_eq_true rfl) (s179 _) ?_
  refine rk_if_eq rfl rfl (fun hc3 => ?_) (fun hc3 => ?_)
  · replace hc3 := (bI_0).mp hc3
    refine rk_bipush (v := (-2)) rfl (by decide) ?_
    exact rk_ireturn rfl rfl ⟨_, _, rfl, rfl, SC.rfl' Q O⟩
  · replace hc3 := Decidable.not_not.mp (mt bI_0.mpr hc3)
    exact absurd hc3 ha
theorem c171_y {X : ai_X} {h : ai_H} {tp : Int32} {ro : Nat → Option Nat} {N : Nat → Nat} (d0 : h[0]? = some (cOne tp)) (hN : HN N) (C : CH h 3 N) (d19 : h[19]? = some (cR 3 4 ro)) (hro : ∀ i, i < 4 → ro i = some (44 + 2 * i)) (Q : ∃ n f, RouteAt h 17 n f) (O : InvO h) {i : Nat} {b c : Int32} (hi : i < 4) (hb : ¬ (¬ c < 0 ∧ ¬ nI (N 271) ≤ c)) : Mt X am_171 [.ref 0, .int (nI i), .int b, .int c] h (Qi (fun y h1 => y = -2 ∧ SC h h1)) := by
  have d3 := C.1
  refine rk_aload_n rfl rfl ?_
  refine rk_iload_n rfl rfl ?_
  refine rk_cv1e rfl rfl (by assumption) rfl rfl (Nat.le_of_ble_eq_true rfl) (Nat.le_of_ble_eq_true rfl) (s179 _) ?_
  refine rk_if_eq rfl rfl (fun hc3 => ?_) (fun hc3 => ?_)
  · replace hc3 := (bI_0).mp hc3
    exact absurd (in_mk (by omega) hi) hc3
  · replace hc3 := Decidable.not_not.mp (mt bI_0.mpr hc3)
    refine rk_aload_n rfl rfl ?_
    refine rk_get rfl (by assumption) rfl ?_
    refine rk_iload_n rfl rfl ?_
    refine rk_cv1e rfl rfl (by assumption) rfl rfl (Nat.le_of_ble_eq_true rfl) (Nat.le_of_ble_eq_true rfl) (s25N C _) ?_
    refine rk_if_ne rfl rfl (fun hc8 => ?_) (fun hc8 => ?_)
    · replace hc8 := Decidable.not_not.mp (mt bI_0.mpr hc8)
      exact absurd hc8 hb
    · replace hc8 := Decidable.not_not.mp hc8
      replace hc8 := (bI_0).mp hc8
      refine rk_bipush (v := (-2)) rfl (by decide) ?_
      exact rk_ireturn rfl rfl ⟨_, _, rfl, rfl, SC.rfl' Q O⟩
theorem c171_v {X : ai_X} {h : ai_H} {tp : Int32} {ro : Nat → Option Nat} {N : Nat → Nat} (d0 : h[0]? = some (cOne tp)) (hN : HN N) (C : CH h 3 N) (d19 : h[19]? = some (cR 3 4 ro)) (hro : ∀ i, i < 4 → ro i = some (44 + 2 * i)) (Q : ∃ n f, RouteAt h 17 n f) (O : InvO h) {i L : Nat} {code : Int32} {x : Nat → Nat} (hi : i < 4) (R : CRow h i (N 1) code L x) {c : Nat} {s : Int32} (hw : c < N 271) : Mt X am_171 [.ref 0, .int (nI i), .int s, .int (nI c)] h (Qi (fun y h1 => y = (if code = 0 then nI ((nit N x s L).1 c) else code) ∧ SC h h1)) := by
  have d3 := C.1
  have hw8 := hN.w
  refine rk_aload_n rfl rfl ?_
  refine rk_iload_n rfl rfl ?_
  refine rk_cv1e rfl rfl (by assumption) rfl rfl (Nat.le_of_ble_eq_true rfl) (Nat.le_of_ble_eq_true rfl) (s179 _) ?_
  refine rk_if_eq rfl rfl (fun hc3 => ?_) (fun hc3 => ?_)
  · replace hc3 := (bI_0).mp hc3
    exact absurd (in_mk (by omega) hi) hc3
  · replace hc3 := Decidable.not_not.mp (mt bI_0.mpr hc3)
    refine rk_aload_n rfl rfl ?_
    refine rk_get rfl (by assumption) rfl ?_
    refine rk_iload_n rfl rfl ?_
    refine rk_cv1e rfl rfl (by assumption) rfl rfl (Nat.le_of_ble_eq_true rfl) (Nat.le_of_ble_eq_true rfl) (s25N C _) ?_
    refine rk_if_ne rfl rfl (fun hc8 => ?_) (fun hc8 => ?_)
    · replace hc8 := Decidable.not_not.mp (mt bI_0.mpr hc8)
      refine rk_aload_n rfl rfl ?_
      refine rk_iload_n rfl rfl ?_
      refine rk_cv1i rfl rfl (by assumption) rfl rfl (Nat.le_of_ble_eq_true rfl) (Nat.le_of_ble_eq_true rfl) (s180 d0 d19 hro hi C rfl Q R) (fun w h1 hF => ?_)
      obtain ⟨rfl, F1, Q1, R1⟩ := hF
      have e0 := (F1.2 0 (by omega)).trans d0
      have C1 := C.fr2 F1 (by omega)
      have e3 := C1.1
      refine rk_istore rfl (Nat.le_of_ble_eq_true rfl) rfl ?_
      refine rk_iload rfl rfl ?_
      refine rk_if_eq rfl rfl (fun hc16 => ?_) (fun hc16 => ?_)
      · subst hc16
        have R2 := R1 rfl
        obtain ⟨hL, hx⟩ := R.x
        have e17 := R2.choose_spec.1.1
        obtain ⟨n33, d33⟩ := O.led
        have e33 := (F1.2 33 (by omega)).trans d33
        have A0 := (sh34 O).fr (F1.2 34 (by omega))
        refine rk_aload_n rfl rfl ?_
        refine rk_get rfl (by assumption) rfl ?_
        refine rk_cv0v rfl rfl (by assumption) rfl rfl (Nat.le_of_ble_eq_true rfl) (Nat.le_of_ble_eq_true rfl) (s6 hN C1 e33 A0) (fun h1 hF => ?_)
        obtain ⟨F2, A2⟩ := hF
        replace e0 := (F2.2 0 (by omega)).trans e0
        replace e33 := (F2.2 33 (by omega)).trans e33
        have C2 := C1.fr2 F2 (by omega)
        have R3 := R2.fr2 F2 (by omega)
        obtain ⟨f9, R9, -⟩ := id R3
        replace e17 := R9.1
        refine rk_iload_n rfl rfl ?_
        refine rk_istore rfl (Nat.le_of_ble_eq_true rfl) rfl ?_
        refine rk_iconst (v := nI 0) rfl (by decide) ?_
        refine rk_istore rfl (Nat.le_of_ble_eq_true rfl) rfl ?_
        refine (l171 e0 hN C2 e33 R3 hx hL hw (L + 1) 0 _ (by omega) (by omega) Fr.rfl' A2).mono ?_
        rintro o ⟨w, h2, rfl, rfl, F9⟩
        exact ⟨_, _, rfl, by rw [if_pos rfl], ((SC.of17 F1 Q1 O).co F2).co F9⟩
      · refine rk_iload rfl rfl ?_
        exact rk_ireturn rfl rfl ⟨_, _, rfl, by first | rw [if_neg (by assumption)] | rw [if_pos rfl], SC.of17 F1 Q1 O⟩
    · replace hc8 := Decidable.not_not.mp hc8
      replace hc8 := (bI_0).mp hc8
      exact absurd (in_mk (by omega) hw) hc8
theorem l280a {X : ai_X} {h : ai_H} {v A rm : Nat → Int32} {nu : Nat → Int64} {i c L : Nat} {c3 : Int32} {N x : Nat → Nat} (c0 : h[52]? = some (cMdl v)) (c1 : h[53]? = some (cI 2346 A)) (c78 : h[78]? = some (cI 4 rm)) (c4 : h[79]? = some (cJ 160 nu)) (hN : HN N) (M : MH A N) (hi : i < 4) (hm : rm i = nI L) (hx : ∀ k, k < L → x k < N 1 ∧ nu (40 * i + k) = (nI (x k)).toInt64) (hL : L ≤ 40) (hw : c < N 271) {s : Int32} {P : ai_O → Prop} (z : ∀ g, Fr 76 77 h g → AN g 76 8 (N 271) (wt N) → Rk X am_280 45 [some (.ref 52), some (.int (nI i)), some (.int s), some (.int (nI c)), some (.int c3), some (.int s), some (.int (nI (N 271))), none, none, none, none] [] g P) : ∀ (d : Nat) (k : Nat) (g : ai_H), N 271 < k + d → (k ≤ N 271) → (Fr 76 77 h g) → (AN g 76 8 k (wt N)) → Rk X am_280 27 [some (.ref 52), some (.int (nI i)), some (.int s), some (.int (nI c)), some (.int c3), some (.int s), some (.int (nI k)), none, none, none, none] [] g (P) := by
  intro d
  induction d with
  | zero => intro k g hd hk F A; exfalso; omega
  | succ d ih =>
    intro k g hd hk F A
    obtain ⟨f, c76, hf⟩ := id A
    obtain ⟨a0, a1, a268, a269, a270, a271, apl, apc, aot, asg, awt⟩ := id M
    have e52 := (F.2 52 (by omega)).trans c0
    have e53 := (F.2 53 (by omega)).trans c1
    have e78 := (F.2 78 (by omega)).trans c78
    have e79 := (F.2 79 (by omega)).trans c4
    have hw8 := hN.w
    have hn := hN.n
    have h6 := hN.t
    refine rk_iload rfl rfl ?_
    refine rk_aload_n rfl rfl ?_
    refine rk_get rfl (by assumption) rfl ?_
    refine rk_sipush (v := nI 271) rfl (by decide) ?_
    refine rk_iald rfl (by assumption) (rfl) (by omega) (by decide) ?_
    rw [a271]
    refine rk_icmp_ge rfl rfl (fun hc32 => ?_) (fun hc32 => ?_)
    · replace hc32 := (nI_leI (by omega) (by omega)).mp hc32
      have hk2 : k = N 271 := by omega
      subst hk2
      exact z g F A
    · replace hc32 := mt (nI_leI (by omega) (by omega)).mpr hc32
      refine rk_aload_n rfl rfl ?_
      refine rk_get rfl (by assumption) rfl ?_
      refine rk_iload rfl rfl ?_
      refine rk_aload_n rfl rfl ?_
      refine rk_get rfl (by assumption) rfl ?_
      refine rk_sipush (v := nI 272) rfl (by decide) ?_
      refine rk_iload rfl rfl ?_
      refine rk_iadd rfl (nI_add _ _) ?_
      refine rk_iald rfl (by assumption) (rfl) (by omega) (by decide) ?_
      rw [awt k (by omega)]
      refine rk_iast rfl c76 (rfl) (by omega) (by decide) ?_
      refine hp_gen c76 (fun h1 g1 hk1 hl1 => ?_)
      replace c76 := g1
      refine rk_iinc rfl rfl (n_inc _) rfl ?_
      refine rk_goto rfl rfl ?_
      exact ih (k + 1) h1 (by omega) (by omega) (F.tr (Fr.mk1 hk1 hl1 (by omega) (by omega))) (AN.add c76 hf rfl)
theorem l280i {X : ai_X} {h : ai_H} {v A rm : Nat → Int32} {nu : Nat → Int64} {i c L : Nat} {c3 : Int32} {N x : Nat → Nat} (c0 : h[52]? = some (cMdl v)) (c1 : h[53]? = some (cI 2346 A)) (c78 : h[78]? = some (cI 4 rm)) (c4 : h[79]? = some (cJ 160 nu)) (hN : HN N) (M : MH A N) (hi : i < 4) (hm : rm i = nI L) (hx : ∀ k, k < L → x k < N 1 ∧ nu (40 * i + k) = (nI (x k)).toInt64) (hL : L ≤ 40) (hw : c < N 271) {s : Int32} {P : ai_O → Prop} {t j : Nat} {s0 : Int32} {y : Nat → Nat} (ht : t < N 1) (hy : ∀ k, k < N 271 → y k < N 0) (z : ∀ g c9 c10, Fr 76 77 h g → AN g 76 8 (N 271) (ny N t y s) → Rk X am_280 125 [some (.ref 52), some (.int (nI i)), some (.int s0), some (.int (nI c)), some (.int c3), some (.int (sd N t y s (N 271))), some (.int (nI j)), some (.int (nI t)), some (.int (nI (N 271))), c9, c10] [] g P) : ∀ (d : Nat) (k : Nat) (g : ai_H) (c9 c10 : Option Value), N 271 < k + d → (k ≤ N 271) → (Fr 76 77 h g) → (AN g 76 8 (N 271) (fun j => if j < k then ny N t y s j else y j)) → Rk X am_280 60 [some (.ref 52), some (.int (nI i)), some (.int s0), some (.int (nI c)), some (.int c3), some (.int (sd N t y s k)), some (.int (nI j)), some (.int (nI t)), some (.int (nI k)), c9, c10] [] g (P) := by
  intro d
  induction d with
  | zero => intro k g c9 c10 hd hk F A; exfalso; omega
  | succ d ih =>
    intro k g c9 c10 hd hk F A
    obtain ⟨f, c76, hf⟩ := id A
    replace hf : ∀ j, j < N 271 → f j = nI (if j < k then ny N t y s j else y j) := hf
    obtain ⟨a0, a1, a268, a269, a270, a271, apl, apc, aot, asg, awt⟩ := id M
    have e52 := (F.2 52 (by omega)).trans c0
    have e53 := (F.2 53 (by omega)).trans c1
    have e78 := (F.2 78 (by omega)).trans c78
    have e79 := (F.2 79 (by omega)).trans c4
    have hw8 := hN.w
    have hn := hN.n
    have h6 := hN.t
    have h100 : ¬ nI 100 = (0 : Int32) := by decide
    refine rk_iload rfl rfl ?_
    refine rk_aload_n rfl rfl ?_
    refine rk_get rfl (by assumption) rfl ?_
    refine rk_sipush (v := nI 271) rfl (by decide) ?_
    refine rk_iald rfl (by assumption) (rfl) (by omega) (by decide) ?_
    rw [a271]
    refine rk_icmp_ge rfl rfl (fun hc65 => ?_) (fun hc65 => ?_)
    · replace hc65 := (nI_leI (by omega) (by omega)).mp hc65
      have hk2 : k = N 271 := by omega
      subst hk2
      exact z g _ _ F (A.congr (fun j hj => if_pos hj))
    · replace hc65 := mt (nI_leI (by omega) (by omega)).mpr hc65
      refine rk_aload_n rfl rfl ?_
      refine rk_get rfl (by assumption) rfl ?_
      refine rk_iload rfl rfl ?_
      refine rk_iald rfl (by assumption) (rfl) (by omega) (by decide) ?_
      rw [hf k (by omega), if_neg (by omega)]
      have hyk := hy k (by omega)
      have hpc := hN.xpct (r := y k) (i := t) (by omega) (by omega)
      refine rk_iload rfl rfl ?_
      refine rk_cs2e rfl rfl rfl (Nat.le_of_ble_eq_true rfl) (Nat.le_of_ble_eq_true rfl) (s196) ?_
      refine rk_istore rfl (Nat.le_of_ble_eq_true rfl) rfl ?_
      refine rk_iconst (v := nI 0) rfl (by decide) ?_
      refine rk_istore rfl (Nat.le_of_ble_eq_true rfl) rfl ?_
      refine rk_aload_n rfl rfl ?_
      refine rk_get rfl (by assumption) rfl ?_
      refine rk_sipush (v := nI 170) rfl (by decide) ?_
      refine rk_iload rfl rfl ?_
      refine rk_iadd rfl (nI_add _ _) ?_
      refine rk_iald rfl (by assumption) (rfl) (by omega) (by decide) ?_
      rw [apc (y k) t (by omega) (by omega)]
      refine rk_if_le rfl rfl (fun hc81 => ?_) (fun hc81 => ?_)
      · replace hc81 := (n0_le (by omega)).mp hc81
        have hsd := sd_0 (s := s) hc81
        have hny : ny N t y s k = pl N (y k) t := by rw [ny, if_neg (fun z => z.1 hc81)]
        refine rk_aload_n rfl rfl ?_
        refine rk_get rfl (by assumption) rfl ?_
        refine rk_iload rfl rfl ?_
        refine rk_iload rfl rfl ?_
        refine rk_if_eq rfl rfl (fun hc108 => ?_) (fun hc108 => ?_)
        · replace hc108 := (n0_eq (by omega)).mp hc108
          refine rk_aload_n rfl rfl ?_
          refine rk_get rfl (by assumption) rfl ?_
          refine rk_iconst (v := nI 2) rfl (by decide) ?_
          refine rk_iload rfl rfl ?_
          refine rk_iadd rfl (nI_add _ _) ?_
          refine rk_iald rfl (by assumption) (rfl) (by omega) (by decide) ?_
          rw [apl (y k) t hyk ht]
          refine rk_iast rfl c76 (rfl) (by omega) (by decide) ?_
          refine hp_gen c76 (fun h1 g1 hk1 hl1 => ?_)
          replace c76 := g1
          refine rk_iinc rfl rfl (n_inc _) rfl ?_
          refine rk_goto rfl rfl ?_
          rw [← hsd]
          exact ih (k + 1) h1 _ _ (by omega) (by omega) (F.tr (Fr.mk1 hk1 hl1 (by omega) (by omega))) (AN.step c76 hf (by rw [hny]))
        · replace hc108 := mt (n0_eq (by omega)).mpr hc108
          omega
      · replace hc81 := mt (n0_le (by omega)).mpr hc81
        have hsd : sd N t y s (k + 1) = 1103515245 * sd N t y s k + nI 12345 := sd_1 hc81
        refine rk_ldcw rfl ?_
        refine rk_iload rfl rfl ?_
        refine rk_imul rfl rfl ?_
        refine rk_sipush (v := nI 12345) rfl (by decide) ?_
        refine rk_iadd rfl rfl ?_
        refine rk_istore rfl (Nat.le_of_ble_eq_true rfl) rfl ?_
        refine rk_iload rfl rfl ?_
        refine rk_bipush (v := nI 16) rfl (by decide) ?_
        refine rk_iushr rfl rfl ?_
        refine rk_bipush (v := nI 100) rfl (by decide) ?_
        refine rk_irem rfl (by assumption) rfl ?_
        refine rk_aload_n rfl rfl ?_
        refine rk_get rfl (by assumption) rfl ?_
        refine rk_sipush (v := nI 170) rfl (by decide) ?_
        refine rk_iload rfl rfl ?_
        refine rk_iadd rfl (nI_add _ _) ?_
        refine rk_iald rfl (by assumption) (rfl) (by omega) (by decide) ?_
        rw [apc (y k) t (by omega) (by omega)]
        refine rk_icmp_ge rfl rfl (fun hc99 => ?_) (fun hc99 => ?_)
        · have hny : ny N t y s k = pl N (y k) t := by rw [ny, hsd]; exact if_neg (fun z => z.2 hc99)
          refine rk_iconst (v := nI 0) rfl (by decide) ?_
          refine rk_istore rfl (Nat.le_of_ble_eq_true rfl) rfl ?_
          refine rk_aload_n rfl rfl ?_
          refine rk_get rfl (by assumption) rfl ?_
          refine rk_iload rfl rfl ?_
          refine rk_iload rfl rfl ?_
          refine rk_if_eq rfl rfl (fun hc108 => ?_) (fun hc108 => ?_)
          · replace hc108 := (n0_eq (by omega)).mp hc108
            refine rk_aload_n rfl rfl ?_
            refine rk_get rfl (by assumption) rfl ?_
            refine rk_iconst (v := nI 2) rfl (by decide) ?_
            refine rk_iload rfl rfl ?_
            refine rk_iadd rfl (nI_add _ _) ?_
            refine rk_iald rfl (by assumption) (rfl) (by omega) (by decide) ?_
            rw [apl (y k) t hyk ht]
            refine rk_iast rfl c76 (rfl) (by omega) (by decide) ?_
            refine hp_gen c76 (fun h1 g1 hk1 hl1 => ?_)
            replace c76 := g1
            refine rk_iinc rfl rfl (n_inc _) rfl ?_
            refine rk_goto rfl rfl ?_
            rw [← hsd]
            exact ih (k + 1) h1 _ _ (by omega) (by omega) (F.tr (Fr.mk1 hk1 hl1 (by omega) (by omega))) (AN.step c76 hf (by rw [hny]))
          · replace hc108 := mt (n0_eq (by omega)).mpr hc108
            omega
        · have hny : ny N t y s k = ot N (y k) t := by rw [ny, hsd]; exact if_pos ⟨hc81, hc99⟩
          refine rk_iconst (v := nI 1) rfl (by decide) ?_
          refine rk_goto rfl rfl ?_
          refine rk_istore rfl (Nat.le_of_ble_eq_true rfl) rfl ?_
          refine rk_aload_n rfl rfl ?_
          refine rk_get rfl (by assumption) rfl ?_
          refine rk_iload rfl rfl ?_
          refine rk_iload rfl rfl ?_
          refine rk_if_eq rfl rfl (fun hc108 => ?_) (fun hc108 => ?_)
          · replace hc108 := (n0_eq (by omega)).mp hc108
            omega
          · replace hc108 := mt (n0_eq (by omega)).mpr hc108
            refine rk_aload_n rfl rfl ?_
            refine rk_get rfl (by assumption) rfl ?_
            refine rk_bipush (v := nI 86) rfl (by decide) ?_
            refine rk_iload rfl rfl ?_
            refine rk_iadd rfl (nI_add _ _) ?_
            refine rk_iald rfl (by assumption) (rfl) (by omega) (by decide) ?_
            rw [aot (y k) t hyk ht, if_neg hc81]
            refine rk_goto rfl rfl ?_
            refine rk_iast rfl c76 (rfl) (by omega) (by decide) ?_
            refine hp_gen c76 (fun h1 g1 hk1 hl1 => ?_)
            replace c76 := g1
            refine rk_iinc rfl rfl (n_inc _) rfl ?_
            refine rk_goto rfl rfl ?_
            rw [← hsd]
            exact ih (k + 1) h1 _ _ (by omega) (by omega) (F.tr (Fr.mk1 hk1 hl1 (by omega) (by omega))) (AN.step c76 hf (by rw [hny]))
theorem l280 {X : ai_X} {h : ai_H} {v A rm : Nat → Int32} {nu : Nat → Int64} {i c L : Nat} {c3 : Int32} {N x : Nat → Nat} (c0 : h[52]? = some (cMdl v)) (c1 : h[53]? = some (cI 2346 A)) (c78 : h[78]? = some (cI 4 rm)) (c4 : h[79]? = some (cJ 160 nu)) (hN : HN N) (M : MH A N) (hi : i < 4) (hm : rm i = nI L) (hx : ∀ k, k < L → x k < N 1 ∧ nu (40 * i + k) = (nI (x k)).toInt64) (hL : L ≤ 40) (hw : c < N 271) {s : Int32} : ∀ (d : Nat) (k : Nat) (g : ai_H) (c7 c8 c9 c10 : Option Value), L < k + d → (k ≤ L) → (Fr 76 77 h g) → (AN g 76 8 (N 271) (nit N x s k).1) → Rk X am_280 47 [some (.ref 52), some (.int (nI i)), some (.int s), some (.int (nI c)), some (.int c3), some (.int (nit N x s k).2), some (.int (nI k)), c7, c8, c9, c10] [] g (Qi (fun w h1 => w = nI ((nit N x s L).1 c) ∧ Fr 76 77 h h1)) := by
  intro d
  induction d with
  | zero => intro k g c7 c8 c9 c10 hd hk F A; exfalso; omega
  | succ d ih =>
    intro k g c7 c8 c9 c10 hd hk F A
    obtain ⟨f, c76, hf⟩ := id A
    obtain ⟨a0, a1, a268, a269, a270, a271, apl, apc, aot, asg, awt⟩ := id M
    have e52 := (F.2 52 (by omega)).trans c0
    have e53 := (F.2 53 (by omega)).trans c1
    have e78 := (F.2 78 (by omega)).trans c78
    have e79 := (F.2 79 (by omega)).trans c4
    have hw8 := hN.w
    have hn := hN.n
    have h6 := hN.t
    refine rk_iload rfl rfl ?_
    refine rk_aload_n rfl rfl ?_
    refine rk_get rfl (by assumption) rfl ?_
    refine rk_iload_n rfl rfl ?_
    refine rk_iald rfl (by assumption) (rfl) (by omega) (by decide) ?_
    rw [hm]
    refine rk_icmp_ge rfl rfl (fun hc52 => ?_) (fun hc52 => ?_)
    · replace hc52 := (nI_leI (by omega) (by omega)).mp hc52
      refine rk_aload_n rfl rfl ?_
      refine rk_get rfl (by assumption) rfl ?_
      refine rk_iload_n rfl rfl ?_
      refine rk_iald rfl (by assumption) (rfl) (by omega) (by decide) ?_
      rw [hf c hw]
      exact rk_ireturn rfl rfl ⟨_, _, rfl, by rw [show k = L by omega], F⟩
    · replace hc52 := mt (nI_leI (by omega) (by omega)).mpr hc52
      refine rk_aload_n rfl rfl ?_
      refine rk_iload_n rfl rfl ?_
      refine rk_iload rfl rfl ?_
      refine rk_cv2e rfl rfl (by assumption) rfl rfl (Nat.le_of_ble_eq_true rfl) (Nat.le_of_ble_eq_true rfl) (s222 e52 e79 hi (by omega) (hx k (by omega)).2) ?_
      refine rk_istore rfl (Nat.le_of_ble_eq_true rfl) rfl ?_
      refine rk_iconst (v := nI 0) rfl (by decide) ?_
      refine rk_istore rfl (Nat.le_of_ble_eq_true rfl) rfl ?_
      refine l280i (s := (nit N x s k).2) e52 e53 e78 e79 hN M hi hm hx hL hw (hx k (by omega)).1 (nit_lt hN k (fun j hj => (hx j (by omega)).1)) ?_ (N 271 + 1) 0 g _ _ (by omega) (by omega) Fr.rfl' (A.congr (fun k _ => (if_neg (by omega)).symm))
      intro g2 c9 c10 F2 A2
      refine rk_iinc rfl rfl (n_inc _) rfl ?_
      refine rk_goto rfl rfl ?_
      exact ih (k + 1) g2 _ _ _ _ (by omega) (by omega) (F.tr F2) A2
theorem m280_x {X : ai_X} {h : ai_H} {v A : Nat → Int32} {N : Nat → Nat} (c0 : h[52]? = some (cMdl v)) (c1 : h[53]? = some (cI 2346 A)) (hN : HN N) (M : MH A N) {a b c : Int32} (ha : ¬ (¬ a < 0 ∧ ¬ nI 4 ≤ a)) : Rk X am_280 3 (ai_loc (ai_mL am_280) [.ref 52, .int a, .int b, .int c]) [] h (Qe (-2) h) := by
  obtain ⟨a0, a1, a268, a269, a270, a271, apl, apc, aot, asg, awt⟩ := id M
  refine rk_iload_n rfl rfl ?_
  refine rk_i2l rfl rfl ?_
  refine rk_lconst (v := 0) rfl (by decide) ?_
  rw [show (0 : Int64) = (0 : Int32).toInt64 by decide]
  refine rk_ldc2 rfl ?_
  rw [show (3 : Int64) = (nI 3).toInt64 by decide]
  refine rk_cs3e rfl rfl rfl (Nat.le_of_ble_eq_true rfl) (Nat.le_of_ble_eq_true rfl) (s181 _ _ _) ?_
  refine rk_if_eq rfl rfl (fun hc8 => ?_) (fun hc8 => ?_)
  · replace hc8 := (bI_0).mp hc8
    refine rk_bipush (v := (-2)) rfl (by decide) ?_
    exact rk_ireturn rfl rfl (Qe_of (by first | rfl | rw [if_neg (by assumption)] | rw [if_pos rfl]))
  · replace hc8 := Decidable.not_not.mp (mt bI_0.mpr hc8)
    exact absurd (in34.mp hc8) ha
theorem m280_y {X : ai_X} {h : ai_H} {v A : Nat → Int32} {N : Nat → Nat} (c0 : h[52]? = some (cMdl v)) (c1 : h[53]? = some (cI 2346 A)) (hN : HN N) (M : MH A N) {i : Nat} {b c : Int32} (hi : i < 4) (hb : ¬ (¬ c < 0 ∧ ¬ nI (N 271) ≤ c)) : Rk X am_280 3 (ai_loc (ai_mL am_280) [.ref 52, .int (nI i), .int b, .int c]) [] h (Qe (-2) h) := by
  obtain ⟨a0, a1, a268, a269, a270, a271, apl, apc, aot, asg, awt⟩ := id M
  refine rk_iload_n rfl rfl ?_
  refine rk_i2l rfl rfl ?_
  refine rk_lconst (v := 0) rfl (by decide) ?_
  rw [show (0 : Int64) = (0 : Int32).toInt64 by decide]
  refine rk_ldc2 rfl ?_
  rw [show (3 : Int64) = (nI 3).toInt64 by decide]
  refine rk_cs3e rfl rfl rfl (Nat.le_of_ble_eq_true rfl) (Nat.le_of_ble_eq_true rfl) (s181 _ _ _) ?_
  refine rk_if_eq rfl rfl (fun hc8 => ?_) (fun hc8 => ?_)
  · replace hc8 := (bI_0).mp hc8
    exact absurd (in3_mk hi) hc8
  · replace hc8 := Decidable.not_not.mp (mt bI_0.mpr hc8)
    refine rk_aload_n rfl rfl ?_
    refine rk_iload_n rfl rfl ?_
    refine rk_cv1e rfl rfl (by assumption) rfl rfl (Nat.le_of_ble_eq_true rfl) (Nat.le_of_ble_eq_true rfl) (s209n c0 c1 a271 (by have := hN.w; omega) _) ?_
    refine rk_if_ne rfl rfl (fun hc12 => ?_) (fun hc12 => ?_)
    · replace hc12 := Decidable.not_not.mp (mt bI_0.mpr hc12)
      exact absurd hc12 hb
    · replace hc12 := Decidable.not_not.mp hc12
      replace hc12 := (bI_0).mp hc12
      refine rk_bipush (v := (-2)) rfl (by decide) ?_
      exact rk_ireturn rfl rfl (Qe_of (by first | rfl | rw [if_neg (by assumption)] | rw [if_pos rfl]))
theorem m280_v {X : ai_X} {h : ai_H} {v A : Nat → Int32} {N : Nat → Nat} (c0 : h[52]? = some (cMdl v)) (c1 : h[53]? = some (cI 2346 A)) (hN : HN N) (M : MH A N) {i L : Nat} {code : Int32} {x : Nat → Nat} (hi : i < 4) (R : MRow h i (N 1) code L x) {c : Nat} {s : Int32} (hw : c < N 271) (S76 : ShI h 76 8) : Rk X am_280 3 (ai_loc (ai_mL am_280) [.ref 52, .int (nI i), .int s, .int (nI c)]) [] h (Qi (fun w h1 => w = (if code = 0 then nI ((nit N x s L).1 c) else code) ∧ SM h h1)) := by
  obtain ⟨a0, a1, a268, a269, a270, a271, apl, apc, aot, asg, awt⟩ := id M
  have hw8 := hN.w
  obtain ⟨f0, c76⟩ := S76
  refine rk_iload_n rfl rfl ?_
  refine rk_i2l rfl rfl ?_
  refine rk_lconst (v := 0) rfl (by decide) ?_
  rw [show (0 : Int64) = (0 : Int32).toInt64 by decide]
  refine rk_ldc2 rfl ?_
  rw [show (3 : Int64) = (nI 3).toInt64 by decide]
  refine rk_cs3e rfl rfl rfl (Nat.le_of_ble_eq_true rfl) (Nat.le_of_ble_eq_true rfl) (s181 _ _ _) ?_
  refine rk_if_eq rfl rfl (fun hc8 => ?_) (fun hc8 => ?_)
  · replace hc8 := (bI_0).mp hc8
    exact absurd (in3_mk hi) hc8
  · replace hc8 := Decidable.not_not.mp (mt bI_0.mpr hc8)
    refine rk_aload_n rfl rfl ?_
    refine rk_iload_n rfl rfl ?_
    refine rk_cv1e rfl rfl (by assumption) rfl rfl (Nat.le_of_ble_eq_true rfl) (Nat.le_of_ble_eq_true rfl) (s209n c0 c1 a271 (by have := hN.w; omega) _) ?_
    refine rk_if_ne rfl rfl (fun hc12 => ?_) (fun hc12 => ?_)
    · replace hc12 := Decidable.not_not.mp (mt bI_0.mpr hc12)
      refine rk_aload_n rfl rfl ?_
      refine rk_iload_n rfl rfl ?_
      refine rk_cv1e rfl rfl (by assumption) rfl rfl (Nat.le_of_ble_eq_true rfl) (Nat.le_of_ble_eq_true rfl) (s221 c0 c1 a1 hN.t hi R) ?_
      refine rk_istore rfl (Nat.le_of_ble_eq_true rfl) rfl ?_
      refine rk_iload rfl rfl ?_
      refine rk_if_eq rfl rfl (fun hc20 => ?_) (fun hc20 => ?_)
      · subst hc20
        obtain ⟨rm, nu, c3, c4, hm, hL, hx⟩ := R.good
        rw [if_pos rfl]
        refine rk_iload_n rfl rfl ?_
        refine rk_istore rfl (Nat.le_of_ble_eq_true rfl) rfl ?_
        refine rk_iconst (v := nI 0) rfl (by decide) ?_
        refine rk_istore rfl (Nat.le_of_ble_eq_true rfl) rfl ?_
        refine l280a c0 c1 c3 c4 hN M hi hm hx hL hw ?_ (N 271 + 1) 0 h (by omega) (by omega) Fr.rfl' ⟨f0, c76, fun k hk => absurd hk (by omega)⟩
        intro g F A
        refine rk_iconst (v := nI 0) rfl (by decide) ?_
        refine rk_istore rfl (Nat.le_of_ble_eq_true rfl) rfl ?_
        refine (l280 ((F.2 52 (by omega)).trans c0) ((F.2 53 (by omega)).trans c1) ((F.2 78 (by omega)).trans c3) ((F.2 79 (by omega)).trans c4) hN M hi hm hx hL hw (L + 1) 0 g _ _ _ _ (by omega) (by omega) Fr.rfl' A).mono ?_
        rintro o ⟨w, h2, rfl, rfl, F9⟩
        exact ⟨_, _, rfl, rfl, SM.fr c0 (F.tr F9) (by omega)⟩
      · refine rk_iload rfl rfl ?_
        exact rk_ireturn rfl rfl ⟨_, _, rfl, by first | rfl | rw [if_neg (by assumption)] | rw [if_pos rfl], SM.fr c0 (Fr.rfl' (a := 76) (b := 77)) (by omega)⟩
    · replace hc12 := Decidable.not_not.mp hc12
      replace hc12 := (bI_0).mp hc12
      exact absurd (in_mk (by omega) hw) hc12
theorem sh76 {h : ai_H} {m c s : Nat} (I : Inv m c s h) : ShI h 76 8 := by
  obtain ⟨tp, T, A, im, rs, rm, nu, fk, fp, b, hA, hB, hR, hI, hS, hO, hM, hV, hD, hc, hs⟩ := I
  exact hM.2.2.2.2.2.2.2.2.2.2.2.2.2.2.2.2.2.2.2.2.2.2.2.2.2.2
theorem ob38 (X : ai_X) : O38 X Inv := by
  intro a b c
  refine ob_scr fun m c' s h I => ?_
  have h76 := sh76 I
  obtain ⟨tp, v, A, N, ro, d0, d52, d53, hN, C, M, d19, hro, Q, RR, O⟩ := I.dat
  have hw8 := hN.w
  by_cases ha : ¬ a < 0 ∧ ¬ nI 4 ≤ a
  · obtain ⟨i, hi, rfl⟩ := in_of (by omega) ha
    obtain ⟨code, L, x, RC, RM⟩ := RR i hi
    by_cases hb : ¬ c < 0 ∧ ¬ nI (N 271) ≤ c
    · obtain ⟨c, hc, rfl⟩ := in_of (by omega) hb
      exact ⟨_, c171_v d0 hN C d19 hro Q O hi RC hc, fun h1 S => md_sc2 rfl rfl rfl rfl ((S.m (by omega)).trans d52) (fun h2 g2 hk => m280_v g2 ((S.m2 hk (by omega) (by omega)).trans d53) hN M hi (RM.m2 S hk) hc (h76.fr (S.m2 hk (by omega) (by omega))))⟩
    · exact ⟨_, c171_y d0 hN C d19 hro Q O hi hb, fun h1 S => md_scr rfl rfl rfl rfl ((S.m (by omega)).trans d52) (fun h2 g2 hk => m280_y g2 ((S.m2 hk (by omega) (by omega)).trans d53) hN M hi hb)⟩
  · exact ⟨_, c171_x d0 hN C d19 hro Q O ha, fun h1 S => md_scr rfl rfl rfl rfl ((S.m (by omega)).trans d52) (fun h2 g2 hk => m280_x g2 ((S.m2 hk (by omega) (by omega)).trans d53) hN M ha)⟩
