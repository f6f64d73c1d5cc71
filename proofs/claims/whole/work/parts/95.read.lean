/-! HOUSE: the class reads a house -/
theorem s85 {X : ai_X} {h : ai_H} {b : Nat → Nat} {n N t q k w : Nat} {c : Nat → Int32} (Tp : TP h 1 b) (hn : n ≤ 600) (hq0 : q ≤ n) (R : RDE h n 0 (-1) q) (D : DC h c) (hN0 : 1 ≤ N) (hN : N ≤ 14) (ht0 : 1 ≤ t) (ht : t ≤ 6) (c0 : c 0 = nI N) (c1 : c 1 = nI t) (hk : k = 5 ∨ k = 6 ∨ k = 8 ∨ k = 9) (hw9 : k = 9 → w < 8) (c271 : c 271 = nI w) : Mt X am_85 [.ref 2, .int (nI k), .ref 9] h (Qv (fun h1 => CRd h h1 n (num b n 0 (N - 1) q (fun r q => okR (if k = 5 then upd c 268 (c 268 ||| nI (2 ^ r)) else if k = 6 then upd c 269 (c 269 ||| nI (2 ^ r)) else if k = 8 then upd c 270 (nI r) else cw c w r) q)))) := by
  obtain ⟨F, g0, g1, g2, g3, g4, d9, d10, d11, d12, d13, d14, hV⟩ := id D
  have hF0 : F 0 = nI N := hV.1.trans c0
  have hF1 : F 1 = nI t := hV.2.1.trans c1
  have FC : FrC h h := FrC.rfl'
  obtain ⟨gg, e2, -⟩ := id R
  refine rk_aload_n rfl rfl ?_
  refine rk_iconst (v := nI 0) rfl (by decide) ?_
  refine rk_aload_n rfl rfl ?_
  refine rk_get rfl (by assumption) rfl ?_
  rw [hF0]
  refine rk_iconst (v := nI 1) rfl (by decide) ?_
  refine rk_isub rfl (pk_sub (by omega)) ?_
  refine rk_cv2i rfl rfl (by assumption) rfl rfl (Nat.le_of_ble_eq_true rfl) (Nat.le_of_ble_eq_true rfl) (s80 Tp hn (by assumption) (by omega) (by omega) R) (fun w h1 hF => ?_)
  obtain ⟨F1, hF⟩ := hF
  replace FC := FC.t2 F1
  replace Tp := Tp.fr (F1.2 1 (by omega))
  replace D := D.fr (fun q _ _ => F1.2 q (by omega))
  replace d9 := (F1.2 9 (by omega)).trans d9
  have hq : q ≤ n := by assumption
  by_cases z11 : nf b n 0 (N - 1) q = 0
  · rw [if_pos z11] at hF
    obtain ⟨rfl, R⟩ := hF
    obtain ⟨g, e2, hg0, hg1, hg3, hg4, hg5, hg6⟩ := id R
    replace R := R.e
    obtain ⟨uz11, vz11⟩ := nf_b z11
    have qz11 := (te_b (b := b) hq).2.1
    have hF3 := hV.2.2.2.1
    have hF5 := hV.2.2.2.2.2.1
    have hF6 := hV.2.2.2.2.2.2.1
    refine rk_istore_n rfl (Nat.le_of_ble_eq_true rfl) rfl ?_
    refine rk_aload_n rfl rfl ?_
    refine rk_get rfl (by assumption) rfl ?_
    rw [hg0]
    refine rk_if_eq rfl rfl (fun _ => ?_) (fun y => absurd rfl y)
    refine rk_iload_n rfl rfl ?_
    refine rk_iconst (v := nI 5) rfl (by decide) ?_
    refine rk_icmp_ne rfl rfl (fun hc14 => ?_) (fun hc14 => ?_)
    · replace hc14 := mt (nI_eq (by omega) (by omega)).mpr hc14
      refine rk_iload_n rfl rfl ?_
      refine rk_bipush (v := nI 6) rfl (by decide) ?_
      refine rk_icmp_ne rfl rfl (fun hc26 => ?_) (fun hc26 => ?_)
      · replace hc26 := mt (nI_eq (by omega) (by omega)).mpr hc26
        refine rk_iload_n rfl rfl ?_
        refine rk_bipush (v := nI 8) rfl (by decide) ?_
        refine rk_icmp_ne rfl rfl (fun hc38 => ?_) (fun hc38 => ?_)
        · replace hc38 := mt (nI_eq (by omega) (by omega)).mpr hc38
          refine rk_aload_n rfl rfl ?_
          refine rk_iload_n rfl rfl ?_
          refine rk_cv1v rfl rfl (by assumption) rfl rfl (Nat.le_of_ble_eq_true rfl) (Nat.le_of_ble_eq_true rfl) (s35D D (hw9 (by omega)) c271) (fun h1 hF => ?_)
          obtain ⟨F2, D2⟩ := hF
          first
            | exact rk_return rfl rfl ⟨_, rfl, by rw [num_y z11, if_pos hc14]; exact CRd.ok (FC.t9 (Fr.mk1 hk1 hl1 (by omega) (by omega))) (R.fr (hk1 2 (by omega))) D2⟩
            | exact rk_return rfl rfl ⟨_, rfl, by rw [num_y z11, if_neg hc14, if_pos hc26]; exact CRd.ok (FC.t9 (Fr.mk1 hk1 hl1 (by omega) (by omega))) (R.fr (hk1 2 (by omega))) D2⟩
            | exact rk_return rfl rfl ⟨_, rfl, by rw [num_y z11, if_neg hc14, if_neg hc26, if_pos hc38]; exact CRd.ok (FC.t9 (Fr.mk1 hk1 hl1 (by omega) (by omega))) (R.fr (hk1 2 (by omega))) D2⟩
            | exact rk_return rfl rfl ⟨_, rfl, by rw [num_y z11, if_neg hc14, if_neg hc26, if_neg hc38]; exact CRd.ok (FC.t9 F2) (R.fr (F2.2 2 (by omega))) D2⟩
        · replace hc38 := Decidable.not_not.mp hc38
          replace hc38 := (nI_eq (by omega) (by omega)).mp hc38
          refine rk_aload_n rfl rfl ?_
          refine rk_iload_n rfl rfl ?_
          obtain ⟨F, g0, g1, g2, g3, g4, d9, d10, d11, d12, d13, d14, hV⟩ := id D
          refine rk_putH rfl d9 (by omega) (fun h1 e9 hk1 hl1 => ?_)
          have D2 := (show DC h1 _ from ⟨_, _, _, _, _, _, e9, (hk1 _ (by omega)).trans d10, (hk1 _ (by omega)).trans d11, (hk1 _ (by omega)).trans d12, (hk1 _ (by omega)).trans d13, (hk1 _ (by omega)).trans d14, hV.f' (f := 3) (by omega)⟩)
          refine rk_goto rfl rfl ?_
          first
            | exact rk_return rfl rfl ⟨_, rfl, by rw [num_y z11, if_pos hc14]; exact CRd.ok (FC.t9 (Fr.mk1 hk1 hl1 (by omega) (by omega))) (R.fr (hk1 2 (by omega))) D2⟩
            | exact rk_return rfl rfl ⟨_, rfl, by rw [num_y z11, if_neg hc14, if_pos hc26]; exact CRd.ok (FC.t9 (Fr.mk1 hk1 hl1 (by omega) (by omega))) (R.fr (hk1 2 (by omega))) D2⟩
            | exact rk_return rfl rfl ⟨_, rfl, by rw [num_y z11, if_neg hc14, if_neg hc26, if_pos hc38]; exact CRd.ok (FC.t9 (Fr.mk1 hk1 hl1 (by omega) (by omega))) (R.fr (hk1 2 (by omega))) D2⟩
            | exact rk_return rfl rfl ⟨_, rfl, by rw [num_y z11, if_neg hc14, if_neg hc26, if_neg hc38]; exact CRd.ok (FC.t9 F2) (R.fr (F2.2 2 (by omega))) D2⟩
      · replace hc26 := Decidable.not_not.mp hc26
        replace hc26 := (nI_eq (by omega) (by omega)).mp hc26
        refine rk_aload_n rfl rfl ?_
        refine rk_dup_a rfl ?_
        refine rk_get rfl (by assumption) rfl ?_
        rw [hF6]
        refine rk_iconst (v := nI 1) rfl (by decide) ?_
        refine rk_iload_n rfl rfl ?_
        refine rk_ishl rfl (b_1shlU (by omega)) ?_
        refine rk_ior rfl rfl ?_
        obtain ⟨F, g0, g1, g2, g3, g4, d9, d10, d11, d12, d13, d14, hV⟩ := id D
        refine rk_putH rfl d9 (by omega) (fun h1 e9 hk1 hl1 => ?_)
        have D2 := (show DC h1 _ from ⟨_, _, _, _, _, _, e9, (hk1 _ (by omega)).trans d10, (hk1 _ (by omega)).trans d11, (hk1 _ (by omega)).trans d12, (hk1 _ (by omega)).trans d13, (hk1 _ (by omega)).trans d14, hV.f' (f := 6) (by omega)⟩)
        refine rk_goto rfl rfl ?_
        first
          | exact rk_return rfl rfl ⟨_, rfl, by rw [num_y z11, if_pos hc14]; exact CRd.ok (FC.t9 (Fr.mk1 hk1 hl1 (by omega) (by omega))) (R.fr (hk1 2 (by omega))) D2⟩
          | exact rk_return rfl rfl ⟨_, rfl, by rw [num_y z11, if_neg hc14, if_pos hc26]; exact CRd.ok (FC.t9 (Fr.mk1 hk1 hl1 (by omega) (by omega))) (R.fr (hk1 2 (by omega))) D2⟩
          | exact rk_return rfl rfl ⟨_, rfl, by rw [num_y z11, if_neg hc14, if_neg hc26, if_pos hc38]; exact CRd.ok (FC.t9 (Fr.mk1 hk1 hl1 (by omega) (by omega))) (R.fr (hk1 2 (by omega))) D2⟩
          | exact rk_return rfl rfl ⟨_, rfl, by rw [num_y z11, if_neg hc14, if_neg hc26, if_neg hc38]; exact CRd.ok (FC.t9 F2) (R.fr (F2.2 2 (by omega))) D2⟩
    · replace hc14 := Decidable.not_not.mp hc14
      replace hc14 := (nI_eq (by omega) (by omega)).mp hc14
      refine rk_aload_n rfl rfl ?_
      refine rk_dup_a rfl ?_
      refine rk_get rfl (by assumption) rfl ?_
      rw [hF5]
      refine rk_iconst (v := nI 1) rfl (by decide) ?_
      refine rk_iload_n rfl rfl ?_
      refine rk_ishl rfl (b_1shlU (by omega)) ?_
      refine rk_ior rfl rfl ?_
      obtain ⟨F, g0, g1, g2, g3, g4, d9, d10, d11, d12, d13, d14, hV⟩ := id D
      refine rk_putH rfl d9 (by omega) (fun h1 e9 hk1 hl1 => ?_)
      have D2 := (show DC h1 _ from ⟨_, _, _, _, _, _, e9, (hk1 _ (by omega)).trans d10, (hk1 _ (by omega)).trans d11, (hk1 _ (by omega)).trans d12, (hk1 _ (by omega)).trans d13, (hk1 _ (by omega)).trans d14, hV.f' (f := 5) (by omega)⟩)
      refine rk_goto rfl rfl ?_
      first
        | exact rk_return rfl rfl ⟨_, rfl, by rw [num_y z11, if_pos hc14]; exact CRd.ok (FC.t9 (Fr.mk1 hk1 hl1 (by omega) (by omega))) (R.fr (hk1 2 (by omega))) D2⟩
        | exact rk_return rfl rfl ⟨_, rfl, by rw [num_y z11, if_neg hc14, if_pos hc26]; exact CRd.ok (FC.t9 (Fr.mk1 hk1 hl1 (by omega) (by omega))) (R.fr (hk1 2 (by omega))) D2⟩
        | exact rk_return rfl rfl ⟨_, rfl, by rw [num_y z11, if_neg hc14, if_neg hc26, if_pos hc38]; exact CRd.ok (FC.t9 (Fr.mk1 hk1 hl1 (by omega) (by omega))) (R.fr (hk1 2 (by omega))) D2⟩
        | exact rk_return rfl rfl ⟨_, rfl, by rw [num_y z11, if_neg hc14, if_neg hc26, if_neg hc38]; exact CRd.ok (FC.t9 F2) (R.fr (F2.2 2 (by omega))) D2⟩
  · rw [if_neg z11] at hF
    obtain ⟨rfl, R⟩ := hF
    obtain ⟨g, e2, hg0, -⟩ := id R
    have hf0 : ¬ g 0 = 0 := fun y => nf_i z11 (hg0.symm.trans y)
    refine rk_istore_n rfl (Nat.le_of_ble_eq_true rfl) rfl ?_
    refine rk_aload_n rfl rfl ?_
    refine rk_get rfl (by assumption) rfl ?_
    refine rk_if_eq rfl rfl (fun hc10 => ?_) (fun hc10 => ?_)
    · exact absurd hc10 hf0
    · exact rk_return rfl rfl ⟨_, rfl, by rw [num_n z11]; exact CRd.f z11 FC (te_b hq).2.1 R D.at⟩
theorem lnF_k {N t w k : Nat} (h : lnF N t w k = 0) : k < 10 ∧ (2 ≤ k → 1 ≤ N ∧ 1 ≤ t) ∧ (k = 9 → w < 8) := by
  unfold lnF at h
  repeat' split at h
  all_goals omega
theorem mx_p {x : Nat} (h : x < 1000) : (if nI 0 < nI x then nI x else nI 0) = nI x := by
  by_cases z : 0 < x
  · rw [if_pos ((nI_ltI (by omega) (by omega)).mpr z)]
  · rw [show x = 0 by omega]; rfl
theorem s79_0 {X : ai_X} {h : ai_H} {b : Nat → Nat} {n N t w l q : Nat} {c : Nat → Int32} (Tp : TP h 1 b) (hn : n ≤ 600) (hq0 : q ≤ n) (R : RDE h n 0 (-1) q) (D : DC h c) (hv : VC c N t w l) (hf : lnF N t w 0 = 0) : Mt X am_79 [.ref 2, .int (nI 0), .ref 9] h (Qv (fun h1 => CRd h h1 n (lnN b n N t w 0 c q))) := by
  obtain ⟨a0, a1, a2, a3, a4, a5, a6, a7⟩ := id hv
  obtain ⟨f1, f2, f3⟩ := lnF_k hf
  have e9 := D.at.choose_spec.choose_spec.1
  obtain ⟨gg, e2, -⟩ := id R
  rw [lnN, if_pos rfl]
  have d9 := e9
  have FC : FrC h h := FrC.rfl'
  refine rk_iload_n rfl rfl ?_
  refine rk_sw_in (off := 47) (j := 2) rfl (by decide) rfl rfl rfl ?_
  refine rk_aload_n rfl rfl ?_
  refine rk_iconst (v := nI 0) rfl (by decide) ?_
  refine rk_aload_n rfl rfl ?_
  refine rk_iconst (v := nI 2) rfl (by decide) ?_
  refine rk_bipush (v := nI 14) rfl (by decide) ?_
  refine rk_cv2i rfl rfl (by assumption) rfl rfl (Nat.le_of_ble_eq_true rfl) (Nat.le_of_ble_eq_true rfl) (s80 Tp hn (by assumption) (by omega) (by omega) R) (fun w h1 hF => ?_)
  obtain ⟨F1, hF⟩ := hF
  replace FC := FC.t2 F1
  replace Tp := Tp.fr (F1.2 1 (by omega))
  replace D := D.fr (fun q _ _ => F1.2 q (by omega))
  replace d9 := (F1.2 9 (by omega)).trans d9
  have hq : q ≤ n := by assumption
  by_cases z12 : nf b n 2 14 q = 0
  · rw [if_pos z12] at hF
    obtain ⟨rfl, R⟩ := hF
    obtain ⟨g, e2, hg0, hg1, hg3, hg4, hg5, hg6⟩ := id R
    replace R := R.e
    obtain ⟨uz12, vz12⟩ := nf_b z12
    have qz12 := (te_b (b := b) hq).2.1
    refine rk_max rfl (Nat.le_of_ble_eq_true rfl) (mx_p (x := tv b n q) (by omega)) ?_
    obtain ⟨F, g0, g1, g2, g3, g4, d9, d10, d11, d12, d13, d14, hV⟩ := id D
    refine rk_putH rfl d9 (by omega) (fun h1 e9 hk1 hl1 => ?_)
    have D2 := (show DC h1 _ from ⟨_, _, _, _, _, _, e9, (hk1 _ (by omega)).trans d10, (hk1 _ (by omega)).trans d11, (hk1 _ (by omega)).trans d12, (hk1 _ (by omega)).trans d13, (hk1 _ (by omega)).trans d14, hV.f' (f := 0) (by omega)⟩)
    refine rk_goto rfl rfl ?_
    exact rk_return rfl rfl ⟨_, rfl, by rw [num_y z12]; exact CRd.ok (FC.t9 (Fr.mk1 hk1 hl1 (by omega) (by omega))) (R.fr (hk1 2 (by omega))) D2⟩
  · rw [if_neg z12] at hF
    obtain ⟨rfl, R⟩ := hF
    obtain ⟨g, e2, hg0, -⟩ := id R
    have hf0 : ¬ g 0 = 0 := fun y => nf_i z12 (hg0.symm.trans y)
    refine rk_max (w := 0) rfl (Nat.le_of_ble_eq_true rfl) (by decide) ?_
    obtain ⟨F, g0, g1, g2, g3, g4, d9, d10, d11, d12, d13, d14, hV⟩ := id D
    refine rk_putH rfl d9 (by omega) (fun h1 e9 hk1 hl1 => ?_)
    have D2 := (show DC h1 _ from ⟨_, _, _, _, _, _, e9, (hk1 _ (by omega)).trans d10, (hk1 _ (by omega)).trans d11, (hk1 _ (by omega)).trans d12, (hk1 _ (by omega)).trans d13, (hk1 _ (by omega)).trans d14, hV.f' (f := 0) (by omega)⟩)
    refine rk_goto rfl rfl ?_
    exact rk_return rfl rfl ⟨_, rfl, by rw [num_n z12]; exact CRd.f z12 (FC.t9 (Fr.mk1 hk1 hl1 (by omega) (by omega))) (te_b hq).2.1 (R.fr (hk1 2 (by omega))) D2.at⟩
theorem s79_1 {X : ai_X} {h : ai_H} {b : Nat → Nat} {n N t w l q : Nat} {c : Nat → Int32} (Tp : TP h 1 b) (hn : n ≤ 600) (hq0 : q ≤ n) (R : RDE h n 0 (-1) q) (D : DC h c) (hv : VC c N t w l) (hf : lnF N t w 1 = 0) : Mt X am_79 [.ref 2, .int (nI 1), .ref 9] h (Qv (fun h1 => CRd h h1 n (lnN b n N t w 1 c q))) := by
  obtain ⟨a0, a1, a2, a3, a4, a5, a6, a7⟩ := id hv
  obtain ⟨f1, f2, f3⟩ := lnF_k hf
  have e9 := D.at.choose_spec.choose_spec.1
  obtain ⟨gg, e2, -⟩ := id R
  rw [lnN, if_neg (by decide), if_pos rfl]
  have d9 := e9
  have FC : FrC h h := FrC.rfl'
  refine rk_iload_n rfl rfl ?_
  refine rk_sw_in (off := 65) (j := 11) rfl (by decide) rfl rfl rfl ?_
  refine rk_aload_n rfl rfl ?_
  refine rk_iconst (v := nI 0) rfl (by decide) ?_
  refine rk_aload_n rfl rfl ?_
  refine rk_iconst (v := nI 1) rfl (by decide) ?_
  refine rk_bipush (v := nI 6) rfl (by decide) ?_
  refine rk_cv2i rfl rfl (by assumption) rfl rfl (Nat.le_of_ble_eq_true rfl) (Nat.le_of_ble_eq_true rfl) (s80 Tp hn (by assumption) (by omega) (by omega) R) (fun w h1 hF => ?_)
  obtain ⟨F1, hF⟩ := hF
  replace FC := FC.t2 F1
  replace Tp := Tp.fr (F1.2 1 (by omega))
  replace D := D.fr (fun q _ _ => F1.2 q (by omega))
  replace d9 := (F1.2 9 (by omega)).trans d9
  have hq : q ≤ n := by assumption
  by_cases z13 : nf b n 1 6 q = 0
  · rw [if_pos z13] at hF
    obtain ⟨rfl, R⟩ := hF
    obtain ⟨g, e2, hg0, hg1, hg3, hg4, hg5, hg6⟩ := id R
    replace R := R.e
    obtain ⟨uz13, vz13⟩ := nf_b z13
    have qz13 := (te_b (b := b) hq).2.1
    refine rk_max rfl (Nat.le_of_ble_eq_true rfl) (mx_p (x := tv b n q) (by omega)) ?_
    obtain ⟨F, g0, g1, g2, g3, g4, d9, d10, d11, d12, d13, d14, hV⟩ := id D
    refine rk_putH rfl d9 (by omega) (fun h1 e9 hk1 hl1 => ?_)
    have D2 := (show DC h1 _ from ⟨_, _, _, _, _, _, e9, (hk1 _ (by omega)).trans d10, (hk1 _ (by omega)).trans d11, (hk1 _ (by omega)).trans d12, (hk1 _ (by omega)).trans d13, (hk1 _ (by omega)).trans d14, hV.f' (f := 1) (by omega)⟩)
    refine rk_goto rfl rfl ?_
    exact rk_return rfl rfl ⟨_, rfl, by rw [num_y z13]; exact CRd.ok (FC.t9 (Fr.mk1 hk1 hl1 (by omega) (by omega))) (R.fr (hk1 2 (by omega))) D2⟩
  · rw [if_neg z13] at hF
    obtain ⟨rfl, R⟩ := hF
    obtain ⟨g, e2, hg0, -⟩ := id R
    have hf0 : ¬ g 0 = 0 := fun y => nf_i z13 (hg0.symm.trans y)
    refine rk_max (w := 0) rfl (Nat.le_of_ble_eq_true rfl) (by decide) ?_
    obtain ⟨F, g0, g1, g2, g3, g4, d9, d10, d11, d12, d13, d14, hV⟩ := id D
    refine rk_putH rfl d9 (by omega) (fun h1 e9 hk1 hl1 => ?_)
    have D2 := (show DC h1 _ from ⟨_, _, _, _, _, _, e9, (hk1 _ (by omega)).trans d10, (hk1 _ (by omega)).trans d11, (hk1 _ (by omega)).trans d12, (hk1 _ (by omega)).trans d13, (hk1 _ (by omega)).trans d14, hV.f' (f := 1) (by omega)⟩)
    refine rk_goto rfl rfl ?_
    exact rk_return rfl rfl ⟨_, rfl, by rw [num_n z13]; exact CRd.f z13 (FC.t9 (Fr.mk1 hk1 hl1 (by omega) (by omega))) (te_b hq).2.1 (R.fr (hk1 2 (by omega))) D2.at⟩
theorem s79_2 {X : ai_X} {h : ai_H} {b : Nat → Nat} {n N t w l q : Nat} {c : Nat → Int32} (Tp : TP h 1 b) (hn : n ≤ 600) (hq0 : q ≤ n) (R : RDE h n 0 (-1) q) (D : DC h c) (hv : VC c N t w l) (hf : lnF N t w 2 = 0) : Mt X am_79 [.ref 2, .int (nI 2), .ref 9] h (Qv (fun h1 => CRd h h1 n (lnN b n N t w 2 c q))) := by
  obtain ⟨a0, a1, a2, a3, a4, a5, a6, a7⟩ := id hv
  obtain ⟨f1, f2, f3⟩ := lnF_k hf
  have e9 := D.at.choose_spec.choose_spec.1
  obtain ⟨gg, e2, -⟩ := id R
  rw [lnN, if_neg (by decide), if_neg (by decide), if_pos rfl]
  refine rk_iload_n rfl rfl ?_
  refine rk_sw_in (off := 83) (j := 20) rfl (by decide) rfl rfl rfl ?_
  refine rk_aload_n rfl rfl ?_
  refine rk_aload_n rfl rfl ?_
  refine rk_cv1v rfl rfl (by assumption) rfl rfl (Nat.le_of_ble_eq_true rfl) (Nat.le_of_ble_eq_true rfl) (s81 Tp hn hq0 R D (f2 (by omega)).1 a5 (f2 (by omega)).2 a6 a0 a1) (fun h1 hF => ?_)
  refine rk_goto rfl rfl ?_
  exact rk_return rfl rfl ⟨_, rfl, hF⟩
theorem s79_3 {X : ai_X} {h : ai_H} {b : Nat → Nat} {n N t w l q : Nat} {c : Nat → Int32} (Tp : TP h 1 b) (hn : n ≤ 600) (hq0 : q ≤ n) (R : RDE h n 0 (-1) q) (D : DC h c) (hv : VC c N t w l) (hf : lnF N t w 3 = 0) : Mt X am_79 [.ref 2, .int (nI 3), .ref 9] h (Qv (fun h1 => CRd h h1 n (lnN b n N t w 3 c q))) := by
  obtain ⟨a0, a1, a2, a3, a4, a5, a6, a7⟩ := id hv
  obtain ⟨f1, f2, f3⟩ := lnF_k hf
  have e9 := D.at.choose_spec.choose_spec.1
  obtain ⟨gg, e2, -⟩ := id R
  rw [lnN, if_neg (by decide), if_neg (by decide), if_neg (by decide), if_pos rfl]
  refine rk_iload_n rfl rfl ?_
  refine rk_sw_in (off := 91) (j := 24) rfl (by decide) rfl rfl rfl ?_
  refine rk_aload_n rfl rfl ?_
  refine rk_aload_n rfl rfl ?_
  refine rk_cv1v rfl rfl (by assumption) rfl rfl (Nat.le_of_ble_eq_true rfl) (Nat.le_of_ble_eq_true rfl) (s82 Tp hn hq0 R D (f2 (by omega)).1 a5 (f2 (by omega)).2 a6 a0 a1) (fun h1 hF => ?_)
  refine rk_goto rfl rfl ?_
  exact rk_return rfl rfl ⟨_, rfl, hF⟩
theorem s79_4 {X : ai_X} {h : ai_H} {b : Nat → Nat} {n N t w l q : Nat} {c : Nat → Int32} (Tp : TP h 1 b) (hn : n ≤ 600) (hq0 : q ≤ n) (R : RDE h n 0 (-1) q) (D : DC h c) (hv : VC c N t w l) (hf : lnF N t w 4 = 0) : Mt X am_79 [.ref 2, .int (nI 4), .ref 9] h (Qv (fun h1 => CRd h h1 n (lnN b n N t w 4 c q))) := by
  obtain ⟨a0, a1, a2, a3, a4, a5, a6, a7⟩ := id hv
  obtain ⟨f1, f2, f3⟩ := lnF_k hf
  have e9 := D.at.choose_spec.choose_spec.1
  obtain ⟨gg, e2, -⟩ := id R
  rw [lnN, if_neg (by decide), if_neg (by decide), if_neg (by decide), if_neg (by decide), if_pos rfl]
  refine rk_iload_n rfl rfl ?_
  refine rk_sw_in (off := 99) (j := 28) rfl (by decide) rfl rfl rfl ?_
  refine rk_aload_n rfl rfl ?_
  refine rk_aload_n rfl rfl ?_
  refine rk_cv1v rfl rfl (by assumption) rfl rfl (Nat.le_of_ble_eq_true rfl) (Nat.le_of_ble_eq_true rfl) (s83 Tp hn hq0 R D (f2 (by omega)).1 a5 (f2 (by omega)).2 a6 a0 a1) (fun h1 hF => ?_)
  refine rk_goto rfl rfl ?_
  exact rk_return rfl rfl ⟨_, rfl, hF⟩
theorem s79_5 {X : ai_X} {h : ai_H} {b : Nat → Nat} {n N t w l q : Nat} {c : Nat → Int32} (Tp : TP h 1 b) (hn : n ≤ 600) (hq0 : q ≤ n) (R : RDE h n 0 (-1) q) (D : DC h c) (hv : VC c N t w l) (hf : lnF N t w 5 = 0) : Mt X am_79 [.ref 2, .int (nI 5), .ref 9] h (Qv (fun h1 => CRd h h1 n (lnN b n N t w 5 c q))) := by
  obtain ⟨a0, a1, a2, a3, a4, a5, a6, a7⟩ := id hv
  obtain ⟨f1, f2, f3⟩ := lnF_k hf
  have e9 := D.at.choose_spec.choose_spec.1
  obtain ⟨gg, e2, -⟩ := id R
  rw [lnN, if_neg (by decide), if_neg (by decide), if_neg (by decide), if_neg (by decide), if_neg (by decide), if_neg (by decide)]
  refine rk_iload_n rfl rfl ?_
  refine rk_sw_in (off := 115) (j := 36) rfl (by decide) rfl rfl rfl ?_
  refine rk_aload_n rfl rfl ?_
  refine rk_iload_n rfl rfl ?_
  refine rk_aload_n rfl rfl ?_
  refine rk_cv2v rfl rfl (by assumption) rfl rfl (Nat.le_of_ble_eq_true rfl) (Nat.le_of_ble_eq_true rfl) (s85 Tp hn hq0 R D (f2 (by omega)).1 a5 (f2 (by omega)).2 a6 a0 a1 (k := 5) (w := w) (by omega) f3 a2) (fun h1 hF => ?_)
  exact rk_return rfl rfl ⟨_, rfl, hF⟩
theorem s79_6 {X : ai_X} {h : ai_H} {b : Nat → Nat} {n N t w l q : Nat} {c : Nat → Int32} (Tp : TP h 1 b) (hn : n ≤ 600) (hq0 : q ≤ n) (R : RDE h n 0 (-1) q) (D : DC h c) (hv : VC c N t w l) (hf : lnF N t w 6 = 0) : Mt X am_79 [.ref 2, .int (nI 6), .ref 9] h (Qv (fun h1 => CRd h h1 n (lnN b n N t w 6 c q))) := by
  obtain ⟨a0, a1, a2, a3, a4, a5, a6, a7⟩ := id hv
  obtain ⟨f1, f2, f3⟩ := lnF_k hf
  have e9 := D.at.choose_spec.choose_spec.1
  obtain ⟨gg, e2, -⟩ := id R
  rw [lnN, if_neg (by decide), if_neg (by decide), if_neg (by decide), if_neg (by decide), if_neg (by decide), if_neg (by decide)]
  refine rk_iload_n rfl rfl ?_
  refine rk_sw_in (off := 115) (j := 36) rfl (by decide) rfl rfl rfl ?_
  refine rk_aload_n rfl rfl ?_
  refine rk_iload_n rfl rfl ?_
  refine rk_aload_n rfl rfl ?_
  refine rk_cv2v rfl rfl (by assumption) rfl rfl (Nat.le_of_ble_eq_true rfl) (Nat.le_of_ble_eq_true rfl) (s85 Tp hn hq0 R D (f2 (by omega)).1 a5 (f2 (by omega)).2 a6 a0 a1 (k := 6) (w := w) (by omega) f3 a2) (fun h1 hF => ?_)
  exact rk_return rfl rfl ⟨_, rfl, hF⟩
theorem s79_7 {X : ai_X} {h : ai_H} {b : Nat → Nat} {n N t w l q : Nat} {c : Nat → Int32} (Tp : TP h 1 b) (hn : n ≤ 600) (hq0 : q ≤ n) (R : RDE h n 0 (-1) q) (D : DC h c) (hv : VC c N t w l) (hf : lnF N t w 7 = 0) : Mt X am_79 [.ref 2, .int (nI 7), .ref 9] h (Qv (fun h1 => CRd h h1 n (lnN b n N t w 7 c q))) := by
  obtain ⟨a0, a1, a2, a3, a4, a5, a6, a7⟩ := id hv
  obtain ⟨f1, f2, f3⟩ := lnF_k hf
  have e9 := D.at.choose_spec.choose_spec.1
  obtain ⟨gg, e2, -⟩ := id R
  rw [lnN, if_neg (by decide), if_neg (by decide), if_neg (by decide), if_neg (by decide), if_neg (by decide), if_pos rfl]
  refine rk_iload_n rfl rfl ?_
  refine rk_sw_in (off := 107) (j := 32) rfl (by decide) rfl rfl rfl ?_
  refine rk_aload_n rfl rfl ?_
  refine rk_aload_n rfl rfl ?_
  refine rk_cv1v rfl rfl (by assumption) rfl rfl (Nat.le_of_ble_eq_true rfl) (Nat.le_of_ble_eq_true rfl) (s84 Tp hn hq0 R D (f2 (by omega)).1 a5 (f2 (by omega)).2 a6 a0 a1) (fun h1 hF => ?_)
  refine rk_goto rfl rfl ?_
  exact rk_return rfl rfl ⟨_, rfl, hF⟩
theorem s79_8 {X : ai_X} {h : ai_H} {b : Nat → Nat} {n N t w l q : Nat} {c : Nat → Int32} (Tp : TP h 1 b) (hn : n ≤ 600) (hq0 : q ≤ n) (R : RDE h n 0 (-1) q) (D : DC h c) (hv : VC c N t w l) (hf : lnF N t w 8 = 0) : Mt X am_79 [.ref 2, .int (nI 8), .ref 9] h (Qv (fun h1 => CRd h h1 n (lnN b n N t w 8 c q))) := by
  obtain ⟨a0, a1, a2, a3, a4, a5, a6, a7⟩ := id hv
  obtain ⟨f1, f2, f3⟩ := lnF_k hf
  have e9 := D.at.choose_spec.choose_spec.1
  obtain ⟨gg, e2, -⟩ := id R
  rw [lnN, if_neg (by decide), if_neg (by decide), if_neg (by decide), if_neg (by decide), if_neg (by decide), if_neg (by decide)]
  refine rk_iload_n rfl rfl ?_
  refine rk_sw_out (j := 36) rfl (by decide) rfl rfl ?_
  refine rk_aload_n rfl rfl ?_
  refine rk_iload_n rfl rfl ?_
  refine rk_aload_n rfl rfl ?_
  refine rk_cv2v rfl rfl (by assumption) rfl rfl (Nat.le_of_ble_eq_true rfl) (Nat.le_of_ble_eq_true rfl) (s85 Tp hn hq0 R D (f2 (by omega)).1 a5 (f2 (by omega)).2 a6 a0 a1 (k := 8) (w := w) (by omega) f3 a2) (fun h1 hF => ?_)
  exact rk_return rfl rfl ⟨_, rfl, hF⟩
theorem s79_9 {X : ai_X} {h : ai_H} {b : Nat → Nat} {n N t w l q : Nat} {c : Nat → Int32} (Tp : TP h 1 b) (hn : n ≤ 600) (hq0 : q ≤ n) (R : RDE h n 0 (-1) q) (D : DC h c) (hv : VC c N t w l) (hf : lnF N t w 9 = 0) : Mt X am_79 [.ref 2, .int (nI 9), .ref 9] h (Qv (fun h1 => CRd h h1 n (lnN b n N t w 9 c q))) := by
  obtain ⟨a0, a1, a2, a3, a4, a5, a6, a7⟩ := id hv
  obtain ⟨f1, f2, f3⟩ := lnF_k hf
  have e9 := D.at.choose_spec.choose_spec.1
  obtain ⟨gg, e2, -⟩ := id R
  rw [lnN, if_neg (by decide), if_neg (by decide), if_neg (by decide), if_neg (by decide), if_neg (by decide), if_neg (by decide)]
  refine rk_iload_n rfl rfl ?_
  refine rk_sw_out (j := 36) rfl (by decide) rfl rfl ?_
  refine rk_aload_n rfl rfl ?_
  refine rk_iload_n rfl rfl ?_
  refine rk_aload_n rfl rfl ?_
  refine rk_cv2v rfl rfl (by assumption) rfl rfl (Nat.le_of_ble_eq_true rfl) (Nat.le_of_ble_eq_true rfl) (s85 Tp hn hq0 R D (f2 (by omega)).1 a5 (f2 (by omega)).2 a6 a0 a1 (k := 9) (w := w) (by omega) f3 a2) (fun h1 hF => ?_)
  exact rk_return rfl rfl ⟨_, rfl, hF⟩
theorem s79 {X : ai_X} {h : ai_H} {b : Nat → Nat} {n N t w l q : Nat} {c : Nat → Int32} (Tp : TP h 1 b) (hn : n ≤ 600) (hq0 : q ≤ n) (R : RDE h n 0 (-1) q) (D : DC h c) (hv : VC c N t w l) {k : Nat} (hf : lnF N t w k = 0) : Mt X am_79 [.ref 2, .int (nI k), .ref 9] h (Qv (fun h1 => CRd h h1 n (lnN b n N t w k c q))) := by
  have hk := (lnF_k hf).1
  match k, hk with
  | 0, _ => exact s79_0 Tp hn hq0 R D hv hf
  | 1, _ => exact s79_1 Tp hn hq0 R D hv hf
  | 2, _ => exact s79_2 Tp hn hq0 R D hv hf
  | 3, _ => exact s79_3 Tp hn hq0 R D hv hf
  | 4, _ => exact s79_4 Tp hn hq0 R D hv hf
  | 5, _ => exact s79_5 Tp hn hq0 R D hv hf
  | 6, _ => exact s79_6 Tp hn hq0 R D hv hf
  | 7, _ => exact s79_7 Tp hn hq0 R D hv hf
  | 8, _ => exact s79_8 Tp hn hq0 R D hv hf
  | 9, _ => exact s79_9 Tp hn hq0 R D hv hf
theorem s76 {X : ai_X} {h : ai_H} {N t w l k : Nat} {c : Nat → Int32} (D : DC h c) (hv : VC c N t w l) (hk : k ≤ 10) : Mt X am_76 [.ref 2, .int (lk k), .ref 9] h (Qe (nI (lnF N t w k)) h) := by
  obtain ⟨a0, a1, a2, a3, a4, a5, a6, a7⟩ := id hv
  obtain ⟨F, g0, g1, g2, g3, g4, d9, d10, d11, d12, d13, d14, hV⟩ := id D
  have hF0 : F 0 = nI N := hV.1.trans a0
  have hF1 : F 1 = nI t := hV.2.1.trans a1
  have hF4 : F 4 = nI w := hV.2.2.2.2.1.trans a2
  by_cases h10 : k < 10
  · rw [lk, if_pos h10]
    refine rk_iload_n rfl rfl ?_
    refine rk_iconst (v := (-1)) rfl (by decide) ?_
    refine rk_icmp_ne rfl rfl (fun hc2 => ?_) (fun hc2 => ?_)
    · refine rk_iload_n rfl rfl ?_
      refine rk_if_ne rfl rfl (fun hc6 => ?_) (fun hc6 => ?_)
      · replace hc6 := mt (n0_eq (by omega)).mpr hc6
        refine rk_iload_n rfl rfl ?_
        refine rk_iconst (v := nI 1) rfl (by decide) ?_
        refine rk_icmp_ne rfl rfl (fun hc16 => ?_) (fun hc16 => ?_)
        · replace hc16 := mt (nI_eq (by omega) (by omega)).mpr hc16
          refine rk_aload_n rfl rfl ?_
          refine rk_get rfl (by assumption) rfl ?_
          rw [hF0]
          refine rk_if_eq rfl rfl (fun hc29 => ?_) (fun hc29 => ?_)
          · replace hc29 := (n0_eq (by omega)).mp hc29
            refine rk_iconst (v := nI 2) rfl (by decide) ?_
            first
              | exact rk_ireturn rfl rfl (Qe_of (congrArg nI (show 0 = lnF N t w k from by unfold lnF; (repeat' split) <;> omega)))
              | exact rk_ireturn rfl rfl (Qe_of (congrArg nI (show 2 = lnF N t w k from by unfold lnF; (repeat' split) <;> omega)))
              | exact rk_ireturn rfl rfl (Qe_of (congrArg nI (show 4 = lnF N t w k from by unfold lnF; (repeat' split) <;> omega)))
          · replace hc29 := mt (n0_eq (by omega)).mpr hc29
            refine rk_aload_n rfl rfl ?_
            refine rk_get rfl (by assumption) rfl ?_
            rw [hF1]
            refine rk_if_ne rfl rfl (fun hc32 => ?_) (fun hc32 => ?_)
            · replace hc32 := mt (n0_eq (by omega)).mpr hc32
              refine rk_iload_n rfl rfl ?_
              refine rk_bipush (v := nI 9) rfl (by decide) ?_
              refine rk_icmp_ne rfl rfl (fun hc37 => ?_) (fun hc37 => ?_)
              · replace hc37 := mt (nI_eq (by omega) (by omega)).mpr hc37
                refine rk_iconst (v := nI 0) rfl (by decide) ?_
                first
                  | exact rk_ireturn rfl rfl (Qe_of (congrArg nI (show 0 = lnF N t w k from by unfold lnF; (repeat' split) <;> omega)))
                  | exact rk_ireturn rfl rfl (Qe_of (congrArg nI (show 2 = lnF N t w k from by unfold lnF; (repeat' split) <;> omega)))
                  | exact rk_ireturn rfl rfl (Qe_of (congrArg nI (show 4 = lnF N t w k from by unfold lnF; (repeat' split) <;> omega)))
              · replace hc37 := Decidable.not_not.mp hc37
                replace hc37 := (nI_eq (by omega) (by omega)).mp hc37
                refine rk_aload_n rfl rfl ?_
                refine rk_get rfl (by assumption) rfl ?_
                rw [hF4]
                refine rk_bipush (v := nI 8) rfl (by decide) ?_
                refine rk_icmp_lt rfl rfl (fun hc41 => ?_) (fun hc41 => ?_)
                · replace hc41 := (nI_ltI (by omega) (by omega)).mp hc41
                  refine rk_iconst (v := nI 0) rfl (by decide) ?_
                  first
                    | exact rk_ireturn rfl rfl (Qe_of (congrArg nI (show 0 = lnF N t w k from by unfold lnF; (repeat' split) <;> omega)))
                    | exact rk_ireturn rfl rfl (Qe_of (congrArg nI (show 2 = lnF N t w k from by unfold lnF; (repeat' split) <;> omega)))
                    | exact rk_ireturn rfl rfl (Qe_of (congrArg nI (show 4 = lnF N t w k from by unfold lnF; (repeat' split) <;> omega)))
                · replace hc41 := mt (nI_ltI (by omega) (by omega)).mpr hc41
                  refine rk_iconst (v := nI 4) rfl (by decide) ?_
                  refine rk_goto rfl rfl ?_
                  first
                    | exact rk_ireturn rfl rfl (Qe_of (congrArg nI (show 0 = lnF N t w k from by unfold lnF; (repeat' split) <;> omega)))
                    | exact rk_ireturn rfl rfl (Qe_of (congrArg nI (show 2 = lnF N t w k from by unfold lnF; (repeat' split) <;> omega)))
                    | exact rk_ireturn rfl rfl (Qe_of (congrArg nI (show 4 = lnF N t w k from by unfold lnF; (repeat' split) <;> omega)))
            · replace hc32 := Decidable.not_not.mp hc32
              replace hc32 := (n0_eq (by omega)).mp hc32
              refine rk_iconst (v := nI 2) rfl (by decide) ?_
              first
                | exact rk_ireturn rfl rfl (Qe_of (congrArg nI (show 0 = lnF N t w k from by unfold lnF; (repeat' split) <;> omega)))
                | exact rk_ireturn rfl rfl (Qe_of (congrArg nI (show 2 = lnF N t w k from by unfold lnF; (repeat' split) <;> omega)))
                | exact rk_ireturn rfl rfl (Qe_of (congrArg nI (show 4 = lnF N t w k from by unfold lnF; (repeat' split) <;> omega)))
        · replace hc16 := Decidable.not_not.mp hc16
          replace hc16 := (nI_eq (by omega) (by omega)).mp hc16
          refine rk_aload_n rfl rfl ?_
          refine rk_get rfl (by assumption) rfl ?_
          rw [hF0]
          refine rk_if_le rfl rfl (fun hc19 => ?_) (fun hc19 => ?_)
          · replace hc19 := (n0_le (by omega)).mp hc19
            refine rk_aload_n rfl rfl ?_
            refine rk_get rfl (by assumption) rfl ?_
            rw [hF0]
            refine rk_if_eq rfl rfl (fun hc29 => ?_) (fun hc29 => ?_)
            · replace hc29 := (n0_eq (by omega)).mp hc29
              refine rk_iconst (v := nI 2) rfl (by decide) ?_
              first
                | exact rk_ireturn rfl rfl (Qe_of (congrArg nI (show 0 = lnF N t w k from by unfold lnF; (repeat' split) <;> omega)))
                | exact rk_ireturn rfl rfl (Qe_of (congrArg nI (show 2 = lnF N t w k from by unfold lnF; (repeat' split) <;> omega)))
                | exact rk_ireturn rfl rfl (Qe_of (congrArg nI (show 4 = lnF N t w k from by unfold lnF; (repeat' split) <;> omega)))
            · replace hc29 := mt (n0_eq (by omega)).mpr hc29
              refine rk_aload_n rfl rfl ?_
              refine rk_get rfl (by assumption) rfl ?_
              rw [hF1]
              refine rk_if_ne rfl rfl (fun hc32 => ?_) (fun hc32 => ?_)
              · replace hc32 := mt (n0_eq (by omega)).mpr hc32
                refine rk_iload_n rfl rfl ?_
                refine rk_bipush (v := nI 9) rfl (by decide) ?_
                refine rk_icmp_ne rfl rfl (fun hc37 => ?_) (fun hc37 => ?_)
                · replace hc37 := mt (nI_eq (by omega) (by omega)).mpr hc37
                  refine rk_iconst (v := nI 0) rfl (by decide) ?_
                  first
                    | exact rk_ireturn rfl rfl (Qe_of (congrArg nI (show 0 = lnF N t w k from by unfold lnF; (repeat' split) <;> omega)))
                    | exact rk_ireturn rfl rfl (Qe_of (congrArg nI (show 2 = lnF N t w k from by unfold lnF; (repeat' split) <;> omega)))
                    | exact rk_ireturn rfl rfl (Qe_of (congrArg nI (show 4 = lnF N t w k from by unfold lnF; (repeat' split) <;> omega)))
                · replace hc37 := Decidable.not_not.mp hc37
                  replace hc37 := (nI_eq (by omega) (by omega)).mp hc37
                  refine rk_aload_n rfl rfl ?_
                  refine rk_get rfl (by assumption) rfl ?_
                  rw [hF4]
                  refine rk_bipush (v := nI 8) rfl (by decide) ?_
                  refine rk_icmp_lt rfl rfl (fun hc41 => ?_) (fun hc41 => ?_)
                  · replace hc41 := (nI_ltI (by omega) (by omega)).mp hc41
                    refine rk_iconst (v := nI 0) rfl (by decide) ?_
                    first
                      | exact rk_ireturn rfl rfl (Qe_of (congrArg nI (show 0 = lnF N t w k from by unfold lnF; (repeat' split) <;> omega)))
                      | exact rk_ireturn rfl rfl (Qe_of (congrArg nI (show 2 = lnF N t w k from by unfold lnF; (repeat' split) <;> omega)))
                      | exact rk_ireturn rfl rfl (Qe_of (congrArg nI (show 4 = lnF N t w k from by unfold lnF; (repeat' split) <;> omega)))
                  · replace hc41 := mt (nI_ltI (by omega) (by omega)).mpr hc41
                    refine rk_iconst (v := nI 4) rfl (by decide) ?_
                    refine rk_goto rfl rfl ?_
                    first
                      | exact rk_ireturn rfl rfl (Qe_of (congrArg nI (show 0 = lnF N t w k from by unfold lnF; (repeat' split) <;> omega)))
                      | exact rk_ireturn rfl rfl (Qe_of (congrArg nI (show 2 = lnF N t w k from by unfold lnF; (repeat' split) <;> omega)))
                      | exact rk_ireturn rfl rfl (Qe_of (congrArg nI (show 4 = lnF N t w k from by unfold lnF; (repeat' split) <;> omega)))
              · replace hc32 := Decidable.not_not.mp hc32
                replace hc32 := (n0_eq (by omega)).mp hc32
                refine rk_iconst (v := nI 2) rfl (by decide) ?_
                first
                  | exact rk_ireturn rfl rfl (Qe_of (congrArg nI (show 0 = lnF N t w k from by unfold lnF; (repeat' split) <;> omega)))
                  | exact rk_ireturn rfl rfl (Qe_of (congrArg nI (show 2 = lnF N t w k from by unfold lnF; (repeat' split) <;> omega)))
                  | exact rk_ireturn rfl rfl (Qe_of (congrArg nI (show 4 = lnF N t w k from by unfold lnF; (repeat' split) <;> omega)))
          · replace hc19 := mt (n0_le (by omega)).mpr hc19
            refine rk_aload_n rfl rfl ?_
            refine rk_get rfl (by assumption) rfl ?_
            rw [hF1]
            refine rk_if_le rfl rfl (fun hc22 => ?_) (fun hc22 => ?_)
            · replace hc22 := (n0_le (by omega)).mp hc22
              refine rk_iconst (v := nI 0) rfl (by decide) ?_
              first
                | exact rk_ireturn rfl rfl (Qe_of (congrArg nI (show 0 = lnF N t w k from by unfold lnF; (repeat' split) <;> omega)))
                | exact rk_ireturn rfl rfl (Qe_of (congrArg nI (show 2 = lnF N t w k from by unfold lnF; (repeat' split) <;> omega)))
                | exact rk_ireturn rfl rfl (Qe_of (congrArg nI (show 4 = lnF N t w k from by unfold lnF; (repeat' split) <;> omega)))
            · replace hc22 := mt (n0_le (by omega)).mpr hc22
              refine rk_iconst (v := nI 4) rfl (by decide) ?_
              refine rk_goto rfl rfl ?_
              first
                | exact rk_ireturn rfl rfl (Qe_of (congrArg nI (show 0 = lnF N t w k from by unfold lnF; (repeat' split) <;> omega)))
                | exact rk_ireturn rfl rfl (Qe_of (congrArg nI (show 2 = lnF N t w k from by unfold lnF; (repeat' split) <;> omega)))
                | exact rk_ireturn rfl rfl (Qe_of (congrArg nI (show 4 = lnF N t w k from by unfold lnF; (repeat' split) <;> omega)))
      · replace hc6 := Decidable.not_not.mp hc6
        replace hc6 := (n0_eq (by omega)).mp hc6
        refine rk_aload_n rfl rfl ?_
        refine rk_get rfl (by assumption) rfl ?_
        rw [hF0]
        refine rk_if_le rfl rfl (fun hc9 => ?_) (fun hc9 => ?_)
        · replace hc9 := (n0_le (by omega)).mp hc9
          refine rk_iconst (v := nI 0) rfl (by decide) ?_
          first
            | exact rk_ireturn rfl rfl (Qe_of (congrArg nI (show 0 = lnF N t w k from by unfold lnF; (repeat' split) <;> omega)))
            | exact rk_ireturn rfl rfl (Qe_of (congrArg nI (show 2 = lnF N t w k from by unfold lnF; (repeat' split) <;> omega)))
            | exact rk_ireturn rfl rfl (Qe_of (congrArg nI (show 4 = lnF N t w k from by unfold lnF; (repeat' split) <;> omega)))
        · replace hc9 := mt (n0_le (by omega)).mpr hc9
          refine rk_iconst (v := nI 4) rfl (by decide) ?_
          refine rk_goto rfl rfl ?_
          first
            | exact rk_ireturn rfl rfl (Qe_of (congrArg nI (show 0 = lnF N t w k from by unfold lnF; (repeat' split) <;> omega)))
            | exact rk_ireturn rfl rfl (Qe_of (congrArg nI (show 2 = lnF N t w k from by unfold lnF; (repeat' split) <;> omega)))
            | exact rk_ireturn rfl rfl (Qe_of (congrArg nI (show 4 = lnF N t w k from by unfold lnF; (repeat' split) <;> omega)))
    · replace hc2 := Decidable.not_not.mp hc2
      exact absurd hc2 (nI_m1 (by omega))
  · rw [lk, if_neg h10]
    refine rk_iload_n rfl rfl ?_
    refine rk_iconst (v := (-1)) rfl (by decide) ?_
    refine rk_icmp_ne rfl rfl (fun hc2 => ?_) (fun hc2 => ?_)
    · exact absurd rfl hc2
    · replace hc2 := Decidable.not_not.mp hc2
      refine rk_iconst (v := nI 2) rfl (by decide) ?_
      first
        | exact rk_ireturn rfl rfl (Qe_of (congrArg nI (show 0 = lnF N t w k from by unfold lnF; (repeat' split) <;> omega)))
        | exact rk_ireturn rfl rfl (Qe_of (congrArg nI (show 2 = lnF N t w k from by unfold lnF; (repeat' split) <;> omega)))
        | exact rk_ireturn rfl rfl (Qe_of (congrArg nI (show 4 = lnF N t w k from by unfold lnF; (repeat' split) <;> omega)))
theorem sf_1 {b : Nat → Nat} {n p : Nat} : sf b n 1 p = if 10 < tkd b n p then (if tkd b n p = 14 then 1 else 2) else 0 := by
  unfold sf ck
  have := tkd_le (b := b) (n := n) (p := p)
  repeat' split
  all_goals omega
theorem sf_3 {b : Nat → Nat} {n p : Nat} : sf b n 3 p = if tkd b n p = 12 then 0 else (if tkd b n p = 14 then 1 else 2) := by
  unfold sf ck
  have := tkd_le (b := b) (n := n) (p := p)
  repeat' split
  all_goals omega
theorem CRd.fr {h0 h h1 : ai_H} {n : Nat} {r : RR} (F : FrC h0 h) (H : CRd h h1 n r) : CRd h0 h1 n r := ⟨F.tr H.1, H.2⟩
theorem RDE.e2 {h : ai_H} {n E : Nat} {fk fp : Int32} (H : RDE h n fk fp E) : ∃ g, h[2]? = some (cRead (.ref 1) g) ∧ g 0 = fk := by
  obtain ⟨g, a, b, -⟩ := H
  exact ⟨g, a, b⟩
theorem s75 {X : ai_X} {h : ai_H} {b : Nat → Nat} {n N t w l q : Nat} {c : Nat → Int32} (Tp : TP h 1 b) (hn : n ≤ 600) (hq : q ≤ n) (R : RDT h b n 0 (-1) q) (D : DC h c) (hv : VC c N t w l) : Mt X am_75 [.ref 2, .ref 9] h (Qv (fun h1 => CRd h h1 n (lnL b n N t w c q))) := by
  have e9 := D.at.choose_spec.choose_spec.1
  obtain ⟨gg, e2, hg0, -⟩ := id R
  have hs := sf_1 (b := b) (n := n) (p := q)
  have q1 := (te_b (b := b) hq).2.1
  refine rk_aload_n rfl rfl ?_
  refine rk_iconst (v := nI 1) rfl (by decide) ?_
  refine rk_cv1i rfl rfl (by assumption) rfl rfl (Nat.le_of_ble_eq_true rfl) (Nat.le_of_ble_eq_true rfl) (s74 (by omega) R) (fun w h1 hF => ?_)
  obtain ⟨F1, hF⟩ := hF
  have D1 := D.fr (fun q _ _ => F1.2 q (by omega))
  have Tp1 := Tp.fr (F1.2 1 (by omega))
  by_cases h10 : 10 < tkd b n q
  · rw [if_pos h10] at hs
    have hs0 : ¬ sf b n 1 q = 0 := by rw [hs]; split <;> omega
    rw [if_neg hs0] at hF
    obtain ⟨rfl, R1⟩ := hF
    refine rk_if_ne rfl rfl (fun y => absurd rfl y) (fun _ => ?_)
    exact rk_return rfl rfl ⟨_, rfl, by rw [lnL, if_pos h10, ← hs]; exact CRd.f hs0 (FrC.rfl'.t2 F1) q1 R1 D1.at⟩
  · rw [if_neg h10] at hs
    rw [if_pos hs] at hF
    obtain ⟨rfl, R1⟩ := hF
    obtain ⟨g, e3, hg0', hg1, hg3, hg4, hg5, hg6⟩ := id R1
    have e9 := D1.at.choose_spec.choose_spec.1
    rw [lnL, if_neg h10]
    refine rk_if_ne rfl rfl (fun _ => ?_) (fun y => absurd y (by decide))
    refine rk_aload_n rfl rfl ?_
    refine rk_cv0e rfl rfl (by assumption) rfl rfl (Nat.le_of_ble_eq_true rfl) (Nat.le_of_ble_eq_true rfl) (s77 Tp1 hn hq (by omega) R1) ?_
    refine rk_istore_n rfl (Nat.le_of_ble_eq_true rfl) rfl ?_
    refine rk_aload_n rfl rfl ?_
    refine rk_iload_n rfl rfl ?_
    refine rk_aload_n rfl rfl ?_
    refine rk_cv2e rfl rfl (by assumption) rfl rfl (Nat.le_of_ble_eq_true rfl) (Nat.le_of_ble_eq_true rfl) (s76 D1 hv (by omega)) ?_
    refine rk_istore_n rfl (Nat.le_of_ble_eq_true rfl) rfl ?_
    have hf6 : lnF N t w (tkd b n q) ≤ 4 := by
      unfold lnF
      repeat' split
      all_goals omega
    refine rk_iload_n rfl rfl ?_
    refine rk_if_eq rfl rfl (fun hc14 => ?_) (fun hc14 => ?_)
    · replace hc14 := (n0_eq (by omega)).mp hc14
      rw [if_neg (fun y => y hc14)]
      rw [show lk (tkd b n q) = nI (tkd b n q) from if_pos (lnF_k hc14).1]
      refine rk_aload_n rfl rfl ?_
      refine rk_iload_n rfl rfl ?_
      refine rk_aload_n rfl rfl ?_
      refine rk_cv2v rfl rfl (by assumption) rfl rfl (Nat.le_of_ble_eq_true rfl) (Nat.le_of_ble_eq_true rfl) (s79 Tp1 hn q1 R1.e D1 hv hc14) (fun h1 hF => ?_)
      have hval := lnN_v (b := b) hc14 q1 hv
      rw [RR.bd]
      generalize lnN b n N t w (tkd b n q) c (te b n q) = rr at hF hval ⊢
      obtain ⟨F2, ⟨k0, R2, D2⟩ | ⟨k0, E, hE, R2, H2⟩⟩ := hF
      · rw [if_pos k0]
        obtain ⟨-, p2⟩ := hval
        obtain ⟨p3, p4, N1, t1, w1, hv1⟩ := p2 k0
        have Tp2 := Tp1.fr (F2.2 1 (by omega) (by omega))
        obtain ⟨g6, e6, h60⟩ := R2.e2
        have FC := (FrC.rfl'.t2 F1).tr F2
        refine rk_aload_n rfl rfl ?_
        refine rk_get rfl (by assumption) rfl ?_
        rw [h60]
        refine rk_if_ne rfl rfl (fun y => absurd rfl y) (fun _ => ?_)
        refine rk_aload_n rfl rfl ?_
        refine rk_cv0v rfl rfl (by assumption) rfl rfl (Nat.le_of_ble_eq_true rfl) (Nat.le_of_ble_eq_true rfl) (s71 Tp2 hn p4 R2) (fun h1 hF => ?_)
        obtain ⟨F4, R4⟩ := hF
        have D4 := D2.fr (fun q _ _ => F4.2 q (by omega))
        obtain ⟨g7, e7, -⟩ := id R4
        refine rk_aload_n rfl rfl ?_
        refine rk_iconst (v := nI 3) rfl (by decide) ?_
        refine rk_cv1i rfl rfl (by assumption) rfl rfl (Nat.le_of_ble_eq_true rfl) (Nat.le_of_ble_eq_true rfl) (s74 (by omega) R4) (fun w h1 hF => ?_)
        obtain ⟨F5, hF⟩ := hF
        have D5 := D4.fr (fun q _ _ => F5.2 q (by omega))
        have q5 := (te_b (b := b) p4).2.1
        have hs3 := sf_3 (b := b) (n := n) (p := rr.q)
        rw [semi]
        by_cases h12 : tkd b n rr.q = 12
        · rw [if_pos h12] at hs3 ⊢
          rw [if_pos hs3] at hF
          obtain ⟨rfl, R5⟩ := hF
          obtain ⟨F, g0, g1, g2, g3, g4, d9, d10, d11, d12, d13, d14, hV⟩ := id D5
          have hF2 := hV.2.2.1
          refine rk_if_eq rfl rfl (fun y => absurd y (by decide)) (fun _ => ?_)
          refine rk_aload_n rfl rfl ?_
          refine rk_dup_a rfl ?_
          refine rk_get rfl (by assumption) rfl ?_
          rw [hF2]
          refine rk_iconst (v := nI 1) rfl (by decide) ?_
          refine rk_iadd rfl rfl ?_
          obtain ⟨F, g0, g1, g2, g3, g4, d9, d10, d11, d12, d13, d14, hV⟩ := id D5
          refine rk_putH rfl d9 (by omega) (fun h1 e9 hk1 hl1 => ?_)
          have D6 := (show DC h1 _ from ⟨_, _, _, _, _, _, e9, (hk1 _ (by omega)).trans d10, (hk1 _ (by omega)).trans d11, (hk1 _ (by omega)).trans d12, (hk1 _ (by omega)).trans d13, (hk1 _ (by omega)).trans d14, hV.f' (f := 2) (by omega)⟩)
          exact rk_return rfl rfl ⟨_, rfl, CRd.ok (((FC.t2 F4).t2 F5).t9 (Fr.mk1 hk1 hl1 (by omega) (by omega))) (R5.e.fr (hk1 2 (by omega))) D6⟩
        · rw [if_neg h12] at hs3 ⊢
          have hs0 : ¬ sf b n 3 rr.q = 0 := by rw [hs3]; split <;> omega
          rw [if_neg hs0] at hF
          obtain ⟨rfl, R5⟩ := hF
          refine rk_if_eq rfl rfl (fun _ => ?_) (fun y => absurd rfl y)
          exact rk_return rfl rfl ⟨_, rfl, by rw [← hs3]; exact CRd.f hs0 ((FC.t2 F4).t2 F5) q5 R5 D5.at⟩
      · rw [if_neg k0]
        obtain ⟨g6, e6, h60⟩ := R2.e2
        have hf0 : ¬ g6 0 = 0 := fun y => k0 ((n0_eq (by have := hval.1; omega)).mp (h60.symm.trans y))
        refine rk_aload_n rfl rfl ?_
        refine rk_get rfl (by assumption) rfl ?_
        refine rk_if_ne rfl rfl (fun hc27 => ?_) (fun hc27 => ?_)
        · exact rk_return rfl rfl ⟨_, rfl, CRd.fr (FrC.rfl'.t2 F1) ⟨F2, Or.inr ⟨k0, E, hE, R2, H2⟩⟩⟩
        · replace hc27 := Decidable.not_not.mp hc27
          exact absurd hc27 hf0
    · replace hc14 := mt (n0_eq (by omega)).mpr hc14
      rw [if_pos hc14]
      refine rk_aload_n rfl rfl ?_
      refine rk_iload_n rfl rfl ?_
      refine rk_aload_n rfl rfl ?_
      refine rk_get rfl (by assumption) rfl ?_
      rw [hg5]
      refine rk_cv2v rfl rfl (by assumption) rfl rfl (Nat.le_of_ble_eq_true rfl) (Nat.le_of_ble_eq_true rfl) (s70 e3 hg0') (fun h1 hF => ?_)
      obtain ⟨F3, g5, e5, w0, w1, wo⟩ := hF
      exact rk_return rfl rfl ⟨_, rfl, CRd.f hc14 ((FrC.rfl'.t2 F1).t2 F3) q1 ⟨g5, e5, w0, w1, (wo 3 (by omega) (by omega)).trans hg3, (wo 6 (by omega) (by omega)).trans hg6⟩ (D1.fr (fun q _ _ => F3.2 q (by omega))).at⟩
