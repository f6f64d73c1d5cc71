/-! HOUSE: the model's lines, second part -/
theorem s200 {X : ai_X} {h : ai_H} {b : Nat → Nat} {n N t q : Nat} {v f c : Nat → Int32} (c0 : h[52]? = some (cMdl v)) (Tp : TP h 55 b) (hn : n ≤ 600) (v8 : v 8 = nI n) (y0 : v 11 = 0) (T0 : MDT v b n q) (hq0 : q ≤ n) (e56 : h[56]? = some (cI 281 f)) (hf : MCr f c) (hN : N ≤ 14) (ht : t ≤ 6) (k0 : c 0 = nI N) (k1 : c 1 = nI t) (hN0 : 1 ≤ N) (ht0 : 1 ≤ t) (hy : ∀ r i, r < N → i < t → ∃ y, y < N ∧ c (2 + (6 * r + i)) = nI y) : Mt X am_200 [.ref 52] h (Qv (fun h1 => MSd h h1 v b n (num b n 0 (N - 1) q (fun r q => num b n 0 (t - 1) q (fun i q => num b n 0 (N - 1) q (fun x q' => if c (2 + (6 * r + i)) = nI x then fR 3 (ts b n q) else num b n 1 99 q' (fun y q'' => okR (c2 c (6 * r + i) x y) q''))))))) := by
  have P0 : MPd v v := MPd.rfl'
  have FW : FrWd h h := FrWd.rfl'
  have f0 : f 0 = nI N := (hf 0 (by omega) (Or.inr (by omega))).trans k0
  have f1 : f 1 = nI t := (hf 1 (by omega) (Or.inr (by omega))).trans k1
  refine rk_aload_n rfl rfl ?_
  refine rk_cv0i rfl rfl (by assumption) rfl rfl (Nat.le_of_ble_eq_true rfl) (Nat.le_of_ble_eq_true rfl) (s194 c0 Tp hn (P0.e8 v8) y0 T0 (by assumption) e56 f0 (by omega) (by omega)) (fun w h1 hF => ?_)
  obtain ⟨F1, w1, c1, Q1, hF⟩ := hF
  have P1 := P0.tr Q1
  replace FW := FW.t52 F1
  replace e56 := (F1.2 56 (by omega)).trans e56
  replace Tp := Tp.fr (F1.2 55 (by omega))
  have hq : q ≤ n := by assumption
  have hqq := (te_b (b := b) hq).2.1
  rcases hF with ⟨z1, rfl, y1, T1⟩ | ⟨z1, y1, x1⟩
  · obtain ⟨b1, d1⟩ := nf_b z1
    refine rk_istore_n rfl (Nat.le_of_ble_eq_true rfl) rfl ?_
    refine rk_aload_n rfl rfl ?_
    refine rk_cv0i rfl rfl (by assumption) rfl rfl (Nat.le_of_ble_eq_true rfl) (Nat.le_of_ble_eq_true rfl) (s195 c1 Tp hn (P1.e8 v8) y1 T1 (by assumption) e56 f1 (by omega) (by omega)) (fun w h1 hF => ?_)
    obtain ⟨F1, w2, c2, Q1, hF⟩ := hF
    have P2 := P1.tr Q1
    replace FW := FW.t52 F1
    replace e56 := (F1.2 56 (by omega)).trans e56
    replace Tp := Tp.fr (F1.2 55 (by omega))
    have hq : (te b n q) ≤ n := by assumption
    have hqq := (te_b (b := b) hq).2.1
    rcases hF with ⟨z2, rfl, y2, T2⟩ | ⟨z2, y2, x2⟩
    · obtain ⟨b2, d2⟩ := nf_b z2
      obtain ⟨yd, hyd1, hyd⟩ := hy (tv b n q) (tv b n (te b n q)) (by omega) (by omega)
      have hfd : f (2 + (6 * tv b n q + tv b n (te b n q))) = c (2 + (6 * tv b n q + tv b n (te b n q))) := hf _ (by omega) (Or.inl (by rw [k1]; exact fun y => by have := (n0_eq (by omega)).mp y; omega))
      refine rk_istore_n rfl (Nat.le_of_ble_eq_true rfl) rfl ?_
      refine rk_aload_n rfl rfl ?_
      refine rk_bipush (v := nI 11) rfl (by decide) ?_
      refine rk_cv1e rfl rfl (by assumption) rfl rfl (Nat.le_of_ble_eq_true rfl) (Nat.le_of_ble_eq_true rfl) (s190 c2 y2 T2.2.2.1 tkd_le (kk := 11) (by omega)) ?_
      refine rk_if_eq rfl rfl (fun hc9 => ?_) (fun hc9 => ?_)
      · replace hc9 := (bI_0).mp hc9
        refine rk_aload_n rfl rfl ?_
        refine rk_cv0i rfl rfl (by assumption) rfl rfl (Nat.le_of_ble_eq_true rfl) (Nat.le_of_ble_eq_true rfl) (s194 c2 Tp hn (P2.e8 v8) y2 T2 (by assumption) e56 f0 (by omega) (by omega)) (fun w h1 hF => ?_)
        obtain ⟨F1, w3, c3, Q1, hF⟩ := hF
        have P3 := P2.tr Q1
        replace FW := FW.t52 F1
        replace e56 := (F1.2 56 (by omega)).trans e56
        replace Tp := Tp.fr (F1.2 55 (by omega))
        have hq : (te b n (te b n q)) ≤ n := by assumption
        have hqq := (te_b (b := b) hq).2.1
        rcases hF with ⟨z3, rfl, y3, T3⟩ | ⟨z3, y3, x3⟩
        · obtain ⟨b3, d3⟩ := nf_b z3
          have hne : ¬ c (2 + (6 * tv b n q + tv b n (te b n q))) = nI (tv b n (te b n (te b n q))) := by
            first
              | exact fun y => hc20 y.symm
              | exact absurd (nf_0.mp z3).1 hc9
          refine rk_istore_n rfl (Nat.le_of_ble_eq_true rfl) rfl ?_
          refine rk_aload_n rfl rfl ?_
          refine rk_iconst (v := nI 1) rfl (by decide) ?_
          refine rk_bipush (v := nI 99) rfl (by decide) ?_
          refine rk_cv2i rfl rfl (by assumption) rfl rfl (Nat.le_of_ble_eq_true rfl) (Nat.le_of_ble_eq_true rfl) (s193 c3 Tp hn (P3.e8 v8) y3 T3 (by assumption) (lo := 1) (hi := 99) (by omega) (by omega)) (fun w h1 hF => ?_)
          obtain ⟨F1, w4, c4, Q1, hF⟩ := hF
          have P4 := P3.tr Q1
          replace FW := FW.t52 F1
          replace e56 := (F1.2 56 (by omega)).trans e56
          replace Tp := Tp.fr (F1.2 55 (by omega))
          have hq : (te b n (te b n (te b n q))) ≤ n := by assumption
          have hqq := (te_b (b := b) hq).2.1
          rcases hF with ⟨z4, rfl, y4, T4⟩ | ⟨z4, y4, x4⟩
          · obtain ⟨b4, d4⟩ := nf_b z4
            refine rk_istore rfl (Nat.le_of_ble_eq_true rfl) rfl ?_
            refine rk_aload_n rfl rfl ?_
            refine rk_get rfl (by assumption) rfl ?_
            rw [y4]
            refine rk_if_eq rfl rfl (fun _ => ?_) (fun y => absurd rfl y)
            refine rk_aload_n rfl rfl ?_
            refine rk_get rfl (by assumption) rfl ?_
            refine rk_bipush (v := nI 86) rfl (by decide) ?_
            refine rk_iload_n rfl rfl ?_
            refine rk_iload_n rfl rfl ?_
            refine rk_cs2e rfl rfl rfl (Nat.le_of_ble_eq_true rfl) (Nat.le_of_ble_eq_true rfl) (s196) ?_
            refine rk_iadd rfl (nI_add _ _) ?_
            refine rk_iload_n rfl rfl ?_
            refine rk_iast rfl e56 (rfl) (by omega) (by decide) ?_
            refine hp_gen e56 (fun h1 g1 hk1 hl1 => ?_)
            replace c4 := (hk1 _ (by omega)).trans c4
            replace FW := FW.t56 hk1 hl1
            replace Tp := Tp.fr (hk1 55 (by omega))
            replace e56 := g1
            refine rk_aload_n rfl rfl ?_
            refine rk_get rfl (by assumption) rfl ?_
            refine rk_sipush (v := nI 170) rfl (by decide) ?_
            refine rk_iload_n rfl rfl ?_
            refine rk_iload_n rfl rfl ?_
            refine rk_cs2e rfl rfl rfl (Nat.le_of_ble_eq_true rfl) (Nat.le_of_ble_eq_true rfl) (s196) ?_
            refine rk_iadd rfl (nI_add _ _) ?_
            refine rk_iload rfl rfl ?_
            refine rk_iast rfl e56 (rfl) (by omega) (by decide) ?_
            refine hp_gen e56 (fun h1 g1 hk1 hl1 => ?_)
            replace c4 := (hk1 _ (by omega)).trans c4
            replace FW := FW.t56 hk1 hl1
            replace Tp := Tp.fr (hk1 55 (by omega))
            replace e56 := g1
            exact rk_return rfl rfl ⟨_, rfl, by rw [num_y z1, num_y z2, num_y z3, if_neg hne, num_y z4]; exact MSd.ok FW c4 P4 e56 y4 T4 hf.c2'⟩
          · have hf0 : ¬ w4 11 = 0 := fun y => nf_i z4 (y4.symm.trans y)
            refine rk_istore rfl (Nat.le_of_ble_eq_true rfl) rfl ?_
            refine rk_aload_n rfl rfl ?_
            refine rk_get rfl (by assumption) rfl ?_
            refine rk_if_eq rfl rfl (fun hc34 => ?_) (fun hc34 => ?_)
            · exact absurd hc34 hf0
            · exact rk_return rfl rfl ⟨_, rfl, by rw [num_y z1, num_y z2, num_y z3, if_neg hne, num_n z4]; exact MSd.f FW c4 P4 e56 z4 y4 x4⟩
        · have hf0 : ¬ w3 11 = 0 := fun y => nf_i z3 (y3.symm.trans y)
          refine rk_istore_n rfl (Nat.le_of_ble_eq_true rfl) rfl ?_
          refine rk_aload_n rfl rfl ?_
          refine rk_iconst (v := nI 1) rfl (by decide) ?_
          refine rk_bipush (v := nI 99) rfl (by decide) ?_
          refine rk_cv2e rfl rfl (by assumption) rfl rfl (Nat.le_of_ble_eq_true rfl) (Nat.le_of_ble_eq_true rfl) (s193F c3 hf0) ?_
          refine rk_istore rfl (Nat.le_of_ble_eq_true rfl) rfl ?_
          refine rk_aload_n rfl rfl ?_
          refine rk_get rfl (by assumption) rfl ?_
          refine rk_if_eq rfl rfl (fun hc34 => ?_) (fun hc34 => ?_)
          · exact absurd hc34 hf0
          · exact rk_return rfl rfl ⟨_, rfl, by rw [num_y z1, num_y z2, num_n z3]; exact MSd.f FW c3 P3 e56 z3 y3 x3⟩
      · replace hc9 := Decidable.not_not.mp (mt bI_0.mpr hc9)
        have hl1 := tkd_11 hqq hc9
        have htv : tv b n (te b n (te b n q)) < 1000 := by
          have := nval_lt (b := b) (s := ts b n (te b n (te b n q))) (te b n (te b n (te b n q)) - ts b n (te b n (te b n q))) (fun j hj => hl1.2 _ (by omega) (by omega))
          have := p10 hl1.1
          unfold tv
          omega
        refine rk_aload_n rfl rfl ?_
        refine rk_get rfl (by assumption) rfl ?_
        rw [T2.2.2.2 hc9]
        refine rk_aload_n rfl rfl ?_
        refine rk_get rfl (by assumption) rfl ?_
        refine rk_iconst (v := nI 2) rfl (by decide) ?_
        refine rk_iload_n rfl rfl ?_
        refine rk_iload_n rfl rfl ?_
        refine rk_cs2e rfl rfl rfl (Nat.le_of_ble_eq_true rfl) (Nat.le_of_ble_eq_true rfl) (s196) ?_
        refine rk_iadd rfl (nI_add _ _) ?_
        refine rk_iald rfl (by assumption) (rfl) (by omega) (by decide) ?_
        rw [hfd]
        refine rk_icmp_ne rfl rfl (fun hc20 => ?_) (fun hc20 => ?_)
        · refine rk_aload_n rfl rfl ?_
          refine rk_cv0i rfl rfl (by assumption) rfl rfl (Nat.le_of_ble_eq_true rfl) (Nat.le_of_ble_eq_true rfl) (s194 c2 Tp hn (P2.e8 v8) y2 T2 (by assumption) e56 f0 (by omega) (by omega)) (fun w h1 hF => ?_)
          obtain ⟨F1, w3, c3, Q1, hF⟩ := hF
          have P3 := P2.tr Q1
          replace FW := FW.t52 F1
          replace e56 := (F1.2 56 (by omega)).trans e56
          replace Tp := Tp.fr (F1.2 55 (by omega))
          have hq : (te b n (te b n q)) ≤ n := by assumption
          have hqq := (te_b (b := b) hq).2.1
          rcases hF with ⟨z3, rfl, y3, T3⟩ | ⟨z3, y3, x3⟩
          · obtain ⟨b3, d3⟩ := nf_b z3
            have hne : ¬ c (2 + (6 * tv b n q + tv b n (te b n q))) = nI (tv b n (te b n (te b n q))) := by
              first
                | exact fun y => hc20 y.symm
                | exact absurd (nf_0.mp z3).1 hc9
            refine rk_istore_n rfl (Nat.le_of_ble_eq_true rfl) rfl ?_
            refine rk_aload_n rfl rfl ?_
            refine rk_iconst (v := nI 1) rfl (by decide) ?_
            refine rk_bipush (v := nI 99) rfl (by decide) ?_
            refine rk_cv2i rfl rfl (by assumption) rfl rfl (Nat.le_of_ble_eq_true rfl) (Nat.le_of_ble_eq_true rfl) (s193 c3 Tp hn (P3.e8 v8) y3 T3 (by assumption) (lo := 1) (hi := 99) (by omega) (by omega)) (fun w h1 hF => ?_)
            obtain ⟨F1, w4, c4, Q1, hF⟩ := hF
            have P4 := P3.tr Q1
            replace FW := FW.t52 F1
            replace e56 := (F1.2 56 (by omega)).trans e56
            replace Tp := Tp.fr (F1.2 55 (by omega))
            have hq : (te b n (te b n (te b n q))) ≤ n := by assumption
            have hqq := (te_b (b := b) hq).2.1
            rcases hF with ⟨z4, rfl, y4, T4⟩ | ⟨z4, y4, x4⟩
            · obtain ⟨b4, d4⟩ := nf_b z4
              refine rk_istore rfl (Nat.le_of_ble_eq_true rfl) rfl ?_
              refine rk_aload_n rfl rfl ?_
              refine rk_get rfl (by assumption) rfl ?_
              rw [y4]
              refine rk_if_eq rfl rfl (fun _ => ?_) (fun y => absurd rfl y)
              refine rk_aload_n rfl rfl ?_
              refine rk_get rfl (by assumption) rfl ?_
              refine rk_bipush (v := nI 86) rfl (by decide) ?_
              refine rk_iload_n rfl rfl ?_
              refine rk_iload_n rfl rfl ?_
              refine rk_cs2e rfl rfl rfl (Nat.le_of_ble_eq_true rfl) (Nat.le_of_ble_eq_true rfl) (s196) ?_
              refine rk_iadd rfl (nI_add _ _) ?_
              refine rk_iload_n rfl rfl ?_
              refine rk_iast rfl e56 (rfl) (by omega) (by decide) ?_
              refine hp_gen e56 (fun h1 g1 hk1 hl1 => ?_)
              replace c4 := (hk1 _ (by omega)).trans c4
              replace FW := FW.t56 hk1 hl1
              replace Tp := Tp.fr (hk1 55 (by omega))
              replace e56 := g1
              refine rk_aload_n rfl rfl ?_
              refine rk_get rfl (by assumption) rfl ?_
              refine rk_sipush (v := nI 170) rfl (by decide) ?_
              refine rk_iload_n rfl rfl ?_
              refine rk_iload_n rfl rfl ?_
              refine rk_cs2e rfl rfl rfl (Nat.le_of_ble_eq_true rfl) (Nat.le_of_ble_eq_true rfl) (s196) ?_
              refine rk_iadd rfl (nI_add _ _) ?_
              refine rk_iload rfl rfl ?_
              refine rk_iast rfl e56 (rfl) (by omega) (by decide) ?_
              refine hp_gen e56 (fun h1 g1 hk1 hl1 => ?_)
              replace c4 := (hk1 _ (by omega)).trans c4
              replace FW := FW.t56 hk1 hl1
              replace Tp := Tp.fr (hk1 55 (by omega))
              replace e56 := g1
              exact rk_return rfl rfl ⟨_, rfl, by rw [num_y z1, num_y z2, num_y z3, if_neg hne, num_y z4]; exact MSd.ok FW c4 P4 e56 y4 T4 hf.c2'⟩
            · have hf0 : ¬ w4 11 = 0 := fun y => nf_i z4 (y4.symm.trans y)
              refine rk_istore rfl (Nat.le_of_ble_eq_true rfl) rfl ?_
              refine rk_aload_n rfl rfl ?_
              refine rk_get rfl (by assumption) rfl ?_
              refine rk_if_eq rfl rfl (fun hc34 => ?_) (fun hc34 => ?_)
              · exact absurd hc34 hf0
              · exact rk_return rfl rfl ⟨_, rfl, by rw [num_y z1, num_y z2, num_y z3, if_neg hne, num_n z4]; exact MSd.f FW c4 P4 e56 z4 y4 x4⟩
          · have hf0 : ¬ w3 11 = 0 := fun y => nf_i z3 (y3.symm.trans y)
            refine rk_istore_n rfl (Nat.le_of_ble_eq_true rfl) rfl ?_
            refine rk_aload_n rfl rfl ?_
            refine rk_iconst (v := nI 1) rfl (by decide) ?_
            refine rk_bipush (v := nI 99) rfl (by decide) ?_
            refine rk_cv2e rfl rfl (by assumption) rfl rfl (Nat.le_of_ble_eq_true rfl) (Nat.le_of_ble_eq_true rfl) (s193F c3 hf0) ?_
            refine rk_istore rfl (Nat.le_of_ble_eq_true rfl) rfl ?_
            refine rk_aload_n rfl rfl ?_
            refine rk_get rfl (by assumption) rfl ?_
            refine rk_if_eq rfl rfl (fun hc34 => ?_) (fun hc34 => ?_)
            · exact absurd hc34 hf0
            · exact rk_return rfl rfl ⟨_, rfl, by rw [num_y z1, num_y z2, num_n z3]; exact MSd.f FW c3 P3 e56 z3 y3 x3⟩
        · replace hc20 := Decidable.not_not.mp hc20
          refine rk_aload_n rfl rfl ?_
          refine rk_iconst (v := nI 3) rfl (by decide) ?_
          refine rk_cv1v rfl rfl (by assumption) rfl rfl (Nat.le_of_ble_eq_true rfl) (Nat.le_of_ble_eq_true rfl) (s189 c2 y2) (fun h1 hF => ?_)
          obtain ⟨F3, w3, c3', u1, u2, wo⟩ := hF
          have h14 : ¬ tkd b n (te b n (te b n q)) = 14 := by omega
          rw [T2.k, if_neg h14] at u1
          have hf0 : ¬ w3 11 = 0 := fun y => absurd (u1.symm.trans y) (by decide)
          have y3 := (nI_eq (by omega) (by omega)).mp (hc20.trans hyd)
          have z3 : nf b n 0 (N - 1) (te b n (te b n q)) = 0 := nf_0.mpr ⟨hc9, by omega, by omega⟩
          replace e56 := (F3.2 56 (by omega)).trans e56
          replace FW := FW.t52 F3
          refine rk_aload_n rfl rfl ?_
          refine rk_cv0e rfl rfl (by assumption) rfl rfl (Nat.le_of_ble_eq_true rfl) (Nat.le_of_ble_eq_true rfl) (s194F c3' hf0 e56) ?_
          refine rk_istore_n rfl (Nat.le_of_ble_eq_true rfl) rfl ?_
          refine rk_aload_n rfl rfl ?_
          refine rk_iconst (v := nI 1) rfl (by decide) ?_
          refine rk_bipush (v := nI 99) rfl (by decide) ?_
          refine rk_cv2e rfl rfl (by assumption) rfl rfl (Nat.le_of_ble_eq_true rfl) (Nat.le_of_ble_eq_true rfl) (s193F c3' hf0) ?_
          refine rk_istore rfl (Nat.le_of_ble_eq_true rfl) rfl ?_
          refine rk_aload_n rfl rfl ?_
          refine rk_get rfl (by assumption) rfl ?_
          refine rk_if_eq rfl rfl (fun hc34 => ?_) (fun hc34 => ?_)
          · exact absurd hc34 hf0
          · exact rk_return rfl rfl ⟨_, rfl, by rw [num_y z1, num_y z2, num_y z3, if_pos hc20.symm]; exact MSd.f FW c3' (P2.tr (mp11 wo)) e56 (by decide) u1 (u2.trans T2.1)⟩
    · have hf0 : ¬ w2 11 = 0 := fun y => nf_i z2 (y2.symm.trans y)
      refine rk_istore_n rfl (Nat.le_of_ble_eq_true rfl) rfl ?_
      refine rk_aload_n rfl rfl ?_
      refine rk_bipush (v := nI 11) rfl (by decide) ?_
      refine rk_cv1e rfl rfl (by assumption) rfl rfl (Nat.le_of_ble_eq_true rfl) (Nat.le_of_ble_eq_true rfl) (s190F c2 hf0) ?_
      refine rk_if_eq rfl rfl (fun _ => ?_) (fun y => absurd rfl y)
      refine rk_aload_n rfl rfl ?_
      refine rk_cv0e rfl rfl (by assumption) rfl rfl (Nat.le_of_ble_eq_true rfl) (Nat.le_of_ble_eq_true rfl) (s194F c2 hf0 e56) ?_
      refine rk_istore_n rfl (Nat.le_of_ble_eq_true rfl) rfl ?_
      refine rk_aload_n rfl rfl ?_
      refine rk_iconst (v := nI 1) rfl (by decide) ?_
      refine rk_bipush (v := nI 99) rfl (by decide) ?_
      refine rk_cv2e rfl rfl (by assumption) rfl rfl (Nat.le_of_ble_eq_true rfl) (Nat.le_of_ble_eq_true rfl) (s193F c2 hf0) ?_
      refine rk_istore rfl (Nat.le_of_ble_eq_true rfl) rfl ?_
      refine rk_aload_n rfl rfl ?_
      refine rk_get rfl (by assumption) rfl ?_
      refine rk_if_eq rfl rfl (fun hc34 => ?_) (fun hc34 => ?_)
      · exact absurd hc34 hf0
      · exact rk_return rfl rfl ⟨_, rfl, by rw [num_y z1, num_n z2]; exact MSd.f FW c2 P2 e56 z2 y2 x2⟩
  · have hf0 : ¬ w1 11 = 0 := fun y => nf_i z1 (y1.symm.trans y)
    refine rk_istore_n rfl (Nat.le_of_ble_eq_true rfl) rfl ?_
    refine rk_aload_n rfl rfl ?_
    refine rk_cv0e rfl rfl (by assumption) rfl rfl (Nat.le_of_ble_eq_true rfl) (Nat.le_of_ble_eq_true rfl) (s195F c1 hf0 e56) ?_
    refine rk_istore_n rfl (Nat.le_of_ble_eq_true rfl) rfl ?_
    refine rk_aload_n rfl rfl ?_
    refine rk_bipush (v := nI 11) rfl (by decide) ?_
    refine rk_cv1e rfl rfl (by assumption) rfl rfl (Nat.le_of_ble_eq_true rfl) (Nat.le_of_ble_eq_true rfl) (s190F c1 hf0) ?_
    refine rk_if_eq rfl rfl (fun _ => ?_) (fun y => absurd rfl y)
    refine rk_aload_n rfl rfl ?_
    refine rk_cv0e rfl rfl (by assumption) rfl rfl (Nat.le_of_ble_eq_true rfl) (Nat.le_of_ble_eq_true rfl) (s194F c1 hf0 e56) ?_
    refine rk_istore_n rfl (Nat.le_of_ble_eq_true rfl) rfl ?_
    refine rk_aload_n rfl rfl ?_
    refine rk_iconst (v := nI 1) rfl (by decide) ?_
    refine rk_bipush (v := nI 99) rfl (by decide) ?_
    refine rk_cv2e rfl rfl (by assumption) rfl rfl (Nat.le_of_ble_eq_true rfl) (Nat.le_of_ble_eq_true rfl) (s193F c1 hf0) ?_
    refine rk_istore rfl (Nat.le_of_ble_eq_true rfl) rfl ?_
    refine rk_aload_n rfl rfl ?_
    refine rk_get rfl (by assumption) rfl ?_
    refine rk_if_eq rfl rfl (fun hc34 => ?_) (fun hc34 => ?_)
    · exact absurd hc34 hf0
    · exact rk_return rfl rfl ⟨_, rfl, by rw [num_n z1]; exact MSd.f FW c1 P1 e56 z1 y1 x1⟩
theorem s197 {X : ai_X} {h : ai_H} {b : Nat → Nat} {n N t q : Nat} {v f c : Nat → Int32} (c0 : h[52]? = some (cMdl v)) (Tp : TP h 55 b) (hn : n ≤ 600) (v8 : v 8 = nI n) (y0 : v 11 = 0) (T0 : MDT v b n q) (hq0 : q ≤ n) (e56 : h[56]? = some (cI 281 f)) (hf : MCr f c) (hN : N ≤ 14) (ht : t ≤ 6) (k0 : c 0 = nI N) (k1 : c 1 = nI t) (h14 : ¬ tkd b n q = 14) : Mt X am_197 [.ref 52] h (Qv (fun h1 => MSd h h1 v b n (if 0 < N then fR 4 (ts b n q) else num b n 2 14 (te b n q) (fun x q => okR (upd c 0 (nI x)) q)))) := by
  have P0 : MPd v v := MPd.rfl'
  have FW : FrWd h h := FrWd.rfl'
  have f0 : f 0 = nI N := (hf 0 (by omega) (Or.inr (by omega))).trans k0
  have f1 : f 1 = nI t := (hf 1 (by omega) (Or.inr (by omega))).trans k1
  refine rk_aload_n rfl rfl ?_
  refine rk_get rfl (by assumption) rfl ?_
  refine rk_iconst (v := nI 0) rfl (by decide) ?_
  refine rk_iald rfl (by assumption) (rfl) (by omega) (by decide) ?_
  rw [f0]
  refine rk_if_le rfl rfl (fun hc4 => ?_) (fun hc4 => ?_)
  · replace hc4 := (n0_le (by omega)).mp hc4
    first
      | (refine rk_aload_n rfl rfl ?_
         refine rk_get rfl (by assumption) rfl ?_
         refine rk_if_eq rfl rfl (fun hc10 => ?_) (fun hc10 => ?_)
         · exact absurd hc10 hf0
         · exact rk_return rfl rfl ⟨_, rfl, by rw [if_pos (by omega)]; exact MSd.f (FW.t52 F3) c3' (mp11 wo) ((F3.2 56 (by omega)).trans e56) (by decide) u1 (u2.trans T0.1)⟩)
      | (refine rk_aload_n rfl rfl ?_
         refine rk_get rfl (by assumption) rfl ?_
         rw [y0]
         refine rk_if_eq rfl rfl (fun _ => ?_) (fun y => absurd rfl y)
         refine rk_aload_n rfl rfl ?_
         refine rk_cv0v rfl rfl (by assumption) rfl rfl (Nat.le_of_ble_eq_true rfl) (Nat.le_of_ble_eq_true rfl) (s188 c0 Tp hn v8 (te_b hq0).2.1 T0.2.1) (fun h1 hF => ?_)
         obtain ⟨F1, w1, c1, T1, Q1⟩ := hF
         have P1 := P0.tr Q1.p
         have y1 := (Q1 11 (by omega) (by omega) (by omega) (by omega)).trans y0
         replace FW := FW.t52 F1
         replace e56 := (F1.2 56 (by omega)).trans e56
         replace Tp := Tp.fr (F1.2 55 (by omega))
         have hq1 := (te_b (b := b) hq0).2.1
         refine rk_aload_n rfl rfl ?_
         refine rk_get rfl (by assumption) rfl ?_
         refine rk_iconst (v := nI 0) rfl (by decide) ?_
         refine rk_aload_n rfl rfl ?_
         refine rk_iconst (v := nI 2) rfl (by decide) ?_
         refine rk_bipush (v := nI 14) rfl (by decide) ?_
         refine rk_cv2i rfl rfl (by assumption) rfl rfl (Nat.le_of_ble_eq_true rfl) (Nat.le_of_ble_eq_true rfl) (s193 c1 Tp hn (P1.e8 v8) y1 T1 hq1 (lo := 2) (hi := 14) (by omega) (by omega)) (fun w h1 hF => ?_)
         obtain ⟨F1, w2, c2, Q1, hF⟩ := hF
         have P2 := P1.tr Q1
         replace FW := FW.t52 F1
         replace e56 := (F1.2 56 (by omega)).trans e56
         replace Tp := Tp.fr (F1.2 55 (by omega))
         have hq : (te b n q) ≤ n := by assumption
         have hqq := (te_b (b := b) hq).2.1
         rcases hF with ⟨z2, rfl, y2, T2⟩ | ⟨z2, y2, x2⟩
         · obtain ⟨b2, d2⟩ := nf_b z2
           refine rk_iast rfl e56 (rfl) (by omega) (by decide) ?_
           refine hp_gen e56 (fun h1 g1 hk1 hl1 => ?_)
           replace c2 := (hk1 _ (by omega)).trans c2
           replace FW := FW.t56 hk1 hl1
           replace Tp := Tp.fr (hk1 55 (by omega))
           replace e56 := g1
           exact rk_return rfl rfl ⟨_, rfl, by rw [if_neg (by omega), num_y z2]; exact MSd.ok FW c2 P2 e56 y2 T2 (hf.u (by omega))⟩
         · have hf0 : ¬ w2 11 = 0 := fun y => nf_i z2 (y2.symm.trans y)
           refine rk_iast rfl e56 (rfl) (by omega) (by decide) ?_
           refine hp_gen e56 (fun h1 g1 hk1 hl1 => ?_)
           replace c2 := (hk1 _ (by omega)).trans c2
           replace FW := FW.t56 hk1 hl1
           replace Tp := Tp.fr (hk1 55 (by omega))
           replace e56 := g1
           exact rk_return rfl rfl ⟨_, rfl, by rw [if_neg (by omega), num_n z2]; exact MSd.f FW c2 P2 e56 z2 y2 x2⟩)
  · replace hc4 := mt (n0_le (by omega)).mpr hc4
    refine rk_aload_n rfl rfl ?_
    refine rk_iconst (v := nI 4) rfl (by decide) ?_
    refine rk_cv1v rfl rfl (by assumption) rfl rfl (Nat.le_of_ble_eq_true rfl) (Nat.le_of_ble_eq_true rfl) (s189 c0 y0) (fun h1 hF => ?_)
    obtain ⟨F3, w3, c3', u1, u2, wo⟩ := hF
    rw [T0.k, if_neg h14] at u1
    have hf0 : ¬ w3 11 = 0 := fun y => absurd (u1.symm.trans y) (by decide)
    first
      | (refine rk_aload_n rfl rfl ?_
         refine rk_get rfl (by assumption) rfl ?_
         refine rk_if_eq rfl rfl (fun hc10 => ?_) (fun hc10 => ?_)
         · exact absurd hc10 hf0
         · exact rk_return rfl rfl ⟨_, rfl, by rw [if_pos (by omega)]; exact MSd.f (FW.t52 F3) c3' (mp11 wo) ((F3.2 56 (by omega)).trans e56) (by decide) u1 (u2.trans T0.1)⟩)
      | (refine rk_aload_n rfl rfl ?_
         refine rk_get rfl (by assumption) rfl ?_
         rw [y0]
         refine rk_if_eq rfl rfl (fun _ => ?_) (fun y => absurd rfl y)
         refine rk_aload_n rfl rfl ?_
         refine rk_cv0v rfl rfl (by assumption) rfl rfl (Nat.le_of_ble_eq_true rfl) (Nat.le_of_ble_eq_true rfl) (s188 c0 Tp hn v8 (te_b hq0).2.1 T0.2.1) (fun h1 hF => ?_)
         obtain ⟨F1, w1, c1, T1, Q1⟩ := hF
         have P1 := P0.tr Q1.p
         have y1 := (Q1 11 (by omega) (by omega) (by omega) (by omega)).trans y0
         replace FW := FW.t52 F1
         replace e56 := (F1.2 56 (by omega)).trans e56
         replace Tp := Tp.fr (F1.2 55 (by omega))
         have hq1 := (te_b (b := b) hq0).2.1
         refine rk_aload_n rfl rfl ?_
         refine rk_get rfl (by assumption) rfl ?_
         refine rk_iconst (v := nI 0) rfl (by decide) ?_
         refine rk_aload_n rfl rfl ?_
         refine rk_iconst (v := nI 2) rfl (by decide) ?_
         refine rk_bipush (v := nI 14) rfl (by decide) ?_
         refine rk_cv2i rfl rfl (by assumption) rfl rfl (Nat.le_of_ble_eq_true rfl) (Nat.le_of_ble_eq_true rfl) (s193 c1 Tp hn (P1.e8 v8) y1 T1 hq1 (lo := 2) (hi := 14) (by omega) (by omega)) (fun w h1 hF => ?_)
         obtain ⟨F1, w2, c2, Q1, hF⟩ := hF
         have P2 := P1.tr Q1
         replace FW := FW.t52 F1
         replace e56 := (F1.2 56 (by omega)).trans e56
         replace Tp := Tp.fr (F1.2 55 (by omega))
         have hq : (te b n q) ≤ n := by assumption
         have hqq := (te_b (b := b) hq).2.1
         rcases hF with ⟨z2, rfl, y2, T2⟩ | ⟨z2, y2, x2⟩
         · obtain ⟨b2, d2⟩ := nf_b z2
           refine rk_iast rfl e56 (rfl) (by omega) (by decide) ?_
           refine hp_gen e56 (fun h1 g1 hk1 hl1 => ?_)
           replace c2 := (hk1 _ (by omega)).trans c2
           replace FW := FW.t56 hk1 hl1
           replace Tp := Tp.fr (hk1 55 (by omega))
           replace e56 := g1
           exact rk_return rfl rfl ⟨_, rfl, by rw [if_neg (by omega), num_y z2]; exact MSd.ok FW c2 P2 e56 y2 T2 (hf.u (by omega))⟩
         · have hf0 : ¬ w2 11 = 0 := fun y => nf_i z2 (y2.symm.trans y)
           refine rk_iast rfl e56 (rfl) (by omega) (by decide) ?_
           refine hp_gen e56 (fun h1 g1 hk1 hl1 => ?_)
           replace c2 := (hk1 _ (by omega)).trans c2
           replace FW := FW.t56 hk1 hl1
           replace Tp := Tp.fr (hk1 55 (by omega))
           replace e56 := g1
           exact rk_return rfl rfl ⟨_, rfl, by rw [if_neg (by omega), num_n z2]; exact MSd.f FW c2 P2 e56 z2 y2 x2⟩)
theorem s203 {X : ai_X} {h : ai_H} {b : Nat → Nat} {n N t q : Nat} {v f c : Nat → Int32} (c0 : h[52]? = some (cMdl v)) (Tp : TP h 55 b) (hn : n ≤ 600) (v8 : v 8 = nI n) (y0 : v 11 = 0) (T0 : MDT v b n q) (hq0 : q ≤ n) (e56 : h[56]? = some (cI 281 f)) (hf : MCr f c) (hN : N ≤ 14) (ht : t ≤ 6) (k0 : c 0 = nI N) (k1 : c 1 = nI t) {u : Nat} (hu : u ≤ 8) (k271 : c 271 = nI u) (hN0 : 1 ≤ N) (h14 : ¬ tkd b n q = 14) : Mt X am_203 [.ref 52] h (Qv (fun h1 => MSd h h1 v b n (if 8 ≤ u then fR 4 (ts b n q) else num b n 0 (N - 1) (te b n q) (fun r q => okR (cw c u r) q)))) := by
  have P0 : MPd v v := MPd.rfl'
  have FW : FrWd h h := FrWd.rfl'
  have f0 : f 0 = nI N := (hf 0 (by omega) (Or.inr (by omega))).trans k0
  have f1 : f 1 = nI t := (hf 1 (by omega) (Or.inr (by omega))).trans k1
  have f271 : f 271 = nI u := (hf 271 (by omega) (Or.inr (by omega))).trans k271
  refine rk_aload_n rfl rfl ?_
  refine rk_get rfl (by assumption) rfl ?_
  refine rk_sipush (v := nI 271) rfl (by decide) ?_
  refine rk_iald rfl (by assumption) (rfl) (by omega) (by decide) ?_
  rw [f271]
  refine rk_bipush (v := nI 8) rfl (by decide) ?_
  refine rk_icmp_ne rfl rfl (fun hc5 => ?_) (fun hc5 => ?_)
  · replace hc5 := mt (nI_eq (by omega) (by omega)).mpr hc5
    first
      | (refine rk_aload_n rfl rfl ?_
         refine rk_get rfl (by assumption) rfl ?_
         refine rk_if_eq rfl rfl (fun hc11 => ?_) (fun hc11 => ?_)
         · exact absurd hc11 hf0
         · exact rk_return rfl rfl ⟨_, rfl, by rw [if_pos (by omega)]; exact MSd.f (FW.t52 F3) c3' (mp11 wo) ((F3.2 56 (by omega)).trans e56) (by decide) u1 (u2.trans T0.1)⟩)
      | (refine rk_aload_n rfl rfl ?_
         refine rk_get rfl (by assumption) rfl ?_
         rw [y0]
         refine rk_if_eq rfl rfl (fun _ => ?_) (fun y => absurd rfl y)
         refine rk_aload_n rfl rfl ?_
         refine rk_cv0v rfl rfl (by assumption) rfl rfl (Nat.le_of_ble_eq_true rfl) (Nat.le_of_ble_eq_true rfl) (s188 c0 Tp hn v8 (te_b hq0).2.1 T0.2.1) (fun h1 hF => ?_)
         obtain ⟨F1, w1, c1, T1, Q1⟩ := hF
         have P1 := P0.tr Q1.p
         have y1 := (Q1 11 (by omega) (by omega) (by omega) (by omega)).trans y0
         replace FW := FW.t52 F1
         replace e56 := (F1.2 56 (by omega)).trans e56
         replace Tp := Tp.fr (F1.2 55 (by omega))
         have hq1 := (te_b (b := b) hq0).2.1
         refine rk_aload_n rfl rfl ?_
         refine rk_cv0i rfl rfl (by assumption) rfl rfl (Nat.le_of_ble_eq_true rfl) (Nat.le_of_ble_eq_true rfl) (s194 c1 Tp hn (P1.e8 v8) y1 T1 hq1 e56 f0 (by omega) (by omega)) (fun w h1 hF => ?_)
         obtain ⟨F1, w2, c2, Q1, hF⟩ := hF
         have P2 := P1.tr Q1
         replace FW := FW.t52 F1
         replace e56 := (F1.2 56 (by omega)).trans e56
         replace Tp := Tp.fr (F1.2 55 (by omega))
         have hq : (te b n q) ≤ n := by assumption
         have hqq := (te_b (b := b) hq).2.1
         rcases hF with ⟨z2, rfl, y2, T2⟩ | ⟨z2, y2, x2⟩
         · obtain ⟨b2, d2⟩ := nf_b z2
           refine rk_istore_n rfl (Nat.le_of_ble_eq_true rfl) rfl ?_
           refine rk_aload_n rfl rfl ?_
           refine rk_get rfl (by assumption) rfl ?_
           rw [y2]
           refine rk_if_eq rfl rfl (fun _ => ?_) (fun y => absurd rfl y)
           refine rk_aload_n rfl rfl ?_
           refine rk_get rfl (by assumption) rfl ?_
           refine rk_sipush (v := nI 272) rfl (by decide) ?_
           refine rk_aload_n rfl rfl ?_
           refine rk_get rfl (by assumption) rfl ?_
           refine rk_sipush (v := nI 271) rfl (by decide) ?_
           refine rk_iald rfl (by assumption) (rfl) (by omega) (by decide) ?_
           rw [f271]
           refine rk_iadd rfl (nI_add _ _) ?_
           refine rk_iload_n rfl rfl ?_
           refine rk_iast rfl e56 (rfl) (by omega) (by decide) ?_
           refine hp_gen e56 (fun h1 g1 hk1 hl1 => ?_)
           replace c2 := (hk1 _ (by omega)).trans c2
           replace FW := FW.t56 hk1 hl1
           replace Tp := Tp.fr (hk1 55 (by omega))
           replace e56 := g1
           refine rk_aload_n rfl rfl ?_
           refine rk_get rfl (by assumption) rfl ?_
           refine rk_sipush (v := nI 271) rfl (by decide) ?_
           refine rk_dup2 rfl ?_
           refine rk_iald rfl (by assumption) (rfl) (by omega) (by decide) ?_
           rw [updE (by omega), f271]
           refine rk_iconst (v := nI 1) rfl (by decide) ?_
           refine rk_iadd rfl (nI_add _ _) ?_
           refine rk_iast rfl e56 (rfl) (by omega) (by decide) ?_
           refine hp_gen e56 (fun h1 g1 hk1 hl1 => ?_)
           replace c2 := (hk1 _ (by omega)).trans c2
           replace FW := FW.t56 hk1 hl1
           replace Tp := Tp.fr (hk1 55 (by omega))
           replace e56 := g1
           exact rk_return rfl rfl ⟨_, rfl, by rw [if_neg (by omega), num_y z2]; exact MSd.ok FW c2 P2 e56 y2 T2 ((hf.u (by omega)).u (by omega))⟩
         · have hf0 : ¬ w2 11 = 0 := fun y => nf_i z2 (y2.symm.trans y)
           refine rk_istore_n rfl (Nat.le_of_ble_eq_true rfl) rfl ?_
           refine rk_aload_n rfl rfl ?_
           refine rk_get rfl (by assumption) rfl ?_
           refine rk_if_eq rfl rfl (fun hc20 => ?_) (fun hc20 => ?_)
           · exact absurd hc20 hf0
           · exact rk_return rfl rfl ⟨_, rfl, by rw [if_neg (by omega), num_n z2]; exact MSd.f FW c2 P2 e56 z2 y2 x2⟩)
  · replace hc5 := Decidable.not_not.mp hc5
    replace hc5 := (nI_eq (by omega) (by omega)).mp hc5
    refine rk_aload_n rfl rfl ?_
    refine rk_iconst (v := nI 4) rfl (by decide) ?_
    refine rk_cv1v rfl rfl (by assumption) rfl rfl (Nat.le_of_ble_eq_true rfl) (Nat.le_of_ble_eq_true rfl) (s189 c0 y0) (fun h1 hF => ?_)
    obtain ⟨F3, w3, c3', u1, u2, wo⟩ := hF
    rw [T0.k, if_neg h14] at u1
    have hf0 : ¬ w3 11 = 0 := fun y => absurd (u1.symm.trans y) (by decide)
    first
      | (refine rk_aload_n rfl rfl ?_
         refine rk_get rfl (by assumption) rfl ?_
         refine rk_if_eq rfl rfl (fun hc11 => ?_) (fun hc11 => ?_)
         · exact absurd hc11 hf0
         · exact rk_return rfl rfl ⟨_, rfl, by rw [if_pos (by omega)]; exact MSd.f (FW.t52 F3) c3' (mp11 wo) ((F3.2 56 (by omega)).trans e56) (by decide) u1 (u2.trans T0.1)⟩)
      | (refine rk_aload_n rfl rfl ?_
         refine rk_get rfl (by assumption) rfl ?_
         rw [y0]
         refine rk_if_eq rfl rfl (fun _ => ?_) (fun y => absurd rfl y)
         refine rk_aload_n rfl rfl ?_
         refine rk_cv0v rfl rfl (by assumption) rfl rfl (Nat.le_of_ble_eq_true rfl) (Nat.le_of_ble_eq_true rfl) (s188 c0 Tp hn v8 (te_b hq0).2.1 T0.2.1) (fun h1 hF => ?_)
         obtain ⟨F1, w1, c1, T1, Q1⟩ := hF
         have P1 := P0.tr Q1.p
         have y1 := (Q1 11 (by omega) (by omega) (by omega) (by omega)).trans y0
         replace FW := FW.t52 F1
         replace e56 := (F1.2 56 (by omega)).trans e56
         replace Tp := Tp.fr (F1.2 55 (by omega))
         have hq1 := (te_b (b := b) hq0).2.1
         refine rk_aload_n rfl rfl ?_
         refine rk_cv0i rfl rfl (by assumption) rfl rfl (Nat.le_of_ble_eq_true rfl) (Nat.le_of_ble_eq_true rfl) (s194 c1 Tp hn (P1.e8 v8) y1 T1 hq1 e56 f0 (by omega) (by omega)) (fun w h1 hF => ?_)
         obtain ⟨F1, w2, c2, Q1, hF⟩ := hF
         have P2 := P1.tr Q1
         replace FW := FW.t52 F1
         replace e56 := (F1.2 56 (by omega)).trans e56
         replace Tp := Tp.fr (F1.2 55 (by omega))
         have hq : (te b n q) ≤ n := by assumption
         have hqq := (te_b (b := b) hq).2.1
         rcases hF with ⟨z2, rfl, y2, T2⟩ | ⟨z2, y2, x2⟩
         · obtain ⟨b2, d2⟩ := nf_b z2
           refine rk_istore_n rfl (Nat.le_of_ble_eq_true rfl) rfl ?_
           refine rk_aload_n rfl rfl ?_
           refine rk_get rfl (by assumption) rfl ?_
           rw [y2]
           refine rk_if_eq rfl rfl (fun _ => ?_) (fun y => absurd rfl y)
           refine rk_aload_n rfl rfl ?_
           refine rk_get rfl (by assumption) rfl ?_
           refine rk_sipush (v := nI 272) rfl (by decide) ?_
           refine rk_aload_n rfl rfl ?_
           refine rk_get rfl (by assumption) rfl ?_
           refine rk_sipush (v := nI 271) rfl (by decide) ?_
           refine rk_iald rfl (by assumption) (rfl) (by omega) (by decide) ?_
           rw [f271]
           refine rk_iadd rfl (nI_add _ _) ?_
           refine rk_iload_n rfl rfl ?_
           refine rk_iast rfl e56 (rfl) (by omega) (by decide) ?_
           refine hp_gen e56 (fun h1 g1 hk1 hl1 => ?_)
           replace c2 := (hk1 _ (by omega)).trans c2
           replace FW := FW.t56 hk1 hl1
           replace Tp := Tp.fr (hk1 55 (by omega))
           replace e56 := g1
           refine rk_aload_n rfl rfl ?_
           refine rk_get rfl (by assumption) rfl ?_
           refine rk_sipush (v := nI 271) rfl (by decide) ?_
           refine rk_dup2 rfl ?_
           refine rk_iald rfl (by assumption) (rfl) (by omega) (by decide) ?_
           rw [updE (by omega), f271]
           refine rk_iconst (v := nI 1) rfl (by decide) ?_
           refine rk_iadd rfl (nI_add _ _) ?_
           refine rk_iast rfl e56 (rfl) (by omega) (by decide) ?_
           refine hp_gen e56 (fun h1 g1 hk1 hl1 => ?_)
           replace c2 := (hk1 _ (by omega)).trans c2
           replace FW := FW.t56 hk1 hl1
           replace Tp := Tp.fr (hk1 55 (by omega))
           replace e56 := g1
           exact rk_return rfl rfl ⟨_, rfl, by rw [if_neg (by omega), num_y z2]; exact MSd.ok FW c2 P2 e56 y2 T2 ((hf.u (by omega)).u (by omega))⟩
         · have hf0 : ¬ w2 11 = 0 := fun y => nf_i z2 (y2.symm.trans y)
           refine rk_istore_n rfl (Nat.le_of_ble_eq_true rfl) rfl ?_
           refine rk_aload_n rfl rfl ?_
           refine rk_get rfl (by assumption) rfl ?_
           refine rk_if_eq rfl rfl (fun hc20 => ?_) (fun hc20 => ?_)
           · exact absurd hc20 hf0
           · exact rk_return rfl rfl ⟨_, rfl, by rw [if_neg (by omega), num_n z2]; exact MSd.f FW c2 P2 e56 z2 y2 x2⟩)
def TC (f fb : Nat → Int32) (m : Nat) : Prop := (∀ d, d < m → f (2 + d) = nI (d / 6) ∧ f (86 + d) = -1) ∧ ∀ q, q < 2 ∨ 170 ≤ q → f q = fb q
theorem TC.step {f fb : Nat → Int32} {r i : Nat} (hr : r < 14) (hi : i < 6) (H : TC f fb (6 * r + i)) : TC (upd (upd f (2 + (6 * r + i)) (nI r)) (86 + (6 * r + i)) (-1)) fb (6 * r + (i + 1)) := by
  obtain ⟨a, c⟩ := H
  refine ⟨fun d hd => ?_, fun q hq => ?_⟩
  · by_cases z : d = 6 * r + i
    · rw [z, show (6 * r + i) / 6 = r by omega]
      exact ⟨by rw [updE (by omega), updS], updS⟩
    · obtain ⟨x, y⟩ := a d (by omega)
      exact ⟨by rw [updE (by omega), updE (by omega)]; exact x, by rw [updE (by omega), updE (by omega)]; exact y⟩
  · rw [updE (by omega), updE (by omega)]; exact c q hq
def Fr6 (h h1 : ai_H) : Prop := h1.length = h.length ∧ ∀ q : Nat, q ≠ 56 → h1[q]? = h[q]?
theorem Fr6.tr' {h h1 h2 : ai_H} (a : Fr6 h h1) (hk : ∀ q : Nat, q ≠ 56 → h2[q]? = h1[q]?) (hl : h2.length = h1.length) : Fr6 h h2 := ⟨hl.trans a.1, fun q x => (hk q x).trans (a.2 q x)⟩
theorem l198b {X : ai_X} {h : ai_H} {r : Nat} {w fb : Nat → Int32} (hr : r < 14) (c0h : h[52]? = some (cMdl w)) {P : ai_O → Prop} (z : ∀ (g : ai_H) (f : Nat → Int32), Fr6 h g → g[56]? = some (cI 281 f) → TC f fb (6 * (r + 1)) → Rk X am_198 61 [some (.ref 52), some (.int (nI r)), some (.int (nI 6))] [] g P) : ∀ (d : Nat) (i : Nat) (g : ai_H) (f : Nat → Int32), 6 < i + d → (i ≤ 6) → (Fr6 h g) → (g[56]? = some (cI 281 f)) → (TC f fb (6 * r + i)) → Rk X am_198 38 [some (.ref 52), some (.int (nI r)), some (.int (nI i))] [] g (P) := by
  intro d
  induction d with
  | zero => intro i g f hd hi F e56 K; exfalso; omega
  | succ d ih =>
    intro i g f hd hi F e56 K
    have c0 := (F.2 52 (by omega)).trans c0h
    refine rk_iload_n rfl rfl ?_
    refine rk_bipush (v := nI 6) rfl (by decide) ?_
    refine rk_icmp_ge rfl rfl (fun hc40 => ?_) (fun hc40 => ?_)
    · replace hc40 := (nI_leI (by omega) (by omega)).mp hc40
      have hi6 : i = 6 := by omega
      subst hi6
      exact z g f F e56 (by rw [show 6 * (r + 1) = 6 * r + 6 by omega]; exact K)
    · replace hc40 := mt (nI_leI (by omega) (by omega)).mpr hc40
      refine rk_aload_n rfl rfl ?_
      refine rk_get rfl (by assumption) rfl ?_
      refine rk_iconst (v := nI 2) rfl (by decide) ?_
      refine rk_iload_n rfl rfl ?_
      refine rk_iload_n rfl rfl ?_
      refine rk_cs2e rfl rfl rfl (Nat.le_of_ble_eq_true rfl) (Nat.le_of_ble_eq_true rfl) (s196) ?_
      refine rk_iadd rfl (nI_add _ _) ?_
      refine rk_iload_n rfl rfl ?_
      refine rk_iast rfl e56 (rfl) (by omega) (by decide) ?_
      refine hp_gen e56 (fun h1 g1 hk1 hl1 => ?_)
      replace c0 := (hk1 _ (by omega)).trans c0
      replace F := F.tr' hk1 hl1
      replace e56 := g1
      refine rk_aload_n rfl rfl ?_
      refine rk_get rfl (by assumption) rfl ?_
      refine rk_bipush (v := nI 86) rfl (by decide) ?_
      refine rk_iload_n rfl rfl ?_
      refine rk_iload_n rfl rfl ?_
      refine rk_cs2e rfl rfl rfl (Nat.le_of_ble_eq_true rfl) (Nat.le_of_ble_eq_true rfl) (s196) ?_
      refine rk_iadd rfl (nI_add _ _) ?_
      refine rk_iconst (v := (-1)) rfl (by decide) ?_
      refine rk_iast rfl e56 (rfl) (by omega) (by decide) ?_
      refine hp_gen e56 (fun h1 g1 hk1 hl1 => ?_)
      replace c0 := (hk1 _ (by omega)).trans c0
      replace F := F.tr' hk1 hl1
      replace e56 := g1
      refine rk_iinc rfl rfl (n_inc _) rfl ?_
      refine rk_goto rfl rfl ?_
      exact ih (i + 1) _ _ (by omega) (by omega) F e56 (K.step hr (by omega))
theorem l198a {X : ai_X} {h : ai_H} {w fb : Nat → Int32} (c0h : h[52]? = some (cMdl w)) {P : ai_O → Prop} (z : ∀ (g : ai_H) (f : Nat → Int32), Fr6 h g → g[56]? = some (cI 281 f) → TC f fb 84 → P (none, g, 0, 0)) : ∀ (d : Nat) (r : Nat) (g : ai_H) (f : Nat → Int32) (o : Option Value), 14 < r + d → (r ≤ 14) → (Fr6 h g) → (g[56]? = some (cI 281 f)) → (TC f fb (6 * r)) → Rk X am_198 33 [some (.ref 52), some (.int (nI r)), o] [] g (P) := by
  intro d
  induction d with
  | zero => intro r g f o hd hr F e56 K; exfalso; omega
  | succ d ih =>
    intro r g f o hd hr F e56 K
    refine rk_iload_n rfl rfl ?_
    refine rk_bipush (v := nI 14) rfl (by decide) ?_
    refine rk_icmp_ge rfl rfl (fun hc35 => ?_) (fun hc35 => ?_)
    · replace hc35 := (nI_leI (by omega) (by omega)).mp hc35
      have hr14 : r = 14 := by omega
      subst hr14
      exact rk_return rfl rfl (z g f F e56 K)
    · replace hc35 := mt (nI_leI (by omega) (by omega)).mpr hc35
      refine rk_iconst (v := nI 0) rfl (by decide) ?_
      refine rk_istore_n rfl (Nat.le_of_ble_eq_true rfl) rfl ?_
      refine l198b (h := h) (fb := fb) (r := r) (by omega) c0h (fun g1 f1 F1 d1 K1 => ?_) 7 0 g f (by omega) (by omega) F e56 (by rw [Nat.add_zero]; exact K)
      refine rk_iinc rfl rfl (n_inc _) rfl ?_
      refine rk_goto rfl rfl ?_
      exact ih (r + 1) g1 f1 _ (by omega) (by omega) F1 d1 K1
theorem s198 {X : ai_X} {h : ai_H} {b : Nat → Nat} {n N t q : Nat} {v f c : Nat → Int32} (c0 : h[52]? = some (cMdl v)) (Tp : TP h 55 b) (hn : n ≤ 600) (v8 : v 8 = nI n) (y0 : v 11 = 0) (T0 : MDT v b n q) (hq0 : q ≤ n) (e56 : h[56]? = some (cI 281 f)) (hf : MCr f c) (hN : N ≤ 14) (ht : t ≤ 6) (k0 : c 0 = nI N) (k1 : c 1 = nI t) (hcl0 : t = 0 → ∀ q, 2 ≤ q → q < 280 → c q = clr q) (h14 : ¬ tkd b n q = 14) : Mt X am_198 [.ref 52] h (Qv (fun h1 => MSd h h1 v b n (if N = 0 then fR 2 (ts b n q) else if 0 < t then fR 4 (ts b n q) else num b n 1 6 (te b n q) (fun x q => okR (upd c 1 (nI x)) q)))) := by
  have P0 : MPd v v := MPd.rfl'
  have FW : FrWd h h := FrWd.rfl'
  have f0 : f 0 = nI N := (hf 0 (by omega) (Or.inr (by omega))).trans k0
  have f1 : f 1 = nI t := (hf 1 (by omega) (Or.inr (by omega))).trans k1
  refine rk_aload_n rfl rfl ?_
  refine rk_get rfl (by assumption) rfl ?_
  refine rk_iconst (v := nI 0) rfl (by decide) ?_
  refine rk_iald rfl (by assumption) (rfl) (by omega) (by decide) ?_
  rw [f0]
  refine rk_if_ne rfl rfl (fun hc4 => ?_) (fun hc4 => ?_)
  · replace hc4 := mt (n0_eq (by omega)).mpr hc4
    refine rk_aload_n rfl rfl ?_
    refine rk_get rfl (by assumption) rfl ?_
    refine rk_iconst (v := nI 1) rfl (by decide) ?_
    refine rk_iald rfl (by assumption) (rfl) (by omega) (by decide) ?_
    rw [f1]
    refine rk_if_le rfl rfl (fun hc13 => ?_) (fun hc13 => ?_)
    · replace hc13 := (n0_le (by omega)).mp hc13
      first
        | (refine rk_aload_n rfl rfl ?_
           refine rk_get rfl (by assumption) rfl ?_
           refine rk_if_eq rfl rfl (fun hc19 => ?_) (fun hc19 => ?_)
           · exact absurd hc19 hf0
           · first
               | exact rk_return rfl rfl ⟨_, rfl, by rw [if_pos (by omega)]; exact MSd.f (FW.t52 F3) c3' (mp11 wo) ((F3.2 56 (by omega)).trans e56) (by decide) u1 (u2.trans T0.1)⟩
               | exact rk_return rfl rfl ⟨_, rfl, by rw [if_neg (by omega), if_pos (by omega)]; exact MSd.f (FW.t52 F3) c3' (mp11 wo) ((F3.2 56 (by omega)).trans e56) (by decide) u1 (u2.trans T0.1)⟩)
        | (have hcl := hcl0 (by omega)
           refine rk_aload_n rfl rfl ?_
           refine rk_get rfl (by assumption) rfl ?_
           rw [y0]
           refine rk_if_eq rfl rfl (fun _ => ?_) (fun y => absurd rfl y)
           refine rk_aload_n rfl rfl ?_
           refine rk_cv0v rfl rfl (by assumption) rfl rfl (Nat.le_of_ble_eq_true rfl) (Nat.le_of_ble_eq_true rfl) (s188 c0 Tp hn v8 (te_b hq0).2.1 T0.2.1) (fun h1 hF => ?_)
           obtain ⟨F1, w1, c1, T1, Q1⟩ := hF
           have P1 := P0.tr Q1.p
           have y1 := (Q1 11 (by omega) (by omega) (by omega) (by omega)).trans y0
           replace FW := FW.t52 F1
           replace e56 := (F1.2 56 (by omega)).trans e56
           replace Tp := Tp.fr (F1.2 55 (by omega))
           have hq1 := (te_b (b := b) hq0).2.1
           refine rk_aload_n rfl rfl ?_
           refine rk_get rfl (by assumption) rfl ?_
           refine rk_iconst (v := nI 1) rfl (by decide) ?_
           refine rk_aload_n rfl rfl ?_
           refine rk_iconst (v := nI 1) rfl (by decide) ?_
           refine rk_bipush (v := nI 6) rfl (by decide) ?_
           refine rk_cv2i rfl rfl (by assumption) rfl rfl (Nat.le_of_ble_eq_true rfl) (Nat.le_of_ble_eq_true rfl) (s193 c1 Tp hn (P1.e8 v8) y1 T1 hq1 (lo := 1) (hi := 6) (by omega) (by omega)) (fun w h1 hF => ?_)
           obtain ⟨F1, w2, c2, Q1, hF⟩ := hF
           have P2 := P1.tr Q1
           replace FW := FW.t52 F1
           replace e56 := (F1.2 56 (by omega)).trans e56
           replace Tp := Tp.fr (F1.2 55 (by omega))
           have hq : (te b n q) ≤ n := by assumption
           have hqq := (te_b (b := b) hq).2.1
           rcases hF with ⟨z2, rfl, y2, T2⟩ | ⟨z2, y2, x2⟩
           · obtain ⟨b2, d2⟩ := nf_b z2
             refine rk_iast rfl e56 (rfl) (by omega) (by decide) ?_
             refine hp_gen e56 (fun h1 g1 hk1 hl1 => ?_)
             replace c2 := (hk1 _ (by omega)).trans c2
             replace FW := FW.t56 hk1 hl1
             replace Tp := Tp.fr (hk1 55 (by omega))
             replace e56 := g1
             refine rk_iconst (v := nI 0) rfl (by decide) ?_
             refine rk_istore_n rfl (Nat.le_of_ble_eq_true rfl) rfl ?_
             refine l198a (fb := upd f 1 (nI (tv b n (te b n q)))) c2 (fun g ff F6 d56 K => ?_) 15 0 _ _ _ (by omega) (by omega) ⟨rfl, fun _ _ => rfl⟩ e56 ⟨fun d hd => absurd hd (by omega), fun _ _ => rfl⟩
             refine ⟨_, rfl, ?_⟩
             rw [if_neg (by omega), if_neg (by omega), num_y z2]
             refine MSd.ok (FW.t56 F6.2 F6.1) ((F6.2 52 (by omega)).trans c2) P2 d56 y2 T2 (fun j hj _ => ?_)
             obtain ⟨K1, K2⟩ := K
             by_cases h2 : 2 ≤ j ∧ j < 170
             · rw [updE (by omega)]
               by_cases h3 : j < 86
               · have := (K1 (j - 2) (by omega)).1
                 rw [show 2 + (j - 2) = j by omega] at this
                 rw [this, hcl j (by omega) (by omega), clr, if_pos (by omega)]
               · have := (K1 (j - 86) (by omega)).2
                 rw [show 86 + (j - 86) = j by omega] at this
                 rw [this, hcl j (by omega) (by omega), clr, if_neg (by omega), if_pos (by omega)]
             · rw [K2 j (by omega)]
               by_cases h4 : j = 1
               · rw [h4, updS, updS]
               · rw [updE h4, updE h4]
                 exact hf j hj (Or.inr h2)
           · have hf0 : ¬ w2 11 = 0 := fun y => nf_i z2 (y2.symm.trans y)
             refine rk_iast rfl e56 (rfl) (by omega) (by decide) ?_
             refine hp_gen e56 (fun h1 g1 hk1 hl1 => ?_)
             replace c2 := (hk1 _ (by omega)).trans c2
             replace FW := FW.t56 hk1 hl1
             replace Tp := Tp.fr (hk1 55 (by omega))
             replace e56 := g1
             refine rk_iconst (v := nI 0) rfl (by decide) ?_
             refine rk_istore_n rfl (Nat.le_of_ble_eq_true rfl) rfl ?_
             refine l198a (fb := _) c2 (fun g ff F6 d56 K => ?_) 15 0 _ _ _ (by omega) (by omega) ⟨rfl, fun _ _ => rfl⟩ e56 ⟨fun d hd => absurd hd (by omega), fun _ _ => rfl⟩
             refine ⟨_, rfl, ?_⟩
             rw [if_neg (by omega), if_neg (by omega), num_n z2]
             exact MSd.f (FW.t56 F6.2 F6.1) ((F6.2 52 (by omega)).trans c2) P2 d56 z2 y2 x2)
    · replace hc13 := mt (n0_le (by omega)).mpr hc13
      refine rk_aload_n rfl rfl ?_
      refine rk_iconst (v := nI 4) rfl (by decide) ?_
      refine rk_cv1v rfl rfl (by assumption) rfl rfl (Nat.le_of_ble_eq_true rfl) (Nat.le_of_ble_eq_true rfl) (s189 c0 y0) (fun h1 hF => ?_)
      obtain ⟨F3, w3, c3', u1, u2, wo⟩ := hF
      rw [T0.k, if_neg h14] at u1
      have hf0 : ¬ w3 11 = 0 := fun y => absurd (u1.symm.trans y) (by decide)
      first
        | (refine rk_aload_n rfl rfl ?_
           refine rk_get rfl (by assumption) rfl ?_
           refine rk_if_eq rfl rfl (fun hc19 => ?_) (fun hc19 => ?_)
           · exact absurd hc19 hf0
           · first
               | exact rk_return rfl rfl ⟨_, rfl, by rw [if_pos (by omega)]; exact MSd.f (FW.t52 F3) c3' (mp11 wo) ((F3.2 56 (by omega)).trans e56) (by decide) u1 (u2.trans T0.1)⟩
               | exact rk_return rfl rfl ⟨_, rfl, by rw [if_neg (by omega), if_pos (by omega)]; exact MSd.f (FW.t52 F3) c3' (mp11 wo) ((F3.2 56 (by omega)).trans e56) (by decide) u1 (u2.trans T0.1)⟩)
        | (have hcl := hcl0 (by omega)
           refine rk_aload_n rfl rfl ?_
           refine rk_get rfl (by assumption) rfl ?_
           rw [y0]
           refine rk_if_eq rfl rfl (fun _ => ?_) (fun y => absurd rfl y)
           refine rk_aload_n rfl rfl ?_
           refine rk_cv0v rfl rfl (by assumption) rfl rfl (Nat.le_of_ble_eq_true rfl) (Nat.le_of_ble_eq_true rfl) (s188 c0 Tp hn v8 (te_b hq0).2.1 T0.2.1) (fun h1 hF => ?_)
           obtain ⟨F1, w1, c1, T1, Q1⟩ := hF
           have P1 := P0.tr Q1.p
           have y1 := (Q1 11 (by omega) (by omega) (by omega) (by omega)).trans y0
           replace FW := FW.t52 F1
           replace e56 := (F1.2 56 (by omega)).trans e56
           replace Tp := Tp.fr (F1.2 55 (by omega))
           have hq1 := (te_b (b := b) hq0).2.1
           refine rk_aload_n rfl rfl ?_
           refine rk_get rfl (by assumption) rfl ?_
           refine rk_iconst (v := nI 1) rfl (by decide) ?_
           refine rk_aload_n rfl rfl ?_
           refine rk_iconst (v := nI 1) rfl (by decide) ?_
           refine rk_bipush (v := nI 6) rfl (by decide) ?_
           refine rk_cv2i rfl rfl (by assumption) rfl rfl (Nat.le_of_ble_eq_true rfl) (Nat.le_of_ble_eq_true rfl) (s193 c1 Tp hn (P1.e8 v8) y1 T1 hq1 (lo := 1) (hi := 6) (by omega) (by omega)) (fun w h1 hF => ?_)
           obtain ⟨F1, w2, c2, Q1, hF⟩ := hF
           have P2 := P1.tr Q1
           replace FW := FW.t52 F1
           replace e56 := (F1.2 56 (by omega)).trans e56
           replace Tp := Tp.fr (F1.2 55 (by omega))
           have hq : (te b n q) ≤ n := by assumption
           have hqq := (te_b (b := b) hq).2.1
           rcases hF with ⟨z2, rfl, y2, T2⟩ | ⟨z2, y2, x2⟩
           · obtain ⟨b2, d2⟩ := nf_b z2
             refine rk_iast rfl e56 (rfl) (by omega) (by decide) ?_
             refine hp_gen e56 (fun h1 g1 hk1 hl1 => ?_)
             replace c2 := (hk1 _ (by omega)).trans c2
             replace FW := FW.t56 hk1 hl1
             replace Tp := Tp.fr (hk1 55 (by omega))
             replace e56 := g1
             refine rk_iconst (v := nI 0) rfl (by decide) ?_
             refine rk_istore_n rfl (Nat.le_of_ble_eq_true rfl) rfl ?_
             refine l198a (fb := upd f 1 (nI (tv b n (te b n q)))) c2 (fun g ff F6 d56 K => ?_) 15 0 _ _ _ (by omega) (by omega) ⟨rfl, fun _ _ => rfl⟩ e56 ⟨fun d hd => absurd hd (by omega), fun _ _ => rfl⟩
             refine ⟨_, rfl, ?_⟩
             rw [if_neg (by omega), if_neg (by omega), num_y z2]
             refine MSd.ok (FW.t56 F6.2 F6.1) ((F6.2 52 (by omega)).trans c2) P2 d56 y2 T2 (fun j hj _ => ?_)
             obtain ⟨K1, K2⟩ := K
             by_cases h2 : 2 ≤ j ∧ j < 170
             · rw [updE (by omega)]
               by_cases h3 : j < 86
               · have := (K1 (j - 2) (by omega)).1
                 rw [show 2 + (j - 2) = j by omega] at this
                 rw [this, hcl j (by omega) (by omega), clr, if_pos (by omega)]
               · have := (K1 (j - 86) (by omega)).2
                 rw [show 86 + (j - 86) = j by omega] at this
                 rw [this, hcl j (by omega) (by omega), clr, if_neg (by omega), if_pos (by omega)]
             · rw [K2 j (by omega)]
               by_cases h4 : j = 1
               · rw [h4, updS, updS]
               · rw [updE h4, updE h4]
                 exact hf j hj (Or.inr h2)
           · have hf0 : ¬ w2 11 = 0 := fun y => nf_i z2 (y2.symm.trans y)
             refine rk_iast rfl e56 (rfl) (by omega) (by decide) ?_
             refine hp_gen e56 (fun h1 g1 hk1 hl1 => ?_)
             replace c2 := (hk1 _ (by omega)).trans c2
             replace FW := FW.t56 hk1 hl1
             replace Tp := Tp.fr (hk1 55 (by omega))
             replace e56 := g1
             refine rk_iconst (v := nI 0) rfl (by decide) ?_
             refine rk_istore_n rfl (Nat.le_of_ble_eq_true rfl) rfl ?_
             refine l198a (fb := _) c2 (fun g ff F6 d56 K => ?_) 15 0 _ _ _ (by omega) (by omega) ⟨rfl, fun _ _ => rfl⟩ e56 ⟨fun d hd => absurd hd (by omega), fun _ _ => rfl⟩
             refine ⟨_, rfl, ?_⟩
             rw [if_neg (by omega), if_neg (by omega), num_n z2]
             exact MSd.f (FW.t56 F6.2 F6.1) ((F6.2 52 (by omega)).trans c2) P2 d56 z2 y2 x2)
  · replace hc4 := Decidable.not_not.mp hc4
    replace hc4 := (n0_eq (by omega)).mp hc4
    refine rk_aload_n rfl rfl ?_
    refine rk_iconst (v := nI 2) rfl (by decide) ?_
    refine rk_cv1v rfl rfl (by assumption) rfl rfl (Nat.le_of_ble_eq_true rfl) (Nat.le_of_ble_eq_true rfl) (s189 c0 y0) (fun h1 hF => ?_)
    obtain ⟨F3, w3, c3', u1, u2, wo⟩ := hF
    rw [T0.k, if_neg h14] at u1
    have hf0 : ¬ w3 11 = 0 := fun y => absurd (u1.symm.trans y) (by decide)
    refine rk_goto rfl rfl ?_
    first
      | (refine rk_aload_n rfl rfl ?_
         refine rk_get rfl (by assumption) rfl ?_
         refine rk_if_eq rfl rfl (fun hc19 => ?_) (fun hc19 => ?_)
         · exact absurd hc19 hf0
         · first
             | exact rk_return rfl rfl ⟨_, rfl, by rw [if_pos (by omega)]; exact MSd.f (FW.t52 F3) c3' (mp11 wo) ((F3.2 56 (by omega)).trans e56) (by decide) u1 (u2.trans T0.1)⟩
             | exact rk_return rfl rfl ⟨_, rfl, by rw [if_neg (by omega), if_pos (by omega)]; exact MSd.f (FW.t52 F3) c3' (mp11 wo) ((F3.2 56 (by omega)).trans e56) (by decide) u1 (u2.trans T0.1)⟩)
      | (have hcl := hcl0 (by omega)
         refine rk_aload_n rfl rfl ?_
         refine rk_get rfl (by assumption) rfl ?_
         rw [y0]
         refine rk_if_eq rfl rfl (fun _ => ?_) (fun y => absurd rfl y)
         refine rk_aload_n rfl rfl ?_
         refine rk_cv0v rfl rfl (by assumption) rfl rfl (Nat.le_of_ble_eq_true rfl) (Nat.le_of_ble_eq_true rfl) (s188 c0 Tp hn v8 (te_b hq0).2.1 T0.2.1) (fun h1 hF => ?_)
         obtain ⟨F1, w1, c1, T1, Q1⟩ := hF
         have P1 := P0.tr Q1.p
         have y1 := (Q1 11 (by omega) (by omega) (by omega) (by omega)).trans y0
         replace FW := FW.t52 F1
         replace e56 := (F1.2 56 (by omega)).trans e56
         replace Tp := Tp.fr (F1.2 55 (by omega))
         have hq1 := (te_b (b := b) hq0).2.1
         refine rk_aload_n rfl rfl ?_
         refine rk_get rfl (by assumption) rfl ?_
         refine rk_iconst (v := nI 1) rfl (by decide) ?_
         refine rk_aload_n rfl rfl ?_
         refine rk_iconst (v := nI 1) rfl (by decide) ?_
         refine rk_bipush (v := nI 6) rfl (by decide) ?_
         refine rk_cv2i rfl rfl (by assumption) rfl rfl (Nat.le_of_ble_eq_true rfl) (Nat.le_of_ble_eq_true rfl) (s193 c1 Tp hn (P1.e8 v8) y1 T1 hq1 (lo := 1) (hi := 6) (by omega) (by omega)) (fun w h1 hF => ?_)
         obtain ⟨F1, w2, c2, Q1, hF⟩ := hF
         have P2 := P1.tr Q1
         replace FW := FW.t52 F1
         replace e56 := (F1.2 56 (by omega)).trans e56
         replace Tp := Tp.fr (F1.2 55 (by omega))
         have hq : (te b n q) ≤ n := by assumption
         have hqq := (te_b (b := b) hq).2.1
         rcases hF with ⟨z2, rfl, y2, T2⟩ | ⟨z2, y2, x2⟩
         · obtain ⟨b2, d2⟩ := nf_b z2
           refine rk_iast rfl e56 (rfl) (by omega) (by decide) ?_
           refine hp_gen e56 (fun h1 g1 hk1 hl1 => ?_)
           replace c2 := (hk1 _ (by omega)).trans c2
           replace FW := FW.t56 hk1 hl1
           replace Tp := Tp.fr (hk1 55 (by omega))
           replace e56 := g1
           refine rk_iconst (v := nI 0) rfl (by decide) ?_
           refine rk_istore_n rfl (Nat.le_of_ble_eq_true rfl) rfl ?_
           refine l198a (fb := upd f 1 (nI (tv b n (te b n q)))) c2 (fun g ff F6 d56 K => ?_) 15 0 _ _ _ (by omega) (by omega) ⟨rfl, fun _ _ => rfl⟩ e56 ⟨fun d hd => absurd hd (by omega), fun _ _ => rfl⟩
           refine ⟨_, rfl, ?_⟩
           rw [if_neg (by omega), if_neg (by omega), num_y z2]
           refine MSd.ok (FW.t56 F6.2 F6.1) ((F6.2 52 (by omega)).trans c2) P2 d56 y2 T2 (fun j hj _ => ?_)
           obtain ⟨K1, K2⟩ := K
           by_cases h2 : 2 ≤ j ∧ j < 170
           · rw [updE (by omega)]
             by_cases h3 : j < 86
             · have := (K1 (j - 2) (by omega)).1
               rw [show 2 + (j - 2) = j by omega] at this
               rw [this, hcl j (by omega) (by omega), clr, if_pos (by omega)]
             · have := (K1 (j - 86) (by omega)).2
               rw [show 86 + (j - 86) = j by omega] at this
               rw [this, hcl j (by omega) (by omega), clr, if_neg (by omega), if_pos (by omega)]
           · rw [K2 j (by omega)]
             by_cases h4 : j = 1
             · rw [h4, updS, updS]
             · rw [updE h4, updE h4]
               exact hf j hj (Or.inr h2)
         · have hf0 : ¬ w2 11 = 0 := fun y => nf_i z2 (y2.symm.trans y)
           refine rk_iast rfl e56 (rfl) (by omega) (by decide) ?_
           refine hp_gen e56 (fun h1 g1 hk1 hl1 => ?_)
           replace c2 := (hk1 _ (by omega)).trans c2
           replace FW := FW.t56 hk1 hl1
           replace Tp := Tp.fr (hk1 55 (by omega))
           replace e56 := g1
           refine rk_iconst (v := nI 0) rfl (by decide) ?_
           refine rk_istore_n rfl (Nat.le_of_ble_eq_true rfl) rfl ?_
           refine l198a (fb := _) c2 (fun g ff F6 d56 K => ?_) 15 0 _ _ _ (by omega) (by omega) ⟨rfl, fun _ _ => rfl⟩ e56 ⟨fun d hd => absurd hd (by omega), fun _ _ => rfl⟩
           refine ⟨_, rfl, ?_⟩
           rw [if_neg (by omega), if_neg (by omega), num_n z2]
           exact MSd.f (FW.t56 F6.2 F6.1) ((F6.2 52 (by omega)).trans c2) P2 d56 z2 y2 x2)
