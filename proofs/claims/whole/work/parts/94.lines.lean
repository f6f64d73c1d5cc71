/-! HOUSE: the class's lines -/
/-- the draft's values -/
def DV (F g0 g1 g2 g3 g4 c : Nat → Int32) : Prop := F 0 = c 0 ∧ F 1 = c 1 ∧ F 2 = c 280 ∧ F 3 = c 270 ∧ F 4 = c 271 ∧ F 5 = c 268 ∧ F 6 = c 269 ∧ (∀ k, k < 84 → g0 k = c (2 + k)) ∧ (∀ k, k < 84 → g1 k = c (86 + k)) ∧ (∀ k, k < 84 → g2 k = c (170 + k)) ∧ (∀ k, k < 14 → g3 k = c (254 + k)) ∧ ∀ k, k < 8 → k < nn c 271 → g4 k = c (272 + k)
def DC (h : ai_H) (c : Nat → Int32) : Prop := ∃ F g0 g1 g2 g3 g4, h[9]? = some (cHouse 9 F) ∧ h[10]? = some (cI 84 g0) ∧ h[11]? = some (cI 84 g1) ∧ h[12]? = some (cI 84 g2) ∧ h[13]? = some (cI 14 g3) ∧ h[14]? = some (cI 8 g4) ∧ DV F g0 g1 g2 g3 g4 c
theorem DC.fr {h h1 : ai_H} {c : Nat → Int32} (hk : ∀ q, 9 ≤ q → q < 15 → h1[q]? = h[q]?) (D : DC h c) : DC h1 c := by
  obtain ⟨F, g0, g1, g2, g3, g4, d9, d10, d11, d12, d13, d14, r⟩ := D
  exact ⟨F, g0, g1, g2, g3, g4, (hk _ (by omega) (by omega)).trans d9, (hk _ (by omega) (by omega)).trans d10, (hk _ (by omega) (by omega)).trans d11, (hk _ (by omega) (by omega)).trans d12, (hk _ (by omega) (by omega)).trans d13, (hk _ (by omega) (by omega)).trans d14, r⟩
theorem DC.at {h : ai_H} {c : Nat → Int32} (D : DC h c) : ∃ F G, HouseAt h 9 F G := by
  obtain ⟨F, g0, g1, g2, g3, g4, d9, d10, d11, d12, d13, d14, r⟩ := D
  exact ⟨F, fun j => if j = 0 then g0 else if j = 1 then g1 else if j = 2 then g2 else if j = 3 then g3 else g4, d9, d10, d11, d12, d13, d14⟩
theorem DV.g0' {F g0 g1 g2 g3 g4 c : Nat → Int32} {d : Nat} {x : Int32} (hd : d < 84) (H : DV F g0 g1 g2 g3 g4 c) : DV F (upd g0 d x) g1 g2 g3 g4 (upd c (2 + d) x) := by
  obtain ⟨a0, a1, a2, a3, a4, a5, a6, b0, b1, b2, b3, b4⟩ := H
  refine ⟨by rw [updE (by omega)]; exact a0, by rw [updE (by omega)]; exact a1, by rw [updE (by omega)]; exact a2, by rw [updE (by omega)]; exact a3, by rw [updE (by omega)]; exact a4, by rw [updE (by omega)]; exact a5, by rw [updE (by omega)]; exact a6, fun k hk => ?_, fun k hk => ?_, fun k hk => ?_, fun k hk => ?_, fun k hk hk2 => ?_⟩
  · by_cases z : k = d
    · rw [z, updS, updS]
    · rw [updE z, updE (by omega)]; exact b0 k hk
  · rw [updE (by omega)]; exact b1 k hk
  · rw [updE (by omega)]; exact b2 k hk
  · rw [updE (by omega)]; exact b3 k hk
  · rw [nn, updE (by omega)] at hk2
    rw [updE (by omega)]; exact b4 k hk hk2
theorem DV.g1' {F g0 g1 g2 g3 g4 c : Nat → Int32} {d : Nat} {x : Int32} (hd : d < 84) (H : DV F g0 g1 g2 g3 g4 c) : DV F g0 (upd g1 d x) g2 g3 g4 (upd c (86 + d) x) := by
  obtain ⟨a0, a1, a2, a3, a4, a5, a6, b0, b1, b2, b3, b4⟩ := H
  refine ⟨by rw [updE (by omega)]; exact a0, by rw [updE (by omega)]; exact a1, by rw [updE (by omega)]; exact a2, by rw [updE (by omega)]; exact a3, by rw [updE (by omega)]; exact a4, by rw [updE (by omega)]; exact a5, by rw [updE (by omega)]; exact a6, fun k hk => ?_, fun k hk => ?_, fun k hk => ?_, fun k hk => ?_, fun k hk hk2 => ?_⟩
  · rw [updE (by omega)]; exact b0 k hk
  · by_cases z : k = d
    · rw [z, updS, updS]
    · rw [updE z, updE (by omega)]; exact b1 k hk
  · rw [updE (by omega)]; exact b2 k hk
  · rw [updE (by omega)]; exact b3 k hk
  · rw [nn, updE (by omega)] at hk2
    rw [updE (by omega)]; exact b4 k hk hk2
theorem DV.g2' {F g0 g1 g2 g3 g4 c : Nat → Int32} {d : Nat} {x : Int32} (hd : d < 84) (H : DV F g0 g1 g2 g3 g4 c) : DV F g0 g1 (upd g2 d x) g3 g4 (upd c (170 + d) x) := by
  obtain ⟨a0, a1, a2, a3, a4, a5, a6, b0, b1, b2, b3, b4⟩ := H
  refine ⟨by rw [updE (by omega)]; exact a0, by rw [updE (by omega)]; exact a1, by rw [updE (by omega)]; exact a2, by rw [updE (by omega)]; exact a3, by rw [updE (by omega)]; exact a4, by rw [updE (by omega)]; exact a5, by rw [updE (by omega)]; exact a6, fun k hk => ?_, fun k hk => ?_, fun k hk => ?_, fun k hk => ?_, fun k hk hk2 => ?_⟩
  · rw [updE (by omega)]; exact b0 k hk
  · rw [updE (by omega)]; exact b1 k hk
  · by_cases z : k = d
    · rw [z, updS, updS]
    · rw [updE z, updE (by omega)]; exact b2 k hk
  · rw [updE (by omega)]; exact b3 k hk
  · rw [nn, updE (by omega)] at hk2
    rw [updE (by omega)]; exact b4 k hk hk2
theorem DV.g3' {F g0 g1 g2 g3 g4 c : Nat → Int32} {d : Nat} {x : Int32} (hd : d < 14) (H : DV F g0 g1 g2 g3 g4 c) : DV F g0 g1 g2 (upd g3 d x) g4 (upd c (254 + d) x) := by
  obtain ⟨a0, a1, a2, a3, a4, a5, a6, b0, b1, b2, b3, b4⟩ := H
  refine ⟨by rw [updE (by omega)]; exact a0, by rw [updE (by omega)]; exact a1, by rw [updE (by omega)]; exact a2, by rw [updE (by omega)]; exact a3, by rw [updE (by omega)]; exact a4, by rw [updE (by omega)]; exact a5, by rw [updE (by omega)]; exact a6, fun k hk => ?_, fun k hk => ?_, fun k hk => ?_, fun k hk => ?_, fun k hk hk2 => ?_⟩
  · rw [updE (by omega)]; exact b0 k hk
  · rw [updE (by omega)]; exact b1 k hk
  · rw [updE (by omega)]; exact b2 k hk
  · by_cases z : k = d
    · rw [z, updS, updS]
    · rw [updE z, updE (by omega)]; exact b3 k hk
  · rw [nn, updE (by omega)] at hk2
    rw [updE (by omega)]; exact b4 k hk hk2
theorem DV.g4' {F g0 g1 g2 g3 g4 c : Nat → Int32} {w x : Nat} (hw : w < 8) (h1 : c 271 = nI w) (H : DV F g0 g1 g2 g3 g4 c) : DV (upd F 4 (nI (w + 1))) g0 g1 g2 g3 (upd g4 w (nI x)) (cw c w x) := by
  obtain ⟨a0, a1, a2, a3, a4, a5, a6, b0, b1, b2, b3, b4⟩ := H
  have e : ∀ q, q ≠ 272 + w → q ≠ 271 → cw c w x q = c q := fun q a d => by rw [cw, updE d, updE a]
  refine ⟨by rw [e _ (by omega) (by omega), updE (by omega)]; exact a0, by rw [e _ (by omega) (by omega), updE (by omega)]; exact a1, by rw [e _ (by omega) (by omega), updE (by omega)]; exact a2, by rw [e _ (by omega) (by omega), updE (by omega)]; exact a3, by rw [cw, updS, updS], by rw [e _ (by omega) (by omega), updE (by omega)]; exact a5, by rw [e _ (by omega) (by omega), updE (by omega)]; exact a6, fun k hk => ?_, fun k hk => ?_, fun k hk => ?_, fun k hk => ?_, fun k hk hk2 => ?_⟩
  · rw [e _ (by omega) (by omega)]; exact b0 k hk
  · rw [e _ (by omega) (by omega)]; exact b1 k hk
  · rw [e _ (by omega) (by omega)]; exact b2 k hk
  · rw [e _ (by omega) (by omega)]; exact b3 k hk
  · rw [nn, cw, updS, nI_clamp (by omega)] at hk2
    by_cases z : k = w
    · rw [z, updS, cw, updE (by omega), updS]
    · rw [updE z, e _ (by omega) (by omega)]
      exact b4 k hk (by rw [nn, h1, nI_clamp (by omega)]; omega)
def fI (f : Nat) : Nat := if f = 0 then 0 else if f = 1 then 1 else if f = 2 then 280 else if f = 3 then 270 else if f = 5 then 268 else 269
theorem DV.f' {F g0 g1 g2 g3 g4 c : Nat → Int32} {f : Nat} {x : Int32} (hf : f = 0 ∨ f = 1 ∨ f = 2 ∨ f = 3 ∨ f = 5 ∨ f = 6) (H : DV F g0 g1 g2 g3 g4 c) : DV (upd F f x) g0 g1 g2 g3 g4 (upd c (fI f) x) := by
  obtain ⟨a0, a1, a2, a3, a4, a5, a6, b0, b1, b2, b3, b4⟩ := H
  have hr : fI f < 2 ∨ (268 ≤ fI f ∧ fI f ≤ 270) ∨ fI f = 280 := by rcases hf with rfl | rfl | rfl | rfl | rfl | rfl <;> decide
  refine ⟨?_, ?_, ?_, ?_, ?_, ?_, ?_, fun k hk => ?_, fun k hk => ?_, fun k hk => ?_, fun k hk => ?_, fun k hk hk2 => ?_⟩
  · rcases hf with rfl | rfl | rfl | rfl | rfl | rfl <;> first | exact updS.trans updS.symm | exact (updE (by decide)).trans (a0.trans (updE (by decide)).symm)
  · rcases hf with rfl | rfl | rfl | rfl | rfl | rfl <;> first | exact updS.trans updS.symm | exact (updE (by decide)).trans (a1.trans (updE (by decide)).symm)
  · rcases hf with rfl | rfl | rfl | rfl | rfl | rfl <;> first | exact updS.trans updS.symm | exact (updE (by decide)).trans (a2.trans (updE (by decide)).symm)
  · rcases hf with rfl | rfl | rfl | rfl | rfl | rfl <;> first | exact updS.trans updS.symm | exact (updE (by decide)).trans (a3.trans (updE (by decide)).symm)
  · rcases hf with rfl | rfl | rfl | rfl | rfl | rfl <;> first | exact updS.trans updS.symm | exact (updE (by decide)).trans (a4.trans (updE (by decide)).symm)
  · rcases hf with rfl | rfl | rfl | rfl | rfl | rfl <;> first | exact updS.trans updS.symm | exact (updE (by decide)).trans (a5.trans (updE (by decide)).symm)
  · rcases hf with rfl | rfl | rfl | rfl | rfl | rfl <;> first | exact updS.trans updS.symm | exact (updE (by decide)).trans (a6.trans (updE (by decide)).symm)
  · rw [updE (by omega)]; exact b0 k hk
  · rw [updE (by omega)]; exact b1 k hk
  · rw [updE (by omega)]; exact b2 k hk
  · rw [updE (by omega)]; exact b3 k hk
  · rw [nn, updE (by omega)] at hk2
    rw [updE (by omega)]; exact b4 k hk hk2
theorem s32D {X : ai_X} {h : ai_H} {c : Nat → Int32} {r i x : Nat} (D : DC h c) (hd : 6 * r + i < 84) : Mt X am_32 [.ref 9, .int (nI r), .int (nI i), .int (nI x)] h (Qv (fun h1 => Fr 9 15 h h1 ∧ DC h1 (c3 c (6 * r + i) x))) := by
  obtain ⟨F, g0, g1, g2, g3, g4, d9, d10, d11, d12, d13, d14, hV⟩ := id D
  have F0 : Fr 9 15 h h := Fr.rfl'
  have hd2 : 6 * r + i = r * 6 + i := by omega
  refine rk_aload_n rfl rfl ?_
  refine rk_get rfl (by assumption) rfl ?_
  refine rk_iload_n rfl rfl ?_
  refine rk_bipush (v := nI 6) rfl (by decide) ?_
  refine rk_imul rfl (pk_mul _ _) ?_
  refine rk_iload_n rfl rfl ?_
  refine rk_iadd rfl (nI_add _ _) ?_
  refine rk_iload_n rfl rfl ?_
  refine rk_iast rfl d10 (rfl) (by omega) (by decide) ?_
  refine hp_gen d10 (fun h1 g1 hk1 hl1 => ?_)
  replace d9 := (hk1 _ (by omega)).trans d9
  replace d11 := (hk1 _ (by omega)).trans d11
  replace d12 := (hk1 _ (by omega)).trans d12
  replace d13 := (hk1 _ (by omega)).trans d13
  replace d14 := (hk1 _ (by omega)).trans d14
  replace F0 := F0.tr (Fr.mk1 hk1 hl1 (by omega) (by omega))
  replace d10 := g1
  refine rk_aload_n rfl rfl ?_
  refine rk_get rfl (by assumption) rfl ?_
  refine rk_iload_n rfl rfl ?_
  refine rk_bipush (v := nI 6) rfl (by decide) ?_
  refine rk_imul rfl (pk_mul _ _) ?_
  refine rk_iload_n rfl rfl ?_
  refine rk_iadd rfl (nI_add _ _) ?_
  refine rk_iconst (v := (-1)) rfl (by decide) ?_
  refine rk_iast rfl d11 (rfl) (by omega) (by decide) ?_
  refine hp_gen d11 (fun h1 g1 hk1 hl1 => ?_)
  replace d9 := (hk1 _ (by omega)).trans d9
  replace d10 := (hk1 _ (by omega)).trans d10
  replace d12 := (hk1 _ (by omega)).trans d12
  replace d13 := (hk1 _ (by omega)).trans d13
  replace d14 := (hk1 _ (by omega)).trans d14
  replace F0 := F0.tr (Fr.mk1 hk1 hl1 (by omega) (by omega))
  replace d11 := g1
  refine rk_aload_n rfl rfl ?_
  refine rk_get rfl (by assumption) rfl ?_
  refine rk_iload_n rfl rfl ?_
  refine rk_bipush (v := nI 6) rfl (by decide) ?_
  refine rk_imul rfl (pk_mul _ _) ?_
  refine rk_iload_n rfl rfl ?_
  refine rk_iadd rfl (nI_add _ _) ?_
  refine rk_iconst (v := nI 0) rfl (by decide) ?_
  refine rk_iast rfl d12 (rfl) (by omega) (by decide) ?_
  refine hp_gen d12 (fun h1 g1 hk1 hl1 => ?_)
  replace d9 := (hk1 _ (by omega)).trans d9
  replace d10 := (hk1 _ (by omega)).trans d10
  replace d11 := (hk1 _ (by omega)).trans d11
  replace d13 := (hk1 _ (by omega)).trans d13
  replace d14 := (hk1 _ (by omega)).trans d14
  replace F0 := F0.tr (Fr.mk1 hk1 hl1 (by omega) (by omega))
  replace d12 := g1
  exact rk_return rfl rfl ⟨_, rfl, F0, F, _, _, _, _, _, d9, d10, d11, d12, d13, d14, by rw [hd2, c3]; exact ((hV.g0' (by omega)).g1' (by omega)).g2' (by omega)⟩
theorem s33D {X : ai_X} {h : ai_H} {c : Nat → Int32} {r i x y : Nat} (D : DC h c) (hd : 6 * r + i < 84) : Mt X am_33 [.ref 9, .int (nI r), .int (nI i), .int (nI x), .int (nI y)] h (Qv (fun h1 => Fr 9 15 h h1 ∧ DC h1 (c2 c (6 * r + i) x y))) := by
  obtain ⟨F, g0, g1, g2, g3, g4, d9, d10, d11, d12, d13, d14, hV⟩ := id D
  have F0 : Fr 9 15 h h := Fr.rfl'
  have hd2 : 6 * r + i = r * 6 + i := by omega
  refine rk_aload_n rfl rfl ?_
  refine rk_get rfl (by assumption) rfl ?_
  refine rk_iload_n rfl rfl ?_
  refine rk_bipush (v := nI 6) rfl (by decide) ?_
  refine rk_imul rfl (pk_mul _ _) ?_
  refine rk_iload_n rfl rfl ?_
  refine rk_iadd rfl (nI_add _ _) ?_
  refine rk_iload_n rfl rfl ?_
  refine rk_iast rfl d11 (rfl) (by omega) (by decide) ?_
  refine hp_gen d11 (fun h1 g1 hk1 hl1 => ?_)
  replace d9 := (hk1 _ (by omega)).trans d9
  replace d10 := (hk1 _ (by omega)).trans d10
  replace d12 := (hk1 _ (by omega)).trans d12
  replace d13 := (hk1 _ (by omega)).trans d13
  replace d14 := (hk1 _ (by omega)).trans d14
  replace F0 := F0.tr (Fr.mk1 hk1 hl1 (by omega) (by omega))
  replace d11 := g1
  refine rk_aload_n rfl rfl ?_
  refine rk_get rfl (by assumption) rfl ?_
  refine rk_iload_n rfl rfl ?_
  refine rk_bipush (v := nI 6) rfl (by decide) ?_
  refine rk_imul rfl (pk_mul _ _) ?_
  refine rk_iload_n rfl rfl ?_
  refine rk_iadd rfl (nI_add _ _) ?_
  refine rk_iload rfl rfl ?_
  refine rk_iast rfl d12 (rfl) (by omega) (by decide) ?_
  refine hp_gen d12 (fun h1 g1 hk1 hl1 => ?_)
  replace d9 := (hk1 _ (by omega)).trans d9
  replace d10 := (hk1 _ (by omega)).trans d10
  replace d11 := (hk1 _ (by omega)).trans d11
  replace d13 := (hk1 _ (by omega)).trans d13
  replace d14 := (hk1 _ (by omega)).trans d14
  replace F0 := F0.tr (Fr.mk1 hk1 hl1 (by omega) (by omega))
  replace d12 := g1
  exact rk_return rfl rfl ⟨_, rfl, F0, F, _, _, _, _, _, d9, d10, d11, d12, d13, d14, by rw [hd2, c2]; exact (hV.g1' (by omega)).g2' (by omega)⟩
theorem s34D {X : ai_X} {h : ai_H} {c : Nat → Int32} {r x : Nat} (D : DC h c) (hd : r < 14) : Mt X am_34 [.ref 9, .int (nI r), .int (nI x)] h (Qv (fun h1 => Fr 9 15 h h1 ∧ DC h1 (upd c (254 + r) (nI x)))) := by
  obtain ⟨F, g0, g1, g2, g3, g4, d9, d10, d11, d12, d13, d14, hV⟩ := id D
  have F0 : Fr 9 15 h h := Fr.rfl'
  refine rk_aload_n rfl rfl ?_
  refine rk_get rfl (by assumption) rfl ?_
  refine rk_iload_n rfl rfl ?_
  refine rk_iload_n rfl rfl ?_
  refine rk_iast rfl d13 (rfl) (by omega) (by decide) ?_
  refine hp_gen d13 (fun h1 g1 hk1 hl1 => ?_)
  replace d9 := (hk1 _ (by omega)).trans d9
  replace d10 := (hk1 _ (by omega)).trans d10
  replace d11 := (hk1 _ (by omega)).trans d11
  replace d12 := (hk1 _ (by omega)).trans d12
  replace d14 := (hk1 _ (by omega)).trans d14
  replace F0 := F0.tr (Fr.mk1 hk1 hl1 (by omega) (by omega))
  replace d13 := g1
  exact rk_return rfl rfl ⟨_, rfl, F0, F, _, _, _, _, _, d9, d10, d11, d12, d13, d14, hV.g3' hd⟩
theorem s35D {X : ai_X} {h : ai_H} {c : Nat → Int32} {w x : Nat} (D : DC h c) (hw : w < 8) (c271 : c 271 = nI w) : Mt X am_35 [.ref 9, .int (nI x)] h (Qv (fun h1 => Fr 9 15 h h1 ∧ DC h1 (cw c w x))) := by
  obtain ⟨F, g0, g1, g2, g3, g4, d9, d10, d11, d12, d13, d14, hV⟩ := id D
  have F0 : Fr 9 15 h h := Fr.rfl'
  have hF4 : F 4 = nI w := hV.2.2.2.2.1.trans c271
  refine rk_aload_n rfl rfl ?_
  refine rk_get rfl (by assumption) rfl ?_
  rw [hF4]
  refine rk_bipush (v := nI 8) rfl (by decide) ?_
  refine rk_icmp_ge rfl rfl (fun hc3 => ?_) (fun hc3 => ?_)
  · replace hc3 := (nI_leI (by omega) (by omega)).mp hc3
    omega
  · replace hc3 := mt (nI_leI (by omega) (by omega)).mpr hc3
    refine rk_aload_n rfl rfl ?_
    refine rk_get rfl (by assumption) rfl ?_
    refine rk_aload_n rfl rfl ?_
    refine rk_get rfl (by assumption) rfl ?_
    rw [hF4]
    refine rk_iload_n rfl rfl ?_
    refine rk_iast rfl d14 (rfl) (by omega) (by decide) ?_
    refine hp_gen d14 (fun h1 g1 hk1 hl1 => ?_)
    replace d9 := (hk1 _ (by omega)).trans d9
    replace d10 := (hk1 _ (by omega)).trans d10
    replace d11 := (hk1 _ (by omega)).trans d11
    replace d12 := (hk1 _ (by omega)).trans d12
    replace d13 := (hk1 _ (by omega)).trans d13
    replace F0 := F0.tr (Fr.mk1 hk1 hl1 (by omega) (by omega))
    replace d14 := g1
    refine rk_aload_n rfl rfl ?_
    refine rk_dup_a rfl ?_
    refine rk_get rfl (by assumption) rfl ?_
    rw [hF4]
    refine rk_iconst (v := nI 1) rfl (by decide) ?_
    refine rk_iadd rfl (nI_add _ _) ?_
    refine rk_putH rfl d9 (by omega) (fun h1 e9 hk1 hl1 => ?_)
    replace d10 := (hk1 _ (by omega)).trans d10
    replace d11 := (hk1 _ (by omega)).trans d11
    replace d12 := (hk1 _ (by omega)).trans d12
    replace d13 := (hk1 _ (by omega)).trans d13
    replace d14 := (hk1 _ (by omega)).trans d14
    replace F0 := F0.tr (Fr.mk1 hk1 hl1 (by omega) (by omega))
    exact rk_return rfl rfl ⟨_, rfl, F0, _, _, _, _, _, _, e9, d10, d11, d12, d13, d14, hV.g4' hw c271⟩
/-- only the reader and the draft are changed -/
def FrC (h h1 : ai_H) : Prop := h1.length = h.length ∧ ∀ q : Nat, q ≠ 2 → ¬ (9 ≤ q ∧ q < 15) → h1[q]? = h[q]?
theorem FrC.rfl' {h : ai_H} : FrC h h := ⟨rfl, fun _ _ _ => rfl⟩
theorem FrC.t2 {h h1 h2 : ai_H} (a : FrC h h1) (b : Fr 2 3 h1 h2) : FrC h h2 := ⟨b.1.trans a.1, fun q x y => (b.2 q (by omega)).trans (a.2 q x y)⟩
theorem FrC.t9 {h h1 h2 : ai_H} (a : FrC h h1) (b : Fr 9 15 h1 h2) : FrC h h2 := ⟨b.1.trans a.1, fun q x y => (b.2 q y).trans (a.2 q x y)⟩
theorem FrC.tr {h h1 h2 : ai_H} (a : FrC h h1) (b : FrC h1 h2) : FrC h h2 := ⟨b.1.trans a.1, fun q x y => (b.2 q x y).trans (a.2 q x y)⟩
/-- the class has read this -/
def CRd (h h1 : ai_H) (n : Nat) (r : RR) : Prop := FrC h h1 ∧ ((r.k = 0 ∧ RDE h1 n 0 (-1) r.q ∧ DC h1 r.c) ∨ (¬ r.k = 0 ∧ ∃ E, E ≤ n ∧ RDE h1 n (nI r.k) (nI r.pl) E ∧ ∃ F G, HouseAt h1 9 F G))
theorem CRd.ok {h h1 : ai_H} {n q : Nat} {c : Nat → Int32} (a : FrC h h1) (R : RDE h1 n 0 (-1) q) (D : DC h1 c) : CRd h h1 n (okR c q) := ⟨a, Or.inl ⟨rfl, R, D⟩⟩
theorem CRd.f {h h1 : ai_H} {n k pl E : Nat} (hk : ¬ k = 0) (a : FrC h h1) (hE : E ≤ n) (R : RDE h1 n (nI k) (nI pl) E) (H : ∃ F G, HouseAt h1 9 F G) : CRd h h1 n (fR k pl) := ⟨a, Or.inr ⟨hk, E, hE, R, H⟩⟩
theorem nf_i {b : Nat → Nat} {n lo hi q : Nat} (h : ¬ nf b n lo hi q = 0) : ¬ nI (nf b n lo hi q) = 0 := fun y => h ((n0_eq (by have := nf_le (b := b) (n := n) (lo := lo) (hi := hi) (q := q); omega)).mp y)
theorem s83 {X : ai_X} {h : ai_H} {b : Nat → Nat} {n N t q : Nat} {c : Nat → Int32} (Tp : TP h 1 b) (hn : n ≤ 600) (hq0 : q ≤ n) (R : RDE h n 0 (-1) q) (D : DC h c) (hN0 : 1 ≤ N) (hN : N ≤ 14) (ht0 : 1 ≤ t) (ht : t ≤ 6) (c0 : c 0 = nI N) (c1 : c 1 = nI t) : Mt X am_83 [.ref 2, .ref 9] h (Qv (fun h1 => CRd h h1 n (num b n 0 (N - 1) q (fun r q => num b n 0 (t - 1) q (fun i q => okR (c3 c (6 * r + i) r) q))))) := by
  obtain ⟨F, g0, g1, g2, g3, g4, d9, d10, d11, d12, d13, d14, hV⟩ := id D
  have hF0 : F 0 = nI N := hV.1.trans c0
  have hF1 : F 1 = nI t := hV.2.1.trans c1
  have FC : FrC h h := FrC.rfl'
  obtain ⟨gg, e2, -⟩ := id R
  refine rk_aload_n rfl rfl ?_
  refine rk_iconst (v := nI 0) rfl (by decide) ?_
  refine rk_aload_n rfl rfl ?_
  refine rk_get rfl (by assumption) rfl ?_
  rw [hF0]
  refine rk_iconst (v := nI 1) rfl (by decide) ?_
  refine rk_isub rfl (pk_sub (by omega)) ?_
  refine rk_cv2i rfl rfl (by assumption) rfl rfl (Nat.le_of_ble_eq_true rfl) (Nat.le_of_ble_eq_true rfl) (s80 Tp hn (by assumption) (by omega) (by omega) R) (fun w h1 hF => ?_)
  obtain ⟨F1, hF⟩ := hF
  replace FC := FC.t2 F1
  replace Tp := Tp.fr (F1.2 1 (by omega))
  replace D := D.fr (fun q _ _ => F1.2 q (by omega))
  replace d9 := (F1.2 9 (by omega)).trans d9
  have hq : q ≤ n := by assumption
  by_cases z1 : nf b n 0 (N - 1) q = 0
  · rw [if_pos z1] at hF
    obtain ⟨rfl, R⟩ := hF
    obtain ⟨g, e2, hg0, hg1, hg3, hg4, hg5, hg6⟩ := id R
    replace R := R.e
    obtain ⟨uz1, vz1⟩ := nf_b z1
    have qz1 := (te_b (b := b) hq).2.1
    refine rk_istore_n rfl (Nat.le_of_ble_eq_true rfl) rfl ?_
    refine rk_aload_n rfl rfl ?_
    refine rk_iconst (v := nI 0) rfl (by decide) ?_
    refine rk_aload_n rfl rfl ?_
    refine rk_get rfl (by assumption) rfl ?_
    rw [hF1]
    refine rk_iconst (v := nI 1) rfl (by decide) ?_
    refine rk_isub rfl (pk_sub (by omega)) ?_
    refine rk_cv2i rfl rfl (by assumption) rfl rfl (Nat.le_of_ble_eq_true rfl) (Nat.le_of_ble_eq_true rfl) (s80 Tp hn (by assumption) (by omega) (by omega) R) (fun w h1 hF => ?_)
    obtain ⟨F1, hF⟩ := hF
    replace FC := FC.t2 F1
    replace Tp := Tp.fr (F1.2 1 (by omega))
    replace D := D.fr (fun q _ _ => F1.2 q (by omega))
    replace d9 := (F1.2 9 (by omega)).trans d9
    have hq : (te b n q) ≤ n := by assumption
    by_cases z2 : nf b n 0 (t - 1) (te b n q) = 0
    · rw [if_pos z2] at hF
      obtain ⟨rfl, R⟩ := hF
      obtain ⟨g, e2, hg0, hg1, hg3, hg4, hg5, hg6⟩ := id R
      replace R := R.e
      obtain ⟨uz2, vz2⟩ := nf_b z2
      have qz2 := (te_b (b := b) hq).2.1
      refine rk_istore_n rfl (Nat.le_of_ble_eq_true rfl) rfl ?_
      refine rk_aload_n rfl rfl ?_
      refine rk_get rfl (by assumption) rfl ?_
      rw [hg0]
      refine rk_if_ne rfl rfl (fun y => absurd rfl y) (fun _ => ?_)
      refine rk_aload_n rfl rfl ?_
      refine rk_iload_n rfl rfl ?_
      refine rk_iload_n rfl rfl ?_
      refine rk_iload_n rfl rfl ?_
      refine rk_cv3v rfl rfl (by assumption) rfl rfl (Nat.le_of_ble_eq_true rfl) (Nat.le_of_ble_eq_true rfl) (s32D D (r := tv b n q) (i := tv b n (te b n q)) (by omega)) (fun h1 hF => ?_)
      obtain ⟨F2, D2⟩ := hF
      exact rk_return rfl rfl ⟨_, rfl, by rw [num_y z1, num_y z2]; exact CRd.ok (FC.t9 F2) (R.fr (F2.2 2 (by omega))) D2⟩
    · rw [if_neg z2] at hF
      obtain ⟨rfl, R⟩ := hF
      obtain ⟨g, e2, hg0, -⟩ := id R
      have hf0 : ¬ g 0 = 0 := fun y => nf_i z2 (hg0.symm.trans y)
      refine rk_istore_n rfl (Nat.le_of_ble_eq_true rfl) rfl ?_
      refine rk_aload_n rfl rfl ?_
      refine rk_get rfl (by assumption) rfl ?_
      refine rk_if_ne rfl rfl (fun hc18 => ?_) (fun hc18 => ?_)
      · exact rk_return rfl rfl ⟨_, rfl, by rw [num_y z1, num_n z2]; exact CRd.f z2 FC (te_b hq).2.1 R D.at⟩
      · replace hc18 := Decidable.not_not.mp hc18
        exact absurd hc18 hf0
  · rw [if_neg z1] at hF
    obtain ⟨rfl, R⟩ := hF
    obtain ⟨g, e2, hg0, -⟩ := id R
    have hf0 : ¬ g 0 = 0 := fun y => nf_i z1 (hg0.symm.trans y)
    refine rk_istore_n rfl (Nat.le_of_ble_eq_true rfl) rfl ?_
    refine rk_aload_n rfl rfl ?_
    refine rk_iconst (v := nI 0) rfl (by decide) ?_
    refine rk_aload_n rfl rfl ?_
    refine rk_get rfl (by assumption) rfl ?_
    refine rk_iconst (v := nI 1) rfl (by decide) ?_
    refine rk_isub rfl rfl ?_
    refine rk_cv2e rfl rfl (by assumption) rfl rfl (Nat.le_of_ble_eq_true rfl) (Nat.le_of_ble_eq_true rfl) (s80F (nf_i z1) R) ?_
    refine rk_istore_n rfl (Nat.le_of_ble_eq_true rfl) rfl ?_
    refine rk_aload_n rfl rfl ?_
    refine rk_get rfl (by assumption) rfl ?_
    refine rk_if_ne rfl rfl (fun hc18 => ?_) (fun hc18 => ?_)
    · exact rk_return rfl rfl ⟨_, rfl, by rw [num_n z1]; exact CRd.f z1 FC (te_b hq).2.1 R D.at⟩
    · replace hc18 := Decidable.not_not.mp hc18
      exact absurd hc18 hf0
theorem s84 {X : ai_X} {h : ai_H} {b : Nat → Nat} {n N t q : Nat} {c : Nat → Int32} (Tp : TP h 1 b) (hn : n ≤ 600) (hq0 : q ≤ n) (R : RDE h n 0 (-1) q) (D : DC h c) (hN0 : 1 ≤ N) (hN : N ≤ 14) (ht0 : 1 ≤ t) (ht : t ≤ 6) (c0 : c 0 = nI N) (c1 : c 1 = nI t) : Mt X am_84 [.ref 2, .ref 9] h (Qv (fun h1 => CRd h h1 n (num b n 0 (N - 1) q (fun r q => num b n 0 9 q (fun s q => okR (upd c (254 + r) (nI s)) q))))) := by
  obtain ⟨F, g0, g1, g2, g3, g4, d9, d10, d11, d12, d13, d14, hV⟩ := id D
  have hF0 : F 0 = nI N := hV.1.trans c0
  have hF1 : F 1 = nI t := hV.2.1.trans c1
  have FC : FrC h h := FrC.rfl'
  obtain ⟨gg, e2, -⟩ := id R
  refine rk_aload_n rfl rfl ?_
  refine rk_iconst (v := nI 0) rfl (by decide) ?_
  refine rk_aload_n rfl rfl ?_
  refine rk_get rfl (by assumption) rfl ?_
  rw [hF0]
  refine rk_iconst (v := nI 1) rfl (by decide) ?_
  refine rk_isub rfl (pk_sub (by omega)) ?_
  refine rk_cv2i rfl rfl (by assumption) rfl rfl (Nat.le_of_ble_eq_true rfl) (Nat.le_of_ble_eq_true rfl) (s80 Tp hn (by assumption) (by omega) (by omega) R) (fun w h1 hF => ?_)
  obtain ⟨F1, hF⟩ := hF
  replace FC := FC.t2 F1
  replace Tp := Tp.fr (F1.2 1 (by omega))
  replace D := D.fr (fun q _ _ => F1.2 q (by omega))
  replace d9 := (F1.2 9 (by omega)).trans d9
  have hq : q ≤ n := by assumption
  by_cases z3 : nf b n 0 (N - 1) q = 0
  · rw [if_pos z3] at hF
    obtain ⟨rfl, R⟩ := hF
    obtain ⟨g, e2, hg0, hg1, hg3, hg4, hg5, hg6⟩ := id R
    replace R := R.e
    obtain ⟨uz3, vz3⟩ := nf_b z3
    have qz3 := (te_b (b := b) hq).2.1
    refine rk_istore_n rfl (Nat.le_of_ble_eq_true rfl) rfl ?_
    refine rk_aload_n rfl rfl ?_
    refine rk_iconst (v := nI 0) rfl (by decide) ?_
    refine rk_bipush (v := nI 9) rfl (by decide) ?_
    refine rk_cv2i rfl rfl (by assumption) rfl rfl (Nat.le_of_ble_eq_true rfl) (Nat.le_of_ble_eq_true rfl) (s80 Tp hn (by assumption) (by omega) (by omega) R) (fun w h1 hF => ?_)
    obtain ⟨F1, hF⟩ := hF
    replace FC := FC.t2 F1
    replace Tp := Tp.fr (F1.2 1 (by omega))
    replace D := D.fr (fun q _ _ => F1.2 q (by omega))
    replace d9 := (F1.2 9 (by omega)).trans d9
    have hq : (te b n q) ≤ n := by assumption
    by_cases z4 : nf b n 0 9 (te b n q) = 0
    · rw [if_pos z4] at hF
      obtain ⟨rfl, R⟩ := hF
      obtain ⟨g, e2, hg0, hg1, hg3, hg4, hg5, hg6⟩ := id R
      replace R := R.e
      obtain ⟨uz4, vz4⟩ := nf_b z4
      have qz4 := (te_b (b := b) hq).2.1
      refine rk_istore_n rfl (Nat.le_of_ble_eq_true rfl) rfl ?_
      refine rk_aload_n rfl rfl ?_
      refine rk_get rfl (by assumption) rfl ?_
      rw [hg0]
      refine rk_if_ne rfl rfl (fun y => absurd rfl y) (fun _ => ?_)
      refine rk_aload_n rfl rfl ?_
      refine rk_iload_n rfl rfl ?_
      refine rk_iload_n rfl rfl ?_
      refine rk_cv2v rfl rfl (by assumption) rfl rfl (Nat.le_of_ble_eq_true rfl) (Nat.le_of_ble_eq_true rfl) (s34D D (r := tv b n q) (by omega)) (fun h1 hF => ?_)
      obtain ⟨F2, D2⟩ := hF
      exact rk_return rfl rfl ⟨_, rfl, by rw [num_y z3, num_y z4]; exact CRd.ok (FC.t9 F2) (R.fr (F2.2 2 (by omega))) D2⟩
    · rw [if_neg z4] at hF
      obtain ⟨rfl, R⟩ := hF
      obtain ⟨g, e2, hg0, -⟩ := id R
      have hf0 : ¬ g 0 = 0 := fun y => nf_i z4 (hg0.symm.trans y)
      refine rk_istore_n rfl (Nat.le_of_ble_eq_true rfl) rfl ?_
      refine rk_aload_n rfl rfl ?_
      refine rk_get rfl (by assumption) rfl ?_
      refine rk_if_ne rfl rfl (fun hc15 => ?_) (fun hc15 => ?_)
      · exact rk_return rfl rfl ⟨_, rfl, by rw [num_y z3, num_n z4]; exact CRd.f z4 FC (te_b hq).2.1 R D.at⟩
      · replace hc15 := Decidable.not_not.mp hc15
        exact absurd hc15 hf0
  · rw [if_neg z3] at hF
    obtain ⟨rfl, R⟩ := hF
    obtain ⟨g, e2, hg0, -⟩ := id R
    have hf0 : ¬ g 0 = 0 := fun y => nf_i z3 (hg0.symm.trans y)
    refine rk_istore_n rfl (Nat.le_of_ble_eq_true rfl) rfl ?_
    refine rk_aload_n rfl rfl ?_
    refine rk_iconst (v := nI 0) rfl (by decide) ?_
    refine rk_bipush (v := nI 9) rfl (by decide) ?_
    refine rk_cv2e rfl rfl (by assumption) rfl rfl (Nat.le_of_ble_eq_true rfl) (Nat.le_of_ble_eq_true rfl) (s80F (nf_i z3) R) ?_
    refine rk_istore_n rfl (Nat.le_of_ble_eq_true rfl) rfl ?_
    refine rk_aload_n rfl rfl ?_
    refine rk_get rfl (by assumption) rfl ?_
    refine rk_if_ne rfl rfl (fun hc15 => ?_) (fun hc15 => ?_)
    · exact rk_return rfl rfl ⟨_, rfl, by rw [num_n z3]; exact CRd.f z3 FC (te_b hq).2.1 R D.at⟩
    · replace hc15 := Decidable.not_not.mp hc15
      exact absurd hc15 hf0
theorem s82 {X : ai_X} {h : ai_H} {b : Nat → Nat} {n N t q : Nat} {c : Nat → Int32} (Tp : TP h 1 b) (hn : n ≤ 600) (hq0 : q ≤ n) (R : RDE h n 0 (-1) q) (D : DC h c) (hN0 : 1 ≤ N) (hN : N ≤ 14) (ht0 : 1 ≤ t) (ht : t ≤ 6) (c0 : c 0 = nI N) (c1 : c 1 = nI t) : Mt X am_82 [.ref 2, .ref 9] h (Qv (fun h1 => CRd h h1 n (num b n 0 (N - 1) q (fun r q => num b n 0 (t - 1) q (fun i q => num b n 0 (N - 1) q (fun x q' => if c (2 + (6 * r + i)) = nI x then fR 3 (ts b n q) else num b n 1 99 q' (fun y q'' => okR (c2 c (6 * r + i) x y) q''))))))) := by
  obtain ⟨F, g0, g1, g2, g3, g4, d9, d10, d11, d12, d13, d14, hV⟩ := id D
  have hF0 : F 0 = nI N := hV.1.trans c0
  have hF1 : F 1 = nI t := hV.2.1.trans c1
  have FC : FrC h h := FrC.rfl'
  obtain ⟨gg, e2, -⟩ := id R
  refine rk_aload_n rfl rfl ?_
  refine rk_iconst (v := nI 0) rfl (by decide) ?_
  refine rk_aload_n rfl rfl ?_
  refine rk_get rfl (by assumption) rfl ?_
  rw [hF0]
  refine rk_iconst (v := nI 1) rfl (by decide) ?_
  refine rk_isub rfl (pk_sub (by omega)) ?_
  refine rk_cv2i rfl rfl (by assumption) rfl rfl (Nat.le_of_ble_eq_true rfl) (Nat.le_of_ble_eq_true rfl) (s80 Tp hn (by assumption) (by omega) (by omega) R) (fun w h1 hF => ?_)
  obtain ⟨F1, hF⟩ := hF
  replace FC := FC.t2 F1
  replace Tp := Tp.fr (F1.2 1 (by omega))
  replace D := D.fr (fun q _ _ => F1.2 q (by omega))
  replace d9 := (F1.2 9 (by omega)).trans d9
  have hq : q ≤ n := by assumption
  by_cases z5 : nf b n 0 (N - 1) q = 0
  · rw [if_pos z5] at hF
    obtain ⟨rfl, R⟩ := hF
    obtain ⟨g, e2, hg0, hg1, hg3, hg4, hg5, hg6⟩ := id R
    replace R := R.e
    obtain ⟨uz5, vz5⟩ := nf_b z5
    have qz5 := (te_b (b := b) hq).2.1
    refine rk_istore_n rfl (Nat.le_of_ble_eq_true rfl) rfl ?_
    refine rk_aload_n rfl rfl ?_
    refine rk_iconst (v := nI 0) rfl (by decide) ?_
    refine rk_aload_n rfl rfl ?_
    refine rk_get rfl (by assumption) rfl ?_
    rw [hF1]
    refine rk_iconst (v := nI 1) rfl (by decide) ?_
    refine rk_isub rfl (pk_sub (by omega)) ?_
    refine rk_cv2i rfl rfl (by assumption) rfl rfl (Nat.le_of_ble_eq_true rfl) (Nat.le_of_ble_eq_true rfl) (s80 Tp hn (by assumption) (by omega) (by omega) R) (fun w h1 hF => ?_)
    obtain ⟨F1, hF⟩ := hF
    replace FC := FC.t2 F1
    replace Tp := Tp.fr (F1.2 1 (by omega))
    replace D := D.fr (fun q _ _ => F1.2 q (by omega))
    replace d9 := (F1.2 9 (by omega)).trans d9
    have hq : (te b n q) ≤ n := by assumption
    by_cases z6 : nf b n 0 (t - 1) (te b n q) = 0
    · rw [if_pos z6] at hF
      obtain ⟨rfl, R⟩ := hF
      obtain ⟨g, e2, hg0, hg1, hg3, hg4, hg5, hg6⟩ := id R
      replace R := R.e
      obtain ⟨uz6, vz6⟩ := nf_b z6
      have qz6 := (te_b (b := b) hq).2.1
      refine rk_istore_n rfl (Nat.le_of_ble_eq_true rfl) rfl ?_
      refine rk_aload_n rfl rfl ?_
      refine rk_iconst (v := nI 0) rfl (by decide) ?_
      refine rk_aload_n rfl rfl ?_
      refine rk_get rfl (by assumption) rfl ?_
      rw [hF0]
      refine rk_iconst (v := nI 1) rfl (by decide) ?_
      refine rk_isub rfl (pk_sub (by omega)) ?_
      refine rk_cv2i rfl rfl (by assumption) rfl rfl (Nat.le_of_ble_eq_true rfl) (Nat.le_of_ble_eq_true rfl) (s80 Tp hn (by assumption) (by omega) (by omega) R) (fun w h1 hF => ?_)
      obtain ⟨F1, hF⟩ := hF
      replace FC := FC.t2 F1
      replace Tp := Tp.fr (F1.2 1 (by omega))
      replace D := D.fr (fun q _ _ => F1.2 q (by omega))
      replace d9 := (F1.2 9 (by omega)).trans d9
      have hq : (te b n (te b n q)) ≤ n := by assumption
      by_cases z7 : nf b n 0 (N - 1) (te b n (te b n q)) = 0
      · rw [if_pos z7] at hF
        obtain ⟨rfl, R⟩ := hF
        obtain ⟨g, e2, hg0, hg1, hg3, hg4, hg5, hg6⟩ := id R
        replace R := R.e
        obtain ⟨uz7, vz7⟩ := nf_b z7
        have qz7 := (te_b (b := b) hq).2.1
        have hVp := hV.2.2.2.2.2.2.2.1 (tv b n q * 6 + tv b n (te b n q)) (by omega)
        rw [show 2 + (tv b n q * 6 + tv b n (te b n q)) = 2 + (6 * tv b n q + tv b n (te b n q)) by omega] at hVp
        obtain ⟨F9, g90, g91, g92, g93, g94, d9c, d10c, d11c, d12c, d13c, d14c, hVc⟩ := id D
        have hVd := hVc.2.2.2.2.2.2.2.1 (tv b n q * 6 + tv b n (te b n q)) (by omega)
        rw [show 2 + (tv b n q * 6 + tv b n (te b n q)) = 2 + (6 * tv b n q + tv b n (te b n q)) by omega] at hVd
        refine rk_istore rfl (Nat.le_of_ble_eq_true rfl) rfl ?_
        refine rk_aload_n rfl rfl ?_
        refine rk_get rfl (by assumption) rfl ?_
        rw [hg0]
        refine rk_if_ne rfl rfl (fun y => absurd rfl y) (fun _ => ?_)
        refine rk_aload_n rfl rfl ?_
        refine rk_iload_n rfl rfl ?_
        refine rk_iload_n rfl rfl ?_
        refine rk_cv2e rfl rfl (by assumption) rfl rfl (Nat.le_of_ble_eq_true rfl) (Nat.le_of_ble_eq_true rfl) (s27 (p := 9) (F := F9) (G := fun j => if j = 0 then g90 else if j = 1 then g91 else if j = 2 then g92 else if j = 3 then g93 else g94) ⟨d9c, d10c, d11c, d12c, d13c, d14c⟩ (r := tv b n q) (t := tv b n (te b n q)) (by omega)) ?_
        show Rk X am_82 31 _ (.int (g90 (tv b n q * 6 + tv b n (te b n q))) :: []) _ _
        rw [hVd]
        refine rk_iload rfl rfl ?_
        refine rk_icmp_ne rfl rfl (fun hc32 => ?_) (fun hc32 => ?_)
        · first
            | (refine rk_aload_n rfl rfl ?_
               refine rk_iconst (v := nI 1) rfl (by decide) ?_
               refine rk_bipush (v := nI 99) rfl (by decide) ?_
               refine rk_cv2e rfl rfl (by assumption) rfl rfl (Nat.le_of_ble_eq_true rfl) (Nat.le_of_ble_eq_true rfl) (s80F (show ¬ nI 3 = 0 by decide) R) ?_
               refine rk_istore rfl (Nat.le_of_ble_eq_true rfl) rfl ?_
               refine rk_aload_n rfl rfl ?_
               refine rk_get rfl (by assumption) rfl ?_
               refine rk_if_ne rfl rfl (fun hc45 => ?_) (fun hc45 => ?_)
               · exact rk_return rfl rfl ⟨_, rfl, by rw [num_y z5, num_y z6, num_y z7, if_pos hc32]; exact CRd.f (by decide) (FC.t2 F3) (te_b hq).2.1 R (D.fr (fun q _ _ => F3.2 q (by omega))).at⟩
               · replace hc45 := Decidable.not_not.mp hc45
                 exact absurd hc45 hf0)
            | (refine rk_aload_n rfl rfl ?_
               refine rk_iconst (v := nI 1) rfl (by decide) ?_
               refine rk_bipush (v := nI 99) rfl (by decide) ?_
               refine rk_cv2i rfl rfl (by assumption) rfl rfl (Nat.le_of_ble_eq_true rfl) (Nat.le_of_ble_eq_true rfl) (s80 Tp hn (by assumption) (by omega) (by omega) R) (fun w h1 hF => ?_)
               obtain ⟨F1, hF⟩ := hF
               replace FC := FC.t2 F1
               replace Tp := Tp.fr (F1.2 1 (by omega))
               replace D := D.fr (fun q _ _ => F1.2 q (by omega))
               replace d9 := (F1.2 9 (by omega)).trans d9
               have hq : (te b n (te b n (te b n q))) ≤ n := by assumption
               by_cases z8 : nf b n 1 99 (te b n (te b n (te b n q))) = 0
               · rw [if_pos z8] at hF
                 obtain ⟨rfl, R⟩ := hF
                 obtain ⟨g, e2, hg0, hg1, hg3, hg4, hg5, hg6⟩ := id R
                 replace R := R.e
                 obtain ⟨uz8, vz8⟩ := nf_b z8
                 have qz8 := (te_b (b := b) hq).2.1
                 refine rk_istore rfl (Nat.le_of_ble_eq_true rfl) rfl ?_
                 refine rk_aload_n rfl rfl ?_
                 refine rk_get rfl (by assumption) rfl ?_
                 rw [hg0]
                 refine rk_if_ne rfl rfl (fun y => absurd rfl y) (fun _ => ?_)
                 refine rk_aload_n rfl rfl ?_
                 refine rk_iload_n rfl rfl ?_
                 refine rk_iload_n rfl rfl ?_
                 refine rk_iload rfl rfl ?_
                 refine rk_iload rfl rfl ?_
                 refine rk_cv4v rfl rfl (by assumption) rfl rfl (Nat.le_of_ble_eq_true rfl) (Nat.le_of_ble_eq_true rfl) (s33D D (r := tv b n q) (i := tv b n (te b n q)) (by omega)) (fun h1 hF => ?_)
                 obtain ⟨F2, D2⟩ := hF
                 exact rk_return rfl rfl ⟨_, rfl, by rw [num_y z5, num_y z6, num_y z7, if_neg hc32, num_y z8]; exact CRd.ok (FC.t9 F2) (R.fr (F2.2 2 (by omega))) D2⟩
               · rw [if_neg z8] at hF
                 obtain ⟨rfl, R⟩ := hF
                 obtain ⟨g, e2, hg0, -⟩ := id R
                 have hf0 : ¬ g 0 = 0 := fun y => nf_i z8 (hg0.symm.trans y)
                 refine rk_istore rfl (Nat.le_of_ble_eq_true rfl) rfl ?_
                 refine rk_aload_n rfl rfl ?_
                 refine rk_get rfl (by assumption) rfl ?_
                 refine rk_if_ne rfl rfl (fun hc45 => ?_) (fun hc45 => ?_)
                 · exact rk_return rfl rfl ⟨_, rfl, by rw [num_y z5, num_y z6, num_y z7, if_neg hc32, num_n z8]; exact CRd.f z8 FC (te_b hq).2.1 R D.at⟩
                 · replace hc45 := Decidable.not_not.mp hc45
                   exact absurd hc45 hf0)
        · replace hc32 := Decidable.not_not.mp hc32
          refine rk_aload_n rfl rfl ?_
          refine rk_iconst (v := nI 3) rfl (by decide) ?_
          refine rk_aload_n rfl rfl ?_
          refine rk_get rfl (by assumption) rfl ?_
          refine rk_cv2v rfl rfl (by assumption) rfl rfl (Nat.le_of_ble_eq_true rfl) (Nat.le_of_ble_eq_true rfl) (s70 e2 hg0) (fun h1 hF => ?_)
          obtain ⟨F3, g5, e3, w0, w1, wo⟩ := hF
          replace R : RDE h1 n (nI 3) (nI (ts b n (te b n (te b n q)))) (te b n (te b n (te b n q))) := ⟨g5, e3, w0, w1.trans hg5, (wo 3 (by omega) (by omega)).trans hg3, (wo 6 (by omega) (by omega)).trans hg6⟩
          have hf0 : ¬ g5 0 = 0 := fun y => absurd (w0.symm.trans y) (by decide)
          first
            | (refine rk_aload_n rfl rfl ?_
               refine rk_iconst (v := nI 1) rfl (by decide) ?_
               refine rk_bipush (v := nI 99) rfl (by decide) ?_
               refine rk_cv2e rfl rfl (by assumption) rfl rfl (Nat.le_of_ble_eq_true rfl) (Nat.le_of_ble_eq_true rfl) (s80F (show ¬ nI 3 = 0 by decide) R) ?_
               refine rk_istore rfl (Nat.le_of_ble_eq_true rfl) rfl ?_
               refine rk_aload_n rfl rfl ?_
               refine rk_get rfl (by assumption) rfl ?_
               refine rk_if_ne rfl rfl (fun hc45 => ?_) (fun hc45 => ?_)
               · exact rk_return rfl rfl ⟨_, rfl, by rw [num_y z5, num_y z6, num_y z7, if_pos hc32]; exact CRd.f (by decide) (FC.t2 F3) (te_b hq).2.1 R (D.fr (fun q _ _ => F3.2 q (by omega))).at⟩
               · replace hc45 := Decidable.not_not.mp hc45
                 exact absurd hc45 hf0)
            | (refine rk_aload_n rfl rfl ?_
               refine rk_iconst (v := nI 1) rfl (by decide) ?_
               refine rk_bipush (v := nI 99) rfl (by decide) ?_
               refine rk_cv2i rfl rfl (by assumption) rfl rfl (Nat.le_of_ble_eq_true rfl) (Nat.le_of_ble_eq_true rfl) (s80 Tp hn (by assumption) (by omega) (by omega) R) (fun w h1 hF => ?_)
               obtain ⟨F1, hF⟩ := hF
               replace FC := FC.t2 F1
               replace Tp := Tp.fr (F1.2 1 (by omega))
               replace D := D.fr (fun q _ _ => F1.2 q (by omega))
               replace d9 := (F1.2 9 (by omega)).trans d9
               have hq : (te b n (te b n (te b n q))) ≤ n := by assumption
               by_cases z8 : nf b n 1 99 (te b n (te b n (te b n q))) = 0
               · rw [if_pos z8] at hF
                 obtain ⟨rfl, R⟩ := hF
                 obtain ⟨g, e2, hg0, hg1, hg3, hg4, hg5, hg6⟩ := id R
                 replace R := R.e
                 obtain ⟨uz8, vz8⟩ := nf_b z8
                 have qz8 := (te_b (b := b) hq).2.1
                 refine rk_istore rfl (Nat.le_of_ble_eq_true rfl) rfl ?_
                 refine rk_aload_n rfl rfl ?_
                 refine rk_get rfl (by assumption) rfl ?_
                 rw [hg0]
                 refine rk_if_ne rfl rfl (fun y => absurd rfl y) (fun _ => ?_)
                 refine rk_aload_n rfl rfl ?_
                 refine rk_iload_n rfl rfl ?_
                 refine rk_iload_n rfl rfl ?_
                 refine rk_iload rfl rfl ?_
                 refine rk_iload rfl rfl ?_
                 refine rk_cv4v rfl rfl (by assumption) rfl rfl (Nat.le_of_ble_eq_true rfl) (Nat.le_of_ble_eq_true rfl) (s33D D (r := tv b n q) (i := tv b n (te b n q)) (by omega)) (fun h1 hF => ?_)
                 obtain ⟨F2, D2⟩ := hF
                 exact rk_return rfl rfl ⟨_, rfl, by rw [num_y z5, num_y z6, num_y z7, if_neg hc32, num_y z8]; exact CRd.ok (FC.t9 F2) (R.fr (F2.2 2 (by omega))) D2⟩
               · rw [if_neg z8] at hF
                 obtain ⟨rfl, R⟩ := hF
                 obtain ⟨g, e2, hg0, -⟩ := id R
                 have hf0 : ¬ g 0 = 0 := fun y => nf_i z8 (hg0.symm.trans y)
                 refine rk_istore rfl (Nat.le_of_ble_eq_true rfl) rfl ?_
                 refine rk_aload_n rfl rfl ?_
                 refine rk_get rfl (by assumption) rfl ?_
                 refine rk_if_ne rfl rfl (fun hc45 => ?_) (fun hc45 => ?_)
                 · exact rk_return rfl rfl ⟨_, rfl, by rw [num_y z5, num_y z6, num_y z7, if_neg hc32, num_n z8]; exact CRd.f z8 FC (te_b hq).2.1 R D.at⟩
                 · replace hc45 := Decidable.not_not.mp hc45
                   exact absurd hc45 hf0)
      · rw [if_neg z7] at hF
        obtain ⟨rfl, R⟩ := hF
        obtain ⟨g, e2, hg0, -⟩ := id R
        have hf0 : ¬ g 0 = 0 := fun y => nf_i z7 (hg0.symm.trans y)
        refine rk_istore rfl (Nat.le_of_ble_eq_true rfl) rfl ?_
        refine rk_aload_n rfl rfl ?_
        refine rk_get rfl (by assumption) rfl ?_
        refine rk_if_ne rfl rfl (fun hc26 => ?_) (fun hc26 => ?_)
        · refine rk_aload_n rfl rfl ?_
          refine rk_iconst (v := nI 1) rfl (by decide) ?_
          refine rk_bipush (v := nI 99) rfl (by decide) ?_
          refine rk_cv2e rfl rfl (by assumption) rfl rfl (Nat.le_of_ble_eq_true rfl) (Nat.le_of_ble_eq_true rfl) (s80F (nf_i z7) R) ?_
          refine rk_istore rfl (Nat.le_of_ble_eq_true rfl) rfl ?_
          refine rk_aload_n rfl rfl ?_
          refine rk_get rfl (by assumption) rfl ?_
          refine rk_if_ne rfl rfl (fun hc45 => ?_) (fun hc45 => ?_)
          · exact rk_return rfl rfl ⟨_, rfl, by rw [num_y z5, num_y z6, num_n z7]; exact CRd.f z7 FC (te_b hq).2.1 R D.at⟩
          · replace hc45 := Decidable.not_not.mp hc45
            exact absurd hc45 hf0
        · replace hc26 := Decidable.not_not.mp hc26
          exact absurd hc26 hf0
    · rw [if_neg z6] at hF
      obtain ⟨rfl, R⟩ := hF
      obtain ⟨g, e2, hg0, -⟩ := id R
      have hf0 : ¬ g 0 = 0 := fun y => nf_i z6 (hg0.symm.trans y)
      refine rk_istore_n rfl (Nat.le_of_ble_eq_true rfl) rfl ?_
      refine rk_aload_n rfl rfl ?_
      refine rk_iconst (v := nI 0) rfl (by decide) ?_
      refine rk_aload_n rfl rfl ?_
      refine rk_get rfl (by assumption) rfl ?_
      refine rk_iconst (v := nI 1) rfl (by decide) ?_
      refine rk_isub rfl rfl ?_
      refine rk_cv2e rfl rfl (by assumption) rfl rfl (Nat.le_of_ble_eq_true rfl) (Nat.le_of_ble_eq_true rfl) (s80F (nf_i z6) R) ?_
      refine rk_istore rfl (Nat.le_of_ble_eq_true rfl) rfl ?_
      refine rk_aload_n rfl rfl ?_
      refine rk_get rfl (by assumption) rfl ?_
      refine rk_if_ne rfl rfl (fun hc26 => ?_) (fun hc26 => ?_)
      · refine rk_aload_n rfl rfl ?_
        refine rk_iconst (v := nI 1) rfl (by decide) ?_
        refine rk_bipush (v := nI 99) rfl (by decide) ?_
        refine rk_cv2e rfl rfl (by assumption) rfl rfl (Nat.le_of_ble_eq_true rfl) (Nat.le_of_ble_eq_true rfl) (s80F (nf_i z6) R) ?_
        refine rk_istore rfl (Nat.le_of_ble_eq_true rfl) rfl ?_
        refine rk_aload_n rfl rfl ?_
        refine rk_get rfl (by assumption) rfl ?_
        refine rk_if_ne rfl rfl (fun hc45 => ?_) (fun hc45 => ?_)
        · exact rk_return rfl rfl ⟨_, rfl, by rw [num_y z5, num_n z6]; exact CRd.f z6 FC (te_b hq).2.1 R D.at⟩
        · replace hc45 := Decidable.not_not.mp hc45
          exact absurd hc45 hf0
      · replace hc26 := Decidable.not_not.mp hc26
        exact absurd hc26 hf0
  · rw [if_neg z5] at hF
    obtain ⟨rfl, R⟩ := hF
    obtain ⟨g, e2, hg0, -⟩ := id R
    have hf0 : ¬ g 0 = 0 := fun y => nf_i z5 (hg0.symm.trans y)
    refine rk_istore_n rfl (Nat.le_of_ble_eq_true rfl) rfl ?_
    refine rk_aload_n rfl rfl ?_
    refine rk_iconst (v := nI 0) rfl (by decide) ?_
    refine rk_aload_n rfl rfl ?_
    refine rk_get rfl (by assumption) rfl ?_
    refine rk_iconst (v := nI 1) rfl (by decide) ?_
    refine rk_isub rfl rfl ?_
    refine rk_cv2e rfl rfl (by assumption) rfl rfl (Nat.le_of_ble_eq_true rfl) (Nat.le_of_ble_eq_true rfl) (s80F (nf_i z5) R) ?_
    refine rk_istore_n rfl (Nat.le_of_ble_eq_true rfl) rfl ?_
    refine rk_aload_n rfl rfl ?_
    refine rk_iconst (v := nI 0) rfl (by decide) ?_
    refine rk_aload_n rfl rfl ?_
    refine rk_get rfl (by assumption) rfl ?_
    refine rk_iconst (v := nI 1) rfl (by decide) ?_
    refine rk_isub rfl rfl ?_
    refine rk_cv2e rfl rfl (by assumption) rfl rfl (Nat.le_of_ble_eq_true rfl) (Nat.le_of_ble_eq_true rfl) (s80F (nf_i z5) R) ?_
    refine rk_istore rfl (Nat.le_of_ble_eq_true rfl) rfl ?_
    refine rk_aload_n rfl rfl ?_
    refine rk_get rfl (by assumption) rfl ?_
    refine rk_if_ne rfl rfl (fun hc26 => ?_) (fun hc26 => ?_)
    · refine rk_aload_n rfl rfl ?_
      refine rk_iconst (v := nI 1) rfl (by decide) ?_
      refine rk_bipush (v := nI 99) rfl (by decide) ?_
      refine rk_cv2e rfl rfl (by assumption) rfl rfl (Nat.le_of_ble_eq_true rfl) (Nat.le_of_ble_eq_true rfl) (s80F (nf_i z5) R) ?_
      refine rk_istore rfl (Nat.le_of_ble_eq_true rfl) rfl ?_
      refine rk_aload_n rfl rfl ?_
      refine rk_get rfl (by assumption) rfl ?_
      refine rk_if_ne rfl rfl (fun hc45 => ?_) (fun hc45 => ?_)
      · exact rk_return rfl rfl ⟨_, rfl, by rw [num_n z5]; exact CRd.f z5 FC (te_b hq).2.1 R D.at⟩
      · replace hc45 := Decidable.not_not.mp hc45
        exact absurd hc45 hf0
    · replace hc26 := Decidable.not_not.mp hc26
      exact absurd hc26 hf0
theorem l81F {X : ai_X} {h : ai_H} {n k pl E t : Nat} {lr : Int32} {c : Nat → Int32} {P : ai_O → Prop} (hk : ¬ nI k = 0) (R : RDE h n (nI k) (nI pl) E) (D : DC h c) (ht : t ≤ 6) (c1 : c 1 = nI t) (z : P (none, h, 0, 0)) : ∀ (d : Nat) (i : Nat) (o : Option Value), t < i + d → (i ≤ t) → Rk X am_81 10 [some (.ref 2), some (.ref 9), some (.int lr), some (.int (nI i)), o] [] h (P) := by
  intro d
  induction d with
  | zero => intro i o hd hi; exfalso; omega
  | succ d ih =>
    intro i o hd hi
    obtain ⟨F, g0, g1, g2, g3, g4, d9, d10, d11, d12, d13, d14, hV⟩ := id D
    have hF1 : F 1 = nI t := hV.2.1.trans c1
    obtain ⟨g, e2, hg0, -⟩ := id R
    have hf0 : ¬ g 0 = 0 := fun y => hk (hg0.symm.trans y)
    refine rk_iload_n rfl rfl ?_
    refine rk_aload_n rfl rfl ?_
    refine rk_get rfl (by assumption) rfl ?_
    rw [hF1]
    refine rk_icmp_ge rfl rfl (fun hc13 => ?_) (fun hc13 => ?_)
    · replace hc13 := (nI_leI (by omega) (by omega)).mp hc13
      exact rk_return rfl rfl z
    · replace hc13 := mt (nI_leI (by omega) (by omega)).mpr hc13
      refine rk_aload_n rfl rfl ?_
      refine rk_iconst (v := nI 0) rfl (by decide) ?_
      refine rk_aload_n rfl rfl ?_
      refine rk_get rfl (by assumption) rfl ?_
      refine rk_iconst (v := nI 1) rfl (by decide) ?_
      refine rk_isub rfl rfl ?_
      refine rk_cv2e rfl rfl (by assumption) rfl rfl (Nat.le_of_ble_eq_true rfl) (Nat.le_of_ble_eq_true rfl) (s80F hk R) ?_
      refine rk_istore rfl (Nat.le_of_ble_eq_true rfl) rfl ?_
      refine rk_aload_n rfl rfl ?_
      refine rk_get rfl (by assumption) rfl ?_
      refine rk_if_ne rfl rfl (fun hc24 => ?_) (fun hc24 => ?_)
      · refine rk_iinc rfl rfl (n_inc _) rfl ?_
        refine rk_goto rfl rfl ?_
        exact ih (i + 1) _ (by omega) (by omega)
      · replace hc24 := Decidable.not_not.mp hc24
        exact absurd hc24 hf0
theorem l81 {X : ai_X} {h : ai_H} {b : Nat → Nat} {n N r t : Nat} (hn : n ≤ 600) (hN0 : 1 ≤ N) (hN : N ≤ 14) (ht : t ≤ 6) (hr : r < N) : ∀ (m i : Nat) (o : Option Value) (g : ai_H) (c : Nat → Int32) (q : Nat), FrC h g → TP g 1 b → DC g c → RDE g n 0 (-1) q → q ≤ n → c 0 = nI N → c 1 = nI t → i + m = t → Rk X am_81 10 [some (.ref 2), some (.ref 9), some (.int (nI r)), some (.int (nI i)), o] [] g (Qv (fun h1 => CRd h h1 n (leadL b n N r m i c q))) := by
  intro m
  induction m with
  | zero =>
    intro i o g c q FC Tp D R hq0 c0 c1 hi
    obtain ⟨F, g0, g1, g2, g3, g4, d9, d10, d11, d12, d13, d14, hV⟩ := id D
    have hF1 : F 1 = nI t := hV.2.1.trans c1
    refine rk_iload_n rfl rfl ?_
    refine rk_aload_n rfl rfl ?_
    refine rk_get rfl (by assumption) rfl ?_
    rw [hF1]
    refine rk_icmp_ge rfl rfl (fun hc13 => ?_) (fun hc13 => ?_)
    · replace hc13 := (nI_leI (by omega) (by omega)).mp hc13
      exact rk_return rfl rfl ⟨_, rfl, CRd.ok FC R D⟩
    · replace hc13 := mt (nI_leI (by omega) (by omega)).mpr hc13
      omega
  | succ m ih =>
    intro i o g c q FC Tp D R hq0 c0 c1 hi
    obtain ⟨F, g0, g1, g2, g3, g4, d9, d10, d11, d12, d13, d14, hV⟩ := id D
    have hF1 : F 1 = nI t := hV.2.1.trans c1
    have hF0 : F 0 = nI N := hV.1.trans c0
    obtain ⟨gg, e2, -⟩ := id R
    refine rk_iload_n rfl rfl ?_
    refine rk_aload_n rfl rfl ?_
    refine rk_get rfl (by assumption) rfl ?_
    rw [hF1]
    refine rk_icmp_ge rfl rfl (fun hc13 => ?_) (fun hc13 => ?_)
    · replace hc13 := (nI_leI (by omega) (by omega)).mp hc13
      omega
    · replace hc13 := mt (nI_leI (by omega) (by omega)).mpr hc13
      refine rk_aload_n rfl rfl ?_
      refine rk_iconst (v := nI 0) rfl (by decide) ?_
      refine rk_aload_n rfl rfl ?_
      refine rk_get rfl (by assumption) rfl ?_
      rw [hF0]
      refine rk_iconst (v := nI 1) rfl (by decide) ?_
      refine rk_isub rfl (pk_sub (by omega)) ?_
      refine rk_cv2i rfl rfl (by assumption) rfl rfl (Nat.le_of_ble_eq_true rfl) (Nat.le_of_ble_eq_true rfl) (s80 Tp hn (by assumption) (by omega) (by omega) R) (fun w h1 hF => ?_)
      rw [leadL]
      obtain ⟨F1, hF⟩ := hF
      replace FC := FC.t2 F1
      replace Tp := Tp.fr (F1.2 1 (by omega))
      replace D := D.fr (fun q _ _ => F1.2 q (by omega))
      replace d9 := (F1.2 9 (by omega)).trans d9
      have hq : q ≤ n := by assumption
      by_cases z9 : nf b n 0 (N - 1) q = 0
      · rw [if_pos z9] at hF
        obtain ⟨rfl, R⟩ := hF
        obtain ⟨g, e2, hg0, hg1, hg3, hg4, hg5, hg6⟩ := id R
        replace R := R.e
        obtain ⟨uz9, vz9⟩ := nf_b z9
        have qz9 := (te_b (b := b) hq).2.1
        refine rk_istore rfl (Nat.le_of_ble_eq_true rfl) rfl ?_
        refine rk_aload_n rfl rfl ?_
        refine rk_get rfl (by assumption) rfl ?_
        rw [hg0]
        refine rk_if_ne rfl rfl (fun y => absurd rfl y) (fun _ => ?_)
        refine rk_aload_n rfl rfl ?_
        refine rk_iload_n rfl rfl ?_
        refine rk_iload_n rfl rfl ?_
        refine rk_iload rfl rfl ?_
        refine rk_cv3v rfl rfl (by assumption) rfl rfl (Nat.le_of_ble_eq_true rfl) (Nat.le_of_ble_eq_true rfl) (s32D D (r := r) (i := i) (by omega)) (fun h1 hF => ?_)
        obtain ⟨F2, D2⟩ := hF
        refine rk_iinc rfl rfl (n_inc _) rfl ?_
        refine rk_goto rfl rfl ?_
        have e3 : c3 c (6 * r + i) (tv b n q) 0 = c 0 := c3_n (by omega) (by omega)
        have e4 : c3 c (6 * r + i) (tv b n q) 1 = c 1 := c3_n (by omega) (by omega)
        rw [num_y z9]
        exact ih (i + 1) _ _ _ _ (FC.t9 F2) (Tp.fr (F2.2 1 (by omega))) D2 (R.fr (F2.2 2 (by omega))) (te_b hq).2.1 (e3.trans c0) (e4.trans c1) (by omega)
      · rw [if_neg z9] at hF
        obtain ⟨rfl, R⟩ := hF
        obtain ⟨g, e2, hg0, -⟩ := id R
        have hf0 : ¬ g 0 = 0 := fun y => nf_i z9 (hg0.symm.trans y)
        refine rk_istore rfl (Nat.le_of_ble_eq_true rfl) rfl ?_
        refine rk_aload_n rfl rfl ?_
        refine rk_get rfl e2 rfl ?_
        refine rk_if_ne rfl rfl (fun _ => ?_) (fun y => absurd (Decidable.not_not.mp y) hf0)
        refine rk_iinc rfl rfl (n_inc _) rfl ?_
        refine rk_goto rfl rfl ?_
        refine l81F (nf_i z9) R D ht c1 (show Qv _ _ from ⟨_, rfl, by rw [num_n z9]; exact CRd.f z9 FC (te_b hq).2.1 R D.at⟩) (t + 1) (i + 1) _ (by omega) (by omega)
theorem s81 {X : ai_X} {h : ai_H} {b : Nat → Nat} {n N t q : Nat} {c : Nat → Int32} (Tp : TP h 1 b) (hn : n ≤ 600) (hq0 : q ≤ n) (R : RDE h n 0 (-1) q) (D : DC h c) (hN0 : 1 ≤ N) (hN : N ≤ 14) (ht0 : 1 ≤ t) (ht : t ≤ 6) (c0 : c 0 = nI N) (c1 : c 1 = nI t) : Mt X am_81 [.ref 2, .ref 9] h (Qv (fun h1 => CRd h h1 n (num b n 0 (N - 1) q (fun r q => leadL b n N r t 0 c q)))) := by
  obtain ⟨F, g0, g1, g2, g3, g4, d9, d10, d11, d12, d13, d14, hV⟩ := id D
  have hF0 : F 0 = nI N := hV.1.trans c0
  have hF1 : F 1 = nI t := hV.2.1.trans c1
  have FC : FrC h h := FrC.rfl'
  obtain ⟨gg, e2, -⟩ := id R
  refine rk_aload_n rfl rfl ?_
  refine rk_iconst (v := nI 0) rfl (by decide) ?_
  refine rk_aload_n rfl rfl ?_
  refine rk_get rfl (by assumption) rfl ?_
  rw [hF0]
  refine rk_iconst (v := nI 1) rfl (by decide) ?_
  refine rk_isub rfl (pk_sub (by omega)) ?_
  refine rk_cv2i rfl rfl (by assumption) rfl rfl (Nat.le_of_ble_eq_true rfl) (Nat.le_of_ble_eq_true rfl) (s80 Tp hn (by assumption) (by omega) (by omega) R) (fun w h1 hF => ?_)
  obtain ⟨F1, hF⟩ := hF
  replace FC := FC.t2 F1
  replace Tp := Tp.fr (F1.2 1 (by omega))
  replace D := D.fr (fun q _ _ => F1.2 q (by omega))
  replace d9 := (F1.2 9 (by omega)).trans d9
  have hq : q ≤ n := by assumption
  by_cases z10 : nf b n 0 (N - 1) q = 0
  · rw [if_pos z10] at hF
    obtain ⟨rfl, R⟩ := hF
    obtain ⟨g, e2, hg0, hg1, hg3, hg4, hg5, hg6⟩ := id R
    replace R := R.e
    obtain ⟨uz10, vz10⟩ := nf_b z10
    have qz10 := (te_b (b := b) hq).2.1
    refine rk_istore_n rfl (Nat.le_of_ble_eq_true rfl) rfl ?_
    refine rk_iconst (v := nI 0) rfl (by decide) ?_
    refine rk_istore_n rfl (Nat.le_of_ble_eq_true rfl) rfl ?_
    rw [num_y z10]
    exact l81 hn hN0 hN ht (by omega) t 0 _ _ c _ FC Tp D R (by assumption) c0 c1 (by omega)
  · rw [if_neg z10] at hF
    obtain ⟨rfl, R⟩ := hF
    obtain ⟨g, e2, hg0, -⟩ := id R
    have hf0 : ¬ g 0 = 0 := fun y => nf_i z10 (hg0.symm.trans y)
    refine rk_istore_n rfl (Nat.le_of_ble_eq_true rfl) rfl ?_
    refine rk_iconst (v := nI 0) rfl (by decide) ?_
    refine rk_istore_n rfl (Nat.le_of_ble_eq_true rfl) rfl ?_
    refine l81F (nf_i z10) R D ht c1 (show Qv _ _ from ⟨_, rfl, by rw [num_n z10]; exact CRd.f z10 FC (te_b hq).2.1 R D.at⟩) (t + 1) 0 _ (by omega) (by omega)
