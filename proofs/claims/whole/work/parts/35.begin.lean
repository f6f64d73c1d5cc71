/-! CALLS THAT MAKE CELLS: c of them, s places in all -/
def Qn (c s : Nat) (P : ai_O → Prop) : ai_O → Prop := fun o => ∃ o1, P o1 ∧ o = ai_add c s o1
section QNS
variable {X : ai_X} {M : ai_M} {k c0 s0 : Nat} {ls : ai_L} {st t : List Value} {h : ai_H} {P : ai_O → Prop}
theorem rk_cq0i {F : Int32 → ai_H → Prop} {pc len b p q i ad c : Nat} {v0 : Value} {M1 : ai_M} {fs : List Value} (hr : (ai_mR M)[k]? = some (pc, .invokevirtual i, len, v0, 0, b, p, q)) (hM : ai_mt[b]? = some M1) (hh : h[ad]? = some (.inr (c, fs))) (hc : c = ai_mC M1) (hn : 0 = ai_mN M1) (hfl : (ai_fl [.ref ad]).length ≤ ai_mL M1) (hs : ai_sum t ≤ 8) (hm : Mt X M1 [.ref ad] h (Qn c0 s0 (Qi F))) (z : ∀ w h1, F w h1 → Rk X M (k + 1) ls (.int w :: t) h1 P) : Rk X M k ls (.ref ad :: t) h (Qn c0 s0 P) := by
  refine rk_call hr rfl (Nat.le_of_ble_eq_true rfl) hM (rk_arg (as := []) (by show (0 : Nat) ≠ 1; decide) hh hc hn) hfl hs hm ?_
  rintro o1 ⟨o2, ⟨w, h1, rfl, hF⟩, rfl⟩
  exact (z w h1 hF).mono (fun o hP => ⟨o, hP, rfl⟩)
theorem rk_cq0v {F : ai_H → Prop} {pc len b p q i ad c : Nat} {v0 : Value} {M1 : ai_M} {fs : List Value} (hr : (ai_mR M)[k]? = some (pc, .invokevirtual i, len, v0, 0, b, p, q)) (hM : ai_mt[b]? = some M1) (hh : h[ad]? = some (.inr (c, fs))) (hc : c = ai_mC M1) (hn : 0 = ai_mN M1) (hfl : (ai_fl [.ref ad]).length ≤ ai_mL M1) (hs : ai_sum t ≤ 8) (hm : Mt X M1 [.ref ad] h (Qn c0 s0 (Qv F))) (z : ∀ h1, F h1 → Rk X M (k + 1) ls (t) h1 P) : Rk X M k ls (.ref ad :: t) h (Qn c0 s0 P) := by
  refine rk_call hr rfl (Nat.le_of_ble_eq_true rfl) hM (rk_arg (as := []) (by show (0 : Nat) ≠ 1; decide) hh hc hn) hfl hs hm ?_
  rintro o1 ⟨o2, ⟨h1, rfl, hF⟩, rfl⟩
  exact (z h1 hF).mono (fun o hP => ⟨o, hP, rfl⟩)
theorem rk_cq1i {F : Int32 → ai_H → Prop} {pc len b p q i ad c : Nat} {v0 : Value} {M1 : ai_M} {x0 : Value} {fs : List Value} (hr : (ai_mR M)[k]? = some (pc, .invokevirtual i, len, v0, 0, b, p, q)) (hM : ai_mt[b]? = some M1) (hh : h[ad]? = some (.inr (c, fs))) (hc : c = ai_mC M1) (hn : 1 = ai_mN M1) (hfl : (ai_fl [.ref ad, x0]).length ≤ ai_mL M1) (hs : ai_sum t ≤ 8) (hm : Mt X M1 [.ref ad, x0] h (Qn c0 s0 (Qi F))) (z : ∀ w h1, F w h1 → Rk X M (k + 1) ls (.int w :: t) h1 P) : Rk X M k ls (x0 :: .ref ad :: t) h (Qn c0 s0 P) := by
  refine rk_call hr rfl (Nat.le_of_ble_eq_true rfl) hM (rk_arg (as := [x0]) (by show (0 : Nat) ≠ 1; decide) hh hc hn) hfl hs hm ?_
  rintro o1 ⟨o2, ⟨w, h1, rfl, hF⟩, rfl⟩
  exact (z w h1 hF).mono (fun o hP => ⟨o, hP, rfl⟩)
theorem rk_cq1v {F : ai_H → Prop} {pc len b p q i ad c : Nat} {v0 : Value} {M1 : ai_M} {x0 : Value} {fs : List Value} (hr : (ai_mR M)[k]? = some (pc, .invokevirtual i, len, v0, 0, b, p, q)) (hM : ai_mt[b]? = some M1) (hh : h[ad]? = some (.inr (c, fs))) (hc : c = ai_mC M1) (hn : 1 = ai_mN M1) (hfl : (ai_fl [.ref ad, x0]).length ≤ ai_mL M1) (hs : ai_sum t ≤ 8) (hm : Mt X M1 [.ref ad, x0] h (Qn c0 s0 (Qv F))) (z : ∀ h1, F h1 → Rk X M (k + 1) ls (t) h1 P) : Rk X M k ls (x0 :: .ref ad :: t) h (Qn c0 s0 P) := by
  refine rk_call hr rfl (Nat.le_of_ble_eq_true rfl) hM (rk_arg (as := [x0]) (by show (0 : Nat) ≠ 1; decide) hh hc hn) hfl hs hm ?_
  rintro o1 ⟨o2, ⟨h1, rfl, hF⟩, rfl⟩
  exact (z h1 hF).mono (fun o hP => ⟨o, hP, rfl⟩)
theorem rk_cq2i {F : Int32 → ai_H → Prop} {pc len b p q i ad c : Nat} {v0 : Value} {M1 : ai_M} {x0 x1 : Value} {fs : List Value} (hr : (ai_mR M)[k]? = some (pc, .invokevirtual i, len, v0, 0, b, p, q)) (hM : ai_mt[b]? = some M1) (hh : h[ad]? = some (.inr (c, fs))) (hc : c = ai_mC M1) (hn : 2 = ai_mN M1) (hfl : (ai_fl [.ref ad, x0, x1]).length ≤ ai_mL M1) (hs : ai_sum t ≤ 8) (hm : Mt X M1 [.ref ad, x0, x1] h (Qn c0 s0 (Qi F))) (z : ∀ w h1, F w h1 → Rk X M (k + 1) ls (.int w :: t) h1 P) : Rk X M k ls (x1 :: x0 :: .ref ad :: t) h (Qn c0 s0 P) := by
  refine rk_call hr rfl (Nat.le_of_ble_eq_true rfl) hM (rk_arg (as := [x0, x1]) (by show (0 : Nat) ≠ 1; decide) hh hc hn) hfl hs hm ?_
  rintro o1 ⟨o2, ⟨w, h1, rfl, hF⟩, rfl⟩
  exact (z w h1 hF).mono (fun o hP => ⟨o, hP, rfl⟩)
theorem rk_cq2v {F : ai_H → Prop} {pc len b p q i ad c : Nat} {v0 : Value} {M1 : ai_M} {x0 x1 : Value} {fs : List Value} (hr : (ai_mR M)[k]? = some (pc, .invokevirtual i, len, v0, 0, b, p, q)) (hM : ai_mt[b]? = some M1) (hh : h[ad]? = some (.inr (c, fs))) (hc : c = ai_mC M1) (hn : 2 = ai_mN M1) (hfl : (ai_fl [.ref ad, x0, x1]).length ≤ ai_mL M1) (hs : ai_sum t ≤ 8) (hm : Mt X M1 [.ref ad, x0, x1] h (Qn c0 s0 (Qv F))) (z : ∀ h1, F h1 → Rk X M (k + 1) ls (t) h1 P) : Rk X M k ls (x1 :: x0 :: .ref ad :: t) h (Qn c0 s0 P) := by
  refine rk_call hr rfl (Nat.le_of_ble_eq_true rfl) hM (rk_arg (as := [x0, x1]) (by show (0 : Nat) ≠ 1; decide) hh hc hn) hfl hs hm ?_
  rintro o1 ⟨o2, ⟨h1, rfl, hF⟩, rfl⟩
  exact (z h1 hF).mono (fun o hP => ⟨o, hP, rfl⟩)
theorem rk_cq3i {F : Int32 → ai_H → Prop} {pc len b p q i ad c : Nat} {v0 : Value} {M1 : ai_M} {x0 x1 x2 : Value} {fs : List Value} (hr : (ai_mR M)[k]? = some (pc, .invokevirtual i, len, v0, 0, b, p, q)) (hM : ai_mt[b]? = some M1) (hh : h[ad]? = some (.inr (c, fs))) (hc : c = ai_mC M1) (hn : 3 = ai_mN M1) (hfl : (ai_fl [.ref ad, x0, x1, x2]).length ≤ ai_mL M1) (hs : ai_sum t ≤ 8) (hm : Mt X M1 [.ref ad, x0, x1, x2] h (Qn c0 s0 (Qi F))) (z : ∀ w h1, F w h1 → Rk X M (k + 1) ls (.int w :: t) h1 P) : Rk X M k ls (x2 :: x1 :: x0 :: .ref ad :: t) h (Qn c0 s0 P) := by
  refine rk_call hr rfl (Nat.le_of_ble_eq_true rfl) hM (rk_arg (as := [x0, x1, x2]) (by show (0 : Nat) ≠ 1; decide) hh hc hn) hfl hs hm ?_
  rintro o1 ⟨o2, ⟨w, h1, rfl, hF⟩, rfl⟩
  exact (z w h1 hF).mono (fun o hP => ⟨o, hP, rfl⟩)
theorem rk_cq3v {F : ai_H → Prop} {pc len b p q i ad c : Nat} {v0 : Value} {M1 : ai_M} {x0 x1 x2 : Value} {fs : List Value} (hr : (ai_mR M)[k]? = some (pc, .invokevirtual i, len, v0, 0, b, p, q)) (hM : ai_mt[b]? = some M1) (hh : h[ad]? = some (.inr (c, fs))) (hc : c = ai_mC M1) (hn : 3 = ai_mN M1) (hfl : (ai_fl [.ref ad, x0, x1, x2]).length ≤ ai_mL M1) (hs : ai_sum t ≤ 8) (hm : Mt X M1 [.ref ad, x0, x1, x2] h (Qn c0 s0 (Qv F))) (z : ∀ h1, F h1 → Rk X M (k + 1) ls (t) h1 P) : Rk X M k ls (x2 :: x1 :: x0 :: .ref ad :: t) h (Qn c0 s0 P) := by
  refine rk_call hr rfl (Nat.le_of_ble_eq_true rfl) hM (rk_arg (as := [x0, x1, x2]) (by show (0 : Nat) ≠ 1; decide) hh hc hn) hfl hs hm ?_
  rintro o1 ⟨o2, ⟨h1, rfl, hF⟩, rfl⟩
  exact (z h1 hF).mono (fun o hP => ⟨o, hP, rfl⟩)
theorem rk_cq4i {F : Int32 → ai_H → Prop} {pc len b p q i ad c : Nat} {v0 : Value} {M1 : ai_M} {x0 x1 x2 x3 : Value} {fs : List Value} (hr : (ai_mR M)[k]? = some (pc, .invokevirtual i, len, v0, 0, b, p, q)) (hM : ai_mt[b]? = some M1) (hh : h[ad]? = some (.inr (c, fs))) (hc : c = ai_mC M1) (hn : 4 = ai_mN M1) (hfl : (ai_fl [.ref ad, x0, x1, x2, x3]).length ≤ ai_mL M1) (hs : ai_sum t ≤ 8) (hm : Mt X M1 [.ref ad, x0, x1, x2, x3] h (Qn c0 s0 (Qi F))) (z : ∀ w h1, F w h1 → Rk X M (k + 1) ls (.int w :: t) h1 P) : Rk X M k ls (x3 :: x2 :: x1 :: x0 :: .ref ad :: t) h (Qn c0 s0 P) := by
  refine rk_call hr rfl (Nat.le_of_ble_eq_true rfl) hM (rk_arg (as := [x0, x1, x2, x3]) (by show (0 : Nat) ≠ 1; decide) hh hc hn) hfl hs hm ?_
  rintro o1 ⟨o2, ⟨w, h1, rfl, hF⟩, rfl⟩
  exact (z w h1 hF).mono (fun o hP => ⟨o, hP, rfl⟩)
theorem rk_cq4v {F : ai_H → Prop} {pc len b p q i ad c : Nat} {v0 : Value} {M1 : ai_M} {x0 x1 x2 x3 : Value} {fs : List Value} (hr : (ai_mR M)[k]? = some (pc, .invokevirtual i, len, v0, 0, b, p, q)) (hM : ai_mt[b]? = some M1) (hh : h[ad]? = some (.inr (c, fs))) (hc : c = ai_mC M1) (hn : 4 = ai_mN M1) (hfl : (ai_fl [.ref ad, x0, x1, x2, x3]).length ≤ ai_mL M1) (hs : ai_sum t ≤ 8) (hm : Mt X M1 [.ref ad, x0, x1, x2, x3] h (Qn c0 s0 (Qv F))) (z : ∀ h1, F h1 → Rk X M (k + 1) ls (t) h1 P) : Rk X M k ls (x3 :: x2 :: x1 :: x0 :: .ref ad :: t) h (Qn c0 s0 P) := by
  refine rk_call hr rfl (Nat.le_of_ble_eq_true rfl) hM (rk_arg (as := [x0, x1, x2, x3]) (by show (0 : Nat) ≠ 1; decide) hh hc hn) hfl hs hm ?_
  rintro o1 ⟨o2, ⟨h1, rfl, hF⟩, rfl⟩
  exact (z h1 hF).mono (fun o hP => ⟨o, hP, rfl⟩)
theorem rk_cq5i {F : Int32 → ai_H → Prop} {pc len b p q i ad c : Nat} {v0 : Value} {M1 : ai_M} {x0 x1 x2 x3 x4 : Value} {fs : List Value} (hr : (ai_mR M)[k]? = some (pc, .invokevirtual i, len, v0, 0, b, p, q)) (hM : ai_mt[b]? = some M1) (hh : h[ad]? = some (.inr (c, fs))) (hc : c = ai_mC M1) (hn : 5 = ai_mN M1) (hfl : (ai_fl [.ref ad, x0, x1, x2, x3, x4]).length ≤ ai_mL M1) (hs : ai_sum t ≤ 8) (hm : Mt X M1 [.ref ad, x0, x1, x2, x3, x4] h (Qn c0 s0 (Qi F))) (z : ∀ w h1, F w h1 → Rk X M (k + 1) ls (.int w :: t) h1 P) : Rk X M k ls (x4 :: x3 :: x2 :: x1 :: x0 :: .ref ad :: t) h (Qn c0 s0 P) := by
  refine rk_call hr rfl (Nat.le_of_ble_eq_true rfl) hM (rk_arg (as := [x0, x1, x2, x3, x4]) (by show (0 : Nat) ≠ 1; decide) hh hc hn) hfl hs hm ?_
  rintro o1 ⟨o2, ⟨w, h1, rfl, hF⟩, rfl⟩
  exact (z w h1 hF).mono (fun o hP => ⟨o, hP, rfl⟩)
theorem rk_cq5v {F : ai_H → Prop} {pc len b p q i ad c : Nat} {v0 : Value} {M1 : ai_M} {x0 x1 x2 x3 x4 : Value} {fs : List Value} (hr : (ai_mR M)[k]? = some (pc, .invokevirtual i, len, v0, 0, b, p, q)) (hM : ai_mt[b]? = some M1) (hh : h[ad]? = some (.inr (c, fs))) (hc : c = ai_mC M1) (hn : 5 = ai_mN M1) (hfl : (ai_fl [.ref ad, x0, x1, x2, x3, x4]).length ≤ ai_mL M1) (hs : ai_sum t ≤ 8) (hm : Mt X M1 [.ref ad, x0, x1, x2, x3, x4] h (Qn c0 s0 (Qv F))) (z : ∀ h1, F h1 → Rk X M (k + 1) ls (t) h1 P) : Rk X M k ls (x4 :: x3 :: x2 :: x1 :: x0 :: .ref ad :: t) h (Qn c0 s0 P) := by
  refine rk_call hr rfl (Nat.le_of_ble_eq_true rfl) hM (rk_arg (as := [x0, x1, x2, x3, x4]) (by show (0 : Nat) ≠ 1; decide) hh hc hn) hfl hs hm ?_
  rintro o1 ⟨o2, ⟨h1, rfl, hF⟩, rfl⟩
  exact (z h1 hF).mono (fun o hP => ⟨o, hP, rfl⟩)
theorem hp_app {C : ai_C} (z : ∀ h1 : ai_H, h1.length = h.length + 1 → (∀ q : Nat, q < h.length → h1[q]? = h[q]?) → h1[h.length]? = some C → Rk X M k ls st h1 P) : Rk X M k ls st (h ++ [C]) P := by
  refine z _ (by simp) (fun q hq => List.getElem?_append_left hq) ?_
  rw [List.getElem?_append_right (Nat.le_refl _), Nat.sub_self]
  rfl
end QNS
theorem Qn_0 {P : ai_O → Prop} {X : ai_X} {M : ai_M} {av : List Value} {h : ai_H} (z : Mt X M av h P) : Mt X M av h (Qn 0 0 P) := Rk.mono (fun o hP => ⟨o, hP, (ai_add00 o).symm⟩) z
/-- cells may have come behind the old ones; of these the search alone has changed -/
def FrN (o p c : Nat) (h h1 : ai_H) : Prop := h1.length = h.length + c ∧ ∀ q : Nat, q < h.length → q ≠ o → ¬ (p ≤ q ∧ q < p + 3) → h1[q]? = h[q]?
theorem l96 {X : ai_X} {h : ai_H} {o p cap n base many : Nat} {sl s1 s2 : Nat → Int32} (c0 : h[o]? = some (cSrch (nI cap) (nI (n - 1)) (.ref p) (.ref (p + 1)) (.ref (p + 2)) (nI base) (nI many))) (c1 : h[p]? = some (cI n sl)) (c2 : h[p + 1]? = some (cI cap s1)) (c3 : h[p + 2]? = some (cI cap s2)) (hbase : base ≤ 1000000000) (hmc : many ≤ cap) (hsl : ∀ i, i < n → ∃ x, x ≤ base + many ∧ sl i = nI x) (hn : P2 n) (hcn : cap ≤ n) (hop : o < p) {P : ai_O → Prop} (z : ∀ h1, FrS o p h h1 → SE h1 o p cap n → P (none, h1, 0, 0)) : Rk X am_96 26 [some (.ref o)] [] h P := by
  have F0 : FrS o p h h := FrS.rfl'
  refine rk_aload_n rfl rfl ?_
  refine rk_dup_a rfl ?_
  refine rk_get rfl (by assumption) rfl ?_
  refine rk_aload_n rfl rfl ?_
  refine rk_get rfl (by assumption) rfl ?_
  refine rk_iadd rfl (nI_add _ _) ?_
  refine rk_put rfl c0 (Nat.le_of_ble_eq_true rfl) ft_7_5 rfl (Or.inl rfl) rfl ?_
  refine hp_gen c0 (fun h1 g1 hk1 hl1 => ?_)
  replace c1 := (hk1 _ (by omega)).trans c1
  replace c2 := (hk1 _ (by omega)).trans c2
  replace c3 := (hk1 _ (by omega)).trans c3
  replace F0 := F0.tr (FrS.mk1 hk1 hl1 (by omega))
  replace c0 := g1
  refine rk_aload_n rfl rfl ?_
  refine rk_iconst (v := nI 0) rfl (by decide) ?_
  refine rk_put rfl c0 (Nat.le_of_ble_eq_true rfl) ft_7_6 rfl (Or.inl rfl) rfl ?_
  refine hp_gen c0 (fun h1 g1 hk1 hl1 => ?_)
  replace c1 := (hk1 _ (by omega)).trans c1
  replace c2 := (hk1 _ (by omega)).trans c2
  replace c3 := (hk1 _ (by omega)).trans c3
  replace F0 := F0.tr (FrS.mk1 hk1 hl1 (by omega))
  replace c0 := g1
  refine rk_aload_n rfl rfl ?_
  refine rk_get rfl (by assumption) rfl ?_
  refine rk_ldc rfl ?_
  rw [show (1000000000 : Int32) = nI 1000000000 by decide]
  refine rk_icmp_le rfl rfl (fun hc39 => ?_) (fun hc39 => ?_)
  · replace hc39 := (nI_leI (by omega) (by omega)).mp hc39
    first
      | exact rk_return rfl rfl (z _ F0 ⟨base + many, sl, s1, s2, fun _ => 0, c0, c1, c2, c3, by omega, by omega, fun j hj => by obtain ⟨x, a, b⟩ := hsl j hj; exact ⟨x, b, by omega, by show 0 = x - (base + many); omega⟩, LPr.nil (fun _ _ => rfl), fun i hi => absurd hi (by omega), hn, hcn, hop⟩)
      | exact rk_return rfl rfl (z _ F0 ⟨0, f2, s1, s2, fun _ => 0, c0, c1, c2, c3, by omega, by omega, fun j hj => ⟨0, hf2 j hj, by omega, rfl⟩, LPr.nil (fun _ _ => rfl), fun i hi => absurd hi (by omega), hn, hcn, hop⟩)
  · replace hc39 := mt (nI_leI (by omega) (by omega)).mpr hc39
    refine rk_aload_n rfl rfl ?_
    refine rk_get rfl (by assumption) rfl ?_
    refine rk_iconst (v := nI 0) rfl (by decide) ?_
    refine rk_cs2v rfl rfl rfl (Nat.le_of_ble_eq_true rfl) (Nat.le_of_ble_eq_true rfl) (s292 (by omega) c1) (fun h1 hF => ?_)
    obtain ⟨F2, f2, c1, hf2⟩ := hF
    replace c0 := (F2.2 o (by omega)).trans c0
    replace c2 := (F2.2 (p + 1) (by omega)).trans c2
    replace c3 := (F2.2 (p + 2) (by omega)).trans c3
    replace F0 : FrS o p h h1 := F0.tr ⟨F2.1, fun q a b => F2.2 q (by omega)⟩
    refine rk_aload_n rfl rfl ?_
    refine rk_iconst (v := nI 0) rfl (by decide) ?_
    refine rk_put rfl c0 (Nat.le_of_ble_eq_true rfl) ft_7_5 rfl (Or.inl rfl) rfl ?_
    refine hp_gen c0 (fun h1 g1 hk1 hl1 => ?_)
    replace c1 := (hk1 _ (by omega)).trans c1
    replace c2 := (hk1 _ (by omega)).trans c2
    replace c3 := (hk1 _ (by omega)).trans c3
    replace F0 := F0.tr (FrS.mk1 hk1 hl1 (by omega))
    replace c0 := g1
    first
      | exact rk_return rfl rfl (z _ F0 ⟨base + many, sl, s1, s2, fun _ => 0, c0, c1, c2, c3, by omega, by omega, fun j hj => by obtain ⟨x, a, b⟩ := hsl j hj; exact ⟨x, b, by omega, by show 0 = x - (base + many); omega⟩, LPr.nil (fun _ _ => rfl), fun i hi => absurd hi (by omega), hn, hcn, hop⟩)
      | exact rk_return rfl rfl (z _ F0 ⟨0, f2, s1, s2, fun _ => 0, c0, c1, c2, c3, by omega, by omega, fun j hj => ⟨0, hf2 j hj, by omega, rfl⟩, LPr.nil (fun _ _ => rfl), fun i hi => absurd hi (by omega), hn, hcn, hop⟩)
theorem s96 {X : ai_X} {h : ai_H} {o cap n : Nat} {b : Option Nat} (S : SrchAt h o cap n b) (hb : ∀ p, b = some p → o < p) (hn : P2 n) (hcn : cap ≤ n) (ho : o < h.length) : ∃ p c s, Mt X am_96 [.ref o] h (Qn c s (Qv (fun h1 => FrN o p c h h1 ∧ SE h1 o p cap n))) ∧ ((b = some p ∧ c = 0 ∧ s = 0) ∨ (b = none ∧ p = h.length ∧ c = 3 ∧ s = n + cap + cap)) := by
  rcases S with ⟨hb0, c0⟩ | ⟨p, base, many, sl, s1, s2, e, c0, c1, c2, c3, hbase, hmc, hsl⟩
  · refine ⟨h.length, 3, n + cap + cap, ?_, Or.inr ⟨hb0, rfl, rfl, rfl⟩⟩
    have hc2 := b
    refine rk_aload_n rfl rfl ?_
    refine rk_get rfl c0 rfl ?_
    refine rk_ifnull_n rfl rfl ?_
    refine rk_aload_n rfl rfl ?_
    refine rk_aload_n rfl rfl ?_
    refine rk_get rfl c0 rfl ?_
    refine rk_iconst (v := nI 1) rfl (by decide) ?_
    refine rk_iadd rfl (nI_add _ _) ?_
    refine rk_newa (N := n) rfl rfl rfl (by rw [show n - 1 + 1 = n by omega]) (by omega) ?_
    refine hp_app (fun h1 l1 k1 g1 => ?_)
    replace c0 := (k1 o ho).trans c0
    refine rk_put rfl c0 (Nat.le_of_ble_eq_true rfl) ft_7_2 rfl (Or.inl rfl) rfl ?_
    refine hp_gen c0 (fun h2 g2 k2 l2 => ?_)
    refine rk_aload_n rfl rfl ?_
    refine rk_aload_n rfl rfl ?_
    refine rk_get rfl g2 rfl ?_
    refine rk_newa (N := cap) rfl rfl rfl rfl (by omega) ?_
    refine hp_app (fun h3 l3 k3 g3 => ?_)
    replace g2 := (k3 o (by omega)).trans g2
    refine rk_put rfl g2 (Nat.le_of_ble_eq_true rfl) ft_7_3 rfl (Or.inl rfl) rfl ?_
    refine hp_gen g2 (fun h4 g4 k4 l4 => ?_)
    refine rk_aload_n rfl rfl ?_
    refine rk_aload_n rfl rfl ?_
    refine rk_get rfl g4 rfl ?_
    refine rk_newa (N := cap) rfl rfl rfl rfl (by omega) ?_
    refine hp_app (fun h5 l5 k5 g5 => ?_)
    replace g4 := (k5 o (by omega)).trans g4
    refine rk_put rfl g4 (Nat.le_of_ble_eq_true rfl) ft_7_4 rfl (Or.inl rfl) rfl ?_
    refine hp_gen g4 (fun h6 g6 k6 l6 => ?_)
    have e1 : h2.length = h.length + 1 := by omega
    have e2 : h4.length = h.length + 2 := by omega
    rw [e1] at g3 g6
    rw [e2] at g5 g6
    have a1 : h6[h.length]? = some (cI n (fun _ => 0)) := by rw [k6 _ (by omega), k5 _ (by omega), k4 _ (by omega), k3 _ (by omega), k2 _ (by omega)]; exact g1
    have a2 : h6[h.length + 1]? = some (cI cap (fun _ => 0)) := by rw [k6 _ (by omega), k5 _ (by omega), k4 _ (by omega)]; exact g3
    have a3 : h6[h.length + 2]? = some (cI cap (fun _ => 0)) := by rw [k6 _ (by omega)]; exact g5
    refine l96 (base := 0) (many := 0) g6 a1 a2 a3 (by omega) (by omega) (fun i _ => ⟨0, by omega, rfl⟩) hn hcn ho (fun h7 F7 S7 => ?_)
    refine ⟨(none, h7, 0, 0), ⟨h7, rfl, ⟨by rw [F7.1]; omega, fun q hq hqo hqp => ?_⟩, S7⟩, ?_⟩
    · rw [F7.2 q hqo hqp, k6 q hqo, k5 q (by omega), k4 q hqo, k3 q (by omega), k2 q hqo, k1 q hq]
    · simp only [ai_add, Nat.add_zero]
      rw [Nat.add_assoc n cap cap]
  · refine ⟨p, 0, 0, Qn_0 ?_, Or.inl ⟨e, rfl, rfl⟩⟩
    refine rk_aload_n rfl rfl ?_
    refine rk_get rfl c0 rfl ?_
    refine rk_ifnull_r rfl ?_
    refine rk_aload_n rfl rfl ?_
    refine rk_get rfl c0 rfl ?_
    refine rk_ifnull_r rfl ?_
    refine rk_aload_n rfl rfl ?_
    refine rk_get rfl c0 rfl ?_
    refine rk_ifnn_r rfl rfl ?_
    exact l96 c0 c1 c2 c3 hbase hmc hsl hn hcn (hb p e) (fun h1 F1 S1 => ⟨h1, rfl, ⟨by rw [F1.1]; rfl, fun q _ a b => F1.2 q a b⟩, S1⟩)
/-! THE MODEL'S SEARCH -/
abbrev hfMz (a b : Nat) : Int32 := nI a * 40503 + nI (b * 25253)
def hfMn (a b : Nat) : Nat := (hfMz a b).toBitVec.toNat &&& 2147483647
theorem hfMn_lt (a b : Nat) : hfMn a b < 2 ^ 31 := Nat.and_lt_two_pow _ (by decide)
theorem hfMn_eq (a b : Nat) : hfMz a b &&& 2147483647 = nI (hfMn a b) := by
  rw [hfMn, ← b_andU, ← nI_slf]
  rfl
abbrev hfM (r1 r2 : Nat → Nat) (x : Nat) : Nat := hfMn (r1 x) (r2 x) % 65536
def MX (h : ai_H) (v : Nat → Int32) (mk m : Nat) (f57 f58 sp sm : Nat → Int32) (st T r1 r2 : Nat → Nat) : Prop :=
  h[52]? = some (cMdl v) ∧ v 21 = nI m ∧ v 22 = nI mk ∧ h[57]? = some (cI 30002 f57) ∧ h[58]? = some (cI 30002 f58) ∧ h[61]? = some (cI 65536 sp) ∧ h[62]? = some (cI 65536 sm) ∧ mk < 2 ^ 30 ∧ m ≤ 30001 ∧
  (∀ j, j < 65536 → (sm j = nI mk ∧ T j ≠ 0 ∧ sp j = nI (T j - 1)) ∨ (T j = 0 ∧ ∃ x, x < mk ∧ sm j = nI x)) ∧ LPr 65536 (hfM r1 r2) st m T ∧ ∀ i, i < m → f57 i = nI (r1 (st i)) ∧ f58 i = nI (r2 (st i)) ∧ r1 (st i) < 2 ^ 31 ∧ r2 (st i) < 2 ^ 31
def FrM (h h1 : ai_H) : Prop := h1.length = h.length ∧ ∀ q : Nat, q ≠ 52 → ¬ (57 ≤ q ∧ q < 63) → h1[q]? = h[q]?
theorem FrM.rfl' {h : ai_H} : FrM h h := ⟨rfl, fun _ _ _ => rfl⟩
theorem FrM.tr {h h1 h2 : ai_H} (x : FrM h h1) (y : FrM h1 h2) : FrM h h2 := ⟨y.1.trans x.1, fun q a b => (y.2 q a b).trans (x.2 q a b)⟩
theorem FrM.mk1 {a : Nat} {h h1 : ai_H} (hk : ∀ q : Nat, q ≠ a → h1[q]? = h[q]?) (hl : h1.length = h.length) (ha : a = 52 ∨ (57 ≤ a ∧ a < 63)) : FrM h h1 := ⟨hl, fun q x y => hk q (by omega)⟩
abbrev PM (x : Nat) (st T r1 r2 : Nat → Nat) (e : Nat) : Prop := ∀ j, j < e → T ((hfM r1 r2 x + j) % 65536) ≠ 0 ∧ st (T ((hfM r1 r2 x + j) % 65536) - 1) ≠ x
theorem rw_65536 : (65536 : Int32) = nI 65536 := by decide
theorem l232 {X : ai_X} {h : ai_H} {v : Nat → Int32} {mk m : Nat} {f57 f58 f59 f60 sp sm : Nat → Int32} {st T r1 r2 : Nat → Nat} (S : MX h v mk m f57 f58 sp sm st T r1 r2) (c59 : h[59]? = some (cI 30002 f59)) (c60 : h[60]? = some (cI 30002 f60)) {x : Nat} (hx1 : r1 x < 2 ^ 31) (hx2 : r2 x < 2 ^ 31) (hinj : ∀ i, i < m → r1 (st i) = r1 x → r2 (st i) = r2 x → st i = x) (hm : m ≤ 30000) {fr to : Int32} {D : Nat} (hD : D < 65536) (h0 : T ((hfM r1 r2 x + D) % 65536) = 0) : ∀ (d : Nat) (e : Nat), D < e + d → (e ≤ D) → (PM x st T r1 r2 e) → Rk X am_232 12 [some (.ref 52), some (.int (nI (r1 x))), some (.int (nI (r2 x))), some (.int fr), some (.int to), some (.int (nI ((hfM r1 r2 x + e) % 65536)))] [] h (Qi (fun w h1 => (mem st x m = true ∧ w = nI 0 ∧ h1 = h) ∨ (¬ mem st x m = true ∧ w = nI 1 ∧ FrM h h1 ∧ h1[59]? = some (cI 30002 (upd f59 m fr)) ∧ h1[60]? = some (cI 30002 (upd f60 m to)) ∧ ∃ sp1 sm1 T1, MX h1 (upd v 21 (nI (m + 1))) mk (m + 1) (upd f57 m (nI (r1 x))) (upd f58 m (nI (r2 x))) sp1 sm1 (un st m x) T1 r1 r2))) := by
  intro d
  induction d with
  | zero => intro e hd he hp; exfalso; omega
  | succ d ih =>
    intro e hd he hp
    obtain ⟨c0, hv21, hv22, c57, c58, c61, c62, hmk, hmm, hsm, hLP, hst⟩ := id S
    have F0 : FrM h h := FrM.rfl'
    have hs : (hfM r1 r2 x + e) % 65536 < 65536 := Nat.mod_lt _ (by omega)
    refine rk_aload_n rfl rfl ?_
    refine rk_get rfl (by assumption) rfl ?_
    refine rk_iload rfl rfl ?_
    refine rk_iald rfl (by assumption) (rfl) (by omega) (by decide) ?_
    rcases hsm _ hs with ⟨y1, y2, y3⟩ | ⟨y1, y, y2, y3⟩
    · rw [y1]
      have hTm := hLP.2.1 _ hs
      obtain ⟨hst1, hst2, hst3, hst4⟩ := hst (T ((hfM r1 r2 x + e) % 65536) - 1) (by omega)
      refine rk_aload_n rfl rfl ?_
      refine rk_get rfl (by assumption) rfl ?_
      rw [hv22]
      refine rk_icmp_ne rfl rfl (fun hc18 => ?_) (fun hc18 => ?_)
      · replace hc18 := mt (nI_eq (by omega) (by omega)).mpr hc18
        exact absurd rfl hc18
      · replace hc18 := Decidable.not_not.mp hc18
        replace hc18 := (nI_eq (by omega) (by omega)).mp hc18
        refine rk_aload_n rfl rfl ?_
        refine rk_get rfl (by assumption) rfl ?_
        refine rk_aload_n rfl rfl ?_
        refine rk_get rfl (by assumption) rfl ?_
        refine rk_iload rfl rfl ?_
        refine rk_iald rfl (by assumption) (rfl) (by omega) (by decide) ?_
        rw [y3]
        refine rk_iald rfl (by assumption) (rfl) (by omega) (by decide) ?_
        rw [hst1]
        refine rk_iload_n rfl rfl ?_
        refine rk_icmp_ne rfl rfl (fun hc27 => ?_) (fun hc27 => ?_)
        · replace hc27 := mt (nI_eq (by omega) (by omega)).mpr hc27
          refine rk_iload rfl rfl ?_
          refine rk_iconst (v := nI 1) rfl (by decide) ?_
          refine rk_iadd rfl (nI_add _ _) ?_
          refine rk_ldc rfl ?_
          rw [rw_65536]
          refine rk_irem rfl (nI_ne0 (by omega) (by omega)) (pk_rem (by omega) (by omega) (by omega)) ?_
          refine rk_istore rfl (Nat.le_of_ble_eq_true rfl) rfl ?_
          refine rk_goto rfl rfl ?_
          have heD : e ≠ D := fun z => by subst z; exact y2 h0
          rw [LPr.stp]
          refine ih (e + 1) (by omega) (by omega) (fun j hj => ?_)
          by_cases z : j = e
          · subst z
            refine ⟨y2, fun z => ?_⟩
            first
              | exact hc27 (by rw [z])
              | exact hc36 (by rw [z])
          · exact hp j (by omega)
        · replace hc27 := Decidable.not_not.mp hc27
          replace hc27 := (nI_eq (by omega) (by omega)).mp hc27
          refine rk_aload_n rfl rfl ?_
          refine rk_get rfl (by assumption) rfl ?_
          refine rk_aload_n rfl rfl ?_
          refine rk_get rfl (by assumption) rfl ?_
          refine rk_iload rfl rfl ?_
          refine rk_iald rfl (by assumption) (rfl) (by omega) (by decide) ?_
          rw [y3]
          refine rk_iald rfl (by assumption) (rfl) (by omega) (by decide) ?_
          rw [hst2]
          refine rk_iload_n rfl rfl ?_
          refine rk_icmp_ne rfl rfl (fun hc36 => ?_) (fun hc36 => ?_)
          · replace hc36 := mt (nI_eq (by omega) (by omega)).mpr hc36
            refine rk_iload rfl rfl ?_
            refine rk_iconst (v := nI 1) rfl (by decide) ?_
            refine rk_iadd rfl (nI_add _ _) ?_
            refine rk_ldc rfl ?_
            rw [rw_65536]
            refine rk_irem rfl (nI_ne0 (by omega) (by omega)) (pk_rem (by omega) (by omega) (by omega)) ?_
            refine rk_istore rfl (Nat.le_of_ble_eq_true rfl) rfl ?_
            refine rk_goto rfl rfl ?_
            have heD : e ≠ D := fun z => by subst z; exact y2 h0
            rw [LPr.stp]
            refine ih (e + 1) (by omega) (by omega) (fun j hj => ?_)
            by_cases z : j = e
            · subst z
              refine ⟨y2, fun z => ?_⟩
              first
                | exact hc27 (by rw [z])
                | exact hc36 (by rw [z])
            · exact hp j (by omega)
          · replace hc36 := Decidable.not_not.mp hc36
            replace hc36 := (nI_eq (by omega) (by omega)).mp hc36
            refine rk_iconst (v := nI 0) rfl (by decide) ?_
            refine rk_ireturn rfl (by decide) ⟨_, _, rfl, Or.inl ⟨(mem_iff m).mpr ⟨T ((hfM r1 r2 x + e) % 65536) - 1, by omega, hinj _ (by omega) hc27 hc36⟩, rfl, rfl⟩⟩
    · rw [y3]
      refine rk_aload_n rfl rfl ?_
      refine rk_get rfl (by assumption) rfl ?_
      rw [hv22]
      refine rk_icmp_ne rfl rfl (fun hc18 => ?_) (fun hc18 => ?_)
      · replace hc18 := mt (nI_eq (by omega) (by omega)).mpr hc18
        refine rk_aload_n rfl rfl ?_
        refine rk_get rfl (by assumption) rfl ?_
        refine rk_iload rfl rfl ?_
        refine rk_aload_n rfl rfl ?_
        refine rk_get rfl (by assumption) rfl ?_
        rw [hv22]
        refine rk_iast rfl c62 (rfl) (by omega) (by decide) ?_
        refine hp_gen c62 (fun h1 g1 hk1 hl1 => ?_)
        replace c0 := (hk1 _ (by omega)).trans c0
        replace c57 := (hk1 _ (by omega)).trans c57
        replace c58 := (hk1 _ (by omega)).trans c58
        replace c59 := (hk1 _ (by omega)).trans c59
        replace c60 := (hk1 _ (by omega)).trans c60
        replace c61 := (hk1 _ (by omega)).trans c61
        replace F0 := F0.tr (FrM.mk1 hk1 hl1 (by omega))
        replace c62 := g1
        refine rk_aload_n rfl rfl ?_
        refine rk_get rfl (by assumption) rfl ?_
        refine rk_iload rfl rfl ?_
        refine rk_aload_n rfl rfl ?_
        refine rk_get rfl (by assumption) rfl ?_
        rw [hv21]
        refine rk_iast rfl c61 (rfl) (by omega) (by decide) ?_
        refine hp_gen c61 (fun h1 g1 hk1 hl1 => ?_)
        replace c0 := (hk1 _ (by omega)).trans c0
        replace c57 := (hk1 _ (by omega)).trans c57
        replace c58 := (hk1 _ (by omega)).trans c58
        replace c59 := (hk1 _ (by omega)).trans c59
        replace c60 := (hk1 _ (by omega)).trans c60
        replace c62 := (hk1 _ (by omega)).trans c62
        replace F0 := F0.tr (FrM.mk1 hk1 hl1 (by omega))
        replace c61 := g1
        refine rk_aload_n rfl rfl ?_
        refine rk_get rfl (by assumption) rfl ?_
        refine rk_aload_n rfl rfl ?_
        refine rk_get rfl (by assumption) rfl ?_
        rw [hv21]
        refine rk_iload_n rfl rfl ?_
        refine rk_iast rfl c57 (rfl) (by omega) (by decide) ?_
        refine hp_gen c57 (fun h1 g1 hk1 hl1 => ?_)
        replace c0 := (hk1 _ (by omega)).trans c0
        replace c58 := (hk1 _ (by omega)).trans c58
        replace c59 := (hk1 _ (by omega)).trans c59
        replace c60 := (hk1 _ (by omega)).trans c60
        replace c61 := (hk1 _ (by omega)).trans c61
        replace c62 := (hk1 _ (by omega)).trans c62
        replace F0 := F0.tr (FrM.mk1 hk1 hl1 (by omega))
        replace c57 := g1
        refine rk_aload_n rfl rfl ?_
        refine rk_get rfl (by assumption) rfl ?_
        refine rk_aload_n rfl rfl ?_
        refine rk_get rfl (by assumption) rfl ?_
        rw [hv21]
        refine rk_iload_n rfl rfl ?_
        refine rk_iast rfl c58 (rfl) (by omega) (by decide) ?_
        refine hp_gen c58 (fun h1 g1 hk1 hl1 => ?_)
        replace c0 := (hk1 _ (by omega)).trans c0
        replace c57 := (hk1 _ (by omega)).trans c57
        replace c59 := (hk1 _ (by omega)).trans c59
        replace c60 := (hk1 _ (by omega)).trans c60
        replace c61 := (hk1 _ (by omega)).trans c61
        replace c62 := (hk1 _ (by omega)).trans c62
        replace F0 := F0.tr (FrM.mk1 hk1 hl1 (by omega))
        replace c58 := g1
        refine rk_aload_n rfl rfl ?_
        refine rk_get rfl (by assumption) rfl ?_
        refine rk_aload_n rfl rfl ?_
        refine rk_get rfl (by assumption) rfl ?_
        rw [hv21]
        refine rk_iload_n rfl rfl ?_
        refine rk_iast rfl c59 (rfl) (by omega) (by decide) ?_
        refine hp_gen c59 (fun h1 g1 hk1 hl1 => ?_)
        replace c0 := (hk1 _ (by omega)).trans c0
        replace c57 := (hk1 _ (by omega)).trans c57
        replace c58 := (hk1 _ (by omega)).trans c58
        replace c60 := (hk1 _ (by omega)).trans c60
        replace c61 := (hk1 _ (by omega)).trans c61
        replace c62 := (hk1 _ (by omega)).trans c62
        replace F0 := F0.tr (FrM.mk1 hk1 hl1 (by omega))
        replace c59 := g1
        refine rk_aload_n rfl rfl ?_
        refine rk_get rfl (by assumption) rfl ?_
        refine rk_aload_n rfl rfl ?_
        refine rk_get rfl (by assumption) rfl ?_
        rw [hv21]
        refine rk_iload rfl rfl ?_
        refine rk_iast rfl c60 (rfl) (by omega) (by decide) ?_
        refine hp_gen c60 (fun h1 g1 hk1 hl1 => ?_)
        replace c0 := (hk1 _ (by omega)).trans c0
        replace c57 := (hk1 _ (by omega)).trans c57
        replace c58 := (hk1 _ (by omega)).trans c58
        replace c59 := (hk1 _ (by omega)).trans c59
        replace c61 := (hk1 _ (by omega)).trans c61
        replace c62 := (hk1 _ (by omega)).trans c62
        replace F0 := F0.tr (FrM.mk1 hk1 hl1 (by omega))
        replace c60 := g1
        refine rk_aload_n rfl rfl ?_
        refine rk_dup_a rfl ?_
        refine rk_get rfl (by assumption) rfl ?_
        rw [hv21]
        refine rk_iconst (v := nI 1) rfl (by decide) ?_
        refine rk_iadd rfl (nI_add _ _) ?_
        refine rk_putM rfl c0 (Or.inr (Or.inr (Or.inr (Or.inr (Or.inr (Or.inr (Or.inr (Or.inr (Or.inr (Or.inr (Or.inr (Or.inl rfl)))))))))))) (fun h1 g1 hk1 hl1 => ?_)
        replace F0 := F0.tr (FrM.mk1 hk1 hl1 (by omega))
        replace c57 := (hk1 _ (by omega)).trans c57
        replace c58 := (hk1 _ (by omega)).trans c58
        replace c59 := (hk1 _ (by omega)).trans c59
        replace c60 := (hk1 _ (by omega)).trans c60
        replace c61 := (hk1 _ (by omega)).trans c61
        replace c62 := (hk1 _ (by omega)).trans c62
        replace c0 := g1
        refine rk_iconst (v := nI 1) rfl (by decide) ?_
        refine rk_ireturn rfl (by decide) ⟨_, _, rfl, Or.inr ⟨mem_no (hLP.miss hp y1), rfl, F0, c59, c60, _, _, _, c0, rfl, hv22, c57, c58, c61, c62, hmk, by omega, fun j hj => ?_, hLP.ins (by omega) (fun j hj => (hp j hj).1) y1, fun i hi => ?_⟩⟩
        · simp only [upd, un]
          by_cases z : j = (hfM r1 r2 x + e) % 65536
          · rw [if_pos z, if_pos z, if_pos z]
            exact Or.inl ⟨rfl, by omega, rfl⟩
          · rw [if_neg z, if_neg z, if_neg z]
            exact hsm j hj
        · simp only [upd, un]
          by_cases z : i = m
          · rw [if_pos z, if_pos z, if_pos z]
            exact ⟨rfl, rfl, hx1, hx2⟩
          · rw [if_neg z, if_neg z, if_neg z]
            exact hst i (by omega)
      · replace hc18 := Decidable.not_not.mp hc18
        replace hc18 := (nI_eq (by omega) (by omega)).mp hc18
        omega
theorem s232 {X : ai_X} {h : ai_H} {v : Nat → Int32} {mk m : Nat} {f57 f58 f59 f60 sp sm : Nat → Int32} {st T r1 r2 : Nat → Nat} (S : MX h v mk m f57 f58 sp sm st T r1 r2) (c59 : h[59]? = some (cI 30002 f59)) (c60 : h[60]? = some (cI 30002 f60)) {x : Nat} (hx1 : r1 x < 2 ^ 31) (hx2 : r2 x < 2 ^ 31) (hinj : ∀ i, i < m → r1 (st i) = r1 x → r2 (st i) = r2 x → st i = x) (hm : m ≤ 30000) {fr to : Int32} : Mt X am_232 [.ref 52, .int (nI (r1 x)), .int (nI (r2 x)), .int fr, .int to] h (Qi (fun w h1 => (mem st x m = true ∧ w = nI 0 ∧ h1 = h) ∨ (¬ mem st x m = true ∧ w = nI 1 ∧ FrM h h1 ∧ h1[59]? = some (cI 30002 (upd f59 m fr)) ∧ h1[60]? = some (cI 30002 (upd f60 m to)) ∧ ∃ sp1 sm1 T1, MX h1 (upd v 21 (nI (m + 1))) mk (m + 1) (upd f57 m (nI (r1 x))) (upd f58 m (nI (r2 x))) sp1 sm1 (un st m x) T1 r1 r2))) := by
  obtain ⟨c0, hv21, hv22, c57, c58, c61, c62, hmk, hmm, hsm, hLP, hst⟩ := id S
  have h31 := hfMn_lt (r1 x) (r2 x)
  obtain ⟨D, hD, h0⟩ := hLP.free (x := x) (by omega) (Nat.mod_lt _ (by omega))
  refine rk_iload_n rfl rfl ?_
  refine rk_ldc rfl ?_
  refine rk_imul rfl rfl ?_
  refine rk_iload_n rfl rfl ?_
  refine rk_sipush (v := nI 25253) rfl (by decide) ?_
  refine rk_imul rfl (pk_mul _ _) ?_
  refine rk_iadd rfl rfl ?_
  refine rk_ldcw rfl ?_
  refine rk_iand rfl (hfMn_eq (r1 x) (r2 x)) ?_
  refine rk_ldc rfl ?_
  rw [rw_65536]
  refine rk_irem rfl (nI_ne0 (by omega) (by omega)) (pk_rem (by omega) (by omega) (by omega)) ?_
  refine rk_istore rfl (Nat.le_of_ble_eq_true rfl) rfl ?_
  have z := l232 (X := X) (fr := fr) (to := to) S c59 c60 hx1 hx2 hinj hm hD h0 (D + 1) 0 (by omega) (by omega) (fun j hj => absurd hj (by omega))
  rw [Nat.add_zero, Nat.mod_mod] at z
  exact z
/-! what came about, in the model's search; w: the object's other numbers -/
def MB (h : ai_H) (w : Nat → Int32) (mk : Nat) (r1 r2 : Nat → Nat) (B : Bf) : Prop := ∃ v f57 f58 f59 f60 sp sm T, (v 5 = w 5 ∧ v 13 = w 13 ∧ v 14 = w 14) ∧ MX h v mk B.m f57 f58 sp sm B.st T r1 r2 ∧ h[59]? = some (cI 30002 f59) ∧ h[60]? = some (cI 30002 f60) ∧ ∀ i, i < B.m → f59 i = (if i = 0 then -1 else nI (B.pa i)) ∧ (i ≠ 0 → f60 i = nI (B.to i))
/-- the model's search, empty -/
def ME (h : ai_H) (w : Nat → Int32) (mk : Nat) : Prop := ∃ v f57 f58 f59 f60 sp sm, (v 5 = w 5 ∧ v 13 = w 13 ∧ v 14 = w 14) ∧ (h[52]? = some (cMdl v) ∧ v 21 = nI 0 ∧ v 22 = nI mk ∧ h[57]? = some (cI 30002 f57) ∧ h[58]? = some (cI 30002 f58) ∧ h[61]? = some (cI 65536 sp) ∧ h[62]? = some (cI 65536 sm) ∧ mk < 2 ^ 30 ∧ ∀ j, j < 65536 → ∃ x, x < mk ∧ sm j = nI x) ∧ h[59]? = some (cI 30002 f59) ∧ h[60]? = some (cI 30002 f60)
theorem MB.obj {h : ai_H} {w : Nat → Int32} {mk : Nat} {r1 r2 : Nat → Nat} {B : Bf} (S : MB h w mk r1 r2 B) : ∃ v, h[52]? = some (cMdl v) ∧ v 21 = nI B.m ∧ v 22 = nI mk ∧ v 5 = w 5 ∧ v 13 = w 13 ∧ v 14 = w 14 := by
  obtain ⟨v, f57, f58, f59, f60, sp, sm, T, ⟨a, b, c⟩, ⟨c0, h21, h22, -⟩, -⟩ := S
  exact ⟨v, c0, h21, h22, a, b, c⟩
theorem MB.sts {h : ai_H} {w : Nat → Int32} {mk : Nat} {r1 r2 : Nat → Nat} {B : Bf} (S : MB h w mk r1 r2 B) : ∃ f57 f58, h[57]? = some (cI 30002 f57) ∧ h[58]? = some (cI 30002 f58) ∧ ∀ i, i < B.m → f57 i = nI (r1 (B.st i)) ∧ f58 i = nI (r2 (B.st i)) := by
  obtain ⟨v, f57, f58, f59, f60, sp, sm, T, -, ⟨-, -, -, c57, c58, -, -, -, -, -, -, hst⟩, -⟩ := S
  exact ⟨f57, f58, c57, c58, fun i hi => ⟨(hst i hi).1, (hst i hi).2.1⟩⟩
/-- the marks, as they must be between two calls -/
theorem MB.marks {h : ai_H} {w : Nat → Int32} {mk : Nat} {r1 r2 : Nat → Nat} {B : Bf} (S : MB h w mk r1 r2 B) : ∃ sm, h[62]? = some (cI 65536 sm) ∧ ∀ i, i < 65536 → ∃ x, x ≤ mk ∧ sm i = nI x := by
  obtain ⟨v, f57, f58, f59, f60, sp, sm, T, -, ⟨-, -, -, -, -, -, c62, -, -, hsm, -⟩, -⟩ := S
  refine ⟨sm, c62, fun i hi => ?_⟩
  rcases hsm i hi with ⟨a, -⟩ | ⟨-, x, hx, a⟩
  · exact ⟨mk, Nat.le_refl _, a⟩
  · exact ⟨x, by omega, a⟩
theorem MB.fr {h h1 : ai_H} {w : Nat → Int32} {mk : Nat} {r1 r2 : Nat → Nat} {B : Bf} (hk : ∀ q : Nat, q = 52 ∨ (57 ≤ q ∧ q < 63) → h1[q]? = h[q]?) (S : MB h w mk r1 r2 B) : MB h1 w mk r1 r2 B := by
  obtain ⟨v, f57, f58, f59, f60, sp, sm, T, a, ⟨c0, h21, h22, c57, c58, c61, c62, b⟩, c59, c60, d⟩ := S
  exact ⟨v, f57, f58, f59, f60, sp, sm, T, a, ⟨(hk _ (by omega)).trans c0, h21, h22, (hk _ (by omega)).trans c57, (hk _ (by omega)).trans c58, (hk _ (by omega)).trans c61, (hk _ (by omega)).trans c62, b⟩, (hk _ (by omega)).trans c59, (hk _ (by omega)).trans c60, d⟩
theorem s232B {X : ai_X} {h : ai_H} {w : Nat → Int32} {mk x k t : Nat} {r1 r2 : Nat → Nat} {B : Bf} (S : MB h w mk r1 r2 B) (h0 : 0 < B.m) (hx1 : r1 x < 2 ^ 31) (hx2 : r2 x < 2 ^ 31) (hinj : ∀ i, i < B.m → r1 (B.st i) = r1 x → r2 (B.st i) = r2 x → B.st i = x) (hm : B.m ≤ 30000) : Mt X am_232 [.ref 52, .int (nI (r1 x)), .int (nI (r2 x)), .int (nI k), .int (nI t)] h (Qi (fun y h1 => y = bI (¬ mem B.st x B.m = true) ∧ FrM h h1 ∧ MB h1 w mk r1 r2 (bfA B x k t))) := by
  obtain ⟨v, f57, f58, f59, f60, sp, sm, T, a, S', c59, c60, d⟩ := S
  refine (s232 (fr := nI k) (to := nI t) S' c59 c60 hx1 hx2 hinj hm).mono ?_
  rintro o' ⟨y, h1, rfl, ⟨m1, rfl, rfl⟩ | ⟨m1, rfl, F, e59, e60, sp1, sm1, T1, a1⟩⟩
  · refine ⟨_, _, rfl, by rw [bI_f (fun z => z m1)]; exact nI_0, FrM.rfl', ?_⟩
    rw [bfA, if_pos m1]
    exact ⟨v, f57, f58, f59, f60, sp, sm, T, a, S', c59, c60, d⟩
  · refine ⟨_, _, rfl, by rw [bI_t m1]; exact nI_one, F, ?_⟩
    rw [bfA, if_neg m1]
    refine ⟨upd v 21 (nI (B.m + 1)), _, _, _, _, sp1, sm1, T1, a, a1, e59, e60, fun i hi => ?_⟩
    have hi' : i < B.m + 1 := hi
    show upd f59 B.m (nI k) i = (if i = 0 then -1 else nI (un B.pa B.m k i)) ∧ (i ≠ 0 → upd f60 B.m (nI t) i = nI (un B.to B.m t i))
    simp only [upd, un]
    by_cases z : i = B.m
    · rw [if_pos z, if_neg (by omega), if_pos z, if_pos z, if_pos z]
      exact ⟨rfl, fun _ => rfl⟩
    · rw [if_neg z, if_neg z, if_neg z, if_neg z]
      exact d i (by omega)
theorem s232R {X : ai_X} {h : ai_H} {w : Nat → Int32} {mk x : Nat} {r1 r2 : Nat → Nat} (S : ME h w mk) (hx1 : r1 x < 2 ^ 31) (hx2 : r2 x < 2 ^ 31) : Mt X am_232 [.ref 52, .int (nI (r1 x)), .int (nI (r2 x)), .int (-1), .int (-1)] h (Qi (fun y h1 => y = 1 ∧ FrM h h1 ∧ MB h1 w mk r1 r2 (bf0 x))) := by
  obtain ⟨v, f57, f58, f59, f60, sp, sm, a, ⟨c0, h21, h22, c57, c58, c61, c62, hmk, hsm⟩, c59, c60⟩ := S
  have S' : MX h v mk 0 f57 f58 sp sm (fun _ => x) (fun _ => 0) r1 r2 := ⟨c0, h21, h22, c57, c58, c61, c62, hmk, by omega, fun j hj => Or.inr ⟨rfl, hsm j hj⟩, LPr.nil (fun _ _ => rfl), fun i hi => absurd hi (by omega)⟩
  refine (s232 (fr := -1) (to := -1) S' c59 c60 hx1 hx2 (fun i hi => absurd hi (by omega)) (by omega)).mono ?_
  rintro o' ⟨y, h1, rfl, ⟨m1, rfl, rfl⟩ | ⟨m1, rfl, F, e59, e60, sp1, sm1, T1, a1⟩⟩
  · exact absurd m1 (by simp [mem])
  · have e : un (fun _ => x) 0 x = fun _ => x := funext fun i => by unfold un; split <;> rfl
    rw [e] at a1
    refine ⟨_, _, rfl, nI_one, F, upd v 21 (nI (0 + 1)), _, _, _, _, sp1, sm1, T1, a, a1, e59, e60, fun i hi => ?_⟩
    have hi' : i < 1 := hi
    have : i = 0 := by omega
    subst this
    exact ⟨rfl, fun z => absurd rfl z⟩
theorem s231 {X : ai_X} {h : ai_H} {v f57 f58 f59 f60 sp sm : Nat → Int32} {mk : Nat} (c0 : h[52]? = some (cMdl v)) (hv22 : v 22 = nI mk) (hmk : mk < 2 ^ 29) (c57 : h[57]? = some (cI 30002 f57)) (c58 : h[58]? = some (cI 30002 f58)) (c59 : h[59]? = some (cI 30002 f59)) (c60 : h[60]? = some (cI 30002 f60)) (c61 : h[61]? = some (cI 65536 sp)) (c62 : h[62]? = some (cI 65536 sm)) (hsm : ∀ i, i < 65536 → ∃ x, x ≤ mk ∧ sm i = nI x) : Mt X am_231 [.ref 52] h (Qv (fun h1 => FrM h h1 ∧ ME h1 v (mk + 1))) := by
  have F0 : FrM h h := FrM.rfl'
  refine rk_aload_n rfl rfl ?_
  refine rk_dup_a rfl ?_
  refine rk_get rfl (by assumption) rfl ?_
  rw [hv22]
  refine rk_iconst (v := nI 1) rfl (by decide) ?_
  refine rk_iadd rfl (nI_add _ _) ?_
  refine rk_putM rfl c0 (Or.inr (Or.inr (Or.inr (Or.inr (Or.inr (Or.inr (Or.inr (Or.inr (Or.inr (Or.inr (Or.inr (Or.inr rfl)))))))))))) (fun h1 g1 hk1 hl1 => ?_)
  replace F0 := F0.tr (FrM.mk1 hk1 hl1 (by omega))
  replace c57 := (hk1 _ (by omega)).trans c57
  replace c58 := (hk1 _ (by omega)).trans c58
  replace c59 := (hk1 _ (by omega)).trans c59
  replace c60 := (hk1 _ (by omega)).trans c60
  replace c61 := (hk1 _ (by omega)).trans c61
  replace c62 := (hk1 _ (by omega)).trans c62
  replace c0 := g1
  refine rk_aload_n rfl rfl ?_
  refine rk_iconst (v := nI 0) rfl (by decide) ?_
  refine rk_putM rfl c0 (Or.inr (Or.inr (Or.inr (Or.inr (Or.inr (Or.inr (Or.inr (Or.inr (Or.inr (Or.inr (Or.inr (Or.inl rfl)))))))))))) (fun h1 g1 hk1 hl1 => ?_)
  replace F0 := F0.tr (FrM.mk1 hk1 hl1 (by omega))
  replace c57 := (hk1 _ (by omega)).trans c57
  replace c58 := (hk1 _ (by omega)).trans c58
  replace c59 := (hk1 _ (by omega)).trans c59
  replace c60 := (hk1 _ (by omega)).trans c60
  replace c61 := (hk1 _ (by omega)).trans c61
  replace c62 := (hk1 _ (by omega)).trans c62
  replace c0 := g1
  exact rk_return rfl rfl ⟨_, rfl, F0, upd (upd v 22 (nI (mk + 1))) 21 (nI 0), f57, f58, f59, f60, sp, sm, ⟨rfl, rfl, rfl⟩, ⟨c0, rfl, rfl, c57, c58, c61, c62, by omega, fun j hj => by obtain ⟨x, a, b⟩ := hsm j hj; exact ⟨x, by omega, b⟩⟩, c59, c60⟩
theorem l242 {X : ai_X} {h : ai_H} {w : Nat → Int32} {mk T x : Nat} {r1 r2 : Nat → Nat} {nx : Nat → Nat → Nat} {ok : Nat → Bool} {B : Bf} (S : MB h w mk r1 r2 B) (hI : BI nx ok T x B) {k : Nat} (hk : k < B.m) {P : ai_O → Prop} (z : Rk X am_242 17 [some (.ref 52), some (.int (nI k)), some (.int (nI (dep B.pa k))), some (.int (nI 0))] [] h P) : ∀ (d : Nat) (j : Nat), dep B.pa k < j + d → (j ≤ dep B.pa k) → Rk X am_242 4 [some (.ref 52), some (.int (nI k)), some (.int (nI j)), some (.int (nI (anc B.pa k j)))] [] h (P) := by
  intro d
  induction d with
  | zero => intro j hd hj; exfalso; omega
  | succ d ih =>
    intro j hd hj
    obtain ⟨v, f57, f58, f59, f60, sp, sm, T', -, S', c59, c60, hfr⟩ := id S
    obtain ⟨c0, hv21, hv22, c57, c58, c61, c62, hmk, hmm, hsm, hLP, hst⟩ := id S'
    have hpar := hI.par
    obtain ⟨hj1, hj2⟩ := dep_anc hpar hk j hj
    have hj3 := dep_end hpar hk hj
    have hdl := dep_le hpar k hk
    refine rk_aload_n rfl rfl ?_
    refine rk_get rfl (by assumption) rfl ?_
    refine rk_iload_n rfl rfl ?_
    refine rk_iald rfl (by assumption) (rfl) (by omega) (by decide) ?_
    rw [(hfr _ hj1).1]
    refine rk_iconst (v := (-1)) rfl (by decide) ?_
    refine rk_icmp_eq rfl rfl (fun hc9 => ?_) (fun hc9 => ?_)
    · have hk0 : anc B.pa k j = 0 := Decidable.byContradiction fun y => nm_eq (a := B.pa (anc B.pa k j)) (by have := hpar _ (by omega) hj1; omega) ((if_neg y).symm.trans hc9)
      have hjd := hj3.mp hk0
      rw [hk0, hjd]
      exact z
    · have hk0 : ¬ anc B.pa k j = 0 := fun y => hc9 (if_pos y)
      have hjd : j ≠ dep B.pa k := fun y => hk0 (hj3.mpr y)
      refine rk_iinc rfl rfl (n_inc _) rfl ?_
      refine rk_aload_n rfl rfl ?_
      refine rk_get rfl (by assumption) rfl ?_
      refine rk_iload_n rfl rfl ?_
      refine rk_iald rfl (by assumption) (rfl) (by omega) (by decide) ?_
      rw [(hfr _ hj1).1, if_neg hk0]
      refine rk_istore_n rfl (Nat.le_of_ble_eq_true rfl) rfl ?_
      refine rk_goto rfl rfl ?_
      exact ih (j + 1) (by omega) (by omega)
theorem s242 {X : ai_X} {h : ai_H} {w : Nat → Int32} {mk T x : Nat} {r1 r2 : Nat → Nat} {nx : Nat → Nat → Nat} {ok : Nat → Bool} {B : Bf} (S : MB h w mk r1 r2 B) (hI : BI nx ok T x B) {k : Nat} (hk : k < B.m) : Mt X am_242 [.ref 52, .int (nI k)] h (Qe (nI (dep B.pa k)) h) := by
  refine rk_iconst (v := nI 0) rfl (by decide) ?_
  refine rk_istore_n rfl (Nat.le_of_ble_eq_true rfl) rfl ?_
  refine rk_iload_n rfl rfl ?_
  refine rk_istore_n rfl (Nat.le_of_ble_eq_true rfl) rfl ?_
  refine l242 S hI hk ?_ (dep B.pa k + 1) 0 (by omega) (by omega)
  refine rk_iload_n rfl rfl ?_
  exact rk_ireturn rfl rfl Qe_mk
theorem l233a {X : ai_X} {h : ai_H} {w : Nat → Int32} {mk T x : Nat} {r1 r2 : Nat → Nat} {nx : Nat → Nat → Nat} {ok : Nat → Bool} {B : Bf} (S : MB h w mk r1 r2 B) (hI : BI nx ok T x B) {k : Nat} (hk : k < B.m) {P : ai_O → Prop} (z : Rk X am_233 17 [some (.ref 52), some (.int (nI k)), some (.int (nI (dep B.pa k))), some (.int (nI 0))] [] h P) : ∀ (d : Nat) (j : Nat), dep B.pa k < j + d → (j ≤ dep B.pa k) → Rk X am_233 4 [some (.ref 52), some (.int (nI k)), some (.int (nI j)), some (.int (nI (anc B.pa k j)))] [] h (P) := by
  intro d
  induction d with
  | zero => intro j hd hj; exfalso; omega
  | succ d ih =>
    intro j hd hj
    obtain ⟨v, f57, f58, f59, f60, sp, sm, T', -, S', c59, c60, hfr⟩ := id S
    obtain ⟨c0, hv21, hv22, c57, c58, c61, c62, hmk, hmm, hsm, hLP, hst⟩ := id S'
    have hpar := hI.par
    obtain ⟨hj1, hj2⟩ := dep_anc hpar hk j hj
    have hj3 := dep_end hpar hk hj
    have hdl := dep_le hpar k hk
    refine rk_aload_n rfl rfl ?_
    refine rk_get rfl (by assumption) rfl ?_
    refine rk_iload_n rfl rfl ?_
    refine rk_iald rfl (by assumption) (rfl) (by omega) (by decide) ?_
    rw [(hfr _ hj1).1]
    refine rk_iconst (v := (-1)) rfl (by decide) ?_
    refine rk_icmp_eq rfl rfl (fun hc9 => ?_) (fun hc9 => ?_)
    · have hk0 : anc B.pa k j = 0 := Decidable.byContradiction fun y => nm_eq (a := B.pa (anc B.pa k j)) (by have := hpar _ (by omega) hj1; omega) ((if_neg y).symm.trans hc9)
      have hjd := hj3.mp hk0
      rw [hk0, hjd]
      exact z
    · have hk0 : ¬ anc B.pa k j = 0 := fun y => hc9 (if_pos y)
      have hjd : j ≠ dep B.pa k := fun y => hk0 (hj3.mpr y)
      refine rk_iinc rfl rfl (n_inc _) rfl ?_
      refine rk_aload_n rfl rfl ?_
      refine rk_get rfl (by assumption) rfl ?_
      refine rk_iload_n rfl rfl ?_
      refine rk_iald rfl (by assumption) (rfl) (by omega) (by decide) ?_
      rw [(hfr _ hj1).1, if_neg hk0]
      refine rk_istore_n rfl (Nat.le_of_ble_eq_true rfl) rfl ?_
      refine rk_goto rfl rfl ?_
      exact ih (j + 1) (by omega) (by omega)
/-- the model's row with another row FOUND -/
def FD (A A1 : Nat → Int32) (d : Nat) (x : Nat → Nat) : Prop := A1 281 = nI d ∧ (∀ i, i < d → A1 (282 + i) = nI (x i)) ∧ ∀ q, ¬ (281 ≤ q ∧ q < 782) → A1 q = A q
theorem l233b {X : ai_X} {h : ai_H} {w A : Nat → Int32} {mk T x : Nat} {r1 r2 : Nat → Nat} {nx : Nat → Nat → Nat} {ok : Nat → Bool} {B : Bf} (S : MB h w mk r1 r2 B) (hI : BI nx ok T x B) {k : Nat} (hk : k < B.m) (h5 : dep B.pa k ≤ 500) : ∀ (d : Nat) (j : Nat) (g : ai_H) (A1 : Nat → Int32), dep B.pa k < j + d → (j ≤ dep B.pa k) → (Fr 53 54 h g) → (g[53]? = some (cI 2346 A1)) → (A1 281 = nI (dep B.pa k)) → (∀ i, dep B.pa k - j ≤ i → i < dep B.pa k → A1 (282 + i) = nI (rowTo B k i)) → (∀ q, ¬ (281 ≤ q ∧ q < 782) → A1 q = A q) → Rk X am_233 24 [some (.ref 52), some (.int (nI k)), some (.int (nI (dep B.pa k - j))), some (.int (nI (anc B.pa k j)))] [] g (Qi (fun w h1 => w = nI (dep B.pa k) ∧ Fr 53 54 h h1 ∧ ∃ A1, h1[53]? = some (cI 2346 A1) ∧ FD A A1 (dep B.pa k) (rowTo B k))) := by
  intro d
  induction d with
  | zero => intro j g A1 hd hj F c53 h281 hf hq; exfalso; omega
  | succ d ih =>
    intro j g A1 hd hj F c53 h281 hf hq
    obtain ⟨v, f57, f58, f59, f60, sp, sm, T', -, S', c59, c60, hfr⟩ := id S
    obtain ⟨c0, hv21, hv22, c57, c58, c61, c62, hmk, hmm, hsm, hLP, hst⟩ := id S'
    have hpar := hI.par
    obtain ⟨hj1, hj2⟩ := dep_anc hpar hk j hj
    have hj3 := dep_end hpar hk hj
    have hdl := dep_le hpar k hk
    have e0 := (F.2 52 (by omega)).trans c0
    have e59 := (F.2 59 (by omega)).trans c59
    have e60 := (F.2 60 (by omega)).trans c60
    clear c0 c59 c60 c57 c58 c61 c62
    refine rk_aload_n rfl rfl ?_
    refine rk_get rfl (by assumption) rfl ?_
    refine rk_iload_n rfl rfl ?_
    refine rk_iald rfl (by assumption) (rfl) (by omega) (by decide) ?_
    rw [(hfr _ hj1).1]
    refine rk_iconst (v := (-1)) rfl (by decide) ?_
    refine rk_icmp_eq rfl rfl (fun hc29 => ?_) (fun hc29 => ?_)
    · have hk0 : anc B.pa k j = 0 := Decidable.byContradiction fun y => nm_eq (a := B.pa (anc B.pa k j)) (by have := hpar _ (by omega) hj1; omega) ((if_neg y).symm.trans hc29)
      have hjd := hj3.mp hk0
      refine rk_aload_n rfl rfl ?_
      refine rk_get rfl (by assumption) rfl ?_
      refine rk_sipush (v := nI 281) rfl (by decide) ?_
      refine rk_iald rfl (by assumption) (rfl) (by omega) (by decide) ?_
      rw [h281]
      exact rk_ireturn rfl rfl ⟨_, _, rfl, rfl, F, A1, c53, h281, fun i hi => hf i (by omega) hi, hq⟩
    · have hk0 : ¬ anc B.pa k j = 0 := fun y => hc29 (if_pos y)
      have hjd : j ≠ dep B.pa k := fun y => hk0 (hj3.mpr y)
      refine rk_iinc rfl rfl (n_dec (by omega)) rfl ?_
      refine rk_aload_n rfl rfl ?_
      refine rk_get rfl (by assumption) rfl ?_
      refine rk_sipush (v := nI 282) rfl (by decide) ?_
      refine rk_iload_n rfl rfl ?_
      refine rk_iadd rfl (nI_add _ _) ?_
      refine rk_aload_n rfl rfl ?_
      refine rk_get rfl (by assumption) rfl ?_
      refine rk_iload_n rfl rfl ?_
      refine rk_iald rfl (by assumption) (rfl) (by omega) (by decide) ?_
      rw [(hfr _ hj1).2 hk0]
      refine rk_iast rfl c53 (rfl) (by omega) (by decide) ?_
      refine hp_gen c53 (fun h1 g1 hk1 hl1 => ?_)
      replace e0 := (hk1 _ (by omega)).trans e0
      replace e59 := (hk1 _ (by omega)).trans e59
      replace e60 := (hk1 _ (by omega)).trans e60
      replace c53 := g1
      refine rk_aload_n rfl rfl ?_
      refine rk_get rfl (by assumption) rfl ?_
      refine rk_iload_n rfl rfl ?_
      refine rk_iald rfl (by assumption) (rfl) (by omega) (by decide) ?_
      rw [(hfr _ hj1).1, if_neg hk0]
      refine rk_istore_n rfl (Nat.le_of_ble_eq_true rfl) rfl ?_
      refine rk_goto rfl rfl ?_
      refine ih (j + 1) h1 _ (by omega) (by omega) (F.tr (Fr.mk1 hk1 hl1 (by omega) (by omega))) c53 ?_ (fun i h1 h2 => ?_) (fun q hq1 => ?_)
      · simp only [upd]
        rw [if_neg (by omega)]
        exact h281
      · simp only [upd]
        by_cases y : i = dep B.pa k - j - 1
        · rw [if_pos (by omega), rowTo, show dep B.pa k - 1 - i = j by omega]
        · rw [if_neg (by omega)]
          exact hf i (by omega) h2
      · simp only [upd]
        rw [if_neg (by omega)]
        exact hq q hq1
theorem s233 {X : ai_X} {h : ai_H} {w A : Nat → Int32} {mk T x : Nat} {r1 r2 : Nat → Nat} {nx : Nat → Nat → Nat} {ok : Nat → Bool} {B : Bf} (S : MB h w mk r1 r2 B) (hI : BI nx ok T x B) {k : Nat} (hk : k < B.m) (c53 : h[53]? = some (cI 2346 A)) (h5 : dep B.pa k ≤ 500) : Mt X am_233 [.ref 52, .int (nI k)] h (Qi (fun w h1 => w = nI (dep B.pa k) ∧ Fr 53 54 h h1 ∧ ∃ A1, h1[53]? = some (cI 2346 A1) ∧ FD A A1 (dep B.pa k) (rowTo B k))) := by
  obtain ⟨v, f57, f58, f59, f60, sp, sm, T', -, S', c59, c60, hfr⟩ := id S
  obtain ⟨c0, hv21, hv22, c57, c58, c61, c62, hmk, hmm, hsm, hLP, hst⟩ := id S'
  have hpar := hI.par
  have F0 : Fr 53 54 h h := Fr.rfl'
  refine rk_iconst (v := nI 0) rfl (by decide) ?_
  refine rk_istore_n rfl (Nat.le_of_ble_eq_true rfl) rfl ?_
  refine rk_iload_n rfl rfl ?_
  refine rk_istore_n rfl (Nat.le_of_ble_eq_true rfl) rfl ?_
  refine l233a S hI hk ?_ (dep B.pa k + 1) 0 (by omega) (by omega)
  refine rk_aload_n rfl rfl ?_
  refine rk_get rfl (by assumption) rfl ?_
  refine rk_sipush (v := nI 281) rfl (by decide) ?_
  refine rk_iload_n rfl rfl ?_
  refine rk_iast rfl c53 (rfl) (by omega) (by decide) ?_
  refine hp_gen c53 (fun h1 g1 hk1 hl1 => ?_)
  replace c0 := (hk1 _ (by omega)).trans c0
  replace F0 := F0.tr (Fr.mk1 hk1 hl1 (by omega) (by omega))
  replace c53 := g1
  refine rk_iload_n rfl rfl ?_
  refine rk_istore_n rfl (Nat.le_of_ble_eq_true rfl) rfl ?_
  refine (l233b (A := A) (S.fr (fun q hq => F0.2 q (by omega))) hI hk h5 (dep B.pa k + 1) 0 _ _ (by omega) (by omega) Fr.rfl' c53 (if_pos rfl) (fun i a b => absurd b (by omega)) (fun q hq => if_neg (by omega))).mono ?_
  rintro o ⟨w, h2, rfl, rfl, F2, A1, y1, y2⟩
  exact ⟨_, _, rfl, rfl, F0.tr F2, A1, y1, y2⟩
theorem s237 {X : ai_X} {h : ai_H} {w A : Nat → Int32} {mk T x : Nat} {r1 r2 : Nat → Nat} {nx : Nat → Nat → Nat} {ok : Nat → Bool} {B : Bf} (S : MB h w mk r1 r2 B) (hI : BI nx ok T x B) {k : Nat} (hk : k < B.m) (c53 : h[53]? = some (cI 2346 A)) : Mt X am_237 [.ref 52, .int (nI k)] h (Qi (fun w h1 => w = nI (dep B.pa k) ∧ ((500 < dep B.pa k ∧ h1 = h) ∨ (dep B.pa k ≤ 500 ∧ Fr 53 54 h h1 ∧ ∃ A1, h1[53]? = some (cI 2346 A1) ∧ FD A A1 (dep B.pa k) (rowTo B k))))) := by
  obtain ⟨v, f57, f58, f59, f60, sp, sm, T', -, S', c59, c60, hfr⟩ := id S
  obtain ⟨c0, hv21, hv22, c57, c58, c61, c62, hmk, hmm, hsm, hLP, hst⟩ := id S'
  have hpar := hI.par
  have hdl := dep_le hpar k hk
  refine rk_aload_n rfl rfl ?_
  refine rk_iload_n rfl rfl ?_
  refine rk_cv1e rfl rfl (by assumption) rfl rfl (Nat.le_of_ble_eq_true rfl) (Nat.le_of_ble_eq_true rfl) (s242 S hI hk) ?_
  refine rk_istore_n rfl (Nat.le_of_ble_eq_true rfl) rfl ?_
  refine rk_iload_n rfl rfl ?_
  refine rk_sipush (v := nI 500) rfl (by decide) ?_
  refine rk_icmp_le rfl rfl (fun hc6 => ?_) (fun hc6 => ?_)
  · replace hc6 := (nI_leI (by omega) (by omega)).mp hc6
    refine rk_aload_n rfl rfl ?_
    refine rk_iload_n rfl rfl ?_
    refine rk_cv1i rfl rfl (by assumption) rfl rfl (Nat.le_of_ble_eq_true rfl) (Nat.le_of_ble_eq_true rfl) (s233 S hI hk c53 (by omega)) (fun w h1 hF => ?_)
    first | exact rk_ireturn rfl rfl ⟨_, _, rfl, rfl, Or.inl ⟨by omega, rfl⟩⟩ | exact rk_ireturn rfl rfl ⟨_, _, rfl, hF.1, Or.inr ⟨by omega, hF.2⟩⟩
  · replace hc6 := mt (nI_leI (by omega) (by omega)).mpr hc6
    refine rk_iload_n rfl rfl ?_
    refine rk_goto rfl rfl ?_
    first | exact rk_ireturn rfl rfl ⟨_, _, rfl, rfl, Or.inl ⟨by omega, rfl⟩⟩ | exact rk_ireturn rfl rfl ⟨_, _, rfl, hF.1, Or.inr ⟨by omega, hF.2⟩⟩
