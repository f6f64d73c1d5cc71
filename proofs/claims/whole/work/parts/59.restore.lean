/-! IMAGES -/
theorem va_full {f g : Nat → Int32} {n k : Nat} (h : k < n) : va_cpy f g 0 0 n k = f k := by
  simp only [va_cpy]
  rw [if_pos (by omega), show 0 + (k - 0) = k by omega]
theorem s22 {X : ai_X} {h : ai_H} {p q : Nat} {F F1 : Nat → Int32} {G G1 : Nat → Nat → Int32} (H : HouseAt h p F G) (H1 : HouseAt h q F1 G1) (hpq : p + 6 ≤ q ∨ q + 6 ≤ p) : Mt X am_22 [.ref p, .ref q] h (Qv (fun h1 => Fr p (p + 6) h h1 ∧ ∃ G2, HouseAt h1 p F1 G2 ∧ (∀ k, k < 84 → G2 0 k = G1 0 k ∧ G2 1 k = G1 1 k ∧ G2 2 k = G1 2 k) ∧ (∀ k, k < 14 → G2 3 k = G1 3 k) ∧ ∀ k, k < 8 → G2 4 k = G1 4 k)) := by
  obtain ⟨r0, r1, r2, r3, r4, r5⟩ := H
  obtain ⟨q0, q1, q2, q3, q4, q5⟩ := H1
  have F0 : Fr p (p + 6) h h := Fr.rfl'
  refine rk_aload_n rfl rfl ?_
  refine rk_aload_n rfl rfl ?_
  refine rk_get rfl (by assumption) rfl ?_
  refine rk_put rfl r0 (Nat.le_of_ble_eq_true rfl) ft_2_0 rfl (Or.inl rfl) rfl ?_
  refine hp_gen r0 (fun h1 g1 hk1 hl1 => ?_)
  replace q0 := (hk1 _ (by omega)).trans q0
  replace r1 := (hk1 _ (by omega)).trans r1
  replace r2 := (hk1 _ (by omega)).trans r2
  replace r3 := (hk1 _ (by omega)).trans r3
  replace r4 := (hk1 _ (by omega)).trans r4
  replace r5 := (hk1 _ (by omega)).trans r5
  replace q1 := (hk1 _ (by omega)).trans q1
  replace q2 := (hk1 _ (by omega)).trans q2
  replace q3 := (hk1 _ (by omega)).trans q3
  replace q4 := (hk1 _ (by omega)).trans q4
  replace q5 := (hk1 _ (by omega)).trans q5
  replace F0 := F0.tr (Fr.mk1 hk1 hl1 (by omega) (by omega))
  replace r0 := g1
  refine rk_aload_n rfl rfl ?_
  refine rk_aload_n rfl rfl ?_
  refine rk_get rfl (by assumption) rfl ?_
  refine rk_put rfl r0 (Nat.le_of_ble_eq_true rfl) ft_2_1 rfl (Or.inl rfl) rfl ?_
  refine hp_gen r0 (fun h1 g1 hk1 hl1 => ?_)
  replace q0 := (hk1 _ (by omega)).trans q0
  replace r1 := (hk1 _ (by omega)).trans r1
  replace r2 := (hk1 _ (by omega)).trans r2
  replace r3 := (hk1 _ (by omega)).trans r3
  replace r4 := (hk1 _ (by omega)).trans r4
  replace r5 := (hk1 _ (by omega)).trans r5
  replace q1 := (hk1 _ (by omega)).trans q1
  replace q2 := (hk1 _ (by omega)).trans q2
  replace q3 := (hk1 _ (by omega)).trans q3
  replace q4 := (hk1 _ (by omega)).trans q4
  replace q5 := (hk1 _ (by omega)).trans q5
  replace F0 := F0.tr (Fr.mk1 hk1 hl1 (by omega) (by omega))
  replace r0 := g1
  refine rk_aload_n rfl rfl ?_
  refine rk_aload_n rfl rfl ?_
  refine rk_get rfl (by assumption) rfl ?_
  refine rk_put rfl r0 (Nat.le_of_ble_eq_true rfl) ft_2_2 rfl (Or.inl rfl) rfl ?_
  refine hp_gen r0 (fun h1 g1 hk1 hl1 => ?_)
  replace q0 := (hk1 _ (by omega)).trans q0
  replace r1 := (hk1 _ (by omega)).trans r1
  replace r2 := (hk1 _ (by omega)).trans r2
  replace r3 := (hk1 _ (by omega)).trans r3
  replace r4 := (hk1 _ (by omega)).trans r4
  replace r5 := (hk1 _ (by omega)).trans r5
  replace q1 := (hk1 _ (by omega)).trans q1
  replace q2 := (hk1 _ (by omega)).trans q2
  replace q3 := (hk1 _ (by omega)).trans q3
  replace q4 := (hk1 _ (by omega)).trans q4
  replace q5 := (hk1 _ (by omega)).trans q5
  replace F0 := F0.tr (Fr.mk1 hk1 hl1 (by omega) (by omega))
  replace r0 := g1
  refine rk_aload_n rfl rfl ?_
  refine rk_aload_n rfl rfl ?_
  refine rk_get rfl (by assumption) rfl ?_
  refine rk_put rfl r0 (Nat.le_of_ble_eq_true rfl) ft_2_3 rfl (Or.inl rfl) rfl ?_
  refine hp_gen r0 (fun h1 g1 hk1 hl1 => ?_)
  replace q0 := (hk1 _ (by omega)).trans q0
  replace r1 := (hk1 _ (by omega)).trans r1
  replace r2 := (hk1 _ (by omega)).trans r2
  replace r3 := (hk1 _ (by omega)).trans r3
  replace r4 := (hk1 _ (by omega)).trans r4
  replace r5 := (hk1 _ (by omega)).trans r5
  replace q1 := (hk1 _ (by omega)).trans q1
  replace q2 := (hk1 _ (by omega)).trans q2
  replace q3 := (hk1 _ (by omega)).trans q3
  replace q4 := (hk1 _ (by omega)).trans q4
  replace q5 := (hk1 _ (by omega)).trans q5
  replace F0 := F0.tr (Fr.mk1 hk1 hl1 (by omega) (by omega))
  replace r0 := g1
  refine rk_aload_n rfl rfl ?_
  refine rk_aload_n rfl rfl ?_
  refine rk_get rfl (by assumption) rfl ?_
  refine rk_put rfl r0 (Nat.le_of_ble_eq_true rfl) ft_2_4 rfl (Or.inl rfl) rfl ?_
  refine hp_gen r0 (fun h1 g1 hk1 hl1 => ?_)
  replace q0 := (hk1 _ (by omega)).trans q0
  replace r1 := (hk1 _ (by omega)).trans r1
  replace r2 := (hk1 _ (by omega)).trans r2
  replace r3 := (hk1 _ (by omega)).trans r3
  replace r4 := (hk1 _ (by omega)).trans r4
  replace r5 := (hk1 _ (by omega)).trans r5
  replace q1 := (hk1 _ (by omega)).trans q1
  replace q2 := (hk1 _ (by omega)).trans q2
  replace q3 := (hk1 _ (by omega)).trans q3
  replace q4 := (hk1 _ (by omega)).trans q4
  replace q5 := (hk1 _ (by omega)).trans q5
  replace F0 := F0.tr (Fr.mk1 hk1 hl1 (by omega) (by omega))
  replace r0 := g1
  refine rk_aload_n rfl rfl ?_
  refine rk_aload_n rfl rfl ?_
  refine rk_get rfl (by assumption) rfl ?_
  refine rk_put rfl r0 (Nat.le_of_ble_eq_true rfl) ft_2_5 rfl (Or.inl rfl) rfl ?_
  refine hp_gen r0 (fun h1 g1 hk1 hl1 => ?_)
  replace q0 := (hk1 _ (by omega)).trans q0
  replace r1 := (hk1 _ (by omega)).trans r1
  replace r2 := (hk1 _ (by omega)).trans r2
  replace r3 := (hk1 _ (by omega)).trans r3
  replace r4 := (hk1 _ (by omega)).trans r4
  replace r5 := (hk1 _ (by omega)).trans r5
  replace q1 := (hk1 _ (by omega)).trans q1
  replace q2 := (hk1 _ (by omega)).trans q2
  replace q3 := (hk1 _ (by omega)).trans q3
  replace q4 := (hk1 _ (by omega)).trans q4
  replace q5 := (hk1 _ (by omega)).trans q5
  replace F0 := F0.tr (Fr.mk1 hk1 hl1 (by omega) (by omega))
  replace r0 := g1
  refine rk_aload_n rfl rfl ?_
  refine rk_aload_n rfl rfl ?_
  refine rk_get rfl (by assumption) rfl ?_
  refine rk_put rfl r0 (Nat.le_of_ble_eq_true rfl) ft_2_6 rfl (Or.inl rfl) rfl ?_
  refine hp_gen r0 (fun h1 g1 hk1 hl1 => ?_)
  replace q0 := (hk1 _ (by omega)).trans q0
  replace r1 := (hk1 _ (by omega)).trans r1
  replace r2 := (hk1 _ (by omega)).trans r2
  replace r3 := (hk1 _ (by omega)).trans r3
  replace r4 := (hk1 _ (by omega)).trans r4
  replace r5 := (hk1 _ (by omega)).trans r5
  replace q1 := (hk1 _ (by omega)).trans q1
  replace q2 := (hk1 _ (by omega)).trans q2
  replace q3 := (hk1 _ (by omega)).trans q3
  replace q4 := (hk1 _ (by omega)).trans q4
  replace q5 := (hk1 _ (by omega)).trans q5
  replace F0 := F0.tr (Fr.mk1 hk1 hl1 (by omega) (by omega))
  replace r0 := g1
  refine rk_aload_n rfl rfl ?_
  refine rk_get rfl (by assumption) rfl ?_
  refine rk_iconst (v := nI 0) rfl (by decide) ?_
  refine rk_aload_n rfl rfl ?_
  refine rk_get rfl (by assumption) rfl ?_
  refine rk_iconst (v := nI 0) rfl (by decide) ?_
  refine rk_aload_n rfl rfl ?_
  refine rk_get rfl (by assumption) rfl ?_
  refine rk_alen rfl (by assumption) (Nat.le_of_ble_eq_true rfl) rfl ?_
  refine rk_cpyI rfl q1 r1 (by omega) (by omega) (by decide) (by decide) (Nat.le_of_ble_eq_true rfl) ?_
  refine hp_gen r1 (fun h1 g1 hk1 hl1 => ?_)
  replace F0 := F0.tr (Fr.mk1 hk1 hl1 (by omega) (by omega))
  replace r0 := (hk1 _ (by omega)).trans r0
  replace q0 := (hk1 _ (by omega)).trans q0
  replace r2 := (hk1 _ (by omega)).trans r2
  replace r3 := (hk1 _ (by omega)).trans r3
  replace r4 := (hk1 _ (by omega)).trans r4
  replace r5 := (hk1 _ (by omega)).trans r5
  replace q1 := (hk1 _ (by omega)).trans q1
  replace q2 := (hk1 _ (by omega)).trans q2
  replace q3 := (hk1 _ (by omega)).trans q3
  replace q4 := (hk1 _ (by omega)).trans q4
  replace q5 := (hk1 _ (by omega)).trans q5
  replace r1 := g1
  refine rk_aload_n rfl rfl ?_
  refine rk_get rfl (by assumption) rfl ?_
  refine rk_iconst (v := nI 0) rfl (by decide) ?_
  refine rk_aload_n rfl rfl ?_
  refine rk_get rfl (by assumption) rfl ?_
  refine rk_iconst (v := nI 0) rfl (by decide) ?_
  refine rk_aload_n rfl rfl ?_
  refine rk_get rfl (by assumption) rfl ?_
  refine rk_alen rfl (by assumption) (Nat.le_of_ble_eq_true rfl) rfl ?_
  refine rk_cpyI rfl q2 r2 (by omega) (by omega) (by decide) (by decide) (Nat.le_of_ble_eq_true rfl) ?_
  refine hp_gen r2 (fun h1 g1 hk1 hl1 => ?_)
  replace F0 := F0.tr (Fr.mk1 hk1 hl1 (by omega) (by omega))
  replace r0 := (hk1 _ (by omega)).trans r0
  replace q0 := (hk1 _ (by omega)).trans q0
  replace r1 := (hk1 _ (by omega)).trans r1
  replace r3 := (hk1 _ (by omega)).trans r3
  replace r4 := (hk1 _ (by omega)).trans r4
  replace r5 := (hk1 _ (by omega)).trans r5
  replace q1 := (hk1 _ (by omega)).trans q1
  replace q2 := (hk1 _ (by omega)).trans q2
  replace q3 := (hk1 _ (by omega)).trans q3
  replace q4 := (hk1 _ (by omega)).trans q4
  replace q5 := (hk1 _ (by omega)).trans q5
  replace r2 := g1
  refine rk_aload_n rfl rfl ?_
  refine rk_get rfl (by assumption) rfl ?_
  refine rk_iconst (v := nI 0) rfl (by decide) ?_
  refine rk_aload_n rfl rfl ?_
  refine rk_get rfl (by assumption) rfl ?_
  refine rk_iconst (v := nI 0) rfl (by decide) ?_
  refine rk_aload_n rfl rfl ?_
  refine rk_get rfl (by assumption) rfl ?_
  refine rk_alen rfl (by assumption) (Nat.le_of_ble_eq_true rfl) rfl ?_
  refine rk_cpyI rfl q3 r3 (by omega) (by omega) (by decide) (by decide) (Nat.le_of_ble_eq_true rfl) ?_
  refine hp_gen r3 (fun h1 g1 hk1 hl1 => ?_)
  replace F0 := F0.tr (Fr.mk1 hk1 hl1 (by omega) (by omega))
  replace r0 := (hk1 _ (by omega)).trans r0
  replace q0 := (hk1 _ (by omega)).trans q0
  replace r1 := (hk1 _ (by omega)).trans r1
  replace r2 := (hk1 _ (by omega)).trans r2
  replace r4 := (hk1 _ (by omega)).trans r4
  replace r5 := (hk1 _ (by omega)).trans r5
  replace q1 := (hk1 _ (by omega)).trans q1
  replace q2 := (hk1 _ (by omega)).trans q2
  replace q3 := (hk1 _ (by omega)).trans q3
  replace q4 := (hk1 _ (by omega)).trans q4
  replace q5 := (hk1 _ (by omega)).trans q5
  replace r3 := g1
  refine rk_aload_n rfl rfl ?_
  refine rk_get rfl (by assumption) rfl ?_
  refine rk_iconst (v := nI 0) rfl (by decide) ?_
  refine rk_aload_n rfl rfl ?_
  refine rk_get rfl (by assumption) rfl ?_
  refine rk_iconst (v := nI 0) rfl (by decide) ?_
  refine rk_aload_n rfl rfl ?_
  refine rk_get rfl (by assumption) rfl ?_
  refine rk_alen rfl (by assumption) (Nat.le_of_ble_eq_true rfl) rfl ?_
  refine rk_cpyI rfl q4 r4 (by omega) (by omega) (by decide) (by decide) (Nat.le_of_ble_eq_true rfl) ?_
  refine hp_gen r4 (fun h1 g1 hk1 hl1 => ?_)
  replace F0 := F0.tr (Fr.mk1 hk1 hl1 (by omega) (by omega))
  replace r0 := (hk1 _ (by omega)).trans r0
  replace q0 := (hk1 _ (by omega)).trans q0
  replace r1 := (hk1 _ (by omega)).trans r1
  replace r2 := (hk1 _ (by omega)).trans r2
  replace r3 := (hk1 _ (by omega)).trans r3
  replace r5 := (hk1 _ (by omega)).trans r5
  replace q1 := (hk1 _ (by omega)).trans q1
  replace q2 := (hk1 _ (by omega)).trans q2
  replace q3 := (hk1 _ (by omega)).trans q3
  replace q4 := (hk1 _ (by omega)).trans q4
  replace q5 := (hk1 _ (by omega)).trans q5
  replace r4 := g1
  refine rk_aload_n rfl rfl ?_
  refine rk_get rfl (by assumption) rfl ?_
  refine rk_iconst (v := nI 0) rfl (by decide) ?_
  refine rk_aload_n rfl rfl ?_
  refine rk_get rfl (by assumption) rfl ?_
  refine rk_iconst (v := nI 0) rfl (by decide) ?_
  refine rk_aload_n rfl rfl ?_
  refine rk_get rfl (by assumption) rfl ?_
  refine rk_alen rfl (by assumption) (Nat.le_of_ble_eq_true rfl) rfl ?_
  refine rk_cpyI rfl q5 r5 (by omega) (by omega) (by decide) (by decide) (Nat.le_of_ble_eq_true rfl) ?_
  refine hp_gen r5 (fun h1 g1 hk1 hl1 => ?_)
  replace F0 := F0.tr (Fr.mk1 hk1 hl1 (by omega) (by omega))
  replace r0 := (hk1 _ (by omega)).trans r0
  replace q0 := (hk1 _ (by omega)).trans q0
  replace r1 := (hk1 _ (by omega)).trans r1
  replace r2 := (hk1 _ (by omega)).trans r2
  replace r3 := (hk1 _ (by omega)).trans r3
  replace r4 := (hk1 _ (by omega)).trans r4
  replace q1 := (hk1 _ (by omega)).trans q1
  replace q2 := (hk1 _ (by omega)).trans q2
  replace q3 := (hk1 _ (by omega)).trans q3
  replace q4 := (hk1 _ (by omega)).trans q4
  replace q5 := (hk1 _ (by omega)).trans q5
  replace r5 := g1
  exact rk_return rfl rfl ⟨_, rfl, F0, fun j => if j = 0 then va_cpy (G1 0) (G 0) 0 0 84 else if j = 1 then va_cpy (G1 1) (G 1) 0 0 84 else if j = 2 then va_cpy (G1 2) (G 2) 0 0 84 else if j = 3 then va_cpy (G1 3) (G 3) 0 0 14 else va_cpy (G1 4) (G 4) 0 0 8, ⟨r0, r1, r2, r3, r4, r5⟩, fun k hk => ⟨va_full hk, va_full hk, va_full hk⟩, fun k hk => va_full hk, fun k hk => va_full hk⟩
theorem s22F {X : ai_X} {h : ai_H} {p q off n t w : Nat} {F F1 A : Nat → Int32} {G G1 : Nat → Nat → Int32} (H : HouseAt h p F G) (H1 : HouseAt h q F1 G1) (hpq : p + 6 ≤ q ∨ q + 6 ≤ p) (hC : HC F1 G1 A off) (hV : HV A off n t w) : Mt X am_22 [.ref p, .ref q] h (Qv (fun h1 => Fr p (p + 6) h h1 ∧ ∃ F G, HouseAt h1 p F G ∧ HC F G A off)) := by
  refine (s22 H H1 hpq).mono ?_
  rintro o ⟨h1, rfl, F0, G2, K, g1, g2, g3⟩
  obtain ⟨x0, x1, x2, x3, x4, x5, x6, x7, x8, x9, x10⟩ := hC
  obtain ⟨-, -, y3, y4, -⟩ := hV
  refine ⟨_, rfl, F0, _, _, K, x0, x1, x2, x3, x4, x5, x6, fun k hk => (g2 k hk).trans (x7 k hk), fun k hk => (g1 k hk).2.2.trans (x8 k hk), fun w' hw => ?_, fun z k hk => ⟨(g1 k hk).1.trans (x10 z k hk).1, (g1 k hk).2.1.trans (x10 z k hk).2⟩⟩
  have hw2 := hw
  rw [x4, y3, nI_clamp (by omega)] at hw2
  exact (g3 w' (by omega)).trans (x9 w' hw)
theorem s92F {X : ai_X} {h : ai_H} {p q off t : Nat} {n0 n : Int32} {f g A : Nat → Int32} (R : RouteAt h p n0 g) (hpq : p + 2 ≤ q ∨ q + 2 ≤ p) (Q : RouteAt h q n f) (hC : FC n f A off) (hV : FV A off t) : Mt X am_92 [.ref p, .ref q] h (Qv (fun h1 => Fr p (p + 2) h h1 ∧ ∃ n f, RouteAt h1 p n f ∧ FC n f A off)) := by
  obtain ⟨e, hf⟩ := hC
  rcases hV with hv | ⟨L, hL, hv, -⟩
  · rw [hv] at e
    subst e
    refine (s92m R hpq Q).mono ?_
    rintro o ⟨h1, rfl, F, g1, r⟩
    refine ⟨_, rfl, F, _, _, r, hv.symm, fun i hi => ?_⟩
    rw [hv] at hi
    exact absurd (show i < 0 from hi) (by omega)
  · rw [hv] at e
    subst e
    refine (s92 R hpq Q hL).mono ?_
    rintro o ⟨h1, rfl, F, g1, r, hg⟩
    refine ⟨_, rfl, F, _, _, r, hv.symm, fun i hi => ?_⟩
    have hi2 := hi
    rw [hv, nI_clamp (by omega)] at hi2
    exact (hg i hi2).trans (hf i hi)
/-- the same numbers at another place -/
abbrev At (A A1 : Nat → Int32) (off off1 : Nat) : Prop := ∀ k, k < 782 → A1 (off1 + k) = A (off + k)
theorem At.hc {A A1 : Nat → Int32} {off off1 n t w : Nat} {F : Nat → Int32} {G : Nat → Nat → Int32} (e : At A A1 off off1) (hV : HV A off n t w) (H : HC F G A off) : HC F G A1 off1 := by
  obtain ⟨x0, x1, x2, x3, x4, x5, x6, x7, x8, x9, x10⟩ := H
  obtain ⟨-, -, y3, y4, -⟩ := hV
  refine ⟨x0.trans (e 0 (by omega)).symm, x1.trans (e _ (by omega)).symm, x2.trans (e _ (by omega)).symm, x3.trans (e _ (by omega)).symm, x4.trans (e _ (by omega)).symm, x5.trans (e _ (by omega)).symm, x6.trans (e _ (by omega)).symm, fun k hk => ?_, fun k hk => ?_, fun w' hw => ?_, fun z k hk => ?_⟩
  · rw [x7 k hk, Nat.add_assoc, Nat.add_assoc, e _ (by omega)]
  · rw [x8 k hk, Nat.add_assoc, Nat.add_assoc, e _ (by omega)]
  · have hw2 := hw
    rw [x4, y3, nI_clamp (by omega)] at hw2
    rw [x9 w' hw, Nat.add_assoc, Nat.add_assoc, e _ (by omega)]
  · rw [(x10 z k hk).1, (x10 z k hk).2, Nat.add_assoc, Nat.add_assoc, Nat.add_assoc, Nat.add_assoc, e _ (by omega), e _ (by omega)]
    exact ⟨rfl, rfl⟩
theorem At.fc {A A1 : Nat → Int32} {off off1 t : Nat} {n : Int32} {f : Nat → Int32} (e : At A A1 off off1) (hV : FV A off t) (H : FC n f A off) : FC n f A1 off1 := by
  obtain ⟨x0, x1⟩ := H
  refine ⟨x0.trans (e _ (by omega)).symm, fun i hi => ?_⟩
  rw [e 281 (by omega)] at hi
  have hi2 := hi
  rcases hV with hv | ⟨L, hL, hv, -⟩
  · rw [hv] at hi2; exact absurd (show i < 0 from hi2) (by omega)
  · rw [hv, nI_clamp (by omega)] at hi2
    rw [x1 i hi, Nat.add_assoc, Nat.add_assoc, e _ (by omega)]
theorem At.fv {A A1 : Nat → Int32} {off off1 t : Nat} (e : At A A1 off off1) (H : FV A off t) : FV A1 off1 t := by
  rcases H with hv | ⟨L, hL, hv, hx⟩
  · exact Or.inl ((e _ (by omega)).trans hv)
  · refine Or.inr ⟨L, hL, (e _ (by omega)).trans hv, fun i hi => ?_⟩
    obtain ⟨x, y1, y2⟩ := hx i hi
    rw [Nat.add_assoc] at y2
    exact ⟨x, y1, by rw [Nat.add_assoc, e _ (by omega)]; exact y2⟩
theorem At.hv {A A1 : Nat → Int32} {off off1 n t w : Nat} (e : At A A1 off off1) (H : HV A off n t w) : HV A1 off1 n t w := by
  obtain ⟨y1, y2, y3, y4, ⟨l, y5, y5'⟩, y6, ⟨p, y7, y7'⟩, ⟨b1, y8, y8'⟩, ⟨b2, y9, y9'⟩, y10, y11, y12, y13⟩ := H
  have hn : n ≤ 14 := by omega
  have ht : t ≤ 6 := by omega
  refine ⟨(e 0 (by omega)).trans y1, (e _ (by omega)).trans y2, (e _ (by omega)).trans y3, y4, ⟨l, y5, (e _ (by omega)).trans y5'⟩, y6, ⟨p, (e _ (by omega)).trans y7, y7'⟩, ⟨b1, (e _ (by omega)).trans y8, y8'⟩, ⟨b2, (e _ (by omega)).trans y9, y9'⟩, fun k hk => ?_, fun k hk => ?_, fun r i hr hi => ?_, fun r i hr hi => ?_⟩
  · obtain ⟨g, a, b⟩ := y10 k hk
    exact ⟨g, a, by rw [Nat.add_assoc, e _ (by omega), ← Nat.add_assoc]; exact b⟩
  · obtain ⟨g, a, b⟩ := y11 k hk
    exact ⟨g, a, by rw [Nat.add_assoc, e _ (by omega), ← Nat.add_assoc]; exact b⟩
  · obtain ⟨g, a, b⟩ := y12 r i hr hi
    exact ⟨g, a, by rw [Nat.add_assoc, e _ (by omega), ← Nat.add_assoc]; exact b⟩
  · obtain ⟨c, a, b, d, f⟩ := y13 r i hr hi
    have e1 : A1 (off1 + 86 + (6 * r + i)) = A (off + 86 + (6 * r + i)) := by rw [Nat.add_assoc, e _ (by omega), ← Nat.add_assoc]
    refine ⟨c, a, by rw [Nat.add_assoc, e _ (by omega), ← Nat.add_assoc]; exact b, ?_, ?_⟩
    · rw [e1]; exact d
    · rw [e1]; exact f
theorem c177_x {X : ai_X} {h : ai_H} {tp : Int32} {k1 k2 : Nat → Option Nat} (d0 : h[0]? = some (cOne tp)) (d20 : h[20]? = some (cR 4 2 k1)) (d21 : h[21]? = some (cR 5 2 k2)) {a : Int32} (ha : ¬ (¬ a < 0 ∧ ¬ nI 2 ≤ a)) : Mt X am_177 [.ref 0, .int a] h (Qe (-2) h) := by
  refine rk_iload_n rfl rfl ?_
  refine rk_if_lt rfl rfl (fun hc1 => ?_) (fun hc1 => ?_)
  · refine rk_bipush (v := (-2)) rfl (by decide) ?_
    exact rk_ireturn rfl rfl Qe_mk
  · refine rk_iload_n rfl rfl ?_
    refine rk_iconst (v := nI 2) rfl (by decide) ?_
    refine rk_icmp_lt rfl rfl (fun hc4 => ?_) (fun hc4 => ?_)
    · exact absurd ⟨hc1, fun z => i32_le.mp z hc4⟩ ha
    · refine rk_bipush (v := (-2)) rfl (by decide) ?_
      exact rk_ireturn rfl rfl Qe_mk
theorem c177_n {X : ai_X} {h : ai_H} {tp : Int32} {k1 k2 : Nat → Option Nat} (d0 : h[0]? = some (cOne tp)) (d20 : h[20]? = some (cR 4 2 k1)) (d21 : h[21]? = some (cR 5 2 k2)) {i : Nat} (hi : i < 2) (hn : k1 i = none) : Mt X am_177 [.ref 0, .int (nI i)] h (Qe (-5) h) := by
  refine rk_iload_n rfl rfl ?_
  refine rk_if_lt rfl rfl (fun hc1 => ?_) (fun hc1 => ?_)
  · replace hc1 := (n0_lt (by omega)).mp hc1
    exact hc1.elim
  · replace hc1 := mt (n0_lt (by omega)).mpr hc1
    refine rk_iload_n rfl rfl ?_
    refine rk_iconst (v := nI 2) rfl (by decide) ?_
    refine rk_icmp_lt rfl rfl (fun hc4 => ?_) (fun hc4 => ?_)
    · replace hc4 := (nI_ltI (by omega) (by omega)).mp hc4
      refine rk_aload_n rfl rfl ?_
      refine rk_get rfl (by assumption) rfl ?_
      refine rk_iload_n rfl rfl ?_
      refine rk_aald (w := .null) rfl (by assumption) (by decide) rfl (by omega) (by decide) (by rw [hn]; rfl) ?_
      refine rk_ifnull_n rfl rfl ?_
      refine rk_bipush (v := (-5)) rfl (by decide) ?_
      exact rk_ireturn rfl rfl Qe_mk
    · replace hc4 := mt (nI_ltI (by omega) (by omega)).mpr hc4
      omega
theorem c177_v {X : ai_X} {h : ai_H} {tp : Int32} {k1 k2 : Nat → Option Nat} (d0 : h[0]? = some (cOne tp)) (d20 : h[20]? = some (cR 4 2 k1)) (d21 : h[21]? = some (cR 5 2 k2)) {i p off n t w : Nat} {A F F1 f5 f6 : Nat → Int32} {G G1 : Nat → Nat → Int32} {n5 n6 : Int32} (hi : i < 2) (y1 : k1 i = some p) (y2 : k2 i = some (p + 6)) (hp : 80 ≤ p) (H3 : HouseAt h 3 F G) (HI : HouseAt h p F1 G1) (hC : HC F1 G1 A off) (hV : HV A off n t w) (R5 : RouteAt h 15 n5 f5) (R6 : RouteAt h (p + 6) n6 f6) (hF : FC n6 f6 A off) (hFV : FV A off t) : Mt X am_177 [.ref 0, .int (nI i)] h (Qi (fun w h1 => w = 0 ∧ h1.length = h.length ∧ (∀ q : Nat, ¬ (3 ≤ q ∧ q < 9) → ¬ (15 ≤ q ∧ q < 17) → h1[q]? = h[q]?) ∧ (∃ F G, HouseAt h1 3 F G ∧ HC F G A off) ∧ ∃ n f, RouteAt h1 15 n f ∧ FC n f A off)) := by
  have e3 := H3.1
  have e5 := R5.1
  have hF0 := hF
  refine rk_iload_n rfl rfl ?_
  refine rk_if_lt rfl rfl (fun hc1 => ?_) (fun hc1 => ?_)
  · replace hc1 := (n0_lt (by omega)).mp hc1
    exact hc1.elim
  · replace hc1 := mt (n0_lt (by omega)).mpr hc1
    refine rk_iload_n rfl rfl ?_
    refine rk_iconst (v := nI 2) rfl (by decide) ?_
    refine rk_icmp_lt rfl rfl (fun hc4 => ?_) (fun hc4 => ?_)
    · replace hc4 := (nI_ltI (by omega) (by omega)).mp hc4
      refine rk_aload_n rfl rfl ?_
      refine rk_get rfl (by assumption) rfl ?_
      refine rk_iload_n rfl rfl ?_
      refine rk_aald (w := .ref p) rfl (by assumption) (by decide) rfl (by omega) (by decide) (by rw [y1]; rfl) ?_
      refine rk_ifnull_r rfl ?_
      refine rk_aload_n rfl rfl ?_
      refine rk_get rfl (by assumption) rfl ?_
      refine rk_iload_n rfl rfl ?_
      refine rk_aald (w := .ref (p + 6)) rfl (by assumption) (by decide) rfl (by omega) (by decide) (by rw [y2]; rfl) ?_
      refine rk_ifnn_r rfl rfl ?_
      refine rk_aload_n rfl rfl ?_
      refine rk_get rfl (by assumption) rfl ?_
      refine rk_aload_n rfl rfl ?_
      refine rk_get rfl (by assumption) rfl ?_
      refine rk_iload_n rfl rfl ?_
      refine rk_aald (w := .ref p) rfl (by assumption) (by decide) rfl (by omega) (by decide) (by rw [y1]; rfl) ?_
      refine rk_cv1v rfl rfl (by assumption) rfl rfl (Nat.le_of_ble_eq_true rfl) (Nat.le_of_ble_eq_true rfl) (s22F H3 HI (by omega) hC hV) (fun h1 hF => ?_)
      obtain ⟨F2, HH⟩ := hF
      replace d0 := (F2.2 0 (by omega)).trans d0
      replace d20 := (F2.2 20 (by omega)).trans d20
      replace d21 := (F2.2 21 (by omega)).trans d21
      replace e5 := (F2.2 15 (by omega)).trans e5
      have R5' := R5.fr (h1 := h1) (fun q _ _ => F2.2 q (by omega))
      have R6' := R6.fr (h1 := h1) (fun q _ _ => F2.2 q (by omega))
      refine rk_aload_n rfl rfl ?_
      refine rk_get rfl (by assumption) rfl ?_
      refine rk_aload_n rfl rfl ?_
      refine rk_get rfl (by assumption) rfl ?_
      refine rk_iload_n rfl rfl ?_
      refine rk_aald (w := .ref (p + 6)) rfl (by assumption) (by decide) rfl (by omega) (by decide) (by rw [y2]; rfl) ?_
      refine rk_cv1v rfl rfl (by assumption) rfl rfl (Nat.le_of_ble_eq_true rfl) (Nat.le_of_ble_eq_true rfl) (s92F R5' (by omega) R6' hF0 hFV) (fun h1 hF => ?_)
      obtain ⟨F4, RR⟩ := hF
      refine rk_iconst (v := nI 0) rfl (by decide) ?_
      exact rk_ireturn rfl rfl ⟨_, _, rfl, rfl, F4.1.trans F2.1, fun q a b => (F4.2 q (by omega)).trans (F2.2 q (by omega)), (by obtain ⟨F9, G9, a, b⟩ := HH; exact ⟨F9, G9, a.fr (fun q _ _ => F4.2 q (by omega)), b⟩), RR⟩
    · replace hc4 := mt (nI_ltI (by omega) (by omega)).mpr hc4
      omega
theorem w1_in {a : Int32} : (¬ a < 0 ∧ ¬ nI 1 < a) ↔ (¬ a < 0 ∧ ¬ nI 2 ≤ a) := by
  have := in_iff (n := 2) (x := a) (by decide)
  rw [pk_sub (by decide)] at this
  exact this
theorem m287_x {X : ai_X} {h : ai_H} {v A im : Nat → Int32} (c0 : h[52]? = some (cMdl v)) (c1 : h[53]? = some (cI 2346 A)) (c2 : h[54]? = some (cZ 2 im)) {a : Int32} (ha : ¬ (¬ a < 0 ∧ ¬ nI 2 ≤ a)) : Rk X am_287 3 (ai_loc (ai_mL am_287) [.ref 52, .int a]) [] h (Qe (-2) h) := by
  refine rk_iload_n rfl rfl ?_
  refine rk_i2l rfl rfl ?_
  refine rk_lconst (v := 0) rfl (by decide) ?_
  rw [show (0 : Int64) = (0 : Int32).toInt64 by decide]
  refine rk_lconst (v := 1) rfl (by decide) ?_
  rw [show (1 : Int64) = (nI 1).toInt64 by decide]
  refine rk_cs3e rfl rfl rfl (Nat.le_of_ble_eq_true rfl) (Nat.le_of_ble_eq_true rfl) (s181 _ _ _) ?_
  refine rk_if_ne rfl rfl (fun hc8 => ?_) (fun hc8 => ?_)
  · replace hc8 := Decidable.not_not.mp (mt bI_0.mpr hc8)
    exact absurd (w1_in.mp hc8) ha
  · replace hc8 := Decidable.not_not.mp hc8
    replace hc8 := (bI_0).mp hc8
    refine rk_bipush (v := (-2)) rfl (by decide) ?_
    exact rk_ireturn rfl rfl Qe_mk
theorem m287_n {X : ai_X} {h : ai_H} {v A im : Nat → Int32} (c0 : h[52]? = some (cMdl v)) (c1 : h[53]? = some (cI 2346 A)) (c2 : h[54]? = some (cZ 2 im)) {i : Nat} (hi : i < 2) (hn : im i = 0) : Rk X am_287 3 (ai_loc (ai_mL am_287) [.ref 52, .int (nI i)]) [] h (Qe (-5) h) := by
  refine rk_iload_n rfl rfl ?_
  refine rk_i2l rfl rfl ?_
  refine rk_lconst (v := 0) rfl (by decide) ?_
  rw [show (0 : Int64) = (0 : Int32).toInt64 by decide]
  refine rk_lconst (v := 1) rfl (by decide) ?_
  rw [show (1 : Int64) = (nI 1).toInt64 by decide]
  refine rk_cs3e rfl rfl rfl (Nat.le_of_ble_eq_true rfl) (Nat.le_of_ble_eq_true rfl) (s181 _ _ _) ?_
  refine rk_if_ne rfl rfl (fun hc8 => ?_) (fun hc8 => ?_)
  · replace hc8 := Decidable.not_not.mp (mt bI_0.mpr hc8)
    refine rk_aload_n rfl rfl ?_
    refine rk_get rfl (by assumption) rfl ?_
    refine rk_iload_n rfl rfl ?_
    refine rk_zald rfl (by assumption) (rfl) (by omega) (by decide) ?_
    refine rk_if_ne rfl rfl (fun hc15 => ?_) (fun hc15 => ?_)
    · exact absurd hn hc15
    · replace hc15 := Decidable.not_not.mp hc15
      refine rk_bipush (v := (-5)) rfl (by decide) ?_
      exact rk_ireturn rfl rfl Qe_mk
  · replace hc8 := Decidable.not_not.mp hc8
    replace hc8 := (bI_0).mp hc8
    exact absurd (w1_mk hi) hc8
theorem l287 {X : ai_X} {h : ai_H} {v A im : Nat → Int32} (c0 : h[52]? = some (cMdl v)) (c1 : h[53]? = some (cI 2346 A)) (c2 : h[54]? = some (cZ 2 im)) {i : Nat} (hi : i < 2) : ∀ (d : Nat) (k : Nat) (g : ai_H) (A1 : Nat → Int32), 782 < k + d → (k ≤ 782) → (Fr 53 54 h g) → (g[53]? = some (cI 2346 A1)) → (∀ q, q < k → A1 q = A (782 * (i + 1) + q)) → (∀ q, k ≤ q → A1 q = A q) → Rk X am_287 20 [some (.ref 52), some (.int (nI i)), some (.int (nI k))] [] g (Qi (fun w h1 => w = 0 ∧ Fr 53 54 h h1 ∧ ∃ A1, h1[53]? = some (cI 2346 A1) ∧ (∀ q, q < 782 → A1 q = A (782 * (i + 1) + q)) ∧ ∀ q, 782 ≤ q → A1 q = A q)) := by
  intro d
  induction d with
  | zero => intro k g A1 hd hk F c53 hA1 hA2; exfalso; omega
  | succ d ih =>
    intro k g A1 hd hk F c53 hA1 hA2
    have e52 := (F.2 52 (by omega)).trans c0
    have F0 : Fr 53 54 h g := F
    refine rk_iload_n rfl rfl ?_
    refine rk_sipush (v := nI 782) rfl (by decide) ?_
    refine rk_icmp_ge rfl rfl (fun hc22 => ?_) (fun hc22 => ?_)
    · replace hc22 := (nI_leI (by omega) (by omega)).mp hc22
      refine rk_iconst (v := nI 0) rfl (by decide) ?_
      have hk2 : k = 782 := by omega
      subst hk2
      exact rk_ireturn rfl rfl ⟨_, _, rfl, rfl, F, A1, c53, hA1, hA2⟩
    · replace hc22 := mt (nI_leI (by omega) (by omega)).mpr hc22
      refine rk_aload_n rfl rfl ?_
      refine rk_get rfl (by assumption) rfl ?_
      refine rk_iload_n rfl rfl ?_
      refine rk_aload_n rfl rfl ?_
      refine rk_get rfl (by assumption) rfl ?_
      refine rk_sipush (v := nI 782) rfl (by decide) ?_
      refine rk_iload_n rfl rfl ?_
      refine rk_iconst (v := nI 1) rfl (by decide) ?_
      refine rk_iadd rfl (nI_add _ _) ?_
      refine rk_imul rfl (pk_mul _ _) ?_
      refine rk_iload_n rfl rfl ?_
      refine rk_iadd rfl (nI_add _ _) ?_
      refine rk_iald rfl (by assumption) (rfl) (by omega) (by decide) ?_
      rw [hA2 _ (by omega)]
      refine rk_iast rfl c53 (rfl) (by omega) (by decide) ?_
      refine hp_gen c53 (fun h1 g1 hk1 hl1 => ?_)
      replace e52 := (hk1 _ (by omega)).trans e52
      replace F0 := F0.tr (Fr.mk1 hk1 hl1 (by omega) (by omega))
      replace c53 := g1
      refine rk_iinc rfl rfl (n_inc _) rfl ?_
      refine rk_goto rfl rfl ?_
      refine ih (k + 1) _ _ (by omega) (by omega) F0 c53 (fun q hq => ?_) (fun q hq => ?_)
      · simp only [upd]
        by_cases y : q = k
        · rw [if_pos y, y]
        · rw [if_neg y]; exact hA1 q (by omega)
      · simp only [upd]
        rw [if_neg (by omega)]; exact hA2 q (by omega)
theorem m287_v {X : ai_X} {h : ai_H} {v A im : Nat → Int32} (c0 : h[52]? = some (cMdl v)) (c1 : h[53]? = some (cI 2346 A)) (c2 : h[54]? = some (cZ 2 im)) {i : Nat} (hi : i < 2) (hn : im i = 1) : Rk X am_287 3 (ai_loc (ai_mL am_287) [.ref 52, .int (nI i)]) [] h (Qi (fun w h1 => w = 0 ∧ Fr 53 54 h h1 ∧ ∃ A1, h1[53]? = some (cI 2346 A1) ∧ (∀ q, q < 782 → A1 q = A (782 * (i + 1) + q)) ∧ ∀ q, 782 ≤ q → A1 q = A q)) := by
  refine rk_iload_n rfl rfl ?_
  refine rk_i2l rfl rfl ?_
  refine rk_lconst (v := 0) rfl (by decide) ?_
  rw [show (0 : Int64) = (0 : Int32).toInt64 by decide]
  refine rk_lconst (v := 1) rfl (by decide) ?_
  rw [show (1 : Int64) = (nI 1).toInt64 by decide]
  refine rk_cs3e rfl rfl rfl (Nat.le_of_ble_eq_true rfl) (Nat.le_of_ble_eq_true rfl) (s181 _ _ _) ?_
  refine rk_if_ne rfl rfl (fun hc8 => ?_) (fun hc8 => ?_)
  · replace hc8 := Decidable.not_not.mp (mt bI_0.mpr hc8)
    refine rk_aload_n rfl rfl ?_
    refine rk_get rfl (by assumption) rfl ?_
    refine rk_iload_n rfl rfl ?_
    refine rk_zald rfl (by assumption) (rfl) (by omega) (by decide) ?_
    refine rk_if_ne rfl rfl (fun hc15 => ?_) (fun hc15 => ?_)
    · refine rk_iconst (v := nI 0) rfl (by decide) ?_
      refine rk_istore_n rfl (Nat.le_of_ble_eq_true rfl) rfl ?_
      exact l287 c0 c1 c2 hi 783 0 h A (by omega) (by omega) Fr.rfl' c1 (fun q hq => absurd hq (by omega)) (fun _ _ => rfl)
    · replace hc15 := Decidable.not_not.mp hc15
      rw [hn] at hc15
      exact absurd hc15 (by decide)
  · replace hc8 := Decidable.not_not.mp hc8
    replace hc8 := (bI_0).mp hc8
    exact absurd (w1_mk hi) hc8
theorem ob44 (X : ai_X) : O44 X Inv := by
  intro a0
  refine ob_gen fun m c s h hm I => ?_
  obtain ⟨tp, T, A, im, rs, rm, nu, fk, fp, b, hP⟩ := id I
  obtain ⟨hA, hB, hR, hI, hS, hO, hM, hVV, hD, hc, hs⟩ := id hP
  obtain ⟨v, d52⟩ := I.m52
  have d53 := hM.2.1
  have d54 := hM.2.2.1
  have d0 := hA.1
  obtain ⟨⟨F, G, H3, hC3⟩, R9, ⟨n0, f0, R, hFC⟩, R17⟩ := id hB
  obtain ⟨k1, k2, d20, d21, hII⟩ := id hI
  by_cases ha : ¬ a0 < 0 ∧ ¬ nI 2 ≤ a0
  · obtain ⟨i, hi, rfl⟩ := in_of (by omega) ha
    rcases hII i hi with ⟨-, y1, -, y3⟩ | ⟨p, y0, y1, y2, y3, ⟨F1, G1, HI, hC⟩, n6, f6, R6, hF⟩
    · exact og_pure I (c177_n d0 d20 d21 hi y1) (md_thr rfl rfl rfl rfl d52 (fun h2 g2 hk => m287_n g2 ((hk 53 (by omega)).trans d53) ((hk 54 (by omega)).trans d54) hi y3))
    · obtain ⟨n, t, w, hV, hFV⟩ := hVV.2.2.2 i hi y3
      have hp := (hD i p (by omega) y0).1
      refine ⟨_, _, c177_v d0 d20 d21 hi y1 y2 hp H3 HI hC hV R R6 hF hFV, ?_⟩
      rintro h1 ⟨l1, K1, ⟨F5, G5, H5, hC5⟩, n5, f5, R5, hF5⟩ k1'
      have e52 := (K1 52 (by omega) (by omega)).trans d52
      refine ⟨⟨_, e52⟩, md_g rfl rfl rfl rfl e52 (fun h2 g2 hk hl => ?_)⟩
      refine (m287_v g2 ((hk 53 (by omega)).trans ((K1 53 (by omega) (by omega)).trans d53)) ((hk 54 (by omega)).trans ((K1 54 (by omega) (by omega)).trans d54)) hi y3).mono ?_
      rintro o ⟨y, h3, e1, hy, F3, A1, c53, hA1, hA2⟩
      subst e1
      refine ⟨_, _, rfl, hy, fun k2' => ?_⟩
      have kk : ∀ q : Nat, ¬ (3 ≤ q ∧ q < 9) → ¬ (15 ≤ q ∧ q < 17) → q ≠ 52 → q ≠ 53 → h3[q]? = h[q]? := fun q a1 a2 a3 a4 => (F3.2 q (by omega)).trans ((hk q a3).trans (K1 q a1 a2))
      have k3 : ∀ q : Nat, q ≠ 52 → q ≠ 53 → h3[q]? = h1[q]? := fun q a3 a4 => (F3.2 q (by omega)).trans (hk q a3)
      have hlen : h3.length = h.length := (F3.1.trans hl).trans l1
      have eA : At A A1 (782 * (i + 1)) 0 := fun k hk => by rw [Nat.zero_add]; exact hA1 k hk
      have eO : ∀ j, At A A1 (782 * (j + 1)) (782 * (j + 1)) := fun j k hk => hA2 _ (by omega)
      refine ⟨tp, T, A1, im, rs, rm, nu, fk, fp, b, hA.fr (fun q _ => kk q (by omega) (by omega) (by omega) (by omega)), ⟨⟨F5, G5, H5.fr (fun q _ _ => k3 q (by omega) (by omega)), eA.hc hV hC5⟩, ?_, ⟨n5, f5, R5.fr (fun q _ _ => k3 q (by omega) (by omega)), eA.fc hFV hF5⟩, ?_⟩, hR.fr (fun q _ => kk q (by omega) (by omega) (by omega) (by omega)), ⟨k1, k2, (kk 20 (by omega) (by omega) (by omega) (by omega)).trans d20, (kk 21 (by omega) (by omega) (by omega) (by omega)).trans d21, fun j hj => ?_⟩, hS.fr (fun q _ _ => kk q (by omega) (by omega) (by omega) (by omega)) (fun i p _ hi e q _ _ => ?_), hO.fr (fun q _ _ => kk q (by omega) (by omega) (by omega) (by omega)), hM.up (k1'.trans k2') (hM.obj (kk 62 (by omega) (by omega) (by omega) (by omega)) (fun v' hv' => ?_)) c53 ((kk 54 (by omega) (by omega) (by omega) (by omega)).trans d54) ((kk 55 (by omega) (by omega) (by omega) (by omega)).trans hM.2.2.2.1) ((kk 77 (by omega) (by omega) (by omega) (by omega)).trans hM.2.2.2.2.1) ((kk 78 (by omega) (by omega) (by omega) (by omega)).trans hM.2.2.2.2.2.1) ((kk 79 (by omega) (by omega) (by omega) (by omega)).trans hM.2.2.2.2.2.2.1), ⟨hVV.1, hVV.2.1, ⟨n, t, w, eA.hv hV, eA.fv hFV⟩, fun j hj z => ?_⟩, hD.fr (by omega), hc, hs⟩
      · obtain ⟨F9, G9, z⟩ := R9
        exact ⟨F9, G9, z.fr (fun q _ _ => kk q (by omega) (by omega) (by omega) (by omega))⟩
      · obtain ⟨n, f, z⟩ := R17
        exact ⟨n, f, z.fr (fun q _ _ => kk q (by omega) (by omega) (by omega) (by omega))⟩
      · rcases hII j hj with z | ⟨p', z0, z1, z2, z3, ⟨F8, G8, z4, z5⟩, n8, f8, z6, z7⟩
        · exact Or.inl z
        · have hp' := (hD j p' (by omega) z0).1
          obtain ⟨n', t', w', hV', hFV'⟩ := hVV.2.2.2 j hj z3
          exact Or.inr ⟨p', z0, z1, z2, z3, ⟨F8, G8, z4.fr (fun q _ _ => kk q (by omega) (by omega) (by omega) (by omega)), (eO j).hc hV' z5⟩, n8, f8, z6.fr (fun q _ _ => kk q (by omega) (by omega) (by omega) (by omega)), (eO j).fc hFV' z7⟩
      · have := (hD i p hi e).1
        exact kk q (by omega) (by omega) (by omega) (by omega)
      · rw [d52] at hv'
        obtain ⟨x1, x2, x3, x4⟩ := cMdl_inj (Option.some.inj hv')
        exact ⟨_, (F3.2 52 (by omega)).trans g2, x1, x2, x3, x4⟩
      · obtain ⟨n', t', w', hV', hFV'⟩ := hVV.2.2.2 j hj z
        exact ⟨n', t', w', (eO j).hv hV', (eO j).fv hFV'⟩
  · exact og_pure I (c177_x d0 d20 d21 ha) (md_thr rfl rfl rfl rfl d52 (fun h2 g2 hk => m287_x g2 ((hk 53 (by omega)).trans d53) ((hk 54 (by omega)).trans d54) ha))
