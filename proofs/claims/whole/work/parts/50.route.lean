/-! ROWS ARE TAKEN OVER -/
section CPY
variable {X : ai_X} {M : ai_M} {k : Nat} {ls : ai_L} {t : List Value} {h : ai_H} {P : ai_O → Prop}
theorem rk_cpyI {pc len b0 p q i a b n0 n1 sp dp n : Nat} {v0 : Value} {f g : Nat → Int32} (hr : (ai_mR M)[k]? = some (pc, .invokestatic i, len, v0, 5, b0, p, q)) (ha : h[a]? = some (cI n0 f)) (hb : h[b]? = some (cI n1 g)) (h1 : sp + n ≤ n0) (h2 : dp + n ≤ n1) (hn0 : n0 < 2 ^ 31) (hn1 : n1 < 2 ^ 31) (hs : ai_sum t ≤ 8) (z : Rk X M (k + 1) ls t (h.set b (cI n1 (va_cpy f g sp dp n))) P) : Rk X M k ls (.int (nI n) :: .int (nI dp) :: .ref b :: .int (nI sp) :: .ref a :: t) h P := by
  refine rk_copy hr ?_ hs z
  simp only [ai_cpy, ha, hb]
  have c1 : (nI n).toNatClampNeg = n := nI_clamp (by omega)
  have c2 : (nI sp).toNatClampNeg = sp := nI_clamp (by omega)
  have c3 : (nI dp).toNatClampNeg = dp := nI_clamp (by omega)
  rw [c1, c2, c3, if_neg]
  rintro (w | w | w | w | w)
  · exact nI_pos (by omega) w
  · exact nI_pos (by omega) w
  · exact nI_pos (by omega) w
  · omega
  · omega
end CPY
theorem mx_n (L : Nat) (h : L < 2 ^ 31) : (if nI 0 < nI L then nI L else nI 0) = nI L := by
  by_cases z : 0 < L
  · rw [if_pos ((nI_ltI (by decide) h).mpr z)]
  · rw [if_neg (mt (nI_ltI (by decide) h).mp z), show L = 0 by omega]
theorem mx_m : (if nI 0 < (-1 : Int32) then (-1 : Int32) else nI 0) = nI 0 := by decide
theorem s92 {X : ai_X} {h : ai_H} {p q : Nat} {n0 : Int32} {f g : Nat → Int32} (R : RouteAt h p n0 g) (hpq : p + 2 ≤ q ∨ q + 2 ≤ p) {L : Nat} (Q : RouteAt h q (nI L) f) (hL : L ≤ 500) : Mt X am_92 [.ref p, .ref q] h (Qv (fun h1 => Fr p (p + 2) h h1 ∧ ∃ g1, RouteAt h1 p (nI L) g1 ∧ ∀ i, i < L → g1 i = f i)) := by
  obtain ⟨r0, r1⟩ := id R
  obtain ⟨q0, q1⟩ := id Q
  have F0 : Fr p (p + 2) h h := Fr.rfl'
  refine rk_aload_n rfl rfl ?_
  refine rk_get rfl (by assumption) rfl ?_
  refine rk_sipush (v := nI 500) rfl (by decide) ?_
  refine rk_icmp_gt rfl rfl (fun hc3 => ?_) (fun hc3 => ?_)
  · replace hc3 := (nI_ltI (by omega) (by omega)).mp hc3
    omega
  · replace hc3 := mt (nI_ltI (by omega) (by omega)).mpr hc3
    refine rk_aload_n rfl rfl ?_
    refine rk_aload_n rfl rfl ?_
    refine rk_get rfl (by assumption) rfl ?_
    refine rk_put rfl r0 (Nat.le_of_ble_eq_true rfl) ft_6_0 rfl (Or.inl rfl) rfl ?_
    refine hp_gen r0 (fun h1 g1 hk1 hl1 => ?_)
    replace r1 := (hk1 _ (by omega)).trans r1
    replace q0 := (hk1 _ (by omega)).trans q0
    replace q1 := (hk1 _ (by omega)).trans q1
    replace F0 := F0.tr (Fr.mk1 hk1 hl1 (by omega) (by omega))
    replace r0 := g1
    refine rk_aload_n rfl rfl ?_
    refine rk_get rfl (by assumption) rfl ?_
    refine rk_iconst (v := nI 0) rfl (by decide) ?_
    refine rk_aload_n rfl rfl ?_
    refine rk_get rfl (by assumption) rfl ?_
    refine rk_iconst (v := nI 0) rfl (by decide) ?_
    refine rk_iconst (v := nI 0) rfl (by decide) ?_
    refine rk_aload_n rfl rfl ?_
    refine rk_get rfl (by assumption) rfl ?_
    refine rk_max rfl (Nat.le_of_ble_eq_true rfl) (mx_n _ (by omega)) ?_
    refine rk_cpyI rfl q1 r1 (by omega) (by omega) (by decide) (by decide) (Nat.le_of_ble_eq_true rfl) ?_
    refine hp_gen r1 (fun h2 g2 hk2 hl2 => ?_)
    refine rk_return rfl rfl ⟨_, rfl, F0.tr (Fr.mk1 hk2 hl2 (by omega) (by omega)), _, ⟨(hk2 _ (by omega)).trans r0, g2⟩, fun i hi => ?_⟩
    simp only [va_cpy]
    rw [if_pos (by omega), show 0 + (i - 0) = i by omega]
theorem s92m {X : ai_X} {h : ai_H} {p q : Nat} {n0 : Int32} {f g : Nat → Int32} (R : RouteAt h p n0 g) (hpq : p + 2 ≤ q ∨ q + 2 ≤ p) (Q : RouteAt h q (-1) f) : Mt X am_92 [.ref p, .ref q] h (Qv (fun h1 => Fr p (p + 2) h h1 ∧ ∃ g1, RouteAt h1 p (-1) g1)) := by
  obtain ⟨r0, r1⟩ := id R
  obtain ⟨q0, q1⟩ := id Q
  have F0 : Fr p (p + 2) h h := Fr.rfl'
  refine rk_aload_n rfl rfl ?_
  refine rk_get rfl (by assumption) rfl ?_
  refine rk_sipush (v := nI 500) rfl (by decide) ?_
  refine rk_icmp_gt rfl rfl (fun hc3 => ?_) (fun hc3 => ?_)
  · exact absurd hc3 (by decide)
  · refine rk_aload_n rfl rfl ?_
    refine rk_aload_n rfl rfl ?_
    refine rk_get rfl (by assumption) rfl ?_
    refine rk_put rfl r0 (Nat.le_of_ble_eq_true rfl) ft_6_0 rfl (Or.inl rfl) rfl ?_
    refine hp_gen r0 (fun h1 g1 hk1 hl1 => ?_)
    replace r1 := (hk1 _ (by omega)).trans r1
    replace q0 := (hk1 _ (by omega)).trans q0
    replace q1 := (hk1 _ (by omega)).trans q1
    replace F0 := F0.tr (Fr.mk1 hk1 hl1 (by omega) (by omega))
    replace r0 := g1
    refine rk_aload_n rfl rfl ?_
    refine rk_get rfl (by assumption) rfl ?_
    refine rk_iconst (v := nI 0) rfl (by decide) ?_
    refine rk_aload_n rfl rfl ?_
    refine rk_get rfl (by assumption) rfl ?_
    refine rk_iconst (v := nI 0) rfl (by decide) ?_
    refine rk_iconst (v := nI 0) rfl (by decide) ?_
    refine rk_aload_n rfl rfl ?_
    refine rk_get rfl (by assumption) rfl ?_
    refine rk_max rfl (Nat.le_of_ble_eq_true rfl) mx_m ?_
    refine rk_cpyI (n := 0) rfl q1 r1 (by omega) (by omega) (by decide) (by decide) (Nat.le_of_ble_eq_true rfl) ?_
    refine hp_gen r1 (fun h2 g2 hk2 hl2 => ?_)
    exact rk_return rfl rfl ⟨_, rfl, F0.tr (Fr.mk1 hk2 hl2 (by omega) (by omega)), _, ⟨(hk2 _ (by omega)).trans r0, g2⟩⟩
theorem s89g {X : ai_X} {h : ai_H} {p n : Nat} {x : Int32} {f : Nat → Int32} (R : RouteAt h p (nI n) f) (hn : n < 2 ^ 30) : Mt X am_89 [.ref p, .int x] h (Qv (fun h1 => Fr p (p + 2) h h1 ∧ RouteAt h1 p (nI (n + 1)) (if n < 500 then upd f n x else f))) := by
  obtain ⟨c0, c1⟩ := id R
  have F0 : Fr p (p + 2) h h := Fr.rfl'
  refine rk_aload_n rfl rfl ?_
  refine rk_get rfl (by assumption) rfl ?_
  refine rk_if_lt rfl rfl (fun hc2 => ?_) (fun hc2 => ?_)
  · replace hc2 := (n0_lt (by omega)).mp hc2
    exact hc2.elim
  · replace hc2 := mt (n0_lt (by omega)).mpr hc2
    refine rk_aload_n rfl rfl ?_
    refine rk_get rfl (by assumption) rfl ?_
    refine rk_sipush (v := nI 500) rfl (by decide) ?_
    refine rk_icmp_ge rfl rfl (fun hc6 => ?_) (fun hc6 => ?_)
    · replace hc6 := (nI_leI (by omega) (by omega)).mp hc6
      refine rk_aload_n rfl rfl ?_
      refine rk_dup_a rfl ?_
      refine rk_get rfl (by assumption) rfl ?_
      refine rk_iconst (v := nI 1) rfl (by decide) ?_
      refine rk_iadd rfl (nI_add _ _) ?_
      refine rk_put rfl c0 (Nat.le_of_ble_eq_true rfl) ft_6_0 rfl (Or.inl rfl) rfl ?_
      refine hp_gen c0 (fun h1 g1 hk1 hl1 => ?_)
      replace c1 := (hk1 _ (by omega)).trans c1
      replace F0 := F0.tr (Fr.mk1 hk1 hl1 (by omega) (by omega))
      replace c0 := g1
      first | exact rk_return rfl rfl ⟨_, rfl, F0, by rw [if_pos (by omega)]; exact ⟨c0, c1⟩⟩ | exact rk_return rfl rfl ⟨_, rfl, F0, by rw [if_neg (by omega)]; exact ⟨c0, c1⟩⟩
    · replace hc6 := mt (nI_leI (by omega) (by omega)).mpr hc6
      refine rk_aload_n rfl rfl ?_
      refine rk_get rfl (by assumption) rfl ?_
      refine rk_aload_n rfl rfl ?_
      refine rk_get rfl (by assumption) rfl ?_
      refine rk_iload_n rfl rfl ?_
      refine rk_iast rfl c1 (rfl) (by omega) (by decide) ?_
      refine hp_gen c1 (fun h1 g1 hk1 hl1 => ?_)
      replace c0 := (hk1 _ (by omega)).trans c0
      replace F0 := F0.tr (Fr.mk1 hk1 hl1 (by omega) (by omega))
      replace c1 := g1
      refine rk_aload_n rfl rfl ?_
      refine rk_dup_a rfl ?_
      refine rk_get rfl (by assumption) rfl ?_
      refine rk_iconst (v := nI 1) rfl (by decide) ?_
      refine rk_iadd rfl (nI_add _ _) ?_
      refine rk_put rfl c0 (Nat.le_of_ble_eq_true rfl) ft_6_0 rfl (Or.inl rfl) rfl ?_
      refine hp_gen c0 (fun h1 g1 hk1 hl1 => ?_)
      replace c1 := (hk1 _ (by omega)).trans c1
      replace F0 := F0.tr (Fr.mk1 hk1 hl1 (by omega) (by omega))
      replace c0 := g1
      first | exact rk_return rfl rfl ⟨_, rfl, F0, by rw [if_pos (by omega)]; exact ⟨c0, c1⟩⟩ | exact rk_return rfl rfl ⟨_, rfl, F0, by rw [if_neg (by omega)]; exact ⟨c0, c1⟩⟩
theorem gr_ne {nx : Nat → Nat → Nat} {T : Nat} {g : Nat → Bool} {k x i : Nat} (h : ¬ i = 0) : gr nx T g (k + 1) x i = gr nx T g k (nx x (gr nx T g (k + 1) x 0)) (i - 1) := by
  have e0 : gr nx T g (k + 1) x 0 = ffi (fun t => rch nx T g k (nx x t)) T 0 := by rw [gr, if_pos rfl]
  rw [e0]
  conv => lhs; rw [gr, if_neg h]
/-- the first tone towards the end is the first of the first row -/
theorem tt_gr {N : Nat → Nat} {g : Nat → Bool} {f : Nat → Int32} {j y : Nat} (hN : HN N) (hy : vP N y) (hf : ∀ x y, x < N 0 → y < N 0 → f (x * 14 + y) = ev N g 196 (x * 14 + y)) (hl : lsP N g (j + 1) y) (hj : j < 196) : tt f N (y / 14) (y % 14) j = gr (nxP N) (N 1) g (j + 1) y 0 ∧ tt f N (y / 14) (y % 14) j < N 1 ∧ lsP N g j (nxP N y (gr (nxP N) (N 1) g (j + 1) y 0)) ∧ nxP N y (gr (nxP N) (N 1) g (j + 1) y 0) = pl N (y / 14) (gr (nxP N) (N 1) g (j + 1) y 0) * 14 + pl N (y % 14) (gr (nxP N) (N 1) g (j + 1) y 0) := by
  have hn := hN.n
  have hyy : y / 14 * 14 + y % 14 = y := by omega
  have hnx : ∀ t, nxP N y t = pl N (y / 14) t * 14 + pl N (y % 14) t := fun t => by
    have := nxP_ab (N := N) (a := y / 14) (b := y % 14) (t := t) (by omega)
    rwa [hyy] at this
  have hpt : ∀ t, t < N 1 → (decide (f (pl N (y / 14) t * 14 + pl N (y % 14) t) = nI j) = true ↔ rcP N g j (nxP N y t) = true) := fun t ht => by
    rw [decide_eq_true_iff, hf _ _ (hN.xpl hy.1 ht) (hN.xpl hy.2 ht), ev_eq (by omega) (by omega), ← hnx]
    exact ⟨fun z => z.1, fun z => lst.ge hl ht z⟩
  obtain ⟨t0, ht0, hr0⟩ := (any_iff _).mp hl.1
  obtain ⟨h1, -, h3, h4⟩ := ffi_ex (p := fun t => rcP N g j (nxP N y t)) (N 1) 0 ⟨t0, by omega, by omega, hr0⟩
  have e0 : gr (nxP N) (N 1) g (j + 1) y 0 = ffi (fun t => rcP N g j (nxP N y t)) (N 1) 0 := by rw [gr, if_pos rfl]
  have e1 : tt f N (y / 14) (y % 14) j = ffi (fun t => rcP N g j (nxP N y t)) (N 1) 0 := by
    unfold tt
    refine ffi_at (N 1) 0 _ (by omega) (by omega) ((hpt _ (by omega)).mpr h3) (fun i _ hi => fun z => h4 i (by omega) hi ((hpt i (by omega)).mp z))
  refine ⟨by rw [e0, e1], by rw [e1]; omega, ?_, ?_⟩
  · rw [e0]; exact lst.ge hl (by omega) h3
  · rw [e0, hnx]
theorem l57 {X : ai_X} {h : ai_H} {p q : Nat} {N : Nat → Nat} {g : Nat → Bool} {f : Nat → Int32} {a0 b0 : Int32} (hN : HN N) (C : CH h p N) (d27 : h[27]? = some cPa) (c28 : h[28]? = some (cI 196 f)) (hf : ∀ x y, x < N 0 → y < N 0 → f (x * 14 + y) = ev N g 196 (x * 14 + y)) (hq : (q = 17 ∨ q = 15) ∧ p + 6 ≤ 15) : ∀ (d : Nat) (j y L : Nat) (gg : ai_H) (f1 : Nat → Int32) (c8 : Option Value), j < d → (j < 196) → (vP N y) → (lsP N g j y) → (L + j < 100000) → (Fr q (q + 2) h gg) → (RouteAt gg q (nI L) f1) → Rk X am_57 9 [some (.ref 27), some (.ref p), some (.int a0), some (.int b0), some (.ref q), some (.int (nI (y / 14))), some (.int (nI (y % 14))), some (.int (nI j)), c8] [] gg (Qv (fun h1 => Fr q (q + 2) h h1 ∧ ∃ f2, RouteAt h1 q (nI (L + j)) f2 ∧ (∀ i, i < L → i < 500 → f2 i = f1 i) ∧ ∀ i, i < j → L + i < 500 → f2 (L + i) = nI (gr (nxP N) (N 1) g j y i))) := by
  intro d
  induction d with
  | zero => intro j y L gg f1 c8 hd hj hy hl hL F R; exfalso; omega
  | succ d ih =>
    intro j y L gg f1 c8 hd hj hy hl hL F R
    have C2 := C.fr2 F (by omega)
    have e0 := C2.1
    have e27 := (F.2 27 (by omega)).trans d27
    have e28 := (F.2 28 (by omega)).trans c28
    have r0 := R.1
    have hn := hN.n
    have h6 := hN.t
    refine rk_iload rfl rfl ?_
    refine rk_if_le rfl rfl (fun hc10 => ?_) (fun hc10 => ?_)
    · replace hc10 := (n0_le (by omega)).mp hc10
      have hj0 : j = 0 := by omega
      subst hj0
      exact rk_return rfl rfl ⟨_, rfl, F, f1, R, fun _ _ _ => rfl, fun i hi => absurd hi (by omega)⟩
    · replace hc10 := mt (n0_le (by omega)).mpr hc10
      obtain ⟨j', hj'⟩ : ∃ j', j = j' + 1 := ⟨j - 1, by omega⟩
      rw [hj'] at hl
      obtain ⟨g1, g2, g3, g4⟩ := tt_gr hN hy hf hl (by omega)
      have htI : tI f N (y / 14) (y % 14) (j - 1) = nI (gr (nxP N) (N 1) g (j' + 1) y 0) := by
        rw [show j - 1 = j' by omega, tI, if_neg (by omega), g1]
      rw [g1] at g2
      have hp1 := hN.xpl hy.1 g2
      have hp2 := hN.xpl hy.2 g2
      have hv' : vP N (nxP N y (gr (nxP N) (N 1) g (j' + 1) y 0)) := nxD_v hN hy g2
      have q1 : nxP N y (gr (nxP N) (N 1) g (j' + 1) y 0) / 14 = pl N (y / 14) (gr (nxP N) (N 1) g (j' + 1) y 0) := by rw [g4]; omega
      have q2 : nxP N y (gr (nxP N) (N 1) g (j' + 1) y 0) % 14 = pl N (y % 14) (gr (nxP N) (N 1) g (j' + 1) y 0) := by rw [g4]; omega
      refine rk_aload_n rfl rfl ?_
      refine rk_aload_n rfl rfl ?_
      refine rk_iload rfl rfl ?_
      refine rk_iload rfl rfl ?_
      refine rk_iload rfl rfl ?_
      refine rk_iconst (v := nI 1) rfl (by decide) ?_
      refine rk_isub rfl (pk_sub (by omega)) ?_
      refine rk_cv4e rfl rfl (by assumption) rfl rfl (Nat.le_of_ble_eq_true rfl) (Nat.le_of_ble_eq_true rfl) (s56 hN C2 e27 e28 hy.1 hy.2) ?_
      rw [htI]
      refine rk_istore rfl (Nat.le_of_ble_eq_true rfl) rfl ?_
      refine rk_iload rfl rfl ?_
      refine rk_iconst (v := (-1)) rfl (by decide) ?_
      refine rk_icmp_ne rfl rfl (fun hc22 => ?_) (fun hc22 => ?_)
      · refine rk_aload rfl rfl ?_
        refine rk_iload rfl rfl ?_
        refine rk_cv1v rfl rfl (by assumption) rfl rfl (Nat.le_of_ble_eq_true rfl) (Nat.le_of_ble_eq_true rfl) (s89g R (by omega)) (fun h1 hF => ?_)
        obtain ⟨F1, R1⟩ := hF
        replace C2 := C2.fr2 F1 (by omega)
        replace e0 := C2.1
        replace e27 := (F1.2 27 (by omega)).trans e27
        have r1 := R1.1
        refine rk_aload_n rfl rfl ?_
        refine rk_iload rfl rfl ?_
        refine rk_iload rfl rfl ?_
        refine rk_cv2e rfl rfl (by assumption) rfl rfl (Nat.le_of_ble_eq_true rfl) (Nat.le_of_ble_eq_true rfl) (s27N C2 hN hy.1 g2) ?_
        refine rk_istore rfl (Nat.le_of_ble_eq_true rfl) rfl ?_
        refine rk_aload_n rfl rfl ?_
        refine rk_iload rfl rfl ?_
        refine rk_iload rfl rfl ?_
        refine rk_cv2e rfl rfl (by assumption) rfl rfl (Nat.le_of_ble_eq_true rfl) (Nat.le_of_ble_eq_true rfl) (s27N C2 hN hy.2 g2) ?_
        refine rk_istore rfl (Nat.le_of_ble_eq_true rfl) rfl ?_
        refine rk_iinc rfl rfl (n_dec (by omega)) rfl ?_
        refine rk_goto rfl rfl ?_
        rw [show j - 1 = j' by omega]
        have z := ih j' (nxP N y (gr (nxP N) (N 1) g (j' + 1) y 0)) (L + 1) h1 _ (some (.int (nI (gr (nxP N) (N 1) g (j' + 1) y 0)))) (by omega) (by omega) hv' g3 (by omega) (F.tr F1) R1
        rw [q1, q2] at z
        refine z.mono ?_
        rintro o ⟨h2, rfl, F2, f2, R2, y1, y2⟩
        refine ⟨_, rfl, F2, f2, by rw [hj', show L + (j' + 1) = L + 1 + j' by omega]; exact R2, fun i hi hi5 => ?_, fun i hi hi5 => ?_⟩
        · rw [y1 i (by omega) hi5]
          split
          · simp only [upd]; rw [if_neg (by omega)]
          · rfl
        · rw [hj']
          by_cases i0 : i = 0
          · subst i0
            rw [Nat.add_zero, y1 L (by omega) (by omega), if_pos (by omega)]
            simp only [upd]
            rw [if_pos trivial]
          · have := y2 (i - 1) (by omega) (by omega)
            rw [show L + 1 + (i - 1) = L + i by omega] at this
            rw [this, gr_ne i0]
      · replace hc22 := Decidable.not_not.mp hc22
        exact absurd hc22 (nm_eq (by omega))
theorem s57 {X : ai_X} {h : ai_H} {p q : Nat} {N : Nat → Nat} {g : Nat → Bool} {f : Nat → Int32} (hN : HN N) (C : CH h p N) (d27 : h[27]? = some cPa) (c28 : h[28]? = some (cI 196 f)) (hf : ∀ x y, x < N 0 → y < N 0 → f (x * 14 + y) = ev N g 196 (x * 14 + y)) (hq : (q = 17 ∨ q = 15) ∧ p + 6 ≤ 15) {a b j L : Nat} {f1 : Nat → Int32} (ha : a < N 0) (hb : b < N 0) (hl : lsP N g j (a * 14 + b)) (hL : L + 196 < 100000) (R : RouteAt h q (nI L) f1) : Mt X am_57 [.ref 27, .ref p, .int (nI a), .int (nI b), .ref q] h (Qv (fun h1 => Fr q (q + 2) h h1 ∧ ∃ f2, RouteAt h1 q (nI (L + j)) f2 ∧ (∀ i, i < L → i < 500 → f2 i = f1 i) ∧ ∀ i, i < j → L + i < 500 → f2 (L + i) = nI (gr (nxP N) (N 1) g j (a * 14 + b) i))) := by
  have hn := hN.n
  have hv := vP_ab hN ha hb
  have hj := lsP_lt hN hv hl
  have hfe : f (a * 14 + b) = nI j := by rw [hf a b ha hb]; exact ev_lst hl (by omega)
  refine rk_iload_n rfl rfl ?_
  refine rk_istore rfl (Nat.le_of_ble_eq_true rfl) rfl ?_
  refine rk_iload_n rfl rfl ?_
  refine rk_istore rfl (Nat.le_of_ble_eq_true rfl) rfl ?_
  refine rk_aload_n rfl rfl ?_
  refine rk_iload_n rfl rfl ?_
  refine rk_iload_n rfl rfl ?_
  refine rk_cv2e rfl rfl (by assumption) rfl rfl (Nat.le_of_ble_eq_true rfl) (Nat.le_of_ble_eq_true rfl) (s51 d27 c28 (by omega) (by omega)) ?_
  rw [hfe]
  refine rk_istore rfl (Nat.le_of_ble_eq_true rfl) rfl ?_
  have z := l57 (X := X) (a0 := nI a) (b0 := nI b) hN C d27 c28 hf hq (j + 1) j (a * 14 + b) L h f1 none (by omega) hj hv hl (by omega) Fr.rfl' R
  rw [(ab14 (show b < 14 by omega)).1, (ab14 (show b < 14 by omega)).2] at z
  exact z
