/-! BEST: every row of a length, one after another -/
def dgB (T L i j : Nat) : Nat := i / T ^ (L - 1 - j) % T
theorem dgB_lt {T L i j : Nat} (hT : 0 < T) : dgB T L i j < T := Nat.mod_lt _ hT
theorem dgB_0 (T L j : Nat) : dgB T L 0 j = 0 := by unfold dgB; rw [Nat.zero_div, Nat.zero_mod]
theorem sdm {T a : Nat} (h : a % T + 1 < T) : (a + 1) / T = a / T ∧ (a + 1) % T = a % T + 1 := by
  have e : a + 1 = T * (a / T) + (a % T + 1) := by have := Nat.div_add_mod a T; omega
  constructor
  · conv => lhs; rw [e]
    rw [Nat.mul_add_div (by omega), Nat.div_eq_of_lt h, Nat.add_zero]
  · conv => lhs; rw [e]
    rw [Nat.mul_add_mod, Nat.mod_eq_of_lt h]
theorem qc {D c i : Nat} (hD : 0 < D) (e : i + 1 = D * c) : ∃ a, c = a + 1 ∧ i / D = a ∧ (i + 1) / D = a + 1 := by
  have hc0 : c ≠ 0 := fun z => by rw [z, Nat.mul_zero] at e; omega
  obtain ⟨a, rfl⟩ : ∃ a, c = a + 1 := ⟨c - 1, by omega⟩
  rw [Nat.mul_succ] at e
  refine ⟨a, rfl, ?_, ?_⟩
  · apply Nat.div_eq_of_lt_le
    · rw [Nat.mul_comm]; omega
    · rw [Nat.succ_mul, Nat.mul_comm a]; omega
  · rw [e, ← Nat.mul_succ, Nat.mul_div_cancel_left _ hD]
theorem adv0 {T L i m c : Nat} (hT : 0 < T) (hm : m < L) (e : i + 1 = T ^ m * c) : dgB T L i (L - m - 1) = (c - 1) % T := by
  obtain ⟨a, rfl, h1, -⟩ := qc (Nat.pow_pos hT) e
  unfold dgB
  rw [show L - 1 - (L - m - 1) = m by omega, h1, Nat.add_sub_cancel]
theorem adv1 {T L i m c j : Nat} (hT : 0 < T) (hm : m < L) (e : i + 1 = T ^ m * c) (hd : dgB T L i (L - m - 1) + 1 < T) (hj : j < L) : dgB T L (i + 1) j = if j < L - m - 1 then dgB T L i j else if j = L - m - 1 then dgB T L i j + 1 else 0 := by
  have hd2 := hd
  rw [adv0 hT hm e] at hd2
  obtain ⟨a, rfl, h1, h2⟩ := qc (Nat.pow_pos hT) e
  rw [Nat.add_sub_cancel] at hd2
  obtain ⟨g1, g2⟩ := sdm hd2
  by_cases q : j < L - m - 1
  · rw [if_pos q]
    unfold dgB
    rw [show L - 1 - j = m + (1 + (L - 1 - j - m - 1)) by omega, Nat.pow_add, Nat.pow_add, Nat.pow_one, ← Nat.div_div_eq_div_mul, ← Nat.div_div_eq_div_mul, ← Nat.div_div_eq_div_mul, ← Nat.div_div_eq_div_mul, h1, h2, g1]
  · rw [if_neg q]
    by_cases q2 : j = L - m - 1
    · rw [if_pos q2]
      unfold dgB
      rw [show L - 1 - j = m by omega, h1, h2, g2]
    · rw [if_neg q2]
      unfold dgB
      have h3 : T ^ m = T ^ (L - 1 - j) * (T * T ^ (m - (L - 1 - j) - 1)) := by
        rw [Nat.mul_comm T, ← Nat.pow_succ, ← Nat.pow_add, show L - 1 - j + (m - (L - 1 - j) - 1).succ = m by omega]
      rw [e, h3, Nat.mul_assoc, Nat.mul_div_cancel_left _ (Nat.pow_pos hT), Nat.mul_assoc, Nat.mul_mod_right]
theorem adv2 {T L i m c : Nat} (hT : 0 < T) (hm : m < L) (e : i + 1 = T ^ m * c) (hd : ¬ dgB T L i (L - m - 1) + 1 < T) : ∃ c1, i + 1 = T ^ (m + 1) * c1 := by
  rw [adv0 hT hm e] at hd
  obtain ⟨a, rfl, h1, h2⟩ := qc (Nat.pow_pos hT) e
  rw [Nat.add_sub_cancel] at hd
  have hl := Nat.mod_lt a hT
  refine ⟨a / T + 1, ?_⟩
  have e2 : a + 1 = T * (a / T + 1) := by have := Nat.div_add_mod a T; rw [Nat.mul_succ]; omega
  rw [Nat.pow_succ, Nat.mul_assoc, ← e2]
  exact e
theorem adv3 {T L i m c : Nat} (hT : 0 < T) (hm : m < L) (e : i + 1 = T ^ m * c) (hd : dgB T L i (L - m - 1) + 1 < T) (hi : i < T ^ L) : i + 1 < T ^ L := by
  apply Decidable.byContradiction
  intro z
  have z2 : i + 1 = T ^ L := by omega
  rw [adv0 hT hm e] at hd
  obtain ⟨a, rfl, h1, h2⟩ := qc (Nat.pow_pos hT) e
  rw [Nat.add_sub_cancel] at hd
  obtain ⟨g1, g2⟩ := sdm hd
  have h3 : T ^ L = T ^ m * (T * T ^ (L - m - 1)) := by
    rw [Nat.mul_comm T, ← Nat.pow_succ, ← Nat.pow_add, show m + (L - m - 1).succ = L by omega]
  have h4 : a + 1 = T * T ^ (L - m - 1) := Nat.eq_of_mul_eq_mul_left (Nat.pow_pos hT) (e.symm.trans (z2.trans h3))
  rw [h4, Nat.mul_mod_right] at g2
  omega
theorem adv4 {T L i c : Nat} (e : i + 1 = T ^ L * c) (hi : i < T ^ L) : i + 1 = T ^ L := by
  rcases c with _ | _ | c
  · rw [Nat.mul_zero] at e; omega
  · rw [Nat.mul_one] at e; exact e
  · rw [Nat.mul_succ, Nat.mul_succ] at e; omega
theorem p1296 {T L : Nat} (hT : T ≤ 6) (hL : L ≤ 4) (h0 : 0 < T) : T ^ L ≤ 1296 := by
  have h1 : T ^ L ≤ 6 ^ L := Nat.pow_le_pow_left hT L
  have h2 : 6 ^ L ≤ 6 ^ 4 := Nat.pow_le_pow_right (by omega) hL
  omega
theorem l94 {X : ai_X} {h : ai_H} {T L q i : Nat} (hT : 0 < T) (hT6 : T ≤ 6) (hL : L ≤ 4) (hi : i < T ^ L) : ∀ (d : Nat) (m c : Nat) (g : ai_H) (i2 : Int32) (f : Nat → Int32), L < m + d → (m ≤ L) → (Fr q (q + 2) h g) → (RouteAt g q (nI L) f) → (∀ j, j < L → f j = nI (if j < L - m then dgB T L i j else 0)) → (i + 1 = T ^ m * c) → (i2 = nI (L - m) + Int32.ofInt (-1)) → Rk X am_94 5 [some (.ref q), some (.int (nI T)), some (.int i2)] [] g (Qi (fun w h1 => Fr q (q + 2) h h1 ∧ ((i + 1 < T ^ L ∧ ¬ w = -1 ∧ RtAt h1 q L (dgB T L (i + 1))) ∨ (i + 1 = T ^ L ∧ w = -1 ∧ ∃ n f, RouteAt h1 q n f)))) := by
  intro d
  induction d with
  | zero => intro m c g i2 f hd hm F R hf hc hi2; exfalso; omega
  | succ d ih =>
    intro m c g i2 f hd hm F R hf hc hi2
    obtain ⟨r0, r1⟩ := id R
    by_cases hmL : m = L
    · subst hi2
      rw [show L - m = 0 by omega]
      refine rk_iload_n rfl rfl ?_
      refine rk_if_lt rfl rfl (fun _ => ?_) (fun hc => absurd (by decide) hc)
      refine rk_iconst (v := -1) rfl (by decide) ?_
      rw [hmL] at hc
      exact rk_ireturn rfl rfl ⟨_, _, rfl, F, Or.inr ⟨adv4 hc hi, rfl, _, _, R⟩⟩
    rw [n_dec (by omega)] at hi2
    subst hi2
    have hdl := dgB_lt (L := L) (i := i) (j := L - m - 1) hT
    have F0 : Fr q (q + 2) h g := F
    refine rk_iload_n rfl rfl ?_
    refine rk_if_lt rfl rfl (fun hc6 => ?_) (fun hc6 => ?_)
    · replace hc6 := (n0_lt (by omega)).mp hc6
      exact hc6.elim
    · replace hc6 := mt (n0_lt (by omega)).mpr hc6
      refine rk_aload_n rfl rfl ?_
      refine rk_get rfl (by assumption) rfl ?_
      refine rk_iload_n rfl rfl ?_
      refine rk_iald rfl (by assumption) (rfl) (by omega) (by decide) ?_
      rw [hf _ (by omega), if_pos (by omega)]
      refine rk_iconst (v := nI 1) rfl (by decide) ?_
      refine rk_iadd rfl (nI_add _ _) ?_
      refine rk_iload_n rfl rfl ?_
      refine rk_icmp_ge rfl rfl (fun hc14 => ?_) (fun hc14 => ?_)
      · replace hc14 := (nI_leI (by omega) (by omega)).mp hc14
        refine rk_aload_n rfl rfl ?_
        refine rk_get rfl (by assumption) rfl ?_
        refine rk_iload_n rfl rfl ?_
        refine rk_iconst (v := nI 0) rfl (by decide) ?_
        refine rk_iast rfl r1 (rfl) (by omega) (by decide) ?_
        refine hp_gen r1 (fun h1 g1 hk1 hl1 => ?_)
        replace r0 := (hk1 _ (by omega)).trans r0
        replace F0 := F0.tr (Fr.mk1 hk1 hl1 (by omega) (by omega))
        replace r1 := g1
        refine rk_iinc rfl rfl rfl rfl ?_
        refine rk_goto rfl rfl ?_
        obtain ⟨c1, hc1⟩ := adv2 hT (show m < L by omega) hc (Nat.not_lt.mpr hc14)
        refine ih (m + 1) c1 _ _ _ (by omega) (by omega) F0 ⟨r0, r1⟩ (fun j hj => ?_) hc1 (by rw [show L - (m + 1) = L - m - 1 by omega])
        simp only [upd]
        by_cases y : j = L - m - 1
        · rw [if_pos y, if_neg (by omega)]
        · rw [if_neg y, hf j hj]
          by_cases y2 : j < L - m - 1
          · rw [if_pos (by omega), if_pos (by omega)]
          · rw [if_neg (by omega), if_neg (by omega)]
      · replace hc14 := mt (nI_leI (by omega) (by omega)).mpr hc14
        refine rk_aload_n rfl rfl ?_
        refine rk_get rfl (by assumption) rfl ?_
        refine rk_iload_n rfl rfl ?_
        refine rk_dup2 rfl ?_
        refine rk_iald rfl (by assumption) (rfl) (by omega) (by decide) ?_
        rw [hf _ (by omega), if_pos (by omega)]
        refine rk_iconst (v := nI 1) rfl (by decide) ?_
        refine rk_iadd rfl (nI_add _ _) ?_
        refine rk_iast rfl r1 (rfl) (by omega) (by decide) ?_
        refine hp_gen r1 (fun h1 g1 hk1 hl1 => ?_)
        replace r0 := (hk1 _ (by omega)).trans r0
        replace F0 := F0.tr (Fr.mk1 hk1 hl1 (by omega) (by omega))
        replace r1 := g1
        refine rk_iload_n rfl rfl ?_
        replace hc14 := Nat.lt_of_not_le hc14
        refine rk_ireturn rfl rfl ⟨_, _, rfl, F0, Or.inl ⟨adv3 hT (by omega) hc hc14 hi, nI_m1 (by omega), _, ⟨r0, r1⟩, fun j hj => ?_⟩⟩
        rw [adv1 hT (by omega) hc hc14 hj]
        simp only [upd]
        by_cases y : j = L - m - 1
        · rw [if_pos y, if_neg (by omega), if_pos y, y]
        · rw [if_neg y, hf j hj]
          by_cases y2 : j < L - m - 1
          · rw [if_pos (by omega), if_pos y2]
          · rw [if_neg (by omega), if_neg y2, if_neg y]
theorem s94 {X : ai_X} {h : ai_H} {T L q i : Nat} (hT : 0 < T) (hT6 : T ≤ 6) (hL : L ≤ 4) (hi : i < T ^ L) (R : RtAt h q L (dgB T L i)) : Mt X am_94 [.ref q, .int (nI T)] h (Qi (fun w h1 => Fr q (q + 2) h h1 ∧ ((i + 1 < T ^ L ∧ ¬ w = -1 ∧ RtAt h1 q L (dgB T L (i + 1))) ∨ (i + 1 = T ^ L ∧ w = -1 ∧ ∃ n f, RouteAt h1 q n f)))) := by
  obtain ⟨f, R, hf⟩ := R
  have r0 := R.1
  refine rk_aload_n rfl rfl ?_
  refine rk_get rfl (by assumption) rfl ?_
  refine rk_iconst (v := nI 1) rfl (by decide) ?_
  refine rk_isub rfl rfl ?_
  refine rk_istore_n rfl (Nat.le_of_ble_eq_true rfl) rfl ?_
  refine l94 hT hT6 hL hi (L + 1) 0 (i + 1) _ _ f (by omega) (by omega) Fr.rfl' R (fun j hj => ?_) (by rw [Nat.pow_zero, Nat.one_mul]) (by rw [Nat.sub_zero, Int32.sub_eq_add_neg]; rfl)
  rw [if_pos (by omega), hf j hj]
