/-! WAYS: the model, the obligation -/
theorem lg_z {a : Nat} (ha : a < 2 ^ 63) : lg_cmp (lI a) 0 = 0 ↔ a = 0 := by
  constructor
  · intro h
    apply Decidable.byContradiction
    intro z
    have h1 := lI_pos (b := a) (by omega) ha
    rw [h] at h1
    exact h1 (by decide)
  · rintro rfl
    decide
theorem sm_md {F g : Nat → Nat} : ∀ n, sm (fun i => F i % MP * g i) n % MP = sm (fun i => F i * g i) n % MP
  | 0 => rfl
  | n + 1 => by
    rw [sm, sm, Nat.add_mod, sm_md n, Nat.mul_mod, Nat.mod_mod, ← Nat.mul_mod, ← Nat.add_mod]
theorem sm_bd {F g : Nat → Nat} (hg : ∀ i, g i ≤ 1) : ∀ n, sm (fun i => F i % MP * g i) n ≤ n * MP
  | 0 => by rw [Nat.zero_mul]; exact Nat.le_refl _
  | n + 1 => by
    have ih := sm_bd (F := F) hg n
    have h1 := Nat.mod_lt (F n) (show 0 < MP by decide)
    have h2 := hg n
    have h3 : F n % MP * g n ≤ MP := Nat.le_trans (Nat.mul_le_mul (Nat.le_of_lt h1) h2) (by rw [Nat.mul_one]; exact Nat.le_refl _)
    rw [sm, Nat.add_mul, Nat.one_mul]
    omega
theorem gP_le (s : Nat) : gP s ≤ 1 := by unfold gP; split <;> omega
theorem gP_0 : gP 0 = 0 := by rw [gP, pop_z0]; rfl
abbrev ANJ (h : ai_H) (p m : Nat) (F : Nat → Nat) : Prop := ∃ f, h[p]? = some (cJ 16384 f) ∧ ∀ k, k < m → f k = lI (F k % MP)
theorem updJ_un {f : Nat → Int64} {y : Nat → Nat} {a v m : Nat} (H : ∀ s, s < m → f s = lI (y s % MP)) : ∀ s, s < m → vp_updL f a (lI (v % MP)) s = lI (un y a v s % MP) := by
  intro s hs
  simp only [vp_updL, un]
  by_cases q : s = a
  · rw [if_pos q, if_pos q]
  · rw [if_neg q, if_neg q]; exact H s hs
theorem l252a {X : ai_X} {h : ai_H} {v A : Nat → Int32} {N : Nat → Nat} {n : Nat} (c0 : h[52]? = some (cMdl v)) (c1 : h[53]? = some (cI 2346 A)) (hN : HN N) (M : MH A N) (hn12 : n ≤ 12) {x4 x5 x6 : Option Value} {P : ai_O → Prop} (z : ∀ g c3, Fr 65 66 h g → ANJ g 65 (2 ^ N 0) (gfk (img N) (N 1) (2 ^ N 0) (al N) 0) → Rk X am_252 44 [some (.ref 52), some (.int (nI n)), some (.int (nI (2 ^ N 0))), c3, x4, x5, x6] [] g P) : ∀ (d : Nat) (s : Nat) (g : ai_H) (f : Nat → Int64), 2 ^ N 0 < s + d → (s ≤ 2 ^ N 0) → (Fr 65 66 h g) → (g[65]? = some (cJ 16384 f)) → (∀ j, j < s → f j = lI ((gfk (img N) (N 1) (2 ^ N 0) (al N) 0) j % MP)) → Rk X am_252 27 [some (.ref 52), some (.int (nI n)), some (.int (nI (2 ^ N 0))), some (.int (nI s)), x4, x5, x6] [] g (P) := by
  intro d
  induction d with
  | zero => intro s g f hd hs F c65 hf; exfalso; omega
  | succ d ih =>
    intro s g f hd hs F c65 hf
    obtain ⟨a0, a1, a268, a269, a270, a271, apl, apc, aot, asg, awt⟩ := id M
    have hn := hN.n
    have h6 := hN.t
    have hp14 := hN.p14
    have h2p := Nat.two_pow_pos (N 0)
    have e52 := (F.2 52 (by omega)).trans c0
    have e53 := (F.2 53 (by omega)).trans c1
    have F0 : Fr 65 66 h g := F
    refine rk_iload_n rfl rfl ?_
    refine rk_iload_n rfl rfl ?_
    refine rk_icmp_ge rfl rfl (fun hc29 => ?_) (fun hc29 => ?_)
    · replace hc29 := (nI_leI (by omega) (by omega)).mp hc29
      have hs2 : s = 2 ^ N 0 := by omega
      subst hs2
      exact z g _ F ⟨f, c65, hf⟩
    · replace hc29 := mt (nI_leI (by omega) (by omega)).mpr hc29
      refine rk_aload_n rfl rfl ?_
      refine rk_get rfl (by assumption) rfl ?_
      refine rk_iload_n rfl rfl ?_
      refine rk_iload_n rfl rfl ?_
      refine rk_iload_n rfl rfl ?_
      refine rk_iconst (v := nI 1) rfl (by decide) ?_
      refine rk_isub rfl (pk_sub (by omega)) ?_
      refine rk_icmp_ne rfl rfl (fun hc37 => ?_) (fun hc37 => ?_)
      · replace hc37 := mt (nI_eq (by omega) (by omega)).mpr hc37
        refine rk_lconst (v := 0) rfl (by decide) ?_
        refine rk_last rfl c65 (rfl) (by omega) (by decide) ?_
        refine hp_gen c65 (fun h1 g1 hk1 hl1 => ?_)
        replace e52 := (hk1 _ (by omega)).trans e52
        replace e53 := (hk1 _ (by omega)).trans e53
        replace F0 := F0.tr (Fr.mk1 hk1 hl1 (by omega) (by omega))
        replace c65 := g1
        refine rk_iinc rfl rfl (n_inc _) rfl ?_
        refine rk_goto rfl rfl ?_
        refine ih (s + 1) _ _ (by omega) (by omega) F0 c65 (fun j hj => ?_)
        simp only [vp_updL]
        by_cases y : j = s
        · subst y
          rw [if_pos rfl]
          first
            | (rw [show (gfk (img N) (N 1) (2 ^ N 0) (al N) 0) j = 1 from if_pos (by omega)]; rfl)
            | (rw [show (gfk (img N) (N 1) (2 ^ N 0) (al N) 0) j = 0 from if_neg (by omega)]; rfl)
        · rw [if_neg y]; exact hf j (by omega)
      · replace hc37 := Decidable.not_not.mp hc37
        replace hc37 := (nI_eq (by omega) (by omega)).mp hc37
        refine rk_lconst (v := 1) rfl (by decide) ?_
        refine rk_goto rfl rfl ?_
        refine rk_last rfl c65 (rfl) (by omega) (by decide) ?_
        refine hp_gen c65 (fun h1 g1 hk1 hl1 => ?_)
        replace e52 := (hk1 _ (by omega)).trans e52
        replace e53 := (hk1 _ (by omega)).trans e53
        replace F0 := F0.tr (Fr.mk1 hk1 hl1 (by omega) (by omega))
        replace c65 := g1
        refine rk_iinc rfl rfl (n_inc _) rfl ?_
        refine rk_goto rfl rfl ?_
        refine ih (s + 1) _ _ (by omega) (by omega) F0 c65 (fun j hj => ?_)
        simp only [vp_updL]
        by_cases y : j = s
        · subst y
          rw [if_pos rfl]
          first
            | (rw [show (gfk (img N) (N 1) (2 ^ N 0) (al N) 0) j = 1 from if_pos (by omega)]; rfl)
            | (rw [show (gfk (img N) (N 1) (2 ^ N 0) (al N) 0) j = 0 from if_neg (by omega)]; rfl)
        · rw [if_neg y]; exact hf j (by omega)
theorem l252b {X : ai_X} {h : ai_H} {v A : Nat → Int32} {N : Nat → Nat} {n : Nat} (c0 : h[52]? = some (cMdl v)) (c1 : h[53]? = some (cI 2346 A)) (hN : HN N) (M : MH A N) (hn12 : n ≤ 12) {k : Nat} {Q : Nat → Nat} {x5 x6 : Option Value} {P : ai_O → Prop} (z : ∀ g c4, Fr 65 67 h g → ANJ g 65 (2 ^ N 0) Q → ANJ g 66 (2 ^ N 0) (fun _ => 0) → Rk X am_252 61 [some (.ref 52), some (.int (nI n)), some (.int (nI (2 ^ N 0))), some (.int (nI k)), c4, x5, x6] [] g P) : ∀ (d : Nat) (s : Nat) (g : ai_H) (f : Nat → Int64), 2 ^ N 0 < s + d → (s ≤ 2 ^ N 0) → (Fr 65 67 h g) → (ANJ g 65 (2 ^ N 0) Q) → (g[66]? = some (cJ 16384 f)) → (∀ j, j < s → f j = lI 0) → Rk X am_252 51 [some (.ref 52), some (.int (nI n)), some (.int (nI (2 ^ N 0))), some (.int (nI k)), some (.int (nI s)), x5, x6] [] g (P) := by
  intro d
  induction d with
  | zero => intro s g f hd hs F A0 c66 hf; exfalso; omega
  | succ d ih =>
    intro s g f hd hs F A0 c66 hf
    obtain ⟨a0, a1, a268, a269, a270, a271, apl, apc, aot, asg, awt⟩ := id M
    have hn := hN.n
    have h6 := hN.t
    have hp14 := hN.p14
    have h2p := Nat.two_pow_pos (N 0)
    have e52 := (F.2 52 (by omega)).trans c0
    have e53 := (F.2 53 (by omega)).trans c1
    have F0 : Fr 65 67 h g := F
    refine rk_iload rfl rfl ?_
    refine rk_iload_n rfl rfl ?_
    refine rk_icmp_ge rfl rfl (fun hc53 => ?_) (fun hc53 => ?_)
    · replace hc53 := (nI_leI (by omega) (by omega)).mp hc53
      have hs2 : s = 2 ^ N 0 := by omega
      subst hs2
      exact z g _ F A0 ⟨f, c66, fun j hj => hf j hj⟩
    · replace hc53 := mt (nI_leI (by omega) (by omega)).mpr hc53
      refine rk_aload_n rfl rfl ?_
      refine rk_get rfl (by assumption) rfl ?_
      refine rk_iload rfl rfl ?_
      refine rk_lconst (v := 0) rfl (by decide) ?_
      refine rk_last rfl c66 (rfl) (by omega) (by decide) ?_
      refine hp_gen c66 (fun h1 g1 hk1 hl1 => ?_)
      replace e52 := (hk1 _ (by omega)).trans e52
      replace e53 := (hk1 _ (by omega)).trans e53
      replace F0 := F0.tr (Fr.mk1 hk1 hl1 (by omega) (by omega))
      replace c66 := g1
      refine rk_iinc rfl rfl (n_inc _) rfl ?_
      refine rk_goto rfl rfl ?_
      obtain ⟨f0, q1, q2⟩ := A0
      refine ih (s + 1) _ _ (by omega) (by omega) F0 ⟨f0, (hk1 65 (by omega)).trans q1, q2⟩ c66 (fun j hj => ?_)
      simp only [vp_updL]
      by_cases y : j = s
      · rw [if_pos y]; rfl
      · rw [if_neg y]; exact hf j (by omega)
theorem l252t {X : ai_X} {h : ai_H} {v A : Nat → Int32} {N : Nat → Nat} {n : Nat} (c0 : h[52]? = some (cMdl v)) (c1 : h[53]? = some (cI 2346 A)) (hN : HN N) (M : MH A N) (hn12 : n ≤ 12) {k s : Nat} {Q G : Nat → Nat} (hs : s < 2 ^ N 0) {P : ai_O → Prop} (z : ∀ g c5 c6, Fr 65 67 h g → ANJ g 65 (2 ^ N 0) Q → ANJ g 66 (2 ^ N 0) (gft (img N) Q s G (N 1)) → Rk X am_252 104 [some (.ref 52), some (.int (nI n)), some (.int (nI (2 ^ N 0))), some (.int (nI k)), some (.int (nI s)), c5, c6] [] g P) : ∀ (d : Nat) (t : Nat) (g : ai_H) (c6 : Option Value), N 1 < t + d → (t ≤ N 1) → (Fr 65 67 h g) → (ANJ g 65 (2 ^ N 0) Q) → (ANJ g 66 (2 ^ N 0) (gft (img N) Q s G t)) → Rk X am_252 76 [some (.ref 52), some (.int (nI n)), some (.int (nI (2 ^ N 0))), some (.int (nI k)), some (.int (nI s)), some (.int (nI t)), c6] [] g (P) := by
  intro d
  induction d with
  | zero => intro t g c6 hd ht F A0 A1; exfalso; omega
  | succ d ih =>
    intro t g c6 hd ht F A0 A1
    obtain ⟨a0, a1, a268, a269, a270, a271, apl, apc, aot, asg, awt⟩ := id M
    have hn := hN.n
    have h6 := hN.t
    have hp14 := hN.p14
    have h2p := Nat.two_pow_pos (N 0)
    have e52 := (F.2 52 (by omega)).trans c0
    have e53 := (F.2 53 (by omega)).trans c1
    have F0 : Fr 65 67 h g := F
    obtain ⟨f0, c65, hf0⟩ := id A0
    obtain ⟨f1, c66, hf1⟩ := id A1
    have b1 := Nat.mod_lt (Q s) (show 0 < MP by decide)
    have b2 := Nat.mod_lt (gft (img N) Q s G t (img N s t)) (show 0 < MP by decide)
    refine rk_iload rfl rfl ?_
    refine rk_aload_n rfl rfl ?_
    refine rk_get rfl (by assumption) rfl ?_
    refine rk_iconst (v := nI 1) rfl (by decide) ?_
    refine rk_iald rfl (by assumption) (rfl) (by omega) (by decide) ?_
    rw [a1]
    refine rk_icmp_ge rfl rfl (fun hc81 => ?_) (fun hc81 => ?_)
    · replace hc81 := (nI_leI (by omega) (by omega)).mp hc81
      have ht2 : t = N 1 := by omega
      subst ht2
      exact z g _ _ F A0 A1
    · replace hc81 := mt (nI_leI (by omega) (by omega)).mpr hc81
      refine rk_aload_n rfl rfl ?_
      refine rk_iload rfl rfl ?_
      refine rk_iload rfl rfl ?_
      refine rk_cv2e rfl rfl (by assumption) rfl rfl (Nat.le_of_ble_eq_true rfl) (Nat.le_of_ble_eq_true rfl) (s211 e52 e53 hN M (by omega) (by omega)) ?_
      have him := img_lt (s := s) (t := t) hN (by omega)
      refine rk_istore rfl (Nat.le_of_ble_eq_true rfl) rfl ?_
      refine rk_aload_n rfl rfl ?_
      refine rk_get rfl (by assumption) rfl ?_
      refine rk_iload rfl rfl ?_
      refine rk_aload_n rfl rfl ?_
      refine rk_get rfl (by assumption) rfl ?_
      refine rk_iload rfl rfl ?_
      refine rk_lald rfl (by assumption) (rfl) (by omega) (by decide) ?_
      rw [hf1 _ him]
      refine rk_aload_n rfl rfl ?_
      refine rk_get rfl (by assumption) rfl ?_
      refine rk_iload rfl rfl ?_
      refine rk_lald rfl (by assumption) (rfl) (by omega) (by decide) ?_
      rw [hf0 s hs]
      refine rk_ladd rfl (lI_add _ _) ?_
      refine rk_ldc2 rfl ?_
      rw [show (1000000007 : Int64) = lI MP by decide]
      refine rk_lrem rfl (lI_ne (b := MP) (by decide) (by decide)) (lI_rem (b := MP) (by unfold MP at b1 b2 ⊢; omega) (by decide)) ?_
      rw [mp_add]
      refine rk_last rfl c66 (rfl) (by omega) (by decide) ?_
      refine hp_gen c66 (fun h1 g1 hk1 hl1 => ?_)
      replace e52 := (hk1 _ (by omega)).trans e52
      replace e53 := (hk1 _ (by omega)).trans e53
      replace F0 := F0.tr (Fr.mk1 hk1 hl1 (by omega) (by omega))
      replace c65 := (hk1 _ (by omega)).trans c65
      replace c66 := g1
      refine rk_iinc rfl rfl (n_inc _) rfl ?_
      refine rk_goto rfl rfl ?_
      exact ih (t + 1) _ _ (by omega) (by omega) F0 ⟨f0, c65, hf0⟩ ⟨_, c66, updJ_un hf1⟩
theorem l252s {X : ai_X} {h : ai_H} {v A : Nat → Int32} {N : Nat → Nat} {n : Nat} (c0 : h[52]? = some (cMdl v)) (c1 : h[53]? = some (cI 2346 A)) (hN : HN N) (M : MH A N) (hn12 : n ≤ 12) {k : Nat} {Q : Nat → Nat} {P : ai_O → Prop} (z : ∀ g c4 c5 c6, Fr 65 67 h g → ANJ g 65 (2 ^ N 0) Q → ANJ g 66 (2 ^ N 0) (gfi (img N) (N 1) Q (2 ^ N 0)) → Rk X am_252 106 [some (.ref 52), some (.int (nI n)), some (.int (nI (2 ^ N 0))), some (.int (nI k)), c4, c5, c6] [] g P) : ∀ (d : Nat) (s : Nat) (g : ai_H) (c5 c6 : Option Value), 2 ^ N 0 < s + d → (s ≤ 2 ^ N 0) → (Fr 65 67 h g) → (ANJ g 65 (2 ^ N 0) Q) → (ANJ g 66 (2 ^ N 0) (gfi (img N) (N 1) Q s)) → Rk X am_252 63 [some (.ref 52), some (.int (nI n)), some (.int (nI (2 ^ N 0))), some (.int (nI k)), some (.int (nI s)), c5, c6] [] g (P) := by
  intro d
  induction d with
  | zero => intro s g c5 c6 hd hs F A0 A1; exfalso; omega
  | succ d ih =>
    intro s g c5 c6 hd hs F A0 A1
    obtain ⟨a0, a1, a268, a269, a270, a271, apl, apc, aot, asg, awt⟩ := id M
    have hn := hN.n
    have h6 := hN.t
    have hp14 := hN.p14
    have h2p := Nat.two_pow_pos (N 0)
    have e52 := (F.2 52 (by omega)).trans c0
    have e53 := (F.2 53 (by omega)).trans c1
    have F0 : Fr 65 67 h g := F
    obtain ⟨f0, c65, hf0⟩ := id A0
    have b1 := Nat.mod_lt (Q s) (show 0 < MP by decide)
    refine rk_iload rfl rfl ?_
    refine rk_iload_n rfl rfl ?_
    refine rk_icmp_ge rfl rfl (fun hc65 => ?_) (fun hc65 => ?_)
    · replace hc65 := (nI_leI (by omega) (by omega)).mp hc65
      have hs2 : s = 2 ^ N 0 := by omega
      subst hs2
      exact z g _ _ _ F A0 A1
    · replace hc65 := mt (nI_leI (by omega) (by omega)).mpr hc65
      refine rk_aload_n rfl rfl ?_
      refine rk_get rfl (by assumption) rfl ?_
      refine rk_iload rfl rfl ?_
      refine rk_lald rfl (by assumption) (rfl) (by omega) (by decide) ?_
      rw [hf0 s (by omega)]
      refine rk_lconst (v := 0) rfl (by decide) ?_
      refine rk_lcmp rfl rfl ?_
      refine rk_if_ne rfl rfl (fun hc72 => ?_) (fun hc72 => ?_)
      · refine rk_iconst (v := nI 0) rfl (by decide) ?_
        refine rk_istore rfl (Nat.le_of_ble_eq_true rfl) rfl ?_
        refine l252t c0 c1 hN M hn12 (k := k) (s := s) (by omega) (fun g2 c5 c6 F2 A2 A3 => ?_) (N 1 + 1) 0 g _ (by omega) (Nat.zero_le _) F A0 A1
        refine rk_iinc rfl rfl (n_inc _) rfl ?_
        refine rk_goto rfl rfl ?_
        exact ih (s + 1) g2 _ _ (by omega) (by omega) F2 A2 A3
      · replace hc72 := Decidable.not_not.mp hc72
        refine rk_goto rfl rfl ?_
        refine rk_iinc rfl rfl (n_inc _) rfl ?_
        refine rk_goto rfl rfl ?_
        first
          | (have hz : Q s % MP = 0 := (lg_z (Nat.lt_trans b1 (by decide))).mp hc72
             refine ih (s + 1) _ _ _ (by omega) (by omega) F A0 ?_
             obtain ⟨f1, c66, hf1⟩ := A1
             exact ⟨f1, c66, fun j hj => by rw [gfi, gft_skip hz]; exact hf1 j hj⟩)
          | omega
theorem l252c {X : ai_X} {h : ai_H} {v A : Nat → Int32} {N : Nat → Nat} {n : Nat} (c0 : h[52]? = some (cMdl v)) (c1 : h[53]? = some (cI 2346 A)) (hN : HN N) (M : MH A N) (hn12 : n ≤ 12) {k : Nat} {Q : Nat → Nat} {x5 x6 : Option Value} {P : ai_O → Prop} (z : ∀ g c4, Fr 65 67 h g → ANJ g 65 (2 ^ N 0) Q → ShJ g 66 16384 → Rk X am_252 121 [some (.ref 52), some (.int (nI n)), some (.int (nI (2 ^ N 0))), some (.int (nI k)), c4, x5, x6] [] g P) : ∀ (d : Nat) (s : Nat) (g : ai_H) (f : Nat → Int64), 2 ^ N 0 < s + d → (s ≤ 2 ^ N 0) → (Fr 65 67 h g) → (ANJ g 66 (2 ^ N 0) Q) → (g[65]? = some (cJ 16384 f)) → (∀ j, j < s → f j = lI (Q j % MP)) → Rk X am_252 108 [some (.ref 52), some (.int (nI n)), some (.int (nI (2 ^ N 0))), some (.int (nI k)), some (.int (nI s)), x5, x6] [] g (P) := by
  intro d
  induction d with
  | zero => intro s g f hd hs F A1 c65 hf; exfalso; omega
  | succ d ih =>
    intro s g f hd hs F A1 c65 hf
    obtain ⟨a0, a1, a268, a269, a270, a271, apl, apc, aot, asg, awt⟩ := id M
    have hn := hN.n
    have h6 := hN.t
    have hp14 := hN.p14
    have h2p := Nat.two_pow_pos (N 0)
    have e52 := (F.2 52 (by omega)).trans c0
    have e53 := (F.2 53 (by omega)).trans c1
    have F0 : Fr 65 67 h g := F
    obtain ⟨f1, c66, hf1⟩ := id A1
    refine rk_iload rfl rfl ?_
    refine rk_iload_n rfl rfl ?_
    refine rk_icmp_ge rfl rfl (fun hc110 => ?_) (fun hc110 => ?_)
    · replace hc110 := (nI_leI (by omega) (by omega)).mp hc110
      have hs2 : s = 2 ^ N 0 := by omega
      subst hs2
      exact z g _ F ⟨f, c65, hf⟩ ⟨f1, c66⟩
    · replace hc110 := mt (nI_leI (by omega) (by omega)).mpr hc110
      refine rk_aload_n rfl rfl ?_
      refine rk_get rfl (by assumption) rfl ?_
      refine rk_iload rfl rfl ?_
      refine rk_aload_n rfl rfl ?_
      refine rk_get rfl (by assumption) rfl ?_
      refine rk_iload rfl rfl ?_
      refine rk_lald rfl (by assumption) (rfl) (by omega) (by decide) ?_
      rw [hf1 s (by omega)]
      refine rk_last rfl c65 (rfl) (by omega) (by decide) ?_
      refine hp_gen c65 (fun h1 g1 hk1 hl1 => ?_)
      replace e52 := (hk1 _ (by omega)).trans e52
      replace e53 := (hk1 _ (by omega)).trans e53
      replace F0 := F0.tr (Fr.mk1 hk1 hl1 (by omega) (by omega))
      replace c66 := (hk1 _ (by omega)).trans c66
      replace c65 := g1
      refine rk_iinc rfl rfl (n_inc _) rfl ?_
      refine rk_goto rfl rfl ?_
      refine ih (s + 1) _ _ (by omega) (by omega) F0 ⟨f1, c66, hf1⟩ c65 (fun j hj => ?_)
      simp only [vp_updL]
      by_cases y : j = s
      · subst y; rw [if_pos rfl]
      · rw [if_neg y]; exact hf j (by omega)
theorem l252k {X : ai_X} {h : ai_H} {v A : Nat → Int32} {N : Nat → Nat} {n : Nat} (c0 : h[52]? = some (cMdl v)) (c1 : h[53]? = some (cI 2346 A)) (hN : HN N) (M : MH A N) (hn12 : n ≤ 12) {P : ai_O → Prop} (z : ∀ g c3 c4 c5 c6, Fr 65 67 h g → ANJ g 65 (2 ^ N 0) (gfk (img N) (N 1) (2 ^ N 0) (al N) n) → Rk X am_252 123 [some (.ref 52), some (.int (nI n)), some (.int (nI (2 ^ N 0))), c3, c4, c5, c6] [] g P) : ∀ (d : Nat) (k : Nat) (g : ai_H) (c4 c5 c6 : Option Value), n < k + d → (k ≤ n) → (Fr 65 67 h g) → (ANJ g 65 (2 ^ N 0) (gfk (img N) (N 1) (2 ^ N 0) (al N) k)) → (ShJ g 66 16384) → Rk X am_252 46 [some (.ref 52), some (.int (nI n)), some (.int (nI (2 ^ N 0))), some (.int (nI k)), c4, c5, c6] [] g (P) := by
  intro d
  induction d with
  | zero => intro k g c4 c5 c6 hd hk F A0 S66; exfalso; omega
  | succ d ih =>
    intro k g c4 c5 c6 hd hk F A0 S66
    obtain ⟨a0, a1, a268, a269, a270, a271, apl, apc, aot, asg, awt⟩ := id M
    have hn := hN.n
    have h6 := hN.t
    have hp14 := hN.p14
    have h2p := Nat.two_pow_pos (N 0)
    have e52 := (F.2 52 (by omega)).trans c0
    have e53 := (F.2 53 (by omega)).trans c1
    have F0 : Fr 65 67 h g := F
    obtain ⟨f66, c66⟩ := S66
    refine rk_iload_n rfl rfl ?_
    refine rk_iload_n rfl rfl ?_
    refine rk_icmp_ge rfl rfl (fun hc48 => ?_) (fun hc48 => ?_)
    · replace hc48 := (nI_leI (by omega) (by omega)).mp hc48
      have hk2 : k = n := by omega
      subst hk2
      exact z g _ _ _ _ F A0
    · replace hc48 := mt (nI_leI (by omega) (by omega)).mpr hc48
      refine rk_iconst (v := nI 0) rfl (by decide) ?_
      refine rk_istore rfl (Nat.le_of_ble_eq_true rfl) rfl ?_
      refine l252b (h := h) c0 c1 hN M hn12 (k := k) (fun g2 c4 F2 A2 A3 => ?_) (2 ^ N 0 + 1) 0 g f66 (by omega) (Nat.zero_le _) F A0 c66 (fun j hj => absurd hj (by omega))
      refine rk_iconst (v := nI 0) rfl (by decide) ?_
      refine rk_istore rfl (Nat.le_of_ble_eq_true rfl) rfl ?_
      refine l252s (h := h) c0 c1 hN M hn12 (k := k) (fun g3 c4 c5 c6 F3 A4 A5 => ?_) (2 ^ N 0 + 1) 0 g2 _ _ (by omega) (Nat.zero_le _) F2 A2 A3
      refine rk_iconst (v := nI 0) rfl (by decide) ?_
      refine rk_istore rfl (Nat.le_of_ble_eq_true rfl) rfl ?_
      obtain ⟨f6, d65, -⟩ := A4
      refine l252c (h := h) c0 c1 hN M hn12 (k := k) (fun g4 c4 F4 A6 S6 => ?_) (2 ^ N 0 + 1) 0 g3 f6 (by omega) (Nat.zero_le _) F3 A5 d65 (fun j hj => absurd hj (by omega))
      refine rk_iinc rfl rfl (n_inc _) rfl ?_
      refine rk_goto rfl rfl ?_
      exact ih (k + 1) g4 _ _ _ (by omega) (by omega) F4 A6 S6
theorem l252f {X : ai_X} {h : ai_H} {v A : Nat → Int32} {N : Nat → Nat} {n : Nat} (c0 : h[52]? = some (cMdl v)) (c1 : h[53]? = some (cI 2346 A)) (hN : HN N) (M : MH A N) (hn12 : n ≤ 12) (A0 : ANJ h 65 (2 ^ N 0) (gfk (img N) (N 1) (2 ^ N 0) (al N) n)) : ∀ (d : Nat) (s : Nat) (c6 : Option Value), 2 ^ N 0 < s + d → (1 ≤ s) → (s ≤ 2 ^ N 0) → Rk X am_252 127 [some (.ref 52), some (.int (nI n)), some (.int (nI (2 ^ N 0))), some (.long (lI (sm (fun i => (gfk (img N) (N 1) (2 ^ N 0) (al N) n) i % MP * gP i) s))), none, some (.int (nI s)), c6] [] h (Qe (nI (wys N n % MP)) h) := by
  intro d
  induction d with
  | zero => intro s c6 hd h1 hs; exfalso; omega
  | succ d ih =>
    intro s c6 hd h1 hs
    have F : Fr 65 67 h h := Fr.rfl'
    obtain ⟨a0, a1, a268, a269, a270, a271, apl, apc, aot, asg, awt⟩ := id M
    have hn := hN.n
    have h6 := hN.t
    have hp14 := hN.p14
    have h2p := Nat.two_pow_pos (N 0)
    have e52 := (F.2 52 (by omega)).trans c0
    have e53 := (F.2 53 (by omega)).trans c1
    have F0 : Fr 65 67 h h := F
    obtain ⟨f0, c65, hf0⟩ := id A0
    have hpl := pop_le s 14
    have hbd := sm_bd (F := (gfk (img N) (N 1) (2 ^ N 0) (al N) n)) gP_le s
    have hbd2 : (sm (fun i => (gfk (img N) (N 1) (2 ^ N 0) (al N) n) i % MP * gP i) s) < 2 ^ 63 := Nat.lt_of_le_of_lt hbd (by unfold MP; omega)
    refine rk_iload rfl rfl ?_
    refine rk_iload_n rfl rfl ?_
    refine rk_icmp_ge rfl rfl (fun hc129 => ?_) (fun hc129 => ?_)
    · replace hc129 := (nI_leI (by omega) (by omega)).mp hc129
      refine rk_lload_n rfl rfl ?_
      refine rk_ldc2 rfl ?_
      rw [show (1000000007 : Int64) = lI MP by decide]
      refine rk_lrem rfl (lI_ne (b := MP) (by decide) (by decide)) (lI_rem (b := MP) hbd2 (by decide)) ?_
      refine rk_l2i rfl lI_toI ?_
      have hs2 : s = 2 ^ N 0 := by omega
      subst hs2
      refine rk_ireturn rfl rfl (Qe_of ?_)
      rw [sm_md, gfk_all (fun i t hi ht => img_lt hN ht) (show 2 ^ N 0 - 1 < 2 ^ N 0 by omega)]
    · replace hc129 := mt (nI_leI (by omega) (by omega)).mpr hc129
      refine rk_lload_n rfl rfl ?_
      refine rk_iload rfl rfl ?_
      refine rk_cs1e rfl rfl rfl (Nat.le_of_ble_eq_true rfl) (Nat.le_of_ble_eq_true rfl) (s213 (by omega)) ?_
      refine rk_iconst (v := nI 1) rfl (by decide) ?_
      refine rk_icmp_ne rfl rfl (fun hc134 => ?_) (fun hc134 => ?_)
      · replace hc134 := mt (nI_eq (by omega) (by omega)).mpr hc134
        refine rk_lconst (v := lI 0) rfl (by decide) ?_
        refine rk_ladd rfl (lI_add _ _) ?_
        refine rk_lstore_n rfl (Nat.le_of_ble_eq_true rfl) rfl ?_
        refine rk_iinc rfl rfl (n_inc _) rfl ?_
        refine rk_goto rfl rfl ?_
        first
          | (have hg1 : gP s = 1 := if_pos hc134
             have zz := ih (s + 1) c6 (by omega) (by omega) (by omega)
             rw [sm, hg1, Nat.mul_one] at zz
             exact zz)
          | (have hg0 : gP s = 0 := if_neg hc134
             have zz := ih (s + 1) c6 (by omega) (by omega) (by omega)
             rw [sm, hg0, Nat.mul_zero] at zz
             exact zz)
      · replace hc134 := Decidable.not_not.mp hc134
        replace hc134 := (nI_eq (by omega) (by omega)).mp hc134
        refine rk_aload_n rfl rfl ?_
        refine rk_get rfl (by assumption) rfl ?_
        refine rk_iload rfl rfl ?_
        refine rk_lald rfl (by assumption) (rfl) (by omega) (by decide) ?_
        rw [hf0 s (by omega)]
        refine rk_goto rfl rfl ?_
        refine rk_ladd rfl (lI_add _ _) ?_
        refine rk_lstore_n rfl (Nat.le_of_ble_eq_true rfl) rfl ?_
        refine rk_iinc rfl rfl (n_inc _) rfl ?_
        refine rk_goto rfl rfl ?_
        first
          | (have hg1 : gP s = 1 := if_pos hc134
             have zz := ih (s + 1) c6 (by omega) (by omega) (by omega)
             rw [sm, hg1, Nat.mul_one] at zz
             exact zz)
          | (have hg0 : gP s = 0 := if_neg hc134
             have zz := ih (s + 1) c6 (by omega) (by omega) (by omega)
             rw [sm, hg0, Nat.mul_zero] at zz
             exact zz)
theorem w12_mk {c : Nat} (hc : c ≤ 12) : ¬ nI c < 0 ∧ ¬ nI 12 < nI c := ⟨nI_pos (by omega), fun z => by have := (nI_ltI (by omega) (by omega)).mp z; omega⟩
theorem w12_of {b : Int32} (h : ¬ b < 0 ∧ ¬ nI 12 < b) : ∃ c, c ≤ 12 ∧ b = nI c := by
  have := (in_iff (n := 13) (x := b) (by decide)).mp
  rw [pk_sub (by decide)] at this
  obtain ⟨c, h1, h2⟩ := in_of (by decide) (this h)
  exact ⟨c, by omega, h2⟩
theorem m252_v {X : ai_X} {h : ai_H} {v A : Nat → Int32} {N : Nat → Nat} (c0 : h[52]? = some (cMdl v)) (c1 : h[53]? = some (cI 2346 A)) (hN : HN N) (M : MH A N) {n : Nat} (hn12 : n ≤ 12) (h0 : ¬ N 0 = 0) (S65 : ShJ h 65 16384) (S66 : ShJ h 66 16384) : Rk X am_252 3 (ai_loc (ai_mL am_252) [.ref 52, .int (nI n)]) [] h (Qi (fun w h1 => w = nI (wys N n % MP) ∧ Fr 65 67 h h1)) := by
  obtain ⟨a0, a1, a268, a269, a270, a271, apl, apc, aot, asg, awt⟩ := id M
  have hn := hN.n
  have hp14 := hN.p14
  have h2p := Nat.two_pow_pos (N 0)
  obtain ⟨f65, c65⟩ := S65
  obtain ⟨f66, c66⟩ := S66
  refine rk_aload_n rfl rfl ?_
  refine rk_get rfl (by assumption) rfl ?_
  refine rk_iconst (v := nI 0) rfl (by decide) ?_
  refine rk_iald rfl (by assumption) (rfl) (by omega) (by decide) ?_
  rw [a0]
  refine rk_if_ne rfl rfl (fun hc7 => ?_) (fun hc7 => ?_)
  · replace hc7 := mt (n0_eq (by omega)).mpr hc7
    refine rk_iload_n rfl rfl ?_
    refine rk_i2l rfl rfl ?_
    refine rk_lconst (v := 0) rfl (by decide) ?_
    rw [show (0 : Int64) = (0 : Int32).toInt64 by decide]
    refine rk_ldc2 rfl ?_
    rw [show (12 : Int64) = (nI 12).toInt64 by decide]
    refine rk_cs3e rfl rfl rfl (Nat.le_of_ble_eq_true rfl) (Nat.le_of_ble_eq_true rfl) (s181 _ _ _) ?_
    refine rk_if_ne rfl rfl (fun hc15 => ?_) (fun hc15 => ?_)
    · replace hc15 := Decidable.not_not.mp (mt bI_0.mpr hc15)
      refine rk_iconst (v := nI 1) rfl (by decide) ?_
      refine rk_aload_n rfl rfl ?_
      refine rk_get rfl (by assumption) rfl ?_
      refine rk_iconst (v := nI 0) rfl (by decide) ?_
      refine rk_iald rfl (by assumption) (rfl) (by omega) (by decide) ?_
      rw [a0]
      refine rk_ishl rfl (b_1shlU (by omega)) ?_
      refine rk_istore_n rfl (Nat.le_of_ble_eq_true rfl) rfl ?_
      refine rk_iconst (v := nI 0) rfl (by decide) ?_
      refine rk_istore_n rfl (Nat.le_of_ble_eq_true rfl) rfl ?_
      refine l252a (h := h) c0 c1 hN M hn12 (fun g c3 F A0 => ?_) (2 ^ N 0 + 1) 0 h f65 (by omega) (Nat.zero_le _) Fr.rfl' c65 (fun j hj => absurd hj (by omega))
      refine rk_iconst (v := nI 0) rfl (by decide) ?_
      refine rk_istore_n rfl (Nat.le_of_ble_eq_true rfl) rfl ?_
      refine l252k (h := h) c0 c1 hN M hn12 (fun g2 c3 c4 c5 c6 F2 A2 => ?_) (n + 1) 0 g _ _ _ (by omega) (Nat.zero_le _) (F.mono (by omega) (by omega)) A0 ⟨f66, (F.2 66 (by omega)).trans c66⟩
      refine rk_lconst (v := lI 0) rfl (by decide) ?_
      refine rk_lstore_n rfl (Nat.le_of_ble_eq_true rfl) rfl ?_
      refine rk_iconst (v := nI 1) rfl (by decide) ?_
      refine rk_istore rfl (Nat.le_of_ble_eq_true rfl) rfl ?_
      have e52 := (F2.2 52 (by omega)).trans c0
      have e53 := (F2.2 53 (by omega)).trans c1
      have zz := l252f (X := X) e52 e53 hN M hn12 A2 (2 ^ N 0 + 1) 1 c6 (by omega) (by omega) (by omega)
      rw [sm, sm, gP_0, Nat.mul_zero, Nat.add_zero] at zz
      refine Rk.mono ?_ zz
      rintro o ⟨w, h5, rfl, rfl, rfl⟩
      exact ⟨_, _, rfl, rfl, F2⟩
    · replace hc15 := Decidable.not_not.mp hc15
      replace hc15 := (bI_0).mp hc15
      exact absurd (w12_mk hn12) hc15
  · replace hc7 := Decidable.not_not.mp hc7
    replace hc7 := (n0_eq (by omega)).mp hc7
    exact absurd hc7 h0
theorem m252_0 {X : ai_X} {h : ai_H} {v A : Nat → Int32} {N : Nat → Nat} (c0 : h[52]? = some (cMdl v)) (c1 : h[53]? = some (cI 2346 A)) (hN : HN N) (M : MH A N) {a : Int32} (h0 : N 0 = 0) : Rk X am_252 3 (ai_loc (ai_mL am_252) [.ref 52, .int a]) [] h (Qe (-5) h) := by
  obtain ⟨a0, a1, a268, a269, a270, a271, apl, apc, aot, asg, awt⟩ := id M
  have hn := hN.n
  refine rk_aload_n rfl rfl ?_
  refine rk_get rfl (by assumption) rfl ?_
  refine rk_iconst (v := nI 0) rfl (by decide) ?_
  refine rk_iald rfl (by assumption) (rfl) (by omega) (by decide) ?_
  rw [a0]
  refine rk_if_ne rfl rfl (fun hc7 => ?_) (fun hc7 => ?_)
  · replace hc7 := mt (n0_eq (by omega)).mpr hc7
    exact absurd h0 hc7
  · replace hc7 := Decidable.not_not.mp hc7
    replace hc7 := (n0_eq (by omega)).mp hc7
    refine rk_bipush (v := (-5)) rfl (by decide) ?_
    exact rk_ireturn rfl rfl Qe_mk
theorem m252_x {X : ai_X} {h : ai_H} {v A : Nat → Int32} {N : Nat → Nat} (c0 : h[52]? = some (cMdl v)) (c1 : h[53]? = some (cI 2346 A)) (hN : HN N) (M : MH A N) {a : Int32} (h0 : ¬ N 0 = 0) (ha : ¬ (¬ a < 0 ∧ ¬ nI 12 < a)) : Rk X am_252 3 (ai_loc (ai_mL am_252) [.ref 52, .int a]) [] h (Qe (-3) h) := by
  obtain ⟨a0, a1, a268, a269, a270, a271, apl, apc, aot, asg, awt⟩ := id M
  have hn := hN.n
  refine rk_aload_n rfl rfl ?_
  refine rk_get rfl (by assumption) rfl ?_
  refine rk_iconst (v := nI 0) rfl (by decide) ?_
  refine rk_iald rfl (by assumption) (rfl) (by omega) (by decide) ?_
  rw [a0]
  refine rk_if_ne rfl rfl (fun hc7 => ?_) (fun hc7 => ?_)
  · replace hc7 := mt (n0_eq (by omega)).mpr hc7
    refine rk_iload_n rfl rfl ?_
    refine rk_i2l rfl rfl ?_
    refine rk_lconst (v := 0) rfl (by decide) ?_
    rw [show (0 : Int64) = (0 : Int32).toInt64 by decide]
    refine rk_ldc2 rfl ?_
    rw [show (12 : Int64) = (nI 12).toInt64 by decide]
    refine rk_cs3e rfl rfl rfl (Nat.le_of_ble_eq_true rfl) (Nat.le_of_ble_eq_true rfl) (s181 _ _ _) ?_
    refine rk_if_ne rfl rfl (fun hc15 => ?_) (fun hc15 => ?_)
    · replace hc15 := Decidable.not_not.mp (mt bI_0.mpr hc15)
      exact absurd hc15 ha
    · replace hc15 := Decidable.not_not.mp hc15
      replace hc15 := (bI_0).mp hc15
      refine rk_bipush (v := (-3)) rfl (by decide) ?_
      exact rk_ireturn rfl rfl Qe_mk
  · replace hc7 := Decidable.not_not.mp hc7
    replace hc7 := (n0_eq (by omega)).mp hc7
    exact absurd hc7 h0
theorem c154_0 {X : ai_X} {h : ai_H} {tp : Int32} {N : Nat → Nat} (d0 : h[0]? = some (cOne tp)) (hN : HN N) (C : CH h 3 N) {a : Int32} (h0 : N 0 = 0) : Mt X am_154 [.ref 0, .int a] h (Qe (-5) h) := by
  have e3 := C.1
  have hn := hN.n
  refine rk_aload_n rfl rfl ?_
  refine rk_get rfl (by assumption) rfl ?_
  refine rk_get rfl (by assumption) rfl ?_
  refine rk_if_ne rfl rfl (fun hc3 => ?_) (fun hc3 => ?_)
  · replace hc3 := mt (n0_eq (by omega)).mpr hc3
    exact absurd h0 hc3
  · replace hc3 := Decidable.not_not.mp hc3
    replace hc3 := (n0_eq (by omega)).mp hc3
    refine rk_bipush (v := (-5)) rfl (by decide) ?_
    exact rk_ireturn rfl rfl Qe_mk
theorem c154_x {X : ai_X} {h : ai_H} {tp : Int32} {N : Nat → Nat} (d0 : h[0]? = some (cOne tp)) (hN : HN N) (C : CH h 3 N) {a : Int32} (h0 : ¬ N 0 = 0) (ha : ¬ (¬ a < 0 ∧ ¬ nI 12 < a)) : Mt X am_154 [.ref 0, .int a] h (Qe (-3) h) := by
  have e3 := C.1
  have hn := hN.n
  refine rk_aload_n rfl rfl ?_
  refine rk_get rfl (by assumption) rfl ?_
  refine rk_get rfl (by assumption) rfl ?_
  refine rk_if_ne rfl rfl (fun hc3 => ?_) (fun hc3 => ?_)
  · replace hc3 := mt (n0_eq (by omega)).mpr hc3
    refine rk_iload_n rfl rfl ?_
    refine rk_if_lt rfl rfl (fun hc7 => ?_) (fun hc7 => ?_)
    · refine rk_bipush (v := (-3)) rfl (by decide) ?_
      refine rk_goto rfl rfl ?_
      exact rk_ireturn rfl rfl Qe_mk
    · refine rk_iload_n rfl rfl ?_
      refine rk_bipush (v := nI 12) rfl (by decide) ?_
      refine rk_icmp_le rfl rfl (fun hc10 => ?_) (fun hc10 => ?_)
      · exact absurd ⟨hc7, i32_le.mp hc10⟩ ha
      · refine rk_bipush (v := (-3)) rfl (by decide) ?_
        refine rk_goto rfl rfl ?_
        exact rk_ireturn rfl rfl Qe_mk
  · replace hc3 := Decidable.not_not.mp hc3
    replace hc3 := (n0_eq (by omega)).mp hc3
    exact absurd hc3 h0
theorem c154_v {X : ai_X} {h : ai_H} {tp : Int32} {N : Nat → Nat} (d0 : h[0]? = some (cOne tp)) (hN : HN N) (C : CH h 3 N) {n1 n2 : Int32} {xa xb : Value} {f25 : Nat → Int32} {b : Nat → Option Nat} {n : Nat} (d24 : h[24]? = some (cSets n1 n2 xa xb)) (hvals : (b 4 = none ∧ xa = .null ∧ xb = .null) ∨ ∃ p, b 4 = some p ∧ xa = .ref p ∧ xb = .ref (p + 1) ∧ ShI h p 16384 ∧ ShI h (p + 1) 16384) (c25 : h[25]? = some (cI 1536 f25)) (hf : ∀ j, j < 12 → f25 (128 * j) = 0) (h0 : ¬ N 0 = 0) (S : SrchAt h 22 16384 16384 (b 2)) (hD : DynOk h b) (h80 : 80 ≤ h.length) (hn12 : n ≤ 12) : Mt X am_154 [.ref 0, .int (nI n)] h (Qn (nc (b 2) + nv (b 4)) (ns (b 2) 49152 + ns (b 4) 32768) (Qi (fun w h1 => w = nI (wys N n % MP) ∧ CVE h h1 (b 2) (b 4)))) := by
  have e3 := C.1
  have hn := hN.n
  refine Rk.mono (fun o q => Qn_Qn q) ?_
  refine rk_aload_n rfl rfl ?_
  refine rk_get rfl (by assumption) rfl ?_
  refine rk_get rfl (by assumption) rfl ?_
  refine rk_if_ne rfl rfl (fun hc3 => ?_) (fun hc3 => ?_)
  · replace hc3 := mt (n0_eq (by omega)).mpr hc3
    refine rk_iload_n rfl rfl ?_
    refine rk_if_lt rfl rfl (fun hc7 => ?_) (fun hc7 => ?_)
    · replace hc7 := (n0_lt (by omega)).mp hc7
      exact hc7.elim
    · replace hc7 := mt (n0_lt (by omega)).mpr hc7
      refine rk_iload_n rfl rfl ?_
      refine rk_bipush (v := nI 12) rfl (by decide) ?_
      refine rk_icmp_le rfl rfl (fun hc10 => ?_) (fun hc10 => ?_)
      · replace hc10 := (nI_leI (by omega) (by omega)).mp hc10
        refine rk_aload_n rfl rfl ?_
        refine rk_get rfl (by assumption) rfl ?_
        refine rk_iload_n rfl rfl ?_
        have hcl := s112 (X := X) hN C d24 hvals c25 hf h0 S hD h80 hn12
        refine rk_cg1 rfl rfl d24 rfl rfl (Nat.le_of_ble_eq_true rfl) (Nat.le_of_ble_eq_true rfl) hcl ?_
        rintro o1 ⟨o2, ⟨o3, ⟨w, h1, rfl, q1, q2⟩, rfl⟩, rfl⟩
        refine rk_ireturn rfl rfl ?_
        exact ⟨_, ⟨_, ⟨_, _, rfl, q1, q2⟩, rfl⟩, rfl⟩
      · replace hc10 := mt (nI_leI (by omega) (by omega)).mpr hc10
        omega
  · replace hc3 := Decidable.not_not.mp hc3
    replace hc3 := (n0_eq (by omega)).mp hc3
    exact absurd hc3 h0
/-- the second block in the books -/
theorem dyn_after4 {h h1 : ai_H} {b : Nat → Option Nat} {c s : Nat} (hD : DynOk h b) (h80 : 80 ≤ h.length) (hl : h1.length = h.length + nv (b 4)) (hc : c + pend b blN ≤ 104) (hs : s + pend b blS ≤ 534748) : DynOk h1 (bu b 4 (np (b 4) h.length)) ∧ c + nv (b 4) + pend (bu b 4 (np (b 4) h.length)) blN ≤ 104 ∧ s + ns (b 4) 32768 + pend (bu b 4 (np (b 4) h.length)) blS ≤ 534748 := by
  cases e : b 4 with
  | none =>
    rw [e] at hl
    have hl' : h1.length = h.length + 2 := hl
    have p1 := pend_new (p := h.length) (w := blN) e (by omega)
    have p2 := pend_new (p := h.length) (w := blS) e (by omega)
    rw [show blN 4 = 2 from rfl] at p1
    rw [show blS 4 = 32768 from rfl] at p2
    refine ⟨hD.new e (by omega) h80 (by rw [show blN 4 = 2 from rfl]; omega), ?_, ?_⟩
    · show c + 2 + pend (bu b 4 h.length) blN ≤ 104
      omega
    · show s + 32768 + pend (bu b 4 h.length) blS ≤ 534748
      omega
  | some p =>
    rw [e] at hl
    have hl' : h1.length = h.length + 0 := hl
    show DynOk h1 (bu b 4 p) ∧ c + 0 + pend (bu b 4 p) blN ≤ 104 ∧ s + 0 + pend (bu b 4 p) blS ≤ 534748
    rw [bu_self e]
    exact ⟨hD.fr (by omega), by omega, by omega⟩
/-- class and model counted over sets: what held holds again -/
theorem finV {m c s mk : Nat} {h h1 h2 h3 : ai_H} {tp : Nat} {T A im rs rm v : Nat → Int32} {nu : Nat → Int64} {fk fp : Int32} {b : Nat → Option Nat} {N : Nat → Nat} (hP : InvP m c s h tp T A im rs rm nu fk fp b) (hFV : FV A 0 (N 1)) (hmk : mk ≤ 4000 * m) (hv : ∀ v, h[52]? = some (cMdl v) → v 5 = nI tp ∧ v 13 = fk ∧ v 14 = fp) (d52 : h[52]? = some (cMdl v)) (H : MQs h mk) (E : CVE h h1 (b 2) (b 4)) (g2 : h2[52]? = some (cMdl (upd v 0 (nI 0)))) (hk : ∀ q : Nat, q ≠ 52 → h2[q]? = h1[q]?) (hl : h2.length = h1.length) (l3 : h3.length = h2.length) (F3 : ∀ q : Nat, ¬ (63 ≤ q ∧ q < 77) → h3[q]? = h2[q]?) (k : ai_Sk h h3) : Inv (m + 1) (c + (nc (b 2) + nv (b 4))) (s + (ns (b 2) 49152 + ns (b 4) 32768)) h3 := by
  obtain ⟨hA, hBB, hR, hI, hS, hO, hM, hVV, hD, hc, hs⟩ := id hP
  obtain ⟨y1, y2, y5, ⟨n1, n2, z1, ⟨z2f, z2⟩, z3f, z3⟩, f25, y3, y3'⟩ := E
  have h80 := hM.len
  obtain ⟨q1, q2, q3⟩ := np_sep hD h80
  have kk : ∀ q : Nat, q ≠ 52 → ¬ (63 ≤ q ∧ q < 77) → h3[q]? = h1[q]? := fun q a1 a2 => (F3 q a2).trans (hk q a1)
  have k8 : ∀ q : Nat, q < 80 → q ≠ 22 → q ≠ 24 → q ≠ 25 → q ≠ 26 → q ≠ 52 → ¬ (63 ≤ q ∧ q < 77) → h3[q]? = h[q]? := fun q a0 a1 a2 a3 a4 a5 a6 => (kk q a5 a6).trans (y2 q (by omega) a1 a2 a3 a4 (by omega) (by omega))
  have hnot : ∀ q, q < h.length → (∀ i p, 2 ≤ i → i < 5 → b i = some p → i ≠ 3 → ¬ (p ≤ q ∧ q < p + blN i)) → ¬ (np (b 2) h.length ≤ q ∧ q < np (b 2) h.length + 3) ∧ ¬ (np (b 4) (h.length + nc (b 2)) ≤ q ∧ q < np (b 4) (h.length + nc (b 2)) + 2) := by
    intro q hq hbl
    constructor
    · cases e2 : b 2 with
      | none => show ¬ (h.length ≤ q ∧ q < h.length + 3); omega
      | some p2 => exact hbl 2 p2 (by omega) (by omega) e2 (by omega)
    · cases e4 : b 4 with
      | none => show ¬ (h.length + nc (b 2) ≤ q ∧ q < h.length + nc (b 2) + 2); omega
      | some p4 => exact hbl 4 p4 (by omega) (by omega) e4 (by omega)
  obtain ⟨d1, d2, d3⟩ := dyn_after (i := 2) (h1 := h ++ List.replicate (nc (b 2)) (cI 0 (fun _ => 0))) (z := 49152) hD (by omega) rfl rfl h80 (by simp) hc hs
  have hb4 : bu b 2 (np (b 2) h.length) 4 = b 4 := if_neg (by omega)
  have hlr : (h ++ List.replicate (nc (b 2)) (cI 0 (fun _ => 0))).length = h.length + nc (b 2) := by simp
  have dd := dyn_after4 (h1 := h3) d1 (by omega) (by rw [hb4, hlr, l3, hl, y1]) d2 d3
  rw [hb4, hlr] at dd
  obtain ⟨x1, x2, x3⟩ := dd
  refine Inv.srch (b1 := bu (bu b 2 (np (b 2) h.length)) 4 (np (b 4) (h.length + nc (b 2)))) hP k ?_ ?_ rfl rfl x1 (by omega) (by omega) ?_ ?_ ?_ ?_ ?_ ((k8 53 (by omega) (by omega) (by omega) (by omega) (by omega) (by omega) (by omega)).trans hM.2.1) (fun _ _ => rfl) ?_
  · intro q hq kp hbl
    obtain ⟨a1, a2⟩ := hnot q hq (fun i p i1 i2 e _ => hbl i p i1 i2 e)
    exact (kk q (by omega) (by omega)).trans (y2 q hq (by omega) (by omega) (by omega) (by omega) a1 a2)
  · obtain ⟨s1, s2, -⟩ := hS
    refine ⟨?_, ?_, ⟨n1, n2, .ref (np (b 4) (h.length + nc (b 2))), .ref (np (b 4) (h.length + nc (b 2)) + 1), (kk 24 (by omega) (by omega)).trans z1, Or.inr ⟨_, rfl, rfl, rfl, ⟨z2f, (kk _ (by omega) (by omega)).trans z2⟩, z3f, (kk _ (by omega) (by omega)).trans z3⟩⟩, f25, (kk 25 (by omega) (by omega)).trans y3, y3'⟩
    · exact y5.fr (kk 22 (by omega) (by omega)) (fun p e q a1 a2 => by cases e; exact kk q (by omega) (by omega))
    · refine s2.fr (k8 23 (by omega) (by omega) (by omega) (by omega) (by omega) (by omega) (by omega)) (fun p e q a1 a2 => ?_)
      have e' : b 3 = some p := e
      have hd := hD 3 p (by omega) e'
      rw [show blN 3 = 3 from rfl] at hd
      obtain ⟨a3, a4⟩ := hnot q (by omega) (fun i p' i1 i2 e2 i3 => by
        have := hd.2.2 i p' i2 (by omega) e2
        omega)
      exact (kk q (by omega) (by omega)).trans (y2 q (by omega) (by omega) (by omega) (by omega) (by omega) a3 a4)
  · obtain ⟨F9, G9, z⟩ := hBB.2.1
    exact ⟨F9, G9, z.fr (fun q _ _ => k8 q (by omega) (by omega) (by omega) (by omega) (by omega) (by omega) (by omega))⟩
  · obtain ⟨n, f, z, zz⟩ := hBB.2.2.1
    exact ⟨n, f, z.fr (fun q _ _ => k8 q (by omega) (by omega) (by omega) (by omega) (by omega) (by omega) (by omega)), zz⟩
  · obtain ⟨n, f, z⟩ := hBB.2.2.2
    exact ⟨n, f, z.fr (fun q _ _ => k8 q (by omega) (by omega) (by omega) (by omega) (by omega) (by omega) (by omega))⟩
  · obtain ⟨n33, d33⟩ := hO.2.1
    exact ⟨n33, (k8 33 (by omega) (by omega) (by omega) (by omega) (by omega) (by omega) (by omega)).trans d33⟩
  · have H2 : MQs h2 mk := H.fr (fun q a1 a2 => (hk q (by omega)).trans (y2 q (by omega) (by omega) (by omega) (by omega) (by omega) (by omega) (by omega))) d52 g2 rfl
    obtain ⟨-, v1, w0, w1, w2, w3, w4, w5⟩ := (H2.mr g2).fr (h1 := h3) (fun q hq => F3 q (by omega))
    have hvv := hv v d52
    exact ⟨v1, mk, w0, w1.trans hvv.1, w2.trans hvv.2.1, w3.trans hvv.2.2, w4, by omega, w5⟩
  · exact fun n t w _ z => z
theorem ob23 (X : ai_X) : O23 X Inv := by
  intro a0
  refine ob_cells fun m c s h hm I => ?_
  obtain ⟨tp, T, A, im, rs, rm, nu, fk, fp, b, hP⟩ := id I
  obtain ⟨N, mk, hN, C, M, -, hV, hFV, H, hmk, hv⟩ := Inv.sdat hP hm
  obtain ⟨hA, hB, hR, hI, hS, hO, hM, hVV, hD, hc, hs⟩ := id hP
  obtain ⟨v, d52⟩ := I.m52
  have d53 := hM.2.1
  have d0 := hA.1
  have h80 := hM.len
  have S65 : ShJ h 65 16384 := hM.2.2.2.2.2.2.2.2.2.2.2.2.2.2.2.1
  have S66 : ShJ h 66 16384 := hM.2.2.2.2.2.2.2.2.2.2.2.2.2.2.2.2.1
  by_cases h0 : N 0 = 0
  · exact og_cells (og_pure I (c154_0 d0 hN C h0) (md_thr rfl rfl rfl rfl d52 (fun h2 g2 hk => m252_0 g2 ((hk 53 (by omega)).trans d53) hN M h0)))
  · by_cases ha : ¬ a0 < 0 ∧ ¬ nI 12 < a0
    · obtain ⟨n, hn12, rfl⟩ := w12_of ha
      obtain ⟨S2, S3, ⟨n1, n2, xa, xb, d24, hvals⟩, f25, c25, hf⟩ := id hS
      obtain ⟨q1, q2, q3⟩ := np_sep hD h80
      refine ⟨_, _, _, _, c154_v d0 hN C d24 hvals c25 hf h0 S2 hD h80 hn12, ?_⟩
      rintro h1 E k1
      have kq : ∀ q : Nat, 44 ≤ q → q < 80 → h1[q]? = h[q]? := fun q a1 a2 => E.2.1 q (by omega) (by omega) (by omega) (by omega) (by omega) (by omega) (by omega)
      have e52 := (kq 52 (by omega) (by omega)).trans d52
      refine ⟨⟨_, e52⟩, md_g rfl rfl rfl rfl e52 (fun h2 g2 hk hl => ?_)⟩
      have k2 : ∀ q : Nat, 53 ≤ q → q < 80 → h2[q]? = h[q]? := fun q a1 a2 => (hk q (by omega)).trans (kq q (by omega) a2)
      refine (m252_v g2 ((k2 53 (by omega) (by omega)).trans d53) hN M hn12 h0 (S65.fr (k2 65 (by omega) (by omega))) (S66.fr (k2 66 (by omega) (by omega)))).mono ?_
      rintro o ⟨y, h3, e1, hy, F3⟩
      subst e1
      exact ⟨_, _, rfl, hy, fun kx => finV hP hFV hmk hv d52 H E g2 hk hl F3.1 (fun q hq => F3.2 q (by omega)) (k1.trans kx)⟩
    · exact og_cells (og_pure I (c154_x d0 hN C h0 ha) (md_thr rfl rfl rfl rfl d52 (fun h2 g2 hk => m252_x g2 ((hk 53 (by omega)).trans d53) hN M h0 ha)))
