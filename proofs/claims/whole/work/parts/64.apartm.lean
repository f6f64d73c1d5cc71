/-! APART: the model -/
theorem l270s {X : ai_X} {h : ai_H} {v A : Nat → Int32} {N : Nat → Nat} {L : Nat} (c0 : h[52]? = some (cMdl v)) (c1 : h[53]? = some (cI 2346 A)) (hN : HN N) (M : MH A N) (hL : L ≤ 40) {k r : Nat} (hk : k ≤ L) (hr : r < N 0) {P : ai_O → Prop} (z : ∀ g f1 f2 c4 c5 c6 c7 c8 c9, Fr 71 73 h g → g[71]? = some (cJ 8036 f1) → g[72]? = some (cZ 8036 f2) → AP N f1 f2 k r (N 0) → Rk X am_270 121 [some (.ref 52), some (.int (nI L)), some (.int (nI k)), some (.int (nI r)), c4, c5, c6, c7, c8, c9] [] g P) : ∀ (d : Nat) (s : Nat) (g : ai_H) (f1 : Nat → Int64) (f2 : Nat → Int32) (c5 c6 c7 c8 c9 : Option Value), N 0 < s + d → (s ≤ N 0) → (Fr 71 73 h g) → (g[71]? = some (cJ 8036 f1)) → (g[72]? = some (cZ 8036 f2)) → (AP N f1 f2 k r s) → Rk X am_270 15 [some (.ref 52), some (.int (nI L)), some (.int (nI k)), some (.int (nI r)), some (.int (nI s)), c5, c6, c7, c8, c9] [] g (P) := by
  intro d
  induction d with
  | zero => intro s g f1 f2 c5 c6 c7 c8 c9 hd hs F c71 c72 H; exfalso; omega
  | succ d ih =>
    intro s g f1 f2 c5 c6 c7 c8 c9 hd hs F c71 c72 H
    obtain ⟨a0, a1, a268, a269, a270, a271, apl, apc, aot, asg, awt⟩ := id M
    have e52 := (F.2 52 (by omega)).trans c0
    have e53 := (F.2 53 (by omega)).trans c1
    have hn := hN.n
    have h6 := hN.t
    have F0 : Fr 71 73 h g := F
    refine rk_iload rfl rfl ?_
    refine rk_aload_n rfl rfl ?_
    refine rk_get rfl (by assumption) rfl ?_
    refine rk_iconst (v := nI 0) rfl (by decide) ?_
    refine rk_iald rfl (by assumption) (rfl) (by omega) (by decide) ?_
    rw [a0]
    refine rk_icmp_ge rfl rfl (fun hc20 => ?_) (fun hc20 => ?_)
    · replace hc20 := (nI_leI (by omega) (by omega)).mp hc20
      have hs2 : s = N 0 := by omega
      subst hs2
      exact z g f1 f2 _ _ _ _ _ _ F c71 c72 H
    · replace hc20 := mt (nI_leI (by omega) (by omega)).mpr hc20
      refine rk_sipush (v := nI 196) rfl (by decide) ?_
      refine rk_iload_n rfl rfl ?_
      refine rk_imul rfl (pk_mul _ _) ?_
      refine rk_bipush (v := nI 14) rfl (by decide) ?_
      refine rk_iload_n rfl rfl ?_
      refine rk_imul rfl (pk_mul _ _) ?_
      refine rk_iadd rfl (nI_add _ _) ?_
      refine rk_iload rfl rfl ?_
      refine rk_iadd rfl (nI_add _ _) ?_
      refine rk_istore rfl (Nat.le_of_ble_eq_true rfl) rfl ?_
      refine rk_aload_n rfl rfl ?_
      refine rk_get rfl (by assumption) rfl ?_
      refine rk_iload rfl rfl ?_
      refine rk_iload_n rfl rfl ?_
      refine rk_if_ne rfl rfl (fun hc35 => ?_) (fun hc35 => ?_)
      · replace hc35 := mt (n0_eq (by omega)).mpr hc35
        refine rk_lconst (v := 0) rfl (by decide) ?_
        refine rk_last rfl c71 (rfl) (by omega) (by decide) ?_
        refine hp_gen c71 (fun h1 g1 hk1 hl1 => ?_)
        replace e52 := (hk1 _ (by omega)).trans e52
        replace e53 := (hk1 _ (by omega)).trans e53
        replace F0 := F0.tr (Fr.mk1 hk1 hl1 (by omega) (by omega))
        replace c72 := (hk1 _ (by omega)).trans c72
        replace c71 := g1
        refine rk_aload_n rfl rfl ?_
        refine rk_get rfl (by assumption) rfl ?_
        refine rk_iload rfl rfl ?_
        refine rk_iload_n rfl rfl ?_
        refine rk_if_ne rfl rfl (fun hc44 => ?_) (fun hc44 => ?_)
        · replace hc44 := mt (n0_eq (by omega)).mpr hc44
          refine rk_iconst (v := nI 0) rfl (by decide) ?_
          refine rk_zast rfl c72 (rfl) (by omega) (by decide) ?_
          refine hp_gen c72 (fun h1 g1 hk1 hl1 => ?_)
          replace e52 := (hk1 _ (by omega)).trans e52
          replace e53 := (hk1 _ (by omega)).trans e53
          replace F0 := F0.tr (Fr.mk1 hk1 hl1 (by omega) (by omega))
          replace c71 := (hk1 _ (by omega)).trans c71
          replace c72 := g1
          refine rk_iconst (v := nI 0) rfl (by decide) ?_
          refine rk_istore rfl (Nat.le_of_ble_eq_true rfl) rfl ?_
          first
            | (exfalso; omega)
            | (refine l270t c0 c1 hN M hL (k := k) (r := r) (s := s) hk hr (by omega) (fun g2 f3 f4 t c7 c8 c9 F2 d71 d72 H2 => ?_) (N 1 + 1) 0 _ _ _ _ _ _ (by omega) (Nat.zero_le _) F0 c71 c72 (H.up hn (by omega) (fun q hq => if_neg (by omega)) (fun q hq => if_neg (by omega)) (by omega)) ((if_pos rfl).trans (by first | (rw [cA0 (by omega)]; rfl) | (rw [cA1 (by omega)]; rfl))) ((if_pos rfl).trans (by first | (rw [cA0 (by omega)]; decide) | (rw [cA1 (by omega)]; decide)))
               refine rk_iinc rfl rfl (n_inc _) rfl ?_
               refine rk_goto rfl rfl ?_
               exact ih (s + 1) g2 f3 f4 _ _ _ _ _ (by omega) (by omega) F2 d71 d72 H2)
        · replace hc44 := Decidable.not_not.mp hc44
          replace hc44 := (n0_eq (by omega)).mp hc44
          refine rk_iconst (v := nI 1) rfl (by decide) ?_
          refine rk_goto rfl rfl ?_
          refine rk_zast rfl c72 (rfl) (by omega) (by decide) ?_
          refine hp_gen c72 (fun h1 g1 hk1 hl1 => ?_)
          replace e52 := (hk1 _ (by omega)).trans e52
          replace e53 := (hk1 _ (by omega)).trans e53
          replace F0 := F0.tr (Fr.mk1 hk1 hl1 (by omega) (by omega))
          replace c71 := (hk1 _ (by omega)).trans c71
          replace c72 := g1
          refine rk_iconst (v := nI 0) rfl (by decide) ?_
          refine rk_istore rfl (Nat.le_of_ble_eq_true rfl) rfl ?_
          first
            | (exfalso; omega)
            | (refine l270t c0 c1 hN M hL (k := k) (r := r) (s := s) hk hr (by omega) (fun g2 f3 f4 t c7 c8 c9 F2 d71 d72 H2 => ?_) (N 1 + 1) 0 _ _ _ _ _ _ (by omega) (Nat.zero_le _) F0 c71 c72 (H.up hn (by omega) (fun q hq => if_neg (by omega)) (fun q hq => if_neg (by omega)) (by omega)) ((if_pos rfl).trans (by first | (rw [cA0 (by omega)]; rfl) | (rw [cA1 (by omega)]; rfl))) ((if_pos rfl).trans (by first | (rw [cA0 (by omega)]; decide) | (rw [cA1 (by omega)]; decide)))
               refine rk_iinc rfl rfl (n_inc _) rfl ?_
               refine rk_goto rfl rfl ?_
               exact ih (s + 1) g2 f3 f4 _ _ _ _ _ (by omega) (by omega) F2 d71 d72 H2)
      · replace hc35 := Decidable.not_not.mp hc35
        replace hc35 := (n0_eq (by omega)).mp hc35
        refine rk_lconst (v := 1) rfl (by decide) ?_
        refine rk_goto rfl rfl ?_
        refine rk_last rfl c71 (rfl) (by omega) (by decide) ?_
        refine hp_gen c71 (fun h1 g1 hk1 hl1 => ?_)
        replace e52 := (hk1 _ (by omega)).trans e52
        replace e53 := (hk1 _ (by omega)).trans e53
        replace F0 := F0.tr (Fr.mk1 hk1 hl1 (by omega) (by omega))
        replace c72 := (hk1 _ (by omega)).trans c72
        replace c71 := g1
        refine rk_aload_n rfl rfl ?_
        refine rk_get rfl (by assumption) rfl ?_
        refine rk_iload rfl rfl ?_
        refine rk_iload_n rfl rfl ?_
        refine rk_if_ne rfl rfl (fun hc44 => ?_) (fun hc44 => ?_)
        · replace hc44 := mt (n0_eq (by omega)).mpr hc44
          refine rk_iconst (v := nI 0) rfl (by decide) ?_
          refine rk_zast rfl c72 (rfl) (by omega) (by decide) ?_
          refine hp_gen c72 (fun h1 g1 hk1 hl1 => ?_)
          replace e52 := (hk1 _ (by omega)).trans e52
          replace e53 := (hk1 _ (by omega)).trans e53
          replace F0 := F0.tr (Fr.mk1 hk1 hl1 (by omega) (by omega))
          replace c71 := (hk1 _ (by omega)).trans c71
          replace c72 := g1
          refine rk_iconst (v := nI 0) rfl (by decide) ?_
          refine rk_istore rfl (Nat.le_of_ble_eq_true rfl) rfl ?_
          first
            | (exfalso; omega)
            | (refine l270t c0 c1 hN M hL (k := k) (r := r) (s := s) hk hr (by omega) (fun g2 f3 f4 t c7 c8 c9 F2 d71 d72 H2 => ?_) (N 1 + 1) 0 _ _ _ _ _ _ (by omega) (Nat.zero_le _) F0 c71 c72 (H.up hn (by omega) (fun q hq => if_neg (by omega)) (fun q hq => if_neg (by omega)) (by omega)) ((if_pos rfl).trans (by first | (rw [cA0 (by omega)]; rfl) | (rw [cA1 (by omega)]; rfl))) ((if_pos rfl).trans (by first | (rw [cA0 (by omega)]; decide) | (rw [cA1 (by omega)]; decide)))
               refine rk_iinc rfl rfl (n_inc _) rfl ?_
               refine rk_goto rfl rfl ?_
               exact ih (s + 1) g2 f3 f4 _ _ _ _ _ (by omega) (by omega) F2 d71 d72 H2)
        · replace hc44 := Decidable.not_not.mp hc44
          replace hc44 := (n0_eq (by omega)).mp hc44
          refine rk_iconst (v := nI 1) rfl (by decide) ?_
          refine rk_goto rfl rfl ?_
          refine rk_zast rfl c72 (rfl) (by omega) (by decide) ?_
          refine hp_gen c72 (fun h1 g1 hk1 hl1 => ?_)
          replace e52 := (hk1 _ (by omega)).trans e52
          replace e53 := (hk1 _ (by omega)).trans e53
          replace F0 := F0.tr (Fr.mk1 hk1 hl1 (by omega) (by omega))
          replace c71 := (hk1 _ (by omega)).trans c71
          replace c72 := g1
          refine rk_iconst (v := nI 0) rfl (by decide) ?_
          refine rk_istore rfl (Nat.le_of_ble_eq_true rfl) rfl ?_
          first
            | (exfalso; omega)
            | (refine l270t c0 c1 hN M hL (k := k) (r := r) (s := s) hk hr (by omega) (fun g2 f3 f4 t c7 c8 c9 F2 d71 d72 H2 => ?_) (N 1 + 1) 0 _ _ _ _ _ _ (by omega) (Nat.zero_le _) F0 c71 c72 (H.up hn (by omega) (fun q hq => if_neg (by omega)) (fun q hq => if_neg (by omega)) (by omega)) ((if_pos rfl).trans (by first | (rw [cA0 (by omega)]; rfl) | (rw [cA1 (by omega)]; rfl))) ((if_pos rfl).trans (by first | (rw [cA0 (by omega)]; decide) | (rw [cA1 (by omega)]; decide)))
               refine rk_iinc rfl rfl (n_inc _) rfl ?_
               refine rk_goto rfl rfl ?_
               exact ih (s + 1) g2 f3 f4 _ _ _ _ _ (by omega) (by omega) F2 d71 d72 H2)
theorem l270r {X : ai_X} {h : ai_H} {v A : Nat → Int32} {N : Nat → Nat} {L : Nat} (c0 : h[52]? = some (cMdl v)) (c1 : h[53]? = some (cI 2346 A)) (hN : HN N) (M : MH A N) (hL : L ≤ 40) {k : Nat} (hk : k ≤ L) {P : ai_O → Prop} (z : ∀ g f1 f2 c3 c4 c5 c6 c7 c8 c9, Fr 71 73 h g → g[71]? = some (cJ 8036 f1) → g[72]? = some (cZ 8036 f2) → AP N f1 f2 k (N 0) 0 → Rk X am_270 123 [some (.ref 52), some (.int (nI L)), some (.int (nI k)), c3, c4, c5, c6, c7, c8, c9] [] g P) : ∀ (d : Nat) (r : Nat) (g : ai_H) (f1 : Nat → Int64) (f2 : Nat → Int32) (c4 c5 c6 c7 c8 c9 : Option Value), N 0 < r + d → (r ≤ N 0) → (Fr 71 73 h g) → (g[71]? = some (cJ 8036 f1)) → (g[72]? = some (cZ 8036 f2)) → (AP N f1 f2 k r 0) → Rk X am_270 7 [some (.ref 52), some (.int (nI L)), some (.int (nI k)), some (.int (nI r)), c4, c5, c6, c7, c8, c9] [] g (P) := by
  intro d
  induction d with
  | zero => intro r g f1 f2 c4 c5 c6 c7 c8 c9 hd hr F c71 c72 H; exfalso; omega
  | succ d ih =>
    intro r g f1 f2 c4 c5 c6 c7 c8 c9 hd hr F c71 c72 H
    obtain ⟨a0, a1, a268, a269, a270, a271, apl, apc, aot, asg, awt⟩ := id M
    have e52 := (F.2 52 (by omega)).trans c0
    have e53 := (F.2 53 (by omega)).trans c1
    have hn := hN.n
    have h6 := hN.t
    have F0 : Fr 71 73 h g := F
    refine rk_iload_n rfl rfl ?_
    refine rk_aload_n rfl rfl ?_
    refine rk_get rfl (by assumption) rfl ?_
    refine rk_iconst (v := nI 0) rfl (by decide) ?_
    refine rk_iald rfl (by assumption) (rfl) (by omega) (by decide) ?_
    rw [a0]
    refine rk_icmp_ge rfl rfl (fun hc12 => ?_) (fun hc12 => ?_)
    · replace hc12 := (nI_leI (by omega) (by omega)).mp hc12
      have hr2 : r = N 0 := by omega
      subst hr2
      exact z g f1 f2 _ _ _ _ _ _ _ F c71 c72 H
    · replace hc12 := mt (nI_leI (by omega) (by omega)).mpr hc12
      refine rk_iconst (v := nI 0) rfl (by decide) ?_
      refine rk_istore rfl (Nat.le_of_ble_eq_true rfl) rfl ?_
      refine l270s c0 c1 hN M hL (k := k) (r := r) hk (by omega) (fun g2 f3 f4 c4 c5 c6 c7 c8 c9 F2 d71 d72 H2 => ?_) (N 0 + 1) 0 g f1 f2 _ _ _ _ _ (by omega) (Nat.zero_le _) F c71 c72 H
      refine rk_iinc rfl rfl (n_inc _) rfl ?_
      refine rk_goto rfl rfl ?_
      exact ih (r + 1) g2 f3 f4 _ _ _ _ _ _ (by omega) (by omega) F2 d71 d72 H2.row
theorem l270 {X : ai_X} {h : ai_H} {v A : Nat → Int32} {N : Nat → Nat} {L : Nat} (c0 : h[52]? = some (cMdl v)) (c1 : h[53]? = some (cI 2346 A)) (hN : HN N) (M : MH A N) (hL : L ≤ 40) : ∀ (d : Nat) (k : Nat) (g : ai_H) (f1 : Nat → Int64) (f2 : Nat → Int32) (c3 c4 c5 c6 c7 c8 c9 : Option Value), L + 1 < k + d → (k ≤ L + 1) → (Fr 71 73 h g) → (g[71]? = some (cJ 8036 f1)) → (g[72]? = some (cZ 8036 f2)) → (AP N f1 f2 k 0 0) → Rk X am_270 2 [some (.ref 52), some (.int (nI L)), some (.int (nI k)), c3, c4, c5, c6, c7, c8, c9] [] g (Qv (fun h1 => Fr 71 73 h h1 ∧ ∃ f1 f2, h1[71]? = some (cJ 8036 f1) ∧ h1[72]? = some (cZ 8036 f2) ∧ AP N f1 f2 (L + 1) 0 0)) := by
  intro d
  induction d with
  | zero => intro k g f1 f2 c3 c4 c5 c6 c7 c8 c9 hd hk F c71 c72 H; exfalso; omega
  | succ d ih =>
    intro k g f1 f2 c3 c4 c5 c6 c7 c8 c9 hd hk F c71 c72 H
    obtain ⟨a0, a1, a268, a269, a270, a271, apl, apc, aot, asg, awt⟩ := id M
    have e52 := (F.2 52 (by omega)).trans c0
    have e53 := (F.2 53 (by omega)).trans c1
    have hn := hN.n
    have h6 := hN.t
    have F0 : Fr 71 73 h g := F
    refine rk_iload_n rfl rfl ?_
    refine rk_iload_n rfl rfl ?_
    refine rk_icmp_gt rfl rfl (fun hc4 => ?_) (fun hc4 => ?_)
    · replace hc4 := (nI_ltI (by omega) (by omega)).mp hc4
      have hk2 : k = L + 1 := by omega
      subst hk2
      exact rk_return rfl rfl ⟨_, rfl, F, f1, f2, c71, c72, H⟩
    · replace hc4 := mt (nI_ltI (by omega) (by omega)).mpr hc4
      refine rk_iconst (v := nI 0) rfl (by decide) ?_
      refine rk_istore_n rfl (Nat.le_of_ble_eq_true rfl) rfl ?_
      refine l270r c0 c1 hN M hL (k := k) (by omega) (fun g2 f3 f4 c3 c4 c5 c6 c7 c8 c9 F2 d71 d72 H2 => ?_) (N 0 + 1) 0 g f1 f2 _ _ _ _ _ _ (by omega) (Nat.zero_le _) F c71 c72 H
      refine rk_iinc rfl rfl (n_inc _) rfl ?_
      refine rk_goto rfl rfl ?_
      exact ih (k + 1) g2 f3 f4 _ _ _ _ _ _ _ (by omega) (by omega) F2 d71 d72 H2.lev
theorem s270 {X : ai_X} {h : ai_H} {v A : Nat → Int32} {N : Nat → Nat} {L : Nat} (c0 : h[52]? = some (cMdl v)) (c1 : h[53]? = some (cI 2346 A)) (hN : HN N) (M : MH A N) (hL : L ≤ 40) (S1 : ShJ h 71 8036) (S2 : ShZ h 72 8036) : Mt X am_270 [.ref 52, .int (nI L)] h (Qv (fun h1 => Fr 71 73 h h1 ∧ ∃ f1 f2, h1[71]? = some (cJ 8036 f1) ∧ h1[72]? = some (cZ 8036 f2) ∧ AP N f1 f2 (L + 1) 0 0)) := by
  obtain ⟨f1, c71⟩ := S1
  obtain ⟨f2, c72⟩ := S2
  refine rk_iconst (v := nI 0) rfl (by decide) ?_
  refine rk_istore_n rfl (Nat.le_of_ble_eq_true rfl) rfl ?_
  exact l270 c0 c1 hN M hL (L + 2) 0 h f1 f2 _ _ _ _ _ _ _ (by omega) (by omega) Fr.rfl' c71 c72 (fun j r' s' _ _ z => absurd z (by omega))
theorem m271_x {X : ai_X} {h : ai_H} {v A : Nat → Int32} {N : Nat → Nat} (c0 : h[52]? = some (cMdl v)) (c1 : h[53]? = some (cI 2346 A)) (hN : HN N) (M : MH A N) {a b c : Int32} (hx : ¬ ((¬ a < 0 ∧ ¬ nI (N 271) ≤ a) ∧ (¬ b < 0 ∧ ¬ nI (N 271) ≤ b) ∧ ¬ a = b)) : Rk X am_271 3 (ai_loc (ai_mL am_271) [.ref 52, .int a, .int b, .int c]) [] h (Qe (-2) h) := by
  obtain ⟨a0, a1, a268, a269, a270, a271, apl, apc, aot, asg, awt⟩ := id M
  refine rk_aload_n rfl rfl ?_
  refine rk_iload_n rfl rfl ?_
  refine rk_cv1e rfl rfl (by assumption) rfl rfl (Nat.le_of_ble_eq_true rfl) (Nat.le_of_ble_eq_true rfl) (s209n c0 c1 a271 (by have := hN.w; omega) _) ?_
  refine rk_if_eq rfl rfl (fun hc6 => ?_) (fun hc6 => ?_)
  · replace hc6 := (bI_0).mp hc6
    refine rk_bipush (v := (-2)) rfl (by decide) ?_
    exact rk_ireturn rfl rfl Qe_mk
  · replace hc6 := Decidable.not_not.mp (mt bI_0.mpr hc6)
    refine rk_aload_n rfl rfl ?_
    refine rk_iload_n rfl rfl ?_
    refine rk_cv1e rfl rfl (by assumption) rfl rfl (Nat.le_of_ble_eq_true rfl) (Nat.le_of_ble_eq_true rfl) (s209n c0 c1 a271 (by have := hN.w; omega) _) ?_
    refine rk_if_eq rfl rfl (fun hc10 => ?_) (fun hc10 => ?_)
    · replace hc10 := (bI_0).mp hc10
      refine rk_bipush (v := (-2)) rfl (by decide) ?_
      exact rk_ireturn rfl rfl Qe_mk
    · replace hc10 := Decidable.not_not.mp (mt bI_0.mpr hc10)
      refine rk_iload_n rfl rfl ?_
      refine rk_iload_n rfl rfl ?_
      refine rk_icmp_ne rfl rfl (fun hc13 => ?_) (fun hc13 => ?_)
      · exact absurd ⟨hc6, hc10, hc13⟩ hx
      · replace hc13 := Decidable.not_not.mp hc13
        refine rk_bipush (v := (-2)) rfl (by decide) ?_
        exact rk_ireturn rfl rfl Qe_mk
theorem m271_y {X : ai_X} {h : ai_H} {v A : Nat → Int32} {N : Nat → Nat} (c0 : h[52]? = some (cMdl v)) (c1 : h[53]? = some (cI 2346 A)) (hN : HN N) (M : MH A N) {a b c : Int32} (hx : ((¬ a < 0 ∧ ¬ nI (N 271) ≤ a) ∧ (¬ b < 0 ∧ ¬ nI (N 271) ≤ b) ∧ ¬ a = b)) (hy : ¬ (¬ c < 0 ∧ ¬ nI 40 < c)) : Rk X am_271 3 (ai_loc (ai_mL am_271) [.ref 52, .int a, .int b, .int c]) [] h (Qe (-3) h) := by
  obtain ⟨a0, a1, a268, a269, a270, a271, apl, apc, aot, asg, awt⟩ := id M
  refine rk_aload_n rfl rfl ?_
  refine rk_iload_n rfl rfl ?_
  refine rk_cv1e rfl rfl (by assumption) rfl rfl (Nat.le_of_ble_eq_true rfl) (Nat.le_of_ble_eq_true rfl) (s209n c0 c1 a271 (by have := hN.w; omega) _) ?_
  refine rk_if_eq rfl rfl (fun hc6 => ?_) (fun hc6 => ?_)
  · replace hc6 := (bI_0).mp hc6
    exact absurd hx.1 hc6
  · replace hc6 := Decidable.not_not.mp (mt bI_0.mpr hc6)
    refine rk_aload_n rfl rfl ?_
    refine rk_iload_n rfl rfl ?_
    refine rk_cv1e rfl rfl (by assumption) rfl rfl (Nat.le_of_ble_eq_true rfl) (Nat.le_of_ble_eq_true rfl) (s209n c0 c1 a271 (by have := hN.w; omega) _) ?_
    refine rk_if_eq rfl rfl (fun hc10 => ?_) (fun hc10 => ?_)
    · replace hc10 := (bI_0).mp hc10
      exact absurd hx.2.1 hc10
    · replace hc10 := Decidable.not_not.mp (mt bI_0.mpr hc10)
      refine rk_iload_n rfl rfl ?_
      refine rk_iload_n rfl rfl ?_
      refine rk_icmp_ne rfl rfl (fun hc13 => ?_) (fun hc13 => ?_)
      · refine rk_iload_n rfl rfl ?_
        refine rk_i2l rfl rfl ?_
        refine rk_lconst (v := 0) rfl (by decide) ?_
        rw [show (0 : Int64) = (0 : Int32).toInt64 by decide]
        refine rk_ldc2 rfl ?_
        rw [show (40 : Int64) = (nI 40).toInt64 by decide]
        refine rk_cs3e rfl rfl rfl (Nat.le_of_ble_eq_true rfl) (Nat.le_of_ble_eq_true rfl) (s181 _ _ _) ?_
        refine rk_if_ne rfl rfl (fun hc21 => ?_) (fun hc21 => ?_)
        · replace hc21 := Decidable.not_not.mp (mt bI_0.mpr hc21)
          exact absurd hc21 hy
        · replace hc21 := Decidable.not_not.mp hc21
          replace hc21 := (bI_0).mp hc21
          refine rk_bipush (v := (-3)) rfl (by decide) ?_
          exact rk_ireturn rfl rfl Qe_mk
      · replace hc13 := Decidable.not_not.mp hc13
        exact absurd hc13 hx.2.2
theorem m272_x {X : ai_X} {h : ai_H} {v A : Nat → Int32} {N : Nat → Nat} (c0 : h[52]? = some (cMdl v)) (c1 : h[53]? = some (cI 2346 A)) (hN : HN N) (M : MH A N) {a b c : Int32} (hx : ¬ ((¬ a < 0 ∧ ¬ nI (N 271) ≤ a) ∧ (¬ b < 0 ∧ ¬ nI (N 271) ≤ b) ∧ ¬ a = b)) : Rk X am_272 3 (ai_loc (ai_mL am_272) [.ref 52, .int a, .int b, .int c]) [] h (Qe (-2) h) := by
  obtain ⟨a0, a1, a268, a269, a270, a271, apl, apc, aot, asg, awt⟩ := id M
  refine rk_aload_n rfl rfl ?_
  refine rk_iload_n rfl rfl ?_
  refine rk_cv1e rfl rfl (by assumption) rfl rfl (Nat.le_of_ble_eq_true rfl) (Nat.le_of_ble_eq_true rfl) (s209n c0 c1 a271 (by have := hN.w; omega) _) ?_
  refine rk_if_eq rfl rfl (fun hc6 => ?_) (fun hc6 => ?_)
  · replace hc6 := (bI_0).mp hc6
    refine rk_bipush (v := (-2)) rfl (by decide) ?_
    exact rk_ireturn rfl rfl Qe_mk
  · replace hc6 := Decidable.not_not.mp (mt bI_0.mpr hc6)
    refine rk_aload_n rfl rfl ?_
    refine rk_iload_n rfl rfl ?_
    refine rk_cv1e rfl rfl (by assumption) rfl rfl (Nat.le_of_ble_eq_true rfl) (Nat.le_of_ble_eq_true rfl) (s209n c0 c1 a271 (by have := hN.w; omega) _) ?_
    refine rk_if_eq rfl rfl (fun hc10 => ?_) (fun hc10 => ?_)
    · replace hc10 := (bI_0).mp hc10
      refine rk_bipush (v := (-2)) rfl (by decide) ?_
      exact rk_ireturn rfl rfl Qe_mk
    · replace hc10 := Decidable.not_not.mp (mt bI_0.mpr hc10)
      refine rk_iload_n rfl rfl ?_
      refine rk_iload_n rfl rfl ?_
      refine rk_icmp_ne rfl rfl (fun hc13 => ?_) (fun hc13 => ?_)
      · exact absurd ⟨hc6, hc10, hc13⟩ hx
      · replace hc13 := Decidable.not_not.mp hc13
        refine rk_bipush (v := (-2)) rfl (by decide) ?_
        exact rk_ireturn rfl rfl Qe_mk
theorem m272_y {X : ai_X} {h : ai_H} {v A : Nat → Int32} {N : Nat → Nat} (c0 : h[52]? = some (cMdl v)) (c1 : h[53]? = some (cI 2346 A)) (hN : HN N) (M : MH A N) {a b c : Int32} (hx : ((¬ a < 0 ∧ ¬ nI (N 271) ≤ a) ∧ (¬ b < 0 ∧ ¬ nI (N 271) ≤ b) ∧ ¬ a = b)) (hy : ¬ (¬ c < 0 ∧ ¬ nI 40 < c)) : Rk X am_272 3 (ai_loc (ai_mL am_272) [.ref 52, .int a, .int b, .int c]) [] h (Qe (-3) h) := by
  obtain ⟨a0, a1, a268, a269, a270, a271, apl, apc, aot, asg, awt⟩ := id M
  refine rk_aload_n rfl rfl ?_
  refine rk_iload_n rfl rfl ?_
  refine rk_cv1e rfl rfl (by assumption) rfl rfl (Nat.le_of_ble_eq_true rfl) (Nat.le_of_ble_eq_true rfl) (s209n c0 c1 a271 (by have := hN.w; omega) _) ?_
  refine rk_if_eq rfl rfl (fun hc6 => ?_) (fun hc6 => ?_)
  · replace hc6 := (bI_0).mp hc6
    exact absurd hx.1 hc6
  · replace hc6 := Decidable.not_not.mp (mt bI_0.mpr hc6)
    refine rk_aload_n rfl rfl ?_
    refine rk_iload_n rfl rfl ?_
    refine rk_cv1e rfl rfl (by assumption) rfl rfl (Nat.le_of_ble_eq_true rfl) (Nat.le_of_ble_eq_true rfl) (s209n c0 c1 a271 (by have := hN.w; omega) _) ?_
    refine rk_if_eq rfl rfl (fun hc10 => ?_) (fun hc10 => ?_)
    · replace hc10 := (bI_0).mp hc10
      exact absurd hx.2.1 hc10
    · replace hc10 := Decidable.not_not.mp (mt bI_0.mpr hc10)
      refine rk_iload_n rfl rfl ?_
      refine rk_iload_n rfl rfl ?_
      refine rk_icmp_ne rfl rfl (fun hc13 => ?_) (fun hc13 => ?_)
      · refine rk_iload_n rfl rfl ?_
        refine rk_i2l rfl rfl ?_
        refine rk_lconst (v := 0) rfl (by decide) ?_
        rw [show (0 : Int64) = (0 : Int32).toInt64 by decide]
        refine rk_ldc2 rfl ?_
        rw [show (40 : Int64) = (nI 40).toInt64 by decide]
        refine rk_cs3e rfl rfl rfl (Nat.le_of_ble_eq_true rfl) (Nat.le_of_ble_eq_true rfl) (s181 _ _ _) ?_
        refine rk_if_ne rfl rfl (fun hc21 => ?_) (fun hc21 => ?_)
        · replace hc21 := Decidable.not_not.mp (mt bI_0.mpr hc21)
          exact absurd hc21 hy
        · replace hc21 := Decidable.not_not.mp hc21
          replace hc21 := (bI_0).mp hc21
          refine rk_bipush (v := (-3)) rfl (by decide) ?_
          exact rk_ireturn rfl rfl Qe_mk
      · replace hc13 := Decidable.not_not.mp hc13
        exact absurd hc13 hx.2.2
theorem SM.of71 {h h1 : ai_H} {v : Nat → Int32} (c0 : h[52]? = some (cMdl v)) (F : Fr 71 73 h h1) : SM h h1 := ⟨F.1, fun q _ _ _ => F.2 q (by omega), v, v, c0, (F.2 52 (by omega)).trans c0, rfl, rfl, rfl, rfl⟩
theorem w40_mk {c : Nat} (hc : c ≤ 40) : ¬ nI c < 0 ∧ ¬ nI 40 < nI c := ⟨nI_pos (by omega), fun z => by have := (nI_ltI (by omega) (by omega)).mp z; omega⟩
theorem w40_of {b : Int32} (h : ¬ b < 0 ∧ ¬ nI 40 < b) : ∃ c, c ≤ 40 ∧ b = nI c := by
  have := (in_iff (n := 41) (x := b) (by decide)).mp
  rw [pk_sub (by decide)] at this
  obtain ⟨c, h1, h2⟩ := in_of (by decide) (this h)
  exact ⟨c, by omega, h2⟩
theorem m271_v {X : ai_X} {h : ai_H} {v A : Nat → Int32} {N : Nat → Nat} (c0 : h[52]? = some (cMdl v)) (c1 : h[53]? = some (cI 2346 A)) (hN : HN N) (M : MH A N) {a b L : Nat} (ha : a < N 271) (hb : b < N 271) (hab : ¬ a = b) (hL : L ≤ 40) (S1 : ShJ h 71 8036) (S2 : ShZ h 72 8036) : Rk X am_271 3 (ai_loc (ai_mL am_271) [.ref 52, .int (nI a), .int (nI b), .int (nI L)]) [] h (Qi (fun y h1 => y = nI (wA N L (wt N a * 14 + wt N b) % MP) ∧ SM h h1)) := by
  obtain ⟨a0, a1, a268, a269, a270, a271, apl, apc, aot, asg, awt⟩ := id M
  have hn := hN.n
  have hw8 := hN.w
  have hwa := hN.xwt ha
  have hwb := hN.xwt hb
  refine rk_aload_n rfl rfl ?_
  refine rk_iload_n rfl rfl ?_
  refine rk_cv1e rfl rfl (by assumption) rfl rfl (Nat.le_of_ble_eq_true rfl) (Nat.le_of_ble_eq_true rfl) (s209n c0 c1 a271 (by have := hN.w; omega) _) ?_
  refine rk_if_eq rfl rfl (fun hc6 => ?_) (fun hc6 => ?_)
  · replace hc6 := (bI_0).mp hc6
    exact absurd (in_mk (by omega) ha) hc6
  · replace hc6 := Decidable.not_not.mp (mt bI_0.mpr hc6)
    refine rk_aload_n rfl rfl ?_
    refine rk_iload_n rfl rfl ?_
    refine rk_cv1e rfl rfl (by assumption) rfl rfl (Nat.le_of_ble_eq_true rfl) (Nat.le_of_ble_eq_true rfl) (s209n c0 c1 a271 (by have := hN.w; omega) _) ?_
    refine rk_if_eq rfl rfl (fun hc10 => ?_) (fun hc10 => ?_)
    · replace hc10 := (bI_0).mp hc10
      exact absurd (in_mk (by omega) hb) hc10
    · replace hc10 := Decidable.not_not.mp (mt bI_0.mpr hc10)
      refine rk_iload_n rfl rfl ?_
      refine rk_iload_n rfl rfl ?_
      refine rk_icmp_ne rfl rfl (fun hc13 => ?_) (fun hc13 => ?_)
      · replace hc13 := mt (nI_eq (by omega) (by omega)).mpr hc13
        refine rk_iload_n rfl rfl ?_
        refine rk_i2l rfl rfl ?_
        refine rk_lconst (v := 0) rfl (by decide) ?_
        rw [show (0 : Int64) = (0 : Int32).toInt64 by decide]
        refine rk_ldc2 rfl ?_
        rw [show (40 : Int64) = (nI 40).toInt64 by decide]
        refine rk_cs3e rfl rfl rfl (Nat.le_of_ble_eq_true rfl) (Nat.le_of_ble_eq_true rfl) (s181 _ _ _) ?_
        refine rk_if_ne rfl rfl (fun hc21 => ?_) (fun hc21 => ?_)
        · replace hc21 := Decidable.not_not.mp (mt bI_0.mpr hc21)
          refine rk_aload_n rfl rfl ?_
          refine rk_iload_n rfl rfl ?_
          refine rk_cv1v rfl rfl (by assumption) rfl rfl (Nat.le_of_ble_eq_true rfl) (Nat.le_of_ble_eq_true rfl) (s270 c0 c1 hN M hL S1 S2) (fun h1 hF => ?_)
          obtain ⟨F3, f1, f2, c71, c72, H⟩ := hF
          have e52 := (F3.2 52 (by omega)).trans c0
          have e53 := (F3.2 53 (by omega)).trans c1
          obtain ⟨p1, -⟩ := H L (wt N a) (wt N b) hwa hwb (Or.inl (by omega))
          refine rk_aload_n rfl rfl ?_
          refine rk_get rfl (by assumption) rfl ?_
          refine rk_sipush (v := nI 196) rfl (by decide) ?_
          refine rk_iload_n rfl rfl ?_
          refine rk_imul rfl (pk_mul _ _) ?_
          refine rk_bipush (v := nI 14) rfl (by decide) ?_
          refine rk_aload_n rfl rfl ?_
          refine rk_get rfl (by assumption) rfl ?_
          refine rk_sipush (v := nI 272) rfl (by decide) ?_
          refine rk_iload_n rfl rfl ?_
          refine rk_iadd rfl (nI_add _ _) ?_
          refine rk_iald rfl (by assumption) (rfl) (by omega) (by decide) ?_
          rw [awt a ha]
          refine rk_imul rfl (pk_mul _ _) ?_
          refine rk_iadd rfl (nI_add _ _) ?_
          refine rk_aload_n rfl rfl ?_
          refine rk_get rfl (by assumption) rfl ?_
          refine rk_sipush (v := nI 272) rfl (by decide) ?_
          refine rk_iload_n rfl rfl ?_
          refine rk_iadd rfl (nI_add _ _) ?_
          refine rk_iald rfl (by assumption) (rfl) (by omega) (by decide) ?_
          rw [awt b hb]
          refine rk_iadd rfl (nI_add _ _) ?_
          refine rk_lald rfl (by assumption) (rfl) (by omega) (by decide) ?_
          rw [p1]
          refine rk_l2i rfl lI_toI ?_
          exact rk_ireturn rfl rfl ⟨_, _, rfl, rfl, SM.of71 c0 F3⟩
        · replace hc21 := Decidable.not_not.mp hc21
          replace hc21 := (bI_0).mp hc21
          exact absurd (w40_mk hL) hc21
      · replace hc13 := Decidable.not_not.mp hc13
        replace hc13 := (nI_eq (by omega) (by omega)).mp hc13
        exact absurd hc13 hab
