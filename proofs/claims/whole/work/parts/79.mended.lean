/-! MENDED: the model; SPARE and MENDED: the obligations -/
theorem MH.to {A : Nat → Int32} {N : Nat → Nat} {r t to : Nat} (hN : HN N) (hr : r < N 0) (ht : t < N 1) (M : MH A N) : MH (upd A (2 + (6 * r + t)) (nI to)) (uN N r t to) := by
  have hn := hN.n
  have h6 := hN.t
  have hw := hN.w
  obtain ⟨a0, a1, a268, a269, a270, a271, apl, apc, aot, asg, awt⟩ := M
  have ek : ∀ k, ¬ (2 ≤ k ∧ k < 86) → uN N r t to k = N k := fun k hk => uN_n hk (by omega) (by omega)
  have ea : ∀ k, k ≠ 2 + (6 * r + t) → upd A (2 + (6 * r + t)) (nI to) k = A k := fun k hk => if_neg hk
  refine ⟨?_, ?_, ?_, ?_, ?_, ?_, fun r' i hr' hi => ?_, fun r' i hr' hi => ?_, fun r' i hr' hi => ?_, fun r' hr' => ?_, fun w hw' => ?_⟩
  · rw [ea _ (by omega), ek _ (by omega)]; exact a0
  · rw [ea _ (by omega), ek _ (by omega)]; exact a1
  · rw [ea _ (by omega), ek _ (by omega)]; exact a268
  · rw [ea _ (by omega), ek _ (by omega)]; exact a269
  · rw [ea _ (by omega), ek _ (by omega)]; exact a270
  · rw [ea _ (by omega), ek _ (by omega)]; exact a271
  · rw [ek _ (by omega)] at hr'
    rw [ek _ (by omega)] at hi
    rw [uN_pl (by omega) (by omega)]
    by_cases q : r' = r ∧ i = t
    · obtain ⟨rfl, rfl⟩ := q
      rw [if_pos ⟨rfl, rfl⟩]
      exact if_pos rfl
    · rw [if_neg q, ea _ (by omega)]
      exact apl r' i hr' hi
  · show _ = nI (uN N r t to (170 + (6 * r' + i)))
    rw [ea _ (by omega), ek _ (by omega)]
    exact apc r' i hr' hi
  · rw [ek _ (by omega)] at hr'
    rw [ek _ (by omega)] at hi
    show _ = if uN N r t to (170 + (6 * r' + i)) = 0 then (-1 : Int32) else nI (uN N r t to (86 + (6 * r' + i)))
    rw [ea _ (by omega), ek _ (by omega), ek (86 + (6 * r' + i)) (by omega)]
    exact aot r' i hr' hi
  · show _ = nI (uN N r t to (254 + r'))
    rw [ea _ (by omega), ek _ (by omega)]
    exact asg r' hr'
  · rw [ek _ (by omega)] at hw'
    show _ = nI (uN N r t to (272 + w))
    rw [ea _ (by omega), ek _ (by omega)]
    exact awt w hw'
theorem upd_back {A : Nat → Int32} {i : Nat} {x y : Int32} (h : A i = y) : upd (upd A i x) i y = A := by
  funext k
  simp only [upd]
  by_cases q : k = i
  · rw [if_pos q, q, h]
  · rw [if_neg q, if_neg q]
def FrH (h h1 : ai_H) : Prop := h1.length = h.length ∧ ∀ q : Nat, q ≠ 53 → q ≠ 64 → h1[q]? = h[q]?
theorem FrH.rfl' {h : ai_H} : FrH h h := ⟨rfl, fun _ _ _ => rfl⟩
theorem FrH.tr {h h1 h2 : ai_H} (a : FrH h h1) (b : FrH h1 h2) : FrH h h2 := ⟨b.1.trans a.1, fun q x y => (b.2 q x y).trans (a.2 q x y)⟩
theorem FrH.f {h h1 : ai_H} {i j : Nat} (b : Fr i j h h1) (hi : (53 ≤ i ∧ j ≤ 54) ∨ (64 ≤ i ∧ j ≤ 65)) : FrH h h1 := ⟨b.1, fun q x y => b.2 q (by omega)⟩
theorem l250o {X : ai_X} {h : ai_H} {v A : Nat → Int32} {N : Nat → Nat} (c0 : h[52]? = some (cMdl v)) (hN : HN N) (M : MH A N) {c : Nat} (hc : c < 3) {r t : Nat} (hr : r < N 0) (ht : t < N 1) (D : NOM N ((r * 6 + t) * 14)) (z : ∀ g c4 c5 c6, FrH h g → g[53]? = some (cI 2346 A) → ShZ g 64 196 → (∀ to, to < N 0 → ¬ to = pl N r t → ¬ hm1 (uN N r t to) (-1) = true) → Rk X am_250 92 [some (.ref 52), some (.int (nI c)), some (.int (nI r)), some (.int (nI t)), c4, c5, c6] [] g (Qi (fun w h1 => w = mans N c ∧ FrH h h1 ∧ h1[53]? = some (cI 2346 A)))) : ∀ (d : Nat) (to : Nat) (g : ai_H) (c6 : Option Value), N 0 < to + d → (to ≤ N 0) → (FrH h g) → (g[53]? = some (cI 2346 A)) → (ShZ g 64 196) → (∀ to', to' < to → ¬ to' = pl N r t → ¬ hm1 (uN N r t to') (-1) = true) → Rk X am_250 45 [some (.ref 52), some (.int (nI c)), some (.int (nI r)), some (.int (nI t)), some (.int (nI (pl N r t))), some (.int (nI to)), c6] [] g (Qi (fun w h1 => w = mans N c ∧ FrH h h1 ∧ h1[53]? = some (cI 2346 A))) := by
  intro d
  induction d with
  | zero => intro to g c6 hd hto F c53 S64 DT; exfalso; omega
  | succ d ih =>
    intro to g c6 hd hto F c53 S64 DT
    obtain ⟨a0, a1, a268, a269, a270, a271, apl, apc, aot, asg, awt⟩ := id M
    have hn := hN.n
    have h6 := hN.t
    have e52 := (F.2 52 (by omega) (by omega)).trans c0
    have hpr := hN.xpl hr ht
    have F0 : FrH h g := F
    have hback : upd (upd A (2 + (6 * r + t)) (nI to)) (2 + (6 * r + t)) (nI (pl N r t)) = A := upd_back (apl r t hr ht)
    have M2 : MH (upd A (2 + (6 * r + t)) (nI to)) (uN N r t to) := M.to hN hr ht
    have hU : to < N 0 → HN (uN N r t to) := fun y => uN_HN hN hr ht y
    have hU0 : uN N r t to 0 = N 0 := uN_n (by omega) (by omega) (by omega)
    refine rk_iload rfl rfl ?_
    refine rk_aload_n rfl rfl ?_
    refine rk_get rfl (by assumption) rfl ?_
    refine rk_iconst (v := nI 0) rfl (by decide) ?_
    refine rk_iald rfl (by assumption) (rfl) (by omega) (by decide) ?_
    rw [a0]
    refine rk_icmp_ge rfl rfl (fun hc50 => ?_) (fun hc50 => ?_)
    · replace hc50 := (nI_leI (by omega) (by omega)).mp hc50
      have ht2 : to = N 0 := by omega
      subst ht2
      exact z g _ _ _ F c53 S64 DT
    · replace hc50 := mt (nI_leI (by omega) (by omega)).mpr hc50
      refine rk_iload rfl rfl ?_
      refine rk_iload rfl rfl ?_
      refine rk_icmp_ne rfl rfl (fun hc53 => ?_) (fun hc53 => ?_)
      · replace hc53 := mt (nI_eq (by omega) (by omega)).mpr hc53
        refine rk_aload_n rfl rfl ?_
        refine rk_get rfl (by assumption) rfl ?_
        refine rk_iconst (v := nI 2) rfl (by decide) ?_
        refine rk_iload_n rfl rfl ?_
        refine rk_iload_n rfl rfl ?_
        refine rk_cs2e rfl rfl rfl (Nat.le_of_ble_eq_true rfl) (Nat.le_of_ble_eq_true rfl) (s196) ?_
        refine rk_iadd rfl (nI_add _ _) ?_
        refine rk_iload rfl rfl ?_
        refine rk_iast rfl c53 (rfl) (by omega) (by decide) ?_
        refine hp_gen c53 (fun h1 g1 hk1 hl1 => ?_)
        replace e52 := (hk1 _ (by omega)).trans e52
        replace S64 := S64.fr (hk1 64 (by omega))
        replace F0 := F0.tr (FrH.f (Fr.mk1 hk1 hl1 (Nat.le_refl 53) (show 53 < 54 by omega)) (Or.inl ⟨by omega, by omega⟩))
        replace c53 := g1
        refine rk_aload_n rfl rfl ?_
        refine rk_iconst (v := (-1)) rfl (by decide) ?_
        refine rk_cv1i rfl rfl (by assumption) rfl rfl (Nat.le_of_ble_eq_true rfl) (Nat.le_of_ble_eq_true rfl) ((s248 (bt := -1) e52 c53 (hU (by omega)) M2 (by omega) S64).ski) (fun w h1 hF => ?_)
        obtain ⟨⟨rfl, F1⟩, k1⟩ := hF
        replace e52 := (F1.2 52 (by omega)).trans e52
        replace c53 := (F1.2 53 (by omega)).trans c53
        replace S64 := S64.sk k1
        replace F0 := F0.tr (FrH.f F1 (Or.inr ⟨by omega, by omega⟩))
        refine rk_istore rfl (Nat.le_of_ble_eq_true rfl) rfl ?_
        refine rk_aload_n rfl rfl ?_
        refine rk_get rfl (by assumption) rfl ?_
        refine rk_iconst (v := nI 2) rfl (by decide) ?_
        refine rk_iload_n rfl rfl ?_
        refine rk_iload_n rfl rfl ?_
        refine rk_cs2e rfl rfl rfl (Nat.le_of_ble_eq_true rfl) (Nat.le_of_ble_eq_true rfl) (s196) ?_
        refine rk_iadd rfl (nI_add _ _) ?_
        refine rk_iload rfl rfl ?_
        refine rk_iast rfl c53 (rfl) (by omega) (by decide) ?_
        refine hp_gen c53 (fun h1 g1 hk1 hl1 => ?_)
        replace e52 := (hk1 _ (by omega)).trans e52
        replace S64 := S64.fr (hk1 64 (by omega))
        replace F0 := F0.tr (FrH.f (Fr.mk1 hk1 hl1 (Nat.le_refl 53) (show 53 < 54 by omega)) (Or.inl ⟨by omega, by omega⟩))
        replace c53 := g1
        rw [hback] at c53
        refine rk_iload rfl rfl ?_
        refine rk_if_eq rfl rfl (fun hc78 => ?_) (fun hc78 => ?_)
        · replace hc78 := (bI_0).mp hc78
          refine rk_iinc rfl rfl (n_inc _) rfl ?_
          refine rk_goto rfl rfl ?_
          first
            | (refine ih (to + 1) g _ (by omega) (by omega) F c53 S64 (fun to' y1 y2 => ?_)
               by_cases q : to' = to
               · subst q; exact absurd hc53 y2
               · exact DT to' (by omega) y2)
            | (refine ih (to + 1) _ _ (by omega) (by omega) F0 c53 S64 (fun to' y1 y2 => ?_)
               by_cases q : to' = to
               · subst q; exact hc78
               · exact DT to' (by omega) y2)
        · replace hc78 := Decidable.not_not.mp (mt bI_0.mpr hc78)
          have hmq : mq N ((r * 6 + t) * 14 + to) = true := (mq_at (by omega) (by omega) (by omega) (by omega)).mpr ⟨by omega, hc53, hc78⟩
          have hfst : ∀ e', e' < (r * 6 + t) * 14 + to → ¬ mq N e' = true := fun e' he z => by
            by_cases q : e' < (r * 6 + t) * 14
            · exact D e' q z
            · have e1 : e' = (r * 6 + t) * 14 + e' % 14 := by omega
              rw [e1] at z
              have := (mq_at (by omega) (by omega) (by omega) (by omega)).mp z
              exact DT _ (by omega) this.2.1 this.2.2
          have hans := mans_at (c := c) hn hmq hfst
          rw [show ((r * 6 + t) * 14 + to) / 84 = r by omega, show ((r * 6 + t) * 14 + to) / 14 % 6 = t by omega, show ((r * 6 + t) * 14 + to) % 14 = to by omega] at hans
          refine rk_iload_n rfl rfl ?_
          refine rk_if_ne rfl rfl (fun hc80 => ?_) (fun hc80 => ?_)
          · replace hc80 := mt (n0_eq (by omega)).mpr hc80
            refine rk_iload_n rfl rfl ?_
            refine rk_iconst (v := nI 1) rfl (by decide) ?_
            refine rk_icmp_ne rfl rfl (fun hc85 => ?_) (fun hc85 => ?_)
            · replace hc85 := mt (nI_eq (by omega) (by omega)).mpr hc85
              refine rk_iload rfl rfl ?_
              first
                | exact rk_ireturn rfl rfl ⟨_, _, rfl, by rw [hans, if_pos (by omega)], F0, c53⟩
                | exact rk_ireturn rfl rfl ⟨_, _, rfl, by rw [hans, if_neg (by omega), if_pos (by omega)], F0, c53⟩
                | exact rk_ireturn rfl rfl ⟨_, _, rfl, by rw [hans, if_neg (by omega), if_neg (by omega)], F0, c53⟩
            · replace hc85 := Decidable.not_not.mp hc85
              replace hc85 := (nI_eq (by omega) (by omega)).mp hc85
              refine rk_iload_n rfl rfl ?_
              refine rk_goto rfl rfl ?_
              first
                | exact rk_ireturn rfl rfl ⟨_, _, rfl, by rw [hans, if_pos (by omega)], F0, c53⟩
                | exact rk_ireturn rfl rfl ⟨_, _, rfl, by rw [hans, if_neg (by omega), if_pos (by omega)], F0, c53⟩
                | exact rk_ireturn rfl rfl ⟨_, _, rfl, by rw [hans, if_neg (by omega), if_neg (by omega)], F0, c53⟩
          · replace hc80 := Decidable.not_not.mp hc80
            replace hc80 := (n0_eq (by omega)).mp hc80
            refine rk_iload_n rfl rfl ?_
            refine rk_goto rfl rfl ?_
            first
              | exact rk_ireturn rfl rfl ⟨_, _, rfl, by rw [hans, if_pos (by omega)], F0, c53⟩
              | exact rk_ireturn rfl rfl ⟨_, _, rfl, by rw [hans, if_neg (by omega), if_pos (by omega)], F0, c53⟩
              | exact rk_ireturn rfl rfl ⟨_, _, rfl, by rw [hans, if_neg (by omega), if_neg (by omega)], F0, c53⟩
      · replace hc53 := Decidable.not_not.mp hc53
        replace hc53 := (nI_eq (by omega) (by omega)).mp hc53
        refine rk_goto rfl rfl ?_
        refine rk_iinc rfl rfl (n_inc _) rfl ?_
        refine rk_goto rfl rfl ?_
        first
          | (refine ih (to + 1) g _ (by omega) (by omega) F c53 S64 (fun to' y1 y2 => ?_)
             by_cases q : to' = to
             · subst q; exact absurd hc53 y2
             · exact DT to' (by omega) y2)
          | (refine ih (to + 1) _ _ (by omega) (by omega) F0 c53 S64 (fun to' y1 y2 => ?_)
             by_cases q : to' = to
             · subst q; exact hc78
             · exact DT to' (by omega) y2)
theorem l250t {X : ai_X} {h : ai_H} {v A : Nat → Int32} {N : Nat → Nat} (c0 : h[52]? = some (cMdl v)) (hN : HN N) (M : MH A N) {c : Nat} (hc : c < 3) {r : Nat} (hr : r < N 0) (z : ∀ g c3 c4 c5 c6, FrH h g → g[53]? = some (cI 2346 A) → ShZ g 64 196 → NOM N ((r * 6 + N 1) * 14) → Rk X am_250 94 [some (.ref 52), some (.int (nI c)), some (.int (nI r)), c3, c4, c5, c6] [] g (Qi (fun w h1 => w = mans N c ∧ FrH h h1 ∧ h1[53]? = some (cI 2346 A)))) : ∀ (d : Nat) (t : Nat) (g : ai_H) (c4 c5 c6 : Option Value), N 1 < t + d → (t ≤ N 1) → (FrH h g) → (g[53]? = some (cI 2346 A)) → (ShZ g 64 196) → (NOM N ((r * 6 + t) * 14)) → Rk X am_250 32 [some (.ref 52), some (.int (nI c)), some (.int (nI r)), some (.int (nI t)), c4, c5, c6] [] g (Qi (fun w h1 => w = mans N c ∧ FrH h h1 ∧ h1[53]? = some (cI 2346 A))) := by
  intro d
  induction d with
  | zero => intro t g c4 c5 c6 hd ht F c53 S64 D; exfalso; omega
  | succ d ih =>
    intro t g c4 c5 c6 hd ht F c53 S64 D
    obtain ⟨a0, a1, a268, a269, a270, a271, apl, apc, aot, asg, awt⟩ := id M
    have hn := hN.n
    have h6 := hN.t
    have e52 := (F.2 52 (by omega) (by omega)).trans c0
    refine rk_iload_n rfl rfl ?_
    refine rk_aload_n rfl rfl ?_
    refine rk_get rfl (by assumption) rfl ?_
    refine rk_iconst (v := nI 1) rfl (by decide) ?_
    refine rk_iald rfl (by assumption) (rfl) (by omega) (by decide) ?_
    rw [a1]
    refine rk_icmp_ge rfl rfl (fun hc37 => ?_) (fun hc37 => ?_)
    · replace hc37 := (nI_leI (by omega) (by omega)).mp hc37
      have ht2 : t = N 1 := by omega
      subst ht2
      exact z g _ _ _ _ F c53 S64 D
    · replace hc37 := mt (nI_leI (by omega) (by omega)).mpr hc37
      refine rk_aload_n rfl rfl ?_
      refine rk_iload_n rfl rfl ?_
      refine rk_iload_n rfl rfl ?_
      refine rk_cv2e rfl rfl (by assumption) rfl rfl (Nat.le_of_ble_eq_true rfl) (Nat.le_of_ble_eq_true rfl) (s210N e52 c53 M hN hr (by omega)) ?_
      refine rk_istore rfl (Nat.le_of_ble_eq_true rfl) rfl ?_
      refine rk_iconst (v := nI 0) rfl (by decide) ?_
      refine rk_istore rfl (Nat.le_of_ble_eq_true rfl) rfl ?_
      refine l250o c0 hN M hc hr (t := t) (by omega) D (fun g2 c4 c5 c6 F2 c2 S2 D2 => ?_) (N 0 + 1) 0 g _ (by omega) (Nat.zero_le _) F c53 S64 (fun to' y => absurd y (by omega))
      refine rk_iinc rfl rfl (n_inc _) rfl ?_
      refine rk_goto rfl rfl ?_
      exact ih (t + 1) g2 _ _ _ (by omega) (by omega) F2 c2 S2 (NOM.tone hr (by omega) hn h6 D D2)
theorem l250 {X : ai_X} {h : ai_H} {v A : Nat → Int32} {N : Nat → Nat} (c0 : h[52]? = some (cMdl v)) (hN : HN N) (M : MH A N) {c : Nat} (hc : c < 3) : ∀ (d : Nat) (r : Nat) (g : ai_H) (c3 c4 c5 c6 : Option Value), N 0 < r + d → (r ≤ N 0) → (FrH h g) → (g[53]? = some (cI 2346 A)) → (ShZ g 64 196) → (NOM N ((r * 6 + 0) * 14)) → Rk X am_250 24 [some (.ref 52), some (.int (nI c)), some (.int (nI r)), c3, c4, c5, c6] [] g (Qi (fun w h1 => w = mans N c ∧ FrH h h1 ∧ h1[53]? = some (cI 2346 A))) := by
  intro d
  induction d with
  | zero => intro r g c3 c4 c5 c6 hd hr F c53 S64 D; exfalso; omega
  | succ d ih =>
    intro r g c3 c4 c5 c6 hd hr F c53 S64 D
    obtain ⟨a0, a1, a268, a269, a270, a271, apl, apc, aot, asg, awt⟩ := id M
    have hn := hN.n
    have h6 := hN.t
    have e52 := (F.2 52 (by omega) (by omega)).trans c0
    refine rk_iload_n rfl rfl ?_
    refine rk_aload_n rfl rfl ?_
    refine rk_get rfl (by assumption) rfl ?_
    refine rk_iconst (v := nI 0) rfl (by decide) ?_
    refine rk_iald rfl (by assumption) (rfl) (by omega) (by decide) ?_
    rw [a0]
    refine rk_icmp_ge rfl rfl (fun hc29 => ?_) (fun hc29 => ?_)
    · replace hc29 := (nI_leI (by omega) (by omega)).mp hc29
      refine rk_iconst (v := (-1)) rfl (by decide) ?_
      exact rk_ireturn rfl rfl ⟨_, _, rfl, (mans_no hn (fun e he => D e (by omega))).symm, F, c53⟩
    · replace hc29 := mt (nI_leI (by omega) (by omega)).mpr hc29
      refine rk_iconst (v := nI 0) rfl (by decide) ?_
      refine rk_istore_n rfl (Nat.le_of_ble_eq_true rfl) rfl ?_
      refine l250t c0 hN M hc (r := r) (by omega) (fun g2 c3 c4 c5 c6 F2 c2 S2 D2 => ?_) (N 1 + 1) 0 g _ _ _ (by omega) (Nat.zero_le _) F c53 S64 D
      refine rk_iinc rfl rfl (n_inc _) rfl ?_
      refine rk_goto rfl rfl ?_
      exact ih (r + 1) g2 _ _ _ _ (by omega) (by omega) F2 c2 S2 (NOM.room h6 D2)
theorem m250_v {X : ai_X} {h : ai_H} {v A : Nat → Int32} {N : Nat → Nat} (c0 : h[52]? = some (cMdl v)) (c1 : h[53]? = some (cI 2346 A)) (hN : HN N) (M : MH A N) {c : Nat} (hc : c < 3) (S64 : ShZ h 64 196) (h0 : ¬ N 0 = 0) (hh : ¬ hm1 N (-1) = true) : Rk X am_250 3 (ai_loc (ai_mL am_250) [.ref 52, .int (nI c)]) [] h (Qi (fun w h1 => w = mans N c ∧ FrH h h1 ∧ h1[53]? = some (cI 2346 A))) := by
  obtain ⟨a0, a1, a268, a269, a270, a271, apl, apc, aot, asg, awt⟩ := id M
  have hn := hN.n
  have hw2 : ¬ nI c < 0 ∧ ¬ nI 2 < nI c := ⟨nI_pos (by omega), fun z => by have := (nI_ltI (by omega) (by omega)).mp z; omega⟩
  refine rk_iload_n rfl rfl ?_
  refine rk_i2l rfl rfl ?_
  refine rk_lconst (v := 0) rfl (by decide) ?_
  rw [show (0 : Int64) = (0 : Int32).toInt64 by decide]
  refine rk_ldc2 rfl ?_
  rw [show (2 : Int64) = (nI 2).toInt64 by decide]
  refine rk_cs3e rfl rfl rfl (Nat.le_of_ble_eq_true rfl) (Nat.le_of_ble_eq_true rfl) (s181 _ _ _) ?_
  refine rk_if_ne rfl rfl (fun hc8 => ?_) (fun hc8 => ?_)
  · replace hc8 := Decidable.not_not.mp (mt bI_0.mpr hc8)
    refine rk_aload_n rfl rfl ?_
    refine rk_get rfl (by assumption) rfl ?_
    refine rk_iconst (v := nI 0) rfl (by decide) ?_
    refine rk_iald rfl (by assumption) (rfl) (by omega) (by decide) ?_
    rw [a0]
    refine rk_if_eq rfl rfl (fun hc15 => ?_) (fun hc15 => ?_)
    · replace hc15 := (n0_eq (by omega)).mp hc15
      exact absurd hc15 h0
    · replace hc15 := mt (n0_eq (by omega)).mpr hc15
      refine rk_aload_n rfl rfl ?_
      refine rk_iconst (v := (-1)) rfl (by decide) ?_
      refine rk_cv1i rfl rfl (by assumption) rfl rfl (Nat.le_of_ble_eq_true rfl) (Nat.le_of_ble_eq_true rfl) ((s248 (bt := -1) c0 c1 hN M h0 S64).ski) (fun w h1 hF => ?_)
      obtain ⟨⟨rfl, F1⟩, k1⟩ := hF
      refine rk_if_eq rfl rfl (fun hc19 => ?_) (fun hc19 => ?_)
      · replace hc19 := (bI_0).mp hc19
        refine rk_iconst (v := nI 0) rfl (by decide) ?_
        refine rk_istore_n rfl (Nat.le_of_ble_eq_true rfl) rfl ?_
        exact l250 c0 hN M hc (N 0 + 1) 0 _ _ _ _ _ (by omega) (Nat.zero_le _) (FrH.f F1 (Or.inr ⟨by omega, by omega⟩)) ((F1.2 53 (by omega)).trans c1) (S64.sk k1) (fun e he => absurd he (by omega))
      · replace hc19 := Decidable.not_not.mp (mt bI_0.mpr hc19)
        exact absurd hc19 hh
  · replace hc8 := Decidable.not_not.mp hc8
    replace hc8 := (bI_0).mp hc8
    exact absurd hw2 hc8
theorem m250_h {X : ai_X} {h : ai_H} {v A : Nat → Int32} {N : Nat → Nat} (c0 : h[52]? = some (cMdl v)) (c1 : h[53]? = some (cI 2346 A)) (hN : HN N) (M : MH A N) {c : Nat} (hc : c < 3) (S64 : ShZ h 64 196) (h0 : ¬ N 0 = 0) (hh : hm1 N (-1) = true) : Rk X am_250 3 (ai_loc (ai_mL am_250) [.ref 52, .int (nI c)]) [] h (Qi (fun w h1 => w = -5 ∧ Fr 64 65 h h1)) := by
  obtain ⟨a0, a1, a268, a269, a270, a271, apl, apc, aot, asg, awt⟩ := id M
  have hn := hN.n
  have hw2 : ¬ nI c < 0 ∧ ¬ nI 2 < nI c := ⟨nI_pos (by omega), fun z => by have := (nI_ltI (by omega) (by omega)).mp z; omega⟩
  refine rk_iload_n rfl rfl ?_
  refine rk_i2l rfl rfl ?_
  refine rk_lconst (v := 0) rfl (by decide) ?_
  rw [show (0 : Int64) = (0 : Int32).toInt64 by decide]
  refine rk_ldc2 rfl ?_
  rw [show (2 : Int64) = (nI 2).toInt64 by decide]
  refine rk_cs3e rfl rfl rfl (Nat.le_of_ble_eq_true rfl) (Nat.le_of_ble_eq_true rfl) (s181 _ _ _) ?_
  refine rk_if_ne rfl rfl (fun hc8 => ?_) (fun hc8 => ?_)
  · replace hc8 := Decidable.not_not.mp (mt bI_0.mpr hc8)
    refine rk_aload_n rfl rfl ?_
    refine rk_get rfl (by assumption) rfl ?_
    refine rk_iconst (v := nI 0) rfl (by decide) ?_
    refine rk_iald rfl (by assumption) (rfl) (by omega) (by decide) ?_
    rw [a0]
    refine rk_if_eq rfl rfl (fun hc15 => ?_) (fun hc15 => ?_)
    · replace hc15 := (n0_eq (by omega)).mp hc15
      exact absurd hc15 h0
    · replace hc15 := mt (n0_eq (by omega)).mpr hc15
      refine rk_aload_n rfl rfl ?_
      refine rk_iconst (v := (-1)) rfl (by decide) ?_
      refine rk_cv1i rfl rfl (by assumption) rfl rfl (Nat.le_of_ble_eq_true rfl) (Nat.le_of_ble_eq_true rfl) (s248 (bt := -1) c0 c1 hN M h0 S64) (fun w h1 hF => ?_)
      obtain ⟨rfl, F1⟩ := hF
      refine rk_if_eq rfl rfl (fun hc19 => ?_) (fun hc19 => ?_)
      · replace hc19 := (bI_0).mp hc19
        exact absurd hh hc19
      · replace hc19 := Decidable.not_not.mp (mt bI_0.mpr hc19)
        refine rk_bipush (v := (-5)) rfl (by decide) ?_
        exact rk_ireturn rfl rfl ⟨_, _, rfl, rfl, F1⟩
  · replace hc8 := Decidable.not_not.mp hc8
    replace hc8 := (bI_0).mp hc8
    exact absurd hw2 hc8
theorem m250_0 {X : ai_X} {h : ai_H} {v A : Nat → Int32} {N : Nat → Nat} (c0 : h[52]? = some (cMdl v)) (c1 : h[53]? = some (cI 2346 A)) (hN : HN N) (M : MH A N) {c : Nat} (hc : c < 3) (h0 : N 0 = 0) : Rk X am_250 3 (ai_loc (ai_mL am_250) [.ref 52, .int (nI c)]) [] h (Qe (-5) h) := by
  obtain ⟨a0, a1, a268, a269, a270, a271, apl, apc, aot, asg, awt⟩ := id M
  have hn := hN.n
  have hw2 : ¬ nI c < 0 ∧ ¬ nI 2 < nI c := ⟨nI_pos (by omega), fun z => by have := (nI_ltI (by omega) (by omega)).mp z; omega⟩
  refine rk_iload_n rfl rfl ?_
  refine rk_i2l rfl rfl ?_
  refine rk_lconst (v := 0) rfl (by decide) ?_
  rw [show (0 : Int64) = (0 : Int32).toInt64 by decide]
  refine rk_ldc2 rfl ?_
  rw [show (2 : Int64) = (nI 2).toInt64 by decide]
  refine rk_cs3e rfl rfl rfl (Nat.le_of_ble_eq_true rfl) (Nat.le_of_ble_eq_true rfl) (s181 _ _ _) ?_
  refine rk_if_ne rfl rfl (fun hc8 => ?_) (fun hc8 => ?_)
  · replace hc8 := Decidable.not_not.mp (mt bI_0.mpr hc8)
    refine rk_aload_n rfl rfl ?_
    refine rk_get rfl (by assumption) rfl ?_
    refine rk_iconst (v := nI 0) rfl (by decide) ?_
    refine rk_iald rfl (by assumption) (rfl) (by omega) (by decide) ?_
    rw [a0]
    refine rk_if_eq rfl rfl (fun hc15 => ?_) (fun hc15 => ?_)
    · replace hc15 := (n0_eq (by omega)).mp hc15
      refine rk_bipush (v := (-5)) rfl (by decide) ?_
      exact rk_ireturn rfl rfl Qe_mk
    · replace hc15 := mt (n0_eq (by omega)).mpr hc15
      exact absurd h0 hc15
  · replace hc8 := Decidable.not_not.mp hc8
    replace hc8 := (bI_0).mp hc8
    exact absurd hw2 hc8
theorem m250_x {X : ai_X} {h : ai_H} {v A : Nat → Int32} {N : Nat → Nat} (c0 : h[52]? = some (cMdl v)) (c1 : h[53]? = some (cI 2346 A)) (hN : HN N) (M : MH A N) {a : Int32} (ha : ¬ (¬ a < 0 ∧ ¬ nI 2 < a)) : Rk X am_250 3 (ai_loc (ai_mL am_250) [.ref 52, .int a]) [] h (Qe (-2) h) := by
  refine rk_iload_n rfl rfl ?_
  refine rk_i2l rfl rfl ?_
  refine rk_lconst (v := 0) rfl (by decide) ?_
  rw [show (0 : Int64) = (0 : Int32).toInt64 by decide]
  refine rk_ldc2 rfl ?_
  rw [show (2 : Int64) = (nI 2).toInt64 by decide]
  refine rk_cs3e rfl rfl rfl (Nat.le_of_ble_eq_true rfl) (Nat.le_of_ble_eq_true rfl) (s181 _ _ _) ?_
  refine rk_if_ne rfl rfl (fun hc8 => ?_) (fun hc8 => ?_)
  · replace hc8 := Decidable.not_not.mp (mt bI_0.mpr hc8)
    exact absurd hc8 ha
  · replace hc8 := Decidable.not_not.mp hc8
    replace hc8 := (bI_0).mp hc8
    refine rk_bipush (v := (-2)) rfl (by decide) ?_
    exact rk_ireturn rfl rfl Qe_mk
/-- the class wrote into its draft and its bits of pairs, the model into its own; the house is as it was -/
theorem finD {m c s mk : Nat} {h h1 h2 h3 : ai_H} {tp : Nat} {T A im rs rm v : Nat → Int32} {nu : Nat → Int64} {fk fp : Int32} {b : Nat → Option Nat} {N : Nat → Nat} (hP : InvP m c s h tp T A im rs rm nu fk fp b) (hV : HV A 0 (N 0) (N 1) (N 271)) (hFV : FV A 0 (N 1)) (hmk : mk ≤ 4000 * m) (hv : ∀ v, h[52]? = some (cMdl v) → v 5 = nI tp ∧ v 13 = fk ∧ v 14 = fp) (d52 : h[52]? = some (cMdl v)) (H : MQs h mk) (F1 : FrD h h1) (R9 : ∃ F G, HouseAt h1 9 F G) (g2 : h2[52]? = some (cMdl (upd v 0 (nI 0)))) (hk : ∀ q : Nat, q ≠ 52 → h2[q]? = h1[q]?) (hl : h2.length = h1.length) (F3 : FrH h2 h3) (c53 : h3[53]? = some (cI 2346 A)) (k : ai_Sk h h3) : Inv (m + 1) (c + 0) (s + 0) h3 := by
  obtain ⟨hA, hB, hR, hI, hS, hO, hM, hVV, hD, hc, hs⟩ := id hP
  obtain ⟨-, R9', ⟨n0, f0, R, hFC⟩, n7, f7, R17⟩ := id hB
  obtain ⟨n33, d33⟩ := hO.2.1
  have K3 : ∀ q : Nat, ¬ (9 ≤ q ∧ q < 15) → q ≠ 29 → q ≠ 52 → q ≠ 53 → q ≠ 64 → h3[q]? = h[q]? := fun q a1 a2 a3 a4 a5 => (F3.2 q a4 a5).trans ((hk q a3).trans (F1.2 q a1 a2))
  have H2 : MQs h2 mk := H.fr (fun q a1 a2 => (hk q (by omega)).trans (F1.2 q (by omega) (by omega))) d52 g2 rfl
  have H3 : MR h3 (upd v 0 (nI 0)) mk := (H2.mr g2).fr (fun q hq => F3.2 q (by omega) (by omega))
  obtain ⟨F9, G9, z9⟩ := R9
  exact finW hP hV (by omega) (hv v d52) ((F3.1.trans hl).trans F1.1) (fun q hq => K3 q (by omega) (by omega) (by omega) (by omega) (by omega)) ⟨F9, G9, z9.fr (fun q _ _ => (F3.2 q (by omega) (by omega)).trans (hk q (by omega)))⟩ ⟨n0, f0, R.fr (fun q _ _ => K3 q (by omega) (by omega) (by omega) (by omega) (by omega)), hFC⟩ ⟨n7, f7, R17.fr (fun q _ _ => K3 q (by omega) (by omega) (by omega) (by omega) (by omega))⟩ ⟨n33, (K3 33 (by omega) (by omega) (by omega) (by omega) (by omega)).trans d33⟩ H3.2 c53 (fun _ _ => rfl) hFV k
theorem hse9_f {h h1 : ai_H} {i j : Nat} (F : Fr i j h h1) (hi : 15 ≤ i) (R : ∃ F G, HouseAt h 9 F G) : ∃ F G, HouseAt h1 9 F G := by
  obtain ⟨A, B, z⟩ := R
  exact ⟨A, B, z.fr (fun q _ _ => F.2 q (by omega))⟩
theorem ob20 (X : ai_X) : O20 X Inv := by
  refine ob_gen fun m c s h hm I => ?_
  obtain ⟨tp, T, A, im, rs, rm, nu, fk, fp, b, hP⟩ := id I
  obtain ⟨N, mk, hN, C, M, -, hV, hFV, H, hmk, hv⟩ := Inv.sdat hP hm
  obtain ⟨hA, hB, hR, hI, hS, hO, hM, hVV, hD, hc, hs⟩ := id hP
  obtain ⟨v, d52⟩ := I.m52
  have d53 := hM.2.1
  have d0 := hA.1
  have h80 := hM.len
  have d27 := hO.1
  have S29 : ShI h 29 14 := hO.2.2.2.2.2.2.2.1
  have S64 : ShZ h 64 196 := hM.2.2.2.2.2.2.2.2.2.2.2.2.2.2.1
  obtain ⟨-, R9, ⟨n0, f0, R, hFC⟩, n7, f7, R17⟩ := id hB
  obtain ⟨n33, d33⟩ := hO.2.1
  by_cases h0 : N 0 = 0
  · exact og_pure I (c151_x d0 hN C h0) (md_thr rfl rfl rfl rfl d52 (fun h2 g2 hk => m249_x g2 ((hk 53 (by omega)).trans d53) hN M h0))
  · refine ⟨_, _, c151_v d0 hN C d27 S29 h0, ?_⟩
    rintro h1 F1 k1
    have e52 := (F1.2 52 (by omega)).trans d52
    refine ⟨⟨_, e52⟩, md_g rfl rfl rfl rfl e52 (fun h2 g2 hk hl => ?_)⟩
    refine (m249_v g2 ((hk 53 (by omega)).trans ((F1.2 53 (by omega)).trans d53)) hN M h0 (S64.fr ((hk 64 (by omega)).trans (F1.2 64 (by omega))))).mono ?_
    rintro o ⟨y, h3, e1, hy, F3⟩
    subst e1
    exact ⟨_, _, rfl, hy, fun k2 => finD hP hV hFV hmk hv d52 H (FrD.f F1 (Or.inr ⟨by omega, by omega⟩)) (hse9_f F1 (by omega) R9) g2 hk hl (FrH.f F3 (Or.inr ⟨by omega, by omega⟩)) ((F3.2 53 (by omega)).trans ((hk 53 (by omega)).trans ((F1.2 53 (by omega)).trans d53))) (k1.trans k2)⟩
theorem ob21 (X : ai_X) : O21 X Inv := by
  intro a0
  refine ob_gen fun m c s h hm I => ?_
  obtain ⟨tp, T, A, im, rs, rm, nu, fk, fp, b, hP⟩ := id I
  obtain ⟨N, mk, hN, C, M, -, hV, hFV, H, hmk, hv⟩ := Inv.sdat hP hm
  obtain ⟨hA, hB, hR, hI, hS, hO, hM, hVV, hD, hc, hs⟩ := id hP
  obtain ⟨v, d52⟩ := I.m52
  have d53 := hM.2.1
  have d0 := hA.1
  have h80 := hM.len
  have d27 := hO.1
  have S29 : ShI h 29 14 := hO.2.2.2.2.2.2.2.1
  have S64 : ShZ h 64 196 := hM.2.2.2.2.2.2.2.2.2.2.2.2.2.2.1
  obtain ⟨-, R9, ⟨n0, f0, R, hFC⟩, n7, f7, R17⟩ := id hB
  obtain ⟨n33, d33⟩ := hO.2.1
  by_cases ha : ¬ a0 < 0 ∧ ¬ nI 2 < a0
  · obtain ⟨c', hc', rfl⟩ : ∃ c', c' < 3 ∧ a0 = nI c' := by
      rcases sw_3 a0 with e | e | e | ⟨-, e⟩
      · exact ⟨0, by omega, e⟩
      · exact ⟨1, by omega, e⟩
      · exact ⟨2, by omega, e⟩
      · exact absurd ha e
    by_cases h0 : N 0 = 0
    · exact og_pure I (c152_0 d0 hN C hc' h0) (md_thr rfl rfl rfl rfl d52 (fun h2 g2 hk => m250_0 g2 ((hk 53 (by omega)).trans d53) hN M hc' h0))
    · by_cases hh : hm1 N (-1) = true
      · refine ⟨_, _, c152_h d0 hN C d27 hc' S29 h0 hh, ?_⟩
        rintro h1 F1 k1
        have e52 := (F1.2 52 (by omega)).trans d52
        refine ⟨⟨_, e52⟩, md_g rfl rfl rfl rfl e52 (fun h2 g2 hk hl => ?_)⟩
        refine (m250_h g2 ((hk 53 (by omega)).trans ((F1.2 53 (by omega)).trans d53)) hN M hc' (S64.fr ((hk 64 (by omega)).trans (F1.2 64 (by omega)))) h0 hh).mono ?_
        rintro o ⟨y, h3, e1, hy, F3⟩
        subst e1
        exact ⟨_, _, rfl, hy, fun k2 => finD hP hV hFV hmk hv d52 H (FrD.f F1 (Or.inr ⟨by omega, by omega⟩)) (hse9_f F1 (by omega) R9) g2 hk hl (FrH.f F3 (Or.inr ⟨by omega, by omega⟩)) ((F3.2 53 (by omega)).trans ((hk 53 (by omega)).trans ((F1.2 53 (by omega)).trans d53))) (k1.trans k2)⟩
      · refine ⟨_, _, c152_v d0 hN C d27 hc' S29 R9 h0 hh, ?_⟩
        rintro h1 ⟨F1, R9b⟩ k1
        have e52 := (F1.2 52 (by omega) (by omega)).trans d52
        refine ⟨⟨_, e52⟩, md_g rfl rfl rfl rfl e52 (fun h2 g2 hk hl => ?_)⟩
        refine (m250_v g2 ((hk 53 (by omega)).trans ((F1.2 53 (by omega) (by omega)).trans d53)) hN M hc' (S64.fr ((hk 64 (by omega)).trans (F1.2 64 (by omega) (by omega)))) h0 hh).mono ?_
        rintro o ⟨y, h3, e1, hy, F3, c53⟩
        subst e1
        exact ⟨_, _, rfl, hy, fun k2 => finD hP hV hFV hmk hv d52 H F1 R9b g2 hk hl F3 c53 (k1.trans k2)⟩
  · exact og_pure I (c152_x d0 hN C ha) (md_thr rfl rfl rfl rfl d52 (fun h2 g2 hk => m250_x g2 ((hk 53 (by omega)).trans d53) hN M ha))
