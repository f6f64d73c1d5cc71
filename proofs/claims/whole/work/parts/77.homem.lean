/-! HOME: the model -/
theorem home_iff {N : Nat → Nat} {bt : Int32} (hN : HN N) : HomeB N bt ↔ (∀ a b, a < N 0 → b < N 0 → RB N bt gM (a * 14 + b)) ∧ ∀ r, r < N 0 → RB N bt (gH N) (r * 14 + r) := by
  have hn := hN.n
  have hp := hN.pan
  constructor
  · intro h
    refine ⟨fun a b ha hb => ?_, fun r hr => h r r hr hr⟩
    refine RB.min (W := RB N bt gM) hN (fun x hx y => RB.z ?_) (fun x t hx ht hb y => RB.s ht hb y) (vP_ab hN ha hb) (h a b ha hb)
    have := of_decide_eq_true y
    exact decide_eq_true (by omega)
  · rintro ⟨h1, h2⟩ a b ha hb
    refine RB.min (W := RB N bt (gH N)) hN (fun x hx y => ?_) (fun x t hx ht hb y => RB.s ht hb y) (vP_ab hN ha hb) (h1 a b ha hb)
    have := of_decide_eq_true y
    have hv := vP_of hx
    have e : x = x / 14 * 14 + x / 14 := by omega
    rw [e]
    exact h2 _ hv.1
def MI (N : Nat → Nat) (bt : Int32) (f : Nat → Int32) : Prop := ∀ a b, a < N 0 → b < N 0 → (f (a * 14 + b) = 0 ∨ f (a * 14 + b) = 1) ∧ (f (a * 14 + b) = 1 → RB N bt gM (a * 14 + b))
def GF (N : Nat → Nat) (f0 f : Nat → Int32) (r : Int32) : Prop := (∀ x y, x < N 0 → y < N 0 → f0 (x * 14 + y) = 1 → f (x * 14 + y) = 1) ∧ ((r = nI 0 ∧ f = f0) ∨ (r = nI 1 ∧ ∃ x y, x < N 0 ∧ y < N 0 ∧ f (x * 14 + y) = 1 ∧ f0 (x * 14 + y) = 0))
theorem l247 {X : ai_X} {h : ai_H} {v A : Nat → Int32} {N : Nat → Nat} {bt : Int32} (c0 : h[52]? = some (cMdl v)) (c1 : h[53]? = some (cI 2346 A)) (hN : HN N) (M : MH A N) {a b : Nat} {f : Nat → Int32} (c64 : h[64]? = some (cZ 196 f)) (ha : a < N 0) (hb : b < N 0) : ∀ (d : Nat) (t : Nat), N 1 < t + d → (t ≤ N 1) → (∀ t', t' < t → ¬ nI t' = bt → f (pl N a t' * 14 + pl N b t') = 0) → Rk X am_247 2 [some (.ref 52), some (.int (nI a)), some (.int (nI b)), some (.int bt), some (.int (nI t))] [] h (Qi (fun w h1 => h1 = h ∧ ((w = nI 1 ∧ ∃ t, t < N 1 ∧ ¬ nI t = bt ∧ ¬ f (pl N a t * 14 + pl N b t) = 0) ∨ (w = nI 0 ∧ ∀ t, t < N 1 → ¬ nI t = bt → f (pl N a t * 14 + pl N b t) = 0)))) := by
  intro d
  induction d with
  | zero => intro t hd ht D; exfalso; omega
  | succ d ih =>
    intro t hd ht D
    obtain ⟨a0, a1, a268, a269, a270, a271, apl, apc, aot, asg, awt⟩ := id M
    have hn := hN.n
    have h6 := hN.t
    have p1 : t < N 1 → pl N a t < N 0 := fun y => hN.xpl ha y
    have p2 : t < N 1 → pl N b t < N 0 := fun y => hN.xpl hb y
    refine rk_iload rfl rfl ?_
    refine rk_aload_n rfl rfl ?_
    refine rk_get rfl (by assumption) rfl ?_
    refine rk_iconst (v := nI 1) rfl (by decide) ?_
    refine rk_iald rfl (by assumption) (rfl) (by omega) (by decide) ?_
    rw [a1]
    refine rk_icmp_ge rfl rfl (fun hc7 => ?_) (fun hc7 => ?_)
    · replace hc7 := (nI_leI (by omega) (by omega)).mp hc7
      refine rk_iconst (v := nI 0) rfl (by decide) ?_
      exact rk_ireturn rfl rfl ⟨_, _, rfl, rfl, Or.inr ⟨rfl, fun t' y1 y2 => D t' (by omega) y2⟩⟩
    · replace hc7 := mt (nI_leI (by omega) (by omega)).mpr hc7
      refine rk_iload rfl rfl ?_
      refine rk_iload_n rfl rfl ?_
      refine rk_icmp_eq rfl rfl (fun hc10 => ?_) (fun hc10 => ?_)
      · refine rk_iinc rfl rfl (n_inc _) rfl ?_
        refine rk_goto rfl rfl ?_
        refine ih (t + 1) (by omega) (by omega) (fun t' y1 y2 => ?_)
        by_cases y : t' = t
        · subst y
          first
            | exact absurd hc10 y2
            | exact hc25
        · exact D t' (by omega) y2
      · refine rk_aload_n rfl rfl ?_
        refine rk_get rfl (by assumption) rfl ?_
        refine rk_bipush (v := nI 14) rfl (by decide) ?_
        refine rk_aload_n rfl rfl ?_
        refine rk_iload_n rfl rfl ?_
        refine rk_iload rfl rfl ?_
        refine rk_cv2e rfl rfl (by assumption) rfl rfl (Nat.le_of_ble_eq_true rfl) (Nat.le_of_ble_eq_true rfl) (s210N c0 c1 M hN ha (by omega)) ?_
        replace p1 := p1 (by omega)
        replace p2 := p2 (by omega)
        refine rk_imul rfl (pk_mul _ _) ?_
        refine rk_aload_n rfl rfl ?_
        refine rk_iload_n rfl rfl ?_
        refine rk_iload rfl rfl ?_
        refine rk_cv2e rfl rfl (by assumption) rfl rfl (Nat.le_of_ble_eq_true rfl) (Nat.le_of_ble_eq_true rfl) (s210N c0 c1 M hN hb (by omega)) ?_
        refine rk_iadd rfl (nI_add _ _) ?_
        refine rk_zald rfl (by assumption) (rfl) (by omega) (by decide) ?_
        rw [show 14 * pl N a t + pl N b t = pl N a t * 14 + pl N b t by omega]
        refine rk_if_eq rfl rfl (fun hc25 => ?_) (fun hc25 => ?_)
        · refine rk_iinc rfl rfl (n_inc _) rfl ?_
          refine rk_goto rfl rfl ?_
          refine ih (t + 1) (by omega) (by omega) (fun t' y1 y2 => ?_)
          by_cases y : t' = t
          · subst y
            first
              | exact absurd hc10 y2
              | exact hc25
          · exact D t' (by omega) y2
        · refine rk_iconst (v := nI 1) rfl (by decide) ?_
          exact rk_ireturn rfl rfl ⟨_, _, rfl, rfl, Or.inl ⟨rfl, t, by omega, hc10, hc25⟩⟩
theorem s247 {X : ai_X} {h : ai_H} {v A : Nat → Int32} {N : Nat → Nat} {bt : Int32} (c0 : h[52]? = some (cMdl v)) (c1 : h[53]? = some (cI 2346 A)) (hN : HN N) (M : MH A N) {a b : Nat} {f : Nat → Int32} (c64 : h[64]? = some (cZ 196 f)) (ha : a < N 0) (hb : b < N 0) : Mt X am_247 [.ref 52, .int (nI a), .int (nI b), .int bt] h (Qi (fun w h1 => h1 = h ∧ ((w = nI 1 ∧ ∃ t, t < N 1 ∧ ¬ nI t = bt ∧ ¬ f (pl N a t * 14 + pl N b t) = 0) ∨ (w = nI 0 ∧ ∀ t, t < N 1 → ¬ nI t = bt → f (pl N a t * 14 + pl N b t) = 0)))) := by
  refine rk_iconst (v := nI 0) rfl (by decide) ?_
  refine rk_istore rfl (Nat.le_of_ble_eq_true rfl) rfl ?_
  exact l247 c0 c1 hN M c64 ha hb (N 1 + 1) 0 (by omega) (Nat.zero_le _) (fun t' y => absurd y (by omega))
theorem l248b {X : ai_X} {h : ai_H} {v A : Nat → Int32} {N : Nat → Nat} {bt : Int32} (c0 : h[52]? = some (cMdl v)) (c1 : h[53]? = some (cI 2346 A)) (hN : HN N) (M : MH A N) {a : Nat} (ha : a < N 0) {x4 x5 x6 : Option Value} {P : ai_O → Prop} (z : ∀ g f, Fr 64 65 h g → g[64]? = some (cZ 196 f) → (∀ x y, x < N 0 → y < N 0 → (x < a ∨ (x = a ∧ y < N 0)) → f (x * 14 + y) = if x = y then 1 else 0) → Rk X am_248 32 [some (.ref 52), some (.int bt), some (.int (nI a)), some (.int (nI (N 0))), x4, x5, x6] [] g P) : ∀ (d : Nat) (b : Nat) (g : ai_H) (f : Nat → Int32), N 0 < b + d → (b ≤ N 0) → (Fr 64 65 h g) → (g[64]? = some (cZ 196 f)) → (∀ x y, x < N 0 → y < N 0 → (x < a ∨ (x = a ∧ y < b)) → f (x * 14 + y) = if x = y then 1 else 0) → Rk X am_248 10 [some (.ref 52), some (.int bt), some (.int (nI a)), some (.int (nI b)), x4, x5, x6] [] g (P) := by
  intro d
  induction d with
  | zero => intro b g f hd hb F c64 I; exfalso; omega
  | succ d ih =>
    intro b g f hd hb F c64 I
    obtain ⟨a0, a1, a268, a269, a270, a271, apl, apc, aot, asg, awt⟩ := id M
    have hn := hN.n
    have h6 := hN.t
    have e52 := (F.2 52 (by omega)).trans c0
    have e53 := (F.2 53 (by omega)).trans c1
    have F0 : Fr 64 65 h g := F
    refine rk_iload_n rfl rfl ?_
    refine rk_aload_n rfl rfl ?_
    refine rk_get rfl (by assumption) rfl ?_
    refine rk_iconst (v := nI 0) rfl (by decide) ?_
    refine rk_iald rfl (by assumption) (rfl) (by omega) (by decide) ?_
    rw [a0]
    refine rk_icmp_ge rfl rfl (fun hc15 => ?_) (fun hc15 => ?_)
    · replace hc15 := (nI_leI (by omega) (by omega)).mp hc15
      have hb2 : b = N 0 := by omega
      subst hb2
      exact z g f F c64 I
    · replace hc15 := mt (nI_leI (by omega) (by omega)).mpr hc15
      refine rk_aload_n rfl rfl ?_
      refine rk_get rfl (by assumption) rfl ?_
      refine rk_bipush (v := nI 14) rfl (by decide) ?_
      refine rk_iload_n rfl rfl ?_
      refine rk_imul rfl (pk_mul _ _) ?_
      refine rk_iload_n rfl rfl ?_
      refine rk_iadd rfl (nI_add _ _) ?_
      refine rk_iload_n rfl rfl ?_
      refine rk_iload_n rfl rfl ?_
      refine rk_icmp_ne rfl rfl (fun hc25 => ?_) (fun hc25 => ?_)
      · replace hc25 := mt (nI_eq (by omega) (by omega)).mpr hc25
        refine rk_iconst (v := nI 0) rfl (by decide) ?_
        refine rk_zast rfl c64 (rfl) (by omega) (by decide) ?_
        refine hp_gen c64 (fun h1 g1 hk1 hl1 => ?_)
        replace e52 := (hk1 _ (by omega)).trans e52
        replace e53 := (hk1 _ (by omega)).trans e53
        replace F0 := F0.tr (Fr.mk1 hk1 hl1 (by omega) (by omega))
        replace c64 := g1
        refine rk_iinc rfl rfl (n_inc _) rfl ?_
        refine rk_goto rfl rfl ?_
        refine ih (b + 1) _ _ (by omega) (by omega) F0 c64 (fun x y hx hy hxy => ?_)
        simp only [upd]
        by_cases q : x * 14 + y = 14 * a + b
        · have q1 : x = a := by omega
          have q2 : y = b := by omega
          subst q1 q2
          rw [if_pos q]
          first
            | (rw [if_pos (by omega)]; decide)
            | (rw [if_neg (by omega)]; decide)
        · rw [if_neg q]
          exact I x y hx hy (by omega)
      · replace hc25 := Decidable.not_not.mp hc25
        replace hc25 := (nI_eq (by omega) (by omega)).mp hc25
        refine rk_iconst (v := nI 1) rfl (by decide) ?_
        refine rk_goto rfl rfl ?_
        refine rk_zast rfl c64 (rfl) (by omega) (by decide) ?_
        refine hp_gen c64 (fun h1 g1 hk1 hl1 => ?_)
        replace e52 := (hk1 _ (by omega)).trans e52
        replace e53 := (hk1 _ (by omega)).trans e53
        replace F0 := F0.tr (Fr.mk1 hk1 hl1 (by omega) (by omega))
        replace c64 := g1
        refine rk_iinc rfl rfl (n_inc _) rfl ?_
        refine rk_goto rfl rfl ?_
        refine ih (b + 1) _ _ (by omega) (by omega) F0 c64 (fun x y hx hy hxy => ?_)
        simp only [upd]
        by_cases q : x * 14 + y = 14 * a + b
        · have q1 : x = a := by omega
          have q2 : y = b := by omega
          subst q1 q2
          rw [if_pos q]
          first
            | (rw [if_pos (by omega)]; decide)
            | (rw [if_neg (by omega)]; decide)
        · rw [if_neg q]
          exact I x y hx hy (by omega)
theorem l248a {X : ai_X} {h : ai_H} {v A : Nat → Int32} {N : Nat → Nat} {bt : Int32} (c0 : h[52]? = some (cMdl v)) (c1 : h[53]? = some (cI 2346 A)) (hN : HN N) (M : MH A N) {x4 x5 x6 : Option Value} {P : ai_O → Prop} (z : ∀ g f c3, Fr 64 65 h g → g[64]? = some (cZ 196 f) → (∀ x y, x < N 0 → y < N 0 → True → f (x * 14 + y) = if x = y then 1 else 0) → Rk X am_248 34 [some (.ref 52), some (.int bt), some (.int (nI (N 0))), c3, x4, x5, x6] [] g P) : ∀ (d : Nat) (a : Nat) (g : ai_H) (f : Nat → Int32) (c3 : Option Value), N 0 < a + d → (a ≤ N 0) → (Fr 64 65 h g) → (g[64]? = some (cZ 196 f)) → (∀ x y, x < N 0 → y < N 0 → x < a → f (x * 14 + y) = if x = y then 1 else 0) → Rk X am_248 2 [some (.ref 52), some (.int bt), some (.int (nI a)), c3, x4, x5, x6] [] g (P) := by
  intro d
  induction d with
  | zero => intro a g f c3 hd ha F c64 I; exfalso; omega
  | succ d ih =>
    intro a g f c3 hd ha F c64 I
    obtain ⟨a0, a1, a268, a269, a270, a271, apl, apc, aot, asg, awt⟩ := id M
    have hn := hN.n
    have h6 := hN.t
    have e52 := (F.2 52 (by omega)).trans c0
    have e53 := (F.2 53 (by omega)).trans c1
    have F0 : Fr 64 65 h g := F
    refine rk_iload_n rfl rfl ?_
    refine rk_aload_n rfl rfl ?_
    refine rk_get rfl (by assumption) rfl ?_
    refine rk_iconst (v := nI 0) rfl (by decide) ?_
    refine rk_iald rfl (by assumption) (rfl) (by omega) (by decide) ?_
    rw [a0]
    refine rk_icmp_ge rfl rfl (fun hc7 => ?_) (fun hc7 => ?_)
    · replace hc7 := (nI_leI (by omega) (by omega)).mp hc7
      have ha2 : a = N 0 := by omega
      subst ha2
      exact z g f _ F c64 (fun x y hx hy _ => I x y hx hy hx)
    · replace hc7 := mt (nI_leI (by omega) (by omega)).mpr hc7
      refine rk_iconst (v := nI 0) rfl (by decide) ?_
      refine rk_istore_n rfl (Nat.le_of_ble_eq_true rfl) rfl ?_
      refine l248b (h := h) c0 c1 hN M (a := a) (by omega) (fun g2 f2 F2 c642 I2 => ?_) (N 0 + 1) 0 g f (by omega) (Nat.zero_le _) F c64 (fun x y hx hy q => I x y hx hy (by omega))
      refine rk_iinc rfl rfl (n_inc _) rfl ?_
      refine rk_goto rfl rfl ?_
      exact ih (a + 1) g2 f2 _ (by omega) (by omega) F2 c642 (fun x y hx hy q => I2 x y hx hy (by omega))
theorem l248d {X : ai_X} {h : ai_H} {v A : Nat → Int32} {N : Nat → Nat} {bt : Int32} (c0 : h[52]? = some (cMdl v)) (c1 : h[53]? = some (cI 2346 A)) (hN : HN N) (M : MH A N) {f0 : Nat → Int32} (H0 : MI N bt f0) {a : Nat} (ha : a < N 0) {x5 x6 : Option Value} {P : ai_O → Prop} (z : ∀ g f r, Fr 64 65 h g → g[64]? = some (cZ 196 f) → MI N bt f → GF N f0 f r → (∀ x y, x < N 0 → y < N 0 → (x < a ∨ (x = a ∧ y < N 0)) → ∀ t, t < N 1 → ¬ nI t = bt → f0 (pl N x t * 14 + pl N y t) = 1 → f (x * 14 + y) = 1) → Rk X am_248 85 [some (.ref 52), some (.int bt), some (.int r), some (.int (nI a)), some (.int (nI (N 0))), x5, x6] [] g P) : ∀ (d : Nat) (b : Nat) (g : ai_H) (f : Nat → Int32) (r : Int32), N 0 < b + d → (b ≤ N 0) → (Fr 64 65 h g) → (g[64]? = some (cZ 196 f)) → (MI N bt f) → (GF N f0 f r) → (∀ x y, x < N 0 → y < N 0 → (x < a ∨ (x = a ∧ y < b)) → ∀ t, t < N 1 → ¬ nI t = bt → f0 (pl N x t * 14 + pl N y t) = 1 → f (x * 14 + y) = 1) → Rk X am_248 50 [some (.ref 52), some (.int bt), some (.int r), some (.int (nI a)), some (.int (nI b)), x5, x6] [] g (P) := by
  intro d
  induction d with
  | zero => intro b g f r hd hb F c64 H G D; exfalso; omega
  | succ d ih =>
    intro b g f r hd hb F c64 H G D
    obtain ⟨a0, a1, a268, a269, a270, a271, apl, apc, aot, asg, awt⟩ := id M
    have hn := hN.n
    have h6 := hN.t
    have e52 := (F.2 52 (by omega)).trans c0
    have e53 := (F.2 53 (by omega)).trans c1
    have F0 : Fr 64 65 h g := F
    refine rk_iload rfl rfl ?_
    refine rk_aload_n rfl rfl ?_
    refine rk_get rfl (by assumption) rfl ?_
    refine rk_iconst (v := nI 0) rfl (by decide) ?_
    refine rk_iald rfl (by assumption) (rfl) (by omega) (by decide) ?_
    rw [a0]
    refine rk_icmp_ge rfl rfl (fun hc55 => ?_) (fun hc55 => ?_)
    · replace hc55 := (nI_leI (by omega) (by omega)).mp hc55
      have hb2 : b = N 0 := by omega
      subst hb2
      exact z g f r F c64 H G D
    · replace hc55 := mt (nI_leI (by omega) (by omega)).mpr hc55
      refine rk_aload_n rfl rfl ?_
      refine rk_get rfl (by assumption) rfl ?_
      refine rk_bipush (v := nI 14) rfl (by decide) ?_
      refine rk_iload_n rfl rfl ?_
      refine rk_imul rfl (pk_mul _ _) ?_
      refine rk_iload rfl rfl ?_
      refine rk_iadd rfl (nI_add _ _) ?_
      refine rk_zald rfl (by assumption) (rfl) (by omega) (by decide) ?_
      rw [show 14 * a + b = a * 14 + b by omega]
      refine rk_if_ne rfl rfl (fun hc64 => ?_) (fun hc64 => ?_)
      · have hone : f (a * 14 + b) = 1 := (H a b ha (by omega)).1.resolve_left hc64
        refine rk_iinc rfl rfl (n_inc _) rfl ?_
        refine rk_goto rfl rfl ?_
        first
          | (refine ih (b + 1) _ _ _ (by omega) (by omega) F c64 H G (fun x y hx hy q t y1 y2 y3 => ?_)
             by_cases q1 : x = a ∧ y = b
             · obtain ⟨rfl, rfl⟩ := q1
               first
                 | exact hone
                 | (have y4 := G.1 _ _ (hN.xpl hx y1) (hN.xpl hy y1) y3
                    rw [hmo t y1 y2] at y4
                    exact absurd y4 (by decide))
             · exact D x y hx hy (by omega) t y1 y2 y3)
          | (refine ih (b + 1) _ _ _ (by omega) (by omega) F0 c64 (fun x y hx hy => ?_) ⟨fun x y hx hy q => ?_, Or.inr ⟨rfl, a, b, ha, by omega, if_pos (by omega), ?_⟩⟩ (fun x y hx hy q t y1 y2 y3 => ?_)
             · simp only [upd]
               by_cases q : x * 14 + y = 14 * a + b
               · have q1 : x = a := by omega
                 have q2 : y = b := by omega
                 subst q1 q2
                 rw [if_pos q]
                 exact ⟨Or.inr nI_one, fun _ => hRB⟩
               · rw [if_neg q]
                 exact H x y hx hy
             · simp only [upd]
               by_cases q3 : x * 14 + y = 14 * a + b
               · rw [if_pos q3]; exact nI_one
               · rw [if_neg q3]; exact G.1 x y hx hy q
             · rcases (H0 a b ha (by omega)).1 with q | q
               · exact q
               · exact absurd (G.1 a b ha (by omega) q) (by rw [hzero]; decide)
             · simp only [upd]
               by_cases q3 : x * 14 + y = 14 * a + b
               · rw [if_pos q3]; exact nI_one
               · rw [if_neg q3]
                 exact D x y hx hy (by omega) t y1 y2 y3)
      · replace hc64 := Decidable.not_not.mp hc64
        have hzero : f (a * 14 + b) = 0 := hc64
        refine rk_aload_n rfl rfl ?_
        refine rk_iload_n rfl rfl ?_
        refine rk_iload rfl rfl ?_
        refine rk_iload_n rfl rfl ?_
        refine rk_cv3i rfl rfl (by assumption) rfl rfl (Nat.le_of_ble_eq_true rfl) (Nat.le_of_ble_eq_true rfl) (s247 e52 e53 hN M c64 ha (by omega)) (fun w h1 hF => ?_)
        obtain ⟨rfl, hmo⟩ := hF
        refine rk_if_ne rfl rfl (fun hc70 => ?_) (fun hc70 => ?_)
        · have hRB : RB N bt gM (a * 14 + b) := by
            rcases hmo with ⟨-, t, y1, y2, y3⟩ | ⟨y, -⟩
            · refine RB.s y1 y2 ?_
              rw [nxP_ab (by omega)]
              exact (H _ _ (hN.xpl ha y1) (hN.xpl (by omega) y1)).2 ((H _ _ (hN.xpl ha y1) (hN.xpl (by omega) y1)).1.resolve_left y3)
            · exact absurd (y.trans nI_0) hc70
          refine rk_aload_n rfl rfl ?_
          refine rk_get rfl (by assumption) rfl ?_
          refine rk_bipush (v := nI 14) rfl (by decide) ?_
          refine rk_iload_n rfl rfl ?_
          refine rk_imul rfl (pk_mul _ _) ?_
          refine rk_iload rfl rfl ?_
          refine rk_iadd rfl (nI_add _ _) ?_
          refine rk_iconst (v := nI 1) rfl (by decide) ?_
          refine rk_zast rfl c64 (rfl) (by omega) (by decide) ?_
          refine hp_gen c64 (fun h1 g1 hk1 hl1 => ?_)
          replace e52 := (hk1 _ (by omega)).trans e52
          replace e53 := (hk1 _ (by omega)).trans e53
          replace F0 := F0.tr (Fr.mk1 hk1 hl1 (by omega) (by omega))
          replace c64 := g1
          refine rk_iconst (v := nI 1) rfl (by decide) ?_
          refine rk_istore_n rfl (Nat.le_of_ble_eq_true rfl) rfl ?_
          refine rk_iinc rfl rfl (n_inc _) rfl ?_
          refine rk_goto rfl rfl ?_
          first
            | (refine ih (b + 1) _ _ _ (by omega) (by omega) F c64 H G (fun x y hx hy q t y1 y2 y3 => ?_)
               by_cases q1 : x = a ∧ y = b
               · obtain ⟨rfl, rfl⟩ := q1
                 first
                   | exact hone
                   | (have y4 := G.1 _ _ (hN.xpl hx y1) (hN.xpl hy y1) y3
                      rw [hmo t y1 y2] at y4
                      exact absurd y4 (by decide))
               · exact D x y hx hy (by omega) t y1 y2 y3)
            | (refine ih (b + 1) _ _ _ (by omega) (by omega) F0 c64 (fun x y hx hy => ?_) ⟨fun x y hx hy q => ?_, Or.inr ⟨rfl, a, b, ha, by omega, if_pos (by omega), ?_⟩⟩ (fun x y hx hy q t y1 y2 y3 => ?_)
               · simp only [upd]
                 by_cases q : x * 14 + y = 14 * a + b
                 · have q1 : x = a := by omega
                   have q2 : y = b := by omega
                   subst q1 q2
                   rw [if_pos q]
                   exact ⟨Or.inr nI_one, fun _ => hRB⟩
                 · rw [if_neg q]
                   exact H x y hx hy
               · simp only [upd]
                 by_cases q3 : x * 14 + y = 14 * a + b
                 · rw [if_pos q3]; exact nI_one
                 · rw [if_neg q3]; exact G.1 x y hx hy q
               · rcases (H0 a b ha (by omega)).1 with q | q
                 · exact q
                 · exact absurd (G.1 a b ha (by omega) q) (by rw [hzero]; decide)
               · simp only [upd]
                 by_cases q3 : x * 14 + y = 14 * a + b
                 · rw [if_pos q3]; exact nI_one
                 · rw [if_neg q3]
                   exact D x y hx hy (by omega) t y1 y2 y3)
        · replace hc70 := Decidable.not_not.mp hc70
          replace hmo : ∀ t, t < N 1 → ¬ nI t = bt → f (pl N a t * 14 + pl N b t) = 0 := by
            rcases hmo with ⟨y, -⟩ | ⟨-, y⟩
            · rw [y] at hc70; exact absurd hc70 (by decide)
            · exact y
          refine rk_goto rfl rfl ?_
          refine rk_iinc rfl rfl (n_inc _) rfl ?_
          refine rk_goto rfl rfl ?_
          first
            | (refine ih (b + 1) _ _ _ (by omega) (by omega) F c64 H G (fun x y hx hy q t y1 y2 y3 => ?_)
               by_cases q1 : x = a ∧ y = b
               · obtain ⟨rfl, rfl⟩ := q1
                 first
                   | exact hone
                   | (have y4 := G.1 _ _ (hN.xpl hx y1) (hN.xpl hy y1) y3
                      rw [hmo t y1 y2] at y4
                      exact absurd y4 (by decide))
               · exact D x y hx hy (by omega) t y1 y2 y3)
            | (refine ih (b + 1) _ _ _ (by omega) (by omega) F0 c64 (fun x y hx hy => ?_) ⟨fun x y hx hy q => ?_, Or.inr ⟨rfl, a, b, ha, by omega, if_pos (by omega), ?_⟩⟩ (fun x y hx hy q t y1 y2 y3 => ?_)
               · simp only [upd]
                 by_cases q : x * 14 + y = 14 * a + b
                 · have q1 : x = a := by omega
                   have q2 : y = b := by omega
                   subst q1 q2
                   rw [if_pos q]
                   exact ⟨Or.inr nI_one, fun _ => hRB⟩
                 · rw [if_neg q]
                   exact H x y hx hy
               · simp only [upd]
                 by_cases q3 : x * 14 + y = 14 * a + b
                 · rw [if_pos q3]; exact nI_one
                 · rw [if_neg q3]; exact G.1 x y hx hy q
               · rcases (H0 a b ha (by omega)).1 with q | q
                 · exact q
                 · exact absurd (G.1 a b ha (by omega) q) (by rw [hzero]; decide)
               · simp only [upd]
                 by_cases q3 : x * 14 + y = 14 * a + b
                 · rw [if_pos q3]; exact nI_one
                 · rw [if_neg q3]
                   exact D x y hx hy (by omega) t y1 y2 y3)
theorem l248c {X : ai_X} {h : ai_H} {v A : Nat → Int32} {N : Nat → Nat} {bt : Int32} (c0 : h[52]? = some (cMdl v)) (c1 : h[53]? = some (cI 2346 A)) (hN : HN N) (M : MH A N) {f0 : Nat → Int32} (H0 : MI N bt f0) {x5 x6 : Option Value} {P : ai_O → Prop} (z : ∀ g f r c3 c4, Fr 64 65 h g → g[64]? = some (cZ 196 f) → MI N bt f → GF N f0 f r → (∀ x y, x < N 0 → y < N 0 → (True) → ∀ t, t < N 1 → ¬ nI t = bt → f0 (pl N x t * 14 + pl N y t) = 1 → f (x * 14 + y) = 1) → Rk X am_248 87 [some (.ref 52), some (.int bt), some (.int r), c3, c4, x5, x6] [] g P) : ∀ (d : Nat) (a : Nat) (g : ai_H) (f : Nat → Int32) (r : Int32) (c4 : Option Value), N 0 < a + d → (a ≤ N 0) → (Fr 64 65 h g) → (g[64]? = some (cZ 196 f)) → (MI N bt f) → (GF N f0 f r) → (∀ x y, x < N 0 → y < N 0 → (x < a) → ∀ t, t < N 1 → ¬ nI t = bt → f0 (pl N x t * 14 + pl N y t) = 1 → f (x * 14 + y) = 1) → Rk X am_248 42 [some (.ref 52), some (.int bt), some (.int r), some (.int (nI a)), c4, x5, x6] [] g (P) := by
  intro d
  induction d with
  | zero => intro a g f r c4 hd ha F c64 H G D; exfalso; omega
  | succ d ih =>
    intro a g f r c4 hd ha F c64 H G D
    obtain ⟨a0, a1, a268, a269, a270, a271, apl, apc, aot, asg, awt⟩ := id M
    have hn := hN.n
    have h6 := hN.t
    have e52 := (F.2 52 (by omega)).trans c0
    have e53 := (F.2 53 (by omega)).trans c1
    have F0 : Fr 64 65 h g := F
    refine rk_iload_n rfl rfl ?_
    refine rk_aload_n rfl rfl ?_
    refine rk_get rfl (by assumption) rfl ?_
    refine rk_iconst (v := nI 0) rfl (by decide) ?_
    refine rk_iald rfl (by assumption) (rfl) (by omega) (by decide) ?_
    rw [a0]
    refine rk_icmp_ge rfl rfl (fun hc47 => ?_) (fun hc47 => ?_)
    · replace hc47 := (nI_leI (by omega) (by omega)).mp hc47
      have ha2 : a = N 0 := by omega
      subst ha2
      exact z g f r _ _ F c64 H G (fun x y hx hy _ => D x y hx hy hx)
    · replace hc47 := mt (nI_leI (by omega) (by omega)).mpr hc47
      refine rk_iconst (v := nI 0) rfl (by decide) ?_
      refine rk_istore rfl (Nat.le_of_ble_eq_true rfl) rfl ?_
      refine l248d (h := h) c0 c1 hN M H0 (a := a) (by omega) (fun g2 f2 r2 F2 c642 H2 G2 D2 => ?_) (N 0 + 1) 0 g f r (by omega) (Nat.zero_le _) F c64 H G (fun x y hx hy q => D x y hx hy (by omega))
      refine rk_iinc rfl rfl (n_inc _) rfl ?_
      refine rk_goto rfl rfl ?_
      exact ih (a + 1) g2 f2 r2 _ (by omega) (by omega) F2 c642 H2 G2 (fun x y hx hy q => D2 x y hx hy (by omega))
theorem MI.at {N : Nat → Nat} {bt : Int32} {f : Nat → Int32} (H : MI N bt f) {x : Nat} (hx : vP N x) : (f x = 0 ∨ f x = 1) ∧ (f x = 1 → RB N bt gM x) := by
  obtain ⟨v1, v2, v3⟩ := vP_of hx
  have := H _ _ v1 v2
  rwa [v3] at this
theorem l248B {X : ai_X} {h : ai_H} {v A : Nat → Int32} {N : Nat → Nat} {bt : Int32} (c0 : h[52]? = some (cMdl v)) (c1 : h[53]? = some (cI 2346 A)) (hN : HN N) (M : MH A N) {x5 x6 : Option Value} {P : ai_O → Prop} (z : ∀ g f (c2 : Int32) c3 c4, Fr 64 65 h g → g[64]? = some (cZ 196 f) → MI N bt f → (∀ x, vP N x → RB N bt gM x → f x = 1) → Rk X am_248 88 [some (.ref 52), some (.int bt), some (.int c2), c3, c4, x5, x6] [] g P) : ∀ (d : Nat) (i : Nat) (g : ai_H) (f : Nat → Int32) (r : Int32) (c3 c4 : Option Value), 197 < i + d → (i ≤ 197) → (i = 197 → r = nI 0) → (Fr 64 65 h g) → (g[64]? = some (cZ 196 f)) → (MI N bt f) → (DW N bt gM i (fun x => f x = 1)) → (r = nI 0 → ∀ x t, vP N x → t < N 1 → ¬ nI t = bt → f (nxP N x t) = 1 → f x = 1) → (∀ x, vP N x → gM x = true → f x = 1) → Rk X am_248 36 [some (.ref 52), some (.int bt), some (.int r), c3, c4, x5, x6] [] g (P) := by
  intro d
  induction d with
  | zero => intro i g f r c3 c4 hd hi hr0 F c64 H hw hr hg; exfalso; omega
  | succ d ih =>
    intro i g f r c3 c4 hd hi hr0 F c64 H hw hr hg
    obtain ⟨a0, a1, a268, a269, a270, a271, apl, apc, aot, asg, awt⟩ := id M
    have hn := hN.n
    have h6 := hN.t
    have e52 := (F.2 52 (by omega)).trans c0
    have e53 := (F.2 53 (by omega)).trans c1
    have F0 : Fr 64 65 h g := F
    refine rk_iload_n rfl rfl ?_
    refine rk_if_eq rfl rfl (fun hc37 => ?_) (fun hc37 => ?_)
    · have K : ∀ x, vP N x → RB N bt gM x → f x = 1 := fun x hx y => RB.min (W := (fun x => f x = 1)) hN hg (hr (hc37.trans nI_0.symm)) hx y
      exact z g f _ _ _ F c64 H K
    · have hi2 : i < 197 := by
        apply Decidable.byContradiction
        intro y
        exact hc37 ((hr0 (by omega)).trans nI_0)
      refine rk_iconst (v := nI 0) rfl (by decide) ?_
      refine rk_istore_n rfl (Nat.le_of_ble_eq_true rfl) rfl ?_
      refine rk_iconst (v := nI 0) rfl (by decide) ?_
      refine rk_istore_n rfl (Nat.le_of_ble_eq_true rfl) rfl ?_
      refine l248c (h := h) (f0 := f) c0 c1 hN M H (fun g2 f2 r2 c3 c4 F2 c642 H2 G2 D2 => ?_) (N 0 + 1) 0 g f _ _ (by omega) (Nat.zero_le _) F c64 H ⟨fun _ _ _ _ y => y, Or.inl ⟨rfl, rfl⟩⟩ (fun x y hx hy q => absurd q (by omega))
      refine rk_goto rfl rfl ?_
      have hgrow : ∀ x, vP N x → f x = 1 → f2 x = 1 := fun x hx y => by
        obtain ⟨v1, v2, v3⟩ := vP_of hx
        have := G2.1 _ _ v1 v2 (by rw [v3]; exact y)
        rwa [v3] at this
      have hrs : ∀ x t, vP N x → t < N 1 → ¬ nI t = bt → f (nxP N x t) = 1 → f2 x = 1 := fun x t hx ht hb y => by
        obtain ⟨v1, v2, v3⟩ := vP_of hx
        have e : nxP N x t = pl N (x / 14) t * 14 + pl N (x % 14) t := by
          have := nxP_ab (N := N) (a := x / 14) (b := x % 14) (t := t) (by omega)
          rwa [v3] at this
        rw [e] at y
        have := D2 _ _ v1 v2 trivial t ht hb y
        rwa [v3] at this
      refine ih (i + 1) g2 f2 r2 _ _ (by omega) (by omega) (fun y => ?_) F2 c642 H2 (DW.s (W := (fun x => f x = 1)) hN hw hgrow hrs) (fun y => ?_) (fun x hx y => hgrow x hx (hg x hx y))
      · rcases G2.2 with q | ⟨q, x, y', hx, hy, y1, y2⟩
        · exact q.1
        · have y3 := DW.all (W := (fun x => f x = 1)) hN hw (by omega) (vP_ab hN hx hy) ((H2 x y' hx hy).2 y1)
          have y4 : f (x * 14 + y') = 1 := y3
          rw [y2] at y4
          exact absurd y4 (by decide)
      · rcases G2.2 with ⟨-, q⟩ | ⟨q, -⟩
        · rw [q] at hrs ⊢
          exact hrs
        · rw [q] at y
          exact absurd y (by decide)
theorem l248f {X : ai_X} {h : ai_H} {v A : Nat → Int32} {N : Nat → Nat} {bt : Int32} (c0 : h[52]? = some (cMdl v)) (c1 : h[53]? = some (cI 2346 A)) (hN : HN N) (M : MH A N) {f : Nat → Int32} (c64 : h[64]? = some (cZ 196 f)) (H : MI N bt f) (K : ∀ x, vP N x → RB N bt gM x → f x = 1) {x2 : Int32} {x5 x6 : Option Value} {a : Nat} (ha : a < N 0) (z : (∀ x y, x < N 0 → y < N 0 → (x < a ∨ (x = a ∧ y < N 0)) → f (x * 14 + y) = 1) → Rk X am_248 117 [some (.ref 52), some (.int bt), some (.int x2), some (.int (nI a)), some (.int (nI (N 0))), x5, x6] [] h (Qi (fun w h1 => w = bI (hm1 N bt = true) ∧ h1 = h))) : ∀ (d : Nat) (b : Nat), N 0 < b + d → (b ≤ N 0) → (∀ x y, x < N 0 → y < N 0 → (x < a ∨ (x = a ∧ y < b)) → f (x * 14 + y) = 1) → Rk X am_248 98 [some (.ref 52), some (.int bt), some (.int x2), some (.int (nI a)), some (.int (nI b)), x5, x6] [] h (Qi (fun w h1 => w = bI (hm1 N bt = true) ∧ h1 = h)) := by
  intro d
  induction d with
  | zero => intro b hd hb D; exfalso; omega
  | succ d ih =>
    intro b hd hb D
    obtain ⟨a0, a1, a268, a269, a270, a271, apl, apc, aot, asg, awt⟩ := id M
    have hn := hN.n
    refine rk_iload rfl rfl ?_
    refine rk_aload_n rfl rfl ?_
    refine rk_get rfl (by assumption) rfl ?_
    refine rk_iconst (v := nI 0) rfl (by decide) ?_
    refine rk_iald rfl (by assumption) (rfl) (by omega) (by decide) ?_
    rw [a0]
    refine rk_icmp_ge rfl rfl (fun hc103 => ?_) (fun hc103 => ?_)
    · replace hc103 := (nI_leI (by omega) (by omega)).mp hc103
      have hb2 : b = N 0 := by omega
      subst hb2
      exact z D
    · replace hc103 := mt (nI_leI (by omega) (by omega)).mpr hc103
      refine rk_aload_n rfl rfl ?_
      refine rk_get rfl (by assumption) rfl ?_
      refine rk_bipush (v := nI 14) rfl (by decide) ?_
      refine rk_iload_n rfl rfl ?_
      refine rk_imul rfl (pk_mul _ _) ?_
      refine rk_iload rfl rfl ?_
      refine rk_iadd rfl (nI_add _ _) ?_
      refine rk_zald rfl (by assumption) (rfl) (by omega) (by decide) ?_
      rw [show 14 * a + b = a * 14 + b by omega]
      refine rk_if_ne rfl rfl (fun hc112 => ?_) (fun hc112 => ?_)
      · refine rk_iinc rfl rfl (n_inc _) rfl ?_
        refine rk_goto rfl rfl ?_
        refine ih (b + 1) (by omega) (by omega) (fun x y hx hy q => ?_)
        by_cases q1 : x = a ∧ y = b
        · obtain ⟨rfl, rfl⟩ := q1
          exact (H x y hx hy).1.resolve_left hc112
        · exact D x y hx hy (by omega)
      · replace hc112 := Decidable.not_not.mp hc112
        refine rk_iconst (v := nI 0) rfl (by decide) ?_
        refine rk_ireturn rfl rfl ⟨_, _, rfl, ?_, rfl⟩
        rw [bI_f]
        · exact nI_0
        intro y
        have yy := ((home_iff hN).mp ((hm1_iff hN).mp y)).1 a b ha (by omega)
        have y2 := K _ (vP_ab hN ha (by omega)) yy
        rw [hc112] at y2
        exact absurd y2 (by decide)
theorem l248e {X : ai_X} {h : ai_H} {v A : Nat → Int32} {N : Nat → Nat} {bt : Int32} (c0 : h[52]? = some (cMdl v)) (c1 : h[53]? = some (cI 2346 A)) (hN : HN N) (M : MH A N) {f : Nat → Int32} (c64 : h[64]? = some (cZ 196 f)) (H : MI N bt f) (K : ∀ x, vP N x → RB N bt gM x → f x = 1) {x2 : Int32} {x5 x6 : Option Value} (z : ∀ c3 c4, (∀ x y, x < N 0 → y < N 0 → (True) → f (x * 14 + y) = 1) → Rk X am_248 119 [some (.ref 52), some (.int bt), some (.int x2), c3, c4, x5, x6] [] h (Qi (fun w h1 => w = bI (hm1 N bt = true) ∧ h1 = h))) : ∀ (d : Nat) (a : Nat) (c4 : Option Value), N 0 < a + d → (a ≤ N 0) → (∀ x y, x < N 0 → y < N 0 → (x < a) → f (x * 14 + y) = 1) → Rk X am_248 90 [some (.ref 52), some (.int bt), some (.int x2), some (.int (nI a)), c4, x5, x6] [] h (Qi (fun w h1 => w = bI (hm1 N bt = true) ∧ h1 = h)) := by
  intro d
  induction d with
  | zero => intro a c4 hd ha D; exfalso; omega
  | succ d ih =>
    intro a c4 hd ha D
    obtain ⟨a0, a1, a268, a269, a270, a271, apl, apc, aot, asg, awt⟩ := id M
    have hn := hN.n
    refine rk_iload_n rfl rfl ?_
    refine rk_aload_n rfl rfl ?_
    refine rk_get rfl (by assumption) rfl ?_
    refine rk_iconst (v := nI 0) rfl (by decide) ?_
    refine rk_iald rfl (by assumption) (rfl) (by omega) (by decide) ?_
    rw [a0]
    refine rk_icmp_ge rfl rfl (fun hc95 => ?_) (fun hc95 => ?_)
    · replace hc95 := (nI_leI (by omega) (by omega)).mp hc95
      have ha2 : a = N 0 := by omega
      subst ha2
      exact z _ _ (fun x y hx hy _ => D x y hx hy hx)
    · replace hc95 := mt (nI_leI (by omega) (by omega)).mpr hc95
      refine rk_iconst (v := nI 0) rfl (by decide) ?_
      refine rk_istore rfl (Nat.le_of_ble_eq_true rfl) rfl ?_
      refine l248f c0 c1 hN M c64 H K (a := a) (by omega) (fun D2 => ?_) (N 0 + 1) 0 (by omega) (Nat.zero_le _) (fun x y hx hy q => D x y hx hy (by omega))
      refine rk_iinc rfl rfl (n_inc _) rfl ?_
      refine rk_goto rfl rfl ?_
      exact ih (a + 1) _ (by omega) (by omega) (fun x y hx hy q => D2 x y hx hy (by omega))
/-- rooms from which the pantry is reached, as far as is known; all that lead into H0 by what is done so far -/
def HH (N : Nat → Nat) (bt : Int32) (H : Nat) : Prop := ∀ r, H / 2 ^ r % 2 = 1 → r < N 0 ∧ RB N bt (gH N) (r * 14 + r)
theorem HH.up {N : Nat → Nat} {bt : Int32} {H r : Nat} (h : HH N bt H) (hr : r < N 0) (hb : RB N bt (gH N) (r * 14 + r)) : HH N bt (H ||| 2 ^ r) := fun j hj => by
  rcases bt_or.mp hj with y | y
  · exact h j y
  · rw [bt_pow] at y
    subst y
    exact ⟨hr, hb⟩
theorem l248h {X : ai_X} {h : ai_H} {v A : Nat → Int32} {N : Nat → Nat} {bt : Int32} (c0 : h[52]? = some (cMdl v)) (c1 : h[53]? = some (cI 2346 A)) (hN : HN N) (M : MH A N) {W : Nat} (hW : HH N bt W) {x2 : Int32} {r : Nat} (hr : r < N 0) {P : ai_O → Prop} (z : ∀ H, HH N bt H → sub W H → (∀ r' t', r' < N 0 → t' < N 1 → (r' < r ∨ (r' = r ∧ t' < N 1)) → ¬ nI t' = bt → W / 2 ^ pl N r' t' % 2 = 1 → H / 2 ^ r' % 2 = 1) → Rk X am_248 172 [some (.ref 52), some (.int bt), some (.int x2), some (.int (nI H)), some (.int (nI W)), some (.int (nI r)), some (.int (nI (N 1)))] [] h P) : ∀ (d : Nat) (t H : Nat), N 1 < t + d → (t ≤ N 1) → (HH N bt H) → (sub W H) → (∀ r' t', r' < N 0 → t' < N 1 → (r' < r ∨ (r' = r ∧ t' < t)) → ¬ nI t' = bt → W / 2 ^ pl N r' t' % 2 = 1 → H / 2 ^ r' % 2 = 1) → Rk X am_248 143 [some (.ref 52), some (.int bt), some (.int x2), some (.int (nI H)), some (.int (nI W)), some (.int (nI r)), some (.int (nI t))] [] h (P) := by
  intro d
  induction d with
  | zero => intro t H hd ht hh hs D; exfalso; omega
  | succ d ih =>
    intro t H hd ht hh hs D
    obtain ⟨a0, a1, a268, a269, a270, a271, apl, apc, aot, asg, awt⟩ := id M
    have hn := hN.n
    have h6 := hN.t
    have hp14 := hN.p14
    have hW14 : W < 2 ^ N 0 := bs_lt fun k hk => (hW k hk).1
    have hpr : t < N 1 → pl N r t < N 0 := fun y => hN.xpl hr y
    refine rk_iload rfl rfl ?_
    refine rk_aload_n rfl rfl ?_
    refine rk_get rfl (by assumption) rfl ?_
    refine rk_iconst (v := nI 1) rfl (by decide) ?_
    refine rk_iald rfl (by assumption) (rfl) (by omega) (by decide) ?_
    rw [a1]
    refine rk_icmp_ge rfl rfl (fun hc148 => ?_) (fun hc148 => ?_)
    · replace hc148 := (nI_leI (by omega) (by omega)).mp hc148
      have ht2 : t = N 1 := by omega
      subst ht2
      exact z H hh hs D
    · replace hc148 := mt (nI_leI (by omega) (by omega)).mpr hc148
      refine rk_iload_n rfl rfl ?_
      refine rk_iload rfl rfl ?_
      refine rk_iload_n rfl rfl ?_
      refine rk_icmp_eq rfl rfl (fun hc152 => ?_) (fun hc152 => ?_)
      · refine rk_iconst (v := nI 0) rfl (by decide) ?_
        refine rk_ior rfl (b_orU _ _) ?_
        refine rk_istore_n rfl (Nat.le_of_ble_eq_true rfl) rfl ?_
        refine rk_iinc rfl rfl (n_inc _) rfl ?_
        refine rk_goto rfl rfl ?_
        first
          | (rw [Nat.or_zero]
             refine ih (t + 1) H (by omega) (by omega) hh hs (fun r' t' y1 y2 y3 y4 y5 => ?_)
             by_cases q : r' = r ∧ t' = t
             · obtain ⟨rfl, rfl⟩ := q
               first
                 | exact absurd hc152 y4
                 | exact absurd y5 hc162
             · exact D r' t' y1 y2 (by omega) y4 y5)
          | (refine ih (t + 1) _ (by omega) (by omega) (hh.up hr hRB) (hs.tr (sub.l _ _)) (fun r' t' y1 y2 y3 y4 y5 => ?_)
             by_cases q : r' = r ∧ t' = t
             · exact bt_or.mpr (Or.inr (bt_pow.mpr q.1.symm))
             · exact bt_or.mpr (Or.inl (D r' t' y1 y2 (by omega) y4 y5)))
      · refine rk_iload rfl rfl ?_
        refine rk_aload_n rfl rfl ?_
        refine rk_iload rfl rfl ?_
        refine rk_iload rfl rfl ?_
        refine rk_cv2e rfl rfl (by assumption) rfl rfl (Nat.le_of_ble_eq_true rfl) (Nat.le_of_ble_eq_true rfl) (s210N c0 c1 M hN hr (by omega)) ?_
        replace hpr := hpr (by omega)
        refine rk_ishr rfl (b_shr (by omega) (by omega)) ?_
        refine rk_iconst (v := nI 1) rfl (by decide) ?_
        refine rk_iand rfl (b_and1U _) ?_
        refine rk_iconst (v := nI 1) rfl (by decide) ?_
        refine rk_icmp_ne rfl rfl (fun hc162 => ?_) (fun hc162 => ?_)
        · replace hc162 := mt (nI_eq (by omega) (by omega)).mpr hc162
          refine rk_iconst (v := nI 0) rfl (by decide) ?_
          refine rk_ior rfl (b_orU _ _) ?_
          refine rk_istore_n rfl (Nat.le_of_ble_eq_true rfl) rfl ?_
          refine rk_iinc rfl rfl (n_inc _) rfl ?_
          refine rk_goto rfl rfl ?_
          first
            | (rw [Nat.or_zero]
               refine ih (t + 1) H (by omega) (by omega) hh hs (fun r' t' y1 y2 y3 y4 y5 => ?_)
               by_cases q : r' = r ∧ t' = t
               · obtain ⟨rfl, rfl⟩ := q
                 first
                   | exact absurd hc152 y4
                   | exact absurd y5 hc162
               · exact D r' t' y1 y2 (by omega) y4 y5)
            | (refine ih (t + 1) _ (by omega) (by omega) (hh.up hr hRB) (hs.tr (sub.l _ _)) (fun r' t' y1 y2 y3 y4 y5 => ?_)
               by_cases q : r' = r ∧ t' = t
               · exact bt_or.mpr (Or.inr (bt_pow.mpr q.1.symm))
               · exact bt_or.mpr (Or.inl (D r' t' y1 y2 (by omega) y4 y5)))
        · replace hc162 := Decidable.not_not.mp hc162
          replace hc162 := (nI_eq (by omega) (by omega)).mp hc162
          have hRB : RB N bt (gH N) (r * 14 + r) := by
            refine RB.s (t := t) (by omega) hc152 ?_
            rw [nxP_ab (by omega)]
            exact (hW _ hc162).2
          refine rk_iconst (v := nI 1) rfl (by decide) ?_
          refine rk_iload rfl rfl ?_
          refine rk_ishl rfl (b_1shlU (by omega)) ?_
          refine rk_goto rfl rfl ?_
          refine rk_ior rfl (b_orU _ _) ?_
          refine rk_istore_n rfl (Nat.le_of_ble_eq_true rfl) rfl ?_
          refine rk_iinc rfl rfl (n_inc _) rfl ?_
          refine rk_goto rfl rfl ?_
          first
            | (rw [Nat.or_zero]
               refine ih (t + 1) H (by omega) (by omega) hh hs (fun r' t' y1 y2 y3 y4 y5 => ?_)
               by_cases q : r' = r ∧ t' = t
               · obtain ⟨rfl, rfl⟩ := q
                 first
                   | exact absurd hc152 y4
                   | exact absurd y5 hc162
               · exact D r' t' y1 y2 (by omega) y4 y5)
            | (refine ih (t + 1) _ (by omega) (by omega) (hh.up hr hRB) (hs.tr (sub.l _ _)) (fun r' t' y1 y2 y3 y4 y5 => ?_)
               by_cases q : r' = r ∧ t' = t
               · exact bt_or.mpr (Or.inr (bt_pow.mpr q.1.symm))
               · exact bt_or.mpr (Or.inl (D r' t' y1 y2 (by omega) y4 y5)))
theorem l248g {X : ai_X} {h : ai_H} {v A : Nat → Int32} {N : Nat → Nat} {bt : Int32} (c0 : h[52]? = some (cMdl v)) (c1 : h[53]? = some (cI 2346 A)) (hN : HN N) (M : MH A N) {W : Nat} (hW : HH N bt W) {x2 : Int32} {P : ai_O → Prop} (z : ∀ H c5 c6, HH N bt H → sub W H → (∀ r' t', r' < N 0 → t' < N 1 → (True) → ¬ nI t' = bt → W / 2 ^ pl N r' t' % 2 = 1 → H / 2 ^ r' % 2 = 1) → Rk X am_248 174 [some (.ref 52), some (.int bt), some (.int x2), some (.int (nI H)), some (.int (nI W)), c5, c6] [] h P) : ∀ (d : Nat) (r H : Nat) (c6 : Option Value), N 0 < r + d → (r ≤ N 0) → (HH N bt H) → (sub W H) → (∀ r' t', r' < N 0 → t' < N 1 → (r' < r) → ¬ nI t' = bt → W / 2 ^ pl N r' t' % 2 = 1 → H / 2 ^ r' % 2 = 1) → Rk X am_248 135 [some (.ref 52), some (.int bt), some (.int x2), some (.int (nI H)), some (.int (nI W)), some (.int (nI r)), c6] [] h (P) := by
  intro d
  induction d with
  | zero => intro r H c6 hd hr hh hs D; exfalso; omega
  | succ d ih =>
    intro r H c6 hd hr hh hs D
    obtain ⟨a0, a1, a268, a269, a270, a271, apl, apc, aot, asg, awt⟩ := id M
    have hn := hN.n
    refine rk_iload rfl rfl ?_
    refine rk_aload_n rfl rfl ?_
    refine rk_get rfl (by assumption) rfl ?_
    refine rk_iconst (v := nI 0) rfl (by decide) ?_
    refine rk_iald rfl (by assumption) (rfl) (by omega) (by decide) ?_
    rw [a0]
    refine rk_icmp_ge rfl rfl (fun hc140 => ?_) (fun hc140 => ?_)
    · replace hc140 := (nI_leI (by omega) (by omega)).mp hc140
      have hr2 : r = N 0 := by omega
      subst hr2
      exact z H _ _ hh hs (fun r' t' y1 y2 _ => D r' t' y1 y2 y1)
    · replace hc140 := mt (nI_leI (by omega) (by omega)).mpr hc140
      refine rk_iconst (v := nI 0) rfl (by decide) ?_
      refine rk_istore rfl (Nat.le_of_ble_eq_true rfl) rfl ?_
      refine l248h c0 c1 hN M hW (r := r) (by omega) (fun H2 hh2 hs2 D2 => ?_) (N 1 + 1) 0 H (by omega) (Nat.zero_le _) hh hs (fun r' t' y1 y2 y3 => D r' t' y1 y2 (by omega))
      refine rk_iinc rfl rfl (n_inc _) rfl ?_
      refine rk_goto rfl rfl ?_
      exact ih (r + 1) H2 _ (by omega) (by omega) hh2 hs2 (fun r' t' y1 y2 y3 => D2 r' t' y1 y2 (by omega))
theorem l248D {X : ai_X} {h : ai_H} {v A : Nat → Int32} {N : Nat → Nat} {bt : Int32} (c0 : h[52]? = some (cMdl v)) (c1 : h[53]? = some (cI 2346 A)) (hN : HN N) (M : MH A N) (hall : ∀ a b, a < N 0 → b < N 0 → RB N bt gM (a * 14 + b)) {x2 : Int32} : ∀ (d : Nat) (W H : Nat) (c5 c6 : Option Value), 14 < pop W 14 + d → (pop W 14 ≤ 14) → (HH N bt W) → (HH N bt H) → (sub W H) → (∀ r' t', r' < N 0 → t' < N 1 → (True) → ¬ nI t' = bt → W / 2 ^ pl N r' t' % 2 = 1 → H / 2 ^ r' % 2 = 1) → (H / 2 ^ N 270 % 2 = 1) → Rk X am_248 128 [some (.ref 52), some (.int bt), some (.int x2), some (.int (nI H)), some (.int (nI W)), c5, c6] [] h (Qi (fun w h1 => w = bI (hm1 N bt = true) ∧ h1 = h)) := by
  intro d
  induction d with
  | zero => intro W H c5 c6 hd hpW hW hh hs D hp; exfalso; omega
  | succ d ih =>
    intro W H c5 c6 hd hpW hW hh hs D hp
    obtain ⟨a0, a1, a268, a269, a270, a271, apl, apc, aot, asg, awt⟩ := id M
    have hn := hN.n
    have hp14 := hN.p14
    have h2p := Nat.two_pow_pos (N 0)
    have hW14 : W < 2 ^ N 0 := bs_lt fun k hk => (hW k hk).1
    have hH14 : H < 2 ^ N 0 := bs_lt fun k hk => (hh k hk).1
    have hpH := pop_le H 14
    refine rk_iload rfl rfl ?_
    refine rk_iload_n rfl rfl ?_
    refine rk_icmp_eq rfl rfl (fun hc130 => ?_) (fun hc130 => ?_)
    · replace hc130 := (nI_eq (by omega) (by omega)).mp hc130
      refine rk_iload_n rfl rfl ?_
      refine rk_iconst (v := nI 1) rfl (by decide) ?_
      refine rk_aload_n rfl rfl ?_
      refine rk_get rfl (by assumption) rfl ?_
      refine rk_iconst (v := nI 0) rfl (by decide) ?_
      refine rk_iald rfl (by assumption) (rfl) (by omega) (by decide) ?_
      rw [a0]
      refine rk_ishl rfl (b_1shlU (by omega)) ?_
      refine rk_iconst (v := nI 1) rfl (by decide) ?_
      refine rk_isub rfl (pk_sub (by omega)) ?_
      refine rk_icmp_ne rfl rfl (fun hc184 => ?_) (fun hc184 => ?_)
      · replace hc184 := mt (nI_eq (by omega) (by omega)).mpr hc184
        refine rk_iconst (v := nI 0) rfl (by decide) ?_
        have hcl : ∀ r, r < N 0 → RB N bt (gH N) (r * 14 + r) → H / 2 ^ r % 2 = 1 := fun r hr y => by
          have := RB.min (W := fun x => x / 14 = x % 14 → H / 2 ^ (x / 14) % 2 = 1) hN (fun x hx y2 _ => ?_) (fun x t hx ht hb y2 y3 => ?_) (vP_ab hN hr hr) y (by omega)
          · rw [show (r * 14 + r) / 14 = r by omega] at this
            exact this
          · have q := of_decide_eq_true y2
            have hpn := hN.pan
            rw [show x / 14 = N 270 by omega]
            exact hp
          · obtain ⟨v1, v2, v3⟩ := vP_of hx
            have p1 := hN.xpl v1 ht
            have en : nxP N x t = pl N (x / 14) t * 14 + pl N (x % 14) t := by
              have := nxP_ab (N := N) (a := x / 14) (b := x % 14) (t := t) (by omega)
              rwa [v3] at this
            rw [en, ← y3] at y2
            have q := y2 (by omega)
            rw [show (pl N (x / 14) t * 14 + pl N (x / 14) t) / 14 = pl N (x / 14) t by omega, ← hc130] at q
            exact D _ _ v1 ht trivial hb q
        refine rk_ireturn rfl rfl ⟨_, _, rfl, ?_, rfl⟩
        first
          | (rw [bI_t]
             · exact nI_one
             refine (hm1_iff hN).mpr ((home_iff hN).mpr ⟨hall, fun r hr => (hh r ?_).2⟩)
             rw [hc184]
             exact bt_ones.mpr hr)
          | (rw [bI_f]
             · exact nI_0
             intro y
             apply hc184
             have yy := ((home_iff hN).mp ((hm1_iff hN).mp y)).2
             refine bs_ext fun j => ?_
             rw [bt_ones]
             exact ⟨fun q => (hh j q).1, fun q => hcl j q (yy j q)⟩)
      · replace hc184 := Decidable.not_not.mp hc184
        replace hc184 := (nI_eq (by omega) (by omega)).mp hc184
        refine rk_iconst (v := nI 1) rfl (by decide) ?_
        refine rk_goto rfl rfl ?_
        have hcl : ∀ r, r < N 0 → RB N bt (gH N) (r * 14 + r) → H / 2 ^ r % 2 = 1 := fun r hr y => by
          have := RB.min (W := fun x => x / 14 = x % 14 → H / 2 ^ (x / 14) % 2 = 1) hN (fun x hx y2 _ => ?_) (fun x t hx ht hb y2 y3 => ?_) (vP_ab hN hr hr) y (by omega)
          · rw [show (r * 14 + r) / 14 = r by omega] at this
            exact this
          · have q := of_decide_eq_true y2
            have hpn := hN.pan
            rw [show x / 14 = N 270 by omega]
            exact hp
          · obtain ⟨v1, v2, v3⟩ := vP_of hx
            have p1 := hN.xpl v1 ht
            have en : nxP N x t = pl N (x / 14) t * 14 + pl N (x % 14) t := by
              have := nxP_ab (N := N) (a := x / 14) (b := x % 14) (t := t) (by omega)
              rwa [v3] at this
            rw [en, ← y3] at y2
            have q := y2 (by omega)
            rw [show (pl N (x / 14) t * 14 + pl N (x / 14) t) / 14 = pl N (x / 14) t by omega, ← hc130] at q
            exact D _ _ v1 ht trivial hb q
        refine rk_ireturn rfl rfl ⟨_, _, rfl, ?_, rfl⟩
        first
          | (rw [bI_t]
             · exact nI_one
             refine (hm1_iff hN).mpr ((home_iff hN).mpr ⟨hall, fun r hr => (hh r ?_).2⟩)
             rw [hc184]
             exact bt_ones.mpr hr)
          | (rw [bI_f]
             · exact nI_0
             intro y
             apply hc184
             have yy := ((home_iff hN).mp ((hm1_iff hN).mp y)).2
             refine bs_ext fun j => ?_
             rw [bt_ones]
             exact ⟨fun q => (hh j q).1, fun q => hcl j q (yy j q)⟩)
    · replace hc130 := mt (nI_eq (by omega) (by omega)).mpr hc130
      refine rk_iload_n rfl rfl ?_
      refine rk_istore rfl (Nat.le_of_ble_eq_true rfl) rfl ?_
      refine rk_iconst (v := nI 0) rfl (by decide) ?_
      refine rk_istore rfl (Nat.le_of_ble_eq_true rfl) rfl ?_
      refine l248g (W := H) c0 c1 hN M hh (fun H2 c5 c6 hh2 hs2 D2 => ?_) (N 0 + 1) 0 H _ (by omega) (Nat.zero_le _) hh (sub.refl' _) (fun r' t' y1 y2 y3 => absurd y3 (by omega))
      refine rk_goto rfl rfl ?_
      have hlt : pop W 14 < pop H 14 := pop_lt hs (by omega) hc130
      exact ih H H2 _ _ (by omega) hpH hh hh2 hs2 D2 (hs2 _ hp)
theorem s248 {X : ai_X} {h : ai_H} {v A : Nat → Int32} {N : Nat → Nat} {bt : Int32} (c0 : h[52]? = some (cMdl v)) (c1 : h[53]? = some (cI 2346 A)) (hN : HN N) (M : MH A N) (h0 : ¬ N 0 = 0) (S64 : ShZ h 64 196) : Mt X am_248 [.ref 52, .int bt] h (Qi (fun w h1 => w = bI (hm1 N bt = true) ∧ Fr 64 65 h h1)) := by
  obtain ⟨f64, c64⟩ := S64
  have hn := hN.n
  have hpn := hN.pan
  have hpl : N 270 < N 0 := by have := hN.2.2.1; omega
  refine rk_iconst (v := nI 0) rfl (by decide) ?_
  refine rk_istore_n rfl (Nat.le_of_ble_eq_true rfl) rfl ?_
  refine l248a c0 c1 hN M (fun g f c3 F d64 I => ?_) (N 0 + 1) 0 h f64 _ (by omega) (Nat.zero_le _) Fr.rfl' c64 (fun x y hx hy q => absurd q (by omega))
  refine rk_iconst (v := nI 1) rfl (by decide) ?_
  refine rk_istore_n rfl (Nat.le_of_ble_eq_true rfl) rfl ?_
  have I' : ∀ x, vP N x → f x = if x / 14 = x % 14 then 1 else 0 := fun x hx => by
    obtain ⟨v1, v2, v3⟩ := vP_of hx
    have := I _ _ v1 v2 trivial
    rwa [v3] at this
  have hg : ∀ x, vP N x → gM x = true → f x = 1 := fun x hx y => by rw [I' x hx, if_pos (of_decide_eq_true y)]
  have H : MI N bt f := fun a b ha hb => by
    rw [I a b ha hb trivial]
    by_cases y : a = b
    · rw [if_pos y]
      refine ⟨Or.inr rfl, fun _ => RB.z (decide_eq_true ?_)⟩
      omega
    · rw [if_neg y]
      exact ⟨Or.inl rfl, fun q => absurd q (by decide)⟩
  refine l248B (h := h) c0 c1 hN M (fun g2 f2 c2 c3 c4 F2 d642 H2 K2 => ?_) 198 0 g f _ _ _ (by omega) (by omega) (fun y => absurd y (by omega)) F d64 H (DW.z hg) (fun y => absurd y (by decide)) hg
  have e52 := (F2.2 52 (by omega)).trans c0
  have e53 := (F2.2 53 (by omega)).trans c1
  refine Rk.mono ?_ (?_ : Rk X am_248 88 _ [] g2 (Qi (fun w h1 => w = bI (hm1 N bt = true) ∧ h1 = g2)))
  · rintro o ⟨w, h2, rfl, q, rfl⟩
    exact ⟨_, _, rfl, q, F2⟩
  refine rk_iconst (v := nI 0) rfl (by decide) ?_
  refine rk_istore_n rfl (Nat.le_of_ble_eq_true rfl) rfl ?_
  refine l248e e52 e53 hN M d642 H2 K2 (fun c3 c4 D => ?_) (N 0 + 1) 0 _ (by omega) (Nat.zero_le _) (fun x y hx hy q => absurd q (by omega))
  have hall : ∀ a b, a < N 0 → b < N 0 → RB N bt gM (a * 14 + b) := fun a b ha hb => (H2 a b ha hb).2 (D a b ha hb trivial)
  obtain ⟨a0, a1, a268, a269, a270, a271, apl, apc, aot, asg, awt⟩ := id M
  refine rk_iconst (v := nI 1) rfl (by decide) ?_
  refine rk_aload_n rfl rfl ?_
  refine rk_get rfl (by assumption) rfl ?_
  refine rk_sipush (v := nI 270) rfl (by decide) ?_
  refine rk_iald rfl (by assumption) (rfl) (by omega) (by decide) ?_
  rw [a270]
  refine rk_ishl rfl (b_1shlU (by omega)) ?_
  refine rk_istore_n rfl (Nat.le_of_ble_eq_true rfl) rfl ?_
  refine rk_iconst (v := nI 0) rfl (by decide) ?_
  refine rk_istore rfl (Nat.le_of_ble_eq_true rfl) rfl ?_
  refine l248D e52 e53 hN M hall 15 0 (2 ^ N 270) _ _ (by omega) (pop_le _ _) (fun r y => absurd y (bt_zero r)) (fun r y => ?_) (fun r y => absurd y (bt_zero r)) (fun r' t' y1 y2 _ y4 y5 => absurd y5 (bt_zero _)) (bt_pow.mpr rfl)
  rw [bt_pow] at y
  subst y
  exact ⟨hpl, RB.z (decide_eq_true rfl)⟩
