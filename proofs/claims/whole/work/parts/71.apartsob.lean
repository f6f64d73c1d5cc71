/-! APARTS: the model, the obligation -/
def FA7 (h g : ai_H) : Prop := g.length = h.length ∧ ∀ q : Nat, q ≠ 53 → ¬ (71 ≤ q ∧ q < 73) → g[q]? = h[q]?
theorem l272t {X : ai_X} {h : ai_H} {v A : Nat → Int32} {N : Nat → Nat} {a b L : Nat} {f1 : Nat → Int64} {f2 : Nat → Int32} (c0 : h[52]? = some (cMdl v)) (c72 : h[72]? = some (cZ 8036 f2)) (hN : HN N) (M : MH A N) (HP : AP N f1 f2 (L + 1) 0 0) (hL : L ≤ 40) (ha : a < N 0) (hb : b < N 0) (hp : 0 < wA N L (a * 14 + b)) {x1 x2 : Nat} {i : Nat} (hi : i < L) {g : ai_H} {A1 : Nat → Int32} (F : Fr 53 54 h g) (c53 : g[53]? = some (cI 2346 A1)) (hA : ∀ q, ¬ (281 ≤ q ∧ q < 782) → A1 q = A q) {P : ai_O → Prop} (z : Rk X am_272 99 [some (.ref 52), some (.int (nI x1)), some (.int (nI x2)), some (.int (nI L)), some (.int (nI (prA N L a b i).1)), some (.int (nI (prA N L a b i).2)), some (.int (nI (L - i))), some (.int (nI (gxA N L a b i)))] [] g P) : ∀ (d : Nat) (t : Nat), gxA N L a b i < t + d → (t ≤ gxA N L a b i) → Rk X am_272 67 [some (.ref 52), some (.int (nI x1)), some (.int (nI x2)), some (.int (nI L)), some (.int (nI (prA N L a b i).1)), some (.int (nI (prA N L a b i).2)), some (.int (nI (L - i))), some (.int (nI t))] [] g (P) := by
  intro d
  induction d with
  | zero => intro t hd ht; exfalso; omega
  | succ d ih =>
    intro t hd ht
    have e52 := (F.2 52 (by omega)).trans c0
    have e72 := (F.2 72 (by omega)).trans c72
    have M1 : MH A1 N := M.up hN (fun q _ => hA q (by omega))
    obtain ⟨a0, a1, a268, a269, a270, a271, apl, apc, aot, asg, awt⟩ := id M1
    have hn := hN.n
    have h6 := hN.t
    obtain ⟨p1, p2, p3⟩ := pr_ok hN ha hb hp i (by omega)
    have hgx := gx_ok (i := i) hN ha hb hp hi
    have ht1 : t < N 1 := by have := hgx.1; omega
    have hpr := hN.xpl p1 ht1
    have hps := hN.xpl p2 ht1
    obtain ⟨-, q2⟩ := HP (L - i - 1) (pl N (prA N L a b i).1 t) (pl N (prA N L a b i).2 t) hpr hps (Or.inl (by omega))
    refine rk_aload_n rfl rfl ?_
    refine rk_iload rfl rfl ?_
    refine rk_iload rfl rfl ?_
    refine rk_cv2e rfl rfl (by assumption) rfl rfl (Nat.le_of_ble_eq_true rfl) (Nat.le_of_ble_eq_true rfl) (s210N e52 c53 M1 hN p1 ht1) ?_
    refine rk_aload_n rfl rfl ?_
    refine rk_iload rfl rfl ?_
    refine rk_iload rfl rfl ?_
    refine rk_cv2e rfl rfl (by assumption) rfl rfl (Nat.le_of_ble_eq_true rfl) (Nat.le_of_ble_eq_true rfl) (s210N e52 c53 M1 hN p2 ht1) ?_
    refine rk_icmp_eq rfl rfl (fun hc75 => ?_) (fun hc75 => ?_)
    · replace hc75 := (nI_eq (by omega) (by omega)).mp hc75
      refine rk_iinc rfl rfl (n_inc _) rfl ?_
      refine rk_goto rfl rfl ?_
      have hnt : t ≠ gxA N L a b i := fun y => by
        subst y
        first
          | exact hgx.2.1.1 hc75
          | exact hlow hgx.2.1.2
      exact ih (t + 1) (by omega) (by omega)
    · replace hc75 := mt (nI_eq (by omega) (by omega)).mpr hc75
      refine rk_aload_n rfl rfl ?_
      refine rk_get rfl (by assumption) rfl ?_
      refine rk_sipush (v := nI 196) rfl (by decide) ?_
      refine rk_iload rfl rfl ?_
      refine rk_iconst (v := nI 1) rfl (by decide) ?_
      refine rk_isub rfl (pk_sub (by omega)) ?_
      refine rk_imul rfl (pk_mul _ _) ?_
      refine rk_bipush (v := nI 14) rfl (by decide) ?_
      refine rk_aload_n rfl rfl ?_
      refine rk_iload rfl rfl ?_
      refine rk_iload rfl rfl ?_
      refine rk_cv2e rfl rfl (by assumption) rfl rfl (Nat.le_of_ble_eq_true rfl) (Nat.le_of_ble_eq_true rfl) (s210N e52 c53 M1 hN p1 ht1) ?_
      refine rk_imul rfl (pk_mul _ _) ?_
      refine rk_iadd rfl (nI_add _ _) ?_
      refine rk_aload_n rfl rfl ?_
      refine rk_iload rfl rfl ?_
      refine rk_iload rfl rfl ?_
      refine rk_cv2e rfl rfl (by assumption) rfl rfl (Nat.le_of_ble_eq_true rfl) (Nat.le_of_ble_eq_true rfl) (s210N e52 c53 M1 hN p2 ht1) ?_
      refine rk_iadd rfl (nI_add _ _) ?_
      refine rk_zald rfl (by assumption) (rfl) (by omega) (by decide) ?_
      rw [q2]
      refine rk_if_ne rfl rfl (fun hc96 => ?_) (fun hc96 => ?_)
      · have hup := oz_ne hc96
        rw [show L - i - 1 = L - (i + 1) by omega] at hup
        have hte : t = gxA N L a b i := by
          apply Decidable.byContradiction
          intro y
          exact hgx.2.2 t (by omega) ⟨hc75, hup⟩
        subst hte
        exact z
      · replace hc96 := Decidable.not_not.mp hc96
        have hlow : ¬ 0 < wA N (L - (i + 1)) (pl N (prA N L a b i).1 t * 14 + pl N (prA N L a b i).2 t) := fun y => by
          have := oz_eq hc96
          rw [show L - i - 1 = L - (i + 1) by omega] at this
          omega
        refine rk_iinc rfl rfl (n_inc _) rfl ?_
        refine rk_goto rfl rfl ?_
        have hnt : t ≠ gxA N L a b i := fun y => by
          subst y
          first
            | exact hgx.2.1.1 hc75
            | exact hlow hgx.2.1.2
        exact ih (t + 1) (by omega) (by omega)
theorem l272 {X : ai_X} {h : ai_H} {v A : Nat → Int32} {N : Nat → Nat} {a b L : Nat} {f1 : Nat → Int64} {f2 : Nat → Int32} (c0 : h[52]? = some (cMdl v)) (c72 : h[72]? = some (cZ 8036 f2)) (hN : HN N) (M : MH A N) (HP : AP N f1 f2 (L + 1) 0 0) (hL : L ≤ 40) (ha : a < N 0) (hb : b < N 0) (hp : 0 < wA N L (a * 14 + b)) {x1 x2 : Nat} : ∀ (d : Nat) (i : Nat) (g : ai_H) (A1 : Nat → Int32) (c7 : Option Value), L < i + d → (i ≤ L) → (Fr 53 54 h g) → (g[53]? = some (cI 2346 A1)) → (∀ q, ¬ (281 ≤ q ∧ q < 782) → A1 q = A q) → (A1 281 = nI L) → (∀ j, j < i → A1 (282 + j) = nI (gxA N L a b j)) → Rk X am_272 63 [some (.ref 52), some (.int (nI x1)), some (.int (nI x2)), some (.int (nI L)), some (.int (nI (prA N L a b i).1)), some (.int (nI (prA N L a b i).2)), some (.int (nI (L - i))), c7] [] g (Qi (fun w h1 => w = nI L ∧ Fr 53 54 h h1 ∧ ∃ A1, h1[53]? = some (cI 2346 A1) ∧ FD A A1 L (gxA N L a b))) := by
  intro d
  induction d with
  | zero => intro i g A1 c7 hd hi F c53 hA h281 hx; exfalso; omega
  | succ d ih =>
    intro i g A1 c7 hd hi F c53 hA h281 hx
    have e52 := (F.2 52 (by omega)).trans c0
    have e72 := (F.2 72 (by omega)).trans c72
    have M1 : MH A1 N := M.up hN (fun q _ => hA q (by omega))
    obtain ⟨a0, a1, a268, a269, a270, a271, apl, apc, aot, asg, awt⟩ := id M1
    have hn := hN.n
    have h6 := hN.t
    refine rk_iload rfl rfl ?_
    refine rk_if_le rfl rfl (fun hc64 => ?_) (fun hc64 => ?_)
    · replace hc64 := (n0_le (by omega)).mp hc64
      refine rk_iload_n rfl rfl ?_
      have hi2 : i = L := by omega
      subst hi2
      exact rk_ireturn rfl rfl ⟨_, _, rfl, rfl, F, A1, c53, h281, hx, hA⟩
    · replace hc64 := mt (n0_le (by omega)).mpr hc64
      refine rk_iconst (v := nI 0) rfl (by decide) ?_
      refine rk_istore rfl (Nat.le_of_ble_eq_true rfl) rfl ?_
      refine l272t (h := h) c0 c72 hN M HP hL ha hb hp (by omega) F c53 hA ?_ (gxA N L a b i + 1) 0 (by omega) (Nat.zero_le _)
      obtain ⟨p1, p2, p3⟩ := pr_ok hN ha hb hp i (by omega)
      have hgx := (gx_ok (i := i) hN ha hb hp (by omega)).1
      have F0 : Fr 53 54 h g := F
      have M2 := M1
      refine rk_aload_n rfl rfl ?_
      refine rk_get rfl (by assumption) rfl ?_
      refine rk_sipush (v := nI 282) rfl (by decide) ?_
      refine rk_iload_n rfl rfl ?_
      refine rk_iadd rfl (nI_add _ _) ?_
      refine rk_iload rfl rfl ?_
      refine rk_isub rfl (pk_sub (by omega)) ?_
      refine rk_iload rfl rfl ?_
      refine rk_iast rfl c53 (rfl) (by omega) (by decide) ?_
      refine hp_gen c53 (fun h1 g1 hk1 hl1 => ?_)
      replace e52 := (hk1 _ (by omega)).trans e52
      replace F0 := F0.tr (Fr.mk1 hk1 hl1 (by omega) (by omega))
      have M2 : MH (upd A1 (282 + L - (L - i)) (nI (gxA N L a b i))) N := M1.up hN (fun q _ => if_neg (by omega))
      replace c53 := g1
      refine rk_aload_n rfl rfl ?_
      refine rk_iload rfl rfl ?_
      refine rk_iload rfl rfl ?_
      refine rk_cv2e rfl rfl (by assumption) rfl rfl (Nat.le_of_ble_eq_true rfl) (Nat.le_of_ble_eq_true rfl) (s210N e52 c53 M2 hN p1 hgx) ?_
      refine rk_istore rfl (Nat.le_of_ble_eq_true rfl) rfl ?_
      refine rk_aload_n rfl rfl ?_
      refine rk_iload rfl rfl ?_
      refine rk_iload rfl rfl ?_
      refine rk_cv2e rfl rfl (by assumption) rfl rfl (Nat.le_of_ble_eq_true rfl) (Nat.le_of_ble_eq_true rfl) (s210N e52 c53 M2 hN p2 hgx) ?_
      refine rk_istore rfl (Nat.le_of_ble_eq_true rfl) rfl ?_
      refine rk_iinc rfl rfl (n_dec (by omega)) rfl ?_
      refine rk_goto rfl rfl ?_
      refine ih (i + 1) _ _ _ (by omega) (by omega) F0 c53 (fun q hq => ?_) ?_ (fun j hj => ?_)
      · simp only [upd]; rw [if_neg (by omega)]; exact hA q hq
      · simp only [upd]; rw [if_neg (by omega)]; exact h281
      · simp only [upd]
        by_cases y : j = i
        · rw [if_pos (by omega), y]
        · rw [if_neg (by omega)]; exact hx j (by omega)
theorem m272_v {X : ai_X} {h : ai_H} {v A : Nat → Int32} {N : Nat → Nat} (c0 : h[52]? = some (cMdl v)) (c1 : h[53]? = some (cI 2346 A)) (hN : HN N) (M : MH A N) {a b L : Nat} (ha : a < N 271) (hb : b < N 271) (hab : ¬ a = b) (hL : L ≤ 40) (S1 : ShJ h 71 8036) (S2 : ShZ h 72 8036) : Rk X am_272 3 (ai_loc (ai_mL am_272) [.ref 52, .int (nI a), .int (nI b), .int (nI L)]) [] h (Qi (fun y h1 => (y = if 0 < wA N L (wt N a * 14 + wt N b) then nI L else -1) ∧ FA7 h h1 ∧ ∃ A1, h1[53]? = some (cI 2346 A1) ∧ ((¬ 0 < wA N L (wt N a * 14 + wt N b) ∧ A1 = A) ∨ (0 < wA N L (wt N a * 14 + wt N b) ∧ FD A A1 L (gxA N L (wt N a) (wt N b)))))) := by
  obtain ⟨a0, a1, a268, a269, a270, a271, apl, apc, aot, asg, awt⟩ := id M
  have hn := hN.n
  have hw8 := hN.w
  have hwa := hN.xwt ha
  have hwb := hN.xwt hb
  refine rk_aload_n rfl rfl ?_
  refine rk_iload_n rfl rfl ?_
  refine rk_cv1e rfl rfl (by assumption) rfl rfl (Nat.le_of_ble_eq_true rfl) (Nat.le_of_ble_eq_true rfl) (s209n c0 c1 a271 (by have := hN.w; omega) _) ?_
  refine rk_if_eq rfl rfl (fun hc6 => ?_) (fun hc6 => ?_)
  · replace hc6 := (bI_0).mp hc6
    exact absurd (in_mk (by omega) ha) hc6
  · replace hc6 := Decidable.not_not.mp (mt bI_0.mpr hc6)
    refine rk_aload_n rfl rfl ?_
    refine rk_iload_n rfl rfl ?_
    refine rk_cv1e rfl rfl (by assumption) rfl rfl (Nat.le_of_ble_eq_true rfl) (Nat.le_of_ble_eq_true rfl) (s209n c0 c1 a271 (by have := hN.w; omega) _) ?_
    refine rk_if_eq rfl rfl (fun hc10 => ?_) (fun hc10 => ?_)
    · replace hc10 := (bI_0).mp hc10
      exact absurd (in_mk (by omega) hb) hc10
    · replace hc10 := Decidable.not_not.mp (mt bI_0.mpr hc10)
      refine rk_iload_n rfl rfl ?_
      refine rk_iload_n rfl rfl ?_
      refine rk_icmp_ne rfl rfl (fun hc13 => ?_) (fun hc13 => ?_)
      · replace hc13 := mt (nI_eq (by omega) (by omega)).mpr hc13
        refine rk_iload_n rfl rfl ?_
        refine rk_i2l rfl rfl ?_
        refine rk_lconst (v := 0) rfl (by decide) ?_
        rw [show (0 : Int64) = (0 : Int32).toInt64 by decide]
        refine rk_ldc2 rfl ?_
        rw [show (40 : Int64) = (nI 40).toInt64 by decide]
        refine rk_cs3e rfl rfl rfl (Nat.le_of_ble_eq_true rfl) (Nat.le_of_ble_eq_true rfl) (s181 _ _ _) ?_
        refine rk_if_ne rfl rfl (fun hc21 => ?_) (fun hc21 => ?_)
        · replace hc21 := Decidable.not_not.mp (mt bI_0.mpr hc21)
          refine rk_aload_n rfl rfl ?_
          refine rk_iload_n rfl rfl ?_
          refine rk_cv1v rfl rfl (by assumption) rfl rfl (Nat.le_of_ble_eq_true rfl) (Nat.le_of_ble_eq_true rfl) (s270 c0 c1 hN M hL S1 S2) (fun h1 hF => ?_)
          obtain ⟨F3, f1, f2, c71, c72, H⟩ := hF
          have e52 := (F3.2 52 (by omega)).trans c0
          have e53 := (F3.2 53 (by omega)).trans c1
          obtain ⟨-, p2⟩ := H L (wt N a) (wt N b) hwa hwb (Or.inl (by omega))
          have F0 : True := trivial
          refine rk_aload_n rfl rfl ?_
          refine rk_get rfl (by assumption) rfl ?_
          refine rk_sipush (v := nI 272) rfl (by decide) ?_
          refine rk_iload_n rfl rfl ?_
          refine rk_iadd rfl (nI_add _ _) ?_
          refine rk_iald rfl (by assumption) (rfl) (by omega) (by decide) ?_
          rw [awt a ha]
          refine rk_istore rfl (Nat.le_of_ble_eq_true rfl) rfl ?_
          refine rk_aload_n rfl rfl ?_
          refine rk_get rfl (by assumption) rfl ?_
          refine rk_sipush (v := nI 272) rfl (by decide) ?_
          refine rk_iload_n rfl rfl ?_
          refine rk_iadd rfl (nI_add _ _) ?_
          refine rk_iald rfl (by assumption) (rfl) (by omega) (by decide) ?_
          rw [awt b hb]
          refine rk_istore rfl (Nat.le_of_ble_eq_true rfl) rfl ?_
          refine rk_aload_n rfl rfl ?_
          refine rk_get rfl (by assumption) rfl ?_
          refine rk_sipush (v := nI 196) rfl (by decide) ?_
          refine rk_iload_n rfl rfl ?_
          refine rk_imul rfl (pk_mul _ _) ?_
          refine rk_bipush (v := nI 14) rfl (by decide) ?_
          refine rk_iload rfl rfl ?_
          refine rk_imul rfl (pk_mul _ _) ?_
          refine rk_iadd rfl (nI_add _ _) ?_
          refine rk_iload rfl rfl ?_
          refine rk_iadd rfl (nI_add _ _) ?_
          refine rk_zald rfl (by assumption) (rfl) (by omega) (by decide) ?_
          rw [p2]
          refine rk_if_ne rfl rfl (fun hc53 => ?_) (fun hc53 => ?_)
          · refine rk_aload_n rfl rfl ?_
            refine rk_get rfl (by assumption) rfl ?_
            refine rk_sipush (v := nI 281) rfl (by decide) ?_
            refine rk_iload_n rfl rfl ?_
            refine rk_iast rfl e53 (rfl) (by omega) (by decide) ?_
            refine hp_gen e53 (fun h1 g1 hk1 hl1 => ?_)
            replace e52 := (hk1 _ (by omega)).trans e52
            replace c72 := (hk1 _ (by omega)).trans c72
            have Fk := hk1
            have Fl := hl1
            replace e53 := g1
            refine rk_iload_n rfl rfl ?_
            refine rk_istore rfl (Nat.le_of_ble_eq_true rfl) rfl ?_
            have hz := oz_ne hc53
            refine (l272 (A := A) (x1 := a) (x2 := b) e52 c72 hN M H hL hwa hwb hz (L + 1) 0 _ _ _ (by omega) (Nat.zero_le _) Fr.rfl' e53 (fun q hq => if_neg (by omega)) (if_pos rfl) (fun j hj => absurd hj (by omega))).mono ?_
            rintro o ⟨y, h2, rfl, rfl, F5, A1, d53, fd⟩
            exact ⟨_, _, rfl, (if_pos hz).symm, ⟨(F5.1.trans Fl).trans F3.1, fun q a1 a2 => ((F5.2 q (by omega)).trans (Fk q a1)).trans (F3.2 q (by omega))⟩, A1, d53, Or.inr ⟨hz, fd⟩⟩
          · replace hc53 := Decidable.not_not.mp hc53
            refine rk_iconst (v := (-1)) rfl (by decide) ?_
            have hz : ¬ 0 < wA N L (wt N a * 14 + wt N b) := by have := oz_eq hc53; omega
            exact rk_ireturn rfl rfl ⟨_, _, rfl, (if_neg hz).symm, ⟨F3.1, fun q a1 a2 => F3.2 q (by omega)⟩, A, e53, Or.inl ⟨hz, rfl⟩⟩
        · replace hc21 := Decidable.not_not.mp hc21
          replace hc21 := (bI_0).mp hc21
          exact absurd (w40_mk hL) hc21
      · replace hc13 := Decidable.not_not.mp hc13
        replace hc13 := (nI_eq (by omega) (by omega)).mp hc13
        exact absurd hc13 hab
