/-! APART: the model's counts -/
theorem lI_rem {a b : Nat} (ha : a < 2 ^ 63) (hb : b < 2 ^ 63) : lI a - lI a / lI b * lI b = lI (a % b) := by
  rw [lI_div ha hb, lI_mul]
  have e : lI a = lI (a % b) + lI (a / b * b) := by
    rw [lI_add]
    have := Nat.mod_add_div a b
    rw [Nat.mul_comm] at this
    rw [this]
  conv => lhs; lhs; rw [e]
  exact Int64.add_sub_cancel _ _
def cA (N : Nat → Nat) (k r s t : Nat) : Nat := if k = 0 then 1 else wsA N (wA N (k - 1)) r s t
theorem cA0 {N : Nat → Nat} {k r s t : Nat} (h : k = 0) : cA N k r s t = 1 := if_pos h
theorem cA1 {N : Nat → Nat} {k r s : Nat} (h : ¬ k = 0) : cA N k r s 0 = 0 := if_neg h
theorem cA_w {N : Nat → Nat} {k r s : Nat} (hs : s < 14) (h : k = 0 ∨ True) : cA N k r s (N 1) = wA N k (r * 14 + s) := by
  rcases k with _ | k
  · exact if_pos rfl
  · unfold cA
    rw [if_neg (by omega), Nat.add_sub_cancel]
    show _ = wsA N (wA N k) ((r * 14 + s) / 14) ((r * 14 + s) % 14) (N 1)
    rw [show (r * 14 + s) / 14 = r by omega, show (r * 14 + s) % 14 = s by omega]
abbrev oz (x : Nat) : Int32 := if 0 < x then 1 else 0
theorem oz_ne {x : Nat} (h : ¬ oz x = 0) : 0 < x := Decidable.byContradiction fun z => h (if_neg z)
theorem oz_eq {x : Nat} (h : oz x = 0) : x = 0 := by
  apply Decidable.byContradiction
  intro z
  rw [show oz x = 1 from if_pos (by omega)] at h
  exact absurd h (by decide)
theorem ozA {x y : Nat} (h : 0 < x ∨ 0 < y) : vp_nar .boolean (nI 1) = oz (x + y) := by
  rw [show oz (x + y) = 1 from if_pos (by omega)]; decide
theorem ozB {x y : Nat} (h : x = 0) (g : y = 0) : vp_nar .boolean (nI 0) = oz (x + y) := by
  rw [show oz (x + y) = 0 from if_neg (by omega)]; decide
/-- laid as far as this -/
def AP (N : Nat → Nat) (f1 : Nat → Int64) (f2 : Nat → Int32) (k r s : Nat) : Prop := ∀ j r' s', r' < N 0 → s' < N 0 → (j < k ∨ (j = k ∧ (r' < r ∨ (r' = r ∧ s' < s)))) → f1 (196 * j + 14 * r' + s') = lI (wA N j (r' * 14 + s') % MP) ∧ f2 (196 * j + 14 * r' + s') = oz (wA N j (r' * 14 + s'))
theorem AP.up {N : Nat → Nat} {f1 g1 : Nat → Int64} {f2 g2 : Nat → Int32} {k r s : Nat} (hn : N 0 ≤ 14) (hs : s < 14) (H : AP N f1 f2 k r s) (e1 : ∀ q, q < 196 * k + 14 * r + s → g1 q = f1 q) (e2 : ∀ q, q < 196 * k + 14 * r + s → g2 q = f2 q) (hr : r < 14) : AP N g1 g2 k r s := by
  intro j r' s' a b c
  rw [e1 _ (by omega), e2 _ (by omega)]
  exact H j r' s' a b c
theorem AP.next {N : Nat → Nat} {f1 : Nat → Int64} {f2 : Nat → Int32} {k r s : Nat} (H : AP N f1 f2 k r s) (a : f1 (196 * k + 14 * r + s) = lI (wA N k (r * 14 + s) % MP)) (b : f2 (196 * k + 14 * r + s) = oz (wA N k (r * 14 + s))) : AP N f1 f2 k r (s + 1) := by
  intro j r' s' x y z
  by_cases q : j = k ∧ r' = r ∧ s' = s
  · obtain ⟨rfl, rfl, rfl⟩ := q
    exact ⟨a, b⟩
  · exact H j r' s' x y (by omega)
theorem AP.row {N : Nat → Nat} {f1 : Nat → Int64} {f2 : Nat → Int32} {k r : Nat} (H : AP N f1 f2 k r (N 0)) : AP N f1 f2 k (r + 1) 0 := fun j r' s' x y z => H j r' s' x y (by omega)
theorem AP.lev {N : Nat → Nat} {f1 : Nat → Int64} {f2 : Nat → Int32} {k : Nat} (H : AP N f1 f2 k (N 0) 0) : AP N f1 f2 (k + 1) 0 0 := fun j r' s' x y z => H j r' s' x y (by omega)
theorem l270t {X : ai_X} {h : ai_H} {v A : Nat → Int32} {N : Nat → Nat} {L : Nat} (c0 : h[52]? = some (cMdl v)) (c1 : h[53]? = some (cI 2346 A)) (hN : HN N) (M : MH A N) (hL : L ≤ 40) {k r s : Nat} (hk : k ≤ L) (hr : r < N 0) (hs : s < N 0) {P : ai_O → Prop} (z : ∀ g f1 f2 t c7 c8 c9, Fr 71 73 h g → g[71]? = some (cJ 8036 f1) → g[72]? = some (cZ 8036 f2) → AP N f1 f2 k r (s + 1) → Rk X am_270 119 [some (.ref 52), some (.int (nI L)), some (.int (nI k)), some (.int (nI r)), some (.int (nI s)), some (.int (nI (196 * k + 14 * r + s))), some (.int (nI t)), c7, c8, c9] [] g P) : ∀ (d : Nat) (t : Nat) (g : ai_H) (f1 : Nat → Int64) (f2 : Nat → Int32) (c7 c8 c9 : Option Value), N 1 < t + d → (t ≤ N 1) → (Fr 71 73 h g) → (g[71]? = some (cJ 8036 f1)) → (g[72]? = some (cZ 8036 f2)) → (AP N f1 f2 k r s) → (f1 (196 * k + 14 * r + s) = lI (cA N k r s t % MP)) → (f2 (196 * k + 14 * r + s) = oz (cA N k r s t)) → Rk X am_270 51 [some (.ref 52), some (.int (nI L)), some (.int (nI k)), some (.int (nI r)), some (.int (nI s)), some (.int (nI (196 * k + 14 * r + s))), some (.int (nI t)), c7, c8, c9] [] g (P) := by
  intro d
  induction d with
  | zero => intro t g f1 f2 c7 c8 c9 hd ht F c71 c72 H q1 q2; exfalso; omega
  | succ d ih =>
    intro t g f1 f2 c7 c8 c9 hd ht F c71 c72 H q1 q2
    obtain ⟨a0, a1, a268, a269, a270, a271, apl, apc, aot, asg, awt⟩ := id M
    have e52 := (F.2 52 (by omega)).trans c0
    have e53 := (F.2 53 (by omega)).trans c1
    have hn := hN.n
    have h6 := hN.t
    have F0 : Fr 71 73 h g := F
    have hcE : pl N r t = pl N s t → cA N k r s (t + 1) = cA N k r s t := fun y => by
      unfold cA
      rw [wsA, if_pos y]
    have hpr := hN.xpl (r := r) (i := t) hr
    have hps := hN.xpl (r := s) (i := t) hs
    have h1p : True := trivial
    refine rk_iload rfl rfl ?_
    refine rk_aload_n rfl rfl ?_
    refine rk_get rfl (by assumption) rfl ?_
    refine rk_iconst (v := nI 1) rfl (by decide) ?_
    refine rk_iald rfl (by assumption) (rfl) (by omega) (by decide) ?_
    rw [a1]
    refine rk_icmp_ge rfl rfl (fun hc56 => ?_) (fun hc56 => ?_)
    · replace hc56 := (nI_leI (by omega) (by omega)).mp hc56
      refine z g f1 f2 t _ _ _ F c71 c72 (H.next ?_ ?_)
      · rw [q1]
        by_cases y : k = 0
        · rw [cA0 y, y]; rfl
        · rw [show t = N 1 by omega, cA_w (by omega) (Or.inr trivial)]
      · rw [q2]
        by_cases y : k = 0
        · rw [cA0 y, y]; rfl
        · rw [show t = N 1 by omega, cA_w (by omega) (Or.inr trivial)]
    · replace hc56 := mt (nI_leI (by omega) (by omega)).mpr hc56
      refine rk_iload_n rfl rfl ?_
      refine rk_if_le rfl rfl (fun hc58 => ?_) (fun hc58 => ?_)
      · replace hc58 := (n0_le (by omega)).mp hc58
        refine z g f1 f2 t _ _ _ F c71 c72 (H.next ?_ ?_)
        · rw [q1]
          by_cases y : k = 0
          · rw [cA0 y, y]; rfl
          · rw [show t = N 1 by omega, cA_w (by omega) (Or.inr trivial)]
        · rw [q2]
          by_cases y : k = 0
          · rw [cA0 y, y]; rfl
          · rw [show t = N 1 by omega, cA_w (by omega) (Or.inr trivial)]
      · replace hc58 := mt (n0_le (by omega)).mpr hc58
        refine rk_aload_n rfl rfl ?_
        refine rk_iload_n rfl rfl ?_
        refine rk_iload rfl rfl ?_
        refine rk_cv2e rfl rfl (by assumption) rfl rfl (Nat.le_of_ble_eq_true rfl) (Nat.le_of_ble_eq_true rfl) (s210N e52 e53 M hN hr (by omega)) ?_
        replace hpr := hpr (by omega)
        refine rk_istore rfl (Nat.le_of_ble_eq_true rfl) rfl ?_
        refine rk_aload_n rfl rfl ?_
        refine rk_iload rfl rfl ?_
        refine rk_iload rfl rfl ?_
        refine rk_cv2e rfl rfl (by assumption) rfl rfl (Nat.le_of_ble_eq_true rfl) (Nat.le_of_ble_eq_true rfl) (s210N e52 e53 M hN hs (by omega)) ?_
        replace hps := hps (by omega)
        refine rk_istore rfl (Nat.le_of_ble_eq_true rfl) rfl ?_
        refine rk_iload rfl rfl ?_
        refine rk_iload rfl rfl ?_
        refine rk_icmp_ne rfl rfl (fun hc71 => ?_) (fun hc71 => ?_)
        · replace hc71 := mt (nI_eq (by omega) (by omega)).mpr hc71
          have hcN : cA N k r s (t + 1) = cA N k r s t + wA N (k - 1) (pl N r t * 14 + pl N s t) := by
            unfold cA
            rw [if_neg (by omega), if_neg (by omega), wsA, if_neg hc71]
          obtain ⟨p1, p2⟩ := H (k - 1) (pl N r t) (pl N s t) hpr hps (by omega)
          have b1 := Nat.mod_lt (cA N k r s t) (show 0 < MP by decide)
          have b2 := Nat.mod_lt (wA N (k - 1) (pl N r t * 14 + pl N s t)) (show 0 < MP by decide)
          refine rk_sipush (v := nI 196) rfl (by decide) ?_
          refine rk_iload_n rfl rfl ?_
          refine rk_iconst (v := nI 1) rfl (by decide) ?_
          refine rk_isub rfl (pk_sub (by omega)) ?_
          refine rk_imul rfl (pk_mul _ _) ?_
          refine rk_bipush (v := nI 14) rfl (by decide) ?_
          refine rk_iload rfl rfl ?_
          refine rk_imul rfl (pk_mul _ _) ?_
          refine rk_iadd rfl (nI_add _ _) ?_
          refine rk_iload rfl rfl ?_
          refine rk_iadd rfl (nI_add _ _) ?_
          refine rk_istore rfl (Nat.le_of_ble_eq_true rfl) rfl ?_
          refine rk_aload_n rfl rfl ?_
          refine rk_get rfl (by assumption) rfl ?_
          refine rk_iload rfl rfl ?_
          refine rk_aload_n rfl rfl ?_
          refine rk_get rfl (by assumption) rfl ?_
          refine rk_iload rfl rfl ?_
          refine rk_lald rfl (by assumption) (rfl) (by omega) (by decide) ?_
          rw [q1]
          refine rk_aload_n rfl rfl ?_
          refine rk_get rfl (by assumption) rfl ?_
          refine rk_iload rfl rfl ?_
          refine rk_lald rfl (by assumption) (rfl) (by omega) (by decide) ?_
          rw [p1]
          refine rk_ladd rfl (lI_add _ _) ?_
          refine rk_ldc2 rfl ?_
          refine rk_lrem rfl (lI_ne (b := MP) (by decide) (by decide)) (lI_rem (b := MP) (by unfold MP at b1 b2 ⊢; omega) (by decide)) ?_
          rw [mp_add, ← hcN]
          refine rk_last rfl c71 (rfl) (by omega) (by decide) ?_
          refine hp_gen c71 (fun h1 g1 hk1 hl1 => ?_)
          replace e52 := (hk1 _ (by omega)).trans e52
          replace e53 := (hk1 _ (by omega)).trans e53
          replace F0 := F0.tr (Fr.mk1 hk1 hl1 (by omega) (by omega))
          replace c72 := (hk1 _ (by omega)).trans c72
          replace c71 := g1
          refine rk_aload_n rfl rfl ?_
          refine rk_get rfl (by assumption) rfl ?_
          refine rk_iload rfl rfl ?_
          refine rk_aload_n rfl rfl ?_
          refine rk_get rfl (by assumption) rfl ?_
          refine rk_iload rfl rfl ?_
          refine rk_zald rfl (by assumption) (rfl) (by omega) (by decide) ?_
          rw [q2]
          refine rk_if_ne rfl rfl (fun hc107 => ?_) (fun hc107 => ?_)
          · refine rk_iconst (v := nI 1) rfl (by decide) ?_
            refine rk_goto rfl rfl ?_
            refine rk_zast rfl c72 (rfl) (by omega) (by decide) ?_
            refine hp_gen c72 (fun h1 g1 hk1 hl1 => ?_)
            replace e52 := (hk1 _ (by omega)).trans e52
            replace e53 := (hk1 _ (by omega)).trans e53
            replace F0 := F0.tr (Fr.mk1 hk1 hl1 (by omega) (by omega))
            replace c71 := (hk1 _ (by omega)).trans c71
            replace c72 := g1
            refine rk_iinc rfl rfl (n_inc _) rfl ?_
            refine rk_goto rfl rfl ?_
            first
              | exact ih (t + 1) g f1 f2 _ _ _ (by omega) (by omega) F c71 c72 H (by rw [hcE hc71]; exact q1) (by rw [hcE hc71]; exact q2)
              | exact ih (t + 1) _ _ _ _ _ _ (by omega) (by omega) F0 c71 c72 (H.up hn (by omega) (fun q hq => if_neg (by omega)) (fun q hq => if_neg (by omega)) (by omega)) (if_pos rfl) ((if_pos rfl).trans (by rw [hcN]; first | exact ozA (Or.inl (oz_ne hc107)) | exact ozA (Or.inr (oz_ne hc112)) | exact ozB (oz_eq hc107) (oz_eq hc112)))
          · replace hc107 := Decidable.not_not.mp hc107
            refine rk_aload_n rfl rfl ?_
            refine rk_get rfl (by assumption) rfl ?_
            refine rk_iload rfl rfl ?_
            refine rk_zald rfl (by assumption) (rfl) (by omega) (by decide) ?_
            rw [p2]
            refine rk_if_eq rfl rfl (fun hc112 => ?_) (fun hc112 => ?_)
            · refine rk_iconst (v := nI 0) rfl (by decide) ?_
              refine rk_zast rfl c72 (rfl) (by omega) (by decide) ?_
              refine hp_gen c72 (fun h1 g1 hk1 hl1 => ?_)
              replace e52 := (hk1 _ (by omega)).trans e52
              replace e53 := (hk1 _ (by omega)).trans e53
              replace F0 := F0.tr (Fr.mk1 hk1 hl1 (by omega) (by omega))
              replace c71 := (hk1 _ (by omega)).trans c71
              replace c72 := g1
              refine rk_iinc rfl rfl (n_inc _) rfl ?_
              refine rk_goto rfl rfl ?_
              first
                | exact ih (t + 1) g f1 f2 _ _ _ (by omega) (by omega) F c71 c72 H (by rw [hcE hc71]; exact q1) (by rw [hcE hc71]; exact q2)
                | exact ih (t + 1) _ _ _ _ _ _ (by omega) (by omega) F0 c71 c72 (H.up hn (by omega) (fun q hq => if_neg (by omega)) (fun q hq => if_neg (by omega)) (by omega)) (if_pos rfl) ((if_pos rfl).trans (by rw [hcN]; first | exact ozA (Or.inl (oz_ne hc107)) | exact ozA (Or.inr (oz_ne hc112)) | exact ozB (oz_eq hc107) (oz_eq hc112)))
            · refine rk_iconst (v := nI 1) rfl (by decide) ?_
              refine rk_goto rfl rfl ?_
              refine rk_zast rfl c72 (rfl) (by omega) (by decide) ?_
              refine hp_gen c72 (fun h1 g1 hk1 hl1 => ?_)
              replace e52 := (hk1 _ (by omega)).trans e52
              replace e53 := (hk1 _ (by omega)).trans e53
              replace F0 := F0.tr (Fr.mk1 hk1 hl1 (by omega) (by omega))
              replace c71 := (hk1 _ (by omega)).trans c71
              replace c72 := g1
              refine rk_iinc rfl rfl (n_inc _) rfl ?_
              refine rk_goto rfl rfl ?_
              first
                | exact ih (t + 1) g f1 f2 _ _ _ (by omega) (by omega) F c71 c72 H (by rw [hcE hc71]; exact q1) (by rw [hcE hc71]; exact q2)
                | exact ih (t + 1) _ _ _ _ _ _ (by omega) (by omega) F0 c71 c72 (H.up hn (by omega) (fun q hq => if_neg (by omega)) (fun q hq => if_neg (by omega)) (by omega)) (if_pos rfl) ((if_pos rfl).trans (by rw [hcN]; first | exact ozA (Or.inl (oz_ne hc107)) | exact ozA (Or.inr (oz_ne hc112)) | exact ozB (oz_eq hc107) (oz_eq hc112)))
        · replace hc71 := Decidable.not_not.mp hc71
          replace hc71 := (nI_eq (by omega) (by omega)).mp hc71
          refine rk_goto rfl rfl ?_
          refine rk_iinc rfl rfl (n_inc _) rfl ?_
          refine rk_goto rfl rfl ?_
          first
            | exact ih (t + 1) g f1 f2 _ _ _ (by omega) (by omega) F c71 c72 H (by rw [hcE hc71]; exact q1) (by rw [hcE hc71]; exact q2)
            | exact ih (t + 1) _ _ _ _ _ _ (by omega) (by omega) F0 c71 c72 (H.up hn (by omega) (fun q hq => if_neg (by omega)) (fun q hq => if_neg (by omega)) (by omega)) (if_pos rfl) ((if_pos rfl).trans (by rw [hcN]; first | exact ozA (Or.inl (oz_ne hc107)) | exact ozA (Or.inr (oz_ne hc112)) | exact ozB (oz_eq hc107) (oz_eq hc112)))
