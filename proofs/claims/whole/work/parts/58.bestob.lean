/-! BEST: the model -/
theorem w4_mk {c : Nat} (hc : c ≤ 4) : ¬ nI c < 0 ∧ ¬ nI 4 < nI c := ⟨nI_pos (by omega), fun z => by have := (nI_ltI (by omega) (by omega)).mp z; omega⟩
theorem w4_of {b : Int32} (h : ¬ b < 0 ∧ ¬ nI 4 < b) : ∃ c, c ≤ 4 ∧ b = nI c := by
  have := (in_iff (n := 5) (x := b) (by decide)).mp
  rw [pk_sub (by decide)] at this
  obtain ⟨c, h1, h2⟩ := in_of (by decide) (this h)
  exact ⟨c, by omega, h2⟩
def FMm (h g : ai_H) : Prop := g.length = h.length ∧ ∀ q : Nat, q ≠ 53 → ¬ (73 ≤ q ∧ q < 76) → g[q]? = h[q]?
theorem FMm.tr {h g k : ai_H} (x : FMm h g) (y : FMm g k) : FMm h k := ⟨y.1.trans x.1, fun q a b => (y.2 q a b).trans (x.2 q a b)⟩
theorem FMm.rf {h : ai_H} : FMm h h := ⟨rfl, fun _ _ _ => rfl⟩
theorem FMm.r {h g : ai_H} {a b : Nat} (F : Fr a b h g) (ha : (73 ≤ a ∧ b ≤ 76) ∨ (53 ≤ a ∧ b ≤ 54)) : FMm h g := ⟨F.1, fun q x y => F.2 q (by omega)⟩
def FoundM (A A1 : Nat → Int32) (s : BS) : Prop := (∀ q, ¬ (281 ≤ q ∧ q < 782) → A1 q = A q) ∧ (0 < s.1 → A1 281 = nI s.2.1 ∧ ∀ j, j < s.2.1 → A1 (282 + j) = nI (s.2.2 j))
theorem l279d {X : ai_X} {h : ai_H} {v A1 : Nat → Int32} {N : Nat → Nat} {n l i cn : Nat} {w2 : Int32} {c8 : Option Value} (c0 : h[52]? = some (cMdl v)) (c53 : h[53]? = some (cI 2346 A1)) (a1 : A1 1 = nI (N 1)) (h1p : 0 < N 1) (h6 : N 1 ≤ 6) (hl : l ≤ 4) (hi : i < 2000) {P : ai_O → Prop} (z : ∀ g w6 w7, Fr 75 76 h g → AN g 75 4 l (dgB (N 1) l i) → Rk X am_279 59 [some (.ref 52), some (.int (nI n)), some (.int w2), some (.int (nI cn)), some (.int (nI l)), some (.int (nI i)), some (.int w6), some (.int w7), c8] [] g P) : ∀ (d : Nat) (m : Nat) (g : ai_H) (f : Nat → Int32) (i7 : Int32), l < m + d → (m ≤ l) → (Fr 75 76 h g) → (g[75]? = some (cI 4 f)) → (∀ j, j < l → l - m ≤ j → f j = nI (dgB (N 1) l i j)) → (i7 = nI (l - m) + Int32.ofInt (-1)) → Rk X am_279 38 [some (.ref 52), some (.int (nI n)), some (.int w2), some (.int (nI cn)), some (.int (nI l)), some (.int (nI i)), some (.int (nI (i / N 1 ^ m))), some (.int i7), c8] [] g (P) := by
  intro d
  induction d with
  | zero => intro m g f i7 hd hm F c75 hf hi7; exfalso; omega
  | succ d ih =>
    intro m g f i7 hd hm F c75 hf hi7
    have e52 := (F.2 52 (by omega)).trans c0
    have e53 := (F.2 53 (by omega)).trans c53
    have F0 : Fr 75 76 h g := F
    have c750 := c75
    have hq : i / N 1 ^ m ≤ i := Nat.div_le_self _ _
    by_cases hmL : m = l
    · subst hi7
      rw [show l - m = 0 by omega]
      refine rk_iload rfl rfl ?_
      refine rk_if_lt rfl rfl (fun _ => ?_) (fun hc => absurd (by decide) hc)
      exact z g _ _ F ⟨f, c75, fun j hj => hf j hj (by omega)⟩
    rw [n_dec (by omega)] at hi7
    subst hi7
    refine rk_iload rfl rfl ?_
    refine rk_if_lt rfl rfl (fun hc39 => ?_) (fun hc39 => ?_)
    · replace hc39 := (n0_lt (by omega)).mp hc39
      exact hc39.elim
    · replace hc39 := mt (n0_lt (by omega)).mpr hc39
      refine rk_aload_n rfl rfl ?_
      refine rk_get rfl (by assumption) rfl ?_
      refine rk_iload rfl rfl ?_
      refine rk_iload rfl rfl ?_
      refine rk_aload_n rfl rfl ?_
      refine rk_get rfl (by assumption) rfl ?_
      refine rk_iconst (v := nI 1) rfl (by decide) ?_
      refine rk_iald rfl (by assumption) (rfl) (by omega) (by decide) ?_
      rw [a1]
      refine rk_irem rfl (nI_ne0 (by omega) (by omega)) (pk_rem (by omega) (by omega) (by omega)) ?_
      refine rk_iast rfl c75 (rfl) (by omega) (by decide) ?_
      refine hp_gen c75 (fun h1 g1 hk1 hl1 => ?_)
      replace e52 := (hk1 _ (by omega)).trans e52
      replace e53 := (hk1 _ (by omega)).trans e53
      replace F0 := F0.tr (Fr.mk1 hk1 hl1 (by omega) (by omega))
      replace c75 := g1
      refine rk_iload rfl rfl ?_
      refine rk_aload_n rfl rfl ?_
      refine rk_get rfl (by assumption) rfl ?_
      refine rk_iconst (v := nI 1) rfl (by decide) ?_
      refine rk_iald rfl (by assumption) (rfl) (by omega) (by decide) ?_
      rw [a1]
      refine rk_idiv rfl (nI_ne0 (by omega) (by omega)) (pk_div (by omega) (by omega) (by omega)) ?_
      refine rk_istore rfl (Nat.le_of_ble_eq_true rfl) rfl ?_
      refine rk_iinc rfl rfl rfl rfl ?_
      refine rk_goto rfl rfl ?_
      rw [Nat.div_div_eq_div_mul, ← Nat.pow_succ]
      refine ih (m + 1) _ _ _ (by omega) (by omega) F0 c75 (fun j hj hj2 => ?_) (by rw [show l - (m + 1) = l - m - 1 by omega])
      simp only [upd]
      by_cases y : j = l - m - 1
      · rw [if_pos y, y]
        unfold dgB
        rw [show l - 1 - (l - m - 1) = m by omega]
      · rw [if_neg y]
        exact hf j hj (by omega)
theorem l279c {X : ai_X} {h : ai_H} {v A : Nat → Int32} {x : Nat → Nat} {n l i cn : Nat} {w2 w7 : Int32} {c6 : Option Value} (c0 : h[52]? = some (cMdl v)) (S75 : AN h 75 4 l x) (hl : l ≤ 4) {P : ai_O → Prop} (z : ∀ g A2 c8, Fr 53 54 h g → g[53]? = some (cI 2346 A2) → (∀ q, ¬ (281 ≤ q ∧ q < 782) → A2 q = A q) → A2 281 = nI l → (∀ j, j < l → A2 (282 + j) = nI (x j)) → Rk X am_279 94 [some (.ref 52), some (.int (nI n)), some (.int w2), some (.int (nI cn)), some (.int (nI l)), some (.int (nI i)), c6, some (.int w7), c8] [] g P) : ∀ (d : Nat) (k : Nat) (g : ai_H) (A2 : Nat → Int32), l < k + d → (k ≤ l) → (Fr 53 54 h g) → (g[53]? = some (cI 2346 A2)) → (∀ q, ¬ (281 ≤ q ∧ q < 782) → A2 q = A q) → (A2 281 = nI l) → (∀ j, j < k → A2 (282 + j) = nI (x j)) → Rk X am_279 79 [some (.ref 52), some (.int (nI n)), some (.int w2), some (.int (nI cn)), some (.int (nI l)), some (.int (nI i)), c6, some (.int w7), some (.int (nI k))] [] g (P) := by
  intro d
  induction d with
  | zero => intro k g A2 hd hk F c53 hA h281 hx; exfalso; omega
  | succ d ih =>
    intro k g A2 hd hk F c53 hA h281 hx
    have e52 := (F.2 52 (by omega)).trans c0
    have F0 : Fr 53 54 h g := F
    obtain ⟨f75, c75, hf75⟩ := S75.fr (F.2 75 (by omega))
    refine rk_iload rfl rfl ?_
    refine rk_iload rfl rfl ?_
    refine rk_icmp_ge rfl rfl (fun hc81 => ?_) (fun hc81 => ?_)
    · replace hc81 := (nI_leI (by omega) (by omega)).mp hc81
      have hk2 : k = l := by omega
      subst hk2
      exact z g _ _ F c53 hA h281 hx
    · replace hc81 := mt (nI_leI (by omega) (by omega)).mpr hc81
      refine rk_aload_n rfl rfl ?_
      refine rk_get rfl (by assumption) rfl ?_
      refine rk_sipush (v := nI 282) rfl (by decide) ?_
      refine rk_iload rfl rfl ?_
      refine rk_iadd rfl (nI_add _ _) ?_
      refine rk_aload_n rfl rfl ?_
      refine rk_get rfl (by assumption) rfl ?_
      refine rk_iload rfl rfl ?_
      refine rk_iald rfl (by assumption) (rfl) (by omega) (by decide) ?_
      rw [hf75 k (by omega)]
      refine rk_iast rfl c53 (rfl) (by omega) (by decide) ?_
      refine hp_gen c53 (fun h1 g1 hk1 hl1 => ?_)
      replace e52 := (hk1 _ (by omega)).trans e52
      replace c75 := (hk1 _ (by omega)).trans c75
      replace F0 := F0.tr (Fr.mk1 hk1 hl1 (by omega) (by omega))
      replace c53 := g1
      refine rk_iinc rfl rfl (n_inc _) rfl ?_
      refine rk_goto rfl rfl ?_
      refine ih (k + 1) _ _ (by omega) (by omega) F0 c53 (fun q hq => ?_) ?_ (fun j hj => ?_)
      · simp only [upd]; rw [if_neg (by omega)]; exact hA q hq
      · simp only [upd]; rw [if_neg (by omega)]; exact h281
      · simp only [upd]
        by_cases y : j = k
        · rw [if_pos (by omega), y]
        · rw [if_neg (by omega)]; exact hx j (by omega)
theorem l279i {X : ai_X} {h : ai_H} {v A : Nat → Int32} {N : Nat → Nat} {n : Nat} (c0 : h[52]? = some (cMdl v)) (hN : HN N) (M : MH A N) (h0 : ¬ N 0 = 0) (hn4 : n ≤ 4) {l : Nat} (hl : l ≤ n) {P : ai_O → Prop} (z : ∀ g A1 c5 c6 c7 c8, FMm h g → ShJ g 73 14 → ShJ g 74 14 → ShI g 75 4 → g[53]? = some (cI 2346 A1) → FoundM A A1 (ouB N (l + 1)) → Rk X am_279 96 [some (.ref 52), some (.int (nI n)), some (.int (vlB (ouB N (l + 1)).1)), some (.int (nI (N 1 ^ l))), some (.int (nI l)), c5, c6, c7, c8] [] g P) : ∀ (d : Nat) (k : Nat) (g : ai_H) (A1 : Nat → Int32) (c6 c7 c8 : Option Value), N 1 ^ l < k + d → (k ≤ N 1 ^ l) → (FMm h g) → (ShJ g 73 14) → (ShJ g 74 14) → (ShI g 75 4) → (g[53]? = some (cI 2346 A1)) → (FoundM A A1 (inB N l (ouB N l) k)) → Rk X am_279 29 [some (.ref 52), some (.int (nI n)), some (.int (vlB (inB N l (ouB N l) k).1)), some (.int (nI (N 1 ^ l))), some (.int (nI l)), some (.int (nI k)), c6, c7, c8] [] g (P) := by
  intro d
  induction d with
  | zero => intro k g A1 c6 c7 c8 hd hk F S3 S4 S5 c53 FM; exfalso; omega
  | succ d ih =>
    intro k g A1 c6 c7 c8 hd hk F S3 S4 S5 c53 FM
    have e52 := (F.2 52 (by omega) (by omega)).trans c0
    have h1p : 0 < N 1 := by have := hN.1; omega
    have h6 := hN.t
    have hr : N 270 < N 0 := by have := hN.2.2.1; omega
    have M1 : MH A1 N := M.up hN (fun q _ => FM.1 q (by omega))
    obtain ⟨a0, a1, a268, a269, a270, a271, apl, apc, aot, asg, awt⟩ := id M1
    have hp := p1296 h6 (show l ≤ 4 by omega) h1p
    have hinb := (BOk.inn hN h1p (show l ≤ 4 by omega) (BOk.ou hN h1p l (by omega)) k).b
    have hst : inB N l (ouB N l) (k + 1) = stB N l (inB N l (ouB N l) k) k := rfl
    have hvb := vB_le (L := l) (i := k) hN h1p
    obtain ⟨f5, c75⟩ := id S5
    refine rk_iload rfl rfl ?_
    refine rk_iload_n rfl rfl ?_
    refine rk_icmp_ge rfl rfl (fun hc31 => ?_) (fun hc31 => ?_)
    · replace hc31 := (nI_leI (by omega) (by omega)).mp hc31
      have hk2 : k = N 1 ^ l := by omega
      subst hk2
      exact z g _ _ _ _ _ F S3 S4 S5 c53 FM
    · replace hc31 := mt (nI_leI (by omega) (by omega)).mpr hc31
      refine rk_iload rfl rfl ?_
      refine rk_istore rfl (Nat.le_of_ble_eq_true rfl) rfl ?_
      refine rk_iload rfl rfl ?_
      refine rk_iconst (v := nI 1) rfl (by decide) ?_
      refine rk_isub rfl rfl ?_
      refine rk_istore rfl (Nat.le_of_ble_eq_true rfl) rfl ?_
      have z0 := l279d (X := X) (N := N) (P := P) (n := n) (l := l) (i := k) (cn := N 1 ^ l) (w2 := vlB (inB N l (ouB N l) k).1) (c8 := c8) e52 c53 a1 h1p h6 (by omega) (by omega) (fun g2 w6' w7' F2 A75 => ?_) (l + 1) 0 g f5 (nI l - nI 1) (by omega) (by omega) Fr.rfl' c75 (fun j hj hj2 => absurd hj (by omega)) (by rw [Nat.sub_zero, Int32.sub_eq_add_neg]; rfl)
      · rw [Nat.pow_zero, Nat.div_one] at z0
        exact z0
      have i52 := (F2.2 52 (by omega)).trans e52
      have i53 := (F2.2 53 (by omega)).trans c53
      refine rk_aload_n rfl rfl ?_
      refine rk_iload rfl rfl ?_
      refine rk_cv1i rfl rfl (by assumption) rfl rfl (Nat.le_of_ble_eq_true rfl) (Nat.le_of_ble_eq_true rfl) (s277k i52 i53 hN M1 A75 (fun j _ => dgB_lt h1p) (by omega) hr (S3.fr (F2.2 73 (by omega))) (S4.fr (F2.2 74 (by omega)))) (fun w h1 hF => ?_)
      obtain ⟨rfl, F3, T3, T4⟩ := hF
      have A76 := A75.fr (F3.2 75 (by omega))
      have j52 := (F3.2 52 (by omega)).trans i52
      have j53 := (F3.2 53 (by omega)).trans i53
      have F4 : FMm h h1 := F.tr ((FMm.r F2 (by omega)).tr (FMm.r F3 (by omega)))
      have T5 : ShI h1 75 4 := by
        obtain ⟨f6, y1, -⟩ := A76
        exact ⟨f6, y1⟩
      refine rk_istore rfl (Nat.le_of_ble_eq_true rfl) rfl ?_
      refine rk_iload_n rfl rfl ?_
      refine rk_iconst (v := (-1)) rfl (by decide) ?_
      refine rk_icmp_eq rfl rfl (fun hc65 => ?_) (fun hc65 => ?_)
      · have hle : (inB N l (ouB N l) k).1 ≤ vB N l k := by have := (vlB_m1 (by omega)).mp hc65; omega
        refine rk_iload rfl rfl ?_
        refine rk_istore_n rfl (Nat.le_of_ble_eq_true rfl) rfl ?_
        refine rk_aload_n rfl rfl ?_
        refine rk_get rfl (by assumption) rfl ?_
        refine rk_sipush (v := nI 281) rfl (by decide) ?_
        refine rk_iload rfl rfl ?_
        refine rk_iast rfl j53 (rfl) (by omega) (by decide) ?_
        refine hp_gen j53 (fun h1 g1 hk1 hl1 => ?_)
        replace j52 := (hk1 _ (by omega)).trans j52
        replace F4 := F4.tr (FMm.r (Fr.mk1 (b := 53) (c := 54) hk1 hl1 (by omega) (by omega)) (by omega))
        replace A76 := A76.fr (hk1 75 (by omega))
        replace T3 := T3.fr (hk1 73 (by omega))
        replace T4 := T4.fr (hk1 74 (by omega))
        replace T5 := T5.fr (hk1 75 (by omega))
        replace j53 := g1
        refine rk_iconst (v := nI 0) rfl (by decide) ?_
        refine rk_istore rfl (Nat.le_of_ble_eq_true rfl) rfl ?_
        have hs2 : inB N l (ouB N l) (k + 1) = (vB N l k + 1, l, dgB (N 1) l k) := hst.trans (if_pos hle)
        refine l279c (A := A) j52 A76 (by omega) (fun g3 A2 c9 F5 d53 q1 q2 q3 => ?_) (l + 1) 0 _ _ (by omega) (by omega) Fr.rfl' j53 (fun q hq => ?_) ?_ (fun j hj => absurd hj (by omega))
        · refine rk_iinc rfl rfl (n_inc _) rfl ?_
          refine rk_goto rfl rfl ?_
          have z1 := ih (k + 1) g3 A2 (some (.int w6')) (some (.int (nI (vB N l k)))) c9 (by omega) (by omega) (F4.tr (FMm.r F5 (by omega))) (T3.fr (F5.2 73 (by omega))) (T4.fr (F5.2 74 (by omega))) (T5.fr (F5.2 75 (by omega))) d53 ⟨q1, fun _ => by rw [hs2]; exact ⟨q2, q3⟩⟩
          rw [hs2] at z1
          rw [show vlB (vB N l k + 1, l, dgB (N 1) l k).1 = nI (vB N l k) from vlB_s _] at z1
          exact z1
        · simp only [upd]; rw [if_neg (by omega)]; exact FM.1 q hq
        · simp only [upd]; rw [if_pos trivial]
      · refine rk_iload rfl rfl ?_
        refine rk_iload_n rfl rfl ?_
        refine rk_icmp_gt rfl rfl (fun hc68 => ?_) (fun hc68 => ?_)
        · have hle : (inB N l (ouB N l) k).1 ≤ vB N l k := Decidable.not_not.mp (mt (vlB_le (v := vB N l k) (by omega) (by omega)).mpr (fun z => i32_le.mp z hc68))
          refine rk_iload rfl rfl ?_
          refine rk_istore_n rfl (Nat.le_of_ble_eq_true rfl) rfl ?_
          refine rk_aload_n rfl rfl ?_
          refine rk_get rfl (by assumption) rfl ?_
          refine rk_sipush (v := nI 281) rfl (by decide) ?_
          refine rk_iload rfl rfl ?_
          refine rk_iast rfl j53 (rfl) (by omega) (by decide) ?_
          refine hp_gen j53 (fun h1 g1 hk1 hl1 => ?_)
          replace j52 := (hk1 _ (by omega)).trans j52
          replace F4 := F4.tr (FMm.r (Fr.mk1 (b := 53) (c := 54) hk1 hl1 (by omega) (by omega)) (by omega))
          replace A76 := A76.fr (hk1 75 (by omega))
          replace T3 := T3.fr (hk1 73 (by omega))
          replace T4 := T4.fr (hk1 74 (by omega))
          replace T5 := T5.fr (hk1 75 (by omega))
          replace j53 := g1
          refine rk_iconst (v := nI 0) rfl (by decide) ?_
          refine rk_istore rfl (Nat.le_of_ble_eq_true rfl) rfl ?_
          have hs2 : inB N l (ouB N l) (k + 1) = (vB N l k + 1, l, dgB (N 1) l k) := hst.trans (if_pos hle)
          refine l279c (A := A) j52 A76 (by omega) (fun g3 A2 c9 F5 d53 q1 q2 q3 => ?_) (l + 1) 0 _ _ (by omega) (by omega) Fr.rfl' j53 (fun q hq => ?_) ?_ (fun j hj => absurd hj (by omega))
          · refine rk_iinc rfl rfl (n_inc _) rfl ?_
            refine rk_goto rfl rfl ?_
            have z1 := ih (k + 1) g3 A2 (some (.int w6')) (some (.int (nI (vB N l k)))) c9 (by omega) (by omega) (F4.tr (FMm.r F5 (by omega))) (T3.fr (F5.2 73 (by omega))) (T4.fr (F5.2 74 (by omega))) (T5.fr (F5.2 75 (by omega))) d53 ⟨q1, fun _ => by rw [hs2]; exact ⟨q2, q3⟩⟩
            rw [hs2] at z1
            rw [show vlB (vB N l k + 1, l, dgB (N 1) l k).1 = nI (vB N l k) from vlB_s _] at z1
            exact z1
          · simp only [upd]; rw [if_neg (by omega)]; exact FM.1 q hq
          · simp only [upd]; rw [if_pos trivial]
        · have hle := (vlB_le (v := vB N l k) (by omega) (by omega)).mp (i32_le.mpr hc68)
          have hs2 : inB N l (ouB N l) (k + 1) = inB N l (ouB N l) k := hst.trans (if_neg hle)
          refine rk_goto rfl rfl ?_
          refine rk_iinc rfl rfl (n_inc _) rfl ?_
          refine rk_goto rfl rfl ?_
          have z1 := ih (k + 1) _ _ (some (.int w6')) (some (.int (nI (vB N l k)))) c8 (by omega) (by omega) F4 T3 T4 T5 j53 (by rw [hs2]; exact FM)
          rw [hs2] at z1
          exact z1
theorem l279 {X : ai_X} {h : ai_H} {v A : Nat → Int32} {N : Nat → Nat} {n : Nat} (c0 : h[52]? = some (cMdl v)) (hN : HN N) (M : MH A N) (h0 : ¬ N 0 = 0) (hn4 : n ≤ 4) : ∀ (d : Nat) (l : Nat) (g : ai_H) (A1 : Nat → Int32) (c5 c6 c7 c8 : Option Value), n + 1 < l + d → (l ≤ n + 1) → (FMm h g) → (ShJ g 73 14) → (ShJ g 74 14) → (ShI g 75 4) → (g[53]? = some (cI 2346 A1)) → (FoundM A A1 (ouB N l)) → Rk X am_279 24 [some (.ref 52), some (.int (nI n)), some (.int (vlB (ouB N l).1)), some (.int (nI (N 1 ^ l))), some (.int (nI l)), c5, c6, c7, c8] [] g (Qi (fun w h1 => w = vlB (ouB N (n + 1)).1 ∧ FMm h h1 ∧ ∃ A1, h1[53]? = some (cI 2346 A1) ∧ FoundM A A1 (ouB N (n + 1)))) := by
  intro d
  induction d with
  | zero => intro l g A1 c5 c6 c7 c8 hd hl F S3 S4 S5 c53 FM; exfalso; omega
  | succ d ih =>
    intro l g A1 c5 c6 c7 c8 hd hl F S3 S4 S5 c53 FM
    have e52 := (F.2 52 (by omega) (by omega)).trans c0
    have h1p : 0 < N 1 := by have := hN.1; omega
    have h6 := hN.t
    have hr : N 270 < N 0 := by have := hN.2.2.1; omega
    have M1 : MH A1 N := M.up hN (fun q _ => FM.1 q (by omega))
    obtain ⟨a0, a1, a268, a269, a270, a271, apl, apc, aot, asg, awt⟩ := id M1
    refine rk_iload rfl rfl ?_
    refine rk_iload_n rfl rfl ?_
    refine rk_icmp_gt rfl rfl (fun hc26 => ?_) (fun hc26 => ?_)
    · replace hc26 := (nI_ltI (by omega) (by omega)).mp hc26
      refine rk_iload_n rfl rfl ?_
      have hl2 : l = n + 1 := by omega
      subst hl2
      exact rk_ireturn rfl rfl ⟨_, _, rfl, rfl, F, A1, c53, FM⟩
    · replace hc26 := mt (nI_ltI (by omega) (by omega)).mpr hc26
      refine rk_iconst (v := nI 0) rfl (by decide) ?_
      refine rk_istore rfl (Nat.le_of_ble_eq_true rfl) rfl ?_
      refine l279i (h := h) c0 hN M h0 hn4 (l := l) (by omega) (fun g2 A2 c5' c6' c7' c8' F3 T3 T4 T5 d53 FM3 => ?_) (N 1 ^ l + 1) 0 g A1 _ _ _ (by omega) (Nat.zero_le _) F S3 S4 S5 c53 FM
      have j52 := (F3.2 52 (by omega) (by omega)).trans c0
      have b1 : A2 1 = nI (N 1) := (FM3.1 1 (by omega)).trans M.2.1
      refine rk_iload_n rfl rfl ?_
      refine rk_aload_n rfl rfl ?_
      refine rk_get rfl (by assumption) rfl ?_
      refine rk_iconst (v := nI 1) rfl (by decide) ?_
      refine rk_iald rfl d53 rfl (by omega) (by decide) ?_
      rw [b1]
      refine rk_imul rfl (pk_mul _ _) ?_
      refine rk_istore_n rfl (Nat.le_of_ble_eq_true rfl) rfl ?_
      refine rk_iinc rfl rfl (n_inc _) rfl ?_
      refine rk_goto rfl rfl ?_
      rw [← Nat.pow_succ]
      exact ih (l + 1) g2 A2 _ _ _ _ (by omega) (by omega) F3 T3 T4 T5 d53 FM3
theorem m279_e {X : ai_X} {h : ai_H} {v A : Nat → Int32} {N : Nat → Nat} (c0 : h[52]? = some (cMdl v)) (c1 : h[53]? = some (cI 2346 A)) (hN : HN N) (M : MH A N) {a : Int32} (h0 : N 0 = 0) : Rk X am_279 3 (ai_loc (ai_mL am_279) [.ref 52, .int a]) [] h (Qe (-5) h) := by
  obtain ⟨a0, a1, a268, a269, a270, a271, apl, apc, aot, asg, awt⟩ := id M
  have hn := hN.n
  refine rk_aload_n rfl rfl ?_
  refine rk_get rfl (by assumption) rfl ?_
  refine rk_iconst (v := nI 0) rfl (by decide) ?_
  refine rk_iald rfl (by assumption) (rfl) (by omega) (by decide) ?_
  rw [a0]
  refine rk_if_ne rfl rfl (fun hc7 => ?_) (fun hc7 => ?_)
  · replace hc7 := mt (n0_eq (by omega)).mpr hc7
    omega
  · replace hc7 := Decidable.not_not.mp hc7
    replace hc7 := (n0_eq (by omega)).mp hc7
    refine rk_bipush (v := (-5)) rfl (by decide) ?_
    exact rk_ireturn rfl rfl Qe_mk
theorem m279_x {X : ai_X} {h : ai_H} {v A : Nat → Int32} {N : Nat → Nat} (c0 : h[52]? = some (cMdl v)) (c1 : h[53]? = some (cI 2346 A)) (hN : HN N) (M : MH A N) {a : Int32} (h0 : ¬ N 0 = 0) (ha : ¬ (¬ a < 0 ∧ ¬ nI 4 < a)) : Rk X am_279 3 (ai_loc (ai_mL am_279) [.ref 52, .int a]) [] h (Qe (-3) h) := by
  obtain ⟨a0, a1, a268, a269, a270, a271, apl, apc, aot, asg, awt⟩ := id M
  have hn := hN.n
  refine rk_aload_n rfl rfl ?_
  refine rk_get rfl (by assumption) rfl ?_
  refine rk_iconst (v := nI 0) rfl (by decide) ?_
  refine rk_iald rfl (by assumption) (rfl) (by omega) (by decide) ?_
  rw [a0]
  refine rk_if_ne rfl rfl (fun hc7 => ?_) (fun hc7 => ?_)
  · replace hc7 := mt (n0_eq (by omega)).mpr hc7
    refine rk_iload_n rfl rfl ?_
    refine rk_i2l rfl rfl ?_
    refine rk_lconst (v := 0) rfl (by decide) ?_
    rw [show (0 : Int64) = (0 : Int32).toInt64 by decide]
    refine rk_ldc2 rfl ?_
    rw [show (4 : Int64) = (nI 4).toInt64 by decide]
    refine rk_cs3e rfl rfl rfl (Nat.le_of_ble_eq_true rfl) (Nat.le_of_ble_eq_true rfl) (s181 _ _ _) ?_
    refine rk_if_ne rfl rfl (fun hc15 => ?_) (fun hc15 => ?_)
    · replace hc15 := Decidable.not_not.mp (mt bI_0.mpr hc15)
      exact absurd hc15 ha
    · replace hc15 := Decidable.not_not.mp hc15
      replace hc15 := (bI_0).mp hc15
      refine rk_bipush (v := (-3)) rfl (by decide) ?_
      exact rk_ireturn rfl rfl Qe_mk
  · replace hc7 := Decidable.not_not.mp hc7
    replace hc7 := (n0_eq (by omega)).mp hc7
    omega
theorem m279_v {X : ai_X} {h : ai_H} {v A : Nat → Int32} {N : Nat → Nat} (c0 : h[52]? = some (cMdl v)) (c1 : h[53]? = some (cI 2346 A)) (hN : HN N) (M : MH A N) {n : Nat} (h0 : ¬ N 0 = 0) (hn4 : n ≤ 4) (S3 : ShJ h 73 14) (S4 : ShJ h 74 14) (S5 : ShI h 75 4) : Rk X am_279 3 (ai_loc (ai_mL am_279) [.ref 52, .int (nI n)]) [] h (Qi (fun w h1 => w = vlB (ouB N (n + 1)).1 ∧ FMm h h1 ∧ ∃ A1, h1[53]? = some (cI 2346 A1) ∧ FoundM A A1 (ouB N (n + 1)))) := by
  obtain ⟨a0, a1, a268, a269, a270, a271, apl, apc, aot, asg, awt⟩ := id M
  have hn := hN.n
  refine rk_aload_n rfl rfl ?_
  refine rk_get rfl (by assumption) rfl ?_
  refine rk_iconst (v := nI 0) rfl (by decide) ?_
  refine rk_iald rfl (by assumption) (rfl) (by omega) (by decide) ?_
  rw [a0]
  refine rk_if_ne rfl rfl (fun hc7 => ?_) (fun hc7 => ?_)
  · replace hc7 := mt (n0_eq (by omega)).mpr hc7
    refine rk_iload_n rfl rfl ?_
    refine rk_i2l rfl rfl ?_
    refine rk_lconst (v := 0) rfl (by decide) ?_
    rw [show (0 : Int64) = (0 : Int32).toInt64 by decide]
    refine rk_ldc2 rfl ?_
    rw [show (4 : Int64) = (nI 4).toInt64 by decide]
    refine rk_cs3e rfl rfl rfl (Nat.le_of_ble_eq_true rfl) (Nat.le_of_ble_eq_true rfl) (s181 _ _ _) ?_
    refine rk_if_ne rfl rfl (fun hc15 => ?_) (fun hc15 => ?_)
    · replace hc15 := Decidable.not_not.mp (mt bI_0.mpr hc15)
      refine rk_iconst (v := (-1)) rfl (by decide) ?_
      refine rk_istore_n rfl (Nat.le_of_ble_eq_true rfl) rfl ?_
      refine rk_iconst (v := nI 1) rfl (by decide) ?_
      refine rk_istore_n rfl (Nat.le_of_ble_eq_true rfl) rfl ?_
      refine rk_iconst (v := nI 0) rfl (by decide) ?_
      refine rk_istore rfl (Nat.le_of_ble_eq_true rfl) rfl ?_
      exact l279 c0 hN M h0 hn4 (n + 2) 0 h A _ _ _ _ (by omega) (by omega) FMm.rf S3 S4 S5 c1 ⟨fun _ _ => rfl, fun z => absurd z (by show ¬ 0 < 0; omega)⟩
    · replace hc15 := Decidable.not_not.mp hc15
      replace hc15 := (bI_0).mp hc15
      exact absurd (w4_mk hn4) hc15
  · replace hc7 := Decidable.not_not.mp hc7
    replace hc7 := (n0_eq (by omega)).mp hc7
    omega
theorem fin_b {m c s : Nat} {h h1 h2 h3 : ai_H} {tp : Nat} {T A A1 im rs rm v : Nat → Int32} {nu : Nat → Int64} {fk fp : Int32} {b : Nat → Option Nat} {N : Nat → Nat} {z : BS} (hP : InvP m c s h tp T A im rs rm nu fk fp b) (hV : HV A 0 (N 0) (N 1) (N 271)) (d52 : h[52]? = some (cMdl v)) (F1 : FBc h h1) (FC1 : FoundC h1 z) (R17 : ∃ n f, RouteAt h1 17 n f) (g2 : h2[52]? = some (cMdl (upd v 0 (nI 0)))) (hk : ∀ q : Nat, q ≠ 52 → h2[q]? = h1[q]?) (hl : h2.length = h1.length) (F3 : FMm h2 h3) (c53 : h3[53]? = some (cI 2346 A1)) (FM3 : FoundM A A1 z) (hz : 0 < z.1) (hz2 : BOk N z) (k : ai_Sk h h3) : Inv (m + 1) (c + 0) (s + 0) h3 := by
  obtain ⟨hA, hBB, hR, hI, hS, hO, hM, hVV, hD, hc, hs⟩ := id hP
  have h80 := hM.len
  have kk : ∀ q : Nat, q ≠ 52 → q ≠ 53 → ¬ (73 ≤ q ∧ q < 76) → h3[q]? = h1[q]? := fun q a1 a2 a3 => (F3.2 q a2 a3).trans (hk q a1)
  have k8 : ∀ q : Nat, ¬ (15 ≤ q ∧ q < 19) → ¬ (42 ≤ q ∧ q < 44) → q ≠ 52 → q ≠ 53 → ¬ (73 ≤ q ∧ q < 76) → h3[q]? = h[q]? := fun q a0 a1 a2 a3 a4 => (kk q a2 a3 a4).trans (F1.2 q a0 a1)
  have hlen3 : h3.length = h.length := (F3.1.trans hl).trans F1.1
  obtain ⟨n33, y4⟩ := hO.led
  obtain ⟨q1, q2⟩ := FM3.2 hz
  have hz4 := hz2.l
  refine Inv.srch (b1 := b) hP k ?_ ?_ rfl rfl (hD.fr (by omega)) (by omega) (by omega) ?_ ?_ ?_ ⟨n33, (k8 33 (by omega) (by omega) (by omega) (by omega) (by omega)).trans y4⟩ ?_ c53 FM3.1 ?_
  · exact fun q hq kp hbl => k8 q (by omega) (by omega) (by omega) (by omega) (by omega)
  · exact hS.fr (fun q _ _ => k8 q (by omega) (by omega) (by omega) (by omega) (by omega)) (fun i p _ hi e q _ _ => by
      have := (hD i p hi e).1
      exact k8 q (by omega) (by omega) (by omega) (by omega) (by omega))
  · obtain ⟨F9, G9, z⟩ := hBB.2.1
    exact ⟨F9, G9, z.fr (fun q _ _ => k8 q (by omega) (by omega) (by omega) (by omega) (by omega))⟩
  · obtain ⟨f', r', c'⟩ := FC1.2 hz
    refine ⟨_, f', r'.fr (fun q _ _ => kk q (by omega) (by omega) (by omega)), ?_, fun i hi => ?_⟩
    · rw [Nat.zero_add]; exact q1.symm
    · rw [Nat.zero_add, q1, nI_clamp (by omega)] at hi
      rw [c' i hi, Nat.zero_add, q2 i hi]
  · obtain ⟨n, f, z⟩ := R17
    exact ⟨n, f, z.fr (fun q _ _ => kk q (by omega) (by omega) (by omega))⟩
  · obtain ⟨⟨v', mk, e1, e2, e3, e4, e5, e6, sm, e7, e8⟩, -⟩ := hM
    rw [d52] at e1
    obtain ⟨x1, x2, x3, x4⟩ := cMdl_inj (Option.some.inj e1)
    exact ⟨_, mk, (F3.2 52 (by omega) (by omega)).trans g2, x1.trans e2, x2.trans e3, x3.trans e4, x4.trans e5, by omega, sm, (k8 62 (by omega) (by omega) (by omega) (by omega) (by omega)).trans e7, e8⟩
  · intro n t w hV' _
    have ht : t = N 1 := by
      have e1 := hV'.2.1
      have e2 := hV.2.1
      rw [e2] at e1
      have a1 := hV.2.2.2.2.2.1
      have a2 := hV'.2.2.2.2.2.1
      exact ((nI_eq (by omega) (by omega)).mp e1).symm
    subst ht
    exact Or.inr ⟨_, by omega, by rw [Nat.zero_add]; exact q1, fun i hi => ⟨_, hz2.x i hi, by rw [Nat.zero_add]; exact q2 i hi⟩⟩
theorem ob37 (X : ai_X) : O37 X Inv := by
  intro a0
  refine ob_gen fun m c s h hm I => ?_
  obtain ⟨tp, T, A, im, rs, rm, nu, fk, fp, b, hP⟩ := id I
  obtain ⟨N, mk, hN, C, M, -, hV, hFV, H, hmk, hv⟩ := Inv.sdat hP hm
  obtain ⟨hA, hB, hR, hI, hS, hO, hM, hVV, hD, hc, hs⟩ := id hP
  obtain ⟨v, d52⟩ := I.m52
  obtain ⟨S73, S74, S75⟩ := I.s734
  obtain ⟨d41, S42, S43⟩ := hO.ch
  have d53 := hM.2.1
  have d0 := hA.1
  obtain ⟨-, R9, ⟨n0, f0, R, hFC⟩, R17⟩ := id hB
  by_cases h0 : N 0 = 0
  · exact og_pure I (c170_e d0 hN C h0) (md_thr rfl rfl rfl rfl d52 (fun h2 g2 hk => m279_e g2 ((hk 53 (by omega)).trans d53) hN M h0))
  by_cases ha : ¬ a0 < 0 ∧ ¬ nI 4 < a0
  · obtain ⟨n, hn4, rfl⟩ := w4_of ha
    refine ⟨_, _, c170_v d0 hN C h0 hn4 d41 S42 S43 ⟨n0, f0, R⟩ R17, ?_⟩
    rintro h1 ⟨F1, FC1, R1⟩ k1
    have e52 := (F1.2 52 (by omega) (by omega)).trans d52
    refine ⟨⟨_, e52⟩, md_g rfl rfl rfl rfl e52 (fun h2 g2 hk hl => ?_)⟩
    refine (m279_v g2 ((hk 53 (by omega)).trans ((F1.2 53 (by omega) (by omega)).trans d53)) hN M h0 hn4 (S73.fr ((hk 73 (by omega)).trans (F1.2 73 (by omega) (by omega)))) (S74.fr ((hk 74 (by omega)).trans (F1.2 74 (by omega) (by omega)))) (S75.fr ((hk 75 (by omega)).trans (F1.2 75 (by omega) (by omega))))).mono ?_
    rintro o ⟨y, h3, e1, hy, F3, A1, c53, FM3⟩
    subst e1
    exact ⟨_, _, rfl, hy, fun k2 => fin_b hP hV d52 F1 FC1 R1 g2 hk hl F3 c53 FM3 (ouB_pos n) (BOk.ou hN (by have := hN.1; omega) (n + 1) (by omega)) (k1.trans k2)⟩
  · exact og_pure I (c170_x d0 hN C h0 ha) (md_thr rfl rfl rfl rfl d52 (fun h2 g2 hk => m279_x g2 ((hk 53 (by omega)).trans d53) hN M h0 ha))
