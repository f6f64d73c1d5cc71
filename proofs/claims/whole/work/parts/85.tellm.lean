/-! TELLING: the model, the obligation -/
def FMt (h g : ai_H) : Prop := g.length = h.length ∧ ∀ q : Nat, q ≠ 53 → ¬ (67 ≤ q ∧ q < 70) → g[q]? = h[q]?
theorem FMt.tr {h g k : ai_H} (x : FMt h g) (y : FMt g k) : FMt h k := ⟨y.1.trans x.1, fun q a b => (y.2 q a b).trans (x.2 q a b)⟩
theorem FMt.rf {h : ai_H} : FMt h h := ⟨rfl, fun _ _ _ => rfl⟩
theorem FMt.r {h g : ai_H} {a b : Nat} (F : Fr a b h g) (ha : (67 ≤ a ∧ b ≤ 70) ∨ (53 ≤ a ∧ b ≤ 54)) : FMt h g := ⟨F.1, fun q x y => F.2 q (by omega)⟩
def FoundN (A A1 : Nat → Int32) (s : BS) : Prop := (∀ q, ¬ (281 ≤ q ∧ q < 782) → A1 q = A q) ∧ (s.1 < 15 → A1 281 = nI s.2.1 ∧ ∀ j, j < s.2.1 → A1 (282 + j) = nI (s.2.2 j))
def vlT (b : Nat) : Int32 := if b = 15 then -1 else nI b
theorem vlT_m1 {b : Nat} (hb : b < 2 ^ 30) : vlT b = -1 ↔ b = 15 := by
  unfold vlT
  by_cases h : b = 15
  · rw [if_pos h]; exact ⟨fun _ => h, fun _ => rfl⟩
  · rw [if_neg h]; exact ⟨fun z => absurd z (nm_eq (by omega)), fun z => absurd z h⟩
theorem pdiv {T m : Nat} (hT : 0 < T) (hm : 0 < m) : T ^ m / T = T ^ (m - 1) := by
  obtain ⟨a, rfl⟩ : ∃ a, m = a + 1 := ⟨m - 1, by omega⟩
  rw [Nat.pow_succ, Nat.mul_div_cancel _ hT, Nat.add_sub_cancel]
theorem dg_at {T n c k : Nat} (hk : k < n) : c / T ^ (n - k - 1) % T = dgB T n c k := by
  unfold dgB
  rw [show n - 1 - k = n - k - 1 by omega]
theorem tp_le {T n m : Nat} (hT : T ≤ 6) (hn : n ≤ 5) (h0 : 0 < T) (hm : m ≤ n) : T ^ m ≤ 7776 ∧ 0 < T ^ m := ⟨p7776 hT (by omega) h0, Nat.pow_pos h0⟩
theorem l258k {X : ai_X} {h : ai_H} {v A1 : Nat → Int32} {N : Nat → Nat} {S n c : Nat} {now : Bool} {y3 : Int32} (c0 : h[52]? = some (cMdl v)) (c53 : h[53]? = some (cI 2346 A1)) (hN : HN N) (M1 : MH A1 N) (h1p : 0 < N 1) (hn5 : n ≤ 5) (hc : c < N 1 ^ n) {x9 : Option Value} {P : ai_O → Prop} (z : ∀ g (y7 y8 : Int32), Fr 67 70 h g → MSt g N (dgB (N 1) n c) n → ShI g 69 14 → Rk X am_258 51 [some (.ref 52), some (.int (nI S)), some (.int (bI (now = true))), some (.int y3), some (.int (nI (N 1 ^ n))), some (.int (nI n)), some (.int (nI c)), some (.int y7), some (.int y8), x9] [] g P) : ∀ (d : Nat) (k : Nat) (g : ai_H), n < k + d → (k ≤ n) → (Fr 67 70 h g) → (MSt g N (dgB (N 1) n c) k) → (ShI g 69 14) → Rk X am_258 29 [some (.ref 52), some (.int (nI S)), some (.int (bI (now = true))), some (.int y3), some (.int (nI (N 1 ^ n))), some (.int (nI n)), some (.int (nI c)), some (.int (nI (N 1 ^ (n - k)))), some (.int (nI k)), x9] [] g (P) := by
  intro d
  induction d with
  | zero => intro k g hd hk F H S69; exfalso; omega
  | succ d ih =>
    intro k g hd hk F H S69
    obtain ⟨a0, a1, a268, a269, a270, a271, apl, apc, aot, asg, awt⟩ := id M1
    have h6 := hN.t
    have hT1 := tp_le (m := n) h6 hn5 h1p (Nat.le_refl _)
    have hT2 := tp_le (m := n - k) h6 hn5 h1p (by omega)
    have hT3 := tp_le (m := n - k - 1) h6 hn5 h1p (by omega)
    have hpd : k < n → N 1 ^ (n - k) / N 1 = N 1 ^ (n - k - 1) := fun y => pdiv h1p (by omega)
    have hdq : c / N 1 ^ (n - k - 1) ≤ c := Nat.div_le_self _ _
    have hdg : k < n → c / N 1 ^ (n - k - 1) % N 1 = dgB (N 1) n c k := fun y => dg_at y
    have e52 := (F.2 52 (by omega)).trans c0
    have e53 := (F.2 53 (by omega)).trans c53
    refine rk_iload rfl rfl ?_
    refine rk_iload rfl rfl ?_
    refine rk_icmp_ge rfl rfl (fun hc31 => ?_) (fun hc31 => ?_)
    · replace hc31 := (nI_leI (by omega) (by omega)).mp hc31
      have hk2 : k = n := by omega
      subst hk2
      exact z g _ _ F H S69
    · replace hc31 := mt (nI_leI (by omega) (by omega)).mpr hc31
      refine rk_iload rfl rfl ?_
      refine rk_aload_n rfl rfl ?_
      refine rk_get rfl (by assumption) rfl ?_
      refine rk_iconst (v := nI 1) rfl (by decide) ?_
      refine rk_iald rfl (by assumption) (rfl) (by omega) (by decide) ?_
      rw [a1]
      refine rk_idiv rfl (nI_ne0 (by omega) (by omega)) (pk_div (by omega) (by omega) (by omega)) ?_
      rw [hpd (by omega)]
      refine rk_istore rfl (Nat.le_of_ble_eq_true rfl) rfl ?_
      refine rk_aload_n rfl rfl ?_
      refine rk_iload rfl rfl ?_
      refine rk_iload rfl rfl ?_
      refine rk_idiv rfl (nI_ne0 (by omega) (by omega)) (pk_div (by omega) (by omega) (by omega)) ?_
      refine rk_aload_n rfl rfl ?_
      refine rk_get rfl (by assumption) rfl ?_
      refine rk_iconst (v := nI 1) rfl (by decide) ?_
      refine rk_iald rfl (by assumption) (rfl) (by omega) (by decide) ?_
      rw [a1]
      refine rk_irem rfl (nI_ne0 (by omega) (by omega)) (pk_rem (by omega) (by omega) (by omega)) ?_
      rw [hdg (by omega)]
      refine rk_cv1v rfl rfl (by assumption) rfl rfl (Nat.le_of_ble_eq_true rfl) (Nat.le_of_ble_eq_true rfl) ((s255 e52 e53 hN M1 (fun i _ => dgB_lt h1p) H S69).skv) (fun h1 hF => ?_)
      obtain ⟨⟨F1, H1⟩, k1⟩ := hF
      refine rk_iinc rfl rfl (n_inc _) rfl ?_
      refine rk_goto rfl rfl ?_
      exact ih (k + 1) _ (by omega) (by omega) (F.tr F1) H1 (S69.sk k1)
theorem l258w {X : ai_X} {h : ai_H} {v A : Nat → Int32} {N : Nat → Nat} {S n c : Nat} {now : Bool} {y3 : Int32} (c0 : h[52]? = some (cMdl v)) (hN : HN N) (h1p : 0 < N 1) (hn5 : n ≤ 5) (hc : c < N 1 ^ n) (M : MH A N) {y8 : Int32} {P : ai_O → Prop} (z : ∀ g A2 (y7 : Int32) c9, Fr 53 54 h g → g[53]? = some (cI 2346 A2) → (∀ q, ¬ (281 ≤ q ∧ q < 782) → A2 q = A q) → A2 281 = nI n → (∀ j, j < n → A2 (282 + j) = nI (dgB (N 1) n c j)) → Rk X am_258 100 [some (.ref 52), some (.int (nI S)), some (.int (bI (now = true))), some (.int y3), some (.int (nI (N 1 ^ n))), some (.int (nI n)), some (.int (nI c)), some (.int y7), some (.int y8), c9] [] g P) : ∀ (d : Nat) (k : Nat) (g : ai_H) (A1 : Nat → Int32), n < k + d → (k ≤ n) → (Fr 53 54 h g) → (g[53]? = some (cI 2346 A1)) → (∀ q, ¬ (281 ≤ q ∧ q < 782) → A1 q = A q) → (A1 281 = nI n) → (∀ j, j < k → A1 (282 + j) = nI (dgB (N 1) n c j)) → Rk X am_258 74 [some (.ref 52), some (.int (nI S)), some (.int (bI (now = true))), some (.int y3), some (.int (nI (N 1 ^ n))), some (.int (nI n)), some (.int (nI c)), some (.int (nI (N 1 ^ (n - k)))), some (.int y8), some (.int (nI k))] [] g (P) := by
  intro d
  induction d with
  | zero => intro k g A1 hd hk F c53 hA h281 hx; exfalso; omega
  | succ d ih =>
    intro k g A1 hd hk F c53 hA h281 hx
    have M1 : MH A1 N := M.up hN (fun q _ => hA q (by omega))
    obtain ⟨a0, a1, a268, a269, a270, a271, apl, apc, aot, asg, awt⟩ := id M1
    have h6 := hN.t
    have hT1 := tp_le (m := n) h6 hn5 h1p (Nat.le_refl _)
    have hT2 := tp_le (m := n - k) h6 hn5 h1p (by omega)
    have hT3 := tp_le (m := n - k - 1) h6 hn5 h1p (by omega)
    have hpd : k < n → N 1 ^ (n - k) / N 1 = N 1 ^ (n - k - 1) := fun y => pdiv h1p (by omega)
    have hdq : c / N 1 ^ (n - k - 1) ≤ c := Nat.div_le_self _ _
    have hdg : k < n → c / N 1 ^ (n - k - 1) % N 1 = dgB (N 1) n c k := fun y => dg_at y
    have e52 := (F.2 52 (by omega)).trans c0
    have F0 : Fr 53 54 h g := F
    refine rk_iload rfl rfl ?_
    refine rk_iload rfl rfl ?_
    refine rk_icmp_ge rfl rfl (fun hc76 => ?_) (fun hc76 => ?_)
    · replace hc76 := (nI_leI (by omega) (by omega)).mp hc76
      have hk2 : k = n := by omega
      subst hk2
      exact z g A1 _ _ F c53 hA h281 hx
    · replace hc76 := mt (nI_leI (by omega) (by omega)).mpr hc76
      refine rk_iload rfl rfl ?_
      refine rk_aload_n rfl rfl ?_
      refine rk_get rfl (by assumption) rfl ?_
      refine rk_iconst (v := nI 1) rfl (by decide) ?_
      refine rk_iald rfl (by assumption) (rfl) (by omega) (by decide) ?_
      rw [a1]
      refine rk_idiv rfl (nI_ne0 (by omega) (by omega)) (pk_div (by omega) (by omega) (by omega)) ?_
      rw [hpd (by omega)]
      refine rk_istore rfl (Nat.le_of_ble_eq_true rfl) rfl ?_
      refine rk_aload_n rfl rfl ?_
      refine rk_get rfl (by assumption) rfl ?_
      refine rk_sipush (v := nI 282) rfl (by decide) ?_
      refine rk_iload rfl rfl ?_
      refine rk_iadd rfl (nI_add _ _) ?_
      refine rk_iload rfl rfl ?_
      refine rk_iload rfl rfl ?_
      refine rk_idiv rfl (nI_ne0 (by omega) (by omega)) (pk_div (by omega) (by omega) (by omega)) ?_
      refine rk_aload_n rfl rfl ?_
      refine rk_get rfl (by assumption) rfl ?_
      refine rk_iconst (v := nI 1) rfl (by decide) ?_
      refine rk_iald rfl (by assumption) (rfl) (by omega) (by decide) ?_
      rw [a1]
      refine rk_irem rfl (nI_ne0 (by omega) (by omega)) (pk_rem (by omega) (by omega) (by omega)) ?_
      rw [hdg (by omega)]
      refine rk_iast rfl c53 (rfl) (by omega) (by decide) ?_
      refine hp_gen c53 (fun h1 g1 hk1 hl1 => ?_)
      replace e52 := (hk1 _ (by omega)).trans e52
      replace F0 := F0.tr (Fr.mk1 hk1 hl1 (by omega) (by omega))
      replace c53 := g1
      refine rk_iinc rfl rfl (n_inc _) rfl ?_
      refine rk_goto rfl rfl ?_
      refine ih (k + 1) _ _ (by omega) (by omega) F0 c53 (fun q hq => ?_) ?_ (fun j hj => ?_)
      · simp only [upd]; rw [if_neg (by omega)]; exact hA q hq
      · simp only [upd]; rw [if_neg (by omega)]; exact h281
      · simp only [upd]
        by_cases y : j = k
        · rw [if_pos (by omega), y]
        · rw [if_neg (by omega)]; exact hx j (by omega)
theorem l258c {X : ai_X} {h : ai_H} {v A : Nat → Int32} {N : Nat → Nat} {S : Nat} {now : Bool} (c0 : h[52]? = some (cMdl v)) (hN : HN N) (M : MH A N) (h0 : ¬ N 0 = 0) (hS : S < 2 ^ N 0) {n : Nat} (hn5 : n ≤ 5) {P : ai_O → Prop} (z : ∀ g A1 c6 c7 c8 c9, FMt h g → ShI g 67 14 → ShI g 68 14 → ShI g 69 14 → g[53]? = some (cI 2346 A1) → FoundN A A1 (ouT N S now (n + 1)) → Rk X am_258 102 [some (.ref 52), some (.int (nI S)), some (.int (bI (now = true))), some (.int (vlT (ouT N S now (n + 1)).1)), some (.int (nI (N 1 ^ n))), some (.int (nI n)), c6, c7, c8, c9] [] g P) : ∀ (d : Nat) (c : Nat) (g : ai_H) (A1 : Nat → Int32) (c7 c8 c9 : Option Value), N 1 ^ n < c + d → (c ≤ N 1 ^ n) → (FMt h g) → (ShI g 67 14) → (ShI g 68 14) → (ShI g 69 14) → (g[53]? = some (cI 2346 A1)) → (FoundN A A1 (inT N S now n (ouT N S now n) c)) → Rk X am_258 20 [some (.ref 52), some (.int (nI S)), some (.int (bI (now = true))), some (.int (vlT (inT N S now n (ouT N S now n) c).1)), some (.int (nI (N 1 ^ n))), some (.int (nI n)), some (.int (nI c)), c7, c8, c9] [] g (P) := by
  intro d
  induction d with
  | zero => intro c g A1 c7 c8 c9 hd hc F S67 S68 S69 c53 FM; exfalso; omega
  | succ d ih =>
    intro c g A1 c7 c8 c9 hd hc F S67 S68 S69 c53 FM
    have e52 := (F.2 52 (by omega) (by omega)).trans c0
    have h1p : 0 < N 1 := by have := hN.1; omega
    have h6 := hN.t
    have hp14 := hN.p14
    have M1 : MH A1 N := M.up hN (fun q _ => FM.1 q (by omega))
    obtain ⟨a0, a1, a268, a269, a270, a271, apl, apc, aot, asg, awt⟩ := id M1
    have hp := p7776 h6 hn5 h1p
    have hin1 := (TOk.inn (S := S) (now := now) h1p hn5 (TOk.ou (S := S) (now := now) h1p n (by omega)) c).1
    have hst : inT N S now n (ouT N S now n) (c + 1) = stT N S now n (inT N S now n (ouT N S now n) c) c := rfl
    have hvb := vT_le (S := S) (L := n) (i := c) (now := now) hN
    refine rk_iload rfl rfl ?_
    refine rk_iload rfl rfl ?_
    refine rk_icmp_ge rfl rfl (fun hc22 => ?_) (fun hc22 => ?_)
    · replace hc22 := (nI_leI (by omega) (by omega)).mp hc22
      have hc2 : c = N 1 ^ n := by omega
      subst hc2
      exact z g A1 _ _ _ _ F S67 S68 S69 c53 FM
    · replace hc22 := mt (nI_leI (by omega) (by omega)).mpr hc22
      refine rk_aload_n rfl rfl ?_
      refine rk_cv0v rfl rfl (by assumption) rfl rfl (Nat.le_of_ble_eq_true rfl) (Nat.le_of_ble_eq_true rfl) ((s253 (x := dgB (N 1) n c) e52 c53 hN M1 S67 S68 S69).skv) (fun h1 hF => ?_)
      obtain ⟨⟨F1, H1⟩, k1⟩ := hF
      have f52 := (F1.2 52 (by omega)).trans e52
      have f53 := (F1.2 53 (by omega)).trans c53
      refine rk_iload rfl rfl ?_
      refine rk_istore rfl (Nat.le_of_ble_eq_true rfl) rfl ?_
      refine rk_iconst (v := nI 0) rfl (by decide) ?_
      refine rk_istore rfl (Nat.le_of_ble_eq_true rfl) rfl ?_
      have z0 := l258k (X := X) (P := P) (S := S) (now := now) (y3 := vlT (inT N S now n (ouT N S now n) c).1) (x9 := c9) f52 f53 hN M1 h1p hn5 (show c < N 1 ^ n by omega) (fun g2 y7 y8 F2 H2 T69 => ?_) (n + 1) 0 h1 (by omega) (Nat.zero_le _) Fr.rfl' H1 (S69.sk k1)
      · rw [Nat.sub_zero] at z0
        exact z0
      have i52 := (F2.2 52 (by omega)).trans f52
      have i53 := (F2.2 53 (by omega)).trans f53
      have F4 : FMt h g2 := F.tr ((FMt.r F1 (by omega)).tr (FMt.r F2 (by omega)))
      have T67 : ShI g2 67 14 := by
        obtain ⟨f67, f68, sn, y1, y2, -⟩ := H2
        exact ⟨f67, y1⟩
      have T68 : ShI g2 68 14 := by
        obtain ⟨f67, f68, sn, y1, y2, -⟩ := H2
        exact ⟨f68, y2⟩
      refine rk_aload_n rfl rfl ?_
      refine rk_iload_n rfl rfl ?_
      refine rk_iload_n rfl rfl ?_
      refine rk_cv2e rfl rfl (by assumption) rfl rfl (Nat.le_of_ble_eq_true rfl) (Nat.le_of_ble_eq_true rfl) (s256 (now := now) i52 i53 hN M1 H2 hS (fun i _ => dgB_lt h1p)) ?_
      rw [show dbs N S (dgB (N 1) n c) n now = vT N S now n c from rfl]
      refine rk_istore rfl (Nat.le_of_ble_eq_true rfl) rfl ?_
      refine rk_iload_n rfl rfl ?_
      refine rk_iconst (v := (-1)) rfl (by decide) ?_
      refine rk_icmp_eq rfl rfl (fun hc58 => ?_) (fun hc58 => ?_)
      · have hlt : vT N S now n c < (inT N S now n (ouT N S now n) c).1 := by have := (vlT_m1 (by omega)).mp hc58; omega
        refine rk_iload rfl rfl ?_
        refine rk_istore_n rfl (Nat.le_of_ble_eq_true rfl) rfl ?_
        refine rk_aload_n rfl rfl ?_
        refine rk_get rfl (by assumption) rfl ?_
        refine rk_sipush (v := nI 281) rfl (by decide) ?_
        refine rk_iload rfl rfl ?_
        refine rk_iast rfl i53 (rfl) (by omega) (by decide) ?_
        refine hp_gen i53 (fun h1 g1 hk1 hl1 => ?_)
        replace i52 := (hk1 _ (by omega)).trans i52
        replace F4 := F4.tr (FMt.r (Fr.mk1 (b := 53) (c := 54) hk1 hl1 (by omega) (by omega)) (by omega))
        replace T67 := T67.fr (hk1 67 (by omega))
        replace T68 := T68.fr (hk1 68 (by omega))
        replace T69 := T69.fr (hk1 69 (by omega))
        replace i53 := g1
        refine rk_iload rfl rfl ?_
        refine rk_istore rfl (Nat.le_of_ble_eq_true rfl) rfl ?_
        refine rk_iconst (v := nI 0) rfl (by decide) ?_
        refine rk_istore rfl (Nat.le_of_ble_eq_true rfl) rfl ?_
        have hs2 : inT N S now n (ouT N S now n) (c + 1) = (vT N S now n c, n, dgB (N 1) n c) := hst.trans (if_pos hlt)
        have z0 := l258w (X := X) (P := P) (S := S) (now := now) (A := A) (y3 := nI (vT N S now n c)) (y8 := nI (vT N S now n c)) i52 hN h1p hn5 (show c < N 1 ^ n by omega) M (fun g3 A2 y7' c9' F5 d53 q1 q2 q3 => ?_) (n + 1) 0 _ _ (by omega) (Nat.zero_le _) Fr.rfl' i53 (fun q hq => ?_) ?_ (fun j hj => absurd hj (by omega))
        · rw [Nat.sub_zero] at z0
          exact z0
        · refine rk_iinc rfl rfl (n_inc _) rfl ?_
          refine rk_goto rfl rfl ?_
          have z1 := ih (c + 1) g3 A2 (some (.int y7')) (some (.int (nI (vT N S now n c)))) c9' (by omega) (by omega) (F4.tr (FMt.r F5 (by omega))) (T67.fr (F5.2 67 (by omega))) (T68.fr (F5.2 68 (by omega))) (T69.fr (F5.2 69 (by omega))) d53 ⟨q1, fun _ => by rw [hs2]; exact ⟨q2, q3⟩⟩
          rw [hs2] at z1
          rw [show vlT (vT N S now n c, n, dgB (N 1) n c).1 = nI (vT N S now n c) from if_neg (by show ¬ vT N S now n c = 15; omega)] at z1
          exact z1
        · simp only [upd]; rw [if_neg (by omega)]; exact FM.1 q hq
        · simp only [upd]; rw [if_pos trivial]
      · have h15 : ¬ (inT N S now n (ouT N S now n) c).1 = 15 := fun y => hc58 ((vlT_m1 (by omega)).mpr y)
        have hvl : vlT (inT N S now n (ouT N S now n) c).1 = nI (inT N S now n (ouT N S now n) c).1 := if_neg h15
        rw [hvl]
        refine rk_iload rfl rfl ?_
        refine rk_iload_n rfl rfl ?_
        refine rk_icmp_lt rfl rfl (fun hc61 => ?_) (fun hc61 => ?_)
        · replace hc61 := (nI_ltI (by omega) (by omega)).mp hc61
          have hlt := hc61
          refine rk_iload rfl rfl ?_
          refine rk_istore_n rfl (Nat.le_of_ble_eq_true rfl) rfl ?_
          refine rk_aload_n rfl rfl ?_
          refine rk_get rfl (by assumption) rfl ?_
          refine rk_sipush (v := nI 281) rfl (by decide) ?_
          refine rk_iload rfl rfl ?_
          refine rk_iast rfl i53 (rfl) (by omega) (by decide) ?_
          refine hp_gen i53 (fun h1 g1 hk1 hl1 => ?_)
          replace i52 := (hk1 _ (by omega)).trans i52
          replace F4 := F4.tr (FMt.r (Fr.mk1 (b := 53) (c := 54) hk1 hl1 (by omega) (by omega)) (by omega))
          replace T67 := T67.fr (hk1 67 (by omega))
          replace T68 := T68.fr (hk1 68 (by omega))
          replace T69 := T69.fr (hk1 69 (by omega))
          replace i53 := g1
          refine rk_iload rfl rfl ?_
          refine rk_istore rfl (Nat.le_of_ble_eq_true rfl) rfl ?_
          refine rk_iconst (v := nI 0) rfl (by decide) ?_
          refine rk_istore rfl (Nat.le_of_ble_eq_true rfl) rfl ?_
          have hs2 : inT N S now n (ouT N S now n) (c + 1) = (vT N S now n c, n, dgB (N 1) n c) := hst.trans (if_pos hlt)
          have z0 := l258w (X := X) (P := P) (S := S) (now := now) (A := A) (y3 := nI (vT N S now n c)) (y8 := nI (vT N S now n c)) i52 hN h1p hn5 (show c < N 1 ^ n by omega) M (fun g3 A2 y7' c9' F5 d53 q1 q2 q3 => ?_) (n + 1) 0 _ _ (by omega) (Nat.zero_le _) Fr.rfl' i53 (fun q hq => ?_) ?_ (fun j hj => absurd hj (by omega))
          · rw [Nat.sub_zero] at z0
            exact z0
          · refine rk_iinc rfl rfl (n_inc _) rfl ?_
            refine rk_goto rfl rfl ?_
            have z1 := ih (c + 1) g3 A2 (some (.int y7')) (some (.int (nI (vT N S now n c)))) c9' (by omega) (by omega) (F4.tr (FMt.r F5 (by omega))) (T67.fr (F5.2 67 (by omega))) (T68.fr (F5.2 68 (by omega))) (T69.fr (F5.2 69 (by omega))) d53 ⟨q1, fun _ => by rw [hs2]; exact ⟨q2, q3⟩⟩
            rw [hs2] at z1
            rw [show vlT (vT N S now n c, n, dgB (N 1) n c).1 = nI (vT N S now n c) from if_neg (by show ¬ vT N S now n c = 15; omega)] at z1
            exact z1
          · simp only [upd]; rw [if_neg (by omega)]; exact FM.1 q hq
          · simp only [upd]; rw [if_pos trivial]
        · replace hc61 := mt (nI_ltI (by omega) (by omega)).mpr hc61
          have hs2 : inT N S now n (ouT N S now n) (c + 1) = inT N S now n (ouT N S now n) c := hst.trans (if_neg hc61)
          rw [← hvl]
          refine rk_goto rfl rfl ?_
          refine rk_iinc rfl rfl (n_inc _) rfl ?_
          refine rk_goto rfl rfl ?_
          have z1 := ih (c + 1) _ _ (some (.int y7)) (some (.int (nI (vT N S now n c)))) c9 (by omega) (by omega) F4 T67 T68 T69 i53 (by rw [hs2]; exact FM)
          rw [hs2] at z1
          exact z1
theorem l258 {X : ai_X} {h : ai_H} {v A : Nat → Int32} {N : Nat → Nat} {S : Nat} {now : Bool} (c0 : h[52]? = some (cMdl v)) (hN : HN N) (M : MH A N) (h0 : ¬ N 0 = 0) (hS : S < 2 ^ N 0) : ∀ (d : Nat) (n : Nat) (g : ai_H) (A1 : Nat → Int32) (c6 c7 c8 c9 : Option Value), 6 < n + d → (n ≤ 6) → (FMt h g) → (ShI g 67 14) → (ShI g 68 14) → (ShI g 69 14) → (g[53]? = some (cI 2346 A1)) → (FoundN A A1 (ouT N S now n)) → Rk X am_258 15 [some (.ref 52), some (.int (nI S)), some (.int (bI (now = true))), some (.int (vlT (ouT N S now n).1)), some (.int (nI (N 1 ^ n))), some (.int (nI n)), c6, c7, c8, c9] [] g (Qi (fun w h1 => w = vlT (ouT N S now 6).1 ∧ FMt h h1 ∧ ∃ A1, h1[53]? = some (cI 2346 A1) ∧ FoundN A A1 (ouT N S now 6))) := by
  intro d
  induction d with
  | zero => intro n g A1 c6 c7 c8 c9 hd hn F S67 S68 S69 c53 FM; exfalso; omega
  | succ d ih =>
    intro n g A1 c6 c7 c8 c9 hd hn F S67 S68 S69 c53 FM
    have e52 := (F.2 52 (by omega) (by omega)).trans c0
    have h1p : 0 < N 1 := by have := hN.1; omega
    have h6 := hN.t
    have hp14 := hN.p14
    have M1 : MH A1 N := M.up hN (fun q _ => FM.1 q (by omega))
    obtain ⟨a0, a1, a268, a269, a270, a271, apl, apc, aot, asg, awt⟩ := id M1
    refine rk_iload rfl rfl ?_
    refine rk_iconst (v := nI 5) rfl (by decide) ?_
    refine rk_icmp_gt rfl rfl (fun hc17 => ?_) (fun hc17 => ?_)
    · replace hc17 := (nI_ltI (by omega) (by omega)).mp hc17
      refine rk_iload_n rfl rfl ?_
      have hn2 : n = 6 := by omega
      subst hn2
      exact rk_ireturn rfl rfl ⟨_, _, rfl, rfl, F, A1, c53, FM⟩
    · replace hc17 := mt (nI_ltI (by omega) (by omega)).mpr hc17
      refine rk_iconst (v := nI 0) rfl (by decide) ?_
      refine rk_istore rfl (Nat.le_of_ble_eq_true rfl) rfl ?_
      refine l258c (h := h) c0 hN M h0 hS (n := n) (by omega) (fun g2 A2 c6' c7' c8' c9' F3 T67 T68 T69 d53 FM3 => ?_) (N 1 ^ n + 1) 0 g A1 _ _ _ (by omega) (Nat.zero_le _) F S67 S68 S69 c53 FM
      have j52 := (F3.2 52 (by omega) (by omega)).trans c0
      have b1 : A2 1 = nI (N 1) := (FM3.1 1 (by omega)).trans M.2.1
      refine rk_iload rfl rfl ?_
      refine rk_aload_n rfl rfl ?_
      refine rk_get rfl (by assumption) rfl ?_
      refine rk_iconst (v := nI 1) rfl (by decide) ?_
      refine rk_iald rfl d53 rfl (by omega) (by decide) ?_
      rw [b1]
      refine rk_imul rfl (pk_mul _ _) ?_
      refine rk_istore rfl (Nat.le_of_ble_eq_true rfl) rfl ?_
      refine rk_iinc rfl rfl (n_inc _) rfl ?_
      refine rk_goto rfl rfl ?_
      rw [← Nat.pow_succ]
      exact ih (n + 1) g2 A2 _ _ _ _ (by omega) (by omega) F3 T67 T68 T69 d53 FM3
theorem m258_v {X : ai_X} {h : ai_H} {v A : Nat → Int32} {N : Nat → Nat} (c0 : h[52]? = some (cMdl v)) (c1 : h[53]? = some (cI 2346 A)) (hN : HN N) (M : MH A N) {S : Nat} {now : Bool} (hS : 0 < S ∧ S < 2 ^ N 0) (S67 : ShI h 67 14) (S68 : ShI h 68 14) (S69 : ShI h 69 14) : Rk X am_258 3 (ai_loc (ai_mL am_258) [.ref 52, .int (nI S), .int (bI (now = true))]) [] h (Qi (fun w h1 => w = vlT (ouT N S now 6).1 ∧ FMt h h1 ∧ ∃ A1, h1[53]? = some (cI 2346 A1) ∧ FoundN A A1 (ouT N S now 6))) := by
  have h0 : ¬ N 0 = 0 := fun y => by
    have q := hS.2
    rw [y, Nat.pow_zero] at q
    omega
  refine rk_aload_n rfl rfl ?_
  refine rk_iload_n rfl rfl ?_
  refine rk_cv1e rfl rfl (by assumption) rfl rfl (Nat.le_of_ble_eq_true rfl) (Nat.le_of_ble_eq_true rfl) (s208N c0 c1 hN M _) ?_
  refine rk_if_ne rfl rfl (fun hc6 => ?_) (fun hc6 => ?_)
  · replace hc6 := Decidable.not_not.mp (mt bI_0.mpr hc6)
    refine rk_iconst (v := (-1)) rfl (by decide) ?_
    refine rk_istore_n rfl (Nat.le_of_ble_eq_true rfl) rfl ?_
    refine rk_iconst (v := nI 1) rfl (by decide) ?_
    refine rk_istore rfl (Nat.le_of_ble_eq_true rfl) rfl ?_
    refine rk_iconst (v := nI 0) rfl (by decide) ?_
    refine rk_istore rfl (Nat.le_of_ble_eq_true rfl) rfl ?_
    exact l258 c0 hN M h0 hS.2 7 0 h A _ _ _ _ (by omega) (by omega) FMt.rf S67 S68 S69 c1 ⟨fun _ _ => rfl, fun z => absurd z (Nat.lt_irrefl 15)⟩
  · replace hc6 := Decidable.not_not.mp hc6
    replace hc6 := (bI_0).mp hc6
    exact absurd (isSet_mk hN hS.1 hS.2) hc6
theorem m258_x {X : ai_X} {h : ai_H} {v A : Nat → Int32} {N : Nat → Nat} (c0 : h[52]? = some (cMdl v)) (c1 : h[53]? = some (cI 2346 A)) (hN : HN N) (M : MH A N) {a c : Int32} (hx : ¬ IsSet N a) : Rk X am_258 3 (ai_loc (ai_mL am_258) [.ref 52, .int a, .int c]) [] h (Qe (-3) h) := by
  refine rk_aload_n rfl rfl ?_
  refine rk_iload_n rfl rfl ?_
  refine rk_cv1e rfl rfl (by assumption) rfl rfl (Nat.le_of_ble_eq_true rfl) (Nat.le_of_ble_eq_true rfl) (s208N c0 c1 hN M _) ?_
  refine rk_if_ne rfl rfl (fun hc6 => ?_) (fun hc6 => ?_)
  · replace hc6 := Decidable.not_not.mp (mt bI_0.mpr hc6)
    exact absurd hc6 hx
  · replace hc6 := Decidable.not_not.mp hc6
    replace hc6 := (bI_0).mp hc6
    refine rk_bipush (v := (-3)) rfl (by decide) ?_
    exact rk_ireturn rfl rfl Qe_mk
theorem ob25 (X : ai_X) : O25 X Inv := by
  intro a0 a1
  refine ob_gen fun m c s h hm I => ?_
  obtain ⟨S67, S68, S69⟩ := I.s679
  obtain ⟨tp, T, A, im, rs, rm, nu, fk, fp, b, hP⟩ := id I
  obtain ⟨N, mk, hN, C, M, -, hV, hFV, H, hmk, hv⟩ := Inv.sdat hP hm
  obtain ⟨hA, hB, hR, hI, hS, hO, hM, hVV, hD, hc, hs⟩ := id hP
  obtain ⟨v, d52⟩ := I.m52
  have d53 := hM.2.1
  have d0 := hA.1
  have h80 := hM.len
  obtain ⟨d36, S37, S38, S39, S40⟩ := hO.s36
  obtain ⟨-, ⟨F9, G9, R9⟩, ⟨n0, f0, R, hFC⟩, R17⟩ := id hB
  obtain ⟨n33, d33⟩ := hO.2.1
  have hbc : bI (¬ a1 = 0) = bI (decide (¬ a1 = 0) = true) := bI_congr decide_eq_true_iff.symm
  rw [hbc]
  generalize decide (¬ a1 = 0) = now
  by_cases hx : IsSet N a0
  · obtain ⟨S, s1, s2, rfl⟩ := isSet_of hN hx
    have h1p : 0 < N 1 := by
      have h0 : ¬ N 0 = 0 := fun y => by
        rw [y, Nat.pow_zero] at s2
        omega
      have := hN.1
      omega
    have hok := TOk.ou (N := N) (S := S) (now := now) h1p 6 (Nat.le_refl _)
    have hlt : (ouT N S now 6).1 < 15 := ouT_lt hN 5
    have hvl : vlT (ouT N S now 6).1 = nI (ouT N S now 6).1 := if_neg (by omega)
    generalize hz : ouT N S now 6 = zz at *
    refine ⟨_, _, by have := c156_v (X := X) (now := now) d0 hN C d36 ⟨s1, s2⟩ S37 S38 S39 S40 ⟨n0, f0, R⟩ R17; rw [hz] at this; exact this, ?_⟩
    rintro h1 ⟨F1, FC1, n7, f7, r7⟩ k1
    have e52 := (F1.2 52 (by omega) (by omega)).trans d52
    refine ⟨⟨_, e52⟩, md_g rfl rfl rfl rfl e52 (fun h2 g2 hk hl => ?_)⟩
    have K3 : ∀ q : Nat, ¬ (15 ≤ q ∧ q < 19) → ¬ (37 ≤ q ∧ q < 41) → q ≠ 52 → h2[q]? = h[q]? := fun q a1 a2 a3 => (hk q a3).trans (F1.2 q a1 a2)
    have hmd := m258_v (X := X) (now := now) g2 ((K3 53 (by omega) (by omega) (by omega)).trans d53) hN M ⟨s1, s2⟩ (S67.fr (K3 67 (by omega) (by omega) (by omega))) (S68.fr (K3 68 (by omega) (by omega) (by omega))) (S69.fr (K3 69 (by omega) (by omega) (by omega)))
    rw [hz] at hmd
    refine hmd.mono ?_
    rintro o ⟨y, h3, e1, hy, F3, A1, c53, FM3⟩
    subst e1
    refine ⟨_, _, rfl, hy.trans hvl, fun k2 => ?_⟩
    have K4 : ∀ q : Nat, ¬ (15 ≤ q ∧ q < 19) → ¬ (37 ≤ q ∧ q < 41) → q ≠ 52 → q ≠ 53 → ¬ (67 ≤ q ∧ q < 70) → h3[q]? = h[q]? := fun q a1 a2 a3 a4 a5 => (F3.2 q a4 a5).trans (K3 q a1 a2 a3)
    have K5 : ∀ q : Nat, q ≠ 52 → q ≠ 53 → ¬ (67 ≤ q ∧ q < 70) → h3[q]? = h1[q]? := fun q a1 a2 a3 => (F3.2 q a2 a3).trans (hk q a1)
    have H2 : MQs h2 mk := H.fr (fun q a1 a2 => K3 q (by omega) (by omega) (by omega)) d52 g2 rfl
    have H3 : MR h3 (upd v 0 (nI 0)) mk := (H2.mr g2).fr (fun q hq => F3.2 q (by omega) (by omega))
    obtain ⟨q1, q2⟩ := FM3.2 hlt
    have fd : FD A A1 zz.2.1 zz.2.2 := ⟨q1, q2, FM3.1⟩
    have hl5 := hok.2.1
    exact finW hP hV (by omega) (hv v d52) ((F3.1.trans hl).trans F1.1) (fun q hq => K4 q (by omega) (by omega) (by omega) (by omega) (by omega)) ⟨F9, G9, R9.fr (fun q _ _ => K4 q (by omega) (by omega) (by omega) (by omega) (by omega))⟩ (fd.fc ((FC1.2 hlt).fr' (fun q _ _ => K5 q (by omega) (by omega) (by omega))) (by omega)) ⟨n7, f7, r7.fr (fun q _ _ => K5 q (by omega) (by omega) (by omega))⟩ ⟨n33, (K4 33 (by omega) (by omega) (by omega) (by omega) (by omega)).trans d33⟩ H3.2 c53 FM3.1 (fd.fv (by omega) hok.2.2) (k1.trans k2)
  · exact og_pure I (c156_x d0 hN C hx) (md_thr rfl rfl rfl rfl d52 (fun h2 g2 hk => m258_x g2 ((hk 53 (by omega)).trans d53) hN M hx))
