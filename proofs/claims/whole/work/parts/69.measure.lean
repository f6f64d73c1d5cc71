/-! APARTS: the levels -/
abbrev MA (N : Nat → Nat) (f : Nat → Int64) (K b : Nat) : Prop := ∀ p, p / 14 < N 0 → p % 14 < N 0 → f p = lI (mA N K b p)
theorem mA_0 {N : Nat → Nat} {K p : Nat} : mA N K 0 p = uA N p K := if_neg (by omega)
theorem MA.skip {N : Nat → Nat} {f : Nat → Int64} {K b : Nat} (H : MA N f K b) (hz : ¬ 0 < wA N K b) : MA N f K (b + 1) := by
  intro p h1 h2
  rw [H p h1 h2]
  by_cases q : p = b
  · subst q
    rw [show mA N K p p = uA N p K from if_neg (by omega), show mA N K (p + 1) p = uA N p (K + 1) from if_pos (by omega), uA, if_neg hz]
  · by_cases q2 : p < b
    · rw [show mA N K b p = uA N p (K + 1) from if_pos q2, show mA N K (b + 1) p = uA N p (K + 1) from if_pos (by omega)]
    · rw [show mA N K b p = uA N p K from if_neg q2, show mA N K (b + 1) p = uA N p K from if_neg (by omega)]
theorem MA.put {N : Nat → Nat} {f : Nat → Int64} {K b : Nat} (H : MA N f K b) (hz : 0 < wA N K b) : MA N (vp_updL f b (lI (mA N K b b ||| 2 ^ K))) K (b + 1) := by
  intro p h1 h2
  simp only [vp_updL]
  by_cases q : p = b
  · subst q
    rw [if_pos rfl, show mA N K p p = uA N p K from if_neg (by omega), show mA N K (p + 1) p = uA N p (K + 1) from if_pos (by omega), uA, if_pos hz]
  · rw [if_neg q, H p h1 h2]
    by_cases q2 : p < b
    · rw [show mA N K b p = uA N p (K + 1) from if_pos q2, show mA N K (b + 1) p = uA N p (K + 1) from if_pos (by omega)]
    · rw [show mA N K b p = uA N p K from if_neg q2, show mA N K (b + 1) p = uA N p K from if_neg (by omega)]
theorem MA.row {N : Nat → Nat} {f : Nat → Int64} {K r : Nat} (hn : N 0 ≤ 14) (H : MA N f K (r * 14 + N 0)) : MA N f K ((r + 1) * 14) := by
  intro p h1 h2
  rw [H p h1 h2]
  by_cases q2 : p < r * 14 + N 0
  · rw [show mA N K (r * 14 + N 0) p = uA N p (K + 1) from if_pos q2, show mA N K ((r + 1) * 14) p = uA N p (K + 1) from if_pos (by omega)]
  · rw [show mA N K (r * 14 + N 0) p = uA N p K from if_neg q2, show mA N K ((r + 1) * 14) p = uA N p K from if_neg (by omega)]
theorem MA.lev {N : Nat → Nat} {f : Nat → Int64} {K : Nat} (H : MA N f K (N 0 * 14)) : MA N f (K + 1) 0 := by
  intro p h1 h2
  rw [H p h1 h2, mA_0, show mA N K (N 0 * 14) p = uA N p (K + 1) from if_pos (by omega)]
theorem l66s {X : ai_X} {h : ai_H} {N : Nat → Nat} (hN : HN N) (C : CH h 3 N) (d27 : h[27]? = some cPa) {k : Nat} (hk1 : 1 ≤ k) (hk : k ≤ 40) {r : Nat} (hr : r < N 0) {P : ai_O → Prop} (z : ∀ g f c4, Fr 32 33 h g → g[32]? = some (cJ 196 f) → MA N f k (r * 14 + N 0) → Rk X am_66 37 [some (.ref 27), some (.ref 3), some (.int (nI k)), some (.int (nI r)), c4] [] g P) : ∀ (d : Nat) (s : Nat) (g : ai_H) (f : Nat → Int64), N 0 < s + d → (s ≤ N 0) → (Fr 32 33 h g) → (g[32]? = some (cJ 196 f)) → (MA N f k (r * 14 + s)) → Rk X am_66 8 [some (.ref 27), some (.ref 3), some (.int (nI k)), some (.int (nI r)), some (.int (nI s))] [] g (P) := by
  intro d
  induction d with
  | zero => intro s g f hd hs F c32 H; exfalso; omega
  | succ d ih =>
    intro s g f hd hs F c32 H
    have C2 := C.fr2 F (by omega)
    have e3 := C2.1
    have e27 := (F.2 27 (by omega)).trans d27
    have hn := hN.n
    have F0 : Fr 32 33 h g := F
    refine rk_iload rfl rfl ?_
    refine rk_aload_n rfl rfl ?_
    refine rk_get rfl (by assumption) rfl ?_
    refine rk_icmp_ge rfl rfl (fun hc11 => ?_) (fun hc11 => ?_)
    · replace hc11 := (nI_leI (by omega) (by omega)).mp hc11
      have hs2 : s = N 0 := by omega
      subst hs2
      exact z g f _ F c32 H
    · replace hc11 := mt (nI_leI (by omega) (by omega)).mpr hc11
      refine rk_aload_n rfl rfl ?_
      refine rk_aload_n rfl rfl ?_
      refine rk_iload_n rfl rfl ?_
      refine rk_iload rfl rfl ?_
      refine rk_iload_n rfl rfl ?_
      refine rk_iconst (v := nI 1) rfl (by decide) ?_
      refine rk_isub rfl (pk_sub (by omega)) ?_
      refine rk_cv4i rfl rfl (by assumption) rfl rfl (Nat.le_of_ble_eq_true rfl) (Nat.le_of_ble_eq_true rfl) (s67 hN C2 e27 c32 (by omega) H (by omega) hr (by omega)) (fun w h1 hF => ?_)
      obtain ⟨rfl, hw⟩ := hF
      have hp := wA_pos (N := N) (k := k - 1) (r := r) (s := s) (by omega)
      rw [show k - 1 + 1 = k by omega] at hp
      refine rk_iconst (v := (-1)) rfl (by decide) ?_
      refine rk_icmp_eq rfl rfl (fun hc21 => ?_) (fun hc21 => ?_)
      · have hz : ¬ 0 < wA N k (r * 14 + s) := fun y => by
          obtain ⟨t, t1, t2⟩ := hp.mp y
          rcases hw with ⟨-, y2⟩ | ⟨t', y1, y2, -⟩
          · exact y2 t t1 t2
          · exact nI_m1 (by have := hN.t; omega) (y2.symm.trans hc21)
        refine rk_iinc rfl rfl (n_inc _) rfl ?_
        refine rk_goto rfl rfl ?_
        first
          | exact ih (s + 1) _ _ (by omega) (by omega) F c32 (H.skip hz)
          | exact ih (s + 1) _ _ (by omega) (by omega) F0 c32 (H.put hz)
      · have hz : 0 < wA N k (r * 14 + s) := hp.mpr (by
          rcases hw with ⟨y2, -⟩ | ⟨t', y1, -, y2, -⟩
          · exact absurd y2 hc21
          · exact ⟨t', y1, y2⟩)
        refine rk_aload_n rfl rfl ?_
        refine rk_get rfl (by assumption) rfl ?_
        refine rk_aload_n rfl rfl ?_
        refine rk_iload_n rfl rfl ?_
        refine rk_iload rfl rfl ?_
        refine rk_cv2e rfl rfl (by assumption) rfl rfl (Nat.le_of_ble_eq_true rfl) (Nat.le_of_ble_eq_true rfl) (s50n) ?_
        refine rk_dup2 rfl ?_
        refine rk_lald rfl (by assumption) (rfl) (by omega) (by decide) ?_
        rw [H _ (by omega) (by omega)]
        refine rk_lconst (v := 1) rfl (by decide) ?_
        refine rk_iload_n rfl rfl ?_
        refine rk_lshl rfl (l_1shl (k := k) (by omega)) ?_
        refine rk_lor rfl (l_orU _ _) ?_
        refine rk_last rfl c32 (rfl) (by omega) (by decide) ?_
        refine hp_gen c32 (fun h1 g1 hk1 hl1 => ?_)
        replace e3 := (hk1 _ (by omega)).trans e3
        replace e27 := (hk1 _ (by omega)).trans e27
        replace F0 := F0.tr (Fr.mk1 hk1 hl1 (by omega) (by omega))
        replace c32 := g1
        refine rk_iinc rfl rfl (n_inc _) rfl ?_
        refine rk_goto rfl rfl ?_
        first
          | exact ih (s + 1) _ _ (by omega) (by omega) F c32 (H.skip hz)
          | exact ih (s + 1) _ _ (by omega) (by omega) F0 c32 (H.put hz)
theorem l66r {X : ai_X} {h : ai_H} {N : Nat → Nat} (hN : HN N) (C : CH h 3 N) (d27 : h[27]? = some cPa) {k : Nat} (hk1 : 1 ≤ k) (hk : k ≤ 40) : ∀ (d : Nat) (r : Nat) (g : ai_H) (f : Nat → Int64) (c4 : Option Value), N 0 < r + d → (r ≤ N 0) → (Fr 32 33 h g) → (g[32]? = some (cJ 196 f)) → (MA N f k (r * 14)) → Rk X am_66 2 [some (.ref 27), some (.ref 3), some (.int (nI k)), some (.int (nI r)), c4] [] g (Qv (fun h1 => Fr 32 33 h h1 ∧ ∃ f, h1[32]? = some (cJ 196 f) ∧ MA N f (k + 1) 0)) := by
  intro d
  induction d with
  | zero => intro r g f c4 hd hr F c32 H; exfalso; omega
  | succ d ih =>
    intro r g f c4 hd hr F c32 H
    have C2 := C.fr2 F (by omega)
    have e3 := C2.1
    have e27 := (F.2 27 (by omega)).trans d27
    have hn := hN.n
    have F0 : Fr 32 33 h g := F
    refine rk_iload_n rfl rfl ?_
    refine rk_aload_n rfl rfl ?_
    refine rk_get rfl (by assumption) rfl ?_
    refine rk_icmp_ge rfl rfl (fun hc5 => ?_) (fun hc5 => ?_)
    · replace hc5 := (nI_leI (by omega) (by omega)).mp hc5
      have hr2 : r = N 0 := by omega
      subst hr2
      exact rk_return rfl rfl ⟨_, rfl, F, f, c32, H.lev⟩
    · replace hc5 := mt (nI_leI (by omega) (by omega)).mpr hc5
      refine rk_iconst (v := nI 0) rfl (by decide) ?_
      refine rk_istore rfl (Nat.le_of_ble_eq_true rfl) rfl ?_
      refine l66s (h := h) hN C d27 hk1 hk (r := r) (by omega) (fun g2 f2 c4 F2 d32 H2 => ?_) (N 0 + 1) 0 g f (by omega) (Nat.zero_le _) F c32 H
      refine rk_iinc rfl rfl (n_inc _) rfl ?_
      refine rk_goto rfl rfl ?_
      exact ih (r + 1) g2 f2 _ (by omega) (by omega) F2 d32 (H2.row hn)
theorem s66 {X : ai_X} {h : ai_H} {N : Nat → Nat} (hN : HN N) (C : CH h 3 N) (d27 : h[27]? = some cPa) {k : Nat} (hk1 : 1 ≤ k) (hk : k ≤ 40) {f : Nat → Int64} (c32 : h[32]? = some (cJ 196 f)) (H : MA N f k 0) : Mt X am_66 [.ref 27, .ref 3, .int (nI k)] h (Qv (fun h1 => Fr 32 33 h h1 ∧ ∃ f, h1[32]? = some (cJ 196 f) ∧ MA N f (k + 1) 0)) := by
  refine rk_iconst (v := nI 0) rfl (by decide) ?_
  refine rk_istore_n rfl (Nat.le_of_ble_eq_true rfl) rfl ?_
  exact l66r hN C d27 hk1 hk (N 0 + 1) 0 h f _ (by omega) (Nat.zero_le _) Fr.rfl' c32 (by rw [Nat.zero_mul]; exact H)
