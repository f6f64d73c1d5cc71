/-! HOUSE: the class's reader: faults, words, numbers -/
theorem s70 {X : ai_X} {h : ai_H} {g : Nat → Int32} {k p : Int32} (e2 : h[2]? = some (cRead (.ref 1) g)) (hg0 : g 0 = 0) : Mt X am_70 [.ref 2, .int k, .int p] h (Qv (fun h1 => Fr 2 3 h h1 ∧ ∃ g1, h1[2]? = some (cRead (.ref 1) g1) ∧ g1 0 = k ∧ g1 1 = p ∧ ∀ j, j ≠ 0 → j ≠ 1 → g1 j = g j)) := by
  refine rk_aload_n rfl rfl ?_
  refine rk_get rfl (by assumption) rfl ?_
  refine rk_if_ne rfl rfl (fun hc2 => ?_) (fun hc2 => ?_)
  · exact absurd hg0 hc2
  · replace hc2 := Decidable.not_not.mp hc2
    refine rk_aload_n rfl rfl ?_
    refine rk_iload_n rfl rfl ?_
    refine rk_putR rfl e2 (f := 0) (by omega) (fun h1 g1 e2n w0 wo hk1 hl1 => ?_)
    have F0 : Fr 2 3 h h1 := Fr.mk1 hk1 hl1 (by omega) (by omega)
    refine rk_aload_n rfl rfl ?_
    refine rk_iload_n rfl rfl ?_
    refine rk_putR rfl e2n (f := 1) (by omega) (fun h2 g2 e3 w1 wp hk2 hl2 => ?_)
    exact rk_return rfl rfl ⟨_, rfl, F0.tr (Fr.mk1 hk2 hl2 (by omega) (by omega)), _, e3, (wp 0 (by omega)).trans w0, w1, fun j a c => (wp j c).trans (wo j a)⟩
/-- what is wrong with a token that should be of this sort -/
def sf (b : Nat → Nat) (n w p : Nat) : Nat := if tkd b n p = 14 then 1 else if ck (tkd b n p) = w then 0 else 2
theorem ck_4 {k : Nat} (h : k ≤ 14) : ck k = 4 ↔ k = 14 := by
  unfold ck
  split
  · omega
  · split
    · omega
    · split
      · omega
      · split <;> omega
theorem ck_le (k : Nat) : ck k ≤ 4 := by
  unfold ck
  split
  · omega
  · split
    · omega
    · split
      · omega
      · split <;> omega
theorem tkd_le {b : Nat → Nat} {n p : Nat} : tkd b n p ≤ 14 := by
  unfold tkd
  split
  · omega
  · split
    · have := kw_le b (ts b n p) (te b n p); omega
    · split
      · split <;> omega
      · split <;> omega
theorem ck_2 {k : Nat} : ck k = 2 ↔ k = 11 := by
  unfold ck
  split
  · omega
  · split
    · omega
    · split
      · omega
      · split <;> omega
theorem s74 {X : ai_X} {h : ai_H} {b : Nat → Nat} {n w p : Nat} {fp : Int32} (hw : w < 4) (R : RDT h b n 0 fp p) : Mt X am_74 [.ref 2, .int (nI w)] h (Qi (fun y h1 => Fr 2 3 h h1 ∧ if sf b n w p = 0 then y = nI 1 ∧ RDT h1 b n 0 fp p else y = 0 ∧ RDE h1 n (nI (sf b n w p)) (nI (ts b n p)) (te b n p))) := by
  obtain ⟨g, e2, hg0, hg1, hg3, hg4, hg5, hg6⟩ := R
  have k4 := ck_4 (tkd_le (b := b) (n := n) (p := p))
  have kl := ck_le (tkd b n p)
  refine rk_aload_n rfl rfl ?_
  refine rk_get rfl (by assumption) rfl ?_
  rw [hg4]
  refine rk_iconst (v := nI 4) rfl (by decide) ?_
  refine rk_icmp_ne rfl rfl (fun hc3 => ?_) (fun hc3 => ?_)
  · replace hc3 := mt (nI_eq (by omega) (by omega)).mpr hc3
    refine rk_aload_n rfl rfl ?_
    refine rk_get rfl (by assumption) rfl ?_
    rw [hg4]
    refine rk_iload_n rfl rfl ?_
    refine rk_icmp_eq rfl rfl (fun hc13 => ?_) (fun hc13 => ?_)
    · replace hc13 := (nI_eq (by omega) (by omega)).mp hc13
      have hs : sf b n w p = 0 := by rw [sf, if_neg (fun y => hc3 (k4.mpr y)), if_pos hc13]
      first
        | (refine rk_aload_n rfl rfl ?_
           refine rk_get rfl e3 rfl ?_
           rw [w0]
           refine rk_if_ne rfl rfl (fun hc21 => ?_) (fun hc21 => absurd hc21 (by decide))
           refine rk_iconst (v := 0) rfl (by decide) ?_
           exact rk_ireturn rfl rfl ⟨_, _, rfl, F1, by rw [if_neg (by omega), hs]; exact ⟨rfl, g1, e3, w0, w1, (wo 3 (by omega) (by omega)).trans hg3, (wo 6 (by omega) (by omega)).trans hg6⟩⟩)
        | (refine rk_aload_n rfl rfl ?_
           refine rk_get rfl e2 rfl ?_
           rw [hg0]
           refine rk_if_ne rfl rfl (fun hc21 => absurd rfl hc21) (fun hc21 => ?_)
           refine rk_iconst (v := nI 1) rfl (by decide) ?_
           refine rk_goto rfl rfl ?_
           exact rk_ireturn rfl rfl ⟨_, _, rfl, Fr.rfl', by rw [if_pos hs]; exact ⟨rfl, g, e2, hg0, hg1, hg3, hg4, hg5, hg6⟩⟩)
    · replace hc13 := mt (nI_eq (by omega) (by omega)).mpr hc13
      refine rk_aload_n rfl rfl ?_
      refine rk_iconst (v := nI 2) rfl (by decide) ?_
      refine rk_aload_n rfl rfl ?_
      refine rk_get rfl (by assumption) rfl ?_
      rw [hg5]
      refine rk_cv2v rfl rfl (by assumption) rfl rfl (Nat.le_of_ble_eq_true rfl) (Nat.le_of_ble_eq_true rfl) (s70 e2 hg0) (fun h1 hF => ?_)
      obtain ⟨F1, g1, e3, w0, w1, wo⟩ := hF
      have hs : sf b n w p = 2 := by rw [sf, if_neg (fun y => hc3 (k4.mpr y)), if_neg hc13]
      first
        | (refine rk_aload_n rfl rfl ?_
           refine rk_get rfl e3 rfl ?_
           rw [w0]
           refine rk_if_ne rfl rfl (fun hc21 => ?_) (fun hc21 => absurd hc21 (by decide))
           refine rk_iconst (v := 0) rfl (by decide) ?_
           exact rk_ireturn rfl rfl ⟨_, _, rfl, F1, by rw [if_neg (by omega), hs]; exact ⟨rfl, g1, e3, w0, w1, (wo 3 (by omega) (by omega)).trans hg3, (wo 6 (by omega) (by omega)).trans hg6⟩⟩)
        | (refine rk_aload_n rfl rfl ?_
           refine rk_get rfl e2 rfl ?_
           rw [hg0]
           refine rk_if_ne rfl rfl (fun hc21 => absurd rfl hc21) (fun hc21 => ?_)
           refine rk_iconst (v := nI 1) rfl (by decide) ?_
           refine rk_goto rfl rfl ?_
           exact rk_ireturn rfl rfl ⟨_, _, rfl, Fr.rfl', by rw [if_pos hs]; exact ⟨rfl, g, e2, hg0, hg1, hg3, hg4, hg5, hg6⟩⟩)
  · replace hc3 := Decidable.not_not.mp hc3
    replace hc3 := (nI_eq (by omega) (by omega)).mp hc3
    refine rk_aload_n rfl rfl ?_
    refine rk_iconst (v := nI 1) rfl (by decide) ?_
    refine rk_aload_n rfl rfl ?_
    refine rk_get rfl (by assumption) rfl ?_
    rw [hg5]
    refine rk_cv2v rfl rfl (by assumption) rfl rfl (Nat.le_of_ble_eq_true rfl) (Nat.le_of_ble_eq_true rfl) (s70 e2 hg0) (fun h1 hF => ?_)
    obtain ⟨F1, g1, e3, w0, w1, wo⟩ := hF
    have hs : sf b n w p = 1 := by rw [sf, if_pos (k4.mp hc3)]
    refine rk_goto rfl rfl ?_
    first
      | (refine rk_aload_n rfl rfl ?_
         refine rk_get rfl e3 rfl ?_
         rw [w0]
         refine rk_if_ne rfl rfl (fun hc21 => ?_) (fun hc21 => absurd hc21 (by decide))
         refine rk_iconst (v := 0) rfl (by decide) ?_
         exact rk_ireturn rfl rfl ⟨_, _, rfl, F1, by rw [if_neg (by omega), hs]; exact ⟨rfl, g1, e3, w0, w1, (wo 3 (by omega) (by omega)).trans hg3, (wo 6 (by omega) (by omega)).trans hg6⟩⟩)
      | (refine rk_aload_n rfl rfl ?_
         refine rk_get rfl e2 rfl ?_
         rw [hg0]
         refine rk_if_ne rfl rfl (fun hc21 => absurd rfl hc21) (fun hc21 => ?_)
         refine rk_iconst (v := nI 1) rfl (by decide) ?_
         refine rk_goto rfl rfl ?_
         exact rk_ireturn rfl rfl ⟨_, _, rfl, Fr.rfl', by rw [if_pos hs]; exact ⟨rfl, g, e2, hg0, hg1, hg3, hg4, hg5, hg6⟩⟩)
theorem l78 {X : ai_X} {h : ai_H} {b : Nat → Nat} {n p : Nat} {k : UInt32} {g : Nat → Int32} (Tp : TP h 1 b) (hn : n ≤ 600) (hp : p ≤ n) (hk : k.toNat < 10) (e2 : h[2]? = some (cRead (.ref 1) g)) (hg5 : g 5 = nI (ts b n p)) (hg6 : g 6 = nI (te b n p)) (hl : te b n p - ts b n p = wl k.toNat) (hl2 : ts b n p ≤ te b n p) (ht2 : te b n p ≤ n) : ∀ (d : Nat) (j : Nat), wl k.toNat < j + d → (j ≤ wl k.toNat) → (∀ i, i < j → b (ts b n p + i) = kc k.toNat i) → Rk X am_78 12 [some (.ref 2), some (.float k), some (.int (nI j))] [] h (Qe (bI (mtw b (ts b n p) (te b n p) k.toNat = true)) h) := by
  intro d
  induction d with
  | zero => intro j hd hj hb; exfalso; omega
  | succ d ih =>
    intro j hd hj hb
    obtain ⟨T, c1, hT⟩ := id Tp
    have hw8 := wl_le k.toNat (by omega)
    have hwe : ai_sl.getD k.toNat 0 = wl k.toNat := rfl
    refine rk_iload_n rfl rfl ?_
    refine rk_fload_n rfl rfl ?_
    refine rk_slen2 rfl (show k.toNat < 11 by omega) (Nat.le_of_ble_eq_true rfl) ?_
    refine rk_icmp_ge rfl rfl (fun hc15 => ?_) (fun hc15 => ?_)
    · replace hc15 := (nI_leI (by omega) (by omega)).mp hc15
      refine rk_iconst (v := nI 1) rfl (by decide) ?_
      exact rk_ireturn rfl rfl (Qe_of (by rw [bI_t (show mtw b (ts b n p) (te b n p) k.toNat = true from Bool.and_eq_true_iff.mpr ⟨decide_eq_true hl, alg_iff.mpr (fun i hi => decide_eq_true (hb i (by omega)))⟩)]; rfl))
    · replace hc15 := mt (nI_leI (by omega) (by omega)).mpr hc15
      refine rk_aload_n rfl rfl ?_
      refine rk_get rfl (by assumption) rfl ?_
      refine rk_aload_n rfl rfl ?_
      refine rk_get rfl (by assumption) rfl ?_
      rw [hg5]
      refine rk_iload_n rfl rfl ?_
      refine rk_iadd rfl (nI_add _ _) ?_
      refine rk_iald rfl (by assumption) (rfl) (by omega) (by decide) ?_
      rw [(hT (ts b n p + j) (by omega)).1]
      have ht8 := (hT (ts b n p + j) (by omega)).2
      refine rk_fload_n rfl rfl ?_
      refine rk_iload_n rfl rfl ?_
      refine rk_schr rfl (show k.toNat < 11 by omega) (Nat.le_of_ble_eq_true rfl) rfl (by omega) (by omega) ?_
      rw [(scQ k.toNat (by omega) j (by omega)).1]
      have hkc := (scQ k.toNat (by omega) j (by omega)).2
      refine rk_icmp_eq rfl rfl (fun hc26 => ?_) (fun hc26 => ?_)
      · replace hc26 := (nI_eq (by omega) (by omega)).mp hc26
        refine rk_iinc rfl rfl (n_inc _) rfl ?_
        refine rk_goto rfl rfl ?_
        exact ih (j + 1) (by omega) (by omega) (fun i hi => by
          by_cases q : i = j
          · subst q; exact hc26
          · exact hb i (by omega))
      · replace hc26 := mt (nI_eq (by omega) (by omega)).mpr hc26
        refine rk_iconst (v := nI 0) rfl (by decide) ?_
        exact rk_ireturn rfl rfl (Qe_of (by rw [bI_f (show ¬ mtw b (ts b n p) (te b n p) k.toNat = true from fun y => hc26 (of_decide_eq_true (alg_iff.mp (Bool.and_eq_true_iff.mp y).2 j (by omega))))]; rfl))
theorem s78 {X : ai_X} {h : ai_H} {b : Nat → Nat} {n p : Nat} {k : UInt32} {g : Nat → Int32} (Tp : TP h 1 b) (hn : n ≤ 600) (hp : p ≤ n) (hk : k.toNat < 10) (e2 : h[2]? = some (cRead (.ref 1) g)) (hg5 : g 5 = nI (ts b n p)) (hg6 : g 6 = nI (te b n p)) : Mt X am_78 [.ref 2, .float k] h (Qe (bI (mtw b (ts b n p) (te b n p) k.toNat = true)) h) := by
  obtain ⟨hl2, ht2, -⟩ := te_b (b := b) hp
  have hw8 := wl_le k.toNat (by omega)
  have hwe : ai_sl.getD k.toNat 0 = wl k.toNat := rfl
  refine rk_aload_n rfl rfl ?_
  refine rk_get rfl (by assumption) rfl ?_
  rw [hg6]
  refine rk_aload_n rfl rfl ?_
  refine rk_get rfl (by assumption) rfl ?_
  rw [hg5]
  refine rk_isub rfl (pk_sub (by omega)) ?_
  refine rk_fload_n rfl rfl ?_
  refine rk_slen2 rfl (show k.toNat < 11 by omega) (Nat.le_of_ble_eq_true rfl) ?_
  refine rk_icmp_eq rfl rfl (fun hc7 => ?_) (fun hc7 => ?_)
  · replace hc7 := (nI_eq (by omega) (by omega)).mp hc7
    refine rk_iconst (v := nI 0) rfl (by decide) ?_
    refine rk_istore_n rfl (Nat.le_of_ble_eq_true rfl) rfl ?_
    exact l78 Tp hn hp hk e2 hg5 hg6 hc7 hl2 ht2 (wl k.toNat + 1) 0 (by omega) (by omega) (fun i hi => absurd hi (by omega))
  · replace hc7 := mt (nI_eq (by omega) (by omega)).mpr hc7
    refine rk_iconst (v := nI 0) rfl (by decide) ?_
    exact rk_ireturn rfl rfl (Qe_of (by rw [bI_f (show ¬ mtw b (ts b n p) (te b n p) k.toNat = true from fun y => hc7 (of_decide_eq_true (Bool.and_eq_true_iff.mp y).1))]; rfl))
/-- a line's word -/
def lk (k : Nat) : Int32 := if k < 10 then nI k else -1
theorem s77 {X : ai_X} {h : ai_H} {b : Nat → Nat} {n p : Nat} {fp : Int32} (Tp : TP h 1 b) (hn : n ≤ 600) (hp : p ≤ n) (h10 : tkd b n p ≤ 10) (R : RDT h b n 0 fp p) : Mt X am_77 [.ref 2] h (Qe (lk (tkd b n p)) h) := by
  obtain ⟨g, e2, hg0, hg1, hg3, hg4, hg5, hg6⟩ := R
  have hk : tkd b n p = ffi (mtw b (ts b n p) (te b n p)) (10 - 0) 0 := by
    have h13 : ¬ n ≤ ts b n p := fun y => by have := tkd_13.mpr y; omega
    have hq := h10
    unfold tkd at hq ⊢
    rw [if_neg h13] at hq ⊢
    by_cases hl : isL (b (ts b n p)) = true
    · rw [if_pos hl]; rfl
    · rw [if_neg hl] at hq
      exfalso
      split at hq
      · split at hq <;> omega
      · split at hq <;> omega
  refine rk_aload_n rfl rfl ?_
  refine rk_ldcs (v := 0) rfl (by decide) ?_
  refine rk_cv1e rfl rfl (by assumption) rfl rfl (Nat.le_of_ble_eq_true rfl) (Nat.le_of_ble_eq_true rfl) (s78 Tp hn hp (by decide) e2 hg5 hg6) ?_
  refine rk_if_eq rfl rfl (fun hc3 => ?_) (fun hc3 => ?_)
  · replace hc3 := (bI_0).mp hc3
    replace hk := hk.trans (ffi_f (T := 10) (t := 0) (by omega) hc3)
    refine rk_aload_n rfl rfl ?_
    refine rk_ldcs (v := 1) rfl (by decide) ?_
    refine rk_cv1e rfl rfl (by assumption) rfl rfl (Nat.le_of_ble_eq_true rfl) (Nat.le_of_ble_eq_true rfl) (s78 Tp hn hp (by decide) e2 hg5 hg6) ?_
    refine rk_if_eq rfl rfl (fun hc9 => ?_) (fun hc9 => ?_)
    · replace hc9 := (bI_0).mp hc9
      replace hk := hk.trans (ffi_f (T := 10) (t := 1) (by omega) hc9)
      refine rk_aload_n rfl rfl ?_
      refine rk_ldcs (v := 2) rfl (by decide) ?_
      refine rk_cv1e rfl rfl (by assumption) rfl rfl (Nat.le_of_ble_eq_true rfl) (Nat.le_of_ble_eq_true rfl) (s78 Tp hn hp (by decide) e2 hg5 hg6) ?_
      refine rk_if_eq rfl rfl (fun hc15 => ?_) (fun hc15 => ?_)
      · replace hc15 := (bI_0).mp hc15
        replace hk := hk.trans (ffi_f (T := 10) (t := 2) (by omega) hc15)
        refine rk_aload_n rfl rfl ?_
        refine rk_ldcs (v := 3) rfl (by decide) ?_
        refine rk_cv1e rfl rfl (by assumption) rfl rfl (Nat.le_of_ble_eq_true rfl) (Nat.le_of_ble_eq_true rfl) (s78 Tp hn hp (by decide) e2 hg5 hg6) ?_
        refine rk_if_eq rfl rfl (fun hc21 => ?_) (fun hc21 => ?_)
        · replace hc21 := (bI_0).mp hc21
          replace hk := hk.trans (ffi_f (T := 10) (t := 3) (by omega) hc21)
          refine rk_aload_n rfl rfl ?_
          refine rk_ldcs (v := 4) rfl (by decide) ?_
          refine rk_cv1e rfl rfl (by assumption) rfl rfl (Nat.le_of_ble_eq_true rfl) (Nat.le_of_ble_eq_true rfl) (s78 Tp hn hp (by decide) e2 hg5 hg6) ?_
          refine rk_if_eq rfl rfl (fun hc27 => ?_) (fun hc27 => ?_)
          · replace hc27 := (bI_0).mp hc27
            replace hk := hk.trans (ffi_f (T := 10) (t := 4) (by omega) hc27)
            refine rk_aload_n rfl rfl ?_
            refine rk_ldcs (v := 5) rfl (by decide) ?_
            refine rk_cv1e rfl rfl (by assumption) rfl rfl (Nat.le_of_ble_eq_true rfl) (Nat.le_of_ble_eq_true rfl) (s78 Tp hn hp (by decide) e2 hg5 hg6) ?_
            refine rk_if_eq rfl rfl (fun hc33 => ?_) (fun hc33 => ?_)
            · replace hc33 := (bI_0).mp hc33
              replace hk := hk.trans (ffi_f (T := 10) (t := 5) (by omega) hc33)
              refine rk_aload_n rfl rfl ?_
              refine rk_ldcs (v := 6) rfl (by decide) ?_
              refine rk_cv1e rfl rfl (by assumption) rfl rfl (Nat.le_of_ble_eq_true rfl) (Nat.le_of_ble_eq_true rfl) (s78 Tp hn hp (by decide) e2 hg5 hg6) ?_
              refine rk_if_eq rfl rfl (fun hc39 => ?_) (fun hc39 => ?_)
              · replace hc39 := (bI_0).mp hc39
                replace hk := hk.trans (ffi_f (T := 10) (t := 6) (by omega) hc39)
                refine rk_aload_n rfl rfl ?_
                refine rk_ldcs (v := 7) rfl (by decide) ?_
                refine rk_cv1e rfl rfl (by assumption) rfl rfl (Nat.le_of_ble_eq_true rfl) (Nat.le_of_ble_eq_true rfl) (s78 Tp hn hp (by decide) e2 hg5 hg6) ?_
                refine rk_if_eq rfl rfl (fun hc45 => ?_) (fun hc45 => ?_)
                · replace hc45 := (bI_0).mp hc45
                  replace hk := hk.trans (ffi_f (T := 10) (t := 7) (by omega) hc45)
                  refine rk_aload_n rfl rfl ?_
                  refine rk_ldcs (v := 8) rfl (by decide) ?_
                  refine rk_cv1e rfl rfl (by assumption) rfl rfl (Nat.le_of_ble_eq_true rfl) (Nat.le_of_ble_eq_true rfl) (s78 Tp hn hp (by decide) e2 hg5 hg6) ?_
                  refine rk_if_eq rfl rfl (fun hc51 => ?_) (fun hc51 => ?_)
                  · replace hc51 := (bI_0).mp hc51
                    replace hk := hk.trans (ffi_f (T := 10) (t := 8) (by omega) hc51)
                    refine rk_aload_n rfl rfl ?_
                    refine rk_ldcs (v := 9) rfl (by decide) ?_
                    refine rk_cv1e rfl rfl (by assumption) rfl rfl (Nat.le_of_ble_eq_true rfl) (Nat.le_of_ble_eq_true rfl) (s78 Tp hn hp (by decide) e2 hg5 hg6) ?_
                    refine rk_if_eq rfl rfl (fun hc57 => ?_) (fun hc57 => ?_)
                    · replace hc57 := (bI_0).mp hc57
                      replace hk := hk.trans (ffi_f (T := 10) (t := 9) (by omega) hc57)
                      refine rk_iconst (v := (-1)) rfl (by decide) ?_
                      exact rk_ireturn rfl rfl (Qe_of (by rw [hk]; rfl))
                    · replace hc57 := Decidable.not_not.mp (mt bI_0.mpr hc57)
                      replace hk := hk.trans (ffi_t (T := 10) (t := 9) (by omega) hc57)
                      refine rk_bipush (v := nI 9) rfl (by decide) ?_
                      refine rk_goto rfl rfl ?_
                      exact rk_ireturn rfl rfl (Qe_of (by rw [hk]; rfl))
                  · replace hc51 := Decidable.not_not.mp (mt bI_0.mpr hc51)
                    replace hk := hk.trans (ffi_t (T := 10) (t := 8) (by omega) hc51)
                    refine rk_bipush (v := nI 8) rfl (by decide) ?_
                    exact rk_ireturn rfl rfl (Qe_of (by rw [hk]; rfl))
                · replace hc45 := Decidable.not_not.mp (mt bI_0.mpr hc45)
                  replace hk := hk.trans (ffi_t (T := 10) (t := 7) (by omega) hc45)
                  refine rk_bipush (v := nI 7) rfl (by decide) ?_
                  exact rk_ireturn rfl rfl (Qe_of (by rw [hk]; rfl))
              · replace hc39 := Decidable.not_not.mp (mt bI_0.mpr hc39)
                replace hk := hk.trans (ffi_t (T := 10) (t := 6) (by omega) hc39)
                refine rk_bipush (v := nI 6) rfl (by decide) ?_
                exact rk_ireturn rfl rfl (Qe_of (by rw [hk]; rfl))
            · replace hc33 := Decidable.not_not.mp (mt bI_0.mpr hc33)
              replace hk := hk.trans (ffi_t (T := 10) (t := 5) (by omega) hc33)
              refine rk_iconst (v := nI 5) rfl (by decide) ?_
              exact rk_ireturn rfl rfl (Qe_of (by rw [hk]; rfl))
          · replace hc27 := Decidable.not_not.mp (mt bI_0.mpr hc27)
            replace hk := hk.trans (ffi_t (T := 10) (t := 4) (by omega) hc27)
            refine rk_iconst (v := nI 4) rfl (by decide) ?_
            exact rk_ireturn rfl rfl (Qe_of (by rw [hk]; rfl))
        · replace hc21 := Decidable.not_not.mp (mt bI_0.mpr hc21)
          replace hk := hk.trans (ffi_t (T := 10) (t := 3) (by omega) hc21)
          refine rk_iconst (v := nI 3) rfl (by decide) ?_
          exact rk_ireturn rfl rfl (Qe_of (by rw [hk]; rfl))
      · replace hc15 := Decidable.not_not.mp (mt bI_0.mpr hc15)
        replace hk := hk.trans (ffi_t (T := 10) (t := 2) (by omega) hc15)
        refine rk_iconst (v := nI 2) rfl (by decide) ?_
        exact rk_ireturn rfl rfl (Qe_of (by rw [hk]; rfl))
    · replace hc9 := Decidable.not_not.mp (mt bI_0.mpr hc9)
      replace hk := hk.trans (ffi_t (T := 10) (t := 1) (by omega) hc9)
      refine rk_iconst (v := nI 1) rfl (by decide) ?_
      exact rk_ireturn rfl rfl (Qe_of (by rw [hk]; rfl))
  · replace hc3 := Decidable.not_not.mp (mt bI_0.mpr hc3)
    replace hk := hk.trans (ffi_t (T := 10) (t := 0) (by omega) hc3)
    refine rk_iconst (v := nI 0) rfl (by decide) ?_
    exact rk_ireturn rfl rfl (Qe_of (by rw [hk]; rfl))
theorem l80 {X : ai_X} {h : ai_H} {b : Nat → Nat} {n p : Nat} {g : Nat → Int32} {lo hi : Int32} (Tp : TP h 1 b) (hn : n ≤ 600) (e2 : h[2]? = some (cRead (.ref 1) g)) (hg6 : g 6 = nI (te b n p)) (ht2 : te b n p ≤ n) (h3 : te b n p - ts b n p ≤ 3) (hdg : ∀ j, ts b n p ≤ j → j < te b n p → isD (b j) = true) {P : ai_O → Prop} (z : Rk X am_80 35 [some (.ref 2), some (.int lo), some (.int hi), some (.int (nI (tv b n p))), some (.int (nI (te b n p)))] [] h P) : ∀ (d : Nat) (m : Nat), te b n p < ts b n p + m + d → (ts b n p + m ≤ te b n p) → Rk X am_80 18 [some (.ref 2), some (.int lo), some (.int hi), some (.int (nI (nval b (ts b n p) m))), some (.int (nI (ts b n p + m)))] [] h (P) := by
  intro d
  induction d with
  | zero => intro m hd hm; exfalso; omega
  | succ d ih =>
    intro m hd hm
    obtain ⟨T, c1, hT⟩ := id Tp
    refine rk_iload rfl rfl ?_
    refine rk_aload_n rfl rfl ?_
    refine rk_get rfl (by assumption) rfl ?_
    rw [hg6]
    refine rk_icmp_ge rfl rfl (fun hc21 => ?_) (fun hc21 => ?_)
    · replace hc21 := (nI_leI (by omega) (by omega)).mp hc21
      have hme : m = te b n p - ts b n p := by omega
      have hte : ts b n p + m = te b n p := by omega
      rw [hte, hme]
      exact z
    · replace hc21 := mt (nI_leI (by omega) (by omega)).mpr hc21
      refine rk_iload_n rfl rfl ?_
      refine rk_bipush (v := nI 10) rfl (by decide) ?_
      refine rk_imul rfl (pk_mul _ _) ?_
      refine rk_aload_n rfl rfl ?_
      refine rk_get rfl (by assumption) rfl ?_
      refine rk_iload rfl rfl ?_
      refine rk_iald rfl (by assumption) (rfl) (by omega) (by decide) ?_
      rw [(hT (ts b n p + m) (by omega)).1]
      have hdj := isD_b (hdg (ts b n p + m) (by omega) (by omega))
      have hnv := nval_lt (b := b) (s := ts b n p) m (fun j hj => hdg _ (by omega) (by omega))
      have hpm := p10 (show m ≤ 3 by omega)
      refine rk_iadd rfl (nI_add _ _) ?_
      refine rk_bipush (v := nI 48) rfl (by decide) ?_
      refine rk_isub rfl (pk_sub (by omega)) ?_
      refine rk_istore_n rfl (Nat.le_of_ble_eq_true rfl) rfl ?_
      refine rk_iinc rfl rfl (n_inc _) rfl ?_
      refine rk_goto rfl rfl ?_
      exact ih (m + 1) (by omega) (by omega)
theorem s80 {X : ai_X} {h : ai_H} {b : Nat → Nat} {n lo hi E : Nat} {fp : Int32} (Tp : TP h 1 b) (hn : n ≤ 600) (hE : E ≤ n) (hlo : lo ≤ 1000) (hhi : hi ≤ 1000) (R : RDE h n 0 fp E) : Mt X am_80 [.ref 2, .int (nI lo), .int (nI hi)] h (Qi (fun y h1 => Fr 2 3 h h1 ∧ if nf b n lo hi E = 0 then y = nI (tv b n E) ∧ RDT h1 b n 0 fp E else y = -1 ∧ RDE h1 n (nI (nf b n lo hi E)) (nI (ts b n E)) (te b n E))) := by
  obtain ⟨g, e2, hg0, -⟩ := id R
  obtain ⟨hl2, ht2, -⟩ := te_b (b := b) hE
  refine rk_aload_n rfl rfl ?_
  refine rk_get rfl (by assumption) rfl ?_
  rw [hg0]
  refine rk_if_eq rfl rfl (fun _ => ?_) (fun hc2 => absurd rfl hc2)
  refine rk_aload_n rfl rfl ?_
  refine rk_cv0v rfl rfl (by assumption) rfl rfl (Nat.le_of_ble_eq_true rfl) (Nat.le_of_ble_eq_true rfl) (s71 Tp hn hE R) (fun h1 hF => ?_)
  obtain ⟨F1, R1⟩ := hF
  have Tp1 := Tp.fr (F1.2 1 (by omega))
  obtain ⟨g, e2, hg0, hg1, hg3, hg4, hg5, hg6⟩ := id R1
  refine rk_aload_n rfl rfl ?_
  refine rk_iconst (v := nI 2) rfl (by decide) ?_
  refine rk_cv1i rfl rfl (by assumption) rfl rfl (Nat.le_of_ble_eq_true rfl) (Nat.le_of_ble_eq_true rfl) (s74 (by omega) R1) (fun w h1 hF => ?_)
  obtain ⟨F2, hF⟩ := hF
  replace F1 := F1.tr F2
  have Tp2 := Tp1.fr (F2.2 1 (by omega))
  
  by_cases hs : sf b n 2 E = 0
  · rw [if_pos hs] at hF
    obtain ⟨rfl, R2⟩ := hF
    obtain ⟨g, e2, hg0, hg1, hg3, hg4, hg5, hg6⟩ := id R2
    have hkd : tkd b n E = 11 := by
      unfold sf at hs
      split at hs
      · omega
      · split at hs
        · exact ck_2.mp (by assumption)
        · omega
    obtain ⟨h3, hdg⟩ := tkd_11 hE hkd
    have hnv := nval_lt (b := b) (s := ts b n E) (te b n E - ts b n E) (fun j hj => hdg _ (by omega) (by omega))
    have hpm := p10 h3
    have htv : tv b n E < 1000 := by unfold tv; omega
    refine rk_if_ne rfl rfl (fun _ => ?_) (fun y => absurd y (by decide))
    refine rk_iconst (v := nI 0) rfl (by decide) ?_
    refine rk_istore_n rfl (Nat.le_of_ble_eq_true rfl) rfl ?_
    refine rk_aload_n rfl rfl ?_
    refine rk_get rfl (by assumption) rfl ?_
    rw [hg5]
    refine rk_istore rfl (Nat.le_of_ble_eq_true rfl) rfl ?_
    refine l80 Tp2 hn e2 hg6 ht2 h3 hdg ?_ (te b n E + 1) 0 (by omega) (by omega)
    refine rk_iload_n rfl rfl ?_
    refine rk_iload_n rfl rfl ?_
    refine rk_icmp_lt rfl rfl (fun hc37 => ?_) (fun hc37 => ?_)
    · replace hc37 := (nI_ltI (by omega) (by omega)).mp hc37
      refine rk_aload_n rfl rfl ?_
      refine rk_iconst (v := nI 3) rfl (by decide) ?_
      refine rk_aload_n rfl rfl ?_
      refine rk_get rfl (by assumption) rfl ?_
      rw [hg5]
      refine rk_cv2v rfl rfl (by assumption) rfl rfl (Nat.le_of_ble_eq_true rfl) (Nat.le_of_ble_eq_true rfl) (s70 e2 hg0) (fun h1 hF => ?_)
      obtain ⟨F3, g1, e3, w0, w1, wo⟩ := hF
      refine rk_iconst (v := (-1)) rfl (by decide) ?_
      have hnf : nf b n lo hi E = 3 := by rw [nf, if_neg (by omega), if_neg (by omega), if_pos (by omega)]
      exact rk_ireturn rfl rfl ⟨_, _, rfl, F1.tr F3, by rw [hnf, if_neg (by decide)]; exact ⟨rfl, _, e3, w0, w1, (wo 3 (by omega) (by omega)).trans hg3, (wo 6 (by omega) (by omega)).trans hg6⟩⟩
    · replace hc37 := mt (nI_ltI (by omega) (by omega)).mpr hc37
      refine rk_iload_n rfl rfl ?_
      refine rk_iload_n rfl rfl ?_
      refine rk_icmp_le rfl rfl (fun hc40 => ?_) (fun hc40 => ?_)
      · replace hc40 := (nI_leI (by omega) (by omega)).mp hc40
        refine rk_iload_n rfl rfl ?_
        have hnf : nf b n lo hi E = 0 := nf_0.mpr ⟨hkd, by omega, by omega⟩
        exact rk_ireturn rfl rfl ⟨_, _, rfl, F1, by rw [if_pos hnf]; exact ⟨rfl, R2⟩⟩
      · replace hc40 := mt (nI_leI (by omega) (by omega)).mpr hc40
        refine rk_aload_n rfl rfl ?_
        refine rk_iconst (v := nI 3) rfl (by decide) ?_
        refine rk_aload_n rfl rfl ?_
        refine rk_get rfl (by assumption) rfl ?_
        rw [hg5]
        refine rk_cv2v rfl rfl (by assumption) rfl rfl (Nat.le_of_ble_eq_true rfl) (Nat.le_of_ble_eq_true rfl) (s70 e2 hg0) (fun h1 hF => ?_)
        obtain ⟨F3, g1, e3, w0, w1, wo⟩ := hF
        refine rk_iconst (v := (-1)) rfl (by decide) ?_
        have hnf : nf b n lo hi E = 3 := by rw [nf, if_neg (by omega), if_neg (by omega), if_pos (by omega)]
        exact rk_ireturn rfl rfl ⟨_, _, rfl, F1.tr F3, by rw [hnf, if_neg (by decide)]; exact ⟨rfl, _, e3, w0, w1, (wo 3 (by omega) (by omega)).trans hg3, (wo 6 (by omega) (by omega)).trans hg6⟩⟩
  · rw [if_neg hs] at hF
    obtain ⟨rfl, R2⟩ := hF
    have hnf : nf b n lo hi E = sf b n 2 E := by
      unfold sf at hs ⊢
      unfold nf
      by_cases q : tkd b n E = 14
      · rw [if_pos q, if_pos q]
      · rw [if_neg q] at hs ⊢
        rw [if_neg q]
        by_cases q2 : ck (tkd b n E) = 2
        · rw [if_pos q2] at hs; exact absurd rfl hs
        · rw [if_neg q2, if_pos (fun y => q2 (ck_2.mpr y))]
    refine rk_if_ne rfl rfl (fun y => absurd rfl y) (fun _ => ?_)
    refine rk_iconst (v := (-1)) rfl (by decide) ?_
    exact rk_ireturn rfl rfl ⟨_, _, rfl, F1, by rw [hnf, if_neg hs]; exact ⟨rfl, R2⟩⟩
theorem s80F {X : ai_X} {h : ai_H} {n E : Nat} {fk fp lo hi : Int32} (hfk : ¬ fk = 0) (R : RDE h n fk fp E) : Mt X am_80 [.ref 2, .int lo, .int hi] h (Qe (-1) h) := by
  obtain ⟨g, e2, hg0, -⟩ := id R
  refine rk_aload_n rfl rfl ?_
  refine rk_get rfl (by assumption) rfl ?_
  rw [hg0]
  refine rk_if_eq rfl rfl (fun hc2 => absurd hc2 hfk) (fun _ => ?_)
  refine rk_iconst (v := (-1)) rfl (by decide) ?_
  exact rk_ireturn rfl rfl Qe_mk
