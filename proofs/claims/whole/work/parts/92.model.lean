/-! HOUSE: the model's reader -/
section PUTO
variable {X : ai_X} {M : ai_M} {k : Nat} {ls : ai_L} {st : List Value} {h : ai_H} {P : ai_O → Prop}
theorem rk_putO {pc len f p q i : Nat} {v0 : Value} {v : Nat → Int32} {w : Int32} (hr : (ai_mR M)[k]? = some (pc, .putfield i, len, v0, 11, f, p, q)) (hh : h[52]? = some (cMdl v)) (hf : f = 0 ∨ f = 5 ∨ f = 6 ∨ f = 7 ∨ f = 8 ∨ f = 9 ∨ f = 10 ∨ f = 11 ∨ f = 12 ∨ f = 13 ∨ f = 14 ∨ f = 21 ∨ f = 22) (z : ∀ (h1 : ai_H) (v1 : Nat → Int32), h1[52]? = some (cMdl v1) → v1 f = w → (∀ j, j ≠ f → v1 j = v j) → (∀ q : Nat, q ≠ 52 → h1[q]? = h[q]?) → h1.length = h.length → Rk X M (k + 1) ls st h1 P) : Rk X M k ls (.int w :: .ref 52 :: st) h P :=
  rk_putM hr hh hf (fun h1 a c d => z h1 _ a (if_pos rfl) (fun j hj => if_neg hj) c d)
end PUTO
def see (b : Nat → Nat) (n i : Nat) : Int32 := if i < n then nI (b i) else -1
theorem see_eq {b : Nat → Nat} {n i c : Nat} (hb : i < n → b i < 256) (hc : c < 256) : see b n i = nI c ↔ i < n ∧ b i = c := by
  unfold see
  by_cases h : i < n
  · rw [if_pos h]
    have := hb h
    exact ⟨fun y => ⟨h, (nI_eq (by omega) (by omega)).mp y⟩, fun y => by rw [y.2]⟩
  · rw [if_neg h]
    refine ⟨fun y => ?_, fun y => absurd y.1 h⟩
    exfalso
    have h2 : (-1 : Int32) < 0 := by decide
    rw [y] at h2
    exact (n0_lt (show c < 2 ^ 31 by omega)).mp h2
theorem TP.lt {h : ai_H} {q : Nat} {b : Nat → Nat} {n i : Nat} (Tp : TP h q b) (hn : n ≤ 600) (hi : i < n) : b i < 256 := by
  obtain ⟨T, -, hT⟩ := Tp
  exact (hT i (by omega)).2
theorem s184 {X : ai_X} {h : ai_H} {b : Nat → Nat} {n : Nat} {v : Nat → Int32} (c0 : h[52]? = some (cMdl v)) (Tp : TP h 55 b) (hn : n ≤ 600) (v8 : v 8 = nI n) {i : Nat} (hi : i ≤ n) : Mt X am_184 [.ref 52, .int (nI i)] h (Qe (see b n i) h) := by
  obtain ⟨T, c1, hT⟩ := id Tp
  refine rk_iload_n rfl rfl ?_
  refine rk_aload_n rfl rfl ?_
  refine rk_get rfl (by assumption) rfl ?_
  rw [v8]
  refine rk_icmp_ge rfl rfl (fun hc3 => ?_) (fun hc3 => ?_)
  · replace hc3 := (nI_leI (by omega) (by omega)).mp hc3
    refine rk_iconst (v := (-1)) rfl (by decide) ?_
    first | exact rk_ireturn rfl rfl (Qe_of (by rw [see, if_pos (by omega)])) | exact rk_ireturn rfl rfl (Qe_of (by rw [see, if_neg (by omega)]))
  · replace hc3 := mt (nI_leI (by omega) (by omega)).mpr hc3
    refine rk_aload_n rfl rfl ?_
    refine rk_get rfl (by assumption) rfl ?_
    refine rk_iload_n rfl rfl ?_
    refine rk_iald rfl (by assumption) (rfl) (by omega) (by decide) ?_
    rw [(hT i (by omega)).1]
    refine rk_goto rfl rfl ?_
    first | exact rk_ireturn rfl rfl (Qe_of (by rw [see, if_pos (by omega)])) | exact rk_ireturn rfl rfl (Qe_of (by rw [see, if_neg (by omega)]))
theorem s185 {X : ai_X} {h : ai_H} {b : Nat → Nat} {n i : Nat} (hb : i < n → b i < 256) : Mt X am_185 [.int (see b n i)] h (Qe (bI (i < n ∧ isL (b i) = true)) h) := by
  unfold see
  by_cases hi : i < n
  · rw [if_pos hi]
    have hb1 := hb hi
    refine rk_iload_n rfl rfl ?_
    refine rk_bipush (v := nI 97) rfl (by decide) ?_
    refine rk_icmp_lt rfl rfl (fun hc2 => ?_) (fun hc2 => ?_)
    · replace hc2 := (nI_ltI (by omega) (by omega)).mp hc2
      refine rk_iconst (v := nI 0) rfl (by decide) ?_
      first | exact rk_ireturn rfl rfl (Qe_of (by rw [bI_t (show i < n ∧ isL (b i) = true from ⟨hi, decide_eq_true (by omega)⟩)]; rfl)) | exact rk_ireturn rfl rfl (Qe_of (by rw [bI_f (show ¬ (i < n ∧ isL (b i) = true) from fun y => by have := of_decide_eq_true y.2; omega)]; rfl))
    · replace hc2 := mt (nI_ltI (by omega) (by omega)).mpr hc2
      refine rk_iload_n rfl rfl ?_
      refine rk_bipush (v := nI 122) rfl (by decide) ?_
      refine rk_icmp_gt rfl rfl (fun hc5 => ?_) (fun hc5 => ?_)
      · replace hc5 := (nI_ltI (by omega) (by omega)).mp hc5
        refine rk_iconst (v := nI 0) rfl (by decide) ?_
        first | exact rk_ireturn rfl rfl (Qe_of (by rw [bI_t (show i < n ∧ isL (b i) = true from ⟨hi, decide_eq_true (by omega)⟩)]; rfl)) | exact rk_ireturn rfl rfl (Qe_of (by rw [bI_f (show ¬ (i < n ∧ isL (b i) = true) from fun y => by have := of_decide_eq_true y.2; omega)]; rfl))
      · replace hc5 := mt (nI_ltI (by omega) (by omega)).mpr hc5
        refine rk_iconst (v := nI 1) rfl (by decide) ?_
        refine rk_goto rfl rfl ?_
        first | exact rk_ireturn rfl rfl (Qe_of (by rw [bI_t (show i < n ∧ isL (b i) = true from ⟨hi, decide_eq_true (by omega)⟩)]; rfl)) | exact rk_ireturn rfl rfl (Qe_of (by rw [bI_f (show ¬ (i < n ∧ isL (b i) = true) from fun y => by have := of_decide_eq_true y.2; omega)]; rfl))
  · rw [if_neg hi]
    refine rk_iload_n rfl rfl ?_
    refine rk_bipush (v := nI 97) rfl (by decide) ?_
    refine rk_icmp_lt rfl rfl (fun hc2 => ?_) (fun hc2 => ?_)
    · refine rk_iconst (v := nI 0) rfl (by decide) ?_
      exact rk_ireturn rfl rfl (Qe_of (by rw [bI_f (show ¬ (i < n ∧ isL (b i) = true) from fun y => hi y.1)]; rfl))
    · exact absurd (by decide) hc2
theorem s186 {X : ai_X} {h : ai_H} {b : Nat → Nat} {n i : Nat} (hb : i < n → b i < 256) : Mt X am_186 [.int (see b n i)] h (Qe (bI (i < n ∧ isD (b i) = true)) h) := by
  unfold see
  by_cases hi : i < n
  · rw [if_pos hi]
    have hb1 := hb hi
    refine rk_iload_n rfl rfl ?_
    refine rk_bipush (v := nI 48) rfl (by decide) ?_
    refine rk_icmp_lt rfl rfl (fun hc2 => ?_) (fun hc2 => ?_)
    · replace hc2 := (nI_ltI (by omega) (by omega)).mp hc2
      refine rk_iconst (v := nI 0) rfl (by decide) ?_
      first | exact rk_ireturn rfl rfl (Qe_of (by rw [bI_t (show i < n ∧ isD (b i) = true from ⟨hi, decide_eq_true (by omega)⟩)]; rfl)) | exact rk_ireturn rfl rfl (Qe_of (by rw [bI_f (show ¬ (i < n ∧ isD (b i) = true) from fun y => by have := of_decide_eq_true y.2; omega)]; rfl))
    · replace hc2 := mt (nI_ltI (by omega) (by omega)).mpr hc2
      refine rk_iload_n rfl rfl ?_
      refine rk_bipush (v := nI 57) rfl (by decide) ?_
      refine rk_icmp_gt rfl rfl (fun hc5 => ?_) (fun hc5 => ?_)
      · replace hc5 := (nI_ltI (by omega) (by omega)).mp hc5
        refine rk_iconst (v := nI 0) rfl (by decide) ?_
        first | exact rk_ireturn rfl rfl (Qe_of (by rw [bI_t (show i < n ∧ isD (b i) = true from ⟨hi, decide_eq_true (by omega)⟩)]; rfl)) | exact rk_ireturn rfl rfl (Qe_of (by rw [bI_f (show ¬ (i < n ∧ isD (b i) = true) from fun y => by have := of_decide_eq_true y.2; omega)]; rfl))
      · replace hc5 := mt (nI_ltI (by omega) (by omega)).mpr hc5
        refine rk_iconst (v := nI 1) rfl (by decide) ?_
        refine rk_goto rfl rfl ?_
        first | exact rk_ireturn rfl rfl (Qe_of (by rw [bI_t (show i < n ∧ isD (b i) = true from ⟨hi, decide_eq_true (by omega)⟩)]; rfl)) | exact rk_ireturn rfl rfl (Qe_of (by rw [bI_f (show ¬ (i < n ∧ isD (b i) = true) from fun y => by have := of_decide_eq_true y.2; omega)]; rfl))
  · rw [if_neg hi]
    refine rk_iload_n rfl rfl ?_
    refine rk_bipush (v := nI 48) rfl (by decide) ?_
    refine rk_icmp_lt rfl rfl (fun hc2 => ?_) (fun hc2 => ?_)
    · refine rk_iconst (v := nI 0) rfl (by decide) ?_
      exact rk_ireturn rfl rfl (Qe_of (by rw [bI_f (show ¬ (i < n ∧ isD (b i) = true) from fun y => hi y.1)]; rfl))
    · exact absurd (by decide) hc2
def koff (i : Nat) : Nat := [1, 7, 13, 18, 25, 31, 35, 39, 44, 51].getD i 58
theorem kfac : ∀ i, i < 10 → koff i + wl i + 1 = koff (i + 1) ∧ koff i + wl i < 58 ∧ kc 10 (koff i + wl i) = 32 := by decide +kernel
set_option maxRecDepth 100000 in
theorem kfac2 : ∀ i, i < 10 → ∀ j, j < wl i → kc 10 (koff i + j) = kc i j ∧ ¬ kc i j = 32 := by decide +kernel
theorem sc10 {j : Nat} (hj : j < 58) : ai_sc (UInt32.toNat 10) j = nI (kc 10 j) := (scQ 10 (by decide) j hj).1
theorem kc10 {j : Nat} (hj : j < 58) : kc 10 j < 128 := (scQ 10 (by decide) j hj).2
theorem l187a {X : ai_X} {h : ai_H} {b : Nat → Nat} {n i s f : Nat} {v : Nat → Int32} (c0 : h[52]? = some (cMdl v)) (Tp : TP h 55 b) (hn : n ≤ 600) (v6 : v 6 = nI s) (v7 : v 7 = nI f) (hf : f ≤ n) (hi : i < 10) {P : ai_O → Prop} (z : ∀ m, m ≤ wl i → s + m ≤ f → (∀ j, j < m → b (s + j) = kc i j) → (m = wl i ∨ s + m = f ∨ (m < wl i ∧ s + m < f ∧ ¬ b (s + m) = kc i m)) → Rk X am_187 39 [some (.ref 52), some (.int (nI i)), some (.int (nI (koff i))), some (.int (nI m))] [] h P) : ∀ (d : Nat) (m : Nat), f < s + m + d → (m ≤ wl i) → (s + m ≤ f) → (∀ j, j < m → b (s + j) = kc i j) → Rk X am_187 10 [some (.ref 52), some (.int (nI i)), some (.int (nI (koff i))), some (.int (nI m))] [] h (P) := by
  intro d
  induction d with
  | zero => intro m hd hm hs hb; exfalso; omega
  | succ d ih =>
    intro m hd hm hs hb
    obtain ⟨k1, k2, k3⟩ := kfac i hi
    obtain ⟨T, c1, hT⟩ := id Tp
    refine rk_ldcs (v := 10) rfl (by decide) ?_
    refine rk_iload_n rfl rfl ?_
    refine rk_iload_n rfl rfl ?_
    refine rk_iadd rfl (nI_add _ _) ?_
    refine rk_schr (kk := 10) rfl (by decide) (Nat.le_of_ble_eq_true rfl) rfl (show koff i + m < 58 by omega) (by decide) ?_
    rw [sc10 (show koff i + m < 58 by omega)]
    have hkc14 := kc10 (show koff i + m < 58 by omega)
    refine rk_bipush (v := nI 32) rfl (by decide) ?_
    refine rk_icmp_eq rfl rfl (fun hc16 => ?_) (fun hc16 => ?_)
    · replace hc16 := (nI_eq (by omega) (by omega)).mp hc16
      refine z m hm hs hb ?_
      first
        | exact Or.inr (Or.inl (by omega))
        | exact Or.inr (Or.inr ⟨hmw, by omega, fun y => hc36 (y.trans (kfac2 i hi m hmw).1.symm)⟩)
        | (rcases Nat.lt_or_ge m (wl i) with q | q
           · exact absurd ((kfac2 i hi m q).1.symm.trans hc16) (kfac2 i hi m q).2
           · exact Or.inl (by omega))
    · replace hc16 := mt (nI_eq (by omega) (by omega)).mpr hc16
      have hmw : m < wl i := by
        rcases Nat.lt_or_ge m (wl i) with q | q
        · exact q
        · exfalso
          have : m = wl i := by omega
          subst this
          exact hc16 k3
      refine rk_aload_n rfl rfl ?_
      refine rk_get rfl (by assumption) rfl ?_
      rw [v6]
      refine rk_iload_n rfl rfl ?_
      refine rk_iadd rfl (nI_add _ _) ?_
      refine rk_aload_n rfl rfl ?_
      refine rk_get rfl (by assumption) rfl ?_
      rw [v7]
      refine rk_icmp_ge rfl rfl (fun hc23 => ?_) (fun hc23 => ?_)
      · replace hc23 := (nI_leI (by omega) (by omega)).mp hc23
        refine z m hm hs hb ?_
        first
          | exact Or.inr (Or.inl (by omega))
          | exact Or.inr (Or.inr ⟨hmw, by omega, fun y => hc36 (y.trans (kfac2 i hi m hmw).1.symm)⟩)
          | (rcases Nat.lt_or_ge m (wl i) with q | q
             · exact absurd ((kfac2 i hi m q).1.symm.trans hc16) (kfac2 i hi m q).2
             · exact Or.inl (by omega))
      · replace hc23 := mt (nI_leI (by omega) (by omega)).mpr hc23
        refine rk_aload_n rfl rfl ?_
        refine rk_get rfl (by assumption) rfl ?_
        refine rk_aload_n rfl rfl ?_
        refine rk_get rfl (by assumption) rfl ?_
        rw [v6]
        refine rk_iload_n rfl rfl ?_
        refine rk_iadd rfl (nI_add _ _) ?_
        refine rk_iald rfl (by assumption) (rfl) (by omega) (by decide) ?_
        rw [(hT (s + m) (by omega)).1]
        have ht8 := (hT (s + m) (by omega)).2
        refine rk_ldcs (v := 10) rfl (by decide) ?_
        refine rk_iload_n rfl rfl ?_
        refine rk_iload_n rfl rfl ?_
        refine rk_iadd rfl (nI_add _ _) ?_
        refine rk_schr (kk := 10) rfl (by decide) (Nat.le_of_ble_eq_true rfl) rfl (show koff i + m < 58 by omega) (by decide) ?_
        rw [sc10 (show koff i + m < 58 by omega)]
        have hkc35 := kc10 (show koff i + m < 58 by omega)
        refine rk_icmp_ne rfl rfl (fun hc36 => ?_) (fun hc36 => ?_)
        · replace hc36 := mt (nI_eq (by omega) (by omega)).mpr hc36
          refine z m hm hs hb ?_
          first
            | exact Or.inr (Or.inl (by omega))
            | exact Or.inr (Or.inr ⟨hmw, by omega, fun y => hc36 (y.trans (kfac2 i hi m hmw).1.symm)⟩)
            | (rcases Nat.lt_or_ge m (wl i) with q | q
               · exact absurd ((kfac2 i hi m q).1.symm.trans hc16) (kfac2 i hi m q).2
               · exact Or.inl (by omega))
        · replace hc36 := Decidable.not_not.mp hc36
          replace hc36 := (nI_eq (by omega) (by omega)).mp hc36
          refine rk_iinc rfl rfl (n_inc _) rfl ?_
          refine rk_goto rfl rfl ?_
          exact ih (m + 1) (by omega) (by omega) (by omega) (fun j hj => by
            by_cases q : j = m
            · subst q; exact hc36.trans (kfac2 i hi j (by omega)).1
            · exact hb j (by omega))
theorem l187b {X : ai_X} {h : ai_H} {i : Nat} {v : Nat → Int32} {o : Option Value} (c0 : h[52]? = some (cMdl v)) (hi : i < 10) {P : ai_O → Prop} (z : Rk X am_187 62 [some (.ref 52), some (.int (nI i)), some (.int (nI (koff i + wl i))), o] [] h P) : ∀ (d : Nat) (m : Nat), wl i < m + d → (m ≤ wl i) → Rk X am_187 55 [some (.ref 52), some (.int (nI i)), some (.int (nI (koff i + m))), o] [] h (P) := by
  intro d
  induction d with
  | zero => intro m hd hm; exfalso; omega
  | succ d ih =>
    intro m hd hm
    obtain ⟨k1, k2, k3⟩ := kfac i hi
    refine rk_ldcs (v := 10) rfl (by decide) ?_
    refine rk_iload_n rfl rfl ?_
    refine rk_schr (kk := 10) rfl (by decide) (Nat.le_of_ble_eq_true rfl) rfl (show koff i + m < 58 by omega) (by decide) ?_
    rw [sc10 (show koff i + m < 58 by omega)]
    have hkc57 := kc10 (show koff i + m < 58 by omega)
    refine rk_bipush (v := nI 32) rfl (by decide) ?_
    refine rk_icmp_eq rfl rfl (fun hc59 => ?_) (fun hc59 => ?_)
    · replace hc59 := (nI_eq (by omega) (by omega)).mp hc59
      have hmw : m = wl i := by
        rcases Nat.lt_or_ge m (wl i) with q | q
        · exact absurd ((kfac2 i hi m q).1.symm.trans hc59) (kfac2 i hi m q).2
        · omega
      subst hmw
      exact z
    · replace hc59 := mt (nI_eq (by omega) (by omega)).mpr hc59
      refine rk_iinc rfl rfl (n_inc _) rfl ?_
      refine rk_goto rfl rfl ?_
      exact ih (m + 1) (by omega) (by
        rcases Nat.lt_or_ge m (wl i) with q | q
        · omega
        · exfalso
          have : m = wl i := by omega
          subst this
          exact hc59 k3)
theorem l187 {X : ai_X} {h : ai_H} {b : Nat → Nat} {n s f : Nat} {v : Nat → Int32} (c0 : h[52]? = some (cMdl v)) (Tp : TP h 55 b) (hn : n ≤ 600) (v6 : v 6 = nI s) (v7 : v 7 = nI f) (hsf : s ≤ f) (hf : f ≤ n) : ∀ (d : Nat) (i : Nat) (o : Option Value), 10 < i + d → (i ≤ 10) → (kw b s f = ffi (mtw b s f) (10 - i) i) → Rk X am_187 4 [some (.ref 52), some (.int (nI i)), some (.int (nI (koff i))), o] [] h (Qe (nI (kw b s f)) h) := by
  intro d
  induction d with
  | zero => intro i o hd hi hk; exfalso; omega
  | succ d ih =>
    intro i o hd hi hk
    refine rk_iload_n rfl rfl ?_
    refine rk_ldcs (v := 10) rfl (by decide) ?_
    refine rk_slen2 (kk := 10) rfl (by decide) (Nat.le_of_ble_eq_true rfl) ?_
    rw [show ai_sl.getD (UInt32.toNat 10) 0 = 58 from rfl]
    have hkk : koff i ≤ 58 := by
      rcases Nat.lt_or_ge i 10 with q | q
      · have := (kfac i q).2.1; omega
      · rw [show i = 10 by omega]; decide
    refine rk_icmp_ge rfl rfl (fun hc7 => ?_) (fun hc7 => ?_)
    · replace hc7 := (nI_leI (by omega) (by omega)).mp hc7
      have hi10 : i = 10 := by
        rcases Nat.lt_or_ge i 10 with q | q
        · have := (kfac i q).2.1; omega
        · omega
      subst hi10
      refine rk_bipush (v := nI 10) rfl (by decide) ?_
      exact rk_ireturn rfl rfl (Qe_of (by rw [hk]; rfl))
    · replace hc7 := mt (nI_leI (by omega) (by omega)).mpr hc7
      have hi10 : i < 10 := by
        rcases Nat.lt_or_ge i 10 with q | q
        · exact q
        · exfalso
          rw [show i = 10 by omega] at hc7
          exact hc7 (by decide)
      obtain ⟨k1, k2, k3⟩ := kfac i hi10
      refine rk_iconst (v := nI 0) rfl (by decide) ?_
      refine rk_istore_n rfl (Nat.le_of_ble_eq_true rfl) rfl ?_
      refine l187a c0 Tp hn v6 v7 hf hi10 ?_ (f + 1) 0 (by omega) (by omega) (by omega) (fun j hj => absurd hj (by omega))
      intro m hm hs hb hor
      refine rk_ldcs (v := 10) rfl (by decide) ?_
      refine rk_iload_n rfl rfl ?_
      refine rk_iload_n rfl rfl ?_
      refine rk_iadd rfl (nI_add _ _) ?_
      refine rk_schr (kk := 10) rfl (by decide) (Nat.le_of_ble_eq_true rfl) rfl (show koff i + m < 58 by omega) (by decide) ?_
      rw [sc10 (show koff i + m < 58 by omega)]
      have hkc43 := kc10 (show koff i + m < 58 by omega)
      refine rk_bipush (v := nI 32) rfl (by decide) ?_
      refine rk_icmp_ne rfl rfl (fun hc45 => ?_) (fun hc45 => ?_)
      · replace hc45 := mt (nI_eq (by omega) (by omega)).mpr hc45
        have hnm : ¬ mtw b s f i = true := by
          intro y
          obtain ⟨y1, y2⟩ := Bool.and_eq_true_iff.mp y
          replace y1 := of_decide_eq_true y1
          rcases hor with q | q | ⟨q1, q2, q3⟩
          · subst q; first | exact hc45 k3 | omega
          · have hmw : m = wl i := by omega
            subst hmw; first | exact hc45 k3 | omega
          · exact q3 (of_decide_eq_true (alg_iff.mp y2 m q1))
        refine l187b c0 hi10 ?_ (wl i + 1) 0 (by omega) (by omega)
        refine rk_iinc rfl rfl (n_inc _) rfl ?_
        refine rk_iinc rfl rfl (n_inc _) rfl ?_
        refine rk_goto rfl rfl ?_
        rw [show koff i + wl i + 1 = koff (i + 1) from k1]
        exact ih (i + 1) _ (by omega) (by omega) (hk.trans (ffi_f (T := 10) (t := i) (by omega) hnm))
      · replace hc45 := Decidable.not_not.mp hc45
        replace hc45 := (nI_eq (by omega) (by omega)).mp hc45
        refine rk_aload_n rfl rfl ?_
        refine rk_get rfl (by assumption) rfl ?_
        rw [v6]
        refine rk_iload_n rfl rfl ?_
        refine rk_iadd rfl (nI_add _ _) ?_
        refine rk_aload_n rfl rfl ?_
        refine rk_get rfl (by assumption) rfl ?_
        rw [v7]
        refine rk_icmp_ne rfl rfl (fun hc52 => ?_) (fun hc52 => ?_)
        · replace hc52 := mt (nI_eq (by omega) (by omega)).mpr hc52
          have hnm : ¬ mtw b s f i = true := by
            intro y
            obtain ⟨y1, y2⟩ := Bool.and_eq_true_iff.mp y
            replace y1 := of_decide_eq_true y1
            rcases hor with q | q | ⟨q1, q2, q3⟩
            · subst q; first | exact hc45 k3 | omega
            · have hmw : m = wl i := by omega
              subst hmw; first | exact hc45 k3 | omega
            · exact q3 (of_decide_eq_true (alg_iff.mp y2 m q1))
          refine l187b c0 hi10 ?_ (wl i + 1) 0 (by omega) (by omega)
          refine rk_iinc rfl rfl (n_inc _) rfl ?_
          refine rk_iinc rfl rfl (n_inc _) rfl ?_
          refine rk_goto rfl rfl ?_
          rw [show koff i + wl i + 1 = koff (i + 1) from k1]
          exact ih (i + 1) _ (by omega) (by omega) (hk.trans (ffi_f (T := 10) (t := i) (by omega) hnm))
        · replace hc52 := Decidable.not_not.mp hc52
          replace hc52 := (nI_eq (by omega) (by omega)).mp hc52
          refine rk_iload_n rfl rfl ?_
          have hmw : m = wl i := by
            rcases Nat.lt_or_ge m (wl i) with q | q
            · exact absurd ((kfac2 i hi10 m q).1.symm.trans hc45) (kfac2 i hi10 m q).2
            · omega
          subst hmw
          exact rk_ireturn rfl rfl (Qe_of (by rw [hk, ffi_t (T := 10) (t := i) (by omega) (show mtw b s f i = true from Bool.and_eq_true_iff.mpr ⟨decide_eq_true (by omega), alg_iff.mpr (fun j hj => decide_eq_true (hb j hj))⟩)]))
theorem s187 {X : ai_X} {h : ai_H} {b : Nat → Nat} {n s f : Nat} {v : Nat → Int32} (c0 : h[52]? = some (cMdl v)) (Tp : TP h 55 b) (hn : n ≤ 600) (v6 : v 6 = nI s) (v7 : v 7 = nI f) (hsf : s ≤ f) (hf : f ≤ n) : Mt X am_187 [.ref 52] h (Qe (nI (kw b s f)) h) := by
  refine rk_iconst (v := nI 0) rfl (by decide) ?_
  refine rk_istore_n rfl (Nat.le_of_ble_eq_true rfl) rfl ?_
  refine rk_iconst (v := nI 1) rfl (by decide) ?_
  refine rk_istore_n rfl (Nat.le_of_ble_eq_true rfl) rfl ?_
  exact l187 c0 Tp hn v6 v7 hsf hf 11 0 _ (by omega) (by omega) rfl
/-- the model has read the token at p -/
def MDT (w : Nat → Int32) (b : Nat → Nat) (n p : Nat) : Prop := w 6 = nI (ts b n p) ∧ w 7 = nI (te b n p) ∧ w 9 = nI (tkd b n p) ∧ (tkd b n p = 11 → w 10 = nI (tv b n p))
/-- the fields that the reader does not touch -/
def MO (v w : Nat → Int32) : Prop := ∀ j, j ≠ 6 → j ≠ 7 → j ≠ 9 → j ≠ 10 → w j = v j
theorem MO.set {v w w1 : Nat → Int32} {f : Nat} (H : MO v w) (hf : f = 6 ∨ f = 7 ∨ f = 9 ∨ f = 10) (e : ∀ j, j ≠ f → w1 j = w j) : MO v w1 := fun j a c d f => (e j (by omega)).trans (H j a c d f)
theorem l188a {X : ai_X} {h : ai_H} {b : Nat → Nat} {n S : Nat} {v : Nat → Int32} (Tp0 : TP h 55 b) (hn : n ≤ 600) (v8 : v 8 = nI n) {P : ai_O → Prop} (z : ∀ (g : ai_H) (w : Nat → Int32), Fr 52 53 h g → g[52]? = some (cMdl w) → MO v w → w 6 = nI S → Rk X am_188 23 [some (.ref 52)] [] g P) : ∀ (d : Nat) (j : Nat) (g : ai_H) (w : Nat → Int32), n < j + d → (Fr 52 53 h g) → (g[52]? = some (cMdl w)) → (MO v w) → (j ≤ n) → (w 6 = nI j) → (fwd isB b n j = S) → Rk X am_188 4 [some (.ref 52)] [] g (P) := by
  intro d
  induction d with
  | zero => intro j g w hd F c0 ho hj w6 hS; exfalso; omega
  | succ d ih =>
    intro j g w hd F c0 ho hj w6 hS
    have Tp := Tp0.fr (F.2 55 (by omega))
    have w8 : w 8 = nI n := (ho 8 (by omega) (by omega) (by omega) (by omega)).trans v8
    have hlt : j < n → b j < 256 := fun y => Tp.lt hn y
    refine rk_aload_n rfl rfl ?_
    refine rk_aload_n rfl rfl ?_
    refine rk_get rfl (by assumption) rfl ?_
    rw [w6]
    refine rk_cv1e rfl rfl (by assumption) rfl rfl (Nat.le_of_ble_eq_true rfl) (Nat.le_of_ble_eq_true rfl) (s184 c0 Tp hn w8 hj) ?_
    refine rk_bipush (v := nI 10) rfl (by decide) ?_
    refine rk_icmp_eq rfl rfl (fun hc9 => ?_) (fun hc9 => ?_)
    · have hp : j < n ∧ isB (b j) = true := by
        first
          | (have q := (see_eq hlt (by omega)).mp hc9; exact ⟨q.1, decide_eq_true (Or.inl q.2)⟩)
          | (have q := (see_eq hlt (by omega)).mp hc15; exact ⟨q.1, decide_eq_true (Or.inr q.2)⟩)
      refine rk_aload_n rfl rfl ?_
      refine rk_dup_a rfl ?_
      refine rk_get rfl (by assumption) rfl ?_
      rw [w6]
      refine rk_iconst (v := nI 1) rfl (by decide) ?_
      refine rk_iadd rfl (nI_add _ _) ?_
      refine rk_putO rfl c0 (f := 6) (by omega) (fun g1 w1 c1 u6 wo hk1 hl1 => ?_)
      have F1 := F.tr (Fr.mk1 (b := 52) (c := 53) hk1 hl1 (by omega) (by omega))
      have ho1 := ho.set (by omega) wo
      refine rk_goto rfl rfl ?_
      rw [fwd_y hp.1 hp.2] at hS
      exact ih (j + 1) g1 w1 (by omega) F1 c1 ho1 (by omega) u6 hS
    · refine rk_aload_n rfl rfl ?_
      refine rk_aload_n rfl rfl ?_
      refine rk_get rfl (by assumption) rfl ?_
      rw [w6]
      refine rk_cv1e rfl rfl (by assumption) rfl rfl (Nat.le_of_ble_eq_true rfl) (Nat.le_of_ble_eq_true rfl) (s184 c0 Tp hn w8 hj) ?_
      refine rk_bipush (v := nI 32) rfl (by decide) ?_
      refine rk_icmp_ne rfl rfl (fun hc15 => ?_) (fun hc15 => ?_)
      · have hSj : S = j := by
          by_cases q : j < n
          · rw [fwd_n q (fun y => by
              rcases of_decide_eq_true y with y | y
              · exact hc9 ((see_eq hlt (by omega)).mpr ⟨q, y⟩)
              · exact hc15 ((see_eq hlt (by omega)).mpr ⟨q, y⟩))] at hS
            exact hS.symm
          · rw [fwd_e (by omega)] at hS; exact hS.symm
        subst hSj
        exact z g w F c0 ho w6
      · replace hc15 := Decidable.not_not.mp hc15
        have hp : j < n ∧ isB (b j) = true := by
          first
            | (have q := (see_eq hlt (by omega)).mp hc9; exact ⟨q.1, decide_eq_true (Or.inl q.2)⟩)
            | (have q := (see_eq hlt (by omega)).mp hc15; exact ⟨q.1, decide_eq_true (Or.inr q.2)⟩)
        refine rk_aload_n rfl rfl ?_
        refine rk_dup_a rfl ?_
        refine rk_get rfl (by assumption) rfl ?_
        rw [w6]
        refine rk_iconst (v := nI 1) rfl (by decide) ?_
        refine rk_iadd rfl (nI_add _ _) ?_
        refine rk_putO rfl c0 (f := 6) (by omega) (fun g1 w1 c1 u6 wo hk1 hl1 => ?_)
        have F1 := F.tr (Fr.mk1 (b := 52) (c := 53) hk1 hl1 (by omega) (by omega))
        have ho1 := ho.set (by omega) wo
        refine rk_goto rfl rfl ?_
        rw [fwd_y hp.1 hp.2] at hS
        exact ih (j + 1) g1 w1 (by omega) F1 c1 ho1 (by omega) u6 hS
theorem l188b {X : ai_X} {h : ai_H} {b : Nat → Nat} {n S : Nat} {v : Nat → Int32} (Tp0 : TP h 55 b) (hn : n ≤ 600) (v8 : v 8 = nI n) {s : Int32} {P : ai_O → Prop} (z : ∀ (g : ai_H) (w : Nat → Int32), Fr 52 53 h g → g[52]? = some (cMdl w) → MO v w → w 6 = s → w 7 = nI S → Rk X am_188 55 [some (.ref 52)] [] g P) : ∀ (d : Nat) (j : Nat) (g : ai_H) (w : Nat → Int32), n < j + d → (Fr 52 53 h g) → (g[52]? = some (cMdl w)) → (MO v w) → (j ≤ n) → (w 6 = s) → (w 7 = nI j) → (fwd isL b n j = S) → Rk X am_188 42 [some (.ref 52)] [] g (P) := by
  intro d
  induction d with
  | zero => intro j g w hd F c0 ho hj w6 w7 hS; exfalso; omega
  | succ d ih =>
    intro j g w hd F c0 ho hj w6 w7 hS
    have Tp := Tp0.fr (F.2 55 (by omega))
    have w8 : w 8 = nI n := (ho 8 (by omega) (by omega) (by omega) (by omega)).trans v8
    have hlt : j < n → b j < 256 := fun y => Tp.lt hn y
    refine rk_aload_n rfl rfl ?_
    refine rk_aload_n rfl rfl ?_
    refine rk_get rfl (by assumption) rfl ?_
    rw [w7]
    refine rk_cv1e rfl rfl (by assumption) rfl rfl (Nat.le_of_ble_eq_true rfl) (Nat.le_of_ble_eq_true rfl) (s184 c0 Tp hn w8 hj) ?_
    refine rk_cs1e rfl rfl rfl (Nat.le_of_ble_eq_true rfl) (Nat.le_of_ble_eq_true rfl) (s185 hlt) ?_
    refine rk_if_eq rfl rfl (fun hc47 => ?_) (fun hc47 => ?_)
    · replace hc47 := (bI_0).mp hc47
      have hSj : S = j := by
        by_cases q : j < n
        · rw [fwd_n q (fun y => hc47 ⟨q, y⟩)] at hS
          exact hS.symm
        · rw [fwd_e (by omega)] at hS; exact hS.symm
      subst hSj
      exact z g w F c0 ho w6 w7
    · replace hc47 := Decidable.not_not.mp (mt bI_0.mpr hc47)
      refine rk_aload_n rfl rfl ?_
      refine rk_dup_a rfl ?_
      refine rk_get rfl (by assumption) rfl ?_
      rw [w7]
      refine rk_iconst (v := nI 1) rfl (by decide) ?_
      refine rk_iadd rfl (nI_add _ _) ?_
      refine rk_putO rfl c0 (f := 7) (by omega) (fun g1 w1 c1 u7 wo hk1 hl1 => ?_)
      have F1 := F.tr (Fr.mk1 (b := 52) (c := 53) hk1 hl1 (by omega) (by omega))
      have ho1 := ho.set (by omega) wo
      refine rk_goto rfl rfl ?_
      rw [fwd_y hc47.1 hc47.2] at hS
      exact ih (j + 1) g1 w1 (by omega) F1 c1 ho1 (by omega) ((wo 6 (by omega)).trans w6) u7 hS
theorem l188c {X : ai_X} {h : ai_H} {b : Nat → Nat} {n S : Nat} {v : Nat → Int32} (Tp0 : TP h 55 b) (hn : n ≤ 600) (v8 : v 8 = nI n) {s : Nat} {P : ai_O → Prop} (z : ∀ (g : ai_H) (w : Nat → Int32), Fr 52 53 h g → g[52]? = some (cMdl w) → MO v w → w 6 = nI s → w 7 = nI S → (S - s ≤ 3 → w 10 = nI (nval b s (S - s))) → Rk X am_188 102 [some (.ref 52)] [] g P) : ∀ (d : Nat) (j : Nat) (g : ai_H) (w : Nat → Int32), n < j + d → (Fr 52 53 h g) → (g[52]? = some (cMdl w)) → (MO v w) → (j ≤ n) → (s ≤ j) → (w 6 = nI s) → (w 7 = nI j) → (j - s ≤ 3 → w 10 = nI (nval b s (j - s))) → (∀ i, s ≤ i → i < j → isD (b i) = true) → (fwd isD b n j = S) → Rk X am_188 69 [some (.ref 52)] [] g (P) := by
  intro d
  induction d with
  | zero => intro j g w hd F c0 ho hj hsj w6 w7 w10 hD hS; exfalso; omega
  | succ d ih =>
    intro j g w hd F c0 ho hj hsj w6 w7 w10 hD hS
    have Tp := Tp0.fr (F.2 55 (by omega))
    have w8 : w 8 = nI n := (ho 8 (by omega) (by omega) (by omega) (by omega)).trans v8
    have hlt : j < n → b j < 256 := fun y => Tp.lt hn y
    have hnv := nval_lt (b := b) (s := s) (j - s) (fun i hi => hD _ (by omega) (by omega))
    refine rk_aload_n rfl rfl ?_
    refine rk_aload_n rfl rfl ?_
    refine rk_get rfl (by assumption) rfl ?_
    rw [w7]
    refine rk_cv1e rfl rfl (by assumption) rfl rfl (Nat.le_of_ble_eq_true rfl) (Nat.le_of_ble_eq_true rfl) (s184 c0 Tp hn w8 hj) ?_
    refine rk_cs1e rfl rfl rfl (Nat.le_of_ble_eq_true rfl) (Nat.le_of_ble_eq_true rfl) (s186 hlt) ?_
    refine rk_if_eq rfl rfl (fun hc74 => ?_) (fun hc74 => ?_)
    · replace hc74 := (bI_0).mp hc74
      have hSj : S = j := by
        by_cases q : j < n
        · rw [fwd_n q (fun y => hc74 ⟨q, y⟩)] at hS
          exact hS.symm
        · rw [fwd_e (by omega)] at hS; exact hS.symm
      subst hSj
      exact z g w F c0 ho w6 w7 w10
    · replace hc74 := Decidable.not_not.mp (mt bI_0.mpr hc74)
      refine rk_aload_n rfl rfl ?_
      refine rk_get rfl (by assumption) rfl ?_
      rw [w7]
      refine rk_aload_n rfl rfl ?_
      refine rk_get rfl (by assumption) rfl ?_
      rw [w6]
      refine rk_isub rfl (pk_sub (by omega)) ?_
      refine rk_iconst (v := nI 3) rfl (by decide) ?_
      refine rk_icmp_ge rfl rfl (fun hc81 => ?_) (fun hc81 => ?_)
      · replace hc81 := (nI_leI (by omega) (by omega)).mp hc81
        refine rk_aload_n rfl rfl ?_
        refine rk_dup_a rfl ?_
        refine rk_get rfl (by assumption) rfl ?_
        rw [w7]
        refine rk_iconst (v := nI 1) rfl (by decide) ?_
        refine rk_iadd rfl (nI_add _ _) ?_
        refine rk_putO rfl c0 (f := 7) (by omega) (fun g2 w2 c2 u7 wo2 hk2 hl2 => ?_)
        have F2 := F.tr (Fr.mk1 (b := 52) (c := 53) hk2 hl2 (by omega) (by omega))
        have ho2 := ho.set (by omega) wo2
        refine rk_goto rfl rfl ?_
        rw [fwd_y hc74.1 hc74.2] at hS
        have hD2 : ∀ i, s ≤ i → i < j + 1 → isD (b i) = true := fun i a c => by
          by_cases q : i = j
          · rw [q]; exact hc74.2
          · exact hD i a (by omega)
        exact ih (j + 1) g2 w2 (by omega) F2 c2 ho2 (by omega) (by omega) ((wo2 6 (by omega)).trans w6) u7 (fun y => absurd y (by omega)) hD2 hS
      · replace hc81 := mt (nI_leI (by omega) (by omega)).mpr hc81
        refine rk_aload_n rfl rfl ?_
        refine rk_bipush (v := nI 10) rfl (by decide) ?_
        refine rk_aload_n rfl rfl ?_
        refine rk_get rfl (by assumption) rfl ?_
        rw [w10 (by omega)]
        have hpm := p10 (show j - s ≤ 3 by omega)
        refine rk_imul rfl (pk_mul _ _) ?_
        refine rk_aload_n rfl rfl ?_
        refine rk_aload_n rfl rfl ?_
        refine rk_get rfl (by assumption) rfl ?_
        rw [w7]
        refine rk_cv1e rfl rfl (by assumption) rfl rfl (Nat.le_of_ble_eq_true rfl) (Nat.le_of_ble_eq_true rfl) (s184 c0 Tp hn w8 hj) ?_
        rw [see, if_pos hc74.1]
        have hdj := isD_b hc74.2
        refine rk_iadd rfl (nI_add _ _) ?_
        refine rk_bipush (v := nI 48) rfl (by decide) ?_
        refine rk_isub rfl (pk_sub (by omega)) ?_
        refine rk_putO rfl c0 (f := 10) (by omega) (fun g1 w1 c1 u10 wo hk1 hl1 => ?_)
        have F1 := F.tr (Fr.mk1 (b := 52) (c := 53) hk1 hl1 (by omega) (by omega))
        have ho1 := ho.set (by omega) wo
        have c0b := c1
        refine rk_aload_n rfl rfl ?_
        refine rk_dup_a rfl ?_
        refine rk_get rfl (by assumption) rfl ?_
        rw [(wo 7 (by omega)).trans w7]
        refine rk_iconst (v := nI 1) rfl (by decide) ?_
        refine rk_iadd rfl (nI_add _ _) ?_
        refine rk_putO rfl c1 (f := 7) (by omega) (fun g2 w2 c2 u7 wo2 hk2 hl2 => ?_)
        have F2 := F1.tr (Fr.mk1 (b := 52) (c := 53) hk2 hl2 (by omega) (by omega))
        have ho2 := ho1.set (by omega) wo2
        refine rk_goto rfl rfl ?_
        rw [fwd_y hc74.1 hc74.2] at hS
        have hD2 : ∀ i, s ≤ i → i < j + 1 → isD (b i) = true := fun i a c => by
          by_cases q : i = j
          · rw [q]; exact hc74.2
          · exact hD i a (by omega)
        exact ih (j + 1) g2 w2 (by omega) F2 c2 ho2 (by omega) (by omega) ((wo2 6 (by omega)).trans ((wo 6 (by omega)).trans w6)) u7 (fun _ => ((wo2 10 (by omega)).trans u10).trans (by rw [show j + 1 - s = (j - s) + 1 by omega, nval, show s + (j - s) = j by omega, Nat.mul_comm])) hD2 hS
theorem s188 {X : ai_X} {h : ai_H} {b : Nat → Nat} {n : Nat} {v : Nat → Int32} (c0 : h[52]? = some (cMdl v)) (Tp : TP h 55 b) (hn : n ≤ 600) (v8 : v 8 = nI n) {E : Nat} (hE : E ≤ n) (v7 : v 7 = nI E) : Mt X am_188 [.ref 52] h (Qv (fun h1 => Fr 52 53 h h1 ∧ ∃ w, h1[52]? = some (cMdl w) ∧ MDT w b n E ∧ MO v w)) := by
  obtain ⟨ht1, ht2⟩ := ts_b (b := b) hE
  obtain ⟨hu1, hu2, hu3⟩ := te_b (b := b) hE
  have ho0 : MO v v := fun _ _ _ _ _ => rfl
  refine rk_aload_n rfl rfl ?_
  refine rk_aload_n rfl rfl ?_
  refine rk_get rfl (by assumption) rfl ?_
  rw [v7]
  refine rk_putO rfl c0 (f := 6) (by omega) (fun g1 w1 c1 u1 wo1 hk1 hl1 => ?_)
  have F1 := (Fr.rfl' (a := 52) (b := 53) (h := h)).tr (Fr.mk1 (b := 52) (c := 53) hk1 hl1 (by omega) (by omega))
  have ho1 := ho0.set (by omega) wo1
  refine l188a Tp hn v8 (S := ts b n E) (fun g w F c0 ho w6 => ?_) (n + 1) E g1 w1 (by omega) F1 c1 ho1 hE u1 rfl
  have w8 : w 8 = nI n := (ho 8 (by omega) (by omega) (by omega) (by omega)).trans v8
  have Tpg := Tp.fr (F.2 55 (by omega))
  have hlt : ts b n E < n → b (ts b n E) < 256 := fun y => Tpg.lt hn y
  refine rk_aload_n rfl rfl ?_
  refine rk_aload_n rfl rfl ?_
  refine rk_get rfl (by assumption) rfl ?_
  rw [w6]
  refine rk_putO rfl c0 (f := 7) (by omega) (fun g2 w2 c2 u2 wo2 hk2 hl2 => ?_)
  have F2 := F.tr (Fr.mk1 (b := 52) (c := 53) hk2 hl2 (by omega) (by omega))
  have ho2 := ho.set (by omega) wo2
  have x6 := (wo2 6 (by omega)).trans w6
  have x8 := (wo2 8 (by omega)).trans w8
  have Tp2 := Tp.fr (F2.2 55 (by omega))
  refine rk_aload_n rfl rfl ?_
  refine rk_get rfl (by assumption) rfl ?_
  rw [x6]
  refine rk_aload_n rfl rfl ?_
  refine rk_get rfl (by assumption) rfl ?_
  rw [x8]
  refine rk_icmp_lt rfl rfl (fun hc31 => ?_) (fun hc31 => ?_)
  · replace hc31 := (nI_ltI (by omega) (by omega)).mp hc31
    have hnd : ¬ n ≤ ts b n E := by omega
    refine rk_aload_n rfl rfl ?_
    refine rk_aload_n rfl rfl ?_
    refine rk_get rfl (by assumption) rfl ?_
    rw [x6]
    refine rk_cv1e rfl rfl (by assumption) rfl rfl (Nat.le_of_ble_eq_true rfl) (Nat.le_of_ble_eq_true rfl) (s184 c2 Tp2 hn x8 (by omega)) ?_
    refine rk_cs1e rfl rfl rfl (Nat.le_of_ble_eq_true rfl) (Nat.le_of_ble_eq_true rfl) (s185 hlt) ?_
    refine rk_if_eq rfl rfl (fun hc41 => ?_) (fun hc41 => ?_)
    · replace hc41 := (bI_0).mp hc41
      have hl2 : ¬ isL (b (ts b n E)) = true := fun y => hc41 ⟨by omega, y⟩
      refine rk_aload_n rfl rfl ?_
      refine rk_aload_n rfl rfl ?_
      refine rk_get rfl (by assumption) rfl ?_
      rw [x6]
      refine rk_cv1e rfl rfl (by assumption) rfl rfl (Nat.le_of_ble_eq_true rfl) (Nat.le_of_ble_eq_true rfl) (s184 c2 Tp2 hn x8 (by omega)) ?_
      refine rk_cs1e rfl rfl rfl (Nat.le_of_ble_eq_true rfl) (Nat.le_of_ble_eq_true rfl) (s186 hlt) ?_
      refine rk_if_eq rfl rfl (fun hc65 => ?_) (fun hc65 => ?_)
      · replace hc65 := (bI_0).mp hc65
        have hd2 : ¬ isD (b (ts b n E)) = true := fun y => hc65 ⟨by omega, y⟩
        have hte : te b n E = ts b n E + 1 := by rw [te, if_neg hnd, if_neg hl2, if_neg hd2]
        have hkd : tkd b n E = if b (ts b n E) = 59 then 12 else 14 := by rw [tkd, if_neg hnd, if_neg hl2, if_neg hd2]
        refine rk_aload_n rfl rfl ?_
        refine rk_dup_a rfl ?_
        refine rk_get rfl (by assumption) rfl ?_
        rw [u2]
        refine rk_iconst (v := nI 1) rfl (by decide) ?_
        refine rk_iadd rfl (nI_add _ _) ?_
        refine rk_putO rfl c2 (f := 7) (by omega) (fun g3 w3 c3 u3 wo3 hk3 hl3 => ?_)
        have F3 := F2.tr (Fr.mk1 (b := 52) (c := 53) hk3 hl3 (by omega) (by omega))
        have ho3 := ho2.set (by omega) wo3
        refine rk_aload_n rfl rfl ?_
        refine rk_aload_n rfl rfl ?_
        refine rk_aload_n rfl rfl ?_
        refine rk_get rfl (by assumption) rfl ?_
        rw [(wo3 6 (by omega)).trans x6]
        refine rk_cv1e rfl rfl (by assumption) rfl rfl (Nat.le_of_ble_eq_true rfl) (Nat.le_of_ble_eq_true rfl) (s184 c3 (Tp2.fr (hk3 55 (by omega))) hn ((wo3 8 (by omega)).trans x8) (by omega)) ?_
        rw [see, if_pos hc31]
        have hbl := hlt hc31
        refine rk_bipush (v := nI 59) rfl (by decide) ?_
        refine rk_icmp_ne rfl rfl (fun hc127 => ?_) (fun hc127 => ?_)
        · replace hc127 := mt (nI_eq (by omega) (by omega)).mpr hc127
          refine rk_bipush (v := nI 14) rfl (by decide) ?_
          refine rk_putO rfl c3 (f := 9) (by omega) (fun g4 w4 c4 u4 wo4 hk4 hl4 => ?_)
          have F4 := F3.tr (Fr.mk1 (b := 52) (c := 53) hk4 hl4 (by omega) (by omega))
          have ho4 := ho3.set (by omega) wo4
          first
            | (have hte : te b n E = ts b n E := by rw [te, if_pos hend]
               exact rk_return rfl rfl ⟨_, rfl, F3, _, c3, ⟨(wo3 6 (by omega)).trans x6, ((wo3 7 (by omega)).trans u2).trans (by rw [hte]), u3.trans (by rw [tkd_13.mpr hend]), fun y => absurd (y.symm.trans (tkd_13.mpr hend)) (by omega)⟩, ho3⟩)
            | (have hkd2 : tkd b n E = 12 ∨ tkd b n E = 14 := by rw [hkd]; split <;> omega
               exact rk_return rfl rfl ⟨_, rfl, F4, _, c4, ⟨(wo4 6 (by omega)).trans ((wo3 6 (by omega)).trans x6), ((wo4 7 (by omega)).trans u3).trans (by rw [hte]), u4.trans (by rw [hkd]; first | rw [if_pos (by omega)] | rw [if_neg (by omega)]), fun y => by omega⟩, ho4⟩)
        · replace hc127 := Decidable.not_not.mp hc127
          replace hc127 := (nI_eq (by omega) (by omega)).mp hc127
          refine rk_bipush (v := nI 12) rfl (by decide) ?_
          refine rk_goto rfl rfl ?_
          refine rk_putO rfl c3 (f := 9) (by omega) (fun g4 w4 c4 u4 wo4 hk4 hl4 => ?_)
          have F4 := F3.tr (Fr.mk1 (b := 52) (c := 53) hk4 hl4 (by omega) (by omega))
          have ho4 := ho3.set (by omega) wo4
          first
            | (have hte : te b n E = ts b n E := by rw [te, if_pos hend]
               exact rk_return rfl rfl ⟨_, rfl, F3, _, c3, ⟨(wo3 6 (by omega)).trans x6, ((wo3 7 (by omega)).trans u2).trans (by rw [hte]), u3.trans (by rw [tkd_13.mpr hend]), fun y => absurd (y.symm.trans (tkd_13.mpr hend)) (by omega)⟩, ho3⟩)
            | (have hkd2 : tkd b n E = 12 ∨ tkd b n E = 14 := by rw [hkd]; split <;> omega
               exact rk_return rfl rfl ⟨_, rfl, F4, _, c4, ⟨(wo4 6 (by omega)).trans ((wo3 6 (by omega)).trans x6), ((wo4 7 (by omega)).trans u3).trans (by rw [hte]), u4.trans (by rw [hkd]; first | rw [if_pos (by omega)] | rw [if_neg (by omega)]), fun y => by omega⟩, ho4⟩)
      · replace hc65 := Decidable.not_not.mp (mt bI_0.mpr hc65)
        have hte : te b n E = fwd isD b n (ts b n E) := by rw [te, if_neg hnd, if_neg hl2, if_pos hc65.2]
        have hkd : tkd b n E = if 3 < te b n E - ts b n E then 14 else 11 := by rw [tkd, if_neg hnd, if_neg hl2, if_pos hc65.2]
        refine rk_aload_n rfl rfl ?_
        refine rk_iconst (v := nI 0) rfl (by decide) ?_
        refine rk_putO rfl c2 (f := 10) (by omega) (fun g3 w3 c3 u3 wo3 hk3 hl3 => ?_)
        have F3 := F2.tr (Fr.mk1 (b := 52) (c := 53) hk3 hl3 (by omega) (by omega))
        have ho3 := ho2.set (by omega) wo3
        refine l188c Tp hn v8 (S := te b n E) (s := ts b n E) (fun g w F c0 ho w6 w7 w10 => ?_) (n + 1) (ts b n E) _ _ (by omega) F3 c3 ho3 (by omega) (by omega) ((wo3 6 (by omega)).trans x6) ((wo3 7 (by omega)).trans u2) (fun _ => u3.trans (by rw [Nat.sub_self]; rfl)) (fun i a c => absurd c (by omega)) hte.symm
        refine rk_aload_n rfl rfl ?_
        refine rk_aload_n rfl rfl ?_
        refine rk_get rfl (by assumption) rfl ?_
        rw [w7]
        refine rk_aload_n rfl rfl ?_
        refine rk_get rfl (by assumption) rfl ?_
        rw [w6]
        refine rk_isub rfl (pk_sub (by omega)) ?_
        refine rk_iconst (v := nI 3) rfl (by decide) ?_
        refine rk_icmp_le rfl rfl (fun hc109 => ?_) (fun hc109 => ?_)
        · replace hc109 := (nI_leI (by omega) (by omega)).mp hc109
          refine rk_bipush (v := nI 11) rfl (by decide) ?_
          refine rk_putO rfl c0 (f := 9) (by omega) (fun g5 w5 c5 u5 wo5 hk5 hl5 => ?_)
          have F5 := F.tr (Fr.mk1 (b := 52) (c := 53) hk5 hl5 (by omega) (by omega))
          have ho5 := ho.set (by omega) wo5
          refine rk_goto rfl rfl ?_
          first
            | (have hk11 : tkd b n E = 14 := by rw [hkd, if_pos (by omega)]
               exact rk_return rfl rfl ⟨_, rfl, F5, _, c5, ⟨(wo5 6 (by omega)).trans w6, (wo5 7 (by omega)).trans w7, u5.trans (by rw [hk11]), fun y => by omega⟩, ho5⟩)
            | (have hk11 : tkd b n E = 11 := by rw [hkd, if_neg (by omega)]
               exact rk_return rfl rfl ⟨_, rfl, F5, _, c5, ⟨(wo5 6 (by omega)).trans w6, (wo5 7 (by omega)).trans w7, u5.trans (by rw [hk11]), fun y => (wo5 10 (by omega)).trans (w10 (by omega))⟩, ho5⟩)
        · replace hc109 := mt (nI_leI (by omega) (by omega)).mpr hc109
          refine rk_bipush (v := nI 14) rfl (by decide) ?_
          refine rk_goto rfl rfl ?_
          refine rk_putO rfl c0 (f := 9) (by omega) (fun g5 w5 c5 u5 wo5 hk5 hl5 => ?_)
          have F5 := F.tr (Fr.mk1 (b := 52) (c := 53) hk5 hl5 (by omega) (by omega))
          have ho5 := ho.set (by omega) wo5
          refine rk_goto rfl rfl ?_
          first
            | (have hk11 : tkd b n E = 14 := by rw [hkd, if_pos (by omega)]
               exact rk_return rfl rfl ⟨_, rfl, F5, _, c5, ⟨(wo5 6 (by omega)).trans w6, (wo5 7 (by omega)).trans w7, u5.trans (by rw [hk11]), fun y => by omega⟩, ho5⟩)
            | (have hk11 : tkd b n E = 11 := by rw [hkd, if_neg (by omega)]
               exact rk_return rfl rfl ⟨_, rfl, F5, _, c5, ⟨(wo5 6 (by omega)).trans w6, (wo5 7 (by omega)).trans w7, u5.trans (by rw [hk11]), fun y => (wo5 10 (by omega)).trans (w10 (by omega))⟩, ho5⟩)
    · replace hc41 := Decidable.not_not.mp (mt bI_0.mpr hc41)
      have hte : te b n E = fwd isL b n (ts b n E) := by rw [te, if_neg hnd, if_pos hc41.2]
      have hkd : tkd b n E = kw b (ts b n E) (te b n E) := by rw [tkd, if_neg hnd, if_pos hc41.2]
      refine l188b Tp hn v8 (S := te b n E) (fun g w F c0 ho w6 w7 => ?_) (n + 1) (ts b n E) _ _ (by omega) F2 c2 ho2 (by omega) x6 u2 hte.symm
      refine rk_aload_n rfl rfl ?_
      refine rk_aload_n rfl rfl ?_
      refine rk_cv0e rfl rfl (by assumption) rfl rfl (Nat.le_of_ble_eq_true rfl) (Nat.le_of_ble_eq_true rfl) (s187 c0 (Tp.fr (F.2 55 (by omega))) hn w6 w7 hu1 hu2) ?_
      refine rk_putO rfl c0 (f := 9) (by omega) (fun g5 w5 c5 u5 wo5 hk5 hl5 => ?_)
      have F5 := F.tr (Fr.mk1 (b := 52) (c := 53) hk5 hl5 (by omega) (by omega))
      have ho5 := ho.set (by omega) wo5
      refine rk_goto rfl rfl ?_
      have := kw_le b (ts b n E) (te b n E)
      exact rk_return rfl rfl ⟨_, rfl, F5, _, c5, ⟨(wo5 6 (by omega)).trans w6, (wo5 7 (by omega)).trans w7, u5.trans (by rw [hkd]), fun y => by omega⟩, ho5⟩
  · replace hc31 := mt (nI_ltI (by omega) (by omega)).mpr hc31
    have hend : n ≤ ts b n E := by omega
    refine rk_aload_n rfl rfl ?_
    refine rk_bipush (v := nI 13) rfl (by decide) ?_
    refine rk_putO rfl c2 (f := 9) (by omega) (fun g3 w3 c3 u3 wo3 hk3 hl3 => ?_)
    have F3 := F2.tr (Fr.mk1 (b := 52) (c := 53) hk3 hl3 (by omega) (by omega))
    have ho3 := ho2.set (by omega) wo3
    refine rk_goto rfl rfl ?_
    first
      | (have hte : te b n E = ts b n E := by rw [te, if_pos hend]
         exact rk_return rfl rfl ⟨_, rfl, F3, _, c3, ⟨(wo3 6 (by omega)).trans x6, ((wo3 7 (by omega)).trans u2).trans (by rw [hte]), u3.trans (by rw [tkd_13.mpr hend]), fun y => absurd (y.symm.trans (tkd_13.mpr hend)) (by omega)⟩, ho3⟩)
      | (have hkd2 : tkd b n E = 12 ∨ tkd b n E = 14 := by rw [hkd]; split <;> omega
         exact rk_return rfl rfl ⟨_, rfl, F4, _, c4, ⟨(wo4 6 (by omega)).trans ((wo3 6 (by omega)).trans x6), ((wo4 7 (by omega)).trans u3).trans (by rw [hte]), u4.trans (by rw [hkd]; first | rw [if_pos (by omega)] | rw [if_neg (by omega)]), fun y => by omega⟩, ho4⟩)
